def q_X9_peek_42 (p1 : Int32) (p2 : Int32)  (Q : Int64 → Sto → Prop) (t0 : Int64) (S : Sto) : Prop := Q t0 S
set_option maxRecDepth 100000 in
set_option maxHeartbeats 4000000 in
theorem l_X9_peek_42 {g : Gv} (p1 : Int32) (p2 : Int32)  (Q : Int64 → Sto → Prop)   (t0 : Int64) (S : Sto)  (h : q_X9_peek_42 p1 p2  Q t0 S) : RJ g cX9_peek RX9 (some .long) 3 3 42 [(0, .ref (g.1 + 353)), (1, .int p1), (2, .int p2)] [.long t0] S (Ql Q) := by
  unfold q_X9_peek_42 at h
  exact J_lret dX9_peek_42 rfl ⟨_, rfl, h⟩
def q_X9_peek_39 (p1 : Int32) (p2 : Int32)  (Q : Int64 → Sto → Prop)  (S : Sto) : Prop := q_X9_peek_42 p1 p2  Q ((-9223372036854775808)) S
set_option maxRecDepth 100000 in
set_option maxHeartbeats 4000000 in
theorem l_X9_peek_39 {g : Gv} (p1 : Int32) (p2 : Int32)  (Q : Int64 → Sto → Prop)    (S : Sto)  (h : q_X9_peek_39 p1 p2  Q  S) : RJ g cX9_peek RX9 (some .long) 3 3 39 [(0, .ref (g.1 + 353)), (1, .int p1), (2, .int p2)] [] S (Ql Q) := by
  unfold q_X9_peek_39 at h
  refine J_ldc2 (v := (-9223372036854775808)) dX9_peek_39 tb_5_236  ?_
  exact l_X9_peek_42 p1 p2  _   _ _  h
def wp_X9_peek (p1 : Int32) (p2 : Int32) (S : Sto) (Q : Int64 → Sto → Prop) : Prop := wp_X9_isTape p1 S (fun r_2 S_1 => ((r_2 = 0 → q_X9_peek_39 p1 p2  Q  S_1) ∧ (¬ r_2 = 0 → vp_in p1 (6) ∧ (((S_1.1 362 (p1 : Int32).toNatClampNeg) < 0 → q_X9_peek_39 p1 p2  Q  S_1) ∧ (¬ (S_1.1 362 (p1 : Int32).toNatClampNeg) < 0 → wp_X9_hasItem p1 p2 S_1 (fun r_7 S_6 => ((r_7 = 0 → q_X9_peek_39 p1 p2  Q  S_6) ∧ (¬ r_7 = 0 → vp_in ((60 * p1) + p2) (360) ∧ q_X9_peek_42 p1 p2  Q (S_6.2 361 ((60 * p1) + p2 : Int32).toNatClampNeg) S_6))))))))
set_option maxRecDepth 100000 in
set_option maxHeartbeats 4000000 in
theorem c_X9_peek {g : Gv} (p1 : Int32) (p2 : Int32)  (S : Sto) (Q : Int64 → Sto → Prop) (h : wp_X9_peek p1 p2 S Q) : CT g yX9_peek cX9_peek 3 (some .long) 3 [.ref (g.1 + 353), .int p1, .int p2] S (Ql Q) := by
  unfold wp_X9_peek at h
  refine CT.of (by decide) (Nat.le_of_ble_eq_true rfl) ?_
  refine J_sub (lv' := [(0, .ref (g.1 + 353)), (1, .int p1), (2, .int p2)]) [0, 1, 2] rfl ?_
  refine J_iload_n dX9_peek_0 rfl 1 rfl  ?_
  refine J_callS (As := [.int p1]) (rest := []) (n := 1) dX9_peek_1 (c_X9_isTape p1  _ _ h) tb_6_96 tb_6_94 tb_1_8 tb_6_95 (by decide) rfl (by decide) (by decide) (Nat.le_of_ble_eq_true rfl) rfl (fun v_r_2 S_1 hq => ?_)
  obtain ⟨r_2, rfl, h⟩ := hq
  dsimp only [Option.toList, List.cons_append, List.nil_append]
  refine J_if_eq (tgt := 39) dX9_peek_4 (by decide) (fun c_3 => ?_) (fun c_3 => ?_)
  · have h := h.1 c_3
    exact l_X9_peek_39 p1 p2  _    _  h
  · have h := h.2 c_3
    refine J_aload_n dX9_peek_7 rfl 0 rfl  ?_
    refine J_getr (r := 362) (ci := 7) dX9_peek_8 17 rfl giX9 (by decide) (by decide) rfl rfl tb_4_128 (by decide) (by decide)  ?_
    refine J_iload_n dX9_peek_11 rfl 1 rfl  ?_
    obtain ⟨hi_4, h⟩ := h
    refine J_iald dX9_peek_12 (by decide) hi_4  ?_
    refine J_if_lt (tgt := 39) dX9_peek_13 (by decide) (fun c_5 => ?_) (fun c_5 => ?_)
    · have h := h.1 c_5
      exact l_X9_peek_39 p1 p2  _    _  h
    · have h := h.2 c_5
      refine J_aload_n dX9_peek_16 rfl 0 rfl  ?_
      refine J_iload_n dX9_peek_17 rfl 1 rfl  ?_
      refine J_iload_n dX9_peek_18 rfl 2 rfl  ?_
      refine J_callV (h := 353) (ci := 7) (As := [.int p1, .int p2]) (rest := []) (n := 2) dX9_peek_19 (c_X9_hasItem p1 p2  _ _ h) (by decide) rfl tb_6_121 tb_6_118 tb_1_8 tb_6_120 sl_65 (by decide) rfl (by decide) (by decide) (Nat.le_of_ble_eq_true rfl) rfl (fun v_r_7 S_6 hq => ?_)
      obtain ⟨r_7, rfl, h⟩ := hq
      dsimp only [Option.toList, List.cons_append, List.nil_append]
      refine J_if_eq (tgt := 39) dX9_peek_22 (by decide) (fun c_8 => ?_) (fun c_8 => ?_)
      · have h := h.1 c_8
        exact l_X9_peek_39 p1 p2  _    _  h
      · have h := h.2 c_8
        refine J_aload_n dX9_peek_25 rfl 0 rfl  ?_
        refine J_getr (r := 361) (ci := 7) dX9_peek_26 16 rfl giX9 (by decide) (by decide) rfl rfl tb_4_127 (by decide) (by decide)  ?_
        refine J_bipush (v := 60) dX9_peek_29 (by decide)  ?_
        refine J_iload_n dX9_peek_31 rfl 1 rfl  ?_
        refine J_imul dX9_peek_32  ?_
        refine J_iload_n dX9_peek_33 rfl 2 rfl  ?_
        refine J_iadd dX9_peek_34  ?_
        obtain ⟨hi_9, h⟩ := h
        refine J_lald dX9_peek_35 (by decide) hi_9  ?_
        refine J_goto (tgt := 42) dX9_peek_36 (by decide)  ?_
        exact l_X9_peek_42 p1 p2  _   _ _  h
def q_X9_shift_14 (p1 : Int32) (p2 : Int32) (p3 : Int32) (p4 : Int32) (p5 : Int32)  (Q : Int32 → Sto → Prop)  (S : Sto) : Prop := Q ((-1)) S
set_option maxRecDepth 100000 in
set_option maxHeartbeats 4000000 in
theorem l_X9_shift_14 {g : Gv} (p1 : Int32) (p2 : Int32) (p3 : Int32) (p4 : Int32) (p5 : Int32)  (Q : Int32 → Sto → Prop)    (S : Sto)  (h : q_X9_shift_14 p1 p2 p3 p4 p5  Q  S) : RJ g cX9_shift RX9 (some .int) 9 3 14 [(0, .ref (g.1 + 353)), (1, .int p1), (2, .int p2), (3, .int p3), (4, .int p4), (5, .int p5)] [] S (Qi Q) := by
  unfold q_X9_shift_14 at h
  refine J_iconst (v := (-1)) dX9_shift_14 (by decide)  ?_
  exact J_iret dX9_shift_15 rfl rfl ⟨_, rfl, h⟩
def q_X9_shift_34 (p1 : Int32) (p2 : Int32) (p3 : Int32) (p4 : Int32) (p5 : Int32)  (Q : Int32 → Sto → Prop)  (S : Sto) : Prop := Q ((-11)) S
set_option maxRecDepth 100000 in
set_option maxHeartbeats 4000000 in
theorem l_X9_shift_34 {g : Gv} (p1 : Int32) (p2 : Int32) (p3 : Int32) (p4 : Int32) (p5 : Int32)  (Q : Int32 → Sto → Prop)    (S : Sto)  (h : q_X9_shift_34 p1 p2 p3 p4 p5  Q  S) : RJ g cX9_shift RX9 (some .int) 9 3 34 [(0, .ref (g.1 + 353)), (1, .int p1), (2, .int p2), (3, .int p3), (4, .int p4), (5, .int p5)] [] S (Qi Q) := by
  unfold q_X9_shift_34 at h
  refine J_bipush (v := (-11)) dX9_shift_34 (by decide)  ?_
  exact J_iret dX9_shift_36 rfl rfl ⟨_, rfl, h⟩
def q_X9_shift_104 (p1 : Int32) (p2 : Int32) (p3 : Int32) (p4 : Int32) (p5 : Int32)  (Q : Int32 → Sto → Prop)  (S : Sto) : Prop := Q ((-13)) S
set_option maxRecDepth 100000 in
set_option maxHeartbeats 4000000 in
theorem l_X9_shift_104 {g : Gv} (p1 : Int32) (p2 : Int32) (p3 : Int32) (p4 : Int32) (p5 : Int32)  (Q : Int32 → Sto → Prop)    (S : Sto)  (h : q_X9_shift_104 p1 p2 p3 p4 p5  Q  S) : RJ g cX9_shift RX9 (some .int) 9 3 104 [(0, .ref (g.1 + 353)), (1, .int p1), (2, .int p2), (3, .int p3), (4, .int p4), (5, .int p5)] [] S (Qi Q) := by
  unfold q_X9_shift_104 at h
  refine J_bipush (v := (-13)) dX9_shift_104 (by decide)  ?_
  exact J_iret dX9_shift_106 rfl rfl ⟨_, rfl, h⟩
def q_X9_shift_157 (p1 : Int32) (p2 : Int32) (p3 : Int32) (p4 : Int32) (p5 : Int32) (R133 : Int32 → Int32 → Sto → Prop) (Q : Int32 → Sto → Prop) (x6 : Int32) (x7 : Int32) (t0 : Int32) (S : Sto) : Prop := vp_in (((60 * p1) + p2) + t0) (360) ∧ vp_in (((60 * p3) + p4) + t0) (360) ∧ ∀ S_3 : Sto, S_3 = uL S 361 (((60 * p3) + p4) + t0 : Int32).toNatClampNeg (S.2 361 (((60 * p1) + p2) + t0 : Int32).toNatClampNeg) → ∀ x7_4 : Int32, x7_4 = x7 + 1 → R133 x6 x7_4 S_3
set_option maxRecDepth 100000 in
set_option maxHeartbeats 4000000 in
theorem l_X9_shift_157 {g : Gv} (p1 : Int32) (p2 : Int32) (p3 : Int32) (p4 : Int32) (p5 : Int32) (R133 : Int32 → Int32 → Sto → Prop) (Q : Int32 → Sto → Prop) (hR133 : ∀ (y6 : Int32) (y7 : Int32) (S : Sto), R133 y6 y7 S → RJ g cX9_shift RX9 (some .int) 9 3 133 [(0, .ref (g.1 + 353)), (1, .int p1), (2, .int p2), (3, .int p3), (4, .int p4), (5, .int p5), (6, .int y6), (7, .int y7)] [] S (Qi Q))  (x6 : Int32) (x7 : Int32) (t0 : Int32) (S : Sto)  (h : q_X9_shift_157 p1 p2 p3 p4 p5 R133 Q x6 x7 t0 S) : RJ g cX9_shift RX9 (some .int) 9 3 157 [(0, .ref (g.1 + 353)), (1, .int p1), (2, .int p2), (3, .int p3), (4, .int p4), (5, .int p5), (6, .int x6), (7, .int x7)] [.int t0] S (Qi Q) := by
  unfold q_X9_shift_157 at h
  refine J_istore (lv' := [(0, .ref (g.1 + 353)), (1, .int p1), (2, .int p2), (3, .int p3), (4, .int p4), (5, .int p5), (6, .int x6), (7, .int x7), (8, .int t0)]) dX9_shift_157 (by decide) [1, 2, 3, 4, 5, 6, 7, 8, 0] rfl  ?_
  refine J_aload_n dX9_shift_159 rfl 0 rfl  ?_
  refine J_getr (r := 361) (ci := 7) dX9_shift_160 16 rfl giX9 (by decide) (by decide) rfl rfl tb_4_127 (by decide) (by decide)  ?_
  refine J_bipush (v := 60) dX9_shift_163 (by decide)  ?_
  refine J_iload_n dX9_shift_165 rfl 3 rfl  ?_
  refine J_imul dX9_shift_166  ?_
  refine J_iload dX9_shift_167 4 rfl  ?_
  refine J_iadd dX9_shift_169  ?_
  refine J_iload dX9_shift_170 8 rfl  ?_
  refine J_iadd dX9_shift_172  ?_
  refine J_aload_n dX9_shift_173 rfl 0 rfl  ?_
  refine J_getr (r := 361) (ci := 7) dX9_shift_174 16 rfl giX9 (by decide) (by decide) rfl rfl tb_4_127 (by decide) (by decide)  ?_
  refine J_bipush (v := 60) dX9_shift_177 (by decide)  ?_
  refine J_iload_n dX9_shift_179 rfl 1 rfl  ?_
  refine J_imul dX9_shift_180  ?_
  refine J_iload_n dX9_shift_181 rfl 2 rfl  ?_
  refine J_iadd dX9_shift_182  ?_
  refine J_iload dX9_shift_183 8 rfl  ?_
  refine J_iadd dX9_shift_185  ?_
  obtain ⟨hi_1, h⟩ := h
  refine J_lald dX9_shift_186 (by decide) hi_1  ?_
  obtain ⟨hi_2, h⟩ := h
  refine J_last dX9_shift_187 (by decide) hi_2  ?_
  refine J_nmS (fun S_3 eS_3 => ?_)
  have h := h S_3 eS_3
  obtain ⟨x7_4, ex7_4⟩ : ∃ y : Int32, y = x7 + 1 := ⟨_, rfl⟩
  have h := h x7_4 ex7_4
  refine J_iinc (v := x7_4) (lv' := [(0, .ref (g.1 + 353)), (1, .int p1), (2, .int p2), (3, .int p3), (4, .int p4), (5, .int p5), (6, .int x6), (7, .int x7_4), (8, .int t0)]) dX9_shift_188 (q := 7) rfl (by rw [ex7_4]; rfl) (by decide) [1, 2, 3, 4, 5, 6, 7, 0, 8] rfl  ?_
  refine J_goto (tgt := 133) dX9_shift_191 (by decide)  ?_
  refine J_sub (lv' := [(0, .ref (g.1 + 353)), (1, .int p1), (2, .int p2), (3, .int p3), (4, .int p4), (5, .int p5), (6, .int x6), (7, .int x7_4)]) [0, 1, 2, 3, 4, 5, 6, 7] rfl ?_
  exact hR133 _ _ _  h
def q_X9_shift_133 (p1 : Int32) (p2 : Int32) (p3 : Int32) (p4 : Int32) (p5 : Int32)  (Q : Int32 → Sto → Prop) : Nat → Int32 → Int32 → Sto → Prop
  | 0, _, _, _ => False
  | n + 1, x6, x7, S => ((p5 ≤ x7 → Q p5 S) ∧ (¬ p5 ≤ x7 → ((x6 = 0 → q_X9_shift_157 p1 p2 p3 p4 p5 (fun y6 y7 S => q_X9_shift_133 p1 p2 p3 p4 p5  Q n y6 y7 S) Q x6 x7 ((p5 - 1) - x7) S) ∧ (¬ x6 = 0 → q_X9_shift_157 p1 p2 p3 p4 p5 (fun y6 y7 S => q_X9_shift_133 p1 p2 p3 p4 p5  Q n y6 y7 S) Q x6 x7 x7 S))))
set_option maxRecDepth 100000 in
set_option maxHeartbeats 4000000 in
theorem l_X9_shift_133 {g : Gv} (p1 : Int32) (p2 : Int32) (p3 : Int32) (p4 : Int32) (p5 : Int32)  (Q : Int32 → Sto → Prop)   (n : Nat) : ∀ (x6 : Int32) (x7 : Int32) (S : Sto)  (h : q_X9_shift_133 p1 p2 p3 p4 p5  Q n x6 x7 S), RJ g cX9_shift RX9 (some .int) 9 3 133 [(0, .ref (g.1 + 353)), (1, .int p1), (2, .int p2), (3, .int p3), (4, .int p4), (5, .int p5), (6, .int x6), (7, .int x7)] [] S (Qi Q) := by
  induction n with
  | zero => intro x6 x7 S  h; exact h.elim
  | succ n ih =>
    intro x6 x7 S  h
    unfold q_X9_shift_133 at h
    refine J_iload dX9_shift_133 7 rfl  ?_
    refine J_iload dX9_shift_135 5 rfl  ?_
    refine J_icmp_ge (tgt := 194) dX9_shift_137 (by decide) (fun c_1 => ?_) (fun c_1 => ?_)
    · have h := h.1 c_1
      refine J_iload dX9_shift_194 5 rfl  ?_
      exact J_iret dX9_shift_196 rfl rfl ⟨_, rfl, h⟩
    · have h := h.2 c_1
      refine J_iload dX9_shift_140 6 rfl  ?_
      refine J_if_eq (tgt := 150) dX9_shift_142 (by decide) (fun c_2 => ?_) (fun c_2 => ?_)
      · have h := h.1 c_2
        refine J_iload dX9_shift_150 5 rfl  ?_
        refine J_iconst (v := 1) dX9_shift_152 (by decide)  ?_
        refine J_isub dX9_shift_153  ?_
        refine J_iload dX9_shift_154 7 rfl  ?_
        refine J_isub dX9_shift_156  ?_
        exact l_X9_shift_157 p1 p2 p3 p4 p5 _ _ (fun y6 y7 S  h => ih y6 y7 S  h)  _ _ _ _  h
      · have h := h.2 c_2
        refine J_iload dX9_shift_145 7 rfl  ?_
        refine J_goto (tgt := 157) dX9_shift_147 (by decide)  ?_
        exact l_X9_shift_157 p1 p2 p3 p4 p5 _ _ (fun y6 y7 S  h => ih y6 y7 S  h)  _ _ _ _  h
def q_X9_shift_128 (p1 : Int32) (p2 : Int32) (p3 : Int32) (p4 : Int32) (p5 : Int32)  (Q : Int32 → Sto → Prop) (t0 : Int32) (S : Sto) : Prop := (∃ n_133, q_X9_shift_133 p1 p2 p3 p4 p5  Q n_133 t0 0 S)
set_option maxRecDepth 100000 in
set_option maxHeartbeats 4000000 in
theorem l_X9_shift_128 {g : Gv} (p1 : Int32) (p2 : Int32) (p3 : Int32) (p4 : Int32) (p5 : Int32)  (Q : Int32 → Sto → Prop)   (t0 : Int32) (S : Sto)  (h : q_X9_shift_128 p1 p2 p3 p4 p5  Q t0 S) : RJ g cX9_shift RX9 (some .int) 9 3 128 [(0, .ref (g.1 + 353)), (1, .int p1), (2, .int p2), (3, .int p3), (4, .int p4), (5, .int p5)] [.int t0] S (Qi Q) := by
  unfold q_X9_shift_128 at h
  refine J_istore (lv' := [(0, .ref (g.1 + 353)), (1, .int p1), (2, .int p2), (3, .int p3), (4, .int p4), (5, .int p5), (6, .int t0)]) dX9_shift_128 (by decide) [1, 2, 3, 4, 5, 6, 0] rfl  ?_
  refine J_iconst (v := 0) dX9_shift_130 (by decide)  ?_
  refine J_istore (lv' := [(0, .ref (g.1 + 353)), (1, .int p1), (2, .int p2), (3, .int p3), (4, .int p4), (5, .int p5), (6, .int t0), (7, .int 0)]) dX9_shift_131 (by decide) [1, 2, 3, 4, 5, 6, 7, 0] rfl  ?_
  obtain ⟨n, h⟩ := h
  exact l_X9_shift_133 p1 p2 p3 p4 p5  _   n _ _ _  h
def wp_X9_shift (p1 : Int32) (p2 : Int32) (p3 : Int32) (p4 : Int32) (p5 : Int32) (S : Sto) (Q : Int32 → Sto → Prop) : Prop := wp_X9_isTape p1 S (fun r_2 S_1 => ((r_2 = 0 → q_X9_shift_14 p1 p2 p3 p4 p5  Q  S_1) ∧ (¬ r_2 = 0 → wp_X9_isTape p3 S_1 (fun r_5 S_4 => ((¬ r_5 = 0 → vp_in p1 (6) ∧ (((S_4.1 362 (p1 : Int32).toNatClampNeg) < 0 → q_X9_shift_34 p1 p2 p3 p4 p5  Q  S_4) ∧ (¬ (S_4.1 362 (p1 : Int32).toNatClampNeg) < 0 → vp_in p3 (6) ∧ ((0 ≤ (S_4.1 362 (p3 : Int32).toNatClampNeg) → vp_in p1 (6) ∧ vp_in p3 (6) ∧ (((S_4.1 362 (p1 : Int32).toNatClampNeg) = (S_4.1 362 (p3 : Int32).toNatClampNeg) → ((p5 < 0 → q_X9_shift_104 p1 p2 p3 p4 p5  Q  S_4) ∧ (¬ p5 < 0 → ((p2 < 0 → q_X9_shift_104 p1 p2 p3 p4 p5  Q  S_4) ∧ (¬ p2 < 0 → ((p4 < 0 → q_X9_shift_104 p1 p2 p3 p4 p5  Q  S_4) ∧ (¬ p4 < 0 → vp_in p1 (6) ∧ ((0 < (lg_cmp (((p2 : Int32).toInt64) + ((p5 : Int32).toInt64)) ((S_4.1 363 (p1 : Int32).toNatClampNeg : Int32).toInt64)) → q_X9_shift_104 p1 p2 p3 p4 p5  Q  S_4) ∧ (¬ 0 < (lg_cmp (((p2 : Int32).toInt64) + ((p5 : Int32).toInt64)) ((S_4.1 363 (p1 : Int32).toNatClampNeg : Int32).toInt64)) → vp_in p3 (6) ∧ (((lg_cmp (((p4 : Int32).toInt64) + ((p5 : Int32).toInt64)) ((S_4.1 363 (p3 : Int32).toNatClampNeg : Int32).toInt64)) ≤ 0 → ((((60 * p1) + p2) < ((60 * p3) + p4) → q_X9_shift_128 p1 p2 p3 p4 p5  Q 0 S_4) ∧ (¬ ((60 * p1) + p2) < ((60 * p3) + p4) → q_X9_shift_128 p1 p2 p3 p4 p5  Q 1 S_4))) ∧ (¬ (lg_cmp (((p4 : Int32).toInt64) + ((p5 : Int32).toInt64)) ((S_4.1 363 (p3 : Int32).toNatClampNeg : Int32).toInt64)) ≤ 0 → q_X9_shift_104 p1 p2 p3 p4 p5  Q  S_4))))))))))) ∧ (¬ (S_4.1 362 (p1 : Int32).toNatClampNeg) = (S_4.1 362 (p3 : Int32).toNatClampNeg) → Q ((-12)) S_4))) ∧ (¬ 0 ≤ (S_4.1 362 (p3 : Int32).toNatClampNeg) → q_X9_shift_34 p1 p2 p3 p4 p5  Q  S_4))))) ∧ (r_5 = 0 → q_X9_shift_14 p1 p2 p3 p4 p5  Q  S_4))))))
set_option maxRecDepth 100000 in
set_option maxHeartbeats 4000000 in
theorem c_X9_shift {g : Gv} (p1 : Int32) (p2 : Int32) (p3 : Int32) (p4 : Int32) (p5 : Int32)  (S : Sto) (Q : Int32 → Sto → Prop) (h : wp_X9_shift p1 p2 p3 p4 p5 S Q) : CT g yX9_shift cX9_shift 9 (some .int) 3 [.ref (g.1 + 353), .int p1, .int p2, .int p3, .int p4, .int p5] S (Qi Q) := by
  unfold wp_X9_shift at h
  refine CT.of (by decide) (Nat.le_of_ble_eq_true rfl) ?_
  refine J_sub (lv' := [(0, .ref (g.1 + 353)), (1, .int p1), (2, .int p2), (3, .int p3), (4, .int p4), (5, .int p5)]) [0, 1, 2, 3, 4, 5] rfl ?_
  refine J_iload_n dX9_shift_0 rfl 1 rfl  ?_
  refine J_callS (As := [.int p1]) (rest := []) (n := 1) dX9_shift_1 (c_X9_isTape p1  _ _ h) tb_6_96 tb_6_94 tb_1_8 tb_6_95 (by decide) rfl (by decide) (by decide) (Nat.le_of_ble_eq_true rfl) rfl (fun v_r_2 S_1 hq => ?_)
  obtain ⟨r_2, rfl, h⟩ := hq
  dsimp only [Option.toList, List.cons_append, List.nil_append]
  refine J_if_eq (tgt := 14) dX9_shift_4 (by decide) (fun c_3 => ?_) (fun c_3 => ?_)
  · have h := h.1 c_3
    exact l_X9_shift_14 p1 p2 p3 p4 p5  _    _  h
  · have h := h.2 c_3
    refine J_iload_n dX9_shift_7 rfl 3 rfl  ?_
    refine J_callS (As := [.int p3]) (rest := []) (n := 1) dX9_shift_8 (c_X9_isTape p3  _ _ h) tb_6_96 tb_6_94 tb_1_8 tb_6_95 (by decide) rfl (by decide) (by decide) (Nat.le_of_ble_eq_true rfl) rfl (fun v_r_5 S_4 hq => ?_)
    obtain ⟨r_5, rfl, h⟩ := hq
    dsimp only [Option.toList, List.cons_append, List.nil_append]
    refine J_if_ne (tgt := 16) dX9_shift_11 (by decide) (fun c_6 => ?_) (fun c_6 => ?_)
    · have h := h.1 c_6
      refine J_aload_n dX9_shift_16 rfl 0 rfl  ?_
      refine J_getr (r := 362) (ci := 7) dX9_shift_17 17 rfl giX9 (by decide) (by decide) rfl rfl tb_4_128 (by decide) (by decide)  ?_
      refine J_iload_n dX9_shift_20 rfl 1 rfl  ?_
      obtain ⟨hi_7, h⟩ := h
      refine J_iald dX9_shift_21 (by decide) hi_7  ?_
      refine J_if_lt (tgt := 34) dX9_shift_22 (by decide) (fun c_8 => ?_) (fun c_8 => ?_)
      · have h := h.1 c_8
        exact l_X9_shift_34 p1 p2 p3 p4 p5  _    _  h
      · have h := h.2 c_8
        refine J_aload_n dX9_shift_25 rfl 0 rfl  ?_
        refine J_getr (r := 362) (ci := 7) dX9_shift_26 17 rfl giX9 (by decide) (by decide) rfl rfl tb_4_128 (by decide) (by decide)  ?_
        refine J_iload_n dX9_shift_29 rfl 3 rfl  ?_
        obtain ⟨hi_9, h⟩ := h
        refine J_iald dX9_shift_30 (by decide) hi_9  ?_
        refine J_if_ge (tgt := 37) dX9_shift_31 (by decide) (fun c_10 => ?_) (fun c_10 => ?_)
        · have h := h.1 c_10
          refine J_aload_n dX9_shift_37 rfl 0 rfl  ?_
          refine J_getr (r := 362) (ci := 7) dX9_shift_38 17 rfl giX9 (by decide) (by decide) rfl rfl tb_4_128 (by decide) (by decide)  ?_
          refine J_iload_n dX9_shift_41 rfl 1 rfl  ?_
          obtain ⟨hi_11, h⟩ := h
          refine J_iald dX9_shift_42 (by decide) hi_11  ?_
          refine J_aload_n dX9_shift_43 rfl 0 rfl  ?_
          refine J_getr (r := 362) (ci := 7) dX9_shift_44 17 rfl giX9 (by decide) (by decide) rfl rfl tb_4_128 (by decide) (by decide)  ?_
          refine J_iload_n dX9_shift_47 rfl 3 rfl  ?_
          obtain ⟨hi_12, h⟩ := h
          refine J_iald dX9_shift_48 (by decide) hi_12  ?_
          refine J_icmp_eq (tgt := 55) dX9_shift_49 (by decide) (fun c_13 => ?_) (fun c_13 => ?_)
          · have h := h.1 c_13
            refine J_iload dX9_shift_55 5 rfl  ?_
            refine J_if_lt (tgt := 104) dX9_shift_57 (by decide) (fun c_14 => ?_) (fun c_14 => ?_)
            · have h := h.1 c_14
              exact l_X9_shift_104 p1 p2 p3 p4 p5  _    _  h
            · have h := h.2 c_14
              refine J_iload_n dX9_shift_60 rfl 2 rfl  ?_
              refine J_if_lt (tgt := 104) dX9_shift_61 (by decide) (fun c_15 => ?_) (fun c_15 => ?_)
              · have h := h.1 c_15
                exact l_X9_shift_104 p1 p2 p3 p4 p5  _    _  h
              · have h := h.2 c_15
                refine J_iload dX9_shift_64 4 rfl  ?_
                refine J_if_lt (tgt := 104) dX9_shift_66 (by decide) (fun c_16 => ?_) (fun c_16 => ?_)
                · have h := h.1 c_16
                  exact l_X9_shift_104 p1 p2 p3 p4 p5  _    _  h
                · have h := h.2 c_16
                  refine J_iload_n dX9_shift_69 rfl 2 rfl  ?_
                  refine J_i2l dX9_shift_70  ?_
                  refine J_iload dX9_shift_71 5 rfl  ?_
                  refine J_i2l dX9_shift_73  ?_
                  refine J_ladd dX9_shift_74  ?_
                  refine J_aload_n dX9_shift_75 rfl 0 rfl  ?_
                  refine J_getr (r := 363) (ci := 7) dX9_shift_76 18 rfl giX9 (by decide) (by decide) rfl rfl tb_4_129 (by decide) (by decide)  ?_
                  refine J_iload_n dX9_shift_79 rfl 1 rfl  ?_
                  obtain ⟨hi_17, h⟩ := h
                  refine J_iald dX9_shift_80 (by decide) hi_17  ?_
                  refine J_i2l dX9_shift_81  ?_
                  refine J_lcmp dX9_shift_82  ?_
                  refine J_if_gt (tgt := 104) dX9_shift_83 (by decide) (fun c_18 => ?_) (fun c_18 => ?_)
                  · have h := h.1 c_18
                    exact l_X9_shift_104 p1 p2 p3 p4 p5  _    _  h
                  · have h := h.2 c_18
                    refine J_iload dX9_shift_86 4 rfl  ?_
                    refine J_i2l dX9_shift_88  ?_
                    refine J_iload dX9_shift_89 5 rfl  ?_
                    refine J_i2l dX9_shift_91  ?_
                    refine J_ladd dX9_shift_92  ?_
                    refine J_aload_n dX9_shift_93 rfl 0 rfl  ?_
                    refine J_getr (r := 363) (ci := 7) dX9_shift_94 18 rfl giX9 (by decide) (by decide) rfl rfl tb_4_129 (by decide) (by decide)  ?_
                    refine J_iload_n dX9_shift_97 rfl 3 rfl  ?_
                    obtain ⟨hi_19, h⟩ := h
                    refine J_iald dX9_shift_98 (by decide) hi_19  ?_
                    refine J_i2l dX9_shift_99  ?_
                    refine J_lcmp dX9_shift_100  ?_
                    refine J_if_le (tgt := 107) dX9_shift_101 (by decide) (fun c_20 => ?_) (fun c_20 => ?_)
                    · have h := h.1 c_20
                      refine J_bipush (v := 60) dX9_shift_107 (by decide)  ?_
                      refine J_iload_n dX9_shift_109 rfl 1 rfl  ?_
                      refine J_imul dX9_shift_110  ?_
                      refine J_iload_n dX9_shift_111 rfl 2 rfl  ?_
                      refine J_iadd dX9_shift_112  ?_
                      refine J_bipush (v := 60) dX9_shift_113 (by decide)  ?_
                      refine J_iload_n dX9_shift_115 rfl 3 rfl  ?_
                      refine J_imul dX9_shift_116  ?_
                      refine J_iload dX9_shift_117 4 rfl  ?_
                      refine J_iadd dX9_shift_119  ?_
                      refine J_icmp_lt (tgt := 127) dX9_shift_120 (by decide) (fun c_21 => ?_) (fun c_21 => ?_)
                      · have h := h.1 c_21
                        refine J_iconst (v := 0) dX9_shift_127 (by decide)  ?_
                        exact l_X9_shift_128 p1 p2 p3 p4 p5  _   _ _  h
                      · have h := h.2 c_21
                        refine J_iconst (v := 1) dX9_shift_123 (by decide)  ?_
                        refine J_goto (tgt := 128) dX9_shift_124 (by decide)  ?_
                        exact l_X9_shift_128 p1 p2 p3 p4 p5  _   _ _  h
                    · have h := h.2 c_20
                      exact l_X9_shift_104 p1 p2 p3 p4 p5  _    _  h
          · have h := h.2 c_13
            refine J_bipush (v := (-12)) dX9_shift_52 (by decide)  ?_
            exact J_iret dX9_shift_54 rfl rfl ⟨_, rfl, h⟩
        · have h := h.2 c_10
          exact l_X9_shift_34 p1 p2 p3 p4 p5  _    _  h
    · have h := h.2 c_6
      exact l_X9_shift_14 p1 p2 p3 p4 p5  _    _  h
