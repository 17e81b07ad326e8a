def q_X9_rowAt_49 (p1 : Int32) (R4 : Int32 → Int32 → Sto → Prop) (Q : Int32 → Sto → Prop) (x2 : Int32) (x3 : Int32) (S : Sto) : Prop := ∀ x3_1 : Int32, x3_1 = x3 + 1 → R4 x2 x3_1 S
set_option maxRecDepth 100000 in
set_option maxHeartbeats 4000000 in
theorem l_X9_rowAt_49 {g : Gv} (p1 : Int32) (R4 : Int32 → Int32 → Sto → Prop) (Q : Int32 → Sto → Prop) (hR4 : ∀ (y2 : Int32) (y3 : Int32) (S : Sto), R4 y2 y3 S → RJ g cX9_rowAt RX9 (some .int) 4 1 4 [(0, .ref (g.1 + 353)), (1, .int p1), (2, .int y2), (3, .int y3)] [] S (Qi Q))  (x2 : Int32) (x3 : Int32) (S : Sto)  (h : q_X9_rowAt_49 p1 R4 Q x2 x3 S) : RJ g cX9_rowAt RX9 (some .int) 4 1 49 [(0, .ref (g.1 + 353)), (1, .int p1), (2, .int x2), (3, .int x3)] [] S (Qi Q) := by
  unfold q_X9_rowAt_49 at h
  obtain ⟨x3_1, ex3_1⟩ : ∃ y : Int32, y = x3 + 1 := ⟨_, rfl⟩
  have h := h x3_1 ex3_1
  refine J_iinc (v := x3_1) (lv' := [(0, .ref (g.1 + 353)), (1, .int p1), (2, .int x2), (3, .int x3_1)]) dX9_rowAt_49 (q := 3) rfl (by rw [ex3_1]; rfl) (by decide) [1, 2, 3, 0] rfl  ?_
  refine J_goto (tgt := 4) dX9_rowAt_52 (by decide)  ?_
  exact hR4 _ _ _  h
def q_X9_rowAt_4 (p1 : Int32)  (Q : Int32 → Sto → Prop) : Nat → Int32 → Int32 → Sto → Prop
  | 0, _, _, _ => False
  | n + 1, x2, x3, S => (((S.1 353 27) ≤ x3 → Q ((-1)) S) ∧ (¬ (S.1 353 27) ≤ x3 → vp_in x3 (256) ∧ vp_in (S.1 369 (x3 : Int32).toNatClampNeg) (256) ∧ ((0 ≤ (S.1 368 (S.1 369 (x3 : Int32).toNatClampNeg : Int32).toNatClampNeg) → ((¬ x2 = p1 → ∀ x2_6 : Int32, x2_6 = x2 + 1 → q_X9_rowAt_49 p1 (fun y2 y3 S => q_X9_rowAt_4 p1  Q n y2 y3 S) Q x2_6 x3 S) ∧ (x2 = p1 → vp_in x3 (256) ∧ vp_in (S.1 369 (x3 : Int32).toNatClampNeg) (256) ∧ Q (S.1 368 (S.1 369 (x3 : Int32).toNatClampNeg : Int32).toNatClampNeg) S))) ∧ (¬ 0 ≤ (S.1 368 (S.1 369 (x3 : Int32).toNatClampNeg : Int32).toNatClampNeg) → q_X9_rowAt_49 p1 (fun y2 y3 S => q_X9_rowAt_4 p1  Q n y2 y3 S) Q x2 x3 S))))
set_option maxRecDepth 100000 in
set_option maxHeartbeats 4000000 in
theorem l_X9_rowAt_4 {g : Gv} (p1 : Int32)  (Q : Int32 → Sto → Prop)   (n : Nat) : ∀ (x2 : Int32) (x3 : Int32) (S : Sto)  (h : q_X9_rowAt_4 p1  Q n x2 x3 S), RJ g cX9_rowAt RX9 (some .int) 4 1 4 [(0, .ref (g.1 + 353)), (1, .int p1), (2, .int x2), (3, .int x3)] [] S (Qi Q) := by
  induction n with
  | zero => intro x2 x3 S  h; exact h.elim
  | succ n ih =>
    intro x2 x3 S  h
    unfold q_X9_rowAt_4 at h
    refine J_iload_n dX9_rowAt_4 rfl 3 rfl  ?_
    refine J_aload_n dX9_rowAt_5 rfl 0 rfl  ?_
    refine J_geti (ci := 7) dX9_rowAt_6 27 rfl giX9 (by decide) (by decide) rfl rfl tb_4_138 rfl  ?_
    refine J_icmp_ge (tgt := 55) dX9_rowAt_9 (by decide) (fun c_1 => ?_) (fun c_1 => ?_)
    · have h := h.1 c_1
      refine J_iconst (v := (-1)) dX9_rowAt_55 (by decide)  ?_
      exact J_iret dX9_rowAt_56 rfl rfl ⟨_, rfl, h⟩
    · have h := h.2 c_1
      refine J_aload_n dX9_rowAt_12 rfl 0 rfl  ?_
      refine J_getr (r := 368) (ci := 7) dX9_rowAt_13 24 rfl giX9 (by decide) (by decide) rfl rfl tb_4_135 (by decide) (by decide)  ?_
      refine J_aload_n dX9_rowAt_16 rfl 0 rfl  ?_
      refine J_getr (r := 369) (ci := 7) dX9_rowAt_17 26 rfl giX9 (by decide) (by decide) rfl rfl tb_4_137 (by decide) (by decide)  ?_
      refine J_iload_n dX9_rowAt_20 rfl 3 rfl  ?_
      obtain ⟨hi_2, h⟩ := h
      refine J_iald dX9_rowAt_21 (by decide) hi_2  ?_
      obtain ⟨hi_3, h⟩ := h
      refine J_iald dX9_rowAt_22 (by decide) hi_3  ?_
      refine J_if_ge (tgt := 29) dX9_rowAt_23 (by decide) (fun c_4 => ?_) (fun c_4 => ?_)
      · have h := h.1 c_4
        refine J_iload_n dX9_rowAt_29 rfl 2 rfl  ?_
        refine J_iload_n dX9_rowAt_30 rfl 1 rfl  ?_
        refine J_icmp_ne (tgt := 46) dX9_rowAt_31 (by decide) (fun c_5 => ?_) (fun c_5 => ?_)
        · have h := h.1 c_5
          obtain ⟨x2_6, ex2_6⟩ : ∃ y : Int32, y = x2 + 1 := ⟨_, rfl⟩
          have h := h x2_6 ex2_6
          refine J_iinc (v := x2_6) (lv' := [(0, .ref (g.1 + 353)), (1, .int p1), (2, .int x2_6), (3, .int x3)]) dX9_rowAt_46 (q := 2) rfl (by rw [ex2_6]; rfl) (by decide) [1, 2, 0, 3] rfl  ?_
          exact l_X9_rowAt_49 p1 _ _ (fun y2 y3 S  h => ih y2 y3 S  h)  _ _ _  h
        · have h := h.2 c_5
          refine J_aload_n dX9_rowAt_34 rfl 0 rfl  ?_
          refine J_getr (r := 368) (ci := 7) dX9_rowAt_35 24 rfl giX9 (by decide) (by decide) rfl rfl tb_4_135 (by decide) (by decide)  ?_
          refine J_aload_n dX9_rowAt_38 rfl 0 rfl  ?_
          refine J_getr (r := 369) (ci := 7) dX9_rowAt_39 26 rfl giX9 (by decide) (by decide) rfl rfl tb_4_137 (by decide) (by decide)  ?_
          refine J_iload_n dX9_rowAt_42 rfl 3 rfl  ?_
          obtain ⟨hi_7, h⟩ := h
          refine J_iald dX9_rowAt_43 (by decide) hi_7  ?_
          obtain ⟨hi_8, h⟩ := h
          refine J_iald dX9_rowAt_44 (by decide) hi_8  ?_
          exact J_iret dX9_rowAt_45 rfl rfl ⟨_, rfl, h⟩
      · have h := h.2 c_4
        refine J_goto (tgt := 49) dX9_rowAt_26 (by decide)  ?_
        exact l_X9_rowAt_49 p1 _ _ (fun y2 y3 S  h => ih y2 y3 S  h)  _ _ _  h
def wp_X9_rowAt (p1 : Int32) (S : Sto) (Q : Int32 → Sto → Prop) : Prop := (∃ n_4, q_X9_rowAt_4 p1  Q n_4 0 0 S)
set_option maxRecDepth 100000 in
set_option maxHeartbeats 4000000 in
theorem c_X9_rowAt {g : Gv} (p1 : Int32)  (S : Sto) (Q : Int32 → Sto → Prop) (h : wp_X9_rowAt p1 S Q) : CT g yX9_rowAt cX9_rowAt 4 (some .int) 1 [.ref (g.1 + 353), .int p1] S (Qi Q) := by
  unfold wp_X9_rowAt at h
  refine CT.of (by decide) (Nat.le_of_ble_eq_true rfl) ?_
  refine J_sub (lv' := [(0, .ref (g.1 + 353)), (1, .int p1)]) [0, 1] rfl ?_
  refine J_iconst (v := 0) dX9_rowAt_0 (by decide)  ?_
  refine J_istore_n (lv' := [(0, .ref (g.1 + 353)), (1, .int p1), (2, .int 0)]) dX9_rowAt_1 rfl (by decide) [1, 2, 0] rfl  ?_
  refine J_iconst (v := 0) dX9_rowAt_2 (by decide)  ?_
  refine J_istore_n (lv' := [(0, .ref (g.1 + 353)), (1, .int p1), (2, .int 0), (3, .int 0)]) dX9_rowAt_3 rfl (by decide) [1, 2, 3, 0] rfl  ?_
  obtain ⟨n, h⟩ := h
  exact l_X9_rowAt_4 p1  _   n _ _ _  h
def q_X9_spans_188 (p1 : Int32) (R6 : Int32 → Sto → Prop) (R16 : Int32 → Int32 → Sto → Prop) (Q : Sto → Prop) (x2 : Int32) (x3 : Int32) (S : Sto) : Prop := ∀ x3_1 : Int32, x3_1 = x3 + 1 → R16 x2 x3_1 S
set_option maxRecDepth 100000 in
set_option maxHeartbeats 4000000 in
theorem l_X9_spans_188 {g : Gv} (p1 : Int32) (R6 : Int32 → Sto → Prop) (R16 : Int32 → Int32 → Sto → Prop) (Q : Sto → Prop) (hR6 : ∀ (y2 : Int32) (S : Sto), R6 y2 S → RJ g cX9_spans RX9 none 6 5 6 [(0, .ref (g.1 + 353)), (1, .int p1), (2, .int y2)] [] S (Qv Q)) (hR16 : ∀ (y2 : Int32) (y3 : Int32) (S : Sto), R16 y2 y3 S → RJ g cX9_spans RX9 none 6 5 16 [(0, .ref (g.1 + 353)), (1, .int p1), (2, .int y2), (3, .int y3)] [] S (Qv Q))  (x2 : Int32) (x3 : Int32) (S : Sto)  (h : q_X9_spans_188 p1 R6 R16 Q x2 x3 S) : RJ g cX9_spans RX9 none 6 5 188 [(0, .ref (g.1 + 353)), (1, .int p1), (2, .int x2), (3, .int x3)] [] S (Qv Q) := by
  unfold q_X9_spans_188 at h
  obtain ⟨x3_1, ex3_1⟩ : ∃ y : Int32, y = x3 + 1 := ⟨_, rfl⟩
  have h := h x3_1 ex3_1
  refine J_iinc (v := x3_1) (lv' := [(0, .ref (g.1 + 353)), (1, .int p1), (2, .int x2), (3, .int x3_1)]) dX9_spans_188 (q := 3) rfl (by rw [ex3_1]; rfl) (by decide) [1, 2, 3, 0] rfl  ?_
  refine J_goto (tgt := 16) dX9_spans_191 (by decide)  ?_
  exact hR16 _ _ _  h
def q_X9_spans_127 (p1 : Int32) (R6 : Int32 → Sto → Prop) (R16 : Int32 → Int32 → Sto → Prop) (R89 : Int32 → Int32 → Int32 → Sto → Prop) (Q : Sto → Prop) : Nat → Int32 → Int32 → Int32 → Int32 → Sto → Prop
  | 0, _, _, _, _, _ => False
  | n + 1, x2, x3, x4, x5, S => ((16 ≤ x5 → wp_X9_unit 371 x4 S (fun S_2 => wp_X9_multiply 371 0 372 0 S_2 (fun S_4 => wp_X9_takesMade  S_4 (fun S_6 => ∀ x4_8 : Int32, x4_8 = x4 + 1 → R89 x2 x3 x4_8 S_6)))) ∧ (¬ 16 ≤ x5 → vp_in x5 (16) ∧ vp_in x5 (16) ∧ ∀ S_11 : Sto, S_11 = uA S 372 (x5 : Int32).toNatClampNeg (S.1 373 (x5 : Int32).toNatClampNeg) → ∀ x5_12 : Int32, x5_12 = x5 + 1 → q_X9_spans_127 p1 R6 R16 R89 Q n x2 x3 x4 x5_12 S_11))
set_option maxRecDepth 100000 in
set_option maxHeartbeats 4000000 in
theorem l_X9_spans_127 {g : Gv} (p1 : Int32) (R6 : Int32 → Sto → Prop) (R16 : Int32 → Int32 → Sto → Prop) (R89 : Int32 → Int32 → Int32 → Sto → Prop) (Q : Sto → Prop) (hR6 : ∀ (y2 : Int32) (S : Sto), R6 y2 S → RJ g cX9_spans RX9 none 6 5 6 [(0, .ref (g.1 + 353)), (1, .int p1), (2, .int y2)] [] S (Qv Q)) (hR16 : ∀ (y2 : Int32) (y3 : Int32) (S : Sto), R16 y2 y3 S → RJ g cX9_spans RX9 none 6 5 16 [(0, .ref (g.1 + 353)), (1, .int p1), (2, .int y2), (3, .int y3)] [] S (Qv Q)) (hR89 : ∀ (y2 : Int32) (y3 : Int32) (y4 : Int32) (S : Sto), R89 y2 y3 y4 S → RJ g cX9_spans RX9 none 6 5 89 [(0, .ref (g.1 + 353)), (1, .int p1), (2, .int y2), (3, .int y3), (4, .int y4)] [] S (Qv Q))  (n : Nat) : ∀ (x2 : Int32) (x3 : Int32) (x4 : Int32) (x5 : Int32) (S : Sto)  (h : q_X9_spans_127 p1 R6 R16 R89 Q n x2 x3 x4 x5 S), RJ g cX9_spans RX9 none 6 5 127 [(0, .ref (g.1 + 353)), (1, .int p1), (2, .int x2), (3, .int x3), (4, .int x4), (5, .int x5)] [] S (Qv Q) := by
  induction n with
  | zero => intro x2 x3 x4 x5 S  h; exact h.elim
  | succ n ih =>
    intro x2 x3 x4 x5 S  h
    unfold q_X9_spans_127 at h
    refine J_iload dX9_spans_127 5 rfl  ?_
    refine J_bipush (v := 16) dX9_spans_129 (by decide)  ?_
    refine J_icmp_ge (tgt := 154) dX9_spans_131 (by decide) (fun c_1 => ?_) (fun c_1 => ?_)
    · have h := h.1 c_1
      refine J_aload_n dX9_spans_154 rfl 0 rfl  ?_
      refine J_aload_n dX9_spans_155 rfl 0 rfl  ?_
      refine J_getr (r := 371) (ci := 7) dX9_spans_156 29 rfl giX9 (by decide) (by decide) rfl rfl tb_4_140 (by decide) (by decide)  ?_
      refine J_iload dX9_spans_159 4 rfl  ?_
      refine J_callV (h := 353) (ci := 7) (As := [.ref (g.1 + 371), .int x4]) (rest := []) (n := 2) dX9_spans_161 (c_X9_unit 371 x4 (by decide) _ _ h) (by decide) rfl tb_5_80 tb_5_77 tb_1_8 tb_5_79 sl_36 (by decide) rfl (by decide) (by decide) (Nat.le_of_ble_eq_true rfl) rfl (fun v_r_3 S_2 hq => ?_)
      obtain ⟨rfl, h⟩ := hq
      dsimp only [Option.toList, List.cons_append, List.nil_append]
      refine J_aload_n dX9_spans_164 rfl 0 rfl  ?_
      refine J_aload_n dX9_spans_165 rfl 0 rfl  ?_
      refine J_getr (r := 371) (ci := 7) dX9_spans_166 29 rfl giX9 (by decide) (by decide) rfl rfl tb_4_140 (by decide) (by decide)  ?_
      refine J_iconst (v := 0) dX9_spans_169 (by decide)  ?_
      refine J_aload_n dX9_spans_170 rfl 0 rfl  ?_
      refine J_getr (r := 372) (ci := 7) dX9_spans_171 30 rfl giX9 (by decide) (by decide) rfl rfl tb_4_141 (by decide) (by decide)  ?_
      refine J_iconst (v := 0) dX9_spans_174 (by decide)  ?_
      refine J_callV (h := 353) (ci := 7) (As := [.ref (g.1 + 371), .int 0, .ref (g.1 + 372), .int 0]) (rest := []) (n := 4) dX9_spans_175 (c_X9_multiply 371 0 372 0 (by decide) (by decide) _ _ h) (by decide) rfl tb_5_45 tb_5_42 tb_1_8 tb_5_44 sl_31 (by decide) rfl (by decide) (by decide) (Nat.le_of_ble_eq_true rfl) rfl (fun v_r_5 S_4 hq => ?_)
      obtain ⟨rfl, h⟩ := hq
      dsimp only [Option.toList, List.cons_append, List.nil_append]
      refine J_aload_n dX9_spans_178 rfl 0 rfl  ?_
      refine J_callV (h := 353) (ci := 7) (As := []) (rest := []) (n := 0) dX9_spans_179 (c_X9_takesMade   _ _ h) (by decide) rfl tb_5_84 tb_5_81 tb_1_8 tb_5_83 sl_37 (by decide) rfl (by decide) (by decide) (Nat.le_of_ble_eq_true rfl) rfl (fun v_r_7 S_6 hq => ?_)
      obtain ⟨rfl, h⟩ := hq
      dsimp only [Option.toList, List.cons_append, List.nil_append]
      obtain ⟨x4_8, ex4_8⟩ : ∃ y : Int32, y = x4 + 1 := ⟨_, rfl⟩
      have h := h x4_8 ex4_8
      refine J_iinc (v := x4_8) (lv' := [(0, .ref (g.1 + 353)), (1, .int p1), (2, .int x2), (3, .int x3), (4, .int x4_8), (5, .int x5)]) dX9_spans_182 (q := 4) rfl (by rw [ex4_8]; rfl) (by decide) [1, 2, 3, 4, 0, 5] rfl  ?_
      refine J_goto (tgt := 89) dX9_spans_185 (by decide)  ?_
      refine J_sub (lv' := [(0, .ref (g.1 + 353)), (1, .int p1), (2, .int x2), (3, .int x3), (4, .int x4_8)]) [0, 1, 2, 3, 4] rfl ?_
      exact hR89 _ _ _ _  h
    · have h := h.2 c_1
      refine J_aload_n dX9_spans_134 rfl 0 rfl  ?_
      refine J_getr (r := 372) (ci := 7) dX9_spans_135 30 rfl giX9 (by decide) (by decide) rfl rfl tb_4_141 (by decide) (by decide)  ?_
      refine J_iload dX9_spans_138 5 rfl  ?_
      refine J_aload_n dX9_spans_140 rfl 0 rfl  ?_
      refine J_getr (r := 373) (ci := 7) dX9_spans_141 31 rfl giX9 (by decide) (by decide) rfl rfl tb_4_142 (by decide) (by decide)  ?_
      refine J_iload dX9_spans_144 5 rfl  ?_
      obtain ⟨hi_9, h⟩ := h
      refine J_iald dX9_spans_146 (by decide) hi_9  ?_
      obtain ⟨hi_10, h⟩ := h
      refine J_iast dX9_spans_147 (by decide) hi_10  ?_
      refine J_nmS (fun S_11 eS_11 => ?_)
      have h := h S_11 eS_11
      obtain ⟨x5_12, ex5_12⟩ : ∃ y : Int32, y = x5 + 1 := ⟨_, rfl⟩
      have h := h x5_12 ex5_12
      refine J_iinc (v := x5_12) (lv' := [(0, .ref (g.1 + 353)), (1, .int p1), (2, .int x2), (3, .int x3), (4, .int x4), (5, .int x5_12)]) dX9_spans_148 (q := 5) rfl (by rw [ex5_12]; rfl) (by decide) [1, 2, 3, 4, 5, 0] rfl  ?_
      refine J_goto (tgt := 127) dX9_spans_151 (by decide)  ?_
      exact ih _ _ _ _ _  h
def q_X9_spans_89 (p1 : Int32) (R6 : Int32 → Sto → Prop) (R16 : Int32 → Int32 → Sto → Prop) (Q : Sto → Prop) : Nat → Int32 → Int32 → Int32 → Sto → Prop
  | 0, _, _, _, _ => False
  | n + 1, x2, x3, x4, S => (((S.1 353 3) ≤ x4 → q_X9_spans_188 p1 R6 R16 Q x2 x3 S) ∧ (¬ (S.1 353 3) ≤ x4 → wp_X9_unit 371 x3 S (fun S_2 => wp_X9_multiply 355 (16 * x2) 371 0 S_2 (fun S_4 => (∃ n_127, q_X9_spans_127 p1 R6 R16 (fun y2 y3 y4 S => q_X9_spans_89 p1 R6 R16 Q n y2 y3 y4 S) Q n_127 x2 x3 x4 0 S_4)))))
set_option maxRecDepth 100000 in
set_option maxHeartbeats 4000000 in
theorem l_X9_spans_89 {g : Gv} (p1 : Int32) (R6 : Int32 → Sto → Prop) (R16 : Int32 → Int32 → Sto → Prop) (Q : Sto → Prop) (hR6 : ∀ (y2 : Int32) (S : Sto), R6 y2 S → RJ g cX9_spans RX9 none 6 5 6 [(0, .ref (g.1 + 353)), (1, .int p1), (2, .int y2)] [] S (Qv Q)) (hR16 : ∀ (y2 : Int32) (y3 : Int32) (S : Sto), R16 y2 y3 S → RJ g cX9_spans RX9 none 6 5 16 [(0, .ref (g.1 + 353)), (1, .int p1), (2, .int y2), (3, .int y3)] [] S (Qv Q))  (n : Nat) : ∀ (x2 : Int32) (x3 : Int32) (x4 : Int32) (S : Sto)  (h : q_X9_spans_89 p1 R6 R16 Q n x2 x3 x4 S), RJ g cX9_spans RX9 none 6 5 89 [(0, .ref (g.1 + 353)), (1, .int p1), (2, .int x2), (3, .int x3), (4, .int x4)] [] S (Qv Q) := by
  induction n with
  | zero => intro x2 x3 x4 S  h; exact h.elim
  | succ n ih =>
    intro x2 x3 x4 S  h
    unfold q_X9_spans_89 at h
    refine J_iload dX9_spans_89 4 rfl  ?_
    refine J_aload_n dX9_spans_91 rfl 0 rfl  ?_
    refine J_geti (ci := 7) dX9_spans_92 3 rfl giX9 (by decide) (by decide) rfl rfl tb_4_114 rfl  ?_
    refine J_icmp_ge (tgt := 188) dX9_spans_95 (by decide) (fun c_1 => ?_) (fun c_1 => ?_)
    · have h := h.1 c_1
      refine J_sub (lv' := [(0, .ref (g.1 + 353)), (1, .int p1), (2, .int x2), (3, .int x3)]) [0, 1, 2, 3] rfl ?_
      exact l_X9_spans_188 p1 _ _ _ hR6 hR16  _ _ _  h
    · have h := h.2 c_1
      refine J_aload_n dX9_spans_98 rfl 0 rfl  ?_
      refine J_aload_n dX9_spans_99 rfl 0 rfl  ?_
      refine J_getr (r := 371) (ci := 7) dX9_spans_100 29 rfl giX9 (by decide) (by decide) rfl rfl tb_4_140 (by decide) (by decide)  ?_
      refine J_iload_n dX9_spans_103 rfl 3 rfl  ?_
      refine J_callV (h := 353) (ci := 7) (As := [.ref (g.1 + 371), .int x3]) (rest := []) (n := 2) dX9_spans_104 (c_X9_unit 371 x3 (by decide) _ _ h) (by decide) rfl tb_5_80 tb_5_77 tb_1_8 tb_5_79 sl_36 (by decide) rfl (by decide) (by decide) (Nat.le_of_ble_eq_true rfl) rfl (fun v_r_3 S_2 hq => ?_)
      obtain ⟨rfl, h⟩ := hq
      dsimp only [Option.toList, List.cons_append, List.nil_append]
      refine J_aload_n dX9_spans_107 rfl 0 rfl  ?_
      refine J_aload_n dX9_spans_108 rfl 0 rfl  ?_
      refine J_getr (r := 355) (ci := 7) dX9_spans_109 5 rfl giX9 (by decide) (by decide) rfl rfl tb_4_116 (by decide) (by decide)  ?_
      refine J_bipush (v := 16) dX9_spans_112 (by decide)  ?_
      refine J_iload_n dX9_spans_114 rfl 2 rfl  ?_
      refine J_imul dX9_spans_115  ?_
      refine J_aload_n dX9_spans_116 rfl 0 rfl  ?_
      refine J_getr (r := 371) (ci := 7) dX9_spans_117 29 rfl giX9 (by decide) (by decide) rfl rfl tb_4_140 (by decide) (by decide)  ?_
      refine J_iconst (v := 0) dX9_spans_120 (by decide)  ?_
      refine J_callV (h := 353) (ci := 7) (As := [.ref (g.1 + 355), .int (16 * x2), .ref (g.1 + 371), .int 0]) (rest := []) (n := 4) dX9_spans_121 (c_X9_multiply 355 (16 * x2) 371 0 (by decide) (by decide) _ _ h) (by decide) rfl tb_5_45 tb_5_42 tb_1_8 tb_5_44 sl_31 (by decide) rfl (by decide) (by decide) (Nat.le_of_ble_eq_true rfl) rfl (fun v_r_5 S_4 hq => ?_)
      obtain ⟨rfl, h⟩ := hq
      dsimp only [Option.toList, List.cons_append, List.nil_append]
      refine J_iconst (v := 0) dX9_spans_124 (by decide)  ?_
      refine J_istore (lv' := [(0, .ref (g.1 + 353)), (1, .int p1), (2, .int x2), (3, .int x3), (4, .int x4), (5, .int 0)]) dX9_spans_125 (by decide) [1, 2, 3, 4, 5, 0] rfl  ?_
      obtain ⟨n, h⟩ := h
      exact l_X9_spans_127 p1 _ _ _ _ hR6 hR16 (fun y2 y3 y4 S  h => ih y2 y3 y4 S  h)  n _ _ _ _ _  h
def q_X9_spans_74 (p1 : Int32) (R6 : Int32 → Sto → Prop) (R16 : Int32 → Int32 → Sto → Prop) (Q : Sto → Prop) (x2 : Int32) (x3 : Int32) (S : Sto) : Prop := ((2 ≤ p1 → (∃ n_89, q_X9_spans_89 p1 R6 R16 Q n_89 x2 x3 0 S)) ∧ (¬ 2 ≤ p1 → wp_X9_takesMade  S (fun S_2 => q_X9_spans_188 p1 R6 R16 Q x2 x3 S_2)))
set_option maxRecDepth 100000 in
set_option maxHeartbeats 4000000 in
theorem l_X9_spans_74 {g : Gv} (p1 : Int32) (R6 : Int32 → Sto → Prop) (R16 : Int32 → Int32 → Sto → Prop) (Q : Sto → Prop) (hR6 : ∀ (y2 : Int32) (S : Sto), R6 y2 S → RJ g cX9_spans RX9 none 6 5 6 [(0, .ref (g.1 + 353)), (1, .int p1), (2, .int y2)] [] S (Qv Q)) (hR16 : ∀ (y2 : Int32) (y3 : Int32) (S : Sto), R16 y2 y3 S → RJ g cX9_spans RX9 none 6 5 16 [(0, .ref (g.1 + 353)), (1, .int p1), (2, .int y2), (3, .int y3)] [] S (Qv Q))  (x2 : Int32) (x3 : Int32) (S : Sto)  (h : q_X9_spans_74 p1 R6 R16 Q x2 x3 S) : RJ g cX9_spans RX9 none 6 5 74 [(0, .ref (g.1 + 353)), (1, .int p1), (2, .int x2), (3, .int x3)] [] S (Qv Q) := by
  unfold q_X9_spans_74 at h
  refine J_iload_n dX9_spans_74 rfl 1 rfl  ?_
  refine J_iconst (v := 2) dX9_spans_75 (by decide)  ?_
  refine J_icmp_ge (tgt := 86) dX9_spans_76 (by decide) (fun c_1 => ?_) (fun c_1 => ?_)
  · have h := h.1 c_1
    refine J_iconst (v := 0) dX9_spans_86 (by decide)  ?_
    refine J_istore (lv' := [(0, .ref (g.1 + 353)), (1, .int p1), (2, .int x2), (3, .int x3), (4, .int 0)]) dX9_spans_87 (by decide) [1, 2, 3, 4, 0] rfl  ?_
    obtain ⟨n, h⟩ := h
    exact l_X9_spans_89 p1 _ _ _ hR6 hR16  n _ _ _ _  h
  · have h := h.2 c_1
    refine J_aload_n dX9_spans_79 rfl 0 rfl  ?_
    refine J_callV (h := 353) (ci := 7) (As := []) (rest := []) (n := 0) dX9_spans_80 (c_X9_takesMade   _ _ h) (by decide) rfl tb_5_84 tb_5_81 tb_1_8 tb_5_83 sl_37 (by decide) rfl (by decide) (by decide) (Nat.le_of_ble_eq_true rfl) rfl (fun v_r_3 S_2 hq => ?_)
    obtain ⟨rfl, h⟩ := hq
    dsimp only [Option.toList, List.cons_append, List.nil_append]
    refine J_goto (tgt := 188) dX9_spans_83 (by decide)  ?_
    exact l_X9_spans_188 p1 _ _ _ hR6 hR16  _ _ _  h
def q_X9_spans_16 (p1 : Int32) (R6 : Int32 → Sto → Prop) (Q : Sto → Prop) : Nat → Int32 → Int32 → Sto → Prop
  | 0, _, _, _ => False
  | n + 1, x2, x3, S => (((S.1 353 3) ≤ x3 → ∀ x2_2 : Int32, x2_2 = x2 + 1 → R6 x2_2 S) ∧ (¬ (S.1 353 3) ≤ x3 → wp_X9_unit 371 x3 S (fun S_3 => ((¬ p1 = 0 → wp_X9_multiply 355 (16 * x2) 371 0 S_3 (fun S_6 => q_X9_spans_74 p1 R6 (fun y2 y3 S => q_X9_spans_16 p1 R6 Q n y2 y3 S) Q x2 x3 S_6)) ∧ (p1 = 0 → wp_X9_multiply 371 0 355 (16 * x2) S_3 (fun S_8 => q_X9_spans_74 p1 R6 (fun y2 y3 S => q_X9_spans_16 p1 R6 Q n y2 y3 S) Q x2 x3 S_8))))))
set_option maxRecDepth 100000 in
set_option maxHeartbeats 4000000 in
theorem l_X9_spans_16 {g : Gv} (p1 : Int32) (R6 : Int32 → Sto → Prop) (Q : Sto → Prop) (hR6 : ∀ (y2 : Int32) (S : Sto), R6 y2 S → RJ g cX9_spans RX9 none 6 5 6 [(0, .ref (g.1 + 353)), (1, .int p1), (2, .int y2)] [] S (Qv Q))  (n : Nat) : ∀ (x2 : Int32) (x3 : Int32) (S : Sto)  (h : q_X9_spans_16 p1 R6 Q n x2 x3 S), RJ g cX9_spans RX9 none 6 5 16 [(0, .ref (g.1 + 353)), (1, .int p1), (2, .int x2), (3, .int x3)] [] S (Qv Q) := by
  induction n with
  | zero => intro x2 x3 S  h; exact h.elim
  | succ n ih =>
    intro x2 x3 S  h
    unfold q_X9_spans_16 at h
    refine J_iload_n dX9_spans_16 rfl 3 rfl  ?_
    refine J_aload_n dX9_spans_17 rfl 0 rfl  ?_
    refine J_geti (ci := 7) dX9_spans_18 3 rfl giX9 (by decide) (by decide) rfl rfl tb_4_114 rfl  ?_
    refine J_icmp_ge (tgt := 194) dX9_spans_21 (by decide) (fun c_1 => ?_) (fun c_1 => ?_)
    · have h := h.1 c_1
      obtain ⟨x2_2, ex2_2⟩ : ∃ y : Int32, y = x2 + 1 := ⟨_, rfl⟩
      have h := h x2_2 ex2_2
      refine J_iinc (v := x2_2) (lv' := [(0, .ref (g.1 + 353)), (1, .int p1), (2, .int x2_2), (3, .int x3)]) dX9_spans_194 (q := 2) rfl (by rw [ex2_2]; rfl) (by decide) [1, 2, 0, 3] rfl  ?_
      refine J_goto (tgt := 6) dX9_spans_197 (by decide)  ?_
      refine J_sub (lv' := [(0, .ref (g.1 + 353)), (1, .int p1), (2, .int x2_2)]) [0, 1, 2] rfl ?_
      exact hR6 _ _  h
    · have h := h.2 c_1
      refine J_aload_n dX9_spans_24 rfl 0 rfl  ?_
      refine J_aload_n dX9_spans_25 rfl 0 rfl  ?_
      refine J_getr (r := 371) (ci := 7) dX9_spans_26 29 rfl giX9 (by decide) (by decide) rfl rfl tb_4_140 (by decide) (by decide)  ?_
      refine J_iload_n dX9_spans_29 rfl 3 rfl  ?_
      refine J_callV (h := 353) (ci := 7) (As := [.ref (g.1 + 371), .int x3]) (rest := []) (n := 2) dX9_spans_30 (c_X9_unit 371 x3 (by decide) _ _ h) (by decide) rfl tb_5_80 tb_5_77 tb_1_8 tb_5_79 sl_36 (by decide) rfl (by decide) (by decide) (Nat.le_of_ble_eq_true rfl) rfl (fun v_r_4 S_3 hq => ?_)
      obtain ⟨rfl, h⟩ := hq
      dsimp only [Option.toList, List.cons_append, List.nil_append]
      refine J_iload_n dX9_spans_33 rfl 1 rfl  ?_
      refine J_if_ne (tgt := 57) dX9_spans_34 (by decide) (fun c_5 => ?_) (fun c_5 => ?_)
      · have h := h.1 c_5
        refine J_aload_n dX9_spans_57 rfl 0 rfl  ?_
        refine J_aload_n dX9_spans_58 rfl 0 rfl  ?_
        refine J_getr (r := 355) (ci := 7) dX9_spans_59 5 rfl giX9 (by decide) (by decide) rfl rfl tb_4_116 (by decide) (by decide)  ?_
        refine J_bipush (v := 16) dX9_spans_62 (by decide)  ?_
        refine J_iload_n dX9_spans_64 rfl 2 rfl  ?_
        refine J_imul dX9_spans_65  ?_
        refine J_aload_n dX9_spans_66 rfl 0 rfl  ?_
        refine J_getr (r := 371) (ci := 7) dX9_spans_67 29 rfl giX9 (by decide) (by decide) rfl rfl tb_4_140 (by decide) (by decide)  ?_
        refine J_iconst (v := 0) dX9_spans_70 (by decide)  ?_
        refine J_callV (h := 353) (ci := 7) (As := [.ref (g.1 + 355), .int (16 * x2), .ref (g.1 + 371), .int 0]) (rest := []) (n := 4) dX9_spans_71 (c_X9_multiply 355 (16 * x2) 371 0 (by decide) (by decide) _ _ h) (by decide) rfl tb_5_45 tb_5_42 tb_1_8 tb_5_44 sl_31 (by decide) rfl (by decide) (by decide) (Nat.le_of_ble_eq_true rfl) rfl (fun v_r_7 S_6 hq => ?_)
        obtain ⟨rfl, h⟩ := hq
        dsimp only [Option.toList, List.cons_append, List.nil_append]
        exact l_X9_spans_74 p1 _ _ _ hR6 (fun y2 y3 S  h => ih y2 y3 S  h)  _ _ _  h
      · have h := h.2 c_5
        refine J_aload_n dX9_spans_37 rfl 0 rfl  ?_
        refine J_aload_n dX9_spans_38 rfl 0 rfl  ?_
        refine J_getr (r := 371) (ci := 7) dX9_spans_39 29 rfl giX9 (by decide) (by decide) rfl rfl tb_4_140 (by decide) (by decide)  ?_
        refine J_iconst (v := 0) dX9_spans_42 (by decide)  ?_
        refine J_aload_n dX9_spans_43 rfl 0 rfl  ?_
        refine J_getr (r := 355) (ci := 7) dX9_spans_44 5 rfl giX9 (by decide) (by decide) rfl rfl tb_4_116 (by decide) (by decide)  ?_
        refine J_bipush (v := 16) dX9_spans_47 (by decide)  ?_
        refine J_iload_n dX9_spans_49 rfl 2 rfl  ?_
        refine J_imul dX9_spans_50  ?_
        refine J_callV (h := 353) (ci := 7) (As := [.ref (g.1 + 371), .int 0, .ref (g.1 + 355), .int (16 * x2)]) (rest := []) (n := 4) dX9_spans_51 (c_X9_multiply 371 0 355 (16 * x2) (by decide) (by decide) _ _ h) (by decide) rfl tb_5_45 tb_5_42 tb_1_8 tb_5_44 sl_31 (by decide) rfl (by decide) (by decide) (Nat.le_of_ble_eq_true rfl) rfl (fun v_r_9 S_8 hq => ?_)
        obtain ⟨rfl, h⟩ := hq
        dsimp only [Option.toList, List.cons_append, List.nil_append]
        refine J_goto (tgt := 74) dX9_spans_54 (by decide)  ?_
        exact l_X9_spans_74 p1 _ _ _ hR6 (fun y2 y3 S  h => ih y2 y3 S  h)  _ _ _  h
def q_X9_spans_6 (p1 : Int32)  (Q : Sto → Prop) : Nat → Int32 → Sto → Prop
  | 0, _, _ => False
  | n + 1, x2, S => (((S.1 353 6) ≤ x2 → Q S) ∧ (¬ (S.1 353 6) ≤ x2 → (∃ n_16, q_X9_spans_16 p1 (fun y2 S => q_X9_spans_6 p1  Q n y2 S) Q n_16 x2 0 S)))
set_option maxRecDepth 100000 in
set_option maxHeartbeats 4000000 in
theorem l_X9_spans_6 {g : Gv} (p1 : Int32)  (Q : Sto → Prop)   (n : Nat) : ∀ (x2 : Int32) (S : Sto)  (h : q_X9_spans_6 p1  Q n x2 S), RJ g cX9_spans RX9 none 6 5 6 [(0, .ref (g.1 + 353)), (1, .int p1), (2, .int x2)] [] S (Qv Q) := by
  induction n with
  | zero => intro x2 S  h; exact h.elim
  | succ n ih =>
    intro x2 S  h
    unfold q_X9_spans_6 at h
    refine J_iload_n dX9_spans_6 rfl 2 rfl  ?_
    refine J_aload_n dX9_spans_7 rfl 0 rfl  ?_
    refine J_geti (ci := 7) dX9_spans_8 6 rfl giX9 (by decide) (by decide) rfl rfl tb_4_117 rfl  ?_
    refine J_icmp_ge (tgt := 200) dX9_spans_11 (by decide) (fun c_1 => ?_) (fun c_1 => ?_)
    · have h := h.1 c_1
      exact J_vret dX9_spans_200 rfl ⟨rfl, h⟩
    · have h := h.2 c_1
      refine J_iconst (v := 0) dX9_spans_14 (by decide)  ?_
      refine J_istore_n (lv' := [(0, .ref (g.1 + 353)), (1, .int p1), (2, .int x2), (3, .int 0)]) dX9_spans_15 rfl (by decide) [1, 2, 3, 0] rfl  ?_
      obtain ⟨n, h⟩ := h
      exact l_X9_spans_16 p1 _ _ (fun y2 S  h => ih y2 S  h)  n _ _ _  h
def wp_X9_spans (p1 : Int32) (S : Sto) (Q : Sto → Prop) : Prop := wp_X9_beginPlaces  S (fun S_1 => (∃ n_6, q_X9_spans_6 p1  Q n_6 0 S_1))
set_option maxRecDepth 100000 in
set_option maxHeartbeats 4000000 in
theorem c_X9_spans {g : Gv} (p1 : Int32)  (S : Sto) (Q : Sto → Prop) (h : wp_X9_spans p1 S Q) : CT g yX9_spans cX9_spans 6 none 5 [.ref (g.1 + 353), .int p1] S (Qv Q) := by
  unfold wp_X9_spans at h
  refine CT.of (by decide) (Nat.le_of_ble_eq_true rfl) ?_
  refine J_sub (lv' := [(0, .ref (g.1 + 353)), (1, .int p1)]) [0, 1] rfl ?_
  refine J_aload_n dX9_spans_0 rfl 0 rfl  ?_
  refine J_callV (h := 353) (ci := 7) (As := []) (rest := []) (n := 0) dX9_spans_1 (c_X9_beginPlaces   _ _ h) (by decide) rfl tb_5_68 tb_5_65 tb_1_8 tb_5_67 sl_34 (by decide) rfl (by decide) (by decide) (Nat.le_of_ble_eq_true rfl) rfl (fun v_r_2 S_1 hq => ?_)
  obtain ⟨rfl, h⟩ := hq
  dsimp only [Option.toList, List.cons_append, List.nil_append]
  refine J_iconst (v := 0) dX9_spans_4 (by decide)  ?_
  refine J_istore_n (lv' := [(0, .ref (g.1 + 353)), (1, .int p1), (2, .int 0)]) dX9_spans_5 rfl (by decide) [1, 2, 0] rfl  ?_
  obtain ⟨n, h⟩ := h
  exact l_X9_spans_6 p1  _   n _ _  h
def q_X9_firstLead_21   (Q : Int32 → Sto → Prop) (t0 : Int32) (S : Sto) : Prop := Q t0 S
set_option maxRecDepth 100000 in
set_option maxHeartbeats 4000000 in
theorem l_X9_firstLead_21 {g : Gv}   (Q : Int32 → Sto → Prop)   (t0 : Int32) (S : Sto)  (h : q_X9_firstLead_21   Q t0 S) : RJ g cX9_firstLead RX9 (some .int) 2 2 21 [(0, .ref (g.1 + 353))] [.int t0] S (Qi Q) := by
  unfold q_X9_firstLead_21 at h
  exact J_iret dX9_firstLead_21 rfl rfl ⟨_, rfl, h⟩
def wp_X9_firstLead  (S : Sto) (Q : Int32 → Sto → Prop) : Prop := wp_X9_rowAt 0 S (fun r_2 S_1 => ((0 ≤ r_2 → vp_in r_2 (256) ∧ q_X9_firstLead_21   Q (S_1.1 367 (r_2 : Int32).toNatClampNeg) S_1) ∧ (¬ 0 ≤ r_2 → q_X9_firstLead_21   Q ((-5)) S_1)))
set_option maxRecDepth 100000 in
set_option maxHeartbeats 4000000 in
theorem c_X9_firstLead {g : Gv}   (S : Sto) (Q : Int32 → Sto → Prop) (h : wp_X9_firstLead  S Q) : CT g yX9_firstLead cX9_firstLead 2 (some .int) 2 [.ref (g.1 + 353)] S (Qi Q) := by
  unfold wp_X9_firstLead at h
  refine CT.of (by decide) (Nat.le_of_ble_eq_true rfl) ?_
  refine J_sub (lv' := [(0, .ref (g.1 + 353))]) [0] rfl ?_
  refine J_aload_n dX9_firstLead_0 rfl 0 rfl  ?_
  refine J_iconst (v := 0) dX9_firstLead_1 (by decide)  ?_
  refine J_callV (h := 353) (ci := 7) (As := [.int 0]) (rest := []) (n := 1) dX9_firstLead_2 (c_X9_rowAt 0  _ _ h) (by decide) rfl tb_5_196 tb_5_193 tb_1_8 tb_5_195 sl_51 (by decide) rfl (by decide) (by decide) (Nat.le_of_ble_eq_true rfl) rfl (fun v_r_2 S_1 hq => ?_)
  obtain ⟨r_2, rfl, h⟩ := hq
  dsimp only [Option.toList, List.cons_append, List.nil_append]
  refine J_istore_n (lv' := [(0, .ref (g.1 + 353)), (1, .int r_2)]) dX9_firstLead_5 rfl (by decide) [1, 0] rfl  ?_
  refine J_iload_n dX9_firstLead_6 rfl 1 rfl  ?_
  refine J_if_ge (tgt := 15) dX9_firstLead_7 (by decide) (fun c_3 => ?_) (fun c_3 => ?_)
  · have h := h.1 c_3
    refine J_aload_n dX9_firstLead_15 rfl 0 rfl  ?_
    refine J_getr (r := 367) (ci := 7) dX9_firstLead_16 23 rfl giX9 (by decide) (by decide) rfl rfl tb_4_134 (by decide) (by decide)  ?_
    refine J_iload_n dX9_firstLead_19 rfl 1 rfl  ?_
    obtain ⟨hi_4, h⟩ := h
    refine J_iald dX9_firstLead_20 (by decide) hi_4  ?_
    refine J_sub (lv' := [(0, .ref (g.1 + 353))]) [0] rfl ?_
    exact l_X9_firstLead_21   _   _ _  h
  · have h := h.2 c_3
    refine J_bipush (v := (-5)) dX9_firstLead_10 (by decide)  ?_
    refine J_goto (tgt := 21) dX9_firstLead_12 (by decide)  ?_
    refine J_sub (lv' := [(0, .ref (g.1 + 353))]) [0] rfl ?_
    exact l_X9_firstLead_21   _   _ _  h
def q_X9_anew_2   (Q : Sto → Prop) : Nat → Int32 → Sto → Prop
  | 0, _, _ => False
  | n + 1, x1, S => ((96 ≤ x1 → ∀ S_2 : Sto, S_2 = uA S 353 6 0 → Q S_2) ∧ (¬ 96 ≤ x1 → vp_in x1 (96) ∧ ∀ S_4 : Sto, S_4 = uA S 354 (x1 : Int32).toNatClampNeg 0 → ∀ x1_5 : Int32, x1_5 = x1 + 1 → q_X9_anew_2   Q n x1_5 S_4))
set_option maxRecDepth 100000 in
set_option maxHeartbeats 4000000 in
theorem l_X9_anew_2 {g : Gv}   (Q : Sto → Prop)   (n : Nat) : ∀ (x1 : Int32) (S : Sto)  (h : q_X9_anew_2   Q n x1 S), RJ g cX9_anew RX9 none 2 1 2 [(0, .ref (g.1 + 353)), (1, .int x1)] [] S (Qv Q) := by
  induction n with
  | zero => intro x1 S  h; exact h.elim
  | succ n ih =>
    intro x1 S  h
    unfold q_X9_anew_2 at h
    refine J_iload_n dX9_anew_2 rfl 1 rfl  ?_
    refine J_bipush (v := 96) dX9_anew_3 (by decide)  ?_
    refine J_icmp_ge (tgt := 21) dX9_anew_5 (by decide) (fun c_1 => ?_) (fun c_1 => ?_)
    · have h := h.1 c_1
      refine J_aload_n dX9_anew_21 rfl 0 rfl  ?_
      refine J_iconst (v := 0) dX9_anew_22 (by decide)  ?_
      refine J_puti (ci := 7) dX9_anew_23 6 rfl giX9 (by decide) (by decide) rfl rfl tyX9 tyX9_ok nmX9 rfl rfl rfl rfl tb_4_117 rfl  ?_
      refine J_nmS (fun S_2 eS_2 => ?_)
      have h := h S_2 eS_2
      exact J_vret dX9_anew_26 rfl ⟨rfl, h⟩
    · have h := h.2 c_1
      refine J_aload_n dX9_anew_8 rfl 0 rfl  ?_
      refine J_getr (r := 354) (ci := 7) dX9_anew_9 4 rfl giX9 (by decide) (by decide) rfl rfl tb_4_115 (by decide) (by decide)  ?_
      refine J_iload_n dX9_anew_12 rfl 1 rfl  ?_
      refine J_iconst (v := 0) dX9_anew_13 (by decide)  ?_
      obtain ⟨hi_3, h⟩ := h
      refine J_iast dX9_anew_14 (by decide) hi_3  ?_
      refine J_nmS (fun S_4 eS_4 => ?_)
      have h := h S_4 eS_4
      obtain ⟨x1_5, ex1_5⟩ : ∃ y : Int32, y = x1 + 1 := ⟨_, rfl⟩
      have h := h x1_5 ex1_5
      refine J_iinc (v := x1_5) (lv' := [(0, .ref (g.1 + 353)), (1, .int x1_5)]) dX9_anew_15 (q := 1) rfl (by rw [ex1_5]; rfl) (by decide) [1, 0] rfl  ?_
      refine J_goto (tgt := 2) dX9_anew_18 (by decide)  ?_
      exact ih _ _  h
def wp_X9_anew  (S : Sto) (Q : Sto → Prop) : Prop := (∃ n_2, q_X9_anew_2   Q n_2 0 S)
set_option maxRecDepth 100000 in
set_option maxHeartbeats 4000000 in
theorem c_X9_anew {g : Gv}   (S : Sto) (Q : Sto → Prop) (h : wp_X9_anew  S Q) : CT g yX9_anew cX9_anew 2 none 1 [.ref (g.1 + 353)] S (Qv Q) := by
  unfold wp_X9_anew at h
  refine CT.of (by decide) (Nat.le_of_ble_eq_true rfl) ?_
  refine J_sub (lv' := [(0, .ref (g.1 + 353))]) [0] rfl ?_
  refine J_iconst (v := 0) dX9_anew_0 (by decide)  ?_
  refine J_istore_n (lv' := [(0, .ref (g.1 + 353)), (1, .int 0)]) dX9_anew_1 rfl (by decide) [1, 0] rfl  ?_
  obtain ⟨n, h⟩ := h
  exact l_X9_anew_2   _   n _ _  h
def wp_X9_letters (p1 : Int32) (S : Sto) (Q : Int32 → Sto → Prop) : Prop := wp_X9_in ((p1 : Int32).toInt64) 2 4 S (fun r_2 S_1 => ((¬ r_2 = 0 → ∀ x2_4 : Int32, x2_4 = S_1.1 353 0 → ∀ S_5 : Sto, S_5 = uA S_1 353 0 p1 → ∀ S_6 : Sto, S_6 = uA S_5 353 3 (1 <<< (p1 &&& 31)) → wp_X9_anew  S_6 (fun S_7 => Q x2_4 S_7)) ∧ (r_2 = 0 → Q ((-2)) S_1)))
set_option maxRecDepth 100000 in
set_option maxHeartbeats 4000000 in
theorem c_X9_letters {g : Gv} (p1 : Int32)  (S : Sto) (Q : Int32 → Sto → Prop) (h : wp_X9_letters p1 S Q) : CT g yX9_letters cX9_letters 3 (some .int) 2 [.ref (g.1 + 353), .int p1] S (Qi Q) := by
  unfold wp_X9_letters at h
  refine CT.of (by decide) (Nat.le_of_ble_eq_true rfl) ?_
  refine J_sub (lv' := [(0, .ref (g.1 + 353)), (1, .int p1)]) [0, 1] rfl ?_
  refine J_iload_n dX9_letters_0 rfl 1 rfl  ?_
  refine J_i2l dX9_letters_1  ?_
  refine J_ldc2 (v := 2) dX9_letters_2 tb_5_5  ?_
  refine J_ldc2 (v := 4) dX9_letters_5 tb_5_6  ?_
  refine J_callS (As := [.long ((p1 : Int32).toInt64), .long 2, .long 4]) (rest := []) (n := 3) dX9_letters_8 (c_X9_in ((p1 : Int32).toInt64) 2 4  _ _ h) tb_5_9 tb_5_7 tb_1_8 tb_5_8 (by decide) rfl (by decide) (by decide) (Nat.le_of_ble_eq_true rfl) rfl (fun v_r_2 S_1 hq => ?_)
  obtain ⟨r_2, rfl, h⟩ := hq
  dsimp only [Option.toList, List.cons_append, List.nil_append]
  refine J_if_ne (tgt := 17) dX9_letters_11 (by decide) (fun c_3 => ?_) (fun c_3 => ?_)
  · have h := h.1 c_3
    refine J_aload_n dX9_letters_17 rfl 0 rfl  ?_
    refine J_geti (ci := 7) dX9_letters_18 0 rfl giX9 (by decide) (by decide) rfl rfl tb_4_111 rfl  ?_
    refine J_topi (fun x2_4 ex2_4 => ?_)
    have h := h x2_4 ex2_4
    refine J_istore_n (lv' := [(0, .ref (g.1 + 353)), (1, .int p1), (2, .int x2_4)]) dX9_letters_21 rfl (by decide) [1, 2, 0] rfl  ?_
    refine J_aload_n dX9_letters_22 rfl 0 rfl  ?_
    refine J_iload_n dX9_letters_23 rfl 1 rfl  ?_
    refine J_puti (ci := 7) dX9_letters_24 0 rfl giX9 (by decide) (by decide) rfl rfl tyX9 tyX9_ok nmX9 rfl rfl rfl rfl tb_4_111 rfl  ?_
    refine J_nmS (fun S_5 eS_5 => ?_)
    have h := h S_5 eS_5
    refine J_aload_n dX9_letters_27 rfl 0 rfl  ?_
    refine J_iconst (v := 1) dX9_letters_28 (by decide)  ?_
    refine J_iload_n dX9_letters_29 rfl 1 rfl  ?_
    refine J_ishl dX9_letters_30  ?_
    refine J_puti (ci := 7) dX9_letters_31 3 rfl giX9 (by decide) (by decide) rfl rfl tyX9 tyX9_ok nmX9 rfl rfl rfl rfl tb_4_114 rfl  ?_
    refine J_nmS (fun S_6 eS_6 => ?_)
    have h := h S_6 eS_6
    refine J_aload_n dX9_letters_34 rfl 0 rfl  ?_
    refine J_callV (h := 353) (ci := 7) (As := []) (rest := []) (n := 0) dX9_letters_35 (c_X9_anew   _ _ h) (by decide) rfl tb_5_13 tb_5_10 tb_1_8 tb_5_12 sl_28 (by decide) rfl (by decide) (by decide) (Nat.le_of_ble_eq_true rfl) rfl (fun v_r_8 S_7 hq => ?_)
    obtain ⟨rfl, h⟩ := hq
    dsimp only [Option.toList, List.cons_append, List.nil_append]
    refine J_iload_n dX9_letters_38 rfl 2 rfl  ?_
    exact J_iret dX9_letters_39 rfl rfl ⟨_, rfl, h⟩
  · have h := h.2 c_3
    refine J_bipush (v := (-2)) dX9_letters_14 (by decide)  ?_
    exact J_iret dX9_letters_16 rfl rfl ⟨_, rfl, h⟩
def q_X9_prime_24 (p1 : Int32)  (Q : Int32 → Sto → Prop)  (S : Sto) : Prop := ∀ x2_1 : Int32, x2_1 = S.1 353 1 → ∀ S_2 : Sto, S_2 = uA S 353 1 p1 → wp_X9_anew  S_2 (fun S_3 => Q x2_1 S_3)
set_option maxRecDepth 100000 in
set_option maxHeartbeats 4000000 in
theorem l_X9_prime_24 {g : Gv} (p1 : Int32)  (Q : Int32 → Sto → Prop)    (S : Sto)  (h : q_X9_prime_24 p1  Q  S) : RJ g cX9_prime RX9 (some .int) 3 2 24 [(0, .ref (g.1 + 353)), (1, .int p1)] [] S (Qi Q) := by
  unfold q_X9_prime_24 at h
  refine J_aload_n dX9_prime_24 rfl 0 rfl  ?_
  refine J_geti (ci := 7) dX9_prime_25 1 rfl giX9 (by decide) (by decide) rfl rfl tb_4_112 rfl  ?_
  refine J_topi (fun x2_1 ex2_1 => ?_)
  have h := h x2_1 ex2_1
  refine J_istore_n (lv' := [(0, .ref (g.1 + 353)), (1, .int p1), (2, .int x2_1)]) dX9_prime_28 rfl (by decide) [1, 2, 0] rfl  ?_
  refine J_aload_n dX9_prime_29 rfl 0 rfl  ?_
  refine J_iload_n dX9_prime_30 rfl 1 rfl  ?_
  refine J_puti (ci := 7) dX9_prime_31 1 rfl giX9 (by decide) (by decide) rfl rfl tyX9 tyX9_ok nmX9 rfl rfl rfl rfl tb_4_112 rfl  ?_
  refine J_nmS (fun S_2 eS_2 => ?_)
  have h := h S_2 eS_2
  refine J_aload_n dX9_prime_34 rfl 0 rfl  ?_
  refine J_callV (h := 353) (ci := 7) (As := []) (rest := []) (n := 0) dX9_prime_35 (c_X9_anew   _ _ h) (by decide) rfl tb_5_13 tb_5_10 tb_1_8 tb_5_12 sl_28 (by decide) rfl (by decide) (by decide) (Nat.le_of_ble_eq_true rfl) rfl (fun v_r_4 S_3 hq => ?_)
  obtain ⟨rfl, h⟩ := hq
  dsimp only [Option.toList, List.cons_append, List.nil_append]
  refine J_iload_n dX9_prime_38 rfl 2 rfl  ?_
  exact J_iret dX9_prime_39 rfl rfl ⟨_, rfl, h⟩
def wp_X9_prime (p1 : Int32) (S : Sto) (Q : Int32 → Sto → Prop) : Prop := ((p1 = 2 → q_X9_prime_24 p1  Q  S) ∧ (¬ p1 = 2 → ((p1 = 3 → q_X9_prime_24 p1  Q  S) ∧ (¬ p1 = 3 → ((p1 = 5 → q_X9_prime_24 p1  Q  S) ∧ (¬ p1 = 5 → ((p1 = 7 → q_X9_prime_24 p1  Q  S) ∧ (¬ p1 = 7 → Q ((-2)) S))))))))
set_option maxRecDepth 100000 in
set_option maxHeartbeats 4000000 in
theorem c_X9_prime {g : Gv} (p1 : Int32)  (S : Sto) (Q : Int32 → Sto → Prop) (h : wp_X9_prime p1 S Q) : CT g yX9_prime cX9_prime 3 (some .int) 2 [.ref (g.1 + 353), .int p1] S (Qi Q) := by
  unfold wp_X9_prime at h
  refine CT.of (by decide) (Nat.le_of_ble_eq_true rfl) ?_
  refine J_sub (lv' := [(0, .ref (g.1 + 353)), (1, .int p1)]) [0, 1] rfl ?_
  refine J_iload_n dX9_prime_0 rfl 1 rfl  ?_
  refine J_iconst (v := 2) dX9_prime_1 (by decide)  ?_
  refine J_icmp_eq (tgt := 24) dX9_prime_2 (by decide) (fun c_1 => ?_) (fun c_1 => ?_)
  · have h := h.1 c_1
    exact l_X9_prime_24 p1  _    _  h
  · have h := h.2 c_1
    refine J_iload_n dX9_prime_5 rfl 1 rfl  ?_
    refine J_iconst (v := 3) dX9_prime_6 (by decide)  ?_
    refine J_icmp_eq (tgt := 24) dX9_prime_7 (by decide) (fun c_2 => ?_) (fun c_2 => ?_)
    · have h := h.1 c_2
      exact l_X9_prime_24 p1  _    _  h
    · have h := h.2 c_2
      refine J_iload_n dX9_prime_10 rfl 1 rfl  ?_
      refine J_iconst (v := 5) dX9_prime_11 (by decide)  ?_
      refine J_icmp_eq (tgt := 24) dX9_prime_12 (by decide) (fun c_3 => ?_) (fun c_3 => ?_)
      · have h := h.1 c_3
        exact l_X9_prime_24 p1  _    _  h
      · have h := h.2 c_3
        refine J_iload_n dX9_prime_15 rfl 1 rfl  ?_
        refine J_bipush (v := 7) dX9_prime_16 (by decide)  ?_
        refine J_icmp_eq (tgt := 24) dX9_prime_18 (by decide) (fun c_4 => ?_) (fun c_4 => ?_)
        · have h := h.1 c_4
          exact l_X9_prime_24 p1  _    _  h
        · have h := h.2 c_4
          refine J_bipush (v := (-2)) dX9_prime_21 (by decide)  ?_
          exact J_iret dX9_prime_23 rfl rfl ⟨_, rfl, h⟩
def wp_X9_order (p1 : Int32) (S : Sto) (Q : Int32 → Sto → Prop) : Prop := wp_X9_in ((p1 : Int32).toInt64) 0 1 S (fun r_2 S_1 => ((¬ r_2 = 0 → ∀ x2_4 : Int32, x2_4 = S_1.1 353 2 → ∀ S_5 : Sto, S_5 = uA S_1 353 2 p1 → Q x2_4 S_5) ∧ (r_2 = 0 → Q ((-1)) S_1)))
set_option maxRecDepth 100000 in
set_option maxHeartbeats 4000000 in
theorem c_X9_order {g : Gv} (p1 : Int32)  (S : Sto) (Q : Int32 → Sto → Prop) (h : wp_X9_order p1 S Q) : CT g yX9_order cX9_order 3 (some .int) 2 [.ref (g.1 + 353), .int p1] S (Qi Q) := by
  unfold wp_X9_order at h
  refine CT.of (by decide) (Nat.le_of_ble_eq_true rfl) ?_
  refine J_sub (lv' := [(0, .ref (g.1 + 353)), (1, .int p1)]) [0, 1] rfl ?_
  refine J_iload_n dX9_order_0 rfl 1 rfl  ?_
  refine J_i2l dX9_order_1  ?_
  refine J_lconst (v := 0) dX9_order_2 (by decide)  ?_
  refine J_lconst (v := 1) dX9_order_3 (by decide)  ?_
  refine J_callS (As := [.long ((p1 : Int32).toInt64), .long 0, .long 1]) (rest := []) (n := 3) dX9_order_4 (c_X9_in ((p1 : Int32).toInt64) 0 1  _ _ h) tb_5_9 tb_5_7 tb_1_8 tb_5_8 (by decide) rfl (by decide) (by decide) (Nat.le_of_ble_eq_true rfl) rfl (fun v_r_2 S_1 hq => ?_)
  obtain ⟨r_2, rfl, h⟩ := hq
  dsimp only [Option.toList, List.cons_append, List.nil_append]
  refine J_if_ne (tgt := 12) dX9_order_7 (by decide) (fun c_3 => ?_) (fun c_3 => ?_)
  · have h := h.1 c_3
    refine J_aload_n dX9_order_12 rfl 0 rfl  ?_
    refine J_geti (ci := 7) dX9_order_13 2 rfl giX9 (by decide) (by decide) rfl rfl tb_4_113 rfl  ?_
    refine J_topi (fun x2_4 ex2_4 => ?_)
    have h := h x2_4 ex2_4
    refine J_istore_n (lv' := [(0, .ref (g.1 + 353)), (1, .int p1), (2, .int x2_4)]) dX9_order_16 rfl (by decide) [1, 2, 0] rfl  ?_
    refine J_aload_n dX9_order_17 rfl 0 rfl  ?_
    refine J_iload_n dX9_order_18 rfl 1 rfl  ?_
    refine J_puti (ci := 7) dX9_order_19 2 rfl giX9 (by decide) (by decide) rfl rfl tyX9 tyX9_ok nmX9 rfl rfl rfl rfl tb_4_113 rfl  ?_
    refine J_nmS (fun S_5 eS_5 => ?_)
    have h := h S_5 eS_5
    refine J_iload_n dX9_order_22 rfl 2 rfl  ?_
    exact J_iret dX9_order_23 rfl rfl ⟨_, rfl, h⟩
  · have h := h.2 c_3
    refine J_iconst (v := (-1)) dX9_order_10 (by decide)  ?_
    exact J_iret dX9_order_11 rfl rfl ⟨_, rfl, h⟩
def q_X9_set_15 (p1 : Int32) (p2 : Int32) (p3 : Int32)  (Q : Int32 → Sto → Prop)  (S : Sto) : Prop := Q ((-1)) S
set_option maxRecDepth 100000 in
set_option maxHeartbeats 4000000 in
theorem l_X9_set_15 {g : Gv} (p1 : Int32) (p2 : Int32) (p3 : Int32)  (Q : Int32 → Sto → Prop)    (S : Sto)  (h : q_X9_set_15 p1 p2 p3  Q  S) : RJ g cX9_set RX9 (some .int) 5 3 15 [(0, .ref (g.1 + 353)), (1, .int p1), (2, .int p2), (3, .int p3)] [] S (Qi Q) := by
  unfold q_X9_set_15 at h
  refine J_iconst (v := (-1)) dX9_set_15 (by decide)  ?_
  exact J_iret dX9_set_16 rfl rfl ⟨_, rfl, h⟩
def wp_X9_set (p1 : Int32) (p2 : Int32) (p3 : Int32) (S : Sto) (Q : Int32 → Sto → Prop) : Prop := wp_X9_isElement p1 S (fun r_2 S_1 => ((r_2 = 0 → q_X9_set_15 p1 p2 p3  Q  S_1) ∧ (¬ r_2 = 0 → wp_X9_isPlace p2 S_1 (fun r_5 S_4 => ((¬ r_5 = 0 → vp_in ((16 * p1) + p2) (96) ∧ ∀ x4_8 : Int32, x4_8 = S_4.1 354 ((16 * p1) + p2 : Int32).toNatClampNeg → wp_X9_modulo ((p3 : Int32).toInt64) S_4 (fun r_10 S_9 => vp_in ((16 * p1) + p2) (96) ∧ ∀ S_12 : Sto, S_12 = uA S_9 354 ((16 * p1) + p2 : Int32).toNatClampNeg r_10 → Q x4_8 S_12)) ∧ (r_5 = 0 → q_X9_set_15 p1 p2 p3  Q  S_4))))))
set_option maxRecDepth 100000 in
set_option maxHeartbeats 4000000 in
theorem c_X9_set {g : Gv} (p1 : Int32) (p2 : Int32) (p3 : Int32)  (S : Sto) (Q : Int32 → Sto → Prop) (h : wp_X9_set p1 p2 p3 S Q) : CT g yX9_set cX9_set 5 (some .int) 3 [.ref (g.1 + 353), .int p1, .int p2, .int p3] S (Qi Q) := by
  unfold wp_X9_set at h
  refine CT.of (by decide) (Nat.le_of_ble_eq_true rfl) ?_
  refine J_sub (lv' := [(0, .ref (g.1 + 353)), (1, .int p1), (2, .int p2), (3, .int p3)]) [0, 1, 2, 3] rfl ?_
  refine J_iload_n dX9_set_0 rfl 1 rfl  ?_
  refine J_callS (As := [.int p1]) (rest := []) (n := 1) dX9_set_1 (c_X9_isElement p1  _ _ h) tb_5_28 tb_5_26 tb_1_8 tb_5_27 (by decide) rfl (by decide) (by decide) (Nat.le_of_ble_eq_true rfl) rfl (fun v_r_2 S_1 hq => ?_)
  obtain ⟨r_2, rfl, h⟩ := hq
  dsimp only [Option.toList, List.cons_append, List.nil_append]
  refine J_if_eq (tgt := 15) dX9_set_4 (by decide) (fun c_3 => ?_) (fun c_3 => ?_)
  · have h := h.1 c_3
    exact l_X9_set_15 p1 p2 p3  _    _  h
  · have h := h.2 c_3
    refine J_aload_n dX9_set_7 rfl 0 rfl  ?_
    refine J_iload_n dX9_set_8 rfl 2 rfl  ?_
    refine J_callV (h := 353) (ci := 7) (As := [.int p2]) (rest := []) (n := 1) dX9_set_9 (c_X9_isPlace p2  _ _ h) (by decide) rfl tb_5_33 tb_5_30 tb_1_8 tb_5_32 sl_29 (by decide) rfl (by decide) (by decide) (Nat.le_of_ble_eq_true rfl) rfl (fun v_r_5 S_4 hq => ?_)
    obtain ⟨r_5, rfl, h⟩ := hq
    dsimp only [Option.toList, List.cons_append, List.nil_append]
    refine J_if_ne (tgt := 17) dX9_set_12 (by decide) (fun c_6 => ?_) (fun c_6 => ?_)
    · have h := h.1 c_6
      refine J_aload_n dX9_set_17 rfl 0 rfl  ?_
      refine J_getr (r := 354) (ci := 7) dX9_set_18 4 rfl giX9 (by decide) (by decide) rfl rfl tb_4_115 (by decide) (by decide)  ?_
      refine J_bipush (v := 16) dX9_set_21 (by decide)  ?_
      refine J_iload_n dX9_set_23 rfl 1 rfl  ?_
      refine J_imul dX9_set_24  ?_
      refine J_iload_n dX9_set_25 rfl 2 rfl  ?_
      refine J_iadd dX9_set_26  ?_
      obtain ⟨hi_7, h⟩ := h
      refine J_iald dX9_set_27 (by decide) hi_7  ?_
      refine J_topi (fun x4_8 ex4_8 => ?_)
      have h := h x4_8 ex4_8
      refine J_istore (lv' := [(0, .ref (g.1 + 353)), (1, .int p1), (2, .int p2), (3, .int p3), (4, .int x4_8)]) dX9_set_28 (by decide) [1, 2, 3, 4, 0] rfl  ?_
      refine J_aload_n dX9_set_30 rfl 0 rfl  ?_
      refine J_getr (r := 354) (ci := 7) dX9_set_31 4 rfl giX9 (by decide) (by decide) rfl rfl tb_4_115 (by decide) (by decide)  ?_
      refine J_bipush (v := 16) dX9_set_34 (by decide)  ?_
      refine J_iload_n dX9_set_36 rfl 1 rfl  ?_
      refine J_imul dX9_set_37  ?_
      refine J_iload_n dX9_set_38 rfl 2 rfl  ?_
      refine J_iadd dX9_set_39  ?_
      refine J_aload_n dX9_set_40 rfl 0 rfl  ?_
      refine J_iload_n dX9_set_41 rfl 3 rfl  ?_
      refine J_i2l dX9_set_42  ?_
      refine J_callV (h := 353) (ci := 7) (As := [.long ((p3 : Int32).toInt64)]) (rest := [.int ((16 * p1) + p2), .ref (g.1 + 354)]) (n := 1) dX9_set_43 (c_X9_modulo ((p3 : Int32).toInt64)  _ _ h) (by decide) rfl tb_5_37 tb_5_34 tb_1_8 tb_5_36 sl_30 (by decide) rfl (by decide) (by decide) (Nat.le_of_ble_eq_true rfl) rfl (fun v_r_10 S_9 hq => ?_)
      obtain ⟨r_10, rfl, h⟩ := hq
      dsimp only [Option.toList, List.cons_append, List.nil_append]
      obtain ⟨hi_11, h⟩ := h
      refine J_iast dX9_set_46 (by decide) hi_11  ?_
      refine J_nmS (fun S_12 eS_12 => ?_)
      have h := h S_12 eS_12
      refine J_iload dX9_set_47 4 rfl  ?_
      exact J_iret dX9_set_49 rfl rfl ⟨_, rfl, h⟩
    · have h := h.2 c_6
      exact l_X9_set_15 p1 p2 p3  _    _  h
def q_X9_lays_39 (p1 : Int32) (R4 : Int32 → Int32 → Sto → Prop) (Q : Int32 → Sto → Prop) (x2 : Int32) (x3 : Int32) (S : Sto) : Prop := ∀ x3_1 : Int32, x3_1 = x3 + 1 → R4 x2 x3_1 S
set_option maxRecDepth 100000 in
set_option maxHeartbeats 4000000 in
theorem l_X9_lays_39 {g : Gv} (p1 : Int32) (R4 : Int32 → Int32 → Sto → Prop) (Q : Int32 → Sto → Prop) (hR4 : ∀ (y2 : Int32) (y3 : Int32) (S : Sto), R4 y2 y3 S → RJ g cX9_lays RX9 (some .int) 4 1 4 [(0, .ref (g.1 + 353)), (1, .int p1), (2, .int y2), (3, .int y3)] [] S (Qi Q))  (x2 : Int32) (x3 : Int32) (S : Sto)  (h : q_X9_lays_39 p1 R4 Q x2 x3 S) : RJ g cX9_lays RX9 (some .int) 4 1 39 [(0, .ref (g.1 + 353)), (1, .int p1), (2, .int x2), (3, .int x3)] [] S (Qi Q) := by
  unfold q_X9_lays_39 at h
  obtain ⟨x3_1, ex3_1⟩ : ∃ y : Int32, y = x3 + 1 := ⟨_, rfl⟩
  have h := h x3_1 ex3_1
  refine J_iinc (v := x3_1) (lv' := [(0, .ref (g.1 + 353)), (1, .int p1), (2, .int x2), (3, .int x3_1)]) dX9_lays_39 (q := 3) rfl (by rw [ex3_1]; rfl) (by decide) [1, 2, 3, 0] rfl  ?_
  refine J_goto (tgt := 4) dX9_lays_42 (by decide)  ?_
  exact hR4 _ _ _  h
def q_X9_lays_4 (p1 : Int32)  (Q : Int32 → Sto → Prop) : Nat → Int32 → Int32 → Sto → Prop
  | 0, _, _, _ => False
  | n + 1, x2, x3, S => ((16 ≤ x3 → Q x2 S) ∧ (¬ 16 ≤ x3 → vp_in x3 (16) ∧ vp_in ((16 * p1) + x3) (96) ∧ ∀ S_4 : Sto, S_4 = uA S 354 ((16 * p1) + x3 : Int32).toNatClampNeg (S.1 373 (x3 : Int32).toNatClampNeg) → vp_in x3 (16) ∧ (((S_4.1 373 (x3 : Int32).toNatClampNeg) = 0 → q_X9_lays_39 p1 (fun y2 y3 S => q_X9_lays_4 p1  Q n y2 y3 S) Q x2 x3 S_4) ∧ (¬ (S_4.1 373 (x3 : Int32).toNatClampNeg) = 0 → ∀ x2_7 : Int32, x2_7 = x2 + 1 → q_X9_lays_39 p1 (fun y2 y3 S => q_X9_lays_4 p1  Q n y2 y3 S) Q x2_7 x3 S_4))))
set_option maxRecDepth 100000 in
set_option maxHeartbeats 4000000 in
theorem l_X9_lays_4 {g : Gv} (p1 : Int32)  (Q : Int32 → Sto → Prop)   (n : Nat) : ∀ (x2 : Int32) (x3 : Int32) (S : Sto)  (h : q_X9_lays_4 p1  Q n x2 x3 S), RJ g cX9_lays RX9 (some .int) 4 1 4 [(0, .ref (g.1 + 353)), (1, .int p1), (2, .int x2), (3, .int x3)] [] S (Qi Q) := by
  induction n with
  | zero => intro x2 x3 S  h; exact h.elim
  | succ n ih =>
    intro x2 x3 S  h
    unfold q_X9_lays_4 at h
    refine J_iload_n dX9_lays_4 rfl 3 rfl  ?_
    refine J_bipush (v := 16) dX9_lays_5 (by decide)  ?_
    refine J_icmp_ge (tgt := 45) dX9_lays_7 (by decide) (fun c_1 => ?_) (fun c_1 => ?_)
    · have h := h.1 c_1
      refine J_iload_n dX9_lays_45 rfl 2 rfl  ?_
      exact J_iret dX9_lays_46 rfl rfl ⟨_, rfl, h⟩
    · have h := h.2 c_1
      refine J_aload_n dX9_lays_10 rfl 0 rfl  ?_
      refine J_getr (r := 354) (ci := 7) dX9_lays_11 4 rfl giX9 (by decide) (by decide) rfl rfl tb_4_115 (by decide) (by decide)  ?_
      refine J_bipush (v := 16) dX9_lays_14 (by decide)  ?_
      refine J_iload_n dX9_lays_16 rfl 1 rfl  ?_
      refine J_imul dX9_lays_17  ?_
      refine J_iload_n dX9_lays_18 rfl 3 rfl  ?_
      refine J_iadd dX9_lays_19  ?_
      refine J_aload_n dX9_lays_20 rfl 0 rfl  ?_
      refine J_getr (r := 373) (ci := 7) dX9_lays_21 31 rfl giX9 (by decide) (by decide) rfl rfl tb_4_142 (by decide) (by decide)  ?_
      refine J_iload_n dX9_lays_24 rfl 3 rfl  ?_
      obtain ⟨hi_2, h⟩ := h
      refine J_iald dX9_lays_25 (by decide) hi_2  ?_
      obtain ⟨hi_3, h⟩ := h
      refine J_iast dX9_lays_26 (by decide) hi_3  ?_
      refine J_nmS (fun S_4 eS_4 => ?_)
      have h := h S_4 eS_4
      refine J_aload_n dX9_lays_27 rfl 0 rfl  ?_
      refine J_getr (r := 373) (ci := 7) dX9_lays_28 31 rfl giX9 (by decide) (by decide) rfl rfl tb_4_142 (by decide) (by decide)  ?_
      refine J_iload_n dX9_lays_31 rfl 3 rfl  ?_
      obtain ⟨hi_5, h⟩ := h
      refine J_iald dX9_lays_32 (by decide) hi_5  ?_
      refine J_if_eq (tgt := 39) dX9_lays_33 (by decide) (fun c_6 => ?_) (fun c_6 => ?_)
      · have h := h.1 c_6
        exact l_X9_lays_39 p1 _ _ (fun y2 y3 S  h => ih y2 y3 S  h)  _ _ _  h
      · have h := h.2 c_6
        obtain ⟨x2_7, ex2_7⟩ : ∃ y : Int32, y = x2 + 1 := ⟨_, rfl⟩
        have h := h x2_7 ex2_7
        refine J_iinc (v := x2_7) (lv' := [(0, .ref (g.1 + 353)), (1, .int p1), (2, .int x2_7), (3, .int x3)]) dX9_lays_36 (q := 2) rfl (by rw [ex2_7]; rfl) (by decide) [1, 2, 0, 3] rfl  ?_
        exact l_X9_lays_39 p1 _ _ (fun y2 y3 S  h => ih y2 y3 S  h)  _ _ _  h
def wp_X9_lays (p1 : Int32) (S : Sto) (Q : Int32 → Sto → Prop) : Prop := (∃ n_4, q_X9_lays_4 p1  Q n_4 0 0 S)
set_option maxRecDepth 100000 in
set_option maxHeartbeats 4000000 in
theorem c_X9_lays {g : Gv} (p1 : Int32)  (S : Sto) (Q : Int32 → Sto → Prop) (h : wp_X9_lays p1 S Q) : CT g yX9_lays cX9_lays 4 (some .int) 1 [.ref (g.1 + 353), .int p1] S (Qi Q) := by
  unfold wp_X9_lays at h
  refine CT.of (by decide) (Nat.le_of_ble_eq_true rfl) ?_
  refine J_sub (lv' := [(0, .ref (g.1 + 353)), (1, .int p1)]) [0, 1] rfl ?_
  refine J_iconst (v := 0) dX9_lays_0 (by decide)  ?_
  refine J_istore_n (lv' := [(0, .ref (g.1 + 353)), (1, .int p1), (2, .int 0)]) dX9_lays_1 rfl (by decide) [1, 2, 0] rfl  ?_
  refine J_iconst (v := 0) dX9_lays_2 (by decide)  ?_
  refine J_istore_n (lv' := [(0, .ref (g.1 + 353)), (1, .int p1), (2, .int 0), (3, .int 0)]) dX9_lays_3 rfl (by decide) [1, 2, 3, 0] rfl  ?_
  obtain ⟨n, h⟩ := h
  exact l_X9_lays_4 p1  _   n _ _ _  h
def q_X9_product_21 (p1 : Int32) (p2 : Int32) (p3 : Int32)  (Q : Int32 → Sto → Prop)  (S : Sto) : Prop := Q ((-1)) S
set_option maxRecDepth 100000 in
set_option maxHeartbeats 4000000 in
theorem l_X9_product_21 {g : Gv} (p1 : Int32) (p2 : Int32) (p3 : Int32)  (Q : Int32 → Sto → Prop)    (S : Sto)  (h : q_X9_product_21 p1 p2 p3  Q  S) : RJ g cX9_product RX9 (some .int) 4 3 21 [(0, .ref (g.1 + 353)), (1, .int p1), (2, .int p2), (3, .int p3)] [] S (Qi Q) := by
  unfold q_X9_product_21 at h
  refine J_iconst (v := (-1)) dX9_product_21 (by decide)  ?_
  exact J_iret dX9_product_22 rfl rfl ⟨_, rfl, h⟩
def wp_X9_product (p1 : Int32) (p2 : Int32) (p3 : Int32) (S : Sto) (Q : Int32 → Sto → Prop) : Prop := wp_X9_isElement p1 S (fun r_2 S_1 => ((r_2 = 0 → q_X9_product_21 p1 p2 p3  Q  S_1) ∧ (¬ r_2 = 0 → wp_X9_isElement p2 S_1 (fun r_5 S_4 => ((r_5 = 0 → q_X9_product_21 p1 p2 p3  Q  S_4) ∧ (¬ r_5 = 0 → wp_X9_isElement p3 S_4 (fun r_8 S_7 => ((¬ r_8 = 0 → wp_X9_multiply 354 (16 * p2) 354 (16 * p3) S_7 (fun S_10 => wp_X9_lays p1 S_10 (fun r_13 S_12 => Q r_13 S_12))) ∧ (r_8 = 0 → q_X9_product_21 p1 p2 p3  Q  S_7)))))))))
set_option maxRecDepth 100000 in
set_option maxHeartbeats 4000000 in
theorem c_X9_product {g : Gv} (p1 : Int32) (p2 : Int32) (p3 : Int32)  (S : Sto) (Q : Int32 → Sto → Prop) (h : wp_X9_product p1 p2 p3 S Q) : CT g yX9_product cX9_product 4 (some .int) 3 [.ref (g.1 + 353), .int p1, .int p2, .int p3] S (Qi Q) := by
  unfold wp_X9_product at h
  refine CT.of (by decide) (Nat.le_of_ble_eq_true rfl) ?_
  refine J_sub (lv' := [(0, .ref (g.1 + 353)), (1, .int p1), (2, .int p2), (3, .int p3)]) [0, 1, 2, 3] rfl ?_
  refine J_iload_n dX9_product_0 rfl 1 rfl  ?_
  refine J_callS (As := [.int p1]) (rest := []) (n := 1) dX9_product_1 (c_X9_isElement p1  _ _ h) tb_5_28 tb_5_26 tb_1_8 tb_5_27 (by decide) rfl (by decide) (by decide) (Nat.le_of_ble_eq_true rfl) rfl (fun v_r_2 S_1 hq => ?_)
  obtain ⟨r_2, rfl, h⟩ := hq
  dsimp only [Option.toList, List.cons_append, List.nil_append]
  refine J_if_eq (tgt := 21) dX9_product_4 (by decide) (fun c_3 => ?_) (fun c_3 => ?_)
  · have h := h.1 c_3
    exact l_X9_product_21 p1 p2 p3  _    _  h
  · have h := h.2 c_3
    refine J_iload_n dX9_product_7 rfl 2 rfl  ?_
    refine J_callS (As := [.int p2]) (rest := []) (n := 1) dX9_product_8 (c_X9_isElement p2  _ _ h) tb_5_28 tb_5_26 tb_1_8 tb_5_27 (by decide) rfl (by decide) (by decide) (Nat.le_of_ble_eq_true rfl) rfl (fun v_r_5 S_4 hq => ?_)
    obtain ⟨r_5, rfl, h⟩ := hq
    dsimp only [Option.toList, List.cons_append, List.nil_append]
    refine J_if_eq (tgt := 21) dX9_product_11 (by decide) (fun c_6 => ?_) (fun c_6 => ?_)
    · have h := h.1 c_6
      exact l_X9_product_21 p1 p2 p3  _    _  h
    · have h := h.2 c_6
      refine J_iload_n dX9_product_14 rfl 3 rfl  ?_
      refine J_callS (As := [.int p3]) (rest := []) (n := 1) dX9_product_15 (c_X9_isElement p3  _ _ h) tb_5_28 tb_5_26 tb_1_8 tb_5_27 (by decide) rfl (by decide) (by decide) (Nat.le_of_ble_eq_true rfl) rfl (fun v_r_8 S_7 hq => ?_)
      obtain ⟨r_8, rfl, h⟩ := hq
      dsimp only [Option.toList, List.cons_append, List.nil_append]
      refine J_if_ne (tgt := 23) dX9_product_18 (by decide) (fun c_9 => ?_) (fun c_9 => ?_)
      · have h := h.1 c_9
        refine J_aload_n dX9_product_23 rfl 0 rfl  ?_
        refine J_aload_n dX9_product_24 rfl 0 rfl  ?_
        refine J_getr (r := 354) (ci := 7) dX9_product_25 4 rfl giX9 (by decide) (by decide) rfl rfl tb_4_115 (by decide) (by decide)  ?_
        refine J_bipush (v := 16) dX9_product_28 (by decide)  ?_
        refine J_iload_n dX9_product_30 rfl 2 rfl  ?_
        refine J_imul dX9_product_31  ?_
        refine J_aload_n dX9_product_32 rfl 0 rfl  ?_
        refine J_getr (r := 354) (ci := 7) dX9_product_33 4 rfl giX9 (by decide) (by decide) rfl rfl tb_4_115 (by decide) (by decide)  ?_
        refine J_bipush (v := 16) dX9_product_36 (by decide)  ?_
        refine J_iload_n dX9_product_38 rfl 3 rfl  ?_
        refine J_imul dX9_product_39  ?_
        refine J_callV (h := 353) (ci := 7) (As := [.ref (g.1 + 354), .int (16 * p2), .ref (g.1 + 354), .int (16 * p3)]) (rest := []) (n := 4) dX9_product_40 (c_X9_multiply 354 (16 * p2) 354 (16 * p3) (by decide) (by decide) _ _ h) (by decide) rfl tb_5_45 tb_5_42 tb_1_8 tb_5_44 sl_31 (by decide) rfl (by decide) (by decide) (Nat.le_of_ble_eq_true rfl) rfl (fun v_r_11 S_10 hq => ?_)
        obtain ⟨rfl, h⟩ := hq
        dsimp only [Option.toList, List.cons_append, List.nil_append]
        refine J_aload_n dX9_product_43 rfl 0 rfl  ?_
        refine J_iload_n dX9_product_44 rfl 1 rfl  ?_
        refine J_callV (h := 353) (ci := 7) (As := [.int p1]) (rest := []) (n := 1) dX9_product_45 (c_X9_lays p1  _ _ h) (by decide) rfl tb_5_52 tb_5_49 tb_1_8 tb_5_51 sl_32 (by decide) rfl (by decide) (by decide) (Nat.le_of_ble_eq_true rfl) rfl (fun v_r_13 S_12 hq => ?_)
        obtain ⟨r_13, rfl, h⟩ := hq
        dsimp only [Option.toList, List.cons_append, List.nil_append]
        exact J_iret dX9_product_48 rfl rfl ⟨_, rfl, h⟩
      · have h := h.2 c_9
        exact l_X9_product_21 p1 p2 p3  _    _  h
def q_X9_mix_22 (p1 : Int32) (p2 : Int32) (p3 : Int32) (p4 : Int32) (p5 : Int32)  (Q : Int32 → Sto → Prop)  (S : Sto) : Prop := Q ((-1)) S
set_option maxRecDepth 100000 in
set_option maxHeartbeats 4000000 in
theorem l_X9_mix_22 {g : Gv} (p1 : Int32) (p2 : Int32) (p3 : Int32) (p4 : Int32) (p5 : Int32)  (Q : Int32 → Sto → Prop)    (S : Sto)  (h : q_X9_mix_22 p1 p2 p3 p4 p5  Q  S) : RJ g cX9_mix RX9 (some .int) 7 3 22 [(0, .ref (g.1 + 353)), (1, .int p1), (2, .int p2), (3, .int p3), (4, .int p4), (5, .int p5)] [] S (Qi Q) := by
  unfold q_X9_mix_22 at h
  refine J_iconst (v := (-1)) dX9_mix_22 (by decide)  ?_
  exact J_iret dX9_mix_23 rfl rfl ⟨_, rfl, h⟩
def q_X9_mix_27 (p1 : Int32) (p2 : Int32) (p3 : Int32) (p4 : Int32) (p5 : Int32)  (Q : Int32 → Sto → Prop) : Nat → Int32 → Sto → Prop
  | 0, _, _ => False
  | n + 1, x6, S => ((16 ≤ x6 → wp_X9_lays p1 S (fun r_3 S_2 => Q r_3 S_2)) ∧ (¬ 16 ≤ x6 → wp_X9_modulo ((p3 : Int32).toInt64) S (fun r_5 S_4 => vp_in ((16 * p2) + x6) (96) ∧ wp_X9_modulo ((p5 : Int32).toInt64) S_4 (fun r_8 S_7 => vp_in ((16 * p4) + x6) (96) ∧ wp_X9_modulo ((((r_5 : Int32).toInt64) * ((S_4.1 354 ((16 * p2) + x6 : Int32).toNatClampNeg : Int32).toInt64)) + (((r_8 : Int32).toInt64) * ((S_7.1 354 ((16 * p4) + x6 : Int32).toNatClampNeg : Int32).toInt64))) S_7 (fun r_11 S_10 => vp_in x6 (16) ∧ ∀ S_13 : Sto, S_13 = uA S_10 373 (x6 : Int32).toNatClampNeg r_11 → ∀ x6_14 : Int32, x6_14 = x6 + 1 → q_X9_mix_27 p1 p2 p3 p4 p5  Q n x6_14 S_13)))))
set_option maxRecDepth 100000 in
set_option maxHeartbeats 4000000 in
theorem l_X9_mix_27 {g : Gv} (p1 : Int32) (p2 : Int32) (p3 : Int32) (p4 : Int32) (p5 : Int32)  (Q : Int32 → Sto → Prop)   (n : Nat) : ∀ (x6 : Int32) (S : Sto)  (h : q_X9_mix_27 p1 p2 p3 p4 p5  Q n x6 S), RJ g cX9_mix RX9 (some .int) 7 3 27 [(0, .ref (g.1 + 353)), (1, .int p1), (2, .int p2), (3, .int p3), (4, .int p4), (5, .int p5), (6, .int x6)] [] S (Qi Q) := by
  induction n with
  | zero => intro x6 S  h; exact h.elim
  | succ n ih =>
    intro x6 S  h
    unfold q_X9_mix_27 at h
    refine J_iload dX9_mix_27 6 rfl  ?_
    refine J_bipush (v := 16) dX9_mix_29 (by decide)  ?_
    refine J_icmp_ge (tgt := 96) dX9_mix_31 (by decide) (fun c_1 => ?_) (fun c_1 => ?_)
    · have h := h.1 c_1
      refine J_aload_n dX9_mix_96 rfl 0 rfl  ?_
      refine J_iload_n dX9_mix_97 rfl 1 rfl  ?_
      refine J_callV (h := 353) (ci := 7) (As := [.int p1]) (rest := []) (n := 1) dX9_mix_98 (c_X9_lays p1  _ _ h) (by decide) rfl tb_5_52 tb_5_49 tb_1_8 tb_5_51 sl_32 (by decide) rfl (by decide) (by decide) (Nat.le_of_ble_eq_true rfl) rfl (fun v_r_3 S_2 hq => ?_)
      obtain ⟨r_3, rfl, h⟩ := hq
      dsimp only [Option.toList, List.cons_append, List.nil_append]
      exact J_iret dX9_mix_101 rfl rfl ⟨_, rfl, h⟩
    · have h := h.2 c_1
      refine J_aload_n dX9_mix_34 rfl 0 rfl  ?_
      refine J_getr (r := 373) (ci := 7) dX9_mix_35 31 rfl giX9 (by decide) (by decide) rfl rfl tb_4_142 (by decide) (by decide)  ?_
      refine J_iload dX9_mix_38 6 rfl  ?_
      refine J_aload_n dX9_mix_40 rfl 0 rfl  ?_
      refine J_aload_n dX9_mix_41 rfl 0 rfl  ?_
      refine J_iload_n dX9_mix_42 rfl 3 rfl  ?_
      refine J_i2l dX9_mix_43  ?_
      refine J_callV (h := 353) (ci := 7) (As := [.long ((p3 : Int32).toInt64)]) (rest := [.ref (g.1 + 353), .int x6, .ref (g.1 + 373)]) (n := 1) dX9_mix_44 (c_X9_modulo ((p3 : Int32).toInt64)  _ _ h) (by decide) rfl tb_5_37 tb_5_34 tb_1_8 tb_5_36 sl_30 (by decide) rfl (by decide) (by decide) (Nat.le_of_ble_eq_true rfl) rfl (fun v_r_5 S_4 hq => ?_)
      obtain ⟨r_5, rfl, h⟩ := hq
      dsimp only [Option.toList, List.cons_append, List.nil_append]
      refine J_i2l dX9_mix_47  ?_
      refine J_aload_n dX9_mix_48 rfl 0 rfl  ?_
      refine J_getr (r := 354) (ci := 7) dX9_mix_49 4 rfl giX9 (by decide) (by decide) rfl rfl tb_4_115 (by decide) (by decide)  ?_
      refine J_bipush (v := 16) dX9_mix_52 (by decide)  ?_
      refine J_iload_n dX9_mix_54 rfl 2 rfl  ?_
      refine J_imul dX9_mix_55  ?_
      refine J_iload dX9_mix_56 6 rfl  ?_
      refine J_iadd dX9_mix_58  ?_
      obtain ⟨hi_6, h⟩ := h
      refine J_iald dX9_mix_59 (by decide) hi_6  ?_
      refine J_i2l dX9_mix_60  ?_
      refine J_lmul dX9_mix_61  ?_
      refine J_aload_n dX9_mix_62 rfl 0 rfl  ?_
      refine J_iload dX9_mix_63 5 rfl  ?_
      refine J_i2l dX9_mix_65  ?_
      refine J_callV (h := 353) (ci := 7) (As := [.long ((p5 : Int32).toInt64)]) (rest := [.long (((r_5 : Int32).toInt64) * ((S_4.1 354 ((16 * p2) + x6 : Int32).toNatClampNeg : Int32).toInt64)), .ref (g.1 + 353), .int x6, .ref (g.1 + 373)]) (n := 1) dX9_mix_66 (c_X9_modulo ((p5 : Int32).toInt64)  _ _ h) (by decide) rfl tb_5_37 tb_5_34 tb_1_8 tb_5_36 sl_30 (by decide) rfl (by decide) (by decide) (Nat.le_of_ble_eq_true rfl) rfl (fun v_r_8 S_7 hq => ?_)
      obtain ⟨r_8, rfl, h⟩ := hq
      dsimp only [Option.toList, List.cons_append, List.nil_append]
      refine J_i2l dX9_mix_69  ?_
      refine J_aload_n dX9_mix_70 rfl 0 rfl  ?_
      refine J_getr (r := 354) (ci := 7) dX9_mix_71 4 rfl giX9 (by decide) (by decide) rfl rfl tb_4_115 (by decide) (by decide)  ?_
      refine J_bipush (v := 16) dX9_mix_74 (by decide)  ?_
      refine J_iload dX9_mix_76 4 rfl  ?_
      refine J_imul dX9_mix_78  ?_
      refine J_iload dX9_mix_79 6 rfl  ?_
      refine J_iadd dX9_mix_81  ?_
      obtain ⟨hi_9, h⟩ := h
      refine J_iald dX9_mix_82 (by decide) hi_9  ?_
      refine J_i2l dX9_mix_83  ?_
      refine J_lmul dX9_mix_84  ?_
      refine J_ladd dX9_mix_85  ?_
      refine J_callV (h := 353) (ci := 7) (As := [.long ((((r_5 : Int32).toInt64) * ((S_4.1 354 ((16 * p2) + x6 : Int32).toNatClampNeg : Int32).toInt64)) + (((r_8 : Int32).toInt64) * ((S_7.1 354 ((16 * p4) + x6 : Int32).toNatClampNeg : Int32).toInt64)))]) (rest := [.int x6, .ref (g.1 + 373)]) (n := 1) dX9_mix_86 (c_X9_modulo ((((r_5 : Int32).toInt64) * ((S_4.1 354 ((16 * p2) + x6 : Int32).toNatClampNeg : Int32).toInt64)) + (((r_8 : Int32).toInt64) * ((S_7.1 354 ((16 * p4) + x6 : Int32).toNatClampNeg : Int32).toInt64)))  _ _ h) (by decide) rfl tb_5_37 tb_5_34 tb_1_8 tb_5_36 sl_30 (by decide) rfl (by decide) (by decide) (Nat.le_of_ble_eq_true rfl) rfl (fun v_r_11 S_10 hq => ?_)
      obtain ⟨r_11, rfl, h⟩ := hq
      dsimp only [Option.toList, List.cons_append, List.nil_append]
      obtain ⟨hi_12, h⟩ := h
      refine J_iast dX9_mix_89 (by decide) hi_12  ?_
      refine J_nmS (fun S_13 eS_13 => ?_)
      have h := h S_13 eS_13
      obtain ⟨x6_14, ex6_14⟩ : ∃ y : Int32, y = x6 + 1 := ⟨_, rfl⟩
      have h := h x6_14 ex6_14
      refine J_iinc (v := x6_14) (lv' := [(0, .ref (g.1 + 353)), (1, .int p1), (2, .int p2), (3, .int p3), (4, .int p4), (5, .int p5), (6, .int x6_14)]) dX9_mix_90 (q := 6) rfl (by rw [ex6_14]; rfl) (by decide) [1, 2, 3, 4, 5, 6, 0] rfl  ?_
      refine J_goto (tgt := 27) dX9_mix_93 (by decide)  ?_
      exact ih _ _  h
def wp_X9_mix (p1 : Int32) (p2 : Int32) (p3 : Int32) (p4 : Int32) (p5 : Int32) (S : Sto) (Q : Int32 → Sto → Prop) : Prop := wp_X9_isElement p1 S (fun r_2 S_1 => ((r_2 = 0 → q_X9_mix_22 p1 p2 p3 p4 p5  Q  S_1) ∧ (¬ r_2 = 0 → wp_X9_isElement p2 S_1 (fun r_5 S_4 => ((r_5 = 0 → q_X9_mix_22 p1 p2 p3 p4 p5  Q  S_4) ∧ (¬ r_5 = 0 → wp_X9_isElement p4 S_4 (fun r_8 S_7 => ((¬ r_8 = 0 → (∃ n_27, q_X9_mix_27 p1 p2 p3 p4 p5  Q n_27 0 S_7)) ∧ (r_8 = 0 → q_X9_mix_22 p1 p2 p3 p4 p5  Q  S_7)))))))))
set_option maxRecDepth 100000 in
set_option maxHeartbeats 4000000 in
theorem c_X9_mix {g : Gv} (p1 : Int32) (p2 : Int32) (p3 : Int32) (p4 : Int32) (p5 : Int32)  (S : Sto) (Q : Int32 → Sto → Prop) (h : wp_X9_mix p1 p2 p3 p4 p5 S Q) : CT g yX9_mix cX9_mix 7 (some .int) 3 [.ref (g.1 + 353), .int p1, .int p2, .int p3, .int p4, .int p5] S (Qi Q) := by
  unfold wp_X9_mix at h
  refine CT.of (by decide) (Nat.le_of_ble_eq_true rfl) ?_
  refine J_sub (lv' := [(0, .ref (g.1 + 353)), (1, .int p1), (2, .int p2), (3, .int p3), (4, .int p4), (5, .int p5)]) [0, 1, 2, 3, 4, 5] rfl ?_
  refine J_iload_n dX9_mix_0 rfl 1 rfl  ?_
  refine J_callS (As := [.int p1]) (rest := []) (n := 1) dX9_mix_1 (c_X9_isElement p1  _ _ h) tb_5_28 tb_5_26 tb_1_8 tb_5_27 (by decide) rfl (by decide) (by decide) (Nat.le_of_ble_eq_true rfl) rfl (fun v_r_2 S_1 hq => ?_)
  obtain ⟨r_2, rfl, h⟩ := hq
  dsimp only [Option.toList, List.cons_append, List.nil_append]
  refine J_if_eq (tgt := 22) dX9_mix_4 (by decide) (fun c_3 => ?_) (fun c_3 => ?_)
  · have h := h.1 c_3
    exact l_X9_mix_22 p1 p2 p3 p4 p5  _    _  h
  · have h := h.2 c_3
    refine J_iload_n dX9_mix_7 rfl 2 rfl  ?_
    refine J_callS (As := [.int p2]) (rest := []) (n := 1) dX9_mix_8 (c_X9_isElement p2  _ _ h) tb_5_28 tb_5_26 tb_1_8 tb_5_27 (by decide) rfl (by decide) (by decide) (Nat.le_of_ble_eq_true rfl) rfl (fun v_r_5 S_4 hq => ?_)
    obtain ⟨r_5, rfl, h⟩ := hq
    dsimp only [Option.toList, List.cons_append, List.nil_append]
    refine J_if_eq (tgt := 22) dX9_mix_11 (by decide) (fun c_6 => ?_) (fun c_6 => ?_)
    · have h := h.1 c_6
      exact l_X9_mix_22 p1 p2 p3 p4 p5  _    _  h
    · have h := h.2 c_6
      refine J_iload dX9_mix_14 4 rfl  ?_
      refine J_callS (As := [.int p4]) (rest := []) (n := 1) dX9_mix_16 (c_X9_isElement p4  _ _ h) tb_5_28 tb_5_26 tb_1_8 tb_5_27 (by decide) rfl (by decide) (by decide) (Nat.le_of_ble_eq_true rfl) rfl (fun v_r_8 S_7 hq => ?_)
      obtain ⟨r_8, rfl, h⟩ := hq
      dsimp only [Option.toList, List.cons_append, List.nil_append]
      refine J_if_ne (tgt := 24) dX9_mix_19 (by decide) (fun c_9 => ?_) (fun c_9 => ?_)
      · have h := h.1 c_9
        refine J_iconst (v := 0) dX9_mix_24 (by decide)  ?_
        refine J_istore (lv' := [(0, .ref (g.1 + 353)), (1, .int p1), (2, .int p2), (3, .int p3), (4, .int p4), (5, .int p5), (6, .int 0)]) dX9_mix_25 (by decide) [1, 2, 3, 4, 5, 6, 0] rfl  ?_
        obtain ⟨n, h⟩ := h
        exact l_X9_mix_27 p1 p2 p3 p4 p5  _   n _ _  h
      · have h := h.2 c_9
        exact l_X9_mix_22 p1 p2 p3 p4 p5  _    _  h
def q_X9_rests_68 (p1 : Int32) (R39 : Int32 → Sto → Prop) (Q : Sto → Prop) (x2 : Int32) (t1 : Int32) (t2 : Int32) (S : Sto) : Prop := vp_in t1 (16) ∧ ∀ S_2 : Sto, S_2 = uA S 373 (t1 : Int32).toNatClampNeg t2 → ∀ x2_3 : Int32, x2_3 = x2 + 1 → R39 x2_3 S_2
set_option maxRecDepth 100000 in
set_option maxHeartbeats 4000000 in
theorem l_X9_rests_68 {g : Gv} (p1 : Int32) (R39 : Int32 → Sto → Prop) (Q : Sto → Prop) (hR39 : ∀ (y2 : Int32) (S : Sto), R39 y2 S → RJ g cX9_rests RX9 none 3 3 39 [(0, .ref (g.1 + 353)), (1, .int p1), (2, .int y2)] [] S (Qv Q))  (x2 : Int32) (t1 : Int32) (t2 : Int32) (S : Sto)  (h : q_X9_rests_68 p1 R39 Q x2 t1 t2 S) : RJ g cX9_rests RX9 none 3 3 68 [(0, .ref (g.1 + 353)), (1, .int p1), (2, .int x2)] [.int t2, .int t1, .ref (g.1 + 373)] S (Qv Q) := by
  unfold q_X9_rests_68 at h
  obtain ⟨hi_1, h⟩ := h
  refine J_iast dX9_rests_68 (by decide) hi_1  ?_
  refine J_nmS (fun S_2 eS_2 => ?_)
  have h := h S_2 eS_2
  obtain ⟨x2_3, ex2_3⟩ : ∃ y : Int32, y = x2 + 1 := ⟨_, rfl⟩
  have h := h x2_3 ex2_3
  refine J_iinc (v := x2_3) (lv' := [(0, .ref (g.1 + 353)), (1, .int p1), (2, .int x2_3)]) dX9_rests_69 (q := 2) rfl (by rw [ex2_3]; rfl) (by decide) [1, 2, 0] rfl  ?_
  refine J_goto (tgt := 39) dX9_rests_72 (by decide)  ?_
  exact hR39 _ _  h
def q_X9_rests_39 (p1 : Int32)  (Q : Sto → Prop) : Nat → Int32 → Sto → Prop
  | 0, _, _ => False
  | n + 1, x2, S => ((16 ≤ x2 → Q S) ∧ (¬ 16 ≤ x2 → (((S.1 353 3) ≤ x2 → q_X9_rests_68 p1 (fun y2 S => q_X9_rests_39 p1  Q n y2 S) Q x2 x2 0 S) ∧ (¬ (S.1 353 3) ≤ x2 → vp_in x2 (256) ∧ q_X9_rests_68 p1 (fun y2 S => q_X9_rests_39 p1  Q n y2 S) Q x2 x2 (S.1 370 (x2 : Int32).toNatClampNeg) S))))
set_option maxRecDepth 100000 in
set_option maxHeartbeats 4000000 in
theorem l_X9_rests_39 {g : Gv} (p1 : Int32)  (Q : Sto → Prop)   (n : Nat) : ∀ (x2 : Int32) (S : Sto)  (h : q_X9_rests_39 p1  Q n x2 S), RJ g cX9_rests RX9 none 3 3 39 [(0, .ref (g.1 + 353)), (1, .int p1), (2, .int x2)] [] S (Qv Q) := by
  induction n with
  | zero => intro x2 S  h; exact h.elim
  | succ n ih =>
    intro x2 S  h
    unfold q_X9_rests_39 at h
    refine J_iload_n dX9_rests_39 rfl 2 rfl  ?_
    refine J_bipush (v := 16) dX9_rests_40 (by decide)  ?_
    refine J_icmp_ge (tgt := 75) dX9_rests_42 (by decide) (fun c_1 => ?_) (fun c_1 => ?_)
    · have h := h.1 c_1
      exact J_vret dX9_rests_75 rfl ⟨rfl, h⟩
    · have h := h.2 c_1
      refine J_aload_n dX9_rests_45 rfl 0 rfl  ?_
      refine J_getr (r := 373) (ci := 7) dX9_rests_46 31 rfl giX9 (by decide) (by decide) rfl rfl tb_4_142 (by decide) (by decide)  ?_
      refine J_iload_n dX9_rests_49 rfl 2 rfl  ?_
      refine J_iload_n dX9_rests_50 rfl 2 rfl  ?_
      refine J_aload_n dX9_rests_51 rfl 0 rfl  ?_
      refine J_geti (ci := 7) dX9_rests_52 3 rfl giX9 (by decide) (by decide) rfl rfl tb_4_114 rfl  ?_
      refine J_icmp_ge (tgt := 67) dX9_rests_55 (by decide) (fun c_2 => ?_) (fun c_2 => ?_)
      · have h := h.1 c_2
        refine J_iconst (v := 0) dX9_rests_67 (by decide)  ?_
        exact l_X9_rests_68 p1 _ _ (fun y2 S  h => ih y2 S  h)  _ _ _ _  h
      · have h := h.2 c_2
        refine J_aload_n dX9_rests_58 rfl 0 rfl  ?_
        refine J_getr (r := 370) (ci := 7) dX9_rests_59 28 rfl giX9 (by decide) (by decide) rfl rfl tb_4_139 (by decide) (by decide)  ?_
        refine J_iload_n dX9_rests_62 rfl 2 rfl  ?_
        obtain ⟨hi_3, h⟩ := h
        refine J_iald dX9_rests_63 (by decide) hi_3  ?_
        refine J_goto (tgt := 68) dX9_rests_64 (by decide)  ?_
        exact l_X9_rests_68 p1 _ _ (fun y2 S  h => ih y2 S  h)  _ _ _ _  h
def q_X9_rests_2 (p1 : Int32)  (Q : Sto → Prop) : Nat → Int32 → Sto → Prop
  | 0, _, _ => False
  | n + 1, x2, S => (((S.1 353 3) ≤ x2 → wp_X9_reduce  S (fun S_2 => (∃ n_39, q_X9_rests_39 p1  Q n_39 0 S_2))) ∧ (¬ (S.1 353 3) ≤ x2 → vp_in ((16 * p1) + x2) (96) ∧ vp_in x2 (256) ∧ ∀ S_6 : Sto, S_6 = uA S 370 (x2 : Int32).toNatClampNeg (S.1 354 ((16 * p1) + x2 : Int32).toNatClampNeg) → ∀ x2_7 : Int32, x2_7 = x2 + 1 → q_X9_rests_2 p1  Q n x2_7 S_6))
set_option maxRecDepth 100000 in
set_option maxHeartbeats 4000000 in
theorem l_X9_rests_2 {g : Gv} (p1 : Int32)  (Q : Sto → Prop)   (n : Nat) : ∀ (x2 : Int32) (S : Sto)  (h : q_X9_rests_2 p1  Q n x2 S), RJ g cX9_rests RX9 none 3 3 2 [(0, .ref (g.1 + 353)), (1, .int p1), (2, .int x2)] [] S (Qv Q) := by
  induction n with
  | zero => intro x2 S  h; exact h.elim
  | succ n ih =>
    intro x2 S  h
    unfold q_X9_rests_2 at h
    refine J_iload_n dX9_rests_2 rfl 2 rfl  ?_
    refine J_aload_n dX9_rests_3 rfl 0 rfl  ?_
    refine J_geti (ci := 7) dX9_rests_4 3 rfl giX9 (by decide) (by decide) rfl rfl tb_4_114 rfl  ?_
    refine J_icmp_ge (tgt := 33) dX9_rests_7 (by decide) (fun c_1 => ?_) (fun c_1 => ?_)
    · have h := h.1 c_1
      refine J_aload_n dX9_rests_33 rfl 0 rfl  ?_
      refine J_callV (h := 353) (ci := 7) (As := []) (rest := []) (n := 0) dX9_rests_34 (c_X9_reduce   _ _ h) (by decide) rfl tb_5_92 tb_5_89 tb_1_8 tb_5_91 sl_39 (by decide) rfl (by decide) (by decide) (Nat.le_of_ble_eq_true rfl) rfl (fun v_r_3 S_2 hq => ?_)
      obtain ⟨rfl, h⟩ := hq
      dsimp only [Option.toList, List.cons_append, List.nil_append]
      refine J_iconst (v := 0) dX9_rests_37 (by decide)  ?_
      refine J_istore_n (lv' := [(0, .ref (g.1 + 353)), (1, .int p1), (2, .int 0)]) dX9_rests_38 rfl (by decide) [1, 2, 0] rfl  ?_
      obtain ⟨n, h⟩ := h
      exact l_X9_rests_39 p1  _   n _ _  h
    · have h := h.2 c_1
      refine J_aload_n dX9_rests_10 rfl 0 rfl  ?_
      refine J_getr (r := 370) (ci := 7) dX9_rests_11 28 rfl giX9 (by decide) (by decide) rfl rfl tb_4_139 (by decide) (by decide)  ?_
      refine J_iload_n dX9_rests_14 rfl 2 rfl  ?_
      refine J_aload_n dX9_rests_15 rfl 0 rfl  ?_
      refine J_getr (r := 354) (ci := 7) dX9_rests_16 4 rfl giX9 (by decide) (by decide) rfl rfl tb_4_115 (by decide) (by decide)  ?_
      refine J_bipush (v := 16) dX9_rests_19 (by decide)  ?_
      refine J_iload_n dX9_rests_21 rfl 1 rfl  ?_
      refine J_imul dX9_rests_22  ?_
      refine J_iload_n dX9_rests_23 rfl 2 rfl  ?_
      refine J_iadd dX9_rests_24  ?_
      obtain ⟨hi_4, h⟩ := h
      refine J_iald dX9_rests_25 (by decide) hi_4  ?_
      obtain ⟨hi_5, h⟩ := h
      refine J_iast dX9_rests_26 (by decide) hi_5  ?_
      refine J_nmS (fun S_6 eS_6 => ?_)
      have h := h S_6 eS_6
      obtain ⟨x2_7, ex2_7⟩ : ∃ y : Int32, y = x2 + 1 := ⟨_, rfl⟩
      have h := h x2_7 ex2_7
      refine J_iinc (v := x2_7) (lv' := [(0, .ref (g.1 + 353)), (1, .int p1), (2, .int x2_7)]) dX9_rests_27 (q := 2) rfl (by rw [ex2_7]; rfl) (by decide) [1, 2, 0] rfl  ?_
      refine J_goto (tgt := 2) dX9_rests_30 (by decide)  ?_
      exact ih _ _  h
def wp_X9_rests (p1 : Int32) (S : Sto) (Q : Sto → Prop) : Prop := (∃ n_2, q_X9_rests_2 p1  Q n_2 0 S)
set_option maxRecDepth 100000 in
set_option maxHeartbeats 4000000 in
theorem c_X9_rests {g : Gv} (p1 : Int32)  (S : Sto) (Q : Sto → Prop) (h : wp_X9_rests p1 S Q) : CT g yX9_rests cX9_rests 3 none 3 [.ref (g.1 + 353), .int p1] S (Qv Q) := by
  unfold wp_X9_rests at h
  refine CT.of (by decide) (Nat.le_of_ble_eq_true rfl) ?_
  refine J_sub (lv' := [(0, .ref (g.1 + 353)), (1, .int p1)]) [0, 1] rfl ?_
  refine J_iconst (v := 0) dX9_rests_0 (by decide)  ?_
  refine J_istore_n (lv' := [(0, .ref (g.1 + 353)), (1, .int p1), (2, .int 0)]) dX9_rests_1 rfl (by decide) [1, 2, 0] rfl  ?_
  obtain ⟨n, h⟩ := h
  exact l_X9_rests_2 p1  _   n _ _  h
def q_X9_becomes_26 (p1 : Int32) (p2 : Int32) (p3 : Int32)  (Q : Int32 → Sto → Prop)  (S : Sto) : Prop := Q ((-1)) S
set_option maxRecDepth 100000 in
set_option maxHeartbeats 4000000 in
theorem l_X9_becomes_26 {g : Gv} (p1 : Int32) (p2 : Int32) (p3 : Int32)  (Q : Int32 → Sto → Prop)    (S : Sto)  (h : q_X9_becomes_26 p1 p2 p3  Q  S) : RJ g cX9_becomes RX9 (some .int) 6 6 26 [(0, .ref (g.1 + 353)), (1, .int p1), (2, .int p2), (3, .int p3)] [] S (Qi Q) := by
  unfold q_X9_becomes_26 at h
  refine J_iconst (v := (-1)) dX9_becomes_26 (by decide)  ?_
  exact J_iret dX9_becomes_27 rfl rfl ⟨_, rfl, h⟩
def q_X9_becomes_193 (p1 : Int32) (p2 : Int32) (p3 : Int32) (R54 : Int32 → Sto → Prop) (Q : Int32 → Sto → Prop) (x4 : Int32) (S : Sto) : Prop := ∀ x4_1 : Int32, x4_1 = x4 + 1 → R54 x4_1 S
set_option maxRecDepth 100000 in
set_option maxHeartbeats 4000000 in
theorem l_X9_becomes_193 {g : Gv} (p1 : Int32) (p2 : Int32) (p3 : Int32) (R54 : Int32 → Sto → Prop) (Q : Int32 → Sto → Prop) (hR54 : ∀ (y4 : Int32) (S : Sto), R54 y4 S → RJ g cX9_becomes RX9 (some .int) 6 6 54 [(0, .ref (g.1 + 353)), (1, .int p1), (2, .int p2), (3, .int p3), (4, .int y4)] [] S (Qi Q))  (x4 : Int32) (S : Sto)  (h : q_X9_becomes_193 p1 p2 p3 R54 Q x4 S) : RJ g cX9_becomes RX9 (some .int) 6 6 193 [(0, .ref (g.1 + 353)), (1, .int p1), (2, .int p2), (3, .int p3), (4, .int x4)] [] S (Qi Q) := by
  unfold q_X9_becomes_193 at h
  obtain ⟨x4_1, ex4_1⟩ : ∃ y : Int32, y = x4 + 1 := ⟨_, rfl⟩
  have h := h x4_1 ex4_1
  refine J_iinc (v := x4_1) (lv' := [(0, .ref (g.1 + 353)), (1, .int p1), (2, .int p2), (3, .int p3), (4, .int x4_1)]) dX9_becomes_193 (q := 4) rfl (by rw [ex4_1]; rfl) (by decide) [1, 2, 3, 4, 0] rfl  ?_
  refine J_goto (tgt := 54) dX9_becomes_196 (by decide)  ?_
  exact hR54 _ _  h
def q_X9_becomes_154 (p1 : Int32) (p2 : Int32) (p3 : Int32) (R54 : Int32 → Sto → Prop) (Q : Int32 → Sto → Prop) (x4 : Int32) (t1 : Int32) (t3 : Int64) (S : Sto) : Prop := wp_X9_modulo t3 S (fun r_2 S_1 => vp_in t1 (16) ∧ ∀ S_4 : Sto, S_4 = uA S_1 373 (t1 : Int32).toNatClampNeg r_2 → q_X9_becomes_193 p1 p2 p3 R54 Q x4 S_4)
set_option maxRecDepth 100000 in
set_option maxHeartbeats 4000000 in
theorem l_X9_becomes_154 {g : Gv} (p1 : Int32) (p2 : Int32) (p3 : Int32) (R54 : Int32 → Sto → Prop) (Q : Int32 → Sto → Prop) (hR54 : ∀ (y4 : Int32) (S : Sto), R54 y4 S → RJ g cX9_becomes RX9 (some .int) 6 6 54 [(0, .ref (g.1 + 353)), (1, .int p1), (2, .int p2), (3, .int p3), (4, .int y4)] [] S (Qi Q))  (x4 : Int32) (t1 : Int32) (t3 : Int64) (S : Sto)  (h : q_X9_becomes_154 p1 p2 p3 R54 Q x4 t1 t3 S) : RJ g cX9_becomes RX9 (some .int) 6 6 154 [(0, .ref (g.1 + 353)), (1, .int p1), (2, .int p2), (3, .int p3), (4, .int x4)] [.long t3, .ref (g.1 + 353), .int t1, .ref (g.1 + 373)] S (Qi Q) := by
  unfold q_X9_becomes_154 at h
  refine J_callV (h := 353) (ci := 7) (As := [.long t3]) (rest := [.int t1, .ref (g.1 + 373)]) (n := 1) dX9_becomes_154 (c_X9_modulo t3  _ _ h) (by decide) rfl tb_5_37 tb_5_34 tb_1_8 tb_5_36 sl_30 (by decide) rfl (by decide) (by decide) (Nat.le_of_ble_eq_true rfl) rfl (fun v_r_2 S_1 hq => ?_)
  obtain ⟨r_2, rfl, h⟩ := hq
  dsimp only [Option.toList, List.cons_append, List.nil_append]
  obtain ⟨hi_3, h⟩ := h
  refine J_iast dX9_becomes_157 (by decide) hi_3  ?_
  refine J_nmS (fun S_4 eS_4 => ?_)
  have h := h S_4 eS_4
  refine J_goto (tgt := 193) dX9_becomes_158 (by decide)  ?_
  exact l_X9_becomes_193 p1 p2 p3 _ _ hR54  _ _  h
def q_X9_becomes_54 (p1 : Int32) (p2 : Int32) (p3 : Int32)  (Q : Int32 → Sto → Prop) : Nat → Int32 → Sto → Prop
  | 0, _, _ => False
  | n + 1, x4, S => ((16 ≤ x4 → wp_X9_lays p1 S (fun r_3 S_2 => Q r_3 S_2)) ∧ (¬ 16 ≤ x4 → vp_in x4 (16) ∧ ∀ S_5 : Sto, S_5 = uA S 373 (x4 : Int32).toNatClampNeg 0 → ((x4 < (S_5.1 353 3) → ∀ x5_7 : Int32, x5_7 = ((S_5.1 353 3) - 1) - x4 → ((¬ p3 = 0 → wp_X9_sign x5_7 x4 S_5 (fun r_10 S_9 => vp_in ((16 * p2) + x5_7) (96) ∧ wp_X9_modulo ((r_10 * (S_9.1 354 ((16 * p2) + x5_7 : Int32).toNatClampNeg) : Int32).toInt64) S_9 (fun r_13 S_12 => vp_in x4 (16) ∧ ∀ S_15 : Sto, S_15 = uA S_12 373 (x4 : Int32).toNatClampNeg r_13 → q_X9_becomes_193 p1 p2 p3 (fun y4 S => q_X9_becomes_54 p1 p2 p3  Q n y4 S) Q x4 S_15))) ∧ (p3 = 0 → wp_X9_degree x4 S_5 (fun r_17 S_16 => wp_X9_degree x4 S_16 (fun r_19 S_18 => ((¬ (((r_17 * (r_19 - 1)) / 2) - ((r_17 * (r_19 - 1)) / 2) / 2 * 2) = 1 → vp_in ((16 * p2) + x4) (96) ∧ q_X9_becomes_154 p1 p2 p3 (fun y4 S => q_X9_becomes_54 p1 p2 p3  Q n y4 S) Q x4 x4 ((S_18.1 354 ((16 * p2) + x4 : Int32).toNatClampNeg : Int32).toInt64) S_18) ∧ ((((r_17 * (r_19 - 1)) / 2) - ((r_17 * (r_19 - 1)) / 2) / 2 * 2) = 1 → vp_in ((16 * p2) + x4) (96) ∧ q_X9_becomes_154 p1 p2 p3 (fun y4 S => q_X9_becomes_54 p1 p2 p3  Q n y4 S) Q x4 x4 ((-(S_18.1 354 ((16 * p2) + x4 : Int32).toNatClampNeg) : Int32).toInt64) S_18))))))) ∧ (¬ x4 < (S_5.1 353 3) → q_X9_becomes_193 p1 p2 p3 (fun y4 S => q_X9_becomes_54 p1 p2 p3  Q n y4 S) Q x4 S_5))))
set_option maxRecDepth 100000 in
set_option maxHeartbeats 4000000 in
theorem l_X9_becomes_54 {g : Gv} (p1 : Int32) (p2 : Int32) (p3 : Int32)  (Q : Int32 → Sto → Prop)   (n : Nat) : ∀ (x4 : Int32) (S : Sto)  (h : q_X9_becomes_54 p1 p2 p3  Q n x4 S), RJ g cX9_becomes RX9 (some .int) 6 6 54 [(0, .ref (g.1 + 353)), (1, .int p1), (2, .int p2), (3, .int p3), (4, .int x4)] [] S (Qi Q) := by
  induction n with
  | zero => intro x4 S  h; exact h.elim
  | succ n ih =>
    intro x4 S  h
    unfold q_X9_becomes_54 at h
    refine J_iload dX9_becomes_54 4 rfl  ?_
    refine J_bipush (v := 16) dX9_becomes_56 (by decide)  ?_
    refine J_icmp_ge (tgt := 199) dX9_becomes_58 (by decide) (fun c_1 => ?_) (fun c_1 => ?_)
    · have h := h.1 c_1
      refine J_aload_n dX9_becomes_199 rfl 0 rfl  ?_
      refine J_iload_n dX9_becomes_200 rfl 1 rfl  ?_
      refine J_callV (h := 353) (ci := 7) (As := [.int p1]) (rest := []) (n := 1) dX9_becomes_201 (c_X9_lays p1  _ _ h) (by decide) rfl tb_5_52 tb_5_49 tb_1_8 tb_5_51 sl_32 (by decide) rfl (by decide) (by decide) (Nat.le_of_ble_eq_true rfl) rfl (fun v_r_3 S_2 hq => ?_)
      obtain ⟨r_3, rfl, h⟩ := hq
      dsimp only [Option.toList, List.cons_append, List.nil_append]
      exact J_iret dX9_becomes_204 rfl rfl ⟨_, rfl, h⟩
    · have h := h.2 c_1
      refine J_aload_n dX9_becomes_61 rfl 0 rfl  ?_
      refine J_getr (r := 373) (ci := 7) dX9_becomes_62 31 rfl giX9 (by decide) (by decide) rfl rfl tb_4_142 (by decide) (by decide)  ?_
      refine J_iload dX9_becomes_65 4 rfl  ?_
      refine J_iconst (v := 0) dX9_becomes_67 (by decide)  ?_
      obtain ⟨hi_4, h⟩ := h
      refine J_iast dX9_becomes_68 (by decide) hi_4  ?_
      refine J_nmS (fun S_5 eS_5 => ?_)
      have h := h S_5 eS_5
      refine J_iload dX9_becomes_69 4 rfl  ?_
      refine J_aload_n dX9_becomes_71 rfl 0 rfl  ?_
      refine J_geti (ci := 7) dX9_becomes_72 3 rfl giX9 (by decide) (by decide) rfl rfl tb_4_114 rfl  ?_
      refine J_icmp_lt (tgt := 81) dX9_becomes_75 (by decide) (fun c_6 => ?_) (fun c_6 => ?_)
      · have h := h.1 c_6
        refine J_aload_n dX9_becomes_81 rfl 0 rfl  ?_
        refine J_geti (ci := 7) dX9_becomes_82 3 rfl giX9 (by decide) (by decide) rfl rfl tb_4_114 rfl  ?_
        refine J_iconst (v := 1) dX9_becomes_85 (by decide)  ?_
        refine J_isub dX9_becomes_86  ?_
        refine J_iload dX9_becomes_87 4 rfl  ?_
        refine J_isub dX9_becomes_89  ?_
        refine J_topi (fun x5_7 ex5_7 => ?_)
        have h := h x5_7 ex5_7
        refine J_istore (lv' := [(0, .ref (g.1 + 353)), (1, .int p1), (2, .int p2), (3, .int p3), (4, .int x4), (5, .int x5_7)]) dX9_becomes_90 (by decide) [1, 2, 3, 4, 5, 0] rfl  ?_
        refine J_iload_n dX9_becomes_92 rfl 3 rfl  ?_
        refine J_if_ne (tgt := 161) dX9_becomes_93 (by decide) (fun c_8 => ?_) (fun c_8 => ?_)
        · have h := h.1 c_8
          refine J_aload_n dX9_becomes_161 rfl 0 rfl  ?_
          refine J_getr (r := 373) (ci := 7) dX9_becomes_162 31 rfl giX9 (by decide) (by decide) rfl rfl tb_4_142 (by decide) (by decide)  ?_
          refine J_iload dX9_becomes_165 4 rfl  ?_
          refine J_aload_n dX9_becomes_167 rfl 0 rfl  ?_
          refine J_iload dX9_becomes_168 5 rfl  ?_
          refine J_iload dX9_becomes_170 4 rfl  ?_
          refine J_callS (As := [.int x5_7, .int x4]) (rest := [.ref (g.1 + 353), .int x4, .ref (g.1 + 373)]) (n := 2) dX9_becomes_172 (c_X9_sign x5_7 x4  _ _ h) tb_5_48 tb_5_46 tb_1_8 tb_5_47 (by decide) rfl (by decide) (by decide) (Nat.le_of_ble_eq_true rfl) rfl (fun v_r_10 S_9 hq => ?_)
          obtain ⟨r_10, rfl, h⟩ := hq
          dsimp only [Option.toList, List.cons_append, List.nil_append]
          refine J_aload_n dX9_becomes_175 rfl 0 rfl  ?_
          refine J_getr (r := 354) (ci := 7) dX9_becomes_176 4 rfl giX9 (by decide) (by decide) rfl rfl tb_4_115 (by decide) (by decide)  ?_
          refine J_bipush (v := 16) dX9_becomes_179 (by decide)  ?_
          refine J_iload_n dX9_becomes_181 rfl 2 rfl  ?_
          refine J_imul dX9_becomes_182  ?_
          refine J_iload dX9_becomes_183 5 rfl  ?_
          refine J_iadd dX9_becomes_185  ?_
          obtain ⟨hi_11, h⟩ := h
          refine J_iald dX9_becomes_186 (by decide) hi_11  ?_
          refine J_imul dX9_becomes_187  ?_
          refine J_i2l dX9_becomes_188  ?_
          refine J_callV (h := 353) (ci := 7) (As := [.long ((r_10 * (S_9.1 354 ((16 * p2) + x5_7 : Int32).toNatClampNeg) : Int32).toInt64)]) (rest := [.int x4, .ref (g.1 + 373)]) (n := 1) dX9_becomes_189 (c_X9_modulo ((r_10 * (S_9.1 354 ((16 * p2) + x5_7 : Int32).toNatClampNeg) : Int32).toInt64)  _ _ h) (by decide) rfl tb_5_37 tb_5_34 tb_1_8 tb_5_36 sl_30 (by decide) rfl (by decide) (by decide) (Nat.le_of_ble_eq_true rfl) rfl (fun v_r_13 S_12 hq => ?_)
          obtain ⟨r_13, rfl, h⟩ := hq
          dsimp only [Option.toList, List.cons_append, List.nil_append]
          obtain ⟨hi_14, h⟩ := h
          refine J_iast dX9_becomes_192 (by decide) hi_14  ?_
          refine J_nmS (fun S_15 eS_15 => ?_)
          have h := h S_15 eS_15
          refine J_sub (lv' := [(0, .ref (g.1 + 353)), (1, .int p1), (2, .int p2), (3, .int p3), (4, .int x4)]) [0, 1, 2, 3, 4] rfl ?_
          exact l_X9_becomes_193 p1 p2 p3 _ _ (fun y4 S  h => ih y4 S  h)  _ _  h
        · have h := h.2 c_8
          refine J_aload_n dX9_becomes_96 rfl 0 rfl  ?_
          refine J_getr (r := 373) (ci := 7) dX9_becomes_97 31 rfl giX9 (by decide) (by decide) rfl rfl tb_4_142 (by decide) (by decide)  ?_
          refine J_iload dX9_becomes_100 4 rfl  ?_
          refine J_aload_n dX9_becomes_102 rfl 0 rfl  ?_
          refine J_iload dX9_becomes_103 4 rfl  ?_
          refine J_callS (As := [.int x4]) (rest := [.ref (g.1 + 353), .int x4, .ref (g.1 + 373)]) (n := 1) dX9_becomes_105 (c_X9_degree x4  _ _ h) tb_5_75 tb_5_73 tb_1_8 tb_5_74 (by decide) rfl (by decide) (by decide) (Nat.le_of_ble_eq_true rfl) rfl (fun v_r_17 S_16 hq => ?_)
          obtain ⟨r_17, rfl, h⟩ := hq
          dsimp only [Option.toList, List.cons_append, List.nil_append]
          refine J_iload dX9_becomes_108 4 rfl  ?_
          refine J_callS (As := [.int x4]) (rest := [.int r_17, .ref (g.1 + 353), .int x4, .ref (g.1 + 373)]) (n := 1) dX9_becomes_110 (c_X9_degree x4  _ _ h) tb_5_75 tb_5_73 tb_1_8 tb_5_74 (by decide) rfl (by decide) (by decide) (Nat.le_of_ble_eq_true rfl) rfl (fun v_r_19 S_18 hq => ?_)
          obtain ⟨r_19, rfl, h⟩ := hq
          dsimp only [Option.toList, List.cons_append, List.nil_append]
          refine J_iconst (v := 1) dX9_becomes_113 (by decide)  ?_
          refine J_isub dX9_becomes_114  ?_
          refine J_imul dX9_becomes_115  ?_
          refine J_iconst (v := 2) dX9_becomes_116 (by decide)  ?_
          refine J_idiv dX9_becomes_117 (by decide)  ?_
          refine J_iconst (v := 2) dX9_becomes_118 (by decide)  ?_
          refine J_irem dX9_becomes_119 (by decide)  ?_
          refine J_iconst (v := 1) dX9_becomes_120 (by decide)  ?_
          refine J_icmp_ne (tgt := 141) dX9_becomes_121 (by decide) (fun c_20 => ?_) (fun c_20 => ?_)
          · have h := h.1 c_20
            refine J_aload_n dX9_becomes_141 rfl 0 rfl  ?_
            refine J_getr (r := 354) (ci := 7) dX9_becomes_142 4 rfl giX9 (by decide) (by decide) rfl rfl tb_4_115 (by decide) (by decide)  ?_
            refine J_bipush (v := 16) dX9_becomes_145 (by decide)  ?_
            refine J_iload_n dX9_becomes_147 rfl 2 rfl  ?_
            refine J_imul dX9_becomes_148  ?_
            refine J_iload dX9_becomes_149 4 rfl  ?_
            refine J_iadd dX9_becomes_151  ?_
            obtain ⟨hi_21, h⟩ := h
            refine J_iald dX9_becomes_152 (by decide) hi_21  ?_
            refine J_i2l dX9_becomes_153  ?_
            refine J_sub (lv' := [(0, .ref (g.1 + 353)), (1, .int p1), (2, .int p2), (3, .int p3), (4, .int x4)]) [0, 1, 2, 3, 4] rfl ?_
            exact l_X9_becomes_154 p1 p2 p3 _ _ (fun y4 S  h => ih y4 S  h)  _ _ _ _  h
          · have h := h.2 c_20
            refine J_aload_n dX9_becomes_124 rfl 0 rfl  ?_
            refine J_getr (r := 354) (ci := 7) dX9_becomes_125 4 rfl giX9 (by decide) (by decide) rfl rfl tb_4_115 (by decide) (by decide)  ?_
            refine J_bipush (v := 16) dX9_becomes_128 (by decide)  ?_
            refine J_iload_n dX9_becomes_130 rfl 2 rfl  ?_
            refine J_imul dX9_becomes_131  ?_
            refine J_iload dX9_becomes_132 4 rfl  ?_
            refine J_iadd dX9_becomes_134  ?_
            obtain ⟨hi_22, h⟩ := h
            refine J_iald dX9_becomes_135 (by decide) hi_22  ?_
            refine J_ineg dX9_becomes_136  ?_
            refine J_i2l dX9_becomes_137  ?_
            refine J_goto (tgt := 154) dX9_becomes_138 (by decide)  ?_
            refine J_sub (lv' := [(0, .ref (g.1 + 353)), (1, .int p1), (2, .int p2), (3, .int p3), (4, .int x4)]) [0, 1, 2, 3, 4] rfl ?_
            exact l_X9_becomes_154 p1 p2 p3 _ _ (fun y4 S  h => ih y4 S  h)  _ _ _ _  h
      · have h := h.2 c_6
        refine J_goto (tgt := 193) dX9_becomes_78 (by decide)  ?_
        exact l_X9_becomes_193 p1 p2 p3 _ _ (fun y4 S  h => ih y4 S  h)  _ _  h
def wp_X9_becomes (p1 : Int32) (p2 : Int32) (p3 : Int32) (S : Sto) (Q : Int32 → Sto → Prop) : Prop := wp_X9_isElement p1 S (fun r_2 S_1 => ((r_2 = 0 → q_X9_becomes_26 p1 p2 p3  Q  S_1) ∧ (¬ r_2 = 0 → wp_X9_isElement p2 S_1 (fun r_5 S_4 => ((r_5 = 0 → q_X9_becomes_26 p1 p2 p3  Q  S_4) ∧ (¬ r_5 = 0 → wp_X9_in ((p3 : Int32).toInt64) 0 4 S_4 (fun r_8 S_7 => ((¬ r_8 = 0 → ((p3 < 2 → (∃ n_54, q_X9_becomes_54 p1 p2 p3  Q n_54 0 S_7)) ∧ (¬ p3 < 2 → wp_X9_spans (p3 - 2) S_7 (fun S_11 => wp_X9_rests p2 S_11 (fun S_13 => wp_X9_lays p1 S_13 (fun r_16 S_15 => Q r_16 S_15)))))) ∧ (r_8 = 0 → q_X9_becomes_26 p1 p2 p3  Q  S_7)))))))))
set_option maxRecDepth 100000 in
set_option maxHeartbeats 4000000 in
theorem c_X9_becomes {g : Gv} (p1 : Int32) (p2 : Int32) (p3 : Int32)  (S : Sto) (Q : Int32 → Sto → Prop) (h : wp_X9_becomes p1 p2 p3 S Q) : CT g yX9_becomes cX9_becomes 6 (some .int) 6 [.ref (g.1 + 353), .int p1, .int p2, .int p3] S (Qi Q) := by
  unfold wp_X9_becomes at h
  refine CT.of (by decide) (Nat.le_of_ble_eq_true rfl) ?_
  refine J_sub (lv' := [(0, .ref (g.1 + 353)), (1, .int p1), (2, .int p2), (3, .int p3)]) [0, 1, 2, 3] rfl ?_
  refine J_iload_n dX9_becomes_0 rfl 1 rfl  ?_
  refine J_callS (As := [.int p1]) (rest := []) (n := 1) dX9_becomes_1 (c_X9_isElement p1  _ _ h) tb_5_28 tb_5_26 tb_1_8 tb_5_27 (by decide) rfl (by decide) (by decide) (Nat.le_of_ble_eq_true rfl) rfl (fun v_r_2 S_1 hq => ?_)
  obtain ⟨r_2, rfl, h⟩ := hq
  dsimp only [Option.toList, List.cons_append, List.nil_append]
  refine J_if_eq (tgt := 26) dX9_becomes_4 (by decide) (fun c_3 => ?_) (fun c_3 => ?_)
  · have h := h.1 c_3
    exact l_X9_becomes_26 p1 p2 p3  _    _  h
  · have h := h.2 c_3
    refine J_iload_n dX9_becomes_7 rfl 2 rfl  ?_
    refine J_callS (As := [.int p2]) (rest := []) (n := 1) dX9_becomes_8 (c_X9_isElement p2  _ _ h) tb_5_28 tb_5_26 tb_1_8 tb_5_27 (by decide) rfl (by decide) (by decide) (Nat.le_of_ble_eq_true rfl) rfl (fun v_r_5 S_4 hq => ?_)
    obtain ⟨r_5, rfl, h⟩ := hq
    dsimp only [Option.toList, List.cons_append, List.nil_append]
    refine J_if_eq (tgt := 26) dX9_becomes_11 (by decide) (fun c_6 => ?_) (fun c_6 => ?_)
    · have h := h.1 c_6
      exact l_X9_becomes_26 p1 p2 p3  _    _  h
    · have h := h.2 c_6
      refine J_iload_n dX9_becomes_14 rfl 3 rfl  ?_
      refine J_i2l dX9_becomes_15  ?_
      refine J_lconst (v := 0) dX9_becomes_16 (by decide)  ?_
      refine J_ldc2 (v := 4) dX9_becomes_17 tb_5_6  ?_
      refine J_callS (As := [.long ((p3 : Int32).toInt64), .long 0, .long 4]) (rest := []) (n := 3) dX9_becomes_20 (c_X9_in ((p3 : Int32).toInt64) 0 4  _ _ h) tb_5_9 tb_5_7 tb_1_8 tb_5_8 (by decide) rfl (by decide) (by decide) (Nat.le_of_ble_eq_true rfl) rfl (fun v_r_8 S_7 hq => ?_)
      obtain ⟨r_8, rfl, h⟩ := hq
      dsimp only [Option.toList, List.cons_append, List.nil_append]
      refine J_if_ne (tgt := 28) dX9_becomes_23 (by decide) (fun c_9 => ?_) (fun c_9 => ?_)
      · have h := h.1 c_9
        refine J_iload_n dX9_becomes_28 rfl 3 rfl  ?_
        refine J_iconst (v := 2) dX9_becomes_29 (by decide)  ?_
        refine J_icmp_lt (tgt := 51) dX9_becomes_30 (by decide) (fun c_10 => ?_) (fun c_10 => ?_)
        · have h := h.1 c_10
          refine J_iconst (v := 0) dX9_becomes_51 (by decide)  ?_
          refine J_istore (lv' := [(0, .ref (g.1 + 353)), (1, .int p1), (2, .int p2), (3, .int p3), (4, .int 0)]) dX9_becomes_52 (by decide) [1, 2, 3, 4, 0] rfl  ?_
          obtain ⟨n, h⟩ := h
          exact l_X9_becomes_54 p1 p2 p3  _   n _ _  h
        · have h := h.2 c_10
          refine J_aload_n dX9_becomes_33 rfl 0 rfl  ?_
          refine J_iload_n dX9_becomes_34 rfl 3 rfl  ?_
          refine J_iconst (v := 2) dX9_becomes_35 (by decide)  ?_
          refine J_isub dX9_becomes_36  ?_
          refine J_callV (h := 353) (ci := 7) (As := [.int (p3 - 2)]) (rest := []) (n := 1) dX9_becomes_37 (c_X9_spans (p3 - 2)  _ _ h) (by decide) rfl tb_5_64 tb_5_61 tb_1_8 tb_5_63 sl_33 (by decide) rfl (by decide) (by decide) (Nat.le_of_ble_eq_true rfl) rfl (fun v_r_12 S_11 hq => ?_)
          obtain ⟨rfl, h⟩ := hq
          dsimp only [Option.toList, List.cons_append, List.nil_append]
          refine J_aload_n dX9_becomes_40 rfl 0 rfl  ?_
          refine J_iload_n dX9_becomes_41 rfl 2 rfl  ?_
          refine J_callV (h := 353) (ci := 7) (As := [.int p2]) (rest := []) (n := 1) dX9_becomes_42 (c_X9_rests p2  _ _ h) (by decide) rfl tb_5_100 tb_5_97 tb_1_8 tb_5_99 sl_41 (by decide) rfl (by decide) (by decide) (Nat.le_of_ble_eq_true rfl) rfl (fun v_r_14 S_13 hq => ?_)
          obtain ⟨rfl, h⟩ := hq
          dsimp only [Option.toList, List.cons_append, List.nil_append]
          refine J_aload_n dX9_becomes_45 rfl 0 rfl  ?_
          refine J_iload_n dX9_becomes_46 rfl 1 rfl  ?_
          refine J_callV (h := 353) (ci := 7) (As := [.int p1]) (rest := []) (n := 1) dX9_becomes_47 (c_X9_lays p1  _ _ h) (by decide) rfl tb_5_52 tb_5_49 tb_1_8 tb_5_51 sl_32 (by decide) rfl (by decide) (by decide) (Nat.le_of_ble_eq_true rfl) rfl (fun v_r_16 S_15 hq => ?_)
          obtain ⟨r_16, rfl, h⟩ := hq
          dsimp only [Option.toList, List.cons_append, List.nil_append]
          exact J_iret dX9_becomes_50 rfl rfl ⟨_, rfl, h⟩
      · have h := h.2 c_9
        exact l_X9_becomes_26 p1 p2 p3  _    _  h
