def q_X9_in_18 (p0 : Int64) (p2 : Int64) (p4 : Int64)  (Q : Int32 → Sto → Prop) (t0 : Int32) (S : Sto) : Prop := narrow .boolean (.int t0) = .int t0 ∧ Q t0 S
set_option maxRecDepth 100000 in
set_option maxHeartbeats 4000000 in
theorem l_X9_in_18 {g : Gv} (p0 : Int64) (p2 : Int64) (p4 : Int64)  (Q : Int32 → Sto → Prop)   (t0 : Int32) (S : Sto)  (h : q_X9_in_18 p0 p2 p4  Q t0 S) : RJ g cX9_in RX9 (some .boolean) 6 1 18 [(0, .long p0), (2, .long p2), (4, .long p4)] [.int t0] S (Qi Q) := by
  unfold q_X9_in_18 at h
  obtain ⟨hb, h⟩ := h
  exact J_iret dX9_in_18 rfl hb ⟨_, rfl, h⟩
def q_X9_in_17 (p0 : Int64) (p2 : Int64) (p4 : Int64)  (Q : Int32 → Sto → Prop)  (S : Sto) : Prop := q_X9_in_18 p0 p2 p4  Q 0 S
set_option maxRecDepth 100000 in
set_option maxHeartbeats 4000000 in
theorem l_X9_in_17 {g : Gv} (p0 : Int64) (p2 : Int64) (p4 : Int64)  (Q : Int32 → Sto → Prop)    (S : Sto)  (h : q_X9_in_17 p0 p2 p4  Q  S) : RJ g cX9_in RX9 (some .boolean) 6 1 17 [(0, .long p0), (2, .long p2), (4, .long p4)] [] S (Qi Q) := by
  unfold q_X9_in_17 at h
  refine J_iconst (v := 0) dX9_in_17 (by decide)  ?_
  exact l_X9_in_18 p0 p2 p4  _   _ _  h
def wp_X9_in (p0 : Int64) (p2 : Int64) (p4 : Int64) (S : Sto) (Q : Int32 → Sto → Prop) : Prop := (((lg_cmp p0 p2) < 0 → q_X9_in_17 p0 p2 p4  Q  S) ∧ (¬ (lg_cmp p0 p2) < 0 → ((0 < (lg_cmp p0 p4) → q_X9_in_17 p0 p2 p4  Q  S) ∧ (¬ 0 < (lg_cmp p0 p4) → q_X9_in_18 p0 p2 p4  Q 1 S))))
set_option maxRecDepth 100000 in
set_option maxHeartbeats 4000000 in
theorem c_X9_in {g : Gv} (p0 : Int64) (p2 : Int64) (p4 : Int64)  (S : Sto) (Q : Int32 → Sto → Prop) (h : wp_X9_in p0 p2 p4 S Q) : CT g yX9_in cX9_in 6 (some .boolean) 1 [.long p0, .long p2, .long p4] S (Qi Q) := by
  unfold wp_X9_in at h
  refine CT.of (by decide) (Nat.le_of_ble_eq_true rfl) ?_
  refine J_sub (lv' := [(0, .long p0), (2, .long p2), (4, .long p4)]) [0, 1, 2] rfl ?_
  refine J_lload_n dX9_in_0 rfl 0 rfl  ?_
  refine J_lload_n dX9_in_1 rfl 1 rfl  ?_
  refine J_lcmp dX9_in_2  ?_
  refine J_if_lt (tgt := 17) dX9_in_3 (by decide) (fun c_1 => ?_) (fun c_1 => ?_)
  · have h := h.1 c_1
    exact l_X9_in_17 p0 p2 p4  _    _  h
  · have h := h.2 c_1
    refine J_lload_n dX9_in_6 rfl 0 rfl  ?_
    refine J_lload dX9_in_7 2 rfl  ?_
    refine J_lcmp dX9_in_9  ?_
    refine J_if_gt (tgt := 17) dX9_in_10 (by decide) (fun c_2 => ?_) (fun c_2 => ?_)
    · have h := h.1 c_2
      exact l_X9_in_17 p0 p2 p4  _    _  h
    · have h := h.2 c_2
      refine J_iconst (v := 1) dX9_in_13 (by decide)  ?_
      refine J_goto (tgt := 18) dX9_in_14 (by decide)  ?_
      exact l_X9_in_18 p0 p2 p4  _   _ _  h
def wp_X9_degree (p0 : Int32) (S : Sto) (Q : Int32 → Sto → Prop) : Prop := wp_J6_bitCount_0f7a4 p0 S (fun r_2 S_1 => Q r_2 S_1)
set_option maxRecDepth 100000 in
set_option maxHeartbeats 4000000 in
theorem c_X9_degree {g : Gv} (p0 : Int32)  (S : Sto) (Q : Int32 → Sto → Prop) (h : wp_X9_degree p0 S Q) : CT g yX9_degree cX9_degree 1 (some .int) 2 [.int p0] S (Qi Q) := by
  unfold wp_X9_degree at h
  refine CT.of (by decide) (Nat.le_of_ble_eq_true rfl) ?_
  refine J_sub (lv' := [(0, .int p0)]) [0] rfl ?_
  refine J_iload_n dX9_degree_0 rfl 0 rfl  ?_
  refine J_callS (As := [.int p0]) (rest := []) (n := 1) dX9_degree_1 (c_J6_bitCount_0f7a4 p0  _ _ h) tb_2_111 tb_5_76 tb_1_11 tb_2_110 (by decide) rfl (by decide) (by decide) (Nat.le_of_ble_eq_true rfl) rfl (fun v_r_2 S_1 hq => ?_)
  obtain ⟨r_2, rfl, h⟩ := hq
  dsimp only [Option.toList, List.cons_append, List.nil_append]
  exact J_iret dX9_degree_4 rfl rfl ⟨_, rfl, h⟩
def wp_X9_isPlace (p1 : Int32) (S : Sto) (Q : Int32 → Sto → Prop) : Prop := wp_X9_in ((p1 : Int32).toInt64) 0 (((S.1 353 3) - 1 : Int32).toInt64) S (fun r_2 S_1 => narrow .boolean (.int r_2) = .int r_2 ∧ Q r_2 S_1)
set_option maxRecDepth 100000 in
set_option maxHeartbeats 4000000 in
theorem c_X9_isPlace {g : Gv} (p1 : Int32)  (S : Sto) (Q : Int32 → Sto → Prop) (h : wp_X9_isPlace p1 S Q) : CT g yX9_isPlace cX9_isPlace 2 (some .boolean) 2 [.ref (g.1 + 353), .int p1] S (Qi Q) := by
  unfold wp_X9_isPlace at h
  refine CT.of (by decide) (Nat.le_of_ble_eq_true rfl) ?_
  refine J_sub (lv' := [(0, .ref (g.1 + 353)), (1, .int p1)]) [0, 1] rfl ?_
  refine J_iload_n dX9_isPlace_0 rfl 1 rfl  ?_
  refine J_i2l dX9_isPlace_1  ?_
  refine J_lconst (v := 0) dX9_isPlace_2 (by decide)  ?_
  refine J_aload_n dX9_isPlace_3 rfl 0 rfl  ?_
  refine J_geti (ci := 7) dX9_isPlace_4 3 rfl giX9 (by decide) (by decide) rfl rfl tb_4_114 rfl  ?_
  refine J_iconst (v := 1) dX9_isPlace_7 (by decide)  ?_
  refine J_isub dX9_isPlace_8  ?_
  refine J_i2l dX9_isPlace_9  ?_
  refine J_callS (As := [.long ((p1 : Int32).toInt64), .long 0, .long (((S.1 353 3) - 1 : Int32).toInt64)]) (rest := []) (n := 3) dX9_isPlace_10 (c_X9_in ((p1 : Int32).toInt64) 0 (((S.1 353 3) - 1 : Int32).toInt64)  _ _ h) tb_5_9 tb_5_7 tb_1_8 tb_5_8 (by decide) rfl (by decide) (by decide) (Nat.le_of_ble_eq_true rfl) rfl (fun v_r_2 S_1 hq => ?_)
  obtain ⟨r_2, rfl, h⟩ := hq
  dsimp only [Option.toList, List.cons_append, List.nil_append]
  obtain ⟨hb, h⟩ := h
  exact J_iret dX9_isPlace_13 rfl hb ⟨_, rfl, h⟩
def wp_X9_isElement (p0 : Int32) (S : Sto) (Q : Int32 → Sto → Prop) : Prop := wp_X9_in ((p0 : Int32).toInt64) 0 5 S (fun r_2 S_1 => narrow .boolean (.int r_2) = .int r_2 ∧ Q r_2 S_1)
set_option maxRecDepth 100000 in
set_option maxHeartbeats 4000000 in
theorem c_X9_isElement {g : Gv} (p0 : Int32)  (S : Sto) (Q : Int32 → Sto → Prop) (h : wp_X9_isElement p0 S Q) : CT g yX9_isElement cX9_isElement 1 (some .boolean) 2 [.int p0] S (Qi Q) := by
  unfold wp_X9_isElement at h
  refine CT.of (by decide) (Nat.le_of_ble_eq_true rfl) ?_
  refine J_sub (lv' := [(0, .int p0)]) [0] rfl ?_
  refine J_iload_n dX9_isElement_0 rfl 0 rfl  ?_
  refine J_i2l dX9_isElement_1  ?_
  refine J_lconst (v := 0) dX9_isElement_2 (by decide)  ?_
  refine J_ldc2 (v := 5) dX9_isElement_3 tb_5_29  ?_
  refine J_callS (As := [.long ((p0 : Int32).toInt64), .long 0, .long 5]) (rest := []) (n := 3) dX9_isElement_6 (c_X9_in ((p0 : Int32).toInt64) 0 5  _ _ h) tb_5_9 tb_5_7 tb_1_8 tb_5_8 (by decide) rfl (by decide) (by decide) (Nat.le_of_ble_eq_true rfl) rfl (fun v_r_2 S_1 hq => ?_)
  obtain ⟨r_2, rfl, h⟩ := hq
  dsimp only [Option.toList, List.cons_append, List.nil_append]
  obtain ⟨hb, h⟩ := h
  exact J_iret dX9_isElement_9 rfl hb ⟨_, rfl, h⟩
def wp_X9_isSide (p0 : Int32) (S : Sto) (Q : Int32 → Sto → Prop) : Prop := wp_X9_in ((p0 : Int32).toInt64) 0 2 S (fun r_2 S_1 => narrow .boolean (.int r_2) = .int r_2 ∧ Q r_2 S_1)
set_option maxRecDepth 100000 in
set_option maxHeartbeats 4000000 in
theorem c_X9_isSide {g : Gv} (p0 : Int32)  (S : Sto) (Q : Int32 → Sto → Prop) (h : wp_X9_isSide p0 S Q) : CT g yX9_isSide cX9_isSide 1 (some .boolean) 2 [.int p0] S (Qi Q) := by
  unfold wp_X9_isSide at h
  refine CT.of (by decide) (Nat.le_of_ble_eq_true rfl) ?_
  refine J_sub (lv' := [(0, .int p0)]) [0] rfl ?_
  refine J_iload_n dX9_isSide_0 rfl 0 rfl  ?_
  refine J_i2l dX9_isSide_1  ?_
  refine J_lconst (v := 0) dX9_isSide_2 (by decide)  ?_
  refine J_ldc2 (v := 2) dX9_isSide_3 tb_5_5  ?_
  refine J_callS (As := [.long ((p0 : Int32).toInt64), .long 0, .long 2]) (rest := []) (n := 3) dX9_isSide_6 (c_X9_in ((p0 : Int32).toInt64) 0 2  _ _ h) tb_5_9 tb_5_7 tb_1_8 tb_5_8 (by decide) rfl (by decide) (by decide) (Nat.le_of_ble_eq_true rfl) rfl (fun v_r_2 S_1 hq => ?_)
  obtain ⟨r_2, rfl, h⟩ := hq
  dsimp only [Option.toList, List.cons_append, List.nil_append]
  obtain ⟨hb, h⟩ := h
  exact J_iret dX9_isSide_9 rfl hb ⟨_, rfl, h⟩
def q_X9_modulo_25 (p1 : Int64)  (Q : Int32 → Sto → Prop) (t0 : Int64) (S : Sto) : Prop := Q ((t0 : Int64).toInt32) S
set_option maxRecDepth 100000 in
set_option maxHeartbeats 4000000 in
theorem l_X9_modulo_25 {g : Gv} (p1 : Int64)  (Q : Int32 → Sto → Prop)   (t0 : Int64) (S : Sto)  (h : q_X9_modulo_25 p1  Q t0 S) : RJ g cX9_modulo RX9 (some .int) 5 1 25 [(0, .ref (g.1 + 353)), (1, .long p1)] [.long t0] S (Qi Q) := by
  unfold q_X9_modulo_25 at h
  refine J_l2i dX9_modulo_25  ?_
  exact J_iret dX9_modulo_26 rfl rfl ⟨_, rfl, h⟩
def wp_X9_modulo (p1 : Int64) (S : Sto) (Q : Int32 → Sto → Prop) : Prop := ¬ ((S.1 353 1 : Int32).toInt64) = 0 ∧ ∀ x3_2 : Int64, x3_2 = p1 - p1 / ((S.1 353 1 : Int32).toInt64) * ((S.1 353 1 : Int32).toInt64) → ((0 ≤ (lg_cmp x3_2 0) → q_X9_modulo_25 p1  Q x3_2 S) ∧ (¬ 0 ≤ (lg_cmp x3_2 0) → q_X9_modulo_25 p1  Q (x3_2 + ((S.1 353 1 : Int32).toInt64)) S))
set_option maxRecDepth 100000 in
set_option maxHeartbeats 4000000 in
theorem c_X9_modulo {g : Gv} (p1 : Int64)  (S : Sto) (Q : Int32 → Sto → Prop) (h : wp_X9_modulo p1 S Q) : CT g yX9_modulo cX9_modulo 5 (some .int) 1 [.ref (g.1 + 353), .long p1] S (Qi Q) := by
  unfold wp_X9_modulo at h
  refine CT.of (by decide) (Nat.le_of_ble_eq_true rfl) ?_
  refine J_sub (lv' := [(0, .ref (g.1 + 353)), (1, .long p1)]) [0, 1] rfl ?_
  refine J_lload_n dX9_modulo_0 rfl 1 rfl  ?_
  refine J_aload_n dX9_modulo_1 rfl 0 rfl  ?_
  refine J_geti (ci := 7) dX9_modulo_2 1 rfl giX9 (by decide) (by decide) rfl rfl tb_4_112 rfl  ?_
  refine J_i2l dX9_modulo_5  ?_
  obtain ⟨hz_1, h⟩ := h
  refine J_lrem dX9_modulo_6 hz_1  ?_
  refine J_topl (fun x3_2 ex3_2 => ?_)
  have h := h x3_2 ex3_2
  refine J_lstore_n (lv' := [(0, .ref (g.1 + 353)), (1, .long p1), (3, .long x3_2)]) dX9_modulo_7 rfl (by decide) [1, 2, 0] rfl  ?_
  refine J_lload_n dX9_modulo_8 rfl 2 rfl  ?_
  refine J_lconst (v := 0) dX9_modulo_9 (by decide)  ?_
  refine J_lcmp dX9_modulo_10  ?_
  refine J_if_ge (tgt := 24) dX9_modulo_11 (by decide) (fun c_3 => ?_) (fun c_3 => ?_)
  · have h := h.1 c_3
    refine J_lload_n dX9_modulo_24 rfl 2 rfl  ?_
    refine J_sub (lv' := [(0, .ref (g.1 + 353)), (1, .long p1)]) [0, 1] rfl ?_
    exact l_X9_modulo_25 p1  _   _ _  h
  · have h := h.2 c_3
    refine J_lload_n dX9_modulo_14 rfl 2 rfl  ?_
    refine J_aload_n dX9_modulo_15 rfl 0 rfl  ?_
    refine J_geti (ci := 7) dX9_modulo_16 1 rfl giX9 (by decide) (by decide) rfl rfl tb_4_112 rfl  ?_
    refine J_i2l dX9_modulo_19  ?_
    refine J_ladd dX9_modulo_20  ?_
    refine J_goto (tgt := 25) dX9_modulo_21 (by decide)  ?_
    refine J_sub (lv' := [(0, .ref (g.1 + 353)), (1, .long p1)]) [0, 1] rfl ?_
    exact l_X9_modulo_25 p1  _   _ _  h
def q_X9_sign_71 (p0 : Int32) (p1 : Int32)  (Q : Int32 → Sto → Prop) (t0 : Int32) (S : Sto) : Prop := Q t0 S
set_option maxRecDepth 100000 in
set_option maxHeartbeats 4000000 in
theorem l_X9_sign_71 {g : Gv} (p0 : Int32) (p1 : Int32)  (Q : Int32 → Sto → Prop)   (t0 : Int32) (S : Sto)  (h : q_X9_sign_71 p0 p1  Q t0 S) : RJ g cX9_sign RX9 (some .int) 5 1 71 [(0, .int p0), (1, .int p1)] [.int t0] S (Qi Q) := by
  unfold q_X9_sign_71 at h
  exact J_iret dX9_sign_71 rfl rfl ⟨_, rfl, h⟩
def q_X9_sign_48 (p0 : Int32) (p1 : Int32) (R12 : Int32 → Int32 → Sto → Prop) (R20 : Int32 → Int32 → Int32 → Sto → Prop) (Q : Int32 → Sto → Prop) (x2 : Int32) (x3 : Int32) (x4 : Int32) (S : Sto) : Prop := ∀ x4_1 : Int32, x4_1 = x4 + 1 → R20 x2 x3 x4_1 S
set_option maxRecDepth 100000 in
set_option maxHeartbeats 4000000 in
theorem l_X9_sign_48 {g : Gv} (p0 : Int32) (p1 : Int32) (R12 : Int32 → Int32 → Sto → Prop) (R20 : Int32 → Int32 → Int32 → Sto → Prop) (Q : Int32 → Sto → Prop) (hR12 : ∀ (y2 : Int32) (y3 : Int32) (S : Sto), R12 y2 y3 S → RJ g cX9_sign RX9 (some .int) 5 1 12 [(0, .int p0), (1, .int p1), (2, .int y2), (3, .int y3)] [] S (Qi Q)) (hR20 : ∀ (y2 : Int32) (y3 : Int32) (y4 : Int32) (S : Sto), R20 y2 y3 y4 S → RJ g cX9_sign RX9 (some .int) 5 1 20 [(0, .int p0), (1, .int p1), (2, .int y2), (3, .int y3), (4, .int y4)] [] S (Qi Q))  (x2 : Int32) (x3 : Int32) (x4 : Int32) (S : Sto)  (h : q_X9_sign_48 p0 p1 R12 R20 Q x2 x3 x4 S) : RJ g cX9_sign RX9 (some .int) 5 1 48 [(0, .int p0), (1, .int p1), (2, .int x2), (3, .int x3), (4, .int x4)] [] S (Qi Q) := by
  unfold q_X9_sign_48 at h
  obtain ⟨x4_1, ex4_1⟩ : ∃ y : Int32, y = x4 + 1 := ⟨_, rfl⟩
  have h := h x4_1 ex4_1
  refine J_iinc (v := x4_1) (lv' := [(0, .int p0), (1, .int p1), (2, .int x2), (3, .int x3), (4, .int x4_1)]) dX9_sign_48 (q := 4) rfl (by rw [ex4_1]; rfl) (by decide) [1, 2, 3, 4, 0] rfl  ?_
  refine J_goto (tgt := 20) dX9_sign_51 (by decide)  ?_
  exact hR20 _ _ _ _  h
def q_X9_sign_20 (p0 : Int32) (p1 : Int32) (R12 : Int32 → Int32 → Sto → Prop) (Q : Int32 → Sto → Prop) : Nat → Int32 → Int32 → Int32 → Sto → Prop
  | 0, _, _, _, _ => False
  | n + 1, x2, x3, x4, S => ((x3 ≤ x4 → ∀ x3_2 : Int32, x3_2 = x3 + 1 → R12 x2 x3_2 S) ∧ (¬ x3 ≤ x4 → ((¬ ((p0 >>> (x3 &&& 31)) &&& 1) = 1 → q_X9_sign_48 p0 p1 R12 (fun y2 y3 y4 S => q_X9_sign_20 p0 p1 R12 Q n y2 y3 y4 S) Q x2 x3 x4 S) ∧ (((p0 >>> (x3 &&& 31)) &&& 1) = 1 → ((¬ ((p1 >>> (x4 &&& 31)) &&& 1) = 1 → q_X9_sign_48 p0 p1 R12 (fun y2 y3 y4 S => q_X9_sign_20 p0 p1 R12 Q n y2 y3 y4 S) Q x2 x3 x4 S) ∧ (((p1 >>> (x4 &&& 31)) &&& 1) = 1 → ∀ x2_5 : Int32, x2_5 = x2 + 1 → q_X9_sign_48 p0 p1 R12 (fun y2 y3 y4 S => q_X9_sign_20 p0 p1 R12 Q n y2 y3 y4 S) Q x2_5 x3 x4 S))))))
set_option maxRecDepth 100000 in
set_option maxHeartbeats 4000000 in
theorem l_X9_sign_20 {g : Gv} (p0 : Int32) (p1 : Int32) (R12 : Int32 → Int32 → Sto → Prop) (Q : Int32 → Sto → Prop) (hR12 : ∀ (y2 : Int32) (y3 : Int32) (S : Sto), R12 y2 y3 S → RJ g cX9_sign RX9 (some .int) 5 1 12 [(0, .int p0), (1, .int p1), (2, .int y2), (3, .int y3)] [] S (Qi Q))  (n : Nat) : ∀ (x2 : Int32) (x3 : Int32) (x4 : Int32) (S : Sto)  (h : q_X9_sign_20 p0 p1 R12 Q n x2 x3 x4 S), RJ g cX9_sign RX9 (some .int) 5 1 20 [(0, .int p0), (1, .int p1), (2, .int x2), (3, .int x3), (4, .int x4)] [] S (Qi Q) := by
  induction n with
  | zero => intro x2 x3 x4 S  h; exact h.elim
  | succ n ih =>
    intro x2 x3 x4 S  h
    unfold q_X9_sign_20 at h
    refine J_iload dX9_sign_20 4 rfl  ?_
    refine J_iload_n dX9_sign_22 rfl 3 rfl  ?_
    refine J_icmp_ge (tgt := 54) dX9_sign_23 (by decide) (fun c_1 => ?_) (fun c_1 => ?_)
    · have h := h.1 c_1
      obtain ⟨x3_2, ex3_2⟩ : ∃ y : Int32, y = x3 + 1 := ⟨_, rfl⟩
      have h := h x3_2 ex3_2
      refine J_iinc (v := x3_2) (lv' := [(0, .int p0), (1, .int p1), (2, .int x2), (3, .int x3_2), (4, .int x4)]) dX9_sign_54 (q := 3) rfl (by rw [ex3_2]; rfl) (by decide) [1, 2, 3, 0, 4] rfl  ?_
      refine J_goto (tgt := 12) dX9_sign_57 (by decide)  ?_
      refine J_sub (lv' := [(0, .int p0), (1, .int p1), (2, .int x2), (3, .int x3_2)]) [0, 1, 2, 3] rfl ?_
      exact hR12 _ _ _  h
    · have h := h.2 c_1
      refine J_iload_n dX9_sign_26 rfl 0 rfl  ?_
      refine J_iload_n dX9_sign_27 rfl 3 rfl  ?_
      refine J_ishr dX9_sign_28  ?_
      refine J_iconst (v := 1) dX9_sign_29 (by decide)  ?_
      refine J_iand dX9_sign_30  ?_
      refine J_iconst (v := 1) dX9_sign_31 (by decide)  ?_
      refine J_icmp_ne (tgt := 48) dX9_sign_32 (by decide) (fun c_3 => ?_) (fun c_3 => ?_)
      · have h := h.1 c_3
        exact l_X9_sign_48 p0 p1 _ _ _ hR12 (fun y2 y3 y4 S  h => ih y2 y3 y4 S  h)  _ _ _ _  h
      · have h := h.2 c_3
        refine J_iload_n dX9_sign_35 rfl 1 rfl  ?_
        refine J_iload dX9_sign_36 4 rfl  ?_
        refine J_ishr dX9_sign_38  ?_
        refine J_iconst (v := 1) dX9_sign_39 (by decide)  ?_
        refine J_iand dX9_sign_40  ?_
        refine J_iconst (v := 1) dX9_sign_41 (by decide)  ?_
        refine J_icmp_ne (tgt := 48) dX9_sign_42 (by decide) (fun c_4 => ?_) (fun c_4 => ?_)
        · have h := h.1 c_4
          exact l_X9_sign_48 p0 p1 _ _ _ hR12 (fun y2 y3 y4 S  h => ih y2 y3 y4 S  h)  _ _ _ _  h
        · have h := h.2 c_4
          obtain ⟨x2_5, ex2_5⟩ : ∃ y : Int32, y = x2 + 1 := ⟨_, rfl⟩
          have h := h x2_5 ex2_5
          refine J_iinc (v := x2_5) (lv' := [(0, .int p0), (1, .int p1), (2, .int x2_5), (3, .int x3), (4, .int x4)]) dX9_sign_45 (q := 2) rfl (by rw [ex2_5]; rfl) (by decide) [1, 2, 0, 3, 4] rfl  ?_
          exact l_X9_sign_48 p0 p1 _ _ _ hR12 (fun y2 y3 y4 S  h => ih y2 y3 y4 S  h)  _ _ _ _  h
def q_X9_sign_12 (p0 : Int32) (p1 : Int32)  (Q : Int32 → Sto → Prop) : Nat → Int32 → Int32 → Sto → Prop
  | 0, _, _, _ => False
  | n + 1, x2, x3, S => ((4 ≤ x3 → ((¬ (x2 - x2 / 2 * 2) = 0 → q_X9_sign_71 p0 p1  Q ((-1)) S) ∧ ((x2 - x2 / 2 * 2) = 0 → q_X9_sign_71 p0 p1  Q 1 S))) ∧ (¬ 4 ≤ x3 → (∃ n_20, q_X9_sign_20 p0 p1 (fun y2 y3 S => q_X9_sign_12 p0 p1  Q n y2 y3 S) Q n_20 x2 x3 0 S)))
set_option maxRecDepth 100000 in
set_option maxHeartbeats 4000000 in
theorem l_X9_sign_12 {g : Gv} (p0 : Int32) (p1 : Int32)  (Q : Int32 → Sto → Prop)   (n : Nat) : ∀ (x2 : Int32) (x3 : Int32) (S : Sto)  (h : q_X9_sign_12 p0 p1  Q n x2 x3 S), RJ g cX9_sign RX9 (some .int) 5 1 12 [(0, .int p0), (1, .int p1), (2, .int x2), (3, .int x3)] [] S (Qi Q) := by
  induction n with
  | zero => intro x2 x3 S  h; exact h.elim
  | succ n ih =>
    intro x2 x3 S  h
    unfold q_X9_sign_12 at h
    refine J_iload_n dX9_sign_12 rfl 3 rfl  ?_
    refine J_iconst (v := 4) dX9_sign_13 (by decide)  ?_
    refine J_icmp_ge (tgt := 60) dX9_sign_14 (by decide) (fun c_1 => ?_) (fun c_1 => ?_)
    · have h := h.1 c_1
      refine J_iload_n dX9_sign_60 rfl 2 rfl  ?_
      refine J_iconst (v := 2) dX9_sign_61 (by decide)  ?_
      refine J_irem dX9_sign_62 (by decide)  ?_
      refine J_if_ne (tgt := 70) dX9_sign_63 (by decide) (fun c_2 => ?_) (fun c_2 => ?_)
      · have h := h.1 c_2
        refine J_iconst (v := (-1)) dX9_sign_70 (by decide)  ?_
        refine J_sub (lv' := [(0, .int p0), (1, .int p1)]) [0, 1] rfl ?_
        exact l_X9_sign_71 p0 p1  _   _ _  h
      · have h := h.2 c_2
        refine J_iconst (v := 1) dX9_sign_66 (by decide)  ?_
        refine J_goto (tgt := 71) dX9_sign_67 (by decide)  ?_
        refine J_sub (lv' := [(0, .int p0), (1, .int p1)]) [0, 1] rfl ?_
        exact l_X9_sign_71 p0 p1  _   _ _  h
    · have h := h.2 c_1
      refine J_iconst (v := 0) dX9_sign_17 (by decide)  ?_
      refine J_istore (lv' := [(0, .int p0), (1, .int p1), (2, .int x2), (3, .int x3), (4, .int 0)]) dX9_sign_18 (by decide) [1, 2, 3, 4, 0] rfl  ?_
      obtain ⟨n, h⟩ := h
      exact l_X9_sign_20 p0 p1 _ _ (fun y2 y3 S  h => ih y2 y3 S  h)  n _ _ _ _  h
def wp_X9_sign (p0 : Int32) (p1 : Int32) (S : Sto) (Q : Int32 → Sto → Prop) : Prop := (((p0 &&& p1) = 0 → (∃ n_12, q_X9_sign_12 p0 p1  Q n_12 0 0 S)) ∧ (¬ (p0 &&& p1) = 0 → Q 0 S))
set_option maxRecDepth 100000 in
set_option maxHeartbeats 4000000 in
theorem c_X9_sign {g : Gv} (p0 : Int32) (p1 : Int32)  (S : Sto) (Q : Int32 → Sto → Prop) (h : wp_X9_sign p0 p1 S Q) : CT g yX9_sign cX9_sign 5 (some .int) 1 [.int p0, .int p1] S (Qi Q) := by
  unfold wp_X9_sign at h
  refine CT.of (by decide) (Nat.le_of_ble_eq_true rfl) ?_
  refine J_sub (lv' := [(0, .int p0), (1, .int p1)]) [0, 1] rfl ?_
  refine J_iload_n dX9_sign_0 rfl 0 rfl  ?_
  refine J_iload_n dX9_sign_1 rfl 1 rfl  ?_
  refine J_iand dX9_sign_2  ?_
  refine J_if_eq (tgt := 8) dX9_sign_3 (by decide) (fun c_1 => ?_) (fun c_1 => ?_)
  · have h := h.1 c_1
    refine J_iconst (v := 0) dX9_sign_8 (by decide)  ?_
    refine J_istore_n (lv' := [(0, .int p0), (1, .int p1), (2, .int 0)]) dX9_sign_9 rfl (by decide) [1, 2, 0] rfl  ?_
    refine J_iconst (v := 0) dX9_sign_10 (by decide)  ?_
    refine J_istore_n (lv' := [(0, .int p0), (1, .int p1), (2, .int 0), (3, .int 0)]) dX9_sign_11 rfl (by decide) [1, 2, 3, 0] rfl  ?_
    obtain ⟨n, h⟩ := h
    exact l_X9_sign_12 p0 p1  _   n _ _ _  h
  · have h := h.2 c_1
    refine J_iconst (v := 0) dX9_sign_6 (by decide)  ?_
    exact J_iret dX9_sign_7 rfl rfl ⟨_, rfl, h⟩
def q_X9_multiply_136 (p1 : Nat) (p2 : Int32) (p3 : Nat) (p4 : Int32) (R27 : Int32 → Sto → Prop) (Q : Sto → Prop) (x5 : Int32) (S : Sto) : Prop := ∀ x5_1 : Int32, x5_1 = x5 + 1 → R27 x5_1 S
set_option maxRecDepth 100000 in
set_option maxHeartbeats 4000000 in
theorem l_X9_multiply_136 {g : Gv} (p1 : Nat) (p2 : Int32) (p3 : Nat) (p4 : Int32) (R27 : Int32 → Sto → Prop) (Q : Sto → Prop) (hR27 : ∀ (y5 : Int32) (S : Sto), R27 y5 S → RJ g cX9_multiply RX9 none 8 2 27 [(0, .ref (g.1 + 353)), (1, .ref (g.1 + p1)), (2, .int p2), (3, .ref (g.1 + p3)), (4, .int p4), (5, .int y5)] [] S (Qv Q)) (hp1 : kd p1 = 0) (hp3 : kd p3 = 0) (x5 : Int32) (S : Sto)  (h : q_X9_multiply_136 p1 p2 p3 p4 R27 Q x5 S) : RJ g cX9_multiply RX9 none 8 2 136 [(0, .ref (g.1 + 353)), (1, .ref (g.1 + p1)), (2, .int p2), (3, .ref (g.1 + p3)), (4, .int p4), (5, .int x5)] [] S (Qv Q) := by
  unfold q_X9_multiply_136 at h
  obtain ⟨x5_1, ex5_1⟩ : ∃ y : Int32, y = x5 + 1 := ⟨_, rfl⟩
  have h := h x5_1 ex5_1
  refine J_iinc (v := x5_1) (lv' := [(0, .ref (g.1 + 353)), (1, .ref (g.1 + p1)), (2, .int p2), (3, .ref (g.1 + p3)), (4, .int p4), (5, .int x5_1)]) dX9_multiply_136 (q := 5) rfl (by rw [ex5_1]; rfl) (by decide) [1, 2, 3, 4, 5, 0] rfl  ?_
  refine J_goto (tgt := 27) dX9_multiply_139 (by decide)  ?_
  exact hR27 _ _  h
def q_X9_multiply_130 (p1 : Nat) (p2 : Int32) (p3 : Nat) (p4 : Int32) (R27 : Int32 → Sto → Prop) (R51 : Int32 → Int32 → Sto → Prop) (Q : Sto → Prop) (x5 : Int32) (x6 : Int32) (S : Sto) : Prop := ∀ x6_1 : Int32, x6_1 = x6 + 1 → R51 x5 x6_1 S
set_option maxRecDepth 100000 in
set_option maxHeartbeats 4000000 in
theorem l_X9_multiply_130 {g : Gv} (p1 : Nat) (p2 : Int32) (p3 : Nat) (p4 : Int32) (R27 : Int32 → Sto → Prop) (R51 : Int32 → Int32 → Sto → Prop) (Q : Sto → Prop) (hR27 : ∀ (y5 : Int32) (S : Sto), R27 y5 S → RJ g cX9_multiply RX9 none 8 2 27 [(0, .ref (g.1 + 353)), (1, .ref (g.1 + p1)), (2, .int p2), (3, .ref (g.1 + p3)), (4, .int p4), (5, .int y5)] [] S (Qv Q)) (hR51 : ∀ (y5 : Int32) (y6 : Int32) (S : Sto), R51 y5 y6 S → RJ g cX9_multiply RX9 none 8 2 51 [(0, .ref (g.1 + 353)), (1, .ref (g.1 + p1)), (2, .int p2), (3, .ref (g.1 + p3)), (4, .int p4), (5, .int y5), (6, .int y6)] [] S (Qv Q)) (hp1 : kd p1 = 0) (hp3 : kd p3 = 0) (x5 : Int32) (x6 : Int32) (S : Sto)  (h : q_X9_multiply_130 p1 p2 p3 p4 R27 R51 Q x5 x6 S) : RJ g cX9_multiply RX9 none 8 2 130 [(0, .ref (g.1 + 353)), (1, .ref (g.1 + p1)), (2, .int p2), (3, .ref (g.1 + p3)), (4, .int p4), (5, .int x5), (6, .int x6)] [] S (Qv Q) := by
  unfold q_X9_multiply_130 at h
  obtain ⟨x6_1, ex6_1⟩ : ∃ y : Int32, y = x6 + 1 := ⟨_, rfl⟩
  have h := h x6_1 ex6_1
  refine J_iinc (v := x6_1) (lv' := [(0, .ref (g.1 + 353)), (1, .ref (g.1 + p1)), (2, .int p2), (3, .ref (g.1 + p3)), (4, .int p4), (5, .int x5), (6, .int x6_1)]) dX9_multiply_130 (q := 6) rfl (by rw [ex6_1]; rfl) (by decide) [1, 2, 3, 4, 5, 6, 0] rfl  ?_
  refine J_goto (tgt := 51) dX9_multiply_133 (by decide)  ?_
  exact hR51 _ _ _  h
def q_X9_multiply_51 (p1 : Nat) (p2 : Int32) (p3 : Nat) (p4 : Int32) (R27 : Int32 → Sto → Prop) (Q : Sto → Prop) : Nat → Int32 → Int32 → Sto → Prop
  | 0, _, _, _ => False
  | n + 1, x5, x6, S => (((S.1 353 3) ≤ x6 → q_X9_multiply_136 p1 p2 p3 p4 R27 Q x5 S) ∧ (¬ (S.1 353 3) ≤ x6 → wp_X9_sign x5 x6 S (fun r_3 S_2 => ((r_3 = 0 → q_X9_multiply_130 p1 p2 p3 p4 R27 (fun y5 y6 S => q_X9_multiply_51 p1 p2 p3 p4 R27 Q n y5 y6 S) Q x5 x6 S_2) ∧ (¬ r_3 = 0 → vp_in (p4 + x6) (ln p3) ∧ (((S_2.1 p3 (p4 + x6 : Int32).toNatClampNeg) = 0 → q_X9_multiply_130 p1 p2 p3 p4 R27 (fun y5 y6 S => q_X9_multiply_51 p1 p2 p3 p4 R27 Q n y5 y6 S) Q x5 x6 S_2) ∧ (¬ (S_2.1 p3 (p4 + x6 : Int32).toNatClampNeg) = 0 → vp_in (x5 ||| x6) (16) ∧ vp_in (p2 + x5) (ln p1) ∧ vp_in (p4 + x6) (ln p3) ∧ wp_X9_modulo (((S_2.1 373 (x5 ||| x6 : Int32).toNatClampNeg : Int32).toInt64) + ((((r_3 : Int32).toInt64) * ((S_2.1 p1 (p2 + x5 : Int32).toNatClampNeg : Int32).toInt64)) * ((S_2.1 p3 (p4 + x6 : Int32).toNatClampNeg : Int32).toInt64))) S_2 (fun r_11 S_10 => vp_in (x5 ||| x6) (16) ∧ ∀ S_13 : Sto, S_13 = uA S_10 373 (x5 ||| x6 : Int32).toNatClampNeg r_11 → q_X9_multiply_130 p1 p2 p3 p4 R27 (fun y5 y6 S => q_X9_multiply_51 p1 p2 p3 p4 R27 Q n y5 y6 S) Q x5 x6 S_13))))))))
set_option maxRecDepth 100000 in
set_option maxHeartbeats 4000000 in
theorem l_X9_multiply_51 {g : Gv} (p1 : Nat) (p2 : Int32) (p3 : Nat) (p4 : Int32) (R27 : Int32 → Sto → Prop) (Q : Sto → Prop) (hR27 : ∀ (y5 : Int32) (S : Sto), R27 y5 S → RJ g cX9_multiply RX9 none 8 2 27 [(0, .ref (g.1 + 353)), (1, .ref (g.1 + p1)), (2, .int p2), (3, .ref (g.1 + p3)), (4, .int p4), (5, .int y5)] [] S (Qv Q)) (hp1 : kd p1 = 0) (hp3 : kd p3 = 0) (n : Nat) : ∀ (x5 : Int32) (x6 : Int32) (S : Sto)  (h : q_X9_multiply_51 p1 p2 p3 p4 R27 Q n x5 x6 S), RJ g cX9_multiply RX9 none 8 2 51 [(0, .ref (g.1 + 353)), (1, .ref (g.1 + p1)), (2, .int p2), (3, .ref (g.1 + p3)), (4, .int p4), (5, .int x5), (6, .int x6)] [] S (Qv Q) := by
  induction n with
  | zero => intro x5 x6 S  h; exact h.elim
  | succ n ih =>
    intro x5 x6 S  h
    unfold q_X9_multiply_51 at h
    refine J_iload dX9_multiply_51 6 rfl  ?_
    refine J_aload_n dX9_multiply_53 rfl 0 rfl  ?_
    refine J_geti (ci := 7) dX9_multiply_54 3 rfl giX9 (by decide) (by decide) rfl rfl tb_4_114 rfl  ?_
    refine J_icmp_ge (tgt := 136) dX9_multiply_57 (by decide) (fun c_1 => ?_) (fun c_1 => ?_)
    · have h := h.1 c_1
      refine J_sub (lv' := [(0, .ref (g.1 + 353)), (1, .ref (g.1 + p1)), (2, .int p2), (3, .ref (g.1 + p3)), (4, .int p4), (5, .int x5)]) [0, 1, 2, 3, 4, 5] rfl ?_
      exact l_X9_multiply_136 p1 p2 p3 p4 _ _ hR27 hp1 hp3 _ _  h
    · have h := h.2 c_1
      refine J_iload dX9_multiply_60 5 rfl  ?_
      refine J_iload dX9_multiply_62 6 rfl  ?_
      refine J_callS (As := [.int x5, .int x6]) (rest := []) (n := 2) dX9_multiply_64 (c_X9_sign x5 x6  _ _ h) tb_5_48 tb_5_46 tb_1_8 tb_5_47 (by decide) rfl (by decide) (by decide) (Nat.le_of_ble_eq_true rfl) rfl (fun v_r_3 S_2 hq => ?_)
      obtain ⟨r_3, rfl, h⟩ := hq
      dsimp only [Option.toList, List.cons_append, List.nil_append]
      refine J_istore (lv' := [(0, .ref (g.1 + 353)), (1, .ref (g.1 + p1)), (2, .int p2), (3, .ref (g.1 + p3)), (4, .int p4), (5, .int x5), (6, .int x6), (7, .int r_3)]) dX9_multiply_67 (by decide) [1, 2, 3, 4, 5, 6, 7, 0] rfl  ?_
      refine J_iload dX9_multiply_69 7 rfl  ?_
      refine J_if_eq (tgt := 130) dX9_multiply_71 (by decide) (fun c_4 => ?_) (fun c_4 => ?_)
      · have h := h.1 c_4
        refine J_sub (lv' := [(0, .ref (g.1 + 353)), (1, .ref (g.1 + p1)), (2, .int p2), (3, .ref (g.1 + p3)), (4, .int p4), (5, .int x5), (6, .int x6)]) [0, 1, 2, 3, 4, 5, 6] rfl ?_
        exact l_X9_multiply_130 p1 p2 p3 p4 _ _ _ hR27 (fun y5 y6 S  h => ih y5 y6 S  h) hp1 hp3 _ _ _  h
      · have h := h.2 c_4
        refine J_aload_n dX9_multiply_74 rfl 3 rfl  ?_
        refine J_iload dX9_multiply_75 4 rfl  ?_
        refine J_iload dX9_multiply_77 6 rfl  ?_
        refine J_iadd dX9_multiply_79  ?_
        obtain ⟨hi_5, h⟩ := h
        refine J_iald dX9_multiply_80 hp3 hi_5  ?_
        refine J_if_eq (tgt := 130) dX9_multiply_81 (by decide) (fun c_6 => ?_) (fun c_6 => ?_)
        · have h := h.1 c_6
          refine J_sub (lv' := [(0, .ref (g.1 + 353)), (1, .ref (g.1 + p1)), (2, .int p2), (3, .ref (g.1 + p3)), (4, .int p4), (5, .int x5), (6, .int x6)]) [0, 1, 2, 3, 4, 5, 6] rfl ?_
          exact l_X9_multiply_130 p1 p2 p3 p4 _ _ _ hR27 (fun y5 y6 S  h => ih y5 y6 S  h) hp1 hp3 _ _ _  h
        · have h := h.2 c_6
          refine J_aload_n dX9_multiply_84 rfl 0 rfl  ?_
          refine J_getr (r := 373) (ci := 7) dX9_multiply_85 31 rfl giX9 (by decide) (by decide) rfl rfl tb_4_142 (by decide) (by decide)  ?_
          refine J_iload dX9_multiply_88 5 rfl  ?_
          refine J_iload dX9_multiply_90 6 rfl  ?_
          refine J_ior dX9_multiply_92  ?_
          refine J_aload_n dX9_multiply_93 rfl 0 rfl  ?_
          refine J_aload_n dX9_multiply_94 rfl 0 rfl  ?_
          refine J_getr (r := 373) (ci := 7) dX9_multiply_95 31 rfl giX9 (by decide) (by decide) rfl rfl tb_4_142 (by decide) (by decide)  ?_
          refine J_iload dX9_multiply_98 5 rfl  ?_
          refine J_iload dX9_multiply_100 6 rfl  ?_
          refine J_ior dX9_multiply_102  ?_
          obtain ⟨hi_7, h⟩ := h
          refine J_iald dX9_multiply_103 (by decide) hi_7  ?_
          refine J_i2l dX9_multiply_104  ?_
          refine J_iload dX9_multiply_105 7 rfl  ?_
          refine J_i2l dX9_multiply_107  ?_
          refine J_aload_n dX9_multiply_108 rfl 1 rfl  ?_
          refine J_iload_n dX9_multiply_109 rfl 2 rfl  ?_
          refine J_iload dX9_multiply_110 5 rfl  ?_
          refine J_iadd dX9_multiply_112  ?_
          obtain ⟨hi_8, h⟩ := h
          refine J_iald dX9_multiply_113 hp1 hi_8  ?_
          refine J_i2l dX9_multiply_114  ?_
          refine J_lmul dX9_multiply_115  ?_
          refine J_aload_n dX9_multiply_116 rfl 3 rfl  ?_
          refine J_iload dX9_multiply_117 4 rfl  ?_
          refine J_iload dX9_multiply_119 6 rfl  ?_
          refine J_iadd dX9_multiply_121  ?_
          obtain ⟨hi_9, h⟩ := h
          refine J_iald dX9_multiply_122 hp3 hi_9  ?_
          refine J_i2l dX9_multiply_123  ?_
          refine J_lmul dX9_multiply_124  ?_
          refine J_ladd dX9_multiply_125  ?_
          refine J_callV (h := 353) (ci := 7) (As := [.long (((S_2.1 373 (x5 ||| x6 : Int32).toNatClampNeg : Int32).toInt64) + ((((r_3 : Int32).toInt64) * ((S_2.1 p1 (p2 + x5 : Int32).toNatClampNeg : Int32).toInt64)) * ((S_2.1 p3 (p4 + x6 : Int32).toNatClampNeg : Int32).toInt64)))]) (rest := [.int (x5 ||| x6), .ref (g.1 + 373)]) (n := 1) dX9_multiply_126 (c_X9_modulo (((S_2.1 373 (x5 ||| x6 : Int32).toNatClampNeg : Int32).toInt64) + ((((r_3 : Int32).toInt64) * ((S_2.1 p1 (p2 + x5 : Int32).toNatClampNeg : Int32).toInt64)) * ((S_2.1 p3 (p4 + x6 : Int32).toNatClampNeg : Int32).toInt64)))  _ _ h) (by decide) rfl tb_5_37 tb_5_34 tb_1_8 tb_5_36 sl_30 (by decide) rfl (by decide) (by decide) (Nat.le_of_ble_eq_true rfl) rfl (fun v_r_11 S_10 hq => ?_)
          obtain ⟨r_11, rfl, h⟩ := hq
          dsimp only [Option.toList, List.cons_append, List.nil_append]
          obtain ⟨hi_12, h⟩ := h
          refine J_iast dX9_multiply_129 (by decide) hi_12  ?_
          refine J_nmS (fun S_13 eS_13 => ?_)
          have h := h S_13 eS_13
          refine J_sub (lv' := [(0, .ref (g.1 + 353)), (1, .ref (g.1 + p1)), (2, .int p2), (3, .ref (g.1 + p3)), (4, .int p4), (5, .int x5), (6, .int x6)]) [0, 1, 2, 3, 4, 5, 6] rfl ?_
          exact l_X9_multiply_130 p1 p2 p3 p4 _ _ _ hR27 (fun y5 y6 S  h => ih y5 y6 S  h) hp1 hp3 _ _ _  h
def q_X9_multiply_27 (p1 : Nat) (p2 : Int32) (p3 : Nat) (p4 : Int32)  (Q : Sto → Prop) : Nat → Int32 → Sto → Prop
  | 0, _, _ => False
  | n + 1, x5, S => (((S.1 353 3) ≤ x5 → Q S) ∧ (¬ (S.1 353 3) ≤ x5 → vp_in (p2 + x5) (ln p1) ∧ ((¬ (S.1 p1 (p2 + x5 : Int32).toNatClampNeg) = 0 → (∃ n_51, q_X9_multiply_51 p1 p2 p3 p4 (fun y5 S => q_X9_multiply_27 p1 p2 p3 p4  Q n y5 S) Q n_51 x5 0 S)) ∧ ((S.1 p1 (p2 + x5 : Int32).toNatClampNeg) = 0 → q_X9_multiply_136 p1 p2 p3 p4 (fun y5 S => q_X9_multiply_27 p1 p2 p3 p4  Q n y5 S) Q x5 S))))
set_option maxRecDepth 100000 in
set_option maxHeartbeats 4000000 in
theorem l_X9_multiply_27 {g : Gv} (p1 : Nat) (p2 : Int32) (p3 : Nat) (p4 : Int32)  (Q : Sto → Prop)  (hp1 : kd p1 = 0) (hp3 : kd p3 = 0) (n : Nat) : ∀ (x5 : Int32) (S : Sto)  (h : q_X9_multiply_27 p1 p2 p3 p4  Q n x5 S), RJ g cX9_multiply RX9 none 8 2 27 [(0, .ref (g.1 + 353)), (1, .ref (g.1 + p1)), (2, .int p2), (3, .ref (g.1 + p3)), (4, .int p4), (5, .int x5)] [] S (Qv Q) := by
  induction n with
  | zero => intro x5 S  h; exact h.elim
  | succ n ih =>
    intro x5 S  h
    unfold q_X9_multiply_27 at h
    refine J_iload dX9_multiply_27 5 rfl  ?_
    refine J_aload_n dX9_multiply_29 rfl 0 rfl  ?_
    refine J_geti (ci := 7) dX9_multiply_30 3 rfl giX9 (by decide) (by decide) rfl rfl tb_4_114 rfl  ?_
    refine J_icmp_ge (tgt := 142) dX9_multiply_33 (by decide) (fun c_1 => ?_) (fun c_1 => ?_)
    · have h := h.1 c_1
      exact J_vret dX9_multiply_142 rfl ⟨rfl, h⟩
    · have h := h.2 c_1
      refine J_aload_n dX9_multiply_36 rfl 1 rfl  ?_
      refine J_iload_n dX9_multiply_37 rfl 2 rfl  ?_
      refine J_iload dX9_multiply_38 5 rfl  ?_
      refine J_iadd dX9_multiply_40  ?_
      obtain ⟨hi_2, h⟩ := h
      refine J_iald dX9_multiply_41 hp1 hi_2  ?_
      refine J_if_ne (tgt := 48) dX9_multiply_42 (by decide) (fun c_3 => ?_) (fun c_3 => ?_)
      · have h := h.1 c_3
        refine J_iconst (v := 0) dX9_multiply_48 (by decide)  ?_
        refine J_istore (lv' := [(0, .ref (g.1 + 353)), (1, .ref (g.1 + p1)), (2, .int p2), (3, .ref (g.1 + p3)), (4, .int p4), (5, .int x5), (6, .int 0)]) dX9_multiply_49 (by decide) [1, 2, 3, 4, 5, 6, 0] rfl  ?_
        obtain ⟨n, h⟩ := h
        exact l_X9_multiply_51 p1 p2 p3 p4 _ _ (fun y5 S  h => ih y5 S  h) hp1 hp3 n _ _ _  h
      · have h := h.2 c_3
        refine J_goto (tgt := 136) dX9_multiply_45 (by decide)  ?_
        exact l_X9_multiply_136 p1 p2 p3 p4 _ _ (fun y5 S  h => ih y5 S  h) hp1 hp3 _ _  h
def q_X9_multiply_3 (p1 : Nat) (p2 : Int32) (p3 : Nat) (p4 : Int32)  (Q : Sto → Prop) : Nat → Int32 → Sto → Prop
  | 0, _, _ => False
  | n + 1, x5, S => ((16 ≤ x5 → (∃ n_27, q_X9_multiply_27 p1 p2 p3 p4  Q n_27 0 S)) ∧ (¬ 16 ≤ x5 → vp_in x5 (16) ∧ ∀ S_3 : Sto, S_3 = uA S 373 (x5 : Int32).toNatClampNeg 0 → ∀ x5_4 : Int32, x5_4 = x5 + 1 → q_X9_multiply_3 p1 p2 p3 p4  Q n x5_4 S_3))
set_option maxRecDepth 100000 in
set_option maxHeartbeats 4000000 in
theorem l_X9_multiply_3 {g : Gv} (p1 : Nat) (p2 : Int32) (p3 : Nat) (p4 : Int32)  (Q : Sto → Prop)  (hp1 : kd p1 = 0) (hp3 : kd p3 = 0) (n : Nat) : ∀ (x5 : Int32) (S : Sto)  (h : q_X9_multiply_3 p1 p2 p3 p4  Q n x5 S), RJ g cX9_multiply RX9 none 8 2 3 [(0, .ref (g.1 + 353)), (1, .ref (g.1 + p1)), (2, .int p2), (3, .ref (g.1 + p3)), (4, .int p4), (5, .int x5)] [] S (Qv Q) := by
  induction n with
  | zero => intro x5 S  h; exact h.elim
  | succ n ih =>
    intro x5 S  h
    unfold q_X9_multiply_3 at h
    refine J_iload dX9_multiply_3 5 rfl  ?_
    refine J_bipush (v := 16) dX9_multiply_5 (by decide)  ?_
    refine J_icmp_ge (tgt := 24) dX9_multiply_7 (by decide) (fun c_1 => ?_) (fun c_1 => ?_)
    · have h := h.1 c_1
      refine J_iconst (v := 0) dX9_multiply_24 (by decide)  ?_
      refine J_istore (lv' := [(0, .ref (g.1 + 353)), (1, .ref (g.1 + p1)), (2, .int p2), (3, .ref (g.1 + p3)), (4, .int p4), (5, .int 0)]) dX9_multiply_25 (by decide) [1, 2, 3, 4, 5, 0] rfl  ?_
      obtain ⟨n, h⟩ := h
      exact l_X9_multiply_27 p1 p2 p3 p4  _  hp1 hp3 n _ _  h
    · have h := h.2 c_1
      refine J_aload_n dX9_multiply_10 rfl 0 rfl  ?_
      refine J_getr (r := 373) (ci := 7) dX9_multiply_11 31 rfl giX9 (by decide) (by decide) rfl rfl tb_4_142 (by decide) (by decide)  ?_
      refine J_iload dX9_multiply_14 5 rfl  ?_
      refine J_iconst (v := 0) dX9_multiply_16 (by decide)  ?_
      obtain ⟨hi_2, h⟩ := h
      refine J_iast dX9_multiply_17 (by decide) hi_2  ?_
      refine J_nmS (fun S_3 eS_3 => ?_)
      have h := h S_3 eS_3
      obtain ⟨x5_4, ex5_4⟩ : ∃ y : Int32, y = x5 + 1 := ⟨_, rfl⟩
      have h := h x5_4 ex5_4
      refine J_iinc (v := x5_4) (lv' := [(0, .ref (g.1 + 353)), (1, .ref (g.1 + p1)), (2, .int p2), (3, .ref (g.1 + p3)), (4, .int p4), (5, .int x5_4)]) dX9_multiply_18 (q := 5) rfl (by rw [ex5_4]; rfl) (by decide) [1, 2, 3, 4, 5, 0] rfl  ?_
      refine J_goto (tgt := 3) dX9_multiply_21 (by decide)  ?_
      exact ih _ _  h
def wp_X9_multiply (p1 : Nat) (p2 : Int32) (p3 : Nat) (p4 : Int32) (S : Sto) (Q : Sto → Prop) : Prop := (∃ n_3, q_X9_multiply_3 p1 p2 p3 p4  Q n_3 0 S)
set_option maxRecDepth 100000 in
set_option maxHeartbeats 4000000 in
theorem c_X9_multiply {g : Gv} (p1 : Nat) (p2 : Int32) (p3 : Nat) (p4 : Int32) (hp1 : kd p1 = 0) (hp3 : kd p3 = 0) (S : Sto) (Q : Sto → Prop) (h : wp_X9_multiply p1 p2 p3 p4 S Q) : CT g yX9_multiply cX9_multiply 8 none 2 [.ref (g.1 + 353), .ref (g.1 + p1), .int p2, .ref (g.1 + p3), .int p4] S (Qv Q) := by
  unfold wp_X9_multiply at h
  refine CT.of (by decide) (Nat.le_of_ble_eq_true rfl) ?_
  refine J_sub (lv' := [(0, .ref (g.1 + 353)), (1, .ref (g.1 + p1)), (2, .int p2), (3, .ref (g.1 + p3)), (4, .int p4)]) [0, 1, 2, 3, 4] rfl ?_
  refine J_iconst (v := 0) dX9_multiply_0 (by decide)  ?_
  refine J_istore (lv' := [(0, .ref (g.1 + 353)), (1, .ref (g.1 + p1)), (2, .int p2), (3, .ref (g.1 + p3)), (4, .int p4), (5, .int 0)]) dX9_multiply_1 (by decide) [1, 2, 3, 4, 5, 0] rfl  ?_
  obtain ⟨n, h⟩ := h
  exact l_X9_multiply_3 p1 p2 p3 p4  _  hp1 hp3 n _ _  h
def q_X9_unit_20 (p1 : Nat) (p2 : Int32) (R2 : Int32 → Sto → Prop) (Q : Sto → Prop) (x3 : Int32) (t1 : Int32) (t2 : Int32) (S : Sto) : Prop := vp_in t1 (ln p1) ∧ ∀ S_2 : Sto, S_2 = uA S p1 (t1 : Int32).toNatClampNeg t2 → ∀ x3_3 : Int32, x3_3 = x3 + 1 → R2 x3_3 S_2
set_option maxRecDepth 100000 in
set_option maxHeartbeats 4000000 in
theorem l_X9_unit_20 {g : Gv} (p1 : Nat) (p2 : Int32) (R2 : Int32 → Sto → Prop) (Q : Sto → Prop) (hR2 : ∀ (y3 : Int32) (S : Sto), R2 y3 S → RJ g cX9_unit RX9 none 4 1 2 [(0, .ref (g.1 + 353)), (1, .ref (g.1 + p1)), (2, .int p2), (3, .int y3)] [] S (Qv Q)) (hp1 : kd p1 = 0) (x3 : Int32) (t1 : Int32) (t2 : Int32) (S : Sto)  (h : q_X9_unit_20 p1 p2 R2 Q x3 t1 t2 S) : RJ g cX9_unit RX9 none 4 1 20 [(0, .ref (g.1 + 353)), (1, .ref (g.1 + p1)), (2, .int p2), (3, .int x3)] [.int t2, .int t1, .ref (g.1 + p1)] S (Qv Q) := by
  unfold q_X9_unit_20 at h
  obtain ⟨hi_1, h⟩ := h
  refine J_iast dX9_unit_20 hp1 hi_1  ?_
  refine J_nmS (fun S_2 eS_2 => ?_)
  have h := h S_2 eS_2
  obtain ⟨x3_3, ex3_3⟩ : ∃ y : Int32, y = x3 + 1 := ⟨_, rfl⟩
  have h := h x3_3 ex3_3
  refine J_iinc (v := x3_3) (lv' := [(0, .ref (g.1 + 353)), (1, .ref (g.1 + p1)), (2, .int p2), (3, .int x3_3)]) dX9_unit_21 (q := 3) rfl (by rw [ex3_3]; rfl) (by decide) [1, 2, 3, 0] rfl  ?_
  refine J_goto (tgt := 2) dX9_unit_24 (by decide)  ?_
  exact hR2 _ _  h
def q_X9_unit_2 (p1 : Nat) (p2 : Int32)  (Q : Sto → Prop) : Nat → Int32 → Sto → Prop
  | 0, _, _ => False
  | n + 1, x3, S => ((16 ≤ x3 → Q S) ∧ (¬ 16 ≤ x3 → ((¬ x3 = p2 → q_X9_unit_20 p1 p2 (fun y3 S => q_X9_unit_2 p1 p2  Q n y3 S) Q x3 x3 0 S) ∧ (x3 = p2 → q_X9_unit_20 p1 p2 (fun y3 S => q_X9_unit_2 p1 p2  Q n y3 S) Q x3 x3 1 S))))
set_option maxRecDepth 100000 in
set_option maxHeartbeats 4000000 in
theorem l_X9_unit_2 {g : Gv} (p1 : Nat) (p2 : Int32)  (Q : Sto → Prop)  (hp1 : kd p1 = 0) (n : Nat) : ∀ (x3 : Int32) (S : Sto)  (h : q_X9_unit_2 p1 p2  Q n x3 S), RJ g cX9_unit RX9 none 4 1 2 [(0, .ref (g.1 + 353)), (1, .ref (g.1 + p1)), (2, .int p2), (3, .int x3)] [] S (Qv Q) := by
  induction n with
  | zero => intro x3 S  h; exact h.elim
  | succ n ih =>
    intro x3 S  h
    unfold q_X9_unit_2 at h
    refine J_iload_n dX9_unit_2 rfl 3 rfl  ?_
    refine J_bipush (v := 16) dX9_unit_3 (by decide)  ?_
    refine J_icmp_ge (tgt := 27) dX9_unit_5 (by decide) (fun c_1 => ?_) (fun c_1 => ?_)
    · have h := h.1 c_1
      exact J_vret dX9_unit_27 rfl ⟨rfl, h⟩
    · have h := h.2 c_1
      refine J_aload_n dX9_unit_8 rfl 1 rfl  ?_
      refine J_iload_n dX9_unit_9 rfl 3 rfl  ?_
      refine J_iload_n dX9_unit_10 rfl 3 rfl  ?_
      refine J_iload_n dX9_unit_11 rfl 2 rfl  ?_
      refine J_icmp_ne (tgt := 19) dX9_unit_12 (by decide) (fun c_2 => ?_) (fun c_2 => ?_)
      · have h := h.1 c_2
        refine J_iconst (v := 0) dX9_unit_19 (by decide)  ?_
        exact l_X9_unit_20 p1 p2 _ _ (fun y3 S  h => ih y3 S  h) hp1 _ _ _ _  h
      · have h := h.2 c_2
        refine J_iconst (v := 1) dX9_unit_15 (by decide)  ?_
        refine J_goto (tgt := 20) dX9_unit_16 (by decide)  ?_
        exact l_X9_unit_20 p1 p2 _ _ (fun y3 S  h => ih y3 S  h) hp1 _ _ _ _  h
def wp_X9_unit (p1 : Nat) (p2 : Int32) (S : Sto) (Q : Sto → Prop) : Prop := (∃ n_2, q_X9_unit_2 p1 p2  Q n_2 0 S)
set_option maxRecDepth 100000 in
set_option maxHeartbeats 4000000 in
theorem c_X9_unit {g : Gv} (p1 : Nat) (p2 : Int32) (hp1 : kd p1 = 0) (S : Sto) (Q : Sto → Prop) (h : wp_X9_unit p1 p2 S Q) : CT g yX9_unit cX9_unit 4 none 1 [.ref (g.1 + 353), .ref (g.1 + p1), .int p2] S (Qv Q) := by
  unfold wp_X9_unit at h
  refine CT.of (by decide) (Nat.le_of_ble_eq_true rfl) ?_
  refine J_sub (lv' := [(0, .ref (g.1 + 353)), (1, .ref (g.1 + p1)), (2, .int p2)]) [0, 1, 2] rfl ?_
  refine J_iconst (v := 0) dX9_unit_0 (by decide)  ?_
  refine J_istore_n (lv' := [(0, .ref (g.1 + 353)), (1, .ref (g.1 + p1)), (2, .int p2), (3, .int 0)]) dX9_unit_1 rfl (by decide) [1, 2, 3, 0] rfl  ?_
  obtain ⟨n, h⟩ := h
  exact l_X9_unit_2 p1 p2  _  hp1 n _ _  h
def q_X9_inverse_2 (p1 : Int32)  (Q : Int32 → Sto → Prop) : Nat → Int32 → Sto → Prop
  | 0, _, _ => False
  | n + 1, x2, S => ¬ (S.1 353 1) = 0 ∧ ((((x2 * p1) - (x2 * p1) / (S.1 353 1) * (S.1 353 1)) = 1 → Q x2 S) ∧ (¬ ((x2 * p1) - (x2 * p1) / (S.1 353 1) * (S.1 353 1)) = 1 → ∀ x2_3 : Int32, x2_3 = x2 + 1 → q_X9_inverse_2 p1  Q n x2_3 S))
set_option maxRecDepth 100000 in
set_option maxHeartbeats 4000000 in
theorem l_X9_inverse_2 {g : Gv} (p1 : Int32)  (Q : Int32 → Sto → Prop)   (n : Nat) : ∀ (x2 : Int32) (S : Sto)  (h : q_X9_inverse_2 p1  Q n x2 S), RJ g cX9_inverse RX9 (some .int) 3 1 2 [(0, .ref (g.1 + 353)), (1, .int p1), (2, .int x2)] [] S (Qi Q) := by
  induction n with
  | zero => intro x2 S  h; exact h.elim
  | succ n ih =>
    intro x2 S  h
    unfold q_X9_inverse_2 at h
    refine J_iload_n dX9_inverse_2 rfl 2 rfl  ?_
    refine J_iload_n dX9_inverse_3 rfl 1 rfl  ?_
    refine J_imul dX9_inverse_4  ?_
    refine J_aload_n dX9_inverse_5 rfl 0 rfl  ?_
    refine J_geti (ci := 7) dX9_inverse_6 1 rfl giX9 (by decide) (by decide) rfl rfl tb_4_112 rfl  ?_
    obtain ⟨hz_1, h⟩ := h
    refine J_irem dX9_inverse_9 hz_1  ?_
    refine J_iconst (v := 1) dX9_inverse_10 (by decide)  ?_
    refine J_icmp_eq (tgt := 20) dX9_inverse_11 (by decide) (fun c_2 => ?_) (fun c_2 => ?_)
    · have h := h.1 c_2
      refine J_iload_n dX9_inverse_20 rfl 2 rfl  ?_
      exact J_iret dX9_inverse_21 rfl rfl ⟨_, rfl, h⟩
    · have h := h.2 c_2
      obtain ⟨x2_3, ex2_3⟩ : ∃ y : Int32, y = x2 + 1 := ⟨_, rfl⟩
      have h := h x2_3 ex2_3
      refine J_iinc (v := x2_3) (lv' := [(0, .ref (g.1 + 353)), (1, .int p1), (2, .int x2_3)]) dX9_inverse_14 (q := 2) rfl (by rw [ex2_3]; rfl) (by decide) [1, 2, 0] rfl  ?_
      refine J_goto (tgt := 2) dX9_inverse_17 (by decide)  ?_
      exact ih _ _  h
def wp_X9_inverse (p1 : Int32) (S : Sto) (Q : Int32 → Sto → Prop) : Prop := (∃ n_2, q_X9_inverse_2 p1  Q n_2 1 S)
set_option maxRecDepth 100000 in
set_option maxHeartbeats 4000000 in
theorem c_X9_inverse {g : Gv} (p1 : Int32)  (S : Sto) (Q : Int32 → Sto → Prop) (h : wp_X9_inverse p1 S Q) : CT g yX9_inverse cX9_inverse 3 (some .int) 1 [.ref (g.1 + 353), .int p1] S (Qi Q) := by
  unfold wp_X9_inverse at h
  refine CT.of (by decide) (Nat.le_of_ble_eq_true rfl) ?_
  refine J_sub (lv' := [(0, .ref (g.1 + 353)), (1, .int p1)]) [0, 1] rfl ?_
  refine J_iconst (v := 1) dX9_inverse_0 (by decide)  ?_
  refine J_istore_n (lv' := [(0, .ref (g.1 + 353)), (1, .int p1), (2, .int 1)]) dX9_inverse_1 rfl (by decide) [1, 2, 0] rfl  ?_
  obtain ⟨n, h⟩ := h
  exact l_X9_inverse_2 p1  _   n _ _  h
def q_X9_begin_12 (p1 : Int32)  (Q : Sto → Prop) : Nat → Int32 → Sto → Prop
  | 0, _, _ => False
  | n + 1, x2, S => ((p1 ≤ x2 → Q S) ∧ (¬ p1 ≤ x2 → vp_in x2 (256) ∧ ∀ S_3 : Sto, S_3 = uA S 369 (x2 : Int32).toNatClampNeg x2 → vp_in x2 (256) ∧ ∀ S_5 : Sto, S_5 = uA S_3 368 (x2 : Int32).toNatClampNeg ((-1)) → ∀ x2_6 : Int32, x2_6 = x2 + 1 → q_X9_begin_12 p1  Q n x2_6 S_5))
set_option maxRecDepth 100000 in
set_option maxHeartbeats 4000000 in
theorem l_X9_begin_12 {g : Gv} (p1 : Int32)  (Q : Sto → Prop)   (n : Nat) : ∀ (x2 : Int32) (S : Sto)  (h : q_X9_begin_12 p1  Q n x2 S), RJ g cX9_begin RX9 none 3 1 12 [(0, .ref (g.1 + 353)), (1, .int p1), (2, .int x2)] [] S (Qv Q) := by
  induction n with
  | zero => intro x2 S  h; exact h.elim
  | succ n ih =>
    intro x2 S  h
    unfold q_X9_begin_12 at h
    refine J_iload_n dX9_begin_12 rfl 2 rfl  ?_
    refine J_iload_n dX9_begin_13 rfl 1 rfl  ?_
    refine J_icmp_ge (tgt := 37) dX9_begin_14 (by decide) (fun c_1 => ?_) (fun c_1 => ?_)
    · have h := h.1 c_1
      exact J_vret dX9_begin_37 rfl ⟨rfl, h⟩
    · have h := h.2 c_1
      refine J_aload_n dX9_begin_17 rfl 0 rfl  ?_
      refine J_getr (r := 369) (ci := 7) dX9_begin_18 26 rfl giX9 (by decide) (by decide) rfl rfl tb_4_137 (by decide) (by decide)  ?_
      refine J_iload_n dX9_begin_21 rfl 2 rfl  ?_
      refine J_iload_n dX9_begin_22 rfl 2 rfl  ?_
      obtain ⟨hi_2, h⟩ := h
      refine J_iast dX9_begin_23 (by decide) hi_2  ?_
      refine J_nmS (fun S_3 eS_3 => ?_)
      have h := h S_3 eS_3
      refine J_aload_n dX9_begin_24 rfl 0 rfl  ?_
      refine J_getr (r := 368) (ci := 7) dX9_begin_25 24 rfl giX9 (by decide) (by decide) rfl rfl tb_4_135 (by decide) (by decide)  ?_
      refine J_iload_n dX9_begin_28 rfl 2 rfl  ?_
      refine J_iconst (v := (-1)) dX9_begin_29 (by decide)  ?_
      obtain ⟨hi_4, h⟩ := h
      refine J_iast dX9_begin_30 (by decide) hi_4  ?_
      refine J_nmS (fun S_5 eS_5 => ?_)
      have h := h S_5 eS_5
      obtain ⟨x2_6, ex2_6⟩ : ∃ y : Int32, y = x2 + 1 := ⟨_, rfl⟩
      have h := h x2_6 ex2_6
      refine J_iinc (v := x2_6) (lv' := [(0, .ref (g.1 + 353)), (1, .int p1), (2, .int x2_6)]) dX9_begin_31 (q := 2) rfl (by rw [ex2_6]; rfl) (by decide) [1, 2, 0] rfl  ?_
      refine J_goto (tgt := 12) dX9_begin_34 (by decide)  ?_
      exact ih _ _  h
def wp_X9_begin (p1 : Int32) (S : Sto) (Q : Sto → Prop) : Prop := ∀ S_1 : Sto, S_1 = uA S 353 25 0 → ∀ S_2 : Sto, S_2 = uA S_1 353 27 p1 → (∃ n_12, q_X9_begin_12 p1  Q n_12 0 S_2)
set_option maxRecDepth 100000 in
set_option maxHeartbeats 4000000 in
theorem c_X9_begin {g : Gv} (p1 : Int32)  (S : Sto) (Q : Sto → Prop) (h : wp_X9_begin p1 S Q) : CT g yX9_begin cX9_begin 3 none 1 [.ref (g.1 + 353), .int p1] S (Qv Q) := by
  unfold wp_X9_begin at h
  refine CT.of (by decide) (Nat.le_of_ble_eq_true rfl) ?_
  refine J_sub (lv' := [(0, .ref (g.1 + 353)), (1, .int p1)]) [0, 1] rfl ?_
  refine J_aload_n dX9_begin_0 rfl 0 rfl  ?_
  refine J_iconst (v := 0) dX9_begin_1 (by decide)  ?_
  refine J_puti (ci := 7) dX9_begin_2 25 rfl giX9 (by decide) (by decide) rfl rfl tyX9 tyX9_ok nmX9 rfl rfl rfl rfl tb_4_136 rfl  ?_
  refine J_nmS (fun S_1 eS_1 => ?_)
  have h := h S_1 eS_1
  refine J_aload_n dX9_begin_5 rfl 0 rfl  ?_
  refine J_iload_n dX9_begin_6 rfl 1 rfl  ?_
  refine J_puti (ci := 7) dX9_begin_7 27 rfl giX9 (by decide) (by decide) rfl rfl tyX9 tyX9_ok nmX9 rfl rfl rfl rfl tb_4_138 rfl  ?_
  refine J_nmS (fun S_2 eS_2 => ?_)
  have h := h S_2 eS_2
  refine J_iconst (v := 0) dX9_begin_10 (by decide)  ?_
  refine J_istore_n (lv' := [(0, .ref (g.1 + 353)), (1, .int p1), (2, .int 0)]) dX9_begin_11 rfl (by decide) [1, 2, 0] rfl  ?_
  obtain ⟨n, h⟩ := h
  exact l_X9_begin_12 p1  _   n _ _  h
def q_X9_beginPlaces_56  (R20 : Int32 → Int32 → Sto → Prop) (R30 : Int32 → Int32 → Int32 → Sto → Prop) (Q : Sto → Prop) (x1 : Int32) (x2 : Int32) (x3 : Int32) (S : Sto) : Prop := ∀ x3_1 : Int32, x3_1 = x3 + 1 → R30 x1 x2 x3_1 S
set_option maxRecDepth 100000 in
set_option maxHeartbeats 4000000 in
theorem l_X9_beginPlaces_56 {g : Gv}  (R20 : Int32 → Int32 → Sto → Prop) (R30 : Int32 → Int32 → Int32 → Sto → Prop) (Q : Sto → Prop) (hR20 : ∀ (y1 : Int32) (y2 : Int32) (S : Sto), R20 y1 y2 S → RJ g cX9_beginPlaces RX9 none 4 3 20 [(0, .ref (g.1 + 353)), (1, .int y1), (2, .int y2)] [] S (Qv Q)) (hR30 : ∀ (y1 : Int32) (y2 : Int32) (y3 : Int32) (S : Sto), R30 y1 y2 y3 S → RJ g cX9_beginPlaces RX9 none 4 3 30 [(0, .ref (g.1 + 353)), (1, .int y1), (2, .int y2), (3, .int y3)] [] S (Qv Q))  (x1 : Int32) (x2 : Int32) (x3 : Int32) (S : Sto)  (h : q_X9_beginPlaces_56  R20 R30 Q x1 x2 x3 S) : RJ g cX9_beginPlaces RX9 none 4 3 56 [(0, .ref (g.1 + 353)), (1, .int x1), (2, .int x2), (3, .int x3)] [] S (Qv Q) := by
  unfold q_X9_beginPlaces_56 at h
  obtain ⟨x3_1, ex3_1⟩ : ∃ y : Int32, y = x3 + 1 := ⟨_, rfl⟩
  have h := h x3_1 ex3_1
  refine J_iinc (v := x3_1) (lv' := [(0, .ref (g.1 + 353)), (1, .int x1), (2, .int x2), (3, .int x3_1)]) dX9_beginPlaces_56 (q := 3) rfl (by rw [ex3_1]; rfl) (by decide) [1, 2, 3, 0] rfl  ?_
  refine J_goto (tgt := 30) dX9_beginPlaces_59 (by decide)  ?_
  exact hR30 _ _ _ _  h
def q_X9_beginPlaces_30  (R20 : Int32 → Int32 → Sto → Prop) (Q : Sto → Prop) : Nat → Int32 → Int32 → Int32 → Sto → Prop
  | 0, _, _, _, _ => False
  | n + 1, x1, x2, x3, S => (((S.1 353 3) ≤ x3 → ∀ x2_2 : Int32, x2_2 = x2 + 1 → R20 x1 x2_2 S) ∧ (¬ (S.1 353 3) ≤ x3 → wp_X9_degree x3 S (fun r_4 S_3 => ((¬ r_4 = x2 → q_X9_beginPlaces_56  R20 (fun y1 y2 y3 S => q_X9_beginPlaces_30  R20 Q n y1 y2 y3 S) Q x1 x2 x3 S_3) ∧ (r_4 = x2 → ∀ x1_6 : Int32, x1_6 = x1 + 1 → vp_in x1 (256) ∧ ∀ S_8 : Sto, S_8 = uA S_3 369 (x1 : Int32).toNatClampNeg x3 → q_X9_beginPlaces_56  R20 (fun y1 y2 y3 S => q_X9_beginPlaces_30  R20 Q n y1 y2 y3 S) Q x1_6 x2 x3 S_8)))))
set_option maxRecDepth 100000 in
set_option maxHeartbeats 4000000 in
theorem l_X9_beginPlaces_30 {g : Gv}  (R20 : Int32 → Int32 → Sto → Prop) (Q : Sto → Prop) (hR20 : ∀ (y1 : Int32) (y2 : Int32) (S : Sto), R20 y1 y2 S → RJ g cX9_beginPlaces RX9 none 4 3 20 [(0, .ref (g.1 + 353)), (1, .int y1), (2, .int y2)] [] S (Qv Q))  (n : Nat) : ∀ (x1 : Int32) (x2 : Int32) (x3 : Int32) (S : Sto)  (h : q_X9_beginPlaces_30  R20 Q n x1 x2 x3 S), RJ g cX9_beginPlaces RX9 none 4 3 30 [(0, .ref (g.1 + 353)), (1, .int x1), (2, .int x2), (3, .int x3)] [] S (Qv Q) := by
  induction n with
  | zero => intro x1 x2 x3 S  h; exact h.elim
  | succ n ih =>
    intro x1 x2 x3 S  h
    unfold q_X9_beginPlaces_30 at h
    refine J_iload_n dX9_beginPlaces_30 rfl 3 rfl  ?_
    refine J_aload_n dX9_beginPlaces_31 rfl 0 rfl  ?_
    refine J_geti (ci := 7) dX9_beginPlaces_32 3 rfl giX9 (by decide) (by decide) rfl rfl tb_4_114 rfl  ?_
    refine J_icmp_ge (tgt := 62) dX9_beginPlaces_35 (by decide) (fun c_1 => ?_) (fun c_1 => ?_)
    · have h := h.1 c_1
      obtain ⟨x2_2, ex2_2⟩ : ∃ y : Int32, y = x2 + 1 := ⟨_, rfl⟩
      have h := h x2_2 ex2_2
      refine J_iinc (v := x2_2) (lv' := [(0, .ref (g.1 + 353)), (1, .int x1), (2, .int x2_2), (3, .int x3)]) dX9_beginPlaces_62 (q := 2) rfl (by rw [ex2_2]; rfl) (by decide) [1, 2, 0, 3] rfl  ?_
      refine J_goto (tgt := 20) dX9_beginPlaces_65 (by decide)  ?_
      refine J_sub (lv' := [(0, .ref (g.1 + 353)), (1, .int x1), (2, .int x2_2)]) [0, 1, 2] rfl ?_
      exact hR20 _ _ _  h
    · have h := h.2 c_1
      refine J_iload_n dX9_beginPlaces_38 rfl 3 rfl  ?_
      refine J_callS (As := [.int x3]) (rest := []) (n := 1) dX9_beginPlaces_39 (c_X9_degree x3  _ _ h) tb_5_75 tb_5_73 tb_1_8 tb_5_74 (by decide) rfl (by decide) (by decide) (Nat.le_of_ble_eq_true rfl) rfl (fun v_r_4 S_3 hq => ?_)
      obtain ⟨r_4, rfl, h⟩ := hq
      dsimp only [Option.toList, List.cons_append, List.nil_append]
      refine J_iload_n dX9_beginPlaces_42 rfl 2 rfl  ?_
      refine J_icmp_ne (tgt := 56) dX9_beginPlaces_43 (by decide) (fun c_5 => ?_) (fun c_5 => ?_)
      · have h := h.1 c_5
        exact l_X9_beginPlaces_56  _ _ _ hR20 (fun y1 y2 y3 S  h => ih y1 y2 y3 S  h)  _ _ _ _  h
      · have h := h.2 c_5
        refine J_aload_n dX9_beginPlaces_46 rfl 0 rfl  ?_
        refine J_getr (r := 369) (ci := 7) dX9_beginPlaces_47 26 rfl giX9 (by decide) (by decide) rfl rfl tb_4_137 (by decide) (by decide)  ?_
        refine J_iload_n dX9_beginPlaces_50 rfl 1 rfl  ?_
        obtain ⟨x1_6, ex1_6⟩ : ∃ y : Int32, y = x1 + 1 := ⟨_, rfl⟩
        have h := h x1_6 ex1_6
        refine J_iinc (v := x1_6) (lv' := [(0, .ref (g.1 + 353)), (1, .int x1_6), (2, .int x2), (3, .int x3)]) dX9_beginPlaces_51 (q := 1) rfl (by rw [ex1_6]; rfl) (by decide) [1, 0, 2, 3] rfl  ?_
        refine J_iload_n dX9_beginPlaces_54 rfl 3 rfl  ?_
        obtain ⟨hi_7, h⟩ := h
        refine J_iast dX9_beginPlaces_55 (by decide) hi_7  ?_
        refine J_nmS (fun S_8 eS_8 => ?_)
        have h := h S_8 eS_8
        exact l_X9_beginPlaces_56  _ _ _ hR20 (fun y1 y2 y3 S  h => ih y1 y2 y3 S  h)  _ _ _ _  h
def q_X9_beginPlaces_20   (Q : Sto → Prop) : Nat → Int32 → Int32 → Sto → Prop
  | 0, _, _, _ => False
  | n + 1, x1, x2, S => (((S.1 353 0) < x2 → Q S) ∧ (¬ (S.1 353 0) < x2 → (∃ n_30, q_X9_beginPlaces_30  (fun y1 y2 S => q_X9_beginPlaces_20   Q n y1 y2 S) Q n_30 x1 x2 0 S)))
set_option maxRecDepth 100000 in
set_option maxHeartbeats 4000000 in
theorem l_X9_beginPlaces_20 {g : Gv}   (Q : Sto → Prop)   (n : Nat) : ∀ (x1 : Int32) (x2 : Int32) (S : Sto)  (h : q_X9_beginPlaces_20   Q n x1 x2 S), RJ g cX9_beginPlaces RX9 none 4 3 20 [(0, .ref (g.1 + 353)), (1, .int x1), (2, .int x2)] [] S (Qv Q) := by
  induction n with
  | zero => intro x1 x2 S  h; exact h.elim
  | succ n ih =>
    intro x1 x2 S  h
    unfold q_X9_beginPlaces_20 at h
    refine J_iload_n dX9_beginPlaces_20 rfl 2 rfl  ?_
    refine J_aload_n dX9_beginPlaces_21 rfl 0 rfl  ?_
    refine J_geti (ci := 7) dX9_beginPlaces_22 0 rfl giX9 (by decide) (by decide) rfl rfl tb_4_111 rfl  ?_
    refine J_icmp_gt (tgt := 68) dX9_beginPlaces_25 (by decide) (fun c_1 => ?_) (fun c_1 => ?_)
    · have h := h.1 c_1
      exact J_vret dX9_beginPlaces_68 rfl ⟨rfl, h⟩
    · have h := h.2 c_1
      refine J_iconst (v := 0) dX9_beginPlaces_28 (by decide)  ?_
      refine J_istore_n (lv' := [(0, .ref (g.1 + 353)), (1, .int x1), (2, .int x2), (3, .int 0)]) dX9_beginPlaces_29 rfl (by decide) [1, 2, 3, 0] rfl  ?_
      obtain ⟨n, h⟩ := h
      exact l_X9_beginPlaces_30  _ _ (fun y1 y2 S  h => ih y1 y2 S  h)  n _ _ _ _  h
def wp_X9_beginPlaces  (S : Sto) (Q : Sto → Prop) : Prop := wp_X9_begin (S.1 353 3) S (fun S_1 => ((¬ (S_1.1 353 2) = 0 → (∃ n_20, q_X9_beginPlaces_20   Q n_20 0 0 S_1)) ∧ ((S_1.1 353 2) = 0 → Q S_1)))
set_option maxRecDepth 100000 in
set_option maxHeartbeats 4000000 in
theorem c_X9_beginPlaces {g : Gv}   (S : Sto) (Q : Sto → Prop) (h : wp_X9_beginPlaces  S Q) : CT g yX9_beginPlaces cX9_beginPlaces 4 none 3 [.ref (g.1 + 353)] S (Qv Q) := by
  unfold wp_X9_beginPlaces at h
  refine CT.of (by decide) (Nat.le_of_ble_eq_true rfl) ?_
  refine J_sub (lv' := [(0, .ref (g.1 + 353))]) [0] rfl ?_
  refine J_aload_n dX9_beginPlaces_0 rfl 0 rfl  ?_
  refine J_aload_n dX9_beginPlaces_1 rfl 0 rfl  ?_
  refine J_geti (ci := 7) dX9_beginPlaces_2 3 rfl giX9 (by decide) (by decide) rfl rfl tb_4_114 rfl  ?_
  refine J_callV (h := 353) (ci := 7) (As := [.int (S.1 353 3)]) (rest := []) (n := 1) dX9_beginPlaces_5 (c_X9_begin (S.1 353 3)  _ _ h) (by decide) rfl tb_5_72 tb_5_69 tb_1_8 tb_5_71 sl_35 (by decide) rfl (by decide) (by decide) (Nat.le_of_ble_eq_true rfl) rfl (fun v_r_2 S_1 hq => ?_)
  obtain ⟨rfl, h⟩ := hq
  dsimp only [Option.toList, List.cons_append, List.nil_append]
  refine J_aload_n dX9_beginPlaces_8 rfl 0 rfl  ?_
  refine J_geti (ci := 7) dX9_beginPlaces_9 2 rfl giX9 (by decide) (by decide) rfl rfl tb_4_113 rfl  ?_
  refine J_if_ne (tgt := 16) dX9_beginPlaces_12 (by decide) (fun c_3 => ?_) (fun c_3 => ?_)
  · have h := h.1 c_3
    refine J_iconst (v := 0) dX9_beginPlaces_16 (by decide)  ?_
    refine J_istore_n (lv' := [(0, .ref (g.1 + 353)), (1, .int 0)]) dX9_beginPlaces_17 rfl (by decide) [1, 0] rfl  ?_
    refine J_iconst (v := 0) dX9_beginPlaces_18 (by decide)  ?_
    refine J_istore_n (lv' := [(0, .ref (g.1 + 353)), (1, .int 0), (2, .int 0)]) dX9_beginPlaces_19 rfl (by decide) [1, 2, 0] rfl  ?_
    obtain ⟨n, h⟩ := h
    exact l_X9_beginPlaces_20   _   n _ _ _  h
  · have h := h.2 c_3
    exact J_vret dX9_beginPlaces_15 rfl ⟨rfl, h⟩
def q_X9_reduce_104  (R2 : Int32 → Sto → Prop) (Q : Sto → Prop) (x1 : Int32) (S : Sto) : Prop := ∀ x1_1 : Int32, x1_1 = x1 + 1 → R2 x1_1 S
set_option maxRecDepth 100000 in
set_option maxHeartbeats 4000000 in
theorem l_X9_reduce_104 {g : Gv}  (R2 : Int32 → Sto → Prop) (Q : Sto → Prop) (hR2 : ∀ (y1 : Int32) (S : Sto), R2 y1 S → RJ g cX9_reduce RX9 none 6 2 2 [(0, .ref (g.1 + 353)), (1, .int y1)] [] S (Qv Q))  (x1 : Int32) (S : Sto)  (h : q_X9_reduce_104  R2 Q x1 S) : RJ g cX9_reduce RX9 none 6 2 104 [(0, .ref (g.1 + 353)), (1, .int x1)] [] S (Qv Q) := by
  unfold q_X9_reduce_104 at h
  obtain ⟨x1_1, ex1_1⟩ : ∃ y : Int32, y = x1 + 1 := ⟨_, rfl⟩
  have h := h x1_1 ex1_1
  refine J_iinc (v := x1_1) (lv' := [(0, .ref (g.1 + 353)), (1, .int x1_1)]) dX9_reduce_104 (q := 1) rfl (by rw [ex1_1]; rfl) (by decide) [1, 0] rfl  ?_
  refine J_goto (tgt := 2) dX9_reduce_107 (by decide)  ?_
  exact hR2 _ _  h
def q_X9_reduce_55  (R2 : Int32 → Sto → Prop) (Q : Sto → Prop) : Nat → Int32 → Int32 → Int32 → Int32 → Sto → Prop
  | 0, _, _, _, _, _ => False
  | n + 1, x1, x3, x4, x5, S => (((S.1 353 27) ≤ x5 → q_X9_reduce_104  R2 Q x1 S) ∧ (¬ (S.1 353 27) ≤ x5 → vp_in x5 (256) ∧ vp_in (x4 + x5) (65536) ∧ wp_X9_modulo (((S.1 370 (x5 : Int32).toNatClampNeg : Int32).toInt64) - (((x3 : Int32).toInt64) * ((S.1 366 (x4 + x5 : Int32).toNatClampNeg : Int32).toInt64))) S (fun r_5 S_4 => vp_in x5 (256) ∧ ∀ S_7 : Sto, S_7 = uA S_4 370 (x5 : Int32).toNatClampNeg r_5 → ∀ x5_8 : Int32, x5_8 = x5 + 1 → q_X9_reduce_55  R2 Q n x1 x3 x4 x5_8 S_7)))
set_option maxRecDepth 100000 in
set_option maxHeartbeats 4000000 in
theorem l_X9_reduce_55 {g : Gv}  (R2 : Int32 → Sto → Prop) (Q : Sto → Prop) (hR2 : ∀ (y1 : Int32) (S : Sto), R2 y1 S → RJ g cX9_reduce RX9 none 6 2 2 [(0, .ref (g.1 + 353)), (1, .int y1)] [] S (Qv Q))  (n : Nat) : ∀ (x1 : Int32) (x3 : Int32) (x4 : Int32) (x5 : Int32) (S : Sto)  (h : q_X9_reduce_55  R2 Q n x1 x3 x4 x5 S), RJ g cX9_reduce RX9 none 6 2 55 [(0, .ref (g.1 + 353)), (1, .int x1), (3, .int x3), (4, .int x4), (5, .int x5)] [] S (Qv Q) := by
  induction n with
  | zero => intro x1 x3 x4 x5 S  h; exact h.elim
  | succ n ih =>
    intro x1 x3 x4 x5 S  h
    unfold q_X9_reduce_55 at h
    refine J_iload dX9_reduce_55 4 rfl  ?_
    refine J_aload_n dX9_reduce_57 rfl 0 rfl  ?_
    refine J_geti (ci := 7) dX9_reduce_58 27 rfl giX9 (by decide) (by decide) rfl rfl tb_4_138 rfl  ?_
    refine J_icmp_ge (tgt := 104) dX9_reduce_61 (by decide) (fun c_1 => ?_) (fun c_1 => ?_)
    · have h := h.1 c_1
      refine J_sub (lv' := [(0, .ref (g.1 + 353)), (1, .int x1)]) [0, 1] rfl ?_
      exact l_X9_reduce_104  _ _ hR2  _ _  h
    · have h := h.2 c_1
      refine J_aload_n dX9_reduce_64 rfl 0 rfl  ?_
      refine J_getr (r := 370) (ci := 7) dX9_reduce_65 28 rfl giX9 (by decide) (by decide) rfl rfl tb_4_139 (by decide) (by decide)  ?_
      refine J_iload dX9_reduce_68 4 rfl  ?_
      refine J_aload_n dX9_reduce_70 rfl 0 rfl  ?_
      refine J_aload_n dX9_reduce_71 rfl 0 rfl  ?_
      refine J_getr (r := 370) (ci := 7) dX9_reduce_72 28 rfl giX9 (by decide) (by decide) rfl rfl tb_4_139 (by decide) (by decide)  ?_
      refine J_iload dX9_reduce_75 4 rfl  ?_
      obtain ⟨hi_2, h⟩ := h
      refine J_iald dX9_reduce_77 (by decide) hi_2  ?_
      refine J_i2l dX9_reduce_78  ?_
      refine J_iload_n dX9_reduce_79 rfl 2 rfl  ?_
      refine J_i2l dX9_reduce_80  ?_
      refine J_aload_n dX9_reduce_81 rfl 0 rfl  ?_
      refine J_getr (r := 366) (ci := 7) dX9_reduce_82 22 rfl giX9 (by decide) (by decide) rfl rfl tb_4_133 (by decide) (by decide)  ?_
      refine J_iload dX9_reduce_85 3 rfl  ?_
      refine J_iload dX9_reduce_87 4 rfl  ?_
      refine J_iadd dX9_reduce_89  ?_
      obtain ⟨hi_3, h⟩ := h
      refine J_iald dX9_reduce_90 (by decide) hi_3  ?_
      refine J_i2l dX9_reduce_91  ?_
      refine J_lmul dX9_reduce_92  ?_
      refine J_lsub dX9_reduce_93  ?_
      refine J_callV (h := 353) (ci := 7) (As := [.long (((S.1 370 (x5 : Int32).toNatClampNeg : Int32).toInt64) - (((x3 : Int32).toInt64) * ((S.1 366 (x4 + x5 : Int32).toNatClampNeg : Int32).toInt64)))]) (rest := [.int x5, .ref (g.1 + 370)]) (n := 1) dX9_reduce_94 (c_X9_modulo (((S.1 370 (x5 : Int32).toNatClampNeg : Int32).toInt64) - (((x3 : Int32).toInt64) * ((S.1 366 (x4 + x5 : Int32).toNatClampNeg : Int32).toInt64)))  _ _ h) (by decide) rfl tb_5_37 tb_5_34 tb_1_8 tb_5_36 sl_30 (by decide) rfl (by decide) (by decide) (Nat.le_of_ble_eq_true rfl) rfl (fun v_r_5 S_4 hq => ?_)
      obtain ⟨r_5, rfl, h⟩ := hq
      dsimp only [Option.toList, List.cons_append, List.nil_append]
      obtain ⟨hi_6, h⟩ := h
      refine J_iast dX9_reduce_97 (by decide) hi_6  ?_
      refine J_nmS (fun S_7 eS_7 => ?_)
      have h := h S_7 eS_7
      obtain ⟨x5_8, ex5_8⟩ : ∃ y : Int32, y = x5 + 1 := ⟨_, rfl⟩
      have h := h x5_8 ex5_8
      refine J_iinc (v := x5_8) (lv' := [(0, .ref (g.1 + 353)), (1, .int x1), (3, .int x3), (4, .int x4), (5, .int x5_8)]) dX9_reduce_98 (q := 4) rfl (by rw [ex5_8]; rfl) (by decide) [1, 2, 3, 4, 0] rfl  ?_
      refine J_goto (tgt := 55) dX9_reduce_101 (by decide)  ?_
      exact ih _ _ _ _ _  h
def q_X9_reduce_2   (Q : Sto → Prop) : Nat → Int32 → Sto → Prop
  | 0, _, _ => False
  | n + 1, x1, S => (((S.1 353 27) ≤ x1 → Q S) ∧ (¬ (S.1 353 27) ≤ x1 → vp_in x1 (256) ∧ ∀ x2_3 : Int32, x2_3 = S.1 369 (x1 : Int32).toNatClampNeg → vp_in x2_3 (256) ∧ ∀ x3_5 : Int32, x3_5 = S.1 370 (x2_3 : Int32).toNatClampNeg → ((x3_5 = 0 → q_X9_reduce_104  (fun y1 S => q_X9_reduce_2   Q n y1 S) Q x1 S) ∧ (¬ x3_5 = 0 → vp_in x2_3 (256) ∧ ((0 ≤ (S.1 368 (x2_3 : Int32).toNatClampNeg) → vp_in x2_3 (256) ∧ ∀ x4_10 : Int32, x4_10 = 256 * (S.1 368 (x2_3 : Int32).toNatClampNeg) → (∃ n_55, q_X9_reduce_55  (fun y1 S => q_X9_reduce_2   Q n y1 S) Q n_55 x1 x3_5 x4_10 0 S)) ∧ (¬ 0 ≤ (S.1 368 (x2_3 : Int32).toNatClampNeg) → q_X9_reduce_104  (fun y1 S => q_X9_reduce_2   Q n y1 S) Q x1 S))))))
set_option maxRecDepth 100000 in
set_option maxHeartbeats 4000000 in
theorem l_X9_reduce_2 {g : Gv}   (Q : Sto → Prop)   (n : Nat) : ∀ (x1 : Int32) (S : Sto)  (h : q_X9_reduce_2   Q n x1 S), RJ g cX9_reduce RX9 none 6 2 2 [(0, .ref (g.1 + 353)), (1, .int x1)] [] S (Qv Q) := by
  induction n with
  | zero => intro x1 S  h; exact h.elim
  | succ n ih =>
    intro x1 S  h
    unfold q_X9_reduce_2 at h
    refine J_iload_n dX9_reduce_2 rfl 1 rfl  ?_
    refine J_aload_n dX9_reduce_3 rfl 0 rfl  ?_
    refine J_geti (ci := 7) dX9_reduce_4 27 rfl giX9 (by decide) (by decide) rfl rfl tb_4_138 rfl  ?_
    refine J_icmp_ge (tgt := 110) dX9_reduce_7 (by decide) (fun c_1 => ?_) (fun c_1 => ?_)
    · have h := h.1 c_1
      exact J_vret dX9_reduce_110 rfl ⟨rfl, h⟩
    · have h := h.2 c_1
      refine J_aload_n dX9_reduce_10 rfl 0 rfl  ?_
      refine J_getr (r := 369) (ci := 7) dX9_reduce_11 26 rfl giX9 (by decide) (by decide) rfl rfl tb_4_137 (by decide) (by decide)  ?_
      refine J_iload_n dX9_reduce_14 rfl 1 rfl  ?_
      obtain ⟨hi_2, h⟩ := h
      refine J_iald dX9_reduce_15 (by decide) hi_2  ?_
      refine J_topi (fun x2_3 ex2_3 => ?_)
      have h := h x2_3 ex2_3
      refine J_istore_n (lv' := [(0, .ref (g.1 + 353)), (1, .int x1), (2, .int x2_3)]) dX9_reduce_16 rfl (by decide) [1, 2, 0] rfl  ?_
      refine J_aload_n dX9_reduce_17 rfl 0 rfl  ?_
      refine J_getr (r := 370) (ci := 7) dX9_reduce_18 28 rfl giX9 (by decide) (by decide) rfl rfl tb_4_139 (by decide) (by decide)  ?_
      refine J_iload_n dX9_reduce_21 rfl 2 rfl  ?_
      obtain ⟨hi_4, h⟩ := h
      refine J_iald dX9_reduce_22 (by decide) hi_4  ?_
      refine J_topi (fun x3_5 ex3_5 => ?_)
      have h := h x3_5 ex3_5
      refine J_istore_n (lv' := [(0, .ref (g.1 + 353)), (1, .int x1), (2, .int x2_3), (3, .int x3_5)]) dX9_reduce_23 rfl (by decide) [1, 2, 3, 0] rfl  ?_
      refine J_iload_n dX9_reduce_24 rfl 3 rfl  ?_
      refine J_if_eq (tgt := 104) dX9_reduce_25 (by decide) (fun c_6 => ?_) (fun c_6 => ?_)
      · have h := h.1 c_6
        refine J_sub (lv' := [(0, .ref (g.1 + 353)), (1, .int x1)]) [0, 1] rfl ?_
        exact l_X9_reduce_104  _ _ (fun y1 S  h => ih y1 S  h)  _ _  h
      · have h := h.2 c_6
        refine J_aload_n dX9_reduce_28 rfl 0 rfl  ?_
        refine J_getr (r := 368) (ci := 7) dX9_reduce_29 24 rfl giX9 (by decide) (by decide) rfl rfl tb_4_135 (by decide) (by decide)  ?_
        refine J_iload_n dX9_reduce_32 rfl 2 rfl  ?_
        obtain ⟨hi_7, h⟩ := h
        refine J_iald dX9_reduce_33 (by decide) hi_7  ?_
        refine J_if_ge (tgt := 40) dX9_reduce_34 (by decide) (fun c_8 => ?_) (fun c_8 => ?_)
        · have h := h.1 c_8
          refine J_sipush (v := 256) dX9_reduce_40 (by decide)  ?_
          refine J_aload_n dX9_reduce_43 rfl 0 rfl  ?_
          refine J_getr (r := 368) (ci := 7) dX9_reduce_44 24 rfl giX9 (by decide) (by decide) rfl rfl tb_4_135 (by decide) (by decide)  ?_
          refine J_iload_n dX9_reduce_47 rfl 2 rfl  ?_
          obtain ⟨hi_9, h⟩ := h
          refine J_iald dX9_reduce_48 (by decide) hi_9  ?_
          refine J_imul dX9_reduce_49  ?_
          refine J_topi (fun x4_10 ex4_10 => ?_)
          have h := h x4_10 ex4_10
          refine J_istore (lv' := [(0, .ref (g.1 + 353)), (1, .int x1), (3, .int x3_5), (4, .int x4_10)]) dX9_reduce_50 (by decide) [1, 2, 4, 0] rfl  ?_
          refine J_iconst (v := 0) dX9_reduce_52 (by decide)  ?_
          refine J_istore (lv' := [(0, .ref (g.1 + 353)), (1, .int x1), (3, .int x3_5), (4, .int x4_10), (5, .int 0)]) dX9_reduce_53 (by decide) [1, 2, 3, 4, 0] rfl  ?_
          obtain ⟨n, h⟩ := h
          exact l_X9_reduce_55  _ _ (fun y1 S  h => ih y1 S  h)  n _ _ _ _ _  h
        · have h := h.2 c_8
          refine J_goto (tgt := 104) dX9_reduce_37 (by decide)  ?_
          refine J_sub (lv' := [(0, .ref (g.1 + 353)), (1, .int x1)]) [0, 1] rfl ?_
          exact l_X9_reduce_104  _ _ (fun y1 S  h => ih y1 S  h)  _ _  h
def wp_X9_reduce  (S : Sto) (Q : Sto → Prop) : Prop := (∃ n_2, q_X9_reduce_2   Q n_2 0 S)
set_option maxRecDepth 100000 in
set_option maxHeartbeats 4000000 in
theorem c_X9_reduce {g : Gv}   (S : Sto) (Q : Sto → Prop) (h : wp_X9_reduce  S Q) : CT g yX9_reduce cX9_reduce 6 none 2 [.ref (g.1 + 353)] S (Qv Q) := by
  unfold wp_X9_reduce at h
  refine CT.of (by decide) (Nat.le_of_ble_eq_true rfl) ?_
  refine J_sub (lv' := [(0, .ref (g.1 + 353))]) [0] rfl ?_
  refine J_iconst (v := 0) dX9_reduce_0 (by decide)  ?_
  refine J_istore_n (lv' := [(0, .ref (g.1 + 353)), (1, .int 0)]) dX9_reduce_1 rfl (by decide) [1, 0] rfl  ?_
  obtain ⟨n, h⟩ := h
  exact l_X9_reduce_2   _   n _ _  h
def q_X9_comes_202   (Q : Int32 → Sto → Prop) : Nat → Int32 → Int32 → Sto → Prop
  | 0, _, _, _ => False
  | n + 1, x1, x3, S => (((S.1 353 27) ≤ x3 → vp_in (S.1 353 25) (256) ∧ ∀ S_3 : Sto, S_3 = uA S 367 (S.1 353 25 : Int32).toNatClampNeg x1 → vp_in x1 (256) ∧ ∀ S_5 : Sto, S_5 = uA S_3 368 (x1 : Int32).toNatClampNeg (S_3.1 353 25) → ∀ S_6 : Sto, S_6 = uA S_5 353 25 ((S_5.1 353 25) + 1) → Q 1 S_6) ∧ (¬ (S.1 353 27) ≤ x3 → vp_in x3 (256) ∧ vp_in ((256 * (S.1 353 25)) + x3) (65536) ∧ ∀ S_9 : Sto, S_9 = uA S 366 ((256 * (S.1 353 25)) + x3 : Int32).toNatClampNeg (S.1 370 (x3 : Int32).toNatClampNeg) → ∀ x3_10 : Int32, x3_10 = x3 + 1 → q_X9_comes_202   Q n x1 x3_10 S_9))
set_option maxRecDepth 100000 in
set_option maxHeartbeats 4000000 in
theorem l_X9_comes_202 {g : Gv}   (Q : Int32 → Sto → Prop)   (n : Nat) : ∀ (x1 : Int32) (x3 : Int32) (S : Sto)  (h : q_X9_comes_202   Q n x1 x3 S), RJ g cX9_comes RX9 (some .boolean) 6 3 202 [(0, .ref (g.1 + 353)), (1, .int x1), (3, .int x3)] [] S (Qi Q) := by
  induction n with
  | zero => intro x1 x3 S  h; exact h.elim
  | succ n ih =>
    intro x1 x3 S  h
    unfold q_X9_comes_202 at h
    refine J_iload_n dX9_comes_202 rfl 2 rfl  ?_
    refine J_aload_n dX9_comes_203 rfl 0 rfl  ?_
    refine J_geti (ci := 7) dX9_comes_204 27 rfl giX9 (by decide) (by decide) rfl rfl tb_4_138 rfl  ?_
    refine J_icmp_ge (tgt := 237) dX9_comes_207 (by decide) (fun c_1 => ?_) (fun c_1 => ?_)
    · have h := h.1 c_1
      refine J_aload_n dX9_comes_237 rfl 0 rfl  ?_
      refine J_getr (r := 367) (ci := 7) dX9_comes_238 23 rfl giX9 (by decide) (by decide) rfl rfl tb_4_134 (by decide) (by decide)  ?_
      refine J_aload_n dX9_comes_241 rfl 0 rfl  ?_
      refine J_geti (ci := 7) dX9_comes_242 25 rfl giX9 (by decide) (by decide) rfl rfl tb_4_136 rfl  ?_
      refine J_iload_n dX9_comes_245 rfl 1 rfl  ?_
      obtain ⟨hi_2, h⟩ := h
      refine J_iast dX9_comes_246 (by decide) hi_2  ?_
      refine J_nmS (fun S_3 eS_3 => ?_)
      have h := h S_3 eS_3
      refine J_aload_n dX9_comes_247 rfl 0 rfl  ?_
      refine J_getr (r := 368) (ci := 7) dX9_comes_248 24 rfl giX9 (by decide) (by decide) rfl rfl tb_4_135 (by decide) (by decide)  ?_
      refine J_iload_n dX9_comes_251 rfl 1 rfl  ?_
      refine J_aload_n dX9_comes_252 rfl 0 rfl  ?_
      refine J_geti (ci := 7) dX9_comes_253 25 rfl giX9 (by decide) (by decide) rfl rfl tb_4_136 rfl  ?_
      obtain ⟨hi_4, h⟩ := h
      refine J_iast dX9_comes_256 (by decide) hi_4  ?_
      refine J_nmS (fun S_5 eS_5 => ?_)
      have h := h S_5 eS_5
      refine J_aload_n dX9_comes_257 rfl 0 rfl  ?_
      refine J_dup dX9_comes_258 rfl  ?_
      refine J_geti (ci := 7) dX9_comes_259 25 rfl giX9 (by decide) (by decide) rfl rfl tb_4_136 rfl  ?_
      refine J_iconst (v := 1) dX9_comes_262 (by decide)  ?_
      refine J_iadd dX9_comes_263  ?_
      refine J_puti (ci := 7) dX9_comes_264 25 rfl giX9 (by decide) (by decide) rfl rfl tyX9 tyX9_ok nmX9 rfl rfl rfl rfl tb_4_136 rfl  ?_
      refine J_nmS (fun S_6 eS_6 => ?_)
      have h := h S_6 eS_6
      refine J_iconst (v := 1) dX9_comes_267 (by decide)  ?_
      exact J_iret dX9_comes_268 rfl rfl ⟨_, rfl, h⟩
    · have h := h.2 c_1
      refine J_aload_n dX9_comes_210 rfl 0 rfl  ?_
      refine J_getr (r := 366) (ci := 7) dX9_comes_211 22 rfl giX9 (by decide) (by decide) rfl rfl tb_4_133 (by decide) (by decide)  ?_
      refine J_sipush (v := 256) dX9_comes_214 (by decide)  ?_
      refine J_aload_n dX9_comes_217 rfl 0 rfl  ?_
      refine J_geti (ci := 7) dX9_comes_218 25 rfl giX9 (by decide) (by decide) rfl rfl tb_4_136 rfl  ?_
      refine J_imul dX9_comes_221  ?_
      refine J_iload_n dX9_comes_222 rfl 2 rfl  ?_
      refine J_iadd dX9_comes_223  ?_
      refine J_aload_n dX9_comes_224 rfl 0 rfl  ?_
      refine J_getr (r := 370) (ci := 7) dX9_comes_225 28 rfl giX9 (by decide) (by decide) rfl rfl tb_4_139 (by decide) (by decide)  ?_
      refine J_iload_n dX9_comes_228 rfl 2 rfl  ?_
      obtain ⟨hi_7, h⟩ := h
      refine J_iald dX9_comes_229 (by decide) hi_7  ?_
      obtain ⟨hi_8, h⟩ := h
      refine J_iast dX9_comes_230 (by decide) hi_8  ?_
      refine J_nmS (fun S_9 eS_9 => ?_)
      have h := h S_9 eS_9
      obtain ⟨x3_10, ex3_10⟩ : ∃ y : Int32, y = x3 + 1 := ⟨_, rfl⟩
      have h := h x3_10 ex3_10
      refine J_iinc (v := x3_10) (lv' := [(0, .ref (g.1 + 353)), (1, .int x1), (3, .int x3_10)]) dX9_comes_231 (q := 2) rfl (by rw [ex3_10]; rfl) (by decide) [1, 2, 0] rfl  ?_
      refine J_goto (tgt := 202) dX9_comes_234 (by decide)  ?_
      exact ih _ _ _  h
def q_X9_comes_194  (R102 : Int32 → Int32 → Sto → Prop) (Q : Int32 → Sto → Prop) (x1 : Int32) (x3 : Int32) (S : Sto) : Prop := ∀ x3_1 : Int32, x3_1 = x3 + 1 → R102 x1 x3_1 S
set_option maxRecDepth 100000 in
set_option maxHeartbeats 4000000 in
theorem l_X9_comes_194 {g : Gv}  (R102 : Int32 → Int32 → Sto → Prop) (Q : Int32 → Sto → Prop) (hR102 : ∀ (y1 : Int32) (y3 : Int32) (S : Sto), R102 y1 y3 S → RJ g cX9_comes RX9 (some .boolean) 6 3 102 [(0, .ref (g.1 + 353)), (1, .int y1), (3, .int y3)] [] S (Qi Q))  (x1 : Int32) (x3 : Int32) (S : Sto)  (h : q_X9_comes_194  R102 Q x1 x3 S) : RJ g cX9_comes RX9 (some .boolean) 6 3 194 [(0, .ref (g.1 + 353)), (1, .int x1), (3, .int x3)] [] S (Qi Q) := by
  unfold q_X9_comes_194 at h
  obtain ⟨x3_1, ex3_1⟩ : ∃ y : Int32, y = x3 + 1 := ⟨_, rfl⟩
  have h := h x3_1 ex3_1
  refine J_iinc (v := x3_1) (lv' := [(0, .ref (g.1 + 353)), (1, .int x1), (3, .int x3_1)]) dX9_comes_194 (q := 2) rfl (by rw [ex3_1]; rfl) (by decide) [1, 2, 0] rfl  ?_
  refine J_goto (tgt := 102) dX9_comes_197 (by decide)  ?_
  exact hR102 _ _ _  h
def q_X9_comes_135  (R102 : Int32 → Int32 → Sto → Prop) (Q : Int32 → Sto → Prop) : Nat → Int32 → Int32 → Int32 → Int32 → Sto → Prop
  | 0, _, _, _, _, _ => False
  | n + 1, x1, x3, x4, x5, S => (((S.1 353 27) ≤ x5 → q_X9_comes_194  R102 Q x1 x3 S) ∧ (¬ (S.1 353 27) ≤ x5 → vp_in ((256 * x3) + x5) (65536) ∧ vp_in x5 (256) ∧ wp_X9_modulo (((S.1 366 ((256 * x3) + x5 : Int32).toNatClampNeg : Int32).toInt64) - (((x4 : Int32).toInt64) * ((S.1 370 (x5 : Int32).toNatClampNeg : Int32).toInt64))) S (fun r_5 S_4 => vp_in ((256 * x3) + x5) (65536) ∧ ∀ S_7 : Sto, S_7 = uA S_4 366 ((256 * x3) + x5 : Int32).toNatClampNeg r_5 → ∀ x5_8 : Int32, x5_8 = x5 + 1 → q_X9_comes_135  R102 Q n x1 x3 x4 x5_8 S_7)))
set_option maxRecDepth 100000 in
set_option maxHeartbeats 4000000 in
theorem l_X9_comes_135 {g : Gv}  (R102 : Int32 → Int32 → Sto → Prop) (Q : Int32 → Sto → Prop) (hR102 : ∀ (y1 : Int32) (y3 : Int32) (S : Sto), R102 y1 y3 S → RJ g cX9_comes RX9 (some .boolean) 6 3 102 [(0, .ref (g.1 + 353)), (1, .int y1), (3, .int y3)] [] S (Qi Q))  (n : Nat) : ∀ (x1 : Int32) (x3 : Int32) (x4 : Int32) (x5 : Int32) (S : Sto)  (h : q_X9_comes_135  R102 Q n x1 x3 x4 x5 S), RJ g cX9_comes RX9 (some .boolean) 6 3 135 [(0, .ref (g.1 + 353)), (1, .int x1), (3, .int x3), (4, .int x4), (5, .int x5)] [] S (Qi Q) := by
  induction n with
  | zero => intro x1 x3 x4 x5 S  h; exact h.elim
  | succ n ih =>
    intro x1 x3 x4 x5 S  h
    unfold q_X9_comes_135 at h
    refine J_iload dX9_comes_135 4 rfl  ?_
    refine J_aload_n dX9_comes_137 rfl 0 rfl  ?_
    refine J_geti (ci := 7) dX9_comes_138 27 rfl giX9 (by decide) (by decide) rfl rfl tb_4_138 rfl  ?_
    refine J_icmp_ge (tgt := 194) dX9_comes_141 (by decide) (fun c_1 => ?_) (fun c_1 => ?_)
    · have h := h.1 c_1
      refine J_sub (lv' := [(0, .ref (g.1 + 353)), (1, .int x1), (3, .int x3)]) [0, 1, 2] rfl ?_
      exact l_X9_comes_194  _ _ hR102  _ _ _  h
    · have h := h.2 c_1
      refine J_aload_n dX9_comes_144 rfl 0 rfl  ?_
      refine J_getr (r := 366) (ci := 7) dX9_comes_145 22 rfl giX9 (by decide) (by decide) rfl rfl tb_4_133 (by decide) (by decide)  ?_
      refine J_sipush (v := 256) dX9_comes_148 (by decide)  ?_
      refine J_iload_n dX9_comes_151 rfl 2 rfl  ?_
      refine J_imul dX9_comes_152  ?_
      refine J_iload dX9_comes_153 4 rfl  ?_
      refine J_iadd dX9_comes_155  ?_
      refine J_aload_n dX9_comes_156 rfl 0 rfl  ?_
      refine J_aload_n dX9_comes_157 rfl 0 rfl  ?_
      refine J_getr (r := 366) (ci := 7) dX9_comes_158 22 rfl giX9 (by decide) (by decide) rfl rfl tb_4_133 (by decide) (by decide)  ?_
      refine J_sipush (v := 256) dX9_comes_161 (by decide)  ?_
      refine J_iload_n dX9_comes_164 rfl 2 rfl  ?_
      refine J_imul dX9_comes_165  ?_
      refine J_iload dX9_comes_166 4 rfl  ?_
      refine J_iadd dX9_comes_168  ?_
      obtain ⟨hi_2, h⟩ := h
      refine J_iald dX9_comes_169 (by decide) hi_2  ?_
      refine J_i2l dX9_comes_170  ?_
      refine J_iload dX9_comes_171 3 rfl  ?_
      refine J_i2l dX9_comes_173  ?_
      refine J_aload_n dX9_comes_174 rfl 0 rfl  ?_
      refine J_getr (r := 370) (ci := 7) dX9_comes_175 28 rfl giX9 (by decide) (by decide) rfl rfl tb_4_139 (by decide) (by decide)  ?_
      refine J_iload dX9_comes_178 4 rfl  ?_
      obtain ⟨hi_3, h⟩ := h
      refine J_iald dX9_comes_180 (by decide) hi_3  ?_
      refine J_i2l dX9_comes_181  ?_
      refine J_lmul dX9_comes_182  ?_
      refine J_lsub dX9_comes_183  ?_
      refine J_callV (h := 353) (ci := 7) (As := [.long (((S.1 366 ((256 * x3) + x5 : Int32).toNatClampNeg : Int32).toInt64) - (((x4 : Int32).toInt64) * ((S.1 370 (x5 : Int32).toNatClampNeg : Int32).toInt64)))]) (rest := [.int ((256 * x3) + x5), .ref (g.1 + 366)]) (n := 1) dX9_comes_184 (c_X9_modulo (((S.1 366 ((256 * x3) + x5 : Int32).toNatClampNeg : Int32).toInt64) - (((x4 : Int32).toInt64) * ((S.1 370 (x5 : Int32).toNatClampNeg : Int32).toInt64)))  _ _ h) (by decide) rfl tb_5_37 tb_5_34 tb_1_8 tb_5_36 sl_30 (by decide) rfl (by decide) (by decide) (Nat.le_of_ble_eq_true rfl) rfl (fun v_r_5 S_4 hq => ?_)
      obtain ⟨r_5, rfl, h⟩ := hq
      dsimp only [Option.toList, List.cons_append, List.nil_append]
      obtain ⟨hi_6, h⟩ := h
      refine J_iast dX9_comes_187 (by decide) hi_6  ?_
      refine J_nmS (fun S_7 eS_7 => ?_)
      have h := h S_7 eS_7
      obtain ⟨x5_8, ex5_8⟩ : ∃ y : Int32, y = x5 + 1 := ⟨_, rfl⟩
      have h := h x5_8 ex5_8
      refine J_iinc (v := x5_8) (lv' := [(0, .ref (g.1 + 353)), (1, .int x1), (3, .int x3), (4, .int x4), (5, .int x5_8)]) dX9_comes_188 (q := 4) rfl (by rw [ex5_8]; rfl) (by decide) [1, 2, 3, 4, 0] rfl  ?_
      refine J_goto (tgt := 135) dX9_comes_191 (by decide)  ?_
      exact ih _ _ _ _ _  h
def q_X9_comes_102   (Q : Int32 → Sto → Prop) : Nat → Int32 → Int32 → Sto → Prop
  | 0, _, _, _ => False
  | n + 1, x1, x3, S => (((S.1 353 25) ≤ x3 → (∃ n_202, q_X9_comes_202   Q n_202 x1 0 S)) ∧ (¬ (S.1 353 25) ≤ x3 → vp_in ((256 * x3) + x1) (65536) ∧ ∀ x4_3 : Int32, x4_3 = S.1 366 ((256 * x3) + x1 : Int32).toNatClampNeg → ((¬ x4_3 = 0 → (∃ n_135, q_X9_comes_135  (fun y1 y3 S => q_X9_comes_102   Q n y1 y3 S) Q n_135 x1 x3 x4_3 0 S)) ∧ (x4_3 = 0 → q_X9_comes_194  (fun y1 y3 S => q_X9_comes_102   Q n y1 y3 S) Q x1 x3 S))))
set_option maxRecDepth 100000 in
set_option maxHeartbeats 4000000 in
theorem l_X9_comes_102 {g : Gv}   (Q : Int32 → Sto → Prop)   (n : Nat) : ∀ (x1 : Int32) (x3 : Int32) (S : Sto)  (h : q_X9_comes_102   Q n x1 x3 S), RJ g cX9_comes RX9 (some .boolean) 6 3 102 [(0, .ref (g.1 + 353)), (1, .int x1), (3, .int x3)] [] S (Qi Q) := by
  induction n with
  | zero => intro x1 x3 S  h; exact h.elim
  | succ n ih =>
    intro x1 x3 S  h
    unfold q_X9_comes_102 at h
    refine J_iload_n dX9_comes_102 rfl 2 rfl  ?_
    refine J_aload_n dX9_comes_103 rfl 0 rfl  ?_
    refine J_geti (ci := 7) dX9_comes_104 25 rfl giX9 (by decide) (by decide) rfl rfl tb_4_136 rfl  ?_
    refine J_icmp_ge (tgt := 200) dX9_comes_107 (by decide) (fun c_1 => ?_) (fun c_1 => ?_)
    · have h := h.1 c_1
      refine J_iconst (v := 0) dX9_comes_200 (by decide)  ?_
      refine J_istore_n (lv' := [(0, .ref (g.1 + 353)), (1, .int x1), (3, .int 0)]) dX9_comes_201 rfl (by decide) [1, 2, 0] rfl  ?_
      obtain ⟨n, h⟩ := h
      exact l_X9_comes_202   _   n _ _ _  h
    · have h := h.2 c_1
      refine J_aload_n dX9_comes_110 rfl 0 rfl  ?_
      refine J_getr (r := 366) (ci := 7) dX9_comes_111 22 rfl giX9 (by decide) (by decide) rfl rfl tb_4_133 (by decide) (by decide)  ?_
      refine J_sipush (v := 256) dX9_comes_114 (by decide)  ?_
      refine J_iload_n dX9_comes_117 rfl 2 rfl  ?_
      refine J_imul dX9_comes_118  ?_
      refine J_iload_n dX9_comes_119 rfl 1 rfl  ?_
      refine J_iadd dX9_comes_120  ?_
      obtain ⟨hi_2, h⟩ := h
      refine J_iald dX9_comes_121 (by decide) hi_2  ?_
      refine J_topi (fun x4_3 ex4_3 => ?_)
      have h := h x4_3 ex4_3
      refine J_istore (lv' := [(0, .ref (g.1 + 353)), (1, .int x1), (3, .int x3), (4, .int x4_3)]) dX9_comes_122 (by decide) [1, 2, 3, 0] rfl  ?_
      refine J_iload dX9_comes_124 3 rfl  ?_
      refine J_if_ne (tgt := 132) dX9_comes_126 (by decide) (fun c_4 => ?_) (fun c_4 => ?_)
      · have h := h.1 c_4
        refine J_iconst (v := 0) dX9_comes_132 (by decide)  ?_
        refine J_istore (lv' := [(0, .ref (g.1 + 353)), (1, .int x1), (3, .int x3), (4, .int x4_3), (5, .int 0)]) dX9_comes_133 (by decide) [1, 2, 3, 4, 0] rfl  ?_
        obtain ⟨n, h⟩ := h
        exact l_X9_comes_135  _ _ (fun y1 y3 S  h => ih y1 y3 S  h)  n _ _ _ _ _  h
      · have h := h.2 c_4
        refine J_goto (tgt := 194) dX9_comes_129 (by decide)  ?_
        refine J_sub (lv' := [(0, .ref (g.1 + 353)), (1, .int x1), (3, .int x3)]) [0, 1, 2] rfl ?_
        exact l_X9_comes_194  _ _ (fun y1 y3 S  h => ih y1 y3 S  h)  _ _ _  h
def q_X9_comes_66   (Q : Int32 → Sto → Prop) : Nat → Int32 → Int32 → Int32 → Sto → Prop
  | 0, _, _, _, _ => False
  | n + 1, x1, x2, x3, S => (((S.1 353 27) ≤ x3 → (∃ n_102, q_X9_comes_102   Q n_102 x1 0 S)) ∧ (¬ (S.1 353 27) ≤ x3 → vp_in x3 (256) ∧ wp_X9_modulo (((x2 : Int32).toInt64) * ((S.1 370 (x3 : Int32).toNatClampNeg : Int32).toInt64)) S (fun r_4 S_3 => vp_in x3 (256) ∧ ∀ S_6 : Sto, S_6 = uA S_3 370 (x3 : Int32).toNatClampNeg r_4 → ∀ x3_7 : Int32, x3_7 = x3 + 1 → q_X9_comes_66   Q n x1 x2 x3_7 S_6)))
set_option maxRecDepth 100000 in
set_option maxHeartbeats 4000000 in
theorem l_X9_comes_66 {g : Gv}   (Q : Int32 → Sto → Prop)   (n : Nat) : ∀ (x1 : Int32) (x2 : Int32) (x3 : Int32) (S : Sto)  (h : q_X9_comes_66   Q n x1 x2 x3 S), RJ g cX9_comes RX9 (some .boolean) 6 3 66 [(0, .ref (g.1 + 353)), (1, .int x1), (2, .int x2), (3, .int x3)] [] S (Qi Q) := by
  induction n with
  | zero => intro x1 x2 x3 S  h; exact h.elim
  | succ n ih =>
    intro x1 x2 x3 S  h
    unfold q_X9_comes_66 at h
    refine J_iload_n dX9_comes_66 rfl 3 rfl  ?_
    refine J_aload_n dX9_comes_67 rfl 0 rfl  ?_
    refine J_geti (ci := 7) dX9_comes_68 27 rfl giX9 (by decide) (by decide) rfl rfl tb_4_138 rfl  ?_
    refine J_icmp_ge (tgt := 100) dX9_comes_71 (by decide) (fun c_1 => ?_) (fun c_1 => ?_)
    · have h := h.1 c_1
      refine J_iconst (v := 0) dX9_comes_100 (by decide)  ?_
      refine J_istore_n (lv' := [(0, .ref (g.1 + 353)), (1, .int x1), (3, .int 0)]) dX9_comes_101 rfl (by decide) [1, 2, 0] rfl  ?_
      obtain ⟨n, h⟩ := h
      exact l_X9_comes_102   _   n _ _ _  h
    · have h := h.2 c_1
      refine J_aload_n dX9_comes_74 rfl 0 rfl  ?_
      refine J_getr (r := 370) (ci := 7) dX9_comes_75 28 rfl giX9 (by decide) (by decide) rfl rfl tb_4_139 (by decide) (by decide)  ?_
      refine J_iload_n dX9_comes_78 rfl 3 rfl  ?_
      refine J_aload_n dX9_comes_79 rfl 0 rfl  ?_
      refine J_iload_n dX9_comes_80 rfl 2 rfl  ?_
      refine J_i2l dX9_comes_81  ?_
      refine J_aload_n dX9_comes_82 rfl 0 rfl  ?_
      refine J_getr (r := 370) (ci := 7) dX9_comes_83 28 rfl giX9 (by decide) (by decide) rfl rfl tb_4_139 (by decide) (by decide)  ?_
      refine J_iload_n dX9_comes_86 rfl 3 rfl  ?_
      obtain ⟨hi_2, h⟩ := h
      refine J_iald dX9_comes_87 (by decide) hi_2  ?_
      refine J_i2l dX9_comes_88  ?_
      refine J_lmul dX9_comes_89  ?_
      refine J_callV (h := 353) (ci := 7) (As := [.long (((x2 : Int32).toInt64) * ((S.1 370 (x3 : Int32).toNatClampNeg : Int32).toInt64))]) (rest := [.int x3, .ref (g.1 + 370)]) (n := 1) dX9_comes_90 (c_X9_modulo (((x2 : Int32).toInt64) * ((S.1 370 (x3 : Int32).toNatClampNeg : Int32).toInt64))  _ _ h) (by decide) rfl tb_5_37 tb_5_34 tb_1_8 tb_5_36 sl_30 (by decide) rfl (by decide) (by decide) (Nat.le_of_ble_eq_true rfl) rfl (fun v_r_4 S_3 hq => ?_)
      obtain ⟨r_4, rfl, h⟩ := hq
      dsimp only [Option.toList, List.cons_append, List.nil_append]
      obtain ⟨hi_5, h⟩ := h
      refine J_iast dX9_comes_93 (by decide) hi_5  ?_
      refine J_nmS (fun S_6 eS_6 => ?_)
      have h := h S_6 eS_6
      obtain ⟨x3_7, ex3_7⟩ : ∃ y : Int32, y = x3 + 1 := ⟨_, rfl⟩
      have h := h x3_7 ex3_7
      refine J_iinc (v := x3_7) (lv' := [(0, .ref (g.1 + 353)), (1, .int x1), (2, .int x2), (3, .int x3_7)]) dX9_comes_94 (q := 3) rfl (by rw [ex3_7]; rfl) (by decide) [1, 2, 3, 0] rfl  ?_
      refine J_goto (tgt := 66) dX9_comes_97 (by decide)  ?_
      exact ih _ _ _ _  h
def q_X9_comes_47   (Q : Int32 → Sto → Prop) (x1 : Int32) (S : Sto) : Prop := ((0 ≤ x1 → vp_in x1 (256) ∧ wp_X9_inverse (S.1 370 (x1 : Int32).toNatClampNeg) S (fun r_4 S_3 => (∃ n_66, q_X9_comes_66   Q n_66 x1 r_4 0 S_3))) ∧ (¬ 0 ≤ x1 → Q 0 S))
set_option maxRecDepth 100000 in
set_option maxHeartbeats 4000000 in
theorem l_X9_comes_47 {g : Gv}   (Q : Int32 → Sto → Prop)   (x1 : Int32) (S : Sto)  (h : q_X9_comes_47   Q x1 S) : RJ g cX9_comes RX9 (some .boolean) 6 3 47 [(0, .ref (g.1 + 353)), (1, .int x1)] [] S (Qi Q) := by
  unfold q_X9_comes_47 at h
  refine J_iload_n dX9_comes_47 rfl 1 rfl  ?_
  refine J_if_ge (tgt := 53) dX9_comes_48 (by decide) (fun c_1 => ?_) (fun c_1 => ?_)
  · have h := h.1 c_1
    refine J_aload_n dX9_comes_53 rfl 0 rfl  ?_
    refine J_aload_n dX9_comes_54 rfl 0 rfl  ?_
    refine J_getr (r := 370) (ci := 7) dX9_comes_55 28 rfl giX9 (by decide) (by decide) rfl rfl tb_4_139 (by decide) (by decide)  ?_
    refine J_iload_n dX9_comes_58 rfl 1 rfl  ?_
    obtain ⟨hi_2, h⟩ := h
    refine J_iald dX9_comes_59 (by decide) hi_2  ?_
    refine J_callV (h := 353) (ci := 7) (As := [.int (S.1 370 (x1 : Int32).toNatClampNeg)]) (rest := []) (n := 1) dX9_comes_60 (c_X9_inverse (S.1 370 (x1 : Int32).toNatClampNeg)  _ _ h) (by decide) rfl tb_5_96 tb_5_93 tb_1_8 tb_5_95 sl_40 (by decide) rfl (by decide) (by decide) (Nat.le_of_ble_eq_true rfl) rfl (fun v_r_4 S_3 hq => ?_)
    obtain ⟨r_4, rfl, h⟩ := hq
    dsimp only [Option.toList, List.cons_append, List.nil_append]
    refine J_istore_n (lv' := [(0, .ref (g.1 + 353)), (1, .int x1), (2, .int r_4)]) dX9_comes_63 rfl (by decide) [1, 2, 0] rfl  ?_
    refine J_iconst (v := 0) dX9_comes_64 (by decide)  ?_
    refine J_istore_n (lv' := [(0, .ref (g.1 + 353)), (1, .int x1), (2, .int r_4), (3, .int 0)]) dX9_comes_65 rfl (by decide) [1, 2, 3, 0] rfl  ?_
    obtain ⟨n, h⟩ := h
    exact l_X9_comes_66   _   n _ _ _ _  h
  · have h := h.2 c_1
    refine J_iconst (v := 0) dX9_comes_51 (by decide)  ?_
    exact J_iret dX9_comes_52 rfl rfl ⟨_, rfl, h⟩
def q_X9_comes_41  (R8 : Int32 → Int32 → Sto → Prop) (Q : Int32 → Sto → Prop) (x1 : Int32) (x2 : Int32) (S : Sto) : Prop := ∀ x2_1 : Int32, x2_1 = x2 + 1 → R8 x1 x2_1 S
set_option maxRecDepth 100000 in
set_option maxHeartbeats 4000000 in
theorem l_X9_comes_41 {g : Gv}  (R8 : Int32 → Int32 → Sto → Prop) (Q : Int32 → Sto → Prop) (hR8 : ∀ (y1 : Int32) (y2 : Int32) (S : Sto), R8 y1 y2 S → RJ g cX9_comes RX9 (some .boolean) 6 3 8 [(0, .ref (g.1 + 353)), (1, .int y1), (2, .int y2)] [] S (Qi Q))  (x1 : Int32) (x2 : Int32) (S : Sto)  (h : q_X9_comes_41  R8 Q x1 x2 S) : RJ g cX9_comes RX9 (some .boolean) 6 3 41 [(0, .ref (g.1 + 353)), (1, .int x1), (2, .int x2)] [] S (Qi Q) := by
  unfold q_X9_comes_41 at h
  obtain ⟨x2_1, ex2_1⟩ : ∃ y : Int32, y = x2 + 1 := ⟨_, rfl⟩
  have h := h x2_1 ex2_1
  refine J_iinc (v := x2_1) (lv' := [(0, .ref (g.1 + 353)), (1, .int x1), (2, .int x2_1)]) dX9_comes_41 (q := 2) rfl (by rw [ex2_1]; rfl) (by decide) [1, 2, 0] rfl  ?_
  refine J_goto (tgt := 8) dX9_comes_44 (by decide)  ?_
  exact hR8 _ _ _  h
def q_X9_comes_8   (Q : Int32 → Sto → Prop) : Nat → Int32 → Int32 → Sto → Prop
  | 0, _, _, _ => False
  | n + 1, x1, x2, S => (((S.1 353 27) ≤ x2 → q_X9_comes_47   Q x1 S) ∧ (¬ (S.1 353 27) ≤ x2 → ((0 ≤ x1 → q_X9_comes_47   Q x1 S) ∧ (¬ 0 ≤ x1 → vp_in x2 (256) ∧ vp_in (S.1 369 (x2 : Int32).toNatClampNeg) (256) ∧ (((S.1 370 (S.1 369 (x2 : Int32).toNatClampNeg : Int32).toNatClampNeg) = 0 → q_X9_comes_41  (fun y1 y2 S => q_X9_comes_8   Q n y1 y2 S) Q x1 x2 S) ∧ (¬ (S.1 370 (S.1 369 (x2 : Int32).toNatClampNeg : Int32).toNatClampNeg) = 0 → vp_in x2 (256) ∧ ∀ x1_7 : Int32, x1_7 = S.1 369 (x2 : Int32).toNatClampNeg → q_X9_comes_41  (fun y1 y2 S => q_X9_comes_8   Q n y1 y2 S) Q x1_7 x2 S))))))
set_option maxRecDepth 100000 in
set_option maxHeartbeats 4000000 in
theorem l_X9_comes_8 {g : Gv}   (Q : Int32 → Sto → Prop)   (n : Nat) : ∀ (x1 : Int32) (x2 : Int32) (S : Sto)  (h : q_X9_comes_8   Q n x1 x2 S), RJ g cX9_comes RX9 (some .boolean) 6 3 8 [(0, .ref (g.1 + 353)), (1, .int x1), (2, .int x2)] [] S (Qi Q) := by
  induction n with
  | zero => intro x1 x2 S  h; exact h.elim
  | succ n ih =>
    intro x1 x2 S  h
    unfold q_X9_comes_8 at h
    refine J_iload_n dX9_comes_8 rfl 2 rfl  ?_
    refine J_aload_n dX9_comes_9 rfl 0 rfl  ?_
    refine J_geti (ci := 7) dX9_comes_10 27 rfl giX9 (by decide) (by decide) rfl rfl tb_4_138 rfl  ?_
    refine J_icmp_ge (tgt := 47) dX9_comes_13 (by decide) (fun c_1 => ?_) (fun c_1 => ?_)
    · have h := h.1 c_1
      refine J_sub (lv' := [(0, .ref (g.1 + 353)), (1, .int x1)]) [0, 1] rfl ?_
      exact l_X9_comes_47   _   _ _  h
    · have h := h.2 c_1
      refine J_iload_n dX9_comes_16 rfl 1 rfl  ?_
      refine J_if_ge (tgt := 47) dX9_comes_17 (by decide) (fun c_2 => ?_) (fun c_2 => ?_)
      · have h := h.1 c_2
        refine J_sub (lv' := [(0, .ref (g.1 + 353)), (1, .int x1)]) [0, 1] rfl ?_
        exact l_X9_comes_47   _   _ _  h
      · have h := h.2 c_2
        refine J_aload_n dX9_comes_20 rfl 0 rfl  ?_
        refine J_getr (r := 370) (ci := 7) dX9_comes_21 28 rfl giX9 (by decide) (by decide) rfl rfl tb_4_139 (by decide) (by decide)  ?_
        refine J_aload_n dX9_comes_24 rfl 0 rfl  ?_
        refine J_getr (r := 369) (ci := 7) dX9_comes_25 26 rfl giX9 (by decide) (by decide) rfl rfl tb_4_137 (by decide) (by decide)  ?_
        refine J_iload_n dX9_comes_28 rfl 2 rfl  ?_
        obtain ⟨hi_3, h⟩ := h
        refine J_iald dX9_comes_29 (by decide) hi_3  ?_
        obtain ⟨hi_4, h⟩ := h
        refine J_iald dX9_comes_30 (by decide) hi_4  ?_
        refine J_if_eq (tgt := 41) dX9_comes_31 (by decide) (fun c_5 => ?_) (fun c_5 => ?_)
        · have h := h.1 c_5
          exact l_X9_comes_41  _ _ (fun y1 y2 S  h => ih y1 y2 S  h)  _ _ _  h
        · have h := h.2 c_5
          refine J_aload_n dX9_comes_34 rfl 0 rfl  ?_
          refine J_getr (r := 369) (ci := 7) dX9_comes_35 26 rfl giX9 (by decide) (by decide) rfl rfl tb_4_137 (by decide) (by decide)  ?_
          refine J_iload_n dX9_comes_38 rfl 2 rfl  ?_
          obtain ⟨hi_6, h⟩ := h
          refine J_iald dX9_comes_39 (by decide) hi_6  ?_
          refine J_topi (fun x1_7 ex1_7 => ?_)
          have h := h x1_7 ex1_7
          refine J_istore_n (lv' := [(0, .ref (g.1 + 353)), (1, .int x1_7), (2, .int x2)]) dX9_comes_40 rfl (by decide) [1, 0, 2] rfl  ?_
          exact l_X9_comes_41  _ _ (fun y1 y2 S  h => ih y1 y2 S  h)  _ _ _  h
def wp_X9_comes  (S : Sto) (Q : Int32 → Sto → Prop) : Prop := wp_X9_reduce  S (fun S_1 => (∃ n_8, q_X9_comes_8   Q n_8 ((-1)) 0 S_1))
set_option maxRecDepth 100000 in
set_option maxHeartbeats 4000000 in
theorem c_X9_comes {g : Gv}   (S : Sto) (Q : Int32 → Sto → Prop) (h : wp_X9_comes  S Q) : CT g yX9_comes cX9_comes 6 (some .boolean) 3 [.ref (g.1 + 353)] S (Qi Q) := by
  unfold wp_X9_comes at h
  refine CT.of (by decide) (Nat.le_of_ble_eq_true rfl) ?_
  refine J_sub (lv' := [(0, .ref (g.1 + 353))]) [0] rfl ?_
  refine J_aload_n dX9_comes_0 rfl 0 rfl  ?_
  refine J_callV (h := 353) (ci := 7) (As := []) (rest := []) (n := 0) dX9_comes_1 (c_X9_reduce   _ _ h) (by decide) rfl tb_5_92 tb_5_89 tb_1_8 tb_5_91 sl_39 (by decide) rfl (by decide) (by decide) (Nat.le_of_ble_eq_true rfl) rfl (fun v_r_2 S_1 hq => ?_)
  obtain ⟨rfl, h⟩ := hq
  dsimp only [Option.toList, List.cons_append, List.nil_append]
  refine J_iconst (v := (-1)) dX9_comes_4 (by decide)  ?_
  refine J_istore_n (lv' := [(0, .ref (g.1 + 353)), (1, .int ((-1)))]) dX9_comes_5 rfl (by decide) [1, 0] rfl  ?_
  refine J_iconst (v := 0) dX9_comes_6 (by decide)  ?_
  refine J_istore_n (lv' := [(0, .ref (g.1 + 353)), (1, .int ((-1))), (2, .int 0)]) dX9_comes_7 rfl (by decide) [1, 2, 0] rfl  ?_
  obtain ⟨n, h⟩ := h
  exact l_X9_comes_8   _   n _ _ _  h
def q_X9_takesMade_2   (Q : Sto → Prop) : Nat → Int32 → Sto → Prop
  | 0, _, _ => False
  | n + 1, x1, S => (((S.1 353 3) ≤ x1 → wp_X9_comes  S (fun r_3 S_2 => Q S_2)) ∧ (¬ (S.1 353 3) ≤ x1 → vp_in x1 (16) ∧ vp_in x1 (256) ∧ ∀ S_6 : Sto, S_6 = uA S 370 (x1 : Int32).toNatClampNeg (S.1 373 (x1 : Int32).toNatClampNeg) → ∀ x1_7 : Int32, x1_7 = x1 + 1 → q_X9_takesMade_2   Q n x1_7 S_6))
set_option maxRecDepth 100000 in
set_option maxHeartbeats 4000000 in
theorem l_X9_takesMade_2 {g : Gv}   (Q : Sto → Prop)   (n : Nat) : ∀ (x1 : Int32) (S : Sto)  (h : q_X9_takesMade_2   Q n x1 S), RJ g cX9_takesMade RX9 none 2 4 2 [(0, .ref (g.1 + 353)), (1, .int x1)] [] S (Qv Q) := by
  induction n with
  | zero => intro x1 S  h; exact h.elim
  | succ n ih =>
    intro x1 S  h
    unfold q_X9_takesMade_2 at h
    refine J_iload_n dX9_takesMade_2 rfl 1 rfl  ?_
    refine J_aload_n dX9_takesMade_3 rfl 0 rfl  ?_
    refine J_geti (ci := 7) dX9_takesMade_4 3 rfl giX9 (by decide) (by decide) rfl rfl tb_4_114 rfl  ?_
    refine J_icmp_ge (tgt := 28) dX9_takesMade_7 (by decide) (fun c_1 => ?_) (fun c_1 => ?_)
    · have h := h.1 c_1
      refine J_aload_n dX9_takesMade_28 rfl 0 rfl  ?_
      refine J_callV (h := 353) (ci := 7) (As := []) (rest := []) (n := 0) dX9_takesMade_29 (c_X9_comes   _ _ h) (by decide) rfl tb_5_88 tb_5_85 tb_1_8 tb_5_87 sl_38 (by decide) rfl (by decide) (by decide) (Nat.le_of_ble_eq_true rfl) rfl (fun v_r_3 S_2 hq => ?_)
      obtain ⟨r_3, rfl, h⟩ := hq
      dsimp only [Option.toList, List.cons_append, List.nil_append]
      refine J_pop dX9_takesMade_32 rfl  ?_
      exact J_vret dX9_takesMade_33 rfl ⟨rfl, h⟩
    · have h := h.2 c_1
      refine J_aload_n dX9_takesMade_10 rfl 0 rfl  ?_
      refine J_getr (r := 370) (ci := 7) dX9_takesMade_11 28 rfl giX9 (by decide) (by decide) rfl rfl tb_4_139 (by decide) (by decide)  ?_
      refine J_iload_n dX9_takesMade_14 rfl 1 rfl  ?_
      refine J_aload_n dX9_takesMade_15 rfl 0 rfl  ?_
      refine J_getr (r := 373) (ci := 7) dX9_takesMade_16 31 rfl giX9 (by decide) (by decide) rfl rfl tb_4_142 (by decide) (by decide)  ?_
      refine J_iload_n dX9_takesMade_19 rfl 1 rfl  ?_
      obtain ⟨hi_4, h⟩ := h
      refine J_iald dX9_takesMade_20 (by decide) hi_4  ?_
      obtain ⟨hi_5, h⟩ := h
      refine J_iast dX9_takesMade_21 (by decide) hi_5  ?_
      refine J_nmS (fun S_6 eS_6 => ?_)
      have h := h S_6 eS_6
      obtain ⟨x1_7, ex1_7⟩ : ∃ y : Int32, y = x1 + 1 := ⟨_, rfl⟩
      have h := h x1_7 ex1_7
      refine J_iinc (v := x1_7) (lv' := [(0, .ref (g.1 + 353)), (1, .int x1_7)]) dX9_takesMade_22 (q := 1) rfl (by rw [ex1_7]; rfl) (by decide) [1, 0] rfl  ?_
      refine J_goto (tgt := 2) dX9_takesMade_25 (by decide)  ?_
      exact ih _ _  h
def wp_X9_takesMade  (S : Sto) (Q : Sto → Prop) : Prop := (∃ n_2, q_X9_takesMade_2   Q n_2 0 S)
set_option maxRecDepth 100000 in
set_option maxHeartbeats 4000000 in
theorem c_X9_takesMade {g : Gv}   (S : Sto) (Q : Sto → Prop) (h : wp_X9_takesMade  S Q) : CT g yX9_takesMade cX9_takesMade 2 none 4 [.ref (g.1 + 353)] S (Qv Q) := by
  unfold wp_X9_takesMade at h
  refine CT.of (by decide) (Nat.le_of_ble_eq_true rfl) ?_
  refine J_sub (lv' := [(0, .ref (g.1 + 353))]) [0] rfl ?_
  refine J_iconst (v := 0) dX9_takesMade_0 (by decide)  ?_
  refine J_istore_n (lv' := [(0, .ref (g.1 + 353)), (1, .int 0)]) dX9_takesMade_1 rfl (by decide) [1, 0] rfl  ?_
  obtain ⟨n, h⟩ := h
  exact l_X9_takesMade_2   _   n _ _  h
