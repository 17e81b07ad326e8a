def q_X9_generate_22 (p1 : Int32)  (Q : Int32 → Sto → Prop) : Nat → Int32 → Sto → Prop
  | 0, _, _ => False
  | n + 1, x2, S => ((16 ≤ x2 → ∀ S_2 : Sto, S_2 = uA S 353 6 ((S.1 353 6) + 1) → Q (S_2.1 353 6) S_2) ∧ (¬ 16 ≤ x2 → vp_in ((16 * p1) + x2) (96) ∧ vp_in ((16 * (S.1 353 6)) + x2) (64) ∧ ∀ S_5 : Sto, S_5 = uA S 355 ((16 * (S.1 353 6)) + x2 : Int32).toNatClampNeg (S.1 354 ((16 * p1) + x2 : Int32).toNatClampNeg) → ∀ x2_6 : Int32, x2_6 = x2 + 1 → q_X9_generate_22 p1  Q n x2_6 S_5))
set_option maxRecDepth 100000 in
set_option maxHeartbeats 4000000 in
theorem l_X9_generate_22 {g : Gv} (p1 : Int32)  (Q : Int32 → Sto → Prop)   (n : Nat) : ∀ (x2 : Int32) (S : Sto)  (h : q_X9_generate_22 p1  Q n x2 S), RJ g cX9_generate RX9 (some .int) 3 3 22 [(0, .ref (g.1 + 353)), (1, .int p1), (2, .int x2)] [] S (Qi Q) := by
  induction n with
  | zero => intro x2 S  h; exact h.elim
  | succ n ih =>
    intro x2 S  h
    unfold q_X9_generate_22 at h
    refine J_iload_n dX9_generate_22 rfl 2 rfl  ?_
    refine J_bipush (v := 16) dX9_generate_23 (by decide)  ?_
    refine J_icmp_ge (tgt := 59) dX9_generate_25 (by decide) (fun c_1 => ?_) (fun c_1 => ?_)
    · have h := h.1 c_1
      refine J_aload_n dX9_generate_59 rfl 0 rfl  ?_
      refine J_dup dX9_generate_60 rfl  ?_
      refine J_geti (ci := 7) dX9_generate_61 6 rfl giX9 (by decide) (by decide) rfl rfl tb_4_117 rfl  ?_
      refine J_iconst (v := 1) dX9_generate_64 (by decide)  ?_
      refine J_iadd dX9_generate_65  ?_
      refine J_puti (ci := 7) dX9_generate_66 6 rfl giX9 (by decide) (by decide) rfl rfl tyX9 tyX9_ok nmX9 rfl rfl rfl rfl tb_4_117 rfl  ?_
      refine J_nmS (fun S_2 eS_2 => ?_)
      have h := h S_2 eS_2
      refine J_aload_n dX9_generate_69 rfl 0 rfl  ?_
      refine J_geti (ci := 7) dX9_generate_70 6 rfl giX9 (by decide) (by decide) rfl rfl tb_4_117 rfl  ?_
      exact J_iret dX9_generate_73 rfl rfl ⟨_, rfl, h⟩
    · have h := h.2 c_1
      refine J_aload_n dX9_generate_28 rfl 0 rfl  ?_
      refine J_getr (r := 355) (ci := 7) dX9_generate_29 5 rfl giX9 (by decide) (by decide) rfl rfl tb_4_116 (by decide) (by decide)  ?_
      refine J_bipush (v := 16) dX9_generate_32 (by decide)  ?_
      refine J_aload_n dX9_generate_34 rfl 0 rfl  ?_
      refine J_geti (ci := 7) dX9_generate_35 6 rfl giX9 (by decide) (by decide) rfl rfl tb_4_117 rfl  ?_
      refine J_imul dX9_generate_38  ?_
      refine J_iload_n dX9_generate_39 rfl 2 rfl  ?_
      refine J_iadd dX9_generate_40  ?_
      refine J_aload_n dX9_generate_41 rfl 0 rfl  ?_
      refine J_getr (r := 354) (ci := 7) dX9_generate_42 4 rfl giX9 (by decide) (by decide) rfl rfl tb_4_115 (by decide) (by decide)  ?_
      refine J_bipush (v := 16) dX9_generate_45 (by decide)  ?_
      refine J_iload_n dX9_generate_47 rfl 1 rfl  ?_
      refine J_imul dX9_generate_48  ?_
      refine J_iload_n dX9_generate_49 rfl 2 rfl  ?_
      refine J_iadd dX9_generate_50  ?_
      obtain ⟨hi_3, h⟩ := h
      refine J_iald dX9_generate_51 (by decide) hi_3  ?_
      obtain ⟨hi_4, h⟩ := h
      refine J_iast dX9_generate_52 (by decide) hi_4  ?_
      refine J_nmS (fun S_5 eS_5 => ?_)
      have h := h S_5 eS_5
      obtain ⟨x2_6, ex2_6⟩ : ∃ y : Int32, y = x2 + 1 := ⟨_, rfl⟩
      have h := h x2_6 ex2_6
      refine J_iinc (v := x2_6) (lv' := [(0, .ref (g.1 + 353)), (1, .int p1), (2, .int x2_6)]) dX9_generate_53 (q := 2) rfl (by rw [ex2_6]; rfl) (by decide) [1, 2, 0] rfl  ?_
      refine J_goto (tgt := 22) dX9_generate_56 (by decide)  ?_
      exact ih _ _  h
def wp_X9_generate (p1 : Int32) (S : Sto) (Q : Int32 → Sto → Prop) : Prop := wp_X9_isElement p1 S (fun r_2 S_1 => ((¬ r_2 = 0 → ((¬ (S_1.1 353 6) = 4 → (∃ n_22, q_X9_generate_22 p1  Q n_22 0 S_1)) ∧ ((S_1.1 353 6) = 4 → Q ((-4)) S_1))) ∧ (r_2 = 0 → Q ((-1)) S_1)))
set_option maxRecDepth 100000 in
set_option maxHeartbeats 4000000 in
theorem c_X9_generate {g : Gv} (p1 : Int32)  (S : Sto) (Q : Int32 → Sto → Prop) (h : wp_X9_generate p1 S Q) : CT g yX9_generate cX9_generate 3 (some .int) 3 [.ref (g.1 + 353), .int p1] S (Qi Q) := by
  unfold wp_X9_generate at h
  refine CT.of (by decide) (Nat.le_of_ble_eq_true rfl) ?_
  refine J_sub (lv' := [(0, .ref (g.1 + 353)), (1, .int p1)]) [0, 1] rfl ?_
  refine J_iload_n dX9_generate_0 rfl 1 rfl  ?_
  refine J_callS (As := [.int p1]) (rest := []) (n := 1) dX9_generate_1 (c_X9_isElement p1  _ _ h) tb_5_28 tb_5_26 tb_1_8 tb_5_27 (by decide) rfl (by decide) (by decide) (Nat.le_of_ble_eq_true rfl) rfl (fun v_r_2 S_1 hq => ?_)
  obtain ⟨r_2, rfl, h⟩ := hq
  dsimp only [Option.toList, List.cons_append, List.nil_append]
  refine J_if_ne (tgt := 9) dX9_generate_4 (by decide) (fun c_3 => ?_) (fun c_3 => ?_)
  · have h := h.1 c_3
    refine J_aload_n dX9_generate_9 rfl 0 rfl  ?_
    refine J_geti (ci := 7) dX9_generate_10 6 rfl giX9 (by decide) (by decide) rfl rfl tb_4_117 rfl  ?_
    refine J_iconst (v := 4) dX9_generate_13 (by decide)  ?_
    refine J_icmp_ne (tgt := 20) dX9_generate_14 (by decide) (fun c_4 => ?_) (fun c_4 => ?_)
    · have h := h.1 c_4
      refine J_iconst (v := 0) dX9_generate_20 (by decide)  ?_
      refine J_istore_n (lv' := [(0, .ref (g.1 + 353)), (1, .int p1), (2, .int 0)]) dX9_generate_21 rfl (by decide) [1, 2, 0] rfl  ?_
      obtain ⟨n, h⟩ := h
      exact l_X9_generate_22 p1  _   n _ _  h
    · have h := h.2 c_4
      refine J_bipush (v := (-4)) dX9_generate_17 (by decide)  ?_
      exact J_iret dX9_generate_19 rfl rfl ⟨_, rfl, h⟩
  · have h := h.2 c_3
    refine J_iconst (v := (-1)) dX9_generate_7 (by decide)  ?_
    exact J_iret dX9_generate_8 rfl rfl ⟨_, rfl, h⟩
def wp_X9_clear  (S : Sto) (Q : Int32 → Sto → Prop) : Prop := ∀ x1_1 : Int32, x1_1 = S.1 353 6 → ∀ S_2 : Sto, S_2 = uA S 353 6 0 → Q x1_1 S_2
set_option maxRecDepth 100000 in
set_option maxHeartbeats 4000000 in
theorem c_X9_clear {g : Gv}   (S : Sto) (Q : Int32 → Sto → Prop) (h : wp_X9_clear  S Q) : CT g yX9_clear cX9_clear 2 (some .int) 1 [.ref (g.1 + 353)] S (Qi Q) := by
  unfold wp_X9_clear at h
  refine CT.of (by decide) (Nat.le_of_ble_eq_true rfl) ?_
  refine J_sub (lv' := [(0, .ref (g.1 + 353))]) [0] rfl ?_
  refine J_aload_n dX9_clear_0 rfl 0 rfl  ?_
  refine J_geti (ci := 7) dX9_clear_1 6 rfl giX9 (by decide) (by decide) rfl rfl tb_4_117 rfl  ?_
  refine J_topi (fun x1_1 ex1_1 => ?_)
  have h := h x1_1 ex1_1
  refine J_istore_n (lv' := [(0, .ref (g.1 + 353)), (1, .int x1_1)]) dX9_clear_4 rfl (by decide) [1, 0] rfl  ?_
  refine J_aload_n dX9_clear_5 rfl 0 rfl  ?_
  refine J_iconst (v := 0) dX9_clear_6 (by decide)  ?_
  refine J_puti (ci := 7) dX9_clear_7 6 rfl giX9 (by decide) (by decide) rfl rfl tyX9 tyX9_ok nmX9 rfl rfl rfl rfl tb_4_117 rfl  ?_
  refine J_nmS (fun S_2 eS_2 => ?_)
  have h := h S_2 eS_2
  refine J_iload_n dX9_clear_10 rfl 1 rfl  ?_
  exact J_iret dX9_clear_11 rfl rfl ⟨_, rfl, h⟩
def wp_X9_feed (p1 : Int32) (S : Sto) (Q : Int32 → Sto → Prop) : Prop := wp_X9_in ((p1 : Int32).toInt64) 0 127 S (fun r_2 S_1 => ((¬ r_2 = 0 → ((¬ (S_1.1 353 14) = 100 → ∀ S_5 : Sto, S_5 = uA S_1 353 14 ((S_1.1 353 14) + 1) → vp_in (S_1.1 353 14) (100) ∧ ∀ S_7 : Sto, S_7 = uA S_5 360 (S_1.1 353 14 : Int32).toNatClampNeg p1 → Q (S_7.1 353 14) S_7) ∧ ((S_1.1 353 14) = 100 → Q ((-4)) S_1))) ∧ (r_2 = 0 → Q ((-2)) S_1)))
set_option maxRecDepth 100000 in
set_option maxHeartbeats 4000000 in
theorem c_X9_feed {g : Gv} (p1 : Int32)  (S : Sto) (Q : Int32 → Sto → Prop) (h : wp_X9_feed p1 S Q) : CT g yX9_feed cX9_feed 2 (some .int) 2 [.ref (g.1 + 353), .int p1] S (Qi Q) := by
  unfold wp_X9_feed at h
  refine CT.of (by decide) (Nat.le_of_ble_eq_true rfl) ?_
  refine J_sub (lv' := [(0, .ref (g.1 + 353)), (1, .int p1)]) [0, 1] rfl ?_
  refine J_iload_n dX9_feed_0 rfl 1 rfl  ?_
  refine J_i2l dX9_feed_1  ?_
  refine J_lconst (v := 0) dX9_feed_2 (by decide)  ?_
  refine J_ldc2 (v := 127) dX9_feed_3 tb_5_113  ?_
  refine J_callS (As := [.long ((p1 : Int32).toInt64), .long 0, .long 127]) (rest := []) (n := 3) dX9_feed_6 (c_X9_in ((p1 : Int32).toInt64) 0 127  _ _ h) tb_5_9 tb_5_7 tb_1_8 tb_5_8 (by decide) rfl (by decide) (by decide) (Nat.le_of_ble_eq_true rfl) rfl (fun v_r_2 S_1 hq => ?_)
  obtain ⟨r_2, rfl, h⟩ := hq
  dsimp only [Option.toList, List.cons_append, List.nil_append]
  refine J_if_ne (tgt := 15) dX9_feed_9 (by decide) (fun c_3 => ?_) (fun c_3 => ?_)
  · have h := h.1 c_3
    refine J_aload_n dX9_feed_15 rfl 0 rfl  ?_
    refine J_geti (ci := 7) dX9_feed_16 14 rfl giX9 (by decide) (by decide) rfl rfl tb_4_125 rfl  ?_
    refine J_bipush (v := 100) dX9_feed_19 (by decide)  ?_
    refine J_icmp_ne (tgt := 27) dX9_feed_21 (by decide) (fun c_4 => ?_) (fun c_4 => ?_)
    · have h := h.1 c_4
      refine J_aload_n dX9_feed_27 rfl 0 rfl  ?_
      refine J_getr (r := 360) (ci := 7) dX9_feed_28 13 rfl giX9 (by decide) (by decide) rfl rfl tb_4_124 (by decide) (by decide)  ?_
      refine J_aload_n dX9_feed_31 rfl 0 rfl  ?_
      refine J_dup dX9_feed_32 rfl  ?_
      refine J_geti (ci := 7) dX9_feed_33 14 rfl giX9 (by decide) (by decide) rfl rfl tb_4_125 rfl  ?_
      refine J_dup_x1 dX9_feed_36 rfl rfl  ?_
      refine J_iconst (v := 1) dX9_feed_37 (by decide)  ?_
      refine J_iadd dX9_feed_38  ?_
      refine J_puti (ci := 7) dX9_feed_39 14 rfl giX9 (by decide) (by decide) rfl rfl tyX9 tyX9_ok nmX9 rfl rfl rfl rfl tb_4_125 rfl  ?_
      refine J_nmS (fun S_5 eS_5 => ?_)
      have h := h S_5 eS_5
      refine J_iload_n dX9_feed_42 rfl 1 rfl  ?_
      obtain ⟨hi_6, h⟩ := h
      refine J_iast dX9_feed_43 (by decide) hi_6  ?_
      refine J_nmS (fun S_7 eS_7 => ?_)
      have h := h S_7 eS_7
      refine J_aload_n dX9_feed_44 rfl 0 rfl  ?_
      refine J_geti (ci := 7) dX9_feed_45 14 rfl giX9 (by decide) (by decide) rfl rfl tb_4_125 rfl  ?_
      exact J_iret dX9_feed_48 rfl rfl ⟨_, rfl, h⟩
    · have h := h.2 c_4
      refine J_bipush (v := (-4)) dX9_feed_24 (by decide)  ?_
      exact J_iret dX9_feed_26 rfl rfl ⟨_, rfl, h⟩
  · have h := h.2 c_3
    refine J_bipush (v := (-2)) dX9_feed_12 (by decide)  ?_
    exact J_iret dX9_feed_14 rfl rfl ⟨_, rfl, h⟩
def q_X9_sign__24   (Q : Int32 → Sto → Prop) (t0 : Int32) (S : Sto) : Prop := Q t0 S
set_option maxRecDepth 100000 in
set_option maxHeartbeats 4000000 in
theorem l_X9_sign__24 {g : Gv}   (Q : Int32 → Sto → Prop)   (t0 : Int32) (S : Sto)  (h : q_X9_sign__24   Q t0 S) : RJ g cX9_sign_ RX9 (some .int) 1 1 24 [(0, .ref (g.1 + 353))] [.int t0] S (Qi Q) := by
  unfold q_X9_sign__24 at h
  exact J_iret dX9_sign__24 rfl rfl ⟨_, rfl, h⟩
def wp_X9_sign_  (S : Sto) (Q : Int32 → Sto → Prop) : Prop := (((S.1 353 14) ≤ (S.1 353 15) → q_X9_sign__24   Q ((-1)) S) ∧ (¬ (S.1 353 14) ≤ (S.1 353 15) → vp_in (S.1 353 15) (100) ∧ q_X9_sign__24   Q (S.1 360 (S.1 353 15 : Int32).toNatClampNeg) S))
set_option maxRecDepth 100000 in
set_option maxHeartbeats 4000000 in
theorem c_X9_sign_ {g : Gv}   (S : Sto) (Q : Int32 → Sto → Prop) (h : wp_X9_sign_  S Q) : CT g yX9_sign_ cX9_sign_ 1 (some .int) 1 [.ref (g.1 + 353)] S (Qi Q) := by
  unfold wp_X9_sign_ at h
  refine CT.of (by decide) (Nat.le_of_ble_eq_true rfl) ?_
  refine J_sub (lv' := [(0, .ref (g.1 + 353))]) [0] rfl ?_
  refine J_aload_n dX9_sign__0 rfl 0 rfl  ?_
  refine J_geti (ci := 7) dX9_sign__1 15 rfl giX9 (by decide) (by decide) rfl rfl tb_4_126 rfl  ?_
  refine J_aload_n dX9_sign__4 rfl 0 rfl  ?_
  refine J_geti (ci := 7) dX9_sign__5 14 rfl giX9 (by decide) (by decide) rfl rfl tb_4_125 rfl  ?_
  refine J_icmp_ge (tgt := 23) dX9_sign__8 (by decide) (fun c_1 => ?_) (fun c_1 => ?_)
  · have h := h.1 c_1
    refine J_iconst (v := (-1)) dX9_sign__23 (by decide)  ?_
    exact l_X9_sign__24   _   _ _  h
  · have h := h.2 c_1
    refine J_aload_n dX9_sign__11 rfl 0 rfl  ?_
    refine J_getr (r := 360) (ci := 7) dX9_sign__12 13 rfl giX9 (by decide) (by decide) rfl rfl tb_4_124 (by decide) (by decide)  ?_
    refine J_aload_n dX9_sign__15 rfl 0 rfl  ?_
    refine J_geti (ci := 7) dX9_sign__16 15 rfl giX9 (by decide) (by decide) rfl rfl tb_4_126 rfl  ?_
    obtain ⟨hi_2, h⟩ := h
    refine J_iald dX9_sign__19 (by decide) hi_2  ?_
    refine J_goto (tgt := 24) dX9_sign__20 (by decide)  ?_
    exact l_X9_sign__24   _   _ _  h
def wp_X9_isDigit  (S : Sto) (Q : Int32 → Sto → Prop) : Prop := wp_X9_sign_  S (fun r_2 S_1 => wp_X9_in ((r_2 : Int32).toInt64) 48 57 S_1 (fun r_4 S_3 => narrow .boolean (.int r_4) = .int r_4 ∧ Q r_4 S_3))
set_option maxRecDepth 100000 in
set_option maxHeartbeats 4000000 in
theorem c_X9_isDigit {g : Gv}   (S : Sto) (Q : Int32 → Sto → Prop) (h : wp_X9_isDigit  S Q) : CT g yX9_isDigit cX9_isDigit 1 (some .boolean) 2 [.ref (g.1 + 353)] S (Qi Q) := by
  unfold wp_X9_isDigit at h
  refine CT.of (by decide) (Nat.le_of_ble_eq_true rfl) ?_
  refine J_sub (lv' := [(0, .ref (g.1 + 353))]) [0] rfl ?_
  refine J_aload_n dX9_isDigit_0 rfl 0 rfl  ?_
  refine J_callV (h := 353) (ci := 7) (As := []) (rest := []) (n := 0) dX9_isDigit_1 (c_X9_sign_   _ _ h) (by decide) rfl tb_5_129 tb_5_126 tb_1_8 tb_5_128 sl_44 (by decide) rfl (by decide) (by decide) (Nat.le_of_ble_eq_true rfl) rfl (fun v_r_2 S_1 hq => ?_)
  obtain ⟨r_2, rfl, h⟩ := hq
  dsimp only [Option.toList, List.cons_append, List.nil_append]
  refine J_i2l dX9_isDigit_4  ?_
  refine J_ldc2 (v := 48) dX9_isDigit_5 tb_5_130  ?_
  refine J_ldc2 (v := 57) dX9_isDigit_8 tb_5_131  ?_
  refine J_callS (As := [.long ((r_2 : Int32).toInt64), .long 48, .long 57]) (rest := []) (n := 3) dX9_isDigit_11 (c_X9_in ((r_2 : Int32).toInt64) 48 57  _ _ h) tb_5_9 tb_5_7 tb_1_8 tb_5_8 (by decide) rfl (by decide) (by decide) (Nat.le_of_ble_eq_true rfl) rfl (fun v_r_4 S_3 hq => ?_)
  obtain ⟨r_4, rfl, h⟩ := hq
  dsimp only [Option.toList, List.cons_append, List.nil_append]
  obtain ⟨hb, h⟩ := h
  exact J_iret dX9_isDigit_14 rfl hb ⟨_, rfl, h⟩
def wp_X9_isLetter  (S : Sto) (Q : Int32 → Sto → Prop) : Prop := wp_X9_sign_  S (fun r_2 S_1 => wp_X9_in ((r_2 : Int32).toInt64) 97 100 S_1 (fun r_4 S_3 => narrow .boolean (.int r_4) = .int r_4 ∧ Q r_4 S_3))
set_option maxRecDepth 100000 in
set_option maxHeartbeats 4000000 in
theorem c_X9_isLetter {g : Gv}   (S : Sto) (Q : Int32 → Sto → Prop) (h : wp_X9_isLetter  S Q) : CT g yX9_isLetter cX9_isLetter 1 (some .boolean) 2 [.ref (g.1 + 353)] S (Qi Q) := by
  unfold wp_X9_isLetter at h
  refine CT.of (by decide) (Nat.le_of_ble_eq_true rfl) ?_
  refine J_sub (lv' := [(0, .ref (g.1 + 353))]) [0] rfl ?_
  refine J_aload_n dX9_isLetter_0 rfl 0 rfl  ?_
  refine J_callV (h := 353) (ci := 7) (As := []) (rest := []) (n := 0) dX9_isLetter_1 (c_X9_sign_   _ _ h) (by decide) rfl tb_5_129 tb_5_126 tb_1_8 tb_5_128 sl_44 (by decide) rfl (by decide) (by decide) (Nat.le_of_ble_eq_true rfl) rfl (fun v_r_2 S_1 hq => ?_)
  obtain ⟨r_2, rfl, h⟩ := hq
  dsimp only [Option.toList, List.cons_append, List.nil_append]
  refine J_i2l dX9_isLetter_4  ?_
  refine J_ldc2 (v := 97) dX9_isLetter_5 tb_5_144  ?_
  refine J_ldc2 (v := 100) dX9_isLetter_8 tb_5_145  ?_
  refine J_callS (As := [.long ((r_2 : Int32).toInt64), .long 97, .long 100]) (rest := []) (n := 3) dX9_isLetter_11 (c_X9_in ((r_2 : Int32).toInt64) 97 100  _ _ h) tb_5_9 tb_5_7 tb_1_8 tb_5_8 (by decide) rfl (by decide) (by decide) (Nat.le_of_ble_eq_true rfl) rfl (fun v_r_4 S_3 hq => ?_)
  obtain ⟨r_4, rfl, h⟩ := hq
  dsimp only [Option.toList, List.cons_append, List.nil_append]
  obtain ⟨hb, h⟩ := h
  exact J_iret dX9_isLetter_14 rfl hb ⟨_, rfl, h⟩
def q_X9_seesTerm_71   (Q : Int32 → Sto → Prop) (t0 : Int32) (S : Sto) : Prop := narrow .boolean (.int t0) = .int t0 ∧ Q t0 S
set_option maxRecDepth 100000 in
set_option maxHeartbeats 4000000 in
theorem l_X9_seesTerm_71 {g : Gv}   (Q : Int32 → Sto → Prop)   (t0 : Int32) (S : Sto)  (h : q_X9_seesTerm_71   Q t0 S) : RJ g cX9_seesTerm RX9 (some .boolean) 3 3 71 [(0, .ref (g.1 + 353))] [.int t0] S (Qi Q) := by
  unfold q_X9_seesTerm_71 at h
  obtain ⟨hb, h⟩ := h
  exact J_iret dX9_seesTerm_71 rfl hb ⟨_, rfl, h⟩
def q_X9_seesTerm_60   (Q : Int32 → Sto → Prop) (x1 : Int32) (x2 : Int32) (S : Sto) : Prop := (((x1 + x2) ≤ 0 → q_X9_seesTerm_71   Q 0 S) ∧ (¬ (x1 + x2) ≤ 0 → q_X9_seesTerm_71   Q 1 S))
set_option maxRecDepth 100000 in
set_option maxHeartbeats 4000000 in
theorem l_X9_seesTerm_60 {g : Gv}   (Q : Int32 → Sto → Prop)   (x1 : Int32) (x2 : Int32) (S : Sto)  (h : q_X9_seesTerm_60   Q x1 x2 S) : RJ g cX9_seesTerm RX9 (some .boolean) 3 3 60 [(0, .ref (g.1 + 353)), (1, .int x1), (2, .int x2)] [] S (Qi Q) := by
  unfold q_X9_seesTerm_60 at h
  refine J_iload_n dX9_seesTerm_60 rfl 1 rfl  ?_
  refine J_iload_n dX9_seesTerm_61 rfl 2 rfl  ?_
  refine J_iadd dX9_seesTerm_62  ?_
  refine J_if_le (tgt := 70) dX9_seesTerm_63 (by decide) (fun c_1 => ?_) (fun c_1 => ?_)
  · have h := h.1 c_1
    refine J_iconst (v := 0) dX9_seesTerm_70 (by decide)  ?_
    refine J_sub (lv' := [(0, .ref (g.1 + 353))]) [0] rfl ?_
    exact l_X9_seesTerm_71   _   _ _  h
  · have h := h.2 c_1
    refine J_iconst (v := 1) dX9_seesTerm_66 (by decide)  ?_
    refine J_goto (tgt := 71) dX9_seesTerm_67 (by decide)  ?_
    refine J_sub (lv' := [(0, .ref (g.1 + 353))]) [0] rfl ?_
    exact l_X9_seesTerm_71   _   _ _  h
def q_X9_seesTerm_32   (Q : Int32 → Sto → Prop) : Nat → Int32 → Int32 → Sto → Prop
  | 0, _, _, _ => False
  | n + 1, x1, x2, S => ((4 ≤ x2 → q_X9_seesTerm_60   Q x1 x2 S) ∧ (¬ 4 ≤ x2 → wp_X9_isLetter  S (fun r_3 S_2 => ((r_3 = 0 → q_X9_seesTerm_60   Q x1 x2 S_2) ∧ (¬ r_3 = 0 → ∀ S_5 : Sto, S_5 = uA S_2 353 15 ((S_2.1 353 15) + 1) → ∀ x2_6 : Int32, x2_6 = x2 + 1 → q_X9_seesTerm_32   Q n x1 x2_6 S_5)))))
set_option maxRecDepth 100000 in
set_option maxHeartbeats 4000000 in
theorem l_X9_seesTerm_32 {g : Gv}   (Q : Int32 → Sto → Prop)   (n : Nat) : ∀ (x1 : Int32) (x2 : Int32) (S : Sto)  (h : q_X9_seesTerm_32   Q n x1 x2 S), RJ g cX9_seesTerm RX9 (some .boolean) 3 3 32 [(0, .ref (g.1 + 353)), (1, .int x1), (2, .int x2)] [] S (Qi Q) := by
  induction n with
  | zero => intro x1 x2 S  h; exact h.elim
  | succ n ih =>
    intro x1 x2 S  h
    unfold q_X9_seesTerm_32 at h
    refine J_iload_n dX9_seesTerm_32 rfl 2 rfl  ?_
    refine J_iconst (v := 4) dX9_seesTerm_33 (by decide)  ?_
    refine J_icmp_ge (tgt := 60) dX9_seesTerm_34 (by decide) (fun c_1 => ?_) (fun c_1 => ?_)
    · have h := h.1 c_1
      exact l_X9_seesTerm_60   _   _ _ _  h
    · have h := h.2 c_1
      refine J_aload_n dX9_seesTerm_37 rfl 0 rfl  ?_
      refine J_callV (h := 353) (ci := 7) (As := []) (rest := []) (n := 0) dX9_seesTerm_38 (c_X9_isLetter   _ _ h) (by decide) rfl tb_5_143 tb_5_140 tb_1_8 tb_5_142 sl_47 (by decide) rfl (by decide) (by decide) (Nat.le_of_ble_eq_true rfl) rfl (fun v_r_3 S_2 hq => ?_)
      obtain ⟨r_3, rfl, h⟩ := hq
      dsimp only [Option.toList, List.cons_append, List.nil_append]
      refine J_if_eq (tgt := 60) dX9_seesTerm_41 (by decide) (fun c_4 => ?_) (fun c_4 => ?_)
      · have h := h.1 c_4
        exact l_X9_seesTerm_60   _   _ _ _  h
      · have h := h.2 c_4
        refine J_aload_n dX9_seesTerm_44 rfl 0 rfl  ?_
        refine J_dup dX9_seesTerm_45 rfl  ?_
        refine J_geti (ci := 7) dX9_seesTerm_46 15 rfl giX9 (by decide) (by decide) rfl rfl tb_4_126 rfl  ?_
        refine J_iconst (v := 1) dX9_seesTerm_49 (by decide)  ?_
        refine J_iadd dX9_seesTerm_50  ?_
        refine J_puti (ci := 7) dX9_seesTerm_51 15 rfl giX9 (by decide) (by decide) rfl rfl tyX9 tyX9_ok nmX9 rfl rfl rfl rfl tb_4_126 rfl  ?_
        refine J_nmS (fun S_5 eS_5 => ?_)
        have h := h S_5 eS_5
        obtain ⟨x2_6, ex2_6⟩ : ∃ y : Int32, y = x2 + 1 := ⟨_, rfl⟩
        have h := h x2_6 ex2_6
        refine J_iinc (v := x2_6) (lv' := [(0, .ref (g.1 + 353)), (1, .int x1), (2, .int x2_6)]) dX9_seesTerm_54 (q := 2) rfl (by rw [ex2_6]; rfl) (by decide) [1, 2, 0] rfl  ?_
        refine J_goto (tgt := 32) dX9_seesTerm_57 (by decide)  ?_
        exact ih _ _ _  h
def q_X9_seesTerm_30   (Q : Int32 → Sto → Prop) (x1 : Int32) (S : Sto) : Prop := (∃ n_32, q_X9_seesTerm_32   Q n_32 x1 0 S)
set_option maxRecDepth 100000 in
set_option maxHeartbeats 4000000 in
theorem l_X9_seesTerm_30 {g : Gv}   (Q : Int32 → Sto → Prop)   (x1 : Int32) (S : Sto)  (h : q_X9_seesTerm_30   Q x1 S) : RJ g cX9_seesTerm RX9 (some .boolean) 3 3 30 [(0, .ref (g.1 + 353)), (1, .int x1)] [] S (Qi Q) := by
  unfold q_X9_seesTerm_30 at h
  refine J_iconst (v := 0) dX9_seesTerm_30 (by decide)  ?_
  refine J_istore_n (lv' := [(0, .ref (g.1 + 353)), (1, .int x1), (2, .int 0)]) dX9_seesTerm_31 rfl (by decide) [1, 2, 0] rfl  ?_
  obtain ⟨n, h⟩ := h
  exact l_X9_seesTerm_32   _   n _ _ _  h
def q_X9_seesTerm_2   (Q : Int32 → Sto → Prop) : Nat → Int32 → Sto → Prop
  | 0, _, _ => False
  | n + 1, x1, S => ((2 ≤ x1 → q_X9_seesTerm_30   Q x1 S) ∧ (¬ 2 ≤ x1 → wp_X9_isDigit  S (fun r_3 S_2 => ((r_3 = 0 → q_X9_seesTerm_30   Q x1 S_2) ∧ (¬ r_3 = 0 → ∀ S_5 : Sto, S_5 = uA S_2 353 15 ((S_2.1 353 15) + 1) → ∀ x1_6 : Int32, x1_6 = x1 + 1 → q_X9_seesTerm_2   Q n x1_6 S_5)))))
set_option maxRecDepth 100000 in
set_option maxHeartbeats 4000000 in
theorem l_X9_seesTerm_2 {g : Gv}   (Q : Int32 → Sto → Prop)   (n : Nat) : ∀ (x1 : Int32) (S : Sto)  (h : q_X9_seesTerm_2   Q n x1 S), RJ g cX9_seesTerm RX9 (some .boolean) 3 3 2 [(0, .ref (g.1 + 353)), (1, .int x1)] [] S (Qi Q) := by
  induction n with
  | zero => intro x1 S  h; exact h.elim
  | succ n ih =>
    intro x1 S  h
    unfold q_X9_seesTerm_2 at h
    refine J_iload_n dX9_seesTerm_2 rfl 1 rfl  ?_
    refine J_iconst (v := 2) dX9_seesTerm_3 (by decide)  ?_
    refine J_icmp_ge (tgt := 30) dX9_seesTerm_4 (by decide) (fun c_1 => ?_) (fun c_1 => ?_)
    · have h := h.1 c_1
      exact l_X9_seesTerm_30   _   _ _  h
    · have h := h.2 c_1
      refine J_aload_n dX9_seesTerm_7 rfl 0 rfl  ?_
      refine J_callV (h := 353) (ci := 7) (As := []) (rest := []) (n := 0) dX9_seesTerm_8 (c_X9_isDigit   _ _ h) (by decide) rfl tb_5_139 tb_5_136 tb_1_8 tb_5_138 sl_46 (by decide) rfl (by decide) (by decide) (Nat.le_of_ble_eq_true rfl) rfl (fun v_r_3 S_2 hq => ?_)
      obtain ⟨r_3, rfl, h⟩ := hq
      dsimp only [Option.toList, List.cons_append, List.nil_append]
      refine J_if_eq (tgt := 30) dX9_seesTerm_11 (by decide) (fun c_4 => ?_) (fun c_4 => ?_)
      · have h := h.1 c_4
        exact l_X9_seesTerm_30   _   _ _  h
      · have h := h.2 c_4
        refine J_aload_n dX9_seesTerm_14 rfl 0 rfl  ?_
        refine J_dup dX9_seesTerm_15 rfl  ?_
        refine J_geti (ci := 7) dX9_seesTerm_16 15 rfl giX9 (by decide) (by decide) rfl rfl tb_4_126 rfl  ?_
        refine J_iconst (v := 1) dX9_seesTerm_19 (by decide)  ?_
        refine J_iadd dX9_seesTerm_20  ?_
        refine J_puti (ci := 7) dX9_seesTerm_21 15 rfl giX9 (by decide) (by decide) rfl rfl tyX9 tyX9_ok nmX9 rfl rfl rfl rfl tb_4_126 rfl  ?_
        refine J_nmS (fun S_5 eS_5 => ?_)
        have h := h S_5 eS_5
        obtain ⟨x1_6, ex1_6⟩ : ∃ y : Int32, y = x1 + 1 := ⟨_, rfl⟩
        have h := h x1_6 ex1_6
        refine J_iinc (v := x1_6) (lv' := [(0, .ref (g.1 + 353)), (1, .int x1_6)]) dX9_seesTerm_24 (q := 1) rfl (by rw [ex1_6]; rfl) (by decide) [1, 0] rfl  ?_
        refine J_goto (tgt := 2) dX9_seesTerm_27 (by decide)  ?_
        exact ih _ _  h
def wp_X9_seesTerm  (S : Sto) (Q : Int32 → Sto → Prop) : Prop := (∃ n_2, q_X9_seesTerm_2   Q n_2 0 S)
set_option maxRecDepth 100000 in
set_option maxHeartbeats 4000000 in
theorem c_X9_seesTerm {g : Gv}   (S : Sto) (Q : Int32 → Sto → Prop) (h : wp_X9_seesTerm  S Q) : CT g yX9_seesTerm cX9_seesTerm 3 (some .boolean) 3 [.ref (g.1 + 353)] S (Qi Q) := by
  unfold wp_X9_seesTerm at h
  refine CT.of (by decide) (Nat.le_of_ble_eq_true rfl) ?_
  refine J_sub (lv' := [(0, .ref (g.1 + 353))]) [0] rfl ?_
  refine J_iconst (v := 0) dX9_seesTerm_0 (by decide)  ?_
  refine J_istore_n (lv' := [(0, .ref (g.1 + 353)), (1, .int 0)]) dX9_seesTerm_1 rfl (by decide) [1, 0] rfl  ?_
  obtain ⟨n, h⟩ := h
  exact l_X9_seesTerm_2   _   n _ _  h
def wp_X9_seesDigit  (S : Sto) (Q : Int32 → Sto → Prop) : Prop := wp_X9_isDigit  S (fun r_2 S_1 => ((¬ r_2 = 0 → ∀ S_4 : Sto, S_4 = uA S_1 353 15 ((S_1.1 353 15) + 1) → Q 1 S_4) ∧ (r_2 = 0 → Q 0 S_1)))
set_option maxRecDepth 100000 in
set_option maxHeartbeats 4000000 in
theorem c_X9_seesDigit {g : Gv}   (S : Sto) (Q : Int32 → Sto → Prop) (h : wp_X9_seesDigit  S Q) : CT g yX9_seesDigit cX9_seesDigit 1 (some .boolean) 3 [.ref (g.1 + 353)] S (Qi Q) := by
  unfold wp_X9_seesDigit at h
  refine CT.of (by decide) (Nat.le_of_ble_eq_true rfl) ?_
  refine J_sub (lv' := [(0, .ref (g.1 + 353))]) [0] rfl ?_
  refine J_aload_n dX9_seesDigit_0 rfl 0 rfl  ?_
  refine J_callV (h := 353) (ci := 7) (As := []) (rest := []) (n := 0) dX9_seesDigit_1 (c_X9_isDigit   _ _ h) (by decide) rfl tb_5_139 tb_5_136 tb_1_8 tb_5_138 sl_46 (by decide) rfl (by decide) (by decide) (Nat.le_of_ble_eq_true rfl) rfl (fun v_r_2 S_1 hq => ?_)
  obtain ⟨r_2, rfl, h⟩ := hq
  dsimp only [Option.toList, List.cons_append, List.nil_append]
  refine J_if_ne (tgt := 9) dX9_seesDigit_4 (by decide) (fun c_3 => ?_) (fun c_3 => ?_)
  · have h := h.1 c_3
    refine J_aload_n dX9_seesDigit_9 rfl 0 rfl  ?_
    refine J_dup dX9_seesDigit_10 rfl  ?_
    refine J_geti (ci := 7) dX9_seesDigit_11 15 rfl giX9 (by decide) (by decide) rfl rfl tb_4_126 rfl  ?_
    refine J_iconst (v := 1) dX9_seesDigit_14 (by decide)  ?_
    refine J_iadd dX9_seesDigit_15  ?_
    refine J_puti (ci := 7) dX9_seesDigit_16 15 rfl giX9 (by decide) (by decide) rfl rfl tyX9 tyX9_ok nmX9 rfl rfl rfl rfl tb_4_126 rfl  ?_
    refine J_nmS (fun S_4 eS_4 => ?_)
    have h := h S_4 eS_4
    refine J_iconst (v := 1) dX9_seesDigit_19 (by decide)  ?_
    exact J_iret dX9_seesDigit_20 rfl rfl ⟨_, rfl, h⟩
  · have h := h.2 c_3
    refine J_iconst (v := 0) dX9_seesDigit_7 (by decide)  ?_
    exact J_iret dX9_seesDigit_8 rfl rfl ⟨_, rfl, h⟩
def q_X9_seesClause_177   (Q : Int32 → Sto → Prop) (t0 : Int32) (S : Sto) : Prop := narrow .boolean (.int t0) = .int t0 ∧ Q t0 S
set_option maxRecDepth 100000 in
set_option maxHeartbeats 4000000 in
theorem l_X9_seesClause_177 {g : Gv}   (Q : Int32 → Sto → Prop)   (t0 : Int32) (S : Sto)  (h : q_X9_seesClause_177   Q t0 S) : RJ g cX9_seesClause RX9 (some .boolean) 2 4 177 [(0, .ref (g.1 + 353))] [.int t0] S (Qi Q) := by
  unfold q_X9_seesClause_177 at h
  obtain ⟨hb, h⟩ := h
  exact J_iret dX9_seesClause_177 rfl hb ⟨_, rfl, h⟩
def q_X9_seesClause_172   (Q : Int32 → Sto → Prop)  (S : Sto) : Prop := q_X9_seesClause_177   Q 1 S
set_option maxRecDepth 100000 in
set_option maxHeartbeats 4000000 in
theorem l_X9_seesClause_172 {g : Gv}   (Q : Int32 → Sto → Prop)    (S : Sto)  (h : q_X9_seesClause_172   Q  S) : RJ g cX9_seesClause RX9 (some .boolean) 2 4 172 [(0, .ref (g.1 + 353))] [] S (Qi Q) := by
  unfold q_X9_seesClause_172 at h
  refine J_iconst (v := 1) dX9_seesClause_172 (by decide)  ?_
  refine J_goto (tgt := 177) dX9_seesClause_173 (by decide)  ?_
  exact l_X9_seesClause_177   _   _ _  h
def q_X9_seesClause_149   (Q : Int32 → Sto → Prop) (x1 : Int32) (S : Sto) : Prop := ∀ S_1 : Sto, S_1 = uA S 353 15 ((S.1 353 15) + 1) → ((x1 = 120 → q_X9_seesClause_172   Q  S_1) ∧ (¬ x1 = 120 → wp_X9_seesDigit  S_1 (fun r_4 S_3 => ((r_4 = 0 → q_X9_seesClause_177   Q 0 S_3) ∧ (¬ r_4 = 0 → q_X9_seesClause_172   Q  S_3)))))
set_option maxRecDepth 100000 in
set_option maxHeartbeats 4000000 in
theorem l_X9_seesClause_149 {g : Gv}   (Q : Int32 → Sto → Prop)   (x1 : Int32) (S : Sto)  (h : q_X9_seesClause_149   Q x1 S) : RJ g cX9_seesClause RX9 (some .boolean) 2 4 149 [(0, .ref (g.1 + 353)), (1, .int x1)] [] S (Qi Q) := by
  unfold q_X9_seesClause_149 at h
  refine J_aload_n dX9_seesClause_149 rfl 0 rfl  ?_
  refine J_dup dX9_seesClause_150 rfl  ?_
  refine J_geti (ci := 7) dX9_seesClause_151 15 rfl giX9 (by decide) (by decide) rfl rfl tb_4_126 rfl  ?_
  refine J_iconst (v := 1) dX9_seesClause_154 (by decide)  ?_
  refine J_iadd dX9_seesClause_155  ?_
  refine J_puti (ci := 7) dX9_seesClause_156 15 rfl giX9 (by decide) (by decide) rfl rfl tyX9 tyX9_ok nmX9 rfl rfl rfl rfl tb_4_126 rfl  ?_
  refine J_nmS (fun S_1 eS_1 => ?_)
  have h := h S_1 eS_1
  refine J_iload_n dX9_seesClause_159 rfl 1 rfl  ?_
  refine J_bipush (v := 120) dX9_seesClause_160 (by decide)  ?_
  refine J_icmp_eq (tgt := 172) dX9_seesClause_162 (by decide) (fun c_2 => ?_) (fun c_2 => ?_)
  · have h := h.1 c_2
    refine J_sub (lv' := [(0, .ref (g.1 + 353))]) [0] rfl ?_
    exact l_X9_seesClause_172   _    _  h
  · have h := h.2 c_2
    refine J_aload_n dX9_seesClause_165 rfl 0 rfl  ?_
    refine J_callV (h := 353) (ci := 7) (As := []) (rest := []) (n := 0) dX9_seesClause_166 (c_X9_seesDigit   _ _ h) (by decide) rfl tb_5_149 tb_5_146 tb_1_8 tb_5_148 sl_48 (by decide) rfl (by decide) (by decide) (Nat.le_of_ble_eq_true rfl) rfl (fun v_r_4 S_3 hq => ?_)
    obtain ⟨r_4, rfl, h⟩ := hq
    dsimp only [Option.toList, List.cons_append, List.nil_append]
    refine J_if_eq (tgt := 176) dX9_seesClause_169 (by decide) (fun c_5 => ?_) (fun c_5 => ?_)
    · have h := h.1 c_5
      refine J_iconst (v := 0) dX9_seesClause_176 (by decide)  ?_
      refine J_sub (lv' := [(0, .ref (g.1 + 353))]) [0] rfl ?_
      exact l_X9_seesClause_177   _   _ _  h
    · have h := h.2 c_5
      refine J_sub (lv' := [(0, .ref (g.1 + 353))]) [0] rfl ?_
      exact l_X9_seesClause_172   _    _  h
def q_X9_seesClause_96  (R78 : Sto → Prop) (Q : Int32 → Sto → Prop)  (S : Sto) : Prop := ∀ S_1 : Sto, S_1 = uA S 353 15 ((S.1 353 15) + 1) → wp_X9_seesTerm  S_1 (fun r_3 S_2 => ((¬ r_3 = 0 → R78  S_2) ∧ (r_3 = 0 → Q 0 S_2)))
set_option maxRecDepth 100000 in
set_option maxHeartbeats 4000000 in
theorem l_X9_seesClause_96 {g : Gv}  (R78 : Sto → Prop) (Q : Int32 → Sto → Prop) (hR78 : ∀  (S : Sto), R78  S → RJ g cX9_seesClause RX9 (some .boolean) 2 4 78 [(0, .ref (g.1 + 353))] [] S (Qi Q))   (S : Sto)  (h : q_X9_seesClause_96  R78 Q  S) : RJ g cX9_seesClause RX9 (some .boolean) 2 4 96 [(0, .ref (g.1 + 353))] [] S (Qi Q) := by
  unfold q_X9_seesClause_96 at h
  refine J_aload_n dX9_seesClause_96 rfl 0 rfl  ?_
  refine J_dup dX9_seesClause_97 rfl  ?_
  refine J_geti (ci := 7) dX9_seesClause_98 15 rfl giX9 (by decide) (by decide) rfl rfl tb_4_126 rfl  ?_
  refine J_iconst (v := 1) dX9_seesClause_101 (by decide)  ?_
  refine J_iadd dX9_seesClause_102  ?_
  refine J_puti (ci := 7) dX9_seesClause_103 15 rfl giX9 (by decide) (by decide) rfl rfl tyX9 tyX9_ok nmX9 rfl rfl rfl rfl tb_4_126 rfl  ?_
  refine J_nmS (fun S_1 eS_1 => ?_)
  have h := h S_1 eS_1
  refine J_aload_n dX9_seesClause_106 rfl 0 rfl  ?_
  refine J_callV (h := 353) (ci := 7) (As := []) (rest := []) (n := 0) dX9_seesClause_107 (c_X9_seesTerm   _ _ h) (by decide) rfl tb_5_135 tb_5_132 tb_1_8 tb_5_134 sl_45 (by decide) rfl (by decide) (by decide) (Nat.le_of_ble_eq_true rfl) rfl (fun v_r_3 S_2 hq => ?_)
  obtain ⟨r_3, rfl, h⟩ := hq
  dsimp only [Option.toList, List.cons_append, List.nil_append]
  refine J_if_ne (tgt := 78) dX9_seesClause_110 (by decide) (fun c_4 => ?_) (fun c_4 => ?_)
  · have h := h.1 c_4
    exact hR78  _  h
  · have h := h.2 c_4
    refine J_iconst (v := 0) dX9_seesClause_113 (by decide)  ?_
    exact J_iret dX9_seesClause_114 rfl rfl ⟨_, rfl, h⟩
def q_X9_seesClause_78   (Q : Int32 → Sto → Prop) : Nat → Sto → Prop
  | 0, _ => False
  | n + 1, S => wp_X9_sign_  S (fun r_2 S_1 => ((r_2 = 43 → q_X9_seesClause_96  (fun  S => q_X9_seesClause_78   Q n  S) Q  S_1) ∧ (¬ r_2 = 43 → wp_X9_sign_  S_1 (fun r_5 S_4 => ((¬ r_5 = 45 → Q 1 S_4) ∧ (r_5 = 45 → q_X9_seesClause_96  (fun  S => q_X9_seesClause_78   Q n  S) Q  S_4))))))
set_option maxRecDepth 100000 in
set_option maxHeartbeats 4000000 in
theorem l_X9_seesClause_78 {g : Gv}   (Q : Int32 → Sto → Prop)   (n : Nat) : ∀  (S : Sto)  (h : q_X9_seesClause_78   Q n  S), RJ g cX9_seesClause RX9 (some .boolean) 2 4 78 [(0, .ref (g.1 + 353))] [] S (Qi Q) := by
  induction n with
  | zero => intro  S  h; exact h.elim
  | succ n ih =>
    intro  S  h
    unfold q_X9_seesClause_78 at h
    refine J_aload_n dX9_seesClause_78 rfl 0 rfl  ?_
    refine J_callV (h := 353) (ci := 7) (As := []) (rest := []) (n := 0) dX9_seesClause_79 (c_X9_sign_   _ _ h) (by decide) rfl tb_5_129 tb_5_126 tb_1_8 tb_5_128 sl_44 (by decide) rfl (by decide) (by decide) (Nat.le_of_ble_eq_true rfl) rfl (fun v_r_2 S_1 hq => ?_)
    obtain ⟨r_2, rfl, h⟩ := hq
    dsimp only [Option.toList, List.cons_append, List.nil_append]
    refine J_bipush (v := 43) dX9_seesClause_82 (by decide)  ?_
    refine J_icmp_eq (tgt := 96) dX9_seesClause_84 (by decide) (fun c_3 => ?_) (fun c_3 => ?_)
    · have h := h.1 c_3
      exact l_X9_seesClause_96  _ _ (fun  S  h => ih  S  h)   _  h
    · have h := h.2 c_3
      refine J_aload_n dX9_seesClause_87 rfl 0 rfl  ?_
      refine J_callV (h := 353) (ci := 7) (As := []) (rest := []) (n := 0) dX9_seesClause_88 (c_X9_sign_   _ _ h) (by decide) rfl tb_5_129 tb_5_126 tb_1_8 tb_5_128 sl_44 (by decide) rfl (by decide) (by decide) (Nat.le_of_ble_eq_true rfl) rfl (fun v_r_5 S_4 hq => ?_)
      obtain ⟨r_5, rfl, h⟩ := hq
      dsimp only [Option.toList, List.cons_append, List.nil_append]
      refine J_bipush (v := 45) dX9_seesClause_91 (by decide)  ?_
      refine J_icmp_ne (tgt := 115) dX9_seesClause_93 (by decide) (fun c_6 => ?_) (fun c_6 => ?_)
      · have h := h.1 c_6
        refine J_iconst (v := 1) dX9_seesClause_115 (by decide)  ?_
        exact J_iret dX9_seesClause_116 rfl rfl ⟨_, rfl, h⟩
      · have h := h.2 c_6
        exact l_X9_seesClause_96  _ _ (fun  S  h => ih  S  h)   _  h
def q_X9_seesClause_69   (Q : Int32 → Sto → Prop)  (S : Sto) : Prop := wp_X9_seesTerm  S (fun r_2 S_1 => ((¬ r_2 = 0 → (∃ n_78, q_X9_seesClause_78   Q n_78  S_1)) ∧ (r_2 = 0 → Q 0 S_1)))
set_option maxRecDepth 100000 in
set_option maxHeartbeats 4000000 in
theorem l_X9_seesClause_69 {g : Gv}   (Q : Int32 → Sto → Prop)    (S : Sto)  (h : q_X9_seesClause_69   Q  S) : RJ g cX9_seesClause RX9 (some .boolean) 2 4 69 [(0, .ref (g.1 + 353))] [] S (Qi Q) := by
  unfold q_X9_seesClause_69 at h
  refine J_aload_n dX9_seesClause_69 rfl 0 rfl  ?_
  refine J_callV (h := 353) (ci := 7) (As := []) (rest := []) (n := 0) dX9_seesClause_70 (c_X9_seesTerm   _ _ h) (by decide) rfl tb_5_135 tb_5_132 tb_1_8 tb_5_134 sl_45 (by decide) rfl (by decide) (by decide) (Nat.le_of_ble_eq_true rfl) rfl (fun v_r_2 S_1 hq => ?_)
  obtain ⟨r_2, rfl, h⟩ := hq
  dsimp only [Option.toList, List.cons_append, List.nil_append]
  refine J_if_ne (tgt := 78) dX9_seesClause_73 (by decide) (fun c_3 => ?_) (fun c_3 => ?_)
  · have h := h.1 c_3
    obtain ⟨n, h⟩ := h
    exact l_X9_seesClause_78   _   n  _  h
  · have h := h.2 c_3
    refine J_iconst (v := 0) dX9_seesClause_76 (by decide)  ?_
    exact J_iret dX9_seesClause_77 rfl rfl ⟨_, rfl, h⟩
def wp_X9_seesClause  (S : Sto) (Q : Int32 → Sto → Prop) : Prop := wp_X9_sign_  S (fun r_2 S_1 => wp_X9_in ((r_2 : Int32).toInt64) 48 57 S_1 (fun r_4 S_3 => ((r_4 = 0 → ((r_2 = 103 → q_X9_seesClause_149   Q r_2 S_3) ∧ (¬ r_2 = 103 → ((r_2 = 120 → q_X9_seesClause_149   Q r_2 S_3) ∧ (¬ r_2 = 120 → ((r_2 = 110 → q_X9_seesClause_149   Q r_2 S_3) ∧ (¬ r_2 = 110 → ((r_2 = 112 → q_X9_seesClause_149   Q r_2 S_3) ∧ (¬ r_2 = 112 → ((r_2 = 111 → q_X9_seesClause_149   Q r_2 S_3) ∧ (¬ r_2 = 111 → Q 0 S_3))))))))))) ∧ (¬ r_4 = 0 → ∀ S_11 : Sto, S_11 = uA S_3 353 15 ((S_3.1 353 15) + 1) → wp_X9_sign_  S_11 (fun r_13 S_12 => ((r_13 = 58 → ∀ S_15 : Sto, S_15 = uA S_12 353 15 ((S_12.1 353 15) + 1) → wp_X9_sign_  S_15 (fun r_17 S_16 => ((¬ r_17 = 45 → q_X9_seesClause_69   Q  S_16) ∧ (r_17 = 45 → ∀ S_19 : Sto, S_19 = uA S_16 353 15 ((S_16.1 353 15) + 1) → q_X9_seesClause_69   Q  S_19)))) ∧ (¬ r_13 = 58 → Q 0 S_12)))))))
set_option maxRecDepth 100000 in
set_option maxHeartbeats 4000000 in
theorem c_X9_seesClause {g : Gv}   (S : Sto) (Q : Int32 → Sto → Prop) (h : wp_X9_seesClause  S Q) : CT g yX9_seesClause cX9_seesClause 2 (some .boolean) 4 [.ref (g.1 + 353)] S (Qi Q) := by
  unfold wp_X9_seesClause at h
  refine CT.of (by decide) (Nat.le_of_ble_eq_true rfl) ?_
  refine J_sub (lv' := [(0, .ref (g.1 + 353))]) [0] rfl ?_
  refine J_aload_n dX9_seesClause_0 rfl 0 rfl  ?_
  refine J_callV (h := 353) (ci := 7) (As := []) (rest := []) (n := 0) dX9_seesClause_1 (c_X9_sign_   _ _ h) (by decide) rfl tb_5_129 tb_5_126 tb_1_8 tb_5_128 sl_44 (by decide) rfl (by decide) (by decide) (Nat.le_of_ble_eq_true rfl) rfl (fun v_r_2 S_1 hq => ?_)
  obtain ⟨r_2, rfl, h⟩ := hq
  dsimp only [Option.toList, List.cons_append, List.nil_append]
  refine J_istore_n (lv' := [(0, .ref (g.1 + 353)), (1, .int r_2)]) dX9_seesClause_4 rfl (by decide) [1, 0] rfl  ?_
  refine J_iload_n dX9_seesClause_5 rfl 1 rfl  ?_
  refine J_i2l dX9_seesClause_6  ?_
  refine J_ldc2 (v := 48) dX9_seesClause_7 tb_5_130  ?_
  refine J_ldc2 (v := 57) dX9_seesClause_10 tb_5_131  ?_
  refine J_callS (As := [.long ((r_2 : Int32).toInt64), .long 48, .long 57]) (rest := []) (n := 3) dX9_seesClause_13 (c_X9_in ((r_2 : Int32).toInt64) 48 57  _ _ h) tb_5_9 tb_5_7 tb_1_8 tb_5_8 (by decide) rfl (by decide) (by decide) (Nat.le_of_ble_eq_true rfl) rfl (fun v_r_4 S_3 hq => ?_)
  obtain ⟨r_4, rfl, h⟩ := hq
  dsimp only [Option.toList, List.cons_append, List.nil_append]
  refine J_if_eq (tgt := 117) dX9_seesClause_16 (by decide) (fun c_5 => ?_) (fun c_5 => ?_)
  · have h := h.1 c_5
    refine J_iload_n dX9_seesClause_117 rfl 1 rfl  ?_
    refine J_bipush (v := 103) dX9_seesClause_118 (by decide)  ?_
    refine J_icmp_eq (tgt := 149) dX9_seesClause_120 (by decide) (fun c_6 => ?_) (fun c_6 => ?_)
    · have h := h.1 c_6
      exact l_X9_seesClause_149   _   _ _  h
    · have h := h.2 c_6
      refine J_iload_n dX9_seesClause_123 rfl 1 rfl  ?_
      refine J_bipush (v := 120) dX9_seesClause_124 (by decide)  ?_
      refine J_icmp_eq (tgt := 149) dX9_seesClause_126 (by decide) (fun c_7 => ?_) (fun c_7 => ?_)
      · have h := h.1 c_7
        exact l_X9_seesClause_149   _   _ _  h
      · have h := h.2 c_7
        refine J_iload_n dX9_seesClause_129 rfl 1 rfl  ?_
        refine J_bipush (v := 110) dX9_seesClause_130 (by decide)  ?_
        refine J_icmp_eq (tgt := 149) dX9_seesClause_132 (by decide) (fun c_8 => ?_) (fun c_8 => ?_)
        · have h := h.1 c_8
          exact l_X9_seesClause_149   _   _ _  h
        · have h := h.2 c_8
          refine J_iload_n dX9_seesClause_135 rfl 1 rfl  ?_
          refine J_bipush (v := 112) dX9_seesClause_136 (by decide)  ?_
          refine J_icmp_eq (tgt := 149) dX9_seesClause_138 (by decide) (fun c_9 => ?_) (fun c_9 => ?_)
          · have h := h.1 c_9
            exact l_X9_seesClause_149   _   _ _  h
          · have h := h.2 c_9
            refine J_iload_n dX9_seesClause_141 rfl 1 rfl  ?_
            refine J_bipush (v := 111) dX9_seesClause_142 (by decide)  ?_
            refine J_icmp_eq (tgt := 149) dX9_seesClause_144 (by decide) (fun c_10 => ?_) (fun c_10 => ?_)
            · have h := h.1 c_10
              exact l_X9_seesClause_149   _   _ _  h
            · have h := h.2 c_10
              refine J_iconst (v := 0) dX9_seesClause_147 (by decide)  ?_
              exact J_iret dX9_seesClause_148 rfl rfl ⟨_, rfl, h⟩
  · have h := h.2 c_5
    refine J_aload_n dX9_seesClause_19 rfl 0 rfl  ?_
    refine J_dup dX9_seesClause_20 rfl  ?_
    refine J_geti (ci := 7) dX9_seesClause_21 15 rfl giX9 (by decide) (by decide) rfl rfl tb_4_126 rfl  ?_
    refine J_iconst (v := 1) dX9_seesClause_24 (by decide)  ?_
    refine J_iadd dX9_seesClause_25  ?_
    refine J_puti (ci := 7) dX9_seesClause_26 15 rfl giX9 (by decide) (by decide) rfl rfl tyX9 tyX9_ok nmX9 rfl rfl rfl rfl tb_4_126 rfl  ?_
    refine J_nmS (fun S_11 eS_11 => ?_)
    have h := h S_11 eS_11
    refine J_aload_n dX9_seesClause_29 rfl 0 rfl  ?_
    refine J_callV (h := 353) (ci := 7) (As := []) (rest := []) (n := 0) dX9_seesClause_30 (c_X9_sign_   _ _ h) (by decide) rfl tb_5_129 tb_5_126 tb_1_8 tb_5_128 sl_44 (by decide) rfl (by decide) (by decide) (Nat.le_of_ble_eq_true rfl) rfl (fun v_r_13 S_12 hq => ?_)
    obtain ⟨r_13, rfl, h⟩ := hq
    dsimp only [Option.toList, List.cons_append, List.nil_append]
    refine J_bipush (v := 58) dX9_seesClause_33 (by decide)  ?_
    refine J_icmp_eq (tgt := 40) dX9_seesClause_35 (by decide) (fun c_14 => ?_) (fun c_14 => ?_)
    · have h := h.1 c_14
      refine J_aload_n dX9_seesClause_40 rfl 0 rfl  ?_
      refine J_dup dX9_seesClause_41 rfl  ?_
      refine J_geti (ci := 7) dX9_seesClause_42 15 rfl giX9 (by decide) (by decide) rfl rfl tb_4_126 rfl  ?_
      refine J_iconst (v := 1) dX9_seesClause_45 (by decide)  ?_
      refine J_iadd dX9_seesClause_46  ?_
      refine J_puti (ci := 7) dX9_seesClause_47 15 rfl giX9 (by decide) (by decide) rfl rfl tyX9 tyX9_ok nmX9 rfl rfl rfl rfl tb_4_126 rfl  ?_
      refine J_nmS (fun S_15 eS_15 => ?_)
      have h := h S_15 eS_15
      refine J_aload_n dX9_seesClause_50 rfl 0 rfl  ?_
      refine J_callV (h := 353) (ci := 7) (As := []) (rest := []) (n := 0) dX9_seesClause_51 (c_X9_sign_   _ _ h) (by decide) rfl tb_5_129 tb_5_126 tb_1_8 tb_5_128 sl_44 (by decide) rfl (by decide) (by decide) (Nat.le_of_ble_eq_true rfl) rfl (fun v_r_17 S_16 hq => ?_)
      obtain ⟨r_17, rfl, h⟩ := hq
      dsimp only [Option.toList, List.cons_append, List.nil_append]
      refine J_bipush (v := 45) dX9_seesClause_54 (by decide)  ?_
      refine J_icmp_ne (tgt := 69) dX9_seesClause_56 (by decide) (fun c_18 => ?_) (fun c_18 => ?_)
      · have h := h.1 c_18
        refine J_sub (lv' := [(0, .ref (g.1 + 353))]) [0] rfl ?_
        exact l_X9_seesClause_69   _    _  h
      · have h := h.2 c_18
        refine J_aload_n dX9_seesClause_59 rfl 0 rfl  ?_
        refine J_dup dX9_seesClause_60 rfl  ?_
        refine J_geti (ci := 7) dX9_seesClause_61 15 rfl giX9 (by decide) (by decide) rfl rfl tb_4_126 rfl  ?_
        refine J_iconst (v := 1) dX9_seesClause_64 (by decide)  ?_
        refine J_iadd dX9_seesClause_65  ?_
        refine J_puti (ci := 7) dX9_seesClause_66 15 rfl giX9 (by decide) (by decide) rfl rfl tyX9 tyX9_ok nmX9 rfl rfl rfl rfl tb_4_126 rfl  ?_
        refine J_nmS (fun S_19 eS_19 => ?_)
        have h := h S_19 eS_19
        refine J_sub (lv' := [(0, .ref (g.1 + 353))]) [0] rfl ?_
        exact l_X9_seesClause_69   _    _  h
    · have h := h.2 c_14
      refine J_iconst (v := 0) dX9_seesClause_38 (by decide)  ?_
      exact J_iret dX9_seesClause_39 rfl rfl ⟨_, rfl, h⟩
def q_X9_sees_47   (Q : Int32 → Sto → Prop)  (S : Sto) : Prop := Q 0 S
set_option maxRecDepth 100000 in
set_option maxHeartbeats 4000000 in
theorem l_X9_sees_47 {g : Gv}   (Q : Int32 → Sto → Prop)    (S : Sto)  (h : q_X9_sees_47   Q  S) : RJ g cX9_sees RX9 (some .boolean) 2 5 47 [(0, .ref (g.1 + 353))] [] S (Qi Q) := by
  unfold q_X9_sees_47 at h
  refine J_iconst (v := 0) dX9_sees_47 (by decide)  ?_
  exact J_iret dX9_sees_48 rfl rfl ⟨_, rfl, h⟩
def q_X9_sees_7   (Q : Int32 → Sto → Prop) : Nat → Int32 → Sto → Prop
  | 0, _, _ => False
  | n + 1, x1, S => wp_X9_seesClause  S (fun r_2 S_1 => ((¬ r_2 = 0 → ∀ x1_4 : Int32, x1_4 = x1 + 1 → ((¬ (S_1.1 353 15) = (S_1.1 353 14) → wp_X9_sign_  S_1 (fun r_7 S_6 => ((¬ r_7 = 59 → q_X9_sees_47   Q  S_6) ∧ (r_7 = 59 → ((¬ x1_4 = 12 → ∀ S_10 : Sto, S_10 = uA S_6 353 15 ((S_6.1 353 15) + 1) → q_X9_sees_7   Q n x1_4 S_10) ∧ (x1_4 = 12 → q_X9_sees_47   Q  S_6)))))) ∧ ((S_1.1 353 15) = (S_1.1 353 14) → Q 1 S_1))) ∧ (r_2 = 0 → Q 0 S_1)))
set_option maxRecDepth 100000 in
set_option maxHeartbeats 4000000 in
theorem l_X9_sees_7 {g : Gv}   (Q : Int32 → Sto → Prop)   (n : Nat) : ∀ (x1 : Int32) (S : Sto)  (h : q_X9_sees_7   Q n x1 S), RJ g cX9_sees RX9 (some .boolean) 2 5 7 [(0, .ref (g.1 + 353)), (1, .int x1)] [] S (Qi Q) := by
  induction n with
  | zero => intro x1 S  h; exact h.elim
  | succ n ih =>
    intro x1 S  h
    unfold q_X9_sees_7 at h
    refine J_aload_n dX9_sees_7 rfl 0 rfl  ?_
    refine J_callV (h := 353) (ci := 7) (As := []) (rest := []) (n := 0) dX9_sees_8 (c_X9_seesClause   _ _ h) (by decide) rfl tb_5_125 tb_5_122 tb_1_8 tb_5_124 sl_43 (by decide) rfl (by decide) (by decide) (Nat.le_of_ble_eq_true rfl) rfl (fun v_r_2 S_1 hq => ?_)
    obtain ⟨r_2, rfl, h⟩ := hq
    dsimp only [Option.toList, List.cons_append, List.nil_append]
    refine J_if_ne (tgt := 16) dX9_sees_11 (by decide) (fun c_3 => ?_) (fun c_3 => ?_)
    · have h := h.1 c_3
      obtain ⟨x1_4, ex1_4⟩ : ∃ y : Int32, y = x1 + 1 := ⟨_, rfl⟩
      have h := h x1_4 ex1_4
      refine J_iinc (v := x1_4) (lv' := [(0, .ref (g.1 + 353)), (1, .int x1_4)]) dX9_sees_16 (q := 1) rfl (by rw [ex1_4]; rfl) (by decide) [1, 0] rfl  ?_
      refine J_aload_n dX9_sees_19 rfl 0 rfl  ?_
      refine J_geti (ci := 7) dX9_sees_20 15 rfl giX9 (by decide) (by decide) rfl rfl tb_4_126 rfl  ?_
      refine J_aload_n dX9_sees_23 rfl 0 rfl  ?_
      refine J_geti (ci := 7) dX9_sees_24 14 rfl giX9 (by decide) (by decide) rfl rfl tb_4_125 rfl  ?_
      refine J_icmp_ne (tgt := 32) dX9_sees_27 (by decide) (fun c_5 => ?_) (fun c_5 => ?_)
      · have h := h.1 c_5
        refine J_aload_n dX9_sees_32 rfl 0 rfl  ?_
        refine J_callV (h := 353) (ci := 7) (As := []) (rest := []) (n := 0) dX9_sees_33 (c_X9_sign_   _ _ h) (by decide) rfl tb_5_129 tb_5_126 tb_1_8 tb_5_128 sl_44 (by decide) rfl (by decide) (by decide) (Nat.le_of_ble_eq_true rfl) rfl (fun v_r_7 S_6 hq => ?_)
        obtain ⟨r_7, rfl, h⟩ := hq
        dsimp only [Option.toList, List.cons_append, List.nil_append]
        refine J_bipush (v := 59) dX9_sees_36 (by decide)  ?_
        refine J_icmp_ne (tgt := 47) dX9_sees_38 (by decide) (fun c_8 => ?_) (fun c_8 => ?_)
        · have h := h.1 c_8
          refine J_sub (lv' := [(0, .ref (g.1 + 353))]) [0] rfl ?_
          exact l_X9_sees_47   _    _  h
        · have h := h.2 c_8
          refine J_iload_n dX9_sees_41 rfl 1 rfl  ?_
          refine J_bipush (v := 12) dX9_sees_42 (by decide)  ?_
          refine J_icmp_ne (tgt := 49) dX9_sees_44 (by decide) (fun c_9 => ?_) (fun c_9 => ?_)
          · have h := h.1 c_9
            refine J_aload_n dX9_sees_49 rfl 0 rfl  ?_
            refine J_dup dX9_sees_50 rfl  ?_
            refine J_geti (ci := 7) dX9_sees_51 15 rfl giX9 (by decide) (by decide) rfl rfl tb_4_126 rfl  ?_
            refine J_iconst (v := 1) dX9_sees_54 (by decide)  ?_
            refine J_iadd dX9_sees_55  ?_
            refine J_puti (ci := 7) dX9_sees_56 15 rfl giX9 (by decide) (by decide) rfl rfl tyX9 tyX9_ok nmX9 rfl rfl rfl rfl tb_4_126 rfl  ?_
            refine J_nmS (fun S_10 eS_10 => ?_)
            have h := h S_10 eS_10
            refine J_goto (tgt := 7) dX9_sees_59 (by decide)  ?_
            exact ih _ _  h
          · have h := h.2 c_9
            refine J_sub (lv' := [(0, .ref (g.1 + 353))]) [0] rfl ?_
            exact l_X9_sees_47   _    _  h
      · have h := h.2 c_5
        refine J_iconst (v := 1) dX9_sees_30 (by decide)  ?_
        exact J_iret dX9_sees_31 rfl rfl ⟨_, rfl, h⟩
    · have h := h.2 c_3
      refine J_iconst (v := 0) dX9_sees_14 (by decide)  ?_
      exact J_iret dX9_sees_15 rfl rfl ⟨_, rfl, h⟩
def wp_X9_sees  (S : Sto) (Q : Int32 → Sto → Prop) : Prop := ∀ S_1 : Sto, S_1 = uA S 353 15 0 → (∃ n_7, q_X9_sees_7   Q n_7 0 S_1)
set_option maxRecDepth 100000 in
set_option maxHeartbeats 4000000 in
theorem c_X9_sees {g : Gv}   (S : Sto) (Q : Int32 → Sto → Prop) (h : wp_X9_sees  S Q) : CT g yX9_sees cX9_sees 2 (some .boolean) 5 [.ref (g.1 + 353)] S (Qi Q) := by
  unfold wp_X9_sees at h
  refine CT.of (by decide) (Nat.le_of_ble_eq_true rfl) ?_
  refine J_sub (lv' := [(0, .ref (g.1 + 353))]) [0] rfl ?_
  refine J_aload_n dX9_sees_0 rfl 0 rfl  ?_
  refine J_iconst (v := 0) dX9_sees_1 (by decide)  ?_
  refine J_puti (ci := 7) dX9_sees_2 15 rfl giX9 (by decide) (by decide) rfl rfl tyX9 tyX9_ok nmX9 rfl rfl rfl rfl tb_4_126 rfl  ?_
  refine J_nmS (fun S_1 eS_1 => ?_)
  have h := h S_1 eS_1
  refine J_iconst (v := 0) dX9_sees_5 (by decide)  ?_
  refine J_istore_n (lv' := [(0, .ref (g.1 + 353)), (1, .int 0)]) dX9_sees_6 rfl (by decide) [1, 0] rfl  ?_
  obtain ⟨n, h⟩ := h
  exact l_X9_sees_7   _   n _ _  h
def q_X9_adds_157 (p1 : Int32)  (Q : Int32 → Sto → Prop) (x5 : Int32) (S : Sto) : Prop := narrow .boolean (.int x5) = .int x5 ∧ Q x5 S
set_option maxRecDepth 100000 in
set_option maxHeartbeats 4000000 in
theorem l_X9_adds_157 {g : Gv} (p1 : Int32)  (Q : Int32 → Sto → Prop)   (x5 : Int32) (S : Sto)  (h : q_X9_adds_157 p1  Q x5 S) : RJ g cX9_adds RX9 (some .boolean) 7 3 157 [(0, .ref (g.1 + 353)), (1, .int p1), (5, .int x5)] [] S (Qi Q) := by
  unfold q_X9_adds_157 at h
  refine J_iload dX9_adds_157 2 rfl  ?_
  obtain ⟨hb, h⟩ := h
  exact J_iret dX9_adds_159 rfl hb ⟨_, rfl, h⟩
def q_X9_adds_148 (p1 : Int32)  (Q : Int32 → Sto → Prop) (x2 : Int32) (x5 : Int32) (t1 : Int32) (t3 : Int64) (t4 : Int32) (S : Sto) : Prop := wp_X9_modulo (t3 + (((t4 : Int32).toInt64) * ((x2 : Int32).toInt64))) S (fun r_2 S_1 => vp_in t1 (16) ∧ ∀ S_4 : Sto, S_4 = uA S_1 372 (t1 : Int32).toNatClampNeg r_2 → q_X9_adds_157 p1  Q x5 S_4)
set_option maxRecDepth 100000 in
set_option maxHeartbeats 4000000 in
theorem l_X9_adds_148 {g : Gv} (p1 : Int32)  (Q : Int32 → Sto → Prop)   (x2 : Int32) (x5 : Int32) (t1 : Int32) (t3 : Int64) (t4 : Int32) (S : Sto)  (h : q_X9_adds_148 p1  Q x2 x5 t1 t3 t4 S) : RJ g cX9_adds RX9 (some .boolean) 7 3 148 [(0, .ref (g.1 + 353)), (1, .int p1), (2, .int x2), (5, .int x5)] [.int t4, .long t3, .ref (g.1 + 353), .int t1, .ref (g.1 + 372)] S (Qi Q) := by
  unfold q_X9_adds_148 at h
  refine J_i2l dX9_adds_148  ?_
  refine J_iload_n dX9_adds_149 rfl 2 rfl  ?_
  refine J_i2l dX9_adds_150  ?_
  refine J_lmul dX9_adds_151  ?_
  refine J_ladd dX9_adds_152  ?_
  refine J_callV (h := 353) (ci := 7) (As := [.long (t3 + (((t4 : Int32).toInt64) * ((x2 : Int32).toInt64)))]) (rest := [.int t1, .ref (g.1 + 372)]) (n := 1) dX9_adds_153 (c_X9_modulo (t3 + (((t4 : Int32).toInt64) * ((x2 : Int32).toInt64)))  _ _ h) (by decide) rfl tb_5_37 tb_5_34 tb_1_8 tb_5_36 sl_30 (by decide) rfl (by decide) (by decide) (Nat.le_of_ble_eq_true rfl) rfl (fun v_r_2 S_1 hq => ?_)
  obtain ⟨r_2, rfl, h⟩ := hq
  dsimp only [Option.toList, List.cons_append, List.nil_append]
  obtain ⟨hi_3, h⟩ := h
  refine J_iast dX9_adds_156 (by decide) hi_3  ?_
  refine J_nmS (fun S_4 eS_4 => ?_)
  have h := h S_4 eS_4
  refine J_sub (lv' := [(0, .ref (g.1 + 353)), (1, .int p1), (5, .int x5)]) [0, 1, 3] rfl ?_
  exact l_X9_adds_157 p1  _   _ _  h
def q_X9_adds_54 (p1 : Int32)  (Q : Int32 → Sto → Prop) : Nat → Int32 → Int32 → Int32 → Int32 → Sto → Prop
  | 0, _, _, _, _, _ => False
  | n + 1, x2, x3, x4, x5, S => wp_X9_isLetter  S (fun r_2 S_1 => ((r_2 = 0 → ((x5 = 0 → q_X9_adds_157 p1  Q x5 S_1) ∧ (¬ x5 = 0 → vp_in x3 (16) ∧ ((p1 = 0 → q_X9_adds_148 p1  Q x2 x5 x3 ((S_1.1 372 (x3 : Int32).toNatClampNeg : Int32).toInt64) x4 S_1) ∧ (¬ p1 = 0 → q_X9_adds_148 p1  Q x2 x5 x3 ((S_1.1 372 (x3 : Int32).toNatClampNeg : Int32).toInt64) (-x4) S_1))))) ∧ (¬ r_2 = 0 → ∀ S_7 : Sto, S_7 = uA S_1 353 15 ((S_1.1 353 15) + 1) → vp_in (S_1.1 353 15) (100) ∧ ∀ x6_9 : Int32, x6_9 = 1 <<< (((S_7.1 360 (S_1.1 353 15 : Int32).toNatClampNeg) - 97) &&& 31) → ((x6_9 < (S_7.1 353 3) → wp_X9_sign x3 x6_9 S_7 (fun r_12 S_11 => ∀ x4_13 : Int32, x4_13 = x4 * r_12 → ∀ x3_14 : Int32, x3_14 = x3 ||| x6_9 → q_X9_adds_54 p1  Q n x2 x3_14 x4_13 x5 S_11)) ∧ (¬ x6_9 < (S_7.1 353 3) → q_X9_adds_54 p1  Q n x2 x3 x4 0 S_7)))))
set_option maxRecDepth 100000 in
set_option maxHeartbeats 4000000 in
theorem l_X9_adds_54 {g : Gv} (p1 : Int32)  (Q : Int32 → Sto → Prop)   (n : Nat) : ∀ (x2 : Int32) (x3 : Int32) (x4 : Int32) (x5 : Int32) (S : Sto)  (h : q_X9_adds_54 p1  Q n x2 x3 x4 x5 S), RJ g cX9_adds RX9 (some .boolean) 7 3 54 [(0, .ref (g.1 + 353)), (1, .int p1), (2, .int x2), (3, .int x3), (4, .int x4), (5, .int x5)] [] S (Qi Q) := by
  induction n with
  | zero => intro x2 x3 x4 x5 S  h; exact h.elim
  | succ n ih =>
    intro x2 x3 x4 x5 S  h
    unfold q_X9_adds_54 at h
    refine J_aload_n dX9_adds_54 rfl 0 rfl  ?_
    refine J_callV (h := 353) (ci := 7) (As := []) (rest := []) (n := 0) dX9_adds_55 (c_X9_isLetter   _ _ h) (by decide) rfl tb_5_143 tb_5_140 tb_1_8 tb_5_142 sl_47 (by decide) rfl (by decide) (by decide) (Nat.le_of_ble_eq_true rfl) rfl (fun v_r_2 S_1 hq => ?_)
    obtain ⟨r_2, rfl, h⟩ := hq
    dsimp only [Option.toList, List.cons_append, List.nil_append]
    refine J_if_eq (tgt := 118) dX9_adds_58 (by decide) (fun c_3 => ?_) (fun c_3 => ?_)
    · have h := h.1 c_3
      refine J_iload dX9_adds_118 5 rfl  ?_
      refine J_if_eq (tgt := 157) dX9_adds_120 (by decide) (fun c_4 => ?_) (fun c_4 => ?_)
      · have h := h.1 c_4
        refine J_sub (lv' := [(0, .ref (g.1 + 353)), (1, .int p1), (5, .int x5)]) [0, 1, 5] rfl ?_
        exact l_X9_adds_157 p1  _   _ _  h
      · have h := h.2 c_4
        refine J_aload_n dX9_adds_123 rfl 0 rfl  ?_
        refine J_getr (r := 372) (ci := 7) dX9_adds_124 30 rfl giX9 (by decide) (by decide) rfl rfl tb_4_141 (by decide) (by decide)  ?_
        refine J_iload_n dX9_adds_127 rfl 3 rfl  ?_
        refine J_aload_n dX9_adds_128 rfl 0 rfl  ?_
        refine J_aload_n dX9_adds_129 rfl 0 rfl  ?_
        refine J_getr (r := 372) (ci := 7) dX9_adds_130 30 rfl giX9 (by decide) (by decide) rfl rfl tb_4_141 (by decide) (by decide)  ?_
        refine J_iload_n dX9_adds_133 rfl 3 rfl  ?_
        obtain ⟨hi_5, h⟩ := h
        refine J_iald dX9_adds_134 (by decide) hi_5  ?_
        refine J_i2l dX9_adds_135  ?_
        refine J_iload_n dX9_adds_136 rfl 1 rfl  ?_
        refine J_if_eq (tgt := 146) dX9_adds_137 (by decide) (fun c_6 => ?_) (fun c_6 => ?_)
        · have h := h.1 c_6
          refine J_iload dX9_adds_146 4 rfl  ?_
          refine J_sub (lv' := [(0, .ref (g.1 + 353)), (1, .int p1), (2, .int x2), (5, .int x5)]) [0, 1, 2, 5] rfl ?_
          exact l_X9_adds_148 p1  _   _ _ _ _ _ _  h
        · have h := h.2 c_6
          refine J_iload dX9_adds_140 4 rfl  ?_
          refine J_ineg dX9_adds_142  ?_
          refine J_goto (tgt := 148) dX9_adds_143 (by decide)  ?_
          refine J_sub (lv' := [(0, .ref (g.1 + 353)), (1, .int p1), (2, .int x2), (5, .int x5)]) [0, 1, 2, 5] rfl ?_
          exact l_X9_adds_148 p1  _   _ _ _ _ _ _  h
    · have h := h.2 c_3
      refine J_iconst (v := 1) dX9_adds_61 (by decide)  ?_
      refine J_aload_n dX9_adds_62 rfl 0 rfl  ?_
      refine J_getr (r := 360) (ci := 7) dX9_adds_63 13 rfl giX9 (by decide) (by decide) rfl rfl tb_4_124 (by decide) (by decide)  ?_
      refine J_aload_n dX9_adds_66 rfl 0 rfl  ?_
      refine J_dup dX9_adds_67 rfl  ?_
      refine J_geti (ci := 7) dX9_adds_68 15 rfl giX9 (by decide) (by decide) rfl rfl tb_4_126 rfl  ?_
      refine J_dup_x1 dX9_adds_71 rfl rfl  ?_
      refine J_iconst (v := 1) dX9_adds_72 (by decide)  ?_
      refine J_iadd dX9_adds_73  ?_
      refine J_puti (ci := 7) dX9_adds_74 15 rfl giX9 (by decide) (by decide) rfl rfl tyX9 tyX9_ok nmX9 rfl rfl rfl rfl tb_4_126 rfl  ?_
      refine J_nmS (fun S_7 eS_7 => ?_)
      have h := h S_7 eS_7
      obtain ⟨hi_8, h⟩ := h
      refine J_iald dX9_adds_77 (by decide) hi_8  ?_
      refine J_bipush (v := 97) dX9_adds_78 (by decide)  ?_
      refine J_isub dX9_adds_80  ?_
      refine J_ishl dX9_adds_81  ?_
      refine J_topi (fun x6_9 ex6_9 => ?_)
      have h := h x6_9 ex6_9
      refine J_istore (lv' := [(0, .ref (g.1 + 353)), (1, .int p1), (2, .int x2), (3, .int x3), (4, .int x4), (5, .int x5), (6, .int x6_9)]) dX9_adds_82 (by decide) [1, 2, 3, 4, 5, 6, 0] rfl  ?_
      refine J_iload dX9_adds_84 6 rfl  ?_
      refine J_aload_n dX9_adds_86 rfl 0 rfl  ?_
      refine J_geti (ci := 7) dX9_adds_87 3 rfl giX9 (by decide) (by decide) rfl rfl tb_4_114 rfl  ?_
      refine J_icmp_lt (tgt := 99) dX9_adds_90 (by decide) (fun c_10 => ?_) (fun c_10 => ?_)
      · have h := h.1 c_10
        refine J_iload dX9_adds_99 4 rfl  ?_
        refine J_iload_n dX9_adds_101 rfl 3 rfl  ?_
        refine J_iload dX9_adds_102 6 rfl  ?_
        refine J_callS (As := [.int x3, .int x6_9]) (rest := [.int x4]) (n := 2) dX9_adds_104 (c_X9_sign x3 x6_9  _ _ h) tb_5_48 tb_5_46 tb_1_8 tb_5_47 (by decide) rfl (by decide) (by decide) (Nat.le_of_ble_eq_true rfl) rfl (fun v_r_12 S_11 hq => ?_)
        obtain ⟨r_12, rfl, h⟩ := hq
        dsimp only [Option.toList, List.cons_append, List.nil_append]
        refine J_imul dX9_adds_107  ?_
        refine J_topi (fun x4_13 ex4_13 => ?_)
        have h := h x4_13 ex4_13
        refine J_istore (lv' := [(0, .ref (g.1 + 353)), (1, .int p1), (2, .int x2), (3, .int x3), (4, .int x4_13), (5, .int x5), (6, .int x6_9)]) dX9_adds_108 (by decide) [1, 2, 3, 4, 0, 5, 6] rfl  ?_
        refine J_iload_n dX9_adds_110 rfl 3 rfl  ?_
        refine J_iload dX9_adds_111 6 rfl  ?_
        refine J_ior dX9_adds_113  ?_
        refine J_topi (fun x3_14 ex3_14 => ?_)
        have h := h x3_14 ex3_14
        refine J_istore_n (lv' := [(0, .ref (g.1 + 353)), (1, .int p1), (2, .int x2), (3, .int x3_14), (4, .int x4_13), (5, .int x5)]) dX9_adds_114 rfl (by decide) [1, 2, 3, 0, 4, 5] rfl  ?_
        refine J_goto (tgt := 54) dX9_adds_115 (by decide)  ?_
        exact ih _ _ _ _ _  h
      · have h := h.2 c_10
        refine J_iconst (v := 0) dX9_adds_93 (by decide)  ?_
        refine J_istore (lv' := [(0, .ref (g.1 + 353)), (1, .int p1), (2, .int x2), (3, .int x3), (4, .int x4), (5, .int 0)]) dX9_adds_94 (by decide) [1, 2, 3, 4, 5, 0] rfl  ?_
        refine J_goto (tgt := 54) dX9_adds_96 (by decide)  ?_
        exact ih _ _ _ _ _  h
def q_X9_adds_46 (p1 : Int32)  (Q : Int32 → Sto → Prop) (x2 : Int32) (S : Sto) : Prop := (∃ n_54, q_X9_adds_54 p1  Q n_54 x2 0 1 1 S)
set_option maxRecDepth 100000 in
set_option maxHeartbeats 4000000 in
theorem l_X9_adds_46 {g : Gv} (p1 : Int32)  (Q : Int32 → Sto → Prop)   (x2 : Int32) (S : Sto)  (h : q_X9_adds_46 p1  Q x2 S) : RJ g cX9_adds RX9 (some .boolean) 7 3 46 [(0, .ref (g.1 + 353)), (1, .int p1), (2, .int x2)] [] S (Qi Q) := by
  unfold q_X9_adds_46 at h
  refine J_iconst (v := 0) dX9_adds_46 (by decide)  ?_
  refine J_istore_n (lv' := [(0, .ref (g.1 + 353)), (1, .int p1), (2, .int x2), (3, .int 0)]) dX9_adds_47 rfl (by decide) [1, 2, 3, 0] rfl  ?_
  refine J_iconst (v := 1) dX9_adds_48 (by decide)  ?_
  refine J_istore (lv' := [(0, .ref (g.1 + 353)), (1, .int p1), (2, .int x2), (3, .int 0), (4, .int 1)]) dX9_adds_49 (by decide) [1, 2, 3, 4, 0] rfl  ?_
  refine J_iconst (v := 1) dX9_adds_51 (by decide)  ?_
  refine J_istore (lv' := [(0, .ref (g.1 + 353)), (1, .int p1), (2, .int x2), (3, .int 0), (4, .int 1), (5, .int 1)]) dX9_adds_52 (by decide) [1, 2, 3, 4, 5, 0] rfl  ?_
  obtain ⟨n, h⟩ := h
  exact l_X9_adds_54 p1  _   n _ _ _ _ _  h
def q_X9_adds_11 (p1 : Int32)  (Q : Int32 → Sto → Prop) : Nat → Int32 → Sto → Prop
  | 0, _, _ => False
  | n + 1, x2, S => wp_X9_isDigit  S (fun r_2 S_1 => ((r_2 = 0 → q_X9_adds_46 p1  Q x2 S_1) ∧ (¬ r_2 = 0 → ∀ S_4 : Sto, S_4 = uA S_1 353 15 ((S_1.1 353 15) + 1) → vp_in (S_1.1 353 15) (100) ∧ ∀ x2_6 : Int32, x2_6 = ((10 * x2) + (S_4.1 360 (S_1.1 353 15 : Int32).toNatClampNeg)) - 48 → q_X9_adds_11 p1  Q n x2_6 S_4)))
set_option maxRecDepth 100000 in
set_option maxHeartbeats 4000000 in
theorem l_X9_adds_11 {g : Gv} (p1 : Int32)  (Q : Int32 → Sto → Prop)   (n : Nat) : ∀ (x2 : Int32) (S : Sto)  (h : q_X9_adds_11 p1  Q n x2 S), RJ g cX9_adds RX9 (some .boolean) 7 3 11 [(0, .ref (g.1 + 353)), (1, .int p1), (2, .int x2)] [] S (Qi Q) := by
  induction n with
  | zero => intro x2 S  h; exact h.elim
  | succ n ih =>
    intro x2 S  h
    unfold q_X9_adds_11 at h
    refine J_aload_n dX9_adds_11 rfl 0 rfl  ?_
    refine J_callV (h := 353) (ci := 7) (As := []) (rest := []) (n := 0) dX9_adds_12 (c_X9_isDigit   _ _ h) (by decide) rfl tb_5_139 tb_5_136 tb_1_8 tb_5_138 sl_46 (by decide) rfl (by decide) (by decide) (Nat.le_of_ble_eq_true rfl) rfl (fun v_r_2 S_1 hq => ?_)
    obtain ⟨r_2, rfl, h⟩ := hq
    dsimp only [Option.toList, List.cons_append, List.nil_append]
    refine J_if_eq (tgt := 46) dX9_adds_15 (by decide) (fun c_3 => ?_) (fun c_3 => ?_)
    · have h := h.1 c_3
      exact l_X9_adds_46 p1  _   _ _  h
    · have h := h.2 c_3
      refine J_bipush (v := 10) dX9_adds_18 (by decide)  ?_
      refine J_iload_n dX9_adds_20 rfl 2 rfl  ?_
      refine J_imul dX9_adds_21  ?_
      refine J_aload_n dX9_adds_22 rfl 0 rfl  ?_
      refine J_getr (r := 360) (ci := 7) dX9_adds_23 13 rfl giX9 (by decide) (by decide) rfl rfl tb_4_124 (by decide) (by decide)  ?_
      refine J_aload_n dX9_adds_26 rfl 0 rfl  ?_
      refine J_dup dX9_adds_27 rfl  ?_
      refine J_geti (ci := 7) dX9_adds_28 15 rfl giX9 (by decide) (by decide) rfl rfl tb_4_126 rfl  ?_
      refine J_dup_x1 dX9_adds_31 rfl rfl  ?_
      refine J_iconst (v := 1) dX9_adds_32 (by decide)  ?_
      refine J_iadd dX9_adds_33  ?_
      refine J_puti (ci := 7) dX9_adds_34 15 rfl giX9 (by decide) (by decide) rfl rfl tyX9 tyX9_ok nmX9 rfl rfl rfl rfl tb_4_126 rfl  ?_
      refine J_nmS (fun S_4 eS_4 => ?_)
      have h := h S_4 eS_4
      obtain ⟨hi_5, h⟩ := h
      refine J_iald dX9_adds_37 (by decide) hi_5  ?_
      refine J_iadd dX9_adds_38  ?_
      refine J_bipush (v := 48) dX9_adds_39 (by decide)  ?_
      refine J_isub dX9_adds_41  ?_
      refine J_topi (fun x2_6 ex2_6 => ?_)
      have h := h x2_6 ex2_6
      refine J_istore_n (lv' := [(0, .ref (g.1 + 353)), (1, .int p1), (2, .int x2_6)]) dX9_adds_42 rfl (by decide) [1, 2, 0] rfl  ?_
      refine J_goto (tgt := 11) dX9_adds_43 (by decide)  ?_
      exact ih _ _  h
def wp_X9_adds (p1 : Int32) (S : Sto) (Q : Int32 → Sto → Prop) : Prop := wp_X9_isDigit  S (fun r_2 S_1 => ((r_2 = 0 → q_X9_adds_46 p1  Q 1 S_1) ∧ (¬ r_2 = 0 → (∃ n_11, q_X9_adds_11 p1  Q n_11 0 S_1))))
set_option maxRecDepth 100000 in
set_option maxHeartbeats 4000000 in
theorem c_X9_adds {g : Gv} (p1 : Int32)  (S : Sto) (Q : Int32 → Sto → Prop) (h : wp_X9_adds p1 S Q) : CT g yX9_adds cX9_adds 7 (some .boolean) 3 [.ref (g.1 + 353), .int p1] S (Qi Q) := by
  unfold wp_X9_adds at h
  refine CT.of (by decide) (Nat.le_of_ble_eq_true rfl) ?_
  refine J_sub (lv' := [(0, .ref (g.1 + 353)), (1, .int p1)]) [0, 1] rfl ?_
  refine J_iconst (v := 1) dX9_adds_0 (by decide)  ?_
  refine J_istore_n (lv' := [(0, .ref (g.1 + 353)), (1, .int p1), (2, .int 1)]) dX9_adds_1 rfl (by decide) [1, 2, 0] rfl  ?_
  refine J_aload_n dX9_adds_2 rfl 0 rfl  ?_
  refine J_callV (h := 353) (ci := 7) (As := []) (rest := []) (n := 0) dX9_adds_3 (c_X9_isDigit   _ _ h) (by decide) rfl tb_5_139 tb_5_136 tb_1_8 tb_5_138 sl_46 (by decide) rfl (by decide) (by decide) (Nat.le_of_ble_eq_true rfl) rfl (fun v_r_2 S_1 hq => ?_)
  obtain ⟨r_2, rfl, h⟩ := hq
  dsimp only [Option.toList, List.cons_append, List.nil_append]
  refine J_if_eq (tgt := 46) dX9_adds_6 (by decide) (fun c_3 => ?_) (fun c_3 => ?_)
  · have h := h.1 c_3
    exact l_X9_adds_46 p1  _   _ _  h
  · have h := h.2 c_3
    refine J_iconst (v := 0) dX9_adds_9 (by decide)  ?_
    refine J_istore_n (lv' := [(0, .ref (g.1 + 353)), (1, .int p1), (2, .int 0)]) dX9_adds_10 rfl (by decide) [1, 2, 0] rfl  ?_
    obtain ⟨n, h⟩ := h
    exact l_X9_adds_11 p1  _   n _ _  h
def q_X9_does_129   (Q : Int32 → Sto → Prop) (t0 : Int32) (S : Sto) : Prop := narrow .boolean (.int t0) = .int t0 ∧ Q t0 S
set_option maxRecDepth 100000 in
set_option maxHeartbeats 4000000 in
theorem l_X9_does_129 {g : Gv}   (Q : Int32 → Sto → Prop)   (t0 : Int32) (S : Sto)  (h : q_X9_does_129   Q t0 S) : RJ g cX9_does RX9 (some .boolean) 6 4 129 [(0, .ref (g.1 + 353))] [.int t0] S (Qi Q) := by
  unfold q_X9_does_129 at h
  obtain ⟨hb, h⟩ := h
  exact J_iret dX9_does_129 rfl hb ⟨_, rfl, h⟩
def q_X9_does_121   (Q : Int32 → Sto → Prop) (t0 : Int32) (S : Sto) : Prop := ((t0 < 0 → q_X9_does_129   Q 0 S) ∧ (¬ t0 < 0 → q_X9_does_129   Q 1 S))
set_option maxRecDepth 100000 in
set_option maxHeartbeats 4000000 in
theorem l_X9_does_121 {g : Gv}   (Q : Int32 → Sto → Prop)   (t0 : Int32) (S : Sto)  (h : q_X9_does_121   Q t0 S) : RJ g cX9_does RX9 (some .boolean) 6 4 121 [(0, .ref (g.1 + 353))] [.int t0] S (Qi Q) := by
  unfold q_X9_does_121 at h
  refine J_if_lt (tgt := 128) dX9_does_121 (by decide) (fun c_1 => ?_) (fun c_1 => ?_)
  · have h := h.1 c_1
    refine J_iconst (v := 0) dX9_does_128 (by decide)  ?_
    exact l_X9_does_129   _   _ _  h
  · have h := h.2 c_1
    refine J_iconst (v := 1) dX9_does_124 (by decide)  ?_
    refine J_goto (tgt := 129) dX9_does_125 (by decide)  ?_
    exact l_X9_does_129   _   _ _  h
def q_X9_does_54   (Q : Int32 → Sto → Prop) (x1 : Int32) (S : Sto) : Prop := ∀ S_1 : Sto, S_1 = uA S 353 15 ((S.1 353 15) + 1) → vp_in (S.1 353 15) (100) ∧ ∀ x2_3 : Int32, x2_3 = (S_1.1 360 (S.1 353 15 : Int32).toNatClampNeg) - 48 → ((¬ x1 = 103 → ((¬ x1 = 110 → ((¬ x1 = 112 → wp_X9_order x2_3 S_1 (fun r_8 S_7 => q_X9_does_121   Q r_8 S_7)) ∧ (x1 = 112 → wp_X9_prime x2_3 S_1 (fun r_10 S_9 => q_X9_does_121   Q r_10 S_9)))) ∧ (x1 = 110 → wp_X9_letters x2_3 S_1 (fun r_12 S_11 => q_X9_does_121   Q r_12 S_11)))) ∧ (x1 = 103 → wp_X9_generate x2_3 S_1 (fun r_14 S_13 => q_X9_does_121   Q r_14 S_13)))
set_option maxRecDepth 100000 in
set_option maxHeartbeats 4000000 in
theorem l_X9_does_54 {g : Gv}   (Q : Int32 → Sto → Prop)   (x1 : Int32) (S : Sto)  (h : q_X9_does_54   Q x1 S) : RJ g cX9_does RX9 (some .boolean) 6 4 54 [(0, .ref (g.1 + 353)), (1, .int x1)] [] S (Qi Q) := by
  unfold q_X9_does_54 at h
  refine J_aload_n dX9_does_54 rfl 0 rfl  ?_
  refine J_getr (r := 360) (ci := 7) dX9_does_55 13 rfl giX9 (by decide) (by decide) rfl rfl tb_4_124 (by decide) (by decide)  ?_
  refine J_aload_n dX9_does_58 rfl 0 rfl  ?_
  refine J_dup dX9_does_59 rfl  ?_
  refine J_geti (ci := 7) dX9_does_60 15 rfl giX9 (by decide) (by decide) rfl rfl tb_4_126 rfl  ?_
  refine J_dup_x1 dX9_does_63 rfl rfl  ?_
  refine J_iconst (v := 1) dX9_does_64 (by decide)  ?_
  refine J_iadd dX9_does_65  ?_
  refine J_puti (ci := 7) dX9_does_66 15 rfl giX9 (by decide) (by decide) rfl rfl tyX9 tyX9_ok nmX9 rfl rfl rfl rfl tb_4_126 rfl  ?_
  refine J_nmS (fun S_1 eS_1 => ?_)
  have h := h S_1 eS_1
  obtain ⟨hi_2, h⟩ := h
  refine J_iald dX9_does_69 (by decide) hi_2  ?_
  refine J_bipush (v := 48) dX9_does_70 (by decide)  ?_
  refine J_isub dX9_does_72  ?_
  refine J_topi (fun x2_3 ex2_3 => ?_)
  have h := h x2_3 ex2_3
  refine J_istore_n (lv' := [(0, .ref (g.1 + 353)), (1, .int x1), (2, .int x2_3)]) dX9_does_73 rfl (by decide) [1, 2, 0] rfl  ?_
  refine J_iload_n dX9_does_74 rfl 1 rfl  ?_
  refine J_bipush (v := 103) dX9_does_75 (by decide)  ?_
  refine J_icmp_ne (tgt := 88) dX9_does_77 (by decide) (fun c_4 => ?_) (fun c_4 => ?_)
  · have h := h.1 c_4
    refine J_iload_n dX9_does_88 rfl 1 rfl  ?_
    refine J_bipush (v := 110) dX9_does_89 (by decide)  ?_
    refine J_icmp_ne (tgt := 102) dX9_does_91 (by decide) (fun c_5 => ?_) (fun c_5 => ?_)
    · have h := h.1 c_5
      refine J_iload_n dX9_does_102 rfl 1 rfl  ?_
      refine J_bipush (v := 112) dX9_does_103 (by decide)  ?_
      refine J_icmp_ne (tgt := 116) dX9_does_105 (by decide) (fun c_6 => ?_) (fun c_6 => ?_)
      · have h := h.1 c_6
        refine J_aload_n dX9_does_116 rfl 0 rfl  ?_
        refine J_iload_n dX9_does_117 rfl 2 rfl  ?_
        refine J_callV (h := 353) (ci := 7) (As := [.int x2_3]) (rest := []) (n := 1) dX9_does_118 (c_X9_order x2_3  _ _ h) (by decide) rfl tb_5_21 tb_5_157 tb_1_8 tb_5_19 tb_5_20 (by decide) rfl (by decide) (by decide) (Nat.le_of_ble_eq_true rfl) rfl (fun v_r_8 S_7 hq => ?_)
        obtain ⟨r_8, rfl, h⟩ := hq
        dsimp only [Option.toList, List.cons_append, List.nil_append]
        refine J_sub (lv' := [(0, .ref (g.1 + 353))]) [0] rfl ?_
        exact l_X9_does_121   _   _ _  h
      · have h := h.2 c_6
        refine J_aload_n dX9_does_108 rfl 0 rfl  ?_
        refine J_iload_n dX9_does_109 rfl 2 rfl  ?_
        refine J_callV (h := 353) (ci := 7) (As := [.int x2_3]) (rest := []) (n := 1) dX9_does_110 (c_X9_prime x2_3  _ _ h) (by decide) rfl tb_5_17 tb_5_156 tb_1_8 tb_5_15 tb_5_16 (by decide) rfl (by decide) (by decide) (Nat.le_of_ble_eq_true rfl) rfl (fun v_r_10 S_9 hq => ?_)
        obtain ⟨r_10, rfl, h⟩ := hq
        dsimp only [Option.toList, List.cons_append, List.nil_append]
        refine J_goto (tgt := 121) dX9_does_113 (by decide)  ?_
        refine J_sub (lv' := [(0, .ref (g.1 + 353))]) [0] rfl ?_
        exact l_X9_does_121   _   _ _  h
    · have h := h.2 c_5
      refine J_aload_n dX9_does_94 rfl 0 rfl  ?_
      refine J_iload_n dX9_does_95 rfl 2 rfl  ?_
      refine J_callV (h := 353) (ci := 7) (As := [.int x2_3]) (rest := []) (n := 1) dX9_does_96 (c_X9_letters x2_3  _ _ h) (by decide) rfl tb_5_4 tb_5_155 tb_1_8 tb_5_2 tb_5_3 (by decide) rfl (by decide) (by decide) (Nat.le_of_ble_eq_true rfl) rfl (fun v_r_12 S_11 hq => ?_)
      obtain ⟨r_12, rfl, h⟩ := hq
      dsimp only [Option.toList, List.cons_append, List.nil_append]
      refine J_goto (tgt := 121) dX9_does_99 (by decide)  ?_
      refine J_sub (lv' := [(0, .ref (g.1 + 353))]) [0] rfl ?_
      exact l_X9_does_121   _   _ _  h
  · have h := h.2 c_4
    refine J_aload_n dX9_does_80 rfl 0 rfl  ?_
    refine J_iload_n dX9_does_81 rfl 2 rfl  ?_
    refine J_callV (h := 353) (ci := 7) (As := [.int x2_3]) (rest := []) (n := 1) dX9_does_82 (c_X9_generate x2_3  _ _ h) (by decide) rfl tb_5_104 tb_5_154 tb_1_8 tb_5_102 tb_5_103 (by decide) rfl (by decide) (by decide) (Nat.le_of_ble_eq_true rfl) rfl (fun v_r_14 S_13 hq => ?_)
    obtain ⟨r_14, rfl, h⟩ := hq
    dsimp only [Option.toList, List.cons_append, List.nil_append]
    refine J_goto (tgt := 121) dX9_does_85 (by decide)  ?_
    refine J_sub (lv' := [(0, .ref (g.1 + 353))]) [0] rfl ?_
    exact l_X9_does_121   _   _ _  h
def q_X9_does_311   (Q : Int32 → Sto → Prop) (x2 : Int32) (S : Sto) : Prop := narrow .boolean (.int x2) = .int x2 ∧ Q x2 S
set_option maxRecDepth 100000 in
set_option maxHeartbeats 4000000 in
theorem l_X9_does_311 {g : Gv}   (Q : Int32 → Sto → Prop)   (x2 : Int32) (S : Sto)  (h : q_X9_does_311   Q x2 S) : RJ g cX9_does RX9 (some .boolean) 6 4 311 [(0, .ref (g.1 + 353)), (2, .int x2)] [] S (Qi Q) := by
  unfold q_X9_does_311 at h
  refine J_iload_n dX9_does_311 rfl 1 rfl  ?_
  obtain ⟨hb, h⟩ := h
  exact J_iret dX9_does_312 rfl hb ⟨_, rfl, h⟩
def q_X9_does_272   (Q : Int32 → Sto → Prop) : Nat → Int32 → Int32 → Int32 → Sto → Prop
  | 0, _, _, _, _ => False
  | n + 1, x1, x2, x5, S => ((16 ≤ x5 → q_X9_does_311   Q x2 S) ∧ (¬ 16 ≤ x5 → ((x2 = 0 → q_X9_does_311   Q x2 S) ∧ (¬ x2 = 0 → vp_in x5 (16) ∧ vp_in ((16 * (x1 - 48)) + x5) (96) ∧ ∀ S_5 : Sto, S_5 = uA S 354 ((16 * (x1 - 48)) + x5 : Int32).toNatClampNeg (S.1 372 (x5 : Int32).toNatClampNeg) → ∀ x5_6 : Int32, x5_6 = x5 + 1 → q_X9_does_272   Q n x1 x2 x5_6 S_5))))
set_option maxRecDepth 100000 in
set_option maxHeartbeats 4000000 in
theorem l_X9_does_272 {g : Gv}   (Q : Int32 → Sto → Prop)   (n : Nat) : ∀ (x1 : Int32) (x2 : Int32) (x5 : Int32) (S : Sto)  (h : q_X9_does_272   Q n x1 x2 x5 S), RJ g cX9_does RX9 (some .boolean) 6 4 272 [(0, .ref (g.1 + 353)), (1, .int x1), (2, .int x2), (5, .int x5)] [] S (Qi Q) := by
  induction n with
  | zero => intro x1 x2 x5 S  h; exact h.elim
  | succ n ih =>
    intro x1 x2 x5 S  h
    unfold q_X9_does_272 at h
    refine J_iload dX9_does_272 3 rfl  ?_
    refine J_bipush (v := 16) dX9_does_274 (by decide)  ?_
    refine J_icmp_ge (tgt := 311) dX9_does_276 (by decide) (fun c_1 => ?_) (fun c_1 => ?_)
    · have h := h.1 c_1
      refine J_sub (lv' := [(0, .ref (g.1 + 353)), (2, .int x2)]) [0, 2] rfl ?_
      exact l_X9_does_311   _   _ _  h
    · have h := h.2 c_1
      refine J_iload_n dX9_does_279 rfl 2 rfl  ?_
      refine J_if_eq (tgt := 311) dX9_does_280 (by decide) (fun c_2 => ?_) (fun c_2 => ?_)
      · have h := h.1 c_2
        refine J_sub (lv' := [(0, .ref (g.1 + 353)), (2, .int x2)]) [0, 2] rfl ?_
        exact l_X9_does_311   _   _ _  h
      · have h := h.2 c_2
        refine J_aload_n dX9_does_283 rfl 0 rfl  ?_
        refine J_getr (r := 354) (ci := 7) dX9_does_284 4 rfl giX9 (by decide) (by decide) rfl rfl tb_4_115 (by decide) (by decide)  ?_
        refine J_bipush (v := 16) dX9_does_287 (by decide)  ?_
        refine J_iload_n dX9_does_289 rfl 1 rfl  ?_
        refine J_bipush (v := 48) dX9_does_290 (by decide)  ?_
        refine J_isub dX9_does_292  ?_
        refine J_imul dX9_does_293  ?_
        refine J_iload dX9_does_294 3 rfl  ?_
        refine J_iadd dX9_does_296  ?_
        refine J_aload_n dX9_does_297 rfl 0 rfl  ?_
        refine J_getr (r := 372) (ci := 7) dX9_does_298 30 rfl giX9 (by decide) (by decide) rfl rfl tb_4_141 (by decide) (by decide)  ?_
        refine J_iload dX9_does_301 3 rfl  ?_
        obtain ⟨hi_3, h⟩ := h
        refine J_iald dX9_does_303 (by decide) hi_3  ?_
        obtain ⟨hi_4, h⟩ := h
        refine J_iast dX9_does_304 (by decide) hi_4  ?_
        refine J_nmS (fun S_5 eS_5 => ?_)
        have h := h S_5 eS_5
        obtain ⟨x5_6, ex5_6⟩ : ∃ y : Int32, y = x5 + 1 := ⟨_, rfl⟩
        have h := h x5_6 ex5_6
        refine J_iinc (v := x5_6) (lv' := [(0, .ref (g.1 + 353)), (1, .int x1), (2, .int x2), (5, .int x5_6)]) dX9_does_305 (q := 3) rfl (by rw [ex5_6]; rfl) (by decide) [1, 2, 3, 0] rfl  ?_
        refine J_goto (tgt := 272) dX9_does_308 (by decide)  ?_
        exact ih _ _ _ _  h
def q_X9_does_254  (R196 : Int32 → Int32 → Int32 → Int32 → Sto → Prop) (Q : Int32 → Sto → Prop) (x1 : Int32) (x2 : Int32) (x3 : Int32) (t0 : Int32) (S : Sto) : Prop := ∀ S_1 : Sto, S_1 = uA S 353 15 ((S.1 353 15) + 1) → R196 x1 x2 x3 t0 S_1
set_option maxRecDepth 100000 in
set_option maxHeartbeats 4000000 in
theorem l_X9_does_254 {g : Gv}  (R196 : Int32 → Int32 → Int32 → Int32 → Sto → Prop) (Q : Int32 → Sto → Prop) (hR196 : ∀ (y1 : Int32) (y2 : Int32) (y3 : Int32) (y4 : Int32) (S : Sto), R196 y1 y2 y3 y4 S → RJ g cX9_does RX9 (some .boolean) 6 4 196 [(0, .ref (g.1 + 353)), (1, .int y1), (2, .int y2), (3, .int y3), (4, .int y4)] [] S (Qi Q))  (x1 : Int32) (x2 : Int32) (x3 : Int32) (t0 : Int32) (S : Sto)  (h : q_X9_does_254  R196 Q x1 x2 x3 t0 S) : RJ g cX9_does RX9 (some .boolean) 6 4 254 [(0, .ref (g.1 + 353)), (1, .int x1), (2, .int x2), (3, .int x3)] [.int t0] S (Qi Q) := by
  unfold q_X9_does_254 at h
  refine J_istore (lv' := [(0, .ref (g.1 + 353)), (1, .int x1), (2, .int x2), (3, .int x3), (4, .int t0)]) dX9_does_254 (by decide) [1, 2, 3, 4, 0] rfl  ?_
  refine J_aload_n dX9_does_256 rfl 0 rfl  ?_
  refine J_dup dX9_does_257 rfl  ?_
  refine J_geti (ci := 7) dX9_does_258 15 rfl giX9 (by decide) (by decide) rfl rfl tb_4_126 rfl  ?_
  refine J_iconst (v := 1) dX9_does_261 (by decide)  ?_
  refine J_iadd dX9_does_262  ?_
  refine J_puti (ci := 7) dX9_does_263 15 rfl giX9 (by decide) (by decide) rfl rfl tyX9 tyX9_ok nmX9 rfl rfl rfl rfl tb_4_126 rfl  ?_
  refine J_nmS (fun S_1 eS_1 => ?_)
  have h := h S_1 eS_1
  refine J_goto (tgt := 196) dX9_does_266 (by decide)  ?_
  exact hR196 _ _ _ _ _  h
def q_X9_does_232  (R196 : Int32 → Int32 → Int32 → Int32 → Sto → Prop) (Q : Int32 → Sto → Prop) (x1 : Int32) (x2 : Int32) (x4 : Int32) (t0 : Int32) (S : Sto) : Prop := ((¬ t0 = 0 → wp_X9_sign_  S (fun r_3 S_2 => ((¬ r_3 = 45 → q_X9_does_254  R196 Q x1 x2 t0 0 S_2) ∧ (r_3 = 45 → q_X9_does_254  R196 Q x1 x2 t0 1 S_2)))) ∧ (t0 = 0 → R196 x1 x2 t0 x4 S))
set_option maxRecDepth 100000 in
set_option maxHeartbeats 4000000 in
theorem l_X9_does_232 {g : Gv}  (R196 : Int32 → Int32 → Int32 → Int32 → Sto → Prop) (Q : Int32 → Sto → Prop) (hR196 : ∀ (y1 : Int32) (y2 : Int32) (y3 : Int32) (y4 : Int32) (S : Sto), R196 y1 y2 y3 y4 S → RJ g cX9_does RX9 (some .boolean) 6 4 196 [(0, .ref (g.1 + 353)), (1, .int y1), (2, .int y2), (3, .int y3), (4, .int y4)] [] S (Qi Q))  (x1 : Int32) (x2 : Int32) (x4 : Int32) (t0 : Int32) (S : Sto)  (h : q_X9_does_232  R196 Q x1 x2 x4 t0 S) : RJ g cX9_does RX9 (some .boolean) 6 4 232 [(0, .ref (g.1 + 353)), (1, .int x1), (2, .int x2), (4, .int x4)] [.int t0] S (Qi Q) := by
  unfold q_X9_does_232 at h
  refine J_istore_n (lv' := [(0, .ref (g.1 + 353)), (1, .int x1), (2, .int x2), (3, .int t0), (4, .int x4)]) dX9_does_232 rfl (by decide) [1, 2, 3, 0, 4] rfl  ?_
  refine J_iload_n dX9_does_233 rfl 3 rfl  ?_
  refine J_if_ne (tgt := 240) dX9_does_234 (by decide) (fun c_1 => ?_) (fun c_1 => ?_)
  · have h := h.1 c_1
    refine J_aload_n dX9_does_240 rfl 0 rfl  ?_
    refine J_callV (h := 353) (ci := 7) (As := []) (rest := []) (n := 0) dX9_does_241 (c_X9_sign_   _ _ h) (by decide) rfl tb_5_129 tb_5_126 tb_1_8 tb_5_128 sl_44 (by decide) rfl (by decide) (by decide) (Nat.le_of_ble_eq_true rfl) rfl (fun v_r_3 S_2 hq => ?_)
    obtain ⟨r_3, rfl, h⟩ := hq
    dsimp only [Option.toList, List.cons_append, List.nil_append]
    refine J_bipush (v := 45) dX9_does_244 (by decide)  ?_
    refine J_icmp_ne (tgt := 253) dX9_does_246 (by decide) (fun c_4 => ?_) (fun c_4 => ?_)
    · have h := h.1 c_4
      refine J_iconst (v := 0) dX9_does_253 (by decide)  ?_
      refine J_sub (lv' := [(0, .ref (g.1 + 353)), (1, .int x1), (2, .int x2), (3, .int t0)]) [0, 1, 2, 3] rfl ?_
      exact l_X9_does_254  _ _ hR196  _ _ _ _ _  h
    · have h := h.2 c_4
      refine J_iconst (v := 1) dX9_does_249 (by decide)  ?_
      refine J_goto (tgt := 254) dX9_does_250 (by decide)  ?_
      refine J_sub (lv' := [(0, .ref (g.1 + 353)), (1, .int x1), (2, .int x2), (3, .int t0)]) [0, 1, 2, 3] rfl ?_
      exact l_X9_does_254  _ _ hR196  _ _ _ _ _  h
  · have h := h.2 c_1
    refine J_goto (tgt := 196) dX9_does_237 (by decide)  ?_
    exact hR196 _ _ _ _ _  h
def q_X9_does_227  (R196 : Int32 → Int32 → Int32 → Int32 → Sto → Prop) (Q : Int32 → Sto → Prop) (x1 : Int32) (x2 : Int32) (x4 : Int32) (S : Sto) : Prop := q_X9_does_232  R196 Q x1 x2 x4 1 S
set_option maxRecDepth 100000 in
set_option maxHeartbeats 4000000 in
theorem l_X9_does_227 {g : Gv}  (R196 : Int32 → Int32 → Int32 → Int32 → Sto → Prop) (Q : Int32 → Sto → Prop) (hR196 : ∀ (y1 : Int32) (y2 : Int32) (y3 : Int32) (y4 : Int32) (S : Sto), R196 y1 y2 y3 y4 S → RJ g cX9_does RX9 (some .boolean) 6 4 196 [(0, .ref (g.1 + 353)), (1, .int y1), (2, .int y2), (3, .int y3), (4, .int y4)] [] S (Qi Q))  (x1 : Int32) (x2 : Int32) (x4 : Int32) (S : Sto)  (h : q_X9_does_227  R196 Q x1 x2 x4 S) : RJ g cX9_does RX9 (some .boolean) 6 4 227 [(0, .ref (g.1 + 353)), (1, .int x1), (2, .int x2), (4, .int x4)] [] S (Qi Q) := by
  unfold q_X9_does_227 at h
  refine J_iconst (v := 1) dX9_does_227 (by decide)  ?_
  refine J_goto (tgt := 232) dX9_does_228 (by decide)  ?_
  exact l_X9_does_232  _ _ hR196  _ _ _ _ _  h
def q_X9_does_196   (Q : Int32 → Sto → Prop) : Nat → Int32 → Int32 → Int32 → Int32 → Sto → Prop
  | 0, _, _, _, _, _ => False
  | n + 1, x1, x2, x3, x4, S => ((x3 = 0 → (∃ n_272, q_X9_does_272   Q n_272 x1 x2 0 S)) ∧ (¬ x3 = 0 → wp_X9_adds x4 S (fun r_3 S_2 => ∀ x2_4 : Int32, x2_4 = x2 &&& r_3 → wp_X9_sign_  S_2 (fun r_6 S_5 => ((r_6 = 43 → q_X9_does_227  (fun y1 y2 y3 y4 S => q_X9_does_196   Q n y1 y2 y3 y4 S) Q x1 x2_4 x4 S_5) ∧ (¬ r_6 = 43 → wp_X9_sign_  S_5 (fun r_9 S_8 => ((¬ r_9 = 45 → q_X9_does_232  (fun y1 y2 y3 y4 S => q_X9_does_196   Q n y1 y2 y3 y4 S) Q x1 x2_4 x4 0 S_8) ∧ (r_9 = 45 → q_X9_does_227  (fun y1 y2 y3 y4 S => q_X9_does_196   Q n y1 y2 y3 y4 S) Q x1 x2_4 x4 S_8)))))))))
set_option maxRecDepth 100000 in
set_option maxHeartbeats 4000000 in
theorem l_X9_does_196 {g : Gv}   (Q : Int32 → Sto → Prop)   (n : Nat) : ∀ (x1 : Int32) (x2 : Int32) (x3 : Int32) (x4 : Int32) (S : Sto)  (h : q_X9_does_196   Q n x1 x2 x3 x4 S), RJ g cX9_does RX9 (some .boolean) 6 4 196 [(0, .ref (g.1 + 353)), (1, .int x1), (2, .int x2), (3, .int x3), (4, .int x4)] [] S (Qi Q) := by
  induction n with
  | zero => intro x1 x2 x3 x4 S  h; exact h.elim
  | succ n ih =>
    intro x1 x2 x3 x4 S  h
    unfold q_X9_does_196 at h
    refine J_iload_n dX9_does_196 rfl 3 rfl  ?_
    refine J_if_eq (tgt := 269) dX9_does_197 (by decide) (fun c_1 => ?_) (fun c_1 => ?_)
    · have h := h.1 c_1
      refine J_iconst (v := 0) dX9_does_269 (by decide)  ?_
      refine J_istore (lv' := [(0, .ref (g.1 + 353)), (1, .int x1), (2, .int x2), (5, .int 0)]) dX9_does_270 (by decide) [1, 2, 3, 0] rfl  ?_
      obtain ⟨n, h⟩ := h
      exact l_X9_does_272   _   n _ _ _ _  h
    · have h := h.2 c_1
      refine J_iload_n dX9_does_200 rfl 2 rfl  ?_
      refine J_aload_n dX9_does_201 rfl 0 rfl  ?_
      refine J_iload dX9_does_202 4 rfl  ?_
      refine J_callV (h := 353) (ci := 7) (As := [.int x4]) (rest := [.int x2]) (n := 1) dX9_does_204 (c_X9_adds x4  _ _ h) (by decide) rfl tb_5_161 tb_5_158 tb_1_8 tb_5_160 sl_50 (by decide) rfl (by decide) (by decide) (Nat.le_of_ble_eq_true rfl) rfl (fun v_r_3 S_2 hq => ?_)
      obtain ⟨r_3, rfl, h⟩ := hq
      dsimp only [Option.toList, List.cons_append, List.nil_append]
      refine J_iand dX9_does_207  ?_
      refine J_topi (fun x2_4 ex2_4 => ?_)
      have h := h x2_4 ex2_4
      refine J_istore_n (lv' := [(0, .ref (g.1 + 353)), (1, .int x1), (2, .int x2_4), (4, .int x4)]) dX9_does_208 rfl (by decide) [1, 2, 0, 4] rfl  ?_
      refine J_aload_n dX9_does_209 rfl 0 rfl  ?_
      refine J_callV (h := 353) (ci := 7) (As := []) (rest := []) (n := 0) dX9_does_210 (c_X9_sign_   _ _ h) (by decide) rfl tb_5_129 tb_5_126 tb_1_8 tb_5_128 sl_44 (by decide) rfl (by decide) (by decide) (Nat.le_of_ble_eq_true rfl) rfl (fun v_r_6 S_5 hq => ?_)
      obtain ⟨r_6, rfl, h⟩ := hq
      dsimp only [Option.toList, List.cons_append, List.nil_append]
      refine J_bipush (v := 43) dX9_does_213 (by decide)  ?_
      refine J_icmp_eq (tgt := 227) dX9_does_215 (by decide) (fun c_7 => ?_) (fun c_7 => ?_)
      · have h := h.1 c_7
        exact l_X9_does_227  _ _ (fun y1 y2 y3 y4 S  h => ih y1 y2 y3 y4 S  h)  _ _ _ _  h
      · have h := h.2 c_7
        refine J_aload_n dX9_does_218 rfl 0 rfl  ?_
        refine J_callV (h := 353) (ci := 7) (As := []) (rest := []) (n := 0) dX9_does_219 (c_X9_sign_   _ _ h) (by decide) rfl tb_5_129 tb_5_126 tb_1_8 tb_5_128 sl_44 (by decide) rfl (by decide) (by decide) (Nat.le_of_ble_eq_true rfl) rfl (fun v_r_9 S_8 hq => ?_)
        obtain ⟨r_9, rfl, h⟩ := hq
        dsimp only [Option.toList, List.cons_append, List.nil_append]
        refine J_bipush (v := 45) dX9_does_222 (by decide)  ?_
        refine J_icmp_ne (tgt := 231) dX9_does_224 (by decide) (fun c_10 => ?_) (fun c_10 => ?_)
        · have h := h.1 c_10
          refine J_iconst (v := 0) dX9_does_231 (by decide)  ?_
          exact l_X9_does_232  _ _ (fun y1 y2 y3 y4 S  h => ih y1 y2 y3 y4 S  h)  _ _ _ _ _  h
        · have h := h.2 c_10
          exact l_X9_does_227  _ _ (fun y1 y2 y3 y4 S  h => ih y1 y2 y3 y4 S  h)  _ _ _ _  h
def q_X9_does_132   (Q : Int32 → Sto → Prop) : Nat → Int32 → Int32 → Sto → Prop
  | 0, _, _, _ => False
  | n + 1, x1, x2, S => ((16 ≤ x2 → wp_X9_isElement (x1 - 48) S (fun r_3 S_2 => ∀ S_4 : Sto, S_4 = uA S_2 353 15 ((S_2.1 353 15) + 1) → wp_X9_sign_  S_4 (fun r_6 S_5 => ((¬ r_6 = 45 → (∃ n_196, q_X9_does_196   Q n_196 x1 r_3 1 0 S_5)) ∧ (r_6 = 45 → ∀ S_8 : Sto, S_8 = uA S_5 353 15 ((S_5.1 353 15) + 1) → (∃ n_196, q_X9_does_196   Q n_196 x1 r_3 1 1 S_8)))))) ∧ (¬ 16 ≤ x2 → vp_in x2 (16) ∧ ∀ S_10 : Sto, S_10 = uA S 372 (x2 : Int32).toNatClampNeg 0 → ∀ x2_11 : Int32, x2_11 = x2 + 1 → q_X9_does_132   Q n x1 x2_11 S_10))
set_option maxRecDepth 100000 in
set_option maxHeartbeats 4000000 in
theorem l_X9_does_132 {g : Gv}   (Q : Int32 → Sto → Prop)   (n : Nat) : ∀ (x1 : Int32) (x2 : Int32) (S : Sto)  (h : q_X9_does_132   Q n x1 x2 S), RJ g cX9_does RX9 (some .boolean) 6 4 132 [(0, .ref (g.1 + 353)), (1, .int x1), (2, .int x2)] [] S (Qi Q) := by
  induction n with
  | zero => intro x1 x2 S  h; exact h.elim
  | succ n ih =>
    intro x1 x2 S  h
    unfold q_X9_does_132 at h
    refine J_iload_n dX9_does_132 rfl 2 rfl  ?_
    refine J_bipush (v := 16) dX9_does_133 (by decide)  ?_
    refine J_icmp_ge (tgt := 151) dX9_does_135 (by decide) (fun c_1 => ?_) (fun c_1 => ?_)
    · have h := h.1 c_1
      refine J_iload_n dX9_does_151 rfl 1 rfl  ?_
      refine J_bipush (v := 48) dX9_does_152 (by decide)  ?_
      refine J_isub dX9_does_154  ?_
      refine J_callS (As := [.int (x1 - 48)]) (rest := []) (n := 1) dX9_does_155 (c_X9_isElement (x1 - 48)  _ _ h) tb_5_28 tb_5_26 tb_1_8 tb_5_27 (by decide) rfl (by decide) (by decide) (Nat.le_of_ble_eq_true rfl) rfl (fun v_r_3 S_2 hq => ?_)
      obtain ⟨r_3, rfl, h⟩ := hq
      dsimp only [Option.toList, List.cons_append, List.nil_append]
      refine J_istore_n (lv' := [(0, .ref (g.1 + 353)), (1, .int x1), (2, .int r_3)]) dX9_does_158 rfl (by decide) [1, 2, 0] rfl  ?_
      refine J_iconst (v := 1) dX9_does_159 (by decide)  ?_
      refine J_istore_n (lv' := [(0, .ref (g.1 + 353)), (1, .int x1), (2, .int r_3), (3, .int 1)]) dX9_does_160 rfl (by decide) [1, 2, 3, 0] rfl  ?_
      refine J_iconst (v := 0) dX9_does_161 (by decide)  ?_
      refine J_istore (lv' := [(0, .ref (g.1 + 353)), (1, .int x1), (2, .int r_3), (3, .int 1), (4, .int 0)]) dX9_does_162 (by decide) [1, 2, 3, 4, 0] rfl  ?_
      refine J_aload_n dX9_does_164 rfl 0 rfl  ?_
      refine J_dup dX9_does_165 rfl  ?_
      refine J_geti (ci := 7) dX9_does_166 15 rfl giX9 (by decide) (by decide) rfl rfl tb_4_126 rfl  ?_
      refine J_iconst (v := 1) dX9_does_169 (by decide)  ?_
      refine J_iadd dX9_does_170  ?_
      refine J_puti (ci := 7) dX9_does_171 15 rfl giX9 (by decide) (by decide) rfl rfl tyX9 tyX9_ok nmX9 rfl rfl rfl rfl tb_4_126 rfl  ?_
      refine J_nmS (fun S_4 eS_4 => ?_)
      have h := h S_4 eS_4
      refine J_aload_n dX9_does_174 rfl 0 rfl  ?_
      refine J_callV (h := 353) (ci := 7) (As := []) (rest := []) (n := 0) dX9_does_175 (c_X9_sign_   _ _ h) (by decide) rfl tb_5_129 tb_5_126 tb_1_8 tb_5_128 sl_44 (by decide) rfl (by decide) (by decide) (Nat.le_of_ble_eq_true rfl) rfl (fun v_r_6 S_5 hq => ?_)
      obtain ⟨r_6, rfl, h⟩ := hq
      dsimp only [Option.toList, List.cons_append, List.nil_append]
      refine J_bipush (v := 45) dX9_does_178 (by decide)  ?_
      refine J_icmp_ne (tgt := 196) dX9_does_180 (by decide) (fun c_7 => ?_) (fun c_7 => ?_)
      · have h := h.1 c_7
        obtain ⟨n, h⟩ := h
        exact l_X9_does_196   _   n _ _ _ _ _  h
      · have h := h.2 c_7
        refine J_iconst (v := 1) dX9_does_183 (by decide)  ?_
        refine J_istore (lv' := [(0, .ref (g.1 + 353)), (1, .int x1), (2, .int r_3), (3, .int 1), (4, .int 1)]) dX9_does_184 (by decide) [1, 2, 3, 4, 0] rfl  ?_
        refine J_aload_n dX9_does_186 rfl 0 rfl  ?_
        refine J_dup dX9_does_187 rfl  ?_
        refine J_geti (ci := 7) dX9_does_188 15 rfl giX9 (by decide) (by decide) rfl rfl tb_4_126 rfl  ?_
        refine J_iconst (v := 1) dX9_does_191 (by decide)  ?_
        refine J_iadd dX9_does_192  ?_
        refine J_puti (ci := 7) dX9_does_193 15 rfl giX9 (by decide) (by decide) rfl rfl tyX9 tyX9_ok nmX9 rfl rfl rfl rfl tb_4_126 rfl  ?_
        refine J_nmS (fun S_8 eS_8 => ?_)
        have h := h S_8 eS_8
        obtain ⟨n, h⟩ := h
        exact l_X9_does_196   _   n _ _ _ _ _  h
    · have h := h.2 c_1
      refine J_aload_n dX9_does_138 rfl 0 rfl  ?_
      refine J_getr (r := 372) (ci := 7) dX9_does_139 30 rfl giX9 (by decide) (by decide) rfl rfl tb_4_141 (by decide) (by decide)  ?_
      refine J_iload_n dX9_does_142 rfl 2 rfl  ?_
      refine J_iconst (v := 0) dX9_does_143 (by decide)  ?_
      obtain ⟨hi_9, h⟩ := h
      refine J_iast dX9_does_144 (by decide) hi_9  ?_
      refine J_nmS (fun S_10 eS_10 => ?_)
      have h := h S_10 eS_10
      obtain ⟨x2_11, ex2_11⟩ : ∃ y : Int32, y = x2 + 1 := ⟨_, rfl⟩
      have h := h x2_11 ex2_11
      refine J_iinc (v := x2_11) (lv' := [(0, .ref (g.1 + 353)), (1, .int x1), (2, .int x2_11)]) dX9_does_145 (q := 2) rfl (by rw [ex2_11]; rfl) (by decide) [1, 2, 0] rfl  ?_
      refine J_goto (tgt := 132) dX9_does_148 (by decide)  ?_
      exact ih _ _ _  h
def wp_X9_does  (S : Sto) (Q : Int32 → Sto → Prop) : Prop := ∀ S_1 : Sto, S_1 = uA S 353 15 ((S.1 353 15) + 1) → vp_in (S.1 353 15) (100) ∧ ∀ x1_3 : Int32, x1_3 = S_1.1 360 (S.1 353 15 : Int32).toNatClampNeg → ((¬ x1_3 = 120 → ((x1_3 = 103 → q_X9_does_54   Q x1_3 S_1) ∧ (¬ x1_3 = 103 → ((x1_3 = 110 → q_X9_does_54   Q x1_3 S_1) ∧ (¬ x1_3 = 110 → ((x1_3 = 112 → q_X9_does_54   Q x1_3 S_1) ∧ (¬ x1_3 = 112 → ((¬ x1_3 = 111 → (∃ n_132, q_X9_does_132   Q n_132 x1_3 0 S_1)) ∧ (x1_3 = 111 → q_X9_does_54   Q x1_3 S_1))))))))) ∧ (x1_3 = 120 → ∀ S_9 : Sto, S_9 = uA S_1 353 6 0 → Q 1 S_9))
set_option maxRecDepth 100000 in
set_option maxHeartbeats 4000000 in
theorem c_X9_does {g : Gv}   (S : Sto) (Q : Int32 → Sto → Prop) (h : wp_X9_does  S Q) : CT g yX9_does cX9_does 6 (some .boolean) 4 [.ref (g.1 + 353)] S (Qi Q) := by
  unfold wp_X9_does at h
  refine CT.of (by decide) (Nat.le_of_ble_eq_true rfl) ?_
  refine J_sub (lv' := [(0, .ref (g.1 + 353))]) [0] rfl ?_
  refine J_aload_n dX9_does_0 rfl 0 rfl  ?_
  refine J_getr (r := 360) (ci := 7) dX9_does_1 13 rfl giX9 (by decide) (by decide) rfl rfl tb_4_124 (by decide) (by decide)  ?_
  refine J_aload_n dX9_does_4 rfl 0 rfl  ?_
  refine J_dup dX9_does_5 rfl  ?_
  refine J_geti (ci := 7) dX9_does_6 15 rfl giX9 (by decide) (by decide) rfl rfl tb_4_126 rfl  ?_
  refine J_dup_x1 dX9_does_9 rfl rfl  ?_
  refine J_iconst (v := 1) dX9_does_10 (by decide)  ?_
  refine J_iadd dX9_does_11  ?_
  refine J_puti (ci := 7) dX9_does_12 15 rfl giX9 (by decide) (by decide) rfl rfl tyX9 tyX9_ok nmX9 rfl rfl rfl rfl tb_4_126 rfl  ?_
  refine J_nmS (fun S_1 eS_1 => ?_)
  have h := h S_1 eS_1
  obtain ⟨hi_2, h⟩ := h
  refine J_iald dX9_does_15 (by decide) hi_2  ?_
  refine J_topi (fun x1_3 ex1_3 => ?_)
  have h := h x1_3 ex1_3
  refine J_istore_n (lv' := [(0, .ref (g.1 + 353)), (1, .int x1_3)]) dX9_does_16 rfl (by decide) [1, 0] rfl  ?_
  refine J_iload_n dX9_does_17 rfl 1 rfl  ?_
  refine J_bipush (v := 120) dX9_does_18 (by decide)  ?_
  refine J_icmp_ne (tgt := 30) dX9_does_20 (by decide) (fun c_4 => ?_) (fun c_4 => ?_)
  · have h := h.1 c_4
    refine J_iload_n dX9_does_30 rfl 1 rfl  ?_
    refine J_bipush (v := 103) dX9_does_31 (by decide)  ?_
    refine J_icmp_eq (tgt := 54) dX9_does_33 (by decide) (fun c_5 => ?_) (fun c_5 => ?_)
    · have h := h.1 c_5
      exact l_X9_does_54   _   _ _  h
    · have h := h.2 c_5
      refine J_iload_n dX9_does_36 rfl 1 rfl  ?_
      refine J_bipush (v := 110) dX9_does_37 (by decide)  ?_
      refine J_icmp_eq (tgt := 54) dX9_does_39 (by decide) (fun c_6 => ?_) (fun c_6 => ?_)
      · have h := h.1 c_6
        exact l_X9_does_54   _   _ _  h
      · have h := h.2 c_6
        refine J_iload_n dX9_does_42 rfl 1 rfl  ?_
        refine J_bipush (v := 112) dX9_does_43 (by decide)  ?_
        refine J_icmp_eq (tgt := 54) dX9_does_45 (by decide) (fun c_7 => ?_) (fun c_7 => ?_)
        · have h := h.1 c_7
          exact l_X9_does_54   _   _ _  h
        · have h := h.2 c_7
          refine J_iload_n dX9_does_48 rfl 1 rfl  ?_
          refine J_bipush (v := 111) dX9_does_49 (by decide)  ?_
          refine J_icmp_ne (tgt := 130) dX9_does_51 (by decide) (fun c_8 => ?_) (fun c_8 => ?_)
          · have h := h.1 c_8
            refine J_iconst (v := 0) dX9_does_130 (by decide)  ?_
            refine J_istore_n (lv' := [(0, .ref (g.1 + 353)), (1, .int x1_3), (2, .int 0)]) dX9_does_131 rfl (by decide) [1, 2, 0] rfl  ?_
            obtain ⟨n, h⟩ := h
            exact l_X9_does_132   _   n _ _ _  h
          · have h := h.2 c_8
            exact l_X9_does_54   _   _ _  h
  · have h := h.2 c_4
    refine J_aload_n dX9_does_23 rfl 0 rfl  ?_
    refine J_iconst (v := 0) dX9_does_24 (by decide)  ?_
    refine J_puti (ci := 7) dX9_does_25 6 rfl giX9 (by decide) (by decide) rfl rfl tyX9 tyX9_ok nmX9 rfl rfl rfl rfl tb_4_117 rfl  ?_
    refine J_nmS (fun S_9 eS_9 => ?_)
    have h := h S_9 eS_9
    refine J_iconst (v := 1) dX9_does_28 (by decide)  ?_
    exact J_iret dX9_does_29 rfl rfl ⟨_, rfl, h⟩
