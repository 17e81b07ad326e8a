def q_X9_read_48  (R27 : Int32 → Sto → Prop) (Q : Int32 → Sto → Prop) (x1 : Int32) (S : Sto) : Prop := ∀ S_1 : Sto, S_1 = uA S 353 15 ((S.1 353 15) + 1) → R27 x1 S_1
set_option maxRecDepth 100000 in
set_option maxHeartbeats 4000000 in
theorem l_X9_read_48 {g : Gv}  (R27 : Int32 → Sto → Prop) (Q : Int32 → Sto → Prop) (hR27 : ∀ (y1 : Int32) (S : Sto), R27 y1 S → RJ g cX9_read RX9 (some .int) 2 6 27 [(0, .ref (g.1 + 353)), (1, .int y1)] [] S (Qi Q))  (x1 : Int32) (S : Sto)  (h : q_X9_read_48  R27 Q x1 S) : RJ g cX9_read RX9 (some .int) 2 6 48 [(0, .ref (g.1 + 353)), (1, .int x1)] [] S (Qi Q) := by
  unfold q_X9_read_48 at h
  refine J_aload_n dX9_read_48 rfl 0 rfl  ?_
  refine J_dup dX9_read_49 rfl  ?_
  refine J_geti (ci := 7) dX9_read_50 15 rfl giX9 (by decide) (by decide) rfl rfl tb_4_126 rfl  ?_
  refine J_iconst (v := 1) dX9_read_53 (by decide)  ?_
  refine J_iadd dX9_read_54  ?_
  refine J_puti (ci := 7) dX9_read_55 15 rfl giX9 (by decide) (by decide) rfl rfl tyX9 tyX9_ok nmX9 rfl rfl rfl rfl tb_4_126 rfl  ?_
  refine J_nmS (fun S_1 eS_1 => ?_)
  have h := h S_1 eS_1
  refine J_goto (tgt := 27) dX9_read_58 (by decide)  ?_
  exact hR27 _ _  h
def q_X9_read_27   (Q : Int32 → Sto → Prop) : Nat → Int32 → Sto → Prop
  | 0, _, _ => False
  | n + 1, x1, S => (((S.1 353 14) ≤ (S.1 353 15) → ∀ S_2 : Sto, S_2 = uA S 353 14 0 → Q x1 S_2) ∧ (¬ (S.1 353 14) ≤ (S.1 353 15) → wp_X9_does  S (fun r_4 S_3 => ((r_4 = 0 → q_X9_read_48  (fun y1 S => q_X9_read_27   Q n y1 S) Q x1 S_3) ∧ (¬ r_4 = 0 → ∀ x1_6 : Int32, x1_6 = x1 + 1 → q_X9_read_48  (fun y1 S => q_X9_read_27   Q n y1 S) Q x1_6 S_3)))))
set_option maxRecDepth 100000 in
set_option maxHeartbeats 4000000 in
theorem l_X9_read_27 {g : Gv}   (Q : Int32 → Sto → Prop)   (n : Nat) : ∀ (x1 : Int32) (S : Sto)  (h : q_X9_read_27   Q n x1 S), RJ g cX9_read RX9 (some .int) 2 6 27 [(0, .ref (g.1 + 353)), (1, .int x1)] [] S (Qi Q) := by
  induction n with
  | zero => intro x1 S  h; exact h.elim
  | succ n ih =>
    intro x1 S  h
    unfold q_X9_read_27 at h
    refine J_aload_n dX9_read_27 rfl 0 rfl  ?_
    refine J_geti (ci := 7) dX9_read_28 15 rfl giX9 (by decide) (by decide) rfl rfl tb_4_126 rfl  ?_
    refine J_aload_n dX9_read_31 rfl 0 rfl  ?_
    refine J_geti (ci := 7) dX9_read_32 14 rfl giX9 (by decide) (by decide) rfl rfl tb_4_125 rfl  ?_
    refine J_icmp_ge (tgt := 61) dX9_read_35 (by decide) (fun c_1 => ?_) (fun c_1 => ?_)
    · have h := h.1 c_1
      refine J_aload_n dX9_read_61 rfl 0 rfl  ?_
      refine J_iconst (v := 0) dX9_read_62 (by decide)  ?_
      refine J_puti (ci := 7) dX9_read_63 14 rfl giX9 (by decide) (by decide) rfl rfl tyX9 tyX9_ok nmX9 rfl rfl rfl rfl tb_4_125 rfl  ?_
      refine J_nmS (fun S_2 eS_2 => ?_)
      have h := h S_2 eS_2
      refine J_iload_n dX9_read_66 rfl 1 rfl  ?_
      exact J_iret dX9_read_67 rfl rfl ⟨_, rfl, h⟩
    · have h := h.2 c_1
      refine J_aload_n dX9_read_38 rfl 0 rfl  ?_
      refine J_callV (h := 353) (ci := 7) (As := []) (rest := []) (n := 0) dX9_read_39 (c_X9_does   _ _ h) (by decide) rfl tb_5_153 tb_5_150 tb_1_8 tb_5_152 sl_49 (by decide) rfl (by decide) (by decide) (Nat.le_of_ble_eq_true rfl) rfl (fun v_r_4 S_3 hq => ?_)
      obtain ⟨r_4, rfl, h⟩ := hq
      dsimp only [Option.toList, List.cons_append, List.nil_append]
      refine J_if_eq (tgt := 48) dX9_read_42 (by decide) (fun c_5 => ?_) (fun c_5 => ?_)
      · have h := h.1 c_5
        exact l_X9_read_48  _ _ (fun y1 S  h => ih y1 S  h)  _ _  h
      · have h := h.2 c_5
        obtain ⟨x1_6, ex1_6⟩ : ∃ y : Int32, y = x1 + 1 := ⟨_, rfl⟩
        have h := h x1_6 ex1_6
        refine J_iinc (v := x1_6) (lv' := [(0, .ref (g.1 + 353)), (1, .int x1_6)]) dX9_read_45 (q := 1) rfl (by rw [ex1_6]; rfl) (by decide) [1, 0] rfl  ?_
        exact l_X9_read_48  _ _ (fun y1 S  h => ih y1 S  h)  _ _  h
def wp_X9_read  (S : Sto) (Q : Int32 → Sto → Prop) : Prop := wp_X9_sees  S (fun r_2 S_1 => ((¬ r_2 = 0 → ∀ S_4 : Sto, S_4 = uA S_1 353 15 0 → (∃ n_27, q_X9_read_27   Q n_27 0 S_4)) ∧ (r_2 = 0 → ∀ S_5 : Sto, S_5 = uA S_1 353 14 0 → Q (((-10)) - (S_5.1 353 15)) S_5)))
set_option maxRecDepth 100000 in
set_option maxHeartbeats 4000000 in
theorem c_X9_read {g : Gv}   (S : Sto) (Q : Int32 → Sto → Prop) (h : wp_X9_read  S Q) : CT g yX9_read cX9_read 2 (some .int) 6 [.ref (g.1 + 353)] S (Qi Q) := by
  unfold wp_X9_read at h
  refine CT.of (by decide) (Nat.le_of_ble_eq_true rfl) ?_
  refine J_sub (lv' := [(0, .ref (g.1 + 353))]) [0] rfl ?_
  refine J_aload_n dX9_read_0 rfl 0 rfl  ?_
  refine J_callV (h := 353) (ci := 7) (As := []) (rest := []) (n := 0) dX9_read_1 (c_X9_sees   _ _ h) (by decide) rfl tb_5_121 tb_5_118 tb_1_8 tb_5_120 sl_42 (by decide) rfl (by decide) (by decide) (Nat.le_of_ble_eq_true rfl) rfl (fun v_r_2 S_1 hq => ?_)
  obtain ⟨r_2, rfl, h⟩ := hq
  dsimp only [Option.toList, List.cons_append, List.nil_append]
  refine J_if_ne (tgt := 20) dX9_read_4 (by decide) (fun c_3 => ?_) (fun c_3 => ?_)
  · have h := h.1 c_3
    refine J_aload_n dX9_read_20 rfl 0 rfl  ?_
    refine J_iconst (v := 0) dX9_read_21 (by decide)  ?_
    refine J_puti (ci := 7) dX9_read_22 15 rfl giX9 (by decide) (by decide) rfl rfl tyX9 tyX9_ok nmX9 rfl rfl rfl rfl tb_4_126 rfl  ?_
    refine J_nmS (fun S_4 eS_4 => ?_)
    have h := h S_4 eS_4
    refine J_iconst (v := 0) dX9_read_25 (by decide)  ?_
    refine J_istore_n (lv' := [(0, .ref (g.1 + 353)), (1, .int 0)]) dX9_read_26 rfl (by decide) [1, 0] rfl  ?_
    obtain ⟨n, h⟩ := h
    exact l_X9_read_27   _   n _ _  h
  · have h := h.2 c_3
    refine J_aload_n dX9_read_7 rfl 0 rfl  ?_
    refine J_iconst (v := 0) dX9_read_8 (by decide)  ?_
    refine J_puti (ci := 7) dX9_read_9 14 rfl giX9 (by decide) (by decide) rfl rfl tyX9 tyX9_ok nmX9 rfl rfl rfl rfl tb_4_125 rfl  ?_
    refine J_nmS (fun S_5 eS_5 => ?_)
    have h := h S_5 eS_5
    refine J_bipush (v := (-10)) dX9_read_12 (by decide)  ?_
    refine J_aload_n dX9_read_14 rfl 0 rfl  ?_
    refine J_geti (ci := 7) dX9_read_15 15 rfl giX9 (by decide) (by decide) rfl rfl tb_4_126 rfl  ?_
    refine J_isub dX9_read_18  ?_
    exact J_iret dX9_read_19 rfl rfl ⟨_, rfl, h⟩
def q_X9_of_30 (p1 : Int32) (p2 : Int32)  (Q : Int32 → Sto → Prop) (t0 : Int32) (S : Sto) : Prop := Q t0 S
set_option maxRecDepth 100000 in
set_option maxHeartbeats 4000000 in
theorem l_X9_of_30 {g : Gv} (p1 : Int32) (p2 : Int32)  (Q : Int32 → Sto → Prop)   (t0 : Int32) (S : Sto)  (h : q_X9_of_30 p1 p2  Q t0 S) : RJ g cX9_of RX9 (some .int) 3 3 30 [(0, .ref (g.1 + 353)), (1, .int p1), (2, .int p2)] [.int t0] S (Qi Q) := by
  unfold q_X9_of_30 at h
  exact J_iret dX9_of_30 rfl rfl ⟨_, rfl, h⟩
def q_X9_of_29 (p1 : Int32) (p2 : Int32)  (Q : Int32 → Sto → Prop)  (S : Sto) : Prop := q_X9_of_30 p1 p2  Q ((-1)) S
set_option maxRecDepth 100000 in
set_option maxHeartbeats 4000000 in
theorem l_X9_of_29 {g : Gv} (p1 : Int32) (p2 : Int32)  (Q : Int32 → Sto → Prop)    (S : Sto)  (h : q_X9_of_29 p1 p2  Q  S) : RJ g cX9_of RX9 (some .int) 3 3 29 [(0, .ref (g.1 + 353)), (1, .int p1), (2, .int p2)] [] S (Qi Q) := by
  unfold q_X9_of_29 at h
  refine J_iconst (v := (-1)) dX9_of_29 (by decide)  ?_
  exact l_X9_of_30 p1 p2  _   _ _  h
def wp_X9_of (p1 : Int32) (p2 : Int32) (S : Sto) (Q : Int32 → Sto → Prop) : Prop := wp_X9_isElement p1 S (fun r_2 S_1 => ((r_2 = 0 → q_X9_of_29 p1 p2  Q  S_1) ∧ (¬ r_2 = 0 → wp_X9_isPlace p2 S_1 (fun r_5 S_4 => ((r_5 = 0 → q_X9_of_29 p1 p2  Q  S_4) ∧ (¬ r_5 = 0 → vp_in ((16 * p1) + p2) (96) ∧ q_X9_of_30 p1 p2  Q (S_4.1 354 ((16 * p1) + p2 : Int32).toNatClampNeg) S_4))))))
set_option maxRecDepth 100000 in
set_option maxHeartbeats 4000000 in
theorem c_X9_of {g : Gv} (p1 : Int32) (p2 : Int32)  (S : Sto) (Q : Int32 → Sto → Prop) (h : wp_X9_of p1 p2 S Q) : CT g yX9_of cX9_of 3 (some .int) 3 [.ref (g.1 + 353), .int p1, .int p2] S (Qi Q) := by
  unfold wp_X9_of at h
  refine CT.of (by decide) (Nat.le_of_ble_eq_true rfl) ?_
  refine J_sub (lv' := [(0, .ref (g.1 + 353)), (1, .int p1), (2, .int p2)]) [0, 1, 2] rfl ?_
  refine J_iload_n dX9_of_0 rfl 1 rfl  ?_
  refine J_callS (As := [.int p1]) (rest := []) (n := 1) dX9_of_1 (c_X9_isElement p1  _ _ h) tb_5_28 tb_5_26 tb_1_8 tb_5_27 (by decide) rfl (by decide) (by decide) (Nat.le_of_ble_eq_true rfl) rfl (fun v_r_2 S_1 hq => ?_)
  obtain ⟨r_2, rfl, h⟩ := hq
  dsimp only [Option.toList, List.cons_append, List.nil_append]
  refine J_if_eq (tgt := 29) dX9_of_4 (by decide) (fun c_3 => ?_) (fun c_3 => ?_)
  · have h := h.1 c_3
    exact l_X9_of_29 p1 p2  _    _  h
  · have h := h.2 c_3
    refine J_aload_n dX9_of_7 rfl 0 rfl  ?_
    refine J_iload_n dX9_of_8 rfl 2 rfl  ?_
    refine J_callV (h := 353) (ci := 7) (As := [.int p2]) (rest := []) (n := 1) dX9_of_9 (c_X9_isPlace p2  _ _ h) (by decide) rfl tb_5_33 tb_5_30 tb_1_8 tb_5_32 sl_29 (by decide) rfl (by decide) (by decide) (Nat.le_of_ble_eq_true rfl) rfl (fun v_r_5 S_4 hq => ?_)
    obtain ⟨r_5, rfl, h⟩ := hq
    dsimp only [Option.toList, List.cons_append, List.nil_append]
    refine J_if_eq (tgt := 29) dX9_of_12 (by decide) (fun c_6 => ?_) (fun c_6 => ?_)
    · have h := h.1 c_6
      exact l_X9_of_29 p1 p2  _    _  h
    · have h := h.2 c_6
      refine J_aload_n dX9_of_15 rfl 0 rfl  ?_
      refine J_getr (r := 354) (ci := 7) dX9_of_16 4 rfl giX9 (by decide) (by decide) rfl rfl tb_4_115 (by decide) (by decide)  ?_
      refine J_bipush (v := 16) dX9_of_19 (by decide)  ?_
      refine J_iload_n dX9_of_21 rfl 1 rfl  ?_
      refine J_imul dX9_of_22  ?_
      refine J_iload_n dX9_of_23 rfl 2 rfl  ?_
      refine J_iadd dX9_of_24  ?_
      obtain ⟨hi_7, h⟩ := h
      refine J_iald dX9_of_25 (by decide) hi_7  ?_
      refine J_goto (tgt := 30) dX9_of_26 (by decide)  ?_
      exact l_X9_of_30 p1 p2  _   _ _  h
def wp_X9_told (p1 : Int32) (S : Sto) (Q : Int32 → Sto → Prop) : Prop := ((p1.toInt < 0 ∨ 4 < p1.toInt → Q ((-1)) S) ∧ (p1 = 0 → Q (S.1 353 0) S) ∧ (p1 = 1 → Q (S.1 353 1) S) ∧ (p1 = 2 → Q (S.1 353 2) S) ∧ (p1 = 3 → Q (S.1 353 6) S) ∧ (p1 = 4 → Q (S.1 353 3) S))
set_option maxRecDepth 100000 in
set_option maxHeartbeats 4000000 in
theorem c_X9_told {g : Gv} (p1 : Int32)  (S : Sto) (Q : Int32 → Sto → Prop) (h : wp_X9_told p1 S Q) : CT g yX9_told cX9_told 2 (some .int) 1 [.ref (g.1 + 353), .int p1] S (Qi Q) := by
  unfold wp_X9_told at h
  refine CT.of (by decide) (Nat.le_of_ble_eq_true rfl) ?_
  refine J_sub (lv' := [(0, .ref (g.1 + 353)), (1, .int p1)]) [0, 1] rfl ?_
  refine J_iload_n dX9_told_0 rfl 1 rfl  ?_
  by_cases hsw : p1.toInt < 0 ∨ 4 < p1.toInt
  · have h := h.1 hsw
    refine J_tableOut (tgt := 61) dX9_told_1 hsw (by decide) ?_
    refine J_iconst (v := (-1)) dX9_told_61 (by decide)  ?_
    exact J_iret dX9_told_62 rfl rfl ⟨_, rfl, h⟩
  · have h := h.2
    obtain ⟨ksw, hk1, hk2⟩ := sw_in (n := 4) (fun q => hsw (Or.inl q)) (fun q => hsw (Or.inr q))
    by_cases hs0 : ksw = 0
    · have hx : p1 = 0 := by rw [hk2, hs0]; rfl
      have h := h.1 hx
      refine J_tableIn (off := 35) (tgt := 36) dX9_told_1 (by rw [hx]; decide) (by rw [hx]; decide) (by rw [hx]; decide) (by decide) ?_
      refine J_aload_n dX9_told_36 rfl 0 rfl  ?_
      refine J_geti (ci := 7) dX9_told_37 0 rfl giX9 (by decide) (by decide) rfl rfl tb_4_111 rfl  ?_
      exact J_iret dX9_told_40 rfl rfl ⟨_, rfl, h⟩
    by_cases hs1 : ksw = 1
    · have hx : p1 = 1 := by rw [hk2, hs1]; rfl
      have h := h.2.1 hx
      refine J_tableIn (off := 40) (tgt := 41) dX9_told_1 (by rw [hx]; decide) (by rw [hx]; decide) (by rw [hx]; decide) (by decide) ?_
      refine J_aload_n dX9_told_41 rfl 0 rfl  ?_
      refine J_geti (ci := 7) dX9_told_42 1 rfl giX9 (by decide) (by decide) rfl rfl tb_4_112 rfl  ?_
      exact J_iret dX9_told_45 rfl rfl ⟨_, rfl, h⟩
    by_cases hs2 : ksw = 2
    · have hx : p1 = 2 := by rw [hk2, hs2]; rfl
      have h := h.2.2.1 hx
      refine J_tableIn (off := 45) (tgt := 46) dX9_told_1 (by rw [hx]; decide) (by rw [hx]; decide) (by rw [hx]; decide) (by decide) ?_
      refine J_aload_n dX9_told_46 rfl 0 rfl  ?_
      refine J_geti (ci := 7) dX9_told_47 2 rfl giX9 (by decide) (by decide) rfl rfl tb_4_113 rfl  ?_
      exact J_iret dX9_told_50 rfl rfl ⟨_, rfl, h⟩
    by_cases hs3 : ksw = 3
    · have hx : p1 = 3 := by rw [hk2, hs3]; rfl
      have h := h.2.2.2.1 hx
      refine J_tableIn (off := 50) (tgt := 51) dX9_told_1 (by rw [hx]; decide) (by rw [hx]; decide) (by rw [hx]; decide) (by decide) ?_
      refine J_aload_n dX9_told_51 rfl 0 rfl  ?_
      refine J_geti (ci := 7) dX9_told_52 6 rfl giX9 (by decide) (by decide) rfl rfl tb_4_117 rfl  ?_
      exact J_iret dX9_told_55 rfl rfl ⟨_, rfl, h⟩
    by_cases hs4 : ksw = 4
    · have hx : p1 = 4 := by rw [hk2, hs4]; rfl
      have h := h.2.2.2.2 hx
      refine J_tableIn (off := 55) (tgt := 56) dX9_told_1 (by rw [hx]; decide) (by rw [hx]; decide) (by rw [hx]; decide) (by decide) ?_
      refine J_aload_n dX9_told_56 rfl 0 rfl  ?_
      refine J_geti (ci := 7) dX9_told_57 3 rfl giX9 (by decide) (by decide) rfl rfl tb_4_114 rfl  ?_
      exact J_iret dX9_told_60 rfl rfl ⟨_, rfl, h⟩
    omega
def q_X9_generator_39 (p1 : Int32) (p2 : Int32)  (Q : Int32 → Sto → Prop) (t0 : Int32) (S : Sto) : Prop := Q t0 S
set_option maxRecDepth 100000 in
set_option maxHeartbeats 4000000 in
theorem l_X9_generator_39 {g : Gv} (p1 : Int32) (p2 : Int32)  (Q : Int32 → Sto → Prop)   (t0 : Int32) (S : Sto)  (h : q_X9_generator_39 p1 p2  Q t0 S) : RJ g cX9_generator RX9 (some .int) 3 3 39 [(0, .ref (g.1 + 353)), (1, .int p1), (2, .int p2)] [.int t0] S (Qi Q) := by
  unfold q_X9_generator_39 at h
  exact J_iret dX9_generator_39 rfl rfl ⟨_, rfl, h⟩
def q_X9_generator_38 (p1 : Int32) (p2 : Int32)  (Q : Int32 → Sto → Prop)  (S : Sto) : Prop := q_X9_generator_39 p1 p2  Q ((-1)) S
set_option maxRecDepth 100000 in
set_option maxHeartbeats 4000000 in
theorem l_X9_generator_38 {g : Gv} (p1 : Int32) (p2 : Int32)  (Q : Int32 → Sto → Prop)    (S : Sto)  (h : q_X9_generator_38 p1 p2  Q  S) : RJ g cX9_generator RX9 (some .int) 3 3 38 [(0, .ref (g.1 + 353)), (1, .int p1), (2, .int p2)] [] S (Qi Q) := by
  unfold q_X9_generator_38 at h
  refine J_iconst (v := (-1)) dX9_generator_38 (by decide)  ?_
  exact l_X9_generator_39 p1 p2  _   _ _  h
def wp_X9_generator (p1 : Int32) (p2 : Int32) (S : Sto) (Q : Int32 → Sto → Prop) : Prop := wp_X9_in ((p1 : Int32).toInt64) 0 (((S.1 353 6) - 1 : Int32).toInt64) S (fun r_2 S_1 => ((r_2 = 0 → q_X9_generator_38 p1 p2  Q  S_1) ∧ (¬ r_2 = 0 → wp_X9_isPlace p2 S_1 (fun r_5 S_4 => ((r_5 = 0 → q_X9_generator_38 p1 p2  Q  S_4) ∧ (¬ r_5 = 0 → vp_in ((16 * p1) + p2) (64) ∧ q_X9_generator_39 p1 p2  Q (S_4.1 355 ((16 * p1) + p2 : Int32).toNatClampNeg) S_4))))))
set_option maxRecDepth 100000 in
set_option maxHeartbeats 4000000 in
theorem c_X9_generator {g : Gv} (p1 : Int32) (p2 : Int32)  (S : Sto) (Q : Int32 → Sto → Prop) (h : wp_X9_generator p1 p2 S Q) : CT g yX9_generator cX9_generator 3 (some .int) 3 [.ref (g.1 + 353), .int p1, .int p2] S (Qi Q) := by
  unfold wp_X9_generator at h
  refine CT.of (by decide) (Nat.le_of_ble_eq_true rfl) ?_
  refine J_sub (lv' := [(0, .ref (g.1 + 353)), (1, .int p1), (2, .int p2)]) [0, 1, 2] rfl ?_
  refine J_iload_n dX9_generator_0 rfl 1 rfl  ?_
  refine J_i2l dX9_generator_1  ?_
  refine J_lconst (v := 0) dX9_generator_2 (by decide)  ?_
  refine J_aload_n dX9_generator_3 rfl 0 rfl  ?_
  refine J_geti (ci := 7) dX9_generator_4 6 rfl giX9 (by decide) (by decide) rfl rfl tb_4_117 rfl  ?_
  refine J_iconst (v := 1) dX9_generator_7 (by decide)  ?_
  refine J_isub dX9_generator_8  ?_
  refine J_i2l dX9_generator_9  ?_
  refine J_callS (As := [.long ((p1 : Int32).toInt64), .long 0, .long (((S.1 353 6) - 1 : Int32).toInt64)]) (rest := []) (n := 3) dX9_generator_10 (c_X9_in ((p1 : Int32).toInt64) 0 (((S.1 353 6) - 1 : Int32).toInt64)  _ _ h) tb_5_9 tb_5_7 tb_1_8 tb_5_8 (by decide) rfl (by decide) (by decide) (Nat.le_of_ble_eq_true rfl) rfl (fun v_r_2 S_1 hq => ?_)
  obtain ⟨r_2, rfl, h⟩ := hq
  dsimp only [Option.toList, List.cons_append, List.nil_append]
  refine J_if_eq (tgt := 38) dX9_generator_13 (by decide) (fun c_3 => ?_) (fun c_3 => ?_)
  · have h := h.1 c_3
    exact l_X9_generator_38 p1 p2  _    _  h
  · have h := h.2 c_3
    refine J_aload_n dX9_generator_16 rfl 0 rfl  ?_
    refine J_iload_n dX9_generator_17 rfl 2 rfl  ?_
    refine J_callV (h := 353) (ci := 7) (As := [.int p2]) (rest := []) (n := 1) dX9_generator_18 (c_X9_isPlace p2  _ _ h) (by decide) rfl tb_5_33 tb_5_30 tb_1_8 tb_5_32 sl_29 (by decide) rfl (by decide) (by decide) (Nat.le_of_ble_eq_true rfl) rfl (fun v_r_5 S_4 hq => ?_)
    obtain ⟨r_5, rfl, h⟩ := hq
    dsimp only [Option.toList, List.cons_append, List.nil_append]
    refine J_if_eq (tgt := 38) dX9_generator_21 (by decide) (fun c_6 => ?_) (fun c_6 => ?_)
    · have h := h.1 c_6
      exact l_X9_generator_38 p1 p2  _    _  h
    · have h := h.2 c_6
      refine J_aload_n dX9_generator_24 rfl 0 rfl  ?_
      refine J_getr (r := 355) (ci := 7) dX9_generator_25 5 rfl giX9 (by decide) (by decide) rfl rfl tb_4_116 (by decide) (by decide)  ?_
      refine J_bipush (v := 16) dX9_generator_28 (by decide)  ?_
      refine J_iload_n dX9_generator_30 rfl 1 rfl  ?_
      refine J_imul dX9_generator_31  ?_
      refine J_iload_n dX9_generator_32 rfl 2 rfl  ?_
      refine J_iadd dX9_generator_33  ?_
      obtain ⟨hi_7, h⟩ := h
      refine J_iald dX9_generator_34 (by decide) hi_7  ?_
      refine J_goto (tgt := 39) dX9_generator_35 (by decide)  ?_
      exact l_X9_generator_39 p1 p2  _   _ _  h
def q_X9_places_16 (p1 : Int32) (p2 : Int32)  (Q : Int32 → Sto → Prop)  (S : Sto) : Prop := Q ((-1)) S
set_option maxRecDepth 100000 in
set_option maxHeartbeats 4000000 in
theorem l_X9_places_16 {g : Gv} (p1 : Int32) (p2 : Int32)  (Q : Int32 → Sto → Prop)    (S : Sto)  (h : q_X9_places_16 p1 p2  Q  S) : RJ g cX9_places RX9 (some .int) 4 3 16 [(0, .ref (g.1 + 353)), (1, .int p1), (2, .int p2)] [] S (Qi Q) := by
  unfold q_X9_places_16 at h
  refine J_iconst (v := (-1)) dX9_places_16 (by decide)  ?_
  exact J_iret dX9_places_17 rfl rfl ⟨_, rfl, h⟩
def q_X9_places_43 (p1 : Int32) (p2 : Int32)  (Q : Int32 → Sto → Prop) (t0 : Int32) (S : Sto) : Prop := Q t0 S
set_option maxRecDepth 100000 in
set_option maxHeartbeats 4000000 in
theorem l_X9_places_43 {g : Gv} (p1 : Int32) (p2 : Int32)  (Q : Int32 → Sto → Prop)   (t0 : Int32) (S : Sto)  (h : q_X9_places_43 p1 p2  Q t0 S) : RJ g cX9_places RX9 (some .int) 4 3 43 [(0, .ref (g.1 + 353)), (1, .int p1), (2, .int p2)] [.int t0] S (Qi Q) := by
  unfold q_X9_places_43 at h
  exact J_iret dX9_places_43 rfl rfl ⟨_, rfl, h⟩
def wp_X9_places (p1 : Int32) (p2 : Int32) (S : Sto) (Q : Int32 → Sto → Prop) : Prop := wp_X9_isPlace p1 S (fun r_2 S_1 => ((r_2 = 0 → q_X9_places_16 p1 p2  Q  S_1) ∧ (¬ r_2 = 0 → wp_X9_isPlace p2 S_1 (fun r_5 S_4 => ((¬ r_5 = 0 → wp_X9_sign p1 p2 S_4 (fun r_8 S_7 => ((¬ r_8 = 0 → q_X9_places_43 p1 p2  Q (((100 * (p1 ||| p2)) + r_8) + 1) S_7) ∧ (r_8 = 0 → q_X9_places_43 p1 p2  Q ((-5)) S_7)))) ∧ (r_5 = 0 → q_X9_places_16 p1 p2  Q  S_4))))))
set_option maxRecDepth 100000 in
set_option maxHeartbeats 4000000 in
theorem c_X9_places {g : Gv} (p1 : Int32) (p2 : Int32)  (S : Sto) (Q : Int32 → Sto → Prop) (h : wp_X9_places p1 p2 S Q) : CT g yX9_places cX9_places 4 (some .int) 3 [.ref (g.1 + 353), .int p1, .int p2] S (Qi Q) := by
  unfold wp_X9_places at h
  refine CT.of (by decide) (Nat.le_of_ble_eq_true rfl) ?_
  refine J_sub (lv' := [(0, .ref (g.1 + 353)), (1, .int p1), (2, .int p2)]) [0, 1, 2] rfl ?_
  refine J_aload_n dX9_places_0 rfl 0 rfl  ?_
  refine J_iload_n dX9_places_1 rfl 1 rfl  ?_
  refine J_callV (h := 353) (ci := 7) (As := [.int p1]) (rest := []) (n := 1) dX9_places_2 (c_X9_isPlace p1  _ _ h) (by decide) rfl tb_5_33 tb_5_30 tb_1_8 tb_5_32 sl_29 (by decide) rfl (by decide) (by decide) (Nat.le_of_ble_eq_true rfl) rfl (fun v_r_2 S_1 hq => ?_)
  obtain ⟨r_2, rfl, h⟩ := hq
  dsimp only [Option.toList, List.cons_append, List.nil_append]
  refine J_if_eq (tgt := 16) dX9_places_5 (by decide) (fun c_3 => ?_) (fun c_3 => ?_)
  · have h := h.1 c_3
    exact l_X9_places_16 p1 p2  _    _  h
  · have h := h.2 c_3
    refine J_aload_n dX9_places_8 rfl 0 rfl  ?_
    refine J_iload_n dX9_places_9 rfl 2 rfl  ?_
    refine J_callV (h := 353) (ci := 7) (As := [.int p2]) (rest := []) (n := 1) dX9_places_10 (c_X9_isPlace p2  _ _ h) (by decide) rfl tb_5_33 tb_5_30 tb_1_8 tb_5_32 sl_29 (by decide) rfl (by decide) (by decide) (Nat.le_of_ble_eq_true rfl) rfl (fun v_r_5 S_4 hq => ?_)
    obtain ⟨r_5, rfl, h⟩ := hq
    dsimp only [Option.toList, List.cons_append, List.nil_append]
    refine J_if_ne (tgt := 18) dX9_places_13 (by decide) (fun c_6 => ?_) (fun c_6 => ?_)
    · have h := h.1 c_6
      refine J_iload_n dX9_places_18 rfl 1 rfl  ?_
      refine J_iload_n dX9_places_19 rfl 2 rfl  ?_
      refine J_callS (As := [.int p1, .int p2]) (rest := []) (n := 2) dX9_places_20 (c_X9_sign p1 p2  _ _ h) tb_5_48 tb_5_46 tb_1_8 tb_5_47 (by decide) rfl (by decide) (by decide) (Nat.le_of_ble_eq_true rfl) rfl (fun v_r_8 S_7 hq => ?_)
      obtain ⟨r_8, rfl, h⟩ := hq
      dsimp only [Option.toList, List.cons_append, List.nil_append]
      refine J_istore_n (lv' := [(0, .ref (g.1 + 353)), (1, .int p1), (2, .int p2), (3, .int r_8)]) dX9_places_23 rfl (by decide) [1, 2, 3, 0] rfl  ?_
      refine J_iload_n dX9_places_24 rfl 3 rfl  ?_
      refine J_if_ne (tgt := 33) dX9_places_25 (by decide) (fun c_9 => ?_) (fun c_9 => ?_)
      · have h := h.1 c_9
        refine J_bipush (v := 100) dX9_places_33 (by decide)  ?_
        refine J_iload_n dX9_places_35 rfl 1 rfl  ?_
        refine J_iload_n dX9_places_36 rfl 2 rfl  ?_
        refine J_ior dX9_places_37  ?_
        refine J_imul dX9_places_38  ?_
        refine J_iload_n dX9_places_39 rfl 3 rfl  ?_
        refine J_iadd dX9_places_40  ?_
        refine J_iconst (v := 1) dX9_places_41 (by decide)  ?_
        refine J_iadd dX9_places_42  ?_
        refine J_sub (lv' := [(0, .ref (g.1 + 353)), (1, .int p1), (2, .int p2)]) [0, 1, 2] rfl ?_
        exact l_X9_places_43 p1 p2  _   _ _  h
      · have h := h.2 c_9
        refine J_bipush (v := (-5)) dX9_places_28 (by decide)  ?_
        refine J_goto (tgt := 43) dX9_places_30 (by decide)  ?_
        refine J_sub (lv' := [(0, .ref (g.1 + 353)), (1, .int p1), (2, .int p2)]) [0, 1, 2] rfl ?_
        exact l_X9_places_43 p1 p2  _   _ _  h
    · have h := h.2 c_6
      exact l_X9_places_16 p1 p2  _    _  h
def q_X9_lead_15 (p1 : Int32)  (Q : Int32 → Sto → Prop) : Nat → Int32 → Sto → Prop
  | 0, _, _ => False
  | n + 1, x2, S => (((S.1 353 3) ≤ x2 → Q ((-5)) S) ∧ (¬ (S.1 353 3) ≤ x2 → vp_in x2 (256) ∧ vp_in ((16 * p1) + (S.1 369 (x2 : Int32).toNatClampNeg)) (96) ∧ (((S.1 354 ((16 * p1) + (S.1 369 (x2 : Int32).toNatClampNeg) : Int32).toNatClampNeg) = 0 → ∀ x2_5 : Int32, x2_5 = x2 + 1 → q_X9_lead_15 p1  Q n x2_5 S) ∧ (¬ (S.1 354 ((16 * p1) + (S.1 369 (x2 : Int32).toNatClampNeg) : Int32).toNatClampNeg) = 0 → vp_in x2 (256) ∧ Q (S.1 369 (x2 : Int32).toNatClampNeg) S))))
set_option maxRecDepth 100000 in
set_option maxHeartbeats 4000000 in
theorem l_X9_lead_15 {g : Gv} (p1 : Int32)  (Q : Int32 → Sto → Prop)   (n : Nat) : ∀ (x2 : Int32) (S : Sto)  (h : q_X9_lead_15 p1  Q n x2 S), RJ g cX9_lead RX9 (some .int) 3 4 15 [(0, .ref (g.1 + 353)), (1, .int p1), (2, .int x2)] [] S (Qi Q) := by
  induction n with
  | zero => intro x2 S  h; exact h.elim
  | succ n ih =>
    intro x2 S  h
    unfold q_X9_lead_15 at h
    refine J_iload_n dX9_lead_15 rfl 2 rfl  ?_
    refine J_aload_n dX9_lead_16 rfl 0 rfl  ?_
    refine J_geti (ci := 7) dX9_lead_17 3 rfl giX9 (by decide) (by decide) rfl rfl tb_4_114 rfl  ?_
    refine J_icmp_ge (tgt := 55) dX9_lead_20 (by decide) (fun c_1 => ?_) (fun c_1 => ?_)
    · have h := h.1 c_1
      refine J_bipush (v := (-5)) dX9_lead_55 (by decide)  ?_
      exact J_iret dX9_lead_57 rfl rfl ⟨_, rfl, h⟩
    · have h := h.2 c_1
      refine J_aload_n dX9_lead_23 rfl 0 rfl  ?_
      refine J_getr (r := 354) (ci := 7) dX9_lead_24 4 rfl giX9 (by decide) (by decide) rfl rfl tb_4_115 (by decide) (by decide)  ?_
      refine J_bipush (v := 16) dX9_lead_27 (by decide)  ?_
      refine J_iload_n dX9_lead_29 rfl 1 rfl  ?_
      refine J_imul dX9_lead_30  ?_
      refine J_aload_n dX9_lead_31 rfl 0 rfl  ?_
      refine J_getr (r := 369) (ci := 7) dX9_lead_32 26 rfl giX9 (by decide) (by decide) rfl rfl tb_4_137 (by decide) (by decide)  ?_
      refine J_iload_n dX9_lead_35 rfl 2 rfl  ?_
      obtain ⟨hi_2, h⟩ := h
      refine J_iald dX9_lead_36 (by decide) hi_2  ?_
      refine J_iadd dX9_lead_37  ?_
      obtain ⟨hi_3, h⟩ := h
      refine J_iald dX9_lead_38 (by decide) hi_3  ?_
      refine J_if_eq (tgt := 49) dX9_lead_39 (by decide) (fun c_4 => ?_) (fun c_4 => ?_)
      · have h := h.1 c_4
        obtain ⟨x2_5, ex2_5⟩ : ∃ y : Int32, y = x2 + 1 := ⟨_, rfl⟩
        have h := h x2_5 ex2_5
        refine J_iinc (v := x2_5) (lv' := [(0, .ref (g.1 + 353)), (1, .int p1), (2, .int x2_5)]) dX9_lead_49 (q := 2) rfl (by rw [ex2_5]; rfl) (by decide) [1, 2, 0] rfl  ?_
        refine J_goto (tgt := 15) dX9_lead_52 (by decide)  ?_
        exact ih _ _  h
      · have h := h.2 c_4
        refine J_aload_n dX9_lead_42 rfl 0 rfl  ?_
        refine J_getr (r := 369) (ci := 7) dX9_lead_43 26 rfl giX9 (by decide) (by decide) rfl rfl tb_4_137 (by decide) (by decide)  ?_
        refine J_iload_n dX9_lead_46 rfl 2 rfl  ?_
        obtain ⟨hi_6, h⟩ := h
        refine J_iald dX9_lead_47 (by decide) hi_6  ?_
        exact J_iret dX9_lead_48 rfl rfl ⟨_, rfl, h⟩
def wp_X9_lead (p1 : Int32) (S : Sto) (Q : Int32 → Sto → Prop) : Prop := wp_X9_isElement p1 S (fun r_2 S_1 => ((¬ r_2 = 0 → wp_X9_beginPlaces  S_1 (fun S_4 => (∃ n_15, q_X9_lead_15 p1  Q n_15 0 S_4))) ∧ (r_2 = 0 → Q ((-1)) S_1)))
set_option maxRecDepth 100000 in
set_option maxHeartbeats 4000000 in
theorem c_X9_lead {g : Gv} (p1 : Int32)  (S : Sto) (Q : Int32 → Sto → Prop) (h : wp_X9_lead p1 S Q) : CT g yX9_lead cX9_lead 3 (some .int) 4 [.ref (g.1 + 353), .int p1] S (Qi Q) := by
  unfold wp_X9_lead at h
  refine CT.of (by decide) (Nat.le_of_ble_eq_true rfl) ?_
  refine J_sub (lv' := [(0, .ref (g.1 + 353)), (1, .int p1)]) [0, 1] rfl ?_
  refine J_iload_n dX9_lead_0 rfl 1 rfl  ?_
  refine J_callS (As := [.int p1]) (rest := []) (n := 1) dX9_lead_1 (c_X9_isElement p1  _ _ h) tb_5_28 tb_5_26 tb_1_8 tb_5_27 (by decide) rfl (by decide) (by decide) (Nat.le_of_ble_eq_true rfl) rfl (fun v_r_2 S_1 hq => ?_)
  obtain ⟨r_2, rfl, h⟩ := hq
  dsimp only [Option.toList, List.cons_append, List.nil_append]
  refine J_if_ne (tgt := 9) dX9_lead_4 (by decide) (fun c_3 => ?_) (fun c_3 => ?_)
  · have h := h.1 c_3
    refine J_aload_n dX9_lead_9 rfl 0 rfl  ?_
    refine J_callV (h := 353) (ci := 7) (As := []) (rest := []) (n := 0) dX9_lead_10 (c_X9_beginPlaces   _ _ h) (by decide) rfl tb_5_68 tb_5_65 tb_1_8 tb_5_67 sl_34 (by decide) rfl (by decide) (by decide) (Nat.le_of_ble_eq_true rfl) rfl (fun v_r_5 S_4 hq => ?_)
    obtain ⟨rfl, h⟩ := hq
    dsimp only [Option.toList, List.cons_append, List.nil_append]
    refine J_iconst (v := 0) dX9_lead_13 (by decide)  ?_
    refine J_istore_n (lv' := [(0, .ref (g.1 + 353)), (1, .int p1), (2, .int 0)]) dX9_lead_14 rfl (by decide) [1, 2, 0] rfl  ?_
    obtain ⟨n, h⟩ := h
    exact l_X9_lead_15 p1  _   n _ _  h
  · have h := h.2 c_3
    refine J_iconst (v := (-1)) dX9_lead_7 (by decide)  ?_
    exact J_iret dX9_lead_8 rfl rfl ⟨_, rfl, h⟩
def wp_X9_rank (p1 : Int32) (S : Sto) (Q : Int32 → Sto → Prop) : Prop := wp_X9_isSide p1 S (fun r_2 S_1 => ((¬ r_2 = 0 → wp_X9_spans p1 S_1 (fun S_4 => Q (S_4.1 353 25) S_4)) ∧ (r_2 = 0 → Q ((-1)) S_1)))
set_option maxRecDepth 100000 in
set_option maxHeartbeats 4000000 in
theorem c_X9_rank {g : Gv} (p1 : Int32)  (S : Sto) (Q : Int32 → Sto → Prop) (h : wp_X9_rank p1 S Q) : CT g yX9_rank cX9_rank 2 (some .int) 6 [.ref (g.1 + 353), .int p1] S (Qi Q) := by
  unfold wp_X9_rank at h
  refine CT.of (by decide) (Nat.le_of_ble_eq_true rfl) ?_
  refine J_sub (lv' := [(0, .ref (g.1 + 353)), (1, .int p1)]) [0, 1] rfl ?_
  refine J_iload_n dX9_rank_0 rfl 1 rfl  ?_
  refine J_callS (As := [.int p1]) (rest := []) (n := 1) dX9_rank_1 (c_X9_isSide p1  _ _ h) tb_5_188 tb_5_186 tb_1_8 tb_5_187 (by decide) rfl (by decide) (by decide) (Nat.le_of_ble_eq_true rfl) rfl (fun v_r_2 S_1 hq => ?_)
  obtain ⟨r_2, rfl, h⟩ := hq
  dsimp only [Option.toList, List.cons_append, List.nil_append]
  refine J_if_ne (tgt := 9) dX9_rank_4 (by decide) (fun c_3 => ?_) (fun c_3 => ?_)
  · have h := h.1 c_3
    refine J_aload_n dX9_rank_9 rfl 0 rfl  ?_
    refine J_iload_n dX9_rank_10 rfl 1 rfl  ?_
    refine J_callV (h := 353) (ci := 7) (As := [.int p1]) (rest := []) (n := 1) dX9_rank_11 (c_X9_spans p1  _ _ h) (by decide) rfl tb_5_64 tb_5_61 tb_1_8 tb_5_63 sl_33 (by decide) rfl (by decide) (by decide) (Nat.le_of_ble_eq_true rfl) rfl (fun v_r_5 S_4 hq => ?_)
    obtain ⟨rfl, h⟩ := hq
    dsimp only [Option.toList, List.cons_append, List.nil_append]
    refine J_aload_n dX9_rank_14 rfl 0 rfl  ?_
    refine J_geti (ci := 7) dX9_rank_15 25 rfl giX9 (by decide) (by decide) rfl rfl tb_4_136 rfl  ?_
    exact J_iret dX9_rank_18 rfl rfl ⟨_, rfl, h⟩
  · have h := h.2 c_3
    refine J_iconst (v := (-1)) dX9_rank_7 (by decide)  ?_
    exact J_iret dX9_rank_8 rfl rfl ⟨_, rfl, h⟩
def q_X9_basis_20 (p1 : Int32) (p2 : Int32) (p3 : Int32)  (Q : Int32 → Sto → Prop)  (S : Sto) : Prop := Q ((-1)) S
set_option maxRecDepth 100000 in
set_option maxHeartbeats 4000000 in
theorem l_X9_basis_20 {g : Gv} (p1 : Int32) (p2 : Int32) (p3 : Int32)  (Q : Int32 → Sto → Prop)    (S : Sto)  (h : q_X9_basis_20 p1 p2 p3  Q  S) : RJ g cX9_basis RX9 (some .int) 5 6 20 [(0, .ref (g.1 + 353)), (1, .int p1), (2, .int p2), (3, .int p3)] [] S (Qi Q) := by
  unfold q_X9_basis_20 at h
  refine J_iconst (v := (-1)) dX9_basis_20 (by decide)  ?_
  exact J_iret dX9_basis_21 rfl rfl ⟨_, rfl, h⟩
def q_X9_basis_80 (p1 : Int32) (p2 : Int32) (p3 : Int32)  (Q : Int32 → Sto → Prop) (t0 : Int32) (S : Sto) : Prop := Q t0 S
set_option maxRecDepth 100000 in
set_option maxHeartbeats 4000000 in
theorem l_X9_basis_80 {g : Gv} (p1 : Int32) (p2 : Int32) (p3 : Int32)  (Q : Int32 → Sto → Prop)   (t0 : Int32) (S : Sto)  (h : q_X9_basis_80 p1 p2 p3  Q t0 S) : RJ g cX9_basis RX9 (some .int) 5 6 80 [(0, .ref (g.1 + 353)), (1, .int p1), (2, .int p2), (3, .int p3)] [.int t0] S (Qi Q) := by
  unfold q_X9_basis_80 at h
  exact J_iret dX9_basis_80 rfl rfl ⟨_, rfl, h⟩
def q_X9_basis_22 (p1 : Int32) (p2 : Int32) (p3 : Int32)  (Q : Int32 → Sto → Prop)  (S : Sto) : Prop := wp_X9_spans p1 S (fun S_1 => wp_X9_in ((p2 : Int32).toInt64) 0 (((S_1.1 353 25) - 1 : Int32).toInt64) S_1 (fun r_4 S_3 => ((¬ r_4 = 0 → wp_X9_rowAt p2 S_3 (fun r_7 S_6 => ((¬ p3 = ((-1)) → vp_in ((256 * r_7) + p3) (65536) ∧ q_X9_basis_80 p1 p2 p3  Q (S_6.1 366 ((256 * r_7) + p3 : Int32).toNatClampNeg) S_6) ∧ (p3 = ((-1)) → vp_in r_7 (256) ∧ q_X9_basis_80 p1 p2 p3  Q (S_6.1 367 (r_7 : Int32).toNatClampNeg) S_6)))) ∧ (r_4 = 0 → Q ((-1)) S_3))))
set_option maxRecDepth 100000 in
set_option maxHeartbeats 4000000 in
theorem l_X9_basis_22 {g : Gv} (p1 : Int32) (p2 : Int32) (p3 : Int32)  (Q : Int32 → Sto → Prop)    (S : Sto)  (h : q_X9_basis_22 p1 p2 p3  Q  S) : RJ g cX9_basis RX9 (some .int) 5 6 22 [(0, .ref (g.1 + 353)), (1, .int p1), (2, .int p2), (3, .int p3)] [] S (Qi Q) := by
  unfold q_X9_basis_22 at h
  refine J_aload_n dX9_basis_22 rfl 0 rfl  ?_
  refine J_iload_n dX9_basis_23 rfl 1 rfl  ?_
  refine J_callV (h := 353) (ci := 7) (As := [.int p1]) (rest := []) (n := 1) dX9_basis_24 (c_X9_spans p1  _ _ h) (by decide) rfl tb_5_64 tb_5_61 tb_1_8 tb_5_63 sl_33 (by decide) rfl (by decide) (by decide) (Nat.le_of_ble_eq_true rfl) rfl (fun v_r_2 S_1 hq => ?_)
  obtain ⟨rfl, h⟩ := hq
  dsimp only [Option.toList, List.cons_append, List.nil_append]
  refine J_iload_n dX9_basis_27 rfl 2 rfl  ?_
  refine J_i2l dX9_basis_28  ?_
  refine J_lconst (v := 0) dX9_basis_29 (by decide)  ?_
  refine J_aload_n dX9_basis_30 rfl 0 rfl  ?_
  refine J_geti (ci := 7) dX9_basis_31 25 rfl giX9 (by decide) (by decide) rfl rfl tb_4_136 rfl  ?_
  refine J_iconst (v := 1) dX9_basis_34 (by decide)  ?_
  refine J_isub dX9_basis_35  ?_
  refine J_i2l dX9_basis_36  ?_
  refine J_callS (As := [.long ((p2 : Int32).toInt64), .long 0, .long (((S_1.1 353 25) - 1 : Int32).toInt64)]) (rest := []) (n := 3) dX9_basis_37 (c_X9_in ((p2 : Int32).toInt64) 0 (((S_1.1 353 25) - 1 : Int32).toInt64)  _ _ h) tb_5_9 tb_5_7 tb_1_8 tb_5_8 (by decide) rfl (by decide) (by decide) (Nat.le_of_ble_eq_true rfl) rfl (fun v_r_4 S_3 hq => ?_)
  obtain ⟨r_4, rfl, h⟩ := hq
  dsimp only [Option.toList, List.cons_append, List.nil_append]
  refine J_if_ne (tgt := 45) dX9_basis_40 (by decide) (fun c_5 => ?_) (fun c_5 => ?_)
  · have h := h.1 c_5
    refine J_aload_n dX9_basis_45 rfl 0 rfl  ?_
    refine J_iload_n dX9_basis_46 rfl 2 rfl  ?_
    refine J_callV (h := 353) (ci := 7) (As := [.int p2]) (rest := []) (n := 1) dX9_basis_47 (c_X9_rowAt p2  _ _ h) (by decide) rfl tb_5_196 tb_5_193 tb_1_8 tb_5_195 sl_51 (by decide) rfl (by decide) (by decide) (Nat.le_of_ble_eq_true rfl) rfl (fun v_r_7 S_6 hq => ?_)
    obtain ⟨r_7, rfl, h⟩ := hq
    dsimp only [Option.toList, List.cons_append, List.nil_append]
    refine J_istore (lv' := [(0, .ref (g.1 + 353)), (1, .int p1), (2, .int p2), (3, .int p3), (4, .int r_7)]) dX9_basis_50 (by decide) [1, 2, 3, 4, 0] rfl  ?_
    refine J_iload_n dX9_basis_52 rfl 3 rfl  ?_
    refine J_iconst (v := (-1)) dX9_basis_53 (by decide)  ?_
    refine J_icmp_ne (tgt := 67) dX9_basis_54 (by decide) (fun c_8 => ?_) (fun c_8 => ?_)
    · have h := h.1 c_8
      refine J_aload_n dX9_basis_67 rfl 0 rfl  ?_
      refine J_getr (r := 366) (ci := 7) dX9_basis_68 22 rfl giX9 (by decide) (by decide) rfl rfl tb_4_133 (by decide) (by decide)  ?_
      refine J_sipush (v := 256) dX9_basis_71 (by decide)  ?_
      refine J_iload dX9_basis_74 4 rfl  ?_
      refine J_imul dX9_basis_76  ?_
      refine J_iload_n dX9_basis_77 rfl 3 rfl  ?_
      refine J_iadd dX9_basis_78  ?_
      obtain ⟨hi_9, h⟩ := h
      refine J_iald dX9_basis_79 (by decide) hi_9  ?_
      refine J_sub (lv' := [(0, .ref (g.1 + 353)), (1, .int p1), (2, .int p2), (3, .int p3)]) [0, 1, 2, 3] rfl ?_
      exact l_X9_basis_80 p1 p2 p3  _   _ _  h
    · have h := h.2 c_8
      refine J_aload_n dX9_basis_57 rfl 0 rfl  ?_
      refine J_getr (r := 367) (ci := 7) dX9_basis_58 23 rfl giX9 (by decide) (by decide) rfl rfl tb_4_134 (by decide) (by decide)  ?_
      refine J_iload dX9_basis_61 4 rfl  ?_
      obtain ⟨hi_10, h⟩ := h
      refine J_iald dX9_basis_63 (by decide) hi_10  ?_
      refine J_goto (tgt := 80) dX9_basis_64 (by decide)  ?_
      refine J_sub (lv' := [(0, .ref (g.1 + 353)), (1, .int p1), (2, .int p2), (3, .int p3)]) [0, 1, 2, 3] rfl ?_
      exact l_X9_basis_80 p1 p2 p3  _   _ _  h
  · have h := h.2 c_5
    refine J_iconst (v := (-1)) dX9_basis_43 (by decide)  ?_
    exact J_iret dX9_basis_44 rfl rfl ⟨_, rfl, h⟩
def wp_X9_basis (p1 : Int32) (p2 : Int32) (p3 : Int32) (S : Sto) (Q : Int32 → Sto → Prop) : Prop := wp_X9_isSide p1 S (fun r_2 S_1 => ((r_2 = 0 → q_X9_basis_20 p1 p2 p3  Q  S_1) ∧ (¬ r_2 = 0 → ((p3 = ((-1)) → q_X9_basis_22 p1 p2 p3  Q  S_1) ∧ (¬ p3 = ((-1)) → wp_X9_isPlace p3 S_1 (fun r_6 S_5 => ((¬ r_6 = 0 → q_X9_basis_22 p1 p2 p3  Q  S_5) ∧ (r_6 = 0 → q_X9_basis_20 p1 p2 p3  Q  S_5))))))))
set_option maxRecDepth 100000 in
set_option maxHeartbeats 4000000 in
theorem c_X9_basis {g : Gv} (p1 : Int32) (p2 : Int32) (p3 : Int32)  (S : Sto) (Q : Int32 → Sto → Prop) (h : wp_X9_basis p1 p2 p3 S Q) : CT g yX9_basis cX9_basis 5 (some .int) 6 [.ref (g.1 + 353), .int p1, .int p2, .int p3] S (Qi Q) := by
  unfold wp_X9_basis at h
  refine CT.of (by decide) (Nat.le_of_ble_eq_true rfl) ?_
  refine J_sub (lv' := [(0, .ref (g.1 + 353)), (1, .int p1), (2, .int p2), (3, .int p3)]) [0, 1, 2, 3] rfl ?_
  refine J_iload_n dX9_basis_0 rfl 1 rfl  ?_
  refine J_callS (As := [.int p1]) (rest := []) (n := 1) dX9_basis_1 (c_X9_isSide p1  _ _ h) tb_5_188 tb_5_186 tb_1_8 tb_5_187 (by decide) rfl (by decide) (by decide) (Nat.le_of_ble_eq_true rfl) rfl (fun v_r_2 S_1 hq => ?_)
  obtain ⟨r_2, rfl, h⟩ := hq
  dsimp only [Option.toList, List.cons_append, List.nil_append]
  refine J_if_eq (tgt := 20) dX9_basis_4 (by decide) (fun c_3 => ?_) (fun c_3 => ?_)
  · have h := h.1 c_3
    exact l_X9_basis_20 p1 p2 p3  _    _  h
  · have h := h.2 c_3
    refine J_iload_n dX9_basis_7 rfl 3 rfl  ?_
    refine J_iconst (v := (-1)) dX9_basis_8 (by decide)  ?_
    refine J_icmp_eq (tgt := 22) dX9_basis_9 (by decide) (fun c_4 => ?_) (fun c_4 => ?_)
    · have h := h.1 c_4
      exact l_X9_basis_22 p1 p2 p3  _    _  h
    · have h := h.2 c_4
      refine J_aload_n dX9_basis_12 rfl 0 rfl  ?_
      refine J_iload_n dX9_basis_13 rfl 3 rfl  ?_
      refine J_callV (h := 353) (ci := 7) (As := [.int p3]) (rest := []) (n := 1) dX9_basis_14 (c_X9_isPlace p3  _ _ h) (by decide) rfl tb_5_33 tb_5_30 tb_1_8 tb_5_32 sl_29 (by decide) rfl (by decide) (by decide) (Nat.le_of_ble_eq_true rfl) rfl (fun v_r_6 S_5 hq => ?_)
      obtain ⟨r_6, rfl, h⟩ := hq
      dsimp only [Option.toList, List.cons_append, List.nil_append]
      refine J_if_ne (tgt := 22) dX9_basis_17 (by decide) (fun c_7 => ?_) (fun c_7 => ?_)
      · have h := h.1 c_7
        exact l_X9_basis_22 p1 p2 p3  _    _  h
      · have h := h.2 c_7
        exact l_X9_basis_20 p1 p2 p3  _    _  h
def q_X9_liesWithin_7 (p1 : Int32)  (Q : Int32 → Sto → Prop) : Nat → Int32 → Sto → Prop
  | 0, _, _ => False
  | n + 1, x2, S => (((S.1 353 3) ≤ x2 → Q 1 S) ∧ (¬ (S.1 353 3) ≤ x2 → vp_in x2 (16) ∧ (((S.1 373 (x2 : Int32).toNatClampNeg) = 0 → ∀ x2_4 : Int32, x2_4 = x2 + 1 → q_X9_liesWithin_7 p1  Q n x2_4 S) ∧ (¬ (S.1 373 (x2 : Int32).toNatClampNeg) = 0 → Q 0 S))))
set_option maxRecDepth 100000 in
set_option maxHeartbeats 4000000 in
theorem l_X9_liesWithin_7 {g : Gv} (p1 : Int32)  (Q : Int32 → Sto → Prop)   (n : Nat) : ∀ (x2 : Int32) (S : Sto)  (h : q_X9_liesWithin_7 p1  Q n x2 S), RJ g cX9_liesWithin RX9 (some .boolean) 3 4 7 [(0, .ref (g.1 + 353)), (1, .int p1), (2, .int x2)] [] S (Qi Q) := by
  induction n with
  | zero => intro x2 S  h; exact h.elim
  | succ n ih =>
    intro x2 S  h
    unfold q_X9_liesWithin_7 at h
    refine J_iload_n dX9_liesWithin_7 rfl 2 rfl  ?_
    refine J_aload_n dX9_liesWithin_8 rfl 0 rfl  ?_
    refine J_geti (ci := 7) dX9_liesWithin_9 3 rfl giX9 (by decide) (by decide) rfl rfl tb_4_114 rfl  ?_
    refine J_icmp_ge (tgt := 32) dX9_liesWithin_12 (by decide) (fun c_1 => ?_) (fun c_1 => ?_)
    · have h := h.1 c_1
      refine J_iconst (v := 1) dX9_liesWithin_32 (by decide)  ?_
      exact J_iret dX9_liesWithin_33 rfl rfl ⟨_, rfl, h⟩
    · have h := h.2 c_1
      refine J_aload_n dX9_liesWithin_15 rfl 0 rfl  ?_
      refine J_getr (r := 373) (ci := 7) dX9_liesWithin_16 31 rfl giX9 (by decide) (by decide) rfl rfl tb_4_142 (by decide) (by decide)  ?_
      refine J_iload_n dX9_liesWithin_19 rfl 2 rfl  ?_
      obtain ⟨hi_2, h⟩ := h
      refine J_iald dX9_liesWithin_20 (by decide) hi_2  ?_
      refine J_if_eq (tgt := 26) dX9_liesWithin_21 (by decide) (fun c_3 => ?_) (fun c_3 => ?_)
      · have h := h.1 c_3
        obtain ⟨x2_4, ex2_4⟩ : ∃ y : Int32, y = x2 + 1 := ⟨_, rfl⟩
        have h := h x2_4 ex2_4
        refine J_iinc (v := x2_4) (lv' := [(0, .ref (g.1 + 353)), (1, .int p1), (2, .int x2_4)]) dX9_liesWithin_26 (q := 2) rfl (by rw [ex2_4]; rfl) (by decide) [1, 2, 0] rfl  ?_
        refine J_goto (tgt := 7) dX9_liesWithin_29 (by decide)  ?_
        exact ih _ _  h
      · have h := h.2 c_3
        refine J_iconst (v := 0) dX9_liesWithin_24 (by decide)  ?_
        exact J_iret dX9_liesWithin_25 rfl rfl ⟨_, rfl, h⟩
def wp_X9_liesWithin (p1 : Int32) (S : Sto) (Q : Int32 → Sto → Prop) : Prop := wp_X9_rests p1 S (fun S_1 => (∃ n_7, q_X9_liesWithin_7 p1  Q n_7 0 S_1))
set_option maxRecDepth 100000 in
set_option maxHeartbeats 4000000 in
theorem c_X9_liesWithin {g : Gv} (p1 : Int32)  (S : Sto) (Q : Int32 → Sto → Prop) (h : wp_X9_liesWithin p1 S Q) : CT g yX9_liesWithin cX9_liesWithin 3 (some .boolean) 4 [.ref (g.1 + 353), .int p1] S (Qi Q) := by
  unfold wp_X9_liesWithin at h
  refine CT.of (by decide) (Nat.le_of_ble_eq_true rfl) ?_
  refine J_sub (lv' := [(0, .ref (g.1 + 353)), (1, .int p1)]) [0, 1] rfl ?_
  refine J_aload_n dX9_liesWithin_0 rfl 0 rfl  ?_
  refine J_iload_n dX9_liesWithin_1 rfl 1 rfl  ?_
  refine J_callV (h := 353) (ci := 7) (As := [.int p1]) (rest := []) (n := 1) dX9_liesWithin_2 (c_X9_rests p1  _ _ h) (by decide) rfl tb_5_100 tb_5_97 tb_1_8 tb_5_99 sl_41 (by decide) rfl (by decide) (by decide) (Nat.le_of_ble_eq_true rfl) rfl (fun v_r_2 S_1 hq => ?_)
  obtain ⟨rfl, h⟩ := hq
  dsimp only [Option.toList, List.cons_append, List.nil_append]
  refine J_iconst (v := 0) dX9_liesWithin_5 (by decide)  ?_
  refine J_istore_n (lv' := [(0, .ref (g.1 + 353)), (1, .int p1), (2, .int 0)]) dX9_liesWithin_6 rfl (by decide) [1, 2, 0] rfl  ?_
  obtain ⟨n, h⟩ := h
  exact l_X9_liesWithin_7 p1  _   n _ _  h
def q_X9_within_14 (p1 : Int32) (p2 : Int32)  (Q : Int32 → Sto → Prop)  (S : Sto) : Prop := Q ((-1)) S
set_option maxRecDepth 100000 in
set_option maxHeartbeats 4000000 in
theorem l_X9_within_14 {g : Gv} (p1 : Int32) (p2 : Int32)  (Q : Int32 → Sto → Prop)    (S : Sto)  (h : q_X9_within_14 p1 p2  Q  S) : RJ g cX9_within RX9 (some .int) 3 6 14 [(0, .ref (g.1 + 353)), (1, .int p1), (2, .int p2)] [] S (Qi Q) := by
  unfold q_X9_within_14 at h
  refine J_iconst (v := (-1)) dX9_within_14 (by decide)  ?_
  exact J_iret dX9_within_15 rfl rfl ⟨_, rfl, h⟩
def q_X9_within_34 (p1 : Int32) (p2 : Int32)  (Q : Int32 → Sto → Prop) (t0 : Int32) (S : Sto) : Prop := Q t0 S
set_option maxRecDepth 100000 in
set_option maxHeartbeats 4000000 in
theorem l_X9_within_34 {g : Gv} (p1 : Int32) (p2 : Int32)  (Q : Int32 → Sto → Prop)   (t0 : Int32) (S : Sto)  (h : q_X9_within_34 p1 p2  Q t0 S) : RJ g cX9_within RX9 (some .int) 3 6 34 [(0, .ref (g.1 + 353)), (1, .int p1), (2, .int p2)] [.int t0] S (Qi Q) := by
  unfold q_X9_within_34 at h
  exact J_iret dX9_within_34 rfl rfl ⟨_, rfl, h⟩
def wp_X9_within (p1 : Int32) (p2 : Int32) (S : Sto) (Q : Int32 → Sto → Prop) : Prop := wp_X9_isSide p1 S (fun r_2 S_1 => ((r_2 = 0 → q_X9_within_14 p1 p2  Q  S_1) ∧ (¬ r_2 = 0 → wp_X9_isElement p2 S_1 (fun r_5 S_4 => ((¬ r_5 = 0 → wp_X9_spans p1 S_4 (fun S_7 => wp_X9_liesWithin p2 S_7 (fun r_10 S_9 => ((r_10 = 0 → q_X9_within_34 p1 p2  Q 0 S_9) ∧ (¬ r_10 = 0 → q_X9_within_34 p1 p2  Q 1 S_9))))) ∧ (r_5 = 0 → q_X9_within_14 p1 p2  Q  S_4))))))
set_option maxRecDepth 100000 in
set_option maxHeartbeats 4000000 in
theorem c_X9_within {g : Gv} (p1 : Int32) (p2 : Int32)  (S : Sto) (Q : Int32 → Sto → Prop) (h : wp_X9_within p1 p2 S Q) : CT g yX9_within cX9_within 3 (some .int) 6 [.ref (g.1 + 353), .int p1, .int p2] S (Qi Q) := by
  unfold wp_X9_within at h
  refine CT.of (by decide) (Nat.le_of_ble_eq_true rfl) ?_
  refine J_sub (lv' := [(0, .ref (g.1 + 353)), (1, .int p1), (2, .int p2)]) [0, 1, 2] rfl ?_
  refine J_iload_n dX9_within_0 rfl 1 rfl  ?_
  refine J_callS (As := [.int p1]) (rest := []) (n := 1) dX9_within_1 (c_X9_isSide p1  _ _ h) tb_5_188 tb_5_186 tb_1_8 tb_5_187 (by decide) rfl (by decide) (by decide) (Nat.le_of_ble_eq_true rfl) rfl (fun v_r_2 S_1 hq => ?_)
  obtain ⟨r_2, rfl, h⟩ := hq
  dsimp only [Option.toList, List.cons_append, List.nil_append]
  refine J_if_eq (tgt := 14) dX9_within_4 (by decide) (fun c_3 => ?_) (fun c_3 => ?_)
  · have h := h.1 c_3
    exact l_X9_within_14 p1 p2  _    _  h
  · have h := h.2 c_3
    refine J_iload_n dX9_within_7 rfl 2 rfl  ?_
    refine J_callS (As := [.int p2]) (rest := []) (n := 1) dX9_within_8 (c_X9_isElement p2  _ _ h) tb_5_28 tb_5_26 tb_1_8 tb_5_27 (by decide) rfl (by decide) (by decide) (Nat.le_of_ble_eq_true rfl) rfl (fun v_r_5 S_4 hq => ?_)
    obtain ⟨r_5, rfl, h⟩ := hq
    dsimp only [Option.toList, List.cons_append, List.nil_append]
    refine J_if_ne (tgt := 16) dX9_within_11 (by decide) (fun c_6 => ?_) (fun c_6 => ?_)
    · have h := h.1 c_6
      refine J_aload_n dX9_within_16 rfl 0 rfl  ?_
      refine J_iload_n dX9_within_17 rfl 1 rfl  ?_
      refine J_callV (h := 353) (ci := 7) (As := [.int p1]) (rest := []) (n := 1) dX9_within_18 (c_X9_spans p1  _ _ h) (by decide) rfl tb_5_64 tb_5_61 tb_1_8 tb_5_63 sl_33 (by decide) rfl (by decide) (by decide) (Nat.le_of_ble_eq_true rfl) rfl (fun v_r_8 S_7 hq => ?_)
      obtain ⟨rfl, h⟩ := hq
      dsimp only [Option.toList, List.cons_append, List.nil_append]
      refine J_aload_n dX9_within_21 rfl 0 rfl  ?_
      refine J_iload_n dX9_within_22 rfl 2 rfl  ?_
      refine J_callV (h := 353) (ci := 7) (As := [.int p2]) (rest := []) (n := 1) dX9_within_23 (c_X9_liesWithin p2  _ _ h) (by decide) rfl tb_5_204 tb_5_201 tb_1_8 tb_5_203 sl_52 (by decide) rfl (by decide) (by decide) (Nat.le_of_ble_eq_true rfl) rfl (fun v_r_10 S_9 hq => ?_)
      obtain ⟨r_10, rfl, h⟩ := hq
      dsimp only [Option.toList, List.cons_append, List.nil_append]
      refine J_if_eq (tgt := 33) dX9_within_26 (by decide) (fun c_11 => ?_) (fun c_11 => ?_)
      · have h := h.1 c_11
        refine J_iconst (v := 0) dX9_within_33 (by decide)  ?_
        exact l_X9_within_34 p1 p2  _   _ _  h
      · have h := h.2 c_11
        refine J_iconst (v := 1) dX9_within_29 (by decide)  ?_
        refine J_goto (tgt := 34) dX9_within_30 (by decide)  ?_
        exact l_X9_within_34 p1 p2  _   _ _  h
    · have h := h.2 c_6
      exact l_X9_within_14 p1 p2  _    _  h
def q_X9_rest_22 (p1 : Int32) (p2 : Int32) (p3 : Int32)  (Q : Int32 → Sto → Prop)  (S : Sto) : Prop := Q ((-1)) S
set_option maxRecDepth 100000 in
set_option maxHeartbeats 4000000 in
theorem l_X9_rest_22 {g : Gv} (p1 : Int32) (p2 : Int32) (p3 : Int32)  (Q : Int32 → Sto → Prop)    (S : Sto)  (h : q_X9_rest_22 p1 p2 p3  Q  S) : RJ g cX9_rest RX9 (some .int) 4 6 22 [(0, .ref (g.1 + 353)), (1, .int p1), (2, .int p2), (3, .int p3)] [] S (Qi Q) := by
  unfold q_X9_rest_22 at h
  refine J_iconst (v := (-1)) dX9_rest_22 (by decide)  ?_
  exact J_iret dX9_rest_23 rfl rfl ⟨_, rfl, h⟩
def wp_X9_rest (p1 : Int32) (p2 : Int32) (p3 : Int32) (S : Sto) (Q : Int32 → Sto → Prop) : Prop := wp_X9_isSide p1 S (fun r_2 S_1 => ((r_2 = 0 → q_X9_rest_22 p1 p2 p3  Q  S_1) ∧ (¬ r_2 = 0 → wp_X9_isElement p2 S_1 (fun r_5 S_4 => ((r_5 = 0 → q_X9_rest_22 p1 p2 p3  Q  S_4) ∧ (¬ r_5 = 0 → wp_X9_isPlace p3 S_4 (fun r_8 S_7 => ((¬ r_8 = 0 → wp_X9_spans p1 S_7 (fun S_10 => wp_X9_rests p2 S_10 (fun S_12 => vp_in p3 (16) ∧ Q (S_12.1 373 (p3 : Int32).toNatClampNeg) S_12))) ∧ (r_8 = 0 → q_X9_rest_22 p1 p2 p3  Q  S_7)))))))))
set_option maxRecDepth 100000 in
set_option maxHeartbeats 4000000 in
theorem c_X9_rest {g : Gv} (p1 : Int32) (p2 : Int32) (p3 : Int32)  (S : Sto) (Q : Int32 → Sto → Prop) (h : wp_X9_rest p1 p2 p3 S Q) : CT g yX9_rest cX9_rest 4 (some .int) 6 [.ref (g.1 + 353), .int p1, .int p2, .int p3] S (Qi Q) := by
  unfold wp_X9_rest at h
  refine CT.of (by decide) (Nat.le_of_ble_eq_true rfl) ?_
  refine J_sub (lv' := [(0, .ref (g.1 + 353)), (1, .int p1), (2, .int p2), (3, .int p3)]) [0, 1, 2, 3] rfl ?_
  refine J_iload_n dX9_rest_0 rfl 1 rfl  ?_
  refine J_callS (As := [.int p1]) (rest := []) (n := 1) dX9_rest_1 (c_X9_isSide p1  _ _ h) tb_5_188 tb_5_186 tb_1_8 tb_5_187 (by decide) rfl (by decide) (by decide) (Nat.le_of_ble_eq_true rfl) rfl (fun v_r_2 S_1 hq => ?_)
  obtain ⟨r_2, rfl, h⟩ := hq
  dsimp only [Option.toList, List.cons_append, List.nil_append]
  refine J_if_eq (tgt := 22) dX9_rest_4 (by decide) (fun c_3 => ?_) (fun c_3 => ?_)
  · have h := h.1 c_3
    exact l_X9_rest_22 p1 p2 p3  _    _  h
  · have h := h.2 c_3
    refine J_iload_n dX9_rest_7 rfl 2 rfl  ?_
    refine J_callS (As := [.int p2]) (rest := []) (n := 1) dX9_rest_8 (c_X9_isElement p2  _ _ h) tb_5_28 tb_5_26 tb_1_8 tb_5_27 (by decide) rfl (by decide) (by decide) (Nat.le_of_ble_eq_true rfl) rfl (fun v_r_5 S_4 hq => ?_)
    obtain ⟨r_5, rfl, h⟩ := hq
    dsimp only [Option.toList, List.cons_append, List.nil_append]
    refine J_if_eq (tgt := 22) dX9_rest_11 (by decide) (fun c_6 => ?_) (fun c_6 => ?_)
    · have h := h.1 c_6
      exact l_X9_rest_22 p1 p2 p3  _    _  h
    · have h := h.2 c_6
      refine J_aload_n dX9_rest_14 rfl 0 rfl  ?_
      refine J_iload_n dX9_rest_15 rfl 3 rfl  ?_
      refine J_callV (h := 353) (ci := 7) (As := [.int p3]) (rest := []) (n := 1) dX9_rest_16 (c_X9_isPlace p3  _ _ h) (by decide) rfl tb_5_33 tb_5_30 tb_1_8 tb_5_32 sl_29 (by decide) rfl (by decide) (by decide) (Nat.le_of_ble_eq_true rfl) rfl (fun v_r_8 S_7 hq => ?_)
      obtain ⟨r_8, rfl, h⟩ := hq
      dsimp only [Option.toList, List.cons_append, List.nil_append]
      refine J_if_ne (tgt := 24) dX9_rest_19 (by decide) (fun c_9 => ?_) (fun c_9 => ?_)
      · have h := h.1 c_9
        refine J_aload_n dX9_rest_24 rfl 0 rfl  ?_
        refine J_iload_n dX9_rest_25 rfl 1 rfl  ?_
        refine J_callV (h := 353) (ci := 7) (As := [.int p1]) (rest := []) (n := 1) dX9_rest_26 (c_X9_spans p1  _ _ h) (by decide) rfl tb_5_64 tb_5_61 tb_1_8 tb_5_63 sl_33 (by decide) rfl (by decide) (by decide) (Nat.le_of_ble_eq_true rfl) rfl (fun v_r_11 S_10 hq => ?_)
        obtain ⟨rfl, h⟩ := hq
        dsimp only [Option.toList, List.cons_append, List.nil_append]
        refine J_aload_n dX9_rest_29 rfl 0 rfl  ?_
        refine J_iload_n dX9_rest_30 rfl 2 rfl  ?_
        refine J_callV (h := 353) (ci := 7) (As := [.int p2]) (rest := []) (n := 1) dX9_rest_31 (c_X9_rests p2  _ _ h) (by decide) rfl tb_5_100 tb_5_97 tb_1_8 tb_5_99 sl_41 (by decide) rfl (by decide) (by decide) (Nat.le_of_ble_eq_true rfl) rfl (fun v_r_13 S_12 hq => ?_)
        obtain ⟨rfl, h⟩ := hq
        dsimp only [Option.toList, List.cons_append, List.nil_append]
        refine J_aload_n dX9_rest_34 rfl 0 rfl  ?_
        refine J_getr (r := 373) (ci := 7) dX9_rest_35 31 rfl giX9 (by decide) (by decide) rfl rfl tb_4_142 (by decide) (by decide)  ?_
        refine J_iload_n dX9_rest_38 rfl 3 rfl  ?_
        obtain ⟨hi_14, h⟩ := h
        refine J_iald dX9_rest_39 (by decide) hi_14  ?_
        exact J_iret dX9_rest_40 rfl rfl ⟨_, rfl, h⟩
      · have h := h.2 c_9
        exact l_X9_rest_22 p1 p2 p3  _    _  h
def q_X9_countOf_28 (p1 : Int32) (R4 : Int32 → Int32 → Sto → Prop) (Q : Int32 → Sto → Prop) (x2 : Int32) (x3 : Int32) (S : Sto) : Prop := ∀ x3_1 : Int32, x3_1 = x3 + 1 → R4 x2 x3_1 S
set_option maxRecDepth 100000 in
set_option maxHeartbeats 4000000 in
theorem l_X9_countOf_28 {g : Gv} (p1 : Int32) (R4 : Int32 → Int32 → Sto → Prop) (Q : Int32 → Sto → Prop) (hR4 : ∀ (y2 : Int32) (y3 : Int32) (S : Sto), R4 y2 y3 S → RJ g cX9_countOf RX9 (some .int) 4 3 4 [(0, .ref (g.1 + 353)), (1, .int p1), (2, .int y2), (3, .int y3)] [] S (Qi Q))  (x2 : Int32) (x3 : Int32) (S : Sto)  (h : q_X9_countOf_28 p1 R4 Q x2 x3 S) : RJ g cX9_countOf RX9 (some .int) 4 3 28 [(0, .ref (g.1 + 353)), (1, .int p1), (2, .int x2), (3, .int x3)] [] S (Qi Q) := by
  unfold q_X9_countOf_28 at h
  obtain ⟨x3_1, ex3_1⟩ : ∃ y : Int32, y = x3 + 1 := ⟨_, rfl⟩
  have h := h x3_1 ex3_1
  refine J_iinc (v := x3_1) (lv' := [(0, .ref (g.1 + 353)), (1, .int p1), (2, .int x2), (3, .int x3_1)]) dX9_countOf_28 (q := 3) rfl (by rw [ex3_1]; rfl) (by decide) [1, 2, 3, 0] rfl  ?_
  refine J_goto (tgt := 4) dX9_countOf_31 (by decide)  ?_
  exact hR4 _ _ _  h
def q_X9_countOf_4 (p1 : Int32)  (Q : Int32 → Sto → Prop) : Nat → Int32 → Int32 → Sto → Prop
  | 0, _, _, _ => False
  | n + 1, x2, x3, S => (((S.1 353 25) ≤ x3 → Q x2 S) ∧ (¬ (S.1 353 25) ≤ x3 → vp_in x3 (256) ∧ wp_X9_degree (S.1 367 (x3 : Int32).toNatClampNeg) S (fun r_4 S_3 => ((¬ r_4 = p1 → q_X9_countOf_28 p1 (fun y2 y3 S => q_X9_countOf_4 p1  Q n y2 y3 S) Q x2 x3 S_3) ∧ (r_4 = p1 → ∀ x2_6 : Int32, x2_6 = x2 + 1 → q_X9_countOf_28 p1 (fun y2 y3 S => q_X9_countOf_4 p1  Q n y2 y3 S) Q x2_6 x3 S_3)))))
set_option maxRecDepth 100000 in
set_option maxHeartbeats 4000000 in
theorem l_X9_countOf_4 {g : Gv} (p1 : Int32)  (Q : Int32 → Sto → Prop)   (n : Nat) : ∀ (x2 : Int32) (x3 : Int32) (S : Sto)  (h : q_X9_countOf_4 p1  Q n x2 x3 S), RJ g cX9_countOf RX9 (some .int) 4 3 4 [(0, .ref (g.1 + 353)), (1, .int p1), (2, .int x2), (3, .int x3)] [] S (Qi Q) := by
  induction n with
  | zero => intro x2 x3 S  h; exact h.elim
  | succ n ih =>
    intro x2 x3 S  h
    unfold q_X9_countOf_4 at h
    refine J_iload_n dX9_countOf_4 rfl 3 rfl  ?_
    refine J_aload_n dX9_countOf_5 rfl 0 rfl  ?_
    refine J_geti (ci := 7) dX9_countOf_6 25 rfl giX9 (by decide) (by decide) rfl rfl tb_4_136 rfl  ?_
    refine J_icmp_ge (tgt := 34) dX9_countOf_9 (by decide) (fun c_1 => ?_) (fun c_1 => ?_)
    · have h := h.1 c_1
      refine J_iload_n dX9_countOf_34 rfl 2 rfl  ?_
      exact J_iret dX9_countOf_35 rfl rfl ⟨_, rfl, h⟩
    · have h := h.2 c_1
      refine J_aload_n dX9_countOf_12 rfl 0 rfl  ?_
      refine J_getr (r := 367) (ci := 7) dX9_countOf_13 23 rfl giX9 (by decide) (by decide) rfl rfl tb_4_134 (by decide) (by decide)  ?_
      refine J_iload_n dX9_countOf_16 rfl 3 rfl  ?_
      obtain ⟨hi_2, h⟩ := h
      refine J_iald dX9_countOf_17 (by decide) hi_2  ?_
      refine J_callS (As := [.int (S.1 367 (x3 : Int32).toNatClampNeg)]) (rest := []) (n := 1) dX9_countOf_18 (c_X9_degree (S.1 367 (x3 : Int32).toNatClampNeg)  _ _ h) tb_5_75 tb_5_73 tb_1_8 tb_5_74 (by decide) rfl (by decide) (by decide) (Nat.le_of_ble_eq_true rfl) rfl (fun v_r_4 S_3 hq => ?_)
      obtain ⟨r_4, rfl, h⟩ := hq
      dsimp only [Option.toList, List.cons_append, List.nil_append]
      refine J_iload_n dX9_countOf_21 rfl 1 rfl  ?_
      refine J_icmp_ne (tgt := 28) dX9_countOf_22 (by decide) (fun c_5 => ?_) (fun c_5 => ?_)
      · have h := h.1 c_5
        exact l_X9_countOf_28 p1 _ _ (fun y2 y3 S  h => ih y2 y3 S  h)  _ _ _  h
      · have h := h.2 c_5
        obtain ⟨x2_6, ex2_6⟩ : ∃ y : Int32, y = x2 + 1 := ⟨_, rfl⟩
        have h := h x2_6 ex2_6
        refine J_iinc (v := x2_6) (lv' := [(0, .ref (g.1 + 353)), (1, .int p1), (2, .int x2_6), (3, .int x3)]) dX9_countOf_25 (q := 2) rfl (by rw [ex2_6]; rfl) (by decide) [1, 2, 0, 3] rfl  ?_
        exact l_X9_countOf_28 p1 _ _ (fun y2 y3 S  h => ih y2 y3 S  h)  _ _ _  h
def wp_X9_countOf (p1 : Int32) (S : Sto) (Q : Int32 → Sto → Prop) : Prop := (∃ n_4, q_X9_countOf_4 p1  Q n_4 0 0 S)
set_option maxRecDepth 100000 in
set_option maxHeartbeats 4000000 in
theorem c_X9_countOf {g : Gv} (p1 : Int32)  (S : Sto) (Q : Int32 → Sto → Prop) (h : wp_X9_countOf p1 S Q) : CT g yX9_countOf cX9_countOf 4 (some .int) 3 [.ref (g.1 + 353), .int p1] S (Qi Q) := by
  unfold wp_X9_countOf at h
  refine CT.of (by decide) (Nat.le_of_ble_eq_true rfl) ?_
  refine J_sub (lv' := [(0, .ref (g.1 + 353)), (1, .int p1)]) [0, 1] rfl ?_
  refine J_iconst (v := 0) dX9_countOf_0 (by decide)  ?_
  refine J_istore_n (lv' := [(0, .ref (g.1 + 353)), (1, .int p1), (2, .int 0)]) dX9_countOf_1 rfl (by decide) [1, 2, 0] rfl  ?_
  refine J_iconst (v := 0) dX9_countOf_2 (by decide)  ?_
  refine J_istore_n (lv' := [(0, .ref (g.1 + 353)), (1, .int p1), (2, .int 0), (3, .int 0)]) dX9_countOf_3 rfl (by decide) [1, 2, 3, 0] rfl  ?_
  obtain ⟨n, h⟩ := h
  exact l_X9_countOf_4 p1  _   n _ _ _  h
def q_X9_count_21 (p1 : Int32) (p2 : Int32)  (Q : Int32 → Sto → Prop)  (S : Sto) : Prop := Q ((-1)) S
set_option maxRecDepth 100000 in
set_option maxHeartbeats 4000000 in
theorem l_X9_count_21 {g : Gv} (p1 : Int32) (p2 : Int32)  (Q : Int32 → Sto → Prop)    (S : Sto)  (h : q_X9_count_21 p1 p2  Q  S) : RJ g cX9_count RX9 (some .int) 3 6 21 [(0, .ref (g.1 + 353)), (1, .int p1), (2, .int p2)] [] S (Qi Q) := by
  unfold q_X9_count_21 at h
  refine J_iconst (v := (-1)) dX9_count_21 (by decide)  ?_
  exact J_iret dX9_count_22 rfl rfl ⟨_, rfl, h⟩
def wp_X9_count (p1 : Int32) (p2 : Int32) (S : Sto) (Q : Int32 → Sto → Prop) : Prop := wp_X9_isSide p1 S (fun r_2 S_1 => ((r_2 = 0 → q_X9_count_21 p1 p2  Q  S_1) ∧ (¬ r_2 = 0 → wp_X9_in ((p2 : Int32).toInt64) 0 ((S_1.1 353 0 : Int32).toInt64) S_1 (fun r_5 S_4 => ((¬ r_5 = 0 → wp_X9_spans p1 S_4 (fun S_7 => wp_X9_countOf p2 S_7 (fun r_10 S_9 => Q r_10 S_9))) ∧ (r_5 = 0 → q_X9_count_21 p1 p2  Q  S_4))))))
set_option maxRecDepth 100000 in
set_option maxHeartbeats 4000000 in
theorem c_X9_count {g : Gv} (p1 : Int32) (p2 : Int32)  (S : Sto) (Q : Int32 → Sto → Prop) (h : wp_X9_count p1 p2 S Q) : CT g yX9_count cX9_count 3 (some .int) 6 [.ref (g.1 + 353), .int p1, .int p2] S (Qi Q) := by
  unfold wp_X9_count at h
  refine CT.of (by decide) (Nat.le_of_ble_eq_true rfl) ?_
  refine J_sub (lv' := [(0, .ref (g.1 + 353)), (1, .int p1), (2, .int p2)]) [0, 1, 2] rfl ?_
  refine J_iload_n dX9_count_0 rfl 1 rfl  ?_
  refine J_callS (As := [.int p1]) (rest := []) (n := 1) dX9_count_1 (c_X9_isSide p1  _ _ h) tb_5_188 tb_5_186 tb_1_8 tb_5_187 (by decide) rfl (by decide) (by decide) (Nat.le_of_ble_eq_true rfl) rfl (fun v_r_2 S_1 hq => ?_)
  obtain ⟨r_2, rfl, h⟩ := hq
  dsimp only [Option.toList, List.cons_append, List.nil_append]
  refine J_if_eq (tgt := 21) dX9_count_4 (by decide) (fun c_3 => ?_) (fun c_3 => ?_)
  · have h := h.1 c_3
    exact l_X9_count_21 p1 p2  _    _  h
  · have h := h.2 c_3
    refine J_iload_n dX9_count_7 rfl 2 rfl  ?_
    refine J_i2l dX9_count_8  ?_
    refine J_lconst (v := 0) dX9_count_9 (by decide)  ?_
    refine J_aload_n dX9_count_10 rfl 0 rfl  ?_
    refine J_geti (ci := 7) dX9_count_11 0 rfl giX9 (by decide) (by decide) rfl rfl tb_4_111 rfl  ?_
    refine J_i2l dX9_count_14  ?_
    refine J_callS (As := [.long ((p2 : Int32).toInt64), .long 0, .long ((S_1.1 353 0 : Int32).toInt64)]) (rest := []) (n := 3) dX9_count_15 (c_X9_in ((p2 : Int32).toInt64) 0 ((S_1.1 353 0 : Int32).toInt64)  _ _ h) tb_5_9 tb_5_7 tb_1_8 tb_5_8 (by decide) rfl (by decide) (by decide) (Nat.le_of_ble_eq_true rfl) rfl (fun v_r_5 S_4 hq => ?_)
    obtain ⟨r_5, rfl, h⟩ := hq
    dsimp only [Option.toList, List.cons_append, List.nil_append]
    refine J_if_ne (tgt := 23) dX9_count_18 (by decide) (fun c_6 => ?_) (fun c_6 => ?_)
    · have h := h.1 c_6
      refine J_aload_n dX9_count_23 rfl 0 rfl  ?_
      refine J_iload_n dX9_count_24 rfl 1 rfl  ?_
      refine J_callV (h := 353) (ci := 7) (As := [.int p1]) (rest := []) (n := 1) dX9_count_25 (c_X9_spans p1  _ _ h) (by decide) rfl tb_5_64 tb_5_61 tb_1_8 tb_5_63 sl_33 (by decide) rfl (by decide) (by decide) (Nat.le_of_ble_eq_true rfl) rfl (fun v_r_8 S_7 hq => ?_)
      obtain ⟨rfl, h⟩ := hq
      dsimp only [Option.toList, List.cons_append, List.nil_append]
      refine J_aload_n dX9_count_28 rfl 0 rfl  ?_
      refine J_iload_n dX9_count_29 rfl 2 rfl  ?_
      refine J_callV (h := 353) (ci := 7) (As := [.int p2]) (rest := []) (n := 1) dX9_count_30 (c_X9_countOf p2  _ _ h) (by decide) rfl tb_5_216 tb_5_213 tb_1_8 tb_5_215 sl_53 (by decide) rfl (by decide) (by decide) (Nat.le_of_ble_eq_true rfl) rfl (fun v_r_10 S_9 hq => ?_)
      obtain ⟨r_10, rfl, h⟩ := hq
      dsimp only [Option.toList, List.cons_append, List.nil_append]
      exact J_iret dX9_count_33 rfl rfl ⟨_, rfl, h⟩
    · have h := h.2 c_6
      exact l_X9_count_21 p1 p2  _    _  h
def q_Jxf58ca_isNaN_12338_11 (p0 : UInt32)  (Q : Int32 → Sto → Prop) (t0 : Int32) (S : Sto) : Prop := narrow .boolean (.int t0) = .int t0 ∧ Q t0 S
set_option maxRecDepth 100000 in
set_option maxHeartbeats 4000000 in
theorem l_Jxf58ca_isNaN_12338_11 {g : Gv} (p0 : UInt32)  (Q : Int32 → Sto → Prop)   (t0 : Int32) (S : Sto)  (h : q_Jxf58ca_isNaN_12338_11 p0  Q t0 S) : RJ g cJxf58ca_isNaN_12338 RJxf58ca (some .boolean) 1 1 11 [(0, .float p0)] [.int t0] S (Qi Q) := by
  unfold q_Jxf58ca_isNaN_12338_11 at h
  obtain ⟨hb, h⟩ := h
  exact J_iret dJxf58ca_isNaN_12338_11 rfl hb ⟨_, rfl, h⟩
def wp_Jxf58ca_isNaN_12338 (p0 : UInt32) (S : Sto) (Q : Int32 → Sto → Prop) : Prop := (((Op.cmpValue (FP.fcmp p0 p0) .l) = 0 → q_Jxf58ca_isNaN_12338_11 p0  Q 0 S) ∧ (¬ (Op.cmpValue (FP.fcmp p0 p0) .l) = 0 → q_Jxf58ca_isNaN_12338_11 p0  Q 1 S))
set_option maxRecDepth 100000 in
set_option maxHeartbeats 4000000 in
theorem c_Jxf58ca_isNaN_12338 {g : Gv} (p0 : UInt32)  (S : Sto) (Q : Int32 → Sto → Prop) (h : wp_Jxf58ca_isNaN_12338 p0 S Q) : CT g yJxf58ca_isNaN_12338 cJxf58ca_isNaN_12338 1 (some .boolean) 1 [.float p0] S (Qi Q) := by
  unfold wp_Jxf58ca_isNaN_12338 at h
  refine CT.ofF (by decide +kernel) (Nat.le_of_ble_eq_true rfl) ?_
  refine J_sub (lv' := [(0, .float p0)]) [0] rfl ?_
  refine J_fload_n dJxf58ca_isNaN_12338_0 rfl 0 rfl  ?_
  refine J_fload_n dJxf58ca_isNaN_12338_1 rfl 0 rfl  ?_
  refine J_fcmp dJxf58ca_isNaN_12338_2  ?_
  refine J_if_eq (tgt := 10) dJxf58ca_isNaN_12338_3 (by decide) (fun c_1 => ?_) (fun c_1 => ?_)
  · have h := h.1 c_1
    refine J_iconst (v := 0) dJxf58ca_isNaN_12338_10 (by decide)  ?_
    exact l_Jxf58ca_isNaN_12338_11 p0  _   _ _  h
  · have h := h.2 c_1
    refine J_iconst (v := 1) dJxf58ca_isNaN_12338_6 (by decide)  ?_
    refine J_goto (tgt := 11) dJxf58ca_isNaN_12338_7 (by decide)  ?_
    exact l_Jxf58ca_isNaN_12338_11 p0  _   _ _  h
def wp_Jxf58ca_floatToIntBits_5c35a (p0 : UInt32) (S : Sto) (Q : Int32 → Sto → Prop) : Prop := wp_Jxf58ca_isNaN_12338 p0 S (fun r_2 S_1 => ((¬ r_2 = 0 → Q 2143289344 S_1) ∧ (r_2 = 0 → Q p0.toInt32 S_1)))
set_option maxRecDepth 100000 in
set_option maxHeartbeats 4000000 in
theorem c_Jxf58ca_floatToIntBits_5c35a {g : Gv} (p0 : UInt32)  (S : Sto) (Q : Int32 → Sto → Prop) (h : wp_Jxf58ca_floatToIntBits_5c35a p0 S Q) : CT g yJxf58ca_floatToIntBits_5c35a cJxf58ca_floatToIntBits_5c35a 1 (some .int) 2 [.float p0] S (Qi Q) := by
  unfold wp_Jxf58ca_floatToIntBits_5c35a at h
  refine CT.ofF (by decide +kernel) (Nat.le_of_ble_eq_true rfl) ?_
  refine J_sub (lv' := [(0, .float p0)]) [0] rfl ?_
  refine J_fload_n dJxf58ca_floatToIntBits_5c35a_0 rfl 0 rfl  ?_
  refine J_callS (As := [.float p0]) (rest := []) (n := 1) dJxf58ca_floatToIntBits_5c35a_1 (c_Jxf58ca_isNaN_12338 p0  _ _ h) tb_5_227 tb_5_225 tb_1_13 tb_5_226 (by decide) rfl (by decide) (by decide) (Nat.le_of_ble_eq_true rfl) rfl (fun v_r_2 S_1 hq => ?_)
  obtain ⟨r_2, rfl, h⟩ := hq
  dsimp only [Option.toList, List.cons_append, List.nil_append]
  refine J_if_ne (tgt := 12) dJxf58ca_floatToIntBits_5c35a_4 (by decide) (fun c_3 => ?_) (fun c_3 => ?_)
  · have h := h.1 c_3
    refine J_ldc (v := 2143289344) dJxf58ca_floatToIntBits_5c35a_12 tb_5_231  ?_
    exact J_iret dJxf58ca_floatToIntBits_5c35a_14 rfl rfl ⟨_, rfl, h⟩
  · have h := h.2 c_3
    refine J_fload_n dJxf58ca_floatToIntBits_5c35a_7 rfl 0 rfl  ?_
    refine J_floatToRawIntBits dJxf58ca_floatToIntBits_5c35a_8 tb_5_228 tb_5_230 tb_5_229 tb_1_13 (by decide) (Nat.le_of_ble_eq_true rfl) ?_
    exact J_iret dJxf58ca_floatToIntBits_5c35a_11 rfl rfl ⟨_, rfl, h⟩
def q_X9_series_33 (p1 : Int32) (p2 : Int32) (p3 : Int32)  (Q : Int32 → Sto → Prop)  (S : Sto) : Prop := Q ((-2)) S
set_option maxRecDepth 100000 in
set_option maxHeartbeats 4000000 in
theorem l_X9_series_33 {g : Gv} (p1 : Int32) (p2 : Int32) (p3 : Int32)  (Q : Int32 → Sto → Prop)    (S : Sto)  (h : q_X9_series_33 p1 p2 p3  Q  S) : RJ g cX9_series RX9 (some .int) 9 6 33 [(0, .ref (g.1 + 353)), (1, .int p1), (2, .int p2), (3, .int p3)] [] S (Qi Q) := by
  unfold q_X9_series_33 at h
  refine J_bipush (v := (-2)) dX9_series_33 (by decide)  ?_
  exact J_iret dX9_series_35 rfl rfl ⟨_, rfl, h⟩
def q_X9_series_90 (p1 : Int32) (p2 : Int32) (p3 : Int32) (R57 : UInt32 → UInt32 → Int32 → Sto → Prop) (R68 : UInt32 → UInt32 → Int32 → Int32 → Int32 → Sto → Prop) (Q : Int32 → Sto → Prop) (x4 : UInt32) (x5 : UInt32) (x6 : Int32) (x7 : Int32) (x8 : Int32) (S : Sto) : Prop := ∀ x8_1 : Int32, x8_1 = x8 + 1 → R68 x4 x5 x6 x7 x8_1 S
set_option maxRecDepth 100000 in
set_option maxHeartbeats 4000000 in
theorem l_X9_series_90 {g : Gv} (p1 : Int32) (p2 : Int32) (p3 : Int32) (R57 : UInt32 → UInt32 → Int32 → Sto → Prop) (R68 : UInt32 → UInt32 → Int32 → Int32 → Int32 → Sto → Prop) (Q : Int32 → Sto → Prop) (hR57 : ∀ (y4 : UInt32) (y5 : UInt32) (y6 : Int32) (S : Sto), R57 y4 y5 y6 S → RJ g cX9_series RX9 (some .int) 9 6 57 [(0, .ref (g.1 + 353)), (1, .int p1), (2, .int p2), (3, .int p3), (4, .float y4), (5, .float y5), (6, .int y6)] [] S (Qi Q)) (hR68 : ∀ (y4 : UInt32) (y5 : UInt32) (y6 : Int32) (y7 : Int32) (y8 : Int32) (S : Sto), R68 y4 y5 y6 y7 y8 S → RJ g cX9_series RX9 (some .int) 9 6 68 [(0, .ref (g.1 + 353)), (1, .int p1), (2, .int p2), (3, .int p3), (4, .float y4), (5, .float y5), (6, .int y6), (7, .int y7), (8, .int y8)] [] S (Qi Q))  (x4 : UInt32) (x5 : UInt32) (x6 : Int32) (x7 : Int32) (x8 : Int32) (S : Sto)  (h : q_X9_series_90 p1 p2 p3 R57 R68 Q x4 x5 x6 x7 x8 S) : RJ g cX9_series RX9 (some .int) 9 6 90 [(0, .ref (g.1 + 353)), (1, .int p1), (2, .int p2), (3, .int p3), (4, .float x4), (5, .float x5), (6, .int x6), (7, .int x7), (8, .int x8)] [] S (Qi Q) := by
  unfold q_X9_series_90 at h
  obtain ⟨x8_1, ex8_1⟩ : ∃ y : Int32, y = x8 + 1 := ⟨_, rfl⟩
  have h := h x8_1 ex8_1
  refine J_iinc (v := x8_1) (lv' := [(0, .ref (g.1 + 353)), (1, .int p1), (2, .int p2), (3, .int p3), (4, .float x4), (5, .float x5), (6, .int x6), (7, .int x7), (8, .int x8_1)]) dX9_series_90 (q := 8) rfl (by rw [ex8_1]; rfl) (by decide) [1, 2, 3, 4, 5, 6, 7, 8, 0] rfl  ?_
  refine J_goto (tgt := 68) dX9_series_93 (by decide)  ?_
  exact hR68 _ _ _ _ _ _  h
def q_X9_series_68 (p1 : Int32) (p2 : Int32) (p3 : Int32) (R57 : UInt32 → UInt32 → Int32 → Sto → Prop) (Q : Int32 → Sto → Prop) : Nat → UInt32 → UInt32 → Int32 → Int32 → Int32 → Sto → Prop
  | 0, _, _, _, _, _, _ => False
  | n + 1, x4, x5, x6, x7, x8, S => (((S.1 353 3) ≤ x8 → vf_n32 (FP.fmul x5 x4) ∧ wp_X9_countOf x6 S (fun r_4 S_3 => vf_n32 (FP.fadd (FP.fmul x5 x4) (FP.i2f (x7 - r_4))) ∧ ∀ x5_6 : UInt32, x5_6 = FP.fadd (FP.fmul x5 x4) (FP.i2f (x7 - r_4)) → ∀ x6_7 : Int32, x6_7 = x6 + (-1) → R57 x4 x5_6 x6_7 S_3)) ∧ (¬ (S.1 353 3) ≤ x8 → wp_X9_degree x8 S (fun r_9 S_8 => ((¬ r_9 = x6 → q_X9_series_90 p1 p2 p3 R57 (fun y4 y5 y6 y7 y8 S => q_X9_series_68 p1 p2 p3 R57 Q n y4 y5 y6 y7 y8 S) Q x4 x5 x6 x7 x8 S_8) ∧ (r_9 = x6 → ∀ x7_11 : Int32, x7_11 = x7 + 1 → q_X9_series_90 p1 p2 p3 R57 (fun y4 y5 y6 y7 y8 S => q_X9_series_68 p1 p2 p3 R57 Q n y4 y5 y6 y7 y8 S) Q x4 x5 x6 x7_11 x8 S_8)))))
set_option maxRecDepth 100000 in
set_option maxHeartbeats 4000000 in
theorem l_X9_series_68 {g : Gv} (p1 : Int32) (p2 : Int32) (p3 : Int32) (R57 : UInt32 → UInt32 → Int32 → Sto → Prop) (Q : Int32 → Sto → Prop) (hR57 : ∀ (y4 : UInt32) (y5 : UInt32) (y6 : Int32) (S : Sto), R57 y4 y5 y6 S → RJ g cX9_series RX9 (some .int) 9 6 57 [(0, .ref (g.1 + 353)), (1, .int p1), (2, .int p2), (3, .int p3), (4, .float y4), (5, .float y5), (6, .int y6)] [] S (Qi Q))  (n : Nat) : ∀ (x4 : UInt32) (x5 : UInt32) (x6 : Int32) (x7 : Int32) (x8 : Int32) (S : Sto)  (h : q_X9_series_68 p1 p2 p3 R57 Q n x4 x5 x6 x7 x8 S), RJ g cX9_series RX9 (some .int) 9 6 68 [(0, .ref (g.1 + 353)), (1, .int p1), (2, .int p2), (3, .int p3), (4, .float x4), (5, .float x5), (6, .int x6), (7, .int x7), (8, .int x8)] [] S (Qi Q) := by
  induction n with
  | zero => intro x4 x5 x6 x7 x8 S  h; exact h.elim
  | succ n ih =>
    intro x4 x5 x6 x7 x8 S  h
    unfold q_X9_series_68 at h
    refine J_iload dX9_series_68 8 rfl  ?_
    refine J_aload_n dX9_series_70 rfl 0 rfl  ?_
    refine J_geti (ci := 7) dX9_series_71 3 rfl giX9 (by decide) (by decide) rfl rfl tb_4_114 rfl  ?_
    refine J_icmp_ge (tgt := 96) dX9_series_74 (by decide) (fun c_1 => ?_) (fun c_1 => ?_)
    · have h := h.1 c_1
      refine J_fload dX9_series_96 5 rfl  ?_
      refine J_fload dX9_series_98 4 rfl  ?_
      obtain ⟨hz_2, h⟩ := h
      refine J_fmul dX9_series_100 hz_2  ?_
      refine J_iload dX9_series_101 7 rfl  ?_
      refine J_aload_n dX9_series_103 rfl 0 rfl  ?_
      refine J_iload dX9_series_104 6 rfl  ?_
      refine J_callV (h := 353) (ci := 7) (As := [.int x6]) (rest := [.int x7, .float (FP.fmul x5 x4)]) (n := 1) dX9_series_106 (c_X9_countOf x6  _ _ h) (by decide) rfl tb_5_216 tb_5_213 tb_1_8 tb_5_215 sl_53 (by decide) rfl (by decide) (by decide) (Nat.le_of_ble_eq_true rfl) rfl (fun v_r_4 S_3 hq => ?_)
      obtain ⟨r_4, rfl, h⟩ := hq
      dsimp only [Option.toList, List.cons_append, List.nil_append]
      refine J_isub dX9_series_109  ?_
      refine J_i2f dX9_series_110  ?_
      obtain ⟨hz_5, h⟩ := h
      refine J_fadd dX9_series_111 hz_5  ?_
      refine J_topf (fun x5_6 ex5_6 => ?_)
      have h := h x5_6 ex5_6
      refine J_fstore (lv' := [(0, .ref (g.1 + 353)), (1, .int p1), (2, .int p2), (3, .int p3), (4, .float x4), (5, .float x5_6), (6, .int x6)]) dX9_series_112 (by decide) [1, 2, 3, 4, 5, 0, 6] rfl  ?_
      obtain ⟨x6_7, ex6_7⟩ : ∃ y : Int32, y = x6 + (-1) := ⟨_, rfl⟩
      have h := h x6_7 ex6_7
      refine J_iinc (v := x6_7) (lv' := [(0, .ref (g.1 + 353)), (1, .int p1), (2, .int p2), (3, .int p3), (4, .float x4), (5, .float x5_6), (6, .int x6_7)]) dX9_series_114 (q := 6) rfl (by rw [ex6_7]; rfl) (by decide) [1, 2, 3, 4, 5, 6, 0] rfl  ?_
      refine J_goto (tgt := 57) dX9_series_117 (by decide)  ?_
      exact hR57 _ _ _ _  h
    · have h := h.2 c_1
      refine J_iload dX9_series_77 8 rfl  ?_
      refine J_callS (As := [.int x8]) (rest := []) (n := 1) dX9_series_79 (c_X9_degree x8  _ _ h) tb_5_75 tb_5_73 tb_1_8 tb_5_74 (by decide) rfl (by decide) (by decide) (Nat.le_of_ble_eq_true rfl) rfl (fun v_r_9 S_8 hq => ?_)
      obtain ⟨r_9, rfl, h⟩ := hq
      dsimp only [Option.toList, List.cons_append, List.nil_append]
      refine J_iload dX9_series_82 6 rfl  ?_
      refine J_icmp_ne (tgt := 90) dX9_series_84 (by decide) (fun c_10 => ?_) (fun c_10 => ?_)
      · have h := h.1 c_10
        exact l_X9_series_90 p1 p2 p3 _ _ _ hR57 (fun y4 y5 y6 y7 y8 S  h => ih y4 y5 y6 y7 y8 S  h)  _ _ _ _ _ _  h
      · have h := h.2 c_10
        obtain ⟨x7_11, ex7_11⟩ : ∃ y : Int32, y = x7 + 1 := ⟨_, rfl⟩
        have h := h x7_11 ex7_11
        refine J_iinc (v := x7_11) (lv' := [(0, .ref (g.1 + 353)), (1, .int p1), (2, .int p2), (3, .int p3), (4, .float x4), (5, .float x5), (6, .int x6), (7, .int x7_11), (8, .int x8)]) dX9_series_87 (q := 7) rfl (by rw [ex7_11]; rfl) (by decide) [1, 2, 3, 4, 5, 6, 7, 0, 8] rfl  ?_
        exact l_X9_series_90 p1 p2 p3 _ _ _ hR57 (fun y4 y5 y6 y7 y8 S  h => ih y4 y5 y6 y7 y8 S  h)  _ _ _ _ _ _  h
def q_X9_series_57 (p1 : Int32) (p2 : Int32) (p3 : Int32)  (Q : Int32 → Sto → Prop) : Nat → UInt32 → UInt32 → Int32 → Sto → Prop
  | 0, _, _, _, _ => False
  | n + 1, x4, x5, x6, S => ((x6 < 0 → wp_Jxf58ca_floatToIntBits_5c35a x5 S (fun r_3 S_2 => Q r_3 S_2)) ∧ (¬ x6 < 0 → (∃ n_68, q_X9_series_68 p1 p2 p3 (fun y4 y5 y6 S => q_X9_series_57 p1 p2 p3  Q n y4 y5 y6 S) Q n_68 x4 x5 x6 0 0 S)))
set_option maxRecDepth 100000 in
set_option maxHeartbeats 4000000 in
theorem l_X9_series_57 {g : Gv} (p1 : Int32) (p2 : Int32) (p3 : Int32)  (Q : Int32 → Sto → Prop)   (n : Nat) : ∀ (x4 : UInt32) (x5 : UInt32) (x6 : Int32) (S : Sto)  (h : q_X9_series_57 p1 p2 p3  Q n x4 x5 x6 S), RJ g cX9_series RX9 (some .int) 9 6 57 [(0, .ref (g.1 + 353)), (1, .int p1), (2, .int p2), (3, .int p3), (4, .float x4), (5, .float x5), (6, .int x6)] [] S (Qi Q) := by
  induction n with
  | zero => intro x4 x5 x6 S  h; exact h.elim
  | succ n ih =>
    intro x4 x5 x6 S  h
    unfold q_X9_series_57 at h
    refine J_iload dX9_series_57 6 rfl  ?_
    refine J_if_lt (tgt := 120) dX9_series_59 (by decide) (fun c_1 => ?_) (fun c_1 => ?_)
    · have h := h.1 c_1
      refine J_fload dX9_series_120 5 rfl  ?_
      refine J_callS (As := [.float x5]) (rest := []) (n := 1) dX9_series_122 (c_Jxf58ca_floatToIntBits_5c35a x5  _ _ h) tb_5_224 tb_5_222 tb_1_13 tb_5_223 (by decide) rfl (by decide) (by decide) (Nat.le_of_ble_eq_true rfl) rfl (fun v_r_3 S_2 hq => ?_)
      obtain ⟨r_3, rfl, h⟩ := hq
      dsimp only [Option.toList, List.cons_append, List.nil_append]
      exact J_iret dX9_series_125 rfl rfl ⟨_, rfl, h⟩
    · have h := h.2 c_1
      refine J_iconst (v := 0) dX9_series_62 (by decide)  ?_
      refine J_istore (lv' := [(0, .ref (g.1 + 353)), (1, .int p1), (2, .int p2), (3, .int p3), (4, .float x4), (5, .float x5), (6, .int x6), (7, .int 0)]) dX9_series_63 (by decide) [1, 2, 3, 4, 5, 6, 7, 0] rfl  ?_
      refine J_iconst (v := 0) dX9_series_65 (by decide)  ?_
      refine J_istore (lv' := [(0, .ref (g.1 + 353)), (1, .int p1), (2, .int p2), (3, .int p3), (4, .float x4), (5, .float x5), (6, .int x6), (7, .int 0), (8, .int 0)]) dX9_series_66 (by decide) [1, 2, 3, 4, 5, 6, 7, 8, 0] rfl  ?_
      obtain ⟨n, h⟩ := h
      exact l_X9_series_68 p1 p2 p3 _ _ (fun y4 y5 y6 S  h => ih y4 y5 y6 S  h)  n _ _ _ _ _ _  h
def wp_X9_series (p1 : Int32) (p2 : Int32) (p3 : Int32) (S : Sto) (Q : Int32 → Sto → Prop) : Prop := wp_X9_isSide p1 S (fun r_2 S_1 => ((¬ r_2 = 0 → wp_X9_in ((p2 : Int32).toInt64) 1 99 S_1 (fun r_5 S_4 => ((r_5 = 0 → q_X9_series_33 p1 p2 p3  Q  S_4) ∧ (¬ r_5 = 0 → wp_X9_in ((p3 : Int32).toInt64) 1 99 S_4 (fun r_8 S_7 => ((¬ r_8 = 0 → wp_X9_spans p1 S_7 (fun S_10 => vf_n32 (FP.fdiv (FP.i2f p2) (FP.i2f p3)) ∧ ∀ x4_13 : UInt32, x4_13 = FP.fdiv (FP.i2f p2) (FP.i2f p3) → ∀ x6_14 : Int32, x6_14 = S_10.1 353 0 → (∃ n_57, q_X9_series_57 p1 p2 p3  Q n_57 x4_13 FP.fconst0 x6_14 S_10))) ∧ (r_8 = 0 → q_X9_series_33 p1 p2 p3  Q  S_7))))))) ∧ (r_2 = 0 → Q ((-1)) S_1)))
set_option maxRecDepth 100000 in
set_option maxHeartbeats 4000000 in
theorem c_X9_series {g : Gv} (p1 : Int32) (p2 : Int32) (p3 : Int32)  (S : Sto) (Q : Int32 → Sto → Prop) (h : wp_X9_series p1 p2 p3 S Q) : CT g yX9_series cX9_series 9 (some .int) 6 [.ref (g.1 + 353), .int p1, .int p2, .int p3] S (Qi Q) := by
  unfold wp_X9_series at h
  refine CT.of (by decide) (Nat.le_of_ble_eq_true rfl) ?_
  refine J_sub (lv' := [(0, .ref (g.1 + 353)), (1, .int p1), (2, .int p2), (3, .int p3)]) [0, 1, 2, 3] rfl ?_
  refine J_iload_n dX9_series_0 rfl 1 rfl  ?_
  refine J_callS (As := [.int p1]) (rest := []) (n := 1) dX9_series_1 (c_X9_isSide p1  _ _ h) tb_5_188 tb_5_186 tb_1_8 tb_5_187 (by decide) rfl (by decide) (by decide) (Nat.le_of_ble_eq_true rfl) rfl (fun v_r_2 S_1 hq => ?_)
  obtain ⟨r_2, rfl, h⟩ := hq
  dsimp only [Option.toList, List.cons_append, List.nil_append]
  refine J_if_ne (tgt := 9) dX9_series_4 (by decide) (fun c_3 => ?_) (fun c_3 => ?_)
  · have h := h.1 c_3
    refine J_iload_n dX9_series_9 rfl 2 rfl  ?_
    refine J_i2l dX9_series_10  ?_
    refine J_lconst (v := 1) dX9_series_11 (by decide)  ?_
    refine J_ldc2 (v := 99) dX9_series_12 tb_5_221  ?_
    refine J_callS (As := [.long ((p2 : Int32).toInt64), .long 1, .long 99]) (rest := []) (n := 3) dX9_series_15 (c_X9_in ((p2 : Int32).toInt64) 1 99  _ _ h) tb_5_9 tb_5_7 tb_1_8 tb_5_8 (by decide) rfl (by decide) (by decide) (Nat.le_of_ble_eq_true rfl) rfl (fun v_r_5 S_4 hq => ?_)
    obtain ⟨r_5, rfl, h⟩ := hq
    dsimp only [Option.toList, List.cons_append, List.nil_append]
    refine J_if_eq (tgt := 33) dX9_series_18 (by decide) (fun c_6 => ?_) (fun c_6 => ?_)
    · have h := h.1 c_6
      exact l_X9_series_33 p1 p2 p3  _    _  h
    · have h := h.2 c_6
      refine J_iload_n dX9_series_21 rfl 3 rfl  ?_
      refine J_i2l dX9_series_22  ?_
      refine J_lconst (v := 1) dX9_series_23 (by decide)  ?_
      refine J_ldc2 (v := 99) dX9_series_24 tb_5_221  ?_
      refine J_callS (As := [.long ((p3 : Int32).toInt64), .long 1, .long 99]) (rest := []) (n := 3) dX9_series_27 (c_X9_in ((p3 : Int32).toInt64) 1 99  _ _ h) tb_5_9 tb_5_7 tb_1_8 tb_5_8 (by decide) rfl (by decide) (by decide) (Nat.le_of_ble_eq_true rfl) rfl (fun v_r_8 S_7 hq => ?_)
      obtain ⟨r_8, rfl, h⟩ := hq
      dsimp only [Option.toList, List.cons_append, List.nil_append]
      refine J_if_ne (tgt := 36) dX9_series_30 (by decide) (fun c_9 => ?_) (fun c_9 => ?_)
      · have h := h.1 c_9
        refine J_aload_n dX9_series_36 rfl 0 rfl  ?_
        refine J_iload_n dX9_series_37 rfl 1 rfl  ?_
        refine J_callV (h := 353) (ci := 7) (As := [.int p1]) (rest := []) (n := 1) dX9_series_38 (c_X9_spans p1  _ _ h) (by decide) rfl tb_5_64 tb_5_61 tb_1_8 tb_5_63 sl_33 (by decide) rfl (by decide) (by decide) (Nat.le_of_ble_eq_true rfl) rfl (fun v_r_11 S_10 hq => ?_)
        obtain ⟨rfl, h⟩ := hq
        dsimp only [Option.toList, List.cons_append, List.nil_append]
        refine J_iload_n dX9_series_41 rfl 2 rfl  ?_
        refine J_i2f dX9_series_42  ?_
        refine J_iload_n dX9_series_43 rfl 3 rfl  ?_
        refine J_i2f dX9_series_44  ?_
        obtain ⟨hz_12, h⟩ := h
        refine J_fdiv dX9_series_45 hz_12  ?_
        refine J_topf (fun x4_13 ex4_13 => ?_)
        have h := h x4_13 ex4_13
        refine J_fstore (lv' := [(0, .ref (g.1 + 353)), (1, .int p1), (2, .int p2), (3, .int p3), (4, .float x4_13)]) dX9_series_46 (by decide) [1, 2, 3, 4, 0] rfl  ?_
        refine J_fconst0 dX9_series_48  ?_
        refine J_fstore (lv' := [(0, .ref (g.1 + 353)), (1, .int p1), (2, .int p2), (3, .int p3), (4, .float x4_13), (5, .float FP.fconst0)]) dX9_series_49 (by decide) [1, 2, 3, 4, 5, 0] rfl  ?_
        refine J_aload_n dX9_series_51 rfl 0 rfl  ?_
        refine J_geti (ci := 7) dX9_series_52 0 rfl giX9 (by decide) (by decide) rfl rfl tb_4_111 rfl  ?_
        refine J_topi (fun x6_14 ex6_14 => ?_)
        have h := h x6_14 ex6_14
        refine J_istore (lv' := [(0, .ref (g.1 + 353)), (1, .int p1), (2, .int p2), (3, .int p3), (4, .float x4_13), (5, .float FP.fconst0), (6, .int x6_14)]) dX9_series_55 (by decide) [1, 2, 3, 4, 5, 6, 0] rfl  ?_
        obtain ⟨n, h⟩ := h
        exact l_X9_series_57 p1 p2 p3  _   n _ _ _ _  h
      · have h := h.2 c_9
        exact l_X9_series_33 p1 p2 p3  _    _  h
  · have h := h.2 c_3
    refine J_iconst (v := (-1)) dX9_series_7 (by decide)  ?_
    exact J_iret dX9_series_8 rfl rfl ⟨_, rfl, h⟩
def q_Jxe99ae_isNaN_b9ae7_11 (p0 : UInt64)  (Q : Int32 → Sto → Prop) (t0 : Int32) (S : Sto) : Prop := narrow .boolean (.int t0) = .int t0 ∧ Q t0 S
set_option maxRecDepth 100000 in
set_option maxHeartbeats 4000000 in
theorem l_Jxe99ae_isNaN_b9ae7_11 {g : Gv} (p0 : UInt64)  (Q : Int32 → Sto → Prop)   (t0 : Int32) (S : Sto)  (h : q_Jxe99ae_isNaN_b9ae7_11 p0  Q t0 S) : RJ g cJxe99ae_isNaN_b9ae7 RJxe99ae (some .boolean) 2 1 11 [(0, .double p0)] [.int t0] S (Qi Q) := by
  unfold q_Jxe99ae_isNaN_b9ae7_11 at h
  obtain ⟨hb, h⟩ := h
  exact J_iret dJxe99ae_isNaN_b9ae7_11 rfl hb ⟨_, rfl, h⟩
def wp_Jxe99ae_isNaN_b9ae7 (p0 : UInt64) (S : Sto) (Q : Int32 → Sto → Prop) : Prop := (((Op.cmpValue (FP.dcmp p0 p0) .l) = 0 → q_Jxe99ae_isNaN_b9ae7_11 p0  Q 0 S) ∧ (¬ (Op.cmpValue (FP.dcmp p0 p0) .l) = 0 → q_Jxe99ae_isNaN_b9ae7_11 p0  Q 1 S))
set_option maxRecDepth 100000 in
set_option maxHeartbeats 4000000 in
theorem c_Jxe99ae_isNaN_b9ae7 {g : Gv} (p0 : UInt64)  (S : Sto) (Q : Int32 → Sto → Prop) (h : wp_Jxe99ae_isNaN_b9ae7 p0 S Q) : CT g yJxe99ae_isNaN_b9ae7 cJxe99ae_isNaN_b9ae7 2 (some .boolean) 1 [.double p0] S (Qi Q) := by
  unfold wp_Jxe99ae_isNaN_b9ae7 at h
  refine CT.ofF (by decide +kernel) (Nat.le_of_ble_eq_true rfl) ?_
  refine J_sub (lv' := [(0, .double p0)]) [0] rfl ?_
  refine J_dload_n dJxe99ae_isNaN_b9ae7_0 rfl 0 rfl  ?_
  refine J_dload_n dJxe99ae_isNaN_b9ae7_1 rfl 0 rfl  ?_
  refine J_dcmp dJxe99ae_isNaN_b9ae7_2  ?_
  refine J_if_eq (tgt := 10) dJxe99ae_isNaN_b9ae7_3 (by decide) (fun c_1 => ?_) (fun c_1 => ?_)
  · have h := h.1 c_1
    refine J_iconst (v := 0) dJxe99ae_isNaN_b9ae7_10 (by decide)  ?_
    exact l_Jxe99ae_isNaN_b9ae7_11 p0  _   _ _  h
  · have h := h.2 c_1
    refine J_iconst (v := 1) dJxe99ae_isNaN_b9ae7_6 (by decide)  ?_
    refine J_goto (tgt := 11) dJxe99ae_isNaN_b9ae7_7 (by decide)  ?_
    exact l_Jxe99ae_isNaN_b9ae7_11 p0  _   _ _  h
def wp_Jxe99ae_doubleToLongBits_ccdee (p0 : UInt64) (S : Sto) (Q : Int64 → Sto → Prop) : Prop := wp_Jxe99ae_isNaN_b9ae7 p0 S (fun r_2 S_1 => ((¬ r_2 = 0 → Q 9221120237041090560 S_1) ∧ (r_2 = 0 → Q p0.toInt64 S_1)))
set_option maxRecDepth 100000 in
set_option maxHeartbeats 4000000 in
theorem c_Jxe99ae_doubleToLongBits_ccdee {g : Gv} (p0 : UInt64)  (S : Sto) (Q : Int64 → Sto → Prop) (h : wp_Jxe99ae_doubleToLongBits_ccdee p0 S Q) : CT g yJxe99ae_doubleToLongBits_ccdee cJxe99ae_doubleToLongBits_ccdee 2 (some .long) 2 [.double p0] S (Ql Q) := by
  unfold wp_Jxe99ae_doubleToLongBits_ccdee at h
  refine CT.ofF (by decide +kernel) (Nat.le_of_ble_eq_true rfl) ?_
  refine J_sub (lv' := [(0, .double p0)]) [0] rfl ?_
  refine J_dload_n dJxe99ae_doubleToLongBits_ccdee_0 rfl 0 rfl  ?_
  refine J_callS (As := [.double p0]) (rest := []) (n := 1) dJxe99ae_doubleToLongBits_ccdee_1 (c_Jxe99ae_isNaN_b9ae7 p0  _ _ h) tb_6_2 tb_6_0 tb_1_14 tb_6_1 (by decide) rfl (by decide) (by decide) (Nat.le_of_ble_eq_true rfl) rfl (fun v_r_2 S_1 hq => ?_)
  obtain ⟨r_2, rfl, h⟩ := hq
  dsimp only [Option.toList, List.cons_append, List.nil_append]
  refine J_if_ne (tgt := 12) dJxe99ae_doubleToLongBits_ccdee_4 (by decide) (fun c_3 => ?_) (fun c_3 => ?_)
  · have h := h.1 c_3
    refine J_ldc2 (v := 9221120237041090560) dJxe99ae_doubleToLongBits_ccdee_12 tb_6_6  ?_
    exact J_lret dJxe99ae_doubleToLongBits_ccdee_15 rfl ⟨_, rfl, h⟩
  · have h := h.2 c_3
    refine J_dload_n dJxe99ae_doubleToLongBits_ccdee_7 rfl 0 rfl  ?_
    refine J_doubleToRawLongBits dJxe99ae_doubleToLongBits_ccdee_8 tb_6_3 tb_6_5 tb_6_4 tb_1_14 (by decide) (Nat.le_of_ble_eq_true rfl) ?_
    exact J_lret dJxe99ae_doubleToLongBits_ccdee_11 rfl ⟨_, rfl, h⟩
def q_X9_mean_65 (p1 : Int32)  (Q : Int64 → Sto → Prop) (t0 : UInt64) (S : Sto) : Prop := wp_Jxe99ae_doubleToLongBits_ccdee t0 S (fun r_2 S_1 => Q r_2 S_1)
set_option maxRecDepth 100000 in
set_option maxHeartbeats 4000000 in
theorem l_X9_mean_65 {g : Gv} (p1 : Int32)  (Q : Int64 → Sto → Prop)   (t0 : UInt64) (S : Sto)  (h : q_X9_mean_65 p1  Q t0 S) : RJ g cX9_mean RX9 (some .long) 4 6 65 [(0, .ref (g.1 + 353)), (1, .int p1)] [.double t0] S (Ql Q) := by
  unfold q_X9_mean_65 at h
  refine J_callS (As := [.double t0]) (rest := []) (n := 1) dX9_mean_65 (c_Jxe99ae_doubleToLongBits_ccdee t0  _ _ h) tb_5_239 tb_5_237 tb_1_14 tb_5_238 (by decide) rfl (by decide) (by decide) (Nat.le_of_ble_eq_true rfl) rfl (fun v_r_2 S_1 hq => ?_)
  obtain ⟨r_2, rfl, h⟩ := hq
  dsimp only [Option.toList, List.cons_append, List.nil_append]
  exact J_lret dX9_mean_68 rfl ⟨_, rfl, h⟩
def q_X9_mean_20 (p1 : Int32)  (Q : Int64 → Sto → Prop) : Nat → Int32 → Int32 → Sto → Prop
  | 0, _, _, _ => False
  | n + 1, x2, x3, S => (((S.1 353 25) ≤ x3 → ((¬ (S.1 353 25) = 0 → vf_n64 (FP.ddiv (FP.i2d x2) (FP.i2d (S.1 353 25))) ∧ q_X9_mean_65 p1  Q (FP.ddiv (FP.i2d x2) (FP.i2d (S.1 353 25))) S) ∧ ((S.1 353 25) = 0 → q_X9_mean_65 p1  Q FP.dconst0 S))) ∧ (¬ (S.1 353 25) ≤ x3 → vp_in x3 (256) ∧ wp_X9_degree (S.1 367 (x3 : Int32).toNatClampNeg) S (fun r_6 S_5 => ∀ x2_7 : Int32, x2_7 = x2 + r_6 → ∀ x3_8 : Int32, x3_8 = x3 + 1 → q_X9_mean_20 p1  Q n x2_7 x3_8 S_5)))
set_option maxRecDepth 100000 in
set_option maxHeartbeats 4000000 in
theorem l_X9_mean_20 {g : Gv} (p1 : Int32)  (Q : Int64 → Sto → Prop)   (n : Nat) : ∀ (x2 : Int32) (x3 : Int32) (S : Sto)  (h : q_X9_mean_20 p1  Q n x2 x3 S), RJ g cX9_mean RX9 (some .long) 4 6 20 [(0, .ref (g.1 + 353)), (1, .int p1), (2, .int x2), (3, .int x3)] [] S (Ql Q) := by
  induction n with
  | zero => intro x2 x3 S  h; exact h.elim
  | succ n ih =>
    intro x2 x3 S  h
    unfold q_X9_mean_20 at h
    refine J_iload_n dX9_mean_20 rfl 3 rfl  ?_
    refine J_aload_n dX9_mean_21 rfl 0 rfl  ?_
    refine J_geti (ci := 7) dX9_mean_22 25 rfl giX9 (by decide) (by decide) rfl rfl tb_4_136 rfl  ?_
    refine J_icmp_ge (tgt := 46) dX9_mean_25 (by decide) (fun c_1 => ?_) (fun c_1 => ?_)
    · have h := h.1 c_1
      refine J_aload_n dX9_mean_46 rfl 0 rfl  ?_
      refine J_geti (ci := 7) dX9_mean_47 25 rfl giX9 (by decide) (by decide) rfl rfl tb_4_136 rfl  ?_
      refine J_if_ne (tgt := 57) dX9_mean_50 (by decide) (fun c_2 => ?_) (fun c_2 => ?_)
      · have h := h.1 c_2
        refine J_iload_n dX9_mean_57 rfl 2 rfl  ?_
        refine J_i2d dX9_mean_58  ?_
        refine J_aload_n dX9_mean_59 rfl 0 rfl  ?_
        refine J_geti (ci := 7) dX9_mean_60 25 rfl giX9 (by decide) (by decide) rfl rfl tb_4_136 rfl  ?_
        refine J_i2d dX9_mean_63  ?_
        obtain ⟨hz_3, h⟩ := h
        refine J_ddiv dX9_mean_64 hz_3  ?_
        refine J_sub (lv' := [(0, .ref (g.1 + 353)), (1, .int p1)]) [0, 1] rfl ?_
        exact l_X9_mean_65 p1  _   _ _  h
      · have h := h.2 c_2
        refine J_dconst0 dX9_mean_53  ?_
        refine J_goto (tgt := 65) dX9_mean_54 (by decide)  ?_
        refine J_sub (lv' := [(0, .ref (g.1 + 353)), (1, .int p1)]) [0, 1] rfl ?_
        exact l_X9_mean_65 p1  _   _ _  h
    · have h := h.2 c_1
      refine J_iload_n dX9_mean_28 rfl 2 rfl  ?_
      refine J_aload_n dX9_mean_29 rfl 0 rfl  ?_
      refine J_getr (r := 367) (ci := 7) dX9_mean_30 23 rfl giX9 (by decide) (by decide) rfl rfl tb_4_134 (by decide) (by decide)  ?_
      refine J_iload_n dX9_mean_33 rfl 3 rfl  ?_
      obtain ⟨hi_4, h⟩ := h
      refine J_iald dX9_mean_34 (by decide) hi_4  ?_
      refine J_callS (As := [.int (S.1 367 (x3 : Int32).toNatClampNeg)]) (rest := [.int x2]) (n := 1) dX9_mean_35 (c_X9_degree (S.1 367 (x3 : Int32).toNatClampNeg)  _ _ h) tb_5_75 tb_5_73 tb_1_8 tb_5_74 (by decide) rfl (by decide) (by decide) (Nat.le_of_ble_eq_true rfl) rfl (fun v_r_6 S_5 hq => ?_)
      obtain ⟨r_6, rfl, h⟩ := hq
      dsimp only [Option.toList, List.cons_append, List.nil_append]
      refine J_iadd dX9_mean_38  ?_
      refine J_topi (fun x2_7 ex2_7 => ?_)
      have h := h x2_7 ex2_7
      refine J_istore_n (lv' := [(0, .ref (g.1 + 353)), (1, .int p1), (2, .int x2_7), (3, .int x3)]) dX9_mean_39 rfl (by decide) [1, 2, 0, 3] rfl  ?_
      obtain ⟨x3_8, ex3_8⟩ : ∃ y : Int32, y = x3 + 1 := ⟨_, rfl⟩
      have h := h x3_8 ex3_8
      refine J_iinc (v := x3_8) (lv' := [(0, .ref (g.1 + 353)), (1, .int p1), (2, .int x2_7), (3, .int x3_8)]) dX9_mean_40 (q := 3) rfl (by rw [ex3_8]; rfl) (by decide) [1, 2, 3, 0] rfl  ?_
      refine J_goto (tgt := 20) dX9_mean_43 (by decide)  ?_
      exact ih _ _ _  h
def wp_X9_mean (p1 : Int32) (S : Sto) (Q : Int64 → Sto → Prop) : Prop := wp_X9_isSide p1 S (fun r_2 S_1 => ((¬ r_2 = 0 → wp_X9_spans p1 S_1 (fun S_4 => (∃ n_20, q_X9_mean_20 p1  Q n_20 0 0 S_4))) ∧ (r_2 = 0 → Q ((-9223372036854775808)) S_1)))
set_option maxRecDepth 100000 in
set_option maxHeartbeats 4000000 in
theorem c_X9_mean {g : Gv} (p1 : Int32)  (S : Sto) (Q : Int64 → Sto → Prop) (h : wp_X9_mean p1 S Q) : CT g yX9_mean cX9_mean 4 (some .long) 6 [.ref (g.1 + 353), .int p1] S (Ql Q) := by
  unfold wp_X9_mean at h
  refine CT.of (by decide) (Nat.le_of_ble_eq_true rfl) ?_
  refine J_sub (lv' := [(0, .ref (g.1 + 353)), (1, .int p1)]) [0, 1] rfl ?_
  refine J_iload_n dX9_mean_0 rfl 1 rfl  ?_
  refine J_callS (As := [.int p1]) (rest := []) (n := 1) dX9_mean_1 (c_X9_isSide p1  _ _ h) tb_5_188 tb_5_186 tb_1_8 tb_5_187 (by decide) rfl (by decide) (by decide) (Nat.le_of_ble_eq_true rfl) rfl (fun v_r_2 S_1 hq => ?_)
  obtain ⟨r_2, rfl, h⟩ := hq
  dsimp only [Option.toList, List.cons_append, List.nil_append]
  refine J_if_ne (tgt := 11) dX9_mean_4 (by decide) (fun c_3 => ?_) (fun c_3 => ?_)
  · have h := h.1 c_3
    refine J_aload_n dX9_mean_11 rfl 0 rfl  ?_
    refine J_iload_n dX9_mean_12 rfl 1 rfl  ?_
    refine J_callV (h := 353) (ci := 7) (As := [.int p1]) (rest := []) (n := 1) dX9_mean_13 (c_X9_spans p1  _ _ h) (by decide) rfl tb_5_64 tb_5_61 tb_1_8 tb_5_63 sl_33 (by decide) rfl (by decide) (by decide) (Nat.le_of_ble_eq_true rfl) rfl (fun v_r_5 S_4 hq => ?_)
    obtain ⟨rfl, h⟩ := hq
    dsimp only [Option.toList, List.cons_append, List.nil_append]
    refine J_iconst (v := 0) dX9_mean_16 (by decide)  ?_
    refine J_istore_n (lv' := [(0, .ref (g.1 + 353)), (1, .int p1), (2, .int 0)]) dX9_mean_17 rfl (by decide) [1, 2, 0] rfl  ?_
    refine J_iconst (v := 0) dX9_mean_18 (by decide)  ?_
    refine J_istore_n (lv' := [(0, .ref (g.1 + 353)), (1, .int p1), (2, .int 0), (3, .int 0)]) dX9_mean_19 rfl (by decide) [1, 2, 3, 0] rfl  ?_
    obtain ⟨n, h⟩ := h
    exact l_X9_mean_20 p1  _   n _ _ _  h
  · have h := h.2 c_3
    refine J_ldc2 (v := (-9223372036854775808)) dX9_mean_7 tb_5_236  ?_
    exact J_lret dX9_mean_10 rfl ⟨_, rfl, h⟩
def q_X9_keeps_60 (p1 : Nat) (R2 : Int32 → Sto → Prop) (R19 : Int32 → Int32 → Int32 → Sto → Prop) (Q : Int32 → Sto → Prop) (x2 : Int32) (x3 : Int32) (x4 : Int32) (t1 : Int32) (t2 : Int32) (S : Sto) : Prop := vp_in t1 (ln p1) ∧ ∀ S_2 : Sto, S_2 = uA S p1 (t1 : Int32).toNatClampNeg t2 → ∀ x4_3 : Int32, x4_3 = x4 + 1 → R19 x2 x3 x4_3 S_2
set_option maxRecDepth 100000 in
set_option maxHeartbeats 4000000 in
theorem l_X9_keeps_60 {g : Gv} (p1 : Nat) (R2 : Int32 → Sto → Prop) (R19 : Int32 → Int32 → Int32 → Sto → Prop) (Q : Int32 → Sto → Prop) (hR2 : ∀ (y2 : Int32) (S : Sto), R2 y2 S → RJ g cX9_keeps RX9 (some .int) 5 2 2 [(0, .ref (g.1 + 353)), (1, .ref (g.1 + p1)), (2, .int y2)] [] S (Qi Q)) (hR19 : ∀ (y2 : Int32) (y3 : Int32) (y4 : Int32) (S : Sto), R19 y2 y3 y4 S → RJ g cX9_keeps RX9 (some .int) 5 2 19 [(0, .ref (g.1 + 353)), (1, .ref (g.1 + p1)), (2, .int y2), (3, .int y3), (4, .int y4)] [] S (Qi Q)) (hp1 : kd p1 = 0) (x2 : Int32) (x3 : Int32) (x4 : Int32) (t1 : Int32) (t2 : Int32) (S : Sto)  (h : q_X9_keeps_60 p1 R2 R19 Q x2 x3 x4 t1 t2 S) : RJ g cX9_keeps RX9 (some .int) 5 2 60 [(0, .ref (g.1 + 353)), (1, .ref (g.1 + p1)), (2, .int x2), (3, .int x3), (4, .int x4)] [.int t2, .int t1, .ref (g.1 + p1)] S (Qi Q) := by
  unfold q_X9_keeps_60 at h
  obtain ⟨hi_1, h⟩ := h
  refine J_iast dX9_keeps_60 hp1 hi_1  ?_
  refine J_nmS (fun S_2 eS_2 => ?_)
  have h := h S_2 eS_2
  obtain ⟨x4_3, ex4_3⟩ : ∃ y : Int32, y = x4 + 1 := ⟨_, rfl⟩
  have h := h x4_3 ex4_3
  refine J_iinc (v := x4_3) (lv' := [(0, .ref (g.1 + 353)), (1, .ref (g.1 + p1)), (2, .int x2), (3, .int x3), (4, .int x4_3)]) dX9_keeps_61 (q := 4) rfl (by rw [ex4_3]; rfl) (by decide) [1, 2, 3, 4, 0] rfl  ?_
  refine J_goto (tgt := 19) dX9_keeps_64 (by decide)  ?_
  exact hR19 _ _ _ _  h
def q_X9_keeps_19 (p1 : Nat) (R2 : Int32 → Sto → Prop) (Q : Int32 → Sto → Prop) : Nat → Int32 → Int32 → Int32 → Sto → Prop
  | 0, _, _, _, _ => False
  | n + 1, x2, x3, x4, S => ((16 ≤ x4 → ∀ x2_2 : Int32, x2_2 = x2 + 1 → R2 x2_2 S) ∧ (¬ 16 ≤ x4 → (((S.1 353 3) ≤ x4 → q_X9_keeps_60 p1 R2 (fun y2 y3 y4 S => q_X9_keeps_19 p1 R2 Q n y2 y3 y4 S) Q x2 x3 x4 ((16 * x2) + x4) 0 S) ∧ (¬ (S.1 353 3) ≤ x4 → vp_in ((256 * x3) + x4) (65536) ∧ q_X9_keeps_60 p1 R2 (fun y2 y3 y4 S => q_X9_keeps_19 p1 R2 Q n y2 y3 y4 S) Q x2 x3 x4 ((16 * x2) + x4) (S.1 366 ((256 * x3) + x4 : Int32).toNatClampNeg) S))))
set_option maxRecDepth 100000 in
set_option maxHeartbeats 4000000 in
theorem l_X9_keeps_19 {g : Gv} (p1 : Nat) (R2 : Int32 → Sto → Prop) (Q : Int32 → Sto → Prop) (hR2 : ∀ (y2 : Int32) (S : Sto), R2 y2 S → RJ g cX9_keeps RX9 (some .int) 5 2 2 [(0, .ref (g.1 + 353)), (1, .ref (g.1 + p1)), (2, .int y2)] [] S (Qi Q)) (hp1 : kd p1 = 0) (n : Nat) : ∀ (x2 : Int32) (x3 : Int32) (x4 : Int32) (S : Sto)  (h : q_X9_keeps_19 p1 R2 Q n x2 x3 x4 S), RJ g cX9_keeps RX9 (some .int) 5 2 19 [(0, .ref (g.1 + 353)), (1, .ref (g.1 + p1)), (2, .int x2), (3, .int x3), (4, .int x4)] [] S (Qi Q) := by
  induction n with
  | zero => intro x2 x3 x4 S  h; exact h.elim
  | succ n ih =>
    intro x2 x3 x4 S  h
    unfold q_X9_keeps_19 at h
    refine J_iload dX9_keeps_19 4 rfl  ?_
    refine J_bipush (v := 16) dX9_keeps_21 (by decide)  ?_
    refine J_icmp_ge (tgt := 67) dX9_keeps_23 (by decide) (fun c_1 => ?_) (fun c_1 => ?_)
    · have h := h.1 c_1
      obtain ⟨x2_2, ex2_2⟩ : ∃ y : Int32, y = x2 + 1 := ⟨_, rfl⟩
      have h := h x2_2 ex2_2
      refine J_iinc (v := x2_2) (lv' := [(0, .ref (g.1 + 353)), (1, .ref (g.1 + p1)), (2, .int x2_2), (3, .int x3), (4, .int x4)]) dX9_keeps_67 (q := 2) rfl (by rw [ex2_2]; rfl) (by decide) [1, 2, 0, 3, 4] rfl  ?_
      refine J_goto (tgt := 2) dX9_keeps_70 (by decide)  ?_
      refine J_sub (lv' := [(0, .ref (g.1 + 353)), (1, .ref (g.1 + p1)), (2, .int x2_2)]) [0, 1, 2] rfl ?_
      exact hR2 _ _  h
    · have h := h.2 c_1
      refine J_aload_n dX9_keeps_26 rfl 1 rfl  ?_
      refine J_bipush (v := 16) dX9_keeps_27 (by decide)  ?_
      refine J_iload_n dX9_keeps_29 rfl 2 rfl  ?_
      refine J_imul dX9_keeps_30  ?_
      refine J_iload dX9_keeps_31 4 rfl  ?_
      refine J_iadd dX9_keeps_33  ?_
      refine J_iload dX9_keeps_34 4 rfl  ?_
      refine J_aload_n dX9_keeps_36 rfl 0 rfl  ?_
      refine J_geti (ci := 7) dX9_keeps_37 3 rfl giX9 (by decide) (by decide) rfl rfl tb_4_114 rfl  ?_
      refine J_icmp_ge (tgt := 59) dX9_keeps_40 (by decide) (fun c_3 => ?_) (fun c_3 => ?_)
      · have h := h.1 c_3
        refine J_iconst (v := 0) dX9_keeps_59 (by decide)  ?_
        exact l_X9_keeps_60 p1 _ _ _ hR2 (fun y2 y3 y4 S  h => ih y2 y3 y4 S  h) hp1 _ _ _ _ _ _  h
      · have h := h.2 c_3
        refine J_aload_n dX9_keeps_43 rfl 0 rfl  ?_
        refine J_getr (r := 366) (ci := 7) dX9_keeps_44 22 rfl giX9 (by decide) (by decide) rfl rfl tb_4_133 (by decide) (by decide)  ?_
        refine J_sipush (v := 256) dX9_keeps_47 (by decide)  ?_
        refine J_iload_n dX9_keeps_50 rfl 3 rfl  ?_
        refine J_imul dX9_keeps_51  ?_
        refine J_iload dX9_keeps_52 4 rfl  ?_
        refine J_iadd dX9_keeps_54  ?_
        obtain ⟨hi_4, h⟩ := h
        refine J_iald dX9_keeps_55 (by decide) hi_4  ?_
        refine J_goto (tgt := 60) dX9_keeps_56 (by decide)  ?_
        exact l_X9_keeps_60 p1 _ _ _ hR2 (fun y2 y3 y4 S  h => ih y2 y3 y4 S  h) hp1 _ _ _ _ _ _  h
def q_X9_keeps_2 (p1 : Nat)  (Q : Int32 → Sto → Prop) : Nat → Int32 → Sto → Prop
  | 0, _, _ => False
  | n + 1, x2, S => (((S.1 353 25) ≤ x2 → Q (S.1 353 25) S) ∧ (¬ (S.1 353 25) ≤ x2 → wp_X9_rowAt x2 S (fun r_3 S_2 => (∃ n_19, q_X9_keeps_19 p1 (fun y2 S => q_X9_keeps_2 p1  Q n y2 S) Q n_19 x2 r_3 0 S_2))))
set_option maxRecDepth 100000 in
set_option maxHeartbeats 4000000 in
theorem l_X9_keeps_2 {g : Gv} (p1 : Nat)  (Q : Int32 → Sto → Prop)  (hp1 : kd p1 = 0) (n : Nat) : ∀ (x2 : Int32) (S : Sto)  (h : q_X9_keeps_2 p1  Q n x2 S), RJ g cX9_keeps RX9 (some .int) 5 2 2 [(0, .ref (g.1 + 353)), (1, .ref (g.1 + p1)), (2, .int x2)] [] S (Qi Q) := by
  induction n with
  | zero => intro x2 S  h; exact h.elim
  | succ n ih =>
    intro x2 S  h
    unfold q_X9_keeps_2 at h
    refine J_iload_n dX9_keeps_2 rfl 2 rfl  ?_
    refine J_aload_n dX9_keeps_3 rfl 0 rfl  ?_
    refine J_geti (ci := 7) dX9_keeps_4 25 rfl giX9 (by decide) (by decide) rfl rfl tb_4_136 rfl  ?_
    refine J_icmp_ge (tgt := 73) dX9_keeps_7 (by decide) (fun c_1 => ?_) (fun c_1 => ?_)
    · have h := h.1 c_1
      refine J_aload_n dX9_keeps_73 rfl 0 rfl  ?_
      refine J_geti (ci := 7) dX9_keeps_74 25 rfl giX9 (by decide) (by decide) rfl rfl tb_4_136 rfl  ?_
      exact J_iret dX9_keeps_77 rfl rfl ⟨_, rfl, h⟩
    · have h := h.2 c_1
      refine J_aload_n dX9_keeps_10 rfl 0 rfl  ?_
      refine J_iload_n dX9_keeps_11 rfl 2 rfl  ?_
      refine J_callV (h := 353) (ci := 7) (As := [.int x2]) (rest := []) (n := 1) dX9_keeps_12 (c_X9_rowAt x2  _ _ h) (by decide) rfl tb_5_196 tb_5_193 tb_1_8 tb_5_195 sl_51 (by decide) rfl (by decide) (by decide) (Nat.le_of_ble_eq_true rfl) rfl (fun v_r_3 S_2 hq => ?_)
      obtain ⟨r_3, rfl, h⟩ := hq
      dsimp only [Option.toList, List.cons_append, List.nil_append]
      refine J_istore_n (lv' := [(0, .ref (g.1 + 353)), (1, .ref (g.1 + p1)), (2, .int x2), (3, .int r_3)]) dX9_keeps_15 rfl (by decide) [1, 2, 3, 0] rfl  ?_
      refine J_iconst (v := 0) dX9_keeps_16 (by decide)  ?_
      refine J_istore (lv' := [(0, .ref (g.1 + 353)), (1, .ref (g.1 + p1)), (2, .int x2), (3, .int r_3), (4, .int 0)]) dX9_keeps_17 (by decide) [1, 2, 3, 4, 0] rfl  ?_
      obtain ⟨n, h⟩ := h
      exact l_X9_keeps_19 p1 _ _ (fun y2 S  h => ih y2 S  h) hp1 n _ _ _ _  h
def wp_X9_keeps (p1 : Nat) (S : Sto) (Q : Int32 → Sto → Prop) : Prop := (∃ n_2, q_X9_keeps_2 p1  Q n_2 0 S)
set_option maxRecDepth 100000 in
set_option maxHeartbeats 4000000 in
theorem c_X9_keeps {g : Gv} (p1 : Nat) (hp1 : kd p1 = 0) (S : Sto) (Q : Int32 → Sto → Prop) (h : wp_X9_keeps p1 S Q) : CT g yX9_keeps cX9_keeps 5 (some .int) 2 [.ref (g.1 + 353), .ref (g.1 + p1)] S (Qi Q) := by
  unfold wp_X9_keeps at h
  refine CT.of (by decide) (Nat.le_of_ble_eq_true rfl) ?_
  refine J_sub (lv' := [(0, .ref (g.1 + 353)), (1, .ref (g.1 + p1))]) [0, 1] rfl ?_
  refine J_iconst (v := 0) dX9_keeps_0 (by decide)  ?_
  refine J_istore_n (lv' := [(0, .ref (g.1 + 353)), (1, .ref (g.1 + p1)), (2, .int 0)]) dX9_keeps_1 rfl (by decide) [1, 2, 0] rfl  ?_
  obtain ⟨n, h⟩ := h
  exact l_X9_keeps_2 p1  _  hp1 n _ _  h
