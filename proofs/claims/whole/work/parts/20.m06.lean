def wp_X8_told (p1 : Int32) (S : Sto) (Q : Int32 → Sto → Prop) : Prop := ((p1.toInt < 0 ∨ 4 < p1.toInt → Q ((-1)) S) ∧ (p1 = 0 → Q (S.1 1 0) S) ∧ (p1 = 1 → Q (S.1 1 1) S) ∧ (p1 = 2 → Q (S.1 1 2) S) ∧ (p1 = 3 → Q (S.1 1 5) S) ∧ (p1 = 4 → wp_X4_width  S (fun r_2 S_1 => Q r_2 S_1)))
set_option maxRecDepth 100000 in
set_option maxHeartbeats 4000000 in
theorem c_X8_told {g : Gv} (p1 : Int32)  (S : Sto) (Q : Int32 → Sto → Prop) (h : wp_X8_told p1 S Q) : CT g yX8_told cX8_told 2 (some .int) 2 [.ref (g.1 + 0), .int p1] S (Qi Q) := by
  unfold wp_X8_told at h
  refine CT.of (by decide) (Nat.le_of_ble_eq_true rfl) ?_
  refine J_sub (lv' := [(0, .ref (g.1 + 0)), (1, .int p1)]) [0, 1] rfl ?_
  refine J_iload_n dX8_told_0 rfl 1 rfl  ?_
  by_cases hsw : p1.toInt < 0 ∨ 4 < p1.toInt
  · have h := h.1 hsw
    refine J_tableOut (tgt := 76) dX8_told_1 hsw (by decide) ?_
    refine J_iconst (v := (-1)) dX8_told_76 (by decide)  ?_
    exact J_iret dX8_told_77 rfl rfl ⟨_, rfl, h⟩
  · have h := h.2
    obtain ⟨ksw, hk1, hk2⟩ := sw_in (n := 4) (fun q => hsw (Or.inl q)) (fun q => hsw (Or.inr q))
    by_cases hs0 : ksw = 0
    · have hx : p1 = 0 := by rw [hk2, hs0]; rfl
      have h := h.1 hx
      refine J_tableIn (off := 35) (tgt := 36) dX8_told_1 (by rw [hx]; decide) (by rw [hx]; decide) (by rw [hx]; decide) (by decide) ?_
      refine J_aload_n dX8_told_36 rfl 0 rfl  ?_
      refine J_getr (r := 1) (ci := 6) dX8_told_37 0 rfl giX8 (by decide) (by decide) rfl rfl tb_2_16 (by decide) (by decide)  ?_
      refine J_geti (ci := 2) dX8_told_40 0 rfl giX4 (by decide) (by decide) rfl rfl tb_1_33 rfl  ?_
      exact J_iret dX8_told_43 rfl rfl ⟨_, rfl, h⟩
    by_cases hs1 : ksw = 1
    · have hx : p1 = 1 := by rw [hk2, hs1]; rfl
      have h := h.2.1 hx
      refine J_tableIn (off := 43) (tgt := 44) dX8_told_1 (by rw [hx]; decide) (by rw [hx]; decide) (by rw [hx]; decide) (by decide) ?_
      refine J_aload_n dX8_told_44 rfl 0 rfl  ?_
      refine J_getr (r := 1) (ci := 6) dX8_told_45 0 rfl giX8 (by decide) (by decide) rfl rfl tb_2_16 (by decide) (by decide)  ?_
      refine J_geti (ci := 2) dX8_told_48 1 rfl giX4 (by decide) (by decide) rfl rfl tb_1_39 rfl  ?_
      exact J_iret dX8_told_51 rfl rfl ⟨_, rfl, h⟩
    by_cases hs2 : ksw = 2
    · have hx : p1 = 2 := by rw [hk2, hs2]; rfl
      have h := h.2.2.1 hx
      refine J_tableIn (off := 51) (tgt := 52) dX8_told_1 (by rw [hx]; decide) (by rw [hx]; decide) (by rw [hx]; decide) (by decide) ?_
      refine J_aload_n dX8_told_52 rfl 0 rfl  ?_
      refine J_getr (r := 1) (ci := 6) dX8_told_53 0 rfl giX8 (by decide) (by decide) rfl rfl tb_2_16 (by decide) (by decide)  ?_
      refine J_geti (ci := 2) dX8_told_56 2 rfl giX4 (by decide) (by decide) rfl rfl tb_1_44 rfl  ?_
      exact J_iret dX8_told_59 rfl rfl ⟨_, rfl, h⟩
    by_cases hs3 : ksw = 3
    · have hx : p1 = 3 := by rw [hk2, hs3]; rfl
      have h := h.2.2.2.1 hx
      refine J_tableIn (off := 59) (tgt := 60) dX8_told_1 (by rw [hx]; decide) (by rw [hx]; decide) (by rw [hx]; decide) (by decide) ?_
      refine J_aload_n dX8_told_60 rfl 0 rfl  ?_
      refine J_getr (r := 1) (ci := 6) dX8_told_61 0 rfl giX8 (by decide) (by decide) rfl rfl tb_2_16 (by decide) (by decide)  ?_
      refine J_geti (ci := 2) dX8_told_64 5 rfl giX4 (by decide) (by decide) rfl rfl tb_1_55 rfl  ?_
      exact J_iret dX8_told_67 rfl rfl ⟨_, rfl, h⟩
    by_cases hs4 : ksw = 4
    · have hx : p1 = 4 := by rw [hk2, hs4]; rfl
      have h := h.2.2.2.2 hx
      refine J_tableIn (off := 67) (tgt := 68) dX8_told_1 (by rw [hx]; decide) (by rw [hx]; decide) (by rw [hx]; decide) (by decide) ?_
      refine J_aload_n dX8_told_68 rfl 0 rfl  ?_
      refine J_getr (r := 1) (ci := 6) dX8_told_69 0 rfl giX8 (by decide) (by decide) rfl rfl tb_2_16 (by decide) (by decide)  ?_
      refine J_callV (h := 1) (ci := 2) (As := []) (rest := []) (n := 0) dX8_told_72 (c_X4_width   _ _ h) (by decide) rfl tb_2_91 tb_2_102 tb_1_2 tb_2_89 tb_2_90 (by decide) rfl (by decide) (by decide) (Nat.le_of_ble_eq_true rfl) rfl (fun v_r_2 S_1 hq => ?_)
      obtain ⟨r_2, rfl, h⟩ := hq
      dsimp only [Option.toList, List.cons_append, List.nil_append]
      exact J_iret dX8_told_75 rfl rfl ⟨_, rfl, h⟩
    omega
def q_X8_generator_37 (p1 : Int32) (p2 : Int32)  (Q : Int32 → Sto → Prop) (t0 : Int32) (S : Sto) : Prop := Q t0 S
set_option maxRecDepth 100000 in
set_option maxHeartbeats 4000000 in
theorem l_X8_generator_37 {g : Gv} (p1 : Int32) (p2 : Int32)  (Q : Int32 → Sto → Prop)   (t0 : Int32) (S : Sto)  (h : q_X8_generator_37 p1 p2  Q t0 S) : RJ g cX8_generator RX8 (some .int) 3 3 37 [(0, .ref (g.1 + 0)), (1, .int p1), (2, .int p2)] [.int t0] S (Qi Q) := by
  unfold q_X8_generator_37 at h
  exact J_iret dX8_generator_37 rfl rfl ⟨_, rfl, h⟩
def q_X8_generator_36 (p1 : Int32) (p2 : Int32)  (Q : Int32 → Sto → Prop)  (S : Sto) : Prop := q_X8_generator_37 p1 p2  Q ((-1)) S
set_option maxRecDepth 100000 in
set_option maxHeartbeats 4000000 in
theorem l_X8_generator_36 {g : Gv} (p1 : Int32) (p2 : Int32)  (Q : Int32 → Sto → Prop)    (S : Sto)  (h : q_X8_generator_36 p1 p2  Q  S) : RJ g cX8_generator RX8 (some .int) 3 3 36 [(0, .ref (g.1 + 0)), (1, .int p1), (2, .int p2)] [] S (Qi Q) := by
  unfold q_X8_generator_36 at h
  refine J_iconst (v := (-1)) dX8_generator_36 (by decide)  ?_
  exact l_X8_generator_37 p1 p2  _   _ _  h
def wp_X8_generator (p1 : Int32) (p2 : Int32) (S : Sto) (Q : Int32 → Sto → Prop) : Prop := wp_X4_hasGenerator p1 S (fun r_2 S_1 => ((r_2 = 0 → q_X8_generator_36 p1 p2  Q  S_1) ∧ (¬ r_2 = 0 → wp_X4_hasPlace p2 S_1 (fun r_5 S_4 => ((r_5 = 0 → q_X8_generator_36 p1 p2  Q  S_4) ∧ (¬ r_5 = 0 → vp_in p1 (4) ∧ vp_in p2 (ln (9 + 1 + (p1 : Int32).toNatClampNeg)) ∧ q_X8_generator_37 p1 p2  Q (S_4.1 (9 + 1 + (p1 : Int32).toNatClampNeg) (p2 : Int32).toNatClampNeg) S_4))))))
set_option maxRecDepth 100000 in
set_option maxHeartbeats 4000000 in
theorem c_X8_generator {g : Gv} (p1 : Int32) (p2 : Int32)  (S : Sto) (Q : Int32 → Sto → Prop) (h : wp_X8_generator p1 p2 S Q) : CT g yX8_generator cX8_generator 3 (some .int) 3 [.ref (g.1 + 0), .int p1, .int p2] S (Qi Q) := by
  unfold wp_X8_generator at h
  refine CT.of (by decide) (Nat.le_of_ble_eq_true rfl) ?_
  refine J_sub (lv' := [(0, .ref (g.1 + 0)), (1, .int p1), (2, .int p2)]) [0, 1, 2] rfl ?_
  refine J_aload_n dX8_generator_0 rfl 0 rfl  ?_
  refine J_getr (r := 1) (ci := 6) dX8_generator_1 0 rfl giX8 (by decide) (by decide) rfl rfl tb_2_16 (by decide) (by decide)  ?_
  refine J_iload_n dX8_generator_4 rfl 1 rfl  ?_
  refine J_callV (h := 1) (ci := 2) (As := [.int p1]) (rest := []) (n := 1) dX8_generator_5 (c_X4_hasGenerator p1  _ _ h) (by decide) rfl tb_3_55 tb_3_52 tb_1_2 tb_3_53 tb_3_54 (by decide) rfl (by decide) (by decide) (Nat.le_of_ble_eq_true rfl) rfl (fun v_r_2 S_1 hq => ?_)
  obtain ⟨r_2, rfl, h⟩ := hq
  dsimp only [Option.toList, List.cons_append, List.nil_append]
  refine J_if_eq (tgt := 36) dX8_generator_8 (by decide) (fun c_3 => ?_) (fun c_3 => ?_)
  · have h := h.1 c_3
    exact l_X8_generator_36 p1 p2  _    _  h
  · have h := h.2 c_3
    refine J_aload_n dX8_generator_11 rfl 0 rfl  ?_
    refine J_getr (r := 1) (ci := 6) dX8_generator_12 0 rfl giX8 (by decide) (by decide) rfl rfl tb_2_16 (by decide) (by decide)  ?_
    refine J_iload_n dX8_generator_15 rfl 2 rfl  ?_
    refine J_callV (h := 1) (ci := 2) (As := [.int p2]) (rest := []) (n := 1) dX8_generator_16 (c_X4_hasPlace p2  _ _ h) (by decide) rfl tb_2_87 tb_2_84 tb_1_2 tb_2_85 tb_2_86 (by decide) rfl (by decide) (by decide) (Nat.le_of_ble_eq_true rfl) rfl (fun v_r_5 S_4 hq => ?_)
    obtain ⟨r_5, rfl, h⟩ := hq
    dsimp only [Option.toList, List.cons_append, List.nil_append]
    refine J_if_eq (tgt := 36) dX8_generator_19 (by decide) (fun c_6 => ?_) (fun c_6 => ?_)
    · have h := h.1 c_6
      exact l_X8_generator_36 p1 p2  _    _  h
    · have h := h.2 c_6
      refine J_aload_n dX8_generator_22 rfl 0 rfl  ?_
      refine J_getr (r := 1) (ci := 6) dX8_generator_23 0 rfl giX8 (by decide) (by decide) rfl rfl tb_2_16 (by decide) (by decide)  ?_
      refine J_getr (r := 9) (ci := 2) dX8_generator_26 4 rfl giX4 (by decide) (by decide) rfl rfl tb_1_51 (by decide) (by decide)  ?_
      refine J_iload_n dX8_generator_29 rfl 1 rfl  ?_
      obtain ⟨hi_7, h⟩ := h
      refine J_aald3 dX8_generator_30 (by decide) hi_7  ?_
      refine J_iload_n dX8_generator_31 rfl 2 rfl  ?_
      obtain ⟨hi_8, h⟩ := h
      refine J_iald dX8_generator_32 (kd_row3 (by decide) hi_7) hi_8  ?_
      refine J_goto (tgt := 37) dX8_generator_33 (by decide)  ?_
      exact l_X8_generator_37 p1 p2  _   _ _  h
def q_X8_places_22 (p1 : Int32) (p2 : Int32)  (Q : Int32 → Sto → Prop)  (S : Sto) : Prop := Q ((-1)) S
set_option maxRecDepth 100000 in
set_option maxHeartbeats 4000000 in
theorem l_X8_places_22 {g : Gv} (p1 : Int32) (p2 : Int32)  (Q : Int32 → Sto → Prop)    (S : Sto)  (h : q_X8_places_22 p1 p2  Q  S) : RJ g cX8_places RX8 (some .int) 4 3 22 [(0, .ref (g.1 + 0)), (1, .int p1), (2, .int p2)] [] S (Qi Q) := by
  unfold q_X8_places_22 at h
  refine J_iconst (v := (-1)) dX8_places_22 (by decide)  ?_
  exact J_iret dX8_places_23 rfl rfl ⟨_, rfl, h⟩
def q_X8_places_49 (p1 : Int32) (p2 : Int32)  (Q : Int32 → Sto → Prop) (t0 : Int32) (S : Sto) : Prop := Q t0 S
set_option maxRecDepth 100000 in
set_option maxHeartbeats 4000000 in
theorem l_X8_places_49 {g : Gv} (p1 : Int32) (p2 : Int32)  (Q : Int32 → Sto → Prop)   (t0 : Int32) (S : Sto)  (h : q_X8_places_49 p1 p2  Q t0 S) : RJ g cX8_places RX8 (some .int) 4 3 49 [(0, .ref (g.1 + 0)), (1, .int p1), (2, .int p2)] [.int t0] S (Qi Q) := by
  unfold q_X8_places_49 at h
  exact J_iret dX8_places_49 rfl rfl ⟨_, rfl, h⟩
def wp_X8_places (p1 : Int32) (p2 : Int32) (S : Sto) (Q : Int32 → Sto → Prop) : Prop := wp_X4_hasPlace p1 S (fun r_2 S_1 => ((r_2 = 0 → q_X8_places_22 p1 p2  Q  S_1) ∧ (¬ r_2 = 0 → wp_X4_hasPlace p2 S_1 (fun r_5 S_4 => ((¬ r_5 = 0 → wp_X2_sign p1 p2 S_4 (fun r_8 S_7 => ((¬ r_8 = 0 → q_X8_places_49 p1 p2  Q (((100 * (p1 ||| p2)) + r_8) + 1) S_7) ∧ (r_8 = 0 → q_X8_places_49 p1 p2  Q ((-5)) S_7)))) ∧ (r_5 = 0 → q_X8_places_22 p1 p2  Q  S_4))))))
set_option maxRecDepth 100000 in
set_option maxHeartbeats 4000000 in
theorem c_X8_places {g : Gv} (p1 : Int32) (p2 : Int32)  (S : Sto) (Q : Int32 → Sto → Prop) (h : wp_X8_places p1 p2 S Q) : CT g yX8_places cX8_places 4 (some .int) 3 [.ref (g.1 + 0), .int p1, .int p2] S (Qi Q) := by
  unfold wp_X8_places at h
  refine CT.of (by decide) (Nat.le_of_ble_eq_true rfl) ?_
  refine J_sub (lv' := [(0, .ref (g.1 + 0)), (1, .int p1), (2, .int p2)]) [0, 1, 2] rfl ?_
  refine J_aload_n dX8_places_0 rfl 0 rfl  ?_
  refine J_getr (r := 1) (ci := 6) dX8_places_1 0 rfl giX8 (by decide) (by decide) rfl rfl tb_2_16 (by decide) (by decide)  ?_
  refine J_iload_n dX8_places_4 rfl 1 rfl  ?_
  refine J_callV (h := 1) (ci := 2) (As := [.int p1]) (rest := []) (n := 1) dX8_places_5 (c_X4_hasPlace p1  _ _ h) (by decide) rfl tb_2_87 tb_2_84 tb_1_2 tb_2_85 tb_2_86 (by decide) rfl (by decide) (by decide) (Nat.le_of_ble_eq_true rfl) rfl (fun v_r_2 S_1 hq => ?_)
  obtain ⟨r_2, rfl, h⟩ := hq
  dsimp only [Option.toList, List.cons_append, List.nil_append]
  refine J_if_eq (tgt := 22) dX8_places_8 (by decide) (fun c_3 => ?_) (fun c_3 => ?_)
  · have h := h.1 c_3
    exact l_X8_places_22 p1 p2  _    _  h
  · have h := h.2 c_3
    refine J_aload_n dX8_places_11 rfl 0 rfl  ?_
    refine J_getr (r := 1) (ci := 6) dX8_places_12 0 rfl giX8 (by decide) (by decide) rfl rfl tb_2_16 (by decide) (by decide)  ?_
    refine J_iload_n dX8_places_15 rfl 2 rfl  ?_
    refine J_callV (h := 1) (ci := 2) (As := [.int p2]) (rest := []) (n := 1) dX8_places_16 (c_X4_hasPlace p2  _ _ h) (by decide) rfl tb_2_87 tb_2_84 tb_1_2 tb_2_85 tb_2_86 (by decide) rfl (by decide) (by decide) (Nat.le_of_ble_eq_true rfl) rfl (fun v_r_5 S_4 hq => ?_)
    obtain ⟨r_5, rfl, h⟩ := hq
    dsimp only [Option.toList, List.cons_append, List.nil_append]
    refine J_if_ne (tgt := 24) dX8_places_19 (by decide) (fun c_6 => ?_) (fun c_6 => ?_)
    · have h := h.1 c_6
      refine J_iload_n dX8_places_24 rfl 1 rfl  ?_
      refine J_iload_n dX8_places_25 rfl 2 rfl  ?_
      refine J_callS (As := [.int p1, .int p2]) (rest := []) (n := 2) dX8_places_26 (c_X2_sign p1 p2  _ _ h) tb_2_108 tb_3_60 tb_1_9 tb_2_107 (by decide) rfl (by decide) (by decide) (Nat.le_of_ble_eq_true rfl) rfl (fun v_r_8 S_7 hq => ?_)
      obtain ⟨r_8, rfl, h⟩ := hq
      dsimp only [Option.toList, List.cons_append, List.nil_append]
      refine J_istore_n (lv' := [(0, .ref (g.1 + 0)), (1, .int p1), (2, .int p2), (3, .int r_8)]) dX8_places_29 rfl (by decide) [1, 2, 3, 0] rfl  ?_
      refine J_iload_n dX8_places_30 rfl 3 rfl  ?_
      refine J_if_ne (tgt := 39) dX8_places_31 (by decide) (fun c_9 => ?_) (fun c_9 => ?_)
      · have h := h.1 c_9
        refine J_bipush (v := 100) dX8_places_39 (by decide)  ?_
        refine J_iload_n dX8_places_41 rfl 1 rfl  ?_
        refine J_iload_n dX8_places_42 rfl 2 rfl  ?_
        refine J_ior dX8_places_43  ?_
        refine J_imul dX8_places_44  ?_
        refine J_iload_n dX8_places_45 rfl 3 rfl  ?_
        refine J_iadd dX8_places_46  ?_
        refine J_iconst (v := 1) dX8_places_47 (by decide)  ?_
        refine J_iadd dX8_places_48  ?_
        refine J_sub (lv' := [(0, .ref (g.1 + 0)), (1, .int p1), (2, .int p2)]) [0, 1, 2] rfl ?_
        exact l_X8_places_49 p1 p2  _   _ _  h
      · have h := h.2 c_9
        refine J_bipush (v := (-5)) dX8_places_34 (by decide)  ?_
        refine J_goto (tgt := 49) dX8_places_36 (by decide)  ?_
        refine J_sub (lv' := [(0, .ref (g.1 + 0)), (1, .int p1), (2, .int p2)]) [0, 1, 2] rfl ?_
        exact l_X8_places_49 p1 p2  _   _ _  h
    · have h := h.2 c_6
      exact l_X8_places_22 p1 p2  _    _  h
def q_X8_lead_50 (p1 : Int32)  (Q : Int32 → Sto → Prop) (t0 : Int32) (S : Sto) : Prop := Q t0 S
set_option maxRecDepth 100000 in
set_option maxHeartbeats 4000000 in
theorem l_X8_lead_50 {g : Gv} (p1 : Int32)  (Q : Int32 → Sto → Prop)   (t0 : Int32) (S : Sto)  (h : q_X8_lead_50 p1  Q t0 S) : RJ g cX8_lead RX8 (some .int) 3 3 50 [(0, .ref (g.1 + 0)), (1, .int p1)] [.int t0] S (Qi Q) := by
  unfold q_X8_lead_50 at h
  exact J_iret dX8_lead_50 rfl rfl ⟨_, rfl, h⟩
def wp_X8_lead (p1 : Int32) (S : Sto) (Q : Int32 → Sto → Prop) : Prop := wp_X4_hasElement p1 S (fun r_2 S_1 => ((¬ r_2 = 0 → vp_in p1 (6) ∧ wp_X4_width  S_1 (fun r_6 S_5 => wp_X2_leadIn (2 + 1 + (p1 : Int32).toNatClampNeg) r_6 (S_5.1 1 2) S_5 (fun r_8 S_7 => ((0 ≤ r_8 → q_X8_lead_50 p1  Q r_8 S_7) ∧ (¬ 0 ≤ r_8 → q_X8_lead_50 p1  Q ((-5)) S_7))))) ∧ (r_2 = 0 → Q ((-1)) S_1)))
set_option maxRecDepth 100000 in
set_option maxHeartbeats 4000000 in
theorem c_X8_lead {g : Gv} (p1 : Int32)  (S : Sto) (Q : Int32 → Sto → Prop) (h : wp_X8_lead p1 S Q) : CT g yX8_lead cX8_lead 3 (some .int) 3 [.ref (g.1 + 0), .int p1] S (Qi Q) := by
  unfold wp_X8_lead at h
  refine CT.of (by decide) (Nat.le_of_ble_eq_true rfl) ?_
  refine J_sub (lv' := [(0, .ref (g.1 + 0)), (1, .int p1)]) [0, 1] rfl ?_
  refine J_aload_n dX8_lead_0 rfl 0 rfl  ?_
  refine J_getr (r := 1) (ci := 6) dX8_lead_1 0 rfl giX8 (by decide) (by decide) rfl rfl tb_2_16 (by decide) (by decide)  ?_
  refine J_iload_n dX8_lead_4 rfl 1 rfl  ?_
  refine J_callV (h := 1) (ci := 2) (As := [.int p1]) (rest := []) (n := 1) dX8_lead_5 (c_X4_hasElement p1  _ _ h) (by decide) rfl tb_2_83 tb_2_80 tb_1_2 tb_2_81 tb_2_82 (by decide) rfl (by decide) (by decide) (Nat.le_of_ble_eq_true rfl) rfl (fun v_r_2 S_1 hq => ?_)
  obtain ⟨r_2, rfl, h⟩ := hq
  dsimp only [Option.toList, List.cons_append, List.nil_append]
  refine J_if_ne (tgt := 13) dX8_lead_8 (by decide) (fun c_3 => ?_) (fun c_3 => ?_)
  · have h := h.1 c_3
    refine J_aload_n dX8_lead_13 rfl 0 rfl  ?_
    refine J_getr (r := 1) (ci := 6) dX8_lead_14 0 rfl giX8 (by decide) (by decide) rfl rfl tb_2_16 (by decide) (by decide)  ?_
    refine J_getr (r := 2) (ci := 2) dX8_lead_17 3 rfl giX4 (by decide) (by decide) rfl rfl tb_1_46 (by decide) (by decide)  ?_
    refine J_iload_n dX8_lead_20 rfl 1 rfl  ?_
    obtain ⟨hi_4, h⟩ := h
    refine J_aald3 dX8_lead_21 (by decide) hi_4  ?_
    refine J_aload_n dX8_lead_22 rfl 0 rfl  ?_
    refine J_getr (r := 1) (ci := 6) dX8_lead_23 0 rfl giX8 (by decide) (by decide) rfl rfl tb_2_16 (by decide) (by decide)  ?_
    refine J_callV (h := 1) (ci := 2) (As := []) (rest := [.ref (g.1 + (2 + 1 + (p1 : Int32).toNatClampNeg))]) (n := 0) dX8_lead_26 (c_X4_width   _ _ h) (by decide) rfl tb_2_91 tb_2_102 tb_1_2 tb_2_89 tb_2_90 (by decide) rfl (by decide) (by decide) (Nat.le_of_ble_eq_true rfl) rfl (fun v_r_6 S_5 hq => ?_)
    obtain ⟨r_6, rfl, h⟩ := hq
    dsimp only [Option.toList, List.cons_append, List.nil_append]
    refine J_aload_n dX8_lead_29 rfl 0 rfl  ?_
    refine J_getr (r := 1) (ci := 6) dX8_lead_30 0 rfl giX8 (by decide) (by decide) rfl rfl tb_2_16 (by decide) (by decide)  ?_
    refine J_geti (ci := 2) dX8_lead_33 2 rfl giX4 (by decide) (by decide) rfl rfl tb_1_44 rfl  ?_
    refine J_callS (As := [.ref (g.1 + (2 + 1 + (p1 : Int32).toNatClampNeg)), .int r_6, .int (S_5.1 1 2)]) (rest := []) (n := 3) dX8_lead_36 (c_X2_leadIn (2 + 1 + (p1 : Int32).toNatClampNeg) r_6 (S_5.1 1 2) (kd_row3 (by decide) hi_4) _ _ h) tb_2_179 tb_3_65 tb_1_9 tb_2_178 (by decide) rfl (by decide) (by decide) (Nat.le_of_ble_eq_true rfl) rfl (fun v_r_8 S_7 hq => ?_)
    obtain ⟨r_8, rfl, h⟩ := hq
    dsimp only [Option.toList, List.cons_append, List.nil_append]
    refine J_istore_n (lv' := [(0, .ref (g.1 + 0)), (1, .int p1), (2, .int r_8)]) dX8_lead_39 rfl (by decide) [1, 2, 0] rfl  ?_
    refine J_iload_n dX8_lead_40 rfl 2 rfl  ?_
    refine J_if_ge (tgt := 49) dX8_lead_41 (by decide) (fun c_9 => ?_) (fun c_9 => ?_)
    · have h := h.1 c_9
      refine J_iload_n dX8_lead_49 rfl 2 rfl  ?_
      refine J_sub (lv' := [(0, .ref (g.1 + 0)), (1, .int p1)]) [0, 1] rfl ?_
      exact l_X8_lead_50 p1  _   _ _  h
    · have h := h.2 c_9
      refine J_bipush (v := (-5)) dX8_lead_44 (by decide)  ?_
      refine J_goto (tgt := 50) dX8_lead_46 (by decide)  ?_
      refine J_sub (lv' := [(0, .ref (g.1 + 0)), (1, .int p1)]) [0, 1] rfl ?_
      exact l_X8_lead_50 p1  _   _ _  h
  · have h := h.2 c_3
    refine J_iconst (v := (-1)) dX8_lead_11 (by decide)  ?_
    exact J_iret dX8_lead_12 rfl rfl ⟨_, rfl, h⟩
def q_X8_isSide_14 (p0 : Int32)  (Q : Int32 → Sto → Prop) (t0 : Int32) (S : Sto) : Prop := narrow .boolean (.int t0) = .int t0 ∧ Q t0 S
set_option maxRecDepth 100000 in
set_option maxHeartbeats 4000000 in
theorem l_X8_isSide_14 {g : Gv} (p0 : Int32)  (Q : Int32 → Sto → Prop)   (t0 : Int32) (S : Sto)  (h : q_X8_isSide_14 p0  Q t0 S) : RJ g cX8_isSide RX8 (some .boolean) 1 1 14 [(0, .int p0)] [.int t0] S (Qi Q) := by
  unfold q_X8_isSide_14 at h
  obtain ⟨hb, h⟩ := h
  exact J_iret dX8_isSide_14 rfl hb ⟨_, rfl, h⟩
def q_X8_isSide_13 (p0 : Int32)  (Q : Int32 → Sto → Prop)  (S : Sto) : Prop := q_X8_isSide_14 p0  Q 0 S
set_option maxRecDepth 100000 in
set_option maxHeartbeats 4000000 in
theorem l_X8_isSide_13 {g : Gv} (p0 : Int32)  (Q : Int32 → Sto → Prop)    (S : Sto)  (h : q_X8_isSide_13 p0  Q  S) : RJ g cX8_isSide RX8 (some .boolean) 1 1 13 [(0, .int p0)] [] S (Qi Q) := by
  unfold q_X8_isSide_13 at h
  refine J_iconst (v := 0) dX8_isSide_13 (by decide)  ?_
  exact l_X8_isSide_14 p0  _   _ _  h
def wp_X8_isSide (p0 : Int32) (S : Sto) (Q : Int32 → Sto → Prop) : Prop := ((p0 < 0 → q_X8_isSide_13 p0  Q  S) ∧ (¬ p0 < 0 → ((2 < p0 → q_X8_isSide_13 p0  Q  S) ∧ (¬ 2 < p0 → q_X8_isSide_14 p0  Q 1 S))))
set_option maxRecDepth 100000 in
set_option maxHeartbeats 4000000 in
theorem c_X8_isSide {g : Gv} (p0 : Int32)  (S : Sto) (Q : Int32 → Sto → Prop) (h : wp_X8_isSide p0 S Q) : CT g yX8_isSide cX8_isSide 1 (some .boolean) 1 [.int p0] S (Qi Q) := by
  unfold wp_X8_isSide at h
  refine CT.of (by decide) (Nat.le_of_ble_eq_true rfl) ?_
  refine J_sub (lv' := [(0, .int p0)]) [0] rfl ?_
  refine J_iload_n dX8_isSide_0 rfl 0 rfl  ?_
  refine J_if_lt (tgt := 13) dX8_isSide_1 (by decide) (fun c_1 => ?_) (fun c_1 => ?_)
  · have h := h.1 c_1
    exact l_X8_isSide_13 p0  _    _  h
  · have h := h.2 c_1
    refine J_iload_n dX8_isSide_4 rfl 0 rfl  ?_
    refine J_iconst (v := 2) dX8_isSide_5 (by decide)  ?_
    refine J_icmp_gt (tgt := 13) dX8_isSide_6 (by decide) (fun c_2 => ?_) (fun c_2 => ?_)
    · have h := h.1 c_2
      exact l_X8_isSide_13 p0  _    _  h
    · have h := h.2 c_2
      refine J_iconst (v := 1) dX8_isSide_9 (by decide)  ?_
      refine J_goto (tgt := 14) dX8_isSide_10 (by decide)  ?_
      exact l_X8_isSide_14 p0  _   _ _  h
def q_X8_rank_26 (p1 : Int32)  (Q : Int32 → Sto → Prop) (t0 : Int32) (S : Sto) : Prop := Q t0 S
set_option maxRecDepth 100000 in
set_option maxHeartbeats 4000000 in
theorem l_X8_rank_26 {g : Gv} (p1 : Int32)  (Q : Int32 → Sto → Prop)   (t0 : Int32) (S : Sto)  (h : q_X8_rank_26 p1  Q t0 S) : RJ g cX8_rank RX8 (some .int) 2 7 26 [(0, .ref (g.1 + 0)), (1, .int p1)] [.int t0] S (Qi Q) := by
  unfold q_X8_rank_26 at h
  exact J_iret dX8_rank_26 rfl rfl ⟨_, rfl, h⟩
def wp_X8_rank (p1 : Int32) (S : Sto) (Q : Int32 → Sto → Prop) : Prop := wp_X8_isSide p1 S (fun r_2 S_1 => ((r_2 = 0 → q_X8_rank_26 p1  Q ((-1)) S_1) ∧ (¬ r_2 = 0 → wp_X1_ofSide p1 S_1 (fun r_5 S_4 => kd r_5 = 8 → q_X8_rank_26 p1  Q (S_4.1 r_5 2) S_4))))
set_option maxRecDepth 100000 in
set_option maxHeartbeats 4000000 in
theorem c_X8_rank {g : Gv} (p1 : Int32)  (S : Sto) (Q : Int32 → Sto → Prop) (h : wp_X8_rank p1 S Q) : CT g yX8_rank cX8_rank 2 (some .int) 7 [.ref (g.1 + 0), .int p1] S (Qi Q) := by
  unfold wp_X8_rank at h
  refine CT.of (by decide) (Nat.le_of_ble_eq_true rfl) ?_
  refine J_sub (lv' := [(0, .ref (g.1 + 0)), (1, .int p1)]) [0, 1] rfl ?_
  refine J_iload_n dX8_rank_0 rfl 1 rfl  ?_
  refine J_callS (As := [.int p1]) (rest := []) (n := 1) dX8_rank_1 (c_X8_isSide p1  _ _ h) tb_3_72 tb_3_70 tb_1_1 tb_3_71 (by decide) rfl (by decide) (by decide) (Nat.le_of_ble_eq_true rfl) rfl (fun v_r_2 S_1 hq => ?_)
  obtain ⟨r_2, rfl, h⟩ := hq
  dsimp only [Option.toList, List.cons_append, List.nil_append]
  refine J_if_eq (tgt := 25) dX8_rank_4 (by decide) (fun c_3 => ?_) (fun c_3 => ?_)
  · have h := h.1 c_3
    refine J_iconst (v := (-1)) dX8_rank_25 (by decide)  ?_
    exact l_X8_rank_26 p1  _   _ _  h
  · have h := h.2 c_3
    refine J_aload_n dX8_rank_7 rfl 0 rfl  ?_
    refine J_getr (r := 48) (ci := 6) dX8_rank_8 5 rfl giX8 (by decide) (by decide) rfl rfl tb_2_21 (by decide) (by decide)  ?_
    refine J_aload_n dX8_rank_11 rfl 0 rfl  ?_
    refine J_getr (r := 1) (ci := 6) dX8_rank_12 0 rfl giX8 (by decide) (by decide) rfl rfl tb_2_16 (by decide) (by decide)  ?_
    refine J_iload_n dX8_rank_15 rfl 1 rfl  ?_
    refine J_callV (h := 48) (ci := 0) (As := [.ref (g.1 + 1), .int p1]) (rest := []) (n := 2) dX8_rank_16 (c_X1_ofSide p1  _ _ h) (by decide) rfl tb_2_144 tb_2_141 tb_1_5 tb_2_142 tb_2_143 (by decide) rfl (by decide) (by decide) (Nat.le_of_ble_eq_true rfl) rfl (fun v_r_5 S_4 hq => ?_)
    obtain ⟨r_5, rfl, hk_6, h⟩ := hq
    have h := h hk_6
    dsimp only [Option.toList, List.cons_append, List.nil_append]
    refine J_geti (ci := 3) dX8_rank_19 2 rfl giX5 hk_6 (by decide) rfl rfl tb_1_161 rfl  ?_
    refine J_goto (tgt := 26) dX8_rank_22 (by decide)  ?_
    exact l_X8_rank_26 p1  _   _ _  h
def q_X8_basis_23 (p1 : Int32) (p2 : Int32) (p3 : Int32)  (Q : Int32 → Sto → Prop)  (S : Sto) : Prop := Q ((-1)) S
set_option maxRecDepth 100000 in
set_option maxHeartbeats 4000000 in
theorem l_X8_basis_23 {g : Gv} (p1 : Int32) (p2 : Int32) (p3 : Int32)  (Q : Int32 → Sto → Prop)    (S : Sto)  (h : q_X8_basis_23 p1 p2 p3  Q  S) : RJ g cX8_basis RX8 (some .int) 6 7 23 [(0, .ref (g.1 + 0)), (1, .int p1), (2, .int p2), (3, .int p3)] [] S (Qi Q) := by
  unfold q_X8_basis_23 at h
  refine J_iconst (v := (-1)) dX8_basis_23 (by decide)  ?_
  exact J_iret dX8_basis_24 rfl rfl ⟨_, rfl, h⟩
def q_X8_basis_73 (p1 : Int32) (p2 : Int32) (p3 : Int32)  (Q : Int32 → Sto → Prop) (t0 : Int32) (S : Sto) : Prop := Q t0 S
set_option maxRecDepth 100000 in
set_option maxHeartbeats 4000000 in
theorem l_X8_basis_73 {g : Gv} (p1 : Int32) (p2 : Int32) (p3 : Int32)  (Q : Int32 → Sto → Prop)   (t0 : Int32) (S : Sto)  (h : q_X8_basis_73 p1 p2 p3  Q t0 S) : RJ g cX8_basis RX8 (some .int) 6 7 73 [(0, .ref (g.1 + 0)), (1, .int p1), (2, .int p2), (3, .int p3)] [.int t0] S (Qi Q) := by
  unfold q_X8_basis_73 at h
  exact J_iret dX8_basis_73 rfl rfl ⟨_, rfl, h⟩
def wp_X8_basis (p1 : Int32) (p2 : Int32) (p3 : Int32) (S : Sto) (Q : Int32 → Sto → Prop) : Prop := wp_X8_isSide p1 S (fun r_2 S_1 => ((r_2 = 0 → q_X8_basis_23 p1 p2 p3  Q  S_1) ∧ (¬ r_2 = 0 → ((p3 < ((-1)) → q_X8_basis_23 p1 p2 p3  Q  S_1) ∧ (¬ p3 < ((-1)) → wp_X4_width  S_1 (fun r_6 S_5 => ((p3 < r_6 → wp_X1_ofSide p1 S_5 (fun r_9 S_8 => kd r_9 = 8 → wp_X5_leadNumber r_9 p2 S_8 (fun r_12 S_11 => ((0 ≤ r_12 → ((0 ≤ p3 → vp_in r_12 (ln (r_9 + 1)) ∧ vp_in p3 (ln (r_9 + 1 + 1 + (r_12 : Int32).toNatClampNeg)) ∧ q_X8_basis_73 p1 p2 p3  Q (S_11.1 (r_9 + 1 + 1 + (r_12 : Int32).toNatClampNeg) (p3 : Int32).toNatClampNeg) S_11) ∧ (¬ 0 ≤ p3 → q_X8_basis_73 p1 p2 p3  Q r_12 S_11))) ∧ (¬ 0 ≤ r_12 → Q ((-1)) S_11))))) ∧ (¬ p3 < r_6 → q_X8_basis_23 p1 p2 p3  Q  S_5))))))))
set_option maxRecDepth 100000 in
set_option maxHeartbeats 4000000 in
theorem c_X8_basis {g : Gv} (p1 : Int32) (p2 : Int32) (p3 : Int32)  (S : Sto) (Q : Int32 → Sto → Prop) (h : wp_X8_basis p1 p2 p3 S Q) : CT g yX8_basis cX8_basis 6 (some .int) 7 [.ref (g.1 + 0), .int p1, .int p2, .int p3] S (Qi Q) := by
  unfold wp_X8_basis at h
  refine CT.of (by decide) (Nat.le_of_ble_eq_true rfl) ?_
  refine J_sub (lv' := [(0, .ref (g.1 + 0)), (1, .int p1), (2, .int p2), (3, .int p3)]) [0, 1, 2, 3] rfl ?_
  refine J_iload_n dX8_basis_0 rfl 1 rfl  ?_
  refine J_callS (As := [.int p1]) (rest := []) (n := 1) dX8_basis_1 (c_X8_isSide p1  _ _ h) tb_3_72 tb_3_70 tb_1_1 tb_3_71 (by decide) rfl (by decide) (by decide) (Nat.le_of_ble_eq_true rfl) rfl (fun v_r_2 S_1 hq => ?_)
  obtain ⟨r_2, rfl, h⟩ := hq
  dsimp only [Option.toList, List.cons_append, List.nil_append]
  refine J_if_eq (tgt := 23) dX8_basis_4 (by decide) (fun c_3 => ?_) (fun c_3 => ?_)
  · have h := h.1 c_3
    exact l_X8_basis_23 p1 p2 p3  _    _  h
  · have h := h.2 c_3
    refine J_iload_n dX8_basis_7 rfl 3 rfl  ?_
    refine J_iconst (v := (-1)) dX8_basis_8 (by decide)  ?_
    refine J_icmp_lt (tgt := 23) dX8_basis_9 (by decide) (fun c_4 => ?_) (fun c_4 => ?_)
    · have h := h.1 c_4
      exact l_X8_basis_23 p1 p2 p3  _    _  h
    · have h := h.2 c_4
      refine J_iload_n dX8_basis_12 rfl 3 rfl  ?_
      refine J_aload_n dX8_basis_13 rfl 0 rfl  ?_
      refine J_getr (r := 1) (ci := 6) dX8_basis_14 0 rfl giX8 (by decide) (by decide) rfl rfl tb_2_16 (by decide) (by decide)  ?_
      refine J_callV (h := 1) (ci := 2) (As := []) (rest := [.int p3]) (n := 0) dX8_basis_17 (c_X4_width   _ _ h) (by decide) rfl tb_2_91 tb_2_102 tb_1_2 tb_2_89 tb_2_90 (by decide) rfl (by decide) (by decide) (Nat.le_of_ble_eq_true rfl) rfl (fun v_r_6 S_5 hq => ?_)
      obtain ⟨r_6, rfl, h⟩ := hq
      dsimp only [Option.toList, List.cons_append, List.nil_append]
      refine J_icmp_lt (tgt := 25) dX8_basis_20 (by decide) (fun c_7 => ?_) (fun c_7 => ?_)
      · have h := h.1 c_7
        refine J_aload_n dX8_basis_25 rfl 0 rfl  ?_
        refine J_getr (r := 48) (ci := 6) dX8_basis_26 5 rfl giX8 (by decide) (by decide) rfl rfl tb_2_21 (by decide) (by decide)  ?_
        refine J_aload_n dX8_basis_29 rfl 0 rfl  ?_
        refine J_getr (r := 1) (ci := 6) dX8_basis_30 0 rfl giX8 (by decide) (by decide) rfl rfl tb_2_16 (by decide) (by decide)  ?_
        refine J_iload_n dX8_basis_33 rfl 1 rfl  ?_
        refine J_callV (h := 48) (ci := 0) (As := [.ref (g.1 + 1), .int p1]) (rest := []) (n := 2) dX8_basis_34 (c_X1_ofSide p1  _ _ h) (by decide) rfl tb_2_144 tb_2_141 tb_1_5 tb_2_142 tb_2_143 (by decide) rfl (by decide) (by decide) (Nat.le_of_ble_eq_true rfl) rfl (fun v_r_9 S_8 hq => ?_)
        obtain ⟨r_9, rfl, hk_10, h⟩ := hq
        have h := h hk_10
        dsimp only [Option.toList, List.cons_append, List.nil_append]
        refine J_astore (lv' := [(0, .ref (g.1 + 0)), (1, .int p1), (2, .int p2), (3, .int p3), (4, .ref (g.1 + r_9))]) dX8_basis_37 (by decide) [1, 2, 3, 4, 0] rfl  ?_
        refine J_aload dX8_basis_39 4 rfl  ?_
        refine J_iload_n dX8_basis_41 rfl 2 rfl  ?_
        refine J_callV (h := r_9) (ci := 3) (As := [.int p2]) (rest := []) (n := 1) dX8_basis_42 (c_X5_leadNumber r_9 p2 hk_10 _ _ h) hk_10 rfl tb_3_80 tb_3_77 tb_1_6 tb_3_78 tb_3_79 (by decide) rfl (by decide) (by decide) (Nat.le_of_ble_eq_true rfl) rfl (fun v_r_12 S_11 hq => ?_)
        obtain ⟨r_12, rfl, h⟩ := hq
        dsimp only [Option.toList, List.cons_append, List.nil_append]
        refine J_istore (lv' := [(0, .ref (g.1 + 0)), (1, .int p1), (2, .int p2), (3, .int p3), (4, .ref (g.1 + r_9)), (5, .int r_12)]) dX8_basis_45 (by decide) [1, 2, 3, 4, 5, 0] rfl  ?_
        refine J_iload dX8_basis_47 5 rfl  ?_
        refine J_if_ge (tgt := 54) dX8_basis_49 (by decide) (fun c_13 => ?_) (fun c_13 => ?_)
        · have h := h.1 c_13
          refine J_iload_n dX8_basis_54 rfl 3 rfl  ?_
          refine J_if_ge (tgt := 63) dX8_basis_55 (by decide) (fun c_14 => ?_) (fun c_14 => ?_)
          · have h := h.1 c_14
            refine J_aload dX8_basis_63 4 rfl  ?_
            refine J_getr (r := r_9 + 1) (ci := 3) dX8_basis_65 0 rfl giX5 hk_10 (by decide) rfl rfl tb_1_157 (by decide) (sp_rf0 hk_10)  ?_
            refine J_iload dX8_basis_68 5 rfl  ?_
            obtain ⟨hi_15, h⟩ := h
            refine J_aald3 dX8_basis_70 (sp_rows hk_10) hi_15  ?_
            refine J_iload_n dX8_basis_71 rfl 3 rfl  ?_
            obtain ⟨hi_16, h⟩ := h
            refine J_iald dX8_basis_72 (kd_row3 (sp_rows hk_10) hi_15) hi_16  ?_
            refine J_sub (lv' := [(0, .ref (g.1 + 0)), (1, .int p1), (2, .int p2), (3, .int p3)]) [0, 1, 2, 3] rfl ?_
            exact l_X8_basis_73 p1 p2 p3  _   _ _  h
          · have h := h.2 c_14
            refine J_iload dX8_basis_58 5 rfl  ?_
            refine J_goto (tgt := 73) dX8_basis_60 (by decide)  ?_
            refine J_sub (lv' := [(0, .ref (g.1 + 0)), (1, .int p1), (2, .int p2), (3, .int p3)]) [0, 1, 2, 3] rfl ?_
            exact l_X8_basis_73 p1 p2 p3  _   _ _  h
        · have h := h.2 c_13
          refine J_iconst (v := (-1)) dX8_basis_52 (by decide)  ?_
          exact J_iret dX8_basis_53 rfl rfl ⟨_, rfl, h⟩
      · have h := h.2 c_7
        exact l_X8_basis_23 p1 p2 p3  _    _  h
def q_X8_within_18 (p1 : Int32) (p2 : Int32)  (Q : Int32 → Sto → Prop)  (S : Sto) : Prop := Q ((-1)) S
set_option maxRecDepth 100000 in
set_option maxHeartbeats 4000000 in
theorem l_X8_within_18 {g : Gv} (p1 : Int32) (p2 : Int32)  (Q : Int32 → Sto → Prop)    (S : Sto)  (h : q_X8_within_18 p1 p2  Q  S) : RJ g cX8_within RX8 (some .int) 3 7 18 [(0, .ref (g.1 + 0)), (1, .int p1), (2, .int p2)] [] S (Qi Q) := by
  unfold q_X8_within_18 at h
  refine J_iconst (v := (-1)) dX8_within_18 (by decide)  ?_
  exact J_iret dX8_within_19 rfl rfl ⟨_, rfl, h⟩
def q_X8_within_59 (p1 : Int32) (p2 : Int32)  (Q : Int32 → Sto → Prop) (t0 : Int32) (S : Sto) : Prop := Q t0 S
set_option maxRecDepth 100000 in
set_option maxHeartbeats 4000000 in
theorem l_X8_within_59 {g : Gv} (p1 : Int32) (p2 : Int32)  (Q : Int32 → Sto → Prop)   (t0 : Int32) (S : Sto)  (h : q_X8_within_59 p1 p2  Q t0 S) : RJ g cX8_within RX8 (some .int) 3 7 59 [(0, .ref (g.1 + 0)), (1, .int p1), (2, .int p2)] [.int t0] S (Qi Q) := by
  unfold q_X8_within_59 at h
  exact J_iret dX8_within_59 rfl rfl ⟨_, rfl, h⟩
def wp_X8_within (p1 : Int32) (p2 : Int32) (S : Sto) (Q : Int32 → Sto → Prop) : Prop := wp_X8_isSide p1 S (fun r_2 S_1 => ((r_2 = 0 → q_X8_within_18 p1 p2  Q  S_1) ∧ (¬ r_2 = 0 → wp_X4_hasElement p2 S_1 (fun r_5 S_4 => ((¬ r_5 = 0 → wp_X1_ofSide p1 S_4 (fun r_8 S_7 => kd r_8 = 8 → wp_X8_leaveRest r_8 p2 S_7 (fun S_10 => wp_X4_width  S_10 (fun r_13 S_12 => wp_X2_nonZeros 352 r_13 S_12 (fun r_15 S_14 => ((¬ r_15 = 0 → q_X8_within_59 p1 p2  Q 0 S_14) ∧ (r_15 = 0 → q_X8_within_59 p1 p2  Q 1 S_14))))))) ∧ (r_5 = 0 → q_X8_within_18 p1 p2  Q  S_4))))))
set_option maxRecDepth 100000 in
set_option maxHeartbeats 4000000 in
theorem c_X8_within {g : Gv} (p1 : Int32) (p2 : Int32)  (S : Sto) (Q : Int32 → Sto → Prop) (h : wp_X8_within p1 p2 S Q) : CT g yX8_within cX8_within 3 (some .int) 7 [.ref (g.1 + 0), .int p1, .int p2] S (Qi Q) := by
  unfold wp_X8_within at h
  refine CT.of (by decide) (Nat.le_of_ble_eq_true rfl) ?_
  refine J_sub (lv' := [(0, .ref (g.1 + 0)), (1, .int p1), (2, .int p2)]) [0, 1, 2] rfl ?_
  refine J_iload_n dX8_within_0 rfl 1 rfl  ?_
  refine J_callS (As := [.int p1]) (rest := []) (n := 1) dX8_within_1 (c_X8_isSide p1  _ _ h) tb_3_72 tb_3_70 tb_1_1 tb_3_71 (by decide) rfl (by decide) (by decide) (Nat.le_of_ble_eq_true rfl) rfl (fun v_r_2 S_1 hq => ?_)
  obtain ⟨r_2, rfl, h⟩ := hq
  dsimp only [Option.toList, List.cons_append, List.nil_append]
  refine J_if_eq (tgt := 18) dX8_within_4 (by decide) (fun c_3 => ?_) (fun c_3 => ?_)
  · have h := h.1 c_3
    exact l_X8_within_18 p1 p2  _    _  h
  · have h := h.2 c_3
    refine J_aload_n dX8_within_7 rfl 0 rfl  ?_
    refine J_getr (r := 1) (ci := 6) dX8_within_8 0 rfl giX8 (by decide) (by decide) rfl rfl tb_2_16 (by decide) (by decide)  ?_
    refine J_iload_n dX8_within_11 rfl 2 rfl  ?_
    refine J_callV (h := 1) (ci := 2) (As := [.int p2]) (rest := []) (n := 1) dX8_within_12 (c_X4_hasElement p2  _ _ h) (by decide) rfl tb_2_83 tb_2_80 tb_1_2 tb_2_81 tb_2_82 (by decide) rfl (by decide) (by decide) (Nat.le_of_ble_eq_true rfl) rfl (fun v_r_5 S_4 hq => ?_)
    obtain ⟨r_5, rfl, h⟩ := hq
    dsimp only [Option.toList, List.cons_append, List.nil_append]
    refine J_if_ne (tgt := 20) dX8_within_15 (by decide) (fun c_6 => ?_) (fun c_6 => ?_)
    · have h := h.1 c_6
      refine J_aload_n dX8_within_20 rfl 0 rfl  ?_
      refine J_aload_n dX8_within_21 rfl 0 rfl  ?_
      refine J_getr (r := 48) (ci := 6) dX8_within_22 5 rfl giX8 (by decide) (by decide) rfl rfl tb_2_21 (by decide) (by decide)  ?_
      refine J_aload_n dX8_within_25 rfl 0 rfl  ?_
      refine J_getr (r := 1) (ci := 6) dX8_within_26 0 rfl giX8 (by decide) (by decide) rfl rfl tb_2_16 (by decide) (by decide)  ?_
      refine J_iload_n dX8_within_29 rfl 1 rfl  ?_
      refine J_callV (h := 48) (ci := 0) (As := [.ref (g.1 + 1), .int p1]) (rest := [.ref (g.1 + 0)]) (n := 2) dX8_within_30 (c_X1_ofSide p1  _ _ h) (by decide) rfl tb_2_144 tb_2_141 tb_1_5 tb_2_142 tb_2_143 (by decide) rfl (by decide) (by decide) (Nat.le_of_ble_eq_true rfl) rfl (fun v_r_8 S_7 hq => ?_)
      obtain ⟨r_8, rfl, hk_9, h⟩ := hq
      have h := h hk_9
      dsimp only [Option.toList, List.cons_append, List.nil_append]
      refine J_iload_n dX8_within_33 rfl 2 rfl  ?_
      refine J_callV (h := 0) (ci := 6) (As := [.ref (g.1 + r_8), .int p2]) (rest := []) (n := 2) dX8_within_34 (c_X8_leaveRest r_8 p2 hk_9 _ _ h) (by decide) rfl tb_2_195 tb_2_192 tb_1_1 tb_2_194 sl_4 (by decide) rfl (by decide) (by decide) (Nat.le_of_ble_eq_true rfl) rfl (fun v_r_11 S_10 hq => ?_)
      obtain ⟨rfl, h⟩ := hq
      dsimp only [Option.toList, List.cons_append, List.nil_append]
      refine J_aload_n dX8_within_37 rfl 0 rfl  ?_
      refine J_getr (r := 352) (ci := 6) dX8_within_38 7 rfl giX8 (by decide) (by decide) rfl rfl tb_2_23 (by decide) (by decide)  ?_
      refine J_aload_n dX8_within_41 rfl 0 rfl  ?_
      refine J_getr (r := 1) (ci := 6) dX8_within_42 0 rfl giX8 (by decide) (by decide) rfl rfl tb_2_16 (by decide) (by decide)  ?_
      refine J_callV (h := 1) (ci := 2) (As := []) (rest := [.ref (g.1 + 352)]) (n := 0) dX8_within_45 (c_X4_width   _ _ h) (by decide) rfl tb_2_91 tb_2_102 tb_1_2 tb_2_89 tb_2_90 (by decide) rfl (by decide) (by decide) (Nat.le_of_ble_eq_true rfl) rfl (fun v_r_13 S_12 hq => ?_)
      obtain ⟨r_13, rfl, h⟩ := hq
      dsimp only [Option.toList, List.cons_append, List.nil_append]
      refine J_callS (As := [.ref (g.1 + 352), .int r_13]) (rest := []) (n := 2) dX8_within_48 (c_X2_nonZeros 352 r_13 (by decide) _ _ h) tb_2_126 tb_3_90 tb_1_9 tb_2_125 (by decide) rfl (by decide) (by decide) (Nat.le_of_ble_eq_true rfl) rfl (fun v_r_15 S_14 hq => ?_)
      obtain ⟨r_15, rfl, h⟩ := hq
      dsimp only [Option.toList, List.cons_append, List.nil_append]
      refine J_if_ne (tgt := 58) dX8_within_51 (by decide) (fun c_16 => ?_) (fun c_16 => ?_)
      · have h := h.1 c_16
        refine J_iconst (v := 0) dX8_within_58 (by decide)  ?_
        exact l_X8_within_59 p1 p2  _   _ _  h
      · have h := h.2 c_16
        refine J_iconst (v := 1) dX8_within_54 (by decide)  ?_
        refine J_goto (tgt := 59) dX8_within_55 (by decide)  ?_
        exact l_X8_within_59 p1 p2  _   _ _  h
    · have h := h.2 c_6
      exact l_X8_within_18 p1 p2  _    _  h
def q_X8_rest_29 (p1 : Int32) (p2 : Int32) (p3 : Int32)  (Q : Int32 → Sto → Prop)  (S : Sto) : Prop := Q ((-1)) S
set_option maxRecDepth 100000 in
set_option maxHeartbeats 4000000 in
theorem l_X8_rest_29 {g : Gv} (p1 : Int32) (p2 : Int32) (p3 : Int32)  (Q : Int32 → Sto → Prop)    (S : Sto)  (h : q_X8_rest_29 p1 p2 p3  Q  S) : RJ g cX8_rest RX8 (some .int) 4 7 29 [(0, .ref (g.1 + 0)), (1, .int p1), (2, .int p2), (3, .int p3)] [] S (Qi Q) := by
  unfold q_X8_rest_29 at h
  refine J_iconst (v := (-1)) dX8_rest_29 (by decide)  ?_
  exact J_iret dX8_rest_30 rfl rfl ⟨_, rfl, h⟩
def wp_X8_rest (p1 : Int32) (p2 : Int32) (p3 : Int32) (S : Sto) (Q : Int32 → Sto → Prop) : Prop := wp_X8_isSide p1 S (fun r_2 S_1 => ((r_2 = 0 → q_X8_rest_29 p1 p2 p3  Q  S_1) ∧ (¬ r_2 = 0 → wp_X4_hasElement p2 S_1 (fun r_5 S_4 => ((r_5 = 0 → q_X8_rest_29 p1 p2 p3  Q  S_4) ∧ (¬ r_5 = 0 → wp_X4_hasPlace p3 S_4 (fun r_8 S_7 => ((¬ r_8 = 0 → wp_X1_ofSide p1 S_7 (fun r_11 S_10 => kd r_11 = 8 → wp_X8_leaveRest r_11 p2 S_10 (fun S_13 => vp_in p3 (16) ∧ Q (S_13.1 352 (p3 : Int32).toNatClampNeg) S_13))) ∧ (r_8 = 0 → q_X8_rest_29 p1 p2 p3  Q  S_7)))))))))
set_option maxRecDepth 100000 in
set_option maxHeartbeats 4000000 in
theorem c_X8_rest {g : Gv} (p1 : Int32) (p2 : Int32) (p3 : Int32)  (S : Sto) (Q : Int32 → Sto → Prop) (h : wp_X8_rest p1 p2 p3 S Q) : CT g yX8_rest cX8_rest 4 (some .int) 7 [.ref (g.1 + 0), .int p1, .int p2, .int p3] S (Qi Q) := by
  unfold wp_X8_rest at h
  refine CT.of (by decide) (Nat.le_of_ble_eq_true rfl) ?_
  refine J_sub (lv' := [(0, .ref (g.1 + 0)), (1, .int p1), (2, .int p2), (3, .int p3)]) [0, 1, 2, 3] rfl ?_
  refine J_iload_n dX8_rest_0 rfl 1 rfl  ?_
  refine J_callS (As := [.int p1]) (rest := []) (n := 1) dX8_rest_1 (c_X8_isSide p1  _ _ h) tb_3_72 tb_3_70 tb_1_1 tb_3_71 (by decide) rfl (by decide) (by decide) (Nat.le_of_ble_eq_true rfl) rfl (fun v_r_2 S_1 hq => ?_)
  obtain ⟨r_2, rfl, h⟩ := hq
  dsimp only [Option.toList, List.cons_append, List.nil_append]
  refine J_if_eq (tgt := 29) dX8_rest_4 (by decide) (fun c_3 => ?_) (fun c_3 => ?_)
  · have h := h.1 c_3
    exact l_X8_rest_29 p1 p2 p3  _    _  h
  · have h := h.2 c_3
    refine J_aload_n dX8_rest_7 rfl 0 rfl  ?_
    refine J_getr (r := 1) (ci := 6) dX8_rest_8 0 rfl giX8 (by decide) (by decide) rfl rfl tb_2_16 (by decide) (by decide)  ?_
    refine J_iload_n dX8_rest_11 rfl 2 rfl  ?_
    refine J_callV (h := 1) (ci := 2) (As := [.int p2]) (rest := []) (n := 1) dX8_rest_12 (c_X4_hasElement p2  _ _ h) (by decide) rfl tb_2_83 tb_2_80 tb_1_2 tb_2_81 tb_2_82 (by decide) rfl (by decide) (by decide) (Nat.le_of_ble_eq_true rfl) rfl (fun v_r_5 S_4 hq => ?_)
    obtain ⟨r_5, rfl, h⟩ := hq
    dsimp only [Option.toList, List.cons_append, List.nil_append]
    refine J_if_eq (tgt := 29) dX8_rest_15 (by decide) (fun c_6 => ?_) (fun c_6 => ?_)
    · have h := h.1 c_6
      exact l_X8_rest_29 p1 p2 p3  _    _  h
    · have h := h.2 c_6
      refine J_aload_n dX8_rest_18 rfl 0 rfl  ?_
      refine J_getr (r := 1) (ci := 6) dX8_rest_19 0 rfl giX8 (by decide) (by decide) rfl rfl tb_2_16 (by decide) (by decide)  ?_
      refine J_iload_n dX8_rest_22 rfl 3 rfl  ?_
      refine J_callV (h := 1) (ci := 2) (As := [.int p3]) (rest := []) (n := 1) dX8_rest_23 (c_X4_hasPlace p3  _ _ h) (by decide) rfl tb_2_87 tb_2_84 tb_1_2 tb_2_85 tb_2_86 (by decide) rfl (by decide) (by decide) (Nat.le_of_ble_eq_true rfl) rfl (fun v_r_8 S_7 hq => ?_)
      obtain ⟨r_8, rfl, h⟩ := hq
      dsimp only [Option.toList, List.cons_append, List.nil_append]
      refine J_if_ne (tgt := 31) dX8_rest_26 (by decide) (fun c_9 => ?_) (fun c_9 => ?_)
      · have h := h.1 c_9
        refine J_aload_n dX8_rest_31 rfl 0 rfl  ?_
        refine J_aload_n dX8_rest_32 rfl 0 rfl  ?_
        refine J_getr (r := 48) (ci := 6) dX8_rest_33 5 rfl giX8 (by decide) (by decide) rfl rfl tb_2_21 (by decide) (by decide)  ?_
        refine J_aload_n dX8_rest_36 rfl 0 rfl  ?_
        refine J_getr (r := 1) (ci := 6) dX8_rest_37 0 rfl giX8 (by decide) (by decide) rfl rfl tb_2_16 (by decide) (by decide)  ?_
        refine J_iload_n dX8_rest_40 rfl 1 rfl  ?_
        refine J_callV (h := 48) (ci := 0) (As := [.ref (g.1 + 1), .int p1]) (rest := [.ref (g.1 + 0)]) (n := 2) dX8_rest_41 (c_X1_ofSide p1  _ _ h) (by decide) rfl tb_2_144 tb_2_141 tb_1_5 tb_2_142 tb_2_143 (by decide) rfl (by decide) (by decide) (Nat.le_of_ble_eq_true rfl) rfl (fun v_r_11 S_10 hq => ?_)
        obtain ⟨r_11, rfl, hk_12, h⟩ := hq
        have h := h hk_12
        dsimp only [Option.toList, List.cons_append, List.nil_append]
        refine J_iload_n dX8_rest_44 rfl 2 rfl  ?_
        refine J_callV (h := 0) (ci := 6) (As := [.ref (g.1 + r_11), .int p2]) (rest := []) (n := 2) dX8_rest_45 (c_X8_leaveRest r_11 p2 hk_12 _ _ h) (by decide) rfl tb_2_195 tb_2_192 tb_1_1 tb_2_194 sl_4 (by decide) rfl (by decide) (by decide) (Nat.le_of_ble_eq_true rfl) rfl (fun v_r_14 S_13 hq => ?_)
        obtain ⟨rfl, h⟩ := hq
        dsimp only [Option.toList, List.cons_append, List.nil_append]
        refine J_aload_n dX8_rest_48 rfl 0 rfl  ?_
        refine J_getr (r := 352) (ci := 6) dX8_rest_49 7 rfl giX8 (by decide) (by decide) rfl rfl tb_2_23 (by decide) (by decide)  ?_
        refine J_iload_n dX8_rest_52 rfl 3 rfl  ?_
        obtain ⟨hi_15, h⟩ := h
        refine J_iald dX8_rest_53 (by decide) hi_15  ?_
        exact J_iret dX8_rest_54 rfl rfl ⟨_, rfl, h⟩
      · have h := h.2 c_9
        exact l_X8_rest_29 p1 p2 p3  _    _  h
def q_X8_count_22 (p1 : Int32) (p2 : Int32)  (Q : Int32 → Sto → Prop)  (S : Sto) : Prop := Q ((-1)) S
set_option maxRecDepth 100000 in
set_option maxHeartbeats 4000000 in
theorem l_X8_count_22 {g : Gv} (p1 : Int32) (p2 : Int32)  (Q : Int32 → Sto → Prop)    (S : Sto)  (h : q_X8_count_22 p1 p2  Q  S) : RJ g cX8_count RX8 (some .int) 3 7 22 [(0, .ref (g.1 + 0)), (1, .int p1), (2, .int p2)] [] S (Qi Q) := by
  unfold q_X8_count_22 at h
  refine J_iconst (v := (-1)) dX8_count_22 (by decide)  ?_
  exact J_iret dX8_count_23 rfl rfl ⟨_, rfl, h⟩
def wp_X8_count (p1 : Int32) (p2 : Int32) (S : Sto) (Q : Int32 → Sto → Prop) : Prop := wp_X8_isSide p1 S (fun r_2 S_1 => ((r_2 = 0 → q_X8_count_22 p1 p2  Q  S_1) ∧ (¬ r_2 = 0 → ((p2 < 0 → q_X8_count_22 p1 p2  Q  S_1) ∧ (¬ p2 < 0 → ((p2 ≤ (S_1.1 1 0) → wp_X1_ofSide p1 S_1 (fun r_7 S_6 => kd r_7 = 8 → wp_X5_leadsOfDegree r_7 p2 S_6 (fun r_10 S_9 => Q r_10 S_9))) ∧ (¬ p2 ≤ (S_1.1 1 0) → q_X8_count_22 p1 p2  Q  S_1)))))))
set_option maxRecDepth 100000 in
set_option maxHeartbeats 4000000 in
theorem c_X8_count {g : Gv} (p1 : Int32) (p2 : Int32)  (S : Sto) (Q : Int32 → Sto → Prop) (h : wp_X8_count p1 p2 S Q) : CT g yX8_count cX8_count 3 (some .int) 7 [.ref (g.1 + 0), .int p1, .int p2] S (Qi Q) := by
  unfold wp_X8_count at h
  refine CT.of (by decide) (Nat.le_of_ble_eq_true rfl) ?_
  refine J_sub (lv' := [(0, .ref (g.1 + 0)), (1, .int p1), (2, .int p2)]) [0, 1, 2] rfl ?_
  refine J_iload_n dX8_count_0 rfl 1 rfl  ?_
  refine J_callS (As := [.int p1]) (rest := []) (n := 1) dX8_count_1 (c_X8_isSide p1  _ _ h) tb_3_72 tb_3_70 tb_1_1 tb_3_71 (by decide) rfl (by decide) (by decide) (Nat.le_of_ble_eq_true rfl) rfl (fun v_r_2 S_1 hq => ?_)
  obtain ⟨r_2, rfl, h⟩ := hq
  dsimp only [Option.toList, List.cons_append, List.nil_append]
  refine J_if_eq (tgt := 22) dX8_count_4 (by decide) (fun c_3 => ?_) (fun c_3 => ?_)
  · have h := h.1 c_3
    exact l_X8_count_22 p1 p2  _    _  h
  · have h := h.2 c_3
    refine J_iload_n dX8_count_7 rfl 2 rfl  ?_
    refine J_if_lt (tgt := 22) dX8_count_8 (by decide) (fun c_4 => ?_) (fun c_4 => ?_)
    · have h := h.1 c_4
      exact l_X8_count_22 p1 p2  _    _  h
    · have h := h.2 c_4
      refine J_iload_n dX8_count_11 rfl 2 rfl  ?_
      refine J_aload_n dX8_count_12 rfl 0 rfl  ?_
      refine J_getr (r := 1) (ci := 6) dX8_count_13 0 rfl giX8 (by decide) (by decide) rfl rfl tb_2_16 (by decide) (by decide)  ?_
      refine J_geti (ci := 2) dX8_count_16 0 rfl giX4 (by decide) (by decide) rfl rfl tb_1_33 rfl  ?_
      refine J_icmp_le (tgt := 24) dX8_count_19 (by decide) (fun c_5 => ?_) (fun c_5 => ?_)
      · have h := h.1 c_5
        refine J_aload_n dX8_count_24 rfl 0 rfl  ?_
        refine J_getr (r := 48) (ci := 6) dX8_count_25 5 rfl giX8 (by decide) (by decide) rfl rfl tb_2_21 (by decide) (by decide)  ?_
        refine J_aload_n dX8_count_28 rfl 0 rfl  ?_
        refine J_getr (r := 1) (ci := 6) dX8_count_29 0 rfl giX8 (by decide) (by decide) rfl rfl tb_2_16 (by decide) (by decide)  ?_
        refine J_iload_n dX8_count_32 rfl 1 rfl  ?_
        refine J_callV (h := 48) (ci := 0) (As := [.ref (g.1 + 1), .int p1]) (rest := []) (n := 2) dX8_count_33 (c_X1_ofSide p1  _ _ h) (by decide) rfl tb_2_144 tb_2_141 tb_1_5 tb_2_142 tb_2_143 (by decide) rfl (by decide) (by decide) (Nat.le_of_ble_eq_true rfl) rfl (fun v_r_7 S_6 hq => ?_)
        obtain ⟨r_7, rfl, hk_8, h⟩ := hq
        have h := h hk_8
        dsimp only [Option.toList, List.cons_append, List.nil_append]
        refine J_iload_n dX8_count_36 rfl 2 rfl  ?_
        refine J_callV (h := r_7) (ci := 3) (As := [.int p2]) (rest := []) (n := 1) dX8_count_37 (c_X5_leadsOfDegree r_7 p2 hk_8 _ _ h) hk_8 rfl tb_3_102 tb_3_99 tb_1_6 tb_3_100 tb_3_101 (by decide) rfl (by decide) (by decide) (Nat.le_of_ble_eq_true rfl) rfl (fun v_r_10 S_9 hq => ?_)
        obtain ⟨r_10, rfl, h⟩ := hq
        dsimp only [Option.toList, List.cons_append, List.nil_append]
        exact J_iret dX8_count_40 rfl rfl ⟨_, rfl, h⟩
      · have h := h.2 c_5
        exact l_X8_count_22 p1 p2  _    _  h
def q_X8_series_31 (p1 : Int32) (p2 : Int32) (p3 : Int32)  (Q : Int32 → Sto → Prop)  (S : Sto) : Prop := Q ((-2)) S
set_option maxRecDepth 100000 in
set_option maxHeartbeats 4000000 in
theorem l_X8_series_31 {g : Gv} (p1 : Int32) (p2 : Int32) (p3 : Int32)  (Q : Int32 → Sto → Prop)    (S : Sto)  (h : q_X8_series_31 p1 p2 p3  Q  S) : RJ g cX8_series RX8 (some .int) 8 7 31 [(0, .ref (g.1 + 0)), (1, .int p1), (2, .int p2), (3, .int p3)] [] S (Qi Q) := by
  unfold q_X8_series_31 at h
  refine J_bipush (v := (-2)) dX8_series_31 (by decide)  ?_
  exact J_iret dX8_series_33 rfl rfl ⟨_, rfl, h⟩
def q_X8_series_67 (p1 : Int32) (p2 : Int32) (p3 : Int32)  (Q : Int32 → Sto → Prop) : Nat → Nat → UInt32 → UInt32 → Int32 → Sto → Prop
  | 0, _, _, _, _, _ => False
  | n + 1, x4, x5, x6, x7, S => ((x7 < 0 → wp_X0_ofFloat x6 S (fun r_3 S_2 => Q r_3 S_2)) ∧ (¬ x7 < 0 → vf_n32 (FP.fmul x6 x5) ∧ wp_X4_width  S (fun r_6 S_5 => wp_X2_placesOfDegree x7 r_6 S_5 (fun r_8 S_7 => wp_X5_leadsOfDegree x4 x7 S_7 (fun r_10 S_9 => vf_n32 (FP.fadd (FP.fmul x6 x5) (FP.i2f (r_8 - r_10))) ∧ ∀ x6_12 : UInt32, x6_12 = FP.fadd (FP.fmul x6 x5) (FP.i2f (r_8 - r_10)) → ∀ x7_13 : Int32, x7_13 = x7 + (-1) → q_X8_series_67 p1 p2 p3  Q n x4 x5 x6_12 x7_13 S_9)))))
set_option maxRecDepth 100000 in
set_option maxHeartbeats 4000000 in
theorem l_X8_series_67 {g : Gv} (p1 : Int32) (p2 : Int32) (p3 : Int32)  (Q : Int32 → Sto → Prop)   (n : Nat) : ∀ (x4 : Nat) (x5 : UInt32) (x6 : UInt32) (x7 : Int32) (S : Sto) (hx4 : kd x4 = 8) (h : q_X8_series_67 p1 p2 p3  Q n x4 x5 x6 x7 S), RJ g cX8_series RX8 (some .int) 8 7 67 [(0, .ref (g.1 + 0)), (1, .int p1), (2, .int p2), (3, .int p3), (4, .ref (g.1 + x4)), (5, .float x5), (6, .float x6), (7, .int x7)] [] S (Qi Q) := by
  induction n with
  | zero => intro x4 x5 x6 x7 S hx4 h; exact h.elim
  | succ n ih =>
    intro x4 x5 x6 x7 S hx4 h
    unfold q_X8_series_67 at h
    refine J_iload dX8_series_67 7 rfl  ?_
    refine J_if_lt (tgt := 107) dX8_series_69 (by decide) (fun c_1 => ?_) (fun c_1 => ?_)
    · have h := h.1 c_1
      refine J_fload dX8_series_107 6 rfl  ?_
      refine J_callS (As := [.float x6]) (rest := []) (n := 1) dX8_series_109 (c_X0_ofFloat x6  _ _ h) tb_3_113 tb_3_111 tb_1_12 tb_3_112 (by decide) rfl (by decide) (by decide) (Nat.le_of_ble_eq_true rfl) rfl (fun v_r_3 S_2 hq => ?_)
      obtain ⟨r_3, rfl, h⟩ := hq
      dsimp only [Option.toList, List.cons_append, List.nil_append]
      exact J_iret dX8_series_112 rfl rfl ⟨_, rfl, h⟩
    · have h := h.2 c_1
      refine J_fload dX8_series_72 6 rfl  ?_
      refine J_fload dX8_series_74 5 rfl  ?_
      obtain ⟨hz_4, h⟩ := h
      refine J_fmul dX8_series_76 hz_4  ?_
      refine J_iload dX8_series_77 7 rfl  ?_
      refine J_aload_n dX8_series_79 rfl 0 rfl  ?_
      refine J_getr (r := 1) (ci := 6) dX8_series_80 0 rfl giX8 (by decide) (by decide) rfl rfl tb_2_16 (by decide) (by decide)  ?_
      refine J_callV (h := 1) (ci := 2) (As := []) (rest := [.int x7, .float (FP.fmul x6 x5)]) (n := 0) dX8_series_83 (c_X4_width   _ _ h) (by decide) rfl tb_2_91 tb_2_102 tb_1_2 tb_2_89 tb_2_90 (by decide) rfl (by decide) (by decide) (Nat.le_of_ble_eq_true rfl) rfl (fun v_r_6 S_5 hq => ?_)
      obtain ⟨r_6, rfl, h⟩ := hq
      dsimp only [Option.toList, List.cons_append, List.nil_append]
      refine J_callS (As := [.int x7, .int r_6]) (rest := [.float (FP.fmul x6 x5)]) (n := 2) dX8_series_86 (c_X2_placesOfDegree x7 r_6  _ _ h) tb_3_110 tb_3_108 tb_1_9 tb_3_109 (by decide) rfl (by decide) (by decide) (Nat.le_of_ble_eq_true rfl) rfl (fun v_r_8 S_7 hq => ?_)
      obtain ⟨r_8, rfl, h⟩ := hq
      dsimp only [Option.toList, List.cons_append, List.nil_append]
      refine J_aload dX8_series_89 4 rfl  ?_
      refine J_iload dX8_series_91 7 rfl  ?_
      refine J_callV (h := x4) (ci := 3) (As := [.int x7]) (rest := [.int r_8, .float (FP.fmul x6 x5)]) (n := 1) dX8_series_93 (c_X5_leadsOfDegree x4 x7 hx4 _ _ h) hx4 rfl tb_3_102 tb_3_99 tb_1_6 tb_3_100 tb_3_101 (by decide) rfl (by decide) (by decide) (Nat.le_of_ble_eq_true rfl) rfl (fun v_r_10 S_9 hq => ?_)
      obtain ⟨r_10, rfl, h⟩ := hq
      dsimp only [Option.toList, List.cons_append, List.nil_append]
      refine J_isub dX8_series_96  ?_
      refine J_i2f dX8_series_97  ?_
      obtain ⟨hz_11, h⟩ := h
      refine J_fadd dX8_series_98 hz_11  ?_
      refine J_topf (fun x6_12 ex6_12 => ?_)
      have h := h x6_12 ex6_12
      refine J_fstore (lv' := [(0, .ref (g.1 + 0)), (1, .int p1), (2, .int p2), (3, .int p3), (4, .ref (g.1 + x4)), (5, .float x5), (6, .float x6_12), (7, .int x7)]) dX8_series_99 (by decide) [1, 2, 3, 4, 5, 6, 0, 7] rfl  ?_
      obtain ⟨x7_13, ex7_13⟩ : ∃ y : Int32, y = x7 + (-1) := ⟨_, rfl⟩
      have h := h x7_13 ex7_13
      refine J_iinc (v := x7_13) (lv' := [(0, .ref (g.1 + 0)), (1, .int p1), (2, .int p2), (3, .int p3), (4, .ref (g.1 + x4)), (5, .float x5), (6, .float x6_12), (7, .int x7_13)]) dX8_series_101 (q := 7) rfl (by rw [ex7_13]; rfl) (by decide) [1, 2, 3, 4, 5, 6, 7, 0] rfl  ?_
      refine J_goto (tgt := 67) dX8_series_104 (by decide)  ?_
      exact ih _ _ _ _ _ hx4 h
def wp_X8_series (p1 : Int32) (p2 : Int32) (p3 : Int32) (S : Sto) (Q : Int32 → Sto → Prop) : Prop := wp_X8_isSide p1 S (fun r_2 S_1 => ((¬ r_2 = 0 → ((p2 < 1 → q_X8_series_31 p1 p2 p3  Q  S_1) ∧ (¬ p2 < 1 → ((99 < p2 → q_X8_series_31 p1 p2 p3  Q  S_1) ∧ (¬ 99 < p2 → ((p3 < 1 → q_X8_series_31 p1 p2 p3  Q  S_1) ∧ (¬ p3 < 1 → ((p3 ≤ 99 → wp_X1_ofSide p1 S_1 (fun r_9 S_8 => kd r_9 = 8 → vf_n32 (FP.fdiv (FP.i2f p2) (FP.i2f p3)) ∧ ∀ x5_12 : UInt32, x5_12 = FP.fdiv (FP.i2f p2) (FP.i2f p3) → ∀ x7_13 : Int32, x7_13 = S_8.1 1 0 → (∃ n_67, q_X8_series_67 p1 p2 p3  Q n_67 r_9 x5_12 FP.fconst0 x7_13 S_8))) ∧ (¬ p3 ≤ 99 → q_X8_series_31 p1 p2 p3  Q  S_1))))))))) ∧ (r_2 = 0 → Q ((-1)) S_1)))
set_option maxRecDepth 100000 in
set_option maxHeartbeats 4000000 in
theorem c_X8_series {g : Gv} (p1 : Int32) (p2 : Int32) (p3 : Int32)  (S : Sto) (Q : Int32 → Sto → Prop) (h : wp_X8_series p1 p2 p3 S Q) : CT g yX8_series cX8_series 8 (some .int) 7 [.ref (g.1 + 0), .int p1, .int p2, .int p3] S (Qi Q) := by
  unfold wp_X8_series at h
  refine CT.of (by decide) (Nat.le_of_ble_eq_true rfl) ?_
  refine J_sub (lv' := [(0, .ref (g.1 + 0)), (1, .int p1), (2, .int p2), (3, .int p3)]) [0, 1, 2, 3] rfl ?_
  refine J_iload_n dX8_series_0 rfl 1 rfl  ?_
  refine J_callS (As := [.int p1]) (rest := []) (n := 1) dX8_series_1 (c_X8_isSide p1  _ _ h) tb_3_72 tb_3_70 tb_1_1 tb_3_71 (by decide) rfl (by decide) (by decide) (Nat.le_of_ble_eq_true rfl) rfl (fun v_r_2 S_1 hq => ?_)
  obtain ⟨r_2, rfl, h⟩ := hq
  dsimp only [Option.toList, List.cons_append, List.nil_append]
  refine J_if_ne (tgt := 9) dX8_series_4 (by decide) (fun c_3 => ?_) (fun c_3 => ?_)
  · have h := h.1 c_3
    refine J_iload_n dX8_series_9 rfl 2 rfl  ?_
    refine J_iconst (v := 1) dX8_series_10 (by decide)  ?_
    refine J_icmp_lt (tgt := 31) dX8_series_11 (by decide) (fun c_4 => ?_) (fun c_4 => ?_)
    · have h := h.1 c_4
      exact l_X8_series_31 p1 p2 p3  _    _  h
    · have h := h.2 c_4
      refine J_iload_n dX8_series_14 rfl 2 rfl  ?_
      refine J_bipush (v := 99) dX8_series_15 (by decide)  ?_
      refine J_icmp_gt (tgt := 31) dX8_series_17 (by decide) (fun c_5 => ?_) (fun c_5 => ?_)
      · have h := h.1 c_5
        exact l_X8_series_31 p1 p2 p3  _    _  h
      · have h := h.2 c_5
        refine J_iload_n dX8_series_20 rfl 3 rfl  ?_
        refine J_iconst (v := 1) dX8_series_21 (by decide)  ?_
        refine J_icmp_lt (tgt := 31) dX8_series_22 (by decide) (fun c_6 => ?_) (fun c_6 => ?_)
        · have h := h.1 c_6
          exact l_X8_series_31 p1 p2 p3  _    _  h
        · have h := h.2 c_6
          refine J_iload_n dX8_series_25 rfl 3 rfl  ?_
          refine J_bipush (v := 99) dX8_series_26 (by decide)  ?_
          refine J_icmp_le (tgt := 34) dX8_series_28 (by decide) (fun c_7 => ?_) (fun c_7 => ?_)
          · have h := h.1 c_7
            refine J_aload_n dX8_series_34 rfl 0 rfl  ?_
            refine J_getr (r := 48) (ci := 6) dX8_series_35 5 rfl giX8 (by decide) (by decide) rfl rfl tb_2_21 (by decide) (by decide)  ?_
            refine J_aload_n dX8_series_38 rfl 0 rfl  ?_
            refine J_getr (r := 1) (ci := 6) dX8_series_39 0 rfl giX8 (by decide) (by decide) rfl rfl tb_2_16 (by decide) (by decide)  ?_
            refine J_iload_n dX8_series_42 rfl 1 rfl  ?_
            refine J_callV (h := 48) (ci := 0) (As := [.ref (g.1 + 1), .int p1]) (rest := []) (n := 2) dX8_series_43 (c_X1_ofSide p1  _ _ h) (by decide) rfl tb_2_144 tb_2_141 tb_1_5 tb_2_142 tb_2_143 (by decide) rfl (by decide) (by decide) (Nat.le_of_ble_eq_true rfl) rfl (fun v_r_9 S_8 hq => ?_)
            obtain ⟨r_9, rfl, hk_10, h⟩ := hq
            have h := h hk_10
            dsimp only [Option.toList, List.cons_append, List.nil_append]
            refine J_astore (lv' := [(0, .ref (g.1 + 0)), (1, .int p1), (2, .int p2), (3, .int p3), (4, .ref (g.1 + r_9))]) dX8_series_46 (by decide) [1, 2, 3, 4, 0] rfl  ?_
            refine J_iload_n dX8_series_48 rfl 2 rfl  ?_
            refine J_i2f dX8_series_49  ?_
            refine J_iload_n dX8_series_50 rfl 3 rfl  ?_
            refine J_i2f dX8_series_51  ?_
            obtain ⟨hz_11, h⟩ := h
            refine J_fdiv dX8_series_52 hz_11  ?_
            refine J_topf (fun x5_12 ex5_12 => ?_)
            have h := h x5_12 ex5_12
            refine J_fstore (lv' := [(0, .ref (g.1 + 0)), (1, .int p1), (2, .int p2), (3, .int p3), (4, .ref (g.1 + r_9)), (5, .float x5_12)]) dX8_series_53 (by decide) [1, 2, 3, 4, 5, 0] rfl  ?_
            refine J_fconst0 dX8_series_55  ?_
            refine J_fstore (lv' := [(0, .ref (g.1 + 0)), (1, .int p1), (2, .int p2), (3, .int p3), (4, .ref (g.1 + r_9)), (5, .float x5_12), (6, .float FP.fconst0)]) dX8_series_56 (by decide) [1, 2, 3, 4, 5, 6, 0] rfl  ?_
            refine J_aload_n dX8_series_58 rfl 0 rfl  ?_
            refine J_getr (r := 1) (ci := 6) dX8_series_59 0 rfl giX8 (by decide) (by decide) rfl rfl tb_2_16 (by decide) (by decide)  ?_
            refine J_geti (ci := 2) dX8_series_62 0 rfl giX4 (by decide) (by decide) rfl rfl tb_1_33 rfl  ?_
            refine J_topi (fun x7_13 ex7_13 => ?_)
            have h := h x7_13 ex7_13
            refine J_istore (lv' := [(0, .ref (g.1 + 0)), (1, .int p1), (2, .int p2), (3, .int p3), (4, .ref (g.1 + r_9)), (5, .float x5_12), (6, .float FP.fconst0), (7, .int x7_13)]) dX8_series_65 (by decide) [1, 2, 3, 4, 5, 6, 7, 0] rfl  ?_
            obtain ⟨n, h⟩ := h
            exact l_X8_series_67 p1 p2 p3  _   n _ _ _ _ _ hk_10 h
          · have h := h.2 c_7
            exact l_X8_series_31 p1 p2 p3  _    _  h
  · have h := h.2 c_3
    refine J_iconst (v := (-1)) dX8_series_7 (by decide)  ?_
    exact J_iret dX8_series_8 rfl rfl ⟨_, rfl, h⟩
def q_X8_mean_41 (p1 : Int32)  (Q : Int64 → Sto → Prop) : Nat → Nat → Int32 → Int32 → Sto → Prop
  | 0, _, _, _, _ => False
  | n + 1, x2, x3, x4, S => (((S.1 1 0) < x4 → vf_n64 (FP.ddiv (FP.i2d x3) (FP.i2d (S.1 x2 2))) ∧ wp_X0_ofDouble (FP.ddiv (FP.i2d x3) (FP.i2d (S.1 x2 2))) S (fun r_4 S_3 => Q r_4 S_3)) ∧ (¬ (S.1 1 0) < x4 → wp_X5_leadsOfDegree x2 x4 S (fun r_6 S_5 => ∀ x3_7 : Int32, x3_7 = x3 + (x4 * r_6) → ∀ x4_8 : Int32, x4_8 = x4 + 1 → q_X8_mean_41 p1  Q n x2 x3_7 x4_8 S_5)))
set_option maxRecDepth 100000 in
set_option maxHeartbeats 4000000 in
theorem l_X8_mean_41 {g : Gv} (p1 : Int32)  (Q : Int64 → Sto → Prop)   (n : Nat) : ∀ (x2 : Nat) (x3 : Int32) (x4 : Int32) (S : Sto) (hx2 : kd x2 = 8) (h : q_X8_mean_41 p1  Q n x2 x3 x4 S), RJ g cX8_mean RX8 (some .long) 5 7 41 [(0, .ref (g.1 + 0)), (1, .int p1), (2, .ref (g.1 + x2)), (3, .int x3), (4, .int x4)] [] S (Ql Q) := by
  induction n with
  | zero => intro x2 x3 x4 S hx2 h; exact h.elim
  | succ n ih =>
    intro x2 x3 x4 S hx2 h
    unfold q_X8_mean_41 at h
    refine J_iload dX8_mean_41 4 rfl  ?_
    refine J_aload_n dX8_mean_43 rfl 0 rfl  ?_
    refine J_getr (r := 1) (ci := 6) dX8_mean_44 0 rfl giX8 (by decide) (by decide) rfl rfl tb_2_16 (by decide) (by decide)  ?_
    refine J_geti (ci := 2) dX8_mean_47 0 rfl giX4 (by decide) (by decide) rfl rfl tb_1_33 rfl  ?_
    refine J_icmp_gt (tgt := 71) dX8_mean_50 (by decide) (fun c_1 => ?_) (fun c_1 => ?_)
    · have h := h.1 c_1
      refine J_iload_n dX8_mean_71 rfl 3 rfl  ?_
      refine J_i2d dX8_mean_72  ?_
      refine J_aload_n dX8_mean_73 rfl 2 rfl  ?_
      refine J_geti (ci := 3) dX8_mean_74 2 rfl giX5 hx2 (by decide) rfl rfl tb_1_161 rfl  ?_
      refine J_i2d dX8_mean_77  ?_
      obtain ⟨hz_2, h⟩ := h
      refine J_ddiv dX8_mean_78 hz_2  ?_
      refine J_callS (As := [.double (FP.ddiv (FP.i2d x3) (FP.i2d (S.1 x2 2)))]) (rest := []) (n := 1) dX8_mean_79 (c_X0_ofDouble (FP.ddiv (FP.i2d x3) (FP.i2d (S.1 x2 2)))  _ _ h) tb_3_116 tb_3_125 tb_1_12 tb_3_115 (by decide) rfl (by decide) (by decide) (Nat.le_of_ble_eq_true rfl) rfl (fun v_r_4 S_3 hq => ?_)
      obtain ⟨r_4, rfl, h⟩ := hq
      dsimp only [Option.toList, List.cons_append, List.nil_append]
      exact J_lret dX8_mean_82 rfl ⟨_, rfl, h⟩
    · have h := h.2 c_1
      refine J_iload_n dX8_mean_53 rfl 3 rfl  ?_
      refine J_iload dX8_mean_54 4 rfl  ?_
      refine J_aload_n dX8_mean_56 rfl 2 rfl  ?_
      refine J_iload dX8_mean_57 4 rfl  ?_
      refine J_callV (h := x2) (ci := 3) (As := [.int x4]) (rest := [.int x4, .int x3]) (n := 1) dX8_mean_59 (c_X5_leadsOfDegree x2 x4 hx2 _ _ h) hx2 rfl tb_3_102 tb_3_99 tb_1_6 tb_3_100 tb_3_101 (by decide) rfl (by decide) (by decide) (Nat.le_of_ble_eq_true rfl) rfl (fun v_r_6 S_5 hq => ?_)
      obtain ⟨r_6, rfl, h⟩ := hq
      dsimp only [Option.toList, List.cons_append, List.nil_append]
      refine J_imul dX8_mean_62  ?_
      refine J_iadd dX8_mean_63  ?_
      refine J_topi (fun x3_7 ex3_7 => ?_)
      have h := h x3_7 ex3_7
      refine J_istore_n (lv' := [(0, .ref (g.1 + 0)), (1, .int p1), (2, .ref (g.1 + x2)), (3, .int x3_7), (4, .int x4)]) dX8_mean_64 rfl (by decide) [1, 2, 3, 0, 4] rfl  ?_
      obtain ⟨x4_8, ex4_8⟩ : ∃ y : Int32, y = x4 + 1 := ⟨_, rfl⟩
      have h := h x4_8 ex4_8
      refine J_iinc (v := x4_8) (lv' := [(0, .ref (g.1 + 0)), (1, .int p1), (2, .ref (g.1 + x2)), (3, .int x3_7), (4, .int x4_8)]) dX8_mean_65 (q := 4) rfl (by rw [ex4_8]; rfl) (by decide) [1, 2, 3, 4, 0] rfl  ?_
      refine J_goto (tgt := 41) dX8_mean_68 (by decide)  ?_
      exact ih _ _ _ _ hx2 h
def wp_X8_mean (p1 : Int32) (S : Sto) (Q : Int64 → Sto → Prop) : Prop := wp_X8_isSide p1 S (fun r_2 S_1 => ((¬ r_2 = 0 → wp_X1_ofSide p1 S_1 (fun r_5 S_4 => kd r_5 = 8 → ((0 < (S_4.1 r_5 2) → (∃ n_41, q_X8_mean_41 p1  Q n_41 r_5 0 0 S_4)) ∧ (¬ 0 < (S_4.1 r_5 2) → wp_X0_ofDouble FP.dconst0 S_4 (fun r_9 S_8 => Q r_9 S_8))))) ∧ (r_2 = 0 → Q ((-9223372036854775808)) S_1)))
set_option maxRecDepth 100000 in
set_option maxHeartbeats 4000000 in
theorem c_X8_mean {g : Gv} (p1 : Int32)  (S : Sto) (Q : Int64 → Sto → Prop) (h : wp_X8_mean p1 S Q) : CT g yX8_mean cX8_mean 5 (some .long) 7 [.ref (g.1 + 0), .int p1] S (Ql Q) := by
  unfold wp_X8_mean at h
  refine CT.of (by decide) (Nat.le_of_ble_eq_true rfl) ?_
  refine J_sub (lv' := [(0, .ref (g.1 + 0)), (1, .int p1)]) [0, 1] rfl ?_
  refine J_iload_n dX8_mean_0 rfl 1 rfl  ?_
  refine J_callS (As := [.int p1]) (rest := []) (n := 1) dX8_mean_1 (c_X8_isSide p1  _ _ h) tb_3_72 tb_3_70 tb_1_1 tb_3_71 (by decide) rfl (by decide) (by decide) (Nat.le_of_ble_eq_true rfl) rfl (fun v_r_2 S_1 hq => ?_)
  obtain ⟨r_2, rfl, h⟩ := hq
  dsimp only [Option.toList, List.cons_append, List.nil_append]
  refine J_if_ne (tgt := 11) dX8_mean_4 (by decide) (fun c_3 => ?_) (fun c_3 => ?_)
  · have h := h.1 c_3
    refine J_aload_n dX8_mean_11 rfl 0 rfl  ?_
    refine J_getr (r := 48) (ci := 6) dX8_mean_12 5 rfl giX8 (by decide) (by decide) rfl rfl tb_2_21 (by decide) (by decide)  ?_
    refine J_aload_n dX8_mean_15 rfl 0 rfl  ?_
    refine J_getr (r := 1) (ci := 6) dX8_mean_16 0 rfl giX8 (by decide) (by decide) rfl rfl tb_2_16 (by decide) (by decide)  ?_
    refine J_iload_n dX8_mean_19 rfl 1 rfl  ?_
    refine J_callV (h := 48) (ci := 0) (As := [.ref (g.1 + 1), .int p1]) (rest := []) (n := 2) dX8_mean_20 (c_X1_ofSide p1  _ _ h) (by decide) rfl tb_2_144 tb_2_141 tb_1_5 tb_2_142 tb_2_143 (by decide) rfl (by decide) (by decide) (Nat.le_of_ble_eq_true rfl) rfl (fun v_r_5 S_4 hq => ?_)
    obtain ⟨r_5, rfl, hk_6, h⟩ := hq
    have h := h hk_6
    dsimp only [Option.toList, List.cons_append, List.nil_append]
    refine J_astore_n (lv' := [(0, .ref (g.1 + 0)), (1, .int p1), (2, .ref (g.1 + r_5))]) dX8_mean_23 rfl (by decide) [1, 2, 0] rfl  ?_
    refine J_aload_n dX8_mean_24 rfl 2 rfl  ?_
    refine J_geti (ci := 3) dX8_mean_25 2 rfl giX5 hk_6 (by decide) rfl rfl tb_1_161 rfl  ?_
    refine J_if_gt (tgt := 36) dX8_mean_28 (by decide) (fun c_7 => ?_) (fun c_7 => ?_)
    · have h := h.1 c_7
      refine J_iconst (v := 0) dX8_mean_36 (by decide)  ?_
      refine J_istore_n (lv' := [(0, .ref (g.1 + 0)), (1, .int p1), (2, .ref (g.1 + r_5)), (3, .int 0)]) dX8_mean_37 rfl (by decide) [1, 2, 3, 0] rfl  ?_
      refine J_iconst (v := 0) dX8_mean_38 (by decide)  ?_
      refine J_istore (lv' := [(0, .ref (g.1 + 0)), (1, .int p1), (2, .ref (g.1 + r_5)), (3, .int 0), (4, .int 0)]) dX8_mean_39 (by decide) [1, 2, 3, 4, 0] rfl  ?_
      obtain ⟨n, h⟩ := h
      exact l_X8_mean_41 p1  _   n _ _ _ _ hk_6 h
    · have h := h.2 c_7
      refine J_dconst0 dX8_mean_31  ?_
      refine J_callS (As := [.double FP.dconst0]) (rest := []) (n := 1) dX8_mean_32 (c_X0_ofDouble FP.dconst0  _ _ h) tb_3_116 tb_3_125 tb_1_12 tb_3_115 (by decide) rfl (by decide) (by decide) (Nat.le_of_ble_eq_true rfl) rfl (fun v_r_9 S_8 hq => ?_)
      obtain ⟨r_9, rfl, h⟩ := hq
      dsimp only [Option.toList, List.cons_append, List.nil_append]
      exact J_lret dX8_mean_35 rfl ⟨_, rfl, h⟩
  · have h := h.2 c_3
    refine J_ldc2 (v := (-9223372036854775808)) dX8_mean_7 tb_3_124  ?_
    exact J_lret dX8_mean_10 rfl ⟨_, rfl, h⟩
def q_X8_isHand_14 (p0 : Int32)  (Q : Int32 → Sto → Prop) (t0 : Int32) (S : Sto) : Prop := narrow .boolean (.int t0) = .int t0 ∧ Q t0 S
set_option maxRecDepth 100000 in
set_option maxHeartbeats 4000000 in
theorem l_X8_isHand_14 {g : Gv} (p0 : Int32)  (Q : Int32 → Sto → Prop)   (t0 : Int32) (S : Sto)  (h : q_X8_isHand_14 p0  Q t0 S) : RJ g cX8_isHand RX8 (some .boolean) 1 1 14 [(0, .int p0)] [.int t0] S (Qi Q) := by
  unfold q_X8_isHand_14 at h
  obtain ⟨hb, h⟩ := h
  exact J_iret dX8_isHand_14 rfl hb ⟨_, rfl, h⟩
def q_X8_isHand_13 (p0 : Int32)  (Q : Int32 → Sto → Prop)  (S : Sto) : Prop := q_X8_isHand_14 p0  Q 0 S
set_option maxRecDepth 100000 in
set_option maxHeartbeats 4000000 in
theorem l_X8_isHand_13 {g : Gv} (p0 : Int32)  (Q : Int32 → Sto → Prop)    (S : Sto)  (h : q_X8_isHand_13 p0  Q  S) : RJ g cX8_isHand RX8 (some .boolean) 1 1 13 [(0, .int p0)] [] S (Qi Q) := by
  unfold q_X8_isHand_13 at h
  refine J_iconst (v := 0) dX8_isHand_13 (by decide)  ?_
  exact l_X8_isHand_14 p0  _   _ _  h
def wp_X8_isHand (p0 : Int32) (S : Sto) (Q : Int32 → Sto → Prop) : Prop := ((p0 < 0 → q_X8_isHand_13 p0  Q  S) ∧ (¬ p0 < 0 → ((2 ≤ p0 → q_X8_isHand_13 p0  Q  S) ∧ (¬ 2 ≤ p0 → q_X8_isHand_14 p0  Q 1 S))))
set_option maxRecDepth 100000 in
set_option maxHeartbeats 4000000 in
theorem c_X8_isHand {g : Gv} (p0 : Int32)  (S : Sto) (Q : Int32 → Sto → Prop) (h : wp_X8_isHand p0 S Q) : CT g yX8_isHand cX8_isHand 1 (some .boolean) 1 [.int p0] S (Qi Q) := by
  unfold wp_X8_isHand at h
  refine CT.of (by decide) (Nat.le_of_ble_eq_true rfl) ?_
  refine J_sub (lv' := [(0, .int p0)]) [0] rfl ?_
  refine J_iload_n dX8_isHand_0 rfl 0 rfl  ?_
  refine J_if_lt (tgt := 13) dX8_isHand_1 (by decide) (fun c_1 => ?_) (fun c_1 => ?_)
  · have h := h.1 c_1
    exact l_X8_isHand_13 p0  _    _  h
  · have h := h.2 c_1
    refine J_iload_n dX8_isHand_4 rfl 0 rfl  ?_
    refine J_iconst (v := 2) dX8_isHand_5 (by decide)  ?_
    refine J_icmp_ge (tgt := 13) dX8_isHand_6 (by decide) (fun c_2 => ?_) (fun c_2 => ?_)
    · have h := h.1 c_2
      exact l_X8_isHand_13 p0  _    _  h
    · have h := h.2 c_2
      refine J_iconst (v := 1) dX8_isHand_9 (by decide)  ?_
      refine J_goto (tgt := 14) dX8_isHand_10 (by decide)  ?_
      exact l_X8_isHand_14 p0  _   _ _  h
def q_X8_annihilator_23 (p1 : Int32) (p2 : Int32) (p3 : Int32)  (Q : Int32 → Sto → Prop)  (S : Sto) : Prop := Q ((-1)) S
set_option maxRecDepth 100000 in
set_option maxHeartbeats 4000000 in
theorem l_X8_annihilator_23 {g : Gv} (p1 : Int32) (p2 : Int32) (p3 : Int32)  (Q : Int32 → Sto → Prop)    (S : Sto)  (h : q_X8_annihilator_23 p1 p2 p3  Q  S) : RJ g cX8_annihilator RX8 (some .int) 6 8 23 [(0, .ref (g.1 + 0)), (1, .int p1), (2, .int p2), (3, .int p3)] [] S (Qi Q) := by
  unfold q_X8_annihilator_23 at h
  refine J_iconst (v := (-1)) dX8_annihilator_23 (by decide)  ?_
  exact J_iret dX8_annihilator_24 rfl rfl ⟨_, rfl, h⟩
def q_X8_annihilator_130 (p1 : Int32) (p2 : Int32) (p3 : Int32)  (Q : Int32 → Sto → Prop) (t0 : Int32) (S : Sto) : Prop := Q t0 S
set_option maxRecDepth 100000 in
set_option maxHeartbeats 4000000 in
theorem l_X8_annihilator_130 {g : Gv} (p1 : Int32) (p2 : Int32) (p3 : Int32)  (Q : Int32 → Sto → Prop)   (t0 : Int32) (S : Sto)  (h : q_X8_annihilator_130 p1 p2 p3  Q t0 S) : RJ g cX8_annihilator RX8 (some .int) 6 8 130 [(0, .ref (g.1 + 0)), (1, .int p1), (2, .int p2), (3, .int p3)] [.int t0] S (Qi Q) := by
  unfold q_X8_annihilator_130 at h
  exact J_iret dX8_annihilator_130 rfl rfl ⟨_, rfl, h⟩
def q_X8_annihilator_75 (p1 : Int32) (p2 : Int32) (p3 : Int32)  (Q : Int32 → Sto → Prop) (t0 : Int32) (S : Sto) : Prop := Q t0 S
set_option maxRecDepth 100000 in
set_option maxHeartbeats 4000000 in
theorem l_X8_annihilator_75 {g : Gv} (p1 : Int32) (p2 : Int32) (p3 : Int32)  (Q : Int32 → Sto → Prop)   (t0 : Int32) (S : Sto)  (h : q_X8_annihilator_75 p1 p2 p3  Q t0 S) : RJ g cX8_annihilator RX8 (some .int) 6 8 75 [(0, .ref (g.1 + 0)), (1, .int p1), (2, .int p2), (3, .int p3)] [.int t0] S (Qi Q) := by
  unfold q_X8_annihilator_75 at h
  exact J_iret dX8_annihilator_75 rfl rfl ⟨_, rfl, h⟩
def wp_X8_annihilator (p1 : Int32) (p2 : Int32) (p3 : Int32) (S : Sto) (Q : Int32 → Sto → Prop) : Prop := wp_X8_isSide p1 S (fun r_2 S_1 => ((r_2 = 0 → q_X8_annihilator_23 p1 p2 p3  Q  S_1) ∧ (¬ r_2 = 0 → wp_X8_isHand p2 S_1 (fun r_5 S_4 => ((r_5 = 0 → q_X8_annihilator_23 p1 p2 p3  Q  S_4) ∧ (¬ r_5 = 0 → ((p3 < 0 → q_X8_annihilator_23 p1 p2 p3  Q  S_4) ∧ (¬ p3 < 0 → ((p3 ≤ 3 → wp_X1_annihilatorOf p1 p2 S_4 (fun r_10 S_9 => kd r_10 = 8 → ((¬ p3 = 0 → ((¬ p3 = 3 → wp_X1_annihilatorAgain p2 S_9 (fun r_15 S_14 => kd r_15 = 8 → ((¬ p3 = 1 → wp_X1_ofSide p1 S_14 (fun r_19 S_18 => kd r_19 = 8 → wp_X1_liesIn r_19 r_15 S_18 (fun r_22 S_21 => ((r_22 = 0 → q_X8_annihilator_130 p1 p2 p3  Q 0 S_21) ∧ (¬ r_22 = 0 → q_X8_annihilator_130 p1 p2 p3  Q 1 S_21))))) ∧ (p3 = 1 → Q (S_14.1 r_15 2) S_14)))) ∧ (p3 = 3 → wp_X5_leadNumber r_10 0 S_9 (fun r_25 S_24 => ((0 ≤ r_25 → q_X8_annihilator_75 p1 p2 p3  Q r_25 S_24) ∧ (¬ 0 ≤ r_25 → q_X8_annihilator_75 p1 p2 p3  Q ((-5)) S_24)))))) ∧ (p3 = 0 → Q (S_9.1 r_10 2) S_9)))) ∧ (¬ p3 ≤ 3 → q_X8_annihilator_23 p1 p2 p3  Q  S_4))))))))))
set_option maxRecDepth 100000 in
set_option maxHeartbeats 4000000 in
theorem c_X8_annihilator {g : Gv} (p1 : Int32) (p2 : Int32) (p3 : Int32)  (S : Sto) (Q : Int32 → Sto → Prop) (h : wp_X8_annihilator p1 p2 p3 S Q) : CT g yX8_annihilator cX8_annihilator 6 (some .int) 8 [.ref (g.1 + 0), .int p1, .int p2, .int p3] S (Qi Q) := by
  unfold wp_X8_annihilator at h
  refine CT.of (by decide) (Nat.le_of_ble_eq_true rfl) ?_
  refine J_sub (lv' := [(0, .ref (g.1 + 0)), (1, .int p1), (2, .int p2), (3, .int p3)]) [0, 1, 2, 3] rfl ?_
  refine J_iload_n dX8_annihilator_0 rfl 1 rfl  ?_
  refine J_callS (As := [.int p1]) (rest := []) (n := 1) dX8_annihilator_1 (c_X8_isSide p1  _ _ h) tb_3_72 tb_3_70 tb_1_1 tb_3_71 (by decide) rfl (by decide) (by decide) (Nat.le_of_ble_eq_true rfl) rfl (fun v_r_2 S_1 hq => ?_)
  obtain ⟨r_2, rfl, h⟩ := hq
  dsimp only [Option.toList, List.cons_append, List.nil_append]
  refine J_if_eq (tgt := 23) dX8_annihilator_4 (by decide) (fun c_3 => ?_) (fun c_3 => ?_)
  · have h := h.1 c_3
    exact l_X8_annihilator_23 p1 p2 p3  _    _  h
  · have h := h.2 c_3
    refine J_iload_n dX8_annihilator_7 rfl 2 rfl  ?_
    refine J_callS (As := [.int p2]) (rest := []) (n := 1) dX8_annihilator_8 (c_X8_isHand p2  _ _ h) tb_3_132 tb_3_130 tb_1_1 tb_3_131 (by decide) rfl (by decide) (by decide) (Nat.le_of_ble_eq_true rfl) rfl (fun v_r_5 S_4 hq => ?_)
    obtain ⟨r_5, rfl, h⟩ := hq
    dsimp only [Option.toList, List.cons_append, List.nil_append]
    refine J_if_eq (tgt := 23) dX8_annihilator_11 (by decide) (fun c_6 => ?_) (fun c_6 => ?_)
    · have h := h.1 c_6
      exact l_X8_annihilator_23 p1 p2 p3  _    _  h
    · have h := h.2 c_6
      refine J_iload_n dX8_annihilator_14 rfl 3 rfl  ?_
      refine J_if_lt (tgt := 23) dX8_annihilator_15 (by decide) (fun c_7 => ?_) (fun c_7 => ?_)
      · have h := h.1 c_7
        exact l_X8_annihilator_23 p1 p2 p3  _    _  h
      · have h := h.2 c_7
        refine J_iload_n dX8_annihilator_18 rfl 3 rfl  ?_
        refine J_iconst (v := 3) dX8_annihilator_19 (by decide)  ?_
        refine J_icmp_le (tgt := 25) dX8_annihilator_20 (by decide) (fun c_8 => ?_) (fun c_8 => ?_)
        · have h := h.1 c_8
          refine J_aload_n dX8_annihilator_25 rfl 0 rfl  ?_
          refine J_getr (r := 48) (ci := 6) dX8_annihilator_26 5 rfl giX8 (by decide) (by decide) rfl rfl tb_2_21 (by decide) (by decide)  ?_
          refine J_aload_n dX8_annihilator_29 rfl 0 rfl  ?_
          refine J_getr (r := 1) (ci := 6) dX8_annihilator_30 0 rfl giX8 (by decide) (by decide) rfl rfl tb_2_16 (by decide) (by decide)  ?_
          refine J_iload_n dX8_annihilator_33 rfl 1 rfl  ?_
          refine J_iload_n dX8_annihilator_34 rfl 2 rfl  ?_
          refine J_callV (h := 48) (ci := 0) (As := [.ref (g.1 + 1), .int p1, .int p2]) (rest := []) (n := 3) dX8_annihilator_35 (c_X1_annihilatorOf p1 p2  _ _ h) (by decide) rfl tb_3_136 tb_3_133 tb_1_5 tb_3_134 tb_3_135 (by decide) rfl (by decide) (by decide) (Nat.le_of_ble_eq_true rfl) rfl (fun v_r_10 S_9 hq => ?_)
          obtain ⟨r_10, rfl, hk_11, h⟩ := hq
          have h := h hk_11
          dsimp only [Option.toList, List.cons_append, List.nil_append]
          refine J_astore (lv' := [(0, .ref (g.1 + 0)), (1, .int p1), (2, .int p2), (3, .int p3), (4, .ref (g.1 + r_10))]) dX8_annihilator_38 (by decide) [1, 2, 3, 4, 0] rfl  ?_
          refine J_iload_n dX8_annihilator_40 rfl 3 rfl  ?_
          refine J_if_ne (tgt := 50) dX8_annihilator_41 (by decide) (fun c_12 => ?_) (fun c_12 => ?_)
          · have h := h.1 c_12
            refine J_iload_n dX8_annihilator_50 rfl 3 rfl  ?_
            refine J_iconst (v := 3) dX8_annihilator_51 (by decide)  ?_
            refine J_icmp_ne (tgt := 76) dX8_annihilator_52 (by decide) (fun c_13 => ?_) (fun c_13 => ?_)
            · have h := h.1 c_13
              refine J_aload_n dX8_annihilator_76 rfl 0 rfl  ?_
              refine J_getr (r := 48) (ci := 6) dX8_annihilator_77 5 rfl giX8 (by decide) (by decide) rfl rfl tb_2_21 (by decide) (by decide)  ?_
              refine J_aload_n dX8_annihilator_80 rfl 0 rfl  ?_
              refine J_getr (r := 1) (ci := 6) dX8_annihilator_81 0 rfl giX8 (by decide) (by decide) rfl rfl tb_2_16 (by decide) (by decide)  ?_
              refine J_iload_n dX8_annihilator_84 rfl 2 rfl  ?_
              refine J_callV (h := 48) (ci := 0) (As := [.ref (g.1 + 1), .int p2]) (rest := []) (n := 2) dX8_annihilator_85 (c_X1_annihilatorAgain p2  _ _ h) (by decide) rfl tb_3_156 tb_3_153 tb_1_5 tb_3_154 tb_3_155 (by decide) rfl (by decide) (by decide) (Nat.le_of_ble_eq_true rfl) rfl (fun v_r_15 S_14 hq => ?_)
              obtain ⟨r_15, rfl, hk_16, h⟩ := hq
              have h := h hk_16
              dsimp only [Option.toList, List.cons_append, List.nil_append]
              refine J_astore (lv' := [(0, .ref (g.1 + 0)), (1, .int p1), (2, .int p2), (3, .int p3), (5, .ref (g.1 + r_15))]) dX8_annihilator_88 (by decide) [1, 2, 3, 4, 0] rfl  ?_
              refine J_iload_n dX8_annihilator_90 rfl 3 rfl  ?_
              refine J_iconst (v := 1) dX8_annihilator_91 (by decide)  ?_
              refine J_icmp_ne (tgt := 101) dX8_annihilator_92 (by decide) (fun c_17 => ?_) (fun c_17 => ?_)
              · have h := h.1 c_17
                refine J_aload_n dX8_annihilator_101 rfl 0 rfl  ?_
                refine J_getr (r := 48) (ci := 6) dX8_annihilator_102 5 rfl giX8 (by decide) (by decide) rfl rfl tb_2_21 (by decide) (by decide)  ?_
                refine J_aload_n dX8_annihilator_105 rfl 0 rfl  ?_
                refine J_getr (r := 48) (ci := 6) dX8_annihilator_106 5 rfl giX8 (by decide) (by decide) rfl rfl tb_2_21 (by decide) (by decide)  ?_
                refine J_aload_n dX8_annihilator_109 rfl 0 rfl  ?_
                refine J_getr (r := 1) (ci := 6) dX8_annihilator_110 0 rfl giX8 (by decide) (by decide) rfl rfl tb_2_16 (by decide) (by decide)  ?_
                refine J_iload_n dX8_annihilator_113 rfl 1 rfl  ?_
                refine J_callV (h := 48) (ci := 0) (As := [.ref (g.1 + 1), .int p1]) (rest := [.ref (g.1 + 48)]) (n := 2) dX8_annihilator_114 (c_X1_ofSide p1  _ _ h) (by decide) rfl tb_2_144 tb_2_141 tb_1_5 tb_2_142 tb_2_143 (by decide) rfl (by decide) (by decide) (Nat.le_of_ble_eq_true rfl) rfl (fun v_r_19 S_18 hq => ?_)
                obtain ⟨r_19, rfl, hk_20, h⟩ := hq
                have h := h hk_20
                dsimp only [Option.toList, List.cons_append, List.nil_append]
                refine J_aload dX8_annihilator_117 4 rfl  ?_
                refine J_callV (h := 48) (ci := 0) (As := [.ref (g.1 + r_19), .ref (g.1 + r_15)]) (rest := []) (n := 2) dX8_annihilator_119 (c_X1_liesIn r_19 r_15 hk_20 hk_16 _ _ h) (by decide) rfl tb_3_160 tb_3_157 tb_1_5 tb_3_158 tb_3_159 (by decide) rfl (by decide) (by decide) (Nat.le_of_ble_eq_true rfl) rfl (fun v_r_22 S_21 hq => ?_)
                obtain ⟨r_22, rfl, h⟩ := hq
                dsimp only [Option.toList, List.cons_append, List.nil_append]
                refine J_if_eq (tgt := 129) dX8_annihilator_122 (by decide) (fun c_23 => ?_) (fun c_23 => ?_)
                · have h := h.1 c_23
                  refine J_iconst (v := 0) dX8_annihilator_129 (by decide)  ?_
                  refine J_sub (lv' := [(0, .ref (g.1 + 0)), (1, .int p1), (2, .int p2), (3, .int p3)]) [0, 1, 2, 3] rfl ?_
                  exact l_X8_annihilator_130 p1 p2 p3  _   _ _  h
                · have h := h.2 c_23
                  refine J_iconst (v := 1) dX8_annihilator_125 (by decide)  ?_
                  refine J_goto (tgt := 130) dX8_annihilator_126 (by decide)  ?_
                  refine J_sub (lv' := [(0, .ref (g.1 + 0)), (1, .int p1), (2, .int p2), (3, .int p3)]) [0, 1, 2, 3] rfl ?_
                  exact l_X8_annihilator_130 p1 p2 p3  _   _ _  h
              · have h := h.2 c_17
                refine J_aload dX8_annihilator_95 4 rfl  ?_
                refine J_geti (ci := 3) dX8_annihilator_97 2 rfl giX5 hk_16 (by decide) rfl rfl tb_1_161 rfl  ?_
                exact J_iret dX8_annihilator_100 rfl rfl ⟨_, rfl, h⟩
            · have h := h.2 c_13
              refine J_aload dX8_annihilator_55 4 rfl  ?_
              refine J_iconst (v := 0) dX8_annihilator_57 (by decide)  ?_
              refine J_callV (h := r_10) (ci := 3) (As := [.int 0]) (rest := []) (n := 1) dX8_annihilator_58 (c_X5_leadNumber r_10 0 hk_11 _ _ h) hk_11 rfl tb_3_80 tb_3_77 tb_1_6 tb_3_78 tb_3_79 (by decide) rfl (by decide) (by decide) (Nat.le_of_ble_eq_true rfl) rfl (fun v_r_25 S_24 hq => ?_)
              obtain ⟨r_25, rfl, h⟩ := hq
              dsimp only [Option.toList, List.cons_append, List.nil_append]
              refine J_istore (lv' := [(0, .ref (g.1 + 0)), (1, .int p1), (2, .int p2), (3, .int p3), (5, .int r_25)]) dX8_annihilator_61 (by decide) [1, 2, 3, 4, 0] rfl  ?_
              refine J_iload dX8_annihilator_63 4 rfl  ?_
              refine J_if_ge (tgt := 73) dX8_annihilator_65 (by decide) (fun c_26 => ?_) (fun c_26 => ?_)
              · have h := h.1 c_26
                refine J_iload dX8_annihilator_73 4 rfl  ?_
                refine J_sub (lv' := [(0, .ref (g.1 + 0)), (1, .int p1), (2, .int p2), (3, .int p3)]) [0, 1, 2, 3] rfl ?_
                exact l_X8_annihilator_75 p1 p2 p3  _   _ _  h
              · have h := h.2 c_26
                refine J_bipush (v := (-5)) dX8_annihilator_68 (by decide)  ?_
                refine J_goto (tgt := 75) dX8_annihilator_70 (by decide)  ?_
                refine J_sub (lv' := [(0, .ref (g.1 + 0)), (1, .int p1), (2, .int p2), (3, .int p3)]) [0, 1, 2, 3] rfl ?_
                exact l_X8_annihilator_75 p1 p2 p3  _   _ _  h
          · have h := h.2 c_12
            refine J_aload dX8_annihilator_44 4 rfl  ?_
            refine J_geti (ci := 3) dX8_annihilator_46 2 rfl giX5 hk_11 (by decide) rfl rfl tb_1_161 rfl  ?_
            exact J_iret dX8_annihilator_49 rfl rfl ⟨_, rfl, h⟩
        · have h := h.2 c_8
          exact l_X8_annihilator_23 p1 p2 p3  _    _  h
def q_X8_annihilates_26 (p1 : Int32) (p2 : Int32) (p3 : Int32) (p4 : Int32)  (Q : Int32 → Sto → Prop)  (S : Sto) : Prop := Q ((-1)) S
set_option maxRecDepth 100000 in
set_option maxHeartbeats 4000000 in
theorem l_X8_annihilates_26 {g : Gv} (p1 : Int32) (p2 : Int32) (p3 : Int32) (p4 : Int32)  (Q : Int32 → Sto → Prop)    (S : Sto)  (h : q_X8_annihilates_26 p1 p2 p3 p4  Q  S) : RJ g cX8_annihilates RX8 (some .int) 7 8 26 [(0, .ref (g.1 + 0)), (1, .int p1), (2, .int p2), (3, .int p3), (4, .int p4)] [] S (Qi Q) := by
  unfold q_X8_annihilates_26 at h
  refine J_iconst (v := (-1)) dX8_annihilates_26 (by decide)  ?_
  exact J_iret dX8_annihilates_27 rfl rfl ⟨_, rfl, h⟩
def q_X8_annihilates_71 (p1 : Int32) (p2 : Int32) (p3 : Int32) (p4 : Int32)  (Q : Int32 → Sto → Prop) (t0 : Int32) (S : Sto) : Prop := Q t0 S
set_option maxRecDepth 100000 in
set_option maxHeartbeats 4000000 in
theorem l_X8_annihilates_71 {g : Gv} (p1 : Int32) (p2 : Int32) (p3 : Int32) (p4 : Int32)  (Q : Int32 → Sto → Prop)   (t0 : Int32) (S : Sto)  (h : q_X8_annihilates_71 p1 p2 p3 p4  Q t0 S) : RJ g cX8_annihilates RX8 (some .int) 7 8 71 [(0, .ref (g.1 + 0)), (1, .int p1), (2, .int p2), (3, .int p3), (4, .int p4)] [.int t0] S (Qi Q) := by
  unfold q_X8_annihilates_71 at h
  exact J_iret dX8_annihilates_71 rfl rfl ⟨_, rfl, h⟩
def wp_X8_annihilates (p1 : Int32) (p2 : Int32) (p3 : Int32) (p4 : Int32) (S : Sto) (Q : Int32 → Sto → Prop) : Prop := wp_X8_isSide p1 S (fun r_2 S_1 => ((r_2 = 0 → q_X8_annihilates_26 p1 p2 p3 p4  Q  S_1) ∧ (¬ r_2 = 0 → wp_X8_isHand p2 S_1 (fun r_5 S_4 => ((r_5 = 0 → q_X8_annihilates_26 p1 p2 p3 p4  Q  S_4) ∧ (¬ r_5 = 0 → wp_X4_hasPlace p4 S_4 (fun r_8 S_7 => ((¬ r_8 = 0 → wp_X1_annihilatorOf p1 p2 S_7 (fun r_11 S_10 => kd r_11 = 8 → wp_X5_leadNumber r_11 p3 S_10 (fun r_14 S_13 => ((0 ≤ r_14 → vp_in r_14 (ln (r_11 + 1)) ∧ vp_in p4 (ln (r_11 + 1 + 1 + (r_14 : Int32).toNatClampNeg)) ∧ q_X8_annihilates_71 p1 p2 p3 p4  Q (S_13.1 (r_11 + 1 + 1 + (r_14 : Int32).toNatClampNeg) (p4 : Int32).toNatClampNeg) S_13) ∧ (¬ 0 ≤ r_14 → q_X8_annihilates_71 p1 p2 p3 p4  Q ((-1)) S_13))))) ∧ (r_8 = 0 → q_X8_annihilates_26 p1 p2 p3 p4  Q  S_7)))))))))
set_option maxRecDepth 100000 in
set_option maxHeartbeats 4000000 in
theorem c_X8_annihilates {g : Gv} (p1 : Int32) (p2 : Int32) (p3 : Int32) (p4 : Int32)  (S : Sto) (Q : Int32 → Sto → Prop) (h : wp_X8_annihilates p1 p2 p3 p4 S Q) : CT g yX8_annihilates cX8_annihilates 7 (some .int) 8 [.ref (g.1 + 0), .int p1, .int p2, .int p3, .int p4] S (Qi Q) := by
  unfold wp_X8_annihilates at h
  refine CT.of (by decide) (Nat.le_of_ble_eq_true rfl) ?_
  refine J_sub (lv' := [(0, .ref (g.1 + 0)), (1, .int p1), (2, .int p2), (3, .int p3), (4, .int p4)]) [0, 1, 2, 3, 4] rfl ?_
  refine J_iload_n dX8_annihilates_0 rfl 1 rfl  ?_
  refine J_callS (As := [.int p1]) (rest := []) (n := 1) dX8_annihilates_1 (c_X8_isSide p1  _ _ h) tb_3_72 tb_3_70 tb_1_1 tb_3_71 (by decide) rfl (by decide) (by decide) (Nat.le_of_ble_eq_true rfl) rfl (fun v_r_2 S_1 hq => ?_)
  obtain ⟨r_2, rfl, h⟩ := hq
  dsimp only [Option.toList, List.cons_append, List.nil_append]
  refine J_if_eq (tgt := 26) dX8_annihilates_4 (by decide) (fun c_3 => ?_) (fun c_3 => ?_)
  · have h := h.1 c_3
    exact l_X8_annihilates_26 p1 p2 p3 p4  _    _  h
  · have h := h.2 c_3
    refine J_iload_n dX8_annihilates_7 rfl 2 rfl  ?_
    refine J_callS (As := [.int p2]) (rest := []) (n := 1) dX8_annihilates_8 (c_X8_isHand p2  _ _ h) tb_3_132 tb_3_130 tb_1_1 tb_3_131 (by decide) rfl (by decide) (by decide) (Nat.le_of_ble_eq_true rfl) rfl (fun v_r_5 S_4 hq => ?_)
    obtain ⟨r_5, rfl, h⟩ := hq
    dsimp only [Option.toList, List.cons_append, List.nil_append]
    refine J_if_eq (tgt := 26) dX8_annihilates_11 (by decide) (fun c_6 => ?_) (fun c_6 => ?_)
    · have h := h.1 c_6
      exact l_X8_annihilates_26 p1 p2 p3 p4  _    _  h
    · have h := h.2 c_6
      refine J_aload_n dX8_annihilates_14 rfl 0 rfl  ?_
      refine J_getr (r := 1) (ci := 6) dX8_annihilates_15 0 rfl giX8 (by decide) (by decide) rfl rfl tb_2_16 (by decide) (by decide)  ?_
      refine J_iload dX8_annihilates_18 4 rfl  ?_
      refine J_callV (h := 1) (ci := 2) (As := [.int p4]) (rest := []) (n := 1) dX8_annihilates_20 (c_X4_hasPlace p4  _ _ h) (by decide) rfl tb_2_87 tb_2_84 tb_1_2 tb_2_85 tb_2_86 (by decide) rfl (by decide) (by decide) (Nat.le_of_ble_eq_true rfl) rfl (fun v_r_8 S_7 hq => ?_)
      obtain ⟨r_8, rfl, h⟩ := hq
      dsimp only [Option.toList, List.cons_append, List.nil_append]
      refine J_if_ne (tgt := 28) dX8_annihilates_23 (by decide) (fun c_9 => ?_) (fun c_9 => ?_)
      · have h := h.1 c_9
        refine J_aload_n dX8_annihilates_28 rfl 0 rfl  ?_
        refine J_getr (r := 48) (ci := 6) dX8_annihilates_29 5 rfl giX8 (by decide) (by decide) rfl rfl tb_2_21 (by decide) (by decide)  ?_
        refine J_aload_n dX8_annihilates_32 rfl 0 rfl  ?_
        refine J_getr (r := 1) (ci := 6) dX8_annihilates_33 0 rfl giX8 (by decide) (by decide) rfl rfl tb_2_16 (by decide) (by decide)  ?_
        refine J_iload_n dX8_annihilates_36 rfl 1 rfl  ?_
        refine J_iload_n dX8_annihilates_37 rfl 2 rfl  ?_
        refine J_callV (h := 48) (ci := 0) (As := [.ref (g.1 + 1), .int p1, .int p2]) (rest := []) (n := 3) dX8_annihilates_38 (c_X1_annihilatorOf p1 p2  _ _ h) (by decide) rfl tb_3_136 tb_3_133 tb_1_5 tb_3_134 tb_3_135 (by decide) rfl (by decide) (by decide) (Nat.le_of_ble_eq_true rfl) rfl (fun v_r_11 S_10 hq => ?_)
        obtain ⟨r_11, rfl, hk_12, h⟩ := hq
        have h := h hk_12
        dsimp only [Option.toList, List.cons_append, List.nil_append]
        refine J_astore (lv' := [(0, .ref (g.1 + 0)), (1, .int p1), (2, .int p2), (3, .int p3), (4, .int p4), (5, .ref (g.1 + r_11))]) dX8_annihilates_41 (by decide) [1, 2, 3, 4, 5, 0] rfl  ?_
        refine J_aload dX8_annihilates_43 5 rfl  ?_
        refine J_iload_n dX8_annihilates_45 rfl 3 rfl  ?_
        refine J_callV (h := r_11) (ci := 3) (As := [.int p3]) (rest := []) (n := 1) dX8_annihilates_46 (c_X5_leadNumber r_11 p3 hk_12 _ _ h) hk_12 rfl tb_3_80 tb_3_77 tb_1_6 tb_3_78 tb_3_79 (by decide) rfl (by decide) (by decide) (Nat.le_of_ble_eq_true rfl) rfl (fun v_r_14 S_13 hq => ?_)
        obtain ⟨r_14, rfl, h⟩ := hq
        dsimp only [Option.toList, List.cons_append, List.nil_append]
        refine J_istore (lv' := [(0, .ref (g.1 + 0)), (1, .int p1), (2, .int p2), (3, .int p3), (4, .int p4), (5, .ref (g.1 + r_11)), (6, .int r_14)]) dX8_annihilates_49 (by decide) [1, 2, 3, 4, 5, 6, 0] rfl  ?_
        refine J_iload dX8_annihilates_51 6 rfl  ?_
        refine J_if_ge (tgt := 60) dX8_annihilates_53 (by decide) (fun c_15 => ?_) (fun c_15 => ?_)
        · have h := h.1 c_15
          refine J_aload dX8_annihilates_60 5 rfl  ?_
          refine J_getr (r := r_11 + 1) (ci := 3) dX8_annihilates_62 0 rfl giX5 hk_12 (by decide) rfl rfl tb_1_157 (by decide) (sp_rf0 hk_12)  ?_
          refine J_iload dX8_annihilates_65 6 rfl  ?_
          obtain ⟨hi_16, h⟩ := h
          refine J_aald3 dX8_annihilates_67 (sp_rows hk_12) hi_16  ?_
          refine J_iload dX8_annihilates_68 4 rfl  ?_
          obtain ⟨hi_17, h⟩ := h
          refine J_iald dX8_annihilates_70 (kd_row3 (sp_rows hk_12) hi_16) hi_17  ?_
          refine J_sub (lv' := [(0, .ref (g.1 + 0)), (1, .int p1), (2, .int p2), (3, .int p3), (4, .int p4)]) [0, 1, 2, 3, 4] rfl ?_
          exact l_X8_annihilates_71 p1 p2 p3 p4  _   _ _  h
        · have h := h.2 c_15
          refine J_iconst (v := (-1)) dX8_annihilates_56 (by decide)  ?_
          refine J_goto (tgt := 71) dX8_annihilates_57 (by decide)  ?_
          refine J_sub (lv' := [(0, .ref (g.1 + 0)), (1, .int p1), (2, .int p2), (3, .int p3), (4, .int p4)]) [0, 1, 2, 3, 4] rfl ?_
          exact l_X8_annihilates_71 p1 p2 p3 p4  _   _ _  h
      · have h := h.2 c_9
        exact l_X8_annihilates_26 p1 p2 p3 p4  _    _  h
def q_X8_step_9 (p1 : Int32)  (Q : Int32 → Sto → Prop)  (S : Sto) : Prop := Q ((-1)) S
set_option maxRecDepth 100000 in
set_option maxHeartbeats 4000000 in
theorem l_X8_step_9 {g : Gv} (p1 : Int32)  (Q : Int32 → Sto → Prop)    (S : Sto)  (h : q_X8_step_9 p1  Q  S) : RJ g cX8_step RX8 (some .int) 2 7 9 [(0, .ref (g.1 + 0)), (1, .int p1)] [] S (Qi Q) := by
  unfold q_X8_step_9 at h
  refine J_iconst (v := (-1)) dX8_step_9 (by decide)  ?_
  exact J_iret dX8_step_10 rfl rfl ⟨_, rfl, h⟩
def q_X8_step_30 (p1 : Int32)  (Q : Int32 → Sto → Prop)  (S : Sto) : Prop := wp_X1_ofSide 0 S (fun r_2 S_1 => kd r_2 = 8 → wp_X6_countOf r_2 p1 S_1 (fun r_5 S_4 => Q r_5 S_4))
set_option maxRecDepth 100000 in
set_option maxHeartbeats 4000000 in
theorem l_X8_step_30 {g : Gv} (p1 : Int32)  (Q : Int32 → Sto → Prop)    (S : Sto)  (h : q_X8_step_30 p1  Q  S) : RJ g cX8_step RX8 (some .int) 2 7 30 [(0, .ref (g.1 + 0)), (1, .int p1)] [] S (Qi Q) := by
  unfold q_X8_step_30 at h
  refine J_aload_n dX8_step_30 rfl 0 rfl  ?_
  refine J_getr (r := 206) (ci := 6) dX8_step_31 6 rfl giX8 (by decide) (by decide) rfl rfl tb_2_22 (by decide) (by decide)  ?_
  refine J_aload_n dX8_step_34 rfl 0 rfl  ?_
  refine J_getr (r := 1) (ci := 6) dX8_step_35 0 rfl giX8 (by decide) (by decide) rfl rfl tb_2_16 (by decide) (by decide)  ?_
  refine J_aload_n dX8_step_38 rfl 0 rfl  ?_
  refine J_getr (r := 48) (ci := 6) dX8_step_39 5 rfl giX8 (by decide) (by decide) rfl rfl tb_2_21 (by decide) (by decide)  ?_
  refine J_aload_n dX8_step_42 rfl 0 rfl  ?_
  refine J_getr (r := 1) (ci := 6) dX8_step_43 0 rfl giX8 (by decide) (by decide) rfl rfl tb_2_16 (by decide) (by decide)  ?_
  refine J_iconst (v := 0) dX8_step_46 (by decide)  ?_
  refine J_callV (h := 48) (ci := 0) (As := [.ref (g.1 + 1), .int 0]) (rest := [.ref (g.1 + 1), .ref (g.1 + 206)]) (n := 2) dX8_step_47 (c_X1_ofSide 0  _ _ h) (by decide) rfl tb_2_144 tb_2_141 tb_1_5 tb_2_142 tb_2_143 (by decide) rfl (by decide) (by decide) (Nat.le_of_ble_eq_true rfl) rfl (fun v_r_2 S_1 hq => ?_)
  obtain ⟨r_2, rfl, hk_3, h⟩ := hq
  have h := h hk_3
  dsimp only [Option.toList, List.cons_append, List.nil_append]
  refine J_iload_n dX8_step_50 rfl 1 rfl  ?_
  refine J_callV (h := 206) (ci := 4) (As := [.ref (g.1 + 1), .ref (g.1 + r_2), .int p1]) (rest := []) (n := 3) dX8_step_51 (c_X6_countOf r_2 p1 hk_3 _ _ h) (by decide) rfl tb_3_174 tb_3_171 tb_1_7 tb_3_172 tb_3_173 (by decide) rfl (by decide) (by decide) (Nat.le_of_ble_eq_true rfl) rfl (fun v_r_5 S_4 hq => ?_)
  obtain ⟨r_5, rfl, h⟩ := hq
  dsimp only [Option.toList, List.cons_append, List.nil_append]
  exact J_iret dX8_step_54 rfl rfl ⟨_, rfl, h⟩
def wp_X8_step (p1 : Int32) (S : Sto) (Q : Int32 → Sto → Prop) : Prop := ((p1 < 0 → q_X8_step_9 p1  Q  S) ∧ (¬ p1 < 0 → ((p1 ≤ 2 → ((¬ p1 = 2 → q_X8_step_30 p1  Q  S) ∧ (p1 = 2 → ((¬ (S.1 1 0) = 4 → q_X8_step_30 p1  Q  S) ∧ ((S.1 1 0) = 4 → Q ((-3)) S))))) ∧ (¬ p1 ≤ 2 → q_X8_step_9 p1  Q  S))))
set_option maxRecDepth 100000 in
set_option maxHeartbeats 4000000 in
theorem c_X8_step {g : Gv} (p1 : Int32)  (S : Sto) (Q : Int32 → Sto → Prop) (h : wp_X8_step p1 S Q) : CT g yX8_step cX8_step 2 (some .int) 7 [.ref (g.1 + 0), .int p1] S (Qi Q) := by
  unfold wp_X8_step at h
  refine CT.of (by decide) (Nat.le_of_ble_eq_true rfl) ?_
  refine J_sub (lv' := [(0, .ref (g.1 + 0)), (1, .int p1)]) [0, 1] rfl ?_
  refine J_iload_n dX8_step_0 rfl 1 rfl  ?_
  refine J_if_lt (tgt := 9) dX8_step_1 (by decide) (fun c_1 => ?_) (fun c_1 => ?_)
  · have h := h.1 c_1
    exact l_X8_step_9 p1  _    _  h
  · have h := h.2 c_1
    refine J_iload_n dX8_step_4 rfl 1 rfl  ?_
    refine J_iconst (v := 2) dX8_step_5 (by decide)  ?_
    refine J_icmp_le (tgt := 11) dX8_step_6 (by decide) (fun c_2 => ?_) (fun c_2 => ?_)
    · have h := h.1 c_2
      refine J_iload_n dX8_step_11 rfl 1 rfl  ?_
      refine J_iconst (v := 2) dX8_step_12 (by decide)  ?_
      refine J_icmp_ne (tgt := 30) dX8_step_13 (by decide) (fun c_3 => ?_) (fun c_3 => ?_)
      · have h := h.1 c_3
        exact l_X8_step_30 p1  _    _  h
      · have h := h.2 c_3
        refine J_aload_n dX8_step_16 rfl 0 rfl  ?_
        refine J_getr (r := 1) (ci := 6) dX8_step_17 0 rfl giX8 (by decide) (by decide) rfl rfl tb_2_16 (by decide) (by decide)  ?_
        refine J_geti (ci := 2) dX8_step_20 0 rfl giX4 (by decide) (by decide) rfl rfl tb_1_33 rfl  ?_
        refine J_iconst (v := 4) dX8_step_23 (by decide)  ?_
        refine J_icmp_ne (tgt := 30) dX8_step_24 (by decide) (fun c_4 => ?_) (fun c_4 => ?_)
        · have h := h.1 c_4
          exact l_X8_step_30 p1  _    _  h
        · have h := h.2 c_4
          refine J_bipush (v := (-3)) dX8_step_27 (by decide)  ?_
          exact J_iret dX8_step_29 rfl rfl ⟨_, rfl, h⟩
    · have h := h.2 c_2
      exact l_X8_step_9 p1  _    _  h
