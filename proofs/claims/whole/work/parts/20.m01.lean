def q_J9_max_7cf53_10 (p0 : Int32) (p1 : Int32)  (Q : Int32 → Sto → Prop) (t0 : Int32) (S : Sto) : Prop := Q t0 S
set_option maxRecDepth 100000 in
set_option maxHeartbeats 4000000 in
theorem l_J9_max_7cf53_10 {g : Gv} (p0 : Int32) (p1 : Int32)  (Q : Int32 → Sto → Prop)   (t0 : Int32) (S : Sto)  (h : q_J9_max_7cf53_10 p0 p1  Q t0 S) : RJ g cJ9_max_7cf53 RJ9 (some .int) 2 1 10 [(0, .int p0), (1, .int p1)] [.int t0] S (Qi Q) := by
  unfold q_J9_max_7cf53_10 at h
  exact J_iret dJ9_max_7cf53_10 rfl rfl ⟨_, rfl, h⟩
def wp_J9_max_7cf53 (p0 : Int32) (p1 : Int32) (S : Sto) (Q : Int32 → Sto → Prop) : Prop := ((p0 < p1 → q_J9_max_7cf53_10 p0 p1  Q p1 S) ∧ (¬ p0 < p1 → q_J9_max_7cf53_10 p0 p1  Q p0 S))
set_option maxRecDepth 100000 in
set_option maxHeartbeats 4000000 in
theorem c_J9_max_7cf53 {g : Gv} (p0 : Int32) (p1 : Int32)  (S : Sto) (Q : Int32 → Sto → Prop) (h : wp_J9_max_7cf53 p0 p1 S Q) : CT g yJ9_max_7cf53 cJ9_max_7cf53 2 (some .int) 1 [.int p0, .int p1] S (Qi Q) := by
  unfold wp_J9_max_7cf53 at h
  refine CT.ofF (by decide +kernel) (Nat.le_of_ble_eq_true rfl) ?_
  refine J_sub (lv' := [(0, .int p0), (1, .int p1)]) [0, 1] rfl ?_
  refine J_iload_n dJ9_max_7cf53_0 rfl 0 rfl  ?_
  refine J_iload_n dJ9_max_7cf53_1 rfl 1 rfl  ?_
  refine J_icmp_lt (tgt := 9) dJ9_max_7cf53_2 (by decide) (fun c_1 => ?_) (fun c_1 => ?_)
  · have h := h.1 c_1
    refine J_iload_n dJ9_max_7cf53_9 rfl 1 rfl  ?_
    exact l_J9_max_7cf53_10 p0 p1  _   _ _  h
  · have h := h.2 c_1
    refine J_iload_n dJ9_max_7cf53_5 rfl 0 rfl  ?_
    refine J_goto (tgt := 10) dJ9_max_7cf53_6 (by decide)  ?_
    exact l_J9_max_7cf53_10 p0 p1  _   _ _  h
def q_J9_min_7cf53_10 (p0 : Int32) (p1 : Int32)  (Q : Int32 → Sto → Prop) (t0 : Int32) (S : Sto) : Prop := Q t0 S
set_option maxRecDepth 100000 in
set_option maxHeartbeats 4000000 in
theorem l_J9_min_7cf53_10 {g : Gv} (p0 : Int32) (p1 : Int32)  (Q : Int32 → Sto → Prop)   (t0 : Int32) (S : Sto)  (h : q_J9_min_7cf53_10 p0 p1  Q t0 S) : RJ g cJ9_min_7cf53 RJ9 (some .int) 2 1 10 [(0, .int p0), (1, .int p1)] [.int t0] S (Qi Q) := by
  unfold q_J9_min_7cf53_10 at h
  exact J_iret dJ9_min_7cf53_10 rfl rfl ⟨_, rfl, h⟩
def wp_J9_min_7cf53 (p0 : Int32) (p1 : Int32) (S : Sto) (Q : Int32 → Sto → Prop) : Prop := ((p1 < p0 → q_J9_min_7cf53_10 p0 p1  Q p1 S) ∧ (¬ p1 < p0 → q_J9_min_7cf53_10 p0 p1  Q p0 S))
set_option maxRecDepth 100000 in
set_option maxHeartbeats 4000000 in
theorem c_J9_min_7cf53 {g : Gv} (p0 : Int32) (p1 : Int32)  (S : Sto) (Q : Int32 → Sto → Prop) (h : wp_J9_min_7cf53 p0 p1 S Q) : CT g yJ9_min_7cf53 cJ9_min_7cf53 2 (some .int) 1 [.int p0, .int p1] S (Qi Q) := by
  unfold wp_J9_min_7cf53 at h
  refine CT.ofF (by decide +kernel) (Nat.le_of_ble_eq_true rfl) ?_
  refine J_sub (lv' := [(0, .int p0), (1, .int p1)]) [0, 1] rfl ?_
  refine J_iload_n dJ9_min_7cf53_0 rfl 0 rfl  ?_
  refine J_iload_n dJ9_min_7cf53_1 rfl 1 rfl  ?_
  refine J_icmp_gt (tgt := 9) dJ9_min_7cf53_2 (by decide) (fun c_1 => ?_) (fun c_1 => ?_)
  · have h := h.1 c_1
    refine J_iload_n dJ9_min_7cf53_9 rfl 1 rfl  ?_
    exact l_J9_min_7cf53_10 p0 p1  _   _ _  h
  · have h := h.2 c_1
    refine J_iload_n dJ9_min_7cf53_5 rfl 0 rfl  ?_
    refine J_goto (tgt := 10) dJ9_min_7cf53_6 (by decide)  ?_
    exact l_J9_min_7cf53_10 p0 p1  _   _ _  h
def q_X5_begin_35 (p0 : Nat) (p1 : Int32) (p2 : Int32) (p3 : Int32)  (Q : Sto → Prop) : Nat → Int32 → Sto → Prop
  | 0, _, _ => False
  | n + 1, x4, S => (((S.1 p0 3) ≤ x4 → Q S) ∧ (¬ (S.1 p0 3) ≤ x4 → vp_in x4 (ln (p0 + 2 + ln (p0 + 1))) ∧ ∀ S_3 : Sto, S_3 = uA S (p0 + 2 + ln (p0 + 1)) (x4 : Int32).toNatClampNeg (vp_nar .boolean 0) → ∀ x4_4 : Int32, x4_4 = x4 + 1 → q_X5_begin_35 p0 p1 p2 p3  Q n x4_4 S_3))
set_option maxRecDepth 100000 in
set_option maxHeartbeats 4000000 in
theorem l_X5_begin_35 {g : Gv} (p0 : Nat) (p1 : Int32) (p2 : Int32) (p3 : Int32)  (Q : Sto → Prop)  (hp0 : kd p0 = 8) (n : Nat) : ∀ (x4 : Int32) (S : Sto)  (h : q_X5_begin_35 p0 p1 p2 p3  Q n x4 S), RJ g cX5_begin RX5 none 5 2 35 [(0, .ref (g.1 + p0)), (1, .int p1), (2, .int p2), (3, .int p3), (4, .int x4)] [] S (Qv Q) := by
  induction n with
  | zero => intro x4 S  h; exact h.elim
  | succ n ih =>
    intro x4 S  h
    unfold q_X5_begin_35 at h
    refine J_iload dX5_begin_35 4 rfl  ?_
    refine J_aload_n dX5_begin_37 rfl 0 rfl  ?_
    refine J_geti (ci := 3) dX5_begin_38 3 rfl giX5 hp0 (by decide) rfl rfl tb_1_162 rfl  ?_
    refine J_icmp_ge (tgt := 58) dX5_begin_41 (by decide) (fun c_1 => ?_) (fun c_1 => ?_)
    · have h := h.1 c_1
      exact J_vret dX5_begin_58 rfl ⟨rfl, h⟩
    · have h := h.2 c_1
      refine J_aload_n dX5_begin_44 rfl 0 rfl  ?_
      refine J_getr (r := p0 + 2 + ln (p0 + 1)) (ci := 3) dX5_begin_45 1 rfl giX5 hp0 (by decide) rfl rfl tb_1_158 (by decide) (sp_rf1 hp0)  ?_
      refine J_iload dX5_begin_48 4 rfl  ?_
      refine J_iconst (v := 0) dX5_begin_50 (by decide)  ?_
      obtain ⟨hi_2, h⟩ := h
      refine J_zast dX5_begin_51 (sp_held hp0) hi_2  ?_
      refine J_nmS (fun S_3 eS_3 => ?_)
      have h := h S_3 eS_3
      obtain ⟨x4_4, ex4_4⟩ : ∃ y : Int32, y = x4 + 1 := ⟨_, rfl⟩
      have h := h x4_4 ex4_4
      refine J_iinc (v := x4_4) (lv' := [(0, .ref (g.1 + p0)), (1, .int p1), (2, .int p2), (3, .int p3), (4, .int x4_4)]) dX5_begin_52 (q := 4) rfl (by rw [ex4_4]; rfl) (by decide) [1, 2, 3, 4, 0] rfl  ?_
      refine J_goto (tgt := 35) dX5_begin_55 (by decide)  ?_
      exact ih _ _  h
def wp_X5_begin (p0 : Nat) (p1 : Int32) (p2 : Int32) (p3 : Int32) (S : Sto) (Q : Sto → Prop) : Prop := wp_J9_min_7cf53 p1 (nI (ln (p0 + 2 + ln (p0 + 1)))) S (fun r_2 S_1 => ∀ S_3 : Sto, S_3 = uA S_1 p0 3 r_2 → wp_J9_max_7cf53 p2 2 S_3 (fun r_5 S_4 => ∀ S_6 : Sto, S_6 = uA S_4 p0 4 r_5 → ∀ S_7 : Sto, S_7 = uA S_6 p0 5 p3 → ∀ S_8 : Sto, S_8 = uA S_7 p0 2 0 → (∃ n_35, q_X5_begin_35 p0 p1 p2 p3  Q n_35 0 S_8)))
set_option maxRecDepth 100000 in
set_option maxHeartbeats 4000000 in
theorem c_X5_begin {g : Gv} (p0 : Nat) (p1 : Int32) (p2 : Int32) (p3 : Int32) (hp0 : kd p0 = 8) (S : Sto) (Q : Sto → Prop) (h : wp_X5_begin p0 p1 p2 p3 S Q) : CT g yX5_begin cX5_begin 5 none 2 [.ref (g.1 + p0), .int p1, .int p2, .int p3] S (Qv Q) := by
  unfold wp_X5_begin at h
  refine CT.of (by decide) (Nat.le_of_ble_eq_true rfl) ?_
  refine J_sub (lv' := [(0, .ref (g.1 + p0)), (1, .int p1), (2, .int p2), (3, .int p3)]) [0, 1, 2, 3] rfl ?_
  refine J_aload_n dX5_begin_0 rfl 0 rfl  ?_
  refine J_iload_n dX5_begin_1 rfl 1 rfl  ?_
  refine J_aload_n dX5_begin_2 rfl 0 rfl  ?_
  refine J_getr (r := p0 + 2 + ln (p0 + 1)) (ci := 3) dX5_begin_3 1 rfl giX5 hp0 (by decide) rfl rfl tb_1_158 (by decide) (sp_rf1 hp0)  ?_
  refine J_alen1 (n := ln (p0 + 2 + ln (p0 + 1))) dX5_begin_6 (sp_held hp0) rfl  ?_
  refine J_callS (As := [.int p1, .int (nI (ln (p0 + 2 + ln (p0 + 1))))]) (rest := [.ref (g.1 + p0)]) (n := 2) dX5_begin_7 (c_J9_min_7cf53 p1 (nI (ln (p0 + 2 + ln (p0 + 1))))  _ _ h) tb_2_152 tb_2_150 tb_1_10 tb_2_151 (by decide) rfl (by decide) (by decide) (Nat.le_of_ble_eq_true rfl) rfl (fun v_r_2 S_1 hq => ?_)
  obtain ⟨r_2, rfl, h⟩ := hq
  dsimp only [Option.toList, List.cons_append, List.nil_append]
  refine J_puti (ci := 3) dX5_begin_10 3 rfl giX5 hp0 (by decide) rfl rfl tyX5 tyX5_ok nmX5 rfl rfl rfl rfl tb_1_162 rfl  ?_
  refine J_nmS (fun S_3 eS_3 => ?_)
  have h := h S_3 eS_3
  refine J_aload_n dX5_begin_13 rfl 0 rfl  ?_
  refine J_iload_n dX5_begin_14 rfl 2 rfl  ?_
  refine J_iconst (v := 2) dX5_begin_15 (by decide)  ?_
  refine J_callS (As := [.int p2, .int 2]) (rest := [.ref (g.1 + p0)]) (n := 2) dX5_begin_16 (c_J9_max_7cf53 p2 2  _ _ h) tb_2_155 tb_2_153 tb_1_10 tb_2_154 (by decide) rfl (by decide) (by decide) (Nat.le_of_ble_eq_true rfl) rfl (fun v_r_5 S_4 hq => ?_)
  obtain ⟨r_5, rfl, h⟩ := hq
  dsimp only [Option.toList, List.cons_append, List.nil_append]
  refine J_puti (ci := 3) dX5_begin_19 4 rfl giX5 hp0 (by decide) rfl rfl tyX5 tyX5_ok nmX5 rfl rfl rfl rfl tb_1_164 rfl  ?_
  refine J_nmS (fun S_6 eS_6 => ?_)
  have h := h S_6 eS_6
  refine J_aload_n dX5_begin_22 rfl 0 rfl  ?_
  refine J_iload_n dX5_begin_23 rfl 3 rfl  ?_
  refine J_puti (ci := 3) dX5_begin_24 5 rfl giX5 hp0 (by decide) rfl rfl tyX5 tyX5_ok nmX5 rfl rfl rfl rfl tb_1_165 rfl  ?_
  refine J_nmS (fun S_7 eS_7 => ?_)
  have h := h S_7 eS_7
  refine J_aload_n dX5_begin_27 rfl 0 rfl  ?_
  refine J_iconst (v := 0) dX5_begin_28 (by decide)  ?_
  refine J_puti (ci := 3) dX5_begin_29 2 rfl giX5 hp0 (by decide) rfl rfl tyX5 tyX5_ok nmX5 rfl rfl rfl rfl tb_1_159 rfl  ?_
  refine J_nmS (fun S_8 eS_8 => ?_)
  have h := h S_8 eS_8
  refine J_iconst (v := 0) dX5_begin_32 (by decide)  ?_
  refine J_istore (lv' := [(0, .ref (g.1 + p0)), (1, .int p1), (2, .int p2), (3, .int p3), (4, .int 0)]) dX5_begin_33 (by decide) [1, 2, 3, 4, 0] rfl  ?_
  obtain ⟨n, h⟩ := h
  exact l_X5_begin_35 p0 p1 p2 p3  _  hp0 n _ _  h
def q_X1_ofSide_95 (p2 : Int32)  (Q : Nat → Sto → Prop) (x3 : Nat) (S : Sto) : Prop := Q x3 S
set_option maxRecDepth 100000 in
set_option maxHeartbeats 4000000 in
theorem l_X1_ofSide_95 {g : Gv} (p2 : Int32)  (Q : Nat → Sto → Prop)   (x3 : Nat) (S : Sto) (hx3 : kd x3 = 8) (h : q_X1_ofSide_95 p2  Q x3 S) : RJ g cX1_ofSide RX1 (some (.object "OuterIdeals$Span")) 4 6 95 [(0, .ref (g.1 + 48)), (1, .ref (g.1 + 1)), (2, .int p2), (3, .ref (g.1 + x3))] [] S (Qr g 8 Q) := by
  unfold q_X1_ofSide_95 at h
  refine J_aload_n dX1_ofSide_95 rfl 3 rfl  ?_
  exact J_aret dX1_ofSide_96 rfl ⟨_, rfl, hx3, h⟩
def q_X1_ofSide_27 (p2 : Int32)  (Q : Nat → Sto → Prop) (t0 : Nat) (S : Sto) : Prop := ((p2 < 0 → q_X1_ofSide_95 p2  Q t0 S) ∧ (¬ p2 < 0 → (((nI 3) ≤ p2 → q_X1_ofSide_95 p2  Q t0 S) ∧ (¬ (nI 3) ≤ p2 → vp_in p2 (3) ∧ (((S.1 106 (p2 : Int32).toNatClampNeg) = (S.1 1 12) → q_X1_ofSide_95 p2  Q t0 S) ∧ (¬ (S.1 106 (p2 : Int32).toNatClampNeg) = (S.1 1 12) → wp_X4_width  S (fun r_6 S_5 => wp_X5_begin t0 r_6 (S_5.1 1 1) (S_5.1 1 2) S_5 (fun S_7 => wp_X1_complete t0 p2 9 (S_7.1 1 5) S_7 (fun S_9 => vp_in p2 (3) ∧ ∀ S_12 : Sto, S_12 = uA S_9 106 (p2 : Int32).toNatClampNeg (S_9.1 1 12) → q_X1_ofSide_95 p2  Q t0 S_12)))))))))
set_option maxRecDepth 100000 in
set_option maxHeartbeats 4000000 in
theorem l_X1_ofSide_27 {g : Gv} (p2 : Int32)  (Q : Nat → Sto → Prop)   (t0 : Nat) (S : Sto) (ht0 : kd t0 = 8) (h : q_X1_ofSide_27 p2  Q t0 S) : RJ g cX1_ofSide RX1 (some (.object "OuterIdeals$Span")) 4 6 27 [(0, .ref (g.1 + 48)), (1, .ref (g.1 + 1)), (2, .int p2)] [.ref (g.1 + t0)] S (Qr g 8 Q) := by
  unfold q_X1_ofSide_27 at h
  refine J_astore_n (lv' := [(0, .ref (g.1 + 48)), (1, .ref (g.1 + 1)), (2, .int p2), (3, .ref (g.1 + t0))]) dX1_ofSide_27 rfl (by decide) [1, 2, 3, 0] rfl  ?_
  refine J_iload_n dX1_ofSide_28 rfl 2 rfl  ?_
  refine J_if_lt (tgt := 95) dX1_ofSide_29 (by decide) (fun c_1 => ?_) (fun c_1 => ?_)
  · have h := h.1 c_1
    exact l_X1_ofSide_95 p2  _   _ _ ht0 h
  · have h := h.2 c_1
    refine J_iload_n dX1_ofSide_32 rfl 2 rfl  ?_
    refine J_aload_n dX1_ofSide_33 rfl 0 rfl  ?_
    refine J_getr (r := 106) (ci := 0) dX1_ofSide_34 3 rfl giX1 (by decide) (by decide) rfl rfl tb_1_184 (by decide) (by decide)  ?_
    refine J_alen0 (n := 3) dX1_ofSide_37 (by decide) rfl  ?_
    refine J_icmp_ge (tgt := 95) dX1_ofSide_38 (by decide) (fun c_2 => ?_) (fun c_2 => ?_)
    · have h := h.1 c_2
      exact l_X1_ofSide_95 p2  _   _ _ ht0 h
    · have h := h.2 c_2
      refine J_aload_n dX1_ofSide_41 rfl 0 rfl  ?_
      refine J_getr (r := 106) (ci := 0) dX1_ofSide_42 3 rfl giX1 (by decide) (by decide) rfl rfl tb_1_184 (by decide) (by decide)  ?_
      refine J_iload_n dX1_ofSide_45 rfl 2 rfl  ?_
      obtain ⟨hi_3, h⟩ := h
      refine J_iald dX1_ofSide_46 (by decide) hi_3  ?_
      refine J_aload_n dX1_ofSide_47 rfl 1 rfl  ?_
      refine J_geti (ci := 2) dX1_ofSide_48 12 rfl giX4 (by decide) (by decide) rfl rfl tb_1_70 rfl  ?_
      refine J_icmp_eq (tgt := 95) dX1_ofSide_51 (by decide) (fun c_4 => ?_) (fun c_4 => ?_)
      · have h := h.1 c_4
        exact l_X1_ofSide_95 p2  _   _ _ ht0 h
      · have h := h.2 c_4
        refine J_aload_n dX1_ofSide_54 rfl 3 rfl  ?_
        refine J_aload_n dX1_ofSide_55 rfl 1 rfl  ?_
        refine J_callV (h := 1) (ci := 2) (As := []) (rest := [.ref (g.1 + t0)]) (n := 0) dX1_ofSide_56 (c_X4_width   _ _ h) (by decide) rfl tb_2_91 tb_2_145 tb_1_2 tb_2_89 tb_2_90 (by decide) rfl (by decide) (by decide) (Nat.le_of_ble_eq_true rfl) rfl (fun v_r_6 S_5 hq => ?_)
        obtain ⟨r_6, rfl, h⟩ := hq
        dsimp only [Option.toList, List.cons_append, List.nil_append]
        refine J_aload_n dX1_ofSide_59 rfl 1 rfl  ?_
        refine J_geti (ci := 2) dX1_ofSide_60 1 rfl giX4 (by decide) (by decide) rfl rfl tb_1_38 rfl  ?_
        refine J_aload_n dX1_ofSide_63 rfl 1 rfl  ?_
        refine J_geti (ci := 2) dX1_ofSide_64 2 rfl giX4 (by decide) (by decide) rfl rfl tb_1_43 rfl  ?_
        refine J_callV (h := t0) (ci := 3) (As := [.int r_6, .int (S_5.1 1 1), .int (S_5.1 1 2)]) (rest := []) (n := 3) dX1_ofSide_67 (c_X5_begin t0 r_6 (S_5.1 1 1) (S_5.1 1 2) ht0 _ _ h) ht0 rfl tb_2_149 tb_2_146 tb_1_6 tb_2_147 tb_2_148 (by decide) rfl (by decide) (by decide) (Nat.le_of_ble_eq_true rfl) rfl (fun v_r_8 S_7 hq => ?_)
        obtain ⟨rfl, h⟩ := hq
        dsimp only [Option.toList, List.cons_append, List.nil_append]
        refine J_aload_n dX1_ofSide_70 rfl 0 rfl  ?_
        refine J_aload_n dX1_ofSide_71 rfl 3 rfl  ?_
        refine J_iload_n dX1_ofSide_72 rfl 2 rfl  ?_
        refine J_aload_n dX1_ofSide_73 rfl 1 rfl  ?_
        refine J_aload_n dX1_ofSide_74 rfl 1 rfl  ?_
        refine J_getr (r := 9) (ci := 2) dX1_ofSide_75 4 rfl giX4 (by decide) (by decide) rfl rfl tb_1_49 (by decide) (by decide)  ?_
        refine J_aload_n dX1_ofSide_78 rfl 1 rfl  ?_
        refine J_geti (ci := 2) dX1_ofSide_79 5 rfl giX4 (by decide) (by decide) rfl rfl tb_1_53 rfl  ?_
        refine J_callV (h := 48) (ci := 0) (As := [.ref (g.1 + t0), .int p2, .ref (g.1 + 1), .ref (g.1 + 9), .int (S_7.1 1 5)]) (rest := []) (n := 5) dX1_ofSide_82 (c_X1_complete t0 p2 9 (S_7.1 1 5) ht0 (by decide) _ _ h) (by decide) rfl tb_2_159 tb_2_156 tb_1_5 tb_2_158 sl_1 (by decide) rfl (by decide) (by decide) (Nat.le_of_ble_eq_true rfl) rfl (fun v_r_10 S_9 hq => ?_)
        obtain ⟨rfl, h⟩ := hq
        dsimp only [Option.toList, List.cons_append, List.nil_append]
        refine J_aload_n dX1_ofSide_85 rfl 0 rfl  ?_
        refine J_getr (r := 106) (ci := 0) dX1_ofSide_86 3 rfl giX1 (by decide) (by decide) rfl rfl tb_1_184 (by decide) (by decide)  ?_
        refine J_iload_n dX1_ofSide_89 rfl 2 rfl  ?_
        refine J_aload_n dX1_ofSide_90 rfl 1 rfl  ?_
        refine J_geti (ci := 2) dX1_ofSide_91 12 rfl giX4 (by decide) (by decide) rfl rfl tb_1_70 rfl  ?_
        obtain ⟨hi_11, h⟩ := h
        refine J_iast dX1_ofSide_94 (by decide) hi_11  ?_
        refine J_nmS (fun S_12 eS_12 => ?_)
        have h := h S_12 eS_12
        exact l_X1_ofSide_95 p2  _   _ _ ht0 h
def wp_X1_ofSide (p2 : Int32) (S : Sto) (Q : Nat → Sto → Prop) : Prop := ((¬ p2 = 0 → ((¬ p2 = 1 → q_X1_ofSide_27 p2  Q 87 S) ∧ (p2 = 1 → q_X1_ofSide_27 p2  Q 68 S))) ∧ (p2 = 0 → q_X1_ofSide_27 p2  Q 49 S))
set_option maxRecDepth 100000 in
set_option maxHeartbeats 4000000 in
theorem c_X1_ofSide {g : Gv} (p2 : Int32)  (S : Sto) (Q : Nat → Sto → Prop) (h : wp_X1_ofSide p2 S Q) : CT g yX1_ofSide cX1_ofSide 4 (some (.object "OuterIdeals$Span")) 6 [.ref (g.1 + 48), .ref (g.1 + 1), .int p2] S (Qr g 8 Q) := by
  unfold wp_X1_ofSide at h
  refine CT.of (by decide) (Nat.le_of_ble_eq_true rfl) ?_
  refine J_sub (lv' := [(0, .ref (g.1 + 48)), (1, .ref (g.1 + 1)), (2, .int p2)]) [0, 1, 2] rfl ?_
  refine J_iload_n dX1_ofSide_0 rfl 2 rfl  ?_
  refine J_if_ne (tgt := 11) dX1_ofSide_1 (by decide) (fun c_1 => ?_) (fun c_1 => ?_)
  · have h := h.1 c_1
    refine J_iload_n dX1_ofSide_11 rfl 2 rfl  ?_
    refine J_iconst (v := 1) dX1_ofSide_12 (by decide)  ?_
    refine J_icmp_ne (tgt := 23) dX1_ofSide_13 (by decide) (fun c_2 => ?_) (fun c_2 => ?_)
    · have h := h.1 c_2
      refine J_aload_n dX1_ofSide_23 rfl 0 rfl  ?_
      refine J_getr (r := 87) (ci := 0) dX1_ofSide_24 2 rfl giX1 (by decide) (by decide) rfl rfl tb_1_183 (by decide) (by decide)  ?_
      exact l_X1_ofSide_27 p2  _   _ _ (by decide) h
    · have h := h.2 c_2
      refine J_aload_n dX1_ofSide_16 rfl 0 rfl  ?_
      refine J_getr (r := 68) (ci := 0) dX1_ofSide_17 1 rfl giX1 (by decide) (by decide) rfl rfl tb_1_182 (by decide) (by decide)  ?_
      refine J_goto (tgt := 27) dX1_ofSide_20 (by decide)  ?_
      exact l_X1_ofSide_27 p2  _   _ _ (by decide) h
  · have h := h.2 c_1
    refine J_aload_n dX1_ofSide_4 rfl 0 rfl  ?_
    refine J_getr (r := 49) (ci := 0) dX1_ofSide_5 0 rfl giX1 (by decide) (by decide) rfl rfl tb_1_181 (by decide) (by decide)  ?_
    refine J_goto (tgt := 27) dX1_ofSide_8 (by decide)  ?_
    exact l_X1_ofSide_27 p2  _   _ _ (by decide) h
def q_X1_demandNought_90 (p1 : Nat) (p3 : Int32) (R3 : Int32 → Sto → Prop) (R15 : Int32 → Int32 → Sto → Prop) (Q : Sto → Prop) (x4 : Int32) (x5 : Int32) (t1 : Int32) (t2 : Int32) (S : Sto) : Prop := vp_in t1 (16) ∧ ∀ S_2 : Sto, S_2 = uA S 205 (t1 : Int32).toNatClampNeg t2 → ∀ x5_3 : Int32, x5_3 = x5 + 1 → R15 x4 x5_3 S_2
set_option maxRecDepth 100000 in
set_option maxHeartbeats 4000000 in
theorem l_X1_demandNought_90 {g : Gv} (p1 : Nat) (p3 : Int32) (R3 : Int32 → Sto → Prop) (R15 : Int32 → Int32 → Sto → Prop) (Q : Sto → Prop) (hR3 : ∀ (y4 : Int32) (S : Sto), R3 y4 S → RJ g cX1_demandNought RX1 none 8 4 3 [(0, .ref (g.1 + 48)), (1, .ref (g.1 + p1)), (2, .ref (g.1 + 1)), (3, .int p3), (4, .int y4)] [] S (Qv Q)) (hR15 : ∀ (y4 : Int32) (y5 : Int32) (S : Sto), R15 y4 y5 S → RJ g cX1_demandNought RX1 none 8 4 15 [(0, .ref (g.1 + 48)), (1, .ref (g.1 + p1)), (2, .ref (g.1 + 1)), (3, .int p3), (4, .int y4), (5, .int y5)] [] S (Qv Q)) (hp1 : kd p1 = 0) (x4 : Int32) (x5 : Int32) (t1 : Int32) (t2 : Int32) (S : Sto)  (h : q_X1_demandNought_90 p1 p3 R3 R15 Q x4 x5 t1 t2 S) : RJ g cX1_demandNought RX1 none 8 4 90 [(0, .ref (g.1 + 48)), (1, .ref (g.1 + p1)), (2, .ref (g.1 + 1)), (3, .int p3), (4, .int x4), (5, .int x5)] [.int t2, .int t1, .ref (g.1 + 205)] S (Qv Q) := by
  unfold q_X1_demandNought_90 at h
  obtain ⟨hi_1, h⟩ := h
  refine J_iast dX1_demandNought_90 (by decide) hi_1  ?_
  refine J_nmS (fun S_2 eS_2 => ?_)
  have h := h S_2 eS_2
  obtain ⟨x5_3, ex5_3⟩ : ∃ y : Int32, y = x5 + 1 := ⟨_, rfl⟩
  have h := h x5_3 ex5_3
  refine J_iinc (v := x5_3) (lv' := [(0, .ref (g.1 + 48)), (1, .ref (g.1 + p1)), (2, .ref (g.1 + 1)), (3, .int p3), (4, .int x4), (5, .int x5_3)]) dX1_demandNought_91 (q := 5) rfl (by rw [ex5_3]; rfl) (by decide) [1, 2, 3, 4, 5, 0] rfl  ?_
  refine J_goto (tgt := 15) dX1_demandNought_94 (by decide)  ?_
  exact hR15 _ _ _  h
def q_X1_demandNought_54 (p1 : Nat) (p3 : Int32) (R3 : Int32 → Sto → Prop) (R15 : Int32 → Int32 → Sto → Prop) (Q : Sto → Prop) (x4 : Int32) (x5 : Int32) (x6 : Int32) (t0 : Int32) (S : Sto) : Prop := ((¬ (x5 ||| x6) = x4 → q_X1_demandNought_90 p1 p3 R3 R15 Q x4 x5 x5 0 S) ∧ ((x5 ||| x6) = x4 → vp_in x6 (ln p1) ∧ wp_X2_modulo (t0 * (S.1 p1 (x6 : Int32).toNatClampNeg)) (S.1 1 1) S (fun r_4 S_3 => q_X1_demandNought_90 p1 p3 R3 R15 Q x4 x5 x5 r_4 S_3)))
set_option maxRecDepth 100000 in
set_option maxHeartbeats 4000000 in
theorem l_X1_demandNought_54 {g : Gv} (p1 : Nat) (p3 : Int32) (R3 : Int32 → Sto → Prop) (R15 : Int32 → Int32 → Sto → Prop) (Q : Sto → Prop) (hR3 : ∀ (y4 : Int32) (S : Sto), R3 y4 S → RJ g cX1_demandNought RX1 none 8 4 3 [(0, .ref (g.1 + 48)), (1, .ref (g.1 + p1)), (2, .ref (g.1 + 1)), (3, .int p3), (4, .int y4)] [] S (Qv Q)) (hR15 : ∀ (y4 : Int32) (y5 : Int32) (S : Sto), R15 y4 y5 S → RJ g cX1_demandNought RX1 none 8 4 15 [(0, .ref (g.1 + 48)), (1, .ref (g.1 + p1)), (2, .ref (g.1 + 1)), (3, .int p3), (4, .int y4), (5, .int y5)] [] S (Qv Q)) (hp1 : kd p1 = 0) (x4 : Int32) (x5 : Int32) (x6 : Int32) (t0 : Int32) (S : Sto)  (h : q_X1_demandNought_54 p1 p3 R3 R15 Q x4 x5 x6 t0 S) : RJ g cX1_demandNought RX1 none 8 4 54 [(0, .ref (g.1 + 48)), (1, .ref (g.1 + p1)), (2, .ref (g.1 + 1)), (3, .int p3), (4, .int x4), (5, .int x5), (6, .int x6)] [.int t0] S (Qv Q) := by
  unfold q_X1_demandNought_54 at h
  refine J_istore (lv' := [(0, .ref (g.1 + 48)), (1, .ref (g.1 + p1)), (2, .ref (g.1 + 1)), (3, .int p3), (4, .int x4), (5, .int x5), (6, .int x6), (7, .int t0)]) dX1_demandNought_54 (by decide) [1, 2, 3, 4, 5, 6, 7, 0] rfl  ?_
  refine J_aload_n dX1_demandNought_56 rfl 0 rfl  ?_
  refine J_getr (r := 205) (ci := 0) dX1_demandNought_57 13 rfl giX1 (by decide) (by decide) rfl rfl tb_1_195 (by decide) (by decide)  ?_
  refine J_iload dX1_demandNought_60 5 rfl  ?_
  refine J_iload dX1_demandNought_62 5 rfl  ?_
  refine J_iload dX1_demandNought_64 6 rfl  ?_
  refine J_ior dX1_demandNought_66  ?_
  refine J_iload dX1_demandNought_67 4 rfl  ?_
  refine J_icmp_ne (tgt := 89) dX1_demandNought_69 (by decide) (fun c_1 => ?_) (fun c_1 => ?_)
  · have h := h.1 c_1
    refine J_iconst (v := 0) dX1_demandNought_89 (by decide)  ?_
    refine J_sub (lv' := [(0, .ref (g.1 + 48)), (1, .ref (g.1 + p1)), (2, .ref (g.1 + 1)), (3, .int p3), (4, .int x4), (5, .int x5)]) [0, 1, 2, 3, 4, 5] rfl ?_
    exact l_X1_demandNought_90 p1 p3 _ _ _ hR3 hR15 hp1 _ _ _ _ _  h
  · have h := h.2 c_1
    refine J_iload dX1_demandNought_72 7 rfl  ?_
    refine J_aload_n dX1_demandNought_74 rfl 1 rfl  ?_
    refine J_iload dX1_demandNought_75 6 rfl  ?_
    obtain ⟨hi_2, h⟩ := h
    refine J_iald dX1_demandNought_77 hp1 hi_2  ?_
    refine J_imul dX1_demandNought_78  ?_
    refine J_aload_n dX1_demandNought_79 rfl 2 rfl  ?_
    refine J_geti (ci := 2) dX1_demandNought_80 1 rfl giX4 (by decide) (by decide) rfl rfl tb_1_38 rfl  ?_
    refine J_callS (As := [.int (t0 * (S.1 p1 (x6 : Int32).toNatClampNeg)), .int (S.1 1 1)]) (rest := [.int x5, .ref (g.1 + 205)]) (n := 2) dX1_demandNought_83 (c_X2_modulo (t0 * (S.1 p1 (x6 : Int32).toNatClampNeg)) (S.1 1 1)  _ _ h) tb_2_94 tb_3_148 tb_1_9 tb_2_93 (by decide) rfl (by decide) (by decide) (Nat.le_of_ble_eq_true rfl) rfl (fun v_r_4 S_3 hq => ?_)
    obtain ⟨r_4, rfl, h⟩ := hq
    dsimp only [Option.toList, List.cons_append, List.nil_append]
    refine J_goto (tgt := 90) dX1_demandNought_86 (by decide)  ?_
    refine J_sub (lv' := [(0, .ref (g.1 + 48)), (1, .ref (g.1 + p1)), (2, .ref (g.1 + 1)), (3, .int p3), (4, .int x4), (5, .int x5)]) [0, 1, 2, 3, 4, 5] rfl ?_
    exact l_X1_demandNought_90 p1 p3 _ _ _ hR3 hR15 hp1 _ _ _ _ _  h
def q_X1_demandNought_15 (p1 : Nat) (p3 : Int32) (R3 : Int32 → Sto → Prop) (Q : Sto → Prop) : Nat → Int32 → Int32 → Sto → Prop
  | 0, _, _, _ => False
  | n + 1, x4, x5, S => wp_X4_width  S (fun r_2 S_1 => ((r_2 ≤ x5 → wp_X5_admit 107 205 S_1 (fun r_5 S_4 => ∀ x4_6 : Int32, x4_6 = x4 + 1 → R3 x4_6 S_4)) ∧ (¬ r_2 ≤ x5 → ∀ x6_7 : Int32, x6_7 = x4 &&& (x5 ^^^ ((-1))) → ((¬ p3 = 0 → wp_X2_sign x6_7 x5 S_1 (fun r_10 S_9 => q_X1_demandNought_54 p1 p3 R3 (fun y4 y5 S => q_X1_demandNought_15 p1 p3 R3 Q n y4 y5 S) Q x4 x5 x6_7 r_10 S_9)) ∧ (p3 = 0 → wp_X2_sign x5 x6_7 S_1 (fun r_12 S_11 => q_X1_demandNought_54 p1 p3 R3 (fun y4 y5 S => q_X1_demandNought_15 p1 p3 R3 Q n y4 y5 S) Q x4 x5 x6_7 r_12 S_11))))))
set_option maxRecDepth 100000 in
set_option maxHeartbeats 4000000 in
theorem l_X1_demandNought_15 {g : Gv} (p1 : Nat) (p3 : Int32) (R3 : Int32 → Sto → Prop) (Q : Sto → Prop) (hR3 : ∀ (y4 : Int32) (S : Sto), R3 y4 S → RJ g cX1_demandNought RX1 none 8 4 3 [(0, .ref (g.1 + 48)), (1, .ref (g.1 + p1)), (2, .ref (g.1 + 1)), (3, .int p3), (4, .int y4)] [] S (Qv Q)) (hp1 : kd p1 = 0) (n : Nat) : ∀ (x4 : Int32) (x5 : Int32) (S : Sto)  (h : q_X1_demandNought_15 p1 p3 R3 Q n x4 x5 S), RJ g cX1_demandNought RX1 none 8 4 15 [(0, .ref (g.1 + 48)), (1, .ref (g.1 + p1)), (2, .ref (g.1 + 1)), (3, .int p3), (4, .int x4), (5, .int x5)] [] S (Qv Q) := by
  induction n with
  | zero => intro x4 x5 S  h; exact h.elim
  | succ n ih =>
    intro x4 x5 S  h
    unfold q_X1_demandNought_15 at h
    refine J_iload dX1_demandNought_15 5 rfl  ?_
    refine J_aload_n dX1_demandNought_17 rfl 2 rfl  ?_
    refine J_callV (h := 1) (ci := 2) (As := []) (rest := [.int x5]) (n := 0) dX1_demandNought_18 (c_X4_width   _ _ h) (by decide) rfl tb_2_91 tb_2_145 tb_1_2 tb_2_89 tb_2_90 (by decide) rfl (by decide) (by decide) (Nat.le_of_ble_eq_true rfl) rfl (fun v_r_2 S_1 hq => ?_)
    obtain ⟨r_2, rfl, h⟩ := hq
    dsimp only [Option.toList, List.cons_append, List.nil_append]
    refine J_icmp_ge (tgt := 97) dX1_demandNought_21 (by decide) (fun c_3 => ?_) (fun c_3 => ?_)
    · have h := h.1 c_3
      refine J_aload_n dX1_demandNought_97 rfl 0 rfl  ?_
      refine J_getr (r := 107) (ci := 0) dX1_demandNought_98 4 rfl giX1 (by decide) (by decide) rfl rfl tb_1_185 (by decide) (by decide)  ?_
      refine J_aload_n dX1_demandNought_101 rfl 0 rfl  ?_
      refine J_getr (r := 205) (ci := 0) dX1_demandNought_102 13 rfl giX1 (by decide) (by decide) rfl rfl tb_1_195 (by decide) (by decide)  ?_
      refine J_callV (h := 107) (ci := 3) (As := [.ref (g.1 + 205)]) (rest := []) (n := 1) dX1_demandNought_105 (c_X5_admit 107 205 (by decide) (by decide) _ _ h) (by decide) rfl tb_2_168 tb_2_165 tb_1_6 tb_2_166 tb_2_167 (by decide) rfl (by decide) (by decide) (Nat.le_of_ble_eq_true rfl) rfl (fun v_r_5 S_4 hq => ?_)
      obtain ⟨r_5, rfl, h⟩ := hq
      dsimp only [Option.toList, List.cons_append, List.nil_append]
      refine J_pop dX1_demandNought_108 rfl  ?_
      obtain ⟨x4_6, ex4_6⟩ : ∃ y : Int32, y = x4 + 1 := ⟨_, rfl⟩
      have h := h x4_6 ex4_6
      refine J_iinc (v := x4_6) (lv' := [(0, .ref (g.1 + 48)), (1, .ref (g.1 + p1)), (2, .ref (g.1 + 1)), (3, .int p3), (4, .int x4_6), (5, .int x5)]) dX1_demandNought_109 (q := 4) rfl (by rw [ex4_6]; rfl) (by decide) [1, 2, 3, 4, 0, 5] rfl  ?_
      refine J_goto (tgt := 3) dX1_demandNought_112 (by decide)  ?_
      refine J_sub (lv' := [(0, .ref (g.1 + 48)), (1, .ref (g.1 + p1)), (2, .ref (g.1 + 1)), (3, .int p3), (4, .int x4_6)]) [0, 1, 2, 3, 4] rfl ?_
      exact hR3 _ _  h
    · have h := h.2 c_3
      refine J_iload dX1_demandNought_24 4 rfl  ?_
      refine J_iload dX1_demandNought_26 5 rfl  ?_
      refine J_iconst (v := (-1)) dX1_demandNought_28 (by decide)  ?_
      refine J_ixor dX1_demandNought_29  ?_
      refine J_iand dX1_demandNought_30  ?_
      refine J_topi (fun x6_7 ex6_7 => ?_)
      have h := h x6_7 ex6_7
      refine J_istore (lv' := [(0, .ref (g.1 + 48)), (1, .ref (g.1 + p1)), (2, .ref (g.1 + 1)), (3, .int p3), (4, .int x4), (5, .int x5), (6, .int x6_7)]) dX1_demandNought_31 (by decide) [1, 2, 3, 4, 5, 6, 0] rfl  ?_
      refine J_iload_n dX1_demandNought_33 rfl 3 rfl  ?_
      refine J_if_ne (tgt := 47) dX1_demandNought_34 (by decide) (fun c_8 => ?_) (fun c_8 => ?_)
      · have h := h.1 c_8
        refine J_iload dX1_demandNought_47 6 rfl  ?_
        refine J_iload dX1_demandNought_49 5 rfl  ?_
        refine J_callS (As := [.int x6_7, .int x5]) (rest := []) (n := 2) dX1_demandNought_51 (c_X2_sign x6_7 x5  _ _ h) tb_2_108 tb_3_147 tb_1_9 tb_2_107 (by decide) rfl (by decide) (by decide) (Nat.le_of_ble_eq_true rfl) rfl (fun v_r_10 S_9 hq => ?_)
        obtain ⟨r_10, rfl, h⟩ := hq
        dsimp only [Option.toList, List.cons_append, List.nil_append]
        exact l_X1_demandNought_54 p1 p3 _ _ _ hR3 (fun y4 y5 S  h => ih y4 y5 S  h) hp1 _ _ _ _ _  h
      · have h := h.2 c_8
        refine J_iload dX1_demandNought_37 5 rfl  ?_
        refine J_iload dX1_demandNought_39 6 rfl  ?_
        refine J_callS (As := [.int x5, .int x6_7]) (rest := []) (n := 2) dX1_demandNought_41 (c_X2_sign x5 x6_7  _ _ h) tb_2_108 tb_3_147 tb_1_9 tb_2_107 (by decide) rfl (by decide) (by decide) (Nat.le_of_ble_eq_true rfl) rfl (fun v_r_12 S_11 hq => ?_)
        obtain ⟨r_12, rfl, h⟩ := hq
        dsimp only [Option.toList, List.cons_append, List.nil_append]
        refine J_goto (tgt := 54) dX1_demandNought_44 (by decide)  ?_
        exact l_X1_demandNought_54 p1 p3 _ _ _ hR3 (fun y4 y5 S  h => ih y4 y5 S  h) hp1 _ _ _ _ _  h
def q_X1_demandNought_3 (p1 : Nat) (p3 : Int32)  (Q : Sto → Prop) : Nat → Int32 → Sto → Prop
  | 0, _, _ => False
  | n + 1, x4, S => wp_X4_width  S (fun r_2 S_1 => ((r_2 ≤ x4 → Q S_1) ∧ (¬ r_2 ≤ x4 → (∃ n_15, q_X1_demandNought_15 p1 p3 (fun y4 S => q_X1_demandNought_3 p1 p3  Q n y4 S) Q n_15 x4 0 S_1))))
set_option maxRecDepth 100000 in
set_option maxHeartbeats 4000000 in
theorem l_X1_demandNought_3 {g : Gv} (p1 : Nat) (p3 : Int32)  (Q : Sto → Prop)  (hp1 : kd p1 = 0) (n : Nat) : ∀ (x4 : Int32) (S : Sto)  (h : q_X1_demandNought_3 p1 p3  Q n x4 S), RJ g cX1_demandNought RX1 none 8 4 3 [(0, .ref (g.1 + 48)), (1, .ref (g.1 + p1)), (2, .ref (g.1 + 1)), (3, .int p3), (4, .int x4)] [] S (Qv Q) := by
  induction n with
  | zero => intro x4 S  h; exact h.elim
  | succ n ih =>
    intro x4 S  h
    unfold q_X1_demandNought_3 at h
    refine J_iload dX1_demandNought_3 4 rfl  ?_
    refine J_aload_n dX1_demandNought_5 rfl 2 rfl  ?_
    refine J_callV (h := 1) (ci := 2) (As := []) (rest := [.int x4]) (n := 0) dX1_demandNought_6 (c_X4_width   _ _ h) (by decide) rfl tb_2_91 tb_2_145 tb_1_2 tb_2_89 tb_2_90 (by decide) rfl (by decide) (by decide) (Nat.le_of_ble_eq_true rfl) rfl (fun v_r_2 S_1 hq => ?_)
    obtain ⟨r_2, rfl, h⟩ := hq
    dsimp only [Option.toList, List.cons_append, List.nil_append]
    refine J_icmp_ge (tgt := 115) dX1_demandNought_9 (by decide) (fun c_3 => ?_) (fun c_3 => ?_)
    · have h := h.1 c_3
      exact J_vret dX1_demandNought_115 rfl ⟨rfl, h⟩
    · have h := h.2 c_3
      refine J_iconst (v := 0) dX1_demandNought_12 (by decide)  ?_
      refine J_istore (lv' := [(0, .ref (g.1 + 48)), (1, .ref (g.1 + p1)), (2, .ref (g.1 + 1)), (3, .int p3), (4, .int x4), (5, .int 0)]) dX1_demandNought_13 (by decide) [1, 2, 3, 4, 5, 0] rfl  ?_
      obtain ⟨n, h⟩ := h
      exact l_X1_demandNought_15 p1 p3 _ _ (fun y4 S  h => ih y4 S  h) hp1 n _ _ _  h
def wp_X1_demandNought (p1 : Nat) (p3 : Int32) (S : Sto) (Q : Sto → Prop) : Prop := (∃ n_3, q_X1_demandNought_3 p1 p3  Q n_3 0 S)
set_option maxRecDepth 100000 in
set_option maxHeartbeats 4000000 in
theorem c_X1_demandNought {g : Gv} (p1 : Nat) (p3 : Int32) (hp1 : kd p1 = 0) (S : Sto) (Q : Sto → Prop) (h : wp_X1_demandNought p1 p3 S Q) : CT g yX1_demandNought cX1_demandNought 8 none 4 [.ref (g.1 + 48), .ref (g.1 + p1), .ref (g.1 + 1), .int p3] S (Qv Q) := by
  unfold wp_X1_demandNought at h
  refine CT.of (by decide) (Nat.le_of_ble_eq_true rfl) ?_
  refine J_sub (lv' := [(0, .ref (g.1 + 48)), (1, .ref (g.1 + p1)), (2, .ref (g.1 + 1)), (3, .int p3)]) [0, 1, 2, 3] rfl ?_
  refine J_iconst (v := 0) dX1_demandNought_0 (by decide)  ?_
  refine J_istore (lv' := [(0, .ref (g.1 + 48)), (1, .ref (g.1 + p1)), (2, .ref (g.1 + 1)), (3, .int p3), (4, .int 0)]) dX1_demandNought_1 (by decide) [1, 2, 3, 4, 0] rfl  ?_
  obtain ⟨n, h⟩ := h
  exact l_X1_demandNought_3 p1 p3  _  hp1 n _ _  h
def q_X5_holds_26 (p0 : Nat) (p1 : Int32)  (Q : Int32 → Sto → Prop) (t0 : Int32) (S : Sto) : Prop := narrow .boolean (.int t0) = .int t0 ∧ Q t0 S
set_option maxRecDepth 100000 in
set_option maxHeartbeats 4000000 in
theorem l_X5_holds_26 {g : Gv} (p0 : Nat) (p1 : Int32)  (Q : Int32 → Sto → Prop)  (hp0 : kd p0 = 8) (t0 : Int32) (S : Sto)  (h : q_X5_holds_26 p0 p1  Q t0 S) : RJ g cX5_holds RX5 (some .boolean) 2 1 26 [(0, .ref (g.1 + p0)), (1, .int p1)] [.int t0] S (Qi Q) := by
  unfold q_X5_holds_26 at h
  obtain ⟨hb, h⟩ := h
  exact J_iret dX5_holds_26 rfl hb ⟨_, rfl, h⟩
def q_X5_holds_25 (p0 : Nat) (p1 : Int32)  (Q : Int32 → Sto → Prop)  (S : Sto) : Prop := q_X5_holds_26 p0 p1  Q 0 S
set_option maxRecDepth 100000 in
set_option maxHeartbeats 4000000 in
theorem l_X5_holds_25 {g : Gv} (p0 : Nat) (p1 : Int32)  (Q : Int32 → Sto → Prop)  (hp0 : kd p0 = 8)  (S : Sto)  (h : q_X5_holds_25 p0 p1  Q  S) : RJ g cX5_holds RX5 (some .boolean) 2 1 25 [(0, .ref (g.1 + p0)), (1, .int p1)] [] S (Qi Q) := by
  unfold q_X5_holds_25 at h
  refine J_iconst (v := 0) dX5_holds_25 (by decide)  ?_
  exact l_X5_holds_26 p0 p1  _  hp0 _ _  h
def wp_X5_holds (p0 : Nat) (p1 : Int32) (S : Sto) (Q : Int32 → Sto → Prop) : Prop := ((p1 < 0 → q_X5_holds_25 p0 p1  Q  S) ∧ (¬ p1 < 0 → (((S.1 p0 3) ≤ p1 → q_X5_holds_25 p0 p1  Q  S) ∧ (¬ (S.1 p0 3) ≤ p1 → vp_in p1 (ln (p0 + 2 + ln (p0 + 1))) ∧ (((S.1 (p0 + 2 + ln (p0 + 1)) (p1 : Int32).toNatClampNeg) = 0 → q_X5_holds_25 p0 p1  Q  S) ∧ (¬ (S.1 (p0 + 2 + ln (p0 + 1)) (p1 : Int32).toNatClampNeg) = 0 → q_X5_holds_26 p0 p1  Q 1 S))))))
set_option maxRecDepth 100000 in
set_option maxHeartbeats 4000000 in
theorem c_X5_holds {g : Gv} (p0 : Nat) (p1 : Int32) (hp0 : kd p0 = 8) (S : Sto) (Q : Int32 → Sto → Prop) (h : wp_X5_holds p0 p1 S Q) : CT g yX5_holds cX5_holds 2 (some .boolean) 1 [.ref (g.1 + p0), .int p1] S (Qi Q) := by
  unfold wp_X5_holds at h
  refine CT.of (by decide) (Nat.le_of_ble_eq_true rfl) ?_
  refine J_sub (lv' := [(0, .ref (g.1 + p0)), (1, .int p1)]) [0, 1] rfl ?_
  refine J_iload_n dX5_holds_0 rfl 1 rfl  ?_
  refine J_if_lt (tgt := 25) dX5_holds_1 (by decide) (fun c_1 => ?_) (fun c_1 => ?_)
  · have h := h.1 c_1
    exact l_X5_holds_25 p0 p1  _  hp0  _  h
  · have h := h.2 c_1
    refine J_iload_n dX5_holds_4 rfl 1 rfl  ?_
    refine J_aload_n dX5_holds_5 rfl 0 rfl  ?_
    refine J_geti (ci := 3) dX5_holds_6 3 rfl giX5 hp0 (by decide) rfl rfl tb_1_162 rfl  ?_
    refine J_icmp_ge (tgt := 25) dX5_holds_9 (by decide) (fun c_2 => ?_) (fun c_2 => ?_)
    · have h := h.1 c_2
      exact l_X5_holds_25 p0 p1  _  hp0  _  h
    · have h := h.2 c_2
      refine J_aload_n dX5_holds_12 rfl 0 rfl  ?_
      refine J_getr (r := p0 + 2 + ln (p0 + 1)) (ci := 3) dX5_holds_13 1 rfl giX5 hp0 (by decide) rfl rfl tb_1_158 (by decide) (sp_rf1 hp0)  ?_
      refine J_iload_n dX5_holds_16 rfl 1 rfl  ?_
      obtain ⟨hi_3, h⟩ := h
      refine J_zald dX5_holds_17 (sp_held hp0) hi_3  ?_
      refine J_if_eq (tgt := 25) dX5_holds_18 (by decide) (fun c_4 => ?_) (fun c_4 => ?_)
      · have h := h.1 c_4
        exact l_X5_holds_25 p0 p1  _  hp0  _  h
      · have h := h.2 c_4
        refine J_iconst (v := 1) dX5_holds_21 (by decide)  ?_
        refine J_goto (tgt := 26) dX5_holds_22 (by decide)  ?_
        exact l_X5_holds_26 p0 p1  _  hp0 _ _  h
def q_X5_solve_21 (p0 : Nat) (p1 : Int32) (p2 : Nat)  (Q : Int32 → Sto → Prop)  (S : Sto) : Prop := Q 0 S
set_option maxRecDepth 100000 in
set_option maxHeartbeats 4000000 in
theorem l_X5_solve_21 {g : Gv} (p0 : Nat) (p1 : Int32) (p2 : Nat)  (Q : Int32 → Sto → Prop)  (hp0 : kd p0 = 8) (hp2 : kd p2 = 0)  (S : Sto)  (h : q_X5_solve_21 p0 p1 p2  Q  S) : RJ g cX5_solve RX5 (some .boolean) 4 3 21 [(0, .ref (g.1 + p0)), (1, .int p1), (2, .ref (g.1 + p2))] [] S (Qi Q) := by
  unfold q_X5_solve_21 at h
  refine J_iconst (v := 0) dX5_solve_21 (by decide)  ?_
  exact J_iret dX5_solve_22 rfl rfl ⟨_, rfl, h⟩
def q_X5_solve_64 (p0 : Nat) (p1 : Int32) (p2 : Nat) (R25 : Int32 → Sto → Prop) (Q : Int32 → Sto → Prop) (x3 : Int32) (t1 : Int32) (t2 : Int32) (S : Sto) : Prop := vp_in t1 (ln p2) ∧ ∀ S_2 : Sto, S_2 = uA S p2 (t1 : Int32).toNatClampNeg t2 → ∀ x3_3 : Int32, x3_3 = x3 + 1 → R25 x3_3 S_2
set_option maxRecDepth 100000 in
set_option maxHeartbeats 4000000 in
theorem l_X5_solve_64 {g : Gv} (p0 : Nat) (p1 : Int32) (p2 : Nat) (R25 : Int32 → Sto → Prop) (Q : Int32 → Sto → Prop) (hR25 : ∀ (y3 : Int32) (S : Sto), R25 y3 S → RJ g cX5_solve RX5 (some .boolean) 4 3 25 [(0, .ref (g.1 + p0)), (1, .int p1), (2, .ref (g.1 + p2)), (3, .int y3)] [] S (Qi Q)) (hp0 : kd p0 = 8) (hp2 : kd p2 = 0) (x3 : Int32) (t1 : Int32) (t2 : Int32) (S : Sto)  (h : q_X5_solve_64 p0 p1 p2 R25 Q x3 t1 t2 S) : RJ g cX5_solve RX5 (some .boolean) 4 3 64 [(0, .ref (g.1 + p0)), (1, .int p1), (2, .ref (g.1 + p2)), (3, .int x3)] [.int t2, .int t1, .ref (g.1 + p2)] S (Qi Q) := by
  unfold q_X5_solve_64 at h
  obtain ⟨hi_1, h⟩ := h
  refine J_iast dX5_solve_64 hp2 hi_1  ?_
  refine J_nmS (fun S_2 eS_2 => ?_)
  have h := h S_2 eS_2
  obtain ⟨x3_3, ex3_3⟩ : ∃ y : Int32, y = x3 + 1 := ⟨_, rfl⟩
  have h := h x3_3 ex3_3
  refine J_iinc (v := x3_3) (lv' := [(0, .ref (g.1 + p0)), (1, .int p1), (2, .ref (g.1 + p2)), (3, .int x3_3)]) dX5_solve_65 (q := 3) rfl (by rw [ex3_3]; rfl) (by decide) [1, 2, 3, 0] rfl  ?_
  refine J_goto (tgt := 25) dX5_solve_68 (by decide)  ?_
  exact hR25 _ _  h
def q_X5_solve_25 (p0 : Nat) (p1 : Int32) (p2 : Nat)  (Q : Int32 → Sto → Prop) : Nat → Int32 → Sto → Prop
  | 0, _, _ => False
  | n + 1, x3, S => (((S.1 p0 3) ≤ x3 → vp_in p1 (ln p2) ∧ ∀ S_3 : Sto, S_3 = uA S p2 (p1 : Int32).toNatClampNeg 1 → Q 1 S_3) ∧ (¬ (S.1 p0 3) ≤ x3 → vp_in x3 (ln (p0 + 2 + ln (p0 + 1))) ∧ (((S.1 (p0 + 2 + ln (p0 + 1)) (x3 : Int32).toNatClampNeg) = 0 → q_X5_solve_64 p0 p1 p2 (fun y3 S => q_X5_solve_25 p0 p1 p2  Q n y3 S) Q x3 x3 0 S) ∧ (¬ (S.1 (p0 + 2 + ln (p0 + 1)) (x3 : Int32).toNatClampNeg) = 0 → vp_in x3 (ln (p0 + 1)) ∧ vp_in p1 (ln (p0 + 1 + 1 + (x3 : Int32).toNatClampNeg)) ∧ wp_X2_modulo (-(S.1 (p0 + 1 + 1 + (x3 : Int32).toNatClampNeg) (p1 : Int32).toNatClampNeg)) (S.1 p0 4) S (fun r_9 S_8 => q_X5_solve_64 p0 p1 p2 (fun y3 S => q_X5_solve_25 p0 p1 p2  Q n y3 S) Q x3 x3 r_9 S_8)))))
set_option maxRecDepth 100000 in
set_option maxHeartbeats 4000000 in
theorem l_X5_solve_25 {g : Gv} (p0 : Nat) (p1 : Int32) (p2 : Nat)  (Q : Int32 → Sto → Prop)  (hp0 : kd p0 = 8) (hp2 : kd p2 = 0) (n : Nat) : ∀ (x3 : Int32) (S : Sto)  (h : q_X5_solve_25 p0 p1 p2  Q n x3 S), RJ g cX5_solve RX5 (some .boolean) 4 3 25 [(0, .ref (g.1 + p0)), (1, .int p1), (2, .ref (g.1 + p2)), (3, .int x3)] [] S (Qi Q) := by
  induction n with
  | zero => intro x3 S  h; exact h.elim
  | succ n ih =>
    intro x3 S  h
    unfold q_X5_solve_25 at h
    refine J_iload_n dX5_solve_25 rfl 3 rfl  ?_
    refine J_aload_n dX5_solve_26 rfl 0 rfl  ?_
    refine J_geti (ci := 3) dX5_solve_27 3 rfl giX5 hp0 (by decide) rfl rfl tb_1_162 rfl  ?_
    refine J_icmp_ge (tgt := 71) dX5_solve_30 (by decide) (fun c_1 => ?_) (fun c_1 => ?_)
    · have h := h.1 c_1
      refine J_aload_n dX5_solve_71 rfl 2 rfl  ?_
      refine J_iload_n dX5_solve_72 rfl 1 rfl  ?_
      refine J_iconst (v := 1) dX5_solve_73 (by decide)  ?_
      obtain ⟨hi_2, h⟩ := h
      refine J_iast dX5_solve_74 hp2 hi_2  ?_
      refine J_nmS (fun S_3 eS_3 => ?_)
      have h := h S_3 eS_3
      refine J_iconst (v := 1) dX5_solve_75 (by decide)  ?_
      exact J_iret dX5_solve_76 rfl rfl ⟨_, rfl, h⟩
    · have h := h.2 c_1
      refine J_aload_n dX5_solve_33 rfl 2 rfl  ?_
      refine J_iload_n dX5_solve_34 rfl 3 rfl  ?_
      refine J_aload_n dX5_solve_35 rfl 0 rfl  ?_
      refine J_getr (r := p0 + 2 + ln (p0 + 1)) (ci := 3) dX5_solve_36 1 rfl giX5 hp0 (by decide) rfl rfl tb_1_158 (by decide) (sp_rf1 hp0)  ?_
      refine J_iload_n dX5_solve_39 rfl 3 rfl  ?_
      obtain ⟨hi_4, h⟩ := h
      refine J_zald dX5_solve_40 (sp_held hp0) hi_4  ?_
      refine J_if_eq (tgt := 63) dX5_solve_41 (by decide) (fun c_5 => ?_) (fun c_5 => ?_)
      · have h := h.1 c_5
        refine J_iconst (v := 0) dX5_solve_63 (by decide)  ?_
        exact l_X5_solve_64 p0 p1 p2 _ _ (fun y3 S  h => ih y3 S  h) hp0 hp2 _ _ _ _  h
      · have h := h.2 c_5
        refine J_aload_n dX5_solve_44 rfl 0 rfl  ?_
        refine J_getr (r := p0 + 1) (ci := 3) dX5_solve_45 0 rfl giX5 hp0 (by decide) rfl rfl tb_1_154 (by decide) (sp_rf0 hp0)  ?_
        refine J_iload_n dX5_solve_48 rfl 3 rfl  ?_
        obtain ⟨hi_6, h⟩ := h
        refine J_aald3 dX5_solve_49 (sp_rows hp0) hi_6  ?_
        refine J_iload_n dX5_solve_50 rfl 1 rfl  ?_
        obtain ⟨hi_7, h⟩ := h
        refine J_iald dX5_solve_51 (kd_row3 (sp_rows hp0) hi_6) hi_7  ?_
        refine J_ineg dX5_solve_52  ?_
        refine J_aload_n dX5_solve_53 rfl 0 rfl  ?_
        refine J_geti (ci := 3) dX5_solve_54 4 rfl giX5 hp0 (by decide) rfl rfl tb_1_164 rfl  ?_
        refine J_callS (As := [.int (-(S.1 (p0 + 1 + 1 + (x3 : Int32).toNatClampNeg) (p1 : Int32).toNatClampNeg)), .int (S.1 p0 4)]) (rest := [.int x3, .ref (g.1 + p2)]) (n := 2) dX5_solve_57 (c_X2_modulo (-(S.1 (p0 + 1 + 1 + (x3 : Int32).toNatClampNeg) (p1 : Int32).toNatClampNeg)) (S.1 p0 4)  _ _ h) tb_2_94 tb_2_188 tb_1_9 tb_2_93 (by decide) rfl (by decide) (by decide) (Nat.le_of_ble_eq_true rfl) rfl (fun v_r_9 S_8 hq => ?_)
        obtain ⟨r_9, rfl, h⟩ := hq
        dsimp only [Option.toList, List.cons_append, List.nil_append]
        refine J_goto (tgt := 64) dX5_solve_60 (by decide)  ?_
        exact l_X5_solve_64 p0 p1 p2 _ _ (fun y3 S  h => ih y3 S  h) hp0 hp2 _ _ _ _  h
def wp_X5_solve (p0 : Nat) (p1 : Int32) (p2 : Nat) (S : Sto) (Q : Int32 → Sto → Prop) : Prop := ((p1 < 0 → q_X5_solve_21 p0 p1 p2  Q  S) ∧ (¬ p1 < 0 → (((S.1 p0 3) ≤ p1 → q_X5_solve_21 p0 p1 p2  Q  S) ∧ (¬ (S.1 p0 3) ≤ p1 → vp_in p1 (ln (p0 + 2 + ln (p0 + 1))) ∧ (((S.1 (p0 + 2 + ln (p0 + 1)) (p1 : Int32).toNatClampNeg) = 0 → (∃ n_25, q_X5_solve_25 p0 p1 p2  Q n_25 0 S)) ∧ (¬ (S.1 (p0 + 2 + ln (p0 + 1)) (p1 : Int32).toNatClampNeg) = 0 → q_X5_solve_21 p0 p1 p2  Q  S))))))
set_option maxRecDepth 100000 in
set_option maxHeartbeats 4000000 in
theorem c_X5_solve {g : Gv} (p0 : Nat) (p1 : Int32) (p2 : Nat) (hp0 : kd p0 = 8) (hp2 : kd p2 = 0) (S : Sto) (Q : Int32 → Sto → Prop) (h : wp_X5_solve p0 p1 p2 S Q) : CT g yX5_solve cX5_solve 4 (some .boolean) 3 [.ref (g.1 + p0), .int p1, .ref (g.1 + p2)] S (Qi Q) := by
  unfold wp_X5_solve at h
  refine CT.of (by decide) (Nat.le_of_ble_eq_true rfl) ?_
  refine J_sub (lv' := [(0, .ref (g.1 + p0)), (1, .int p1), (2, .ref (g.1 + p2))]) [0, 1, 2] rfl ?_
  refine J_iload_n dX5_solve_0 rfl 1 rfl  ?_
  refine J_if_lt (tgt := 21) dX5_solve_1 (by decide) (fun c_1 => ?_) (fun c_1 => ?_)
  · have h := h.1 c_1
    exact l_X5_solve_21 p0 p1 p2  _  hp0 hp2  _  h
  · have h := h.2 c_1
    refine J_iload_n dX5_solve_4 rfl 1 rfl  ?_
    refine J_aload_n dX5_solve_5 rfl 0 rfl  ?_
    refine J_geti (ci := 3) dX5_solve_6 3 rfl giX5 hp0 (by decide) rfl rfl tb_1_162 rfl  ?_
    refine J_icmp_ge (tgt := 21) dX5_solve_9 (by decide) (fun c_2 => ?_) (fun c_2 => ?_)
    · have h := h.1 c_2
      exact l_X5_solve_21 p0 p1 p2  _  hp0 hp2  _  h
    · have h := h.2 c_2
      refine J_aload_n dX5_solve_12 rfl 0 rfl  ?_
      refine J_getr (r := p0 + 2 + ln (p0 + 1)) (ci := 3) dX5_solve_13 1 rfl giX5 hp0 (by decide) rfl rfl tb_1_158 (by decide) (sp_rf1 hp0)  ?_
      refine J_iload_n dX5_solve_16 rfl 1 rfl  ?_
      obtain ⟨hi_3, h⟩ := h
      refine J_zald dX5_solve_17 (sp_held hp0) hi_3  ?_
      refine J_if_eq (tgt := 23) dX5_solve_18 (by decide) (fun c_4 => ?_) (fun c_4 => ?_)
      · have h := h.1 c_4
        refine J_iconst (v := 0) dX5_solve_23 (by decide)  ?_
        refine J_istore_n (lv' := [(0, .ref (g.1 + p0)), (1, .int p1), (2, .ref (g.1 + p2)), (3, .int 0)]) dX5_solve_24 rfl (by decide) [1, 2, 3, 0] rfl  ?_
        obtain ⟨n, h⟩ := h
        exact l_X5_solve_25 p0 p1 p2  _  hp0 hp2 n _ _  h
      · have h := h.2 c_4
        exact l_X5_solve_21 p0 p1 p2  _  hp0 hp2  _  h
def q_X1_annihilate_111 (p1 : Nat) (p3 : Int32) (p4 : Nat) (R76 : Int32 → Sto → Prop) (Q : Sto → Prop) (x5 : Int32) (S : Sto) : Prop := ∀ x5_1 : Int32, x5_1 = x5 + 1 → R76 x5_1 S
set_option maxRecDepth 100000 in
set_option maxHeartbeats 4000000 in
theorem l_X1_annihilate_111 {g : Gv} (p1 : Nat) (p3 : Int32) (p4 : Nat) (R76 : Int32 → Sto → Prop) (Q : Sto → Prop) (hR76 : ∀ (y5 : Int32) (S : Sto), R76 y5 S → RJ g cX1_annihilate RX1 none 6 5 76 [(0, .ref (g.1 + 48)), (1, .ref (g.1 + p1)), (2, .ref (g.1 + 1)), (3, .int p3), (4, .ref (g.1 + p4)), (5, .int y5)] [] S (Qv Q)) (hp1 : kd p1 = 8) (hp4 : kd p4 = 8) (x5 : Int32) (S : Sto)  (h : q_X1_annihilate_111 p1 p3 p4 R76 Q x5 S) : RJ g cX1_annihilate RX1 none 6 5 111 [(0, .ref (g.1 + 48)), (1, .ref (g.1 + p1)), (2, .ref (g.1 + 1)), (3, .int p3), (4, .ref (g.1 + p4)), (5, .int x5)] [] S (Qv Q) := by
  unfold q_X1_annihilate_111 at h
  obtain ⟨x5_1, ex5_1⟩ : ∃ y : Int32, y = x5 + 1 := ⟨_, rfl⟩
  have h := h x5_1 ex5_1
  refine J_iinc (v := x5_1) (lv' := [(0, .ref (g.1 + 48)), (1, .ref (g.1 + p1)), (2, .ref (g.1 + 1)), (3, .int p3), (4, .ref (g.1 + p4)), (5, .int x5_1)]) dX1_annihilate_111 (q := 5) rfl (by rw [ex5_1]; rfl) (by decide) [1, 2, 3, 4, 5, 0] rfl  ?_
  refine J_goto (tgt := 76) dX1_annihilate_114 (by decide)  ?_
  exact hR76 _ _  h
def q_X1_annihilate_76 (p1 : Nat) (p3 : Int32) (p4 : Nat)  (Q : Sto → Prop) : Nat → Int32 → Sto → Prop
  | 0, _, _ => False
  | n + 1, x5, S => wp_X4_width  S (fun r_2 S_1 => ((r_2 ≤ x5 → Q S_1) ∧ (¬ r_2 ≤ x5 → wp_X5_solve 107 x5 205 S_1 (fun r_5 S_4 => ((r_5 = 0 → q_X1_annihilate_111 p1 p3 p4 (fun y5 S => q_X1_annihilate_76 p1 p3 p4  Q n y5 S) Q x5 S_4) ∧ (¬ r_5 = 0 → wp_X5_admit p4 205 S_4 (fun r_8 S_7 => q_X1_annihilate_111 p1 p3 p4 (fun y5 S => q_X1_annihilate_76 p1 p3 p4  Q n y5 S) Q x5 S_7)))))))
set_option maxRecDepth 100000 in
set_option maxHeartbeats 4000000 in
theorem l_X1_annihilate_76 {g : Gv} (p1 : Nat) (p3 : Int32) (p4 : Nat)  (Q : Sto → Prop)  (hp1 : kd p1 = 8) (hp4 : kd p4 = 8) (n : Nat) : ∀ (x5 : Int32) (S : Sto)  (h : q_X1_annihilate_76 p1 p3 p4  Q n x5 S), RJ g cX1_annihilate RX1 none 6 5 76 [(0, .ref (g.1 + 48)), (1, .ref (g.1 + p1)), (2, .ref (g.1 + 1)), (3, .int p3), (4, .ref (g.1 + p4)), (5, .int x5)] [] S (Qv Q) := by
  induction n with
  | zero => intro x5 S  h; exact h.elim
  | succ n ih =>
    intro x5 S  h
    unfold q_X1_annihilate_76 at h
    refine J_iload dX1_annihilate_76 5 rfl  ?_
    refine J_aload_n dX1_annihilate_78 rfl 2 rfl  ?_
    refine J_callV (h := 1) (ci := 2) (As := []) (rest := [.int x5]) (n := 0) dX1_annihilate_79 (c_X4_width   _ _ h) (by decide) rfl tb_2_91 tb_2_145 tb_1_2 tb_2_89 tb_2_90 (by decide) rfl (by decide) (by decide) (Nat.le_of_ble_eq_true rfl) rfl (fun v_r_2 S_1 hq => ?_)
    obtain ⟨r_2, rfl, h⟩ := hq
    dsimp only [Option.toList, List.cons_append, List.nil_append]
    refine J_icmp_ge (tgt := 117) dX1_annihilate_82 (by decide) (fun c_3 => ?_) (fun c_3 => ?_)
    · have h := h.1 c_3
      exact J_vret dX1_annihilate_117 rfl ⟨rfl, h⟩
    · have h := h.2 c_3
      refine J_aload_n dX1_annihilate_85 rfl 0 rfl  ?_
      refine J_getr (r := 107) (ci := 0) dX1_annihilate_86 4 rfl giX1 (by decide) (by decide) rfl rfl tb_1_185 (by decide) (by decide)  ?_
      refine J_iload dX1_annihilate_89 5 rfl  ?_
      refine J_aload_n dX1_annihilate_91 rfl 0 rfl  ?_
      refine J_getr (r := 205) (ci := 0) dX1_annihilate_92 13 rfl giX1 (by decide) (by decide) rfl rfl tb_1_195 (by decide) (by decide)  ?_
      refine J_callV (h := 107) (ci := 3) (As := [.int x5, .ref (g.1 + 205)]) (rest := []) (n := 2) dX1_annihilate_95 (c_X5_solve 107 x5 205 (by decide) (by decide) _ _ h) (by decide) rfl tb_3_152 tb_3_149 tb_1_6 tb_3_150 tb_3_151 (by decide) rfl (by decide) (by decide) (Nat.le_of_ble_eq_true rfl) rfl (fun v_r_5 S_4 hq => ?_)
      obtain ⟨r_5, rfl, h⟩ := hq
      dsimp only [Option.toList, List.cons_append, List.nil_append]
      refine J_if_eq (tgt := 111) dX1_annihilate_98 (by decide) (fun c_6 => ?_) (fun c_6 => ?_)
      · have h := h.1 c_6
        exact l_X1_annihilate_111 p1 p3 p4 _ _ (fun y5 S  h => ih y5 S  h) hp1 hp4 _ _  h
      · have h := h.2 c_6
        refine J_aload dX1_annihilate_101 4 rfl  ?_
        refine J_aload_n dX1_annihilate_103 rfl 0 rfl  ?_
        refine J_getr (r := 205) (ci := 0) dX1_annihilate_104 13 rfl giX1 (by decide) (by decide) rfl rfl tb_1_195 (by decide) (by decide)  ?_
        refine J_callV (h := p4) (ci := 3) (As := [.ref (g.1 + 205)]) (rest := []) (n := 1) dX1_annihilate_107 (c_X5_admit p4 205 hp4 (by decide) _ _ h) hp4 rfl tb_2_168 tb_2_165 tb_1_6 tb_2_166 tb_2_167 (by decide) rfl (by decide) (by decide) (Nat.le_of_ble_eq_true rfl) rfl (fun v_r_8 S_7 hq => ?_)
        obtain ⟨r_8, rfl, h⟩ := hq
        dsimp only [Option.toList, List.cons_append, List.nil_append]
        refine J_pop dX1_annihilate_110 rfl  ?_
        exact l_X1_annihilate_111 p1 p3 p4 _ _ (fun y5 S  h => ih y5 S  h) hp1 hp4 _ _  h
def q_X1_annihilate_50 (p1 : Nat) (p3 : Int32) (p4 : Nat) (R19 : Int32 → Sto → Prop) (Q : Sto → Prop) (x5 : Int32) (S : Sto) : Prop := ∀ x5_1 : Int32, x5_1 = x5 + 1 → R19 x5_1 S
set_option maxRecDepth 100000 in
set_option maxHeartbeats 4000000 in
theorem l_X1_annihilate_50 {g : Gv} (p1 : Nat) (p3 : Int32) (p4 : Nat) (R19 : Int32 → Sto → Prop) (Q : Sto → Prop) (hR19 : ∀ (y5 : Int32) (S : Sto), R19 y5 S → RJ g cX1_annihilate RX1 none 6 5 19 [(0, .ref (g.1 + 48)), (1, .ref (g.1 + p1)), (2, .ref (g.1 + 1)), (3, .int p3), (4, .ref (g.1 + p4)), (5, .int y5)] [] S (Qv Q)) (hp1 : kd p1 = 8) (hp4 : kd p4 = 8) (x5 : Int32) (S : Sto)  (h : q_X1_annihilate_50 p1 p3 p4 R19 Q x5 S) : RJ g cX1_annihilate RX1 none 6 5 50 [(0, .ref (g.1 + 48)), (1, .ref (g.1 + p1)), (2, .ref (g.1 + 1)), (3, .int p3), (4, .ref (g.1 + p4)), (5, .int x5)] [] S (Qv Q) := by
  unfold q_X1_annihilate_50 at h
  obtain ⟨x5_1, ex5_1⟩ : ∃ y : Int32, y = x5 + 1 := ⟨_, rfl⟩
  have h := h x5_1 ex5_1
  refine J_iinc (v := x5_1) (lv' := [(0, .ref (g.1 + 48)), (1, .ref (g.1 + p1)), (2, .ref (g.1 + 1)), (3, .int p3), (4, .ref (g.1 + p4)), (5, .int x5_1)]) dX1_annihilate_50 (q := 5) rfl (by rw [ex5_1]; rfl) (by decide) [1, 2, 3, 4, 5, 0] rfl  ?_
  refine J_goto (tgt := 19) dX1_annihilate_53 (by decide)  ?_
  exact hR19 _ _  h
def q_X1_annihilate_19 (p1 : Nat) (p3 : Int32) (p4 : Nat)  (Q : Sto → Prop) : Nat → Int32 → Sto → Prop
  | 0, _, _ => False
  | n + 1, x5, S => wp_X4_width  S (fun r_2 S_1 => ((r_2 ≤ x5 → wp_X4_width  S_1 (fun r_5 S_4 => wp_X5_begin p4 r_5 (S_4.1 1 1) (S_4.1 1 2) S_4 (fun S_6 => (∃ n_76, q_X1_annihilate_76 p1 p3 p4  Q n_76 0 S_6)))) ∧ (¬ r_2 ≤ x5 → wp_X5_holds p1 x5 S_1 (fun r_9 S_8 => ((r_9 = 0 → q_X1_annihilate_50 p1 p3 p4 (fun y5 S => q_X1_annihilate_19 p1 p3 p4  Q n y5 S) Q x5 S_8) ∧ (¬ r_9 = 0 → vp_in x5 (ln (p1 + 1)) ∧ wp_X1_demandNought (p1 + 1 + 1 + (x5 : Int32).toNatClampNeg) p3 S_8 (fun S_12 => q_X1_annihilate_50 p1 p3 p4 (fun y5 S => q_X1_annihilate_19 p1 p3 p4  Q n y5 S) Q x5 S_12)))))))
set_option maxRecDepth 100000 in
set_option maxHeartbeats 4000000 in
theorem l_X1_annihilate_19 {g : Gv} (p1 : Nat) (p3 : Int32) (p4 : Nat)  (Q : Sto → Prop)  (hp1 : kd p1 = 8) (hp4 : kd p4 = 8) (n : Nat) : ∀ (x5 : Int32) (S : Sto)  (h : q_X1_annihilate_19 p1 p3 p4  Q n x5 S), RJ g cX1_annihilate RX1 none 6 5 19 [(0, .ref (g.1 + 48)), (1, .ref (g.1 + p1)), (2, .ref (g.1 + 1)), (3, .int p3), (4, .ref (g.1 + p4)), (5, .int x5)] [] S (Qv Q) := by
  induction n with
  | zero => intro x5 S  h; exact h.elim
  | succ n ih =>
    intro x5 S  h
    unfold q_X1_annihilate_19 at h
    refine J_iload dX1_annihilate_19 5 rfl  ?_
    refine J_aload_n dX1_annihilate_21 rfl 2 rfl  ?_
    refine J_callV (h := 1) (ci := 2) (As := []) (rest := [.int x5]) (n := 0) dX1_annihilate_22 (c_X4_width   _ _ h) (by decide) rfl tb_2_91 tb_2_145 tb_1_2 tb_2_89 tb_2_90 (by decide) rfl (by decide) (by decide) (Nat.le_of_ble_eq_true rfl) rfl (fun v_r_2 S_1 hq => ?_)
    obtain ⟨r_2, rfl, h⟩ := hq
    dsimp only [Option.toList, List.cons_append, List.nil_append]
    refine J_icmp_ge (tgt := 56) dX1_annihilate_25 (by decide) (fun c_3 => ?_) (fun c_3 => ?_)
    · have h := h.1 c_3
      refine J_aload dX1_annihilate_56 4 rfl  ?_
      refine J_aload_n dX1_annihilate_58 rfl 2 rfl  ?_
      refine J_callV (h := 1) (ci := 2) (As := []) (rest := [.ref (g.1 + p4)]) (n := 0) dX1_annihilate_59 (c_X4_width   _ _ h) (by decide) rfl tb_2_91 tb_2_145 tb_1_2 tb_2_89 tb_2_90 (by decide) rfl (by decide) (by decide) (Nat.le_of_ble_eq_true rfl) rfl (fun v_r_5 S_4 hq => ?_)
      obtain ⟨r_5, rfl, h⟩ := hq
      dsimp only [Option.toList, List.cons_append, List.nil_append]
      refine J_aload_n dX1_annihilate_62 rfl 2 rfl  ?_
      refine J_geti (ci := 2) dX1_annihilate_63 1 rfl giX4 (by decide) (by decide) rfl rfl tb_1_38 rfl  ?_
      refine J_aload_n dX1_annihilate_66 rfl 2 rfl  ?_
      refine J_geti (ci := 2) dX1_annihilate_67 2 rfl giX4 (by decide) (by decide) rfl rfl tb_1_43 rfl  ?_
      refine J_callV (h := p4) (ci := 3) (As := [.int r_5, .int (S_4.1 1 1), .int (S_4.1 1 2)]) (rest := []) (n := 3) dX1_annihilate_70 (c_X5_begin p4 r_5 (S_4.1 1 1) (S_4.1 1 2) hp4 _ _ h) hp4 rfl tb_2_149 tb_2_146 tb_1_6 tb_2_147 tb_2_148 (by decide) rfl (by decide) (by decide) (Nat.le_of_ble_eq_true rfl) rfl (fun v_r_7 S_6 hq => ?_)
      obtain ⟨rfl, h⟩ := hq
      dsimp only [Option.toList, List.cons_append, List.nil_append]
      refine J_iconst (v := 0) dX1_annihilate_73 (by decide)  ?_
      refine J_istore (lv' := [(0, .ref (g.1 + 48)), (1, .ref (g.1 + p1)), (2, .ref (g.1 + 1)), (3, .int p3), (4, .ref (g.1 + p4)), (5, .int 0)]) dX1_annihilate_74 (by decide) [1, 2, 3, 4, 5, 0] rfl  ?_
      obtain ⟨n, h⟩ := h
      exact l_X1_annihilate_76 p1 p3 p4  _  hp1 hp4 n _ _  h
    · have h := h.2 c_3
      refine J_aload_n dX1_annihilate_28 rfl 1 rfl  ?_
      refine J_iload dX1_annihilate_29 5 rfl  ?_
      refine J_callV (h := p1) (ci := 3) (As := [.int x5]) (rest := []) (n := 1) dX1_annihilate_31 (c_X5_holds p1 x5 hp1 _ _ h) hp1 rfl tb_3_85 tb_3_142 tb_1_6 tb_3_83 tb_3_84 (by decide) rfl (by decide) (by decide) (Nat.le_of_ble_eq_true rfl) rfl (fun v_r_9 S_8 hq => ?_)
      obtain ⟨r_9, rfl, h⟩ := hq
      dsimp only [Option.toList, List.cons_append, List.nil_append]
      refine J_if_eq (tgt := 50) dX1_annihilate_34 (by decide) (fun c_10 => ?_) (fun c_10 => ?_)
      · have h := h.1 c_10
        exact l_X1_annihilate_50 p1 p3 p4 _ _ (fun y5 S  h => ih y5 S  h) hp1 hp4 _ _  h
      · have h := h.2 c_10
        refine J_aload_n dX1_annihilate_37 rfl 0 rfl  ?_
        refine J_aload_n dX1_annihilate_38 rfl 1 rfl  ?_
        refine J_getr (r := p1 + 1) (ci := 3) dX1_annihilate_39 0 rfl giX5 hp1 (by decide) rfl rfl tb_1_156 (by decide) (sp_rf0 hp1)  ?_
        refine J_iload dX1_annihilate_42 5 rfl  ?_
        obtain ⟨hi_11, h⟩ := h
        refine J_aald3 dX1_annihilate_44 (sp_rows hp1) hi_11  ?_
        refine J_aload_n dX1_annihilate_45 rfl 2 rfl  ?_
        refine J_iload_n dX1_annihilate_46 rfl 3 rfl  ?_
        refine J_callV (h := 48) (ci := 0) (As := [.ref (g.1 + (p1 + 1 + 1 + (x5 : Int32).toNatClampNeg)), .ref (g.1 + 1), .int p3]) (rest := []) (n := 3) dX1_annihilate_47 (c_X1_demandNought (p1 + 1 + 1 + (x5 : Int32).toNatClampNeg) p3 (kd_row3 (sp_rows hp1) hi_11) _ _ h) (by decide) rfl tb_3_146 tb_3_143 tb_1_5 tb_3_145 sl_16 (by decide) rfl (by decide) (by decide) (Nat.le_of_ble_eq_true rfl) rfl (fun v_r_13 S_12 hq => ?_)
        obtain ⟨rfl, h⟩ := hq
        dsimp only [Option.toList, List.cons_append, List.nil_append]
        exact l_X1_annihilate_50 p1 p3 p4 _ _ (fun y5 S  h => ih y5 S  h) hp1 hp4 _ _  h
def wp_X1_annihilate (p1 : Nat) (p3 : Int32) (p4 : Nat) (S : Sto) (Q : Sto → Prop) : Prop := wp_X4_width  S (fun r_2 S_1 => wp_X5_begin 107 r_2 (S_1.1 1 1) 0 S_1 (fun S_3 => (∃ n_19, q_X1_annihilate_19 p1 p3 p4  Q n_19 0 S_3)))
set_option maxRecDepth 100000 in
set_option maxHeartbeats 4000000 in
theorem c_X1_annihilate {g : Gv} (p1 : Nat) (p3 : Int32) (p4 : Nat) (hp1 : kd p1 = 8) (hp4 : kd p4 = 8) (S : Sto) (Q : Sto → Prop) (h : wp_X1_annihilate p1 p3 p4 S Q) : CT g yX1_annihilate cX1_annihilate 6 none 5 [.ref (g.1 + 48), .ref (g.1 + p1), .ref (g.1 + 1), .int p3, .ref (g.1 + p4)] S (Qv Q) := by
  unfold wp_X1_annihilate at h
  refine CT.of (by decide) (Nat.le_of_ble_eq_true rfl) ?_
  refine J_sub (lv' := [(0, .ref (g.1 + 48)), (1, .ref (g.1 + p1)), (2, .ref (g.1 + 1)), (3, .int p3), (4, .ref (g.1 + p4))]) [0, 1, 2, 3, 4] rfl ?_
  refine J_aload_n dX1_annihilate_0 rfl 0 rfl  ?_
  refine J_getr (r := 107) (ci := 0) dX1_annihilate_1 4 rfl giX1 (by decide) (by decide) rfl rfl tb_1_185 (by decide) (by decide)  ?_
  refine J_aload_n dX1_annihilate_4 rfl 2 rfl  ?_
  refine J_callV (h := 1) (ci := 2) (As := []) (rest := [.ref (g.1 + 107)]) (n := 0) dX1_annihilate_5 (c_X4_width   _ _ h) (by decide) rfl tb_2_91 tb_2_145 tb_1_2 tb_2_89 tb_2_90 (by decide) rfl (by decide) (by decide) (Nat.le_of_ble_eq_true rfl) rfl (fun v_r_2 S_1 hq => ?_)
  obtain ⟨r_2, rfl, h⟩ := hq
  dsimp only [Option.toList, List.cons_append, List.nil_append]
  refine J_aload_n dX1_annihilate_8 rfl 2 rfl  ?_
  refine J_geti (ci := 2) dX1_annihilate_9 1 rfl giX4 (by decide) (by decide) rfl rfl tb_1_38 rfl  ?_
  refine J_iconst (v := 0) dX1_annihilate_12 (by decide)  ?_
  refine J_callV (h := 107) (ci := 3) (As := [.int r_2, .int (S_1.1 1 1), .int 0]) (rest := []) (n := 3) dX1_annihilate_13 (c_X5_begin 107 r_2 (S_1.1 1 1) 0 (by decide) _ _ h) (by decide) rfl tb_2_149 tb_2_146 tb_1_6 tb_2_147 tb_2_148 (by decide) rfl (by decide) (by decide) (Nat.le_of_ble_eq_true rfl) rfl (fun v_r_4 S_3 hq => ?_)
  obtain ⟨rfl, h⟩ := hq
  dsimp only [Option.toList, List.cons_append, List.nil_append]
  refine J_iconst (v := 0) dX1_annihilate_16 (by decide)  ?_
  refine J_istore (lv' := [(0, .ref (g.1 + 48)), (1, .ref (g.1 + p1)), (2, .ref (g.1 + 1)), (3, .int p3), (4, .ref (g.1 + p4)), (5, .int 0)]) dX1_annihilate_17 (by decide) [1, 2, 3, 4, 5, 0] rfl  ?_
  obtain ⟨n, h⟩ := h
  exact l_X1_annihilate_19 p1 p3 p4  _  hp1 hp4 n _ _  h
def wp_X1_annihilatorOf (p2 : Int32) (p3 : Int32) (S : Sto) (Q : Nat → Sto → Prop) : Prop := wp_X1_ofSide p2 S (fun r_2 S_1 => kd r_2 = 8 → wp_X1_annihilate r_2 p3 126 S_1 (fun S_4 => Q 126 S_4))
set_option maxRecDepth 100000 in
set_option maxHeartbeats 4000000 in
theorem c_X1_annihilatorOf {g : Gv} (p2 : Int32) (p3 : Int32)  (S : Sto) (Q : Nat → Sto → Prop) (h : wp_X1_annihilatorOf p2 p3 S Q) : CT g yX1_annihilatorOf cX1_annihilatorOf 4 (some (.object "OuterIdeals$Span")) 7 [.ref (g.1 + 48), .ref (g.1 + 1), .int p2, .int p3] S (Qr g 8 Q) := by
  unfold wp_X1_annihilatorOf at h
  refine CT.of (by decide) (Nat.le_of_ble_eq_true rfl) ?_
  refine J_sub (lv' := [(0, .ref (g.1 + 48)), (1, .ref (g.1 + 1)), (2, .int p2), (3, .int p3)]) [0, 1, 2, 3] rfl ?_
  refine J_aload_n dX1_annihilatorOf_0 rfl 0 rfl  ?_
  refine J_aload_n dX1_annihilatorOf_1 rfl 0 rfl  ?_
  refine J_aload_n dX1_annihilatorOf_2 rfl 1 rfl  ?_
  refine J_iload_n dX1_annihilatorOf_3 rfl 2 rfl  ?_
  refine J_callV (h := 48) (ci := 0) (As := [.ref (g.1 + 1), .int p2]) (rest := [.ref (g.1 + 48)]) (n := 2) dX1_annihilatorOf_4 (c_X1_ofSide p2  _ _ h) (by decide) rfl tb_2_144 tb_3_137 tb_1_5 tb_2_142 tb_2_143 (by decide) rfl (by decide) (by decide) (Nat.le_of_ble_eq_true rfl) rfl (fun v_r_2 S_1 hq => ?_)
  obtain ⟨r_2, rfl, hk_3, h⟩ := hq
  have h := h hk_3
  dsimp only [Option.toList, List.cons_append, List.nil_append]
  refine J_aload_n dX1_annihilatorOf_7 rfl 1 rfl  ?_
  refine J_iload_n dX1_annihilatorOf_8 rfl 3 rfl  ?_
  refine J_aload_n dX1_annihilatorOf_9 rfl 0 rfl  ?_
  refine J_getr (r := 126) (ci := 0) dX1_annihilatorOf_10 5 rfl giX1 (by decide) (by decide) rfl rfl tb_1_186 (by decide) (by decide)  ?_
  refine J_callV (h := 48) (ci := 0) (As := [.ref (g.1 + r_2), .ref (g.1 + 1), .int p3, .ref (g.1 + 126)]) (rest := []) (n := 4) dX1_annihilatorOf_13 (c_X1_annihilate r_2 p3 126 hk_3 (by decide) _ _ h) (by decide) rfl tb_3_141 tb_3_138 tb_1_5 tb_3_140 sl_15 (by decide) rfl (by decide) (by decide) (Nat.le_of_ble_eq_true rfl) rfl (fun v_r_5 S_4 hq => ?_)
  obtain ⟨rfl, h⟩ := hq
  dsimp only [Option.toList, List.cons_append, List.nil_append]
  refine J_aload_n dX1_annihilatorOf_16 rfl 0 rfl  ?_
  refine J_getr (r := 126) (ci := 0) dX1_annihilatorOf_17 5 rfl giX1 (by decide) (by decide) rfl rfl tb_1_186 (by decide) (by decide)  ?_
  exact J_aret dX1_annihilatorOf_20 rfl ⟨_, rfl, (by decide), h⟩
def wp_X1_annihilatorAgain (p2 : Int32) (S : Sto) (Q : Nat → Sto → Prop) : Prop := wp_X1_annihilate 126 (1 - p2) 145 S (fun S_1 => Q 145 S_1)
set_option maxRecDepth 100000 in
set_option maxHeartbeats 4000000 in
theorem c_X1_annihilatorAgain {g : Gv} (p2 : Int32)  (S : Sto) (Q : Nat → Sto → Prop) (h : wp_X1_annihilatorAgain p2 S Q) : CT g yX1_annihilatorAgain cX1_annihilatorAgain 3 (some (.object "OuterIdeals$Span")) 6 [.ref (g.1 + 48), .ref (g.1 + 1), .int p2] S (Qr g 8 Q) := by
  unfold wp_X1_annihilatorAgain at h
  refine CT.of (by decide) (Nat.le_of_ble_eq_true rfl) ?_
  refine J_sub (lv' := [(0, .ref (g.1 + 48)), (1, .ref (g.1 + 1)), (2, .int p2)]) [0, 1, 2] rfl ?_
  refine J_aload_n dX1_annihilatorAgain_0 rfl 0 rfl  ?_
  refine J_aload_n dX1_annihilatorAgain_1 rfl 0 rfl  ?_
  refine J_getr (r := 126) (ci := 0) dX1_annihilatorAgain_2 5 rfl giX1 (by decide) (by decide) rfl rfl tb_1_186 (by decide) (by decide)  ?_
  refine J_aload_n dX1_annihilatorAgain_5 rfl 1 rfl  ?_
  refine J_iconst (v := 1) dX1_annihilatorAgain_6 (by decide)  ?_
  refine J_iload_n dX1_annihilatorAgain_7 rfl 2 rfl  ?_
  refine J_isub dX1_annihilatorAgain_8  ?_
  refine J_aload_n dX1_annihilatorAgain_9 rfl 0 rfl  ?_
  refine J_getr (r := 145) (ci := 0) dX1_annihilatorAgain_10 6 rfl giX1 (by decide) (by decide) rfl rfl tb_1_187 (by decide) (by decide)  ?_
  refine J_callV (h := 48) (ci := 0) (As := [.ref (g.1 + 126), .ref (g.1 + 1), .int (1 - p2), .ref (g.1 + 145)]) (rest := []) (n := 4) dX1_annihilatorAgain_13 (c_X1_annihilate 126 (1 - p2) 145 (by decide) (by decide) _ _ h) (by decide) rfl tb_3_141 tb_3_138 tb_1_5 tb_3_140 sl_15 (by decide) rfl (by decide) (by decide) (Nat.le_of_ble_eq_true rfl) rfl (fun v_r_2 S_1 hq => ?_)
  obtain ⟨rfl, h⟩ := hq
  dsimp only [Option.toList, List.cons_append, List.nil_append]
  refine J_aload_n dX1_annihilatorAgain_16 rfl 0 rfl  ?_
  refine J_getr (r := 145) (ci := 0) dX1_annihilatorAgain_17 6 rfl giX1 (by decide) (by decide) rfl rfl tb_1_187 (by decide) (by decide)  ?_
  exact J_aret dX1_annihilatorAgain_20 rfl ⟨_, rfl, (by decide), h⟩
def q_X2_nonZeros_35 (p0 : Nat) (p1 : Int32)  (Q : Int32 → Sto → Prop) (x2 : Int32) (S : Sto) : Prop := Q x2 S
set_option maxRecDepth 100000 in
set_option maxHeartbeats 4000000 in
theorem l_X2_nonZeros_35 {g : Gv} (p0 : Nat) (p1 : Int32)  (Q : Int32 → Sto → Prop)  (hp0 : kd p0 = 0) (x2 : Int32) (S : Sto)  (h : q_X2_nonZeros_35 p0 p1  Q x2 S) : RJ g cX2_nonZeros RX2 (some .int) 4 1 35 [(0, .ref (g.1 + p0)), (1, .int p1), (2, .int x2)] [] S (Qi Q) := by
  unfold q_X2_nonZeros_35 at h
  refine J_iload_n dX2_nonZeros_35 rfl 2 rfl  ?_
  exact J_iret dX2_nonZeros_36 rfl rfl ⟨_, rfl, h⟩
def q_X2_nonZeros_27 (p0 : Nat) (p1 : Int32) (R4 : Int32 → Int32 → Sto → Prop) (Q : Int32 → Sto → Prop) (x3 : Int32) (t0 : Int32) (t1 : Int32) (S : Sto) : Prop := ∀ x2_1 : Int32, x2_1 = t0 + t1 → ∀ x3_2 : Int32, x3_2 = x3 + 1 → R4 x2_1 x3_2 S
set_option maxRecDepth 100000 in
set_option maxHeartbeats 4000000 in
theorem l_X2_nonZeros_27 {g : Gv} (p0 : Nat) (p1 : Int32) (R4 : Int32 → Int32 → Sto → Prop) (Q : Int32 → Sto → Prop) (hR4 : ∀ (y2 : Int32) (y3 : Int32) (S : Sto), R4 y2 y3 S → RJ g cX2_nonZeros RX2 (some .int) 4 1 4 [(0, .ref (g.1 + p0)), (1, .int p1), (2, .int y2), (3, .int y3)] [] S (Qi Q)) (hp0 : kd p0 = 0) (x3 : Int32) (t0 : Int32) (t1 : Int32) (S : Sto)  (h : q_X2_nonZeros_27 p0 p1 R4 Q x3 t0 t1 S) : RJ g cX2_nonZeros RX2 (some .int) 4 1 27 [(0, .ref (g.1 + p0)), (1, .int p1), (3, .int x3)] [.int t1, .int t0] S (Qi Q) := by
  unfold q_X2_nonZeros_27 at h
  refine J_iadd dX2_nonZeros_27  ?_
  refine J_topi (fun x2_1 ex2_1 => ?_)
  have h := h x2_1 ex2_1
  refine J_istore_n (lv' := [(0, .ref (g.1 + p0)), (1, .int p1), (2, .int x2_1), (3, .int x3)]) dX2_nonZeros_28 rfl (by decide) [1, 2, 0, 3] rfl  ?_
  obtain ⟨x3_2, ex3_2⟩ : ∃ y : Int32, y = x3 + 1 := ⟨_, rfl⟩
  have h := h x3_2 ex3_2
  refine J_iinc (v := x3_2) (lv' := [(0, .ref (g.1 + p0)), (1, .int p1), (2, .int x2_1), (3, .int x3_2)]) dX2_nonZeros_29 (q := 3) rfl (by rw [ex3_2]; rfl) (by decide) [1, 2, 3, 0] rfl  ?_
  refine J_goto (tgt := 4) dX2_nonZeros_32 (by decide)  ?_
  exact hR4 _ _ _  h
def q_X2_nonZeros_4 (p0 : Nat) (p1 : Int32)  (Q : Int32 → Sto → Prop) : Nat → Int32 → Int32 → Sto → Prop
  | 0, _, _, _ => False
  | n + 1, x2, x3, S => ((p1 ≤ x3 → q_X2_nonZeros_35 p0 p1  Q x2 S) ∧ (¬ p1 ≤ x3 → (((nI (ln p0)) ≤ x3 → q_X2_nonZeros_35 p0 p1  Q x2 S) ∧ (¬ (nI (ln p0)) ≤ x3 → vp_in x3 (ln p0) ∧ (((S.1 p0 (x3 : Int32).toNatClampNeg) = 0 → q_X2_nonZeros_27 p0 p1 (fun y2 y3 S => q_X2_nonZeros_4 p0 p1  Q n y2 y3 S) Q x3 x2 0 S) ∧ (¬ (S.1 p0 (x3 : Int32).toNatClampNeg) = 0 → q_X2_nonZeros_27 p0 p1 (fun y2 y3 S => q_X2_nonZeros_4 p0 p1  Q n y2 y3 S) Q x3 x2 1 S))))))
set_option maxRecDepth 100000 in
set_option maxHeartbeats 4000000 in
theorem l_X2_nonZeros_4 {g : Gv} (p0 : Nat) (p1 : Int32)  (Q : Int32 → Sto → Prop)  (hp0 : kd p0 = 0) (n : Nat) : ∀ (x2 : Int32) (x3 : Int32) (S : Sto)  (h : q_X2_nonZeros_4 p0 p1  Q n x2 x3 S), RJ g cX2_nonZeros RX2 (some .int) 4 1 4 [(0, .ref (g.1 + p0)), (1, .int p1), (2, .int x2), (3, .int x3)] [] S (Qi Q) := by
  induction n with
  | zero => intro x2 x3 S  h; exact h.elim
  | succ n ih =>
    intro x2 x3 S  h
    unfold q_X2_nonZeros_4 at h
    refine J_iload_n dX2_nonZeros_4 rfl 3 rfl  ?_
    refine J_iload_n dX2_nonZeros_5 rfl 1 rfl  ?_
    refine J_icmp_ge (tgt := 35) dX2_nonZeros_6 (by decide) (fun c_1 => ?_) (fun c_1 => ?_)
    · have h := h.1 c_1
      refine J_sub (lv' := [(0, .ref (g.1 + p0)), (1, .int p1), (2, .int x2)]) [0, 1, 2] rfl ?_
      exact l_X2_nonZeros_35 p0 p1  _  hp0 _ _  h
    · have h := h.2 c_1
      refine J_iload_n dX2_nonZeros_9 rfl 3 rfl  ?_
      refine J_aload_n dX2_nonZeros_10 rfl 0 rfl  ?_
      refine J_alen0 (n := ln p0) dX2_nonZeros_11 hp0 rfl  ?_
      refine J_icmp_ge (tgt := 35) dX2_nonZeros_12 (by decide) (fun c_2 => ?_) (fun c_2 => ?_)
      · have h := h.1 c_2
        refine J_sub (lv' := [(0, .ref (g.1 + p0)), (1, .int p1), (2, .int x2)]) [0, 1, 2] rfl ?_
        exact l_X2_nonZeros_35 p0 p1  _  hp0 _ _  h
      · have h := h.2 c_2
        refine J_iload_n dX2_nonZeros_15 rfl 2 rfl  ?_
        refine J_aload_n dX2_nonZeros_16 rfl 0 rfl  ?_
        refine J_iload_n dX2_nonZeros_17 rfl 3 rfl  ?_
        obtain ⟨hi_3, h⟩ := h
        refine J_iald dX2_nonZeros_18 hp0 hi_3  ?_
        refine J_if_eq (tgt := 26) dX2_nonZeros_19 (by decide) (fun c_4 => ?_) (fun c_4 => ?_)
        · have h := h.1 c_4
          refine J_iconst (v := 0) dX2_nonZeros_26 (by decide)  ?_
          refine J_sub (lv' := [(0, .ref (g.1 + p0)), (1, .int p1), (3, .int x3)]) [0, 1, 3] rfl ?_
          exact l_X2_nonZeros_27 p0 p1 _ _ (fun y2 y3 S  h => ih y2 y3 S  h) hp0 _ _ _ _  h
        · have h := h.2 c_4
          refine J_iconst (v := 1) dX2_nonZeros_22 (by decide)  ?_
          refine J_goto (tgt := 27) dX2_nonZeros_23 (by decide)  ?_
          refine J_sub (lv' := [(0, .ref (g.1 + p0)), (1, .int p1), (3, .int x3)]) [0, 1, 3] rfl ?_
          exact l_X2_nonZeros_27 p0 p1 _ _ (fun y2 y3 S  h => ih y2 y3 S  h) hp0 _ _ _ _  h
def wp_X2_nonZeros (p0 : Nat) (p1 : Int32) (S : Sto) (Q : Int32 → Sto → Prop) : Prop := (∃ n_4, q_X2_nonZeros_4 p0 p1  Q n_4 0 0 S)
set_option maxRecDepth 100000 in
set_option maxHeartbeats 4000000 in
theorem c_X2_nonZeros {g : Gv} (p0 : Nat) (p1 : Int32) (hp0 : kd p0 = 0) (S : Sto) (Q : Int32 → Sto → Prop) (h : wp_X2_nonZeros p0 p1 S Q) : CT g yX2_nonZeros cX2_nonZeros 4 (some .int) 1 [.ref (g.1 + p0), .int p1] S (Qi Q) := by
  unfold wp_X2_nonZeros at h
  refine CT.of (by decide) (Nat.le_of_ble_eq_true rfl) ?_
  refine J_sub (lv' := [(0, .ref (g.1 + p0)), (1, .int p1)]) [0, 1] rfl ?_
  refine J_iconst (v := 0) dX2_nonZeros_0 (by decide)  ?_
  refine J_istore_n (lv' := [(0, .ref (g.1 + p0)), (1, .int p1), (2, .int 0)]) dX2_nonZeros_1 rfl (by decide) [1, 2, 0] rfl  ?_
  refine J_iconst (v := 0) dX2_nonZeros_2 (by decide)  ?_
  refine J_istore_n (lv' := [(0, .ref (g.1 + p0)), (1, .int p1), (2, .int 0), (3, .int 0)]) dX2_nonZeros_3 rfl (by decide) [1, 2, 3, 0] rfl  ?_
  obtain ⟨n, h⟩ := h
  exact l_X2_nonZeros_4 p0 p1  _  hp0 n _ _ _  h
def q_X1_liesIn_55 (p1 : Nat) (p2 : Nat) (R2 : Int32 → Sto → Prop) (Q : Int32 → Sto → Prop) (x3 : Int32) (S : Sto) : Prop := ∀ x3_1 : Int32, x3_1 = x3 + 1 → R2 x3_1 S
set_option maxRecDepth 100000 in
set_option maxHeartbeats 4000000 in
theorem l_X1_liesIn_55 {g : Gv} (p1 : Nat) (p2 : Nat) (R2 : Int32 → Sto → Prop) (Q : Int32 → Sto → Prop) (hR2 : ∀ (y3 : Int32) (S : Sto), R2 y3 S → RJ g cX1_liesIn RX1 (some .boolean) 4 3 2 [(0, .ref (g.1 + 48)), (1, .ref (g.1 + p1)), (2, .ref (g.1 + p2)), (3, .int y3)] [] S (Qi Q)) (hp1 : kd p1 = 8) (hp2 : kd p2 = 8) (x3 : Int32) (S : Sto)  (h : q_X1_liesIn_55 p1 p2 R2 Q x3 S) : RJ g cX1_liesIn RX1 (some .boolean) 4 3 55 [(0, .ref (g.1 + 48)), (1, .ref (g.1 + p1)), (2, .ref (g.1 + p2)), (3, .int x3)] [] S (Qi Q) := by
  unfold q_X1_liesIn_55 at h
  obtain ⟨x3_1, ex3_1⟩ : ∃ y : Int32, y = x3 + 1 := ⟨_, rfl⟩
  have h := h x3_1 ex3_1
  refine J_iinc (v := x3_1) (lv' := [(0, .ref (g.1 + 48)), (1, .ref (g.1 + p1)), (2, .ref (g.1 + p2)), (3, .int x3_1)]) dX1_liesIn_55 (q := 3) rfl (by rw [ex3_1]; rfl) (by decide) [1, 2, 3, 0] rfl  ?_
  refine J_goto (tgt := 2) dX1_liesIn_58 (by decide)  ?_
  exact hR2 _ _  h
def q_X1_liesIn_2 (p1 : Nat) (p2 : Nat)  (Q : Int32 → Sto → Prop) : Nat → Int32 → Sto → Prop
  | 0, _, _ => False
  | n + 1, x3, S => ((16 ≤ x3 → Q 1 S) ∧ (¬ 16 ≤ x3 → wp_X5_holds p1 x3 S (fun r_3 S_2 => ((r_3 = 0 → q_X1_liesIn_55 p1 p2 (fun y3 S => q_X1_liesIn_2 p1 p2  Q n y3 S) Q x3 S_2) ∧ (¬ r_3 = 0 → vp_in x3 (ln (p1 + 1)) ∧ wp_X2_copy (p1 + 1 + 1 + (x3 : Int32).toNatClampNeg) 205 16 S_2 (fun S_6 => wp_X5_takeFrom p2 205 S_6 (fun S_8 => wp_X2_nonZeros 205 (S_8.1 p2 3) S_8 (fun r_11 S_10 => ((r_11 = 0 → q_X1_liesIn_55 p1 p2 (fun y3 S => q_X1_liesIn_2 p1 p2  Q n y3 S) Q x3 S_10) ∧ (¬ r_11 = 0 → Q 0 S_10))))))))))
set_option maxRecDepth 100000 in
set_option maxHeartbeats 4000000 in
theorem l_X1_liesIn_2 {g : Gv} (p1 : Nat) (p2 : Nat)  (Q : Int32 → Sto → Prop)  (hp1 : kd p1 = 8) (hp2 : kd p2 = 8) (n : Nat) : ∀ (x3 : Int32) (S : Sto)  (h : q_X1_liesIn_2 p1 p2  Q n x3 S), RJ g cX1_liesIn RX1 (some .boolean) 4 3 2 [(0, .ref (g.1 + 48)), (1, .ref (g.1 + p1)), (2, .ref (g.1 + p2)), (3, .int x3)] [] S (Qi Q) := by
  induction n with
  | zero => intro x3 S  h; exact h.elim
  | succ n ih =>
    intro x3 S  h
    unfold q_X1_liesIn_2 at h
    refine J_iload_n dX1_liesIn_2 rfl 3 rfl  ?_
    refine J_bipush (v := 16) dX1_liesIn_3 (by decide)  ?_
    refine J_icmp_ge (tgt := 61) dX1_liesIn_5 (by decide) (fun c_1 => ?_) (fun c_1 => ?_)
    · have h := h.1 c_1
      refine J_iconst (v := 1) dX1_liesIn_61 (by decide)  ?_
      exact J_iret dX1_liesIn_62 rfl rfl ⟨_, rfl, h⟩
    · have h := h.2 c_1
      refine J_aload_n dX1_liesIn_8 rfl 1 rfl  ?_
      refine J_iload_n dX1_liesIn_9 rfl 3 rfl  ?_
      refine J_callV (h := p1) (ci := 3) (As := [.int x3]) (rest := []) (n := 1) dX1_liesIn_10 (c_X5_holds p1 x3 hp1 _ _ h) hp1 rfl tb_3_85 tb_3_142 tb_1_6 tb_3_83 tb_3_84 (by decide) rfl (by decide) (by decide) (Nat.le_of_ble_eq_true rfl) rfl (fun v_r_3 S_2 hq => ?_)
      obtain ⟨r_3, rfl, h⟩ := hq
      dsimp only [Option.toList, List.cons_append, List.nil_append]
      refine J_if_eq (tgt := 55) dX1_liesIn_13 (by decide) (fun c_4 => ?_) (fun c_4 => ?_)
      · have h := h.1 c_4
        exact l_X1_liesIn_55 p1 p2 _ _ (fun y3 S  h => ih y3 S  h) hp1 hp2 _ _  h
      · have h := h.2 c_4
        refine J_aload_n dX1_liesIn_16 rfl 1 rfl  ?_
        refine J_getr (r := p1 + 1) (ci := 3) dX1_liesIn_17 0 rfl giX5 hp1 (by decide) rfl rfl tb_1_156 (by decide) (sp_rf0 hp1)  ?_
        refine J_iload_n dX1_liesIn_20 rfl 3 rfl  ?_
        obtain ⟨hi_5, h⟩ := h
        refine J_aald3 dX1_liesIn_21 (sp_rows hp1) hi_5  ?_
        refine J_aload_n dX1_liesIn_22 rfl 0 rfl  ?_
        refine J_getr (r := 205) (ci := 0) dX1_liesIn_23 13 rfl giX1 (by decide) (by decide) rfl rfl tb_1_195 (by decide) (by decide)  ?_
        refine J_bipush (v := 16) dX1_liesIn_26 (by decide)  ?_
        refine J_callS (As := [.ref (g.1 + (p1 + 1 + 1 + (x3 : Int32).toNatClampNeg)), .ref (g.1 + 205), .int 16]) (rest := []) (n := 3) dX1_liesIn_28 (c_X2_copy (p1 + 1 + 1 + (x3 : Int32).toNatClampNeg) 205 16 (kd_row3 (sp_rows hp1) hi_5) (by decide) _ _ h) tb_2_123 tb_2_160 tb_1_9 tb_2_122 (by decide) rfl (by decide) (by decide) (Nat.le_of_ble_eq_true rfl) rfl (fun v_r_7 S_6 hq => ?_)
        obtain ⟨rfl, h⟩ := hq
        dsimp only [Option.toList, List.cons_append, List.nil_append]
        refine J_aload_n dX1_liesIn_31 rfl 2 rfl  ?_
        refine J_aload_n dX1_liesIn_32 rfl 0 rfl  ?_
        refine J_getr (r := 205) (ci := 0) dX1_liesIn_33 13 rfl giX1 (by decide) (by decide) rfl rfl tb_1_195 (by decide) (by decide)  ?_
        refine J_callV (h := p2) (ci := 3) (As := [.ref (g.1 + 205)]) (rest := []) (n := 1) dX1_liesIn_36 (c_X5_takeFrom p2 205 hp2 (by decide) _ _ h) hp2 rfl tb_2_172 tb_3_161 tb_1_6 tb_2_170 tb_2_171 (by decide) rfl (by decide) (by decide) (Nat.le_of_ble_eq_true rfl) rfl (fun v_r_9 S_8 hq => ?_)
        obtain ⟨rfl, h⟩ := hq
        dsimp only [Option.toList, List.cons_append, List.nil_append]
        refine J_aload_n dX1_liesIn_39 rfl 0 rfl  ?_
        refine J_getr (r := 205) (ci := 0) dX1_liesIn_40 13 rfl giX1 (by decide) (by decide) rfl rfl tb_1_195 (by decide) (by decide)  ?_
        refine J_aload_n dX1_liesIn_43 rfl 2 rfl  ?_
        refine J_getiN (ci := 3) dX1_liesIn_44 3 rfl giX5 hp2 (by decide) rfl rfl (fun U h => h.1) rfl  ?_
        refine J_callS (As := [.ref (g.1 + 205), .int (S_8.1 p2 3)]) (rest := []) (n := 2) dX1_liesIn_47 (c_X2_nonZeros 205 (S_8.1 p2 3) (by decide) _ _ h) tb_2_126 tb_3_162 tb_1_9 tb_2_125 (by decide) rfl (by decide) (by decide) (Nat.le_of_ble_eq_true rfl) rfl (fun v_r_11 S_10 hq => ?_)
        obtain ⟨r_11, rfl, h⟩ := hq
        dsimp only [Option.toList, List.cons_append, List.nil_append]
        refine J_if_eq (tgt := 55) dX1_liesIn_50 (by decide) (fun c_12 => ?_) (fun c_12 => ?_)
        · have h := h.1 c_12
          exact l_X1_liesIn_55 p1 p2 _ _ (fun y3 S  h => ih y3 S  h) hp1 hp2 _ _  h
        · have h := h.2 c_12
          refine J_iconst (v := 0) dX1_liesIn_53 (by decide)  ?_
          exact J_iret dX1_liesIn_54 rfl rfl ⟨_, rfl, h⟩
def wp_X1_liesIn (p1 : Nat) (p2 : Nat) (S : Sto) (Q : Int32 → Sto → Prop) : Prop := (∃ n_2, q_X1_liesIn_2 p1 p2  Q n_2 0 S)
set_option maxRecDepth 100000 in
set_option maxHeartbeats 4000000 in
theorem c_X1_liesIn {g : Gv} (p1 : Nat) (p2 : Nat) (hp1 : kd p1 = 8) (hp2 : kd p2 = 8) (S : Sto) (Q : Int32 → Sto → Prop) (h : wp_X1_liesIn p1 p2 S Q) : CT g yX1_liesIn cX1_liesIn 4 (some .boolean) 3 [.ref (g.1 + 48), .ref (g.1 + p1), .ref (g.1 + p2)] S (Qi Q) := by
  unfold wp_X1_liesIn at h
  refine CT.of (by decide) (Nat.le_of_ble_eq_true rfl) ?_
  refine J_sub (lv' := [(0, .ref (g.1 + 48)), (1, .ref (g.1 + p1)), (2, .ref (g.1 + p2))]) [0, 1, 2] rfl ?_
  refine J_iconst (v := 0) dX1_liesIn_0 (by decide)  ?_
  refine J_istore_n (lv' := [(0, .ref (g.1 + 48)), (1, .ref (g.1 + p1)), (2, .ref (g.1 + p2)), (3, .int 0)]) dX1_liesIn_1 rfl (by decide) [1, 2, 3, 0] rfl  ?_
  obtain ⟨n, h⟩ := h
  exact l_X1_liesIn_2 p1 p2  _  hp1 hp2 n _ _  h
def q_X1_comeLater_33 (p1 : Nat)  (Q : Sto → Prop)  (S : Sto) : Prop := Q S
set_option maxRecDepth 100000 in
set_option maxHeartbeats 4000000 in
theorem l_X1_comeLater_33 {g : Gv} (p1 : Nat)  (Q : Sto → Prop)  (hp1 : kd p1 = 0)  (S : Sto)  (h : q_X1_comeLater_33 p1  Q  S) : RJ g cX1_comeLater RX1 none 2 2 33 [(0, .ref (g.1 + 48)), (1, .ref (g.1 + p1))] [] S (Qv Q) := by
  unfold q_X1_comeLater_33 at h
  exact J_vret dX1_comeLater_33 rfl ⟨rfl, h⟩
def wp_X1_comeLater (p1 : Nat) (S : Sto) (Q : Sto → Prop) : Prop := ((4 ≤ (S.1 48 9) → q_X1_comeLater_33 p1  Q  S) ∧ (¬ 4 ≤ (S.1 48 9) → vp_in (S.1 48 9) (4) ∧ wp_X2_copy p1 (183 + 1 + (S.1 48 9 : Int32).toNatClampNeg) 16 S (fun S_3 => ∀ S_5 : Sto, S_5 = uA S_3 48 9 ((S_3.1 48 9) + 1) → q_X1_comeLater_33 p1  Q  S_5)))
set_option maxRecDepth 100000 in
set_option maxHeartbeats 4000000 in
theorem c_X1_comeLater {g : Gv} (p1 : Nat) (hp1 : kd p1 = 0) (S : Sto) (Q : Sto → Prop) (h : wp_X1_comeLater p1 S Q) : CT g yX1_comeLater cX1_comeLater 2 none 2 [.ref (g.1 + 48), .ref (g.1 + p1)] S (Qv Q) := by
  unfold wp_X1_comeLater at h
  refine CT.of (by decide) (Nat.le_of_ble_eq_true rfl) ?_
  refine J_sub (lv' := [(0, .ref (g.1 + 48)), (1, .ref (g.1 + p1))]) [0, 1] rfl ?_
  refine J_aload_n dX1_comeLater_0 rfl 0 rfl  ?_
  refine J_geti (ci := 0) dX1_comeLater_1 9 rfl giX1 (by decide) (by decide) rfl rfl tb_1_190 rfl  ?_
  refine J_iconst (v := 4) dX1_comeLater_4 (by decide)  ?_
  refine J_icmp_ge (tgt := 33) dX1_comeLater_5 (by decide) (fun c_1 => ?_) (fun c_1 => ?_)
  · have h := h.1 c_1
    exact l_X1_comeLater_33 p1  _  hp1  _  h
  · have h := h.2 c_1
    refine J_aload_n dX1_comeLater_8 rfl 1 rfl  ?_
    refine J_aload_n dX1_comeLater_9 rfl 0 rfl  ?_
    refine J_getr (r := 183) (ci := 0) dX1_comeLater_10 8 rfl giX1 (by decide) (by decide) rfl rfl tb_1_189 (by decide) (by decide)  ?_
    refine J_aload_n dX1_comeLater_13 rfl 0 rfl  ?_
    refine J_geti (ci := 0) dX1_comeLater_14 9 rfl giX1 (by decide) (by decide) rfl rfl tb_1_190 rfl  ?_
    obtain ⟨hi_2, h⟩ := h
    refine J_aald3 dX1_comeLater_17 (by decide) hi_2  ?_
    refine J_bipush (v := 16) dX1_comeLater_18 (by decide)  ?_
    refine J_callS (As := [.ref (g.1 + p1), .ref (g.1 + (183 + 1 + (S.1 48 9 : Int32).toNatClampNeg)), .int 16]) (rest := []) (n := 3) dX1_comeLater_20 (c_X2_copy p1 (183 + 1 + (S.1 48 9 : Int32).toNatClampNeg) 16 hp1 (kd_row3 (by decide) hi_2) _ _ h) tb_2_123 tb_2_160 tb_1_9 tb_2_122 (by decide) rfl (by decide) (by decide) (Nat.le_of_ble_eq_true rfl) rfl (fun v_r_4 S_3 hq => ?_)
    obtain ⟨rfl, h⟩ := hq
    dsimp only [Option.toList, List.cons_append, List.nil_append]
    refine J_aload_n dX1_comeLater_23 rfl 0 rfl  ?_
    refine J_dup dX1_comeLater_24 rfl  ?_
    refine J_geti (ci := 0) dX1_comeLater_25 9 rfl giX1 (by decide) (by decide) rfl rfl tb_1_190 rfl  ?_
    refine J_iconst (v := 1) dX1_comeLater_28 (by decide)  ?_
    refine J_iadd dX1_comeLater_29  ?_
    refine J_puti (ci := 0) dX1_comeLater_30 9 rfl giX1 (by decide) (by decide) rfl rfl tyX1 tyX1_ok nmX1 rfl rfl rfl rfl tb_1_190 rfl  ?_
    refine J_nmS (fun S_5 eS_5 => ?_)
    have h := h S_5 eS_5
    exact l_X1_comeLater_33 p1  _  hp1  _  h
def q_X1_goLater_12 (p1 : Int32)  (Q : Sto → Prop)  (S : Sto) : Prop := Q S
set_option maxRecDepth 100000 in
set_option maxHeartbeats 4000000 in
theorem l_X1_goLater_12 {g : Gv} (p1 : Int32)  (Q : Sto → Prop)    (S : Sto)  (h : q_X1_goLater_12 p1  Q  S) : RJ g cX1_goLater RX1 none 3 2 12 [(0, .ref (g.1 + 48)), (1, .int p1)] [] S (Qv Q) := by
  unfold q_X1_goLater_12 at h
  exact J_vret dX1_goLater_12 rfl ⟨rfl, h⟩
def q_X1_goLater_57 (p1 : Int32)  (Q : Sto → Prop)  (S : Sto) : Prop := ∀ S_1 : Sto, S_1 = uA S 48 9 ((S.1 48 9) - 1) → Q S_1
set_option maxRecDepth 100000 in
set_option maxHeartbeats 4000000 in
theorem l_X1_goLater_57 {g : Gv} (p1 : Int32)  (Q : Sto → Prop)    (S : Sto)  (h : q_X1_goLater_57 p1  Q  S) : RJ g cX1_goLater RX1 none 3 2 57 [(0, .ref (g.1 + 48)), (1, .int p1)] [] S (Qv Q) := by
  unfold q_X1_goLater_57 at h
  refine J_aload_n dX1_goLater_57 rfl 0 rfl  ?_
  refine J_dup dX1_goLater_58 rfl  ?_
  refine J_geti (ci := 0) dX1_goLater_59 9 rfl giX1 (by decide) (by decide) rfl rfl tb_1_190 rfl  ?_
  refine J_iconst (v := 1) dX1_goLater_62 (by decide)  ?_
  refine J_isub dX1_goLater_63  ?_
  refine J_puti (ci := 0) dX1_goLater_64 9 rfl giX1 (by decide) (by decide) rfl rfl tyX1 tyX1_ok nmX1 rfl rfl rfl rfl tb_1_190 rfl  ?_
  refine J_nmS (fun S_1 eS_1 => ?_)
  have h := h S_1 eS_1
  exact J_vret dX1_goLater_67 rfl ⟨rfl, h⟩
def q_X1_goLater_15 (p1 : Int32)  (Q : Sto → Prop) : Nat → Int32 → Sto → Prop
  | 0, _, _ => False
  | n + 1, x2, S => (((S.1 48 9) ≤ (x2 + 1) → q_X1_goLater_57 p1  Q  S) ∧ (¬ (S.1 48 9) ≤ (x2 + 1) → ((4 ≤ (x2 + 1) → q_X1_goLater_57 p1  Q  S) ∧ (¬ 4 ≤ (x2 + 1) → vp_in (x2 + 1) (4) ∧ vp_in x2 (4) ∧ wp_X2_copy (183 + 1 + (x2 + 1 : Int32).toNatClampNeg) (183 + 1 + (x2 : Int32).toNatClampNeg) 16 S (fun S_5 => ∀ x2_7 : Int32, x2_7 = x2 + 1 → q_X1_goLater_15 p1  Q n x2_7 S_5)))))
set_option maxRecDepth 100000 in
set_option maxHeartbeats 4000000 in
theorem l_X1_goLater_15 {g : Gv} (p1 : Int32)  (Q : Sto → Prop)   (n : Nat) : ∀ (x2 : Int32) (S : Sto)  (h : q_X1_goLater_15 p1  Q n x2 S), RJ g cX1_goLater RX1 none 3 2 15 [(0, .ref (g.1 + 48)), (1, .int p1), (2, .int x2)] [] S (Qv Q) := by
  induction n with
  | zero => intro x2 S  h; exact h.elim
  | succ n ih =>
    intro x2 S  h
    unfold q_X1_goLater_15 at h
    refine J_iload_n dX1_goLater_15 rfl 2 rfl  ?_
    refine J_iconst (v := 1) dX1_goLater_16 (by decide)  ?_
    refine J_iadd dX1_goLater_17  ?_
    refine J_aload_n dX1_goLater_18 rfl 0 rfl  ?_
    refine J_geti (ci := 0) dX1_goLater_19 9 rfl giX1 (by decide) (by decide) rfl rfl tb_1_190 rfl  ?_
    refine J_icmp_ge (tgt := 57) dX1_goLater_22 (by decide) (fun c_1 => ?_) (fun c_1 => ?_)
    · have h := h.1 c_1
      refine J_sub (lv' := [(0, .ref (g.1 + 48)), (1, .int p1)]) [0, 1] rfl ?_
      exact l_X1_goLater_57 p1  _    _  h
    · have h := h.2 c_1
      refine J_iload_n dX1_goLater_25 rfl 2 rfl  ?_
      refine J_iconst (v := 1) dX1_goLater_26 (by decide)  ?_
      refine J_iadd dX1_goLater_27  ?_
      refine J_iconst (v := 4) dX1_goLater_28 (by decide)  ?_
      refine J_icmp_ge (tgt := 57) dX1_goLater_29 (by decide) (fun c_2 => ?_) (fun c_2 => ?_)
      · have h := h.1 c_2
        refine J_sub (lv' := [(0, .ref (g.1 + 48)), (1, .int p1)]) [0, 1] rfl ?_
        exact l_X1_goLater_57 p1  _    _  h
      · have h := h.2 c_2
        refine J_aload_n dX1_goLater_32 rfl 0 rfl  ?_
        refine J_getr (r := 183) (ci := 0) dX1_goLater_33 8 rfl giX1 (by decide) (by decide) rfl rfl tb_1_189 (by decide) (by decide)  ?_
        refine J_iload_n dX1_goLater_36 rfl 2 rfl  ?_
        refine J_iconst (v := 1) dX1_goLater_37 (by decide)  ?_
        refine J_iadd dX1_goLater_38  ?_
        obtain ⟨hi_3, h⟩ := h
        refine J_aald3 dX1_goLater_39 (by decide) hi_3  ?_
        refine J_aload_n dX1_goLater_40 rfl 0 rfl  ?_
        refine J_getr (r := 183) (ci := 0) dX1_goLater_41 8 rfl giX1 (by decide) (by decide) rfl rfl tb_1_189 (by decide) (by decide)  ?_
        refine J_iload_n dX1_goLater_44 rfl 2 rfl  ?_
        obtain ⟨hi_4, h⟩ := h
        refine J_aald3 dX1_goLater_45 (by decide) hi_4  ?_
        refine J_bipush (v := 16) dX1_goLater_46 (by decide)  ?_
        refine J_callS (As := [.ref (g.1 + (183 + 1 + (x2 + 1 : Int32).toNatClampNeg)), .ref (g.1 + (183 + 1 + (x2 : Int32).toNatClampNeg)), .int 16]) (rest := []) (n := 3) dX1_goLater_48 (c_X2_copy (183 + 1 + (x2 + 1 : Int32).toNatClampNeg) (183 + 1 + (x2 : Int32).toNatClampNeg) 16 (kd_row3 (by decide) hi_3) (kd_row3 (by decide) hi_4) _ _ h) tb_2_123 tb_2_160 tb_1_9 tb_2_122 (by decide) rfl (by decide) (by decide) (Nat.le_of_ble_eq_true rfl) rfl (fun v_r_6 S_5 hq => ?_)
        obtain ⟨rfl, h⟩ := hq
        dsimp only [Option.toList, List.cons_append, List.nil_append]
        obtain ⟨x2_7, ex2_7⟩ : ∃ y : Int32, y = x2 + 1 := ⟨_, rfl⟩
        have h := h x2_7 ex2_7
        refine J_iinc (v := x2_7) (lv' := [(0, .ref (g.1 + 48)), (1, .int p1), (2, .int x2_7)]) dX1_goLater_51 (q := 2) rfl (by rw [ex2_7]; rfl) (by decide) [1, 2, 0] rfl  ?_
        refine J_goto (tgt := 15) dX1_goLater_54 (by decide)  ?_
        exact ih _ _  h
def wp_X1_goLater (p1 : Int32) (S : Sto) (Q : Sto → Prop) : Prop := ((p1 < 0 → q_X1_goLater_12 p1  Q  S) ∧ (¬ p1 < 0 → ((p1 < (S.1 48 9) → (∃ n_15, q_X1_goLater_15 p1  Q n_15 p1 S)) ∧ (¬ p1 < (S.1 48 9) → q_X1_goLater_12 p1  Q  S))))
set_option maxRecDepth 100000 in
set_option maxHeartbeats 4000000 in
theorem c_X1_goLater {g : Gv} (p1 : Int32)  (S : Sto) (Q : Sto → Prop) (h : wp_X1_goLater p1 S Q) : CT g yX1_goLater cX1_goLater 3 none 2 [.ref (g.1 + 48), .int p1] S (Qv Q) := by
  unfold wp_X1_goLater at h
  refine CT.of (by decide) (Nat.le_of_ble_eq_true rfl) ?_
  refine J_sub (lv' := [(0, .ref (g.1 + 48)), (1, .int p1)]) [0, 1] rfl ?_
  refine J_iload_n dX1_goLater_0 rfl 1 rfl  ?_
  refine J_if_lt (tgt := 12) dX1_goLater_1 (by decide) (fun c_1 => ?_) (fun c_1 => ?_)
  · have h := h.1 c_1
    exact l_X1_goLater_12 p1  _    _  h
  · have h := h.2 c_1
    refine J_iload_n dX1_goLater_4 rfl 1 rfl  ?_
    refine J_aload_n dX1_goLater_5 rfl 0 rfl  ?_
    refine J_geti (ci := 0) dX1_goLater_6 9 rfl giX1 (by decide) (by decide) rfl rfl tb_1_190 rfl  ?_
    refine J_icmp_lt (tgt := 13) dX1_goLater_9 (by decide) (fun c_2 => ?_) (fun c_2 => ?_)
    · have h := h.1 c_2
      refine J_iload_n dX1_goLater_13 rfl 1 rfl  ?_
      refine J_istore_n (lv' := [(0, .ref (g.1 + 48)), (1, .int p1), (2, .int p1)]) dX1_goLater_14 rfl (by decide) [1, 2, 0] rfl  ?_
      obtain ⟨n, h⟩ := h
      exact l_X1_goLater_15 p1  _   n _ _  h
    · have h := h.2 c_2
      exact l_X1_goLater_12 p1  _    _  h
def q_X1_multiplyLater_66 (p2 : Int32) (p3 : Int32)  (Q : Sto → Prop)  (S : Sto) : Prop := Q S
set_option maxRecDepth 100000 in
set_option maxHeartbeats 4000000 in
theorem l_X1_multiplyLater_66 {g : Gv} (p2 : Int32) (p3 : Int32)  (Q : Sto → Prop)    (S : Sto)  (h : q_X1_multiplyLater_66 p2 p3  Q  S) : RJ g cX1_multiplyLater RX1 none 5 4 66 [(0, .ref (g.1 + 48)), (1, .ref (g.1 + 1)), (2, .int p2), (3, .int p3)] [] S (Qv Q) := by
  unfold q_X1_multiplyLater_66 at h
  exact J_vret dX1_multiplyLater_66 rfl ⟨rfl, h⟩
def q_X1_multiplyLater_3 (p2 : Int32) (p3 : Int32)  (Q : Sto → Prop) : Nat → Int32 → Sto → Prop
  | 0, _, _ => False
  | n + 1, x4, S => (((S.1 48 9) ≤ x4 → q_X1_multiplyLater_66 p2 p3  Q  S) ∧ (¬ (S.1 48 9) ≤ x4 → ((4 ≤ x4 → q_X1_multiplyLater_66 p2 p3  Q  S) ∧ (¬ 4 ≤ x4 → vp_in x4 (4) ∧ wp_X4_width  S (fun r_5 S_4 => wp_X2_byLetter p2 p3 (183 + 1 + (x4 : Int32).toNatClampNeg) 205 r_5 (S_4.1 1 1) S_4 (fun S_6 => vp_in x4 (4) ∧ wp_X4_width  S_6 (fun r_10 S_9 => wp_X2_copy 205 (183 + 1 + (x4 : Int32).toNatClampNeg) r_10 S_9 (fun S_11 => ∀ x4_13 : Int32, x4_13 = x4 + 1 → q_X1_multiplyLater_3 p2 p3  Q n x4_13 S_11))))))))
set_option maxRecDepth 100000 in
set_option maxHeartbeats 4000000 in
theorem l_X1_multiplyLater_3 {g : Gv} (p2 : Int32) (p3 : Int32)  (Q : Sto → Prop)   (n : Nat) : ∀ (x4 : Int32) (S : Sto)  (h : q_X1_multiplyLater_3 p2 p3  Q n x4 S), RJ g cX1_multiplyLater RX1 none 5 4 3 [(0, .ref (g.1 + 48)), (1, .ref (g.1 + 1)), (2, .int p2), (3, .int p3), (4, .int x4)] [] S (Qv Q) := by
  induction n with
  | zero => intro x4 S  h; exact h.elim
  | succ n ih =>
    intro x4 S  h
    unfold q_X1_multiplyLater_3 at h
    refine J_iload dX1_multiplyLater_3 4 rfl  ?_
    refine J_aload_n dX1_multiplyLater_5 rfl 0 rfl  ?_
    refine J_geti (ci := 0) dX1_multiplyLater_6 9 rfl giX1 (by decide) (by decide) rfl rfl tb_1_190 rfl  ?_
    refine J_icmp_ge (tgt := 66) dX1_multiplyLater_9 (by decide) (fun c_1 => ?_) (fun c_1 => ?_)
    · have h := h.1 c_1
      refine J_sub (lv' := [(0, .ref (g.1 + 48)), (1, .ref (g.1 + 1)), (2, .int p2), (3, .int p3)]) [0, 1, 2, 3] rfl ?_
      exact l_X1_multiplyLater_66 p2 p3  _    _  h
    · have h := h.2 c_1
      refine J_iload dX1_multiplyLater_12 4 rfl  ?_
      refine J_iconst (v := 4) dX1_multiplyLater_14 (by decide)  ?_
      refine J_icmp_ge (tgt := 66) dX1_multiplyLater_15 (by decide) (fun c_2 => ?_) (fun c_2 => ?_)
      · have h := h.1 c_2
        refine J_sub (lv' := [(0, .ref (g.1 + 48)), (1, .ref (g.1 + 1)), (2, .int p2), (3, .int p3)]) [0, 1, 2, 3] rfl ?_
        exact l_X1_multiplyLater_66 p2 p3  _    _  h
      · have h := h.2 c_2
        refine J_iload_n dX1_multiplyLater_18 rfl 2 rfl  ?_
        refine J_iload_n dX1_multiplyLater_19 rfl 3 rfl  ?_
        refine J_aload_n dX1_multiplyLater_20 rfl 0 rfl  ?_
        refine J_getr (r := 183) (ci := 0) dX1_multiplyLater_21 8 rfl giX1 (by decide) (by decide) rfl rfl tb_1_189 (by decide) (by decide)  ?_
        refine J_iload dX1_multiplyLater_24 4 rfl  ?_
        obtain ⟨hi_3, h⟩ := h
        refine J_aald3 dX1_multiplyLater_26 (by decide) hi_3  ?_
        refine J_aload_n dX1_multiplyLater_27 rfl 0 rfl  ?_
        refine J_getr (r := 205) (ci := 0) dX1_multiplyLater_28 13 rfl giX1 (by decide) (by decide) rfl rfl tb_1_195 (by decide) (by decide)  ?_
        refine J_aload_n dX1_multiplyLater_31 rfl 1 rfl  ?_
        refine J_callV (h := 1) (ci := 2) (As := []) (rest := [.ref (g.1 + 205), .ref (g.1 + (183 + 1 + (x4 : Int32).toNatClampNeg)), .int p3, .int p2]) (n := 0) dX1_multiplyLater_32 (c_X4_width   _ _ h) (by decide) rfl tb_2_91 tb_2_145 tb_1_2 tb_2_89 tb_2_90 (by decide) rfl (by decide) (by decide) (Nat.le_of_ble_eq_true rfl) rfl (fun v_r_5 S_4 hq => ?_)
        obtain ⟨r_5, rfl, h⟩ := hq
        dsimp only [Option.toList, List.cons_append, List.nil_append]
        refine J_aload_n dX1_multiplyLater_35 rfl 1 rfl  ?_
        refine J_geti (ci := 2) dX1_multiplyLater_36 1 rfl giX4 (by decide) (by decide) rfl rfl tb_1_38 rfl  ?_
        refine J_callS (As := [.int p2, .int p3, .ref (g.1 + (183 + 1 + (x4 : Int32).toNatClampNeg)), .ref (g.1 + 205), .int r_5, .int (S_4.1 1 1)]) (rest := []) (n := 6) dX1_multiplyLater_39 (c_X2_byLetter p2 p3 (183 + 1 + (x4 : Int32).toNatClampNeg) 205 r_5 (S_4.1 1 1) (kd_row3 (by decide) hi_3) (by decide) _ _ h) tb_2_191 tb_2_189 tb_1_9 tb_2_190 (by decide) rfl (by decide) (by decide) (Nat.le_of_ble_eq_true rfl) rfl (fun v_r_7 S_6 hq => ?_)
        obtain ⟨rfl, h⟩ := hq
        dsimp only [Option.toList, List.cons_append, List.nil_append]
        refine J_aload_n dX1_multiplyLater_42 rfl 0 rfl  ?_
        refine J_getr (r := 205) (ci := 0) dX1_multiplyLater_43 13 rfl giX1 (by decide) (by decide) rfl rfl tb_1_195 (by decide) (by decide)  ?_
        refine J_aload_n dX1_multiplyLater_46 rfl 0 rfl  ?_
        refine J_getr (r := 183) (ci := 0) dX1_multiplyLater_47 8 rfl giX1 (by decide) (by decide) rfl rfl tb_1_189 (by decide) (by decide)  ?_
        refine J_iload dX1_multiplyLater_50 4 rfl  ?_
        obtain ⟨hi_8, h⟩ := h
        refine J_aald3 dX1_multiplyLater_52 (by decide) hi_8  ?_
        refine J_aload_n dX1_multiplyLater_53 rfl 1 rfl  ?_
        refine J_callV (h := 1) (ci := 2) (As := []) (rest := [.ref (g.1 + (183 + 1 + (x4 : Int32).toNatClampNeg)), .ref (g.1 + 205)]) (n := 0) dX1_multiplyLater_54 (c_X4_width   _ _ h) (by decide) rfl tb_2_91 tb_2_145 tb_1_2 tb_2_89 tb_2_90 (by decide) rfl (by decide) (by decide) (Nat.le_of_ble_eq_true rfl) rfl (fun v_r_10 S_9 hq => ?_)
        obtain ⟨r_10, rfl, h⟩ := hq
        dsimp only [Option.toList, List.cons_append, List.nil_append]
        refine J_callS (As := [.ref (g.1 + 205), .ref (g.1 + (183 + 1 + (x4 : Int32).toNatClampNeg)), .int r_10]) (rest := []) (n := 3) dX1_multiplyLater_57 (c_X2_copy 205 (183 + 1 + (x4 : Int32).toNatClampNeg) r_10 (by decide) (kd_row3 (by decide) hi_8) _ _ h) tb_2_123 tb_2_160 tb_1_9 tb_2_122 (by decide) rfl (by decide) (by decide) (Nat.le_of_ble_eq_true rfl) rfl (fun v_r_12 S_11 hq => ?_)
        obtain ⟨rfl, h⟩ := hq
        dsimp only [Option.toList, List.cons_append, List.nil_append]
        obtain ⟨x4_13, ex4_13⟩ : ∃ y : Int32, y = x4 + 1 := ⟨_, rfl⟩
        have h := h x4_13 ex4_13
        refine J_iinc (v := x4_13) (lv' := [(0, .ref (g.1 + 48)), (1, .ref (g.1 + 1)), (2, .int p2), (3, .int p3), (4, .int x4_13)]) dX1_multiplyLater_60 (q := 4) rfl (by rw [ex4_13]; rfl) (by decide) [1, 2, 3, 4, 0] rfl  ?_
        refine J_goto (tgt := 3) dX1_multiplyLater_63 (by decide)  ?_
        exact ih _ _  h
def wp_X1_multiplyLater (p2 : Int32) (p3 : Int32) (S : Sto) (Q : Sto → Prop) : Prop := (∃ n_3, q_X1_multiplyLater_3 p2 p3  Q n_3 0 S)
set_option maxRecDepth 100000 in
set_option maxHeartbeats 4000000 in
theorem c_X1_multiplyLater {g : Gv} (p2 : Int32) (p3 : Int32)  (S : Sto) (Q : Sto → Prop) (h : wp_X1_multiplyLater p2 p3 S Q) : CT g yX1_multiplyLater cX1_multiplyLater 5 none 4 [.ref (g.1 + 48), .ref (g.1 + 1), .int p2, .int p3] S (Qv Q) := by
  unfold wp_X1_multiplyLater at h
  refine CT.of (by decide) (Nat.le_of_ble_eq_true rfl) ?_
  refine J_sub (lv' := [(0, .ref (g.1 + 48)), (1, .ref (g.1 + 1)), (2, .int p2), (3, .int p3)]) [0, 1, 2, 3] rfl ?_
  refine J_iconst (v := 0) dX1_multiplyLater_0 (by decide)  ?_
  refine J_istore (lv' := [(0, .ref (g.1 + 48)), (1, .ref (g.1 + 1)), (2, .int p2), (3, .int p3), (4, .int 0)]) dX1_multiplyLater_1 (by decide) [1, 2, 3, 4, 0] rfl  ?_
  obtain ⟨n, h⟩ := h
  exact l_X1_multiplyLater_3 p2 p3  _   n _ _  h
