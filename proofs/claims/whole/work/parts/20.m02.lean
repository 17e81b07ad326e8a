def q_X4_hasElement_15 (p1 : Int32)  (Q : Int32 → Sto → Prop) (t0 : Int32) (S : Sto) : Prop := narrow .boolean (.int t0) = .int t0 ∧ Q t0 S
set_option maxRecDepth 100000 in
set_option maxHeartbeats 4000000 in
theorem l_X4_hasElement_15 {g : Gv} (p1 : Int32)  (Q : Int32 → Sto → Prop)   (t0 : Int32) (S : Sto)  (h : q_X4_hasElement_15 p1  Q t0 S) : RJ g cX4_hasElement RX4 (some .boolean) 2 1 15 [(0, .ref (g.1 + 1)), (1, .int p1)] [.int t0] S (Qi Q) := by
  unfold q_X4_hasElement_15 at h
  obtain ⟨hb, h⟩ := h
  exact J_iret dX4_hasElement_15 rfl hb ⟨_, rfl, h⟩
def q_X4_hasElement_14 (p1 : Int32)  (Q : Int32 → Sto → Prop)  (S : Sto) : Prop := q_X4_hasElement_15 p1  Q 0 S
set_option maxRecDepth 100000 in
set_option maxHeartbeats 4000000 in
theorem l_X4_hasElement_14 {g : Gv} (p1 : Int32)  (Q : Int32 → Sto → Prop)    (S : Sto)  (h : q_X4_hasElement_14 p1  Q  S) : RJ g cX4_hasElement RX4 (some .boolean) 2 1 14 [(0, .ref (g.1 + 1)), (1, .int p1)] [] S (Qi Q) := by
  unfold q_X4_hasElement_14 at h
  refine J_iconst (v := 0) dX4_hasElement_14 (by decide)  ?_
  exact l_X4_hasElement_15 p1  _   _ _  h
def wp_X4_hasElement (p1 : Int32) (S : Sto) (Q : Int32 → Sto → Prop) : Prop := ((p1 < 0 → q_X4_hasElement_14 p1  Q  S) ∧ (¬ p1 < 0 → ((6 ≤ p1 → q_X4_hasElement_14 p1  Q  S) ∧ (¬ 6 ≤ p1 → q_X4_hasElement_15 p1  Q 1 S))))
set_option maxRecDepth 100000 in
set_option maxHeartbeats 4000000 in
theorem c_X4_hasElement {g : Gv} (p1 : Int32)  (S : Sto) (Q : Int32 → Sto → Prop) (h : wp_X4_hasElement p1 S Q) : CT g yX4_hasElement cX4_hasElement 2 (some .boolean) 1 [.ref (g.1 + 1), .int p1] S (Qi Q) := by
  unfold wp_X4_hasElement at h
  refine CT.of (by decide) (Nat.le_of_ble_eq_true rfl) ?_
  refine J_sub (lv' := [(0, .ref (g.1 + 1)), (1, .int p1)]) [0, 1] rfl ?_
  refine J_iload_n dX4_hasElement_0 rfl 1 rfl  ?_
  refine J_if_lt (tgt := 14) dX4_hasElement_1 (by decide) (fun c_1 => ?_) (fun c_1 => ?_)
  · have h := h.1 c_1
    exact l_X4_hasElement_14 p1  _    _  h
  · have h := h.2 c_1
    refine J_iload_n dX4_hasElement_4 rfl 1 rfl  ?_
    refine J_bipush (v := 6) dX4_hasElement_5 (by decide)  ?_
    refine J_icmp_ge (tgt := 14) dX4_hasElement_7 (by decide) (fun c_2 => ?_) (fun c_2 => ?_)
    · have h := h.1 c_2
      exact l_X4_hasElement_14 p1  _    _  h
    · have h := h.2 c_2
      refine J_iconst (v := 1) dX4_hasElement_10 (by decide)  ?_
      refine J_goto (tgt := 15) dX4_hasElement_11 (by decide)  ?_
      exact l_X4_hasElement_15 p1  _   _ _  h
def q_X1_happen_85 (p2 : Int32) (p3 : Int32)  (Q : Sto → Prop)  (S : Sto) : Prop := Q S
set_option maxRecDepth 100000 in
set_option maxHeartbeats 4000000 in
theorem l_X1_happen_85 {g : Gv} (p2 : Int32) (p3 : Int32)  (Q : Sto → Prop)    (S : Sto)  (h : q_X1_happen_85 p2 p3  Q  S) : RJ g cX1_happen RX1 none 4 5 85 [(0, .ref (g.1 + 48)), (1, .ref (g.1 + 1)), (2, .int p2), (3, .int p3)] [] S (Qv Q) := by
  unfold q_X1_happen_85 at h
  exact J_vret dX1_happen_85 rfl ⟨rfl, h⟩
def q_X1_happen_62 (p2 : Int32) (p3 : Int32)  (Q : Sto → Prop)  (S : Sto) : Prop := ((¬ p2 = 3 → ((¬ p2 = 4 → q_X1_happen_85 p2 p3  Q  S) ∧ (p2 = 4 → wp_X1_goLater p3 S (fun S_3 => q_X1_happen_85 p2 p3  Q  S_3)))) ∧ (p2 = 3 → ∀ S_5 : Sto, S_5 = uA S 48 10 p3 → q_X1_happen_85 p2 p3  Q  S_5))
set_option maxRecDepth 100000 in
set_option maxHeartbeats 4000000 in
theorem l_X1_happen_62 {g : Gv} (p2 : Int32) (p3 : Int32)  (Q : Sto → Prop)    (S : Sto)  (h : q_X1_happen_62 p2 p3  Q  S) : RJ g cX1_happen RX1 none 4 5 62 [(0, .ref (g.1 + 48)), (1, .ref (g.1 + 1)), (2, .int p2), (3, .int p3)] [] S (Qv Q) := by
  unfold q_X1_happen_62 at h
  refine J_iload_n dX1_happen_62 rfl 2 rfl  ?_
  refine J_iconst (v := 3) dX1_happen_63 (by decide)  ?_
  refine J_icmp_ne (tgt := 75) dX1_happen_64 (by decide) (fun c_1 => ?_) (fun c_1 => ?_)
  · have h := h.1 c_1
    refine J_iload_n dX1_happen_75 rfl 2 rfl  ?_
    refine J_iconst (v := 4) dX1_happen_76 (by decide)  ?_
    refine J_icmp_ne (tgt := 85) dX1_happen_77 (by decide) (fun c_2 => ?_) (fun c_2 => ?_)
    · have h := h.1 c_2
      exact l_X1_happen_85 p2 p3  _    _  h
    · have h := h.2 c_2
      refine J_aload_n dX1_happen_80 rfl 0 rfl  ?_
      refine J_iload_n dX1_happen_81 rfl 3 rfl  ?_
      refine J_callV (h := 48) (ci := 0) (As := [.int p3]) (rest := []) (n := 1) dX1_happen_82 (c_X1_goLater p3  _ _ h) (by decide) rfl tb_4_13 tb_4_10 tb_1_5 tb_4_12 sl_27 (by decide) rfl (by decide) (by decide) (Nat.le_of_ble_eq_true rfl) rfl (fun v_r_4 S_3 hq => ?_)
      obtain ⟨rfl, h⟩ := hq
      dsimp only [Option.toList, List.cons_append, List.nil_append]
      exact l_X1_happen_85 p2 p3  _    _  h
  · have h := h.2 c_1
    refine J_aload_n dX1_happen_67 rfl 0 rfl  ?_
    refine J_iload_n dX1_happen_68 rfl 3 rfl  ?_
    refine J_puti (ci := 0) dX1_happen_69 10 rfl giX1 (by decide) (by decide) rfl rfl tyX1 tyX1_ok nmX1 rfl rfl rfl rfl tb_1_192 rfl  ?_
    refine J_nmS (fun S_5 eS_5 => ?_)
    have h := h S_5 eS_5
    refine J_goto (tgt := 85) dX1_happen_72 (by decide)  ?_
    exact l_X1_happen_85 p2 p3  _    _  h
def q_X1_happen_55 (p2 : Int32) (p3 : Int32)  (Q : Sto → Prop) (t2 : Int32) (S : Sto) : Prop := wp_X1_multiplyLater t2 p3 S (fun S_1 => q_X1_happen_85 p2 p3  Q  S_1)
set_option maxRecDepth 100000 in
set_option maxHeartbeats 4000000 in
theorem l_X1_happen_55 {g : Gv} (p2 : Int32) (p3 : Int32)  (Q : Sto → Prop)   (t2 : Int32) (S : Sto)  (h : q_X1_happen_55 p2 p3  Q t2 S) : RJ g cX1_happen RX1 none 4 5 55 [(0, .ref (g.1 + 48)), (1, .ref (g.1 + 1)), (2, .int p2), (3, .int p3)] [.int t2, .ref (g.1 + 1), .ref (g.1 + 48)] S (Qv Q) := by
  unfold q_X1_happen_55 at h
  refine J_iload_n dX1_happen_55 rfl 3 rfl  ?_
  refine J_callV (h := 48) (ci := 0) (As := [.ref (g.1 + 1), .int t2, .int p3]) (rest := []) (n := 3) dX1_happen_56 (c_X1_multiplyLater t2 p3  _ _ h) (by decide) rfl tb_4_9 tb_4_6 tb_1_5 tb_4_8 sl_26 (by decide) rfl (by decide) (by decide) (Nat.le_of_ble_eq_true rfl) rfl (fun v_r_2 S_1 hq => ?_)
  obtain ⟨rfl, h⟩ := hq
  dsimp only [Option.toList, List.cons_append, List.nil_append]
  refine J_goto (tgt := 85) dX1_happen_59 (by decide)  ?_
  exact l_X1_happen_85 p2 p3  _    _  h
def q_X1_happen_35 (p2 : Int32) (p3 : Int32)  (Q : Sto → Prop)  (S : Sto) : Prop := (((S.1 1 0) ≤ p3 → q_X1_happen_62 p2 p3  Q  S) ∧ (¬ (S.1 1 0) ≤ p3 → ((¬ p2 = 1 → q_X1_happen_55 p2 p3  Q 1 S) ∧ (p2 = 1 → q_X1_happen_55 p2 p3  Q 0 S))))
set_option maxRecDepth 100000 in
set_option maxHeartbeats 4000000 in
theorem l_X1_happen_35 {g : Gv} (p2 : Int32) (p3 : Int32)  (Q : Sto → Prop)    (S : Sto)  (h : q_X1_happen_35 p2 p3  Q  S) : RJ g cX1_happen RX1 none 4 5 35 [(0, .ref (g.1 + 48)), (1, .ref (g.1 + 1)), (2, .int p2), (3, .int p3)] [] S (Qv Q) := by
  unfold q_X1_happen_35 at h
  refine J_iload_n dX1_happen_35 rfl 3 rfl  ?_
  refine J_aload_n dX1_happen_36 rfl 1 rfl  ?_
  refine J_geti (ci := 2) dX1_happen_37 0 rfl giX4 (by decide) (by decide) rfl rfl tb_1_34 rfl  ?_
  refine J_icmp_ge (tgt := 62) dX1_happen_40 (by decide) (fun c_1 => ?_) (fun c_1 => ?_)
  · have h := h.1 c_1
    exact l_X1_happen_62 p2 p3  _    _  h
  · have h := h.2 c_1
    refine J_aload_n dX1_happen_43 rfl 0 rfl  ?_
    refine J_aload_n dX1_happen_44 rfl 1 rfl  ?_
    refine J_iload_n dX1_happen_45 rfl 2 rfl  ?_
    refine J_iconst (v := 1) dX1_happen_46 (by decide)  ?_
    refine J_icmp_ne (tgt := 54) dX1_happen_47 (by decide) (fun c_2 => ?_) (fun c_2 => ?_)
    · have h := h.1 c_2
      refine J_iconst (v := 1) dX1_happen_54 (by decide)  ?_
      exact l_X1_happen_55 p2 p3  _   _ _  h
    · have h := h.2 c_2
      refine J_iconst (v := 0) dX1_happen_50 (by decide)  ?_
      refine J_goto (tgt := 55) dX1_happen_51 (by decide)  ?_
      exact l_X1_happen_55 p2 p3  _   _ _  h
def q_X1_happen_25 (p2 : Int32) (p3 : Int32)  (Q : Sto → Prop)  (S : Sto) : Prop := ((p2 = 1 → q_X1_happen_35 p2 p3  Q  S) ∧ (¬ p2 = 1 → ((¬ p2 = 2 → q_X1_happen_62 p2 p3  Q  S) ∧ (p2 = 2 → q_X1_happen_35 p2 p3  Q  S))))
set_option maxRecDepth 100000 in
set_option maxHeartbeats 4000000 in
theorem l_X1_happen_25 {g : Gv} (p2 : Int32) (p3 : Int32)  (Q : Sto → Prop)    (S : Sto)  (h : q_X1_happen_25 p2 p3  Q  S) : RJ g cX1_happen RX1 none 4 5 25 [(0, .ref (g.1 + 48)), (1, .ref (g.1 + 1)), (2, .int p2), (3, .int p3)] [] S (Qv Q) := by
  unfold q_X1_happen_25 at h
  refine J_iload_n dX1_happen_25 rfl 2 rfl  ?_
  refine J_iconst (v := 1) dX1_happen_26 (by decide)  ?_
  refine J_icmp_eq (tgt := 35) dX1_happen_27 (by decide) (fun c_1 => ?_) (fun c_1 => ?_)
  · have h := h.1 c_1
    exact l_X1_happen_35 p2 p3  _    _  h
  · have h := h.2 c_1
    refine J_iload_n dX1_happen_30 rfl 2 rfl  ?_
    refine J_iconst (v := 2) dX1_happen_31 (by decide)  ?_
    refine J_icmp_ne (tgt := 62) dX1_happen_32 (by decide) (fun c_2 => ?_) (fun c_2 => ?_)
    · have h := h.1 c_2
      exact l_X1_happen_62 p2 p3  _    _  h
    · have h := h.2 c_2
      exact l_X1_happen_35 p2 p3  _    _  h
def wp_X1_happen (p2 : Int32) (p3 : Int32) (S : Sto) (Q : Sto → Prop) : Prop := ((¬ p2 = 0 → q_X1_happen_25 p2 p3  Q  S) ∧ (p2 = 0 → wp_X4_hasElement p3 S (fun r_3 S_2 => ((r_3 = 0 → q_X1_happen_25 p2 p3  Q  S_2) ∧ (¬ r_3 = 0 → vp_in p3 (6) ∧ wp_X1_comeLater (2 + 1 + (p3 : Int32).toNatClampNeg) S_2 (fun S_6 => q_X1_happen_85 p2 p3  Q  S_6))))))
set_option maxRecDepth 100000 in
set_option maxHeartbeats 4000000 in
theorem c_X1_happen {g : Gv} (p2 : Int32) (p3 : Int32)  (S : Sto) (Q : Sto → Prop) (h : wp_X1_happen p2 p3 S Q) : CT g yX1_happen cX1_happen 4 none 5 [.ref (g.1 + 48), .ref (g.1 + 1), .int p2, .int p3] S (Qv Q) := by
  unfold wp_X1_happen at h
  refine CT.of (by decide) (Nat.le_of_ble_eq_true rfl) ?_
  refine J_sub (lv' := [(0, .ref (g.1 + 48)), (1, .ref (g.1 + 1)), (2, .int p2), (3, .int p3)]) [0, 1, 2, 3] rfl ?_
  refine J_iload_n dX1_happen_0 rfl 2 rfl  ?_
  refine J_if_ne (tgt := 25) dX1_happen_1 (by decide) (fun c_1 => ?_) (fun c_1 => ?_)
  · have h := h.1 c_1
    exact l_X1_happen_25 p2 p3  _    _  h
  · have h := h.2 c_1
    refine J_aload_n dX1_happen_4 rfl 1 rfl  ?_
    refine J_iload_n dX1_happen_5 rfl 3 rfl  ?_
    refine J_callV (h := 1) (ci := 2) (As := [.int p3]) (rest := []) (n := 1) dX1_happen_6 (c_X4_hasElement p3  _ _ h) (by decide) rfl tb_2_83 tb_4_5 tb_1_2 tb_2_81 tb_2_82 (by decide) rfl (by decide) (by decide) (Nat.le_of_ble_eq_true rfl) rfl (fun v_r_3 S_2 hq => ?_)
    obtain ⟨r_3, rfl, h⟩ := hq
    dsimp only [Option.toList, List.cons_append, List.nil_append]
    refine J_if_eq (tgt := 25) dX1_happen_9 (by decide) (fun c_4 => ?_) (fun c_4 => ?_)
    · have h := h.1 c_4
      exact l_X1_happen_25 p2 p3  _    _  h
    · have h := h.2 c_4
      refine J_aload_n dX1_happen_12 rfl 0 rfl  ?_
      refine J_aload_n dX1_happen_13 rfl 1 rfl  ?_
      refine J_getr (r := 2) (ci := 2) dX1_happen_14 3 rfl giX4 (by decide) (by decide) rfl rfl tb_1_47 (by decide) (by decide)  ?_
      refine J_iload_n dX1_happen_17 rfl 3 rfl  ?_
      obtain ⟨hi_5, h⟩ := h
      refine J_aald3 dX1_happen_18 (by decide) hi_5  ?_
      refine J_callV (h := 48) (ci := 0) (As := [.ref (g.1 + (2 + 1 + (p3 : Int32).toNatClampNeg))]) (rest := []) (n := 1) dX1_happen_19 (c_X1_comeLater (2 + 1 + (p3 : Int32).toNatClampNeg) (kd_row3 (by decide) hi_5) _ _ h) (by decide) rfl tb_4_0 tb_3_237 tb_1_5 tb_3_239 sl_24 (by decide) rfl (by decide) (by decide) (Nat.le_of_ble_eq_true rfl) rfl (fun v_r_7 S_6 hq => ?_)
      obtain ⟨rfl, h⟩ := hq
      dsimp only [Option.toList, List.cons_append, List.nil_append]
      refine J_goto (tgt := 85) dX1_happen_22 (by decide)  ?_
      exact l_X1_happen_85 p2 p3  _    _  h
def q_X1_afterEvents_78 (p2 : Int32)  (Q : Nat → Sto → Prop)  (S : Sto) : Prop := wp_X4_width  S (fun r_2 S_1 => wp_X5_begin 164 r_2 (S_1.1 1 1) (S_1.1 48 10) S_1 (fun S_3 => wp_X1_complete 164 p2 183 (S_3.1 48 9) S_3 (fun S_5 => Q 164 S_5)))
set_option maxRecDepth 100000 in
set_option maxHeartbeats 4000000 in
theorem l_X1_afterEvents_78 {g : Gv} (p2 : Int32)  (Q : Nat → Sto → Prop)    (S : Sto)  (h : q_X1_afterEvents_78 p2  Q  S) : RJ g cX1_afterEvents RX1 (some (.object "OuterIdeals$Span")) 4 6 78 [(0, .ref (g.1 + 48)), (1, .ref (g.1 + 1)), (2, .int p2)] [] S (Qr g 8 Q) := by
  unfold q_X1_afterEvents_78 at h
  refine J_aload_n dX1_afterEvents_78 rfl 0 rfl  ?_
  refine J_getr (r := 164) (ci := 0) dX1_afterEvents_79 7 rfl giX1 (by decide) (by decide) rfl rfl tb_1_188 (by decide) (by decide)  ?_
  refine J_aload_n dX1_afterEvents_82 rfl 1 rfl  ?_
  refine J_callV (h := 1) (ci := 2) (As := []) (rest := [.ref (g.1 + 164)]) (n := 0) dX1_afterEvents_83 (c_X4_width   _ _ h) (by decide) rfl tb_2_91 tb_2_145 tb_1_2 tb_2_89 tb_2_90 (by decide) rfl (by decide) (by decide) (Nat.le_of_ble_eq_true rfl) rfl (fun v_r_2 S_1 hq => ?_)
  obtain ⟨r_2, rfl, h⟩ := hq
  dsimp only [Option.toList, List.cons_append, List.nil_append]
  refine J_aload_n dX1_afterEvents_86 rfl 1 rfl  ?_
  refine J_geti (ci := 2) dX1_afterEvents_87 1 rfl giX4 (by decide) (by decide) rfl rfl tb_1_38 rfl  ?_
  refine J_aload_n dX1_afterEvents_90 rfl 0 rfl  ?_
  refine J_geti (ci := 0) dX1_afterEvents_91 10 rfl giX1 (by decide) (by decide) rfl rfl tb_1_192 rfl  ?_
  refine J_callV (h := 164) (ci := 3) (As := [.int r_2, .int (S_1.1 1 1), .int (S_1.1 48 10)]) (rest := []) (n := 3) dX1_afterEvents_94 (c_X5_begin 164 r_2 (S_1.1 1 1) (S_1.1 48 10) (by decide) _ _ h) (by decide) rfl tb_2_149 tb_2_146 tb_1_6 tb_2_147 tb_2_148 (by decide) rfl (by decide) (by decide) (Nat.le_of_ble_eq_true rfl) rfl (fun v_r_4 S_3 hq => ?_)
  obtain ⟨rfl, h⟩ := hq
  dsimp only [Option.toList, List.cons_append, List.nil_append]
  refine J_aload_n dX1_afterEvents_97 rfl 0 rfl  ?_
  refine J_aload_n dX1_afterEvents_98 rfl 0 rfl  ?_
  refine J_getr (r := 164) (ci := 0) dX1_afterEvents_99 7 rfl giX1 (by decide) (by decide) rfl rfl tb_1_188 (by decide) (by decide)  ?_
  refine J_iload_n dX1_afterEvents_102 rfl 2 rfl  ?_
  refine J_aload_n dX1_afterEvents_103 rfl 1 rfl  ?_
  refine J_aload_n dX1_afterEvents_104 rfl 0 rfl  ?_
  refine J_getr (r := 183) (ci := 0) dX1_afterEvents_105 8 rfl giX1 (by decide) (by decide) rfl rfl tb_1_189 (by decide) (by decide)  ?_
  refine J_aload_n dX1_afterEvents_108 rfl 0 rfl  ?_
  refine J_geti (ci := 0) dX1_afterEvents_109 9 rfl giX1 (by decide) (by decide) rfl rfl tb_1_190 rfl  ?_
  refine J_callV (h := 48) (ci := 0) (As := [.ref (g.1 + 164), .int p2, .ref (g.1 + 1), .ref (g.1 + 183), .int (S_3.1 48 9)]) (rest := []) (n := 5) dX1_afterEvents_112 (c_X1_complete 164 p2 183 (S_3.1 48 9) (by decide) (by decide) _ _ h) (by decide) rfl tb_2_159 tb_2_156 tb_1_5 tb_2_158 sl_1 (by decide) rfl (by decide) (by decide) (Nat.le_of_ble_eq_true rfl) rfl (fun v_r_6 S_5 hq => ?_)
  obtain ⟨rfl, h⟩ := hq
  dsimp only [Option.toList, List.cons_append, List.nil_append]
  refine J_aload_n dX1_afterEvents_115 rfl 0 rfl  ?_
  refine J_getr (r := 164) (ci := 0) dX1_afterEvents_116 7 rfl giX1 (by decide) (by decide) rfl rfl tb_1_188 (by decide) (by decide)  ?_
  exact J_aret dX1_afterEvents_119 rfl ⟨_, rfl, (by decide), h⟩
def q_X1_afterEvents_41 (p2 : Int32)  (Q : Nat → Sto → Prop) : Nat → Int32 → Sto → Prop
  | 0, _, _ => False
  | n + 1, x3, S => (((S.1 1 8) ≤ x3 → q_X1_afterEvents_78 p2  Q  S) ∧ (¬ (S.1 1 8) ≤ x3 → ((8 ≤ x3 → q_X1_afterEvents_78 p2  Q  S) ∧ (¬ 8 ≤ x3 → vp_in x3 (8) ∧ vp_in x3 (8) ∧ wp_X1_happen (S.1 14 (x3 : Int32).toNatClampNeg) (S.1 15 (x3 : Int32).toNatClampNeg) S (fun S_5 => ∀ x3_7 : Int32, x3_7 = x3 + 1 → q_X1_afterEvents_41 p2  Q n x3_7 S_5)))))
set_option maxRecDepth 100000 in
set_option maxHeartbeats 4000000 in
theorem l_X1_afterEvents_41 {g : Gv} (p2 : Int32)  (Q : Nat → Sto → Prop)   (n : Nat) : ∀ (x3 : Int32) (S : Sto)  (h : q_X1_afterEvents_41 p2  Q n x3 S), RJ g cX1_afterEvents RX1 (some (.object "OuterIdeals$Span")) 4 6 41 [(0, .ref (g.1 + 48)), (1, .ref (g.1 + 1)), (2, .int p2), (3, .int x3)] [] S (Qr g 8 Q) := by
  induction n with
  | zero => intro x3 S  h; exact h.elim
  | succ n ih =>
    intro x3 S  h
    unfold q_X1_afterEvents_41 at h
    refine J_iload_n dX1_afterEvents_41 rfl 3 rfl  ?_
    refine J_aload_n dX1_afterEvents_42 rfl 1 rfl  ?_
    refine J_geti (ci := 2) dX1_afterEvents_43 8 rfl giX4 (by decide) (by decide) rfl rfl tb_1_61 rfl  ?_
    refine J_icmp_ge (tgt := 78) dX1_afterEvents_46 (by decide) (fun c_1 => ?_) (fun c_1 => ?_)
    · have h := h.1 c_1
      refine J_sub (lv' := [(0, .ref (g.1 + 48)), (1, .ref (g.1 + 1)), (2, .int p2)]) [0, 1, 2] rfl ?_
      exact l_X1_afterEvents_78 p2  _    _  h
    · have h := h.2 c_1
      refine J_iload_n dX1_afterEvents_49 rfl 3 rfl  ?_
      refine J_bipush (v := 8) dX1_afterEvents_50 (by decide)  ?_
      refine J_icmp_ge (tgt := 78) dX1_afterEvents_52 (by decide) (fun c_2 => ?_) (fun c_2 => ?_)
      · have h := h.1 c_2
        refine J_sub (lv' := [(0, .ref (g.1 + 48)), (1, .ref (g.1 + 1)), (2, .int p2)]) [0, 1, 2] rfl ?_
        exact l_X1_afterEvents_78 p2  _    _  h
      · have h := h.2 c_2
        refine J_aload_n dX1_afterEvents_55 rfl 0 rfl  ?_
        refine J_aload_n dX1_afterEvents_56 rfl 1 rfl  ?_
        refine J_aload_n dX1_afterEvents_57 rfl 1 rfl  ?_
        refine J_getr (r := 14) (ci := 2) dX1_afterEvents_58 6 rfl giX4 (by decide) (by decide) rfl rfl tb_1_57 (by decide) (by decide)  ?_
        refine J_iload_n dX1_afterEvents_61 rfl 3 rfl  ?_
        obtain ⟨hi_3, h⟩ := h
        refine J_iald dX1_afterEvents_62 (by decide) hi_3  ?_
        refine J_aload_n dX1_afterEvents_63 rfl 1 rfl  ?_
        refine J_getr (r := 15) (ci := 2) dX1_afterEvents_64 7 rfl giX4 (by decide) (by decide) rfl rfl tb_1_59 (by decide) (by decide)  ?_
        refine J_iload_n dX1_afterEvents_67 rfl 3 rfl  ?_
        obtain ⟨hi_4, h⟩ := h
        refine J_iald dX1_afterEvents_68 (by decide) hi_4  ?_
        refine J_callV (h := 48) (ci := 0) (As := [.ref (g.1 + 1), .int (S.1 14 (x3 : Int32).toNatClampNeg), .int (S.1 15 (x3 : Int32).toNatClampNeg)]) (rest := []) (n := 3) dX1_afterEvents_69 (c_X1_happen (S.1 14 (x3 : Int32).toNatClampNeg) (S.1 15 (x3 : Int32).toNatClampNeg)  _ _ h) (by decide) rfl tb_4_4 tb_4_1 tb_1_5 tb_4_3 sl_25 (by decide) rfl (by decide) (by decide) (Nat.le_of_ble_eq_true rfl) rfl (fun v_r_6 S_5 hq => ?_)
        obtain ⟨rfl, h⟩ := hq
        dsimp only [Option.toList, List.cons_append, List.nil_append]
        obtain ⟨x3_7, ex3_7⟩ : ∃ y : Int32, y = x3 + 1 := ⟨_, rfl⟩
        have h := h x3_7 ex3_7
        refine J_iinc (v := x3_7) (lv' := [(0, .ref (g.1 + 48)), (1, .ref (g.1 + 1)), (2, .int p2), (3, .int x3_7)]) dX1_afterEvents_72 (q := 3) rfl (by rw [ex3_7]; rfl) (by decide) [1, 2, 3, 0] rfl  ?_
        refine J_goto (tgt := 41) dX1_afterEvents_75 (by decide)  ?_
        exact ih _ _  h
def q_X1_afterEvents_7 (p2 : Int32)  (Q : Nat → Sto → Prop) : Nat → Int32 → Sto → Prop
  | 0, _, _ => False
  | n + 1, x3, S => (((S.1 1 5) ≤ x3 → ∀ S_2 : Sto, S_2 = uA S 48 10 (S.1 1 2) → (∃ n_41, q_X1_afterEvents_41 p2  Q n_41 0 S_2)) ∧ (¬ (S.1 1 5) ≤ x3 → vp_in x3 (4) ∧ wp_X1_comeLater (9 + 1 + (x3 : Int32).toNatClampNeg) S (fun S_4 => ∀ x3_6 : Int32, x3_6 = x3 + 1 → q_X1_afterEvents_7 p2  Q n x3_6 S_4)))
set_option maxRecDepth 100000 in
set_option maxHeartbeats 4000000 in
theorem l_X1_afterEvents_7 {g : Gv} (p2 : Int32)  (Q : Nat → Sto → Prop)   (n : Nat) : ∀ (x3 : Int32) (S : Sto)  (h : q_X1_afterEvents_7 p2  Q n x3 S), RJ g cX1_afterEvents RX1 (some (.object "OuterIdeals$Span")) 4 6 7 [(0, .ref (g.1 + 48)), (1, .ref (g.1 + 1)), (2, .int p2), (3, .int x3)] [] S (Qr g 8 Q) := by
  induction n with
  | zero => intro x3 S  h; exact h.elim
  | succ n ih =>
    intro x3 S  h
    unfold q_X1_afterEvents_7 at h
    refine J_iload_n dX1_afterEvents_7 rfl 3 rfl  ?_
    refine J_aload_n dX1_afterEvents_8 rfl 1 rfl  ?_
    refine J_geti (ci := 2) dX1_afterEvents_9 5 rfl giX4 (by decide) (by decide) rfl rfl tb_1_53 rfl  ?_
    refine J_icmp_ge (tgt := 31) dX1_afterEvents_12 (by decide) (fun c_1 => ?_) (fun c_1 => ?_)
    · have h := h.1 c_1
      refine J_aload_n dX1_afterEvents_31 rfl 0 rfl  ?_
      refine J_aload_n dX1_afterEvents_32 rfl 1 rfl  ?_
      refine J_geti (ci := 2) dX1_afterEvents_33 2 rfl giX4 (by decide) (by decide) rfl rfl tb_1_43 rfl  ?_
      refine J_puti (ci := 0) dX1_afterEvents_36 10 rfl giX1 (by decide) (by decide) rfl rfl tyX1 tyX1_ok nmX1 rfl rfl rfl rfl tb_1_192 rfl  ?_
      refine J_nmS (fun S_2 eS_2 => ?_)
      have h := h S_2 eS_2
      refine J_iconst (v := 0) dX1_afterEvents_39 (by decide)  ?_
      refine J_istore_n (lv' := [(0, .ref (g.1 + 48)), (1, .ref (g.1 + 1)), (2, .int p2), (3, .int 0)]) dX1_afterEvents_40 rfl (by decide) [1, 2, 3, 0] rfl  ?_
      obtain ⟨n, h⟩ := h
      exact l_X1_afterEvents_41 p2  _   n _ _  h
    · have h := h.2 c_1
      refine J_aload_n dX1_afterEvents_15 rfl 0 rfl  ?_
      refine J_aload_n dX1_afterEvents_16 rfl 1 rfl  ?_
      refine J_getr (r := 9) (ci := 2) dX1_afterEvents_17 4 rfl giX4 (by decide) (by decide) rfl rfl tb_1_49 (by decide) (by decide)  ?_
      refine J_iload_n dX1_afterEvents_20 rfl 3 rfl  ?_
      obtain ⟨hi_3, h⟩ := h
      refine J_aald3 dX1_afterEvents_21 (by decide) hi_3  ?_
      refine J_callV (h := 48) (ci := 0) (As := [.ref (g.1 + (9 + 1 + (x3 : Int32).toNatClampNeg))]) (rest := []) (n := 1) dX1_afterEvents_22 (c_X1_comeLater (9 + 1 + (x3 : Int32).toNatClampNeg) (kd_row3 (by decide) hi_3) _ _ h) (by decide) rfl tb_4_0 tb_3_237 tb_1_5 tb_3_239 sl_24 (by decide) rfl (by decide) (by decide) (Nat.le_of_ble_eq_true rfl) rfl (fun v_r_5 S_4 hq => ?_)
      obtain ⟨rfl, h⟩ := hq
      dsimp only [Option.toList, List.cons_append, List.nil_append]
      obtain ⟨x3_6, ex3_6⟩ : ∃ y : Int32, y = x3 + 1 := ⟨_, rfl⟩
      have h := h x3_6 ex3_6
      refine J_iinc (v := x3_6) (lv' := [(0, .ref (g.1 + 48)), (1, .ref (g.1 + 1)), (2, .int p2), (3, .int x3_6)]) dX1_afterEvents_25 (q := 3) rfl (by rw [ex3_6]; rfl) (by decide) [1, 2, 3, 0] rfl  ?_
      refine J_goto (tgt := 7) dX1_afterEvents_28 (by decide)  ?_
      exact ih _ _  h
def wp_X1_afterEvents (p2 : Int32) (S : Sto) (Q : Nat → Sto → Prop) : Prop := ∀ S_1 : Sto, S_1 = uA S 48 9 0 → (∃ n_7, q_X1_afterEvents_7 p2  Q n_7 0 S_1)
set_option maxRecDepth 100000 in
set_option maxHeartbeats 4000000 in
theorem c_X1_afterEvents {g : Gv} (p2 : Int32)  (S : Sto) (Q : Nat → Sto → Prop) (h : wp_X1_afterEvents p2 S Q) : CT g yX1_afterEvents cX1_afterEvents 4 (some (.object "OuterIdeals$Span")) 6 [.ref (g.1 + 48), .ref (g.1 + 1), .int p2] S (Qr g 8 Q) := by
  unfold wp_X1_afterEvents at h
  refine CT.of (by decide) (Nat.le_of_ble_eq_true rfl) ?_
  refine J_sub (lv' := [(0, .ref (g.1 + 48)), (1, .ref (g.1 + 1)), (2, .int p2)]) [0, 1, 2] rfl ?_
  refine J_aload_n dX1_afterEvents_0 rfl 0 rfl  ?_
  refine J_iconst (v := 0) dX1_afterEvents_1 (by decide)  ?_
  refine J_puti (ci := 0) dX1_afterEvents_2 9 rfl giX1 (by decide) (by decide) rfl rfl tyX1 tyX1_ok nmX1 rfl rfl rfl rfl tb_1_190 rfl  ?_
  refine J_nmS (fun S_1 eS_1 => ?_)
  have h := h S_1 eS_1
  refine J_iconst (v := 0) dX1_afterEvents_5 (by decide)  ?_
  refine J_istore_n (lv' := [(0, .ref (g.1 + 48)), (1, .ref (g.1 + 1)), (2, .int p2), (3, .int 0)]) dX1_afterEvents_6 rfl (by decide) [1, 2, 3, 0] rfl  ?_
  obtain ⟨n, h⟩ := h
  exact l_X1_afterEvents_7 p2  _   n _ _  h
def q_X2_placesOfDegree_23 (p0 : Int32) (p1 : Int32) (R4 : Int32 → Int32 → Sto → Prop) (Q : Int32 → Sto → Prop) (x3 : Int32) (t0 : Int32) (t1 : Int32) (S : Sto) : Prop := ∀ x2_1 : Int32, x2_1 = t0 + t1 → ∀ x3_2 : Int32, x3_2 = x3 + 1 → R4 x2_1 x3_2 S
set_option maxRecDepth 100000 in
set_option maxHeartbeats 4000000 in
theorem l_X2_placesOfDegree_23 {g : Gv} (p0 : Int32) (p1 : Int32) (R4 : Int32 → Int32 → Sto → Prop) (Q : Int32 → Sto → Prop) (hR4 : ∀ (y2 : Int32) (y3 : Int32) (S : Sto), R4 y2 y3 S → RJ g cX2_placesOfDegree RX2 (some .int) 4 2 4 [(0, .int p0), (1, .int p1), (2, .int y2), (3, .int y3)] [] S (Qi Q))  (x3 : Int32) (t0 : Int32) (t1 : Int32) (S : Sto)  (h : q_X2_placesOfDegree_23 p0 p1 R4 Q x3 t0 t1 S) : RJ g cX2_placesOfDegree RX2 (some .int) 4 2 23 [(0, .int p0), (1, .int p1), (3, .int x3)] [.int t1, .int t0] S (Qi Q) := by
  unfold q_X2_placesOfDegree_23 at h
  refine J_iadd dX2_placesOfDegree_23  ?_
  refine J_topi (fun x2_1 ex2_1 => ?_)
  have h := h x2_1 ex2_1
  refine J_istore_n (lv' := [(0, .int p0), (1, .int p1), (2, .int x2_1), (3, .int x3)]) dX2_placesOfDegree_24 rfl (by decide) [1, 2, 0, 3] rfl  ?_
  obtain ⟨x3_2, ex3_2⟩ : ∃ y : Int32, y = x3 + 1 := ⟨_, rfl⟩
  have h := h x3_2 ex3_2
  refine J_iinc (v := x3_2) (lv' := [(0, .int p0), (1, .int p1), (2, .int x2_1), (3, .int x3_2)]) dX2_placesOfDegree_25 (q := 3) rfl (by rw [ex3_2]; rfl) (by decide) [1, 2, 3, 0] rfl  ?_
  refine J_goto (tgt := 4) dX2_placesOfDegree_28 (by decide)  ?_
  exact hR4 _ _ _  h
def q_X2_placesOfDegree_4 (p0 : Int32) (p1 : Int32)  (Q : Int32 → Sto → Prop) : Nat → Int32 → Int32 → Sto → Prop
  | 0, _, _, _ => False
  | n + 1, x2, x3, S => ((p1 ≤ x3 → Q x2 S) ∧ (¬ p1 ≤ x3 → wp_J6_bitCount_0f7a4 x3 S (fun r_3 S_2 => ((¬ r_3 = p0 → q_X2_placesOfDegree_23 p0 p1 (fun y2 y3 S => q_X2_placesOfDegree_4 p0 p1  Q n y2 y3 S) Q x3 x2 0 S_2) ∧ (r_3 = p0 → q_X2_placesOfDegree_23 p0 p1 (fun y2 y3 S => q_X2_placesOfDegree_4 p0 p1  Q n y2 y3 S) Q x3 x2 1 S_2)))))
set_option maxRecDepth 100000 in
set_option maxHeartbeats 4000000 in
theorem l_X2_placesOfDegree_4 {g : Gv} (p0 : Int32) (p1 : Int32)  (Q : Int32 → Sto → Prop)   (n : Nat) : ∀ (x2 : Int32) (x3 : Int32) (S : Sto)  (h : q_X2_placesOfDegree_4 p0 p1  Q n x2 x3 S), RJ g cX2_placesOfDegree RX2 (some .int) 4 2 4 [(0, .int p0), (1, .int p1), (2, .int x2), (3, .int x3)] [] S (Qi Q) := by
  induction n with
  | zero => intro x2 x3 S  h; exact h.elim
  | succ n ih =>
    intro x2 x3 S  h
    unfold q_X2_placesOfDegree_4 at h
    refine J_iload_n dX2_placesOfDegree_4 rfl 3 rfl  ?_
    refine J_iload_n dX2_placesOfDegree_5 rfl 1 rfl  ?_
    refine J_icmp_ge (tgt := 31) dX2_placesOfDegree_6 (by decide) (fun c_1 => ?_) (fun c_1 => ?_)
    · have h := h.1 c_1
      refine J_iload_n dX2_placesOfDegree_31 rfl 2 rfl  ?_
      exact J_iret dX2_placesOfDegree_32 rfl rfl ⟨_, rfl, h⟩
    · have h := h.2 c_1
      refine J_iload_n dX2_placesOfDegree_9 rfl 2 rfl  ?_
      refine J_iload_n dX2_placesOfDegree_10 rfl 3 rfl  ?_
      refine J_callS (As := [.int x3]) (rest := [.int x2]) (n := 1) dX2_placesOfDegree_11 (c_J6_bitCount_0f7a4 x3  _ _ h) tb_2_111 tb_2_109 tb_1_11 tb_2_110 (by decide) rfl (by decide) (by decide) (Nat.le_of_ble_eq_true rfl) rfl (fun v_r_3 S_2 hq => ?_)
      obtain ⟨r_3, rfl, h⟩ := hq
      dsimp only [Option.toList, List.cons_append, List.nil_append]
      refine J_iload_n dX2_placesOfDegree_14 rfl 0 rfl  ?_
      refine J_icmp_ne (tgt := 22) dX2_placesOfDegree_15 (by decide) (fun c_4 => ?_) (fun c_4 => ?_)
      · have h := h.1 c_4
        refine J_iconst (v := 0) dX2_placesOfDegree_22 (by decide)  ?_
        refine J_sub (lv' := [(0, .int p0), (1, .int p1), (3, .int x3)]) [0, 1, 3] rfl ?_
        exact l_X2_placesOfDegree_23 p0 p1 _ _ (fun y2 y3 S  h => ih y2 y3 S  h)  _ _ _ _  h
      · have h := h.2 c_4
        refine J_iconst (v := 1) dX2_placesOfDegree_18 (by decide)  ?_
        refine J_goto (tgt := 23) dX2_placesOfDegree_19 (by decide)  ?_
        refine J_sub (lv' := [(0, .int p0), (1, .int p1), (3, .int x3)]) [0, 1, 3] rfl ?_
        exact l_X2_placesOfDegree_23 p0 p1 _ _ (fun y2 y3 S  h => ih y2 y3 S  h)  _ _ _ _  h
def wp_X2_placesOfDegree (p0 : Int32) (p1 : Int32) (S : Sto) (Q : Int32 → Sto → Prop) : Prop := (∃ n_4, q_X2_placesOfDegree_4 p0 p1  Q n_4 0 0 S)
set_option maxRecDepth 100000 in
set_option maxHeartbeats 4000000 in
theorem c_X2_placesOfDegree {g : Gv} (p0 : Int32) (p1 : Int32)  (S : Sto) (Q : Int32 → Sto → Prop) (h : wp_X2_placesOfDegree p0 p1 S Q) : CT g yX2_placesOfDegree cX2_placesOfDegree 4 (some .int) 2 [.int p0, .int p1] S (Qi Q) := by
  unfold wp_X2_placesOfDegree at h
  refine CT.of (by decide) (Nat.le_of_ble_eq_true rfl) ?_
  refine J_sub (lv' := [(0, .int p0), (1, .int p1)]) [0, 1] rfl ?_
  refine J_iconst (v := 0) dX2_placesOfDegree_0 (by decide)  ?_
  refine J_istore_n (lv' := [(0, .int p0), (1, .int p1), (2, .int 0)]) dX2_placesOfDegree_1 rfl (by decide) [1, 2, 0] rfl  ?_
  refine J_iconst (v := 0) dX2_placesOfDegree_2 (by decide)  ?_
  refine J_istore_n (lv' := [(0, .int p0), (1, .int p1), (2, .int 0), (3, .int 0)]) dX2_placesOfDegree_3 rfl (by decide) [1, 2, 3, 0] rfl  ?_
  obtain ⟨n, h⟩ := h
  exact l_X2_placesOfDegree_4 p0 p1  _   n _ _ _  h
def q_X2_multiply_59 (p0 : Nat) (p1 : Nat) (p2 : Nat) (p3 : Int32) (p4 : Int32) (R3 : Int32 → Sto → Prop) (R15 : Int32 → Int32 → Int32 → Sto → Prop) (Q : Sto → Prop) (x5 : Int32) (x6 : Int32) (x7 : Int32) (S : Sto) : Prop := ∀ x7_1 : Int32, x7_1 = x7 + 1 → R15 x5 x6 x7_1 S
set_option maxRecDepth 100000 in
set_option maxHeartbeats 4000000 in
theorem l_X2_multiply_59 {g : Gv} (p0 : Nat) (p1 : Nat) (p2 : Nat) (p3 : Int32) (p4 : Int32) (R3 : Int32 → Sto → Prop) (R15 : Int32 → Int32 → Int32 → Sto → Prop) (Q : Sto → Prop) (hR3 : ∀ (y5 : Int32) (S : Sto), R3 y5 S → RJ g cX2_multiply RX2 none 8 3 3 [(0, .ref (g.1 + p0)), (1, .ref (g.1 + p1)), (2, .ref (g.1 + p2)), (3, .int p3), (4, .int p4), (5, .int y5)] [] S (Qv Q)) (hR15 : ∀ (y5 : Int32) (y6 : Int32) (y7 : Int32) (S : Sto), R15 y5 y6 y7 S → RJ g cX2_multiply RX2 none 8 3 15 [(0, .ref (g.1 + p0)), (1, .ref (g.1 + p1)), (2, .ref (g.1 + p2)), (3, .int p3), (4, .int p4), (5, .int y5), (6, .int y6), (7, .int y7)] [] S (Qv Q)) (hp0 : kd p0 = 0) (hp1 : kd p1 = 0) (hp2 : kd p2 = 0) (x5 : Int32) (x6 : Int32) (x7 : Int32) (S : Sto)  (h : q_X2_multiply_59 p0 p1 p2 p3 p4 R3 R15 Q x5 x6 x7 S) : RJ g cX2_multiply RX2 none 8 3 59 [(0, .ref (g.1 + p0)), (1, .ref (g.1 + p1)), (2, .ref (g.1 + p2)), (3, .int p3), (4, .int p4), (5, .int x5), (6, .int x6), (7, .int x7)] [] S (Qv Q) := by
  unfold q_X2_multiply_59 at h
  obtain ⟨x7_1, ex7_1⟩ : ∃ y : Int32, y = x7 + 1 := ⟨_, rfl⟩
  have h := h x7_1 ex7_1
  refine J_iinc (v := x7_1) (lv' := [(0, .ref (g.1 + p0)), (1, .ref (g.1 + p1)), (2, .ref (g.1 + p2)), (3, .int p3), (4, .int p4), (5, .int x5), (6, .int x6), (7, .int x7_1)]) dX2_multiply_59 (q := 7) rfl (by rw [ex7_1]; rfl) (by decide) [1, 2, 3, 4, 5, 6, 7, 0] rfl  ?_
  refine J_goto (tgt := 15) dX2_multiply_62 (by decide)  ?_
  exact hR15 _ _ _ _  h
def q_X2_multiply_15 (p0 : Nat) (p1 : Nat) (p2 : Nat) (p3 : Int32) (p4 : Int32) (R3 : Int32 → Sto → Prop) (Q : Sto → Prop) : Nat → Int32 → Int32 → Int32 → Sto → Prop
  | 0, _, _, _, _ => False
  | n + 1, x5, x6, x7, S => ((p3 ≤ x7 → wp_X2_modulo x6 p4 S (fun r_3 S_2 => vp_in x5 (ln p2) ∧ ∀ S_5 : Sto, S_5 = uA S_2 p2 (x5 : Int32).toNatClampNeg r_3 → ∀ x5_6 : Int32, x5_6 = x5 + 1 → R3 x5_6 S_5)) ∧ (¬ p3 ≤ x7 → ((¬ (x7 &&& (x5 ^^^ ((-1)))) = 0 → q_X2_multiply_59 p0 p1 p2 p3 p4 R3 (fun y5 y6 y7 S => q_X2_multiply_15 p0 p1 p2 p3 p4 R3 Q n y5 y6 y7 S) Q x5 x6 x7 S) ∧ ((x7 &&& (x5 ^^^ ((-1)))) = 0 → wp_X2_sign x7 (x5 ^^^ x7) S (fun r_9 S_8 => vp_in x7 (ln p0) ∧ vp_in (x5 ^^^ x7) (ln p1) ∧ ∀ x6_12 : Int32, x6_12 = x6 + ((r_9 * (S_8.1 p0 (x7 : Int32).toNatClampNeg)) * (S_8.1 p1 (x5 ^^^ x7 : Int32).toNatClampNeg)) → q_X2_multiply_59 p0 p1 p2 p3 p4 R3 (fun y5 y6 y7 S => q_X2_multiply_15 p0 p1 p2 p3 p4 R3 Q n y5 y6 y7 S) Q x5 x6_12 x7 S_8)))))
set_option maxRecDepth 100000 in
set_option maxHeartbeats 4000000 in
theorem l_X2_multiply_15 {g : Gv} (p0 : Nat) (p1 : Nat) (p2 : Nat) (p3 : Int32) (p4 : Int32) (R3 : Int32 → Sto → Prop) (Q : Sto → Prop) (hR3 : ∀ (y5 : Int32) (S : Sto), R3 y5 S → RJ g cX2_multiply RX2 none 8 3 3 [(0, .ref (g.1 + p0)), (1, .ref (g.1 + p1)), (2, .ref (g.1 + p2)), (3, .int p3), (4, .int p4), (5, .int y5)] [] S (Qv Q)) (hp0 : kd p0 = 0) (hp1 : kd p1 = 0) (hp2 : kd p2 = 0) (n : Nat) : ∀ (x5 : Int32) (x6 : Int32) (x7 : Int32) (S : Sto)  (h : q_X2_multiply_15 p0 p1 p2 p3 p4 R3 Q n x5 x6 x7 S), RJ g cX2_multiply RX2 none 8 3 15 [(0, .ref (g.1 + p0)), (1, .ref (g.1 + p1)), (2, .ref (g.1 + p2)), (3, .int p3), (4, .int p4), (5, .int x5), (6, .int x6), (7, .int x7)] [] S (Qv Q) := by
  induction n with
  | zero => intro x5 x6 x7 S  h; exact h.elim
  | succ n ih =>
    intro x5 x6 x7 S  h
    unfold q_X2_multiply_15 at h
    refine J_iload dX2_multiply_15 7 rfl  ?_
    refine J_iload_n dX2_multiply_17 rfl 3 rfl  ?_
    refine J_icmp_ge (tgt := 65) dX2_multiply_18 (by decide) (fun c_1 => ?_) (fun c_1 => ?_)
    · have h := h.1 c_1
      refine J_aload_n dX2_multiply_65 rfl 2 rfl  ?_
      refine J_iload dX2_multiply_66 5 rfl  ?_
      refine J_iload dX2_multiply_68 6 rfl  ?_
      refine J_iload dX2_multiply_70 4 rfl  ?_
      refine J_callS (As := [.int x6, .int p4]) (rest := [.int x5, .ref (g.1 + p2)]) (n := 2) dX2_multiply_72 (c_X2_modulo x6 p4  _ _ h) tb_2_94 tb_2_115 tb_1_9 tb_2_93 (by decide) rfl (by decide) (by decide) (Nat.le_of_ble_eq_true rfl) rfl (fun v_r_3 S_2 hq => ?_)
      obtain ⟨r_3, rfl, h⟩ := hq
      dsimp only [Option.toList, List.cons_append, List.nil_append]
      obtain ⟨hi_4, h⟩ := h
      refine J_iast dX2_multiply_75 hp2 hi_4  ?_
      refine J_nmS (fun S_5 eS_5 => ?_)
      have h := h S_5 eS_5
      obtain ⟨x5_6, ex5_6⟩ : ∃ y : Int32, y = x5 + 1 := ⟨_, rfl⟩
      have h := h x5_6 ex5_6
      refine J_iinc (v := x5_6) (lv' := [(0, .ref (g.1 + p0)), (1, .ref (g.1 + p1)), (2, .ref (g.1 + p2)), (3, .int p3), (4, .int p4), (5, .int x5_6), (6, .int x6), (7, .int x7)]) dX2_multiply_76 (q := 5) rfl (by rw [ex5_6]; rfl) (by decide) [1, 2, 3, 4, 5, 0, 6, 7] rfl  ?_
      refine J_goto (tgt := 3) dX2_multiply_79 (by decide)  ?_
      refine J_sub (lv' := [(0, .ref (g.1 + p0)), (1, .ref (g.1 + p1)), (2, .ref (g.1 + p2)), (3, .int p3), (4, .int p4), (5, .int x5_6)]) [0, 1, 2, 3, 4, 5] rfl ?_
      exact hR3 _ _  h
    · have h := h.2 c_1
      refine J_iload dX2_multiply_21 7 rfl  ?_
      refine J_iload dX2_multiply_23 5 rfl  ?_
      refine J_iconst (v := (-1)) dX2_multiply_25 (by decide)  ?_
      refine J_ixor dX2_multiply_26  ?_
      refine J_iand dX2_multiply_27  ?_
      refine J_if_ne (tgt := 59) dX2_multiply_28 (by decide) (fun c_7 => ?_) (fun c_7 => ?_)
      · have h := h.1 c_7
        exact l_X2_multiply_59 p0 p1 p2 p3 p4 _ _ _ hR3 (fun y5 y6 y7 S  h => ih y5 y6 y7 S  h) hp0 hp1 hp2 _ _ _ _  h
      · have h := h.2 c_7
        refine J_iload dX2_multiply_31 6 rfl  ?_
        refine J_iload dX2_multiply_33 7 rfl  ?_
        refine J_iload dX2_multiply_35 5 rfl  ?_
        refine J_iload dX2_multiply_37 7 rfl  ?_
        refine J_ixor dX2_multiply_39  ?_
        refine J_callS (As := [.int x7, .int (x5 ^^^ x7)]) (rest := [.int x6]) (n := 2) dX2_multiply_40 (c_X2_sign x7 (x5 ^^^ x7)  _ _ h) tb_2_108 tb_2_106 tb_1_9 tb_2_107 (by decide) rfl (by decide) (by decide) (Nat.le_of_ble_eq_true rfl) rfl (fun v_r_9 S_8 hq => ?_)
        obtain ⟨r_9, rfl, h⟩ := hq
        dsimp only [Option.toList, List.cons_append, List.nil_append]
        refine J_aload_n dX2_multiply_43 rfl 0 rfl  ?_
        refine J_iload dX2_multiply_44 7 rfl  ?_
        obtain ⟨hi_10, h⟩ := h
        refine J_iald dX2_multiply_46 hp0 hi_10  ?_
        refine J_imul dX2_multiply_47  ?_
        refine J_aload_n dX2_multiply_48 rfl 1 rfl  ?_
        refine J_iload dX2_multiply_49 5 rfl  ?_
        refine J_iload dX2_multiply_51 7 rfl  ?_
        refine J_ixor dX2_multiply_53  ?_
        obtain ⟨hi_11, h⟩ := h
        refine J_iald dX2_multiply_54 hp1 hi_11  ?_
        refine J_imul dX2_multiply_55  ?_
        refine J_iadd dX2_multiply_56  ?_
        refine J_topi (fun x6_12 ex6_12 => ?_)
        have h := h x6_12 ex6_12
        refine J_istore (lv' := [(0, .ref (g.1 + p0)), (1, .ref (g.1 + p1)), (2, .ref (g.1 + p2)), (3, .int p3), (4, .int p4), (5, .int x5), (6, .int x6_12), (7, .int x7)]) dX2_multiply_57 (by decide) [1, 2, 3, 4, 5, 6, 0, 7] rfl  ?_
        exact l_X2_multiply_59 p0 p1 p2 p3 p4 _ _ _ hR3 (fun y5 y6 y7 S  h => ih y5 y6 y7 S  h) hp0 hp1 hp2 _ _ _ _  h
def q_X2_multiply_3 (p0 : Nat) (p1 : Nat) (p2 : Nat) (p3 : Int32) (p4 : Int32)  (Q : Sto → Prop) : Nat → Int32 → Sto → Prop
  | 0, _, _ => False
  | n + 1, x5, S => ((p3 ≤ x5 → Q S) ∧ (¬ p3 ≤ x5 → (∃ n_15, q_X2_multiply_15 p0 p1 p2 p3 p4 (fun y5 S => q_X2_multiply_3 p0 p1 p2 p3 p4  Q n y5 S) Q n_15 x5 0 0 S)))
set_option maxRecDepth 100000 in
set_option maxHeartbeats 4000000 in
theorem l_X2_multiply_3 {g : Gv} (p0 : Nat) (p1 : Nat) (p2 : Nat) (p3 : Int32) (p4 : Int32)  (Q : Sto → Prop)  (hp0 : kd p0 = 0) (hp1 : kd p1 = 0) (hp2 : kd p2 = 0) (n : Nat) : ∀ (x5 : Int32) (S : Sto)  (h : q_X2_multiply_3 p0 p1 p2 p3 p4  Q n x5 S), RJ g cX2_multiply RX2 none 8 3 3 [(0, .ref (g.1 + p0)), (1, .ref (g.1 + p1)), (2, .ref (g.1 + p2)), (3, .int p3), (4, .int p4), (5, .int x5)] [] S (Qv Q) := by
  induction n with
  | zero => intro x5 S  h; exact h.elim
  | succ n ih =>
    intro x5 S  h
    unfold q_X2_multiply_3 at h
    refine J_iload dX2_multiply_3 5 rfl  ?_
    refine J_iload_n dX2_multiply_5 rfl 3 rfl  ?_
    refine J_icmp_ge (tgt := 82) dX2_multiply_6 (by decide) (fun c_1 => ?_) (fun c_1 => ?_)
    · have h := h.1 c_1
      exact J_vret dX2_multiply_82 rfl ⟨rfl, h⟩
    · have h := h.2 c_1
      refine J_iconst (v := 0) dX2_multiply_9 (by decide)  ?_
      refine J_istore (lv' := [(0, .ref (g.1 + p0)), (1, .ref (g.1 + p1)), (2, .ref (g.1 + p2)), (3, .int p3), (4, .int p4), (5, .int x5), (6, .int 0)]) dX2_multiply_10 (by decide) [1, 2, 3, 4, 5, 6, 0] rfl  ?_
      refine J_iconst (v := 0) dX2_multiply_12 (by decide)  ?_
      refine J_istore (lv' := [(0, .ref (g.1 + p0)), (1, .ref (g.1 + p1)), (2, .ref (g.1 + p2)), (3, .int p3), (4, .int p4), (5, .int x5), (6, .int 0), (7, .int 0)]) dX2_multiply_13 (by decide) [1, 2, 3, 4, 5, 6, 7, 0] rfl  ?_
      obtain ⟨n, h⟩ := h
      exact l_X2_multiply_15 p0 p1 p2 p3 p4 _ _ (fun y5 S  h => ih y5 S  h) hp0 hp1 hp2 n _ _ _ _  h
def wp_X2_multiply (p0 : Nat) (p1 : Nat) (p2 : Nat) (p3 : Int32) (p4 : Int32) (S : Sto) (Q : Sto → Prop) : Prop := (∃ n_3, q_X2_multiply_3 p0 p1 p2 p3 p4  Q n_3 0 S)
set_option maxRecDepth 100000 in
set_option maxHeartbeats 4000000 in
theorem c_X2_multiply {g : Gv} (p0 : Nat) (p1 : Nat) (p2 : Nat) (p3 : Int32) (p4 : Int32) (hp0 : kd p0 = 0) (hp1 : kd p1 = 0) (hp2 : kd p2 = 0) (S : Sto) (Q : Sto → Prop) (h : wp_X2_multiply p0 p1 p2 p3 p4 S Q) : CT g yX2_multiply cX2_multiply 8 none 3 [.ref (g.1 + p0), .ref (g.1 + p1), .ref (g.1 + p2), .int p3, .int p4] S (Qv Q) := by
  unfold wp_X2_multiply at h
  refine CT.of (by decide) (Nat.le_of_ble_eq_true rfl) ?_
  refine J_sub (lv' := [(0, .ref (g.1 + p0)), (1, .ref (g.1 + p1)), (2, .ref (g.1 + p2)), (3, .int p3), (4, .int p4)]) [0, 1, 2, 3, 4] rfl ?_
  refine J_iconst (v := 0) dX2_multiply_0 (by decide)  ?_
  refine J_istore (lv' := [(0, .ref (g.1 + p0)), (1, .ref (g.1 + p1)), (2, .ref (g.1 + p2)), (3, .int p3), (4, .int p4), (5, .int 0)]) dX2_multiply_1 (by decide) [1, 2, 3, 4, 5, 0] rfl  ?_
  obtain ⟨n, h⟩ := h
  exact l_X2_multiply_3 p0 p1 p2 p3 p4  _  hp0 hp1 hp2 n _ _  h
def q_X2_turn_57 (p0 : Nat) (p1 : Nat) (p2 : Int32) (p3 : Int32) (R3 : Int32 → Sto → Prop) (Q : Sto → Prop) (x4 : Int32) (t1 : Int32) (t2 : Int32) (S : Sto) : Prop := wp_X2_modulo t2 p3 S (fun r_2 S_1 => vp_in t1 (ln p1) ∧ ∀ S_4 : Sto, S_4 = uA S_1 p1 (t1 : Int32).toNatClampNeg r_2 → ∀ x4_5 : Int32, x4_5 = x4 + 1 → R3 x4_5 S_4)
set_option maxRecDepth 100000 in
set_option maxHeartbeats 4000000 in
theorem l_X2_turn_57 {g : Gv} (p0 : Nat) (p1 : Nat) (p2 : Int32) (p3 : Int32) (R3 : Int32 → Sto → Prop) (Q : Sto → Prop) (hR3 : ∀ (y4 : Int32) (S : Sto), R3 y4 S → RJ g cX2_turn RX2 none 7 3 3 [(0, .ref (g.1 + p0)), (1, .ref (g.1 + p1)), (2, .int p2), (3, .int p3), (4, .int y4)] [] S (Qv Q)) (hp0 : kd p0 = 0) (hp1 : kd p1 = 0) (x4 : Int32) (t1 : Int32) (t2 : Int32) (S : Sto)  (h : q_X2_turn_57 p0 p1 p2 p3 R3 Q x4 t1 t2 S) : RJ g cX2_turn RX2 none 7 3 57 [(0, .ref (g.1 + p0)), (1, .ref (g.1 + p1)), (2, .int p2), (3, .int p3), (4, .int x4)] [.int t2, .int t1, .ref (g.1 + p1)] S (Qv Q) := by
  unfold q_X2_turn_57 at h
  refine J_iload_n dX2_turn_57 rfl 3 rfl  ?_
  refine J_callS (As := [.int t2, .int p3]) (rest := [.int t1, .ref (g.1 + p1)]) (n := 2) dX2_turn_58 (c_X2_modulo t2 p3  _ _ h) tb_2_94 tb_2_115 tb_1_9 tb_2_93 (by decide) rfl (by decide) (by decide) (Nat.le_of_ble_eq_true rfl) rfl (fun v_r_2 S_1 hq => ?_)
  obtain ⟨r_2, rfl, h⟩ := hq
  dsimp only [Option.toList, List.cons_append, List.nil_append]
  obtain ⟨hi_3, h⟩ := h
  refine J_iast dX2_turn_61 hp1 hi_3  ?_
  refine J_nmS (fun S_4 eS_4 => ?_)
  have h := h S_4 eS_4
  obtain ⟨x4_5, ex4_5⟩ : ∃ y : Int32, y = x4 + 1 := ⟨_, rfl⟩
  have h := h x4_5 ex4_5
  refine J_iinc (v := x4_5) (lv' := [(0, .ref (g.1 + p0)), (1, .ref (g.1 + p1)), (2, .int p2), (3, .int p3), (4, .int x4_5)]) dX2_turn_62 (q := 4) rfl (by rw [ex4_5]; rfl) (by decide) [1, 2, 3, 4, 0] rfl  ?_
  refine J_goto (tgt := 3) dX2_turn_65 (by decide)  ?_
  exact hR3 _ _  h
def q_X2_turn_35 (p0 : Nat) (p1 : Nat) (p2 : Int32) (p3 : Int32) (R3 : Int32 → Sto → Prop) (Q : Sto → Prop) (x4 : Int32) (t0 : Int32) (S : Sto) : Prop := ((t0 = 0 → vp_in x4 (ln p0) ∧ q_X2_turn_57 p0 p1 p2 p3 R3 Q x4 x4 (S.1 p0 (x4 : Int32).toNatClampNeg) S) ∧ (¬ t0 = 0 → vp_in x4 (ln p0) ∧ q_X2_turn_57 p0 p1 p2 p3 R3 Q x4 x4 (-(S.1 p0 (x4 : Int32).toNatClampNeg)) S))
set_option maxRecDepth 100000 in
set_option maxHeartbeats 4000000 in
theorem l_X2_turn_35 {g : Gv} (p0 : Nat) (p1 : Nat) (p2 : Int32) (p3 : Int32) (R3 : Int32 → Sto → Prop) (Q : Sto → Prop) (hR3 : ∀ (y4 : Int32) (S : Sto), R3 y4 S → RJ g cX2_turn RX2 none 7 3 3 [(0, .ref (g.1 + p0)), (1, .ref (g.1 + p1)), (2, .int p2), (3, .int p3), (4, .int y4)] [] S (Qv Q)) (hp0 : kd p0 = 0) (hp1 : kd p1 = 0) (x4 : Int32) (t0 : Int32) (S : Sto)  (h : q_X2_turn_35 p0 p1 p2 p3 R3 Q x4 t0 S) : RJ g cX2_turn RX2 none 7 3 35 [(0, .ref (g.1 + p0)), (1, .ref (g.1 + p1)), (2, .int p2), (3, .int p3), (4, .int x4)] [.int t0] S (Qv Q) := by
  unfold q_X2_turn_35 at h
  refine J_istore (lv' := [(0, .ref (g.1 + p0)), (1, .ref (g.1 + p1)), (2, .int p2), (3, .int p3), (4, .int x4), (6, .int t0)]) dX2_turn_35 (by decide) [1, 2, 3, 4, 5, 0] rfl  ?_
  refine J_aload_n dX2_turn_37 rfl 1 rfl  ?_
  refine J_iload dX2_turn_38 4 rfl  ?_
  refine J_iload dX2_turn_40 5 rfl  ?_
  refine J_if_eq (tgt := 53) dX2_turn_42 (by decide) (fun c_1 => ?_) (fun c_1 => ?_)
  · have h := h.1 c_1
    refine J_aload_n dX2_turn_53 rfl 0 rfl  ?_
    refine J_iload dX2_turn_54 4 rfl  ?_
    obtain ⟨hi_2, h⟩ := h
    refine J_iald dX2_turn_56 hp0 hi_2  ?_
    refine J_sub (lv' := [(0, .ref (g.1 + p0)), (1, .ref (g.1 + p1)), (2, .int p2), (3, .int p3), (4, .int x4)]) [0, 1, 2, 3, 4] rfl ?_
    exact l_X2_turn_57 p0 p1 p2 p3 _ _ hR3 hp0 hp1 _ _ _ _  h
  · have h := h.2 c_1
    refine J_aload_n dX2_turn_45 rfl 0 rfl  ?_
    refine J_iload dX2_turn_46 4 rfl  ?_
    obtain ⟨hi_3, h⟩ := h
    refine J_iald dX2_turn_48 hp0 hi_3  ?_
    refine J_ineg dX2_turn_49  ?_
    refine J_goto (tgt := 57) dX2_turn_50 (by decide)  ?_
    refine J_sub (lv' := [(0, .ref (g.1 + p0)), (1, .ref (g.1 + p1)), (2, .int p2), (3, .int p3), (4, .int x4)]) [0, 1, 2, 3, 4] rfl ?_
    exact l_X2_turn_57 p0 p1 p2 p3 _ _ hR3 hp0 hp1 _ _ _ _  h
def q_X2_turn_3 (p0 : Nat) (p1 : Nat) (p2 : Int32) (p3 : Int32)  (Q : Sto → Prop) : Nat → Int32 → Sto → Prop
  | 0, _, _ => False
  | n + 1, x4, S => ((p2 ≤ x4 → Q S) ∧ (¬ p2 ≤ x4 → wp_J6_bitCount_0f7a4 x4 S (fun r_3 S_2 => (((((r_3 * (r_3 - 1)) / 2) &&& 1) = 0 → q_X2_turn_35 p0 p1 p2 p3 (fun y4 S => q_X2_turn_3 p0 p1 p2 p3  Q n y4 S) Q x4 0 S_2) ∧ (¬ (((r_3 * (r_3 - 1)) / 2) &&& 1) = 0 → q_X2_turn_35 p0 p1 p2 p3 (fun y4 S => q_X2_turn_3 p0 p1 p2 p3  Q n y4 S) Q x4 1 S_2)))))
set_option maxRecDepth 100000 in
set_option maxHeartbeats 4000000 in
theorem l_X2_turn_3 {g : Gv} (p0 : Nat) (p1 : Nat) (p2 : Int32) (p3 : Int32)  (Q : Sto → Prop)  (hp0 : kd p0 = 0) (hp1 : kd p1 = 0) (n : Nat) : ∀ (x4 : Int32) (S : Sto)  (h : q_X2_turn_3 p0 p1 p2 p3  Q n x4 S), RJ g cX2_turn RX2 none 7 3 3 [(0, .ref (g.1 + p0)), (1, .ref (g.1 + p1)), (2, .int p2), (3, .int p3), (4, .int x4)] [] S (Qv Q) := by
  induction n with
  | zero => intro x4 S  h; exact h.elim
  | succ n ih =>
    intro x4 S  h
    unfold q_X2_turn_3 at h
    refine J_iload dX2_turn_3 4 rfl  ?_
    refine J_iload_n dX2_turn_5 rfl 2 rfl  ?_
    refine J_icmp_ge (tgt := 68) dX2_turn_6 (by decide) (fun c_1 => ?_) (fun c_1 => ?_)
    · have h := h.1 c_1
      exact J_vret dX2_turn_68 rfl ⟨rfl, h⟩
    · have h := h.2 c_1
      refine J_iload dX2_turn_9 4 rfl  ?_
      refine J_callS (As := [.int x4]) (rest := []) (n := 1) dX2_turn_11 (c_J6_bitCount_0f7a4 x4  _ _ h) tb_2_111 tb_2_109 tb_1_11 tb_2_110 (by decide) rfl (by decide) (by decide) (Nat.le_of_ble_eq_true rfl) rfl (fun v_r_3 S_2 hq => ?_)
      obtain ⟨r_3, rfl, h⟩ := hq
      dsimp only [Option.toList, List.cons_append, List.nil_append]
      refine J_istore (lv' := [(0, .ref (g.1 + p0)), (1, .ref (g.1 + p1)), (2, .int p2), (3, .int p3), (4, .int x4), (5, .int r_3)]) dX2_turn_14 (by decide) [1, 2, 3, 4, 5, 0] rfl  ?_
      refine J_iload dX2_turn_16 5 rfl  ?_
      refine J_iload dX2_turn_18 5 rfl  ?_
      refine J_iconst (v := 1) dX2_turn_20 (by decide)  ?_
      refine J_isub dX2_turn_21  ?_
      refine J_imul dX2_turn_22  ?_
      refine J_iconst (v := 2) dX2_turn_23 (by decide)  ?_
      refine J_idiv dX2_turn_24 (by decide)  ?_
      refine J_iconst (v := 1) dX2_turn_25 (by decide)  ?_
      refine J_iand dX2_turn_26  ?_
      refine J_if_eq (tgt := 34) dX2_turn_27 (by decide) (fun c_4 => ?_) (fun c_4 => ?_)
      · have h := h.1 c_4
        refine J_iconst (v := 0) dX2_turn_34 (by decide)  ?_
        refine J_sub (lv' := [(0, .ref (g.1 + p0)), (1, .ref (g.1 + p1)), (2, .int p2), (3, .int p3), (4, .int x4)]) [0, 1, 2, 3, 4] rfl ?_
        exact l_X2_turn_35 p0 p1 p2 p3 _ _ (fun y4 S  h => ih y4 S  h) hp0 hp1 _ _ _  h
      · have h := h.2 c_4
        refine J_iconst (v := 1) dX2_turn_30 (by decide)  ?_
        refine J_goto (tgt := 35) dX2_turn_31 (by decide)  ?_
        refine J_sub (lv' := [(0, .ref (g.1 + p0)), (1, .ref (g.1 + p1)), (2, .int p2), (3, .int p3), (4, .int x4)]) [0, 1, 2, 3, 4] rfl ?_
        exact l_X2_turn_35 p0 p1 p2 p3 _ _ (fun y4 S  h => ih y4 S  h) hp0 hp1 _ _ _  h
def wp_X2_turn (p0 : Nat) (p1 : Nat) (p2 : Int32) (p3 : Int32) (S : Sto) (Q : Sto → Prop) : Prop := (∃ n_3, q_X2_turn_3 p0 p1 p2 p3  Q n_3 0 S)
set_option maxRecDepth 100000 in
set_option maxHeartbeats 4000000 in
theorem c_X2_turn {g : Gv} (p0 : Nat) (p1 : Nat) (p2 : Int32) (p3 : Int32) (hp0 : kd p0 = 0) (hp1 : kd p1 = 0) (S : Sto) (Q : Sto → Prop) (h : wp_X2_turn p0 p1 p2 p3 S Q) : CT g yX2_turn cX2_turn 7 none 3 [.ref (g.1 + p0), .ref (g.1 + p1), .int p2, .int p3] S (Qv Q) := by
  unfold wp_X2_turn at h
  refine CT.of (by decide) (Nat.le_of_ble_eq_true rfl) ?_
  refine J_sub (lv' := [(0, .ref (g.1 + p0)), (1, .ref (g.1 + p1)), (2, .int p2), (3, .int p3)]) [0, 1, 2, 3] rfl ?_
  refine J_iconst (v := 0) dX2_turn_0 (by decide)  ?_
  refine J_istore (lv' := [(0, .ref (g.1 + p0)), (1, .ref (g.1 + p1)), (2, .int p2), (3, .int p3), (4, .int 0)]) dX2_turn_1 (by decide) [1, 2, 3, 4, 0] rfl  ?_
  obtain ⟨n, h⟩ := h
  exact l_X2_turn_3 p0 p1 p2 p3  _  hp0 hp1 n _ _  h
def q_X2_complement_3 (p0 : Nat) (p1 : Nat) (p2 : Int32) (p3 : Int32)  (Q : Sto → Prop) : Nat → Int32 → Sto → Prop
  | 0, _, _ => False
  | n + 1, x4, S => ((p2 ≤ x4 → Q S) ∧ (¬ p2 ≤ x4 → ∀ x5_2 : Int32, x5_2 = (p2 - 1) ^^^ x4 → wp_X2_sign x5_2 x4 S (fun r_4 S_3 => vp_in x5_2 (ln p0) ∧ wp_X2_modulo (r_4 * (S_3.1 p0 (x5_2 : Int32).toNatClampNeg)) p3 S_3 (fun r_7 S_6 => vp_in x4 (ln p1) ∧ ∀ S_9 : Sto, S_9 = uA S_6 p1 (x4 : Int32).toNatClampNeg r_7 → ∀ x4_10 : Int32, x4_10 = x4 + 1 → q_X2_complement_3 p0 p1 p2 p3  Q n x4_10 S_9))))
set_option maxRecDepth 100000 in
set_option maxHeartbeats 4000000 in
theorem l_X2_complement_3 {g : Gv} (p0 : Nat) (p1 : Nat) (p2 : Int32) (p3 : Int32)  (Q : Sto → Prop)  (hp0 : kd p0 = 0) (hp1 : kd p1 = 0) (n : Nat) : ∀ (x4 : Int32) (S : Sto)  (h : q_X2_complement_3 p0 p1 p2 p3  Q n x4 S), RJ g cX2_complement RX2 none 6 3 3 [(0, .ref (g.1 + p0)), (1, .ref (g.1 + p1)), (2, .int p2), (3, .int p3), (4, .int x4)] [] S (Qv Q) := by
  induction n with
  | zero => intro x4 S  h; exact h.elim
  | succ n ih =>
    intro x4 S  h
    unfold q_X2_complement_3 at h
    refine J_iload dX2_complement_3 4 rfl  ?_
    refine J_iload_n dX2_complement_5 rfl 2 rfl  ?_
    refine J_icmp_ge (tgt := 43) dX2_complement_6 (by decide) (fun c_1 => ?_) (fun c_1 => ?_)
    · have h := h.1 c_1
      exact J_vret dX2_complement_43 rfl ⟨rfl, h⟩
    · have h := h.2 c_1
      refine J_iload_n dX2_complement_9 rfl 2 rfl  ?_
      refine J_iconst (v := 1) dX2_complement_10 (by decide)  ?_
      refine J_isub dX2_complement_11  ?_
      refine J_iload dX2_complement_12 4 rfl  ?_
      refine J_ixor dX2_complement_14  ?_
      refine J_topi (fun x5_2 ex5_2 => ?_)
      have h := h x5_2 ex5_2
      refine J_istore (lv' := [(0, .ref (g.1 + p0)), (1, .ref (g.1 + p1)), (2, .int p2), (3, .int p3), (4, .int x4), (5, .int x5_2)]) dX2_complement_15 (by decide) [1, 2, 3, 4, 5, 0] rfl  ?_
      refine J_aload_n dX2_complement_17 rfl 1 rfl  ?_
      refine J_iload dX2_complement_18 4 rfl  ?_
      refine J_iload dX2_complement_20 5 rfl  ?_
      refine J_iload dX2_complement_22 4 rfl  ?_
      refine J_callS (As := [.int x5_2, .int x4]) (rest := [.int x4, .ref (g.1 + p1)]) (n := 2) dX2_complement_24 (c_X2_sign x5_2 x4  _ _ h) tb_2_108 tb_2_106 tb_1_9 tb_2_107 (by decide) rfl (by decide) (by decide) (Nat.le_of_ble_eq_true rfl) rfl (fun v_r_4 S_3 hq => ?_)
      obtain ⟨r_4, rfl, h⟩ := hq
      dsimp only [Option.toList, List.cons_append, List.nil_append]
      refine J_aload_n dX2_complement_27 rfl 0 rfl  ?_
      refine J_iload dX2_complement_28 5 rfl  ?_
      obtain ⟨hi_5, h⟩ := h
      refine J_iald dX2_complement_30 hp0 hi_5  ?_
      refine J_imul dX2_complement_31  ?_
      refine J_iload_n dX2_complement_32 rfl 3 rfl  ?_
      refine J_callS (As := [.int (r_4 * (S_3.1 p0 (x5_2 : Int32).toNatClampNeg)), .int p3]) (rest := [.int x4, .ref (g.1 + p1)]) (n := 2) dX2_complement_33 (c_X2_modulo (r_4 * (S_3.1 p0 (x5_2 : Int32).toNatClampNeg)) p3  _ _ h) tb_2_94 tb_2_115 tb_1_9 tb_2_93 (by decide) rfl (by decide) (by decide) (Nat.le_of_ble_eq_true rfl) rfl (fun v_r_7 S_6 hq => ?_)
      obtain ⟨r_7, rfl, h⟩ := hq
      dsimp only [Option.toList, List.cons_append, List.nil_append]
      obtain ⟨hi_8, h⟩ := h
      refine J_iast dX2_complement_36 hp1 hi_8  ?_
      refine J_nmS (fun S_9 eS_9 => ?_)
      have h := h S_9 eS_9
      obtain ⟨x4_10, ex4_10⟩ : ∃ y : Int32, y = x4 + 1 := ⟨_, rfl⟩
      have h := h x4_10 ex4_10
      refine J_iinc (v := x4_10) (lv' := [(0, .ref (g.1 + p0)), (1, .ref (g.1 + p1)), (2, .int p2), (3, .int p3), (4, .int x4_10), (5, .int x5_2)]) dX2_complement_37 (q := 4) rfl (by rw [ex4_10]; rfl) (by decide) [1, 2, 3, 4, 0, 5] rfl  ?_
      refine J_goto (tgt := 3) dX2_complement_40 (by decide)  ?_
      refine J_sub (lv' := [(0, .ref (g.1 + p0)), (1, .ref (g.1 + p1)), (2, .int p2), (3, .int p3), (4, .int x4_10)]) [0, 1, 2, 3, 4] rfl ?_
      exact ih _ _  h
def wp_X2_complement (p0 : Nat) (p1 : Nat) (p2 : Int32) (p3 : Int32) (S : Sto) (Q : Sto → Prop) : Prop := (∃ n_3, q_X2_complement_3 p0 p1 p2 p3  Q n_3 0 S)
set_option maxRecDepth 100000 in
set_option maxHeartbeats 4000000 in
theorem c_X2_complement {g : Gv} (p0 : Nat) (p1 : Nat) (p2 : Int32) (p3 : Int32) (hp0 : kd p0 = 0) (hp1 : kd p1 = 0) (S : Sto) (Q : Sto → Prop) (h : wp_X2_complement p0 p1 p2 p3 S Q) : CT g yX2_complement cX2_complement 6 none 3 [.ref (g.1 + p0), .ref (g.1 + p1), .int p2, .int p3] S (Qv Q) := by
  unfold wp_X2_complement at h
  refine CT.of (by decide) (Nat.le_of_ble_eq_true rfl) ?_
  refine J_sub (lv' := [(0, .ref (g.1 + p0)), (1, .ref (g.1 + p1)), (2, .int p2), (3, .int p3)]) [0, 1, 2, 3] rfl ?_
  refine J_iconst (v := 0) dX2_complement_0 (by decide)  ?_
  refine J_istore (lv' := [(0, .ref (g.1 + p0)), (1, .ref (g.1 + p1)), (2, .int p2), (3, .int p3), (4, .int 0)]) dX2_complement_1 (by decide) [1, 2, 3, 4, 0] rfl  ?_
  obtain ⟨n, h⟩ := h
  exact l_X2_complement_3 p0 p1 p2 p3  _  hp0 hp1 n _ _  h
def wp_X3_append (p1 : Int32) (S : Sto) (Q : Int32 → Sto → Prop) : Prop := (((S.1 35 1) < 100 → vp_in (S.1 35 1) (100) ∧ ∀ S_3 : Sto, S_3 = uA S 36 (S.1 35 1 : Int32).toNatClampNeg p1 → ∀ S_4 : Sto, S_4 = uA S_3 35 1 ((S_3.1 35 1) + 1) → Q 1 S_4) ∧ (¬ (S.1 35 1) < 100 → Q 0 S))
set_option maxRecDepth 100000 in
set_option maxHeartbeats 4000000 in
theorem c_X3_append {g : Gv} (p1 : Int32)  (S : Sto) (Q : Int32 → Sto → Prop) (h : wp_X3_append p1 S Q) : CT g yX3_append cX3_append 2 (some .boolean) 1 [.ref (g.1 + 35), .int p1] S (Qi Q) := by
  unfold wp_X3_append at h
  refine CT.of (by decide) (Nat.le_of_ble_eq_true rfl) ?_
  refine J_sub (lv' := [(0, .ref (g.1 + 35)), (1, .int p1)]) [0, 1] rfl ?_
  refine J_aload_n dX3_append_0 rfl 0 rfl  ?_
  refine J_geti (ci := 1) dX3_append_1 1 rfl giX3 (by decide) (by decide) rfl rfl tb_1_106 rfl  ?_
  refine J_bipush (v := 100) dX3_append_4 (by decide)  ?_
  refine J_icmp_lt (tgt := 11) dX3_append_6 (by decide) (fun c_1 => ?_) (fun c_1 => ?_)
  · have h := h.1 c_1
    refine J_aload_n dX3_append_11 rfl 0 rfl  ?_
    refine J_getr (r := 36) (ci := 1) dX3_append_12 0 rfl giX3 (by decide) (by decide) rfl rfl tb_1_105 (by decide) (by decide)  ?_
    refine J_aload_n dX3_append_15 rfl 0 rfl  ?_
    refine J_geti (ci := 1) dX3_append_16 1 rfl giX3 (by decide) (by decide) rfl rfl tb_1_106 rfl  ?_
    refine J_iload_n dX3_append_19 rfl 1 rfl  ?_
    obtain ⟨hi_2, h⟩ := h
    refine J_iast dX3_append_20 (by decide) hi_2  ?_
    refine J_nmS (fun S_3 eS_3 => ?_)
    have h := h S_3 eS_3
    refine J_aload_n dX3_append_21 rfl 0 rfl  ?_
    refine J_dup dX3_append_22 rfl  ?_
    refine J_geti (ci := 1) dX3_append_23 1 rfl giX3 (by decide) (by decide) rfl rfl tb_1_106 rfl  ?_
    refine J_iconst (v := 1) dX3_append_26 (by decide)  ?_
    refine J_iadd dX3_append_27  ?_
    refine J_puti (ci := 1) dX3_append_28 1 rfl giX3 (by decide) (by decide) rfl rfl tyX3 tyX3_ok nmX3 rfl rfl rfl rfl tb_1_106 rfl  ?_
    refine J_nmS (fun S_4 eS_4 => ?_)
    have h := h S_4 eS_4
    refine J_iconst (v := 1) dX3_append_31 (by decide)  ?_
    exact J_iret dX3_append_32 rfl rfl ⟨_, rfl, h⟩
  · have h := h.2 c_1
    refine J_iconst (v := 0) dX3_append_9 (by decide)  ?_
    exact J_iret dX3_append_10 rfl rfl ⟨_, rfl, h⟩
def q_X3_signHere_40   (Q : Int32 → Sto → Prop) (t0 : Int32) (S : Sto) : Prop := Q t0 S
set_option maxRecDepth 100000 in
set_option maxHeartbeats 4000000 in
theorem l_X3_signHere_40 {g : Gv}   (Q : Int32 → Sto → Prop)   (t0 : Int32) (S : Sto)  (h : q_X3_signHere_40   Q t0 S) : RJ g cX3_signHere RX3 (some .int) 1 1 40 [(0, .ref (g.1 + 35))] [.int t0] S (Qi Q) := by
  unfold q_X3_signHere_40 at h
  exact J_iret dX3_signHere_40 rfl rfl ⟨_, rfl, h⟩
def q_X3_signHere_39   (Q : Int32 → Sto → Prop)  (S : Sto) : Prop := q_X3_signHere_40   Q ((-1)) S
set_option maxRecDepth 100000 in
set_option maxHeartbeats 4000000 in
theorem l_X3_signHere_39 {g : Gv}   (Q : Int32 → Sto → Prop)    (S : Sto)  (h : q_X3_signHere_39   Q  S) : RJ g cX3_signHere RX3 (some .int) 1 1 39 [(0, .ref (g.1 + 35))] [] S (Qi Q) := by
  unfold q_X3_signHere_39 at h
  refine J_iconst (v := (-1)) dX3_signHere_39 (by decide)  ?_
  exact l_X3_signHere_40   _   _ _  h
def wp_X3_signHere  (S : Sto) (Q : Int32 → Sto → Prop) : Prop := (((S.1 35 2) < 0 → q_X3_signHere_39   Q  S) ∧ (¬ (S.1 35 2) < 0 → (((S.1 35 1) ≤ (S.1 35 2) → q_X3_signHere_39   Q  S) ∧ (¬ (S.1 35 1) ≤ (S.1 35 2) → ((100 ≤ (S.1 35 2) → q_X3_signHere_39   Q  S) ∧ (¬ 100 ≤ (S.1 35 2) → vp_in (S.1 35 2) (100) ∧ q_X3_signHere_40   Q (S.1 36 (S.1 35 2 : Int32).toNatClampNeg) S))))))
set_option maxRecDepth 100000 in
set_option maxHeartbeats 4000000 in
theorem c_X3_signHere {g : Gv}   (S : Sto) (Q : Int32 → Sto → Prop) (h : wp_X3_signHere  S Q) : CT g yX3_signHere cX3_signHere 1 (some .int) 1 [.ref (g.1 + 35)] S (Qi Q) := by
  unfold wp_X3_signHere at h
  refine CT.of (by decide) (Nat.le_of_ble_eq_true rfl) ?_
  refine J_sub (lv' := [(0, .ref (g.1 + 35))]) [0] rfl ?_
  refine J_aload_n dX3_signHere_0 rfl 0 rfl  ?_
  refine J_geti (ci := 1) dX3_signHere_1 2 rfl giX3 (by decide) (by decide) rfl rfl tb_1_108 rfl  ?_
  refine J_if_lt (tgt := 39) dX3_signHere_4 (by decide) (fun c_1 => ?_) (fun c_1 => ?_)
  · have h := h.1 c_1
    exact l_X3_signHere_39   _    _  h
  · have h := h.2 c_1
    refine J_aload_n dX3_signHere_7 rfl 0 rfl  ?_
    refine J_geti (ci := 1) dX3_signHere_8 2 rfl giX3 (by decide) (by decide) rfl rfl tb_1_108 rfl  ?_
    refine J_aload_n dX3_signHere_11 rfl 0 rfl  ?_
    refine J_geti (ci := 1) dX3_signHere_12 1 rfl giX3 (by decide) (by decide) rfl rfl tb_1_106 rfl  ?_
    refine J_icmp_ge (tgt := 39) dX3_signHere_15 (by decide) (fun c_2 => ?_) (fun c_2 => ?_)
    · have h := h.1 c_2
      exact l_X3_signHere_39   _    _  h
    · have h := h.2 c_2
      refine J_aload_n dX3_signHere_18 rfl 0 rfl  ?_
      refine J_geti (ci := 1) dX3_signHere_19 2 rfl giX3 (by decide) (by decide) rfl rfl tb_1_108 rfl  ?_
      refine J_bipush (v := 100) dX3_signHere_22 (by decide)  ?_
      refine J_icmp_ge (tgt := 39) dX3_signHere_24 (by decide) (fun c_3 => ?_) (fun c_3 => ?_)
      · have h := h.1 c_3
        exact l_X3_signHere_39   _    _  h
      · have h := h.2 c_3
        refine J_aload_n dX3_signHere_27 rfl 0 rfl  ?_
        refine J_getr (r := 36) (ci := 1) dX3_signHere_28 0 rfl giX3 (by decide) (by decide) rfl rfl tb_1_105 (by decide) (by decide)  ?_
        refine J_aload_n dX3_signHere_31 rfl 0 rfl  ?_
        refine J_geti (ci := 1) dX3_signHere_32 2 rfl giX3 (by decide) (by decide) rfl rfl tb_1_108 rfl  ?_
        obtain ⟨hi_4, h⟩ := h
        refine J_iald dX3_signHere_35 (by decide) hi_4  ?_
        refine J_goto (tgt := 40) dX3_signHere_36 (by decide)  ?_
        exact l_X3_signHere_40   _   _ _  h
def q_X3_passDigit_17   (Q : Int32 → Sto → Prop)  (S : Sto) : Prop := Q ((-1)) S
set_option maxRecDepth 100000 in
set_option maxHeartbeats 4000000 in
theorem l_X3_passDigit_17 {g : Gv}   (Q : Int32 → Sto → Prop)    (S : Sto)  (h : q_X3_passDigit_17   Q  S) : RJ g cX3_passDigit RX3 (some .int) 2 2 17 [(0, .ref (g.1 + 35))] [] S (Qi Q) := by
  unfold q_X3_passDigit_17 at h
  refine J_iconst (v := (-1)) dX3_passDigit_17 (by decide)  ?_
  exact J_iret dX3_passDigit_18 rfl rfl ⟨_, rfl, h⟩
def wp_X3_passDigit  (S : Sto) (Q : Int32 → Sto → Prop) : Prop := wp_X3_signHere  S (fun r_2 S_1 => ((r_2 < 48 → q_X3_passDigit_17   Q  S_1) ∧ (¬ r_2 < 48 → ((r_2 ≤ 57 → ∀ S_5 : Sto, S_5 = uA S_1 35 2 ((S_1.1 35 2) + 1) → Q (r_2 - 48) S_5) ∧ (¬ r_2 ≤ 57 → q_X3_passDigit_17   Q  S_1)))))
set_option maxRecDepth 100000 in
set_option maxHeartbeats 4000000 in
theorem c_X3_passDigit {g : Gv}   (S : Sto) (Q : Int32 → Sto → Prop) (h : wp_X3_passDigit  S Q) : CT g yX3_passDigit cX3_passDigit 2 (some .int) 2 [.ref (g.1 + 35)] S (Qi Q) := by
  unfold wp_X3_passDigit at h
  refine CT.of (by decide) (Nat.le_of_ble_eq_true rfl) ?_
  refine J_sub (lv' := [(0, .ref (g.1 + 35))]) [0] rfl ?_
  refine J_aload_n dX3_passDigit_0 rfl 0 rfl  ?_
  refine J_callV (h := 35) (ci := 1) (As := []) (rest := []) (n := 0) dX3_passDigit_1 (c_X3_signHere   _ _ h) (by decide) rfl tb_2_238 tb_2_235 tb_1_3 tb_2_237 sl_7 (by decide) rfl (by decide) (by decide) (Nat.le_of_ble_eq_true rfl) rfl (fun v_r_2 S_1 hq => ?_)
  obtain ⟨r_2, rfl, h⟩ := hq
  dsimp only [Option.toList, List.cons_append, List.nil_append]
  refine J_istore_n (lv' := [(0, .ref (g.1 + 35)), (1, .int r_2)]) dX3_passDigit_4 rfl (by decide) [1, 0] rfl  ?_
  refine J_iload_n dX3_passDigit_5 rfl 1 rfl  ?_
  refine J_bipush (v := 48) dX3_passDigit_6 (by decide)  ?_
  refine J_icmp_lt (tgt := 17) dX3_passDigit_8 (by decide) (fun c_3 => ?_) (fun c_3 => ?_)
  · have h := h.1 c_3
    refine J_sub (lv' := [(0, .ref (g.1 + 35))]) [0] rfl ?_
    exact l_X3_passDigit_17   _    _  h
  · have h := h.2 c_3
    refine J_iload_n dX3_passDigit_11 rfl 1 rfl  ?_
    refine J_bipush (v := 57) dX3_passDigit_12 (by decide)  ?_
    refine J_icmp_le (tgt := 19) dX3_passDigit_14 (by decide) (fun c_4 => ?_) (fun c_4 => ?_)
    · have h := h.1 c_4
      refine J_aload_n dX3_passDigit_19 rfl 0 rfl  ?_
      refine J_dup dX3_passDigit_20 rfl  ?_
      refine J_geti (ci := 1) dX3_passDigit_21 2 rfl giX3 (by decide) (by decide) rfl rfl tb_1_108 rfl  ?_
      refine J_iconst (v := 1) dX3_passDigit_24 (by decide)  ?_
      refine J_iadd dX3_passDigit_25  ?_
      refine J_puti (ci := 1) dX3_passDigit_26 2 rfl giX3 (by decide) (by decide) rfl rfl tyX3 tyX3_ok nmX3 rfl rfl rfl rfl tb_1_108 rfl  ?_
      refine J_nmS (fun S_5 eS_5 => ?_)
      have h := h S_5 eS_5
      refine J_iload_n dX3_passDigit_29 rfl 1 rfl  ?_
      refine J_bipush (v := 48) dX3_passDigit_30 (by decide)  ?_
      refine J_isub dX3_passDigit_32  ?_
      exact J_iret dX3_passDigit_33 rfl rfl ⟨_, rfl, h⟩
    · have h := h.2 c_4
      refine J_sub (lv' := [(0, .ref (g.1 + 35))]) [0] rfl ?_
      exact l_X3_passDigit_17   _    _  h
def q_X3_passSign_28 (p1 : Int32)  (Q : Int32 → Sto → Prop) (x2 : Int32) (t1 : Int32) (t2 : Int32) (S : Sto) : Prop := ∀ S_1 : Sto, S_1 = uA S 35 2 (t1 + t2) → narrow .boolean (.int x2) = .int x2 ∧ Q x2 S_1
set_option maxRecDepth 100000 in
set_option maxHeartbeats 4000000 in
theorem l_X3_passSign_28 {g : Gv} (p1 : Int32)  (Q : Int32 → Sto → Prop)   (x2 : Int32) (t1 : Int32) (t2 : Int32) (S : Sto)  (h : q_X3_passSign_28 p1  Q x2 t1 t2 S) : RJ g cX3_passSign RX3 (some .boolean) 3 2 28 [(0, .ref (g.1 + 35)), (1, .int p1), (2, .int x2)] [.int t2, .int t1, .ref (g.1 + 35)] S (Qi Q) := by
  unfold q_X3_passSign_28 at h
  refine J_iadd dX3_passSign_28  ?_
  refine J_puti (ci := 1) dX3_passSign_29 2 rfl giX3 (by decide) (by decide) rfl rfl tyX3 tyX3_ok nmX3 rfl rfl rfl rfl tb_1_108 rfl  ?_
  refine J_nmS (fun S_1 eS_1 => ?_)
  have h := h S_1 eS_1
  refine J_iload_n dX3_passSign_32 rfl 2 rfl  ?_
  obtain ⟨hb, h⟩ := h
  exact J_iret dX3_passSign_33 rfl hb ⟨_, rfl, h⟩
def q_X3_passSign_13 (p1 : Int32)  (Q : Int32 → Sto → Prop) (t0 : Int32) (S : Sto) : Prop := ((t0 = 0 → q_X3_passSign_28 p1  Q t0 (S.1 35 2) 0 S) ∧ (¬ t0 = 0 → q_X3_passSign_28 p1  Q t0 (S.1 35 2) 1 S))
set_option maxRecDepth 100000 in
set_option maxHeartbeats 4000000 in
theorem l_X3_passSign_13 {g : Gv} (p1 : Int32)  (Q : Int32 → Sto → Prop)   (t0 : Int32) (S : Sto)  (h : q_X3_passSign_13 p1  Q t0 S) : RJ g cX3_passSign RX3 (some .boolean) 3 2 13 [(0, .ref (g.1 + 35)), (1, .int p1)] [.int t0] S (Qi Q) := by
  unfold q_X3_passSign_13 at h
  refine J_istore_n (lv' := [(0, .ref (g.1 + 35)), (1, .int p1), (2, .int t0)]) dX3_passSign_13 rfl (by decide) [1, 2, 0] rfl  ?_
  refine J_aload_n dX3_passSign_14 rfl 0 rfl  ?_
  refine J_dup dX3_passSign_15 rfl  ?_
  refine J_geti (ci := 1) dX3_passSign_16 2 rfl giX3 (by decide) (by decide) rfl rfl tb_1_108 rfl  ?_
  refine J_iload_n dX3_passSign_19 rfl 2 rfl  ?_
  refine J_if_eq (tgt := 27) dX3_passSign_20 (by decide) (fun c_1 => ?_) (fun c_1 => ?_)
  · have h := h.1 c_1
    refine J_iconst (v := 0) dX3_passSign_27 (by decide)  ?_
    exact l_X3_passSign_28 p1  _   _ _ _ _  h
  · have h := h.2 c_1
    refine J_iconst (v := 1) dX3_passSign_23 (by decide)  ?_
    refine J_goto (tgt := 28) dX3_passSign_24 (by decide)  ?_
    exact l_X3_passSign_28 p1  _   _ _ _ _  h
def wp_X3_passSign (p1 : Int32) (S : Sto) (Q : Int32 → Sto → Prop) : Prop := wp_X3_signHere  S (fun r_2 S_1 => ((¬ r_2 = p1 → q_X3_passSign_13 p1  Q 0 S_1) ∧ (r_2 = p1 → q_X3_passSign_13 p1  Q 1 S_1)))
set_option maxRecDepth 100000 in
set_option maxHeartbeats 4000000 in
theorem c_X3_passSign {g : Gv} (p1 : Int32)  (S : Sto) (Q : Int32 → Sto → Prop) (h : wp_X3_passSign p1 S Q) : CT g yX3_passSign cX3_passSign 3 (some .boolean) 2 [.ref (g.1 + 35), .int p1] S (Qi Q) := by
  unfold wp_X3_passSign at h
  refine CT.of (by decide) (Nat.le_of_ble_eq_true rfl) ?_
  refine J_sub (lv' := [(0, .ref (g.1 + 35)), (1, .int p1)]) [0, 1] rfl ?_
  refine J_aload_n dX3_passSign_0 rfl 0 rfl  ?_
  refine J_callV (h := 35) (ci := 1) (As := []) (rest := []) (n := 0) dX3_passSign_1 (c_X3_signHere   _ _ h) (by decide) rfl tb_2_238 tb_2_235 tb_1_3 tb_2_237 sl_7 (by decide) rfl (by decide) (by decide) (Nat.le_of_ble_eq_true rfl) rfl (fun v_r_2 S_1 hq => ?_)
  obtain ⟨r_2, rfl, h⟩ := hq
  dsimp only [Option.toList, List.cons_append, List.nil_append]
  refine J_iload_n dX3_passSign_4 rfl 1 rfl  ?_
  refine J_icmp_ne (tgt := 12) dX3_passSign_5 (by decide) (fun c_3 => ?_) (fun c_3 => ?_)
  · have h := h.1 c_3
    refine J_iconst (v := 0) dX3_passSign_12 (by decide)  ?_
    exact l_X3_passSign_13 p1  _   _ _  h
  · have h := h.2 c_3
    refine J_iconst (v := 1) dX3_passSign_8 (by decide)  ?_
    refine J_goto (tgt := 13) dX3_passSign_9 (by decide)  ?_
    exact l_X3_passSign_13 p1  _   _ _  h
def q_X3_passLetter_17   (Q : Int32 → Sto → Prop)  (S : Sto) : Prop := Q ((-1)) S
set_option maxRecDepth 100000 in
set_option maxHeartbeats 4000000 in
theorem l_X3_passLetter_17 {g : Gv}   (Q : Int32 → Sto → Prop)    (S : Sto)  (h : q_X3_passLetter_17   Q  S) : RJ g cX3_passLetter RX3 (some .int) 2 2 17 [(0, .ref (g.1 + 35))] [] S (Qi Q) := by
  unfold q_X3_passLetter_17 at h
  refine J_iconst (v := (-1)) dX3_passLetter_17 (by decide)  ?_
  exact J_iret dX3_passLetter_18 rfl rfl ⟨_, rfl, h⟩
def wp_X3_passLetter  (S : Sto) (Q : Int32 → Sto → Prop) : Prop := wp_X3_signHere  S (fun r_2 S_1 => ((r_2 < 97 → q_X3_passLetter_17   Q  S_1) ∧ (¬ r_2 < 97 → ((r_2 ≤ 100 → ∀ S_5 : Sto, S_5 = uA S_1 35 2 ((S_1.1 35 2) + 1) → Q (r_2 - 97) S_5) ∧ (¬ r_2 ≤ 100 → q_X3_passLetter_17   Q  S_1)))))
set_option maxRecDepth 100000 in
set_option maxHeartbeats 4000000 in
theorem c_X3_passLetter {g : Gv}   (S : Sto) (Q : Int32 → Sto → Prop) (h : wp_X3_passLetter  S Q) : CT g yX3_passLetter cX3_passLetter 2 (some .int) 2 [.ref (g.1 + 35)] S (Qi Q) := by
  unfold wp_X3_passLetter at h
  refine CT.of (by decide) (Nat.le_of_ble_eq_true rfl) ?_
  refine J_sub (lv' := [(0, .ref (g.1 + 35))]) [0] rfl ?_
  refine J_aload_n dX3_passLetter_0 rfl 0 rfl  ?_
  refine J_callV (h := 35) (ci := 1) (As := []) (rest := []) (n := 0) dX3_passLetter_1 (c_X3_signHere   _ _ h) (by decide) rfl tb_2_238 tb_2_235 tb_1_3 tb_2_237 sl_7 (by decide) rfl (by decide) (by decide) (Nat.le_of_ble_eq_true rfl) rfl (fun v_r_2 S_1 hq => ?_)
  obtain ⟨r_2, rfl, h⟩ := hq
  dsimp only [Option.toList, List.cons_append, List.nil_append]
  refine J_istore_n (lv' := [(0, .ref (g.1 + 35)), (1, .int r_2)]) dX3_passLetter_4 rfl (by decide) [1, 0] rfl  ?_
  refine J_iload_n dX3_passLetter_5 rfl 1 rfl  ?_
  refine J_bipush (v := 97) dX3_passLetter_6 (by decide)  ?_
  refine J_icmp_lt (tgt := 17) dX3_passLetter_8 (by decide) (fun c_3 => ?_) (fun c_3 => ?_)
  · have h := h.1 c_3
    refine J_sub (lv' := [(0, .ref (g.1 + 35))]) [0] rfl ?_
    exact l_X3_passLetter_17   _    _  h
  · have h := h.2 c_3
    refine J_iload_n dX3_passLetter_11 rfl 1 rfl  ?_
    refine J_bipush (v := 100) dX3_passLetter_12 (by decide)  ?_
    refine J_icmp_le (tgt := 19) dX3_passLetter_14 (by decide) (fun c_4 => ?_) (fun c_4 => ?_)
    · have h := h.1 c_4
      refine J_aload_n dX3_passLetter_19 rfl 0 rfl  ?_
      refine J_dup dX3_passLetter_20 rfl  ?_
      refine J_geti (ci := 1) dX3_passLetter_21 2 rfl giX3 (by decide) (by decide) rfl rfl tb_1_108 rfl  ?_
      refine J_iconst (v := 1) dX3_passLetter_24 (by decide)  ?_
      refine J_iadd dX3_passLetter_25  ?_
      refine J_puti (ci := 1) dX3_passLetter_26 2 rfl giX3 (by decide) (by decide) rfl rfl tyX3 tyX3_ok nmX3 rfl rfl rfl rfl tb_1_108 rfl  ?_
      refine J_nmS (fun S_5 eS_5 => ?_)
      have h := h S_5 eS_5
      refine J_iload_n dX3_passLetter_29 rfl 1 rfl  ?_
      refine J_bipush (v := 97) dX3_passLetter_30 (by decide)  ?_
      refine J_isub dX3_passLetter_32  ?_
      exact J_iret dX3_passLetter_33 rfl rfl ⟨_, rfl, h⟩
    · have h := h.2 c_4
      refine J_sub (lv' := [(0, .ref (g.1 + 35))]) [0] rfl ?_
      exact l_X3_passLetter_17   _    _  h
def q_X3_passTerm_54   (Q : Int32 → Sto → Prop) (t0 : Int32) (S : Sto) : Prop := narrow .boolean (.int t0) = .int t0 ∧ Q t0 S
set_option maxRecDepth 100000 in
set_option maxHeartbeats 4000000 in
theorem l_X3_passTerm_54 {g : Gv}   (Q : Int32 → Sto → Prop)   (t0 : Int32) (S : Sto)  (h : q_X3_passTerm_54   Q t0 S) : RJ g cX3_passTerm RX3 (some .boolean) 3 3 54 [(0, .ref (g.1 + 35))] [.int t0] S (Qi Q) := by
  unfold q_X3_passTerm_54 at h
  obtain ⟨hb, h⟩ := h
  exact J_iret dX3_passTerm_54 rfl hb ⟨_, rfl, h⟩
def q_X3_passTerm_25   (Q : Int32 → Sto → Prop) : Nat → Int32 → Int32 → Sto → Prop
  | 0, _, _, _ => False
  | n + 1, x1, x2, S => ((4 ≤ x2 → (((S.1 35 2) ≤ x1 → q_X3_passTerm_54   Q 0 S) ∧ (¬ (S.1 35 2) ≤ x1 → q_X3_passTerm_54   Q 1 S))) ∧ (¬ 4 ≤ x2 → wp_X3_passLetter  S (fun r_4 S_3 => ∀ x2_5 : Int32, x2_5 = x2 + 1 → q_X3_passTerm_25   Q n x1 x2_5 S_3)))
set_option maxRecDepth 100000 in
set_option maxHeartbeats 4000000 in
theorem l_X3_passTerm_25 {g : Gv}   (Q : Int32 → Sto → Prop)   (n : Nat) : ∀ (x1 : Int32) (x2 : Int32) (S : Sto)  (h : q_X3_passTerm_25   Q n x1 x2 S), RJ g cX3_passTerm RX3 (some .boolean) 3 3 25 [(0, .ref (g.1 + 35)), (1, .int x1), (2, .int x2)] [] S (Qi Q) := by
  induction n with
  | zero => intro x1 x2 S  h; exact h.elim
  | succ n ih =>
    intro x1 x2 S  h
    unfold q_X3_passTerm_25 at h
    refine J_iload_n dX3_passTerm_25 rfl 2 rfl  ?_
    refine J_iconst (v := 4) dX3_passTerm_26 (by decide)  ?_
    refine J_icmp_ge (tgt := 41) dX3_passTerm_27 (by decide) (fun c_1 => ?_) (fun c_1 => ?_)
    · have h := h.1 c_1
      refine J_aload_n dX3_passTerm_41 rfl 0 rfl  ?_
      refine J_geti (ci := 1) dX3_passTerm_42 2 rfl giX3 (by decide) (by decide) rfl rfl tb_1_108 rfl  ?_
      refine J_iload_n dX3_passTerm_45 rfl 1 rfl  ?_
      refine J_icmp_le (tgt := 53) dX3_passTerm_46 (by decide) (fun c_2 => ?_) (fun c_2 => ?_)
      · have h := h.1 c_2
        refine J_iconst (v := 0) dX3_passTerm_53 (by decide)  ?_
        refine J_sub (lv' := [(0, .ref (g.1 + 35))]) [0] rfl ?_
        exact l_X3_passTerm_54   _   _ _  h
      · have h := h.2 c_2
        refine J_iconst (v := 1) dX3_passTerm_49 (by decide)  ?_
        refine J_goto (tgt := 54) dX3_passTerm_50 (by decide)  ?_
        refine J_sub (lv' := [(0, .ref (g.1 + 35))]) [0] rfl ?_
        exact l_X3_passTerm_54   _   _ _  h
    · have h := h.2 c_1
      refine J_aload_n dX3_passTerm_30 rfl 0 rfl  ?_
      refine J_callV (h := 35) (ci := 1) (As := []) (rest := []) (n := 0) dX3_passTerm_31 (c_X3_passLetter   _ _ h) (by decide) rfl tb_3_14 tb_3_11 tb_1_3 tb_3_13 sl_11 (by decide) rfl (by decide) (by decide) (Nat.le_of_ble_eq_true rfl) rfl (fun v_r_4 S_3 hq => ?_)
      obtain ⟨r_4, rfl, h⟩ := hq
      dsimp only [Option.toList, List.cons_append, List.nil_append]
      refine J_pop dX3_passTerm_34 rfl  ?_
      obtain ⟨x2_5, ex2_5⟩ : ∃ y : Int32, y = x2 + 1 := ⟨_, rfl⟩
      have h := h x2_5 ex2_5
      refine J_iinc (v := x2_5) (lv' := [(0, .ref (g.1 + 35)), (1, .int x1), (2, .int x2_5)]) dX3_passTerm_35 (q := 2) rfl (by rw [ex2_5]; rfl) (by decide) [1, 2, 0] rfl  ?_
      refine J_goto (tgt := 25) dX3_passTerm_38 (by decide)  ?_
      exact ih _ _ _  h
def q_X3_passTerm_7   (Q : Int32 → Sto → Prop) : Nat → Int32 → Int32 → Sto → Prop
  | 0, _, _, _ => False
  | n + 1, x1, x2, S => ((2 ≤ x2 → (∃ n_25, q_X3_passTerm_25   Q n_25 x1 0 S)) ∧ (¬ 2 ≤ x2 → wp_X3_passDigit  S (fun r_3 S_2 => ∀ x2_4 : Int32, x2_4 = x2 + 1 → q_X3_passTerm_7   Q n x1 x2_4 S_2)))
set_option maxRecDepth 100000 in
set_option maxHeartbeats 4000000 in
theorem l_X3_passTerm_7 {g : Gv}   (Q : Int32 → Sto → Prop)   (n : Nat) : ∀ (x1 : Int32) (x2 : Int32) (S : Sto)  (h : q_X3_passTerm_7   Q n x1 x2 S), RJ g cX3_passTerm RX3 (some .boolean) 3 3 7 [(0, .ref (g.1 + 35)), (1, .int x1), (2, .int x2)] [] S (Qi Q) := by
  induction n with
  | zero => intro x1 x2 S  h; exact h.elim
  | succ n ih =>
    intro x1 x2 S  h
    unfold q_X3_passTerm_7 at h
    refine J_iload_n dX3_passTerm_7 rfl 2 rfl  ?_
    refine J_iconst (v := 2) dX3_passTerm_8 (by decide)  ?_
    refine J_icmp_ge (tgt := 23) dX3_passTerm_9 (by decide) (fun c_1 => ?_) (fun c_1 => ?_)
    · have h := h.1 c_1
      refine J_iconst (v := 0) dX3_passTerm_23 (by decide)  ?_
      refine J_istore_n (lv' := [(0, .ref (g.1 + 35)), (1, .int x1), (2, .int 0)]) dX3_passTerm_24 rfl (by decide) [1, 2, 0] rfl  ?_
      obtain ⟨n, h⟩ := h
      exact l_X3_passTerm_25   _   n _ _ _  h
    · have h := h.2 c_1
      refine J_aload_n dX3_passTerm_12 rfl 0 rfl  ?_
      refine J_callV (h := 35) (ci := 1) (As := []) (rest := []) (n := 0) dX3_passTerm_13 (c_X3_passDigit   _ _ h) (by decide) rfl tb_3_2 tb_2_239 tb_1_3 tb_3_1 sl_8 (by decide) rfl (by decide) (by decide) (Nat.le_of_ble_eq_true rfl) rfl (fun v_r_3 S_2 hq => ?_)
      obtain ⟨r_3, rfl, h⟩ := hq
      dsimp only [Option.toList, List.cons_append, List.nil_append]
      refine J_pop dX3_passTerm_16 rfl  ?_
      obtain ⟨x2_4, ex2_4⟩ : ∃ y : Int32, y = x2 + 1 := ⟨_, rfl⟩
      have h := h x2_4 ex2_4
      refine J_iinc (v := x2_4) (lv' := [(0, .ref (g.1 + 35)), (1, .int x1), (2, .int x2_4)]) dX3_passTerm_17 (q := 2) rfl (by rw [ex2_4]; rfl) (by decide) [1, 2, 0] rfl  ?_
      refine J_goto (tgt := 7) dX3_passTerm_20 (by decide)  ?_
      exact ih _ _ _  h
def wp_X3_passTerm  (S : Sto) (Q : Int32 → Sto → Prop) : Prop := ∀ x1_1 : Int32, x1_1 = S.1 35 2 → (∃ n_7, q_X3_passTerm_7   Q n_7 x1_1 0 S)
set_option maxRecDepth 100000 in
set_option maxHeartbeats 4000000 in
theorem c_X3_passTerm {g : Gv}   (S : Sto) (Q : Int32 → Sto → Prop) (h : wp_X3_passTerm  S Q) : CT g yX3_passTerm cX3_passTerm 3 (some .boolean) 3 [.ref (g.1 + 35)] S (Qi Q) := by
  unfold wp_X3_passTerm at h
  refine CT.of (by decide) (Nat.le_of_ble_eq_true rfl) ?_
  refine J_sub (lv' := [(0, .ref (g.1 + 35))]) [0] rfl ?_
  refine J_aload_n dX3_passTerm_0 rfl 0 rfl  ?_
  refine J_geti (ci := 1) dX3_passTerm_1 2 rfl giX3 (by decide) (by decide) rfl rfl tb_1_108 rfl  ?_
  refine J_topi (fun x1_1 ex1_1 => ?_)
  have h := h x1_1 ex1_1
  refine J_istore_n (lv' := [(0, .ref (g.1 + 35)), (1, .int x1_1)]) dX3_passTerm_4 rfl (by decide) [1, 0] rfl  ?_
  refine J_iconst (v := 0) dX3_passTerm_5 (by decide)  ?_
  refine J_istore_n (lv' := [(0, .ref (g.1 + 35)), (1, .int x1_1), (2, .int 0)]) dX3_passTerm_6 rfl (by decide) [1, 2, 0] rfl  ?_
  obtain ⟨n, h⟩ := h
  exact l_X3_passTerm_7   _   n _ _ _  h
def q_X3_passSum_44  (R9 : Int32 → Sto → Prop) (Q : Int32 → Sto → Prop) (x1 : Int32) (S : Sto) : Prop := ∀ x1_1 : Int32, x1_1 = x1 + 1 → R9 x1_1 S
set_option maxRecDepth 100000 in
set_option maxHeartbeats 4000000 in
theorem l_X3_passSum_44 {g : Gv}  (R9 : Int32 → Sto → Prop) (Q : Int32 → Sto → Prop) (hR9 : ∀ (y1 : Int32) (S : Sto), R9 y1 S → RJ g cX3_passSum RX3 (some .boolean) 2 4 9 [(0, .ref (g.1 + 35)), (1, .int y1)] [] S (Qi Q))  (x1 : Int32) (S : Sto)  (h : q_X3_passSum_44  R9 Q x1 S) : RJ g cX3_passSum RX3 (some .boolean) 2 4 44 [(0, .ref (g.1 + 35)), (1, .int x1)] [] S (Qi Q) := by
  unfold q_X3_passSum_44 at h
  obtain ⟨x1_1, ex1_1⟩ : ∃ y : Int32, y = x1 + 1 := ⟨_, rfl⟩
  have h := h x1_1 ex1_1
  refine J_iinc (v := x1_1) (lv' := [(0, .ref (g.1 + 35)), (1, .int x1_1)]) dX3_passSum_44 (q := 1) rfl (by rw [ex1_1]; rfl) (by decide) [1, 0] rfl  ?_
  refine J_goto (tgt := 9) dX3_passSum_47 (by decide)  ?_
  exact hR9 _ _  h
def q_X3_passSum_9   (Q : Int32 → Sto → Prop) : Nat → Int32 → Sto → Prop
  | 0, _, _ => False
  | n + 1, x1, S => ((100 ≤ x1 → Q 0 S) ∧ (¬ 100 ≤ x1 → wp_X3_passTerm  S (fun r_3 S_2 => ((¬ r_3 = 0 → wp_X3_passSign 43 S_2 (fun r_6 S_5 => ((¬ r_6 = 0 → q_X3_passSum_44  (fun y1 S => q_X3_passSum_9   Q n y1 S) Q x1 S_5) ∧ (r_6 = 0 → wp_X3_passSign 45 S_5 (fun r_9 S_8 => ((¬ r_9 = 0 → q_X3_passSum_44  (fun y1 S => q_X3_passSum_9   Q n y1 S) Q x1 S_8) ∧ (r_9 = 0 → Q 1 S_8))))))) ∧ (r_3 = 0 → Q 0 S_2)))))
set_option maxRecDepth 100000 in
set_option maxHeartbeats 4000000 in
theorem l_X3_passSum_9 {g : Gv}   (Q : Int32 → Sto → Prop)   (n : Nat) : ∀ (x1 : Int32) (S : Sto)  (h : q_X3_passSum_9   Q n x1 S), RJ g cX3_passSum RX3 (some .boolean) 2 4 9 [(0, .ref (g.1 + 35)), (1, .int x1)] [] S (Qi Q) := by
  induction n with
  | zero => intro x1 S  h; exact h.elim
  | succ n ih =>
    intro x1 S  h
    unfold q_X3_passSum_9 at h
    refine J_iload_n dX3_passSum_9 rfl 1 rfl  ?_
    refine J_bipush (v := 100) dX3_passSum_10 (by decide)  ?_
    refine J_icmp_ge (tgt := 50) dX3_passSum_12 (by decide) (fun c_1 => ?_) (fun c_1 => ?_)
    · have h := h.1 c_1
      refine J_iconst (v := 0) dX3_passSum_50 (by decide)  ?_
      exact J_iret dX3_passSum_51 rfl rfl ⟨_, rfl, h⟩
    · have h := h.2 c_1
      refine J_aload_n dX3_passSum_15 rfl 0 rfl  ?_
      refine J_callV (h := 35) (ci := 1) (As := []) (rest := []) (n := 0) dX3_passSum_16 (c_X3_passTerm   _ _ h) (by decide) rfl tb_3_10 tb_3_7 tb_1_3 tb_3_9 sl_10 (by decide) rfl (by decide) (by decide) (Nat.le_of_ble_eq_true rfl) rfl (fun v_r_3 S_2 hq => ?_)
      obtain ⟨r_3, rfl, h⟩ := hq
      dsimp only [Option.toList, List.cons_append, List.nil_append]
      refine J_if_ne (tgt := 24) dX3_passSum_19 (by decide) (fun c_4 => ?_) (fun c_4 => ?_)
      · have h := h.1 c_4
        refine J_aload_n dX3_passSum_24 rfl 0 rfl  ?_
        refine J_bipush (v := 43) dX3_passSum_25 (by decide)  ?_
        refine J_callV (h := 35) (ci := 1) (As := [.int 43]) (rest := []) (n := 1) dX3_passSum_27 (c_X3_passSign 43  _ _ h) (by decide) rfl tb_2_234 tb_2_231 tb_1_3 tb_2_233 sl_6 (by decide) rfl (by decide) (by decide) (Nat.le_of_ble_eq_true rfl) rfl (fun v_r_6 S_5 hq => ?_)
        obtain ⟨r_6, rfl, h⟩ := hq
        dsimp only [Option.toList, List.cons_append, List.nil_append]
        refine J_if_ne (tgt := 44) dX3_passSum_30 (by decide) (fun c_7 => ?_) (fun c_7 => ?_)
        · have h := h.1 c_7
          exact l_X3_passSum_44  _ _ (fun y1 S  h => ih y1 S  h)  _ _  h
        · have h := h.2 c_7
          refine J_aload_n dX3_passSum_33 rfl 0 rfl  ?_
          refine J_bipush (v := 45) dX3_passSum_34 (by decide)  ?_
          refine J_callV (h := 35) (ci := 1) (As := [.int 45]) (rest := []) (n := 1) dX3_passSum_36 (c_X3_passSign 45  _ _ h) (by decide) rfl tb_2_234 tb_2_231 tb_1_3 tb_2_233 sl_6 (by decide) rfl (by decide) (by decide) (Nat.le_of_ble_eq_true rfl) rfl (fun v_r_9 S_8 hq => ?_)
          obtain ⟨r_9, rfl, h⟩ := hq
          dsimp only [Option.toList, List.cons_append, List.nil_append]
          refine J_if_ne (tgt := 44) dX3_passSum_39 (by decide) (fun c_10 => ?_) (fun c_10 => ?_)
          · have h := h.1 c_10
            exact l_X3_passSum_44  _ _ (fun y1 S  h => ih y1 S  h)  _ _  h
          · have h := h.2 c_10
            refine J_iconst (v := 1) dX3_passSum_42 (by decide)  ?_
            exact J_iret dX3_passSum_43 rfl rfl ⟨_, rfl, h⟩
      · have h := h.2 c_4
        refine J_iconst (v := 0) dX3_passSum_22 (by decide)  ?_
        exact J_iret dX3_passSum_23 rfl rfl ⟨_, rfl, h⟩
def wp_X3_passSum  (S : Sto) (Q : Int32 → Sto → Prop) : Prop := wp_X3_passSign 45 S (fun r_2 S_1 => (∃ n_9, q_X3_passSum_9   Q n_9 0 S_1))
set_option maxRecDepth 100000 in
set_option maxHeartbeats 4000000 in
theorem c_X3_passSum {g : Gv}   (S : Sto) (Q : Int32 → Sto → Prop) (h : wp_X3_passSum  S Q) : CT g yX3_passSum cX3_passSum 2 (some .boolean) 4 [.ref (g.1 + 35)] S (Qi Q) := by
  unfold wp_X3_passSum at h
  refine CT.of (by decide) (Nat.le_of_ble_eq_true rfl) ?_
  refine J_sub (lv' := [(0, .ref (g.1 + 35))]) [0] rfl ?_
  refine J_aload_n dX3_passSum_0 rfl 0 rfl  ?_
  refine J_bipush (v := 45) dX3_passSum_1 (by decide)  ?_
  refine J_callV (h := 35) (ci := 1) (As := [.int 45]) (rest := []) (n := 1) dX3_passSum_3 (c_X3_passSign 45  _ _ h) (by decide) rfl tb_2_234 tb_2_231 tb_1_3 tb_2_233 sl_6 (by decide) rfl (by decide) (by decide) (Nat.le_of_ble_eq_true rfl) rfl (fun v_r_2 S_1 hq => ?_)
  obtain ⟨r_2, rfl, h⟩ := hq
  dsimp only [Option.toList, List.cons_append, List.nil_append]
  refine J_pop dX3_passSum_6 rfl  ?_
  refine J_iconst (v := 0) dX3_passSum_7 (by decide)  ?_
  refine J_istore_n (lv' := [(0, .ref (g.1 + 35)), (1, .int 0)]) dX3_passSum_8 rfl (by decide) [1, 0] rfl  ?_
  obtain ⟨n, h⟩ := h
  exact l_X3_passSum_9   _   n _ _  h
def q_X3_passClause_59   (Q : Int32 → Sto → Prop) (t0 : Int32) (S : Sto) : Prop := narrow .boolean (.int t0) = .int t0 ∧ Q t0 S
set_option maxRecDepth 100000 in
set_option maxHeartbeats 4000000 in
theorem l_X3_passClause_59 {g : Gv}   (Q : Int32 → Sto → Prop)   (t0 : Int32) (S : Sto)  (h : q_X3_passClause_59   Q t0 S) : RJ g cX3_passClause RX3 (some .boolean) 1 5 59 [(0, .ref (g.1 + 35))] [.int t0] S (Qi Q) := by
  unfold q_X3_passClause_59 at h
  obtain ⟨hb, h⟩ := h
  exact J_iret dX3_passClause_59 rfl hb ⟨_, rfl, h⟩
def q_X3_passClause_47   (Q : Int32 → Sto → Prop)  (S : Sto) : Prop := wp_X3_passDigit  S (fun r_2 S_1 => ((r_2 < 0 → q_X3_passClause_59   Q 0 S_1) ∧ (¬ r_2 < 0 → q_X3_passClause_59   Q 1 S_1)))
set_option maxRecDepth 100000 in
set_option maxHeartbeats 4000000 in
theorem l_X3_passClause_47 {g : Gv}   (Q : Int32 → Sto → Prop)    (S : Sto)  (h : q_X3_passClause_47   Q  S) : RJ g cX3_passClause RX3 (some .boolean) 1 5 47 [(0, .ref (g.1 + 35))] [] S (Qi Q) := by
  unfold q_X3_passClause_47 at h
  refine J_aload_n dX3_passClause_47 rfl 0 rfl  ?_
  refine J_callV (h := 35) (ci := 1) (As := []) (rest := []) (n := 0) dX3_passClause_48 (c_X3_passDigit   _ _ h) (by decide) rfl tb_3_2 tb_2_239 tb_1_3 tb_3_1 sl_8 (by decide) rfl (by decide) (by decide) (Nat.le_of_ble_eq_true rfl) rfl (fun v_r_2 S_1 hq => ?_)
  obtain ⟨r_2, rfl, h⟩ := hq
  dsimp only [Option.toList, List.cons_append, List.nil_append]
  refine J_if_lt (tgt := 58) dX3_passClause_51 (by decide) (fun c_3 => ?_) (fun c_3 => ?_)
  · have h := h.1 c_3
    refine J_iconst (v := 0) dX3_passClause_58 (by decide)  ?_
    exact l_X3_passClause_59   _   _ _  h
  · have h := h.2 c_3
    refine J_iconst (v := 1) dX3_passClause_54 (by decide)  ?_
    refine J_goto (tgt := 59) dX3_passClause_55 (by decide)  ?_
    exact l_X3_passClause_59   _   _ _  h
def q_X3_passClause_88   (Q : Int32 → Sto → Prop) (t0 : Int32) (S : Sto) : Prop := narrow .boolean (.int t0) = .int t0 ∧ Q t0 S
set_option maxRecDepth 100000 in
set_option maxHeartbeats 4000000 in
theorem l_X3_passClause_88 {g : Gv}   (Q : Int32 → Sto → Prop)   (t0 : Int32) (S : Sto)  (h : q_X3_passClause_88   Q t0 S) : RJ g cX3_passClause RX3 (some .boolean) 1 5 88 [(0, .ref (g.1 + 35))] [.int t0] S (Qi Q) := by
  unfold q_X3_passClause_88 at h
  obtain ⟨hb, h⟩ := h
  exact J_iret dX3_passClause_88 rfl hb ⟨_, rfl, h⟩
def q_X3_passClause_87   (Q : Int32 → Sto → Prop)  (S : Sto) : Prop := q_X3_passClause_88   Q 0 S
set_option maxRecDepth 100000 in
set_option maxHeartbeats 4000000 in
theorem l_X3_passClause_87 {g : Gv}   (Q : Int32 → Sto → Prop)    (S : Sto)  (h : q_X3_passClause_87   Q  S) : RJ g cX3_passClause RX3 (some .boolean) 1 5 87 [(0, .ref (g.1 + 35))] [] S (Qi Q) := by
  unfold q_X3_passClause_87 at h
  refine J_iconst (v := 0) dX3_passClause_87 (by decide)  ?_
  exact l_X3_passClause_88   _   _ _  h
def wp_X3_passClause  (S : Sto) (Q : Int32 → Sto → Prop) : Prop := wp_X3_passSign 120 S (fun r_2 S_1 => ((r_2 = 0 → wp_X3_passSign 103 S_1 (fun r_5 S_4 => ((¬ r_5 = 0 → q_X3_passClause_47   Q  S_4) ∧ (r_5 = 0 → wp_X3_passSign 110 S_4 (fun r_8 S_7 => ((¬ r_8 = 0 → q_X3_passClause_47   Q  S_7) ∧ (r_8 = 0 → wp_X3_passSign 112 S_7 (fun r_11 S_10 => ((¬ r_11 = 0 → q_X3_passClause_47   Q  S_10) ∧ (r_11 = 0 → wp_X3_passSign 111 S_10 (fun r_14 S_13 => ((r_14 = 0 → wp_X3_passDigit  S_13 (fun r_17 S_16 => ((r_17 < 0 → q_X3_passClause_87   Q  S_16) ∧ (¬ r_17 < 0 → wp_X3_passSign 58 S_16 (fun r_20 S_19 => ((r_20 = 0 → q_X3_passClause_87   Q  S_19) ∧ (¬ r_20 = 0 → wp_X3_passSum  S_19 (fun r_23 S_22 => ((r_23 = 0 → q_X3_passClause_87   Q  S_22) ∧ (¬ r_23 = 0 → q_X3_passClause_88   Q 1 S_22)))))))))) ∧ (¬ r_14 = 0 → q_X3_passClause_47   Q  S_13))))))))))))) ∧ (¬ r_2 = 0 → Q 1 S_1)))
set_option maxRecDepth 100000 in
set_option maxHeartbeats 4000000 in
theorem c_X3_passClause {g : Gv}   (S : Sto) (Q : Int32 → Sto → Prop) (h : wp_X3_passClause  S Q) : CT g yX3_passClause cX3_passClause 1 (some .boolean) 5 [.ref (g.1 + 35)] S (Qi Q) := by
  unfold wp_X3_passClause at h
  refine CT.of (by decide) (Nat.le_of_ble_eq_true rfl) ?_
  refine J_sub (lv' := [(0, .ref (g.1 + 35))]) [0] rfl ?_
  refine J_aload_n dX3_passClause_0 rfl 0 rfl  ?_
  refine J_bipush (v := 120) dX3_passClause_1 (by decide)  ?_
  refine J_callV (h := 35) (ci := 1) (As := [.int 120]) (rest := []) (n := 1) dX3_passClause_3 (c_X3_passSign 120  _ _ h) (by decide) rfl tb_2_234 tb_2_231 tb_1_3 tb_2_233 sl_6 (by decide) rfl (by decide) (by decide) (Nat.le_of_ble_eq_true rfl) rfl (fun v_r_2 S_1 hq => ?_)
  obtain ⟨r_2, rfl, h⟩ := hq
  dsimp only [Option.toList, List.cons_append, List.nil_append]
  refine J_if_eq (tgt := 11) dX3_passClause_6 (by decide) (fun c_3 => ?_) (fun c_3 => ?_)
  · have h := h.1 c_3
    refine J_aload_n dX3_passClause_11 rfl 0 rfl  ?_
    refine J_bipush (v := 103) dX3_passClause_12 (by decide)  ?_
    refine J_callV (h := 35) (ci := 1) (As := [.int 103]) (rest := []) (n := 1) dX3_passClause_14 (c_X3_passSign 103  _ _ h) (by decide) rfl tb_2_234 tb_2_231 tb_1_3 tb_2_233 sl_6 (by decide) rfl (by decide) (by decide) (Nat.le_of_ble_eq_true rfl) rfl (fun v_r_5 S_4 hq => ?_)
    obtain ⟨r_5, rfl, h⟩ := hq
    dsimp only [Option.toList, List.cons_append, List.nil_append]
    refine J_if_ne (tgt := 47) dX3_passClause_17 (by decide) (fun c_6 => ?_) (fun c_6 => ?_)
    · have h := h.1 c_6
      exact l_X3_passClause_47   _    _  h
    · have h := h.2 c_6
      refine J_aload_n dX3_passClause_20 rfl 0 rfl  ?_
      refine J_bipush (v := 110) dX3_passClause_21 (by decide)  ?_
      refine J_callV (h := 35) (ci := 1) (As := [.int 110]) (rest := []) (n := 1) dX3_passClause_23 (c_X3_passSign 110  _ _ h) (by decide) rfl tb_2_234 tb_2_231 tb_1_3 tb_2_233 sl_6 (by decide) rfl (by decide) (by decide) (Nat.le_of_ble_eq_true rfl) rfl (fun v_r_8 S_7 hq => ?_)
      obtain ⟨r_8, rfl, h⟩ := hq
      dsimp only [Option.toList, List.cons_append, List.nil_append]
      refine J_if_ne (tgt := 47) dX3_passClause_26 (by decide) (fun c_9 => ?_) (fun c_9 => ?_)
      · have h := h.1 c_9
        exact l_X3_passClause_47   _    _  h
      · have h := h.2 c_9
        refine J_aload_n dX3_passClause_29 rfl 0 rfl  ?_
        refine J_bipush (v := 112) dX3_passClause_30 (by decide)  ?_
        refine J_callV (h := 35) (ci := 1) (As := [.int 112]) (rest := []) (n := 1) dX3_passClause_32 (c_X3_passSign 112  _ _ h) (by decide) rfl tb_2_234 tb_2_231 tb_1_3 tb_2_233 sl_6 (by decide) rfl (by decide) (by decide) (Nat.le_of_ble_eq_true rfl) rfl (fun v_r_11 S_10 hq => ?_)
        obtain ⟨r_11, rfl, h⟩ := hq
        dsimp only [Option.toList, List.cons_append, List.nil_append]
        refine J_if_ne (tgt := 47) dX3_passClause_35 (by decide) (fun c_12 => ?_) (fun c_12 => ?_)
        · have h := h.1 c_12
          exact l_X3_passClause_47   _    _  h
        · have h := h.2 c_12
          refine J_aload_n dX3_passClause_38 rfl 0 rfl  ?_
          refine J_bipush (v := 111) dX3_passClause_39 (by decide)  ?_
          refine J_callV (h := 35) (ci := 1) (As := [.int 111]) (rest := []) (n := 1) dX3_passClause_41 (c_X3_passSign 111  _ _ h) (by decide) rfl tb_2_234 tb_2_231 tb_1_3 tb_2_233 sl_6 (by decide) rfl (by decide) (by decide) (Nat.le_of_ble_eq_true rfl) rfl (fun v_r_14 S_13 hq => ?_)
          obtain ⟨r_14, rfl, h⟩ := hq
          dsimp only [Option.toList, List.cons_append, List.nil_append]
          refine J_if_eq (tgt := 60) dX3_passClause_44 (by decide) (fun c_15 => ?_) (fun c_15 => ?_)
          · have h := h.1 c_15
            refine J_aload_n dX3_passClause_60 rfl 0 rfl  ?_
            refine J_callV (h := 35) (ci := 1) (As := []) (rest := []) (n := 0) dX3_passClause_61 (c_X3_passDigit   _ _ h) (by decide) rfl tb_3_2 tb_2_239 tb_1_3 tb_3_1 sl_8 (by decide) rfl (by decide) (by decide) (Nat.le_of_ble_eq_true rfl) rfl (fun v_r_17 S_16 hq => ?_)
            obtain ⟨r_17, rfl, h⟩ := hq
            dsimp only [Option.toList, List.cons_append, List.nil_append]
            refine J_if_lt (tgt := 87) dX3_passClause_64 (by decide) (fun c_18 => ?_) (fun c_18 => ?_)
            · have h := h.1 c_18
              exact l_X3_passClause_87   _    _  h
            · have h := h.2 c_18
              refine J_aload_n dX3_passClause_67 rfl 0 rfl  ?_
              refine J_bipush (v := 58) dX3_passClause_68 (by decide)  ?_
              refine J_callV (h := 35) (ci := 1) (As := [.int 58]) (rest := []) (n := 1) dX3_passClause_70 (c_X3_passSign 58  _ _ h) (by decide) rfl tb_2_234 tb_2_231 tb_1_3 tb_2_233 sl_6 (by decide) rfl (by decide) (by decide) (Nat.le_of_ble_eq_true rfl) rfl (fun v_r_20 S_19 hq => ?_)
              obtain ⟨r_20, rfl, h⟩ := hq
              dsimp only [Option.toList, List.cons_append, List.nil_append]
              refine J_if_eq (tgt := 87) dX3_passClause_73 (by decide) (fun c_21 => ?_) (fun c_21 => ?_)
              · have h := h.1 c_21
                exact l_X3_passClause_87   _    _  h
              · have h := h.2 c_21
                refine J_aload_n dX3_passClause_76 rfl 0 rfl  ?_
                refine J_callV (h := 35) (ci := 1) (As := []) (rest := []) (n := 0) dX3_passClause_77 (c_X3_passSum   _ _ h) (by decide) rfl tb_3_6 tb_3_3 tb_1_3 tb_3_5 sl_9 (by decide) rfl (by decide) (by decide) (Nat.le_of_ble_eq_true rfl) rfl (fun v_r_23 S_22 hq => ?_)
                obtain ⟨r_23, rfl, h⟩ := hq
                dsimp only [Option.toList, List.cons_append, List.nil_append]
                refine J_if_eq (tgt := 87) dX3_passClause_80 (by decide) (fun c_24 => ?_) (fun c_24 => ?_)
                · have h := h.1 c_24
                  exact l_X3_passClause_87   _    _  h
                · have h := h.2 c_24
                  refine J_iconst (v := 1) dX3_passClause_83 (by decide)  ?_
                  refine J_goto (tgt := 88) dX3_passClause_84 (by decide)  ?_
                  exact l_X3_passClause_88   _   _ _  h
          · have h := h.2 c_15
            exact l_X3_passClause_47   _    _  h
  · have h := h.2 c_3
    refine J_iconst (v := 1) dX3_passClause_9 (by decide)  ?_
    exact J_iret dX3_passClause_10 rfl rfl ⟨_, rfl, h⟩
def q_X3_faultPlace_53   (Q : Int32 → Sto → Prop)  (S : Sto) : Prop := Q (S.1 35 2) S
set_option maxRecDepth 100000 in
set_option maxHeartbeats 4000000 in
theorem l_X3_faultPlace_53 {g : Gv}   (Q : Int32 → Sto → Prop)    (S : Sto)  (h : q_X3_faultPlace_53   Q  S) : RJ g cX3_faultPlace RX3 (some .int) 2 6 53 [(0, .ref (g.1 + 35))] [] S (Qi Q) := by
  unfold q_X3_faultPlace_53 at h
  refine J_aload_n dX3_faultPlace_53 rfl 0 rfl  ?_
  refine J_geti (ci := 1) dX3_faultPlace_54 2 rfl giX3 (by decide) (by decide) rfl rfl tb_1_108 rfl  ?_
  exact J_iret dX3_faultPlace_57 rfl rfl ⟨_, rfl, h⟩
def q_X3_faultPlace_7   (Q : Int32 → Sto → Prop) : Nat → Int32 → Sto → Prop
  | 0, _, _ => False
  | n + 1, x1, S => ((12 < x1 → Q (S.1 35 2) S) ∧ (¬ 12 < x1 → wp_X3_passClause  S (fun r_3 S_2 => ((¬ r_3 = 0 → (((S_2.1 35 2) < (S_2.1 35 1) → ((x1 = 12 → q_X3_faultPlace_53   Q  S_2) ∧ (¬ x1 = 12 → wp_X3_passSign 59 S_2 (fun r_8 S_7 => ((¬ r_8 = 0 → ∀ x1_10 : Int32, x1_10 = x1 + 1 → q_X3_faultPlace_7   Q n x1_10 S_7) ∧ (r_8 = 0 → q_X3_faultPlace_53   Q  S_7)))))) ∧ (¬ (S_2.1 35 2) < (S_2.1 35 1) → Q ((-1)) S_2))) ∧ (r_3 = 0 → Q (S_2.1 35 2) S_2)))))
set_option maxRecDepth 100000 in
set_option maxHeartbeats 4000000 in
theorem l_X3_faultPlace_7 {g : Gv}   (Q : Int32 → Sto → Prop)   (n : Nat) : ∀ (x1 : Int32) (S : Sto)  (h : q_X3_faultPlace_7   Q n x1 S), RJ g cX3_faultPlace RX3 (some .int) 2 6 7 [(0, .ref (g.1 + 35)), (1, .int x1)] [] S (Qi Q) := by
  induction n with
  | zero => intro x1 S  h; exact h.elim
  | succ n ih =>
    intro x1 S  h
    unfold q_X3_faultPlace_7 at h
    refine J_iload_n dX3_faultPlace_7 rfl 1 rfl  ?_
    refine J_bipush (v := 12) dX3_faultPlace_8 (by decide)  ?_
    refine J_icmp_gt (tgt := 64) dX3_faultPlace_10 (by decide) (fun c_1 => ?_) (fun c_1 => ?_)
    · have h := h.1 c_1
      refine J_aload_n dX3_faultPlace_64 rfl 0 rfl  ?_
      refine J_geti (ci := 1) dX3_faultPlace_65 2 rfl giX3 (by decide) (by decide) rfl rfl tb_1_108 rfl  ?_
      exact J_iret dX3_faultPlace_68 rfl rfl ⟨_, rfl, h⟩
    · have h := h.2 c_1
      refine J_aload_n dX3_faultPlace_13 rfl 0 rfl  ?_
      refine J_callV (h := 35) (ci := 1) (As := []) (rest := []) (n := 0) dX3_faultPlace_14 (c_X3_passClause   _ _ h) (by decide) rfl tb_2_230 tb_2_227 tb_1_3 tb_2_229 sl_5 (by decide) rfl (by decide) (by decide) (Nat.le_of_ble_eq_true rfl) rfl (fun v_r_3 S_2 hq => ?_)
      obtain ⟨r_3, rfl, h⟩ := hq
      dsimp only [Option.toList, List.cons_append, List.nil_append]
      refine J_if_ne (tgt := 25) dX3_faultPlace_17 (by decide) (fun c_4 => ?_) (fun c_4 => ?_)
      · have h := h.1 c_4
        refine J_aload_n dX3_faultPlace_25 rfl 0 rfl  ?_
        refine J_geti (ci := 1) dX3_faultPlace_26 2 rfl giX3 (by decide) (by decide) rfl rfl tb_1_108 rfl  ?_
        refine J_aload_n dX3_faultPlace_29 rfl 0 rfl  ?_
        refine J_geti (ci := 1) dX3_faultPlace_30 1 rfl giX3 (by decide) (by decide) rfl rfl tb_1_106 rfl  ?_
        refine J_icmp_lt (tgt := 38) dX3_faultPlace_33 (by decide) (fun c_5 => ?_) (fun c_5 => ?_)
        · have h := h.1 c_5
          refine J_iload_n dX3_faultPlace_38 rfl 1 rfl  ?_
          refine J_bipush (v := 12) dX3_faultPlace_39 (by decide)  ?_
          refine J_icmp_eq (tgt := 53) dX3_faultPlace_41 (by decide) (fun c_6 => ?_) (fun c_6 => ?_)
          · have h := h.1 c_6
            refine J_sub (lv' := [(0, .ref (g.1 + 35))]) [0] rfl ?_
            exact l_X3_faultPlace_53   _    _  h
          · have h := h.2 c_6
            refine J_aload_n dX3_faultPlace_44 rfl 0 rfl  ?_
            refine J_bipush (v := 59) dX3_faultPlace_45 (by decide)  ?_
            refine J_callV (h := 35) (ci := 1) (As := [.int 59]) (rest := []) (n := 1) dX3_faultPlace_47 (c_X3_passSign 59  _ _ h) (by decide) rfl tb_2_234 tb_2_231 tb_1_3 tb_2_233 sl_6 (by decide) rfl (by decide) (by decide) (Nat.le_of_ble_eq_true rfl) rfl (fun v_r_8 S_7 hq => ?_)
            obtain ⟨r_8, rfl, h⟩ := hq
            dsimp only [Option.toList, List.cons_append, List.nil_append]
            refine J_if_ne (tgt := 58) dX3_faultPlace_50 (by decide) (fun c_9 => ?_) (fun c_9 => ?_)
            · have h := h.1 c_9
              obtain ⟨x1_10, ex1_10⟩ : ∃ y : Int32, y = x1 + 1 := ⟨_, rfl⟩
              have h := h x1_10 ex1_10
              refine J_iinc (v := x1_10) (lv' := [(0, .ref (g.1 + 35)), (1, .int x1_10)]) dX3_faultPlace_58 (q := 1) rfl (by rw [ex1_10]; rfl) (by decide) [1, 0] rfl  ?_
              refine J_goto (tgt := 7) dX3_faultPlace_61 (by decide)  ?_
              exact ih _ _  h
            · have h := h.2 c_9
              refine J_sub (lv' := [(0, .ref (g.1 + 35))]) [0] rfl ?_
              exact l_X3_faultPlace_53   _    _  h
        · have h := h.2 c_5
          refine J_iconst (v := (-1)) dX3_faultPlace_36 (by decide)  ?_
          exact J_iret dX3_faultPlace_37 rfl rfl ⟨_, rfl, h⟩
      · have h := h.2 c_4
        refine J_aload_n dX3_faultPlace_20 rfl 0 rfl  ?_
        refine J_geti (ci := 1) dX3_faultPlace_21 2 rfl giX3 (by decide) (by decide) rfl rfl tb_1_108 rfl  ?_
        exact J_iret dX3_faultPlace_24 rfl rfl ⟨_, rfl, h⟩
def wp_X3_faultPlace  (S : Sto) (Q : Int32 → Sto → Prop) : Prop := ∀ S_1 : Sto, S_1 = uA S 35 2 0 → (∃ n_7, q_X3_faultPlace_7   Q n_7 1 S_1)
set_option maxRecDepth 100000 in
set_option maxHeartbeats 4000000 in
theorem c_X3_faultPlace {g : Gv}   (S : Sto) (Q : Int32 → Sto → Prop) (h : wp_X3_faultPlace  S Q) : CT g yX3_faultPlace cX3_faultPlace 2 (some .int) 6 [.ref (g.1 + 35)] S (Qi Q) := by
  unfold wp_X3_faultPlace at h
  refine CT.of (by decide) (Nat.le_of_ble_eq_true rfl) ?_
  refine J_sub (lv' := [(0, .ref (g.1 + 35))]) [0] rfl ?_
  refine J_aload_n dX3_faultPlace_0 rfl 0 rfl  ?_
  refine J_iconst (v := 0) dX3_faultPlace_1 (by decide)  ?_
  refine J_puti (ci := 1) dX3_faultPlace_2 2 rfl giX3 (by decide) (by decide) rfl rfl tyX3 tyX3_ok nmX3 rfl rfl rfl rfl tb_1_108 rfl  ?_
  refine J_nmS (fun S_1 eS_1 => ?_)
  have h := h S_1 eS_1
  refine J_iconst (v := 1) dX3_faultPlace_5 (by decide)  ?_
  refine J_istore_n (lv' := [(0, .ref (g.1 + 35)), (1, .int 1)]) dX3_faultPlace_6 rfl (by decide) [1, 0] rfl  ?_
  obtain ⟨n, h⟩ := h
  exact l_X3_faultPlace_7   _   n _ _  h
