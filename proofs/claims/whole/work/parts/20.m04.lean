def q_X4_copyFrom_57 (p0 : Nat) (p1 : Nat)  (Q : Sto → Prop) : Nat → Int32 → Sto → Prop
  | 0, _, _ => False
  | n + 1, x2, S => ((4 ≤ x2 → ∀ S_2 : Sto, S_2 = uA S p0 5 (S.1 p1 5) → wp_X2_copy (p1 + 13) (p0 + 13) 8 S_2 (fun S_3 => wp_X2_copy (p1 + 14) (p0 + 14) 8 S_3 (fun S_5 => ∀ S_7 : Sto, S_7 = uA S_5 p0 8 (S_5.1 p1 8) → wp_X2_copy (p1 + 15) (p0 + 15) 8 S_7 (fun S_8 => wp_X2_copy (p1 + 16) (p0 + 16) 8 S_8 (fun S_10 => ∀ S_12 : Sto, S_12 = uA S_10 p0 11 (S_10.1 p1 11) → ∀ S_13 : Sto, S_13 = uA S_12 p0 12 ((S_12.1 p0 12) + 1) → Q S_13))))) ∧ (¬ 4 ≤ x2 → vp_in x2 (ln (p1 + 8)) ∧ vp_in x2 (ln (p0 + 8)) ∧ wp_X2_copy (p1 + 8 + 1 + (x2 : Int32).toNatClampNeg) (p0 + 8 + 1 + (x2 : Int32).toNatClampNeg) 16 S (fun S_16 => ∀ x2_18 : Int32, x2_18 = x2 + 1 → q_X4_copyFrom_57 p0 p1  Q n x2_18 S_16)))
set_option maxRecDepth 100000 in
set_option maxHeartbeats 4000000 in
theorem l_X4_copyFrom_57 {g : Gv} (p0 : Nat) (p1 : Nat)  (Q : Sto → Prop)  (hp0 : kd p0 = 7) (hp1 : kd p1 = 7) (n : Nat) : ∀ (x2 : Int32) (S : Sto)  (h : q_X4_copyFrom_57 p0 p1  Q n x2 S), RJ g cX4_copyFrom RX4 none 3 2 57 [(0, .ref (g.1 + p0)), (1, .ref (g.1 + p1)), (2, .int x2)] [] S (Qv Q) := by
  induction n with
  | zero => intro x2 S  h; exact h.elim
  | succ n ih =>
    intro x2 S  h
    unfold q_X4_copyFrom_57 at h
    refine J_iload_n dX4_copyFrom_57 rfl 2 rfl  ?_
    refine J_iconst (v := 4) dX4_copyFrom_58 (by decide)  ?_
    refine J_icmp_ge (tgt := 85) dX4_copyFrom_59 (by decide) (fun c_1 => ?_) (fun c_1 => ?_)
    · have h := h.1 c_1
      refine J_aload_n dX4_copyFrom_85 rfl 0 rfl  ?_
      refine J_aload_n dX4_copyFrom_86 rfl 1 rfl  ?_
      refine J_geti (ci := 2) dX4_copyFrom_87 5 rfl giX4 hp1 (by decide) rfl rfl tb_1_52 rfl  ?_
      refine J_puti (ci := 2) dX4_copyFrom_90 5 rfl giX4 hp0 (by decide) rfl rfl tyX4 tyX4_ok nmX4 rfl rfl rfl rfl tb_1_52 rfl  ?_
      refine J_nmS (fun S_2 eS_2 => ?_)
      have h := h S_2 eS_2
      refine J_aload_n dX4_copyFrom_93 rfl 1 rfl  ?_
      refine J_getr (r := p1 + 13) (ci := 2) dX4_copyFrom_94 6 rfl giX4 hp1 (by decide) rfl rfl tb_1_56 (by decide) (su_rf6 hp1)  ?_
      refine J_aload_n dX4_copyFrom_97 rfl 0 rfl  ?_
      refine J_getr (r := p0 + 13) (ci := 2) dX4_copyFrom_98 6 rfl giX4 hp0 (by decide) rfl rfl tb_1_56 (by decide) (su_rf6 hp0)  ?_
      refine J_bipush (v := 8) dX4_copyFrom_101 (by decide)  ?_
      refine J_callS (As := [.ref (g.1 + (p1 + 13)), .ref (g.1 + (p0 + 13)), .int 8]) (rest := []) (n := 3) dX4_copyFrom_103 (c_X2_copy (p1 + 13) (p0 + 13) 8 (su_kd6 hp1) (su_kd6 hp0) _ _ h) tb_2_123 tb_2_121 tb_1_9 tb_2_122 (by decide) rfl (by decide) (by decide) (Nat.le_of_ble_eq_true rfl) rfl (fun v_r_4 S_3 hq => ?_)
      obtain ⟨rfl, h⟩ := hq
      dsimp only [Option.toList, List.cons_append, List.nil_append]
      refine J_aload_n dX4_copyFrom_106 rfl 1 rfl  ?_
      refine J_getr (r := p1 + 14) (ci := 2) dX4_copyFrom_107 7 rfl giX4 hp1 (by decide) rfl rfl tb_1_58 (by decide) (su_rf7 hp1)  ?_
      refine J_aload_n dX4_copyFrom_110 rfl 0 rfl  ?_
      refine J_getr (r := p0 + 14) (ci := 2) dX4_copyFrom_111 7 rfl giX4 hp0 (by decide) rfl rfl tb_1_58 (by decide) (su_rf7 hp0)  ?_
      refine J_bipush (v := 8) dX4_copyFrom_114 (by decide)  ?_
      refine J_callS (As := [.ref (g.1 + (p1 + 14)), .ref (g.1 + (p0 + 14)), .int 8]) (rest := []) (n := 3) dX4_copyFrom_116 (c_X2_copy (p1 + 14) (p0 + 14) 8 (su_kd7 hp1) (su_kd7 hp0) _ _ h) tb_2_123 tb_2_121 tb_1_9 tb_2_122 (by decide) rfl (by decide) (by decide) (Nat.le_of_ble_eq_true rfl) rfl (fun v_r_6 S_5 hq => ?_)
      obtain ⟨rfl, h⟩ := hq
      dsimp only [Option.toList, List.cons_append, List.nil_append]
      refine J_aload_n dX4_copyFrom_119 rfl 0 rfl  ?_
      refine J_aload_n dX4_copyFrom_120 rfl 1 rfl  ?_
      refine J_geti (ci := 2) dX4_copyFrom_121 8 rfl giX4 hp1 (by decide) rfl rfl tb_1_60 rfl  ?_
      refine J_puti (ci := 2) dX4_copyFrom_124 8 rfl giX4 hp0 (by decide) rfl rfl tyX4 tyX4_ok nmX4 rfl rfl rfl rfl tb_1_60 rfl  ?_
      refine J_nmS (fun S_7 eS_7 => ?_)
      have h := h S_7 eS_7
      refine J_aload_n dX4_copyFrom_127 rfl 1 rfl  ?_
      refine J_getr (r := p1 + 15) (ci := 2) dX4_copyFrom_128 9 rfl giX4 hp1 (by decide) rfl rfl tb_1_63 (by decide) (su_rf9 hp1)  ?_
      refine J_aload_n dX4_copyFrom_131 rfl 0 rfl  ?_
      refine J_getr (r := p0 + 15) (ci := 2) dX4_copyFrom_132 9 rfl giX4 hp0 (by decide) rfl rfl tb_1_63 (by decide) (su_rf9 hp0)  ?_
      refine J_bipush (v := 8) dX4_copyFrom_135 (by decide)  ?_
      refine J_callS (As := [.ref (g.1 + (p1 + 15)), .ref (g.1 + (p0 + 15)), .int 8]) (rest := []) (n := 3) dX4_copyFrom_137 (c_X2_copy (p1 + 15) (p0 + 15) 8 (su_kd9 hp1) (su_kd9 hp0) _ _ h) tb_2_123 tb_2_121 tb_1_9 tb_2_122 (by decide) rfl (by decide) (by decide) (Nat.le_of_ble_eq_true rfl) rfl (fun v_r_9 S_8 hq => ?_)
      obtain ⟨rfl, h⟩ := hq
      dsimp only [Option.toList, List.cons_append, List.nil_append]
      refine J_aload_n dX4_copyFrom_140 rfl 1 rfl  ?_
      refine J_getr (r := p1 + 16) (ci := 2) dX4_copyFrom_141 10 rfl giX4 hp1 (by decide) rfl rfl tb_1_65 (by decide) (su_rf10 hp1)  ?_
      refine J_aload_n dX4_copyFrom_144 rfl 0 rfl  ?_
      refine J_getr (r := p0 + 16) (ci := 2) dX4_copyFrom_145 10 rfl giX4 hp0 (by decide) rfl rfl tb_1_65 (by decide) (su_rf10 hp0)  ?_
      refine J_bipush (v := 8) dX4_copyFrom_148 (by decide)  ?_
      refine J_callS (As := [.ref (g.1 + (p1 + 16)), .ref (g.1 + (p0 + 16)), .int 8]) (rest := []) (n := 3) dX4_copyFrom_150 (c_X2_copy (p1 + 16) (p0 + 16) 8 (su_kd10 hp1) (su_kd10 hp0) _ _ h) tb_2_123 tb_2_121 tb_1_9 tb_2_122 (by decide) rfl (by decide) (by decide) (Nat.le_of_ble_eq_true rfl) rfl (fun v_r_11 S_10 hq => ?_)
      obtain ⟨rfl, h⟩ := hq
      dsimp only [Option.toList, List.cons_append, List.nil_append]
      refine J_aload_n dX4_copyFrom_153 rfl 0 rfl  ?_
      refine J_aload_n dX4_copyFrom_154 rfl 1 rfl  ?_
      refine J_geti (ci := 2) dX4_copyFrom_155 11 rfl giX4 hp1 (by decide) rfl rfl tb_1_67 rfl  ?_
      refine J_puti (ci := 2) dX4_copyFrom_158 11 rfl giX4 hp0 (by decide) rfl rfl tyX4 tyX4_ok nmX4 rfl rfl rfl rfl tb_1_67 rfl  ?_
      refine J_nmS (fun S_12 eS_12 => ?_)
      have h := h S_12 eS_12
      refine J_aload_n dX4_copyFrom_161 rfl 0 rfl  ?_
      refine J_dup dX4_copyFrom_162 rfl  ?_
      refine J_geti (ci := 2) dX4_copyFrom_163 12 rfl giX4 hp0 (by decide) rfl rfl tb_1_69 rfl  ?_
      refine J_iconst (v := 1) dX4_copyFrom_166 (by decide)  ?_
      refine J_iadd dX4_copyFrom_167  ?_
      refine J_puti (ci := 2) dX4_copyFrom_168 12 rfl giX4 hp0 (by decide) rfl rfl tyX4 tyX4_ok nmX4 rfl rfl rfl rfl tb_1_69 rfl  ?_
      refine J_nmS (fun S_13 eS_13 => ?_)
      have h := h S_13 eS_13
      exact J_vret dX4_copyFrom_171 rfl ⟨rfl, h⟩
    · have h := h.2 c_1
      refine J_aload_n dX4_copyFrom_62 rfl 1 rfl  ?_
      refine J_getr (r := p1 + 8) (ci := 2) dX4_copyFrom_63 4 rfl giX4 hp1 (by decide) rfl rfl tb_1_48 (by decide) (su_rf4 hp1)  ?_
      refine J_iload_n dX4_copyFrom_66 rfl 2 rfl  ?_
      obtain ⟨hi_14, h⟩ := h
      refine J_aald3 dX4_copyFrom_67 (su_kd4 hp1) hi_14  ?_
      refine J_aload_n dX4_copyFrom_68 rfl 0 rfl  ?_
      refine J_getr (r := p0 + 8) (ci := 2) dX4_copyFrom_69 4 rfl giX4 hp0 (by decide) rfl rfl tb_1_48 (by decide) (su_rf4 hp0)  ?_
      refine J_iload_n dX4_copyFrom_72 rfl 2 rfl  ?_
      obtain ⟨hi_15, h⟩ := h
      refine J_aald3 dX4_copyFrom_73 (su_kd4 hp0) hi_15  ?_
      refine J_bipush (v := 16) dX4_copyFrom_74 (by decide)  ?_
      refine J_callS (As := [.ref (g.1 + (p1 + 8 + 1 + (x2 : Int32).toNatClampNeg)), .ref (g.1 + (p0 + 8 + 1 + (x2 : Int32).toNatClampNeg)), .int 16]) (rest := []) (n := 3) dX4_copyFrom_76 (c_X2_copy (p1 + 8 + 1 + (x2 : Int32).toNatClampNeg) (p0 + 8 + 1 + (x2 : Int32).toNatClampNeg) 16 (kd_row3 (su_kd4 hp1) hi_14) (kd_row3 (su_kd4 hp0) hi_15) _ _ h) tb_2_123 tb_2_121 tb_1_9 tb_2_122 (by decide) rfl (by decide) (by decide) (Nat.le_of_ble_eq_true rfl) rfl (fun v_r_17 S_16 hq => ?_)
      obtain ⟨rfl, h⟩ := hq
      dsimp only [Option.toList, List.cons_append, List.nil_append]
      obtain ⟨x2_18, ex2_18⟩ : ∃ y : Int32, y = x2 + 1 := ⟨_, rfl⟩
      have h := h x2_18 ex2_18
      refine J_iinc (v := x2_18) (lv' := [(0, .ref (g.1 + p0)), (1, .ref (g.1 + p1)), (2, .int x2_18)]) dX4_copyFrom_79 (q := 2) rfl (by rw [ex2_18]; rfl) (by decide) [1, 2, 0] rfl  ?_
      refine J_goto (tgt := 57) dX4_copyFrom_82 (by decide)  ?_
      exact ih _ _  h
def q_X4_copyFrom_26 (p0 : Nat) (p1 : Nat)  (Q : Sto → Prop) : Nat → Int32 → Sto → Prop
  | 0, _, _ => False
  | n + 1, x2, S => ((6 ≤ x2 → (∃ n_57, q_X4_copyFrom_57 p0 p1  Q n_57 0 S)) ∧ (¬ 6 ≤ x2 → vp_in x2 (ln (p1 + 1)) ∧ vp_in x2 (ln (p0 + 1)) ∧ wp_X2_copy (p1 + 1 + 1 + (x2 : Int32).toNatClampNeg) (p0 + 1 + 1 + (x2 : Int32).toNatClampNeg) 16 S (fun S_4 => ∀ x2_6 : Int32, x2_6 = x2 + 1 → q_X4_copyFrom_26 p0 p1  Q n x2_6 S_4)))
set_option maxRecDepth 100000 in
set_option maxHeartbeats 4000000 in
theorem l_X4_copyFrom_26 {g : Gv} (p0 : Nat) (p1 : Nat)  (Q : Sto → Prop)  (hp0 : kd p0 = 7) (hp1 : kd p1 = 7) (n : Nat) : ∀ (x2 : Int32) (S : Sto)  (h : q_X4_copyFrom_26 p0 p1  Q n x2 S), RJ g cX4_copyFrom RX4 none 3 2 26 [(0, .ref (g.1 + p0)), (1, .ref (g.1 + p1)), (2, .int x2)] [] S (Qv Q) := by
  induction n with
  | zero => intro x2 S  h; exact h.elim
  | succ n ih =>
    intro x2 S  h
    unfold q_X4_copyFrom_26 at h
    refine J_iload_n dX4_copyFrom_26 rfl 2 rfl  ?_
    refine J_bipush (v := 6) dX4_copyFrom_27 (by decide)  ?_
    refine J_icmp_ge (tgt := 55) dX4_copyFrom_29 (by decide) (fun c_1 => ?_) (fun c_1 => ?_)
    · have h := h.1 c_1
      refine J_iconst (v := 0) dX4_copyFrom_55 (by decide)  ?_
      refine J_istore_n (lv' := [(0, .ref (g.1 + p0)), (1, .ref (g.1 + p1)), (2, .int 0)]) dX4_copyFrom_56 rfl (by decide) [1, 2, 0] rfl  ?_
      obtain ⟨n, h⟩ := h
      exact l_X4_copyFrom_57 p0 p1  _  hp0 hp1 n _ _  h
    · have h := h.2 c_1
      refine J_aload_n dX4_copyFrom_32 rfl 1 rfl  ?_
      refine J_getr (r := p1 + 1) (ci := 2) dX4_copyFrom_33 3 rfl giX4 hp1 (by decide) rfl rfl tb_1_45 (by decide) (su_rf3 hp1)  ?_
      refine J_iload_n dX4_copyFrom_36 rfl 2 rfl  ?_
      obtain ⟨hi_2, h⟩ := h
      refine J_aald3 dX4_copyFrom_37 (su_kd3 hp1) hi_2  ?_
      refine J_aload_n dX4_copyFrom_38 rfl 0 rfl  ?_
      refine J_getr (r := p0 + 1) (ci := 2) dX4_copyFrom_39 3 rfl giX4 hp0 (by decide) rfl rfl tb_1_45 (by decide) (su_rf3 hp0)  ?_
      refine J_iload_n dX4_copyFrom_42 rfl 2 rfl  ?_
      obtain ⟨hi_3, h⟩ := h
      refine J_aald3 dX4_copyFrom_43 (su_kd3 hp0) hi_3  ?_
      refine J_bipush (v := 16) dX4_copyFrom_44 (by decide)  ?_
      refine J_callS (As := [.ref (g.1 + (p1 + 1 + 1 + (x2 : Int32).toNatClampNeg)), .ref (g.1 + (p0 + 1 + 1 + (x2 : Int32).toNatClampNeg)), .int 16]) (rest := []) (n := 3) dX4_copyFrom_46 (c_X2_copy (p1 + 1 + 1 + (x2 : Int32).toNatClampNeg) (p0 + 1 + 1 + (x2 : Int32).toNatClampNeg) 16 (kd_row3 (su_kd3 hp1) hi_2) (kd_row3 (su_kd3 hp0) hi_3) _ _ h) tb_2_123 tb_2_121 tb_1_9 tb_2_122 (by decide) rfl (by decide) (by decide) (Nat.le_of_ble_eq_true rfl) rfl (fun v_r_5 S_4 hq => ?_)
      obtain ⟨rfl, h⟩ := hq
      dsimp only [Option.toList, List.cons_append, List.nil_append]
      obtain ⟨x2_6, ex2_6⟩ : ∃ y : Int32, y = x2 + 1 := ⟨_, rfl⟩
      have h := h x2_6 ex2_6
      refine J_iinc (v := x2_6) (lv' := [(0, .ref (g.1 + p0)), (1, .ref (g.1 + p1)), (2, .int x2_6)]) dX4_copyFrom_49 (q := 2) rfl (by rw [ex2_6]; rfl) (by decide) [1, 2, 0] rfl  ?_
      refine J_goto (tgt := 26) dX4_copyFrom_52 (by decide)  ?_
      exact ih _ _  h
def wp_X4_copyFrom (p0 : Nat) (p1 : Nat) (S : Sto) (Q : Sto → Prop) : Prop := ∀ S_1 : Sto, S_1 = uA S p0 0 (S.1 p1 0) → ∀ S_2 : Sto, S_2 = uA S_1 p0 1 (S_1.1 p1 1) → ∀ S_3 : Sto, S_3 = uA S_2 p0 2 (S_2.1 p1 2) → (∃ n_26, q_X4_copyFrom_26 p0 p1  Q n_26 0 S_3)
set_option maxRecDepth 100000 in
set_option maxHeartbeats 4000000 in
theorem c_X4_copyFrom {g : Gv} (p0 : Nat) (p1 : Nat) (hp0 : kd p0 = 7) (hp1 : kd p1 = 7) (S : Sto) (Q : Sto → Prop) (h : wp_X4_copyFrom p0 p1 S Q) : CT g yX4_copyFrom cX4_copyFrom 3 none 2 [.ref (g.1 + p0), .ref (g.1 + p1)] S (Qv Q) := by
  unfold wp_X4_copyFrom at h
  refine CT.of (by decide) (Nat.le_of_ble_eq_true rfl) ?_
  refine J_sub (lv' := [(0, .ref (g.1 + p0)), (1, .ref (g.1 + p1))]) [0, 1] rfl ?_
  refine J_aload_n dX4_copyFrom_0 rfl 0 rfl  ?_
  refine J_aload_n dX4_copyFrom_1 rfl 1 rfl  ?_
  refine J_geti (ci := 2) dX4_copyFrom_2 0 rfl giX4 hp1 (by decide) rfl rfl tb_1_32 rfl  ?_
  refine J_puti (ci := 2) dX4_copyFrom_5 0 rfl giX4 hp0 (by decide) rfl rfl tyX4 tyX4_ok nmX4 rfl rfl rfl rfl tb_1_32 rfl  ?_
  refine J_nmS (fun S_1 eS_1 => ?_)
  have h := h S_1 eS_1
  refine J_aload_n dX4_copyFrom_8 rfl 0 rfl  ?_
  refine J_aload_n dX4_copyFrom_9 rfl 1 rfl  ?_
  refine J_geti (ci := 2) dX4_copyFrom_10 1 rfl giX4 hp1 (by decide) rfl rfl tb_1_37 rfl  ?_
  refine J_puti (ci := 2) dX4_copyFrom_13 1 rfl giX4 hp0 (by decide) rfl rfl tyX4 tyX4_ok nmX4 rfl rfl rfl rfl tb_1_37 rfl  ?_
  refine J_nmS (fun S_2 eS_2 => ?_)
  have h := h S_2 eS_2
  refine J_aload_n dX4_copyFrom_16 rfl 0 rfl  ?_
  refine J_aload_n dX4_copyFrom_17 rfl 1 rfl  ?_
  refine J_geti (ci := 2) dX4_copyFrom_18 2 rfl giX4 hp1 (by decide) rfl rfl tb_1_42 rfl  ?_
  refine J_puti (ci := 2) dX4_copyFrom_21 2 rfl giX4 hp0 (by decide) rfl rfl tyX4 tyX4_ok nmX4 rfl rfl rfl rfl tb_1_42 rfl  ?_
  refine J_nmS (fun S_3 eS_3 => ?_)
  have h := h S_3 eS_3
  refine J_iconst (v := 0) dX4_copyFrom_24 (by decide)  ?_
  refine J_istore_n (lv' := [(0, .ref (g.1 + p0)), (1, .ref (g.1 + p1)), (2, .int 0)]) dX4_copyFrom_25 rfl (by decide) [1, 2, 0] rfl  ?_
  obtain ⟨n, h⟩ := h
  exact l_X4_copyFrom_26 p0 p1  _  hp0 hp1 n _ _  h
def q_X5_leadNumber_48 (p0 : Nat) (p1 : Int32) (R4 : Int32 → Int32 → Sto → Prop) (Q : Int32 → Sto → Prop) (x2 : Int32) (x3 : Int32) (S : Sto) : Prop := ∀ x3_1 : Int32, x3_1 = x3 + 1 → R4 x2 x3_1 S
set_option maxRecDepth 100000 in
set_option maxHeartbeats 4000000 in
theorem l_X5_leadNumber_48 {g : Gv} (p0 : Nat) (p1 : Int32) (R4 : Int32 → Int32 → Sto → Prop) (Q : Int32 → Sto → Prop) (hR4 : ∀ (y2 : Int32) (y3 : Int32) (S : Sto), R4 y2 y3 S → RJ g cX5_leadNumber RX5 (some .int) 5 2 4 [(0, .ref (g.1 + p0)), (1, .int p1), (2, .int y2), (3, .int y3)] [] S (Qi Q)) (hp0 : kd p0 = 8) (x2 : Int32) (x3 : Int32) (S : Sto)  (h : q_X5_leadNumber_48 p0 p1 R4 Q x2 x3 S) : RJ g cX5_leadNumber RX5 (some .int) 5 2 48 [(0, .ref (g.1 + p0)), (1, .int p1), (2, .int x2), (3, .int x3)] [] S (Qi Q) := by
  unfold q_X5_leadNumber_48 at h
  obtain ⟨x3_1, ex3_1⟩ : ∃ y : Int32, y = x3 + 1 := ⟨_, rfl⟩
  have h := h x3_1 ex3_1
  refine J_iinc (v := x3_1) (lv' := [(0, .ref (g.1 + p0)), (1, .int p1), (2, .int x2), (3, .int x3_1)]) dX5_leadNumber_48 (q := 3) rfl (by rw [ex3_1]; rfl) (by decide) [1, 2, 3, 0] rfl  ?_
  refine J_goto (tgt := 4) dX5_leadNumber_51 (by decide)  ?_
  exact hR4 _ _ _  h
def q_X5_leadNumber_18 (p0 : Nat) (p1 : Int32) (R4 : Int32 → Int32 → Sto → Prop) (Q : Int32 → Sto → Prop) (x2 : Int32) (x3 : Int32) (S : Sto) : Prop := wp_X2_placeInOrder x3 (S.1 p0 5) S (fun r_2 S_1 => wp_X5_holds p0 r_2 S_1 (fun r_4 S_3 => ((r_4 = 0 → q_X5_leadNumber_48 p0 p1 R4 Q x2 x3 S_3) ∧ (¬ r_4 = 0 → ((¬ x2 = p1 → ∀ x2_7 : Int32, x2_7 = x2 + 1 → q_X5_leadNumber_48 p0 p1 R4 Q x2_7 x3 S_3) ∧ (x2 = p1 → Q r_2 S_3))))))
set_option maxRecDepth 100000 in
set_option maxHeartbeats 4000000 in
theorem l_X5_leadNumber_18 {g : Gv} (p0 : Nat) (p1 : Int32) (R4 : Int32 → Int32 → Sto → Prop) (Q : Int32 → Sto → Prop) (hR4 : ∀ (y2 : Int32) (y3 : Int32) (S : Sto), R4 y2 y3 S → RJ g cX5_leadNumber RX5 (some .int) 5 2 4 [(0, .ref (g.1 + p0)), (1, .int p1), (2, .int y2), (3, .int y3)] [] S (Qi Q)) (hp0 : kd p0 = 8) (x2 : Int32) (x3 : Int32) (S : Sto)  (h : q_X5_leadNumber_18 p0 p1 R4 Q x2 x3 S) : RJ g cX5_leadNumber RX5 (some .int) 5 2 18 [(0, .ref (g.1 + p0)), (1, .int p1), (2, .int x2), (3, .int x3)] [] S (Qi Q) := by
  unfold q_X5_leadNumber_18 at h
  refine J_iload_n dX5_leadNumber_18 rfl 3 rfl  ?_
  refine J_aload_n dX5_leadNumber_19 rfl 0 rfl  ?_
  refine J_geti (ci := 3) dX5_leadNumber_20 5 rfl giX5 hp0 (by decide) rfl rfl tb_1_165 rfl  ?_
  refine J_callS (As := [.int x3, .int (S.1 p0 5)]) (rest := []) (n := 2) dX5_leadNumber_23 (c_X2_placeInOrder x3 (S.1 p0 5)  _ _ h) tb_2_182 tb_3_81 tb_1_9 tb_2_181 (by decide) rfl (by decide) (by decide) (Nat.le_of_ble_eq_true rfl) rfl (fun v_r_2 S_1 hq => ?_)
  obtain ⟨r_2, rfl, h⟩ := hq
  dsimp only [Option.toList, List.cons_append, List.nil_append]
  refine J_istore (lv' := [(0, .ref (g.1 + p0)), (1, .int p1), (2, .int x2), (3, .int x3), (4, .int r_2)]) dX5_leadNumber_26 (by decide) [1, 2, 3, 4, 0] rfl  ?_
  refine J_aload_n dX5_leadNumber_28 rfl 0 rfl  ?_
  refine J_iload dX5_leadNumber_29 4 rfl  ?_
  refine J_callV (h := p0) (ci := 3) (As := [.int r_2]) (rest := []) (n := 1) dX5_leadNumber_31 (c_X5_holds p0 r_2 hp0 _ _ h) hp0 rfl tb_3_85 tb_3_82 tb_1_6 tb_3_83 tb_3_84 (by decide) rfl (by decide) (by decide) (Nat.le_of_ble_eq_true rfl) rfl (fun v_r_4 S_3 hq => ?_)
  obtain ⟨r_4, rfl, h⟩ := hq
  dsimp only [Option.toList, List.cons_append, List.nil_append]
  refine J_if_eq (tgt := 48) dX5_leadNumber_34 (by decide) (fun c_5 => ?_) (fun c_5 => ?_)
  · have h := h.1 c_5
    refine J_sub (lv' := [(0, .ref (g.1 + p0)), (1, .int p1), (2, .int x2), (3, .int x3)]) [0, 1, 2, 3] rfl ?_
    exact l_X5_leadNumber_48 p0 p1 _ _ hR4 hp0 _ _ _  h
  · have h := h.2 c_5
    refine J_iload_n dX5_leadNumber_37 rfl 2 rfl  ?_
    refine J_iload_n dX5_leadNumber_38 rfl 1 rfl  ?_
    refine J_icmp_ne (tgt := 45) dX5_leadNumber_39 (by decide) (fun c_6 => ?_) (fun c_6 => ?_)
    · have h := h.1 c_6
      obtain ⟨x2_7, ex2_7⟩ : ∃ y : Int32, y = x2 + 1 := ⟨_, rfl⟩
      have h := h x2_7 ex2_7
      refine J_iinc (v := x2_7) (lv' := [(0, .ref (g.1 + p0)), (1, .int p1), (2, .int x2_7), (3, .int x3), (4, .int r_2)]) dX5_leadNumber_45 (q := 2) rfl (by rw [ex2_7]; rfl) (by decide) [1, 2, 0, 3, 4] rfl  ?_
      refine J_sub (lv' := [(0, .ref (g.1 + p0)), (1, .int p1), (2, .int x2_7), (3, .int x3)]) [0, 1, 2, 3] rfl ?_
      exact l_X5_leadNumber_48 p0 p1 _ _ hR4 hp0 _ _ _  h
    · have h := h.2 c_6
      refine J_iload dX5_leadNumber_42 4 rfl  ?_
      exact J_iret dX5_leadNumber_44 rfl rfl ⟨_, rfl, h⟩
def q_X5_leadNumber_4 (p0 : Nat) (p1 : Int32)  (Q : Int32 → Sto → Prop) : Nat → Int32 → Int32 → Sto → Prop
  | 0, _, _, _ => False
  | n + 1, x2, x3, S => ((x3 < (S.1 p0 3) → q_X5_leadNumber_18 p0 p1 (fun y2 y3 S => q_X5_leadNumber_4 p0 p1  Q n y2 y3 S) Q x2 x3 S) ∧ (¬ x3 < (S.1 p0 3) → ((16 ≤ x3 → Q ((-1)) S) ∧ (¬ 16 ≤ x3 → q_X5_leadNumber_18 p0 p1 (fun y2 y3 S => q_X5_leadNumber_4 p0 p1  Q n y2 y3 S) Q x2 x3 S))))
set_option maxRecDepth 100000 in
set_option maxHeartbeats 4000000 in
theorem l_X5_leadNumber_4 {g : Gv} (p0 : Nat) (p1 : Int32)  (Q : Int32 → Sto → Prop)  (hp0 : kd p0 = 8) (n : Nat) : ∀ (x2 : Int32) (x3 : Int32) (S : Sto)  (h : q_X5_leadNumber_4 p0 p1  Q n x2 x3 S), RJ g cX5_leadNumber RX5 (some .int) 5 2 4 [(0, .ref (g.1 + p0)), (1, .int p1), (2, .int x2), (3, .int x3)] [] S (Qi Q) := by
  induction n with
  | zero => intro x2 x3 S  h; exact h.elim
  | succ n ih =>
    intro x2 x3 S  h
    unfold q_X5_leadNumber_4 at h
    refine J_iload_n dX5_leadNumber_4 rfl 3 rfl  ?_
    refine J_aload_n dX5_leadNumber_5 rfl 0 rfl  ?_
    refine J_geti (ci := 3) dX5_leadNumber_6 3 rfl giX5 hp0 (by decide) rfl rfl tb_1_162 rfl  ?_
    refine J_icmp_lt (tgt := 18) dX5_leadNumber_9 (by decide) (fun c_1 => ?_) (fun c_1 => ?_)
    · have h := h.1 c_1
      exact l_X5_leadNumber_18 p0 p1 _ _ (fun y2 y3 S  h => ih y2 y3 S  h) hp0 _ _ _  h
    · have h := h.2 c_1
      refine J_iload_n dX5_leadNumber_12 rfl 3 rfl  ?_
      refine J_bipush (v := 16) dX5_leadNumber_13 (by decide)  ?_
      refine J_icmp_ge (tgt := 54) dX5_leadNumber_15 (by decide) (fun c_2 => ?_) (fun c_2 => ?_)
      · have h := h.1 c_2
        refine J_iconst (v := (-1)) dX5_leadNumber_54 (by decide)  ?_
        exact J_iret dX5_leadNumber_55 rfl rfl ⟨_, rfl, h⟩
      · have h := h.2 c_2
        exact l_X5_leadNumber_18 p0 p1 _ _ (fun y2 y3 S  h => ih y2 y3 S  h) hp0 _ _ _  h
def wp_X5_leadNumber (p0 : Nat) (p1 : Int32) (S : Sto) (Q : Int32 → Sto → Prop) : Prop := (∃ n_4, q_X5_leadNumber_4 p0 p1  Q n_4 0 0 S)
set_option maxRecDepth 100000 in
set_option maxHeartbeats 4000000 in
theorem c_X5_leadNumber {g : Gv} (p0 : Nat) (p1 : Int32) (hp0 : kd p0 = 8) (S : Sto) (Q : Int32 → Sto → Prop) (h : wp_X5_leadNumber p0 p1 S Q) : CT g yX5_leadNumber cX5_leadNumber 5 (some .int) 2 [.ref (g.1 + p0), .int p1] S (Qi Q) := by
  unfold wp_X5_leadNumber at h
  refine CT.of (by decide) (Nat.le_of_ble_eq_true rfl) ?_
  refine J_sub (lv' := [(0, .ref (g.1 + p0)), (1, .int p1)]) [0, 1] rfl ?_
  refine J_iconst (v := 0) dX5_leadNumber_0 (by decide)  ?_
  refine J_istore_n (lv' := [(0, .ref (g.1 + p0)), (1, .int p1), (2, .int 0)]) dX5_leadNumber_1 rfl (by decide) [1, 2, 0] rfl  ?_
  refine J_iconst (v := 0) dX5_leadNumber_2 (by decide)  ?_
  refine J_istore_n (lv' := [(0, .ref (g.1 + p0)), (1, .int p1), (2, .int 0), (3, .int 0)]) dX5_leadNumber_3 rfl (by decide) [1, 2, 3, 0] rfl  ?_
  obtain ⟨n, h⟩ := h
  exact l_X5_leadNumber_4 p0 p1  _  hp0 n _ _ _  h
def q_X5_leadsOfDegree_35 (p0 : Nat) (p1 : Int32) (R4 : Int32 → Int32 → Sto → Prop) (Q : Int32 → Sto → Prop) (x3 : Int32) (t0 : Int32) (t1 : Int32) (S : Sto) : Prop := ∀ x2_1 : Int32, x2_1 = t0 + t1 → ∀ x3_2 : Int32, x3_2 = x3 + 1 → R4 x2_1 x3_2 S
set_option maxRecDepth 100000 in
set_option maxHeartbeats 4000000 in
theorem l_X5_leadsOfDegree_35 {g : Gv} (p0 : Nat) (p1 : Int32) (R4 : Int32 → Int32 → Sto → Prop) (Q : Int32 → Sto → Prop) (hR4 : ∀ (y2 : Int32) (y3 : Int32) (S : Sto), R4 y2 y3 S → RJ g cX5_leadsOfDegree RX5 (some .int) 4 2 4 [(0, .ref (g.1 + p0)), (1, .int p1), (2, .int y2), (3, .int y3)] [] S (Qi Q)) (hp0 : kd p0 = 8) (x3 : Int32) (t0 : Int32) (t1 : Int32) (S : Sto)  (h : q_X5_leadsOfDegree_35 p0 p1 R4 Q x3 t0 t1 S) : RJ g cX5_leadsOfDegree RX5 (some .int) 4 2 35 [(0, .ref (g.1 + p0)), (1, .int p1), (3, .int x3)] [.int t1, .int t0] S (Qi Q) := by
  unfold q_X5_leadsOfDegree_35 at h
  refine J_iadd dX5_leadsOfDegree_35  ?_
  refine J_topi (fun x2_1 ex2_1 => ?_)
  have h := h x2_1 ex2_1
  refine J_istore_n (lv' := [(0, .ref (g.1 + p0)), (1, .int p1), (2, .int x2_1), (3, .int x3)]) dX5_leadsOfDegree_36 rfl (by decide) [1, 2, 0, 3] rfl  ?_
  obtain ⟨x3_2, ex3_2⟩ : ∃ y : Int32, y = x3 + 1 := ⟨_, rfl⟩
  have h := h x3_2 ex3_2
  refine J_iinc (v := x3_2) (lv' := [(0, .ref (g.1 + p0)), (1, .int p1), (2, .int x2_1), (3, .int x3_2)]) dX5_leadsOfDegree_37 (q := 3) rfl (by rw [ex3_2]; rfl) (by decide) [1, 2, 3, 0] rfl  ?_
  refine J_goto (tgt := 4) dX5_leadsOfDegree_40 (by decide)  ?_
  exact hR4 _ _ _  h
def q_X5_leadsOfDegree_34 (p0 : Nat) (p1 : Int32) (R4 : Int32 → Int32 → Sto → Prop) (Q : Int32 → Sto → Prop) (x3 : Int32) (t0 : Int32) (S : Sto) : Prop := q_X5_leadsOfDegree_35 p0 p1 R4 Q x3 t0 0 S
set_option maxRecDepth 100000 in
set_option maxHeartbeats 4000000 in
theorem l_X5_leadsOfDegree_34 {g : Gv} (p0 : Nat) (p1 : Int32) (R4 : Int32 → Int32 → Sto → Prop) (Q : Int32 → Sto → Prop) (hR4 : ∀ (y2 : Int32) (y3 : Int32) (S : Sto), R4 y2 y3 S → RJ g cX5_leadsOfDegree RX5 (some .int) 4 2 4 [(0, .ref (g.1 + p0)), (1, .int p1), (2, .int y2), (3, .int y3)] [] S (Qi Q)) (hp0 : kd p0 = 8) (x3 : Int32) (t0 : Int32) (S : Sto)  (h : q_X5_leadsOfDegree_34 p0 p1 R4 Q x3 t0 S) : RJ g cX5_leadsOfDegree RX5 (some .int) 4 2 34 [(0, .ref (g.1 + p0)), (1, .int p1), (3, .int x3)] [.int t0] S (Qi Q) := by
  unfold q_X5_leadsOfDegree_34 at h
  refine J_iconst (v := 0) dX5_leadsOfDegree_34 (by decide)  ?_
  exact l_X5_leadsOfDegree_35 p0 p1 _ _ hR4 hp0 _ _ _ _  h
def q_X5_leadsOfDegree_4 (p0 : Nat) (p1 : Int32)  (Q : Int32 → Sto → Prop) : Nat → Int32 → Int32 → Sto → Prop
  | 0, _, _, _ => False
  | n + 1, x2, x3, S => (((S.1 p0 3) ≤ x3 → Q x2 S) ∧ (¬ (S.1 p0 3) ≤ x3 → vp_in x3 (ln (p0 + 2 + ln (p0 + 1))) ∧ (((S.1 (p0 + 2 + ln (p0 + 1)) (x3 : Int32).toNatClampNeg) = 0 → q_X5_leadsOfDegree_34 p0 p1 (fun y2 y3 S => q_X5_leadsOfDegree_4 p0 p1  Q n y2 y3 S) Q x3 x2 S) ∧ (¬ (S.1 (p0 + 2 + ln (p0 + 1)) (x3 : Int32).toNatClampNeg) = 0 → wp_J6_bitCount_0f7a4 x3 S (fun r_5 S_4 => ((¬ r_5 = p1 → q_X5_leadsOfDegree_34 p0 p1 (fun y2 y3 S => q_X5_leadsOfDegree_4 p0 p1  Q n y2 y3 S) Q x3 x2 S_4) ∧ (r_5 = p1 → q_X5_leadsOfDegree_35 p0 p1 (fun y2 y3 S => q_X5_leadsOfDegree_4 p0 p1  Q n y2 y3 S) Q x3 x2 1 S_4)))))))
set_option maxRecDepth 100000 in
set_option maxHeartbeats 4000000 in
theorem l_X5_leadsOfDegree_4 {g : Gv} (p0 : Nat) (p1 : Int32)  (Q : Int32 → Sto → Prop)  (hp0 : kd p0 = 8) (n : Nat) : ∀ (x2 : Int32) (x3 : Int32) (S : Sto)  (h : q_X5_leadsOfDegree_4 p0 p1  Q n x2 x3 S), RJ g cX5_leadsOfDegree RX5 (some .int) 4 2 4 [(0, .ref (g.1 + p0)), (1, .int p1), (2, .int x2), (3, .int x3)] [] S (Qi Q) := by
  induction n with
  | zero => intro x2 x3 S  h; exact h.elim
  | succ n ih =>
    intro x2 x3 S  h
    unfold q_X5_leadsOfDegree_4 at h
    refine J_iload_n dX5_leadsOfDegree_4 rfl 3 rfl  ?_
    refine J_aload_n dX5_leadsOfDegree_5 rfl 0 rfl  ?_
    refine J_geti (ci := 3) dX5_leadsOfDegree_6 3 rfl giX5 hp0 (by decide) rfl rfl tb_1_162 rfl  ?_
    refine J_icmp_ge (tgt := 43) dX5_leadsOfDegree_9 (by decide) (fun c_1 => ?_) (fun c_1 => ?_)
    · have h := h.1 c_1
      refine J_iload_n dX5_leadsOfDegree_43 rfl 2 rfl  ?_
      exact J_iret dX5_leadsOfDegree_44 rfl rfl ⟨_, rfl, h⟩
    · have h := h.2 c_1
      refine J_iload_n dX5_leadsOfDegree_12 rfl 2 rfl  ?_
      refine J_aload_n dX5_leadsOfDegree_13 rfl 0 rfl  ?_
      refine J_getr (r := p0 + 2 + ln (p0 + 1)) (ci := 3) dX5_leadsOfDegree_14 1 rfl giX5 hp0 (by decide) rfl rfl tb_1_158 (by decide) (sp_rf1 hp0)  ?_
      refine J_iload_n dX5_leadsOfDegree_17 rfl 3 rfl  ?_
      obtain ⟨hi_2, h⟩ := h
      refine J_zald dX5_leadsOfDegree_18 (sp_held hp0) hi_2  ?_
      refine J_if_eq (tgt := 34) dX5_leadsOfDegree_19 (by decide) (fun c_3 => ?_) (fun c_3 => ?_)
      · have h := h.1 c_3
        refine J_sub (lv' := [(0, .ref (g.1 + p0)), (1, .int p1), (3, .int x3)]) [0, 1, 3] rfl ?_
        exact l_X5_leadsOfDegree_34 p0 p1 _ _ (fun y2 y3 S  h => ih y2 y3 S  h) hp0 _ _ _  h
      · have h := h.2 c_3
        refine J_iload_n dX5_leadsOfDegree_22 rfl 3 rfl  ?_
        refine J_callS (As := [.int x3]) (rest := [.int x2]) (n := 1) dX5_leadsOfDegree_23 (c_J6_bitCount_0f7a4 x3  _ _ h) tb_2_111 tb_3_103 tb_1_11 tb_2_110 (by decide) rfl (by decide) (by decide) (Nat.le_of_ble_eq_true rfl) rfl (fun v_r_5 S_4 hq => ?_)
        obtain ⟨r_5, rfl, h⟩ := hq
        dsimp only [Option.toList, List.cons_append, List.nil_append]
        refine J_iload_n dX5_leadsOfDegree_26 rfl 1 rfl  ?_
        refine J_icmp_ne (tgt := 34) dX5_leadsOfDegree_27 (by decide) (fun c_6 => ?_) (fun c_6 => ?_)
        · have h := h.1 c_6
          refine J_sub (lv' := [(0, .ref (g.1 + p0)), (1, .int p1), (3, .int x3)]) [0, 1, 3] rfl ?_
          exact l_X5_leadsOfDegree_34 p0 p1 _ _ (fun y2 y3 S  h => ih y2 y3 S  h) hp0 _ _ _  h
        · have h := h.2 c_6
          refine J_iconst (v := 1) dX5_leadsOfDegree_30 (by decide)  ?_
          refine J_goto (tgt := 35) dX5_leadsOfDegree_31 (by decide)  ?_
          refine J_sub (lv' := [(0, .ref (g.1 + p0)), (1, .int p1), (3, .int x3)]) [0, 1, 3] rfl ?_
          exact l_X5_leadsOfDegree_35 p0 p1 _ _ (fun y2 y3 S  h => ih y2 y3 S  h) hp0 _ _ _ _  h
def wp_X5_leadsOfDegree (p0 : Nat) (p1 : Int32) (S : Sto) (Q : Int32 → Sto → Prop) : Prop := (∃ n_4, q_X5_leadsOfDegree_4 p0 p1  Q n_4 0 0 S)
set_option maxRecDepth 100000 in
set_option maxHeartbeats 4000000 in
theorem c_X5_leadsOfDegree {g : Gv} (p0 : Nat) (p1 : Int32) (hp0 : kd p0 = 8) (S : Sto) (Q : Int32 → Sto → Prop) (h : wp_X5_leadsOfDegree p0 p1 S Q) : CT g yX5_leadsOfDegree cX5_leadsOfDegree 4 (some .int) 2 [.ref (g.1 + p0), .int p1] S (Qi Q) := by
  unfold wp_X5_leadsOfDegree at h
  refine CT.of (by decide) (Nat.le_of_ble_eq_true rfl) ?_
  refine J_sub (lv' := [(0, .ref (g.1 + p0)), (1, .int p1)]) [0, 1] rfl ?_
  refine J_iconst (v := 0) dX5_leadsOfDegree_0 (by decide)  ?_
  refine J_istore_n (lv' := [(0, .ref (g.1 + p0)), (1, .int p1), (2, .int 0)]) dX5_leadsOfDegree_1 rfl (by decide) [1, 2, 0] rfl  ?_
  refine J_iconst (v := 0) dX5_leadsOfDegree_2 (by decide)  ?_
  refine J_istore_n (lv' := [(0, .ref (g.1 + p0)), (1, .int p1), (2, .int 0), (3, .int 0)]) dX5_leadsOfDegree_3 rfl (by decide) [1, 2, 3, 0] rfl  ?_
  obtain ⟨n, h⟩ := h
  exact l_X5_leadsOfDegree_4 p0 p1  _  hp0 n _ _ _  h
def q_X6_admitProducts_3 (p1 : Nat) (p2 : Int32)  (Q : Sto → Prop) : Nat → Int32 → Sto → Prop
  | 0, _, _ => False
  | n + 1, x4, S => (((S.1 1 0) ≤ x4 → Q S) ∧ (¬ (S.1 1 0) ≤ x4 → wp_X2_byLetter 0 x4 p1 351 p2 (S.1 1 1) S (fun S_2 => wp_X5_admit 207 351 S_2 (fun r_5 S_4 => ∀ x4_6 : Int32, x4_6 = x4 + 1 → q_X6_admitProducts_3 p1 p2  Q n x4_6 S_4))))
set_option maxRecDepth 100000 in
set_option maxHeartbeats 4000000 in
theorem l_X6_admitProducts_3 {g : Gv} (p1 : Nat) (p2 : Int32)  (Q : Sto → Prop)  (hp1 : kd p1 = 0) (n : Nat) : ∀ (x4 : Int32) (S : Sto)  (h : q_X6_admitProducts_3 p1 p2  Q n x4 S), RJ g cX6_admitProducts RX6 none 5 4 3 [(0, .ref (g.1 + 206)), (1, .ref (g.1 + p1)), (2, .int p2), (3, .ref (g.1 + 1)), (4, .int x4)] [] S (Qv Q) := by
  induction n with
  | zero => intro x4 S  h; exact h.elim
  | succ n ih =>
    intro x4 S  h
    unfold q_X6_admitProducts_3 at h
    refine J_iload dX6_admitProducts_3 4 rfl  ?_
    refine J_aload_n dX6_admitProducts_5 rfl 3 rfl  ?_
    refine J_geti (ci := 2) dX6_admitProducts_6 0 rfl giX4 (by decide) (by decide) rfl rfl tb_1_35 rfl  ?_
    refine J_icmp_ge (tgt := 46) dX6_admitProducts_9 (by decide) (fun c_1 => ?_) (fun c_1 => ?_)
    · have h := h.1 c_1
      exact J_vret dX6_admitProducts_46 rfl ⟨rfl, h⟩
    · have h := h.2 c_1
      refine J_iconst (v := 0) dX6_admitProducts_12 (by decide)  ?_
      refine J_iload dX6_admitProducts_13 4 rfl  ?_
      refine J_aload_n dX6_admitProducts_15 rfl 1 rfl  ?_
      refine J_aload_n dX6_admitProducts_16 rfl 0 rfl  ?_
      refine J_getr (r := 351) (ci := 4) dX6_admitProducts_17 6 rfl giX6 (by decide) (by decide) rfl rfl tb_2_0 (by decide) (by decide)  ?_
      refine J_iload_n dX6_admitProducts_20 rfl 2 rfl  ?_
      refine J_aload_n dX6_admitProducts_21 rfl 3 rfl  ?_
      refine J_geti (ci := 2) dX6_admitProducts_22 1 rfl giX4 (by decide) (by decide) rfl rfl tb_1_40 rfl  ?_
      refine J_callS (As := [.int 0, .int x4, .ref (g.1 + p1), .ref (g.1 + 351), .int p2, .int (S.1 1 1)]) (rest := []) (n := 6) dX6_admitProducts_25 (c_X2_byLetter 0 x4 p1 351 p2 (S.1 1 1) hp1 (by decide) _ _ h) tb_2_191 tb_3_186 tb_1_9 tb_2_190 (by decide) rfl (by decide) (by decide) (Nat.le_of_ble_eq_true rfl) rfl (fun v_r_3 S_2 hq => ?_)
      obtain ⟨rfl, h⟩ := hq
      dsimp only [Option.toList, List.cons_append, List.nil_append]
      refine J_aload_n dX6_admitProducts_28 rfl 0 rfl  ?_
      refine J_getr (r := 207) (ci := 4) dX6_admitProducts_29 0 rfl giX6 (by decide) (by decide) rfl rfl tb_1_234 (by decide) (by decide)  ?_
      refine J_aload_n dX6_admitProducts_32 rfl 0 rfl  ?_
      refine J_getr (r := 351) (ci := 4) dX6_admitProducts_33 6 rfl giX6 (by decide) (by decide) rfl rfl tb_2_0 (by decide) (by decide)  ?_
      refine J_callV (h := 207) (ci := 3) (As := [.ref (g.1 + 351)]) (rest := []) (n := 1) dX6_admitProducts_36 (c_X5_admit 207 351 (by decide) (by decide) _ _ h) (by decide) rfl tb_2_168 tb_3_187 tb_1_6 tb_2_166 tb_2_167 (by decide) rfl (by decide) (by decide) (Nat.le_of_ble_eq_true rfl) rfl (fun v_r_5 S_4 hq => ?_)
      obtain ⟨r_5, rfl, h⟩ := hq
      dsimp only [Option.toList, List.cons_append, List.nil_append]
      refine J_pop dX6_admitProducts_39 rfl  ?_
      obtain ⟨x4_6, ex4_6⟩ : ∃ y : Int32, y = x4 + 1 := ⟨_, rfl⟩
      have h := h x4_6 ex4_6
      refine J_iinc (v := x4_6) (lv' := [(0, .ref (g.1 + 206)), (1, .ref (g.1 + p1)), (2, .int p2), (3, .ref (g.1 + 1)), (4, .int x4_6)]) dX6_admitProducts_40 (q := 4) rfl (by rw [ex4_6]; rfl) (by decide) [1, 2, 3, 4, 0] rfl  ?_
      refine J_goto (tgt := 3) dX6_admitProducts_43 (by decide)  ?_
      exact ih _ _  h
def wp_X6_admitProducts (p1 : Nat) (p2 : Int32) (S : Sto) (Q : Sto → Prop) : Prop := (∃ n_3, q_X6_admitProducts_3 p1 p2  Q n_3 0 S)
set_option maxRecDepth 100000 in
set_option maxHeartbeats 4000000 in
theorem c_X6_admitProducts {g : Gv} (p1 : Nat) (p2 : Int32) (hp1 : kd p1 = 0) (S : Sto) (Q : Sto → Prop) (h : wp_X6_admitProducts p1 p2 S Q) : CT g yX6_admitProducts cX6_admitProducts 5 none 4 [.ref (g.1 + 206), .ref (g.1 + p1), .int p2, .ref (g.1 + 1)] S (Qv Q) := by
  unfold wp_X6_admitProducts at h
  refine CT.of (by decide) (Nat.le_of_ble_eq_true rfl) ?_
  refine J_sub (lv' := [(0, .ref (g.1 + 206)), (1, .ref (g.1 + p1)), (2, .int p2), (3, .ref (g.1 + 1))]) [0, 1, 2, 3] rfl ?_
  refine J_iconst (v := 0) dX6_admitProducts_0 (by decide)  ?_
  refine J_istore (lv' := [(0, .ref (g.1 + 206)), (1, .ref (g.1 + p1)), (2, .int p2), (3, .ref (g.1 + 1)), (4, .int 0)]) dX6_admitProducts_1 (by decide) [1, 2, 3, 4, 0] rfl  ?_
  obtain ⟨n, h⟩ := h
  exact l_X6_admitProducts_3 p1 p2  _  hp1 n _ _  h
def q_X6_choose_84 (p1 : Nat) (p2 : Int32)  (Q : Sto → Prop)  (S : Sto) : Prop := Q S
set_option maxRecDepth 100000 in
set_option maxHeartbeats 4000000 in
theorem l_X6_choose_84 {g : Gv} (p1 : Nat) (p2 : Int32)  (Q : Sto → Prop)  (hp1 : kd p1 = 0)  (S : Sto)  (h : q_X6_choose_84 p1 p2  Q  S) : RJ g cX6_choose RX6 none 5 4 84 [(0, .ref (g.1 + 206)), (1, .ref (g.1 + p1)), (2, .int p2), (3, .ref (g.1 + 1))] [] S (Qv Q) := by
  unfold q_X6_choose_84 at h
  exact J_vret dX6_choose_84 rfl ⟨rfl, h⟩
def q_X6_choose_39 (p1 : Nat) (p2 : Int32)  (Q : Sto → Prop) (t0 : Int32) (S : Sto) : Prop := wp_X5_admit 207 351 S (fun r_2 S_1 => ((r_2 = 0 → q_X6_choose_84 p1 p2  Q  S_1) ∧ (¬ r_2 = 0 → ((t0 = 0 → q_X6_choose_84 p1 p2  Q  S_1) ∧ (¬ t0 = 0 → vp_in (S_1.1 206 3) (8) ∧ wp_X2_copy p1 (341 + 1 + (S_1.1 206 3 : Int32).toNatClampNeg) p2 S_1 (fun S_6 => ∀ S_8 : Sto, S_8 = uA S_6 206 3 ((S_6.1 206 3) + 1) → q_X6_choose_84 p1 p2  Q  S_8))))))
set_option maxRecDepth 100000 in
set_option maxHeartbeats 4000000 in
theorem l_X6_choose_39 {g : Gv} (p1 : Nat) (p2 : Int32)  (Q : Sto → Prop)  (hp1 : kd p1 = 0) (t0 : Int32) (S : Sto)  (h : q_X6_choose_39 p1 p2  Q t0 S) : RJ g cX6_choose RX6 none 5 4 39 [(0, .ref (g.1 + 206)), (1, .ref (g.1 + p1)), (2, .int p2), (3, .ref (g.1 + 1))] [.int t0] S (Qv Q) := by
  unfold q_X6_choose_39 at h
  refine J_istore (lv' := [(0, .ref (g.1 + 206)), (1, .ref (g.1 + p1)), (2, .int p2), (3, .ref (g.1 + 1)), (4, .int t0)]) dX6_choose_39 (by decide) [1, 2, 3, 4, 0] rfl  ?_
  refine J_aload_n dX6_choose_41 rfl 0 rfl  ?_
  refine J_getr (r := 207) (ci := 4) dX6_choose_42 0 rfl giX6 (by decide) (by decide) rfl rfl tb_1_234 (by decide) (by decide)  ?_
  refine J_aload_n dX6_choose_45 rfl 0 rfl  ?_
  refine J_getr (r := 351) (ci := 4) dX6_choose_46 6 rfl giX6 (by decide) (by decide) rfl rfl tb_2_0 (by decide) (by decide)  ?_
  refine J_callV (h := 207) (ci := 3) (As := [.ref (g.1 + 351)]) (rest := []) (n := 1) dX6_choose_49 (c_X5_admit 207 351 (by decide) (by decide) _ _ h) (by decide) rfl tb_2_168 tb_3_187 tb_1_6 tb_2_166 tb_2_167 (by decide) rfl (by decide) (by decide) (Nat.le_of_ble_eq_true rfl) rfl (fun v_r_2 S_1 hq => ?_)
  obtain ⟨r_2, rfl, h⟩ := hq
  dsimp only [Option.toList, List.cons_append, List.nil_append]
  refine J_if_eq (tgt := 84) dX6_choose_52 (by decide) (fun c_3 => ?_) (fun c_3 => ?_)
  · have h := h.1 c_3
    refine J_sub (lv' := [(0, .ref (g.1 + 206)), (1, .ref (g.1 + p1)), (2, .int p2), (3, .ref (g.1 + 1))]) [0, 1, 2, 3] rfl ?_
    exact l_X6_choose_84 p1 p2  _  hp1  _  h
  · have h := h.2 c_3
    refine J_iload dX6_choose_55 4 rfl  ?_
    refine J_if_eq (tgt := 84) dX6_choose_57 (by decide) (fun c_4 => ?_) (fun c_4 => ?_)
    · have h := h.1 c_4
      refine J_sub (lv' := [(0, .ref (g.1 + 206)), (1, .ref (g.1 + p1)), (2, .int p2), (3, .ref (g.1 + 1))]) [0, 1, 2, 3] rfl ?_
      exact l_X6_choose_84 p1 p2  _  hp1  _  h
    · have h := h.2 c_4
      refine J_aload_n dX6_choose_60 rfl 1 rfl  ?_
      refine J_aload_n dX6_choose_61 rfl 0 rfl  ?_
      refine J_getr (r := 341) (ci := 4) dX6_choose_62 2 rfl giX6 (by decide) (by decide) rfl rfl tb_1_236 (by decide) (by decide)  ?_
      refine J_aload_n dX6_choose_65 rfl 0 rfl  ?_
      refine J_geti (ci := 4) dX6_choose_66 3 rfl giX6 (by decide) (by decide) rfl rfl tb_1_237 rfl  ?_
      obtain ⟨hi_5, h⟩ := h
      refine J_aald3 dX6_choose_69 (by decide) hi_5  ?_
      refine J_iload_n dX6_choose_70 rfl 2 rfl  ?_
      refine J_callS (As := [.ref (g.1 + p1), .ref (g.1 + (341 + 1 + (S_1.1 206 3 : Int32).toNatClampNeg)), .int p2]) (rest := []) (n := 3) dX6_choose_71 (c_X2_copy p1 (341 + 1 + (S_1.1 206 3 : Int32).toNatClampNeg) p2 hp1 (kd_row3 (by decide) hi_5) _ _ h) tb_2_123 tb_3_192 tb_1_9 tb_2_122 (by decide) rfl (by decide) (by decide) (Nat.le_of_ble_eq_true rfl) rfl (fun v_r_7 S_6 hq => ?_)
      obtain ⟨rfl, h⟩ := hq
      dsimp only [Option.toList, List.cons_append, List.nil_append]
      refine J_aload_n dX6_choose_74 rfl 0 rfl  ?_
      refine J_dup dX6_choose_75 rfl  ?_
      refine J_geti (ci := 4) dX6_choose_76 3 rfl giX6 (by decide) (by decide) rfl rfl tb_1_237 rfl  ?_
      refine J_iconst (v := 1) dX6_choose_79 (by decide)  ?_
      refine J_iadd dX6_choose_80  ?_
      refine J_puti (ci := 4) dX6_choose_81 3 rfl giX6 (by decide) (by decide) rfl rfl tyX6 tyX6_ok nmX6 rfl rfl rfl rfl tb_1_237 rfl  ?_
      refine J_nmS (fun S_8 eS_8 => ?_)
      have h := h S_8 eS_8
      refine J_sub (lv' := [(0, .ref (g.1 + 206)), (1, .ref (g.1 + p1)), (2, .int p2), (3, .ref (g.1 + 1))]) [0, 1, 2, 3] rfl ?_
      exact l_X6_choose_84 p1 p2  _  hp1  _  h
def q_X6_choose_38 (p1 : Nat) (p2 : Int32)  (Q : Sto → Prop)  (S : Sto) : Prop := q_X6_choose_39 p1 p2  Q 0 S
set_option maxRecDepth 100000 in
set_option maxHeartbeats 4000000 in
theorem l_X6_choose_38 {g : Gv} (p1 : Nat) (p2 : Int32)  (Q : Sto → Prop)  (hp1 : kd p1 = 0)  (S : Sto)  (h : q_X6_choose_38 p1 p2  Q  S) : RJ g cX6_choose RX6 none 5 4 38 [(0, .ref (g.1 + 206)), (1, .ref (g.1 + p1)), (2, .int p2), (3, .ref (g.1 + 1))] [] S (Qv Q) := by
  unfold q_X6_choose_38 at h
  refine J_iconst (v := 0) dX6_choose_38 (by decide)  ?_
  exact l_X6_choose_39 p1 p2  _  hp1 _ _  h
def wp_X6_choose (p1 : Nat) (p2 : Int32) (S : Sto) (Q : Sto → Prop) : Prop := wp_X2_copy p1 351 p2 S (fun S_1 => ((8 ≤ (S_1.1 206 3) → q_X6_choose_38 p1 p2  Q  S_1) ∧ (¬ 8 ≤ (S_1.1 206 3) → wp_X4_width  S_1 (fun r_5 S_4 => ((64 < (((S_1.1 206 3) + 1) * r_5) → q_X6_choose_38 p1 p2  Q  S_4) ∧ (¬ 64 < (((S_1.1 206 3) + 1) * r_5) → q_X6_choose_39 p1 p2  Q 1 S_4))))))
set_option maxRecDepth 100000 in
set_option maxHeartbeats 4000000 in
theorem c_X6_choose {g : Gv} (p1 : Nat) (p2 : Int32) (hp1 : kd p1 = 0) (S : Sto) (Q : Sto → Prop) (h : wp_X6_choose p1 p2 S Q) : CT g yX6_choose cX6_choose 5 none 4 [.ref (g.1 + 206), .ref (g.1 + p1), .int p2, .ref (g.1 + 1)] S (Qv Q) := by
  unfold wp_X6_choose at h
  refine CT.of (by decide) (Nat.le_of_ble_eq_true rfl) ?_
  refine J_sub (lv' := [(0, .ref (g.1 + 206)), (1, .ref (g.1 + p1)), (2, .int p2), (3, .ref (g.1 + 1))]) [0, 1, 2, 3] rfl ?_
  refine J_aload_n dX6_choose_0 rfl 1 rfl  ?_
  refine J_aload_n dX6_choose_1 rfl 0 rfl  ?_
  refine J_getr (r := 351) (ci := 4) dX6_choose_2 6 rfl giX6 (by decide) (by decide) rfl rfl tb_2_0 (by decide) (by decide)  ?_
  refine J_iload_n dX6_choose_5 rfl 2 rfl  ?_
  refine J_callS (As := [.ref (g.1 + p1), .ref (g.1 + 351), .int p2]) (rest := []) (n := 3) dX6_choose_6 (c_X2_copy p1 351 p2 hp1 (by decide) _ _ h) tb_2_123 tb_3_192 tb_1_9 tb_2_122 (by decide) rfl (by decide) (by decide) (Nat.le_of_ble_eq_true rfl) rfl (fun v_r_2 S_1 hq => ?_)
  obtain ⟨rfl, h⟩ := hq
  dsimp only [Option.toList, List.cons_append, List.nil_append]
  refine J_aload_n dX6_choose_9 rfl 0 rfl  ?_
  refine J_geti (ci := 4) dX6_choose_10 3 rfl giX6 (by decide) (by decide) rfl rfl tb_1_237 rfl  ?_
  refine J_bipush (v := 8) dX6_choose_13 (by decide)  ?_
  refine J_icmp_ge (tgt := 38) dX6_choose_15 (by decide) (fun c_3 => ?_) (fun c_3 => ?_)
  · have h := h.1 c_3
    exact l_X6_choose_38 p1 p2  _  hp1  _  h
  · have h := h.2 c_3
    refine J_aload_n dX6_choose_18 rfl 0 rfl  ?_
    refine J_geti (ci := 4) dX6_choose_19 3 rfl giX6 (by decide) (by decide) rfl rfl tb_1_237 rfl  ?_
    refine J_iconst (v := 1) dX6_choose_22 (by decide)  ?_
    refine J_iadd dX6_choose_23  ?_
    refine J_aload_n dX6_choose_24 rfl 3 rfl  ?_
    refine J_callV (h := 1) (ci := 2) (As := []) (rest := [.int ((S_1.1 206 3) + 1)]) (n := 0) dX6_choose_25 (c_X4_width   _ _ h) (by decide) rfl tb_2_91 tb_3_179 tb_1_2 tb_2_89 tb_2_90 (by decide) rfl (by decide) (by decide) (Nat.le_of_ble_eq_true rfl) rfl (fun v_r_5 S_4 hq => ?_)
    obtain ⟨r_5, rfl, h⟩ := hq
    dsimp only [Option.toList, List.cons_append, List.nil_append]
    refine J_imul dX6_choose_28  ?_
    refine J_bipush (v := 64) dX6_choose_29 (by decide)  ?_
    refine J_icmp_gt (tgt := 38) dX6_choose_31 (by decide) (fun c_6 => ?_) (fun c_6 => ?_)
    · have h := h.1 c_6
      exact l_X6_choose_38 p1 p2  _  hp1  _  h
    · have h := h.2 c_6
      refine J_iconst (v := 1) dX6_choose_34 (by decide)  ?_
      refine J_goto (tgt := 39) dX6_choose_35 (by decide)  ?_
      exact l_X6_choose_39 p1 p2  _  hp1 _ _  h
def q_X6_chooseGenerators_101 (p2 : Nat)  (Q : Sto → Prop)  (S : Sto) : Prop := Q S
set_option maxRecDepth 100000 in
set_option maxHeartbeats 4000000 in
theorem l_X6_chooseGenerators_101 {g : Gv} (p2 : Nat)  (Q : Sto → Prop)  (hp2 : kd p2 = 8)  (S : Sto)  (h : q_X6_chooseGenerators_101 p2  Q  S) : RJ g cX6_chooseGenerators RX6 none 4 5 101 [(0, .ref (g.1 + 206)), (1, .ref (g.1 + 1)), (2, .ref (g.1 + p2))] [] S (Qv Q) := by
  unfold q_X6_chooseGenerators_101 at h
  exact J_vret dX6_chooseGenerators_101 rfl ⟨rfl, h⟩
def q_X6_chooseGenerators_67 (p2 : Nat)  (Q : Sto → Prop) : Nat → Int32 → Sto → Prop
  | 0, _, _ => False
  | n + 1, x3, S => (((S.1 1 5) ≤ x3 → q_X6_chooseGenerators_101 p2  Q  S) ∧ (¬ (S.1 1 5) ≤ x3 → ((4 ≤ x3 → q_X6_chooseGenerators_101 p2  Q  S) ∧ (¬ 4 ≤ x3 → vp_in x3 (4) ∧ wp_X4_width  S (fun r_5 S_4 => wp_X6_choose (9 + 1 + (x3 : Int32).toNatClampNeg) r_5 S_4 (fun S_6 => ∀ x3_8 : Int32, x3_8 = x3 + 1 → q_X6_chooseGenerators_67 p2  Q n x3_8 S_6))))))
set_option maxRecDepth 100000 in
set_option maxHeartbeats 4000000 in
theorem l_X6_chooseGenerators_67 {g : Gv} (p2 : Nat)  (Q : Sto → Prop)  (hp2 : kd p2 = 8) (n : Nat) : ∀ (x3 : Int32) (S : Sto)  (h : q_X6_chooseGenerators_67 p2  Q n x3 S), RJ g cX6_chooseGenerators RX6 none 4 5 67 [(0, .ref (g.1 + 206)), (1, .ref (g.1 + 1)), (2, .ref (g.1 + p2)), (3, .int x3)] [] S (Qv Q) := by
  induction n with
  | zero => intro x3 S  h; exact h.elim
  | succ n ih =>
    intro x3 S  h
    unfold q_X6_chooseGenerators_67 at h
    refine J_iload_n dX6_chooseGenerators_67 rfl 3 rfl  ?_
    refine J_aload_n dX6_chooseGenerators_68 rfl 1 rfl  ?_
    refine J_geti (ci := 2) dX6_chooseGenerators_69 5 rfl giX4 (by decide) (by decide) rfl rfl tb_1_54 rfl  ?_
    refine J_icmp_ge (tgt := 101) dX6_chooseGenerators_72 (by decide) (fun c_1 => ?_) (fun c_1 => ?_)
    · have h := h.1 c_1
      refine J_sub (lv' := [(0, .ref (g.1 + 206)), (1, .ref (g.1 + 1)), (2, .ref (g.1 + p2))]) [0, 1, 2] rfl ?_
      exact l_X6_chooseGenerators_101 p2  _  hp2  _  h
    · have h := h.2 c_1
      refine J_iload_n dX6_chooseGenerators_75 rfl 3 rfl  ?_
      refine J_iconst (v := 4) dX6_chooseGenerators_76 (by decide)  ?_
      refine J_icmp_ge (tgt := 101) dX6_chooseGenerators_77 (by decide) (fun c_2 => ?_) (fun c_2 => ?_)
      · have h := h.1 c_2
        refine J_sub (lv' := [(0, .ref (g.1 + 206)), (1, .ref (g.1 + 1)), (2, .ref (g.1 + p2))]) [0, 1, 2] rfl ?_
        exact l_X6_chooseGenerators_101 p2  _  hp2  _  h
      · have h := h.2 c_2
        refine J_aload_n dX6_chooseGenerators_80 rfl 0 rfl  ?_
        refine J_aload_n dX6_chooseGenerators_81 rfl 1 rfl  ?_
        refine J_getr (r := 9) (ci := 2) dX6_chooseGenerators_82 4 rfl giX4 (by decide) (by decide) rfl rfl tb_1_50 (by decide) (by decide)  ?_
        refine J_iload_n dX6_chooseGenerators_85 rfl 3 rfl  ?_
        obtain ⟨hi_3, h⟩ := h
        refine J_aald3 dX6_chooseGenerators_86 (by decide) hi_3  ?_
        refine J_aload_n dX6_chooseGenerators_87 rfl 1 rfl  ?_
        refine J_callV (h := 1) (ci := 2) (As := []) (rest := [.ref (g.1 + (9 + 1 + (x3 : Int32).toNatClampNeg)), .ref (g.1 + 206)]) (n := 0) dX6_chooseGenerators_88 (c_X4_width   _ _ h) (by decide) rfl tb_2_91 tb_3_179 tb_1_2 tb_2_89 tb_2_90 (by decide) rfl (by decide) (by decide) (Nat.le_of_ble_eq_true rfl) rfl (fun v_r_5 S_4 hq => ?_)
        obtain ⟨r_5, rfl, h⟩ := hq
        dsimp only [Option.toList, List.cons_append, List.nil_append]
        refine J_aload_n dX6_chooseGenerators_91 rfl 1 rfl  ?_
        refine J_callV (h := 206) (ci := 4) (As := [.ref (g.1 + (9 + 1 + (x3 : Int32).toNatClampNeg)), .int r_5, .ref (g.1 + 1)]) (rest := []) (n := 3) dX6_chooseGenerators_92 (c_X6_choose (9 + 1 + (x3 : Int32).toNatClampNeg) r_5 (kd_row3 (by decide) hi_3) _ _ h) (by decide) rfl tb_3_191 tb_3_188 tb_1_7 tb_3_190 sl_19 (by decide) rfl (by decide) (by decide) (Nat.le_of_ble_eq_true rfl) rfl (fun v_r_7 S_6 hq => ?_)
        obtain ⟨rfl, h⟩ := hq
        dsimp only [Option.toList, List.cons_append, List.nil_append]
        obtain ⟨x3_8, ex3_8⟩ : ∃ y : Int32, y = x3 + 1 := ⟨_, rfl⟩
        have h := h x3_8 ex3_8
        refine J_iinc (v := x3_8) (lv' := [(0, .ref (g.1 + 206)), (1, .ref (g.1 + 1)), (2, .ref (g.1 + p2)), (3, .int x3_8)]) dX6_chooseGenerators_95 (q := 3) rfl (by rw [ex3_8]; rfl) (by decide) [1, 2, 3, 0] rfl  ?_
        refine J_goto (tgt := 67) dX6_chooseGenerators_98 (by decide)  ?_
        exact ih _ _  h
def q_X6_chooseGenerators_49 (p2 : Nat) (R18 : Int32 → Sto → Prop) (Q : Sto → Prop) (x3 : Int32) (S : Sto) : Prop := ∀ x3_1 : Int32, x3_1 = x3 + 1 → R18 x3_1 S
set_option maxRecDepth 100000 in
set_option maxHeartbeats 4000000 in
theorem l_X6_chooseGenerators_49 {g : Gv} (p2 : Nat) (R18 : Int32 → Sto → Prop) (Q : Sto → Prop) (hR18 : ∀ (y3 : Int32) (S : Sto), R18 y3 S → RJ g cX6_chooseGenerators RX6 none 4 5 18 [(0, .ref (g.1 + 206)), (1, .ref (g.1 + 1)), (2, .ref (g.1 + p2)), (3, .int y3)] [] S (Qv Q)) (hp2 : kd p2 = 8) (x3 : Int32) (S : Sto)  (h : q_X6_chooseGenerators_49 p2 R18 Q x3 S) : RJ g cX6_chooseGenerators RX6 none 4 5 49 [(0, .ref (g.1 + 206)), (1, .ref (g.1 + 1)), (2, .ref (g.1 + p2)), (3, .int x3)] [] S (Qv Q) := by
  unfold q_X6_chooseGenerators_49 at h
  obtain ⟨x3_1, ex3_1⟩ : ∃ y : Int32, y = x3 + 1 := ⟨_, rfl⟩
  have h := h x3_1 ex3_1
  refine J_iinc (v := x3_1) (lv' := [(0, .ref (g.1 + 206)), (1, .ref (g.1 + 1)), (2, .ref (g.1 + p2)), (3, .int x3_1)]) dX6_chooseGenerators_49 (q := 3) rfl (by rw [ex3_1]; rfl) (by decide) [1, 2, 3, 0] rfl  ?_
  refine J_goto (tgt := 18) dX6_chooseGenerators_52 (by decide)  ?_
  exact hR18 _ _  h
def q_X6_chooseGenerators_18 (p2 : Nat)  (Q : Sto → Prop) : Nat → Int32 → Sto → Prop
  | 0, _, _ => False
  | n + 1, x3, S => wp_X4_width  S (fun r_2 S_1 => ((r_2 ≤ x3 → ∀ S_4 : Sto, S_4 = uA S_1 206 4 1 → ∀ S_5 : Sto, S_5 = uA S_4 206 3 0 → (∃ n_67, q_X6_chooseGenerators_67 p2  Q n_67 0 S_5)) ∧ (¬ r_2 ≤ x3 → wp_X5_holds p2 x3 S_1 (fun r_7 S_6 => ((r_7 = 0 → q_X6_chooseGenerators_49 p2 (fun y3 S => q_X6_chooseGenerators_18 p2  Q n y3 S) Q x3 S_6) ∧ (¬ r_7 = 0 → vp_in x3 (ln (p2 + 1)) ∧ wp_X4_width  S_6 (fun r_11 S_10 => wp_X6_admitProducts (p2 + 1 + 1 + (x3 : Int32).toNatClampNeg) r_11 S_10 (fun S_12 => q_X6_chooseGenerators_49 p2 (fun y3 S => q_X6_chooseGenerators_18 p2  Q n y3 S) Q x3 S_12))))))))
set_option maxRecDepth 100000 in
set_option maxHeartbeats 4000000 in
theorem l_X6_chooseGenerators_18 {g : Gv} (p2 : Nat)  (Q : Sto → Prop)  (hp2 : kd p2 = 8) (n : Nat) : ∀ (x3 : Int32) (S : Sto)  (h : q_X6_chooseGenerators_18 p2  Q n x3 S), RJ g cX6_chooseGenerators RX6 none 4 5 18 [(0, .ref (g.1 + 206)), (1, .ref (g.1 + 1)), (2, .ref (g.1 + p2)), (3, .int x3)] [] S (Qv Q) := by
  induction n with
  | zero => intro x3 S  h; exact h.elim
  | succ n ih =>
    intro x3 S  h
    unfold q_X6_chooseGenerators_18 at h
    refine J_iload_n dX6_chooseGenerators_18 rfl 3 rfl  ?_
    refine J_aload_n dX6_chooseGenerators_19 rfl 1 rfl  ?_
    refine J_callV (h := 1) (ci := 2) (As := []) (rest := [.int x3]) (n := 0) dX6_chooseGenerators_20 (c_X4_width   _ _ h) (by decide) rfl tb_2_91 tb_3_179 tb_1_2 tb_2_89 tb_2_90 (by decide) rfl (by decide) (by decide) (Nat.le_of_ble_eq_true rfl) rfl (fun v_r_2 S_1 hq => ?_)
    obtain ⟨r_2, rfl, h⟩ := hq
    dsimp only [Option.toList, List.cons_append, List.nil_append]
    refine J_icmp_ge (tgt := 55) dX6_chooseGenerators_23 (by decide) (fun c_3 => ?_) (fun c_3 => ?_)
    · have h := h.1 c_3
      refine J_aload_n dX6_chooseGenerators_55 rfl 0 rfl  ?_
      refine J_iconst (v := 1) dX6_chooseGenerators_56 (by decide)  ?_
      refine J_puti (ci := 4) dX6_chooseGenerators_57 4 rfl giX6 (by decide) (by decide) rfl rfl tyX6 tyX6_ok nmX6 rfl rfl rfl rfl tb_1_238 rfl  ?_
      refine J_nmS (fun S_4 eS_4 => ?_)
      have h := h S_4 eS_4
      refine J_aload_n dX6_chooseGenerators_60 rfl 0 rfl  ?_
      refine J_iconst (v := 0) dX6_chooseGenerators_61 (by decide)  ?_
      refine J_puti (ci := 4) dX6_chooseGenerators_62 3 rfl giX6 (by decide) (by decide) rfl rfl tyX6 tyX6_ok nmX6 rfl rfl rfl rfl tb_1_237 rfl  ?_
      refine J_nmS (fun S_5 eS_5 => ?_)
      have h := h S_5 eS_5
      refine J_iconst (v := 0) dX6_chooseGenerators_65 (by decide)  ?_
      refine J_istore_n (lv' := [(0, .ref (g.1 + 206)), (1, .ref (g.1 + 1)), (2, .ref (g.1 + p2)), (3, .int 0)]) dX6_chooseGenerators_66 rfl (by decide) [1, 2, 3, 0] rfl  ?_
      obtain ⟨n, h⟩ := h
      exact l_X6_chooseGenerators_67 p2  _  hp2 n _ _  h
    · have h := h.2 c_3
      refine J_aload_n dX6_chooseGenerators_26 rfl 2 rfl  ?_
      refine J_iload_n dX6_chooseGenerators_27 rfl 3 rfl  ?_
      refine J_callV (h := p2) (ci := 3) (As := [.int x3]) (rest := []) (n := 1) dX6_chooseGenerators_28 (c_X5_holds p2 x3 hp2 _ _ h) hp2 rfl tb_3_85 tb_3_181 tb_1_6 tb_3_83 tb_3_84 (by decide) rfl (by decide) (by decide) (Nat.le_of_ble_eq_true rfl) rfl (fun v_r_7 S_6 hq => ?_)
      obtain ⟨r_7, rfl, h⟩ := hq
      dsimp only [Option.toList, List.cons_append, List.nil_append]
      refine J_if_eq (tgt := 49) dX6_chooseGenerators_31 (by decide) (fun c_8 => ?_) (fun c_8 => ?_)
      · have h := h.1 c_8
        exact l_X6_chooseGenerators_49 p2 _ _ (fun y3 S  h => ih y3 S  h) hp2 _ _  h
      · have h := h.2 c_8
        refine J_aload_n dX6_chooseGenerators_34 rfl 0 rfl  ?_
        refine J_aload_n dX6_chooseGenerators_35 rfl 2 rfl  ?_
        refine J_getr (r := p2 + 1) (ci := 3) dX6_chooseGenerators_36 0 rfl giX5 hp2 (by decide) rfl rfl tb_1_155 (by decide) (sp_rf0 hp2)  ?_
        refine J_iload_n dX6_chooseGenerators_39 rfl 3 rfl  ?_
        obtain ⟨hi_9, h⟩ := h
        refine J_aald3 dX6_chooseGenerators_40 (sp_rows hp2) hi_9  ?_
        refine J_aload_n dX6_chooseGenerators_41 rfl 1 rfl  ?_
        refine J_callV (h := 1) (ci := 2) (As := []) (rest := [.ref (g.1 + (p2 + 1 + 1 + (x3 : Int32).toNatClampNeg)), .ref (g.1 + 206)]) (n := 0) dX6_chooseGenerators_42 (c_X4_width   _ _ h) (by decide) rfl tb_2_91 tb_3_179 tb_1_2 tb_2_89 tb_2_90 (by decide) rfl (by decide) (by decide) (Nat.le_of_ble_eq_true rfl) rfl (fun v_r_11 S_10 hq => ?_)
        obtain ⟨r_11, rfl, h⟩ := hq
        dsimp only [Option.toList, List.cons_append, List.nil_append]
        refine J_aload_n dX6_chooseGenerators_45 rfl 1 rfl  ?_
        refine J_callV (h := 206) (ci := 4) (As := [.ref (g.1 + (p2 + 1 + 1 + (x3 : Int32).toNatClampNeg)), .int r_11, .ref (g.1 + 1)]) (rest := []) (n := 3) dX6_chooseGenerators_46 (c_X6_admitProducts (p2 + 1 + 1 + (x3 : Int32).toNatClampNeg) r_11 (kd_row3 (sp_rows hp2) hi_9) _ _ h) (by decide) rfl tb_3_185 tb_3_182 tb_1_7 tb_3_184 sl_18 (by decide) rfl (by decide) (by decide) (Nat.le_of_ble_eq_true rfl) rfl (fun v_r_13 S_12 hq => ?_)
        obtain ⟨rfl, h⟩ := hq
        dsimp only [Option.toList, List.cons_append, List.nil_append]
        exact l_X6_chooseGenerators_49 p2 _ _ (fun y3 S  h => ih y3 S  h) hp2 _ _  h
def wp_X6_chooseGenerators (p2 : Nat) (S : Sto) (Q : Sto → Prop) : Prop := wp_X4_width  S (fun r_2 S_1 => wp_X5_begin 207 r_2 (S_1.1 1 1) 0 S_1 (fun S_3 => (∃ n_18, q_X6_chooseGenerators_18 p2  Q n_18 0 S_3)))
set_option maxRecDepth 100000 in
set_option maxHeartbeats 4000000 in
theorem c_X6_chooseGenerators {g : Gv} (p2 : Nat) (hp2 : kd p2 = 8) (S : Sto) (Q : Sto → Prop) (h : wp_X6_chooseGenerators p2 S Q) : CT g yX6_chooseGenerators cX6_chooseGenerators 4 none 5 [.ref (g.1 + 206), .ref (g.1 + 1), .ref (g.1 + p2)] S (Qv Q) := by
  unfold wp_X6_chooseGenerators at h
  refine CT.of (by decide) (Nat.le_of_ble_eq_true rfl) ?_
  refine J_sub (lv' := [(0, .ref (g.1 + 206)), (1, .ref (g.1 + 1)), (2, .ref (g.1 + p2))]) [0, 1, 2] rfl ?_
  refine J_aload_n dX6_chooseGenerators_0 rfl 0 rfl  ?_
  refine J_getr (r := 207) (ci := 4) dX6_chooseGenerators_1 0 rfl giX6 (by decide) (by decide) rfl rfl tb_1_234 (by decide) (by decide)  ?_
  refine J_aload_n dX6_chooseGenerators_4 rfl 1 rfl  ?_
  refine J_callV (h := 1) (ci := 2) (As := []) (rest := [.ref (g.1 + 207)]) (n := 0) dX6_chooseGenerators_5 (c_X4_width   _ _ h) (by decide) rfl tb_2_91 tb_3_179 tb_1_2 tb_2_89 tb_2_90 (by decide) rfl (by decide) (by decide) (Nat.le_of_ble_eq_true rfl) rfl (fun v_r_2 S_1 hq => ?_)
  obtain ⟨r_2, rfl, h⟩ := hq
  dsimp only [Option.toList, List.cons_append, List.nil_append]
  refine J_aload_n dX6_chooseGenerators_8 rfl 1 rfl  ?_
  refine J_geti (ci := 2) dX6_chooseGenerators_9 1 rfl giX4 (by decide) (by decide) rfl rfl tb_1_40 rfl  ?_
  refine J_iconst (v := 0) dX6_chooseGenerators_12 (by decide)  ?_
  refine J_callV (h := 207) (ci := 3) (As := [.int r_2, .int (S_1.1 1 1), .int 0]) (rest := []) (n := 3) dX6_chooseGenerators_13 (c_X5_begin 207 r_2 (S_1.1 1 1) 0 (by decide) _ _ h) (by decide) rfl tb_2_149 tb_3_180 tb_1_6 tb_2_147 tb_2_148 (by decide) rfl (by decide) (by decide) (Nat.le_of_ble_eq_true rfl) rfl (fun v_r_4 S_3 hq => ?_)
  obtain ⟨rfl, h⟩ := hq
  dsimp only [Option.toList, List.cons_append, List.nil_append]
  refine J_iconst (v := 0) dX6_chooseGenerators_16 (by decide)  ?_
  refine J_istore_n (lv' := [(0, .ref (g.1 + 206)), (1, .ref (g.1 + 1)), (2, .ref (g.1 + p2)), (3, .int 0)]) dX6_chooseGenerators_17 rfl (by decide) [1, 2, 3, 0] rfl  ?_
  obtain ⟨n, h⟩ := h
  exact l_X6_chooseGenerators_18 p2  _  hp2 n _ _  h
def q_X6_chooseRelations_55  (R25 : Int32 → Int32 → Sto → Prop) (Q : Sto → Prop) (x2 : Int32) (x3 : Int32) (S : Sto) : Prop := ∀ x3_1 : Int32, x3_1 = x3 + 1 → R25 x2 x3_1 S
set_option maxRecDepth 100000 in
set_option maxHeartbeats 4000000 in
theorem l_X6_chooseRelations_55 {g : Gv}  (R25 : Int32 → Int32 → Sto → Prop) (Q : Sto → Prop) (hR25 : ∀ (y2 : Int32) (y3 : Int32) (S : Sto), R25 y2 y3 S → RJ g cX6_chooseRelations RX6 none 4 5 25 [(0, .ref (g.1 + 206)), (1, .ref (g.1 + 1)), (2, .int y2), (3, .int y3)] [] S (Qv Q))  (x2 : Int32) (x3 : Int32) (S : Sto)  (h : q_X6_chooseRelations_55  R25 Q x2 x3 S) : RJ g cX6_chooseRelations RX6 none 4 5 55 [(0, .ref (g.1 + 206)), (1, .ref (g.1 + 1)), (2, .int x2), (3, .int x3)] [] S (Qv Q) := by
  unfold q_X6_chooseRelations_55 at h
  obtain ⟨x3_1, ex3_1⟩ : ∃ y : Int32, y = x3 + 1 := ⟨_, rfl⟩
  have h := h x3_1 ex3_1
  refine J_iinc (v := x3_1) (lv' := [(0, .ref (g.1 + 206)), (1, .ref (g.1 + 1)), (2, .int x2), (3, .int x3_1)]) dX6_chooseRelations_55 (q := 3) rfl (by rw [ex3_1]; rfl) (by decide) [1, 2, 3, 0] rfl  ?_
  refine J_goto (tgt := 25) dX6_chooseRelations_58 (by decide)  ?_
  exact hR25 _ _ _  h
def q_X6_chooseRelations_25   (Q : Sto → Prop) : Nat → Int32 → Int32 → Sto → Prop
  | 0, _, _, _ => False
  | n + 1, x2, x3, S => ((x2 ≤ x3 → Q S) ∧ (¬ x2 ≤ x3 → wp_X5_solve 274 x3 350 S (fun r_3 S_2 => ((r_3 = 0 → q_X6_chooseRelations_55  (fun y2 y3 S => q_X6_chooseRelations_25   Q n y2 y3 S) Q x2 x3 S_2) ∧ (¬ r_3 = 0 → wp_X6_choose 350 x2 S_2 (fun S_5 => q_X6_chooseRelations_55  (fun y2 y3 S => q_X6_chooseRelations_25   Q n y2 y3 S) Q x2 x3 S_5))))))
set_option maxRecDepth 100000 in
set_option maxHeartbeats 4000000 in
theorem l_X6_chooseRelations_25 {g : Gv}   (Q : Sto → Prop)   (n : Nat) : ∀ (x2 : Int32) (x3 : Int32) (S : Sto)  (h : q_X6_chooseRelations_25   Q n x2 x3 S), RJ g cX6_chooseRelations RX6 none 4 5 25 [(0, .ref (g.1 + 206)), (1, .ref (g.1 + 1)), (2, .int x2), (3, .int x3)] [] S (Qv Q) := by
  induction n with
  | zero => intro x2 x3 S  h; exact h.elim
  | succ n ih =>
    intro x2 x3 S  h
    unfold q_X6_chooseRelations_25 at h
    refine J_iload_n dX6_chooseRelations_25 rfl 3 rfl  ?_
    refine J_iload_n dX6_chooseRelations_26 rfl 2 rfl  ?_
    refine J_icmp_ge (tgt := 61) dX6_chooseRelations_27 (by decide) (fun c_1 => ?_) (fun c_1 => ?_)
    · have h := h.1 c_1
      exact J_vret dX6_chooseRelations_61 rfl ⟨rfl, h⟩
    · have h := h.2 c_1
      refine J_aload_n dX6_chooseRelations_30 rfl 0 rfl  ?_
      refine J_getr (r := 274) (ci := 4) dX6_chooseRelations_31 1 rfl giX6 (by decide) (by decide) rfl rfl tb_1_235 (by decide) (by decide)  ?_
      refine J_iload_n dX6_chooseRelations_34 rfl 3 rfl  ?_
      refine J_aload_n dX6_chooseRelations_35 rfl 0 rfl  ?_
      refine J_getr (r := 350) (ci := 4) dX6_chooseRelations_36 5 rfl giX6 (by decide) (by decide) rfl rfl tb_1_239 (by decide) (by decide)  ?_
      refine J_callV (h := 274) (ci := 3) (As := [.int x3, .ref (g.1 + 350)]) (rest := []) (n := 2) dX6_chooseRelations_39 (c_X5_solve 274 x3 350 (by decide) (by decide) _ _ h) (by decide) rfl tb_3_152 tb_3_207 tb_1_6 tb_3_150 tb_3_151 (by decide) rfl (by decide) (by decide) (Nat.le_of_ble_eq_true rfl) rfl (fun v_r_3 S_2 hq => ?_)
      obtain ⟨r_3, rfl, h⟩ := hq
      dsimp only [Option.toList, List.cons_append, List.nil_append]
      refine J_if_eq (tgt := 55) dX6_chooseRelations_42 (by decide) (fun c_4 => ?_) (fun c_4 => ?_)
      · have h := h.1 c_4
        exact l_X6_chooseRelations_55  _ _ (fun y2 y3 S  h => ih y2 y3 S  h)  _ _ _  h
      · have h := h.2 c_4
        refine J_aload_n dX6_chooseRelations_45 rfl 0 rfl  ?_
        refine J_aload_n dX6_chooseRelations_46 rfl 0 rfl  ?_
        refine J_getr (r := 350) (ci := 4) dX6_chooseRelations_47 5 rfl giX6 (by decide) (by decide) rfl rfl tb_1_239 (by decide) (by decide)  ?_
        refine J_iload_n dX6_chooseRelations_50 rfl 2 rfl  ?_
        refine J_aload_n dX6_chooseRelations_51 rfl 1 rfl  ?_
        refine J_callV (h := 206) (ci := 4) (As := [.ref (g.1 + 350), .int x2, .ref (g.1 + 1)]) (rest := []) (n := 3) dX6_chooseRelations_52 (c_X6_choose 350 x2 (by decide) _ _ h) (by decide) rfl tb_3_191 tb_3_188 tb_1_7 tb_3_190 sl_19 (by decide) rfl (by decide) (by decide) (Nat.le_of_ble_eq_true rfl) rfl (fun v_r_6 S_5 hq => ?_)
        obtain ⟨rfl, h⟩ := hq
        dsimp only [Option.toList, List.cons_append, List.nil_append]
        exact l_X6_chooseRelations_55  _ _ (fun y2 y3 S  h => ih y2 y3 S  h)  _ _ _  h
def wp_X6_chooseRelations  (S : Sto) (Q : Sto → Prop) : Prop := wp_X4_width  S (fun r_2 S_1 => ∀ x2_3 : Int32, x2_3 = (S.1 206 3) * r_2 → ∀ S_4 : Sto, S_4 = uA S_1 206 4 (S_1.1 206 3) → ∀ S_5 : Sto, S_5 = uA S_4 206 3 0 → (∃ n_25, q_X6_chooseRelations_25   Q n_25 x2_3 0 S_5))
set_option maxRecDepth 100000 in
set_option maxHeartbeats 4000000 in
theorem c_X6_chooseRelations {g : Gv}   (S : Sto) (Q : Sto → Prop) (h : wp_X6_chooseRelations  S Q) : CT g yX6_chooseRelations cX6_chooseRelations 4 none 5 [.ref (g.1 + 206), .ref (g.1 + 1)] S (Qv Q) := by
  unfold wp_X6_chooseRelations at h
  refine CT.of (by decide) (Nat.le_of_ble_eq_true rfl) ?_
  refine J_sub (lv' := [(0, .ref (g.1 + 206)), (1, .ref (g.1 + 1))]) [0, 1] rfl ?_
  refine J_aload_n dX6_chooseRelations_0 rfl 0 rfl  ?_
  refine J_geti (ci := 4) dX6_chooseRelations_1 3 rfl giX6 (by decide) (by decide) rfl rfl tb_1_237 rfl  ?_
  refine J_aload_n dX6_chooseRelations_4 rfl 1 rfl  ?_
  refine J_callV (h := 1) (ci := 2) (As := []) (rest := [.int (S.1 206 3)]) (n := 0) dX6_chooseRelations_5 (c_X4_width   _ _ h) (by decide) rfl tb_2_91 tb_3_179 tb_1_2 tb_2_89 tb_2_90 (by decide) rfl (by decide) (by decide) (Nat.le_of_ble_eq_true rfl) rfl (fun v_r_2 S_1 hq => ?_)
  obtain ⟨r_2, rfl, h⟩ := hq
  dsimp only [Option.toList, List.cons_append, List.nil_append]
  refine J_imul dX6_chooseRelations_8  ?_
  refine J_topi (fun x2_3 ex2_3 => ?_)
  have h := h x2_3 ex2_3
  refine J_istore_n (lv' := [(0, .ref (g.1 + 206)), (1, .ref (g.1 + 1)), (2, .int x2_3)]) dX6_chooseRelations_9 rfl (by decide) [1, 2, 0] rfl  ?_
  refine J_aload_n dX6_chooseRelations_10 rfl 0 rfl  ?_
  refine J_aload_n dX6_chooseRelations_11 rfl 0 rfl  ?_
  refine J_geti (ci := 4) dX6_chooseRelations_12 3 rfl giX6 (by decide) (by decide) rfl rfl tb_1_237 rfl  ?_
  refine J_puti (ci := 4) dX6_chooseRelations_15 4 rfl giX6 (by decide) (by decide) rfl rfl tyX6 tyX6_ok nmX6 rfl rfl rfl rfl tb_1_238 rfl  ?_
  refine J_nmS (fun S_4 eS_4 => ?_)
  have h := h S_4 eS_4
  refine J_aload_n dX6_chooseRelations_18 rfl 0 rfl  ?_
  refine J_iconst (v := 0) dX6_chooseRelations_19 (by decide)  ?_
  refine J_puti (ci := 4) dX6_chooseRelations_20 3 rfl giX6 (by decide) (by decide) rfl rfl tyX6 tyX6_ok nmX6 rfl rfl rfl rfl tb_1_237 rfl  ?_
  refine J_nmS (fun S_5 eS_5 => ?_)
  have h := h S_5 eS_5
  refine J_iconst (v := 0) dX6_chooseRelations_23 (by decide)  ?_
  refine J_istore_n (lv' := [(0, .ref (g.1 + 206)), (1, .ref (g.1 + 1)), (2, .int x2_3), (3, .int 0)]) dX6_chooseRelations_24 rfl (by decide) [1, 2, 3, 0] rfl  ?_
  obtain ⟨n, h⟩ := h
  exact l_X6_chooseRelations_25   _   n _ _ _  h
def q_X6_countRelations_55  (R25 : Int32 → Int32 → Sto → Prop) (Q : Int32 → Sto → Prop) (x2 : Int32) (x3 : Int32) (S : Sto) : Prop := ∀ x3_1 : Int32, x3_1 = x3 + 1 → R25 x2 x3_1 S
set_option maxRecDepth 100000 in
set_option maxHeartbeats 4000000 in
theorem l_X6_countRelations_55 {g : Gv}  (R25 : Int32 → Int32 → Sto → Prop) (Q : Int32 → Sto → Prop) (hR25 : ∀ (y2 : Int32) (y3 : Int32) (S : Sto), R25 y2 y3 S → RJ g cX6_countRelations RX6 (some .int) 4 5 25 [(0, .ref (g.1 + 206)), (1, .ref (g.1 + 1)), (2, .int y2), (3, .int y3)] [] S (Qi Q))  (x2 : Int32) (x3 : Int32) (S : Sto)  (h : q_X6_countRelations_55  R25 Q x2 x3 S) : RJ g cX6_countRelations RX6 (some .int) 4 5 55 [(0, .ref (g.1 + 206)), (1, .ref (g.1 + 1)), (2, .int x2), (3, .int x3)] [] S (Qi Q) := by
  unfold q_X6_countRelations_55 at h
  obtain ⟨x3_1, ex3_1⟩ : ∃ y : Int32, y = x3 + 1 := ⟨_, rfl⟩
  have h := h x3_1 ex3_1
  refine J_iinc (v := x3_1) (lv' := [(0, .ref (g.1 + 206)), (1, .ref (g.1 + 1)), (2, .int x2), (3, .int x3_1)]) dX6_countRelations_55 (q := 3) rfl (by rw [ex3_1]; rfl) (by decide) [1, 2, 3, 0] rfl  ?_
  refine J_goto (tgt := 25) dX6_countRelations_58 (by decide)  ?_
  exact hR25 _ _ _  h
def q_X6_countRelations_25   (Q : Int32 → Sto → Prop) : Nat → Int32 → Int32 → Sto → Prop
  | 0, _, _, _ => False
  | n + 1, x2, x3, S => ((x2 ≤ x3 → Q ((x2 - (S.1 274 2)) - (S.1 207 2)) S) ∧ (¬ x2 ≤ x3 → wp_X5_solve 274 x3 350 S (fun r_3 S_2 => ((r_3 = 0 → q_X6_countRelations_55  (fun y2 y3 S => q_X6_countRelations_25   Q n y2 y3 S) Q x2 x3 S_2) ∧ (¬ r_3 = 0 → wp_X6_admitProducts 350 x2 S_2 (fun S_5 => q_X6_countRelations_55  (fun y2 y3 S => q_X6_countRelations_25   Q n y2 y3 S) Q x2 x3 S_5))))))
set_option maxRecDepth 100000 in
set_option maxHeartbeats 4000000 in
theorem l_X6_countRelations_25 {g : Gv}   (Q : Int32 → Sto → Prop)   (n : Nat) : ∀ (x2 : Int32) (x3 : Int32) (S : Sto)  (h : q_X6_countRelations_25   Q n x2 x3 S), RJ g cX6_countRelations RX6 (some .int) 4 5 25 [(0, .ref (g.1 + 206)), (1, .ref (g.1 + 1)), (2, .int x2), (3, .int x3)] [] S (Qi Q) := by
  induction n with
  | zero => intro x2 x3 S  h; exact h.elim
  | succ n ih =>
    intro x2 x3 S  h
    unfold q_X6_countRelations_25 at h
    refine J_iload_n dX6_countRelations_25 rfl 3 rfl  ?_
    refine J_iload_n dX6_countRelations_26 rfl 2 rfl  ?_
    refine J_icmp_ge (tgt := 61) dX6_countRelations_27 (by decide) (fun c_1 => ?_) (fun c_1 => ?_)
    · have h := h.1 c_1
      refine J_iload_n dX6_countRelations_61 rfl 2 rfl  ?_
      refine J_aload_n dX6_countRelations_62 rfl 0 rfl  ?_
      refine J_getr (r := 274) (ci := 4) dX6_countRelations_63 1 rfl giX6 (by decide) (by decide) rfl rfl tb_1_235 (by decide) (by decide)  ?_
      refine J_geti (ci := 3) dX6_countRelations_66 2 rfl giX5 (by decide) (by decide) rfl rfl tb_1_160 rfl  ?_
      refine J_isub dX6_countRelations_69  ?_
      refine J_aload_n dX6_countRelations_70 rfl 0 rfl  ?_
      refine J_getr (r := 207) (ci := 4) dX6_countRelations_71 0 rfl giX6 (by decide) (by decide) rfl rfl tb_1_234 (by decide) (by decide)  ?_
      refine J_geti (ci := 3) dX6_countRelations_74 2 rfl giX5 (by decide) (by decide) rfl rfl tb_1_160 rfl  ?_
      refine J_isub dX6_countRelations_77  ?_
      exact J_iret dX6_countRelations_78 rfl rfl ⟨_, rfl, h⟩
    · have h := h.2 c_1
      refine J_aload_n dX6_countRelations_30 rfl 0 rfl  ?_
      refine J_getr (r := 274) (ci := 4) dX6_countRelations_31 1 rfl giX6 (by decide) (by decide) rfl rfl tb_1_235 (by decide) (by decide)  ?_
      refine J_iload_n dX6_countRelations_34 rfl 3 rfl  ?_
      refine J_aload_n dX6_countRelations_35 rfl 0 rfl  ?_
      refine J_getr (r := 350) (ci := 4) dX6_countRelations_36 5 rfl giX6 (by decide) (by decide) rfl rfl tb_1_239 (by decide) (by decide)  ?_
      refine J_callV (h := 274) (ci := 3) (As := [.int x3, .ref (g.1 + 350)]) (rest := []) (n := 2) dX6_countRelations_39 (c_X5_solve 274 x3 350 (by decide) (by decide) _ _ h) (by decide) rfl tb_3_152 tb_3_207 tb_1_6 tb_3_150 tb_3_151 (by decide) rfl (by decide) (by decide) (Nat.le_of_ble_eq_true rfl) rfl (fun v_r_3 S_2 hq => ?_)
      obtain ⟨r_3, rfl, h⟩ := hq
      dsimp only [Option.toList, List.cons_append, List.nil_append]
      refine J_if_eq (tgt := 55) dX6_countRelations_42 (by decide) (fun c_4 => ?_) (fun c_4 => ?_)
      · have h := h.1 c_4
        exact l_X6_countRelations_55  _ _ (fun y2 y3 S  h => ih y2 y3 S  h)  _ _ _  h
      · have h := h.2 c_4
        refine J_aload_n dX6_countRelations_45 rfl 0 rfl  ?_
        refine J_aload_n dX6_countRelations_46 rfl 0 rfl  ?_
        refine J_getr (r := 350) (ci := 4) dX6_countRelations_47 5 rfl giX6 (by decide) (by decide) rfl rfl tb_1_239 (by decide) (by decide)  ?_
        refine J_iload_n dX6_countRelations_50 rfl 2 rfl  ?_
        refine J_aload_n dX6_countRelations_51 rfl 1 rfl  ?_
        refine J_callV (h := 206) (ci := 4) (As := [.ref (g.1 + 350), .int x2, .ref (g.1 + 1)]) (rest := []) (n := 3) dX6_countRelations_52 (c_X6_admitProducts 350 x2 (by decide) _ _ h) (by decide) rfl tb_3_185 tb_3_182 tb_1_7 tb_3_184 sl_18 (by decide) rfl (by decide) (by decide) (Nat.le_of_ble_eq_true rfl) rfl (fun v_r_6 S_5 hq => ?_)
        obtain ⟨rfl, h⟩ := hq
        dsimp only [Option.toList, List.cons_append, List.nil_append]
        exact l_X6_countRelations_55  _ _ (fun y2 y3 S  h => ih y2 y3 S  h)  _ _ _  h
def wp_X6_countRelations  (S : Sto) (Q : Int32 → Sto → Prop) : Prop := wp_X4_width  S (fun r_2 S_1 => ∀ x2_3 : Int32, x2_3 = (S.1 206 3) * r_2 → wp_X5_begin 207 x2_3 (S_1.1 1 1) 0 S_1 (fun S_4 => (∃ n_25, q_X6_countRelations_25   Q n_25 x2_3 0 S_4)))
set_option maxRecDepth 100000 in
set_option maxHeartbeats 4000000 in
theorem c_X6_countRelations {g : Gv}   (S : Sto) (Q : Int32 → Sto → Prop) (h : wp_X6_countRelations  S Q) : CT g yX6_countRelations cX6_countRelations 4 (some .int) 5 [.ref (g.1 + 206), .ref (g.1 + 1)] S (Qi Q) := by
  unfold wp_X6_countRelations at h
  refine CT.of (by decide) (Nat.le_of_ble_eq_true rfl) ?_
  refine J_sub (lv' := [(0, .ref (g.1 + 206)), (1, .ref (g.1 + 1))]) [0, 1] rfl ?_
  refine J_aload_n dX6_countRelations_0 rfl 0 rfl  ?_
  refine J_geti (ci := 4) dX6_countRelations_1 3 rfl giX6 (by decide) (by decide) rfl rfl tb_1_237 rfl  ?_
  refine J_aload_n dX6_countRelations_4 rfl 1 rfl  ?_
  refine J_callV (h := 1) (ci := 2) (As := []) (rest := [.int (S.1 206 3)]) (n := 0) dX6_countRelations_5 (c_X4_width   _ _ h) (by decide) rfl tb_2_91 tb_3_179 tb_1_2 tb_2_89 tb_2_90 (by decide) rfl (by decide) (by decide) (Nat.le_of_ble_eq_true rfl) rfl (fun v_r_2 S_1 hq => ?_)
  obtain ⟨r_2, rfl, h⟩ := hq
  dsimp only [Option.toList, List.cons_append, List.nil_append]
  refine J_imul dX6_countRelations_8  ?_
  refine J_topi (fun x2_3 ex2_3 => ?_)
  have h := h x2_3 ex2_3
  refine J_istore_n (lv' := [(0, .ref (g.1 + 206)), (1, .ref (g.1 + 1)), (2, .int x2_3)]) dX6_countRelations_9 rfl (by decide) [1, 2, 0] rfl  ?_
  refine J_aload_n dX6_countRelations_10 rfl 0 rfl  ?_
  refine J_getr (r := 207) (ci := 4) dX6_countRelations_11 0 rfl giX6 (by decide) (by decide) rfl rfl tb_1_234 (by decide) (by decide)  ?_
  refine J_iload_n dX6_countRelations_14 rfl 2 rfl  ?_
  refine J_aload_n dX6_countRelations_15 rfl 1 rfl  ?_
  refine J_geti (ci := 2) dX6_countRelations_16 1 rfl giX4 (by decide) (by decide) rfl rfl tb_1_40 rfl  ?_
  refine J_iconst (v := 0) dX6_countRelations_19 (by decide)  ?_
  refine J_callV (h := 207) (ci := 3) (As := [.int x2_3, .int (S_1.1 1 1), .int 0]) (rest := []) (n := 3) dX6_countRelations_20 (c_X5_begin 207 x2_3 (S_1.1 1 1) 0 (by decide) _ _ h) (by decide) rfl tb_2_149 tb_3_180 tb_1_6 tb_2_147 tb_2_148 (by decide) rfl (by decide) (by decide) (Nat.le_of_ble_eq_true rfl) rfl (fun v_r_5 S_4 hq => ?_)
  obtain ⟨rfl, h⟩ := hq
  dsimp only [Option.toList, List.cons_append, List.nil_append]
  refine J_iconst (v := 0) dX6_countRelations_23 (by decide)  ?_
  refine J_istore_n (lv' := [(0, .ref (g.1 + 206)), (1, .ref (g.1 + 1)), (2, .int x2_3), (3, .int 0)]) dX6_countRelations_24 rfl (by decide) [1, 2, 3, 0] rfl  ?_
  obtain ⟨n, h⟩ := h
  exact l_X6_countRelations_25   _   n _ _ _  h
def q_X6_fillEquation_80 (p1 : Int32) (p2 : Int32) (p3 : Int32) (R10 : Int32 → Int32 → Sto → Prop) (Q : Sto → Prop) (x5 : Int32) (x6 : Int32) (t1 : Int32) (t2 : Int32) (S : Sto) : Prop := vp_in t1 (64) ∧ ∀ S_2 : Sto, S_2 = uA S 350 (t1 : Int32).toNatClampNeg t2 → ∀ x6_3 : Int32, x6_3 = x6 + 1 → R10 x5 x6_3 S_2
set_option maxRecDepth 100000 in
set_option maxHeartbeats 4000000 in
theorem l_X6_fillEquation_80 {g : Gv} (p1 : Int32) (p2 : Int32) (p3 : Int32) (R10 : Int32 → Int32 → Sto → Prop) (Q : Sto → Prop) (hR10 : ∀ (y5 : Int32) (y6 : Int32) (S : Sto), R10 y5 y6 S → RJ g cX6_fillEquation RX6 none 9 3 10 [(0, .ref (g.1 + 206)), (1, .int p1), (2, .int p2), (3, .int p3), (4, .ref (g.1 + 1)), (5, .int y5), (6, .int y6)] [] S (Qv Q))  (x5 : Int32) (x6 : Int32) (t1 : Int32) (t2 : Int32) (S : Sto)  (h : q_X6_fillEquation_80 p1 p2 p3 R10 Q x5 x6 t1 t2 S) : RJ g cX6_fillEquation RX6 none 9 3 80 [(0, .ref (g.1 + 206)), (1, .int p1), (2, .int p2), (3, .int p3), (4, .ref (g.1 + 1)), (5, .int x5), (6, .int x6)] [.int t2, .int t1, .ref (g.1 + 350)] S (Qv Q) := by
  unfold q_X6_fillEquation_80 at h
  obtain ⟨hi_1, h⟩ := h
  refine J_iast dX6_fillEquation_80 (by decide) hi_1  ?_
  refine J_nmS (fun S_2 eS_2 => ?_)
  have h := h S_2 eS_2
  obtain ⟨x6_3, ex6_3⟩ : ∃ y : Int32, y = x6 + 1 := ⟨_, rfl⟩
  have h := h x6_3 ex6_3
  refine J_iinc (v := x6_3) (lv' := [(0, .ref (g.1 + 206)), (1, .int p1), (2, .int p2), (3, .int p3), (4, .ref (g.1 + 1)), (5, .int x5), (6, .int x6_3)]) dX6_fillEquation_81 (q := 6) rfl (by rw [ex6_3]; rfl) (by decide) [1, 2, 3, 4, 5, 6, 0] rfl  ?_
  refine J_goto (tgt := 10) dX6_fillEquation_84 (by decide)  ?_
  exact hR10 _ _ _  h
def q_X6_fillEquation_10 (p1 : Int32) (p2 : Int32) (p3 : Int32)  (Q : Sto → Prop) : Nat → Int32 → Int32 → Sto → Prop
  | 0, _, _, _ => False
  | n + 1, x5, x6, S => ((x5 ≤ x6 → Q S) ∧ (¬ x5 ≤ x6 → ∀ x7_2 : Int32, x7_2 = p3 &&& (x6 ^^^ ((-1))) → wp_X2_sign x6 x7_2 S (fun r_4 S_3 => vp_in p1 (8) ∧ vp_in (p2 + x7_2) (ln (341 + 1 + (p1 : Int32).toNatClampNeg)) ∧ ∀ x8_7 : Int32, x8_7 = r_4 * (S_3.1 (341 + 1 + (p1 : Int32).toNatClampNeg) (p2 + x7_2 : Int32).toNatClampNeg) → ((¬ (x6 ||| x7_2) = p3 → q_X6_fillEquation_80 p1 p2 p3 (fun y5 y6 S => q_X6_fillEquation_10 p1 p2 p3  Q n y5 y6 S) Q x5 x6 ((p1 * x5) + x6) 0 S_3) ∧ ((x6 ||| x7_2) = p3 → wp_X2_modulo x8_7 (S_3.1 1 1) S_3 (fun r_10 S_9 => q_X6_fillEquation_80 p1 p2 p3 (fun y5 y6 S => q_X6_fillEquation_10 p1 p2 p3  Q n y5 y6 S) Q x5 x6 ((p1 * x5) + x6) r_10 S_9))))))
set_option maxRecDepth 100000 in
set_option maxHeartbeats 4000000 in
theorem l_X6_fillEquation_10 {g : Gv} (p1 : Int32) (p2 : Int32) (p3 : Int32)  (Q : Sto → Prop)   (n : Nat) : ∀ (x5 : Int32) (x6 : Int32) (S : Sto)  (h : q_X6_fillEquation_10 p1 p2 p3  Q n x5 x6 S), RJ g cX6_fillEquation RX6 none 9 3 10 [(0, .ref (g.1 + 206)), (1, .int p1), (2, .int p2), (3, .int p3), (4, .ref (g.1 + 1)), (5, .int x5), (6, .int x6)] [] S (Qv Q) := by
  induction n with
  | zero => intro x5 x6 S  h; exact h.elim
  | succ n ih =>
    intro x5 x6 S  h
    unfold q_X6_fillEquation_10 at h
    refine J_iload dX6_fillEquation_10 6 rfl  ?_
    refine J_iload dX6_fillEquation_12 5 rfl  ?_
    refine J_icmp_ge (tgt := 87) dX6_fillEquation_14 (by decide) (fun c_1 => ?_) (fun c_1 => ?_)
    · have h := h.1 c_1
      exact J_vret dX6_fillEquation_87 rfl ⟨rfl, h⟩
    · have h := h.2 c_1
      refine J_iload_n dX6_fillEquation_17 rfl 3 rfl  ?_
      refine J_iload dX6_fillEquation_18 6 rfl  ?_
      refine J_iconst (v := (-1)) dX6_fillEquation_20 (by decide)  ?_
      refine J_ixor dX6_fillEquation_21  ?_
      refine J_iand dX6_fillEquation_22  ?_
      refine J_topi (fun x7_2 ex7_2 => ?_)
      have h := h x7_2 ex7_2
      refine J_istore (lv' := [(0, .ref (g.1 + 206)), (1, .int p1), (2, .int p2), (3, .int p3), (4, .ref (g.1 + 1)), (5, .int x5), (6, .int x6), (7, .int x7_2)]) dX6_fillEquation_23 (by decide) [1, 2, 3, 4, 5, 6, 7, 0] rfl  ?_
      refine J_iload dX6_fillEquation_25 6 rfl  ?_
      refine J_iload dX6_fillEquation_27 7 rfl  ?_
      refine J_callS (As := [.int x6, .int x7_2]) (rest := []) (n := 2) dX6_fillEquation_29 (c_X2_sign x6 x7_2  _ _ h) tb_2_108 tb_3_201 tb_1_9 tb_2_107 (by decide) rfl (by decide) (by decide) (Nat.le_of_ble_eq_true rfl) rfl (fun v_r_4 S_3 hq => ?_)
      obtain ⟨r_4, rfl, h⟩ := hq
      dsimp only [Option.toList, List.cons_append, List.nil_append]
      refine J_aload_n dX6_fillEquation_32 rfl 0 rfl  ?_
      refine J_getr (r := 341) (ci := 4) dX6_fillEquation_33 2 rfl giX6 (by decide) (by decide) rfl rfl tb_1_236 (by decide) (by decide)  ?_
      refine J_iload_n dX6_fillEquation_36 rfl 1 rfl  ?_
      obtain ⟨hi_5, h⟩ := h
      refine J_aald3 dX6_fillEquation_37 (by decide) hi_5  ?_
      refine J_iload_n dX6_fillEquation_38 rfl 2 rfl  ?_
      refine J_iload dX6_fillEquation_39 7 rfl  ?_
      refine J_iadd dX6_fillEquation_41  ?_
      obtain ⟨hi_6, h⟩ := h
      refine J_iald dX6_fillEquation_42 (kd_row3 (by decide) hi_5) hi_6  ?_
      refine J_imul dX6_fillEquation_43  ?_
      refine J_topi (fun x8_7 ex8_7 => ?_)
      have h := h x8_7 ex8_7
      refine J_istore (lv' := [(0, .ref (g.1 + 206)), (1, .int p1), (2, .int p2), (3, .int p3), (4, .ref (g.1 + 1)), (5, .int x5), (6, .int x6), (7, .int x7_2), (8, .int x8_7)]) dX6_fillEquation_44 (by decide) [1, 2, 3, 4, 5, 6, 7, 8, 0] rfl  ?_
      refine J_aload_n dX6_fillEquation_46 rfl 0 rfl  ?_
      refine J_getr (r := 350) (ci := 4) dX6_fillEquation_47 5 rfl giX6 (by decide) (by decide) rfl rfl tb_1_239 (by decide) (by decide)  ?_
      refine J_iload_n dX6_fillEquation_50 rfl 1 rfl  ?_
      refine J_iload dX6_fillEquation_51 5 rfl  ?_
      refine J_imul dX6_fillEquation_53  ?_
      refine J_iload dX6_fillEquation_54 6 rfl  ?_
      refine J_iadd dX6_fillEquation_56  ?_
      refine J_iload dX6_fillEquation_57 6 rfl  ?_
      refine J_iload dX6_fillEquation_59 7 rfl  ?_
      refine J_ior dX6_fillEquation_61  ?_
      refine J_iload_n dX6_fillEquation_62 rfl 3 rfl  ?_
      refine J_icmp_ne (tgt := 79) dX6_fillEquation_63 (by decide) (fun c_8 => ?_) (fun c_8 => ?_)
      · have h := h.1 c_8
        refine J_iconst (v := 0) dX6_fillEquation_79 (by decide)  ?_
        refine J_sub (lv' := [(0, .ref (g.1 + 206)), (1, .int p1), (2, .int p2), (3, .int p3), (4, .ref (g.1 + 1)), (5, .int x5), (6, .int x6)]) [0, 1, 2, 3, 4, 5, 6] rfl ?_
        exact l_X6_fillEquation_80 p1 p2 p3 _ _ (fun y5 y6 S  h => ih y5 y6 S  h)  _ _ _ _ _  h
      · have h := h.2 c_8
        refine J_iload dX6_fillEquation_66 8 rfl  ?_
        refine J_aload dX6_fillEquation_68 4 rfl  ?_
        refine J_geti (ci := 2) dX6_fillEquation_70 1 rfl giX4 (by decide) (by decide) rfl rfl tb_1_40 rfl  ?_
        refine J_callS (As := [.int x8_7, .int (S_3.1 1 1)]) (rest := [.int ((p1 * x5) + x6), .ref (g.1 + 350)]) (n := 2) dX6_fillEquation_73 (c_X2_modulo x8_7 (S_3.1 1 1)  _ _ h) tb_2_94 tb_3_202 tb_1_9 tb_2_93 (by decide) rfl (by decide) (by decide) (Nat.le_of_ble_eq_true rfl) rfl (fun v_r_10 S_9 hq => ?_)
        obtain ⟨r_10, rfl, h⟩ := hq
        dsimp only [Option.toList, List.cons_append, List.nil_append]
        refine J_goto (tgt := 80) dX6_fillEquation_76 (by decide)  ?_
        refine J_sub (lv' := [(0, .ref (g.1 + 206)), (1, .int p1), (2, .int p2), (3, .int p3), (4, .ref (g.1 + 1)), (5, .int x5), (6, .int x6)]) [0, 1, 2, 3, 4, 5, 6] rfl ?_
        exact l_X6_fillEquation_80 p1 p2 p3 _ _ (fun y5 y6 S  h => ih y5 y6 S  h)  _ _ _ _ _  h
def wp_X6_fillEquation (p1 : Int32) (p2 : Int32) (p3 : Int32) (S : Sto) (Q : Sto → Prop) : Prop := wp_X4_width  S (fun r_2 S_1 => (∃ n_10, q_X6_fillEquation_10 p1 p2 p3  Q n_10 r_2 0 S_1))
set_option maxRecDepth 100000 in
set_option maxHeartbeats 4000000 in
theorem c_X6_fillEquation {g : Gv} (p1 : Int32) (p2 : Int32) (p3 : Int32)  (S : Sto) (Q : Sto → Prop) (h : wp_X6_fillEquation p1 p2 p3 S Q) : CT g yX6_fillEquation cX6_fillEquation 9 none 3 [.ref (g.1 + 206), .int p1, .int p2, .int p3, .ref (g.1 + 1)] S (Qv Q) := by
  unfold wp_X6_fillEquation at h
  refine CT.of (by decide) (Nat.le_of_ble_eq_true rfl) ?_
  refine J_sub (lv' := [(0, .ref (g.1 + 206)), (1, .int p1), (2, .int p2), (3, .int p3), (4, .ref (g.1 + 1))]) [0, 1, 2, 3, 4] rfl ?_
  refine J_aload dX6_fillEquation_0 4 rfl  ?_
  refine J_callV (h := 1) (ci := 2) (As := []) (rest := []) (n := 0) dX6_fillEquation_2 (c_X4_width   _ _ h) (by decide) rfl tb_2_91 tb_3_179 tb_1_2 tb_2_89 tb_2_90 (by decide) rfl (by decide) (by decide) (Nat.le_of_ble_eq_true rfl) rfl (fun v_r_2 S_1 hq => ?_)
  obtain ⟨r_2, rfl, h⟩ := hq
  dsimp only [Option.toList, List.cons_append, List.nil_append]
  refine J_istore (lv' := [(0, .ref (g.1 + 206)), (1, .int p1), (2, .int p2), (3, .int p3), (4, .ref (g.1 + 1)), (5, .int r_2)]) dX6_fillEquation_5 (by decide) [1, 2, 3, 4, 5, 0] rfl  ?_
  refine J_iconst (v := 0) dX6_fillEquation_7 (by decide)  ?_
  refine J_istore (lv' := [(0, .ref (g.1 + 206)), (1, .int p1), (2, .int p2), (3, .int p3), (4, .ref (g.1 + 1)), (5, .int r_2), (6, .int 0)]) dX6_fillEquation_8 (by decide) [1, 2, 3, 4, 5, 6, 0] rfl  ?_
  obtain ⟨n, h⟩ := h
  exact l_X6_fillEquation_10 p1 p2 p3  _   n _ _ _  h
def q_X6_relateChosen_45  (R25 : Int32 → Int32 → Sto → Prop) (R36 : Int32 → Int32 → Int32 → Sto → Prop) (Q : Sto → Prop) : Nat → Int32 → Int32 → Int32 → Int32 → Sto → Prop
  | 0, _, _, _, _, _ => False
  | n + 1, x2, x3, x4, x5, S => (((S.1 206 3) ≤ x5 → wp_X5_admit 274 350 S (fun r_3 S_2 => ∀ x4_4 : Int32, x4_4 = x4 + 1 → R36 x2 x3 x4_4 S_2)) ∧ (¬ (S.1 206 3) ≤ x5 → wp_X6_fillEquation x5 (x3 * x2) x4 S (fun S_5 => ∀ x5_7 : Int32, x5_7 = x5 + 1 → q_X6_relateChosen_45  R25 R36 Q n x2 x3 x4 x5_7 S_5)))
set_option maxRecDepth 100000 in
set_option maxHeartbeats 4000000 in
theorem l_X6_relateChosen_45 {g : Gv}  (R25 : Int32 → Int32 → Sto → Prop) (R36 : Int32 → Int32 → Int32 → Sto → Prop) (Q : Sto → Prop) (hR25 : ∀ (y2 : Int32) (y3 : Int32) (S : Sto), R25 y2 y3 S → RJ g cX6_relateChosen RX6 none 6 4 25 [(0, .ref (g.1 + 206)), (1, .ref (g.1 + 1)), (2, .int y2), (3, .int y3)] [] S (Qv Q)) (hR36 : ∀ (y2 : Int32) (y3 : Int32) (y4 : Int32) (S : Sto), R36 y2 y3 y4 S → RJ g cX6_relateChosen RX6 none 6 4 36 [(0, .ref (g.1 + 206)), (1, .ref (g.1 + 1)), (2, .int y2), (3, .int y3), (4, .int y4)] [] S (Qv Q))  (n : Nat) : ∀ (x2 : Int32) (x3 : Int32) (x4 : Int32) (x5 : Int32) (S : Sto)  (h : q_X6_relateChosen_45  R25 R36 Q n x2 x3 x4 x5 S), RJ g cX6_relateChosen RX6 none 6 4 45 [(0, .ref (g.1 + 206)), (1, .ref (g.1 + 1)), (2, .int x2), (3, .int x3), (4, .int x4), (5, .int x5)] [] S (Qv Q) := by
  induction n with
  | zero => intro x2 x3 x4 x5 S  h; exact h.elim
  | succ n ih =>
    intro x2 x3 x4 x5 S  h
    unfold q_X6_relateChosen_45 at h
    refine J_iload dX6_relateChosen_45 5 rfl  ?_
    refine J_aload_n dX6_relateChosen_47 rfl 0 rfl  ?_
    refine J_geti (ci := 4) dX6_relateChosen_48 3 rfl giX6 (by decide) (by decide) rfl rfl tb_1_237 rfl  ?_
    refine J_icmp_ge (tgt := 72) dX6_relateChosen_51 (by decide) (fun c_1 => ?_) (fun c_1 => ?_)
    · have h := h.1 c_1
      refine J_aload_n dX6_relateChosen_72 rfl 0 rfl  ?_
      refine J_getr (r := 274) (ci := 4) dX6_relateChosen_73 1 rfl giX6 (by decide) (by decide) rfl rfl tb_1_235 (by decide) (by decide)  ?_
      refine J_aload_n dX6_relateChosen_76 rfl 0 rfl  ?_
      refine J_getr (r := 350) (ci := 4) dX6_relateChosen_77 5 rfl giX6 (by decide) (by decide) rfl rfl tb_1_239 (by decide) (by decide)  ?_
      refine J_callV (h := 274) (ci := 3) (As := [.ref (g.1 + 350)]) (rest := []) (n := 1) dX6_relateChosen_80 (c_X5_admit 274 350 (by decide) (by decide) _ _ h) (by decide) rfl tb_2_168 tb_3_187 tb_1_6 tb_2_166 tb_2_167 (by decide) rfl (by decide) (by decide) (Nat.le_of_ble_eq_true rfl) rfl (fun v_r_3 S_2 hq => ?_)
      obtain ⟨r_3, rfl, h⟩ := hq
      dsimp only [Option.toList, List.cons_append, List.nil_append]
      refine J_pop dX6_relateChosen_83 rfl  ?_
      obtain ⟨x4_4, ex4_4⟩ : ∃ y : Int32, y = x4 + 1 := ⟨_, rfl⟩
      have h := h x4_4 ex4_4
      refine J_iinc (v := x4_4) (lv' := [(0, .ref (g.1 + 206)), (1, .ref (g.1 + 1)), (2, .int x2), (3, .int x3), (4, .int x4_4), (5, .int x5)]) dX6_relateChosen_84 (q := 4) rfl (by rw [ex4_4]; rfl) (by decide) [1, 2, 3, 4, 0, 5] rfl  ?_
      refine J_goto (tgt := 36) dX6_relateChosen_87 (by decide)  ?_
      refine J_sub (lv' := [(0, .ref (g.1 + 206)), (1, .ref (g.1 + 1)), (2, .int x2), (3, .int x3), (4, .int x4_4)]) [0, 1, 2, 3, 4] rfl ?_
      exact hR36 _ _ _ _  h
    · have h := h.2 c_1
      refine J_aload_n dX6_relateChosen_54 rfl 0 rfl  ?_
      refine J_iload dX6_relateChosen_55 5 rfl  ?_
      refine J_iload_n dX6_relateChosen_57 rfl 3 rfl  ?_
      refine J_iload_n dX6_relateChosen_58 rfl 2 rfl  ?_
      refine J_imul dX6_relateChosen_59  ?_
      refine J_iload dX6_relateChosen_60 4 rfl  ?_
      refine J_aload_n dX6_relateChosen_62 rfl 1 rfl  ?_
      refine J_callV (h := 206) (ci := 4) (As := [.int x5, .int (x3 * x2), .int x4, .ref (g.1 + 1)]) (rest := []) (n := 4) dX6_relateChosen_63 (c_X6_fillEquation x5 (x3 * x2) x4  _ _ h) (by decide) rfl tb_3_200 tb_3_197 tb_1_7 tb_3_199 sl_21 (by decide) rfl (by decide) (by decide) (Nat.le_of_ble_eq_true rfl) rfl (fun v_r_6 S_5 hq => ?_)
      obtain ⟨rfl, h⟩ := hq
      dsimp only [Option.toList, List.cons_append, List.nil_append]
      obtain ⟨x5_7, ex5_7⟩ : ∃ y : Int32, y = x5 + 1 := ⟨_, rfl⟩
      have h := h x5_7 ex5_7
      refine J_iinc (v := x5_7) (lv' := [(0, .ref (g.1 + 206)), (1, .ref (g.1 + 1)), (2, .int x2), (3, .int x3), (4, .int x4), (5, .int x5_7)]) dX6_relateChosen_66 (q := 5) rfl (by rw [ex5_7]; rfl) (by decide) [1, 2, 3, 4, 5, 0] rfl  ?_
      refine J_goto (tgt := 45) dX6_relateChosen_69 (by decide)  ?_
      exact ih _ _ _ _ _  h
def q_X6_relateChosen_36  (R25 : Int32 → Int32 → Sto → Prop) (Q : Sto → Prop) : Nat → Int32 → Int32 → Int32 → Sto → Prop
  | 0, _, _, _, _ => False
  | n + 1, x2, x3, x4, S => ((x2 ≤ x4 → ∀ x3_2 : Int32, x3_2 = x3 + 1 → R25 x2 x3_2 S) ∧ (¬ x2 ≤ x4 → (∃ n_45, q_X6_relateChosen_45  R25 (fun y2 y3 y4 S => q_X6_relateChosen_36  R25 Q n y2 y3 y4 S) Q n_45 x2 x3 x4 0 S)))
set_option maxRecDepth 100000 in
set_option maxHeartbeats 4000000 in
theorem l_X6_relateChosen_36 {g : Gv}  (R25 : Int32 → Int32 → Sto → Prop) (Q : Sto → Prop) (hR25 : ∀ (y2 : Int32) (y3 : Int32) (S : Sto), R25 y2 y3 S → RJ g cX6_relateChosen RX6 none 6 4 25 [(0, .ref (g.1 + 206)), (1, .ref (g.1 + 1)), (2, .int y2), (3, .int y3)] [] S (Qv Q))  (n : Nat) : ∀ (x2 : Int32) (x3 : Int32) (x4 : Int32) (S : Sto)  (h : q_X6_relateChosen_36  R25 Q n x2 x3 x4 S), RJ g cX6_relateChosen RX6 none 6 4 36 [(0, .ref (g.1 + 206)), (1, .ref (g.1 + 1)), (2, .int x2), (3, .int x3), (4, .int x4)] [] S (Qv Q) := by
  induction n with
  | zero => intro x2 x3 x4 S  h; exact h.elim
  | succ n ih =>
    intro x2 x3 x4 S  h
    unfold q_X6_relateChosen_36 at h
    refine J_iload dX6_relateChosen_36 4 rfl  ?_
    refine J_iload_n dX6_relateChosen_38 rfl 2 rfl  ?_
    refine J_icmp_ge (tgt := 90) dX6_relateChosen_39 (by decide) (fun c_1 => ?_) (fun c_1 => ?_)
    · have h := h.1 c_1
      obtain ⟨x3_2, ex3_2⟩ : ∃ y : Int32, y = x3 + 1 := ⟨_, rfl⟩
      have h := h x3_2 ex3_2
      refine J_iinc (v := x3_2) (lv' := [(0, .ref (g.1 + 206)), (1, .ref (g.1 + 1)), (2, .int x2), (3, .int x3_2), (4, .int x4)]) dX6_relateChosen_90 (q := 3) rfl (by rw [ex3_2]; rfl) (by decide) [1, 2, 3, 0, 4] rfl  ?_
      refine J_goto (tgt := 25) dX6_relateChosen_93 (by decide)  ?_
      refine J_sub (lv' := [(0, .ref (g.1 + 206)), (1, .ref (g.1 + 1)), (2, .int x2), (3, .int x3_2)]) [0, 1, 2, 3] rfl ?_
      exact hR25 _ _ _  h
    · have h := h.2 c_1
      refine J_iconst (v := 0) dX6_relateChosen_42 (by decide)  ?_
      refine J_istore (lv' := [(0, .ref (g.1 + 206)), (1, .ref (g.1 + 1)), (2, .int x2), (3, .int x3), (4, .int x4), (5, .int 0)]) dX6_relateChosen_43 (by decide) [1, 2, 3, 4, 5, 0] rfl  ?_
      obtain ⟨n, h⟩ := h
      exact l_X6_relateChosen_45  _ _ _ hR25 (fun y2 y3 y4 S  h => ih y2 y3 y4 S  h)  n _ _ _ _ _  h
def q_X6_relateChosen_25   (Q : Sto → Prop) : Nat → Int32 → Int32 → Sto → Prop
  | 0, _, _, _ => False
  | n + 1, x2, x3, S => (((S.1 206 4) ≤ x3 → Q S) ∧ (¬ (S.1 206 4) ≤ x3 → (∃ n_36, q_X6_relateChosen_36  (fun y2 y3 S => q_X6_relateChosen_25   Q n y2 y3 S) Q n_36 x2 x3 0 S)))
set_option maxRecDepth 100000 in
set_option maxHeartbeats 4000000 in
theorem l_X6_relateChosen_25 {g : Gv}   (Q : Sto → Prop)   (n : Nat) : ∀ (x2 : Int32) (x3 : Int32) (S : Sto)  (h : q_X6_relateChosen_25   Q n x2 x3 S), RJ g cX6_relateChosen RX6 none 6 4 25 [(0, .ref (g.1 + 206)), (1, .ref (g.1 + 1)), (2, .int x2), (3, .int x3)] [] S (Qv Q) := by
  induction n with
  | zero => intro x2 x3 S  h; exact h.elim
  | succ n ih =>
    intro x2 x3 S  h
    unfold q_X6_relateChosen_25 at h
    refine J_iload_n dX6_relateChosen_25 rfl 3 rfl  ?_
    refine J_aload_n dX6_relateChosen_26 rfl 0 rfl  ?_
    refine J_geti (ci := 4) dX6_relateChosen_27 4 rfl giX6 (by decide) (by decide) rfl rfl tb_1_238 rfl  ?_
    refine J_icmp_ge (tgt := 96) dX6_relateChosen_30 (by decide) (fun c_1 => ?_) (fun c_1 => ?_)
    · have h := h.1 c_1
      exact J_vret dX6_relateChosen_96 rfl ⟨rfl, h⟩
    · have h := h.2 c_1
      refine J_iconst (v := 0) dX6_relateChosen_33 (by decide)  ?_
      refine J_istore (lv' := [(0, .ref (g.1 + 206)), (1, .ref (g.1 + 1)), (2, .int x2), (3, .int x3), (4, .int 0)]) dX6_relateChosen_34 (by decide) [1, 2, 3, 4, 0] rfl  ?_
      obtain ⟨n, h⟩ := h
      exact l_X6_relateChosen_36  _ _ (fun y2 y3 S  h => ih y2 y3 S  h)  n _ _ _ _  h
def wp_X6_relateChosen  (S : Sto) (Q : Sto → Prop) : Prop := wp_X4_width  S (fun r_2 S_1 => wp_X5_begin 274 ((S_1.1 206 3) * r_2) (S_1.1 1 1) 0 S_1 (fun S_3 => (∃ n_25, q_X6_relateChosen_25   Q n_25 r_2 0 S_3)))
set_option maxRecDepth 100000 in
set_option maxHeartbeats 4000000 in
theorem c_X6_relateChosen {g : Gv}   (S : Sto) (Q : Sto → Prop) (h : wp_X6_relateChosen  S Q) : CT g yX6_relateChosen cX6_relateChosen 6 none 4 [.ref (g.1 + 206), .ref (g.1 + 1)] S (Qv Q) := by
  unfold wp_X6_relateChosen at h
  refine CT.of (by decide) (Nat.le_of_ble_eq_true rfl) ?_
  refine J_sub (lv' := [(0, .ref (g.1 + 206)), (1, .ref (g.1 + 1))]) [0, 1] rfl ?_
  refine J_aload_n dX6_relateChosen_0 rfl 1 rfl  ?_
  refine J_callV (h := 1) (ci := 2) (As := []) (rest := []) (n := 0) dX6_relateChosen_1 (c_X4_width   _ _ h) (by decide) rfl tb_2_91 tb_3_179 tb_1_2 tb_2_89 tb_2_90 (by decide) rfl (by decide) (by decide) (Nat.le_of_ble_eq_true rfl) rfl (fun v_r_2 S_1 hq => ?_)
  obtain ⟨r_2, rfl, h⟩ := hq
  dsimp only [Option.toList, List.cons_append, List.nil_append]
  refine J_istore_n (lv' := [(0, .ref (g.1 + 206)), (1, .ref (g.1 + 1)), (2, .int r_2)]) dX6_relateChosen_4 rfl (by decide) [1, 2, 0] rfl  ?_
  refine J_aload_n dX6_relateChosen_5 rfl 0 rfl  ?_
  refine J_getr (r := 274) (ci := 4) dX6_relateChosen_6 1 rfl giX6 (by decide) (by decide) rfl rfl tb_1_235 (by decide) (by decide)  ?_
  refine J_aload_n dX6_relateChosen_9 rfl 0 rfl  ?_
  refine J_geti (ci := 4) dX6_relateChosen_10 3 rfl giX6 (by decide) (by decide) rfl rfl tb_1_237 rfl  ?_
  refine J_iload_n dX6_relateChosen_13 rfl 2 rfl  ?_
  refine J_imul dX6_relateChosen_14  ?_
  refine J_aload_n dX6_relateChosen_15 rfl 1 rfl  ?_
  refine J_geti (ci := 2) dX6_relateChosen_16 1 rfl giX4 (by decide) (by decide) rfl rfl tb_1_40 rfl  ?_
  refine J_iconst (v := 0) dX6_relateChosen_19 (by decide)  ?_
  refine J_callV (h := 274) (ci := 3) (As := [.int ((S_1.1 206 3) * r_2), .int (S_1.1 1 1), .int 0]) (rest := []) (n := 3) dX6_relateChosen_20 (c_X5_begin 274 ((S_1.1 206 3) * r_2) (S_1.1 1 1) 0 (by decide) _ _ h) (by decide) rfl tb_2_149 tb_3_180 tb_1_6 tb_2_147 tb_2_148 (by decide) rfl (by decide) (by decide) (Nat.le_of_ble_eq_true rfl) rfl (fun v_r_4 S_3 hq => ?_)
  obtain ⟨rfl, h⟩ := hq
  dsimp only [Option.toList, List.cons_append, List.nil_append]
  refine J_iconst (v := 0) dX6_relateChosen_23 (by decide)  ?_
  refine J_istore_n (lv' := [(0, .ref (g.1 + 206)), (1, .ref (g.1 + 1)), (2, .int r_2), (3, .int 0)]) dX6_relateChosen_24 rfl (by decide) [1, 2, 3, 0] rfl  ?_
  obtain ⟨n, h⟩ := h
  exact l_X6_relateChosen_25   _   n _ _ _  h
def q_X6_countOf_56 (p2 : Nat) (p3 : Int32)  (Q : Int32 → Sto → Prop) (x4 : Int32) (S : Sto) : Prop := Q x4 S
set_option maxRecDepth 100000 in
set_option maxHeartbeats 4000000 in
theorem l_X6_countOf_56 {g : Gv} (p2 : Nat) (p3 : Int32)  (Q : Int32 → Sto → Prop)  (hp2 : kd p2 = 8) (x4 : Int32) (S : Sto)  (h : q_X6_countOf_56 p2 p3  Q x4 S) : RJ g cX6_countOf RX6 (some .int) 6 6 56 [(0, .ref (g.1 + 206)), (1, .ref (g.1 + 1)), (2, .ref (g.1 + p2)), (3, .int p3), (4, .int x4)] [] S (Qi Q) := by
  unfold q_X6_countOf_56 at h
  refine J_iload dX6_countOf_56 4 rfl  ?_
  exact J_iret dX6_countOf_58 rfl rfl ⟨_, rfl, h⟩
def q_X6_countOf_50 (p2 : Nat) (p3 : Int32) (R15 : Int32 → Int32 → Sto → Prop) (Q : Int32 → Sto → Prop) (x4 : Int32) (x5 : Int32) (S : Sto) : Prop := ∀ x5_1 : Int32, x5_1 = x5 + 1 → R15 x4 x5_1 S
set_option maxRecDepth 100000 in
set_option maxHeartbeats 4000000 in
theorem l_X6_countOf_50 {g : Gv} (p2 : Nat) (p3 : Int32) (R15 : Int32 → Int32 → Sto → Prop) (Q : Int32 → Sto → Prop) (hR15 : ∀ (y4 : Int32) (y5 : Int32) (S : Sto), R15 y4 y5 S → RJ g cX6_countOf RX6 (some .int) 6 6 15 [(0, .ref (g.1 + 206)), (1, .ref (g.1 + 1)), (2, .ref (g.1 + p2)), (3, .int p3), (4, .int y4), (5, .int y5)] [] S (Qi Q)) (hp2 : kd p2 = 8) (x4 : Int32) (x5 : Int32) (S : Sto)  (h : q_X6_countOf_50 p2 p3 R15 Q x4 x5 S) : RJ g cX6_countOf RX6 (some .int) 6 6 50 [(0, .ref (g.1 + 206)), (1, .ref (g.1 + 1)), (2, .ref (g.1 + p2)), (3, .int p3), (4, .int x4), (5, .int x5)] [] S (Qi Q) := by
  unfold q_X6_countOf_50 at h
  obtain ⟨x5_1, ex5_1⟩ : ∃ y : Int32, y = x5 + 1 := ⟨_, rfl⟩
  have h := h x5_1 ex5_1
  refine J_iinc (v := x5_1) (lv' := [(0, .ref (g.1 + 206)), (1, .ref (g.1 + 1)), (2, .ref (g.1 + p2)), (3, .int p3), (4, .int x4), (5, .int x5_1)]) dX6_countOf_50 (q := 5) rfl (by rw [ex5_1]; rfl) (by decide) [1, 2, 3, 4, 5, 0] rfl  ?_
  refine J_goto (tgt := 15) dX6_countOf_53 (by decide)  ?_
  exact hR15 _ _ _  h
def q_X6_countOf_15 (p2 : Nat) (p3 : Int32)  (Q : Int32 → Sto → Prop) : Nat → Int32 → Int32 → Sto → Prop
  | 0, _, _, _ => False
  | n + 1, x4, x5, S => ((p3 < x5 → q_X6_countOf_56 p2 p3  Q x4 S) ∧ (¬ p3 < x5 → ((2 < x5 → q_X6_countOf_56 p2 p3  Q x4 S) ∧ (¬ 2 < x5 → wp_X6_relateChosen  S (fun S_3 => wp_X6_countRelations  S_3 (fun r_6 S_5 => ((p3 ≤ x5 → q_X6_countOf_50 p2 p3 (fun y4 y5 S => q_X6_countOf_15 p2 p3  Q n y4 y5 S) Q r_6 x5 S_5) ∧ (¬ p3 ≤ x5 → wp_X6_chooseRelations  S_5 (fun S_8 => q_X6_countOf_50 p2 p3 (fun y4 y5 S => q_X6_countOf_15 p2 p3  Q n y4 y5 S) Q r_6 x5 S_8)))))))))
set_option maxRecDepth 100000 in
set_option maxHeartbeats 4000000 in
theorem l_X6_countOf_15 {g : Gv} (p2 : Nat) (p3 : Int32)  (Q : Int32 → Sto → Prop)  (hp2 : kd p2 = 8) (n : Nat) : ∀ (x4 : Int32) (x5 : Int32) (S : Sto)  (h : q_X6_countOf_15 p2 p3  Q n x4 x5 S), RJ g cX6_countOf RX6 (some .int) 6 6 15 [(0, .ref (g.1 + 206)), (1, .ref (g.1 + 1)), (2, .ref (g.1 + p2)), (3, .int p3), (4, .int x4), (5, .int x5)] [] S (Qi Q) := by
  induction n with
  | zero => intro x4 x5 S  h; exact h.elim
  | succ n ih =>
    intro x4 x5 S  h
    unfold q_X6_countOf_15 at h
    refine J_iload dX6_countOf_15 5 rfl  ?_
    refine J_iload_n dX6_countOf_17 rfl 3 rfl  ?_
    refine J_icmp_gt (tgt := 56) dX6_countOf_18 (by decide) (fun c_1 => ?_) (fun c_1 => ?_)
    · have h := h.1 c_1
      refine J_sub (lv' := [(0, .ref (g.1 + 206)), (1, .ref (g.1 + 1)), (2, .ref (g.1 + p2)), (3, .int p3), (4, .int x4)]) [0, 1, 2, 3, 4] rfl ?_
      exact l_X6_countOf_56 p2 p3  _  hp2 _ _  h
    · have h := h.2 c_1
      refine J_iload dX6_countOf_21 5 rfl  ?_
      refine J_iconst (v := 2) dX6_countOf_23 (by decide)  ?_
      refine J_icmp_gt (tgt := 56) dX6_countOf_24 (by decide) (fun c_2 => ?_) (fun c_2 => ?_)
      · have h := h.1 c_2
        refine J_sub (lv' := [(0, .ref (g.1 + 206)), (1, .ref (g.1 + 1)), (2, .ref (g.1 + p2)), (3, .int p3), (4, .int x4)]) [0, 1, 2, 3, 4] rfl ?_
        exact l_X6_countOf_56 p2 p3  _  hp2 _ _  h
      · have h := h.2 c_2
        refine J_aload_n dX6_countOf_27 rfl 0 rfl  ?_
        refine J_aload_n dX6_countOf_28 rfl 1 rfl  ?_
        refine J_callV (h := 206) (ci := 4) (As := [.ref (g.1 + 1)]) (rest := []) (n := 1) dX6_countOf_29 (c_X6_relateChosen   _ _ h) (by decide) rfl tb_3_196 tb_3_193 tb_1_7 tb_3_195 sl_20 (by decide) rfl (by decide) (by decide) (Nat.le_of_ble_eq_true rfl) rfl (fun v_r_4 S_3 hq => ?_)
        obtain ⟨rfl, h⟩ := hq
        dsimp only [Option.toList, List.cons_append, List.nil_append]
        refine J_aload_n dX6_countOf_32 rfl 0 rfl  ?_
        refine J_aload_n dX6_countOf_33 rfl 1 rfl  ?_
        refine J_callV (h := 206) (ci := 4) (As := [.ref (g.1 + 1)]) (rest := []) (n := 1) dX6_countOf_34 (c_X6_countRelations   _ _ h) (by decide) rfl tb_3_206 tb_3_203 tb_1_7 tb_3_205 sl_22 (by decide) rfl (by decide) (by decide) (Nat.le_of_ble_eq_true rfl) rfl (fun v_r_6 S_5 hq => ?_)
        obtain ⟨r_6, rfl, h⟩ := hq
        dsimp only [Option.toList, List.cons_append, List.nil_append]
        refine J_istore (lv' := [(0, .ref (g.1 + 206)), (1, .ref (g.1 + 1)), (2, .ref (g.1 + p2)), (3, .int p3), (4, .int r_6), (5, .int x5)]) dX6_countOf_37 (by decide) [1, 2, 3, 4, 0, 5] rfl  ?_
        refine J_iload dX6_countOf_39 5 rfl  ?_
        refine J_iload_n dX6_countOf_41 rfl 3 rfl  ?_
        refine J_icmp_ge (tgt := 50) dX6_countOf_42 (by decide) (fun c_7 => ?_) (fun c_7 => ?_)
        · have h := h.1 c_7
          exact l_X6_countOf_50 p2 p3 _ _ (fun y4 y5 S  h => ih y4 y5 S  h) hp2 _ _ _  h
        · have h := h.2 c_7
          refine J_aload_n dX6_countOf_45 rfl 0 rfl  ?_
          refine J_aload_n dX6_countOf_46 rfl 1 rfl  ?_
          refine J_callV (h := 206) (ci := 4) (As := [.ref (g.1 + 1)]) (rest := []) (n := 1) dX6_countOf_47 (c_X6_chooseRelations   _ _ h) (by decide) rfl tb_3_211 tb_3_208 tb_1_7 tb_3_210 sl_23 (by decide) rfl (by decide) (by decide) (Nat.le_of_ble_eq_true rfl) rfl (fun v_r_9 S_8 hq => ?_)
          obtain ⟨rfl, h⟩ := hq
          dsimp only [Option.toList, List.cons_append, List.nil_append]
          exact l_X6_countOf_50 p2 p3 _ _ (fun y4 y5 S  h => ih y4 y5 S  h) hp2 _ _ _  h
def wp_X6_countOf (p2 : Nat) (p3 : Int32) (S : Sto) (Q : Int32 → Sto → Prop) : Prop := wp_X6_chooseGenerators p2 S (fun S_1 => ∀ x4_3 : Int32, x4_3 = S_1.1 206 3 → (∃ n_15, q_X6_countOf_15 p2 p3  Q n_15 x4_3 1 S_1))
set_option maxRecDepth 100000 in
set_option maxHeartbeats 4000000 in
theorem c_X6_countOf {g : Gv} (p2 : Nat) (p3 : Int32) (hp2 : kd p2 = 8) (S : Sto) (Q : Int32 → Sto → Prop) (h : wp_X6_countOf p2 p3 S Q) : CT g yX6_countOf cX6_countOf 6 (some .int) 6 [.ref (g.1 + 206), .ref (g.1 + 1), .ref (g.1 + p2), .int p3] S (Qi Q) := by
  unfold wp_X6_countOf at h
  refine CT.of (by decide) (Nat.le_of_ble_eq_true rfl) ?_
  refine J_sub (lv' := [(0, .ref (g.1 + 206)), (1, .ref (g.1 + 1)), (2, .ref (g.1 + p2)), (3, .int p3)]) [0, 1, 2, 3] rfl ?_
  refine J_aload_n dX6_countOf_0 rfl 0 rfl  ?_
  refine J_aload_n dX6_countOf_1 rfl 1 rfl  ?_
  refine J_aload_n dX6_countOf_2 rfl 2 rfl  ?_
  refine J_callV (h := 206) (ci := 4) (As := [.ref (g.1 + 1), .ref (g.1 + p2)]) (rest := []) (n := 2) dX6_countOf_3 (c_X6_chooseGenerators p2 hp2 _ _ h) (by decide) rfl tb_3_178 tb_3_175 tb_1_7 tb_3_177 sl_17 (by decide) rfl (by decide) (by decide) (Nat.le_of_ble_eq_true rfl) rfl (fun v_r_2 S_1 hq => ?_)
  obtain ⟨rfl, h⟩ := hq
  dsimp only [Option.toList, List.cons_append, List.nil_append]
  refine J_aload_n dX6_countOf_6 rfl 0 rfl  ?_
  refine J_geti (ci := 4) dX6_countOf_7 3 rfl giX6 (by decide) (by decide) rfl rfl tb_1_237 rfl  ?_
  refine J_topi (fun x4_3 ex4_3 => ?_)
  have h := h x4_3 ex4_3
  refine J_istore (lv' := [(0, .ref (g.1 + 206)), (1, .ref (g.1 + 1)), (2, .ref (g.1 + p2)), (3, .int p3), (4, .int x4_3)]) dX6_countOf_10 (by decide) [1, 2, 3, 4, 0] rfl  ?_
  refine J_iconst (v := 1) dX6_countOf_12 (by decide)  ?_
  refine J_istore (lv' := [(0, .ref (g.1 + 206)), (1, .ref (g.1 + 1)), (2, .ref (g.1 + p2)), (3, .int p3), (4, .int x4_3), (5, .int 1)]) dX6_countOf_13 (by decide) [1, 2, 3, 4, 5, 0] rfl  ?_
  obtain ⟨n, h⟩ := h
  exact l_X6_countOf_15 p2 p3  _  hp2 n _ _ _  h
