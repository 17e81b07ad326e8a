def q_X9_again_106 (p1 : Nat)  (Q : Sto → Prop) : Nat → Int32 → Sto → Prop
  | 0, _, _ => False
  | n + 1, x2, S => ((8 ≤ x2 → Q S) ∧ (¬ 8 ≤ x2 → vp_in (166 + x2) (ln p1) ∧ vp_in x2 (8) ∧ ∀ S_4 : Sto, S_4 = uA S 356 (x2 : Int32).toNatClampNeg (S.1 p1 (166 + x2 : Int32).toNatClampNeg) → vp_in (174 + x2) (ln p1) ∧ vp_in x2 (8) ∧ ∀ S_7 : Sto, S_7 = uA S_4 357 (x2 : Int32).toNatClampNeg (S_4.1 p1 (174 + x2 : Int32).toNatClampNeg) → vp_in (182 + x2) (ln p1) ∧ vp_in x2 (8) ∧ ∀ S_10 : Sto, S_10 = uA S_7 358 (x2 : Int32).toNatClampNeg (S_7.1 p1 (182 + x2 : Int32).toNatClampNeg) → vp_in (190 + x2) (ln p1) ∧ vp_in x2 (8) ∧ ∀ S_13 : Sto, S_13 = uA S_10 359 (x2 : Int32).toNatClampNeg (S_10.1 p1 (190 + x2 : Int32).toNatClampNeg) → ∀ x2_14 : Int32, x2_14 = x2 + 1 → q_X9_again_106 p1  Q n x2_14 S_13))
set_option maxRecDepth 100000 in
set_option maxHeartbeats 4000000 in
theorem l_X9_again_106 {g : Gv} (p1 : Nat)  (Q : Sto → Prop)  (hp1 : kd p1 = 0) (n : Nat) : ∀ (x2 : Int32) (S : Sto)  (h : q_X9_again_106 p1  Q n x2 S), RJ g cX9_again RX9 none 3 1 106 [(0, .ref (g.1 + 353)), (1, .ref (g.1 + p1)), (2, .int x2)] [] S (Qv Q) := by
  induction n with
  | zero => intro x2 S  h; exact h.elim
  | succ n ih =>
    intro x2 S  h
    unfold q_X9_again_106 at h
    refine J_iload_n dX9_again_106 rfl 2 rfl  ?_
    refine J_bipush (v := 8) dX9_again_107 (by decide)  ?_
    refine J_icmp_ge (tgt := 170) dX9_again_109 (by decide) (fun c_1 => ?_) (fun c_1 => ?_)
    · have h := h.1 c_1
      exact J_vret dX9_again_170 rfl ⟨rfl, h⟩
    · have h := h.2 c_1
      refine J_aload_n dX9_again_112 rfl 0 rfl  ?_
      refine J_getr (r := 356) (ci := 7) dX9_again_113 7 rfl giX9 (by decide) (by decide) rfl rfl tb_4_118 (by decide) (by decide)  ?_
      refine J_iload_n dX9_again_116 rfl 2 rfl  ?_
      refine J_aload_n dX9_again_117 rfl 1 rfl  ?_
      refine J_sipush (v := 166) dX9_again_118 (by decide)  ?_
      refine J_iload_n dX9_again_121 rfl 2 rfl  ?_
      refine J_iadd dX9_again_122  ?_
      obtain ⟨hi_2, h⟩ := h
      refine J_iald dX9_again_123 hp1 hi_2  ?_
      obtain ⟨hi_3, h⟩ := h
      refine J_iast dX9_again_124 (by decide) hi_3  ?_
      refine J_nmS (fun S_4 eS_4 => ?_)
      have h := h S_4 eS_4
      refine J_aload_n dX9_again_125 rfl 0 rfl  ?_
      refine J_getr (r := 357) (ci := 7) dX9_again_126 8 rfl giX9 (by decide) (by decide) rfl rfl tb_4_119 (by decide) (by decide)  ?_
      refine J_iload_n dX9_again_129 rfl 2 rfl  ?_
      refine J_aload_n dX9_again_130 rfl 1 rfl  ?_
      refine J_sipush (v := 174) dX9_again_131 (by decide)  ?_
      refine J_iload_n dX9_again_134 rfl 2 rfl  ?_
      refine J_iadd dX9_again_135  ?_
      obtain ⟨hi_5, h⟩ := h
      refine J_iald dX9_again_136 hp1 hi_5  ?_
      obtain ⟨hi_6, h⟩ := h
      refine J_iast dX9_again_137 (by decide) hi_6  ?_
      refine J_nmS (fun S_7 eS_7 => ?_)
      have h := h S_7 eS_7
      refine J_aload_n dX9_again_138 rfl 0 rfl  ?_
      refine J_getr (r := 358) (ci := 7) dX9_again_139 10 rfl giX9 (by decide) (by decide) rfl rfl tb_4_121 (by decide) (by decide)  ?_
      refine J_iload_n dX9_again_142 rfl 2 rfl  ?_
      refine J_aload_n dX9_again_143 rfl 1 rfl  ?_
      refine J_sipush (v := 182) dX9_again_144 (by decide)  ?_
      refine J_iload_n dX9_again_147 rfl 2 rfl  ?_
      refine J_iadd dX9_again_148  ?_
      obtain ⟨hi_8, h⟩ := h
      refine J_iald dX9_again_149 hp1 hi_8  ?_
      obtain ⟨hi_9, h⟩ := h
      refine J_iast dX9_again_150 (by decide) hi_9  ?_
      refine J_nmS (fun S_10 eS_10 => ?_)
      have h := h S_10 eS_10
      refine J_aload_n dX9_again_151 rfl 0 rfl  ?_
      refine J_getr (r := 359) (ci := 7) dX9_again_152 11 rfl giX9 (by decide) (by decide) rfl rfl tb_4_122 (by decide) (by decide)  ?_
      refine J_iload_n dX9_again_155 rfl 2 rfl  ?_
      refine J_aload_n dX9_again_156 rfl 1 rfl  ?_
      refine J_sipush (v := 190) dX9_again_157 (by decide)  ?_
      refine J_iload_n dX9_again_160 rfl 2 rfl  ?_
      refine J_iadd dX9_again_161  ?_
      obtain ⟨hi_11, h⟩ := h
      refine J_iald dX9_again_162 hp1 hi_11  ?_
      obtain ⟨hi_12, h⟩ := h
      refine J_iast dX9_again_163 (by decide) hi_12  ?_
      refine J_nmS (fun S_13 eS_13 => ?_)
      have h := h S_13 eS_13
      obtain ⟨x2_14, ex2_14⟩ : ∃ y : Int32, y = x2 + 1 := ⟨_, rfl⟩
      have h := h x2_14 ex2_14
      refine J_iinc (v := x2_14) (lv' := [(0, .ref (g.1 + 353)), (1, .ref (g.1 + p1)), (2, .int x2_14)]) dX9_again_164 (q := 2) rfl (by rw [ex2_14]; rfl) (by decide) [1, 2, 0] rfl  ?_
      refine J_goto (tgt := 106) dX9_again_167 (by decide)  ?_
      exact ih _ _  h
def q_X9_again_80 (p1 : Nat)  (Q : Sto → Prop) : Nat → Int32 → Sto → Prop
  | 0, _, _ => False
  | n + 1, x2, S => ((64 ≤ x2 → (∃ n_106, q_X9_again_106 p1  Q n_106 0 S)) ∧ (¬ 64 ≤ x2 → vp_in (102 + x2) (ln p1) ∧ vp_in x2 (64) ∧ ∀ S_4 : Sto, S_4 = uA S 355 (x2 : Int32).toNatClampNeg (S.1 p1 (102 + x2 : Int32).toNatClampNeg) → ∀ x2_5 : Int32, x2_5 = x2 + 1 → q_X9_again_80 p1  Q n x2_5 S_4))
set_option maxRecDepth 100000 in
set_option maxHeartbeats 4000000 in
theorem l_X9_again_80 {g : Gv} (p1 : Nat)  (Q : Sto → Prop)  (hp1 : kd p1 = 0) (n : Nat) : ∀ (x2 : Int32) (S : Sto)  (h : q_X9_again_80 p1  Q n x2 S), RJ g cX9_again RX9 none 3 1 80 [(0, .ref (g.1 + 353)), (1, .ref (g.1 + p1)), (2, .int x2)] [] S (Qv Q) := by
  induction n with
  | zero => intro x2 S  h; exact h.elim
  | succ n ih =>
    intro x2 S  h
    unfold q_X9_again_80 at h
    refine J_iload_n dX9_again_80 rfl 2 rfl  ?_
    refine J_bipush (v := 64) dX9_again_81 (by decide)  ?_
    refine J_icmp_ge (tgt := 104) dX9_again_83 (by decide) (fun c_1 => ?_) (fun c_1 => ?_)
    · have h := h.1 c_1
      refine J_iconst (v := 0) dX9_again_104 (by decide)  ?_
      refine J_istore_n (lv' := [(0, .ref (g.1 + 353)), (1, .ref (g.1 + p1)), (2, .int 0)]) dX9_again_105 rfl (by decide) [1, 2, 0] rfl  ?_
      obtain ⟨n, h⟩ := h
      exact l_X9_again_106 p1  _  hp1 n _ _  h
    · have h := h.2 c_1
      refine J_aload_n dX9_again_86 rfl 0 rfl  ?_
      refine J_getr (r := 355) (ci := 7) dX9_again_87 5 rfl giX9 (by decide) (by decide) rfl rfl tb_4_116 (by decide) (by decide)  ?_
      refine J_iload_n dX9_again_90 rfl 2 rfl  ?_
      refine J_aload_n dX9_again_91 rfl 1 rfl  ?_
      refine J_bipush (v := 102) dX9_again_92 (by decide)  ?_
      refine J_iload_n dX9_again_94 rfl 2 rfl  ?_
      refine J_iadd dX9_again_95  ?_
      obtain ⟨hi_2, h⟩ := h
      refine J_iald dX9_again_96 hp1 hi_2  ?_
      obtain ⟨hi_3, h⟩ := h
      refine J_iast dX9_again_97 (by decide) hi_3  ?_
      refine J_nmS (fun S_4 eS_4 => ?_)
      have h := h S_4 eS_4
      obtain ⟨x2_5, ex2_5⟩ : ∃ y : Int32, y = x2 + 1 := ⟨_, rfl⟩
      have h := h x2_5 ex2_5
      refine J_iinc (v := x2_5) (lv' := [(0, .ref (g.1 + 353)), (1, .ref (g.1 + p1)), (2, .int x2_5)]) dX9_again_98 (q := 2) rfl (by rw [ex2_5]; rfl) (by decide) [1, 2, 0] rfl  ?_
      refine J_goto (tgt := 80) dX9_again_101 (by decide)  ?_
      exact ih _ _  h
def q_X9_again_54 (p1 : Nat)  (Q : Sto → Prop) : Nat → Int32 → Sto → Prop
  | 0, _, _ => False
  | n + 1, x2, S => ((96 ≤ x2 → (∃ n_80, q_X9_again_80 p1  Q n_80 0 S)) ∧ (¬ 96 ≤ x2 → vp_in (6 + x2) (ln p1) ∧ vp_in x2 (96) ∧ ∀ S_4 : Sto, S_4 = uA S 354 (x2 : Int32).toNatClampNeg (S.1 p1 (6 + x2 : Int32).toNatClampNeg) → ∀ x2_5 : Int32, x2_5 = x2 + 1 → q_X9_again_54 p1  Q n x2_5 S_4))
set_option maxRecDepth 100000 in
set_option maxHeartbeats 4000000 in
theorem l_X9_again_54 {g : Gv} (p1 : Nat)  (Q : Sto → Prop)  (hp1 : kd p1 = 0) (n : Nat) : ∀ (x2 : Int32) (S : Sto)  (h : q_X9_again_54 p1  Q n x2 S), RJ g cX9_again RX9 none 3 1 54 [(0, .ref (g.1 + 353)), (1, .ref (g.1 + p1)), (2, .int x2)] [] S (Qv Q) := by
  induction n with
  | zero => intro x2 S  h; exact h.elim
  | succ n ih =>
    intro x2 S  h
    unfold q_X9_again_54 at h
    refine J_iload_n dX9_again_54 rfl 2 rfl  ?_
    refine J_bipush (v := 96) dX9_again_55 (by decide)  ?_
    refine J_icmp_ge (tgt := 78) dX9_again_57 (by decide) (fun c_1 => ?_) (fun c_1 => ?_)
    · have h := h.1 c_1
      refine J_iconst (v := 0) dX9_again_78 (by decide)  ?_
      refine J_istore_n (lv' := [(0, .ref (g.1 + 353)), (1, .ref (g.1 + p1)), (2, .int 0)]) dX9_again_79 rfl (by decide) [1, 2, 0] rfl  ?_
      obtain ⟨n, h⟩ := h
      exact l_X9_again_80 p1  _  hp1 n _ _  h
    · have h := h.2 c_1
      refine J_aload_n dX9_again_60 rfl 0 rfl  ?_
      refine J_getr (r := 354) (ci := 7) dX9_again_61 4 rfl giX9 (by decide) (by decide) rfl rfl tb_4_115 (by decide) (by decide)  ?_
      refine J_iload_n dX9_again_64 rfl 2 rfl  ?_
      refine J_aload_n dX9_again_65 rfl 1 rfl  ?_
      refine J_bipush (v := 6) dX9_again_66 (by decide)  ?_
      refine J_iload_n dX9_again_68 rfl 2 rfl  ?_
      refine J_iadd dX9_again_69  ?_
      obtain ⟨hi_2, h⟩ := h
      refine J_iald dX9_again_70 hp1 hi_2  ?_
      obtain ⟨hi_3, h⟩ := h
      refine J_iast dX9_again_71 (by decide) hi_3  ?_
      refine J_nmS (fun S_4 eS_4 => ?_)
      have h := h S_4 eS_4
      obtain ⟨x2_5, ex2_5⟩ : ∃ y : Int32, y = x2 + 1 := ⟨_, rfl⟩
      have h := h x2_5 ex2_5
      refine J_iinc (v := x2_5) (lv' := [(0, .ref (g.1 + 353)), (1, .ref (g.1 + p1)), (2, .int x2_5)]) dX9_again_72 (q := 2) rfl (by rw [ex2_5]; rfl) (by decide) [1, 2, 0] rfl  ?_
      refine J_goto (tgt := 54) dX9_again_75 (by decide)  ?_
      exact ih _ _  h
def wp_X9_again (p1 : Nat) (S : Sto) (Q : Sto → Prop) : Prop := vp_in 0 (ln p1) ∧ ∀ S_2 : Sto, S_2 = uA S 353 0 (S.1 p1 (0 : Int32).toNatClampNeg) → vp_in 1 (ln p1) ∧ ∀ S_4 : Sto, S_4 = uA S_2 353 1 (S_2.1 p1 (1 : Int32).toNatClampNeg) → vp_in 2 (ln p1) ∧ ∀ S_6 : Sto, S_6 = uA S_4 353 2 (S_4.1 p1 (2 : Int32).toNatClampNeg) → vp_in 3 (ln p1) ∧ ∀ S_8 : Sto, S_8 = uA S_6 353 6 (S_6.1 p1 (3 : Int32).toNatClampNeg) → vp_in 4 (ln p1) ∧ ∀ S_10 : Sto, S_10 = uA S_8 353 9 (S_8.1 p1 (4 : Int32).toNatClampNeg) → vp_in 5 (ln p1) ∧ ∀ S_12 : Sto, S_12 = uA S_10 353 12 (S_10.1 p1 (5 : Int32).toNatClampNeg) → ∀ S_13 : Sto, S_13 = uA S_12 353 3 (1 <<< ((S_12.1 353 0) &&& 31)) → (∃ n_54, q_X9_again_54 p1  Q n_54 0 S_13)
set_option maxRecDepth 100000 in
set_option maxHeartbeats 4000000 in
theorem c_X9_again {g : Gv} (p1 : Nat) (hp1 : kd p1 = 0) (S : Sto) (Q : Sto → Prop) (h : wp_X9_again p1 S Q) : CT g yX9_again cX9_again 3 none 1 [.ref (g.1 + 353), .ref (g.1 + p1)] S (Qv Q) := by
  unfold wp_X9_again at h
  refine CT.of (by decide) (Nat.le_of_ble_eq_true rfl) ?_
  refine J_sub (lv' := [(0, .ref (g.1 + 353)), (1, .ref (g.1 + p1))]) [0, 1] rfl ?_
  refine J_aload_n dX9_again_0 rfl 0 rfl  ?_
  refine J_aload_n dX9_again_1 rfl 1 rfl  ?_
  refine J_iconst (v := 0) dX9_again_2 (by decide)  ?_
  obtain ⟨hi_1, h⟩ := h
  refine J_iald dX9_again_3 hp1 hi_1  ?_
  refine J_puti (ci := 7) dX9_again_4 0 rfl giX9 (by decide) (by decide) rfl rfl tyX9 tyX9_ok nmX9 rfl rfl rfl rfl tb_4_111 rfl  ?_
  refine J_nmS (fun S_2 eS_2 => ?_)
  have h := h S_2 eS_2
  refine J_aload_n dX9_again_7 rfl 0 rfl  ?_
  refine J_aload_n dX9_again_8 rfl 1 rfl  ?_
  refine J_iconst (v := 1) dX9_again_9 (by decide)  ?_
  obtain ⟨hi_3, h⟩ := h
  refine J_iald dX9_again_10 hp1 hi_3  ?_
  refine J_puti (ci := 7) dX9_again_11 1 rfl giX9 (by decide) (by decide) rfl rfl tyX9 tyX9_ok nmX9 rfl rfl rfl rfl tb_4_112 rfl  ?_
  refine J_nmS (fun S_4 eS_4 => ?_)
  have h := h S_4 eS_4
  refine J_aload_n dX9_again_14 rfl 0 rfl  ?_
  refine J_aload_n dX9_again_15 rfl 1 rfl  ?_
  refine J_iconst (v := 2) dX9_again_16 (by decide)  ?_
  obtain ⟨hi_5, h⟩ := h
  refine J_iald dX9_again_17 hp1 hi_5  ?_
  refine J_puti (ci := 7) dX9_again_18 2 rfl giX9 (by decide) (by decide) rfl rfl tyX9 tyX9_ok nmX9 rfl rfl rfl rfl tb_4_113 rfl  ?_
  refine J_nmS (fun S_6 eS_6 => ?_)
  have h := h S_6 eS_6
  refine J_aload_n dX9_again_21 rfl 0 rfl  ?_
  refine J_aload_n dX9_again_22 rfl 1 rfl  ?_
  refine J_iconst (v := 3) dX9_again_23 (by decide)  ?_
  obtain ⟨hi_7, h⟩ := h
  refine J_iald dX9_again_24 hp1 hi_7  ?_
  refine J_puti (ci := 7) dX9_again_25 6 rfl giX9 (by decide) (by decide) rfl rfl tyX9 tyX9_ok nmX9 rfl rfl rfl rfl tb_4_117 rfl  ?_
  refine J_nmS (fun S_8 eS_8 => ?_)
  have h := h S_8 eS_8
  refine J_aload_n dX9_again_28 rfl 0 rfl  ?_
  refine J_aload_n dX9_again_29 rfl 1 rfl  ?_
  refine J_iconst (v := 4) dX9_again_30 (by decide)  ?_
  obtain ⟨hi_9, h⟩ := h
  refine J_iald dX9_again_31 hp1 hi_9  ?_
  refine J_puti (ci := 7) dX9_again_32 9 rfl giX9 (by decide) (by decide) rfl rfl tyX9 tyX9_ok nmX9 rfl rfl rfl rfl tb_4_120 rfl  ?_
  refine J_nmS (fun S_10 eS_10 => ?_)
  have h := h S_10 eS_10
  refine J_aload_n dX9_again_35 rfl 0 rfl  ?_
  refine J_aload_n dX9_again_36 rfl 1 rfl  ?_
  refine J_iconst (v := 5) dX9_again_37 (by decide)  ?_
  obtain ⟨hi_11, h⟩ := h
  refine J_iald dX9_again_38 hp1 hi_11  ?_
  refine J_puti (ci := 7) dX9_again_39 12 rfl giX9 (by decide) (by decide) rfl rfl tyX9 tyX9_ok nmX9 rfl rfl rfl rfl tb_4_123 rfl  ?_
  refine J_nmS (fun S_12 eS_12 => ?_)
  have h := h S_12 eS_12
  refine J_aload_n dX9_again_42 rfl 0 rfl  ?_
  refine J_iconst (v := 1) dX9_again_43 (by decide)  ?_
  refine J_aload_n dX9_again_44 rfl 0 rfl  ?_
  refine J_geti (ci := 7) dX9_again_45 0 rfl giX9 (by decide) (by decide) rfl rfl tb_4_111 rfl  ?_
  refine J_ishl dX9_again_48  ?_
  refine J_puti (ci := 7) dX9_again_49 3 rfl giX9 (by decide) (by decide) rfl rfl tyX9 tyX9_ok nmX9 rfl rfl rfl rfl tb_4_114 rfl  ?_
  refine J_nmS (fun S_13 eS_13 => ?_)
  have h := h S_13 eS_13
  refine J_iconst (v := 0) dX9_again_52 (by decide)  ?_
  refine J_istore_n (lv' := [(0, .ref (g.1 + 353)), (1, .ref (g.1 + p1)), (2, .int 0)]) dX9_again_53 rfl (by decide) [1, 2, 0] rfl  ?_
  obtain ⟨n, h⟩ := h
  exact l_X9_again_54 p1  _  hp1 n _ _  h
def q_X9_keepTo_96 (p1 : Nat)  (Q : Sto → Prop) : Nat → Int32 → Sto → Prop
  | 0, _, _ => False
  | n + 1, x2, S => ((8 ≤ x2 → Q S) ∧ (¬ 8 ≤ x2 → vp_in x2 (8) ∧ vp_in (166 + x2) (ln p1) ∧ ∀ S_4 : Sto, S_4 = uA S p1 (166 + x2 : Int32).toNatClampNeg (S.1 356 (x2 : Int32).toNatClampNeg) → vp_in x2 (8) ∧ vp_in (174 + x2) (ln p1) ∧ ∀ S_7 : Sto, S_7 = uA S_4 p1 (174 + x2 : Int32).toNatClampNeg (S_4.1 357 (x2 : Int32).toNatClampNeg) → vp_in x2 (8) ∧ vp_in (182 + x2) (ln p1) ∧ ∀ S_10 : Sto, S_10 = uA S_7 p1 (182 + x2 : Int32).toNatClampNeg (S_7.1 358 (x2 : Int32).toNatClampNeg) → vp_in x2 (8) ∧ vp_in (190 + x2) (ln p1) ∧ ∀ S_13 : Sto, S_13 = uA S_10 p1 (190 + x2 : Int32).toNatClampNeg (S_10.1 359 (x2 : Int32).toNatClampNeg) → ∀ x2_14 : Int32, x2_14 = x2 + 1 → q_X9_keepTo_96 p1  Q n x2_14 S_13))
set_option maxRecDepth 100000 in
set_option maxHeartbeats 4000000 in
theorem l_X9_keepTo_96 {g : Gv} (p1 : Nat)  (Q : Sto → Prop)  (hp1 : kd p1 = 0) (n : Nat) : ∀ (x2 : Int32) (S : Sto)  (h : q_X9_keepTo_96 p1  Q n x2 S), RJ g cX9_keepTo RX9 none 3 1 96 [(0, .ref (g.1 + 353)), (1, .ref (g.1 + p1)), (2, .int x2)] [] S (Qv Q) := by
  induction n with
  | zero => intro x2 S  h; exact h.elim
  | succ n ih =>
    intro x2 S  h
    unfold q_X9_keepTo_96 at h
    refine J_iload_n dX9_keepTo_96 rfl 2 rfl  ?_
    refine J_bipush (v := 8) dX9_keepTo_97 (by decide)  ?_
    refine J_icmp_ge (tgt := 160) dX9_keepTo_99 (by decide) (fun c_1 => ?_) (fun c_1 => ?_)
    · have h := h.1 c_1
      exact J_vret dX9_keepTo_160 rfl ⟨rfl, h⟩
    · have h := h.2 c_1
      refine J_aload_n dX9_keepTo_102 rfl 1 rfl  ?_
      refine J_sipush (v := 166) dX9_keepTo_103 (by decide)  ?_
      refine J_iload_n dX9_keepTo_106 rfl 2 rfl  ?_
      refine J_iadd dX9_keepTo_107  ?_
      refine J_aload_n dX9_keepTo_108 rfl 0 rfl  ?_
      refine J_getr (r := 356) (ci := 7) dX9_keepTo_109 7 rfl giX9 (by decide) (by decide) rfl rfl tb_4_118 (by decide) (by decide)  ?_
      refine J_iload_n dX9_keepTo_112 rfl 2 rfl  ?_
      obtain ⟨hi_2, h⟩ := h
      refine J_iald dX9_keepTo_113 (by decide) hi_2  ?_
      obtain ⟨hi_3, h⟩ := h
      refine J_iast dX9_keepTo_114 hp1 hi_3  ?_
      refine J_nmS (fun S_4 eS_4 => ?_)
      have h := h S_4 eS_4
      refine J_aload_n dX9_keepTo_115 rfl 1 rfl  ?_
      refine J_sipush (v := 174) dX9_keepTo_116 (by decide)  ?_
      refine J_iload_n dX9_keepTo_119 rfl 2 rfl  ?_
      refine J_iadd dX9_keepTo_120  ?_
      refine J_aload_n dX9_keepTo_121 rfl 0 rfl  ?_
      refine J_getr (r := 357) (ci := 7) dX9_keepTo_122 8 rfl giX9 (by decide) (by decide) rfl rfl tb_4_119 (by decide) (by decide)  ?_
      refine J_iload_n dX9_keepTo_125 rfl 2 rfl  ?_
      obtain ⟨hi_5, h⟩ := h
      refine J_iald dX9_keepTo_126 (by decide) hi_5  ?_
      obtain ⟨hi_6, h⟩ := h
      refine J_iast dX9_keepTo_127 hp1 hi_6  ?_
      refine J_nmS (fun S_7 eS_7 => ?_)
      have h := h S_7 eS_7
      refine J_aload_n dX9_keepTo_128 rfl 1 rfl  ?_
      refine J_sipush (v := 182) dX9_keepTo_129 (by decide)  ?_
      refine J_iload_n dX9_keepTo_132 rfl 2 rfl  ?_
      refine J_iadd dX9_keepTo_133  ?_
      refine J_aload_n dX9_keepTo_134 rfl 0 rfl  ?_
      refine J_getr (r := 358) (ci := 7) dX9_keepTo_135 10 rfl giX9 (by decide) (by decide) rfl rfl tb_4_121 (by decide) (by decide)  ?_
      refine J_iload_n dX9_keepTo_138 rfl 2 rfl  ?_
      obtain ⟨hi_8, h⟩ := h
      refine J_iald dX9_keepTo_139 (by decide) hi_8  ?_
      obtain ⟨hi_9, h⟩ := h
      refine J_iast dX9_keepTo_140 hp1 hi_9  ?_
      refine J_nmS (fun S_10 eS_10 => ?_)
      have h := h S_10 eS_10
      refine J_aload_n dX9_keepTo_141 rfl 1 rfl  ?_
      refine J_sipush (v := 190) dX9_keepTo_142 (by decide)  ?_
      refine J_iload_n dX9_keepTo_145 rfl 2 rfl  ?_
      refine J_iadd dX9_keepTo_146  ?_
      refine J_aload_n dX9_keepTo_147 rfl 0 rfl  ?_
      refine J_getr (r := 359) (ci := 7) dX9_keepTo_148 11 rfl giX9 (by decide) (by decide) rfl rfl tb_4_122 (by decide) (by decide)  ?_
      refine J_iload_n dX9_keepTo_151 rfl 2 rfl  ?_
      obtain ⟨hi_11, h⟩ := h
      refine J_iald dX9_keepTo_152 (by decide) hi_11  ?_
      obtain ⟨hi_12, h⟩ := h
      refine J_iast dX9_keepTo_153 hp1 hi_12  ?_
      refine J_nmS (fun S_13 eS_13 => ?_)
      have h := h S_13 eS_13
      obtain ⟨x2_14, ex2_14⟩ : ∃ y : Int32, y = x2 + 1 := ⟨_, rfl⟩
      have h := h x2_14 ex2_14
      refine J_iinc (v := x2_14) (lv' := [(0, .ref (g.1 + 353)), (1, .ref (g.1 + p1)), (2, .int x2_14)]) dX9_keepTo_154 (q := 2) rfl (by rw [ex2_14]; rfl) (by decide) [1, 2, 0] rfl  ?_
      refine J_goto (tgt := 96) dX9_keepTo_157 (by decide)  ?_
      exact ih _ _  h
def q_X9_keepTo_70 (p1 : Nat)  (Q : Sto → Prop) : Nat → Int32 → Sto → Prop
  | 0, _, _ => False
  | n + 1, x2, S => ((64 ≤ x2 → (∃ n_96, q_X9_keepTo_96 p1  Q n_96 0 S)) ∧ (¬ 64 ≤ x2 → vp_in x2 (64) ∧ vp_in (102 + x2) (ln p1) ∧ ∀ S_4 : Sto, S_4 = uA S p1 (102 + x2 : Int32).toNatClampNeg (S.1 355 (x2 : Int32).toNatClampNeg) → ∀ x2_5 : Int32, x2_5 = x2 + 1 → q_X9_keepTo_70 p1  Q n x2_5 S_4))
set_option maxRecDepth 100000 in
set_option maxHeartbeats 4000000 in
theorem l_X9_keepTo_70 {g : Gv} (p1 : Nat)  (Q : Sto → Prop)  (hp1 : kd p1 = 0) (n : Nat) : ∀ (x2 : Int32) (S : Sto)  (h : q_X9_keepTo_70 p1  Q n x2 S), RJ g cX9_keepTo RX9 none 3 1 70 [(0, .ref (g.1 + 353)), (1, .ref (g.1 + p1)), (2, .int x2)] [] S (Qv Q) := by
  induction n with
  | zero => intro x2 S  h; exact h.elim
  | succ n ih =>
    intro x2 S  h
    unfold q_X9_keepTo_70 at h
    refine J_iload_n dX9_keepTo_70 rfl 2 rfl  ?_
    refine J_bipush (v := 64) dX9_keepTo_71 (by decide)  ?_
    refine J_icmp_ge (tgt := 94) dX9_keepTo_73 (by decide) (fun c_1 => ?_) (fun c_1 => ?_)
    · have h := h.1 c_1
      refine J_iconst (v := 0) dX9_keepTo_94 (by decide)  ?_
      refine J_istore_n (lv' := [(0, .ref (g.1 + 353)), (1, .ref (g.1 + p1)), (2, .int 0)]) dX9_keepTo_95 rfl (by decide) [1, 2, 0] rfl  ?_
      obtain ⟨n, h⟩ := h
      exact l_X9_keepTo_96 p1  _  hp1 n _ _  h
    · have h := h.2 c_1
      refine J_aload_n dX9_keepTo_76 rfl 1 rfl  ?_
      refine J_bipush (v := 102) dX9_keepTo_77 (by decide)  ?_
      refine J_iload_n dX9_keepTo_79 rfl 2 rfl  ?_
      refine J_iadd dX9_keepTo_80  ?_
      refine J_aload_n dX9_keepTo_81 rfl 0 rfl  ?_
      refine J_getr (r := 355) (ci := 7) dX9_keepTo_82 5 rfl giX9 (by decide) (by decide) rfl rfl tb_4_116 (by decide) (by decide)  ?_
      refine J_iload_n dX9_keepTo_85 rfl 2 rfl  ?_
      obtain ⟨hi_2, h⟩ := h
      refine J_iald dX9_keepTo_86 (by decide) hi_2  ?_
      obtain ⟨hi_3, h⟩ := h
      refine J_iast dX9_keepTo_87 hp1 hi_3  ?_
      refine J_nmS (fun S_4 eS_4 => ?_)
      have h := h S_4 eS_4
      obtain ⟨x2_5, ex2_5⟩ : ∃ y : Int32, y = x2 + 1 := ⟨_, rfl⟩
      have h := h x2_5 ex2_5
      refine J_iinc (v := x2_5) (lv' := [(0, .ref (g.1 + 353)), (1, .ref (g.1 + p1)), (2, .int x2_5)]) dX9_keepTo_88 (q := 2) rfl (by rw [ex2_5]; rfl) (by decide) [1, 2, 0] rfl  ?_
      refine J_goto (tgt := 70) dX9_keepTo_91 (by decide)  ?_
      exact ih _ _  h
def q_X9_keepTo_44 (p1 : Nat)  (Q : Sto → Prop) : Nat → Int32 → Sto → Prop
  | 0, _, _ => False
  | n + 1, x2, S => ((96 ≤ x2 → (∃ n_70, q_X9_keepTo_70 p1  Q n_70 0 S)) ∧ (¬ 96 ≤ x2 → vp_in x2 (96) ∧ vp_in (6 + x2) (ln p1) ∧ ∀ S_4 : Sto, S_4 = uA S p1 (6 + x2 : Int32).toNatClampNeg (S.1 354 (x2 : Int32).toNatClampNeg) → ∀ x2_5 : Int32, x2_5 = x2 + 1 → q_X9_keepTo_44 p1  Q n x2_5 S_4))
set_option maxRecDepth 100000 in
set_option maxHeartbeats 4000000 in
theorem l_X9_keepTo_44 {g : Gv} (p1 : Nat)  (Q : Sto → Prop)  (hp1 : kd p1 = 0) (n : Nat) : ∀ (x2 : Int32) (S : Sto)  (h : q_X9_keepTo_44 p1  Q n x2 S), RJ g cX9_keepTo RX9 none 3 1 44 [(0, .ref (g.1 + 353)), (1, .ref (g.1 + p1)), (2, .int x2)] [] S (Qv Q) := by
  induction n with
  | zero => intro x2 S  h; exact h.elim
  | succ n ih =>
    intro x2 S  h
    unfold q_X9_keepTo_44 at h
    refine J_iload_n dX9_keepTo_44 rfl 2 rfl  ?_
    refine J_bipush (v := 96) dX9_keepTo_45 (by decide)  ?_
    refine J_icmp_ge (tgt := 68) dX9_keepTo_47 (by decide) (fun c_1 => ?_) (fun c_1 => ?_)
    · have h := h.1 c_1
      refine J_iconst (v := 0) dX9_keepTo_68 (by decide)  ?_
      refine J_istore_n (lv' := [(0, .ref (g.1 + 353)), (1, .ref (g.1 + p1)), (2, .int 0)]) dX9_keepTo_69 rfl (by decide) [1, 2, 0] rfl  ?_
      obtain ⟨n, h⟩ := h
      exact l_X9_keepTo_70 p1  _  hp1 n _ _  h
    · have h := h.2 c_1
      refine J_aload_n dX9_keepTo_50 rfl 1 rfl  ?_
      refine J_bipush (v := 6) dX9_keepTo_51 (by decide)  ?_
      refine J_iload_n dX9_keepTo_53 rfl 2 rfl  ?_
      refine J_iadd dX9_keepTo_54  ?_
      refine J_aload_n dX9_keepTo_55 rfl 0 rfl  ?_
      refine J_getr (r := 354) (ci := 7) dX9_keepTo_56 4 rfl giX9 (by decide) (by decide) rfl rfl tb_4_115 (by decide) (by decide)  ?_
      refine J_iload_n dX9_keepTo_59 rfl 2 rfl  ?_
      obtain ⟨hi_2, h⟩ := h
      refine J_iald dX9_keepTo_60 (by decide) hi_2  ?_
      obtain ⟨hi_3, h⟩ := h
      refine J_iast dX9_keepTo_61 hp1 hi_3  ?_
      refine J_nmS (fun S_4 eS_4 => ?_)
      have h := h S_4 eS_4
      obtain ⟨x2_5, ex2_5⟩ : ∃ y : Int32, y = x2 + 1 := ⟨_, rfl⟩
      have h := h x2_5 ex2_5
      refine J_iinc (v := x2_5) (lv' := [(0, .ref (g.1 + 353)), (1, .ref (g.1 + p1)), (2, .int x2_5)]) dX9_keepTo_62 (q := 2) rfl (by rw [ex2_5]; rfl) (by decide) [1, 2, 0] rfl  ?_
      refine J_goto (tgt := 44) dX9_keepTo_65 (by decide)  ?_
      exact ih _ _  h
def wp_X9_keepTo (p1 : Nat) (S : Sto) (Q : Sto → Prop) : Prop := vp_in 0 (ln p1) ∧ ∀ S_2 : Sto, S_2 = uA S p1 (0 : Int32).toNatClampNeg (S.1 353 0) → vp_in 1 (ln p1) ∧ ∀ S_4 : Sto, S_4 = uA S_2 p1 (1 : Int32).toNatClampNeg (S_2.1 353 1) → vp_in 2 (ln p1) ∧ ∀ S_6 : Sto, S_6 = uA S_4 p1 (2 : Int32).toNatClampNeg (S_4.1 353 2) → vp_in 3 (ln p1) ∧ ∀ S_8 : Sto, S_8 = uA S_6 p1 (3 : Int32).toNatClampNeg (S_6.1 353 6) → vp_in 4 (ln p1) ∧ ∀ S_10 : Sto, S_10 = uA S_8 p1 (4 : Int32).toNatClampNeg (S_8.1 353 9) → vp_in 5 (ln p1) ∧ ∀ S_12 : Sto, S_12 = uA S_10 p1 (5 : Int32).toNatClampNeg (S_10.1 353 12) → (∃ n_44, q_X9_keepTo_44 p1  Q n_44 0 S_12)
set_option maxRecDepth 100000 in
set_option maxHeartbeats 4000000 in
theorem c_X9_keepTo {g : Gv} (p1 : Nat) (hp1 : kd p1 = 0) (S : Sto) (Q : Sto → Prop) (h : wp_X9_keepTo p1 S Q) : CT g yX9_keepTo cX9_keepTo 3 none 1 [.ref (g.1 + 353), .ref (g.1 + p1)] S (Qv Q) := by
  unfold wp_X9_keepTo at h
  refine CT.of (by decide) (Nat.le_of_ble_eq_true rfl) ?_
  refine J_sub (lv' := [(0, .ref (g.1 + 353)), (1, .ref (g.1 + p1))]) [0, 1] rfl ?_
  refine J_aload_n dX9_keepTo_0 rfl 1 rfl  ?_
  refine J_iconst (v := 0) dX9_keepTo_1 (by decide)  ?_
  refine J_aload_n dX9_keepTo_2 rfl 0 rfl  ?_
  refine J_geti (ci := 7) dX9_keepTo_3 0 rfl giX9 (by decide) (by decide) rfl rfl tb_4_111 rfl  ?_
  obtain ⟨hi_1, h⟩ := h
  refine J_iast dX9_keepTo_6 hp1 hi_1  ?_
  refine J_nmS (fun S_2 eS_2 => ?_)
  have h := h S_2 eS_2
  refine J_aload_n dX9_keepTo_7 rfl 1 rfl  ?_
  refine J_iconst (v := 1) dX9_keepTo_8 (by decide)  ?_
  refine J_aload_n dX9_keepTo_9 rfl 0 rfl  ?_
  refine J_geti (ci := 7) dX9_keepTo_10 1 rfl giX9 (by decide) (by decide) rfl rfl tb_4_112 rfl  ?_
  obtain ⟨hi_3, h⟩ := h
  refine J_iast dX9_keepTo_13 hp1 hi_3  ?_
  refine J_nmS (fun S_4 eS_4 => ?_)
  have h := h S_4 eS_4
  refine J_aload_n dX9_keepTo_14 rfl 1 rfl  ?_
  refine J_iconst (v := 2) dX9_keepTo_15 (by decide)  ?_
  refine J_aload_n dX9_keepTo_16 rfl 0 rfl  ?_
  refine J_geti (ci := 7) dX9_keepTo_17 2 rfl giX9 (by decide) (by decide) rfl rfl tb_4_113 rfl  ?_
  obtain ⟨hi_5, h⟩ := h
  refine J_iast dX9_keepTo_20 hp1 hi_5  ?_
  refine J_nmS (fun S_6 eS_6 => ?_)
  have h := h S_6 eS_6
  refine J_aload_n dX9_keepTo_21 rfl 1 rfl  ?_
  refine J_iconst (v := 3) dX9_keepTo_22 (by decide)  ?_
  refine J_aload_n dX9_keepTo_23 rfl 0 rfl  ?_
  refine J_geti (ci := 7) dX9_keepTo_24 6 rfl giX9 (by decide) (by decide) rfl rfl tb_4_117 rfl  ?_
  obtain ⟨hi_7, h⟩ := h
  refine J_iast dX9_keepTo_27 hp1 hi_7  ?_
  refine J_nmS (fun S_8 eS_8 => ?_)
  have h := h S_8 eS_8
  refine J_aload_n dX9_keepTo_28 rfl 1 rfl  ?_
  refine J_iconst (v := 4) dX9_keepTo_29 (by decide)  ?_
  refine J_aload_n dX9_keepTo_30 rfl 0 rfl  ?_
  refine J_geti (ci := 7) dX9_keepTo_31 9 rfl giX9 (by decide) (by decide) rfl rfl tb_4_120 rfl  ?_
  obtain ⟨hi_9, h⟩ := h
  refine J_iast dX9_keepTo_34 hp1 hi_9  ?_
  refine J_nmS (fun S_10 eS_10 => ?_)
  have h := h S_10 eS_10
  refine J_aload_n dX9_keepTo_35 rfl 1 rfl  ?_
  refine J_iconst (v := 5) dX9_keepTo_36 (by decide)  ?_
  refine J_aload_n dX9_keepTo_37 rfl 0 rfl  ?_
  refine J_geti (ci := 7) dX9_keepTo_38 12 rfl giX9 (by decide) (by decide) rfl rfl tb_4_123 rfl  ?_
  obtain ⟨hi_11, h⟩ := h
  refine J_iast dX9_keepTo_41 hp1 hi_11  ?_
  refine J_nmS (fun S_12 eS_12 => ?_)
  have h := h S_12 eS_12
  refine J_iconst (v := 0) dX9_keepTo_42 (by decide)  ?_
  refine J_istore_n (lv' := [(0, .ref (g.1 + 353)), (1, .ref (g.1 + p1)), (2, .int 0)]) dX9_keepTo_43 rfl (by decide) [1, 2, 0] rfl  ?_
  obtain ⟨n, h⟩ := h
  exact l_X9_keepTo_44 p1  _  hp1 n _ _  h
def q_X9_after_19 (p1 : Int32) (p2 : Int32)  (Q : Int32 → Sto → Prop)  (S : Sto) : Prop := Q ((-1)) S
set_option maxRecDepth 100000 in
set_option maxHeartbeats 4000000 in
theorem l_X9_after_19 {g : Gv} (p1 : Int32) (p2 : Int32)  (Q : Int32 → Sto → Prop)    (S : Sto)  (h : q_X9_after_19 p1 p2  Q  S) : RJ g cX9_after RX9 (some .int) 4 6 19 [(0, .ref (g.1 + 353)), (1, .int p1), (2, .int p2)] [] S (Qi Q) := by
  unfold q_X9_after_19 at h
  refine J_iconst (v := (-1)) dX9_after_19 (by decide)  ?_
  exact J_iret dX9_after_20 rfl rfl ⟨_, rfl, h⟩
def q_X9_after_93 (p1 : Int32) (p2 : Int32)  (Q : Int32 → Sto → Prop) (t0 : Int32) (S : Sto) : Prop := wp_X9_again 365 S (fun S_1 => Q t0 S_1)
set_option maxRecDepth 100000 in
set_option maxHeartbeats 4000000 in
theorem l_X9_after_93 {g : Gv} (p1 : Int32) (p2 : Int32)  (Q : Int32 → Sto → Prop)   (t0 : Int32) (S : Sto)  (h : q_X9_after_93 p1 p2  Q t0 S) : RJ g cX9_after RX9 (some .int) 4 6 93 [(0, .ref (g.1 + 353)), (1, .int p1), (2, .int p2)] [.int t0] S (Qi Q) := by
  unfold q_X9_after_93 at h
  refine J_istore_n (lv' := [(0, .ref (g.1 + 353)), (1, .int p1), (2, .int p2), (3, .int t0)]) dX9_after_93 rfl (by decide) [1, 2, 3, 0] rfl  ?_
  refine J_aload_n dX9_after_94 rfl 0 rfl  ?_
  refine J_aload_n dX9_after_95 rfl 0 rfl  ?_
  refine J_getr (r := 365) (ci := 7) dX9_after_96 20 rfl giX9 (by decide) (by decide) rfl rfl tb_4_131 (by decide) (by decide)  ?_
  refine J_callV (h := 353) (ci := 7) (As := [.ref (g.1 + 365)]) (rest := []) (n := 1) dX9_after_99 (c_X9_again 365 (by decide) _ _ h) (by decide) rfl tb_6_75 tb_6_72 tb_1_8 tb_6_74 sl_63 (by decide) rfl (by decide) (by decide) (Nat.le_of_ble_eq_true rfl) rfl (fun v_r_2 S_1 hq => ?_)
  obtain ⟨rfl, h⟩ := hq
  dsimp only [Option.toList, List.cons_append, List.nil_append]
  refine J_iload_n dX9_after_102 rfl 3 rfl  ?_
  exact J_iret dX9_after_103 rfl rfl ⟨_, rfl, h⟩
def q_X9_after_31 (p1 : Int32) (p2 : Int32)  (Q : Int32 → Sto → Prop) : Nat → Int32 → Sto → Prop
  | 0, _, _ => False
  | n + 1, x3, S => (((S.1 353 9) ≤ x3 → wp_X9_spans p1 S (fun S_2 => ((¬ p2 = 0 → ((¬ p2 = 1 → q_X9_after_93 p1 p2  Q (S_2.1 353 6) S_2) ∧ (p2 = 1 → wp_X9_firstLead  S_2 (fun r_7 S_6 => q_X9_after_93 p1 p2  Q r_7 S_6)))) ∧ (p2 = 0 → q_X9_after_93 p1 p2  Q (S_2.1 353 25) S_2)))) ∧ (¬ (S.1 353 9) ≤ x3 → vp_in x3 (8) ∧ vp_in x3 (8) ∧ wp_X9_happens (S.1 356 (x3 : Int32).toNatClampNeg) (S.1 357 (x3 : Int32).toNatClampNeg) S (fun S_10 => ∀ x3_12 : Int32, x3_12 = x3 + 1 → q_X9_after_31 p1 p2  Q n x3_12 S_10)))
set_option maxRecDepth 100000 in
set_option maxHeartbeats 4000000 in
theorem l_X9_after_31 {g : Gv} (p1 : Int32) (p2 : Int32)  (Q : Int32 → Sto → Prop)   (n : Nat) : ∀ (x3 : Int32) (S : Sto)  (h : q_X9_after_31 p1 p2  Q n x3 S), RJ g cX9_after RX9 (some .int) 4 6 31 [(0, .ref (g.1 + 353)), (1, .int p1), (2, .int p2), (3, .int x3)] [] S (Qi Q) := by
  induction n with
  | zero => intro x3 S  h; exact h.elim
  | succ n ih =>
    intro x3 S  h
    unfold q_X9_after_31 at h
    refine J_iload_n dX9_after_31 rfl 3 rfl  ?_
    refine J_aload_n dX9_after_32 rfl 0 rfl  ?_
    refine J_geti (ci := 7) dX9_after_33 9 rfl giX9 (by decide) (by decide) rfl rfl tb_4_120 rfl  ?_
    refine J_icmp_ge (tgt := 61) dX9_after_36 (by decide) (fun c_1 => ?_) (fun c_1 => ?_)
    · have h := h.1 c_1
      refine J_aload_n dX9_after_61 rfl 0 rfl  ?_
      refine J_iload_n dX9_after_62 rfl 1 rfl  ?_
      refine J_callV (h := 353) (ci := 7) (As := [.int p1]) (rest := []) (n := 1) dX9_after_63 (c_X9_spans p1  _ _ h) (by decide) rfl tb_5_64 tb_5_61 tb_1_8 tb_5_63 sl_33 (by decide) rfl (by decide) (by decide) (Nat.le_of_ble_eq_true rfl) rfl (fun v_r_3 S_2 hq => ?_)
      obtain ⟨rfl, h⟩ := hq
      dsimp only [Option.toList, List.cons_append, List.nil_append]
      refine J_iload_n dX9_after_66 rfl 2 rfl  ?_
      refine J_if_ne (tgt := 77) dX9_after_67 (by decide) (fun c_4 => ?_) (fun c_4 => ?_)
      · have h := h.1 c_4
        refine J_iload_n dX9_after_77 rfl 2 rfl  ?_
        refine J_iconst (v := 1) dX9_after_78 (by decide)  ?_
        refine J_icmp_ne (tgt := 89) dX9_after_79 (by decide) (fun c_5 => ?_) (fun c_5 => ?_)
        · have h := h.1 c_5
          refine J_aload_n dX9_after_89 rfl 0 rfl  ?_
          refine J_geti (ci := 7) dX9_after_90 6 rfl giX9 (by decide) (by decide) rfl rfl tb_4_117 rfl  ?_
          refine J_sub (lv' := [(0, .ref (g.1 + 353)), (1, .int p1), (2, .int p2)]) [0, 1, 2] rfl ?_
          exact l_X9_after_93 p1 p2  _   _ _  h
        · have h := h.2 c_5
          refine J_aload_n dX9_after_82 rfl 0 rfl  ?_
          refine J_callV (h := 353) (ci := 7) (As := []) (rest := []) (n := 0) dX9_after_83 (c_X9_firstLead   _ _ h) (by decide) rfl tb_6_27 tb_6_24 tb_1_8 tb_6_26 sl_57 (by decide) rfl (by decide) (by decide) (Nat.le_of_ble_eq_true rfl) rfl (fun v_r_7 S_6 hq => ?_)
          obtain ⟨r_7, rfl, h⟩ := hq
          dsimp only [Option.toList, List.cons_append, List.nil_append]
          refine J_goto (tgt := 93) dX9_after_86 (by decide)  ?_
          refine J_sub (lv' := [(0, .ref (g.1 + 353)), (1, .int p1), (2, .int p2)]) [0, 1, 2] rfl ?_
          exact l_X9_after_93 p1 p2  _   _ _  h
      · have h := h.2 c_4
        refine J_aload_n dX9_after_70 rfl 0 rfl  ?_
        refine J_geti (ci := 7) dX9_after_71 25 rfl giX9 (by decide) (by decide) rfl rfl tb_4_136 rfl  ?_
        refine J_goto (tgt := 93) dX9_after_74 (by decide)  ?_
        refine J_sub (lv' := [(0, .ref (g.1 + 353)), (1, .int p1), (2, .int p2)]) [0, 1, 2] rfl ?_
        exact l_X9_after_93 p1 p2  _   _ _  h
    · have h := h.2 c_1
      refine J_aload_n dX9_after_39 rfl 0 rfl  ?_
      refine J_aload_n dX9_after_40 rfl 0 rfl  ?_
      refine J_getr (r := 356) (ci := 7) dX9_after_41 7 rfl giX9 (by decide) (by decide) rfl rfl tb_4_118 (by decide) (by decide)  ?_
      refine J_iload_n dX9_after_44 rfl 3 rfl  ?_
      obtain ⟨hi_8, h⟩ := h
      refine J_iald dX9_after_45 (by decide) hi_8  ?_
      refine J_aload_n dX9_after_46 rfl 0 rfl  ?_
      refine J_getr (r := 357) (ci := 7) dX9_after_47 8 rfl giX9 (by decide) (by decide) rfl rfl tb_4_119 (by decide) (by decide)  ?_
      refine J_iload_n dX9_after_50 rfl 3 rfl  ?_
      obtain ⟨hi_9, h⟩ := h
      refine J_iald dX9_after_51 (by decide) hi_9  ?_
      refine J_callV (h := 353) (ci := 7) (As := [.int (S.1 356 (x3 : Int32).toNatClampNeg), .int (S.1 357 (x3 : Int32).toNatClampNeg)]) (rest := []) (n := 2) dX9_after_52 (c_X9_happens (S.1 356 (x3 : Int32).toNatClampNeg) (S.1 357 (x3 : Int32).toNatClampNeg)  _ _ h) (by decide) rfl tb_6_71 tb_6_68 tb_1_8 tb_6_70 sl_62 (by decide) rfl (by decide) (by decide) (Nat.le_of_ble_eq_true rfl) rfl (fun v_r_11 S_10 hq => ?_)
      obtain ⟨rfl, h⟩ := hq
      dsimp only [Option.toList, List.cons_append, List.nil_append]
      obtain ⟨x3_12, ex3_12⟩ : ∃ y : Int32, y = x3 + 1 := ⟨_, rfl⟩
      have h := h x3_12 ex3_12
      refine J_iinc (v := x3_12) (lv' := [(0, .ref (g.1 + 353)), (1, .int p1), (2, .int p2), (3, .int x3_12)]) dX9_after_55 (q := 3) rfl (by rw [ex3_12]; rfl) (by decide) [1, 2, 3, 0] rfl  ?_
      refine J_goto (tgt := 31) dX9_after_58 (by decide)  ?_
      exact ih _ _  h
def wp_X9_after (p1 : Int32) (p2 : Int32) (S : Sto) (Q : Int32 → Sto → Prop) : Prop := wp_X9_isSide p1 S (fun r_2 S_1 => ((r_2 = 0 → q_X9_after_19 p1 p2  Q  S_1) ∧ (¬ r_2 = 0 → wp_X9_in ((p2 : Int32).toInt64) 0 2 S_1 (fun r_5 S_4 => ((¬ r_5 = 0 → wp_X9_keepTo 365 S_4 (fun S_7 => (∃ n_31, q_X9_after_31 p1 p2  Q n_31 0 S_7))) ∧ (r_5 = 0 → q_X9_after_19 p1 p2  Q  S_4))))))
set_option maxRecDepth 100000 in
set_option maxHeartbeats 4000000 in
theorem c_X9_after {g : Gv} (p1 : Int32) (p2 : Int32)  (S : Sto) (Q : Int32 → Sto → Prop) (h : wp_X9_after p1 p2 S Q) : CT g yX9_after cX9_after 4 (some .int) 6 [.ref (g.1 + 353), .int p1, .int p2] S (Qi Q) := by
  unfold wp_X9_after at h
  refine CT.of (by decide) (Nat.le_of_ble_eq_true rfl) ?_
  refine J_sub (lv' := [(0, .ref (g.1 + 353)), (1, .int p1), (2, .int p2)]) [0, 1, 2] rfl ?_
  refine J_iload_n dX9_after_0 rfl 1 rfl  ?_
  refine J_callS (As := [.int p1]) (rest := []) (n := 1) dX9_after_1 (c_X9_isSide p1  _ _ h) tb_5_188 tb_5_186 tb_1_8 tb_5_187 (by decide) rfl (by decide) (by decide) (Nat.le_of_ble_eq_true rfl) rfl (fun v_r_2 S_1 hq => ?_)
  obtain ⟨r_2, rfl, h⟩ := hq
  dsimp only [Option.toList, List.cons_append, List.nil_append]
  refine J_if_eq (tgt := 19) dX9_after_4 (by decide) (fun c_3 => ?_) (fun c_3 => ?_)
  · have h := h.1 c_3
    exact l_X9_after_19 p1 p2  _    _  h
  · have h := h.2 c_3
    refine J_iload_n dX9_after_7 rfl 2 rfl  ?_
    refine J_i2l dX9_after_8  ?_
    refine J_lconst (v := 0) dX9_after_9 (by decide)  ?_
    refine J_ldc2 (v := 2) dX9_after_10 tb_5_5  ?_
    refine J_callS (As := [.long ((p2 : Int32).toInt64), .long 0, .long 2]) (rest := []) (n := 3) dX9_after_13 (c_X9_in ((p2 : Int32).toInt64) 0 2  _ _ h) tb_5_9 tb_5_7 tb_1_8 tb_5_8 (by decide) rfl (by decide) (by decide) (Nat.le_of_ble_eq_true rfl) rfl (fun v_r_5 S_4 hq => ?_)
    obtain ⟨r_5, rfl, h⟩ := hq
    dsimp only [Option.toList, List.cons_append, List.nil_append]
    refine J_if_ne (tgt := 21) dX9_after_16 (by decide) (fun c_6 => ?_) (fun c_6 => ?_)
    · have h := h.1 c_6
      refine J_aload_n dX9_after_21 rfl 0 rfl  ?_
      refine J_aload_n dX9_after_22 rfl 0 rfl  ?_
      refine J_getr (r := 365) (ci := 7) dX9_after_23 20 rfl giX9 (by decide) (by decide) rfl rfl tb_4_131 (by decide) (by decide)  ?_
      refine J_callV (h := 353) (ci := 7) (As := [.ref (g.1 + 365)]) (rest := []) (n := 1) dX9_after_26 (c_X9_keepTo 365 (by decide) _ _ h) (by decide) rfl tb_6_67 tb_6_64 tb_1_8 tb_6_66 sl_61 (by decide) rfl (by decide) (by decide) (Nat.le_of_ble_eq_true rfl) rfl (fun v_r_8 S_7 hq => ?_)
      obtain ⟨rfl, h⟩ := hq
      dsimp only [Option.toList, List.cons_append, List.nil_append]
      refine J_iconst (v := 0) dX9_after_29 (by decide)  ?_
      refine J_istore_n (lv' := [(0, .ref (g.1 + 353)), (1, .int p1), (2, .int p2), (3, .int 0)]) dX9_after_30 rfl (by decide) [1, 2, 3, 0] rfl  ?_
      obtain ⟨n, h⟩ := h
      exact l_X9_after_31 p1 p2  _   n _ _  h
    · have h := h.2 c_6
      exact l_X9_after_19 p1 p2  _    _  h
def q_X9_isSpot_28 (p1 : Int32)  (Q : Int32 → Sto → Prop) (t0 : Int32) (S : Sto) : Prop := narrow .boolean (.int t0) = .int t0 ∧ Q t0 S
set_option maxRecDepth 100000 in
set_option maxHeartbeats 4000000 in
theorem l_X9_isSpot_28 {g : Gv} (p1 : Int32)  (Q : Int32 → Sto → Prop)   (t0 : Int32) (S : Sto)  (h : q_X9_isSpot_28 p1  Q t0 S) : RJ g cX9_isSpot RX9 (some .boolean) 2 3 28 [(0, .ref (g.1 + 353)), (1, .int p1)] [.int t0] S (Qi Q) := by
  unfold q_X9_isSpot_28 at h
  obtain ⟨hb, h⟩ := h
  exact J_iret dX9_isSpot_28 rfl hb ⟨_, rfl, h⟩
def q_X9_isSpot_27 (p1 : Int32)  (Q : Int32 → Sto → Prop)  (S : Sto) : Prop := q_X9_isSpot_28 p1  Q 0 S
set_option maxRecDepth 100000 in
set_option maxHeartbeats 4000000 in
theorem l_X9_isSpot_27 {g : Gv} (p1 : Int32)  (Q : Int32 → Sto → Prop)    (S : Sto)  (h : q_X9_isSpot_27 p1  Q  S) : RJ g cX9_isSpot RX9 (some .boolean) 2 3 27 [(0, .ref (g.1 + 353)), (1, .int p1)] [] S (Qi Q) := by
  unfold q_X9_isSpot_27 at h
  refine J_iconst (v := 0) dX9_isSpot_27 (by decide)  ?_
  exact l_X9_isSpot_28 p1  _   _ _  h
def wp_X9_isSpot (p1 : Int32) (S : Sto) (Q : Int32 → Sto → Prop) : Prop := wp_X9_in ((p1 : Int32).toInt64) 0 599 S (fun r_2 S_1 => ((r_2 = 0 → q_X9_isSpot_27 p1  Q  S_1) ∧ (¬ r_2 = 0 → wp_X9_isPlace (p1 - p1 / 100 * 100) S_1 (fun r_5 S_4 => ((r_5 = 0 → q_X9_isSpot_27 p1  Q  S_4) ∧ (¬ r_5 = 0 → q_X9_isSpot_28 p1  Q 1 S_4))))))
set_option maxRecDepth 100000 in
set_option maxHeartbeats 4000000 in
theorem c_X9_isSpot {g : Gv} (p1 : Int32)  (S : Sto) (Q : Int32 → Sto → Prop) (h : wp_X9_isSpot p1 S Q) : CT g yX9_isSpot cX9_isSpot 2 (some .boolean) 3 [.ref (g.1 + 353), .int p1] S (Qi Q) := by
  unfold wp_X9_isSpot at h
  refine CT.of (by decide) (Nat.le_of_ble_eq_true rfl) ?_
  refine J_sub (lv' := [(0, .ref (g.1 + 353)), (1, .int p1)]) [0, 1] rfl ?_
  refine J_iload_n dX9_isSpot_0 rfl 1 rfl  ?_
  refine J_i2l dX9_isSpot_1  ?_
  refine J_lconst (v := 0) dX9_isSpot_2 (by decide)  ?_
  refine J_ldc2 (v := 599) dX9_isSpot_3 tb_6_84  ?_
  refine J_callS (As := [.long ((p1 : Int32).toInt64), .long 0, .long 599]) (rest := []) (n := 3) dX9_isSpot_6 (c_X9_in ((p1 : Int32).toInt64) 0 599  _ _ h) tb_5_9 tb_5_7 tb_1_8 tb_5_8 (by decide) rfl (by decide) (by decide) (Nat.le_of_ble_eq_true rfl) rfl (fun v_r_2 S_1 hq => ?_)
  obtain ⟨r_2, rfl, h⟩ := hq
  dsimp only [Option.toList, List.cons_append, List.nil_append]
  refine J_if_eq (tgt := 27) dX9_isSpot_9 (by decide) (fun c_3 => ?_) (fun c_3 => ?_)
  · have h := h.1 c_3
    exact l_X9_isSpot_27 p1  _    _  h
  · have h := h.2 c_3
    refine J_aload_n dX9_isSpot_12 rfl 0 rfl  ?_
    refine J_iload_n dX9_isSpot_13 rfl 1 rfl  ?_
    refine J_bipush (v := 100) dX9_isSpot_14 (by decide)  ?_
    refine J_irem dX9_isSpot_16 (by decide)  ?_
    refine J_callV (h := 353) (ci := 7) (As := [.int (p1 - p1 / 100 * 100)]) (rest := []) (n := 1) dX9_isSpot_17 (c_X9_isPlace (p1 - p1 / 100 * 100)  _ _ h) (by decide) rfl tb_5_33 tb_5_30 tb_1_8 tb_5_32 sl_29 (by decide) rfl (by decide) (by decide) (Nat.le_of_ble_eq_true rfl) rfl (fun v_r_5 S_4 hq => ?_)
    obtain ⟨r_5, rfl, h⟩ := hq
    dsimp only [Option.toList, List.cons_append, List.nil_append]
    refine J_if_eq (tgt := 27) dX9_isSpot_20 (by decide) (fun c_6 => ?_) (fun c_6 => ?_)
    · have h := h.1 c_6
      exact l_X9_isSpot_27 p1  _    _  h
    · have h := h.2 c_6
      refine J_iconst (v := 1) dX9_isSpot_23 (by decide)  ?_
      refine J_goto (tgt := 28) dX9_isSpot_24 (by decide)  ?_
      exact l_X9_isSpot_28 p1  _   _ _  h
def wp_X9_book (p1 : Int32) (p2 : Int32) (S : Sto) (Q : Int32 → Sto → Prop) : Prop := ((¬ p1 = ((-1)) → wp_X9_isSpot p1 S (fun r_3 S_2 => ((¬ r_3 = 0 → wp_X9_in ((p2 : Int32).toInt64) 0 6 S_2 (fun r_6 S_5 => ((¬ r_6 = 0 → ((¬ (S_5.1 353 12) = 8 → vp_in (S_5.1 353 12) (8) ∧ ∀ S_10 : Sto, S_10 = uA S_5 358 (S_5.1 353 12 : Int32).toNatClampNeg p1 → vp_in (S_10.1 353 12) (8) ∧ ∀ S_12 : Sto, S_12 = uA S_10 359 (S_10.1 353 12 : Int32).toNatClampNeg p2 → ∀ S_13 : Sto, S_13 = uA S_12 353 12 ((S_12.1 353 12) + 1) → Q (S_13.1 353 12) S_13) ∧ ((S_5.1 353 12) = 8 → Q ((-4)) S_5))) ∧ (r_6 = 0 → Q ((-2)) S_5)))) ∧ (r_3 = 0 → Q ((-1)) S_2)))) ∧ (p1 = ((-1)) → ∀ S_14 : Sto, S_14 = uA S 353 12 0 → Q 0 S_14))
set_option maxRecDepth 100000 in
set_option maxHeartbeats 4000000 in
theorem c_X9_book {g : Gv} (p1 : Int32) (p2 : Int32)  (S : Sto) (Q : Int32 → Sto → Prop) (h : wp_X9_book p1 p2 S Q) : CT g yX9_book cX9_book 3 (some .int) 4 [.ref (g.1 + 353), .int p1, .int p2] S (Qi Q) := by
  unfold wp_X9_book at h
  refine CT.of (by decide) (Nat.le_of_ble_eq_true rfl) ?_
  refine J_sub (lv' := [(0, .ref (g.1 + 353)), (1, .int p1), (2, .int p2)]) [0, 1, 2] rfl ?_
  refine J_iload_n dX9_book_0 rfl 1 rfl  ?_
  refine J_iconst (v := (-1)) dX9_book_1 (by decide)  ?_
  refine J_icmp_ne (tgt := 12) dX9_book_2 (by decide) (fun c_1 => ?_) (fun c_1 => ?_)
  · have h := h.1 c_1
    refine J_aload_n dX9_book_12 rfl 0 rfl  ?_
    refine J_iload_n dX9_book_13 rfl 1 rfl  ?_
    refine J_callV (h := 353) (ci := 7) (As := [.int p1]) (rest := []) (n := 1) dX9_book_14 (c_X9_isSpot p1  _ _ h) (by decide) rfl tb_6_83 tb_6_80 tb_1_8 tb_6_82 sl_64 (by decide) rfl (by decide) (by decide) (Nat.le_of_ble_eq_true rfl) rfl (fun v_r_3 S_2 hq => ?_)
    obtain ⟨r_3, rfl, h⟩ := hq
    dsimp only [Option.toList, List.cons_append, List.nil_append]
    refine J_if_ne (tgt := 22) dX9_book_17 (by decide) (fun c_4 => ?_) (fun c_4 => ?_)
    · have h := h.1 c_4
      refine J_iload_n dX9_book_22 rfl 2 rfl  ?_
      refine J_i2l dX9_book_23  ?_
      refine J_lconst (v := 0) dX9_book_24 (by decide)  ?_
      refine J_ldc2 (v := 6) dX9_book_25 tb_6_85  ?_
      refine J_callS (As := [.long ((p2 : Int32).toInt64), .long 0, .long 6]) (rest := []) (n := 3) dX9_book_28 (c_X9_in ((p2 : Int32).toInt64) 0 6  _ _ h) tb_5_9 tb_5_7 tb_1_8 tb_5_8 (by decide) rfl (by decide) (by decide) (Nat.le_of_ble_eq_true rfl) rfl (fun v_r_6 S_5 hq => ?_)
      obtain ⟨r_6, rfl, h⟩ := hq
      dsimp only [Option.toList, List.cons_append, List.nil_append]
      refine J_if_ne (tgt := 37) dX9_book_31 (by decide) (fun c_7 => ?_) (fun c_7 => ?_)
      · have h := h.1 c_7
        refine J_aload_n dX9_book_37 rfl 0 rfl  ?_
        refine J_geti (ci := 7) dX9_book_38 12 rfl giX9 (by decide) (by decide) rfl rfl tb_4_123 rfl  ?_
        refine J_bipush (v := 8) dX9_book_41 (by decide)  ?_
        refine J_icmp_ne (tgt := 49) dX9_book_43 (by decide) (fun c_8 => ?_) (fun c_8 => ?_)
        · have h := h.1 c_8
          refine J_aload_n dX9_book_49 rfl 0 rfl  ?_
          refine J_getr (r := 358) (ci := 7) dX9_book_50 10 rfl giX9 (by decide) (by decide) rfl rfl tb_4_121 (by decide) (by decide)  ?_
          refine J_aload_n dX9_book_53 rfl 0 rfl  ?_
          refine J_geti (ci := 7) dX9_book_54 12 rfl giX9 (by decide) (by decide) rfl rfl tb_4_123 rfl  ?_
          refine J_iload_n dX9_book_57 rfl 1 rfl  ?_
          obtain ⟨hi_9, h⟩ := h
          refine J_iast dX9_book_58 (by decide) hi_9  ?_
          refine J_nmS (fun S_10 eS_10 => ?_)
          have h := h S_10 eS_10
          refine J_aload_n dX9_book_59 rfl 0 rfl  ?_
          refine J_getr (r := 359) (ci := 7) dX9_book_60 11 rfl giX9 (by decide) (by decide) rfl rfl tb_4_122 (by decide) (by decide)  ?_
          refine J_aload_n dX9_book_63 rfl 0 rfl  ?_
          refine J_geti (ci := 7) dX9_book_64 12 rfl giX9 (by decide) (by decide) rfl rfl tb_4_123 rfl  ?_
          refine J_iload_n dX9_book_67 rfl 2 rfl  ?_
          obtain ⟨hi_11, h⟩ := h
          refine J_iast dX9_book_68 (by decide) hi_11  ?_
          refine J_nmS (fun S_12 eS_12 => ?_)
          have h := h S_12 eS_12
          refine J_aload_n dX9_book_69 rfl 0 rfl  ?_
          refine J_dup dX9_book_70 rfl  ?_
          refine J_geti (ci := 7) dX9_book_71 12 rfl giX9 (by decide) (by decide) rfl rfl tb_4_123 rfl  ?_
          refine J_iconst (v := 1) dX9_book_74 (by decide)  ?_
          refine J_iadd dX9_book_75  ?_
          refine J_puti (ci := 7) dX9_book_76 12 rfl giX9 (by decide) (by decide) rfl rfl tyX9 tyX9_ok nmX9 rfl rfl rfl rfl tb_4_123 rfl  ?_
          refine J_nmS (fun S_13 eS_13 => ?_)
          have h := h S_13 eS_13
          refine J_aload_n dX9_book_79 rfl 0 rfl  ?_
          refine J_geti (ci := 7) dX9_book_80 12 rfl giX9 (by decide) (by decide) rfl rfl tb_4_123 rfl  ?_
          exact J_iret dX9_book_83 rfl rfl ⟨_, rfl, h⟩
        · have h := h.2 c_8
          refine J_bipush (v := (-4)) dX9_book_46 (by decide)  ?_
          exact J_iret dX9_book_48 rfl rfl ⟨_, rfl, h⟩
      · have h := h.2 c_7
        refine J_bipush (v := (-2)) dX9_book_34 (by decide)  ?_
        exact J_iret dX9_book_36 rfl rfl ⟨_, rfl, h⟩
    · have h := h.2 c_4
      refine J_iconst (v := (-1)) dX9_book_20 (by decide)  ?_
      exact J_iret dX9_book_21 rfl rfl ⟨_, rfl, h⟩
  · have h := h.2 c_1
    refine J_aload_n dX9_book_5 rfl 0 rfl  ?_
    refine J_iconst (v := 0) dX9_book_6 (by decide)  ?_
    refine J_puti (ci := 7) dX9_book_7 12 rfl giX9 (by decide) (by decide) rfl rfl tyX9 tyX9_ok nmX9 rfl rfl rfl rfl tb_4_123 rfl  ?_
    refine J_nmS (fun S_14 eS_14 => ?_)
    have h := h S_14 eS_14
    refine J_iconst (v := 0) dX9_book_10 (by decide)  ?_
    exact J_iret dX9_book_11 rfl rfl ⟨_, rfl, h⟩
def q_X9_looked_54   (Q : Int32 → Sto → Prop) (x1 : Int32) (S : Sto) : Prop := Q x1 S
set_option maxRecDepth 100000 in
set_option maxHeartbeats 4000000 in
theorem l_X9_looked_54 {g : Gv}   (Q : Int32 → Sto → Prop)   (x1 : Int32) (S : Sto)  (h : q_X9_looked_54   Q x1 S) : RJ g cX9_looked RX9 (some .int) 3 3 54 [(0, .ref (g.1 + 353)), (1, .int x1)] [] S (Qi Q) := by
  unfold q_X9_looked_54 at h
  refine J_iload_n dX9_looked_54 rfl 1 rfl  ?_
  exact J_iret dX9_looked_55 rfl rfl ⟨_, rfl, h⟩
def q_X9_looked_2   (Q : Int32 → Sto → Prop) : Nat → Int32 → Sto → Prop
  | 0, _, _ => False
  | n + 1, x1, S => (((S.1 353 12) ≤ x1 → Q ((-5)) S) ∧ (¬ (S.1 353 12) ≤ x1 → vp_in x1 (8) ∧ ∀ x2_3 : Int32, x2_3 = S.1 358 (x1 : Int32).toNatClampNeg → wp_X9_isPlace (x2_3 - x2_3 / 100 * 100) S (fun r_5 S_4 => ((r_5 = 0 → q_X9_looked_54   Q x1 S_4) ∧ (¬ r_5 = 0 → vp_in ((16 * (x2_3 / 100)) + (x2_3 - x2_3 / 100 * 100)) (96) ∧ vp_in x1 (8) ∧ (((S_4.1 354 ((16 * (x2_3 / 100)) + (x2_3 - x2_3 / 100 * 100) : Int32).toNatClampNeg) = (S_4.1 359 (x1 : Int32).toNatClampNeg) → ∀ x1_10 : Int32, x1_10 = x1 + 1 → q_X9_looked_2   Q n x1_10 S_4) ∧ (¬ (S_4.1 354 ((16 * (x2_3 / 100)) + (x2_3 - x2_3 / 100 * 100) : Int32).toNatClampNeg) = (S_4.1 359 (x1 : Int32).toNatClampNeg) → q_X9_looked_54   Q x1 S_4)))))))
set_option maxRecDepth 100000 in
set_option maxHeartbeats 4000000 in
theorem l_X9_looked_2 {g : Gv}   (Q : Int32 → Sto → Prop)   (n : Nat) : ∀ (x1 : Int32) (S : Sto)  (h : q_X9_looked_2   Q n x1 S), RJ g cX9_looked RX9 (some .int) 3 3 2 [(0, .ref (g.1 + 353)), (1, .int x1)] [] S (Qi Q) := by
  induction n with
  | zero => intro x1 S  h; exact h.elim
  | succ n ih =>
    intro x1 S  h
    unfold q_X9_looked_2 at h
    refine J_iload_n dX9_looked_2 rfl 1 rfl  ?_
    refine J_aload_n dX9_looked_3 rfl 0 rfl  ?_
    refine J_geti (ci := 7) dX9_looked_4 12 rfl giX9 (by decide) (by decide) rfl rfl tb_4_123 rfl  ?_
    refine J_icmp_ge (tgt := 62) dX9_looked_7 (by decide) (fun c_1 => ?_) (fun c_1 => ?_)
    · have h := h.1 c_1
      refine J_bipush (v := (-5)) dX9_looked_62 (by decide)  ?_
      exact J_iret dX9_looked_64 rfl rfl ⟨_, rfl, h⟩
    · have h := h.2 c_1
      refine J_aload_n dX9_looked_10 rfl 0 rfl  ?_
      refine J_getr (r := 358) (ci := 7) dX9_looked_11 10 rfl giX9 (by decide) (by decide) rfl rfl tb_4_121 (by decide) (by decide)  ?_
      refine J_iload_n dX9_looked_14 rfl 1 rfl  ?_
      obtain ⟨hi_2, h⟩ := h
      refine J_iald dX9_looked_15 (by decide) hi_2  ?_
      refine J_topi (fun x2_3 ex2_3 => ?_)
      have h := h x2_3 ex2_3
      refine J_istore_n (lv' := [(0, .ref (g.1 + 353)), (1, .int x1), (2, .int x2_3)]) dX9_looked_16 rfl (by decide) [1, 2, 0] rfl  ?_
      refine J_aload_n dX9_looked_17 rfl 0 rfl  ?_
      refine J_iload_n dX9_looked_18 rfl 2 rfl  ?_
      refine J_bipush (v := 100) dX9_looked_19 (by decide)  ?_
      refine J_irem dX9_looked_21 (by decide)  ?_
      refine J_callV (h := 353) (ci := 7) (As := [.int (x2_3 - x2_3 / 100 * 100)]) (rest := []) (n := 1) dX9_looked_22 (c_X9_isPlace (x2_3 - x2_3 / 100 * 100)  _ _ h) (by decide) rfl tb_5_33 tb_5_30 tb_1_8 tb_5_32 sl_29 (by decide) rfl (by decide) (by decide) (Nat.le_of_ble_eq_true rfl) rfl (fun v_r_5 S_4 hq => ?_)
      obtain ⟨r_5, rfl, h⟩ := hq
      dsimp only [Option.toList, List.cons_append, List.nil_append]
      refine J_if_eq (tgt := 54) dX9_looked_25 (by decide) (fun c_6 => ?_) (fun c_6 => ?_)
      · have h := h.1 c_6
        refine J_sub (lv' := [(0, .ref (g.1 + 353)), (1, .int x1)]) [0, 1] rfl ?_
        exact l_X9_looked_54   _   _ _  h
      · have h := h.2 c_6
        refine J_aload_n dX9_looked_28 rfl 0 rfl  ?_
        refine J_getr (r := 354) (ci := 7) dX9_looked_29 4 rfl giX9 (by decide) (by decide) rfl rfl tb_4_115 (by decide) (by decide)  ?_
        refine J_bipush (v := 16) dX9_looked_32 (by decide)  ?_
        refine J_iload_n dX9_looked_34 rfl 2 rfl  ?_
        refine J_bipush (v := 100) dX9_looked_35 (by decide)  ?_
        refine J_idiv dX9_looked_37 (by decide)  ?_
        refine J_imul dX9_looked_38  ?_
        refine J_iload_n dX9_looked_39 rfl 2 rfl  ?_
        refine J_bipush (v := 100) dX9_looked_40 (by decide)  ?_
        refine J_irem dX9_looked_42 (by decide)  ?_
        refine J_iadd dX9_looked_43  ?_
        obtain ⟨hi_7, h⟩ := h
        refine J_iald dX9_looked_44 (by decide) hi_7  ?_
        refine J_aload_n dX9_looked_45 rfl 0 rfl  ?_
        refine J_getr (r := 359) (ci := 7) dX9_looked_46 11 rfl giX9 (by decide) (by decide) rfl rfl tb_4_122 (by decide) (by decide)  ?_
        refine J_iload_n dX9_looked_49 rfl 1 rfl  ?_
        obtain ⟨hi_8, h⟩ := h
        refine J_iald dX9_looked_50 (by decide) hi_8  ?_
        refine J_icmp_eq (tgt := 56) dX9_looked_51 (by decide) (fun c_9 => ?_) (fun c_9 => ?_)
        · have h := h.1 c_9
          obtain ⟨x1_10, ex1_10⟩ : ∃ y : Int32, y = x1 + 1 := ⟨_, rfl⟩
          have h := h x1_10 ex1_10
          refine J_iinc (v := x1_10) (lv' := [(0, .ref (g.1 + 353)), (1, .int x1_10), (2, .int x2_3)]) dX9_looked_56 (q := 1) rfl (by rw [ex1_10]; rfl) (by decide) [1, 0, 2] rfl  ?_
          refine J_goto (tgt := 2) dX9_looked_59 (by decide)  ?_
          refine J_sub (lv' := [(0, .ref (g.1 + 353)), (1, .int x1_10)]) [0, 1] rfl ?_
          exact ih _ _  h
        · have h := h.2 c_9
          refine J_sub (lv' := [(0, .ref (g.1 + 353)), (1, .int x1)]) [0, 1] rfl ?_
          exact l_X9_looked_54   _   _ _  h
def wp_X9_looked  (S : Sto) (Q : Int32 → Sto → Prop) : Prop := (∃ n_2, q_X9_looked_2   Q n_2 0 S)
set_option maxRecDepth 100000 in
set_option maxHeartbeats 4000000 in
theorem c_X9_looked {g : Gv}   (S : Sto) (Q : Int32 → Sto → Prop) (h : wp_X9_looked  S Q) : CT g yX9_looked cX9_looked 3 (some .int) 3 [.ref (g.1 + 353)] S (Qi Q) := by
  unfold wp_X9_looked at h
  refine CT.of (by decide) (Nat.le_of_ble_eq_true rfl) ?_
  refine J_sub (lv' := [(0, .ref (g.1 + 353))]) [0] rfl ?_
  refine J_iconst (v := 0) dX9_looked_0 (by decide)  ?_
  refine J_istore_n (lv' := [(0, .ref (g.1 + 353)), (1, .int 0)]) dX9_looked_1 rfl (by decide) [1, 0] rfl  ?_
  obtain ⟨n, h⟩ := h
  exact l_X9_looked_2   _   n _ _  h
def wp_X9_isTape (p0 : Int32) (S : Sto) (Q : Int32 → Sto → Prop) : Prop := wp_X9_in ((p0 : Int32).toInt64) 0 5 S (fun r_2 S_1 => narrow .boolean (.int r_2) = .int r_2 ∧ Q r_2 S_1)
set_option maxRecDepth 100000 in
set_option maxHeartbeats 4000000 in
theorem c_X9_isTape {g : Gv} (p0 : Int32)  (S : Sto) (Q : Int32 → Sto → Prop) (h : wp_X9_isTape p0 S Q) : CT g yX9_isTape cX9_isTape 1 (some .boolean) 2 [.int p0] S (Qi Q) := by
  unfold wp_X9_isTape at h
  refine CT.of (by decide) (Nat.le_of_ble_eq_true rfl) ?_
  refine J_sub (lv' := [(0, .int p0)]) [0] rfl ?_
  refine J_iload_n dX9_isTape_0 rfl 0 rfl  ?_
  refine J_i2l dX9_isTape_1  ?_
  refine J_lconst (v := 0) dX9_isTape_2 (by decide)  ?_
  refine J_ldc2 (v := 5) dX9_isTape_3 tb_5_29  ?_
  refine J_callS (As := [.long ((p0 : Int32).toInt64), .long 0, .long 5]) (rest := []) (n := 3) dX9_isTape_6 (c_X9_in ((p0 : Int32).toInt64) 0 5  _ _ h) tb_5_9 tb_5_7 tb_1_8 tb_5_8 (by decide) rfl (by decide) (by decide) (Nat.le_of_ble_eq_true rfl) rfl (fun v_r_2 S_1 hq => ?_)
  obtain ⟨r_2, rfl, h⟩ := hq
  dsimp only [Option.toList, List.cons_append, List.nil_append]
  obtain ⟨hb, h⟩ := h
  exact J_iret dX9_isTape_9 rfl hb ⟨_, rfl, h⟩
def q_X9_judge_14 (p1 : Int32) (p2 : Int32) (p3 : Int32)  (Q : Int32 → Sto → Prop)  (S : Sto) : Prop := Q ((-1)) S
set_option maxRecDepth 100000 in
set_option maxHeartbeats 4000000 in
theorem l_X9_judge_14 {g : Gv} (p1 : Int32) (p2 : Int32) (p3 : Int32)  (Q : Int32 → Sto → Prop)    (S : Sto)  (h : q_X9_judge_14 p1 p2 p3  Q  S) : RJ g cX9_judge RX9 (some .int) 5 3 14 [(0, .ref (g.1 + 353)), (1, .int p1), (2, .int p2), (3, .int p3)] [] S (Qi Q) := by
  unfold q_X9_judge_14 at h
  refine J_iconst (v := (-1)) dX9_judge_14 (by decide)  ?_
  exact J_iret dX9_judge_15 rfl rfl ⟨_, rfl, h⟩
def q_X9_judge_70 (p1 : Int32) (p2 : Int32) (p3 : Int32)  (Q : Int32 → Sto → Prop) (x4 : Int32) (S : Sto) : Prop := Q (100 + x4) S
set_option maxRecDepth 100000 in
set_option maxHeartbeats 4000000 in
theorem l_X9_judge_70 {g : Gv} (p1 : Int32) (p2 : Int32) (p3 : Int32)  (Q : Int32 → Sto → Prop)   (x4 : Int32) (S : Sto)  (h : q_X9_judge_70 p1 p2 p3  Q x4 S) : RJ g cX9_judge RX9 (some .int) 5 3 70 [(0, .ref (g.1 + 353)), (1, .int p1), (2, .int p2), (3, .int p3), (4, .int x4)] [] S (Qi Q) := by
  unfold q_X9_judge_70 at h
  refine J_bipush (v := 100) dX9_judge_70 (by decide)  ?_
  refine J_iload dX9_judge_72 4 rfl  ?_
  refine J_iadd dX9_judge_74  ?_
  exact J_iret dX9_judge_75 rfl rfl ⟨_, rfl, h⟩
def q_X9_judge_31 (p1 : Int32) (p2 : Int32) (p3 : Int32)  (Q : Int32 → Sto → Prop) : Nat → Int32 → Sto → Prop
  | 0, _, _ => False
  | n + 1, x4, S => (((S.1 353 3) ≤ x4 → Q ((-5)) S) ∧ (¬ (S.1 353 3) ≤ x4 → vp_in p2 (6) ∧ (((S.1 362 (p2 : Int32).toNatClampNeg) < 0 → q_X9_judge_70 p1 p2 p3  Q x4 S) ∧ (¬ (S.1 362 (p2 : Int32).toNatClampNeg) < 0 → ((p3 < 0 → q_X9_judge_70 p1 p2 p3  Q x4 S) ∧ (¬ p3 < 0 → vp_in p2 (6) ∧ (((lg_cmp (((p3 : Int32).toInt64) + ((x4 : Int32).toInt64)) ((S.1 363 (p2 : Int32).toNatClampNeg : Int32).toInt64)) < 0 → vp_in (((60 * p2) + p3) + x4) (360) ∧ vp_in ((16 * p1) + x4) (96) ∧ (((lg_cmp (S.2 361 (((60 * p2) + p3) + x4 : Int32).toNatClampNeg) ((S.1 354 ((16 * p1) + x4 : Int32).toNatClampNeg : Int32).toInt64)) = 0 → ∀ x4_10 : Int32, x4_10 = x4 + 1 → q_X9_judge_31 p1 p2 p3  Q n x4_10 S) ∧ (¬ (lg_cmp (S.2 361 (((60 * p2) + p3) + x4 : Int32).toNatClampNeg) ((S.1 354 ((16 * p1) + x4 : Int32).toNatClampNeg : Int32).toInt64)) = 0 → Q x4 S))) ∧ (¬ (lg_cmp (((p3 : Int32).toInt64) + ((x4 : Int32).toInt64)) ((S.1 363 (p2 : Int32).toNatClampNeg : Int32).toInt64)) < 0 → q_X9_judge_70 p1 p2 p3  Q x4 S))))))))
set_option maxRecDepth 100000 in
set_option maxHeartbeats 4000000 in
theorem l_X9_judge_31 {g : Gv} (p1 : Int32) (p2 : Int32) (p3 : Int32)  (Q : Int32 → Sto → Prop)   (n : Nat) : ∀ (x4 : Int32) (S : Sto)  (h : q_X9_judge_31 p1 p2 p3  Q n x4 S), RJ g cX9_judge RX9 (some .int) 5 3 31 [(0, .ref (g.1 + 353)), (1, .int p1), (2, .int p2), (3, .int p3), (4, .int x4)] [] S (Qi Q) := by
  induction n with
  | zero => intro x4 S  h; exact h.elim
  | succ n ih =>
    intro x4 S  h
    unfold q_X9_judge_31 at h
    refine J_iload dX9_judge_31 4 rfl  ?_
    refine J_aload_n dX9_judge_33 rfl 0 rfl  ?_
    refine J_geti (ci := 7) dX9_judge_34 3 rfl giX9 (by decide) (by decide) rfl rfl tb_4_114 rfl  ?_
    refine J_icmp_ge (tgt := 116) dX9_judge_37 (by decide) (fun c_1 => ?_) (fun c_1 => ?_)
    · have h := h.1 c_1
      refine J_bipush (v := (-5)) dX9_judge_116 (by decide)  ?_
      exact J_iret dX9_judge_118 rfl rfl ⟨_, rfl, h⟩
    · have h := h.2 c_1
      refine J_aload_n dX9_judge_40 rfl 0 rfl  ?_
      refine J_getr (r := 362) (ci := 7) dX9_judge_41 17 rfl giX9 (by decide) (by decide) rfl rfl tb_4_128 (by decide) (by decide)  ?_
      refine J_iload_n dX9_judge_44 rfl 2 rfl  ?_
      obtain ⟨hi_2, h⟩ := h
      refine J_iald dX9_judge_45 (by decide) hi_2  ?_
      refine J_if_lt (tgt := 70) dX9_judge_46 (by decide) (fun c_3 => ?_) (fun c_3 => ?_)
      · have h := h.1 c_3
        exact l_X9_judge_70 p1 p2 p3  _   _ _  h
      · have h := h.2 c_3
        refine J_iload_n dX9_judge_49 rfl 3 rfl  ?_
        refine J_if_lt (tgt := 70) dX9_judge_50 (by decide) (fun c_4 => ?_) (fun c_4 => ?_)
        · have h := h.1 c_4
          exact l_X9_judge_70 p1 p2 p3  _   _ _  h
        · have h := h.2 c_4
          refine J_iload_n dX9_judge_53 rfl 3 rfl  ?_
          refine J_i2l dX9_judge_54  ?_
          refine J_iload dX9_judge_55 4 rfl  ?_
          refine J_i2l dX9_judge_57  ?_
          refine J_ladd dX9_judge_58  ?_
          refine J_aload_n dX9_judge_59 rfl 0 rfl  ?_
          refine J_getr (r := 363) (ci := 7) dX9_judge_60 18 rfl giX9 (by decide) (by decide) rfl rfl tb_4_129 (by decide) (by decide)  ?_
          refine J_iload_n dX9_judge_63 rfl 2 rfl  ?_
          obtain ⟨hi_5, h⟩ := h
          refine J_iald dX9_judge_64 (by decide) hi_5  ?_
          refine J_i2l dX9_judge_65  ?_
          refine J_lcmp dX9_judge_66  ?_
          refine J_if_lt (tgt := 76) dX9_judge_67 (by decide) (fun c_6 => ?_) (fun c_6 => ?_)
          · have h := h.1 c_6
            refine J_aload_n dX9_judge_76 rfl 0 rfl  ?_
            refine J_getr (r := 361) (ci := 7) dX9_judge_77 16 rfl giX9 (by decide) (by decide) rfl rfl tb_4_127 (by decide) (by decide)  ?_
            refine J_bipush (v := 60) dX9_judge_80 (by decide)  ?_
            refine J_iload_n dX9_judge_82 rfl 2 rfl  ?_
            refine J_imul dX9_judge_83  ?_
            refine J_iload_n dX9_judge_84 rfl 3 rfl  ?_
            refine J_iadd dX9_judge_85  ?_
            refine J_iload dX9_judge_86 4 rfl  ?_
            refine J_iadd dX9_judge_88  ?_
            obtain ⟨hi_7, h⟩ := h
            refine J_lald dX9_judge_89 (by decide) hi_7  ?_
            refine J_aload_n dX9_judge_90 rfl 0 rfl  ?_
            refine J_getr (r := 354) (ci := 7) dX9_judge_91 4 rfl giX9 (by decide) (by decide) rfl rfl tb_4_115 (by decide) (by decide)  ?_
            refine J_bipush (v := 16) dX9_judge_94 (by decide)  ?_
            refine J_iload_n dX9_judge_96 rfl 1 rfl  ?_
            refine J_imul dX9_judge_97  ?_
            refine J_iload dX9_judge_98 4 rfl  ?_
            refine J_iadd dX9_judge_100  ?_
            obtain ⟨hi_8, h⟩ := h
            refine J_iald dX9_judge_101 (by decide) hi_8  ?_
            refine J_i2l dX9_judge_102  ?_
            refine J_lcmp dX9_judge_103  ?_
            refine J_if_eq (tgt := 110) dX9_judge_104 (by decide) (fun c_9 => ?_) (fun c_9 => ?_)
            · have h := h.1 c_9
              obtain ⟨x4_10, ex4_10⟩ : ∃ y : Int32, y = x4 + 1 := ⟨_, rfl⟩
              have h := h x4_10 ex4_10
              refine J_iinc (v := x4_10) (lv' := [(0, .ref (g.1 + 353)), (1, .int p1), (2, .int p2), (3, .int p3), (4, .int x4_10)]) dX9_judge_110 (q := 4) rfl (by rw [ex4_10]; rfl) (by decide) [1, 2, 3, 4, 0] rfl  ?_
              refine J_goto (tgt := 31) dX9_judge_113 (by decide)  ?_
              exact ih _ _  h
            · have h := h.2 c_9
              refine J_iload dX9_judge_107 4 rfl  ?_
              exact J_iret dX9_judge_109 rfl rfl ⟨_, rfl, h⟩
          · have h := h.2 c_6
            exact l_X9_judge_70 p1 p2 p3  _   _ _  h
def wp_X9_judge (p1 : Int32) (p2 : Int32) (p3 : Int32) (S : Sto) (Q : Int32 → Sto → Prop) : Prop := wp_X9_isElement p1 S (fun r_2 S_1 => ((r_2 = 0 → q_X9_judge_14 p1 p2 p3  Q  S_1) ∧ (¬ r_2 = 0 → wp_X9_isTape p2 S_1 (fun r_5 S_4 => ((¬ r_5 = 0 → vp_in p2 (6) ∧ (((S_4.1 362 (p2 : Int32).toNatClampNeg) ≤ 0 → (∃ n_31, q_X9_judge_31 p1 p2 p3  Q n_31 0 S_4)) ∧ (¬ (S_4.1 362 (p2 : Int32).toNatClampNeg) ≤ 0 → Q ((-12)) S_4))) ∧ (r_5 = 0 → q_X9_judge_14 p1 p2 p3  Q  S_4))))))
set_option maxRecDepth 100000 in
set_option maxHeartbeats 4000000 in
theorem c_X9_judge {g : Gv} (p1 : Int32) (p2 : Int32) (p3 : Int32)  (S : Sto) (Q : Int32 → Sto → Prop) (h : wp_X9_judge p1 p2 p3 S Q) : CT g yX9_judge cX9_judge 5 (some .int) 3 [.ref (g.1 + 353), .int p1, .int p2, .int p3] S (Qi Q) := by
  unfold wp_X9_judge at h
  refine CT.of (by decide) (Nat.le_of_ble_eq_true rfl) ?_
  refine J_sub (lv' := [(0, .ref (g.1 + 353)), (1, .int p1), (2, .int p2), (3, .int p3)]) [0, 1, 2, 3] rfl ?_
  refine J_iload_n dX9_judge_0 rfl 1 rfl  ?_
  refine J_callS (As := [.int p1]) (rest := []) (n := 1) dX9_judge_1 (c_X9_isElement p1  _ _ h) tb_5_28 tb_5_26 tb_1_8 tb_5_27 (by decide) rfl (by decide) (by decide) (Nat.le_of_ble_eq_true rfl) rfl (fun v_r_2 S_1 hq => ?_)
  obtain ⟨r_2, rfl, h⟩ := hq
  dsimp only [Option.toList, List.cons_append, List.nil_append]
  refine J_if_eq (tgt := 14) dX9_judge_4 (by decide) (fun c_3 => ?_) (fun c_3 => ?_)
  · have h := h.1 c_3
    exact l_X9_judge_14 p1 p2 p3  _    _  h
  · have h := h.2 c_3
    refine J_iload_n dX9_judge_7 rfl 2 rfl  ?_
    refine J_callS (As := [.int p2]) (rest := []) (n := 1) dX9_judge_8 (c_X9_isTape p2  _ _ h) tb_6_96 tb_6_94 tb_1_8 tb_6_95 (by decide) rfl (by decide) (by decide) (Nat.le_of_ble_eq_true rfl) rfl (fun v_r_5 S_4 hq => ?_)
    obtain ⟨r_5, rfl, h⟩ := hq
    dsimp only [Option.toList, List.cons_append, List.nil_append]
    refine J_if_ne (tgt := 16) dX9_judge_11 (by decide) (fun c_6 => ?_) (fun c_6 => ?_)
    · have h := h.1 c_6
      refine J_aload_n dX9_judge_16 rfl 0 rfl  ?_
      refine J_getr (r := 362) (ci := 7) dX9_judge_17 17 rfl giX9 (by decide) (by decide) rfl rfl tb_4_128 (by decide) (by decide)  ?_
      refine J_iload_n dX9_judge_20 rfl 2 rfl  ?_
      obtain ⟨hi_7, h⟩ := h
      refine J_iald dX9_judge_21 (by decide) hi_7  ?_
      refine J_if_le (tgt := 28) dX9_judge_22 (by decide) (fun c_8 => ?_) (fun c_8 => ?_)
      · have h := h.1 c_8
        refine J_iconst (v := 0) dX9_judge_28 (by decide)  ?_
        refine J_istore (lv' := [(0, .ref (g.1 + 353)), (1, .int p1), (2, .int p2), (3, .int p3), (4, .int 0)]) dX9_judge_29 (by decide) [1, 2, 3, 4, 0] rfl  ?_
        obtain ⟨n, h⟩ := h
        exact l_X9_judge_31 p1 p2 p3  _   n _ _  h
      · have h := h.2 c_8
        refine J_bipush (v := (-12)) dX9_judge_25 (by decide)  ?_
        exact J_iret dX9_judge_27 rfl rfl ⟨_, rfl, h⟩
    · have h := h.2 c_6
      exact l_X9_judge_14 p1 p2 p3  _    _  h
def wp_X9_image  (S : Sto) (Q : Int32 → Sto → Prop) : Prop := wp_X9_keepTo 364 S (fun S_1 => ∀ S_3 : Sto, S_3 = uA S_1 353 21 1 → Q (S_3.1 353 6) S_3)
set_option maxRecDepth 100000 in
set_option maxHeartbeats 4000000 in
theorem c_X9_image {g : Gv}   (S : Sto) (Q : Int32 → Sto → Prop) (h : wp_X9_image  S Q) : CT g yX9_image cX9_image 1 (some .int) 2 [.ref (g.1 + 353)] S (Qi Q) := by
  unfold wp_X9_image at h
  refine CT.of (by decide) (Nat.le_of_ble_eq_true rfl) ?_
  refine J_sub (lv' := [(0, .ref (g.1 + 353))]) [0] rfl ?_
  refine J_aload_n dX9_image_0 rfl 0 rfl  ?_
  refine J_aload_n dX9_image_1 rfl 0 rfl  ?_
  refine J_getr (r := 364) (ci := 7) dX9_image_2 19 rfl giX9 (by decide) (by decide) rfl rfl tb_4_130 (by decide) (by decide)  ?_
  refine J_callV (h := 353) (ci := 7) (As := [.ref (g.1 + 364)]) (rest := []) (n := 1) dX9_image_5 (c_X9_keepTo 364 (by decide) _ _ h) (by decide) rfl tb_6_67 tb_6_64 tb_1_8 tb_6_66 sl_61 (by decide) rfl (by decide) (by decide) (Nat.le_of_ble_eq_true rfl) rfl (fun v_r_2 S_1 hq => ?_)
  obtain ⟨rfl, h⟩ := hq
  dsimp only [Option.toList, List.cons_append, List.nil_append]
  refine J_aload_n dX9_image_8 rfl 0 rfl  ?_
  refine J_iconst (v := 1) dX9_image_9 (by decide)  ?_
  refine J_puti (ci := 7) dX9_image_10 21 rfl giX9 (by decide) (by decide) rfl rfl tyX9 tyX9_ok nmX9 rfl rfl rfl rfl tb_4_132 rfl  ?_
  refine J_nmS (fun S_3 eS_3 => ?_)
  have h := h S_3 eS_3
  refine J_aload_n dX9_image_13 rfl 0 rfl  ?_
  refine J_geti (ci := 7) dX9_image_14 6 rfl giX9 (by decide) (by decide) rfl rfl tb_4_117 rfl  ?_
  exact J_iret dX9_image_17 rfl rfl ⟨_, rfl, h⟩
def wp_X9_undo  (S : Sto) (Q : Int32 → Sto → Prop) : Prop := ((¬ (S.1 353 21) = 0 → wp_X9_again 364 S (fun S_2 => Q (S_2.1 353 6) S_2)) ∧ ((S.1 353 21) = 0 → Q ((-3)) S))
set_option maxRecDepth 100000 in
set_option maxHeartbeats 4000000 in
theorem c_X9_undo {g : Gv}   (S : Sto) (Q : Int32 → Sto → Prop) (h : wp_X9_undo  S Q) : CT g yX9_undo cX9_undo 1 (some .int) 2 [.ref (g.1 + 353)] S (Qi Q) := by
  unfold wp_X9_undo at h
  refine CT.of (by decide) (Nat.le_of_ble_eq_true rfl) ?_
  refine J_sub (lv' := [(0, .ref (g.1 + 353))]) [0] rfl ?_
  refine J_aload_n dX9_undo_0 rfl 0 rfl  ?_
  refine J_geti (ci := 7) dX9_undo_1 21 rfl giX9 (by decide) (by decide) rfl rfl tb_4_132 rfl  ?_
  refine J_if_ne (tgt := 10) dX9_undo_4 (by decide) (fun c_1 => ?_) (fun c_1 => ?_)
  · have h := h.1 c_1
    refine J_aload_n dX9_undo_10 rfl 0 rfl  ?_
    refine J_aload_n dX9_undo_11 rfl 0 rfl  ?_
    refine J_getr (r := 364) (ci := 7) dX9_undo_12 19 rfl giX9 (by decide) (by decide) rfl rfl tb_4_130 (by decide) (by decide)  ?_
    refine J_callV (h := 353) (ci := 7) (As := [.ref (g.1 + 364)]) (rest := []) (n := 1) dX9_undo_15 (c_X9_again 364 (by decide) _ _ h) (by decide) rfl tb_6_75 tb_6_72 tb_1_8 tb_6_74 sl_63 (by decide) rfl (by decide) (by decide) (Nat.le_of_ble_eq_true rfl) rfl (fun v_r_3 S_2 hq => ?_)
    obtain ⟨rfl, h⟩ := hq
    dsimp only [Option.toList, List.cons_append, List.nil_append]
    refine J_aload_n dX9_undo_18 rfl 0 rfl  ?_
    refine J_geti (ci := 7) dX9_undo_19 6 rfl giX9 (by decide) (by decide) rfl rfl tb_4_117 rfl  ?_
    exact J_iret dX9_undo_22 rfl rfl ⟨_, rfl, h⟩
  · have h := h.2 c_1
    refine J_bipush (v := (-3)) dX9_undo_7 (by decide)  ?_
    exact J_iret dX9_undo_9 rfl rfl ⟨_, rfl, h⟩
def wp_X9_counted (p1 : Int32) (S : Sto) (Q : Int32 → Sto → Prop) : Prop := ((p1.toInt < 0 ∨ 2 < p1.toInt → Q ((-2)) S) ∧ (p1 = 0 → Q (S.1 353 9) S) ∧ (p1 = 1 → Q (S.1 353 12) S) ∧ (p1 = 2 → Q (S.1 353 14) S))
set_option maxRecDepth 100000 in
set_option maxHeartbeats 4000000 in
theorem c_X9_counted {g : Gv} (p1 : Int32)  (S : Sto) (Q : Int32 → Sto → Prop) (h : wp_X9_counted p1 S Q) : CT g yX9_counted cX9_counted 2 (some .int) 1 [.ref (g.1 + 353), .int p1] S (Qi Q) := by
  unfold wp_X9_counted at h
  refine CT.of (by decide) (Nat.le_of_ble_eq_true rfl) ?_
  refine J_sub (lv' := [(0, .ref (g.1 + 353)), (1, .int p1)]) [0, 1] rfl ?_
  refine J_iload_n dX9_counted_0 rfl 1 rfl  ?_
  by_cases hsw : p1.toInt < 0 ∨ 2 < p1.toInt
  · have h := h.1 hsw
    refine J_tableOut (tgt := 43) dX9_counted_1 hsw (by decide) ?_
    refine J_bipush (v := (-2)) dX9_counted_43 (by decide)  ?_
    exact J_iret dX9_counted_45 rfl rfl ⟨_, rfl, h⟩
  · have h := h.2
    obtain ⟨ksw, hk1, hk2⟩ := sw_in (n := 2) (fun q => hsw (Or.inl q)) (fun q => hsw (Or.inr q))
    by_cases hs0 : ksw = 0
    · have hx : p1 = 0 := by rw [hk2, hs0]; rfl
      have h := h.1 hx
      refine J_tableIn (off := 27) (tgt := 28) dX9_counted_1 (by rw [hx]; decide) (by rw [hx]; decide) (by rw [hx]; decide) (by decide) ?_
      refine J_aload_n dX9_counted_28 rfl 0 rfl  ?_
      refine J_geti (ci := 7) dX9_counted_29 9 rfl giX9 (by decide) (by decide) rfl rfl tb_4_120 rfl  ?_
      exact J_iret dX9_counted_32 rfl rfl ⟨_, rfl, h⟩
    by_cases hs1 : ksw = 1
    · have hx : p1 = 1 := by rw [hk2, hs1]; rfl
      have h := h.2.1 hx
      refine J_tableIn (off := 32) (tgt := 33) dX9_counted_1 (by rw [hx]; decide) (by rw [hx]; decide) (by rw [hx]; decide) (by decide) ?_
      refine J_aload_n dX9_counted_33 rfl 0 rfl  ?_
      refine J_geti (ci := 7) dX9_counted_34 12 rfl giX9 (by decide) (by decide) rfl rfl tb_4_123 rfl  ?_
      exact J_iret dX9_counted_37 rfl rfl ⟨_, rfl, h⟩
    by_cases hs2 : ksw = 2
    · have hx : p1 = 2 := by rw [hk2, hs2]; rfl
      have h := h.2.2 hx
      refine J_tableIn (off := 37) (tgt := 38) dX9_counted_1 (by rw [hx]; decide) (by rw [hx]; decide) (by rw [hx]; decide) (by decide) ?_
      refine J_aload_n dX9_counted_38 rfl 0 rfl  ?_
      refine J_geti (ci := 7) dX9_counted_39 14 rfl giX9 (by decide) (by decide) rfl rfl tb_4_125 rfl  ?_
      exact J_iret dX9_counted_42 rfl rfl ⟨_, rfl, h⟩
    omega
def q_X9_tape_33 (p1 : Int32) (p2 : Int32) (p3 : Int32)  (Q : Int32 → Sto → Prop)  (S : Sto) : Prop := Q ((-2)) S
set_option maxRecDepth 100000 in
set_option maxHeartbeats 4000000 in
theorem l_X9_tape_33 {g : Gv} (p1 : Int32) (p2 : Int32) (p3 : Int32)  (Q : Int32 → Sto → Prop)    (S : Sto)  (h : q_X9_tape_33 p1 p2 p3  Q  S) : RJ g cX9_tape RX9 (some .int) 5 3 33 [(0, .ref (g.1 + 353)), (1, .int p1), (2, .int p2), (3, .int p3)] [] S (Qi Q) := by
  unfold q_X9_tape_33 at h
  refine J_bipush (v := (-2)) dX9_tape_33 (by decide)  ?_
  exact J_iret dX9_tape_35 rfl rfl ⟨_, rfl, h⟩
def q_X9_tape_72 (p1 : Int32) (p2 : Int32) (p3 : Int32)  (Q : Int32 → Sto → Prop) : Nat → Int32 → Sto → Prop
  | 0, _, _ => False
  | n + 1, x4, S => ((60 ≤ x4 → Q 1 S) ∧ (¬ 60 ≤ x4 → vp_in ((60 * p1) + x4) (360) ∧ ∀ S_3 : Sto, S_3 = uL S 361 ((60 * p1) + x4 : Int32).toNatClampNeg 0 → ∀ x4_4 : Int32, x4_4 = x4 + 1 → q_X9_tape_72 p1 p2 p3  Q n x4_4 S_3))
set_option maxRecDepth 100000 in
set_option maxHeartbeats 4000000 in
theorem l_X9_tape_72 {g : Gv} (p1 : Int32) (p2 : Int32) (p3 : Int32)  (Q : Int32 → Sto → Prop)   (n : Nat) : ∀ (x4 : Int32) (S : Sto)  (h : q_X9_tape_72 p1 p2 p3  Q n x4 S), RJ g cX9_tape RX9 (some .int) 5 3 72 [(0, .ref (g.1 + 353)), (1, .int p1), (2, .int p2), (3, .int p3), (4, .int x4)] [] S (Qi Q) := by
  induction n with
  | zero => intro x4 S  h; exact h.elim
  | succ n ih =>
    intro x4 S  h
    unfold q_X9_tape_72 at h
    refine J_iload dX9_tape_72 4 rfl  ?_
    refine J_bipush (v := 60) dX9_tape_74 (by decide)  ?_
    refine J_icmp_ge (tgt := 98) dX9_tape_76 (by decide) (fun c_1 => ?_) (fun c_1 => ?_)
    · have h := h.1 c_1
      refine J_iconst (v := 1) dX9_tape_98 (by decide)  ?_
      exact J_iret dX9_tape_99 rfl rfl ⟨_, rfl, h⟩
    · have h := h.2 c_1
      refine J_aload_n dX9_tape_79 rfl 0 rfl  ?_
      refine J_getr (r := 361) (ci := 7) dX9_tape_80 16 rfl giX9 (by decide) (by decide) rfl rfl tb_4_127 (by decide) (by decide)  ?_
      refine J_bipush (v := 60) dX9_tape_83 (by decide)  ?_
      refine J_iload_n dX9_tape_85 rfl 1 rfl  ?_
      refine J_imul dX9_tape_86  ?_
      refine J_iload dX9_tape_87 4 rfl  ?_
      refine J_iadd dX9_tape_89  ?_
      refine J_lconst (v := 0) dX9_tape_90 (by decide)  ?_
      obtain ⟨hi_2, h⟩ := h
      refine J_last dX9_tape_91 (by decide) hi_2  ?_
      refine J_nmS (fun S_3 eS_3 => ?_)
      have h := h S_3 eS_3
      obtain ⟨x4_4, ex4_4⟩ : ∃ y : Int32, y = x4 + 1 := ⟨_, rfl⟩
      have h := h x4_4 ex4_4
      refine J_iinc (v := x4_4) (lv' := [(0, .ref (g.1 + 353)), (1, .int p1), (2, .int p2), (3, .int p3), (4, .int x4_4)]) dX9_tape_92 (q := 4) rfl (by rw [ex4_4]; rfl) (by decide) [1, 2, 3, 4, 0] rfl  ?_
      refine J_goto (tgt := 72) dX9_tape_95 (by decide)  ?_
      exact ih _ _  h
def q_X9_tape_68 (p1 : Int32) (p2 : Int32) (p3 : Int32)  (Q : Int32 → Sto → Prop) (t1 : Int32) (t2 : Int32) (S : Sto) : Prop := vp_in t1 (6) ∧ ∀ S_2 : Sto, S_2 = uA S 363 (t1 : Int32).toNatClampNeg t2 → (∃ n_72, q_X9_tape_72 p1 p2 p3  Q n_72 0 S_2)
set_option maxRecDepth 100000 in
set_option maxHeartbeats 4000000 in
theorem l_X9_tape_68 {g : Gv} (p1 : Int32) (p2 : Int32) (p3 : Int32)  (Q : Int32 → Sto → Prop)   (t1 : Int32) (t2 : Int32) (S : Sto)  (h : q_X9_tape_68 p1 p2 p3  Q t1 t2 S) : RJ g cX9_tape RX9 (some .int) 5 3 68 [(0, .ref (g.1 + 353)), (1, .int p1), (2, .int p2), (3, .int p3)] [.int t2, .int t1, .ref (g.1 + 363)] S (Qi Q) := by
  unfold q_X9_tape_68 at h
  obtain ⟨hi_1, h⟩ := h
  refine J_iast dX9_tape_68 (by decide) hi_1  ?_
  refine J_nmS (fun S_2 eS_2 => ?_)
  have h := h S_2 eS_2
  refine J_iconst (v := 0) dX9_tape_69 (by decide)  ?_
  refine J_istore (lv' := [(0, .ref (g.1 + 353)), (1, .int p1), (2, .int p2), (3, .int p3), (4, .int 0)]) dX9_tape_70 (by decide) [1, 2, 3, 4, 0] rfl  ?_
  obtain ⟨n, h⟩ := h
  exact l_X9_tape_72 p1 p2 p3  _   n _ _  h
def q_X9_tape_47 (p1 : Int32) (p2 : Int32) (p3 : Int32)  (Q : Int32 → Sto → Prop)  (S : Sto) : Prop := vp_in p1 (6) ∧ ∀ S_2 : Sto, S_2 = uA S 362 (p1 : Int32).toNatClampNeg p2 → ((0 ≤ p2 → q_X9_tape_68 p1 p2 p3  Q p1 p3 S_2) ∧ (¬ 0 ≤ p2 → q_X9_tape_68 p1 p2 p3  Q p1 0 S_2))
set_option maxRecDepth 100000 in
set_option maxHeartbeats 4000000 in
theorem l_X9_tape_47 {g : Gv} (p1 : Int32) (p2 : Int32) (p3 : Int32)  (Q : Int32 → Sto → Prop)    (S : Sto)  (h : q_X9_tape_47 p1 p2 p3  Q  S) : RJ g cX9_tape RX9 (some .int) 5 3 47 [(0, .ref (g.1 + 353)), (1, .int p1), (2, .int p2), (3, .int p3)] [] S (Qi Q) := by
  unfold q_X9_tape_47 at h
  refine J_aload_n dX9_tape_47 rfl 0 rfl  ?_
  refine J_getr (r := 362) (ci := 7) dX9_tape_48 17 rfl giX9 (by decide) (by decide) rfl rfl tb_4_128 (by decide) (by decide)  ?_
  refine J_iload_n dX9_tape_51 rfl 1 rfl  ?_
  refine J_iload_n dX9_tape_52 rfl 2 rfl  ?_
  obtain ⟨hi_1, h⟩ := h
  refine J_iast dX9_tape_53 (by decide) hi_1  ?_
  refine J_nmS (fun S_2 eS_2 => ?_)
  have h := h S_2 eS_2
  refine J_aload_n dX9_tape_54 rfl 0 rfl  ?_
  refine J_getr (r := 363) (ci := 7) dX9_tape_55 18 rfl giX9 (by decide) (by decide) rfl rfl tb_4_129 (by decide) (by decide)  ?_
  refine J_iload_n dX9_tape_58 rfl 1 rfl  ?_
  refine J_iload_n dX9_tape_59 rfl 2 rfl  ?_
  refine J_if_ge (tgt := 67) dX9_tape_60 (by decide) (fun c_3 => ?_) (fun c_3 => ?_)
  · have h := h.1 c_3
    refine J_iload_n dX9_tape_67 rfl 3 rfl  ?_
    exact l_X9_tape_68 p1 p2 p3  _   _ _ _  h
  · have h := h.2 c_3
    refine J_iconst (v := 0) dX9_tape_63 (by decide)  ?_
    refine J_goto (tgt := 68) dX9_tape_64 (by decide)  ?_
    exact l_X9_tape_68 p1 p2 p3  _   _ _ _  h
def q_X9_tape_36 (p1 : Int32) (p2 : Int32) (p3 : Int32)  (Q : Int32 → Sto → Prop)  (S : Sto) : Prop := ((p2 < 0 → q_X9_tape_47 p1 p2 p3  Q  S) ∧ (¬ p2 < 0 → ((0 ≤ p3 → q_X9_tape_47 p1 p2 p3  Q  S) ∧ (¬ 0 ≤ p3 → Q ((-14)) S))))
set_option maxRecDepth 100000 in
set_option maxHeartbeats 4000000 in
theorem l_X9_tape_36 {g : Gv} (p1 : Int32) (p2 : Int32) (p3 : Int32)  (Q : Int32 → Sto → Prop)    (S : Sto)  (h : q_X9_tape_36 p1 p2 p3  Q  S) : RJ g cX9_tape RX9 (some .int) 5 3 36 [(0, .ref (g.1 + 353)), (1, .int p1), (2, .int p2), (3, .int p3)] [] S (Qi Q) := by
  unfold q_X9_tape_36 at h
  refine J_iload_n dX9_tape_36 rfl 2 rfl  ?_
  refine J_if_lt (tgt := 47) dX9_tape_37 (by decide) (fun c_1 => ?_) (fun c_1 => ?_)
  · have h := h.1 c_1
    exact l_X9_tape_47 p1 p2 p3  _    _  h
  · have h := h.2 c_1
    refine J_iload_n dX9_tape_40 rfl 3 rfl  ?_
    refine J_if_ge (tgt := 47) dX9_tape_41 (by decide) (fun c_2 => ?_) (fun c_2 => ?_)
    · have h := h.1 c_2
      exact l_X9_tape_47 p1 p2 p3  _    _  h
    · have h := h.2 c_2
      refine J_bipush (v := (-14)) dX9_tape_44 (by decide)  ?_
      exact J_iret dX9_tape_46 rfl rfl ⟨_, rfl, h⟩
def wp_X9_tape (p1 : Int32) (p2 : Int32) (p3 : Int32) (S : Sto) (Q : Int32 → Sto → Prop) : Prop := wp_X9_isTape p1 S (fun r_2 S_1 => ((¬ r_2 = 0 → wp_X9_in ((p2 : Int32).toInt64) ((-1)) 4 S_1 (fun r_5 S_4 => ((r_5 = 0 → q_X9_tape_33 p1 p2 p3  Q  S_4) ∧ (¬ r_5 = 0 → ((p2 < 0 → q_X9_tape_36 p1 p2 p3  Q  S_4) ∧ (¬ p2 < 0 → ((p3 ≤ 60 → q_X9_tape_36 p1 p2 p3  Q  S_4) ∧ (¬ p3 ≤ 60 → q_X9_tape_33 p1 p2 p3  Q  S_4)))))))) ∧ (r_2 = 0 → Q ((-1)) S_1)))
set_option maxRecDepth 100000 in
set_option maxHeartbeats 4000000 in
theorem c_X9_tape {g : Gv} (p1 : Int32) (p2 : Int32) (p3 : Int32)  (S : Sto) (Q : Int32 → Sto → Prop) (h : wp_X9_tape p1 p2 p3 S Q) : CT g yX9_tape cX9_tape 5 (some .int) 3 [.ref (g.1 + 353), .int p1, .int p2, .int p3] S (Qi Q) := by
  unfold wp_X9_tape at h
  refine CT.of (by decide) (Nat.le_of_ble_eq_true rfl) ?_
  refine J_sub (lv' := [(0, .ref (g.1 + 353)), (1, .int p1), (2, .int p2), (3, .int p3)]) [0, 1, 2, 3] rfl ?_
  refine J_iload_n dX9_tape_0 rfl 1 rfl  ?_
  refine J_callS (As := [.int p1]) (rest := []) (n := 1) dX9_tape_1 (c_X9_isTape p1  _ _ h) tb_6_96 tb_6_94 tb_1_8 tb_6_95 (by decide) rfl (by decide) (by decide) (Nat.le_of_ble_eq_true rfl) rfl (fun v_r_2 S_1 hq => ?_)
  obtain ⟨r_2, rfl, h⟩ := hq
  dsimp only [Option.toList, List.cons_append, List.nil_append]
  refine J_if_ne (tgt := 9) dX9_tape_4 (by decide) (fun c_3 => ?_) (fun c_3 => ?_)
  · have h := h.1 c_3
    refine J_iload_n dX9_tape_9 rfl 2 rfl  ?_
    refine J_i2l dX9_tape_10  ?_
    refine J_ldc2 (v := (-1)) dX9_tape_11 tb_6_113  ?_
    refine J_ldc2 (v := 4) dX9_tape_14 tb_5_6  ?_
    refine J_callS (As := [.long ((p2 : Int32).toInt64), .long ((-1)), .long 4]) (rest := []) (n := 3) dX9_tape_17 (c_X9_in ((p2 : Int32).toInt64) ((-1)) 4  _ _ h) tb_5_9 tb_5_7 tb_1_8 tb_5_8 (by decide) rfl (by decide) (by decide) (Nat.le_of_ble_eq_true rfl) rfl (fun v_r_5 S_4 hq => ?_)
    obtain ⟨r_5, rfl, h⟩ := hq
    dsimp only [Option.toList, List.cons_append, List.nil_append]
    refine J_if_eq (tgt := 33) dX9_tape_20 (by decide) (fun c_6 => ?_) (fun c_6 => ?_)
    · have h := h.1 c_6
      exact l_X9_tape_33 p1 p2 p3  _    _  h
    · have h := h.2 c_6
      refine J_iload_n dX9_tape_23 rfl 2 rfl  ?_
      refine J_if_lt (tgt := 36) dX9_tape_24 (by decide) (fun c_7 => ?_) (fun c_7 => ?_)
      · have h := h.1 c_7
        exact l_X9_tape_36 p1 p2 p3  _    _  h
      · have h := h.2 c_7
        refine J_iload_n dX9_tape_27 rfl 3 rfl  ?_
        refine J_bipush (v := 60) dX9_tape_28 (by decide)  ?_
        refine J_icmp_le (tgt := 36) dX9_tape_30 (by decide) (fun c_8 => ?_) (fun c_8 => ?_)
        · have h := h.1 c_8
          exact l_X9_tape_36 p1 p2 p3  _    _  h
        · have h := h.2 c_8
          exact l_X9_tape_33 p1 p2 p3  _    _  h
  · have h := h.2 c_3
    refine J_iconst (v := (-1)) dX9_tape_7 (by decide)  ?_
    exact J_iret dX9_tape_8 rfl rfl ⟨_, rfl, h⟩
def wp_X9_hasItem (p1 : Int32) (p2 : Int32) (S : Sto) (Q : Int32 → Sto → Prop) : Prop := vp_in p1 (6) ∧ wp_X9_in ((p2 : Int32).toInt64) 0 (((S.1 363 (p1 : Int32).toNatClampNeg) - 1 : Int32).toInt64) S (fun r_3 S_2 => narrow .boolean (.int r_3) = .int r_3 ∧ Q r_3 S_2)
set_option maxRecDepth 100000 in
set_option maxHeartbeats 4000000 in
theorem c_X9_hasItem {g : Gv} (p1 : Int32) (p2 : Int32)  (S : Sto) (Q : Int32 → Sto → Prop) (h : wp_X9_hasItem p1 p2 S Q) : CT g yX9_hasItem cX9_hasItem 3 (some .boolean) 2 [.ref (g.1 + 353), .int p1, .int p2] S (Qi Q) := by
  unfold wp_X9_hasItem at h
  refine CT.of (by decide) (Nat.le_of_ble_eq_true rfl) ?_
  refine J_sub (lv' := [(0, .ref (g.1 + 353)), (1, .int p1), (2, .int p2)]) [0, 1, 2] rfl ?_
  refine J_iload_n dX9_hasItem_0 rfl 2 rfl  ?_
  refine J_i2l dX9_hasItem_1  ?_
  refine J_lconst (v := 0) dX9_hasItem_2 (by decide)  ?_
  refine J_aload_n dX9_hasItem_3 rfl 0 rfl  ?_
  refine J_getr (r := 363) (ci := 7) dX9_hasItem_4 18 rfl giX9 (by decide) (by decide) rfl rfl tb_4_129 (by decide) (by decide)  ?_
  refine J_iload_n dX9_hasItem_7 rfl 1 rfl  ?_
  obtain ⟨hi_1, h⟩ := h
  refine J_iald dX9_hasItem_8 (by decide) hi_1  ?_
  refine J_iconst (v := 1) dX9_hasItem_9 (by decide)  ?_
  refine J_isub dX9_hasItem_10  ?_
  refine J_i2l dX9_hasItem_11  ?_
  refine J_callS (As := [.long ((p2 : Int32).toInt64), .long 0, .long (((S.1 363 (p1 : Int32).toNatClampNeg) - 1 : Int32).toInt64)]) (rest := []) (n := 3) dX9_hasItem_12 (c_X9_in ((p2 : Int32).toInt64) 0 (((S.1 363 (p1 : Int32).toNatClampNeg) - 1 : Int32).toInt64)  _ _ h) tb_5_9 tb_5_7 tb_1_8 tb_5_8 (by decide) rfl (by decide) (by decide) (Nat.le_of_ble_eq_true rfl) rfl (fun v_r_3 S_2 hq => ?_)
  obtain ⟨r_3, rfl, h⟩ := hq
  dsimp only [Option.toList, List.cons_append, List.nil_append]
  obtain ⟨hb, h⟩ := h
  exact J_iret dX9_hasItem_15 rfl hb ⟨_, rfl, h⟩
def q_X9_item_118 (p1 : Int32) (p2 : Int32) (p3 : Int64)  (Q : Int32 → Sto → Prop) (x5 : Int64) (S : Sto) : Prop := vp_in ((60 * p1) + p2) (360) ∧ ∀ S_2 : Sto, S_2 = uL S 361 ((60 * p1) + p2 : Int32).toNatClampNeg x5 → Q 1 S_2
set_option maxRecDepth 100000 in
set_option maxHeartbeats 4000000 in
theorem l_X9_item_118 {g : Gv} (p1 : Int32) (p2 : Int32) (p3 : Int64)  (Q : Int32 → Sto → Prop)   (x5 : Int64) (S : Sto)  (h : q_X9_item_118 p1 p2 p3  Q x5 S) : RJ g cX9_item RX9 (some .int) 7 3 118 [(0, .ref (g.1 + 353)), (1, .int p1), (2, .int p2), (3, .long p3), (5, .long x5)] [] S (Qi Q) := by
  unfold q_X9_item_118 at h
  refine J_aload_n dX9_item_118 rfl 0 rfl  ?_
  refine J_getr (r := 361) (ci := 7) dX9_item_119 16 rfl giX9 (by decide) (by decide) rfl rfl tb_4_127 (by decide) (by decide)  ?_
  refine J_bipush (v := 60) dX9_item_122 (by decide)  ?_
  refine J_iload_n dX9_item_124 rfl 1 rfl  ?_
  refine J_imul dX9_item_125  ?_
  refine J_iload_n dX9_item_126 rfl 2 rfl  ?_
  refine J_iadd dX9_item_127  ?_
  refine J_lload dX9_item_128 4 rfl  ?_
  obtain ⟨hi_1, h⟩ := h
  refine J_last dX9_item_130 (by decide) hi_1  ?_
  refine J_nmS (fun S_2 eS_2 => ?_)
  have h := h S_2 eS_2
  refine J_iconst (v := 1) dX9_item_131 (by decide)  ?_
  exact J_iret dX9_item_132 rfl rfl ⟨_, rfl, h⟩
def q_X9_item_113 (p1 : Int32) (p2 : Int32) (p3 : Int64)  (Q : Int32 → Sto → Prop) (t0 : Int64) (S : Sto) : Prop := q_X9_item_118 p1 p2 p3  Q t0 S
set_option maxRecDepth 100000 in
set_option maxHeartbeats 4000000 in
theorem l_X9_item_113 {g : Gv} (p1 : Int32) (p2 : Int32) (p3 : Int64)  (Q : Int32 → Sto → Prop)   (t0 : Int64) (S : Sto)  (h : q_X9_item_113 p1 p2 p3  Q t0 S) : RJ g cX9_item RX9 (some .int) 7 3 113 [(0, .ref (g.1 + 353)), (1, .int p1), (2, .int p2), (3, .long p3)] [.long t0] S (Qi Q) := by
  unfold q_X9_item_113 at h
  refine J_lstore (lv' := [(0, .ref (g.1 + 353)), (1, .int p1), (2, .int p2), (3, .long p3), (5, .long t0)]) dX9_item_113 (by decide) [1, 2, 3, 4, 0] rfl  ?_
  refine J_goto (tgt := 118) dX9_item_115 (by decide)  ?_
  exact l_X9_item_118 p1 p2 p3  _   _ _  h
def wp_X9_item (p1 : Int32) (p2 : Int32) (p3 : Int64) (S : Sto) (Q : Int32 → Sto → Prop) : Prop := wp_X9_isTape p1 S (fun r_2 S_1 => ((¬ r_2 = 0 → vp_in p1 (6) ∧ ((0 ≤ (S_1.1 362 (p1 : Int32).toNatClampNeg) → wp_X9_hasItem p1 p2 S_1 (fun r_7 S_6 => ((¬ r_7 = 0 → vp_in p1 (6) ∧ ∀ xs_10 : Int32, xs_10 = S_6.1 362 (p1 : Int32).toNatClampNeg → ((xs_10.toInt < 0 ∨ 4 < xs_10.toInt → q_X9_item_118 p1 p2 p3  Q p3 S_6) ∧ (xs_10 = 0 → ∀ x5_11 : Int64, x5_11 = (((p3 : Int64).toInt32 : Int32).toInt8.toInt32 : Int32).toInt64 → q_X9_item_118 p1 p2 p3  Q x5_11 S_6) ∧ (xs_10 = 1 → ∀ x5_12 : Int64, x5_12 = (((p3 : Int64).toInt32 : Int32).toInt16.toInt32 : Int32).toInt64 → q_X9_item_118 p1 p2 p3  Q x5_12 S_6) ∧ (xs_10 = 2 → ∀ x5_13 : Int64, x5_13 = ((p3 : Int64).toInt32 : Int32).toInt64 → q_X9_item_118 p1 p2 p3  Q x5_13 S_6) ∧ (xs_10 = 3 → q_X9_item_118 p1 p2 p3  Q p3 S_6) ∧ (xs_10 = 4 → (((lg_cmp p3 0) = 0 → q_X9_item_113 p1 p2 p3  Q 0 S_6) ∧ (¬ (lg_cmp p3 0) = 0 → q_X9_item_113 p1 p2 p3  Q 1 S_6))))) ∧ (r_7 = 0 → Q ((-13)) S_6)))) ∧ (¬ 0 ≤ (S_1.1 362 (p1 : Int32).toNatClampNeg) → Q ((-11)) S_1))) ∧ (r_2 = 0 → Q ((-1)) S_1)))
set_option maxRecDepth 100000 in
set_option maxHeartbeats 4000000 in
theorem c_X9_item {g : Gv} (p1 : Int32) (p2 : Int32) (p3 : Int64)  (S : Sto) (Q : Int32 → Sto → Prop) (h : wp_X9_item p1 p2 p3 S Q) : CT g yX9_item cX9_item 7 (some .int) 3 [.ref (g.1 + 353), .int p1, .int p2, .long p3] S (Qi Q) := by
  unfold wp_X9_item at h
  refine CT.of (by decide) (Nat.le_of_ble_eq_true rfl) ?_
  refine J_sub (lv' := [(0, .ref (g.1 + 353)), (1, .int p1), (2, .int p2), (3, .long p3)]) [0, 1, 2, 3] rfl ?_
  refine J_iload_n dX9_item_0 rfl 1 rfl  ?_
  refine J_callS (As := [.int p1]) (rest := []) (n := 1) dX9_item_1 (c_X9_isTape p1  _ _ h) tb_6_96 tb_6_94 tb_1_8 tb_6_95 (by decide) rfl (by decide) (by decide) (Nat.le_of_ble_eq_true rfl) rfl (fun v_r_2 S_1 hq => ?_)
  obtain ⟨r_2, rfl, h⟩ := hq
  dsimp only [Option.toList, List.cons_append, List.nil_append]
  refine J_if_ne (tgt := 9) dX9_item_4 (by decide) (fun c_3 => ?_) (fun c_3 => ?_)
  · have h := h.1 c_3
    refine J_aload_n dX9_item_9 rfl 0 rfl  ?_
    refine J_getr (r := 362) (ci := 7) dX9_item_10 17 rfl giX9 (by decide) (by decide) rfl rfl tb_4_128 (by decide) (by decide)  ?_
    refine J_iload_n dX9_item_13 rfl 1 rfl  ?_
    obtain ⟨hi_4, h⟩ := h
    refine J_iald dX9_item_14 (by decide) hi_4  ?_
    refine J_if_ge (tgt := 21) dX9_item_15 (by decide) (fun c_5 => ?_) (fun c_5 => ?_)
    · have h := h.1 c_5
      refine J_aload_n dX9_item_21 rfl 0 rfl  ?_
      refine J_iload_n dX9_item_22 rfl 1 rfl  ?_
      refine J_iload_n dX9_item_23 rfl 2 rfl  ?_
      refine J_callV (h := 353) (ci := 7) (As := [.int p1, .int p2]) (rest := []) (n := 2) dX9_item_24 (c_X9_hasItem p1 p2  _ _ h) (by decide) rfl tb_6_121 tb_6_118 tb_1_8 tb_6_120 sl_65 (by decide) rfl (by decide) (by decide) (Nat.le_of_ble_eq_true rfl) rfl (fun v_r_7 S_6 hq => ?_)
      obtain ⟨r_7, rfl, h⟩ := hq
      dsimp only [Option.toList, List.cons_append, List.nil_append]
      refine J_if_ne (tgt := 33) dX9_item_27 (by decide) (fun c_8 => ?_) (fun c_8 => ?_)
      · have h := h.1 c_8
        refine J_lload_n dX9_item_33 rfl 3 rfl  ?_
        refine J_lstore (lv' := [(0, .ref (g.1 + 353)), (1, .int p1), (2, .int p2), (3, .long p3), (5, .long p3)]) dX9_item_34 (by decide) [1, 2, 3, 4, 0] rfl  ?_
        refine J_aload_n dX9_item_36 rfl 0 rfl  ?_
        refine J_getr (r := 362) (ci := 7) dX9_item_37 17 rfl giX9 (by decide) (by decide) rfl rfl tb_4_128 (by decide) (by decide)  ?_
        refine J_iload_n dX9_item_40 rfl 1 rfl  ?_
        obtain ⟨hi_9, h⟩ := h
        refine J_iald dX9_item_41 (by decide) hi_9  ?_
        refine J_topi (fun xs_10 exs_10 => ?_)
        have h := h xs_10 exs_10
        by_cases hsw : xs_10.toInt < 0 ∨ 4 < xs_10.toInt
        · have h := h.1 hsw
          refine J_tableOut (tgt := 118) dX9_item_42 hsw (by decide) ?_
          exact l_X9_item_118 p1 p2 p3  _   _ _  h
        · have h := h.2
          obtain ⟨ksw, hk1, hk2⟩ := sw_in (n := 4) (fun q => hsw (Or.inl q)) (fun q => hsw (Or.inr q))
          by_cases hs0 : ksw = 0
          · have hx : xs_10 = 0 := by rw [hk2, hs0]; rfl
            have h := h.1 hx
            refine J_tableIn (off := 34) (tgt := 76) dX9_item_42 (by rw [hx]; decide) (by rw [hx]; decide) (by rw [hx]; decide) (by decide) ?_
            refine J_lload_n dX9_item_76 rfl 3 rfl  ?_
            refine J_l2i dX9_item_77  ?_
            refine J_i2b dX9_item_78  ?_
            refine J_i2l dX9_item_79  ?_
            refine J_topl (fun x5_11 ex5_11 => ?_)
            have h := h x5_11 ex5_11
            refine J_lstore (lv' := [(0, .ref (g.1 + 353)), (1, .int p1), (2, .int p2), (3, .long p3), (5, .long x5_11)]) dX9_item_80 (by decide) [1, 2, 3, 4, 0] rfl  ?_
            refine J_goto (tgt := 118) dX9_item_82 (by decide)  ?_
            exact l_X9_item_118 p1 p2 p3  _   _ _  h
          by_cases hs1 : ksw = 1
          · have hx : xs_10 = 1 := by rw [hk2, hs1]; rfl
            have h := h.2.1 hx
            refine J_tableIn (off := 43) (tgt := 85) dX9_item_42 (by rw [hx]; decide) (by rw [hx]; decide) (by rw [hx]; decide) (by decide) ?_
            refine J_lload_n dX9_item_85 rfl 3 rfl  ?_
            refine J_l2i dX9_item_86  ?_
            refine J_i2s dX9_item_87  ?_
            refine J_i2l dX9_item_88  ?_
            refine J_topl (fun x5_12 ex5_12 => ?_)
            have h := h x5_12 ex5_12
            refine J_lstore (lv' := [(0, .ref (g.1 + 353)), (1, .int p1), (2, .int p2), (3, .long p3), (5, .long x5_12)]) dX9_item_89 (by decide) [1, 2, 3, 4, 0] rfl  ?_
            refine J_goto (tgt := 118) dX9_item_91 (by decide)  ?_
            exact l_X9_item_118 p1 p2 p3  _   _ _  h
          by_cases hs2 : ksw = 2
          · have hx : xs_10 = 2 := by rw [hk2, hs2]; rfl
            have h := h.2.2.1 hx
            refine J_tableIn (off := 52) (tgt := 94) dX9_item_42 (by rw [hx]; decide) (by rw [hx]; decide) (by rw [hx]; decide) (by decide) ?_
            refine J_lload_n dX9_item_94 rfl 3 rfl  ?_
            refine J_l2i dX9_item_95  ?_
            refine J_i2l dX9_item_96  ?_
            refine J_topl (fun x5_13 ex5_13 => ?_)
            have h := h x5_13 ex5_13
            refine J_lstore (lv' := [(0, .ref (g.1 + 353)), (1, .int p1), (2, .int p2), (3, .long p3), (5, .long x5_13)]) dX9_item_97 (by decide) [1, 2, 3, 4, 0] rfl  ?_
            refine J_goto (tgt := 118) dX9_item_99 (by decide)  ?_
            exact l_X9_item_118 p1 p2 p3  _   _ _  h
          by_cases hs3 : ksw = 3
          · have hx : xs_10 = 3 := by rw [hk2, hs3]; rfl
            have h := h.2.2.2.1 hx
            refine J_tableIn (off := 76) (tgt := 118) dX9_item_42 (by rw [hx]; decide) (by rw [hx]; decide) (by rw [hx]; decide) (by decide) ?_
            exact l_X9_item_118 p1 p2 p3  _   _ _  h
          by_cases hs4 : ksw = 4
          · have hx : xs_10 = 4 := by rw [hk2, hs4]; rfl
            have h := h.2.2.2.2 hx
            refine J_tableIn (off := 60) (tgt := 102) dX9_item_42 (by rw [hx]; decide) (by rw [hx]; decide) (by rw [hx]; decide) (by decide) ?_
            refine J_lload_n dX9_item_102 rfl 3 rfl  ?_
            refine J_lconst (v := 0) dX9_item_103 (by decide)  ?_
            refine J_lcmp dX9_item_104  ?_
            refine J_if_eq (tgt := 112) dX9_item_105 (by decide) (fun c_14 => ?_) (fun c_14 => ?_)
            · have h := h.1 c_14
              refine J_lconst (v := 0) dX9_item_112 (by decide)  ?_
              refine J_sub (lv' := [(0, .ref (g.1 + 353)), (1, .int p1), (2, .int p2), (3, .long p3)]) [0, 1, 2, 3] rfl ?_
              exact l_X9_item_113 p1 p2 p3  _   _ _  h
            · have h := h.2 c_14
              refine J_lconst (v := 1) dX9_item_108 (by decide)  ?_
              refine J_goto (tgt := 113) dX9_item_109 (by decide)  ?_
              refine J_sub (lv' := [(0, .ref (g.1 + 353)), (1, .int p1), (2, .int p2), (3, .long p3)]) [0, 1, 2, 3] rfl ?_
              exact l_X9_item_113 p1 p2 p3  _   _ _  h
          omega
      · have h := h.2 c_8
        refine J_bipush (v := (-13)) dX9_item_30 (by decide)  ?_
        exact J_iret dX9_item_32 rfl rfl ⟨_, rfl, h⟩
    · have h := h.2 c_5
      refine J_bipush (v := (-11)) dX9_item_18 (by decide)  ?_
      exact J_iret dX9_item_20 rfl rfl ⟨_, rfl, h⟩
  · have h := h.2 c_3
    refine J_iconst (v := (-1)) dX9_item_7 (by decide)  ?_
    exact J_iret dX9_item_8 rfl rfl ⟨_, rfl, h⟩
