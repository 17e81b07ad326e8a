def q_X0_ofDouble_77 (p0 : UInt64)  (Q : Int64 → Sto → Prop) (x2 : UInt64) (x4 : Int32) (S : Sto) : Prop := vf_n64 (FP.dsub x2 FP.dconst1) ∧ vf_n64 (FP.dmul (FP.dsub x2 FP.dconst1) 4841369599423283200) ∧ Q ((((x4 + 1023 : Int32).toInt64) <<< ((52 : Int32).toInt64 &&& 63)) ||| (FP.d2l (FP.dmul (FP.dsub x2 FP.dconst1) 4841369599423283200))) S
set_option maxRecDepth 100000 in
set_option maxHeartbeats 4000000 in
theorem l_X0_ofDouble_77 {g : Gv} (p0 : UInt64)  (Q : Int64 → Sto → Prop)   (x2 : UInt64) (x4 : Int32) (S : Sto)  (h : q_X0_ofDouble_77 p0  Q x2 x4 S) : RJ g cX0_ofDouble RX0 (some .long) 6 1 77 [(0, .double p0), (2, .double x2), (4, .int x4)] [] S (Ql Q) := by
  unfold q_X0_ofDouble_77 at h
  refine J_iload dX0_ofDouble_77 2 rfl  ?_
  refine J_sipush (v := 1023) dX0_ofDouble_79 (by decide)  ?_
  refine J_iadd dX0_ofDouble_82  ?_
  refine J_i2l dX0_ofDouble_83  ?_
  refine J_bipush (v := 52) dX0_ofDouble_84 (by decide)  ?_
  refine J_lshl dX0_ofDouble_86  ?_
  refine J_dload_n dX0_ofDouble_87 rfl 1 rfl  ?_
  refine J_dconst1 dX0_ofDouble_88  ?_
  obtain ⟨hz_1, h⟩ := h
  refine J_dsub dX0_ofDouble_89 hz_1  ?_
  refine J_ldc2d (v := 4841369599423283200) dX0_ofDouble_90 tb_3_118  ?_
  obtain ⟨hz_2, h⟩ := h
  refine J_dmul dX0_ofDouble_93 hz_2  ?_
  refine J_d2l dX0_ofDouble_94  ?_
  refine J_lor dX0_ofDouble_95  ?_
  exact J_lret dX0_ofDouble_96 rfl ⟨_, rfl, h⟩
def q_X0_ofDouble_49 (p0 : UInt64)  (Q : Int64 → Sto → Prop) : Nat → UInt64 → Int32 → Int32 → Sto → Prop
  | 0, _, _, _, _ => False
  | n + 1, x2, x4, x5, S => ((100 ≤ x5 → q_X0_ofDouble_77 p0  Q x2 x4 S) ∧ (¬ 100 ≤ x5 → ((0 ≤ (Op.cmpValue (FP.dcmp x2 FP.dconst1) .g) → q_X0_ofDouble_77 p0  Q x2 x4 S) ∧ (¬ 0 ≤ (Op.cmpValue (FP.dcmp x2 FP.dconst1) .g) → vf_n64 (FP.dmul x2 4611686018427387904) ∧ ∀ x2_4 : UInt64, x2_4 = FP.dmul x2 4611686018427387904 → ∀ x4_5 : Int32, x4_5 = x4 + (-1) → ∀ x5_6 : Int32, x5_6 = x5 + 1 → q_X0_ofDouble_49 p0  Q n x2_4 x4_5 x5_6 S))))
set_option maxRecDepth 100000 in
set_option maxHeartbeats 4000000 in
theorem l_X0_ofDouble_49 {g : Gv} (p0 : UInt64)  (Q : Int64 → Sto → Prop)   (n : Nat) : ∀ (x2 : UInt64) (x4 : Int32) (x5 : Int32) (S : Sto)  (h : q_X0_ofDouble_49 p0  Q n x2 x4 x5 S), RJ g cX0_ofDouble RX0 (some .long) 6 1 49 [(0, .double p0), (2, .double x2), (4, .int x4), (5, .int x5)] [] S (Ql Q) := by
  induction n with
  | zero => intro x2 x4 x5 S  h; exact h.elim
  | succ n ih =>
    intro x2 x4 x5 S  h
    unfold q_X0_ofDouble_49 at h
    refine J_iload dX0_ofDouble_49 3 rfl  ?_
    refine J_bipush (v := 100) dX0_ofDouble_51 (by decide)  ?_
    refine J_icmp_ge (tgt := 77) dX0_ofDouble_53 (by decide) (fun c_1 => ?_) (fun c_1 => ?_)
    · have h := h.1 c_1
      refine J_sub (lv' := [(0, .double p0), (2, .double x2), (4, .int x4)]) [0, 1, 2] rfl ?_
      exact l_X0_ofDouble_77 p0  _   _ _ _  h
    · have h := h.2 c_1
      refine J_dload_n dX0_ofDouble_56 rfl 1 rfl  ?_
      refine J_dconst1 dX0_ofDouble_57  ?_
      refine J_dcmp dX0_ofDouble_58  ?_
      refine J_if_ge (tgt := 77) dX0_ofDouble_59 (by decide) (fun c_2 => ?_) (fun c_2 => ?_)
      · have h := h.1 c_2
        refine J_sub (lv' := [(0, .double p0), (2, .double x2), (4, .int x4)]) [0, 1, 2] rfl ?_
        exact l_X0_ofDouble_77 p0  _   _ _ _  h
      · have h := h.2 c_2
        refine J_dload_n dX0_ofDouble_62 rfl 1 rfl  ?_
        refine J_ldc2d (v := 4611686018427387904) dX0_ofDouble_63 tb_3_117  ?_
        obtain ⟨hz_3, h⟩ := h
        refine J_dmul dX0_ofDouble_66 hz_3  ?_
        refine J_topd (fun x2_4 ex2_4 => ?_)
        have h := h x2_4 ex2_4
        refine J_dstore_n (lv' := [(0, .double p0), (2, .double x2_4), (4, .int x4), (5, .int x5)]) dX0_ofDouble_67 rfl (by decide) [1, 0, 2, 3] rfl  ?_
        obtain ⟨x4_5, ex4_5⟩ : ∃ y : Int32, y = x4 + (-1) := ⟨_, rfl⟩
        have h := h x4_5 ex4_5
        refine J_iinc (v := x4_5) (lv' := [(0, .double p0), (2, .double x2_4), (4, .int x4_5), (5, .int x5)]) dX0_ofDouble_68 (q := 2) rfl (by rw [ex4_5]; rfl) (by decide) [1, 2, 0, 3] rfl  ?_
        obtain ⟨x5_6, ex5_6⟩ : ∃ y : Int32, y = x5 + 1 := ⟨_, rfl⟩
        have h := h x5_6 ex5_6
        refine J_iinc (v := x5_6) (lv' := [(0, .double p0), (2, .double x2_4), (4, .int x4_5), (5, .int x5_6)]) dX0_ofDouble_71 (q := 3) rfl (by rw [ex5_6]; rfl) (by decide) [1, 2, 3, 0] rfl  ?_
        refine J_goto (tgt := 49) dX0_ofDouble_74 (by decide)  ?_
        exact ih _ _ _ _  h
def q_X0_ofDouble_46 (p0 : UInt64)  (Q : Int64 → Sto → Prop) (x2 : UInt64) (x4 : Int32) (S : Sto) : Prop := (∃ n_49, q_X0_ofDouble_49 p0  Q n_49 x2 x4 0 S)
set_option maxRecDepth 100000 in
set_option maxHeartbeats 4000000 in
theorem l_X0_ofDouble_46 {g : Gv} (p0 : UInt64)  (Q : Int64 → Sto → Prop)   (x2 : UInt64) (x4 : Int32) (S : Sto)  (h : q_X0_ofDouble_46 p0  Q x2 x4 S) : RJ g cX0_ofDouble RX0 (some .long) 6 1 46 [(0, .double p0), (2, .double x2), (4, .int x4)] [] S (Ql Q) := by
  unfold q_X0_ofDouble_46 at h
  refine J_iconst (v := 0) dX0_ofDouble_46 (by decide)  ?_
  refine J_istore (lv' := [(0, .double p0), (2, .double x2), (4, .int x4), (5, .int 0)]) dX0_ofDouble_47 (by decide) [1, 2, 3, 0] rfl  ?_
  obtain ⟨n, h⟩ := h
  exact l_X0_ofDouble_49 p0  _   n _ _ _ _  h
def q_X0_ofDouble_16 (p0 : UInt64)  (Q : Int64 → Sto → Prop) : Nat → UInt64 → Int32 → Int32 → Sto → Prop
  | 0, _, _, _, _ => False
  | n + 1, x2, x4, x5, S => ((100 ≤ x5 → q_X0_ofDouble_46 p0  Q x2 x4 S) ∧ (¬ 100 ≤ x5 → (((Op.cmpValue (FP.dcmp x2 4611686018427387904) .l) < 0 → q_X0_ofDouble_46 p0  Q x2 x4 S) ∧ (¬ (Op.cmpValue (FP.dcmp x2 4611686018427387904) .l) < 0 → vf_n64 (FP.ddiv x2 4611686018427387904) ∧ ∀ x2_4 : UInt64, x2_4 = FP.ddiv x2 4611686018427387904 → ∀ x4_5 : Int32, x4_5 = x4 + 1 → ∀ x5_6 : Int32, x5_6 = x5 + 1 → q_X0_ofDouble_16 p0  Q n x2_4 x4_5 x5_6 S))))
set_option maxRecDepth 100000 in
set_option maxHeartbeats 4000000 in
theorem l_X0_ofDouble_16 {g : Gv} (p0 : UInt64)  (Q : Int64 → Sto → Prop)   (n : Nat) : ∀ (x2 : UInt64) (x4 : Int32) (x5 : Int32) (S : Sto)  (h : q_X0_ofDouble_16 p0  Q n x2 x4 x5 S), RJ g cX0_ofDouble RX0 (some .long) 6 1 16 [(0, .double p0), (2, .double x2), (4, .int x4), (5, .int x5)] [] S (Ql Q) := by
  induction n with
  | zero => intro x2 x4 x5 S  h; exact h.elim
  | succ n ih =>
    intro x2 x4 x5 S  h
    unfold q_X0_ofDouble_16 at h
    refine J_iload dX0_ofDouble_16 3 rfl  ?_
    refine J_bipush (v := 100) dX0_ofDouble_18 (by decide)  ?_
    refine J_icmp_ge (tgt := 46) dX0_ofDouble_20 (by decide) (fun c_1 => ?_) (fun c_1 => ?_)
    · have h := h.1 c_1
      refine J_sub (lv' := [(0, .double p0), (2, .double x2), (4, .int x4)]) [0, 1, 2] rfl ?_
      exact l_X0_ofDouble_46 p0  _   _ _ _  h
    · have h := h.2 c_1
      refine J_dload_n dX0_ofDouble_23 rfl 1 rfl  ?_
      refine J_ldc2d (v := 4611686018427387904) dX0_ofDouble_24 tb_3_117  ?_
      refine J_dcmp dX0_ofDouble_27  ?_
      refine J_if_lt (tgt := 46) dX0_ofDouble_28 (by decide) (fun c_2 => ?_) (fun c_2 => ?_)
      · have h := h.1 c_2
        refine J_sub (lv' := [(0, .double p0), (2, .double x2), (4, .int x4)]) [0, 1, 2] rfl ?_
        exact l_X0_ofDouble_46 p0  _   _ _ _  h
      · have h := h.2 c_2
        refine J_dload_n dX0_ofDouble_31 rfl 1 rfl  ?_
        refine J_ldc2d (v := 4611686018427387904) dX0_ofDouble_32 tb_3_117  ?_
        obtain ⟨hz_3, h⟩ := h
        refine J_ddiv dX0_ofDouble_35 hz_3  ?_
        refine J_topd (fun x2_4 ex2_4 => ?_)
        have h := h x2_4 ex2_4
        refine J_dstore_n (lv' := [(0, .double p0), (2, .double x2_4), (4, .int x4), (5, .int x5)]) dX0_ofDouble_36 rfl (by decide) [1, 0, 2, 3] rfl  ?_
        obtain ⟨x4_5, ex4_5⟩ : ∃ y : Int32, y = x4 + 1 := ⟨_, rfl⟩
        have h := h x4_5 ex4_5
        refine J_iinc (v := x4_5) (lv' := [(0, .double p0), (2, .double x2_4), (4, .int x4_5), (5, .int x5)]) dX0_ofDouble_37 (q := 2) rfl (by rw [ex4_5]; rfl) (by decide) [1, 2, 0, 3] rfl  ?_
        obtain ⟨x5_6, ex5_6⟩ : ∃ y : Int32, y = x5 + 1 := ⟨_, rfl⟩
        have h := h x5_6 ex5_6
        refine J_iinc (v := x5_6) (lv' := [(0, .double p0), (2, .double x2_4), (4, .int x4_5), (5, .int x5_6)]) dX0_ofDouble_40 (q := 3) rfl (by rw [ex5_6]; rfl) (by decide) [1, 2, 3, 0] rfl  ?_
        refine J_goto (tgt := 16) dX0_ofDouble_43 (by decide)  ?_
        exact ih _ _ _ _  h
def wp_X0_ofDouble (p0 : UInt64) (S : Sto) (Q : Int64 → Sto → Prop) : Prop := ((0 < (Op.cmpValue (FP.dcmp p0 FP.dconst0) .l) → (∃ n_16, q_X0_ofDouble_16 p0  Q n_16 p0 0 0 S)) ∧ (¬ 0 < (Op.cmpValue (FP.dcmp p0 FP.dconst0) .l) → Q 0 S))
set_option maxRecDepth 100000 in
set_option maxHeartbeats 4000000 in
theorem c_X0_ofDouble {g : Gv} (p0 : UInt64)  (S : Sto) (Q : Int64 → Sto → Prop) (h : wp_X0_ofDouble p0 S Q) : CT g yX0_ofDouble cX0_ofDouble 6 (some .long) 1 [.double p0] S (Ql Q) := by
  unfold wp_X0_ofDouble at h
  refine CT.of (by decide) (Nat.le_of_ble_eq_true rfl) ?_
  refine J_sub (lv' := [(0, .double p0)]) [0] rfl ?_
  refine J_dload_n dX0_ofDouble_0 rfl 0 rfl  ?_
  refine J_dconst0 dX0_ofDouble_1  ?_
  refine J_dcmp dX0_ofDouble_2  ?_
  refine J_if_gt (tgt := 8) dX0_ofDouble_3 (by decide) (fun c_1 => ?_) (fun c_1 => ?_)
  · have h := h.1 c_1
    refine J_dload_n dX0_ofDouble_8 rfl 0 rfl  ?_
    refine J_dstore_n (lv' := [(0, .double p0), (2, .double p0)]) dX0_ofDouble_9 rfl (by decide) [1, 0] rfl  ?_
    refine J_iconst (v := 0) dX0_ofDouble_10 (by decide)  ?_
    refine J_istore (lv' := [(0, .double p0), (2, .double p0), (4, .int 0)]) dX0_ofDouble_11 (by decide) [1, 2, 0] rfl  ?_
    refine J_iconst (v := 0) dX0_ofDouble_13 (by decide)  ?_
    refine J_istore (lv' := [(0, .double p0), (2, .double p0), (4, .int 0), (5, .int 0)]) dX0_ofDouble_14 (by decide) [1, 2, 3, 0] rfl  ?_
    obtain ⟨n, h⟩ := h
    exact l_X0_ofDouble_16 p0  _   n _ _ _ _  h
  · have h := h.2 c_1
    refine J_lconst (v := 0) dX0_ofDouble_6 (by decide)  ?_
    exact J_lret dX0_ofDouble_7 rfl ⟨_, rfl, h⟩
def q_X0_ofFloat_23 (p0 : UInt32)  (Q : Int32 → Sto → Prop) (t0 : Int32) (S : Sto) : Prop := Q t0 S
set_option maxRecDepth 100000 in
set_option maxHeartbeats 4000000 in
theorem l_X0_ofFloat_23 {g : Gv} (p0 : UInt32)  (Q : Int32 → Sto → Prop)   (t0 : Int32) (S : Sto)  (h : q_X0_ofFloat_23 p0  Q t0 S) : RJ g cX0_ofFloat RX0 (some .int) 1 2 23 [(0, .float p0)] [.int t0] S (Qi Q) := by
  unfold q_X0_ofFloat_23 at h
  exact J_iret dX0_ofFloat_23 rfl rfl ⟨_, rfl, h⟩
def wp_X0_ofFloat (p0 : UInt32) (S : Sto) (Q : Int32 → Sto → Prop) : Prop := (((Op.cmpValue (FP.fcmp p0 FP.fconst0) .l) ≤ 0 → q_X0_ofFloat_23 p0  Q 0 S) ∧ (¬ (Op.cmpValue (FP.fcmp p0 FP.fconst0) .l) ≤ 0 → vf_n64 (FP.f2d p0) ∧ wp_X0_ofDouble (FP.f2d p0) S (fun r_4 S_3 => q_X0_ofFloat_23 p0  Q (((r_4 >>> ((29 : Int32).toInt64 &&& 63)) - 7516192768 : Int64).toInt32) S_3)))
set_option maxRecDepth 100000 in
set_option maxHeartbeats 4000000 in
theorem c_X0_ofFloat {g : Gv} (p0 : UInt32)  (S : Sto) (Q : Int32 → Sto → Prop) (h : wp_X0_ofFloat p0 S Q) : CT g yX0_ofFloat cX0_ofFloat 1 (some .int) 2 [.float p0] S (Qi Q) := by
  unfold wp_X0_ofFloat at h
  refine CT.of (by decide) (Nat.le_of_ble_eq_true rfl) ?_
  refine J_sub (lv' := [(0, .float p0)]) [0] rfl ?_
  refine J_fload_n dX0_ofFloat_0 rfl 0 rfl  ?_
  refine J_fconst0 dX0_ofFloat_1  ?_
  refine J_fcmp dX0_ofFloat_2  ?_
  refine J_if_le (tgt := 22) dX0_ofFloat_3 (by decide) (fun c_1 => ?_) (fun c_1 => ?_)
  · have h := h.1 c_1
    refine J_iconst (v := 0) dX0_ofFloat_22 (by decide)  ?_
    exact l_X0_ofFloat_23 p0  _   _ _  h
  · have h := h.2 c_1
    refine J_fload_n dX0_ofFloat_6 rfl 0 rfl  ?_
    obtain ⟨hz_2, h⟩ := h
    refine J_f2d dX0_ofFloat_7 hz_2  ?_
    refine J_callS (As := [.double (FP.f2d p0)]) (rest := []) (n := 1) dX0_ofFloat_8 (c_X0_ofDouble (FP.f2d p0)  _ _ h) tb_3_116 tb_3_114 tb_1_12 tb_3_115 (by decide) rfl (by decide) (by decide) (Nat.le_of_ble_eq_true rfl) rfl (fun v_r_4 S_3 hq => ?_)
    obtain ⟨r_4, rfl, h⟩ := hq
    dsimp only [Option.toList, List.cons_append, List.nil_append]
    refine J_bipush (v := 29) dX0_ofFloat_11 (by decide)  ?_
    refine J_lshr dX0_ofFloat_13  ?_
    refine J_ldc2 (v := 7516192768) dX0_ofFloat_14 tb_3_119  ?_
    refine J_lsub dX0_ofFloat_17  ?_
    refine J_l2i dX0_ofFloat_18  ?_
    refine J_goto (tgt := 23) dX0_ofFloat_19 (by decide)  ?_
    exact l_X0_ofFloat_23 p0  _   _ _  h
def q_X2_copy_31 (p0 : Nat) (p1 : Nat) (p2 : Int32)  (Q : Sto → Prop)  (S : Sto) : Prop := Q S
set_option maxRecDepth 100000 in
set_option maxHeartbeats 4000000 in
theorem l_X2_copy_31 {g : Gv} (p0 : Nat) (p1 : Nat) (p2 : Int32)  (Q : Sto → Prop)  (hp0 : kd p0 = 0) (hp1 : kd p1 = 0)  (S : Sto)  (h : q_X2_copy_31 p0 p1 p2  Q  S) : RJ g cX2_copy RX2 none 4 1 31 [(0, .ref (g.1 + p0)), (1, .ref (g.1 + p1)), (2, .int p2)] [] S (Qv Q) := by
  unfold q_X2_copy_31 at h
  exact J_vret dX2_copy_31 rfl ⟨rfl, h⟩
def q_X2_copy_2 (p0 : Nat) (p1 : Nat) (p2 : Int32)  (Q : Sto → Prop) : Nat → Int32 → Sto → Prop
  | 0, _, _ => False
  | n + 1, x3, S => ((p2 ≤ x3 → q_X2_copy_31 p0 p1 p2  Q  S) ∧ (¬ p2 ≤ x3 → (((nI (ln p0)) ≤ x3 → q_X2_copy_31 p0 p1 p2  Q  S) ∧ (¬ (nI (ln p0)) ≤ x3 → (((nI (ln p1)) ≤ x3 → q_X2_copy_31 p0 p1 p2  Q  S) ∧ (¬ (nI (ln p1)) ≤ x3 → vp_in x3 (ln p0) ∧ vp_in x3 (ln p1) ∧ ∀ S_6 : Sto, S_6 = uA S p1 (x3 : Int32).toNatClampNeg (S.1 p0 (x3 : Int32).toNatClampNeg) → ∀ x3_7 : Int32, x3_7 = x3 + 1 → q_X2_copy_2 p0 p1 p2  Q n x3_7 S_6))))))
set_option maxRecDepth 100000 in
set_option maxHeartbeats 4000000 in
theorem l_X2_copy_2 {g : Gv} (p0 : Nat) (p1 : Nat) (p2 : Int32)  (Q : Sto → Prop)  (hp0 : kd p0 = 0) (hp1 : kd p1 = 0) (n : Nat) : ∀ (x3 : Int32) (S : Sto)  (h : q_X2_copy_2 p0 p1 p2  Q n x3 S), RJ g cX2_copy RX2 none 4 1 2 [(0, .ref (g.1 + p0)), (1, .ref (g.1 + p1)), (2, .int p2), (3, .int x3)] [] S (Qv Q) := by
  induction n with
  | zero => intro x3 S  h; exact h.elim
  | succ n ih =>
    intro x3 S  h
    unfold q_X2_copy_2 at h
    refine J_iload_n dX2_copy_2 rfl 3 rfl  ?_
    refine J_iload_n dX2_copy_3 rfl 2 rfl  ?_
    refine J_icmp_ge (tgt := 31) dX2_copy_4 (by decide) (fun c_1 => ?_) (fun c_1 => ?_)
    · have h := h.1 c_1
      refine J_sub (lv' := [(0, .ref (g.1 + p0)), (1, .ref (g.1 + p1)), (2, .int p2)]) [0, 1, 2] rfl ?_
      exact l_X2_copy_31 p0 p1 p2  _  hp0 hp1  _  h
    · have h := h.2 c_1
      refine J_iload_n dX2_copy_7 rfl 3 rfl  ?_
      refine J_aload_n dX2_copy_8 rfl 0 rfl  ?_
      refine J_alen0 (n := ln p0) dX2_copy_9 hp0 rfl  ?_
      refine J_icmp_ge (tgt := 31) dX2_copy_10 (by decide) (fun c_2 => ?_) (fun c_2 => ?_)
      · have h := h.1 c_2
        refine J_sub (lv' := [(0, .ref (g.1 + p0)), (1, .ref (g.1 + p1)), (2, .int p2)]) [0, 1, 2] rfl ?_
        exact l_X2_copy_31 p0 p1 p2  _  hp0 hp1  _  h
      · have h := h.2 c_2
        refine J_iload_n dX2_copy_13 rfl 3 rfl  ?_
        refine J_aload_n dX2_copy_14 rfl 1 rfl  ?_
        refine J_alen0 (n := ln p1) dX2_copy_15 hp1 rfl  ?_
        refine J_icmp_ge (tgt := 31) dX2_copy_16 (by decide) (fun c_3 => ?_) (fun c_3 => ?_)
        · have h := h.1 c_3
          refine J_sub (lv' := [(0, .ref (g.1 + p0)), (1, .ref (g.1 + p1)), (2, .int p2)]) [0, 1, 2] rfl ?_
          exact l_X2_copy_31 p0 p1 p2  _  hp0 hp1  _  h
        · have h := h.2 c_3
          refine J_aload_n dX2_copy_19 rfl 1 rfl  ?_
          refine J_iload_n dX2_copy_20 rfl 3 rfl  ?_
          refine J_aload_n dX2_copy_21 rfl 0 rfl  ?_
          refine J_iload_n dX2_copy_22 rfl 3 rfl  ?_
          obtain ⟨hi_4, h⟩ := h
          refine J_iald dX2_copy_23 hp0 hi_4  ?_
          obtain ⟨hi_5, h⟩ := h
          refine J_iast dX2_copy_24 hp1 hi_5  ?_
          refine J_nmS (fun S_6 eS_6 => ?_)
          have h := h S_6 eS_6
          obtain ⟨x3_7, ex3_7⟩ : ∃ y : Int32, y = x3 + 1 := ⟨_, rfl⟩
          have h := h x3_7 ex3_7
          refine J_iinc (v := x3_7) (lv' := [(0, .ref (g.1 + p0)), (1, .ref (g.1 + p1)), (2, .int p2), (3, .int x3_7)]) dX2_copy_25 (q := 3) rfl (by rw [ex3_7]; rfl) (by decide) [1, 2, 3, 0] rfl  ?_
          refine J_goto (tgt := 2) dX2_copy_28 (by decide)  ?_
          exact ih _ _  h
def wp_X2_copy (p0 : Nat) (p1 : Nat) (p2 : Int32) (S : Sto) (Q : Sto → Prop) : Prop := (∃ n_2, q_X2_copy_2 p0 p1 p2  Q n_2 0 S)
set_option maxRecDepth 100000 in
set_option maxHeartbeats 4000000 in
theorem c_X2_copy {g : Gv} (p0 : Nat) (p1 : Nat) (p2 : Int32) (hp0 : kd p0 = 0) (hp1 : kd p1 = 0) (S : Sto) (Q : Sto → Prop) (h : wp_X2_copy p0 p1 p2 S Q) : CT g yX2_copy cX2_copy 4 none 1 [.ref (g.1 + p0), .ref (g.1 + p1), .int p2] S (Qv Q) := by
  unfold wp_X2_copy at h
  refine CT.of (by decide) (Nat.le_of_ble_eq_true rfl) ?_
  refine J_sub (lv' := [(0, .ref (g.1 + p0)), (1, .ref (g.1 + p1)), (2, .int p2)]) [0, 1, 2] rfl ?_
  refine J_iconst (v := 0) dX2_copy_0 (by decide)  ?_
  refine J_istore_n (lv' := [(0, .ref (g.1 + p0)), (1, .ref (g.1 + p1)), (2, .int p2), (3, .int 0)]) dX2_copy_1 rfl (by decide) [1, 2, 3, 0] rfl  ?_
  obtain ⟨n, h⟩ := h
  exact l_X2_copy_2 p0 p1 p2  _  hp0 hp1 n _ _  h
def wp_X4_width  (S : Sto) (Q : Int32 → Sto → Prop) : Prop := Q (1 <<< ((S.1 1 0) &&& 31)) S
set_option maxRecDepth 100000 in
set_option maxHeartbeats 4000000 in
theorem c_X4_width {g : Gv}   (S : Sto) (Q : Int32 → Sto → Prop) (h : wp_X4_width  S Q) : CT g yX4_width cX4_width 1 (some .int) 1 [.ref (g.1 + 1)] S (Qi Q) := by
  unfold wp_X4_width at h
  refine CT.of (by decide) (Nat.le_of_ble_eq_true rfl) ?_
  refine J_sub (lv' := [(0, .ref (g.1 + 1))]) [0] rfl ?_
  refine J_iconst (v := 1) dX4_width_0 (by decide)  ?_
  refine J_aload_n dX4_width_1 rfl 0 rfl  ?_
  refine J_geti (ci := 2) dX4_width_2 0 rfl giX4 (by decide) (by decide) rfl rfl tb_1_32 rfl  ?_
  refine J_ishl dX4_width_5  ?_
  exact J_iret dX4_width_6 rfl rfl ⟨_, rfl, h⟩
def q_X2_inverse_2 (p0 : Int32) (p1 : Int32)  (Q : Int32 → Sto → Prop) : Nat → Int32 → Sto → Prop
  | 0, _, _ => False
  | n + 1, x2, S => ((p1 ≤ x2 → Q 0 S) ∧ (¬ p1 ≤ x2 → ¬ p1 = 0 ∧ ((¬ ((p0 * x2) - (p0 * x2) / p1 * p1) = 1 → ∀ x2_4 : Int32, x2_4 = x2 + 1 → q_X2_inverse_2 p0 p1  Q n x2_4 S) ∧ (((p0 * x2) - (p0 * x2) / p1 * p1) = 1 → Q x2 S))))
set_option maxRecDepth 100000 in
set_option maxHeartbeats 4000000 in
theorem l_X2_inverse_2 {g : Gv} (p0 : Int32) (p1 : Int32)  (Q : Int32 → Sto → Prop)   (n : Nat) : ∀ (x2 : Int32) (S : Sto)  (h : q_X2_inverse_2 p0 p1  Q n x2 S), RJ g cX2_inverse RX2 (some .int) 3 1 2 [(0, .int p0), (1, .int p1), (2, .int x2)] [] S (Qi Q) := by
  induction n with
  | zero => intro x2 S  h; exact h.elim
  | succ n ih =>
    intro x2 S  h
    unfold q_X2_inverse_2 at h
    refine J_iload_n dX2_inverse_2 rfl 2 rfl  ?_
    refine J_iload_n dX2_inverse_3 rfl 1 rfl  ?_
    refine J_icmp_ge (tgt := 24) dX2_inverse_4 (by decide) (fun c_1 => ?_) (fun c_1 => ?_)
    · have h := h.1 c_1
      refine J_iconst (v := 0) dX2_inverse_24 (by decide)  ?_
      exact J_iret dX2_inverse_25 rfl rfl ⟨_, rfl, h⟩
    · have h := h.2 c_1
      refine J_iload_n dX2_inverse_7 rfl 0 rfl  ?_
      refine J_iload_n dX2_inverse_8 rfl 2 rfl  ?_
      refine J_imul dX2_inverse_9  ?_
      refine J_iload_n dX2_inverse_10 rfl 1 rfl  ?_
      obtain ⟨hz_2, h⟩ := h
      refine J_irem dX2_inverse_11 hz_2  ?_
      refine J_iconst (v := 1) dX2_inverse_12 (by decide)  ?_
      refine J_icmp_ne (tgt := 18) dX2_inverse_13 (by decide) (fun c_3 => ?_) (fun c_3 => ?_)
      · have h := h.1 c_3
        obtain ⟨x2_4, ex2_4⟩ : ∃ y : Int32, y = x2 + 1 := ⟨_, rfl⟩
        have h := h x2_4 ex2_4
        refine J_iinc (v := x2_4) (lv' := [(0, .int p0), (1, .int p1), (2, .int x2_4)]) dX2_inverse_18 (q := 2) rfl (by rw [ex2_4]; rfl) (by decide) [1, 2, 0] rfl  ?_
        refine J_goto (tgt := 2) dX2_inverse_21 (by decide)  ?_
        exact ih _ _  h
      · have h := h.2 c_3
        refine J_iload_n dX2_inverse_16 rfl 2 rfl  ?_
        exact J_iret dX2_inverse_17 rfl rfl ⟨_, rfl, h⟩
def wp_X2_inverse (p0 : Int32) (p1 : Int32) (S : Sto) (Q : Int32 → Sto → Prop) : Prop := (∃ n_2, q_X2_inverse_2 p0 p1  Q n_2 1 S)
set_option maxRecDepth 100000 in
set_option maxHeartbeats 4000000 in
theorem c_X2_inverse {g : Gv} (p0 : Int32) (p1 : Int32)  (S : Sto) (Q : Int32 → Sto → Prop) (h : wp_X2_inverse p0 p1 S Q) : CT g yX2_inverse cX2_inverse 3 (some .int) 1 [.int p0, .int p1] S (Qi Q) := by
  unfold wp_X2_inverse at h
  refine CT.of (by decide) (Nat.le_of_ble_eq_true rfl) ?_
  refine J_sub (lv' := [(0, .int p0), (1, .int p1)]) [0, 1] rfl ?_
  refine J_iconst (v := 1) dX2_inverse_0 (by decide)  ?_
  refine J_istore_n (lv' := [(0, .int p0), (1, .int p1), (2, .int 1)]) dX2_inverse_1 rfl (by decide) [1, 2, 0] rfl  ?_
  obtain ⟨n, h⟩ := h
  exact l_X2_inverse_2 p0 p1  _   n _ _  h
def q_X2_placeInOrder_24 (p0 : Int32) (p1 : Int32)  (Q : Int32 → Sto → Prop) (t0 : Int32) (S : Sto) : Prop := Q t0 S
set_option maxRecDepth 100000 in
set_option maxHeartbeats 4000000 in
theorem l_X2_placeInOrder_24 {g : Gv} (p0 : Int32) (p1 : Int32)  (Q : Int32 → Sto → Prop)   (t0 : Int32) (S : Sto)  (h : q_X2_placeInOrder_24 p0 p1  Q t0 S) : RJ g cX2_placeInOrder RX2 (some .int) 2 1 24 [(0, .int p0), (1, .int p1)] [.int t0] S (Qi Q) := by
  unfold q_X2_placeInOrder_24 at h
  exact J_iret dX2_placeInOrder_24 rfl rfl ⟨_, rfl, h⟩
def q_X2_placeInOrder_23 (p0 : Int32) (p1 : Int32)  (Q : Int32 → Sto → Prop)  (S : Sto) : Prop := q_X2_placeInOrder_24 p0 p1  Q p0 S
set_option maxRecDepth 100000 in
set_option maxHeartbeats 4000000 in
theorem l_X2_placeInOrder_23 {g : Gv} (p0 : Int32) (p1 : Int32)  (Q : Int32 → Sto → Prop)    (S : Sto)  (h : q_X2_placeInOrder_23 p0 p1  Q  S) : RJ g cX2_placeInOrder RX2 (some .int) 2 1 23 [(0, .int p0), (1, .int p1)] [] S (Qi Q) := by
  unfold q_X2_placeInOrder_23 at h
  refine J_iload_n dX2_placeInOrder_23 rfl 0 rfl  ?_
  exact l_X2_placeInOrder_24 p0 p1  _   _ _  h
def wp_X2_placeInOrder (p0 : Int32) (p1 : Int32) (S : Sto) (Q : Int32 → Sto → Prop) : Prop := ((¬ p1 = 1 → q_X2_placeInOrder_23 p0 p1  Q  S) ∧ (p1 = 1 → ((p0 < 0 → q_X2_placeInOrder_23 p0 p1  Q  S) ∧ (¬ p0 < 0 → ((16 ≤ p0 → q_X2_placeInOrder_23 p0 p1  Q  S) ∧ (¬ 16 ≤ p0 → vp_in p0 16 ∧ q_X2_placeInOrder_24 p0 p1  Q (pbd ((p0 : Int32)).toNatClampNeg) S))))))
set_option maxRecDepth 100000 in
set_option maxHeartbeats 4000000 in
theorem c_X2_placeInOrder {g : Gv} (p0 : Int32) (p1 : Int32)  (S : Sto) (Q : Int32 → Sto → Prop) (h : wp_X2_placeInOrder p0 p1 S Q) : CT g yX2_placeInOrder cX2_placeInOrder 2 (some .int) 1 [.int p0, .int p1] S (Qi Q) := by
  unfold wp_X2_placeInOrder at h
  refine CT.of (by decide) (Nat.le_of_ble_eq_true rfl) ?_
  refine J_sub (lv' := [(0, .int p0), (1, .int p1)]) [0, 1] rfl ?_
  refine J_iload_n dX2_placeInOrder_0 rfl 1 rfl  ?_
  refine J_iconst (v := 1) dX2_placeInOrder_1 (by decide)  ?_
  refine J_icmp_ne (tgt := 23) dX2_placeInOrder_2 (by decide) (fun c_1 => ?_) (fun c_1 => ?_)
  · have h := h.1 c_1
    exact l_X2_placeInOrder_23 p0 p1  _    _  h
  · have h := h.2 c_1
    refine J_iload_n dX2_placeInOrder_5 rfl 0 rfl  ?_
    refine J_if_lt (tgt := 23) dX2_placeInOrder_6 (by decide) (fun c_2 => ?_) (fun c_2 => ?_)
    · have h := h.1 c_2
      exact l_X2_placeInOrder_23 p0 p1  _    _  h
    · have h := h.2 c_2
      refine J_iload_n dX2_placeInOrder_9 rfl 0 rfl  ?_
      refine J_bipush (v := 16) dX2_placeInOrder_10 (by decide)  ?_
      refine J_icmp_ge (tgt := 23) dX2_placeInOrder_12 (by decide) (fun c_3 => ?_) (fun c_3 => ?_)
      · have h := h.1 c_3
        exact l_X2_placeInOrder_23 p0 p1  _    _  h
      · have h := h.2 c_3
        refine J_pbd dX2_placeInOrder_15 tb_2_183  ?_
        refine J_iload_n dX2_placeInOrder_18 rfl 0 rfl  ?_
        obtain ⟨hi_4, h⟩ := h
        refine J_pld dX2_placeInOrder_19 hi_4  ?_
        refine J_goto (tgt := 24) dX2_placeInOrder_20 (by decide)  ?_
        exact l_X2_placeInOrder_24 p0 p1  _   _ _  h
def q_X2_leadIn_36 (p0 : Nat) (p1 : Int32) (p2 : Int32) (R2 : Int32 → Sto → Prop) (Q : Int32 → Sto → Prop) (x3 : Int32) (S : Sto) : Prop := ∀ x3_1 : Int32, x3_1 = x3 + 1 → R2 x3_1 S
set_option maxRecDepth 100000 in
set_option maxHeartbeats 4000000 in
theorem l_X2_leadIn_36 {g : Gv} (p0 : Nat) (p1 : Int32) (p2 : Int32) (R2 : Int32 → Sto → Prop) (Q : Int32 → Sto → Prop) (hR2 : ∀ (y3 : Int32) (S : Sto), R2 y3 S → RJ g cX2_leadIn RX2 (some .int) 5 2 2 [(0, .ref (g.1 + p0)), (1, .int p1), (2, .int p2), (3, .int y3)] [] S (Qi Q)) (hp0 : kd p0 = 0) (x3 : Int32) (S : Sto)  (h : q_X2_leadIn_36 p0 p1 p2 R2 Q x3 S) : RJ g cX2_leadIn RX2 (some .int) 5 2 36 [(0, .ref (g.1 + p0)), (1, .int p1), (2, .int p2), (3, .int x3)] [] S (Qi Q) := by
  unfold q_X2_leadIn_36 at h
  obtain ⟨x3_1, ex3_1⟩ : ∃ y : Int32, y = x3 + 1 := ⟨_, rfl⟩
  have h := h x3_1 ex3_1
  refine J_iinc (v := x3_1) (lv' := [(0, .ref (g.1 + p0)), (1, .int p1), (2, .int p2), (3, .int x3_1)]) dX2_leadIn_36 (q := 3) rfl (by rw [ex3_1]; rfl) (by decide) [1, 2, 3, 0] rfl  ?_
  refine J_goto (tgt := 2) dX2_leadIn_39 (by decide)  ?_
  exact hR2 _ _  h
def q_X2_leadIn_13 (p0 : Nat) (p1 : Int32) (p2 : Int32) (R2 : Int32 → Sto → Prop) (Q : Int32 → Sto → Prop) (x3 : Int32) (S : Sto) : Prop := wp_X2_placeInOrder x3 p2 S (fun r_2 S_1 => ((p1 ≤ r_2 → q_X2_leadIn_36 p0 p1 p2 R2 Q x3 S_1) ∧ (¬ p1 ≤ r_2 → vp_in r_2 (ln p0) ∧ (((S_1.1 p0 (r_2 : Int32).toNatClampNeg) = 0 → q_X2_leadIn_36 p0 p1 p2 R2 Q x3 S_1) ∧ (¬ (S_1.1 p0 (r_2 : Int32).toNatClampNeg) = 0 → Q r_2 S_1)))))
set_option maxRecDepth 100000 in
set_option maxHeartbeats 4000000 in
theorem l_X2_leadIn_13 {g : Gv} (p0 : Nat) (p1 : Int32) (p2 : Int32) (R2 : Int32 → Sto → Prop) (Q : Int32 → Sto → Prop) (hR2 : ∀ (y3 : Int32) (S : Sto), R2 y3 S → RJ g cX2_leadIn RX2 (some .int) 5 2 2 [(0, .ref (g.1 + p0)), (1, .int p1), (2, .int p2), (3, .int y3)] [] S (Qi Q)) (hp0 : kd p0 = 0) (x3 : Int32) (S : Sto)  (h : q_X2_leadIn_13 p0 p1 p2 R2 Q x3 S) : RJ g cX2_leadIn RX2 (some .int) 5 2 13 [(0, .ref (g.1 + p0)), (1, .int p1), (2, .int p2), (3, .int x3)] [] S (Qi Q) := by
  unfold q_X2_leadIn_13 at h
  refine J_iload_n dX2_leadIn_13 rfl 3 rfl  ?_
  refine J_iload_n dX2_leadIn_14 rfl 2 rfl  ?_
  refine J_callS (As := [.int x3, .int p2]) (rest := []) (n := 2) dX2_leadIn_15 (c_X2_placeInOrder x3 p2  _ _ h) tb_2_182 tb_2_180 tb_1_9 tb_2_181 (by decide) rfl (by decide) (by decide) (Nat.le_of_ble_eq_true rfl) rfl (fun v_r_2 S_1 hq => ?_)
  obtain ⟨r_2, rfl, h⟩ := hq
  dsimp only [Option.toList, List.cons_append, List.nil_append]
  refine J_istore (lv' := [(0, .ref (g.1 + p0)), (1, .int p1), (2, .int p2), (3, .int x3), (4, .int r_2)]) dX2_leadIn_18 (by decide) [1, 2, 3, 4, 0] rfl  ?_
  refine J_iload dX2_leadIn_20 4 rfl  ?_
  refine J_iload_n dX2_leadIn_22 rfl 1 rfl  ?_
  refine J_icmp_ge (tgt := 36) dX2_leadIn_23 (by decide) (fun c_3 => ?_) (fun c_3 => ?_)
  · have h := h.1 c_3
    refine J_sub (lv' := [(0, .ref (g.1 + p0)), (1, .int p1), (2, .int p2), (3, .int x3)]) [0, 1, 2, 3] rfl ?_
    exact l_X2_leadIn_36 p0 p1 p2 _ _ hR2 hp0 _ _  h
  · have h := h.2 c_3
    refine J_aload_n dX2_leadIn_26 rfl 0 rfl  ?_
    refine J_iload dX2_leadIn_27 4 rfl  ?_
    obtain ⟨hi_4, h⟩ := h
    refine J_iald dX2_leadIn_29 hp0 hi_4  ?_
    refine J_if_eq (tgt := 36) dX2_leadIn_30 (by decide) (fun c_5 => ?_) (fun c_5 => ?_)
    · have h := h.1 c_5
      refine J_sub (lv' := [(0, .ref (g.1 + p0)), (1, .int p1), (2, .int p2), (3, .int x3)]) [0, 1, 2, 3] rfl ?_
      exact l_X2_leadIn_36 p0 p1 p2 _ _ hR2 hp0 _ _  h
    · have h := h.2 c_5
      refine J_iload dX2_leadIn_33 4 rfl  ?_
      exact J_iret dX2_leadIn_35 rfl rfl ⟨_, rfl, h⟩
def q_X2_leadIn_2 (p0 : Nat) (p1 : Int32) (p2 : Int32)  (Q : Int32 → Sto → Prop) : Nat → Int32 → Sto → Prop
  | 0, _, _ => False
  | n + 1, x3, S => ((x3 < p1 → q_X2_leadIn_13 p0 p1 p2 (fun y3 S => q_X2_leadIn_2 p0 p1 p2  Q n y3 S) Q x3 S) ∧ (¬ x3 < p1 → ((16 ≤ x3 → Q ((-1)) S) ∧ (¬ 16 ≤ x3 → q_X2_leadIn_13 p0 p1 p2 (fun y3 S => q_X2_leadIn_2 p0 p1 p2  Q n y3 S) Q x3 S))))
set_option maxRecDepth 100000 in
set_option maxHeartbeats 4000000 in
theorem l_X2_leadIn_2 {g : Gv} (p0 : Nat) (p1 : Int32) (p2 : Int32)  (Q : Int32 → Sto → Prop)  (hp0 : kd p0 = 0) (n : Nat) : ∀ (x3 : Int32) (S : Sto)  (h : q_X2_leadIn_2 p0 p1 p2  Q n x3 S), RJ g cX2_leadIn RX2 (some .int) 5 2 2 [(0, .ref (g.1 + p0)), (1, .int p1), (2, .int p2), (3, .int x3)] [] S (Qi Q) := by
  induction n with
  | zero => intro x3 S  h; exact h.elim
  | succ n ih =>
    intro x3 S  h
    unfold q_X2_leadIn_2 at h
    refine J_iload_n dX2_leadIn_2 rfl 3 rfl  ?_
    refine J_iload_n dX2_leadIn_3 rfl 1 rfl  ?_
    refine J_icmp_lt (tgt := 13) dX2_leadIn_4 (by decide) (fun c_1 => ?_) (fun c_1 => ?_)
    · have h := h.1 c_1
      exact l_X2_leadIn_13 p0 p1 p2 _ _ (fun y3 S  h => ih y3 S  h) hp0 _ _  h
    · have h := h.2 c_1
      refine J_iload_n dX2_leadIn_7 rfl 3 rfl  ?_
      refine J_bipush (v := 16) dX2_leadIn_8 (by decide)  ?_
      refine J_icmp_ge (tgt := 42) dX2_leadIn_10 (by decide) (fun c_2 => ?_) (fun c_2 => ?_)
      · have h := h.1 c_2
        refine J_iconst (v := (-1)) dX2_leadIn_42 (by decide)  ?_
        exact J_iret dX2_leadIn_43 rfl rfl ⟨_, rfl, h⟩
      · have h := h.2 c_2
        exact l_X2_leadIn_13 p0 p1 p2 _ _ (fun y3 S  h => ih y3 S  h) hp0 _ _  h
def wp_X2_leadIn (p0 : Nat) (p1 : Int32) (p2 : Int32) (S : Sto) (Q : Int32 → Sto → Prop) : Prop := (∃ n_2, q_X2_leadIn_2 p0 p1 p2  Q n_2 0 S)
set_option maxRecDepth 100000 in
set_option maxHeartbeats 4000000 in
theorem c_X2_leadIn {g : Gv} (p0 : Nat) (p1 : Int32) (p2 : Int32) (hp0 : kd p0 = 0) (S : Sto) (Q : Int32 → Sto → Prop) (h : wp_X2_leadIn p0 p1 p2 S Q) : CT g yX2_leadIn cX2_leadIn 5 (some .int) 2 [.ref (g.1 + p0), .int p1, .int p2] S (Qi Q) := by
  unfold wp_X2_leadIn at h
  refine CT.of (by decide) (Nat.le_of_ble_eq_true rfl) ?_
  refine J_sub (lv' := [(0, .ref (g.1 + p0)), (1, .int p1), (2, .int p2)]) [0, 1, 2] rfl ?_
  refine J_iconst (v := 0) dX2_leadIn_0 (by decide)  ?_
  refine J_istore_n (lv' := [(0, .ref (g.1 + p0)), (1, .int p1), (2, .int p2), (3, .int 0)]) dX2_leadIn_1 rfl (by decide) [1, 2, 3, 0] rfl  ?_
  obtain ⟨n, h⟩ := h
  exact l_X2_leadIn_2 p0 p1 p2  _  hp0 n _ _  h
def q_J9_floorMod_7cf53_18 (p0 : Int32) (p1 : Int32)  (Q : Int32 → Sto → Prop) (x2 : Int32) (S : Sto) : Prop := Q x2 S
set_option maxRecDepth 100000 in
set_option maxHeartbeats 4000000 in
theorem l_J9_floorMod_7cf53_18 {g : Gv} (p0 : Int32) (p1 : Int32)  (Q : Int32 → Sto → Prop)   (x2 : Int32) (S : Sto)  (h : q_J9_floorMod_7cf53_18 p0 p1  Q x2 S) : RJ g cJ9_floorMod_7cf53 RJ9 (some .int) 3 1 18 [(0, .int p0), (1, .int p1), (2, .int x2)] [] S (Qi Q) := by
  unfold q_J9_floorMod_7cf53_18 at h
  refine J_iload_n dJ9_floorMod_7cf53_18 rfl 2 rfl  ?_
  exact J_iret dJ9_floorMod_7cf53_19 rfl rfl ⟨_, rfl, h⟩
def wp_J9_floorMod_7cf53 (p0 : Int32) (p1 : Int32) (S : Sto) (Q : Int32 → Sto → Prop) : Prop := ¬ p1 = 0 ∧ ∀ x2_2 : Int32, x2_2 = p0 - p0 / p1 * p1 → ((0 ≤ (p0 ^^^ p1) → q_J9_floorMod_7cf53_18 p0 p1  Q x2_2 S) ∧ (¬ 0 ≤ (p0 ^^^ p1) → ((x2_2 = 0 → q_J9_floorMod_7cf53_18 p0 p1  Q x2_2 S) ∧ (¬ x2_2 = 0 → Q (x2_2 + p1) S))))
set_option maxRecDepth 100000 in
set_option maxHeartbeats 4000000 in
theorem c_J9_floorMod_7cf53 {g : Gv} (p0 : Int32) (p1 : Int32)  (S : Sto) (Q : Int32 → Sto → Prop) (h : wp_J9_floorMod_7cf53 p0 p1 S Q) : CT g yJ9_floorMod_7cf53 cJ9_floorMod_7cf53 3 (some .int) 1 [.int p0, .int p1] S (Qi Q) := by
  unfold wp_J9_floorMod_7cf53 at h
  refine CT.ofF (by decide +kernel) (Nat.le_of_ble_eq_true rfl) ?_
  refine J_sub (lv' := [(0, .int p0), (1, .int p1)]) [0, 1] rfl ?_
  refine J_iload_n dJ9_floorMod_7cf53_0 rfl 0 rfl  ?_
  refine J_iload_n dJ9_floorMod_7cf53_1 rfl 1 rfl  ?_
  obtain ⟨hz_1, h⟩ := h
  refine J_irem dJ9_floorMod_7cf53_2 hz_1  ?_
  refine J_topi (fun x2_2 ex2_2 => ?_)
  have h := h x2_2 ex2_2
  refine J_istore_n (lv' := [(0, .int p0), (1, .int p1), (2, .int x2_2)]) dJ9_floorMod_7cf53_3 rfl (by decide) [1, 2, 0] rfl  ?_
  refine J_iload_n dJ9_floorMod_7cf53_4 rfl 0 rfl  ?_
  refine J_iload_n dJ9_floorMod_7cf53_5 rfl 1 rfl  ?_
  refine J_ixor dJ9_floorMod_7cf53_6  ?_
  refine J_if_ge (tgt := 18) dJ9_floorMod_7cf53_7 (by decide) (fun c_3 => ?_) (fun c_3 => ?_)
  · have h := h.1 c_3
    exact l_J9_floorMod_7cf53_18 p0 p1  _   _ _  h
  · have h := h.2 c_3
    refine J_iload_n dJ9_floorMod_7cf53_10 rfl 2 rfl  ?_
    refine J_if_eq (tgt := 18) dJ9_floorMod_7cf53_11 (by decide) (fun c_4 => ?_) (fun c_4 => ?_)
    · have h := h.1 c_4
      exact l_J9_floorMod_7cf53_18 p0 p1  _   _ _  h
    · have h := h.2 c_4
      refine J_iload_n dJ9_floorMod_7cf53_14 rfl 2 rfl  ?_
      refine J_iload_n dJ9_floorMod_7cf53_15 rfl 1 rfl  ?_
      refine J_iadd dJ9_floorMod_7cf53_16  ?_
      exact J_iret dJ9_floorMod_7cf53_17 rfl rfl ⟨_, rfl, h⟩
def q_X2_modulo_13 (p0 : Int32) (p1 : Int32)  (Q : Int32 → Sto → Prop) (t0 : Int32) (S : Sto) : Prop := Q t0 S
set_option maxRecDepth 100000 in
set_option maxHeartbeats 4000000 in
theorem l_X2_modulo_13 {g : Gv} (p0 : Int32) (p1 : Int32)  (Q : Int32 → Sto → Prop)   (t0 : Int32) (S : Sto)  (h : q_X2_modulo_13 p0 p1  Q t0 S) : RJ g cX2_modulo RX2 (some .int) 2 2 13 [(0, .int p0), (1, .int p1)] [.int t0] S (Qi Q) := by
  unfold q_X2_modulo_13 at h
  exact J_iret dX2_modulo_13 rfl rfl ⟨_, rfl, h⟩
def wp_X2_modulo (p0 : Int32) (p1 : Int32) (S : Sto) (Q : Int32 → Sto → Prop) : Prop := ((p1 ≤ 0 → q_X2_modulo_13 p0 p1  Q 0 S) ∧ (¬ p1 ≤ 0 → wp_J9_floorMod_7cf53 p0 p1 S (fun r_3 S_2 => q_X2_modulo_13 p0 p1  Q r_3 S_2)))
set_option maxRecDepth 100000 in
set_option maxHeartbeats 4000000 in
theorem c_X2_modulo {g : Gv} (p0 : Int32) (p1 : Int32)  (S : Sto) (Q : Int32 → Sto → Prop) (h : wp_X2_modulo p0 p1 S Q) : CT g yX2_modulo cX2_modulo 2 (some .int) 2 [.int p0, .int p1] S (Qi Q) := by
  unfold wp_X2_modulo at h
  refine CT.of (by decide) (Nat.le_of_ble_eq_true rfl) ?_
  refine J_sub (lv' := [(0, .int p0), (1, .int p1)]) [0, 1] rfl ?_
  refine J_iload_n dX2_modulo_0 rfl 1 rfl  ?_
  refine J_if_le (tgt := 12) dX2_modulo_1 (by decide) (fun c_1 => ?_) (fun c_1 => ?_)
  · have h := h.1 c_1
    refine J_iconst (v := 0) dX2_modulo_12 (by decide)  ?_
    exact l_X2_modulo_13 p0 p1  _   _ _  h
  · have h := h.2 c_1
    refine J_iload_n dX2_modulo_4 rfl 0 rfl  ?_
    refine J_iload_n dX2_modulo_5 rfl 1 rfl  ?_
    refine J_callS (As := [.int p0, .int p1]) (rest := []) (n := 2) dX2_modulo_6 (c_J9_floorMod_7cf53 p0 p1  _ _ h) tb_2_97 tb_2_95 tb_1_10 tb_2_96 (by decide) rfl (by decide) (by decide) (Nat.le_of_ble_eq_true rfl) rfl (fun v_r_3 S_2 hq => ?_)
    obtain ⟨r_3, rfl, h⟩ := hq
    dsimp only [Option.toList, List.cons_append, List.nil_append]
    refine J_goto (tgt := 13) dX2_modulo_9 (by decide)  ?_
    exact l_X2_modulo_13 p0 p1  _   _ _  h
def q_X5_lessen_12 (p0 : Nat) (p1 : Nat) (p2 : Int32) (p3 : Nat)  (Q : Sto → Prop)  (S : Sto) : Prop := Q S
set_option maxRecDepth 100000 in
set_option maxHeartbeats 4000000 in
theorem l_X5_lessen_12 {g : Gv} (p0 : Nat) (p1 : Nat) (p2 : Int32) (p3 : Nat)  (Q : Sto → Prop)  (hp0 : kd p0 = 8) (hp1 : kd p1 = 0) (hp3 : kd p3 = 0)  (S : Sto)  (h : q_X5_lessen_12 p0 p1 p2 p3  Q  S) : RJ g cX5_lessen RX5 none 6 1 12 [(0, .ref (g.1 + p0)), (1, .ref (g.1 + p1)), (2, .int p2), (3, .ref (g.1 + p3))] [] S (Qv Q) := by
  unfold q_X5_lessen_12 at h
  exact J_vret dX5_lessen_12 rfl ⟨rfl, h⟩
def q_X5_lessen_24 (p0 : Nat) (p1 : Nat) (p2 : Int32) (p3 : Nat)  (Q : Sto → Prop) : Nat → Int32 → Int32 → Sto → Prop
  | 0, _, _, _ => False
  | n + 1, x4, x5, S => (((S.1 p0 3) ≤ x5 → Q S) ∧ (¬ (S.1 p0 3) ≤ x5 → vp_in x5 (ln p1) ∧ vp_in x5 (ln p3) ∧ ¬ (S.1 p0 4) = 0 ∧ vp_in x5 (ln p1) ∧ ∀ S_6 : Sto, S_6 = uA S p1 (x5 : Int32).toNatClampNeg (((S.1 p1 (x5 : Int32).toNatClampNeg) + (x4 * (S.1 p3 (x5 : Int32).toNatClampNeg))) - ((S.1 p1 (x5 : Int32).toNatClampNeg) + (x4 * (S.1 p3 (x5 : Int32).toNatClampNeg))) / (S.1 p0 4) * (S.1 p0 4)) → ∀ x5_7 : Int32, x5_7 = x5 + 1 → q_X5_lessen_24 p0 p1 p2 p3  Q n x4 x5_7 S_6))
set_option maxRecDepth 100000 in
set_option maxHeartbeats 4000000 in
theorem l_X5_lessen_24 {g : Gv} (p0 : Nat) (p1 : Nat) (p2 : Int32) (p3 : Nat)  (Q : Sto → Prop)  (hp0 : kd p0 = 8) (hp1 : kd p1 = 0) (hp3 : kd p3 = 0) (n : Nat) : ∀ (x4 : Int32) (x5 : Int32) (S : Sto)  (h : q_X5_lessen_24 p0 p1 p2 p3  Q n x4 x5 S), RJ g cX5_lessen RX5 none 6 1 24 [(0, .ref (g.1 + p0)), (1, .ref (g.1 + p1)), (2, .int p2), (3, .ref (g.1 + p3)), (4, .int x4), (5, .int x5)] [] S (Qv Q) := by
  induction n with
  | zero => intro x4 x5 S  h; exact h.elim
  | succ n ih =>
    intro x4 x5 S  h
    unfold q_X5_lessen_24 at h
    refine J_iload dX5_lessen_24 5 rfl  ?_
    refine J_aload_n dX5_lessen_26 rfl 0 rfl  ?_
    refine J_geti (ci := 3) dX5_lessen_27 3 rfl giX5 hp0 (by decide) rfl rfl tb_1_162 rfl  ?_
    refine J_icmp_ge (tgt := 60) dX5_lessen_30 (by decide) (fun c_1 => ?_) (fun c_1 => ?_)
    · have h := h.1 c_1
      exact J_vret dX5_lessen_60 rfl ⟨rfl, h⟩
    · have h := h.2 c_1
      refine J_aload_n dX5_lessen_33 rfl 1 rfl  ?_
      refine J_iload dX5_lessen_34 5 rfl  ?_
      refine J_aload_n dX5_lessen_36 rfl 1 rfl  ?_
      refine J_iload dX5_lessen_37 5 rfl  ?_
      obtain ⟨hi_2, h⟩ := h
      refine J_iald dX5_lessen_39 hp1 hi_2  ?_
      refine J_iload dX5_lessen_40 4 rfl  ?_
      refine J_aload_n dX5_lessen_42 rfl 3 rfl  ?_
      refine J_iload dX5_lessen_43 5 rfl  ?_
      obtain ⟨hi_3, h⟩ := h
      refine J_iald dX5_lessen_45 hp3 hi_3  ?_
      refine J_imul dX5_lessen_46  ?_
      refine J_iadd dX5_lessen_47  ?_
      refine J_aload_n dX5_lessen_48 rfl 0 rfl  ?_
      refine J_geti (ci := 3) dX5_lessen_49 4 rfl giX5 hp0 (by decide) rfl rfl tb_1_164 rfl  ?_
      obtain ⟨hz_4, h⟩ := h
      refine J_irem dX5_lessen_52 hz_4  ?_
      obtain ⟨hi_5, h⟩ := h
      refine J_iast dX5_lessen_53 hp1 hi_5  ?_
      refine J_nmS (fun S_6 eS_6 => ?_)
      have h := h S_6 eS_6
      obtain ⟨x5_7, ex5_7⟩ : ∃ y : Int32, y = x5 + 1 := ⟨_, rfl⟩
      have h := h x5_7 ex5_7
      refine J_iinc (v := x5_7) (lv' := [(0, .ref (g.1 + p0)), (1, .ref (g.1 + p1)), (2, .int p2), (3, .ref (g.1 + p3)), (4, .int x4), (5, .int x5_7)]) dX5_lessen_54 (q := 5) rfl (by rw [ex5_7]; rfl) (by decide) [1, 2, 3, 4, 5, 0] rfl  ?_
      refine J_goto (tgt := 24) dX5_lessen_57 (by decide)  ?_
      exact ih _ _ _  h
def wp_X5_lessen (p0 : Nat) (p1 : Nat) (p2 : Int32) (p3 : Nat) (S : Sto) (Q : Sto → Prop) : Prop := ((p2 = 0 → q_X5_lessen_12 p0 p1 p2 p3  Q  S) ∧ (¬ p2 = 0 → ((2 ≤ (S.1 p0 4) → ∀ x4_3 : Int32, x4_3 = (S.1 p0 4) - p2 → (∃ n_24, q_X5_lessen_24 p0 p1 p2 p3  Q n_24 x4_3 0 S)) ∧ (¬ 2 ≤ (S.1 p0 4) → q_X5_lessen_12 p0 p1 p2 p3  Q  S))))
set_option maxRecDepth 100000 in
set_option maxHeartbeats 4000000 in
theorem c_X5_lessen {g : Gv} (p0 : Nat) (p1 : Nat) (p2 : Int32) (p3 : Nat) (hp0 : kd p0 = 8) (hp1 : kd p1 = 0) (hp3 : kd p3 = 0) (S : Sto) (Q : Sto → Prop) (h : wp_X5_lessen p0 p1 p2 p3 S Q) : CT g yX5_lessen cX5_lessen 6 none 1 [.ref (g.1 + p0), .ref (g.1 + p1), .int p2, .ref (g.1 + p3)] S (Qv Q) := by
  unfold wp_X5_lessen at h
  refine CT.of (by decide) (Nat.le_of_ble_eq_true rfl) ?_
  refine J_sub (lv' := [(0, .ref (g.1 + p0)), (1, .ref (g.1 + p1)), (2, .int p2), (3, .ref (g.1 + p3))]) [0, 1, 2, 3] rfl ?_
  refine J_iload_n dX5_lessen_0 rfl 2 rfl  ?_
  refine J_if_eq (tgt := 12) dX5_lessen_1 (by decide) (fun c_1 => ?_) (fun c_1 => ?_)
  · have h := h.1 c_1
    exact l_X5_lessen_12 p0 p1 p2 p3  _  hp0 hp1 hp3  _  h
  · have h := h.2 c_1
    refine J_aload_n dX5_lessen_4 rfl 0 rfl  ?_
    refine J_geti (ci := 3) dX5_lessen_5 4 rfl giX5 hp0 (by decide) rfl rfl tb_1_164 rfl  ?_
    refine J_iconst (v := 2) dX5_lessen_8 (by decide)  ?_
    refine J_icmp_ge (tgt := 13) dX5_lessen_9 (by decide) (fun c_2 => ?_) (fun c_2 => ?_)
    · have h := h.1 c_2
      refine J_aload_n dX5_lessen_13 rfl 0 rfl  ?_
      refine J_geti (ci := 3) dX5_lessen_14 4 rfl giX5 hp0 (by decide) rfl rfl tb_1_164 rfl  ?_
      refine J_iload_n dX5_lessen_17 rfl 2 rfl  ?_
      refine J_isub dX5_lessen_18  ?_
      refine J_topi (fun x4_3 ex4_3 => ?_)
      have h := h x4_3 ex4_3
      refine J_istore (lv' := [(0, .ref (g.1 + p0)), (1, .ref (g.1 + p1)), (2, .int p2), (3, .ref (g.1 + p3)), (4, .int x4_3)]) dX5_lessen_19 (by decide) [1, 2, 3, 4, 0] rfl  ?_
      refine J_iconst (v := 0) dX5_lessen_21 (by decide)  ?_
      refine J_istore (lv' := [(0, .ref (g.1 + p0)), (1, .ref (g.1 + p1)), (2, .int p2), (3, .ref (g.1 + p3)), (4, .int x4_3), (5, .int 0)]) dX5_lessen_22 (by decide) [1, 2, 3, 4, 5, 0] rfl  ?_
      obtain ⟨n, h⟩ := h
      exact l_X5_lessen_24 p0 p1 p2 p3  _  hp0 hp1 hp3 n _ _ _  h
    · have h := h.2 c_2
      exact l_X5_lessen_12 p0 p1 p2 p3  _  hp0 hp1 hp3  _  h
def q_X5_takeFrom_33 (p0 : Nat) (p1 : Nat) (R2 : Int32 → Sto → Prop) (Q : Sto → Prop) (x2 : Int32) (S : Sto) : Prop := ∀ x2_1 : Int32, x2_1 = x2 + 1 → R2 x2_1 S
set_option maxRecDepth 100000 in
set_option maxHeartbeats 4000000 in
theorem l_X5_takeFrom_33 {g : Gv} (p0 : Nat) (p1 : Nat) (R2 : Int32 → Sto → Prop) (Q : Sto → Prop) (hR2 : ∀ (y2 : Int32) (S : Sto), R2 y2 S → RJ g cX5_takeFrom RX5 none 3 2 2 [(0, .ref (g.1 + p0)), (1, .ref (g.1 + p1)), (2, .int y2)] [] S (Qv Q)) (hp0 : kd p0 = 8) (hp1 : kd p1 = 0) (x2 : Int32) (S : Sto)  (h : q_X5_takeFrom_33 p0 p1 R2 Q x2 S) : RJ g cX5_takeFrom RX5 none 3 2 33 [(0, .ref (g.1 + p0)), (1, .ref (g.1 + p1)), (2, .int x2)] [] S (Qv Q) := by
  unfold q_X5_takeFrom_33 at h
  obtain ⟨x2_1, ex2_1⟩ : ∃ y : Int32, y = x2 + 1 := ⟨_, rfl⟩
  have h := h x2_1 ex2_1
  refine J_iinc (v := x2_1) (lv' := [(0, .ref (g.1 + p0)), (1, .ref (g.1 + p1)), (2, .int x2_1)]) dX5_takeFrom_33 (q := 2) rfl (by rw [ex2_1]; rfl) (by decide) [1, 2, 0] rfl  ?_
  refine J_goto (tgt := 2) dX5_takeFrom_36 (by decide)  ?_
  exact hR2 _ _  h
def q_X5_takeFrom_2 (p0 : Nat) (p1 : Nat)  (Q : Sto → Prop) : Nat → Int32 → Sto → Prop
  | 0, _, _ => False
  | n + 1, x2, S => (((S.1 p0 3) ≤ x2 → Q S) ∧ (¬ (S.1 p0 3) ≤ x2 → vp_in x2 (ln (p0 + 2 + ln (p0 + 1))) ∧ (((S.1 (p0 + 2 + ln (p0 + 1)) (x2 : Int32).toNatClampNeg) = 0 → q_X5_takeFrom_33 p0 p1 (fun y2 S => q_X5_takeFrom_2 p0 p1  Q n y2 S) Q x2 S) ∧ (¬ (S.1 (p0 + 2 + ln (p0 + 1)) (x2 : Int32).toNatClampNeg) = 0 → vp_in x2 (ln p1) ∧ vp_in x2 (ln (p0 + 1)) ∧ wp_X5_lessen p0 p1 (S.1 p1 (x2 : Int32).toNatClampNeg) (p0 + 1 + 1 + (x2 : Int32).toNatClampNeg) S (fun S_6 => q_X5_takeFrom_33 p0 p1 (fun y2 S => q_X5_takeFrom_2 p0 p1  Q n y2 S) Q x2 S_6)))))
set_option maxRecDepth 100000 in
set_option maxHeartbeats 4000000 in
theorem l_X5_takeFrom_2 {g : Gv} (p0 : Nat) (p1 : Nat)  (Q : Sto → Prop)  (hp0 : kd p0 = 8) (hp1 : kd p1 = 0) (n : Nat) : ∀ (x2 : Int32) (S : Sto)  (h : q_X5_takeFrom_2 p0 p1  Q n x2 S), RJ g cX5_takeFrom RX5 none 3 2 2 [(0, .ref (g.1 + p0)), (1, .ref (g.1 + p1)), (2, .int x2)] [] S (Qv Q) := by
  induction n with
  | zero => intro x2 S  h; exact h.elim
  | succ n ih =>
    intro x2 S  h
    unfold q_X5_takeFrom_2 at h
    refine J_iload_n dX5_takeFrom_2 rfl 2 rfl  ?_
    refine J_aload_n dX5_takeFrom_3 rfl 0 rfl  ?_
    refine J_geti (ci := 3) dX5_takeFrom_4 3 rfl giX5 hp0 (by decide) rfl rfl tb_1_162 rfl  ?_
    refine J_icmp_ge (tgt := 39) dX5_takeFrom_7 (by decide) (fun c_1 => ?_) (fun c_1 => ?_)
    · have h := h.1 c_1
      exact J_vret dX5_takeFrom_39 rfl ⟨rfl, h⟩
    · have h := h.2 c_1
      refine J_aload_n dX5_takeFrom_10 rfl 0 rfl  ?_
      refine J_getr (r := p0 + 2 + ln (p0 + 1)) (ci := 3) dX5_takeFrom_11 1 rfl giX5 hp0 (by decide) rfl rfl tb_1_158 (by decide) (sp_rf1 hp0)  ?_
      refine J_iload_n dX5_takeFrom_14 rfl 2 rfl  ?_
      obtain ⟨hi_2, h⟩ := h
      refine J_zald dX5_takeFrom_15 (sp_held hp0) hi_2  ?_
      refine J_if_eq (tgt := 33) dX5_takeFrom_16 (by decide) (fun c_3 => ?_) (fun c_3 => ?_)
      · have h := h.1 c_3
        exact l_X5_takeFrom_33 p0 p1 _ _ (fun y2 S  h => ih y2 S  h) hp0 hp1 _ _  h
      · have h := h.2 c_3
        refine J_aload_n dX5_takeFrom_19 rfl 0 rfl  ?_
        refine J_aload_n dX5_takeFrom_20 rfl 1 rfl  ?_
        refine J_aload_n dX5_takeFrom_21 rfl 1 rfl  ?_
        refine J_iload_n dX5_takeFrom_22 rfl 2 rfl  ?_
        obtain ⟨hi_4, h⟩ := h
        refine J_iald dX5_takeFrom_23 hp1 hi_4  ?_
        refine J_aload_n dX5_takeFrom_24 rfl 0 rfl  ?_
        refine J_getr (r := p0 + 1) (ci := 3) dX5_takeFrom_25 0 rfl giX5 hp0 (by decide) rfl rfl tb_1_154 (by decide) (sp_rf0 hp0)  ?_
        refine J_iload_n dX5_takeFrom_28 rfl 2 rfl  ?_
        obtain ⟨hi_5, h⟩ := h
        refine J_aald3 dX5_takeFrom_29 (sp_rows hp0) hi_5  ?_
        refine J_callV (h := p0) (ci := 3) (As := [.ref (g.1 + p1), .int (S.1 p1 (x2 : Int32).toNatClampNeg), .ref (g.1 + (p0 + 1 + 1 + (x2 : Int32).toNatClampNeg))]) (rest := []) (n := 3) dX5_takeFrom_30 (c_X5_lessen p0 p1 (S.1 p1 (x2 : Int32).toNatClampNeg) (p0 + 1 + 1 + (x2 : Int32).toNatClampNeg) hp0 hp1 (kd_row3 (sp_rows hp0) hi_5) _ _ h) hp0 rfl tb_2_176 tb_2_173 tb_1_6 tb_2_175 sl_3 (by decide) rfl (by decide) (by decide) (Nat.le_of_ble_eq_true rfl) rfl (fun v_r_7 S_6 hq => ?_)
        obtain ⟨rfl, h⟩ := hq
        dsimp only [Option.toList, List.cons_append, List.nil_append]
        exact l_X5_takeFrom_33 p0 p1 _ _ (fun y2 S  h => ih y2 S  h) hp0 hp1 _ _  h
def wp_X5_takeFrom (p0 : Nat) (p1 : Nat) (S : Sto) (Q : Sto → Prop) : Prop := (∃ n_2, q_X5_takeFrom_2 p0 p1  Q n_2 0 S)
set_option maxRecDepth 100000 in
set_option maxHeartbeats 4000000 in
theorem c_X5_takeFrom {g : Gv} (p0 : Nat) (p1 : Nat) (hp0 : kd p0 = 8) (hp1 : kd p1 = 0) (S : Sto) (Q : Sto → Prop) (h : wp_X5_takeFrom p0 p1 S Q) : CT g yX5_takeFrom cX5_takeFrom 3 none 2 [.ref (g.1 + p0), .ref (g.1 + p1)] S (Qv Q) := by
  unfold wp_X5_takeFrom at h
  refine CT.of (by decide) (Nat.le_of_ble_eq_true rfl) ?_
  refine J_sub (lv' := [(0, .ref (g.1 + p0)), (1, .ref (g.1 + p1))]) [0, 1] rfl ?_
  refine J_iconst (v := 0) dX5_takeFrom_0 (by decide)  ?_
  refine J_istore_n (lv' := [(0, .ref (g.1 + p0)), (1, .ref (g.1 + p1)), (2, .int 0)]) dX5_takeFrom_1 rfl (by decide) [1, 2, 0] rfl  ?_
  obtain ⟨n, h⟩ := h
  exact l_X5_takeFrom_2 p0 p1  _  hp0 hp1 n _ _  h
def q_X5_admit_122 (p0 : Nat) (p1 : Nat) (R82 : Int32 → Nat → Int32 → Sto → Prop) (Q : Int32 → Sto → Prop) (x2 : Int32) (x3 : Nat) (x5 : Int32) (S : Sto) : Prop := ∀ x5_1 : Int32, x5_1 = x5 + 1 → R82 x2 x3 x5_1 S
set_option maxRecDepth 100000 in
set_option maxHeartbeats 4000000 in
theorem l_X5_admit_122 {g : Gv} (p0 : Nat) (p1 : Nat) (R82 : Int32 → Nat → Int32 → Sto → Prop) (Q : Int32 → Sto → Prop) (hR82 : ∀ (y2 : Int32) (y3 : Nat) (y5 : Int32) (S : Sto), kd y3 = 0 → R82 y2 y3 y5 S → RJ g cX5_admit RX5 (some .boolean) 6 3 82 [(0, .ref (g.1 + p0)), (1, .ref (g.1 + p1)), (2, .int y2), (3, .ref (g.1 + y3)), (5, .int y5)] [] S (Qi Q)) (hp0 : kd p0 = 8) (hp1 : kd p1 = 0) (x2 : Int32) (x3 : Nat) (x5 : Int32) (S : Sto) (hx3 : kd x3 = 0) (h : q_X5_admit_122 p0 p1 R82 Q x2 x3 x5 S) : RJ g cX5_admit RX5 (some .boolean) 6 3 122 [(0, .ref (g.1 + p0)), (1, .ref (g.1 + p1)), (2, .int x2), (3, .ref (g.1 + x3)), (5, .int x5)] [] S (Qi Q) := by
  unfold q_X5_admit_122 at h
  obtain ⟨x5_1, ex5_1⟩ : ∃ y : Int32, y = x5 + 1 := ⟨_, rfl⟩
  have h := h x5_1 ex5_1
  refine J_iinc (v := x5_1) (lv' := [(0, .ref (g.1 + p0)), (1, .ref (g.1 + p1)), (2, .int x2), (3, .ref (g.1 + x3)), (5, .int x5_1)]) dX5_admit_122 (q := 4) rfl (by rw [ex5_1]; rfl) (by decide) [1, 2, 3, 4, 0] rfl  ?_
  refine J_goto (tgt := 82) dX5_admit_125 (by decide)  ?_
  exact hR82 _ _ _ _ hx3 h
def q_X5_admit_82 (p0 : Nat) (p1 : Nat)  (Q : Int32 → Sto → Prop) : Nat → Int32 → Nat → Int32 → Sto → Prop
  | 0, _, _, _, _ => False
  | n + 1, x2, x3, x5, S => (((S.1 p0 3) ≤ x5 → vp_in x2 (ln (p0 + 2 + ln (p0 + 1))) ∧ ∀ S_3 : Sto, S_3 = uA S (p0 + 2 + ln (p0 + 1)) (x2 : Int32).toNatClampNeg (vp_nar .boolean 1) → ∀ S_4 : Sto, S_4 = uA S_3 p0 2 ((S_3.1 p0 2) + 1) → Q 1 S_4) ∧ (¬ (S.1 p0 3) ≤ x5 → vp_in x5 (ln (p0 + 2 + ln (p0 + 1))) ∧ (((S.1 (p0 + 2 + ln (p0 + 1)) (x5 : Int32).toNatClampNeg) = 0 → q_X5_admit_122 p0 p1 (fun y2 y3 y5 S => q_X5_admit_82 p0 p1  Q n y2 y3 y5 S) Q x2 x3 x5 S) ∧ (¬ (S.1 (p0 + 2 + ln (p0 + 1)) (x5 : Int32).toNatClampNeg) = 0 → vp_in x5 (ln (p0 + 1)) ∧ vp_in x5 (ln (p0 + 1)) ∧ vp_in x2 (ln (p0 + 1 + 1 + (x5 : Int32).toNatClampNeg)) ∧ wp_X5_lessen p0 (p0 + 1 + 1 + (x5 : Int32).toNatClampNeg) (S.1 (p0 + 1 + 1 + (x5 : Int32).toNatClampNeg) (x2 : Int32).toNatClampNeg) x3 S (fun S_10 => q_X5_admit_122 p0 p1 (fun y2 y3 y5 S => q_X5_admit_82 p0 p1  Q n y2 y3 y5 S) Q x2 x3 x5 S_10)))))
set_option maxRecDepth 100000 in
set_option maxHeartbeats 4000000 in
theorem l_X5_admit_82 {g : Gv} (p0 : Nat) (p1 : Nat)  (Q : Int32 → Sto → Prop)  (hp0 : kd p0 = 8) (hp1 : kd p1 = 0) (n : Nat) : ∀ (x2 : Int32) (x3 : Nat) (x5 : Int32) (S : Sto) (hx3 : kd x3 = 0) (h : q_X5_admit_82 p0 p1  Q n x2 x3 x5 S), RJ g cX5_admit RX5 (some .boolean) 6 3 82 [(0, .ref (g.1 + p0)), (1, .ref (g.1 + p1)), (2, .int x2), (3, .ref (g.1 + x3)), (5, .int x5)] [] S (Qi Q) := by
  induction n with
  | zero => intro x2 x3 x5 S hx3 h; exact h.elim
  | succ n ih =>
    intro x2 x3 x5 S hx3 h
    unfold q_X5_admit_82 at h
    refine J_iload dX5_admit_82 4 rfl  ?_
    refine J_aload_n dX5_admit_84 rfl 0 rfl  ?_
    refine J_geti (ci := 3) dX5_admit_85 3 rfl giX5 hp0 (by decide) rfl rfl tb_1_162 rfl  ?_
    refine J_icmp_ge (tgt := 128) dX5_admit_88 (by decide) (fun c_1 => ?_) (fun c_1 => ?_)
    · have h := h.1 c_1
      refine J_aload_n dX5_admit_128 rfl 0 rfl  ?_
      refine J_getr (r := p0 + 2 + ln (p0 + 1)) (ci := 3) dX5_admit_129 1 rfl giX5 hp0 (by decide) rfl rfl tb_1_158 (by decide) (sp_rf1 hp0)  ?_
      refine J_iload_n dX5_admit_132 rfl 2 rfl  ?_
      refine J_iconst (v := 1) dX5_admit_133 (by decide)  ?_
      obtain ⟨hi_2, h⟩ := h
      refine J_zast dX5_admit_134 (sp_held hp0) hi_2  ?_
      refine J_nmS (fun S_3 eS_3 => ?_)
      have h := h S_3 eS_3
      refine J_aload_n dX5_admit_135 rfl 0 rfl  ?_
      refine J_dup dX5_admit_136 rfl  ?_
      refine J_geti (ci := 3) dX5_admit_137 2 rfl giX5 hp0 (by decide) rfl rfl tb_1_159 rfl  ?_
      refine J_iconst (v := 1) dX5_admit_140 (by decide)  ?_
      refine J_iadd dX5_admit_141  ?_
      refine J_puti (ci := 3) dX5_admit_142 2 rfl giX5 hp0 (by decide) rfl rfl tyX5 tyX5_ok nmX5 rfl rfl rfl rfl tb_1_159 rfl  ?_
      refine J_nmS (fun S_4 eS_4 => ?_)
      have h := h S_4 eS_4
      refine J_iconst (v := 1) dX5_admit_145 (by decide)  ?_
      exact J_iret dX5_admit_146 rfl rfl ⟨_, rfl, h⟩
    · have h := h.2 c_1
      refine J_aload_n dX5_admit_91 rfl 0 rfl  ?_
      refine J_getr (r := p0 + 2 + ln (p0 + 1)) (ci := 3) dX5_admit_92 1 rfl giX5 hp0 (by decide) rfl rfl tb_1_158 (by decide) (sp_rf1 hp0)  ?_
      refine J_iload dX5_admit_95 4 rfl  ?_
      obtain ⟨hi_5, h⟩ := h
      refine J_zald dX5_admit_97 (sp_held hp0) hi_5  ?_
      refine J_if_eq (tgt := 122) dX5_admit_98 (by decide) (fun c_6 => ?_) (fun c_6 => ?_)
      · have h := h.1 c_6
        exact l_X5_admit_122 p0 p1 _ _ (fun y2 y3 y5 S k3 h => ih y2 y3 y5 S k3 h) hp0 hp1 _ _ _ _ hx3 h
      · have h := h.2 c_6
        refine J_aload_n dX5_admit_101 rfl 0 rfl  ?_
        refine J_aload_n dX5_admit_102 rfl 0 rfl  ?_
        refine J_getr (r := p0 + 1) (ci := 3) dX5_admit_103 0 rfl giX5 hp0 (by decide) rfl rfl tb_1_154 (by decide) (sp_rf0 hp0)  ?_
        refine J_iload dX5_admit_106 4 rfl  ?_
        obtain ⟨hi_7, h⟩ := h
        refine J_aald3 dX5_admit_108 (sp_rows hp0) hi_7  ?_
        refine J_aload_n dX5_admit_109 rfl 0 rfl  ?_
        refine J_getr (r := p0 + 1) (ci := 3) dX5_admit_110 0 rfl giX5 hp0 (by decide) rfl rfl tb_1_154 (by decide) (sp_rf0 hp0)  ?_
        refine J_iload dX5_admit_113 4 rfl  ?_
        obtain ⟨hi_8, h⟩ := h
        refine J_aald3 dX5_admit_115 (sp_rows hp0) hi_8  ?_
        refine J_iload_n dX5_admit_116 rfl 2 rfl  ?_
        obtain ⟨hi_9, h⟩ := h
        refine J_iald dX5_admit_117 (kd_row3 (sp_rows hp0) hi_8) hi_9  ?_
        refine J_aload_n dX5_admit_118 rfl 3 rfl  ?_
        refine J_callV (h := p0) (ci := 3) (As := [.ref (g.1 + (p0 + 1 + 1 + (x5 : Int32).toNatClampNeg)), .int (S.1 (p0 + 1 + 1 + (x5 : Int32).toNatClampNeg) (x2 : Int32).toNatClampNeg), .ref (g.1 + x3)]) (rest := []) (n := 3) dX5_admit_119 (c_X5_lessen p0 (p0 + 1 + 1 + (x5 : Int32).toNatClampNeg) (S.1 (p0 + 1 + 1 + (x5 : Int32).toNatClampNeg) (x2 : Int32).toNatClampNeg) x3 hp0 (kd_row3 (sp_rows hp0) hi_7) hx3 _ _ h) hp0 rfl tb_2_176 tb_2_173 tb_1_6 tb_2_175 sl_3 (by decide) rfl (by decide) (by decide) (Nat.le_of_ble_eq_true rfl) rfl (fun v_r_11 S_10 hq => ?_)
        obtain ⟨rfl, h⟩ := hq
        dsimp only [Option.toList, List.cons_append, List.nil_append]
        exact l_X5_admit_122 p0 p1 _ _ (fun y2 y3 y5 S k3 h => ih y2 y3 y5 S k3 h) hp0 hp1 _ _ _ _ hx3 h
def q_X5_admit_46 (p0 : Nat) (p1 : Nat)  (Q : Int32 → Sto → Prop) : Nat → Int32 → Nat → Int32 → Int32 → Sto → Prop
  | 0, _, _, _, _, _ => False
  | n + 1, x2, x3, x4, x5, S => (((S.1 p0 3) ≤ x5 → (∃ n_82, q_X5_admit_82 p0 p1  Q n_82 x2 x3 0 S)) ∧ (¬ (S.1 p0 3) ≤ x5 → vp_in x5 (ln p1) ∧ wp_X2_modulo (x4 * (S.1 p1 (x5 : Int32).toNatClampNeg)) (S.1 p0 4) S (fun r_4 S_3 => vp_in x5 (ln x3) ∧ ∀ S_6 : Sto, S_6 = uA S_3 x3 (x5 : Int32).toNatClampNeg r_4 → ∀ x5_7 : Int32, x5_7 = x5 + 1 → q_X5_admit_46 p0 p1  Q n x2 x3 x4 x5_7 S_6)))
set_option maxRecDepth 100000 in
set_option maxHeartbeats 4000000 in
theorem l_X5_admit_46 {g : Gv} (p0 : Nat) (p1 : Nat)  (Q : Int32 → Sto → Prop)  (hp0 : kd p0 = 8) (hp1 : kd p1 = 0) (n : Nat) : ∀ (x2 : Int32) (x3 : Nat) (x4 : Int32) (x5 : Int32) (S : Sto) (hx3 : kd x3 = 0) (h : q_X5_admit_46 p0 p1  Q n x2 x3 x4 x5 S), RJ g cX5_admit RX5 (some .boolean) 6 3 46 [(0, .ref (g.1 + p0)), (1, .ref (g.1 + p1)), (2, .int x2), (3, .ref (g.1 + x3)), (4, .int x4), (5, .int x5)] [] S (Qi Q) := by
  induction n with
  | zero => intro x2 x3 x4 x5 S hx3 h; exact h.elim
  | succ n ih =>
    intro x2 x3 x4 x5 S hx3 h
    unfold q_X5_admit_46 at h
    refine J_iload dX5_admit_46 5 rfl  ?_
    refine J_aload_n dX5_admit_48 rfl 0 rfl  ?_
    refine J_geti (ci := 3) dX5_admit_49 3 rfl giX5 hp0 (by decide) rfl rfl tb_1_162 rfl  ?_
    refine J_icmp_ge (tgt := 79) dX5_admit_52 (by decide) (fun c_1 => ?_) (fun c_1 => ?_)
    · have h := h.1 c_1
      refine J_iconst (v := 0) dX5_admit_79 (by decide)  ?_
      refine J_istore (lv' := [(0, .ref (g.1 + p0)), (1, .ref (g.1 + p1)), (2, .int x2), (3, .ref (g.1 + x3)), (5, .int 0)]) dX5_admit_80 (by decide) [1, 2, 3, 4, 0] rfl  ?_
      obtain ⟨n, h⟩ := h
      exact l_X5_admit_82 p0 p1  _  hp0 hp1 n _ _ _ _ hx3 h
    · have h := h.2 c_1
      refine J_aload_n dX5_admit_55 rfl 3 rfl  ?_
      refine J_iload dX5_admit_56 5 rfl  ?_
      refine J_iload dX5_admit_58 4 rfl  ?_
      refine J_aload_n dX5_admit_60 rfl 1 rfl  ?_
      refine J_iload dX5_admit_61 5 rfl  ?_
      obtain ⟨hi_2, h⟩ := h
      refine J_iald dX5_admit_63 hp1 hi_2  ?_
      refine J_imul dX5_admit_64  ?_
      refine J_aload_n dX5_admit_65 rfl 0 rfl  ?_
      refine J_geti (ci := 3) dX5_admit_66 4 rfl giX5 hp0 (by decide) rfl rfl tb_1_164 rfl  ?_
      refine J_callS (As := [.int (x4 * (S.1 p1 (x5 : Int32).toNatClampNeg)), .int (S.1 p0 4)]) (rest := [.int x5, .ref (g.1 + x3)]) (n := 2) dX5_admit_69 (c_X2_modulo (x4 * (S.1 p1 (x5 : Int32).toNatClampNeg)) (S.1 p0 4)  _ _ h) tb_2_94 tb_2_188 tb_1_9 tb_2_93 (by decide) rfl (by decide) (by decide) (Nat.le_of_ble_eq_true rfl) rfl (fun v_r_4 S_3 hq => ?_)
      obtain ⟨r_4, rfl, h⟩ := hq
      dsimp only [Option.toList, List.cons_append, List.nil_append]
      obtain ⟨hi_5, h⟩ := h
      refine J_iast dX5_admit_72 hx3 hi_5  ?_
      refine J_nmS (fun S_6 eS_6 => ?_)
      have h := h S_6 eS_6
      obtain ⟨x5_7, ex5_7⟩ : ∃ y : Int32, y = x5 + 1 := ⟨_, rfl⟩
      have h := h x5_7 ex5_7
      refine J_iinc (v := x5_7) (lv' := [(0, .ref (g.1 + p0)), (1, .ref (g.1 + p1)), (2, .int x2), (3, .ref (g.1 + x3)), (4, .int x4), (5, .int x5_7)]) dX5_admit_73 (q := 5) rfl (by rw [ex5_7]; rfl) (by decide) [1, 2, 3, 4, 5, 0] rfl  ?_
      refine J_goto (tgt := 46) dX5_admit_76 (by decide)  ?_
      exact ih _ _ _ _ _ hx3 h
def wp_X5_admit (p0 : Nat) (p1 : Nat) (S : Sto) (Q : Int32 → Sto → Prop) : Prop := wp_X5_takeFrom p0 p1 S (fun S_1 => wp_X2_leadIn p1 (S_1.1 p0 3) (S_1.1 p0 5) S_1 (fun r_4 S_3 => ((0 ≤ r_4 → vp_in r_4 (ln (p0 + 1)) ∧ vp_in r_4 (ln p1) ∧ wp_X2_inverse (S_3.1 p1 (r_4 : Int32).toNatClampNeg) (S_3.1 p0 4) S_3 (fun r_9 S_8 => (∃ n_46, q_X5_admit_46 p0 p1  Q n_46 r_4 (p0 + 1 + 1 + (r_4 : Int32).toNatClampNeg) r_9 0 S_8))) ∧ (¬ 0 ≤ r_4 → Q 0 S_3))))
set_option maxRecDepth 100000 in
set_option maxHeartbeats 4000000 in
theorem c_X5_admit {g : Gv} (p0 : Nat) (p1 : Nat) (hp0 : kd p0 = 8) (hp1 : kd p1 = 0) (S : Sto) (Q : Int32 → Sto → Prop) (h : wp_X5_admit p0 p1 S Q) : CT g yX5_admit cX5_admit 6 (some .boolean) 3 [.ref (g.1 + p0), .ref (g.1 + p1)] S (Qi Q) := by
  unfold wp_X5_admit at h
  refine CT.of (by decide) (Nat.le_of_ble_eq_true rfl) ?_
  refine J_sub (lv' := [(0, .ref (g.1 + p0)), (1, .ref (g.1 + p1))]) [0, 1] rfl ?_
  refine J_aload_n dX5_admit_0 rfl 0 rfl  ?_
  refine J_aload_n dX5_admit_1 rfl 1 rfl  ?_
  refine J_callV (h := p0) (ci := 3) (As := [.ref (g.1 + p1)]) (rest := []) (n := 1) dX5_admit_2 (c_X5_takeFrom p0 p1 hp0 hp1 _ _ h) hp0 rfl tb_2_172 tb_2_169 tb_1_6 tb_2_170 tb_2_171 (by decide) rfl (by decide) (by decide) (Nat.le_of_ble_eq_true rfl) rfl (fun v_r_2 S_1 hq => ?_)
  obtain ⟨rfl, h⟩ := hq
  dsimp only [Option.toList, List.cons_append, List.nil_append]
  refine J_aload_n dX5_admit_5 rfl 1 rfl  ?_
  refine J_aload_n dX5_admit_6 rfl 0 rfl  ?_
  refine J_geti (ci := 3) dX5_admit_7 3 rfl giX5 hp0 (by decide) rfl rfl tb_1_162 rfl  ?_
  refine J_aload_n dX5_admit_10 rfl 0 rfl  ?_
  refine J_geti (ci := 3) dX5_admit_11 5 rfl giX5 hp0 (by decide) rfl rfl tb_1_165 rfl  ?_
  refine J_callS (As := [.ref (g.1 + p1), .int (S_1.1 p0 3), .int (S_1.1 p0 5)]) (rest := []) (n := 3) dX5_admit_14 (c_X2_leadIn p1 (S_1.1 p0 3) (S_1.1 p0 5) hp1 _ _ h) tb_2_179 tb_2_177 tb_1_9 tb_2_178 (by decide) rfl (by decide) (by decide) (Nat.le_of_ble_eq_true rfl) rfl (fun v_r_4 S_3 hq => ?_)
  obtain ⟨r_4, rfl, h⟩ := hq
  dsimp only [Option.toList, List.cons_append, List.nil_append]
  refine J_istore_n (lv' := [(0, .ref (g.1 + p0)), (1, .ref (g.1 + p1)), (2, .int r_4)]) dX5_admit_17 rfl (by decide) [1, 2, 0] rfl  ?_
  refine J_iload_n dX5_admit_18 rfl 2 rfl  ?_
  refine J_if_ge (tgt := 24) dX5_admit_19 (by decide) (fun c_5 => ?_) (fun c_5 => ?_)
  · have h := h.1 c_5
    refine J_aload_n dX5_admit_24 rfl 0 rfl  ?_
    refine J_getr (r := p0 + 1) (ci := 3) dX5_admit_25 0 rfl giX5 hp0 (by decide) rfl rfl tb_1_154 (by decide) (sp_rf0 hp0)  ?_
    refine J_iload_n dX5_admit_28 rfl 2 rfl  ?_
    obtain ⟨hi_6, h⟩ := h
    refine J_aald3 dX5_admit_29 (sp_rows hp0) hi_6  ?_
    refine J_astore_n (lv' := [(0, .ref (g.1 + p0)), (1, .ref (g.1 + p1)), (2, .int r_4), (3, .ref (g.1 + (p0 + 1 + 1 + (r_4 : Int32).toNatClampNeg)))]) dX5_admit_30 rfl (by decide) [1, 2, 3, 0] rfl  ?_
    refine J_aload_n dX5_admit_31 rfl 1 rfl  ?_
    refine J_iload_n dX5_admit_32 rfl 2 rfl  ?_
    obtain ⟨hi_7, h⟩ := h
    refine J_iald dX5_admit_33 hp1 hi_7  ?_
    refine J_aload_n dX5_admit_34 rfl 0 rfl  ?_
    refine J_geti (ci := 3) dX5_admit_35 4 rfl giX5 hp0 (by decide) rfl rfl tb_1_164 rfl  ?_
    refine J_callS (As := [.int (S_3.1 p1 (r_4 : Int32).toNatClampNeg), .int (S_3.1 p0 4)]) (rest := []) (n := 2) dX5_admit_38 (c_X2_inverse (S_3.1 p1 (r_4 : Int32).toNatClampNeg) (S_3.1 p0 4)  _ _ h) tb_2_187 tb_2_185 tb_1_9 tb_2_186 (by decide) rfl (by decide) (by decide) (Nat.le_of_ble_eq_true rfl) rfl (fun v_r_9 S_8 hq => ?_)
    obtain ⟨r_9, rfl, h⟩ := hq
    dsimp only [Option.toList, List.cons_append, List.nil_append]
    refine J_istore (lv' := [(0, .ref (g.1 + p0)), (1, .ref (g.1 + p1)), (2, .int r_4), (3, .ref (g.1 + (p0 + 1 + 1 + (r_4 : Int32).toNatClampNeg))), (4, .int r_9)]) dX5_admit_41 (by decide) [1, 2, 3, 4, 0] rfl  ?_
    refine J_iconst (v := 0) dX5_admit_43 (by decide)  ?_
    refine J_istore (lv' := [(0, .ref (g.1 + p0)), (1, .ref (g.1 + p1)), (2, .int r_4), (3, .ref (g.1 + (p0 + 1 + 1 + (r_4 : Int32).toNatClampNeg))), (4, .int r_9), (5, .int 0)]) dX5_admit_44 (by decide) [1, 2, 3, 4, 5, 0] rfl  ?_
    obtain ⟨n, h⟩ := h
    exact l_X5_admit_46 p0 p1  _  hp0 hp1 n _ _ _ _ _ (kd_row3 (sp_rows hp0) hi_6) h
  · have h := h.2 c_5
    refine J_iconst (v := 0) dX5_admit_22 (by decide)  ?_
    exact J_iret dX5_admit_23 rfl rfl ⟨_, rfl, h⟩
def q_X1_welcome_50 (p1 : Nat)  (Q : Sto → Prop)  (S : Sto) : Prop := Q S
set_option maxRecDepth 100000 in
set_option maxHeartbeats 4000000 in
theorem l_X1_welcome_50 {g : Gv} (p1 : Nat)  (Q : Sto → Prop)  (hp1 : kd p1 = 8)  (S : Sto)  (h : q_X1_welcome_50 p1  Q  S) : RJ g cX1_welcome RX1 none 3 4 50 [(0, .ref (g.1 + 48)), (1, .ref (g.1 + p1)), (2, .ref (g.1 + 1))] [] S (Qv Q) := by
  unfold q_X1_welcome_50 at h
  exact J_vret dX1_welcome_50 rfl ⟨rfl, h⟩
def wp_X1_welcome (p1 : Nat) (S : Sto) (Q : Sto → Prop) : Prop := wp_X5_admit p1 205 S (fun r_2 S_1 => ((r_2 = 0 → q_X1_welcome_50 p1  Q  S_1) ∧ (¬ r_2 = 0 → ((16 ≤ (S_1.1 48 12) → q_X1_welcome_50 p1  Q  S_1) ∧ (¬ 16 ≤ (S_1.1 48 12) → vp_in (S_1.1 48 12) (16) ∧ wp_X4_width  S_1 (fun r_7 S_6 => wp_X2_copy 205 (188 + 1 + (S_1.1 48 12 : Int32).toNatClampNeg) r_7 S_6 (fun S_8 => ∀ S_10 : Sto, S_10 = uA S_8 48 12 ((S_8.1 48 12) + 1) → q_X1_welcome_50 p1  Q  S_10)))))))
set_option maxRecDepth 100000 in
set_option maxHeartbeats 4000000 in
theorem c_X1_welcome {g : Gv} (p1 : Nat) (hp1 : kd p1 = 8) (S : Sto) (Q : Sto → Prop) (h : wp_X1_welcome p1 S Q) : CT g yX1_welcome cX1_welcome 3 none 4 [.ref (g.1 + 48), .ref (g.1 + p1), .ref (g.1 + 1)] S (Qv Q) := by
  unfold wp_X1_welcome at h
  refine CT.of (by decide) (Nat.le_of_ble_eq_true rfl) ?_
  refine J_sub (lv' := [(0, .ref (g.1 + 48)), (1, .ref (g.1 + p1)), (2, .ref (g.1 + 1))]) [0, 1, 2] rfl ?_
  refine J_aload_n dX1_welcome_0 rfl 1 rfl  ?_
  refine J_aload_n dX1_welcome_1 rfl 0 rfl  ?_
  refine J_getr (r := 205) (ci := 0) dX1_welcome_2 13 rfl giX1 (by decide) (by decide) rfl rfl tb_1_195 (by decide) (by decide)  ?_
  refine J_callV (h := p1) (ci := 3) (As := [.ref (g.1 + 205)]) (rest := []) (n := 1) dX1_welcome_5 (c_X5_admit p1 205 hp1 (by decide) _ _ h) hp1 rfl tb_2_168 tb_2_165 tb_1_6 tb_2_166 tb_2_167 (by decide) rfl (by decide) (by decide) (Nat.le_of_ble_eq_true rfl) rfl (fun v_r_2 S_1 hq => ?_)
  obtain ⟨r_2, rfl, h⟩ := hq
  dsimp only [Option.toList, List.cons_append, List.nil_append]
  refine J_if_eq (tgt := 50) dX1_welcome_8 (by decide) (fun c_3 => ?_) (fun c_3 => ?_)
  · have h := h.1 c_3
    exact l_X1_welcome_50 p1  _  hp1  _  h
  · have h := h.2 c_3
    refine J_aload_n dX1_welcome_11 rfl 0 rfl  ?_
    refine J_geti (ci := 0) dX1_welcome_12 12 rfl giX1 (by decide) (by decide) rfl rfl tb_1_194 rfl  ?_
    refine J_bipush (v := 16) dX1_welcome_15 (by decide)  ?_
    refine J_icmp_ge (tgt := 50) dX1_welcome_17 (by decide) (fun c_4 => ?_) (fun c_4 => ?_)
    · have h := h.1 c_4
      exact l_X1_welcome_50 p1  _  hp1  _  h
    · have h := h.2 c_4
      refine J_aload_n dX1_welcome_20 rfl 0 rfl  ?_
      refine J_getr (r := 205) (ci := 0) dX1_welcome_21 13 rfl giX1 (by decide) (by decide) rfl rfl tb_1_195 (by decide) (by decide)  ?_
      refine J_aload_n dX1_welcome_24 rfl 0 rfl  ?_
      refine J_getr (r := 188) (ci := 0) dX1_welcome_25 11 rfl giX1 (by decide) (by decide) rfl rfl tb_1_193 (by decide) (by decide)  ?_
      refine J_aload_n dX1_welcome_28 rfl 0 rfl  ?_
      refine J_geti (ci := 0) dX1_welcome_29 12 rfl giX1 (by decide) (by decide) rfl rfl tb_1_194 rfl  ?_
      obtain ⟨hi_5, h⟩ := h
      refine J_aald3 dX1_welcome_32 (by decide) hi_5  ?_
      refine J_aload_n dX1_welcome_33 rfl 2 rfl  ?_
      refine J_callV (h := 1) (ci := 2) (As := []) (rest := [.ref (g.1 + (188 + 1 + (S_1.1 48 12 : Int32).toNatClampNeg)), .ref (g.1 + 205)]) (n := 0) dX1_welcome_34 (c_X4_width   _ _ h) (by decide) rfl tb_2_91 tb_2_145 tb_1_2 tb_2_89 tb_2_90 (by decide) rfl (by decide) (by decide) (Nat.le_of_ble_eq_true rfl) rfl (fun v_r_7 S_6 hq => ?_)
      obtain ⟨r_7, rfl, h⟩ := hq
      dsimp only [Option.toList, List.cons_append, List.nil_append]
      refine J_callS (As := [.ref (g.1 + 205), .ref (g.1 + (188 + 1 + (S_1.1 48 12 : Int32).toNatClampNeg)), .int r_7]) (rest := []) (n := 3) dX1_welcome_37 (c_X2_copy 205 (188 + 1 + (S_1.1 48 12 : Int32).toNatClampNeg) r_7 (by decide) (kd_row3 (by decide) hi_5) _ _ h) tb_2_123 tb_2_160 tb_1_9 tb_2_122 (by decide) rfl (by decide) (by decide) (Nat.le_of_ble_eq_true rfl) rfl (fun v_r_9 S_8 hq => ?_)
      obtain ⟨rfl, h⟩ := hq
      dsimp only [Option.toList, List.cons_append, List.nil_append]
      refine J_aload_n dX1_welcome_40 rfl 0 rfl  ?_
      refine J_dup dX1_welcome_41 rfl  ?_
      refine J_geti (ci := 0) dX1_welcome_42 12 rfl giX1 (by decide) (by decide) rfl rfl tb_1_194 rfl  ?_
      refine J_iconst (v := 1) dX1_welcome_45 (by decide)  ?_
      refine J_iadd dX1_welcome_46  ?_
      refine J_puti (ci := 0) dX1_welcome_47 12 rfl giX1 (by decide) (by decide) rfl rfl tyX1 tyX1_ok nmX1 rfl rfl rfl rfl tb_1_194 rfl  ?_
      refine J_nmS (fun S_10 eS_10 => ?_)
      have h := h S_10 eS_10
      exact l_X1_welcome_50 p1  _  hp1  _  h
def wp_J6_bitCount_0f7a4 (p0 : Int32) (S : Sto) (Q : Int32 → Sto → Prop) : Prop := ∀ x0_1 : Int32, x0_1 = p0 - (((p0.toUInt32 >>> ((1 : Int32).toUInt32 &&& Int32.toUInt32 31)).toInt32) &&& 1431655765) → ∀ x0_2 : Int32, x0_2 = (x0_1 &&& 858993459) + (((x0_1.toUInt32 >>> ((2 : Int32).toUInt32 &&& Int32.toUInt32 31)).toInt32) &&& 858993459) → ∀ x0_3 : Int32, x0_3 = (x0_2 + ((x0_2.toUInt32 >>> ((4 : Int32).toUInt32 &&& Int32.toUInt32 31)).toInt32)) &&& 252645135 → ∀ x0_4 : Int32, x0_4 = x0_3 + ((x0_3.toUInt32 >>> ((8 : Int32).toUInt32 &&& Int32.toUInt32 31)).toInt32) → ∀ x0_5 : Int32, x0_5 = x0_4 + ((x0_4.toUInt32 >>> ((16 : Int32).toUInt32 &&& Int32.toUInt32 31)).toInt32) → Q (x0_5 &&& 63) S
set_option maxRecDepth 100000 in
set_option maxHeartbeats 4000000 in
theorem c_J6_bitCount_0f7a4 {g : Gv} (p0 : Int32)  (S : Sto) (Q : Int32 → Sto → Prop) (h : wp_J6_bitCount_0f7a4 p0 S Q) : CT g yJ6_bitCount_0f7a4 cJ6_bitCount_0f7a4 1 (some .int) 1 [.int p0] S (Qi Q) := by
  unfold wp_J6_bitCount_0f7a4 at h
  refine CT.ofF (by decide +kernel) (Nat.le_of_ble_eq_true rfl) ?_
  refine J_sub (lv' := [(0, .int p0)]) [0] rfl ?_
  refine J_iload_n dJ6_bitCount_0f7a4_0 rfl 0 rfl  ?_
  refine J_iload_n dJ6_bitCount_0f7a4_1 rfl 0 rfl  ?_
  refine J_iconst (v := 1) dJ6_bitCount_0f7a4_2 (by decide)  ?_
  refine J_iushr dJ6_bitCount_0f7a4_3  ?_
  refine J_ldcw (v := 1431655765) dJ6_bitCount_0f7a4_4 tb_2_112  ?_
  refine J_iand dJ6_bitCount_0f7a4_7  ?_
  refine J_isub dJ6_bitCount_0f7a4_8  ?_
  refine J_topi (fun x0_1 ex0_1 => ?_)
  have h := h x0_1 ex0_1
  refine J_istore_n (lv' := [(0, .int x0_1)]) dJ6_bitCount_0f7a4_9 rfl (by decide) [0] rfl  ?_
  refine J_iload_n dJ6_bitCount_0f7a4_10 rfl 0 rfl  ?_
  refine J_ldcw (v := 858993459) dJ6_bitCount_0f7a4_11 tb_2_113  ?_
  refine J_iand dJ6_bitCount_0f7a4_14  ?_
  refine J_iload_n dJ6_bitCount_0f7a4_15 rfl 0 rfl  ?_
  refine J_iconst (v := 2) dJ6_bitCount_0f7a4_16 (by decide)  ?_
  refine J_iushr dJ6_bitCount_0f7a4_17  ?_
  refine J_ldcw (v := 858993459) dJ6_bitCount_0f7a4_18 tb_2_113  ?_
  refine J_iand dJ6_bitCount_0f7a4_21  ?_
  refine J_iadd dJ6_bitCount_0f7a4_22  ?_
  refine J_topi (fun x0_2 ex0_2 => ?_)
  have h := h x0_2 ex0_2
  refine J_istore_n (lv' := [(0, .int x0_2)]) dJ6_bitCount_0f7a4_23 rfl (by decide) [0] rfl  ?_
  refine J_iload_n dJ6_bitCount_0f7a4_24 rfl 0 rfl  ?_
  refine J_iload_n dJ6_bitCount_0f7a4_25 rfl 0 rfl  ?_
  refine J_iconst (v := 4) dJ6_bitCount_0f7a4_26 (by decide)  ?_
  refine J_iushr dJ6_bitCount_0f7a4_27  ?_
  refine J_iadd dJ6_bitCount_0f7a4_28  ?_
  refine J_ldcw (v := 252645135) dJ6_bitCount_0f7a4_29 tb_2_114  ?_
  refine J_iand dJ6_bitCount_0f7a4_32  ?_
  refine J_topi (fun x0_3 ex0_3 => ?_)
  have h := h x0_3 ex0_3
  refine J_istore_n (lv' := [(0, .int x0_3)]) dJ6_bitCount_0f7a4_33 rfl (by decide) [0] rfl  ?_
  refine J_iload_n dJ6_bitCount_0f7a4_34 rfl 0 rfl  ?_
  refine J_iload_n dJ6_bitCount_0f7a4_35 rfl 0 rfl  ?_
  refine J_bipush (v := 8) dJ6_bitCount_0f7a4_36 (by decide)  ?_
  refine J_iushr dJ6_bitCount_0f7a4_38  ?_
  refine J_iadd dJ6_bitCount_0f7a4_39  ?_
  refine J_topi (fun x0_4 ex0_4 => ?_)
  have h := h x0_4 ex0_4
  refine J_istore_n (lv' := [(0, .int x0_4)]) dJ6_bitCount_0f7a4_40 rfl (by decide) [0] rfl  ?_
  refine J_iload_n dJ6_bitCount_0f7a4_41 rfl 0 rfl  ?_
  refine J_iload_n dJ6_bitCount_0f7a4_42 rfl 0 rfl  ?_
  refine J_bipush (v := 16) dJ6_bitCount_0f7a4_43 (by decide)  ?_
  refine J_iushr dJ6_bitCount_0f7a4_45  ?_
  refine J_iadd dJ6_bitCount_0f7a4_46  ?_
  refine J_topi (fun x0_5 ex0_5 => ?_)
  have h := h x0_5 ex0_5
  refine J_istore_n (lv' := [(0, .int x0_5)]) dJ6_bitCount_0f7a4_47 rfl (by decide) [0] rfl  ?_
  refine J_iload_n dJ6_bitCount_0f7a4_48 rfl 0 rfl  ?_
  refine J_bipush (v := 63) dJ6_bitCount_0f7a4_49 (by decide)  ?_
  refine J_iand dJ6_bitCount_0f7a4_51  ?_
  exact J_iret dJ6_bitCount_0f7a4_52 rfl rfl ⟨_, rfl, h⟩
def q_X2_sign_46 (p0 : Int32) (p1 : Int32)  (Q : Int32 → Sto → Prop) (t0 : Int32) (S : Sto) : Prop := Q t0 S
set_option maxRecDepth 100000 in
set_option maxHeartbeats 4000000 in
theorem l_X2_sign_46 {g : Gv} (p0 : Int32) (p1 : Int32)  (Q : Int32 → Sto → Prop)   (t0 : Int32) (S : Sto)  (h : q_X2_sign_46 p0 p1  Q t0 S) : RJ g cX2_sign RX2 (some .int) 3 2 46 [(0, .int p0), (1, .int p1)] [.int t0] S (Qi Q) := by
  unfold q_X2_sign_46 at h
  exact J_iret dX2_sign_46 rfl rfl ⟨_, rfl, h⟩
def wp_X2_sign (p0 : Int32) (p1 : Int32) (S : Sto) (Q : Int32 → Sto → Prop) : Prop := (((p0 &&& p1) = 0 → wp_J6_bitCount_0f7a4 ((p0 >>> (1 &&& 31)) &&& p1) S (fun r_3 S_2 => wp_J6_bitCount_0f7a4 ((p0 >>> (2 &&& 31)) &&& p1) S_2 (fun r_5 S_4 => wp_J6_bitCount_0f7a4 ((p0 >>> (3 &&& 31)) &&& p1) S_4 (fun r_7 S_6 => ∀ x2_8 : Int32, x2_8 = (r_3 + r_5) + r_7 → ((¬ (x2_8 &&& 1) = 0 → q_X2_sign_46 p0 p1  Q ((-1)) S_6) ∧ ((x2_8 &&& 1) = 0 → q_X2_sign_46 p0 p1  Q 1 S_6)))))) ∧ (¬ (p0 &&& p1) = 0 → Q 0 S))
set_option maxRecDepth 100000 in
set_option maxHeartbeats 4000000 in
theorem c_X2_sign {g : Gv} (p0 : Int32) (p1 : Int32)  (S : Sto) (Q : Int32 → Sto → Prop) (h : wp_X2_sign p0 p1 S Q) : CT g yX2_sign cX2_sign 3 (some .int) 2 [.int p0, .int p1] S (Qi Q) := by
  unfold wp_X2_sign at h
  refine CT.of (by decide) (Nat.le_of_ble_eq_true rfl) ?_
  refine J_sub (lv' := [(0, .int p0), (1, .int p1)]) [0, 1] rfl ?_
  refine J_iload_n dX2_sign_0 rfl 0 rfl  ?_
  refine J_iload_n dX2_sign_1 rfl 1 rfl  ?_
  refine J_iand dX2_sign_2  ?_
  refine J_if_eq (tgt := 8) dX2_sign_3 (by decide) (fun c_1 => ?_) (fun c_1 => ?_)
  · have h := h.1 c_1
    refine J_iload_n dX2_sign_8 rfl 0 rfl  ?_
    refine J_iconst (v := 1) dX2_sign_9 (by decide)  ?_
    refine J_ishr dX2_sign_10  ?_
    refine J_iload_n dX2_sign_11 rfl 1 rfl  ?_
    refine J_iand dX2_sign_12  ?_
    refine J_callS (As := [.int ((p0 >>> (1 &&& 31)) &&& p1)]) (rest := []) (n := 1) dX2_sign_13 (c_J6_bitCount_0f7a4 ((p0 >>> (1 &&& 31)) &&& p1)  _ _ h) tb_2_111 tb_2_109 tb_1_11 tb_2_110 (by decide) rfl (by decide) (by decide) (Nat.le_of_ble_eq_true rfl) rfl (fun v_r_3 S_2 hq => ?_)
    obtain ⟨r_3, rfl, h⟩ := hq
    dsimp only [Option.toList, List.cons_append, List.nil_append]
    refine J_iload_n dX2_sign_16 rfl 0 rfl  ?_
    refine J_iconst (v := 2) dX2_sign_17 (by decide)  ?_
    refine J_ishr dX2_sign_18  ?_
    refine J_iload_n dX2_sign_19 rfl 1 rfl  ?_
    refine J_iand dX2_sign_20  ?_
    refine J_callS (As := [.int ((p0 >>> (2 &&& 31)) &&& p1)]) (rest := [.int r_3]) (n := 1) dX2_sign_21 (c_J6_bitCount_0f7a4 ((p0 >>> (2 &&& 31)) &&& p1)  _ _ h) tb_2_111 tb_2_109 tb_1_11 tb_2_110 (by decide) rfl (by decide) (by decide) (Nat.le_of_ble_eq_true rfl) rfl (fun v_r_5 S_4 hq => ?_)
    obtain ⟨r_5, rfl, h⟩ := hq
    dsimp only [Option.toList, List.cons_append, List.nil_append]
    refine J_iadd dX2_sign_24  ?_
    refine J_iload_n dX2_sign_25 rfl 0 rfl  ?_
    refine J_iconst (v := 3) dX2_sign_26 (by decide)  ?_
    refine J_ishr dX2_sign_27  ?_
    refine J_iload_n dX2_sign_28 rfl 1 rfl  ?_
    refine J_iand dX2_sign_29  ?_
    refine J_callS (As := [.int ((p0 >>> (3 &&& 31)) &&& p1)]) (rest := [.int (r_3 + r_5)]) (n := 1) dX2_sign_30 (c_J6_bitCount_0f7a4 ((p0 >>> (3 &&& 31)) &&& p1)  _ _ h) tb_2_111 tb_2_109 tb_1_11 tb_2_110 (by decide) rfl (by decide) (by decide) (Nat.le_of_ble_eq_true rfl) rfl (fun v_r_7 S_6 hq => ?_)
    obtain ⟨r_7, rfl, h⟩ := hq
    dsimp only [Option.toList, List.cons_append, List.nil_append]
    refine J_iadd dX2_sign_33  ?_
    refine J_topi (fun x2_8 ex2_8 => ?_)
    have h := h x2_8 ex2_8
    refine J_istore_n (lv' := [(0, .int p0), (1, .int p1), (2, .int x2_8)]) dX2_sign_34 rfl (by decide) [1, 2, 0] rfl  ?_
    refine J_iload_n dX2_sign_35 rfl 2 rfl  ?_
    refine J_iconst (v := 1) dX2_sign_36 (by decide)  ?_
    refine J_iand dX2_sign_37  ?_
    refine J_if_ne (tgt := 45) dX2_sign_38 (by decide) (fun c_9 => ?_) (fun c_9 => ?_)
    · have h := h.1 c_9
      refine J_iconst (v := (-1)) dX2_sign_45 (by decide)  ?_
      refine J_sub (lv' := [(0, .int p0), (1, .int p1)]) [0, 1] rfl ?_
      exact l_X2_sign_46 p0 p1  _   _ _  h
    · have h := h.2 c_9
      refine J_iconst (v := 1) dX2_sign_41 (by decide)  ?_
      refine J_goto (tgt := 46) dX2_sign_42 (by decide)  ?_
      refine J_sub (lv' := [(0, .int p0), (1, .int p1)]) [0, 1] rfl ?_
      exact l_X2_sign_46 p0 p1  _   _ _  h
  · have h := h.2 c_1
    refine J_iconst (v := 0) dX2_sign_6 (by decide)  ?_
    exact J_iret dX2_sign_7 rfl rfl ⟨_, rfl, h⟩
def q_X2_byLetter_73 (p0 : Int32) (p1 : Int32) (p2 : Nat) (p3 : Nat) (p4 : Int32) (p5 : Int32) (R8 : Int32 → Int32 → Sto → Prop) (Q : Sto → Prop) (x6 : Int32) (x7 : Int32) (t1 : Int32) (t2 : Int32) (S : Sto) : Prop := vp_in t1 (ln p3) ∧ ∀ S_2 : Sto, S_2 = uA S p3 (t1 : Int32).toNatClampNeg t2 → ∀ x7_3 : Int32, x7_3 = x7 + 1 → R8 x6 x7_3 S_2
set_option maxRecDepth 100000 in
set_option maxHeartbeats 4000000 in
theorem l_X2_byLetter_73 {g : Gv} (p0 : Int32) (p1 : Int32) (p2 : Nat) (p3 : Nat) (p4 : Int32) (p5 : Int32) (R8 : Int32 → Int32 → Sto → Prop) (Q : Sto → Prop) (hR8 : ∀ (y6 : Int32) (y7 : Int32) (S : Sto), R8 y6 y7 S → RJ g cX2_byLetter RX2 none 10 3 8 [(0, .int p0), (1, .int p1), (2, .ref (g.1 + p2)), (3, .ref (g.1 + p3)), (4, .int p4), (5, .int p5), (6, .int y6), (7, .int y7)] [] S (Qv Q)) (hp2 : kd p2 = 0) (hp3 : kd p3 = 0) (x6 : Int32) (x7 : Int32) (t1 : Int32) (t2 : Int32) (S : Sto)  (h : q_X2_byLetter_73 p0 p1 p2 p3 p4 p5 R8 Q x6 x7 t1 t2 S) : RJ g cX2_byLetter RX2 none 10 3 73 [(0, .int p0), (1, .int p1), (2, .ref (g.1 + p2)), (3, .ref (g.1 + p3)), (4, .int p4), (5, .int p5), (6, .int x6), (7, .int x7)] [.int t2, .int t1, .ref (g.1 + p3)] S (Qv Q) := by
  unfold q_X2_byLetter_73 at h
  obtain ⟨hi_1, h⟩ := h
  refine J_iast dX2_byLetter_73 hp3 hi_1  ?_
  refine J_nmS (fun S_2 eS_2 => ?_)
  have h := h S_2 eS_2
  obtain ⟨x7_3, ex7_3⟩ : ∃ y : Int32, y = x7 + 1 := ⟨_, rfl⟩
  have h := h x7_3 ex7_3
  refine J_iinc (v := x7_3) (lv' := [(0, .int p0), (1, .int p1), (2, .ref (g.1 + p2)), (3, .ref (g.1 + p3)), (4, .int p4), (5, .int p5), (6, .int x6), (7, .int x7_3)]) dX2_byLetter_74 (q := 7) rfl (by rw [ex7_3]; rfl) (by decide) [1, 2, 3, 4, 5, 6, 7, 0] rfl  ?_
  refine J_goto (tgt := 8) dX2_byLetter_77 (by decide)  ?_
  exact hR8 _ _ _  h
def q_X2_byLetter_45 (p0 : Int32) (p1 : Int32) (p2 : Nat) (p3 : Nat) (p4 : Int32) (p5 : Int32) (R8 : Int32 → Int32 → Sto → Prop) (Q : Sto → Prop) (x6 : Int32) (x7 : Int32) (x8 : Int32) (t0 : Int32) (S : Sto) : Prop := ((¬ x8 = x7 → vp_in x8 (ln p2) ∧ wp_X2_modulo (t0 * (S.1 p2 (x8 : Int32).toNatClampNeg)) p5 S (fun r_4 S_3 => q_X2_byLetter_73 p0 p1 p2 p3 p4 p5 R8 Q x6 x7 x7 r_4 S_3)) ∧ (x8 = x7 → q_X2_byLetter_73 p0 p1 p2 p3 p4 p5 R8 Q x6 x7 x7 0 S))
set_option maxRecDepth 100000 in
set_option maxHeartbeats 4000000 in
theorem l_X2_byLetter_45 {g : Gv} (p0 : Int32) (p1 : Int32) (p2 : Nat) (p3 : Nat) (p4 : Int32) (p5 : Int32) (R8 : Int32 → Int32 → Sto → Prop) (Q : Sto → Prop) (hR8 : ∀ (y6 : Int32) (y7 : Int32) (S : Sto), R8 y6 y7 S → RJ g cX2_byLetter RX2 none 10 3 8 [(0, .int p0), (1, .int p1), (2, .ref (g.1 + p2)), (3, .ref (g.1 + p3)), (4, .int p4), (5, .int p5), (6, .int y6), (7, .int y7)] [] S (Qv Q)) (hp2 : kd p2 = 0) (hp3 : kd p3 = 0) (x6 : Int32) (x7 : Int32) (x8 : Int32) (t0 : Int32) (S : Sto)  (h : q_X2_byLetter_45 p0 p1 p2 p3 p4 p5 R8 Q x6 x7 x8 t0 S) : RJ g cX2_byLetter RX2 none 10 3 45 [(0, .int p0), (1, .int p1), (2, .ref (g.1 + p2)), (3, .ref (g.1 + p3)), (4, .int p4), (5, .int p5), (6, .int x6), (7, .int x7), (8, .int x8)] [.int t0] S (Qv Q) := by
  unfold q_X2_byLetter_45 at h
  refine J_istore (lv' := [(0, .int p0), (1, .int p1), (2, .ref (g.1 + p2)), (3, .ref (g.1 + p3)), (4, .int p4), (5, .int p5), (6, .int x6), (7, .int x7), (8, .int x8), (9, .int t0)]) dX2_byLetter_45 (by decide) [1, 2, 3, 4, 5, 6, 7, 8, 9, 0] rfl  ?_
  refine J_aload_n dX2_byLetter_47 rfl 3 rfl  ?_
  refine J_iload dX2_byLetter_48 7 rfl  ?_
  refine J_iload dX2_byLetter_50 8 rfl  ?_
  refine J_iload dX2_byLetter_52 7 rfl  ?_
  refine J_icmp_ne (tgt := 61) dX2_byLetter_54 (by decide) (fun c_1 => ?_) (fun c_1 => ?_)
  · have h := h.1 c_1
    refine J_iload dX2_byLetter_61 9 rfl  ?_
    refine J_aload_n dX2_byLetter_63 rfl 2 rfl  ?_
    refine J_iload dX2_byLetter_64 8 rfl  ?_
    obtain ⟨hi_2, h⟩ := h
    refine J_iald dX2_byLetter_66 hp2 hi_2  ?_
    refine J_imul dX2_byLetter_67  ?_
    refine J_iload dX2_byLetter_68 5 rfl  ?_
    refine J_callS (As := [.int (t0 * (S.1 p2 (x8 : Int32).toNatClampNeg)), .int p5]) (rest := [.int x7, .ref (g.1 + p3)]) (n := 2) dX2_byLetter_70 (c_X2_modulo (t0 * (S.1 p2 (x8 : Int32).toNatClampNeg)) p5  _ _ h) tb_2_94 tb_2_115 tb_1_9 tb_2_93 (by decide) rfl (by decide) (by decide) (Nat.le_of_ble_eq_true rfl) rfl (fun v_r_4 S_3 hq => ?_)
    obtain ⟨r_4, rfl, h⟩ := hq
    dsimp only [Option.toList, List.cons_append, List.nil_append]
    refine J_sub (lv' := [(0, .int p0), (1, .int p1), (2, .ref (g.1 + p2)), (3, .ref (g.1 + p3)), (4, .int p4), (5, .int p5), (6, .int x6), (7, .int x7)]) [0, 1, 2, 3, 4, 5, 6, 7] rfl ?_
    exact l_X2_byLetter_73 p0 p1 p2 p3 p4 p5 _ _ hR8 hp2 hp3 _ _ _ _ _  h
  · have h := h.2 c_1
    refine J_iconst (v := 0) dX2_byLetter_57 (by decide)  ?_
    refine J_goto (tgt := 73) dX2_byLetter_58 (by decide)  ?_
    refine J_sub (lv' := [(0, .int p0), (1, .int p1), (2, .ref (g.1 + p2)), (3, .ref (g.1 + p3)), (4, .int p4), (5, .int p5), (6, .int x6), (7, .int x7)]) [0, 1, 2, 3, 4, 5, 6, 7] rfl ?_
    exact l_X2_byLetter_73 p0 p1 p2 p3 p4 p5 _ _ hR8 hp2 hp3 _ _ _ _ _  h
def q_X2_byLetter_8 (p0 : Int32) (p1 : Int32) (p2 : Nat) (p3 : Nat) (p4 : Int32) (p5 : Int32)  (Q : Sto → Prop) : Nat → Int32 → Int32 → Sto → Prop
  | 0, _, _, _ => False
  | n + 1, x6, x7, S => ((p4 ≤ x7 → Q S) ∧ (¬ p4 ≤ x7 → ∀ x8_2 : Int32, x8_2 = x7 &&& (x6 ^^^ ((-1))) → ((¬ p0 = 0 → wp_X2_sign x8_2 x6 S (fun r_5 S_4 => q_X2_byLetter_45 p0 p1 p2 p3 p4 p5 (fun y6 y7 S => q_X2_byLetter_8 p0 p1 p2 p3 p4 p5  Q n y6 y7 S) Q x6 x7 x8_2 r_5 S_4)) ∧ (p0 = 0 → wp_X2_sign x6 x8_2 S (fun r_7 S_6 => q_X2_byLetter_45 p0 p1 p2 p3 p4 p5 (fun y6 y7 S => q_X2_byLetter_8 p0 p1 p2 p3 p4 p5  Q n y6 y7 S) Q x6 x7 x8_2 r_7 S_6)))))
set_option maxRecDepth 100000 in
set_option maxHeartbeats 4000000 in
theorem l_X2_byLetter_8 {g : Gv} (p0 : Int32) (p1 : Int32) (p2 : Nat) (p3 : Nat) (p4 : Int32) (p5 : Int32)  (Q : Sto → Prop)  (hp2 : kd p2 = 0) (hp3 : kd p3 = 0) (n : Nat) : ∀ (x6 : Int32) (x7 : Int32) (S : Sto)  (h : q_X2_byLetter_8 p0 p1 p2 p3 p4 p5  Q n x6 x7 S), RJ g cX2_byLetter RX2 none 10 3 8 [(0, .int p0), (1, .int p1), (2, .ref (g.1 + p2)), (3, .ref (g.1 + p3)), (4, .int p4), (5, .int p5), (6, .int x6), (7, .int x7)] [] S (Qv Q) := by
  induction n with
  | zero => intro x6 x7 S  h; exact h.elim
  | succ n ih =>
    intro x6 x7 S  h
    unfold q_X2_byLetter_8 at h
    refine J_iload dX2_byLetter_8 7 rfl  ?_
    refine J_iload dX2_byLetter_10 4 rfl  ?_
    refine J_icmp_ge (tgt := 80) dX2_byLetter_12 (by decide) (fun c_1 => ?_) (fun c_1 => ?_)
    · have h := h.1 c_1
      exact J_vret dX2_byLetter_80 rfl ⟨rfl, h⟩
    · have h := h.2 c_1
      refine J_iload dX2_byLetter_15 7 rfl  ?_
      refine J_iload dX2_byLetter_17 6 rfl  ?_
      refine J_iconst (v := (-1)) dX2_byLetter_19 (by decide)  ?_
      refine J_ixor dX2_byLetter_20  ?_
      refine J_iand dX2_byLetter_21  ?_
      refine J_topi (fun x8_2 ex8_2 => ?_)
      have h := h x8_2 ex8_2
      refine J_istore (lv' := [(0, .int p0), (1, .int p1), (2, .ref (g.1 + p2)), (3, .ref (g.1 + p3)), (4, .int p4), (5, .int p5), (6, .int x6), (7, .int x7), (8, .int x8_2)]) dX2_byLetter_22 (by decide) [1, 2, 3, 4, 5, 6, 7, 8, 0] rfl  ?_
      refine J_iload_n dX2_byLetter_24 rfl 0 rfl  ?_
      refine J_if_ne (tgt := 38) dX2_byLetter_25 (by decide) (fun c_3 => ?_) (fun c_3 => ?_)
      · have h := h.1 c_3
        refine J_iload dX2_byLetter_38 8 rfl  ?_
        refine J_iload dX2_byLetter_40 6 rfl  ?_
        refine J_callS (As := [.int x8_2, .int x6]) (rest := []) (n := 2) dX2_byLetter_42 (c_X2_sign x8_2 x6  _ _ h) tb_2_108 tb_2_106 tb_1_9 tb_2_107 (by decide) rfl (by decide) (by decide) (Nat.le_of_ble_eq_true rfl) rfl (fun v_r_5 S_4 hq => ?_)
        obtain ⟨r_5, rfl, h⟩ := hq
        dsimp only [Option.toList, List.cons_append, List.nil_append]
        exact l_X2_byLetter_45 p0 p1 p2 p3 p4 p5 _ _ (fun y6 y7 S  h => ih y6 y7 S  h) hp2 hp3 _ _ _ _ _  h
      · have h := h.2 c_3
        refine J_iload dX2_byLetter_28 6 rfl  ?_
        refine J_iload dX2_byLetter_30 8 rfl  ?_
        refine J_callS (As := [.int x6, .int x8_2]) (rest := []) (n := 2) dX2_byLetter_32 (c_X2_sign x6 x8_2  _ _ h) tb_2_108 tb_2_106 tb_1_9 tb_2_107 (by decide) rfl (by decide) (by decide) (Nat.le_of_ble_eq_true rfl) rfl (fun v_r_7 S_6 hq => ?_)
        obtain ⟨r_7, rfl, h⟩ := hq
        dsimp only [Option.toList, List.cons_append, List.nil_append]
        refine J_goto (tgt := 45) dX2_byLetter_35 (by decide)  ?_
        exact l_X2_byLetter_45 p0 p1 p2 p3 p4 p5 _ _ (fun y6 y7 S  h => ih y6 y7 S  h) hp2 hp3 _ _ _ _ _  h
def wp_X2_byLetter (p0 : Int32) (p1 : Int32) (p2 : Nat) (p3 : Nat) (p4 : Int32) (p5 : Int32) (S : Sto) (Q : Sto → Prop) : Prop := ∀ x6_1 : Int32, x6_1 = 1 <<< (p1 &&& 31) → (∃ n_8, q_X2_byLetter_8 p0 p1 p2 p3 p4 p5  Q n_8 x6_1 0 S)
set_option maxRecDepth 100000 in
set_option maxHeartbeats 4000000 in
theorem c_X2_byLetter {g : Gv} (p0 : Int32) (p1 : Int32) (p2 : Nat) (p3 : Nat) (p4 : Int32) (p5 : Int32) (hp2 : kd p2 = 0) (hp3 : kd p3 = 0) (S : Sto) (Q : Sto → Prop) (h : wp_X2_byLetter p0 p1 p2 p3 p4 p5 S Q) : CT g yX2_byLetter cX2_byLetter 10 none 3 [.int p0, .int p1, .ref (g.1 + p2), .ref (g.1 + p3), .int p4, .int p5] S (Qv Q) := by
  unfold wp_X2_byLetter at h
  refine CT.of (by decide) (Nat.le_of_ble_eq_true rfl) ?_
  refine J_sub (lv' := [(0, .int p0), (1, .int p1), (2, .ref (g.1 + p2)), (3, .ref (g.1 + p3)), (4, .int p4), (5, .int p5)]) [0, 1, 2, 3, 4, 5] rfl ?_
  refine J_iconst (v := 1) dX2_byLetter_0 (by decide)  ?_
  refine J_iload_n dX2_byLetter_1 rfl 1 rfl  ?_
  refine J_ishl dX2_byLetter_2  ?_
  refine J_topi (fun x6_1 ex6_1 => ?_)
  have h := h x6_1 ex6_1
  refine J_istore (lv' := [(0, .int p0), (1, .int p1), (2, .ref (g.1 + p2)), (3, .ref (g.1 + p3)), (4, .int p4), (5, .int p5), (6, .int x6_1)]) dX2_byLetter_3 (by decide) [1, 2, 3, 4, 5, 6, 0] rfl  ?_
  refine J_iconst (v := 0) dX2_byLetter_5 (by decide)  ?_
  refine J_istore (lv' := [(0, .int p0), (1, .int p1), (2, .ref (g.1 + p2)), (3, .ref (g.1 + p3)), (4, .int p4), (5, .int p5), (6, .int x6_1), (7, .int 0)]) dX2_byLetter_6 (by decide) [1, 2, 3, 4, 5, 6, 7, 0] rfl  ?_
  obtain ⟨n, h⟩ := h
  exact l_X2_byLetter_8 p0 p1 p2 p3 p4 p5  _  hp2 hp3 n _ _ _  h
def q_X1_complete_165 (p1 : Nat) (p2 : Int32) (p4 : Nat) (p5 : Int32)  (Q : Sto → Prop)  (S : Sto) : Prop := Q S
set_option maxRecDepth 100000 in
set_option maxHeartbeats 4000000 in
theorem l_X1_complete_165 {g : Gv} (p1 : Nat) (p2 : Int32) (p4 : Nat) (p5 : Int32)  (Q : Sto → Prop)  (hp1 : kd p1 = 8) (hp4 : kd p4 = 3)  (S : Sto)  (h : q_X1_complete_165 p1 p2 p4 p5  Q  S) : RJ g cX1_complete RX1 none 8 5 165 [(0, .ref (g.1 + 48)), (1, .ref (g.1 + p1)), (2, .int p2), (3, .ref (g.1 + 1)), (4, .ref (g.1 + p4)), (5, .int p5)] [] S (Qv Q) := by
  unfold q_X1_complete_165 at h
  exact J_vret dX1_complete_165 rfl ⟨rfl, h⟩
def q_X1_complete_153 (p1 : Nat) (p2 : Int32) (p4 : Nat) (p5 : Int32) (R54 : Int32 → Sto → Prop) (R73 : Int32 → Int32 → Sto → Prop) (Q : Sto → Prop) (x6 : Int32) (x7 : Int32) (S : Sto) : Prop := ∀ x7_1 : Int32, x7_1 = x7 + 1 → R73 x6 x7_1 S
set_option maxRecDepth 100000 in
set_option maxHeartbeats 4000000 in
theorem l_X1_complete_153 {g : Gv} (p1 : Nat) (p2 : Int32) (p4 : Nat) (p5 : Int32) (R54 : Int32 → Sto → Prop) (R73 : Int32 → Int32 → Sto → Prop) (Q : Sto → Prop) (hR54 : ∀ (y6 : Int32) (S : Sto), R54 y6 S → RJ g cX1_complete RX1 none 8 5 54 [(0, .ref (g.1 + 48)), (1, .ref (g.1 + p1)), (2, .int p2), (3, .ref (g.1 + 1)), (4, .ref (g.1 + p4)), (5, .int p5), (6, .int y6)] [] S (Qv Q)) (hR73 : ∀ (y6 : Int32) (y7 : Int32) (S : Sto), R73 y6 y7 S → RJ g cX1_complete RX1 none 8 5 73 [(0, .ref (g.1 + 48)), (1, .ref (g.1 + p1)), (2, .int p2), (3, .ref (g.1 + 1)), (4, .ref (g.1 + p4)), (5, .int p5), (6, .int y6), (7, .int y7)] [] S (Qv Q)) (hp1 : kd p1 = 8) (hp4 : kd p4 = 3) (x6 : Int32) (x7 : Int32) (S : Sto)  (h : q_X1_complete_153 p1 p2 p4 p5 R54 R73 Q x6 x7 S) : RJ g cX1_complete RX1 none 8 5 153 [(0, .ref (g.1 + 48)), (1, .ref (g.1 + p1)), (2, .int p2), (3, .ref (g.1 + 1)), (4, .ref (g.1 + p4)), (5, .int p5), (6, .int x6), (7, .int x7)] [] S (Qv Q) := by
  unfold q_X1_complete_153 at h
  obtain ⟨x7_1, ex7_1⟩ : ∃ y : Int32, y = x7 + 1 := ⟨_, rfl⟩
  have h := h x7_1 ex7_1
  refine J_iinc (v := x7_1) (lv' := [(0, .ref (g.1 + 48)), (1, .ref (g.1 + p1)), (2, .int p2), (3, .ref (g.1 + 1)), (4, .ref (g.1 + p4)), (5, .int p5), (6, .int x6), (7, .int x7_1)]) dX1_complete_153 (q := 7) rfl (by rw [ex7_1]; rfl) (by decide) [1, 2, 3, 4, 5, 6, 7, 0] rfl  ?_
  refine J_goto (tgt := 73) dX1_complete_156 (by decide)  ?_
  exact hR73 _ _ _  h
def q_X1_complete_118 (p1 : Nat) (p2 : Int32) (p4 : Nat) (p5 : Int32) (R54 : Int32 → Sto → Prop) (R73 : Int32 → Int32 → Sto → Prop) (Q : Sto → Prop) (x6 : Int32) (x7 : Int32) (S : Sto) : Prop := ((p2 = 0 → q_X1_complete_153 p1 p2 p4 p5 R54 R73 Q x6 x7 S) ∧ (¬ p2 = 0 → vp_in x6 (16) ∧ wp_X4_width  S (fun r_4 S_3 => wp_X2_byLetter 1 x7 (188 + 1 + (x6 : Int32).toNatClampNeg) 205 r_4 (S_3.1 1 1) S_3 (fun S_5 => wp_X1_welcome p1 S_5 (fun S_7 => q_X1_complete_153 p1 p2 p4 p5 R54 R73 Q x6 x7 S_7)))))
set_option maxRecDepth 100000 in
set_option maxHeartbeats 4000000 in
theorem l_X1_complete_118 {g : Gv} (p1 : Nat) (p2 : Int32) (p4 : Nat) (p5 : Int32) (R54 : Int32 → Sto → Prop) (R73 : Int32 → Int32 → Sto → Prop) (Q : Sto → Prop) (hR54 : ∀ (y6 : Int32) (S : Sto), R54 y6 S → RJ g cX1_complete RX1 none 8 5 54 [(0, .ref (g.1 + 48)), (1, .ref (g.1 + p1)), (2, .int p2), (3, .ref (g.1 + 1)), (4, .ref (g.1 + p4)), (5, .int p5), (6, .int y6)] [] S (Qv Q)) (hR73 : ∀ (y6 : Int32) (y7 : Int32) (S : Sto), R73 y6 y7 S → RJ g cX1_complete RX1 none 8 5 73 [(0, .ref (g.1 + 48)), (1, .ref (g.1 + p1)), (2, .int p2), (3, .ref (g.1 + 1)), (4, .ref (g.1 + p4)), (5, .int p5), (6, .int y6), (7, .int y7)] [] S (Qv Q)) (hp1 : kd p1 = 8) (hp4 : kd p4 = 3) (x6 : Int32) (x7 : Int32) (S : Sto)  (h : q_X1_complete_118 p1 p2 p4 p5 R54 R73 Q x6 x7 S) : RJ g cX1_complete RX1 none 8 5 118 [(0, .ref (g.1 + 48)), (1, .ref (g.1 + p1)), (2, .int p2), (3, .ref (g.1 + 1)), (4, .ref (g.1 + p4)), (5, .int p5), (6, .int x6), (7, .int x7)] [] S (Qv Q) := by
  unfold q_X1_complete_118 at h
  refine J_iload_n dX1_complete_118 rfl 2 rfl  ?_
  refine J_if_eq (tgt := 153) dX1_complete_119 (by decide) (fun c_1 => ?_) (fun c_1 => ?_)
  · have h := h.1 c_1
    exact l_X1_complete_153 p1 p2 p4 p5 _ _ _ hR54 hR73 hp1 hp4 _ _ _  h
  · have h := h.2 c_1
    refine J_iconst (v := 1) dX1_complete_122 (by decide)  ?_
    refine J_iload dX1_complete_123 7 rfl  ?_
    refine J_aload_n dX1_complete_125 rfl 0 rfl  ?_
    refine J_getr (r := 188) (ci := 0) dX1_complete_126 11 rfl giX1 (by decide) (by decide) rfl rfl tb_1_193 (by decide) (by decide)  ?_
    refine J_iload dX1_complete_129 6 rfl  ?_
    obtain ⟨hi_2, h⟩ := h
    refine J_aald3 dX1_complete_131 (by decide) hi_2  ?_
    refine J_aload_n dX1_complete_132 rfl 0 rfl  ?_
    refine J_getr (r := 205) (ci := 0) dX1_complete_133 13 rfl giX1 (by decide) (by decide) rfl rfl tb_1_195 (by decide) (by decide)  ?_
    refine J_aload_n dX1_complete_136 rfl 3 rfl  ?_
    refine J_callV (h := 1) (ci := 2) (As := []) (rest := [.ref (g.1 + 205), .ref (g.1 + (188 + 1 + (x6 : Int32).toNatClampNeg)), .int x7, .int 1]) (n := 0) dX1_complete_137 (c_X4_width   _ _ h) (by decide) rfl tb_2_91 tb_2_145 tb_1_2 tb_2_89 tb_2_90 (by decide) rfl (by decide) (by decide) (Nat.le_of_ble_eq_true rfl) rfl (fun v_r_4 S_3 hq => ?_)
    obtain ⟨r_4, rfl, h⟩ := hq
    dsimp only [Option.toList, List.cons_append, List.nil_append]
    refine J_aload_n dX1_complete_140 rfl 3 rfl  ?_
    refine J_geti (ci := 2) dX1_complete_141 1 rfl giX4 (by decide) (by decide) rfl rfl tb_1_38 rfl  ?_
    refine J_callS (As := [.int 1, .int x7, .ref (g.1 + (188 + 1 + (x6 : Int32).toNatClampNeg)), .ref (g.1 + 205), .int r_4, .int (S_3.1 1 1)]) (rest := []) (n := 6) dX1_complete_144 (c_X2_byLetter 1 x7 (188 + 1 + (x6 : Int32).toNatClampNeg) 205 r_4 (S_3.1 1 1) (kd_row3 (by decide) hi_2) (by decide) _ _ h) tb_2_191 tb_2_189 tb_1_9 tb_2_190 (by decide) rfl (by decide) (by decide) (Nat.le_of_ble_eq_true rfl) rfl (fun v_r_6 S_5 hq => ?_)
    obtain ⟨rfl, h⟩ := hq
    dsimp only [Option.toList, List.cons_append, List.nil_append]
    refine J_aload_n dX1_complete_147 rfl 0 rfl  ?_
    refine J_aload_n dX1_complete_148 rfl 1 rfl  ?_
    refine J_aload_n dX1_complete_149 rfl 3 rfl  ?_
    refine J_callV (h := 48) (ci := 0) (As := [.ref (g.1 + p1), .ref (g.1 + 1)]) (rest := []) (n := 2) dX1_complete_150 (c_X1_welcome p1 hp1 _ _ h) (by decide) rfl tb_2_164 tb_2_161 tb_1_5 tb_2_163 sl_2 (by decide) rfl (by decide) (by decide) (Nat.le_of_ble_eq_true rfl) rfl (fun v_r_8 S_7 hq => ?_)
    obtain ⟨rfl, h⟩ := hq
    dsimp only [Option.toList, List.cons_append, List.nil_append]
    exact l_X1_complete_153 p1 p2 p4 p5 _ _ _ hR54 hR73 hp1 hp4 _ _ _  h
def q_X1_complete_73 (p1 : Nat) (p2 : Int32) (p4 : Nat) (p5 : Int32) (R54 : Int32 → Sto → Prop) (Q : Sto → Prop) : Nat → Int32 → Int32 → Sto → Prop
  | 0, _, _, _ => False
  | n + 1, x6, x7, S => (((S.1 1 0) ≤ x7 → ∀ x6_2 : Int32, x6_2 = x6 + 1 → R54 x6_2 S) ∧ (¬ (S.1 1 0) ≤ x7 → ((p2 = 1 → q_X1_complete_118 p1 p2 p4 p5 R54 (fun y6 y7 S => q_X1_complete_73 p1 p2 p4 p5 R54 Q n y6 y7 S) Q x6 x7 S) ∧ (¬ p2 = 1 → vp_in x6 (16) ∧ wp_X4_width  S (fun r_6 S_5 => wp_X2_byLetter 0 x7 (188 + 1 + (x6 : Int32).toNatClampNeg) 205 r_6 (S_5.1 1 1) S_5 (fun S_7 => wp_X1_welcome p1 S_7 (fun S_9 => q_X1_complete_118 p1 p2 p4 p5 R54 (fun y6 y7 S => q_X1_complete_73 p1 p2 p4 p5 R54 Q n y6 y7 S) Q x6 x7 S_9)))))))
set_option maxRecDepth 100000 in
set_option maxHeartbeats 4000000 in
theorem l_X1_complete_73 {g : Gv} (p1 : Nat) (p2 : Int32) (p4 : Nat) (p5 : Int32) (R54 : Int32 → Sto → Prop) (Q : Sto → Prop) (hR54 : ∀ (y6 : Int32) (S : Sto), R54 y6 S → RJ g cX1_complete RX1 none 8 5 54 [(0, .ref (g.1 + 48)), (1, .ref (g.1 + p1)), (2, .int p2), (3, .ref (g.1 + 1)), (4, .ref (g.1 + p4)), (5, .int p5), (6, .int y6)] [] S (Qv Q)) (hp1 : kd p1 = 8) (hp4 : kd p4 = 3) (n : Nat) : ∀ (x6 : Int32) (x7 : Int32) (S : Sto)  (h : q_X1_complete_73 p1 p2 p4 p5 R54 Q n x6 x7 S), RJ g cX1_complete RX1 none 8 5 73 [(0, .ref (g.1 + 48)), (1, .ref (g.1 + p1)), (2, .int p2), (3, .ref (g.1 + 1)), (4, .ref (g.1 + p4)), (5, .int p5), (6, .int x6), (7, .int x7)] [] S (Qv Q) := by
  induction n with
  | zero => intro x6 x7 S  h; exact h.elim
  | succ n ih =>
    intro x6 x7 S  h
    unfold q_X1_complete_73 at h
    refine J_iload dX1_complete_73 7 rfl  ?_
    refine J_aload_n dX1_complete_75 rfl 3 rfl  ?_
    refine J_geti (ci := 2) dX1_complete_76 0 rfl giX4 (by decide) (by decide) rfl rfl tb_1_34 rfl  ?_
    refine J_icmp_ge (tgt := 159) dX1_complete_79 (by decide) (fun c_1 => ?_) (fun c_1 => ?_)
    · have h := h.1 c_1
      obtain ⟨x6_2, ex6_2⟩ : ∃ y : Int32, y = x6 + 1 := ⟨_, rfl⟩
      have h := h x6_2 ex6_2
      refine J_iinc (v := x6_2) (lv' := [(0, .ref (g.1 + 48)), (1, .ref (g.1 + p1)), (2, .int p2), (3, .ref (g.1 + 1)), (4, .ref (g.1 + p4)), (5, .int p5), (6, .int x6_2), (7, .int x7)]) dX1_complete_159 (q := 6) rfl (by rw [ex6_2]; rfl) (by decide) [1, 2, 3, 4, 5, 6, 0, 7] rfl  ?_
      refine J_goto (tgt := 54) dX1_complete_162 (by decide)  ?_
      refine J_sub (lv' := [(0, .ref (g.1 + 48)), (1, .ref (g.1 + p1)), (2, .int p2), (3, .ref (g.1 + 1)), (4, .ref (g.1 + p4)), (5, .int p5), (6, .int x6_2)]) [0, 1, 2, 3, 4, 5, 6] rfl ?_
      exact hR54 _ _  h
    · have h := h.2 c_1
      refine J_iload_n dX1_complete_82 rfl 2 rfl  ?_
      refine J_iconst (v := 1) dX1_complete_83 (by decide)  ?_
      refine J_icmp_eq (tgt := 118) dX1_complete_84 (by decide) (fun c_3 => ?_) (fun c_3 => ?_)
      · have h := h.1 c_3
        exact l_X1_complete_118 p1 p2 p4 p5 _ _ _ hR54 (fun y6 y7 S  h => ih y6 y7 S  h) hp1 hp4 _ _ _  h
      · have h := h.2 c_3
        refine J_iconst (v := 0) dX1_complete_87 (by decide)  ?_
        refine J_iload dX1_complete_88 7 rfl  ?_
        refine J_aload_n dX1_complete_90 rfl 0 rfl  ?_
        refine J_getr (r := 188) (ci := 0) dX1_complete_91 11 rfl giX1 (by decide) (by decide) rfl rfl tb_1_193 (by decide) (by decide)  ?_
        refine J_iload dX1_complete_94 6 rfl  ?_
        obtain ⟨hi_4, h⟩ := h
        refine J_aald3 dX1_complete_96 (by decide) hi_4  ?_
        refine J_aload_n dX1_complete_97 rfl 0 rfl  ?_
        refine J_getr (r := 205) (ci := 0) dX1_complete_98 13 rfl giX1 (by decide) (by decide) rfl rfl tb_1_195 (by decide) (by decide)  ?_
        refine J_aload_n dX1_complete_101 rfl 3 rfl  ?_
        refine J_callV (h := 1) (ci := 2) (As := []) (rest := [.ref (g.1 + 205), .ref (g.1 + (188 + 1 + (x6 : Int32).toNatClampNeg)), .int x7, .int 0]) (n := 0) dX1_complete_102 (c_X4_width   _ _ h) (by decide) rfl tb_2_91 tb_2_145 tb_1_2 tb_2_89 tb_2_90 (by decide) rfl (by decide) (by decide) (Nat.le_of_ble_eq_true rfl) rfl (fun v_r_6 S_5 hq => ?_)
        obtain ⟨r_6, rfl, h⟩ := hq
        dsimp only [Option.toList, List.cons_append, List.nil_append]
        refine J_aload_n dX1_complete_105 rfl 3 rfl  ?_
        refine J_geti (ci := 2) dX1_complete_106 1 rfl giX4 (by decide) (by decide) rfl rfl tb_1_38 rfl  ?_
        refine J_callS (As := [.int 0, .int x7, .ref (g.1 + (188 + 1 + (x6 : Int32).toNatClampNeg)), .ref (g.1 + 205), .int r_6, .int (S_5.1 1 1)]) (rest := []) (n := 6) dX1_complete_109 (c_X2_byLetter 0 x7 (188 + 1 + (x6 : Int32).toNatClampNeg) 205 r_6 (S_5.1 1 1) (kd_row3 (by decide) hi_4) (by decide) _ _ h) tb_2_191 tb_2_189 tb_1_9 tb_2_190 (by decide) rfl (by decide) (by decide) (Nat.le_of_ble_eq_true rfl) rfl (fun v_r_8 S_7 hq => ?_)
        obtain ⟨rfl, h⟩ := hq
        dsimp only [Option.toList, List.cons_append, List.nil_append]
        refine J_aload_n dX1_complete_112 rfl 0 rfl  ?_
        refine J_aload_n dX1_complete_113 rfl 1 rfl  ?_
        refine J_aload_n dX1_complete_114 rfl 3 rfl  ?_
        refine J_callV (h := 48) (ci := 0) (As := [.ref (g.1 + p1), .ref (g.1 + 1)]) (rest := []) (n := 2) dX1_complete_115 (c_X1_welcome p1 hp1 _ _ h) (by decide) rfl tb_2_164 tb_2_161 tb_1_5 tb_2_163 sl_2 (by decide) rfl (by decide) (by decide) (Nat.le_of_ble_eq_true rfl) rfl (fun v_r_10 S_9 hq => ?_)
        obtain ⟨rfl, h⟩ := hq
        dsimp only [Option.toList, List.cons_append, List.nil_append]
        exact l_X1_complete_118 p1 p2 p4 p5 _ _ _ hR54 (fun y6 y7 S  h => ih y6 y7 S  h) hp1 hp4 _ _ _  h
def q_X1_complete_54 (p1 : Nat) (p2 : Int32) (p4 : Nat) (p5 : Int32)  (Q : Sto → Prop) : Nat → Int32 → Sto → Prop
  | 0, _, _ => False
  | n + 1, x6, S => (((S.1 48 12) ≤ x6 → q_X1_complete_165 p1 p2 p4 p5  Q  S) ∧ (¬ (S.1 48 12) ≤ x6 → ((16 ≤ x6 → q_X1_complete_165 p1 p2 p4 p5  Q  S) ∧ (¬ 16 ≤ x6 → (∃ n_73, q_X1_complete_73 p1 p2 p4 p5 (fun y6 S => q_X1_complete_54 p1 p2 p4 p5  Q n y6 S) Q n_73 x6 0 S)))))
set_option maxRecDepth 100000 in
set_option maxHeartbeats 4000000 in
theorem l_X1_complete_54 {g : Gv} (p1 : Nat) (p2 : Int32) (p4 : Nat) (p5 : Int32)  (Q : Sto → Prop)  (hp1 : kd p1 = 8) (hp4 : kd p4 = 3) (n : Nat) : ∀ (x6 : Int32) (S : Sto)  (h : q_X1_complete_54 p1 p2 p4 p5  Q n x6 S), RJ g cX1_complete RX1 none 8 5 54 [(0, .ref (g.1 + 48)), (1, .ref (g.1 + p1)), (2, .int p2), (3, .ref (g.1 + 1)), (4, .ref (g.1 + p4)), (5, .int p5), (6, .int x6)] [] S (Qv Q) := by
  induction n with
  | zero => intro x6 S  h; exact h.elim
  | succ n ih =>
    intro x6 S  h
    unfold q_X1_complete_54 at h
    refine J_iload dX1_complete_54 6 rfl  ?_
    refine J_aload_n dX1_complete_56 rfl 0 rfl  ?_
    refine J_geti (ci := 0) dX1_complete_57 12 rfl giX1 (by decide) (by decide) rfl rfl tb_1_194 rfl  ?_
    refine J_icmp_ge (tgt := 165) dX1_complete_60 (by decide) (fun c_1 => ?_) (fun c_1 => ?_)
    · have h := h.1 c_1
      refine J_sub (lv' := [(0, .ref (g.1 + 48)), (1, .ref (g.1 + p1)), (2, .int p2), (3, .ref (g.1 + 1)), (4, .ref (g.1 + p4)), (5, .int p5)]) [0, 1, 2, 3, 4, 5] rfl ?_
      exact l_X1_complete_165 p1 p2 p4 p5  _  hp1 hp4  _  h
    · have h := h.2 c_1
      refine J_iload dX1_complete_63 6 rfl  ?_
      refine J_bipush (v := 16) dX1_complete_65 (by decide)  ?_
      refine J_icmp_ge (tgt := 165) dX1_complete_67 (by decide) (fun c_2 => ?_) (fun c_2 => ?_)
      · have h := h.1 c_2
        refine J_sub (lv' := [(0, .ref (g.1 + 48)), (1, .ref (g.1 + p1)), (2, .int p2), (3, .ref (g.1 + 1)), (4, .ref (g.1 + p4)), (5, .int p5)]) [0, 1, 2, 3, 4, 5] rfl ?_
        exact l_X1_complete_165 p1 p2 p4 p5  _  hp1 hp4  _  h
      · have h := h.2 c_2
        refine J_iconst (v := 0) dX1_complete_70 (by decide)  ?_
        refine J_istore (lv' := [(0, .ref (g.1 + 48)), (1, .ref (g.1 + p1)), (2, .int p2), (3, .ref (g.1 + 1)), (4, .ref (g.1 + p4)), (5, .int p5), (6, .int x6), (7, .int 0)]) dX1_complete_71 (by decide) [1, 2, 3, 4, 5, 6, 7, 0] rfl  ?_
        obtain ⟨n, h⟩ := h
        exact l_X1_complete_73 p1 p2 p4 p5 _ _ (fun y6 S  h => ih y6 S  h) hp1 hp4 n _ _ _  h
def q_X1_complete_51 (p1 : Nat) (p2 : Int32) (p4 : Nat) (p5 : Int32)  (Q : Sto → Prop)  (S : Sto) : Prop := (∃ n_54, q_X1_complete_54 p1 p2 p4 p5  Q n_54 0 S)
set_option maxRecDepth 100000 in
set_option maxHeartbeats 4000000 in
theorem l_X1_complete_51 {g : Gv} (p1 : Nat) (p2 : Int32) (p4 : Nat) (p5 : Int32)  (Q : Sto → Prop)  (hp1 : kd p1 = 8) (hp4 : kd p4 = 3)  (S : Sto)  (h : q_X1_complete_51 p1 p2 p4 p5  Q  S) : RJ g cX1_complete RX1 none 8 5 51 [(0, .ref (g.1 + 48)), (1, .ref (g.1 + p1)), (2, .int p2), (3, .ref (g.1 + 1)), (4, .ref (g.1 + p4)), (5, .int p5)] [] S (Qv Q) := by
  unfold q_X1_complete_51 at h
  refine J_iconst (v := 0) dX1_complete_51 (by decide)  ?_
  refine J_istore (lv' := [(0, .ref (g.1 + 48)), (1, .ref (g.1 + p1)), (2, .int p2), (3, .ref (g.1 + 1)), (4, .ref (g.1 + p4)), (5, .int p5), (6, .int 0)]) dX1_complete_52 (by decide) [1, 2, 3, 4, 5, 6, 0] rfl  ?_
  obtain ⟨n, h⟩ := h
  exact l_X1_complete_54 p1 p2 p4 p5  _  hp1 hp4 n _ _  h
def q_X1_complete_8 (p1 : Nat) (p2 : Int32) (p4 : Nat) (p5 : Int32)  (Q : Sto → Prop) : Nat → Int32 → Sto → Prop
  | 0, _, _ => False
  | n + 1, x6, S => ((p5 ≤ x6 → q_X1_complete_51 p1 p2 p4 p5  Q  S) ∧ (¬ p5 ≤ x6 → (((nI (ln p4)) ≤ x6 → q_X1_complete_51 p1 p2 p4 p5  Q  S) ∧ (¬ (nI (ln p4)) ≤ x6 → vp_in x6 (ln p4) ∧ wp_X4_width  S (fun r_5 S_4 => wp_X2_copy (p4 + 1 + (x6 : Int32).toNatClampNeg) 205 r_5 S_4 (fun S_6 => wp_X1_welcome p1 S_6 (fun S_8 => ∀ x6_10 : Int32, x6_10 = x6 + 1 → q_X1_complete_8 p1 p2 p4 p5  Q n x6_10 S_8)))))))
set_option maxRecDepth 100000 in
set_option maxHeartbeats 4000000 in
theorem l_X1_complete_8 {g : Gv} (p1 : Nat) (p2 : Int32) (p4 : Nat) (p5 : Int32)  (Q : Sto → Prop)  (hp1 : kd p1 = 8) (hp4 : kd p4 = 3) (n : Nat) : ∀ (x6 : Int32) (S : Sto)  (h : q_X1_complete_8 p1 p2 p4 p5  Q n x6 S), RJ g cX1_complete RX1 none 8 5 8 [(0, .ref (g.1 + 48)), (1, .ref (g.1 + p1)), (2, .int p2), (3, .ref (g.1 + 1)), (4, .ref (g.1 + p4)), (5, .int p5), (6, .int x6)] [] S (Qv Q) := by
  induction n with
  | zero => intro x6 S  h; exact h.elim
  | succ n ih =>
    intro x6 S  h
    unfold q_X1_complete_8 at h
    refine J_iload dX1_complete_8 6 rfl  ?_
    refine J_iload dX1_complete_10 5 rfl  ?_
    refine J_icmp_ge (tgt := 51) dX1_complete_12 (by decide) (fun c_1 => ?_) (fun c_1 => ?_)
    · have h := h.1 c_1
      refine J_sub (lv' := [(0, .ref (g.1 + 48)), (1, .ref (g.1 + p1)), (2, .int p2), (3, .ref (g.1 + 1)), (4, .ref (g.1 + p4)), (5, .int p5)]) [0, 1, 2, 3, 4, 5] rfl ?_
      exact l_X1_complete_51 p1 p2 p4 p5  _  hp1 hp4  _  h
    · have h := h.2 c_1
      refine J_iload dX1_complete_15 6 rfl  ?_
      refine J_aload dX1_complete_17 4 rfl  ?_
      refine J_alen3 (n := ln p4) dX1_complete_19 hp4 rfl  ?_
      refine J_icmp_ge (tgt := 51) dX1_complete_20 (by decide) (fun c_2 => ?_) (fun c_2 => ?_)
      · have h := h.1 c_2
        refine J_sub (lv' := [(0, .ref (g.1 + 48)), (1, .ref (g.1 + p1)), (2, .int p2), (3, .ref (g.1 + 1)), (4, .ref (g.1 + p4)), (5, .int p5)]) [0, 1, 2, 3, 4, 5] rfl ?_
        exact l_X1_complete_51 p1 p2 p4 p5  _  hp1 hp4  _  h
      · have h := h.2 c_2
        refine J_aload dX1_complete_23 4 rfl  ?_
        refine J_iload dX1_complete_25 6 rfl  ?_
        obtain ⟨hi_3, h⟩ := h
        refine J_aald3 dX1_complete_27 hp4 hi_3  ?_
        refine J_aload_n dX1_complete_28 rfl 0 rfl  ?_
        refine J_getr (r := 205) (ci := 0) dX1_complete_29 13 rfl giX1 (by decide) (by decide) rfl rfl tb_1_195 (by decide) (by decide)  ?_
        refine J_aload_n dX1_complete_32 rfl 3 rfl  ?_
        refine J_callV (h := 1) (ci := 2) (As := []) (rest := [.ref (g.1 + 205), .ref (g.1 + (p4 + 1 + (x6 : Int32).toNatClampNeg))]) (n := 0) dX1_complete_33 (c_X4_width   _ _ h) (by decide) rfl tb_2_91 tb_2_145 tb_1_2 tb_2_89 tb_2_90 (by decide) rfl (by decide) (by decide) (Nat.le_of_ble_eq_true rfl) rfl (fun v_r_5 S_4 hq => ?_)
        obtain ⟨r_5, rfl, h⟩ := hq
        dsimp only [Option.toList, List.cons_append, List.nil_append]
        refine J_callS (As := [.ref (g.1 + (p4 + 1 + (x6 : Int32).toNatClampNeg)), .ref (g.1 + 205), .int r_5]) (rest := []) (n := 3) dX1_complete_36 (c_X2_copy (p4 + 1 + (x6 : Int32).toNatClampNeg) 205 r_5 (kd_row3 hp4 hi_3) (by decide) _ _ h) tb_2_123 tb_2_160 tb_1_9 tb_2_122 (by decide) rfl (by decide) (by decide) (Nat.le_of_ble_eq_true rfl) rfl (fun v_r_7 S_6 hq => ?_)
        obtain ⟨rfl, h⟩ := hq
        dsimp only [Option.toList, List.cons_append, List.nil_append]
        refine J_aload_n dX1_complete_39 rfl 0 rfl  ?_
        refine J_aload_n dX1_complete_40 rfl 1 rfl  ?_
        refine J_aload_n dX1_complete_41 rfl 3 rfl  ?_
        refine J_callV (h := 48) (ci := 0) (As := [.ref (g.1 + p1), .ref (g.1 + 1)]) (rest := []) (n := 2) dX1_complete_42 (c_X1_welcome p1 hp1 _ _ h) (by decide) rfl tb_2_164 tb_2_161 tb_1_5 tb_2_163 sl_2 (by decide) rfl (by decide) (by decide) (Nat.le_of_ble_eq_true rfl) rfl (fun v_r_9 S_8 hq => ?_)
        obtain ⟨rfl, h⟩ := hq
        dsimp only [Option.toList, List.cons_append, List.nil_append]
        obtain ⟨x6_10, ex6_10⟩ : ∃ y : Int32, y = x6 + 1 := ⟨_, rfl⟩
        have h := h x6_10 ex6_10
        refine J_iinc (v := x6_10) (lv' := [(0, .ref (g.1 + 48)), (1, .ref (g.1 + p1)), (2, .int p2), (3, .ref (g.1 + 1)), (4, .ref (g.1 + p4)), (5, .int p5), (6, .int x6_10)]) dX1_complete_45 (q := 6) rfl (by rw [ex6_10]; rfl) (by decide) [1, 2, 3, 4, 5, 6, 0] rfl  ?_
        refine J_goto (tgt := 8) dX1_complete_48 (by decide)  ?_
        exact ih _ _  h
def wp_X1_complete (p1 : Nat) (p2 : Int32) (p4 : Nat) (p5 : Int32) (S : Sto) (Q : Sto → Prop) : Prop := ∀ S_1 : Sto, S_1 = uA S 48 12 0 → (∃ n_8, q_X1_complete_8 p1 p2 p4 p5  Q n_8 0 S_1)
set_option maxRecDepth 100000 in
set_option maxHeartbeats 4000000 in
theorem c_X1_complete {g : Gv} (p1 : Nat) (p2 : Int32) (p4 : Nat) (p5 : Int32) (hp1 : kd p1 = 8) (hp4 : kd p4 = 3) (S : Sto) (Q : Sto → Prop) (h : wp_X1_complete p1 p2 p4 p5 S Q) : CT g yX1_complete cX1_complete 8 none 5 [.ref (g.1 + 48), .ref (g.1 + p1), .int p2, .ref (g.1 + 1), .ref (g.1 + p4), .int p5] S (Qv Q) := by
  unfold wp_X1_complete at h
  refine CT.of (by decide) (Nat.le_of_ble_eq_true rfl) ?_
  refine J_sub (lv' := [(0, .ref (g.1 + 48)), (1, .ref (g.1 + p1)), (2, .int p2), (3, .ref (g.1 + 1)), (4, .ref (g.1 + p4)), (5, .int p5)]) [0, 1, 2, 3, 4, 5] rfl ?_
  refine J_aload_n dX1_complete_0 rfl 0 rfl  ?_
  refine J_iconst (v := 0) dX1_complete_1 (by decide)  ?_
  refine J_puti (ci := 0) dX1_complete_2 12 rfl giX1 (by decide) (by decide) rfl rfl tyX1 tyX1_ok nmX1 rfl rfl rfl rfl tb_1_194 rfl  ?_
  refine J_nmS (fun S_1 eS_1 => ?_)
  have h := h S_1 eS_1
  refine J_iconst (v := 0) dX1_complete_5 (by decide)  ?_
  refine J_istore (lv' := [(0, .ref (g.1 + 48)), (1, .ref (g.1 + p1)), (2, .int p2), (3, .ref (g.1 + 1)), (4, .ref (g.1 + p4)), (5, .int p5), (6, .int 0)]) dX1_complete_6 (by decide) [1, 2, 3, 4, 5, 6, 0] rfl  ?_
  obtain ⟨n, h⟩ := h
  exact l_X1_complete_8 p1 p2 p4 p5  _  hp1 hp4 n _ _  h
