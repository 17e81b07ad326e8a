def q_X8_fits_40 (p1 : Int32) (p2 : Int32) (p3 : Int32) (p4 : Int32)  (Q : Int32 → Sto → Prop)  (S : Sto) : Prop := Q ((-1)) S
set_option maxRecDepth 100000 in
set_option maxHeartbeats 4000000 in
theorem l_X8_fits_40 {g : Gv} (p1 : Int32) (p2 : Int32) (p3 : Int32) (p4 : Int32)  (Q : Int32 → Sto → Prop)    (S : Sto)  (h : q_X8_fits_40 p1 p2 p3 p4  Q  S) : RJ g cX8_fits RX8 (some .int) 9 7 40 [(0, .ref (g.1 + 0)), (1, .int p1), (2, .int p2), (3, .int p3), (4, .int p4)] [] S (Qi Q) := by
  unfold q_X8_fits_40 at h
  refine J_iconst (v := (-1)) dX8_fits_40 (by decide)  ?_
  exact J_iret dX8_fits_41 rfl rfl ⟨_, rfl, h⟩
def q_X8_fits_170 (p1 : Int32) (p2 : Int32) (p3 : Int32) (p4 : Int32)  (Q : Int32 → Sto → Prop) (t0 : Int32) (S : Sto) : Prop := Q t0 S
set_option maxRecDepth 100000 in
set_option maxHeartbeats 4000000 in
theorem l_X8_fits_170 {g : Gv} (p1 : Int32) (p2 : Int32) (p3 : Int32) (p4 : Int32)  (Q : Int32 → Sto → Prop)   (t0 : Int32) (S : Sto)  (h : q_X8_fits_170 p1 p2 p3 p4  Q t0 S) : RJ g cX8_fits RX8 (some .int) 9 7 170 [(0, .ref (g.1 + 0)), (1, .int p1), (2, .int p2), (3, .int p3), (4, .int p4)] [.int t0] S (Qi Q) := by
  unfold q_X8_fits_170 at h
  exact J_iret dX8_fits_170 rfl rfl ⟨_, rfl, h⟩
def q_X8_fits_152 (p1 : Int32) (p2 : Int32) (p3 : Int32) (p4 : Int32) (R66 : Nat → Int32 → Int32 → Int32 → Sto → Prop) (Q : Int32 → Sto → Prop) (x5 : Nat) (x6 : Int32) (x7 : Int32) (x8 : Int32) (S : Sto) : Prop := ∀ x8_1 : Int32, x8_1 = x8 + 1 → R66 x5 x6 x7 x8_1 S
set_option maxRecDepth 100000 in
set_option maxHeartbeats 4000000 in
theorem l_X8_fits_152 {g : Gv} (p1 : Int32) (p2 : Int32) (p3 : Int32) (p4 : Int32) (R66 : Nat → Int32 → Int32 → Int32 → Sto → Prop) (Q : Int32 → Sto → Prop) (hR66 : ∀ (y5 : Nat) (y6 : Int32) (y7 : Int32) (y8 : Int32) (S : Sto), kd y5 = 8 → R66 y5 y6 y7 y8 S → RJ g cX8_fits RX8 (some .int) 9 7 66 [(0, .ref (g.1 + 0)), (1, .int p1), (2, .int p2), (3, .int p3), (4, .int p4), (5, .ref (g.1 + y5)), (6, .int y6), (7, .int y7), (8, .int y8)] [] S (Qi Q))  (x5 : Nat) (x6 : Int32) (x7 : Int32) (x8 : Int32) (S : Sto) (hx5 : kd x5 = 8) (h : q_X8_fits_152 p1 p2 p3 p4 R66 Q x5 x6 x7 x8 S) : RJ g cX8_fits RX8 (some .int) 9 7 152 [(0, .ref (g.1 + 0)), (1, .int p1), (2, .int p2), (3, .int p3), (4, .int p4), (5, .ref (g.1 + x5)), (6, .int x6), (7, .int x7), (8, .int x8)] [] S (Qi Q) := by
  unfold q_X8_fits_152 at h
  obtain ⟨x8_1, ex8_1⟩ : ∃ y : Int32, y = x8 + 1 := ⟨_, rfl⟩
  have h := h x8_1 ex8_1
  refine J_iinc (v := x8_1) (lv' := [(0, .ref (g.1 + 0)), (1, .int p1), (2, .int p2), (3, .int p3), (4, .int p4), (5, .ref (g.1 + x5)), (6, .int x6), (7, .int x7), (8, .int x8_1)]) dX8_fits_152 (q := 8) rfl (by rw [ex8_1]; rfl) (by decide) [1, 2, 3, 4, 5, 6, 7, 8, 0] rfl  ?_
  refine J_goto (tgt := 66) dX8_fits_155 (by decide)  ?_
  exact hR66 _ _ _ _ _ hx5 h
def q_X8_fits_147 (p1 : Int32) (p2 : Int32) (p3 : Int32) (p4 : Int32) (R66 : Nat → Int32 → Int32 → Int32 → Sto → Prop) (Q : Int32 → Sto → Prop) (x5 : Nat) (x6 : Int32) (x8 : Int32) (t0 : Int32) (S : Sto) : Prop := ∀ x6_1 : Int32, x6_1 = x6 + 1 → q_X8_fits_152 p1 p2 p3 p4 R66 Q x5 x6_1 t0 x8 S
set_option maxRecDepth 100000 in
set_option maxHeartbeats 4000000 in
theorem l_X8_fits_147 {g : Gv} (p1 : Int32) (p2 : Int32) (p3 : Int32) (p4 : Int32) (R66 : Nat → Int32 → Int32 → Int32 → Sto → Prop) (Q : Int32 → Sto → Prop) (hR66 : ∀ (y5 : Nat) (y6 : Int32) (y7 : Int32) (y8 : Int32) (S : Sto), kd y5 = 8 → R66 y5 y6 y7 y8 S → RJ g cX8_fits RX8 (some .int) 9 7 66 [(0, .ref (g.1 + 0)), (1, .int p1), (2, .int p2), (3, .int p3), (4, .int p4), (5, .ref (g.1 + y5)), (6, .int y6), (7, .int y7), (8, .int y8)] [] S (Qi Q))  (x5 : Nat) (x6 : Int32) (x8 : Int32) (t0 : Int32) (S : Sto) (hx5 : kd x5 = 8) (h : q_X8_fits_147 p1 p2 p3 p4 R66 Q x5 x6 x8 t0 S) : RJ g cX8_fits RX8 (some .int) 9 7 147 [(0, .ref (g.1 + 0)), (1, .int p1), (2, .int p2), (3, .int p3), (4, .int p4), (5, .ref (g.1 + x5)), (6, .int x6), (8, .int x8)] [.int t0] S (Qi Q) := by
  unfold q_X8_fits_147 at h
  refine J_istore (lv' := [(0, .ref (g.1 + 0)), (1, .int p1), (2, .int p2), (3, .int p3), (4, .int p4), (5, .ref (g.1 + x5)), (6, .int x6), (7, .int t0), (8, .int x8)]) dX8_fits_147 (by decide) [1, 2, 3, 4, 5, 6, 7, 0, 8] rfl  ?_
  obtain ⟨x6_1, ex6_1⟩ : ∃ y : Int32, y = x6 + 1 := ⟨_, rfl⟩
  have h := h x6_1 ex6_1
  refine J_iinc (v := x6_1) (lv' := [(0, .ref (g.1 + 0)), (1, .int p1), (2, .int p2), (3, .int p3), (4, .int p4), (5, .ref (g.1 + x5)), (6, .int x6_1), (7, .int t0), (8, .int x8)]) dX8_fits_149 (q := 6) rfl (by rw [ex6_1]; rfl) (by decide) [1, 2, 3, 4, 5, 6, 0, 7, 8] rfl  ?_
  exact l_X8_fits_152 p1 p2 p3 p4 _ _ hR66  _ _ _ _ _ hx5 h
def q_X8_fits_66 (p1 : Int32) (p2 : Int32) (p3 : Int32) (p4 : Int32)  (Q : Int32 → Sto → Prop) : Nat → Nat → Int32 → Int32 → Int32 → Sto → Prop
  | 0, _, _, _, _, _ => False
  | n + 1, x5, x6, x7, x8, S => (((S.1 1 1) ≤ x8 → ((¬ p4 = 0 → q_X8_fits_170 p1 p2 p3 p4  Q x7 S) ∧ (p4 = 0 → q_X8_fits_170 p1 p2 p3 p4  Q x6 S))) ∧ (¬ (S.1 1 1) ≤ x8 → vp_in p2 (6) ∧ wp_X4_width  S (fun r_5 S_4 => wp_X2_copy (2 + 1 + (p2 : Int32).toNatClampNeg) 352 r_5 S_4 (fun S_6 => vp_in p3 (16) ∧ ∀ S_9 : Sto, S_9 = uA S_6 352 (p3 : Int32).toNatClampNeg x8 → wp_X5_takeFrom x5 352 S_9 (fun S_10 => wp_X4_width  S_10 (fun r_13 S_12 => wp_X2_nonZeros 352 r_13 S_12 (fun r_15 S_14 => ((¬ r_15 = 0 → q_X8_fits_152 p1 p2 p3 p4 (fun y5 y6 y7 y8 S => q_X8_fits_66 p1 p2 p3 p4  Q n y5 y6 y7 y8 S) Q x5 x6 x7 x8 S_14) ∧ (r_15 = 0 → ((¬ x6 = 0 → q_X8_fits_147 p1 p2 p3 p4 (fun y5 y6 y7 y8 S => q_X8_fits_66 p1 p2 p3 p4  Q n y5 y6 y7 y8 S) Q x5 x6 x8 x7 S_14) ∧ (x6 = 0 → q_X8_fits_147 p1 p2 p3 p4 (fun y5 y6 y7 y8 S => q_X8_fits_66 p1 p2 p3 p4  Q n y5 y6 y7 y8 S) Q x5 x6 x8 x8 S_14)))))))))))
set_option maxRecDepth 100000 in
set_option maxHeartbeats 4000000 in
theorem l_X8_fits_66 {g : Gv} (p1 : Int32) (p2 : Int32) (p3 : Int32) (p4 : Int32)  (Q : Int32 → Sto → Prop)   (n : Nat) : ∀ (x5 : Nat) (x6 : Int32) (x7 : Int32) (x8 : Int32) (S : Sto) (hx5 : kd x5 = 8) (h : q_X8_fits_66 p1 p2 p3 p4  Q n x5 x6 x7 x8 S), RJ g cX8_fits RX8 (some .int) 9 7 66 [(0, .ref (g.1 + 0)), (1, .int p1), (2, .int p2), (3, .int p3), (4, .int p4), (5, .ref (g.1 + x5)), (6, .int x6), (7, .int x7), (8, .int x8)] [] S (Qi Q) := by
  induction n with
  | zero => intro x5 x6 x7 x8 S hx5 h; exact h.elim
  | succ n ih =>
    intro x5 x6 x7 x8 S hx5 h
    unfold q_X8_fits_66 at h
    refine J_iload dX8_fits_66 8 rfl  ?_
    refine J_aload_n dX8_fits_68 rfl 0 rfl  ?_
    refine J_getr (r := 1) (ci := 6) dX8_fits_69 0 rfl giX8 (by decide) (by decide) rfl rfl tb_2_16 (by decide) (by decide)  ?_
    refine J_geti (ci := 2) dX8_fits_72 1 rfl giX4 (by decide) (by decide) rfl rfl tb_1_39 rfl  ?_
    refine J_icmp_ge (tgt := 158) dX8_fits_75 (by decide) (fun c_1 => ?_) (fun c_1 => ?_)
    · have h := h.1 c_1
      refine J_iload dX8_fits_158 4 rfl  ?_
      refine J_if_ne (tgt := 168) dX8_fits_160 (by decide) (fun c_2 => ?_) (fun c_2 => ?_)
      · have h := h.1 c_2
        refine J_iload dX8_fits_168 7 rfl  ?_
        refine J_sub (lv' := [(0, .ref (g.1 + 0)), (1, .int p1), (2, .int p2), (3, .int p3), (4, .int p4)]) [0, 1, 2, 3, 4] rfl ?_
        exact l_X8_fits_170 p1 p2 p3 p4  _   _ _  h
      · have h := h.2 c_2
        refine J_iload dX8_fits_163 6 rfl  ?_
        refine J_goto (tgt := 170) dX8_fits_165 (by decide)  ?_
        refine J_sub (lv' := [(0, .ref (g.1 + 0)), (1, .int p1), (2, .int p2), (3, .int p3), (4, .int p4)]) [0, 1, 2, 3, 4] rfl ?_
        exact l_X8_fits_170 p1 p2 p3 p4  _   _ _  h
    · have h := h.2 c_1
      refine J_aload_n dX8_fits_78 rfl 0 rfl  ?_
      refine J_getr (r := 1) (ci := 6) dX8_fits_79 0 rfl giX8 (by decide) (by decide) rfl rfl tb_2_16 (by decide) (by decide)  ?_
      refine J_getr (r := 2) (ci := 2) dX8_fits_82 3 rfl giX4 (by decide) (by decide) rfl rfl tb_1_46 (by decide) (by decide)  ?_
      refine J_iload_n dX8_fits_85 rfl 2 rfl  ?_
      obtain ⟨hi_3, h⟩ := h
      refine J_aald3 dX8_fits_86 (by decide) hi_3  ?_
      refine J_aload_n dX8_fits_87 rfl 0 rfl  ?_
      refine J_getr (r := 352) (ci := 6) dX8_fits_88 7 rfl giX8 (by decide) (by decide) rfl rfl tb_2_23 (by decide) (by decide)  ?_
      refine J_aload_n dX8_fits_91 rfl 0 rfl  ?_
      refine J_getr (r := 1) (ci := 6) dX8_fits_92 0 rfl giX8 (by decide) (by decide) rfl rfl tb_2_16 (by decide) (by decide)  ?_
      refine J_callV (h := 1) (ci := 2) (As := []) (rest := [.ref (g.1 + 352), .ref (g.1 + (2 + 1 + (p2 : Int32).toNatClampNeg))]) (n := 0) dX8_fits_95 (c_X4_width   _ _ h) (by decide) rfl tb_2_91 tb_2_102 tb_1_2 tb_2_89 tb_2_90 (by decide) rfl (by decide) (by decide) (Nat.le_of_ble_eq_true rfl) rfl (fun v_r_5 S_4 hq => ?_)
      obtain ⟨r_5, rfl, h⟩ := hq
      dsimp only [Option.toList, List.cons_append, List.nil_append]
      refine J_callS (As := [.ref (g.1 + (2 + 1 + (p2 : Int32).toNatClampNeg)), .ref (g.1 + 352), .int r_5]) (rest := []) (n := 3) dX8_fits_98 (c_X2_copy (2 + 1 + (p2 : Int32).toNatClampNeg) 352 r_5 (kd_row3 (by decide) hi_3) (by decide) _ _ h) tb_2_123 tb_2_196 tb_1_9 tb_2_122 (by decide) rfl (by decide) (by decide) (Nat.le_of_ble_eq_true rfl) rfl (fun v_r_7 S_6 hq => ?_)
      obtain ⟨rfl, h⟩ := hq
      dsimp only [Option.toList, List.cons_append, List.nil_append]
      refine J_aload_n dX8_fits_101 rfl 0 rfl  ?_
      refine J_getr (r := 352) (ci := 6) dX8_fits_102 7 rfl giX8 (by decide) (by decide) rfl rfl tb_2_23 (by decide) (by decide)  ?_
      refine J_iload_n dX8_fits_105 rfl 3 rfl  ?_
      refine J_iload dX8_fits_106 8 rfl  ?_
      obtain ⟨hi_8, h⟩ := h
      refine J_iast dX8_fits_108 (by decide) hi_8  ?_
      refine J_nmS (fun S_9 eS_9 => ?_)
      have h := h S_9 eS_9
      refine J_aload dX8_fits_109 5 rfl  ?_
      refine J_aload_n dX8_fits_111 rfl 0 rfl  ?_
      refine J_getr (r := 352) (ci := 6) dX8_fits_112 7 rfl giX8 (by decide) (by decide) rfl rfl tb_2_23 (by decide) (by decide)  ?_
      refine J_callV (h := x5) (ci := 3) (As := [.ref (g.1 + 352)]) (rest := []) (n := 1) dX8_fits_115 (c_X5_takeFrom x5 352 hx5 (by decide) _ _ h) hx5 rfl tb_2_172 tb_2_197 tb_1_6 tb_2_170 tb_2_171 (by decide) rfl (by decide) (by decide) (Nat.le_of_ble_eq_true rfl) rfl (fun v_r_11 S_10 hq => ?_)
      obtain ⟨rfl, h⟩ := hq
      dsimp only [Option.toList, List.cons_append, List.nil_append]
      refine J_aload_n dX8_fits_118 rfl 0 rfl  ?_
      refine J_getr (r := 352) (ci := 6) dX8_fits_119 7 rfl giX8 (by decide) (by decide) rfl rfl tb_2_23 (by decide) (by decide)  ?_
      refine J_aload_n dX8_fits_122 rfl 0 rfl  ?_
      refine J_getr (r := 1) (ci := 6) dX8_fits_123 0 rfl giX8 (by decide) (by decide) rfl rfl tb_2_16 (by decide) (by decide)  ?_
      refine J_callV (h := 1) (ci := 2) (As := []) (rest := [.ref (g.1 + 352)]) (n := 0) dX8_fits_126 (c_X4_width   _ _ h) (by decide) rfl tb_2_91 tb_2_102 tb_1_2 tb_2_89 tb_2_90 (by decide) rfl (by decide) (by decide) (Nat.le_of_ble_eq_true rfl) rfl (fun v_r_13 S_12 hq => ?_)
      obtain ⟨r_13, rfl, h⟩ := hq
      dsimp only [Option.toList, List.cons_append, List.nil_append]
      refine J_callS (As := [.ref (g.1 + 352), .int r_13]) (rest := []) (n := 2) dX8_fits_129 (c_X2_nonZeros 352 r_13 (by decide) _ _ h) tb_2_126 tb_3_90 tb_1_9 tb_2_125 (by decide) rfl (by decide) (by decide) (Nat.le_of_ble_eq_true rfl) rfl (fun v_r_15 S_14 hq => ?_)
      obtain ⟨r_15, rfl, h⟩ := hq
      dsimp only [Option.toList, List.cons_append, List.nil_append]
      refine J_if_ne (tgt := 152) dX8_fits_132 (by decide) (fun c_16 => ?_) (fun c_16 => ?_)
      · have h := h.1 c_16
        exact l_X8_fits_152 p1 p2 p3 p4 _ _ (fun y5 y6 y7 y8 S k5 h => ih y5 y6 y7 y8 S k5 h)  _ _ _ _ _ hx5 h
      · have h := h.2 c_16
        refine J_iload dX8_fits_135 6 rfl  ?_
        refine J_if_ne (tgt := 145) dX8_fits_137 (by decide) (fun c_17 => ?_) (fun c_17 => ?_)
        · have h := h.1 c_17
          refine J_iload dX8_fits_145 7 rfl  ?_
          refine J_sub (lv' := [(0, .ref (g.1 + 0)), (1, .int p1), (2, .int p2), (3, .int p3), (4, .int p4), (5, .ref (g.1 + x5)), (6, .int x6), (8, .int x8)]) [0, 1, 2, 3, 4, 5, 6, 8] rfl ?_
          exact l_X8_fits_147 p1 p2 p3 p4 _ _ (fun y5 y6 y7 y8 S k5 h => ih y5 y6 y7 y8 S k5 h)  _ _ _ _ _ hx5 h
        · have h := h.2 c_17
          refine J_iload dX8_fits_140 8 rfl  ?_
          refine J_goto (tgt := 147) dX8_fits_142 (by decide)  ?_
          refine J_sub (lv' := [(0, .ref (g.1 + 0)), (1, .int p1), (2, .int p2), (3, .int p3), (4, .int p4), (5, .ref (g.1 + x5)), (6, .int x6), (8, .int x8)]) [0, 1, 2, 3, 4, 5, 6, 8] rfl ?_
          exact l_X8_fits_147 p1 p2 p3 p4 _ _ (fun y5 y6 y7 y8 S k5 h => ih y5 y6 y7 y8 S k5 h)  _ _ _ _ _ hx5 h
def wp_X8_fits (p1 : Int32) (p2 : Int32) (p3 : Int32) (p4 : Int32) (S : Sto) (Q : Int32 → Sto → Prop) : Prop := wp_X8_isSide p1 S (fun r_2 S_1 => ((r_2 = 0 → q_X8_fits_40 p1 p2 p3 p4  Q  S_1) ∧ (¬ r_2 = 0 → wp_X4_hasElement p2 S_1 (fun r_5 S_4 => ((r_5 = 0 → q_X8_fits_40 p1 p2 p3 p4  Q  S_4) ∧ (¬ r_5 = 0 → wp_X4_hasPlace p3 S_4 (fun r_8 S_7 => ((r_8 = 0 → q_X8_fits_40 p1 p2 p3 p4  Q  S_7) ∧ (¬ r_8 = 0 → ((p4 < 0 → q_X8_fits_40 p1 p2 p3 p4  Q  S_7) ∧ (¬ p4 < 0 → ((p4 ≤ 1 → wp_X1_ofSide p1 S_7 (fun r_13 S_12 => kd r_13 = 8 → (∃ n_66, q_X8_fits_66 p1 p2 p3 p4  Q n_66 r_13 0 ((-5)) 0 S_12))) ∧ (¬ p4 ≤ 1 → q_X8_fits_40 p1 p2 p3 p4  Q  S_7)))))))))))))
set_option maxRecDepth 100000 in
set_option maxHeartbeats 4000000 in
theorem c_X8_fits {g : Gv} (p1 : Int32) (p2 : Int32) (p3 : Int32) (p4 : Int32)  (S : Sto) (Q : Int32 → Sto → Prop) (h : wp_X8_fits p1 p2 p3 p4 S Q) : CT g yX8_fits cX8_fits 9 (some .int) 7 [.ref (g.1 + 0), .int p1, .int p2, .int p3, .int p4] S (Qi Q) := by
  unfold wp_X8_fits at h
  refine CT.of (by decide) (Nat.le_of_ble_eq_true rfl) ?_
  refine J_sub (lv' := [(0, .ref (g.1 + 0)), (1, .int p1), (2, .int p2), (3, .int p3), (4, .int p4)]) [0, 1, 2, 3, 4] rfl ?_
  refine J_iload_n dX8_fits_0 rfl 1 rfl  ?_
  refine J_callS (As := [.int p1]) (rest := []) (n := 1) dX8_fits_1 (c_X8_isSide p1  _ _ h) tb_3_72 tb_3_70 tb_1_1 tb_3_71 (by decide) rfl (by decide) (by decide) (Nat.le_of_ble_eq_true rfl) rfl (fun v_r_2 S_1 hq => ?_)
  obtain ⟨r_2, rfl, h⟩ := hq
  dsimp only [Option.toList, List.cons_append, List.nil_append]
  refine J_if_eq (tgt := 40) dX8_fits_4 (by decide) (fun c_3 => ?_) (fun c_3 => ?_)
  · have h := h.1 c_3
    exact l_X8_fits_40 p1 p2 p3 p4  _    _  h
  · have h := h.2 c_3
    refine J_aload_n dX8_fits_7 rfl 0 rfl  ?_
    refine J_getr (r := 1) (ci := 6) dX8_fits_8 0 rfl giX8 (by decide) (by decide) rfl rfl tb_2_16 (by decide) (by decide)  ?_
    refine J_iload_n dX8_fits_11 rfl 2 rfl  ?_
    refine J_callV (h := 1) (ci := 2) (As := [.int p2]) (rest := []) (n := 1) dX8_fits_12 (c_X4_hasElement p2  _ _ h) (by decide) rfl tb_2_83 tb_2_80 tb_1_2 tb_2_81 tb_2_82 (by decide) rfl (by decide) (by decide) (Nat.le_of_ble_eq_true rfl) rfl (fun v_r_5 S_4 hq => ?_)
    obtain ⟨r_5, rfl, h⟩ := hq
    dsimp only [Option.toList, List.cons_append, List.nil_append]
    refine J_if_eq (tgt := 40) dX8_fits_15 (by decide) (fun c_6 => ?_) (fun c_6 => ?_)
    · have h := h.1 c_6
      exact l_X8_fits_40 p1 p2 p3 p4  _    _  h
    · have h := h.2 c_6
      refine J_aload_n dX8_fits_18 rfl 0 rfl  ?_
      refine J_getr (r := 1) (ci := 6) dX8_fits_19 0 rfl giX8 (by decide) (by decide) rfl rfl tb_2_16 (by decide) (by decide)  ?_
      refine J_iload_n dX8_fits_22 rfl 3 rfl  ?_
      refine J_callV (h := 1) (ci := 2) (As := [.int p3]) (rest := []) (n := 1) dX8_fits_23 (c_X4_hasPlace p3  _ _ h) (by decide) rfl tb_2_87 tb_2_84 tb_1_2 tb_2_85 tb_2_86 (by decide) rfl (by decide) (by decide) (Nat.le_of_ble_eq_true rfl) rfl (fun v_r_8 S_7 hq => ?_)
      obtain ⟨r_8, rfl, h⟩ := hq
      dsimp only [Option.toList, List.cons_append, List.nil_append]
      refine J_if_eq (tgt := 40) dX8_fits_26 (by decide) (fun c_9 => ?_) (fun c_9 => ?_)
      · have h := h.1 c_9
        exact l_X8_fits_40 p1 p2 p3 p4  _    _  h
      · have h := h.2 c_9
        refine J_iload dX8_fits_29 4 rfl  ?_
        refine J_if_lt (tgt := 40) dX8_fits_31 (by decide) (fun c_10 => ?_) (fun c_10 => ?_)
        · have h := h.1 c_10
          exact l_X8_fits_40 p1 p2 p3 p4  _    _  h
        · have h := h.2 c_10
          refine J_iload dX8_fits_34 4 rfl  ?_
          refine J_iconst (v := 1) dX8_fits_36 (by decide)  ?_
          refine J_icmp_le (tgt := 42) dX8_fits_37 (by decide) (fun c_11 => ?_) (fun c_11 => ?_)
          · have h := h.1 c_11
            refine J_aload_n dX8_fits_42 rfl 0 rfl  ?_
            refine J_getr (r := 48) (ci := 6) dX8_fits_43 5 rfl giX8 (by decide) (by decide) rfl rfl tb_2_21 (by decide) (by decide)  ?_
            refine J_aload_n dX8_fits_46 rfl 0 rfl  ?_
            refine J_getr (r := 1) (ci := 6) dX8_fits_47 0 rfl giX8 (by decide) (by decide) rfl rfl tb_2_16 (by decide) (by decide)  ?_
            refine J_iload_n dX8_fits_50 rfl 1 rfl  ?_
            refine J_callV (h := 48) (ci := 0) (As := [.ref (g.1 + 1), .int p1]) (rest := []) (n := 2) dX8_fits_51 (c_X1_ofSide p1  _ _ h) (by decide) rfl tb_2_144 tb_2_141 tb_1_5 tb_2_142 tb_2_143 (by decide) rfl (by decide) (by decide) (Nat.le_of_ble_eq_true rfl) rfl (fun v_r_13 S_12 hq => ?_)
            obtain ⟨r_13, rfl, hk_14, h⟩ := hq
            have h := h hk_14
            dsimp only [Option.toList, List.cons_append, List.nil_append]
            refine J_astore (lv' := [(0, .ref (g.1 + 0)), (1, .int p1), (2, .int p2), (3, .int p3), (4, .int p4), (5, .ref (g.1 + r_13))]) dX8_fits_54 (by decide) [1, 2, 3, 4, 5, 0] rfl  ?_
            refine J_iconst (v := 0) dX8_fits_56 (by decide)  ?_
            refine J_istore (lv' := [(0, .ref (g.1 + 0)), (1, .int p1), (2, .int p2), (3, .int p3), (4, .int p4), (5, .ref (g.1 + r_13)), (6, .int 0)]) dX8_fits_57 (by decide) [1, 2, 3, 4, 5, 6, 0] rfl  ?_
            refine J_bipush (v := (-5)) dX8_fits_59 (by decide)  ?_
            refine J_istore (lv' := [(0, .ref (g.1 + 0)), (1, .int p1), (2, .int p2), (3, .int p3), (4, .int p4), (5, .ref (g.1 + r_13)), (6, .int 0), (7, .int ((-5)))]) dX8_fits_61 (by decide) [1, 2, 3, 4, 5, 6, 7, 0] rfl  ?_
            refine J_iconst (v := 0) dX8_fits_63 (by decide)  ?_
            refine J_istore (lv' := [(0, .ref (g.1 + 0)), (1, .int p1), (2, .int p2), (3, .int p3), (4, .int p4), (5, .ref (g.1 + r_13)), (6, .int 0), (7, .int ((-5))), (8, .int 0)]) dX8_fits_64 (by decide) [1, 2, 3, 4, 5, 6, 7, 8, 0] rfl  ?_
            obtain ⟨n, h⟩ := h
            exact l_X8_fits_66 p1 p2 p3 p4  _   n _ _ _ _ _ hk_14 h
          · have h := h.2 c_11
            exact l_X8_fits_40 p1 p2 p3 p4  _    _  h
def q_X8_odds_16 (p1 : Int32) (p2 : Int32)  (Q : Int64 → Sto → Prop)  (S : Sto) : Prop := Q ((-9223372036854775808)) S
set_option maxRecDepth 100000 in
set_option maxHeartbeats 4000000 in
theorem l_X8_odds_16 {g : Gv} (p1 : Int32) (p2 : Int32)  (Q : Int64 → Sto → Prop)    (S : Sto)  (h : q_X8_odds_16 p1 p2  Q  S) : RJ g cX8_odds RX8 (some .long) 7 7 16 [(0, .ref (g.1 + 0)), (1, .int p1), (2, .int p2)] [] S (Ql Q) := by
  unfold q_X8_odds_16 at h
  refine J_ldc2 (v := (-9223372036854775808)) dX8_odds_16 tb_3_124  ?_
  exact J_lret dX8_odds_19 rfl ⟨_, rfl, h⟩
def q_X8_odds_56 (p1 : Int32) (p2 : Int32)  (Q : Int64 → Sto → Prop) : Nat → Int32 → Int64 → Int32 → Sto → Prop
  | 0, _, _, _, _ => False
  | n + 1, x3, x4, x6, S => ((x3 ≤ x6 → Q x4 S) ∧ (¬ x3 ≤ x6 → ∀ x4_2 : Int64, x4_2 = x4 * ((S.1 1 1 : Int32).toInt64) → ∀ x6_3 : Int32, x6_3 = x6 + 1 → q_X8_odds_56 p1 p2  Q n x3 x4_2 x6_3 S))
set_option maxRecDepth 100000 in
set_option maxHeartbeats 4000000 in
theorem l_X8_odds_56 {g : Gv} (p1 : Int32) (p2 : Int32)  (Q : Int64 → Sto → Prop)   (n : Nat) : ∀ (x3 : Int32) (x4 : Int64) (x6 : Int32) (S : Sto)  (h : q_X8_odds_56 p1 p2  Q n x3 x4 x6 S), RJ g cX8_odds RX8 (some .long) 7 7 56 [(0, .ref (g.1 + 0)), (1, .int p1), (2, .int p2), (3, .int x3), (4, .long x4), (6, .int x6)] [] S (Ql Q) := by
  induction n with
  | zero => intro x3 x4 x6 S  h; exact h.elim
  | succ n ih =>
    intro x3 x4 x6 S  h
    unfold q_X8_odds_56 at h
    refine J_iload dX8_odds_56 5 rfl  ?_
    refine J_iload_n dX8_odds_58 rfl 3 rfl  ?_
    refine J_icmp_ge (tgt := 81) dX8_odds_59 (by decide) (fun c_1 => ?_) (fun c_1 => ?_)
    · have h := h.1 c_1
      refine J_lload dX8_odds_81 4 rfl  ?_
      exact J_lret dX8_odds_83 rfl ⟨_, rfl, h⟩
    · have h := h.2 c_1
      refine J_lload dX8_odds_62 4 rfl  ?_
      refine J_aload_n dX8_odds_64 rfl 0 rfl  ?_
      refine J_getr (r := 1) (ci := 6) dX8_odds_65 0 rfl giX8 (by decide) (by decide) rfl rfl tb_2_16 (by decide) (by decide)  ?_
      refine J_geti (ci := 2) dX8_odds_68 1 rfl giX4 (by decide) (by decide) rfl rfl tb_1_39 rfl  ?_
      refine J_i2l dX8_odds_71  ?_
      refine J_lmul dX8_odds_72  ?_
      refine J_topl (fun x4_2 ex4_2 => ?_)
      have h := h x4_2 ex4_2
      refine J_lstore (lv' := [(0, .ref (g.1 + 0)), (1, .int p1), (2, .int p2), (3, .int x3), (4, .long x4_2), (6, .int x6)]) dX8_odds_73 (by decide) [1, 2, 3, 4, 0, 5] rfl  ?_
      obtain ⟨x6_3, ex6_3⟩ : ∃ y : Int32, y = x6 + 1 := ⟨_, rfl⟩
      have h := h x6_3 ex6_3
      refine J_iinc (v := x6_3) (lv' := [(0, .ref (g.1 + 0)), (1, .int p1), (2, .int p2), (3, .int x3), (4, .long x4_2), (6, .int x6_3)]) dX8_odds_75 (q := 5) rfl (by rw [ex6_3]; rfl) (by decide) [1, 2, 3, 4, 5, 0] rfl  ?_
      refine J_goto (tgt := 56) dX8_odds_78 (by decide)  ?_
      exact ih _ _ _ _  h
def wp_X8_odds (p1 : Int32) (p2 : Int32) (S : Sto) (Q : Int64 → Sto → Prop) : Prop := wp_X8_isSide p1 S (fun r_2 S_1 => ((r_2 = 0 → q_X8_odds_16 p1 p2  Q  S_1) ∧ (¬ r_2 = 0 → ((p2 < 0 → q_X8_odds_16 p1 p2  Q  S_1) ∧ (¬ p2 < 0 → ((p2 ≤ 1 → ((¬ p2 = 0 → wp_X4_width  S_1 (fun r_8 S_7 => wp_X1_ofSide p1 S_7 (fun r_10 S_9 => kd r_10 = 8 → ∀ x3_12 : Int32, x3_12 = r_8 - (S_9.1 r_10 2) → (∃ n_56, q_X8_odds_56 p1 p2  Q n_56 x3_12 1 0 S_9)))) ∧ (p2 = 0 → Q 1 S_1))) ∧ (¬ p2 ≤ 1 → q_X8_odds_16 p1 p2  Q  S_1)))))))
set_option maxRecDepth 100000 in
set_option maxHeartbeats 4000000 in
theorem c_X8_odds {g : Gv} (p1 : Int32) (p2 : Int32)  (S : Sto) (Q : Int64 → Sto → Prop) (h : wp_X8_odds p1 p2 S Q) : CT g yX8_odds cX8_odds 7 (some .long) 7 [.ref (g.1 + 0), .int p1, .int p2] S (Ql Q) := by
  unfold wp_X8_odds at h
  refine CT.of (by decide) (Nat.le_of_ble_eq_true rfl) ?_
  refine J_sub (lv' := [(0, .ref (g.1 + 0)), (1, .int p1), (2, .int p2)]) [0, 1, 2] rfl ?_
  refine J_iload_n dX8_odds_0 rfl 1 rfl  ?_
  refine J_callS (As := [.int p1]) (rest := []) (n := 1) dX8_odds_1 (c_X8_isSide p1  _ _ h) tb_3_72 tb_3_70 tb_1_1 tb_3_71 (by decide) rfl (by decide) (by decide) (Nat.le_of_ble_eq_true rfl) rfl (fun v_r_2 S_1 hq => ?_)
  obtain ⟨r_2, rfl, h⟩ := hq
  dsimp only [Option.toList, List.cons_append, List.nil_append]
  refine J_if_eq (tgt := 16) dX8_odds_4 (by decide) (fun c_3 => ?_) (fun c_3 => ?_)
  · have h := h.1 c_3
    exact l_X8_odds_16 p1 p2  _    _  h
  · have h := h.2 c_3
    refine J_iload_n dX8_odds_7 rfl 2 rfl  ?_
    refine J_if_lt (tgt := 16) dX8_odds_8 (by decide) (fun c_4 => ?_) (fun c_4 => ?_)
    · have h := h.1 c_4
      exact l_X8_odds_16 p1 p2  _    _  h
    · have h := h.2 c_4
      refine J_iload_n dX8_odds_11 rfl 2 rfl  ?_
      refine J_iconst (v := 1) dX8_odds_12 (by decide)  ?_
      refine J_icmp_le (tgt := 20) dX8_odds_13 (by decide) (fun c_5 => ?_) (fun c_5 => ?_)
      · have h := h.1 c_5
        refine J_iload_n dX8_odds_20 rfl 2 rfl  ?_
        refine J_if_ne (tgt := 26) dX8_odds_21 (by decide) (fun c_6 => ?_) (fun c_6 => ?_)
        · have h := h.1 c_6
          refine J_aload_n dX8_odds_26 rfl 0 rfl  ?_
          refine J_getr (r := 1) (ci := 6) dX8_odds_27 0 rfl giX8 (by decide) (by decide) rfl rfl tb_2_16 (by decide) (by decide)  ?_
          refine J_callV (h := 1) (ci := 2) (As := []) (rest := []) (n := 0) dX8_odds_30 (c_X4_width   _ _ h) (by decide) rfl tb_2_91 tb_2_102 tb_1_2 tb_2_89 tb_2_90 (by decide) rfl (by decide) (by decide) (Nat.le_of_ble_eq_true rfl) rfl (fun v_r_8 S_7 hq => ?_)
          obtain ⟨r_8, rfl, h⟩ := hq
          dsimp only [Option.toList, List.cons_append, List.nil_append]
          refine J_aload_n dX8_odds_33 rfl 0 rfl  ?_
          refine J_getr (r := 48) (ci := 6) dX8_odds_34 5 rfl giX8 (by decide) (by decide) rfl rfl tb_2_21 (by decide) (by decide)  ?_
          refine J_aload_n dX8_odds_37 rfl 0 rfl  ?_
          refine J_getr (r := 1) (ci := 6) dX8_odds_38 0 rfl giX8 (by decide) (by decide) rfl rfl tb_2_16 (by decide) (by decide)  ?_
          refine J_iload_n dX8_odds_41 rfl 1 rfl  ?_
          refine J_callV (h := 48) (ci := 0) (As := [.ref (g.1 + 1), .int p1]) (rest := [.int r_8]) (n := 2) dX8_odds_42 (c_X1_ofSide p1  _ _ h) (by decide) rfl tb_2_144 tb_2_141 tb_1_5 tb_2_142 tb_2_143 (by decide) rfl (by decide) (by decide) (Nat.le_of_ble_eq_true rfl) rfl (fun v_r_10 S_9 hq => ?_)
          obtain ⟨r_10, rfl, hk_11, h⟩ := hq
          have h := h hk_11
          dsimp only [Option.toList, List.cons_append, List.nil_append]
          refine J_geti (ci := 3) dX8_odds_45 2 rfl giX5 hk_11 (by decide) rfl rfl tb_1_161 rfl  ?_
          refine J_isub dX8_odds_48  ?_
          refine J_topi (fun x3_12 ex3_12 => ?_)
          have h := h x3_12 ex3_12
          refine J_istore_n (lv' := [(0, .ref (g.1 + 0)), (1, .int p1), (2, .int p2), (3, .int x3_12)]) dX8_odds_49 rfl (by decide) [1, 2, 3, 0] rfl  ?_
          refine J_lconst (v := 1) dX8_odds_50 (by decide)  ?_
          refine J_lstore (lv' := [(0, .ref (g.1 + 0)), (1, .int p1), (2, .int p2), (3, .int x3_12), (4, .long 1)]) dX8_odds_51 (by decide) [1, 2, 3, 4, 0] rfl  ?_
          refine J_iconst (v := 0) dX8_odds_53 (by decide)  ?_
          refine J_istore (lv' := [(0, .ref (g.1 + 0)), (1, .int p1), (2, .int p2), (3, .int x3_12), (4, .long 1), (6, .int 0)]) dX8_odds_54 (by decide) [1, 2, 3, 4, 5, 0] rfl  ?_
          obtain ⟨n, h⟩ := h
          exact l_X8_odds_56 p1 p2  _   n _ _ _ _  h
        · have h := h.2 c_6
          refine J_lconst (v := 1) dX8_odds_24 (by decide)  ?_
          exact J_lret dX8_odds_25 rfl ⟨_, rfl, h⟩
      · have h := h.2 c_5
        exact l_X8_odds_16 p1 p2  _    _  h
def q_X8_event_51 (p1 : Int32) (p2 : Int32)  (Q : Int32 → Sto → Prop)  (S : Sto) : Prop := Q ((-1)) S
set_option maxRecDepth 100000 in
set_option maxHeartbeats 4000000 in
theorem l_X8_event_51 {g : Gv} (p1 : Int32) (p2 : Int32)  (Q : Int32 → Sto → Prop)    (S : Sto)  (h : q_X8_event_51 p1 p2  Q  S) : RJ g cX8_event RX8 (some .int) 3 2 51 [(0, .ref (g.1 + 0)), (1, .int p1), (2, .int p2)] [] S (Qi Q) := by
  unfold q_X8_event_51 at h
  refine J_iconst (v := (-1)) dX8_event_51 (by decide)  ?_
  exact J_iret dX8_event_52 rfl rfl ⟨_, rfl, h⟩
def q_X8_event_98 (p1 : Int32) (p2 : Int32)  (Q : Int32 → Sto → Prop) (t0 : Int32) (S : Sto) : Prop := Q t0 S
set_option maxRecDepth 100000 in
set_option maxHeartbeats 4000000 in
theorem l_X8_event_98 {g : Gv} (p1 : Int32) (p2 : Int32)  (Q : Int32 → Sto → Prop)   (t0 : Int32) (S : Sto)  (h : q_X8_event_98 p1 p2  Q t0 S) : RJ g cX8_event RX8 (some .int) 3 2 98 [(0, .ref (g.1 + 0)), (1, .int p1), (2, .int p2)] [.int t0] S (Qi Q) := by
  unfold q_X8_event_98 at h
  exact J_iret dX8_event_98 rfl rfl ⟨_, rfl, h⟩
def q_X8_event_74 (p1 : Int32) (p2 : Int32)  (Q : Int32 → Sto → Prop)  (S : Sto) : Prop := wp_X4_addEvent p1 p2 S (fun r_2 S_1 => ((r_2 = 0 → q_X8_event_98 p1 p2  Q ((-4)) S_1) ∧ (¬ r_2 = 0 → q_X8_event_98 p1 p2  Q (S_1.1 1 8) S_1)))
set_option maxRecDepth 100000 in
set_option maxHeartbeats 4000000 in
theorem l_X8_event_74 {g : Gv} (p1 : Int32) (p2 : Int32)  (Q : Int32 → Sto → Prop)    (S : Sto)  (h : q_X8_event_74 p1 p2  Q  S) : RJ g cX8_event RX8 (some .int) 3 2 74 [(0, .ref (g.1 + 0)), (1, .int p1), (2, .int p2)] [] S (Qi Q) := by
  unfold q_X8_event_74 at h
  refine J_aload_n dX8_event_74 rfl 0 rfl  ?_
  refine J_getr (r := 1) (ci := 6) dX8_event_75 0 rfl giX8 (by decide) (by decide) rfl rfl tb_2_16 (by decide) (by decide)  ?_
  refine J_iload_n dX8_event_78 rfl 1 rfl  ?_
  refine J_iload_n dX8_event_79 rfl 2 rfl  ?_
  refine J_callV (h := 1) (ci := 2) (As := [.int p1, .int p2]) (rest := []) (n := 2) dX8_event_80 (c_X4_addEvent p1 p2  _ _ h) (by decide) rfl tb_3_228 tb_3_225 tb_1_2 tb_3_226 tb_3_227 (by decide) rfl (by decide) (by decide) (Nat.le_of_ble_eq_true rfl) rfl (fun v_r_2 S_1 hq => ?_)
  obtain ⟨r_2, rfl, h⟩ := hq
  dsimp only [Option.toList, List.cons_append, List.nil_append]
  refine J_if_eq (tgt := 96) dX8_event_83 (by decide) (fun c_3 => ?_) (fun c_3 => ?_)
  · have h := h.1 c_3
    refine J_bipush (v := (-4)) dX8_event_96 (by decide)  ?_
    exact l_X8_event_98 p1 p2  _   _ _  h
  · have h := h.2 c_3
    refine J_aload_n dX8_event_86 rfl 0 rfl  ?_
    refine J_getr (r := 1) (ci := 6) dX8_event_87 0 rfl giX8 (by decide) (by decide) rfl rfl tb_2_16 (by decide) (by decide)  ?_
    refine J_geti (ci := 2) dX8_event_90 8 rfl giX4 (by decide) (by decide) rfl rfl tb_1_62 rfl  ?_
    refine J_goto (tgt := 98) dX8_event_93 (by decide)  ?_
    exact l_X8_event_98 p1 p2  _   _ _  h
def q_X8_event_71 (p1 : Int32) (p2 : Int32)  (Q : Int32 → Sto → Prop)  (S : Sto) : Prop := Q ((-2)) S
set_option maxRecDepth 100000 in
set_option maxHeartbeats 4000000 in
theorem l_X8_event_71 {g : Gv} (p1 : Int32) (p2 : Int32)  (Q : Int32 → Sto → Prop)    (S : Sto)  (h : q_X8_event_71 p1 p2  Q  S) : RJ g cX8_event RX8 (some .int) 3 2 71 [(0, .ref (g.1 + 0)), (1, .int p1), (2, .int p2)] [] S (Qi Q) := by
  unfold q_X8_event_71 at h
  refine J_bipush (v := (-2)) dX8_event_71 (by decide)  ?_
  exact J_iret dX8_event_73 rfl rfl ⟨_, rfl, h⟩
def q_X8_event_53 (p1 : Int32) (p2 : Int32)  (Q : Int32 → Sto → Prop)  (S : Sto) : Prop := ((p1 = 0 → q_X8_event_74 p1 p2  Q  S) ∧ (¬ p1 = 0 → ((p1 = 3 → q_X8_event_74 p1 p2  Q  S) ∧ (¬ p1 = 3 → ((p2 < 0 → q_X8_event_71 p1 p2  Q  S) ∧ (¬ p2 < 0 → ((p2 < 4 → q_X8_event_74 p1 p2  Q  S) ∧ (¬ p2 < 4 → q_X8_event_71 p1 p2  Q  S))))))))
set_option maxRecDepth 100000 in
set_option maxHeartbeats 4000000 in
theorem l_X8_event_53 {g : Gv} (p1 : Int32) (p2 : Int32)  (Q : Int32 → Sto → Prop)    (S : Sto)  (h : q_X8_event_53 p1 p2  Q  S) : RJ g cX8_event RX8 (some .int) 3 2 53 [(0, .ref (g.1 + 0)), (1, .int p1), (2, .int p2)] [] S (Qi Q) := by
  unfold q_X8_event_53 at h
  refine J_iload_n dX8_event_53 rfl 1 rfl  ?_
  refine J_if_eq (tgt := 74) dX8_event_54 (by decide) (fun c_1 => ?_) (fun c_1 => ?_)
  · have h := h.1 c_1
    exact l_X8_event_74 p1 p2  _    _  h
  · have h := h.2 c_1
    refine J_iload_n dX8_event_57 rfl 1 rfl  ?_
    refine J_iconst (v := 3) dX8_event_58 (by decide)  ?_
    refine J_icmp_eq (tgt := 74) dX8_event_59 (by decide) (fun c_2 => ?_) (fun c_2 => ?_)
    · have h := h.1 c_2
      exact l_X8_event_74 p1 p2  _    _  h
    · have h := h.2 c_2
      refine J_iload_n dX8_event_62 rfl 2 rfl  ?_
      refine J_if_lt (tgt := 71) dX8_event_63 (by decide) (fun c_3 => ?_) (fun c_3 => ?_)
      · have h := h.1 c_3
        exact l_X8_event_71 p1 p2  _    _  h
      · have h := h.2 c_3
        refine J_iload_n dX8_event_66 rfl 2 rfl  ?_
        refine J_iconst (v := 4) dX8_event_67 (by decide)  ?_
        refine J_icmp_lt (tgt := 74) dX8_event_68 (by decide) (fun c_4 => ?_) (fun c_4 => ?_)
        · have h := h.1 c_4
          exact l_X8_event_74 p1 p2  _    _  h
        · have h := h.2 c_4
          exact l_X8_event_71 p1 p2  _    _  h
def q_X8_event_39 (p1 : Int32) (p2 : Int32)  (Q : Int32 → Sto → Prop)  (S : Sto) : Prop := ((¬ p1 = 3 → q_X8_event_53 p1 p2  Q  S) ∧ (p1 = 3 → wp_X8_isKind p2 S (fun r_3 S_2 => ((¬ r_3 = 0 → q_X8_event_53 p1 p2  Q  S_2) ∧ (r_3 = 0 → q_X8_event_51 p1 p2  Q  S_2)))))
set_option maxRecDepth 100000 in
set_option maxHeartbeats 4000000 in
theorem l_X8_event_39 {g : Gv} (p1 : Int32) (p2 : Int32)  (Q : Int32 → Sto → Prop)    (S : Sto)  (h : q_X8_event_39 p1 p2  Q  S) : RJ g cX8_event RX8 (some .int) 3 2 39 [(0, .ref (g.1 + 0)), (1, .int p1), (2, .int p2)] [] S (Qi Q) := by
  unfold q_X8_event_39 at h
  refine J_iload_n dX8_event_39 rfl 1 rfl  ?_
  refine J_iconst (v := 3) dX8_event_40 (by decide)  ?_
  refine J_icmp_ne (tgt := 53) dX8_event_41 (by decide) (fun c_1 => ?_) (fun c_1 => ?_)
  · have h := h.1 c_1
    exact l_X8_event_53 p1 p2  _    _  h
  · have h := h.2 c_1
    refine J_iload_n dX8_event_44 rfl 2 rfl  ?_
    refine J_callS (As := [.int p2]) (rest := []) (n := 1) dX8_event_45 (c_X8_isKind p2  _ _ h) tb_2_75 tb_3_224 tb_1_1 tb_2_74 (by decide) rfl (by decide) (by decide) (Nat.le_of_ble_eq_true rfl) rfl (fun v_r_3 S_2 hq => ?_)
    obtain ⟨r_3, rfl, h⟩ := hq
    dsimp only [Option.toList, List.cons_append, List.nil_append]
    refine J_if_ne (tgt := 53) dX8_event_48 (by decide) (fun c_4 => ?_) (fun c_4 => ?_)
    · have h := h.1 c_4
      exact l_X8_event_53 p1 p2  _    _  h
    · have h := h.2 c_4
      exact l_X8_event_51 p1 p2  _    _  h
def wp_X8_event (p1 : Int32) (p2 : Int32) (S : Sto) (Q : Int32 → Sto → Prop) : Prop := ((¬ p1 = ((-1)) → ((p1 < 0 → q_X8_event_51 p1 p2  Q  S) ∧ (¬ p1 < 0 → ((4 < p1 → q_X8_event_51 p1 p2  Q  S) ∧ (¬ 4 < p1 → ((¬ p1 = 0 → q_X8_event_39 p1 p2  Q  S) ∧ (p1 = 0 → wp_X4_hasElement p2 S (fun r_6 S_5 => ((r_6 = 0 → q_X8_event_51 p1 p2  Q  S_5) ∧ (¬ r_6 = 0 → q_X8_event_39 p1 p2  Q  S_5)))))))))) ∧ (p1 = ((-1)) → ∀ S_8 : Sto, S_8 = uA S 1 8 0 → Q 0 S_8))
set_option maxRecDepth 100000 in
set_option maxHeartbeats 4000000 in
theorem c_X8_event {g : Gv} (p1 : Int32) (p2 : Int32)  (S : Sto) (Q : Int32 → Sto → Prop) (h : wp_X8_event p1 p2 S Q) : CT g yX8_event cX8_event 3 (some .int) 2 [.ref (g.1 + 0), .int p1, .int p2] S (Qi Q) := by
  unfold wp_X8_event at h
  refine CT.of (by decide) (Nat.le_of_ble_eq_true rfl) ?_
  refine J_sub (lv' := [(0, .ref (g.1 + 0)), (1, .int p1), (2, .int p2)]) [0, 1, 2] rfl ?_
  refine J_iload_n dX8_event_0 rfl 1 rfl  ?_
  refine J_iconst (v := (-1)) dX8_event_1 (by decide)  ?_
  refine J_icmp_ne (tgt := 15) dX8_event_2 (by decide) (fun c_1 => ?_) (fun c_1 => ?_)
  · have h := h.1 c_1
    refine J_iload_n dX8_event_15 rfl 1 rfl  ?_
    refine J_if_lt (tgt := 51) dX8_event_16 (by decide) (fun c_2 => ?_) (fun c_2 => ?_)
    · have h := h.1 c_2
      exact l_X8_event_51 p1 p2  _    _  h
    · have h := h.2 c_2
      refine J_iload_n dX8_event_19 rfl 1 rfl  ?_
      refine J_iconst (v := 4) dX8_event_20 (by decide)  ?_
      refine J_icmp_gt (tgt := 51) dX8_event_21 (by decide) (fun c_3 => ?_) (fun c_3 => ?_)
      · have h := h.1 c_3
        exact l_X8_event_51 p1 p2  _    _  h
      · have h := h.2 c_3
        refine J_iload_n dX8_event_24 rfl 1 rfl  ?_
        refine J_if_ne (tgt := 39) dX8_event_25 (by decide) (fun c_4 => ?_) (fun c_4 => ?_)
        · have h := h.1 c_4
          exact l_X8_event_39 p1 p2  _    _  h
        · have h := h.2 c_4
          refine J_aload_n dX8_event_28 rfl 0 rfl  ?_
          refine J_getr (r := 1) (ci := 6) dX8_event_29 0 rfl giX8 (by decide) (by decide) rfl rfl tb_2_16 (by decide) (by decide)  ?_
          refine J_iload_n dX8_event_32 rfl 2 rfl  ?_
          refine J_callV (h := 1) (ci := 2) (As := [.int p2]) (rest := []) (n := 1) dX8_event_33 (c_X4_hasElement p2  _ _ h) (by decide) rfl tb_2_83 tb_2_80 tb_1_2 tb_2_81 tb_2_82 (by decide) rfl (by decide) (by decide) (Nat.le_of_ble_eq_true rfl) rfl (fun v_r_6 S_5 hq => ?_)
          obtain ⟨r_6, rfl, h⟩ := hq
          dsimp only [Option.toList, List.cons_append, List.nil_append]
          refine J_if_eq (tgt := 51) dX8_event_36 (by decide) (fun c_7 => ?_) (fun c_7 => ?_)
          · have h := h.1 c_7
            exact l_X8_event_51 p1 p2  _    _  h
          · have h := h.2 c_7
            exact l_X8_event_39 p1 p2  _    _  h
  · have h := h.2 c_1
    refine J_aload_n dX8_event_5 rfl 0 rfl  ?_
    refine J_getr (r := 1) (ci := 6) dX8_event_6 0 rfl giX8 (by decide) (by decide) rfl rfl tb_2_16 (by decide) (by decide)  ?_
    refine J_iconst (v := 0) dX8_event_9 (by decide)  ?_
    refine J_puti (ci := 2) dX8_event_10 8 rfl giX4 (by decide) (by decide) rfl rfl tyX4 tyX4_ok nmX4 rfl rfl rfl rfl tb_1_62 rfl  ?_
    refine J_nmS (fun S_8 eS_8 => ?_)
    have h := h S_8 eS_8
    refine J_iconst (v := 0) dX8_event_13 (by decide)  ?_
    exact J_iret dX8_event_14 rfl rfl ⟨_, rfl, h⟩
def q_X8_after_16 (p1 : Int32) (p2 : Int32)  (Q : Int32 → Sto → Prop)  (S : Sto) : Prop := Q ((-1)) S
set_option maxRecDepth 100000 in
set_option maxHeartbeats 4000000 in
theorem l_X8_after_16 {g : Gv} (p1 : Int32) (p2 : Int32)  (Q : Int32 → Sto → Prop)    (S : Sto)  (h : q_X8_after_16 p1 p2  Q  S) : RJ g cX8_after RX8 (some .int) 5 7 16 [(0, .ref (g.1 + 0)), (1, .int p1), (2, .int p2)] [] S (Qi Q) := by
  unfold q_X8_after_16 at h
  refine J_iconst (v := (-1)) dX8_after_16 (by decide)  ?_
  exact J_iret dX8_after_17 rfl rfl ⟨_, rfl, h⟩
def q_X8_after_72 (p1 : Int32) (p2 : Int32)  (Q : Int32 → Sto → Prop) (t0 : Int32) (S : Sto) : Prop := Q t0 S
set_option maxRecDepth 100000 in
set_option maxHeartbeats 4000000 in
theorem l_X8_after_72 {g : Gv} (p1 : Int32) (p2 : Int32)  (Q : Int32 → Sto → Prop)   (t0 : Int32) (S : Sto)  (h : q_X8_after_72 p1 p2  Q t0 S) : RJ g cX8_after RX8 (some .int) 5 7 72 [(0, .ref (g.1 + 0)), (1, .int p1), (2, .int p2)] [.int t0] S (Qi Q) := by
  unfold q_X8_after_72 at h
  exact J_iret dX8_after_72 rfl rfl ⟨_, rfl, h⟩
def wp_X8_after (p1 : Int32) (p2 : Int32) (S : Sto) (Q : Int32 → Sto → Prop) : Prop := wp_X8_isSide p1 S (fun r_2 S_1 => ((r_2 = 0 → q_X8_after_16 p1 p2  Q  S_1) ∧ (¬ r_2 = 0 → ((p2 < 0 → q_X8_after_16 p1 p2  Q  S_1) ∧ (¬ p2 < 0 → ((p2 ≤ 2 → wp_X1_afterEvents p1 S_1 (fun r_7 S_6 => kd r_7 = 8 → ((¬ p2 = 0 → ((¬ p2 = 2 → wp_X5_leadNumber r_7 0 S_6 (fun r_12 S_11 => ((0 ≤ r_12 → q_X8_after_72 p1 p2  Q r_12 S_11) ∧ (¬ 0 ≤ r_12 → q_X8_after_72 p1 p2  Q ((-5)) S_11)))) ∧ (p2 = 2 → Q (S_6.1 48 9) S_6))) ∧ (p2 = 0 → Q (S_6.1 r_7 2) S_6)))) ∧ (¬ p2 ≤ 2 → q_X8_after_16 p1 p2  Q  S_1)))))))
set_option maxRecDepth 100000 in
set_option maxHeartbeats 4000000 in
theorem c_X8_after {g : Gv} (p1 : Int32) (p2 : Int32)  (S : Sto) (Q : Int32 → Sto → Prop) (h : wp_X8_after p1 p2 S Q) : CT g yX8_after cX8_after 5 (some .int) 7 [.ref (g.1 + 0), .int p1, .int p2] S (Qi Q) := by
  unfold wp_X8_after at h
  refine CT.of (by decide) (Nat.le_of_ble_eq_true rfl) ?_
  refine J_sub (lv' := [(0, .ref (g.1 + 0)), (1, .int p1), (2, .int p2)]) [0, 1, 2] rfl ?_
  refine J_iload_n dX8_after_0 rfl 1 rfl  ?_
  refine J_callS (As := [.int p1]) (rest := []) (n := 1) dX8_after_1 (c_X8_isSide p1  _ _ h) tb_3_72 tb_3_70 tb_1_1 tb_3_71 (by decide) rfl (by decide) (by decide) (Nat.le_of_ble_eq_true rfl) rfl (fun v_r_2 S_1 hq => ?_)
  obtain ⟨r_2, rfl, h⟩ := hq
  dsimp only [Option.toList, List.cons_append, List.nil_append]
  refine J_if_eq (tgt := 16) dX8_after_4 (by decide) (fun c_3 => ?_) (fun c_3 => ?_)
  · have h := h.1 c_3
    exact l_X8_after_16 p1 p2  _    _  h
  · have h := h.2 c_3
    refine J_iload_n dX8_after_7 rfl 2 rfl  ?_
    refine J_if_lt (tgt := 16) dX8_after_8 (by decide) (fun c_4 => ?_) (fun c_4 => ?_)
    · have h := h.1 c_4
      exact l_X8_after_16 p1 p2  _    _  h
    · have h := h.2 c_4
      refine J_iload_n dX8_after_11 rfl 2 rfl  ?_
      refine J_iconst (v := 2) dX8_after_12 (by decide)  ?_
      refine J_icmp_le (tgt := 18) dX8_after_13 (by decide) (fun c_5 => ?_) (fun c_5 => ?_)
      · have h := h.1 c_5
        refine J_aload_n dX8_after_18 rfl 0 rfl  ?_
        refine J_getr (r := 48) (ci := 6) dX8_after_19 5 rfl giX8 (by decide) (by decide) rfl rfl tb_2_21 (by decide) (by decide)  ?_
        refine J_aload_n dX8_after_22 rfl 0 rfl  ?_
        refine J_getr (r := 1) (ci := 6) dX8_after_23 0 rfl giX8 (by decide) (by decide) rfl rfl tb_2_16 (by decide) (by decide)  ?_
        refine J_iload_n dX8_after_26 rfl 1 rfl  ?_
        refine J_callV (h := 48) (ci := 0) (As := [.ref (g.1 + 1), .int p1]) (rest := []) (n := 2) dX8_after_27 (c_X1_afterEvents p1  _ _ h) (by decide) rfl tb_3_236 tb_3_233 tb_1_5 tb_3_234 tb_3_235 (by decide) rfl (by decide) (by decide) (Nat.le_of_ble_eq_true rfl) rfl (fun v_r_7 S_6 hq => ?_)
        obtain ⟨r_7, rfl, hk_8, h⟩ := hq
        have h := h hk_8
        dsimp only [Option.toList, List.cons_append, List.nil_append]
        refine J_astore_n (lv' := [(0, .ref (g.1 + 0)), (1, .int p1), (2, .int p2), (3, .ref (g.1 + r_7))]) dX8_after_30 rfl (by decide) [1, 2, 3, 0] rfl  ?_
        refine J_iload_n dX8_after_31 rfl 2 rfl  ?_
        refine J_if_ne (tgt := 40) dX8_after_32 (by decide) (fun c_9 => ?_) (fun c_9 => ?_)
        · have h := h.1 c_9
          refine J_iload_n dX8_after_40 rfl 2 rfl  ?_
          refine J_iconst (v := 2) dX8_after_41 (by decide)  ?_
          refine J_icmp_ne (tgt := 53) dX8_after_42 (by decide) (fun c_10 => ?_) (fun c_10 => ?_)
          · have h := h.1 c_10
            refine J_aload_n dX8_after_53 rfl 3 rfl  ?_
            refine J_iconst (v := 0) dX8_after_54 (by decide)  ?_
            refine J_callV (h := r_7) (ci := 3) (As := [.int 0]) (rest := []) (n := 1) dX8_after_55 (c_X5_leadNumber r_7 0 hk_8 _ _ h) hk_8 rfl tb_3_80 tb_3_77 tb_1_6 tb_3_78 tb_3_79 (by decide) rfl (by decide) (by decide) (Nat.le_of_ble_eq_true rfl) rfl (fun v_r_12 S_11 hq => ?_)
            obtain ⟨r_12, rfl, h⟩ := hq
            dsimp only [Option.toList, List.cons_append, List.nil_append]
            refine J_istore (lv' := [(0, .ref (g.1 + 0)), (1, .int p1), (2, .int p2), (4, .int r_12)]) dX8_after_58 (by decide) [1, 2, 3, 0] rfl  ?_
            refine J_iload dX8_after_60 3 rfl  ?_
            refine J_if_ge (tgt := 70) dX8_after_62 (by decide) (fun c_13 => ?_) (fun c_13 => ?_)
            · have h := h.1 c_13
              refine J_iload dX8_after_70 3 rfl  ?_
              refine J_sub (lv' := [(0, .ref (g.1 + 0)), (1, .int p1), (2, .int p2)]) [0, 1, 2] rfl ?_
              exact l_X8_after_72 p1 p2  _   _ _  h
            · have h := h.2 c_13
              refine J_bipush (v := (-5)) dX8_after_65 (by decide)  ?_
              refine J_goto (tgt := 72) dX8_after_67 (by decide)  ?_
              refine J_sub (lv' := [(0, .ref (g.1 + 0)), (1, .int p1), (2, .int p2)]) [0, 1, 2] rfl ?_
              exact l_X8_after_72 p1 p2  _   _ _  h
          · have h := h.2 c_10
            refine J_aload_n dX8_after_45 rfl 0 rfl  ?_
            refine J_getr (r := 48) (ci := 6) dX8_after_46 5 rfl giX8 (by decide) (by decide) rfl rfl tb_2_21 (by decide) (by decide)  ?_
            refine J_geti (ci := 0) dX8_after_49 9 rfl giX1 (by decide) (by decide) rfl rfl tb_1_191 rfl  ?_
            exact J_iret dX8_after_52 rfl rfl ⟨_, rfl, h⟩
        · have h := h.2 c_9
          refine J_aload_n dX8_after_35 rfl 3 rfl  ?_
          refine J_geti (ci := 3) dX8_after_36 2 rfl giX5 hk_8 (by decide) rfl rfl tb_1_161 rfl  ?_
          exact J_iret dX8_after_39 rfl rfl ⟨_, rfl, h⟩
      · have h := h.2 c_5
        exact l_X8_after_16 p1 p2  _    _  h
def q_X8_book_38 (p1 : Int32) (p2 : Int32)  (Q : Int32 → Sto → Prop)  (S : Sto) : Prop := Q ((-2)) S
set_option maxRecDepth 100000 in
set_option maxHeartbeats 4000000 in
theorem l_X8_book_38 {g : Gv} (p1 : Int32) (p2 : Int32)  (Q : Int32 → Sto → Prop)    (S : Sto)  (h : q_X8_book_38 p1 p2  Q  S) : RJ g cX8_book RX8 (some .int) 3 4 38 [(0, .ref (g.1 + 0)), (1, .int p1), (2, .int p2)] [] S (Qi Q) := by
  unfold q_X8_book_38 at h
  refine J_bipush (v := (-2)) dX8_book_38 (by decide)  ?_
  exact J_iret dX8_book_40 rfl rfl ⟨_, rfl, h⟩
def q_X8_book_65 (p1 : Int32) (p2 : Int32)  (Q : Int32 → Sto → Prop) (t0 : Int32) (S : Sto) : Prop := Q t0 S
set_option maxRecDepth 100000 in
set_option maxHeartbeats 4000000 in
theorem l_X8_book_65 {g : Gv} (p1 : Int32) (p2 : Int32)  (Q : Int32 → Sto → Prop)   (t0 : Int32) (S : Sto)  (h : q_X8_book_65 p1 p2  Q t0 S) : RJ g cX8_book RX8 (some .int) 3 4 65 [(0, .ref (g.1 + 0)), (1, .int p1), (2, .int p2)] [.int t0] S (Qi Q) := by
  unfold q_X8_book_65 at h
  exact J_iret dX8_book_65 rfl rfl ⟨_, rfl, h⟩
def wp_X8_book (p1 : Int32) (p2 : Int32) (S : Sto) (Q : Int32 → Sto → Prop) : Prop := ((¬ p1 = ((-1)) → wp_X4_hasSpot p1 S (fun r_3 S_2 => ((¬ r_3 = 0 → ((p2 < 0 → q_X8_book_38 p1 p2  Q  S_2) ∧ (¬ p2 < 0 → ((p2 ≤ 6 → wp_X4_addToBook p1 p2 S_2 (fun r_8 S_7 => ((r_8 = 0 → q_X8_book_65 p1 p2  Q ((-4)) S_7) ∧ (¬ r_8 = 0 → q_X8_book_65 p1 p2  Q (S_7.1 1 11) S_7)))) ∧ (¬ p2 ≤ 6 → q_X8_book_38 p1 p2  Q  S_2))))) ∧ (r_3 = 0 → Q ((-1)) S_2)))) ∧ (p1 = ((-1)) → ∀ S_10 : Sto, S_10 = uA S 1 11 0 → Q 0 S_10))
set_option maxRecDepth 100000 in
set_option maxHeartbeats 4000000 in
theorem c_X8_book {g : Gv} (p1 : Int32) (p2 : Int32)  (S : Sto) (Q : Int32 → Sto → Prop) (h : wp_X8_book p1 p2 S Q) : CT g yX8_book cX8_book 3 (some .int) 4 [.ref (g.1 + 0), .int p1, .int p2] S (Qi Q) := by
  unfold wp_X8_book at h
  refine CT.of (by decide) (Nat.le_of_ble_eq_true rfl) ?_
  refine J_sub (lv' := [(0, .ref (g.1 + 0)), (1, .int p1), (2, .int p2)]) [0, 1, 2] rfl ?_
  refine J_iload_n dX8_book_0 rfl 1 rfl  ?_
  refine J_iconst (v := (-1)) dX8_book_1 (by decide)  ?_
  refine J_icmp_ne (tgt := 15) dX8_book_2 (by decide) (fun c_1 => ?_) (fun c_1 => ?_)
  · have h := h.1 c_1
    refine J_aload_n dX8_book_15 rfl 0 rfl  ?_
    refine J_getr (r := 1) (ci := 6) dX8_book_16 0 rfl giX8 (by decide) (by decide) rfl rfl tb_2_16 (by decide) (by decide)  ?_
    refine J_iload_n dX8_book_19 rfl 1 rfl  ?_
    refine J_callV (h := 1) (ci := 2) (As := [.int p1]) (rest := []) (n := 1) dX8_book_20 (c_X4_hasSpot p1  _ _ h) (by decide) rfl tb_4_21 tb_4_18 tb_1_2 tb_4_19 tb_4_20 (by decide) rfl (by decide) (by decide) (Nat.le_of_ble_eq_true rfl) rfl (fun v_r_3 S_2 hq => ?_)
    obtain ⟨r_3, rfl, h⟩ := hq
    dsimp only [Option.toList, List.cons_append, List.nil_append]
    refine J_if_ne (tgt := 28) dX8_book_23 (by decide) (fun c_4 => ?_) (fun c_4 => ?_)
    · have h := h.1 c_4
      refine J_iload_n dX8_book_28 rfl 2 rfl  ?_
      refine J_if_lt (tgt := 38) dX8_book_29 (by decide) (fun c_5 => ?_) (fun c_5 => ?_)
      · have h := h.1 c_5
        exact l_X8_book_38 p1 p2  _    _  h
      · have h := h.2 c_5
        refine J_iload_n dX8_book_32 rfl 2 rfl  ?_
        refine J_bipush (v := 6) dX8_book_33 (by decide)  ?_
        refine J_icmp_le (tgt := 41) dX8_book_35 (by decide) (fun c_6 => ?_) (fun c_6 => ?_)
        · have h := h.1 c_6
          refine J_aload_n dX8_book_41 rfl 0 rfl  ?_
          refine J_getr (r := 1) (ci := 6) dX8_book_42 0 rfl giX8 (by decide) (by decide) rfl rfl tb_2_16 (by decide) (by decide)  ?_
          refine J_iload_n dX8_book_45 rfl 1 rfl  ?_
          refine J_iload_n dX8_book_46 rfl 2 rfl  ?_
          refine J_callV (h := 1) (ci := 2) (As := [.int p1, .int p2]) (rest := []) (n := 2) dX8_book_47 (c_X4_addToBook p1 p2  _ _ h) (by decide) rfl tb_4_26 tb_4_23 tb_1_2 tb_4_24 tb_4_25 (by decide) rfl (by decide) (by decide) (Nat.le_of_ble_eq_true rfl) rfl (fun v_r_8 S_7 hq => ?_)
          obtain ⟨r_8, rfl, h⟩ := hq
          dsimp only [Option.toList, List.cons_append, List.nil_append]
          refine J_if_eq (tgt := 63) dX8_book_50 (by decide) (fun c_9 => ?_) (fun c_9 => ?_)
          · have h := h.1 c_9
            refine J_bipush (v := (-4)) dX8_book_63 (by decide)  ?_
            exact l_X8_book_65 p1 p2  _   _ _  h
          · have h := h.2 c_9
            refine J_aload_n dX8_book_53 rfl 0 rfl  ?_
            refine J_getr (r := 1) (ci := 6) dX8_book_54 0 rfl giX8 (by decide) (by decide) rfl rfl tb_2_16 (by decide) (by decide)  ?_
            refine J_geti (ci := 2) dX8_book_57 11 rfl giX4 (by decide) (by decide) rfl rfl tb_1_68 rfl  ?_
            refine J_goto (tgt := 65) dX8_book_60 (by decide)  ?_
            exact l_X8_book_65 p1 p2  _   _ _  h
        · have h := h.2 c_6
          exact l_X8_book_38 p1 p2  _    _  h
    · have h := h.2 c_4
      refine J_iconst (v := (-1)) dX8_book_26 (by decide)  ?_
      exact J_iret dX8_book_27 rfl rfl ⟨_, rfl, h⟩
  · have h := h.2 c_1
    refine J_aload_n dX8_book_5 rfl 0 rfl  ?_
    refine J_getr (r := 1) (ci := 6) dX8_book_6 0 rfl giX8 (by decide) (by decide) rfl rfl tb_2_16 (by decide) (by decide)  ?_
    refine J_iconst (v := 0) dX8_book_9 (by decide)  ?_
    refine J_puti (ci := 2) dX8_book_10 11 rfl giX4 (by decide) (by decide) rfl rfl tyX4 tyX4_ok nmX4 rfl rfl rfl rfl tb_1_68 rfl  ?_
    refine J_nmS (fun S_10 eS_10 => ?_)
    have h := h S_10 eS_10
    refine J_iconst (v := 0) dX8_book_13 (by decide)  ?_
    exact J_iret dX8_book_14 rfl rfl ⟨_, rfl, h⟩
def q_X8_looked_77   (Q : Int32 → Sto → Prop)  (S : Sto) : Prop := Q ((-5)) S
set_option maxRecDepth 100000 in
set_option maxHeartbeats 4000000 in
theorem l_X8_looked_77 {g : Gv}   (Q : Int32 → Sto → Prop)    (S : Sto)  (h : q_X8_looked_77   Q  S) : RJ g cX8_looked RX8 (some .int) 3 4 77 [(0, .ref (g.1 + 0))] [] S (Qi Q) := by
  unfold q_X8_looked_77 at h
  refine J_bipush (v := (-5)) dX8_looked_77 (by decide)  ?_
  exact J_iret dX8_looked_79 rfl rfl ⟨_, rfl, h⟩
def q_X8_looked_69   (Q : Int32 → Sto → Prop) (x1 : Int32) (S : Sto) : Prop := Q x1 S
set_option maxRecDepth 100000 in
set_option maxHeartbeats 4000000 in
theorem l_X8_looked_69 {g : Gv}   (Q : Int32 → Sto → Prop)   (x1 : Int32) (S : Sto)  (h : q_X8_looked_69   Q x1 S) : RJ g cX8_looked RX8 (some .int) 3 4 69 [(0, .ref (g.1 + 0)), (1, .int x1)] [] S (Qi Q) := by
  unfold q_X8_looked_69 at h
  refine J_iload_n dX8_looked_69 rfl 1 rfl  ?_
  exact J_iret dX8_looked_70 rfl rfl ⟨_, rfl, h⟩
def q_X8_looked_2   (Q : Int32 → Sto → Prop) : Nat → Int32 → Sto → Prop
  | 0, _, _ => False
  | n + 1, x1, S => (((S.1 1 11) ≤ x1 → q_X8_looked_77   Q  S) ∧ (¬ (S.1 1 11) ≤ x1 → ((8 ≤ x1 → q_X8_looked_77   Q  S) ∧ (¬ 8 ≤ x1 → vp_in x1 (8) ∧ ∀ x2_4 : Int32, x2_4 = S.1 16 (x1 : Int32).toNatClampNeg → wp_X4_hasSpot x2_4 S (fun r_6 S_5 => ((r_6 = 0 → q_X8_looked_69   Q x1 S_5) ∧ (¬ r_6 = 0 → vp_in (x2_4 / 100) (6) ∧ vp_in (x2_4 - x2_4 / 100 * 100) (ln (2 + 1 + (x2_4 / 100 : Int32).toNatClampNeg)) ∧ vp_in x1 (8) ∧ (((S_5.1 (2 + 1 + (x2_4 / 100 : Int32).toNatClampNeg) (x2_4 - x2_4 / 100 * 100 : Int32).toNatClampNeg) = (S_5.1 17 (x1 : Int32).toNatClampNeg) → ∀ x1_12 : Int32, x1_12 = x1 + 1 → q_X8_looked_2   Q n x1_12 S_5) ∧ (¬ (S_5.1 (2 + 1 + (x2_4 / 100 : Int32).toNatClampNeg) (x2_4 - x2_4 / 100 * 100 : Int32).toNatClampNeg) = (S_5.1 17 (x1 : Int32).toNatClampNeg) → q_X8_looked_69   Q x1 S_5)))))))))
set_option maxRecDepth 100000 in
set_option maxHeartbeats 4000000 in
theorem l_X8_looked_2 {g : Gv}   (Q : Int32 → Sto → Prop)   (n : Nat) : ∀ (x1 : Int32) (S : Sto)  (h : q_X8_looked_2   Q n x1 S), RJ g cX8_looked RX8 (some .int) 3 4 2 [(0, .ref (g.1 + 0)), (1, .int x1)] [] S (Qi Q) := by
  induction n with
  | zero => intro x1 S  h; exact h.elim
  | succ n ih =>
    intro x1 S  h
    unfold q_X8_looked_2 at h
    refine J_iload_n dX8_looked_2 rfl 1 rfl  ?_
    refine J_aload_n dX8_looked_3 rfl 0 rfl  ?_
    refine J_getr (r := 1) (ci := 6) dX8_looked_4 0 rfl giX8 (by decide) (by decide) rfl rfl tb_2_16 (by decide) (by decide)  ?_
    refine J_geti (ci := 2) dX8_looked_7 11 rfl giX4 (by decide) (by decide) rfl rfl tb_1_68 rfl  ?_
    refine J_icmp_ge (tgt := 77) dX8_looked_10 (by decide) (fun c_1 => ?_) (fun c_1 => ?_)
    · have h := h.1 c_1
      refine J_sub (lv' := [(0, .ref (g.1 + 0))]) [0] rfl ?_
      exact l_X8_looked_77   _    _  h
    · have h := h.2 c_1
      refine J_iload_n dX8_looked_13 rfl 1 rfl  ?_
      refine J_bipush (v := 8) dX8_looked_14 (by decide)  ?_
      refine J_icmp_ge (tgt := 77) dX8_looked_16 (by decide) (fun c_2 => ?_) (fun c_2 => ?_)
      · have h := h.1 c_2
        refine J_sub (lv' := [(0, .ref (g.1 + 0))]) [0] rfl ?_
        exact l_X8_looked_77   _    _  h
      · have h := h.2 c_2
        refine J_aload_n dX8_looked_19 rfl 0 rfl  ?_
        refine J_getr (r := 1) (ci := 6) dX8_looked_20 0 rfl giX8 (by decide) (by decide) rfl rfl tb_2_16 (by decide) (by decide)  ?_
        refine J_getr (r := 16) (ci := 2) dX8_looked_23 9 rfl giX4 (by decide) (by decide) rfl rfl tb_1_64 (by decide) (by decide)  ?_
        refine J_iload_n dX8_looked_26 rfl 1 rfl  ?_
        obtain ⟨hi_3, h⟩ := h
        refine J_iald dX8_looked_27 (by decide) hi_3  ?_
        refine J_topi (fun x2_4 ex2_4 => ?_)
        have h := h x2_4 ex2_4
        refine J_istore_n (lv' := [(0, .ref (g.1 + 0)), (1, .int x1), (2, .int x2_4)]) dX8_looked_28 rfl (by decide) [1, 2, 0] rfl  ?_
        refine J_aload_n dX8_looked_29 rfl 0 rfl  ?_
        refine J_getr (r := 1) (ci := 6) dX8_looked_30 0 rfl giX8 (by decide) (by decide) rfl rfl tb_2_16 (by decide) (by decide)  ?_
        refine J_iload_n dX8_looked_33 rfl 2 rfl  ?_
        refine J_callV (h := 1) (ci := 2) (As := [.int x2_4]) (rest := []) (n := 1) dX8_looked_34 (c_X4_hasSpot x2_4  _ _ h) (by decide) rfl tb_4_21 tb_4_18 tb_1_2 tb_4_19 tb_4_20 (by decide) rfl (by decide) (by decide) (Nat.le_of_ble_eq_true rfl) rfl (fun v_r_6 S_5 hq => ?_)
        obtain ⟨r_6, rfl, h⟩ := hq
        dsimp only [Option.toList, List.cons_append, List.nil_append]
        refine J_if_eq (tgt := 69) dX8_looked_37 (by decide) (fun c_7 => ?_) (fun c_7 => ?_)
        · have h := h.1 c_7
          refine J_sub (lv' := [(0, .ref (g.1 + 0)), (1, .int x1)]) [0, 1] rfl ?_
          exact l_X8_looked_69   _   _ _  h
        · have h := h.2 c_7
          refine J_aload_n dX8_looked_40 rfl 0 rfl  ?_
          refine J_getr (r := 1) (ci := 6) dX8_looked_41 0 rfl giX8 (by decide) (by decide) rfl rfl tb_2_16 (by decide) (by decide)  ?_
          refine J_getr (r := 2) (ci := 2) dX8_looked_44 3 rfl giX4 (by decide) (by decide) rfl rfl tb_1_46 (by decide) (by decide)  ?_
          refine J_iload_n dX8_looked_47 rfl 2 rfl  ?_
          refine J_bipush (v := 100) dX8_looked_48 (by decide)  ?_
          refine J_idiv dX8_looked_50 (by decide)  ?_
          obtain ⟨hi_8, h⟩ := h
          refine J_aald3 dX8_looked_51 (by decide) hi_8  ?_
          refine J_iload_n dX8_looked_52 rfl 2 rfl  ?_
          refine J_bipush (v := 100) dX8_looked_53 (by decide)  ?_
          refine J_irem dX8_looked_55 (by decide)  ?_
          obtain ⟨hi_9, h⟩ := h
          refine J_iald dX8_looked_56 (kd_row3 (by decide) hi_8) hi_9  ?_
          refine J_aload_n dX8_looked_57 rfl 0 rfl  ?_
          refine J_getr (r := 1) (ci := 6) dX8_looked_58 0 rfl giX8 (by decide) (by decide) rfl rfl tb_2_16 (by decide) (by decide)  ?_
          refine J_getr (r := 17) (ci := 2) dX8_looked_61 10 rfl giX4 (by decide) (by decide) rfl rfl tb_1_66 (by decide) (by decide)  ?_
          refine J_iload_n dX8_looked_64 rfl 1 rfl  ?_
          obtain ⟨hi_10, h⟩ := h
          refine J_iald dX8_looked_65 (by decide) hi_10  ?_
          refine J_icmp_eq (tgt := 71) dX8_looked_66 (by decide) (fun c_11 => ?_) (fun c_11 => ?_)
          · have h := h.1 c_11
            obtain ⟨x1_12, ex1_12⟩ : ∃ y : Int32, y = x1 + 1 := ⟨_, rfl⟩
            have h := h x1_12 ex1_12
            refine J_iinc (v := x1_12) (lv' := [(0, .ref (g.1 + 0)), (1, .int x1_12), (2, .int x2_4)]) dX8_looked_71 (q := 1) rfl (by rw [ex1_12]; rfl) (by decide) [1, 0, 2] rfl  ?_
            refine J_goto (tgt := 2) dX8_looked_74 (by decide)  ?_
            refine J_sub (lv' := [(0, .ref (g.1 + 0)), (1, .int x1_12)]) [0, 1] rfl ?_
            exact ih _ _  h
          · have h := h.2 c_11
            refine J_sub (lv' := [(0, .ref (g.1 + 0)), (1, .int x1)]) [0, 1] rfl ?_
            exact l_X8_looked_69   _   _ _  h
def wp_X8_looked  (S : Sto) (Q : Int32 → Sto → Prop) : Prop := (∃ n_2, q_X8_looked_2   Q n_2 0 S)
set_option maxRecDepth 100000 in
set_option maxHeartbeats 4000000 in
theorem c_X8_looked {g : Gv}   (S : Sto) (Q : Int32 → Sto → Prop) (h : wp_X8_looked  S Q) : CT g yX8_looked cX8_looked 3 (some .int) 4 [.ref (g.1 + 0)] S (Qi Q) := by
  unfold wp_X8_looked at h
  refine CT.of (by decide) (Nat.le_of_ble_eq_true rfl) ?_
  refine J_sub (lv' := [(0, .ref (g.1 + 0))]) [0] rfl ?_
  refine J_iconst (v := 0) dX8_looked_0 (by decide)  ?_
  refine J_istore_n (lv' := [(0, .ref (g.1 + 0)), (1, .int 0)]) dX8_looked_1 rfl (by decide) [1, 0] rfl  ?_
  obtain ⟨n, h⟩ := h
  exact l_X8_looked_2   _   n _ _  h
def q_X8_judge_22 (p1 : Int32) (p2 : Int32) (p3 : Int32)  (Q : Int32 → Sto → Prop)  (S : Sto) : Prop := Q ((-1)) S
set_option maxRecDepth 100000 in
set_option maxHeartbeats 4000000 in
theorem l_X8_judge_22 {g : Gv} (p1 : Int32) (p2 : Int32) (p3 : Int32)  (Q : Int32 → Sto → Prop)    (S : Sto)  (h : q_X8_judge_22 p1 p2 p3  Q  S) : RJ g cX8_judge RX8 (some .int) 5 2 22 [(0, .ref (g.1 + 0)), (1, .int p1), (2, .int p2), (3, .int p3)] [] S (Qi Q) := by
  unfold q_X8_judge_22 at h
  refine J_iconst (v := (-1)) dX8_judge_22 (by decide)  ?_
  exact J_iret dX8_judge_23 rfl rfl ⟨_, rfl, h⟩
def q_X8_judge_69 (p1 : Int32) (p2 : Int32) (p3 : Int32)  (Q : Int32 → Sto → Prop)  (S : Sto) : Prop := Q 100 S
set_option maxRecDepth 100000 in
set_option maxHeartbeats 4000000 in
theorem l_X8_judge_69 {g : Gv} (p1 : Int32) (p2 : Int32) (p3 : Int32)  (Q : Int32 → Sto → Prop)    (S : Sto)  (h : q_X8_judge_69 p1 p2 p3  Q  S) : RJ g cX8_judge RX8 (some .int) 5 2 69 [(0, .ref (g.1 + 0)), (1, .int p1), (2, .int p2), (3, .int p3)] [] S (Qi Q) := by
  unfold q_X8_judge_69 at h
  refine J_bipush (v := 100) dX8_judge_69 (by decide)  ?_
  exact J_iret dX8_judge_71 rfl rfl ⟨_, rfl, h⟩
def q_X8_judge_75 (p1 : Int32) (p2 : Int32) (p3 : Int32)  (Q : Int32 → Sto → Prop) : Nat → Int32 → Sto → Prop
  | 0, _, _ => False
  | n + 1, x4, S => wp_X4_width  S (fun r_2 S_1 => ((r_2 ≤ x4 → Q ((-5)) S_1) ∧ (¬ r_2 ≤ x4 → wp_X7_hasItem p2 (p3 + x4) S_1 (fun r_5 S_4 => ((¬ r_5 = 0 → vp_in p2 (6) ∧ vp_in (p3 + x4) (ln (41 + 1 + (p2 : Int32).toNatClampNeg)) ∧ vp_in p1 (6) ∧ vp_in x4 (ln (2 + 1 + (p1 : Int32).toNatClampNeg)) ∧ (((lg_cmp (S_4.2 (41 + 1 + (p2 : Int32).toNatClampNeg) (p3 + x4 : Int32).toNatClampNeg) ((S_4.1 (2 + 1 + (p1 : Int32).toNatClampNeg) (x4 : Int32).toNatClampNeg : Int32).toInt64)) = 0 → ∀ x4_12 : Int32, x4_12 = x4 + 1 → q_X8_judge_75 p1 p2 p3  Q n x4_12 S_4) ∧ (¬ (lg_cmp (S_4.2 (41 + 1 + (p2 : Int32).toNatClampNeg) (p3 + x4 : Int32).toNatClampNeg) ((S_4.1 (2 + 1 + (p1 : Int32).toNatClampNeg) (x4 : Int32).toNatClampNeg : Int32).toInt64)) = 0 → Q x4 S_4))) ∧ (r_5 = 0 → Q (100 + x4) S_4))))))
set_option maxRecDepth 100000 in
set_option maxHeartbeats 4000000 in
theorem l_X8_judge_75 {g : Gv} (p1 : Int32) (p2 : Int32) (p3 : Int32)  (Q : Int32 → Sto → Prop)   (n : Nat) : ∀ (x4 : Int32) (S : Sto)  (h : q_X8_judge_75 p1 p2 p3  Q n x4 S), RJ g cX8_judge RX8 (some .int) 5 2 75 [(0, .ref (g.1 + 0)), (1, .int p1), (2, .int p2), (3, .int p3), (4, .int x4)] [] S (Qi Q) := by
  induction n with
  | zero => intro x4 S  h; exact h.elim
  | succ n ih =>
    intro x4 S  h
    unfold q_X8_judge_75 at h
    refine J_iload dX8_judge_75 4 rfl  ?_
    refine J_aload_n dX8_judge_77 rfl 0 rfl  ?_
    refine J_getr (r := 1) (ci := 6) dX8_judge_78 0 rfl giX8 (by decide) (by decide) rfl rfl tb_2_16 (by decide) (by decide)  ?_
    refine J_callV (h := 1) (ci := 2) (As := []) (rest := [.int x4]) (n := 0) dX8_judge_81 (c_X4_width   _ _ h) (by decide) rfl tb_2_91 tb_2_102 tb_1_2 tb_2_89 tb_2_90 (by decide) rfl (by decide) (by decide) (Nat.le_of_ble_eq_true rfl) rfl (fun v_r_2 S_1 hq => ?_)
    obtain ⟨r_2, rfl, h⟩ := hq
    dsimp only [Option.toList, List.cons_append, List.nil_append]
    refine J_icmp_ge (tgt := 148) dX8_judge_84 (by decide) (fun c_3 => ?_) (fun c_3 => ?_)
    · have h := h.1 c_3
      refine J_bipush (v := (-5)) dX8_judge_148 (by decide)  ?_
      exact J_iret dX8_judge_150 rfl rfl ⟨_, rfl, h⟩
    · have h := h.2 c_3
      refine J_aload_n dX8_judge_87 rfl 0 rfl  ?_
      refine J_getr (r := 38) (ci := 6) dX8_judge_88 4 rfl giX8 (by decide) (by decide) rfl rfl tb_2_20 (by decide) (by decide)  ?_
      refine J_iload_n dX8_judge_91 rfl 2 rfl  ?_
      refine J_iload_n dX8_judge_92 rfl 3 rfl  ?_
      refine J_iload dX8_judge_93 4 rfl  ?_
      refine J_iadd dX8_judge_95  ?_
      refine J_callV (h := 38) (ci := 5) (As := [.int p2, .int (p3 + x4)]) (rest := []) (n := 2) dX8_judge_96 (c_X7_hasItem p2 (p3 + x4)  _ _ h) (by decide) rfl tb_4_50 tb_4_47 tb_1_4 tb_4_48 tb_4_49 (by decide) rfl (by decide) (by decide) (Nat.le_of_ble_eq_true rfl) rfl (fun v_r_5 S_4 hq => ?_)
      obtain ⟨r_5, rfl, h⟩ := hq
      dsimp only [Option.toList, List.cons_append, List.nil_append]
      refine J_if_ne (tgt := 108) dX8_judge_99 (by decide) (fun c_6 => ?_) (fun c_6 => ?_)
      · have h := h.1 c_6
        refine J_aload_n dX8_judge_108 rfl 0 rfl  ?_
        refine J_getr (r := 38) (ci := 6) dX8_judge_109 4 rfl giX8 (by decide) (by decide) rfl rfl tb_2_20 (by decide) (by decide)  ?_
        refine J_getr (r := 41) (ci := 5) dX8_judge_112 2 rfl giX7 (by decide) (by decide) rfl rfl tb_1_132 (by decide) (by decide)  ?_
        refine J_iload_n dX8_judge_115 rfl 2 rfl  ?_
        obtain ⟨hi_7, h⟩ := h
        refine J_aald4 dX8_judge_116 (by decide) hi_7  ?_
        refine J_iload_n dX8_judge_117 rfl 3 rfl  ?_
        refine J_iload dX8_judge_118 4 rfl  ?_
        refine J_iadd dX8_judge_120  ?_
        obtain ⟨hi_8, h⟩ := h
        refine J_lald dX8_judge_121 (kd_row4 (by decide) hi_7) hi_8  ?_
        refine J_aload_n dX8_judge_122 rfl 0 rfl  ?_
        refine J_getr (r := 1) (ci := 6) dX8_judge_123 0 rfl giX8 (by decide) (by decide) rfl rfl tb_2_16 (by decide) (by decide)  ?_
        refine J_getr (r := 2) (ci := 2) dX8_judge_126 3 rfl giX4 (by decide) (by decide) rfl rfl tb_1_46 (by decide) (by decide)  ?_
        refine J_iload_n dX8_judge_129 rfl 1 rfl  ?_
        obtain ⟨hi_9, h⟩ := h
        refine J_aald3 dX8_judge_130 (by decide) hi_9  ?_
        refine J_iload dX8_judge_131 4 rfl  ?_
        obtain ⟨hi_10, h⟩ := h
        refine J_iald dX8_judge_133 (kd_row3 (by decide) hi_9) hi_10  ?_
        refine J_i2l dX8_judge_134  ?_
        refine J_lcmp dX8_judge_135  ?_
        refine J_if_eq (tgt := 142) dX8_judge_136 (by decide) (fun c_11 => ?_) (fun c_11 => ?_)
        · have h := h.1 c_11
          obtain ⟨x4_12, ex4_12⟩ : ∃ y : Int32, y = x4 + 1 := ⟨_, rfl⟩
          have h := h x4_12 ex4_12
          refine J_iinc (v := x4_12) (lv' := [(0, .ref (g.1 + 0)), (1, .int p1), (2, .int p2), (3, .int p3), (4, .int x4_12)]) dX8_judge_142 (q := 4) rfl (by rw [ex4_12]; rfl) (by decide) [1, 2, 3, 4, 0] rfl  ?_
          refine J_goto (tgt := 75) dX8_judge_145 (by decide)  ?_
          exact ih _ _  h
        · have h := h.2 c_11
          refine J_iload dX8_judge_139 4 rfl  ?_
          exact J_iret dX8_judge_141 rfl rfl ⟨_, rfl, h⟩
      · have h := h.2 c_6
        refine J_bipush (v := 100) dX8_judge_102 (by decide)  ?_
        refine J_iload dX8_judge_104 4 rfl  ?_
        refine J_iadd dX8_judge_106  ?_
        exact J_iret dX8_judge_107 rfl rfl ⟨_, rfl, h⟩
def wp_X8_judge (p1 : Int32) (p2 : Int32) (p3 : Int32) (S : Sto) (Q : Int32 → Sto → Prop) : Prop := wp_X4_hasElement p1 S (fun r_2 S_1 => ((r_2 = 0 → q_X8_judge_22 p1 p2 p3  Q  S_1) ∧ (¬ r_2 = 0 → wp_X7_has p2 S_1 (fun r_5 S_4 => ((¬ r_5 = 0 → wp_X7_isEmpty p2 S_4 (fun r_8 S_7 => ((r_8 = 0 → wp_X7_holdsBytes p2 S_7 (fun r_11 S_10 => ((¬ r_11 = 0 → ((p3 < 0 → q_X8_judge_69 p1 p2 p3  Q  S_10) ∧ (¬ p3 < 0 → vp_in p2 (6) ∧ ((p3 ≤ (S_10.1 40 (p2 : Int32).toNatClampNeg) → (∃ n_75, q_X8_judge_75 p1 p2 p3  Q n_75 0 S_10)) ∧ (¬ p3 ≤ (S_10.1 40 (p2 : Int32).toNatClampNeg) → q_X8_judge_69 p1 p2 p3  Q  S_10))))) ∧ (r_11 = 0 → Q ((-12)) S_10)))) ∧ (¬ r_8 = 0 → Q 100 S_7)))) ∧ (r_5 = 0 → q_X8_judge_22 p1 p2 p3  Q  S_4))))))
set_option maxRecDepth 100000 in
set_option maxHeartbeats 4000000 in
theorem c_X8_judge {g : Gv} (p1 : Int32) (p2 : Int32) (p3 : Int32)  (S : Sto) (Q : Int32 → Sto → Prop) (h : wp_X8_judge p1 p2 p3 S Q) : CT g yX8_judge cX8_judge 5 (some .int) 2 [.ref (g.1 + 0), .int p1, .int p2, .int p3] S (Qi Q) := by
  unfold wp_X8_judge at h
  refine CT.of (by decide) (Nat.le_of_ble_eq_true rfl) ?_
  refine J_sub (lv' := [(0, .ref (g.1 + 0)), (1, .int p1), (2, .int p2), (3, .int p3)]) [0, 1, 2, 3] rfl ?_
  refine J_aload_n dX8_judge_0 rfl 0 rfl  ?_
  refine J_getr (r := 1) (ci := 6) dX8_judge_1 0 rfl giX8 (by decide) (by decide) rfl rfl tb_2_16 (by decide) (by decide)  ?_
  refine J_iload_n dX8_judge_4 rfl 1 rfl  ?_
  refine J_callV (h := 1) (ci := 2) (As := [.int p1]) (rest := []) (n := 1) dX8_judge_5 (c_X4_hasElement p1  _ _ h) (by decide) rfl tb_2_83 tb_2_80 tb_1_2 tb_2_81 tb_2_82 (by decide) rfl (by decide) (by decide) (Nat.le_of_ble_eq_true rfl) rfl (fun v_r_2 S_1 hq => ?_)
  obtain ⟨r_2, rfl, h⟩ := hq
  dsimp only [Option.toList, List.cons_append, List.nil_append]
  refine J_if_eq (tgt := 22) dX8_judge_8 (by decide) (fun c_3 => ?_) (fun c_3 => ?_)
  · have h := h.1 c_3
    exact l_X8_judge_22 p1 p2 p3  _    _  h
  · have h := h.2 c_3
    refine J_aload_n dX8_judge_11 rfl 0 rfl  ?_
    refine J_getr (r := 38) (ci := 6) dX8_judge_12 4 rfl giX8 (by decide) (by decide) rfl rfl tb_2_20 (by decide) (by decide)  ?_
    refine J_iload_n dX8_judge_15 rfl 2 rfl  ?_
    refine J_callV (h := 38) (ci := 5) (As := [.int p2]) (rest := []) (n := 1) dX8_judge_16 (c_X7_has p2  _ _ h) (by decide) rfl tb_4_38 tb_4_35 tb_1_4 tb_4_36 tb_4_37 (by decide) rfl (by decide) (by decide) (Nat.le_of_ble_eq_true rfl) rfl (fun v_r_5 S_4 hq => ?_)
    obtain ⟨r_5, rfl, h⟩ := hq
    dsimp only [Option.toList, List.cons_append, List.nil_append]
    refine J_if_ne (tgt := 24) dX8_judge_19 (by decide) (fun c_6 => ?_) (fun c_6 => ?_)
    · have h := h.1 c_6
      refine J_aload_n dX8_judge_24 rfl 0 rfl  ?_
      refine J_getr (r := 38) (ci := 6) dX8_judge_25 4 rfl giX8 (by decide) (by decide) rfl rfl tb_2_20 (by decide) (by decide)  ?_
      refine J_iload_n dX8_judge_28 rfl 2 rfl  ?_
      refine J_callV (h := 38) (ci := 5) (As := [.int p2]) (rest := []) (n := 1) dX8_judge_29 (c_X7_isEmpty p2  _ _ h) (by decide) rfl tb_4_42 tb_4_39 tb_1_4 tb_4_40 tb_4_41 (by decide) rfl (by decide) (by decide) (Nat.le_of_ble_eq_true rfl) rfl (fun v_r_8 S_7 hq => ?_)
      obtain ⟨r_8, rfl, h⟩ := hq
      dsimp only [Option.toList, List.cons_append, List.nil_append]
      refine J_if_eq (tgt := 38) dX8_judge_32 (by decide) (fun c_9 => ?_) (fun c_9 => ?_)
      · have h := h.1 c_9
        refine J_aload_n dX8_judge_38 rfl 0 rfl  ?_
        refine J_getr (r := 38) (ci := 6) dX8_judge_39 4 rfl giX8 (by decide) (by decide) rfl rfl tb_2_20 (by decide) (by decide)  ?_
        refine J_iload_n dX8_judge_42 rfl 2 rfl  ?_
        refine J_callV (h := 38) (ci := 5) (As := [.int p2]) (rest := []) (n := 1) dX8_judge_43 (c_X7_holdsBytes p2  _ _ h) (by decide) rfl tb_4_46 tb_4_43 tb_1_4 tb_4_44 tb_4_45 (by decide) rfl (by decide) (by decide) (Nat.le_of_ble_eq_true rfl) rfl (fun v_r_11 S_10 hq => ?_)
        obtain ⟨r_11, rfl, h⟩ := hq
        dsimp only [Option.toList, List.cons_append, List.nil_append]
        refine J_if_ne (tgt := 52) dX8_judge_46 (by decide) (fun c_12 => ?_) (fun c_12 => ?_)
        · have h := h.1 c_12
          refine J_iload_n dX8_judge_52 rfl 3 rfl  ?_
          refine J_if_lt (tgt := 69) dX8_judge_53 (by decide) (fun c_13 => ?_) (fun c_13 => ?_)
          · have h := h.1 c_13
            exact l_X8_judge_69 p1 p2 p3  _    _  h
          · have h := h.2 c_13
            refine J_iload_n dX8_judge_56 rfl 3 rfl  ?_
            refine J_aload_n dX8_judge_57 rfl 0 rfl  ?_
            refine J_getr (r := 38) (ci := 6) dX8_judge_58 4 rfl giX8 (by decide) (by decide) rfl rfl tb_2_20 (by decide) (by decide)  ?_
            refine J_getr (r := 40) (ci := 5) dX8_judge_61 1 rfl giX7 (by decide) (by decide) rfl rfl tb_1_130 (by decide) (by decide)  ?_
            refine J_iload_n dX8_judge_64 rfl 2 rfl  ?_
            obtain ⟨hi_14, h⟩ := h
            refine J_iald dX8_judge_65 (by decide) hi_14  ?_
            refine J_icmp_le (tgt := 72) dX8_judge_66 (by decide) (fun c_15 => ?_) (fun c_15 => ?_)
            · have h := h.1 c_15
              refine J_iconst (v := 0) dX8_judge_72 (by decide)  ?_
              refine J_istore (lv' := [(0, .ref (g.1 + 0)), (1, .int p1), (2, .int p2), (3, .int p3), (4, .int 0)]) dX8_judge_73 (by decide) [1, 2, 3, 4, 0] rfl  ?_
              obtain ⟨n, h⟩ := h
              exact l_X8_judge_75 p1 p2 p3  _   n _ _  h
            · have h := h.2 c_15
              exact l_X8_judge_69 p1 p2 p3  _    _  h
        · have h := h.2 c_12
          refine J_bipush (v := (-12)) dX8_judge_49 (by decide)  ?_
          exact J_iret dX8_judge_51 rfl rfl ⟨_, rfl, h⟩
      · have h := h.2 c_9
        refine J_bipush (v := 100) dX8_judge_35 (by decide)  ?_
        exact J_iret dX8_judge_37 rfl rfl ⟨_, rfl, h⟩
    · have h := h.2 c_6
      exact l_X8_judge_22 p1 p2 p3  _    _  h
def wp_X8_image  (S : Sto) (Q : Int32 → Sto → Prop) : Prop := wp_X4_copyFrom 18 1 S (fun S_1 => ∀ S_3 : Sto, S_3 = uA S_1 0 2 1 → Q (S_3.1 1 5) S_3)
set_option maxRecDepth 100000 in
set_option maxHeartbeats 4000000 in
theorem c_X8_image {g : Gv}   (S : Sto) (Q : Int32 → Sto → Prop) (h : wp_X8_image  S Q) : CT g yX8_image cX8_image 1 (some .int) 3 [.ref (g.1 + 0)] S (Qi Q) := by
  unfold wp_X8_image at h
  refine CT.of (by decide) (Nat.le_of_ble_eq_true rfl) ?_
  refine J_sub (lv' := [(0, .ref (g.1 + 0))]) [0] rfl ?_
  refine J_aload_n dX8_image_0 rfl 0 rfl  ?_
  refine J_getr (r := 18) (ci := 6) dX8_image_1 1 rfl giX8 (by decide) (by decide) rfl rfl tb_2_17 (by decide) (by decide)  ?_
  refine J_aload_n dX8_image_4 rfl 0 rfl  ?_
  refine J_getr (r := 1) (ci := 6) dX8_image_5 0 rfl giX8 (by decide) (by decide) rfl rfl tb_2_16 (by decide) (by decide)  ?_
  refine J_callV (h := 18) (ci := 2) (As := [.ref (g.1 + 1)]) (rest := []) (n := 1) dX8_image_8 (c_X4_copyFrom 18 1 (by decide) (by decide) _ _ h) (by decide) rfl tb_4_58 tb_4_55 tb_1_2 tb_4_56 tb_4_57 (by decide) rfl (by decide) (by decide) (Nat.le_of_ble_eq_true rfl) rfl (fun v_r_2 S_1 hq => ?_)
  obtain ⟨rfl, h⟩ := hq
  dsimp only [Option.toList, List.cons_append, List.nil_append]
  refine J_aload_n dX8_image_11 rfl 0 rfl  ?_
  refine J_iconst (v := 1) dX8_image_12 (by decide)  ?_
  refine J_puti (ci := 6) dX8_image_13 2 rfl giX8 (by decide) (by decide) rfl rfl tyX8 tyX8_ok nmX8 rfl rfl rfl rfl tb_2_18 rfl  ?_
  refine J_nmS (fun S_3 eS_3 => ?_)
  have h := h S_3 eS_3
  refine J_aload_n dX8_image_16 rfl 0 rfl  ?_
  refine J_getr (r := 1) (ci := 6) dX8_image_17 0 rfl giX8 (by decide) (by decide) rfl rfl tb_2_16 (by decide) (by decide)  ?_
  refine J_geti (ci := 2) dX8_image_20 5 rfl giX4 (by decide) (by decide) rfl rfl tb_1_55 rfl  ?_
  exact J_iret dX8_image_23 rfl rfl ⟨_, rfl, h⟩
def wp_X8_undo  (S : Sto) (Q : Int32 → Sto → Prop) : Prop := ((¬ (S.1 0 2) = 0 → wp_X4_copyFrom 1 18 S (fun S_2 => Q (S_2.1 1 5) S_2)) ∧ ((S.1 0 2) = 0 → Q ((-3)) S))
set_option maxRecDepth 100000 in
set_option maxHeartbeats 4000000 in
theorem c_X8_undo {g : Gv}   (S : Sto) (Q : Int32 → Sto → Prop) (h : wp_X8_undo  S Q) : CT g yX8_undo cX8_undo 1 (some .int) 3 [.ref (g.1 + 0)] S (Qi Q) := by
  unfold wp_X8_undo at h
  refine CT.of (by decide) (Nat.le_of_ble_eq_true rfl) ?_
  refine J_sub (lv' := [(0, .ref (g.1 + 0))]) [0] rfl ?_
  refine J_aload_n dX8_undo_0 rfl 0 rfl  ?_
  refine J_geti (ci := 6) dX8_undo_1 2 rfl giX8 (by decide) (by decide) rfl rfl tb_2_18 rfl  ?_
  refine J_if_ne (tgt := 10) dX8_undo_4 (by decide) (fun c_1 => ?_) (fun c_1 => ?_)
  · have h := h.1 c_1
    refine J_aload_n dX8_undo_10 rfl 0 rfl  ?_
    refine J_getr (r := 1) (ci := 6) dX8_undo_11 0 rfl giX8 (by decide) (by decide) rfl rfl tb_2_16 (by decide) (by decide)  ?_
    refine J_aload_n dX8_undo_14 rfl 0 rfl  ?_
    refine J_getr (r := 18) (ci := 6) dX8_undo_15 1 rfl giX8 (by decide) (by decide) rfl rfl tb_2_17 (by decide) (by decide)  ?_
    refine J_callV (h := 1) (ci := 2) (As := [.ref (g.1 + 18)]) (rest := []) (n := 1) dX8_undo_18 (c_X4_copyFrom 1 18 (by decide) (by decide) _ _ h) (by decide) rfl tb_4_58 tb_4_55 tb_1_2 tb_4_56 tb_4_57 (by decide) rfl (by decide) (by decide) (Nat.le_of_ble_eq_true rfl) rfl (fun v_r_3 S_2 hq => ?_)
    obtain ⟨rfl, h⟩ := hq
    dsimp only [Option.toList, List.cons_append, List.nil_append]
    refine J_aload_n dX8_undo_21 rfl 0 rfl  ?_
    refine J_getr (r := 1) (ci := 6) dX8_undo_22 0 rfl giX8 (by decide) (by decide) rfl rfl tb_2_16 (by decide) (by decide)  ?_
    refine J_geti (ci := 2) dX8_undo_25 5 rfl giX4 (by decide) (by decide) rfl rfl tb_1_55 rfl  ?_
    exact J_iret dX8_undo_28 rfl rfl ⟨_, rfl, h⟩
  · have h := h.2 c_1
    refine J_bipush (v := (-3)) dX8_undo_7 (by decide)  ?_
    exact J_iret dX8_undo_9 rfl rfl ⟨_, rfl, h⟩
def wp_X8_counted (p1 : Int32) (S : Sto) (Q : Int32 → Sto → Prop) : Prop := ((p1.toInt < 0 ∨ 2 < p1.toInt → Q ((-2)) S) ∧ (p1 = 0 → Q (S.1 1 8) S) ∧ (p1 = 1 → Q (S.1 1 11) S) ∧ (p1 = 2 → Q (S.1 35 1) S))
set_option maxRecDepth 100000 in
set_option maxHeartbeats 4000000 in
theorem c_X8_counted {g : Gv} (p1 : Int32)  (S : Sto) (Q : Int32 → Sto → Prop) (h : wp_X8_counted p1 S Q) : CT g yX8_counted cX8_counted 2 (some .int) 1 [.ref (g.1 + 0), .int p1] S (Qi Q) := by
  unfold wp_X8_counted at h
  refine CT.of (by decide) (Nat.le_of_ble_eq_true rfl) ?_
  refine J_sub (lv' := [(0, .ref (g.1 + 0)), (1, .int p1)]) [0, 1] rfl ?_
  refine J_iload_n dX8_counted_0 rfl 1 rfl  ?_
  by_cases hsw : p1.toInt < 0 ∨ 2 < p1.toInt
  · have h := h.1 hsw
    refine J_tableOut (tgt := 52) dX8_counted_1 hsw (by decide) ?_
    refine J_bipush (v := (-2)) dX8_counted_52 (by decide)  ?_
    exact J_iret dX8_counted_54 rfl rfl ⟨_, rfl, h⟩
  · have h := h.2
    obtain ⟨ksw, hk1, hk2⟩ := sw_in (n := 2) (fun q => hsw (Or.inl q)) (fun q => hsw (Or.inr q))
    by_cases hs0 : ksw = 0
    · have hx : p1 = 0 := by rw [hk2, hs0]; rfl
      have h := h.1 hx
      refine J_tableIn (off := 27) (tgt := 28) dX8_counted_1 (by rw [hx]; decide) (by rw [hx]; decide) (by rw [hx]; decide) (by decide) ?_
      refine J_aload_n dX8_counted_28 rfl 0 rfl  ?_
      refine J_getr (r := 1) (ci := 6) dX8_counted_29 0 rfl giX8 (by decide) (by decide) rfl rfl tb_2_16 (by decide) (by decide)  ?_
      refine J_geti (ci := 2) dX8_counted_32 8 rfl giX4 (by decide) (by decide) rfl rfl tb_1_62 rfl  ?_
      exact J_iret dX8_counted_35 rfl rfl ⟨_, rfl, h⟩
    by_cases hs1 : ksw = 1
    · have hx : p1 = 1 := by rw [hk2, hs1]; rfl
      have h := h.2.1 hx
      refine J_tableIn (off := 35) (tgt := 36) dX8_counted_1 (by rw [hx]; decide) (by rw [hx]; decide) (by rw [hx]; decide) (by decide) ?_
      refine J_aload_n dX8_counted_36 rfl 0 rfl  ?_
      refine J_getr (r := 1) (ci := 6) dX8_counted_37 0 rfl giX8 (by decide) (by decide) rfl rfl tb_2_16 (by decide) (by decide)  ?_
      refine J_geti (ci := 2) dX8_counted_40 11 rfl giX4 (by decide) (by decide) rfl rfl tb_1_68 rfl  ?_
      exact J_iret dX8_counted_43 rfl rfl ⟨_, rfl, h⟩
    by_cases hs2 : ksw = 2
    · have hx : p1 = 2 := by rw [hk2, hs2]; rfl
      have h := h.2.2 hx
      refine J_tableIn (off := 43) (tgt := 44) dX8_counted_1 (by rw [hx]; decide) (by rw [hx]; decide) (by rw [hx]; decide) (by decide) ?_
      refine J_aload_n dX8_counted_44 rfl 0 rfl  ?_
      refine J_getr (r := 35) (ci := 6) dX8_counted_45 3 rfl giX8 (by decide) (by decide) rfl rfl tb_2_19 (by decide) (by decide)  ?_
      refine J_geti (ci := 1) dX8_counted_48 1 rfl giX3 (by decide) (by decide) rfl rfl tb_1_107 rfl  ?_
      exact J_iret dX8_counted_51 rfl rfl ⟨_, rfl, h⟩
    omega
def q_X8_tape_41 (p1 : Int32) (p2 : Int32) (p3 : Int32)  (Q : Int32 → Sto → Prop)  (S : Sto) : Prop := Q ((-2)) S
set_option maxRecDepth 100000 in
set_option maxHeartbeats 4000000 in
theorem l_X8_tape_41 {g : Gv} (p1 : Int32) (p2 : Int32) (p3 : Int32)  (Q : Int32 → Sto → Prop)    (S : Sto)  (h : q_X8_tape_41 p1 p2 p3  Q  S) : RJ g cX8_tape RX8 (some .int) 4 2 41 [(0, .ref (g.1 + 0)), (1, .int p1), (2, .int p2), (3, .int p3)] [] S (Qi Q) := by
  unfold q_X8_tape_41 at h
  refine J_bipush (v := (-2)) dX8_tape_41 (by decide)  ?_
  exact J_iret dX8_tape_43 rfl rfl ⟨_, rfl, h⟩
def wp_X8_tape (p1 : Int32) (p2 : Int32) (p3 : Int32) (S : Sto) (Q : Int32 → Sto → Prop) : Prop := wp_X7_has p1 S (fun r_2 S_1 => ((¬ r_2 = 0 → ((¬ p2 = ((-1)) → wp_X7_isSort p2 S_1 (fun r_6 S_5 => ((r_6 = 0 → q_X8_tape_41 p1 p2 p3  Q  S_5) ∧ (¬ r_6 = 0 → ((p3 ≤ 60 → ((0 ≤ p3 → wp_X7_lay p1 p2 p3 S_5 (fun S_10 => Q 1 S_10)) ∧ (¬ 0 ≤ p3 → Q ((-14)) S_5))) ∧ (¬ p3 ≤ 60 → q_X8_tape_41 p1 p2 p3  Q  S_5)))))) ∧ (p2 = ((-1)) → wp_X7_discard p1 S_1 (fun S_12 => Q 1 S_12)))) ∧ (r_2 = 0 → Q ((-1)) S_1)))
set_option maxRecDepth 100000 in
set_option maxHeartbeats 4000000 in
theorem c_X8_tape {g : Gv} (p1 : Int32) (p2 : Int32) (p3 : Int32)  (S : Sto) (Q : Int32 → Sto → Prop) (h : wp_X8_tape p1 p2 p3 S Q) : CT g yX8_tape cX8_tape 4 (some .int) 2 [.ref (g.1 + 0), .int p1, .int p2, .int p3] S (Qi Q) := by
  unfold wp_X8_tape at h
  refine CT.of (by decide) (Nat.le_of_ble_eq_true rfl) ?_
  refine J_sub (lv' := [(0, .ref (g.1 + 0)), (1, .int p1), (2, .int p2), (3, .int p3)]) [0, 1, 2, 3] rfl ?_
  refine J_aload_n dX8_tape_0 rfl 0 rfl  ?_
  refine J_getr (r := 38) (ci := 6) dX8_tape_1 4 rfl giX8 (by decide) (by decide) rfl rfl tb_2_20 (by decide) (by decide)  ?_
  refine J_iload_n dX8_tape_4 rfl 1 rfl  ?_
  refine J_callV (h := 38) (ci := 5) (As := [.int p1]) (rest := []) (n := 1) dX8_tape_5 (c_X7_has p1  _ _ h) (by decide) rfl tb_4_38 tb_4_35 tb_1_4 tb_4_36 tb_4_37 (by decide) rfl (by decide) (by decide) (Nat.le_of_ble_eq_true rfl) rfl (fun v_r_2 S_1 hq => ?_)
  obtain ⟨r_2, rfl, h⟩ := hq
  dsimp only [Option.toList, List.cons_append, List.nil_append]
  refine J_if_ne (tgt := 13) dX8_tape_8 (by decide) (fun c_3 => ?_) (fun c_3 => ?_)
  · have h := h.1 c_3
    refine J_iload_n dX8_tape_13 rfl 2 rfl  ?_
    refine J_iconst (v := (-1)) dX8_tape_14 (by decide)  ?_
    refine J_icmp_ne (tgt := 28) dX8_tape_15 (by decide) (fun c_4 => ?_) (fun c_4 => ?_)
    · have h := h.1 c_4
      refine J_iload_n dX8_tape_28 rfl 2 rfl  ?_
      refine J_callS (As := [.int p2]) (rest := []) (n := 1) dX8_tape_29 (c_X7_isSort p2  _ _ h) tb_4_77 tb_4_75 tb_1_4 tb_4_76 (by decide) rfl (by decide) (by decide) (Nat.le_of_ble_eq_true rfl) rfl (fun v_r_6 S_5 hq => ?_)
      obtain ⟨r_6, rfl, h⟩ := hq
      dsimp only [Option.toList, List.cons_append, List.nil_append]
      refine J_if_eq (tgt := 41) dX8_tape_32 (by decide) (fun c_7 => ?_) (fun c_7 => ?_)
      · have h := h.1 c_7
        exact l_X8_tape_41 p1 p2 p3  _    _  h
      · have h := h.2 c_7
        refine J_iload_n dX8_tape_35 rfl 3 rfl  ?_
        refine J_bipush (v := 60) dX8_tape_36 (by decide)  ?_
        refine J_icmp_le (tgt := 44) dX8_tape_38 (by decide) (fun c_8 => ?_) (fun c_8 => ?_)
        · have h := h.1 c_8
          refine J_iload_n dX8_tape_44 rfl 3 rfl  ?_
          refine J_if_ge (tgt := 51) dX8_tape_45 (by decide) (fun c_9 => ?_) (fun c_9 => ?_)
          · have h := h.1 c_9
            refine J_aload_n dX8_tape_51 rfl 0 rfl  ?_
            refine J_getr (r := 38) (ci := 6) dX8_tape_52 4 rfl giX8 (by decide) (by decide) rfl rfl tb_2_20 (by decide) (by decide)  ?_
            refine J_iload_n dX8_tape_55 rfl 1 rfl  ?_
            refine J_iload_n dX8_tape_56 rfl 2 rfl  ?_
            refine J_iload_n dX8_tape_57 rfl 3 rfl  ?_
            refine J_callV (h := 38) (ci := 5) (As := [.int p1, .int p2, .int p3]) (rest := []) (n := 3) dX8_tape_58 (c_X7_lay p1 p2 p3  _ _ h) (by decide) rfl tb_4_81 tb_4_78 tb_1_4 tb_4_79 tb_4_80 (by decide) rfl (by decide) (by decide) (Nat.le_of_ble_eq_true rfl) rfl (fun v_r_11 S_10 hq => ?_)
            obtain ⟨rfl, h⟩ := hq
            dsimp only [Option.toList, List.cons_append, List.nil_append]
            refine J_iconst (v := 1) dX8_tape_61 (by decide)  ?_
            exact J_iret dX8_tape_62 rfl rfl ⟨_, rfl, h⟩
          · have h := h.2 c_9
            refine J_bipush (v := (-14)) dX8_tape_48 (by decide)  ?_
            exact J_iret dX8_tape_50 rfl rfl ⟨_, rfl, h⟩
        · have h := h.2 c_8
          exact l_X8_tape_41 p1 p2 p3  _    _  h
    · have h := h.2 c_4
      refine J_aload_n dX8_tape_18 rfl 0 rfl  ?_
      refine J_getr (r := 38) (ci := 6) dX8_tape_19 4 rfl giX8 (by decide) (by decide) rfl rfl tb_2_20 (by decide) (by decide)  ?_
      refine J_iload_n dX8_tape_22 rfl 1 rfl  ?_
      refine J_callV (h := 38) (ci := 5) (As := [.int p1]) (rest := []) (n := 1) dX8_tape_23 (c_X7_discard p1  _ _ h) (by decide) rfl tb_4_74 tb_4_71 tb_1_4 tb_4_72 tb_4_73 (by decide) rfl (by decide) (by decide) (Nat.le_of_ble_eq_true rfl) rfl (fun v_r_13 S_12 hq => ?_)
      obtain ⟨rfl, h⟩ := hq
      dsimp only [Option.toList, List.cons_append, List.nil_append]
      refine J_iconst (v := 1) dX8_tape_26 (by decide)  ?_
      exact J_iret dX8_tape_27 rfl rfl ⟨_, rfl, h⟩
  · have h := h.2 c_3
    refine J_iconst (v := (-1)) dX8_tape_11 (by decide)  ?_
    exact J_iret dX8_tape_12 rfl rfl ⟨_, rfl, h⟩
def wp_X8_item (p1 : Int32) (p2 : Int32) (p3 : Int64) (S : Sto) (Q : Int32 → Sto → Prop) : Prop := wp_X7_has p1 S (fun r_2 S_1 => ((¬ r_2 = 0 → wp_X7_isEmpty p1 S_1 (fun r_5 S_4 => ((r_5 = 0 → wp_X7_hasItem p1 p2 S_4 (fun r_8 S_7 => ((¬ r_8 = 0 → vp_in p1 (6) ∧ vp_in p1 (6) ∧ wp_X7_narrowed p3 (S_7.1 39 (p1 : Int32).toNatClampNeg) S_7 (fun r_13 S_12 => vp_in p2 (ln (41 + 1 + (p1 : Int32).toNatClampNeg)) ∧ ∀ S_15 : Sto, S_15 = uL S_12 (41 + 1 + (p1 : Int32).toNatClampNeg) (p2 : Int32).toNatClampNeg r_13 → Q 1 S_15)) ∧ (r_8 = 0 → Q ((-13)) S_7)))) ∧ (¬ r_5 = 0 → Q ((-11)) S_4)))) ∧ (r_2 = 0 → Q ((-1)) S_1)))
set_option maxRecDepth 100000 in
set_option maxHeartbeats 4000000 in
theorem c_X8_item {g : Gv} (p1 : Int32) (p2 : Int32) (p3 : Int64)  (S : Sto) (Q : Int32 → Sto → Prop) (h : wp_X8_item p1 p2 p3 S Q) : CT g yX8_item cX8_item 5 (some .int) 2 [.ref (g.1 + 0), .int p1, .int p2, .long p3] S (Qi Q) := by
  unfold wp_X8_item at h
  refine CT.of (by decide) (Nat.le_of_ble_eq_true rfl) ?_
  refine J_sub (lv' := [(0, .ref (g.1 + 0)), (1, .int p1), (2, .int p2), (3, .long p3)]) [0, 1, 2, 3] rfl ?_
  refine J_aload_n dX8_item_0 rfl 0 rfl  ?_
  refine J_getr (r := 38) (ci := 6) dX8_item_1 4 rfl giX8 (by decide) (by decide) rfl rfl tb_2_20 (by decide) (by decide)  ?_
  refine J_iload_n dX8_item_4 rfl 1 rfl  ?_
  refine J_callV (h := 38) (ci := 5) (As := [.int p1]) (rest := []) (n := 1) dX8_item_5 (c_X7_has p1  _ _ h) (by decide) rfl tb_4_38 tb_4_35 tb_1_4 tb_4_36 tb_4_37 (by decide) rfl (by decide) (by decide) (Nat.le_of_ble_eq_true rfl) rfl (fun v_r_2 S_1 hq => ?_)
  obtain ⟨r_2, rfl, h⟩ := hq
  dsimp only [Option.toList, List.cons_append, List.nil_append]
  refine J_if_ne (tgt := 13) dX8_item_8 (by decide) (fun c_3 => ?_) (fun c_3 => ?_)
  · have h := h.1 c_3
    refine J_aload_n dX8_item_13 rfl 0 rfl  ?_
    refine J_getr (r := 38) (ci := 6) dX8_item_14 4 rfl giX8 (by decide) (by decide) rfl rfl tb_2_20 (by decide) (by decide)  ?_
    refine J_iload_n dX8_item_17 rfl 1 rfl  ?_
    refine J_callV (h := 38) (ci := 5) (As := [.int p1]) (rest := []) (n := 1) dX8_item_18 (c_X7_isEmpty p1  _ _ h) (by decide) rfl tb_4_42 tb_4_39 tb_1_4 tb_4_40 tb_4_41 (by decide) rfl (by decide) (by decide) (Nat.le_of_ble_eq_true rfl) rfl (fun v_r_5 S_4 hq => ?_)
    obtain ⟨r_5, rfl, h⟩ := hq
    dsimp only [Option.toList, List.cons_append, List.nil_append]
    refine J_if_eq (tgt := 27) dX8_item_21 (by decide) (fun c_6 => ?_) (fun c_6 => ?_)
    · have h := h.1 c_6
      refine J_aload_n dX8_item_27 rfl 0 rfl  ?_
      refine J_getr (r := 38) (ci := 6) dX8_item_28 4 rfl giX8 (by decide) (by decide) rfl rfl tb_2_20 (by decide) (by decide)  ?_
      refine J_iload_n dX8_item_31 rfl 1 rfl  ?_
      refine J_iload_n dX8_item_32 rfl 2 rfl  ?_
      refine J_callV (h := 38) (ci := 5) (As := [.int p1, .int p2]) (rest := []) (n := 2) dX8_item_33 (c_X7_hasItem p1 p2  _ _ h) (by decide) rfl tb_4_50 tb_4_47 tb_1_4 tb_4_48 tb_4_49 (by decide) rfl (by decide) (by decide) (Nat.le_of_ble_eq_true rfl) rfl (fun v_r_8 S_7 hq => ?_)
      obtain ⟨r_8, rfl, h⟩ := hq
      dsimp only [Option.toList, List.cons_append, List.nil_append]
      refine J_if_ne (tgt := 42) dX8_item_36 (by decide) (fun c_9 => ?_) (fun c_9 => ?_)
      · have h := h.1 c_9
        refine J_aload_n dX8_item_42 rfl 0 rfl  ?_
        refine J_getr (r := 38) (ci := 6) dX8_item_43 4 rfl giX8 (by decide) (by decide) rfl rfl tb_2_20 (by decide) (by decide)  ?_
        refine J_getr (r := 41) (ci := 5) dX8_item_46 2 rfl giX7 (by decide) (by decide) rfl rfl tb_1_132 (by decide) (by decide)  ?_
        refine J_iload_n dX8_item_49 rfl 1 rfl  ?_
        obtain ⟨hi_10, h⟩ := h
        refine J_aald4 dX8_item_50 (by decide) hi_10  ?_
        refine J_iload_n dX8_item_51 rfl 2 rfl  ?_
        refine J_lload_n dX8_item_52 rfl 3 rfl  ?_
        refine J_aload_n dX8_item_53 rfl 0 rfl  ?_
        refine J_getr (r := 38) (ci := 6) dX8_item_54 4 rfl giX8 (by decide) (by decide) rfl rfl tb_2_20 (by decide) (by decide)  ?_
        refine J_getr (r := 39) (ci := 5) dX8_item_57 0 rfl giX7 (by decide) (by decide) rfl rfl tb_1_128 (by decide) (by decide)  ?_
        refine J_iload_n dX8_item_60 rfl 1 rfl  ?_
        obtain ⟨hi_11, h⟩ := h
        refine J_iald dX8_item_61 (by decide) hi_11  ?_
        refine J_callS (As := [.long p3, .int (S_7.1 39 (p1 : Int32).toNatClampNeg)]) (rest := [.int p2, .ref (g.1 + (41 + 1 + (p1 : Int32).toNatClampNeg))]) (n := 2) dX8_item_62 (c_X7_narrowed p3 (S_7.1 39 (p1 : Int32).toNatClampNeg)  _ _ h) tb_4_88 tb_4_86 tb_1_4 tb_4_87 (by decide) rfl (by decide) (by decide) (Nat.le_of_ble_eq_true rfl) rfl (fun v_r_13 S_12 hq => ?_)
        obtain ⟨r_13, rfl, h⟩ := hq
        dsimp only [Option.toList, List.cons_append, List.nil_append]
        obtain ⟨hi_14, h⟩ := h
        refine J_last dX8_item_65 (kd_row4 (by decide) hi_10) hi_14  ?_
        refine J_nmS (fun S_15 eS_15 => ?_)
        have h := h S_15 eS_15
        refine J_iconst (v := 1) dX8_item_66 (by decide)  ?_
        exact J_iret dX8_item_67 rfl rfl ⟨_, rfl, h⟩
      · have h := h.2 c_9
        refine J_bipush (v := (-13)) dX8_item_39 (by decide)  ?_
        exact J_iret dX8_item_41 rfl rfl ⟨_, rfl, h⟩
    · have h := h.2 c_6
      refine J_bipush (v := (-11)) dX8_item_24 (by decide)  ?_
      exact J_iret dX8_item_26 rfl rfl ⟨_, rfl, h⟩
  · have h := h.2 c_3
    refine J_iconst (v := (-1)) dX8_item_11 (by decide)  ?_
    exact J_iret dX8_item_12 rfl rfl ⟨_, rfl, h⟩
def q_X8_peek_40 (p1 : Int32) (p2 : Int32)  (Q : Int64 → Sto → Prop) (t0 : Int64) (S : Sto) : Prop := Q t0 S
set_option maxRecDepth 100000 in
set_option maxHeartbeats 4000000 in
theorem l_X8_peek_40 {g : Gv} (p1 : Int32) (p2 : Int32)  (Q : Int64 → Sto → Prop)   (t0 : Int64) (S : Sto)  (h : q_X8_peek_40 p1 p2  Q t0 S) : RJ g cX8_peek RX8 (some .long) 3 2 40 [(0, .ref (g.1 + 0)), (1, .int p1), (2, .int p2)] [.long t0] S (Ql Q) := by
  unfold q_X8_peek_40 at h
  exact J_lret dX8_peek_40 rfl ⟨_, rfl, h⟩
def q_X8_peek_37 (p1 : Int32) (p2 : Int32)  (Q : Int64 → Sto → Prop)  (S : Sto) : Prop := q_X8_peek_40 p1 p2  Q ((-9223372036854775808)) S
set_option maxRecDepth 100000 in
set_option maxHeartbeats 4000000 in
theorem l_X8_peek_37 {g : Gv} (p1 : Int32) (p2 : Int32)  (Q : Int64 → Sto → Prop)    (S : Sto)  (h : q_X8_peek_37 p1 p2  Q  S) : RJ g cX8_peek RX8 (some .long) 3 2 37 [(0, .ref (g.1 + 0)), (1, .int p1), (2, .int p2)] [] S (Ql Q) := by
  unfold q_X8_peek_37 at h
  refine J_ldc2 (v := (-9223372036854775808)) dX8_peek_37 tb_3_124  ?_
  exact l_X8_peek_40 p1 p2  _   _ _  h
def wp_X8_peek (p1 : Int32) (p2 : Int32) (S : Sto) (Q : Int64 → Sto → Prop) : Prop := wp_X7_has p1 S (fun r_2 S_1 => ((r_2 = 0 → q_X8_peek_37 p1 p2  Q  S_1) ∧ (¬ r_2 = 0 → wp_X7_hasItem p1 p2 S_1 (fun r_5 S_4 => ((r_5 = 0 → q_X8_peek_37 p1 p2  Q  S_4) ∧ (¬ r_5 = 0 → vp_in p1 (6) ∧ vp_in p2 (ln (41 + 1 + (p1 : Int32).toNatClampNeg)) ∧ q_X8_peek_40 p1 p2  Q (S_4.2 (41 + 1 + (p1 : Int32).toNatClampNeg) (p2 : Int32).toNatClampNeg) S_4))))))
set_option maxRecDepth 100000 in
set_option maxHeartbeats 4000000 in
theorem c_X8_peek {g : Gv} (p1 : Int32) (p2 : Int32)  (S : Sto) (Q : Int64 → Sto → Prop) (h : wp_X8_peek p1 p2 S Q) : CT g yX8_peek cX8_peek 3 (some .long) 2 [.ref (g.1 + 0), .int p1, .int p2] S (Ql Q) := by
  unfold wp_X8_peek at h
  refine CT.of (by decide) (Nat.le_of_ble_eq_true rfl) ?_
  refine J_sub (lv' := [(0, .ref (g.1 + 0)), (1, .int p1), (2, .int p2)]) [0, 1, 2] rfl ?_
  refine J_aload_n dX8_peek_0 rfl 0 rfl  ?_
  refine J_getr (r := 38) (ci := 6) dX8_peek_1 4 rfl giX8 (by decide) (by decide) rfl rfl tb_2_20 (by decide) (by decide)  ?_
  refine J_iload_n dX8_peek_4 rfl 1 rfl  ?_
  refine J_callV (h := 38) (ci := 5) (As := [.int p1]) (rest := []) (n := 1) dX8_peek_5 (c_X7_has p1  _ _ h) (by decide) rfl tb_4_38 tb_4_35 tb_1_4 tb_4_36 tb_4_37 (by decide) rfl (by decide) (by decide) (Nat.le_of_ble_eq_true rfl) rfl (fun v_r_2 S_1 hq => ?_)
  obtain ⟨r_2, rfl, h⟩ := hq
  dsimp only [Option.toList, List.cons_append, List.nil_append]
  refine J_if_eq (tgt := 37) dX8_peek_8 (by decide) (fun c_3 => ?_) (fun c_3 => ?_)
  · have h := h.1 c_3
    exact l_X8_peek_37 p1 p2  _    _  h
  · have h := h.2 c_3
    refine J_aload_n dX8_peek_11 rfl 0 rfl  ?_
    refine J_getr (r := 38) (ci := 6) dX8_peek_12 4 rfl giX8 (by decide) (by decide) rfl rfl tb_2_20 (by decide) (by decide)  ?_
    refine J_iload_n dX8_peek_15 rfl 1 rfl  ?_
    refine J_iload_n dX8_peek_16 rfl 2 rfl  ?_
    refine J_callV (h := 38) (ci := 5) (As := [.int p1, .int p2]) (rest := []) (n := 2) dX8_peek_17 (c_X7_hasItem p1 p2  _ _ h) (by decide) rfl tb_4_50 tb_4_47 tb_1_4 tb_4_48 tb_4_49 (by decide) rfl (by decide) (by decide) (Nat.le_of_ble_eq_true rfl) rfl (fun v_r_5 S_4 hq => ?_)
    obtain ⟨r_5, rfl, h⟩ := hq
    dsimp only [Option.toList, List.cons_append, List.nil_append]
    refine J_if_eq (tgt := 37) dX8_peek_20 (by decide) (fun c_6 => ?_) (fun c_6 => ?_)
    · have h := h.1 c_6
      exact l_X8_peek_37 p1 p2  _    _  h
    · have h := h.2 c_6
      refine J_aload_n dX8_peek_23 rfl 0 rfl  ?_
      refine J_getr (r := 38) (ci := 6) dX8_peek_24 4 rfl giX8 (by decide) (by decide) rfl rfl tb_2_20 (by decide) (by decide)  ?_
      refine J_getr (r := 41) (ci := 5) dX8_peek_27 2 rfl giX7 (by decide) (by decide) rfl rfl tb_1_132 (by decide) (by decide)  ?_
      refine J_iload_n dX8_peek_30 rfl 1 rfl  ?_
      obtain ⟨hi_7, h⟩ := h
      refine J_aald4 dX8_peek_31 (by decide) hi_7  ?_
      refine J_iload_n dX8_peek_32 rfl 2 rfl  ?_
      obtain ⟨hi_8, h⟩ := h
      refine J_lald dX8_peek_33 (kd_row4 (by decide) hi_7) hi_8  ?_
      refine J_goto (tgt := 40) dX8_peek_34 (by decide)  ?_
      exact l_X8_peek_40 p1 p2  _   _ _  h
def q_X8_shift_22 (p1 : Int32) (p2 : Int32) (p3 : Int32) (p4 : Int32) (p5 : Int32)  (Q : Int32 → Sto → Prop)  (S : Sto) : Prop := Q ((-1)) S
set_option maxRecDepth 100000 in
set_option maxHeartbeats 4000000 in
theorem l_X8_shift_22 {g : Gv} (p1 : Int32) (p2 : Int32) (p3 : Int32) (p4 : Int32) (p5 : Int32)  (Q : Int32 → Sto → Prop)    (S : Sto)  (h : q_X8_shift_22 p1 p2 p3 p4 p5  Q  S) : RJ g cX8_shift RX8 (some .int) 6 2 22 [(0, .ref (g.1 + 0)), (1, .int p1), (2, .int p2), (3, .int p3), (4, .int p4), (5, .int p5)] [] S (Qi Q) := by
  unfold q_X8_shift_22 at h
  refine J_iconst (v := (-1)) dX8_shift_22 (by decide)  ?_
  exact J_iret dX8_shift_23 rfl rfl ⟨_, rfl, h⟩
def q_X8_shift_46 (p1 : Int32) (p2 : Int32) (p3 : Int32) (p4 : Int32) (p5 : Int32)  (Q : Int32 → Sto → Prop)  (S : Sto) : Prop := Q ((-11)) S
set_option maxRecDepth 100000 in
set_option maxHeartbeats 4000000 in
theorem l_X8_shift_46 {g : Gv} (p1 : Int32) (p2 : Int32) (p3 : Int32) (p4 : Int32) (p5 : Int32)  (Q : Int32 → Sto → Prop)    (S : Sto)  (h : q_X8_shift_46 p1 p2 p3 p4 p5  Q  S) : RJ g cX8_shift RX8 (some .int) 6 2 46 [(0, .ref (g.1 + 0)), (1, .int p1), (2, .int p2), (3, .int p3), (4, .int p4), (5, .int p5)] [] S (Qi Q) := by
  unfold q_X8_shift_46 at h
  refine J_bipush (v := (-11)) dX8_shift_46 (by decide)  ?_
  exact J_iret dX8_shift_48 rfl rfl ⟨_, rfl, h⟩
def q_X8_shift_102 (p1 : Int32) (p2 : Int32) (p3 : Int32) (p4 : Int32) (p5 : Int32)  (Q : Int32 → Sto → Prop)  (S : Sto) : Prop := Q ((-13)) S
set_option maxRecDepth 100000 in
set_option maxHeartbeats 4000000 in
theorem l_X8_shift_102 {g : Gv} (p1 : Int32) (p2 : Int32) (p3 : Int32) (p4 : Int32) (p5 : Int32)  (Q : Int32 → Sto → Prop)    (S : Sto)  (h : q_X8_shift_102 p1 p2 p3 p4 p5  Q  S) : RJ g cX8_shift RX8 (some .int) 6 2 102 [(0, .ref (g.1 + 0)), (1, .int p1), (2, .int p2), (3, .int p3), (4, .int p4), (5, .int p5)] [] S (Qi Q) := by
  unfold q_X8_shift_102 at h
  refine J_bipush (v := (-13)) dX8_shift_102 (by decide)  ?_
  exact J_iret dX8_shift_104 rfl rfl ⟨_, rfl, h⟩
def wp_X8_shift (p1 : Int32) (p2 : Int32) (p3 : Int32) (p4 : Int32) (p5 : Int32) (S : Sto) (Q : Int32 → Sto → Prop) : Prop := wp_X7_has p1 S (fun r_2 S_1 => ((r_2 = 0 → q_X8_shift_22 p1 p2 p3 p4 p5  Q  S_1) ∧ (¬ r_2 = 0 → wp_X7_has p3 S_1 (fun r_5 S_4 => ((¬ r_5 = 0 → wp_X7_isEmpty p1 S_4 (fun r_8 S_7 => ((¬ r_8 = 0 → q_X8_shift_46 p1 p2 p3 p4 p5  Q  S_7) ∧ (r_8 = 0 → wp_X7_isEmpty p3 S_7 (fun r_11 S_10 => ((r_11 = 0 → vp_in p1 (6) ∧ vp_in p3 (6) ∧ (((S_10.1 39 (p1 : Int32).toNatClampNeg) = (S_10.1 39 (p3 : Int32).toNatClampNeg) → wp_X7_hasStretch p1 p2 p5 S_10 (fun r_17 S_16 => ((r_17 = 0 → q_X8_shift_102 p1 p2 p3 p4 p5  Q  S_16) ∧ (¬ r_17 = 0 → wp_X7_hasStretch p3 p4 p5 S_16 (fun r_20 S_19 => ((¬ r_20 = 0 → vp_in p1 (6) ∧ vp_in p3 (6) ∧ (¬ p2 < 0 ∧ ¬ p4 < 0 ∧ ¬ p5 < 0 ∧ (p2 : Int32).toNatClampNeg + (p5 : Int32).toNatClampNeg ≤ ln (41 + 1 + (p1 : Int32).toNatClampNeg) ∧ (p4 : Int32).toNatClampNeg + (p5 : Int32).toNatClampNeg ≤ ln (41 + 1 + (p3 : Int32).toNatClampNeg)) ∧ ∀ S_25 : Sto, S_25 = uC S_19 (41 + 1 + (p1 : Int32).toNatClampNeg) (p2 : Int32).toNatClampNeg (41 + 1 + (p3 : Int32).toNatClampNeg) (p4 : Int32).toNatClampNeg (p5 : Int32).toNatClampNeg → Q p5 S_25) ∧ (r_20 = 0 → q_X8_shift_102 p1 p2 p3 p4 p5  Q  S_19))))))) ∧ (¬ (S_10.1 39 (p1 : Int32).toNatClampNeg) = (S_10.1 39 (p3 : Int32).toNatClampNeg) → Q ((-12)) S_10))) ∧ (¬ r_11 = 0 → q_X8_shift_46 p1 p2 p3 p4 p5  Q  S_10))))))) ∧ (r_5 = 0 → q_X8_shift_22 p1 p2 p3 p4 p5  Q  S_4))))))
set_option maxRecDepth 100000 in
set_option maxHeartbeats 4000000 in
theorem c_X8_shift {g : Gv} (p1 : Int32) (p2 : Int32) (p3 : Int32) (p4 : Int32) (p5 : Int32)  (S : Sto) (Q : Int32 → Sto → Prop) (h : wp_X8_shift p1 p2 p3 p4 p5 S Q) : CT g yX8_shift cX8_shift 6 (some .int) 2 [.ref (g.1 + 0), .int p1, .int p2, .int p3, .int p4, .int p5] S (Qi Q) := by
  unfold wp_X8_shift at h
  refine CT.of (by decide) (Nat.le_of_ble_eq_true rfl) ?_
  refine J_sub (lv' := [(0, .ref (g.1 + 0)), (1, .int p1), (2, .int p2), (3, .int p3), (4, .int p4), (5, .int p5)]) [0, 1, 2, 3, 4, 5] rfl ?_
  refine J_aload_n dX8_shift_0 rfl 0 rfl  ?_
  refine J_getr (r := 38) (ci := 6) dX8_shift_1 4 rfl giX8 (by decide) (by decide) rfl rfl tb_2_20 (by decide) (by decide)  ?_
  refine J_iload_n dX8_shift_4 rfl 1 rfl  ?_
  refine J_callV (h := 38) (ci := 5) (As := [.int p1]) (rest := []) (n := 1) dX8_shift_5 (c_X7_has p1  _ _ h) (by decide) rfl tb_4_38 tb_4_35 tb_1_4 tb_4_36 tb_4_37 (by decide) rfl (by decide) (by decide) (Nat.le_of_ble_eq_true rfl) rfl (fun v_r_2 S_1 hq => ?_)
  obtain ⟨r_2, rfl, h⟩ := hq
  dsimp only [Option.toList, List.cons_append, List.nil_append]
  refine J_if_eq (tgt := 22) dX8_shift_8 (by decide) (fun c_3 => ?_) (fun c_3 => ?_)
  · have h := h.1 c_3
    exact l_X8_shift_22 p1 p2 p3 p4 p5  _    _  h
  · have h := h.2 c_3
    refine J_aload_n dX8_shift_11 rfl 0 rfl  ?_
    refine J_getr (r := 38) (ci := 6) dX8_shift_12 4 rfl giX8 (by decide) (by decide) rfl rfl tb_2_20 (by decide) (by decide)  ?_
    refine J_iload_n dX8_shift_15 rfl 3 rfl  ?_
    refine J_callV (h := 38) (ci := 5) (As := [.int p3]) (rest := []) (n := 1) dX8_shift_16 (c_X7_has p3  _ _ h) (by decide) rfl tb_4_38 tb_4_35 tb_1_4 tb_4_36 tb_4_37 (by decide) rfl (by decide) (by decide) (Nat.le_of_ble_eq_true rfl) rfl (fun v_r_5 S_4 hq => ?_)
    obtain ⟨r_5, rfl, h⟩ := hq
    dsimp only [Option.toList, List.cons_append, List.nil_append]
    refine J_if_ne (tgt := 24) dX8_shift_19 (by decide) (fun c_6 => ?_) (fun c_6 => ?_)
    · have h := h.1 c_6
      refine J_aload_n dX8_shift_24 rfl 0 rfl  ?_
      refine J_getr (r := 38) (ci := 6) dX8_shift_25 4 rfl giX8 (by decide) (by decide) rfl rfl tb_2_20 (by decide) (by decide)  ?_
      refine J_iload_n dX8_shift_28 rfl 1 rfl  ?_
      refine J_callV (h := 38) (ci := 5) (As := [.int p1]) (rest := []) (n := 1) dX8_shift_29 (c_X7_isEmpty p1  _ _ h) (by decide) rfl tb_4_42 tb_4_39 tb_1_4 tb_4_40 tb_4_41 (by decide) rfl (by decide) (by decide) (Nat.le_of_ble_eq_true rfl) rfl (fun v_r_8 S_7 hq => ?_)
      obtain ⟨r_8, rfl, h⟩ := hq
      dsimp only [Option.toList, List.cons_append, List.nil_append]
      refine J_if_ne (tgt := 46) dX8_shift_32 (by decide) (fun c_9 => ?_) (fun c_9 => ?_)
      · have h := h.1 c_9
        exact l_X8_shift_46 p1 p2 p3 p4 p5  _    _  h
      · have h := h.2 c_9
        refine J_aload_n dX8_shift_35 rfl 0 rfl  ?_
        refine J_getr (r := 38) (ci := 6) dX8_shift_36 4 rfl giX8 (by decide) (by decide) rfl rfl tb_2_20 (by decide) (by decide)  ?_
        refine J_iload_n dX8_shift_39 rfl 3 rfl  ?_
        refine J_callV (h := 38) (ci := 5) (As := [.int p3]) (rest := []) (n := 1) dX8_shift_40 (c_X7_isEmpty p3  _ _ h) (by decide) rfl tb_4_42 tb_4_39 tb_1_4 tb_4_40 tb_4_41 (by decide) rfl (by decide) (by decide) (Nat.le_of_ble_eq_true rfl) rfl (fun v_r_11 S_10 hq => ?_)
        obtain ⟨r_11, rfl, h⟩ := hq
        dsimp only [Option.toList, List.cons_append, List.nil_append]
        refine J_if_eq (tgt := 49) dX8_shift_43 (by decide) (fun c_12 => ?_) (fun c_12 => ?_)
        · have h := h.1 c_12
          refine J_aload_n dX8_shift_49 rfl 0 rfl  ?_
          refine J_getr (r := 38) (ci := 6) dX8_shift_50 4 rfl giX8 (by decide) (by decide) rfl rfl tb_2_20 (by decide) (by decide)  ?_
          refine J_getr (r := 39) (ci := 5) dX8_shift_53 0 rfl giX7 (by decide) (by decide) rfl rfl tb_1_128 (by decide) (by decide)  ?_
          refine J_iload_n dX8_shift_56 rfl 1 rfl  ?_
          obtain ⟨hi_13, h⟩ := h
          refine J_iald dX8_shift_57 (by decide) hi_13  ?_
          refine J_aload_n dX8_shift_58 rfl 0 rfl  ?_
          refine J_getr (r := 38) (ci := 6) dX8_shift_59 4 rfl giX8 (by decide) (by decide) rfl rfl tb_2_20 (by decide) (by decide)  ?_
          refine J_getr (r := 39) (ci := 5) dX8_shift_62 0 rfl giX7 (by decide) (by decide) rfl rfl tb_1_128 (by decide) (by decide)  ?_
          refine J_iload_n dX8_shift_65 rfl 3 rfl  ?_
          obtain ⟨hi_14, h⟩ := h
          refine J_iald dX8_shift_66 (by decide) hi_14  ?_
          refine J_icmp_eq (tgt := 73) dX8_shift_67 (by decide) (fun c_15 => ?_) (fun c_15 => ?_)
          · have h := h.1 c_15
            refine J_aload_n dX8_shift_73 rfl 0 rfl  ?_
            refine J_getr (r := 38) (ci := 6) dX8_shift_74 4 rfl giX8 (by decide) (by decide) rfl rfl tb_2_20 (by decide) (by decide)  ?_
            refine J_iload_n dX8_shift_77 rfl 1 rfl  ?_
            refine J_iload_n dX8_shift_78 rfl 2 rfl  ?_
            refine J_iload dX8_shift_79 5 rfl  ?_
            refine J_callV (h := 38) (ci := 5) (As := [.int p1, .int p2, .int p5]) (rest := []) (n := 3) dX8_shift_81 (c_X7_hasStretch p1 p2 p5  _ _ h) (by decide) rfl tb_4_100 tb_4_97 tb_1_4 tb_4_98 tb_4_99 (by decide) rfl (by decide) (by decide) (Nat.le_of_ble_eq_true rfl) rfl (fun v_r_17 S_16 hq => ?_)
            obtain ⟨r_17, rfl, h⟩ := hq
            dsimp only [Option.toList, List.cons_append, List.nil_append]
            refine J_if_eq (tgt := 102) dX8_shift_84 (by decide) (fun c_18 => ?_) (fun c_18 => ?_)
            · have h := h.1 c_18
              exact l_X8_shift_102 p1 p2 p3 p4 p5  _    _  h
            · have h := h.2 c_18
              refine J_aload_n dX8_shift_87 rfl 0 rfl  ?_
              refine J_getr (r := 38) (ci := 6) dX8_shift_88 4 rfl giX8 (by decide) (by decide) rfl rfl tb_2_20 (by decide) (by decide)  ?_
              refine J_iload_n dX8_shift_91 rfl 3 rfl  ?_
              refine J_iload dX8_shift_92 4 rfl  ?_
              refine J_iload dX8_shift_94 5 rfl  ?_
              refine J_callV (h := 38) (ci := 5) (As := [.int p3, .int p4, .int p5]) (rest := []) (n := 3) dX8_shift_96 (c_X7_hasStretch p3 p4 p5  _ _ h) (by decide) rfl tb_4_100 tb_4_97 tb_1_4 tb_4_98 tb_4_99 (by decide) rfl (by decide) (by decide) (Nat.le_of_ble_eq_true rfl) rfl (fun v_r_20 S_19 hq => ?_)
              obtain ⟨r_20, rfl, h⟩ := hq
              dsimp only [Option.toList, List.cons_append, List.nil_append]
              refine J_if_ne (tgt := 105) dX8_shift_99 (by decide) (fun c_21 => ?_) (fun c_21 => ?_)
              · have h := h.1 c_21
                refine J_aload_n dX8_shift_105 rfl 0 rfl  ?_
                refine J_getr (r := 38) (ci := 6) dX8_shift_106 4 rfl giX8 (by decide) (by decide) rfl rfl tb_2_20 (by decide) (by decide)  ?_
                refine J_getr (r := 41) (ci := 5) dX8_shift_109 2 rfl giX7 (by decide) (by decide) rfl rfl tb_1_132 (by decide) (by decide)  ?_
                refine J_iload_n dX8_shift_112 rfl 1 rfl  ?_
                obtain ⟨hi_22, h⟩ := h
                refine J_aald4 dX8_shift_113 (by decide) hi_22  ?_
                refine J_iload_n dX8_shift_114 rfl 2 rfl  ?_
                refine J_aload_n dX8_shift_115 rfl 0 rfl  ?_
                refine J_getr (r := 38) (ci := 6) dX8_shift_116 4 rfl giX8 (by decide) (by decide) rfl rfl tb_2_20 (by decide) (by decide)  ?_
                refine J_getr (r := 41) (ci := 5) dX8_shift_119 2 rfl giX7 (by decide) (by decide) rfl rfl tb_1_132 (by decide) (by decide)  ?_
                refine J_iload_n dX8_shift_122 rfl 3 rfl  ?_
                obtain ⟨hi_23, h⟩ := h
                refine J_aald4 dX8_shift_123 (by decide) hi_23  ?_
                refine J_iload dX8_shift_124 4 rfl  ?_
                refine J_iload dX8_shift_126 5 rfl  ?_
                obtain ⟨hy_24, h⟩ := h
                refine J_copyl dX8_shift_128 tb_4_101 tb_4_103 tb_4_102 tb_1_15 (kd_row4 (by decide) hi_22) (kd_row4 (by decide) hi_23) hy_24 (by decide) rfl ?_
                refine J_nmS (fun S_25 eS_25 => ?_)
                have h := h S_25 eS_25
                refine J_iload dX8_shift_131 5 rfl  ?_
                exact J_iret dX8_shift_133 rfl rfl ⟨_, rfl, h⟩
              · have h := h.2 c_21
                exact l_X8_shift_102 p1 p2 p3 p4 p5  _    _  h
          · have h := h.2 c_15
            refine J_bipush (v := (-12)) dX8_shift_70 (by decide)  ?_
            exact J_iret dX8_shift_72 rfl rfl ⟨_, rfl, h⟩
        · have h := h.2 c_12
          exact l_X8_shift_46 p1 p2 p3 p4 p5  _    _  h
    · have h := h.2 c_6
      exact l_X8_shift_22 p1 p2 p3 p4 p5  _    _  h
