def q_X3_addTerm_118 (p1 : Int32)  (Q : Int32 → Sto → Prop) (x5 : Int32) (x6 : Int32) (x7 : Int32) (S : Sto) : Prop := vp_in x6 (16) ∧ wp_X2_modulo ((S.1 37 (x6 : Int32).toNatClampNeg) + x5) (S.1 1 1) S (fun r_3 S_2 => vp_in x6 (16) ∧ ∀ S_5 : Sto, S_5 = uA S_2 37 (x6 : Int32).toNatClampNeg r_3 → narrow .boolean (.int x7) = .int x7 ∧ Q x7 S_5)
set_option maxRecDepth 100000 in
set_option maxHeartbeats 4000000 in
theorem l_X3_addTerm_118 {g : Gv} (p1 : Int32)  (Q : Int32 → Sto → Prop)   (x5 : Int32) (x6 : Int32) (x7 : Int32) (S : Sto)  (h : q_X3_addTerm_118 p1  Q x5 x6 x7 S) : RJ g cX3_addTerm RX3 (some .boolean) 10 3 118 [(0, .ref (g.1 + 35)), (1, .int p1), (2, .ref (g.1 + 1)), (5, .int x5), (6, .int x6), (7, .int x7)] [] S (Qi Q) := by
  unfold q_X3_addTerm_118 at h
  refine J_aload_n dX3_addTerm_118 rfl 0 rfl  ?_
  refine J_getr (r := 37) (ci := 1) dX3_addTerm_119 3 rfl giX3 (by decide) (by decide) rfl rfl tb_1_109 (by decide) (by decide)  ?_
  refine J_iload dX3_addTerm_122 4 rfl  ?_
  refine J_aload_n dX3_addTerm_124 rfl 0 rfl  ?_
  refine J_getr (r := 37) (ci := 1) dX3_addTerm_125 3 rfl giX3 (by decide) (by decide) rfl rfl tb_1_109 (by decide) (by decide)  ?_
  refine J_iload dX3_addTerm_128 4 rfl  ?_
  obtain ⟨hi_1, h⟩ := h
  refine J_iald dX3_addTerm_130 (by decide) hi_1  ?_
  refine J_iload dX3_addTerm_131 3 rfl  ?_
  refine J_iadd dX3_addTerm_133  ?_
  refine J_aload_n dX3_addTerm_134 rfl 2 rfl  ?_
  refine J_geti (ci := 2) dX3_addTerm_135 1 rfl giX4 (by decide) (by decide) rfl rfl tb_1_41 rfl  ?_
  refine J_callS (As := [.int ((S.1 37 (x6 : Int32).toNatClampNeg) + x5), .int (S.1 1 1)]) (rest := [.int x6, .ref (g.1 + 37)]) (n := 2) dX3_addTerm_138 (c_X2_modulo ((S.1 37 (x6 : Int32).toNatClampNeg) + x5) (S.1 1 1)  _ _ h) tb_2_94 tb_3_37 tb_1_9 tb_2_93 (by decide) rfl (by decide) (by decide) (Nat.le_of_ble_eq_true rfl) rfl (fun v_r_3 S_2 hq => ?_)
  obtain ⟨r_3, rfl, h⟩ := hq
  dsimp only [Option.toList, List.cons_append, List.nil_append]
  obtain ⟨hi_4, h⟩ := h
  refine J_iast dX3_addTerm_141 (by decide) hi_4  ?_
  refine J_nmS (fun S_5 eS_5 => ?_)
  have h := h S_5 eS_5
  refine J_iload dX3_addTerm_142 5 rfl  ?_
  obtain ⟨hb, h⟩ := h
  exact J_iret dX3_addTerm_144 rfl hb ⟨_, rfl, h⟩
def q_X3_addTerm_87 (p1 : Int32) (R48 : Int32 → Int32 → Int32 → Int32 → Sto → Prop) (Q : Int32 → Sto → Prop) (x5 : Int32) (x6 : Int32) (x8 : Int32) (x9 : Int32) (t0 : Int32) (S : Sto) : Prop := wp_X2_sign x6 (1 <<< (x9 &&& 31)) S (fun r_2 S_1 => ∀ x5_3 : Int32, x5_3 = x5 * r_2 → ∀ x6_4 : Int32, x6_4 = x6 ||| (1 <<< (x9 &&& 31)) → ∀ x8_5 : Int32, x8_5 = x8 + 1 → R48 x5_3 x6_4 t0 x8_5 S_1)
set_option maxRecDepth 100000 in
set_option maxHeartbeats 4000000 in
theorem l_X3_addTerm_87 {g : Gv} (p1 : Int32) (R48 : Int32 → Int32 → Int32 → Int32 → Sto → Prop) (Q : Int32 → Sto → Prop) (hR48 : ∀ (y5 : Int32) (y6 : Int32) (y7 : Int32) (y8 : Int32) (S : Sto), R48 y5 y6 y7 y8 S → RJ g cX3_addTerm RX3 (some .boolean) 10 3 48 [(0, .ref (g.1 + 35)), (1, .int p1), (2, .ref (g.1 + 1)), (5, .int y5), (6, .int y6), (7, .int y7), (8, .int y8)] [] S (Qi Q))  (x5 : Int32) (x6 : Int32) (x8 : Int32) (x9 : Int32) (t0 : Int32) (S : Sto)  (h : q_X3_addTerm_87 p1 R48 Q x5 x6 x8 x9 t0 S) : RJ g cX3_addTerm RX3 (some .boolean) 10 3 87 [(0, .ref (g.1 + 35)), (1, .int p1), (2, .ref (g.1 + 1)), (5, .int x5), (6, .int x6), (8, .int x8), (9, .int x9)] [.int t0] S (Qi Q) := by
  unfold q_X3_addTerm_87 at h
  refine J_istore (lv' := [(0, .ref (g.1 + 35)), (1, .int p1), (2, .ref (g.1 + 1)), (5, .int x5), (6, .int x6), (7, .int t0), (8, .int x8), (9, .int x9)]) dX3_addTerm_87 (by decide) [1, 2, 3, 4, 5, 0, 6, 7] rfl  ?_
  refine J_iload dX3_addTerm_89 3 rfl  ?_
  refine J_iload dX3_addTerm_91 4 rfl  ?_
  refine J_iconst (v := 1) dX3_addTerm_93 (by decide)  ?_
  refine J_iload dX3_addTerm_94 7 rfl  ?_
  refine J_ishl dX3_addTerm_96  ?_
  refine J_callS (As := [.int x6, .int (1 <<< (x9 &&& 31))]) (rest := [.int x5]) (n := 2) dX3_addTerm_97 (c_X2_sign x6 (1 <<< (x9 &&& 31))  _ _ h) tb_2_108 tb_3_36 tb_1_9 tb_2_107 (by decide) rfl (by decide) (by decide) (Nat.le_of_ble_eq_true rfl) rfl (fun v_r_2 S_1 hq => ?_)
  obtain ⟨r_2, rfl, h⟩ := hq
  dsimp only [Option.toList, List.cons_append, List.nil_append]
  refine J_imul dX3_addTerm_100  ?_
  refine J_topi (fun x5_3 ex5_3 => ?_)
  have h := h x5_3 ex5_3
  refine J_istore (lv' := [(0, .ref (g.1 + 35)), (1, .int p1), (2, .ref (g.1 + 1)), (5, .int x5_3), (6, .int x6), (7, .int t0), (8, .int x8), (9, .int x9)]) dX3_addTerm_101 (by decide) [1, 2, 3, 0, 4, 5, 6, 7] rfl  ?_
  refine J_iload dX3_addTerm_103 4 rfl  ?_
  refine J_iconst (v := 1) dX3_addTerm_105 (by decide)  ?_
  refine J_iload dX3_addTerm_106 7 rfl  ?_
  refine J_ishl dX3_addTerm_108  ?_
  refine J_ior dX3_addTerm_109  ?_
  refine J_topi (fun x6_4 ex6_4 => ?_)
  have h := h x6_4 ex6_4
  refine J_istore (lv' := [(0, .ref (g.1 + 35)), (1, .int p1), (2, .ref (g.1 + 1)), (5, .int x5_3), (6, .int x6_4), (7, .int t0), (8, .int x8)]) dX3_addTerm_110 (by decide) [1, 2, 3, 4, 0, 5, 6] rfl  ?_
  obtain ⟨x8_5, ex8_5⟩ : ∃ y : Int32, y = x8 + 1 := ⟨_, rfl⟩
  have h := h x8_5 ex8_5
  refine J_iinc (v := x8_5) (lv' := [(0, .ref (g.1 + 35)), (1, .int p1), (2, .ref (g.1 + 1)), (5, .int x5_3), (6, .int x6_4), (7, .int t0), (8, .int x8_5)]) dX3_addTerm_112 (q := 6) rfl (by rw [ex8_5]; rfl) (by decide) [1, 2, 3, 4, 5, 6, 0] rfl  ?_
  refine J_goto (tgt := 48) dX3_addTerm_115 (by decide)  ?_
  exact hR48 _ _ _ _ _  h
def q_X3_addTerm_86 (p1 : Int32) (R48 : Int32 → Int32 → Int32 → Int32 → Sto → Prop) (Q : Int32 → Sto → Prop) (x5 : Int32) (x6 : Int32) (x8 : Int32) (x9 : Int32) (S : Sto) : Prop := q_X3_addTerm_87 p1 R48 Q x5 x6 x8 x9 0 S
set_option maxRecDepth 100000 in
set_option maxHeartbeats 4000000 in
theorem l_X3_addTerm_86 {g : Gv} (p1 : Int32) (R48 : Int32 → Int32 → Int32 → Int32 → Sto → Prop) (Q : Int32 → Sto → Prop) (hR48 : ∀ (y5 : Int32) (y6 : Int32) (y7 : Int32) (y8 : Int32) (S : Sto), R48 y5 y6 y7 y8 S → RJ g cX3_addTerm RX3 (some .boolean) 10 3 48 [(0, .ref (g.1 + 35)), (1, .int p1), (2, .ref (g.1 + 1)), (5, .int y5), (6, .int y6), (7, .int y7), (8, .int y8)] [] S (Qi Q))  (x5 : Int32) (x6 : Int32) (x8 : Int32) (x9 : Int32) (S : Sto)  (h : q_X3_addTerm_86 p1 R48 Q x5 x6 x8 x9 S) : RJ g cX3_addTerm RX3 (some .boolean) 10 3 86 [(0, .ref (g.1 + 35)), (1, .int p1), (2, .ref (g.1 + 1)), (5, .int x5), (6, .int x6), (8, .int x8), (9, .int x9)] [] S (Qi Q) := by
  unfold q_X3_addTerm_86 at h
  refine J_iconst (v := 0) dX3_addTerm_86 (by decide)  ?_
  exact l_X3_addTerm_87 p1 _ _ hR48  _ _ _ _ _ _  h
def q_X3_addTerm_48 (p1 : Int32)  (Q : Int32 → Sto → Prop) : Nat → Int32 → Int32 → Int32 → Int32 → Sto → Prop
  | 0, _, _, _, _, _ => False
  | n + 1, x5, x6, x7, x8, S => ((4 ≤ x8 → q_X3_addTerm_118 p1  Q x5 x6 x7 S) ∧ (¬ 4 ≤ x8 → wp_X3_passLetter  S (fun r_3 S_2 => ((0 ≤ r_3 → ((x7 = 0 → q_X3_addTerm_86 p1 (fun y5 y6 y7 y8 S => q_X3_addTerm_48 p1  Q n y5 y6 y7 y8 S) Q x5 x6 x8 r_3 S_2) ∧ (¬ x7 = 0 → (((S_2.1 1 0) ≤ r_3 → q_X3_addTerm_86 p1 (fun y5 y6 y7 y8 S => q_X3_addTerm_48 p1  Q n y5 y6 y7 y8 S) Q x5 x6 x8 r_3 S_2) ∧ (¬ (S_2.1 1 0) ≤ r_3 → q_X3_addTerm_87 p1 (fun y5 y6 y7 y8 S => q_X3_addTerm_48 p1  Q n y5 y6 y7 y8 S) Q x5 x6 x8 r_3 1 S_2))))) ∧ (¬ 0 ≤ r_3 → q_X3_addTerm_118 p1  Q x5 x6 x7 S_2)))))
set_option maxRecDepth 100000 in
set_option maxHeartbeats 4000000 in
theorem l_X3_addTerm_48 {g : Gv} (p1 : Int32)  (Q : Int32 → Sto → Prop)   (n : Nat) : ∀ (x5 : Int32) (x6 : Int32) (x7 : Int32) (x8 : Int32) (S : Sto)  (h : q_X3_addTerm_48 p1  Q n x5 x6 x7 x8 S), RJ g cX3_addTerm RX3 (some .boolean) 10 3 48 [(0, .ref (g.1 + 35)), (1, .int p1), (2, .ref (g.1 + 1)), (5, .int x5), (6, .int x6), (7, .int x7), (8, .int x8)] [] S (Qi Q) := by
  induction n with
  | zero => intro x5 x6 x7 x8 S  h; exact h.elim
  | succ n ih =>
    intro x5 x6 x7 x8 S  h
    unfold q_X3_addTerm_48 at h
    refine J_iload dX3_addTerm_48 6 rfl  ?_
    refine J_iconst (v := 4) dX3_addTerm_50 (by decide)  ?_
    refine J_icmp_ge (tgt := 118) dX3_addTerm_51 (by decide) (fun c_1 => ?_) (fun c_1 => ?_)
    · have h := h.1 c_1
      refine J_sub (lv' := [(0, .ref (g.1 + 35)), (1, .int p1), (2, .ref (g.1 + 1)), (5, .int x5), (6, .int x6), (7, .int x7)]) [0, 1, 2, 3, 4, 5] rfl ?_
      exact l_X3_addTerm_118 p1  _   _ _ _ _  h
    · have h := h.2 c_1
      refine J_aload_n dX3_addTerm_54 rfl 0 rfl  ?_
      refine J_callV (h := 35) (ci := 1) (As := []) (rest := []) (n := 0) dX3_addTerm_55 (c_X3_passLetter   _ _ h) (by decide) rfl tb_3_14 tb_3_11 tb_1_3 tb_3_13 sl_11 (by decide) rfl (by decide) (by decide) (Nat.le_of_ble_eq_true rfl) rfl (fun v_r_3 S_2 hq => ?_)
      obtain ⟨r_3, rfl, h⟩ := hq
      dsimp only [Option.toList, List.cons_append, List.nil_append]
      refine J_istore (lv' := [(0, .ref (g.1 + 35)), (1, .int p1), (2, .ref (g.1 + 1)), (5, .int x5), (6, .int x6), (7, .int x7), (8, .int x8), (9, .int r_3)]) dX3_addTerm_58 (by decide) [1, 2, 3, 4, 5, 6, 7, 0] rfl  ?_
      refine J_iload dX3_addTerm_60 7 rfl  ?_
      refine J_if_ge (tgt := 68) dX3_addTerm_62 (by decide) (fun c_4 => ?_) (fun c_4 => ?_)
      · have h := h.1 c_4
        refine J_iload dX3_addTerm_68 5 rfl  ?_
        refine J_if_eq (tgt := 86) dX3_addTerm_70 (by decide) (fun c_5 => ?_) (fun c_5 => ?_)
        · have h := h.1 c_5
          refine J_sub (lv' := [(0, .ref (g.1 + 35)), (1, .int p1), (2, .ref (g.1 + 1)), (5, .int x5), (6, .int x6), (8, .int x8), (9, .int r_3)]) [0, 1, 2, 3, 4, 6, 7] rfl ?_
          exact l_X3_addTerm_86 p1 _ _ (fun y5 y6 y7 y8 S  h => ih y5 y6 y7 y8 S  h)  _ _ _ _ _  h
        · have h := h.2 c_5
          refine J_iload dX3_addTerm_73 7 rfl  ?_
          refine J_aload_n dX3_addTerm_75 rfl 2 rfl  ?_
          refine J_geti (ci := 2) dX3_addTerm_76 0 rfl giX4 (by decide) (by decide) rfl rfl tb_1_36 rfl  ?_
          refine J_icmp_ge (tgt := 86) dX3_addTerm_79 (by decide) (fun c_6 => ?_) (fun c_6 => ?_)
          · have h := h.1 c_6
            refine J_sub (lv' := [(0, .ref (g.1 + 35)), (1, .int p1), (2, .ref (g.1 + 1)), (5, .int x5), (6, .int x6), (8, .int x8), (9, .int r_3)]) [0, 1, 2, 3, 4, 6, 7] rfl ?_
            exact l_X3_addTerm_86 p1 _ _ (fun y5 y6 y7 y8 S  h => ih y5 y6 y7 y8 S  h)  _ _ _ _ _  h
          · have h := h.2 c_6
            refine J_iconst (v := 1) dX3_addTerm_82 (by decide)  ?_
            refine J_goto (tgt := 87) dX3_addTerm_83 (by decide)  ?_
            refine J_sub (lv' := [(0, .ref (g.1 + 35)), (1, .int p1), (2, .ref (g.1 + 1)), (5, .int x5), (6, .int x6), (8, .int x8), (9, .int r_3)]) [0, 1, 2, 3, 4, 6, 7] rfl ?_
            exact l_X3_addTerm_87 p1 _ _ (fun y5 y6 y7 y8 S  h => ih y5 y6 y7 y8 S  h)  _ _ _ _ _ _  h
      · have h := h.2 c_4
        refine J_goto (tgt := 118) dX3_addTerm_65 (by decide)  ?_
        refine J_sub (lv' := [(0, .ref (g.1 + 35)), (1, .int p1), (2, .ref (g.1 + 1)), (5, .int x5), (6, .int x6), (7, .int x7)]) [0, 1, 2, 3, 4, 5] rfl ?_
        exact l_X3_addTerm_118 p1  _   _ _ _ _  h
def q_X3_addTerm_36 (p1 : Int32)  (Q : Int32 → Sto → Prop) (t0 : Int32) (t1 : Int32) (S : Sto) : Prop := ∀ x5_1 : Int32, x5_1 = t0 * t1 → (∃ n_48, q_X3_addTerm_48 p1  Q n_48 x5_1 0 1 0 S)
set_option maxRecDepth 100000 in
set_option maxHeartbeats 4000000 in
theorem l_X3_addTerm_36 {g : Gv} (p1 : Int32)  (Q : Int32 → Sto → Prop)   (t0 : Int32) (t1 : Int32) (S : Sto)  (h : q_X3_addTerm_36 p1  Q t0 t1 S) : RJ g cX3_addTerm RX3 (some .boolean) 10 3 36 [(0, .ref (g.1 + 35)), (1, .int p1), (2, .ref (g.1 + 1))] [.int t1, .int t0] S (Qi Q) := by
  unfold q_X3_addTerm_36 at h
  refine J_imul dX3_addTerm_36  ?_
  refine J_topi (fun x5_1 ex5_1 => ?_)
  have h := h x5_1 ex5_1
  refine J_istore (lv' := [(0, .ref (g.1 + 35)), (1, .int p1), (2, .ref (g.1 + 1)), (5, .int x5_1)]) dX3_addTerm_37 (by decide) [1, 2, 3, 0] rfl  ?_
  refine J_iconst (v := 0) dX3_addTerm_39 (by decide)  ?_
  refine J_istore (lv' := [(0, .ref (g.1 + 35)), (1, .int p1), (2, .ref (g.1 + 1)), (5, .int x5_1), (6, .int 0)]) dX3_addTerm_40 (by decide) [1, 2, 3, 4, 0] rfl  ?_
  refine J_iconst (v := 1) dX3_addTerm_42 (by decide)  ?_
  refine J_istore (lv' := [(0, .ref (g.1 + 35)), (1, .int p1), (2, .ref (g.1 + 1)), (5, .int x5_1), (6, .int 0), (7, .int 1)]) dX3_addTerm_43 (by decide) [1, 2, 3, 4, 5, 0] rfl  ?_
  refine J_iconst (v := 0) dX3_addTerm_45 (by decide)  ?_
  refine J_istore (lv' := [(0, .ref (g.1 + 35)), (1, .int p1), (2, .ref (g.1 + 1)), (5, .int x5_1), (6, .int 0), (7, .int 1), (8, .int 0)]) dX3_addTerm_46 (by decide) [1, 2, 3, 4, 5, 6, 0] rfl  ?_
  obtain ⟨n, h⟩ := h
  exact l_X3_addTerm_48 p1  _   n _ _ _ _ _  h
def wp_X3_addTerm (p1 : Int32) (S : Sto) (Q : Int32 → Sto → Prop) : Prop := wp_X3_passDigit  S (fun r_2 S_1 => wp_X3_passDigit  S_1 (fun r_4 S_3 => ((0 ≤ r_2 → ((0 ≤ r_4 → q_X3_addTerm_36 p1  Q p1 ((10 * r_2) + r_4) S_3) ∧ (¬ 0 ≤ r_4 → q_X3_addTerm_36 p1  Q p1 r_2 S_3))) ∧ (¬ 0 ≤ r_2 → q_X3_addTerm_36 p1  Q p1 1 S_3))))
set_option maxRecDepth 100000 in
set_option maxHeartbeats 4000000 in
theorem c_X3_addTerm {g : Gv} (p1 : Int32)  (S : Sto) (Q : Int32 → Sto → Prop) (h : wp_X3_addTerm p1 S Q) : CT g yX3_addTerm cX3_addTerm 10 (some .boolean) 3 [.ref (g.1 + 35), .int p1, .ref (g.1 + 1)] S (Qi Q) := by
  unfold wp_X3_addTerm at h
  refine CT.of (by decide) (Nat.le_of_ble_eq_true rfl) ?_
  refine J_sub (lv' := [(0, .ref (g.1 + 35)), (1, .int p1), (2, .ref (g.1 + 1))]) [0, 1, 2] rfl ?_
  refine J_aload_n dX3_addTerm_0 rfl 0 rfl  ?_
  refine J_callV (h := 35) (ci := 1) (As := []) (rest := []) (n := 0) dX3_addTerm_1 (c_X3_passDigit   _ _ h) (by decide) rfl tb_3_2 tb_2_239 tb_1_3 tb_3_1 sl_8 (by decide) rfl (by decide) (by decide) (Nat.le_of_ble_eq_true rfl) rfl (fun v_r_2 S_1 hq => ?_)
  obtain ⟨r_2, rfl, h⟩ := hq
  dsimp only [Option.toList, List.cons_append, List.nil_append]
  refine J_istore_n (lv' := [(0, .ref (g.1 + 35)), (1, .int p1), (2, .ref (g.1 + 1)), (3, .int r_2)]) dX3_addTerm_4 rfl (by decide) [1, 2, 3, 0] rfl  ?_
  refine J_aload_n dX3_addTerm_5 rfl 0 rfl  ?_
  refine J_callV (h := 35) (ci := 1) (As := []) (rest := []) (n := 0) dX3_addTerm_6 (c_X3_passDigit   _ _ h) (by decide) rfl tb_3_2 tb_2_239 tb_1_3 tb_3_1 sl_8 (by decide) rfl (by decide) (by decide) (Nat.le_of_ble_eq_true rfl) rfl (fun v_r_4 S_3 hq => ?_)
  obtain ⟨r_4, rfl, h⟩ := hq
  dsimp only [Option.toList, List.cons_append, List.nil_append]
  refine J_istore (lv' := [(0, .ref (g.1 + 35)), (1, .int p1), (2, .ref (g.1 + 1)), (3, .int r_2), (4, .int r_4)]) dX3_addTerm_9 (by decide) [1, 2, 3, 4, 0] rfl  ?_
  refine J_iload_n dX3_addTerm_11 rfl 1 rfl  ?_
  refine J_iload_n dX3_addTerm_12 rfl 3 rfl  ?_
  refine J_if_ge (tgt := 20) dX3_addTerm_13 (by decide) (fun c_5 => ?_) (fun c_5 => ?_)
  · have h := h.1 c_5
    refine J_iload dX3_addTerm_20 4 rfl  ?_
    refine J_if_ge (tgt := 29) dX3_addTerm_22 (by decide) (fun c_6 => ?_) (fun c_6 => ?_)
    · have h := h.1 c_6
      refine J_bipush (v := 10) dX3_addTerm_29 (by decide)  ?_
      refine J_iload_n dX3_addTerm_31 rfl 3 rfl  ?_
      refine J_imul dX3_addTerm_32  ?_
      refine J_iload dX3_addTerm_33 4 rfl  ?_
      refine J_iadd dX3_addTerm_35  ?_
      refine J_sub (lv' := [(0, .ref (g.1 + 35)), (1, .int p1), (2, .ref (g.1 + 1))]) [0, 1, 2] rfl ?_
      exact l_X3_addTerm_36 p1  _   _ _ _  h
    · have h := h.2 c_6
      refine J_iload_n dX3_addTerm_25 rfl 3 rfl  ?_
      refine J_goto (tgt := 36) dX3_addTerm_26 (by decide)  ?_
      refine J_sub (lv' := [(0, .ref (g.1 + 35)), (1, .int p1), (2, .ref (g.1 + 1))]) [0, 1, 2] rfl ?_
      exact l_X3_addTerm_36 p1  _   _ _ _  h
  · have h := h.2 c_5
    refine J_iconst (v := 1) dX3_addTerm_16 (by decide)  ?_
    refine J_goto (tgt := 36) dX3_addTerm_17 (by decide)  ?_
    refine J_sub (lv' := [(0, .ref (g.1 + 35)), (1, .int p1), (2, .ref (g.1 + 1))]) [0, 1, 2] rfl ?_
    exact l_X3_addTerm_36 p1  _   _ _ _  h
def q_X3_addUp_97  (R41 : Int32 → Int32 → Int32 → Sto → Prop) (Q : Int32 → Sto → Prop) (x2 : Int32) (x3 : Int32) (x4 : Int32) (S : Sto) : Prop := ∀ x4_1 : Int32, x4_1 = x4 + 1 → R41 x2 x3 x4_1 S
set_option maxRecDepth 100000 in
set_option maxHeartbeats 4000000 in
theorem l_X3_addUp_97 {g : Gv}  (R41 : Int32 → Int32 → Int32 → Sto → Prop) (Q : Int32 → Sto → Prop) (hR41 : ∀ (y2 : Int32) (y3 : Int32) (y4 : Int32) (S : Sto), R41 y2 y3 y4 S → RJ g cX3_addUp RX3 (some .boolean) 5 4 41 [(0, .ref (g.1 + 35)), (1, .ref (g.1 + 1)), (2, .int y2), (3, .int y3), (4, .int y4)] [] S (Qi Q))  (x2 : Int32) (x3 : Int32) (x4 : Int32) (S : Sto)  (h : q_X3_addUp_97  R41 Q x2 x3 x4 S) : RJ g cX3_addUp RX3 (some .boolean) 5 4 97 [(0, .ref (g.1 + 35)), (1, .ref (g.1 + 1)), (2, .int x2), (3, .int x3), (4, .int x4)] [] S (Qi Q) := by
  unfold q_X3_addUp_97 at h
  obtain ⟨x4_1, ex4_1⟩ : ∃ y : Int32, y = x4 + 1 := ⟨_, rfl⟩
  have h := h x4_1 ex4_1
  refine J_iinc (v := x4_1) (lv' := [(0, .ref (g.1 + 35)), (1, .ref (g.1 + 1)), (2, .int x2), (3, .int x3), (4, .int x4_1)]) dX3_addUp_97 (q := 4) rfl (by rw [ex4_1]; rfl) (by decide) [1, 2, 3, 4, 0] rfl  ?_
  refine J_goto (tgt := 41) dX3_addUp_100 (by decide)  ?_
  exact hR41 _ _ _ _  h
def q_X3_addUp_66  (R41 : Int32 → Int32 → Int32 → Sto → Prop) (Q : Int32 → Sto → Prop) (x4 : Int32) (t0 : Int32) (S : Sto) : Prop := wp_X3_passSign 43 S (fun r_2 S_1 => ((r_2 = 0 → wp_X3_passSign 45 S_1 (fun r_5 S_4 => ((r_5 = 0 → narrow .boolean (.int t0) = .int t0 ∧ Q t0 S_4) ∧ (¬ r_5 = 0 → q_X3_addUp_97  R41 Q t0 ((-1)) x4 S_4)))) ∧ (¬ r_2 = 0 → q_X3_addUp_97  R41 Q t0 1 x4 S_1)))
set_option maxRecDepth 100000 in
set_option maxHeartbeats 4000000 in
theorem l_X3_addUp_66 {g : Gv}  (R41 : Int32 → Int32 → Int32 → Sto → Prop) (Q : Int32 → Sto → Prop) (hR41 : ∀ (y2 : Int32) (y3 : Int32) (y4 : Int32) (S : Sto), R41 y2 y3 y4 S → RJ g cX3_addUp RX3 (some .boolean) 5 4 41 [(0, .ref (g.1 + 35)), (1, .ref (g.1 + 1)), (2, .int y2), (3, .int y3), (4, .int y4)] [] S (Qi Q))  (x4 : Int32) (t0 : Int32) (S : Sto)  (h : q_X3_addUp_66  R41 Q x4 t0 S) : RJ g cX3_addUp RX3 (some .boolean) 5 4 66 [(0, .ref (g.1 + 35)), (1, .ref (g.1 + 1)), (4, .int x4)] [.int t0] S (Qi Q) := by
  unfold q_X3_addUp_66 at h
  refine J_istore_n (lv' := [(0, .ref (g.1 + 35)), (1, .ref (g.1 + 1)), (2, .int t0), (4, .int x4)]) dX3_addUp_66 rfl (by decide) [1, 2, 0, 3] rfl  ?_
  refine J_aload_n dX3_addUp_67 rfl 0 rfl  ?_
  refine J_bipush (v := 43) dX3_addUp_68 (by decide)  ?_
  refine J_callV (h := 35) (ci := 1) (As := [.int 43]) (rest := []) (n := 1) dX3_addUp_70 (c_X3_passSign 43  _ _ h) (by decide) rfl tb_2_234 tb_2_231 tb_1_3 tb_2_233 sl_6 (by decide) rfl (by decide) (by decide) (Nat.le_of_ble_eq_true rfl) rfl (fun v_r_2 S_1 hq => ?_)
  obtain ⟨r_2, rfl, h⟩ := hq
  dsimp only [Option.toList, List.cons_append, List.nil_append]
  refine J_if_eq (tgt := 81) dX3_addUp_73 (by decide) (fun c_3 => ?_) (fun c_3 => ?_)
  · have h := h.1 c_3
    refine J_aload_n dX3_addUp_81 rfl 0 rfl  ?_
    refine J_bipush (v := 45) dX3_addUp_82 (by decide)  ?_
    refine J_callV (h := 35) (ci := 1) (As := [.int 45]) (rest := []) (n := 1) dX3_addUp_84 (c_X3_passSign 45  _ _ h) (by decide) rfl tb_2_234 tb_2_231 tb_1_3 tb_2_233 sl_6 (by decide) rfl (by decide) (by decide) (Nat.le_of_ble_eq_true rfl) rfl (fun v_r_5 S_4 hq => ?_)
    obtain ⟨r_5, rfl, h⟩ := hq
    dsimp only [Option.toList, List.cons_append, List.nil_append]
    refine J_if_eq (tgt := 95) dX3_addUp_87 (by decide) (fun c_6 => ?_) (fun c_6 => ?_)
    · have h := h.1 c_6
      refine J_iload_n dX3_addUp_95 rfl 2 rfl  ?_
      obtain ⟨hb, h⟩ := h
      exact J_iret dX3_addUp_96 rfl hb ⟨_, rfl, h⟩
    · have h := h.2 c_6
      refine J_iconst (v := (-1)) dX3_addUp_90 (by decide)  ?_
      refine J_istore_n (lv' := [(0, .ref (g.1 + 35)), (1, .ref (g.1 + 1)), (2, .int t0), (3, .int ((-1))), (4, .int x4)]) dX3_addUp_91 rfl (by decide) [1, 2, 3, 0, 4] rfl  ?_
      refine J_goto (tgt := 97) dX3_addUp_92 (by decide)  ?_
      exact l_X3_addUp_97  _ _ hR41  _ _ _ _  h
  · have h := h.2 c_3
    refine J_iconst (v := 1) dX3_addUp_76 (by decide)  ?_
    refine J_istore_n (lv' := [(0, .ref (g.1 + 35)), (1, .ref (g.1 + 1)), (2, .int t0), (3, .int 1), (4, .int x4)]) dX3_addUp_77 rfl (by decide) [1, 2, 3, 0, 4] rfl  ?_
    refine J_goto (tgt := 97) dX3_addUp_78 (by decide)  ?_
    exact l_X3_addUp_97  _ _ hR41  _ _ _ _  h
def q_X3_addUp_65  (R41 : Int32 → Int32 → Int32 → Sto → Prop) (Q : Int32 → Sto → Prop) (x4 : Int32) (S : Sto) : Prop := q_X3_addUp_66  R41 Q x4 0 S
set_option maxRecDepth 100000 in
set_option maxHeartbeats 4000000 in
theorem l_X3_addUp_65 {g : Gv}  (R41 : Int32 → Int32 → Int32 → Sto → Prop) (Q : Int32 → Sto → Prop) (hR41 : ∀ (y2 : Int32) (y3 : Int32) (y4 : Int32) (S : Sto), R41 y2 y3 y4 S → RJ g cX3_addUp RX3 (some .boolean) 5 4 41 [(0, .ref (g.1 + 35)), (1, .ref (g.1 + 1)), (2, .int y2), (3, .int y3), (4, .int y4)] [] S (Qi Q))  (x4 : Int32) (S : Sto)  (h : q_X3_addUp_65  R41 Q x4 S) : RJ g cX3_addUp RX3 (some .boolean) 5 4 65 [(0, .ref (g.1 + 35)), (1, .ref (g.1 + 1)), (4, .int x4)] [] S (Qi Q) := by
  unfold q_X3_addUp_65 at h
  refine J_iconst (v := 0) dX3_addUp_65 (by decide)  ?_
  exact l_X3_addUp_66  _ _ hR41  _ _ _  h
def q_X3_addUp_41   (Q : Int32 → Sto → Prop) : Nat → Int32 → Int32 → Int32 → Sto → Prop
  | 0, _, _, _, _ => False
  | n + 1, x2, x3, x4, S => ((100 ≤ x4 → narrow .boolean (.int x2) = .int x2 ∧ Q x2 S) ∧ (¬ 100 ≤ x4 → wp_X3_addTerm x3 S (fun r_3 S_2 => ((r_3 = 0 → q_X3_addUp_65  (fun y2 y3 y4 S => q_X3_addUp_41   Q n y2 y3 y4 S) Q x4 S_2) ∧ (¬ r_3 = 0 → ((x2 = 0 → q_X3_addUp_65  (fun y2 y3 y4 S => q_X3_addUp_41   Q n y2 y3 y4 S) Q x4 S_2) ∧ (¬ x2 = 0 → q_X3_addUp_66  (fun y2 y3 y4 S => q_X3_addUp_41   Q n y2 y3 y4 S) Q x4 1 S_2)))))))
set_option maxRecDepth 100000 in
set_option maxHeartbeats 4000000 in
theorem l_X3_addUp_41 {g : Gv}   (Q : Int32 → Sto → Prop)   (n : Nat) : ∀ (x2 : Int32) (x3 : Int32) (x4 : Int32) (S : Sto)  (h : q_X3_addUp_41   Q n x2 x3 x4 S), RJ g cX3_addUp RX3 (some .boolean) 5 4 41 [(0, .ref (g.1 + 35)), (1, .ref (g.1 + 1)), (2, .int x2), (3, .int x3), (4, .int x4)] [] S (Qi Q) := by
  induction n with
  | zero => intro x2 x3 x4 S  h; exact h.elim
  | succ n ih =>
    intro x2 x3 x4 S  h
    unfold q_X3_addUp_41 at h
    refine J_iload dX3_addUp_41 4 rfl  ?_
    refine J_bipush (v := 100) dX3_addUp_43 (by decide)  ?_
    refine J_icmp_ge (tgt := 103) dX3_addUp_45 (by decide) (fun c_1 => ?_) (fun c_1 => ?_)
    · have h := h.1 c_1
      refine J_iload_n dX3_addUp_103 rfl 2 rfl  ?_
      obtain ⟨hb, h⟩ := h
      exact J_iret dX3_addUp_104 rfl hb ⟨_, rfl, h⟩
    · have h := h.2 c_1
      refine J_aload_n dX3_addUp_48 rfl 0 rfl  ?_
      refine J_iload_n dX3_addUp_49 rfl 3 rfl  ?_
      refine J_aload_n dX3_addUp_50 rfl 1 rfl  ?_
      refine J_callV (h := 35) (ci := 1) (As := [.int x3, .ref (g.1 + 1)]) (rest := []) (n := 2) dX3_addUp_51 (c_X3_addTerm x3  _ _ h) (by decide) rfl tb_3_35 tb_3_32 tb_1_3 tb_3_34 sl_14 (by decide) rfl (by decide) (by decide) (Nat.le_of_ble_eq_true rfl) rfl (fun v_r_3 S_2 hq => ?_)
      obtain ⟨r_3, rfl, h⟩ := hq
      dsimp only [Option.toList, List.cons_append, List.nil_append]
      refine J_if_eq (tgt := 65) dX3_addUp_54 (by decide) (fun c_4 => ?_) (fun c_4 => ?_)
      · have h := h.1 c_4
        refine J_sub (lv' := [(0, .ref (g.1 + 35)), (1, .ref (g.1 + 1)), (4, .int x4)]) [0, 1, 4] rfl ?_
        exact l_X3_addUp_65  _ _ (fun y2 y3 y4 S  h => ih y2 y3 y4 S  h)  _ _  h
      · have h := h.2 c_4
        refine J_iload_n dX3_addUp_57 rfl 2 rfl  ?_
        refine J_if_eq (tgt := 65) dX3_addUp_58 (by decide) (fun c_5 => ?_) (fun c_5 => ?_)
        · have h := h.1 c_5
          refine J_sub (lv' := [(0, .ref (g.1 + 35)), (1, .ref (g.1 + 1)), (4, .int x4)]) [0, 1, 4] rfl ?_
          exact l_X3_addUp_65  _ _ (fun y2 y3 y4 S  h => ih y2 y3 y4 S  h)  _ _  h
        · have h := h.2 c_5
          refine J_iconst (v := 1) dX3_addUp_61 (by decide)  ?_
          refine J_goto (tgt := 66) dX3_addUp_62 (by decide)  ?_
          refine J_sub (lv' := [(0, .ref (g.1 + 35)), (1, .ref (g.1 + 1)), (4, .int x4)]) [0, 1, 4] rfl ?_
          exact l_X3_addUp_66  _ _ (fun y2 y3 y4 S  h => ih y2 y3 y4 S  h)  _ _ _  h
def q_X3_addUp_37   (Q : Int32 → Sto → Prop) (x2 : Int32) (t0 : Int32) (S : Sto) : Prop := (∃ n_41, q_X3_addUp_41   Q n_41 x2 t0 0 S)
set_option maxRecDepth 100000 in
set_option maxHeartbeats 4000000 in
theorem l_X3_addUp_37 {g : Gv}   (Q : Int32 → Sto → Prop)   (x2 : Int32) (t0 : Int32) (S : Sto)  (h : q_X3_addUp_37   Q x2 t0 S) : RJ g cX3_addUp RX3 (some .boolean) 5 4 37 [(0, .ref (g.1 + 35)), (1, .ref (g.1 + 1)), (2, .int x2)] [.int t0] S (Qi Q) := by
  unfold q_X3_addUp_37 at h
  refine J_istore_n (lv' := [(0, .ref (g.1 + 35)), (1, .ref (g.1 + 1)), (2, .int x2), (3, .int t0)]) dX3_addUp_37 rfl (by decide) [1, 2, 3, 0] rfl  ?_
  refine J_iconst (v := 0) dX3_addUp_38 (by decide)  ?_
  refine J_istore (lv' := [(0, .ref (g.1 + 35)), (1, .ref (g.1 + 1)), (2, .int x2), (3, .int t0), (4, .int 0)]) dX3_addUp_39 (by decide) [1, 2, 3, 4, 0] rfl  ?_
  obtain ⟨n, h⟩ := h
  exact l_X3_addUp_41   _   n _ _ _ _  h
def q_X3_addUp_2   (Q : Int32 → Sto → Prop) : Nat → Int32 → Sto → Prop
  | 0, _, _ => False
  | n + 1, x2, S => ((16 ≤ x2 → wp_X3_passSign 45 S (fun r_3 S_2 => ((r_3 = 0 → q_X3_addUp_37   Q 1 1 S_2) ∧ (¬ r_3 = 0 → q_X3_addUp_37   Q 1 ((-1)) S_2)))) ∧ (¬ 16 ≤ x2 → vp_in x2 (16) ∧ ∀ S_6 : Sto, S_6 = uA S 37 (x2 : Int32).toNatClampNeg 0 → ∀ x2_7 : Int32, x2_7 = x2 + 1 → q_X3_addUp_2   Q n x2_7 S_6))
set_option maxRecDepth 100000 in
set_option maxHeartbeats 4000000 in
theorem l_X3_addUp_2 {g : Gv}   (Q : Int32 → Sto → Prop)   (n : Nat) : ∀ (x2 : Int32) (S : Sto)  (h : q_X3_addUp_2   Q n x2 S), RJ g cX3_addUp RX3 (some .boolean) 5 4 2 [(0, .ref (g.1 + 35)), (1, .ref (g.1 + 1)), (2, .int x2)] [] S (Qi Q) := by
  induction n with
  | zero => intro x2 S  h; exact h.elim
  | succ n ih =>
    intro x2 S  h
    unfold q_X3_addUp_2 at h
    refine J_iload_n dX3_addUp_2 rfl 2 rfl  ?_
    refine J_bipush (v := 16) dX3_addUp_3 (by decide)  ?_
    refine J_icmp_ge (tgt := 21) dX3_addUp_5 (by decide) (fun c_1 => ?_) (fun c_1 => ?_)
    · have h := h.1 c_1
      refine J_iconst (v := 1) dX3_addUp_21 (by decide)  ?_
      refine J_istore_n (lv' := [(0, .ref (g.1 + 35)), (1, .ref (g.1 + 1)), (2, .int 1)]) dX3_addUp_22 rfl (by decide) [1, 2, 0] rfl  ?_
      refine J_aload_n dX3_addUp_23 rfl 0 rfl  ?_
      refine J_bipush (v := 45) dX3_addUp_24 (by decide)  ?_
      refine J_callV (h := 35) (ci := 1) (As := [.int 45]) (rest := []) (n := 1) dX3_addUp_26 (c_X3_passSign 45  _ _ h) (by decide) rfl tb_2_234 tb_2_231 tb_1_3 tb_2_233 sl_6 (by decide) rfl (by decide) (by decide) (Nat.le_of_ble_eq_true rfl) rfl (fun v_r_3 S_2 hq => ?_)
      obtain ⟨r_3, rfl, h⟩ := hq
      dsimp only [Option.toList, List.cons_append, List.nil_append]
      refine J_if_eq (tgt := 36) dX3_addUp_29 (by decide) (fun c_4 => ?_) (fun c_4 => ?_)
      · have h := h.1 c_4
        refine J_iconst (v := 1) dX3_addUp_36 (by decide)  ?_
        exact l_X3_addUp_37   _   _ _ _  h
      · have h := h.2 c_4
        refine J_iconst (v := (-1)) dX3_addUp_32 (by decide)  ?_
        refine J_goto (tgt := 37) dX3_addUp_33 (by decide)  ?_
        exact l_X3_addUp_37   _   _ _ _  h
    · have h := h.2 c_1
      refine J_aload_n dX3_addUp_8 rfl 0 rfl  ?_
      refine J_getr (r := 37) (ci := 1) dX3_addUp_9 3 rfl giX3 (by decide) (by decide) rfl rfl tb_1_109 (by decide) (by decide)  ?_
      refine J_iload_n dX3_addUp_12 rfl 2 rfl  ?_
      refine J_iconst (v := 0) dX3_addUp_13 (by decide)  ?_
      obtain ⟨hi_5, h⟩ := h
      refine J_iast dX3_addUp_14 (by decide) hi_5  ?_
      refine J_nmS (fun S_6 eS_6 => ?_)
      have h := h S_6 eS_6
      obtain ⟨x2_7, ex2_7⟩ : ∃ y : Int32, y = x2 + 1 := ⟨_, rfl⟩
      have h := h x2_7 ex2_7
      refine J_iinc (v := x2_7) (lv' := [(0, .ref (g.1 + 35)), (1, .ref (g.1 + 1)), (2, .int x2_7)]) dX3_addUp_15 (q := 2) rfl (by rw [ex2_7]; rfl) (by decide) [1, 2, 0] rfl  ?_
      refine J_goto (tgt := 2) dX3_addUp_18 (by decide)  ?_
      exact ih _ _  h
def wp_X3_addUp  (S : Sto) (Q : Int32 → Sto → Prop) : Prop := (∃ n_2, q_X3_addUp_2   Q n_2 0 S)
set_option maxRecDepth 100000 in
set_option maxHeartbeats 4000000 in
theorem c_X3_addUp {g : Gv}   (S : Sto) (Q : Int32 → Sto → Prop) (h : wp_X3_addUp  S Q) : CT g yX3_addUp cX3_addUp 5 (some .boolean) 4 [.ref (g.1 + 35), .ref (g.1 + 1)] S (Qi Q) := by
  unfold wp_X3_addUp at h
  refine CT.of (by decide) (Nat.le_of_ble_eq_true rfl) ?_
  refine J_sub (lv' := [(0, .ref (g.1 + 35)), (1, .ref (g.1 + 1))]) [0, 1] rfl ?_
  refine J_iconst (v := 0) dX3_addUp_0 (by decide)  ?_
  refine J_istore_n (lv' := [(0, .ref (g.1 + 35)), (1, .ref (g.1 + 1)), (2, .int 0)]) dX3_addUp_1 rfl (by decide) [1, 2, 0] rfl  ?_
  obtain ⟨n, h⟩ := h
  exact l_X3_addUp_2   _   n _ _  h
def q_X4_addGenerator_16 (p1 : Int32)  (Q : Int32 → Sto → Prop)  (S : Sto) : Prop := Q 0 S
set_option maxRecDepth 100000 in
set_option maxHeartbeats 4000000 in
theorem l_X4_addGenerator_16 {g : Gv} (p1 : Int32)  (Q : Int32 → Sto → Prop)    (S : Sto)  (h : q_X4_addGenerator_16 p1  Q  S) : RJ g cX4_addGenerator RX4 (some .boolean) 2 2 16 [(0, .ref (g.1 + 1)), (1, .int p1)] [] S (Qi Q) := by
  unfold q_X4_addGenerator_16 at h
  refine J_iconst (v := 0) dX4_addGenerator_16 (by decide)  ?_
  exact J_iret dX4_addGenerator_17 rfl rfl ⟨_, rfl, h⟩
def wp_X4_addGenerator (p1 : Int32) (S : Sto) (Q : Int32 → Sto → Prop) : Prop := wp_X4_hasElement p1 S (fun r_2 S_1 => ((r_2 = 0 → q_X4_addGenerator_16 p1  Q  S_1) ∧ (¬ r_2 = 0 → (((S_1.1 1 5) < 4 → vp_in p1 (6) ∧ vp_in (S_1.1 1 5) (4) ∧ wp_X2_copy (2 + 1 + (p1 : Int32).toNatClampNeg) (9 + 1 + (S_1.1 1 5 : Int32).toNatClampNeg) 16 S_1 (fun S_7 => ∀ S_9 : Sto, S_9 = uA S_7 1 5 ((S_7.1 1 5) + 1) → ∀ S_10 : Sto, S_10 = uA S_9 1 12 ((S_9.1 1 12) + 1) → Q 1 S_10)) ∧ (¬ (S_1.1 1 5) < 4 → q_X4_addGenerator_16 p1  Q  S_1)))))
set_option maxRecDepth 100000 in
set_option maxHeartbeats 4000000 in
theorem c_X4_addGenerator {g : Gv} (p1 : Int32)  (S : Sto) (Q : Int32 → Sto → Prop) (h : wp_X4_addGenerator p1 S Q) : CT g yX4_addGenerator cX4_addGenerator 2 (some .boolean) 2 [.ref (g.1 + 1), .int p1] S (Qi Q) := by
  unfold wp_X4_addGenerator at h
  refine CT.of (by decide) (Nat.le_of_ble_eq_true rfl) ?_
  refine J_sub (lv' := [(0, .ref (g.1 + 1)), (1, .int p1)]) [0, 1] rfl ?_
  refine J_aload_n dX4_addGenerator_0 rfl 0 rfl  ?_
  refine J_iload_n dX4_addGenerator_1 rfl 1 rfl  ?_
  refine J_callV (h := 1) (ci := 2) (As := [.int p1]) (rest := []) (n := 1) dX4_addGenerator_2 (c_X4_hasElement p1  _ _ h) (by decide) rfl tb_2_83 tb_2_120 tb_1_2 tb_2_81 tb_2_82 (by decide) rfl (by decide) (by decide) (Nat.le_of_ble_eq_true rfl) rfl (fun v_r_2 S_1 hq => ?_)
  obtain ⟨r_2, rfl, h⟩ := hq
  dsimp only [Option.toList, List.cons_append, List.nil_append]
  refine J_if_eq (tgt := 16) dX4_addGenerator_5 (by decide) (fun c_3 => ?_) (fun c_3 => ?_)
  · have h := h.1 c_3
    exact l_X4_addGenerator_16 p1  _    _  h
  · have h := h.2 c_3
    refine J_aload_n dX4_addGenerator_8 rfl 0 rfl  ?_
    refine J_geti (ci := 2) dX4_addGenerator_9 5 rfl giX4 (by decide) (by decide) rfl rfl tb_1_52 rfl  ?_
    refine J_iconst (v := 4) dX4_addGenerator_12 (by decide)  ?_
    refine J_icmp_lt (tgt := 18) dX4_addGenerator_13 (by decide) (fun c_4 => ?_) (fun c_4 => ?_)
    · have h := h.1 c_4
      refine J_aload_n dX4_addGenerator_18 rfl 0 rfl  ?_
      refine J_getr (r := 2) (ci := 2) dX4_addGenerator_19 3 rfl giX4 (by decide) (by decide) rfl rfl tb_1_45 (by decide) (by decide)  ?_
      refine J_iload_n dX4_addGenerator_22 rfl 1 rfl  ?_
      obtain ⟨hi_5, h⟩ := h
      refine J_aald3 dX4_addGenerator_23 (by decide) hi_5  ?_
      refine J_aload_n dX4_addGenerator_24 rfl 0 rfl  ?_
      refine J_getr (r := 9) (ci := 2) dX4_addGenerator_25 4 rfl giX4 (by decide) (by decide) rfl rfl tb_1_48 (by decide) (by decide)  ?_
      refine J_aload_n dX4_addGenerator_28 rfl 0 rfl  ?_
      refine J_geti (ci := 2) dX4_addGenerator_29 5 rfl giX4 (by decide) (by decide) rfl rfl tb_1_52 rfl  ?_
      obtain ⟨hi_6, h⟩ := h
      refine J_aald3 dX4_addGenerator_32 (by decide) hi_6  ?_
      refine J_bipush (v := 16) dX4_addGenerator_33 (by decide)  ?_
      refine J_callS (As := [.ref (g.1 + (2 + 1 + (p1 : Int32).toNatClampNeg)), .ref (g.1 + (9 + 1 + (S_1.1 1 5 : Int32).toNatClampNeg)), .int 16]) (rest := []) (n := 3) dX4_addGenerator_35 (c_X2_copy (2 + 1 + (p1 : Int32).toNatClampNeg) (9 + 1 + (S_1.1 1 5 : Int32).toNatClampNeg) 16 (kd_row3 (by decide) hi_5) (kd_row3 (by decide) hi_6) _ _ h) tb_2_123 tb_2_121 tb_1_9 tb_2_122 (by decide) rfl (by decide) (by decide) (Nat.le_of_ble_eq_true rfl) rfl (fun v_r_8 S_7 hq => ?_)
      obtain ⟨rfl, h⟩ := hq
      dsimp only [Option.toList, List.cons_append, List.nil_append]
      refine J_aload_n dX4_addGenerator_38 rfl 0 rfl  ?_
      refine J_dup dX4_addGenerator_39 rfl  ?_
      refine J_geti (ci := 2) dX4_addGenerator_40 5 rfl giX4 (by decide) (by decide) rfl rfl tb_1_52 rfl  ?_
      refine J_iconst (v := 1) dX4_addGenerator_43 (by decide)  ?_
      refine J_iadd dX4_addGenerator_44  ?_
      refine J_puti (ci := 2) dX4_addGenerator_45 5 rfl giX4 (by decide) (by decide) rfl rfl tyX4 tyX4_ok nmX4 rfl rfl rfl rfl tb_1_52 rfl  ?_
      refine J_nmS (fun S_9 eS_9 => ?_)
      have h := h S_9 eS_9
      refine J_aload_n dX4_addGenerator_48 rfl 0 rfl  ?_
      refine J_dup dX4_addGenerator_49 rfl  ?_
      refine J_geti (ci := 2) dX4_addGenerator_50 12 rfl giX4 (by decide) (by decide) rfl rfl tb_1_69 rfl  ?_
      refine J_iconst (v := 1) dX4_addGenerator_53 (by decide)  ?_
      refine J_iadd dX4_addGenerator_54  ?_
      refine J_puti (ci := 2) dX4_addGenerator_55 12 rfl giX4 (by decide) (by decide) rfl rfl tyX4 tyX4_ok nmX4 rfl rfl rfl rfl tb_1_69 rfl  ?_
      refine J_nmS (fun S_10 eS_10 => ?_)
      have h := h S_10 eS_10
      refine J_iconst (v := 1) dX4_addGenerator_58 (by decide)  ?_
      exact J_iret dX4_addGenerator_59 rfl rfl ⟨_, rfl, h⟩
    · have h := h.2 c_4
      exact l_X4_addGenerator_16 p1  _    _  h
def wp_X4_dropGenerators  (S : Sto) (Q : Sto → Prop) : Prop := ∀ S_1 : Sto, S_1 = uA S 1 5 0 → ∀ S_2 : Sto, S_2 = uA S_1 1 12 ((S_1.1 1 12) + 1) → Q S_2
set_option maxRecDepth 100000 in
set_option maxHeartbeats 4000000 in
theorem c_X4_dropGenerators {g : Gv}   (S : Sto) (Q : Sto → Prop) (h : wp_X4_dropGenerators  S Q) : CT g yX4_dropGenerators cX4_dropGenerators 1 none 1 [.ref (g.1 + 1)] S (Qv Q) := by
  unfold wp_X4_dropGenerators at h
  refine CT.of (by decide) (Nat.le_of_ble_eq_true rfl) ?_
  refine J_sub (lv' := [(0, .ref (g.1 + 1))]) [0] rfl ?_
  refine J_aload_n dX4_dropGenerators_0 rfl 0 rfl  ?_
  refine J_iconst (v := 0) dX4_dropGenerators_1 (by decide)  ?_
  refine J_puti (ci := 2) dX4_dropGenerators_2 5 rfl giX4 (by decide) (by decide) rfl rfl tyX4 tyX4_ok nmX4 rfl rfl rfl rfl tb_1_52 rfl  ?_
  refine J_nmS (fun S_1 eS_1 => ?_)
  have h := h S_1 eS_1
  refine J_aload_n dX4_dropGenerators_5 rfl 0 rfl  ?_
  refine J_dup dX4_dropGenerators_6 rfl  ?_
  refine J_geti (ci := 2) dX4_dropGenerators_7 12 rfl giX4 (by decide) (by decide) rfl rfl tb_1_69 rfl  ?_
  refine J_iconst (v := 1) dX4_dropGenerators_10 (by decide)  ?_
  refine J_iadd dX4_dropGenerators_11  ?_
  refine J_puti (ci := 2) dX4_dropGenerators_12 12 rfl giX4 (by decide) (by decide) rfl rfl tyX4 tyX4_ok nmX4 rfl rfl rfl rfl tb_1_69 rfl  ?_
  refine J_nmS (fun S_2 eS_2 => ?_)
  have h := h S_2 eS_2
  exact J_vret dX4_dropGenerators_15 rfl ⟨rfl, h⟩
def wp_X4_replaceElement (p1 : Int32) (p2 : Nat) (S : Sto) (Q : Int32 → Sto → Prop) : Prop := wp_X4_hasElement p1 S (fun r_2 S_1 => ((¬ r_2 = 0 → vp_in p1 (6) ∧ wp_X4_width  S_1 (fun r_6 S_5 => wp_X2_copy p2 (2 + 1 + (p1 : Int32).toNatClampNeg) r_6 S_5 (fun S_7 => wp_X4_width  S_7 (fun r_10 S_9 => wp_X2_nonZeros p2 r_10 S_9 (fun r_12 S_11 => Q r_12 S_11))))) ∧ (r_2 = 0 → Q ((-1)) S_1)))
set_option maxRecDepth 100000 in
set_option maxHeartbeats 4000000 in
theorem c_X4_replaceElement {g : Gv} (p1 : Int32) (p2 : Nat) (hp2 : kd p2 = 0) (S : Sto) (Q : Int32 → Sto → Prop) (h : wp_X4_replaceElement p1 p2 S Q) : CT g yX4_replaceElement cX4_replaceElement 3 (some .int) 2 [.ref (g.1 + 1), .int p1, .ref (g.1 + p2)] S (Qi Q) := by
  unfold wp_X4_replaceElement at h
  refine CT.of (by decide) (Nat.le_of_ble_eq_true rfl) ?_
  refine J_sub (lv' := [(0, .ref (g.1 + 1)), (1, .int p1), (2, .ref (g.1 + p2))]) [0, 1, 2] rfl ?_
  refine J_aload_n dX4_replaceElement_0 rfl 0 rfl  ?_
  refine J_iload_n dX4_replaceElement_1 rfl 1 rfl  ?_
  refine J_callV (h := 1) (ci := 2) (As := [.int p1]) (rest := []) (n := 1) dX4_replaceElement_2 (c_X4_hasElement p1  _ _ h) (by decide) rfl tb_2_83 tb_2_120 tb_1_2 tb_2_81 tb_2_82 (by decide) rfl (by decide) (by decide) (Nat.le_of_ble_eq_true rfl) rfl (fun v_r_2 S_1 hq => ?_)
  obtain ⟨r_2, rfl, h⟩ := hq
  dsimp only [Option.toList, List.cons_append, List.nil_append]
  refine J_if_ne (tgt := 10) dX4_replaceElement_5 (by decide) (fun c_3 => ?_) (fun c_3 => ?_)
  · have h := h.1 c_3
    refine J_aload_n dX4_replaceElement_10 rfl 2 rfl  ?_
    refine J_aload_n dX4_replaceElement_11 rfl 0 rfl  ?_
    refine J_getr (r := 2) (ci := 2) dX4_replaceElement_12 3 rfl giX4 (by decide) (by decide) rfl rfl tb_1_45 (by decide) (by decide)  ?_
    refine J_iload_n dX4_replaceElement_15 rfl 1 rfl  ?_
    obtain ⟨hi_4, h⟩ := h
    refine J_aald3 dX4_replaceElement_16 (by decide) hi_4  ?_
    refine J_aload_n dX4_replaceElement_17 rfl 0 rfl  ?_
    refine J_callV (h := 1) (ci := 2) (As := []) (rest := [.ref (g.1 + (2 + 1 + (p1 : Int32).toNatClampNeg)), .ref (g.1 + p2)]) (n := 0) dX4_replaceElement_18 (c_X4_width   _ _ h) (by decide) rfl tb_2_91 tb_2_88 tb_1_2 tb_2_89 tb_2_90 (by decide) rfl (by decide) (by decide) (Nat.le_of_ble_eq_true rfl) rfl (fun v_r_6 S_5 hq => ?_)
    obtain ⟨r_6, rfl, h⟩ := hq
    dsimp only [Option.toList, List.cons_append, List.nil_append]
    refine J_callS (As := [.ref (g.1 + p2), .ref (g.1 + (2 + 1 + (p1 : Int32).toNatClampNeg)), .int r_6]) (rest := []) (n := 3) dX4_replaceElement_21 (c_X2_copy p2 (2 + 1 + (p1 : Int32).toNatClampNeg) r_6 hp2 (kd_row3 (by decide) hi_4) _ _ h) tb_2_123 tb_2_121 tb_1_9 tb_2_122 (by decide) rfl (by decide) (by decide) (Nat.le_of_ble_eq_true rfl) rfl (fun v_r_8 S_7 hq => ?_)
    obtain ⟨rfl, h⟩ := hq
    dsimp only [Option.toList, List.cons_append, List.nil_append]
    refine J_aload_n dX4_replaceElement_24 rfl 2 rfl  ?_
    refine J_aload_n dX4_replaceElement_25 rfl 0 rfl  ?_
    refine J_callV (h := 1) (ci := 2) (As := []) (rest := [.ref (g.1 + p2)]) (n := 0) dX4_replaceElement_26 (c_X4_width   _ _ h) (by decide) rfl tb_2_91 tb_2_88 tb_1_2 tb_2_89 tb_2_90 (by decide) rfl (by decide) (by decide) (Nat.le_of_ble_eq_true rfl) rfl (fun v_r_10 S_9 hq => ?_)
    obtain ⟨r_10, rfl, h⟩ := hq
    dsimp only [Option.toList, List.cons_append, List.nil_append]
    refine J_callS (As := [.ref (g.1 + p2), .int r_10]) (rest := []) (n := 2) dX4_replaceElement_29 (c_X2_nonZeros p2 r_10 hp2 _ _ h) tb_2_126 tb_2_124 tb_1_9 tb_2_125 (by decide) rfl (by decide) (by decide) (Nat.le_of_ble_eq_true rfl) rfl (fun v_r_12 S_11 hq => ?_)
    obtain ⟨r_12, rfl, h⟩ := hq
    dsimp only [Option.toList, List.cons_append, List.nil_append]
    exact J_iret dX4_replaceElement_32 rfl rfl ⟨_, rfl, h⟩
  · have h := h.2 c_3
    refine J_iconst (v := (-1)) dX4_replaceElement_8 (by decide)  ?_
    exact J_iret dX4_replaceElement_9 rfl rfl ⟨_, rfl, h⟩
def q_X8_isKind_14 (p0 : Int32)  (Q : Int32 → Sto → Prop) (t0 : Int32) (S : Sto) : Prop := narrow .boolean (.int t0) = .int t0 ∧ Q t0 S
set_option maxRecDepth 100000 in
set_option maxHeartbeats 4000000 in
theorem l_X8_isKind_14 {g : Gv} (p0 : Int32)  (Q : Int32 → Sto → Prop)   (t0 : Int32) (S : Sto)  (h : q_X8_isKind_14 p0  Q t0 S) : RJ g cX8_isKind RX8 (some .boolean) 1 1 14 [(0, .int p0)] [.int t0] S (Qi Q) := by
  unfold q_X8_isKind_14 at h
  obtain ⟨hb, h⟩ := h
  exact J_iret dX8_isKind_14 rfl hb ⟨_, rfl, h⟩
def q_X8_isKind_9 (p0 : Int32)  (Q : Int32 → Sto → Prop)  (S : Sto) : Prop := q_X8_isKind_14 p0  Q 1 S
set_option maxRecDepth 100000 in
set_option maxHeartbeats 4000000 in
theorem l_X8_isKind_9 {g : Gv} (p0 : Int32)  (Q : Int32 → Sto → Prop)    (S : Sto)  (h : q_X8_isKind_9 p0  Q  S) : RJ g cX8_isKind RX8 (some .boolean) 1 1 9 [(0, .int p0)] [] S (Qi Q) := by
  unfold q_X8_isKind_9 at h
  refine J_iconst (v := 1) dX8_isKind_9 (by decide)  ?_
  refine J_goto (tgt := 14) dX8_isKind_10 (by decide)  ?_
  exact l_X8_isKind_14 p0  _   _ _  h
def wp_X8_isKind (p0 : Int32) (S : Sto) (Q : Int32 → Sto → Prop) : Prop := ((p0 = 0 → q_X8_isKind_9 p0  Q  S) ∧ (¬ p0 = 0 → ((¬ p0 = 1 → q_X8_isKind_14 p0  Q 0 S) ∧ (p0 = 1 → q_X8_isKind_9 p0  Q  S))))
set_option maxRecDepth 100000 in
set_option maxHeartbeats 4000000 in
theorem c_X8_isKind {g : Gv} (p0 : Int32)  (S : Sto) (Q : Int32 → Sto → Prop) (h : wp_X8_isKind p0 S Q) : CT g yX8_isKind cX8_isKind 1 (some .boolean) 1 [.int p0] S (Qi Q) := by
  unfold wp_X8_isKind at h
  refine CT.of (by decide) (Nat.le_of_ble_eq_true rfl) ?_
  refine J_sub (lv' := [(0, .int p0)]) [0] rfl ?_
  refine J_iload_n dX8_isKind_0 rfl 0 rfl  ?_
  refine J_if_eq (tgt := 9) dX8_isKind_1 (by decide) (fun c_1 => ?_) (fun c_1 => ?_)
  · have h := h.1 c_1
    exact l_X8_isKind_9 p0  _    _  h
  · have h := h.2 c_1
    refine J_iload_n dX8_isKind_4 rfl 0 rfl  ?_
    refine J_iconst (v := 1) dX8_isKind_5 (by decide)  ?_
    refine J_icmp_ne (tgt := 13) dX8_isKind_6 (by decide) (fun c_2 => ?_) (fun c_2 => ?_)
    · have h := h.1 c_2
      refine J_iconst (v := 0) dX8_isKind_13 (by decide)  ?_
      exact l_X8_isKind_14 p0  _   _ _  h
    · have h := h.2 c_2
      exact l_X8_isKind_9 p0  _    _  h
def wp_X4_takeKind (p1 : Int32) (S : Sto) (Q : Int32 → Sto → Prop) : Prop := wp_X8_isKind p1 S (fun r_2 S_1 => ((¬ r_2 = 0 → ∀ S_4 : Sto, S_4 = uA S_1 1 2 p1 → ∀ S_5 : Sto, S_5 = uA S_4 1 12 ((S_4.1 1 12) + 1) → Q 1 S_5) ∧ (r_2 = 0 → Q 0 S_1)))
set_option maxRecDepth 100000 in
set_option maxHeartbeats 4000000 in
theorem c_X4_takeKind {g : Gv} (p1 : Int32)  (S : Sto) (Q : Int32 → Sto → Prop) (h : wp_X4_takeKind p1 S Q) : CT g yX4_takeKind cX4_takeKind 2 (some .boolean) 2 [.ref (g.1 + 1), .int p1] S (Qi Q) := by
  unfold wp_X4_takeKind at h
  refine CT.of (by decide) (Nat.le_of_ble_eq_true rfl) ?_
  refine J_sub (lv' := [(0, .ref (g.1 + 1)), (1, .int p1)]) [0, 1] rfl ?_
  refine J_iload_n dX4_takeKind_0 rfl 1 rfl  ?_
  refine J_callSN (As := [.int p1]) (rest := []) (n := 1) dX4_takeKind_1 (c_X8_isKind p1  _ _ h) tb_2_75 (fun U h => h.2) tb_1_1 tb_2_74 (by decide) rfl (by decide) (by decide) (Nat.le_of_ble_eq_true rfl) rfl (fun v_r_2 S_1 hq => ?_)
  obtain ⟨r_2, rfl, h⟩ := hq
  dsimp only [Option.toList, List.cons_append, List.nil_append]
  refine J_if_ne (tgt := 9) dX4_takeKind_4 (by decide) (fun c_3 => ?_) (fun c_3 => ?_)
  · have h := h.1 c_3
    refine J_aload_n dX4_takeKind_9 rfl 0 rfl  ?_
    refine J_iload_n dX4_takeKind_10 rfl 1 rfl  ?_
    refine J_puti (ci := 2) dX4_takeKind_11 2 rfl giX4 (by decide) (by decide) rfl rfl tyX4 tyX4_ok nmX4 rfl rfl rfl rfl tb_1_42 rfl  ?_
    refine J_nmS (fun S_4 eS_4 => ?_)
    have h := h S_4 eS_4
    refine J_aload_n dX4_takeKind_14 rfl 0 rfl  ?_
    refine J_dup dX4_takeKind_15 rfl  ?_
    refine J_geti (ci := 2) dX4_takeKind_16 12 rfl giX4 (by decide) (by decide) rfl rfl tb_1_69 rfl  ?_
    refine J_iconst (v := 1) dX4_takeKind_19 (by decide)  ?_
    refine J_iadd dX4_takeKind_20  ?_
    refine J_puti (ci := 2) dX4_takeKind_21 12 rfl giX4 (by decide) (by decide) rfl rfl tyX4 tyX4_ok nmX4 rfl rfl rfl rfl tb_1_69 rfl  ?_
    refine J_nmS (fun S_5 eS_5 => ?_)
    have h := h S_5 eS_5
    refine J_iconst (v := 1) dX4_takeKind_24 (by decide)  ?_
    exact J_iret dX4_takeKind_25 rfl rfl ⟨_, rfl, h⟩
  · have h := h.2 c_3
    refine J_iconst (v := 0) dX4_takeKind_7 (by decide)  ?_
    exact J_iret dX4_takeKind_8 rfl rfl ⟨_, rfl, h⟩
def q_X4_beginAnew_10  (R2 : Int32 → Sto → Prop) (Q : Sto → Prop) : Nat → Int32 → Int32 → Sto → Prop
  | 0, _, _, _ => False
  | n + 1, x1, x2, S => ((16 ≤ x2 → ∀ x1_2 : Int32, x1_2 = x1 + 1 → R2 x1_2 S) ∧ (¬ 16 ≤ x2 → vp_in x1 (6) ∧ vp_in x2 (ln (2 + 1 + (x1 : Int32).toNatClampNeg)) ∧ ∀ S_5 : Sto, S_5 = uA S (2 + 1 + (x1 : Int32).toNatClampNeg) (x2 : Int32).toNatClampNeg 0 → ∀ x2_6 : Int32, x2_6 = x2 + 1 → q_X4_beginAnew_10  R2 Q n x1 x2_6 S_5))
set_option maxRecDepth 100000 in
set_option maxHeartbeats 4000000 in
theorem l_X4_beginAnew_10 {g : Gv}  (R2 : Int32 → Sto → Prop) (Q : Sto → Prop) (hR2 : ∀ (y1 : Int32) (S : Sto), R2 y1 S → RJ g cX4_beginAnew RX4 none 3 2 2 [(0, .ref (g.1 + 1)), (1, .int y1)] [] S (Qv Q))  (n : Nat) : ∀ (x1 : Int32) (x2 : Int32) (S : Sto)  (h : q_X4_beginAnew_10  R2 Q n x1 x2 S), RJ g cX4_beginAnew RX4 none 3 2 10 [(0, .ref (g.1 + 1)), (1, .int x1), (2, .int x2)] [] S (Qv Q) := by
  induction n with
  | zero => intro x1 x2 S  h; exact h.elim
  | succ n ih =>
    intro x1 x2 S  h
    unfold q_X4_beginAnew_10 at h
    refine J_iload_n dX4_beginAnew_10 rfl 2 rfl  ?_
    refine J_bipush (v := 16) dX4_beginAnew_11 (by decide)  ?_
    refine J_icmp_ge (tgt := 31) dX4_beginAnew_13 (by decide) (fun c_1 => ?_) (fun c_1 => ?_)
    · have h := h.1 c_1
      obtain ⟨x1_2, ex1_2⟩ : ∃ y : Int32, y = x1 + 1 := ⟨_, rfl⟩
      have h := h x1_2 ex1_2
      refine J_iinc (v := x1_2) (lv' := [(0, .ref (g.1 + 1)), (1, .int x1_2), (2, .int x2)]) dX4_beginAnew_31 (q := 1) rfl (by rw [ex1_2]; rfl) (by decide) [1, 0, 2] rfl  ?_
      refine J_goto (tgt := 2) dX4_beginAnew_34 (by decide)  ?_
      refine J_sub (lv' := [(0, .ref (g.1 + 1)), (1, .int x1_2)]) [0, 1] rfl ?_
      exact hR2 _ _  h
    · have h := h.2 c_1
      refine J_aload_n dX4_beginAnew_16 rfl 0 rfl  ?_
      refine J_getr (r := 2) (ci := 2) dX4_beginAnew_17 3 rfl giX4 (by decide) (by decide) rfl rfl tb_1_45 (by decide) (by decide)  ?_
      refine J_iload_n dX4_beginAnew_20 rfl 1 rfl  ?_
      obtain ⟨hi_3, h⟩ := h
      refine J_aald3 dX4_beginAnew_21 (by decide) hi_3  ?_
      refine J_iload_n dX4_beginAnew_22 rfl 2 rfl  ?_
      refine J_iconst (v := 0) dX4_beginAnew_23 (by decide)  ?_
      obtain ⟨hi_4, h⟩ := h
      refine J_iast dX4_beginAnew_24 (kd_row3 (by decide) hi_3) hi_4  ?_
      refine J_nmS (fun S_5 eS_5 => ?_)
      have h := h S_5 eS_5
      obtain ⟨x2_6, ex2_6⟩ : ∃ y : Int32, y = x2 + 1 := ⟨_, rfl⟩
      have h := h x2_6 ex2_6
      refine J_iinc (v := x2_6) (lv' := [(0, .ref (g.1 + 1)), (1, .int x1), (2, .int x2_6)]) dX4_beginAnew_25 (q := 2) rfl (by rw [ex2_6]; rfl) (by decide) [1, 2, 0] rfl  ?_
      refine J_goto (tgt := 10) dX4_beginAnew_28 (by decide)  ?_
      exact ih _ _ _  h
def q_X4_beginAnew_2   (Q : Sto → Prop) : Nat → Int32 → Sto → Prop
  | 0, _, _ => False
  | n + 1, x1, S => ((6 ≤ x1 → wp_X4_dropGenerators  S (fun S_2 => Q S_2)) ∧ (¬ 6 ≤ x1 → (∃ n_10, q_X4_beginAnew_10  (fun y1 S => q_X4_beginAnew_2   Q n y1 S) Q n_10 x1 0 S)))
set_option maxRecDepth 100000 in
set_option maxHeartbeats 4000000 in
theorem l_X4_beginAnew_2 {g : Gv}   (Q : Sto → Prop)   (n : Nat) : ∀ (x1 : Int32) (S : Sto)  (h : q_X4_beginAnew_2   Q n x1 S), RJ g cX4_beginAnew RX4 none 3 2 2 [(0, .ref (g.1 + 1)), (1, .int x1)] [] S (Qv Q) := by
  induction n with
  | zero => intro x1 S  h; exact h.elim
  | succ n ih =>
    intro x1 S  h
    unfold q_X4_beginAnew_2 at h
    refine J_iload_n dX4_beginAnew_2 rfl 1 rfl  ?_
    refine J_bipush (v := 6) dX4_beginAnew_3 (by decide)  ?_
    refine J_icmp_ge (tgt := 37) dX4_beginAnew_5 (by decide) (fun c_1 => ?_) (fun c_1 => ?_)
    · have h := h.1 c_1
      refine J_aload_n dX4_beginAnew_37 rfl 0 rfl  ?_
      refine J_callV (h := 1) (ci := 2) (As := []) (rest := []) (n := 0) dX4_beginAnew_38 (c_X4_dropGenerators   _ _ h) (by decide) rfl tb_2_56 tb_2_53 tb_1_2 tb_2_54 tb_2_55 (by decide) rfl (by decide) (by decide) (Nat.le_of_ble_eq_true rfl) rfl (fun v_r_3 S_2 hq => ?_)
      obtain ⟨rfl, h⟩ := hq
      dsimp only [Option.toList, List.cons_append, List.nil_append]
      exact J_vret dX4_beginAnew_41 rfl ⟨rfl, h⟩
    · have h := h.2 c_1
      refine J_iconst (v := 0) dX4_beginAnew_8 (by decide)  ?_
      refine J_istore_n (lv' := [(0, .ref (g.1 + 1)), (1, .int x1), (2, .int 0)]) dX4_beginAnew_9 rfl (by decide) [1, 2, 0] rfl  ?_
      obtain ⟨n, h⟩ := h
      exact l_X4_beginAnew_10  _ _ (fun y1 S  h => ih y1 S  h)  n _ _ _  h
def wp_X4_beginAnew  (S : Sto) (Q : Sto → Prop) : Prop := (∃ n_2, q_X4_beginAnew_2   Q n_2 0 S)
set_option maxRecDepth 100000 in
set_option maxHeartbeats 4000000 in
theorem c_X4_beginAnew {g : Gv}   (S : Sto) (Q : Sto → Prop) (h : wp_X4_beginAnew  S Q) : CT g yX4_beginAnew cX4_beginAnew 3 none 2 [.ref (g.1 + 1)] S (Qv Q) := by
  unfold wp_X4_beginAnew at h
  refine CT.of (by decide) (Nat.le_of_ble_eq_true rfl) ?_
  refine J_sub (lv' := [(0, .ref (g.1 + 1))]) [0] rfl ?_
  refine J_iconst (v := 0) dX4_beginAnew_0 (by decide)  ?_
  refine J_istore_n (lv' := [(0, .ref (g.1 + 1)), (1, .int 0)]) dX4_beginAnew_1 rfl (by decide) [1, 0] rfl  ?_
  obtain ⟨n, h⟩ := h
  exact l_X4_beginAnew_2   _   n _ _  h
def q_X4_takeLetters_10 (p1 : Int32)  (Q : Int32 → Sto → Prop)  (S : Sto) : Prop := Q 0 S
set_option maxRecDepth 100000 in
set_option maxHeartbeats 4000000 in
theorem l_X4_takeLetters_10 {g : Gv} (p1 : Int32)  (Q : Int32 → Sto → Prop)    (S : Sto)  (h : q_X4_takeLetters_10 p1  Q  S) : RJ g cX4_takeLetters RX4 (some .boolean) 2 3 10 [(0, .ref (g.1 + 1)), (1, .int p1)] [] S (Qi Q) := by
  unfold q_X4_takeLetters_10 at h
  refine J_iconst (v := 0) dX4_takeLetters_10 (by decide)  ?_
  exact J_iret dX4_takeLetters_11 rfl rfl ⟨_, rfl, h⟩
def wp_X4_takeLetters (p1 : Int32) (S : Sto) (Q : Int32 → Sto → Prop) : Prop := ((p1 < 2 → q_X4_takeLetters_10 p1  Q  S) ∧ (¬ p1 < 2 → ((p1 ≤ 4 → ∀ S_3 : Sto, S_3 = uA S 1 0 p1 → wp_X4_beginAnew  S_3 (fun S_4 => Q 1 S_4)) ∧ (¬ p1 ≤ 4 → q_X4_takeLetters_10 p1  Q  S))))
set_option maxRecDepth 100000 in
set_option maxHeartbeats 4000000 in
theorem c_X4_takeLetters {g : Gv} (p1 : Int32)  (S : Sto) (Q : Int32 → Sto → Prop) (h : wp_X4_takeLetters p1 S Q) : CT g yX4_takeLetters cX4_takeLetters 2 (some .boolean) 3 [.ref (g.1 + 1), .int p1] S (Qi Q) := by
  unfold wp_X4_takeLetters at h
  refine CT.of (by decide) (Nat.le_of_ble_eq_true rfl) ?_
  refine J_sub (lv' := [(0, .ref (g.1 + 1)), (1, .int p1)]) [0, 1] rfl ?_
  refine J_iload_n dX4_takeLetters_0 rfl 1 rfl  ?_
  refine J_iconst (v := 2) dX4_takeLetters_1 (by decide)  ?_
  refine J_icmp_lt (tgt := 10) dX4_takeLetters_2 (by decide) (fun c_1 => ?_) (fun c_1 => ?_)
  · have h := h.1 c_1
    exact l_X4_takeLetters_10 p1  _    _  h
  · have h := h.2 c_1
    refine J_iload_n dX4_takeLetters_5 rfl 1 rfl  ?_
    refine J_iconst (v := 4) dX4_takeLetters_6 (by decide)  ?_
    refine J_icmp_le (tgt := 12) dX4_takeLetters_7 (by decide) (fun c_2 => ?_) (fun c_2 => ?_)
    · have h := h.1 c_2
      refine J_aload_n dX4_takeLetters_12 rfl 0 rfl  ?_
      refine J_iload_n dX4_takeLetters_13 rfl 1 rfl  ?_
      refine J_puti (ci := 2) dX4_takeLetters_14 0 rfl giX4 (by decide) (by decide) rfl rfl tyX4 tyX4_ok nmX4 rfl rfl rfl rfl tb_1_32 rfl  ?_
      refine J_nmS (fun S_3 eS_3 => ?_)
      have h := h S_3 eS_3
      refine J_aload_n dX4_takeLetters_17 rfl 0 rfl  ?_
      refine J_callV (h := 1) (ci := 2) (As := []) (rest := []) (n := 0) dX4_takeLetters_18 (c_X4_beginAnew   _ _ h) (by decide) rfl tb_2_52 tb_2_49 tb_1_2 tb_2_51 sl_0 (by decide) rfl (by decide) (by decide) (Nat.le_of_ble_eq_true rfl) rfl (fun v_r_5 S_4 hq => ?_)
      obtain ⟨rfl, h⟩ := hq
      dsimp only [Option.toList, List.cons_append, List.nil_append]
      refine J_iconst (v := 1) dX4_takeLetters_21 (by decide)  ?_
      exact J_iret dX4_takeLetters_22 rfl rfl ⟨_, rfl, h⟩
    · have h := h.2 c_2
      exact l_X4_takeLetters_10 p1  _    _  h
def q_X4_takePrime_23 (p1 : Int32)  (Q : Int32 → Sto → Prop)  (S : Sto) : Prop := ∀ S_1 : Sto, S_1 = uA S 1 1 p1 → wp_X4_beginAnew  S_1 (fun S_2 => Q 1 S_2)
set_option maxRecDepth 100000 in
set_option maxHeartbeats 4000000 in
theorem l_X4_takePrime_23 {g : Gv} (p1 : Int32)  (Q : Int32 → Sto → Prop)    (S : Sto)  (h : q_X4_takePrime_23 p1  Q  S) : RJ g cX4_takePrime RX4 (some .boolean) 2 3 23 [(0, .ref (g.1 + 1)), (1, .int p1)] [] S (Qi Q) := by
  unfold q_X4_takePrime_23 at h
  refine J_aload_n dX4_takePrime_23 rfl 0 rfl  ?_
  refine J_iload_n dX4_takePrime_24 rfl 1 rfl  ?_
  refine J_puti (ci := 2) dX4_takePrime_25 1 rfl giX4 (by decide) (by decide) rfl rfl tyX4 tyX4_ok nmX4 rfl rfl rfl rfl tb_1_37 rfl  ?_
  refine J_nmS (fun S_1 eS_1 => ?_)
  have h := h S_1 eS_1
  refine J_aload_n dX4_takePrime_28 rfl 0 rfl  ?_
  refine J_callV (h := 1) (ci := 2) (As := []) (rest := []) (n := 0) dX4_takePrime_29 (c_X4_beginAnew   _ _ h) (by decide) rfl tb_2_52 tb_2_49 tb_1_2 tb_2_51 sl_0 (by decide) rfl (by decide) (by decide) (Nat.le_of_ble_eq_true rfl) rfl (fun v_r_3 S_2 hq => ?_)
  obtain ⟨rfl, h⟩ := hq
  dsimp only [Option.toList, List.cons_append, List.nil_append]
  refine J_iconst (v := 1) dX4_takePrime_32 (by decide)  ?_
  exact J_iret dX4_takePrime_33 rfl rfl ⟨_, rfl, h⟩
def wp_X4_takePrime (p1 : Int32) (S : Sto) (Q : Int32 → Sto → Prop) : Prop := ((p1 = 2 → q_X4_takePrime_23 p1  Q  S) ∧ (¬ p1 = 2 → ((p1 = 3 → q_X4_takePrime_23 p1  Q  S) ∧ (¬ p1 = 3 → ((p1 = 5 → q_X4_takePrime_23 p1  Q  S) ∧ (¬ p1 = 5 → ((p1 = 7 → q_X4_takePrime_23 p1  Q  S) ∧ (¬ p1 = 7 → Q 0 S))))))))
set_option maxRecDepth 100000 in
set_option maxHeartbeats 4000000 in
theorem c_X4_takePrime {g : Gv} (p1 : Int32)  (S : Sto) (Q : Int32 → Sto → Prop) (h : wp_X4_takePrime p1 S Q) : CT g yX4_takePrime cX4_takePrime 2 (some .boolean) 3 [.ref (g.1 + 1), .int p1] S (Qi Q) := by
  unfold wp_X4_takePrime at h
  refine CT.of (by decide) (Nat.le_of_ble_eq_true rfl) ?_
  refine J_sub (lv' := [(0, .ref (g.1 + 1)), (1, .int p1)]) [0, 1] rfl ?_
  refine J_iload_n dX4_takePrime_0 rfl 1 rfl  ?_
  refine J_iconst (v := 2) dX4_takePrime_1 (by decide)  ?_
  refine J_icmp_eq (tgt := 23) dX4_takePrime_2 (by decide) (fun c_1 => ?_) (fun c_1 => ?_)
  · have h := h.1 c_1
    exact l_X4_takePrime_23 p1  _    _  h
  · have h := h.2 c_1
    refine J_iload_n dX4_takePrime_5 rfl 1 rfl  ?_
    refine J_iconst (v := 3) dX4_takePrime_6 (by decide)  ?_
    refine J_icmp_eq (tgt := 23) dX4_takePrime_7 (by decide) (fun c_2 => ?_) (fun c_2 => ?_)
    · have h := h.1 c_2
      exact l_X4_takePrime_23 p1  _    _  h
    · have h := h.2 c_2
      refine J_iload_n dX4_takePrime_10 rfl 1 rfl  ?_
      refine J_iconst (v := 5) dX4_takePrime_11 (by decide)  ?_
      refine J_icmp_eq (tgt := 23) dX4_takePrime_12 (by decide) (fun c_3 => ?_) (fun c_3 => ?_)
      · have h := h.1 c_3
        exact l_X4_takePrime_23 p1  _    _  h
      · have h := h.2 c_3
        refine J_iload_n dX4_takePrime_15 rfl 1 rfl  ?_
        refine J_bipush (v := 7) dX4_takePrime_16 (by decide)  ?_
        refine J_icmp_eq (tgt := 23) dX4_takePrime_18 (by decide) (fun c_4 => ?_) (fun c_4 => ?_)
        · have h := h.1 c_4
          exact l_X4_takePrime_23 p1  _    _  h
        · have h := h.2 c_4
          refine J_iconst (v := 0) dX4_takePrime_21 (by decide)  ?_
          exact J_iret dX4_takePrime_22 rfl rfl ⟨_, rfl, h⟩
def q_X3_doClause_115   (Q : Int32 → Sto → Prop)  (S : Sto) : Prop := Q 0 S
set_option maxRecDepth 100000 in
set_option maxHeartbeats 4000000 in
theorem l_X3_doClause_115 {g : Gv}   (Q : Int32 → Sto → Prop)    (S : Sto)  (h : q_X3_doClause_115   Q  S) : RJ g cX3_doClause RX3 (some .boolean) 3 5 115 [(0, .ref (g.1 + 35)), (1, .ref (g.1 + 1))] [] S (Qi Q) := by
  unfold q_X3_doClause_115 at h
  refine J_iconst (v := 0) dX3_doClause_115 (by decide)  ?_
  exact J_iret dX3_doClause_116 rfl rfl ⟨_, rfl, h⟩
def wp_X3_doClause  (S : Sto) (Q : Int32 → Sto → Prop) : Prop := wp_X3_passSign 120 S (fun r_2 S_1 => ((r_2 = 0 → wp_X3_passSign 103 S_1 (fun r_5 S_4 => ((r_5 = 0 → wp_X3_passSign 110 S_4 (fun r_8 S_7 => ((r_8 = 0 → wp_X3_passSign 112 S_7 (fun r_11 S_10 => ((r_11 = 0 → wp_X3_passSign 111 S_10 (fun r_14 S_13 => ((r_14 = 0 → wp_X3_passDigit  S_13 (fun r_17 S_16 => wp_X3_passSign 58 S_16 (fun r_19 S_18 => wp_X3_addUp  S_18 (fun r_21 S_20 => ((r_21 = 0 → q_X3_doClause_115   Q  S_20) ∧ (¬ r_21 = 0 → wp_X4_hasElement r_17 S_20 (fun r_24 S_23 => ((¬ r_24 = 0 → wp_X4_replaceElement r_17 37 S_23 (fun r_27 S_26 => Q 1 S_26)) ∧ (r_24 = 0 → q_X3_doClause_115   Q  S_23))))))))) ∧ (¬ r_14 = 0 → wp_X3_passDigit  S_13 (fun r_29 S_28 => wp_X4_takeKind r_29 S_28 (fun r_31 S_30 => narrow .boolean (.int r_31) = .int r_31 ∧ Q r_31 S_30)))))) ∧ (¬ r_11 = 0 → wp_X3_passDigit  S_10 (fun r_33 S_32 => wp_X4_takePrime r_33 S_32 (fun r_35 S_34 => narrow .boolean (.int r_35) = .int r_35 ∧ Q r_35 S_34)))))) ∧ (¬ r_8 = 0 → wp_X3_passDigit  S_7 (fun r_37 S_36 => wp_X4_takeLetters r_37 S_36 (fun r_39 S_38 => narrow .boolean (.int r_39) = .int r_39 ∧ Q r_39 S_38)))))) ∧ (¬ r_5 = 0 → wp_X3_passDigit  S_4 (fun r_41 S_40 => wp_X4_addGenerator r_41 S_40 (fun r_43 S_42 => narrow .boolean (.int r_43) = .int r_43 ∧ Q r_43 S_42)))))) ∧ (¬ r_2 = 0 → wp_X4_dropGenerators  S_1 (fun S_44 => Q 1 S_44))))
set_option maxRecDepth 100000 in
set_option maxHeartbeats 4000000 in
theorem c_X3_doClause {g : Gv}   (S : Sto) (Q : Int32 → Sto → Prop) (h : wp_X3_doClause  S Q) : CT g yX3_doClause cX3_doClause 3 (some .boolean) 5 [.ref (g.1 + 35), .ref (g.1 + 1)] S (Qi Q) := by
  unfold wp_X3_doClause at h
  refine CT.of (by decide) (Nat.le_of_ble_eq_true rfl) ?_
  refine J_sub (lv' := [(0, .ref (g.1 + 35)), (1, .ref (g.1 + 1))]) [0, 1] rfl ?_
  refine J_aload_n dX3_doClause_0 rfl 0 rfl  ?_
  refine J_bipush (v := 120) dX3_doClause_1 (by decide)  ?_
  refine J_callV (h := 35) (ci := 1) (As := [.int 120]) (rest := []) (n := 1) dX3_doClause_3 (c_X3_passSign 120  _ _ h) (by decide) rfl tb_2_234 tb_2_231 tb_1_3 tb_2_233 sl_6 (by decide) rfl (by decide) (by decide) (Nat.le_of_ble_eq_true rfl) rfl (fun v_r_2 S_1 hq => ?_)
  obtain ⟨r_2, rfl, h⟩ := hq
  dsimp only [Option.toList, List.cons_append, List.nil_append]
  refine J_if_eq (tgt := 15) dX3_doClause_6 (by decide) (fun c_3 => ?_) (fun c_3 => ?_)
  · have h := h.1 c_3
    refine J_aload_n dX3_doClause_15 rfl 0 rfl  ?_
    refine J_bipush (v := 103) dX3_doClause_16 (by decide)  ?_
    refine J_callV (h := 35) (ci := 1) (As := [.int 103]) (rest := []) (n := 1) dX3_doClause_18 (c_X3_passSign 103  _ _ h) (by decide) rfl tb_2_234 tb_2_231 tb_1_3 tb_2_233 sl_6 (by decide) rfl (by decide) (by decide) (Nat.le_of_ble_eq_true rfl) rfl (fun v_r_5 S_4 hq => ?_)
    obtain ⟨r_5, rfl, h⟩ := hq
    dsimp only [Option.toList, List.cons_append, List.nil_append]
    refine J_if_eq (tgt := 33) dX3_doClause_21 (by decide) (fun c_6 => ?_) (fun c_6 => ?_)
    · have h := h.1 c_6
      refine J_aload_n dX3_doClause_33 rfl 0 rfl  ?_
      refine J_bipush (v := 110) dX3_doClause_34 (by decide)  ?_
      refine J_callV (h := 35) (ci := 1) (As := [.int 110]) (rest := []) (n := 1) dX3_doClause_36 (c_X3_passSign 110  _ _ h) (by decide) rfl tb_2_234 tb_2_231 tb_1_3 tb_2_233 sl_6 (by decide) rfl (by decide) (by decide) (Nat.le_of_ble_eq_true rfl) rfl (fun v_r_8 S_7 hq => ?_)
      obtain ⟨r_8, rfl, h⟩ := hq
      dsimp only [Option.toList, List.cons_append, List.nil_append]
      refine J_if_eq (tgt := 51) dX3_doClause_39 (by decide) (fun c_9 => ?_) (fun c_9 => ?_)
      · have h := h.1 c_9
        refine J_aload_n dX3_doClause_51 rfl 0 rfl  ?_
        refine J_bipush (v := 112) dX3_doClause_52 (by decide)  ?_
        refine J_callV (h := 35) (ci := 1) (As := [.int 112]) (rest := []) (n := 1) dX3_doClause_54 (c_X3_passSign 112  _ _ h) (by decide) rfl tb_2_234 tb_2_231 tb_1_3 tb_2_233 sl_6 (by decide) rfl (by decide) (by decide) (Nat.le_of_ble_eq_true rfl) rfl (fun v_r_11 S_10 hq => ?_)
        obtain ⟨r_11, rfl, h⟩ := hq
        dsimp only [Option.toList, List.cons_append, List.nil_append]
        refine J_if_eq (tgt := 69) dX3_doClause_57 (by decide) (fun c_12 => ?_) (fun c_12 => ?_)
        · have h := h.1 c_12
          refine J_aload_n dX3_doClause_69 rfl 0 rfl  ?_
          refine J_bipush (v := 111) dX3_doClause_70 (by decide)  ?_
          refine J_callV (h := 35) (ci := 1) (As := [.int 111]) (rest := []) (n := 1) dX3_doClause_72 (c_X3_passSign 111  _ _ h) (by decide) rfl tb_2_234 tb_2_231 tb_1_3 tb_2_233 sl_6 (by decide) rfl (by decide) (by decide) (Nat.le_of_ble_eq_true rfl) rfl (fun v_r_14 S_13 hq => ?_)
          obtain ⟨r_14, rfl, h⟩ := hq
          dsimp only [Option.toList, List.cons_append, List.nil_append]
          refine J_if_eq (tgt := 87) dX3_doClause_75 (by decide) (fun c_15 => ?_) (fun c_15 => ?_)
          · have h := h.1 c_15
            refine J_aload_n dX3_doClause_87 rfl 0 rfl  ?_
            refine J_callV (h := 35) (ci := 1) (As := []) (rest := []) (n := 0) dX3_doClause_88 (c_X3_passDigit   _ _ h) (by decide) rfl tb_3_2 tb_2_239 tb_1_3 tb_3_1 sl_8 (by decide) rfl (by decide) (by decide) (Nat.le_of_ble_eq_true rfl) rfl (fun v_r_17 S_16 hq => ?_)
            obtain ⟨r_17, rfl, h⟩ := hq
            dsimp only [Option.toList, List.cons_append, List.nil_append]
            refine J_istore_n (lv' := [(0, .ref (g.1 + 35)), (1, .ref (g.1 + 1)), (2, .int r_17)]) dX3_doClause_91 rfl (by decide) [1, 2, 0] rfl  ?_
            refine J_aload_n dX3_doClause_92 rfl 0 rfl  ?_
            refine J_bipush (v := 58) dX3_doClause_93 (by decide)  ?_
            refine J_callV (h := 35) (ci := 1) (As := [.int 58]) (rest := []) (n := 1) dX3_doClause_95 (c_X3_passSign 58  _ _ h) (by decide) rfl tb_2_234 tb_2_231 tb_1_3 tb_2_233 sl_6 (by decide) rfl (by decide) (by decide) (Nat.le_of_ble_eq_true rfl) rfl (fun v_r_19 S_18 hq => ?_)
            obtain ⟨r_19, rfl, h⟩ := hq
            dsimp only [Option.toList, List.cons_append, List.nil_append]
            refine J_pop dX3_doClause_98 rfl  ?_
            refine J_aload_n dX3_doClause_99 rfl 0 rfl  ?_
            refine J_aload_n dX3_doClause_100 rfl 1 rfl  ?_
            refine J_callV (h := 35) (ci := 1) (As := [.ref (g.1 + 1)]) (rest := []) (n := 1) dX3_doClause_101 (c_X3_addUp   _ _ h) (by decide) rfl tb_3_31 tb_3_28 tb_1_3 tb_3_30 sl_13 (by decide) rfl (by decide) (by decide) (Nat.le_of_ble_eq_true rfl) rfl (fun v_r_21 S_20 hq => ?_)
            obtain ⟨r_21, rfl, h⟩ := hq
            dsimp only [Option.toList, List.cons_append, List.nil_append]
            refine J_if_eq (tgt := 115) dX3_doClause_104 (by decide) (fun c_22 => ?_) (fun c_22 => ?_)
            · have h := h.1 c_22
              refine J_sub (lv' := [(0, .ref (g.1 + 35)), (1, .ref (g.1 + 1))]) [0, 1] rfl ?_
              exact l_X3_doClause_115   _    _  h
            · have h := h.2 c_22
              refine J_aload_n dX3_doClause_107 rfl 1 rfl  ?_
              refine J_iload_n dX3_doClause_108 rfl 2 rfl  ?_
              refine J_callV (h := 1) (ci := 2) (As := [.int r_17]) (rest := []) (n := 1) dX3_doClause_109 (c_X4_hasElement r_17  _ _ h) (by decide) rfl tb_2_83 tb_3_38 tb_1_2 tb_2_81 tb_2_82 (by decide) rfl (by decide) (by decide) (Nat.le_of_ble_eq_true rfl) rfl (fun v_r_24 S_23 hq => ?_)
              obtain ⟨r_24, rfl, h⟩ := hq
              dsimp only [Option.toList, List.cons_append, List.nil_append]
              refine J_if_ne (tgt := 117) dX3_doClause_112 (by decide) (fun c_25 => ?_) (fun c_25 => ?_)
              · have h := h.1 c_25
                refine J_aload_n dX3_doClause_117 rfl 1 rfl  ?_
                refine J_iload_n dX3_doClause_118 rfl 2 rfl  ?_
                refine J_aload_n dX3_doClause_119 rfl 0 rfl  ?_
                refine J_getr (r := 37) (ci := 1) dX3_doClause_120 3 rfl giX3 (by decide) (by decide) rfl rfl tb_1_109 (by decide) (by decide)  ?_
                refine J_callV (h := 1) (ci := 2) (As := [.int r_17, .ref (g.1 + 37)]) (rest := []) (n := 2) dX3_doClause_123 (c_X4_replaceElement r_17 37 (by decide) _ _ h) (by decide) rfl tb_2_119 tb_3_39 tb_1_2 tb_2_117 tb_2_118 (by decide) rfl (by decide) (by decide) (Nat.le_of_ble_eq_true rfl) rfl (fun v_r_27 S_26 hq => ?_)
                obtain ⟨r_27, rfl, h⟩ := hq
                dsimp only [Option.toList, List.cons_append, List.nil_append]
                refine J_pop dX3_doClause_126 rfl  ?_
                refine J_iconst (v := 1) dX3_doClause_127 (by decide)  ?_
                exact J_iret dX3_doClause_128 rfl rfl ⟨_, rfl, h⟩
              · have h := h.2 c_25
                refine J_sub (lv' := [(0, .ref (g.1 + 35)), (1, .ref (g.1 + 1))]) [0, 1] rfl ?_
                exact l_X3_doClause_115   _    _  h
          · have h := h.2 c_15
            refine J_aload_n dX3_doClause_78 rfl 1 rfl  ?_
            refine J_aload_n dX3_doClause_79 rfl 0 rfl  ?_
            refine J_callV (h := 35) (ci := 1) (As := []) (rest := [.ref (g.1 + 1)]) (n := 0) dX3_doClause_80 (c_X3_passDigit   _ _ h) (by decide) rfl tb_3_2 tb_2_239 tb_1_3 tb_3_1 sl_8 (by decide) rfl (by decide) (by decide) (Nat.le_of_ble_eq_true rfl) rfl (fun v_r_29 S_28 hq => ?_)
            obtain ⟨r_29, rfl, h⟩ := hq
            dsimp only [Option.toList, List.cons_append, List.nil_append]
            refine J_callV (h := 1) (ci := 2) (As := [.int r_29]) (rest := []) (n := 1) dX3_doClause_83 (c_X4_takeKind r_29  _ _ h) (by decide) rfl tb_2_72 tb_3_27 tb_1_2 tb_2_70 tb_2_71 (by decide) rfl (by decide) (by decide) (Nat.le_of_ble_eq_true rfl) rfl (fun v_r_31 S_30 hq => ?_)
            obtain ⟨r_31, rfl, h⟩ := hq
            dsimp only [Option.toList, List.cons_append, List.nil_append]
            obtain ⟨hb, h⟩ := h
            exact J_iret dX3_doClause_86 rfl hb ⟨_, rfl, h⟩
        · have h := h.2 c_12
          refine J_aload_n dX3_doClause_60 rfl 1 rfl  ?_
          refine J_aload_n dX3_doClause_61 rfl 0 rfl  ?_
          refine J_callV (h := 35) (ci := 1) (As := []) (rest := [.ref (g.1 + 1)]) (n := 0) dX3_doClause_62 (c_X3_passDigit   _ _ h) (by decide) rfl tb_3_2 tb_2_239 tb_1_3 tb_3_1 sl_8 (by decide) rfl (by decide) (by decide) (Nat.le_of_ble_eq_true rfl) rfl (fun v_r_33 S_32 hq => ?_)
          obtain ⟨r_33, rfl, h⟩ := hq
          dsimp only [Option.toList, List.cons_append, List.nil_append]
          refine J_callV (h := 1) (ci := 2) (As := [.int r_33]) (rest := []) (n := 1) dX3_doClause_65 (c_X4_takePrime r_33  _ _ h) (by decide) rfl tb_2_64 tb_3_26 tb_1_2 tb_2_62 tb_2_63 (by decide) rfl (by decide) (by decide) (Nat.le_of_ble_eq_true rfl) rfl (fun v_r_35 S_34 hq => ?_)
          obtain ⟨r_35, rfl, h⟩ := hq
          dsimp only [Option.toList, List.cons_append, List.nil_append]
          obtain ⟨hb, h⟩ := h
          exact J_iret dX3_doClause_68 rfl hb ⟨_, rfl, h⟩
      · have h := h.2 c_9
        refine J_aload_n dX3_doClause_42 rfl 1 rfl  ?_
        refine J_aload_n dX3_doClause_43 rfl 0 rfl  ?_
        refine J_callV (h := 35) (ci := 1) (As := []) (rest := [.ref (g.1 + 1)]) (n := 0) dX3_doClause_44 (c_X3_passDigit   _ _ h) (by decide) rfl tb_3_2 tb_2_239 tb_1_3 tb_3_1 sl_8 (by decide) rfl (by decide) (by decide) (Nat.le_of_ble_eq_true rfl) rfl (fun v_r_37 S_36 hq => ?_)
        obtain ⟨r_37, rfl, h⟩ := hq
        dsimp only [Option.toList, List.cons_append, List.nil_append]
        refine J_callV (h := 1) (ci := 2) (As := [.int r_37]) (rest := []) (n := 1) dX3_doClause_47 (c_X4_takeLetters r_37  _ _ h) (by decide) rfl tb_2_48 tb_3_25 tb_1_2 tb_2_46 tb_2_47 (by decide) rfl (by decide) (by decide) (Nat.le_of_ble_eq_true rfl) rfl (fun v_r_39 S_38 hq => ?_)
        obtain ⟨r_39, rfl, h⟩ := hq
        dsimp only [Option.toList, List.cons_append, List.nil_append]
        obtain ⟨hb, h⟩ := h
        exact J_iret dX3_doClause_50 rfl hb ⟨_, rfl, h⟩
    · have h := h.2 c_6
      refine J_aload_n dX3_doClause_24 rfl 1 rfl  ?_
      refine J_aload_n dX3_doClause_25 rfl 0 rfl  ?_
      refine J_callV (h := 35) (ci := 1) (As := []) (rest := [.ref (g.1 + 1)]) (n := 0) dX3_doClause_26 (c_X3_passDigit   _ _ h) (by decide) rfl tb_3_2 tb_2_239 tb_1_3 tb_3_1 sl_8 (by decide) rfl (by decide) (by decide) (Nat.le_of_ble_eq_true rfl) rfl (fun v_r_41 S_40 hq => ?_)
      obtain ⟨r_41, rfl, h⟩ := hq
      dsimp only [Option.toList, List.cons_append, List.nil_append]
      refine J_callV (h := 1) (ci := 2) (As := [.int r_41]) (rest := []) (n := 1) dX3_doClause_29 (c_X4_addGenerator r_41  _ _ h) (by decide) rfl tb_2_205 tb_3_24 tb_1_2 tb_2_203 tb_2_204 (by decide) rfl (by decide) (by decide) (Nat.le_of_ble_eq_true rfl) rfl (fun v_r_43 S_42 hq => ?_)
      obtain ⟨r_43, rfl, h⟩ := hq
      dsimp only [Option.toList, List.cons_append, List.nil_append]
      obtain ⟨hb, h⟩ := h
      exact J_iret dX3_doClause_32 rfl hb ⟨_, rfl, h⟩
  · have h := h.2 c_3
    refine J_aload_n dX3_doClause_9 rfl 1 rfl  ?_
    refine J_callV (h := 1) (ci := 2) (As := []) (rest := []) (n := 0) dX3_doClause_10 (c_X4_dropGenerators   _ _ h) (by decide) rfl tb_2_56 tb_3_23 tb_1_2 tb_2_54 tb_2_55 (by decide) rfl (by decide) (by decide) (Nat.le_of_ble_eq_true rfl) rfl (fun v_r_45 S_44 hq => ?_)
    obtain ⟨rfl, h⟩ := hq
    dsimp only [Option.toList, List.cons_append, List.nil_append]
    refine J_iconst (v := 1) dX3_doClause_13 (by decide)  ?_
    exact J_iret dX3_doClause_14 rfl rfl ⟨_, rfl, h⟩
def q_X3_perform_55   (Q : Int32 → Sto → Prop) (x2 : Int32) (S : Sto) : Prop := Q x2 S
set_option maxRecDepth 100000 in
set_option maxHeartbeats 4000000 in
theorem l_X3_perform_55 {g : Gv}   (Q : Int32 → Sto → Prop)   (x2 : Int32) (S : Sto)  (h : q_X3_perform_55   Q x2 S) : RJ g cX3_perform RX3 (some .int) 4 6 55 [(0, .ref (g.1 + 35)), (1, .ref (g.1 + 1)), (2, .int x2)] [] S (Qi Q) := by
  unfold q_X3_perform_55 at h
  refine J_iload_n dX3_perform_55 rfl 2 rfl  ?_
  exact J_iret dX3_perform_56 rfl rfl ⟨_, rfl, h⟩
def q_X3_perform_40  (R9 : Int32 → Int32 → Sto → Prop) (Q : Int32 → Sto → Prop) (x3 : Int32) (t0 : Int32) (t1 : Int32) (S : Sto) : Prop := ∀ x2_1 : Int32, x2_1 = t0 + t1 → wp_X3_passSign 59 S (fun r_3 S_2 => ∀ x3_4 : Int32, x3_4 = x3 + 1 → R9 x2_1 x3_4 S_2)
set_option maxRecDepth 100000 in
set_option maxHeartbeats 4000000 in
theorem l_X3_perform_40 {g : Gv}  (R9 : Int32 → Int32 → Sto → Prop) (Q : Int32 → Sto → Prop) (hR9 : ∀ (y2 : Int32) (y3 : Int32) (S : Sto), R9 y2 y3 S → RJ g cX3_perform RX3 (some .int) 4 6 9 [(0, .ref (g.1 + 35)), (1, .ref (g.1 + 1)), (2, .int y2), (3, .int y3)] [] S (Qi Q))  (x3 : Int32) (t0 : Int32) (t1 : Int32) (S : Sto)  (h : q_X3_perform_40  R9 Q x3 t0 t1 S) : RJ g cX3_perform RX3 (some .int) 4 6 40 [(0, .ref (g.1 + 35)), (1, .ref (g.1 + 1)), (3, .int x3)] [.int t1, .int t0] S (Qi Q) := by
  unfold q_X3_perform_40 at h
  refine J_iadd dX3_perform_40  ?_
  refine J_topi (fun x2_1 ex2_1 => ?_)
  have h := h x2_1 ex2_1
  refine J_istore_n (lv' := [(0, .ref (g.1 + 35)), (1, .ref (g.1 + 1)), (2, .int x2_1), (3, .int x3)]) dX3_perform_41 rfl (by decide) [1, 2, 0, 3] rfl  ?_
  refine J_aload_n dX3_perform_42 rfl 0 rfl  ?_
  refine J_bipush (v := 59) dX3_perform_43 (by decide)  ?_
  refine J_callV (h := 35) (ci := 1) (As := [.int 59]) (rest := []) (n := 1) dX3_perform_45 (c_X3_passSign 59  _ _ h) (by decide) rfl tb_2_234 tb_2_231 tb_1_3 tb_2_233 sl_6 (by decide) rfl (by decide) (by decide) (Nat.le_of_ble_eq_true rfl) rfl (fun v_r_3 S_2 hq => ?_)
  obtain ⟨r_3, rfl, h⟩ := hq
  dsimp only [Option.toList, List.cons_append, List.nil_append]
  refine J_pop dX3_perform_48 rfl  ?_
  obtain ⟨x3_4, ex3_4⟩ : ∃ y : Int32, y = x3 + 1 := ⟨_, rfl⟩
  have h := h x3_4 ex3_4
  refine J_iinc (v := x3_4) (lv' := [(0, .ref (g.1 + 35)), (1, .ref (g.1 + 1)), (2, .int x2_1), (3, .int x3_4)]) dX3_perform_49 (q := 3) rfl (by rw [ex3_4]; rfl) (by decide) [1, 2, 3, 0] rfl  ?_
  refine J_goto (tgt := 9) dX3_perform_52 (by decide)  ?_
  exact hR9 _ _ _  h
def q_X3_perform_9   (Q : Int32 → Sto → Prop) : Nat → Int32 → Int32 → Sto → Prop
  | 0, _, _, _ => False
  | n + 1, x2, x3, S => ((12 < x3 → q_X3_perform_55   Q x2 S) ∧ (¬ 12 < x3 → (((S.1 35 1) ≤ (S.1 35 2) → q_X3_perform_55   Q x2 S) ∧ (¬ (S.1 35 1) ≤ (S.1 35 2) → wp_X3_doClause  S (fun r_4 S_3 => ((r_4 = 0 → q_X3_perform_40  (fun y2 y3 S => q_X3_perform_9   Q n y2 y3 S) Q x3 x2 0 S_3) ∧ (¬ r_4 = 0 → q_X3_perform_40  (fun y2 y3 S => q_X3_perform_9   Q n y2 y3 S) Q x3 x2 1 S_3)))))))
set_option maxRecDepth 100000 in
set_option maxHeartbeats 4000000 in
theorem l_X3_perform_9 {g : Gv}   (Q : Int32 → Sto → Prop)   (n : Nat) : ∀ (x2 : Int32) (x3 : Int32) (S : Sto)  (h : q_X3_perform_9   Q n x2 x3 S), RJ g cX3_perform RX3 (some .int) 4 6 9 [(0, .ref (g.1 + 35)), (1, .ref (g.1 + 1)), (2, .int x2), (3, .int x3)] [] S (Qi Q) := by
  induction n with
  | zero => intro x2 x3 S  h; exact h.elim
  | succ n ih =>
    intro x2 x3 S  h
    unfold q_X3_perform_9 at h
    refine J_iload_n dX3_perform_9 rfl 3 rfl  ?_
    refine J_bipush (v := 12) dX3_perform_10 (by decide)  ?_
    refine J_icmp_gt (tgt := 55) dX3_perform_12 (by decide) (fun c_1 => ?_) (fun c_1 => ?_)
    · have h := h.1 c_1
      refine J_sub (lv' := [(0, .ref (g.1 + 35)), (1, .ref (g.1 + 1)), (2, .int x2)]) [0, 1, 2] rfl ?_
      exact l_X3_perform_55   _   _ _  h
    · have h := h.2 c_1
      refine J_aload_n dX3_perform_15 rfl 0 rfl  ?_
      refine J_geti (ci := 1) dX3_perform_16 2 rfl giX3 (by decide) (by decide) rfl rfl tb_1_108 rfl  ?_
      refine J_aload_n dX3_perform_19 rfl 0 rfl  ?_
      refine J_geti (ci := 1) dX3_perform_20 1 rfl giX3 (by decide) (by decide) rfl rfl tb_1_106 rfl  ?_
      refine J_icmp_ge (tgt := 55) dX3_perform_23 (by decide) (fun c_2 => ?_) (fun c_2 => ?_)
      · have h := h.1 c_2
        refine J_sub (lv' := [(0, .ref (g.1 + 35)), (1, .ref (g.1 + 1)), (2, .int x2)]) [0, 1, 2] rfl ?_
        exact l_X3_perform_55   _   _ _  h
      · have h := h.2 c_2
        refine J_iload_n dX3_perform_26 rfl 2 rfl  ?_
        refine J_aload_n dX3_perform_27 rfl 0 rfl  ?_
        refine J_aload_n dX3_perform_28 rfl 1 rfl  ?_
        refine J_callV (h := 35) (ci := 1) (As := [.ref (g.1 + 1)]) (rest := [.int x2]) (n := 1) dX3_perform_29 (c_X3_doClause   _ _ h) (by decide) rfl tb_3_22 tb_3_19 tb_1_3 tb_3_21 sl_12 (by decide) rfl (by decide) (by decide) (Nat.le_of_ble_eq_true rfl) rfl (fun v_r_4 S_3 hq => ?_)
        obtain ⟨r_4, rfl, h⟩ := hq
        dsimp only [Option.toList, List.cons_append, List.nil_append]
        refine J_if_eq (tgt := 39) dX3_perform_32 (by decide) (fun c_5 => ?_) (fun c_5 => ?_)
        · have h := h.1 c_5
          refine J_iconst (v := 0) dX3_perform_39 (by decide)  ?_
          refine J_sub (lv' := [(0, .ref (g.1 + 35)), (1, .ref (g.1 + 1)), (3, .int x3)]) [0, 1, 3] rfl ?_
          exact l_X3_perform_40  _ _ (fun y2 y3 S  h => ih y2 y3 S  h)  _ _ _ _  h
        · have h := h.2 c_5
          refine J_iconst (v := 1) dX3_perform_35 (by decide)  ?_
          refine J_goto (tgt := 40) dX3_perform_36 (by decide)  ?_
          refine J_sub (lv' := [(0, .ref (g.1 + 35)), (1, .ref (g.1 + 1)), (3, .int x3)]) [0, 1, 3] rfl ?_
          exact l_X3_perform_40  _ _ (fun y2 y3 S  h => ih y2 y3 S  h)  _ _ _ _  h
def wp_X3_perform  (S : Sto) (Q : Int32 → Sto → Prop) : Prop := ∀ S_1 : Sto, S_1 = uA S 35 2 0 → (∃ n_9, q_X3_perform_9   Q n_9 0 1 S_1)
set_option maxRecDepth 100000 in
set_option maxHeartbeats 4000000 in
theorem c_X3_perform {g : Gv}   (S : Sto) (Q : Int32 → Sto → Prop) (h : wp_X3_perform  S Q) : CT g yX3_perform cX3_perform 4 (some .int) 6 [.ref (g.1 + 35), .ref (g.1 + 1)] S (Qi Q) := by
  unfold wp_X3_perform at h
  refine CT.of (by decide) (Nat.le_of_ble_eq_true rfl) ?_
  refine J_sub (lv' := [(0, .ref (g.1 + 35)), (1, .ref (g.1 + 1))]) [0, 1] rfl ?_
  refine J_iconst (v := 0) dX3_perform_0 (by decide)  ?_
  refine J_istore_n (lv' := [(0, .ref (g.1 + 35)), (1, .ref (g.1 + 1)), (2, .int 0)]) dX3_perform_1 rfl (by decide) [1, 2, 0] rfl  ?_
  refine J_aload_n dX3_perform_2 rfl 0 rfl  ?_
  refine J_iconst (v := 0) dX3_perform_3 (by decide)  ?_
  refine J_puti (ci := 1) dX3_perform_4 2 rfl giX3 (by decide) (by decide) rfl rfl tyX3 tyX3_ok nmX3 rfl rfl rfl rfl tb_1_108 rfl  ?_
  refine J_nmS (fun S_1 eS_1 => ?_)
  have h := h S_1 eS_1
  refine J_iconst (v := 1) dX3_perform_7 (by decide)  ?_
  refine J_istore_n (lv' := [(0, .ref (g.1 + 35)), (1, .ref (g.1 + 1)), (2, .int 0), (3, .int 1)]) dX3_perform_8 rfl (by decide) [1, 2, 3, 0] rfl  ?_
  obtain ⟨n, h⟩ := h
  exact l_X3_perform_9   _   n _ _ _  h
def q_X4_hasPlace_17 (p1 : Int32)  (Q : Int32 → Sto → Prop) (t0 : Int32) (S : Sto) : Prop := narrow .boolean (.int t0) = .int t0 ∧ Q t0 S
set_option maxRecDepth 100000 in
set_option maxHeartbeats 4000000 in
theorem l_X4_hasPlace_17 {g : Gv} (p1 : Int32)  (Q : Int32 → Sto → Prop)   (t0 : Int32) (S : Sto)  (h : q_X4_hasPlace_17 p1  Q t0 S) : RJ g cX4_hasPlace RX4 (some .boolean) 2 2 17 [(0, .ref (g.1 + 1)), (1, .int p1)] [.int t0] S (Qi Q) := by
  unfold q_X4_hasPlace_17 at h
  obtain ⟨hb, h⟩ := h
  exact J_iret dX4_hasPlace_17 rfl hb ⟨_, rfl, h⟩
def q_X4_hasPlace_16 (p1 : Int32)  (Q : Int32 → Sto → Prop)  (S : Sto) : Prop := q_X4_hasPlace_17 p1  Q 0 S
set_option maxRecDepth 100000 in
set_option maxHeartbeats 4000000 in
theorem l_X4_hasPlace_16 {g : Gv} (p1 : Int32)  (Q : Int32 → Sto → Prop)    (S : Sto)  (h : q_X4_hasPlace_16 p1  Q  S) : RJ g cX4_hasPlace RX4 (some .boolean) 2 2 16 [(0, .ref (g.1 + 1)), (1, .int p1)] [] S (Qi Q) := by
  unfold q_X4_hasPlace_16 at h
  refine J_iconst (v := 0) dX4_hasPlace_16 (by decide)  ?_
  exact l_X4_hasPlace_17 p1  _   _ _  h
def wp_X4_hasPlace (p1 : Int32) (S : Sto) (Q : Int32 → Sto → Prop) : Prop := ((p1 < 0 → q_X4_hasPlace_16 p1  Q  S) ∧ (¬ p1 < 0 → wp_X4_width  S (fun r_3 S_2 => ((r_3 ≤ p1 → q_X4_hasPlace_16 p1  Q  S_2) ∧ (¬ r_3 ≤ p1 → q_X4_hasPlace_17 p1  Q 1 S_2)))))
set_option maxRecDepth 100000 in
set_option maxHeartbeats 4000000 in
theorem c_X4_hasPlace {g : Gv} (p1 : Int32)  (S : Sto) (Q : Int32 → Sto → Prop) (h : wp_X4_hasPlace p1 S Q) : CT g yX4_hasPlace cX4_hasPlace 2 (some .boolean) 2 [.ref (g.1 + 1), .int p1] S (Qi Q) := by
  unfold wp_X4_hasPlace at h
  refine CT.of (by decide) (Nat.le_of_ble_eq_true rfl) ?_
  refine J_sub (lv' := [(0, .ref (g.1 + 1)), (1, .int p1)]) [0, 1] rfl ?_
  refine J_iload_n dX4_hasPlace_0 rfl 1 rfl  ?_
  refine J_if_lt (tgt := 16) dX4_hasPlace_1 (by decide) (fun c_1 => ?_) (fun c_1 => ?_)
  · have h := h.1 c_1
    exact l_X4_hasPlace_16 p1  _    _  h
  · have h := h.2 c_1
    refine J_iload_n dX4_hasPlace_4 rfl 1 rfl  ?_
    refine J_aload_n dX4_hasPlace_5 rfl 0 rfl  ?_
    refine J_callV (h := 1) (ci := 2) (As := []) (rest := [.int p1]) (n := 0) dX4_hasPlace_6 (c_X4_width   _ _ h) (by decide) rfl tb_2_91 tb_2_88 tb_1_2 tb_2_89 tb_2_90 (by decide) rfl (by decide) (by decide) (Nat.le_of_ble_eq_true rfl) rfl (fun v_r_3 S_2 hq => ?_)
    obtain ⟨r_3, rfl, h⟩ := hq
    dsimp only [Option.toList, List.cons_append, List.nil_append]
    refine J_icmp_ge (tgt := 16) dX4_hasPlace_9 (by decide) (fun c_4 => ?_) (fun c_4 => ?_)
    · have h := h.1 c_4
      exact l_X4_hasPlace_16 p1  _    _  h
    · have h := h.2 c_4
      refine J_iconst (v := 1) dX4_hasPlace_12 (by decide)  ?_
      refine J_goto (tgt := 17) dX4_hasPlace_13 (by decide)  ?_
      exact l_X4_hasPlace_17 p1  _   _ _  h
def q_X4_hasGenerator_17 (p1 : Int32)  (Q : Int32 → Sto → Prop) (t0 : Int32) (S : Sto) : Prop := narrow .boolean (.int t0) = .int t0 ∧ Q t0 S
set_option maxRecDepth 100000 in
set_option maxHeartbeats 4000000 in
theorem l_X4_hasGenerator_17 {g : Gv} (p1 : Int32)  (Q : Int32 → Sto → Prop)   (t0 : Int32) (S : Sto)  (h : q_X4_hasGenerator_17 p1  Q t0 S) : RJ g cX4_hasGenerator RX4 (some .boolean) 2 1 17 [(0, .ref (g.1 + 1)), (1, .int p1)] [.int t0] S (Qi Q) := by
  unfold q_X4_hasGenerator_17 at h
  obtain ⟨hb, h⟩ := h
  exact J_iret dX4_hasGenerator_17 rfl hb ⟨_, rfl, h⟩
def q_X4_hasGenerator_16 (p1 : Int32)  (Q : Int32 → Sto → Prop)  (S : Sto) : Prop := q_X4_hasGenerator_17 p1  Q 0 S
set_option maxRecDepth 100000 in
set_option maxHeartbeats 4000000 in
theorem l_X4_hasGenerator_16 {g : Gv} (p1 : Int32)  (Q : Int32 → Sto → Prop)    (S : Sto)  (h : q_X4_hasGenerator_16 p1  Q  S) : RJ g cX4_hasGenerator RX4 (some .boolean) 2 1 16 [(0, .ref (g.1 + 1)), (1, .int p1)] [] S (Qi Q) := by
  unfold q_X4_hasGenerator_16 at h
  refine J_iconst (v := 0) dX4_hasGenerator_16 (by decide)  ?_
  exact l_X4_hasGenerator_17 p1  _   _ _  h
def wp_X4_hasGenerator (p1 : Int32) (S : Sto) (Q : Int32 → Sto → Prop) : Prop := ((p1 < 0 → q_X4_hasGenerator_16 p1  Q  S) ∧ (¬ p1 < 0 → (((S.1 1 5) ≤ p1 → q_X4_hasGenerator_16 p1  Q  S) ∧ (¬ (S.1 1 5) ≤ p1 → q_X4_hasGenerator_17 p1  Q 1 S))))
set_option maxRecDepth 100000 in
set_option maxHeartbeats 4000000 in
theorem c_X4_hasGenerator {g : Gv} (p1 : Int32)  (S : Sto) (Q : Int32 → Sto → Prop) (h : wp_X4_hasGenerator p1 S Q) : CT g yX4_hasGenerator cX4_hasGenerator 2 (some .boolean) 1 [.ref (g.1 + 1), .int p1] S (Qi Q) := by
  unfold wp_X4_hasGenerator at h
  refine CT.of (by decide) (Nat.le_of_ble_eq_true rfl) ?_
  refine J_sub (lv' := [(0, .ref (g.1 + 1)), (1, .int p1)]) [0, 1] rfl ?_
  refine J_iload_n dX4_hasGenerator_0 rfl 1 rfl  ?_
  refine J_if_lt (tgt := 16) dX4_hasGenerator_1 (by decide) (fun c_1 => ?_) (fun c_1 => ?_)
  · have h := h.1 c_1
    exact l_X4_hasGenerator_16 p1  _    _  h
  · have h := h.2 c_1
    refine J_iload_n dX4_hasGenerator_4 rfl 1 rfl  ?_
    refine J_aload_n dX4_hasGenerator_5 rfl 0 rfl  ?_
    refine J_geti (ci := 2) dX4_hasGenerator_6 5 rfl giX4 (by decide) (by decide) rfl rfl tb_1_52 rfl  ?_
    refine J_icmp_ge (tgt := 16) dX4_hasGenerator_9 (by decide) (fun c_2 => ?_) (fun c_2 => ?_)
    · have h := h.1 c_2
      exact l_X4_hasGenerator_16 p1  _    _  h
    · have h := h.2 c_2
      refine J_iconst (v := 1) dX4_hasGenerator_12 (by decide)  ?_
      refine J_goto (tgt := 17) dX4_hasGenerator_13 (by decide)  ?_
      exact l_X4_hasGenerator_17 p1  _   _ _  h
def q_X4_hasSpot_31 (p1 : Int32)  (Q : Int32 → Sto → Prop) (t0 : Int32) (S : Sto) : Prop := narrow .boolean (.int t0) = .int t0 ∧ Q t0 S
set_option maxRecDepth 100000 in
set_option maxHeartbeats 4000000 in
theorem l_X4_hasSpot_31 {g : Gv} (p1 : Int32)  (Q : Int32 → Sto → Prop)   (t0 : Int32) (S : Sto)  (h : q_X4_hasSpot_31 p1  Q t0 S) : RJ g cX4_hasSpot RX4 (some .boolean) 2 3 31 [(0, .ref (g.1 + 1)), (1, .int p1)] [.int t0] S (Qi Q) := by
  unfold q_X4_hasSpot_31 at h
  obtain ⟨hb, h⟩ := h
  exact J_iret dX4_hasSpot_31 rfl hb ⟨_, rfl, h⟩
def q_X4_hasSpot_30 (p1 : Int32)  (Q : Int32 → Sto → Prop)  (S : Sto) : Prop := q_X4_hasSpot_31 p1  Q 0 S
set_option maxRecDepth 100000 in
set_option maxHeartbeats 4000000 in
theorem l_X4_hasSpot_30 {g : Gv} (p1 : Int32)  (Q : Int32 → Sto → Prop)    (S : Sto)  (h : q_X4_hasSpot_30 p1  Q  S) : RJ g cX4_hasSpot RX4 (some .boolean) 2 3 30 [(0, .ref (g.1 + 1)), (1, .int p1)] [] S (Qi Q) := by
  unfold q_X4_hasSpot_30 at h
  refine J_iconst (v := 0) dX4_hasSpot_30 (by decide)  ?_
  exact l_X4_hasSpot_31 p1  _   _ _  h
def wp_X4_hasSpot (p1 : Int32) (S : Sto) (Q : Int32 → Sto → Prop) : Prop := ((p1 < 0 → q_X4_hasSpot_30 p1  Q  S) ∧ (¬ p1 < 0 → wp_X4_hasElement (p1 / 100) S (fun r_3 S_2 => ((r_3 = 0 → q_X4_hasSpot_30 p1  Q  S_2) ∧ (¬ r_3 = 0 → wp_X4_hasPlace (p1 - p1 / 100 * 100) S_2 (fun r_6 S_5 => ((r_6 = 0 → q_X4_hasSpot_30 p1  Q  S_5) ∧ (¬ r_6 = 0 → q_X4_hasSpot_31 p1  Q 1 S_5))))))))
set_option maxRecDepth 100000 in
set_option maxHeartbeats 4000000 in
theorem c_X4_hasSpot {g : Gv} (p1 : Int32)  (S : Sto) (Q : Int32 → Sto → Prop) (h : wp_X4_hasSpot p1 S Q) : CT g yX4_hasSpot cX4_hasSpot 2 (some .boolean) 3 [.ref (g.1 + 1), .int p1] S (Qi Q) := by
  unfold wp_X4_hasSpot at h
  refine CT.of (by decide) (Nat.le_of_ble_eq_true rfl) ?_
  refine J_sub (lv' := [(0, .ref (g.1 + 1)), (1, .int p1)]) [0, 1] rfl ?_
  refine J_iload_n dX4_hasSpot_0 rfl 1 rfl  ?_
  refine J_if_lt (tgt := 30) dX4_hasSpot_1 (by decide) (fun c_1 => ?_) (fun c_1 => ?_)
  · have h := h.1 c_1
    exact l_X4_hasSpot_30 p1  _    _  h
  · have h := h.2 c_1
    refine J_aload_n dX4_hasSpot_4 rfl 0 rfl  ?_
    refine J_iload_n dX4_hasSpot_5 rfl 1 rfl  ?_
    refine J_bipush (v := 100) dX4_hasSpot_6 (by decide)  ?_
    refine J_idiv dX4_hasSpot_8 (by decide)  ?_
    refine J_callV (h := 1) (ci := 2) (As := [.int (p1 / 100)]) (rest := []) (n := 1) dX4_hasSpot_9 (c_X4_hasElement (p1 / 100)  _ _ h) (by decide) rfl tb_2_83 tb_2_120 tb_1_2 tb_2_81 tb_2_82 (by decide) rfl (by decide) (by decide) (Nat.le_of_ble_eq_true rfl) rfl (fun v_r_3 S_2 hq => ?_)
    obtain ⟨r_3, rfl, h⟩ := hq
    dsimp only [Option.toList, List.cons_append, List.nil_append]
    refine J_if_eq (tgt := 30) dX4_hasSpot_12 (by decide) (fun c_4 => ?_) (fun c_4 => ?_)
    · have h := h.1 c_4
      exact l_X4_hasSpot_30 p1  _    _  h
    · have h := h.2 c_4
      refine J_aload_n dX4_hasSpot_15 rfl 0 rfl  ?_
      refine J_iload_n dX4_hasSpot_16 rfl 1 rfl  ?_
      refine J_bipush (v := 100) dX4_hasSpot_17 (by decide)  ?_
      refine J_irem dX4_hasSpot_19 (by decide)  ?_
      refine J_callV (h := 1) (ci := 2) (As := [.int (p1 - p1 / 100 * 100)]) (rest := []) (n := 1) dX4_hasSpot_20 (c_X4_hasPlace (p1 - p1 / 100 * 100)  _ _ h) (by decide) rfl tb_2_87 tb_4_22 tb_1_2 tb_2_85 tb_2_86 (by decide) rfl (by decide) (by decide) (Nat.le_of_ble_eq_true rfl) rfl (fun v_r_6 S_5 hq => ?_)
      obtain ⟨r_6, rfl, h⟩ := hq
      dsimp only [Option.toList, List.cons_append, List.nil_append]
      refine J_if_eq (tgt := 30) dX4_hasSpot_23 (by decide) (fun c_7 => ?_) (fun c_7 => ?_)
      · have h := h.1 c_7
        exact l_X4_hasSpot_30 p1  _    _  h
      · have h := h.2 c_7
        refine J_iconst (v := 1) dX4_hasSpot_26 (by decide)  ?_
        refine J_goto (tgt := 31) dX4_hasSpot_27 (by decide)  ?_
        exact l_X4_hasSpot_31 p1  _   _ _  h
def wp_X4_addEvent (p1 : Int32) (p2 : Int32) (S : Sto) (Q : Int32 → Sto → Prop) : Prop := (((S.1 1 8) < 8 → vp_in (S.1 1 8) (8) ∧ ∀ S_3 : Sto, S_3 = uA S 14 (S.1 1 8 : Int32).toNatClampNeg p1 → vp_in (S_3.1 1 8) (8) ∧ ∀ S_5 : Sto, S_5 = uA S_3 15 (S_3.1 1 8 : Int32).toNatClampNeg p2 → ∀ S_6 : Sto, S_6 = uA S_5 1 8 ((S_5.1 1 8) + 1) → Q 1 S_6) ∧ (¬ (S.1 1 8) < 8 → Q 0 S))
set_option maxRecDepth 100000 in
set_option maxHeartbeats 4000000 in
theorem c_X4_addEvent {g : Gv} (p1 : Int32) (p2 : Int32)  (S : Sto) (Q : Int32 → Sto → Prop) (h : wp_X4_addEvent p1 p2 S Q) : CT g yX4_addEvent cX4_addEvent 3 (some .boolean) 1 [.ref (g.1 + 1), .int p1, .int p2] S (Qi Q) := by
  unfold wp_X4_addEvent at h
  refine CT.of (by decide) (Nat.le_of_ble_eq_true rfl) ?_
  refine J_sub (lv' := [(0, .ref (g.1 + 1)), (1, .int p1), (2, .int p2)]) [0, 1, 2] rfl ?_
  refine J_aload_n dX4_addEvent_0 rfl 0 rfl  ?_
  refine J_geti (ci := 2) dX4_addEvent_1 8 rfl giX4 (by decide) (by decide) rfl rfl tb_1_60 rfl  ?_
  refine J_bipush (v := 8) dX4_addEvent_4 (by decide)  ?_
  refine J_icmp_lt (tgt := 11) dX4_addEvent_6 (by decide) (fun c_1 => ?_) (fun c_1 => ?_)
  · have h := h.1 c_1
    refine J_aload_n dX4_addEvent_11 rfl 0 rfl  ?_
    refine J_getr (r := 14) (ci := 2) dX4_addEvent_12 6 rfl giX4 (by decide) (by decide) rfl rfl tb_1_56 (by decide) (by decide)  ?_
    refine J_aload_n dX4_addEvent_15 rfl 0 rfl  ?_
    refine J_geti (ci := 2) dX4_addEvent_16 8 rfl giX4 (by decide) (by decide) rfl rfl tb_1_60 rfl  ?_
    refine J_iload_n dX4_addEvent_19 rfl 1 rfl  ?_
    obtain ⟨hi_2, h⟩ := h
    refine J_iast dX4_addEvent_20 (by decide) hi_2  ?_
    refine J_nmS (fun S_3 eS_3 => ?_)
    have h := h S_3 eS_3
    refine J_aload_n dX4_addEvent_21 rfl 0 rfl  ?_
    refine J_getr (r := 15) (ci := 2) dX4_addEvent_22 7 rfl giX4 (by decide) (by decide) rfl rfl tb_1_58 (by decide) (by decide)  ?_
    refine J_aload_n dX4_addEvent_25 rfl 0 rfl  ?_
    refine J_geti (ci := 2) dX4_addEvent_26 8 rfl giX4 (by decide) (by decide) rfl rfl tb_1_60 rfl  ?_
    refine J_iload_n dX4_addEvent_29 rfl 2 rfl  ?_
    obtain ⟨hi_4, h⟩ := h
    refine J_iast dX4_addEvent_30 (by decide) hi_4  ?_
    refine J_nmS (fun S_5 eS_5 => ?_)
    have h := h S_5 eS_5
    refine J_aload_n dX4_addEvent_31 rfl 0 rfl  ?_
    refine J_dup dX4_addEvent_32 rfl  ?_
    refine J_geti (ci := 2) dX4_addEvent_33 8 rfl giX4 (by decide) (by decide) rfl rfl tb_1_60 rfl  ?_
    refine J_iconst (v := 1) dX4_addEvent_36 (by decide)  ?_
    refine J_iadd dX4_addEvent_37  ?_
    refine J_puti (ci := 2) dX4_addEvent_38 8 rfl giX4 (by decide) (by decide) rfl rfl tyX4 tyX4_ok nmX4 rfl rfl rfl rfl tb_1_60 rfl  ?_
    refine J_nmS (fun S_6 eS_6 => ?_)
    have h := h S_6 eS_6
    refine J_iconst (v := 1) dX4_addEvent_41 (by decide)  ?_
    exact J_iret dX4_addEvent_42 rfl rfl ⟨_, rfl, h⟩
  · have h := h.2 c_1
    refine J_iconst (v := 0) dX4_addEvent_9 (by decide)  ?_
    exact J_iret dX4_addEvent_10 rfl rfl ⟨_, rfl, h⟩
def wp_X4_addToBook (p1 : Int32) (p2 : Int32) (S : Sto) (Q : Int32 → Sto → Prop) : Prop := (((S.1 1 11) < 8 → vp_in (S.1 1 11) (8) ∧ ∀ S_3 : Sto, S_3 = uA S 16 (S.1 1 11 : Int32).toNatClampNeg p1 → vp_in (S_3.1 1 11) (8) ∧ ∀ S_5 : Sto, S_5 = uA S_3 17 (S_3.1 1 11 : Int32).toNatClampNeg p2 → ∀ S_6 : Sto, S_6 = uA S_5 1 11 ((S_5.1 1 11) + 1) → Q 1 S_6) ∧ (¬ (S.1 1 11) < 8 → Q 0 S))
set_option maxRecDepth 100000 in
set_option maxHeartbeats 4000000 in
theorem c_X4_addToBook {g : Gv} (p1 : Int32) (p2 : Int32)  (S : Sto) (Q : Int32 → Sto → Prop) (h : wp_X4_addToBook p1 p2 S Q) : CT g yX4_addToBook cX4_addToBook 3 (some .boolean) 1 [.ref (g.1 + 1), .int p1, .int p2] S (Qi Q) := by
  unfold wp_X4_addToBook at h
  refine CT.of (by decide) (Nat.le_of_ble_eq_true rfl) ?_
  refine J_sub (lv' := [(0, .ref (g.1 + 1)), (1, .int p1), (2, .int p2)]) [0, 1, 2] rfl ?_
  refine J_aload_n dX4_addToBook_0 rfl 0 rfl  ?_
  refine J_geti (ci := 2) dX4_addToBook_1 11 rfl giX4 (by decide) (by decide) rfl rfl tb_1_67 rfl  ?_
  refine J_bipush (v := 8) dX4_addToBook_4 (by decide)  ?_
  refine J_icmp_lt (tgt := 11) dX4_addToBook_6 (by decide) (fun c_1 => ?_) (fun c_1 => ?_)
  · have h := h.1 c_1
    refine J_aload_n dX4_addToBook_11 rfl 0 rfl  ?_
    refine J_getr (r := 16) (ci := 2) dX4_addToBook_12 9 rfl giX4 (by decide) (by decide) rfl rfl tb_1_63 (by decide) (by decide)  ?_
    refine J_aload_n dX4_addToBook_15 rfl 0 rfl  ?_
    refine J_geti (ci := 2) dX4_addToBook_16 11 rfl giX4 (by decide) (by decide) rfl rfl tb_1_67 rfl  ?_
    refine J_iload_n dX4_addToBook_19 rfl 1 rfl  ?_
    obtain ⟨hi_2, h⟩ := h
    refine J_iast dX4_addToBook_20 (by decide) hi_2  ?_
    refine J_nmS (fun S_3 eS_3 => ?_)
    have h := h S_3 eS_3
    refine J_aload_n dX4_addToBook_21 rfl 0 rfl  ?_
    refine J_getr (r := 17) (ci := 2) dX4_addToBook_22 10 rfl giX4 (by decide) (by decide) rfl rfl tb_1_65 (by decide) (by decide)  ?_
    refine J_aload_n dX4_addToBook_25 rfl 0 rfl  ?_
    refine J_geti (ci := 2) dX4_addToBook_26 11 rfl giX4 (by decide) (by decide) rfl rfl tb_1_67 rfl  ?_
    refine J_iload_n dX4_addToBook_29 rfl 2 rfl  ?_
    obtain ⟨hi_4, h⟩ := h
    refine J_iast dX4_addToBook_30 (by decide) hi_4  ?_
    refine J_nmS (fun S_5 eS_5 => ?_)
    have h := h S_5 eS_5
    refine J_aload_n dX4_addToBook_31 rfl 0 rfl  ?_
    refine J_dup dX4_addToBook_32 rfl  ?_
    refine J_geti (ci := 2) dX4_addToBook_33 11 rfl giX4 (by decide) (by decide) rfl rfl tb_1_67 rfl  ?_
    refine J_iconst (v := 1) dX4_addToBook_36 (by decide)  ?_
    refine J_iadd dX4_addToBook_37  ?_
    refine J_puti (ci := 2) dX4_addToBook_38 11 rfl giX4 (by decide) (by decide) rfl rfl tyX4 tyX4_ok nmX4 rfl rfl rfl rfl tb_1_67 rfl  ?_
    refine J_nmS (fun S_6 eS_6 => ?_)
    have h := h S_6 eS_6
    refine J_iconst (v := 1) dX4_addToBook_41 (by decide)  ?_
    exact J_iret dX4_addToBook_42 rfl rfl ⟨_, rfl, h⟩
  · have h := h.2 c_1
    refine J_iconst (v := 0) dX4_addToBook_9 (by decide)  ?_
    exact J_iret dX4_addToBook_10 rfl rfl ⟨_, rfl, h⟩
