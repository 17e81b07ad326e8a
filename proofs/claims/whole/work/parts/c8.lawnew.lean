/-! the law makes both -/
set_option maxRecDepth 100000 in
set_option maxHeartbeats 8000000 in
theorem law_new {g : Gv} : NJ g cL_law RL 4 10 0 [(0, .ref g.2.1.2.1)] [] [] 380 212312 (([] ++ oX8 g 0 :: bX8 g 0) ++ oX9 g 353 :: bX9 g 353) (fun pc ls st => pc = 16 ∧ st = [] ∧ lv_has ls 4 [(0, .ref g.2.1.2.1), (1, .ref (g.1 + 0)), (2, .ref (g.1 + 353))]) := by
  refine N_new (T := []) (ci := 6) (fs := zX8) rfl giX8 tyX8 tyX8_ok tb_1_16 tb_1_17 (by decide +kernel) zX8_ok dL_law_0 (mc' := 379) (ms' := 212304) (Nat.le_of_ble_eq_true rfl) (Nat.le_of_ble_eq_true rfl) ?_
  refine N_dup dL_law_3 rfl ?_
  refine N_callI (a := g.1 + 0) (As := []) (rest := [.ref (g.1 + 0)]) (n := 0) (mc1 := 352) (ms1 := 12493) dL_law_4 (k_X8 (g := g) (n := 0) [] rfl) tb_1_20 tb_1_18 tb_1_1 tb_1_19 rfl (by decide +kernel) rfl (by decide) (by decide) (Nat.le_of_ble_eq_true rfl) rfl (mc' := 27) (ms' := 199811) (Nat.le_of_ble_eq_true rfl) (Nat.le_of_ble_eq_true rfl) ?_
  refine N_astore_n dL_law_7 rfl (by decide) [1, 0] rfl ?_
  refine N_new (ci := 7) (fs := zX9) rfl giX9 tyX9 tyX9_ok tb_4_104 tb_4_105 (by decide +kernel) zX9_ok dL_law_8 (mc' := 26) (ms' := 199768) (Nat.le_of_ble_eq_true rfl) (Nat.le_of_ble_eq_true rfl) ?_
  rw [sg_len]
  refine N_dup dL_law_11 rfl ?_
  refine N_callI (a := g.1 + 353) (As := []) (rest := [.ref (g.1 + 353)]) (n := 0) (mc1 := 26) (ms1 := 199768) dL_law_12 (k_X9 (g := g) (n := 353) ([] ++ oX8 g 0 :: bX8 g 0) sg_len) tb_4_108 tb_4_106 (by decide +kernel) tb_4_107 rfl (by decide +kernel) rfl (by decide) (by decide) (Nat.le_of_ble_eq_true rfl) rfl (mc' := 0) (ms' := 0) (Nat.le_of_ble_eq_true rfl) (Nat.le_of_ble_eq_true rfl) ?_
  refine N_astore_n dL_law_15 rfl (by decide) [1, 2, 0] rfl ?_
  exact N_end rfl (fun ls hl => ⟨rfl, rfl, hl⟩)
