def oX8 (g : Gv) (n : Nat) : va_E := .inr (6, [.ref (g.1 + (n + 1 + 0)), .ref (g.1 + (n + 1 + 17)), .int 0, .ref (g.1 + (n + 1 + 34)), .ref (g.1 + (n + 1 + 37)), .ref (g.1 + (n + 1 + 47)), .ref (g.1 + (n + 1 + 205)), .ref (g.1 + (n + 1 + 351))])
def bX8 (g : Gv) (n : Nat) : List va_E := ((((((([] ++ (oX4 g (n + 1 + 0) :: bX4 g (n + 1 + 0))) ++ (oX4 g (n + 1 + 17) :: bX4 g (n + 1 + 17))) ++ (oX3 g (n + 1 + 34) :: bX3 g (n + 1 + 34))) ++ (oX7 g (n + 1 + 37) :: bX7 g (n + 1 + 37))) ++ (oX1 g (n + 1 + 47) :: bX1 g (n + 1 + 47))) ++ (oX6 g (n + 1 + 205) :: bX6 g (n + 1 + 205))) ++ [.inl (g.2.2.1 0, 16, .inl (fun _ => 0))])
set_option maxHeartbeats 4000000 in
set_option maxRecDepth 100000 in
theorem k_X8 {g : Gv} {n : Nat} (A : List va_E) (hA : A.length = n) : NC g yX8_init cX8_init 1 3 [.ref (g.1 + n)] (A ++ .inr (6, zX8) :: []) (A ++ oX8 g n :: bX8 g n) 352 12493 := by
  refine NC.of (by decide +kernel) rfl (Nat.le_of_ble_eq_true rfl) ?_
  refine N_aload_n dX8_init_0 rfl 0 rfl ?_
  refine N_obj dX8_init_1 (by decide +kernel) ow_obj1 ow_obj2 (by decide) ?_
  refine N_aload_n dX8_init_4 rfl 0 rfl ?_
  refine M_new hA (nb := 0) (by rfl) (ci := 2) (fs := zX4) rfl giX4 tyX4 tyX4_ok tb_1_24 tb_1_25 tb_1_2 zX4_ok dX8_init_5 (mc' := 351) (ms' := 12480) (Nat.le_of_ble_eq_true rfl) (Nat.le_of_ble_eq_true rfl) ?_
  refine N_dup dX8_init_8 rfl ?_
  refine M_callN (host := RX8) hA (nb := 0) (by rfl) (As := []) (mc1 := 16) (ms1 := 202) dX8_init_9 (fun A1 h1 => k_X4 A1 h1) tb_1_28 (fun _ h => h.1) tb_1_2 tb_1_27 rfl (by decide +kernel) rfl (by decide) (by decide) (Nat.le_of_ble_eq_true rfl) rfl (mc' := 335) (ms' := 12278) (Nat.le_of_ble_eq_true rfl) (Nat.le_of_ble_eq_true rfl) ?_
  refine M_putF (own := RX8) hA (ci := 6) (fs := [.null, .null, .int 0, .null, .null, .null, .null, .null]) (fs' := [.ref (g.1 + (n + 1 + 0)), .null, .int 0, .null, .null, .null, .null, .null]) (v := .ref (g.1 + (n + 1 + 0))) dX8_init_12 0 rfl giX8 (by decide) rfl rfl rfl (by decide +kernel) tyX8 tyX8_ok nmX8 rfl rfl rfl rfl tb_2_16 rfl ?_
  refine N_aload_n dX8_init_15 rfl 0 rfl ?_
  refine M_new hA (nb := 17) (by rfl) (ci := 2) (fs := zX4) rfl giX4 tyX4 tyX4_ok tb_1_24 tb_1_25 tb_1_2 zX4_ok dX8_init_16 (mc' := 334) (ms' := 12265) (Nat.le_of_ble_eq_true rfl) (Nat.le_of_ble_eq_true rfl) ?_
  refine N_dup dX8_init_19 rfl ?_
  refine M_callN (host := RX8) hA (nb := 17) (by rfl) (As := []) (mc1 := 16) (ms1 := 202) dX8_init_20 (fun A1 h1 => k_X4 A1 h1) tb_1_28 (fun _ h => h.1) tb_1_2 tb_1_27 rfl (by decide +kernel) rfl (by decide) (by decide) (Nat.le_of_ble_eq_true rfl) rfl (mc' := 318) (ms' := 12063) (Nat.le_of_ble_eq_true rfl) (Nat.le_of_ble_eq_true rfl) ?_
  refine M_putF (own := RX8) hA (ci := 6) (fs := [.ref (g.1 + (n + 1 + 0)), .null, .int 0, .null, .null, .null, .null, .null]) (fs' := [.ref (g.1 + (n + 1 + 0)), .ref (g.1 + (n + 1 + 17)), .int 0, .null, .null, .null, .null, .null]) (v := .ref (g.1 + (n + 1 + 17))) dX8_init_23 1 rfl giX8 (by decide) rfl rfl rfl (by decide +kernel) tyX8 tyX8_ok nmX8 rfl rfl rfl rfl tb_2_17 rfl ?_
  refine N_aload_n dX8_init_26 rfl 0 rfl ?_
  refine N_iconst (v := 0) dX8_init_27 (by decide) ?_
  refine M_put (own := RX8) hA (ci := 6) (fs := [.ref (g.1 + (n + 1 + 0)), .ref (g.1 + (n + 1 + 17)), .int 0, .null, .null, .null, .null, .null]) (fs' := [.ref (g.1 + (n + 1 + 0)), .ref (g.1 + (n + 1 + 17)), .int 0, .null, .null, .null, .null, .null]) (v := .int 0) dX8_init_28 2 rfl giX8 (by decide) rfl rfl tyX8 tyX8_ok nmX8 rfl rfl rfl rfl tb_2_18 rfl ?_
  refine N_aload_n dX8_init_31 rfl 0 rfl ?_
  refine M_new hA (nb := 34) (by rfl) (ci := 1) (fs := zX3) rfl giX3 tyX3 tyX3_ok tb_1_99 tb_1_100 tb_1_3 zX3_ok dX8_init_32 (mc' := 317) (ms' := 12059) (Nat.le_of_ble_eq_true rfl) (Nat.le_of_ble_eq_true rfl) ?_
  refine N_dup dX8_init_35 rfl ?_
  refine M_callN (host := RX8) hA (nb := 34) (by rfl) (As := []) (mc1 := 2) (ms1 := 116) dX8_init_36 (fun A1 h1 => k_X3 A1 h1) tb_1_103 (fun _ h => h.2.1) tb_1_3 tb_1_102 rfl (by decide +kernel) rfl (by decide) (by decide) (Nat.le_of_ble_eq_true rfl) rfl (mc' := 315) (ms' := 11943) (Nat.le_of_ble_eq_true rfl) (Nat.le_of_ble_eq_true rfl) ?_
  refine M_putF (own := RX8) hA (ci := 6) (fs := [.ref (g.1 + (n + 1 + 0)), .ref (g.1 + (n + 1 + 17)), .int 0, .null, .null, .null, .null, .null]) (fs' := [.ref (g.1 + (n + 1 + 0)), .ref (g.1 + (n + 1 + 17)), .int 0, .ref (g.1 + (n + 1 + 34)), .null, .null, .null, .null]) (v := .ref (g.1 + (n + 1 + 34))) dX8_init_39 3 rfl giX8 (by decide) rfl rfl rfl (by decide +kernel) tyX8 tyX8_ok nmX8 rfl rfl rfl rfl tb_2_19 rfl ?_
  refine N_aload_n dX8_init_42 rfl 0 rfl ?_
  refine M_new hA (nb := 37) (by rfl) (ci := 5) (fs := zX7) rfl giX7 tyX7 tyX7_ok tb_1_119 tb_1_120 tb_1_4 zX7_ok dX8_init_43 (mc' := 314) (ms' := 11940) (Nat.le_of_ble_eq_true rfl) (Nat.le_of_ble_eq_true rfl) ?_
  refine N_dup dX8_init_46 rfl ?_
  refine M_callI hA (nb := 37) (by rfl) (As := []) (mc1 := 9) (ms1 := 378) dX8_init_47 (fun A1 h1 => k_X7 A1 h1) tb_1_123 tb_1_121 tb_1_4 tb_1_122 rfl (by decide +kernel) rfl (by decide) (by decide) (Nat.le_of_ble_eq_true rfl) rfl (mc' := 305) (ms' := 11562) (Nat.le_of_ble_eq_true rfl) (Nat.le_of_ble_eq_true rfl) ?_
  refine M_putF (own := RX8) hA (ci := 6) (fs := [.ref (g.1 + (n + 1 + 0)), .ref (g.1 + (n + 1 + 17)), .int 0, .ref (g.1 + (n + 1 + 34)), .null, .null, .null, .null]) (fs' := [.ref (g.1 + (n + 1 + 0)), .ref (g.1 + (n + 1 + 17)), .int 0, .ref (g.1 + (n + 1 + 34)), .ref (g.1 + (n + 1 + 37)), .null, .null, .null]) (v := .ref (g.1 + (n + 1 + 37))) dX8_init_50 4 rfl giX8 (by decide) rfl rfl rfl (by decide +kernel) tyX8 tyX8_ok nmX8 rfl rfl rfl rfl tb_2_20 rfl ?_
  refine N_aload_n dX8_init_53 rfl 0 rfl ?_
  refine M_new hA (nb := 47) (by rfl) (ci := 0) (fs := zX1) rfl giX1 tyX1 tyX1_ok tb_1_141 tb_1_142 tb_1_5 zX1_ok dX8_init_54 (mc' := 304) (ms' := 11548) (Nat.le_of_ble_eq_true rfl) (Nat.le_of_ble_eq_true rfl) ?_
  refine N_dup dX8_init_57 rfl ?_
  refine M_callN (host := RX8) hA (nb := 47) (by rfl) (As := []) (mc1 := 157) (ms1 := 2417) dX8_init_58 (fun A1 h1 => k_X1 A1 h1) tb_1_145 (fun _ h => h.2.2.1) tb_1_5 tb_1_144 rfl (by decide +kernel) rfl (by decide) (by decide) (Nat.le_of_ble_eq_true rfl) rfl (mc' := 147) (ms' := 9131) (Nat.le_of_ble_eq_true rfl) (Nat.le_of_ble_eq_true rfl) ?_
  refine M_putF (own := RX8) hA (ci := 6) (fs := [.ref (g.1 + (n + 1 + 0)), .ref (g.1 + (n + 1 + 17)), .int 0, .ref (g.1 + (n + 1 + 34)), .ref (g.1 + (n + 1 + 37)), .null, .null, .null]) (fs' := [.ref (g.1 + (n + 1 + 0)), .ref (g.1 + (n + 1 + 17)), .int 0, .ref (g.1 + (n + 1 + 34)), .ref (g.1 + (n + 1 + 37)), .ref (g.1 + (n + 1 + 47)), .null, .null]) (v := .ref (g.1 + (n + 1 + 47))) dX8_init_61 5 rfl giX8 (by decide) rfl rfl rfl (by decide +kernel) tyX8 tyX8_ok nmX8 rfl rfl rfl rfl tb_2_21 rfl ?_
  refine N_aload_n dX8_init_64 rfl 0 rfl ?_
  refine M_new hA (nb := 205) (by rfl) (ci := 4) (fs := zX6) rfl giX6 tyX6 tyX6_ok tb_1_225 tb_1_226 tb_1_7 zX6_ok dX8_init_65 (mc' := 146) (ms' := 9124) (Nat.le_of_ble_eq_true rfl) (Nat.le_of_ble_eq_true rfl) ?_
  refine N_dup dX8_init_68 rfl ?_
  refine M_callN (host := RX8) hA (nb := 205) (by rfl) (As := []) (mc1 := 145) (ms1 := 9108) dX8_init_69 (fun A1 h1 => k_X6 A1 h1) tb_1_229 (fun _ h => h.2.2.2) tb_1_7 tb_1_228 rfl (by decide +kernel) rfl (by decide) (by decide) (Nat.le_of_ble_eq_true rfl) rfl (mc' := 1) (ms' := 16) (Nat.le_of_ble_eq_true rfl) (Nat.le_of_ble_eq_true rfl) ?_
  refine M_putF (own := RX8) hA (ci := 6) (fs := [.ref (g.1 + (n + 1 + 0)), .ref (g.1 + (n + 1 + 17)), .int 0, .ref (g.1 + (n + 1 + 34)), .ref (g.1 + (n + 1 + 37)), .ref (g.1 + (n + 1 + 47)), .null, .null]) (fs' := [.ref (g.1 + (n + 1 + 0)), .ref (g.1 + (n + 1 + 17)), .int 0, .ref (g.1 + (n + 1 + 34)), .ref (g.1 + (n + 1 + 37)), .ref (g.1 + (n + 1 + 47)), .ref (g.1 + (n + 1 + 205)), .null]) (v := .ref (g.1 + (n + 1 + 205))) dX8_init_72 6 rfl giX8 (by decide) rfl rfl rfl (by decide +kernel) tyX8 tyX8_ok nmX8 rfl rfl rfl rfl tb_2_22 rfl ?_
  refine N_aload_n dX8_init_75 rfl 0 rfl ?_
  refine N_bipush (v := 16) dX8_init_76 (by decide) ?_
  refine M_newa hA (nb := 351) (by rfl) (atype := .int) (ty := .int) 0 rfl rfl (N := 16) (a0 := (16, .inl (fun _ => 0))) (fun _ => rfl) (by decide) (by decide) (Nat.le_of_ble_eq_true rfl) ow_int dX8_init_78 (mc' := 0) (ms' := 0) (Nat.le_of_ble_eq_true rfl) (Nat.le_of_ble_eq_true rfl) ?_
  refine M_putF (own := RX8) hA (ci := 6) (fs := [.ref (g.1 + (n + 1 + 0)), .ref (g.1 + (n + 1 + 17)), .int 0, .ref (g.1 + (n + 1 + 34)), .ref (g.1 + (n + 1 + 37)), .ref (g.1 + (n + 1 + 47)), .ref (g.1 + (n + 1 + 205)), .null]) (fs' := [.ref (g.1 + (n + 1 + 0)), .ref (g.1 + (n + 1 + 17)), .int 0, .ref (g.1 + (n + 1 + 34)), .ref (g.1 + (n + 1 + 37)), .ref (g.1 + (n + 1 + 47)), .ref (g.1 + (n + 1 + 205)), .ref (g.1 + (n + 1 + 351))]) (v := .ref (g.1 + (n + 1 + 351))) dX8_init_80 7 rfl giX8 (by decide) rfl rfl rfl (by decide +kernel) tyX8 tyX8_ok nmX8 rfl rfl rfl rfl tb_2_23 rfl ?_
  exact N_end rfl (fun _ _ => ⟨rfl, dX8_init_83⟩)
