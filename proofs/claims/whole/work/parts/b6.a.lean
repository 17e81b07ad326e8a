def oX5_64 (g : Gv) (n : Nat) : va_E := .inr (3, [.ref (g.1 + (n + 1 + 0)), .ref (g.1 + (n + 1 + 65)), .int 0, .int 0, .int 2, .int 0])
def bX5_64 (g : Gv) (n : Nat) : List va_E := (([] ++ (.inl (g.2.2.1 3, 64, .inr (.inr (.inr (.inr (fun j => some (g.1 + (n + 1 + 0 + 1 + j))))))) :: List.replicate 64 (.inl (g.2.2.1 0, 64, .inl (fun _ => 0))))) ++ [.inl (g.2.2.1 1, 64, .inl (fun _ => 0))])
set_option maxHeartbeats 4000000 in
set_option maxRecDepth 100000 in
theorem k_X5_64 {g : Gv} {n : Nat} (A : List va_E) (hA : A.length = n) : NC g yX5_init cX5_init 2 1 [.ref (g.1 + n), .int 64] (A ++ .inr (3, zX5) :: []) (A ++ oX5_64 g n :: bX5_64 g n) 66 4224 := by
  refine NC.of (by decide +kernel) rfl (Nat.le_of_ble_eq_true rfl) ?_
  refine N_aload_n dX5_init_0 rfl 0 rfl ?_
  refine N_obj dX5_init_1 (by decide +kernel) ow_obj1 ow_obj2 (by decide) ?_
  refine N_aload_n dX5_init_4 rfl 0 rfl ?_
  refine N_iconst (v := 0) dX5_init_5 (by decide) ?_
  refine M_put (own := RX5) hA (fs := [.null, .null, .int 0, .int 0, .int 0, .int 0]) (fs' := [.null, .null, .int 0, .int 0, .int 0, .int 0]) (v := .int 0) dX5_init_6 2 rfl giX5 (by decide) rfl rfl tyX5 tyX5_ok nmX5 rfl rfl rfl rfl tb_1_159 rfl ?_
  refine N_aload_n dX5_init_9 rfl 0 rfl ?_
  refine N_iconst (v := 0) dX5_init_10 (by decide) ?_
  refine M_put (own := RX5) hA (fs := [.null, .null, .int 0, .int 0, .int 0, .int 0]) (fs' := [.null, .null, .int 0, .int 0, .int 0, .int 0]) (v := .int 0) dX5_init_11 3 rfl giX5 (by decide) rfl rfl tyX5 tyX5_ok nmX5 rfl rfl rfl rfl tb_1_162 rfl ?_
  refine N_aload_n dX5_init_14 rfl 0 rfl ?_
  refine N_iconst (v := 2) dX5_init_15 (by decide) ?_
  refine M_put (own := RX5) hA (fs := [.null, .null, .int 0, .int 0, .int 0, .int 0]) (fs' := [.null, .null, .int 0, .int 0, .int 2, .int 0]) (v := .int 2) dX5_init_16 4 rfl giX5 (by decide) rfl rfl tyX5 tyX5_ok nmX5 rfl rfl rfl rfl tb_1_164 rfl ?_
  refine N_aload_n dX5_init_19 rfl 0 rfl ?_
  refine N_iconst (v := 0) dX5_init_20 (by decide) ?_
  refine M_put (own := RX5) hA (fs := [.null, .null, .int 0, .int 0, .int 2, .int 0]) (fs' := [.null, .null, .int 0, .int 0, .int 2, .int 0]) (v := .int 0) dX5_init_21 5 rfl giX5 (by decide) rfl rfl tyX5 tyX5_ok nmX5 rfl rfl rfl rfl tb_1_165 rfl ?_
  refine N_aload_n dX5_init_24 rfl 0 rfl ?_
  refine N_iload_n dX5_init_25 rfl 1 rfl ?_
  refine N_iload_n dX5_init_26 rfl 1 rfl ?_
  refine M_multi hA (nb := 0) (by rfl) AR.ints (N := 64) (M := 64) (a0 := (64, .inl (fun _ => 0))) (fun _ => rfl) (by decide) (by decide) (by decide) (by decide) (Nat.le_of_ble_eq_true rfl) (Nat.le_of_ble_eq_true rfl) (Nat.le_of_ble_eq_true rfl) rfl tb_1_153 dX5_init_27 (mc' := 1) (ms' := 64) (Nat.le_of_ble_eq_true rfl) (Nat.le_of_ble_eq_true rfl) ?_
  refine M_putF (own := RX5) hA (fs := [.null, .null, .int 0, .int 0, .int 2, .int 0]) (fs' := [.ref (g.1 + (n + 1 + 0)), .null, .int 0, .int 0, .int 2, .int 0]) (v := .ref (g.1 + (n + 1 + 0))) dX5_init_31 0 rfl giX5 (by decide) rfl rfl rfl (by decide +kernel) tyX5 tyX5_ok nmX5 rfl rfl rfl rfl tb_1_154 rfl ?_
  refine N_aload_n dX5_init_34 rfl 0 rfl ?_
  refine N_iload_n dX5_init_35 rfl 1 rfl ?_
  refine M_newa hA (nb := 65) (by rfl) (atype := .boolean) (ty := .boolean) 1 rfl rfl (N := 64) (a0 := (64, .inl (fun _ => 0))) (fun _ => rfl) (by decide) (by decide) (Nat.le_of_ble_eq_true rfl) ow_bool dX5_init_36 (mc' := 0) (ms' := 0) (Nat.le_of_ble_eq_true rfl) (Nat.le_of_ble_eq_true rfl) ?_
  refine M_putF (own := RX5) hA (fs := [.ref (g.1 + (n + 1 + 0)), .null, .int 0, .int 0, .int 2, .int 0]) (fs' := [.ref (g.1 + (n + 1 + 0)), .ref (g.1 + (n + 1 + 65)), .int 0, .int 0, .int 2, .int 0]) (v := .ref (g.1 + (n + 1 + 65))) dX5_init_38 1 rfl giX5 (by decide) rfl rfl rfl (by decide +kernel) tyX5 tyX5_ok nmX5 rfl rfl rfl rfl tb_1_158 rfl ?_
  exact N_end rfl (fun _ _ => ⟨rfl, dX5_init_41⟩)
def oX4 (g : Gv) (n : Nat) : va_E := .inr (2, [.int 3, .int 5, .int 0, .ref (g.1 + (n + 1 + 0)), .ref (g.1 + (n + 1 + 7)), .int 0, .ref (g.1 + (n + 1 + 12)), .ref (g.1 + (n + 1 + 13)), .int 0, .ref (g.1 + (n + 1 + 14)), .ref (g.1 + (n + 1 + 15)), .int 0, .int 0])
def bX4 (g : Gv) (n : Nat) : List va_E := (((((([] ++ (.inl (g.2.2.1 3, 6, .inr (.inr (.inr (.inr (fun j => some (g.1 + (n + 1 + 0 + 1 + j))))))) :: List.replicate 6 (.inl (g.2.2.1 0, 16, .inl (fun _ => 0))))) ++ (.inl (g.2.2.1 3, 4, .inr (.inr (.inr (.inr (fun j => some (g.1 + (n + 1 + 7 + 1 + j))))))) :: List.replicate 4 (.inl (g.2.2.1 0, 16, .inl (fun _ => 0))))) ++ [.inl (g.2.2.1 0, 8, .inl (fun _ => 0))]) ++ [.inl (g.2.2.1 0, 8, .inl (fun _ => 0))]) ++ [.inl (g.2.2.1 0, 8, .inl (fun _ => 0))]) ++ [.inl (g.2.2.1 0, 8, .inl (fun _ => 0))])
set_option maxHeartbeats 4000000 in
set_option maxRecDepth 100000 in
theorem k_X4 {g : Gv} {n : Nat} (A : List va_E) (hA : A.length = n) : NC g yX4_init cX4_init 1 1 [.ref (g.1 + n)] (A ++ .inr (2, zX4) :: []) (A ++ oX4 g n :: bX4 g n) 16 202 := by
  refine NC.of (by decide +kernel) rfl (Nat.le_of_ble_eq_true rfl) ?_
  refine N_aload_n dX4_init_0 rfl 0 rfl ?_
  refine N_obj dX4_init_1 (by decide +kernel) ow_obj1 ow_obj2 (by decide) ?_
  refine N_aload_n dX4_init_4 rfl 0 rfl ?_
  refine N_iconst (v := 3) dX4_init_5 (by decide) ?_
  refine M_put (own := RX4) hA (fs := [.int 0, .int 0, .int 0, .null, .null, .int 0, .null, .null, .int 0, .null, .null, .int 0, .int 0]) (fs' := [.int 3, .int 0, .int 0, .null, .null, .int 0, .null, .null, .int 0, .null, .null, .int 0, .int 0]) (v := .int 3) dX4_init_6 0 rfl giX4 (by decide) rfl rfl tyX4 tyX4_ok nmX4 rfl rfl rfl rfl tb_1_32 rfl ?_
  refine N_aload_n dX4_init_9 rfl 0 rfl ?_
  refine N_iconst (v := 5) dX4_init_10 (by decide) ?_
  refine M_put (own := RX4) hA (fs := [.int 3, .int 0, .int 0, .null, .null, .int 0, .null, .null, .int 0, .null, .null, .int 0, .int 0]) (fs' := [.int 3, .int 5, .int 0, .null, .null, .int 0, .null, .null, .int 0, .null, .null, .int 0, .int 0]) (v := .int 5) dX4_init_11 1 rfl giX4 (by decide) rfl rfl tyX4 tyX4_ok nmX4 rfl rfl rfl rfl tb_1_37 rfl ?_
  refine N_aload_n dX4_init_14 rfl 0 rfl ?_
  refine N_iconst (v := 0) dX4_init_15 (by decide) ?_
  refine M_put (own := RX4) hA (fs := [.int 3, .int 5, .int 0, .null, .null, .int 0, .null, .null, .int 0, .null, .null, .int 0, .int 0]) (fs' := [.int 3, .int 5, .int 0, .null, .null, .int 0, .null, .null, .int 0, .null, .null, .int 0, .int 0]) (v := .int 0) dX4_init_16 2 rfl giX4 (by decide) rfl rfl tyX4 tyX4_ok nmX4 rfl rfl rfl rfl tb_1_42 rfl ?_
  refine N_aload_n dX4_init_19 rfl 0 rfl ?_
  refine N_bipush (v := 6) dX4_init_20 (by decide) ?_
  refine N_bipush (v := 16) dX4_init_22 (by decide) ?_
  refine M_multi hA (nb := 0) (by rfl) AR.ints (N := 6) (M := 16) (a0 := (16, .inl (fun _ => 0))) (fun _ => rfl) (by decide) (by decide) (by decide) (by decide) (Nat.le_of_ble_eq_true rfl) (Nat.le_of_ble_eq_true rfl) (Nat.le_of_ble_eq_true rfl) rfl tb_1_30 dX4_init_24 (mc' := 9) (ms' := 100) (Nat.le_of_ble_eq_true rfl) (Nat.le_of_ble_eq_true rfl) ?_
  refine M_putF (own := RX4) hA (fs := [.int 3, .int 5, .int 0, .null, .null, .int 0, .null, .null, .int 0, .null, .null, .int 0, .int 0]) (fs' := [.int 3, .int 5, .int 0, .ref (g.1 + (n + 1 + 0)), .null, .int 0, .null, .null, .int 0, .null, .null, .int 0, .int 0]) (v := .ref (g.1 + (n + 1 + 0))) dX4_init_28 3 rfl giX4 (by decide) rfl rfl rfl (by decide +kernel) tyX4 tyX4_ok nmX4 rfl rfl rfl rfl tb_1_45 rfl ?_
  refine N_aload_n dX4_init_31 rfl 0 rfl ?_
  refine N_iconst (v := 4) dX4_init_32 (by decide) ?_
  refine N_bipush (v := 16) dX4_init_33 (by decide) ?_
  refine M_multi hA (nb := 7) (by rfl) AR.ints (N := 4) (M := 16) (a0 := (16, .inl (fun _ => 0))) (fun _ => rfl) (by decide) (by decide) (by decide) (by decide) (Nat.le_of_ble_eq_true rfl) (Nat.le_of_ble_eq_true rfl) (Nat.le_of_ble_eq_true rfl) rfl tb_1_30 dX4_init_35 (mc' := 4) (ms' := 32) (Nat.le_of_ble_eq_true rfl) (Nat.le_of_ble_eq_true rfl) ?_
  refine M_putF (own := RX4) hA (fs := [.int 3, .int 5, .int 0, .ref (g.1 + (n + 1 + 0)), .null, .int 0, .null, .null, .int 0, .null, .null, .int 0, .int 0]) (fs' := [.int 3, .int 5, .int 0, .ref (g.1 + (n + 1 + 0)), .ref (g.1 + (n + 1 + 7)), .int 0, .null, .null, .int 0, .null, .null, .int 0, .int 0]) (v := .ref (g.1 + (n + 1 + 7))) dX4_init_39 4 rfl giX4 (by decide) rfl rfl rfl (by decide +kernel) tyX4 tyX4_ok nmX4 rfl rfl rfl rfl tb_1_48 rfl ?_
  refine N_aload_n dX4_init_42 rfl 0 rfl ?_
  refine N_iconst (v := 0) dX4_init_43 (by decide) ?_
  refine M_put (own := RX4) hA (fs := [.int 3, .int 5, .int 0, .ref (g.1 + (n + 1 + 0)), .ref (g.1 + (n + 1 + 7)), .int 0, .null, .null, .int 0, .null, .null, .int 0, .int 0]) (fs' := [.int 3, .int 5, .int 0, .ref (g.1 + (n + 1 + 0)), .ref (g.1 + (n + 1 + 7)), .int 0, .null, .null, .int 0, .null, .null, .int 0, .int 0]) (v := .int 0) dX4_init_44 5 rfl giX4 (by decide) rfl rfl tyX4 tyX4_ok nmX4 rfl rfl rfl rfl tb_1_52 rfl ?_
  refine N_aload_n dX4_init_47 rfl 0 rfl ?_
  refine N_bipush (v := 8) dX4_init_48 (by decide) ?_
  refine M_newa hA (nb := 12) (by rfl) (atype := .int) (ty := .int) 0 rfl rfl (N := 8) (a0 := (8, .inl (fun _ => 0))) (fun _ => rfl) (by decide) (by decide) (Nat.le_of_ble_eq_true rfl) ow_int dX4_init_50 (mc' := 3) (ms' := 24) (Nat.le_of_ble_eq_true rfl) (Nat.le_of_ble_eq_true rfl) ?_
  refine M_putF (own := RX4) hA (fs := [.int 3, .int 5, .int 0, .ref (g.1 + (n + 1 + 0)), .ref (g.1 + (n + 1 + 7)), .int 0, .null, .null, .int 0, .null, .null, .int 0, .int 0]) (fs' := [.int 3, .int 5, .int 0, .ref (g.1 + (n + 1 + 0)), .ref (g.1 + (n + 1 + 7)), .int 0, .ref (g.1 + (n + 1 + 12)), .null, .int 0, .null, .null, .int 0, .int 0]) (v := .ref (g.1 + (n + 1 + 12))) dX4_init_52 6 rfl giX4 (by decide) rfl rfl rfl (by decide +kernel) tyX4 tyX4_ok nmX4 rfl rfl rfl rfl tb_1_56 rfl ?_
  refine N_aload_n dX4_init_55 rfl 0 rfl ?_
  refine N_bipush (v := 8) dX4_init_56 (by decide) ?_
  refine M_newa hA (nb := 13) (by rfl) (atype := .int) (ty := .int) 0 rfl rfl (N := 8) (a0 := (8, .inl (fun _ => 0))) (fun _ => rfl) (by decide) (by decide) (Nat.le_of_ble_eq_true rfl) ow_int dX4_init_58 (mc' := 2) (ms' := 16) (Nat.le_of_ble_eq_true rfl) (Nat.le_of_ble_eq_true rfl) ?_
  refine M_putF (own := RX4) hA (fs := [.int 3, .int 5, .int 0, .ref (g.1 + (n + 1 + 0)), .ref (g.1 + (n + 1 + 7)), .int 0, .ref (g.1 + (n + 1 + 12)), .null, .int 0, .null, .null, .int 0, .int 0]) (fs' := [.int 3, .int 5, .int 0, .ref (g.1 + (n + 1 + 0)), .ref (g.1 + (n + 1 + 7)), .int 0, .ref (g.1 + (n + 1 + 12)), .ref (g.1 + (n + 1 + 13)), .int 0, .null, .null, .int 0, .int 0]) (v := .ref (g.1 + (n + 1 + 13))) dX4_init_60 7 rfl giX4 (by decide) rfl rfl rfl (by decide +kernel) tyX4 tyX4_ok nmX4 rfl rfl rfl rfl tb_1_58 rfl ?_
  refine N_aload_n dX4_init_63 rfl 0 rfl ?_
  refine N_iconst (v := 0) dX4_init_64 (by decide) ?_
  refine M_put (own := RX4) hA (fs := [.int 3, .int 5, .int 0, .ref (g.1 + (n + 1 + 0)), .ref (g.1 + (n + 1 + 7)), .int 0, .ref (g.1 + (n + 1 + 12)), .ref (g.1 + (n + 1 + 13)), .int 0, .null, .null, .int 0, .int 0]) (fs' := [.int 3, .int 5, .int 0, .ref (g.1 + (n + 1 + 0)), .ref (g.1 + (n + 1 + 7)), .int 0, .ref (g.1 + (n + 1 + 12)), .ref (g.1 + (n + 1 + 13)), .int 0, .null, .null, .int 0, .int 0]) (v := .int 0) dX4_init_65 8 rfl giX4 (by decide) rfl rfl tyX4 tyX4_ok nmX4 rfl rfl rfl rfl tb_1_60 rfl ?_
  refine N_aload_n dX4_init_68 rfl 0 rfl ?_
  refine N_bipush (v := 8) dX4_init_69 (by decide) ?_
  refine M_newa hA (nb := 14) (by rfl) (atype := .int) (ty := .int) 0 rfl rfl (N := 8) (a0 := (8, .inl (fun _ => 0))) (fun _ => rfl) (by decide) (by decide) (Nat.le_of_ble_eq_true rfl) ow_int dX4_init_71 (mc' := 1) (ms' := 8) (Nat.le_of_ble_eq_true rfl) (Nat.le_of_ble_eq_true rfl) ?_
  refine M_putF (own := RX4) hA (fs := [.int 3, .int 5, .int 0, .ref (g.1 + (n + 1 + 0)), .ref (g.1 + (n + 1 + 7)), .int 0, .ref (g.1 + (n + 1 + 12)), .ref (g.1 + (n + 1 + 13)), .int 0, .null, .null, .int 0, .int 0]) (fs' := [.int 3, .int 5, .int 0, .ref (g.1 + (n + 1 + 0)), .ref (g.1 + (n + 1 + 7)), .int 0, .ref (g.1 + (n + 1 + 12)), .ref (g.1 + (n + 1 + 13)), .int 0, .ref (g.1 + (n + 1 + 14)), .null, .int 0, .int 0]) (v := .ref (g.1 + (n + 1 + 14))) dX4_init_73 9 rfl giX4 (by decide) rfl rfl rfl (by decide +kernel) tyX4 tyX4_ok nmX4 rfl rfl rfl rfl tb_1_63 rfl ?_
  refine N_aload_n dX4_init_76 rfl 0 rfl ?_
  refine N_bipush (v := 8) dX4_init_77 (by decide) ?_
  refine M_newa hA (nb := 15) (by rfl) (atype := .int) (ty := .int) 0 rfl rfl (N := 8) (a0 := (8, .inl (fun _ => 0))) (fun _ => rfl) (by decide) (by decide) (Nat.le_of_ble_eq_true rfl) ow_int dX4_init_79 (mc' := 0) (ms' := 0) (Nat.le_of_ble_eq_true rfl) (Nat.le_of_ble_eq_true rfl) ?_
  refine M_putF (own := RX4) hA (fs := [.int 3, .int 5, .int 0, .ref (g.1 + (n + 1 + 0)), .ref (g.1 + (n + 1 + 7)), .int 0, .ref (g.1 + (n + 1 + 12)), .ref (g.1 + (n + 1 + 13)), .int 0, .ref (g.1 + (n + 1 + 14)), .null, .int 0, .int 0]) (fs' := [.int 3, .int 5, .int 0, .ref (g.1 + (n + 1 + 0)), .ref (g.1 + (n + 1 + 7)), .int 0, .ref (g.1 + (n + 1 + 12)), .ref (g.1 + (n + 1 + 13)), .int 0, .ref (g.1 + (n + 1 + 14)), .ref (g.1 + (n + 1 + 15)), .int 0, .int 0]) (v := .ref (g.1 + (n + 1 + 15))) dX4_init_81 10 rfl giX4 (by decide) rfl rfl rfl (by decide +kernel) tyX4 tyX4_ok nmX4 rfl rfl rfl rfl tb_1_65 rfl ?_
  refine N_aload_n dX4_init_84 rfl 0 rfl ?_
  refine N_iconst (v := 0) dX4_init_85 (by decide) ?_
  refine M_put (own := RX4) hA (fs := [.int 3, .int 5, .int 0, .ref (g.1 + (n + 1 + 0)), .ref (g.1 + (n + 1 + 7)), .int 0, .ref (g.1 + (n + 1 + 12)), .ref (g.1 + (n + 1 + 13)), .int 0, .ref (g.1 + (n + 1 + 14)), .ref (g.1 + (n + 1 + 15)), .int 0, .int 0]) (fs' := [.int 3, .int 5, .int 0, .ref (g.1 + (n + 1 + 0)), .ref (g.1 + (n + 1 + 7)), .int 0, .ref (g.1 + (n + 1 + 12)), .ref (g.1 + (n + 1 + 13)), .int 0, .ref (g.1 + (n + 1 + 14)), .ref (g.1 + (n + 1 + 15)), .int 0, .int 0]) (v := .int 0) dX4_init_86 11 rfl giX4 (by decide) rfl rfl tyX4 tyX4_ok nmX4 rfl rfl rfl rfl tb_1_67 rfl ?_
  refine N_aload_n dX4_init_89 rfl 0 rfl ?_
  refine N_iconst (v := 0) dX4_init_90 (by decide) ?_
  refine M_put (own := RX4) hA (fs := [.int 3, .int 5, .int 0, .ref (g.1 + (n + 1 + 0)), .ref (g.1 + (n + 1 + 7)), .int 0, .ref (g.1 + (n + 1 + 12)), .ref (g.1 + (n + 1 + 13)), .int 0, .ref (g.1 + (n + 1 + 14)), .ref (g.1 + (n + 1 + 15)), .int 0, .int 0]) (fs' := [.int 3, .int 5, .int 0, .ref (g.1 + (n + 1 + 0)), .ref (g.1 + (n + 1 + 7)), .int 0, .ref (g.1 + (n + 1 + 12)), .ref (g.1 + (n + 1 + 13)), .int 0, .ref (g.1 + (n + 1 + 14)), .ref (g.1 + (n + 1 + 15)), .int 0, .int 0]) (v := .int 0) dX4_init_91 12 rfl giX4 (by decide) rfl rfl tyX4 tyX4_ok nmX4 rfl rfl rfl rfl tb_1_69 rfl ?_
  exact N_end rfl (fun _ _ => ⟨rfl, dX4_init_94⟩)
def oX3 (g : Gv) (n : Nat) : va_E := .inr (1, [.ref (g.1 + (n + 1 + 0)), .int 0, .int 0, .ref (g.1 + (n + 1 + 1))])
def bX3 (g : Gv) (n : Nat) : List va_E := (([] ++ [.inl (g.2.2.1 0, 100, .inl (fun _ => 0))]) ++ [.inl (g.2.2.1 0, 16, .inl (fun _ => 0))])
set_option maxHeartbeats 4000000 in
set_option maxRecDepth 100000 in
theorem k_X3 {g : Gv} {n : Nat} (A : List va_E) (hA : A.length = n) : NC g yX3_init cX3_init 1 1 [.ref (g.1 + n)] (A ++ .inr (1, zX3) :: []) (A ++ oX3 g n :: bX3 g n) 2 116 := by
  refine NC.of (by decide +kernel) rfl (Nat.le_of_ble_eq_true rfl) ?_
  refine N_aload_n dX3_init_0 rfl 0 rfl ?_
  refine N_obj dX3_init_1 (by decide +kernel) ow_obj1 ow_obj2 (by decide) ?_
  refine N_aload_n dX3_init_4 rfl 0 rfl ?_
  refine N_bipush (v := 100) dX3_init_5 (by decide) ?_
  refine M_newa hA (nb := 0) (by rfl) (atype := .int) (ty := .int) 0 rfl rfl (N := 100) (a0 := (100, .inl (fun _ => 0))) (fun _ => rfl) (by decide) (by decide) (Nat.le_of_ble_eq_true rfl) ow_int dX3_init_7 (mc' := 1) (ms' := 16) (Nat.le_of_ble_eq_true rfl) (Nat.le_of_ble_eq_true rfl) ?_
  refine M_putF (own := RX3) hA (fs := [.null, .int 0, .int 0, .null]) (fs' := [.ref (g.1 + (n + 1 + 0)), .int 0, .int 0, .null]) (v := .ref (g.1 + (n + 1 + 0))) dX3_init_9 0 rfl giX3 (by decide) rfl rfl rfl (by decide +kernel) tyX3 tyX3_ok nmX3 rfl rfl rfl rfl tb_1_105 rfl ?_
  refine N_aload_n dX3_init_12 rfl 0 rfl ?_
  refine N_iconst (v := 0) dX3_init_13 (by decide) ?_
  refine M_put (own := RX3) hA (fs := [.ref (g.1 + (n + 1 + 0)), .int 0, .int 0, .null]) (fs' := [.ref (g.1 + (n + 1 + 0)), .int 0, .int 0, .null]) (v := .int 0) dX3_init_14 1 rfl giX3 (by decide) rfl rfl tyX3 tyX3_ok nmX3 rfl rfl rfl rfl tb_1_106 rfl ?_
  refine N_aload_n dX3_init_17 rfl 0 rfl ?_
  refine N_iconst (v := 0) dX3_init_18 (by decide) ?_
  refine M_put (own := RX3) hA (fs := [.ref (g.1 + (n + 1 + 0)), .int 0, .int 0, .null]) (fs' := [.ref (g.1 + (n + 1 + 0)), .int 0, .int 0, .null]) (v := .int 0) dX3_init_19 2 rfl giX3 (by decide) rfl rfl tyX3 tyX3_ok nmX3 rfl rfl rfl rfl tb_1_108 rfl ?_
  refine N_aload_n dX3_init_22 rfl 0 rfl ?_
  refine N_bipush (v := 16) dX3_init_23 (by decide) ?_
  refine M_newa hA (nb := 1) (by rfl) (atype := .int) (ty := .int) 0 rfl rfl (N := 16) (a0 := (16, .inl (fun _ => 0))) (fun _ => rfl) (by decide) (by decide) (Nat.le_of_ble_eq_true rfl) ow_int dX3_init_25 (mc' := 0) (ms' := 0) (Nat.le_of_ble_eq_true rfl) (Nat.le_of_ble_eq_true rfl) ?_
  refine M_putF (own := RX3) hA (fs := [.ref (g.1 + (n + 1 + 0)), .int 0, .int 0, .null]) (fs' := [.ref (g.1 + (n + 1 + 0)), .int 0, .int 0, .ref (g.1 + (n + 1 + 1))]) (v := .ref (g.1 + (n + 1 + 1))) dX3_init_27 3 rfl giX3 (by decide) rfl rfl rfl (by decide +kernel) tyX3 tyX3_ok nmX3 rfl rfl rfl rfl tb_1_109 rfl ?_
  exact N_end rfl (fun _ _ => ⟨rfl, dX3_init_30⟩)
def oX7 (g : Gv) (n : Nat) : va_E := .inr (5, [.ref (g.1 + (n + 1 + 0)), .ref (g.1 + (n + 1 + 1)), .ref (g.1 + (n + 1 + 2))])
def bX7 (g : Gv) (n : Nat) : List va_E := (.inl (g.2.2.1 0, 6, .inl (upd (upd (upd (upd (upd (upd (fun _ => 0) 0 (-1)) 1 (-1)) 2 (-1)) 3 (-1)) 4 (-1)) 5 (-1))) :: ([] ++ [.inl (g.2.2.1 0, 6, .inl (fun _ => 0))] ++ (.inl (g.2.2.1 4, 6, .inr (.inr (.inr (.inr (fun j => some (g.1 + (n + 1 + 2 + 1 + j))))))) :: List.replicate 6 (.inl (g.2.2.1 2, 60, .inr (.inl (fun _ => 0)))))))
set_option maxHeartbeats 4000000 in
set_option maxRecDepth 100000 in
theorem k_X7 {g : Gv} {n : Nat} (A : List va_E) (hA : A.length = n) : NC g yX7_init cX7_init 2 1 [.ref (g.1 + n)] (A ++ .inr (5, zX7) :: []) (A ++ oX7 g n :: bX7 g n) 9 378 := by
  refine NC.of (by decide +kernel) rfl (Nat.le_of_ble_eq_true rfl) ?_
  refine N_aload_n dX7_init_0 rfl 0 rfl ?_
  refine N_obj dX7_init_1 (by decide +kernel) ow_obj1 ow_obj2 (by decide) ?_
  refine N_aload_n dX7_init_4 rfl 0 rfl ?_
  refine N_bipush (v := 6) dX7_init_5 (by decide) ?_
  refine M_newa hA (nb := 0) (by rfl) (atype := .int) (ty := .int) 0 rfl rfl (N := 6) (a0 := (6, .inl (fun _ => 0))) (fun _ => rfl) (by decide) (by decide) (Nat.le_of_ble_eq_true rfl) ow_int dX7_init_7 (mc' := 8) (ms' := 372) (Nat.le_of_ble_eq_true rfl) (Nat.le_of_ble_eq_true rfl) ?_
  refine M_putF (own := RX7) hA (fs := [.null, .null, .null]) (fs' := [.ref (g.1 + (n + 1 + 0)), .null, .null]) (v := .ref (g.1 + (n + 1 + 0))) dX7_init_9 0 rfl giX7 (by decide) rfl rfl rfl (by decide +kernel) tyX7 tyX7_ok nmX7 rfl rfl rfl rfl tb_1_127 rfl ?_
  refine N_aload_n dX7_init_12 rfl 0 rfl ?_
  refine N_bipush (v := 6) dX7_init_13 (by decide) ?_
  refine M_newa hA (nb := 1) (by rfl) (atype := .int) (ty := .int) 0 rfl rfl (N := 6) (a0 := (6, .inl (fun _ => 0))) (fun _ => rfl) (by decide) (by decide) (Nat.le_of_ble_eq_true rfl) ow_int dX7_init_15 (mc' := 7) (ms' := 366) (Nat.le_of_ble_eq_true rfl) (Nat.le_of_ble_eq_true rfl) ?_
  refine M_putF (own := RX7) hA (fs := [.ref (g.1 + (n + 1 + 0)), .null, .null]) (fs' := [.ref (g.1 + (n + 1 + 0)), .ref (g.1 + (n + 1 + 1)), .null]) (v := .ref (g.1 + (n + 1 + 1))) dX7_init_17 1 rfl giX7 (by decide) rfl rfl rfl (by decide +kernel) tyX7 tyX7_ok nmX7 rfl rfl rfl rfl tb_1_129 rfl ?_
  refine N_aload_n dX7_init_20 rfl 0 rfl ?_
  refine N_bipush (v := 6) dX7_init_21 (by decide) ?_
  refine N_bipush (v := 60) dX7_init_23 (by decide) ?_
  refine M_multi hA (nb := 2) (by rfl) AR.longs (N := 6) (M := 60) (a0 := (60, .inr (.inl (fun _ => 0)))) (fun _ => rfl) (by decide) (by decide) (by decide) (by decide) (Nat.le_of_ble_eq_true rfl) (Nat.le_of_ble_eq_true rfl) (Nat.le_of_ble_eq_true rfl) rfl tb_1_125 dX7_init_25 (mc' := 0) (ms' := 0) (Nat.le_of_ble_eq_true rfl) (Nat.le_of_ble_eq_true rfl) ?_
  refine M_putF (own := RX7) hA (fs := [.ref (g.1 + (n + 1 + 0)), .ref (g.1 + (n + 1 + 1)), .null]) (fs' := [.ref (g.1 + (n + 1 + 0)), .ref (g.1 + (n + 1 + 1)), .ref (g.1 + (n + 1 + 2))]) (v := .ref (g.1 + (n + 1 + 2))) dX7_init_29 2 rfl giX7 (by decide) rfl rfl rfl (by decide +kernel) tyX7 tyX7_ok nmX7 rfl rfl rfl rfl tb_1_131 rfl ?_
  refine N_iconst (v := 0) dX7_init_32 (by decide) ?_
  refine N_istore_n dX7_init_33 rfl (by decide) [1, 0] rfl ?_
  refine N_iload_n dX7_init_34 rfl 1 rfl ?_
  refine N_bipush (v := 6) dX7_init_35 (by decide) ?_
  refine N_icmp_ge (tgt := 53) dX7_init_37 rfl (fun q => absurd q (by decide)) (fun _ => ?_)
  refine N_aload_n dX7_init_40 rfl 0 rfl ?_
  refine N_get (fs := [.ref (g.1 + (n + 1 + 0)), .ref (g.1 + (n + 1 + 1)), .ref (g.1 + (n + 1 + 2))]) (v := .ref (g.1 + (n + 1 + 0))) dX7_init_41 0 rfl giX7 (ao_get hA) (by decide) rfl rfl tb_1_127 ?_
  refine N_iload_n dX7_init_44 rfl 1 rfl ?_
  refine N_iconst (v := (-1)) dX7_init_45 (by decide) ?_
  refine M_iast0 hA (F := (fun _ => 0)) rfl dX7_init_46 (vp_nI (i := 0) (by decide) (by decide)) (jn := 0) (by decide) ?_
  refine N_iinc (q := 1) (v := 1) dX7_init_47 rfl (by decide) (by decide) [1, 0] rfl ?_
  refine N_goto (tgt := 34) dX7_init_50 rfl ?_
  refine N_iload_n dX7_init_34 rfl 1 rfl ?_
  refine N_bipush (v := 6) dX7_init_35 (by decide) ?_
  refine N_icmp_ge (tgt := 53) dX7_init_37 rfl (fun q => absurd q (by decide)) (fun _ => ?_)
  refine N_aload_n dX7_init_40 rfl 0 rfl ?_
  refine N_get (fs := [.ref (g.1 + (n + 1 + 0)), .ref (g.1 + (n + 1 + 1)), .ref (g.1 + (n + 1 + 2))]) (v := .ref (g.1 + (n + 1 + 0))) dX7_init_41 0 rfl giX7 (ao_get hA) (by decide) rfl rfl tb_1_127 ?_
  refine N_iload_n dX7_init_44 rfl 1 rfl ?_
  refine N_iconst (v := (-1)) dX7_init_45 (by decide) ?_
  refine M_iast0 hA (F := (upd (fun _ => 0) 0 (-1))) rfl dX7_init_46 (vp_nI (i := 1) (by decide) (by decide)) (jn := 1) (by decide) ?_
  refine N_iinc (q := 1) (v := 2) dX7_init_47 rfl (by decide) (by decide) [1, 0] rfl ?_
  refine N_goto (tgt := 34) dX7_init_50 rfl ?_
  refine N_iload_n dX7_init_34 rfl 1 rfl ?_
  refine N_bipush (v := 6) dX7_init_35 (by decide) ?_
  refine N_icmp_ge (tgt := 53) dX7_init_37 rfl (fun q => absurd q (by decide)) (fun _ => ?_)
  refine N_aload_n dX7_init_40 rfl 0 rfl ?_
  refine N_get (fs := [.ref (g.1 + (n + 1 + 0)), .ref (g.1 + (n + 1 + 1)), .ref (g.1 + (n + 1 + 2))]) (v := .ref (g.1 + (n + 1 + 0))) dX7_init_41 0 rfl giX7 (ao_get hA) (by decide) rfl rfl tb_1_127 ?_
  refine N_iload_n dX7_init_44 rfl 1 rfl ?_
  refine N_iconst (v := (-1)) dX7_init_45 (by decide) ?_
  refine M_iast0 hA (F := (upd (upd (fun _ => 0) 0 (-1)) 1 (-1))) rfl dX7_init_46 (vp_nI (i := 2) (by decide) (by decide)) (jn := 2) (by decide) ?_
  refine N_iinc (q := 1) (v := 3) dX7_init_47 rfl (by decide) (by decide) [1, 0] rfl ?_
  refine N_goto (tgt := 34) dX7_init_50 rfl ?_
  refine N_iload_n dX7_init_34 rfl 1 rfl ?_
  refine N_bipush (v := 6) dX7_init_35 (by decide) ?_
  refine N_icmp_ge (tgt := 53) dX7_init_37 rfl (fun q => absurd q (by decide)) (fun _ => ?_)
  refine N_aload_n dX7_init_40 rfl 0 rfl ?_
  refine N_get (fs := [.ref (g.1 + (n + 1 + 0)), .ref (g.1 + (n + 1 + 1)), .ref (g.1 + (n + 1 + 2))]) (v := .ref (g.1 + (n + 1 + 0))) dX7_init_41 0 rfl giX7 (ao_get hA) (by decide) rfl rfl tb_1_127 ?_
  refine N_iload_n dX7_init_44 rfl 1 rfl ?_
  refine N_iconst (v := (-1)) dX7_init_45 (by decide) ?_
  refine M_iast0 hA (F := (upd (upd (upd (fun _ => 0) 0 (-1)) 1 (-1)) 2 (-1))) rfl dX7_init_46 (vp_nI (i := 3) (by decide) (by decide)) (jn := 3) (by decide) ?_
  refine N_iinc (q := 1) (v := 4) dX7_init_47 rfl (by decide) (by decide) [1, 0] rfl ?_
  refine N_goto (tgt := 34) dX7_init_50 rfl ?_
  refine N_iload_n dX7_init_34 rfl 1 rfl ?_
  refine N_bipush (v := 6) dX7_init_35 (by decide) ?_
  refine N_icmp_ge (tgt := 53) dX7_init_37 rfl (fun q => absurd q (by decide)) (fun _ => ?_)
  refine N_aload_n dX7_init_40 rfl 0 rfl ?_
  refine N_get (fs := [.ref (g.1 + (n + 1 + 0)), .ref (g.1 + (n + 1 + 1)), .ref (g.1 + (n + 1 + 2))]) (v := .ref (g.1 + (n + 1 + 0))) dX7_init_41 0 rfl giX7 (ao_get hA) (by decide) rfl rfl tb_1_127 ?_
  refine N_iload_n dX7_init_44 rfl 1 rfl ?_
  refine N_iconst (v := (-1)) dX7_init_45 (by decide) ?_
  refine M_iast0 hA (F := (upd (upd (upd (upd (fun _ => 0) 0 (-1)) 1 (-1)) 2 (-1)) 3 (-1))) rfl dX7_init_46 (vp_nI (i := 4) (by decide) (by decide)) (jn := 4) (by decide) ?_
  refine N_iinc (q := 1) (v := 5) dX7_init_47 rfl (by decide) (by decide) [1, 0] rfl ?_
  refine N_goto (tgt := 34) dX7_init_50 rfl ?_
  refine N_iload_n dX7_init_34 rfl 1 rfl ?_
  refine N_bipush (v := 6) dX7_init_35 (by decide) ?_
  refine N_icmp_ge (tgt := 53) dX7_init_37 rfl (fun q => absurd q (by decide)) (fun _ => ?_)
  refine N_aload_n dX7_init_40 rfl 0 rfl ?_
  refine N_get (fs := [.ref (g.1 + (n + 1 + 0)), .ref (g.1 + (n + 1 + 1)), .ref (g.1 + (n + 1 + 2))]) (v := .ref (g.1 + (n + 1 + 0))) dX7_init_41 0 rfl giX7 (ao_get hA) (by decide) rfl rfl tb_1_127 ?_
  refine N_iload_n dX7_init_44 rfl 1 rfl ?_
  refine N_iconst (v := (-1)) dX7_init_45 (by decide) ?_
  refine M_iast0 hA (F := (upd (upd (upd (upd (upd (fun _ => 0) 0 (-1)) 1 (-1)) 2 (-1)) 3 (-1)) 4 (-1))) rfl dX7_init_46 (vp_nI (i := 5) (by decide) (by decide)) (jn := 5) (by decide) ?_
  refine N_iinc (q := 1) (v := 6) dX7_init_47 rfl (by decide) (by decide) [1, 0] rfl ?_
  refine N_goto (tgt := 34) dX7_init_50 rfl ?_
  refine N_iload_n dX7_init_34 rfl 1 rfl ?_
  refine N_bipush (v := 6) dX7_init_35 (by decide) ?_
  refine N_icmp_ge (tgt := 53) dX7_init_37 rfl (fun _ => ?_) (fun q => absurd (by decide) q)
  exact N_end rfl (fun _ _ => ⟨rfl, dX7_init_53⟩)
