def oX5_16 (g : Gv) (n : Nat) : va_E := .inr (3, [.ref (g.1 + (n + 1 + 0)), .ref (g.1 + (n + 1 + 17)), .int 0, .int 0, .int 2, .int 0])
def bX5_16 (g : Gv) (n : Nat) : List va_E := (([] ++ (.inl (g.2.2.1 3, 16, .inr (.inr (.inr (.inr (fun j => some (g.1 + (n + 1 + 0 + 1 + j))))))) :: List.replicate 16 (.inl (g.2.2.1 0, 16, .inl (fun _ => 0))))) ++ [.inl (g.2.2.1 1, 16, .inl (fun _ => 0))])
set_option maxHeartbeats 4000000 in
set_option maxRecDepth 100000 in
theorem k_X5_16 {g : Gv} {n : Nat} (A : List va_E) (hA : A.length = n) : NC g yX5_init cX5_init 2 1 [.ref (g.1 + n), .int 16] (A ++ .inr (3, zX5) :: []) (A ++ oX5_16 g n :: bX5_16 g n) 18 288 := by
  refine NC.of (by decide +kernel) rfl (Nat.le_of_ble_eq_true rfl) ?_
  refine N_aload_n dX5_init_0 rfl 0 rfl ?_
  refine N_obj dX5_init_1 (by decide +kernel) ow_obj1 ow_obj2 (by decide) ?_
  refine N_aload_n dX5_init_4 rfl 0 rfl ?_
  refine N_iconst (v := 0) dX5_init_5 (by decide) ?_
  refine M_put (own := RX5) hA (fs := [.null, .null, .int 0, .int 0, .int 0, .int 0]) (fs' := [.null, .null, .int 0, .int 0, .int 0, .int 0]) (v := .int 0) dX5_init_6 2 rfl giX5 (by decide) rfl rfl tyX5 tyX5_ok nmX5 rfl rfl rfl rfl tb_1_159 rfl ?_
  refine N_aload_n dX5_init_9 rfl 0 rfl ?_
  refine N_iconst (v := 0) dX5_init_10 (by decide) ?_
  refine M_put (own := RX5) hA (fs := [.null, .null, .int 0, .int 0, .int 0, .int 0]) (fs' := [.null, .null, .int 0, .int 0, .int 0, .int 0]) (v := .int 0) dX5_init_11 3 rfl giX5 (by decide) rfl rfl tyX5 tyX5_ok nmX5 rfl rfl rfl rfl tb_1_162 rfl ?_
  refine N_aload_n dX5_init_14 rfl 0 rfl ?_
  refine N_iconst (v := 2) dX5_init_15 (by decide) ?_
  refine M_put (own := RX5) hA (fs := [.null, .null, .int 0, .int 0, .int 0, .int 0]) (fs' := [.null, .null, .int 0, .int 0, .int 2, .int 0]) (v := .int 2) dX5_init_16 4 rfl giX5 (by decide) rfl rfl tyX5 tyX5_ok nmX5 rfl rfl rfl rfl tb_1_164 rfl ?_
  refine N_aload_n dX5_init_19 rfl 0 rfl ?_
  refine N_iconst (v := 0) dX5_init_20 (by decide) ?_
  refine M_put (own := RX5) hA (fs := [.null, .null, .int 0, .int 0, .int 2, .int 0]) (fs' := [.null, .null, .int 0, .int 0, .int 2, .int 0]) (v := .int 0) dX5_init_21 5 rfl giX5 (by decide) rfl rfl tyX5 tyX5_ok nmX5 rfl rfl rfl rfl tb_1_165 rfl ?_
  refine N_aload_n dX5_init_24 rfl 0 rfl ?_
  refine N_iload_n dX5_init_25 rfl 1 rfl ?_
  refine N_iload_n dX5_init_26 rfl 1 rfl ?_
  refine M_multi hA (nb := 0) (by rfl) AR.ints (N := 16) (M := 16) (a0 := (16, .inl (fun _ => 0))) (fun _ => rfl) (by decide) (by decide) (by decide) (by decide) (Nat.le_of_ble_eq_true rfl) (Nat.le_of_ble_eq_true rfl) (Nat.le_of_ble_eq_true rfl) rfl tb_1_153 dX5_init_27 (mc' := 1) (ms' := 16) (Nat.le_of_ble_eq_true rfl) (Nat.le_of_ble_eq_true rfl) ?_
  refine M_putF (own := RX5) hA (fs := [.null, .null, .int 0, .int 0, .int 2, .int 0]) (fs' := [.ref (g.1 + (n + 1 + 0)), .null, .int 0, .int 0, .int 2, .int 0]) (v := .ref (g.1 + (n + 1 + 0))) dX5_init_31 0 rfl giX5 (by decide) rfl rfl rfl (by decide +kernel) tyX5 tyX5_ok nmX5 rfl rfl rfl rfl tb_1_154 rfl ?_
  refine N_aload_n dX5_init_34 rfl 0 rfl ?_
  refine N_iload_n dX5_init_35 rfl 1 rfl ?_
  refine M_newa hA (nb := 17) (by rfl) (atype := .boolean) (ty := .boolean) 1 rfl rfl (N := 16) (a0 := (16, .inl (fun _ => 0))) (fun _ => rfl) (by decide) (by decide) (Nat.le_of_ble_eq_true rfl) ow_bool dX5_init_36 (mc' := 0) (ms' := 0) (Nat.le_of_ble_eq_true rfl) (Nat.le_of_ble_eq_true rfl) ?_
  refine M_putF (own := RX5) hA (fs := [.ref (g.1 + (n + 1 + 0)), .null, .int 0, .int 0, .int 2, .int 0]) (fs' := [.ref (g.1 + (n + 1 + 0)), .ref (g.1 + (n + 1 + 17)), .int 0, .int 0, .int 2, .int 0]) (v := .ref (g.1 + (n + 1 + 17))) dX5_init_38 1 rfl giX5 (by decide) rfl rfl rfl (by decide +kernel) tyX5 tyX5_ok nmX5 rfl rfl rfl rfl tb_1_158 rfl ?_
  exact N_end rfl (fun _ _ => ⟨rfl, dX5_init_41⟩)
