def oX1 (g : Gv) (n : Nat) : va_E := .inr (0, [.ref (g.1 + (n + 1 + 0)), .ref (g.1 + (n + 1 + 19)), .ref (g.1 + (n + 1 + 38)), .ref (g.1 + (n + 1 + 57)), .ref (g.1 + (n + 1 + 58)), .ref (g.1 + (n + 1 + 77)), .ref (g.1 + (n + 1 + 96)), .ref (g.1 + (n + 1 + 115)), .ref (g.1 + (n + 1 + 134)), .int 0, .int 0, .ref (g.1 + (n + 1 + 139)), .int 0, .ref (g.1 + (n + 1 + 156))])
def bX1 (g : Gv) (n : Nat) : List va_E := ((((((((((([] ++ (oX5_16 g (n + 1 + 0) :: bX5_16 g (n + 1 + 0))) ++ (oX5_16 g (n + 1 + 19) :: bX5_16 g (n + 1 + 19))) ++ (oX5_16 g (n + 1 + 38) :: bX5_16 g (n + 1 + 38))) ++ [.inl (g.2.2.1 0, 3, .inl (upd (upd (upd (fun _ => 0) 0 (-1)) 1 (-1)) 2 (-1)))]) ++ (oX5_16 g (n + 1 + 58) :: bX5_16 g (n + 1 + 58))) ++ (oX5_16 g (n + 1 + 77) :: bX5_16 g (n + 1 + 77))) ++ (oX5_16 g (n + 1 + 96) :: bX5_16 g (n + 1 + 96))) ++ (oX5_16 g (n + 1 + 115) :: bX5_16 g (n + 1 + 115))) ++ (.inl (g.2.2.1 3, 4, .inr (.inr (.inr (.inr (fun j => some (g.1 + (n + 1 + 134 + 1 + j))))))) :: List.replicate 4 (.inl (g.2.2.1 0, 16, .inl (fun _ => 0))))) ++ (.inl (g.2.2.1 3, 16, .inr (.inr (.inr (.inr (fun j => some (g.1 + (n + 1 + 139 + 1 + j))))))) :: List.replicate 16 (.inl (g.2.2.1 0, 16, .inl (fun _ => 0))))) ++ [.inl (g.2.2.1 0, 16, .inl (fun _ => 0))])
set_option maxHeartbeats 4000000 in
set_option maxRecDepth 100000 in
theorem k_X1 {g : Gv} {n : Nat} (A : List va_E) (hA : A.length = n) : NC g yX1_init cX1_init 1 2 [.ref (g.1 + n)] (A ++ .inr (0, zX1) :: []) (A ++ oX1 g n :: bX1 g n) 157 2417 := by
  refine NC.of (by decide +kernel) rfl (Nat.le_of_ble_eq_true rfl) ?_
  refine N_aload_n dX1_init_0 rfl 0 rfl ?_
  refine N_obj dX1_init_1 (by decide +kernel) ow_obj1 ow_obj2 (by decide) ?_
  refine N_aload_n dX1_init_4 rfl 0 rfl ?_
  refine M_new hA (nb := 0) (by rfl) (ci := 3) (fs := zX5) rfl giX5 tyX5 tyX5_ok tb_1_147 tb_1_148 tb_1_6 zX5_ok dX1_init_5 (mc' := 156) (ms' := 2411) (Nat.le_of_ble_eq_true rfl) (Nat.le_of_ble_eq_true rfl) ?_
  refine N_dup dX1_init_8 rfl ?_
  refine N_bipush (v := 16) dX1_init_9 (by decide) ?_
  refine M_callI hA (nb := 0) (by rfl) (As := [.int 16]) (mc1 := 18) (ms1 := 288) dX1_init_11 (fun A1 h1 => k_X5_16 A1 h1) tb_1_151 tb_1_149 tb_1_6 tb_1_150 rfl (by decide +kernel) rfl (by decide) (by decide) (Nat.le_of_ble_eq_true rfl) rfl (mc' := 138) (ms' := 2123) (Nat.le_of_ble_eq_true rfl) (Nat.le_of_ble_eq_true rfl) ?_
  refine M_putF (own := RX1) hA (fs := [.null, .null, .null, .null, .null, .null, .null, .null, .null, .int 0, .int 0, .null, .int 0, .null]) (fs' := [.ref (g.1 + (n + 1 + 0)), .null, .null, .null, .null, .null, .null, .null, .null, .int 0, .int 0, .null, .int 0, .null]) (v := .ref (g.1 + (n + 1 + 0))) dX1_init_14 0 rfl giX1 (by decide) rfl rfl rfl (by decide +kernel) tyX1 tyX1_ok nmX1 rfl rfl rfl rfl tb_1_181 rfl ?_
  refine N_aload_n dX1_init_17 rfl 0 rfl ?_
  refine M_new hA (nb := 19) (by rfl) (ci := 3) (fs := zX5) rfl giX5 tyX5 tyX5_ok tb_1_147 tb_1_148 tb_1_6 zX5_ok dX1_init_18 (mc' := 137) (ms' := 2117) (Nat.le_of_ble_eq_true rfl) (Nat.le_of_ble_eq_true rfl) ?_
  refine N_dup dX1_init_21 rfl ?_
  refine N_bipush (v := 16) dX1_init_22 (by decide) ?_
  refine M_callI hA (nb := 19) (by rfl) (As := [.int 16]) (mc1 := 18) (ms1 := 288) dX1_init_24 (fun A1 h1 => k_X5_16 A1 h1) tb_1_151 tb_1_149 tb_1_6 tb_1_150 rfl (by decide +kernel) rfl (by decide) (by decide) (Nat.le_of_ble_eq_true rfl) rfl (mc' := 119) (ms' := 1829) (Nat.le_of_ble_eq_true rfl) (Nat.le_of_ble_eq_true rfl) ?_
  refine M_putF (own := RX1) hA (fs := [.ref (g.1 + (n + 1 + 0)), .null, .null, .null, .null, .null, .null, .null, .null, .int 0, .int 0, .null, .int 0, .null]) (fs' := [.ref (g.1 + (n + 1 + 0)), .ref (g.1 + (n + 1 + 19)), .null, .null, .null, .null, .null, .null, .null, .int 0, .int 0, .null, .int 0, .null]) (v := .ref (g.1 + (n + 1 + 19))) dX1_init_27 1 rfl giX1 (by decide) rfl rfl rfl (by decide +kernel) tyX1 tyX1_ok nmX1 rfl rfl rfl rfl tb_1_182 rfl ?_
  refine N_aload_n dX1_init_30 rfl 0 rfl ?_
  refine M_new hA (nb := 38) (by rfl) (ci := 3) (fs := zX5) rfl giX5 tyX5 tyX5_ok tb_1_147 tb_1_148 tb_1_6 zX5_ok dX1_init_31 (mc' := 118) (ms' := 1823) (Nat.le_of_ble_eq_true rfl) (Nat.le_of_ble_eq_true rfl) ?_
  refine N_dup dX1_init_34 rfl ?_
  refine N_bipush (v := 16) dX1_init_35 (by decide) ?_
  refine M_callI hA (nb := 38) (by rfl) (As := [.int 16]) (mc1 := 18) (ms1 := 288) dX1_init_37 (fun A1 h1 => k_X5_16 A1 h1) tb_1_151 tb_1_149 tb_1_6 tb_1_150 rfl (by decide +kernel) rfl (by decide) (by decide) (Nat.le_of_ble_eq_true rfl) rfl (mc' := 100) (ms' := 1535) (Nat.le_of_ble_eq_true rfl) (Nat.le_of_ble_eq_true rfl) ?_
  refine M_putF (own := RX1) hA (fs := [.ref (g.1 + (n + 1 + 0)), .ref (g.1 + (n + 1 + 19)), .null, .null, .null, .null, .null, .null, .null, .int 0, .int 0, .null, .int 0, .null]) (fs' := [.ref (g.1 + (n + 1 + 0)), .ref (g.1 + (n + 1 + 19)), .ref (g.1 + (n + 1 + 38)), .null, .null, .null, .null, .null, .null, .int 0, .int 0, .null, .int 0, .null]) (v := .ref (g.1 + (n + 1 + 38))) dX1_init_40 2 rfl giX1 (by decide) rfl rfl rfl (by decide +kernel) tyX1 tyX1_ok nmX1 rfl rfl rfl rfl tb_1_183 rfl ?_
  refine N_aload_n dX1_init_43 rfl 0 rfl ?_
  refine N_iconst (v := 3) dX1_init_44 (by decide) ?_
  refine M_newa hA (nb := 57) (by rfl) (atype := .int) (ty := .int) 0 rfl rfl (N := 3) (a0 := (3, .inl (fun _ => 0))) (fun _ => rfl) (by decide) (by decide) (Nat.le_of_ble_eq_true rfl) ow_int dX1_init_45 (mc' := 99) (ms' := 1532) (Nat.le_of_ble_eq_true rfl) (Nat.le_of_ble_eq_true rfl) ?_
  refine N_dup dX1_init_47 rfl ?_
  refine N_iconst (v := 0) dX1_init_48 (by decide) ?_
  refine N_iconst (v := (-1)) dX1_init_49 (by decide) ?_
  refine M_iastL hA (nb := 57) (by rfl) (F := (fun _ => 0)) dX1_init_50 (vp_nI (i := 0) (by decide) (by decide)) (jn := 0) (by decide) ?_
  refine N_dup dX1_init_51 rfl ?_
  refine N_iconst (v := 1) dX1_init_52 (by decide) ?_
  refine N_iconst (v := (-1)) dX1_init_53 (by decide) ?_
  refine M_iastL hA (nb := 57) (by rfl) (F := (upd (fun _ => 0) 0 (-1))) dX1_init_54 (vp_nI (i := 1) (by decide) (by decide)) (jn := 1) (by decide) ?_
  refine N_dup dX1_init_55 rfl ?_
  refine N_iconst (v := 2) dX1_init_56 (by decide) ?_
  refine N_iconst (v := (-1)) dX1_init_57 (by decide) ?_
  refine M_iastL hA (nb := 57) (by rfl) (F := (upd (upd (fun _ => 0) 0 (-1)) 1 (-1))) dX1_init_58 (vp_nI (i := 2) (by decide) (by decide)) (jn := 2) (by decide) ?_
  refine M_putF (own := RX1) hA (fs := [.ref (g.1 + (n + 1 + 0)), .ref (g.1 + (n + 1 + 19)), .ref (g.1 + (n + 1 + 38)), .null, .null, .null, .null, .null, .null, .int 0, .int 0, .null, .int 0, .null]) (fs' := [.ref (g.1 + (n + 1 + 0)), .ref (g.1 + (n + 1 + 19)), .ref (g.1 + (n + 1 + 38)), .ref (g.1 + (n + 1 + 57)), .null, .null, .null, .null, .null, .int 0, .int 0, .null, .int 0, .null]) (v := .ref (g.1 + (n + 1 + 57))) dX1_init_59 3 rfl giX1 (by decide) rfl rfl rfl (by decide +kernel) tyX1 tyX1_ok nmX1 rfl rfl rfl rfl tb_1_184 rfl ?_
  refine N_aload_n dX1_init_62 rfl 0 rfl ?_
  refine M_new hA (nb := 58) (by rfl) (ci := 3) (fs := zX5) rfl giX5 tyX5 tyX5_ok tb_1_147 tb_1_148 tb_1_6 zX5_ok dX1_init_63 (mc' := 98) (ms' := 1526) (Nat.le_of_ble_eq_true rfl) (Nat.le_of_ble_eq_true rfl) ?_
  refine N_dup dX1_init_66 rfl ?_
  refine N_bipush (v := 16) dX1_init_67 (by decide) ?_
  refine M_callI hA (nb := 58) (by rfl) (As := [.int 16]) (mc1 := 18) (ms1 := 288) dX1_init_69 (fun A1 h1 => k_X5_16 A1 h1) tb_1_151 tb_1_149 tb_1_6 tb_1_150 rfl (by decide +kernel) rfl (by decide) (by decide) (Nat.le_of_ble_eq_true rfl) rfl (mc' := 80) (ms' := 1238) (Nat.le_of_ble_eq_true rfl) (Nat.le_of_ble_eq_true rfl) ?_
  refine M_putF (own := RX1) hA (fs := [.ref (g.1 + (n + 1 + 0)), .ref (g.1 + (n + 1 + 19)), .ref (g.1 + (n + 1 + 38)), .ref (g.1 + (n + 1 + 57)), .null, .null, .null, .null, .null, .int 0, .int 0, .null, .int 0, .null]) (fs' := [.ref (g.1 + (n + 1 + 0)), .ref (g.1 + (n + 1 + 19)), .ref (g.1 + (n + 1 + 38)), .ref (g.1 + (n + 1 + 57)), .ref (g.1 + (n + 1 + 58)), .null, .null, .null, .null, .int 0, .int 0, .null, .int 0, .null]) (v := .ref (g.1 + (n + 1 + 58))) dX1_init_72 4 rfl giX1 (by decide) rfl rfl rfl (by decide +kernel) tyX1 tyX1_ok nmX1 rfl rfl rfl rfl tb_1_185 rfl ?_
  refine N_aload_n dX1_init_75 rfl 0 rfl ?_
  refine M_new hA (nb := 77) (by rfl) (ci := 3) (fs := zX5) rfl giX5 tyX5 tyX5_ok tb_1_147 tb_1_148 tb_1_6 zX5_ok dX1_init_76 (mc' := 79) (ms' := 1232) (Nat.le_of_ble_eq_true rfl) (Nat.le_of_ble_eq_true rfl) ?_
  refine N_dup dX1_init_79 rfl ?_
  refine N_bipush (v := 16) dX1_init_80 (by decide) ?_
  refine M_callI hA (nb := 77) (by rfl) (As := [.int 16]) (mc1 := 18) (ms1 := 288) dX1_init_82 (fun A1 h1 => k_X5_16 A1 h1) tb_1_151 tb_1_149 tb_1_6 tb_1_150 rfl (by decide +kernel) rfl (by decide) (by decide) (Nat.le_of_ble_eq_true rfl) rfl (mc' := 61) (ms' := 944) (Nat.le_of_ble_eq_true rfl) (Nat.le_of_ble_eq_true rfl) ?_
  refine M_putF (own := RX1) hA (fs := [.ref (g.1 + (n + 1 + 0)), .ref (g.1 + (n + 1 + 19)), .ref (g.1 + (n + 1 + 38)), .ref (g.1 + (n + 1 + 57)), .ref (g.1 + (n + 1 + 58)), .null, .null, .null, .null, .int 0, .int 0, .null, .int 0, .null]) (fs' := [.ref (g.1 + (n + 1 + 0)), .ref (g.1 + (n + 1 + 19)), .ref (g.1 + (n + 1 + 38)), .ref (g.1 + (n + 1 + 57)), .ref (g.1 + (n + 1 + 58)), .ref (g.1 + (n + 1 + 77)), .null, .null, .null, .int 0, .int 0, .null, .int 0, .null]) (v := .ref (g.1 + (n + 1 + 77))) dX1_init_85 5 rfl giX1 (by decide) rfl rfl rfl (by decide +kernel) tyX1 tyX1_ok nmX1 rfl rfl rfl rfl tb_1_186 rfl ?_
  refine N_aload_n dX1_init_88 rfl 0 rfl ?_
  refine M_new hA (nb := 96) (by rfl) (ci := 3) (fs := zX5) rfl giX5 tyX5 tyX5_ok tb_1_147 tb_1_148 tb_1_6 zX5_ok dX1_init_89 (mc' := 60) (ms' := 938) (Nat.le_of_ble_eq_true rfl) (Nat.le_of_ble_eq_true rfl) ?_
  refine N_dup dX1_init_92 rfl ?_
  refine N_bipush (v := 16) dX1_init_93 (by decide) ?_
  refine M_callI hA (nb := 96) (by rfl) (As := [.int 16]) (mc1 := 18) (ms1 := 288) dX1_init_95 (fun A1 h1 => k_X5_16 A1 h1) tb_1_151 tb_1_149 tb_1_6 tb_1_150 rfl (by decide +kernel) rfl (by decide) (by decide) (Nat.le_of_ble_eq_true rfl) rfl (mc' := 42) (ms' := 650) (Nat.le_of_ble_eq_true rfl) (Nat.le_of_ble_eq_true rfl) ?_
  refine M_putF (own := RX1) hA (fs := [.ref (g.1 + (n + 1 + 0)), .ref (g.1 + (n + 1 + 19)), .ref (g.1 + (n + 1 + 38)), .ref (g.1 + (n + 1 + 57)), .ref (g.1 + (n + 1 + 58)), .ref (g.1 + (n + 1 + 77)), .null, .null, .null, .int 0, .int 0, .null, .int 0, .null]) (fs' := [.ref (g.1 + (n + 1 + 0)), .ref (g.1 + (n + 1 + 19)), .ref (g.1 + (n + 1 + 38)), .ref (g.1 + (n + 1 + 57)), .ref (g.1 + (n + 1 + 58)), .ref (g.1 + (n + 1 + 77)), .ref (g.1 + (n + 1 + 96)), .null, .null, .int 0, .int 0, .null, .int 0, .null]) (v := .ref (g.1 + (n + 1 + 96))) dX1_init_98 6 rfl giX1 (by decide) rfl rfl rfl (by decide +kernel) tyX1 tyX1_ok nmX1 rfl rfl rfl rfl tb_1_187 rfl ?_
  refine N_aload_n dX1_init_101 rfl 0 rfl ?_
  refine M_new hA (nb := 115) (by rfl) (ci := 3) (fs := zX5) rfl giX5 tyX5 tyX5_ok tb_1_147 tb_1_148 tb_1_6 zX5_ok dX1_init_102 (mc' := 41) (ms' := 644) (Nat.le_of_ble_eq_true rfl) (Nat.le_of_ble_eq_true rfl) ?_
  refine N_dup dX1_init_105 rfl ?_
  refine N_bipush (v := 16) dX1_init_106 (by decide) ?_
  refine M_callI hA (nb := 115) (by rfl) (As := [.int 16]) (mc1 := 18) (ms1 := 288) dX1_init_108 (fun A1 h1 => k_X5_16 A1 h1) tb_1_151 tb_1_149 tb_1_6 tb_1_150 rfl (by decide +kernel) rfl (by decide) (by decide) (Nat.le_of_ble_eq_true rfl) rfl (mc' := 23) (ms' := 356) (Nat.le_of_ble_eq_true rfl) (Nat.le_of_ble_eq_true rfl) ?_
  refine M_putF (own := RX1) hA (fs := [.ref (g.1 + (n + 1 + 0)), .ref (g.1 + (n + 1 + 19)), .ref (g.1 + (n + 1 + 38)), .ref (g.1 + (n + 1 + 57)), .ref (g.1 + (n + 1 + 58)), .ref (g.1 + (n + 1 + 77)), .ref (g.1 + (n + 1 + 96)), .null, .null, .int 0, .int 0, .null, .int 0, .null]) (fs' := [.ref (g.1 + (n + 1 + 0)), .ref (g.1 + (n + 1 + 19)), .ref (g.1 + (n + 1 + 38)), .ref (g.1 + (n + 1 + 57)), .ref (g.1 + (n + 1 + 58)), .ref (g.1 + (n + 1 + 77)), .ref (g.1 + (n + 1 + 96)), .ref (g.1 + (n + 1 + 115)), .null, .int 0, .int 0, .null, .int 0, .null]) (v := .ref (g.1 + (n + 1 + 115))) dX1_init_111 7 rfl giX1 (by decide) rfl rfl rfl (by decide +kernel) tyX1 tyX1_ok nmX1 rfl rfl rfl rfl tb_1_188 rfl ?_
  refine N_aload_n dX1_init_114 rfl 0 rfl ?_
  refine N_iconst (v := 4) dX1_init_115 (by decide) ?_
  refine N_bipush (v := 16) dX1_init_116 (by decide) ?_
  refine M_multi hA (nb := 134) (by rfl) AR.ints (N := 4) (M := 16) (a0 := (16, .inl (fun _ => 0))) (fun _ => rfl) (by decide) (by decide) (by decide) (by decide) (Nat.le_of_ble_eq_true rfl) (Nat.le_of_ble_eq_true rfl) (Nat.le_of_ble_eq_true rfl) rfl tb_1_180 dX1_init_118 (mc' := 18) (ms' := 288) (Nat.le_of_ble_eq_true rfl) (Nat.le_of_ble_eq_true rfl) ?_
  refine M_putF (own := RX1) hA (fs := [.ref (g.1 + (n + 1 + 0)), .ref (g.1 + (n + 1 + 19)), .ref (g.1 + (n + 1 + 38)), .ref (g.1 + (n + 1 + 57)), .ref (g.1 + (n + 1 + 58)), .ref (g.1 + (n + 1 + 77)), .ref (g.1 + (n + 1 + 96)), .ref (g.1 + (n + 1 + 115)), .null, .int 0, .int 0, .null, .int 0, .null]) (fs' := [.ref (g.1 + (n + 1 + 0)), .ref (g.1 + (n + 1 + 19)), .ref (g.1 + (n + 1 + 38)), .ref (g.1 + (n + 1 + 57)), .ref (g.1 + (n + 1 + 58)), .ref (g.1 + (n + 1 + 77)), .ref (g.1 + (n + 1 + 96)), .ref (g.1 + (n + 1 + 115)), .ref (g.1 + (n + 1 + 134)), .int 0, .int 0, .null, .int 0, .null]) (v := .ref (g.1 + (n + 1 + 134))) dX1_init_122 8 rfl giX1 (by decide) rfl rfl rfl (by decide +kernel) tyX1 tyX1_ok nmX1 rfl rfl rfl rfl tb_1_189 rfl ?_
  refine N_aload_n dX1_init_125 rfl 0 rfl ?_
  refine N_iconst (v := 0) dX1_init_126 (by decide) ?_
  refine M_put (own := RX1) hA (fs := [.ref (g.1 + (n + 1 + 0)), .ref (g.1 + (n + 1 + 19)), .ref (g.1 + (n + 1 + 38)), .ref (g.1 + (n + 1 + 57)), .ref (g.1 + (n + 1 + 58)), .ref (g.1 + (n + 1 + 77)), .ref (g.1 + (n + 1 + 96)), .ref (g.1 + (n + 1 + 115)), .ref (g.1 + (n + 1 + 134)), .int 0, .int 0, .null, .int 0, .null]) (fs' := [.ref (g.1 + (n + 1 + 0)), .ref (g.1 + (n + 1 + 19)), .ref (g.1 + (n + 1 + 38)), .ref (g.1 + (n + 1 + 57)), .ref (g.1 + (n + 1 + 58)), .ref (g.1 + (n + 1 + 77)), .ref (g.1 + (n + 1 + 96)), .ref (g.1 + (n + 1 + 115)), .ref (g.1 + (n + 1 + 134)), .int 0, .int 0, .null, .int 0, .null]) (v := .int 0) dX1_init_127 9 rfl giX1 (by decide) rfl rfl tyX1 tyX1_ok nmX1 rfl rfl rfl rfl tb_1_190 rfl ?_
  refine N_aload_n dX1_init_130 rfl 0 rfl ?_
  refine N_iconst (v := 0) dX1_init_131 (by decide) ?_
  refine M_put (own := RX1) hA (fs := [.ref (g.1 + (n + 1 + 0)), .ref (g.1 + (n + 1 + 19)), .ref (g.1 + (n + 1 + 38)), .ref (g.1 + (n + 1 + 57)), .ref (g.1 + (n + 1 + 58)), .ref (g.1 + (n + 1 + 77)), .ref (g.1 + (n + 1 + 96)), .ref (g.1 + (n + 1 + 115)), .ref (g.1 + (n + 1 + 134)), .int 0, .int 0, .null, .int 0, .null]) (fs' := [.ref (g.1 + (n + 1 + 0)), .ref (g.1 + (n + 1 + 19)), .ref (g.1 + (n + 1 + 38)), .ref (g.1 + (n + 1 + 57)), .ref (g.1 + (n + 1 + 58)), .ref (g.1 + (n + 1 + 77)), .ref (g.1 + (n + 1 + 96)), .ref (g.1 + (n + 1 + 115)), .ref (g.1 + (n + 1 + 134)), .int 0, .int 0, .null, .int 0, .null]) (v := .int 0) dX1_init_132 10 rfl giX1 (by decide) rfl rfl tyX1 tyX1_ok nmX1 rfl rfl rfl rfl tb_1_192 rfl ?_
  refine N_aload_n dX1_init_135 rfl 0 rfl ?_
  refine N_bipush (v := 16) dX1_init_136 (by decide) ?_
  refine N_bipush (v := 16) dX1_init_138 (by decide) ?_
  refine M_multi hA (nb := 139) (by rfl) AR.ints (N := 16) (M := 16) (a0 := (16, .inl (fun _ => 0))) (fun _ => rfl) (by decide) (by decide) (by decide) (by decide) (Nat.le_of_ble_eq_true rfl) (Nat.le_of_ble_eq_true rfl) (Nat.le_of_ble_eq_true rfl) rfl tb_1_180 dX1_init_140 (mc' := 1) (ms' := 16) (Nat.le_of_ble_eq_true rfl) (Nat.le_of_ble_eq_true rfl) ?_
  refine M_putF (own := RX1) hA (fs := [.ref (g.1 + (n + 1 + 0)), .ref (g.1 + (n + 1 + 19)), .ref (g.1 + (n + 1 + 38)), .ref (g.1 + (n + 1 + 57)), .ref (g.1 + (n + 1 + 58)), .ref (g.1 + (n + 1 + 77)), .ref (g.1 + (n + 1 + 96)), .ref (g.1 + (n + 1 + 115)), .ref (g.1 + (n + 1 + 134)), .int 0, .int 0, .null, .int 0, .null]) (fs' := [.ref (g.1 + (n + 1 + 0)), .ref (g.1 + (n + 1 + 19)), .ref (g.1 + (n + 1 + 38)), .ref (g.1 + (n + 1 + 57)), .ref (g.1 + (n + 1 + 58)), .ref (g.1 + (n + 1 + 77)), .ref (g.1 + (n + 1 + 96)), .ref (g.1 + (n + 1 + 115)), .ref (g.1 + (n + 1 + 134)), .int 0, .int 0, .ref (g.1 + (n + 1 + 139)), .int 0, .null]) (v := .ref (g.1 + (n + 1 + 139))) dX1_init_144 11 rfl giX1 (by decide) rfl rfl rfl (by decide +kernel) tyX1 tyX1_ok nmX1 rfl rfl rfl rfl tb_1_193 rfl ?_
  refine N_aload_n dX1_init_147 rfl 0 rfl ?_
  refine N_iconst (v := 0) dX1_init_148 (by decide) ?_
  refine M_put (own := RX1) hA (fs := [.ref (g.1 + (n + 1 + 0)), .ref (g.1 + (n + 1 + 19)), .ref (g.1 + (n + 1 + 38)), .ref (g.1 + (n + 1 + 57)), .ref (g.1 + (n + 1 + 58)), .ref (g.1 + (n + 1 + 77)), .ref (g.1 + (n + 1 + 96)), .ref (g.1 + (n + 1 + 115)), .ref (g.1 + (n + 1 + 134)), .int 0, .int 0, .ref (g.1 + (n + 1 + 139)), .int 0, .null]) (fs' := [.ref (g.1 + (n + 1 + 0)), .ref (g.1 + (n + 1 + 19)), .ref (g.1 + (n + 1 + 38)), .ref (g.1 + (n + 1 + 57)), .ref (g.1 + (n + 1 + 58)), .ref (g.1 + (n + 1 + 77)), .ref (g.1 + (n + 1 + 96)), .ref (g.1 + (n + 1 + 115)), .ref (g.1 + (n + 1 + 134)), .int 0, .int 0, .ref (g.1 + (n + 1 + 139)), .int 0, .null]) (v := .int 0) dX1_init_149 12 rfl giX1 (by decide) rfl rfl tyX1 tyX1_ok nmX1 rfl rfl rfl rfl tb_1_194 rfl ?_
  refine N_aload_n dX1_init_152 rfl 0 rfl ?_
  refine N_bipush (v := 16) dX1_init_153 (by decide) ?_
  refine M_newa hA (nb := 156) (by rfl) (atype := .int) (ty := .int) 0 rfl rfl (N := 16) (a0 := (16, .inl (fun _ => 0))) (fun _ => rfl) (by decide) (by decide) (Nat.le_of_ble_eq_true rfl) ow_int dX1_init_155 (mc' := 0) (ms' := 0) (Nat.le_of_ble_eq_true rfl) (Nat.le_of_ble_eq_true rfl) ?_
  refine M_putF (own := RX1) hA (fs := [.ref (g.1 + (n + 1 + 0)), .ref (g.1 + (n + 1 + 19)), .ref (g.1 + (n + 1 + 38)), .ref (g.1 + (n + 1 + 57)), .ref (g.1 + (n + 1 + 58)), .ref (g.1 + (n + 1 + 77)), .ref (g.1 + (n + 1 + 96)), .ref (g.1 + (n + 1 + 115)), .ref (g.1 + (n + 1 + 134)), .int 0, .int 0, .ref (g.1 + (n + 1 + 139)), .int 0, .null]) (fs' := [.ref (g.1 + (n + 1 + 0)), .ref (g.1 + (n + 1 + 19)), .ref (g.1 + (n + 1 + 38)), .ref (g.1 + (n + 1 + 57)), .ref (g.1 + (n + 1 + 58)), .ref (g.1 + (n + 1 + 77)), .ref (g.1 + (n + 1 + 96)), .ref (g.1 + (n + 1 + 115)), .ref (g.1 + (n + 1 + 134)), .int 0, .int 0, .ref (g.1 + (n + 1 + 139)), .int 0, .ref (g.1 + (n + 1 + 156))]) (v := .ref (g.1 + (n + 1 + 156))) dX1_init_157 13 rfl giX1 (by decide) rfl rfl rfl (by decide +kernel) tyX1 tyX1_ok nmX1 rfl rfl rfl rfl tb_1_195 rfl ?_
  exact N_end rfl (fun _ _ => ⟨rfl, dX1_init_160⟩)
def oX6 (g : Gv) (n : Nat) : va_E := .inr (4, [.ref (g.1 + (n + 1 + 0)), .ref (g.1 + (n + 1 + 67)), .ref (g.1 + (n + 1 + 134)), .int 0, .int 1, .ref (g.1 + (n + 1 + 143)), .ref (g.1 + (n + 1 + 144))])
def bX6 (g : Gv) (n : Nat) : List va_E := ((((([] ++ (oX5_64 g (n + 1 + 0) :: bX5_64 g (n + 1 + 0))) ++ (oX5_64 g (n + 1 + 67) :: bX5_64 g (n + 1 + 67))) ++ (.inl (g.2.2.1 3, 8, .inr (.inr (.inr (.inr (fun j => some (g.1 + (n + 1 + 134 + 1 + j))))))) :: List.replicate 8 (.inl (g.2.2.1 0, 64, .inl (fun _ => 0))))) ++ [.inl (g.2.2.1 0, 64, .inl (fun _ => 0))]) ++ [.inl (g.2.2.1 0, 64, .inl (fun _ => 0))])
set_option maxHeartbeats 4000000 in
set_option maxRecDepth 100000 in
theorem k_X6 {g : Gv} {n : Nat} (A : List va_E) (hA : A.length = n) : NC g yX6_init cX6_init 1 2 [.ref (g.1 + n)] (A ++ .inr (4, zX6) :: []) (A ++ oX6 g n :: bX6 g n) 145 9108 := by
  refine NC.of (by decide +kernel) rfl (Nat.le_of_ble_eq_true rfl) ?_
  refine N_aload_n dX6_init_0 rfl 0 rfl ?_
  refine N_obj dX6_init_1 (by decide +kernel) ow_obj1 ow_obj2 (by decide) ?_
  refine N_aload_n dX6_init_4 rfl 0 rfl ?_
  refine M_new hA (nb := 0) (by rfl) (ci := 3) (fs := zX5) rfl giX5 tyX5 tyX5_ok tb_1_231 tb_1_148 tb_1_6 zX5_ok dX6_init_5 (mc' := 144) (ms' := 9102) (Nat.le_of_ble_eq_true rfl) (Nat.le_of_ble_eq_true rfl) ?_
  refine N_dup dX6_init_8 rfl ?_
  refine N_bipush (v := 64) dX6_init_9 (by decide) ?_
  refine M_callI hA (nb := 0) (by rfl) (As := [.int 64]) (mc1 := 66) (ms1 := 4224) dX6_init_11 (fun A1 h1 => k_X5_64 A1 h1) tb_1_151 tb_1_232 tb_1_6 tb_1_150 rfl (by decide +kernel) rfl (by decide) (by decide) (Nat.le_of_ble_eq_true rfl) rfl (mc' := 78) (ms' := 4878) (Nat.le_of_ble_eq_true rfl) (Nat.le_of_ble_eq_true rfl) ?_
  refine M_putF (own := RX6) hA (fs := [.null, .null, .null, .int 0, .int 0, .null, .null]) (fs' := [.ref (g.1 + (n + 1 + 0)), .null, .null, .int 0, .int 0, .null, .null]) (v := .ref (g.1 + (n + 1 + 0))) dX6_init_14 0 rfl giX6 (by decide) rfl rfl rfl (by decide +kernel) tyX6 tyX6_ok nmX6 rfl rfl rfl rfl tb_1_234 rfl ?_
  refine N_aload_n dX6_init_17 rfl 0 rfl ?_
  refine M_new hA (nb := 67) (by rfl) (ci := 3) (fs := zX5) rfl giX5 tyX5 tyX5_ok tb_1_231 tb_1_148 tb_1_6 zX5_ok dX6_init_18 (mc' := 77) (ms' := 4872) (Nat.le_of_ble_eq_true rfl) (Nat.le_of_ble_eq_true rfl) ?_
  refine N_dup dX6_init_21 rfl ?_
  refine N_bipush (v := 64) dX6_init_22 (by decide) ?_
  refine M_callI hA (nb := 67) (by rfl) (As := [.int 64]) (mc1 := 66) (ms1 := 4224) dX6_init_24 (fun A1 h1 => k_X5_64 A1 h1) tb_1_151 tb_1_232 tb_1_6 tb_1_150 rfl (by decide +kernel) rfl (by decide) (by decide) (Nat.le_of_ble_eq_true rfl) rfl (mc' := 11) (ms' := 648) (Nat.le_of_ble_eq_true rfl) (Nat.le_of_ble_eq_true rfl) ?_
  refine M_putF (own := RX6) hA (fs := [.ref (g.1 + (n + 1 + 0)), .null, .null, .int 0, .int 0, .null, .null]) (fs' := [.ref (g.1 + (n + 1 + 0)), .ref (g.1 + (n + 1 + 67)), .null, .int 0, .int 0, .null, .null]) (v := .ref (g.1 + (n + 1 + 67))) dX6_init_27 1 rfl giX6 (by decide) rfl rfl rfl (by decide +kernel) tyX6 tyX6_ok nmX6 rfl rfl rfl rfl tb_1_235 rfl ?_
  refine N_aload_n dX6_init_30 rfl 0 rfl ?_
  refine N_bipush (v := 8) dX6_init_31 (by decide) ?_
  refine N_bipush (v := 64) dX6_init_33 (by decide) ?_
  refine M_multi hA (nb := 134) (by rfl) AR.ints (N := 8) (M := 64) (a0 := (64, .inl (fun _ => 0))) (fun _ => rfl) (by decide) (by decide) (by decide) (by decide) (Nat.le_of_ble_eq_true rfl) (Nat.le_of_ble_eq_true rfl) (Nat.le_of_ble_eq_true rfl) rfl tb_1_233 dX6_init_35 (mc' := 2) (ms' := 128) (Nat.le_of_ble_eq_true rfl) (Nat.le_of_ble_eq_true rfl) ?_
  refine M_putF (own := RX6) hA (fs := [.ref (g.1 + (n + 1 + 0)), .ref (g.1 + (n + 1 + 67)), .null, .int 0, .int 0, .null, .null]) (fs' := [.ref (g.1 + (n + 1 + 0)), .ref (g.1 + (n + 1 + 67)), .ref (g.1 + (n + 1 + 134)), .int 0, .int 0, .null, .null]) (v := .ref (g.1 + (n + 1 + 134))) dX6_init_39 2 rfl giX6 (by decide) rfl rfl rfl (by decide +kernel) tyX6 tyX6_ok nmX6 rfl rfl rfl rfl tb_1_236 rfl ?_
  refine N_aload_n dX6_init_42 rfl 0 rfl ?_
  refine N_iconst (v := 0) dX6_init_43 (by decide) ?_
  refine M_put (own := RX6) hA (fs := [.ref (g.1 + (n + 1 + 0)), .ref (g.1 + (n + 1 + 67)), .ref (g.1 + (n + 1 + 134)), .int 0, .int 0, .null, .null]) (fs' := [.ref (g.1 + (n + 1 + 0)), .ref (g.1 + (n + 1 + 67)), .ref (g.1 + (n + 1 + 134)), .int 0, .int 0, .null, .null]) (v := .int 0) dX6_init_44 3 rfl giX6 (by decide) rfl rfl tyX6 tyX6_ok nmX6 rfl rfl rfl rfl tb_1_237 rfl ?_
  refine N_aload_n dX6_init_47 rfl 0 rfl ?_
  refine N_iconst (v := 1) dX6_init_48 (by decide) ?_
  refine M_put (own := RX6) hA (fs := [.ref (g.1 + (n + 1 + 0)), .ref (g.1 + (n + 1 + 67)), .ref (g.1 + (n + 1 + 134)), .int 0, .int 0, .null, .null]) (fs' := [.ref (g.1 + (n + 1 + 0)), .ref (g.1 + (n + 1 + 67)), .ref (g.1 + (n + 1 + 134)), .int 0, .int 1, .null, .null]) (v := .int 1) dX6_init_49 4 rfl giX6 (by decide) rfl rfl tyX6 tyX6_ok nmX6 rfl rfl rfl rfl tb_1_238 rfl ?_
  refine N_aload_n dX6_init_52 rfl 0 rfl ?_
  refine N_bipush (v := 64) dX6_init_53 (by decide) ?_
  refine M_newa hA (nb := 143) (by rfl) (atype := .int) (ty := .int) 0 rfl rfl (N := 64) (a0 := (64, .inl (fun _ => 0))) (fun _ => rfl) (by decide) (by decide) (Nat.le_of_ble_eq_true rfl) ow_int dX6_init_55 (mc' := 1) (ms' := 64) (Nat.le_of_ble_eq_true rfl) (Nat.le_of_ble_eq_true rfl) ?_
  refine M_putF (own := RX6) hA (fs := [.ref (g.1 + (n + 1 + 0)), .ref (g.1 + (n + 1 + 67)), .ref (g.1 + (n + 1 + 134)), .int 0, .int 1, .null, .null]) (fs' := [.ref (g.1 + (n + 1 + 0)), .ref (g.1 + (n + 1 + 67)), .ref (g.1 + (n + 1 + 134)), .int 0, .int 1, .ref (g.1 + (n + 1 + 143)), .null]) (v := .ref (g.1 + (n + 1 + 143))) dX6_init_57 5 rfl giX6 (by decide) rfl rfl rfl (by decide +kernel) tyX6 tyX6_ok nmX6 rfl rfl rfl rfl tb_1_239 rfl ?_
  refine N_aload_n dX6_init_60 rfl 0 rfl ?_
  refine N_bipush (v := 64) dX6_init_61 (by decide) ?_
  refine M_newa hA (nb := 144) (by rfl) (atype := .int) (ty := .int) 0 rfl rfl (N := 64) (a0 := (64, .inl (fun _ => 0))) (fun _ => rfl) (by decide) (by decide) (Nat.le_of_ble_eq_true rfl) ow_int dX6_init_63 (mc' := 0) (ms' := 0) (Nat.le_of_ble_eq_true rfl) (Nat.le_of_ble_eq_true rfl) ?_
  refine M_putF (own := RX6) hA (fs := [.ref (g.1 + (n + 1 + 0)), .ref (g.1 + (n + 1 + 67)), .ref (g.1 + (n + 1 + 134)), .int 0, .int 1, .ref (g.1 + (n + 1 + 143)), .null]) (fs' := [.ref (g.1 + (n + 1 + 0)), .ref (g.1 + (n + 1 + 67)), .ref (g.1 + (n + 1 + 134)), .int 0, .int 1, .ref (g.1 + (n + 1 + 143)), .ref (g.1 + (n + 1 + 144))]) (v := .ref (g.1 + (n + 1 + 144))) dX6_init_65 6 rfl giX6 (by decide) rfl rfl rfl (by decide +kernel) tyX6 tyX6_ok nmX6 rfl rfl rfl rfl tb_2_0 rfl ?_
  exact N_end rfl (fun _ _ => ⟨rfl, dX6_init_68⟩)
