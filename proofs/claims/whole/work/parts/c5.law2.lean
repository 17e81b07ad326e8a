def q_N_law_1551 (L : Nat) (xs : Nat → Int32) (R18 : Int32 → Sto → Prop) (Q : Int32 → Sto → Prop) (x3 : Int32) (S : Sto) : Prop := ∀ x3_1 : Int32, x3_1 = x3 + 6 → R18 x3_1 S
set_option maxRecDepth 100000 in
set_option maxHeartbeats 4000000 in
theorem l_N_law_1551 {g : Gv}  (R18 : Int32 → Sto → Prop) (Q : Int32 → Sto → Prop) (hR18 : ∀ (y3 : Int32) (S : Sto), R18 y3 S → RJ g cL_law RL (some .boolean) 4 10 18 [(0, .ref g.2.1.2.1), (1, .ref (g.1 + 0)), (2, .ref (g.1 + 353)), (3, .int y3)] [] S (Qi Q))  (x3 : Int32) (S : Sto)  (h : q_N_law_1551 g.2.1.2.2.1 g.2.1.2.2.2 R18 Q x3 S) : RJ g cL_law RL (some .boolean) 4 10 1551 [(0, .ref g.2.1.2.1), (1, .ref (g.1 + 0)), (2, .ref (g.1 + 353)), (3, .int x3)] [] S (Qi Q) := by
  unfold q_N_law_1551 at h
  obtain ⟨x3_1, ex3_1⟩ : ∃ y : Int32, y = x3 + 6 := ⟨_, rfl⟩
  have h := h x3_1 ex3_1
  refine J_iinc (v := x3_1) (lv' := [(0, .ref g.2.1.2.1), (1, .ref (g.1 + 0)), (2, .ref (g.1 + 353)), (3, .int x3_1)]) dL_law_1551 (q := 3) rfl (by rw [ex3_1]; rfl) (by decide) [1, 2, 3, 0] rfl  ?_
  refine J_goto (tgt := 18) dL_law_1554 (by decide)  ?_
  exact hR18 _ _  h
def q_N_law_208 (L : Nat) (xs : Nat → Int32) (R18 : Int32 → Sto → Prop) (Q : Int32 → Sto → Prop) (x3 : Int32) (S : Sto) : Prop := ∃ P : Int32 → Int32 → Sto → Prop, (∀ (r_3 r_6 : Int32) (S_5 : Sto), P r_3 r_6 S_5 → ((r_3 = r_6 → q_N_law_1551 L xs R18 Q x3 S_5) ∧ (¬ r_3 = r_6 → Q 0 S_5))) ∧ vp_in (x3 + 1) L ∧ wp_X8_letters (xs (x3 + 1 : Int32).toNatClampNeg) S (fun r_3 S_2 => wp_X9_letters (xs (x3 + 1 : Int32).toNatClampNeg) S_2 (fun r_6 S_5 => P r_3 r_6 S_5))
set_option maxRecDepth 100000 in
set_option maxHeartbeats 4000000 in
theorem l_N_law_208 {g : Gv}  (R18 : Int32 → Sto → Prop) (Q : Int32 → Sto → Prop) (hR18 : ∀ (y3 : Int32) (S : Sto), R18 y3 S → RJ g cL_law RL (some .boolean) 4 10 18 [(0, .ref g.2.1.2.1), (1, .ref (g.1 + 0)), (2, .ref (g.1 + 353)), (3, .int y3)] [] S (Qi Q))  (x3 : Int32) (S : Sto)  (h : q_N_law_208 g.2.1.2.2.1 g.2.1.2.2.2 R18 Q x3 S) : RJ g cL_law RL (some .boolean) 4 10 208 [(0, .ref g.2.1.2.1), (1, .ref (g.1 + 0)), (2, .ref (g.1 + 353)), (3, .int x3)] [] S (Qi Q) := by
  unfold q_N_law_208 at h
  obtain ⟨P, hP, h⟩ := h
  refine J_aload_n dL_law_208 rfl 1 rfl  ?_
  refine J_aload_n dL_law_209 rfl 0 rfl  ?_
  refine J_iload_n dL_law_210 rfl 3 rfl  ?_
  refine J_iconst (v := 1) dL_law_211 (by decide)  ?_
  refine J_iadd dL_law_212  ?_
  obtain ⟨hi_1, h⟩ := h
  refine J_sld dL_law_213 hi_1  ?_
  refine J_callV (h := 0) (ci := 6) (As := [.int (g.2.1.2.2.2 (x3 + 1 : Int32).toNatClampNeg)]) (rest := []) (n := 1) dL_law_214 (c_X8_letters (g.2.1.2.2.2 (x3 + 1 : Int32).toNatClampNeg)  _ _ h) (by decide) rfl tb_2_44 tb_2_41 tb_1_1 tb_2_42 tb_2_43 (by decide) rfl (by decide) (by decide) (Nat.le_of_ble_eq_true rfl) rfl (fun v_r_3 S_2 hq => ?_)
  obtain ⟨r_3, rfl, h⟩ := hq
  dsimp only [Option.toList, List.cons_append, List.nil_append]
  refine J_aload_n dL_law_217 rfl 2 rfl  ?_
  refine J_aload_n dL_law_218 rfl 0 rfl  ?_
  refine J_iload_n dL_law_219 rfl 3 rfl  ?_
  refine J_iconst (v := 1) dL_law_220 (by decide)  ?_
  refine J_iadd dL_law_221  ?_
  refine J_sld dL_law_222 hi_1  ?_
  refine J_callV (h := 353) (ci := 7) (As := [.int (g.2.1.2.2.2 (x3 + 1 : Int32).toNatClampNeg)]) (rest := [.int r_3]) (n := 1) dL_law_223 (c_X9_letters (g.2.1.2.2.2 (x3 + 1 : Int32).toNatClampNeg)  _ _ h) (by decide) rfl tb_5_4 tb_5_1 tb_1_8 tb_5_2 tb_5_3 (by decide) rfl (by decide) (by decide) (Nat.le_of_ble_eq_true rfl) rfl (fun v_r_6 S_5 hq => ?_)
  obtain ⟨r_6, rfl, h⟩ := hq
  have h := hP _ _ _ h
  dsimp only [Option.toList, List.cons_append, List.nil_append]
  refine J_icmp_eq (tgt := 1551) dL_law_226 (by decide) (fun c_7 => ?_) (fun c_7 => ?_)
  · have h := h.1 c_7
    exact l_N_law_1551 _ _ hR18  _ _  h
  · have h := h.2 c_7
    refine J_iconst (v := 0) dL_law_229 (by decide)  ?_
    exact J_iret dL_law_230 rfl rfl ⟨_, rfl, h⟩
def q_N_law_231 (L : Nat) (xs : Nat → Int32) (R18 : Int32 → Sto → Prop) (Q : Int32 → Sto → Prop) (x3 : Int32) (S : Sto) : Prop := ∃ P : Int32 → Int32 → Sto → Prop, (∀ (r_3 r_6 : Int32) (S_5 : Sto), P r_3 r_6 S_5 → ((r_3 = r_6 → q_N_law_1551 L xs R18 Q x3 S_5) ∧ (¬ r_3 = r_6 → Q 0 S_5))) ∧ vp_in (x3 + 1) L ∧ wp_X8_prime (xs (x3 + 1 : Int32).toNatClampNeg) S (fun r_3 S_2 => wp_X9_prime (xs (x3 + 1 : Int32).toNatClampNeg) S_2 (fun r_6 S_5 => P r_3 r_6 S_5))
set_option maxRecDepth 100000 in
set_option maxHeartbeats 4000000 in
theorem l_N_law_231 {g : Gv}  (R18 : Int32 → Sto → Prop) (Q : Int32 → Sto → Prop) (hR18 : ∀ (y3 : Int32) (S : Sto), R18 y3 S → RJ g cL_law RL (some .boolean) 4 10 18 [(0, .ref g.2.1.2.1), (1, .ref (g.1 + 0)), (2, .ref (g.1 + 353)), (3, .int y3)] [] S (Qi Q))  (x3 : Int32) (S : Sto)  (h : q_N_law_231 g.2.1.2.2.1 g.2.1.2.2.2 R18 Q x3 S) : RJ g cL_law RL (some .boolean) 4 10 231 [(0, .ref g.2.1.2.1), (1, .ref (g.1 + 0)), (2, .ref (g.1 + 353)), (3, .int x3)] [] S (Qi Q) := by
  unfold q_N_law_231 at h
  obtain ⟨P, hP, h⟩ := h
  refine J_aload_n dL_law_231 rfl 1 rfl  ?_
  refine J_aload_n dL_law_232 rfl 0 rfl  ?_
  refine J_iload_n dL_law_233 rfl 3 rfl  ?_
  refine J_iconst (v := 1) dL_law_234 (by decide)  ?_
  refine J_iadd dL_law_235  ?_
  obtain ⟨hi_1, h⟩ := h
  refine J_sld dL_law_236 hi_1  ?_
  refine J_callV (h := 0) (ci := 6) (As := [.int (g.2.1.2.2.2 (x3 + 1 : Int32).toNatClampNeg)]) (rest := []) (n := 1) dL_law_237 (c_X8_prime (g.2.1.2.2.2 (x3 + 1 : Int32).toNatClampNeg)  _ _ h) (by decide) rfl tb_2_60 tb_2_57 tb_1_1 tb_2_58 tb_2_59 (by decide) rfl (by decide) (by decide) (Nat.le_of_ble_eq_true rfl) rfl (fun v_r_3 S_2 hq => ?_)
  obtain ⟨r_3, rfl, h⟩ := hq
  dsimp only [Option.toList, List.cons_append, List.nil_append]
  refine J_aload_n dL_law_240 rfl 2 rfl  ?_
  refine J_aload_n dL_law_241 rfl 0 rfl  ?_
  refine J_iload_n dL_law_242 rfl 3 rfl  ?_
  refine J_iconst (v := 1) dL_law_243 (by decide)  ?_
  refine J_iadd dL_law_244  ?_
  refine J_sld dL_law_245 hi_1  ?_
  refine J_callV (h := 353) (ci := 7) (As := [.int (g.2.1.2.2.2 (x3 + 1 : Int32).toNatClampNeg)]) (rest := [.int r_3]) (n := 1) dL_law_246 (c_X9_prime (g.2.1.2.2.2 (x3 + 1 : Int32).toNatClampNeg)  _ _ h) (by decide) rfl tb_5_17 tb_5_14 tb_1_8 tb_5_15 tb_5_16 (by decide) rfl (by decide) (by decide) (Nat.le_of_ble_eq_true rfl) rfl (fun v_r_6 S_5 hq => ?_)
  obtain ⟨r_6, rfl, h⟩ := hq
  have h := hP _ _ _ h
  dsimp only [Option.toList, List.cons_append, List.nil_append]
  refine J_icmp_eq (tgt := 1551) dL_law_249 (by decide) (fun c_7 => ?_) (fun c_7 => ?_)
  · have h := h.1 c_7
    exact l_N_law_1551 _ _ hR18  _ _  h
  · have h := h.2 c_7
    refine J_iconst (v := 0) dL_law_252 (by decide)  ?_
    exact J_iret dL_law_253 rfl rfl ⟨_, rfl, h⟩
def q_N_law_254 (L : Nat) (xs : Nat → Int32) (R18 : Int32 → Sto → Prop) (Q : Int32 → Sto → Prop) (x3 : Int32) (S : Sto) : Prop := ∃ P : Int32 → Int32 → Sto → Prop, (∀ (r_3 r_6 : Int32) (S_5 : Sto), P r_3 r_6 S_5 → ((r_3 = r_6 → q_N_law_1551 L xs R18 Q x3 S_5) ∧ (¬ r_3 = r_6 → Q 0 S_5))) ∧ vp_in (x3 + 1) L ∧ wp_X8_order (xs (x3 + 1 : Int32).toNatClampNeg) S (fun r_3 S_2 => wp_X9_order (xs (x3 + 1 : Int32).toNatClampNeg) S_2 (fun r_6 S_5 => P r_3 r_6 S_5))
set_option maxRecDepth 100000 in
set_option maxHeartbeats 4000000 in
theorem l_N_law_254 {g : Gv}  (R18 : Int32 → Sto → Prop) (Q : Int32 → Sto → Prop) (hR18 : ∀ (y3 : Int32) (S : Sto), R18 y3 S → RJ g cL_law RL (some .boolean) 4 10 18 [(0, .ref g.2.1.2.1), (1, .ref (g.1 + 0)), (2, .ref (g.1 + 353)), (3, .int y3)] [] S (Qi Q))  (x3 : Int32) (S : Sto)  (h : q_N_law_254 g.2.1.2.2.1 g.2.1.2.2.2 R18 Q x3 S) : RJ g cL_law RL (some .boolean) 4 10 254 [(0, .ref g.2.1.2.1), (1, .ref (g.1 + 0)), (2, .ref (g.1 + 353)), (3, .int x3)] [] S (Qi Q) := by
  unfold q_N_law_254 at h
  obtain ⟨P, hP, h⟩ := h
  refine J_aload_n dL_law_254 rfl 1 rfl  ?_
  refine J_aload_n dL_law_255 rfl 0 rfl  ?_
  refine J_iload_n dL_law_256 rfl 3 rfl  ?_
  refine J_iconst (v := 1) dL_law_257 (by decide)  ?_
  refine J_iadd dL_law_258  ?_
  obtain ⟨hi_1, h⟩ := h
  refine J_sld dL_law_259 hi_1  ?_
  refine J_callV (h := 0) (ci := 6) (As := [.int (g.2.1.2.2.2 (x3 + 1 : Int32).toNatClampNeg)]) (rest := []) (n := 1) dL_law_260 (c_X8_order (g.2.1.2.2.2 (x3 + 1 : Int32).toNatClampNeg)  _ _ h) (by decide) rfl tb_2_68 tb_2_65 tb_1_1 tb_2_66 tb_2_67 (by decide) rfl (by decide) (by decide) (Nat.le_of_ble_eq_true rfl) rfl (fun v_r_3 S_2 hq => ?_)
  obtain ⟨r_3, rfl, h⟩ := hq
  dsimp only [Option.toList, List.cons_append, List.nil_append]
  refine J_aload_n dL_law_263 rfl 2 rfl  ?_
  refine J_aload_n dL_law_264 rfl 0 rfl  ?_
  refine J_iload_n dL_law_265 rfl 3 rfl  ?_
  refine J_iconst (v := 1) dL_law_266 (by decide)  ?_
  refine J_iadd dL_law_267  ?_
  refine J_sld dL_law_268 hi_1  ?_
  refine J_callV (h := 353) (ci := 7) (As := [.int (g.2.1.2.2.2 (x3 + 1 : Int32).toNatClampNeg)]) (rest := [.int r_3]) (n := 1) dL_law_269 (c_X9_order (g.2.1.2.2.2 (x3 + 1 : Int32).toNatClampNeg)  _ _ h) (by decide) rfl tb_5_21 tb_5_18 tb_1_8 tb_5_19 tb_5_20 (by decide) rfl (by decide) (by decide) (Nat.le_of_ble_eq_true rfl) rfl (fun v_r_6 S_5 hq => ?_)
  obtain ⟨r_6, rfl, h⟩ := hq
  have h := hP _ _ _ h
  dsimp only [Option.toList, List.cons_append, List.nil_append]
  refine J_icmp_eq (tgt := 1551) dL_law_272 (by decide) (fun c_7 => ?_) (fun c_7 => ?_)
  · have h := h.1 c_7
    exact l_N_law_1551 _ _ hR18  _ _  h
  · have h := h.2 c_7
    refine J_iconst (v := 0) dL_law_275 (by decide)  ?_
    exact J_iret dL_law_276 rfl rfl ⟨_, rfl, h⟩
def q_N_law_277 (L : Nat) (xs : Nat → Int32) (R18 : Int32 → Sto → Prop) (Q : Int32 → Sto → Prop) (x3 : Int32) (S : Sto) : Prop := ∃ P : Int32 → Int32 → Sto → Prop, (∀ (r_5 r_10 : Int32) (S_9 : Sto), P r_5 r_10 S_9 → ((r_5 = r_10 → q_N_law_1551 L xs R18 Q x3 S_9) ∧ (¬ r_5 = r_10 → Q 0 S_9))) ∧ vp_in (x3 + 1) L ∧ vp_in (x3 + 2) L ∧ vp_in (x3 + 3) L ∧ wp_X8_set (xs (x3 + 1 : Int32).toNatClampNeg) (xs (x3 + 2 : Int32).toNatClampNeg) (xs (x3 + 3 : Int32).toNatClampNeg) S (fun r_5 S_4 => wp_X9_set (xs (x3 + 1 : Int32).toNatClampNeg) (xs (x3 + 2 : Int32).toNatClampNeg) (xs (x3 + 3 : Int32).toNatClampNeg) S_4 (fun r_10 S_9 => P r_5 r_10 S_9))
set_option maxRecDepth 100000 in
set_option maxHeartbeats 4000000 in
theorem l_N_law_277 {g : Gv}  (R18 : Int32 → Sto → Prop) (Q : Int32 → Sto → Prop) (hR18 : ∀ (y3 : Int32) (S : Sto), R18 y3 S → RJ g cL_law RL (some .boolean) 4 10 18 [(0, .ref g.2.1.2.1), (1, .ref (g.1 + 0)), (2, .ref (g.1 + 353)), (3, .int y3)] [] S (Qi Q))  (x3 : Int32) (S : Sto)  (h : q_N_law_277 g.2.1.2.2.1 g.2.1.2.2.2 R18 Q x3 S) : RJ g cL_law RL (some .boolean) 4 10 277 [(0, .ref g.2.1.2.1), (1, .ref (g.1 + 0)), (2, .ref (g.1 + 353)), (3, .int x3)] [] S (Qi Q) := by
  unfold q_N_law_277 at h
  obtain ⟨P, hP, h⟩ := h
  refine J_aload_n dL_law_277 rfl 1 rfl  ?_
  refine J_aload_n dL_law_278 rfl 0 rfl  ?_
  refine J_iload_n dL_law_279 rfl 3 rfl  ?_
  refine J_iconst (v := 1) dL_law_280 (by decide)  ?_
  refine J_iadd dL_law_281  ?_
  obtain ⟨hi_1, h⟩ := h
  refine J_sld dL_law_282 hi_1  ?_
  refine J_aload_n dL_law_283 rfl 0 rfl  ?_
  refine J_iload_n dL_law_284 rfl 3 rfl  ?_
  refine J_iconst (v := 2) dL_law_285 (by decide)  ?_
  refine J_iadd dL_law_286  ?_
  obtain ⟨hi_2, h⟩ := h
  refine J_sld dL_law_287 hi_2  ?_
  refine J_aload_n dL_law_288 rfl 0 rfl  ?_
  refine J_iload_n dL_law_289 rfl 3 rfl  ?_
  refine J_iconst (v := 3) dL_law_290 (by decide)  ?_
  refine J_iadd dL_law_291  ?_
  obtain ⟨hi_3, h⟩ := h
  refine J_sld dL_law_292 hi_3  ?_
  refine J_callV (h := 0) (ci := 6) (As := [.int (g.2.1.2.2.2 (x3 + 1 : Int32).toNatClampNeg), .int (g.2.1.2.2.2 (x3 + 2 : Int32).toNatClampNeg), .int (g.2.1.2.2.2 (x3 + 3 : Int32).toNatClampNeg)]) (rest := []) (n := 3) dL_law_293 (c_X8_set (g.2.1.2.2.2 (x3 + 1 : Int32).toNatClampNeg) (g.2.1.2.2.2 (x3 + 2 : Int32).toNatClampNeg) (g.2.1.2.2.2 (x3 + 3 : Int32).toNatClampNeg)  _ _ h) (by decide) rfl tb_2_79 tb_2_76 tb_1_1 tb_2_77 tb_2_78 (by decide) rfl (by decide) (by decide) (Nat.le_of_ble_eq_true rfl) rfl (fun v_r_5 S_4 hq => ?_)
  obtain ⟨r_5, rfl, h⟩ := hq
  dsimp only [Option.toList, List.cons_append, List.nil_append]
  refine J_aload_n dL_law_296 rfl 2 rfl  ?_
  refine J_aload_n dL_law_297 rfl 0 rfl  ?_
  refine J_iload_n dL_law_298 rfl 3 rfl  ?_
  refine J_iconst (v := 1) dL_law_299 (by decide)  ?_
  refine J_iadd dL_law_300  ?_
  refine J_sld dL_law_301 hi_1  ?_
  refine J_aload_n dL_law_302 rfl 0 rfl  ?_
  refine J_iload_n dL_law_303 rfl 3 rfl  ?_
  refine J_iconst (v := 2) dL_law_304 (by decide)  ?_
  refine J_iadd dL_law_305  ?_
  refine J_sld dL_law_306 hi_2  ?_
  refine J_aload_n dL_law_307 rfl 0 rfl  ?_
  refine J_iload_n dL_law_308 rfl 3 rfl  ?_
  refine J_iconst (v := 3) dL_law_309 (by decide)  ?_
  refine J_iadd dL_law_310  ?_
  refine J_sld dL_law_311 hi_3  ?_
  refine J_callV (h := 353) (ci := 7) (As := [.int (g.2.1.2.2.2 (x3 + 1 : Int32).toNatClampNeg), .int (g.2.1.2.2.2 (x3 + 2 : Int32).toNatClampNeg), .int (g.2.1.2.2.2 (x3 + 3 : Int32).toNatClampNeg)]) (rest := [.int r_5]) (n := 3) dL_law_312 (c_X9_set (g.2.1.2.2.2 (x3 + 1 : Int32).toNatClampNeg) (g.2.1.2.2.2 (x3 + 2 : Int32).toNatClampNeg) (g.2.1.2.2.2 (x3 + 3 : Int32).toNatClampNeg)  _ _ h) (by decide) rfl tb_5_25 tb_5_22 tb_1_8 tb_5_23 tb_5_24 (by decide) rfl (by decide) (by decide) (Nat.le_of_ble_eq_true rfl) rfl (fun v_r_10 S_9 hq => ?_)
  obtain ⟨r_10, rfl, h⟩ := hq
  have h := hP _ _ _ h
  dsimp only [Option.toList, List.cons_append, List.nil_append]
  refine J_icmp_eq (tgt := 1551) dL_law_315 (by decide) (fun c_11 => ?_) (fun c_11 => ?_)
  · have h := h.1 c_11
    exact l_N_law_1551 _ _ hR18  _ _  h
  · have h := h.2 c_11
    refine J_iconst (v := 0) dL_law_318 (by decide)  ?_
    exact J_iret dL_law_319 rfl rfl ⟨_, rfl, h⟩
def q_N_law_320 (L : Nat) (xs : Nat → Int32) (R18 : Int32 → Sto → Prop) (Q : Int32 → Sto → Prop) (x3 : Int32) (S : Sto) : Prop := ∃ P : Int32 → Int32 → Sto → Prop, (∀ (r_5 r_10 : Int32) (S_9 : Sto), P r_5 r_10 S_9 → ((r_5 = r_10 → q_N_law_1551 L xs R18 Q x3 S_9) ∧ (¬ r_5 = r_10 → Q 0 S_9))) ∧ vp_in (x3 + 1) L ∧ vp_in (x3 + 2) L ∧ vp_in (x3 + 3) L ∧ wp_X8_product (xs (x3 + 1 : Int32).toNatClampNeg) (xs (x3 + 2 : Int32).toNatClampNeg) (xs (x3 + 3 : Int32).toNatClampNeg) S (fun r_5 S_4 => wp_X9_product (xs (x3 + 1 : Int32).toNatClampNeg) (xs (x3 + 2 : Int32).toNatClampNeg) (xs (x3 + 3 : Int32).toNatClampNeg) S_4 (fun r_10 S_9 => P r_5 r_10 S_9))
set_option maxRecDepth 100000 in
set_option maxHeartbeats 4000000 in
theorem l_N_law_320 {g : Gv}  (R18 : Int32 → Sto → Prop) (Q : Int32 → Sto → Prop) (hR18 : ∀ (y3 : Int32) (S : Sto), R18 y3 S → RJ g cL_law RL (some .boolean) 4 10 18 [(0, .ref g.2.1.2.1), (1, .ref (g.1 + 0)), (2, .ref (g.1 + 353)), (3, .int y3)] [] S (Qi Q))  (x3 : Int32) (S : Sto)  (h : q_N_law_320 g.2.1.2.2.1 g.2.1.2.2.2 R18 Q x3 S) : RJ g cL_law RL (some .boolean) 4 10 320 [(0, .ref g.2.1.2.1), (1, .ref (g.1 + 0)), (2, .ref (g.1 + 353)), (3, .int x3)] [] S (Qi Q) := by
  unfold q_N_law_320 at h
  obtain ⟨P, hP, h⟩ := h
  refine J_aload_n dL_law_320 rfl 1 rfl  ?_
  refine J_aload_n dL_law_321 rfl 0 rfl  ?_
  refine J_iload_n dL_law_322 rfl 3 rfl  ?_
  refine J_iconst (v := 1) dL_law_323 (by decide)  ?_
  refine J_iadd dL_law_324  ?_
  obtain ⟨hi_1, h⟩ := h
  refine J_sld dL_law_325 hi_1  ?_
  refine J_aload_n dL_law_326 rfl 0 rfl  ?_
  refine J_iload_n dL_law_327 rfl 3 rfl  ?_
  refine J_iconst (v := 2) dL_law_328 (by decide)  ?_
  refine J_iadd dL_law_329  ?_
  obtain ⟨hi_2, h⟩ := h
  refine J_sld dL_law_330 hi_2  ?_
  refine J_aload_n dL_law_331 rfl 0 rfl  ?_
  refine J_iload_n dL_law_332 rfl 3 rfl  ?_
  refine J_iconst (v := 3) dL_law_333 (by decide)  ?_
  refine J_iadd dL_law_334  ?_
  obtain ⟨hi_3, h⟩ := h
  refine J_sld dL_law_335 hi_3  ?_
  refine J_callV (h := 0) (ci := 6) (As := [.int (g.2.1.2.2.2 (x3 + 1 : Int32).toNatClampNeg), .int (g.2.1.2.2.2 (x3 + 2 : Int32).toNatClampNeg), .int (g.2.1.2.2.2 (x3 + 3 : Int32).toNatClampNeg)]) (rest := []) (n := 3) dL_law_336 (c_X8_product (g.2.1.2.2.2 (x3 + 1 : Int32).toNatClampNeg) (g.2.1.2.2.2 (x3 + 2 : Int32).toNatClampNeg) (g.2.1.2.2.2 (x3 + 3 : Int32).toNatClampNeg)  _ _ h) (by decide) rfl tb_2_101 tb_2_98 tb_1_1 tb_2_99 tb_2_100 (by decide) rfl (by decide) (by decide) (Nat.le_of_ble_eq_true rfl) rfl (fun v_r_5 S_4 hq => ?_)
  obtain ⟨r_5, rfl, h⟩ := hq
  dsimp only [Option.toList, List.cons_append, List.nil_append]
  refine J_aload_n dL_law_339 rfl 2 rfl  ?_
  refine J_aload_n dL_law_340 rfl 0 rfl  ?_
  refine J_iload_n dL_law_341 rfl 3 rfl  ?_
  refine J_iconst (v := 1) dL_law_342 (by decide)  ?_
  refine J_iadd dL_law_343  ?_
  refine J_sld dL_law_344 hi_1  ?_
  refine J_aload_n dL_law_345 rfl 0 rfl  ?_
  refine J_iload_n dL_law_346 rfl 3 rfl  ?_
  refine J_iconst (v := 2) dL_law_347 (by decide)  ?_
  refine J_iadd dL_law_348  ?_
  refine J_sld dL_law_349 hi_2  ?_
  refine J_aload_n dL_law_350 rfl 0 rfl  ?_
  refine J_iload_n dL_law_351 rfl 3 rfl  ?_
  refine J_iconst (v := 3) dL_law_352 (by decide)  ?_
  refine J_iadd dL_law_353  ?_
  refine J_sld dL_law_354 hi_3  ?_
  refine J_callV (h := 353) (ci := 7) (As := [.int (g.2.1.2.2.2 (x3 + 1 : Int32).toNatClampNeg), .int (g.2.1.2.2.2 (x3 + 2 : Int32).toNatClampNeg), .int (g.2.1.2.2.2 (x3 + 3 : Int32).toNatClampNeg)]) (rest := [.int r_5]) (n := 3) dL_law_355 (c_X9_product (g.2.1.2.2.2 (x3 + 1 : Int32).toNatClampNeg) (g.2.1.2.2.2 (x3 + 2 : Int32).toNatClampNeg) (g.2.1.2.2.2 (x3 + 3 : Int32).toNatClampNeg)  _ _ h) (by decide) rfl tb_5_41 tb_5_38 tb_1_8 tb_5_39 tb_5_40 (by decide) rfl (by decide) (by decide) (Nat.le_of_ble_eq_true rfl) rfl (fun v_r_10 S_9 hq => ?_)
  obtain ⟨r_10, rfl, h⟩ := hq
  have h := hP _ _ _ h
  dsimp only [Option.toList, List.cons_append, List.nil_append]
  refine J_icmp_eq (tgt := 1551) dL_law_358 (by decide) (fun c_11 => ?_) (fun c_11 => ?_)
  · have h := h.1 c_11
    exact l_N_law_1551 _ _ hR18  _ _  h
  · have h := h.2 c_11
    refine J_iconst (v := 0) dL_law_361 (by decide)  ?_
    exact J_iret dL_law_362 rfl rfl ⟨_, rfl, h⟩
def q_N_law_363 (L : Nat) (xs : Nat → Int32) (R18 : Int32 → Sto → Prop) (Q : Int32 → Sto → Prop) (x3 : Int32) (S : Sto) : Prop := ∃ P : Int32 → Int32 → Sto → Prop, (∀ (r_7 r_14 : Int32) (S_13 : Sto), P r_7 r_14 S_13 → ((r_7 = r_14 → q_N_law_1551 L xs R18 Q x3 S_13) ∧ (¬ r_7 = r_14 → Q 0 S_13))) ∧ vp_in (x3 + 1) L ∧ vp_in (x3 + 2) L ∧ vp_in (x3 + 3) L ∧ vp_in (x3 + 4) L ∧ vp_in (x3 + 5) L ∧ wp_X8_mix (xs (x3 + 1 : Int32).toNatClampNeg) (xs (x3 + 2 : Int32).toNatClampNeg) (xs (x3 + 3 : Int32).toNatClampNeg) (xs (x3 + 4 : Int32).toNatClampNeg) (xs (x3 + 5 : Int32).toNatClampNeg) S (fun r_7 S_6 => wp_X9_mix (xs (x3 + 1 : Int32).toNatClampNeg) (xs (x3 + 2 : Int32).toNatClampNeg) (xs (x3 + 3 : Int32).toNatClampNeg) (xs (x3 + 4 : Int32).toNatClampNeg) (xs (x3 + 5 : Int32).toNatClampNeg) S_6 (fun r_14 S_13 => P r_7 r_14 S_13))
set_option maxRecDepth 100000 in
set_option maxHeartbeats 4000000 in
theorem l_N_law_363 {g : Gv}  (R18 : Int32 → Sto → Prop) (Q : Int32 → Sto → Prop) (hR18 : ∀ (y3 : Int32) (S : Sto), R18 y3 S → RJ g cL_law RL (some .boolean) 4 10 18 [(0, .ref g.2.1.2.1), (1, .ref (g.1 + 0)), (2, .ref (g.1 + 353)), (3, .int y3)] [] S (Qi Q))  (x3 : Int32) (S : Sto)  (h : q_N_law_363 g.2.1.2.2.1 g.2.1.2.2.2 R18 Q x3 S) : RJ g cL_law RL (some .boolean) 4 10 363 [(0, .ref g.2.1.2.1), (1, .ref (g.1 + 0)), (2, .ref (g.1 + 353)), (3, .int x3)] [] S (Qi Q) := by
  unfold q_N_law_363 at h
  obtain ⟨P, hP, h⟩ := h
  refine J_aload_n dL_law_363 rfl 1 rfl  ?_
  refine J_aload_n dL_law_364 rfl 0 rfl  ?_
  refine J_iload_n dL_law_365 rfl 3 rfl  ?_
  refine J_iconst (v := 1) dL_law_366 (by decide)  ?_
  refine J_iadd dL_law_367  ?_
  obtain ⟨hi_1, h⟩ := h
  refine J_sld dL_law_368 hi_1  ?_
  refine J_aload_n dL_law_369 rfl 0 rfl  ?_
  refine J_iload_n dL_law_370 rfl 3 rfl  ?_
  refine J_iconst (v := 2) dL_law_371 (by decide)  ?_
  refine J_iadd dL_law_372  ?_
  obtain ⟨hi_2, h⟩ := h
  refine J_sld dL_law_373 hi_2  ?_
  refine J_aload_n dL_law_374 rfl 0 rfl  ?_
  refine J_iload_n dL_law_375 rfl 3 rfl  ?_
  refine J_iconst (v := 3) dL_law_376 (by decide)  ?_
  refine J_iadd dL_law_377  ?_
  obtain ⟨hi_3, h⟩ := h
  refine J_sld dL_law_378 hi_3  ?_
  refine J_aload_n dL_law_379 rfl 0 rfl  ?_
  refine J_iload_n dL_law_380 rfl 3 rfl  ?_
  refine J_iconst (v := 4) dL_law_381 (by decide)  ?_
  refine J_iadd dL_law_382  ?_
  obtain ⟨hi_4, h⟩ := h
  refine J_sld dL_law_383 hi_4  ?_
  refine J_aload_n dL_law_384 rfl 0 rfl  ?_
  refine J_iload_n dL_law_385 rfl 3 rfl  ?_
  refine J_iconst (v := 5) dL_law_386 (by decide)  ?_
  refine J_iadd dL_law_387  ?_
  obtain ⟨hi_5, h⟩ := h
  refine J_sld dL_law_388 hi_5  ?_
  refine J_callV (h := 0) (ci := 6) (As := [.int (g.2.1.2.2.2 (x3 + 1 : Int32).toNatClampNeg), .int (g.2.1.2.2.2 (x3 + 2 : Int32).toNatClampNeg), .int (g.2.1.2.2.2 (x3 + 3 : Int32).toNatClampNeg), .int (g.2.1.2.2.2 (x3 + 4 : Int32).toNatClampNeg), .int (g.2.1.2.2.2 (x3 + 5 : Int32).toNatClampNeg)]) (rest := []) (n := 5) dL_law_389 (c_X8_mix (g.2.1.2.2.2 (x3 + 1 : Int32).toNatClampNeg) (g.2.1.2.2.2 (x3 + 2 : Int32).toNatClampNeg) (g.2.1.2.2.2 (x3 + 3 : Int32).toNatClampNeg) (g.2.1.2.2.2 (x3 + 4 : Int32).toNatClampNeg) (g.2.1.2.2.2 (x3 + 5 : Int32).toNatClampNeg)  _ _ h) (by decide) rfl tb_2_130 tb_2_127 tb_1_1 tb_2_128 tb_2_129 (by decide) rfl (by decide) (by decide) (Nat.le_of_ble_eq_true rfl) rfl (fun v_r_7 S_6 hq => ?_)
  obtain ⟨r_7, rfl, h⟩ := hq
  dsimp only [Option.toList, List.cons_append, List.nil_append]
  refine J_aload_n dL_law_392 rfl 2 rfl  ?_
  refine J_aload_n dL_law_393 rfl 0 rfl  ?_
  refine J_iload_n dL_law_394 rfl 3 rfl  ?_
  refine J_iconst (v := 1) dL_law_395 (by decide)  ?_
  refine J_iadd dL_law_396  ?_
  refine J_sld dL_law_397 hi_1  ?_
  refine J_aload_n dL_law_398 rfl 0 rfl  ?_
  refine J_iload_n dL_law_399 rfl 3 rfl  ?_
  refine J_iconst (v := 2) dL_law_400 (by decide)  ?_
  refine J_iadd dL_law_401  ?_
  refine J_sld dL_law_402 hi_2  ?_
  refine J_aload_n dL_law_403 rfl 0 rfl  ?_
  refine J_iload_n dL_law_404 rfl 3 rfl  ?_
  refine J_iconst (v := 3) dL_law_405 (by decide)  ?_
  refine J_iadd dL_law_406  ?_
  refine J_sld dL_law_407 hi_3  ?_
  refine J_aload_n dL_law_408 rfl 0 rfl  ?_
  refine J_iload_n dL_law_409 rfl 3 rfl  ?_
  refine J_iconst (v := 4) dL_law_410 (by decide)  ?_
  refine J_iadd dL_law_411  ?_
  refine J_sld dL_law_412 hi_4  ?_
  refine J_aload_n dL_law_413 rfl 0 rfl  ?_
  refine J_iload_n dL_law_414 rfl 3 rfl  ?_
  refine J_iconst (v := 5) dL_law_415 (by decide)  ?_
  refine J_iadd dL_law_416  ?_
  refine J_sld dL_law_417 hi_5  ?_
  refine J_callV (h := 353) (ci := 7) (As := [.int (g.2.1.2.2.2 (x3 + 1 : Int32).toNatClampNeg), .int (g.2.1.2.2.2 (x3 + 2 : Int32).toNatClampNeg), .int (g.2.1.2.2.2 (x3 + 3 : Int32).toNatClampNeg), .int (g.2.1.2.2.2 (x3 + 4 : Int32).toNatClampNeg), .int (g.2.1.2.2.2 (x3 + 5 : Int32).toNatClampNeg)]) (rest := [.int r_7]) (n := 5) dL_law_418 (c_X9_mix (g.2.1.2.2.2 (x3 + 1 : Int32).toNatClampNeg) (g.2.1.2.2.2 (x3 + 2 : Int32).toNatClampNeg) (g.2.1.2.2.2 (x3 + 3 : Int32).toNatClampNeg) (g.2.1.2.2.2 (x3 + 4 : Int32).toNatClampNeg) (g.2.1.2.2.2 (x3 + 5 : Int32).toNatClampNeg)  _ _ h) (by decide) rfl tb_5_56 tb_5_53 tb_1_8 tb_5_54 tb_5_55 (by decide) rfl (by decide) (by decide) (Nat.le_of_ble_eq_true rfl) rfl (fun v_r_14 S_13 hq => ?_)
  obtain ⟨r_14, rfl, h⟩ := hq
  have h := hP _ _ _ h
  dsimp only [Option.toList, List.cons_append, List.nil_append]
  refine J_icmp_eq (tgt := 1551) dL_law_421 (by decide) (fun c_15 => ?_) (fun c_15 => ?_)
  · have h := h.1 c_15
    exact l_N_law_1551 _ _ hR18  _ _  h
  · have h := h.2 c_15
    refine J_iconst (v := 0) dL_law_424 (by decide)  ?_
    exact J_iret dL_law_425 rfl rfl ⟨_, rfl, h⟩
def q_N_law_426 (L : Nat) (xs : Nat → Int32) (R18 : Int32 → Sto → Prop) (Q : Int32 → Sto → Prop) (x3 : Int32) (S : Sto) : Prop := ∃ P : Int32 → Int32 → Sto → Prop, (∀ (r_5 r_10 : Int32) (S_9 : Sto), P r_5 r_10 S_9 → ((r_5 = r_10 → q_N_law_1551 L xs R18 Q x3 S_9) ∧ (¬ r_5 = r_10 → Q 0 S_9))) ∧ vp_in (x3 + 1) L ∧ vp_in (x3 + 2) L ∧ vp_in (x3 + 3) L ∧ wp_X8_becomes (xs (x3 + 1 : Int32).toNatClampNeg) (xs (x3 + 2 : Int32).toNatClampNeg) (xs (x3 + 3 : Int32).toNatClampNeg) S (fun r_5 S_4 => wp_X9_becomes (xs (x3 + 1 : Int32).toNatClampNeg) (xs (x3 + 2 : Int32).toNatClampNeg) (xs (x3 + 3 : Int32).toNatClampNeg) S_4 (fun r_10 S_9 => P r_5 r_10 S_9))
set_option maxRecDepth 100000 in
set_option maxHeartbeats 4000000 in
theorem l_N_law_426 {g : Gv}  (R18 : Int32 → Sto → Prop) (Q : Int32 → Sto → Prop) (hR18 : ∀ (y3 : Int32) (S : Sto), R18 y3 S → RJ g cL_law RL (some .boolean) 4 10 18 [(0, .ref g.2.1.2.1), (1, .ref (g.1 + 0)), (2, .ref (g.1 + 353)), (3, .int y3)] [] S (Qi Q))  (x3 : Int32) (S : Sto)  (h : q_N_law_426 g.2.1.2.2.1 g.2.1.2.2.2 R18 Q x3 S) : RJ g cL_law RL (some .boolean) 4 10 426 [(0, .ref g.2.1.2.1), (1, .ref (g.1 + 0)), (2, .ref (g.1 + 353)), (3, .int x3)] [] S (Qi Q) := by
  unfold q_N_law_426 at h
  obtain ⟨P, hP, h⟩ := h
  refine J_aload_n dL_law_426 rfl 1 rfl  ?_
  refine J_aload_n dL_law_427 rfl 0 rfl  ?_
  refine J_iload_n dL_law_428 rfl 3 rfl  ?_
  refine J_iconst (v := 1) dL_law_429 (by decide)  ?_
  refine J_iadd dL_law_430  ?_
  obtain ⟨hi_1, h⟩ := h
  refine J_sld dL_law_431 hi_1  ?_
  refine J_aload_n dL_law_432 rfl 0 rfl  ?_
  refine J_iload_n dL_law_433 rfl 3 rfl  ?_
  refine J_iconst (v := 2) dL_law_434 (by decide)  ?_
  refine J_iadd dL_law_435  ?_
  obtain ⟨hi_2, h⟩ := h
  refine J_sld dL_law_436 hi_2  ?_
  refine J_aload_n dL_law_437 rfl 0 rfl  ?_
  refine J_iload_n dL_law_438 rfl 3 rfl  ?_
  refine J_iconst (v := 3) dL_law_439 (by decide)  ?_
  refine J_iadd dL_law_440  ?_
  obtain ⟨hi_3, h⟩ := h
  refine J_sld dL_law_441 hi_3  ?_
  refine J_callV (h := 0) (ci := 6) (As := [.int (g.2.1.2.2.2 (x3 + 1 : Int32).toNatClampNeg), .int (g.2.1.2.2.2 (x3 + 2 : Int32).toNatClampNeg), .int (g.2.1.2.2.2 (x3 + 3 : Int32).toNatClampNeg)]) (rest := []) (n := 3) dL_law_442 (c_X8_becomes (g.2.1.2.2.2 (x3 + 1 : Int32).toNatClampNeg) (g.2.1.2.2.2 (x3 + 2 : Int32).toNatClampNeg) (g.2.1.2.2.2 (x3 + 3 : Int32).toNatClampNeg)  _ _ h) (by decide) rfl tb_2_134 tb_2_131 tb_1_1 tb_2_132 tb_2_133 (by decide) rfl (by decide) (by decide) (Nat.le_of_ble_eq_true rfl) rfl (fun v_r_5 S_4 hq => ?_)
  obtain ⟨r_5, rfl, h⟩ := hq
  dsimp only [Option.toList, List.cons_append, List.nil_append]
  refine J_aload_n dL_law_445 rfl 2 rfl  ?_
  refine J_aload_n dL_law_446 rfl 0 rfl  ?_
  refine J_iload_n dL_law_447 rfl 3 rfl  ?_
  refine J_iconst (v := 1) dL_law_448 (by decide)  ?_
  refine J_iadd dL_law_449  ?_
  refine J_sld dL_law_450 hi_1  ?_
  refine J_aload_n dL_law_451 rfl 0 rfl  ?_
  refine J_iload_n dL_law_452 rfl 3 rfl  ?_
  refine J_iconst (v := 2) dL_law_453 (by decide)  ?_
  refine J_iadd dL_law_454  ?_
  refine J_sld dL_law_455 hi_2  ?_
  refine J_aload_n dL_law_456 rfl 0 rfl  ?_
  refine J_iload_n dL_law_457 rfl 3 rfl  ?_
  refine J_iconst (v := 3) dL_law_458 (by decide)  ?_
  refine J_iadd dL_law_459  ?_
  refine J_sld dL_law_460 hi_3  ?_
  refine J_callV (h := 353) (ci := 7) (As := [.int (g.2.1.2.2.2 (x3 + 1 : Int32).toNatClampNeg), .int (g.2.1.2.2.2 (x3 + 2 : Int32).toNatClampNeg), .int (g.2.1.2.2.2 (x3 + 3 : Int32).toNatClampNeg)]) (rest := [.int r_5]) (n := 3) dL_law_461 (c_X9_becomes (g.2.1.2.2.2 (x3 + 1 : Int32).toNatClampNeg) (g.2.1.2.2.2 (x3 + 2 : Int32).toNatClampNeg) (g.2.1.2.2.2 (x3 + 3 : Int32).toNatClampNeg)  _ _ h) (by decide) rfl tb_5_60 tb_5_57 tb_1_8 tb_5_58 tb_5_59 (by decide) rfl (by decide) (by decide) (Nat.le_of_ble_eq_true rfl) rfl (fun v_r_10 S_9 hq => ?_)
  obtain ⟨r_10, rfl, h⟩ := hq
  have h := hP _ _ _ h
  dsimp only [Option.toList, List.cons_append, List.nil_append]
  refine J_icmp_eq (tgt := 1551) dL_law_464 (by decide) (fun c_11 => ?_) (fun c_11 => ?_)
  · have h := h.1 c_11
    exact l_N_law_1551 _ _ hR18  _ _  h
  · have h := h.2 c_11
    refine J_iconst (v := 0) dL_law_467 (by decide)  ?_
    exact J_iret dL_law_468 rfl rfl ⟨_, rfl, h⟩
def q_N_law_469 (L : Nat) (xs : Nat → Int32) (R18 : Int32 → Sto → Prop) (Q : Int32 → Sto → Prop) (x3 : Int32) (S : Sto) : Prop := ∃ P : Int32 → Int32 → Sto → Prop, (∀ (r_3 r_6 : Int32) (S_5 : Sto), P r_3 r_6 S_5 → ((r_3 = r_6 → q_N_law_1551 L xs R18 Q x3 S_5) ∧ (¬ r_3 = r_6 → Q 0 S_5))) ∧ vp_in (x3 + 1) L ∧ wp_X8_generate (xs (x3 + 1 : Int32).toNatClampNeg) S (fun r_3 S_2 => wp_X9_generate (xs (x3 + 1 : Int32).toNatClampNeg) S_2 (fun r_6 S_5 => P r_3 r_6 S_5))
set_option maxRecDepth 100000 in
set_option maxHeartbeats 4000000 in
theorem l_N_law_469 {g : Gv}  (R18 : Int32 → Sto → Prop) (Q : Int32 → Sto → Prop) (hR18 : ∀ (y3 : Int32) (S : Sto), R18 y3 S → RJ g cL_law RL (some .boolean) 4 10 18 [(0, .ref g.2.1.2.1), (1, .ref (g.1 + 0)), (2, .ref (g.1 + 353)), (3, .int y3)] [] S (Qi Q))  (x3 : Int32) (S : Sto)  (h : q_N_law_469 g.2.1.2.2.1 g.2.1.2.2.2 R18 Q x3 S) : RJ g cL_law RL (some .boolean) 4 10 469 [(0, .ref g.2.1.2.1), (1, .ref (g.1 + 0)), (2, .ref (g.1 + 353)), (3, .int x3)] [] S (Qi Q) := by
  unfold q_N_law_469 at h
  obtain ⟨P, hP, h⟩ := h
  refine J_aload_n dL_law_469 rfl 1 rfl  ?_
  refine J_aload_n dL_law_470 rfl 0 rfl  ?_
  refine J_iload_n dL_law_471 rfl 3 rfl  ?_
  refine J_iconst (v := 1) dL_law_472 (by decide)  ?_
  refine J_iadd dL_law_473  ?_
  obtain ⟨hi_1, h⟩ := h
  refine J_sld dL_law_474 hi_1  ?_
  refine J_callV (h := 0) (ci := 6) (As := [.int (g.2.1.2.2.2 (x3 + 1 : Int32).toNatClampNeg)]) (rest := []) (n := 1) dL_law_475 (c_X8_generate (g.2.1.2.2.2 (x3 + 1 : Int32).toNatClampNeg)  _ _ h) (by decide) rfl tb_2_201 tb_2_198 tb_1_1 tb_2_199 tb_2_200 (by decide) rfl (by decide) (by decide) (Nat.le_of_ble_eq_true rfl) rfl (fun v_r_3 S_2 hq => ?_)
  obtain ⟨r_3, rfl, h⟩ := hq
  dsimp only [Option.toList, List.cons_append, List.nil_append]
  refine J_aload_n dL_law_478 rfl 2 rfl  ?_
  refine J_aload_n dL_law_479 rfl 0 rfl  ?_
  refine J_iload_n dL_law_480 rfl 3 rfl  ?_
  refine J_iconst (v := 1) dL_law_481 (by decide)  ?_
  refine J_iadd dL_law_482  ?_
  refine J_sld dL_law_483 hi_1  ?_
  refine J_callV (h := 353) (ci := 7) (As := [.int (g.2.1.2.2.2 (x3 + 1 : Int32).toNatClampNeg)]) (rest := [.int r_3]) (n := 1) dL_law_484 (c_X9_generate (g.2.1.2.2.2 (x3 + 1 : Int32).toNatClampNeg)  _ _ h) (by decide) rfl tb_5_104 tb_5_101 tb_1_8 tb_5_102 tb_5_103 (by decide) rfl (by decide) (by decide) (Nat.le_of_ble_eq_true rfl) rfl (fun v_r_6 S_5 hq => ?_)
  obtain ⟨r_6, rfl, h⟩ := hq
  have h := hP _ _ _ h
  dsimp only [Option.toList, List.cons_append, List.nil_append]
  refine J_icmp_eq (tgt := 1551) dL_law_487 (by decide) (fun c_7 => ?_) (fun c_7 => ?_)
  · have h := h.1 c_7
    exact l_N_law_1551 _ _ hR18  _ _  h
  · have h := h.2 c_7
    refine J_iconst (v := 0) dL_law_490 (by decide)  ?_
    exact J_iret dL_law_491 rfl rfl ⟨_, rfl, h⟩
def q_N_law_492 (L : Nat) (xs : Nat → Int32) (R18 : Int32 → Sto → Prop) (Q : Int32 → Sto → Prop) (x3 : Int32) (S : Sto) : Prop := ∃ P : Int32 → Int32 → Sto → Prop, (∀ (r_2 r_4 : Int32) (S_3 : Sto), P r_2 r_4 S_3 → ((r_2 = r_4 → q_N_law_1551 L xs R18 Q x3 S_3) ∧ (¬ r_2 = r_4 → Q 0 S_3))) ∧ wp_X8_clear  S (fun r_2 S_1 => wp_X9_clear  S_1 (fun r_4 S_3 => P r_2 r_4 S_3))
set_option maxRecDepth 100000 in
set_option maxHeartbeats 4000000 in
theorem l_N_law_492 {g : Gv}  (R18 : Int32 → Sto → Prop) (Q : Int32 → Sto → Prop) (hR18 : ∀ (y3 : Int32) (S : Sto), R18 y3 S → RJ g cL_law RL (some .boolean) 4 10 18 [(0, .ref g.2.1.2.1), (1, .ref (g.1 + 0)), (2, .ref (g.1 + 353)), (3, .int y3)] [] S (Qi Q))  (x3 : Int32) (S : Sto)  (h : q_N_law_492 g.2.1.2.2.1 g.2.1.2.2.2 R18 Q x3 S) : RJ g cL_law RL (some .boolean) 4 10 492 [(0, .ref g.2.1.2.1), (1, .ref (g.1 + 0)), (2, .ref (g.1 + 353)), (3, .int x3)] [] S (Qi Q) := by
  unfold q_N_law_492 at h
  obtain ⟨P, hP, h⟩ := h
  refine J_aload_n dL_law_492 rfl 1 rfl  ?_
  refine J_callV (h := 0) (ci := 6) (As := []) (rest := []) (n := 0) dL_law_493 (c_X8_clear   _ _ h) (by decide) rfl tb_2_209 tb_2_206 tb_1_1 tb_2_207 tb_2_208 (by decide) rfl (by decide) (by decide) (Nat.le_of_ble_eq_true rfl) rfl (fun v_r_2 S_1 hq => ?_)
  obtain ⟨r_2, rfl, h⟩ := hq
  dsimp only [Option.toList, List.cons_append, List.nil_append]
  refine J_aload_n dL_law_496 rfl 2 rfl  ?_
  refine J_callV (h := 353) (ci := 7) (As := []) (rest := [.int r_2]) (n := 0) dL_law_497 (c_X9_clear   _ _ h) (by decide) rfl tb_5_108 tb_5_105 tb_1_8 tb_5_106 tb_5_107 (by decide) rfl (by decide) (by decide) (Nat.le_of_ble_eq_true rfl) rfl (fun v_r_4 S_3 hq => ?_)
  obtain ⟨r_4, rfl, h⟩ := hq
  have h := hP _ _ _ h
  dsimp only [Option.toList, List.cons_append, List.nil_append]
  refine J_icmp_eq (tgt := 1551) dL_law_500 (by decide) (fun c_5 => ?_) (fun c_5 => ?_)
  · have h := h.1 c_5
    exact l_N_law_1551 _ _ hR18  _ _  h
  · have h := h.2 c_5
    refine J_iconst (v := 0) dL_law_503 (by decide)  ?_
    exact J_iret dL_law_504 rfl rfl ⟨_, rfl, h⟩
def q_N_law_505 (L : Nat) (xs : Nat → Int32) (R18 : Int32 → Sto → Prop) (Q : Int32 → Sto → Prop) (x3 : Int32) (S : Sto) : Prop := ∃ P : Int32 → Int32 → Sto → Prop, (∀ (r_3 r_6 : Int32) (S_5 : Sto), P r_3 r_6 S_5 → ((r_3 = r_6 → q_N_law_1551 L xs R18 Q x3 S_5) ∧ (¬ r_3 = r_6 → Q 0 S_5))) ∧ vp_in (x3 + 1) L ∧ wp_X8_feed (xs (x3 + 1 : Int32).toNatClampNeg) S (fun r_3 S_2 => wp_X9_feed (xs (x3 + 1 : Int32).toNatClampNeg) S_2 (fun r_6 S_5 => P r_3 r_6 S_5))
set_option maxRecDepth 100000 in
set_option maxHeartbeats 4000000 in
theorem l_N_law_505 {g : Gv}  (R18 : Int32 → Sto → Prop) (Q : Int32 → Sto → Prop) (hR18 : ∀ (y3 : Int32) (S : Sto), R18 y3 S → RJ g cL_law RL (some .boolean) 4 10 18 [(0, .ref g.2.1.2.1), (1, .ref (g.1 + 0)), (2, .ref (g.1 + 353)), (3, .int y3)] [] S (Qi Q))  (x3 : Int32) (S : Sto)  (h : q_N_law_505 g.2.1.2.2.1 g.2.1.2.2.2 R18 Q x3 S) : RJ g cL_law RL (some .boolean) 4 10 505 [(0, .ref g.2.1.2.1), (1, .ref (g.1 + 0)), (2, .ref (g.1 + 353)), (3, .int x3)] [] S (Qi Q) := by
  unfold q_N_law_505 at h
  obtain ⟨P, hP, h⟩ := h
  refine J_aload_n dL_law_505 rfl 1 rfl  ?_
  refine J_aload_n dL_law_506 rfl 0 rfl  ?_
  refine J_iload_n dL_law_507 rfl 3 rfl  ?_
  refine J_iconst (v := 1) dL_law_508 (by decide)  ?_
  refine J_iadd dL_law_509  ?_
  obtain ⟨hi_1, h⟩ := h
  refine J_sld dL_law_510 hi_1  ?_
  refine J_callV (h := 0) (ci := 6) (As := [.int (g.2.1.2.2.2 (x3 + 1 : Int32).toNatClampNeg)]) (rest := []) (n := 1) dL_law_511 (c_X8_feed (g.2.1.2.2.2 (x3 + 1 : Int32).toNatClampNeg)  _ _ h) (by decide) rfl tb_2_214 tb_2_211 tb_1_1 tb_2_212 tb_2_213 (by decide) rfl (by decide) (by decide) (Nat.le_of_ble_eq_true rfl) rfl (fun v_r_3 S_2 hq => ?_)
  obtain ⟨r_3, rfl, h⟩ := hq
  dsimp only [Option.toList, List.cons_append, List.nil_append]
  refine J_aload_n dL_law_514 rfl 2 rfl  ?_
  refine J_aload_n dL_law_515 rfl 0 rfl  ?_
  refine J_iload_n dL_law_516 rfl 3 rfl  ?_
  refine J_iconst (v := 1) dL_law_517 (by decide)  ?_
  refine J_iadd dL_law_518  ?_
  refine J_sld dL_law_519 hi_1  ?_
  refine J_callV (h := 353) (ci := 7) (As := [.int (g.2.1.2.2.2 (x3 + 1 : Int32).toNatClampNeg)]) (rest := [.int r_3]) (n := 1) dL_law_520 (c_X9_feed (g.2.1.2.2.2 (x3 + 1 : Int32).toNatClampNeg)  _ _ h) (by decide) rfl tb_5_112 tb_5_109 tb_1_8 tb_5_110 tb_5_111 (by decide) rfl (by decide) (by decide) (Nat.le_of_ble_eq_true rfl) rfl (fun v_r_6 S_5 hq => ?_)
  obtain ⟨r_6, rfl, h⟩ := hq
  have h := hP _ _ _ h
  dsimp only [Option.toList, List.cons_append, List.nil_append]
  refine J_icmp_eq (tgt := 1551) dL_law_523 (by decide) (fun c_7 => ?_) (fun c_7 => ?_)
  · have h := h.1 c_7
    exact l_N_law_1551 _ _ hR18  _ _  h
  · have h := h.2 c_7
    refine J_iconst (v := 0) dL_law_526 (by decide)  ?_
    exact J_iret dL_law_527 rfl rfl ⟨_, rfl, h⟩
def q_N_law_528 (L : Nat) (xs : Nat → Int32) (R18 : Int32 → Sto → Prop) (Q : Int32 → Sto → Prop) (x3 : Int32) (S : Sto) : Prop := ∃ P : Int32 → Int32 → Sto → Prop, (∀ (r_2 r_4 : Int32) (S_3 : Sto), P r_2 r_4 S_3 → ((r_2 = r_4 → q_N_law_1551 L xs R18 Q x3 S_3) ∧ (¬ r_2 = r_4 → Q 0 S_3))) ∧ wp_X8_read  S (fun r_2 S_1 => wp_X9_read  S_1 (fun r_4 S_3 => P r_2 r_4 S_3))
set_option maxRecDepth 100000 in
set_option maxHeartbeats 4000000 in
theorem l_N_law_528 {g : Gv}  (R18 : Int32 → Sto → Prop) (Q : Int32 → Sto → Prop) (hR18 : ∀ (y3 : Int32) (S : Sto), R18 y3 S → RJ g cL_law RL (some .boolean) 4 10 18 [(0, .ref g.2.1.2.1), (1, .ref (g.1 + 0)), (2, .ref (g.1 + 353)), (3, .int y3)] [] S (Qi Q))  (x3 : Int32) (S : Sto)  (h : q_N_law_528 g.2.1.2.2.1 g.2.1.2.2.2 R18 Q x3 S) : RJ g cL_law RL (some .boolean) 4 10 528 [(0, .ref g.2.1.2.1), (1, .ref (g.1 + 0)), (2, .ref (g.1 + 353)), (3, .int x3)] [] S (Qi Q) := by
  unfold q_N_law_528 at h
  obtain ⟨P, hP, h⟩ := h
  refine J_aload_n dL_law_528 rfl 1 rfl  ?_
  refine J_callV (h := 0) (ci := 6) (As := []) (rest := []) (n := 0) dL_law_529 (c_X8_read   _ _ h) (by decide) rfl tb_2_222 tb_2_219 tb_1_1 tb_2_220 tb_2_221 (by decide) rfl (by decide) (by decide) (Nat.le_of_ble_eq_true rfl) rfl (fun v_r_2 S_1 hq => ?_)
  obtain ⟨r_2, rfl, h⟩ := hq
  dsimp only [Option.toList, List.cons_append, List.nil_append]
  refine J_aload_n dL_law_532 rfl 2 rfl  ?_
  refine J_callV (h := 353) (ci := 7) (As := []) (rest := [.int r_2]) (n := 0) dL_law_533 (c_X9_read   _ _ h) (by decide) rfl tb_5_117 tb_5_114 tb_1_8 tb_5_115 tb_5_116 (by decide) rfl (by decide) (by decide) (Nat.le_of_ble_eq_true rfl) rfl (fun v_r_4 S_3 hq => ?_)
  obtain ⟨r_4, rfl, h⟩ := hq
  have h := hP _ _ _ h
  dsimp only [Option.toList, List.cons_append, List.nil_append]
  refine J_icmp_eq (tgt := 1551) dL_law_536 (by decide) (fun c_5 => ?_) (fun c_5 => ?_)
  · have h := h.1 c_5
    exact l_N_law_1551 _ _ hR18  _ _  h
  · have h := h.2 c_5
    refine J_iconst (v := 0) dL_law_539 (by decide)  ?_
    exact J_iret dL_law_540 rfl rfl ⟨_, rfl, h⟩
def q_N_law_541 (L : Nat) (xs : Nat → Int32) (R18 : Int32 → Sto → Prop) (Q : Int32 → Sto → Prop) (x3 : Int32) (S : Sto) : Prop := ∃ P : Int32 → Int32 → Sto → Prop, (∀ (r_4 r_8 : Int32) (S_7 : Sto), P r_4 r_8 S_7 → ((r_4 = r_8 → q_N_law_1551 L xs R18 Q x3 S_7) ∧ (¬ r_4 = r_8 → Q 0 S_7))) ∧ vp_in (x3 + 1) L ∧ vp_in (x3 + 2) L ∧ wp_X8_of (xs (x3 + 1 : Int32).toNatClampNeg) (xs (x3 + 2 : Int32).toNatClampNeg) S (fun r_4 S_3 => wp_X9_of (xs (x3 + 1 : Int32).toNatClampNeg) (xs (x3 + 2 : Int32).toNatClampNeg) S_3 (fun r_8 S_7 => P r_4 r_8 S_7))
set_option maxRecDepth 100000 in
set_option maxHeartbeats 4000000 in
theorem l_N_law_541 {g : Gv}  (R18 : Int32 → Sto → Prop) (Q : Int32 → Sto → Prop) (hR18 : ∀ (y3 : Int32) (S : Sto), R18 y3 S → RJ g cL_law RL (some .boolean) 4 10 18 [(0, .ref g.2.1.2.1), (1, .ref (g.1 + 0)), (2, .ref (g.1 + 353)), (3, .int y3)] [] S (Qi Q))  (x3 : Int32) (S : Sto)  (h : q_N_law_541 g.2.1.2.2.1 g.2.1.2.2.2 R18 Q x3 S) : RJ g cL_law RL (some .boolean) 4 10 541 [(0, .ref g.2.1.2.1), (1, .ref (g.1 + 0)), (2, .ref (g.1 + 353)), (3, .int x3)] [] S (Qi Q) := by
  unfold q_N_law_541 at h
  obtain ⟨P, hP, h⟩ := h
  refine J_aload_n dL_law_541 rfl 1 rfl  ?_
  refine J_aload_n dL_law_542 rfl 0 rfl  ?_
  refine J_iload_n dL_law_543 rfl 3 rfl  ?_
  refine J_iconst (v := 1) dL_law_544 (by decide)  ?_
  refine J_iadd dL_law_545  ?_
  obtain ⟨hi_1, h⟩ := h
  refine J_sld dL_law_546 hi_1  ?_
  refine J_aload_n dL_law_547 rfl 0 rfl  ?_
  refine J_iload_n dL_law_548 rfl 3 rfl  ?_
  refine J_iconst (v := 2) dL_law_549 (by decide)  ?_
  refine J_iadd dL_law_550  ?_
  obtain ⟨hi_2, h⟩ := h
  refine J_sld dL_law_551 hi_2  ?_
  refine J_callV (h := 0) (ci := 6) (As := [.int (g.2.1.2.2.2 (x3 + 1 : Int32).toNatClampNeg), .int (g.2.1.2.2.2 (x3 + 2 : Int32).toNatClampNeg)]) (rest := []) (n := 2) dL_law_552 (c_X8_of (g.2.1.2.2.2 (x3 + 1 : Int32).toNatClampNeg) (g.2.1.2.2.2 (x3 + 2 : Int32).toNatClampNeg)  _ _ h) (by decide) rfl tb_3_43 tb_3_40 tb_1_1 tb_3_41 tb_3_42 (by decide) rfl (by decide) (by decide) (Nat.le_of_ble_eq_true rfl) rfl (fun v_r_4 S_3 hq => ?_)
  obtain ⟨r_4, rfl, h⟩ := hq
  dsimp only [Option.toList, List.cons_append, List.nil_append]
  refine J_aload_n dL_law_555 rfl 2 rfl  ?_
  refine J_aload_n dL_law_556 rfl 0 rfl  ?_
  refine J_iload_n dL_law_557 rfl 3 rfl  ?_
  refine J_iconst (v := 1) dL_law_558 (by decide)  ?_
  refine J_iadd dL_law_559  ?_
  refine J_sld dL_law_560 hi_1  ?_
  refine J_aload_n dL_law_561 rfl 0 rfl  ?_
  refine J_iload_n dL_law_562 rfl 3 rfl  ?_
  refine J_iconst (v := 2) dL_law_563 (by decide)  ?_
  refine J_iadd dL_law_564  ?_
  refine J_sld dL_law_565 hi_2  ?_
  refine J_callV (h := 353) (ci := 7) (As := [.int (g.2.1.2.2.2 (x3 + 1 : Int32).toNatClampNeg), .int (g.2.1.2.2.2 (x3 + 2 : Int32).toNatClampNeg)]) (rest := [.int r_4]) (n := 2) dL_law_566 (c_X9_of (g.2.1.2.2.2 (x3 + 1 : Int32).toNatClampNeg) (g.2.1.2.2.2 (x3 + 2 : Int32).toNatClampNeg)  _ _ h) (by decide) rfl tb_5_165 tb_5_162 tb_1_8 tb_5_163 tb_5_164 (by decide) rfl (by decide) (by decide) (Nat.le_of_ble_eq_true rfl) rfl (fun v_r_8 S_7 hq => ?_)
  obtain ⟨r_8, rfl, h⟩ := hq
  have h := hP _ _ _ h
  dsimp only [Option.toList, List.cons_append, List.nil_append]
  refine J_icmp_eq (tgt := 1551) dL_law_569 (by decide) (fun c_9 => ?_) (fun c_9 => ?_)
  · have h := h.1 c_9
    exact l_N_law_1551 _ _ hR18  _ _  h
  · have h := h.2 c_9
    refine J_iconst (v := 0) dL_law_572 (by decide)  ?_
    exact J_iret dL_law_573 rfl rfl ⟨_, rfl, h⟩
def q_N_law_574 (L : Nat) (xs : Nat → Int32) (R18 : Int32 → Sto → Prop) (Q : Int32 → Sto → Prop) (x3 : Int32) (S : Sto) : Prop := ∃ P : Int32 → Int32 → Sto → Prop, (∀ (r_3 r_6 : Int32) (S_5 : Sto), P r_3 r_6 S_5 → ((r_3 = r_6 → q_N_law_1551 L xs R18 Q x3 S_5) ∧ (¬ r_3 = r_6 → Q 0 S_5))) ∧ vp_in (x3 + 1) L ∧ wp_X8_told (xs (x3 + 1 : Int32).toNatClampNeg) S (fun r_3 S_2 => wp_X9_told (xs (x3 + 1 : Int32).toNatClampNeg) S_2 (fun r_6 S_5 => P r_3 r_6 S_5))
set_option maxRecDepth 100000 in
set_option maxHeartbeats 4000000 in
theorem l_N_law_574 {g : Gv}  (R18 : Int32 → Sto → Prop) (Q : Int32 → Sto → Prop) (hR18 : ∀ (y3 : Int32) (S : Sto), R18 y3 S → RJ g cL_law RL (some .boolean) 4 10 18 [(0, .ref g.2.1.2.1), (1, .ref (g.1 + 0)), (2, .ref (g.1 + 353)), (3, .int y3)] [] S (Qi Q))  (x3 : Int32) (S : Sto)  (h : q_N_law_574 g.2.1.2.2.1 g.2.1.2.2.2 R18 Q x3 S) : RJ g cL_law RL (some .boolean) 4 10 574 [(0, .ref g.2.1.2.1), (1, .ref (g.1 + 0)), (2, .ref (g.1 + 353)), (3, .int x3)] [] S (Qi Q) := by
  unfold q_N_law_574 at h
  obtain ⟨P, hP, h⟩ := h
  refine J_aload_n dL_law_574 rfl 1 rfl  ?_
  refine J_aload_n dL_law_575 rfl 0 rfl  ?_
  refine J_iload_n dL_law_576 rfl 3 rfl  ?_
  refine J_iconst (v := 1) dL_law_577 (by decide)  ?_
  refine J_iadd dL_law_578  ?_
  obtain ⟨hi_1, h⟩ := h
  refine J_sld dL_law_579 hi_1  ?_
  refine J_callV (h := 0) (ci := 6) (As := [.int (g.2.1.2.2.2 (x3 + 1 : Int32).toNatClampNeg)]) (rest := []) (n := 1) dL_law_580 (c_X8_told (g.2.1.2.2.2 (x3 + 1 : Int32).toNatClampNeg)  _ _ h) (by decide) rfl tb_3_47 tb_3_44 tb_1_1 tb_3_45 tb_3_46 (by decide) rfl (by decide) (by decide) (Nat.le_of_ble_eq_true rfl) rfl (fun v_r_3 S_2 hq => ?_)
  obtain ⟨r_3, rfl, h⟩ := hq
  dsimp only [Option.toList, List.cons_append, List.nil_append]
  refine J_aload_n dL_law_583 rfl 2 rfl  ?_
  refine J_aload_n dL_law_584 rfl 0 rfl  ?_
  refine J_iload_n dL_law_585 rfl 3 rfl  ?_
  refine J_iconst (v := 1) dL_law_586 (by decide)  ?_
  refine J_iadd dL_law_587  ?_
  refine J_sld dL_law_588 hi_1  ?_
  refine J_callV (h := 353) (ci := 7) (As := [.int (g.2.1.2.2.2 (x3 + 1 : Int32).toNatClampNeg)]) (rest := [.int r_3]) (n := 1) dL_law_589 (c_X9_told (g.2.1.2.2.2 (x3 + 1 : Int32).toNatClampNeg)  _ _ h) (by decide) rfl tb_5_169 tb_5_166 tb_1_8 tb_5_167 tb_5_168 (by decide) rfl (by decide) (by decide) (Nat.le_of_ble_eq_true rfl) rfl (fun v_r_6 S_5 hq => ?_)
  obtain ⟨r_6, rfl, h⟩ := hq
  have h := hP _ _ _ h
  dsimp only [Option.toList, List.cons_append, List.nil_append]
  refine J_icmp_eq (tgt := 1551) dL_law_592 (by decide) (fun c_7 => ?_) (fun c_7 => ?_)
  · have h := h.1 c_7
    exact l_N_law_1551 _ _ hR18  _ _  h
  · have h := h.2 c_7
    refine J_iconst (v := 0) dL_law_595 (by decide)  ?_
    exact J_iret dL_law_596 rfl rfl ⟨_, rfl, h⟩
def q_N_law_597 (L : Nat) (xs : Nat → Int32) (R18 : Int32 → Sto → Prop) (Q : Int32 → Sto → Prop) (x3 : Int32) (S : Sto) : Prop := ∃ P : Int32 → Int32 → Sto → Prop, (∀ (r_4 r_8 : Int32) (S_7 : Sto), P r_4 r_8 S_7 → ((r_4 = r_8 → q_N_law_1551 L xs R18 Q x3 S_7) ∧ (¬ r_4 = r_8 → Q 0 S_7))) ∧ vp_in (x3 + 1) L ∧ vp_in (x3 + 2) L ∧ wp_X8_generator (xs (x3 + 1 : Int32).toNatClampNeg) (xs (x3 + 2 : Int32).toNatClampNeg) S (fun r_4 S_3 => wp_X9_generator (xs (x3 + 1 : Int32).toNatClampNeg) (xs (x3 + 2 : Int32).toNatClampNeg) S_3 (fun r_8 S_7 => P r_4 r_8 S_7))
set_option maxRecDepth 100000 in
set_option maxHeartbeats 4000000 in
theorem l_N_law_597 {g : Gv}  (R18 : Int32 → Sto → Prop) (Q : Int32 → Sto → Prop) (hR18 : ∀ (y3 : Int32) (S : Sto), R18 y3 S → RJ g cL_law RL (some .boolean) 4 10 18 [(0, .ref g.2.1.2.1), (1, .ref (g.1 + 0)), (2, .ref (g.1 + 353)), (3, .int y3)] [] S (Qi Q))  (x3 : Int32) (S : Sto)  (h : q_N_law_597 g.2.1.2.2.1 g.2.1.2.2.2 R18 Q x3 S) : RJ g cL_law RL (some .boolean) 4 10 597 [(0, .ref g.2.1.2.1), (1, .ref (g.1 + 0)), (2, .ref (g.1 + 353)), (3, .int x3)] [] S (Qi Q) := by
  unfold q_N_law_597 at h
  obtain ⟨P, hP, h⟩ := h
  refine J_aload_n dL_law_597 rfl 1 rfl  ?_
  refine J_aload_n dL_law_598 rfl 0 rfl  ?_
  refine J_iload_n dL_law_599 rfl 3 rfl  ?_
  refine J_iconst (v := 1) dL_law_600 (by decide)  ?_
  refine J_iadd dL_law_601  ?_
  obtain ⟨hi_1, h⟩ := h
  refine J_sld dL_law_602 hi_1  ?_
  refine J_aload_n dL_law_603 rfl 0 rfl  ?_
  refine J_iload_n dL_law_604 rfl 3 rfl  ?_
  refine J_iconst (v := 2) dL_law_605 (by decide)  ?_
  refine J_iadd dL_law_606  ?_
  obtain ⟨hi_2, h⟩ := h
  refine J_sld dL_law_607 hi_2  ?_
  refine J_callV (h := 0) (ci := 6) (As := [.int (g.2.1.2.2.2 (x3 + 1 : Int32).toNatClampNeg), .int (g.2.1.2.2.2 (x3 + 2 : Int32).toNatClampNeg)]) (rest := []) (n := 2) dL_law_608 (c_X8_generator (g.2.1.2.2.2 (x3 + 1 : Int32).toNatClampNeg) (g.2.1.2.2.2 (x3 + 2 : Int32).toNatClampNeg)  _ _ h) (by decide) rfl tb_3_51 tb_3_48 tb_1_1 tb_3_49 tb_3_50 (by decide) rfl (by decide) (by decide) (Nat.le_of_ble_eq_true rfl) rfl (fun v_r_4 S_3 hq => ?_)
  obtain ⟨r_4, rfl, h⟩ := hq
  dsimp only [Option.toList, List.cons_append, List.nil_append]
  refine J_aload_n dL_law_611 rfl 2 rfl  ?_
  refine J_aload_n dL_law_612 rfl 0 rfl  ?_
  refine J_iload_n dL_law_613 rfl 3 rfl  ?_
  refine J_iconst (v := 1) dL_law_614 (by decide)  ?_
  refine J_iadd dL_law_615  ?_
  refine J_sld dL_law_616 hi_1  ?_
  refine J_aload_n dL_law_617 rfl 0 rfl  ?_
  refine J_iload_n dL_law_618 rfl 3 rfl  ?_
  refine J_iconst (v := 2) dL_law_619 (by decide)  ?_
  refine J_iadd dL_law_620  ?_
  refine J_sld dL_law_621 hi_2  ?_
  refine J_callV (h := 353) (ci := 7) (As := [.int (g.2.1.2.2.2 (x3 + 1 : Int32).toNatClampNeg), .int (g.2.1.2.2.2 (x3 + 2 : Int32).toNatClampNeg)]) (rest := [.int r_4]) (n := 2) dL_law_622 (c_X9_generator (g.2.1.2.2.2 (x3 + 1 : Int32).toNatClampNeg) (g.2.1.2.2.2 (x3 + 2 : Int32).toNatClampNeg)  _ _ h) (by decide) rfl tb_5_173 tb_5_170 tb_1_8 tb_5_171 tb_5_172 (by decide) rfl (by decide) (by decide) (Nat.le_of_ble_eq_true rfl) rfl (fun v_r_8 S_7 hq => ?_)
  obtain ⟨r_8, rfl, h⟩ := hq
  have h := hP _ _ _ h
  dsimp only [Option.toList, List.cons_append, List.nil_append]
  refine J_icmp_eq (tgt := 1551) dL_law_625 (by decide) (fun c_9 => ?_) (fun c_9 => ?_)
  · have h := h.1 c_9
    exact l_N_law_1551 _ _ hR18  _ _  h
  · have h := h.2 c_9
    refine J_iconst (v := 0) dL_law_628 (by decide)  ?_
    exact J_iret dL_law_629 rfl rfl ⟨_, rfl, h⟩
def q_N_law_630 (L : Nat) (xs : Nat → Int32) (R18 : Int32 → Sto → Prop) (Q : Int32 → Sto → Prop) (x3 : Int32) (S : Sto) : Prop := ∃ P : Int32 → Int32 → Sto → Prop, (∀ (r_4 r_8 : Int32) (S_7 : Sto), P r_4 r_8 S_7 → ((r_4 = r_8 → q_N_law_1551 L xs R18 Q x3 S_7) ∧ (¬ r_4 = r_8 → Q 0 S_7))) ∧ vp_in (x3 + 1) L ∧ vp_in (x3 + 2) L ∧ wp_X8_places (xs (x3 + 1 : Int32).toNatClampNeg) (xs (x3 + 2 : Int32).toNatClampNeg) S (fun r_4 S_3 => wp_X9_places (xs (x3 + 1 : Int32).toNatClampNeg) (xs (x3 + 2 : Int32).toNatClampNeg) S_3 (fun r_8 S_7 => P r_4 r_8 S_7))
set_option maxRecDepth 100000 in
set_option maxHeartbeats 4000000 in
theorem l_N_law_630 {g : Gv}  (R18 : Int32 → Sto → Prop) (Q : Int32 → Sto → Prop) (hR18 : ∀ (y3 : Int32) (S : Sto), R18 y3 S → RJ g cL_law RL (some .boolean) 4 10 18 [(0, .ref g.2.1.2.1), (1, .ref (g.1 + 0)), (2, .ref (g.1 + 353)), (3, .int y3)] [] S (Qi Q))  (x3 : Int32) (S : Sto)  (h : q_N_law_630 g.2.1.2.2.1 g.2.1.2.2.2 R18 Q x3 S) : RJ g cL_law RL (some .boolean) 4 10 630 [(0, .ref g.2.1.2.1), (1, .ref (g.1 + 0)), (2, .ref (g.1 + 353)), (3, .int x3)] [] S (Qi Q) := by
  unfold q_N_law_630 at h
  obtain ⟨P, hP, h⟩ := h
  refine J_aload_n dL_law_630 rfl 1 rfl  ?_
  refine J_aload_n dL_law_631 rfl 0 rfl  ?_
  refine J_iload_n dL_law_632 rfl 3 rfl  ?_
  refine J_iconst (v := 1) dL_law_633 (by decide)  ?_
  refine J_iadd dL_law_634  ?_
  obtain ⟨hi_1, h⟩ := h
  refine J_sld dL_law_635 hi_1  ?_
  refine J_aload_n dL_law_636 rfl 0 rfl  ?_
  refine J_iload_n dL_law_637 rfl 3 rfl  ?_
  refine J_iconst (v := 2) dL_law_638 (by decide)  ?_
  refine J_iadd dL_law_639  ?_
  obtain ⟨hi_2, h⟩ := h
  refine J_sld dL_law_640 hi_2  ?_
  refine J_callV (h := 0) (ci := 6) (As := [.int (g.2.1.2.2.2 (x3 + 1 : Int32).toNatClampNeg), .int (g.2.1.2.2.2 (x3 + 2 : Int32).toNatClampNeg)]) (rest := []) (n := 2) dL_law_641 (c_X8_places (g.2.1.2.2.2 (x3 + 1 : Int32).toNatClampNeg) (g.2.1.2.2.2 (x3 + 2 : Int32).toNatClampNeg)  _ _ h) (by decide) rfl tb_3_59 tb_3_56 tb_1_1 tb_3_57 tb_3_58 (by decide) rfl (by decide) (by decide) (Nat.le_of_ble_eq_true rfl) rfl (fun v_r_4 S_3 hq => ?_)
  obtain ⟨r_4, rfl, h⟩ := hq
  dsimp only [Option.toList, List.cons_append, List.nil_append]
  refine J_aload_n dL_law_644 rfl 2 rfl  ?_
  refine J_aload_n dL_law_645 rfl 0 rfl  ?_
  refine J_iload_n dL_law_646 rfl 3 rfl  ?_
  refine J_iconst (v := 1) dL_law_647 (by decide)  ?_
  refine J_iadd dL_law_648  ?_
  refine J_sld dL_law_649 hi_1  ?_
  refine J_aload_n dL_law_650 rfl 0 rfl  ?_
  refine J_iload_n dL_law_651 rfl 3 rfl  ?_
  refine J_iconst (v := 2) dL_law_652 (by decide)  ?_
  refine J_iadd dL_law_653  ?_
  refine J_sld dL_law_654 hi_2  ?_
  refine J_callV (h := 353) (ci := 7) (As := [.int (g.2.1.2.2.2 (x3 + 1 : Int32).toNatClampNeg), .int (g.2.1.2.2.2 (x3 + 2 : Int32).toNatClampNeg)]) (rest := [.int r_4]) (n := 2) dL_law_655 (c_X9_places (g.2.1.2.2.2 (x3 + 1 : Int32).toNatClampNeg) (g.2.1.2.2.2 (x3 + 2 : Int32).toNatClampNeg)  _ _ h) (by decide) rfl tb_5_177 tb_5_174 tb_1_8 tb_5_175 tb_5_176 (by decide) rfl (by decide) (by decide) (Nat.le_of_ble_eq_true rfl) rfl (fun v_r_8 S_7 hq => ?_)
  obtain ⟨r_8, rfl, h⟩ := hq
  have h := hP _ _ _ h
  dsimp only [Option.toList, List.cons_append, List.nil_append]
  refine J_icmp_eq (tgt := 1551) dL_law_658 (by decide) (fun c_9 => ?_) (fun c_9 => ?_)
  · have h := h.1 c_9
    exact l_N_law_1551 _ _ hR18  _ _  h
  · have h := h.2 c_9
    refine J_iconst (v := 0) dL_law_661 (by decide)  ?_
    exact J_iret dL_law_662 rfl rfl ⟨_, rfl, h⟩
def q_N_law_663 (L : Nat) (xs : Nat → Int32) (R18 : Int32 → Sto → Prop) (Q : Int32 → Sto → Prop) (x3 : Int32) (S : Sto) : Prop := ∃ P : Int32 → Int32 → Sto → Prop, (∀ (r_3 r_6 : Int32) (S_5 : Sto), P r_3 r_6 S_5 → ((r_3 = r_6 → q_N_law_1551 L xs R18 Q x3 S_5) ∧ (¬ r_3 = r_6 → Q 0 S_5))) ∧ vp_in (x3 + 1) L ∧ wp_X8_lead (xs (x3 + 1 : Int32).toNatClampNeg) S (fun r_3 S_2 => wp_X9_lead (xs (x3 + 1 : Int32).toNatClampNeg) S_2 (fun r_6 S_5 => P r_3 r_6 S_5))
set_option maxRecDepth 100000 in
set_option maxHeartbeats 4000000 in
theorem l_N_law_663 {g : Gv}  (R18 : Int32 → Sto → Prop) (Q : Int32 → Sto → Prop) (hR18 : ∀ (y3 : Int32) (S : Sto), R18 y3 S → RJ g cL_law RL (some .boolean) 4 10 18 [(0, .ref g.2.1.2.1), (1, .ref (g.1 + 0)), (2, .ref (g.1 + 353)), (3, .int y3)] [] S (Qi Q))  (x3 : Int32) (S : Sto)  (h : q_N_law_663 g.2.1.2.2.1 g.2.1.2.2.2 R18 Q x3 S) : RJ g cL_law RL (some .boolean) 4 10 663 [(0, .ref g.2.1.2.1), (1, .ref (g.1 + 0)), (2, .ref (g.1 + 353)), (3, .int x3)] [] S (Qi Q) := by
  unfold q_N_law_663 at h
  obtain ⟨P, hP, h⟩ := h
  refine J_aload_n dL_law_663 rfl 1 rfl  ?_
  refine J_aload_n dL_law_664 rfl 0 rfl  ?_
  refine J_iload_n dL_law_665 rfl 3 rfl  ?_
  refine J_iconst (v := 1) dL_law_666 (by decide)  ?_
  refine J_iadd dL_law_667  ?_
  obtain ⟨hi_1, h⟩ := h
  refine J_sld dL_law_668 hi_1  ?_
  refine J_callV (h := 0) (ci := 6) (As := [.int (g.2.1.2.2.2 (x3 + 1 : Int32).toNatClampNeg)]) (rest := []) (n := 1) dL_law_669 (c_X8_lead (g.2.1.2.2.2 (x3 + 1 : Int32).toNatClampNeg)  _ _ h) (by decide) rfl tb_3_64 tb_3_61 tb_1_1 tb_3_62 tb_3_63 (by decide) rfl (by decide) (by decide) (Nat.le_of_ble_eq_true rfl) rfl (fun v_r_3 S_2 hq => ?_)
  obtain ⟨r_3, rfl, h⟩ := hq
  dsimp only [Option.toList, List.cons_append, List.nil_append]
  refine J_aload_n dL_law_672 rfl 2 rfl  ?_
  refine J_aload_n dL_law_673 rfl 0 rfl  ?_
  refine J_iload_n dL_law_674 rfl 3 rfl  ?_
  refine J_iconst (v := 1) dL_law_675 (by decide)  ?_
  refine J_iadd dL_law_676  ?_
  refine J_sld dL_law_677 hi_1  ?_
  refine J_callV (h := 353) (ci := 7) (As := [.int (g.2.1.2.2.2 (x3 + 1 : Int32).toNatClampNeg)]) (rest := [.int r_3]) (n := 1) dL_law_678 (c_X9_lead (g.2.1.2.2.2 (x3 + 1 : Int32).toNatClampNeg)  _ _ h) (by decide) rfl tb_5_181 tb_5_178 tb_1_8 tb_5_179 tb_5_180 (by decide) rfl (by decide) (by decide) (Nat.le_of_ble_eq_true rfl) rfl (fun v_r_6 S_5 hq => ?_)
  obtain ⟨r_6, rfl, h⟩ := hq
  have h := hP _ _ _ h
  dsimp only [Option.toList, List.cons_append, List.nil_append]
  refine J_icmp_eq (tgt := 1551) dL_law_681 (by decide) (fun c_7 => ?_) (fun c_7 => ?_)
  · have h := h.1 c_7
    exact l_N_law_1551 _ _ hR18  _ _  h
  · have h := h.2 c_7
    refine J_iconst (v := 0) dL_law_684 (by decide)  ?_
    exact J_iret dL_law_685 rfl rfl ⟨_, rfl, h⟩
def q_N_law_686 (L : Nat) (xs : Nat → Int32) (R18 : Int32 → Sto → Prop) (Q : Int32 → Sto → Prop) (x3 : Int32) (S : Sto) : Prop := ∃ P : Int32 → Int32 → Sto → Prop, (∀ (r_3 r_6 : Int32) (S_5 : Sto), P r_3 r_6 S_5 → ((r_3 = r_6 → q_N_law_1551 L xs R18 Q x3 S_5) ∧ (¬ r_3 = r_6 → Q 0 S_5))) ∧ vp_in (x3 + 1) L ∧ wp_X8_rank (xs (x3 + 1 : Int32).toNatClampNeg) S (fun r_3 S_2 => wp_X9_rank (xs (x3 + 1 : Int32).toNatClampNeg) S_2 (fun r_6 S_5 => P r_3 r_6 S_5))
set_option maxRecDepth 100000 in
set_option maxHeartbeats 4000000 in
theorem l_N_law_686 {g : Gv}  (R18 : Int32 → Sto → Prop) (Q : Int32 → Sto → Prop) (hR18 : ∀ (y3 : Int32) (S : Sto), R18 y3 S → RJ g cL_law RL (some .boolean) 4 10 18 [(0, .ref g.2.1.2.1), (1, .ref (g.1 + 0)), (2, .ref (g.1 + 353)), (3, .int y3)] [] S (Qi Q))  (x3 : Int32) (S : Sto)  (h : q_N_law_686 g.2.1.2.2.1 g.2.1.2.2.2 R18 Q x3 S) : RJ g cL_law RL (some .boolean) 4 10 686 [(0, .ref g.2.1.2.1), (1, .ref (g.1 + 0)), (2, .ref (g.1 + 353)), (3, .int x3)] [] S (Qi Q) := by
  unfold q_N_law_686 at h
  obtain ⟨P, hP, h⟩ := h
  refine J_aload_n dL_law_686 rfl 1 rfl  ?_
  refine J_aload_n dL_law_687 rfl 0 rfl  ?_
  refine J_iload_n dL_law_688 rfl 3 rfl  ?_
  refine J_iconst (v := 1) dL_law_689 (by decide)  ?_
  refine J_iadd dL_law_690  ?_
  obtain ⟨hi_1, h⟩ := h
  refine J_sld dL_law_691 hi_1  ?_
  refine J_callV (h := 0) (ci := 6) (As := [.int (g.2.1.2.2.2 (x3 + 1 : Int32).toNatClampNeg)]) (rest := []) (n := 1) dL_law_692 (c_X8_rank (g.2.1.2.2.2 (x3 + 1 : Int32).toNatClampNeg)  _ _ h) (by decide) rfl tb_3_69 tb_3_66 tb_1_1 tb_3_67 tb_3_68 (by decide) rfl (by decide) (by decide) (Nat.le_of_ble_eq_true rfl) rfl (fun v_r_3 S_2 hq => ?_)
  obtain ⟨r_3, rfl, h⟩ := hq
  dsimp only [Option.toList, List.cons_append, List.nil_append]
  refine J_aload_n dL_law_695 rfl 2 rfl  ?_
  refine J_aload_n dL_law_696 rfl 0 rfl  ?_
  refine J_iload_n dL_law_697 rfl 3 rfl  ?_
  refine J_iconst (v := 1) dL_law_698 (by decide)  ?_
  refine J_iadd dL_law_699  ?_
  refine J_sld dL_law_700 hi_1  ?_
  refine J_callV (h := 353) (ci := 7) (As := [.int (g.2.1.2.2.2 (x3 + 1 : Int32).toNatClampNeg)]) (rest := [.int r_3]) (n := 1) dL_law_701 (c_X9_rank (g.2.1.2.2.2 (x3 + 1 : Int32).toNatClampNeg)  _ _ h) (by decide) rfl tb_5_185 tb_5_182 tb_1_8 tb_5_183 tb_5_184 (by decide) rfl (by decide) (by decide) (Nat.le_of_ble_eq_true rfl) rfl (fun v_r_6 S_5 hq => ?_)
  obtain ⟨r_6, rfl, h⟩ := hq
  have h := hP _ _ _ h
  dsimp only [Option.toList, List.cons_append, List.nil_append]
  refine J_icmp_eq (tgt := 1551) dL_law_704 (by decide) (fun c_7 => ?_) (fun c_7 => ?_)
  · have h := h.1 c_7
    exact l_N_law_1551 _ _ hR18  _ _  h
  · have h := h.2 c_7
    refine J_iconst (v := 0) dL_law_707 (by decide)  ?_
    exact J_iret dL_law_708 rfl rfl ⟨_, rfl, h⟩
def q_N_law_709 (L : Nat) (xs : Nat → Int32) (R18 : Int32 → Sto → Prop) (Q : Int32 → Sto → Prop) (x3 : Int32) (S : Sto) : Prop := ∃ P : Int32 → Int32 → Sto → Prop, (∀ (r_5 r_10 : Int32) (S_9 : Sto), P r_5 r_10 S_9 → ((r_5 = r_10 → q_N_law_1551 L xs R18 Q x3 S_9) ∧ (¬ r_5 = r_10 → Q 0 S_9))) ∧ vp_in (x3 + 1) L ∧ vp_in (x3 + 2) L ∧ vp_in (x3 + 3) L ∧ wp_X8_basis (xs (x3 + 1 : Int32).toNatClampNeg) (xs (x3 + 2 : Int32).toNatClampNeg) (xs (x3 + 3 : Int32).toNatClampNeg) S (fun r_5 S_4 => wp_X9_basis (xs (x3 + 1 : Int32).toNatClampNeg) (xs (x3 + 2 : Int32).toNatClampNeg) (xs (x3 + 3 : Int32).toNatClampNeg) S_4 (fun r_10 S_9 => P r_5 r_10 S_9))
set_option maxRecDepth 100000 in
set_option maxHeartbeats 4000000 in
theorem l_N_law_709 {g : Gv}  (R18 : Int32 → Sto → Prop) (Q : Int32 → Sto → Prop) (hR18 : ∀ (y3 : Int32) (S : Sto), R18 y3 S → RJ g cL_law RL (some .boolean) 4 10 18 [(0, .ref g.2.1.2.1), (1, .ref (g.1 + 0)), (2, .ref (g.1 + 353)), (3, .int y3)] [] S (Qi Q))  (x3 : Int32) (S : Sto)  (h : q_N_law_709 g.2.1.2.2.1 g.2.1.2.2.2 R18 Q x3 S) : RJ g cL_law RL (some .boolean) 4 10 709 [(0, .ref g.2.1.2.1), (1, .ref (g.1 + 0)), (2, .ref (g.1 + 353)), (3, .int x3)] [] S (Qi Q) := by
  unfold q_N_law_709 at h
  obtain ⟨P, hP, h⟩ := h
  refine J_aload_n dL_law_709 rfl 1 rfl  ?_
  refine J_aload_n dL_law_710 rfl 0 rfl  ?_
  refine J_iload_n dL_law_711 rfl 3 rfl  ?_
  refine J_iconst (v := 1) dL_law_712 (by decide)  ?_
  refine J_iadd dL_law_713  ?_
  obtain ⟨hi_1, h⟩ := h
  refine J_sld dL_law_714 hi_1  ?_
  refine J_aload_n dL_law_715 rfl 0 rfl  ?_
  refine J_iload_n dL_law_716 rfl 3 rfl  ?_
  refine J_iconst (v := 2) dL_law_717 (by decide)  ?_
  refine J_iadd dL_law_718  ?_
  obtain ⟨hi_2, h⟩ := h
  refine J_sld dL_law_719 hi_2  ?_
  refine J_aload_n dL_law_720 rfl 0 rfl  ?_
  refine J_iload_n dL_law_721 rfl 3 rfl  ?_
  refine J_iconst (v := 3) dL_law_722 (by decide)  ?_
  refine J_iadd dL_law_723  ?_
  obtain ⟨hi_3, h⟩ := h
  refine J_sld dL_law_724 hi_3  ?_
  refine J_callV (h := 0) (ci := 6) (As := [.int (g.2.1.2.2.2 (x3 + 1 : Int32).toNatClampNeg), .int (g.2.1.2.2.2 (x3 + 2 : Int32).toNatClampNeg), .int (g.2.1.2.2.2 (x3 + 3 : Int32).toNatClampNeg)]) (rest := []) (n := 3) dL_law_725 (c_X8_basis (g.2.1.2.2.2 (x3 + 1 : Int32).toNatClampNeg) (g.2.1.2.2.2 (x3 + 2 : Int32).toNatClampNeg) (g.2.1.2.2.2 (x3 + 3 : Int32).toNatClampNeg)  _ _ h) (by decide) rfl tb_3_76 tb_3_73 tb_1_1 tb_3_74 tb_3_75 (by decide) rfl (by decide) (by decide) (Nat.le_of_ble_eq_true rfl) rfl (fun v_r_5 S_4 hq => ?_)
  obtain ⟨r_5, rfl, h⟩ := hq
  dsimp only [Option.toList, List.cons_append, List.nil_append]
  refine J_aload_n dL_law_728 rfl 2 rfl  ?_
  refine J_aload_n dL_law_729 rfl 0 rfl  ?_
  refine J_iload_n dL_law_730 rfl 3 rfl  ?_
  refine J_iconst (v := 1) dL_law_731 (by decide)  ?_
  refine J_iadd dL_law_732  ?_
  refine J_sld dL_law_733 hi_1  ?_
  refine J_aload_n dL_law_734 rfl 0 rfl  ?_
  refine J_iload_n dL_law_735 rfl 3 rfl  ?_
  refine J_iconst (v := 2) dL_law_736 (by decide)  ?_
  refine J_iadd dL_law_737  ?_
  refine J_sld dL_law_738 hi_2  ?_
  refine J_aload_n dL_law_739 rfl 0 rfl  ?_
  refine J_iload_n dL_law_740 rfl 3 rfl  ?_
  refine J_iconst (v := 3) dL_law_741 (by decide)  ?_
  refine J_iadd dL_law_742  ?_
  refine J_sld dL_law_743 hi_3  ?_
  refine J_callV (h := 353) (ci := 7) (As := [.int (g.2.1.2.2.2 (x3 + 1 : Int32).toNatClampNeg), .int (g.2.1.2.2.2 (x3 + 2 : Int32).toNatClampNeg), .int (g.2.1.2.2.2 (x3 + 3 : Int32).toNatClampNeg)]) (rest := [.int r_5]) (n := 3) dL_law_744 (c_X9_basis (g.2.1.2.2.2 (x3 + 1 : Int32).toNatClampNeg) (g.2.1.2.2.2 (x3 + 2 : Int32).toNatClampNeg) (g.2.1.2.2.2 (x3 + 3 : Int32).toNatClampNeg)  _ _ h) (by decide) rfl tb_5_192 tb_5_189 tb_1_8 tb_5_190 tb_5_191 (by decide) rfl (by decide) (by decide) (Nat.le_of_ble_eq_true rfl) rfl (fun v_r_10 S_9 hq => ?_)
  obtain ⟨r_10, rfl, h⟩ := hq
  have h := hP _ _ _ h
  dsimp only [Option.toList, List.cons_append, List.nil_append]
  refine J_icmp_eq (tgt := 1551) dL_law_747 (by decide) (fun c_11 => ?_) (fun c_11 => ?_)
  · have h := h.1 c_11
    exact l_N_law_1551 _ _ hR18  _ _  h
  · have h := h.2 c_11
    refine J_iconst (v := 0) dL_law_750 (by decide)  ?_
    exact J_iret dL_law_751 rfl rfl ⟨_, rfl, h⟩
def q_N_law_752 (L : Nat) (xs : Nat → Int32) (R18 : Int32 → Sto → Prop) (Q : Int32 → Sto → Prop) (x3 : Int32) (S : Sto) : Prop := ∃ P : Int32 → Int32 → Sto → Prop, (∀ (r_4 r_8 : Int32) (S_7 : Sto), P r_4 r_8 S_7 → ((r_4 = r_8 → q_N_law_1551 L xs R18 Q x3 S_7) ∧ (¬ r_4 = r_8 → Q 0 S_7))) ∧ vp_in (x3 + 1) L ∧ vp_in (x3 + 2) L ∧ wp_X8_within (xs (x3 + 1 : Int32).toNatClampNeg) (xs (x3 + 2 : Int32).toNatClampNeg) S (fun r_4 S_3 => wp_X9_within (xs (x3 + 1 : Int32).toNatClampNeg) (xs (x3 + 2 : Int32).toNatClampNeg) S_3 (fun r_8 S_7 => P r_4 r_8 S_7))
set_option maxRecDepth 100000 in
set_option maxHeartbeats 4000000 in
theorem l_N_law_752 {g : Gv}  (R18 : Int32 → Sto → Prop) (Q : Int32 → Sto → Prop) (hR18 : ∀ (y3 : Int32) (S : Sto), R18 y3 S → RJ g cL_law RL (some .boolean) 4 10 18 [(0, .ref g.2.1.2.1), (1, .ref (g.1 + 0)), (2, .ref (g.1 + 353)), (3, .int y3)] [] S (Qi Q))  (x3 : Int32) (S : Sto)  (h : q_N_law_752 g.2.1.2.2.1 g.2.1.2.2.2 R18 Q x3 S) : RJ g cL_law RL (some .boolean) 4 10 752 [(0, .ref g.2.1.2.1), (1, .ref (g.1 + 0)), (2, .ref (g.1 + 353)), (3, .int x3)] [] S (Qi Q) := by
  unfold q_N_law_752 at h
  obtain ⟨P, hP, h⟩ := h
  refine J_aload_n dL_law_752 rfl 1 rfl  ?_
  refine J_aload_n dL_law_753 rfl 0 rfl  ?_
  refine J_iload_n dL_law_754 rfl 3 rfl  ?_
  refine J_iconst (v := 1) dL_law_755 (by decide)  ?_
  refine J_iadd dL_law_756  ?_
  obtain ⟨hi_1, h⟩ := h
  refine J_sld dL_law_757 hi_1  ?_
  refine J_aload_n dL_law_758 rfl 0 rfl  ?_
  refine J_iload_n dL_law_759 rfl 3 rfl  ?_
  refine J_iconst (v := 2) dL_law_760 (by decide)  ?_
  refine J_iadd dL_law_761  ?_
  obtain ⟨hi_2, h⟩ := h
  refine J_sld dL_law_762 hi_2  ?_
  refine J_callV (h := 0) (ci := 6) (As := [.int (g.2.1.2.2.2 (x3 + 1 : Int32).toNatClampNeg), .int (g.2.1.2.2.2 (x3 + 2 : Int32).toNatClampNeg)]) (rest := []) (n := 2) dL_law_763 (c_X8_within (g.2.1.2.2.2 (x3 + 1 : Int32).toNatClampNeg) (g.2.1.2.2.2 (x3 + 2 : Int32).toNatClampNeg)  _ _ h) (by decide) rfl tb_3_89 tb_3_86 tb_1_1 tb_3_87 tb_3_88 (by decide) rfl (by decide) (by decide) (Nat.le_of_ble_eq_true rfl) rfl (fun v_r_4 S_3 hq => ?_)
  obtain ⟨r_4, rfl, h⟩ := hq
  dsimp only [Option.toList, List.cons_append, List.nil_append]
  refine J_aload_n dL_law_766 rfl 2 rfl  ?_
  refine J_aload_n dL_law_767 rfl 0 rfl  ?_
  refine J_iload_n dL_law_768 rfl 3 rfl  ?_
  refine J_iconst (v := 1) dL_law_769 (by decide)  ?_
  refine J_iadd dL_law_770  ?_
  refine J_sld dL_law_771 hi_1  ?_
  refine J_aload_n dL_law_772 rfl 0 rfl  ?_
  refine J_iload_n dL_law_773 rfl 3 rfl  ?_
  refine J_iconst (v := 2) dL_law_774 (by decide)  ?_
  refine J_iadd dL_law_775  ?_
  refine J_sld dL_law_776 hi_2  ?_
  refine J_callV (h := 353) (ci := 7) (As := [.int (g.2.1.2.2.2 (x3 + 1 : Int32).toNatClampNeg), .int (g.2.1.2.2.2 (x3 + 2 : Int32).toNatClampNeg)]) (rest := [.int r_4]) (n := 2) dL_law_777 (c_X9_within (g.2.1.2.2.2 (x3 + 1 : Int32).toNatClampNeg) (g.2.1.2.2.2 (x3 + 2 : Int32).toNatClampNeg)  _ _ h) (by decide) rfl tb_5_200 tb_5_197 tb_1_8 tb_5_198 tb_5_199 (by decide) rfl (by decide) (by decide) (Nat.le_of_ble_eq_true rfl) rfl (fun v_r_8 S_7 hq => ?_)
  obtain ⟨r_8, rfl, h⟩ := hq
  have h := hP _ _ _ h
  dsimp only [Option.toList, List.cons_append, List.nil_append]
  refine J_icmp_eq (tgt := 1551) dL_law_780 (by decide) (fun c_9 => ?_) (fun c_9 => ?_)
  · have h := h.1 c_9
    exact l_N_law_1551 _ _ hR18  _ _  h
  · have h := h.2 c_9
    refine J_iconst (v := 0) dL_law_783 (by decide)  ?_
    exact J_iret dL_law_784 rfl rfl ⟨_, rfl, h⟩
def q_N_law_785 (L : Nat) (xs : Nat → Int32) (R18 : Int32 → Sto → Prop) (Q : Int32 → Sto → Prop) (x3 : Int32) (S : Sto) : Prop := ∃ P : Int32 → Int32 → Sto → Prop, (∀ (r_5 r_10 : Int32) (S_9 : Sto), P r_5 r_10 S_9 → ((r_5 = r_10 → q_N_law_1551 L xs R18 Q x3 S_9) ∧ (¬ r_5 = r_10 → Q 0 S_9))) ∧ vp_in (x3 + 1) L ∧ vp_in (x3 + 2) L ∧ vp_in (x3 + 3) L ∧ wp_X8_rest (xs (x3 + 1 : Int32).toNatClampNeg) (xs (x3 + 2 : Int32).toNatClampNeg) (xs (x3 + 3 : Int32).toNatClampNeg) S (fun r_5 S_4 => wp_X9_rest (xs (x3 + 1 : Int32).toNatClampNeg) (xs (x3 + 2 : Int32).toNatClampNeg) (xs (x3 + 3 : Int32).toNatClampNeg) S_4 (fun r_10 S_9 => P r_5 r_10 S_9))
set_option maxRecDepth 100000 in
set_option maxHeartbeats 4000000 in
theorem l_N_law_785 {g : Gv}  (R18 : Int32 → Sto → Prop) (Q : Int32 → Sto → Prop) (hR18 : ∀ (y3 : Int32) (S : Sto), R18 y3 S → RJ g cL_law RL (some .boolean) 4 10 18 [(0, .ref g.2.1.2.1), (1, .ref (g.1 + 0)), (2, .ref (g.1 + 353)), (3, .int y3)] [] S (Qi Q))  (x3 : Int32) (S : Sto)  (h : q_N_law_785 g.2.1.2.2.1 g.2.1.2.2.2 R18 Q x3 S) : RJ g cL_law RL (some .boolean) 4 10 785 [(0, .ref g.2.1.2.1), (1, .ref (g.1 + 0)), (2, .ref (g.1 + 353)), (3, .int x3)] [] S (Qi Q) := by
  unfold q_N_law_785 at h
  obtain ⟨P, hP, h⟩ := h
  refine J_aload_n dL_law_785 rfl 1 rfl  ?_
  refine J_aload_n dL_law_786 rfl 0 rfl  ?_
  refine J_iload_n dL_law_787 rfl 3 rfl  ?_
  refine J_iconst (v := 1) dL_law_788 (by decide)  ?_
  refine J_iadd dL_law_789  ?_
  obtain ⟨hi_1, h⟩ := h
  refine J_sld dL_law_790 hi_1  ?_
  refine J_aload_n dL_law_791 rfl 0 rfl  ?_
  refine J_iload_n dL_law_792 rfl 3 rfl  ?_
  refine J_iconst (v := 2) dL_law_793 (by decide)  ?_
  refine J_iadd dL_law_794  ?_
  obtain ⟨hi_2, h⟩ := h
  refine J_sld dL_law_795 hi_2  ?_
  refine J_aload_n dL_law_796 rfl 0 rfl  ?_
  refine J_iload_n dL_law_797 rfl 3 rfl  ?_
  refine J_iconst (v := 3) dL_law_798 (by decide)  ?_
  refine J_iadd dL_law_799  ?_
  obtain ⟨hi_3, h⟩ := h
  refine J_sld dL_law_800 hi_3  ?_
  refine J_callV (h := 0) (ci := 6) (As := [.int (g.2.1.2.2.2 (x3 + 1 : Int32).toNatClampNeg), .int (g.2.1.2.2.2 (x3 + 2 : Int32).toNatClampNeg), .int (g.2.1.2.2.2 (x3 + 3 : Int32).toNatClampNeg)]) (rest := []) (n := 3) dL_law_801 (c_X8_rest (g.2.1.2.2.2 (x3 + 1 : Int32).toNatClampNeg) (g.2.1.2.2.2 (x3 + 2 : Int32).toNatClampNeg) (g.2.1.2.2.2 (x3 + 3 : Int32).toNatClampNeg)  _ _ h) (by decide) rfl tb_3_94 tb_3_91 tb_1_1 tb_3_92 tb_3_93 (by decide) rfl (by decide) (by decide) (Nat.le_of_ble_eq_true rfl) rfl (fun v_r_5 S_4 hq => ?_)
  obtain ⟨r_5, rfl, h⟩ := hq
  dsimp only [Option.toList, List.cons_append, List.nil_append]
  refine J_aload_n dL_law_804 rfl 2 rfl  ?_
  refine J_aload_n dL_law_805 rfl 0 rfl  ?_
  refine J_iload_n dL_law_806 rfl 3 rfl  ?_
  refine J_iconst (v := 1) dL_law_807 (by decide)  ?_
  refine J_iadd dL_law_808  ?_
  refine J_sld dL_law_809 hi_1  ?_
  refine J_aload_n dL_law_810 rfl 0 rfl  ?_
  refine J_iload_n dL_law_811 rfl 3 rfl  ?_
  refine J_iconst (v := 2) dL_law_812 (by decide)  ?_
  refine J_iadd dL_law_813  ?_
  refine J_sld dL_law_814 hi_2  ?_
  refine J_aload_n dL_law_815 rfl 0 rfl  ?_
  refine J_iload_n dL_law_816 rfl 3 rfl  ?_
  refine J_iconst (v := 3) dL_law_817 (by decide)  ?_
  refine J_iadd dL_law_818  ?_
  refine J_sld dL_law_819 hi_3  ?_
  refine J_callV (h := 353) (ci := 7) (As := [.int (g.2.1.2.2.2 (x3 + 1 : Int32).toNatClampNeg), .int (g.2.1.2.2.2 (x3 + 2 : Int32).toNatClampNeg), .int (g.2.1.2.2.2 (x3 + 3 : Int32).toNatClampNeg)]) (rest := [.int r_5]) (n := 3) dL_law_820 (c_X9_rest (g.2.1.2.2.2 (x3 + 1 : Int32).toNatClampNeg) (g.2.1.2.2.2 (x3 + 2 : Int32).toNatClampNeg) (g.2.1.2.2.2 (x3 + 3 : Int32).toNatClampNeg)  _ _ h) (by decide) rfl tb_5_208 tb_5_205 tb_1_8 tb_5_206 tb_5_207 (by decide) rfl (by decide) (by decide) (Nat.le_of_ble_eq_true rfl) rfl (fun v_r_10 S_9 hq => ?_)
  obtain ⟨r_10, rfl, h⟩ := hq
  have h := hP _ _ _ h
  dsimp only [Option.toList, List.cons_append, List.nil_append]
  refine J_icmp_eq (tgt := 1551) dL_law_823 (by decide) (fun c_11 => ?_) (fun c_11 => ?_)
  · have h := h.1 c_11
    exact l_N_law_1551 _ _ hR18  _ _  h
  · have h := h.2 c_11
    refine J_iconst (v := 0) dL_law_826 (by decide)  ?_
    exact J_iret dL_law_827 rfl rfl ⟨_, rfl, h⟩
def q_N_law_828 (L : Nat) (xs : Nat → Int32) (R18 : Int32 → Sto → Prop) (Q : Int32 → Sto → Prop) (x3 : Int32) (S : Sto) : Prop := ∃ P : Int32 → Int32 → Sto → Prop, (∀ (r_4 r_8 : Int32) (S_7 : Sto), P r_4 r_8 S_7 → ((r_4 = r_8 → q_N_law_1551 L xs R18 Q x3 S_7) ∧ (¬ r_4 = r_8 → Q 0 S_7))) ∧ vp_in (x3 + 1) L ∧ vp_in (x3 + 2) L ∧ wp_X8_count (xs (x3 + 1 : Int32).toNatClampNeg) (xs (x3 + 2 : Int32).toNatClampNeg) S (fun r_4 S_3 => wp_X9_count (xs (x3 + 1 : Int32).toNatClampNeg) (xs (x3 + 2 : Int32).toNatClampNeg) S_3 (fun r_8 S_7 => P r_4 r_8 S_7))
set_option maxRecDepth 100000 in
set_option maxHeartbeats 4000000 in
theorem l_N_law_828 {g : Gv}  (R18 : Int32 → Sto → Prop) (Q : Int32 → Sto → Prop) (hR18 : ∀ (y3 : Int32) (S : Sto), R18 y3 S → RJ g cL_law RL (some .boolean) 4 10 18 [(0, .ref g.2.1.2.1), (1, .ref (g.1 + 0)), (2, .ref (g.1 + 353)), (3, .int y3)] [] S (Qi Q))  (x3 : Int32) (S : Sto)  (h : q_N_law_828 g.2.1.2.2.1 g.2.1.2.2.2 R18 Q x3 S) : RJ g cL_law RL (some .boolean) 4 10 828 [(0, .ref g.2.1.2.1), (1, .ref (g.1 + 0)), (2, .ref (g.1 + 353)), (3, .int x3)] [] S (Qi Q) := by
  unfold q_N_law_828 at h
  obtain ⟨P, hP, h⟩ := h
  refine J_aload_n dL_law_828 rfl 1 rfl  ?_
  refine J_aload_n dL_law_829 rfl 0 rfl  ?_
  refine J_iload_n dL_law_830 rfl 3 rfl  ?_
  refine J_iconst (v := 1) dL_law_831 (by decide)  ?_
  refine J_iadd dL_law_832  ?_
  obtain ⟨hi_1, h⟩ := h
  refine J_sld dL_law_833 hi_1  ?_
  refine J_aload_n dL_law_834 rfl 0 rfl  ?_
  refine J_iload_n dL_law_835 rfl 3 rfl  ?_
  refine J_iconst (v := 2) dL_law_836 (by decide)  ?_
  refine J_iadd dL_law_837  ?_
  obtain ⟨hi_2, h⟩ := h
  refine J_sld dL_law_838 hi_2  ?_
  refine J_callV (h := 0) (ci := 6) (As := [.int (g.2.1.2.2.2 (x3 + 1 : Int32).toNatClampNeg), .int (g.2.1.2.2.2 (x3 + 2 : Int32).toNatClampNeg)]) (rest := []) (n := 2) dL_law_839 (c_X8_count (g.2.1.2.2.2 (x3 + 1 : Int32).toNatClampNeg) (g.2.1.2.2.2 (x3 + 2 : Int32).toNatClampNeg)  _ _ h) (by decide) rfl tb_3_98 tb_3_95 tb_1_1 tb_3_96 tb_3_97 (by decide) rfl (by decide) (by decide) (Nat.le_of_ble_eq_true rfl) rfl (fun v_r_4 S_3 hq => ?_)
  obtain ⟨r_4, rfl, h⟩ := hq
  dsimp only [Option.toList, List.cons_append, List.nil_append]
  refine J_aload_n dL_law_842 rfl 2 rfl  ?_
  refine J_aload_n dL_law_843 rfl 0 rfl  ?_
  refine J_iload_n dL_law_844 rfl 3 rfl  ?_
  refine J_iconst (v := 1) dL_law_845 (by decide)  ?_
  refine J_iadd dL_law_846  ?_
  refine J_sld dL_law_847 hi_1  ?_
  refine J_aload_n dL_law_848 rfl 0 rfl  ?_
  refine J_iload_n dL_law_849 rfl 3 rfl  ?_
  refine J_iconst (v := 2) dL_law_850 (by decide)  ?_
  refine J_iadd dL_law_851  ?_
  refine J_sld dL_law_852 hi_2  ?_
  refine J_callV (h := 353) (ci := 7) (As := [.int (g.2.1.2.2.2 (x3 + 1 : Int32).toNatClampNeg), .int (g.2.1.2.2.2 (x3 + 2 : Int32).toNatClampNeg)]) (rest := [.int r_4]) (n := 2) dL_law_853 (c_X9_count (g.2.1.2.2.2 (x3 + 1 : Int32).toNatClampNeg) (g.2.1.2.2.2 (x3 + 2 : Int32).toNatClampNeg)  _ _ h) (by decide) rfl tb_5_212 tb_5_209 tb_1_8 tb_5_210 tb_5_211 (by decide) rfl (by decide) (by decide) (Nat.le_of_ble_eq_true rfl) rfl (fun v_r_8 S_7 hq => ?_)
  obtain ⟨r_8, rfl, h⟩ := hq
  have h := hP _ _ _ h
  dsimp only [Option.toList, List.cons_append, List.nil_append]
  refine J_icmp_eq (tgt := 1551) dL_law_856 (by decide) (fun c_9 => ?_) (fun c_9 => ?_)
  · have h := h.1 c_9
    exact l_N_law_1551 _ _ hR18  _ _  h
  · have h := h.2 c_9
    refine J_iconst (v := 0) dL_law_859 (by decide)  ?_
    exact J_iret dL_law_860 rfl rfl ⟨_, rfl, h⟩
def q_N_law_861 (L : Nat) (xs : Nat → Int32) (R18 : Int32 → Sto → Prop) (Q : Int32 → Sto → Prop) (x3 : Int32) (S : Sto) : Prop := ∃ P : Int32 → Int32 → Sto → Prop, (∀ (r_5 r_10 : Int32) (S_9 : Sto), P r_5 r_10 S_9 → ((r_5 = r_10 → q_N_law_1551 L xs R18 Q x3 S_9) ∧ (¬ r_5 = r_10 → Q 0 S_9))) ∧ vp_in (x3 + 1) L ∧ vp_in (x3 + 2) L ∧ vp_in (x3 + 3) L ∧ wp_X8_series (xs (x3 + 1 : Int32).toNatClampNeg) (xs (x3 + 2 : Int32).toNatClampNeg) (xs (x3 + 3 : Int32).toNatClampNeg) S (fun r_5 S_4 => wp_X9_series (xs (x3 + 1 : Int32).toNatClampNeg) (xs (x3 + 2 : Int32).toNatClampNeg) (xs (x3 + 3 : Int32).toNatClampNeg) S_4 (fun r_10 S_9 => P r_5 r_10 S_9))
set_option maxRecDepth 100000 in
set_option maxHeartbeats 4000000 in
theorem l_N_law_861 {g : Gv}  (R18 : Int32 → Sto → Prop) (Q : Int32 → Sto → Prop) (hR18 : ∀ (y3 : Int32) (S : Sto), R18 y3 S → RJ g cL_law RL (some .boolean) 4 10 18 [(0, .ref g.2.1.2.1), (1, .ref (g.1 + 0)), (2, .ref (g.1 + 353)), (3, .int y3)] [] S (Qi Q))  (x3 : Int32) (S : Sto)  (h : q_N_law_861 g.2.1.2.2.1 g.2.1.2.2.2 R18 Q x3 S) : RJ g cL_law RL (some .boolean) 4 10 861 [(0, .ref g.2.1.2.1), (1, .ref (g.1 + 0)), (2, .ref (g.1 + 353)), (3, .int x3)] [] S (Qi Q) := by
  unfold q_N_law_861 at h
  obtain ⟨P, hP, h⟩ := h
  refine J_aload_n dL_law_861 rfl 1 rfl  ?_
  refine J_aload_n dL_law_862 rfl 0 rfl  ?_
  refine J_iload_n dL_law_863 rfl 3 rfl  ?_
  refine J_iconst (v := 1) dL_law_864 (by decide)  ?_
  refine J_iadd dL_law_865  ?_
  obtain ⟨hi_1, h⟩ := h
  refine J_sld dL_law_866 hi_1  ?_
  refine J_aload_n dL_law_867 rfl 0 rfl  ?_
  refine J_iload_n dL_law_868 rfl 3 rfl  ?_
  refine J_iconst (v := 2) dL_law_869 (by decide)  ?_
  refine J_iadd dL_law_870  ?_
  obtain ⟨hi_2, h⟩ := h
  refine J_sld dL_law_871 hi_2  ?_
  refine J_aload_n dL_law_872 rfl 0 rfl  ?_
  refine J_iload_n dL_law_873 rfl 3 rfl  ?_
  refine J_iconst (v := 3) dL_law_874 (by decide)  ?_
  refine J_iadd dL_law_875  ?_
  obtain ⟨hi_3, h⟩ := h
  refine J_sld dL_law_876 hi_3  ?_
  refine J_callV (h := 0) (ci := 6) (As := [.int (g.2.1.2.2.2 (x3 + 1 : Int32).toNatClampNeg), .int (g.2.1.2.2.2 (x3 + 2 : Int32).toNatClampNeg), .int (g.2.1.2.2.2 (x3 + 3 : Int32).toNatClampNeg)]) (rest := []) (n := 3) dL_law_877 (c_X8_series (g.2.1.2.2.2 (x3 + 1 : Int32).toNatClampNeg) (g.2.1.2.2.2 (x3 + 2 : Int32).toNatClampNeg) (g.2.1.2.2.2 (x3 + 3 : Int32).toNatClampNeg)  _ _ h) (by decide) rfl tb_3_107 tb_3_104 tb_1_1 tb_3_105 tb_3_106 (by decide) rfl (by decide) (by decide) (Nat.le_of_ble_eq_true rfl) rfl (fun v_r_5 S_4 hq => ?_)
  obtain ⟨r_5, rfl, h⟩ := hq
  dsimp only [Option.toList, List.cons_append, List.nil_append]
  refine J_aload_n dL_law_880 rfl 2 rfl  ?_
  refine J_aload_n dL_law_881 rfl 0 rfl  ?_
  refine J_iload_n dL_law_882 rfl 3 rfl  ?_
  refine J_iconst (v := 1) dL_law_883 (by decide)  ?_
  refine J_iadd dL_law_884  ?_
  refine J_sld dL_law_885 hi_1  ?_
  refine J_aload_n dL_law_886 rfl 0 rfl  ?_
  refine J_iload_n dL_law_887 rfl 3 rfl  ?_
  refine J_iconst (v := 2) dL_law_888 (by decide)  ?_
  refine J_iadd dL_law_889  ?_
  refine J_sld dL_law_890 hi_2  ?_
  refine J_aload_n dL_law_891 rfl 0 rfl  ?_
  refine J_iload_n dL_law_892 rfl 3 rfl  ?_
  refine J_iconst (v := 3) dL_law_893 (by decide)  ?_
  refine J_iadd dL_law_894  ?_
  refine J_sld dL_law_895 hi_3  ?_
  refine J_callV (h := 353) (ci := 7) (As := [.int (g.2.1.2.2.2 (x3 + 1 : Int32).toNatClampNeg), .int (g.2.1.2.2.2 (x3 + 2 : Int32).toNatClampNeg), .int (g.2.1.2.2.2 (x3 + 3 : Int32).toNatClampNeg)]) (rest := [.int r_5]) (n := 3) dL_law_896 (c_X9_series (g.2.1.2.2.2 (x3 + 1 : Int32).toNatClampNeg) (g.2.1.2.2.2 (x3 + 2 : Int32).toNatClampNeg) (g.2.1.2.2.2 (x3 + 3 : Int32).toNatClampNeg)  _ _ h) (by decide) rfl tb_5_220 tb_5_217 tb_1_8 tb_5_218 tb_5_219 (by decide) rfl (by decide) (by decide) (Nat.le_of_ble_eq_true rfl) rfl (fun v_r_10 S_9 hq => ?_)
  obtain ⟨r_10, rfl, h⟩ := hq
  have h := hP _ _ _ h
  dsimp only [Option.toList, List.cons_append, List.nil_append]
  refine J_icmp_eq (tgt := 1551) dL_law_899 (by decide) (fun c_11 => ?_) (fun c_11 => ?_)
  · have h := h.1 c_11
    exact l_N_law_1551 _ _ hR18  _ _  h
  · have h := h.2 c_11
    refine J_iconst (v := 0) dL_law_902 (by decide)  ?_
    exact J_iret dL_law_903 rfl rfl ⟨_, rfl, h⟩
def q_N_law_904 (L : Nat) (xs : Nat → Int32) (R18 : Int32 → Sto → Prop) (Q : Int32 → Sto → Prop) (x3 : Int32) (S : Sto) : Prop := ∃ P : Int64 → Int64 → Sto → Prop, (∀ (r_3 r_6 : Int64) (S_5 : Sto), P r_3 r_6 S_5 → (((lg_cmp r_3 r_6) = 0 → q_N_law_1551 L xs R18 Q x3 S_5) ∧ (¬ (lg_cmp r_3 r_6) = 0 → Q 0 S_5))) ∧ vp_in (x3 + 1) L ∧ wp_X8_mean (xs (x3 + 1 : Int32).toNatClampNeg) S (fun r_3 S_2 => wp_X9_mean (xs (x3 + 1 : Int32).toNatClampNeg) S_2 (fun r_6 S_5 => P r_3 r_6 S_5))
set_option maxRecDepth 100000 in
set_option maxHeartbeats 4000000 in
theorem l_N_law_904 {g : Gv}  (R18 : Int32 → Sto → Prop) (Q : Int32 → Sto → Prop) (hR18 : ∀ (y3 : Int32) (S : Sto), R18 y3 S → RJ g cL_law RL (some .boolean) 4 10 18 [(0, .ref g.2.1.2.1), (1, .ref (g.1 + 0)), (2, .ref (g.1 + 353)), (3, .int y3)] [] S (Qi Q))  (x3 : Int32) (S : Sto)  (h : q_N_law_904 g.2.1.2.2.1 g.2.1.2.2.2 R18 Q x3 S) : RJ g cL_law RL (some .boolean) 4 10 904 [(0, .ref g.2.1.2.1), (1, .ref (g.1 + 0)), (2, .ref (g.1 + 353)), (3, .int x3)] [] S (Qi Q) := by
  unfold q_N_law_904 at h
  obtain ⟨P, hP, h⟩ := h
  refine J_aload_n dL_law_904 rfl 1 rfl  ?_
  refine J_aload_n dL_law_905 rfl 0 rfl  ?_
  refine J_iload_n dL_law_906 rfl 3 rfl  ?_
  refine J_iconst (v := 1) dL_law_907 (by decide)  ?_
  refine J_iadd dL_law_908  ?_
  obtain ⟨hi_1, h⟩ := h
  refine J_sld dL_law_909 hi_1  ?_
  refine J_callV (h := 0) (ci := 6) (As := [.int (g.2.1.2.2.2 (x3 + 1 : Int32).toNatClampNeg)]) (rest := []) (n := 1) dL_law_910 (c_X8_mean (g.2.1.2.2.2 (x3 + 1 : Int32).toNatClampNeg)  _ _ h) (by decide) rfl tb_3_123 tb_3_120 tb_1_1 tb_3_121 tb_3_122 (by decide) rfl (by decide) (by decide) (Nat.le_of_ble_eq_true rfl) rfl (fun v_r_3 S_2 hq => ?_)
  obtain ⟨r_3, rfl, h⟩ := hq
  dsimp only [Option.toList, List.cons_append, List.nil_append]
  refine J_aload_n dL_law_913 rfl 2 rfl  ?_
  refine J_aload_n dL_law_914 rfl 0 rfl  ?_
  refine J_iload_n dL_law_915 rfl 3 rfl  ?_
  refine J_iconst (v := 1) dL_law_916 (by decide)  ?_
  refine J_iadd dL_law_917  ?_
  refine J_sld dL_law_918 hi_1  ?_
  refine J_callV (h := 353) (ci := 7) (As := [.int (g.2.1.2.2.2 (x3 + 1 : Int32).toNatClampNeg)]) (rest := [.long r_3]) (n := 1) dL_law_919 (c_X9_mean (g.2.1.2.2.2 (x3 + 1 : Int32).toNatClampNeg)  _ _ h) (by decide) rfl tb_5_235 tb_5_232 tb_1_8 tb_5_233 tb_5_234 (by decide) rfl (by decide) (by decide) (Nat.le_of_ble_eq_true rfl) rfl (fun v_r_6 S_5 hq => ?_)
  obtain ⟨r_6, rfl, h⟩ := hq
  have h := hP _ _ _ h
  dsimp only [Option.toList, List.cons_append, List.nil_append]
  refine J_lcmp dL_law_922  ?_
  refine J_if_eq (tgt := 1551) dL_law_923 (by decide) (fun c_7 => ?_) (fun c_7 => ?_)
  · have h := h.1 c_7
    exact l_N_law_1551 _ _ hR18  _ _  h
  · have h := h.2 c_7
    refine J_iconst (v := 0) dL_law_926 (by decide)  ?_
    exact J_iret dL_law_927 rfl rfl ⟨_, rfl, h⟩
def q_N_law_928 (L : Nat) (xs : Nat → Int32) (R18 : Int32 → Sto → Prop) (Q : Int32 → Sto → Prop) (x3 : Int32) (S : Sto) : Prop := ∃ P : Int32 → Int32 → Sto → Prop, (∀ (r_5 r_10 : Int32) (S_9 : Sto), P r_5 r_10 S_9 → ((r_5 = r_10 → q_N_law_1551 L xs R18 Q x3 S_9) ∧ (¬ r_5 = r_10 → Q 0 S_9))) ∧ vp_in (x3 + 1) L ∧ vp_in (x3 + 2) L ∧ vp_in (x3 + 3) L ∧ wp_X8_annihilator (xs (x3 + 1 : Int32).toNatClampNeg) (xs (x3 + 2 : Int32).toNatClampNeg) (xs (x3 + 3 : Int32).toNatClampNeg) S (fun r_5 S_4 => wp_X9_annihilator (xs (x3 + 1 : Int32).toNatClampNeg) (xs (x3 + 2 : Int32).toNatClampNeg) (xs (x3 + 3 : Int32).toNatClampNeg) S_4 (fun r_10 S_9 => P r_5 r_10 S_9))
set_option maxRecDepth 100000 in
set_option maxHeartbeats 4000000 in
theorem l_N_law_928 {g : Gv}  (R18 : Int32 → Sto → Prop) (Q : Int32 → Sto → Prop) (hR18 : ∀ (y3 : Int32) (S : Sto), R18 y3 S → RJ g cL_law RL (some .boolean) 4 10 18 [(0, .ref g.2.1.2.1), (1, .ref (g.1 + 0)), (2, .ref (g.1 + 353)), (3, .int y3)] [] S (Qi Q))  (x3 : Int32) (S : Sto)  (h : q_N_law_928 g.2.1.2.2.1 g.2.1.2.2.2 R18 Q x3 S) : RJ g cL_law RL (some .boolean) 4 10 928 [(0, .ref g.2.1.2.1), (1, .ref (g.1 + 0)), (2, .ref (g.1 + 353)), (3, .int x3)] [] S (Qi Q) := by
  unfold q_N_law_928 at h
  obtain ⟨P, hP, h⟩ := h
  refine J_aload_n dL_law_928 rfl 1 rfl  ?_
  refine J_aload_n dL_law_929 rfl 0 rfl  ?_
  refine J_iload_n dL_law_930 rfl 3 rfl  ?_
  refine J_iconst (v := 1) dL_law_931 (by decide)  ?_
  refine J_iadd dL_law_932  ?_
  obtain ⟨hi_1, h⟩ := h
  refine J_sld dL_law_933 hi_1  ?_
  refine J_aload_n dL_law_934 rfl 0 rfl  ?_
  refine J_iload_n dL_law_935 rfl 3 rfl  ?_
  refine J_iconst (v := 2) dL_law_936 (by decide)  ?_
  refine J_iadd dL_law_937  ?_
  obtain ⟨hi_2, h⟩ := h
  refine J_sld dL_law_938 hi_2  ?_
  refine J_aload_n dL_law_939 rfl 0 rfl  ?_
  refine J_iload_n dL_law_940 rfl 3 rfl  ?_
  refine J_iconst (v := 3) dL_law_941 (by decide)  ?_
  refine J_iadd dL_law_942  ?_
  obtain ⟨hi_3, h⟩ := h
  refine J_sld dL_law_943 hi_3  ?_
  refine J_callV (h := 0) (ci := 6) (As := [.int (g.2.1.2.2.2 (x3 + 1 : Int32).toNatClampNeg), .int (g.2.1.2.2.2 (x3 + 2 : Int32).toNatClampNeg), .int (g.2.1.2.2.2 (x3 + 3 : Int32).toNatClampNeg)]) (rest := []) (n := 3) dL_law_944 (c_X8_annihilator (g.2.1.2.2.2 (x3 + 1 : Int32).toNatClampNeg) (g.2.1.2.2.2 (x3 + 2 : Int32).toNatClampNeg) (g.2.1.2.2.2 (x3 + 3 : Int32).toNatClampNeg)  _ _ h) (by decide) rfl tb_3_129 tb_3_126 tb_1_1 tb_3_127 tb_3_128 (by decide) rfl (by decide) (by decide) (Nat.le_of_ble_eq_true rfl) rfl (fun v_r_5 S_4 hq => ?_)
  obtain ⟨r_5, rfl, h⟩ := hq
  dsimp only [Option.toList, List.cons_append, List.nil_append]
  refine J_aload_n dL_law_947 rfl 2 rfl  ?_
  refine J_aload_n dL_law_948 rfl 0 rfl  ?_
  refine J_iload_n dL_law_949 rfl 3 rfl  ?_
  refine J_iconst (v := 1) dL_law_950 (by decide)  ?_
  refine J_iadd dL_law_951  ?_
  refine J_sld dL_law_952 hi_1  ?_
  refine J_aload_n dL_law_953 rfl 0 rfl  ?_
  refine J_iload_n dL_law_954 rfl 3 rfl  ?_
  refine J_iconst (v := 2) dL_law_955 (by decide)  ?_
  refine J_iadd dL_law_956  ?_
  refine J_sld dL_law_957 hi_2  ?_
  refine J_aload_n dL_law_958 rfl 0 rfl  ?_
  refine J_iload_n dL_law_959 rfl 3 rfl  ?_
  refine J_iconst (v := 3) dL_law_960 (by decide)  ?_
  refine J_iadd dL_law_961  ?_
  refine J_sld dL_law_962 hi_3  ?_
  refine J_callV (h := 353) (ci := 7) (As := [.int (g.2.1.2.2.2 (x3 + 1 : Int32).toNatClampNeg), .int (g.2.1.2.2.2 (x3 + 2 : Int32).toNatClampNeg), .int (g.2.1.2.2.2 (x3 + 3 : Int32).toNatClampNeg)]) (rest := [.int r_5]) (n := 3) dL_law_963 (c_X9_annihilator (g.2.1.2.2.2 (x3 + 1 : Int32).toNatClampNeg) (g.2.1.2.2.2 (x3 + 2 : Int32).toNatClampNeg) (g.2.1.2.2.2 (x3 + 3 : Int32).toNatClampNeg)  _ _ h) (by decide) rfl tb_6_10 tb_6_7 tb_1_8 tb_6_8 tb_6_9 (by decide) rfl (by decide) (by decide) (Nat.le_of_ble_eq_true rfl) rfl (fun v_r_10 S_9 hq => ?_)
  obtain ⟨r_10, rfl, h⟩ := hq
  have h := hP _ _ _ h
  dsimp only [Option.toList, List.cons_append, List.nil_append]
  refine J_icmp_eq (tgt := 1551) dL_law_966 (by decide) (fun c_11 => ?_) (fun c_11 => ?_)
  · have h := h.1 c_11
    exact l_N_law_1551 _ _ hR18  _ _  h
  · have h := h.2 c_11
    refine J_iconst (v := 0) dL_law_969 (by decide)  ?_
    exact J_iret dL_law_970 rfl rfl ⟨_, rfl, h⟩
def q_N_law_971 (L : Nat) (xs : Nat → Int32) (R18 : Int32 → Sto → Prop) (Q : Int32 → Sto → Prop) (x3 : Int32) (S : Sto) : Prop := ∃ P : Int32 → Int32 → Sto → Prop, (∀ (r_6 r_12 : Int32) (S_11 : Sto), P r_6 r_12 S_11 → ((r_6 = r_12 → q_N_law_1551 L xs R18 Q x3 S_11) ∧ (¬ r_6 = r_12 → Q 0 S_11))) ∧ vp_in (x3 + 1) L ∧ vp_in (x3 + 2) L ∧ vp_in (x3 + 3) L ∧ vp_in (x3 + 4) L ∧ wp_X8_annihilates (xs (x3 + 1 : Int32).toNatClampNeg) (xs (x3 + 2 : Int32).toNatClampNeg) (xs (x3 + 3 : Int32).toNatClampNeg) (xs (x3 + 4 : Int32).toNatClampNeg) S (fun r_6 S_5 => wp_X9_annihilates (xs (x3 + 1 : Int32).toNatClampNeg) (xs (x3 + 2 : Int32).toNatClampNeg) (xs (x3 + 3 : Int32).toNatClampNeg) (xs (x3 + 4 : Int32).toNatClampNeg) S_5 (fun r_12 S_11 => P r_6 r_12 S_11))
set_option maxRecDepth 100000 in
set_option maxHeartbeats 4000000 in
theorem l_N_law_971 {g : Gv}  (R18 : Int32 → Sto → Prop) (Q : Int32 → Sto → Prop) (hR18 : ∀ (y3 : Int32) (S : Sto), R18 y3 S → RJ g cL_law RL (some .boolean) 4 10 18 [(0, .ref g.2.1.2.1), (1, .ref (g.1 + 0)), (2, .ref (g.1 + 353)), (3, .int y3)] [] S (Qi Q))  (x3 : Int32) (S : Sto)  (h : q_N_law_971 g.2.1.2.2.1 g.2.1.2.2.2 R18 Q x3 S) : RJ g cL_law RL (some .boolean) 4 10 971 [(0, .ref g.2.1.2.1), (1, .ref (g.1 + 0)), (2, .ref (g.1 + 353)), (3, .int x3)] [] S (Qi Q) := by
  unfold q_N_law_971 at h
  obtain ⟨P, hP, h⟩ := h
  refine J_aload_n dL_law_971 rfl 1 rfl  ?_
  refine J_aload_n dL_law_972 rfl 0 rfl  ?_
  refine J_iload_n dL_law_973 rfl 3 rfl  ?_
  refine J_iconst (v := 1) dL_law_974 (by decide)  ?_
  refine J_iadd dL_law_975  ?_
  obtain ⟨hi_1, h⟩ := h
  refine J_sld dL_law_976 hi_1  ?_
  refine J_aload_n dL_law_977 rfl 0 rfl  ?_
  refine J_iload_n dL_law_978 rfl 3 rfl  ?_
  refine J_iconst (v := 2) dL_law_979 (by decide)  ?_
  refine J_iadd dL_law_980  ?_
  obtain ⟨hi_2, h⟩ := h
  refine J_sld dL_law_981 hi_2  ?_
  refine J_aload_n dL_law_982 rfl 0 rfl  ?_
  refine J_iload_n dL_law_983 rfl 3 rfl  ?_
  refine J_iconst (v := 3) dL_law_984 (by decide)  ?_
  refine J_iadd dL_law_985  ?_
  obtain ⟨hi_3, h⟩ := h
  refine J_sld dL_law_986 hi_3  ?_
  refine J_aload_n dL_law_987 rfl 0 rfl  ?_
  refine J_iload_n dL_law_988 rfl 3 rfl  ?_
  refine J_iconst (v := 4) dL_law_989 (by decide)  ?_
  refine J_iadd dL_law_990  ?_
  obtain ⟨hi_4, h⟩ := h
  refine J_sld dL_law_991 hi_4  ?_
  refine J_callV (h := 0) (ci := 6) (As := [.int (g.2.1.2.2.2 (x3 + 1 : Int32).toNatClampNeg), .int (g.2.1.2.2.2 (x3 + 2 : Int32).toNatClampNeg), .int (g.2.1.2.2.2 (x3 + 3 : Int32).toNatClampNeg), .int (g.2.1.2.2.2 (x3 + 4 : Int32).toNatClampNeg)]) (rest := []) (n := 4) dL_law_992 (c_X8_annihilates (g.2.1.2.2.2 (x3 + 1 : Int32).toNatClampNeg) (g.2.1.2.2.2 (x3 + 2 : Int32).toNatClampNeg) (g.2.1.2.2.2 (x3 + 3 : Int32).toNatClampNeg) (g.2.1.2.2.2 (x3 + 4 : Int32).toNatClampNeg)  _ _ h) (by decide) rfl tb_3_166 tb_3_163 tb_1_1 tb_3_164 tb_3_165 (by decide) rfl (by decide) (by decide) (Nat.le_of_ble_eq_true rfl) rfl (fun v_r_6 S_5 hq => ?_)
  obtain ⟨r_6, rfl, h⟩ := hq
  dsimp only [Option.toList, List.cons_append, List.nil_append]
  refine J_aload_n dL_law_995 rfl 2 rfl  ?_
  refine J_aload_n dL_law_996 rfl 0 rfl  ?_
  refine J_iload_n dL_law_997 rfl 3 rfl  ?_
  refine J_iconst (v := 1) dL_law_998 (by decide)  ?_
  refine J_iadd dL_law_999  ?_
  refine J_sld dL_law_1000 hi_1  ?_
  refine J_aload_n dL_law_1001 rfl 0 rfl  ?_
  refine J_iload_n dL_law_1002 rfl 3 rfl  ?_
  refine J_iconst (v := 2) dL_law_1003 (by decide)  ?_
  refine J_iadd dL_law_1004  ?_
  refine J_sld dL_law_1005 hi_2  ?_
  refine J_aload_n dL_law_1006 rfl 0 rfl  ?_
  refine J_iload_n dL_law_1007 rfl 3 rfl  ?_
  refine J_iconst (v := 3) dL_law_1008 (by decide)  ?_
  refine J_iadd dL_law_1009  ?_
  refine J_sld dL_law_1010 hi_3  ?_
  refine J_aload_n dL_law_1011 rfl 0 rfl  ?_
  refine J_iload_n dL_law_1012 rfl 3 rfl  ?_
  refine J_iconst (v := 4) dL_law_1013 (by decide)  ?_
  refine J_iadd dL_law_1014  ?_
  refine J_sld dL_law_1015 hi_4  ?_
  refine J_callV (h := 353) (ci := 7) (As := [.int (g.2.1.2.2.2 (x3 + 1 : Int32).toNatClampNeg), .int (g.2.1.2.2.2 (x3 + 2 : Int32).toNatClampNeg), .int (g.2.1.2.2.2 (x3 + 3 : Int32).toNatClampNeg), .int (g.2.1.2.2.2 (x3 + 4 : Int32).toNatClampNeg)]) (rest := [.int r_6]) (n := 4) dL_law_1016 (c_X9_annihilates (g.2.1.2.2.2 (x3 + 1 : Int32).toNatClampNeg) (g.2.1.2.2.2 (x3 + 2 : Int32).toNatClampNeg) (g.2.1.2.2.2 (x3 + 3 : Int32).toNatClampNeg) (g.2.1.2.2.2 (x3 + 4 : Int32).toNatClampNeg)  _ _ h) (by decide) rfl tb_6_31 tb_6_28 tb_1_8 tb_6_29 tb_6_30 (by decide) rfl (by decide) (by decide) (Nat.le_of_ble_eq_true rfl) rfl (fun v_r_12 S_11 hq => ?_)
  obtain ⟨r_12, rfl, h⟩ := hq
  have h := hP _ _ _ h
  dsimp only [Option.toList, List.cons_append, List.nil_append]
  refine J_icmp_eq (tgt := 1551) dL_law_1019 (by decide) (fun c_13 => ?_) (fun c_13 => ?_)
  · have h := h.1 c_13
    exact l_N_law_1551 _ _ hR18  _ _  h
  · have h := h.2 c_13
    refine J_iconst (v := 0) dL_law_1022 (by decide)  ?_
    exact J_iret dL_law_1023 rfl rfl ⟨_, rfl, h⟩
def q_N_law_1024 (L : Nat) (xs : Nat → Int32) (R18 : Int32 → Sto → Prop) (Q : Int32 → Sto → Prop) (x3 : Int32) (S : Sto) : Prop := ∃ P : Int32 → Int32 → Sto → Prop, (∀ (r_3 r_6 : Int32) (S_5 : Sto), P r_3 r_6 S_5 → ((r_3 = r_6 → q_N_law_1551 L xs R18 Q x3 S_5) ∧ (¬ r_3 = r_6 → Q 0 S_5))) ∧ vp_in (x3 + 1) L ∧ wp_X8_step (xs (x3 + 1 : Int32).toNatClampNeg) S (fun r_3 S_2 => wp_X9_step (xs (x3 + 1 : Int32).toNatClampNeg) S_2 (fun r_6 S_5 => P r_3 r_6 S_5))
set_option maxRecDepth 100000 in
set_option maxHeartbeats 4000000 in
theorem l_N_law_1024 {g : Gv}  (R18 : Int32 → Sto → Prop) (Q : Int32 → Sto → Prop) (hR18 : ∀ (y3 : Int32) (S : Sto), R18 y3 S → RJ g cL_law RL (some .boolean) 4 10 18 [(0, .ref g.2.1.2.1), (1, .ref (g.1 + 0)), (2, .ref (g.1 + 353)), (3, .int y3)] [] S (Qi Q))  (x3 : Int32) (S : Sto)  (h : q_N_law_1024 g.2.1.2.2.1 g.2.1.2.2.2 R18 Q x3 S) : RJ g cL_law RL (some .boolean) 4 10 1024 [(0, .ref g.2.1.2.1), (1, .ref (g.1 + 0)), (2, .ref (g.1 + 353)), (3, .int x3)] [] S (Qi Q) := by
  unfold q_N_law_1024 at h
  obtain ⟨P, hP, h⟩ := h
  refine J_aload_n dL_law_1024 rfl 1 rfl  ?_
  refine J_aload_n dL_law_1025 rfl 0 rfl  ?_
  refine J_iload_n dL_law_1026 rfl 3 rfl  ?_
  refine J_iconst (v := 1) dL_law_1027 (by decide)  ?_
  refine J_iadd dL_law_1028  ?_
  obtain ⟨hi_1, h⟩ := h
  refine J_sld dL_law_1029 hi_1  ?_
  refine J_callV (h := 0) (ci := 6) (As := [.int (g.2.1.2.2.2 (x3 + 1 : Int32).toNatClampNeg)]) (rest := []) (n := 1) dL_law_1030 (c_X8_step (g.2.1.2.2.2 (x3 + 1 : Int32).toNatClampNeg)  _ _ h) (by decide) rfl tb_3_170 tb_3_167 tb_1_1 tb_3_168 tb_3_169 (by decide) rfl (by decide) (by decide) (Nat.le_of_ble_eq_true rfl) rfl (fun v_r_3 S_2 hq => ?_)
  obtain ⟨r_3, rfl, h⟩ := hq
  dsimp only [Option.toList, List.cons_append, List.nil_append]
  refine J_aload_n dL_law_1033 rfl 2 rfl  ?_
  refine J_aload_n dL_law_1034 rfl 0 rfl  ?_
  refine J_iload_n dL_law_1035 rfl 3 rfl  ?_
  refine J_iconst (v := 1) dL_law_1036 (by decide)  ?_
  refine J_iadd dL_law_1037  ?_
  refine J_sld dL_law_1038 hi_1  ?_
  refine J_callV (h := 353) (ci := 7) (As := [.int (g.2.1.2.2.2 (x3 + 1 : Int32).toNatClampNeg)]) (rest := [.int r_3]) (n := 1) dL_law_1039 (c_X9_step (g.2.1.2.2.2 (x3 + 1 : Int32).toNatClampNeg)  _ _ h) (by decide) rfl tb_6_35 tb_6_32 tb_1_8 tb_6_33 tb_6_34 (by decide) rfl (by decide) (by decide) (Nat.le_of_ble_eq_true rfl) rfl (fun v_r_6 S_5 hq => ?_)
  obtain ⟨r_6, rfl, h⟩ := hq
  have h := hP _ _ _ h
  dsimp only [Option.toList, List.cons_append, List.nil_append]
  refine J_icmp_eq (tgt := 1551) dL_law_1042 (by decide) (fun c_7 => ?_) (fun c_7 => ?_)
  · have h := h.1 c_7
    exact l_N_law_1551 _ _ hR18  _ _  h
  · have h := h.2 c_7
    refine J_iconst (v := 0) dL_law_1045 (by decide)  ?_
    exact J_iret dL_law_1046 rfl rfl ⟨_, rfl, h⟩
def q_N_law_1047 (L : Nat) (xs : Nat → Int32) (R18 : Int32 → Sto → Prop) (Q : Int32 → Sto → Prop) (x3 : Int32) (S : Sto) : Prop := ∃ P : Int32 → Int32 → Sto → Prop, (∀ (r_6 r_12 : Int32) (S_11 : Sto), P r_6 r_12 S_11 → ((r_6 = r_12 → q_N_law_1551 L xs R18 Q x3 S_11) ∧ (¬ r_6 = r_12 → Q 0 S_11))) ∧ vp_in (x3 + 1) L ∧ vp_in (x3 + 2) L ∧ vp_in (x3 + 3) L ∧ vp_in (x3 + 4) L ∧ wp_X8_fits (xs (x3 + 1 : Int32).toNatClampNeg) (xs (x3 + 2 : Int32).toNatClampNeg) (xs (x3 + 3 : Int32).toNatClampNeg) (xs (x3 + 4 : Int32).toNatClampNeg) S (fun r_6 S_5 => wp_X9_fits (xs (x3 + 1 : Int32).toNatClampNeg) (xs (x3 + 2 : Int32).toNatClampNeg) (xs (x3 + 3 : Int32).toNatClampNeg) (xs (x3 + 4 : Int32).toNatClampNeg) S_5 (fun r_12 S_11 => P r_6 r_12 S_11))
set_option maxRecDepth 100000 in
set_option maxHeartbeats 4000000 in
theorem l_N_law_1047 {g : Gv}  (R18 : Int32 → Sto → Prop) (Q : Int32 → Sto → Prop) (hR18 : ∀ (y3 : Int32) (S : Sto), R18 y3 S → RJ g cL_law RL (some .boolean) 4 10 18 [(0, .ref g.2.1.2.1), (1, .ref (g.1 + 0)), (2, .ref (g.1 + 353)), (3, .int y3)] [] S (Qi Q))  (x3 : Int32) (S : Sto)  (h : q_N_law_1047 g.2.1.2.2.1 g.2.1.2.2.2 R18 Q x3 S) : RJ g cL_law RL (some .boolean) 4 10 1047 [(0, .ref g.2.1.2.1), (1, .ref (g.1 + 0)), (2, .ref (g.1 + 353)), (3, .int x3)] [] S (Qi Q) := by
  unfold q_N_law_1047 at h
  obtain ⟨P, hP, h⟩ := h
  refine J_aload_n dL_law_1047 rfl 1 rfl  ?_
  refine J_aload_n dL_law_1048 rfl 0 rfl  ?_
  refine J_iload_n dL_law_1049 rfl 3 rfl  ?_
  refine J_iconst (v := 1) dL_law_1050 (by decide)  ?_
  refine J_iadd dL_law_1051  ?_
  obtain ⟨hi_1, h⟩ := h
  refine J_sld dL_law_1052 hi_1  ?_
  refine J_aload_n dL_law_1053 rfl 0 rfl  ?_
  refine J_iload_n dL_law_1054 rfl 3 rfl  ?_
  refine J_iconst (v := 2) dL_law_1055 (by decide)  ?_
  refine J_iadd dL_law_1056  ?_
  obtain ⟨hi_2, h⟩ := h
  refine J_sld dL_law_1057 hi_2  ?_
  refine J_aload_n dL_law_1058 rfl 0 rfl  ?_
  refine J_iload_n dL_law_1059 rfl 3 rfl  ?_
  refine J_iconst (v := 3) dL_law_1060 (by decide)  ?_
  refine J_iadd dL_law_1061  ?_
  obtain ⟨hi_3, h⟩ := h
  refine J_sld dL_law_1062 hi_3  ?_
  refine J_aload_n dL_law_1063 rfl 0 rfl  ?_
  refine J_iload_n dL_law_1064 rfl 3 rfl  ?_
  refine J_iconst (v := 4) dL_law_1065 (by decide)  ?_
  refine J_iadd dL_law_1066  ?_
  obtain ⟨hi_4, h⟩ := h
  refine J_sld dL_law_1067 hi_4  ?_
  refine J_callV (h := 0) (ci := 6) (As := [.int (g.2.1.2.2.2 (x3 + 1 : Int32).toNatClampNeg), .int (g.2.1.2.2.2 (x3 + 2 : Int32).toNatClampNeg), .int (g.2.1.2.2.2 (x3 + 3 : Int32).toNatClampNeg), .int (g.2.1.2.2.2 (x3 + 4 : Int32).toNatClampNeg)]) (rest := []) (n := 4) dL_law_1068 (c_X8_fits (g.2.1.2.2.2 (x3 + 1 : Int32).toNatClampNeg) (g.2.1.2.2.2 (x3 + 2 : Int32).toNatClampNeg) (g.2.1.2.2.2 (x3 + 3 : Int32).toNatClampNeg) (g.2.1.2.2.2 (x3 + 4 : Int32).toNatClampNeg)  _ _ h) (by decide) rfl tb_3_215 tb_3_212 tb_1_1 tb_3_213 tb_3_214 (by decide) rfl (by decide) (by decide) (Nat.le_of_ble_eq_true rfl) rfl (fun v_r_6 S_5 hq => ?_)
  obtain ⟨r_6, rfl, h⟩ := hq
  dsimp only [Option.toList, List.cons_append, List.nil_append]
  refine J_aload_n dL_law_1071 rfl 2 rfl  ?_
  refine J_aload_n dL_law_1072 rfl 0 rfl  ?_
  refine J_iload_n dL_law_1073 rfl 3 rfl  ?_
  refine J_iconst (v := 1) dL_law_1074 (by decide)  ?_
  refine J_iadd dL_law_1075  ?_
  refine J_sld dL_law_1076 hi_1  ?_
  refine J_aload_n dL_law_1077 rfl 0 rfl  ?_
  refine J_iload_n dL_law_1078 rfl 3 rfl  ?_
  refine J_iconst (v := 2) dL_law_1079 (by decide)  ?_
  refine J_iadd dL_law_1080  ?_
  refine J_sld dL_law_1081 hi_2  ?_
  refine J_aload_n dL_law_1082 rfl 0 rfl  ?_
  refine J_iload_n dL_law_1083 rfl 3 rfl  ?_
  refine J_iconst (v := 3) dL_law_1084 (by decide)  ?_
  refine J_iadd dL_law_1085  ?_
  refine J_sld dL_law_1086 hi_3  ?_
  refine J_aload_n dL_law_1087 rfl 0 rfl  ?_
  refine J_iload_n dL_law_1088 rfl 3 rfl  ?_
  refine J_iconst (v := 4) dL_law_1089 (by decide)  ?_
  refine J_iadd dL_law_1090  ?_
  refine J_sld dL_law_1091 hi_4  ?_
  refine J_callV (h := 353) (ci := 7) (As := [.int (g.2.1.2.2.2 (x3 + 1 : Int32).toNatClampNeg), .int (g.2.1.2.2.2 (x3 + 2 : Int32).toNatClampNeg), .int (g.2.1.2.2.2 (x3 + 3 : Int32).toNatClampNeg), .int (g.2.1.2.2.2 (x3 + 4 : Int32).toNatClampNeg)]) (rest := [.int r_6]) (n := 4) dL_law_1092 (c_X9_fits (g.2.1.2.2.2 (x3 + 1 : Int32).toNatClampNeg) (g.2.1.2.2.2 (x3 + 2 : Int32).toNatClampNeg) (g.2.1.2.2.2 (x3 + 3 : Int32).toNatClampNeg) (g.2.1.2.2.2 (x3 + 4 : Int32).toNatClampNeg)  _ _ h) (by decide) rfl tb_6_51 tb_6_48 tb_1_8 tb_6_49 tb_6_50 (by decide) rfl (by decide) (by decide) (Nat.le_of_ble_eq_true rfl) rfl (fun v_r_12 S_11 hq => ?_)
  obtain ⟨r_12, rfl, h⟩ := hq
  have h := hP _ _ _ h
  dsimp only [Option.toList, List.cons_append, List.nil_append]
  refine J_icmp_eq (tgt := 1551) dL_law_1095 (by decide) (fun c_13 => ?_) (fun c_13 => ?_)
  · have h := h.1 c_13
    exact l_N_law_1551 _ _ hR18  _ _  h
  · have h := h.2 c_13
    refine J_iconst (v := 0) dL_law_1098 (by decide)  ?_
    exact J_iret dL_law_1099 rfl rfl ⟨_, rfl, h⟩
def q_N_law_1100 (L : Nat) (xs : Nat → Int32) (R18 : Int32 → Sto → Prop) (Q : Int32 → Sto → Prop) (x3 : Int32) (S : Sto) : Prop := ∃ P : Int64 → Int64 → Sto → Prop, (∀ (r_4 r_8 : Int64) (S_7 : Sto), P r_4 r_8 S_7 → (((lg_cmp r_4 r_8) = 0 → q_N_law_1551 L xs R18 Q x3 S_7) ∧ (¬ (lg_cmp r_4 r_8) = 0 → Q 0 S_7))) ∧ vp_in (x3 + 1) L ∧ vp_in (x3 + 2) L ∧ wp_X8_odds (xs (x3 + 1 : Int32).toNatClampNeg) (xs (x3 + 2 : Int32).toNatClampNeg) S (fun r_4 S_3 => wp_X9_odds (xs (x3 + 1 : Int32).toNatClampNeg) (xs (x3 + 2 : Int32).toNatClampNeg) S_3 (fun r_8 S_7 => P r_4 r_8 S_7))
set_option maxRecDepth 100000 in
set_option maxHeartbeats 4000000 in
theorem l_N_law_1100 {g : Gv}  (R18 : Int32 → Sto → Prop) (Q : Int32 → Sto → Prop) (hR18 : ∀ (y3 : Int32) (S : Sto), R18 y3 S → RJ g cL_law RL (some .boolean) 4 10 18 [(0, .ref g.2.1.2.1), (1, .ref (g.1 + 0)), (2, .ref (g.1 + 353)), (3, .int y3)] [] S (Qi Q))  (x3 : Int32) (S : Sto)  (h : q_N_law_1100 g.2.1.2.2.1 g.2.1.2.2.2 R18 Q x3 S) : RJ g cL_law RL (some .boolean) 4 10 1100 [(0, .ref g.2.1.2.1), (1, .ref (g.1 + 0)), (2, .ref (g.1 + 353)), (3, .int x3)] [] S (Qi Q) := by
  unfold q_N_law_1100 at h
  obtain ⟨P, hP, h⟩ := h
  refine J_aload_n dL_law_1100 rfl 1 rfl  ?_
  refine J_aload_n dL_law_1101 rfl 0 rfl  ?_
  refine J_iload_n dL_law_1102 rfl 3 rfl  ?_
  refine J_iconst (v := 1) dL_law_1103 (by decide)  ?_
  refine J_iadd dL_law_1104  ?_
  obtain ⟨hi_1, h⟩ := h
  refine J_sld dL_law_1105 hi_1  ?_
  refine J_aload_n dL_law_1106 rfl 0 rfl  ?_
  refine J_iload_n dL_law_1107 rfl 3 rfl  ?_
  refine J_iconst (v := 2) dL_law_1108 (by decide)  ?_
  refine J_iadd dL_law_1109  ?_
  obtain ⟨hi_2, h⟩ := h
  refine J_sld dL_law_1110 hi_2  ?_
  refine J_callV (h := 0) (ci := 6) (As := [.int (g.2.1.2.2.2 (x3 + 1 : Int32).toNatClampNeg), .int (g.2.1.2.2.2 (x3 + 2 : Int32).toNatClampNeg)]) (rest := []) (n := 2) dL_law_1111 (c_X8_odds (g.2.1.2.2.2 (x3 + 1 : Int32).toNatClampNeg) (g.2.1.2.2.2 (x3 + 2 : Int32).toNatClampNeg)  _ _ h) (by decide) rfl tb_3_219 tb_3_216 tb_1_1 tb_3_217 tb_3_218 (by decide) rfl (by decide) (by decide) (Nat.le_of_ble_eq_true rfl) rfl (fun v_r_4 S_3 hq => ?_)
  obtain ⟨r_4, rfl, h⟩ := hq
  dsimp only [Option.toList, List.cons_append, List.nil_append]
  refine J_aload_n dL_law_1114 rfl 2 rfl  ?_
  refine J_aload_n dL_law_1115 rfl 0 rfl  ?_
  refine J_iload_n dL_law_1116 rfl 3 rfl  ?_
  refine J_iconst (v := 1) dL_law_1117 (by decide)  ?_
  refine J_iadd dL_law_1118  ?_
  refine J_sld dL_law_1119 hi_1  ?_
  refine J_aload_n dL_law_1120 rfl 0 rfl  ?_
  refine J_iload_n dL_law_1121 rfl 3 rfl  ?_
  refine J_iconst (v := 2) dL_law_1122 (by decide)  ?_
  refine J_iadd dL_law_1123  ?_
  refine J_sld dL_law_1124 hi_2  ?_
  refine J_callV (h := 353) (ci := 7) (As := [.int (g.2.1.2.2.2 (x3 + 1 : Int32).toNatClampNeg), .int (g.2.1.2.2.2 (x3 + 2 : Int32).toNatClampNeg)]) (rest := [.long r_4]) (n := 2) dL_law_1125 (c_X9_odds (g.2.1.2.2.2 (x3 + 1 : Int32).toNatClampNeg) (g.2.1.2.2.2 (x3 + 2 : Int32).toNatClampNeg)  _ _ h) (by decide) rfl tb_6_55 tb_6_52 tb_1_8 tb_6_53 tb_6_54 (by decide) rfl (by decide) (by decide) (Nat.le_of_ble_eq_true rfl) rfl (fun v_r_8 S_7 hq => ?_)
  obtain ⟨r_8, rfl, h⟩ := hq
  have h := hP _ _ _ h
  dsimp only [Option.toList, List.cons_append, List.nil_append]
  refine J_lcmp dL_law_1128  ?_
  refine J_if_eq (tgt := 1551) dL_law_1129 (by decide) (fun c_9 => ?_) (fun c_9 => ?_)
  · have h := h.1 c_9
    exact l_N_law_1551 _ _ hR18  _ _  h
  · have h := h.2 c_9
    refine J_iconst (v := 0) dL_law_1132 (by decide)  ?_
    exact J_iret dL_law_1133 rfl rfl ⟨_, rfl, h⟩
def q_N_law_1134 (L : Nat) (xs : Nat → Int32) (R18 : Int32 → Sto → Prop) (Q : Int32 → Sto → Prop) (x3 : Int32) (S : Sto) : Prop := ∃ P : Int32 → Int32 → Sto → Prop, (∀ (r_4 r_8 : Int32) (S_7 : Sto), P r_4 r_8 S_7 → ((r_4 = r_8 → q_N_law_1551 L xs R18 Q x3 S_7) ∧ (¬ r_4 = r_8 → Q 0 S_7))) ∧ vp_in (x3 + 1) L ∧ vp_in (x3 + 2) L ∧ wp_X8_event (xs (x3 + 1 : Int32).toNatClampNeg) (xs (x3 + 2 : Int32).toNatClampNeg) S (fun r_4 S_3 => wp_X9_event (xs (x3 + 1 : Int32).toNatClampNeg) (xs (x3 + 2 : Int32).toNatClampNeg) S_3 (fun r_8 S_7 => P r_4 r_8 S_7))
set_option maxRecDepth 100000 in
set_option maxHeartbeats 4000000 in
theorem l_N_law_1134 {g : Gv}  (R18 : Int32 → Sto → Prop) (Q : Int32 → Sto → Prop) (hR18 : ∀ (y3 : Int32) (S : Sto), R18 y3 S → RJ g cL_law RL (some .boolean) 4 10 18 [(0, .ref g.2.1.2.1), (1, .ref (g.1 + 0)), (2, .ref (g.1 + 353)), (3, .int y3)] [] S (Qi Q))  (x3 : Int32) (S : Sto)  (h : q_N_law_1134 g.2.1.2.2.1 g.2.1.2.2.2 R18 Q x3 S) : RJ g cL_law RL (some .boolean) 4 10 1134 [(0, .ref g.2.1.2.1), (1, .ref (g.1 + 0)), (2, .ref (g.1 + 353)), (3, .int x3)] [] S (Qi Q) := by
  unfold q_N_law_1134 at h
  obtain ⟨P, hP, h⟩ := h
  refine J_aload_n dL_law_1134 rfl 1 rfl  ?_
  refine J_aload_n dL_law_1135 rfl 0 rfl  ?_
  refine J_iload_n dL_law_1136 rfl 3 rfl  ?_
  refine J_iconst (v := 1) dL_law_1137 (by decide)  ?_
  refine J_iadd dL_law_1138  ?_
  obtain ⟨hi_1, h⟩ := h
  refine J_sld dL_law_1139 hi_1  ?_
  refine J_aload_n dL_law_1140 rfl 0 rfl  ?_
  refine J_iload_n dL_law_1141 rfl 3 rfl  ?_
  refine J_iconst (v := 2) dL_law_1142 (by decide)  ?_
  refine J_iadd dL_law_1143  ?_
  obtain ⟨hi_2, h⟩ := h
  refine J_sld dL_law_1144 hi_2  ?_
  refine J_callV (h := 0) (ci := 6) (As := [.int (g.2.1.2.2.2 (x3 + 1 : Int32).toNatClampNeg), .int (g.2.1.2.2.2 (x3 + 2 : Int32).toNatClampNeg)]) (rest := []) (n := 2) dL_law_1145 (c_X8_event (g.2.1.2.2.2 (x3 + 1 : Int32).toNatClampNeg) (g.2.1.2.2.2 (x3 + 2 : Int32).toNatClampNeg)  _ _ h) (by decide) rfl tb_3_223 tb_3_220 tb_1_1 tb_3_221 tb_3_222 (by decide) rfl (by decide) (by decide) (Nat.le_of_ble_eq_true rfl) rfl (fun v_r_4 S_3 hq => ?_)
  obtain ⟨r_4, rfl, h⟩ := hq
  dsimp only [Option.toList, List.cons_append, List.nil_append]
  refine J_aload_n dL_law_1148 rfl 2 rfl  ?_
  refine J_aload_n dL_law_1149 rfl 0 rfl  ?_
  refine J_iload_n dL_law_1150 rfl 3 rfl  ?_
  refine J_iconst (v := 1) dL_law_1151 (by decide)  ?_
  refine J_iadd dL_law_1152  ?_
  refine J_sld dL_law_1153 hi_1  ?_
  refine J_aload_n dL_law_1154 rfl 0 rfl  ?_
  refine J_iload_n dL_law_1155 rfl 3 rfl  ?_
  refine J_iconst (v := 2) dL_law_1156 (by decide)  ?_
  refine J_iadd dL_law_1157  ?_
  refine J_sld dL_law_1158 hi_2  ?_
  refine J_callV (h := 353) (ci := 7) (As := [.int (g.2.1.2.2.2 (x3 + 1 : Int32).toNatClampNeg), .int (g.2.1.2.2.2 (x3 + 2 : Int32).toNatClampNeg)]) (rest := [.int r_4]) (n := 2) dL_law_1159 (c_X9_event (g.2.1.2.2.2 (x3 + 1 : Int32).toNatClampNeg) (g.2.1.2.2.2 (x3 + 2 : Int32).toNatClampNeg)  _ _ h) (by decide) rfl tb_6_59 tb_6_56 tb_1_8 tb_6_57 tb_6_58 (by decide) rfl (by decide) (by decide) (Nat.le_of_ble_eq_true rfl) rfl (fun v_r_8 S_7 hq => ?_)
  obtain ⟨r_8, rfl, h⟩ := hq
  have h := hP _ _ _ h
  dsimp only [Option.toList, List.cons_append, List.nil_append]
  refine J_icmp_eq (tgt := 1551) dL_law_1162 (by decide) (fun c_9 => ?_) (fun c_9 => ?_)
  · have h := h.1 c_9
    exact l_N_law_1551 _ _ hR18  _ _  h
  · have h := h.2 c_9
    refine J_iconst (v := 0) dL_law_1165 (by decide)  ?_
    exact J_iret dL_law_1166 rfl rfl ⟨_, rfl, h⟩
def q_N_law_1167 (L : Nat) (xs : Nat → Int32) (R18 : Int32 → Sto → Prop) (Q : Int32 → Sto → Prop) (x3 : Int32) (S : Sto) : Prop := ∃ P : Int32 → Int32 → Sto → Prop, (∀ (r_4 r_8 : Int32) (S_7 : Sto), P r_4 r_8 S_7 → ((r_4 = r_8 → q_N_law_1551 L xs R18 Q x3 S_7) ∧ (¬ r_4 = r_8 → Q 0 S_7))) ∧ vp_in (x3 + 1) L ∧ vp_in (x3 + 2) L ∧ wp_X8_after (xs (x3 + 1 : Int32).toNatClampNeg) (xs (x3 + 2 : Int32).toNatClampNeg) S (fun r_4 S_3 => wp_X9_after (xs (x3 + 1 : Int32).toNatClampNeg) (xs (x3 + 2 : Int32).toNatClampNeg) S_3 (fun r_8 S_7 => P r_4 r_8 S_7))
set_option maxRecDepth 100000 in
set_option maxHeartbeats 4000000 in
theorem l_N_law_1167 {g : Gv}  (R18 : Int32 → Sto → Prop) (Q : Int32 → Sto → Prop) (hR18 : ∀ (y3 : Int32) (S : Sto), R18 y3 S → RJ g cL_law RL (some .boolean) 4 10 18 [(0, .ref g.2.1.2.1), (1, .ref (g.1 + 0)), (2, .ref (g.1 + 353)), (3, .int y3)] [] S (Qi Q))  (x3 : Int32) (S : Sto)  (h : q_N_law_1167 g.2.1.2.2.1 g.2.1.2.2.2 R18 Q x3 S) : RJ g cL_law RL (some .boolean) 4 10 1167 [(0, .ref g.2.1.2.1), (1, .ref (g.1 + 0)), (2, .ref (g.1 + 353)), (3, .int x3)] [] S (Qi Q) := by
  unfold q_N_law_1167 at h
  obtain ⟨P, hP, h⟩ := h
  refine J_aload_n dL_law_1167 rfl 1 rfl  ?_
  refine J_aload_n dL_law_1168 rfl 0 rfl  ?_
  refine J_iload_n dL_law_1169 rfl 3 rfl  ?_
  refine J_iconst (v := 1) dL_law_1170 (by decide)  ?_
  refine J_iadd dL_law_1171  ?_
  obtain ⟨hi_1, h⟩ := h
  refine J_sld dL_law_1172 hi_1  ?_
  refine J_aload_n dL_law_1173 rfl 0 rfl  ?_
  refine J_iload_n dL_law_1174 rfl 3 rfl  ?_
  refine J_iconst (v := 2) dL_law_1175 (by decide)  ?_
  refine J_iadd dL_law_1176  ?_
  obtain ⟨hi_2, h⟩ := h
  refine J_sld dL_law_1177 hi_2  ?_
  refine J_callV (h := 0) (ci := 6) (As := [.int (g.2.1.2.2.2 (x3 + 1 : Int32).toNatClampNeg), .int (g.2.1.2.2.2 (x3 + 2 : Int32).toNatClampNeg)]) (rest := []) (n := 2) dL_law_1178 (c_X8_after (g.2.1.2.2.2 (x3 + 1 : Int32).toNatClampNeg) (g.2.1.2.2.2 (x3 + 2 : Int32).toNatClampNeg)  _ _ h) (by decide) rfl tb_3_232 tb_3_229 tb_1_1 tb_3_230 tb_3_231 (by decide) rfl (by decide) (by decide) (Nat.le_of_ble_eq_true rfl) rfl (fun v_r_4 S_3 hq => ?_)
  obtain ⟨r_4, rfl, h⟩ := hq
  dsimp only [Option.toList, List.cons_append, List.nil_append]
  refine J_aload_n dL_law_1181 rfl 2 rfl  ?_
  refine J_aload_n dL_law_1182 rfl 0 rfl  ?_
  refine J_iload_n dL_law_1183 rfl 3 rfl  ?_
  refine J_iconst (v := 1) dL_law_1184 (by decide)  ?_
  refine J_iadd dL_law_1185  ?_
  refine J_sld dL_law_1186 hi_1  ?_
  refine J_aload_n dL_law_1187 rfl 0 rfl  ?_
  refine J_iload_n dL_law_1188 rfl 3 rfl  ?_
  refine J_iconst (v := 2) dL_law_1189 (by decide)  ?_
  refine J_iadd dL_law_1190  ?_
  refine J_sld dL_law_1191 hi_2  ?_
  refine J_callV (h := 353) (ci := 7) (As := [.int (g.2.1.2.2.2 (x3 + 1 : Int32).toNatClampNeg), .int (g.2.1.2.2.2 (x3 + 2 : Int32).toNatClampNeg)]) (rest := [.int r_4]) (n := 2) dL_law_1192 (c_X9_after (g.2.1.2.2.2 (x3 + 1 : Int32).toNatClampNeg) (g.2.1.2.2.2 (x3 + 2 : Int32).toNatClampNeg)  _ _ h) (by decide) rfl tb_6_63 tb_6_60 tb_1_8 tb_6_61 tb_6_62 (by decide) rfl (by decide) (by decide) (Nat.le_of_ble_eq_true rfl) rfl (fun v_r_8 S_7 hq => ?_)
  obtain ⟨r_8, rfl, h⟩ := hq
  have h := hP _ _ _ h
  dsimp only [Option.toList, List.cons_append, List.nil_append]
  refine J_icmp_eq (tgt := 1551) dL_law_1195 (by decide) (fun c_9 => ?_) (fun c_9 => ?_)
  · have h := h.1 c_9
    exact l_N_law_1551 _ _ hR18  _ _  h
  · have h := h.2 c_9
    refine J_iconst (v := 0) dL_law_1198 (by decide)  ?_
    exact J_iret dL_law_1199 rfl rfl ⟨_, rfl, h⟩
def q_N_law_1200 (L : Nat) (xs : Nat → Int32) (R18 : Int32 → Sto → Prop) (Q : Int32 → Sto → Prop) (x3 : Int32) (S : Sto) : Prop := ∃ P : Int32 → Int32 → Sto → Prop, (∀ (r_4 r_8 : Int32) (S_7 : Sto), P r_4 r_8 S_7 → ((r_4 = r_8 → q_N_law_1551 L xs R18 Q x3 S_7) ∧ (¬ r_4 = r_8 → Q 0 S_7))) ∧ vp_in (x3 + 1) L ∧ vp_in (x3 + 2) L ∧ wp_X8_book (xs (x3 + 1 : Int32).toNatClampNeg) (xs (x3 + 2 : Int32).toNatClampNeg) S (fun r_4 S_3 => wp_X9_book (xs (x3 + 1 : Int32).toNatClampNeg) (xs (x3 + 2 : Int32).toNatClampNeg) S_3 (fun r_8 S_7 => P r_4 r_8 S_7))
set_option maxRecDepth 100000 in
set_option maxHeartbeats 4000000 in
theorem l_N_law_1200 {g : Gv}  (R18 : Int32 → Sto → Prop) (Q : Int32 → Sto → Prop) (hR18 : ∀ (y3 : Int32) (S : Sto), R18 y3 S → RJ g cL_law RL (some .boolean) 4 10 18 [(0, .ref g.2.1.2.1), (1, .ref (g.1 + 0)), (2, .ref (g.1 + 353)), (3, .int y3)] [] S (Qi Q))  (x3 : Int32) (S : Sto)  (h : q_N_law_1200 g.2.1.2.2.1 g.2.1.2.2.2 R18 Q x3 S) : RJ g cL_law RL (some .boolean) 4 10 1200 [(0, .ref g.2.1.2.1), (1, .ref (g.1 + 0)), (2, .ref (g.1 + 353)), (3, .int x3)] [] S (Qi Q) := by
  unfold q_N_law_1200 at h
  obtain ⟨P, hP, h⟩ := h
  refine J_aload_n dL_law_1200 rfl 1 rfl  ?_
  refine J_aload_n dL_law_1201 rfl 0 rfl  ?_
  refine J_iload_n dL_law_1202 rfl 3 rfl  ?_
  refine J_iconst (v := 1) dL_law_1203 (by decide)  ?_
  refine J_iadd dL_law_1204  ?_
  obtain ⟨hi_1, h⟩ := h
  refine J_sld dL_law_1205 hi_1  ?_
  refine J_aload_n dL_law_1206 rfl 0 rfl  ?_
  refine J_iload_n dL_law_1207 rfl 3 rfl  ?_
  refine J_iconst (v := 2) dL_law_1208 (by decide)  ?_
  refine J_iadd dL_law_1209  ?_
  obtain ⟨hi_2, h⟩ := h
  refine J_sld dL_law_1210 hi_2  ?_
  refine J_callV (h := 0) (ci := 6) (As := [.int (g.2.1.2.2.2 (x3 + 1 : Int32).toNatClampNeg), .int (g.2.1.2.2.2 (x3 + 2 : Int32).toNatClampNeg)]) (rest := []) (n := 2) dL_law_1211 (c_X8_book (g.2.1.2.2.2 (x3 + 1 : Int32).toNatClampNeg) (g.2.1.2.2.2 (x3 + 2 : Int32).toNatClampNeg)  _ _ h) (by decide) rfl tb_4_17 tb_4_14 tb_1_1 tb_4_15 tb_4_16 (by decide) rfl (by decide) (by decide) (Nat.le_of_ble_eq_true rfl) rfl (fun v_r_4 S_3 hq => ?_)
  obtain ⟨r_4, rfl, h⟩ := hq
  dsimp only [Option.toList, List.cons_append, List.nil_append]
  refine J_aload_n dL_law_1214 rfl 2 rfl  ?_
  refine J_aload_n dL_law_1215 rfl 0 rfl  ?_
  refine J_iload_n dL_law_1216 rfl 3 rfl  ?_
  refine J_iconst (v := 1) dL_law_1217 (by decide)  ?_
  refine J_iadd dL_law_1218  ?_
  refine J_sld dL_law_1219 hi_1  ?_
  refine J_aload_n dL_law_1220 rfl 0 rfl  ?_
  refine J_iload_n dL_law_1221 rfl 3 rfl  ?_
  refine J_iconst (v := 2) dL_law_1222 (by decide)  ?_
  refine J_iadd dL_law_1223  ?_
  refine J_sld dL_law_1224 hi_2  ?_
  refine J_callV (h := 353) (ci := 7) (As := [.int (g.2.1.2.2.2 (x3 + 1 : Int32).toNatClampNeg), .int (g.2.1.2.2.2 (x3 + 2 : Int32).toNatClampNeg)]) (rest := [.int r_4]) (n := 2) dL_law_1225 (c_X9_book (g.2.1.2.2.2 (x3 + 1 : Int32).toNatClampNeg) (g.2.1.2.2.2 (x3 + 2 : Int32).toNatClampNeg)  _ _ h) (by decide) rfl tb_6_79 tb_6_76 tb_1_8 tb_6_77 tb_6_78 (by decide) rfl (by decide) (by decide) (Nat.le_of_ble_eq_true rfl) rfl (fun v_r_8 S_7 hq => ?_)
  obtain ⟨r_8, rfl, h⟩ := hq
  have h := hP _ _ _ h
  dsimp only [Option.toList, List.cons_append, List.nil_append]
  refine J_icmp_eq (tgt := 1551) dL_law_1228 (by decide) (fun c_9 => ?_) (fun c_9 => ?_)
  · have h := h.1 c_9
    exact l_N_law_1551 _ _ hR18  _ _  h
  · have h := h.2 c_9
    refine J_iconst (v := 0) dL_law_1231 (by decide)  ?_
    exact J_iret dL_law_1232 rfl rfl ⟨_, rfl, h⟩
def q_N_law_1233 (L : Nat) (xs : Nat → Int32) (R18 : Int32 → Sto → Prop) (Q : Int32 → Sto → Prop) (x3 : Int32) (S : Sto) : Prop := ∃ P : Int32 → Int32 → Sto → Prop, (∀ (r_2 r_4 : Int32) (S_3 : Sto), P r_2 r_4 S_3 → ((r_2 = r_4 → q_N_law_1551 L xs R18 Q x3 S_3) ∧ (¬ r_2 = r_4 → Q 0 S_3))) ∧ wp_X8_looked  S (fun r_2 S_1 => wp_X9_looked  S_1 (fun r_4 S_3 => P r_2 r_4 S_3))
set_option maxRecDepth 100000 in
set_option maxHeartbeats 4000000 in
theorem l_N_law_1233 {g : Gv}  (R18 : Int32 → Sto → Prop) (Q : Int32 → Sto → Prop) (hR18 : ∀ (y3 : Int32) (S : Sto), R18 y3 S → RJ g cL_law RL (some .boolean) 4 10 18 [(0, .ref g.2.1.2.1), (1, .ref (g.1 + 0)), (2, .ref (g.1 + 353)), (3, .int y3)] [] S (Qi Q))  (x3 : Int32) (S : Sto)  (h : q_N_law_1233 g.2.1.2.2.1 g.2.1.2.2.2 R18 Q x3 S) : RJ g cL_law RL (some .boolean) 4 10 1233 [(0, .ref g.2.1.2.1), (1, .ref (g.1 + 0)), (2, .ref (g.1 + 353)), (3, .int x3)] [] S (Qi Q) := by
  unfold q_N_law_1233 at h
  obtain ⟨P, hP, h⟩ := h
  refine J_aload_n dL_law_1233 rfl 1 rfl  ?_
  refine J_callV (h := 0) (ci := 6) (As := []) (rest := []) (n := 0) dL_law_1234 (c_X8_looked   _ _ h) (by decide) rfl tb_4_30 tb_4_27 tb_1_1 tb_4_28 tb_4_29 (by decide) rfl (by decide) (by decide) (Nat.le_of_ble_eq_true rfl) rfl (fun v_r_2 S_1 hq => ?_)
  obtain ⟨r_2, rfl, h⟩ := hq
  dsimp only [Option.toList, List.cons_append, List.nil_append]
  refine J_aload_n dL_law_1237 rfl 2 rfl  ?_
  refine J_callV (h := 353) (ci := 7) (As := []) (rest := [.int r_2]) (n := 0) dL_law_1238 (c_X9_looked   _ _ h) (by decide) rfl tb_6_89 tb_6_86 tb_1_8 tb_6_87 tb_6_88 (by decide) rfl (by decide) (by decide) (Nat.le_of_ble_eq_true rfl) rfl (fun v_r_4 S_3 hq => ?_)
  obtain ⟨r_4, rfl, h⟩ := hq
  have h := hP _ _ _ h
  dsimp only [Option.toList, List.cons_append, List.nil_append]
  refine J_icmp_eq (tgt := 1551) dL_law_1241 (by decide) (fun c_5 => ?_) (fun c_5 => ?_)
  · have h := h.1 c_5
    exact l_N_law_1551 _ _ hR18  _ _  h
  · have h := h.2 c_5
    refine J_iconst (v := 0) dL_law_1244 (by decide)  ?_
    exact J_iret dL_law_1245 rfl rfl ⟨_, rfl, h⟩
def q_N_law_1246 (L : Nat) (xs : Nat → Int32) (R18 : Int32 → Sto → Prop) (Q : Int32 → Sto → Prop) (x3 : Int32) (S : Sto) : Prop := ∃ P : Int32 → Int32 → Sto → Prop, (∀ (r_5 r_10 : Int32) (S_9 : Sto), P r_5 r_10 S_9 → ((r_5 = r_10 → q_N_law_1551 L xs R18 Q x3 S_9) ∧ (¬ r_5 = r_10 → Q 0 S_9))) ∧ vp_in (x3 + 1) L ∧ vp_in (x3 + 2) L ∧ vp_in (x3 + 3) L ∧ wp_X8_judge (xs (x3 + 1 : Int32).toNatClampNeg) (xs (x3 + 2 : Int32).toNatClampNeg) (xs (x3 + 3 : Int32).toNatClampNeg) S (fun r_5 S_4 => wp_X9_judge (xs (x3 + 1 : Int32).toNatClampNeg) (xs (x3 + 2 : Int32).toNatClampNeg) (xs (x3 + 3 : Int32).toNatClampNeg) S_4 (fun r_10 S_9 => P r_5 r_10 S_9))
set_option maxRecDepth 100000 in
set_option maxHeartbeats 4000000 in
theorem l_N_law_1246 {g : Gv}  (R18 : Int32 → Sto → Prop) (Q : Int32 → Sto → Prop) (hR18 : ∀ (y3 : Int32) (S : Sto), R18 y3 S → RJ g cL_law RL (some .boolean) 4 10 18 [(0, .ref g.2.1.2.1), (1, .ref (g.1 + 0)), (2, .ref (g.1 + 353)), (3, .int y3)] [] S (Qi Q))  (x3 : Int32) (S : Sto)  (h : q_N_law_1246 g.2.1.2.2.1 g.2.1.2.2.2 R18 Q x3 S) : RJ g cL_law RL (some .boolean) 4 10 1246 [(0, .ref g.2.1.2.1), (1, .ref (g.1 + 0)), (2, .ref (g.1 + 353)), (3, .int x3)] [] S (Qi Q) := by
  unfold q_N_law_1246 at h
  obtain ⟨P, hP, h⟩ := h
  refine J_aload_n dL_law_1246 rfl 1 rfl  ?_
  refine J_aload_n dL_law_1247 rfl 0 rfl  ?_
  refine J_iload_n dL_law_1248 rfl 3 rfl  ?_
  refine J_iconst (v := 1) dL_law_1249 (by decide)  ?_
  refine J_iadd dL_law_1250  ?_
  obtain ⟨hi_1, h⟩ := h
  refine J_sld dL_law_1251 hi_1  ?_
  refine J_aload_n dL_law_1252 rfl 0 rfl  ?_
  refine J_iload_n dL_law_1253 rfl 3 rfl  ?_
  refine J_iconst (v := 2) dL_law_1254 (by decide)  ?_
  refine J_iadd dL_law_1255  ?_
  obtain ⟨hi_2, h⟩ := h
  refine J_sld dL_law_1256 hi_2  ?_
  refine J_aload_n dL_law_1257 rfl 0 rfl  ?_
  refine J_iload_n dL_law_1258 rfl 3 rfl  ?_
  refine J_iconst (v := 3) dL_law_1259 (by decide)  ?_
  refine J_iadd dL_law_1260  ?_
  obtain ⟨hi_3, h⟩ := h
  refine J_sld dL_law_1261 hi_3  ?_
  refine J_callV (h := 0) (ci := 6) (As := [.int (g.2.1.2.2.2 (x3 + 1 : Int32).toNatClampNeg), .int (g.2.1.2.2.2 (x3 + 2 : Int32).toNatClampNeg), .int (g.2.1.2.2.2 (x3 + 3 : Int32).toNatClampNeg)]) (rest := []) (n := 3) dL_law_1262 (c_X8_judge (g.2.1.2.2.2 (x3 + 1 : Int32).toNatClampNeg) (g.2.1.2.2.2 (x3 + 2 : Int32).toNatClampNeg) (g.2.1.2.2.2 (x3 + 3 : Int32).toNatClampNeg)  _ _ h) (by decide) rfl tb_4_34 tb_4_31 tb_1_1 tb_4_32 tb_4_33 (by decide) rfl (by decide) (by decide) (Nat.le_of_ble_eq_true rfl) rfl (fun v_r_5 S_4 hq => ?_)
  obtain ⟨r_5, rfl, h⟩ := hq
  dsimp only [Option.toList, List.cons_append, List.nil_append]
  refine J_aload_n dL_law_1265 rfl 2 rfl  ?_
  refine J_aload_n dL_law_1266 rfl 0 rfl  ?_
  refine J_iload_n dL_law_1267 rfl 3 rfl  ?_
  refine J_iconst (v := 1) dL_law_1268 (by decide)  ?_
  refine J_iadd dL_law_1269  ?_
  refine J_sld dL_law_1270 hi_1  ?_
  refine J_aload_n dL_law_1271 rfl 0 rfl  ?_
  refine J_iload_n dL_law_1272 rfl 3 rfl  ?_
  refine J_iconst (v := 2) dL_law_1273 (by decide)  ?_
  refine J_iadd dL_law_1274  ?_
  refine J_sld dL_law_1275 hi_2  ?_
  refine J_aload_n dL_law_1276 rfl 0 rfl  ?_
  refine J_iload_n dL_law_1277 rfl 3 rfl  ?_
  refine J_iconst (v := 3) dL_law_1278 (by decide)  ?_
  refine J_iadd dL_law_1279  ?_
  refine J_sld dL_law_1280 hi_3  ?_
  refine J_callV (h := 353) (ci := 7) (As := [.int (g.2.1.2.2.2 (x3 + 1 : Int32).toNatClampNeg), .int (g.2.1.2.2.2 (x3 + 2 : Int32).toNatClampNeg), .int (g.2.1.2.2.2 (x3 + 3 : Int32).toNatClampNeg)]) (rest := [.int r_5]) (n := 3) dL_law_1281 (c_X9_judge (g.2.1.2.2.2 (x3 + 1 : Int32).toNatClampNeg) (g.2.1.2.2.2 (x3 + 2 : Int32).toNatClampNeg) (g.2.1.2.2.2 (x3 + 3 : Int32).toNatClampNeg)  _ _ h) (by decide) rfl tb_6_93 tb_6_90 tb_1_8 tb_6_91 tb_6_92 (by decide) rfl (by decide) (by decide) (Nat.le_of_ble_eq_true rfl) rfl (fun v_r_10 S_9 hq => ?_)
  obtain ⟨r_10, rfl, h⟩ := hq
  have h := hP _ _ _ h
  dsimp only [Option.toList, List.cons_append, List.nil_append]
  refine J_icmp_eq (tgt := 1551) dL_law_1284 (by decide) (fun c_11 => ?_) (fun c_11 => ?_)
  · have h := h.1 c_11
    exact l_N_law_1551 _ _ hR18  _ _  h
  · have h := h.2 c_11
    refine J_iconst (v := 0) dL_law_1287 (by decide)  ?_
    exact J_iret dL_law_1288 rfl rfl ⟨_, rfl, h⟩
def q_N_law_1289 (L : Nat) (xs : Nat → Int32) (R18 : Int32 → Sto → Prop) (Q : Int32 → Sto → Prop) (x3 : Int32) (S : Sto) : Prop := ∃ P : Int32 → Int32 → Sto → Prop, (∀ (r_2 r_4 : Int32) (S_3 : Sto), P r_2 r_4 S_3 → ((r_2 = r_4 → q_N_law_1551 L xs R18 Q x3 S_3) ∧ (¬ r_2 = r_4 → Q 0 S_3))) ∧ wp_X8_image  S (fun r_2 S_1 => wp_X9_image  S_1 (fun r_4 S_3 => P r_2 r_4 S_3))
set_option maxRecDepth 100000 in
set_option maxHeartbeats 4000000 in
theorem l_N_law_1289 {g : Gv}  (R18 : Int32 → Sto → Prop) (Q : Int32 → Sto → Prop) (hR18 : ∀ (y3 : Int32) (S : Sto), R18 y3 S → RJ g cL_law RL (some .boolean) 4 10 18 [(0, .ref g.2.1.2.1), (1, .ref (g.1 + 0)), (2, .ref (g.1 + 353)), (3, .int y3)] [] S (Qi Q))  (x3 : Int32) (S : Sto)  (h : q_N_law_1289 g.2.1.2.2.1 g.2.1.2.2.2 R18 Q x3 S) : RJ g cL_law RL (some .boolean) 4 10 1289 [(0, .ref g.2.1.2.1), (1, .ref (g.1 + 0)), (2, .ref (g.1 + 353)), (3, .int x3)] [] S (Qi Q) := by
  unfold q_N_law_1289 at h
  obtain ⟨P, hP, h⟩ := h
  refine J_aload_n dL_law_1289 rfl 1 rfl  ?_
  refine J_callV (h := 0) (ci := 6) (As := []) (rest := []) (n := 0) dL_law_1290 (c_X8_image   _ _ h) (by decide) rfl tb_4_54 tb_4_51 tb_1_1 tb_4_52 tb_4_53 (by decide) rfl (by decide) (by decide) (Nat.le_of_ble_eq_true rfl) rfl (fun v_r_2 S_1 hq => ?_)
  obtain ⟨r_2, rfl, h⟩ := hq
  dsimp only [Option.toList, List.cons_append, List.nil_append]
  refine J_aload_n dL_law_1293 rfl 2 rfl  ?_
  refine J_callV (h := 353) (ci := 7) (As := []) (rest := [.int r_2]) (n := 0) dL_law_1294 (c_X9_image   _ _ h) (by decide) rfl tb_6_100 tb_6_97 tb_1_8 tb_6_98 tb_6_99 (by decide) rfl (by decide) (by decide) (Nat.le_of_ble_eq_true rfl) rfl (fun v_r_4 S_3 hq => ?_)
  obtain ⟨r_4, rfl, h⟩ := hq
  have h := hP _ _ _ h
  dsimp only [Option.toList, List.cons_append, List.nil_append]
  refine J_icmp_eq (tgt := 1551) dL_law_1297 (by decide) (fun c_5 => ?_) (fun c_5 => ?_)
  · have h := h.1 c_5
    exact l_N_law_1551 _ _ hR18  _ _  h
  · have h := h.2 c_5
    refine J_iconst (v := 0) dL_law_1300 (by decide)  ?_
    exact J_iret dL_law_1301 rfl rfl ⟨_, rfl, h⟩
def q_N_law_1302 (L : Nat) (xs : Nat → Int32) (R18 : Int32 → Sto → Prop) (Q : Int32 → Sto → Prop) (x3 : Int32) (S : Sto) : Prop := ∃ P : Int32 → Int32 → Sto → Prop, (∀ (r_2 r_4 : Int32) (S_3 : Sto), P r_2 r_4 S_3 → ((r_2 = r_4 → q_N_law_1551 L xs R18 Q x3 S_3) ∧ (¬ r_2 = r_4 → Q 0 S_3))) ∧ wp_X8_undo  S (fun r_2 S_1 => wp_X9_undo  S_1 (fun r_4 S_3 => P r_2 r_4 S_3))
set_option maxRecDepth 100000 in
set_option maxHeartbeats 4000000 in
theorem l_N_law_1302 {g : Gv}  (R18 : Int32 → Sto → Prop) (Q : Int32 → Sto → Prop) (hR18 : ∀ (y3 : Int32) (S : Sto), R18 y3 S → RJ g cL_law RL (some .boolean) 4 10 18 [(0, .ref g.2.1.2.1), (1, .ref (g.1 + 0)), (2, .ref (g.1 + 353)), (3, .int y3)] [] S (Qi Q))  (x3 : Int32) (S : Sto)  (h : q_N_law_1302 g.2.1.2.2.1 g.2.1.2.2.2 R18 Q x3 S) : RJ g cL_law RL (some .boolean) 4 10 1302 [(0, .ref g.2.1.2.1), (1, .ref (g.1 + 0)), (2, .ref (g.1 + 353)), (3, .int x3)] [] S (Qi Q) := by
  unfold q_N_law_1302 at h
  obtain ⟨P, hP, h⟩ := h
  refine J_aload_n dL_law_1302 rfl 1 rfl  ?_
  refine J_callV (h := 0) (ci := 6) (As := []) (rest := []) (n := 0) dL_law_1303 (c_X8_undo   _ _ h) (by decide) rfl tb_4_62 tb_4_59 tb_1_1 tb_4_60 tb_4_61 (by decide) rfl (by decide) (by decide) (Nat.le_of_ble_eq_true rfl) rfl (fun v_r_2 S_1 hq => ?_)
  obtain ⟨r_2, rfl, h⟩ := hq
  dsimp only [Option.toList, List.cons_append, List.nil_append]
  refine J_aload_n dL_law_1306 rfl 2 rfl  ?_
  refine J_callV (h := 353) (ci := 7) (As := []) (rest := [.int r_2]) (n := 0) dL_law_1307 (c_X9_undo   _ _ h) (by decide) rfl tb_6_104 tb_6_101 tb_1_8 tb_6_102 tb_6_103 (by decide) rfl (by decide) (by decide) (Nat.le_of_ble_eq_true rfl) rfl (fun v_r_4 S_3 hq => ?_)
  obtain ⟨r_4, rfl, h⟩ := hq
  have h := hP _ _ _ h
  dsimp only [Option.toList, List.cons_append, List.nil_append]
  refine J_icmp_eq (tgt := 1551) dL_law_1310 (by decide) (fun c_5 => ?_) (fun c_5 => ?_)
  · have h := h.1 c_5
    exact l_N_law_1551 _ _ hR18  _ _  h
  · have h := h.2 c_5
    refine J_iconst (v := 0) dL_law_1313 (by decide)  ?_
    exact J_iret dL_law_1314 rfl rfl ⟨_, rfl, h⟩
def q_N_law_1315 (L : Nat) (xs : Nat → Int32) (R18 : Int32 → Sto → Prop) (Q : Int32 → Sto → Prop) (x3 : Int32) (S : Sto) : Prop := ∃ P : Int32 → Int32 → Sto → Prop, (∀ (r_3 r_6 : Int32) (S_5 : Sto), P r_3 r_6 S_5 → ((r_3 = r_6 → q_N_law_1551 L xs R18 Q x3 S_5) ∧ (¬ r_3 = r_6 → Q 0 S_5))) ∧ vp_in (x3 + 1) L ∧ wp_X8_counted (xs (x3 + 1 : Int32).toNatClampNeg) S (fun r_3 S_2 => wp_X9_counted (xs (x3 + 1 : Int32).toNatClampNeg) S_2 (fun r_6 S_5 => P r_3 r_6 S_5))
set_option maxRecDepth 100000 in
set_option maxHeartbeats 4000000 in
theorem l_N_law_1315 {g : Gv}  (R18 : Int32 → Sto → Prop) (Q : Int32 → Sto → Prop) (hR18 : ∀ (y3 : Int32) (S : Sto), R18 y3 S → RJ g cL_law RL (some .boolean) 4 10 18 [(0, .ref g.2.1.2.1), (1, .ref (g.1 + 0)), (2, .ref (g.1 + 353)), (3, .int y3)] [] S (Qi Q))  (x3 : Int32) (S : Sto)  (h : q_N_law_1315 g.2.1.2.2.1 g.2.1.2.2.2 R18 Q x3 S) : RJ g cL_law RL (some .boolean) 4 10 1315 [(0, .ref g.2.1.2.1), (1, .ref (g.1 + 0)), (2, .ref (g.1 + 353)), (3, .int x3)] [] S (Qi Q) := by
  unfold q_N_law_1315 at h
  obtain ⟨P, hP, h⟩ := h
  refine J_aload_n dL_law_1315 rfl 1 rfl  ?_
  refine J_aload_n dL_law_1316 rfl 0 rfl  ?_
  refine J_iload_n dL_law_1317 rfl 3 rfl  ?_
  refine J_iconst (v := 1) dL_law_1318 (by decide)  ?_
  refine J_iadd dL_law_1319  ?_
  obtain ⟨hi_1, h⟩ := h
  refine J_sld dL_law_1320 hi_1  ?_
  refine J_callV (h := 0) (ci := 6) (As := [.int (g.2.1.2.2.2 (x3 + 1 : Int32).toNatClampNeg)]) (rest := []) (n := 1) dL_law_1321 (c_X8_counted (g.2.1.2.2.2 (x3 + 1 : Int32).toNatClampNeg)  _ _ h) (by decide) rfl tb_4_66 tb_4_63 tb_1_1 tb_4_64 tb_4_65 (by decide) rfl (by decide) (by decide) (Nat.le_of_ble_eq_true rfl) rfl (fun v_r_3 S_2 hq => ?_)
  obtain ⟨r_3, rfl, h⟩ := hq
  dsimp only [Option.toList, List.cons_append, List.nil_append]
  refine J_aload_n dL_law_1324 rfl 2 rfl  ?_
  refine J_aload_n dL_law_1325 rfl 0 rfl  ?_
  refine J_iload_n dL_law_1326 rfl 3 rfl  ?_
  refine J_iconst (v := 1) dL_law_1327 (by decide)  ?_
  refine J_iadd dL_law_1328  ?_
  refine J_sld dL_law_1329 hi_1  ?_
  refine J_callV (h := 353) (ci := 7) (As := [.int (g.2.1.2.2.2 (x3 + 1 : Int32).toNatClampNeg)]) (rest := [.int r_3]) (n := 1) dL_law_1330 (c_X9_counted (g.2.1.2.2.2 (x3 + 1 : Int32).toNatClampNeg)  _ _ h) (by decide) rfl tb_6_108 tb_6_105 tb_1_8 tb_6_106 tb_6_107 (by decide) rfl (by decide) (by decide) (Nat.le_of_ble_eq_true rfl) rfl (fun v_r_6 S_5 hq => ?_)
  obtain ⟨r_6, rfl, h⟩ := hq
  have h := hP _ _ _ h
  dsimp only [Option.toList, List.cons_append, List.nil_append]
  refine J_icmp_eq (tgt := 1551) dL_law_1333 (by decide) (fun c_7 => ?_) (fun c_7 => ?_)
  · have h := h.1 c_7
    exact l_N_law_1551 _ _ hR18  _ _  h
  · have h := h.2 c_7
    refine J_iconst (v := 0) dL_law_1336 (by decide)  ?_
    exact J_iret dL_law_1337 rfl rfl ⟨_, rfl, h⟩
def q_N_law_1338 (L : Nat) (xs : Nat → Int32) (R18 : Int32 → Sto → Prop) (Q : Int32 → Sto → Prop) (x3 : Int32) (S : Sto) : Prop := ∃ P : Int32 → Int32 → Sto → Prop, (∀ (r_5 r_10 : Int32) (S_9 : Sto), P r_5 r_10 S_9 → ((r_5 = r_10 → q_N_law_1551 L xs R18 Q x3 S_9) ∧ (¬ r_5 = r_10 → Q 0 S_9))) ∧ vp_in (x3 + 1) L ∧ vp_in (x3 + 2) L ∧ vp_in (x3 + 3) L ∧ wp_X8_tape (xs (x3 + 1 : Int32).toNatClampNeg) (xs (x3 + 2 : Int32).toNatClampNeg) (xs (x3 + 3 : Int32).toNatClampNeg) S (fun r_5 S_4 => wp_X9_tape (xs (x3 + 1 : Int32).toNatClampNeg) (xs (x3 + 2 : Int32).toNatClampNeg) (xs (x3 + 3 : Int32).toNatClampNeg) S_4 (fun r_10 S_9 => P r_5 r_10 S_9))
set_option maxRecDepth 100000 in
set_option maxHeartbeats 4000000 in
theorem l_N_law_1338 {g : Gv}  (R18 : Int32 → Sto → Prop) (Q : Int32 → Sto → Prop) (hR18 : ∀ (y3 : Int32) (S : Sto), R18 y3 S → RJ g cL_law RL (some .boolean) 4 10 18 [(0, .ref g.2.1.2.1), (1, .ref (g.1 + 0)), (2, .ref (g.1 + 353)), (3, .int y3)] [] S (Qi Q))  (x3 : Int32) (S : Sto)  (h : q_N_law_1338 g.2.1.2.2.1 g.2.1.2.2.2 R18 Q x3 S) : RJ g cL_law RL (some .boolean) 4 10 1338 [(0, .ref g.2.1.2.1), (1, .ref (g.1 + 0)), (2, .ref (g.1 + 353)), (3, .int x3)] [] S (Qi Q) := by
  unfold q_N_law_1338 at h
  obtain ⟨P, hP, h⟩ := h
  refine J_aload_n dL_law_1338 rfl 1 rfl  ?_
  refine J_aload_n dL_law_1339 rfl 0 rfl  ?_
  refine J_iload_n dL_law_1340 rfl 3 rfl  ?_
  refine J_iconst (v := 1) dL_law_1341 (by decide)  ?_
  refine J_iadd dL_law_1342  ?_
  obtain ⟨hi_1, h⟩ := h
  refine J_sld dL_law_1343 hi_1  ?_
  refine J_aload_n dL_law_1344 rfl 0 rfl  ?_
  refine J_iload_n dL_law_1345 rfl 3 rfl  ?_
  refine J_iconst (v := 2) dL_law_1346 (by decide)  ?_
  refine J_iadd dL_law_1347  ?_
  obtain ⟨hi_2, h⟩ := h
  refine J_sld dL_law_1348 hi_2  ?_
  refine J_aload_n dL_law_1349 rfl 0 rfl  ?_
  refine J_iload_n dL_law_1350 rfl 3 rfl  ?_
  refine J_iconst (v := 3) dL_law_1351 (by decide)  ?_
  refine J_iadd dL_law_1352  ?_
  obtain ⟨hi_3, h⟩ := h
  refine J_sld dL_law_1353 hi_3  ?_
  refine J_callV (h := 0) (ci := 6) (As := [.int (g.2.1.2.2.2 (x3 + 1 : Int32).toNatClampNeg), .int (g.2.1.2.2.2 (x3 + 2 : Int32).toNatClampNeg), .int (g.2.1.2.2.2 (x3 + 3 : Int32).toNatClampNeg)]) (rest := []) (n := 3) dL_law_1354 (c_X8_tape (g.2.1.2.2.2 (x3 + 1 : Int32).toNatClampNeg) (g.2.1.2.2.2 (x3 + 2 : Int32).toNatClampNeg) (g.2.1.2.2.2 (x3 + 3 : Int32).toNatClampNeg)  _ _ h) (by decide) rfl tb_4_70 tb_4_67 tb_1_1 tb_4_68 tb_4_69 (by decide) rfl (by decide) (by decide) (Nat.le_of_ble_eq_true rfl) rfl (fun v_r_5 S_4 hq => ?_)
  obtain ⟨r_5, rfl, h⟩ := hq
  dsimp only [Option.toList, List.cons_append, List.nil_append]
  refine J_aload_n dL_law_1357 rfl 2 rfl  ?_
  refine J_aload_n dL_law_1358 rfl 0 rfl  ?_
  refine J_iload_n dL_law_1359 rfl 3 rfl  ?_
  refine J_iconst (v := 1) dL_law_1360 (by decide)  ?_
  refine J_iadd dL_law_1361  ?_
  refine J_sld dL_law_1362 hi_1  ?_
  refine J_aload_n dL_law_1363 rfl 0 rfl  ?_
  refine J_iload_n dL_law_1364 rfl 3 rfl  ?_
  refine J_iconst (v := 2) dL_law_1365 (by decide)  ?_
  refine J_iadd dL_law_1366  ?_
  refine J_sld dL_law_1367 hi_2  ?_
  refine J_aload_n dL_law_1368 rfl 0 rfl  ?_
  refine J_iload_n dL_law_1369 rfl 3 rfl  ?_
  refine J_iconst (v := 3) dL_law_1370 (by decide)  ?_
  refine J_iadd dL_law_1371  ?_
  refine J_sld dL_law_1372 hi_3  ?_
  refine J_callV (h := 353) (ci := 7) (As := [.int (g.2.1.2.2.2 (x3 + 1 : Int32).toNatClampNeg), .int (g.2.1.2.2.2 (x3 + 2 : Int32).toNatClampNeg), .int (g.2.1.2.2.2 (x3 + 3 : Int32).toNatClampNeg)]) (rest := [.int r_5]) (n := 3) dL_law_1373 (c_X9_tape (g.2.1.2.2.2 (x3 + 1 : Int32).toNatClampNeg) (g.2.1.2.2.2 (x3 + 2 : Int32).toNatClampNeg) (g.2.1.2.2.2 (x3 + 3 : Int32).toNatClampNeg)  _ _ h) (by decide) rfl tb_6_112 tb_6_109 tb_1_8 tb_6_110 tb_6_111 (by decide) rfl (by decide) (by decide) (Nat.le_of_ble_eq_true rfl) rfl (fun v_r_10 S_9 hq => ?_)
  obtain ⟨r_10, rfl, h⟩ := hq
  have h := hP _ _ _ h
  dsimp only [Option.toList, List.cons_append, List.nil_append]
  refine J_icmp_eq (tgt := 1551) dL_law_1376 (by decide) (fun c_11 => ?_) (fun c_11 => ?_)
  · have h := h.1 c_11
    exact l_N_law_1551 _ _ hR18  _ _  h
  · have h := h.2 c_11
    refine J_iconst (v := 0) dL_law_1379 (by decide)  ?_
    exact J_iret dL_law_1380 rfl rfl ⟨_, rfl, h⟩
def q_N_law_1381 (L : Nat) (xs : Nat → Int32) (R18 : Int32 → Sto → Prop) (Q : Int32 → Sto → Prop) (x3 : Int32) (S : Sto) : Prop := ∃ P : Int32 → Int32 → Sto → Prop, (∀ (r_6 r_12 : Int32) (S_11 : Sto), P r_6 r_12 S_11 → ((r_6 = r_12 → q_N_law_1551 L xs R18 Q x3 S_11) ∧ (¬ r_6 = r_12 → Q 0 S_11))) ∧ vp_in (x3 + 1) L ∧ vp_in (x3 + 2) L ∧ vp_in (x3 + 3) L ∧ vp_in (x3 + 4) L ∧ wp_X8_item (xs (x3 + 1 : Int32).toNatClampNeg) (xs (x3 + 2 : Int32).toNatClampNeg) ((((xs (x3 + 3 : Int32).toNatClampNeg : Int32).toInt64) <<< ((32 : Int32).toInt64 &&& 63)) ||| (((xs (x3 + 4 : Int32).toNatClampNeg : Int32).toInt64) &&& 4294967295)) S (fun r_6 S_5 => wp_X9_item (xs (x3 + 1 : Int32).toNatClampNeg) (xs (x3 + 2 : Int32).toNatClampNeg) ((((xs (x3 + 3 : Int32).toNatClampNeg : Int32).toInt64) <<< ((32 : Int32).toInt64 &&& 63)) ||| (((xs (x3 + 4 : Int32).toNatClampNeg : Int32).toInt64) &&& 4294967295)) S_5 (fun r_12 S_11 => P r_6 r_12 S_11))
set_option maxRecDepth 100000 in
set_option maxHeartbeats 4000000 in
theorem l_N_law_1381 {g : Gv}  (R18 : Int32 → Sto → Prop) (Q : Int32 → Sto → Prop) (hR18 : ∀ (y3 : Int32) (S : Sto), R18 y3 S → RJ g cL_law RL (some .boolean) 4 10 18 [(0, .ref g.2.1.2.1), (1, .ref (g.1 + 0)), (2, .ref (g.1 + 353)), (3, .int y3)] [] S (Qi Q))  (x3 : Int32) (S : Sto)  (h : q_N_law_1381 g.2.1.2.2.1 g.2.1.2.2.2 R18 Q x3 S) : RJ g cL_law RL (some .boolean) 4 10 1381 [(0, .ref g.2.1.2.1), (1, .ref (g.1 + 0)), (2, .ref (g.1 + 353)), (3, .int x3)] [] S (Qi Q) := by
  unfold q_N_law_1381 at h
  obtain ⟨P, hP, h⟩ := h
  refine J_aload_n dL_law_1381 rfl 1 rfl  ?_
  refine J_aload_n dL_law_1382 rfl 0 rfl  ?_
  refine J_iload_n dL_law_1383 rfl 3 rfl  ?_
  refine J_iconst (v := 1) dL_law_1384 (by decide)  ?_
  refine J_iadd dL_law_1385  ?_
  obtain ⟨hi_1, h⟩ := h
  refine J_sld dL_law_1386 hi_1  ?_
  refine J_aload_n dL_law_1387 rfl 0 rfl  ?_
  refine J_iload_n dL_law_1388 rfl 3 rfl  ?_
  refine J_iconst (v := 2) dL_law_1389 (by decide)  ?_
  refine J_iadd dL_law_1390  ?_
  obtain ⟨hi_2, h⟩ := h
  refine J_sld dL_law_1391 hi_2  ?_
  refine J_aload_n dL_law_1392 rfl 0 rfl  ?_
  refine J_iload_n dL_law_1393 rfl 3 rfl  ?_
  refine J_iconst (v := 3) dL_law_1394 (by decide)  ?_
  refine J_iadd dL_law_1395  ?_
  obtain ⟨hi_3, h⟩ := h
  refine J_sld dL_law_1396 hi_3  ?_
  refine J_i2l dL_law_1397  ?_
  refine J_bipush (v := 32) dL_law_1398 (by decide)  ?_
  refine J_lshl dL_law_1400  ?_
  refine J_aload_n dL_law_1401 rfl 0 rfl  ?_
  refine J_iload_n dL_law_1402 rfl 3 rfl  ?_
  refine J_iconst (v := 4) dL_law_1403 (by decide)  ?_
  refine J_iadd dL_law_1404  ?_
  obtain ⟨hi_4, h⟩ := h
  refine J_sld dL_law_1405 hi_4  ?_
  refine J_i2l dL_law_1406  ?_
  refine J_ldc2 (v := 4294967295) dL_law_1407 tb_6_130  ?_
  refine J_land dL_law_1410  ?_
  refine J_lor dL_law_1411  ?_
  refine J_callV (h := 0) (ci := 6) (As := [.int (g.2.1.2.2.2 (x3 + 1 : Int32).toNatClampNeg), .int (g.2.1.2.2.2 (x3 + 2 : Int32).toNatClampNeg), .long ((((g.2.1.2.2.2 (x3 + 3 : Int32).toNatClampNeg : Int32).toInt64) <<< ((32 : Int32).toInt64 &&& 63)) ||| (((g.2.1.2.2.2 (x3 + 4 : Int32).toNatClampNeg : Int32).toInt64) &&& 4294967295))]) (rest := []) (n := 3) dL_law_1412 (c_X8_item (g.2.1.2.2.2 (x3 + 1 : Int32).toNatClampNeg) (g.2.1.2.2.2 (x3 + 2 : Int32).toNatClampNeg) ((((g.2.1.2.2.2 (x3 + 3 : Int32).toNatClampNeg : Int32).toInt64) <<< ((32 : Int32).toInt64 &&& 63)) ||| (((g.2.1.2.2.2 (x3 + 4 : Int32).toNatClampNeg : Int32).toInt64) &&& 4294967295))  _ _ h) (by decide) rfl tb_4_85 tb_4_82 tb_1_1 tb_4_83 tb_4_84 (by decide) rfl (by decide) (by decide) (Nat.le_of_ble_eq_true rfl) rfl (fun v_r_6 S_5 hq => ?_)
  obtain ⟨r_6, rfl, h⟩ := hq
  dsimp only [Option.toList, List.cons_append, List.nil_append]
  refine J_aload_n dL_law_1415 rfl 2 rfl  ?_
  refine J_aload_n dL_law_1416 rfl 0 rfl  ?_
  refine J_iload_n dL_law_1417 rfl 3 rfl  ?_
  refine J_iconst (v := 1) dL_law_1418 (by decide)  ?_
  refine J_iadd dL_law_1419  ?_
  refine J_sld dL_law_1420 hi_1  ?_
  refine J_aload_n dL_law_1421 rfl 0 rfl  ?_
  refine J_iload_n dL_law_1422 rfl 3 rfl  ?_
  refine J_iconst (v := 2) dL_law_1423 (by decide)  ?_
  refine J_iadd dL_law_1424  ?_
  refine J_sld dL_law_1425 hi_2  ?_
  refine J_aload_n dL_law_1426 rfl 0 rfl  ?_
  refine J_iload_n dL_law_1427 rfl 3 rfl  ?_
  refine J_iconst (v := 3) dL_law_1428 (by decide)  ?_
  refine J_iadd dL_law_1429  ?_
  refine J_sld dL_law_1430 hi_3  ?_
  refine J_i2l dL_law_1431  ?_
  refine J_bipush (v := 32) dL_law_1432 (by decide)  ?_
  refine J_lshl dL_law_1434  ?_
  refine J_aload_n dL_law_1435 rfl 0 rfl  ?_
  refine J_iload_n dL_law_1436 rfl 3 rfl  ?_
  refine J_iconst (v := 4) dL_law_1437 (by decide)  ?_
  refine J_iadd dL_law_1438  ?_
  refine J_sld dL_law_1439 hi_4  ?_
  refine J_i2l dL_law_1440  ?_
  refine J_ldc2 (v := 4294967295) dL_law_1441 tb_6_130  ?_
  refine J_land dL_law_1444  ?_
  refine J_lor dL_law_1445  ?_
  refine J_callV (h := 353) (ci := 7) (As := [.int (g.2.1.2.2.2 (x3 + 1 : Int32).toNatClampNeg), .int (g.2.1.2.2.2 (x3 + 2 : Int32).toNatClampNeg), .long ((((g.2.1.2.2.2 (x3 + 3 : Int32).toNatClampNeg : Int32).toInt64) <<< ((32 : Int32).toInt64 &&& 63)) ||| (((g.2.1.2.2.2 (x3 + 4 : Int32).toNatClampNeg : Int32).toInt64) &&& 4294967295))]) (rest := [.int r_6]) (n := 3) dL_law_1446 (c_X9_item (g.2.1.2.2.2 (x3 + 1 : Int32).toNatClampNeg) (g.2.1.2.2.2 (x3 + 2 : Int32).toNatClampNeg) ((((g.2.1.2.2.2 (x3 + 3 : Int32).toNatClampNeg : Int32).toInt64) <<< ((32 : Int32).toInt64 &&& 63)) ||| (((g.2.1.2.2.2 (x3 + 4 : Int32).toNatClampNeg : Int32).toInt64) &&& 4294967295))  _ _ h) (by decide) rfl tb_6_117 tb_6_114 tb_1_8 tb_6_115 tb_6_116 (by decide) rfl (by decide) (by decide) (Nat.le_of_ble_eq_true rfl) rfl (fun v_r_12 S_11 hq => ?_)
  obtain ⟨r_12, rfl, h⟩ := hq
  have h := hP _ _ _ h
  dsimp only [Option.toList, List.cons_append, List.nil_append]
  refine J_icmp_eq (tgt := 1551) dL_law_1449 (by decide) (fun c_13 => ?_) (fun c_13 => ?_)
  · have h := h.1 c_13
    exact l_N_law_1551 _ _ hR18  _ _  h
  · have h := h.2 c_13
    refine J_iconst (v := 0) dL_law_1452 (by decide)  ?_
    exact J_iret dL_law_1453 rfl rfl ⟨_, rfl, h⟩
def q_N_law_1454 (L : Nat) (xs : Nat → Int32) (R18 : Int32 → Sto → Prop) (Q : Int32 → Sto → Prop) (x3 : Int32) (S : Sto) : Prop := ∃ P : Int64 → Int64 → Sto → Prop, (∀ (r_4 r_8 : Int64) (S_7 : Sto), P r_4 r_8 S_7 → (((lg_cmp r_4 r_8) = 0 → q_N_law_1551 L xs R18 Q x3 S_7) ∧ (¬ (lg_cmp r_4 r_8) = 0 → Q 0 S_7))) ∧ vp_in (x3 + 1) L ∧ vp_in (x3 + 2) L ∧ wp_X8_peek (xs (x3 + 1 : Int32).toNatClampNeg) (xs (x3 + 2 : Int32).toNatClampNeg) S (fun r_4 S_3 => wp_X9_peek (xs (x3 + 1 : Int32).toNatClampNeg) (xs (x3 + 2 : Int32).toNatClampNeg) S_3 (fun r_8 S_7 => P r_4 r_8 S_7))
set_option maxRecDepth 100000 in
set_option maxHeartbeats 4000000 in
theorem l_N_law_1454 {g : Gv}  (R18 : Int32 → Sto → Prop) (Q : Int32 → Sto → Prop) (hR18 : ∀ (y3 : Int32) (S : Sto), R18 y3 S → RJ g cL_law RL (some .boolean) 4 10 18 [(0, .ref g.2.1.2.1), (1, .ref (g.1 + 0)), (2, .ref (g.1 + 353)), (3, .int y3)] [] S (Qi Q))  (x3 : Int32) (S : Sto)  (h : q_N_law_1454 g.2.1.2.2.1 g.2.1.2.2.2 R18 Q x3 S) : RJ g cL_law RL (some .boolean) 4 10 1454 [(0, .ref g.2.1.2.1), (1, .ref (g.1 + 0)), (2, .ref (g.1 + 353)), (3, .int x3)] [] S (Qi Q) := by
  unfold q_N_law_1454 at h
  obtain ⟨P, hP, h⟩ := h
  refine J_aload_n dL_law_1454 rfl 1 rfl  ?_
  refine J_aload_n dL_law_1455 rfl 0 rfl  ?_
  refine J_iload_n dL_law_1456 rfl 3 rfl  ?_
  refine J_iconst (v := 1) dL_law_1457 (by decide)  ?_
  refine J_iadd dL_law_1458  ?_
  obtain ⟨hi_1, h⟩ := h
  refine J_sld dL_law_1459 hi_1  ?_
  refine J_aload_n dL_law_1460 rfl 0 rfl  ?_
  refine J_iload_n dL_law_1461 rfl 3 rfl  ?_
  refine J_iconst (v := 2) dL_law_1462 (by decide)  ?_
  refine J_iadd dL_law_1463  ?_
  obtain ⟨hi_2, h⟩ := h
  refine J_sld dL_law_1464 hi_2  ?_
  refine J_callV (h := 0) (ci := 6) (As := [.int (g.2.1.2.2.2 (x3 + 1 : Int32).toNatClampNeg), .int (g.2.1.2.2.2 (x3 + 2 : Int32).toNatClampNeg)]) (rest := []) (n := 2) dL_law_1465 (c_X8_peek (g.2.1.2.2.2 (x3 + 1 : Int32).toNatClampNeg) (g.2.1.2.2.2 (x3 + 2 : Int32).toNatClampNeg)  _ _ h) (by decide) rfl tb_4_92 tb_4_89 tb_1_1 tb_4_90 tb_4_91 (by decide) rfl (by decide) (by decide) (Nat.le_of_ble_eq_true rfl) rfl (fun v_r_4 S_3 hq => ?_)
  obtain ⟨r_4, rfl, h⟩ := hq
  dsimp only [Option.toList, List.cons_append, List.nil_append]
  refine J_aload_n dL_law_1468 rfl 2 rfl  ?_
  refine J_aload_n dL_law_1469 rfl 0 rfl  ?_
  refine J_iload_n dL_law_1470 rfl 3 rfl  ?_
  refine J_iconst (v := 1) dL_law_1471 (by decide)  ?_
  refine J_iadd dL_law_1472  ?_
  refine J_sld dL_law_1473 hi_1  ?_
  refine J_aload_n dL_law_1474 rfl 0 rfl  ?_
  refine J_iload_n dL_law_1475 rfl 3 rfl  ?_
  refine J_iconst (v := 2) dL_law_1476 (by decide)  ?_
  refine J_iadd dL_law_1477  ?_
  refine J_sld dL_law_1478 hi_2  ?_
  refine J_callV (h := 353) (ci := 7) (As := [.int (g.2.1.2.2.2 (x3 + 1 : Int32).toNatClampNeg), .int (g.2.1.2.2.2 (x3 + 2 : Int32).toNatClampNeg)]) (rest := [.long r_4]) (n := 2) dL_law_1479 (c_X9_peek (g.2.1.2.2.2 (x3 + 1 : Int32).toNatClampNeg) (g.2.1.2.2.2 (x3 + 2 : Int32).toNatClampNeg)  _ _ h) (by decide) rfl tb_6_125 tb_6_122 tb_1_8 tb_6_123 tb_6_124 (by decide) rfl (by decide) (by decide) (Nat.le_of_ble_eq_true rfl) rfl (fun v_r_8 S_7 hq => ?_)
  obtain ⟨r_8, rfl, h⟩ := hq
  have h := hP _ _ _ h
  dsimp only [Option.toList, List.cons_append, List.nil_append]
  refine J_lcmp dL_law_1482  ?_
  refine J_if_eq (tgt := 1551) dL_law_1483 (by decide) (fun c_9 => ?_) (fun c_9 => ?_)
  · have h := h.1 c_9
    exact l_N_law_1551 _ _ hR18  _ _  h
  · have h := h.2 c_9
    refine J_iconst (v := 0) dL_law_1486 (by decide)  ?_
    exact J_iret dL_law_1487 rfl rfl ⟨_, rfl, h⟩
def q_N_law_1488 (L : Nat) (xs : Nat → Int32) (R18 : Int32 → Sto → Prop) (Q : Int32 → Sto → Prop) (x3 : Int32) (S : Sto) : Prop := ∃ P : Int32 → Int32 → Sto → Prop, (∀ (r_7 r_14 : Int32) (S_13 : Sto), P r_7 r_14 S_13 → ((r_7 = r_14 → q_N_law_1551 L xs R18 Q x3 S_13) ∧ (¬ r_7 = r_14 → Q 0 S_13))) ∧ vp_in (x3 + 1) L ∧ vp_in (x3 + 2) L ∧ vp_in (x3 + 3) L ∧ vp_in (x3 + 4) L ∧ vp_in (x3 + 5) L ∧ wp_X8_shift (xs (x3 + 1 : Int32).toNatClampNeg) (xs (x3 + 2 : Int32).toNatClampNeg) (xs (x3 + 3 : Int32).toNatClampNeg) (xs (x3 + 4 : Int32).toNatClampNeg) (xs (x3 + 5 : Int32).toNatClampNeg) S (fun r_7 S_6 => wp_X9_shift (xs (x3 + 1 : Int32).toNatClampNeg) (xs (x3 + 2 : Int32).toNatClampNeg) (xs (x3 + 3 : Int32).toNatClampNeg) (xs (x3 + 4 : Int32).toNatClampNeg) (xs (x3 + 5 : Int32).toNatClampNeg) S_6 (fun r_14 S_13 => P r_7 r_14 S_13))
set_option maxRecDepth 100000 in
set_option maxHeartbeats 4000000 in
theorem l_N_law_1488 {g : Gv}  (R18 : Int32 → Sto → Prop) (Q : Int32 → Sto → Prop) (hR18 : ∀ (y3 : Int32) (S : Sto), R18 y3 S → RJ g cL_law RL (some .boolean) 4 10 18 [(0, .ref g.2.1.2.1), (1, .ref (g.1 + 0)), (2, .ref (g.1 + 353)), (3, .int y3)] [] S (Qi Q))  (x3 : Int32) (S : Sto)  (h : q_N_law_1488 g.2.1.2.2.1 g.2.1.2.2.2 R18 Q x3 S) : RJ g cL_law RL (some .boolean) 4 10 1488 [(0, .ref g.2.1.2.1), (1, .ref (g.1 + 0)), (2, .ref (g.1 + 353)), (3, .int x3)] [] S (Qi Q) := by
  unfold q_N_law_1488 at h
  obtain ⟨P, hP, h⟩ := h
  refine J_aload_n dL_law_1488 rfl 1 rfl  ?_
  refine J_aload_n dL_law_1489 rfl 0 rfl  ?_
  refine J_iload_n dL_law_1490 rfl 3 rfl  ?_
  refine J_iconst (v := 1) dL_law_1491 (by decide)  ?_
  refine J_iadd dL_law_1492  ?_
  obtain ⟨hi_1, h⟩ := h
  refine J_sld dL_law_1493 hi_1  ?_
  refine J_aload_n dL_law_1494 rfl 0 rfl  ?_
  refine J_iload_n dL_law_1495 rfl 3 rfl  ?_
  refine J_iconst (v := 2) dL_law_1496 (by decide)  ?_
  refine J_iadd dL_law_1497  ?_
  obtain ⟨hi_2, h⟩ := h
  refine J_sld dL_law_1498 hi_2  ?_
  refine J_aload_n dL_law_1499 rfl 0 rfl  ?_
  refine J_iload_n dL_law_1500 rfl 3 rfl  ?_
  refine J_iconst (v := 3) dL_law_1501 (by decide)  ?_
  refine J_iadd dL_law_1502  ?_
  obtain ⟨hi_3, h⟩ := h
  refine J_sld dL_law_1503 hi_3  ?_
  refine J_aload_n dL_law_1504 rfl 0 rfl  ?_
  refine J_iload_n dL_law_1505 rfl 3 rfl  ?_
  refine J_iconst (v := 4) dL_law_1506 (by decide)  ?_
  refine J_iadd dL_law_1507  ?_
  obtain ⟨hi_4, h⟩ := h
  refine J_sld dL_law_1508 hi_4  ?_
  refine J_aload_n dL_law_1509 rfl 0 rfl  ?_
  refine J_iload_n dL_law_1510 rfl 3 rfl  ?_
  refine J_iconst (v := 5) dL_law_1511 (by decide)  ?_
  refine J_iadd dL_law_1512  ?_
  obtain ⟨hi_5, h⟩ := h
  refine J_sld dL_law_1513 hi_5  ?_
  refine J_callV (h := 0) (ci := 6) (As := [.int (g.2.1.2.2.2 (x3 + 1 : Int32).toNatClampNeg), .int (g.2.1.2.2.2 (x3 + 2 : Int32).toNatClampNeg), .int (g.2.1.2.2.2 (x3 + 3 : Int32).toNatClampNeg), .int (g.2.1.2.2.2 (x3 + 4 : Int32).toNatClampNeg), .int (g.2.1.2.2.2 (x3 + 5 : Int32).toNatClampNeg)]) (rest := []) (n := 5) dL_law_1514 (c_X8_shift (g.2.1.2.2.2 (x3 + 1 : Int32).toNatClampNeg) (g.2.1.2.2.2 (x3 + 2 : Int32).toNatClampNeg) (g.2.1.2.2.2 (x3 + 3 : Int32).toNatClampNeg) (g.2.1.2.2.2 (x3 + 4 : Int32).toNatClampNeg) (g.2.1.2.2.2 (x3 + 5 : Int32).toNatClampNeg)  _ _ h) (by decide) rfl tb_4_96 tb_4_93 tb_1_1 tb_4_94 tb_4_95 (by decide) rfl (by decide) (by decide) (Nat.le_of_ble_eq_true rfl) rfl (fun v_r_7 S_6 hq => ?_)
  obtain ⟨r_7, rfl, h⟩ := hq
  dsimp only [Option.toList, List.cons_append, List.nil_append]
  refine J_aload_n dL_law_1517 rfl 2 rfl  ?_
  refine J_aload_n dL_law_1518 rfl 0 rfl  ?_
  refine J_iload_n dL_law_1519 rfl 3 rfl  ?_
  refine J_iconst (v := 1) dL_law_1520 (by decide)  ?_
  refine J_iadd dL_law_1521  ?_
  refine J_sld dL_law_1522 hi_1  ?_
  refine J_aload_n dL_law_1523 rfl 0 rfl  ?_
  refine J_iload_n dL_law_1524 rfl 3 rfl  ?_
  refine J_iconst (v := 2) dL_law_1525 (by decide)  ?_
  refine J_iadd dL_law_1526  ?_
  refine J_sld dL_law_1527 hi_2  ?_
  refine J_aload_n dL_law_1528 rfl 0 rfl  ?_
  refine J_iload_n dL_law_1529 rfl 3 rfl  ?_
  refine J_iconst (v := 3) dL_law_1530 (by decide)  ?_
  refine J_iadd dL_law_1531  ?_
  refine J_sld dL_law_1532 hi_3  ?_
  refine J_aload_n dL_law_1533 rfl 0 rfl  ?_
  refine J_iload_n dL_law_1534 rfl 3 rfl  ?_
  refine J_iconst (v := 4) dL_law_1535 (by decide)  ?_
  refine J_iadd dL_law_1536  ?_
  refine J_sld dL_law_1537 hi_4  ?_
  refine J_aload_n dL_law_1538 rfl 0 rfl  ?_
  refine J_iload_n dL_law_1539 rfl 3 rfl  ?_
  refine J_iconst (v := 5) dL_law_1540 (by decide)  ?_
  refine J_iadd dL_law_1541  ?_
  refine J_sld dL_law_1542 hi_5  ?_
  refine J_callV (h := 353) (ci := 7) (As := [.int (g.2.1.2.2.2 (x3 + 1 : Int32).toNatClampNeg), .int (g.2.1.2.2.2 (x3 + 2 : Int32).toNatClampNeg), .int (g.2.1.2.2.2 (x3 + 3 : Int32).toNatClampNeg), .int (g.2.1.2.2.2 (x3 + 4 : Int32).toNatClampNeg), .int (g.2.1.2.2.2 (x3 + 5 : Int32).toNatClampNeg)]) (rest := [.int r_7]) (n := 5) dL_law_1543 (c_X9_shift (g.2.1.2.2.2 (x3 + 1 : Int32).toNatClampNeg) (g.2.1.2.2.2 (x3 + 2 : Int32).toNatClampNeg) (g.2.1.2.2.2 (x3 + 3 : Int32).toNatClampNeg) (g.2.1.2.2.2 (x3 + 4 : Int32).toNatClampNeg) (g.2.1.2.2.2 (x3 + 5 : Int32).toNatClampNeg)  _ _ h) (by decide) rfl tb_6_129 tb_6_126 tb_1_8 tb_6_127 tb_6_128 (by decide) rfl (by decide) (by decide) (Nat.le_of_ble_eq_true rfl) rfl (fun v_r_14 S_13 hq => ?_)
  obtain ⟨r_14, rfl, h⟩ := hq
  have h := hP _ _ _ h
  dsimp only [Option.toList, List.cons_append, List.nil_append]
  refine J_icmp_eq (tgt := 1551) dL_law_1546 (by decide) (fun c_15 => ?_) (fun c_15 => ?_)
  · have h := h.1 c_15
    exact l_N_law_1551 _ _ hR18  _ _  h
  · have h := h.2 c_15
    refine J_iconst (v := 0) dL_law_1549 (by decide)  ?_
    exact J_iret dL_law_1550 rfl rfl ⟨_, rfl, h⟩
def q_N_law_18 (L : Nat) (xs : Nat → Int32)  (Q : Int32 → Sto → Prop) : Nat → Int32 → Sto → Prop
  | 0, _, _ => False
  | n + 1, x3, S => ((((Int32.ofNat L) - 6) < x3 → Q 1 S) ∧ (¬ ((Int32.ofNat L) - 6) < x3 → vp_in x3 L ∧ ∀ xs_3 : Int32, xs_3 = (xs (x3 : Int32).toNatClampNeg) &&& 63 → ((xs_3.toInt < 0 ∨ 39 < xs_3.toInt → q_N_law_1551 L xs (fun y3 S => q_N_law_18 L xs  Q n y3 S) Q x3 S) ∧ (xs_3 = 0 → q_N_law_208 L xs (fun y3 S => q_N_law_18 L xs  Q n y3 S) Q x3 S) ∧ (xs_3 = 1 → q_N_law_231 L xs (fun y3 S => q_N_law_18 L xs  Q n y3 S) Q x3 S) ∧ (xs_3 = 2 → q_N_law_254 L xs (fun y3 S => q_N_law_18 L xs  Q n y3 S) Q x3 S) ∧ (xs_3 = 3 → q_N_law_277 L xs (fun y3 S => q_N_law_18 L xs  Q n y3 S) Q x3 S) ∧ (xs_3 = 4 → q_N_law_320 L xs (fun y3 S => q_N_law_18 L xs  Q n y3 S) Q x3 S) ∧ (xs_3 = 5 → q_N_law_363 L xs (fun y3 S => q_N_law_18 L xs  Q n y3 S) Q x3 S) ∧ (xs_3 = 6 → q_N_law_426 L xs (fun y3 S => q_N_law_18 L xs  Q n y3 S) Q x3 S) ∧ (xs_3 = 7 → q_N_law_469 L xs (fun y3 S => q_N_law_18 L xs  Q n y3 S) Q x3 S) ∧ (xs_3 = 8 → q_N_law_492 L xs (fun y3 S => q_N_law_18 L xs  Q n y3 S) Q x3 S) ∧ (xs_3 = 9 → q_N_law_505 L xs (fun y3 S => q_N_law_18 L xs  Q n y3 S) Q x3 S) ∧ (xs_3 = 10 → q_N_law_528 L xs (fun y3 S => q_N_law_18 L xs  Q n y3 S) Q x3 S) ∧ (xs_3 = 11 → q_N_law_541 L xs (fun y3 S => q_N_law_18 L xs  Q n y3 S) Q x3 S) ∧ (xs_3 = 12 → q_N_law_574 L xs (fun y3 S => q_N_law_18 L xs  Q n y3 S) Q x3 S) ∧ (xs_3 = 13 → q_N_law_597 L xs (fun y3 S => q_N_law_18 L xs  Q n y3 S) Q x3 S) ∧ (xs_3 = 14 → q_N_law_630 L xs (fun y3 S => q_N_law_18 L xs  Q n y3 S) Q x3 S) ∧ (xs_3 = 15 → q_N_law_663 L xs (fun y3 S => q_N_law_18 L xs  Q n y3 S) Q x3 S) ∧ (xs_3 = 16 → q_N_law_686 L xs (fun y3 S => q_N_law_18 L xs  Q n y3 S) Q x3 S) ∧ (xs_3 = 17 → q_N_law_709 L xs (fun y3 S => q_N_law_18 L xs  Q n y3 S) Q x3 S) ∧ (xs_3 = 18 → q_N_law_752 L xs (fun y3 S => q_N_law_18 L xs  Q n y3 S) Q x3 S) ∧ (xs_3 = 19 → q_N_law_785 L xs (fun y3 S => q_N_law_18 L xs  Q n y3 S) Q x3 S) ∧ (xs_3 = 20 → q_N_law_828 L xs (fun y3 S => q_N_law_18 L xs  Q n y3 S) Q x3 S) ∧ (xs_3 = 21 → q_N_law_861 L xs (fun y3 S => q_N_law_18 L xs  Q n y3 S) Q x3 S) ∧ (xs_3 = 22 → q_N_law_904 L xs (fun y3 S => q_N_law_18 L xs  Q n y3 S) Q x3 S) ∧ (xs_3 = 23 → q_N_law_928 L xs (fun y3 S => q_N_law_18 L xs  Q n y3 S) Q x3 S) ∧ (xs_3 = 24 → q_N_law_971 L xs (fun y3 S => q_N_law_18 L xs  Q n y3 S) Q x3 S) ∧ (xs_3 = 25 → q_N_law_1024 L xs (fun y3 S => q_N_law_18 L xs  Q n y3 S) Q x3 S) ∧ (xs_3 = 26 → q_N_law_1047 L xs (fun y3 S => q_N_law_18 L xs  Q n y3 S) Q x3 S) ∧ (xs_3 = 27 → q_N_law_1100 L xs (fun y3 S => q_N_law_18 L xs  Q n y3 S) Q x3 S) ∧ (xs_3 = 28 → q_N_law_1134 L xs (fun y3 S => q_N_law_18 L xs  Q n y3 S) Q x3 S) ∧ (xs_3 = 29 → q_N_law_1167 L xs (fun y3 S => q_N_law_18 L xs  Q n y3 S) Q x3 S) ∧ (xs_3 = 30 → q_N_law_1200 L xs (fun y3 S => q_N_law_18 L xs  Q n y3 S) Q x3 S) ∧ (xs_3 = 31 → q_N_law_1233 L xs (fun y3 S => q_N_law_18 L xs  Q n y3 S) Q x3 S) ∧ (xs_3 = 32 → q_N_law_1246 L xs (fun y3 S => q_N_law_18 L xs  Q n y3 S) Q x3 S) ∧ (xs_3 = 33 → q_N_law_1289 L xs (fun y3 S => q_N_law_18 L xs  Q n y3 S) Q x3 S) ∧ (xs_3 = 34 → q_N_law_1302 L xs (fun y3 S => q_N_law_18 L xs  Q n y3 S) Q x3 S) ∧ (xs_3 = 35 → q_N_law_1315 L xs (fun y3 S => q_N_law_18 L xs  Q n y3 S) Q x3 S) ∧ (xs_3 = 36 → q_N_law_1338 L xs (fun y3 S => q_N_law_18 L xs  Q n y3 S) Q x3 S) ∧ (xs_3 = 37 → q_N_law_1381 L xs (fun y3 S => q_N_law_18 L xs  Q n y3 S) Q x3 S) ∧ (xs_3 = 38 → q_N_law_1454 L xs (fun y3 S => q_N_law_18 L xs  Q n y3 S) Q x3 S) ∧ (xs_3 = 39 → q_N_law_1488 L xs (fun y3 S => q_N_law_18 L xs  Q n y3 S) Q x3 S))))
set_option maxRecDepth 100000 in
set_option maxHeartbeats 4000000 in
theorem l_N_law_18 {g : Gv}   (Q : Int32 → Sto → Prop)   (n : Nat) : ∀ (x3 : Int32) (S : Sto)  (h : q_N_law_18 g.2.1.2.2.1 g.2.1.2.2.2  Q n x3 S), RJ g cL_law RL (some .boolean) 4 10 18 [(0, .ref g.2.1.2.1), (1, .ref (g.1 + 0)), (2, .ref (g.1 + 353)), (3, .int x3)] [] S (Qi Q) := by
  induction n with
  | zero => intro x3 S  h; exact h.elim
  | succ n ih =>
    intro x3 S  h
    unfold q_N_law_18 at h
    refine J_iload_n dL_law_18 rfl 3 rfl  ?_
    refine J_aload_n dL_law_19 rfl 0 rfl  ?_
    refine J_slen dL_law_20  ?_
    refine J_bipush (v := 6) dL_law_21 (by decide)  ?_
    refine J_isub dL_law_23  ?_
    refine J_icmp_gt (tgt := 1557) dL_law_24 (by decide) (fun c_1 => ?_) (fun c_1 => ?_)
    · have h := h.1 c_1
      refine J_iconst (v := 1) dL_law_1557 (by decide)  ?_
      exact J_iret dL_law_1558 rfl rfl ⟨_, rfl, h⟩
    · have h := h.2 c_1
      refine J_aload_n dL_law_27 rfl 0 rfl  ?_
      refine J_iload_n dL_law_28 rfl 3 rfl  ?_
      obtain ⟨hi_2, h⟩ := h
      refine J_sld dL_law_29 hi_2  ?_
      refine J_bipush (v := 63) dL_law_30 (by decide)  ?_
      refine J_iand dL_law_32  ?_
      refine J_topi (fun xs_3 exs_3 => ?_)
      have h := h xs_3 exs_3
      by_cases hsw : xs_3.toInt < 0 ∨ 39 < xs_3.toInt
      · have h := h.1 hsw
        refine J_tableOut (tgt := 1551) dL_law_33 hsw (by decide) ?_
        exact l_N_law_1551 _ _ (fun y3 S  h => ih y3 S  h)  _ _  h
      · have h := h.2
        obtain ⟨ksw, hk1, hk2⟩ := sw_in (n := 39) (fun q => hsw (Or.inl q)) (fun q => hsw (Or.inr q))
        by_cases hs0 : ksw = 0
        · have hx : xs_3 = 0 := by rw [hk2, hs0]; rfl
          have h := h.1 hx
          refine J_tableIn (off := 175) (tgt := 208) dL_law_33 (by rw [hx]; decide) (by rw [hx]; decide) (by rw [hx]; decide) (by decide) ?_
          exact l_N_law_208 _ _ (fun y3 S  h => ih y3 S  h)  _ _  h
        by_cases hs1 : ksw = 1
        · have hx : xs_3 = 1 := by rw [hk2, hs1]; rfl
          have h := h.2.1 hx
          refine J_tableIn (off := 198) (tgt := 231) dL_law_33 (by rw [hx]; decide) (by rw [hx]; decide) (by rw [hx]; decide) (by decide) ?_
          exact l_N_law_231 _ _ (fun y3 S  h => ih y3 S  h)  _ _  h
        by_cases hs2 : ksw = 2
        · have hx : xs_3 = 2 := by rw [hk2, hs2]; rfl
          have h := h.2.2.1 hx
          refine J_tableIn (off := 221) (tgt := 254) dL_law_33 (by rw [hx]; decide) (by rw [hx]; decide) (by rw [hx]; decide) (by decide) ?_
          exact l_N_law_254 _ _ (fun y3 S  h => ih y3 S  h)  _ _  h
        by_cases hs3 : ksw = 3
        · have hx : xs_3 = 3 := by rw [hk2, hs3]; rfl
          have h := h.2.2.2.1 hx
          refine J_tableIn (off := 244) (tgt := 277) dL_law_33 (by rw [hx]; decide) (by rw [hx]; decide) (by rw [hx]; decide) (by decide) ?_
          exact l_N_law_277 _ _ (fun y3 S  h => ih y3 S  h)  _ _  h
        by_cases hs4 : ksw = 4
        · have hx : xs_3 = 4 := by rw [hk2, hs4]; rfl
          have h := h.2.2.2.2.1 hx
          refine J_tableIn (off := 287) (tgt := 320) dL_law_33 (by rw [hx]; decide) (by rw [hx]; decide) (by rw [hx]; decide) (by decide) ?_
          exact l_N_law_320 _ _ (fun y3 S  h => ih y3 S  h)  _ _  h
        by_cases hs5 : ksw = 5
        · have hx : xs_3 = 5 := by rw [hk2, hs5]; rfl
          have h := h.2.2.2.2.2.1 hx
          refine J_tableIn (off := 330) (tgt := 363) dL_law_33 (by rw [hx]; decide) (by rw [hx]; decide) (by rw [hx]; decide) (by decide) ?_
          exact l_N_law_363 _ _ (fun y3 S  h => ih y3 S  h)  _ _  h
        by_cases hs6 : ksw = 6
        · have hx : xs_3 = 6 := by rw [hk2, hs6]; rfl
          have h := h.2.2.2.2.2.2.1 hx
          refine J_tableIn (off := 393) (tgt := 426) dL_law_33 (by rw [hx]; decide) (by rw [hx]; decide) (by rw [hx]; decide) (by decide) ?_
          exact l_N_law_426 _ _ (fun y3 S  h => ih y3 S  h)  _ _  h
        by_cases hs7 : ksw = 7
        · have hx : xs_3 = 7 := by rw [hk2, hs7]; rfl
          have h := h.2.2.2.2.2.2.2.1 hx
          refine J_tableIn (off := 436) (tgt := 469) dL_law_33 (by rw [hx]; decide) (by rw [hx]; decide) (by rw [hx]; decide) (by decide) ?_
          exact l_N_law_469 _ _ (fun y3 S  h => ih y3 S  h)  _ _  h
        by_cases hs8 : ksw = 8
        · have hx : xs_3 = 8 := by rw [hk2, hs8]; rfl
          have h := h.2.2.2.2.2.2.2.2.1 hx
          refine J_tableIn (off := 459) (tgt := 492) dL_law_33 (by rw [hx]; decide) (by rw [hx]; decide) (by rw [hx]; decide) (by decide) ?_
          exact l_N_law_492 _ _ (fun y3 S  h => ih y3 S  h)  _ _  h
        by_cases hs9 : ksw = 9
        · have hx : xs_3 = 9 := by rw [hk2, hs9]; rfl
          have h := h.2.2.2.2.2.2.2.2.2.1 hx
          refine J_tableIn (off := 472) (tgt := 505) dL_law_33 (by rw [hx]; decide) (by rw [hx]; decide) (by rw [hx]; decide) (by decide) ?_
          exact l_N_law_505 _ _ (fun y3 S  h => ih y3 S  h)  _ _  h
        by_cases hs10 : ksw = 10
        · have hx : xs_3 = 10 := by rw [hk2, hs10]; rfl
          have h := h.2.2.2.2.2.2.2.2.2.2.1 hx
          refine J_tableIn (off := 495) (tgt := 528) dL_law_33 (by rw [hx]; decide) (by rw [hx]; decide) (by rw [hx]; decide) (by decide) ?_
          exact l_N_law_528 _ _ (fun y3 S  h => ih y3 S  h)  _ _  h
        by_cases hs11 : ksw = 11
        · have hx : xs_3 = 11 := by rw [hk2, hs11]; rfl
          have h := h.2.2.2.2.2.2.2.2.2.2.2.1 hx
          refine J_tableIn (off := 508) (tgt := 541) dL_law_33 (by rw [hx]; decide) (by rw [hx]; decide) (by rw [hx]; decide) (by decide) ?_
          exact l_N_law_541 _ _ (fun y3 S  h => ih y3 S  h)  _ _  h
        by_cases hs12 : ksw = 12
        · have hx : xs_3 = 12 := by rw [hk2, hs12]; rfl
          have h := h.2.2.2.2.2.2.2.2.2.2.2.2.1 hx
          refine J_tableIn (off := 541) (tgt := 574) dL_law_33 (by rw [hx]; decide) (by rw [hx]; decide) (by rw [hx]; decide) (by decide) ?_
          exact l_N_law_574 _ _ (fun y3 S  h => ih y3 S  h)  _ _  h
        by_cases hs13 : ksw = 13
        · have hx : xs_3 = 13 := by rw [hk2, hs13]; rfl
          have h := h.2.2.2.2.2.2.2.2.2.2.2.2.2.1 hx
          refine J_tableIn (off := 564) (tgt := 597) dL_law_33 (by rw [hx]; decide) (by rw [hx]; decide) (by rw [hx]; decide) (by decide) ?_
          exact l_N_law_597 _ _ (fun y3 S  h => ih y3 S  h)  _ _  h
        by_cases hs14 : ksw = 14
        · have hx : xs_3 = 14 := by rw [hk2, hs14]; rfl
          have h := h.2.2.2.2.2.2.2.2.2.2.2.2.2.2.1 hx
          refine J_tableIn (off := 597) (tgt := 630) dL_law_33 (by rw [hx]; decide) (by rw [hx]; decide) (by rw [hx]; decide) (by decide) ?_
          exact l_N_law_630 _ _ (fun y3 S  h => ih y3 S  h)  _ _  h
        by_cases hs15 : ksw = 15
        · have hx : xs_3 = 15 := by rw [hk2, hs15]; rfl
          have h := h.2.2.2.2.2.2.2.2.2.2.2.2.2.2.2.1 hx
          refine J_tableIn (off := 630) (tgt := 663) dL_law_33 (by rw [hx]; decide) (by rw [hx]; decide) (by rw [hx]; decide) (by decide) ?_
          exact l_N_law_663 _ _ (fun y3 S  h => ih y3 S  h)  _ _  h
        by_cases hs16 : ksw = 16
        · have hx : xs_3 = 16 := by rw [hk2, hs16]; rfl
          have h := h.2.2.2.2.2.2.2.2.2.2.2.2.2.2.2.2.1 hx
          refine J_tableIn (off := 653) (tgt := 686) dL_law_33 (by rw [hx]; decide) (by rw [hx]; decide) (by rw [hx]; decide) (by decide) ?_
          exact l_N_law_686 _ _ (fun y3 S  h => ih y3 S  h)  _ _  h
        by_cases hs17 : ksw = 17
        · have hx : xs_3 = 17 := by rw [hk2, hs17]; rfl
          have h := h.2.2.2.2.2.2.2.2.2.2.2.2.2.2.2.2.2.1 hx
          refine J_tableIn (off := 676) (tgt := 709) dL_law_33 (by rw [hx]; decide) (by rw [hx]; decide) (by rw [hx]; decide) (by decide) ?_
          exact l_N_law_709 _ _ (fun y3 S  h => ih y3 S  h)  _ _  h
        by_cases hs18 : ksw = 18
        · have hx : xs_3 = 18 := by rw [hk2, hs18]; rfl
          have h := h.2.2.2.2.2.2.2.2.2.2.2.2.2.2.2.2.2.2.1 hx
          refine J_tableIn (off := 719) (tgt := 752) dL_law_33 (by rw [hx]; decide) (by rw [hx]; decide) (by rw [hx]; decide) (by decide) ?_
          exact l_N_law_752 _ _ (fun y3 S  h => ih y3 S  h)  _ _  h
        by_cases hs19 : ksw = 19
        · have hx : xs_3 = 19 := by rw [hk2, hs19]; rfl
          have h := h.2.2.2.2.2.2.2.2.2.2.2.2.2.2.2.2.2.2.2.1 hx
          refine J_tableIn (off := 752) (tgt := 785) dL_law_33 (by rw [hx]; decide) (by rw [hx]; decide) (by rw [hx]; decide) (by decide) ?_
          exact l_N_law_785 _ _ (fun y3 S  h => ih y3 S  h)  _ _  h
        by_cases hs20 : ksw = 20
        · have hx : xs_3 = 20 := by rw [hk2, hs20]; rfl
          have h := h.2.2.2.2.2.2.2.2.2.2.2.2.2.2.2.2.2.2.2.2.1 hx
          refine J_tableIn (off := 795) (tgt := 828) dL_law_33 (by rw [hx]; decide) (by rw [hx]; decide) (by rw [hx]; decide) (by decide) ?_
          exact l_N_law_828 _ _ (fun y3 S  h => ih y3 S  h)  _ _  h
        by_cases hs21 : ksw = 21
        · have hx : xs_3 = 21 := by rw [hk2, hs21]; rfl
          have h := h.2.2.2.2.2.2.2.2.2.2.2.2.2.2.2.2.2.2.2.2.2.1 hx
          refine J_tableIn (off := 828) (tgt := 861) dL_law_33 (by rw [hx]; decide) (by rw [hx]; decide) (by rw [hx]; decide) (by decide) ?_
          exact l_N_law_861 _ _ (fun y3 S  h => ih y3 S  h)  _ _  h
        by_cases hs22 : ksw = 22
        · have hx : xs_3 = 22 := by rw [hk2, hs22]; rfl
          have h := h.2.2.2.2.2.2.2.2.2.2.2.2.2.2.2.2.2.2.2.2.2.2.1 hx
          refine J_tableIn (off := 871) (tgt := 904) dL_law_33 (by rw [hx]; decide) (by rw [hx]; decide) (by rw [hx]; decide) (by decide) ?_
          exact l_N_law_904 _ _ (fun y3 S  h => ih y3 S  h)  _ _  h
        by_cases hs23 : ksw = 23
        · have hx : xs_3 = 23 := by rw [hk2, hs23]; rfl
          have h := h.2.2.2.2.2.2.2.2.2.2.2.2.2.2.2.2.2.2.2.2.2.2.2.1 hx
          refine J_tableIn (off := 895) (tgt := 928) dL_law_33 (by rw [hx]; decide) (by rw [hx]; decide) (by rw [hx]; decide) (by decide) ?_
          exact l_N_law_928 _ _ (fun y3 S  h => ih y3 S  h)  _ _  h
        by_cases hs24 : ksw = 24
        · have hx : xs_3 = 24 := by rw [hk2, hs24]; rfl
          have h := h.2.2.2.2.2.2.2.2.2.2.2.2.2.2.2.2.2.2.2.2.2.2.2.2.1 hx
          refine J_tableIn (off := 938) (tgt := 971) dL_law_33 (by rw [hx]; decide) (by rw [hx]; decide) (by rw [hx]; decide) (by decide) ?_
          exact l_N_law_971 _ _ (fun y3 S  h => ih y3 S  h)  _ _  h
        by_cases hs25 : ksw = 25
        · have hx : xs_3 = 25 := by rw [hk2, hs25]; rfl
          have h := h.2.2.2.2.2.2.2.2.2.2.2.2.2.2.2.2.2.2.2.2.2.2.2.2.2.1 hx
          refine J_tableIn (off := 991) (tgt := 1024) dL_law_33 (by rw [hx]; decide) (by rw [hx]; decide) (by rw [hx]; decide) (by decide) ?_
          exact l_N_law_1024 _ _ (fun y3 S  h => ih y3 S  h)  _ _  h
        by_cases hs26 : ksw = 26
        · have hx : xs_3 = 26 := by rw [hk2, hs26]; rfl
          have h := h.2.2.2.2.2.2.2.2.2.2.2.2.2.2.2.2.2.2.2.2.2.2.2.2.2.2.1 hx
          refine J_tableIn (off := 1014) (tgt := 1047) dL_law_33 (by rw [hx]; decide) (by rw [hx]; decide) (by rw [hx]; decide) (by decide) ?_
          exact l_N_law_1047 _ _ (fun y3 S  h => ih y3 S  h)  _ _  h
        by_cases hs27 : ksw = 27
        · have hx : xs_3 = 27 := by rw [hk2, hs27]; rfl
          have h := h.2.2.2.2.2.2.2.2.2.2.2.2.2.2.2.2.2.2.2.2.2.2.2.2.2.2.2.1 hx
          refine J_tableIn (off := 1067) (tgt := 1100) dL_law_33 (by rw [hx]; decide) (by rw [hx]; decide) (by rw [hx]; decide) (by decide) ?_
          exact l_N_law_1100 _ _ (fun y3 S  h => ih y3 S  h)  _ _  h
        by_cases hs28 : ksw = 28
        · have hx : xs_3 = 28 := by rw [hk2, hs28]; rfl
          have h := h.2.2.2.2.2.2.2.2.2.2.2.2.2.2.2.2.2.2.2.2.2.2.2.2.2.2.2.2.1 hx
          refine J_tableIn (off := 1101) (tgt := 1134) dL_law_33 (by rw [hx]; decide) (by rw [hx]; decide) (by rw [hx]; decide) (by decide) ?_
          exact l_N_law_1134 _ _ (fun y3 S  h => ih y3 S  h)  _ _  h
        by_cases hs29 : ksw = 29
        · have hx : xs_3 = 29 := by rw [hk2, hs29]; rfl
          have h := h.2.2.2.2.2.2.2.2.2.2.2.2.2.2.2.2.2.2.2.2.2.2.2.2.2.2.2.2.2.1 hx
          refine J_tableIn (off := 1134) (tgt := 1167) dL_law_33 (by rw [hx]; decide) (by rw [hx]; decide) (by rw [hx]; decide) (by decide) ?_
          exact l_N_law_1167 _ _ (fun y3 S  h => ih y3 S  h)  _ _  h
        by_cases hs30 : ksw = 30
        · have hx : xs_3 = 30 := by rw [hk2, hs30]; rfl
          have h := h.2.2.2.2.2.2.2.2.2.2.2.2.2.2.2.2.2.2.2.2.2.2.2.2.2.2.2.2.2.2.1 hx
          refine J_tableIn (off := 1167) (tgt := 1200) dL_law_33 (by rw [hx]; decide) (by rw [hx]; decide) (by rw [hx]; decide) (by decide) ?_
          exact l_N_law_1200 _ _ (fun y3 S  h => ih y3 S  h)  _ _  h
        by_cases hs31 : ksw = 31
        · have hx : xs_3 = 31 := by rw [hk2, hs31]; rfl
          have h := h.2.2.2.2.2.2.2.2.2.2.2.2.2.2.2.2.2.2.2.2.2.2.2.2.2.2.2.2.2.2.2.1 hx
          refine J_tableIn (off := 1200) (tgt := 1233) dL_law_33 (by rw [hx]; decide) (by rw [hx]; decide) (by rw [hx]; decide) (by decide) ?_
          exact l_N_law_1233 _ _ (fun y3 S  h => ih y3 S  h)  _ _  h
        by_cases hs32 : ksw = 32
        · have hx : xs_3 = 32 := by rw [hk2, hs32]; rfl
          have h := h.2.2.2.2.2.2.2.2.2.2.2.2.2.2.2.2.2.2.2.2.2.2.2.2.2.2.2.2.2.2.2.2.1 hx
          refine J_tableIn (off := 1213) (tgt := 1246) dL_law_33 (by rw [hx]; decide) (by rw [hx]; decide) (by rw [hx]; decide) (by decide) ?_
          exact l_N_law_1246 _ _ (fun y3 S  h => ih y3 S  h)  _ _  h
        by_cases hs33 : ksw = 33
        · have hx : xs_3 = 33 := by rw [hk2, hs33]; rfl
          have h := h.2.2.2.2.2.2.2.2.2.2.2.2.2.2.2.2.2.2.2.2.2.2.2.2.2.2.2.2.2.2.2.2.2.1 hx
          refine J_tableIn (off := 1256) (tgt := 1289) dL_law_33 (by rw [hx]; decide) (by rw [hx]; decide) (by rw [hx]; decide) (by decide) ?_
          exact l_N_law_1289 _ _ (fun y3 S  h => ih y3 S  h)  _ _  h
        by_cases hs34 : ksw = 34
        · have hx : xs_3 = 34 := by rw [hk2, hs34]; rfl
          have h := h.2.2.2.2.2.2.2.2.2.2.2.2.2.2.2.2.2.2.2.2.2.2.2.2.2.2.2.2.2.2.2.2.2.2.1 hx
          refine J_tableIn (off := 1269) (tgt := 1302) dL_law_33 (by rw [hx]; decide) (by rw [hx]; decide) (by rw [hx]; decide) (by decide) ?_
          exact l_N_law_1302 _ _ (fun y3 S  h => ih y3 S  h)  _ _  h
        by_cases hs35 : ksw = 35
        · have hx : xs_3 = 35 := by rw [hk2, hs35]; rfl
          have h := h.2.2.2.2.2.2.2.2.2.2.2.2.2.2.2.2.2.2.2.2.2.2.2.2.2.2.2.2.2.2.2.2.2.2.2.1 hx
          refine J_tableIn (off := 1282) (tgt := 1315) dL_law_33 (by rw [hx]; decide) (by rw [hx]; decide) (by rw [hx]; decide) (by decide) ?_
          exact l_N_law_1315 _ _ (fun y3 S  h => ih y3 S  h)  _ _  h
        by_cases hs36 : ksw = 36
        · have hx : xs_3 = 36 := by rw [hk2, hs36]; rfl
          have h := h.2.2.2.2.2.2.2.2.2.2.2.2.2.2.2.2.2.2.2.2.2.2.2.2.2.2.2.2.2.2.2.2.2.2.2.2.1 hx
          refine J_tableIn (off := 1305) (tgt := 1338) dL_law_33 (by rw [hx]; decide) (by rw [hx]; decide) (by rw [hx]; decide) (by decide) ?_
          exact l_N_law_1338 _ _ (fun y3 S  h => ih y3 S  h)  _ _  h
        by_cases hs37 : ksw = 37
        · have hx : xs_3 = 37 := by rw [hk2, hs37]; rfl
          have h := h.2.2.2.2.2.2.2.2.2.2.2.2.2.2.2.2.2.2.2.2.2.2.2.2.2.2.2.2.2.2.2.2.2.2.2.2.2.1 hx
          refine J_tableIn (off := 1348) (tgt := 1381) dL_law_33 (by rw [hx]; decide) (by rw [hx]; decide) (by rw [hx]; decide) (by decide) ?_
          exact l_N_law_1381 _ _ (fun y3 S  h => ih y3 S  h)  _ _  h
        by_cases hs38 : ksw = 38
        · have hx : xs_3 = 38 := by rw [hk2, hs38]; rfl
          have h := h.2.2.2.2.2.2.2.2.2.2.2.2.2.2.2.2.2.2.2.2.2.2.2.2.2.2.2.2.2.2.2.2.2.2.2.2.2.2.1 hx
          refine J_tableIn (off := 1421) (tgt := 1454) dL_law_33 (by rw [hx]; decide) (by rw [hx]; decide) (by rw [hx]; decide) (by decide) ?_
          exact l_N_law_1454 _ _ (fun y3 S  h => ih y3 S  h)  _ _  h
        by_cases hs39 : ksw = 39
        · have hx : xs_3 = 39 := by rw [hk2, hs39]; rfl
          have h := h.2.2.2.2.2.2.2.2.2.2.2.2.2.2.2.2.2.2.2.2.2.2.2.2.2.2.2.2.2.2.2.2.2.2.2.2.2.2.2 hx
          refine J_tableIn (off := 1455) (tgt := 1488) dL_law_33 (by rw [hx]; decide) (by rw [hx]; decide) (by rw [hx]; decide) (by decide) ?_
          exact l_N_law_1488 _ _ (fun y3 S  h => ih y3 S  h)  _ _  h
        omega
def wp_N_law (L : Nat) (xs : Nat → Int32) (S : Sto) (Q : Int32 → Sto → Prop) : Prop := (∃ n_18, q_N_law_18 L xs  Q n_18 0 S)
set_option maxRecDepth 100000 in
set_option maxHeartbeats 4000000 in
theorem j_N_law {g : Gv} (S : Sto) (Q : Int32 → Sto → Prop) (h : wp_N_law g.2.1.2.2.1 g.2.1.2.2.2 S Q) : RJ g cL_law RL (some .boolean) 4 10 16 [(0, .ref g.2.1.2.1), (1, .ref (g.1 + 0)), (2, .ref (g.1 + 353))] [] S (Qi Q) := by
  unfold wp_N_law at h
  refine J_iconst (v := 0) dL_law_16 (by decide)  ?_
  refine J_istore_n (lv' := [(0, .ref g.2.1.2.1), (1, .ref (g.1 + 0)), (2, .ref (g.1 + 353)), (3, .int 0)]) dL_law_17 rfl (by decide) [1, 2, 3, 0] rfl  ?_
  obtain ⟨n, h⟩ := h
  exact l_N_law_18  _   n _ _  h
