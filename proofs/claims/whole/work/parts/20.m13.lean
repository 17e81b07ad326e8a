def q_X9_relates_285  (R198 : Int32 → Sto → Prop) (Q : Sto → Prop) (x2 : Int32) (S : Sto) : Prop := ∀ x2_1 : Int32, x2_1 = x2 + 1 → R198 x2_1 S
set_option maxRecDepth 100000 in
set_option maxHeartbeats 4000000 in
theorem l_X9_relates_285 {g : Gv}  (R198 : Int32 → Sto → Prop) (Q : Sto → Prop) (hR198 : ∀ (y2 : Int32) (S : Sto), R198 y2 S → RJ g cX9_relates RX9 none 7 4 198 [(0, .ref (g.1 + 353)), (2, .int y2)] [] S (Qv Q))  (x2 : Int32) (S : Sto)  (h : q_X9_relates_285  R198 Q x2 S) : RJ g cX9_relates RX9 none 7 4 285 [(0, .ref (g.1 + 353)), (2, .int x2)] [] S (Qv Q) := by
  unfold q_X9_relates_285 at h
  obtain ⟨x2_1, ex2_1⟩ : ∃ y : Int32, y = x2 + 1 := ⟨_, rfl⟩
  have h := h x2_1 ex2_1
  refine J_iinc (v := x2_1) (lv' := [(0, .ref (g.1 + 353)), (2, .int x2_1)]) dX9_relates_285 (q := 1) rfl (by rw [ex2_1]; rfl) (by decide) [1, 0] rfl  ?_
  refine J_goto (tgt := 198) dX9_relates_288 (by decide)  ?_
  exact hR198 _ _  h
def q_X9_relates_224  (R198 : Int32 → Sto → Prop) (Q : Sto → Prop) : Nat → Int32 → Int32 → Sto → Prop
  | 0, _, _, _ => False
  | n + 1, x2, x3, S => ((((S.1 353 41) * (S.1 353 3)) ≤ x3 → ∀ S_2 : Sto, S_2 = uA S 353 38 ((S.1 353 38) + 1) → q_X9_relates_285  R198 Q x2 S_2) ∧ (¬ ((S.1 353 41) * (S.1 353 3)) ≤ x3 → vp_in (((256 * x2) + (S.1 353 39)) + x3) (65536) ∧ vp_in ((256 * (S.1 353 38)) + x3) (65536) ∧ ∀ S_5 : Sto, S_5 = uA S 377 ((256 * (S.1 353 38)) + x3 : Int32).toNatClampNeg (S.1 366 (((256 * x2) + (S.1 353 39)) + x3 : Int32).toNatClampNeg) → ∀ x3_6 : Int32, x3_6 = x3 + 1 → q_X9_relates_224  R198 Q n x2 x3_6 S_5))
set_option maxRecDepth 100000 in
set_option maxHeartbeats 4000000 in
theorem l_X9_relates_224 {g : Gv}  (R198 : Int32 → Sto → Prop) (Q : Sto → Prop) (hR198 : ∀ (y2 : Int32) (S : Sto), R198 y2 S → RJ g cX9_relates RX9 none 7 4 198 [(0, .ref (g.1 + 353)), (2, .int y2)] [] S (Qv Q))  (n : Nat) : ∀ (x2 : Int32) (x3 : Int32) (S : Sto)  (h : q_X9_relates_224  R198 Q n x2 x3 S), RJ g cX9_relates RX9 none 7 4 224 [(0, .ref (g.1 + 353)), (2, .int x2), (3, .int x3)] [] S (Qv Q) := by
  induction n with
  | zero => intro x2 x3 S  h; exact h.elim
  | succ n ih =>
    intro x2 x3 S  h
    unfold q_X9_relates_224 at h
    refine J_iload_n dX9_relates_224 rfl 2 rfl  ?_
    refine J_aload_n dX9_relates_225 rfl 0 rfl  ?_
    refine J_geti (ci := 7) dX9_relates_226 41 rfl giX9 (by decide) (by decide) rfl rfl tb_4_152 rfl  ?_
    refine J_aload_n dX9_relates_229 rfl 0 rfl  ?_
    refine J_geti (ci := 7) dX9_relates_230 3 rfl giX9 (by decide) (by decide) rfl rfl tb_4_114 rfl  ?_
    refine J_imul dX9_relates_233  ?_
    refine J_icmp_ge (tgt := 275) dX9_relates_234 (by decide) (fun c_1 => ?_) (fun c_1 => ?_)
    · have h := h.1 c_1
      refine J_aload_n dX9_relates_275 rfl 0 rfl  ?_
      refine J_dup dX9_relates_276 rfl  ?_
      refine J_geti (ci := 7) dX9_relates_277 38 rfl giX9 (by decide) (by decide) rfl rfl tb_4_149 rfl  ?_
      refine J_iconst (v := 1) dX9_relates_280 (by decide)  ?_
      refine J_iadd dX9_relates_281  ?_
      refine J_puti (ci := 7) dX9_relates_282 38 rfl giX9 (by decide) (by decide) rfl rfl tyX9 tyX9_ok nmX9 rfl rfl rfl rfl tb_4_149 rfl  ?_
      refine J_nmS (fun S_2 eS_2 => ?_)
      have h := h S_2 eS_2
      refine J_sub (lv' := [(0, .ref (g.1 + 353)), (2, .int x2)]) [0, 1] rfl ?_
      exact l_X9_relates_285  _ _ hR198  _ _  h
    · have h := h.2 c_1
      refine J_aload_n dX9_relates_237 rfl 0 rfl  ?_
      refine J_getr (r := 377) (ci := 7) dX9_relates_238 37 rfl giX9 (by decide) (by decide) rfl rfl tb_4_148 (by decide) (by decide)  ?_
      refine J_sipush (v := 256) dX9_relates_241 (by decide)  ?_
      refine J_aload_n dX9_relates_244 rfl 0 rfl  ?_
      refine J_geti (ci := 7) dX9_relates_245 38 rfl giX9 (by decide) (by decide) rfl rfl tb_4_149 rfl  ?_
      refine J_imul dX9_relates_248  ?_
      refine J_iload_n dX9_relates_249 rfl 2 rfl  ?_
      refine J_iadd dX9_relates_250  ?_
      refine J_aload_n dX9_relates_251 rfl 0 rfl  ?_
      refine J_getr (r := 366) (ci := 7) dX9_relates_252 22 rfl giX9 (by decide) (by decide) rfl rfl tb_4_133 (by decide) (by decide)  ?_
      refine J_sipush (v := 256) dX9_relates_255 (by decide)  ?_
      refine J_iload_n dX9_relates_258 rfl 1 rfl  ?_
      refine J_imul dX9_relates_259  ?_
      refine J_aload_n dX9_relates_260 rfl 0 rfl  ?_
      refine J_geti (ci := 7) dX9_relates_261 39 rfl giX9 (by decide) (by decide) rfl rfl tb_4_150 rfl  ?_
      refine J_iadd dX9_relates_264  ?_
      refine J_iload_n dX9_relates_265 rfl 2 rfl  ?_
      refine J_iadd dX9_relates_266  ?_
      obtain ⟨hi_3, h⟩ := h
      refine J_iald dX9_relates_267 (by decide) hi_3  ?_
      obtain ⟨hi_4, h⟩ := h
      refine J_iast dX9_relates_268 (by decide) hi_4  ?_
      refine J_nmS (fun S_5 eS_5 => ?_)
      have h := h S_5 eS_5
      obtain ⟨x3_6, ex3_6⟩ : ∃ y : Int32, y = x3 + 1 := ⟨_, rfl⟩
      have h := h x3_6 ex3_6
      refine J_iinc (v := x3_6) (lv' := [(0, .ref (g.1 + 353)), (2, .int x2), (3, .int x3_6)]) dX9_relates_269 (q := 2) rfl (by rw [ex3_6]; rfl) (by decide) [1, 2, 0] rfl  ?_
      refine J_goto (tgt := 224) dX9_relates_272 (by decide)  ?_
      exact ih _ _ _  h
def q_X9_relates_198   (Q : Sto → Prop) : Nat → Int32 → Sto → Prop
  | 0, _, _ => False
  | n + 1, x2, S => (((S.1 353 25) ≤ x2 → ∀ S_2 : Sto, S_2 = uA S 353 39 ((S.1 353 41) * (S.1 353 3)) → Q S_2) ∧ (¬ (S.1 353 25) ≤ x2 → vp_in x2 (256) ∧ (((S.1 353 39) ≤ (S.1 367 (x2 : Int32).toNatClampNeg) → (∃ n_224, q_X9_relates_224  (fun y2 S => q_X9_relates_198   Q n y2 S) Q n_224 x2 0 S)) ∧ (¬ (S.1 353 39) ≤ (S.1 367 (x2 : Int32).toNatClampNeg) → q_X9_relates_285  (fun y2 S => q_X9_relates_198   Q n y2 S) Q x2 S))))
set_option maxRecDepth 100000 in
set_option maxHeartbeats 4000000 in
theorem l_X9_relates_198 {g : Gv}   (Q : Sto → Prop)   (n : Nat) : ∀ (x2 : Int32) (S : Sto)  (h : q_X9_relates_198   Q n x2 S), RJ g cX9_relates RX9 none 7 4 198 [(0, .ref (g.1 + 353)), (2, .int x2)] [] S (Qv Q) := by
  induction n with
  | zero => intro x2 S  h; exact h.elim
  | succ n ih =>
    intro x2 S  h
    unfold q_X9_relates_198 at h
    refine J_iload_n dX9_relates_198 rfl 1 rfl  ?_
    refine J_aload_n dX9_relates_199 rfl 0 rfl  ?_
    refine J_geti (ci := 7) dX9_relates_200 25 rfl giX9 (by decide) (by decide) rfl rfl tb_4_136 rfl  ?_
    refine J_icmp_ge (tgt := 291) dX9_relates_203 (by decide) (fun c_1 => ?_) (fun c_1 => ?_)
    · have h := h.1 c_1
      refine J_aload_n dX9_relates_291 rfl 0 rfl  ?_
      refine J_aload_n dX9_relates_292 rfl 0 rfl  ?_
      refine J_geti (ci := 7) dX9_relates_293 41 rfl giX9 (by decide) (by decide) rfl rfl tb_4_152 rfl  ?_
      refine J_aload_n dX9_relates_296 rfl 0 rfl  ?_
      refine J_geti (ci := 7) dX9_relates_297 3 rfl giX9 (by decide) (by decide) rfl rfl tb_4_114 rfl  ?_
      refine J_imul dX9_relates_300  ?_
      refine J_puti (ci := 7) dX9_relates_301 39 rfl giX9 (by decide) (by decide) rfl rfl tyX9 tyX9_ok nmX9 rfl rfl rfl rfl tb_4_150 rfl  ?_
      refine J_nmS (fun S_2 eS_2 => ?_)
      have h := h S_2 eS_2
      exact J_vret dX9_relates_304 rfl ⟨rfl, h⟩
    · have h := h.2 c_1
      refine J_aload_n dX9_relates_206 rfl 0 rfl  ?_
      refine J_getr (r := 367) (ci := 7) dX9_relates_207 23 rfl giX9 (by decide) (by decide) rfl rfl tb_4_134 (by decide) (by decide)  ?_
      refine J_iload_n dX9_relates_210 rfl 1 rfl  ?_
      obtain ⟨hi_3, h⟩ := h
      refine J_iald dX9_relates_211 (by decide) hi_3  ?_
      refine J_aload_n dX9_relates_212 rfl 0 rfl  ?_
      refine J_geti (ci := 7) dX9_relates_213 39 rfl giX9 (by decide) (by decide) rfl rfl tb_4_150 rfl  ?_
      refine J_icmp_ge (tgt := 222) dX9_relates_216 (by decide) (fun c_4 => ?_) (fun c_4 => ?_)
      · have h := h.1 c_4
        refine J_iconst (v := 0) dX9_relates_222 (by decide)  ?_
        refine J_istore_n (lv' := [(0, .ref (g.1 + 353)), (2, .int x2), (3, .int 0)]) dX9_relates_223 rfl (by decide) [1, 2, 0] rfl  ?_
        obtain ⟨n, h⟩ := h
        exact l_X9_relates_224  _ _ (fun y2 S  h => ih y2 S  h)  n _ _ _  h
      · have h := h.2 c_4
        refine J_goto (tgt := 285) dX9_relates_219 (by decide)  ?_
        exact l_X9_relates_285  _ _ (fun y2 S  h => ih y2 S  h)  _ _  h
def q_X9_relates_149  (R22 : Int32 → Int32 → Sto → Prop) (R32 : Int32 → Int32 → Int32 → Sto → Prop) (R66 : Int32 → Int32 → Int32 → Int32 → Sto → Prop) (Q : Sto → Prop) (x1 : Int32) (x2 : Int32) (x3 : Int32) (x4 : Int32) (S : Sto) : Prop := ∀ x4_1 : Int32, x4_1 = x4 + 1 → R66 x1 x2 x3 x4_1 S
set_option maxRecDepth 100000 in
set_option maxHeartbeats 4000000 in
theorem l_X9_relates_149 {g : Gv}  (R22 : Int32 → Int32 → Sto → Prop) (R32 : Int32 → Int32 → Int32 → Sto → Prop) (R66 : Int32 → Int32 → Int32 → Int32 → Sto → Prop) (Q : Sto → Prop) (hR22 : ∀ (y1 : Int32) (y2 : Int32) (S : Sto), R22 y1 y2 S → RJ g cX9_relates RX9 none 7 4 22 [(0, .ref (g.1 + 353)), (1, .int y1), (2, .int y2)] [] S (Qv Q)) (hR32 : ∀ (y1 : Int32) (y2 : Int32) (y3 : Int32) (S : Sto), R32 y1 y2 y3 S → RJ g cX9_relates RX9 none 7 4 32 [(0, .ref (g.1 + 353)), (1, .int y1), (2, .int y2), (3, .int y3)] [] S (Qv Q)) (hR66 : ∀ (y1 : Int32) (y2 : Int32) (y3 : Int32) (y4 : Int32) (S : Sto), R66 y1 y2 y3 y4 S → RJ g cX9_relates RX9 none 7 4 66 [(0, .ref (g.1 + 353)), (1, .int y1), (2, .int y2), (3, .int y3), (4, .int y4)] [] S (Qv Q))  (x1 : Int32) (x2 : Int32) (x3 : Int32) (x4 : Int32) (S : Sto)  (h : q_X9_relates_149  R22 R32 R66 Q x1 x2 x3 x4 S) : RJ g cX9_relates RX9 none 7 4 149 [(0, .ref (g.1 + 353)), (1, .int x1), (2, .int x2), (3, .int x3), (4, .int x4)] [] S (Qv Q) := by
  unfold q_X9_relates_149 at h
  obtain ⟨x4_1, ex4_1⟩ : ∃ y : Int32, y = x4 + 1 := ⟨_, rfl⟩
  have h := h x4_1 ex4_1
  refine J_iinc (v := x4_1) (lv' := [(0, .ref (g.1 + 353)), (1, .int x1), (2, .int x2), (3, .int x3), (4, .int x4_1)]) dX9_relates_149 (q := 4) rfl (by rw [ex4_1]; rfl) (by decide) [1, 2, 3, 4, 0] rfl  ?_
  refine J_goto (tgt := 66) dX9_relates_152 (by decide)  ?_
  exact hR66 _ _ _ _ _  h
def q_X9_relates_66  (R22 : Int32 → Int32 → Sto → Prop) (R32 : Int32 → Int32 → Int32 → Sto → Prop) (Q : Sto → Prop) : Nat → Int32 → Int32 → Int32 → Int32 → Sto → Prop
  | 0, _, _, _, _, _ => False
  | n + 1, x1, x2, x3, x4, S => (((S.1 353 39) ≤ x4 → vp_in (((S.1 353 39) + ((S.1 353 3) * x2)) + x3) (256) ∧ ∀ S_3 : Sto, S_3 = uA S 370 (((S.1 353 39) + ((S.1 353 3) * x2)) + x3 : Int32).toNatClampNeg 1 → wp_X9_comes  S_3 (fun r_5 S_4 => ∀ x3_6 : Int32, x3_6 = x3 + 1 → R32 x1 x2 x3_6 S_4)) ∧ (¬ (S.1 353 39) ≤ x4 → ¬ (S.1 353 3) = 0 ∧ ∀ x5_8 : Int32, x5_8 = x4 - x4 / (S.1 353 3) * (S.1 353 3) → wp_X9_sign x3 x5_8 S (fun r_10 S_9 => ((r_10 = 0 → q_X9_relates_149  R22 R32 (fun y1 y2 y3 y4 S => q_X9_relates_66  R22 R32 Q n y1 y2 y3 y4 S) Q x1 x2 x3 x4 S_9) ∧ (¬ r_10 = 0 → vp_in ((256 * x2) + x4) (65536) ∧ (((S_9.1 378 ((256 * x2) + x4 : Int32).toNatClampNeg) = 0 → q_X9_relates_149  R22 R32 (fun y1 y2 y3 y4 S => q_X9_relates_66  R22 R32 Q n y1 y2 y3 y4 S) Q x1 x2 x3 x4 S_9) ∧ (¬ (S_9.1 378 ((256 * x2) + x4 : Int32).toNatClampNeg) = 0 → vp_in ((256 * x2) + x4) (65536) ∧ wp_X9_modulo ((r_10 * (S_9.1 378 ((256 * x2) + x4 : Int32).toNatClampNeg) : Int32).toInt64) S_9 (fun r_16 S_15 => vp_in ((x4 - x5_8) + (x3 ||| x5_8)) (256) ∧ ∀ S_18 : Sto, S_18 = uA S_15 370 ((x4 - x5_8) + (x3 ||| x5_8) : Int32).toNatClampNeg r_16 → q_X9_relates_149  R22 R32 (fun y1 y2 y3 y4 S => q_X9_relates_66  R22 R32 Q n y1 y2 y3 y4 S) Q x1 x2 x3 x4 S_18))))))))
set_option maxRecDepth 100000 in
set_option maxHeartbeats 4000000 in
theorem l_X9_relates_66 {g : Gv}  (R22 : Int32 → Int32 → Sto → Prop) (R32 : Int32 → Int32 → Int32 → Sto → Prop) (Q : Sto → Prop) (hR22 : ∀ (y1 : Int32) (y2 : Int32) (S : Sto), R22 y1 y2 S → RJ g cX9_relates RX9 none 7 4 22 [(0, .ref (g.1 + 353)), (1, .int y1), (2, .int y2)] [] S (Qv Q)) (hR32 : ∀ (y1 : Int32) (y2 : Int32) (y3 : Int32) (S : Sto), R32 y1 y2 y3 S → RJ g cX9_relates RX9 none 7 4 32 [(0, .ref (g.1 + 353)), (1, .int y1), (2, .int y2), (3, .int y3)] [] S (Qv Q))  (n : Nat) : ∀ (x1 : Int32) (x2 : Int32) (x3 : Int32) (x4 : Int32) (S : Sto)  (h : q_X9_relates_66  R22 R32 Q n x1 x2 x3 x4 S), RJ g cX9_relates RX9 none 7 4 66 [(0, .ref (g.1 + 353)), (1, .int x1), (2, .int x2), (3, .int x3), (4, .int x4)] [] S (Qv Q) := by
  induction n with
  | zero => intro x1 x2 x3 x4 S  h; exact h.elim
  | succ n ih =>
    intro x1 x2 x3 x4 S  h
    unfold q_X9_relates_66 at h
    refine J_iload dX9_relates_66 4 rfl  ?_
    refine J_aload_n dX9_relates_68 rfl 0 rfl  ?_
    refine J_geti (ci := 7) dX9_relates_69 39 rfl giX9 (by decide) (by decide) rfl rfl tb_4_150 rfl  ?_
    refine J_icmp_ge (tgt := 155) dX9_relates_72 (by decide) (fun c_1 => ?_) (fun c_1 => ?_)
    · have h := h.1 c_1
      refine J_aload_n dX9_relates_155 rfl 0 rfl  ?_
      refine J_getr (r := 370) (ci := 7) dX9_relates_156 28 rfl giX9 (by decide) (by decide) rfl rfl tb_4_139 (by decide) (by decide)  ?_
      refine J_aload_n dX9_relates_159 rfl 0 rfl  ?_
      refine J_geti (ci := 7) dX9_relates_160 39 rfl giX9 (by decide) (by decide) rfl rfl tb_4_150 rfl  ?_
      refine J_aload_n dX9_relates_163 rfl 0 rfl  ?_
      refine J_geti (ci := 7) dX9_relates_164 3 rfl giX9 (by decide) (by decide) rfl rfl tb_4_114 rfl  ?_
      refine J_iload_n dX9_relates_167 rfl 2 rfl  ?_
      refine J_imul dX9_relates_168  ?_
      refine J_iadd dX9_relates_169  ?_
      refine J_iload_n dX9_relates_170 rfl 3 rfl  ?_
      refine J_iadd dX9_relates_171  ?_
      refine J_iconst (v := 1) dX9_relates_172 (by decide)  ?_
      obtain ⟨hi_2, h⟩ := h
      refine J_iast dX9_relates_173 (by decide) hi_2  ?_
      refine J_nmS (fun S_3 eS_3 => ?_)
      have h := h S_3 eS_3
      refine J_aload_n dX9_relates_174 rfl 0 rfl  ?_
      refine J_callV (h := 353) (ci := 7) (As := []) (rest := []) (n := 0) dX9_relates_175 (c_X9_comes   _ _ h) (by decide) rfl tb_5_88 tb_5_85 tb_1_8 tb_5_87 sl_38 (by decide) rfl (by decide) (by decide) (Nat.le_of_ble_eq_true rfl) rfl (fun v_r_5 S_4 hq => ?_)
      obtain ⟨r_5, rfl, h⟩ := hq
      dsimp only [Option.toList, List.cons_append, List.nil_append]
      refine J_pop dX9_relates_178 rfl  ?_
      obtain ⟨x3_6, ex3_6⟩ : ∃ y : Int32, y = x3 + 1 := ⟨_, rfl⟩
      have h := h x3_6 ex3_6
      refine J_iinc (v := x3_6) (lv' := [(0, .ref (g.1 + 353)), (1, .int x1), (2, .int x2), (3, .int x3_6), (4, .int x4)]) dX9_relates_179 (q := 3) rfl (by rw [ex3_6]; rfl) (by decide) [1, 2, 3, 0, 4] rfl  ?_
      refine J_goto (tgt := 32) dX9_relates_182 (by decide)  ?_
      refine J_sub (lv' := [(0, .ref (g.1 + 353)), (1, .int x1), (2, .int x2), (3, .int x3_6)]) [0, 1, 2, 3] rfl ?_
      exact hR32 _ _ _ _  h
    · have h := h.2 c_1
      refine J_iload dX9_relates_75 4 rfl  ?_
      refine J_aload_n dX9_relates_77 rfl 0 rfl  ?_
      refine J_geti (ci := 7) dX9_relates_78 3 rfl giX9 (by decide) (by decide) rfl rfl tb_4_114 rfl  ?_
      obtain ⟨hz_7, h⟩ := h
      refine J_irem dX9_relates_81 hz_7  ?_
      refine J_topi (fun x5_8 ex5_8 => ?_)
      have h := h x5_8 ex5_8
      refine J_istore (lv' := [(0, .ref (g.1 + 353)), (1, .int x1), (2, .int x2), (3, .int x3), (4, .int x4), (5, .int x5_8)]) dX9_relates_82 (by decide) [1, 2, 3, 4, 5, 0] rfl  ?_
      refine J_iload_n dX9_relates_84 rfl 3 rfl  ?_
      refine J_iload dX9_relates_85 5 rfl  ?_
      refine J_callS (As := [.int x3, .int x5_8]) (rest := []) (n := 2) dX9_relates_87 (c_X9_sign x3 x5_8  _ _ h) tb_5_48 tb_5_46 tb_1_8 tb_5_47 (by decide) rfl (by decide) (by decide) (Nat.le_of_ble_eq_true rfl) rfl (fun v_r_10 S_9 hq => ?_)
      obtain ⟨r_10, rfl, h⟩ := hq
      dsimp only [Option.toList, List.cons_append, List.nil_append]
      refine J_istore (lv' := [(0, .ref (g.1 + 353)), (1, .int x1), (2, .int x2), (3, .int x3), (4, .int x4), (5, .int x5_8), (6, .int r_10)]) dX9_relates_90 (by decide) [1, 2, 3, 4, 5, 6, 0] rfl  ?_
      refine J_iload dX9_relates_92 6 rfl  ?_
      refine J_if_eq (tgt := 149) dX9_relates_94 (by decide) (fun c_11 => ?_) (fun c_11 => ?_)
      · have h := h.1 c_11
        refine J_sub (lv' := [(0, .ref (g.1 + 353)), (1, .int x1), (2, .int x2), (3, .int x3), (4, .int x4)]) [0, 1, 2, 3, 4] rfl ?_
        exact l_X9_relates_149  _ _ _ _ hR22 hR32 (fun y1 y2 y3 y4 S  h => ih y1 y2 y3 y4 S  h)  _ _ _ _ _  h
      · have h := h.2 c_11
        refine J_aload_n dX9_relates_97 rfl 0 rfl  ?_
        refine J_getr (r := 378) (ci := 7) dX9_relates_98 40 rfl giX9 (by decide) (by decide) rfl rfl tb_4_151 (by decide) (by decide)  ?_
        refine J_sipush (v := 256) dX9_relates_101 (by decide)  ?_
        refine J_iload_n dX9_relates_104 rfl 2 rfl  ?_
        refine J_imul dX9_relates_105  ?_
        refine J_iload dX9_relates_106 4 rfl  ?_
        refine J_iadd dX9_relates_108  ?_
        obtain ⟨hi_12, h⟩ := h
        refine J_iald dX9_relates_109 (by decide) hi_12  ?_
        refine J_if_eq (tgt := 149) dX9_relates_110 (by decide) (fun c_13 => ?_) (fun c_13 => ?_)
        · have h := h.1 c_13
          refine J_sub (lv' := [(0, .ref (g.1 + 353)), (1, .int x1), (2, .int x2), (3, .int x3), (4, .int x4)]) [0, 1, 2, 3, 4] rfl ?_
          exact l_X9_relates_149  _ _ _ _ hR22 hR32 (fun y1 y2 y3 y4 S  h => ih y1 y2 y3 y4 S  h)  _ _ _ _ _  h
        · have h := h.2 c_13
          refine J_aload_n dX9_relates_113 rfl 0 rfl  ?_
          refine J_getr (r := 370) (ci := 7) dX9_relates_114 28 rfl giX9 (by decide) (by decide) rfl rfl tb_4_139 (by decide) (by decide)  ?_
          refine J_iload dX9_relates_117 4 rfl  ?_
          refine J_iload dX9_relates_119 5 rfl  ?_
          refine J_isub dX9_relates_121  ?_
          refine J_iload_n dX9_relates_122 rfl 3 rfl  ?_
          refine J_iload dX9_relates_123 5 rfl  ?_
          refine J_ior dX9_relates_125  ?_
          refine J_iadd dX9_relates_126  ?_
          refine J_aload_n dX9_relates_127 rfl 0 rfl  ?_
          refine J_iload dX9_relates_128 6 rfl  ?_
          refine J_aload_n dX9_relates_130 rfl 0 rfl  ?_
          refine J_getr (r := 378) (ci := 7) dX9_relates_131 40 rfl giX9 (by decide) (by decide) rfl rfl tb_4_151 (by decide) (by decide)  ?_
          refine J_sipush (v := 256) dX9_relates_134 (by decide)  ?_
          refine J_iload_n dX9_relates_137 rfl 2 rfl  ?_
          refine J_imul dX9_relates_138  ?_
          refine J_iload dX9_relates_139 4 rfl  ?_
          refine J_iadd dX9_relates_141  ?_
          obtain ⟨hi_14, h⟩ := h
          refine J_iald dX9_relates_142 (by decide) hi_14  ?_
          refine J_imul dX9_relates_143  ?_
          refine J_i2l dX9_relates_144  ?_
          refine J_callV (h := 353) (ci := 7) (As := [.long ((r_10 * (S_9.1 378 ((256 * x2) + x4 : Int32).toNatClampNeg) : Int32).toInt64)]) (rest := [.int ((x4 - x5_8) + (x3 ||| x5_8)), .ref (g.1 + 370)]) (n := 1) dX9_relates_145 (c_X9_modulo ((r_10 * (S_9.1 378 ((256 * x2) + x4 : Int32).toNatClampNeg) : Int32).toInt64)  _ _ h) (by decide) rfl tb_5_37 tb_5_34 tb_1_8 tb_5_36 sl_30 (by decide) rfl (by decide) (by decide) (Nat.le_of_ble_eq_true rfl) rfl (fun v_r_16 S_15 hq => ?_)
          obtain ⟨r_16, rfl, h⟩ := hq
          dsimp only [Option.toList, List.cons_append, List.nil_append]
          obtain ⟨hi_17, h⟩ := h
          refine J_iast dX9_relates_148 (by decide) hi_17  ?_
          refine J_nmS (fun S_18 eS_18 => ?_)
          have h := h S_18 eS_18
          refine J_sub (lv' := [(0, .ref (g.1 + 353)), (1, .int x1), (2, .int x2), (3, .int x3), (4, .int x4)]) [0, 1, 2, 3, 4] rfl ?_
          exact l_X9_relates_149  _ _ _ _ hR22 hR32 (fun y1 y2 y3 y4 S  h => ih y1 y2 y3 y4 S  h)  _ _ _ _ _  h
def q_X9_relates_43  (R22 : Int32 → Int32 → Sto → Prop) (R32 : Int32 → Int32 → Int32 → Sto → Prop) (Q : Sto → Prop) : Nat → Int32 → Int32 → Int32 → Int32 → Sto → Prop
  | 0, _, _, _, _, _ => False
  | n + 1, x1, x2, x3, x4, S => ((x1 ≤ x4 → (∃ n_66, q_X9_relates_66  R22 R32 Q n_66 x1 x2 x3 0 S)) ∧ (¬ x1 ≤ x4 → vp_in x4 (256) ∧ ∀ S_3 : Sto, S_3 = uA S 370 (x4 : Int32).toNatClampNeg 0 → ∀ x4_4 : Int32, x4_4 = x4 + 1 → q_X9_relates_43  R22 R32 Q n x1 x2 x3 x4_4 S_3))
set_option maxRecDepth 100000 in
set_option maxHeartbeats 4000000 in
theorem l_X9_relates_43 {g : Gv}  (R22 : Int32 → Int32 → Sto → Prop) (R32 : Int32 → Int32 → Int32 → Sto → Prop) (Q : Sto → Prop) (hR22 : ∀ (y1 : Int32) (y2 : Int32) (S : Sto), R22 y1 y2 S → RJ g cX9_relates RX9 none 7 4 22 [(0, .ref (g.1 + 353)), (1, .int y1), (2, .int y2)] [] S (Qv Q)) (hR32 : ∀ (y1 : Int32) (y2 : Int32) (y3 : Int32) (S : Sto), R32 y1 y2 y3 S → RJ g cX9_relates RX9 none 7 4 32 [(0, .ref (g.1 + 353)), (1, .int y1), (2, .int y2), (3, .int y3)] [] S (Qv Q))  (n : Nat) : ∀ (x1 : Int32) (x2 : Int32) (x3 : Int32) (x4 : Int32) (S : Sto)  (h : q_X9_relates_43  R22 R32 Q n x1 x2 x3 x4 S), RJ g cX9_relates RX9 none 7 4 43 [(0, .ref (g.1 + 353)), (1, .int x1), (2, .int x2), (3, .int x3), (4, .int x4)] [] S (Qv Q) := by
  induction n with
  | zero => intro x1 x2 x3 x4 S  h; exact h.elim
  | succ n ih =>
    intro x1 x2 x3 x4 S  h
    unfold q_X9_relates_43 at h
    refine J_iload dX9_relates_43 4 rfl  ?_
    refine J_iload_n dX9_relates_45 rfl 1 rfl  ?_
    refine J_icmp_ge (tgt := 63) dX9_relates_46 (by decide) (fun c_1 => ?_) (fun c_1 => ?_)
    · have h := h.1 c_1
      refine J_iconst (v := 0) dX9_relates_63 (by decide)  ?_
      refine J_istore (lv' := [(0, .ref (g.1 + 353)), (1, .int x1), (2, .int x2), (3, .int x3), (4, .int 0)]) dX9_relates_64 (by decide) [1, 2, 3, 4, 0] rfl  ?_
      obtain ⟨n, h⟩ := h
      exact l_X9_relates_66  _ _ _ hR22 hR32  n _ _ _ _ _  h
    · have h := h.2 c_1
      refine J_aload_n dX9_relates_49 rfl 0 rfl  ?_
      refine J_getr (r := 370) (ci := 7) dX9_relates_50 28 rfl giX9 (by decide) (by decide) rfl rfl tb_4_139 (by decide) (by decide)  ?_
      refine J_iload dX9_relates_53 4 rfl  ?_
      refine J_iconst (v := 0) dX9_relates_55 (by decide)  ?_
      obtain ⟨hi_2, h⟩ := h
      refine J_iast dX9_relates_56 (by decide) hi_2  ?_
      refine J_nmS (fun S_3 eS_3 => ?_)
      have h := h S_3 eS_3
      obtain ⟨x4_4, ex4_4⟩ : ∃ y : Int32, y = x4 + 1 := ⟨_, rfl⟩
      have h := h x4_4 ex4_4
      refine J_iinc (v := x4_4) (lv' := [(0, .ref (g.1 + 353)), (1, .int x1), (2, .int x2), (3, .int x3), (4, .int x4_4)]) dX9_relates_57 (q := 4) rfl (by rw [ex4_4]; rfl) (by decide) [1, 2, 3, 4, 0] rfl  ?_
      refine J_goto (tgt := 43) dX9_relates_60 (by decide)  ?_
      exact ih _ _ _ _ _  h
def q_X9_relates_32  (R22 : Int32 → Int32 → Sto → Prop) (Q : Sto → Prop) : Nat → Int32 → Int32 → Int32 → Sto → Prop
  | 0, _, _, _, _ => False
  | n + 1, x1, x2, x3, S => (((S.1 353 3) ≤ x3 → ∀ x2_2 : Int32, x2_2 = x2 + 1 → R22 x1 x2_2 S) ∧ (¬ (S.1 353 3) ≤ x3 → (∃ n_43, q_X9_relates_43  R22 (fun y1 y2 y3 S => q_X9_relates_32  R22 Q n y1 y2 y3 S) Q n_43 x1 x2 x3 0 S)))
set_option maxRecDepth 100000 in
set_option maxHeartbeats 4000000 in
theorem l_X9_relates_32 {g : Gv}  (R22 : Int32 → Int32 → Sto → Prop) (Q : Sto → Prop) (hR22 : ∀ (y1 : Int32) (y2 : Int32) (S : Sto), R22 y1 y2 S → RJ g cX9_relates RX9 none 7 4 22 [(0, .ref (g.1 + 353)), (1, .int y1), (2, .int y2)] [] S (Qv Q))  (n : Nat) : ∀ (x1 : Int32) (x2 : Int32) (x3 : Int32) (S : Sto)  (h : q_X9_relates_32  R22 Q n x1 x2 x3 S), RJ g cX9_relates RX9 none 7 4 32 [(0, .ref (g.1 + 353)), (1, .int x1), (2, .int x2), (3, .int x3)] [] S (Qv Q) := by
  induction n with
  | zero => intro x1 x2 x3 S  h; exact h.elim
  | succ n ih =>
    intro x1 x2 x3 S  h
    unfold q_X9_relates_32 at h
    refine J_iload_n dX9_relates_32 rfl 3 rfl  ?_
    refine J_aload_n dX9_relates_33 rfl 0 rfl  ?_
    refine J_geti (ci := 7) dX9_relates_34 3 rfl giX9 (by decide) (by decide) rfl rfl tb_4_114 rfl  ?_
    refine J_icmp_ge (tgt := 185) dX9_relates_37 (by decide) (fun c_1 => ?_) (fun c_1 => ?_)
    · have h := h.1 c_1
      obtain ⟨x2_2, ex2_2⟩ : ∃ y : Int32, y = x2 + 1 := ⟨_, rfl⟩
      have h := h x2_2 ex2_2
      refine J_iinc (v := x2_2) (lv' := [(0, .ref (g.1 + 353)), (1, .int x1), (2, .int x2_2), (3, .int x3)]) dX9_relates_185 (q := 2) rfl (by rw [ex2_2]; rfl) (by decide) [1, 2, 0, 3] rfl  ?_
      refine J_goto (tgt := 22) dX9_relates_188 (by decide)  ?_
      refine J_sub (lv' := [(0, .ref (g.1 + 353)), (1, .int x1), (2, .int x2_2)]) [0, 1, 2] rfl ?_
      exact hR22 _ _ _  h
    · have h := h.2 c_1
      refine J_iconst (v := 0) dX9_relates_40 (by decide)  ?_
      refine J_istore (lv' := [(0, .ref (g.1 + 353)), (1, .int x1), (2, .int x2), (3, .int x3), (4, .int 0)]) dX9_relates_41 (by decide) [1, 2, 3, 4, 0] rfl  ?_
      obtain ⟨n, h⟩ := h
      exact l_X9_relates_43  _ _ _ hR22 (fun y1 y2 y3 S  h => ih y1 y2 y3 S  h)  n _ _ _ _ _  h
def q_X9_relates_22   (Q : Sto → Prop) : Nat → Int32 → Int32 → Sto → Prop
  | 0, _, _, _ => False
  | n + 1, x1, x2, S => (((S.1 353 41) ≤ x2 → ∀ S_2 : Sto, S_2 = uA S 353 38 0 → (∃ n_198, q_X9_relates_198   Q n_198 0 S_2)) ∧ (¬ (S.1 353 41) ≤ x2 → (∃ n_32, q_X9_relates_32  (fun y1 y2 S => q_X9_relates_22   Q n y1 y2 S) Q n_32 x1 x2 0 S)))
set_option maxRecDepth 100000 in
set_option maxHeartbeats 4000000 in
theorem l_X9_relates_22 {g : Gv}   (Q : Sto → Prop)   (n : Nat) : ∀ (x1 : Int32) (x2 : Int32) (S : Sto)  (h : q_X9_relates_22   Q n x1 x2 S), RJ g cX9_relates RX9 none 7 4 22 [(0, .ref (g.1 + 353)), (1, .int x1), (2, .int x2)] [] S (Qv Q) := by
  induction n with
  | zero => intro x1 x2 S  h; exact h.elim
  | succ n ih =>
    intro x1 x2 S  h
    unfold q_X9_relates_22 at h
    refine J_iload_n dX9_relates_22 rfl 2 rfl  ?_
    refine J_aload_n dX9_relates_23 rfl 0 rfl  ?_
    refine J_geti (ci := 7) dX9_relates_24 41 rfl giX9 (by decide) (by decide) rfl rfl tb_4_152 rfl  ?_
    refine J_icmp_ge (tgt := 191) dX9_relates_27 (by decide) (fun c_1 => ?_) (fun c_1 => ?_)
    · have h := h.1 c_1
      refine J_aload_n dX9_relates_191 rfl 0 rfl  ?_
      refine J_iconst (v := 0) dX9_relates_192 (by decide)  ?_
      refine J_puti (ci := 7) dX9_relates_193 38 rfl giX9 (by decide) (by decide) rfl rfl tyX9 tyX9_ok nmX9 rfl rfl rfl rfl tb_4_149 rfl  ?_
      refine J_nmS (fun S_2 eS_2 => ?_)
      have h := h S_2 eS_2
      refine J_iconst (v := 0) dX9_relates_196 (by decide)  ?_
      refine J_istore_n (lv' := [(0, .ref (g.1 + 353)), (2, .int 0)]) dX9_relates_197 rfl (by decide) [1, 0] rfl  ?_
      obtain ⟨n, h⟩ := h
      exact l_X9_relates_198   _   n _ _  h
    · have h := h.2 c_1
      refine J_iconst (v := 0) dX9_relates_30 (by decide)  ?_
      refine J_istore_n (lv' := [(0, .ref (g.1 + 353)), (1, .int x1), (2, .int x2), (3, .int 0)]) dX9_relates_31 rfl (by decide) [1, 2, 3, 0] rfl  ?_
      obtain ⟨n, h⟩ := h
      exact l_X9_relates_32  _ _ (fun y1 y2 S  h => ih y1 y2 S  h)  n _ _ _ _  h
def wp_X9_relates  (S : Sto) (Q : Sto → Prop) : Prop := ∀ x1_1 : Int32, x1_1 = (S.1 353 39) + ((S.1 353 41) * (S.1 353 3)) → wp_X9_begin x1_1 S (fun S_2 => (∃ n_22, q_X9_relates_22   Q n_22 x1_1 0 S_2))
set_option maxRecDepth 100000 in
set_option maxHeartbeats 4000000 in
theorem c_X9_relates {g : Gv}   (S : Sto) (Q : Sto → Prop) (h : wp_X9_relates  S Q) : CT g yX9_relates cX9_relates 7 none 4 [.ref (g.1 + 353)] S (Qv Q) := by
  unfold wp_X9_relates at h
  refine CT.of (by decide) (Nat.le_of_ble_eq_true rfl) ?_
  refine J_sub (lv' := [(0, .ref (g.1 + 353))]) [0] rfl ?_
  refine J_aload_n dX9_relates_0 rfl 0 rfl  ?_
  refine J_geti (ci := 7) dX9_relates_1 39 rfl giX9 (by decide) (by decide) rfl rfl tb_4_150 rfl  ?_
  refine J_aload_n dX9_relates_4 rfl 0 rfl  ?_
  refine J_geti (ci := 7) dX9_relates_5 41 rfl giX9 (by decide) (by decide) rfl rfl tb_4_152 rfl  ?_
  refine J_aload_n dX9_relates_8 rfl 0 rfl  ?_
  refine J_geti (ci := 7) dX9_relates_9 3 rfl giX9 (by decide) (by decide) rfl rfl tb_4_114 rfl  ?_
  refine J_imul dX9_relates_12  ?_
  refine J_iadd dX9_relates_13  ?_
  refine J_topi (fun x1_1 ex1_1 => ?_)
  have h := h x1_1 ex1_1
  refine J_istore_n (lv' := [(0, .ref (g.1 + 353)), (1, .int x1_1)]) dX9_relates_14 rfl (by decide) [1, 0] rfl  ?_
  refine J_aload_n dX9_relates_15 rfl 0 rfl  ?_
  refine J_iload_n dX9_relates_16 rfl 1 rfl  ?_
  refine J_callV (h := 353) (ci := 7) (As := [.int x1_1]) (rest := []) (n := 1) dX9_relates_17 (c_X9_begin x1_1  _ _ h) (by decide) rfl tb_5_72 tb_5_69 tb_1_8 tb_5_71 sl_35 (by decide) rfl (by decide) (by decide) (Nat.le_of_ble_eq_true rfl) rfl (fun v_r_3 S_2 hq => ?_)
  obtain ⟨rfl, h⟩ := hq
  dsimp only [Option.toList, List.cons_append, List.nil_append]
  refine J_iconst (v := 0) dX9_relates_20 (by decide)  ?_
  refine J_istore_n (lv' := [(0, .ref (g.1 + 353)), (1, .int x1_1), (2, .int 0)]) dX9_relates_21 rfl (by decide) [1, 2, 0] rfl  ?_
  obtain ⟨n, h⟩ := h
  exact l_X9_relates_22   _   n _ _ _  h
def q_X9_step_109 (p1 : Int32)  (Q : Int32 → Sto → Prop) : Nat → Int32 → Sto → Prop
  | 0, _, _ => False
  | n + 1, x2, S => ((p1 ≤ x2 → wp_X9_needs  S (fun r_3 S_2 => Q r_3 S_2)) ∧ (¬ p1 ≤ x2 → wp_X9_needs  S (fun r_5 S_4 => ((¬ r_5 = 0 → wp_X9_relates  S_4 (fun S_7 => ∀ x2_9 : Int32, x2_9 = x2 + 1 → q_X9_step_109 p1  Q n x2_9 S_7)) ∧ (r_5 = 0 → Q 0 S_4)))))
set_option maxRecDepth 100000 in
set_option maxHeartbeats 4000000 in
theorem l_X9_step_109 {g : Gv} (p1 : Int32)  (Q : Int32 → Sto → Prop)   (n : Nat) : ∀ (x2 : Int32) (S : Sto)  (h : q_X9_step_109 p1  Q n x2 S), RJ g cX9_step RX9 (some .int) 4 6 109 [(0, .ref (g.1 + 353)), (1, .int p1), (2, .int x2)] [] S (Qi Q) := by
  induction n with
  | zero => intro x2 S  h; exact h.elim
  | succ n ih =>
    intro x2 S  h
    unfold q_X9_step_109 at h
    refine J_iload_n dX9_step_109 rfl 2 rfl  ?_
    refine J_iload_n dX9_step_110 rfl 1 rfl  ?_
    refine J_icmp_ge (tgt := 133) dX9_step_111 (by decide) (fun c_1 => ?_) (fun c_1 => ?_)
    · have h := h.1 c_1
      refine J_aload_n dX9_step_133 rfl 0 rfl  ?_
      refine J_callV (h := 353) (ci := 7) (As := []) (rest := []) (n := 0) dX9_step_134 (c_X9_needs   _ _ h) (by decide) rfl tb_6_39 tb_6_36 tb_1_8 tb_6_38 sl_58 (by decide) rfl (by decide) (by decide) (Nat.le_of_ble_eq_true rfl) rfl (fun v_r_3 S_2 hq => ?_)
      obtain ⟨r_3, rfl, h⟩ := hq
      dsimp only [Option.toList, List.cons_append, List.nil_append]
      exact J_iret dX9_step_137 rfl rfl ⟨_, rfl, h⟩
    · have h := h.2 c_1
      refine J_aload_n dX9_step_114 rfl 0 rfl  ?_
      refine J_callV (h := 353) (ci := 7) (As := []) (rest := []) (n := 0) dX9_step_115 (c_X9_needs   _ _ h) (by decide) rfl tb_6_39 tb_6_36 tb_1_8 tb_6_38 sl_58 (by decide) rfl (by decide) (by decide) (Nat.le_of_ble_eq_true rfl) rfl (fun v_r_5 S_4 hq => ?_)
      obtain ⟨r_5, rfl, h⟩ := hq
      dsimp only [Option.toList, List.cons_append, List.nil_append]
      refine J_if_ne (tgt := 123) dX9_step_118 (by decide) (fun c_6 => ?_) (fun c_6 => ?_)
      · have h := h.1 c_6
        refine J_aload_n dX9_step_123 rfl 0 rfl  ?_
        refine J_callV (h := 353) (ci := 7) (As := []) (rest := []) (n := 0) dX9_step_124 (c_X9_relates   _ _ h) (by decide) rfl tb_6_47 tb_6_44 tb_1_8 tb_6_46 sl_60 (by decide) rfl (by decide) (by decide) (Nat.le_of_ble_eq_true rfl) rfl (fun v_r_8 S_7 hq => ?_)
        obtain ⟨rfl, h⟩ := hq
        dsimp only [Option.toList, List.cons_append, List.nil_append]
        obtain ⟨x2_9, ex2_9⟩ : ∃ y : Int32, y = x2 + 1 := ⟨_, rfl⟩
        have h := h x2_9 ex2_9
        refine J_iinc (v := x2_9) (lv' := [(0, .ref (g.1 + 353)), (1, .int p1), (2, .int x2_9)]) dX9_step_127 (q := 2) rfl (by rw [ex2_9]; rfl) (by decide) [1, 2, 0] rfl  ?_
        refine J_goto (tgt := 109) dX9_step_130 (by decide)  ?_
        exact ih _ _  h
      · have h := h.2 c_6
        refine J_iconst (v := 0) dX9_step_121 (by decide)  ?_
        exact J_iret dX9_step_122 rfl rfl ⟨_, rfl, h⟩
def q_X9_step_63 (p1 : Int32) (R53 : Int32 → Sto → Prop) (Q : Int32 → Sto → Prop) : Nat → Int32 → Int32 → Sto → Prop
  | 0, _, _, _ => False
  | n + 1, x2, x3, S => (((S.1 353 3) ≤ x3 → ∀ x2_2 : Int32, x2_2 = x2 + 1 → R53 x2_2 S) ∧ (¬ (S.1 353 3) ≤ x3 → vp_in ((256 * x2) + x3) (65536) ∧ vp_in ((256 * x2) + x3) (65536) ∧ ∀ S_5 : Sto, S_5 = uA S 377 ((256 * x2) + x3 : Int32).toNatClampNeg (S.1 366 ((256 * x2) + x3 : Int32).toNatClampNeg) → ∀ x3_6 : Int32, x3_6 = x3 + 1 → q_X9_step_63 p1 R53 Q n x2 x3_6 S_5))
set_option maxRecDepth 100000 in
set_option maxHeartbeats 4000000 in
theorem l_X9_step_63 {g : Gv} (p1 : Int32) (R53 : Int32 → Sto → Prop) (Q : Int32 → Sto → Prop) (hR53 : ∀ (y2 : Int32) (S : Sto), R53 y2 S → RJ g cX9_step RX9 (some .int) 4 6 53 [(0, .ref (g.1 + 353)), (1, .int p1), (2, .int y2)] [] S (Qi Q))  (n : Nat) : ∀ (x2 : Int32) (x3 : Int32) (S : Sto)  (h : q_X9_step_63 p1 R53 Q n x2 x3 S), RJ g cX9_step RX9 (some .int) 4 6 63 [(0, .ref (g.1 + 353)), (1, .int p1), (2, .int x2), (3, .int x3)] [] S (Qi Q) := by
  induction n with
  | zero => intro x2 x3 S  h; exact h.elim
  | succ n ih =>
    intro x2 x3 S  h
    unfold q_X9_step_63 at h
    refine J_iload_n dX9_step_63 rfl 3 rfl  ?_
    refine J_aload_n dX9_step_64 rfl 0 rfl  ?_
    refine J_geti (ci := 7) dX9_step_65 3 rfl giX9 (by decide) (by decide) rfl rfl tb_4_114 rfl  ?_
    refine J_icmp_ge (tgt := 101) dX9_step_68 (by decide) (fun c_1 => ?_) (fun c_1 => ?_)
    · have h := h.1 c_1
      obtain ⟨x2_2, ex2_2⟩ : ∃ y : Int32, y = x2 + 1 := ⟨_, rfl⟩
      have h := h x2_2 ex2_2
      refine J_iinc (v := x2_2) (lv' := [(0, .ref (g.1 + 353)), (1, .int p1), (2, .int x2_2), (3, .int x3)]) dX9_step_101 (q := 2) rfl (by rw [ex2_2]; rfl) (by decide) [1, 2, 0, 3] rfl  ?_
      refine J_goto (tgt := 53) dX9_step_104 (by decide)  ?_
      refine J_sub (lv' := [(0, .ref (g.1 + 353)), (1, .int p1), (2, .int x2_2)]) [0, 1, 2] rfl ?_
      exact hR53 _ _  h
    · have h := h.2 c_1
      refine J_aload_n dX9_step_71 rfl 0 rfl  ?_
      refine J_getr (r := 377) (ci := 7) dX9_step_72 37 rfl giX9 (by decide) (by decide) rfl rfl tb_4_148 (by decide) (by decide)  ?_
      refine J_sipush (v := 256) dX9_step_75 (by decide)  ?_
      refine J_iload_n dX9_step_78 rfl 2 rfl  ?_
      refine J_imul dX9_step_79  ?_
      refine J_iload_n dX9_step_80 rfl 3 rfl  ?_
      refine J_iadd dX9_step_81  ?_
      refine J_aload_n dX9_step_82 rfl 0 rfl  ?_
      refine J_getr (r := 366) (ci := 7) dX9_step_83 22 rfl giX9 (by decide) (by decide) rfl rfl tb_4_133 (by decide) (by decide)  ?_
      refine J_sipush (v := 256) dX9_step_86 (by decide)  ?_
      refine J_iload_n dX9_step_89 rfl 2 rfl  ?_
      refine J_imul dX9_step_90  ?_
      refine J_iload_n dX9_step_91 rfl 3 rfl  ?_
      refine J_iadd dX9_step_92  ?_
      obtain ⟨hi_3, h⟩ := h
      refine J_iald dX9_step_93 (by decide) hi_3  ?_
      obtain ⟨hi_4, h⟩ := h
      refine J_iast dX9_step_94 (by decide) hi_4  ?_
      refine J_nmS (fun S_5 eS_5 => ?_)
      have h := h S_5 eS_5
      obtain ⟨x3_6, ex3_6⟩ : ∃ y : Int32, y = x3 + 1 := ⟨_, rfl⟩
      have h := h x3_6 ex3_6
      refine J_iinc (v := x3_6) (lv' := [(0, .ref (g.1 + 353)), (1, .int p1), (2, .int x2), (3, .int x3_6)]) dX9_step_95 (q := 3) rfl (by rw [ex3_6]; rfl) (by decide) [1, 2, 3, 0] rfl  ?_
      refine J_goto (tgt := 63) dX9_step_98 (by decide)  ?_
      exact ih _ _ _  h
def q_X9_step_53 (p1 : Int32)  (Q : Int32 → Sto → Prop) : Nat → Int32 → Sto → Prop
  | 0, _, _ => False
  | n + 1, x2, S => (((S.1 353 25) ≤ x2 → (∃ n_109, q_X9_step_109 p1  Q n_109 0 S)) ∧ (¬ (S.1 353 25) ≤ x2 → (∃ n_63, q_X9_step_63 p1 (fun y2 S => q_X9_step_53 p1  Q n y2 S) Q n_63 x2 0 S)))
set_option maxRecDepth 100000 in
set_option maxHeartbeats 4000000 in
theorem l_X9_step_53 {g : Gv} (p1 : Int32)  (Q : Int32 → Sto → Prop)   (n : Nat) : ∀ (x2 : Int32) (S : Sto)  (h : q_X9_step_53 p1  Q n x2 S), RJ g cX9_step RX9 (some .int) 4 6 53 [(0, .ref (g.1 + 353)), (1, .int p1), (2, .int x2)] [] S (Qi Q) := by
  induction n with
  | zero => intro x2 S  h; exact h.elim
  | succ n ih =>
    intro x2 S  h
    unfold q_X9_step_53 at h
    refine J_iload_n dX9_step_53 rfl 2 rfl  ?_
    refine J_aload_n dX9_step_54 rfl 0 rfl  ?_
    refine J_geti (ci := 7) dX9_step_55 25 rfl giX9 (by decide) (by decide) rfl rfl tb_4_136 rfl  ?_
    refine J_icmp_ge (tgt := 107) dX9_step_58 (by decide) (fun c_1 => ?_) (fun c_1 => ?_)
    · have h := h.1 c_1
      refine J_iconst (v := 0) dX9_step_107 (by decide)  ?_
      refine J_istore_n (lv' := [(0, .ref (g.1 + 353)), (1, .int p1), (2, .int 0)]) dX9_step_108 rfl (by decide) [1, 2, 0] rfl  ?_
      obtain ⟨n, h⟩ := h
      exact l_X9_step_109 p1  _   n _ _  h
    · have h := h.2 c_1
      refine J_iconst (v := 0) dX9_step_61 (by decide)  ?_
      refine J_istore_n (lv' := [(0, .ref (g.1 + 353)), (1, .int p1), (2, .int x2), (3, .int 0)]) dX9_step_62 rfl (by decide) [1, 2, 3, 0] rfl  ?_
      obtain ⟨n, h⟩ := h
      exact l_X9_step_63 p1 _ _ (fun y2 S  h => ih y2 S  h)  n _ _ _  h
def q_X9_step_30 (p1 : Int32)  (Q : Int32 → Sto → Prop)  (S : Sto) : Prop := wp_X9_spans 0 S (fun S_1 => ∀ S_3 : Sto, S_3 = uA S_1 353 39 (S_1.1 353 3) → ∀ S_4 : Sto, S_4 = uA S_3 353 38 (S_3.1 353 25) → (∃ n_53, q_X9_step_53 p1  Q n_53 0 S_4))
set_option maxRecDepth 100000 in
set_option maxHeartbeats 4000000 in
theorem l_X9_step_30 {g : Gv} (p1 : Int32)  (Q : Int32 → Sto → Prop)    (S : Sto)  (h : q_X9_step_30 p1  Q  S) : RJ g cX9_step RX9 (some .int) 4 6 30 [(0, .ref (g.1 + 353)), (1, .int p1)] [] S (Qi Q) := by
  unfold q_X9_step_30 at h
  refine J_aload_n dX9_step_30 rfl 0 rfl  ?_
  refine J_iconst (v := 0) dX9_step_31 (by decide)  ?_
  refine J_callV (h := 353) (ci := 7) (As := [.int 0]) (rest := []) (n := 1) dX9_step_32 (c_X9_spans 0  _ _ h) (by decide) rfl tb_5_64 tb_5_61 tb_1_8 tb_5_63 sl_33 (by decide) rfl (by decide) (by decide) (Nat.le_of_ble_eq_true rfl) rfl (fun v_r_2 S_1 hq => ?_)
  obtain ⟨rfl, h⟩ := hq
  dsimp only [Option.toList, List.cons_append, List.nil_append]
  refine J_aload_n dX9_step_35 rfl 0 rfl  ?_
  refine J_aload_n dX9_step_36 rfl 0 rfl  ?_
  refine J_geti (ci := 7) dX9_step_37 3 rfl giX9 (by decide) (by decide) rfl rfl tb_4_114 rfl  ?_
  refine J_puti (ci := 7) dX9_step_40 39 rfl giX9 (by decide) (by decide) rfl rfl tyX9 tyX9_ok nmX9 rfl rfl rfl rfl tb_4_150 rfl  ?_
  refine J_nmS (fun S_3 eS_3 => ?_)
  have h := h S_3 eS_3
  refine J_aload_n dX9_step_43 rfl 0 rfl  ?_
  refine J_aload_n dX9_step_44 rfl 0 rfl  ?_
  refine J_geti (ci := 7) dX9_step_45 25 rfl giX9 (by decide) (by decide) rfl rfl tb_4_136 rfl  ?_
  refine J_puti (ci := 7) dX9_step_48 38 rfl giX9 (by decide) (by decide) rfl rfl tyX9 tyX9_ok nmX9 rfl rfl rfl rfl tb_4_149 rfl  ?_
  refine J_nmS (fun S_4 eS_4 => ?_)
  have h := h S_4 eS_4
  refine J_iconst (v := 0) dX9_step_51 (by decide)  ?_
  refine J_istore_n (lv' := [(0, .ref (g.1 + 353)), (1, .int p1), (2, .int 0)]) dX9_step_52 rfl (by decide) [1, 2, 0] rfl  ?_
  obtain ⟨n, h⟩ := h
  exact l_X9_step_53 p1  _   n _ _  h
def wp_X9_step (p1 : Int32) (S : Sto) (Q : Int32 → Sto → Prop) : Prop := wp_X9_in ((p1 : Int32).toInt64) 0 2 S (fun r_2 S_1 => ((¬ r_2 = 0 → ((¬ p1 = 2 → q_X9_step_30 p1  Q  S_1) ∧ (p1 = 2 → ((¬ (S_1.1 353 0) = 4 → q_X9_step_30 p1  Q  S_1) ∧ ((S_1.1 353 0) = 4 → Q ((-3)) S_1))))) ∧ (r_2 = 0 → Q ((-1)) S_1)))
set_option maxRecDepth 100000 in
set_option maxHeartbeats 4000000 in
theorem c_X9_step {g : Gv} (p1 : Int32)  (S : Sto) (Q : Int32 → Sto → Prop) (h : wp_X9_step p1 S Q) : CT g yX9_step cX9_step 4 (some .int) 6 [.ref (g.1 + 353), .int p1] S (Qi Q) := by
  unfold wp_X9_step at h
  refine CT.of (by decide) (Nat.le_of_ble_eq_true rfl) ?_
  refine J_sub (lv' := [(0, .ref (g.1 + 353)), (1, .int p1)]) [0, 1] rfl ?_
  refine J_iload_n dX9_step_0 rfl 1 rfl  ?_
  refine J_i2l dX9_step_1  ?_
  refine J_lconst (v := 0) dX9_step_2 (by decide)  ?_
  refine J_ldc2 (v := 2) dX9_step_3 tb_5_5  ?_
  refine J_callS (As := [.long ((p1 : Int32).toInt64), .long 0, .long 2]) (rest := []) (n := 3) dX9_step_6 (c_X9_in ((p1 : Int32).toInt64) 0 2  _ _ h) tb_5_9 tb_5_7 tb_1_8 tb_5_8 (by decide) rfl (by decide) (by decide) (Nat.le_of_ble_eq_true rfl) rfl (fun v_r_2 S_1 hq => ?_)
  obtain ⟨r_2, rfl, h⟩ := hq
  dsimp only [Option.toList, List.cons_append, List.nil_append]
  refine J_if_ne (tgt := 14) dX9_step_9 (by decide) (fun c_3 => ?_) (fun c_3 => ?_)
  · have h := h.1 c_3
    refine J_iload_n dX9_step_14 rfl 1 rfl  ?_
    refine J_iconst (v := 2) dX9_step_15 (by decide)  ?_
    refine J_icmp_ne (tgt := 30) dX9_step_16 (by decide) (fun c_4 => ?_) (fun c_4 => ?_)
    · have h := h.1 c_4
      exact l_X9_step_30 p1  _    _  h
    · have h := h.2 c_4
      refine J_aload_n dX9_step_19 rfl 0 rfl  ?_
      refine J_geti (ci := 7) dX9_step_20 0 rfl giX9 (by decide) (by decide) rfl rfl tb_4_111 rfl  ?_
      refine J_iconst (v := 4) dX9_step_23 (by decide)  ?_
      refine J_icmp_ne (tgt := 30) dX9_step_24 (by decide) (fun c_5 => ?_) (fun c_5 => ?_)
      · have h := h.1 c_5
        exact l_X9_step_30 p1  _    _  h
      · have h := h.2 c_5
        refine J_bipush (v := (-3)) dX9_step_27 (by decide)  ?_
        exact J_iret dX9_step_29 rfl rfl ⟨_, rfl, h⟩
  · have h := h.2 c_3
    refine J_iconst (v := (-1)) dX9_step_12 (by decide)  ?_
    exact J_iret dX9_step_13 rfl rfl ⟨_, rfl, h⟩
def q_X9_fits_33 (p1 : Int32) (p2 : Int32) (p3 : Int32) (p4 : Int32)  (Q : Int32 → Sto → Prop)  (S : Sto) : Prop := Q ((-1)) S
set_option maxRecDepth 100000 in
set_option maxHeartbeats 4000000 in
theorem l_X9_fits_33 {g : Gv} (p1 : Int32) (p2 : Int32) (p3 : Int32) (p4 : Int32)  (Q : Int32 → Sto → Prop)    (S : Sto)  (h : q_X9_fits_33 p1 p2 p3 p4  Q  S) : RJ g cX9_fits RX9 (some .int) 10 6 33 [(0, .ref (g.1 + 353)), (1, .int p1), (2, .int p2), (3, .int p3), (4, .int p4)] [] S (Qi Q) := by
  unfold q_X9_fits_33 at h
  refine J_iconst (v := (-1)) dX9_fits_33 (by decide)  ?_
  exact J_iret dX9_fits_34 rfl rfl ⟨_, rfl, h⟩
def q_X9_fits_131 (p1 : Int32) (p2 : Int32) (p3 : Int32) (p4 : Int32)  (Q : Int32 → Sto → Prop) (t0 : Int32) (S : Sto) : Prop := Q t0 S
set_option maxRecDepth 100000 in
set_option maxHeartbeats 4000000 in
theorem l_X9_fits_131 {g : Gv} (p1 : Int32) (p2 : Int32) (p3 : Int32) (p4 : Int32)  (Q : Int32 → Sto → Prop)   (t0 : Int32) (S : Sto)  (h : q_X9_fits_131 p1 p2 p3 p4  Q t0 S) : RJ g cX9_fits RX9 (some .int) 10 6 131 [(0, .ref (g.1 + 353)), (1, .int p1), (2, .int p2), (3, .int p3), (4, .int p4)] [.int t0] S (Qi Q) := by
  unfold q_X9_fits_131 at h
  exact J_iret dX9_fits_131 rfl rfl ⟨_, rfl, h⟩
def q_X9_fits_104 (p1 : Int32) (p2 : Int32) (p3 : Int32) (p4 : Int32) (R72 : Int32 → Int32 → Int32 → Int32 → Int32 → Sto → Prop) (Q : Int32 → Sto → Prop) (x5 : Int32) (x6 : Int32) (x7 : Int32) (x8 : Int32) (x9 : Int32) (S : Sto) : Prop := ∀ x9_1 : Int32, x9_1 = x9 + (-1) → R72 x5 x6 x7 x8 x9_1 S
set_option maxRecDepth 100000 in
set_option maxHeartbeats 4000000 in
theorem l_X9_fits_104 {g : Gv} (p1 : Int32) (p2 : Int32) (p3 : Int32) (p4 : Int32) (R72 : Int32 → Int32 → Int32 → Int32 → Int32 → Sto → Prop) (Q : Int32 → Sto → Prop) (hR72 : ∀ (y5 : Int32) (y6 : Int32) (y7 : Int32) (y8 : Int32) (y9 : Int32) (S : Sto), R72 y5 y6 y7 y8 y9 S → RJ g cX9_fits RX9 (some .int) 10 6 72 [(0, .ref (g.1 + 353)), (1, .int p1), (2, .int p2), (3, .int p3), (4, .int p4), (5, .int y5), (6, .int y6), (7, .int y7), (8, .int y8), (9, .int y9)] [] S (Qi Q))  (x5 : Int32) (x6 : Int32) (x7 : Int32) (x8 : Int32) (x9 : Int32) (S : Sto)  (h : q_X9_fits_104 p1 p2 p3 p4 R72 Q x5 x6 x7 x8 x9 S) : RJ g cX9_fits RX9 (some .int) 10 6 104 [(0, .ref (g.1 + 353)), (1, .int p1), (2, .int p2), (3, .int p3), (4, .int p4), (5, .int x5), (6, .int x6), (7, .int x7), (8, .int x8), (9, .int x9)] [] S (Qi Q) := by
  unfold q_X9_fits_104 at h
  obtain ⟨x9_1, ex9_1⟩ : ∃ y : Int32, y = x9 + (-1) := ⟨_, rfl⟩
  have h := h x9_1 ex9_1
  refine J_iinc (v := x9_1) (lv' := [(0, .ref (g.1 + 353)), (1, .int p1), (2, .int p2), (3, .int p3), (4, .int p4), (5, .int x5), (6, .int x6), (7, .int x7), (8, .int x8), (9, .int x9_1)]) dX9_fits_104 (q := 9) rfl (by rw [ex9_1]; rfl) (by decide) [1, 2, 3, 4, 5, 6, 7, 8, 9, 0] rfl  ?_
  refine J_goto (tgt := 72) dX9_fits_107 (by decide)  ?_
  exact hR72 _ _ _ _ _ _  h
def q_X9_fits_72 (p1 : Int32) (p2 : Int32) (p3 : Int32) (p4 : Int32)  (Q : Int32 → Sto → Prop) : Nat → Int32 → Int32 → Int32 → Int32 → Int32 → Sto → Prop
  | 0, _, _, _, _, _, _ => False
  | n + 1, x5, x6, x7, x8, x9, S => ((x9 < 0 → vp_in x5 (96) ∧ ∀ S_3 : Sto, S_3 = uA S 354 (x5 : Int32).toNatClampNeg x6 → ((¬ p4 = 0 → q_X9_fits_131 p1 p2 p3 p4  Q x8 S_3) ∧ (p4 = 0 → q_X9_fits_131 p1 p2 p3 p4  Q x7 S_3))) ∧ (¬ x9 < 0 → vp_in x5 (96) ∧ ∀ S_6 : Sto, S_6 = uA S 354 (x5 : Int32).toNatClampNeg x9 → wp_X9_liesWithin p2 S_6 (fun r_8 S_7 => ((¬ r_8 = 0 → ∀ x7_10 : Int32, x7_10 = x7 + 1 → q_X9_fits_104 p1 p2 p3 p4 (fun y5 y6 y7 y8 y9 S => q_X9_fits_72 p1 p2 p3 p4  Q n y5 y6 y7 y8 y9 S) Q x5 x6 x7_10 x9 x9 S_7) ∧ (r_8 = 0 → q_X9_fits_104 p1 p2 p3 p4 (fun y5 y6 y7 y8 y9 S => q_X9_fits_72 p1 p2 p3 p4  Q n y5 y6 y7 y8 y9 S) Q x5 x6 x7 x8 x9 S_7)))))
set_option maxRecDepth 100000 in
set_option maxHeartbeats 4000000 in
theorem l_X9_fits_72 {g : Gv} (p1 : Int32) (p2 : Int32) (p3 : Int32) (p4 : Int32)  (Q : Int32 → Sto → Prop)   (n : Nat) : ∀ (x5 : Int32) (x6 : Int32) (x7 : Int32) (x8 : Int32) (x9 : Int32) (S : Sto)  (h : q_X9_fits_72 p1 p2 p3 p4  Q n x5 x6 x7 x8 x9 S), RJ g cX9_fits RX9 (some .int) 10 6 72 [(0, .ref (g.1 + 353)), (1, .int p1), (2, .int p2), (3, .int p3), (4, .int p4), (5, .int x5), (6, .int x6), (7, .int x7), (8, .int x8), (9, .int x9)] [] S (Qi Q) := by
  induction n with
  | zero => intro x5 x6 x7 x8 x9 S  h; exact h.elim
  | succ n ih =>
    intro x5 x6 x7 x8 x9 S  h
    unfold q_X9_fits_72 at h
    refine J_iload dX9_fits_72 9 rfl  ?_
    refine J_if_lt (tgt := 110) dX9_fits_74 (by decide) (fun c_1 => ?_) (fun c_1 => ?_)
    · have h := h.1 c_1
      refine J_aload_n dX9_fits_110 rfl 0 rfl  ?_
      refine J_getr (r := 354) (ci := 7) dX9_fits_111 4 rfl giX9 (by decide) (by decide) rfl rfl tb_4_115 (by decide) (by decide)  ?_
      refine J_iload dX9_fits_114 5 rfl  ?_
      refine J_iload dX9_fits_116 6 rfl  ?_
      obtain ⟨hi_2, h⟩ := h
      refine J_iast dX9_fits_118 (by decide) hi_2  ?_
      refine J_nmS (fun S_3 eS_3 => ?_)
      have h := h S_3 eS_3
      refine J_iload dX9_fits_119 4 rfl  ?_
      refine J_if_ne (tgt := 129) dX9_fits_121 (by decide) (fun c_4 => ?_) (fun c_4 => ?_)
      · have h := h.1 c_4
        refine J_iload dX9_fits_129 8 rfl  ?_
        refine J_sub (lv' := [(0, .ref (g.1 + 353)), (1, .int p1), (2, .int p2), (3, .int p3), (4, .int p4)]) [0, 1, 2, 3, 4] rfl ?_
        exact l_X9_fits_131 p1 p2 p3 p4  _   _ _  h
      · have h := h.2 c_4
        refine J_iload dX9_fits_124 7 rfl  ?_
        refine J_goto (tgt := 131) dX9_fits_126 (by decide)  ?_
        refine J_sub (lv' := [(0, .ref (g.1 + 353)), (1, .int p1), (2, .int p2), (3, .int p3), (4, .int p4)]) [0, 1, 2, 3, 4] rfl ?_
        exact l_X9_fits_131 p1 p2 p3 p4  _   _ _  h
    · have h := h.2 c_1
      refine J_aload_n dX9_fits_77 rfl 0 rfl  ?_
      refine J_getr (r := 354) (ci := 7) dX9_fits_78 4 rfl giX9 (by decide) (by decide) rfl rfl tb_4_115 (by decide) (by decide)  ?_
      refine J_iload dX9_fits_81 5 rfl  ?_
      refine J_iload dX9_fits_83 9 rfl  ?_
      obtain ⟨hi_5, h⟩ := h
      refine J_iast dX9_fits_85 (by decide) hi_5  ?_
      refine J_nmS (fun S_6 eS_6 => ?_)
      have h := h S_6 eS_6
      refine J_aload_n dX9_fits_86 rfl 0 rfl  ?_
      refine J_iload_n dX9_fits_87 rfl 2 rfl  ?_
      refine J_callV (h := 353) (ci := 7) (As := [.int p2]) (rest := []) (n := 1) dX9_fits_88 (c_X9_liesWithin p2  _ _ h) (by decide) rfl tb_5_204 tb_5_201 tb_1_8 tb_5_203 sl_52 (by decide) rfl (by decide) (by decide) (Nat.le_of_ble_eq_true rfl) rfl (fun v_r_8 S_7 hq => ?_)
      obtain ⟨r_8, rfl, h⟩ := hq
      dsimp only [Option.toList, List.cons_append, List.nil_append]
      refine J_if_ne (tgt := 97) dX9_fits_91 (by decide) (fun c_9 => ?_) (fun c_9 => ?_)
      · have h := h.1 c_9
        obtain ⟨x7_10, ex7_10⟩ : ∃ y : Int32, y = x7 + 1 := ⟨_, rfl⟩
        have h := h x7_10 ex7_10
        refine J_iinc (v := x7_10) (lv' := [(0, .ref (g.1 + 353)), (1, .int p1), (2, .int p2), (3, .int p3), (4, .int p4), (5, .int x5), (6, .int x6), (7, .int x7_10), (8, .int x8), (9, .int x9)]) dX9_fits_97 (q := 7) rfl (by rw [ex7_10]; rfl) (by decide) [1, 2, 3, 4, 5, 6, 7, 0, 8, 9] rfl  ?_
        refine J_iload dX9_fits_100 9 rfl  ?_
        refine J_istore (lv' := [(0, .ref (g.1 + 353)), (1, .int p1), (2, .int p2), (3, .int p3), (4, .int p4), (5, .int x5), (6, .int x6), (7, .int x7_10), (8, .int x9), (9, .int x9)]) dX9_fits_102 (by decide) [1, 2, 3, 4, 5, 6, 7, 8, 0, 9] rfl  ?_
        exact l_X9_fits_104 p1 p2 p3 p4 _ _ (fun y5 y6 y7 y8 y9 S  h => ih y5 y6 y7 y8 y9 S  h)  _ _ _ _ _ _  h
      · have h := h.2 c_9
        refine J_goto (tgt := 104) dX9_fits_94 (by decide)  ?_
        exact l_X9_fits_104 p1 p2 p3 p4 _ _ (fun y5 y6 y7 y8 y9 S  h => ih y5 y6 y7 y8 y9 S  h)  _ _ _ _ _ _  h
def wp_X9_fits (p1 : Int32) (p2 : Int32) (p3 : Int32) (p4 : Int32) (S : Sto) (Q : Int32 → Sto → Prop) : Prop := wp_X9_isSide p1 S (fun r_2 S_1 => ((r_2 = 0 → q_X9_fits_33 p1 p2 p3 p4  Q  S_1) ∧ (¬ r_2 = 0 → wp_X9_isElement p2 S_1 (fun r_5 S_4 => ((r_5 = 0 → q_X9_fits_33 p1 p2 p3 p4  Q  S_4) ∧ (¬ r_5 = 0 → wp_X9_isPlace p3 S_4 (fun r_8 S_7 => ((r_8 = 0 → q_X9_fits_33 p1 p2 p3 p4  Q  S_7) ∧ (¬ r_8 = 0 → wp_X9_in ((p4 : Int32).toInt64) 0 1 S_7 (fun r_11 S_10 => ((¬ r_11 = 0 → wp_X9_spans p1 S_10 (fun S_13 => ∀ x5_15 : Int32, x5_15 = (16 * p2) + p3 → vp_in x5_15 (96) ∧ ∀ x6_17 : Int32, x6_17 = S_13.1 354 (x5_15 : Int32).toNatClampNeg → ∀ x9_18 : Int32, x9_18 = (S_13.1 353 1) - 1 → (∃ n_72, q_X9_fits_72 p1 p2 p3 p4  Q n_72 x5_15 x6_17 0 ((-5)) x9_18 S_13))) ∧ (r_11 = 0 → q_X9_fits_33 p1 p2 p3 p4  Q  S_10))))))))))))
set_option maxRecDepth 100000 in
set_option maxHeartbeats 4000000 in
theorem c_X9_fits {g : Gv} (p1 : Int32) (p2 : Int32) (p3 : Int32) (p4 : Int32)  (S : Sto) (Q : Int32 → Sto → Prop) (h : wp_X9_fits p1 p2 p3 p4 S Q) : CT g yX9_fits cX9_fits 10 (some .int) 6 [.ref (g.1 + 353), .int p1, .int p2, .int p3, .int p4] S (Qi Q) := by
  unfold wp_X9_fits at h
  refine CT.of (by decide) (Nat.le_of_ble_eq_true rfl) ?_
  refine J_sub (lv' := [(0, .ref (g.1 + 353)), (1, .int p1), (2, .int p2), (3, .int p3), (4, .int p4)]) [0, 1, 2, 3, 4] rfl ?_
  refine J_iload_n dX9_fits_0 rfl 1 rfl  ?_
  refine J_callS (As := [.int p1]) (rest := []) (n := 1) dX9_fits_1 (c_X9_isSide p1  _ _ h) tb_5_188 tb_5_186 tb_1_8 tb_5_187 (by decide) rfl (by decide) (by decide) (Nat.le_of_ble_eq_true rfl) rfl (fun v_r_2 S_1 hq => ?_)
  obtain ⟨r_2, rfl, h⟩ := hq
  dsimp only [Option.toList, List.cons_append, List.nil_append]
  refine J_if_eq (tgt := 33) dX9_fits_4 (by decide) (fun c_3 => ?_) (fun c_3 => ?_)
  · have h := h.1 c_3
    exact l_X9_fits_33 p1 p2 p3 p4  _    _  h
  · have h := h.2 c_3
    refine J_iload_n dX9_fits_7 rfl 2 rfl  ?_
    refine J_callS (As := [.int p2]) (rest := []) (n := 1) dX9_fits_8 (c_X9_isElement p2  _ _ h) tb_5_28 tb_5_26 tb_1_8 tb_5_27 (by decide) rfl (by decide) (by decide) (Nat.le_of_ble_eq_true rfl) rfl (fun v_r_5 S_4 hq => ?_)
    obtain ⟨r_5, rfl, h⟩ := hq
    dsimp only [Option.toList, List.cons_append, List.nil_append]
    refine J_if_eq (tgt := 33) dX9_fits_11 (by decide) (fun c_6 => ?_) (fun c_6 => ?_)
    · have h := h.1 c_6
      exact l_X9_fits_33 p1 p2 p3 p4  _    _  h
    · have h := h.2 c_6
      refine J_aload_n dX9_fits_14 rfl 0 rfl  ?_
      refine J_iload_n dX9_fits_15 rfl 3 rfl  ?_
      refine J_callV (h := 353) (ci := 7) (As := [.int p3]) (rest := []) (n := 1) dX9_fits_16 (c_X9_isPlace p3  _ _ h) (by decide) rfl tb_5_33 tb_5_30 tb_1_8 tb_5_32 sl_29 (by decide) rfl (by decide) (by decide) (Nat.le_of_ble_eq_true rfl) rfl (fun v_r_8 S_7 hq => ?_)
      obtain ⟨r_8, rfl, h⟩ := hq
      dsimp only [Option.toList, List.cons_append, List.nil_append]
      refine J_if_eq (tgt := 33) dX9_fits_19 (by decide) (fun c_9 => ?_) (fun c_9 => ?_)
      · have h := h.1 c_9
        exact l_X9_fits_33 p1 p2 p3 p4  _    _  h
      · have h := h.2 c_9
        refine J_iload dX9_fits_22 4 rfl  ?_
        refine J_i2l dX9_fits_24  ?_
        refine J_lconst (v := 0) dX9_fits_25 (by decide)  ?_
        refine J_lconst (v := 1) dX9_fits_26 (by decide)  ?_
        refine J_callS (As := [.long ((p4 : Int32).toInt64), .long 0, .long 1]) (rest := []) (n := 3) dX9_fits_27 (c_X9_in ((p4 : Int32).toInt64) 0 1  _ _ h) tb_5_9 tb_5_7 tb_1_8 tb_5_8 (by decide) rfl (by decide) (by decide) (Nat.le_of_ble_eq_true rfl) rfl (fun v_r_11 S_10 hq => ?_)
        obtain ⟨r_11, rfl, h⟩ := hq
        dsimp only [Option.toList, List.cons_append, List.nil_append]
        refine J_if_ne (tgt := 35) dX9_fits_30 (by decide) (fun c_12 => ?_) (fun c_12 => ?_)
        · have h := h.1 c_12
          refine J_aload_n dX9_fits_35 rfl 0 rfl  ?_
          refine J_iload_n dX9_fits_36 rfl 1 rfl  ?_
          refine J_callV (h := 353) (ci := 7) (As := [.int p1]) (rest := []) (n := 1) dX9_fits_37 (c_X9_spans p1  _ _ h) (by decide) rfl tb_5_64 tb_5_61 tb_1_8 tb_5_63 sl_33 (by decide) rfl (by decide) (by decide) (Nat.le_of_ble_eq_true rfl) rfl (fun v_r_14 S_13 hq => ?_)
          obtain ⟨rfl, h⟩ := hq
          dsimp only [Option.toList, List.cons_append, List.nil_append]
          refine J_bipush (v := 16) dX9_fits_40 (by decide)  ?_
          refine J_iload_n dX9_fits_42 rfl 2 rfl  ?_
          refine J_imul dX9_fits_43  ?_
          refine J_iload_n dX9_fits_44 rfl 3 rfl  ?_
          refine J_iadd dX9_fits_45  ?_
          refine J_topi (fun x5_15 ex5_15 => ?_)
          have h := h x5_15 ex5_15
          refine J_istore (lv' := [(0, .ref (g.1 + 353)), (1, .int p1), (2, .int p2), (3, .int p3), (4, .int p4), (5, .int x5_15)]) dX9_fits_46 (by decide) [1, 2, 3, 4, 5, 0] rfl  ?_
          refine J_aload_n dX9_fits_48 rfl 0 rfl  ?_
          refine J_getr (r := 354) (ci := 7) dX9_fits_49 4 rfl giX9 (by decide) (by decide) rfl rfl tb_4_115 (by decide) (by decide)  ?_
          refine J_iload dX9_fits_52 5 rfl  ?_
          obtain ⟨hi_16, h⟩ := h
          refine J_iald dX9_fits_54 (by decide) hi_16  ?_
          refine J_topi (fun x6_17 ex6_17 => ?_)
          have h := h x6_17 ex6_17
          refine J_istore (lv' := [(0, .ref (g.1 + 353)), (1, .int p1), (2, .int p2), (3, .int p3), (4, .int p4), (5, .int x5_15), (6, .int x6_17)]) dX9_fits_55 (by decide) [1, 2, 3, 4, 5, 6, 0] rfl  ?_
          refine J_iconst (v := 0) dX9_fits_57 (by decide)  ?_
          refine J_istore (lv' := [(0, .ref (g.1 + 353)), (1, .int p1), (2, .int p2), (3, .int p3), (4, .int p4), (5, .int x5_15), (6, .int x6_17), (7, .int 0)]) dX9_fits_58 (by decide) [1, 2, 3, 4, 5, 6, 7, 0] rfl  ?_
          refine J_bipush (v := (-5)) dX9_fits_60 (by decide)  ?_
          refine J_istore (lv' := [(0, .ref (g.1 + 353)), (1, .int p1), (2, .int p2), (3, .int p3), (4, .int p4), (5, .int x5_15), (6, .int x6_17), (7, .int 0), (8, .int ((-5)))]) dX9_fits_62 (by decide) [1, 2, 3, 4, 5, 6, 7, 8, 0] rfl  ?_
          refine J_aload_n dX9_fits_64 rfl 0 rfl  ?_
          refine J_geti (ci := 7) dX9_fits_65 1 rfl giX9 (by decide) (by decide) rfl rfl tb_4_112 rfl  ?_
          refine J_iconst (v := 1) dX9_fits_68 (by decide)  ?_
          refine J_isub dX9_fits_69  ?_
          refine J_topi (fun x9_18 ex9_18 => ?_)
          have h := h x9_18 ex9_18
          refine J_istore (lv' := [(0, .ref (g.1 + 353)), (1, .int p1), (2, .int p2), (3, .int p3), (4, .int p4), (5, .int x5_15), (6, .int x6_17), (7, .int 0), (8, .int ((-5))), (9, .int x9_18)]) dX9_fits_70 (by decide) [1, 2, 3, 4, 5, 6, 7, 8, 9, 0] rfl  ?_
          obtain ⟨n, h⟩ := h
          exact l_X9_fits_72 p1 p2 p3 p4  _   n _ _ _ _ _ _  h
        · have h := h.2 c_12
          exact l_X9_fits_33 p1 p2 p3 p4  _    _  h
def q_X9_odds_17 (p1 : Int32) (p2 : Int32)  (Q : Int64 → Sto → Prop)  (S : Sto) : Prop := Q ((-9223372036854775808)) S
set_option maxRecDepth 100000 in
set_option maxHeartbeats 4000000 in
theorem l_X9_odds_17 {g : Gv} (p1 : Int32) (p2 : Int32)  (Q : Int64 → Sto → Prop)    (S : Sto)  (h : q_X9_odds_17 p1 p2  Q  S) : RJ g cX9_odds RX9 (some .long) 6 6 17 [(0, .ref (g.1 + 353)), (1, .int p1), (2, .int p2)] [] S (Ql Q) := by
  unfold q_X9_odds_17 at h
  refine J_ldc2 (v := (-9223372036854775808)) dX9_odds_17 tb_5_236  ?_
  exact J_lret dX9_odds_20 rfl ⟨_, rfl, h⟩
def q_X9_odds_66 (p1 : Int32) (p2 : Int32)  (Q : Int64 → Sto → Prop) (t0 : Int64) (S : Sto) : Prop := Q t0 S
set_option maxRecDepth 100000 in
set_option maxHeartbeats 4000000 in
theorem l_X9_odds_66 {g : Gv} (p1 : Int32) (p2 : Int32)  (Q : Int64 → Sto → Prop)   (t0 : Int64) (S : Sto)  (h : q_X9_odds_66 p1 p2  Q t0 S) : RJ g cX9_odds RX9 (some .long) 6 6 66 [(0, .ref (g.1 + 353)), (1, .int p1), (2, .int p2)] [.long t0] S (Ql Q) := by
  unfold q_X9_odds_66 at h
  exact J_lret dX9_odds_66 rfl ⟨_, rfl, h⟩
def q_X9_odds_34 (p1 : Int32) (p2 : Int32)  (Q : Int64 → Sto → Prop) : Nat → Int64 → Int32 → Sto → Prop
  | 0, _, _, _ => False
  | n + 1, x3, x5, S => (((S.1 353 3) ≤ x5 → ((¬ p2 = 0 → q_X9_odds_66 p1 p2  Q x3 S) ∧ (p2 = 0 → q_X9_odds_66 p1 p2  Q 1 S))) ∧ (¬ (S.1 353 3) ≤ x5 → ∀ x3_3 : Int64, x3_3 = x3 * ((S.1 353 1 : Int32).toInt64) → ∀ x5_4 : Int32, x5_4 = x5 + 1 → q_X9_odds_34 p1 p2  Q n x3_3 x5_4 S))
set_option maxRecDepth 100000 in
set_option maxHeartbeats 4000000 in
theorem l_X9_odds_34 {g : Gv} (p1 : Int32) (p2 : Int32)  (Q : Int64 → Sto → Prop)   (n : Nat) : ∀ (x3 : Int64) (x5 : Int32) (S : Sto)  (h : q_X9_odds_34 p1 p2  Q n x3 x5 S), RJ g cX9_odds RX9 (some .long) 6 6 34 [(0, .ref (g.1 + 353)), (1, .int p1), (2, .int p2), (3, .long x3), (5, .int x5)] [] S (Ql Q) := by
  induction n with
  | zero => intro x3 x5 S  h; exact h.elim
  | succ n ih =>
    intro x3 x5 S  h
    unfold q_X9_odds_34 at h
    refine J_iload dX9_odds_34 4 rfl  ?_
    refine J_aload_n dX9_odds_36 rfl 0 rfl  ?_
    refine J_geti (ci := 7) dX9_odds_37 3 rfl giX9 (by decide) (by decide) rfl rfl tb_4_114 rfl  ?_
    refine J_icmp_ge (tgt := 57) dX9_odds_40 (by decide) (fun c_1 => ?_) (fun c_1 => ?_)
    · have h := h.1 c_1
      refine J_iload_n dX9_odds_57 rfl 2 rfl  ?_
      refine J_if_ne (tgt := 65) dX9_odds_58 (by decide) (fun c_2 => ?_) (fun c_2 => ?_)
      · have h := h.1 c_2
        refine J_lload_n dX9_odds_65 rfl 3 rfl  ?_
        refine J_sub (lv' := [(0, .ref (g.1 + 353)), (1, .int p1), (2, .int p2)]) [0, 1, 2] rfl ?_
        exact l_X9_odds_66 p1 p2  _   _ _  h
      · have h := h.2 c_2
        refine J_lconst (v := 1) dX9_odds_61 (by decide)  ?_
        refine J_goto (tgt := 66) dX9_odds_62 (by decide)  ?_
        refine J_sub (lv' := [(0, .ref (g.1 + 353)), (1, .int p1), (2, .int p2)]) [0, 1, 2] rfl ?_
        exact l_X9_odds_66 p1 p2  _   _ _  h
    · have h := h.2 c_1
      refine J_lload_n dX9_odds_43 rfl 3 rfl  ?_
      refine J_aload_n dX9_odds_44 rfl 0 rfl  ?_
      refine J_geti (ci := 7) dX9_odds_45 1 rfl giX9 (by decide) (by decide) rfl rfl tb_4_112 rfl  ?_
      refine J_i2l dX9_odds_48  ?_
      refine J_lmul dX9_odds_49  ?_
      refine J_topl (fun x3_3 ex3_3 => ?_)
      have h := h x3_3 ex3_3
      refine J_lstore_n (lv' := [(0, .ref (g.1 + 353)), (1, .int p1), (2, .int p2), (3, .long x3_3), (5, .int x5)]) dX9_odds_50 rfl (by decide) [1, 2, 3, 0, 4] rfl  ?_
      obtain ⟨x5_4, ex5_4⟩ : ∃ y : Int32, y = x5 + 1 := ⟨_, rfl⟩
      have h := h x5_4 ex5_4
      refine J_iinc (v := x5_4) (lv' := [(0, .ref (g.1 + 353)), (1, .int p1), (2, .int p2), (3, .long x3_3), (5, .int x5_4)]) dX9_odds_51 (q := 4) rfl (by rw [ex5_4]; rfl) (by decide) [1, 2, 3, 4, 0] rfl  ?_
      refine J_goto (tgt := 34) dX9_odds_54 (by decide)  ?_
      exact ih _ _ _  h
def wp_X9_odds (p1 : Int32) (p2 : Int32) (S : Sto) (Q : Int64 → Sto → Prop) : Prop := wp_X9_isSide p1 S (fun r_2 S_1 => ((r_2 = 0 → q_X9_odds_17 p1 p2  Q  S_1) ∧ (¬ r_2 = 0 → wp_X9_in ((p2 : Int32).toInt64) 0 1 S_1 (fun r_5 S_4 => ((¬ r_5 = 0 → wp_X9_spans p1 S_4 (fun S_7 => ∀ x5_9 : Int32, x5_9 = S_7.1 353 25 → (∃ n_34, q_X9_odds_34 p1 p2  Q n_34 1 x5_9 S_7))) ∧ (r_5 = 0 → q_X9_odds_17 p1 p2  Q  S_4))))))
set_option maxRecDepth 100000 in
set_option maxHeartbeats 4000000 in
theorem c_X9_odds {g : Gv} (p1 : Int32) (p2 : Int32)  (S : Sto) (Q : Int64 → Sto → Prop) (h : wp_X9_odds p1 p2 S Q) : CT g yX9_odds cX9_odds 6 (some .long) 6 [.ref (g.1 + 353), .int p1, .int p2] S (Ql Q) := by
  unfold wp_X9_odds at h
  refine CT.of (by decide) (Nat.le_of_ble_eq_true rfl) ?_
  refine J_sub (lv' := [(0, .ref (g.1 + 353)), (1, .int p1), (2, .int p2)]) [0, 1, 2] rfl ?_
  refine J_iload_n dX9_odds_0 rfl 1 rfl  ?_
  refine J_callS (As := [.int p1]) (rest := []) (n := 1) dX9_odds_1 (c_X9_isSide p1  _ _ h) tb_5_188 tb_5_186 tb_1_8 tb_5_187 (by decide) rfl (by decide) (by decide) (Nat.le_of_ble_eq_true rfl) rfl (fun v_r_2 S_1 hq => ?_)
  obtain ⟨r_2, rfl, h⟩ := hq
  dsimp only [Option.toList, List.cons_append, List.nil_append]
  refine J_if_eq (tgt := 17) dX9_odds_4 (by decide) (fun c_3 => ?_) (fun c_3 => ?_)
  · have h := h.1 c_3
    exact l_X9_odds_17 p1 p2  _    _  h
  · have h := h.2 c_3
    refine J_iload_n dX9_odds_7 rfl 2 rfl  ?_
    refine J_i2l dX9_odds_8  ?_
    refine J_lconst (v := 0) dX9_odds_9 (by decide)  ?_
    refine J_lconst (v := 1) dX9_odds_10 (by decide)  ?_
    refine J_callS (As := [.long ((p2 : Int32).toInt64), .long 0, .long 1]) (rest := []) (n := 3) dX9_odds_11 (c_X9_in ((p2 : Int32).toInt64) 0 1  _ _ h) tb_5_9 tb_5_7 tb_1_8 tb_5_8 (by decide) rfl (by decide) (by decide) (Nat.le_of_ble_eq_true rfl) rfl (fun v_r_5 S_4 hq => ?_)
    obtain ⟨r_5, rfl, h⟩ := hq
    dsimp only [Option.toList, List.cons_append, List.nil_append]
    refine J_if_ne (tgt := 21) dX9_odds_14 (by decide) (fun c_6 => ?_) (fun c_6 => ?_)
    · have h := h.1 c_6
      refine J_aload_n dX9_odds_21 rfl 0 rfl  ?_
      refine J_iload_n dX9_odds_22 rfl 1 rfl  ?_
      refine J_callV (h := 353) (ci := 7) (As := [.int p1]) (rest := []) (n := 1) dX9_odds_23 (c_X9_spans p1  _ _ h) (by decide) rfl tb_5_64 tb_5_61 tb_1_8 tb_5_63 sl_33 (by decide) rfl (by decide) (by decide) (Nat.le_of_ble_eq_true rfl) rfl (fun v_r_8 S_7 hq => ?_)
      obtain ⟨rfl, h⟩ := hq
      dsimp only [Option.toList, List.cons_append, List.nil_append]
      refine J_lconst (v := 1) dX9_odds_26 (by decide)  ?_
      refine J_lstore_n (lv' := [(0, .ref (g.1 + 353)), (1, .int p1), (2, .int p2), (3, .long 1)]) dX9_odds_27 rfl (by decide) [1, 2, 3, 0] rfl  ?_
      refine J_aload_n dX9_odds_28 rfl 0 rfl  ?_
      refine J_geti (ci := 7) dX9_odds_29 25 rfl giX9 (by decide) (by decide) rfl rfl tb_4_136 rfl  ?_
      refine J_topi (fun x5_9 ex5_9 => ?_)
      have h := h x5_9 ex5_9
      refine J_istore (lv' := [(0, .ref (g.1 + 353)), (1, .int p1), (2, .int p2), (3, .long 1), (5, .int x5_9)]) dX9_odds_32 (by decide) [1, 2, 3, 4, 0] rfl  ?_
      obtain ⟨n, h⟩ := h
      exact l_X9_odds_34 p1 p2  _   n _ _ _  h
    · have h := h.2 c_6
      exact l_X9_odds_17 p1 p2  _    _  h
def q_X9_event_50 (p1 : Int32) (p2 : Int32)  (Q : Int32 → Sto → Prop)  (S : Sto) : Prop := Q ((-1)) S
set_option maxRecDepth 100000 in
set_option maxHeartbeats 4000000 in
theorem l_X9_event_50 {g : Gv} (p1 : Int32) (p2 : Int32)  (Q : Int32 → Sto → Prop)    (S : Sto)  (h : q_X9_event_50 p1 p2  Q  S) : RJ g cX9_event RX9 (some .int) 3 3 50 [(0, .ref (g.1 + 353)), (1, .int p1), (2, .int p2)] [] S (Qi Q) := by
  unfold q_X9_event_50 at h
  refine J_iconst (v := (-1)) dX9_event_50 (by decide)  ?_
  exact J_iret dX9_event_51 rfl rfl ⟨_, rfl, h⟩
def q_X9_event_76 (p1 : Int32) (p2 : Int32)  (Q : Int32 → Sto → Prop)  (S : Sto) : Prop := ((¬ (S.1 353 9) = 8 → vp_in (S.1 353 9) (8) ∧ ∀ S_3 : Sto, S_3 = uA S 356 (S.1 353 9 : Int32).toNatClampNeg p1 → vp_in (S_3.1 353 9) (8) ∧ ∀ S_5 : Sto, S_5 = uA S_3 357 (S_3.1 353 9 : Int32).toNatClampNeg p2 → ∀ S_6 : Sto, S_6 = uA S_5 353 9 ((S_5.1 353 9) + 1) → Q (S_6.1 353 9) S_6) ∧ ((S.1 353 9) = 8 → Q ((-4)) S))
set_option maxRecDepth 100000 in
set_option maxHeartbeats 4000000 in
theorem l_X9_event_76 {g : Gv} (p1 : Int32) (p2 : Int32)  (Q : Int32 → Sto → Prop)    (S : Sto)  (h : q_X9_event_76 p1 p2  Q  S) : RJ g cX9_event RX9 (some .int) 3 3 76 [(0, .ref (g.1 + 353)), (1, .int p1), (2, .int p2)] [] S (Qi Q) := by
  unfold q_X9_event_76 at h
  refine J_aload_n dX9_event_76 rfl 0 rfl  ?_
  refine J_geti (ci := 7) dX9_event_77 9 rfl giX9 (by decide) (by decide) rfl rfl tb_4_120 rfl  ?_
  refine J_bipush (v := 8) dX9_event_80 (by decide)  ?_
  refine J_icmp_ne (tgt := 88) dX9_event_82 (by decide) (fun c_1 => ?_) (fun c_1 => ?_)
  · have h := h.1 c_1
    refine J_aload_n dX9_event_88 rfl 0 rfl  ?_
    refine J_getr (r := 356) (ci := 7) dX9_event_89 7 rfl giX9 (by decide) (by decide) rfl rfl tb_4_118 (by decide) (by decide)  ?_
    refine J_aload_n dX9_event_92 rfl 0 rfl  ?_
    refine J_geti (ci := 7) dX9_event_93 9 rfl giX9 (by decide) (by decide) rfl rfl tb_4_120 rfl  ?_
    refine J_iload_n dX9_event_96 rfl 1 rfl  ?_
    obtain ⟨hi_2, h⟩ := h
    refine J_iast dX9_event_97 (by decide) hi_2  ?_
    refine J_nmS (fun S_3 eS_3 => ?_)
    have h := h S_3 eS_3
    refine J_aload_n dX9_event_98 rfl 0 rfl  ?_
    refine J_getr (r := 357) (ci := 7) dX9_event_99 8 rfl giX9 (by decide) (by decide) rfl rfl tb_4_119 (by decide) (by decide)  ?_
    refine J_aload_n dX9_event_102 rfl 0 rfl  ?_
    refine J_geti (ci := 7) dX9_event_103 9 rfl giX9 (by decide) (by decide) rfl rfl tb_4_120 rfl  ?_
    refine J_iload_n dX9_event_106 rfl 2 rfl  ?_
    obtain ⟨hi_4, h⟩ := h
    refine J_iast dX9_event_107 (by decide) hi_4  ?_
    refine J_nmS (fun S_5 eS_5 => ?_)
    have h := h S_5 eS_5
    refine J_aload_n dX9_event_108 rfl 0 rfl  ?_
    refine J_dup dX9_event_109 rfl  ?_
    refine J_geti (ci := 7) dX9_event_110 9 rfl giX9 (by decide) (by decide) rfl rfl tb_4_120 rfl  ?_
    refine J_iconst (v := 1) dX9_event_113 (by decide)  ?_
    refine J_iadd dX9_event_114  ?_
    refine J_puti (ci := 7) dX9_event_115 9 rfl giX9 (by decide) (by decide) rfl rfl tyX9 tyX9_ok nmX9 rfl rfl rfl rfl tb_4_120 rfl  ?_
    refine J_nmS (fun S_6 eS_6 => ?_)
    have h := h S_6 eS_6
    refine J_aload_n dX9_event_118 rfl 0 rfl  ?_
    refine J_geti (ci := 7) dX9_event_119 9 rfl giX9 (by decide) (by decide) rfl rfl tb_4_120 rfl  ?_
    exact J_iret dX9_event_122 rfl rfl ⟨_, rfl, h⟩
  · have h := h.2 c_1
    refine J_bipush (v := (-4)) dX9_event_85 (by decide)  ?_
    exact J_iret dX9_event_87 rfl rfl ⟨_, rfl, h⟩
def q_X9_event_52 (p1 : Int32) (p2 : Int32)  (Q : Int32 → Sto → Prop)  (S : Sto) : Prop := ((p1 = 0 → q_X9_event_76 p1 p2  Q  S) ∧ (¬ p1 = 0 → ((p1 = 3 → q_X9_event_76 p1 p2  Q  S) ∧ (¬ p1 = 3 → wp_X9_in ((p2 : Int32).toInt64) 0 3 S (fun r_4 S_3 => ((¬ r_4 = 0 → q_X9_event_76 p1 p2  Q  S_3) ∧ (r_4 = 0 → Q ((-2)) S_3)))))))
set_option maxRecDepth 100000 in
set_option maxHeartbeats 4000000 in
theorem l_X9_event_52 {g : Gv} (p1 : Int32) (p2 : Int32)  (Q : Int32 → Sto → Prop)    (S : Sto)  (h : q_X9_event_52 p1 p2  Q  S) : RJ g cX9_event RX9 (some .int) 3 3 52 [(0, .ref (g.1 + 353)), (1, .int p1), (2, .int p2)] [] S (Qi Q) := by
  unfold q_X9_event_52 at h
  refine J_iload_n dX9_event_52 rfl 1 rfl  ?_
  refine J_if_eq (tgt := 76) dX9_event_53 (by decide) (fun c_1 => ?_) (fun c_1 => ?_)
  · have h := h.1 c_1
    exact l_X9_event_76 p1 p2  _    _  h
  · have h := h.2 c_1
    refine J_iload_n dX9_event_56 rfl 1 rfl  ?_
    refine J_iconst (v := 3) dX9_event_57 (by decide)  ?_
    refine J_icmp_eq (tgt := 76) dX9_event_58 (by decide) (fun c_2 => ?_) (fun c_2 => ?_)
    · have h := h.1 c_2
      exact l_X9_event_76 p1 p2  _    _  h
    · have h := h.2 c_2
      refine J_iload_n dX9_event_61 rfl 2 rfl  ?_
      refine J_i2l dX9_event_62  ?_
      refine J_lconst (v := 0) dX9_event_63 (by decide)  ?_
      refine J_ldc2 (v := 3) dX9_event_64 tb_6_11  ?_
      refine J_callS (As := [.long ((p2 : Int32).toInt64), .long 0, .long 3]) (rest := []) (n := 3) dX9_event_67 (c_X9_in ((p2 : Int32).toInt64) 0 3  _ _ h) tb_5_9 tb_5_7 tb_1_8 tb_5_8 (by decide) rfl (by decide) (by decide) (Nat.le_of_ble_eq_true rfl) rfl (fun v_r_4 S_3 hq => ?_)
      obtain ⟨r_4, rfl, h⟩ := hq
      dsimp only [Option.toList, List.cons_append, List.nil_append]
      refine J_if_ne (tgt := 76) dX9_event_70 (by decide) (fun c_5 => ?_) (fun c_5 => ?_)
      · have h := h.1 c_5
        exact l_X9_event_76 p1 p2  _    _  h
      · have h := h.2 c_5
        refine J_bipush (v := (-2)) dX9_event_73 (by decide)  ?_
        exact J_iret dX9_event_75 rfl rfl ⟨_, rfl, h⟩
def q_X9_event_35 (p1 : Int32) (p2 : Int32)  (Q : Int32 → Sto → Prop)  (S : Sto) : Prop := ((¬ p1 = 3 → q_X9_event_52 p1 p2  Q  S) ∧ (p1 = 3 → wp_X9_in ((p2 : Int32).toInt64) 0 1 S (fun r_3 S_2 => ((¬ r_3 = 0 → q_X9_event_52 p1 p2  Q  S_2) ∧ (r_3 = 0 → q_X9_event_50 p1 p2  Q  S_2)))))
set_option maxRecDepth 100000 in
set_option maxHeartbeats 4000000 in
theorem l_X9_event_35 {g : Gv} (p1 : Int32) (p2 : Int32)  (Q : Int32 → Sto → Prop)    (S : Sto)  (h : q_X9_event_35 p1 p2  Q  S) : RJ g cX9_event RX9 (some .int) 3 3 35 [(0, .ref (g.1 + 353)), (1, .int p1), (2, .int p2)] [] S (Qi Q) := by
  unfold q_X9_event_35 at h
  refine J_iload_n dX9_event_35 rfl 1 rfl  ?_
  refine J_iconst (v := 3) dX9_event_36 (by decide)  ?_
  refine J_icmp_ne (tgt := 52) dX9_event_37 (by decide) (fun c_1 => ?_) (fun c_1 => ?_)
  · have h := h.1 c_1
    exact l_X9_event_52 p1 p2  _    _  h
  · have h := h.2 c_1
    refine J_iload_n dX9_event_40 rfl 2 rfl  ?_
    refine J_i2l dX9_event_41  ?_
    refine J_lconst (v := 0) dX9_event_42 (by decide)  ?_
    refine J_lconst (v := 1) dX9_event_43 (by decide)  ?_
    refine J_callS (As := [.long ((p2 : Int32).toInt64), .long 0, .long 1]) (rest := []) (n := 3) dX9_event_44 (c_X9_in ((p2 : Int32).toInt64) 0 1  _ _ h) tb_5_9 tb_5_7 tb_1_8 tb_5_8 (by decide) rfl (by decide) (by decide) (Nat.le_of_ble_eq_true rfl) rfl (fun v_r_3 S_2 hq => ?_)
    obtain ⟨r_3, rfl, h⟩ := hq
    dsimp only [Option.toList, List.cons_append, List.nil_append]
    refine J_if_ne (tgt := 52) dX9_event_47 (by decide) (fun c_4 => ?_) (fun c_4 => ?_)
    · have h := h.1 c_4
      exact l_X9_event_52 p1 p2  _    _  h
    · have h := h.2 c_4
      exact l_X9_event_50 p1 p2  _    _  h
def wp_X9_event (p1 : Int32) (p2 : Int32) (S : Sto) (Q : Int32 → Sto → Prop) : Prop := ((¬ p1 = ((-1)) → wp_X9_in ((p1 : Int32).toInt64) 0 4 S (fun r_3 S_2 => ((r_3 = 0 → q_X9_event_50 p1 p2  Q  S_2) ∧ (¬ r_3 = 0 → ((¬ p1 = 0 → q_X9_event_35 p1 p2  Q  S_2) ∧ (p1 = 0 → wp_X9_isElement p2 S_2 (fun r_7 S_6 => ((r_7 = 0 → q_X9_event_50 p1 p2  Q  S_6) ∧ (¬ r_7 = 0 → q_X9_event_35 p1 p2  Q  S_6))))))))) ∧ (p1 = ((-1)) → ∀ S_9 : Sto, S_9 = uA S 353 9 0 → Q 0 S_9))
set_option maxRecDepth 100000 in
set_option maxHeartbeats 4000000 in
theorem c_X9_event {g : Gv} (p1 : Int32) (p2 : Int32)  (S : Sto) (Q : Int32 → Sto → Prop) (h : wp_X9_event p1 p2 S Q) : CT g yX9_event cX9_event 3 (some .int) 3 [.ref (g.1 + 353), .int p1, .int p2] S (Qi Q) := by
  unfold wp_X9_event at h
  refine CT.of (by decide) (Nat.le_of_ble_eq_true rfl) ?_
  refine J_sub (lv' := [(0, .ref (g.1 + 353)), (1, .int p1), (2, .int p2)]) [0, 1, 2] rfl ?_
  refine J_iload_n dX9_event_0 rfl 1 rfl  ?_
  refine J_iconst (v := (-1)) dX9_event_1 (by decide)  ?_
  refine J_icmp_ne (tgt := 12) dX9_event_2 (by decide) (fun c_1 => ?_) (fun c_1 => ?_)
  · have h := h.1 c_1
    refine J_iload_n dX9_event_12 rfl 1 rfl  ?_
    refine J_i2l dX9_event_13  ?_
    refine J_lconst (v := 0) dX9_event_14 (by decide)  ?_
    refine J_ldc2 (v := 4) dX9_event_15 tb_5_6  ?_
    refine J_callS (As := [.long ((p1 : Int32).toInt64), .long 0, .long 4]) (rest := []) (n := 3) dX9_event_18 (c_X9_in ((p1 : Int32).toInt64) 0 4  _ _ h) tb_5_9 tb_5_7 tb_1_8 tb_5_8 (by decide) rfl (by decide) (by decide) (Nat.le_of_ble_eq_true rfl) rfl (fun v_r_3 S_2 hq => ?_)
    obtain ⟨r_3, rfl, h⟩ := hq
    dsimp only [Option.toList, List.cons_append, List.nil_append]
    refine J_if_eq (tgt := 50) dX9_event_21 (by decide) (fun c_4 => ?_) (fun c_4 => ?_)
    · have h := h.1 c_4
      exact l_X9_event_50 p1 p2  _    _  h
    · have h := h.2 c_4
      refine J_iload_n dX9_event_24 rfl 1 rfl  ?_
      refine J_if_ne (tgt := 35) dX9_event_25 (by decide) (fun c_5 => ?_) (fun c_5 => ?_)
      · have h := h.1 c_5
        exact l_X9_event_35 p1 p2  _    _  h
      · have h := h.2 c_5
        refine J_iload_n dX9_event_28 rfl 2 rfl  ?_
        refine J_callS (As := [.int p2]) (rest := []) (n := 1) dX9_event_29 (c_X9_isElement p2  _ _ h) tb_5_28 tb_5_26 tb_1_8 tb_5_27 (by decide) rfl (by decide) (by decide) (Nat.le_of_ble_eq_true rfl) rfl (fun v_r_7 S_6 hq => ?_)
        obtain ⟨r_7, rfl, h⟩ := hq
        dsimp only [Option.toList, List.cons_append, List.nil_append]
        refine J_if_eq (tgt := 50) dX9_event_32 (by decide) (fun c_8 => ?_) (fun c_8 => ?_)
        · have h := h.1 c_8
          exact l_X9_event_50 p1 p2  _    _  h
        · have h := h.2 c_8
          exact l_X9_event_35 p1 p2  _    _  h
  · have h := h.2 c_1
    refine J_aload_n dX9_event_5 rfl 0 rfl  ?_
    refine J_iconst (v := 0) dX9_event_6 (by decide)  ?_
    refine J_puti (ci := 7) dX9_event_7 9 rfl giX9 (by decide) (by decide) rfl rfl tyX9 tyX9_ok nmX9 rfl rfl rfl rfl tb_4_120 rfl  ?_
    refine J_nmS (fun S_9 eS_9 => ?_)
    have h := h S_9 eS_9
    refine J_iconst (v := 0) dX9_event_10 (by decide)  ?_
    exact J_iret dX9_event_11 rfl rfl ⟨_, rfl, h⟩
def q_X9_happens_210 (p1 : Int32) (p2 : Int32)  (Q : Sto → Prop)  (S : Sto) : Prop := Q S
set_option maxRecDepth 100000 in
set_option maxHeartbeats 4000000 in
theorem l_X9_happens_210 {g : Gv} (p1 : Int32) (p2 : Int32)  (Q : Sto → Prop)    (S : Sto)  (h : q_X9_happens_210 p1 p2  Q  S) : RJ g cX9_happens RX9 none 5 4 210 [(0, .ref (g.1 + 353)), (1, .int p1), (2, .int p2)] [] S (Qv Q) := by
  unfold q_X9_happens_210 at h
  exact J_vret dX9_happens_210 rfl ⟨rfl, h⟩
def q_X9_happens_172 (p1 : Int32) (p2 : Int32) (R108 : Int32 → Sto → Prop) (Q : Sto → Prop) : Nat → Int32 → Int32 → Sto → Prop
  | 0, _, _, _ => False
  | n + 1, x3, x4, S => ((16 ≤ x4 → ∀ x3_2 : Int32, x3_2 = x3 + 1 → R108 x3_2 S) ∧ (¬ 16 ≤ x4 → vp_in x4 (16) ∧ vp_in ((16 * x3) + x4) (64) ∧ ∀ S_5 : Sto, S_5 = uA S 355 ((16 * x3) + x4 : Int32).toNatClampNeg (S.1 373 (x4 : Int32).toNatClampNeg) → ∀ x4_6 : Int32, x4_6 = x4 + 1 → q_X9_happens_172 p1 p2 R108 Q n x3 x4_6 S_5))
set_option maxRecDepth 100000 in
set_option maxHeartbeats 4000000 in
theorem l_X9_happens_172 {g : Gv} (p1 : Int32) (p2 : Int32) (R108 : Int32 → Sto → Prop) (Q : Sto → Prop) (hR108 : ∀ (y3 : Int32) (S : Sto), R108 y3 S → RJ g cX9_happens RX9 none 5 4 108 [(0, .ref (g.1 + 353)), (1, .int p1), (2, .int p2), (3, .int y3)] [] S (Qv Q))  (n : Nat) : ∀ (x3 : Int32) (x4 : Int32) (S : Sto)  (h : q_X9_happens_172 p1 p2 R108 Q n x3 x4 S), RJ g cX9_happens RX9 none 5 4 172 [(0, .ref (g.1 + 353)), (1, .int p1), (2, .int p2), (3, .int x3), (4, .int x4)] [] S (Qv Q) := by
  induction n with
  | zero => intro x3 x4 S  h; exact h.elim
  | succ n ih =>
    intro x3 x4 S  h
    unfold q_X9_happens_172 at h
    refine J_iload dX9_happens_172 4 rfl  ?_
    refine J_bipush (v := 16) dX9_happens_174 (by decide)  ?_
    refine J_icmp_ge (tgt := 204) dX9_happens_176 (by decide) (fun c_1 => ?_) (fun c_1 => ?_)
    · have h := h.1 c_1
      obtain ⟨x3_2, ex3_2⟩ : ∃ y : Int32, y = x3 + 1 := ⟨_, rfl⟩
      have h := h x3_2 ex3_2
      refine J_iinc (v := x3_2) (lv' := [(0, .ref (g.1 + 353)), (1, .int p1), (2, .int p2), (3, .int x3_2), (4, .int x4)]) dX9_happens_204 (q := 3) rfl (by rw [ex3_2]; rfl) (by decide) [1, 2, 3, 0, 4] rfl  ?_
      refine J_goto (tgt := 108) dX9_happens_207 (by decide)  ?_
      refine J_sub (lv' := [(0, .ref (g.1 + 353)), (1, .int p1), (2, .int p2), (3, .int x3_2)]) [0, 1, 2, 3] rfl ?_
      exact hR108 _ _  h
    · have h := h.2 c_1
      refine J_aload_n dX9_happens_179 rfl 0 rfl  ?_
      refine J_getr (r := 355) (ci := 7) dX9_happens_180 5 rfl giX9 (by decide) (by decide) rfl rfl tb_4_116 (by decide) (by decide)  ?_
      refine J_bipush (v := 16) dX9_happens_183 (by decide)  ?_
      refine J_iload_n dX9_happens_185 rfl 3 rfl  ?_
      refine J_imul dX9_happens_186  ?_
      refine J_iload dX9_happens_187 4 rfl  ?_
      refine J_iadd dX9_happens_189  ?_
      refine J_aload_n dX9_happens_190 rfl 0 rfl  ?_
      refine J_getr (r := 373) (ci := 7) dX9_happens_191 31 rfl giX9 (by decide) (by decide) rfl rfl tb_4_142 (by decide) (by decide)  ?_
      refine J_iload dX9_happens_194 4 rfl  ?_
      obtain ⟨hi_3, h⟩ := h
      refine J_iald dX9_happens_196 (by decide) hi_3  ?_
      obtain ⟨hi_4, h⟩ := h
      refine J_iast dX9_happens_197 (by decide) hi_4  ?_
      refine J_nmS (fun S_5 eS_5 => ?_)
      have h := h S_5 eS_5
      obtain ⟨x4_6, ex4_6⟩ : ∃ y : Int32, y = x4 + 1 := ⟨_, rfl⟩
      have h := h x4_6 ex4_6
      refine J_iinc (v := x4_6) (lv' := [(0, .ref (g.1 + 353)), (1, .int p1), (2, .int p2), (3, .int x3), (4, .int x4_6)]) dX9_happens_198 (q := 4) rfl (by rw [ex4_6]; rfl) (by decide) [1, 2, 3, 4, 0] rfl  ?_
      refine J_goto (tgt := 172) dX9_happens_201 (by decide)  ?_
      exact ih _ _ _  h
def q_X9_happens_169 (p1 : Int32) (p2 : Int32) (R108 : Int32 → Sto → Prop) (Q : Sto → Prop) (x3 : Int32) (S : Sto) : Prop := (∃ n_172, q_X9_happens_172 p1 p2 R108 Q n_172 x3 0 S)
set_option maxRecDepth 100000 in
set_option maxHeartbeats 4000000 in
theorem l_X9_happens_169 {g : Gv} (p1 : Int32) (p2 : Int32) (R108 : Int32 → Sto → Prop) (Q : Sto → Prop) (hR108 : ∀ (y3 : Int32) (S : Sto), R108 y3 S → RJ g cX9_happens RX9 none 5 4 108 [(0, .ref (g.1 + 353)), (1, .int p1), (2, .int p2), (3, .int y3)] [] S (Qv Q))  (x3 : Int32) (S : Sto)  (h : q_X9_happens_169 p1 p2 R108 Q x3 S) : RJ g cX9_happens RX9 none 5 4 169 [(0, .ref (g.1 + 353)), (1, .int p1), (2, .int p2), (3, .int x3)] [] S (Qv Q) := by
  unfold q_X9_happens_169 at h
  refine J_iconst (v := 0) dX9_happens_169 (by decide)  ?_
  refine J_istore (lv' := [(0, .ref (g.1 + 353)), (1, .int p1), (2, .int p2), (3, .int x3), (4, .int 0)]) dX9_happens_170 (by decide) [1, 2, 3, 4, 0] rfl  ?_
  obtain ⟨n, h⟩ := h
  exact l_X9_happens_172 p1 p2 _ _ hR108  n _ _ _  h
def q_X9_happens_108 (p1 : Int32) (p2 : Int32)  (Q : Sto → Prop) : Nat → Int32 → Sto → Prop
  | 0, _, _ => False
  | n + 1, x3, S => (((S.1 353 6) ≤ x3 → q_X9_happens_210 p1 p2  Q  S) ∧ (¬ (S.1 353 6) ≤ x3 → wp_X9_unit 371 (1 <<< (p2 &&& 31)) S (fun S_2 => ((¬ p1 = 1 → wp_X9_multiply 355 (16 * x3) 371 0 S_2 (fun S_5 => q_X9_happens_169 p1 p2 (fun y3 S => q_X9_happens_108 p1 p2  Q n y3 S) Q x3 S_5)) ∧ (p1 = 1 → wp_X9_multiply 371 0 355 (16 * x3) S_2 (fun S_7 => q_X9_happens_169 p1 p2 (fun y3 S => q_X9_happens_108 p1 p2  Q n y3 S) Q x3 S_7))))))
set_option maxRecDepth 100000 in
set_option maxHeartbeats 4000000 in
theorem l_X9_happens_108 {g : Gv} (p1 : Int32) (p2 : Int32)  (Q : Sto → Prop)   (n : Nat) : ∀ (x3 : Int32) (S : Sto)  (h : q_X9_happens_108 p1 p2  Q n x3 S), RJ g cX9_happens RX9 none 5 4 108 [(0, .ref (g.1 + 353)), (1, .int p1), (2, .int p2), (3, .int x3)] [] S (Qv Q) := by
  induction n with
  | zero => intro x3 S  h; exact h.elim
  | succ n ih =>
    intro x3 S  h
    unfold q_X9_happens_108 at h
    refine J_iload_n dX9_happens_108 rfl 3 rfl  ?_
    refine J_aload_n dX9_happens_109 rfl 0 rfl  ?_
    refine J_geti (ci := 7) dX9_happens_110 6 rfl giX9 (by decide) (by decide) rfl rfl tb_4_117 rfl  ?_
    refine J_icmp_ge (tgt := 210) dX9_happens_113 (by decide) (fun c_1 => ?_) (fun c_1 => ?_)
    · have h := h.1 c_1
      refine J_sub (lv' := [(0, .ref (g.1 + 353)), (1, .int p1), (2, .int p2)]) [0, 1, 2] rfl ?_
      exact l_X9_happens_210 p1 p2  _    _  h
    · have h := h.2 c_1
      refine J_aload_n dX9_happens_116 rfl 0 rfl  ?_
      refine J_aload_n dX9_happens_117 rfl 0 rfl  ?_
      refine J_getr (r := 371) (ci := 7) dX9_happens_118 29 rfl giX9 (by decide) (by decide) rfl rfl tb_4_140 (by decide) (by decide)  ?_
      refine J_iconst (v := 1) dX9_happens_121 (by decide)  ?_
      refine J_iload_n dX9_happens_122 rfl 2 rfl  ?_
      refine J_ishl dX9_happens_123  ?_
      refine J_callV (h := 353) (ci := 7) (As := [.ref (g.1 + 371), .int (1 <<< (p2 &&& 31))]) (rest := []) (n := 2) dX9_happens_124 (c_X9_unit 371 (1 <<< (p2 &&& 31)) (by decide) _ _ h) (by decide) rfl tb_5_80 tb_5_77 tb_1_8 tb_5_79 sl_36 (by decide) rfl (by decide) (by decide) (Nat.le_of_ble_eq_true rfl) rfl (fun v_r_3 S_2 hq => ?_)
      obtain ⟨rfl, h⟩ := hq
      dsimp only [Option.toList, List.cons_append, List.nil_append]
      refine J_iload_n dX9_happens_127 rfl 1 rfl  ?_
      refine J_iconst (v := 1) dX9_happens_128 (by decide)  ?_
      refine J_icmp_ne (tgt := 152) dX9_happens_129 (by decide) (fun c_4 => ?_) (fun c_4 => ?_)
      · have h := h.1 c_4
        refine J_aload_n dX9_happens_152 rfl 0 rfl  ?_
        refine J_aload_n dX9_happens_153 rfl 0 rfl  ?_
        refine J_getr (r := 355) (ci := 7) dX9_happens_154 5 rfl giX9 (by decide) (by decide) rfl rfl tb_4_116 (by decide) (by decide)  ?_
        refine J_bipush (v := 16) dX9_happens_157 (by decide)  ?_
        refine J_iload_n dX9_happens_159 rfl 3 rfl  ?_
        refine J_imul dX9_happens_160  ?_
        refine J_aload_n dX9_happens_161 rfl 0 rfl  ?_
        refine J_getr (r := 371) (ci := 7) dX9_happens_162 29 rfl giX9 (by decide) (by decide) rfl rfl tb_4_140 (by decide) (by decide)  ?_
        refine J_iconst (v := 0) dX9_happens_165 (by decide)  ?_
        refine J_callV (h := 353) (ci := 7) (As := [.ref (g.1 + 355), .int (16 * x3), .ref (g.1 + 371), .int 0]) (rest := []) (n := 4) dX9_happens_166 (c_X9_multiply 355 (16 * x3) 371 0 (by decide) (by decide) _ _ h) (by decide) rfl tb_5_45 tb_5_42 tb_1_8 tb_5_44 sl_31 (by decide) rfl (by decide) (by decide) (Nat.le_of_ble_eq_true rfl) rfl (fun v_r_6 S_5 hq => ?_)
        obtain ⟨rfl, h⟩ := hq
        dsimp only [Option.toList, List.cons_append, List.nil_append]
        exact l_X9_happens_169 p1 p2 _ _ (fun y3 S  h => ih y3 S  h)  _ _  h
      · have h := h.2 c_4
        refine J_aload_n dX9_happens_132 rfl 0 rfl  ?_
        refine J_aload_n dX9_happens_133 rfl 0 rfl  ?_
        refine J_getr (r := 371) (ci := 7) dX9_happens_134 29 rfl giX9 (by decide) (by decide) rfl rfl tb_4_140 (by decide) (by decide)  ?_
        refine J_iconst (v := 0) dX9_happens_137 (by decide)  ?_
        refine J_aload_n dX9_happens_138 rfl 0 rfl  ?_
        refine J_getr (r := 355) (ci := 7) dX9_happens_139 5 rfl giX9 (by decide) (by decide) rfl rfl tb_4_116 (by decide) (by decide)  ?_
        refine J_bipush (v := 16) dX9_happens_142 (by decide)  ?_
        refine J_iload_n dX9_happens_144 rfl 3 rfl  ?_
        refine J_imul dX9_happens_145  ?_
        refine J_callV (h := 353) (ci := 7) (As := [.ref (g.1 + 371), .int 0, .ref (g.1 + 355), .int (16 * x3)]) (rest := []) (n := 4) dX9_happens_146 (c_X9_multiply 371 0 355 (16 * x3) (by decide) (by decide) _ _ h) (by decide) rfl tb_5_45 tb_5_42 tb_1_8 tb_5_44 sl_31 (by decide) rfl (by decide) (by decide) (Nat.le_of_ble_eq_true rfl) rfl (fun v_r_8 S_7 hq => ?_)
        obtain ⟨rfl, h⟩ := hq
        dsimp only [Option.toList, List.cons_append, List.nil_append]
        refine J_goto (tgt := 169) dX9_happens_149 (by decide)  ?_
        exact l_X9_happens_169 p1 p2 _ _ (fun y3 S  h => ih y3 S  h)  _ _  h
def q_X9_happens_63 (p1 : Int32) (p2 : Int32)  (Q : Sto → Prop) : Nat → Int32 → Sto → Prop
  | 0, _, _ => False
  | n + 1, x3, S => (((16 * (S.1 353 6)) ≤ x3 → q_X9_happens_210 p1 p2  Q  S) ∧ (¬ (16 * (S.1 353 6)) ≤ x3 → vp_in (x3 + 16) (64) ∧ vp_in x3 (64) ∧ ∀ S_4 : Sto, S_4 = uA S 355 (x3 : Int32).toNatClampNeg (S.1 355 (x3 + 16 : Int32).toNatClampNeg) → ∀ x3_5 : Int32, x3_5 = x3 + 1 → q_X9_happens_63 p1 p2  Q n x3_5 S_4))
set_option maxRecDepth 100000 in
set_option maxHeartbeats 4000000 in
theorem l_X9_happens_63 {g : Gv} (p1 : Int32) (p2 : Int32)  (Q : Sto → Prop)   (n : Nat) : ∀ (x3 : Int32) (S : Sto)  (h : q_X9_happens_63 p1 p2  Q n x3 S), RJ g cX9_happens RX9 none 5 4 63 [(0, .ref (g.1 + 353)), (1, .int p1), (2, .int p2), (3, .int x3)] [] S (Qv Q) := by
  induction n with
  | zero => intro x3 S  h; exact h.elim
  | succ n ih =>
    intro x3 S  h
    unfold q_X9_happens_63 at h
    refine J_iload_n dX9_happens_63 rfl 3 rfl  ?_
    refine J_bipush (v := 16) dX9_happens_64 (by decide)  ?_
    refine J_aload_n dX9_happens_66 rfl 0 rfl  ?_
    refine J_geti (ci := 7) dX9_happens_67 6 rfl giX9 (by decide) (by decide) rfl rfl tb_4_117 rfl  ?_
    refine J_imul dX9_happens_70  ?_
    refine J_icmp_ge (tgt := 95) dX9_happens_71 (by decide) (fun c_1 => ?_) (fun c_1 => ?_)
    · have h := h.1 c_1
      refine J_goto (tgt := 210) dX9_happens_95 (by decide)  ?_
      refine J_sub (lv' := [(0, .ref (g.1 + 353)), (1, .int p1), (2, .int p2)]) [0, 1, 2] rfl ?_
      exact l_X9_happens_210 p1 p2  _    _  h
    · have h := h.2 c_1
      refine J_aload_n dX9_happens_74 rfl 0 rfl  ?_
      refine J_getr (r := 355) (ci := 7) dX9_happens_75 5 rfl giX9 (by decide) (by decide) rfl rfl tb_4_116 (by decide) (by decide)  ?_
      refine J_iload_n dX9_happens_78 rfl 3 rfl  ?_
      refine J_aload_n dX9_happens_79 rfl 0 rfl  ?_
      refine J_getr (r := 355) (ci := 7) dX9_happens_80 5 rfl giX9 (by decide) (by decide) rfl rfl tb_4_116 (by decide) (by decide)  ?_
      refine J_iload_n dX9_happens_83 rfl 3 rfl  ?_
      refine J_bipush (v := 16) dX9_happens_84 (by decide)  ?_
      refine J_iadd dX9_happens_86  ?_
      obtain ⟨hi_2, h⟩ := h
      refine J_iald dX9_happens_87 (by decide) hi_2  ?_
      obtain ⟨hi_3, h⟩ := h
      refine J_iast dX9_happens_88 (by decide) hi_3  ?_
      refine J_nmS (fun S_4 eS_4 => ?_)
      have h := h S_4 eS_4
      obtain ⟨x3_5, ex3_5⟩ : ∃ y : Int32, y = x3 + 1 := ⟨_, rfl⟩
      have h := h x3_5 ex3_5
      refine J_iinc (v := x3_5) (lv' := [(0, .ref (g.1 + 353)), (1, .int p1), (2, .int p2), (3, .int x3_5)]) dX9_happens_89 (q := 3) rfl (by rw [ex3_5]; rfl) (by decide) [1, 2, 3, 0] rfl  ?_
      refine J_goto (tgt := 63) dX9_happens_92 (by decide)  ?_
      exact ih _ _  h
def wp_X9_happens (p1 : Int32) (p2 : Int32) (S : Sto) (Q : Sto → Prop) : Prop := ((¬ p1 = 0 → ((¬ p1 = 3 → ((¬ p1 = 4 → (((S.1 353 0) ≤ p2 → q_X9_happens_210 p1 p2  Q  S) ∧ (¬ (S.1 353 0) ≤ p2 → (∃ n_108, q_X9_happens_108 p1 p2  Q n_108 0 S)))) ∧ (p1 = 4 → ((p2 < (S.1 353 6) → ∀ S_6 : Sto, S_6 = uA S 353 6 ((S.1 353 6) - 1) → ∀ x3_7 : Int32, x3_7 = 16 * p2 → (∃ n_63, q_X9_happens_63 p1 p2  Q n_63 x3_7 S_6)) ∧ (¬ p2 < (S.1 353 6) → Q S))))) ∧ (p1 = 3 → ∀ S_8 : Sto, S_8 = uA S 353 2 p2 → q_X9_happens_210 p1 p2  Q  S_8))) ∧ (p1 = 0 → ((4 ≤ (S.1 353 6) → q_X9_happens_210 p1 p2  Q  S) ∧ (¬ 4 ≤ (S.1 353 6) → wp_X9_generate p2 S (fun r_11 S_10 => q_X9_happens_210 p1 p2  Q  S_10)))))
set_option maxRecDepth 100000 in
set_option maxHeartbeats 4000000 in
theorem c_X9_happens {g : Gv} (p1 : Int32) (p2 : Int32)  (S : Sto) (Q : Sto → Prop) (h : wp_X9_happens p1 p2 S Q) : CT g yX9_happens cX9_happens 5 none 4 [.ref (g.1 + 353), .int p1, .int p2] S (Qv Q) := by
  unfold wp_X9_happens at h
  refine CT.of (by decide) (Nat.le_of_ble_eq_true rfl) ?_
  refine J_sub (lv' := [(0, .ref (g.1 + 353)), (1, .int p1), (2, .int p2)]) [0, 1, 2] rfl ?_
  refine J_iload_n dX9_happens_0 rfl 1 rfl  ?_
  refine J_if_ne (tgt := 21) dX9_happens_1 (by decide) (fun c_1 => ?_) (fun c_1 => ?_)
  · have h := h.1 c_1
    refine J_iload_n dX9_happens_21 rfl 1 rfl  ?_
    refine J_iconst (v := 3) dX9_happens_22 (by decide)  ?_
    refine J_icmp_ne (tgt := 34) dX9_happens_23 (by decide) (fun c_2 => ?_) (fun c_2 => ?_)
    · have h := h.1 c_2
      refine J_iload_n dX9_happens_34 rfl 1 rfl  ?_
      refine J_iconst (v := 4) dX9_happens_35 (by decide)  ?_
      refine J_icmp_ne (tgt := 98) dX9_happens_36 (by decide) (fun c_3 => ?_) (fun c_3 => ?_)
      · have h := h.1 c_3
        refine J_iload_n dX9_happens_98 rfl 2 rfl  ?_
        refine J_aload_n dX9_happens_99 rfl 0 rfl  ?_
        refine J_geti (ci := 7) dX9_happens_100 0 rfl giX9 (by decide) (by decide) rfl rfl tb_4_111 rfl  ?_
        refine J_icmp_ge (tgt := 210) dX9_happens_103 (by decide) (fun c_4 => ?_) (fun c_4 => ?_)
        · have h := h.1 c_4
          exact l_X9_happens_210 p1 p2  _    _  h
        · have h := h.2 c_4
          refine J_iconst (v := 0) dX9_happens_106 (by decide)  ?_
          refine J_istore_n (lv' := [(0, .ref (g.1 + 353)), (1, .int p1), (2, .int p2), (3, .int 0)]) dX9_happens_107 rfl (by decide) [1, 2, 3, 0] rfl  ?_
          obtain ⟨n, h⟩ := h
          exact l_X9_happens_108 p1 p2  _   n _ _  h
      · have h := h.2 c_3
        refine J_iload_n dX9_happens_39 rfl 2 rfl  ?_
        refine J_aload_n dX9_happens_40 rfl 0 rfl  ?_
        refine J_geti (ci := 7) dX9_happens_41 6 rfl giX9 (by decide) (by decide) rfl rfl tb_4_117 rfl  ?_
        refine J_icmp_lt (tgt := 48) dX9_happens_44 (by decide) (fun c_5 => ?_) (fun c_5 => ?_)
        · have h := h.1 c_5
          refine J_aload_n dX9_happens_48 rfl 0 rfl  ?_
          refine J_dup dX9_happens_49 rfl  ?_
          refine J_geti (ci := 7) dX9_happens_50 6 rfl giX9 (by decide) (by decide) rfl rfl tb_4_117 rfl  ?_
          refine J_iconst (v := 1) dX9_happens_53 (by decide)  ?_
          refine J_isub dX9_happens_54  ?_
          refine J_puti (ci := 7) dX9_happens_55 6 rfl giX9 (by decide) (by decide) rfl rfl tyX9 tyX9_ok nmX9 rfl rfl rfl rfl tb_4_117 rfl  ?_
          refine J_nmS (fun S_6 eS_6 => ?_)
          have h := h S_6 eS_6
          refine J_bipush (v := 16) dX9_happens_58 (by decide)  ?_
          refine J_iload_n dX9_happens_60 rfl 2 rfl  ?_
          refine J_imul dX9_happens_61  ?_
          refine J_topi (fun x3_7 ex3_7 => ?_)
          have h := h x3_7 ex3_7
          refine J_istore_n (lv' := [(0, .ref (g.1 + 353)), (1, .int p1), (2, .int p2), (3, .int x3_7)]) dX9_happens_62 rfl (by decide) [1, 2, 3, 0] rfl  ?_
          obtain ⟨n, h⟩ := h
          exact l_X9_happens_63 p1 p2  _   n _ _  h
        · have h := h.2 c_5
          exact J_vret dX9_happens_47 rfl ⟨rfl, h⟩
    · have h := h.2 c_2
      refine J_aload_n dX9_happens_26 rfl 0 rfl  ?_
      refine J_iload_n dX9_happens_27 rfl 2 rfl  ?_
      refine J_puti (ci := 7) dX9_happens_28 2 rfl giX9 (by decide) (by decide) rfl rfl tyX9 tyX9_ok nmX9 rfl rfl rfl rfl tb_4_113 rfl  ?_
      refine J_nmS (fun S_8 eS_8 => ?_)
      have h := h S_8 eS_8
      refine J_goto (tgt := 210) dX9_happens_31 (by decide)  ?_
      exact l_X9_happens_210 p1 p2  _    _  h
  · have h := h.2 c_1
    refine J_aload_n dX9_happens_4 rfl 0 rfl  ?_
    refine J_geti (ci := 7) dX9_happens_5 6 rfl giX9 (by decide) (by decide) rfl rfl tb_4_117 rfl  ?_
    refine J_iconst (v := 4) dX9_happens_8 (by decide)  ?_
    refine J_icmp_ge (tgt := 210) dX9_happens_9 (by decide) (fun c_9 => ?_) (fun c_9 => ?_)
    · have h := h.1 c_9
      exact l_X9_happens_210 p1 p2  _    _  h
    · have h := h.2 c_9
      refine J_aload_n dX9_happens_12 rfl 0 rfl  ?_
      refine J_iload_n dX9_happens_13 rfl 2 rfl  ?_
      refine J_callV (h := 353) (ci := 7) (As := [.int p2]) (rest := []) (n := 1) dX9_happens_14 (c_X9_generate p2  _ _ h) (by decide) rfl tb_5_104 tb_5_154 tb_1_8 tb_5_102 tb_5_103 (by decide) rfl (by decide) (by decide) (Nat.le_of_ble_eq_true rfl) rfl (fun v_r_11 S_10 hq => ?_)
      obtain ⟨r_11, rfl, h⟩ := hq
      dsimp only [Option.toList, List.cons_append, List.nil_append]
      refine J_pop dX9_happens_17 rfl  ?_
      refine J_goto (tgt := 210) dX9_happens_18 (by decide)  ?_
      exact l_X9_happens_210 p1 p2  _    _  h
