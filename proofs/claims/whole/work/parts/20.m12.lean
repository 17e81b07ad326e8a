def q_X9_thins_232 (p1 : Nat) (p2 : Int32) (p3 : Int32)  (Q : Sto → Prop) : Nat → Int32 → Int32 → Sto → Prop
  | 0, _, _, _ => False
  | n + 1, x4, x5, S => (((16 * x4) ≤ x5 → ∀ S_2 : Sto, S_2 = uA S 353 35 x4 → Q S_2) ∧ (¬ (16 * x4) ≤ x5 → vp_in x5 (256) ∧ vp_in x5 (256) ∧ ∀ S_5 : Sto, S_5 = uA S 374 (x5 : Int32).toNatClampNeg (S.1 375 (x5 : Int32).toNatClampNeg) → ∀ x5_6 : Int32, x5_6 = x5 + 1 → q_X9_thins_232 p1 p2 p3  Q n x4 x5_6 S_5))
set_option maxRecDepth 100000 in
set_option maxHeartbeats 4000000 in
theorem l_X9_thins_232 {g : Gv} (p1 : Nat) (p2 : Int32) (p3 : Int32)  (Q : Sto → Prop)  (hp1 : kd p1 = 0) (n : Nat) : ∀ (x4 : Int32) (x5 : Int32) (S : Sto)  (h : q_X9_thins_232 p1 p2 p3  Q n x4 x5 S), RJ g cX9_thins RX9 none 7 4 232 [(0, .ref (g.1 + 353)), (1, .ref (g.1 + p1)), (2, .int p2), (3, .int p3), (4, .int x4), (5, .int x5)] [] S (Qv Q) := by
  induction n with
  | zero => intro x4 x5 S  h; exact h.elim
  | succ n ih =>
    intro x4 x5 S  h
    unfold q_X9_thins_232 at h
    refine J_iload dX9_thins_232 5 rfl  ?_
    refine J_bipush (v := 16) dX9_thins_234 (by decide)  ?_
    refine J_iload dX9_thins_236 4 rfl  ?_
    refine J_imul dX9_thins_238  ?_
    refine J_icmp_ge (tgt := 262) dX9_thins_239 (by decide) (fun c_1 => ?_) (fun c_1 => ?_)
    · have h := h.1 c_1
      refine J_aload_n dX9_thins_262 rfl 0 rfl  ?_
      refine J_iload dX9_thins_263 4 rfl  ?_
      refine J_puti (ci := 7) dX9_thins_265 35 rfl giX9 (by decide) (by decide) rfl rfl tyX9 tyX9_ok nmX9 rfl rfl rfl rfl tb_4_146 rfl  ?_
      refine J_nmS (fun S_2 eS_2 => ?_)
      have h := h S_2 eS_2
      exact J_vret dX9_thins_268 rfl ⟨rfl, h⟩
    · have h := h.2 c_1
      refine J_aload_n dX9_thins_242 rfl 0 rfl  ?_
      refine J_getr (r := 374) (ci := 7) dX9_thins_243 32 rfl giX9 (by decide) (by decide) rfl rfl tb_4_143 (by decide) (by decide)  ?_
      refine J_iload dX9_thins_246 5 rfl  ?_
      refine J_aload_n dX9_thins_248 rfl 0 rfl  ?_
      refine J_getr (r := 375) (ci := 7) dX9_thins_249 33 rfl giX9 (by decide) (by decide) rfl rfl tb_4_144 (by decide) (by decide)  ?_
      refine J_iload dX9_thins_252 5 rfl  ?_
      obtain ⟨hi_3, h⟩ := h
      refine J_iald dX9_thins_254 (by decide) hi_3  ?_
      obtain ⟨hi_4, h⟩ := h
      refine J_iast dX9_thins_255 (by decide) hi_4  ?_
      refine J_nmS (fun S_5 eS_5 => ?_)
      have h := h S_5 eS_5
      obtain ⟨x5_6, ex5_6⟩ : ∃ y : Int32, y = x5 + 1 := ⟨_, rfl⟩
      have h := h x5_6 ex5_6
      refine J_iinc (v := x5_6) (lv' := [(0, .ref (g.1 + 353)), (1, .ref (g.1 + p1)), (2, .int p2), (3, .int p3), (4, .int x4), (5, .int x5_6)]) dX9_thins_256 (q := 5) rfl (by rw [ex5_6]; rfl) (by decide) [1, 2, 3, 4, 5, 0] rfl  ?_
      refine J_goto (tgt := 232) dX9_thins_259 (by decide)  ?_
      exact ih _ _ _  h
def q_X9_thins_223 (p1 : Nat) (p2 : Int32) (p3 : Int32) (R133 : Int32 → Int32 → Sto → Prop) (Q : Sto → Prop) (x4 : Int32) (x5 : Int32) (S : Sto) : Prop := ∀ x5_1 : Int32, x5_1 = x5 + 1 → R133 x4 x5_1 S
set_option maxRecDepth 100000 in
set_option maxHeartbeats 4000000 in
theorem l_X9_thins_223 {g : Gv} (p1 : Nat) (p2 : Int32) (p3 : Int32) (R133 : Int32 → Int32 → Sto → Prop) (Q : Sto → Prop) (hR133 : ∀ (y4 : Int32) (y5 : Int32) (S : Sto), R133 y4 y5 S → RJ g cX9_thins RX9 none 7 4 133 [(0, .ref (g.1 + 353)), (1, .ref (g.1 + p1)), (2, .int p2), (3, .int p3), (4, .int y4), (5, .int y5)] [] S (Qv Q)) (hp1 : kd p1 = 0) (x4 : Int32) (x5 : Int32) (S : Sto)  (h : q_X9_thins_223 p1 p2 p3 R133 Q x4 x5 S) : RJ g cX9_thins RX9 none 7 4 223 [(0, .ref (g.1 + 353)), (1, .ref (g.1 + p1)), (2, .int p2), (3, .int p3), (4, .int x4), (5, .int x5)] [] S (Qv Q) := by
  unfold q_X9_thins_223 at h
  obtain ⟨x5_1, ex5_1⟩ : ∃ y : Int32, y = x5 + 1 := ⟨_, rfl⟩
  have h := h x5_1 ex5_1
  refine J_iinc (v := x5_1) (lv' := [(0, .ref (g.1 + 353)), (1, .ref (g.1 + p1)), (2, .int p2), (3, .int p3), (4, .int x4), (5, .int x5_1)]) dX9_thins_223 (q := 5) rfl (by rw [ex5_1]; rfl) (by decide) [1, 2, 3, 4, 5, 0] rfl  ?_
  refine J_goto (tgt := 133) dX9_thins_226 (by decide)  ?_
  exact hR133 _ _ _  h
def q_X9_thins_213 (p1 : Nat) (p2 : Int32) (p3 : Int32) (R133 : Int32 → Int32 → Sto → Prop) (R162 : Int32 → Int32 → Int32 → Sto → Prop) (Q : Sto → Prop) (x4 : Int32) (x5 : Int32) (x6 : Int32) (t1 : Int32) (t2 : Int32) (S : Sto) : Prop := vp_in t1 (256) ∧ ∀ S_2 : Sto, S_2 = uA S 375 (t1 : Int32).toNatClampNeg t2 → ∀ x6_3 : Int32, x6_3 = x6 + 1 → R162 x4 x5 x6_3 S_2
set_option maxRecDepth 100000 in
set_option maxHeartbeats 4000000 in
theorem l_X9_thins_213 {g : Gv} (p1 : Nat) (p2 : Int32) (p3 : Int32) (R133 : Int32 → Int32 → Sto → Prop) (R162 : Int32 → Int32 → Int32 → Sto → Prop) (Q : Sto → Prop) (hR133 : ∀ (y4 : Int32) (y5 : Int32) (S : Sto), R133 y4 y5 S → RJ g cX9_thins RX9 none 7 4 133 [(0, .ref (g.1 + 353)), (1, .ref (g.1 + p1)), (2, .int p2), (3, .int p3), (4, .int y4), (5, .int y5)] [] S (Qv Q)) (hR162 : ∀ (y4 : Int32) (y5 : Int32) (y6 : Int32) (S : Sto), R162 y4 y5 y6 S → RJ g cX9_thins RX9 none 7 4 162 [(0, .ref (g.1 + 353)), (1, .ref (g.1 + p1)), (2, .int p2), (3, .int p3), (4, .int y4), (5, .int y5), (6, .int y6)] [] S (Qv Q)) (hp1 : kd p1 = 0) (x4 : Int32) (x5 : Int32) (x6 : Int32) (t1 : Int32) (t2 : Int32) (S : Sto)  (h : q_X9_thins_213 p1 p2 p3 R133 R162 Q x4 x5 x6 t1 t2 S) : RJ g cX9_thins RX9 none 7 4 213 [(0, .ref (g.1 + 353)), (1, .ref (g.1 + p1)), (2, .int p2), (3, .int p3), (4, .int x4), (5, .int x5), (6, .int x6)] [.int t2, .int t1, .ref (g.1 + 375)] S (Qv Q) := by
  unfold q_X9_thins_213 at h
  obtain ⟨hi_1, h⟩ := h
  refine J_iast dX9_thins_213 (by decide) hi_1  ?_
  refine J_nmS (fun S_2 eS_2 => ?_)
  have h := h S_2 eS_2
  obtain ⟨x6_3, ex6_3⟩ : ∃ y : Int32, y = x6 + 1 := ⟨_, rfl⟩
  have h := h x6_3 ex6_3
  refine J_iinc (v := x6_3) (lv' := [(0, .ref (g.1 + 353)), (1, .ref (g.1 + p1)), (2, .int p2), (3, .int p3), (4, .int x4), (5, .int x5), (6, .int x6_3)]) dX9_thins_214 (q := 6) rfl (by rw [ex6_3]; rfl) (by decide) [1, 2, 3, 4, 5, 6, 0] rfl  ?_
  refine J_goto (tgt := 162) dX9_thins_217 (by decide)  ?_
  exact hR162 _ _ _ _  h
def q_X9_thins_162 (p1 : Nat) (p2 : Int32) (p3 : Int32) (R133 : Int32 → Int32 → Sto → Prop) (Q : Sto → Prop) : Nat → Int32 → Int32 → Int32 → Sto → Prop
  | 0, _, _, _, _ => False
  | n + 1, x4, x5, x6, S => ((16 ≤ x6 → ∀ x4_2 : Int32, x4_2 = x4 + 1 → q_X9_thins_223 p1 p2 p3 R133 Q x4_2 x5 S) ∧ (¬ 16 ≤ x6 → (((S.1 353 3) ≤ x6 → q_X9_thins_213 p1 p2 p3 R133 (fun y4 y5 y6 S => q_X9_thins_162 p1 p2 p3 R133 Q n y4 y5 y6 S) Q x4 x5 x6 ((16 * x4) + x6) 0 S) ∧ (¬ (S.1 353 3) ≤ x6 → vp_in (((256 * x5) + (S.1 353 3)) + x6) (65536) ∧ q_X9_thins_213 p1 p2 p3 R133 (fun y4 y5 y6 S => q_X9_thins_162 p1 p2 p3 R133 Q n y4 y5 y6 S) Q x4 x5 x6 ((16 * x4) + x6) (S.1 366 (((256 * x5) + (S.1 353 3)) + x6 : Int32).toNatClampNeg) S))))
set_option maxRecDepth 100000 in
set_option maxHeartbeats 4000000 in
theorem l_X9_thins_162 {g : Gv} (p1 : Nat) (p2 : Int32) (p3 : Int32) (R133 : Int32 → Int32 → Sto → Prop) (Q : Sto → Prop) (hR133 : ∀ (y4 : Int32) (y5 : Int32) (S : Sto), R133 y4 y5 S → RJ g cX9_thins RX9 none 7 4 133 [(0, .ref (g.1 + 353)), (1, .ref (g.1 + p1)), (2, .int p2), (3, .int p3), (4, .int y4), (5, .int y5)] [] S (Qv Q)) (hp1 : kd p1 = 0) (n : Nat) : ∀ (x4 : Int32) (x5 : Int32) (x6 : Int32) (S : Sto)  (h : q_X9_thins_162 p1 p2 p3 R133 Q n x4 x5 x6 S), RJ g cX9_thins RX9 none 7 4 162 [(0, .ref (g.1 + 353)), (1, .ref (g.1 + p1)), (2, .int p2), (3, .int p3), (4, .int x4), (5, .int x5), (6, .int x6)] [] S (Qv Q) := by
  induction n with
  | zero => intro x4 x5 x6 S  h; exact h.elim
  | succ n ih =>
    intro x4 x5 x6 S  h
    unfold q_X9_thins_162 at h
    refine J_iload dX9_thins_162 6 rfl  ?_
    refine J_bipush (v := 16) dX9_thins_164 (by decide)  ?_
    refine J_icmp_ge (tgt := 220) dX9_thins_166 (by decide) (fun c_1 => ?_) (fun c_1 => ?_)
    · have h := h.1 c_1
      obtain ⟨x4_2, ex4_2⟩ : ∃ y : Int32, y = x4 + 1 := ⟨_, rfl⟩
      have h := h x4_2 ex4_2
      refine J_iinc (v := x4_2) (lv' := [(0, .ref (g.1 + 353)), (1, .ref (g.1 + p1)), (2, .int p2), (3, .int p3), (4, .int x4_2), (5, .int x5), (6, .int x6)]) dX9_thins_220 (q := 4) rfl (by rw [ex4_2]; rfl) (by decide) [1, 2, 3, 4, 0, 5, 6] rfl  ?_
      refine J_sub (lv' := [(0, .ref (g.1 + 353)), (1, .ref (g.1 + p1)), (2, .int p2), (3, .int p3), (4, .int x4_2), (5, .int x5)]) [0, 1, 2, 3, 4, 5] rfl ?_
      exact l_X9_thins_223 p1 p2 p3 _ _ hR133 hp1 _ _ _  h
    · have h := h.2 c_1
      refine J_aload_n dX9_thins_169 rfl 0 rfl  ?_
      refine J_getr (r := 375) (ci := 7) dX9_thins_170 33 rfl giX9 (by decide) (by decide) rfl rfl tb_4_144 (by decide) (by decide)  ?_
      refine J_bipush (v := 16) dX9_thins_173 (by decide)  ?_
      refine J_iload dX9_thins_175 4 rfl  ?_
      refine J_imul dX9_thins_177  ?_
      refine J_iload dX9_thins_178 6 rfl  ?_
      refine J_iadd dX9_thins_180  ?_
      refine J_iload dX9_thins_181 6 rfl  ?_
      refine J_aload_n dX9_thins_183 rfl 0 rfl  ?_
      refine J_geti (ci := 7) dX9_thins_184 3 rfl giX9 (by decide) (by decide) rfl rfl tb_4_114 rfl  ?_
      refine J_icmp_ge (tgt := 212) dX9_thins_187 (by decide) (fun c_3 => ?_) (fun c_3 => ?_)
      · have h := h.1 c_3
        refine J_iconst (v := 0) dX9_thins_212 (by decide)  ?_
        exact l_X9_thins_213 p1 p2 p3 _ _ _ hR133 (fun y4 y5 y6 S  h => ih y4 y5 y6 S  h) hp1 _ _ _ _ _ _  h
      · have h := h.2 c_3
        refine J_aload_n dX9_thins_190 rfl 0 rfl  ?_
        refine J_getr (r := 366) (ci := 7) dX9_thins_191 22 rfl giX9 (by decide) (by decide) rfl rfl tb_4_133 (by decide) (by decide)  ?_
        refine J_sipush (v := 256) dX9_thins_194 (by decide)  ?_
        refine J_iload dX9_thins_197 5 rfl  ?_
        refine J_imul dX9_thins_199  ?_
        refine J_aload_n dX9_thins_200 rfl 0 rfl  ?_
        refine J_geti (ci := 7) dX9_thins_201 3 rfl giX9 (by decide) (by decide) rfl rfl tb_4_114 rfl  ?_
        refine J_iadd dX9_thins_204  ?_
        refine J_iload dX9_thins_205 6 rfl  ?_
        refine J_iadd dX9_thins_207  ?_
        obtain ⟨hi_4, h⟩ := h
        refine J_iald dX9_thins_208 (by decide) hi_4  ?_
        refine J_goto (tgt := 213) dX9_thins_209 (by decide)  ?_
        exact l_X9_thins_213 p1 p2 p3 _ _ _ hR133 (fun y4 y5 y6 S  h => ih y4 y5 y6 S  h) hp1 _ _ _ _ _ _  h
def q_X9_thins_133 (p1 : Nat) (p2 : Int32) (p3 : Int32)  (Q : Sto → Prop) : Nat → Int32 → Int32 → Sto → Prop
  | 0, _, _, _ => False
  | n + 1, x4, x5, S => (((S.1 353 25) ≤ x5 → (∃ n_232, q_X9_thins_232 p1 p2 p3  Q n_232 x4 0 S)) ∧ (¬ (S.1 353 25) ≤ x5 → vp_in x5 (256) ∧ (((S.1 353 3) ≤ (S.1 367 (x5 : Int32).toNatClampNeg) → (∃ n_162, q_X9_thins_162 p1 p2 p3 (fun y4 y5 S => q_X9_thins_133 p1 p2 p3  Q n y4 y5 S) Q n_162 x4 x5 0 S)) ∧ (¬ (S.1 353 3) ≤ (S.1 367 (x5 : Int32).toNatClampNeg) → q_X9_thins_223 p1 p2 p3 (fun y4 y5 S => q_X9_thins_133 p1 p2 p3  Q n y4 y5 S) Q x4 x5 S))))
set_option maxRecDepth 100000 in
set_option maxHeartbeats 4000000 in
theorem l_X9_thins_133 {g : Gv} (p1 : Nat) (p2 : Int32) (p3 : Int32)  (Q : Sto → Prop)  (hp1 : kd p1 = 0) (n : Nat) : ∀ (x4 : Int32) (x5 : Int32) (S : Sto)  (h : q_X9_thins_133 p1 p2 p3  Q n x4 x5 S), RJ g cX9_thins RX9 none 7 4 133 [(0, .ref (g.1 + 353)), (1, .ref (g.1 + p1)), (2, .int p2), (3, .int p3), (4, .int x4), (5, .int x5)] [] S (Qv Q) := by
  induction n with
  | zero => intro x4 x5 S  h; exact h.elim
  | succ n ih =>
    intro x4 x5 S  h
    unfold q_X9_thins_133 at h
    refine J_iload dX9_thins_133 5 rfl  ?_
    refine J_aload_n dX9_thins_135 rfl 0 rfl  ?_
    refine J_geti (ci := 7) dX9_thins_136 25 rfl giX9 (by decide) (by decide) rfl rfl tb_4_136 rfl  ?_
    refine J_icmp_ge (tgt := 229) dX9_thins_139 (by decide) (fun c_1 => ?_) (fun c_1 => ?_)
    · have h := h.1 c_1
      refine J_iconst (v := 0) dX9_thins_229 (by decide)  ?_
      refine J_istore (lv' := [(0, .ref (g.1 + 353)), (1, .ref (g.1 + p1)), (2, .int p2), (3, .int p3), (4, .int x4), (5, .int 0)]) dX9_thins_230 (by decide) [1, 2, 3, 4, 5, 0] rfl  ?_
      obtain ⟨n, h⟩ := h
      exact l_X9_thins_232 p1 p2 p3  _  hp1 n _ _ _  h
    · have h := h.2 c_1
      refine J_aload_n dX9_thins_142 rfl 0 rfl  ?_
      refine J_getr (r := 367) (ci := 7) dX9_thins_143 23 rfl giX9 (by decide) (by decide) rfl rfl tb_4_134 (by decide) (by decide)  ?_
      refine J_iload dX9_thins_146 5 rfl  ?_
      obtain ⟨hi_2, h⟩ := h
      refine J_iald dX9_thins_148 (by decide) hi_2  ?_
      refine J_aload_n dX9_thins_149 rfl 0 rfl  ?_
      refine J_geti (ci := 7) dX9_thins_150 3 rfl giX9 (by decide) (by decide) rfl rfl tb_4_114 rfl  ?_
      refine J_icmp_ge (tgt := 159) dX9_thins_153 (by decide) (fun c_3 => ?_) (fun c_3 => ?_)
      · have h := h.1 c_3
        refine J_iconst (v := 0) dX9_thins_159 (by decide)  ?_
        refine J_istore (lv' := [(0, .ref (g.1 + 353)), (1, .ref (g.1 + p1)), (2, .int p2), (3, .int p3), (4, .int x4), (5, .int x5), (6, .int 0)]) dX9_thins_160 (by decide) [1, 2, 3, 4, 5, 6, 0] rfl  ?_
        obtain ⟨n, h⟩ := h
        exact l_X9_thins_162 p1 p2 p3 _ _ (fun y4 y5 S  h => ih y4 y5 S  h) hp1 n _ _ _ _  h
      · have h := h.2 c_3
        refine J_goto (tgt := 223) dX9_thins_156 (by decide)  ?_
        exact l_X9_thins_223 p1 p2 p3 _ _ (fun y4 y5 S  h => ih y4 y5 S  h) hp1 _ _ _  h
def q_X9_thins_65 (p1 : Nat) (p2 : Int32) (p3 : Int32) (R16 : Int32 → Int32 → Sto → Prop) (Q : Sto → Prop) : Nat → Int32 → Int32 → Int32 → Sto → Prop
  | 0, _, _, _, _ => False
  | n + 1, x4, x5, x6, S => (((S.1 353 3) ≤ x6 → wp_X9_comes  S (fun r_3 S_2 => ∀ x5_4 : Int32, x5_4 = x5 + 1 → R16 x4 x5_4 S_2)) ∧ (¬ (S.1 353 3) ≤ x6 → vp_in x6 (16) ∧ vp_in x6 (256) ∧ ∀ S_7 : Sto, S_7 = uA S 370 (x6 : Int32).toNatClampNeg (S.1 373 (x6 : Int32).toNatClampNeg) → vp_in ((16 * x5) + x6) (256) ∧ vp_in ((S_7.1 353 3) + x6) (256) ∧ ∀ S_10 : Sto, S_10 = uA S_7 370 ((S_7.1 353 3) + x6 : Int32).toNatClampNeg (S_7.1 374 ((16 * x5) + x6 : Int32).toNatClampNeg) → ∀ x6_11 : Int32, x6_11 = x6 + 1 → q_X9_thins_65 p1 p2 p3 R16 Q n x4 x5 x6_11 S_10))
set_option maxRecDepth 100000 in
set_option maxHeartbeats 4000000 in
theorem l_X9_thins_65 {g : Gv} (p1 : Nat) (p2 : Int32) (p3 : Int32) (R16 : Int32 → Int32 → Sto → Prop) (Q : Sto → Prop) (hR16 : ∀ (y4 : Int32) (y5 : Int32) (S : Sto), R16 y4 y5 S → RJ g cX9_thins RX9 none 7 4 16 [(0, .ref (g.1 + 353)), (1, .ref (g.1 + p1)), (2, .int p2), (3, .int p3), (4, .int y4), (5, .int y5)] [] S (Qv Q)) (hp1 : kd p1 = 0) (n : Nat) : ∀ (x4 : Int32) (x5 : Int32) (x6 : Int32) (S : Sto)  (h : q_X9_thins_65 p1 p2 p3 R16 Q n x4 x5 x6 S), RJ g cX9_thins RX9 none 7 4 65 [(0, .ref (g.1 + 353)), (1, .ref (g.1 + p1)), (2, .int p2), (3, .int p3), (4, .int x4), (5, .int x5), (6, .int x6)] [] S (Qv Q) := by
  induction n with
  | zero => intro x4 x5 x6 S  h; exact h.elim
  | succ n ih =>
    intro x4 x5 x6 S  h
    unfold q_X9_thins_65 at h
    refine J_iload dX9_thins_65 6 rfl  ?_
    refine J_aload_n dX9_thins_67 rfl 0 rfl  ?_
    refine J_geti (ci := 7) dX9_thins_68 3 rfl giX9 (by decide) (by decide) rfl rfl tb_4_114 rfl  ?_
    refine J_icmp_ge (tgt := 119) dX9_thins_71 (by decide) (fun c_1 => ?_) (fun c_1 => ?_)
    · have h := h.1 c_1
      refine J_aload_n dX9_thins_119 rfl 0 rfl  ?_
      refine J_callV (h := 353) (ci := 7) (As := []) (rest := []) (n := 0) dX9_thins_120 (c_X9_comes   _ _ h) (by decide) rfl tb_5_88 tb_5_85 tb_1_8 tb_5_87 sl_38 (by decide) rfl (by decide) (by decide) (Nat.le_of_ble_eq_true rfl) rfl (fun v_r_3 S_2 hq => ?_)
      obtain ⟨r_3, rfl, h⟩ := hq
      dsimp only [Option.toList, List.cons_append, List.nil_append]
      refine J_pop dX9_thins_123 rfl  ?_
      obtain ⟨x5_4, ex5_4⟩ : ∃ y : Int32, y = x5 + 1 := ⟨_, rfl⟩
      have h := h x5_4 ex5_4
      refine J_iinc (v := x5_4) (lv' := [(0, .ref (g.1 + 353)), (1, .ref (g.1 + p1)), (2, .int p2), (3, .int p3), (4, .int x4), (5, .int x5_4), (6, .int x6)]) dX9_thins_124 (q := 5) rfl (by rw [ex5_4]; rfl) (by decide) [1, 2, 3, 4, 5, 0, 6] rfl  ?_
      refine J_goto (tgt := 16) dX9_thins_127 (by decide)  ?_
      refine J_sub (lv' := [(0, .ref (g.1 + 353)), (1, .ref (g.1 + p1)), (2, .int p2), (3, .int p3), (4, .int x4), (5, .int x5_4)]) [0, 1, 2, 3, 4, 5] rfl ?_
      exact hR16 _ _ _  h
    · have h := h.2 c_1
      refine J_aload_n dX9_thins_74 rfl 0 rfl  ?_
      refine J_getr (r := 370) (ci := 7) dX9_thins_75 28 rfl giX9 (by decide) (by decide) rfl rfl tb_4_139 (by decide) (by decide)  ?_
      refine J_iload dX9_thins_78 6 rfl  ?_
      refine J_aload_n dX9_thins_80 rfl 0 rfl  ?_
      refine J_getr (r := 373) (ci := 7) dX9_thins_81 31 rfl giX9 (by decide) (by decide) rfl rfl tb_4_142 (by decide) (by decide)  ?_
      refine J_iload dX9_thins_84 6 rfl  ?_
      obtain ⟨hi_5, h⟩ := h
      refine J_iald dX9_thins_86 (by decide) hi_5  ?_
      obtain ⟨hi_6, h⟩ := h
      refine J_iast dX9_thins_87 (by decide) hi_6  ?_
      refine J_nmS (fun S_7 eS_7 => ?_)
      have h := h S_7 eS_7
      refine J_aload_n dX9_thins_88 rfl 0 rfl  ?_
      refine J_getr (r := 370) (ci := 7) dX9_thins_89 28 rfl giX9 (by decide) (by decide) rfl rfl tb_4_139 (by decide) (by decide)  ?_
      refine J_aload_n dX9_thins_92 rfl 0 rfl  ?_
      refine J_geti (ci := 7) dX9_thins_93 3 rfl giX9 (by decide) (by decide) rfl rfl tb_4_114 rfl  ?_
      refine J_iload dX9_thins_96 6 rfl  ?_
      refine J_iadd dX9_thins_98  ?_
      refine J_aload_n dX9_thins_99 rfl 0 rfl  ?_
      refine J_getr (r := 374) (ci := 7) dX9_thins_100 32 rfl giX9 (by decide) (by decide) rfl rfl tb_4_143 (by decide) (by decide)  ?_
      refine J_bipush (v := 16) dX9_thins_103 (by decide)  ?_
      refine J_iload dX9_thins_105 5 rfl  ?_
      refine J_imul dX9_thins_107  ?_
      refine J_iload dX9_thins_108 6 rfl  ?_
      refine J_iadd dX9_thins_110  ?_
      obtain ⟨hi_8, h⟩ := h
      refine J_iald dX9_thins_111 (by decide) hi_8  ?_
      obtain ⟨hi_9, h⟩ := h
      refine J_iast dX9_thins_112 (by decide) hi_9  ?_
      refine J_nmS (fun S_10 eS_10 => ?_)
      have h := h S_10 eS_10
      obtain ⟨x6_11, ex6_11⟩ : ∃ y : Int32, y = x6 + 1 := ⟨_, rfl⟩
      have h := h x6_11 ex6_11
      refine J_iinc (v := x6_11) (lv' := [(0, .ref (g.1 + 353)), (1, .ref (g.1 + p1)), (2, .int p2), (3, .int p3), (4, .int x4), (5, .int x5), (6, .int x6_11)]) dX9_thins_113 (q := 6) rfl (by rw [ex6_11]; rfl) (by decide) [1, 2, 3, 4, 5, 6, 0] rfl  ?_
      refine J_goto (tgt := 65) dX9_thins_116 (by decide)  ?_
      exact ih _ _ _ _  h
def q_X9_thins_62 (p1 : Nat) (p2 : Int32) (p3 : Int32) (R16 : Int32 → Int32 → Sto → Prop) (Q : Sto → Prop) (x4 : Int32) (x5 : Int32) (S : Sto) : Prop := (∃ n_65, q_X9_thins_65 p1 p2 p3 R16 Q n_65 x4 x5 0 S)
set_option maxRecDepth 100000 in
set_option maxHeartbeats 4000000 in
theorem l_X9_thins_62 {g : Gv} (p1 : Nat) (p2 : Int32) (p3 : Int32) (R16 : Int32 → Int32 → Sto → Prop) (Q : Sto → Prop) (hR16 : ∀ (y4 : Int32) (y5 : Int32) (S : Sto), R16 y4 y5 S → RJ g cX9_thins RX9 none 7 4 16 [(0, .ref (g.1 + 353)), (1, .ref (g.1 + p1)), (2, .int p2), (3, .int p3), (4, .int y4), (5, .int y5)] [] S (Qv Q)) (hp1 : kd p1 = 0) (x4 : Int32) (x5 : Int32) (S : Sto)  (h : q_X9_thins_62 p1 p2 p3 R16 Q x4 x5 S) : RJ g cX9_thins RX9 none 7 4 62 [(0, .ref (g.1 + 353)), (1, .ref (g.1 + p1)), (2, .int p2), (3, .int p3), (4, .int x4), (5, .int x5)] [] S (Qv Q) := by
  unfold q_X9_thins_62 at h
  refine J_iconst (v := 0) dX9_thins_62 (by decide)  ?_
  refine J_istore (lv' := [(0, .ref (g.1 + 353)), (1, .ref (g.1 + p1)), (2, .int p2), (3, .int p3), (4, .int x4), (5, .int x5), (6, .int 0)]) dX9_thins_63 (by decide) [1, 2, 3, 4, 5, 6, 0] rfl  ?_
  obtain ⟨n, h⟩ := h
  exact l_X9_thins_65 p1 p2 p3 _ _ hR16 hp1 n _ _ _ _  h
def q_X9_thins_16 (p1 : Nat) (p2 : Int32) (p3 : Int32)  (Q : Sto → Prop) : Nat → Int32 → Int32 → Sto → Prop
  | 0, _, _, _ => False
  | n + 1, x4, x5, S => (((S.1 353 35) ≤ x5 → (∃ n_133, q_X9_thins_133 p1 p2 p3  Q n_133 x4 0 S)) ∧ (¬ (S.1 353 35) ≤ x5 → ((¬ p3 = 0 → wp_X9_multiply p1 p2 374 (16 * x5) S (fun S_3 => q_X9_thins_62 p1 p2 p3 (fun y4 y5 S => q_X9_thins_16 p1 p2 p3  Q n y4 y5 S) Q x4 x5 S_3)) ∧ (p3 = 0 → wp_X9_multiply 374 (16 * x5) p1 p2 S (fun S_5 => q_X9_thins_62 p1 p2 p3 (fun y4 y5 S => q_X9_thins_16 p1 p2 p3  Q n y4 y5 S) Q x4 x5 S_5)))))
set_option maxRecDepth 100000 in
set_option maxHeartbeats 4000000 in
theorem l_X9_thins_16 {g : Gv} (p1 : Nat) (p2 : Int32) (p3 : Int32)  (Q : Sto → Prop)  (hp1 : kd p1 = 0) (n : Nat) : ∀ (x4 : Int32) (x5 : Int32) (S : Sto)  (h : q_X9_thins_16 p1 p2 p3  Q n x4 x5 S), RJ g cX9_thins RX9 none 7 4 16 [(0, .ref (g.1 + 353)), (1, .ref (g.1 + p1)), (2, .int p2), (3, .int p3), (4, .int x4), (5, .int x5)] [] S (Qv Q) := by
  induction n with
  | zero => intro x4 x5 S  h; exact h.elim
  | succ n ih =>
    intro x4 x5 S  h
    unfold q_X9_thins_16 at h
    refine J_iload dX9_thins_16 5 rfl  ?_
    refine J_aload_n dX9_thins_18 rfl 0 rfl  ?_
    refine J_geti (ci := 7) dX9_thins_19 35 rfl giX9 (by decide) (by decide) rfl rfl tb_4_146 rfl  ?_
    refine J_icmp_ge (tgt := 130) dX9_thins_22 (by decide) (fun c_1 => ?_) (fun c_1 => ?_)
    · have h := h.1 c_1
      refine J_iconst (v := 0) dX9_thins_130 (by decide)  ?_
      refine J_istore (lv' := [(0, .ref (g.1 + 353)), (1, .ref (g.1 + p1)), (2, .int p2), (3, .int p3), (4, .int x4), (5, .int 0)]) dX9_thins_131 (by decide) [1, 2, 3, 4, 5, 0] rfl  ?_
      obtain ⟨n, h⟩ := h
      exact l_X9_thins_133 p1 p2 p3  _  hp1 n _ _ _  h
    · have h := h.2 c_1
      refine J_iload_n dX9_thins_25 rfl 3 rfl  ?_
      refine J_if_ne (tgt := 47) dX9_thins_26 (by decide) (fun c_2 => ?_) (fun c_2 => ?_)
      · have h := h.1 c_2
        refine J_aload_n dX9_thins_47 rfl 0 rfl  ?_
        refine J_aload_n dX9_thins_48 rfl 1 rfl  ?_
        refine J_iload_n dX9_thins_49 rfl 2 rfl  ?_
        refine J_aload_n dX9_thins_50 rfl 0 rfl  ?_
        refine J_getr (r := 374) (ci := 7) dX9_thins_51 32 rfl giX9 (by decide) (by decide) rfl rfl tb_4_143 (by decide) (by decide)  ?_
        refine J_bipush (v := 16) dX9_thins_54 (by decide)  ?_
        refine J_iload dX9_thins_56 5 rfl  ?_
        refine J_imul dX9_thins_58  ?_
        refine J_callV (h := 353) (ci := 7) (As := [.ref (g.1 + p1), .int p2, .ref (g.1 + 374), .int (16 * x5)]) (rest := []) (n := 4) dX9_thins_59 (c_X9_multiply p1 p2 374 (16 * x5) hp1 (by decide) _ _ h) (by decide) rfl tb_5_45 tb_5_42 tb_1_8 tb_5_44 sl_31 (by decide) rfl (by decide) (by decide) (Nat.le_of_ble_eq_true rfl) rfl (fun v_r_4 S_3 hq => ?_)
        obtain ⟨rfl, h⟩ := hq
        dsimp only [Option.toList, List.cons_append, List.nil_append]
        exact l_X9_thins_62 p1 p2 p3 _ _ (fun y4 y5 S  h => ih y4 y5 S  h) hp1 _ _ _  h
      · have h := h.2 c_2
        refine J_aload_n dX9_thins_29 rfl 0 rfl  ?_
        refine J_aload_n dX9_thins_30 rfl 0 rfl  ?_
        refine J_getr (r := 374) (ci := 7) dX9_thins_31 32 rfl giX9 (by decide) (by decide) rfl rfl tb_4_143 (by decide) (by decide)  ?_
        refine J_bipush (v := 16) dX9_thins_34 (by decide)  ?_
        refine J_iload dX9_thins_36 5 rfl  ?_
        refine J_imul dX9_thins_38  ?_
        refine J_aload_n dX9_thins_39 rfl 1 rfl  ?_
        refine J_iload_n dX9_thins_40 rfl 2 rfl  ?_
        refine J_callV (h := 353) (ci := 7) (As := [.ref (g.1 + 374), .int (16 * x5), .ref (g.1 + p1), .int p2]) (rest := []) (n := 4) dX9_thins_41 (c_X9_multiply 374 (16 * x5) p1 p2 (by decide) hp1 _ _ h) (by decide) rfl tb_5_45 tb_5_42 tb_1_8 tb_5_44 sl_31 (by decide) rfl (by decide) (by decide) (Nat.le_of_ble_eq_true rfl) rfl (fun v_r_6 S_5 hq => ?_)
        obtain ⟨rfl, h⟩ := hq
        dsimp only [Option.toList, List.cons_append, List.nil_append]
        refine J_goto (tgt := 62) dX9_thins_44 (by decide)  ?_
        exact l_X9_thins_62 p1 p2 p3 _ _ (fun y4 y5 S  h => ih y4 y5 S  h) hp1 _ _ _  h
def wp_X9_thins (p1 : Nat) (p2 : Int32) (p3 : Int32) (S : Sto) (Q : Sto → Prop) : Prop := wp_X9_begin (2 * (S.1 353 3)) S (fun S_1 => (∃ n_16, q_X9_thins_16 p1 p2 p3  Q n_16 0 0 S_1))
set_option maxRecDepth 100000 in
set_option maxHeartbeats 4000000 in
theorem c_X9_thins {g : Gv} (p1 : Nat) (p2 : Int32) (p3 : Int32) (hp1 : kd p1 = 0) (S : Sto) (Q : Sto → Prop) (h : wp_X9_thins p1 p2 p3 S Q) : CT g yX9_thins cX9_thins 7 none 4 [.ref (g.1 + 353), .ref (g.1 + p1), .int p2, .int p3] S (Qv Q) := by
  unfold wp_X9_thins at h
  refine CT.of (by decide) (Nat.le_of_ble_eq_true rfl) ?_
  refine J_sub (lv' := [(0, .ref (g.1 + 353)), (1, .ref (g.1 + p1)), (2, .int p2), (3, .int p3)]) [0, 1, 2, 3] rfl ?_
  refine J_aload_n dX9_thins_0 rfl 0 rfl  ?_
  refine J_iconst (v := 2) dX9_thins_1 (by decide)  ?_
  refine J_aload_n dX9_thins_2 rfl 0 rfl  ?_
  refine J_geti (ci := 7) dX9_thins_3 3 rfl giX9 (by decide) (by decide) rfl rfl tb_4_114 rfl  ?_
  refine J_imul dX9_thins_6  ?_
  refine J_callV (h := 353) (ci := 7) (As := [.int (2 * (S.1 353 3))]) (rest := []) (n := 1) dX9_thins_7 (c_X9_begin (2 * (S.1 353 3))  _ _ h) (by decide) rfl tb_5_72 tb_5_69 tb_1_8 tb_5_71 sl_35 (by decide) rfl (by decide) (by decide) (Nat.le_of_ble_eq_true rfl) rfl (fun v_r_2 S_1 hq => ?_)
  obtain ⟨rfl, h⟩ := hq
  dsimp only [Option.toList, List.cons_append, List.nil_append]
  refine J_iconst (v := 0) dX9_thins_10 (by decide)  ?_
  refine J_istore (lv' := [(0, .ref (g.1 + 353)), (1, .ref (g.1 + p1)), (2, .int p2), (3, .int p3), (4, .int 0)]) dX9_thins_11 (by decide) [1, 2, 3, 4, 0] rfl  ?_
  refine J_iconst (v := 0) dX9_thins_13 (by decide)  ?_
  refine J_istore (lv' := [(0, .ref (g.1 + 353)), (1, .ref (g.1 + p1)), (2, .int p2), (3, .int p3), (4, .int 0), (5, .int 0)]) dX9_thins_14 (by decide) [1, 2, 3, 4, 5, 0] rfl  ?_
  obtain ⟨n, h⟩ := h
  exact l_X9_thins_16 p1 p2 p3  _  hp1 n _ _ _  h
def q_X9_annihilated_112 (p1 : Nat) (p2 : Int32) (p3 : Int32) (R100 : Int32 → Sto → Prop) (Q : Sto → Prop) : Nat → Int32 → Int32 → Sto → Prop
  | 0, _, _, _ => False
  | n + 1, x4, x5, S => (((S.1 353 3) ≤ x5 → wp_X9_comes  S (fun r_3 S_2 => ∀ x4_4 : Int32, x4_4 = x4 + 1 → R100 x4_4 S_2)) ∧ (¬ (S.1 353 3) ≤ x5 → vp_in ((16 * x4) + x5) (256) ∧ vp_in x5 (256) ∧ ∀ S_7 : Sto, S_7 = uA S 370 (x5 : Int32).toNatClampNeg (S.1 374 ((16 * x4) + x5 : Int32).toNatClampNeg) → ∀ x5_8 : Int32, x5_8 = x5 + 1 → q_X9_annihilated_112 p1 p2 p3 R100 Q n x4 x5_8 S_7))
set_option maxRecDepth 100000 in
set_option maxHeartbeats 4000000 in
theorem l_X9_annihilated_112 {g : Gv} (p1 : Nat) (p2 : Int32) (p3 : Int32) (R100 : Int32 → Sto → Prop) (Q : Sto → Prop) (hR100 : ∀ (y4 : Int32) (S : Sto), R100 y4 S → RJ g cX9_annihilated RX9 none 6 5 100 [(0, .ref (g.1 + 353)), (1, .ref (g.1 + p1)), (2, .int p2), (3, .int p3), (4, .int y4)] [] S (Qv Q)) (hp1 : kd p1 = 0) (n : Nat) : ∀ (x4 : Int32) (x5 : Int32) (S : Sto)  (h : q_X9_annihilated_112 p1 p2 p3 R100 Q n x4 x5 S), RJ g cX9_annihilated RX9 none 6 5 112 [(0, .ref (g.1 + 353)), (1, .ref (g.1 + p1)), (2, .int p2), (3, .int p3), (4, .int x4), (5, .int x5)] [] S (Qv Q) := by
  induction n with
  | zero => intro x4 x5 S  h; exact h.elim
  | succ n ih =>
    intro x4 x5 S  h
    unfold q_X9_annihilated_112 at h
    refine J_iload dX9_annihilated_112 5 rfl  ?_
    refine J_aload_n dX9_annihilated_114 rfl 0 rfl  ?_
    refine J_geti (ci := 7) dX9_annihilated_115 3 rfl giX9 (by decide) (by decide) rfl rfl tb_4_114 rfl  ?_
    refine J_icmp_ge (tgt := 147) dX9_annihilated_118 (by decide) (fun c_1 => ?_) (fun c_1 => ?_)
    · have h := h.1 c_1
      refine J_aload_n dX9_annihilated_147 rfl 0 rfl  ?_
      refine J_callV (h := 353) (ci := 7) (As := []) (rest := []) (n := 0) dX9_annihilated_148 (c_X9_comes   _ _ h) (by decide) rfl tb_5_88 tb_5_85 tb_1_8 tb_5_87 sl_38 (by decide) rfl (by decide) (by decide) (Nat.le_of_ble_eq_true rfl) rfl (fun v_r_3 S_2 hq => ?_)
      obtain ⟨r_3, rfl, h⟩ := hq
      dsimp only [Option.toList, List.cons_append, List.nil_append]
      refine J_pop dX9_annihilated_151 rfl  ?_
      obtain ⟨x4_4, ex4_4⟩ : ∃ y : Int32, y = x4 + 1 := ⟨_, rfl⟩
      have h := h x4_4 ex4_4
      refine J_iinc (v := x4_4) (lv' := [(0, .ref (g.1 + 353)), (1, .ref (g.1 + p1)), (2, .int p2), (3, .int p3), (4, .int x4_4), (5, .int x5)]) dX9_annihilated_152 (q := 4) rfl (by rw [ex4_4]; rfl) (by decide) [1, 2, 3, 4, 0, 5] rfl  ?_
      refine J_goto (tgt := 100) dX9_annihilated_155 (by decide)  ?_
      refine J_sub (lv' := [(0, .ref (g.1 + 353)), (1, .ref (g.1 + p1)), (2, .int p2), (3, .int p3), (4, .int x4_4)]) [0, 1, 2, 3, 4] rfl ?_
      exact hR100 _ _  h
    · have h := h.2 c_1
      refine J_aload_n dX9_annihilated_121 rfl 0 rfl  ?_
      refine J_getr (r := 370) (ci := 7) dX9_annihilated_122 28 rfl giX9 (by decide) (by decide) rfl rfl tb_4_139 (by decide) (by decide)  ?_
      refine J_iload dX9_annihilated_125 5 rfl  ?_
      refine J_aload_n dX9_annihilated_127 rfl 0 rfl  ?_
      refine J_getr (r := 374) (ci := 7) dX9_annihilated_128 32 rfl giX9 (by decide) (by decide) rfl rfl tb_4_143 (by decide) (by decide)  ?_
      refine J_bipush (v := 16) dX9_annihilated_131 (by decide)  ?_
      refine J_iload dX9_annihilated_133 4 rfl  ?_
      refine J_imul dX9_annihilated_135  ?_
      refine J_iload dX9_annihilated_136 5 rfl  ?_
      refine J_iadd dX9_annihilated_138  ?_
      obtain ⟨hi_5, h⟩ := h
      refine J_iald dX9_annihilated_139 (by decide) hi_5  ?_
      obtain ⟨hi_6, h⟩ := h
      refine J_iast dX9_annihilated_140 (by decide) hi_6  ?_
      refine J_nmS (fun S_7 eS_7 => ?_)
      have h := h S_7 eS_7
      obtain ⟨x5_8, ex5_8⟩ : ∃ y : Int32, y = x5 + 1 := ⟨_, rfl⟩
      have h := h x5_8 ex5_8
      refine J_iinc (v := x5_8) (lv' := [(0, .ref (g.1 + 353)), (1, .ref (g.1 + p1)), (2, .int p2), (3, .int p3), (4, .int x4), (5, .int x5_8)]) dX9_annihilated_141 (q := 5) rfl (by rw [ex5_8]; rfl) (by decide) [1, 2, 3, 4, 5, 0] rfl  ?_
      refine J_goto (tgt := 112) dX9_annihilated_144 (by decide)  ?_
      exact ih _ _ _  h
def q_X9_annihilated_100 (p1 : Nat) (p2 : Int32) (p3 : Int32)  (Q : Sto → Prop) : Nat → Int32 → Sto → Prop
  | 0, _, _ => False
  | n + 1, x4, S => (((S.1 353 35) ≤ x4 → wp_X9_keeps 374 S (fun r_3 S_2 => ∀ S_4 : Sto, S_4 = uA S_2 353 35 r_3 → Q S_4)) ∧ (¬ (S.1 353 35) ≤ x4 → (∃ n_112, q_X9_annihilated_112 p1 p2 p3 (fun y4 S => q_X9_annihilated_100 p1 p2 p3  Q n y4 S) Q n_112 x4 0 S)))
set_option maxRecDepth 100000 in
set_option maxHeartbeats 4000000 in
theorem l_X9_annihilated_100 {g : Gv} (p1 : Nat) (p2 : Int32) (p3 : Int32)  (Q : Sto → Prop)  (hp1 : kd p1 = 0) (n : Nat) : ∀ (x4 : Int32) (S : Sto)  (h : q_X9_annihilated_100 p1 p2 p3  Q n x4 S), RJ g cX9_annihilated RX9 none 6 5 100 [(0, .ref (g.1 + 353)), (1, .ref (g.1 + p1)), (2, .int p2), (3, .int p3), (4, .int x4)] [] S (Qv Q) := by
  induction n with
  | zero => intro x4 S  h; exact h.elim
  | succ n ih =>
    intro x4 S  h
    unfold q_X9_annihilated_100 at h
    refine J_iload dX9_annihilated_100 4 rfl  ?_
    refine J_aload_n dX9_annihilated_102 rfl 0 rfl  ?_
    refine J_geti (ci := 7) dX9_annihilated_103 35 rfl giX9 (by decide) (by decide) rfl rfl tb_4_146 rfl  ?_
    refine J_icmp_ge (tgt := 158) dX9_annihilated_106 (by decide) (fun c_1 => ?_) (fun c_1 => ?_)
    · have h := h.1 c_1
      refine J_aload_n dX9_annihilated_158 rfl 0 rfl  ?_
      refine J_aload_n dX9_annihilated_159 rfl 0 rfl  ?_
      refine J_aload_n dX9_annihilated_160 rfl 0 rfl  ?_
      refine J_getr (r := 374) (ci := 7) dX9_annihilated_161 32 rfl giX9 (by decide) (by decide) rfl rfl tb_4_143 (by decide) (by decide)  ?_
      refine J_callV (h := 353) (ci := 7) (As := [.ref (g.1 + 374)]) (rest := [.ref (g.1 + 353)]) (n := 1) dX9_annihilated_164 (c_X9_keeps 374 (by decide) _ _ h) (by decide) rfl tb_6_15 tb_6_12 tb_1_8 tb_6_14 sl_54 (by decide) rfl (by decide) (by decide) (Nat.le_of_ble_eq_true rfl) rfl (fun v_r_3 S_2 hq => ?_)
      obtain ⟨r_3, rfl, h⟩ := hq
      dsimp only [Option.toList, List.cons_append, List.nil_append]
      refine J_puti (ci := 7) dX9_annihilated_167 35 rfl giX9 (by decide) (by decide) rfl rfl tyX9 tyX9_ok nmX9 rfl rfl rfl rfl tb_4_146 rfl  ?_
      refine J_nmS (fun S_4 eS_4 => ?_)
      have h := h S_4 eS_4
      exact J_vret dX9_annihilated_170 rfl ⟨rfl, h⟩
    · have h := h.2 c_1
      refine J_iconst (v := 0) dX9_annihilated_109 (by decide)  ?_
      refine J_istore (lv' := [(0, .ref (g.1 + 353)), (1, .ref (g.1 + p1)), (2, .int p2), (3, .int p3), (4, .int x4), (5, .int 0)]) dX9_annihilated_110 (by decide) [1, 2, 3, 4, 5, 0] rfl  ?_
      obtain ⟨n, h⟩ := h
      exact l_X9_annihilated_112 p1 p2 p3 _ _ (fun y4 S  h => ih y4 S  h) hp1 n _ _ _  h
def q_X9_annihilated_70 (p1 : Nat) (p2 : Int32) (p3 : Int32)  (Q : Sto → Prop) : Nat → Int32 → Sto → Prop
  | 0, _, _ => False
  | n + 1, x4, S => ((p2 ≤ x4 → wp_X9_beginPlaces  S (fun S_2 => (∃ n_100, q_X9_annihilated_100 p1 p2 p3  Q n_100 0 S_2))) ∧ (¬ p2 ≤ x4 → wp_X9_thins p1 (16 * x4) p3 S (fun S_4 => ∀ x4_6 : Int32, x4_6 = x4 + 1 → q_X9_annihilated_70 p1 p2 p3  Q n x4_6 S_4)))
set_option maxRecDepth 100000 in
set_option maxHeartbeats 4000000 in
theorem l_X9_annihilated_70 {g : Gv} (p1 : Nat) (p2 : Int32) (p3 : Int32)  (Q : Sto → Prop)  (hp1 : kd p1 = 0) (n : Nat) : ∀ (x4 : Int32) (S : Sto)  (h : q_X9_annihilated_70 p1 p2 p3  Q n x4 S), RJ g cX9_annihilated RX9 none 6 5 70 [(0, .ref (g.1 + 353)), (1, .ref (g.1 + p1)), (2, .int p2), (3, .int p3), (4, .int x4)] [] S (Qv Q) := by
  induction n with
  | zero => intro x4 S  h; exact h.elim
  | succ n ih =>
    intro x4 S  h
    unfold q_X9_annihilated_70 at h
    refine J_iload dX9_annihilated_70 4 rfl  ?_
    refine J_iload_n dX9_annihilated_72 rfl 2 rfl  ?_
    refine J_icmp_ge (tgt := 93) dX9_annihilated_73 (by decide) (fun c_1 => ?_) (fun c_1 => ?_)
    · have h := h.1 c_1
      refine J_aload_n dX9_annihilated_93 rfl 0 rfl  ?_
      refine J_callV (h := 353) (ci := 7) (As := []) (rest := []) (n := 0) dX9_annihilated_94 (c_X9_beginPlaces   _ _ h) (by decide) rfl tb_5_68 tb_5_65 tb_1_8 tb_5_67 sl_34 (by decide) rfl (by decide) (by decide) (Nat.le_of_ble_eq_true rfl) rfl (fun v_r_3 S_2 hq => ?_)
      obtain ⟨rfl, h⟩ := hq
      dsimp only [Option.toList, List.cons_append, List.nil_append]
      refine J_iconst (v := 0) dX9_annihilated_97 (by decide)  ?_
      refine J_istore (lv' := [(0, .ref (g.1 + 353)), (1, .ref (g.1 + p1)), (2, .int p2), (3, .int p3), (4, .int 0)]) dX9_annihilated_98 (by decide) [1, 2, 3, 4, 0] rfl  ?_
      obtain ⟨n, h⟩ := h
      exact l_X9_annihilated_100 p1 p2 p3  _  hp1 n _ _  h
    · have h := h.2 c_1
      refine J_aload_n dX9_annihilated_76 rfl 0 rfl  ?_
      refine J_aload_n dX9_annihilated_77 rfl 1 rfl  ?_
      refine J_bipush (v := 16) dX9_annihilated_78 (by decide)  ?_
      refine J_iload dX9_annihilated_80 4 rfl  ?_
      refine J_imul dX9_annihilated_82  ?_
      refine J_iload_n dX9_annihilated_83 rfl 3 rfl  ?_
      refine J_callV (h := 353) (ci := 7) (As := [.ref (g.1 + p1), .int (16 * x4), .int p3]) (rest := []) (n := 3) dX9_annihilated_84 (c_X9_thins p1 (16 * x4) p3 hp1 _ _ h) (by decide) rfl tb_6_23 tb_6_20 tb_1_8 tb_6_22 sl_56 (by decide) rfl (by decide) (by decide) (Nat.le_of_ble_eq_true rfl) rfl (fun v_r_5 S_4 hq => ?_)
      obtain ⟨rfl, h⟩ := hq
      dsimp only [Option.toList, List.cons_append, List.nil_append]
      obtain ⟨x4_6, ex4_6⟩ : ∃ y : Int32, y = x4 + 1 := ⟨_, rfl⟩
      have h := h x4_6 ex4_6
      refine J_iinc (v := x4_6) (lv' := [(0, .ref (g.1 + 353)), (1, .ref (g.1 + p1)), (2, .int p2), (3, .int p3), (4, .int x4_6)]) dX9_annihilated_87 (q := 4) rfl (by rw [ex4_6]; rfl) (by decide) [1, 2, 3, 4, 0] rfl  ?_
      refine J_goto (tgt := 70) dX9_annihilated_90 (by decide)  ?_
      exact ih _ _  h
def q_X9_annihilated_54 (p1 : Nat) (p2 : Int32) (p3 : Int32) (R11 : Int32 → Sto → Prop) (R23 : Int32 → Int32 → Sto → Prop) (Q : Sto → Prop) (x4 : Int32) (x5 : Int32) (t1 : Int32) (t2 : Int32) (S : Sto) : Prop := vp_in t1 (256) ∧ ∀ S_2 : Sto, S_2 = uA S 374 (t1 : Int32).toNatClampNeg t2 → ∀ x5_3 : Int32, x5_3 = x5 + 1 → R23 x4 x5_3 S_2
set_option maxRecDepth 100000 in
set_option maxHeartbeats 4000000 in
theorem l_X9_annihilated_54 {g : Gv} (p1 : Nat) (p2 : Int32) (p3 : Int32) (R11 : Int32 → Sto → Prop) (R23 : Int32 → Int32 → Sto → Prop) (Q : Sto → Prop) (hR11 : ∀ (y4 : Int32) (S : Sto), R11 y4 S → RJ g cX9_annihilated RX9 none 6 5 11 [(0, .ref (g.1 + 353)), (1, .ref (g.1 + p1)), (2, .int p2), (3, .int p3), (4, .int y4)] [] S (Qv Q)) (hR23 : ∀ (y4 : Int32) (y5 : Int32) (S : Sto), R23 y4 y5 S → RJ g cX9_annihilated RX9 none 6 5 23 [(0, .ref (g.1 + 353)), (1, .ref (g.1 + p1)), (2, .int p2), (3, .int p3), (4, .int y4), (5, .int y5)] [] S (Qv Q)) (hp1 : kd p1 = 0) (x4 : Int32) (x5 : Int32) (t1 : Int32) (t2 : Int32) (S : Sto)  (h : q_X9_annihilated_54 p1 p2 p3 R11 R23 Q x4 x5 t1 t2 S) : RJ g cX9_annihilated RX9 none 6 5 54 [(0, .ref (g.1 + 353)), (1, .ref (g.1 + p1)), (2, .int p2), (3, .int p3), (4, .int x4), (5, .int x5)] [.int t2, .int t1, .ref (g.1 + 374)] S (Qv Q) := by
  unfold q_X9_annihilated_54 at h
  obtain ⟨hi_1, h⟩ := h
  refine J_iast dX9_annihilated_54 (by decide) hi_1  ?_
  refine J_nmS (fun S_2 eS_2 => ?_)
  have h := h S_2 eS_2
  obtain ⟨x5_3, ex5_3⟩ : ∃ y : Int32, y = x5 + 1 := ⟨_, rfl⟩
  have h := h x5_3 ex5_3
  refine J_iinc (v := x5_3) (lv' := [(0, .ref (g.1 + 353)), (1, .ref (g.1 + p1)), (2, .int p2), (3, .int p3), (4, .int x4), (5, .int x5_3)]) dX9_annihilated_55 (q := 5) rfl (by rw [ex5_3]; rfl) (by decide) [1, 2, 3, 4, 5, 0] rfl  ?_
  refine J_goto (tgt := 23) dX9_annihilated_58 (by decide)  ?_
  exact hR23 _ _ _  h
def q_X9_annihilated_23 (p1 : Nat) (p2 : Int32) (p3 : Int32) (R11 : Int32 → Sto → Prop) (Q : Sto → Prop) : Nat → Int32 → Int32 → Sto → Prop
  | 0, _, _, _ => False
  | n + 1, x4, x5, S => ((16 ≤ x5 → ∀ x4_2 : Int32, x4_2 = x4 + 1 → R11 x4_2 S) ∧ (¬ 16 ≤ x5 → ((¬ x4 = x5 → q_X9_annihilated_54 p1 p2 p3 R11 (fun y4 y5 S => q_X9_annihilated_23 p1 p2 p3 R11 Q n y4 y5 S) Q x4 x5 ((16 * x4) + x5) 0 S) ∧ (x4 = x5 → q_X9_annihilated_54 p1 p2 p3 R11 (fun y4 y5 S => q_X9_annihilated_23 p1 p2 p3 R11 Q n y4 y5 S) Q x4 x5 ((16 * x4) + x5) 1 S))))
set_option maxRecDepth 100000 in
set_option maxHeartbeats 4000000 in
theorem l_X9_annihilated_23 {g : Gv} (p1 : Nat) (p2 : Int32) (p3 : Int32) (R11 : Int32 → Sto → Prop) (Q : Sto → Prop) (hR11 : ∀ (y4 : Int32) (S : Sto), R11 y4 S → RJ g cX9_annihilated RX9 none 6 5 11 [(0, .ref (g.1 + 353)), (1, .ref (g.1 + p1)), (2, .int p2), (3, .int p3), (4, .int y4)] [] S (Qv Q)) (hp1 : kd p1 = 0) (n : Nat) : ∀ (x4 : Int32) (x5 : Int32) (S : Sto)  (h : q_X9_annihilated_23 p1 p2 p3 R11 Q n x4 x5 S), RJ g cX9_annihilated RX9 none 6 5 23 [(0, .ref (g.1 + 353)), (1, .ref (g.1 + p1)), (2, .int p2), (3, .int p3), (4, .int x4), (5, .int x5)] [] S (Qv Q) := by
  induction n with
  | zero => intro x4 x5 S  h; exact h.elim
  | succ n ih =>
    intro x4 x5 S  h
    unfold q_X9_annihilated_23 at h
    refine J_iload dX9_annihilated_23 5 rfl  ?_
    refine J_bipush (v := 16) dX9_annihilated_25 (by decide)  ?_
    refine J_icmp_ge (tgt := 61) dX9_annihilated_27 (by decide) (fun c_1 => ?_) (fun c_1 => ?_)
    · have h := h.1 c_1
      obtain ⟨x4_2, ex4_2⟩ : ∃ y : Int32, y = x4 + 1 := ⟨_, rfl⟩
      have h := h x4_2 ex4_2
      refine J_iinc (v := x4_2) (lv' := [(0, .ref (g.1 + 353)), (1, .ref (g.1 + p1)), (2, .int p2), (3, .int p3), (4, .int x4_2), (5, .int x5)]) dX9_annihilated_61 (q := 4) rfl (by rw [ex4_2]; rfl) (by decide) [1, 2, 3, 4, 0, 5] rfl  ?_
      refine J_goto (tgt := 11) dX9_annihilated_64 (by decide)  ?_
      refine J_sub (lv' := [(0, .ref (g.1 + 353)), (1, .ref (g.1 + p1)), (2, .int p2), (3, .int p3), (4, .int x4_2)]) [0, 1, 2, 3, 4] rfl ?_
      exact hR11 _ _  h
    · have h := h.2 c_1
      refine J_aload_n dX9_annihilated_30 rfl 0 rfl  ?_
      refine J_getr (r := 374) (ci := 7) dX9_annihilated_31 32 rfl giX9 (by decide) (by decide) rfl rfl tb_4_143 (by decide) (by decide)  ?_
      refine J_bipush (v := 16) dX9_annihilated_34 (by decide)  ?_
      refine J_iload dX9_annihilated_36 4 rfl  ?_
      refine J_imul dX9_annihilated_38  ?_
      refine J_iload dX9_annihilated_39 5 rfl  ?_
      refine J_iadd dX9_annihilated_41  ?_
      refine J_iload dX9_annihilated_42 4 rfl  ?_
      refine J_iload dX9_annihilated_44 5 rfl  ?_
      refine J_icmp_ne (tgt := 53) dX9_annihilated_46 (by decide) (fun c_3 => ?_) (fun c_3 => ?_)
      · have h := h.1 c_3
        refine J_iconst (v := 0) dX9_annihilated_53 (by decide)  ?_
        exact l_X9_annihilated_54 p1 p2 p3 _ _ _ hR11 (fun y4 y5 S  h => ih y4 y5 S  h) hp1 _ _ _ _ _  h
      · have h := h.2 c_3
        refine J_iconst (v := 1) dX9_annihilated_49 (by decide)  ?_
        refine J_goto (tgt := 54) dX9_annihilated_50 (by decide)  ?_
        exact l_X9_annihilated_54 p1 p2 p3 _ _ _ hR11 (fun y4 y5 S  h => ih y4 y5 S  h) hp1 _ _ _ _ _  h
def q_X9_annihilated_11 (p1 : Nat) (p2 : Int32) (p3 : Int32)  (Q : Sto → Prop) : Nat → Int32 → Sto → Prop
  | 0, _, _ => False
  | n + 1, x4, S => (((S.1 353 3) ≤ x4 → (∃ n_70, q_X9_annihilated_70 p1 p2 p3  Q n_70 0 S)) ∧ (¬ (S.1 353 3) ≤ x4 → (∃ n_23, q_X9_annihilated_23 p1 p2 p3 (fun y4 S => q_X9_annihilated_11 p1 p2 p3  Q n y4 S) Q n_23 x4 0 S)))
set_option maxRecDepth 100000 in
set_option maxHeartbeats 4000000 in
theorem l_X9_annihilated_11 {g : Gv} (p1 : Nat) (p2 : Int32) (p3 : Int32)  (Q : Sto → Prop)  (hp1 : kd p1 = 0) (n : Nat) : ∀ (x4 : Int32) (S : Sto)  (h : q_X9_annihilated_11 p1 p2 p3  Q n x4 S), RJ g cX9_annihilated RX9 none 6 5 11 [(0, .ref (g.1 + 353)), (1, .ref (g.1 + p1)), (2, .int p2), (3, .int p3), (4, .int x4)] [] S (Qv Q) := by
  induction n with
  | zero => intro x4 S  h; exact h.elim
  | succ n ih =>
    intro x4 S  h
    unfold q_X9_annihilated_11 at h
    refine J_iload dX9_annihilated_11 4 rfl  ?_
    refine J_aload_n dX9_annihilated_13 rfl 0 rfl  ?_
    refine J_geti (ci := 7) dX9_annihilated_14 3 rfl giX9 (by decide) (by decide) rfl rfl tb_4_114 rfl  ?_
    refine J_icmp_ge (tgt := 67) dX9_annihilated_17 (by decide) (fun c_1 => ?_) (fun c_1 => ?_)
    · have h := h.1 c_1
      refine J_iconst (v := 0) dX9_annihilated_67 (by decide)  ?_
      refine J_istore (lv' := [(0, .ref (g.1 + 353)), (1, .ref (g.1 + p1)), (2, .int p2), (3, .int p3), (4, .int 0)]) dX9_annihilated_68 (by decide) [1, 2, 3, 4, 0] rfl  ?_
      obtain ⟨n, h⟩ := h
      exact l_X9_annihilated_70 p1 p2 p3  _  hp1 n _ _  h
    · have h := h.2 c_1
      refine J_iconst (v := 0) dX9_annihilated_20 (by decide)  ?_
      refine J_istore (lv' := [(0, .ref (g.1 + 353)), (1, .ref (g.1 + p1)), (2, .int p2), (3, .int p3), (4, .int x4), (5, .int 0)]) dX9_annihilated_21 (by decide) [1, 2, 3, 4, 5, 0] rfl  ?_
      obtain ⟨n, h⟩ := h
      exact l_X9_annihilated_23 p1 p2 p3 _ _ (fun y4 S  h => ih y4 S  h) hp1 n _ _ _  h
def wp_X9_annihilated (p1 : Nat) (p2 : Int32) (p3 : Int32) (S : Sto) (Q : Sto → Prop) : Prop := ∀ S_1 : Sto, S_1 = uA S 353 35 (S.1 353 3) → (∃ n_11, q_X9_annihilated_11 p1 p2 p3  Q n_11 0 S_1)
set_option maxRecDepth 100000 in
set_option maxHeartbeats 4000000 in
theorem c_X9_annihilated {g : Gv} (p1 : Nat) (p2 : Int32) (p3 : Int32) (hp1 : kd p1 = 0) (S : Sto) (Q : Sto → Prop) (h : wp_X9_annihilated p1 p2 p3 S Q) : CT g yX9_annihilated cX9_annihilated 6 none 5 [.ref (g.1 + 353), .ref (g.1 + p1), .int p2, .int p3] S (Qv Q) := by
  unfold wp_X9_annihilated at h
  refine CT.of (by decide) (Nat.le_of_ble_eq_true rfl) ?_
  refine J_sub (lv' := [(0, .ref (g.1 + 353)), (1, .ref (g.1 + p1)), (2, .int p2), (3, .int p3)]) [0, 1, 2, 3] rfl ?_
  refine J_aload_n dX9_annihilated_0 rfl 0 rfl  ?_
  refine J_aload_n dX9_annihilated_1 rfl 0 rfl  ?_
  refine J_geti (ci := 7) dX9_annihilated_2 3 rfl giX9 (by decide) (by decide) rfl rfl tb_4_114 rfl  ?_
  refine J_puti (ci := 7) dX9_annihilated_5 35 rfl giX9 (by decide) (by decide) rfl rfl tyX9 tyX9_ok nmX9 rfl rfl rfl rfl tb_4_146 rfl  ?_
  refine J_nmS (fun S_1 eS_1 => ?_)
  have h := h S_1 eS_1
  refine J_iconst (v := 0) dX9_annihilated_8 (by decide)  ?_
  refine J_istore (lv' := [(0, .ref (g.1 + 353)), (1, .ref (g.1 + p1)), (2, .int p2), (3, .int p3), (4, .int 0)]) dX9_annihilated_9 (by decide) [1, 2, 3, 4, 0] rfl  ?_
  obtain ⟨n, h⟩ := h
  exact l_X9_annihilated_11 p1 p2 p3  _  hp1 n _ _  h
def q_X9_annihilator_29 (p1 : Int32) (p2 : Int32) (p3 : Int32)  (Q : Int32 → Sto → Prop)  (S : Sto) : Prop := Q ((-1)) S
set_option maxRecDepth 100000 in
set_option maxHeartbeats 4000000 in
theorem l_X9_annihilator_29 {g : Gv} (p1 : Int32) (p2 : Int32) (p3 : Int32)  (Q : Int32 → Sto → Prop)    (S : Sto)  (h : q_X9_annihilator_29 p1 p2 p3  Q  S) : RJ g cX9_annihilator RX9 (some .int) 7 6 29 [(0, .ref (g.1 + 353)), (1, .int p1), (2, .int p2), (3, .int p3)] [] S (Qi Q) := by
  unfold q_X9_annihilator_29 at h
  refine J_iconst (v := (-1)) dX9_annihilator_29 (by decide)  ?_
  exact J_iret dX9_annihilator_30 rfl rfl ⟨_, rfl, h⟩
def q_X9_annihilator_199 (p1 : Int32) (p2 : Int32) (p3 : Int32) (R145 : Int32 → Sto → Prop) (Q : Int32 → Sto → Prop) : Nat → Int32 → Int32 → Sto → Prop
  | 0, _, _, _ => False
  | n + 1, x5, x6, S => (((S.1 353 3) ≤ x6 → ∀ x5_2 : Int32, x5_2 = x5 + 1 → R145 x5_2 S) ∧ (¬ (S.1 353 3) ≤ x6 → vp_in x6 (256) ∧ (((S.1 370 (x6 : Int32).toNatClampNeg) = 0 → ∀ x6_5 : Int32, x6_5 = x6 + 1 → q_X9_annihilator_199 p1 p2 p3 R145 Q n x5 x6_5 S) ∧ (¬ (S.1 370 (x6 : Int32).toNatClampNeg) = 0 → Q 0 S))))
set_option maxRecDepth 100000 in
set_option maxHeartbeats 4000000 in
theorem l_X9_annihilator_199 {g : Gv} (p1 : Int32) (p2 : Int32) (p3 : Int32) (R145 : Int32 → Sto → Prop) (Q : Int32 → Sto → Prop) (hR145 : ∀ (y5 : Int32) (S : Sto), R145 y5 S → RJ g cX9_annihilator RX9 (some .int) 7 6 145 [(0, .ref (g.1 + 353)), (1, .int p1), (2, .int p2), (3, .int p3), (5, .int y5)] [] S (Qi Q))  (n : Nat) : ∀ (x5 : Int32) (x6 : Int32) (S : Sto)  (h : q_X9_annihilator_199 p1 p2 p3 R145 Q n x5 x6 S), RJ g cX9_annihilator RX9 (some .int) 7 6 199 [(0, .ref (g.1 + 353)), (1, .int p1), (2, .int p2), (3, .int p3), (5, .int x5), (6, .int x6)] [] S (Qi Q) := by
  induction n with
  | zero => intro x5 x6 S  h; exact h.elim
  | succ n ih =>
    intro x5 x6 S  h
    unfold q_X9_annihilator_199 at h
    refine J_iload dX9_annihilator_199 5 rfl  ?_
    refine J_aload_n dX9_annihilator_201 rfl 0 rfl  ?_
    refine J_geti (ci := 7) dX9_annihilator_202 3 rfl giX9 (by decide) (by decide) rfl rfl tb_4_114 rfl  ?_
    refine J_icmp_ge (tgt := 226) dX9_annihilator_205 (by decide) (fun c_1 => ?_) (fun c_1 => ?_)
    · have h := h.1 c_1
      obtain ⟨x5_2, ex5_2⟩ : ∃ y : Int32, y = x5 + 1 := ⟨_, rfl⟩
      have h := h x5_2 ex5_2
      refine J_iinc (v := x5_2) (lv' := [(0, .ref (g.1 + 353)), (1, .int p1), (2, .int p2), (3, .int p3), (5, .int x5_2), (6, .int x6)]) dX9_annihilator_226 (q := 4) rfl (by rw [ex5_2]; rfl) (by decide) [1, 2, 3, 4, 0, 5] rfl  ?_
      refine J_goto (tgt := 145) dX9_annihilator_229 (by decide)  ?_
      refine J_sub (lv' := [(0, .ref (g.1 + 353)), (1, .int p1), (2, .int p2), (3, .int p3), (5, .int x5_2)]) [0, 1, 2, 3, 4] rfl ?_
      exact hR145 _ _  h
    · have h := h.2 c_1
      refine J_aload_n dX9_annihilator_208 rfl 0 rfl  ?_
      refine J_getr (r := 370) (ci := 7) dX9_annihilator_209 28 rfl giX9 (by decide) (by decide) rfl rfl tb_4_139 (by decide) (by decide)  ?_
      refine J_iload dX9_annihilator_212 5 rfl  ?_
      obtain ⟨hi_3, h⟩ := h
      refine J_iald dX9_annihilator_214 (by decide) hi_3  ?_
      refine J_if_eq (tgt := 220) dX9_annihilator_215 (by decide) (fun c_4 => ?_) (fun c_4 => ?_)
      · have h := h.1 c_4
        obtain ⟨x6_5, ex6_5⟩ : ∃ y : Int32, y = x6 + 1 := ⟨_, rfl⟩
        have h := h x6_5 ex6_5
        refine J_iinc (v := x6_5) (lv' := [(0, .ref (g.1 + 353)), (1, .int p1), (2, .int p2), (3, .int p3), (5, .int x5), (6, .int x6_5)]) dX9_annihilator_220 (q := 5) rfl (by rw [ex6_5]; rfl) (by decide) [1, 2, 3, 4, 5, 0] rfl  ?_
        refine J_goto (tgt := 199) dX9_annihilator_223 (by decide)  ?_
        exact ih _ _ _  h
      · have h := h.2 c_4
        refine J_iconst (v := 0) dX9_annihilator_218 (by decide)  ?_
        exact J_iret dX9_annihilator_219 rfl rfl ⟨_, rfl, h⟩
def q_X9_annihilator_157 (p1 : Int32) (p2 : Int32) (p3 : Int32) (R145 : Int32 → Sto → Prop) (Q : Int32 → Sto → Prop) : Nat → Int32 → Int32 → Sto → Prop
  | 0, _, _, _ => False
  | n + 1, x5, x6, S => (((S.1 353 3) ≤ x6 → wp_X9_reduce  S (fun S_2 => (∃ n_199, q_X9_annihilator_199 p1 p2 p3 R145 Q n_199 x5 0 S_2))) ∧ (¬ (S.1 353 3) ≤ x6 → vp_in ((16 * x5) + x6) (256) ∧ vp_in x6 (256) ∧ ∀ S_6 : Sto, S_6 = uA S 370 (x6 : Int32).toNatClampNeg (S.1 376 ((16 * x5) + x6 : Int32).toNatClampNeg) → ∀ x6_7 : Int32, x6_7 = x6 + 1 → q_X9_annihilator_157 p1 p2 p3 R145 Q n x5 x6_7 S_6))
set_option maxRecDepth 100000 in
set_option maxHeartbeats 4000000 in
theorem l_X9_annihilator_157 {g : Gv} (p1 : Int32) (p2 : Int32) (p3 : Int32) (R145 : Int32 → Sto → Prop) (Q : Int32 → Sto → Prop) (hR145 : ∀ (y5 : Int32) (S : Sto), R145 y5 S → RJ g cX9_annihilator RX9 (some .int) 7 6 145 [(0, .ref (g.1 + 353)), (1, .int p1), (2, .int p2), (3, .int p3), (5, .int y5)] [] S (Qi Q))  (n : Nat) : ∀ (x5 : Int32) (x6 : Int32) (S : Sto)  (h : q_X9_annihilator_157 p1 p2 p3 R145 Q n x5 x6 S), RJ g cX9_annihilator RX9 (some .int) 7 6 157 [(0, .ref (g.1 + 353)), (1, .int p1), (2, .int p2), (3, .int p3), (5, .int x5), (6, .int x6)] [] S (Qi Q) := by
  induction n with
  | zero => intro x5 x6 S  h; exact h.elim
  | succ n ih =>
    intro x5 x6 S  h
    unfold q_X9_annihilator_157 at h
    refine J_iload dX9_annihilator_157 5 rfl  ?_
    refine J_aload_n dX9_annihilator_159 rfl 0 rfl  ?_
    refine J_geti (ci := 7) dX9_annihilator_160 3 rfl giX9 (by decide) (by decide) rfl rfl tb_4_114 rfl  ?_
    refine J_icmp_ge (tgt := 192) dX9_annihilator_163 (by decide) (fun c_1 => ?_) (fun c_1 => ?_)
    · have h := h.1 c_1
      refine J_aload_n dX9_annihilator_192 rfl 0 rfl  ?_
      refine J_callV (h := 353) (ci := 7) (As := []) (rest := []) (n := 0) dX9_annihilator_193 (c_X9_reduce   _ _ h) (by decide) rfl tb_5_92 tb_5_89 tb_1_8 tb_5_91 sl_39 (by decide) rfl (by decide) (by decide) (Nat.le_of_ble_eq_true rfl) rfl (fun v_r_3 S_2 hq => ?_)
      obtain ⟨rfl, h⟩ := hq
      dsimp only [Option.toList, List.cons_append, List.nil_append]
      refine J_iconst (v := 0) dX9_annihilator_196 (by decide)  ?_
      refine J_istore (lv' := [(0, .ref (g.1 + 353)), (1, .int p1), (2, .int p2), (3, .int p3), (5, .int x5), (6, .int 0)]) dX9_annihilator_197 (by decide) [1, 2, 3, 4, 5, 0] rfl  ?_
      obtain ⟨n, h⟩ := h
      exact l_X9_annihilator_199 p1 p2 p3 _ _ hR145  n _ _ _  h
    · have h := h.2 c_1
      refine J_aload_n dX9_annihilator_166 rfl 0 rfl  ?_
      refine J_getr (r := 370) (ci := 7) dX9_annihilator_167 28 rfl giX9 (by decide) (by decide) rfl rfl tb_4_139 (by decide) (by decide)  ?_
      refine J_iload dX9_annihilator_170 5 rfl  ?_
      refine J_aload_n dX9_annihilator_172 rfl 0 rfl  ?_
      refine J_getr (r := 376) (ci := 7) dX9_annihilator_173 34 rfl giX9 (by decide) (by decide) rfl rfl tb_4_145 (by decide) (by decide)  ?_
      refine J_bipush (v := 16) dX9_annihilator_176 (by decide)  ?_
      refine J_iload dX9_annihilator_178 4 rfl  ?_
      refine J_imul dX9_annihilator_180  ?_
      refine J_iload dX9_annihilator_181 5 rfl  ?_
      refine J_iadd dX9_annihilator_183  ?_
      obtain ⟨hi_4, h⟩ := h
      refine J_iald dX9_annihilator_184 (by decide) hi_4  ?_
      obtain ⟨hi_5, h⟩ := h
      refine J_iast dX9_annihilator_185 (by decide) hi_5  ?_
      refine J_nmS (fun S_6 eS_6 => ?_)
      have h := h S_6 eS_6
      obtain ⟨x6_7, ex6_7⟩ : ∃ y : Int32, y = x6 + 1 := ⟨_, rfl⟩
      have h := h x6_7 ex6_7
      refine J_iinc (v := x6_7) (lv' := [(0, .ref (g.1 + 353)), (1, .int p1), (2, .int p2), (3, .int p3), (5, .int x5), (6, .int x6_7)]) dX9_annihilator_186 (q := 5) rfl (by rw [ex6_7]; rfl) (by decide) [1, 2, 3, 4, 5, 0] rfl  ?_
      refine J_goto (tgt := 157) dX9_annihilator_189 (by decide)  ?_
      exact ih _ _ _  h
def q_X9_annihilator_145 (p1 : Int32) (p2 : Int32) (p3 : Int32)  (Q : Int32 → Sto → Prop) : Nat → Int32 → Sto → Prop
  | 0, _, _ => False
  | n + 1, x5, S => (((S.1 353 36) ≤ x5 → Q 1 S) ∧ (¬ (S.1 353 36) ≤ x5 → (∃ n_157, q_X9_annihilator_157 p1 p2 p3 (fun y5 S => q_X9_annihilator_145 p1 p2 p3  Q n y5 S) Q n_157 x5 0 S)))
set_option maxRecDepth 100000 in
set_option maxHeartbeats 4000000 in
theorem l_X9_annihilator_145 {g : Gv} (p1 : Int32) (p2 : Int32) (p3 : Int32)  (Q : Int32 → Sto → Prop)   (n : Nat) : ∀ (x5 : Int32) (S : Sto)  (h : q_X9_annihilator_145 p1 p2 p3  Q n x5 S), RJ g cX9_annihilator RX9 (some .int) 7 6 145 [(0, .ref (g.1 + 353)), (1, .int p1), (2, .int p2), (3, .int p3), (5, .int x5)] [] S (Qi Q) := by
  induction n with
  | zero => intro x5 S  h; exact h.elim
  | succ n ih =>
    intro x5 S  h
    unfold q_X9_annihilator_145 at h
    refine J_iload dX9_annihilator_145 4 rfl  ?_
    refine J_aload_n dX9_annihilator_147 rfl 0 rfl  ?_
    refine J_geti (ci := 7) dX9_annihilator_148 36 rfl giX9 (by decide) (by decide) rfl rfl tb_4_147 rfl  ?_
    refine J_icmp_ge (tgt := 232) dX9_annihilator_151 (by decide) (fun c_1 => ?_) (fun c_1 => ?_)
    · have h := h.1 c_1
      refine J_iconst (v := 1) dX9_annihilator_232 (by decide)  ?_
      exact J_iret dX9_annihilator_233 rfl rfl ⟨_, rfl, h⟩
    · have h := h.2 c_1
      refine J_iconst (v := 0) dX9_annihilator_154 (by decide)  ?_
      refine J_istore (lv' := [(0, .ref (g.1 + 353)), (1, .int p1), (2, .int p2), (3, .int p3), (5, .int x5), (6, .int 0)]) dX9_annihilator_155 (by decide) [1, 2, 3, 4, 5, 0] rfl  ?_
      obtain ⟨n, h⟩ := h
      exact l_X9_annihilator_157 p1 p2 p3 _ _ (fun y5 S  h => ih y5 S  h)  n _ _ _  h
def q_X9_annihilator_89 (p1 : Int32) (p2 : Int32) (p3 : Int32)  (Q : Int32 → Sto → Prop) : Nat → Int32 → Int32 → Sto → Prop
  | 0, _, _, _ => False
  | n + 1, x4, x5, S => (((16 * x4) ≤ x5 → wp_X9_annihilated 379 x4 (1 - p2) S (fun S_2 => ((¬ p3 = 1 → (∃ n_145, q_X9_annihilator_145 p1 p2 p3  Q n_145 0 S_2)) ∧ (p3 = 1 → Q (S_2.1 353 35) S_2)))) ∧ (¬ (16 * x4) ≤ x5 → vp_in x5 (256) ∧ vp_in x5 (256) ∧ ∀ S_7 : Sto, S_7 = uA S 379 (x5 : Int32).toNatClampNeg (S.1 374 (x5 : Int32).toNatClampNeg) → ∀ x5_8 : Int32, x5_8 = x5 + 1 → q_X9_annihilator_89 p1 p2 p3  Q n x4 x5_8 S_7))
set_option maxRecDepth 100000 in
set_option maxHeartbeats 4000000 in
theorem l_X9_annihilator_89 {g : Gv} (p1 : Int32) (p2 : Int32) (p3 : Int32)  (Q : Int32 → Sto → Prop)   (n : Nat) : ∀ (x4 : Int32) (x5 : Int32) (S : Sto)  (h : q_X9_annihilator_89 p1 p2 p3  Q n x4 x5 S), RJ g cX9_annihilator RX9 (some .int) 7 6 89 [(0, .ref (g.1 + 353)), (1, .int p1), (2, .int p2), (3, .int p3), (4, .int x4), (5, .int x5)] [] S (Qi Q) := by
  induction n with
  | zero => intro x4 x5 S  h; exact h.elim
  | succ n ih =>
    intro x4 x5 S  h
    unfold q_X9_annihilator_89 at h
    refine J_iload dX9_annihilator_89 5 rfl  ?_
    refine J_bipush (v := 16) dX9_annihilator_91 (by decide)  ?_
    refine J_iload dX9_annihilator_93 4 rfl  ?_
    refine J_imul dX9_annihilator_95  ?_
    refine J_icmp_ge (tgt := 119) dX9_annihilator_96 (by decide) (fun c_1 => ?_) (fun c_1 => ?_)
    · have h := h.1 c_1
      refine J_aload_n dX9_annihilator_119 rfl 0 rfl  ?_
      refine J_aload_n dX9_annihilator_120 rfl 0 rfl  ?_
      refine J_getr (r := 379) (ci := 7) dX9_annihilator_121 42 rfl giX9 (by decide) (by decide) rfl rfl tb_4_153 (by decide) (by decide)  ?_
      refine J_iload dX9_annihilator_124 4 rfl  ?_
      refine J_iconst (v := 1) dX9_annihilator_126 (by decide)  ?_
      refine J_iload_n dX9_annihilator_127 rfl 2 rfl  ?_
      refine J_isub dX9_annihilator_128  ?_
      refine J_callV (h := 353) (ci := 7) (As := [.ref (g.1 + 379), .int x4, .int (1 - p2)]) (rest := []) (n := 3) dX9_annihilator_129 (c_X9_annihilated 379 x4 (1 - p2) (by decide) _ _ h) (by decide) rfl tb_6_19 tb_6_16 tb_1_8 tb_6_18 sl_55 (by decide) rfl (by decide) (by decide) (Nat.le_of_ble_eq_true rfl) rfl (fun v_r_3 S_2 hq => ?_)
      obtain ⟨rfl, h⟩ := hq
      dsimp only [Option.toList, List.cons_append, List.nil_append]
      refine J_iload_n dX9_annihilator_132 rfl 3 rfl  ?_
      refine J_iconst (v := 1) dX9_annihilator_133 (by decide)  ?_
      refine J_icmp_ne (tgt := 142) dX9_annihilator_134 (by decide) (fun c_4 => ?_) (fun c_4 => ?_)
      · have h := h.1 c_4
        refine J_iconst (v := 0) dX9_annihilator_142 (by decide)  ?_
        refine J_istore (lv' := [(0, .ref (g.1 + 353)), (1, .int p1), (2, .int p2), (3, .int p3), (5, .int 0)]) dX9_annihilator_143 (by decide) [1, 2, 3, 4, 0] rfl  ?_
        obtain ⟨n, h⟩ := h
        exact l_X9_annihilator_145 p1 p2 p3  _   n _ _  h
      · have h := h.2 c_4
        refine J_aload_n dX9_annihilator_137 rfl 0 rfl  ?_
        refine J_geti (ci := 7) dX9_annihilator_138 35 rfl giX9 (by decide) (by decide) rfl rfl tb_4_146 rfl  ?_
        exact J_iret dX9_annihilator_141 rfl rfl ⟨_, rfl, h⟩
    · have h := h.2 c_1
      refine J_aload_n dX9_annihilator_99 rfl 0 rfl  ?_
      refine J_getr (r := 379) (ci := 7) dX9_annihilator_100 42 rfl giX9 (by decide) (by decide) rfl rfl tb_4_153 (by decide) (by decide)  ?_
      refine J_iload dX9_annihilator_103 5 rfl  ?_
      refine J_aload_n dX9_annihilator_105 rfl 0 rfl  ?_
      refine J_getr (r := 374) (ci := 7) dX9_annihilator_106 32 rfl giX9 (by decide) (by decide) rfl rfl tb_4_143 (by decide) (by decide)  ?_
      refine J_iload dX9_annihilator_109 5 rfl  ?_
      obtain ⟨hi_5, h⟩ := h
      refine J_iald dX9_annihilator_111 (by decide) hi_5  ?_
      obtain ⟨hi_6, h⟩ := h
      refine J_iast dX9_annihilator_112 (by decide) hi_6  ?_
      refine J_nmS (fun S_7 eS_7 => ?_)
      have h := h S_7 eS_7
      obtain ⟨x5_8, ex5_8⟩ : ∃ y : Int32, y = x5 + 1 := ⟨_, rfl⟩
      have h := h x5_8 ex5_8
      refine J_iinc (v := x5_8) (lv' := [(0, .ref (g.1 + 353)), (1, .int p1), (2, .int p2), (3, .int p3), (4, .int x4), (5, .int x5_8)]) dX9_annihilator_113 (q := 5) rfl (by rw [ex5_8]; rfl) (by decide) [1, 2, 3, 4, 5, 0] rfl  ?_
      refine J_goto (tgt := 89) dX9_annihilator_116 (by decide)  ?_
      exact ih _ _ _  h
def wp_X9_annihilator (p1 : Int32) (p2 : Int32) (p3 : Int32) (S : Sto) (Q : Int32 → Sto → Prop) : Prop := wp_X9_isSide p1 S (fun r_2 S_1 => ((r_2 = 0 → q_X9_annihilator_29 p1 p2 p3  Q  S_1) ∧ (¬ r_2 = 0 → wp_X9_in ((p2 : Int32).toInt64) 0 1 S_1 (fun r_5 S_4 => ((r_5 = 0 → q_X9_annihilator_29 p1 p2 p3  Q  S_4) ∧ (¬ r_5 = 0 → wp_X9_in ((p3 : Int32).toInt64) 0 3 S_4 (fun r_8 S_7 => ((¬ r_8 = 0 → wp_X9_spans p1 S_7 (fun S_10 => wp_X9_keeps 376 S_10 (fun r_13 S_12 => ∀ S_14 : Sto, S_14 = uA S_12 353 36 r_13 → wp_X9_annihilated 376 (S_14.1 353 36) p2 S_14 (fun S_15 => ((¬ p3 = 0 → ((¬ p3 = 3 → ∀ x4_19 : Int32, x4_19 = S_15.1 353 35 → (∃ n_89, q_X9_annihilator_89 p1 p2 p3  Q n_89 x4_19 0 S_15)) ∧ (p3 = 3 → wp_X9_firstLead  S_15 (fun r_21 S_20 => Q r_21 S_20)))) ∧ (p3 = 0 → Q (S_15.1 353 35) S_15)))))) ∧ (r_8 = 0 → q_X9_annihilator_29 p1 p2 p3  Q  S_7)))))))))
set_option maxRecDepth 100000 in
set_option maxHeartbeats 4000000 in
theorem c_X9_annihilator {g : Gv} (p1 : Int32) (p2 : Int32) (p3 : Int32)  (S : Sto) (Q : Int32 → Sto → Prop) (h : wp_X9_annihilator p1 p2 p3 S Q) : CT g yX9_annihilator cX9_annihilator 7 (some .int) 6 [.ref (g.1 + 353), .int p1, .int p2, .int p3] S (Qi Q) := by
  unfold wp_X9_annihilator at h
  refine CT.of (by decide) (Nat.le_of_ble_eq_true rfl) ?_
  refine J_sub (lv' := [(0, .ref (g.1 + 353)), (1, .int p1), (2, .int p2), (3, .int p3)]) [0, 1, 2, 3] rfl ?_
  refine J_iload_n dX9_annihilator_0 rfl 1 rfl  ?_
  refine J_callS (As := [.int p1]) (rest := []) (n := 1) dX9_annihilator_1 (c_X9_isSide p1  _ _ h) tb_5_188 tb_5_186 tb_1_8 tb_5_187 (by decide) rfl (by decide) (by decide) (Nat.le_of_ble_eq_true rfl) rfl (fun v_r_2 S_1 hq => ?_)
  obtain ⟨r_2, rfl, h⟩ := hq
  dsimp only [Option.toList, List.cons_append, List.nil_append]
  refine J_if_eq (tgt := 29) dX9_annihilator_4 (by decide) (fun c_3 => ?_) (fun c_3 => ?_)
  · have h := h.1 c_3
    exact l_X9_annihilator_29 p1 p2 p3  _    _  h
  · have h := h.2 c_3
    refine J_iload_n dX9_annihilator_7 rfl 2 rfl  ?_
    refine J_i2l dX9_annihilator_8  ?_
    refine J_lconst (v := 0) dX9_annihilator_9 (by decide)  ?_
    refine J_lconst (v := 1) dX9_annihilator_10 (by decide)  ?_
    refine J_callS (As := [.long ((p2 : Int32).toInt64), .long 0, .long 1]) (rest := []) (n := 3) dX9_annihilator_11 (c_X9_in ((p2 : Int32).toInt64) 0 1  _ _ h) tb_5_9 tb_5_7 tb_1_8 tb_5_8 (by decide) rfl (by decide) (by decide) (Nat.le_of_ble_eq_true rfl) rfl (fun v_r_5 S_4 hq => ?_)
    obtain ⟨r_5, rfl, h⟩ := hq
    dsimp only [Option.toList, List.cons_append, List.nil_append]
    refine J_if_eq (tgt := 29) dX9_annihilator_14 (by decide) (fun c_6 => ?_) (fun c_6 => ?_)
    · have h := h.1 c_6
      exact l_X9_annihilator_29 p1 p2 p3  _    _  h
    · have h := h.2 c_6
      refine J_iload_n dX9_annihilator_17 rfl 3 rfl  ?_
      refine J_i2l dX9_annihilator_18  ?_
      refine J_lconst (v := 0) dX9_annihilator_19 (by decide)  ?_
      refine J_ldc2 (v := 3) dX9_annihilator_20 tb_6_11  ?_
      refine J_callS (As := [.long ((p3 : Int32).toInt64), .long 0, .long 3]) (rest := []) (n := 3) dX9_annihilator_23 (c_X9_in ((p3 : Int32).toInt64) 0 3  _ _ h) tb_5_9 tb_5_7 tb_1_8 tb_5_8 (by decide) rfl (by decide) (by decide) (Nat.le_of_ble_eq_true rfl) rfl (fun v_r_8 S_7 hq => ?_)
      obtain ⟨r_8, rfl, h⟩ := hq
      dsimp only [Option.toList, List.cons_append, List.nil_append]
      refine J_if_ne (tgt := 31) dX9_annihilator_26 (by decide) (fun c_9 => ?_) (fun c_9 => ?_)
      · have h := h.1 c_9
        refine J_aload_n dX9_annihilator_31 rfl 0 rfl  ?_
        refine J_iload_n dX9_annihilator_32 rfl 1 rfl  ?_
        refine J_callV (h := 353) (ci := 7) (As := [.int p1]) (rest := []) (n := 1) dX9_annihilator_33 (c_X9_spans p1  _ _ h) (by decide) rfl tb_5_64 tb_5_61 tb_1_8 tb_5_63 sl_33 (by decide) rfl (by decide) (by decide) (Nat.le_of_ble_eq_true rfl) rfl (fun v_r_11 S_10 hq => ?_)
        obtain ⟨rfl, h⟩ := hq
        dsimp only [Option.toList, List.cons_append, List.nil_append]
        refine J_aload_n dX9_annihilator_36 rfl 0 rfl  ?_
        refine J_aload_n dX9_annihilator_37 rfl 0 rfl  ?_
        refine J_aload_n dX9_annihilator_38 rfl 0 rfl  ?_
        refine J_getr (r := 376) (ci := 7) dX9_annihilator_39 34 rfl giX9 (by decide) (by decide) rfl rfl tb_4_145 (by decide) (by decide)  ?_
        refine J_callV (h := 353) (ci := 7) (As := [.ref (g.1 + 376)]) (rest := [.ref (g.1 + 353)]) (n := 1) dX9_annihilator_42 (c_X9_keeps 376 (by decide) _ _ h) (by decide) rfl tb_6_15 tb_6_12 tb_1_8 tb_6_14 sl_54 (by decide) rfl (by decide) (by decide) (Nat.le_of_ble_eq_true rfl) rfl (fun v_r_13 S_12 hq => ?_)
        obtain ⟨r_13, rfl, h⟩ := hq
        dsimp only [Option.toList, List.cons_append, List.nil_append]
        refine J_puti (ci := 7) dX9_annihilator_45 36 rfl giX9 (by decide) (by decide) rfl rfl tyX9 tyX9_ok nmX9 rfl rfl rfl rfl tb_4_147 rfl  ?_
        refine J_nmS (fun S_14 eS_14 => ?_)
        have h := h S_14 eS_14
        refine J_aload_n dX9_annihilator_48 rfl 0 rfl  ?_
        refine J_aload_n dX9_annihilator_49 rfl 0 rfl  ?_
        refine J_getr (r := 376) (ci := 7) dX9_annihilator_50 34 rfl giX9 (by decide) (by decide) rfl rfl tb_4_145 (by decide) (by decide)  ?_
        refine J_aload_n dX9_annihilator_53 rfl 0 rfl  ?_
        refine J_geti (ci := 7) dX9_annihilator_54 36 rfl giX9 (by decide) (by decide) rfl rfl tb_4_147 rfl  ?_
        refine J_iload_n dX9_annihilator_57 rfl 2 rfl  ?_
        refine J_callV (h := 353) (ci := 7) (As := [.ref (g.1 + 376), .int (S_14.1 353 36), .int p2]) (rest := []) (n := 3) dX9_annihilator_58 (c_X9_annihilated 376 (S_14.1 353 36) p2 (by decide) _ _ h) (by decide) rfl tb_6_19 tb_6_16 tb_1_8 tb_6_18 sl_55 (by decide) rfl (by decide) (by decide) (Nat.le_of_ble_eq_true rfl) rfl (fun v_r_16 S_15 hq => ?_)
        obtain ⟨rfl, h⟩ := hq
        dsimp only [Option.toList, List.cons_append, List.nil_append]
        refine J_iload_n dX9_annihilator_61 rfl 3 rfl  ?_
        refine J_if_ne (tgt := 70) dX9_annihilator_62 (by decide) (fun c_17 => ?_) (fun c_17 => ?_)
        · have h := h.1 c_17
          refine J_iload_n dX9_annihilator_70 rfl 3 rfl  ?_
          refine J_iconst (v := 3) dX9_annihilator_71 (by decide)  ?_
          refine J_icmp_ne (tgt := 80) dX9_annihilator_72 (by decide) (fun c_18 => ?_) (fun c_18 => ?_)
          · have h := h.1 c_18
            refine J_aload_n dX9_annihilator_80 rfl 0 rfl  ?_
            refine J_geti (ci := 7) dX9_annihilator_81 35 rfl giX9 (by decide) (by decide) rfl rfl tb_4_146 rfl  ?_
            refine J_topi (fun x4_19 ex4_19 => ?_)
            have h := h x4_19 ex4_19
            refine J_istore (lv' := [(0, .ref (g.1 + 353)), (1, .int p1), (2, .int p2), (3, .int p3), (4, .int x4_19)]) dX9_annihilator_84 (by decide) [1, 2, 3, 4, 0] rfl  ?_
            refine J_iconst (v := 0) dX9_annihilator_86 (by decide)  ?_
            refine J_istore (lv' := [(0, .ref (g.1 + 353)), (1, .int p1), (2, .int p2), (3, .int p3), (4, .int x4_19), (5, .int 0)]) dX9_annihilator_87 (by decide) [1, 2, 3, 4, 5, 0] rfl  ?_
            obtain ⟨n, h⟩ := h
            exact l_X9_annihilator_89 p1 p2 p3  _   n _ _ _  h
          · have h := h.2 c_18
            refine J_aload_n dX9_annihilator_75 rfl 0 rfl  ?_
            refine J_callV (h := 353) (ci := 7) (As := []) (rest := []) (n := 0) dX9_annihilator_76 (c_X9_firstLead   _ _ h) (by decide) rfl tb_6_27 tb_6_24 tb_1_8 tb_6_26 sl_57 (by decide) rfl (by decide) (by decide) (Nat.le_of_ble_eq_true rfl) rfl (fun v_r_21 S_20 hq => ?_)
            obtain ⟨r_21, rfl, h⟩ := hq
            dsimp only [Option.toList, List.cons_append, List.nil_append]
            exact J_iret dX9_annihilator_79 rfl rfl ⟨_, rfl, h⟩
        · have h := h.2 c_17
          refine J_aload_n dX9_annihilator_65 rfl 0 rfl  ?_
          refine J_geti (ci := 7) dX9_annihilator_66 35 rfl giX9 (by decide) (by decide) rfl rfl tb_4_146 rfl  ?_
          exact J_iret dX9_annihilator_69 rfl rfl ⟨_, rfl, h⟩
      · have h := h.2 c_9
        exact l_X9_annihilator_29 p1 p2 p3  _    _  h
def q_X9_annihilates_26 (p1 : Int32) (p2 : Int32) (p3 : Int32) (p4 : Int32)  (Q : Int32 → Sto → Prop)  (S : Sto) : Prop := Q ((-1)) S
set_option maxRecDepth 100000 in
set_option maxHeartbeats 4000000 in
theorem l_X9_annihilates_26 {g : Gv} (p1 : Int32) (p2 : Int32) (p3 : Int32) (p4 : Int32)  (Q : Int32 → Sto → Prop)    (S : Sto)  (h : q_X9_annihilates_26 p1 p2 p3 p4  Q  S) : RJ g cX9_annihilates RX9 (some .int) 5 6 26 [(0, .ref (g.1 + 353)), (1, .int p1), (2, .int p2), (3, .int p3), (4, .int p4)] [] S (Qi Q) := by
  unfold q_X9_annihilates_26 at h
  refine J_iconst (v := (-1)) dX9_annihilates_26 (by decide)  ?_
  exact J_iret dX9_annihilates_27 rfl rfl ⟨_, rfl, h⟩
def q_X9_annihilates_90 (p1 : Int32) (p2 : Int32) (p3 : Int32) (p4 : Int32)  (Q : Int32 → Sto → Prop) (t0 : Int32) (S : Sto) : Prop := Q t0 S
set_option maxRecDepth 100000 in
set_option maxHeartbeats 4000000 in
theorem l_X9_annihilates_90 {g : Gv} (p1 : Int32) (p2 : Int32) (p3 : Int32) (p4 : Int32)  (Q : Int32 → Sto → Prop)   (t0 : Int32) (S : Sto)  (h : q_X9_annihilates_90 p1 p2 p3 p4  Q t0 S) : RJ g cX9_annihilates RX9 (some .int) 5 6 90 [(0, .ref (g.1 + 353)), (1, .int p1), (2, .int p2), (3, .int p3), (4, .int p4)] [.int t0] S (Qi Q) := by
  unfold q_X9_annihilates_90 at h
  exact J_iret dX9_annihilates_90 rfl rfl ⟨_, rfl, h⟩
def wp_X9_annihilates (p1 : Int32) (p2 : Int32) (p3 : Int32) (p4 : Int32) (S : Sto) (Q : Int32 → Sto → Prop) : Prop := wp_X9_isSide p1 S (fun r_2 S_1 => ((r_2 = 0 → q_X9_annihilates_26 p1 p2 p3 p4  Q  S_1) ∧ (¬ r_2 = 0 → wp_X9_in ((p2 : Int32).toInt64) 0 1 S_1 (fun r_5 S_4 => ((r_5 = 0 → q_X9_annihilates_26 p1 p2 p3 p4  Q  S_4) ∧ (¬ r_5 = 0 → wp_X9_isPlace p4 S_4 (fun r_8 S_7 => ((¬ r_8 = 0 → wp_X9_spans p1 S_7 (fun S_10 => wp_X9_keeps 376 S_10 (fun r_13 S_12 => ∀ S_14 : Sto, S_14 = uA S_12 353 36 r_13 → wp_X9_annihilated 376 (S_14.1 353 36) p2 S_14 (fun S_15 => wp_X9_in ((p3 : Int32).toInt64) 0 (((S_15.1 353 35) - 1 : Int32).toInt64) S_15 (fun r_18 S_17 => ((r_18 = 0 → q_X9_annihilates_90 p1 p2 p3 p4  Q ((-1)) S_17) ∧ (¬ r_18 = 0 → vp_in ((16 * p3) + p4) (256) ∧ q_X9_annihilates_90 p1 p2 p3 p4  Q (S_17.1 374 ((16 * p3) + p4 : Int32).toNatClampNeg) S_17))))))) ∧ (r_8 = 0 → q_X9_annihilates_26 p1 p2 p3 p4  Q  S_7)))))))))
set_option maxRecDepth 100000 in
set_option maxHeartbeats 4000000 in
theorem c_X9_annihilates {g : Gv} (p1 : Int32) (p2 : Int32) (p3 : Int32) (p4 : Int32)  (S : Sto) (Q : Int32 → Sto → Prop) (h : wp_X9_annihilates p1 p2 p3 p4 S Q) : CT g yX9_annihilates cX9_annihilates 5 (some .int) 6 [.ref (g.1 + 353), .int p1, .int p2, .int p3, .int p4] S (Qi Q) := by
  unfold wp_X9_annihilates at h
  refine CT.of (by decide) (Nat.le_of_ble_eq_true rfl) ?_
  refine J_sub (lv' := [(0, .ref (g.1 + 353)), (1, .int p1), (2, .int p2), (3, .int p3), (4, .int p4)]) [0, 1, 2, 3, 4] rfl ?_
  refine J_iload_n dX9_annihilates_0 rfl 1 rfl  ?_
  refine J_callS (As := [.int p1]) (rest := []) (n := 1) dX9_annihilates_1 (c_X9_isSide p1  _ _ h) tb_5_188 tb_5_186 tb_1_8 tb_5_187 (by decide) rfl (by decide) (by decide) (Nat.le_of_ble_eq_true rfl) rfl (fun v_r_2 S_1 hq => ?_)
  obtain ⟨r_2, rfl, h⟩ := hq
  dsimp only [Option.toList, List.cons_append, List.nil_append]
  refine J_if_eq (tgt := 26) dX9_annihilates_4 (by decide) (fun c_3 => ?_) (fun c_3 => ?_)
  · have h := h.1 c_3
    exact l_X9_annihilates_26 p1 p2 p3 p4  _    _  h
  · have h := h.2 c_3
    refine J_iload_n dX9_annihilates_7 rfl 2 rfl  ?_
    refine J_i2l dX9_annihilates_8  ?_
    refine J_lconst (v := 0) dX9_annihilates_9 (by decide)  ?_
    refine J_lconst (v := 1) dX9_annihilates_10 (by decide)  ?_
    refine J_callS (As := [.long ((p2 : Int32).toInt64), .long 0, .long 1]) (rest := []) (n := 3) dX9_annihilates_11 (c_X9_in ((p2 : Int32).toInt64) 0 1  _ _ h) tb_5_9 tb_5_7 tb_1_8 tb_5_8 (by decide) rfl (by decide) (by decide) (Nat.le_of_ble_eq_true rfl) rfl (fun v_r_5 S_4 hq => ?_)
    obtain ⟨r_5, rfl, h⟩ := hq
    dsimp only [Option.toList, List.cons_append, List.nil_append]
    refine J_if_eq (tgt := 26) dX9_annihilates_14 (by decide) (fun c_6 => ?_) (fun c_6 => ?_)
    · have h := h.1 c_6
      exact l_X9_annihilates_26 p1 p2 p3 p4  _    _  h
    · have h := h.2 c_6
      refine J_aload_n dX9_annihilates_17 rfl 0 rfl  ?_
      refine J_iload dX9_annihilates_18 4 rfl  ?_
      refine J_callV (h := 353) (ci := 7) (As := [.int p4]) (rest := []) (n := 1) dX9_annihilates_20 (c_X9_isPlace p4  _ _ h) (by decide) rfl tb_5_33 tb_5_30 tb_1_8 tb_5_32 sl_29 (by decide) rfl (by decide) (by decide) (Nat.le_of_ble_eq_true rfl) rfl (fun v_r_8 S_7 hq => ?_)
      obtain ⟨r_8, rfl, h⟩ := hq
      dsimp only [Option.toList, List.cons_append, List.nil_append]
      refine J_if_ne (tgt := 28) dX9_annihilates_23 (by decide) (fun c_9 => ?_) (fun c_9 => ?_)
      · have h := h.1 c_9
        refine J_aload_n dX9_annihilates_28 rfl 0 rfl  ?_
        refine J_iload_n dX9_annihilates_29 rfl 1 rfl  ?_
        refine J_callV (h := 353) (ci := 7) (As := [.int p1]) (rest := []) (n := 1) dX9_annihilates_30 (c_X9_spans p1  _ _ h) (by decide) rfl tb_5_64 tb_5_61 tb_1_8 tb_5_63 sl_33 (by decide) rfl (by decide) (by decide) (Nat.le_of_ble_eq_true rfl) rfl (fun v_r_11 S_10 hq => ?_)
        obtain ⟨rfl, h⟩ := hq
        dsimp only [Option.toList, List.cons_append, List.nil_append]
        refine J_aload_n dX9_annihilates_33 rfl 0 rfl  ?_
        refine J_aload_n dX9_annihilates_34 rfl 0 rfl  ?_
        refine J_aload_n dX9_annihilates_35 rfl 0 rfl  ?_
        refine J_getr (r := 376) (ci := 7) dX9_annihilates_36 34 rfl giX9 (by decide) (by decide) rfl rfl tb_4_145 (by decide) (by decide)  ?_
        refine J_callV (h := 353) (ci := 7) (As := [.ref (g.1 + 376)]) (rest := [.ref (g.1 + 353)]) (n := 1) dX9_annihilates_39 (c_X9_keeps 376 (by decide) _ _ h) (by decide) rfl tb_6_15 tb_6_12 tb_1_8 tb_6_14 sl_54 (by decide) rfl (by decide) (by decide) (Nat.le_of_ble_eq_true rfl) rfl (fun v_r_13 S_12 hq => ?_)
        obtain ⟨r_13, rfl, h⟩ := hq
        dsimp only [Option.toList, List.cons_append, List.nil_append]
        refine J_puti (ci := 7) dX9_annihilates_42 36 rfl giX9 (by decide) (by decide) rfl rfl tyX9 tyX9_ok nmX9 rfl rfl rfl rfl tb_4_147 rfl  ?_
        refine J_nmS (fun S_14 eS_14 => ?_)
        have h := h S_14 eS_14
        refine J_aload_n dX9_annihilates_45 rfl 0 rfl  ?_
        refine J_aload_n dX9_annihilates_46 rfl 0 rfl  ?_
        refine J_getr (r := 376) (ci := 7) dX9_annihilates_47 34 rfl giX9 (by decide) (by decide) rfl rfl tb_4_145 (by decide) (by decide)  ?_
        refine J_aload_n dX9_annihilates_50 rfl 0 rfl  ?_
        refine J_geti (ci := 7) dX9_annihilates_51 36 rfl giX9 (by decide) (by decide) rfl rfl tb_4_147 rfl  ?_
        refine J_iload_n dX9_annihilates_54 rfl 2 rfl  ?_
        refine J_callV (h := 353) (ci := 7) (As := [.ref (g.1 + 376), .int (S_14.1 353 36), .int p2]) (rest := []) (n := 3) dX9_annihilates_55 (c_X9_annihilated 376 (S_14.1 353 36) p2 (by decide) _ _ h) (by decide) rfl tb_6_19 tb_6_16 tb_1_8 tb_6_18 sl_55 (by decide) rfl (by decide) (by decide) (Nat.le_of_ble_eq_true rfl) rfl (fun v_r_16 S_15 hq => ?_)
        obtain ⟨rfl, h⟩ := hq
        dsimp only [Option.toList, List.cons_append, List.nil_append]
        refine J_iload_n dX9_annihilates_58 rfl 3 rfl  ?_
        refine J_i2l dX9_annihilates_59  ?_
        refine J_lconst (v := 0) dX9_annihilates_60 (by decide)  ?_
        refine J_aload_n dX9_annihilates_61 rfl 0 rfl  ?_
        refine J_geti (ci := 7) dX9_annihilates_62 35 rfl giX9 (by decide) (by decide) rfl rfl tb_4_146 rfl  ?_
        refine J_iconst (v := 1) dX9_annihilates_65 (by decide)  ?_
        refine J_isub dX9_annihilates_66  ?_
        refine J_i2l dX9_annihilates_67  ?_
        refine J_callS (As := [.long ((p3 : Int32).toInt64), .long 0, .long (((S_15.1 353 35) - 1 : Int32).toInt64)]) (rest := []) (n := 3) dX9_annihilates_68 (c_X9_in ((p3 : Int32).toInt64) 0 (((S_15.1 353 35) - 1 : Int32).toInt64)  _ _ h) tb_5_9 tb_5_7 tb_1_8 tb_5_8 (by decide) rfl (by decide) (by decide) (Nat.le_of_ble_eq_true rfl) rfl (fun v_r_18 S_17 hq => ?_)
        obtain ⟨r_18, rfl, h⟩ := hq
        dsimp only [Option.toList, List.cons_append, List.nil_append]
        refine J_if_eq (tgt := 89) dX9_annihilates_71 (by decide) (fun c_19 => ?_) (fun c_19 => ?_)
        · have h := h.1 c_19
          refine J_iconst (v := (-1)) dX9_annihilates_89 (by decide)  ?_
          exact l_X9_annihilates_90 p1 p2 p3 p4  _   _ _  h
        · have h := h.2 c_19
          refine J_aload_n dX9_annihilates_74 rfl 0 rfl  ?_
          refine J_getr (r := 374) (ci := 7) dX9_annihilates_75 32 rfl giX9 (by decide) (by decide) rfl rfl tb_4_143 (by decide) (by decide)  ?_
          refine J_bipush (v := 16) dX9_annihilates_78 (by decide)  ?_
          refine J_iload_n dX9_annihilates_80 rfl 3 rfl  ?_
          refine J_imul dX9_annihilates_81  ?_
          refine J_iload dX9_annihilates_82 4 rfl  ?_
          refine J_iadd dX9_annihilates_84  ?_
          obtain ⟨hi_20, h⟩ := h
          refine J_iald dX9_annihilates_85 (by decide) hi_20  ?_
          refine J_goto (tgt := 90) dX9_annihilates_86 (by decide)  ?_
          exact l_X9_annihilates_90 p1 p2 p3 p4  _   _ _  h
      · have h := h.2 c_9
        exact l_X9_annihilates_26 p1 p2 p3 p4  _    _  h
def q_X9_lifts_92 (p1 : Nat) (p2 : Int32) (p3 : Int32) (R29 : Int32 → Sto → Prop) (Q : Sto → Prop) (x4 : Int32) (S : Sto) : Prop := ∀ x4_1 : Int32, x4_1 = x4 + 1 → R29 x4_1 S
set_option maxRecDepth 100000 in
set_option maxHeartbeats 4000000 in
theorem l_X9_lifts_92 {g : Gv} (p1 : Nat) (p2 : Int32) (p3 : Int32) (R29 : Int32 → Sto → Prop) (Q : Sto → Prop) (hR29 : ∀ (y4 : Int32) (S : Sto), R29 y4 S → RJ g cX9_lifts RX9 none 6 2 29 [(0, .ref (g.1 + 353)), (1, .ref (g.1 + p1)), (2, .int p2), (3, .int p3), (4, .int y4)] [] S (Qv Q)) (hp1 : kd p1 = 0) (x4 : Int32) (S : Sto)  (h : q_X9_lifts_92 p1 p2 p3 R29 Q x4 S) : RJ g cX9_lifts RX9 none 6 2 92 [(0, .ref (g.1 + 353)), (1, .ref (g.1 + p1)), (2, .int p2), (3, .int p3), (4, .int x4)] [] S (Qv Q) := by
  unfold q_X9_lifts_92 at h
  obtain ⟨x4_1, ex4_1⟩ : ∃ y : Int32, y = x4 + 1 := ⟨_, rfl⟩
  have h := h x4_1 ex4_1
  refine J_iinc (v := x4_1) (lv' := [(0, .ref (g.1 + 353)), (1, .ref (g.1 + p1)), (2, .int p2), (3, .int p3), (4, .int x4_1)]) dX9_lifts_92 (q := 4) rfl (by rw [ex4_1]; rfl) (by decide) [1, 2, 3, 4, 0] rfl  ?_
  refine J_goto (tgt := 29) dX9_lifts_95 (by decide)  ?_
  exact hR29 _ _  h
def q_X9_lifts_29 (p1 : Nat) (p2 : Int32) (p3 : Int32)  (Q : Sto → Prop) : Nat → Int32 → Sto → Prop
  | 0, _, _ => False
  | n + 1, x4, S => (((S.1 353 39) ≤ x4 → Q S) ∧ (¬ (S.1 353 39) ≤ x4 → ¬ (S.1 353 3) = 0 ∧ wp_X9_sign (1 <<< (p3 &&& 31)) (x4 - x4 / (S.1 353 3) * (S.1 353 3)) S (fun r_4 S_3 => ((r_4 = 0 → q_X9_lifts_92 p1 p2 p3 (fun y4 S => q_X9_lifts_29 p1 p2 p3  Q n y4 S) Q x4 S_3) ∧ (¬ r_4 = 0 → vp_in (p2 + x4) (ln p1) ∧ (((S_3.1 p1 (p2 + x4 : Int32).toNatClampNeg) = 0 → q_X9_lifts_92 p1 p2 p3 (fun y4 S => q_X9_lifts_29 p1 p2 p3  Q n y4 S) Q x4 S_3) ∧ (¬ (S_3.1 p1 (p2 + x4 : Int32).toNatClampNeg) = 0 → vp_in (p2 + x4) (ln p1) ∧ wp_X9_modulo ((r_4 * (S_3.1 p1 (p2 + x4 : Int32).toNatClampNeg) : Int32).toInt64) S_3 (fun r_10 S_9 => vp_in (x4 ||| (1 <<< (p3 &&& 31))) (256) ∧ ∀ S_12 : Sto, S_12 = uA S_9 370 (x4 ||| (1 <<< (p3 &&& 31)) : Int32).toNatClampNeg r_10 → q_X9_lifts_92 p1 p2 p3 (fun y4 S => q_X9_lifts_29 p1 p2 p3  Q n y4 S) Q x4 S_12))))))))
set_option maxRecDepth 100000 in
set_option maxHeartbeats 4000000 in
theorem l_X9_lifts_29 {g : Gv} (p1 : Nat) (p2 : Int32) (p3 : Int32)  (Q : Sto → Prop)  (hp1 : kd p1 = 0) (n : Nat) : ∀ (x4 : Int32) (S : Sto)  (h : q_X9_lifts_29 p1 p2 p3  Q n x4 S), RJ g cX9_lifts RX9 none 6 2 29 [(0, .ref (g.1 + 353)), (1, .ref (g.1 + p1)), (2, .int p2), (3, .int p3), (4, .int x4)] [] S (Qv Q) := by
  induction n with
  | zero => intro x4 S  h; exact h.elim
  | succ n ih =>
    intro x4 S  h
    unfold q_X9_lifts_29 at h
    refine J_iload dX9_lifts_29 4 rfl  ?_
    refine J_aload_n dX9_lifts_31 rfl 0 rfl  ?_
    refine J_geti (ci := 7) dX9_lifts_32 39 rfl giX9 (by decide) (by decide) rfl rfl tb_4_150 rfl  ?_
    refine J_icmp_ge (tgt := 98) dX9_lifts_35 (by decide) (fun c_1 => ?_) (fun c_1 => ?_)
    · have h := h.1 c_1
      exact J_vret dX9_lifts_98 rfl ⟨rfl, h⟩
    · have h := h.2 c_1
      refine J_iconst (v := 1) dX9_lifts_38 (by decide)  ?_
      refine J_iload_n dX9_lifts_39 rfl 3 rfl  ?_
      refine J_ishl dX9_lifts_40  ?_
      refine J_iload dX9_lifts_41 4 rfl  ?_
      refine J_aload_n dX9_lifts_43 rfl 0 rfl  ?_
      refine J_geti (ci := 7) dX9_lifts_44 3 rfl giX9 (by decide) (by decide) rfl rfl tb_4_114 rfl  ?_
      obtain ⟨hz_2, h⟩ := h
      refine J_irem dX9_lifts_47 hz_2  ?_
      refine J_callS (As := [.int (1 <<< (p3 &&& 31)), .int (x4 - x4 / (S.1 353 3) * (S.1 353 3))]) (rest := []) (n := 2) dX9_lifts_48 (c_X9_sign (1 <<< (p3 &&& 31)) (x4 - x4 / (S.1 353 3) * (S.1 353 3))  _ _ h) tb_5_48 tb_5_46 tb_1_8 tb_5_47 (by decide) rfl (by decide) (by decide) (Nat.le_of_ble_eq_true rfl) rfl (fun v_r_4 S_3 hq => ?_)
      obtain ⟨r_4, rfl, h⟩ := hq
      dsimp only [Option.toList, List.cons_append, List.nil_append]
      refine J_istore (lv' := [(0, .ref (g.1 + 353)), (1, .ref (g.1 + p1)), (2, .int p2), (3, .int p3), (4, .int x4), (5, .int r_4)]) dX9_lifts_51 (by decide) [1, 2, 3, 4, 5, 0] rfl  ?_
      refine J_iload dX9_lifts_53 5 rfl  ?_
      refine J_if_eq (tgt := 92) dX9_lifts_55 (by decide) (fun c_5 => ?_) (fun c_5 => ?_)
      · have h := h.1 c_5
        refine J_sub (lv' := [(0, .ref (g.1 + 353)), (1, .ref (g.1 + p1)), (2, .int p2), (3, .int p3), (4, .int x4)]) [0, 1, 2, 3, 4] rfl ?_
        exact l_X9_lifts_92 p1 p2 p3 _ _ (fun y4 S  h => ih y4 S  h) hp1 _ _  h
      · have h := h.2 c_5
        refine J_aload_n dX9_lifts_58 rfl 1 rfl  ?_
        refine J_iload_n dX9_lifts_59 rfl 2 rfl  ?_
        refine J_iload dX9_lifts_60 4 rfl  ?_
        refine J_iadd dX9_lifts_62  ?_
        obtain ⟨hi_6, h⟩ := h
        refine J_iald dX9_lifts_63 hp1 hi_6  ?_
        refine J_if_eq (tgt := 92) dX9_lifts_64 (by decide) (fun c_7 => ?_) (fun c_7 => ?_)
        · have h := h.1 c_7
          refine J_sub (lv' := [(0, .ref (g.1 + 353)), (1, .ref (g.1 + p1)), (2, .int p2), (3, .int p3), (4, .int x4)]) [0, 1, 2, 3, 4] rfl ?_
          exact l_X9_lifts_92 p1 p2 p3 _ _ (fun y4 S  h => ih y4 S  h) hp1 _ _  h
        · have h := h.2 c_7
          refine J_aload_n dX9_lifts_67 rfl 0 rfl  ?_
          refine J_getr (r := 370) (ci := 7) dX9_lifts_68 28 rfl giX9 (by decide) (by decide) rfl rfl tb_4_139 (by decide) (by decide)  ?_
          refine J_iload dX9_lifts_71 4 rfl  ?_
          refine J_iconst (v := 1) dX9_lifts_73 (by decide)  ?_
          refine J_iload_n dX9_lifts_74 rfl 3 rfl  ?_
          refine J_ishl dX9_lifts_75  ?_
          refine J_ior dX9_lifts_76  ?_
          refine J_aload_n dX9_lifts_77 rfl 0 rfl  ?_
          refine J_iload dX9_lifts_78 5 rfl  ?_
          refine J_aload_n dX9_lifts_80 rfl 1 rfl  ?_
          refine J_iload_n dX9_lifts_81 rfl 2 rfl  ?_
          refine J_iload dX9_lifts_82 4 rfl  ?_
          refine J_iadd dX9_lifts_84  ?_
          obtain ⟨hi_8, h⟩ := h
          refine J_iald dX9_lifts_85 hp1 hi_8  ?_
          refine J_imul dX9_lifts_86  ?_
          refine J_i2l dX9_lifts_87  ?_
          refine J_callV (h := 353) (ci := 7) (As := [.long ((r_4 * (S_3.1 p1 (p2 + x4 : Int32).toNatClampNeg) : Int32).toInt64)]) (rest := [.int (x4 ||| (1 <<< (p3 &&& 31))), .ref (g.1 + 370)]) (n := 1) dX9_lifts_88 (c_X9_modulo ((r_4 * (S_3.1 p1 (p2 + x4 : Int32).toNatClampNeg) : Int32).toInt64)  _ _ h) (by decide) rfl tb_5_37 tb_5_34 tb_1_8 tb_5_36 sl_30 (by decide) rfl (by decide) (by decide) (Nat.le_of_ble_eq_true rfl) rfl (fun v_r_10 S_9 hq => ?_)
          obtain ⟨r_10, rfl, h⟩ := hq
          dsimp only [Option.toList, List.cons_append, List.nil_append]
          obtain ⟨hi_11, h⟩ := h
          refine J_iast dX9_lifts_91 (by decide) hi_11  ?_
          refine J_nmS (fun S_12 eS_12 => ?_)
          have h := h S_12 eS_12
          refine J_sub (lv' := [(0, .ref (g.1 + 353)), (1, .ref (g.1 + p1)), (2, .int p2), (3, .int p3), (4, .int x4)]) [0, 1, 2, 3, 4] rfl ?_
          exact l_X9_lifts_92 p1 p2 p3 _ _ (fun y4 S  h => ih y4 S  h) hp1 _ _  h
def q_X9_lifts_3 (p1 : Nat) (p2 : Int32) (p3 : Int32)  (Q : Sto → Prop) : Nat → Int32 → Sto → Prop
  | 0, _, _ => False
  | n + 1, x4, S => (((S.1 353 39) ≤ x4 → (∃ n_29, q_X9_lifts_29 p1 p2 p3  Q n_29 0 S)) ∧ (¬ (S.1 353 39) ≤ x4 → vp_in x4 (256) ∧ ∀ S_3 : Sto, S_3 = uA S 370 (x4 : Int32).toNatClampNeg 0 → ∀ x4_4 : Int32, x4_4 = x4 + 1 → q_X9_lifts_3 p1 p2 p3  Q n x4_4 S_3))
set_option maxRecDepth 100000 in
set_option maxHeartbeats 4000000 in
theorem l_X9_lifts_3 {g : Gv} (p1 : Nat) (p2 : Int32) (p3 : Int32)  (Q : Sto → Prop)  (hp1 : kd p1 = 0) (n : Nat) : ∀ (x4 : Int32) (S : Sto)  (h : q_X9_lifts_3 p1 p2 p3  Q n x4 S), RJ g cX9_lifts RX9 none 6 2 3 [(0, .ref (g.1 + 353)), (1, .ref (g.1 + p1)), (2, .int p2), (3, .int p3), (4, .int x4)] [] S (Qv Q) := by
  induction n with
  | zero => intro x4 S  h; exact h.elim
  | succ n ih =>
    intro x4 S  h
    unfold q_X9_lifts_3 at h
    refine J_iload dX9_lifts_3 4 rfl  ?_
    refine J_aload_n dX9_lifts_5 rfl 0 rfl  ?_
    refine J_geti (ci := 7) dX9_lifts_6 39 rfl giX9 (by decide) (by decide) rfl rfl tb_4_150 rfl  ?_
    refine J_icmp_ge (tgt := 26) dX9_lifts_9 (by decide) (fun c_1 => ?_) (fun c_1 => ?_)
    · have h := h.1 c_1
      refine J_iconst (v := 0) dX9_lifts_26 (by decide)  ?_
      refine J_istore (lv' := [(0, .ref (g.1 + 353)), (1, .ref (g.1 + p1)), (2, .int p2), (3, .int p3), (4, .int 0)]) dX9_lifts_27 (by decide) [1, 2, 3, 4, 0] rfl  ?_
      obtain ⟨n, h⟩ := h
      exact l_X9_lifts_29 p1 p2 p3  _  hp1 n _ _  h
    · have h := h.2 c_1
      refine J_aload_n dX9_lifts_12 rfl 0 rfl  ?_
      refine J_getr (r := 370) (ci := 7) dX9_lifts_13 28 rfl giX9 (by decide) (by decide) rfl rfl tb_4_139 (by decide) (by decide)  ?_
      refine J_iload dX9_lifts_16 4 rfl  ?_
      refine J_iconst (v := 0) dX9_lifts_18 (by decide)  ?_
      obtain ⟨hi_2, h⟩ := h
      refine J_iast dX9_lifts_19 (by decide) hi_2  ?_
      refine J_nmS (fun S_3 eS_3 => ?_)
      have h := h S_3 eS_3
      obtain ⟨x4_4, ex4_4⟩ : ∃ y : Int32, y = x4 + 1 := ⟨_, rfl⟩
      have h := h x4_4 ex4_4
      refine J_iinc (v := x4_4) (lv' := [(0, .ref (g.1 + 353)), (1, .ref (g.1 + p1)), (2, .int p2), (3, .int p3), (4, .int x4_4)]) dX9_lifts_20 (q := 4) rfl (by rw [ex4_4]; rfl) (by decide) [1, 2, 3, 4, 0] rfl  ?_
      refine J_goto (tgt := 3) dX9_lifts_23 (by decide)  ?_
      exact ih _ _  h
def wp_X9_lifts (p1 : Nat) (p2 : Int32) (p3 : Int32) (S : Sto) (Q : Sto → Prop) : Prop := (∃ n_3, q_X9_lifts_3 p1 p2 p3  Q n_3 0 S)
set_option maxRecDepth 100000 in
set_option maxHeartbeats 4000000 in
theorem c_X9_lifts {g : Gv} (p1 : Nat) (p2 : Int32) (p3 : Int32) (hp1 : kd p1 = 0) (S : Sto) (Q : Sto → Prop) (h : wp_X9_lifts p1 p2 p3 S Q) : CT g yX9_lifts cX9_lifts 6 none 2 [.ref (g.1 + 353), .ref (g.1 + p1), .int p2, .int p3] S (Qv Q) := by
  unfold wp_X9_lifts at h
  refine CT.of (by decide) (Nat.le_of_ble_eq_true rfl) ?_
  refine J_sub (lv' := [(0, .ref (g.1 + 353)), (1, .ref (g.1 + p1)), (2, .int p2), (3, .int p3)]) [0, 1, 2, 3] rfl ?_
  refine J_iconst (v := 0) dX9_lifts_0 (by decide)  ?_
  refine J_istore (lv' := [(0, .ref (g.1 + 353)), (1, .ref (g.1 + p1)), (2, .int p2), (3, .int p3), (4, .int 0)]) dX9_lifts_1 (by decide) [1, 2, 3, 4, 0] rfl  ?_
  obtain ⟨n, h⟩ := h
  exact l_X9_lifts_3 p1 p2 p3  _  hp1 n _ _  h
def q_X9_needs_171  (R66 : Int32 → Sto → Prop) (Q : Int32 → Sto → Prop) (x1 : Int32) (S : Sto) : Prop := ∀ x1_1 : Int32, x1_1 = x1 + 1 → R66 x1_1 S
set_option maxRecDepth 100000 in
set_option maxHeartbeats 4000000 in
theorem l_X9_needs_171 {g : Gv}  (R66 : Int32 → Sto → Prop) (Q : Int32 → Sto → Prop) (hR66 : ∀ (y1 : Int32) (S : Sto), R66 y1 S → RJ g cX9_needs RX9 (some .int) 3 4 66 [(0, .ref (g.1 + 353)), (1, .int y1)] [] S (Qi Q))  (x1 : Int32) (S : Sto)  (h : q_X9_needs_171  R66 Q x1 S) : RJ g cX9_needs RX9 (some .int) 3 4 171 [(0, .ref (g.1 + 353)), (1, .int x1)] [] S (Qi Q) := by
  unfold q_X9_needs_171 at h
  obtain ⟨x1_1, ex1_1⟩ : ∃ y : Int32, y = x1 + 1 := ⟨_, rfl⟩
  have h := h x1_1 ex1_1
  refine J_iinc (v := x1_1) (lv' := [(0, .ref (g.1 + 353)), (1, .int x1_1)]) dX9_needs_171 (q := 1) rfl (by rw [ex1_1]; rfl) (by decide) [1, 0] rfl  ?_
  refine J_goto (tgt := 66) dX9_needs_174 (by decide)  ?_
  exact hR66 _ _  h
def q_X9_needs_120  (R66 : Int32 → Sto → Prop) (Q : Int32 → Sto → Prop) : Nat → Int32 → Int32 → Sto → Prop
  | 0, _, _, _ => False
  | n + 1, x1, x2, S => (((S.1 353 39) ≤ x2 → ∀ S_2 : Sto, S_2 = uA S 353 41 ((S.1 353 41) + 1) → q_X9_needs_171  R66 Q x1 S_2) ∧ (¬ (S.1 353 39) ≤ x2 → vp_in ((256 * x1) + x2) (65536) ∧ vp_in ((256 * (S.1 353 41)) + x2) (65536) ∧ ∀ S_5 : Sto, S_5 = uA S 378 ((256 * (S.1 353 41)) + x2 : Int32).toNatClampNeg (S.1 377 ((256 * x1) + x2 : Int32).toNatClampNeg) → ∀ x2_6 : Int32, x2_6 = x2 + 1 → q_X9_needs_120  R66 Q n x1 x2_6 S_5))
set_option maxRecDepth 100000 in
set_option maxHeartbeats 4000000 in
theorem l_X9_needs_120 {g : Gv}  (R66 : Int32 → Sto → Prop) (Q : Int32 → Sto → Prop) (hR66 : ∀ (y1 : Int32) (S : Sto), R66 y1 S → RJ g cX9_needs RX9 (some .int) 3 4 66 [(0, .ref (g.1 + 353)), (1, .int y1)] [] S (Qi Q))  (n : Nat) : ∀ (x1 : Int32) (x2 : Int32) (S : Sto)  (h : q_X9_needs_120  R66 Q n x1 x2 S), RJ g cX9_needs RX9 (some .int) 3 4 120 [(0, .ref (g.1 + 353)), (1, .int x1), (2, .int x2)] [] S (Qi Q) := by
  induction n with
  | zero => intro x1 x2 S  h; exact h.elim
  | succ n ih =>
    intro x1 x2 S  h
    unfold q_X9_needs_120 at h
    refine J_iload_n dX9_needs_120 rfl 2 rfl  ?_
    refine J_aload_n dX9_needs_121 rfl 0 rfl  ?_
    refine J_geti (ci := 7) dX9_needs_122 39 rfl giX9 (by decide) (by decide) rfl rfl tb_4_150 rfl  ?_
    refine J_icmp_ge (tgt := 161) dX9_needs_125 (by decide) (fun c_1 => ?_) (fun c_1 => ?_)
    · have h := h.1 c_1
      refine J_aload_n dX9_needs_161 rfl 0 rfl  ?_
      refine J_dup dX9_needs_162 rfl  ?_
      refine J_geti (ci := 7) dX9_needs_163 41 rfl giX9 (by decide) (by decide) rfl rfl tb_4_152 rfl  ?_
      refine J_iconst (v := 1) dX9_needs_166 (by decide)  ?_
      refine J_iadd dX9_needs_167  ?_
      refine J_puti (ci := 7) dX9_needs_168 41 rfl giX9 (by decide) (by decide) rfl rfl tyX9 tyX9_ok nmX9 rfl rfl rfl rfl tb_4_152 rfl  ?_
      refine J_nmS (fun S_2 eS_2 => ?_)
      have h := h S_2 eS_2
      refine J_sub (lv' := [(0, .ref (g.1 + 353)), (1, .int x1)]) [0, 1] rfl ?_
      exact l_X9_needs_171  _ _ hR66  _ _  h
    · have h := h.2 c_1
      refine J_aload_n dX9_needs_128 rfl 0 rfl  ?_
      refine J_getr (r := 378) (ci := 7) dX9_needs_129 40 rfl giX9 (by decide) (by decide) rfl rfl tb_4_151 (by decide) (by decide)  ?_
      refine J_sipush (v := 256) dX9_needs_132 (by decide)  ?_
      refine J_aload_n dX9_needs_135 rfl 0 rfl  ?_
      refine J_geti (ci := 7) dX9_needs_136 41 rfl giX9 (by decide) (by decide) rfl rfl tb_4_152 rfl  ?_
      refine J_imul dX9_needs_139  ?_
      refine J_iload_n dX9_needs_140 rfl 2 rfl  ?_
      refine J_iadd dX9_needs_141  ?_
      refine J_aload_n dX9_needs_142 rfl 0 rfl  ?_
      refine J_getr (r := 377) (ci := 7) dX9_needs_143 37 rfl giX9 (by decide) (by decide) rfl rfl tb_4_148 (by decide) (by decide)  ?_
      refine J_sipush (v := 256) dX9_needs_146 (by decide)  ?_
      refine J_iload_n dX9_needs_149 rfl 1 rfl  ?_
      refine J_imul dX9_needs_150  ?_
      refine J_iload_n dX9_needs_151 rfl 2 rfl  ?_
      refine J_iadd dX9_needs_152  ?_
      obtain ⟨hi_3, h⟩ := h
      refine J_iald dX9_needs_153 (by decide) hi_3  ?_
      obtain ⟨hi_4, h⟩ := h
      refine J_iast dX9_needs_154 (by decide) hi_4  ?_
      refine J_nmS (fun S_5 eS_5 => ?_)
      have h := h S_5 eS_5
      obtain ⟨x2_6, ex2_6⟩ : ∃ y : Int32, y = x2 + 1 := ⟨_, rfl⟩
      have h := h x2_6 ex2_6
      refine J_iinc (v := x2_6) (lv' := [(0, .ref (g.1 + 353)), (1, .int x1), (2, .int x2_6)]) dX9_needs_155 (q := 2) rfl (by rw [ex2_6]; rfl) (by decide) [1, 2, 0] rfl  ?_
      refine J_goto (tgt := 120) dX9_needs_158 (by decide)  ?_
      exact ih _ _ _  h
def q_X9_needs_76  (R66 : Int32 → Sto → Prop) (Q : Int32 → Sto → Prop) : Nat → Int32 → Int32 → Sto → Prop
  | 0, _, _, _ => False
  | n + 1, x1, x2, S => (((S.1 353 39) ≤ x2 → wp_X9_comes  S (fun r_3 S_2 => ((¬ r_3 = 0 → (∃ n_120, q_X9_needs_120  R66 Q n_120 x1 0 S_2)) ∧ (r_3 = 0 → q_X9_needs_171  R66 Q x1 S_2)))) ∧ (¬ (S.1 353 39) ≤ x2 → vp_in ((256 * x1) + x2) (65536) ∧ vp_in x2 (256) ∧ ∀ S_7 : Sto, S_7 = uA S 370 (x2 : Int32).toNatClampNeg (S.1 377 ((256 * x1) + x2 : Int32).toNatClampNeg) → ∀ x2_8 : Int32, x2_8 = x2 + 1 → q_X9_needs_76  R66 Q n x1 x2_8 S_7))
set_option maxRecDepth 100000 in
set_option maxHeartbeats 4000000 in
theorem l_X9_needs_76 {g : Gv}  (R66 : Int32 → Sto → Prop) (Q : Int32 → Sto → Prop) (hR66 : ∀ (y1 : Int32) (S : Sto), R66 y1 S → RJ g cX9_needs RX9 (some .int) 3 4 66 [(0, .ref (g.1 + 353)), (1, .int y1)] [] S (Qi Q))  (n : Nat) : ∀ (x1 : Int32) (x2 : Int32) (S : Sto)  (h : q_X9_needs_76  R66 Q n x1 x2 S), RJ g cX9_needs RX9 (some .int) 3 4 76 [(0, .ref (g.1 + 353)), (1, .int x1), (2, .int x2)] [] S (Qi Q) := by
  induction n with
  | zero => intro x1 x2 S  h; exact h.elim
  | succ n ih =>
    intro x1 x2 S  h
    unfold q_X9_needs_76 at h
    refine J_iload_n dX9_needs_76 rfl 2 rfl  ?_
    refine J_aload_n dX9_needs_77 rfl 0 rfl  ?_
    refine J_geti (ci := 7) dX9_needs_78 39 rfl giX9 (by decide) (by decide) rfl rfl tb_4_150 rfl  ?_
    refine J_icmp_ge (tgt := 108) dX9_needs_81 (by decide) (fun c_1 => ?_) (fun c_1 => ?_)
    · have h := h.1 c_1
      refine J_aload_n dX9_needs_108 rfl 0 rfl  ?_
      refine J_callV (h := 353) (ci := 7) (As := []) (rest := []) (n := 0) dX9_needs_109 (c_X9_comes   _ _ h) (by decide) rfl tb_5_88 tb_5_85 tb_1_8 tb_5_87 sl_38 (by decide) rfl (by decide) (by decide) (Nat.le_of_ble_eq_true rfl) rfl (fun v_r_3 S_2 hq => ?_)
      obtain ⟨r_3, rfl, h⟩ := hq
      dsimp only [Option.toList, List.cons_append, List.nil_append]
      refine J_if_ne (tgt := 118) dX9_needs_112 (by decide) (fun c_4 => ?_) (fun c_4 => ?_)
      · have h := h.1 c_4
        refine J_iconst (v := 0) dX9_needs_118 (by decide)  ?_
        refine J_istore_n (lv' := [(0, .ref (g.1 + 353)), (1, .int x1), (2, .int 0)]) dX9_needs_119 rfl (by decide) [1, 2, 0] rfl  ?_
        obtain ⟨n, h⟩ := h
        exact l_X9_needs_120  _ _ hR66  n _ _ _  h
      · have h := h.2 c_4
        refine J_goto (tgt := 171) dX9_needs_115 (by decide)  ?_
        refine J_sub (lv' := [(0, .ref (g.1 + 353)), (1, .int x1)]) [0, 1] rfl ?_
        exact l_X9_needs_171  _ _ hR66  _ _  h
    · have h := h.2 c_1
      refine J_aload_n dX9_needs_84 rfl 0 rfl  ?_
      refine J_getr (r := 370) (ci := 7) dX9_needs_85 28 rfl giX9 (by decide) (by decide) rfl rfl tb_4_139 (by decide) (by decide)  ?_
      refine J_iload_n dX9_needs_88 rfl 2 rfl  ?_
      refine J_aload_n dX9_needs_89 rfl 0 rfl  ?_
      refine J_getr (r := 377) (ci := 7) dX9_needs_90 37 rfl giX9 (by decide) (by decide) rfl rfl tb_4_148 (by decide) (by decide)  ?_
      refine J_sipush (v := 256) dX9_needs_93 (by decide)  ?_
      refine J_iload_n dX9_needs_96 rfl 1 rfl  ?_
      refine J_imul dX9_needs_97  ?_
      refine J_iload_n dX9_needs_98 rfl 2 rfl  ?_
      refine J_iadd dX9_needs_99  ?_
      obtain ⟨hi_5, h⟩ := h
      refine J_iald dX9_needs_100 (by decide) hi_5  ?_
      obtain ⟨hi_6, h⟩ := h
      refine J_iast dX9_needs_101 (by decide) hi_6  ?_
      refine J_nmS (fun S_7 eS_7 => ?_)
      have h := h S_7 eS_7
      obtain ⟨x2_8, ex2_8⟩ : ∃ y : Int32, y = x2 + 1 := ⟨_, rfl⟩
      have h := h x2_8 ex2_8
      refine J_iinc (v := x2_8) (lv' := [(0, .ref (g.1 + 353)), (1, .int x1), (2, .int x2_8)]) dX9_needs_102 (q := 2) rfl (by rw [ex2_8]; rfl) (by decide) [1, 2, 0] rfl  ?_
      refine J_goto (tgt := 76) dX9_needs_105 (by decide)  ?_
      exact ih _ _ _  h
def q_X9_needs_66   (Q : Int32 → Sto → Prop) : Nat → Int32 → Sto → Prop
  | 0, _, _ => False
  | n + 1, x1, S => (((S.1 353 38) ≤ x1 → Q (S.1 353 41) S) ∧ (¬ (S.1 353 38) ≤ x1 → (∃ n_76, q_X9_needs_76  (fun y1 S => q_X9_needs_66   Q n y1 S) Q n_76 x1 0 S)))
set_option maxRecDepth 100000 in
set_option maxHeartbeats 4000000 in
theorem l_X9_needs_66 {g : Gv}   (Q : Int32 → Sto → Prop)   (n : Nat) : ∀ (x1 : Int32) (S : Sto)  (h : q_X9_needs_66   Q n x1 S), RJ g cX9_needs RX9 (some .int) 3 4 66 [(0, .ref (g.1 + 353)), (1, .int x1)] [] S (Qi Q) := by
  induction n with
  | zero => intro x1 S  h; exact h.elim
  | succ n ih =>
    intro x1 S  h
    unfold q_X9_needs_66 at h
    refine J_iload_n dX9_needs_66 rfl 1 rfl  ?_
    refine J_aload_n dX9_needs_67 rfl 0 rfl  ?_
    refine J_geti (ci := 7) dX9_needs_68 38 rfl giX9 (by decide) (by decide) rfl rfl tb_4_149 rfl  ?_
    refine J_icmp_ge (tgt := 177) dX9_needs_71 (by decide) (fun c_1 => ?_) (fun c_1 => ?_)
    · have h := h.1 c_1
      refine J_aload_n dX9_needs_177 rfl 0 rfl  ?_
      refine J_geti (ci := 7) dX9_needs_178 41 rfl giX9 (by decide) (by decide) rfl rfl tb_4_152 rfl  ?_
      exact J_iret dX9_needs_181 rfl rfl ⟨_, rfl, h⟩
    · have h := h.2 c_1
      refine J_iconst (v := 0) dX9_needs_74 (by decide)  ?_
      refine J_istore_n (lv' := [(0, .ref (g.1 + 353)), (1, .int x1), (2, .int 0)]) dX9_needs_75 rfl (by decide) [1, 2, 0] rfl  ?_
      obtain ⟨n, h⟩ := h
      exact l_X9_needs_76  _ _ (fun y1 S  h => ih y1 S  h)  n _ _ _  h
def q_X9_needs_20  (R10 : Int32 → Sto → Prop) (Q : Int32 → Sto → Prop) : Nat → Int32 → Int32 → Sto → Prop
  | 0, _, _, _ => False
  | n + 1, x1, x2, S => (((S.1 353 0) ≤ x2 → ∀ x1_2 : Int32, x1_2 = x1 + 1 → R10 x1_2 S) ∧ (¬ (S.1 353 0) ≤ x2 → wp_X9_lifts 377 (256 * x1) x2 S (fun S_3 => wp_X9_comes  S_3 (fun r_6 S_5 => ∀ x2_7 : Int32, x2_7 = x2 + 1 → q_X9_needs_20  R10 Q n x1 x2_7 S_5))))
set_option maxRecDepth 100000 in
set_option maxHeartbeats 4000000 in
theorem l_X9_needs_20 {g : Gv}  (R10 : Int32 → Sto → Prop) (Q : Int32 → Sto → Prop) (hR10 : ∀ (y1 : Int32) (S : Sto), R10 y1 S → RJ g cX9_needs RX9 (some .int) 3 4 10 [(0, .ref (g.1 + 353)), (1, .int y1)] [] S (Qi Q))  (n : Nat) : ∀ (x1 : Int32) (x2 : Int32) (S : Sto)  (h : q_X9_needs_20  R10 Q n x1 x2 S), RJ g cX9_needs RX9 (some .int) 3 4 20 [(0, .ref (g.1 + 353)), (1, .int x1), (2, .int x2)] [] S (Qi Q) := by
  induction n with
  | zero => intro x1 x2 S  h; exact h.elim
  | succ n ih =>
    intro x1 x2 S  h
    unfold q_X9_needs_20 at h
    refine J_iload_n dX9_needs_20 rfl 2 rfl  ?_
    refine J_aload_n dX9_needs_21 rfl 0 rfl  ?_
    refine J_geti (ci := 7) dX9_needs_22 0 rfl giX9 (by decide) (by decide) rfl rfl tb_4_111 rfl  ?_
    refine J_icmp_ge (tgt := 53) dX9_needs_25 (by decide) (fun c_1 => ?_) (fun c_1 => ?_)
    · have h := h.1 c_1
      obtain ⟨x1_2, ex1_2⟩ : ∃ y : Int32, y = x1 + 1 := ⟨_, rfl⟩
      have h := h x1_2 ex1_2
      refine J_iinc (v := x1_2) (lv' := [(0, .ref (g.1 + 353)), (1, .int x1_2), (2, .int x2)]) dX9_needs_53 (q := 1) rfl (by rw [ex1_2]; rfl) (by decide) [1, 0, 2] rfl  ?_
      refine J_goto (tgt := 10) dX9_needs_56 (by decide)  ?_
      refine J_sub (lv' := [(0, .ref (g.1 + 353)), (1, .int x1_2)]) [0, 1] rfl ?_
      exact hR10 _ _  h
    · have h := h.2 c_1
      refine J_aload_n dX9_needs_28 rfl 0 rfl  ?_
      refine J_aload_n dX9_needs_29 rfl 0 rfl  ?_
      refine J_getr (r := 377) (ci := 7) dX9_needs_30 37 rfl giX9 (by decide) (by decide) rfl rfl tb_4_148 (by decide) (by decide)  ?_
      refine J_sipush (v := 256) dX9_needs_33 (by decide)  ?_
      refine J_iload_n dX9_needs_36 rfl 1 rfl  ?_
      refine J_imul dX9_needs_37  ?_
      refine J_iload_n dX9_needs_38 rfl 2 rfl  ?_
      refine J_callV (h := 353) (ci := 7) (As := [.ref (g.1 + 377), .int (256 * x1), .int x2]) (rest := []) (n := 3) dX9_needs_39 (c_X9_lifts 377 (256 * x1) x2 (by decide) _ _ h) (by decide) rfl tb_6_43 tb_6_40 tb_1_8 tb_6_42 sl_59 (by decide) rfl (by decide) (by decide) (Nat.le_of_ble_eq_true rfl) rfl (fun v_r_4 S_3 hq => ?_)
      obtain ⟨rfl, h⟩ := hq
      dsimp only [Option.toList, List.cons_append, List.nil_append]
      refine J_aload_n dX9_needs_42 rfl 0 rfl  ?_
      refine J_callV (h := 353) (ci := 7) (As := []) (rest := []) (n := 0) dX9_needs_43 (c_X9_comes   _ _ h) (by decide) rfl tb_5_88 tb_5_85 tb_1_8 tb_5_87 sl_38 (by decide) rfl (by decide) (by decide) (Nat.le_of_ble_eq_true rfl) rfl (fun v_r_6 S_5 hq => ?_)
      obtain ⟨r_6, rfl, h⟩ := hq
      dsimp only [Option.toList, List.cons_append, List.nil_append]
      refine J_pop dX9_needs_46 rfl  ?_
      obtain ⟨x2_7, ex2_7⟩ : ∃ y : Int32, y = x2 + 1 := ⟨_, rfl⟩
      have h := h x2_7 ex2_7
      refine J_iinc (v := x2_7) (lv' := [(0, .ref (g.1 + 353)), (1, .int x1), (2, .int x2_7)]) dX9_needs_47 (q := 2) rfl (by rw [ex2_7]; rfl) (by decide) [1, 2, 0] rfl  ?_
      refine J_goto (tgt := 20) dX9_needs_50 (by decide)  ?_
      exact ih _ _ _  h
def q_X9_needs_10   (Q : Int32 → Sto → Prop) : Nat → Int32 → Sto → Prop
  | 0, _, _ => False
  | n + 1, x1, S => (((S.1 353 38) ≤ x1 → ∀ S_2 : Sto, S_2 = uA S 353 41 0 → (∃ n_66, q_X9_needs_66   Q n_66 0 S_2)) ∧ (¬ (S.1 353 38) ≤ x1 → (∃ n_20, q_X9_needs_20  (fun y1 S => q_X9_needs_10   Q n y1 S) Q n_20 x1 0 S)))
set_option maxRecDepth 100000 in
set_option maxHeartbeats 4000000 in
theorem l_X9_needs_10 {g : Gv}   (Q : Int32 → Sto → Prop)   (n : Nat) : ∀ (x1 : Int32) (S : Sto)  (h : q_X9_needs_10   Q n x1 S), RJ g cX9_needs RX9 (some .int) 3 4 10 [(0, .ref (g.1 + 353)), (1, .int x1)] [] S (Qi Q) := by
  induction n with
  | zero => intro x1 S  h; exact h.elim
  | succ n ih =>
    intro x1 S  h
    unfold q_X9_needs_10 at h
    refine J_iload_n dX9_needs_10 rfl 1 rfl  ?_
    refine J_aload_n dX9_needs_11 rfl 0 rfl  ?_
    refine J_geti (ci := 7) dX9_needs_12 38 rfl giX9 (by decide) (by decide) rfl rfl tb_4_149 rfl  ?_
    refine J_icmp_ge (tgt := 59) dX9_needs_15 (by decide) (fun c_1 => ?_) (fun c_1 => ?_)
    · have h := h.1 c_1
      refine J_aload_n dX9_needs_59 rfl 0 rfl  ?_
      refine J_iconst (v := 0) dX9_needs_60 (by decide)  ?_
      refine J_puti (ci := 7) dX9_needs_61 41 rfl giX9 (by decide) (by decide) rfl rfl tyX9 tyX9_ok nmX9 rfl rfl rfl rfl tb_4_152 rfl  ?_
      refine J_nmS (fun S_2 eS_2 => ?_)
      have h := h S_2 eS_2
      refine J_iconst (v := 0) dX9_needs_64 (by decide)  ?_
      refine J_istore_n (lv' := [(0, .ref (g.1 + 353)), (1, .int 0)]) dX9_needs_65 rfl (by decide) [1, 0] rfl  ?_
      obtain ⟨n, h⟩ := h
      exact l_X9_needs_66   _   n _ _  h
    · have h := h.2 c_1
      refine J_iconst (v := 0) dX9_needs_18 (by decide)  ?_
      refine J_istore_n (lv' := [(0, .ref (g.1 + 353)), (1, .int x1), (2, .int 0)]) dX9_needs_19 rfl (by decide) [1, 2, 0] rfl  ?_
      obtain ⟨n, h⟩ := h
      exact l_X9_needs_20  _ _ (fun y1 S  h => ih y1 S  h)  n _ _ _  h
def wp_X9_needs  (S : Sto) (Q : Int32 → Sto → Prop) : Prop := wp_X9_begin (S.1 353 39) S (fun S_1 => (∃ n_10, q_X9_needs_10   Q n_10 0 S_1))
set_option maxRecDepth 100000 in
set_option maxHeartbeats 4000000 in
theorem c_X9_needs {g : Gv}   (S : Sto) (Q : Int32 → Sto → Prop) (h : wp_X9_needs  S Q) : CT g yX9_needs cX9_needs 3 (some .int) 4 [.ref (g.1 + 353)] S (Qi Q) := by
  unfold wp_X9_needs at h
  refine CT.of (by decide) (Nat.le_of_ble_eq_true rfl) ?_
  refine J_sub (lv' := [(0, .ref (g.1 + 353))]) [0] rfl ?_
  refine J_aload_n dX9_needs_0 rfl 0 rfl  ?_
  refine J_aload_n dX9_needs_1 rfl 0 rfl  ?_
  refine J_geti (ci := 7) dX9_needs_2 39 rfl giX9 (by decide) (by decide) rfl rfl tb_4_150 rfl  ?_
  refine J_callV (h := 353) (ci := 7) (As := [.int (S.1 353 39)]) (rest := []) (n := 1) dX9_needs_5 (c_X9_begin (S.1 353 39)  _ _ h) (by decide) rfl tb_5_72 tb_5_69 tb_1_8 tb_5_71 sl_35 (by decide) rfl (by decide) (by decide) (Nat.le_of_ble_eq_true rfl) rfl (fun v_r_2 S_1 hq => ?_)
  obtain ⟨rfl, h⟩ := hq
  dsimp only [Option.toList, List.cons_append, List.nil_append]
  refine J_iconst (v := 0) dX9_needs_8 (by decide)  ?_
  refine J_istore_n (lv' := [(0, .ref (g.1 + 353)), (1, .int 0)]) dX9_needs_9 rfl (by decide) [1, 0] rfl  ?_
  obtain ⟨n, h⟩ := h
  exact l_X9_needs_10   _   n _ _  h
