/-! sums, products -/
def sI (f : Nat → Int) : Nat → Int | 0 => 0 | n + 1 => sI f n + f n
theorem sI_cong {f g : Nat → Int} : ∀ {n : Nat}, (∀ i, i < n → f i = g i) → sI f n = sI g n
  | 0, _ => rfl
  | n + 1, h => by unfold sI; rw [sI_cong (fun i hi => h i (by omega)), h n (by omega)]
theorem sI_bound {f : Nat → Int} {B : Int} : ∀ {n : Nat}, (∀ i, i < n → -B ≤ f i ∧ f i ≤ B) → -(n * B) ≤ sI f n ∧ sI f n ≤ n * B
  | 0, _ => by simp [sI]
  | n + 1, h => by
    have h1 := sI_bound (n := n) (fun i hi => h i (by omega))
    have h2 := h n (by omega)
    unfold sI
    rw [Int.natCast_add, Int.add_mul]
    omega
/-- an array reads the numbers X, modulo p -/
def rd (f : Nat → Int32) (W p : Nat) (X : Nat → Int) : Prop := ∀ i, i < W → f i = iI (X i) ∧ 0 ≤ X i ∧ X i < p
theorem rd.mono {f : Nat → Int32} {W W' p : Nat} {X : Nat → Int} (h : rd f W p X) (hw : W' ≤ W) : rd f W' p X := fun i hi => h i (by omega)
def ctB (f : Nat → Bool) : Nat → Nat | 0 => 0 | n + 1 => ctB f n + (if f n then 1 else 0)
theorem ctB_le (f : Nat → Bool) : ∀ n, ctB f n ≤ n
  | 0 => Nat.le_refl 0
  | n + 1 => by have := ctB_le f n; unfold ctB; split <;> omega
theorem ctB_cong {f g : Nat → Bool} : ∀ {n : Nat}, (∀ i, i < n → f i = g i) → ctB f n = ctB g n
  | 0, _ => rfl
  | n + 1, h => by unfold ctB; rw [ctB_cong (fun i hi => h i (by omega)), h n (by omega)]
theorem bcN_lt (a : Nat) : bcN a < 7 := by unfold bcN; omega
theorem sp_placesOfDegree {d W : Nat} {S : Sto} {Q : Int32 → Sto → Prop} (hd : d < 100) (hW : W ≤ 64) (h : Q (nI (ctB (fun c => bcN c == d) W)) S) : wp_X2_placesOfDegree (nI d) (nI W) S Q := by
  unfold wp_X2_placesOfDegree
  have key := loopE (fun n i (c : Int32) => q_X2_placesOfDegree_4 (nI d) (nI W) Q n c (nI i) S) (fun i c => c = nI (ctB (fun c => bcN c == d) i)) W ?_ ?_ 0 0 (by omega) rfl
  · exact key
  · intro c hc
    unfold q_X2_placesOfDegree_4
    rw [nI_leI (by omega) (by omega)]
    exact ⟨fun _ => hc ▸ h, fun c => by omega⟩
  · intro i n c hi hc ih
    unfold q_X2_placesOfDegree_4 q_X2_placesOfDegree_23
    rw [nI_leI (by omega) (by omega)]
    refine ⟨fun c => by omega, fun _ => sp_bitCount (by omega) ?_⟩
    have hb := bcN_lt i
    rw [nI_eq (by omega) (by omega)]
    refine ⟨fun z x2 e2 x3 e3 => ?_, fun z x2 e2 x3 e3 => ?_⟩
    · rw [e3, nI_1]
      refine ih x2 ?_
      rw [e2, hc, show (0 : Int32) = nI 0 from rfl, nI_add, ctB]
      simp [z]
    · rw [e3, nI_1]
      refine ih x2 ?_
      rw [e2, hc, nI_1, ctB]
      simp [z]
/-- PRODUCT of two elements, at a place -/
def mulE (W : Nat) (X Y : Nat → Int) (c : Nat) : Int := sI (fun a => if a &&& c = a then sg a (c ^^^ a) * X a * Y (c ^^^ a) else 0) W
theorem sub_N : ∀ a, a < 16 → ∀ c, c < 16 → ((nI a &&& (nI c ^^^ (-1))) = 0 ↔ a &&& c = a) ∧ nI c ^^^ nI a = nI (c ^^^ a) ∧ (c ^^^ a) < 16 ∧ (a &&& c = a → c ^^^ a ≤ c) := by decide +kernel
theorem prod_bound {s x y : Int} {p : Nat} (hp : p < 8) (hs : s = 0 ∨ s = 1 ∨ s = -1) (hx : 0 ≤ x ∧ x < p) (hy : 0 ≤ y ∧ y < p) : -49 ≤ s * x * y ∧ s * x * y ≤ 49 := by
  have h0 : 0 ≤ x * y := Int.mul_nonneg hx.1 hy.1
  have h1 : x * y ≤ 7 * 7 := Int.mul_le_mul (by omega) (by omega) hy.1 (by omega)
  rcases hs with rfl | rfl | rfl
  · simp
  · rw [Int.one_mul]; omega
  · rw [Int.neg_mul, Int.one_mul, Int.neg_mul]; omega
theorem sp_multiply {x y t W p : Nat} {X Y : Nat → Int} {S : Sto} {Q : Sto → Prop} (hp : isP p) (hW : W ≤ 16) (hWx : W ≤ ln x) (hWy : W ≤ ln y) (hWt : W ≤ ln t) (hlx : ln x ≤ 70000) (hly : ln y ≤ 70000) (hlt : ln t ≤ 70000) (hxt : x ≠ t) (hyt : y ≠ t) (hX : rd (S.1 x) W p X) (hY : rd (S.1 y) W p Y)
    (h : Q (setA S t (fl W (fun c => iI (mulE W X Y c % p)) (S.1 t)))) : wp_X2_multiply x y t (nI W) (nI p) S Q := by
  have hp8 := hp.pos
  unfold wp_X2_multiply
  have key := loopE (fun n i (T : Sto) => q_X2_multiply_3 x y t (nI W) (nI p) Q n (nI i) T) (fun i T => T = setA S t (fl i (fun c => iI (mulE W X Y c % p)) (S.1 t))) W ?_ ?_ 0 S (by omega) (by rw [fl_0, setA_self])
  · exact key
  · intro T hT
    unfold q_X2_multiply_3
    rw [nI_leI (by omega) (by omega)]
    exact ⟨fun _ => hT ▸ h, fun c => by omega⟩
  · intro c n T hc hT ih
    unfold q_X2_multiply_3
    rw [nI_leI (by omega) (by omega)]
    refine ⟨fun c => by omega, fun _ => ?_⟩
    have hxT : T.1 x = S.1 x := by rw [hT, setA_ne _ _ hxt]
    have hyT : T.1 y = S.1 y := by rw [hT, setA_ne _ _ hyt]
    have hterm : ∀ a, a < W → -49 ≤ (if a &&& c = a then sg a (c ^^^ a) * X a * Y (c ^^^ a) else 0) ∧ (if a &&& c = a then sg a (c ^^^ a) * X a * Y (c ^^^ a) else 0) ≤ 49 := by
      intro a ha
      split
      · rename_i q
        obtain ⟨-, -, s3, s4⟩ := sub_N a (by omega) c (by omega)
        exact prod_bound hp8.2 (sg_sm a (by omega) _ (by omega)) (hX a ha).2 (hY _ (by have := s4 q; omega)).2
      · omega
    refine loopE (fun n2 a (acc : Int32) => q_X2_multiply_15 x y t (nI W) (nI p) (fun y5 S => q_X2_multiply_3 x y t (nI W) (nI p) Q n y5 S) Q n2 (nI c) acc (nI a) T) (fun a acc => acc = iI (sI (fun a => if a &&& c = a then sg a (c ^^^ a) * X a * Y (c ^^^ a) else 0) a)) W ?_ ?_ 0 0 (by omega) rfl
    · intro acc hacc
      unfold q_X2_multiply_15
      rw [nI_leI (by omega) (by omega), hacc]
      refine ⟨fun _ => ?_, fun z => by omega⟩
      have hb := sI_bound (B := 49) (n := W) hterm
      refine sp_modulo ⟨by omega, by omega⟩ (by omega) (by omega) ?_
      refine ⟨vp_nI (by omega) hlt, fun S1 e1 z ez => ?_⟩
      rw [ez, nI_1]
      refine ih S1 ?_
      rw [e1, tn_nI (by omega), hT]
      exact fl_step' S t c _ _ rfl
    · intro a n2 acc ha hacc ih2
      unfold q_X2_multiply_15 q_X2_multiply_59
      obtain ⟨s1, s2, s3, s4⟩ := sub_N a (by omega) c (by omega)
      rw [nI_leI (by omega) (by omega), s1, s2]
      refine ⟨fun z => by omega, fun _ => ⟨fun z y ey => ?_, fun z => ?_⟩⟩
      · rw [ey, nI_1]
        refine ih2 acc ?_
        rw [hacc, sI, if_neg z, Int.add_zero]
      · refine sp_sign (by omega) (by omega) ?_
        have hca : c ^^^ a < W := by have := s4 z; omega
        refine ⟨vp_nI (by omega) hlx, vp_nI (by omega) hly, fun z1 e1 z2 e2 => ?_⟩
        rw [e2, nI_1]
        refine ih2 z1 ?_
        rw [e1, hacc, tn_nI (by omega), tn_nI (by omega), hxT, hyT, (hX a ha).1, (hY _ hca).1, ← iI_mul, ← iI_mul, ← iI_add, sI, if_pos z]
/-- c without letter l -/
def wo (c l : Nat) : Nat := if c / 2 ^ l % 2 = 1 then c - 2 ^ l else c
/-- a letter times x (side 0), x times a letter, at a place -/
def mlE (side l : Nat) (X : Nat → Int) (c : Nat) : Int := if c / 2 ^ l % 2 = 1 then (if side = 0 then sg (2 ^ l) (wo c l) else sg (wo c l) (2 ^ l)) * X (wo c l) else 0
theorem wo_N : ∀ l, l < 4 → ∀ c, c < 64 → (nI c &&& (((1 : Int32) <<< (nI l &&& 31)) ^^^ (-1))) = nI (wo c l) ∧ (1 : Int32) <<< (nI l &&& 31) = nI (2 ^ l) ∧ wo c l ≤ c ∧ (wo c l = c ↔ ¬ c / 2 ^ l % 2 = 1) ∧ 2 ^ l < 16 := by decide +kernel
theorem sp_byLetter {side l x t W p : Nat} {X : Nat → Int} {S : Sto} {Q : Sto → Prop} (hp : isP p) (hs : side < 2) (hl4 : l < 4) (hW : W ≤ 64) (hW1 : side = 1 → W ≤ 16) (hWx : W ≤ ln x) (hWt : W ≤ ln t) (hlx : ln x ≤ 70000) (hlt : ln t ≤ 70000) (hxt : x ≠ t) (hX : rd (S.1 x) W p X)
    (h : Q (setA S t (fl W (fun c => iI (mlE side l X c % p)) (S.1 t)))) : wp_X2_byLetter (nI side) (nI l) x t (nI W) (nI p) S Q := by
  have hp8 := hp.pos
  unfold wp_X2_byLetter
  intro bit hbit
  rw [(wo_N l hl4 0 (by omega)).2.1] at hbit
  have h2l := (wo_N l hl4 0 (by omega)).2.2.2.2
  have key := loopE (fun n i (T : Sto) => q_X2_byLetter_8 (nI side) (nI l) x t (nI W) (nI p) Q n bit (nI i) T) (fun i T => T = setA S t (fl i (fun c => iI (mlE side l X c % p)) (S.1 t))) W ?_ ?_ 0 S (by omega) (by rw [fl_0, setA_self])
  · exact key
  · intro T hT
    unfold q_X2_byLetter_8
    rw [nI_leI (by omega) (by omega)]
    exact ⟨fun _ => hT ▸ h, fun c => by omega⟩
  · intro c n T hc hT ih
    unfold q_X2_byLetter_8
    rw [nI_leI (by omega) (by omega)]
    refine ⟨fun c => by omega, fun _ => ?_⟩
    obtain ⟨w1, w2, w3, w4, -⟩ := wo_N l hl4 c (by omega)
    intro w hw
    rw [hbit, ← w2, w1] at hw
    have hxT : T.1 x = S.1 x := by rw [hT, setA_ne _ _ hxt]
    have last : ∀ r : Int32, r = iI (mlE side l X c % p) → q_X2_byLetter_73 (nI side) (nI l) x t (nI W) (nI p) (fun y6 y7 S => q_X2_byLetter_8 (nI side) (nI l) x t (nI W) (nI p) Q n y6 y7 S) Q bit (nI c) (nI c) r T := by
      intro r hr
      unfold q_X2_byLetter_73
      refine ⟨vp_nI (by omega) hlt, fun S1 e1 z ez => ?_⟩
      rw [ez, nI_1]
      refine ih S1 ?_
      rw [e1, tn_nI (by omega), hT]
      exact fl_step' S t c _ _ hr
    have rest : ∀ s : Int, (s = 0 ∨ s = 1 ∨ s = -1) → s = (if side = 0 then sg (2 ^ l) (wo c l) else sg (wo c l) (2 ^ l)) → q_X2_byLetter_45 (nI side) (nI l) x t (nI W) (nI p) (fun y6 y7 S => q_X2_byLetter_8 (nI side) (nI l) x t (nI W) (nI p) Q n y6 y7 S) Q bit (nI c) w (iI s) T := by
      intro s hs3 hs
      unfold q_X2_byLetter_45
      rw [hw, nI_eq (by omega) (by omega)]
      refine ⟨fun z => ?_, fun z => ?_⟩
      · have hbitc : c / 2 ^ l % 2 = 1 := by
          have q := mt w4.mpr z
          exact Decidable.of_not_not q
        refine ⟨vp_nI (by omega) hlx, ?_⟩
        have hr := hX (wo c l) (by omega)
        rw [tn_nI (by omega), hxT, hr.1, ← iI_mul]
        have hb : -8 ≤ s * X (wo c l) ∧ s * X (wo c l) ≤ 8 := by
          rcases hs3 with e | e | e <;> rw [e] <;> omega
        refine sp_modulo ⟨by omega, by omega⟩ (by omega) (by omega) (last _ ?_)
        rw [mlE, if_pos hbitc, ← hs]
      · refine last 0 ?_
        rw [mlE, if_neg (w4.mp z), Int.zero_emod]
        rfl
    rw [hw, hbit, show (0 : Int32) = nI 0 from rfl, nI_eq (by omega) (by omega)]
    refine ⟨fun z => ?_, fun z => ?_⟩
    · have h1 : side = 1 := by omega
      have := hW1 h1
      refine sp_sign (by omega) (by omega) ?_
      rw [← hw, ← hbit]
      exact rest _ (sg_sm _ (by omega) _ (by omega)) (by rw [if_neg z])
    · refine sp_sign (by omega) (by omega) ?_
      rw [← hw, ← hbit]
      exact rest _ (sg_sm _ (by omega) _ (by omega)) (by rw [if_pos z])
/-- TURNED: the sign at a place -/
def tsg (c : Nat) : Int := if bcN c * (bcN c - 1) / 2 % 2 = 1 then -1 else 1
theorem tsg_N : ∀ c, c < 16 → ((((nI (bcN c) * (nI (bcN c) - 1)) / 2) &&& 1) = 0 ↔ tsg c = 1) ∧ (tsg c = 1 ∨ tsg c = -1) := by decide +kernel
theorem sp_turn {x t W p : Nat} {X : Nat → Int} {S : Sto} {Q : Sto → Prop} (hp : isP p) (hW : W ≤ 16) (hWx : W ≤ ln x) (hWt : W ≤ ln t) (hlx : ln x ≤ 70000) (hlt : ln t ≤ 70000) (hxt : x ≠ t) (hX : rd (S.1 x) W p X)
    (h : Q (setA S t (fl W (fun c => iI (tsg c * X c % p)) (S.1 t)))) : wp_X2_turn x t (nI W) (nI p) S Q := by
  have hp8 := hp.pos
  unfold wp_X2_turn
  have key := loopE (fun n i (T : Sto) => q_X2_turn_3 x t (nI W) (nI p) Q n (nI i) T) (fun i T => T = setA S t (fl i (fun c => iI (tsg c * X c % p)) (S.1 t))) W ?_ ?_ 0 S (by omega) (by rw [fl_0, setA_self])
  · exact key
  · intro T hT
    unfold q_X2_turn_3
    rw [nI_leI (by omega) (by omega)]
    exact ⟨fun _ => hT ▸ h, fun c => by omega⟩
  · intro c n T hc hT ih
    unfold q_X2_turn_3
    rw [nI_leI (by omega) (by omega)]
    refine ⟨fun c => by omega, fun _ => sp_bitCount (by omega) ?_⟩
    have hxT : T.1 x = S.1 x := by rw [hT, setA_ne _ _ hxt]
    have hr := hX c hc
    obtain ⟨t1, t2⟩ := tsg_N c (by omega)
    have last : ∀ v : Int, v = tsg c * X c → q_X2_turn_57 x t (nI W) (nI p) (fun y4 S => q_X2_turn_3 x t (nI W) (nI p) Q n y4 S) Q (nI c) (nI c) (iI v) T := by
      intro v hv
      unfold q_X2_turn_57
      have hb : -8 ≤ v ∧ v ≤ 8 := by rcases t2 with e | e <;> rw [e] at hv <;> omega
      refine sp_modulo ⟨by omega, by omega⟩ (by omega) (by omega) ⟨vp_nI (by omega) hlt, fun S1 e1 z ez => ?_⟩
      rw [ez, nI_1]
      refine ih S1 ?_
      rw [e1, tn_nI (by omega), hT]
      exact fl_step' S t c _ _ (by rw [hv])
    rw [t1]
    refine ⟨fun z => ?_, fun z => ?_⟩
    · unfold q_X2_turn_35
      refine ⟨fun _ => ⟨vp_nI (by omega) hlx, ?_⟩, fun q => absurd rfl q⟩
      rw [tn_nI (by omega), hxT, hr.1]
      exact last _ (by rw [z]; omega)
    · unfold q_X2_turn_35
      refine ⟨fun q => absurd q (by decide), fun _ => ⟨vp_nI (by omega) hlx, ?_⟩⟩
      rw [tn_nI (by omega), hxT, hr.1, ← iI_neg]
      exact last _ (by rw [t2.resolve_left z]; omega)
theorem com_N : ∀ n, n < 5 → 2 ≤ n → ∀ c, c < 2 ^ n → (nI (2 ^ n) - 1) ^^^ nI c = nI ((2 ^ n - 1) ^^^ c) ∧ (2 ^ n - 1) ^^^ c < 2 ^ n ∧ 2 ^ n ≤ 16 := by decide +kernel
theorem sp_complement {x t n p : Nat} {X : Nat → Int} {S : Sto} {Q : Sto → Prop} (hp : isP p) (hn : 2 ≤ n) (hn4 : n ≤ 4) (hWx : 2 ^ n ≤ ln x) (hWt : 2 ^ n ≤ ln t) (hlx : ln x ≤ 70000) (hlt : ln t ≤ 70000) (hxt : x ≠ t) (hX : rd (S.1 x) (2 ^ n) p X)
    (h : Q (setA S t (fl (2 ^ n) (fun c => iI (sg ((2 ^ n - 1) ^^^ c) c * X ((2 ^ n - 1) ^^^ c) % p)) (S.1 t)))) : wp_X2_complement x t (nI (2 ^ n)) (nI p) S Q := by
  have hp8 := hp.pos
  have h16 : 2 ^ n ≤ 16 := (com_N n (by omega) hn 0 (Nat.two_pow_pos n)).2.2
  unfold wp_X2_complement
  have key := loopE (fun k i (T : Sto) => q_X2_complement_3 x t (nI (2 ^ n)) (nI p) Q k (nI i) T) (fun i T => T = setA S t (fl i (fun c => iI (sg ((2 ^ n - 1) ^^^ c) c * X ((2 ^ n - 1) ^^^ c) % p)) (S.1 t))) (2 ^ n) ?_ ?_ 0 S (Nat.zero_le _) (by rw [fl_0, setA_self])
  · exact key
  · intro T hT
    unfold q_X2_complement_3
    rw [nI_leI (by omega) (by omega)]
    exact ⟨fun _ => hT ▸ h, fun c => by omega⟩
  · intro c k T hc hT ih
    unfold q_X2_complement_3
    obtain ⟨c1, c2, -⟩ := com_N n (by omega) hn c hc
    rw [nI_leI (by omega) (by omega), c1]
    refine ⟨fun c => by omega, fun _ w hw => ?_⟩
    rw [hw]
    refine sp_sign (by omega) (by omega) ⟨vp_nI (by omega) hlx, ?_⟩
    have hxT : T.1 x = S.1 x := by rw [hT, setA_ne _ _ hxt]
    have hr := hX _ c2
    rw [tn_nI (by omega), hxT, hr.1, ← iI_mul]
    have hb : -8 ≤ sg ((2 ^ n - 1) ^^^ c) c * X ((2 ^ n - 1) ^^^ c) ∧ sg ((2 ^ n - 1) ^^^ c) c * X ((2 ^ n - 1) ^^^ c) ≤ 8 := by
      rcases sg_sm ((2 ^ n - 1) ^^^ c) (by omega) c (by omega) with e | e | e <;> rw [e] <;> omega
    refine sp_modulo ⟨by omega, by omega⟩ (by omega) (by omega) ⟨vp_nI (by omega) hlt, fun S1 e1 z ez => ?_⟩
    rw [ez, nI_1]
    refine ih S1 ?_
    rw [e1, tn_nI (by omega), hT]
    exact fl_step' S t c _ _ rfl
