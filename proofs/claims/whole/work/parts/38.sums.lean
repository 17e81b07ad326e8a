/-! sums -/
theorem sI_add (f g : Nat → Int) : ∀ n, sI (fun i => f i + g i) n = sI f n + sI g n
  | 0 => rfl
  | n + 1 => by simp only [sI]; rw [sI_add f g n]; omega
theorem sI_mul (c : Int) (f : Nat → Int) : ∀ n, sI (fun i => c * f i) n = c * sI f n
  | 0 => by simp [sI]
  | n + 1 => by simp only [sI]; rw [sI_mul c f n, Int.mul_add]
theorem sI_sub (f g : Nat → Int) : ∀ n, sI (fun i => f i - g i) n = sI f n - sI g n
  | 0 => rfl
  | n + 1 => by simp only [sI]; rw [sI_sub f g n]; omega
theorem sI_zero {f : Nat → Int} : ∀ {n : Nat}, (∀ i, i < n → f i = 0) → sI f n = 0
  | 0, _ => rfl
  | n + 1, h => by unfold sI; rw [sI_zero (fun i hi => h i (by omega)), h n (by omega)]; rfl
theorem sI_one {f : Nat → Int} {k : Nat} : ∀ {n : Nat}, k < n → (∀ i, i < n → i ≠ k → f i = 0) → sI f n = f k
  | 0, h, _ => by omega
  | n + 1, h, h0 => by
    unfold sI
    by_cases e : k = n
    · subst e; rw [sI_zero (fun i hi => h0 i (by omega) (by omega)), Int.zero_add]
    · rw [sI_one (by omega) (fun i hi q => h0 i (by omega) q), h0 n (by omega) (fun q => e q.symm), Int.add_zero]
theorem sI_two {f : Nat → Int} {k l n : Nat} (hk : k < n) (hl : l < n) (hkl : k ≠ l) (h0 : ∀ i, i < n → i ≠ k → i ≠ l → f i = 0) : sI f n = f k + f l := by
  have e : sI f n = sI (fun i => (if i = k then f i else 0) + (if i = l then f i else 0)) n := sI_cong (fun i hi => by
    by_cases a : i = k
    · subst a; simp [hkl]
    · by_cases b : i = l
      · subst b; simp [a]
      · simp [a, b, h0 i hi a b])
  rw [e, sI_add, sI_one hk (fun i _ q => if_neg q), sI_one hl (fun i _ q => if_neg q), if_pos rfl, if_pos rfl]
theorem sI_swap (f : Nat → Nat → Int) (m : Nat) : ∀ n, sI (fun i => sI (f i) m) n = sI (fun j => sI (fun i => f i j) n) m
  | 0 => by simp only [sI]; exact (sI_zero (fun _ _ => rfl)).symm
  | n + 1 => by simp only [sI]; rw [sI_swap f m n, ← sI_add]
theorem sI_inv {N : Nat} {F : Nat → Int} {σ : Nat → Nat} (h : ∀ i, i < N → σ i < N ∧ σ (σ i) = i) : sI (fun i => F (σ i)) N = sI F N := by
  have e1 : sI (fun i => F (σ i)) N = sI (fun i => sI (fun j => if j = σ i then F j else 0) N) N := sI_cong (fun i hi => by
    rw [sI_one (h i hi).1 (fun j _ q => if_neg q), if_pos rfl])
  rw [e1, sI_swap]
  refine sI_cong (fun j hj => ?_)
  rw [sI_one (h j hj).1 (fun i hi q => if_neg (fun e => q (by rw [e, (h i hi).2]))), if_pos (h j hj).2.symm]
theorem sI_dvd {p : Int} {f : Nat → Int} : ∀ {n : Nat}, (∀ i, i < n → p ∣ f i) → p ∣ sI f n
  | 0, _ => Int.dvd_zero _
  | n + 1, h => by unfold sI; exact Int.dvd_add (sI_dvd (fun i hi => h i (by omega))) (h n (by omega))
theorem sI_mod {p : Int} {f g : Nat → Int} {n : Nat} (h : ∀ i, i < n → p ∣ f i - g i) : p ∣ sI f n - sI g n := by rw [← sI_sub]; exact sI_dvd h
theorem dvd_cong {p a b : Int} (h : p ∣ a - b) (hb : p ∣ b) : p ∣ a := by have := Int.dvd_add h hb; rwa [Int.sub_add_cancel] at this
/-- a row told by what is left of it once its leads are taken -/
theorem RB.span {p w K : Nat} {V : Vc → Prop} {hd : Nat → Prop} {R : Nat → Vc} (hV : Sub p w V) (h : RB p w K V hd R) {U : Vc → Prop} (hU : Sub p w U) (hR : ∀ l, hd l → U (R l)) {v : Vc} (hv : V v) : U v := by
  have key : ∀ k, ∃ u, V u ∧ U (fun i => v i - u i) ∧ ∀ l, l < k → hd l → (p : Int) ∣ u l := by
    intro k
    induction k with
    | zero => exact ⟨v, hv, hU.to hU.1 (fun i _ => by omega), fun l q => by omega⟩
    | succ k ih =>
      obtain ⟨u, h1, h2, h3⟩ := ih
      by_cases hk : hd k
      · obtain ⟨g1, g2, g3, g4, g5, g6⟩ := h.1 k hk
        refine ⟨fun i => u i - u k * R k i, hV.lc (u k) h1 g2, ?_, fun l q hl => ?_⟩
        · exact hU.to (hU.2.1 _ _ h2 (hU.2.2.1 (u k) _ (hR k hk))) (fun i _ => by show v i - u i + u k * R k i = v i - (u i - u k * R k i); omega)
        · show (p : Int) ∣ u l - u k * R k l
          by_cases e : l = k
          · rw [e, g3, Int.mul_one, Int.sub_self]; exact Int.dvd_zero _
          · rw [g6 l hl e, Int.mul_zero, Int.sub_zero]; exact h3 l (by omega) hl
      · exact ⟨u, h1, h2, fun l q hl => h3 l (by rcases Nat.lt_or_ge l k with z | z; exact z; exact absurd (show l = k by omega) (fun e => hk (e ▸ hl))) hl⟩
  obtain ⟨u, h1, h2, h3⟩ := key w
  have h4 := h.2 u h1 (fun l hl => h3 l (h.1 l hl).1 hl)
  exact hU.2.2.2 _ _ (fun i hi => by have := Int.dvd_neg.mpr (h4 i hi); rwa [show -u i = v i - u i - v i by omega] at this) h2
/-! equations and their solutions -/
def dot (w : Nat) (q x : Vc) : Int := sI (fun i => q i * x i) w
theorem dot_Sub (p w : Nat) (x : Vc) : Sub p w (fun q => (p : Int) ∣ dot w q x) := by
  refine ⟨?_, fun a b ha hb => ?_, fun c a ha => ?_, fun a b e ha => ?_⟩
  · show (p : Int) ∣ sI (fun i => 0 * x i) w
    rw [sI_zero (fun i _ => Int.zero_mul _)]; exact Int.dvd_zero _
  · show (p : Int) ∣ sI (fun i => (a i + b i) * x i) w
    rw [show (fun i => (a i + b i) * x i) = fun i => a i * x i + b i * x i from funext fun i => Int.add_mul _ _ _, sI_add]
    exact Int.dvd_add ha hb
  · show (p : Int) ∣ sI (fun i => c * a i * x i) w
    rw [show (fun i => c * a i * x i) = fun i => c * (a i * x i) from funext fun i => Int.mul_assoc _ _ _, sI_mul]
    exact Int.dvd_mul_of_dvd_right ha
  · refine dvd_cong (sI_mod (fun i hi => ?_)) ha
    rw [← Int.sub_mul]
    refine Int.dvd_mul_of_dvd_left ?_
    have := Int.dvd_neg.mpr (e i hi)
    rwa [Int.neg_sub] at this
theorem dot_comm (w : Nat) (q x : Vc) : dot w q x = dot w x q := sI_cong (fun i _ => Int.mul_comm _ _)
def Perp (p w : Nat) (Q : Vc → Prop) : Vc → Prop := fun x => ∀ q, Q q → (p : Int) ∣ dot w q x
theorem Perp_sub (p w : Nat) (Q : Vc → Prop) : Sub p w (Perp p w Q) := by
  refine ⟨fun q _ => ?_, fun a b ha hb q hq => ?_, fun c a ha q hq => ?_, fun a b e ha q hq => ?_⟩
  · rw [dot_comm]; exact (dot_Sub p w q).1
  · have h1 := ha q hq; have h2 := hb q hq; rw [dot_comm] at h1 h2 ⊢; exact (dot_Sub p w q).2.1 _ _ h1 h2
  · have h1 := ha q hq; rw [dot_comm] at h1 ⊢; exact (dot_Sub p w q).2.2.1 c _ h1
  · have h1 := ha q hq; rw [dot_comm] at h1 ⊢; exact (dot_Sub p w q).2.2.2 _ _ e h1
theorem slv_perp {p w K f : Nat} {V : Vc → Prop} {hd : Nat → Prop} {R : Nat → Vc} (hV : Sub p w V) (h : RB p w K V hd R) (hf : f < w) (hn : ¬ hd f) : Perp p w V (slv p hd R f) := by
  intro q hq
  refine h.span hV (dot_Sub p w (slv p hd R f)) (fun l hl => ?_) hq
  obtain ⟨g1, g2, g3, g4, g5, g6⟩ := h.1 l hl
  have hlf : l ≠ f := fun e => hn (e ▸ hl)
  unfold dot
  rw [sI_two hf g1 hlf.symm (fun i hi a b => ?_)]
  · unfold slv
    rw [if_pos rfl, if_neg hlf, if_pos (isB_t.mpr hl), g3, Int.mul_one, Int.one_mul]
    have := dvd_emod p (-(R l f))
    have h2 := Int.dvd_neg.mpr this
    rwa [show -(-(R l f) - -(R l f) % p) = R l f + -(R l f) % p by omega] at h2
  · unfold slv
    rw [if_neg a]
    by_cases hi2 : hd i
    · rw [g6 i hi2 b, Int.zero_mul]
    · rw [if_neg (by rw [isB_t]; exact hi2), Int.mul_zero]
/-- all solutions are told by those with 1 at one place that leads nowhere -/
theorem slv_span {p w K : Nat} {V : Vc → Prop} {hd : Nat → Prop} {R : Nat → Vc} (hV : Sub p w V) (h : RB p w K V hd R) {U : Vc → Prop} (hU : Sub p w U) (hR : ∀ f, f < w → ¬ hd f → U (slv p hd R f)) {x : Vc} (hx : Perp p w V x) : U x := by
  have hP := Perp_sub p w V
  have key : ∀ k, k ≤ w → ∃ u, Perp p w V u ∧ U (fun i => x i - u i) ∧ ∀ f, f < k → ¬ hd f → (p : Int) ∣ u f := by
    intro k
    induction k with
    | zero => intro _; exact ⟨x, hx, hU.to hU.1 (fun i _ => by omega), fun l q => by omega⟩
    | succ k ih =>
      intro hk
      obtain ⟨u, h1, h2, h3⟩ := ih (by omega)
      by_cases hd0 : hd k
      · exact ⟨u, h1, h2, fun f q hf => h3 f (by rcases Nat.lt_or_ge f k with z | z; exact z; exact absurd (show f = k by omega) (fun e => hf (e ▸ hd0))) hf⟩
      · refine ⟨fun i => u i - u k * slv p hd R k i, hP.lc (u k) h1 (slv_perp hV h (by omega) hd0), hU.to (hU.2.1 _ _ h2 (hU.2.2.1 (u k) _ (hR k (by omega) hd0))) (fun i _ => by show x i - u i + u k * slv p hd R k i = x i - (u i - u k * slv p hd R k i); omega), fun f q hf => ?_⟩
        show (p : Int) ∣ u f - u k * slv p hd R k f
        unfold slv
        by_cases e : f = k
        · rw [if_pos e, e, Int.mul_one, Int.sub_self]; exact Int.dvd_zero _
        · rw [if_neg e, if_neg (by rw [isB_t]; exact hf), Int.mul_zero, Int.sub_zero]; exact h3 f (by omega) hf
  obtain ⟨u, h1, h2, h3⟩ := key w (Nat.le_refl _)
  have hz : ∀ i, i < w → (p : Int) ∣ u i := by
    intro i hi
    by_cases hdi : hd i
    · obtain ⟨g1, g2, g3, g4, g5, g6⟩ := h.1 i hdi
      have h5 := h1 _ g2
      unfold dot at h5
      have h6 : (p : Int) ∣ sI (fun j => R i j * u j - (if j = i then u i else 0)) w := by
        refine sI_dvd (fun j hj => ?_)
        by_cases e : j = i
        · subst e; rw [if_pos rfl, g3, Int.one_mul, Int.sub_self]; exact Int.dvd_zero _
        · rw [if_neg e, Int.sub_zero]
          by_cases hdj : hd j
          · rw [g6 j hdj e, Int.zero_mul]; exact Int.dvd_zero _
          · exact Int.dvd_mul_of_dvd_right (h3 j hj hdj)
      rw [sI_sub, sI_one hi (fun j _ q => if_neg q), if_pos rfl] at h6
      have h7 := Int.dvd_sub h5 h6
      rwa [show sI (fun i_1 => R i i_1 * u i_1) w - (sI (fun i_1 => R i i_1 * u i_1) w - u i) = u i by omega] at h7
    · exact h3 i hi hdi
  exact hU.2.2.2 _ _ (fun i hi => by have := Int.dvd_neg.mpr (hz i hi); rwa [show -u i = x i - u i - x i by omega] at this) h2
/-! annihilators -/
def ax (hand a : Nat) (g : Vc) : Vc := if hand = 0 then pl a g else pr a g
/-- x g (hand 0), g x (hand 1) -/
def act (w hand : Nat) (x g : Vc) : Vc := fun c => sI (fun a => x a * ax hand a g c) w
theorem ax_Lin (p : Nat) {w hand a : Nat} (ha : a < 16) (hw : w ≤ 256) : Lin p w w (ax hand a) := by
  unfold ax; split
  · exact pl_Lin p ha hw
  · exact pr_Lin p ha hw
theorem act_Lin (p : Nat) {w hand : Nat} (x : Vc) (hw : w ≤ 16) : Lin p w w (act w hand x) := by
  refine ⟨fun a b i => ?_, fun c a i => ?_, fun a b e i hi => ?_⟩
  · unfold act
    rw [← sI_add]
    refine sI_cong (fun k hk => ?_)
    rw [(ax_Lin p (w := w) (hand := hand) (show k < 16 by omega) (by omega)).1, Int.mul_add]
  · unfold act
    rw [← sI_mul]
    refine sI_cong (fun k hk => ?_)
    rw [(ax_Lin p (w := w) (hand := hand) (show k < 16 by omega) (by omega)).2.1, ← Int.mul_assoc, Int.mul_comm (x k) c, Int.mul_assoc]
  · refine sI_mod (fun k hk => ?_)
    rw [← Int.mul_sub]
    exact Int.dvd_mul_of_dvd_right ((ax_Lin p (w := w) (hand := hand) (show k < 16 by omega) (by omega)).2.2 a b e i hi)
/-- the ANNIHILATOR of V -/
def AnV (p n hand : Nat) (V : Vc → Prop) : Vc → Prop := fun x => ∀ g, V g → V0 p (2 ^ n) (act (2 ^ n) hand x g)
theorem AnV_eq {p n K hand : Nat} {V : Vc → Prop} {hd : Nat → Prop} {R : Nat → Vc} (hn : n ≤ 4) (hV : Sub p (2 ^ n) V) (h : RB p (2 ^ n) K V hd R) (x : Vc) : AnV p n hand V x ↔ ∀ l, hd l → V0 p (2 ^ n) (act (2 ^ n) hand x (R l)) := by
  have hw := pow_n hn
  refine ⟨fun hx l hl => hx _ (h.1 l hl).2.1, fun hx g hg => ?_⟩
  exact h.span hV (Sub.pre (act_Lin p (hand := hand) x (by omega)) (V0_sub p (2 ^ n))) hx hg
theorem act_dot (w hand : Nat) (x g : Vc) (c : Nat) : act w hand x g c = dot w (fun a => ax hand a g c) x := sI_cong (fun a _ => Int.mul_comm _ _)
theorem and_xor : ∀ a, a < 16 → ∀ c, c < 16 → a &&& c = a → (c ^^^ a) &&& c = c ^^^ a ∧ c ^^^ (c ^^^ a) = a := by decide +kernel
/-- a product of two elements, by what stands on the left or on the right -/
theorem mulE_act0 (w : Nat) (x g : Vc) (c : Nat) : mulE w x g c = act w 0 x g c := by
  unfold mulE act ax pl
  refine sI_cong (fun a _ => ?_)
  rw [if_pos rfl]
  by_cases h : a &&& c = a
  · rw [if_pos h, if_pos h]
    rw [Int.mul_comm (sg a (c ^^^ a)) (x a), Int.mul_assoc]
  · rw [if_neg h, if_neg h, Int.mul_zero]
theorem mulE_act1 {n c : Nat} (hn : n ≤ 4) (hc : c < 2 ^ n) (g x : Vc) : mulE (2 ^ n) g x c = act (2 ^ n) 1 x g c := by
  have hw := pow_n hn
  unfold mulE act ax pr
  have h := sI_inv (N := 2 ^ n) (F := fun a => if a &&& c = a then sg a (c ^^^ a) * g a * x (c ^^^ a) else 0) (σ := fun a => if a &&& c = a then c ^^^ a else a) (fun a ha => by
    by_cases q : a &&& c = a
    · obtain ⟨q1, q2⟩ := and_xor a (by omega) c (by omega) q
      have := sub_le a (by omega) c (by omega) q
      simp only [if_pos q, if_pos q1, q2]
      exact ⟨by omega, trivial⟩
    · simp only [if_neg q]; exact ⟨ha, trivial⟩)
  rw [← h]
  refine sI_cong (fun a ha => ?_)
  by_cases q : a &&& c = a
  · obtain ⟨q1, q2⟩ := and_xor a (by omega) c (by omega) q
    simp only [if_pos q, if_pos q1, q2, if_neg (show ¬ (1 : Nat) = 0 by decide)]
    rw [Int.mul_comm]
  · simp only [if_neg q, if_neg (show ¬ (1 : Nat) = 0 by decide), Int.mul_zero]
