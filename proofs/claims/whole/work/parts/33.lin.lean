/-! spaces of rows of numbers modulo p: sets of rows of Ints that hold with two their sum, with one its multiples, and all that is alike modulo p in the first w places -/
abbrev Vc : Type := Nat → Int
def eqm (p w : Nat) (x y : Vc) : Prop := ∀ i, i < w → (p : Int) ∣ x i - y i
def Sub (p w : Nat) (V : Vc → Prop) : Prop := V (fun _ => 0) ∧ (∀ x y, V x → V y → V (fun i => x i + y i)) ∧ (∀ (c : Int) x, V x → V (fun i => c * x i)) ∧ (∀ x y, eqm p w x y → V x → V y)
theorem Sub.to {p w : Nat} {V : Vc → Prop} (hV : Sub p w V) {x y : Vc} (h : V x) (e : ∀ i, i < w → x i = y i) : V y := hV.2.2.2 x y (fun i hi => by rw [e i hi, Int.sub_self]; exact Int.dvd_zero _) h
theorem Sub.lc {p w : Nat} {V : Vc → Prop} (hV : Sub p w V) {x y : Vc} (c : Int) (hx : V x) (hy : V y) : V (fun i => x i - c * y i) := by
  have h1 := hV.2.2.1 (-c) y hy
  exact hV.to (hV.2.1 x _ hx h1) (fun i _ => by grind)
theorem Sub.sub {p w : Nat} {V : Vc → Prop} (hV : Sub p w V) {x y : Vc} (hx : V x) (hy : V y) : V (fun i => x i - y i) := hV.to (hV.lc 1 hx hy) (fun i _ => by omega)
theorem Sub.zero {p w : Nat} {V : Vc → Prop} (hV : Sub p w V) {x : Vc} (h : ∀ i, i < w → (p : Int) ∣ x i) : V x := hV.2.2.2 _ x (fun i hi => by rw [Int.zero_sub]; exact Int.dvd_neg.mpr (h i hi)) hV.1
/-- the space with one row more -/
def addV (V : Vc → Prop) (x : Vc) : Vc → Prop := fun v => ∃ c : Int, V (fun i => v i - c * x i)
theorem addV_sub {p w : Nat} {V : Vc → Prop} (hV : Sub p w V) (x : Vc) : Sub p w (addV V x) := by
  refine ⟨⟨0, hV.to hV.1 (fun i _ => by simp)⟩, ?_, ?_, ?_⟩
  · rintro a b ⟨c, hc⟩ ⟨d, hd⟩
    exact ⟨c + d, hV.to (hV.2.1 _ _ hc hd) (fun i _ => by grind)⟩
  · rintro c a ⟨d, hd⟩
    exact ⟨c * d, hV.to (hV.2.2.1 c _ hd) (fun i _ => by grind)⟩
  · rintro a b e ⟨c, hc⟩
    exact ⟨c, hV.2.2.2 _ _ (fun i hi => by have := e i hi; rw [show a i - c * x i - (b i - c * x i) = a i - b i by omega]; exact this) hc⟩
theorem addV_old {p w : Nat} {V : Vc → Prop} (hV : Sub p w V) (x : Vc) {v : Vc} (h : V v) : addV V x v := ⟨0, hV.to h (fun i _ => by omega)⟩
theorem addV_new {p w : Nat} {V : Vc → Prop} (hV : Sub p w V) (x : Vc) : addV V x x := ⟨1, hV.to hV.1 (fun i _ => by simp)⟩
theorem addV_least {p w : Nat} {V U : Vc → Prop} (hU : Sub p w U) {x : Vc} (h : ∀ v, V v → U v) (hx : U x) {v : Vc} (hv : addV V x v) : U v := by
  obtain ⟨c, hc⟩ := hv
  exact hU.to (hU.2.1 _ _ (h _ hc) (hU.2.2.1 c _ hx)) (fun i _ => by omega)
/-- the space with x is that with what x differs from by V -/
theorem addV_rest {p w : Nat} {V : Vc → Prop} (hV : Sub p w V) {x r : Vc} (h : V (fun i => x i - r i)) (v : Vc) : addV V x v ↔ addV V r v := by
  constructor
  · intro hv
    refine addV_least (addV_sub hV r) (fun u hu => addV_old hV r hu) ?_ hv
    exact (addV_sub hV r).to ((addV_sub hV r).2.1 _ _ (addV_old hV r h) (addV_new hV r)) (fun i _ => by omega)
  · intro hv
    refine addV_least (addV_sub hV x) (fun u hu => addV_old hV x hu) ?_ hv
    exact (addV_sub hV x).to ((addV_sub hV x).sub (addV_new hV x) (addV_old hV x h)) (fun i _ => by omega)
/-- a basis in steps: hd its leads, by the order of kind K; R l its row with that lead -/
def RB (p w K : Nat) (V : Vc → Prop) (hd : Nat → Prop) (R : Nat → Vc) : Prop :=
  (∀ l, hd l → l < w ∧ V (R l) ∧ R l l = 1 ∧ (∀ i, i < w → 0 ≤ R l i ∧ R l i < p) ∧ (∀ i, i < w → ps K i < ps K l → R l i = 0) ∧ (∀ l', hd l' → l' ≠ l → R l l' = 0)) ∧
  (∀ v, V v → (∀ l, hd l → (p : Int) ∣ v l) → ∀ i, i < w → (p : Int) ∣ v i)
theorem RB.cong {p w K : Nat} {V V' : Vc → Prop} {hd : Nat → Prop} {R : Nat → Vc} (h : RB p w K V hd R) (e : ∀ v, V v ↔ V' v) : RB p w K V' hd R := by
  rw [show V' = V from funext fun v => propext (e v).symm]; exact h
theorem RB.eqv {p w K : Nat} {V : Vc → Prop} {hd hd' : Nat → Prop} {R R' : Nat → Vc} (h : RB p w K V hd R) (hV : Sub p w V) (e : ∀ l, hd l ↔ hd' l) (e2 : ∀ l i, hd l → i < w → R l i = R' l i) : RB p w K V hd' R' := by
  rw [show hd' = hd from funext fun v => propext (e v).symm]
  refine ⟨fun l hl => ?_, h.2⟩
  obtain ⟨h1, h2, h3, h4, h5, h6⟩ := h.1 l hl
  exact ⟨h1, hV.to h2 (fun i hi => e2 l i hl hi), by rw [← e2 l l hl h1]; exact h3, fun i hi => by rw [← e2 l i hl hi]; exact h4 i hi, fun i hi q => by rw [← e2 l i hl hi]; exact h5 i hi q, fun l' hl' n => by rw [← e2 l l' hl (h.1 l' hl').1]; exact h6 l' hl' n⟩
theorem RB.none {p w K : Nat} {R : Nat → Vc} : RB p w K (fun v => ∀ i, i < w → (p : Int) ∣ v i) (fun _ => False) R := ⟨fun _ h => h.elim, fun _ h _ => h⟩
def V0 (p w : Nat) : Vc → Prop := fun v => ∀ i, i < w → (p : Int) ∣ v i
theorem V0_sub (p w : Nat) : Sub p w (V0 p w) := by
  refine ⟨fun _ _ => Int.dvd_zero _, fun x y hx hy i hi => Int.dvd_add (hx i hi) (hy i hi), fun c x hx i hi => Int.dvd_mul_of_dvd_right (hx i hi), fun x y e hx i hi => ?_⟩
  have h := Int.dvd_sub (hx i hi) (e i hi)
  rw [show x i - (x i - y i) = y i by omega] at h
  exact h
theorem V0_least {p w : Nat} {V : Vc → Prop} (hV : Sub p w V) {v : Vc} (h : V0 p w v) : V v := hV.zero h
theorem dvd_small {p : Nat} {a b : Int} (h : (p : Int) ∣ a - b) (ha : 0 ≤ a ∧ a < p) (hb : 0 ≤ b ∧ b < p) : a = b := by
  obtain ⟨k, hk⟩ := h
  rcases Int.lt_trichotomy k 0 with q | q | q
  · have : (p : Int) * k ≤ p * (-1) := Int.mul_le_mul_of_nonneg_left (by omega) (by omega)
    omega
  · rw [q] at hk; omega
  · have : (p : Int) * 1 ≤ p * k := Int.mul_le_mul_of_nonneg_left (by omega) (by omega)
    omega
theorem not_dvd_one {p : Nat} (h : 1 < p) : ¬ (p : Int) ∣ 1 := fun q => by have := Int.le_of_dvd (by decide) q; omega
/-- less what leads in it: all but what stands ahead of a place that leads nowhere -/
theorem RB.red {p w K : Nat} {V : Vc → Prop} {hd : Nat → Prop} {R : Nat → Vc} (hV : Sub p w V) (h : RB p w K V hd R) {v : Vc} (hv : V v) {l0 : Nat} (hl0 : l0 < w) (hn : ¬ hd l0) (hz : ∀ i, i < w → ps K i < ps K l0 → (p : Int) ∣ v i) :
    ∀ k, ∃ v', V v' ∧ (∀ l, l < k → hd l → (p : Int) ∣ v' l) ∧ ∀ i, i < w → ps K i ≤ ps K l0 → (p : Int) ∣ v' i - v i := by
  intro k
  induction k with
  | zero => exact ⟨v, hv, fun l q => by omega, fun i _ _ => by rw [Int.sub_self]; exact Int.dvd_zero _⟩
  | succ k ih =>
    obtain ⟨u, hu, hu1, hu2⟩ := ih
    by_cases hk : hd k
    · obtain ⟨g1, g2, g3, g4, g5, g6⟩ := h.1 k hk
      refine ⟨fun i => u i - u k * R k i, hV.lc (u k) hu g2, fun l q hl => ?_, fun i hi q => ?_⟩
      · show (p : Int) ∣ u l - u k * R k l
        rcases Nat.lt_or_ge l k with z | z
        · rw [g6 l hl (by omega), Int.mul_zero, Int.sub_zero]; exact hu1 l z hl
        · rw [show l = k by omega, g3, Int.mul_one, Int.sub_self]; exact Int.dvd_zero _
      · show (p : Int) ∣ u i - u k * R k i - v i
        rcases Nat.lt_trichotomy (ps K k) (ps K l0) with z | z | z
        · have h1 := hu2 k g1 (by omega)
          have h2 : (p : Int) ∣ u k := by
            have := Int.dvd_add h1 (hz k g1 z)
            rwa [show u k - v k + v k = u k by omega] at this
          have h3 := Int.dvd_sub (hu2 i hi q) (Int.dvd_mul_of_dvd_left (c := R k i) h2)
          rwa [show u i - v i - u k * R k i = u i - u k * R k i - v i by omega] at h3
        · exact absurd (ps_inj z ▸ hk) hn
        · rw [g5 i hi (by omega), Int.mul_zero, Int.sub_zero]; exact hu2 i hi q
    · exact ⟨u, hu, fun l q hl => hu1 l (by rcases Nat.lt_or_ge l k with z | z; exact z; exact absurd (show l = k by omega) (fun e => hk (e ▸ hl))) hl, hu2⟩
/-- a place is a lead just if some row of the space begins there -/
theorem RB.lead {p w K : Nat} {V : Vc → Prop} {hd : Nat → Prop} {R : Nat → Vc} (hV : Sub p w V) (h : RB p w K V hd R) {v : Vc} (hv : V v) {l : Nat} (hl : l < w) (hnz : ¬ (p : Int) ∣ v l) (hz : ∀ i, i < w → ps K i < ps K l → (p : Int) ∣ v i) : hd l := by
  by_cases hd0 : hd l
  · exact hd0
  · obtain ⟨u, hu, hu1, hu2⟩ := h.red hV hv hl hd0 hz w
    have h1 := h.2 u hu (fun l' hl' => hu1 l' (h.1 l' hl').1 hl') l hl
    have h2 := Int.dvd_sub h1 (hu2 l hl (Nat.le_refl _))
    rw [show u l - (u l - v l) = v l by omega] at h2
    exact absurd h2 hnz
theorem RB.sameHd {p w K : Nat} {V : Vc → Prop} {hd hd' : Nat → Prop} {R R' : Nat → Vc} (hp : 1 < p) (hV : Sub p w V) (h : RB p w K V hd R) (h' : RB p w K V hd' R') (l : Nat) : hd l ↔ hd' l := by
  constructor
  · intro hl
    obtain ⟨g1, g2, g3, g4, g5, g6⟩ := h.1 l hl
    exact h'.lead hV g2 g1 (by rw [g3]; exact not_dvd_one hp) (fun i hi q => by rw [g5 i hi q]; exact Int.dvd_zero _)
  · intro hl
    obtain ⟨g1, g2, g3, g4, g5, g6⟩ := h'.1 l hl
    exact h.lead hV g2 g1 (by rw [g3]; exact not_dvd_one hp) (fun i hi q => by rw [g5 i hi q]; exact Int.dvd_zero _)
theorem RB.sameR {p w K : Nat} {V : Vc → Prop} {hd hd' : Nat → Prop} {R R' : Nat → Vc} (hp : 1 < p) (hV : Sub p w V) (h : RB p w K V hd R) (h' : RB p w K V hd' R') {l i : Nat} (hl : hd l) (hi : i < w) : R l i = R' l i := by
  have hl' := (h.sameHd hp hV h' l).mp hl
  obtain ⟨g1, g2, g3, g4, g5, g6⟩ := h.1 l hl
  obtain ⟨k1, k2, k3, k4, k5, k6⟩ := h'.1 l hl'
  refine dvd_small (h.2 (fun i => R l i - R' l i) (hV.sub g2 k2) (fun l2 hl2 => ?_) i hi) (g4 i hi) (k4 i hi)
  by_cases e : l2 = l
  · rw [e, g3, k3, Int.sub_self]; exact Int.dvd_zero _
  · rw [g6 l2 hl2 e, k6 l2 ((h.sameHd hp hV h' l2).mp hl2) e, Int.sub_self]; exact Int.dvd_zero _
/-- r is the rest of x: alike by V, 0 at all leads -/
def Rest (p w : Nat) (V : Vc → Prop) (hd : Nat → Prop) (x r : Vc) : Prop := (∀ i, i < w → 0 ≤ r i ∧ r i < p) ∧ V (fun i => x i - r i) ∧ ∀ l, hd l → r l = 0
theorem Rest.same {p w K : Nat} {V : Vc → Prop} {hd : Nat → Prop} {R : Nat → Vc} {x r r' : Vc} (hV : Sub p w V) (h : RB p w K V hd R) (h1 : Rest p w V hd x r) (h2 : Rest p w V hd x r') {i : Nat} (hi : i < w) : r i = r' i := by
  refine dvd_small (h.2 (fun i => r i - r' i) ?_ (fun l hl => ?_) i hi) (h1.1 i hi) (h2.1 i hi)
  · exact hV.to (hV.sub h2.2.1 h1.2.1) (fun i _ => by omega)
  · rw [h1.2.2 l hl, h2.2.2 l hl, Int.sub_self]; exact Int.dvd_zero _
theorem Rest.zero {p w K : Nat} {V : Vc → Prop} {hd : Nat → Prop} {R : Nat → Vc} {x r : Vc} (hV : Sub p w V) (h : RB p w K V hd R) (h1 : Rest p w V hd x r) : V x ↔ ∀ i, i < w → r i = 0 := by
  constructor
  · intro hx i hi
    have hr : V r := hV.to (hV.sub hx h1.2.1) (fun i _ => by omega)
    have := h.2 r hr (fun l hl => by rw [h1.2.2 l hl]; exact Int.dvd_zero _) i hi
    refine dvd_small (p := p) (by rw [Int.sub_zero]; exact this) (h1.1 i hi) ⟨by omega, by have := h1.1 i hi; omega⟩
  · intro hz
    exact hV.to h1.2.1 (fun i hi => by rw [hz i hi, Int.sub_zero])
/-- p divides no product of what it doesn't divide -/
def isPI (p : Nat) : Prop := 1 < p ∧ ∀ a b : Int, (p : Int) ∣ a * b → (p : Int) ∣ a ∨ (p : Int) ∣ b
theorem RB.add {p w K : Nat} {V : Vc → Prop} {hd : Nat → Prop} {R R' : Nat → Vc} {x r : Vc} {l0 : Nat} {c : Int} (hp : isPI p) (hV : Sub p w V) (h : RB p w K V hd R) (hr : Rest p w V hd x r) (hl0 : l0 < w) (hnz : ¬ (p : Int) ∣ r l0) (hfirst : ∀ i, i < w → ps K i < ps K l0 → r i = 0)
    (hnew : ∀ i, i < w → 0 ≤ R' l0 i ∧ R' l0 i < p ∧ (p : Int) ∣ R' l0 i - c * r i) (hone : R' l0 l0 = 1)
    (hold : ∀ l, hd l → ∀ i, i < w → 0 ≤ R' l i ∧ R' l i < p ∧ (p : Int) ∣ R' l i - (R l i - R l l0 * R' l0 i)) :
    RB p w K (addV V x) (fun l => hd l ∨ l = l0) R' := by
  have hA := addV_sub hV x
  have hrA : addV V x r := (addV_rest hV hr.2.1 r).mpr (addV_new hV r)
  have small : ∀ {a b : Int}, (p : Int) ∣ a - b → 0 ≤ a → a < p → 0 ≤ b → b < p → a = b := fun h a1 a2 b1 b2 => dvd_small h ⟨a1, a2⟩ ⟨b1, b2⟩
  have hp0 : (0 : Int) < p := by have := hp.1; omega
  have z0 : ∀ i, i < w → r i = 0 → R' l0 i = 0 := fun i hi q => by
    obtain ⟨a1, a2, a3⟩ := hnew i hi
    rw [q, Int.mul_zero] at a3
    exact small a3 a1 a2 (by omega) hp0
  have hnl : ¬ hd l0 := fun q => hnz (by rw [hr.2.2 l0 q]; exact Int.dvd_zero _)
  have new0 : ∀ l, hd l → R' l0 l = 0 := fun l hl => z0 l (h.1 l hl).1 (hr.2.2 l hl)
  have hnewV : addV V x (R' l0) := hA.2.2.2 _ _ (fun i hi => by have := (hnew i hi).2.2; have h2 := Int.dvd_neg.mpr this; rwa [show -(R' l0 i - c * r i) = c * r i - R' l0 i by omega] at h2) (hA.2.2.1 c r hrA)
  refine ⟨fun l hl => ?_, fun v hv hz i hi => ?_⟩
  · by_cases e : l = l0
    · subst e
      refine ⟨hl0, hnewV, hone, fun i hi => ⟨(hnew i hi).1, (hnew i hi).2.1⟩, fun i hi q => z0 i hi (hfirst i hi q), fun l' hl' n => ?_⟩
      rcases hl' with q | q
      · exact new0 l' q
      · exact absurd q n
    · have hl : hd l := hl.resolve_right e
      obtain ⟨g1, g2, g3, g4, g5, g6⟩ := h.1 l hl
      have val : ∀ i, i < w → ∀ b : Int, (p : Int) ∣ (R l i - R l l0 * R' l0 i) - b → 0 ≤ b → b < p → R' l i = b := fun i hi b hb b1 b2 => by
        obtain ⟨a1, a2, a3⟩ := hold l hl i hi
        refine small ?_ a1 a2 b1 b2
        have := Int.dvd_add a3 hb
        rwa [show R' l i - (R l i - R l l0 * R' l0 i) + (R l i - R l l0 * R' l0 i - b) = R' l i - b by omega] at this
      refine ⟨g1, ?_, ?_, fun i hi => ⟨(hold l hl i hi).1, (hold l hl i hi).2.1⟩, fun i hi q => ?_, fun l' hl' n => ?_⟩
      · refine hA.2.2.2 _ _ (fun i hi => ?_) (hA.lc (R l l0) (addV_old hV x g2) hnewV)
        have := Int.dvd_neg.mpr (hold l hl i hi).2.2
        rwa [show -(R' l i - (R l i - R l l0 * R' l0 i)) = R l i - R l l0 * R' l0 i - R' l i by omega] at this
      · refine val l g1 1 ?_ (by omega) (by have := hp.1; omega)
        rw [g3, new0 l hl, Int.mul_zero]; exact ⟨0, by omega⟩
      · refine val i hi 0 ?_ (by omega) hp0
        rw [g5 i hi q]
        by_cases q2 : ps K l0 < ps K l
        · rw [g5 l0 hl0 q2, Int.zero_mul]; exact ⟨0, by omega⟩
        · rw [z0 i hi (hfirst i hi (by omega)), Int.mul_zero]; exact ⟨0, by omega⟩
      · rcases hl' with q | q
        · refine val l' (h.1 l' q).1 0 ?_ (by omega) hp0
          rw [g6 l' q n, new0 l' q, Int.mul_zero]; exact ⟨0, by omega⟩
        · rw [q]
          refine val l0 hl0 0 ?_ (by omega) hp0
          rw [hone, Int.mul_one]; exact ⟨0, by omega⟩
  · obtain ⟨d, hd1⟩ := (addV_rest hV hr.2.1 v).mp hv
    have hu := h.2 (fun i => v i - d * r i) hd1 (fun l hl => by
      rw [hr.2.2 l hl, Int.mul_zero, Int.sub_zero]; exact hz l (Or.inl hl))
    have h1 := hz l0 (Or.inr rfl)
    have h2 := Int.dvd_sub h1 (hu l0 hl0)
    rw [show v l0 - (v l0 - d * r l0) = d * r l0 by omega] at h2
    have h3 := (hp.2 _ _ h2).resolve_right hnz
    have h4 := Int.dvd_add (hu i hi) (Int.dvd_mul_of_dvd_left (c := r i) h3)
    rwa [show v i - d * r i + d * r i = v i by omega] at h4
