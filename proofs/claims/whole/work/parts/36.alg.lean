/-! the algebra: places times rows; an index holds the blocks of several elements -/
def pl (a : Nat) (v : Vc) : Vc := fun c => if a &&& c = a then sg a (c ^^^ a) * v (c ^^^ a) else 0
def pr (a : Nat) (v : Vc) : Vc := fun c => if a &&& c = a then sg (c ^^^ a) a * v (c ^^^ a) else 0
/-- linear, and telling the first w places from the first w alone, modulo p -/
def Lin (p w w' : Nat) (f : Vc → Vc) : Prop := (∀ x y i, f (fun j => x j + y j) i = f x i + f y i) ∧ (∀ (c : Int) x i, f (fun j => c * x j) i = c * f x i) ∧ ∀ x y, eqm p w x y → eqm p w' (f x) (f y)
theorem sub_le : ∀ a, a < 16 → ∀ c, c < 256 → a &&& c = a → c ^^^ a ≤ c := by decide +kernel
theorem pl_Lin (p : Nat) {w a : Nat} (ha : a < 16) (hw : w ≤ 256) : Lin p w w (pl a) := by
  refine ⟨fun x y i => ?_, fun c x i => ?_, fun x y h i hi => ?_⟩
  · unfold pl; split
    · rw [Int.mul_add]
    · rfl
  · unfold pl; split
    · rw [← Int.mul_assoc, Int.mul_comm _ c, Int.mul_assoc]
    · simp
  · unfold pl; split
    · rename_i q
      have := h (i ^^^ a) (by have := sub_le a ha i (by omega) q; omega)
      rw [← Int.mul_sub]
      exact Int.dvd_mul_of_dvd_right this
    · simp
theorem pr_Lin (p : Nat) {w a : Nat} (ha : a < 16) (hw : w ≤ 256) : Lin p w w (pr a) := by
  refine ⟨fun x y i => ?_, fun c x i => ?_, fun x y h i hi => ?_⟩
  · unfold pr; split
    · rw [Int.mul_add]
    · rfl
  · unfold pr; split
    · rw [← Int.mul_assoc, Int.mul_comm _ c, Int.mul_assoc]
    · simp
  · unfold pr; split
    · rename_i q
      have := h (i ^^^ a) (by have := sub_le a ha i (by omega) q; omega)
      rw [← Int.mul_sub]
      exact Int.dvd_mul_of_dvd_right this
    · simp
/-- what a linear one takes into a space is a space -/
theorem Sub.pre {p w w' : Nat} {f : Vc → Vc} {U : Vc → Prop} (hf : Lin p w w' f) (hU : Sub p w' U) : Sub p w (fun x => U (f x)) := by
  refine ⟨?_, fun x y hx hy => ?_, fun c x hx => ?_, fun x y e hx => hU.2.2.2 _ _ (hf.2.2 x y e) hx⟩
  · have := hf.2.1 0 (fun _ => 0)
    refine hU.to hU.1 (fun i _ => ?_)
    have h := this i
    simp only [Int.zero_mul] at h
    exact h.symm
  · exact hU.to (hU.2.1 _ _ hx hy) (fun i _ => (hf.1 x y i).symm)
  · exact hU.to (hU.2.2.1 c _ hx) (fun i _ => (hf.2.1 c x i).symm)
theorem Sub.and {p w : Nat} {U V : Vc → Prop} (hU : Sub p w U) (hV : Sub p w V) : Sub p w (fun x => U x ∧ V x) :=
  ⟨⟨hU.1, hV.1⟩, fun x y hx hy => ⟨hU.2.1 x y hx.1 hy.1, hV.2.1 x y hx.2 hy.2⟩, fun c x hx => ⟨hU.2.2.1 c x hx.1, hV.2.2.1 c x hx.2⟩, fun x y e hx => ⟨hU.2.2.2 x y e hx.1, hV.2.2.2 x y e hx.2⟩⟩
/-- all sums of multiples of the rows in F -/
def SpF (p w : Nat) (F : Vc → Prop) : Vc → Prop := fun v => ∀ U : Vc → Prop, Sub p w U → (∀ x, F x → U x) → U v
theorem SpF_sub (p w : Nat) (F : Vc → Prop) : Sub p w (SpF p w F) :=
  ⟨fun _ hU _ => hU.1, fun _ _ hx hy U hU h => hU.2.1 _ _ (hx U hU h) (hy U hU h), fun c _ hx U hU h => hU.2.2.1 c _ (hx U hU h), fun _ _ e hx U hU h => hU.2.2.2 _ _ e (hx U hU h)⟩
theorem SpF_gen {p w : Nat} {F : Vc → Prop} {x : Vc} (h : F x) : SpF p w F x := fun _ _ g => g x h
theorem SpF_lin {p w w' : Nat} {F U : Vc → Prop} {f : Vc → Vc} (hf : Lin p w w' f) (hU : Sub p w' U) (h : ∀ x, F x → U (f x)) {v : Vc} (hv : SpF p w F v) : U (f v) := hv _ (Sub.pre hf hU) h
theorem SpF_cong {p w : Nat} {F G : Vc → Prop} (h : ∀ x, F x ↔ G x) (v : Vc) : SpF p w F v ↔ SpF p w G v := by rw [show F = G from funext fun x => propext (h x)]
/-- adding a row to a span -/
theorem SpF_add {p w : Nat} {F : Vc → Prop} {V : Vc → Prop} (hV : ∀ v, V v → SpF p w F v) {x : Vc} (hx : SpF p w F x) (v : Vc) (h : addV V x v) : SpF p w F v := addV_least (SpF_sub p w F) hV hx h
/-- closed under the letters, on the left (unless s is 1), on the right (unless s is 0) -/
def clo (n s : Nat) (U : Vc → Prop) : Prop := ∀ l, l < n → ∀ x, U x → (s ≠ 1 → U (pl (2 ^ l) x)) ∧ (s ≠ 0 → U (pr (2 ^ l) x))
/-- THE IDEAL of a side -/
def IdV (p n s gc : Nat) (G : Nat → Vc) : Vc → Prop := fun v => ∀ U : Vc → Prop, Sub p (2 ^ n) U → clo n s U → (∀ i, i < gc → U (G i)) → U v
theorem IdV_sub (p n s gc : Nat) (G : Nat → Vc) : Sub p (2 ^ n) (IdV p n s gc G) :=
  ⟨fun _ hU _ _ => hU.1, fun _ _ hx hy U hU a h => hU.2.1 _ _ (hx U hU a h) (hy U hU a h), fun c _ hx U hU a h => hU.2.2.1 c _ (hx U hU a h), fun _ _ e hx U hU a h => hU.2.2.2 _ _ e (hx U hU a h)⟩
theorem IdV_clo (p n s gc : Nat) (G : Nat → Vc) : clo n s (IdV p n s gc G) := fun l hl x hx => ⟨fun h U hU a g => (a l hl x (hx U hU a g)).1 h, fun h U hU a g => (a l hl x (hx U hU a g)).2 h⟩
theorem IdV_gen {p n s gc : Nat} {G : Nat → Vc} {i : Nat} (h : i < gc) : IdV p n s gc G (G i) := fun _ _ _ g => g i h
theorem pow_n {n : Nat} (h : n ≤ 4) : 2 ^ n ≤ 16 ∧ 0 < 2 ^ n := by
  have : ∀ n, n < 5 → 2 ^ n ≤ 16 ∧ 0 < 2 ^ n := by decide
  exact this n (by omega)
theorem pow_l {l : Nat} (h : l < 4) : 2 ^ l < 16 ∧ 0 < 2 ^ l := by
  have : ∀ n, n < 4 → 2 ^ n < 16 ∧ 0 < 2 ^ n := by decide
  exact this l h
theorem IdV_cong {p n s gc : Nat} {G G' : Nat → Vc} (h : ∀ i, i < gc → ∀ j, j < 2 ^ n → G i j = G' i j) (v : Vc) : IdV p n s gc G v ↔ IdV p n s gc G' v := by
  constructor
  · intro hv U hU a g
    exact hv U hU a (fun i hi => hU.to (g i hi) (fun j hj => (h i hi j hj).symm))
  · intro hv U hU a g
    exact hv U hU a (fun i hi => hU.to (g i hi) (fun j hj => h i hi j hj))
/-! products of places -/
theorem sg_0 : ∀ c, c < 256 → sg 0 c = 1 ∧ (c < 16 → sg c 0 = 1) := by decide +kernel
theorem pl_0 {v : Vc} {c : Nat} (hc : c < 256) : pl 0 v c = v c := by
  unfold pl
  rw [if_pos (Nat.zero_and c), Nat.xor_zero, (sg_0 c hc).1, Int.one_mul]
theorem pr_0 {v : Vc} {c : Nat} (hc : c < 16) : pr 0 v c = v c := by
  unfold pr
  rw [if_pos (Nat.zero_and c), Nat.xor_zero, (sg_0 c (by omega)).2 hc, Int.one_mul]
theorem ll_N1 : ∀ l, l < 4 → ∀ a, a < 16 → ∀ c, c < 256 → 2 ^ l &&& a = 0 → ((2 ^ l &&& c = 2 ^ l ∧ a &&& (c ^^^ 2 ^ l) = a) ↔ (a ||| 2 ^ l) &&& c = a ||| 2 ^ l) := by decide +kernel
theorem ll_N2 : ∀ l, l < 4 → ∀ a, a < 16 → ∀ c, c < 256 → 2 ^ l &&& a = 0 → (a ||| 2 ^ l) &&& c = a ||| 2 ^ l → (c ^^^ 2 ^ l) ^^^ a = c ^^^ (a ||| 2 ^ l) := by decide +kernel
theorem ll_N3 : ∀ l, l < 4 → ∀ a, a < 16 → ∀ c, c < 256 → 2 ^ l &&& a = 0 → (a ||| 2 ^ l) &&& c = a ||| 2 ^ l → sg (2 ^ l) (c ^^^ 2 ^ l) * sg a ((c ^^^ 2 ^ l) ^^^ a) = sg (2 ^ l) a * sg (a ||| 2 ^ l) (c ^^^ (a ||| 2 ^ l)) := by decide +kernel
theorem ll_N (l : Nat) (hl : l < 4) (a : Nat) (ha : a < 16) (c : Nat) (hc : c < 256) (h0 : 2 ^ l &&& a = 0) : ((2 ^ l &&& c = 2 ^ l ∧ a &&& (c ^^^ 2 ^ l) = a) ↔ (a ||| 2 ^ l) &&& c = a ||| 2 ^ l) ∧ ((a ||| 2 ^ l) &&& c = a ||| 2 ^ l → (c ^^^ 2 ^ l) ^^^ a = c ^^^ (a ||| 2 ^ l) ∧ sg (2 ^ l) (c ^^^ 2 ^ l) * sg a ((c ^^^ 2 ^ l) ^^^ a) = sg (2 ^ l) a * sg (a ||| 2 ^ l) (c ^^^ (a ||| 2 ^ l))) :=
  ⟨ll_N1 l hl a ha c hc h0, fun h => ⟨ll_N2 l hl a ha c hc h0 h, ll_N3 l hl a ha c hc h0 h⟩⟩
theorem ll_Z : ∀ l, l < 4 → ∀ a, a < 16 → ∀ c, c < 256 → ¬ 2 ^ l &&& a = 0 → ¬ (2 ^ l &&& c = 2 ^ l ∧ a &&& (c ^^^ 2 ^ l) = a) := by decide +kernel
theorem pl_pl {l a c : Nat} (hl : l < 4) (ha : a < 16) (hc : c < 256) (v : Vc) : pl (2 ^ l) (pl a v) c = if 2 ^ l &&& a = 0 then sg (2 ^ l) a * pl (a ||| 2 ^ l) v c else 0 := by
  by_cases h0 : 2 ^ l &&& a = 0
  · obtain ⟨h1, h2⟩ := ll_N l hl a ha c hc h0
    rw [if_pos h0]
    unfold pl
    by_cases hh : (a ||| 2 ^ l) &&& c = a ||| 2 ^ l
    · obtain ⟨q1, q2⟩ := h1.mpr hh
      obtain ⟨e1, e2⟩ := h2 hh
      rw [if_pos q1, if_pos q2, if_pos hh, e1, ← Int.mul_assoc, ← Int.mul_assoc, ← e1, e2, e1]
    · rw [if_neg hh, Int.mul_zero]
      by_cases q1 : 2 ^ l &&& c = 2 ^ l
      · rw [if_pos q1, if_neg (fun q2 => hh (h1.mp ⟨q1, q2⟩)), Int.mul_zero]
      · rw [if_neg q1]
  · have h1 := ll_Z l hl a ha c hc h0
    rw [if_neg h0]
    unfold pl
    by_cases q1 : 2 ^ l &&& c = 2 ^ l
    · rw [if_pos q1, if_neg (fun q2 => h1 ⟨q1, q2⟩), Int.mul_zero]
    · rw [if_neg q1]
theorem rr_N3 : ∀ l, l < 4 → ∀ a, a < 16 → ∀ c, c < 16 → 2 ^ l &&& a = 0 → (a ||| 2 ^ l) &&& c = a ||| 2 ^ l → sg (c ^^^ 2 ^ l) (2 ^ l) * sg ((c ^^^ 2 ^ l) ^^^ a) a = sg a (2 ^ l) * sg (c ^^^ (a ||| 2 ^ l)) (a ||| 2 ^ l) := by decide +kernel
theorem rr_N (l : Nat) (hl : l < 4) (a : Nat) (ha : a < 16) (c : Nat) (hc : c < 16) (h0 : 2 ^ l &&& a = 0) : ((2 ^ l &&& c = 2 ^ l ∧ a &&& (c ^^^ 2 ^ l) = a) ↔ (a ||| 2 ^ l) &&& c = a ||| 2 ^ l) ∧ ((a ||| 2 ^ l) &&& c = a ||| 2 ^ l → (c ^^^ 2 ^ l) ^^^ a = c ^^^ (a ||| 2 ^ l) ∧ sg (c ^^^ 2 ^ l) (2 ^ l) * sg ((c ^^^ 2 ^ l) ^^^ a) a = sg a (2 ^ l) * sg (c ^^^ (a ||| 2 ^ l)) (a ||| 2 ^ l)) :=
  ⟨ll_N1 l hl a ha c (by omega) h0, fun h => ⟨ll_N2 l hl a ha c (by omega) h0 h, rr_N3 l hl a ha c hc h0 h⟩⟩
theorem pr_pr {l a c : Nat} (hl : l < 4) (ha : a < 16) (hc : c < 16) (v : Vc) : pr (2 ^ l) (pr a v) c = if 2 ^ l &&& a = 0 then sg a (2 ^ l) * pr (a ||| 2 ^ l) v c else 0 := by
  by_cases h0 : 2 ^ l &&& a = 0
  · obtain ⟨h1, h2⟩ := rr_N l hl a ha c hc h0
    rw [if_pos h0]
    unfold pr
    by_cases hh : (a ||| 2 ^ l) &&& c = a ||| 2 ^ l
    · obtain ⟨q1, q2⟩ := h1.mpr hh
      obtain ⟨e1, e2⟩ := h2 hh
      rw [if_pos q1, if_pos q2, if_pos hh, e1, ← Int.mul_assoc, ← Int.mul_assoc, ← e1, e2, e1]
    · rw [if_neg hh, Int.mul_zero]
      by_cases q1 : 2 ^ l &&& c = 2 ^ l
      · rw [if_pos q1, if_neg (fun q2 => hh (h1.mp ⟨q1, q2⟩)), Int.mul_zero]
      · rw [if_neg q1]
  · have h1 := ll_Z l hl a ha c (by omega) h0
    rw [if_neg h0]
    unfold pr
    by_cases q1 : 2 ^ l &&& c = 2 ^ l
    · rw [if_pos q1, if_neg (fun q2 => h1 ⟨q1, q2⟩), Int.mul_zero]
    · rw [if_neg q1]
theorem lr_N1 : ∀ l, l < 4 → ∀ a, a < 16 → ∀ c, c < 16 → ((2 ^ l &&& c = 2 ^ l ∧ a &&& (c ^^^ 2 ^ l) = a) ↔ (a &&& c = a ∧ 2 ^ l &&& (c ^^^ a) = 2 ^ l)) := by decide +kernel
theorem lr_N2 : ∀ l, l < 4 → ∀ a, a < 16 → ∀ c, c < 16 → 2 ^ l &&& c = 2 ^ l → a &&& (c ^^^ 2 ^ l) = a → (c ^^^ 2 ^ l) ^^^ a = (c ^^^ a) ^^^ 2 ^ l := by decide +kernel
theorem lr_N3 : ∀ l, l < 4 → ∀ a, a < 16 → ∀ c, c < 16 → 2 ^ l &&& c = 2 ^ l → a &&& (c ^^^ 2 ^ l) = a → sg (2 ^ l) (c ^^^ 2 ^ l) * sg ((c ^^^ 2 ^ l) ^^^ a) a = sg (c ^^^ a) a * sg (2 ^ l) ((c ^^^ a) ^^^ 2 ^ l) := by decide +kernel
theorem lr_N4 : ∀ l, l < 4 → ∀ a, a < 16 → ∀ c, c < 16 → 2 ^ l &&& c = 2 ^ l → a &&& (c ^^^ 2 ^ l) = a → sg (c ^^^ 2 ^ l) (2 ^ l) * sg a ((c ^^^ 2 ^ l) ^^^ a) = sg a (c ^^^ a) * sg ((c ^^^ a) ^^^ 2 ^ l) (2 ^ l) := by decide +kernel
theorem lr_N (l : Nat) (hl : l < 4) (a : Nat) (ha : a < 16) (c : Nat) (hc : c < 16) : ((2 ^ l &&& c = 2 ^ l ∧ a &&& (c ^^^ 2 ^ l) = a) ↔ (a &&& c = a ∧ 2 ^ l &&& (c ^^^ a) = 2 ^ l)) ∧ ((2 ^ l &&& c = 2 ^ l ∧ a &&& (c ^^^ 2 ^ l) = a) → (c ^^^ 2 ^ l) ^^^ a = (c ^^^ a) ^^^ 2 ^ l ∧ sg (2 ^ l) (c ^^^ 2 ^ l) * sg ((c ^^^ 2 ^ l) ^^^ a) a = sg (c ^^^ a) a * sg (2 ^ l) ((c ^^^ a) ^^^ 2 ^ l)) ∧ ((2 ^ l &&& c = 2 ^ l ∧ a &&& (c ^^^ 2 ^ l) = a) → sg (c ^^^ 2 ^ l) (2 ^ l) * sg a ((c ^^^ 2 ^ l) ^^^ a) = sg a (c ^^^ a) * sg ((c ^^^ a) ^^^ 2 ^ l) (2 ^ l)) :=
  ⟨lr_N1 l hl a ha c hc, fun h => ⟨lr_N2 l hl a ha c hc h.1 h.2, lr_N3 l hl a ha c hc h.1 h.2⟩, fun h => lr_N4 l hl a ha c hc h.1 h.2⟩
/-- left and right do not hinder each other -/
theorem pl_pr {l a c : Nat} (hl : l < 4) (ha : a < 16) (hc : c < 16) (v : Vc) : pl (2 ^ l) (pr a v) c = pr a (pl (2 ^ l) v) c := by
  obtain ⟨h1, h2, -⟩ := lr_N l hl a ha c hc
  simp only [pl, pr]
  by_cases hh : 2 ^ l &&& c = 2 ^ l ∧ a &&& (c ^^^ 2 ^ l) = a
  · obtain ⟨q3, q4⟩ := h1.mp hh
    obtain ⟨e1, e2⟩ := h2 hh
    rw [if_pos hh.1, if_pos hh.2, if_pos q3, if_pos q4, ← Int.mul_assoc, e2, e1, Int.mul_assoc]
  · have L : (if 2 ^ l &&& c = 2 ^ l then sg (2 ^ l) (c ^^^ 2 ^ l) * (if a &&& (c ^^^ 2 ^ l) = a then sg (c ^^^ 2 ^ l ^^^ a) a * v (c ^^^ 2 ^ l ^^^ a) else 0) else 0) = 0 := by
      by_cases q1 : 2 ^ l &&& c = 2 ^ l
      · rw [if_pos q1, if_neg (fun q2 => hh ⟨q1, q2⟩), Int.mul_zero]
      · rw [if_neg q1]
    have R : (if a &&& c = a then sg (c ^^^ a) a * (if 2 ^ l &&& (c ^^^ a) = 2 ^ l then sg (2 ^ l) (c ^^^ a ^^^ 2 ^ l) * v (c ^^^ a ^^^ 2 ^ l) else 0) else 0) = 0 := by
      by_cases q1 : a &&& c = a
      · rw [if_pos q1, if_neg (fun q2 => hh (h1.mpr ⟨q1, q2⟩)), Int.mul_zero]
      · rw [if_neg q1]
    rw [L, R]
theorem pr_pl {l a c : Nat} (hl : l < 4) (ha : a < 16) (hc : c < 16) (v : Vc) : pr (2 ^ l) (pl a v) c = pl a (pr (2 ^ l) v) c := by
  obtain ⟨h1, h2, h3⟩ := lr_N l hl a ha c hc
  simp only [pl, pr]
  by_cases hh : 2 ^ l &&& c = 2 ^ l ∧ a &&& (c ^^^ 2 ^ l) = a
  · obtain ⟨q3, q4⟩ := h1.mp hh
    obtain ⟨e1, -⟩ := h2 hh
    rw [if_pos hh.1, if_pos hh.2, if_pos q3, if_pos q4, ← Int.mul_assoc, h3 hh, e1, Int.mul_assoc]
  · have L : (if 2 ^ l &&& c = 2 ^ l then sg (c ^^^ 2 ^ l) (2 ^ l) * (if a &&& (c ^^^ 2 ^ l) = a then sg a (c ^^^ 2 ^ l ^^^ a) * v (c ^^^ 2 ^ l ^^^ a) else 0) else 0) = 0 := by
      by_cases q1 : 2 ^ l &&& c = 2 ^ l
      · rw [if_pos q1, if_neg (fun q2 => hh ⟨q1, q2⟩), Int.mul_zero]
      · rw [if_neg q1]
    have R : (if a &&& c = a then sg a (c ^^^ a) * (if 2 ^ l &&& (c ^^^ a) = 2 ^ l then sg (c ^^^ a ^^^ 2 ^ l) (2 ^ l) * v (c ^^^ a ^^^ 2 ^ l) else 0) else 0) = 0 := by
      by_cases q1 : a &&& c = a
      · rw [if_pos q1, if_neg (fun q2 => hh (h1.mpr ⟨q1, q2⟩)), Int.mul_zero]
      · rw [if_neg q1]
    rw [L, R]
/-- the least letter of a place -/
def hl (a : Nat) : Nat := if a % 2 = 1 then 0 else if a / 2 % 2 = 1 then 1 else if a / 4 % 2 = 1 then 2 else 3
theorem hl_N : ∀ a, a < 16 → 0 < a → hl a < 4 ∧ 2 ^ hl a ≤ a ∧ a ^^^ 2 ^ hl a < a ∧ 2 ^ hl a &&& (a ^^^ 2 ^ hl a) = 0 ∧ (a ^^^ 2 ^ hl a) ||| 2 ^ hl a = a ∧ (sg (2 ^ hl a) (a ^^^ 2 ^ hl a) = 1 ∨ sg (2 ^ hl a) (a ^^^ 2 ^ hl a) = -1) ∧ (sg (a ^^^ 2 ^ hl a) (2 ^ hl a) = 1 ∨ sg (a ^^^ 2 ^ hl a) (2 ^ hl a) = -1) := by decide +kernel
theorem hl_lt {a n : Nat} (ha : 0 < a) (hn : n ≤ 4) (h : a < 2 ^ n) : hl a < n := by
  have h16 := (pow_n hn).1
  obtain ⟨-, h2, -⟩ := hl_N a (by omega) ha
  exact (Nat.pow_lt_pow_iff_right (a := 2) (by omega)).mp (by omega)
/-- what is closed under the letters is closed under the places: left, of several blocks -/
theorem pl_clo {p n w : Nat} {U : Vc → Prop} (hn : n ≤ 4) (hw : w ≤ 256) (hU : Sub p w U) (hc : ∀ l, l < n → ∀ x, U x → U (pl (2 ^ l) x)) {x : Vc} (hx : U x) : ∀ a, a < 2 ^ n → U (pl a x) := by
  intro a
  induction a using Nat.strongRecOn with
  | ind a ih =>
    intro ha
    rcases Nat.eq_zero_or_pos a with h0 | h0
    · subst h0; exact hU.to hx (fun i hi => (pl_0 (by omega)).symm)
    · have h16 := (pow_n hn).1
      obtain ⟨a1, a2, a3, a4, a5, a6, -⟩ := hl_N a (by omega) h0
      have h1 := hc (hl a) (hl_lt h0 hn ha) _ (ih _ a3 (by omega))
      refine hU.to (hU.2.2.1 (sg (2 ^ hl a) (a ^^^ 2 ^ hl a)) _ h1) (fun i hi => ?_)
      rw [pl_pl a1 (by omega) (by omega), if_pos a4, a5]
      rcases a6 with e | e <;> rw [e] <;> simp
theorem pr_clo {p n : Nat} {U : Vc → Prop} (hn : n ≤ 4) (hU : Sub p (2 ^ n) U) (hc : ∀ l, l < n → ∀ x, U x → U (pr (2 ^ l) x)) {x : Vc} (hx : U x) : ∀ a, a < 2 ^ n → U (pr a x) := by
  intro a
  have h16 := (pow_n hn).1
  induction a using Nat.strongRecOn with
  | ind a ih =>
    intro ha
    rcases Nat.eq_zero_or_pos a with h0 | h0
    · subst h0; exact hU.to hx (fun i hi => (pr_0 (by omega)).symm)
    · obtain ⟨a1, a2, a3, a4, a5, -, a6⟩ := hl_N a (by omega) h0
      have h1 := hc (hl a) (hl_lt h0 hn ha) _ (ih _ a3 (by omega))
      refine hU.to (hU.2.2.1 (sg (a ^^^ 2 ^ hl a) (2 ^ hl a)) _ h1) (fun i hi => ?_)
      rw [pr_pr a1 (by omega) (by omega), if_pos a4, a5]
      rcases a6 with e | e <;> rw [e] <;> simp
/-- the products that the other reckoning takes -/
def GnF (n s gc : Nat) (G : Nat → Vc) : Vc → Prop := fun x => ∃ i, i < gc ∧ ∃ a, a < 2 ^ n ∧ ((s = 0 ∧ x = pl a (G i)) ∨ (s = 1 ∧ x = pr a (G i)) ∨ (s = 2 ∧ ∃ b, b < 2 ^ n ∧ x = pl b (pr a (G i))))
theorem or_lt {a l n : Nat} (hl : l < n) (ha : a < 2 ^ n) : a ||| 2 ^ l < 2 ^ n := Nat.or_lt_two_pow ha (Nat.pow_lt_pow_right (by omega) hl)
theorem Sub.sgn {p w : Nat} {U : Vc → Prop} (hU : Sub p w U) {x y : Vc} {c : Int} (h : U x) (e : ∀ i, i < w → y i = c * x i) : U y := hU.to (hU.2.2.1 c x h) (fun i hi => (e i hi).symm)
theorem GnF_clo {p n s gc : Nat} {G : Nat → Vc} (hn : n ≤ 4) (hs : s < 3) : clo n s (SpF p (2 ^ n) (GnF n s gc G)) := by
  have h16 := (pow_n hn).1
  have hB := SpF_sub p (2 ^ n) (GnF n s gc G)
  intro l hl x hx
  have hl4 := pow_l (l := l) (by omega)
  refine ⟨fun h1 => SpF_lin (f := pl (2 ^ l)) (pl_Lin p hl4.1 (by omega)) hB (fun y hy => ?_) hx, fun h1 => SpF_lin (f := pr (2 ^ l)) (pr_Lin p hl4.1 (by omega)) hB (fun y hy => ?_) hx⟩
  · obtain ⟨i, hi, a, ha, ⟨e, rfl⟩ | ⟨e, rfl⟩ | ⟨e, b, hb, rfl⟩⟩ := hy
    · by_cases q : 2 ^ l &&& a = 0
      · refine hB.sgn (c := sg (2 ^ l) a) (SpF_gen ⟨i, hi, a ||| 2 ^ l, or_lt hl ha, Or.inl ⟨e, rfl⟩⟩) (fun j hj => ?_)
        rw [pl_pl (by omega) (by omega) (by omega), if_pos q]
      · exact hB.to hB.1 (fun j hj => by rw [pl_pl (by omega) (by omega) (by omega), if_neg q])
    · exact absurd e h1
    · by_cases q : 2 ^ l &&& b = 0
      · refine hB.sgn (c := sg (2 ^ l) b) (SpF_gen ⟨i, hi, a, ha, Or.inr (Or.inr ⟨e, b ||| 2 ^ l, or_lt hl hb, rfl⟩)⟩) (fun j hj => ?_)
        rw [pl_pl (by omega) (by omega) (by omega), if_pos q]
      · exact hB.to hB.1 (fun j hj => by rw [pl_pl (by omega) (by omega) (by omega), if_neg q])
  · obtain ⟨i, hi, a, ha, ⟨e, rfl⟩ | ⟨e, rfl⟩ | ⟨e, b, hb, rfl⟩⟩ := hy
    · exact absurd e h1
    · by_cases q : 2 ^ l &&& a = 0
      · refine hB.sgn (c := sg a (2 ^ l)) (SpF_gen ⟨i, hi, a ||| 2 ^ l, or_lt hl ha, Or.inr (Or.inl ⟨e, rfl⟩)⟩) (fun j hj => ?_)
        rw [pr_pr (by omega) (by omega) (by omega), if_pos q]
      · exact hB.to hB.1 (fun j hj => by rw [pr_pr (by omega) (by omega) (by omega), if_neg q])
    · have key : eqm p (2 ^ n) (pl b (pr (2 ^ l) (pr a (G i)))) (pr (2 ^ l) (pl b (pr a (G i)))) := fun j hj => by rw [pr_pl (by omega) (by omega) (by omega), Int.sub_self]; exact Int.dvd_zero _
      refine hB.2.2.2 _ _ key ?_
      by_cases q : 2 ^ l &&& a = 0
      · refine hB.2.2.2 (pl b (fun j => sg a (2 ^ l) * pr (a ||| 2 ^ l) (G i) j)) _ ((pl_Lin p (show b < 16 by omega) (show 2 ^ n ≤ 256 by omega)).2.2 _ _ (fun j hj => by rw [pr_pr (by omega) (by omega) (by omega), if_pos q, Int.sub_self]; exact Int.dvd_zero _)) ?_
        exact hB.sgn (SpF_gen ⟨i, hi, a ||| 2 ^ l, or_lt hl ha, Or.inr (Or.inr ⟨e, b, hb, rfl⟩)⟩) (fun j _ => (pl_Lin p (show b < 16 by omega) (show 2 ^ n ≤ 256 by omega)).2.1 _ _ j)
      · refine hB.2.2.2 (pl b (fun j => 0 * pr a (G i) j)) _ ((pl_Lin p (show b < 16 by omega) (show 2 ^ n ≤ 256 by omega)).2.2 _ _ (fun j hj => by rw [pr_pr (by omega) (by omega) (by omega), if_neg q]; simp)) ?_
        exact hB.to hB.1 (fun j _ => by rw [(pl_Lin p (show b < 16 by omega) (show 2 ^ n ≤ 256 by omega)).2.1, Int.zero_mul])
/-- both reckonings tell the same ideal -/
theorem GnF_IdV {p n s gc : Nat} {G : Nat → Vc} (hn : n ≤ 4) (hs : s < 3) (v : Vc) : SpF p (2 ^ n) (GnF n s gc G) v ↔ IdV p n s gc G v := by
  have h16 := (pow_n hn).1
  constructor
  · intro hv
    refine hv _ (IdV_sub p n s gc G) (fun x hx => ?_)
    have hB := IdV_sub p n s gc G
    have hC := IdV_clo p n s gc G
    obtain ⟨i, hi, a, ha, ⟨e, rfl⟩ | ⟨e, rfl⟩ | ⟨e, b, hb, rfl⟩⟩ := hx
    · exact pl_clo hn (by omega) hB (fun l hl x hx => (hC l hl x hx).1 (by omega)) (IdV_gen hi) a ha
    · exact pr_clo hn hB (fun l hl x hx => (hC l hl x hx).2 (by omega)) (IdV_gen hi) a ha
    · exact pl_clo hn (by omega) hB (fun l hl x hx => (hC l hl x hx).1 (by omega)) (pr_clo hn hB (fun l hl x hx => (hC l hl x hx).2 (by omega)) (IdV_gen hi) a ha) b hb
  · intro hv
    have hB := SpF_sub p (2 ^ n) (GnF n s gc G)
    refine hv _ hB (GnF_clo hn hs) (fun i hi => ?_)
    have h0 := (pow_n hn).2
    have hc : s = 0 ∨ s = 1 ∨ s = 2 := by omega
    rcases hc with e | e | e
    · exact hB.to (SpF_gen ⟨i, hi, 0, h0, Or.inl ⟨e, rfl⟩⟩) (fun j hj => pl_0 (by omega))
    · exact hB.to (SpF_gen ⟨i, hi, 0, h0, Or.inr (Or.inl ⟨e, rfl⟩)⟩) (fun j hj => pr_0 (by omega))
    · exact hB.to (SpF_gen ⟨i, hi, 0, h0, Or.inr (Or.inr ⟨e, 0, h0, rfl⟩)⟩) (fun j hj => by rw [pl_0 (by omega), pr_0 (by omega)])
