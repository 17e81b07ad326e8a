/-! dimensions -/
theorem isP.inv {p : Nat} (h : isP p) {a : Int} (ha : ¬ (p : Int) ∣ a) : ∃ b : Int, (p : Int) ∣ b * a - 1 := by
  have hp8 := h.pos
  have h0 := Int.emod_nonneg a (show (p : Int) ≠ 0 by omega)
  have h1 := Int.emod_lt_of_pos a (show (0 : Int) < p by omega)
  obtain ⟨v, hv, -, -, -, -, hi⟩ := ivI h h0 h1 (fun e => ha (Int.dvd_of_emod_eq_zero e))
  refine ⟨ivN p v, ?_⟩
  have h2 := dvd_emod p ((ivN p v : Int) * (a % p))
  rw [hi] at h2
  have h3 : (p : Int) ∣ (ivN p v : Int) * a - (ivN p v : Int) * (a % p) := by
    rw [← Int.mul_sub]; exact Int.dvd_mul_of_dvd_right (dvd_emod p a)
  have := Int.dvd_add h3 h2
  rwa [show (ivN p v : Int) * a - (ivN p v : Int) * (a % p) + ((ivN p v : Int) * (a % p) - 1) = (ivN p v : Int) * a - 1 by omega] at this
noncomputable def cnt (I : Nat → Prop) (w : Nat) : Nat := ctB (fun i => isB (I i)) w
/-- more rows than columns: the rows hang on each other -/
theorem hang {p w1 : Nat} (hp : isP p) : ∀ (w2 : Nat) (J I : Nat → Prop) (A : Nat → Nat → Int), cnt J w2 < cnt I w1 → ∃ c : Nat → Int, (∀ i, ¬ I i → c i = 0) ∧ (∃ i, i < w1 ∧ I i ∧ ¬ (p : Int) ∣ c i) ∧ ∀ j, j < w2 → J j → (p : Int) ∣ sI (fun i => c i * A i j) w1 := by
  intro w2
  induction w2 with
  | zero =>
    intro J I A h
    have : ∃ i, i < w1 ∧ I i := by
      apply Classical.byContradiction
      intro hn
      have : cnt I w1 = 0 := by
        unfold cnt
        rw [ctB_skip (a := 0) (by omega) (fun j _ hj => isB_f.mpr (fun q => hn ⟨j, hj, q⟩))]; rfl
      unfold cnt at h this
      rw [this] at h
      omega
    obtain ⟨i0, hi, hI⟩ := this
    refine ⟨fun i => if i = i0 then 1 else 0, fun i hn => if_neg (fun e : i = i0 => hn (by rw [e]; exact hI)), ⟨i0, hi, hI, ?_⟩, fun j hj => by omega⟩
    simp only [if_pos]
    exact not_dvd_one hp.pos.1
  | succ k ih =>
    intro J I A h
    by_cases hJ : J k
    · have hcJ : cnt J (k + 1) = cnt J k + 1 := by
        unfold cnt
        show ctB _ k + _ = _
        rw [if_pos (isB_t.mpr hJ)]
      by_cases hz : ∀ i, i < w1 → I i → (p : Int) ∣ A i k
      · obtain ⟨c, c1, c2, c3⟩ := ih J I A (by omega)
        refine ⟨c, c1, c2, fun j hj hJj => ?_⟩
        rcases Nat.lt_or_ge j k with q | q
        · exact c3 j q hJj
        · rw [show j = k by omega]
          refine sI_dvd (fun i hi => ?_)
          by_cases hI : I i
          · exact Int.dvd_mul_of_dvd_right (hz i hi hI)
          · rw [c1 i hI, Int.zero_mul]; exact Int.dvd_zero _
      · have : ∃ i, i < w1 ∧ I i ∧ ¬ (p : Int) ∣ A i k := by
          apply Classical.byContradiction
          intro hn
          exact hz (fun i hi hI => by
            apply Classical.byContradiction
            intro q
            exact hn ⟨i, hi, hI, q⟩)
        obtain ⟨i0, hi0, hI0, hn0⟩ := this
        obtain ⟨b, hb⟩ := hp.inv hn0
        have hcI : cnt I w1 = cnt (fun i => I i ∧ i ≠ i0) w1 + 1 := by
          unfold cnt
          refine ctB_add (l := i0) hi0 (isB_f.mpr (fun q => q.2 rfl)) (isB_t.mpr hI0) (fun i _ q => ?_)
          congr 1
          exact propext ⟨fun h => ⟨h, q⟩, fun h => h.1⟩
        obtain ⟨c, c1, ⟨i1, c2, c2', c2''⟩, c3⟩ := ih J (fun i => I i ∧ i ≠ i0) (fun i j => A i j - A i k * b * A i0 j) (by omega)
        have c0 : c i0 = 0 := c1 i0 (fun q => q.2 rfl)
        obtain ⟨s, hs⟩ : ∃ s, s = sI (fun i => c i * A i k) w1 := ⟨_, rfl⟩
        have hsum : ∀ j, sI (fun i => (if i = i0 then -(s * b) else c i) * A i j) w1 = sI (fun i => c i * A i j) w1 - s * b * A i0 j := by
          intro j
          have : (fun i => (if i = i0 then -(s * b) else c i) * A i j) = fun i => c i * A i j + (if i = i0 then -(s * b) * A i0 j else 0) := by
            funext i
            by_cases e : i = i0
            · subst e; simp only [if_pos]; rw [c0]; omega
            · simp only [if_neg e]; omega
          rw [this, sI_add, sI_one hi0 (fun i _ q => if_neg q), if_pos rfl, Int.neg_mul]; omega
        have hrel : ∀ j, sI (fun i => c i * (A i j - A i k * b * A i0 j)) w1 = sI (fun i => c i * A i j) w1 - s * b * A i0 j := by
          intro j
          have : (fun i => c i * (A i j - A i k * b * A i0 j)) = fun i => c i * A i j - (b * A i0 j) * (c i * A i k) := by
            funext i; rw [Int.mul_sub]; congr 1; grind
          rw [this, sI_sub, sI_mul, ← hs]; grind
        refine ⟨fun i => if i = i0 then -(s * b) else c i, fun i hn => ?_, ⟨i1, c2, c2'.1, by simp only [if_neg c2'.2]; exact c2''⟩, fun j hj hJj => ?_⟩
        · simp only [if_neg (show ¬ i = i0 from fun e => hn (e ▸ hI0))]
          exact c1 i (fun q => hn q.1)
        · rw [hsum j, ← hrel j]
          rcases Nat.lt_or_ge j k with q | q
          · exact c3 j q hJj
          · rw [show j = k by omega, hrel k, ← hs]
            have := Int.dvd_neg.mpr (Int.dvd_mul_of_dvd_right (c := b * A i0 k - 1) (b := s) hb)
            rwa [show -(s * (b * A i0 k - 1)) = s - s * b * A i0 k by grind] at this
    · have hcJ : cnt J (k + 1) = cnt J k := by
        unfold cnt
        show ctB _ k + _ = _
        rw [if_neg (by rw [isB_t]; exact hJ)]; rfl
      obtain ⟨c, c1, c2, c3⟩ := ih J I A (by omega)
      refine ⟨c, c1, c2, fun j hj hJj => ?_⟩
      rcases Nat.lt_or_ge j k with q | q
      · exact c3 j q hJj
      · exact absurd (by rw [← show j = k by omega]; exact hJj) hJ
/-- rows u i for the places I, each with 1 at its own and 0 at the others, that tell U -/
def CB (p w : Nat) (U : Vc → Prop) (I : Nat → Prop) (u : Nat → Vc) : Prop := (∀ i, I i → i < w ∧ U (u i) ∧ (p : Int) ∣ u i i - 1 ∧ ∀ j, I j → j ≠ i → (p : Int) ∣ u i j) ∧ ∀ x, U x → (∀ i, I i → (p : Int) ∣ x i) → ∀ k, k < w → (p : Int) ∣ x k
theorem RB.CB {p w K : Nat} {V : Vc → Prop} {hd : Nat → Prop} {R : Nat → Vc} (h : RB p w K V hd R) : CB p w V hd R := by
  refine ⟨fun i hi => ?_, h.2⟩
  obtain ⟨g1, g2, g3, g4, g5, g6⟩ := h.1 i hi
  exact ⟨g1, g2, by rw [g3]; exact Int.dvd_zero _, fun j hj q => by rw [g6 j hj q]; exact Int.dvd_zero _⟩
theorem slv_CB {p w K : Nat} {V : Vc → Prop} {hd : Nat → Prop} {R : Nat → Vc} (hV : Sub p w V) (h : RB p w K V hd R) : CB p w (Perp p w V) (fun f => f < w ∧ ¬ hd f) (slv p hd R) := by
  refine ⟨fun f hf => ⟨hf.1, slv_perp hV h hf.1 hf.2, ?_, fun j hj q => ?_⟩, fun x hx hz => ?_⟩
  · unfold slv; rw [if_pos rfl]; exact Int.dvd_zero _
  · unfold slv; rw [if_neg q, if_neg (by rw [isB_t]; exact hj.2)]; exact Int.dvd_zero _
  · -- x is told by what has 0 at all free places
    have h2 := slv_span hV h (U := fun y => ∃ c : Nat → Int, ∀ k, k < w → (p : Int) ∣ y k - sI (fun f => if isB (f < w ∧ ¬ hd f) then c f * slv p hd R f k else 0) w) ?_ ?_ hx
    · obtain ⟨c, hc⟩ := h2
      have hcf : ∀ f, f < w → ¬ hd f → (p : Int) ∣ c f := by
        intro f hf hn
        have h3 := hc f hf
        rw [sI_one hf (fun g hg q => ?_)] at h3
        · rw [if_pos (isB_t.mpr ⟨hf, hn⟩)] at h3
          unfold slv at h3
          rw [if_pos rfl, Int.mul_one] at h3
          have := Int.dvd_sub (hz f ⟨hf, hn⟩) h3
          rwa [show x f - (x f - c f) = c f by omega] at this
        · by_cases e : isB (g < w ∧ ¬ hd g) = true
          · rw [if_pos e]; unfold slv
            rw [if_neg (fun z => q z.symm), if_neg (by rw [isB_t]; exact hn), Int.mul_zero]
          · rw [if_neg e]
      intro k hk
      refine dvd_cong (hc k hk) (sI_dvd (fun f hf => ?_))
      by_cases e : f < w ∧ ¬ hd f
      · rw [if_pos (isB_t.mpr e)]; exact Int.dvd_mul_of_dvd_left (hcf f hf e.2)
      · rw [if_neg (by rw [isB_t]; exact e)]; exact Int.dvd_zero _
    · refine ⟨⟨fun _ => 0, fun k hk => ?_⟩, ?_, ?_, ?_⟩
      · rw [sI_zero (fun f _ => by rw [Int.zero_mul, ite_self])]; exact ⟨0, by simp⟩
      · rintro a b ⟨c, hc⟩ ⟨d, hd'⟩
        refine ⟨fun f => c f + d f, fun k hk => ?_⟩
        have : (fun f => if isB (f < w ∧ ¬ hd f) then (c f + d f) * slv p hd R f k else 0) = fun f => (if isB (f < w ∧ ¬ hd f) then c f * slv p hd R f k else 0) + (if isB (f < w ∧ ¬ hd f) then d f * slv p hd R f k else 0) := by
          funext f; split
          · rw [Int.add_mul]
          · rfl
        rw [this, sI_add]
        have := Int.dvd_add (hc k hk) (hd' k hk)
        rwa [show a k - sI (fun f => if isB (f < w ∧ ¬ hd f) then c f * slv p hd R f k else 0) w + (b k - sI (fun f => if isB (f < w ∧ ¬ hd f) then d f * slv p hd R f k else 0) w) = a k + b k - (sI (fun f => if isB (f < w ∧ ¬ hd f) then c f * slv p hd R f k else 0) w + sI (fun f => if isB (f < w ∧ ¬ hd f) then d f * slv p hd R f k else 0) w) by omega] at this
      · rintro m a ⟨c, hc⟩
        refine ⟨fun f => m * c f, fun k hk => ?_⟩
        have : (fun f => if isB (f < w ∧ ¬ hd f) then m * c f * slv p hd R f k else 0) = fun f => m * (if isB (f < w ∧ ¬ hd f) then c f * slv p hd R f k else 0) := by
          funext f; split
          · rw [Int.mul_assoc]
          · rw [Int.mul_zero]
        rw [this, sI_mul, ← Int.mul_sub]
        exact Int.dvd_mul_of_dvd_right (hc k hk)
      · rintro a b e ⟨c, hc⟩
        refine ⟨c, fun k hk => ?_⟩
        have := Int.dvd_sub (hc k hk) (e k hk)
        rwa [show ∀ s : Int, a k - s - (a k - b k) = b k - s from fun s => by omega] at this
    · intro f hf hn
      refine ⟨fun g => if g = f then 1 else 0, fun k hk => ?_⟩
      rw [sI_one hf (fun g _ q => by simp only [if_neg q, Int.zero_mul, ite_self]), if_pos (isB_t.mpr ⟨hf, hn⟩)]
      simp only [if_pos, Int.one_mul, Int.sub_self]
      exact Int.dvd_zero _
/-- sums of the rows u -/
def cmbU (I : Nat → Prop) (c : Nat → Int) (u : Nat → Vc) (w : Nat) : Vc := fun k => sI (fun i => c i * u i k) w
theorem cmbU_in {p w1 : Nat} {U : Vc → Prop} {I : Nat → Prop} {u : Nat → Vc} (hU : Sub p w1 U) (hI : ∀ i, I i → U (u i)) {c : Nat → Int} (hc : ∀ i, ¬ I i → c i = 0) : ∀ m, U (cmbU I c u m)
  | 0 => hU.1
  | m + 1 => by
    have h2 : U (fun k => c m * u m k) := by
      by_cases h : I m
      · exact hU.2.2.1 (c m) _ (hI m h)
      · exact hU.to hU.1 (fun k _ => by rw [hc m h, Int.zero_mul])
    exact hU.to (hU.2.1 _ _ (cmbU_in hU hI hc m) h2) (fun k _ => rfl)
theorem cmbU_map {p w w' : Nat} {f : Vc → Vc} (hf : Lin p w w' f) {I : Nat → Prop} {c : Nat → Int} {u : Nat → Vc} : ∀ m k, f (cmbU I c u m) k = sI (fun i => c i * f (u i) k) m
  | 0, k => hf.zero
  | m + 1, k => by
    show f (fun k => cmbU I c u m k + c m * u m k) k = _
    rw [hf.1 (cmbU I c u m) (fun k => c m * u m k), hf.2.1, cmbU_map hf m k]; rfl
/-- dimensions grow along what takes nothing to nought -/
theorem CB.le {p w1 w2 : Nat} (hp : isP p) {U V : Vc → Prop} {I J : Nat → Prop} {u v : Nat → Vc} (hU : Sub p w1 U) (hu : CB p w1 U I u) (hv : CB p w2 V J v) {f : Vc → Vc} (hf : Lin p w1 w2 f) (hm : ∀ x, U x → V (f x)) (hi : ∀ x, U x → V0 p w2 (f x) → V0 p w1 x) : cnt I w1 ≤ cnt J w2 := by
  apply Nat.le_of_not_lt
  intro hlt
  obtain ⟨c, c1, ⟨i0, c2, c2', c2''⟩, c3⟩ := hang (w1 := w1) hp w2 J I (fun i j => f (u i) j) hlt
  have hx := cmbU_in hU (fun i h => (hu.1 i h).2.1) c1 w1
  have hz := hv.2 _ (hm _ hx) (fun j hj => by
    rw [cmbU_map hf]
    exact c3 j (hv.1 j hj).1 hj)
  have h0 := hi _ hx hz i0 c2
  refine c2'' ?_
  have h1 : (p : Int) ∣ cmbU I c u w1 i0 - c i0 := by
    unfold cmbU
    have : (p : Int) ∣ sI (fun i => c i * u i i0 - (if i = i0 then c i0 else 0)) w1 := by
      refine sI_dvd (fun i hi => ?_)
      by_cases e : i = i0
      · subst e
        rw [if_pos rfl, show c i * u i i - c i = c i * (u i i - 1) by grind]
        exact Int.dvd_mul_of_dvd_right (hu.1 i c2').2.2.1
      · rw [if_neg e, Int.sub_zero]
        by_cases h : I i
        · exact Int.dvd_mul_of_dvd_right ((hu.1 i h).2.2.2 i0 c2' (fun q => e q.symm))
        · rw [c1 i h, Int.zero_mul]; exact Int.dvd_zero _
    rwa [sI_sub, sI_one c2 (fun i _ q => if_neg q), if_pos rfl] at this
  have := Int.dvd_sub h0 h1
  rwa [show cmbU I c u w1 i0 - (cmbU I c u w1 i0 - c i0) = c i0 by omega] at this
theorem id_Lin (p w : Nat) : Lin p w w (fun x => x) := ⟨fun _ _ _ => rfl, fun _ _ _ => rfl, fun _ _ e => e⟩
theorem CB.same {p w : Nat} (hp : isP p) {U : Vc → Prop} {I J : Nat → Prop} {u v : Nat → Vc} (hU : Sub p w U) (hu : CB p w U I u) (hv : CB p w U J v) : cnt I w = cnt J w :=
  Nat.le_antisymm (CB.le hp hU hu hv (id_Lin p w) (fun _ h => h) (fun _ _ h => h)) (CB.le hp hU hv hu (id_Lin p w) (fun _ h => h) (fun _ _ h => h))
theorem all_CB (p w : Nat) : CB p w (fun _ => True) (fun i => i < w) (fun i k => if k = i then 1 else 0) := by
  refine ⟨fun i hi => ⟨hi, trivial, by simp, fun j _ q => by simp [q]⟩, fun x _ h => h⟩
theorem cnt_all (w : Nat) : cnt (fun i => i < w) w = w := by
  have : ∀ k, k ≤ w → cnt (fun i => i < w) k = k := by
    intro k
    induction k with
    | zero => intro _; rfl
    | succ k ih =>
      intro hk
      unfold cnt at ih ⊢
      show ctB _ k + _ = _
      rw [ih (by omega), if_pos (isB_t.mpr (by omega))]
  exact this w (Nat.le_refl _)
theorem all_Sub (p w : Nat) : Sub p w (fun _ => True) := ⟨trivial, fun _ _ _ _ => trivial, fun _ _ _ => trivial, fun _ _ _ _ => trivial⟩
/-! each space has rows in steps -/
theorem RB.rest {p w K : Nat} {V : Vc → Prop} {hd : Nat → Prop} {R : Nat → Vc} (hp : isP p) (hV : Sub p w V) (h : RB p w K V hd R) (x : Vc) : ∃ r, Rest p w V hd x r := by
  have hp8 := hp.pos
  have key : ∀ k : Nat, ∃ u : Vc, V (fun i => x i - u i) ∧ ∀ l, l < k → hd l → (p : Int) ∣ u l := by
    intro k
    induction k with
    | zero => exact ⟨x, hV.to hV.1 (fun i _ => by omega), fun l q => by omega⟩
    | succ k ih =>
      obtain ⟨u, h1, h2⟩ := ih
      by_cases hk : hd k
      · obtain ⟨g1, g2, g3, g4, g5, g6⟩ := h.1 k hk
        refine ⟨fun i => u i - u k * R k i, hV.to (hV.2.1 _ _ h1 (hV.2.2.1 (u k) _ g2)) (fun i _ => by show x i - u i + u k * R k i = x i - (u i - u k * R k i); omega), fun l q hl => ?_⟩
        show (p : Int) ∣ u l - u k * R k l
        by_cases e : l = k
        · rw [e, g3, Int.mul_one, Int.sub_self]; exact Int.dvd_zero _
        · rw [g6 l hl e, Int.mul_zero, Int.sub_zero]; exact h2 l (by omega) hl
      · exact ⟨u, h1, fun l q hl => h2 l (by rcases Nat.lt_or_ge l k with z | z; exact z; exact absurd (show l = k by omega) (fun e => hk (e ▸ hl))) hl⟩
  obtain ⟨u, h1, h2⟩ := key w
  refine ⟨fun i => u i % p, fun i _ => ⟨Int.emod_nonneg _ (by omega), Int.emod_lt_of_pos _ (by omega)⟩, hV.2.2.2 _ _ (fun i _ => ?_) h1, fun l hl => Int.emod_eq_zero_of_dvd (h2 l (h.1 l hl).1 hl)⟩
  have := Int.dvd_neg.mpr (dvd_emod p (u i))
  rwa [show -(u i - u i % p) = x i - u i - (x i - u i % p) by omega] at this
theorem RB.exists {p w : Nat} (hp : isP p) {V : Vc → Prop} (hV : Sub p w V) : ∃ hd R, RB p w 0 V hd R := by
  have hp8 := hp.pos
  have hs : ∀ m, Sub p w (fun v => V v ∧ ∀ i, i < w → i + m < w → (p : Int) ∣ v i) := fun m => by
    refine Sub.and hV ⟨fun i _ _ => Int.dvd_zero _, fun x y hx hy i a b => Int.dvd_add (hx i a b) (hy i a b), fun c x hx i a b => Int.dvd_mul_of_dvd_right (hx i a b), fun x y e hx i a b => ?_⟩
    have := Int.dvd_sub (hx i a b) (e i a)
    rwa [show x i - (x i - y i) = y i by omega] at this
  have key : ∀ m, m ≤ w → ∃ hd R, RB p w 0 (fun v => V v ∧ ∀ i, i < w → i + m < w → (p : Int) ∣ v i) hd R := by
    intro m
    induction m with
    | zero =>
      intro _
      refine ⟨fun _ => False, fun _ _ => 0, fun _ h => h.elim, fun v hv _ i hi => hv.2 i hi (by omega)⟩
    | succ m ih =>
      intro hm
      obtain ⟨hd, R, h⟩ := ih (by omega)
      by_cases hx : ∃ x, (V x ∧ ∀ i, i < w → i + (m + 1) < w → (p : Int) ∣ x i) ∧ ¬ (p : Int) ∣ x (w - m - 1)
      · obtain ⟨x, ⟨x1, x2⟩, x3⟩ := hx
        obtain ⟨r, hr⟩ := h.rest hp (hs m) x
        obtain ⟨l0, hl0⟩ : ∃ l0, l0 = w - m - 1 := ⟨_, rfl⟩
        have rx : ∀ i, i < w → i + m < w → (p : Int) ∣ x i - r i := fun i a b => hr.2.1.2 i a b
        have hnz : ¬ (p : Int) ∣ r l0 := fun q => x3 (by rw [← hl0]; exact dvd_cong (rx l0 (by omega) (by omega)) q)
        have hz : ∀ i, i < w → ps 0 i < ps 0 l0 → r i = 0 := fun i hi q => by
          have q' : i < l0 := q
          have h1 := rx i hi (by omega)
          have h2 := Int.dvd_sub (x2 i hi (by omega)) h1
          rw [show x i - (x i - r i) = r i by omega] at h2
          exact dvd_small (p := p) (by rw [Int.sub_zero]; exact h2) (hr.1 i hi) ⟨by omega, by have := hr.1 i hi; omega⟩
        obtain ⟨b, hb⟩ := hp.inv hnz
        have hone : b * r l0 % p = 1 := by
          have h1 := Int.emod_nonneg (b * r l0) (show (p : Int) ≠ 0 by omega)
          have h2 := Int.emod_lt_of_pos (b * r l0) (show (0 : Int) < p by omega)
          have h3 := Int.dvd_sub hb (dvd_emod p (b * r l0))
          rw [show b * r l0 - 1 - (b * r l0 - b * r l0 % p) = b * r l0 % p - 1 by omega] at h3
          exact dvd_small h3 ⟨h1, h2⟩ ⟨by omega, by omega⟩
        have hnl : ¬ hd l0 := fun q => hnz (by rw [hr.2.2 l0 q]; exact Int.dvd_zero _)
        have em : ∀ z : Int, 0 ≤ z % p ∧ z % p < p ∧ (p : Int) ∣ z % p - z := fun z => ⟨Int.emod_nonneg _ (by omega), Int.emod_lt_of_pos _ (by omega), by have := Int.dvd_neg.mpr (dvd_emod p z); rwa [Int.neg_sub] at this⟩
        have hA := RB.add (R' := fun l => if l = l0 then fun i => b * r i % p else fun i => (R l i - R l l0 * (b * r i % p)) % p) (c := b) hp.pi (hs m) h hr (by omega) hnz hz (fun i hi => by simp only [if_pos]; exact em _) (by simp only [if_pos]; exact hone) (fun l hl i hi => by
          have : l ≠ l0 := fun e => hnl (e ▸ hl)
          simp only [if_neg this, if_pos]; exact em _)
        refine ⟨_, _, hA.cong (fun v => ?_)⟩
        constructor
        · intro hv
          exact addV_least (hs (m + 1)) (fun u hu => ⟨hu.1, fun i a c => hu.2 i a (by omega)⟩) ⟨x1, x2⟩ hv
        · intro hv
          obtain ⟨b2, hb2⟩ := hp.inv x3
          refine ⟨v l0 * b2, hV.lc (v l0 * b2) hv.1 x1, fun i a c => ?_⟩
          show (p : Int) ∣ v i - v l0 * b2 * x i
          by_cases e : i = l0
          · rw [e]
            rw [← hl0] at hb2
            have := Int.dvd_neg.mpr (Int.dvd_mul_of_dvd_right (c := b2 * x l0 - 1) (b := v l0) hb2)
            rwa [show -(v l0 * (b2 * x l0 - 1)) = v l0 - v l0 * b2 * x l0 by grind] at this
          · exact Int.dvd_sub (hv.2 i a (by omega)) (Int.dvd_mul_of_dvd_right (x2 i a (by omega)))
      · refine ⟨hd, R, h.cong (fun v => ⟨fun hv => ⟨hv.1, fun i a c => hv.2 i a (by omega)⟩, fun hv => ⟨hv.1, fun i a c => ?_⟩⟩)⟩
        by_cases e : i = w - m - 1
        · rw [e]
          apply Classical.byContradiction
          intro q
          exact hx ⟨v, hv, q⟩
        · exact hv.2 i a (by omega)
  obtain ⟨hd, R, h⟩ := key w (Nat.le_refl _)
  exact ⟨hd, R, h.cong (fun v => ⟨fun hv => hv.1, fun hv => ⟨hv, fun i a c => by omega⟩⟩)⟩
