/-! the set-up as such -/
def CA (S : Sto) (n p K gc ed : Nat) (E G : Nat → Nat → Int32) : Prop := S.1 1 0 = nI n ∧ S.1 1 1 = nI p ∧ S.1 1 2 = nI K ∧ S.1 1 5 = nI gc ∧ S.1 1 12 = nI ed ∧ (∀ e, e < 6 → ∀ i, i < 16 → S.1 (2 + 1 + e) i = E e i) ∧ ∀ g, g < gc → ∀ i, i < 16 → S.1 (9 + 1 + g) i = G g i
def RA (S : Sto) (n p K gc : Nat) (E G : Nat → Nat → Int32) : Prop := S.1 353 0 = nI n ∧ S.1 353 1 = nI p ∧ S.1 353 2 = nI K ∧ S.1 353 3 = nI (2 ^ n) ∧ S.1 353 6 = nI gc ∧ (∀ e, e < 6 → ∀ i, i < 16 → S.1 354 (16 * e + i) = E e i) ∧ ∀ g, g < gc → ∀ i, i < 16 → S.1 355 (16 * g + i) = G g i
def OA (n p K gc : Nat) (E G : Nat → Nat → Int32) : Prop := (2 ≤ n ∧ n ≤ 4 ∧ isP p ∧ K < 2 ∧ gc ≤ 4) ∧ (∀ e, e < 6 → ∀ i, i < 16 → ∃ z : Int, E e i = iI z ∧ 0 ≤ z ∧ z < p ∧ (2 ^ n ≤ i → z = 0)) ∧ ∀ g, g < gc → ∀ i, i < 16 → ∃ z : Int, G g i = iI z ∧ 0 ≤ z ∧ z < p
def EB (S : Sto) (ec bc : Nat) : Prop := (ec ≤ 8 ∧ bc ≤ 8) ∧ (S.1 1 8 = nI ec ∧ S.1 1 11 = nI bc ∧ S.1 353 9 = nI ec ∧ S.1 353 12 = nI bc) ∧ (∀ i, i < ec → S.1 356 i = S.1 14 i ∧ S.1 357 i = S.1 15 i ∧ ∃ w v, S.1 14 i = nI w ∧ S.1 15 i = nI v ∧ evOK w v) ∧
  ∀ i, i < bc → S.1 358 i = S.1 16 i ∧ S.1 359 i = S.1 17 i ∧ ∃ s, s < 600 ∧ S.1 16 i = nI s
/-- of two editions: what the ideals hang on is the same if they are -/
def Edt (ed n p K gc : Nat) (G : Nat → Nat → Int32) (ed' n' p' K' gc' : Nat) (G' : Nat → Nat → Int32) : Prop := ed ≤ ed' ∧ (ed' = ed → n' = n ∧ p' = p ∧ K' = K ∧ gc' = gc ∧ ∀ g, g < gc → ∀ i, i < 16 → G' g i = G g i)
theorem Edt.rf {ed n p K gc : Nat} {G : Nat → Nat → Int32} : Edt ed n p K gc G ed n p K gc G := ⟨Nat.le_refl _, fun _ => ⟨rfl, rfl, rfl, rfl, fun _ _ _ _ => rfl⟩⟩
theorem Edt.new {ed ed' n p K gc n' p' K' gc' : Nat} {G G' : Nat → Nat → Int32} (h : ed < ed') : Edt ed n p K gc G ed' n' p' K' gc' G' := ⟨by omega, fun q => by omega⟩
theorem Edt.tr {ed ed1 ed2 n p K gc n1 p1 K1 gc1 n2 p2 K2 gc2 : Nat} {G G1 G2 : Nat → Nat → Int32} (a : Edt ed n p K gc G ed1 n1 p1 K1 gc1 G1) (b : Edt ed1 n1 p1 K1 gc1 G1 ed2 n2 p2 K2 gc2 G2) : Edt ed n p K gc G ed2 n2 p2 K2 gc2 G2 := by
  refine ⟨Nat.le_trans a.1 b.1, fun q => ?_⟩
  have h1 : ed1 = ed := by have := a.1; have := b.1; omega
  have h2 : ed2 = ed1 := by omega
  obtain ⟨x1, x2, x3, x4, x5⟩ := a.2 h1
  obtain ⟨y1, y2, y3, y4, y5⟩ := b.2 h2
  exact ⟨y1.trans x1, y2.trans x2, y3.trans x3, y4.trans x4, fun g hg i hi => (y5 g (by omega) i hi).trans (x5 g hg i hi)⟩
theorem R0.abs {S : Sto} {b n p K gc ec bc : Nat} (H : R0 S b n p K gc ec bc) : ∃ ed, ed ≤ b ∧ CA S n p K gc ed (fun e i => S.1 (2 + 1 + e) i) (fun g i => S.1 (9 + 1 + g) i) ∧ RA S n p K gc (fun e i => S.1 (2 + 1 + e) i) (fun g i => S.1 (9 + 1 + g) i) ∧ OA n p K gc (fun e i => S.1 (2 + 1 + e) i) (fun g i => S.1 (9 + 1 + g) i) ∧ EB S ec bc := by
  obtain ⟨⟨r1, r2, r3, r4, r5, r6, r7⟩, h2, h3, h4, h5, h6, ed, j1, j2⟩ := H
  refine ⟨ed, j2, ⟨r2.1, r2.2.1, r2.2.2.1, r2.2.2.2.1, j1, fun _ _ _ _ => rfl, fun _ _ _ _ => rfl⟩, ⟨r3.1, r3.2.1, r3.2.2.1, h2, r3.2.2.2.1, fun e he i hi => ?_, fun g hg i hi => ?_⟩, ⟨⟨r1.1, r1.2.1, r1.2.2.1, r1.2.2.2.1, r1.2.2.2.2.1⟩, fun e he i hi => ?_, fun g hg i hi => ?_⟩, ⟨r1.2.2.2.2.2, ⟨r2.2.2.2.2.1, r2.2.2.2.2.2, r3.2.2.2.2.1, r3.2.2.2.2.2⟩, r6, r7⟩⟩
  · show _ = S.1 (2 + 1 + e) i
    rw [show 2 + 1 + e = 1 + 2 + e by omega]; exact (r4 e he i hi).1
  · show _ = S.1 (9 + 1 + g) i
    rw [show 9 + 1 + g = 1 + 9 + g by omega]; exact (r5 g hg i hi).1
  · show ∃ z : Int, S.1 (2 + 1 + e) i = iI z ∧ 0 ≤ z ∧ z < p ∧ (2 ^ n ≤ i → z = 0)
    rw [show 2 + 1 + e = 1 + 2 + e by omega]; exact (r4 e he i hi).2
  · show ∃ z : Int, S.1 (9 + 1 + g) i = iI z ∧ 0 ≤ z ∧ z < p
    rw [show 9 + 1 + g = 1 + 9 + g by omega]; exact (r5 g hg i hi).2
/-- what the changing calls leave alone -/
def othE (S S' : Sto) : Prop := oth S S' ∧ (∀ c, (49 ≤ c ∧ c ≤ 106) → S'.1 c = S.1 c)
theorem R0.chg {S S' : Sto} {b b' n p K gc ec bc n' p' K' gc' ec' bc' ed ed' : Nat} {E G E' G' : Nat → Nat → Int32} (H : R0 S b n p K gc ec bc) (f : othE S S') (hC : CA S n p K gc ed E G) (hC' : CA S' n' p' K' gc' ed' E' G') (hR' : RA S' n' p' K' gc' E' G') (hO : OA n' p' K' gc' E' G') (hE : EB S' ec' bc') (hd : Edt ed n p K gc G ed' n' p' K' gc' G') (hb : ed' ≤ b') (hb2 : b' < 1000000) : R0 S' b' n' p' K' gc' ec' bc' := by
  obtain ⟨h1, h2, h3', h4, h5, ⟨ed0, i1, i2, i3⟩, -⟩ := H
  obtain ⟨c1, c2, c3, c4, c5, c6, c7⟩ := hC'
  obtain ⟨d1, d2, d3, d4, d5, d6, d7⟩ := hR'
  obtain ⟨o1, o2, o3⟩ := hO
  obtain ⟨e1, e2, e3, e4⟩ := hE
  have g4 := h1.nw.2.2.2.2.1
  have ee : ed0 = ed := by
    have := hC.2.2.2.2.1
    have l : ed ≤ ed' := hd.1
    rw [i1, nI_eq (by omega) (by omega)] at this; exact this
  subst ee
  refine ⟨⟨⟨o1.1, o1.2.1, o1.2.2.1, o1.2.2.2.1, o1.2.2.2.2, e1.1, e1.2⟩, ⟨c1, c2, c3, c4, e2.1, e2.2.1⟩, ⟨d1, d2, d3, d5, e2.2.2.1, e2.2.2.2⟩, fun e he i hi => ?_, fun g hg i hi => ?_, e3, e4⟩, d4, h3'.oth f.1, h4.oth f.1, h5.oth f.1, ⟨ed', c5, by omega, fun s hs => ⟨?_, fun z => ?_⟩⟩, ed', c5, hb⟩
  · rw [show 1 + 2 + e = 2 + 1 + e by omega, c6 e he i hi]; exact ⟨d6 e he i hi, o2 e he i hi⟩
  · rw [show 1 + 9 + g = 9 + 1 + g by omega, c7 g hg i hi]; exact ⟨d7 g hg i hi, o3 g hg i hi⟩
  · rw [f.2 106 (by omega)]
    rcases (i3 s hs).1 with e | ⟨e, he, x⟩
    · exact Or.inl e
    · exact Or.inr ⟨e, by have := hd.1; omega, x⟩
  · rw [f.2 106 (by omega)] at z
    rcases (i3 s hs).1 with e | ⟨e, he, x⟩
    · rw [e] at z
      exfalso
      have := congrArg Int32.toInt z
      rw [nI_toInt (by omega)] at this
      have h2 : (-1 : Int) = (ed' : Int) := this
      omega
    · have l := hd.1
      have q : ed' = ed0 := by
        rw [x, nI_eq (by omega) (by omega)] at z; omega
      obtain ⟨y1, y2, y3, y4, y5⟩ := hd.2 q
      subst y1; subst y2; subst y3; subst y4
      have k := (i3 s hs).2 (by rw [z, q])
      have ls := sps s hs
      refine (SpOK.keep k (fun c hc => f.2 c (by unfold spC at hc; omega))).cong (fun v => IdV_cong (fun i hi j hj => ?_) v)
      have hw := pow_n o1.2.1
      unfold gS
      have a := c7 i (by omega) j (by omega)
      have a' := hC.2.2.2.2.2.2 i (by omega) j (by omega)
      rw [a, a', y5 i (by omega) j (by omega)]
