/-! the calls that change (1) -/
/-- text, tapes and the image are as they were -/
def oth (S S' : Sto) : Prop := (∀ c, c = 0 ∨ (18 ≤ c ∧ c ≤ 47) ∨ (360 ≤ c ∧ c ≤ 364) → S'.1 c = S.1 c) ∧ S'.1 353 14 = S.1 353 14 ∧ S'.1 353 21 = S.1 353 21 ∧ S'.2 = S.2
theorem oth.rf {S : Sto} : oth S S := ⟨fun _ _ => rfl, rfl, rfl, rfl⟩
theorem oth.tr {S S' S'' : Sto} (a : oth S S') (b : oth S' S'') : oth S S'' := ⟨fun c x => (b.1 c x).trans (a.1 c x), b.2.1.trans a.2.1, b.2.2.1.trans a.2.2.1, b.2.2.2.trans a.2.2.2⟩
theorem oth.upd {S : Sto} {t j : Nat} {x : Int32} (h : ¬ (t = 0 ∨ (18 ≤ t ∧ t ≤ 47) ∨ (360 ≤ t ∧ t ≤ 364))) (h2 : t = 353 → j ≠ 14 ∧ j ≠ 21) : oth S (uA S t j x) := by
  refine ⟨fun c hc => uA_ne (fun e => h (e ▸ hc)), ?_, ?_, rfl⟩
  · by_cases e : t = 353
    · subst e; rw [uA_eq, upd_ne _ _ (h2 rfl).1.symm]
    · rw [uA_ne (Ne.symm e)]
  · by_cases e : t = 353
    · subst e; rw [uA_eq, upd_ne _ _ (h2 rfl).2.symm]
    · rw [uA_ne (Ne.symm e)]
theorem Txt.oth {S S' : Sto} (H : Txt S) (f : oth S S') : Txt S' := by
  unfold Txt
  rw [f.1 35 (by decide), f.1 36 (by decide), f.2.1, f.1 360 (by decide)]; exact H
theorem Tap.oth {S S' : Sto} (H : Tap S) (f : oth S S') : Tap S' := by
  unfold Tap
  rw [f.1 39 (by decide), f.1 40 (by decide), f.1 362 (by decide), f.1 363 (by decide), f.2.2.2]; exact H
theorem Img.oth {S S' : Sto} (H : Img S) (f : oth S S') : Img S' := by
  rcases H with ⟨h1, h2⟩ | ⟨h1, h2, n, p, K, gc, ec, bc, h3⟩
  · exact Or.inl ⟨by rw [f.1 0 (by decide)]; exact h1, by rw [f.2.2.1]; exact h2⟩
  · refine Or.inr ⟨by rw [f.1 0 (by decide)]; exact h1, by rw [f.2.2.1]; exact h2, n, p, K, gc, ec, bc, ?_⟩
    have e := f.1 364 (by decide)
    refine Same.keep h3 (by omega) (fun c c1 h => ?_) (fun j _ => by rw [e]) (fun k _ i _ => by rw [e]) (fun k _ i _ => by rw [e]) (fun i _ => by rw [e]; exact ⟨rfl, rfl, rfl, rfl⟩)
    exact f.1 c (by omega)
/-- a new edition -/
theorem R0.newEd {S S' : Sto} {b n p K gc ec bc n' p' K' gc' ec' bc' : Nat} (H : R0 S b n p K gc ec bc) (f : oth S S') (hb : b + 1 < 1000000) (M : SameM S' 1 n' p' K' gc' ec' bc') (h3 : S'.1 353 3 = nI (2 ^ n')) (e12 : S'.1 1 12 = S.1 1 12 + 1) (e106 : S'.1 106 = S.1 106) : Rel S' (b + 1) := by
  obtain ⟨h1, h2, h3', h4, h5, ⟨ed, i1, i2, i3⟩, ed', j1, j2⟩ := H
  have ee : ed' = ed := by rw [i1, nI_eq (by omega) (by omega)] at j1; exact j1.symm
  subst ee
  have q : S'.1 1 12 = nI (ed' + 1) := by rw [e12, i1, nI_1]
  refine ⟨n', p', K', gc', ec', bc', M, h3, h3'.oth f, h4.oth f, h5.oth f, ⟨ed' + 1, q, by omega, fun s hs => ⟨?_, fun z => ?_⟩⟩, ed' + 1, q, by omega⟩
  · rw [e106]
    rcases (i3 s hs).1 with e | ⟨e, he, x⟩
    · exact Or.inl e
    · exact Or.inr ⟨e, by omega, x⟩
  · exfalso
    rw [e106] at z
    rcases (i3 s hs).1 with e | ⟨e, he, x⟩
    · rw [e] at z
      have := congrArg Int32.toInt z
      rw [nI_toInt (by omega)] at this
      have h2 : (-1 : Int) = ((ed' + 1 : Nat) : Int) := this
      omega
    · rw [x, nI_eq (by omega) (by omega)] at z; omega
/-- the same edition -/
theorem R0.sameEd {S S' : Sto} {b n p K gc ec bc ec' bc' : Nat} (H : R0 S b n p K gc ec bc) (f : oth S S') (M : SameM S' 1 n p K gc ec' bc') (h3 : S'.1 353 3 = S.1 353 3) (e12 : S'.1 1 12 = S.1 1 12) (eg : ∀ c, (10 ≤ c ∧ c ≤ 13) ∨ (49 ≤ c ∧ c ≤ 106) → S'.1 c = S.1 c) : R0 S' b n p K gc ec' bc' := by
  obtain ⟨h1, h2, h3', h4, h5, ⟨ed, i1, i2, i3⟩, ed', j1, j2⟩ := H
  have g4 := h1.nw.2.2.2.2.1
  refine ⟨M, by rw [h3]; exact h2, h3'.oth f, h4.oth f, h5.oth f, ⟨ed, by rw [e12]; exact i1, i2, fun s hs => ?_⟩, ed', by rw [e12]; exact j1, j2⟩
  have l := sps s hs
  rw [eg 106 (by omega)]
  exact ⟨(i3 s hs).1, fun q => SpOK.g g4 (fun i hi => eg _ (by omega)) (((i3 s hs).2 q).keep (fun c hc => eg c (by unfold spC at hc; omega)))⟩
theorem Rel.mono {S : Sto} {b b' : Nat} (h : Rel S b) (l : b ≤ b') : Rel S b' := by
  obtain ⟨n, p, K, gc, ec, bc, h1, h2, h3, h4, h5, h6, ed, h7, h8⟩ := h
  exact ⟨n, p, K, gc, ec, bc, h1, h2, h3, h4, h5, h6, ed, h7, by omega⟩
