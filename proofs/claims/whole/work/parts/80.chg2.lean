/-! changes of the set-up, class and reference apart -/
def frC (S S' : Sto) : Prop := (∀ c, c = 0 ∨ c = 2 ∨ (14 ≤ c ∧ c ≤ 106) ∨ 353 ≤ c → S'.1 c = S.1 c) ∧ (∀ j, j = 8 ∨ j = 11 → S'.1 1 j = S.1 1 j) ∧ S'.2 = S.2
theorem frC.rf {S : Sto} : frC S S := ⟨fun _ _ => rfl, fun _ _ => rfl, rfl⟩
theorem frC.tr {S S' S'' : Sto} (a : frC S S') (b : frC S' S'') : frC S S'' := ⟨fun c x => (b.1 c x).trans (a.1 c x), fun j x => (b.2.1 j x).trans (a.2.1 j x), b.2.2.trans a.2.2⟩
theorem frC.fld {S : Sto} {j : Nat} {x : Int32} (h : j ≠ 8 ∧ j ≠ 11) : frC S (uA S 1 j x) := ⟨fun c hc => uA_ne (by omega), fun i hi => by rw [uA_eq, upd_ne _ _ (by omega)], rfl⟩
theorem frC.cell {S : Sto} {c j : Nat} {x : Int32} (h : 3 ≤ c ∧ c ≤ 13) : frC S (uA S c j x) := ⟨fun k hk => uA_ne (by omega), fun i hi => by rw [uA_ne (by omega)], rfl⟩
def frR (S S' : Sto) : Prop := (∀ c, c < 353 ∨ (356 ≤ c ∧ c ≤ 364) → S'.1 c = S.1 c) ∧ (∀ j, j = 9 ∨ j = 12 ∨ j = 14 ∨ j = 15 ∨ j = 21 → S'.1 353 j = S.1 353 j) ∧ S'.2 = S.2
theorem frR.rf {S : Sto} : frR S S := ⟨fun _ _ => rfl, fun _ _ => rfl, rfl⟩
theorem frR.tr {S S' S'' : Sto} (a : frR S S') (b : frR S' S'') : frR S S'' := ⟨fun c x => (b.1 c x).trans (a.1 c x), fun j x => (b.2.1 j x).trans (a.2.1 j x), b.2.2.trans a.2.2⟩
theorem frR.fld {S : Sto} {j : Nat} {x : Int32} (h : j ≠ 9 ∧ j ≠ 12 ∧ j ≠ 14 ∧ j ≠ 15 ∧ j ≠ 21) : frR S (uA S 353 j x) := ⟨fun c hc => uA_ne (by omega), fun i hi => by rw [uA_eq, upd_ne _ _ (by omega)], rfl⟩
theorem frR.cell {S : Sto} {c j : Nat} {x : Int32} (h : c = 354 ∨ c = 355 ∨ 365 ≤ c) : frR S (uA S c j x) := ⟨fun k hk => uA_ne (by omega), fun i hi => by rw [uA_ne (by omega)], rfl⟩
theorem othE.of {S S1 S2 : Sto} (a : frC S S1) (b : frR S1 S2) : othE S S2 := ⟨⟨fun c hc => by rw [b.1 c (by omega), a.1 c (by omega)], by rw [b.2.1 14 (by decide), a.1 353 (by decide)], by rw [b.2.1 21 (by decide), a.1 353 (by decide)], by rw [b.2.2, a.2.2]⟩, fun c hc => by rw [b.1 c (by omega), a.1 c (by omega)]⟩
theorem EB.of {S S1 S2 : Sto} {ec bc : Nat} (h : EB S ec bc) (a : frC S S1) (b : frR S1 S2) : EB S2 ec bc := by
  have e : ∀ c, (14 ≤ c ∧ c ≤ 17) ∨ (356 ≤ c ∧ c ≤ 359) → S2.1 c = S.1 c := fun c hc => by rw [b.1 c (by omega), a.1 c (by omega)]
  obtain ⟨h1, ⟨h2, h3, h4, h5⟩, h6, h7⟩ := h
  refine ⟨h1, ⟨by rw [b.1 1 (by decide), a.2.1 8 (by decide)]; exact h2, by rw [b.1 1 (by decide), a.2.1 11 (by decide)]; exact h3, by rw [b.2.1 9 (by decide), a.1 353 (by decide)]; exact h4, by rw [b.2.1 12 (by decide), a.1 353 (by decide)]; exact h5⟩, fun i hi => ?_, fun i hi => ?_⟩
  · rw [e 356 (by decide), e 357 (by decide), e 14 (by decide), e 15 (by decide)]; exact h6 i hi
  · rw [e 358 (by decide), e 359 (by decide), e 16 (by decide), e 17 (by decide)]; exact h7 i hi
theorem CA.of {S S2 : Sto} {n p K gc ed : Nat} {E G : Nat → Nat → Int32} (h : CA S n p K gc ed E G) (g4 : gc ≤ 4) (b : frR S S2) : CA S2 n p K gc ed E G := by
  obtain ⟨h1, h2, h3, h4, h5, h6, h7⟩ := h
  have e1 := b.1 1 (by decide)
  exact ⟨by rw [e1]; exact h1, by rw [e1]; exact h2, by rw [e1]; exact h3, by rw [e1]; exact h4, by rw [e1]; exact h5, fun e he i hi => by rw [b.1 _ (by omega)]; exact h6 e he i hi, fun g hg i hi => by rw [b.1 _ (by omega)]; exact h7 g hg i hi⟩
theorem RA.of {S S2 : Sto} {n p K gc : Nat} {E G : Nat → Nat → Int32} (h : RA S n p K gc E G) (b : frC S S2) : RA S2 n p K gc E G := by
  obtain ⟨h1, h2, h3, h4, h5, h6, h7⟩ := h
  have e1 := b.1 353 (by decide)
  exact ⟨by rw [e1]; exact h1, by rw [e1]; exact h2, by rw [e1]; exact h3, by rw [e1]; exact h4, by rw [e1]; exact h5, fun e he i hi => by rw [b.1 354 (by decide)]; exact h6 e he i hi, fun g hg i hi => by rw [b.1 355 (by decide)]; exact h7 g hg i hi⟩
theorem uA1 (S : Sto) (j i : Nat) (x : Int32) : (uA S 1 j x).1 1 i = if i = j then x else S.1 1 i := by
  rw [uA_eq]
  by_cases e : i = j
  · rw [e, upd_eq, if_pos rfl]
  · rw [upd_ne _ _ e, if_neg e]
theorem uA353 (S : Sto) (j i : Nat) (x : Int32) : (uA S 353 j x).1 353 i = if i = j then x else S.1 353 i := by
  rw [uA_eq]
  by_cases e : i = j
  · rw [e, upd_eq, if_pos rfl]
  · rw [upd_ne _ _ e, if_neg e]
/-- the fields of the class's set-up changed -/
theorem CA.fld {S S' : Sto} {n p K gc ed n' p' K' gc' ed' : Nat} {E G : Nat → Nat → Int32} (h : CA S n p K gc ed E G) (e : ∀ c, c ≠ 1 → S'.1 c = S.1 c) (a0 : S'.1 1 0 = nI n') (a1 : S'.1 1 1 = nI p') (a2 : S'.1 1 2 = nI K') (a5 : S'.1 1 5 = nI gc') (a12 : S'.1 1 12 = nI ed') (g : gc' ≤ gc) : CA S' n' p' K' gc' ed' E G :=
  ⟨a0, a1, a2, a5, a12, fun k hk i hi => by rw [e _ (by omega)]; exact h.2.2.2.2.2.1 k hk i hi, fun k hk i hi => by rw [e _ (by omega)]; exact h.2.2.2.2.2.2 k (by omega) i hi⟩
theorem RA.fld {S S' : Sto} {n p K gc n' p' K' gc' : Nat} {E G : Nat → Nat → Int32} (h : RA S n p K gc E G) (e : ∀ c, c ≠ 353 → S'.1 c = S.1 c) (a0 : S'.1 353 0 = nI n') (a1 : S'.1 353 1 = nI p') (a2 : S'.1 353 2 = nI K') (a3 : S'.1 353 3 = nI (2 ^ n')) (a6 : S'.1 353 6 = nI gc') (g : gc' ≤ gc) : RA S' n' p' K' gc' E G :=
  ⟨a0, a1, a2, a3, a6, fun k hk i hi => by rw [e 354 (by decide)]; exact h.2.2.2.2.2.1 k hk i hi, fun k hk i hi => by rw [e 355 (by decide)]; exact h.2.2.2.2.2.2 k (by omega) i hi⟩
theorem sp_drop8 {n p K gc ed : Nat} {E G : Nat → Nat → Int32} {S : Sto} {Q : Sto → Prop} (C : CA S n p K gc ed E G) (hQ : ∀ S', CA S' n p K 0 (ed + 1) E G → frC S S' → Q S') : wp_X4_dropGenerators S Q := by
  obtain ⟨c1, c2, c3, c4, c5, c6, c7⟩ := id C
  unfold wp_X4_dropGenerators
  intro S1 e1 S2 e2
  have f : ∀ j, S2.1 1 j = if j = 12 then nI (ed + 1) else if j = 5 then 0 else S.1 1 j := fun j => by
    rw [e2, uA1, e1, uA1, uA1, if_neg (show ¬ (12 = 5) by decide), c5, nI_1]
  have o : ∀ c, c ≠ 1 → S2.1 c = S.1 c := fun c hc => by rw [e2, uA_ne hc, e1, uA_ne hc]
  refine hQ S2 (C.fld o (by rw [f]; exact c1) (by rw [f]; exact c2) (by rw [f]; exact c3) (by rw [f]; rfl) (by rw [f]; rfl) (Nat.zero_le _)) ?_
  rw [e2, e1]
  exact (frC.fld (by decide)).tr (frC.fld (by decide))
theorem sp_kind8' {n p K gc ed : Nat} {E G : Nat → Nat → Int32} {x : Int32} {S : Sto} {Q : Int32 → Sto → Prop} (C : CA S n p K gc ed E G) (h1 : ∀ k, k < 2 → x = nI k → ∀ S', CA S' n p k gc (ed + 1) E G → frC S S' → Q 1 S') (h0 : (¬ ∃ k, k < 2 ∧ x = nI k) → Q 0 S) : wp_X4_takeKind x S Q := by
  obtain ⟨c1, c2, c3, c4, c5, c6, c7⟩ := id C
  unfold wp_X4_takeKind
  refine sp_kind8 (fun ⟨k, hk, e⟩ => ⟨fun _ S1 e1 S2 e2 => ?_, fun z => absurd z (by decide)⟩) (fun hn => ⟨fun z => absurd rfl z, fun _ => h0 hn⟩)
  have f : ∀ j, S2.1 1 j = if j = 12 then nI (ed + 1) else if j = 2 then x else S.1 1 j := fun j => by
    rw [e2, uA1, e1, uA1, uA1, if_neg (show ¬ (12 = 2) by decide), c5, nI_1]
  have o : ∀ c, c ≠ 1 → S2.1 c = S.1 c := fun c hc => by rw [e2, uA_ne hc, e1, uA_ne hc]
  refine h1 k hk e S2 (C.fld o (by rw [f]; exact c1) (by rw [f]; exact c2) (by rw [f]; exact e) (by rw [f]; exact c4) (by rw [f]; rfl) (Nat.le_refl _)) ?_
  rw [e2, e1]
  exact (frC.fld (by decide)).tr (frC.fld (by decide))
theorem sp_order9 {n p K gc : Nat} {E G : Nat → Nat → Int32} {x : Int32} {S : Sto} {Q : Int32 → Sto → Prop} (R : RA S n p K gc E G) (h1 : ∀ k, k < 2 → x = nI k → ∀ S', RA S' n p k gc E G → frR S S' → Q (nI K) S') (h0 : (¬ ∃ k, k < 2 ∧ x = nI k) → Q (-1) S) : wp_X9_order x S Q := by
  obtain ⟨c1, c2, c3, c4, c5, c6, c7⟩ := id R
  have two : (1 : Int64) = iL (((2 : Nat) : Int) - 1) := by decide
  unfold wp_X9_order
  refine sp_inN (k := 2) (by omega) two (fun ⟨k, hk, e⟩ => ⟨fun _ x3 e3 S2 e2 => ?_, fun z => absurd z (by decide)⟩) (fun hn => ⟨fun z => absurd rfl z, fun _ => h0 hn⟩)
  have f : ∀ j, S2.1 353 j = if j = 2 then x else S.1 353 j := fun j => by rw [e2, uA353]
  rw [e3, c3]
  refine h1 k hk e S2 (R.fld (fun c hc => by rw [e2, uA_ne hc]) (by rw [f]; exact c1) (by rw [f]; exact c2) (by rw [f]; exact e) (by rw [f]; exact c4) (by rw [f]; exact c5) (Nat.le_refl _)) ?_
  rw [e2]; exact frR.fld (by decide)
theorem sp_clear9 {n p K gc : Nat} {E G : Nat → Nat → Int32} {S : Sto} {Q : Int32 → Sto → Prop} (R : RA S n p K gc E G) (hQ : ∀ S', RA S' n p K 0 E G → frR S S' → Q (nI gc) S') : wp_X9_clear S Q := by
  obtain ⟨c1, c2, c3, c4, c5, c6, c7⟩ := id R
  unfold wp_X9_clear
  intro x3 e3 S2 e2
  have f : ∀ j, S2.1 353 j = if j = 6 then 0 else S.1 353 j := fun j => by rw [e2, uA353]
  rw [e3, c5]
  refine hQ S2 (R.fld (fun c hc => by rw [e2, uA_ne hc]) (by rw [f]; exact c1) (by rw [f]; exact c2) (by rw [f]; exact c3) (by rw [f]; exact c4) (by rw [f]; rfl) (Nat.zero_le _)) ?_
  rw [e2]; exact frR.fld (by decide)
