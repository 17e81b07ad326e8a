/-! what happens in the reference (1) -/
/-- a generator more in the reference -/
def GmA (S S' : Sto) (gc v : Nat) : Prop := (∀ c, c ≠ 353 → c ≠ 355 → S'.1 c = S.1 c) ∧ S'.2 = S.2 ∧ (∀ j, j ≠ 6 → S'.1 353 j = S.1 353 j) ∧ S'.1 353 6 = nI (gc + 1) ∧ (∀ i, i < 16 → S'.1 355 (16 * gc + i) = S.1 354 (16 * v + i)) ∧ ∀ k, (k < 16 * gc ∨ 16 * gc + 16 ≤ k) → S'.1 355 k = S.1 355 k
theorem sp_generate9 {x : Int32} {gc : Nat} {S : Sto} {Q : Int32 → Sto → Prop} (h6 : S.1 353 6 = nI gc) (h4 : gc ≤ 4)
    (h1 : ∀ v, v < 6 → x = nI v → gc < 4 → ∀ S', GmA S S' gc v → Q (nI (gc + 1)) S') (h2 : (∃ v, v < 6 ∧ x = nI v) → gc = 4 → Q (-4) S) (h3 : (¬ ∃ v, v < 6 ∧ x = nI v) → Q (-1) S) : wp_X9_generate x S Q := by
  unfold wp_X9_generate
  refine sp_elem9 (fun ⟨v, hv, e⟩ => ⟨fun _ => ?_, fun z => absurd z (by decide)⟩) (fun h0 => ⟨fun z => absurd rfl z, fun _ => h3 h0⟩)
  rw [h6, show (4 : Int32) = nI 4 from rfl, nI_eq (by omega) (by omega)]
  refine ⟨fun g4 => ?_, fun g4 => h2 ⟨v, hv, e⟩ g4⟩
  subst e
  refine loopE (fun m i (T : Sto) => q_X9_generate_22 (nI v) Q m (nI i) T) (fun i T => frs [355] S T ∧ (∀ k, k < i → T.1 355 (16 * gc + k) = S.1 354 (16 * v + k)) ∧ ∀ k, (k < 16 * gc ∨ 16 * gc + 16 ≤ k) → T.1 355 k = S.1 355 k) 16 ?_ ?_ 0 S (by omega) ⟨frs.rf, fun k q => by omega, fun _ _ => rfl⟩
  · rintro T ⟨t1, t2, t3⟩
    unfold q_X9_generate_22
    refine ⟨fun _ S2 e2 => ?_, fun q => absurd (show (16 : Int32) ≤ nI 16 by decide) q⟩
    rw [t1.1 353 (by simp), h6, nI_1] at e2
    have e6 : S2.1 353 6 = nI (gc + 1) := by rw [e2, uA_eq, upd_eq]
    rw [e6]
    refine h1 v hv rfl (by omega) S2 ⟨fun c c1 c2 => by rw [e2, uA_ne c1, t1.1 c (by simp; exact c2)], by rw [e2]; exact t1.2, fun j hj => by rw [e2, uA_eq, upd_ne _ _ hj, t1.1 353 (by simp)], e6, fun i hi => by rw [e2, uA_ne (by decide)]; exact t2 i hi, fun k hk => by rw [e2, uA_ne (by decide)]; exact t3 k hk⟩
  · rintro i m T hi ⟨t1, t2, t3⟩ ih
    unfold q_X9_generate_22
    rw [t1.1 353 (by simp), t1.1 354 (by simp), h6, show (16 : Int32) = nI 16 from rfl, nI_leI (by omega) (by omega), pk_mul, pk_mul, nI_add, nI_add, tn_nI (i := 16 * v + i) (by omega), tn_nI (i := 16 * gc + i) (by omega)]
    refine ⟨fun q => by omega, fun _ => ⟨vi (by omega) (by omega), vi (by omega) (by omega), fun S5 e5 x2 e2 => ?_⟩⟩
    rw [e2, nI_1]
    refine ih S5 ⟨t1.tr (by rw [e5]; exact frs.upd (by simp)), fun k hk => ?_, fun k hk => ?_⟩
    · rw [e5, uA_eq]
      by_cases e : k = i
      · rw [e, upd_eq]
      · rw [upd_ne _ _ (by omega)]; exact t2 k (by omega)
    · rw [e5, uA_eq, upd_ne _ _ (by omega)]; exact t3 k hk
def frH (S S' : Sto) : Prop := (∀ c, c ≠ 353 → c ≠ 355 → c ≠ 371 → c ≠ 373 → S'.1 c = S.1 c) ∧ (∀ j, j ≠ 2 → j ≠ 6 → S'.1 353 j = S.1 353 j) ∧ (∀ i, 64 ≤ i → S'.1 355 i = S.1 355 i) ∧ S'.2 = S.2
theorem frH.rf {S : Sto} : frH S S := ⟨fun _ _ _ _ _ => rfl, fun _ _ _ => rfl, fun _ _ => rfl, rfl⟩
theorem frH.tr {S S' S'' : Sto} (a : frH S S') (b : frH S' S'') : frH S S'' := ⟨fun c x y z u => (b.1 c x y z u).trans (a.1 c x y z u), fun j x y => (b.2.1 j x y).trans (a.2.1 j x y), fun i x => (b.2.2.1 i x).trans (a.2.2.1 i x), b.2.2.2.trans a.2.2.2⟩
theorem Cm.keepH {S S' : Sto} {n p K : Nat} (h : Cm S n p K) (f : frH S S') (h2 : S'.1 353 2 = S.1 353 2) : Cm S' n p K := by
  obtain ⟨a, b, c, d, e⟩ := h
  exact ⟨by rw [f.2.1 0 (by decide) (by decide)]; exact a, by rw [f.2.1 1 (by decide) (by decide)]; exact b, by rw [h2]; exact c, by rw [f.2.1 3 (by decide) (by decide)]; exact d, e⟩
