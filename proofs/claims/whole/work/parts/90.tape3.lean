/-! the call that lays a tape -/
theorem sp_sort8 {x : Int32} {S : Sto} {Q : Int32 → Sto → Prop} (h1 : (∃ s, s < 5 ∧ x = nI s) → Q 1 S) (h0 : (¬ ∃ s, s < 5 ∧ x = nI s) → Q 0 S) : wp_X7_isSort x S Q := by
  unfold wp_X7_isSort q_X7_isSort_13 q_X7_isSort_14
  have neg : x < 0 → ¬ ∃ s, s < 5 ∧ x = nI s := fun h ⟨s, hs, e⟩ => by rw [e] at h; exact nI_pos (by omega) h
  refine ⟨fun h => ⟨narb0, h0 (neg h)⟩, fun h => ?_⟩
  obtain ⟨k, hk, rfl⟩ := nI_of h
  rw [show (4 : Int32) = nI 4 from rfl, nI_ltI (by omega) hk]
  refine ⟨fun q => ⟨narb0, h0 (fun ⟨s, hs, e⟩ => ?_)⟩, fun q => ⟨narb1, h1 ⟨k, by omega, rfl⟩⟩⟩
  rw [nI_eq hk (by omega)] at e; omega
theorem sort_in {s : Int32} : (s = -1 ∨ ∃ k, k < 5 ∧ s = nI k) ↔ (-1 ≤ s.toInt ∧ s.toInt ≤ 4) := by
  have h := ex_iff (x := s) (k := 5) (by omega)
  constructor
  · rintro (e | e)
    · rw [e]; decide
    · have := h.mp e; omega
  · rintro ⟨a, b⟩
    by_cases q : s.toInt = -1
    · exact Or.inl (Int32.toInt_inj.mp q)
    · exact Or.inr (h.mpr ⟨by omega, by omega⟩)
theorem op_tape {S : Sto} {b : Nat} (x s l : Int32) (H : Rel S b) : wp_X8_tape x s l S (fun r S1 => wp_X9_tape x s l S1 (fun r' S2 => r = r' ∧ Rel S2 b)) := by
  obtain ⟨n, p, K, gc, ec, bc, H⟩ := H.r0
  unfold wp_X8_tape q_X8_tape_41
  refine sp_has8 (fun ⟨t, ht, e⟩ => ⟨fun _ => ?_, fun z => absurd z (by decide)⟩) (fun h0 => ⟨fun z => absurd rfl z, fun _ => ?_⟩)
  · subst e
    have hl := ln_tp t ht
    -- the reference
    have ref : ∀ S1 (Q : Int32 → Sto → Prop), (¬ (s = -1 ∨ ∃ k, k < 5 ∧ s = nI k) → Q (-2) S1) → ((∃ k, k < 5 ∧ s = nI k) → ¬ l ≤ 60 → Q (-2) S1) → ((∃ k, k < 5 ∧ s = nI k) → l ≤ 60 → ¬ 0 ≤ l → Q (-14) S1) → ((∃ k, k < 5 ∧ s = nI k) → l ≤ 60 → 0 ≤ l → ∀ S2, S2 = uA S1 362 t s → q_X9_tape_68 (nI t) s l Q (nI t) l S2) → (s = -1 → ∀ S2, S2 = uA S1 362 t s → q_X9_tape_68 (nI t) s l Q (nI t) (nI 0) S2) → wp_X9_tape (nI t) s l S1 Q := by
      intro S1 Q r1 r2 r3 r4 r5
      unfold wp_X9_tape q_X9_tape_33 q_X9_tape_36 q_X9_tape_47
      refine sp_tape9 (fun _ => ⟨fun _ => ?_, fun z => absurd z (by decide)⟩) (fun h0 => absurd ⟨t, ht, rfl⟩ h0)
      rw [tn_nI (i := t) (by omega)]
      have pos : (∃ k, k < 5 ∧ s = nI k) → ¬ s < 0 ∧ 0 ≤ s := fun ⟨k, hk, e⟩ => by
        rw [e]
        exact ⟨nI_pos (by omega), by rw [show (0 : Int32) = nI 0 from rfl, nI_leI (by omega) (by omega)]; omega⟩
      rw [show (-1 : Int64) = iL (-1) by decide, show (4 : Int64) = iL 4 by decide]
      refine sp_in9 (a := -1) (b := 4) ⟨by omega, by omega⟩ ⟨by omega, by omega⟩ (fun a c => ⟨fun z => absurd z (by decide), fun _ => ?_⟩) (fun hn => ⟨fun _ => r1 (fun q => hn (sort_in.mp q)), fun z => absurd rfl z⟩)
      rcases sort_in.mpr ⟨a, c⟩ with e | e
      · have g : ¬ 0 ≤ s := by rw [e]; decide
        have go : ∀ S2, S2 = uA S1 362 t s → (0 ≤ s → q_X9_tape_68 (nI t) s l Q (nI t) l S2) ∧ (¬ 0 ≤ s → q_X9_tape_68 (nI t) s l Q (nI t) 0 S2) := fun S2 e2 => ⟨fun q => absurd q g, fun _ => r5 e S2 e2⟩
        exact ⟨fun _ => ⟨fun _ => ⟨vi ht (by omega), go⟩, fun q => absurd (by rw [e]; decide) q⟩, fun q => absurd (by rw [e]; decide) q⟩
      · obtain ⟨p1, p2⟩ := pos e
        refine ⟨fun q => absurd q p1, fun _ => ⟨fun l6 => ⟨fun q => absurd q p1, fun _ => ⟨fun l0 => ⟨vi ht (by omega), fun S2 e2 => ⟨fun _ => r4 e l6 l0 S2 e2, fun q => absurd p2 q⟩⟩, fun l0 => r3 e l6 l0⟩⟩, fun l6 => r2 e l6⟩⟩
    refine ⟨fun sne => ?_, fun se => ?_⟩
    · refine sp_sort8 (fun hk => ⟨fun z => absurd z (by decide), fun _ => ⟨fun l6 => ⟨fun l0 => ?_, fun l0 => ?_⟩, fun l6 => ?_⟩⟩) (fun hn => ⟨fun _ => ?_, fun z => absurd rfl z⟩)
      · obtain ⟨m, hm, rfl⟩ := nI_of (x := l) (fun q => by
          rw [Int32.lt_iff_toInt_lt] at q
          rw [Int32.le_iff_toInt_le] at l0
          have a : l.toInt < 0 := q
          have c : 0 ≤ l.toInt := l0
          omega)
        have m60 : m ≤ 60 := by
          rw [show (60 : Int32) = nI 60 from rfl, nI_leI hm (by omega)] at l6; exact l6
        refine sp_lay8 ht (fun S1 c1 c2 c3 c4 c5 => ref S1 _ (fun q => absurd (Or.inr hk) q) (fun _ q => absurd l6 q) (fun _ _ q => absurd l0 q) (fun _ _ _ S2 e2 => ?_) (fun q => absurd q sne))
        refine sp_tape68 ht (fun S3 d1 d2 d3 d4 d5 => ⟨rfl, R0.rel (H.tape (t := t) (l := m) (s := s) ht m60 (Or.inr hk) (fun c q1 q2 q3 q4 => ?_) ?_ ?_ ?_ ?_ (fun c q1 q2 => ?_) (fun k hk => ?_) (fun i hi => ?_))⟩)
        · rw [d1 c q4, e2, uA_ne q3, c1 c q1 q2]
        · rw [d1 39 (by decide), e2, uA_ne (by decide), c2]
        · rw [d1 40 (by decide), e2, uA_ne (by decide), c3]
        · rw [d1 362 (by decide), e2, uA_eq, c1 362 (by decide) (by decide)]
        · rw [d2, e2, uA_ne (by decide), c1 363 (by decide) (by decide)]
        · rw [d3 c q2, e2, show (uA S1 362 t s).2 = S1.2 from rfl, c4 c q1]
        · rw [d5 k hk, e2, show (uA S1 362 t s).2 = S1.2 from rfl, c4 361 (by omega)]
        · rw [d4 i (by omega), d3 _ (by omega), e2, show (uA S1 362 t s).2 = S1.2 from rfl, c5 i (by omega)]
      · exact ref S _ (fun q => absurd (Or.inr hk) q) (fun _ q => absurd l6 q) (fun _ _ _ => ⟨rfl, H.rel⟩) (fun _ _ q => absurd q l0) (fun q => absurd q sne)
      · exact ref S _ (fun q => absurd (Or.inr hk) q) (fun _ _ => ⟨rfl, H.rel⟩) (fun _ q => absurd q l6) (fun _ q => absurd q l6) (fun q => absurd q sne)
      · exact ref S _ (fun _ => ⟨rfl, H.rel⟩) (fun q => absurd q hn) (fun q => absurd q hn) (fun q => absurd q hn) (fun q => absurd q sne)
    · unfold wp_X7_discard
      rw [tn_nI (i := t) (by omega)]
      refine ⟨vi ht (by omega), fun S2 e2 => ⟨vi ht (by omega), fun S4 e4 => ?_⟩⟩
      have no : ¬ ∃ k, k < 5 ∧ s = nI k := fun ⟨k, hk, e⟩ => by
        rw [se] at e
        have := congrArg Int32.toInt e
        rw [nI_toInt (by omega)] at this
        have h2 : (-1 : Int) = (k : Int) := this
        omega
      refine ref S4 _ (fun q => absurd (Or.inl se) q) (fun q => absurd q no) (fun q => absurd q no) (fun q => absurd q no) (fun _ S5 e5 => ?_)
      refine sp_tape68 ht (fun S3 d1 d2 d3 d4 d5 => ⟨rfl, R0.rel (H.tape (t := t) (l := 0) (s := s) ht (by omega) (Or.inl ⟨se, rfl⟩) (fun c q1 q2 q3 q4 => ?_) ?_ ?_ ?_ ?_ (fun c q1 q2 => ?_) (fun k hk => ?_) (fun i hi => by omega))⟩)
      · rw [d1 c q4, e5, uA_ne q3, e4, uA_ne q2, e2, uA_ne q1]
      · rw [d1 39 (by decide), e5, uA_ne (by decide), e4, uA_ne (by decide), e2, uA_eq, se]
      · rw [d1 40 (by decide), e5, uA_ne (by decide), e4, uA_eq, e2, uA_ne (by decide)]; rfl
      · rw [d1 362 (by decide), e5, uA_eq, e4, uA_ne (by decide), e2, uA_ne (by decide)]
      · rw [d2, e5, uA_ne (by decide), e4, uA_ne (by decide), e2, uA_ne (by decide)]
      · rw [d3 c q2, e5, e4, e2]; rfl
      · rw [d5 k hk, e5, e4, e2]; rfl
  · unfold wp_X9_tape
    exact sp_tape9 (fun hk => absurd hk h0) (fun _ => ⟨fun z => absurd rfl z, fun _ => ⟨rfl, H.rel⟩⟩)
