/-! the image -/
theorem op_undo {S : Sto} {b : Nat} (hb : b + 1 < 1000000) (H : Rel S b) : wp_X8_undo S (fun r S1 => wp_X9_undo S1 (fun r' S2 => r = r' ∧ Rel S2 (b + 1))) := by
  obtain ⟨n, p, K, gc, ec, bc, H⟩ := H.r0
  unfold wp_X8_undo
  rcases H.2.2.2.2.1 with ⟨i1, i2⟩ | ⟨i1, i2, n', p', K', gc', ec', bc', I⟩
  · refine ⟨fun q => absurd i1 q, fun _ => ?_⟩
    unfold wp_X9_undo
    exact ⟨fun q => absurd i2 q, fun _ => ⟨rfl, H.rel.mono (by omega)⟩⟩
  · refine ⟨fun _ => ?_, fun q => by rw [i1] at q; exact absurd q (by decide)⟩
    refine sp_copyFrom (Or.inr ⟨rfl, rfl⟩) (fun S1 C => ?_)
    obtain ⟨c1, c2, c3, c4, c5, c6, c7⟩ := C
    obtain ⟨r1, r2, r3, r4, r5, r6, r7⟩ := I
    have o : ∀ c, ¬ (1 ≤ c ∧ c ≤ 17) → S1.1 c = S.1 c := fun c hc => c1 c (by omega)
    unfold wp_X9_undo
    rw [o 353 (by decide)]
    refine ⟨fun _ => sp_again (Or.inl rfl) (fun S2 A => ?_), fun q => by rw [i2] at q; exact absurd q (by decide)⟩
    obtain ⟨a1, a2, a3, a4, a5, a6, a7, a8, a9, a10, a11⟩ := A
    have e364 : S1.1 364 = S.1 364 := o 364 (by decide)
    rw [e364] at a4 a5 a6 a7 a8 a9 a10 a11
    have s1 : ∀ c, 1 ≤ c → c ≤ 17 → S2.1 c = S1.1 c := fun c x y => a1 c (by omega) (by omega)
    have fm : ∀ j, j < 6 → flM S2 j = S.1 364 j := a4
    have x0 : S2.1 1 0 = nI n' := by rw [s1 1 (by omega) (by omega), c3 0 (by omega)]; exact r2.1
    have g6 : S2.1 353 6 = nI gc' := (fm 3 (by decide)).trans r3.2.2.2.1
    have n4 := r1.2.1
    have hf : oth S S2 := ⟨fun c hc => by rw [a1 c (by omega) (by omega), o c (by omega)], by rw [a3 14 (by decide) (by decide) (by decide) (by decide) (by decide) (by decide) (by decide), o 353 (by decide)], by rw [a3 21 (by decide) (by decide) (by decide) (by decide) (by decide) (by decide) (by decide), o 353 (by decide)], by rw [a2, c2]⟩
    refine ⟨by rw [c3 5 (by omega), g6]; exact r2.2.2.2.1, H.newEd hf hb (n' := n') (p' := p') (K' := K') (gc' := gc') (ec' := ec') (bc' := bc') ⟨r1, ⟨x0, ?_, ?_, ?_, ?_, ?_⟩, ⟨(fm 0 (by decide)).trans r3.1, (fm 1 (by decide)).trans r3.2.1, (fm 2 (by decide)).trans r3.2.2.1, (fm 3 (by decide)).trans r3.2.2.2.1, (fm 4 (by decide)).trans r3.2.2.2.2.1, (fm 5 (by decide)).trans r3.2.2.2.2.2⟩, fun e he i hi => ?_, fun g hg i hi => ?_, fun i hi => ?_, fun i hi => ?_⟩ ?_ ?_ ?_⟩
    · rw [s1 1 (by omega) (by omega), c3 1 (by omega)]; exact r2.2.1
    · rw [s1 1 (by omega) (by omega), c3 2 (by omega)]; exact r2.2.2.1
    · rw [s1 1 (by omega) (by omega), c3 5 (by omega)]; exact r2.2.2.2.1
    · rw [s1 1 (by omega) (by omega), c3 8 (by omega)]; exact r2.2.2.2.2.1
    · rw [s1 1 (by omega) (by omega), c3 11 (by omega)]; exact r2.2.2.2.2.2
    · have k := r4 e he i hi
      dsimp only at k ⊢
      rw [a6, fl_lt _ _ (by omega), show 1 + 2 + e = 1 + 1 + 1 + e by omega, s1 _ (by omega) (by omega), c5 e he i hi, show 18 + 1 + 1 + e = 18 + 2 + e by omega]
      exact k
    · have g4 := r1.2.2.2.2.1
      have k := r5 g hg i hi
      dsimp only at k ⊢
      rw [a7, fl_lt _ _ (by omega), show 1 + 9 + g = 1 + 8 + 1 + g by omega, s1 _ (by omega) (by omega), c6 g (by omega) i hi, show 18 + 8 + 1 + g = 18 + 9 + g by omega]
      exact k
    · have e8 := r1.2.2.2.2.2.1
      have k := r6 i hi
      dsimp only at k ⊢
      have q := c7 i (by omega)
      rw [a8, a9, fl_lt _ _ (by omega), fl_lt _ _ (by omega), s1 (1 + 13) (by omega) (by omega), s1 (1 + 14) (by omega) (by omega), q.1, q.2.1]
      exact k
    · have e8 := r1.2.2.2.2.2.2
      have k := r7 i hi
      dsimp only at k ⊢
      have q := c7 i (by omega)
      rw [a10, a11, fl_lt _ _ (by omega), fl_lt _ _ (by omega), s1 (1 + 15) (by omega) (by omega), s1 (1 + 16) (by omega) (by omega), q.2.2.1, q.2.2.2]
      exact k
    · rw [a5, show S.1 364 0 = nI n' from r3.1, shl_n n' (by omega)]
    · rw [s1 1 (by omega) (by omega)]; exact c4
    · rw [a1 106 (by omega) (by omega), o 106 (by omega)]
theorem op_image {S : Sto} {b : Nat} (H : Rel S b) : wp_X8_image S (fun r S1 => wp_X9_image S1 (fun r' S2 => r = r' ∧ Rel S2 b)) := by
  obtain ⟨n, p, K, gc, ec, bc, H⟩ := H.r0
  unfold wp_X8_image
  refine sp_copyFrom (Or.inl ⟨rfl, rfl⟩) (fun S1 C S3 e3 => ?_)
  obtain ⟨c1, c2, c3, c4, c5, c6, c7⟩ := C
  obtain ⟨h1, h2, h3, h4, h5, h6, ed, h7, h8⟩ := id H
  obtain ⟨r1, r2, r3, r4, r5, r6, r7⟩ := id h1
  have N := h1.nw
  have o : ∀ c, c ≠ 0 → ¬ (18 ≤ c ∧ c ≤ 34) → S3.1 c = S.1 c := fun c a d => by rw [e3, uA_ne a, c1 c (by omega)]
  unfold wp_X9_image
  refine sp_keepTo (Or.inl rfl) (fun F hF S4 e4 => ?_)
  obtain ⟨k1, k2, k3, k4⟩ := hF
  have o4 : ∀ c, c ≠ 353 → c ≠ 364 → S4.1 c = S3.1 c := fun c a d => by rw [e4, uA_ne a, setA_ne _ _ d]
  have f4 : ∀ j, S4.1 353 j = if j = 21 then 1 else S.1 353 j := fun j => by rw [e4, uA353, setA_ne _ _ (by decide), o 353 (by decide) (by decide)]
  have e364 : S4.1 364 = F := by rw [e4, uA_ne (by decide), setA_eq]
  have oo : ∀ c, c ≠ 353 → c ≠ 364 → c ≠ 0 → ¬ (18 ≤ c ∧ c ≤ 34) → S4.1 c = S.1 c := fun c a d g h => by rw [o4 c a d, o c g h]
  have fm : ∀ j, j < 6 → flM S4 j = flM S j := by
    intro j hj
    unfold flM
    have : ∀ j, j < 6 → (([0, 1, 2, 6, 9, 12] : List Nat).getD j 0) ≠ 21 := by decide
    rw [f4, if_neg (this j hj)]
  have fS : ∀ j, flM S3 j = flM S j := fun j => by unfold flM; rw [o 353 (by decide) (by decide)]
  have o5 : ∀ c, 18 ≤ c → c ≤ 34 → S4.1 c = S1.1 c := fun c a d => by rw [o4 c (by omega) (by omega), e3, uA_ne (by omega)]
  refine ⟨?_, R0.rel (n := n) (p := p) (K := K) (gc := gc) (ec := ec) (bc := bc) ⟨Same.keep' h1 (fun c x y => oo c (by omega) (by omega) (by omega) (by omega)) fm (fun k _ i _ => by rw [oo 354 (by decide) (by decide) (by decide) (by decide)]) (fun k _ i _ => by rw [oo 355 (by decide) (by decide) (by decide) (by decide)]) (fun i _ => by rw [oo 356 (by decide) (by decide) (by decide) (by decide), oo 357 (by decide) (by decide) (by decide) (by decide), oo 358 (by decide) (by decide) (by decide) (by decide), oo 359 (by decide) (by decide) (by decide) (by decide)]; exact ⟨rfl, rfl, rfl, rfl⟩), by rw [f4]; exact h2, ?_, ?_, Or.inr ⟨?_, by rw [f4]; rfl, n, p, K, gc, ec, bc, ⟨r1, ⟨?_, ?_, ?_, ?_, ?_, ?_⟩, ⟨?_, ?_, ?_, ?_, ?_, ?_⟩, fun e he i hi => ?_, fun g hg i hi => ?_, fun i hi => ?_, fun i hi => ?_⟩⟩, h6.keep N.2.2.2.2.1 (oo 1 (by decide) (by decide) (by decide) (by decide)) (fun i hi => oo _ (by omega) (by omega) (by omega) (by omega)) (fun c x y => oo c (by omega) (by omega) (by omega) (by omega)), ed, by rw [oo 1 (by decide) (by decide) (by decide) (by decide)]; exact h7, h8⟩⟩
  · rw [o 1 (by decide) (by decide), f4]; exact r2.2.2.2.1.trans r3.2.2.2.1.symm
  · unfold Txt
    rw [oo 35 (by decide) (by decide) (by decide) (by decide), oo 36 (by decide) (by decide) (by decide) (by decide), oo 360 (by decide) (by decide) (by decide) (by decide), f4]
    exact h3
  · unfold Tap
    rw [oo 39 (by decide) (by decide) (by decide) (by decide), oo 40 (by decide) (by decide) (by decide) (by decide), oo 362 (by decide) (by decide) (by decide) (by decide), oo 363 (by decide) (by decide) (by decide) (by decide), show S4.2 = S.2 by rw [e4, e3]; exact c2]
    exact h4
  · rw [o4 0 (by decide) (by decide), e3, uA_eq, upd_eq]
  · rw [o5 18 (by omega) (by omega), c3 0 (by omega)]; exact r2.1
  · rw [o5 18 (by omega) (by omega), c3 1 (by omega)]; exact r2.2.1
  · rw [o5 18 (by omega) (by omega), c3 2 (by omega)]; exact r2.2.2.1
  · rw [o5 18 (by omega) (by omega), c3 5 (by omega)]; exact r2.2.2.2.1
  · rw [o5 18 (by omega) (by omega), c3 8 (by omega)]; exact r2.2.2.2.2.1
  · rw [o5 18 (by omega) (by omega), c3 11 (by omega)]; exact r2.2.2.2.2.2
  · rw [e364, k1 0 (by decide), fS]; exact r3.1
  · rw [e364, k1 1 (by decide), fS]; exact r3.2.1
  · rw [e364, k1 2 (by decide), fS]; exact r3.2.2.1
  · rw [e364, k1 3 (by decide), fS]; exact r3.2.2.2.1
  · rw [e364, k1 4 (by decide), fS]; exact r3.2.2.2.2.1
  · rw [e364, k1 5 (by decide), fS]; exact r3.2.2.2.2.2
  · have k := r4 e he i hi
    dsimp only at k ⊢
    rw [e364, k2 _ (by omega), o 354 (by decide) (by decide), show 18 + 2 + e = 18 + 1 + 1 + e by omega, o5 (18 + 1 + 1 + e) (by omega) (by omega), c5 e he i hi, show 1 + 1 + 1 + e = 1 + 2 + e by omega]
    exact k
  · have g4 := r1.2.2.2.2.1
    have k := r5 g hg i hi
    dsimp only at k ⊢
    rw [e364, k3 _ (by omega), o 355 (by decide) (by decide), show 18 + 9 + g = 18 + 8 + 1 + g by omega, o5 (18 + 8 + 1 + g) (by omega) (by omega), c6 g (by omega) i hi, show 1 + 8 + 1 + g = 1 + 9 + g by omega]
    exact k
  · have e8 := r1.2.2.2.2.2.1
    have k := r6 i hi
    dsimp only at k ⊢
    have q := c7 i (by omega)
    have q2 := k4 i (by omega)
    rw [o5 (18 + 13) (by omega) (by omega), o5 (18 + 14) (by omega) (by omega), q.1, q.2.1, e364, q2.1, q2.2.1, o 356 (by decide) (by decide), o 357 (by decide) (by decide)]
    exact k
  · have e8 := r1.2.2.2.2.2.2
    have k := r7 i hi
    dsimp only at k ⊢
    have q := c7 i (by omega)
    have q2 := k4 i (by omega)
    rw [o5 (18 + 15) (by omega) (by omega), o5 (18 + 16) (by omega) (by omega), q.2.2.1, q.2.2.2, e364, q2.2.2.1, q2.2.2.2, o 358 (by decide) (by decide), o 359 (by decide) (by decide)]
    exact k
