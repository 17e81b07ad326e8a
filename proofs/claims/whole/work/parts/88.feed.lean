/-! text and tapes changed -/
theorem Same.keep' {S S' : Sto} {h n p K gc ec bc : Nat} {fl fl' el el' ge ge' es es' en' en'' sp sp' nu nu'} (H : Same S h fl el ge es en' sp nu n p K gc ec bc) (e : ∀ c, h ≤ c → c ≤ h + 16 → S'.1 c = S.1 c)
    (e1 : ∀ j, j < 6 → fl' j = fl j) (e2 : ∀ k, k < 6 → ∀ i, i < 16 → el' k i = el k i) (e3 : ∀ k, k < 4 → ∀ i, i < 16 → ge' k i = ge k i) (e4 : ∀ i, i < 8 → es' i = es i ∧ en'' i = en' i ∧ sp' i = sp i ∧ nu' i = nu i) : Same S' h fl' el' ge' es' en'' sp' nu' n p K gc ec bc := by
  obtain ⟨a, b, c, d, g, v, k⟩ := H
  refine ⟨a, ?_, ?_, fun x hx i hi => ?_, fun x hx i hi => ?_, fun i hi => ?_, fun i hi => ?_⟩
  · rw [e h (by omega) (by omega)]; exact b
  · rw [e1 0 (by decide), e1 1 (by decide), e1 2 (by decide), e1 3 (by decide), e1 4 (by decide), e1 5 (by decide)]; exact c
  · rw [e _ (by omega) (by omega), e2 x hx i hi]; exact d x hx i hi
  · have := a.2.2.2.2.1
    rw [e _ (by omega) (by omega), e3 x (by omega) i hi]; exact g x hx i hi
  · have := e4 i (by have := a.2.2.2.2.2.1; omega)
    rw [this.1, this.2.1, e _ (by omega) (by omega), e _ (by omega) (by omega)]; exact v i hi
  · have := e4 i (by have := a.2.2.2.2.2.2; omega)
    rw [this.2.2.1, this.2.2.2, e _ (by omega) (by omega), e _ (by omega) (by omega)]; exact k i hi
theorem R0.out {S S' : Sto} {b n p K gc ec bc : Nat} (H : R0 S b n p K gc ec bc) (f : ∀ c, ¬ (35 ≤ c ∧ c ≤ 47) → c ≠ 353 → ¬ (360 ≤ c ∧ c ≤ 363) → c < 365 → S'.1 c = S.1 c) (f2 : ∀ j, j < 22 → j ≠ 14 → j ≠ 15 → S'.1 353 j = S.1 353 j) (hT : Txt S') (hA : Tap S') : R0 S' b n p K gc ec bc := by
  obtain ⟨h1, h2, -, -, h5, h6, ed, h7, h8⟩ := H
  have N := h1.nw
  have fm : ∀ j, j < 6 → flM S' j = flM S j := by
    intro j hj
    unfold flM
    have : ∀ j, j < 6 → (([0, 1, 2, 6, 9, 12] : List Nat).getD j 0) < 22 ∧ (([0, 1, 2, 6, 9, 12] : List Nat).getD j 0) ≠ 14 ∧ (([0, 1, 2, 6, 9, 12] : List Nat).getD j 0) ≠ 15 := by decide
    exact f2 _ (this j hj).1 (this j hj).2.1 (this j hj).2.2
  refine ⟨Same.keep' h1 (fun c c1 c2 => f c (by omega) (by omega) (by omega) (by omega)) fm (fun k _ i _ => by rw [f 354 (by decide) (by decide) (by decide) (by decide)]) (fun k _ i _ => by rw [f 355 (by decide) (by decide) (by decide) (by decide)]) (fun i _ => by rw [f 356 (by decide) (by decide) (by decide) (by decide), f 357 (by decide) (by decide) (by decide) (by decide), f 358 (by decide) (by decide) (by decide) (by decide), f 359 (by decide) (by decide) (by decide) (by decide)]; exact ⟨rfl, rfl, rfl, rfl⟩), by rw [f2 3 (by decide) (by decide) (by decide)]; exact h2, hT, hA, ?_, ?_, ed, by rw [f 1 (by decide) (by decide) (by decide) (by decide)]; exact h7, h8⟩
  · rcases h5 with ⟨a, a'⟩ | ⟨a, a', n, p, K, gc, ec, bc, a3⟩
    · exact Or.inl ⟨by rw [f 0 (by decide) (by decide) (by decide) (by decide)]; exact a, by rw [f2 21 (by decide) (by decide) (by decide)]; exact a'⟩
    · refine Or.inr ⟨by rw [f 0 (by decide) (by decide) (by decide) (by decide)]; exact a, by rw [f2 21 (by decide) (by decide) (by decide)]; exact a', n, p, K, gc, ec, bc, ?_⟩
      have e := f 364 (by decide) (by decide) (by decide) (by decide)
      exact Same.keep' a3 (fun c c1 c2 => f c (by omega) (by omega) (by omega) (by omega)) (fun j _ => by rw [e]) (fun k _ i _ => by rw [e]) (fun k _ i _ => by rw [e]) (fun i _ => by rw [e]; exact ⟨rfl, rfl, rfl, rfl⟩)
  · exact h6.keep N.2.2.2.2.1 (f 1 (by decide) (by decide) (by decide) (by decide)) (fun i hi => f _ (by omega) (by omega) (by omega) (by omega)) (fun c c1 c2 => f c (by omega) (by omega) (by omega) (by omega))
theorem op_feed {S : Sto} {b : Nat} (x : Int32) (H : Rel S b) : wp_X8_feed x S (fun r S1 => wp_X9_feed x S1 (fun r' S2 => r = r' ∧ Rel S2 b)) := by
  obtain ⟨n, p, K, gc, ec, bc, H⟩ := H.r0
  obtain ⟨h1, h2, ⟨tl, t0, t1, t2, t3⟩, h4, h5, h6, h7⟩ := id H
  have m127 : (127 : Int64) = iL (((128 : Nat) : Int) - 1) := by decide
  have none : (¬ ∃ c, c < 128 ∧ x = nI c) → wp_X9_feed x S (fun r' S2 => (-2 : Int32) = r' ∧ Rel S2 b) := by
    intro hn
    unfold wp_X9_feed
    exact sp_inN (k := 128) (by omega) m127 (fun h => absurd h hn) (fun _ => ⟨fun z => absurd rfl z, fun _ => ⟨rfl, H.rel⟩⟩)
  have hx := ex_iff (x := x) (k := 128) (by omega)
  unfold wp_X8_feed q_X8_feed_10 q_X8_feed_36
  refine ⟨fun q => none (fun ⟨c, hc, e⟩ => by rw [e] at q; exact nI_pos (by omega) q), fun q => ?_⟩
  obtain ⟨c, hc, rfl⟩ := nI_of q
  rw [show (127 : Int32) = nI 127 from rfl, nI_leI hc (by omega)]
  refine ⟨fun q2 => ?_, fun q2 => none (fun ⟨d, hd, e⟩ => by rw [nI_eq hc (by omega)] at e; omega)⟩
  have ref : ∀ S1, (∀ k, k ≠ 35 → k ≠ 36 → S1.1 k = S.1 k) → ∀ Q : Int32 → Sto → Prop, (tl = 100 → Q (-4) S1) → (tl ≠ 100 → ∀ S2, S2 = uA (uA S1 353 14 (nI (tl + 1))) 360 tl (nI c) → Q (nI (tl + 1)) S2) → wp_X9_feed (nI c) S1 Q := by
    intro S1 o Q r1 r2
    unfold wp_X9_feed
    refine sp_inN (k := 128) (by omega) m127 (fun _ => ⟨fun _ => ?_, fun z => absurd z (by decide)⟩) (fun h0 => absurd ⟨c, by omega, rfl⟩ h0)
    rw [o 353 (by decide) (by decide), t2, show (100 : Int32) = nI 100 from rfl, nI_eq (by omega) (by omega), tn_nI (by omega), nI_1]
    refine ⟨fun ne S5 e5 => ⟨vi (by omega) (by omega), fun S7 e7 => ?_⟩, fun e => r1 e⟩
    have : S7.1 353 14 = nI (tl + 1) := by rw [e7, uA_ne (by decide), e5, uA_eq, upd_eq]
    rw [this]
    exact r2 ne S7 (by rw [e7, e5])
  unfold wp_X3_append
  rw [t1, show (100 : Int32) = nI 100 from rfl, nI_ltI (by omega) (by omega), tn_nI (by omega)]
  refine ⟨fun lt => ⟨vi (by omega) (by omega), fun S3 e3 S4 e4 => ⟨fun z => absurd z (by decide), fun _ => ?_⟩⟩, fun ge => ⟨fun _ => ref S (fun _ _ _ => rfl) _ (fun _ => ⟨rfl, H.rel⟩) (fun ne => by omega), fun z => absurd rfl z⟩⟩
  have l4 : S4.1 35 1 = nI (tl + 1) := by rw [e4, uA_eq, upd_eq, e3, uA_ne (by decide), t1, nI_1]
  rw [l4]
  refine ref S4 (fun k a b => by rw [e4, uA_ne a, e3, uA_ne b]) _ (fun e => by omega) (fun _ S2 e2 => ⟨rfl, R0.rel (H.out ?_ ?_ ?_ ?_)⟩)
  · intro k k1 k2 k3 _
    rw [e2, uA_ne (by omega), uA_ne k2, e4, uA_ne (by omega), e3, uA_ne (by omega)]
  · intro j _ j1 _
    rw [e2, uA_ne (by decide), uA_eq, upd_ne _ _ j1, e4, uA_ne (by decide), e3, uA_ne (by decide)]
  · refine ⟨tl + 1, by omega, ?_, ?_, fun i hi => ?_⟩
    · rw [e2, uA_ne (by decide), uA_ne (by decide)]; exact l4
    · rw [e2, uA_ne (by decide), uA_eq, upd_eq]
    · have e360 : S2.1 360 i = upd (S.1 360) tl (nI c) i := by rw [e2, uA_eq, uA_ne (by decide), e4, uA_ne (by decide), e3, uA_ne (by decide)]
      have e36 : S2.1 36 i = upd (S.1 36) tl (nI c) i := by rw [e2, uA_ne (by decide), uA_ne (by decide), e4, uA_ne (by decide), e3, uA_eq]
      rw [e360, e36]
      by_cases q : i = tl
      · rw [q, upd_eq, upd_eq]; exact ⟨rfl, c, by omega, rfl⟩
      · rw [upd_ne _ _ q, upd_ne _ _ q]; exact t3 i (by omega)
  · have o : ∀ k, k ≠ 35 → k ≠ 36 → k ≠ 353 → k ≠ 360 → S2.1 k = S.1 k := fun k a b c d => by rw [e2, uA_ne d, uA_ne c, e4, uA_ne a, e3, uA_ne b]
    unfold Tap
    rw [o 39 (by decide) (by decide) (by decide) (by decide), o 40 (by decide) (by decide) (by decide) (by decide), o 362 (by decide) (by decide) (by decide) (by decide), o 363 (by decide) (by decide) (by decide) (by decide), show S2.2 = S.2 by rw [e2, e4, e3]; rfl]
    exact h4
