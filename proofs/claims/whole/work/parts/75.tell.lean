/-! the calls that tell -/
theorem op_of {S : Sto} {b : Nat} (x d : Int32) (H : Rel S b) : wp_X8_of x d S (fun r S1 => wp_X9_of x d S1 (fun r' S2 => r = r' ∧ Rel S2 b)) := by
  obtain ⟨n, p, K, gc, ec, bc, H⟩ := H.r0
  obtain ⟨h1, h2, h3, h4, h5, h6, h7⟩ := id H
  have N := h1.nw
  have n4 := N.1.2.2.2.1
  have hw := pow_n n4
  unfold wp_X8_of q_X8_of_36 q_X8_of_37
  have none : (¬ ((∃ k, k < 6 ∧ x = nI k) ∧ ∃ j, j < 2 ^ n ∧ d = nI j)) → wp_X9_of x d S (fun r' S2 => (-1 : Int32) = r' ∧ Rel S2 b) := by
    intro hn
    unfold wp_X9_of q_X9_of_29 q_X9_of_30
    refine sp_elem9 (fun hk => ⟨fun z => absurd z (by decide), fun _ => ?_⟩) (fun _ => ⟨fun _ => ⟨rfl, H.rel⟩, fun z => absurd rfl z⟩)
    exact sp_place9 h2 hw.1 (fun hj => absurd ⟨hk, hj⟩ hn) (fun _ => ⟨fun _ => ⟨rfl, H.rel⟩, fun z => absurd rfl z⟩)
  refine sp_elem8 (fun ⟨k, hk, e⟩ => ⟨fun z => absurd z (by decide), fun _ => ?_⟩) (fun h0 => ⟨fun _ => none (fun q => h0 q.1), fun z => absurd rfl z⟩)
  subst e
  refine sp_place8 N.1.1 n4 (fun ⟨j, hj, e⟩ => ⟨fun z => absurd z (by decide), fun _ => ?_⟩) (fun h0 => ⟨fun _ => none (fun q => h0 q.2), fun z => absurd rfl z⟩)
  subst e
  have le := ln_el k hk
  rw [tn_nI (i := k) (by omega), tn_nI (i := j) (by omega), le]
  refine ⟨vi (by omega) (by omega), vi (by omega) (by omega), ?_⟩
  unfold wp_X9_of q_X9_of_29 q_X9_of_30
  refine sp_elem9 (fun _ => ⟨fun z => absurd z (by decide), fun _ => ?_⟩) (fun h0 => absurd ⟨k, hk, rfl⟩ h0)
  refine sp_place9 h2 hw.1 (fun _ => ⟨fun z => absurd z (by decide), fun _ => ?_⟩) (fun h0 => absurd ⟨j, hj, rfl⟩ h0)
  rw [show (16 : Int32) = nI 16 from rfl, pk_mul, nI_add, tn_nI (by omega)]
  refine ⟨vi (by omega) (by omega), ?_, H.rel⟩
  rw [show 2 + 1 + k = 1 + 2 + k by omega]
  exact (h1.2.2.2.1 k hk j (by omega)).1.symm
theorem op_told {S : Sto} {b : Nat} (x : Int32) (H : Rel S b) : wp_X8_told x S (fun r S1 => wp_X9_told x S1 (fun r' S2 => r = r' ∧ Rel S2 b)) := by
  obtain ⟨n, p, K, gc, ec, bc, H⟩ := H.r0
  obtain ⟨h1, h2, h3, h4, h5, h6, h7⟩ := id H
  obtain ⟨b1, b2, b3, b4, b5, b6⟩ := h1.2.1
  obtain ⟨c1, c2, c3, c4, c5, c6⟩ := h1.2.2.1
  have n4 := h1.nw.1.2.2.2.1
  have d1 : S.1 353 0 = nI n := c1
  have d2 : S.1 353 1 = nI p := c2
  have d3 : S.1 353 2 = nI K := c3
  have d4 : S.1 353 6 = nI gc := c4
  unfold wp_X8_told wp_X9_told
  refine ⟨fun q => ⟨fun _ => ⟨rfl, H.rel⟩, fun e => ?_, fun e => ?_, fun e => ?_, fun e => ?_, fun e => ?_⟩, fun e => ?_, fun e => ?_, fun e => ?_, fun e => ?_, fun e => sp_width b1 n4 ?_⟩
  · rw [e] at q; exact absurd q (by decide)
  · rw [e] at q; exact absurd q (by decide)
  · rw [e] at q; exact absurd q (by decide)
  · rw [e] at q; exact absurd q (by decide)
  · rw [e] at q; exact absurd q (by decide)
  · subst e
    exact ⟨fun q => absurd q (by decide), fun _ => ⟨by rw [b1, d1], H.rel⟩, fun q => absurd q (by decide), fun q => absurd q (by decide), fun q => absurd q (by decide), fun q => absurd q (by decide)⟩
  · subst e
    exact ⟨fun q => absurd q (by decide), fun q => absurd q (by decide), fun _ => ⟨by rw [b2, d2], H.rel⟩, fun q => absurd q (by decide), fun q => absurd q (by decide), fun q => absurd q (by decide)⟩
  · subst e
    exact ⟨fun q => absurd q (by decide), fun q => absurd q (by decide), fun q => absurd q (by decide), fun _ => ⟨by rw [b3, d3], H.rel⟩, fun q => absurd q (by decide), fun q => absurd q (by decide)⟩
  · subst e
    exact ⟨fun q => absurd q (by decide), fun q => absurd q (by decide), fun q => absurd q (by decide), fun q => absurd q (by decide), fun _ => ⟨by rw [b4, d4], H.rel⟩, fun q => absurd q (by decide)⟩
  · subst e
    exact ⟨fun q => absurd q (by decide), fun q => absurd q (by decide), fun q => absurd q (by decide), fun q => absurd q (by decide), fun q => absurd q (by decide), fun _ => ⟨by rw [h2], H.rel⟩⟩
theorem op_counted {S : Sto} {b : Nat} (x : Int32) (H : Rel S b) : wp_X8_counted x S (fun r S1 => wp_X9_counted x S1 (fun r' S2 => r = r' ∧ Rel S2 b)) := by
  obtain ⟨n, p, K, gc, ec, bc, H⟩ := H.r0
  obtain ⟨h1, h2, ⟨tl, t1, t2, t3, t4⟩, h4, h5, h6, h7⟩ := id H
  obtain ⟨b1, b2, b3, b4, b5, b6⟩ := h1.2.1
  obtain ⟨c1, c2, c3, c4, c5, c6⟩ := h1.2.2.1
  have d5 : S.1 353 9 = nI ec := c5
  have d6 : S.1 353 12 = nI bc := c6
  unfold wp_X8_counted wp_X9_counted
  refine ⟨fun q => ⟨fun _ => ⟨rfl, H.rel⟩, fun e => ?_, fun e => ?_, fun e => ?_⟩, fun e => ?_, fun e => ?_, fun e => ?_⟩
  · rw [e] at q; exact absurd q (by decide)
  · rw [e] at q; exact absurd q (by decide)
  · rw [e] at q; exact absurd q (by decide)
  · subst e
    exact ⟨fun q => absurd q (by decide), fun _ => ⟨by rw [b5, d5], H.rel⟩, fun q => absurd q (by decide), fun q => absurd q (by decide)⟩
  · subst e
    exact ⟨fun q => absurd q (by decide), fun q => absurd q (by decide), fun _ => ⟨by rw [b6, d6], H.rel⟩, fun q => absurd q (by decide)⟩
  · subst e
    exact ⟨fun q => absurd q (by decide), fun q => absurd q (by decide), fun q => absurd q (by decide), fun _ => ⟨by rw [t2, t3], H.rel⟩⟩
theorem sp_gen8 {x : Int32} {gc : Nat} {S : Sto} {Q : Int32 → Sto → Prop} (hg : S.1 1 5 = nI gc) (h4 : gc ≤ 4) (h1 : (∃ s, s < gc ∧ x = nI s) → Q 1 S) (h0 : (¬ ∃ s, s < gc ∧ x = nI s) → Q 0 S) : wp_X4_hasGenerator x S Q := by
  unfold wp_X4_hasGenerator q_X4_hasGenerator_16 q_X4_hasGenerator_17
  have neg : x < 0 → ¬ ∃ s, s < gc ∧ x = nI s := fun h ⟨s, hs, e⟩ => by rw [e] at h; exact nI_pos (by omega) h
  refine ⟨fun h => ⟨narb0, h0 (neg h)⟩, fun h => ?_⟩
  obtain ⟨k, hk, rfl⟩ := nI_of h
  rw [hg, nI_leI (by omega) hk]
  refine ⟨fun q => ⟨narb0, h0 (fun ⟨s, hs, e⟩ => ?_)⟩, fun q => ⟨narb1, h1 ⟨k, by omega, rfl⟩⟩⟩
  rw [nI_eq hk (by omega)] at e; omega
theorem op_generator {S : Sto} {b : Nat} (x d : Int32) (H : Rel S b) : wp_X8_generator x d S (fun r S1 => wp_X9_generator x d S1 (fun r' S2 => r = r' ∧ Rel S2 b)) := by
  obtain ⟨n, p, K, gc, ec, bc, H⟩ := H.r0
  obtain ⟨h1, h2, h3, h4, h5, h6, h7⟩ := id H
  have N := h1.nw
  have n4 := N.1.2.2.2.1
  have hw := pow_n n4
  have g4 := N.2.2.2.2.1
  have d4 : S.1 353 6 = nI gc := h1.2.2.1.2.2.2.1
  unfold wp_X8_generator q_X8_generator_36 q_X8_generator_37
  have none : (¬ ((∃ k, k < gc ∧ x = nI k) ∧ ∃ j, j < 2 ^ n ∧ d = nI j)) → wp_X9_generator x d S (fun r' S2 => (-1 : Int32) = r' ∧ Rel S2 b) := by
    intro hn
    unfold wp_X9_generator q_X9_generator_38 q_X9_generator_39
    rw [d4, nI_m1 (by omega)]
    refine sp_inN (k := gc) (by omega) rfl (fun hk => ⟨fun z => absurd z (by decide), fun _ => ?_⟩) (fun _ => ⟨fun _ => ⟨rfl, H.rel⟩, fun z => absurd rfl z⟩)
    exact sp_place9 h2 hw.1 (fun hj => absurd ⟨hk, hj⟩ hn) (fun _ => ⟨fun _ => ⟨rfl, H.rel⟩, fun z => absurd rfl z⟩)
  refine sp_gen8 h1.2.1.2.2.2.1 g4 (fun ⟨k, hk, e⟩ => ⟨fun z => absurd z (by decide), fun _ => ?_⟩) (fun h0 => ⟨fun _ => none (fun q => h0 q.1), fun z => absurd rfl z⟩)
  subst e
  refine sp_place8 N.1.1 n4 (fun ⟨j, hj, e⟩ => ⟨fun z => absurd z (by decide), fun _ => ?_⟩) (fun h0 => ⟨fun _ => none (fun q => h0 q.2), fun z => absurd rfl z⟩)
  subst e
  have le := ln_gen k (by omega)
  rw [tn_nI (i := k) (by omega), tn_nI (i := j) (by omega), le]
  refine ⟨vi (by omega) (by omega), vi (by omega) (by omega), ?_⟩
  show wp_X9_generator (nI k) (nI j) S _
  unfold wp_X9_generator q_X9_generator_38 q_X9_generator_39
  rw [d4, nI_m1 (by omega)]
  refine sp_inN (k := gc) (by omega) rfl (fun _ => ⟨fun z => absurd z (by decide), fun _ => ?_⟩) (fun h0 => absurd ⟨k, hk, rfl⟩ h0)
  refine sp_place9 h2 hw.1 (fun _ => ⟨fun z => absurd z (by decide), fun _ => ?_⟩) (fun h0 => absurd ⟨j, hj, rfl⟩ h0)
  rw [show (16 : Int32) = nI 16 from rfl, pk_mul, nI_add, tn_nI (by omega)]
  refine ⟨vi (by omega) (by omega), ?_, H.rel⟩
  rw [show 9 + 1 + k = 1 + 9 + k by omega]
  exact (h1.2.2.2.2.1 k hk j (by omega)).1.symm
theorem op_places {S : Sto} {b : Nat} (x d : Int32) (H : Rel S b) : wp_X8_places x d S (fun r S1 => wp_X9_places x d S1 (fun r' S2 => r = r' ∧ Rel S2 b)) := by
  obtain ⟨n, p, K, gc, ec, bc, H⟩ := H.r0
  obtain ⟨h1, h2, h3, h4, h5, h6, h7⟩ := id H
  have N := h1.nw
  have n4 := N.1.2.2.2.1
  have hw := pow_n n4
  unfold wp_X8_places q_X8_places_22 q_X8_places_49
  have none : (¬ ((∃ k, k < 2 ^ n ∧ x = nI k) ∧ ∃ j, j < 2 ^ n ∧ d = nI j)) → wp_X9_places x d S (fun r' S2 => (-1 : Int32) = r' ∧ Rel S2 b) := by
    intro hn
    unfold wp_X9_places q_X9_places_16
    refine sp_place9 h2 hw.1 (fun hk => ⟨fun z => absurd z (by decide), fun _ => ?_⟩) (fun _ => ⟨fun _ => ⟨rfl, H.rel⟩, fun z => absurd rfl z⟩)
    exact sp_place9 h2 hw.1 (fun hj => absurd ⟨hk, hj⟩ hn) (fun _ => ⟨fun z => absurd rfl z, fun _ => ⟨rfl, H.rel⟩⟩)
  refine sp_place8 N.1.1 n4 (fun ⟨k, hk, e⟩ => ⟨fun z => absurd z (by decide), fun _ => ?_⟩) (fun h0 => ⟨fun _ => none (fun q => h0 q.1), fun z => absurd rfl z⟩)
  subst e
  refine sp_place8 N.1.1 n4 (fun ⟨j, hj, e⟩ => ⟨fun _ => ?_, fun z => absurd z (by decide)⟩) (fun h0 => ⟨fun z => absurd rfl z, fun _ => none (fun q => h0 q.2)⟩)
  subst e
  have ref : ∀ a : Int32, (¬ iI (sg k j) = 0 → a = 100 * (nI k ||| nI j) + iI (sg k j) + 1) → (iI (sg k j) = 0 → a = -5) → wp_X9_places (nI k) (nI j) S (fun r' S2 => a = r' ∧ Rel S2 b) := by
    intro a a1 a2
    unfold wp_X9_places q_X9_places_16 q_X9_places_43
    refine sp_place9 h2 hw.1 (fun _ => ⟨fun z => absurd z (by decide), fun _ => ?_⟩) (fun h0 => absurd ⟨k, hk, rfl⟩ h0)
    refine sp_place9 h2 hw.1 (fun _ => ⟨fun _ => ?_, fun z => absurd z (by decide)⟩) (fun h0 => absurd ⟨j, hj, rfl⟩ h0)
    exact sp_sign9 (by omega) (by omega) ⟨fun q => ⟨a1 q, H.rel⟩, fun q => ⟨a2 q, H.rel⟩⟩
  exact sp_sign (by omega) (by omega) ⟨fun q => ref _ (fun _ => rfl) (fun z => absurd z q), fun q => ref _ (fun z => absurd q z) (fun _ => rfl)⟩
