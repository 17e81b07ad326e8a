/-! the calls that ask of tapes -/
theorem sp_has8 {x : Int32} {S : Sto} {Q : Int32 → Sto → Prop} (h1 : (∃ s, s < 6 ∧ x = nI s) → Q 1 S) (h0 : (¬ ∃ s, s < 6 ∧ x = nI s) → Q 0 S) : wp_X7_has x S Q := by
  unfold wp_X7_has q_X7_has_14 q_X7_has_15
  have neg : x < 0 → ¬ ∃ s, s < 6 ∧ x = nI s := fun h ⟨s, hs, e⟩ => by rw [e] at h; exact nI_pos (by omega) h
  refine ⟨fun h => ⟨narb0, h0 (neg h)⟩, fun h => ?_⟩
  obtain ⟨k, hk, rfl⟩ := nI_of h
  rw [show (6 : Int32) = nI 6 from rfl, nI_leI (by omega) hk]
  refine ⟨fun q => ⟨narb0, h0 (fun ⟨s, hs, e⟩ => ?_)⟩, fun q => ⟨narb1, h1 ⟨k, by omega, rfl⟩⟩⟩
  rw [nI_eq hk (by omega)] at e; omega
theorem sp_item8 {t l : Nat} {i : Int32} {S : Sto} {Q : Int32 → Sto → Prop} (ht : t < 6) (hl : S.1 40 t = nI l) (l60 : l ≤ 60) (h1 : ∀ k, k < l → i = nI k → Q 1 S) (h0 : (¬ ∃ k, k < l ∧ i = nI k) → Q 0 S) : wp_X7_hasItem (nI t) i S Q := by
  unfold wp_X7_hasItem q_X7_hasItem_18 q_X7_hasItem_19
  have neg : i < 0 → ¬ ∃ s, s < l ∧ i = nI s := fun h ⟨s, hs, e⟩ => by rw [e] at h; exact nI_pos (by omega) h
  refine ⟨fun h => ⟨narb0, h0 (neg h)⟩, fun h => ?_⟩
  obtain ⟨k, hk, rfl⟩ := nI_of h
  rw [tn_nI (by omega), hl, nI_leI (by omega) hk]
  refine ⟨vi ht (by omega), fun q => ⟨narb0, h0 (fun ⟨s, hs, e⟩ => ?_)⟩, fun q => ⟨narb1, h1 k (by omega) rfl⟩⟩
  rw [nI_eq hk (by omega)] at e; omega
theorem sp_item9 {t l : Nat} {i : Int32} {S : Sto} {Q : Int32 → Sto → Prop} (ht : t < 6) (hl : S.1 363 t = nI l) (l60 : l ≤ 60) (h1 : ∀ k, k < l → i = nI k → Q 1 S) (h0 : (¬ ∃ k, k < l ∧ i = nI k) → Q 0 S) : wp_X9_hasItem (nI t) i S Q := by
  unfold wp_X9_hasItem
  rw [tn_nI (by omega), hl, nI_m1 (by omega)]
  exact ⟨vi ht (by omega), sp_inN (k := l) (by omega) rfl (fun ⟨k, hk, e⟩ => ⟨narb1, h1 k hk e⟩) (fun q => ⟨narb0, h0 q⟩)⟩
theorem ln_tp : ∀ t, t < 6 → ln (41 + 1 + t) = 60 := by decide +kernel
theorem op_peek {S : Sto} {b : Nat} (x i : Int32) (H : Rel S b) : wp_X8_peek x i S (fun r S1 => wp_X9_peek x i S1 (fun r' S2 => r = r' ∧ Rel S2 b)) := by
  obtain ⟨n, p, K, gc, ec, bc, H⟩ := H.r0
  obtain ⟨h1, h2, h3, h4, h5, h6, h7⟩ := id H
  unfold wp_X8_peek q_X8_peek_37 q_X8_peek_40
  refine sp_has8 (fun ⟨t, ht, e⟩ => ⟨fun z => absurd z (by decide), fun _ => ?_⟩) (fun h0 => ⟨fun _ => ?_, fun z => absurd rfl z⟩)
  · subst e
    obtain ⟨a1, a2, l, l60, a3, a4, a5⟩ := h4 t ht
    have hl := ln_tp t ht
    have ref : ∀ a : Int64, ((∃ k, k < l ∧ i = nI k ∧ a = S.2 (41 + 1 + t) k) ∨ ((¬ ∃ k, k < l ∧ i = nI k) ∧ a = -9223372036854775808)) → wp_X9_peek (nI t) i S (fun r' S2 => a = r' ∧ Rel S2 b) := by
      intro a ha
      unfold wp_X9_peek q_X9_peek_39 q_X9_peek_42
      refine sp_tape9 (fun _ => ⟨fun z => absurd z (by decide), fun _ => ?_⟩) (fun h0 => absurd ⟨t, ht, rfl⟩ h0)
      rw [tn_nI (i := t) (by omega), a1]
      refine ⟨vi ht (by omega), fun q => ⟨?_, H.rel⟩, fun q => ?_⟩
      · rcases a4 with ⟨e, e2⟩ | ⟨s, hs, e⟩
        · rcases ha with ⟨k, hk, -, -⟩ | ⟨-, e3⟩
          · omega
          · exact e3
        · rw [e] at q; exact absurd q (nI_pos (by omega))
      · refine sp_item9 ht (a2.trans a3) l60 (fun k hk e => ⟨fun z => absurd z (by decide), fun _ => ?_⟩) (fun hn => ⟨fun _ => ⟨?_, H.rel⟩, fun z => absurd rfl z⟩)
        · rw [e, show (60 : Int32) = nI 60 from rfl, pk_mul, nI_add, tn_nI (by omega)]
          refine ⟨vi (by omega) (by omega), ?_, H.rel⟩
          rw [a5 k hk]
          rcases ha with ⟨k', hk', e', e3⟩ | ⟨q, -⟩
          · rw [e, nI_eq (by omega) (by omega)] at e'
            rw [e3, e']
          · exact absurd ⟨k, hk, e⟩ q
        · rcases ha with ⟨k, hk, e, -⟩ | ⟨-, q⟩
          · exact absurd ⟨k, hk, e⟩ hn
          · exact q
    refine sp_item8 ht a3 l60 (fun k hk e => ⟨fun z => absurd z (by decide), fun _ => ?_⟩) (fun hn => ⟨fun _ => ref _ (Or.inr ⟨hn, rfl⟩), fun z => absurd rfl z⟩)
    rw [tn_nI (i := t) (by omega), hl, e, tn_nI (i := k) (by omega)]
    refine ⟨vi ht (by omega), vi (by omega) (by omega), ?_⟩
    rw [← e]
    exact ref _ (Or.inl ⟨k, hk, e, rfl⟩)
  · unfold wp_X9_peek q_X9_peek_39 q_X9_peek_42
    exact sp_tape9 (fun hk => absurd hk h0) (fun _ => ⟨fun _ => ⟨rfl, H.rel⟩, fun z => absurd rfl z⟩)
/-- what judging answers from item i on -/
def jdg (S : Sto) (t k l e : Nat) : Nat → Nat → Int32
  | 0, _ => -5
  | m + 1, i => if k + i < l then (if S.2 (41 + 1 + t) (k + i) = (S.1 (2 + 1 + e) i).toInt64 then jdg S t k l e m (i + 1) else nI i) else nI (100 + i)
theorem op_judge {S : Sto} {b : Nat} (x y z : Int32) (H : Rel S b) : wp_X8_judge x y z S (fun r S1 => wp_X9_judge x y z S1 (fun r' S2 => r = r' ∧ Rel S2 b)) := by
  obtain ⟨n, p, K, gc, ec, bc, H⟩ := H.r0
  obtain ⟨h1, h2, h3, h4, h5, h6, h7⟩ := id H
  have N := h1.nw
  have n2 := N.1.2.2.1
  have n4 := N.1.2.2.2.1
  have hw := pow_n n4
  have w0 : 0 < 2 ^ n := hw.2
  unfold wp_X8_judge q_X8_judge_22 q_X8_judge_69
  have none : (¬ ((∃ k, k < 6 ∧ x = nI k) ∧ ∃ j, j < 6 ∧ y = nI j)) → wp_X9_judge x y z S (fun r' S2 => (-1 : Int32) = r' ∧ Rel S2 b) := by
    intro hn
    unfold wp_X9_judge q_X9_judge_14
    refine sp_elem9 (fun hk => ⟨fun z => absurd z (by decide), fun _ => ?_⟩) (fun _ => ⟨fun _ => ⟨rfl, H.rel⟩, fun z => absurd rfl z⟩)
    exact sp_tape9 (fun hj => absurd ⟨hk, hj⟩ hn) (fun _ => ⟨fun z => absurd rfl z, fun _ => ⟨rfl, H.rel⟩⟩)
  refine sp_elem8 (fun ⟨e, he, ee⟩ => ⟨fun z => absurd z (by decide), fun _ => ?_⟩) (fun h0 => ⟨fun _ => none (fun q => h0 q.1), fun z => absurd rfl z⟩)
  subst ee
  refine sp_has8 (fun ⟨t, ht, et⟩ => ⟨fun _ => ?_, fun z => absurd z (by decide)⟩) (fun h0 => ⟨fun z => absurd rfl z, fun _ => none (fun q => h0 q.2)⟩)
  subst et
  obtain ⟨a1, a2, l, l60, a3, a4, a5⟩ := h4 t ht
  have hl := ln_tp t ht
  have le := ln_el e he
  -- the reference
  have ref0 : ∀ (Q : Int32 → Sto → Prop), (S.1 39 t ≤ 0 → ∃ m, q_X9_judge_31 (nI e) (nI t) z Q m 0 S) → (¬ S.1 39 t ≤ 0 → Q (-12) S) → wp_X9_judge (nI e) (nI t) z S Q := by
    intro Q r1 r2
    unfold wp_X9_judge
    refine sp_elem9 (fun _ => ⟨fun z => absurd z (by decide), fun _ => ?_⟩) (fun h0 => absurd ⟨e, he, rfl⟩ h0)
    refine sp_tape9 (fun _ => ⟨fun _ => ?_, fun z => absurd z (by decide)⟩) (fun h0 => absurd ⟨t, ht, rfl⟩ h0)
    rw [tn_nI (i := t) (by omega), a1]
    exact ⟨vi ht (by omega), r1, r2⟩
  have short : (S.1 39 t < 0 ∨ z < 0 ∨ ∃ k : Nat, k < 2 ^ 31 ∧ z = nI k ∧ l ≤ k) → S.1 39 t ≤ 0 → wp_X9_judge (nI e) (nI t) z S (fun r' S2 => (100 : Int32) = r' ∧ Rel S2 b) := by
    intro hc h0
    refine ref0 _ (fun _ => ⟨1, ?_⟩) (fun q => absurd h0 q)
    unfold q_X9_judge_31 q_X9_judge_70
    rw [h2, show (0 : Int32) = nI 0 from rfl, nI_leI (by omega) (by omega), tn_nI (i := t) (by omega), a1, a2, a3]
    refine ⟨fun q => by omega, fun _ => ⟨vi ht (by omega), fun _ => ⟨rfl, H.rel⟩, fun q1 => ⟨fun _ => ⟨rfl, H.rel⟩, fun q2 => ⟨vi ht (by omega), fun q3 => ?_, fun _ => ⟨rfl, H.rel⟩⟩⟩⟩⟩
    exfalso
    rcases hc with c | c | ⟨k, hk, e, c⟩
    · exact q1 c
    · exact q2 c
    · have q3' : lg_cmp (z.toInt64 + (nI 0).toInt64) (nI l).toInt64 < (0 : Int32) := q3
      rw [lg_cmp_lt, e, i64, i64, i64, nI_toInt hk, nI_toInt (by omega), nI_toInt (by omega), ← iL_add, iL_lt ⟨by omega, by omega⟩ ⟨by omega, by omega⟩] at q3'
      omega
  unfold wp_X7_isEmpty q_X7_isEmpty_15 wp_X7_holdsBytes q_X7_holdsBytes_14
  rw [tn_nI (i := t) (by omega)]
  refine ⟨vi ht (by omega), fun ne => ⟨narb0, fun _ => ⟨vi ht (by omega), fun nb => ⟨narb0, fun q => absurd rfl q, fun _ => ref0 _ (fun q => ?_) (fun _ => ⟨rfl, H.rel⟩)⟩, fun yb => ⟨narb1, fun _ => ?_, fun q => absurd q (by decide)⟩⟩, fun q => absurd rfl q⟩, fun em => ⟨narb1, fun q => absurd q (by decide), fun _ => short (Or.inl ?_) ?_⟩⟩
  · rcases a4 with ⟨e, e2⟩ | ⟨s, hs, e⟩
    · exact absurd e ne
    · rw [e, show (0 : Int32) = nI 0 from rfl, nI_leI (by omega) (by omega)] at q
      rw [e] at nb
      exact absurd (by rw [show s = 0 by omega]; rfl) nb
  · have z0 : S.1 39 t ≤ 0 := by rw [yb]; decide
    refine ⟨fun q => short (Or.inr (Or.inl q)) z0, fun q => ?_⟩
    obtain ⟨k, hk, rfl⟩ := nI_of q
    rw [a3, nI_leI hk (by omega)]
    refine ⟨vi ht (by omega), fun kl => ?_, fun kl => short (Or.inr (Or.inr ⟨k, hk, rfl, by omega⟩)) z0⟩
    have r9 : ∀ (Q : Int32 → Sto → Prop) m i, m + i = 2 ^ n → Q (jdg S t k l e m i) S → q_X9_judge_31 (nI e) (nI t) (nI k) Q (m + 1) (nI i) S := by
      intro Q m
      induction m with
      | zero =>
        intro i hi hq
        unfold q_X9_judge_31
        rw [h2, nI_leI (by omega) (by omega)]
        exact ⟨fun _ => hq, fun q => by omega⟩
      | succ m ih =>
        intro i hi hq
        unfold q_X9_judge_31 q_X9_judge_70
        rw [h2, nI_leI (by omega) (by omega), tn_nI (i := t) (by omega), a1, yb, a2, a3, i64, i64, i64, nI_toInt (by omega), nI_toInt (by omega), nI_toInt (by omega), ← iL_add, lg_cmp_lt, iL_lt ⟨by omega, by omega⟩ ⟨by omega, by omega⟩]
        unfold jdg at hq
        refine ⟨fun q => by omega, fun _ => ⟨vi ht (by omega), fun q => absurd q (by decide), fun _ => ⟨fun q => absurd q (nI_pos (by omega)), fun _ => ⟨vi ht (by omega), fun q => ?_, fun q => ?_⟩⟩⟩⟩
        · rw [if_pos (by omega)] at hq
          rw [show (60 : Int32) = nI 60 from rfl, show (16 : Int32) = nI 16 from rfl, pk_mul, pk_mul, nI_add, nI_add, nI_add, tn_nI (i := 60 * t + k + i) (by omega), tn_nI (i := 16 * e + i) (by omega), lg_cmp_eq, show S.1 354 (16 * e + i) = S.1 (1 + 2 + e) i from (h1.2.2.2.1 e he i (by omega)).1, show 60 * t + k + i = 60 * t + (k + i) by omega, a5 (k + i) (by omega), show 1 + 2 + e = 2 + 1 + e by omega]
          refine ⟨vi (by omega) (by omega), vi (by omega) (by omega), fun q2 x4 e4 => ?_, fun q2 => ?_⟩
          · rw [if_pos q2] at hq
            rw [e4, nI_1]
            exact ih (i + 1) (by omega) hq
          · rw [if_neg q2] at hq
            exact hq
        · rw [if_neg (by omega)] at hq
          rw [show (100 : Int32) = nI 100 from rfl, nI_add]
          exact hq
    have r8 : ∀ (Q : Int32 → Sto → Prop) m i, m + i = 2 ^ n → Q (jdg S t k l e m i) S → q_X8_judge_75 (nI e) (nI t) (nI k) Q (m + 1) (nI i) S := by
      intro Q m
      induction m with
      | zero =>
        intro i hi hq
        unfold q_X8_judge_75
        refine sp_width N.1.1 n4 ?_
        rw [nI_leI (by omega) (by omega)]
        exact ⟨fun _ => hq, fun q => by omega⟩
      | succ m ih =>
        intro i hi hq
        unfold q_X8_judge_75
        refine sp_width N.1.1 n4 ?_
        rw [nI_leI (by omega) (by omega), nI_add]
        unfold jdg at hq
        refine ⟨fun q => by omega, fun _ => ?_⟩
        refine sp_item8 ht a3 l60 (fun k' hk' ek => ⟨fun _ => ?_, fun z => absurd z (by decide)⟩) (fun hn => ⟨fun z => absurd rfl z, fun _ => ?_⟩)
        · rw [nI_eq (by omega) (by omega)] at ek
          rw [if_pos (by omega)] at hq
          rw [tn_nI (i := t) (by omega), tn_nI (i := e) (by omega), tn_nI (i := i) (by omega), tn_nI (i := k + i) (by omega), hl, le, lg_cmp_eq]
          refine ⟨vi ht (by omega), vi (by omega) (by omega), vi he (by omega), vi (by omega) (by omega), fun q2 x4 e4 => ?_, fun q2 => ?_⟩
          · rw [if_pos q2] at hq
            rw [e4, nI_1]
            exact ih (i + 1) (by omega) hq
          · rw [if_neg q2] at hq
            exact hq
        · rw [if_neg (fun q => hn ⟨k + i, q, rfl⟩)] at hq
          rw [show (100 : Int32) = nI 100 from rfl, nI_add]
          exact hq
    exact ⟨_, r8 _ (2 ^ n) 0 rfl (ref0 _ (fun _ => ⟨_, r9 _ (2 ^ n) 0 rfl ⟨rfl, H.rel⟩⟩) (fun q => absurd z0 q))⟩
  · rw [em]; decide
  · rw [em]; decide
