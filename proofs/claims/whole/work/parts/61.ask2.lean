/-! the calls that ask of ideals (2) -/
theorem ln_352 : ln 352 = 16 := by decide +kernel
def onl (t : Nat) (S S' : Sto) : Prop := (∀ c, c ≠ t → S'.1 c = S.1 c) ∧ S'.2 = S.2
theorem sp_leaveRest {h e n p K gc K2 : Nat} {V : Vc → Prop} {S : Sto} {Q : Sto → Prop} (hs : s16 h) (N : Nw S n p K gc) (hE : El S p) (he : e < 6) (H : SpOK S h p (2 ^ n) K2 V)
    (hQ : ∀ S' r, rd (S'.1 352) (2 ^ n) p r → Rest p (2 ^ n) V (hdS S h (2 ^ n)) (eS S e) r → onl 352 S S' → Q S') : wp_X8_leaveRest h (nI e) S Q := by
  have n4 := N.1.2.2.2.1
  have hw := pow_n n4
  have le := ln_el e he
  obtain ⟨k8, hl, ha, hb⟩ := hs.ok
  unfold wp_X8_leaveRest
  refine ⟨vp_nI he (by omega), sp_width N.1.1 n4 ?_⟩
  rw [tn_nI (by omega)]
  refine sp_copy (by omega) (by rw [ln_352]; omega) (by omega) (by rw [ln_352]; omega) (by omega) ?_
  have H1 : SpOK (setA S 352 (fl (2 ^ n) (S.1 (2 + 1 + e)) (S.1 352))) h p (2 ^ n) K2 V := H.keep (fun c hc => setA_ne _ _ (by unfold spC at hc; omega))
  refine sp_takeFrom (X := eS S e) H1 (by rw [ln_352]; omega) (by rw [ln_352]; omega) (by unfold spC; omega) (by rw [setA_eq]; intro i hi; rw [fl_lt _ _ hi]; exact hE e he i (by omega)) (fun F r a1 a2 a3 => ?_)
  refine hQ _ r (by rw [setA_eq]; exact a1) ?_ ⟨fun c hc => by rw [setA_ne _ _ hc, setA_ne _ _ hc], rfl⟩
  have : hdS (setA S 352 (fl (2 ^ n) (S.1 (2 + 1 + e)) (S.1 352))) h (2 ^ n) = hdS S h (2 ^ n) := by
    funext l; unfold hdS; rw [setA_ne _ _ (by omega)]
  rw [this] at a2
  exact a2
theorem onl.scC {t : Nat} {S S' : Sto} (h : onl t S S') (h1 : 107 ≤ t) (h2 : t ≤ 352) : scC S S' := ⟨fun c hc => h.1 c (by omega), h.2⟩
theorem R0.onl {S S' : Sto} {b n p K gc ec bc t : Nat} (h : R0 S b n p K gc ec bc) (f : onl t S S') (h1 : 107 ≤ t) (h2 : t ≤ 352) : R0 S' b n p K gc ec bc := h.goC (f.scC h1 h2) (fun c _ q => f.1 c (by omega))
theorem eS_keep {S S' : Sto} (f : scr S S') {e : Nat} (he : e < 6) : eS S' e = eS S e := by unfold eS; rw [f.1 _ (by omega)]
theorem op_within {S : Sto} {b : Nat} (x y : Int32) (H : Rel S b) : wp_X8_within x y S (fun r S1 => wp_X9_within x y S1 (fun r' S2 => r = r' ∧ Rel S2 b)) := by
  obtain ⟨n, p, K, gc, ec, bc, H⟩ := H.r0
  obtain ⟨h1, h2, h3, h4, h5, h6, h7⟩ := id H
  have N := h1.nw
  have n4 := N.1.2.2.2.1
  have hw := pow_n n4
  have hp8 := N.1.2.2.2.2.pos
  unfold wp_X8_within q_X8_within_18 q_X8_within_59
  have none : (¬ ((∃ s, s < 3 ∧ x = nI s) ∧ ∃ k, k < 6 ∧ y = nI k)) → wp_X9_within x y S (fun r' S2 => (-1 : Int32) = r' ∧ Rel S2 b) := by
    intro hn
    unfold wp_X9_within q_X9_within_14
    refine sp_side9 (fun hs => ⟨fun z => absurd z (by decide), fun _ => ?_⟩) (fun _ => ⟨fun _ => ⟨rfl, H.rel⟩, fun z => absurd rfl z⟩)
    exact sp_elem9 (fun hd => absurd ⟨hs, hd⟩ hn) (fun _ => ⟨fun z => absurd rfl z, fun _ => ⟨rfl, H.rel⟩⟩)
  refine sp_side8 (fun ⟨s, hs, e⟩ => ⟨fun z => absurd z (by decide), fun _ => ?_⟩) (fun h0 => ⟨fun _ => none (fun q => h0 q.1), fun z => absurd rfl z⟩)
  subst e
  refine sp_elem8 (fun ⟨k, hk, e⟩ => ⟨fun _ => ?_, fun z => absurd z (by decide)⟩) (fun h0 => ⟨fun z => absurd rfl z, fun _ => none (fun q => h0 q.2)⟩)
  subst e
  refine sp_ofSide hs N h6 (fun S1 N1 I1 P1 f1 _ => ?_)
  have R1 := H.side hs f1 I1
  have P1' := SpOK.g N1.2.2.2.2.1 (fun i hi => (f1.scC hs).1 _ (by omega)) P1
  refine sp_leaveRest (sps16 hs) N1 R1.1.el hk P1' (fun S2 r a1 a2 a3 => ?_)
  have R2 := R1.onl a3 (by decide) (by decide)
  have P2 : SpOK S2 (49 + 19 * s) p (2 ^ n) K (IdV p n s gc (gS S2)) := SpOK.g N1.2.2.2.2.1 (fun i hi => a3.1 _ (by omega)) (P1'.keep (fun c hc => a3.1 c (by have := sps s hs; unfold spC at hc; omega)))
  refine sp_width R2.1.nw.1.1 n4 (sp_nonZeros (by rw [ln_352]; omega) (by rw [ln_352]; omega) ?_)
  have hle := cz_le (S2.1 352) (2 ^ n)
  have hz := Rest.zero P1'.2.2.2 P1'.2.2.1 a2
  have hiff : cz (S2.1 352) (2 ^ n) = 0 ↔ IdV p n s gc (gS S1) (eS S1 k) := by
    rw [cz_zero, hz]
    constructor
    · intro q i hi
      have := a1 i hi
      have h2 := q i hi
      rw [this.1, iI_eq0 ⟨by omega, by omega⟩] at h2
      exact h2
    · intro q i hi
      have := a1 i hi
      rw [this.1, iI_eq0 ⟨by omega, by omega⟩]
      exact q i hi
  have hV : ∀ v, IdV p n s gc (gS S1) v ↔ IdV p n s gc (gS S2) v := fun v => IdV_cong (fun i hi j _ => by unfold gS; rw [a3.1 _ (by have := N1.2.2.2.2.1; omega)]) v
  have eX : eS S2 k = eS S1 k := by unfold eS; rw [a3.1 _ (by omega)]
  have ref : ∀ a : Int32, (IdV p n s gc (gS S2) (eS S2 k) → a = 1) → (¬ IdV p n s gc (gS S2) (eS S2 k) → a = 0) → wp_X9_within (nI s) (nI k) S2 (fun r' S3 => a = r' ∧ Rel S3 b) := by
    intro a ha1 ha0
    unfold wp_X9_within q_X9_within_34
    refine sp_side9 (fun _ => ⟨fun z => absurd z (by decide), fun _ => ?_⟩) (fun h0 => absurd ⟨s, hs, rfl⟩ h0)
    refine sp_elem9 (fun _ => ⟨fun _ => ?_, fun z => absurd z (by decide)⟩) (fun h0 => absurd ⟨k, hk, rfl⟩ h0)
    refine sp_spans hs (R2.1.cm R2.2.1) R2.1.gm (fun S3 rk L R b1 b2 => ?_)
    have C3 := (R2.1.cm R2.2.1).keep b2
    have R3 := R2.goM b2.M (by simp [lSp])
    refine sp_liesWithin (X := eS S2 k) b1 (by omega) hk C3.2.2.2.1 (fun i hi => ?_) (fun hv S4 f4 => ⟨fun z => absurd z (by decide), fun _ => ⟨ha1 hv, (R3.goM (f4.M (by simp)) (by simp)).rel⟩⟩) (fun hv S4 f4 => ⟨fun _ => ⟨ha0 hv, (R3.goM (f4.M (by simp)) (by simp)).rel⟩, fun z => absurd rfl z⟩)
    rw [b2.1 354 (by decide) (by simp [lSp])]
    have := R2.1.elM k hk i (by omega)
    exact ⟨this.1, this.2.1, this.2.2.1⟩
  rw [show (0 : Int32) = nI 0 from rfl, nI_eq (by omega) (by omega), hiff]
  refine ⟨fun q => ref 0 (fun z => absurd ((hV _).mpr (by rw [← eX]; exact z)) q) (fun _ => rfl), fun q => ref 1 (fun _ => rfl) (fun z => absurd ?_ z)⟩
  rw [eX]; exact (hV _).mp q
theorem op_rest {S : Sto} {b : Nat} (x y d : Int32) (H : Rel S b) : wp_X8_rest x y d S (fun r S1 => wp_X9_rest x y d S1 (fun r' S2 => r = r' ∧ Rel S2 b)) := by
  obtain ⟨n, p, K, gc, ec, bc, H⟩ := H.r0
  obtain ⟨h1, h2, h3, h4, h5, h6, h7⟩ := id H
  have N := h1.nw
  have n4 := N.1.2.2.2.1
  have hw := pow_n n4
  have hp8 := N.1.2.2.2.2.pos
  unfold wp_X8_rest q_X8_rest_29
  have none : (¬ ((∃ s, s < 3 ∧ x = nI s) ∧ (∃ k, k < 6 ∧ y = nI k) ∧ ∃ j, j < 2 ^ n ∧ d = nI j)) → wp_X9_rest x y d S (fun r' S2 => (-1 : Int32) = r' ∧ Rel S2 b) := by
    intro hn
    unfold wp_X9_rest q_X9_rest_22
    refine sp_side9 (fun hs => ⟨fun z => absurd z (by decide), fun _ => ?_⟩) (fun _ => ⟨fun _ => ⟨rfl, H.rel⟩, fun z => absurd rfl z⟩)
    refine sp_elem9 (fun hk => ⟨fun z => absurd z (by decide), fun _ => ?_⟩) (fun _ => ⟨fun _ => ⟨rfl, H.rel⟩, fun z => absurd rfl z⟩)
    exact sp_place9 h2 hw.1 (fun hj => absurd ⟨hs, hk, hj⟩ hn) (fun _ => ⟨fun z => absurd rfl z, fun _ => ⟨rfl, H.rel⟩⟩)
  refine sp_side8 (fun ⟨s, hs, e⟩ => ⟨fun z => absurd z (by decide), fun _ => ?_⟩) (fun h0 => ⟨fun _ => none (fun q => h0 q.1), fun z => absurd rfl z⟩)
  subst e
  refine sp_elem8 (fun ⟨k, hk, e⟩ => ⟨fun z => absurd z (by decide), fun _ => ?_⟩) (fun h0 => ⟨fun _ => none (fun q => h0 q.2.1), fun z => absurd rfl z⟩)
  subst e
  refine sp_place8 N.1.1 n4 (fun ⟨j, hj, e⟩ => ⟨fun _ => ?_, fun z => absurd z (by decide)⟩) (fun h0 => ⟨fun z => absurd rfl z, fun _ => none (fun q => h0 q.2.2)⟩)
  subst e
  refine sp_ofSide hs N h6 (fun S1 N1 I1 P1 f1 _ => ?_)
  have R1 := H.side hs f1 I1
  have P1' := SpOK.g N1.2.2.2.2.1 (fun i hi => (f1.scC hs).1 _ (by omega)) P1
  refine sp_leaveRest (sps16 hs) N1 R1.1.el hk P1' (fun S2 r a1 a2 a3 => ⟨vp_nI (by omega) (by omega), ?_⟩)
  have R2 := R1.onl a3 (by decide) (by decide)
  have hV : ∀ v, IdV p n s gc (gS S2) v ↔ IdV p n s gc (gS S1) v := fun v => IdV_cong (fun i hi j _ => by unfold gS; rw [a3.1 _ (by have := N1.2.2.2.2.1; omega)]) v
  have eX : eS S2 k = eS S1 k := by unfold eS; rw [a3.1 _ (by omega)]
  unfold wp_X9_rest
  refine sp_side9 (fun _ => ⟨fun z => absurd z (by decide), fun _ => ?_⟩) (fun h0 => absurd ⟨s, hs, rfl⟩ h0)
  refine sp_elem9 (fun _ => ⟨fun z => absurd z (by decide), fun _ => ?_⟩) (fun h0 => absurd ⟨k, hk, rfl⟩ h0)
  refine sp_place9 R2.2.1 hw.1 (fun _ => ⟨fun _ => ?_, fun z => absurd z (by decide)⟩) (fun h0 => absurd ⟨j, hj, rfl⟩ h0)
  refine sp_spans hs (R2.1.cm R2.2.1) R2.1.gm (fun S3 rk L R b1 b2 => ?_)
  have C3 := (R2.1.cm R2.2.1).keep b2
  have R3 := R2.goM b2.M (by simp [lSp])
  refine sp_rests (X := eS S2 k) b1 (by omega) hk C3.2.2.2.1 (fun i hi => ?_) (fun S4 r' c1 c2 _ c4 => ⟨vp_nI (by omega) (by omega), ?_, (R3.goM (c4.M (by simp)) (by simp)).rel⟩)
  · rw [b2.1 354 (by decide) (by simp [lSp])]
    have := R2.1.elM k hk i (by omega)
    exact ⟨this.1, this.2.1, this.2.2.1⟩
  · have b1' := b1.cong hV
    have lk := (link P1' b1').1
    have c2' : Rest p (2 ^ n) (IdV p n s gc (gS S1)) (hdS S1 (49 + 19 * s) (2 ^ n)) (eS S1 k) r' := by
      rw [show hdS S1 (49 + 19 * s) (2 ^ n) = hdL rk L from funext fun l => propext (lk l), ← show IdV p n s gc (gS S2) = IdV p n s gc (gS S1) from funext fun v => propext (hV v), ← eX]
      exact c2
    rw [tn_nI (by omega), (a1 j hj).1, (c1 j hj).1, Rest.same P1'.2.2.2 P1'.2.2.1 a2 c2' hj]
theorem op_lead {S : Sto} {b : Nat} (y : Int32) (H : Rel S b) : wp_X8_lead y S (fun r S1 => wp_X9_lead y S1 (fun r' S2 => r = r' ∧ Rel S2 b)) := by
  obtain ⟨n, p, K, gc, ec, bc, H⟩ := H.r0
  obtain ⟨h1, h2, h3, h4, h5, h6, h7⟩ := id H
  have N := h1.nw
  have n2 := N.1.2.2.1
  have n4 := N.1.2.2.2.1
  have hw := pow_n n4
  have hK := N.2.2.1
  have hok := okW_n n2 n4 hK
  have hcl := clf_ok hok
  unfold wp_X8_lead q_X8_lead_50
  refine sp_elem8 (fun ⟨k, hk, e⟩ => ⟨fun _ => ⟨by rw [e]; exact vp_nI hk (by omega), sp_width N.1.1 n4 ?_⟩, fun z => absurd z (by decide)⟩) (fun h0 => ⟨fun z => absurd rfl z, fun _ => ?_⟩)
  · subst e
    have le := ln_el k hk
    have hM := h1.elM k hk
    have hE := h1.el k hk
    rw [tn_nI (by omega), N.2.1]
    -- the reference
    have ref : ∀ a : Int32, ((∃ c, c < 2 ^ n ∧ ¬ S.1 354 (16 * k + clf K (2 ^ n) c) = 0 ∧ (∀ d, d < c → S.1 354 (16 * k + clf K (2 ^ n) d) = 0) ∧ a = nI (clf K (2 ^ n) c)) ∨ ((∀ d, d < 2 ^ n → S.1 354 (16 * k + clf K (2 ^ n) d) = 0) ∧ a = -5)) → wp_X9_lead (nI k) S (fun r' S2 => a = r' ∧ Rel S2 b) := by
      intro a ha
      unfold wp_X9_lead
      refine sp_elem9 (fun _ => ⟨fun _ => ?_, fun z => absurd z (by decide)⟩) (fun h0 => absurd ⟨k, hk, rfl⟩ h0)
      refine sp_beginPlaces (h1.cm h2) (fun S1 a1 a2 => ?_)
      have R1 := H.goM a2.M (by simp)
      have e354 : S1.1 354 = S.1 354 := a2.1 354 (by decide) (by simp)
      have key : ∀ m c, m + c = 2 ^ n → (∀ d, d < c → S.1 354 (16 * k + clf K (2 ^ n) d) = 0) → q_X9_lead_15 (nI k) (fun r' S2 => a = r' ∧ Rel S2 b) (m + 1) (nI c) S1 := by
        intro m
        induction m with
        | zero =>
          intro c hc hz
          unfold q_X9_lead_15
          rw [a2.2.1 3 (by decide) (by decide), h2, nI_leI (by omega) (by omega)]
          refine ⟨fun _ => ⟨?_, R1.rel⟩, fun z => by omega⟩
          rcases ha with ⟨c', q1, q2, -⟩ | ⟨-, q⟩
          · exact absurd (hz c' (by omega)) q2
          · exact q
        | succ m ih =>
          intro c hc hz
          unfold q_X9_lead_15
          obtain ⟨q1, -⟩ := hcl c (by omega)
          rw [a2.2.1 3 (by decide) (by decide), h2, nI_leI (by omega) (by omega), tn_nI (i := c) (by omega), a1.2.1 c (by omega), show (16 : Int32) = nI 16 from rfl, pk_mul, nI_add, tn_nI (by omega), e354]
          refine ⟨fun z => by omega, fun _ => ⟨vp_nI (by omega) (by omega), vp_nI (by omega) (by omega), fun z x2 ex => ?_, fun z => ⟨vp_nI (by omega) (by omega), ?_, R1.rel⟩⟩⟩
          · rw [ex, nI_1]
            refine ih (c + 1) (by omega) (fun d hd => ?_)
            rcases Nat.lt_or_ge d c with q | q
            · exact hz d q
            · rw [show d = c by omega]; exact z
          · rcases ha with ⟨c', r1, r2, r3, r4⟩ | ⟨q, -⟩
            · have : c' = c := by
                rcases Nat.lt_trichotomy c' c with q | q | q
                · exact absurd (hz c' q) r2
                · exact q
                · exact absurd (r3 c q) z
              rw [← this]; exact r4
            · exact absurd (q c (by omega)) z
      exact ⟨2 ^ n + 1, key (2 ^ n) 0 (by omega) (fun d q => by omega)⟩
    have e354 : ∀ i, i < 16 → S.1 354 (16 * k + i) = S.1 (2 + 1 + k) i := fun i hi => by rw [(hM i hi).1, (hE i hi).1]
    refine sp_leadIn (by omega) (by omega) hK (by omega) (fun l hl hnz hb => ⟨fun _ => ref _ (Or.inl ?_), fun z => absurd (nI_pos' (by omega)) z⟩) (fun hz => ⟨fun z => absurd z (by decide), fun _ => ref _ (Or.inr ⟨fun d hd => ?_, rfl⟩)⟩)
    · obtain ⟨-, -, c, hc, ec⟩ := hcl l hl
      refine ⟨c, hc, by rw [ec, e354 l (by omega)]; exact hnz, fun d hd => ?_, by rw [ec]⟩
      obtain ⟨q1, -⟩ := hcl d (by omega)
      rw [e354 _ (by omega)]
      refine hb _ q1 ?_
      rw [← ec]
      exact (hcl c hc).2.1 d hd
    · obtain ⟨q1, -⟩ := hcl d hd
      rw [e354 _ (by omega)]
      exact hz _ q1
  · unfold wp_X9_lead
    exact sp_elem9 (fun h => absurd h h0) (fun _ => ⟨fun z => absurd rfl z, fun _ => ⟨rfl, H.rel⟩⟩)
theorem op_basis {S : Sto} {b : Nat} (x i d : Int32) (H : Rel S b) : wp_X8_basis x i d S (fun r S1 => wp_X9_basis x i d S1 (fun r' S2 => r = r' ∧ Rel S2 b)) := by
  obtain ⟨n, p, K, gc, ec, bc, H⟩ := H.r0
  obtain ⟨h1, h2, h3, h4, h5, h6, h7⟩ := id H
  have N := h1.nw
  have n2 := N.1.2.2.1
  have n4 := N.1.2.2.2.1
  have hw := pow_n n4
  have hK := N.2.2.1
  have hok := okW_n n2 n4 hK
  have hcl := clf_ok hok
  unfold wp_X8_basis q_X8_basis_23 q_X8_basis_73
  have none : (¬ ((∃ s, s < 3 ∧ x = nI s) ∧ (d = -1 ∨ ∃ j, j < 2 ^ n ∧ d = nI j))) → wp_X9_basis x i d S (fun r' S2 => (-1 : Int32) = r' ∧ Rel S2 b) := by
    intro hn
    unfold wp_X9_basis q_X9_basis_20
    refine sp_side9 (fun hs => ⟨fun z => absurd z (by decide), fun _ => ⟨fun q => absurd ⟨hs, Or.inl q⟩ hn, fun _ => ?_⟩⟩) (fun _ => ⟨fun _ => ⟨rfl, H.rel⟩, fun z => absurd rfl z⟩)
    exact sp_place9 h2 hw.1 (fun hj => absurd ⟨hs, Or.inr hj⟩ hn) (fun _ => ⟨fun z => absurd rfl z, fun _ => ⟨rfl, H.rel⟩⟩)
  refine sp_side8 (fun ⟨s, hs, e⟩ => ⟨fun z => absurd z (by decide), fun _ => ?_⟩) (fun h0 => ⟨fun _ => none (fun q => h0 q.1), fun z => absurd rfl z⟩)
  subst e
  have dc : d < -1 ∨ d = -1 ∨ ∃ j : Nat, j < 2 ^ 31 ∧ d = nI j := by
    by_cases q : d < 0
    · rw [Int32.lt_iff_toInt_lt] at q
      have q' : d.toInt < 0 := q
      by_cases q2 : d.toInt = -1
      · exact Or.inr (Or.inl (Int32.toInt_inj.mp q2))
      · left
        rw [Int32.lt_iff_toInt_lt]
        show d.toInt < -1
        omega
    · exact Or.inr (Or.inr (nI_of q))
  have m1 : ∀ j : Nat, j < 2 ^ 31 → ¬ nI j < -1 := fun j hj q => by
    rw [Int32.lt_iff_toInt_lt, nI_toInt hj] at q
    have : (j : Int) < -1 := q
    omega
  refine ⟨fun q => none (fun ⟨_, z⟩ => ?_), fun q => sp_width N.1.1 n4 ⟨fun q2 => ?_, fun q2 => none (fun ⟨_, z⟩ => ?_)⟩⟩
  · rcases z with z | ⟨j, hj, z⟩
    · rw [z] at q; exact absurd q (by decide)
    · rw [z] at q; exact m1 j (by omega) q
  · -- there
    have hd : d = -1 ∨ ∃ j, j < 2 ^ n ∧ d = nI j := by
      rcases dc with z | z | ⟨j, hj, z⟩
      · exact absurd z q
      · exact Or.inl z
      · rw [z, nI_ltI hj (by omega)] at q2
        exact Or.inr ⟨j, q2, z⟩
    refine sp_ofSide hs N h6 (fun S1 N1 I1 P1 f1 hkd => ?_)
    have R1 := H.side hs f1 I1
    have P1' := SpOK.g N1.2.2.2.2.1 (fun i hi => (f1.scC hs).1 _ (by omega)) P1
    have ls := sps s hs
    -- the reference
    have ref : ∀ a : Int32, ((∃ c, c < 2 ^ n ∧ hdS S1 (49 + 19 * s) (2 ^ n) (clf K (2 ^ n) c) ∧ i = nI (npM K (2 ^ n) (hdS S1 (49 + 19 * s) (2 ^ n)) c) ∧ ((d = -1 ∧ a = nI (clf K (2 ^ n) c)) ∨ ∃ j, j < 2 ^ n ∧ d = nI j ∧ a = iI (rwS S1 (49 + 19 * s) (clf K (2 ^ n) c) j))) ∨ ((∀ c, c < 2 ^ n → hdS S1 (49 + 19 * s) (2 ^ n) (clf K (2 ^ n) c) → ¬ i = nI (npM K (2 ^ n) (hdS S1 (49 + 19 * s) (2 ^ n)) c)) ∧ a = -1)) → wp_X9_basis (nI s) i d S1 (fun r' S2 => a = r' ∧ Rel S2 b) := by
      intro a ha
      have go : q_X9_basis_22 (nI s) i d (fun r' S2 => a = r' ∧ Rel S2 b) S1 := by
        unfold q_X9_basis_22 q_X9_basis_80
        refine sp_spans hs (R1.1.cm R1.2.1) R1.1.gm (fun S2 rk L R b1 b2 => ?_)
        have R2 := R1.goM b2.M (by simp [lSp])
        have lk := link P1' b1
        have hdeq : hdS S1 (49 + 19 * s) (2 ^ n) = hdL rk L := funext fun l => propext (lk.1 l)
        have hrk := b1.rk
        rw [hdeq] at ha
        have hlt : ∀ c, c < 2 ^ n → hdL rk L (clf K (2 ^ n) c) → npM K (2 ^ n) (hdL rk L) c < rk := by
          intro c hc hdc
          have q1 := npM_all (hd := hdL rk L) hok
          have q2 := b1.2.2.2.2.2.2
          have := npM_lt (K := K) (w := 2 ^ n) (hd := hdL rk L) hc hdc
          omega
        rw [b1.1.2.2.2.2.2, nI_m1 (by omega)]
        refine sp_inN (k := rk) (by omega) rfl (fun ⟨i', hi', ei⟩ => ⟨fun _ => ?_, fun z => absurd z (by decide)⟩) (fun h0 => ⟨fun z => absurd rfl z, fun _ => ⟨?_, R2.rel⟩⟩)
        · rw [ei]
          refine sp_rowAt_i b1 hi' (fun c r hc hr hL hnp => ?_)
          obtain ⟨u1, u2, u3, u4⟩ := b1.2.2.1 r hr
          have hdc : hdL rk L (clf K (2 ^ n) c) := ⟨r, hr, hL⟩
          rcases ha with ⟨c', c1, c2, c3, c4⟩ | ⟨q, -⟩
          · have ec : c' = c := npM_inj c2 hdc (by
              have le : ∀ c, npM K (2 ^ n) (hdL rk L) c ≤ c := fun c => ctB_le _ c
              have := le c'
              rw [ei, nI_eq (by omega) (by omega)] at c3
              rw [hnp, c3])
            subst ec
            rcases c4 with ⟨d1, d2⟩ | ⟨j, d1, d2, d3⟩
            · rw [d1]
              refine ⟨fun z => absurd rfl z, fun _ => ⟨vp_nI (by omega) (by omega), ?_, R2.rel⟩⟩
              rw [d2, tn_nI (by omega), u2, hL]
            · rw [d2, show (256 : Int32) = nI 256 from rfl, pk_mul, nI_add, tn_nI (by omega)]
              refine ⟨fun _ => ⟨vp_nI (by omega) (by omega), ?_, R2.rel⟩, fun z => ?_⟩
              · rw [d3, u4 j d1, hL, lk.2.1 _ _ (by rw [hdeq]; exact hdc) d1]
              · have := congrArg Int32.toInt z
                rw [nI_toInt (by omega)] at this
                have h2 : (j : Int) = -1 := this
                omega
          · exact absurd (by rw [ei, hnp]) (q c hc hdc)
        · rcases ha with ⟨c', c1, c2, c3, c4⟩ | ⟨-, q⟩
          · exact absurd ⟨_, hlt c' c1 c2, c3⟩ h0
          · exact q
      unfold wp_X9_basis
      refine sp_side9 (fun _ => ⟨fun z => absurd z (by decide), fun _ => ⟨fun _ => go, fun hne => ?_⟩⟩) (fun h0 => absurd ⟨s, hs, rfl⟩ h0)
      exact sp_place9 R1.2.1 hw.1 (fun _ => ⟨fun _ => go, fun z => absurd z (by decide)⟩) (fun h0 => absurd (hd.resolve_left hne) h0)
    refine sp_leadNumber' hok P1' (fun c hc hdc hi => ⟨fun _ => ?_, fun z => absurd (nI_pos' (by have := (hcl c hc).1; omega)) z⟩) (fun hn => ⟨fun z => absurd z (by decide), fun _ => ref _ (Or.inr ⟨hn, rfl⟩)⟩)
    obtain ⟨q1, -⟩ := hcl c hc
    have hrow := P1'.row hdc
    have hlr := sp_rowln hkd (show clf K (2 ^ n) c < ln (49 + 19 * s + 1) by omega)
    rcases hd with e | ⟨j, hj, e⟩
    · rw [e]
      exact ⟨fun z => absurd z (by decide), fun _ => by rw [← e]; exact ref _ (Or.inl ⟨c, hc, hdc, hi, Or.inl ⟨e, rfl⟩⟩)⟩
    · rw [e, tn_nI (by omega), tn_nI (by omega)]
      refine ⟨fun _ => ⟨vp_nI (by omega) (by omega), vp_nI (by omega) (by omega), ?_⟩, fun z => absurd (nI_pos' (by omega)) z⟩
      rw [← e]
      exact ref _ (Or.inl ⟨c, hc, hdc, hi, Or.inr ⟨j, hj, e, (hrow j hj).1⟩⟩)
  · rcases z with z | ⟨j, hj, z⟩
    · refine q2 ?_
      rw [z, Int32.lt_iff_toInt_lt, nI_toInt (by omega)]
      show (-1 : Int) < _
      omega
    · rw [z, nI_ltI (by omega) (by omega)] at q2
      exact q2 hj
