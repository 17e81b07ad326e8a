/-! the calls that change elements (5) -/
theorem RA.cg {S : Sto} {n p K gc : Nat} {E G : Nat → Nat → Int32} (R : RA S n p K gc E G) (O : OA n p K gc E G) : Cm S n p K ∧ Gm S n p gc (fun g i => (G g i).toInt) := by
  obtain ⟨c1, c2, c3, c4, c5, c6, c7⟩ := R
  obtain ⟨⟨o1, o2, o3, o4, o5⟩, h2, h3⟩ := O
  have hw := pow_n o2
  have hp := o3.pos
  refine ⟨⟨c1, c2, c3, c4, o1, o2, o3, o4⟩, ⟨c5, o5, fun g hg i hi => ?_⟩⟩
  obtain ⟨z, z1, z2, z3⟩ := h3 g hg i (by omega)
  show S.1 355 (16 * g + i) = iI (G g i).toInt ∧ 0 ≤ (G g i).toInt ∧ (G g i).toInt < p
  rw [c7 g hg i (by omega), z1, toInt_iI ⟨by omega, by omega⟩]
  exact ⟨rfl, z2, z3⟩
theorem op_becomes {S : Sto} {b : Nat} (x y z : Int32) (hb : b < 1000000) (H : Rel S b) : wp_X8_becomes x y z S (fun r S1 => wp_X9_becomes x y z S1 (fun r' S2 => r = r' ∧ Rel S2 b)) := by
  obtain ⟨n, p, K, gc, ec, bc, H⟩ := H.r0
  obtain ⟨h1, h2, h3, h4, h5, h6, h7⟩ := id H
  obtain ⟨ed, hed, hC, hR, hO, hE⟩ := H.abs
  have N := h1.nw
  have n2 := N.1.2.2.1
  have n4 := N.1.2.2.2.1
  have hp := N.1.2.2.2.2
  have hw := pow_n n4
  have hp8 := hp.pos
  have five : (4 : Int64) = iL (((5 : Nat) : Int) - 1) := by decide
  have hz5 : (∃ j, j < 5 ∧ z = nI j) ↔ (0 ≤ z.toInt ∧ z.toInt ≤ 4) := by
    have := ex_iff (x := z) (k := 5) (by omega)
    rw [this]; exact Iff.rfl
  unfold wp_X8_becomes q_X8_becomes_31 q_X8_becomes_127
  have none : (¬ ((∃ s, s < 6 ∧ x = nI s) ∧ (∃ k, k < 6 ∧ y = nI k) ∧ ∃ j, j < 5 ∧ z = nI j)) → wp_X9_becomes x y z S (fun r' S2 => (-1 : Int32) = r' ∧ Rel S2 b) := by
    intro hn
    unfold wp_X9_becomes q_X9_becomes_26
    refine sp_elem9 (fun hs => ⟨fun z => absurd z (by decide), fun _ => ?_⟩) (fun _ => ⟨fun _ => ⟨rfl, H.rel⟩, fun z => absurd rfl z⟩)
    refine sp_elem9 (fun hk => ⟨fun z => absurd z (by decide), fun _ => ?_⟩) (fun _ => ⟨fun _ => ⟨rfl, H.rel⟩, fun z => absurd rfl z⟩)
    exact sp_inN (k := 5) (by omega) five (fun hj => absurd ⟨hs, hk, hj⟩ hn) (fun _ => ⟨fun z => absurd rfl z, fun _ => ⟨rfl, H.rel⟩⟩)
  refine sp_elem8 (fun ⟨k, hk, e⟩ => ⟨fun z => absurd z (by decide), fun _ => ?_⟩) (fun h0 => ⟨fun _ => none (fun q => h0 q.1), fun z => absurd rfl z⟩)
  subst e
  refine sp_elem8 (fun ⟨a, ha, e⟩ => ⟨fun z => absurd z (by decide), fun _ => ?_⟩) (fun h0 => ⟨fun _ => none (fun q => h0 q.2.1), fun z => absurd rfl z⟩)
  subst e
  have la := ln_el a ha
  have Ea := h1.el a ha
  refine ⟨fun q => none (fun u => ?_), fun q => ⟨fun q2 => ?_, fun q2 => none (fun u => ?_)⟩⟩
  · have := hz5.mp u.2.2
    rw [Int32.lt_iff_toInt_lt] at q
    have q' : z.toInt < 0 := q
    omega
  · rw [Int32.lt_iff_toInt_lt] at q
    rw [Int32.le_iff_toInt_le] at q2
    have q' : ¬ z.toInt < 0 := q
    have q2' : z.toInt ≤ 4 := q2
    obtain ⟨j, hj, e⟩ := hz5.mpr ⟨by omega, q2'⟩
    subst e
    -- the reference up to where it parts
    have ref : ∀ S2 (Q : Int32 → Sto → Prop), (j < 2 → ∃ m, q_X9_becomes_54 (nI k) (nI a) (nI j) Q m 0 S2) → (2 ≤ j → wp_X9_spans (nI (j - 2)) S2 (fun S_11 => wp_X9_rests (nI a) S_11 (fun S_13 => wp_X9_lays (nI k) S_13 (fun r S => Q r S)))) → wp_X9_becomes (nI k) (nI a) (nI j) S2 Q := by
      intro S2 Q r1 r2
      unfold wp_X9_becomes
      refine sp_elem9 (fun _ => ⟨fun z => absurd z (by decide), fun _ => ?_⟩) (fun h0 => absurd ⟨k, hk, rfl⟩ h0)
      refine sp_elem9 (fun _ => ⟨fun z => absurd z (by decide), fun _ => ?_⟩) (fun h0 => absurd ⟨a, ha, rfl⟩ h0)
      refine sp_inN (k := 5) (by omega) five (fun _ => ⟨fun _ => ?_, fun z => absurd z (by decide)⟩) (fun h0 => absurd ⟨j, hj, rfl⟩ h0)
      rw [show (2 : Int32) = nI 2 from rfl, nI_ltI (by omega) (by omega)]
      refine ⟨fun q => r1 q, fun q => ?_⟩
      rw [nI_sub (by omega)]
      exact r2 (by omega)
    -- by a turn or a complement
    have few : j < 2 → ∀ (r : Vc), (r = fun c => if j = 0 then tsg c * eS S a c % p else sg ((2 ^ n - 1) ^^^ c) c * eS S a ((2 ^ n - 1) ^^^ c) % p) → ∀ F : Nat → Int32, (∀ i, i < 2 ^ n → F i = iI (r i)) → wp_X4_replaceElement (nI k) 352 (setA S 352 F) (fun r S1 => wp_X9_becomes (nI k) (nI a) (nI j) S1 (fun r' S2 => r = r' ∧ Rel S2 b)) := by
      intro hj2 r hr F hF
      have hrp : ∀ i, 0 ≤ r i ∧ r i < p := fun i => by
        rw [hr]
        by_cases j0 : j = 0
        · simp only [if_pos j0]; exact ⟨Int.emod_nonneg _ (by omega), Int.emod_lt_of_pos _ (by omega)⟩
        · simp only [if_neg j0]; exact ⟨Int.emod_nonneg _ (by omega), Int.emod_lt_of_pos _ (by omega)⟩
      have CW := hC.w (F := F) hO.1.2.2.2.2
      refine R0.rep (Q9 := fun Q S2 => wp_X9_becomes (nI k) (nI a) (nI j) S2 Q) (r := r) H hed hC hR hO hE hb CW.2 CW.1 hk (fun i hi => ⟨by rw [setA_eq]; exact hF i hi, hrp i⟩) (fun S2 Q R2 hl => ref S2 Q (fun _ => ?_) (fun q => by omega))
      exact sp_bec9 R2 hp n4 ha hj2 (fun i hi => Ea i (by omega)) hr (fun S3 R3 f3 g1 g2 => hl S3 R3 f3 g1 g2)
    rw [show (0 : Int32) = nI 0 from rfl, show (1 : Int32) = nI 1 from rfl, nI_eq (by omega) (by omega), nI_eq (by omega) (by omega), tn_nI (i := a) (by omega)]
    refine ⟨fun j0 => ⟨fun j1 => ?_, fun j1 => ⟨vi ha (by omega), sp_width N.1.1 n4 ?_⟩⟩, fun j0 => ⟨vi ha (by omega), sp_width N.1.1 n4 ?_⟩⟩
    · have hs : j - 2 < 3 := by omega
      rw [show (2 : Int32) = nI 2 from rfl, nI_sub (by omega)]
      refine sp_ofSide hs N h6 (fun S1 N1 I1 P1 f1 _ => ?_)
      have R1 := H.side hs f1 I1
      have P1' := SpOK.g N1.2.2.2.2.1 (fun i hi => (f1.scC hs).1 _ (by omega)) P1
      obtain ⟨ed1, hed1, hC1, hR1, hO1, hE1⟩ := R1.abs
      refine sp_leaveRest (sps16 hs) N1 R1.1.el ha P1' (fun S2 r a1 a2 a3 => ?_)
      have C2 : CA S2 n p K gc ed1 (fun e i => S1.1 (2 + 1 + e) i) (fun g i => S1.1 (9 + 1 + g) i) := by
        obtain ⟨c1, c2, c3, c4, c5, c6, c7⟩ := hC1
        have g4 := hO1.1.2.2.2.2
        exact ⟨by rw [a3.1 1 (by decide)]; exact c1, by rw [a3.1 1 (by decide)]; exact c2, by rw [a3.1 1 (by decide)]; exact c3, by rw [a3.1 1 (by decide)]; exact c4, by rw [a3.1 1 (by decide)]; exact c5, fun e he i hi => by rw [a3.1 _ (by omega)], fun g hg i hi => by rw [a3.1 _ (by omega)]⟩
      have F2 : frC S1 S2 := ⟨fun c hc => a3.1 c (by omega), fun i _ => by rw [a3.1 1 (by decide)], a3.2⟩
      refine R0.rep (Q9 := fun Q S2 => wp_X9_becomes (nI k) (nI a) (nI j) S2 Q) (r := r) R1 hed1 hC1 hR1 hO1 hE1 hb F2 C2 hk (fun i hi => a1 i hi) (fun S3 Q R3 hl => ref S3 Q (fun q => by omega) (fun _ => ?_))
      obtain ⟨cm, gm⟩ := R3.cg hO1
      refine sp_spans hs cm gm (fun S4 rk L R b1 b2 => ?_)
      have W4 := R3.w b2.M (by simp [lSp])
      refine sp_rests (X := eS S1 a) b1 (by omega) ha W4.1.2.2.2.1 (fun i hi => ?_) (fun S5 r' c1 c2 c3 c4 => ?_)
      · rw [W4.1.2.2.2.2.2.1 a ha i (by omega)]
        exact R1.1.el a ha i (by omega)
      · have W5 := W4.1.w (c4.M (by simp)) (by simp)
        have lk := (link P1' b1).1
        have c2' : Rest p (2 ^ n) (IdV p n (j - 2) gc (gS S1)) (hdS S1 (49 + 19 * (j - 2)) (2 ^ n)) (eS S1 a) r' := by
          rw [show hdS S1 (49 + 19 * (j - 2)) (2 ^ n) = hdL rk L from funext fun l => propext (lk l)]
          exact c2
        refine hl S5 W5.1 (W4.2.tr W5.2) (fun i hi => ?_) c3
        rw [(c1 i hi).1, Rest.same P1'.2.2.2 P1'.2.2.1 a2 c2' hi]
    · rw [N.1.2.1]
      refine sp_complement hp n2 n4 (by omega) (by rw [ln_352]; omega) (by omega) (by rw [ln_352]; omega) (by omega) (fun i hi => Ea i (by omega)) ?_
      exact few (by omega) _ rfl _ (fun i hi => by rw [fl_lt _ _ hi]; simp only [if_neg j0])
    · rw [N.1.2.1]
      refine sp_turn hp hw.1 (by omega) (by rw [ln_352]; omega) (by omega) (by rw [ln_352]; omega) (by omega) (fun i hi => Ea i (by omega)) ?_
      exact few (by omega) _ rfl _ (fun i hi => by rw [fl_lt _ _ hi]; simp only [if_pos j0])
  · have := hz5.mp u.2.2
    rw [Int32.le_iff_toInt_le] at q2
    exact q2 this.2
