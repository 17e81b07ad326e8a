/-! the call that asks of steps; that which tries values -/
theorem op_step {S : Sto} {b : Nat} (x : Int32) (H : Rel S b) : wp_X8_step x S (fun r S1 => wp_X9_step x S1 (fun r' S2 => r = r' ∧ Rel S2 b)) := by
  obtain ⟨n, p, K, gc, ec, bc, H⟩ := H.r0
  obtain ⟨h1, h2, h3, h4, h5, h6, h7⟩ := id H
  have N := h1.nw
  have n2 := N.1.2.2.1
  have n4 := N.1.2.2.2.1
  have hp := N.1.2.2.2.2
  have hw := pow_n n4
  have three : (2 : Int64) = iL (((3 : Nat) : Int) - 1) := by decide
  have hz3 : (∃ j, j < 3 ∧ x = nI j) ↔ (0 ≤ x.toInt ∧ x.toInt ≤ 2) := by
    have := ex_iff (x := x) (k := 3) (by omega)
    rw [this]; exact Iff.rfl
  have none : (¬ (∃ j, j < 3 ∧ x = nI j)) → wp_X9_step x S (fun r' S2 => (-1 : Int32) = r' ∧ Rel S2 b) := by
    intro hn
    unfold wp_X9_step
    exact sp_inN (k := 3) (by omega) three (fun hj => absurd hj hn) (fun _ => ⟨fun z => absurd rfl z, fun _ => ⟨rfl, H.rel⟩⟩)
  unfold wp_X8_step q_X8_step_9
  refine ⟨fun q => none (fun u => ?_), fun q => ⟨fun q2 => ?_, fun q2 => none (fun u => ?_)⟩⟩
  · have := hz3.mp u
    rw [Int32.lt_iff_toInt_lt] at q
    have q' : x.toInt < 0 := q
    omega
  · rw [Int32.lt_iff_toInt_lt] at q
    rw [Int32.le_iff_toInt_le] at q2
    have q' : ¬ x.toInt < 0 := q
    have q2' : x.toInt ≤ 2 := q2
    obtain ⟨k, hk, e⟩ := hz3.mpr ⟨by omega, q2'⟩
    subst e
    have go : (k = 2 → n ≤ 3) → q_X8_step_30 (nI k) (fun r S1 => wp_X9_step (nI k) S1 (fun r' S2 => r = r' ∧ Rel S2 b)) S := by
      intro hk3
      unfold q_X8_step_30
      refine sp_ofSide (s := 0) (by decide) N h6 (fun S1 N1 I1 P1 f1 hkd => ?_)
      have R1 := H.side (by decide) f1 I1
      have P1' := SpOK.g N1.2.2.2.2.1 (fun i hi => (f1.scC (by decide)).1 _ (by omega)) P1
      refine sp_stepsOf (sps16 (by decide)) N1 P1' (by omega) hk3 (fun S2 r b1 b2 f2 => ?_)
      have R2 : R0 S2 b n p K gc ec bc := R1.goC ⟨fun c hc => f2.1 c (by omega), f2.2⟩ (fun c _ _ => f2.1 c (by omega))
      have e2 := R1.idv (S' := S2) (fun c hc => f2.1 c (by omega)) 0
      rw [← e2] at b1 b2
      have st : q_X9_step_30 (nI k) (fun r' S3 => nI r = r' ∧ Rel S3 b) S2 := by
        refine sp_stepModel (R2.1.cm R2.2.1) R2.1.gm (by omega) hk3 b2 (fun S3 r' c1 c2 => ⟨?_, (R2.goM c2 (by simp)).rel⟩)
        have IS := IdV_sub p n 0 gc (gS S2)
        have Ic : cloL n (IdV p n 0 gc (gS S2)) := fun l hl x hx => (IdV_clo p n 0 gc (gS S2) l hl x hx).1 (by decide)
        rw [BtR.same hp n2 n4 k _ _ _ _ r r' (by omega) (by omega) IS Ic IS Ic Ike.rf b1 c1]
      unfold wp_X9_step
      refine sp_inN (k := 3) (by omega) three (fun _ => ⟨fun _ => ⟨fun _ => st, fun _ => ⟨fun _ => st, fun q4 => ?_⟩⟩, fun z => absurd z (by decide)⟩) (fun h0 => absurd ⟨k, hk, rfl⟩ h0)
      rename_i k2
      rw [(R2.1.cm R2.2.1).1, show (4 : Int32) = nI 4 from rfl, nI_eq (by omega) (by omega)] at q4
      rw [show (2 : Int32) = nI 2 from rfl, nI_eq (by omega) (by omega)] at k2
      have := hk3 k2
      omega
    refine ⟨fun j2 => go (fun e => absurd (by rw [e]; rfl) j2), fun j2 => ⟨fun j4 => go (fun _ => ?_), fun j4 => ?_⟩⟩
    · rw [N.1.1, show (4 : Int32) = nI 4 from rfl, nI_eq (by omega) (by omega)] at j4
      omega
    · rw [N.1.1, show (4 : Int32) = nI 4 from rfl, nI_eq (by omega) (by omega)] at j4
      unfold wp_X9_step
      refine sp_inN (k := 3) (by omega) three (fun _ => ⟨fun _ => ⟨fun q => absurd j2 q, fun _ => ⟨fun q4 => absurd ?_ q4, fun _ => ⟨rfl, H.rel⟩⟩⟩, fun z => absurd z (by decide)⟩) (fun h0 => absurd ⟨k, hk, rfl⟩ h0)
      rw [(h1.cm h2).1, j4]; rfl
  · have := hz3.mp u
    rw [Int32.le_iff_toInt_le] at q2
    exact q2 this.2
