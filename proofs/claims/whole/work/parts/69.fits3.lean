/-! the call that tries values (3) -/
theorem op_fits {S : Sto} {b : Nat} (x y d z : Int32) (H : Rel S b) : wp_X8_fits x y d z S (fun r S1 => wp_X9_fits x y d z S1 (fun r' S2 => r = r' ∧ Rel S2 b)) := by
  obtain ⟨n, p, K, gc, ec, bc, H⟩ := H.r0
  obtain ⟨h1, h2, h3, h4, h5, h6, h7⟩ := id H
  have N := h1.nw
  have n4 := N.1.2.2.2.1
  have hw := pow_n n4
  have two : (1 : Int64) = iL (((2 : Nat) : Int) - 1) := by decide
  unfold wp_X8_fits q_X8_fits_40
  have none : (¬ ((∃ s, s < 3 ∧ x = nI s) ∧ (∃ k, k < 6 ∧ y = nI k) ∧ (∃ j, j < 2 ^ n ∧ d = nI j) ∧ ∃ j, j < 2 ∧ z = nI j)) → wp_X9_fits x y d z S (fun r' S2 => (-1 : Int32) = r' ∧ Rel S2 b) := by
    intro hn
    unfold wp_X9_fits q_X9_fits_33
    refine sp_side9 (fun hs => ⟨fun z => absurd z (by decide), fun _ => ?_⟩) (fun _ => ⟨fun _ => ⟨rfl, H.rel⟩, fun z => absurd rfl z⟩)
    refine sp_elem9 (fun hk => ⟨fun z => absurd z (by decide), fun _ => ?_⟩) (fun _ => ⟨fun _ => ⟨rfl, H.rel⟩, fun z => absurd rfl z⟩)
    refine sp_place9 h2 hw.1 (fun hj => ⟨fun z => absurd z (by decide), fun _ => ?_⟩) (fun _ => ⟨fun _ => ⟨rfl, H.rel⟩, fun z => absurd rfl z⟩)
    exact sp_inN (k := 2) (by omega) two (fun hz => absurd ⟨hs, hk, hj, hz⟩ hn) (fun _ => ⟨fun z => absurd rfl z, fun _ => ⟨rfl, H.rel⟩⟩)
  refine sp_side8 (fun ⟨s, hs, e⟩ => ⟨fun z => absurd z (by decide), fun _ => ?_⟩) (fun h0 => ⟨fun _ => none (fun q => h0 q.1), fun z => absurd rfl z⟩)
  subst e
  refine sp_elem8 (fun ⟨k, hk, e⟩ => ⟨fun z => absurd z (by decide), fun _ => ?_⟩) (fun h0 => ⟨fun _ => none (fun q => h0 q.2.1), fun z => absurd rfl z⟩)
  subst e
  refine sp_place8 N.1.1 n4 (fun ⟨j, hj, e⟩ => ⟨fun z => absurd z (by decide), fun _ => ?_⟩) (fun h0 => ⟨fun _ => none (fun q => h0 q.2.2.1), fun z => absurd rfl z⟩)
  subst e
  have hz2 : (∃ j, j < 2 ∧ z = nI j) ↔ (0 ≤ z.toInt ∧ z.toInt ≤ 1) := by
    have := ex_iff (x := z) (k := 2) (by omega)
    rw [this]; exact Iff.rfl
  refine ⟨fun q => none (fun u => ?_), fun q => ⟨fun q2 => ?_, fun q2 => none (fun u => ?_)⟩⟩
  · have := hz2.mp u.2.2.2
    rw [Int32.lt_iff_toInt_lt] at q
    have q' : z.toInt < 0 := q
    omega
  · rw [Int32.lt_iff_toInt_lt] at q
    rw [Int32.le_iff_toInt_le] at q2
    have q' : ¬ z.toInt < 0 := q
    have q2' : z.toInt ≤ 1 := q2
    have hz := hz2.mpr ⟨by omega, q2'⟩
    refine sp_ofSide hs N h6 (fun S1 N1 I1 P1 f1 hkd => ?_)
    have R1 := H.side hs f1 I1
    have P1' := SpOK.g N1.2.2.2.2.1 (fun i hi => (f1.scC hs).1 _ (by omega)) P1
    have ref : ∀ (S2 : Sto) (a c : Int32), onl 352 S1 S2 → lst (fun v => isB (IdV p n s gc (gS S1) (wth (eS S1 k) j v))) 0 p a → c = nI (ctB (fun v => isB (IdV p n s gc (gS S1) (wth (eS S1 k) j v))) p) → wp_X9_fits (nI s) (nI k) (nI j) z S2 (fun r' S3 => (if z = 0 then c else a) = r' ∧ Rel S3 b) := by
      intro S2 a c o2 ha hc
      have R2 := R1.onl o2 (by decide) (by decide)
      have e2 := R1.idv (S' := S2) (fun c hc => o2.1 c (by omega)) s
      have eX : eS S2 k = eS S1 k := by unfold eS; rw [o2.1 _ (by omega)]
      unfold wp_X9_fits q_X9_fits_33
      refine sp_side9 (fun _ => ⟨fun z => absurd z (by decide), fun _ => ?_⟩) (fun h0 => absurd ⟨s, hs, rfl⟩ h0)
      refine sp_elem9 (fun _ => ⟨fun z => absurd z (by decide), fun _ => ?_⟩) (fun h0 => absurd ⟨k, hk, rfl⟩ h0)
      refine sp_place9 R2.2.1 hw.1 (fun _ => ⟨fun z => absurd z (by decide), fun _ => ?_⟩) (fun h0 => absurd ⟨j, hj, rfl⟩ h0)
      refine sp_inN (k := 2) (by omega) two (fun _ => ⟨fun _ => ?_, fun z => absurd z (by decide)⟩) (fun h0 => absurd hz h0)
      refine sp_spans hs (R2.1.cm R2.2.1) R2.1.gm (fun S3 rk L R b1 b2 x5 e5 => ?_)
      have R3 := R2.goM b2.M (by simp [lSp])
      rw [e5, show (16 : Int32) = nI 16 from rfl, pk_mul, nI_add, tn_nI (by omega)]
      refine ⟨vp_nI (by omega) (by omega), fun x6 e6 x9 e9 => ?_⟩
      rw [e6, e9, b1.1.2.2.2.1]
      refine sp_fits9 (E := eS S2 k) b1 R3.2.1 n4 hk hj (fun i hi => ?_) (fun S4 a' l4 o4 o5 => ?_)
      · have := R3.1.elM k hk i (by omega)
        have e3 : eS S3 k = eS S2 k := by unfold eS; rw [b2.1 _ (by omega) (by simp [lSp]; omega)]
        rw [e3] at this
        exact ⟨this.1, this.2.1, this.2.2.1⟩
      · have R4 : R0 S4 b n p K gc ec bc := R3.goM (l := [370, 373]) ⟨fun c _ q => o4 c (by intro e; exact q (by rw [e]; simp)) (by intro e; exact q (by rw [e]; simp)), fun j _ => by rw [o4 353 (by decide) (by decide)], o5⟩ (by simp)
        rw [e2, eX] at l4 ⊢
        refine ⟨fun q => ⟨?_, R4.rel⟩, fun q => ⟨?_, R4.rel⟩⟩
        · rw [if_neg q]; exact ha.same l4
        · rw [if_pos q]; exact hc
    refine sp_fits8 (sps16 hs) N1 R1.1.el hk hj P1' (fun S2 a l2 o2 => ⟨fun q => ?_, fun q => ?_⟩)
    · have := ref S2 a _ o2 l2 rfl
      rw [if_neg q] at this
      exact this
    · have := ref S2 a _ o2 l2 rfl
      rw [if_pos q] at this
      exact this
  · have := hz2.mp u.2.2.2
    rw [Int32.le_iff_toInt_le] at q2
    exact q2 this.2
