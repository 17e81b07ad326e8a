/-! the call that asks what comes after the events -/
theorem R0.back {S U U' : Sto} {b n p K gc ec bc : Nat} {F : Nat → Int32} (h : R0 S b n p K gc ec bc) (hF : KpF S F) (u365 : U.1 365 = F) (f1 : ∀ c, c < 365 → c ≠ 353 → c ≠ 355 → U.1 c = S.1 c) (f2 : ∀ j, j < 22 → j ≠ 2 → j ≠ 6 → U.1 353 j = S.1 353 j) (f3 : ∀ i, 64 ≤ i → U.1 355 i = S.1 355 i) (f4 : U.2 = S.2) (A : Agn U 365 U') : R0 U' b n p K gc ec bc := by
  obtain ⟨a1, a2, a3, a4, a5, a6, a7, a8, a9, a10, a11⟩ := A
  obtain ⟨k1, k2, k3, k4⟩ := hF
  have h0 : S.1 353 0 = nI n := (h.1.cm h.2.1).1
  have n4 := h.1.nw.1.2.2.2.1
  have f : scr S U' := by
    refine ⟨fun c hc => by rw [a1 c (by omega) (by omega), f1 c (by omega) (by omega) (by omega)], fun c c1 c2 => ?_, fun j hj => ?_, by rw [a2, f4]⟩
    · have : c = 354 ∨ c = 355 ∨ c = 356 ∨ c = 357 ∨ c = 358 ∨ c = 359 ∨ 359 < c := by omega
      rcases this with rfl | rfl | rfl | rfl | rfl | rfl | q
      · rw [a6]; funext i
        by_cases q : i < 96
        · rw [fl_lt _ _ q, u365]; exact k2 i q
        · rw [fl_ge _ _ (by omega), f1 354 (by decide) (by decide) (by decide)]
      · rw [a7]; funext i
        by_cases q : i < 64
        · rw [fl_lt _ _ q, u365]; exact k3 i q
        · rw [fl_ge _ _ (by omega), f3 i (by omega)]
      · rw [a8]; funext i
        by_cases q : i < 8
        · rw [fl_lt _ _ q, u365]; exact (k4 i q).1
        · rw [fl_ge _ _ (by omega), f1 356 (by decide) (by decide) (by decide)]
      · rw [a9]; funext i
        by_cases q : i < 8
        · rw [fl_lt _ _ q, u365]; exact (k4 i q).2.1
        · rw [fl_ge _ _ (by omega), f1 357 (by decide) (by decide) (by decide)]
      · rw [a10]; funext i
        by_cases q : i < 8
        · rw [fl_lt _ _ q, u365]; exact (k4 i q).2.2.1
        · rw [fl_ge _ _ (by omega), f1 358 (by decide) (by decide) (by decide)]
      · rw [a11]; funext i
        by_cases q : i < 8
        · rw [fl_lt _ _ q, u365]; exact (k4 i q).2.2.2
        · rw [fl_ge _ _ (by omega), f1 359 (by decide) (by decide) (by decide)]
      · rw [a1 c (by omega) (by omega), f1 c (by omega) (by omega) (by omega)]
    · have fm : ∀ i, i < 6 → flM U' i = flM S i := fun i hi => by rw [a4 i hi, u365]; exact k1 i hi
      have : j = 0 ∨ j = 1 ∨ j = 2 ∨ j = 3 ∨ j = 6 ∨ j = 9 ∨ j = 12 ∨ (j ≠ 0 ∧ j ≠ 1 ∧ j ≠ 2 ∧ j ≠ 3 ∧ j ≠ 6 ∧ j ≠ 9 ∧ j ≠ 12) := by omega
      rcases this with rfl | rfl | rfl | rfl | rfl | rfl | rfl | ⟨q1, q2, q3, q4, q5, q6, q7⟩
      · exact fm 0 (by decide)
      · exact fm 1 (by decide)
      · exact fm 2 (by decide)
      · rw [a5, u365, k1 0 (by decide), h.2.1, ← shl_n n (by omega), ← h0]; rfl
      · exact fm 3 (by decide)
      · exact fm 4 (by decide)
      · exact fm 5 (by decide)
      · rw [a3 j q1 q2 q3 q4 q5 q6 q7, f2 j hj q3 q5]
  exact h.go f (h.2.2.2.2.2.1.keepM h.1.nw f (fun c c1 c2 => by rw [a1 c (by omega) (by omega), f1 c (by omega) (by omega) (by omega)]))
theorem sp_first8 {h p w K : Nat} {V : Vc → Prop} {S : Sto} {Q : Int32 → Sto → Prop} (hok : okW K w) (hw : w ≤ 16) (P : SpOK S h p w K V)
    (hQ : ∀ a : Int32, ((∃ c, c < w ∧ hdS S h w (clf K w c) ∧ (0 : Int32) = nI (npM K w (hdS S h w) c) ∧ a = nI (clf K w c)) ∨ ((∀ c, c < w → hdS S h w (clf K w c) → ¬ (0 : Int32) = nI (npM K w (hdS S h w) c)) ∧ a = -5)) → Q a S) : wp_X5_leadNumber h 0 S (fun r S' => (0 ≤ r → Q r S') ∧ (¬ 0 ≤ r → Q (-5) S')) := by
  have hcl := clf_ok hok
  exact sp_leadNumber' hok P (fun c hc hdc hi => ⟨fun _ => hQ _ (Or.inl ⟨c, hc, hdc, hi, rfl⟩), fun z => absurd (nI_pos' (by have := (hcl c hc).1; omega)) z⟩) (fun hn => ⟨fun z => absurd z (by decide), fun _ => hQ _ (Or.inr ⟨hn, rfl⟩)⟩)
theorem op_after {S : Sto} {b : Nat} (x z : Int32) (H : Rel S b) : wp_X8_after x z S (fun r S1 => wp_X9_after x z S1 (fun r' S2 => r = r' ∧ Rel S2 b)) := by
  obtain ⟨n, p, K, gc, ec, bc, H⟩ := H.r0
  obtain ⟨h1, h2, h3, h4, h5, h6, h7⟩ := id H
  have N := h1.nw
  have n2 := N.1.2.2.1
  have n4 := N.1.2.2.2.1
  have hw := pow_n n4
  have three : (2 : Int64) = iL (((3 : Nat) : Int) - 1) := by decide
  unfold wp_X8_after q_X8_after_16 q_X8_after_72
  have none : (¬ ((∃ s, s < 3 ∧ x = nI s) ∧ ∃ j, j < 3 ∧ z = nI j)) → wp_X9_after x z S (fun r' S2 => (-1 : Int32) = r' ∧ Rel S2 b) := by
    intro hn
    unfold wp_X9_after q_X9_after_19
    refine sp_side9 (fun hs => ⟨fun z => absurd z (by decide), fun _ => ?_⟩) (fun _ => ⟨fun _ => ⟨rfl, H.rel⟩, fun z => absurd rfl z⟩)
    exact sp_inN (k := 3) (by omega) three (fun hj => absurd ⟨hs, hj⟩ hn) (fun _ => ⟨fun z => absurd rfl z, fun _ => ⟨rfl, H.rel⟩⟩)
  refine sp_side8 (fun ⟨s, hs, e⟩ => ⟨fun z => absurd z (by decide), fun _ => ?_⟩) (fun h0 => ⟨fun _ => none (fun q => h0 q.1), fun z => absurd rfl z⟩)
  subst e
  have hz3 : (∃ j, j < 3 ∧ z = nI j) ↔ (0 ≤ z.toInt ∧ z.toInt ≤ 2) := by
    have := ex_iff (x := z) (k := 3) (by omega)
    rw [this]; exact Iff.rfl
  refine ⟨fun q => none (fun u => ?_), fun q => ⟨fun q2 => ?_, fun q2 => none (fun u => ?_)⟩⟩
  · have := hz3.mp u.2
    rw [Int32.lt_iff_toInt_lt] at q
    have q' : z.toInt < 0 := q
    omega
  · rw [Int32.lt_iff_toInt_lt] at q
    rw [Int32.le_iff_toInt_le] at q2
    have q' : ¬ z.toInt < 0 := q
    have q2' : z.toInt ≤ 2 := q2
    obtain ⟨j, hj, e⟩ := hz3.mpr ⟨by omega, q2'⟩
    subst e
    obtain ⟨w, v, hEv, hMv⟩ := h1.ev
    refine sp_afterEvents hs N h1.el hEv (fun S1 g eg P1 s9 g4 f1 f2 hkd => ?_)
    have R1 : R0 S1 b n p K gc ec bc := H.goC ⟨fun c hc => f1 c (by omega), f2⟩ (fun c _ _ => f1 c (by omega))
    have e356 : S1.1 356 = S.1 356 := f1 356 (by omega)
    have e357 : S1.1 357 = S.1 357 := f1 357 (by omega)
    have e354 : S1.1 354 = S.1 354 := f1 354 (by omega)
    have hok := okW_n n2 n4 P1.1.2.2.2
    obtain ⟨V, hVV⟩ : ∃ V, V = IdV p n s g.1 g.2.1 := ⟨_, rfl⟩
    have ref : ∀ a : Int32, (j = 0 → a = S1.1 164 2) → (j = 2 → a = S1.1 48 9) → (j = 1 → ((∃ c, c < 2 ^ n ∧ hdS S1 164 (2 ^ n) (clf g.2.2 (2 ^ n) c) ∧ (0 : Int32) = nI (npM g.2.2 (2 ^ n) (hdS S1 164 (2 ^ n)) c) ∧ a = nI (clf g.2.2 (2 ^ n) c)) ∨ ((∀ c, c < 2 ^ n → hdS S1 164 (2 ^ n) (clf g.2.2 (2 ^ n) c) → ¬ (0 : Int32) = nI (npM g.2.2 (2 ^ n) (hdS S1 164 (2 ^ n)) c)) ∧ a = -5))) → wp_X9_after (nI s) (nI j) S1 (fun r' S2 => a = r' ∧ Rel S2 b) := by
      intro a ha0 ha2 ha1
      unfold wp_X9_after q_X9_after_19
      refine sp_side9 (fun _ => ⟨fun z => absurd z (by decide), fun _ => ?_⟩) (fun h0 => absurd ⟨s, hs, rfl⟩ h0)
      refine sp_inN (k := 3) (by omega) three (fun _ => ⟨fun _ => ?_, fun z => absurd z (by decide)⟩) (fun h0 => absurd ⟨j, hj, rfl⟩ h0)
      refine sp_keepTo (Or.inr rfl) (fun F hF => ?_)
      obtain ⟨S2, e2⟩ : ∃ S2, S2 = setA S1 365 F := ⟨_, rfl⟩
      rw [← e2]
      have o2 : ∀ c, c ≠ 365 → S2.1 c = S1.1 c := fun c hc => by rw [e2, setA_ne _ _ hc]
      have R2 : R0 S2 b n p K gc ec bc := R1.goM (l := [365]) (by rw [e2]; exact (frs.set (by simp)).M (by simp)) (by simp)
      have fin : ∀ (T U : Sto) (r : Int32), frH S2 T → frm lSp T U → a = r → wp_X9_again 365 U (fun S3 => a = r ∧ Rel S3 b) := by
        intro T U r fT fU hr
        refine sp_again (Or.inr rfl) (fun U' A => ⟨hr, R0.rel (R1.back hF ?_ (fun c c1 c2 c3 => ?_) (fun j' c1 c2 c3 => ?_) (fun i hi => ?_) ?_ A)⟩)
        · rw [fU.1 365 (by decide) (by simp [lSp]), fT.1 365 (by decide) (by decide) (by decide) (by decide), e2, setA_eq]
        · rw [fU.1 c c2 (by simp [lSp]; omega), fT.1 c c2 c3 (by omega) (by omega), o2 c (by omega)]
        · rw [fU.2.1 j' (by omega) (by omega), fT.2.1 j' c2 c3, o2 353 (by decide)]
        · rw [fU.1 355 (by decide) (by simp [lSp]), fT.2.2.1 i hi, o2 355 (by decide)]
        · rw [fU.2.2, fT.2.2.2, e2]; rfl
      have h9 : S2.1 353 9 = nI ec := by rw [o2 353 (by decide)]; exact R1.1.2.2.1.2.2.2.2.1
      have ec8 : ec ≤ 8 := h1.1.2.2.2.2.2.1
      refine loopE (fun m i (T : Sto) => q_X9_after_31 (nI s) (nI j) (fun r' S2 => a = r' ∧ Rel S2 b) m (nI i) T) (fun i T => Cm T n p (evF n p (eS S) w v (gc, gS S, K) i).2.2 ∧ Gm T n p (evF n p (eS S) w v (gc, gS S, K) i).1 (evF n p (eS S) w v (gc, gS S, K) i).2.1 ∧ frH S2 T) ec ?_ ?_ 0 S2 (Nat.zero_le _) ⟨R2.1.cm R2.2.1, ?_, frH.rf⟩
      · rintro T ⟨t1, t2, t3⟩
        unfold q_X9_after_31 q_X9_after_93
        rw [t3.2.1 9 (by decide) (by decide), h9, nI_leI (by omega) (by omega)]
        rw [← eg] at t1 t2
        refine ⟨fun _ => sp_spans hs t1 t2 (fun U rk L R b1 b2 => ?_), fun q => absurd (Nat.le_refl _) q⟩
        have lk := link P1 b1
        have hdeq : hdS S1 164 (2 ^ n) = hdL rk L := funext fun l => propext (lk.1 l)
        rw [show (0 : Int32) = nI 0 from rfl, show (1 : Int32) = nI 1 from rfl, nI_eq (by omega) (by omega), nI_eq (by omega) (by omega)]
        refine ⟨fun j0 => ⟨fun j1 => fin T U _ t3 b2 ?_, fun j1 => ?_⟩, fun j0 => fin T U _ t3 b2 ?_⟩
        · rw [ha2 (by omega), s9, b2.2.1 6 (by decide) (by decide), t2.1]
        · have ha := ha1 j1
          rw [hdeq] at ha
          have le : ∀ c, npM g.2.2 (2 ^ n) (hdL rk L) c ≤ c := fun c => ctB_le _ c
          refine sp_firstLead b1 (by omega) (fun c hc hd hi => fin T U _ t3 b2 ?_) (fun hn => fin T U _ t3 b2 ?_)
          · rcases ha with ⟨c', u1, u2, u3, u4⟩ | ⟨q, -⟩
            · have := le c'
              have := le c
              have ec : c' = c := npM_inj u2 hd (by
                rw [show (0 : Int32) = nI 0 from rfl, nI_eq (by omega) (by omega)] at u3 hi
                omega)
              rw [u4, ec]
            · exact absurd hi (q c hc hd)
          · rcases ha with ⟨c', u1, u2, u3, -⟩ | ⟨-, q⟩
            · exact absurd u3 (hn c' u1 u2)
            · exact q
        · rw [ha0 j0, lk.2.2, b1.1.2.2.2.2.2]
      · rintro i m T hi ⟨t1, t2, t3⟩ ih
        unfold q_X9_after_31
        rw [t3.2.1 9 (by decide) (by decide), h9, nI_leI (by omega) (by omega), tn_nI (i := i) (by omega), t3.1 356 (by decide) (by decide) (by decide) (by decide), t3.1 357 (by decide) (by decide) (by decide) (by decide), o2 356 (by decide), o2 357 (by decide), e356, e357, (hMv i hi).1, (hMv i hi).2]
        refine ⟨fun q => by omega, fun _ => ⟨vi (by omega) (by omega), vi (by omega) (by omega), ?_⟩⟩
        refine sp_happens (E := eS S) t1 t2 (fun e he a ha => ?_) (hEv.2.2 i hi).2.2 (fun T' u1 u2 u3 x ex => ?_)
        · rw [t3.1 354 (by decide) (by decide) (by decide) (by decide), o2 354 (by decide), e354]
          have := h1.elM e he a ha
          exact ⟨this.1, this.2.1, this.2.2.1⟩
        · rw [ex, nI_1]
          exact ih T' ⟨u1, u2, t3.tr u3⟩
      · have e := 0
        have G := h1.gm
        exact ⟨by rw [o2 353 (by decide), f1 353 (by omega)]; exact G.1, G.2.1, fun i hi c hc => by rw [o2 355 (by decide), f1 355 (by omega)]; exact G.2.2 i hi c hc⟩
    rw [show nI j = 2 ↔ j = 2 by rw [show (2 : Int32) = nI 2 from rfl, nI_eq (by omega) (by omega)], show nI j = 0 ↔ j = 0 by rw [show (0 : Int32) = nI 0 from rfl, nI_eq (by omega) (by omega)]]
    refine ⟨fun j0 => ⟨fun j2 => ?_, fun j2 => ref _ (fun q => absurd q j0) (fun _ => rfl) (fun q => by omega)⟩, fun j0 => ref _ (fun _ => rfl) (fun q => by omega) (fun q => by omega)⟩
    exact sp_first8 hok (by omega) P1 (fun a ha => ref a (fun q => absurd q j0) (fun q => absurd q j2) (fun _ => ha))
  · have := hz3.mp u.2
    rw [Int32.le_iff_toInt_le] at q2
    exact q2 this.2
