/-! the call: read (2) -/
theorem EB.eq {S S' : Sto} {ec bc : Nat} (h : EB S ec bc) (e : ∀ c, (14 ≤ c ∧ c ≤ 17) ∨ (356 ≤ c ∧ c ≤ 359) → S'.1 c = S.1 c) (a : S'.1 1 8 = S.1 1 8 ∧ S'.1 1 11 = S.1 1 11) (b : S'.1 353 9 = S.1 353 9 ∧ S'.1 353 12 = S.1 353 12) : EB S' ec bc := by
  obtain ⟨h1, ⟨h2, h3, h4, h5⟩, h6, h7⟩ := h
  refine ⟨h1, ⟨by rw [a.1]; exact h2, by rw [a.2]; exact h3, by rw [b.1]; exact h4, by rw [b.2]; exact h5⟩, fun i hi => ?_, fun i hi => ?_⟩
  · rw [e 356 (by decide), e 357 (by decide), e 14 (by decide), e 15 (by decide)]; exact h6 i hi
  · rw [e 358 (by decide), e 359 (by decide), e 16 (by decide), e 17 (by decide)]; exact h7 i hi
/-- the store as if the text had been left alone -/
def mend (S S8 : Sto) : Sto := (fun k => if k = 35 ∨ k = 36 ∨ k = 37 then S.1 k else if k = 353 then (fun j => if j = 14 ∨ j = 15 then S.1 353 j else S8.1 353 j) else S8.1 k, S8.2)
theorem mend_t (S S8 : Sto) {k : Nat} (h : k = 35 ∨ k = 36 ∨ k = 37) : (mend S S8).1 k = S.1 k := if_pos h
theorem mend_o (S S8 : Sto) {k : Nat} (h : ¬ (k = 35 ∨ k = 36 ∨ k = 37)) (h2 : k ≠ 353) : (mend S S8).1 k = S8.1 k := (if_neg h).trans (if_neg h2)
theorem mend_r (S S8 : Sto) (j : Nat) : (mend S S8).1 353 j = if j = 14 ∨ j = 15 then S.1 353 j else S8.1 353 j := by
  show (if (353 = 35 ∨ 353 = 36 ∨ 353 = 37) then S.1 353 else if 353 = 353 then (fun j => if j = 14 ∨ j = 15 then S.1 353 j else S8.1 353 j) else S8.1 353) j = _
  rw [if_neg (by decide), if_pos rfl]
theorem R0.read {S S8 : Sto} {b n p K gc ec bc ed : Nat} {E G : Nat → Nat → Int32} {w : Us} (H : R0 S b n p K gc ec bc) (hed : ed ≤ b) (hb : b + 12 < 1000000) (C : CA S n p K gc ed E G) (hE : EB S ec bc) (O' : oA w) (e' : eD (n, p, K, gc, ed, E, G) w) (l' : w.2.2.2.2.1 ≤ ed + 12) (C8 : cA S8 w) (R8 : rA S8 w)
    (o : ∀ k, k = 0 ∨ (14 ≤ k ∧ k ≤ 34) ∨ (38 ≤ k ∧ k ≤ 106) ∨ (356 ≤ k ∧ k ≤ 364) → S8.1 k = S.1 k) (o1 : ∀ j, j = 8 ∨ j = 11 → S8.1 1 j = S.1 1 j) (o3 : ∀ j, j = 9 ∨ j = 12 ∨ j = 21 → S8.1 353 j = S.1 353 j) (o2 : S8.2 = S.2) (o18 : ∀ k, 18 ≤ k → k ≤ 34 → S8.1 k = S.1 k) (hT : S8.1 35 1 = 0 ∧ S8.1 353 14 = 0) : Rel S8 (b + 12) := by
  obtain ⟨n', p', K', gc', ed', E', G'⟩ := w
  have g4 : gc' ≤ 4 := O'.1.2.2.2.2
  have C2 : CA S8 n' p' K' gc' ed' E' G' := C8
  have R2 : RA S8 n' p' K' gc' E' G' := R8
  have l2 : ed' ≤ ed + 12 := l'
  obtain ⟨M, eM⟩ : ∃ M, M = mend S S8 := ⟨_, rfl⟩
  have mo : ∀ k, ¬ (k = 35 ∨ k = 36 ∨ k = 37) → k ≠ 353 → M.1 k = S8.1 k := fun k h h2 => by rw [eM, mend_o S S8 h h2]
  have mt : ∀ k, k = 35 ∨ k = 36 ∨ k = 37 → M.1 k = S.1 k := fun k h => by rw [eM, mend_t S S8 h]
  have mr : ∀ j, M.1 353 j = if j = 14 ∨ j = 15 then S.1 353 j else S8.1 353 j := fun j => by rw [eM, mend_r]
  have HM : R0 M (b + 12) n' p' K' gc' ec bc := by
    refine H.chg (ed' := ed') (E' := E') (G' := G') ?_ C (C2.eq g4 (fun k h1 h2 => mo k (by omega) (by omega))) (R2.eq (fun j h1 h2 => by rw [mr, if_neg (by omega)]) (mo 354 (by decide) (by decide)) (mo 355 (by decide) (by decide))) O' (hE.eq (fun k h => by rw [mo k (by omega) (by omega)]; exact o k (by omega)) ⟨by rw [mo 1 (by decide) (by decide)]; exact o1 8 (by decide), by rw [mo 1 (by decide) (by decide)]; exact o1 11 (by decide)⟩ ⟨by rw [mr, if_neg (by decide)]; exact o3 9 (by decide), by rw [mr, if_neg (by decide)]; exact o3 12 (by decide)⟩) e' (by omega) hb
    refine ⟨⟨fun k hk => ?_, by rw [mr, if_pos (by decide)], by rw [mr, if_neg (by decide)]; exact o3 21 (by decide), by rw [eM]; exact o2⟩, fun k hk => ?_⟩
    · by_cases q : k = 35 ∨ k = 36 ∨ k = 37
      · exact mt k q
      · rw [mo k q (by omega)]; exact o k (by omega)
    · rw [mo k (by omega) (by omega)]; exact o k (by omega)
  refine R0.rel (HM.out (fun k h1 h2 h3 h4 => ?_) (fun j h1 h2 h3 => ?_) ?_ ?_)
  · rw [mo k (by omega) h2]
  · rw [mr, if_neg (by omega)]
  · exact ⟨0, by omega, hT.1, hT.2, fun i hi => by omega⟩
  · have h4 := H.2.2.2.1
    unfold Tap
    rw [o 39 (by decide), o 40 (by decide), o 362 (by decide), o 363 (by decide), o2]
    exact h4
theorem op_read {S : Sto} {b : Nat} (hb : b + 12 < 1000000) (H : Rel S b) : wp_X8_read S (fun r S1 => wp_X9_read S1 (fun r' S2 => r = r' ∧ Rel S2 (b + 12))) := by
  obtain ⟨n, p, K, gc, ec, bc, H⟩ := H.r0
  obtain ⟨ed, hed, hC, hR, hO, hE⟩ := H.abs
  obtain ⟨h1, h2, ⟨tl, t0, t1, t2, t3⟩, h4, h5, h6, h7⟩ := id H
  obtain ⟨c, ec'⟩ : ∃ c : Nat → Nat, c = fun i => (S.1 36 i).toNatClampNeg := ⟨_, rfl⟩
  have hc : ∀ i, i < tl → c i < 128 ∧ S.1 36 i = nI (c i) ∧ S.1 360 i = nI (c i) := by
    intro i hi
    obtain ⟨e1, d, hd, e2⟩ := t3 i hi
    have : c i = d := by rw [ec']; show (S.1 36 i).toNatClampNeg = d; rw [e2, tn_nI (by omega)]
    rw [this, e1]; exact ⟨hd, e2, e2⟩
  have g4 := hO.1.2.2.2.2
  obtain ⟨u, eu⟩ : ∃ u : Us, u = (n, p, K, gc, ed, (fun e i => S.1 (2 + 1 + e) i), (fun g i => S.1 (9 + 1 + g) i)) := ⟨_, rfl⟩
  have Ou : oA u := by rw [eu]; exact hO
  unfold wp_X8_read q_X8_read_30 wp_X3_faultPlace
  intro S1 e1
  have P1 : PC S1 tl c 0 := by
    rw [e1]
    exact ⟨⟨t0, by omega, fun i hi => (hc i hi).1⟩, by rw [uA_eq, upd_ne _ _ (by decide)]; exact t1, by rw [uA_eq, upd_eq]; rfl, fun i hi => by rw [uA_ne (by decide)]; exact (hc i hi).2.1⟩
  have PRk : ∀ T : Sto, T.1 353 14 = S.1 353 14 → T.1 353 15 = 0 → T.1 360 = S.1 360 → PR T tl c 0 := fun T a1 a2 a3 => ⟨⟨t0, by omega, fun i hi => (hc i hi).1⟩, by rw [a1]; exact t2, a2, fun i hi => by rw [a3]; exact (hc i hi).2.2⟩
  refine ⟨13, sp_faultLoop 12 1 0 rfl (by omega) P1 (fun g => ⟨fun _ => ?_, fun z => absurd (by decide) z⟩) (fun g => ⟨fun z => absurd z (nI_pos (by
    have : ∀ m a, a ≤ tl → (fp tl c m a).2 ≤ tl := by
      intro m
      induction m with
      | zero => intro a h; exact h
      | succ m ih =>
        intro a h
        have lc := cl_tl (c := c) h
        unfold fp
        split
        · split
          · split
            · exact lc
            · split
              · exact ih _ (by omega)
              · exact lc
          · exact lc
        · exact lc
    have := this 12 0 (by omega)
    omega)), fun _ S2 e2 => ?_⟩)⟩
  · -- in form
    unfold wp_X3_perform
    intro S3 e3
    rw [uA_uA] at e3
    have e31 : S3 = S1 := by rw [e3, e1, uA_uA]
    rw [e31]
    have C1 : cA S1 u := by
      rw [eu]
      exact hC.eq g4 (fun k k1 k2 => by rw [e1, uA_ne (by omega)])
    refine ⟨13, sp_performLoop 12 1 0 0 u S1 rfl P1 g C1 Ou (fun S4 C4 f4 S5 e5 => ?_)⟩
    unfold wp_X9_read wp_X9_sees
    intro S6 e6
    have f1 : frX S S1 := by rw [e1]; exact frX.go
    have F4 := f1.tr f4
    have o6 : ∀ k, k ≠ 35 → k ≠ 353 → S6.1 k = S4.1 k := fun k a1 a2 => by rw [e6, uA_ne a2, e5, uA_ne a1]
    have r6 : ∀ j, j ≠ 15 → S6.1 353 j = S.1 353 j := fun j hj => by
      rw [e6, uA_eq, upd_ne _ _ hj, e5, uA_ne (by decide), F4.1 353 (by decide)]
    have P6 : PR S6 tl c 0 := PRk S6 (r6 14 (by decide)) (by rw [e6, uA_eq, upd_eq]) (by rw [o6 360 (by decide) (by decide)]; exact F4.1 360 (by decide))
    refine ⟨12, sp_seesLoop 12 0 0 rfl (by omega) P6 (fun _ => ⟨fun _ S7 e7 => ?_, fun z => absurd z (by decide)⟩) (fun g' => by rw [g] at g'; exact absurd g' (by decide))⟩
    have e76 : S7 = S6 := by rw [e7, uA_uA]; exact uA_same S6 353 15 P6.2.2.1
    rw [e76]
    have R6 : rA S6 u := by
      rw [eu]
      exact hR.eq (fun j _ h => r6 j h) (by rw [o6 354 (by decide) (by decide)]; exact F4.1 354 (by decide)) (by rw [o6 355 (by decide) (by decide)]; exact F4.1 355 (by decide))
    refine ⟨13, sp_readLoop 12 0 0 u S6 P6 g R6 Ou (fun S8 R8 f8 => ⟨rfl, ?_⟩)⟩
    obtain ⟨d1, d2, d3⟩ := dt_ok (tl := tl) (c := c) 12 0 u Ou
    have g4' : (dt tl c 12 0 u).2.2.2.2.1 ≤ 4 := d1.1.2.2.2.2
    have q9 : ∀ k, k ≠ 353 → (uA S8 353 14 0).1 k = S8.1 k := fun k hk => uA_ne hk
    have q3 : ∀ j, j ≠ 14 → (uA S8 353 14 0).1 353 j = S8.1 353 j := fun j hj => by rw [uA_eq, upd_ne _ _ hj]
    have all : ∀ k, (k < 353 ∧ k ≠ 35) ∨ (356 ≤ k ∧ k ≤ 364) → (uA S8 353 14 0).1 k = S4.1 k := fun k hk => by rw [q9 k (by omega), f8.1 k (by omega), o6 k (by omega) (by omega)]
    have C8 : cA (uA S8 353 14 0) (dt tl c 12 0 u).2 := C4.eq g4' (fun k k1 k2 => all k (by omega))
    have R8' : rA (uA S8 353 14 0) (dt tl c 12 0 u).2 := R8.eq (fun j h1 _ => q3 j h1) (q9 354 (by decide)) (q9 355 (by decide))
    have eu1 : u.2.2.2.2.1 = ed := by rw [eu]
    refine H.read (E := fun e i => S.1 (2 + 1 + e) i) (G := fun g i => S.1 (9 + 1 + g) i) hed hb hC hE d1 (by rw [← eu]; exact d2) (by rw [eu1] at d3; exact d3) C8 R8' (fun k hk => ?_) (fun j hj => ?_) (fun j hj => ?_) ?_ (fun k k1 k2 => ?_) ⟨?_, by rw [uA_eq, upd_eq]⟩
    · rw [all k (by omega)]; exact F4.1 k (by omega)
    · rw [all 1 (by omega)]; exact F4.2.1 j hj
    · rw [q3 j (by omega), f8.2.1 j (by omega), r6 j (by omega)]
    · show S8.2 = S.2
      rw [f8.2.2, e6, e5]; exact F4.2.2.2
    · rw [all k (by omega)]; exact F4.1 k (by omega)
    · rw [q9 35 (by decide), f8.1 35 (by decide), e6, uA_ne (by decide), e5, uA_eq, upd_eq]
  · -- a fault
    have e21 : S2 = uA (uA S 35 2 (nI (fp tl c 12 0).2)) 35 1 0 := by rw [e2, e1, uA_uA]
    unfold wp_X9_read wp_X9_sees
    intro S6 e6
    have P6 : PR S6 tl c 0 := PRk S6 (by rw [e6, uA_eq, upd_ne _ _ (by decide), e21, uA_ne (by decide), uA_ne (by decide)]) (by rw [e6, uA_eq, upd_eq]) (by rw [e6, uA_ne (by decide), e21, uA_ne (by decide), uA_ne (by decide)])
    refine ⟨12, sp_seesLoop 12 0 0 rfl (by omega) P6 (fun g' => by rw [g] at g'; exact absurd g' (by decide)) (fun _ => ⟨fun z => absurd rfl z, fun _ S7 e7 => ?_⟩)⟩
    have a15 : S7.1 353 15 = nI (fp tl c 12 0).2 := by rw [e7, uA_eq, upd_ne _ _ (by decide), uA_eq, upd_eq]
    refine ⟨by rw [a15], ?_⟩
    have o : ∀ k, k ≠ 35 → k ≠ 353 → S7.1 k = S.1 k := fun k k1 k2 => by rw [e7, uA_ne k2, uA_ne k2, e6, uA_ne k2, e21, uA_ne k1, uA_ne k1]
    refine (R0.rel (H.out (fun k k1 k2 k3 k4 => o k (by omega) k2) (fun j j1 j2 j3 => ?_) ?_ ?_)).mono (by omega)
    · rw [e7, uA_eq, upd_ne _ _ j2, uA_eq, upd_ne _ _ j3, e6, uA_eq, upd_ne _ _ j3, e21, uA_ne (by decide), uA_ne (by decide)]
    · refine ⟨0, by omega, ?_, ?_, fun i hi => by omega⟩
      · rw [e7, uA_ne (by decide), uA_ne (by decide), e6, uA_ne (by decide), e21, uA_eq, upd_eq]; rfl
      · rw [e7, uA_eq, upd_eq]; rfl
    · unfold Tap
      rw [o 39 (by decide) (by decide), o 40 (by decide) (by decide), o 362 (by decide) (by decide), o 363 (by decide) (by decide), show S7.2 = S.2 by rw [e7, e6, e21]; rfl]
      exact h4
