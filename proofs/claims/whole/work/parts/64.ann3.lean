/-! the calls that ask of annihilators (3) -/
theorem sp_lies9 {n p K gc ec bc b rk rk0 : Nat} {V AA : Vc → Prop} {L L0 : Nat → Nat} {R Rw0 : Nat → Vc} {S T : Sto} {x y z : Int32} {Q : Int32 → Sto → Prop} (H : R0 S b n p K gc ec bc) (MT : MB T p (2 ^ n) K V rk0 L0 Rw0) (kT : Kpt S 376 (2 ^ n) K rk0 L0 Rw0) (h36 : S.1 353 36 = nI rk0) (M : MB S p (2 ^ n) K AA rk L R)
    (q1 : ∀ S', (∀ v, V v → AA v) → R0 S' b n p K gc ec bc → Q 1 S') (q0 : ∀ S', ¬ (∀ v, V v → AA v) → R0 S' b n p K gc ec bc → Q 0 S') : ∃ m, q_X9_annihilator_145 x y z Q m 0 S := by
  have n4 := H.1.nw.1.2.2.2.1
  have hw := pow_n n4
  have hrk0 := MT.rk
  have hp8 := MT.1.1.pos
  have h3 := H.2.1
  have hcl := clf_ok MT.1.2.2.1
  have hRB := MT.2.2.2.2.1
  have sV := MT.2.2.2.2.2.1
  have sA := M.2.2.2.2.2.1
  have row : ∀ i, i < rk0 → ∀ a, a < 2 ^ n → S.1 376 (16 * i + a) = iI (rwT S 376 i a) ∧ 0 ≤ rwT S 376 i a ∧ rwT S 376 i a < p := fun i hi a ha => Kpt_rd MT n4 kT hi a ha
  have rowc : ∀ c, c < 2 ^ n → hdL rk0 L0 (clf K (2 ^ n) c) → ∀ a, a < 2 ^ n → rwT S 376 (npM K (2 ^ n) (hdL rk0 L0) c) a = Rw0 (clf K (2 ^ n) c) a := by
    intro c hc hd a ha
    have g := (hRB.1 _ hd).2.2.2.1 a ha
    unfold rwT
    rw [kT c hc hd a (by omega), if_pos ha, toInt_iI ⟨by omega, by omega⟩]
  refine loopE (fun m i (Z : Sto) => q_X9_annihilator_145 x y z Q m (nI i) Z) (fun i Z => frs [370] S Z ∧ ∀ k, k < i → AA (rwT S 376 k)) rk0 ?_ ?_ 0 S (Nat.zero_le _) ⟨frs.rf, fun k q => by omega⟩
  · rintro Z ⟨z1, z2⟩
    unfold q_X9_annihilator_145
    rw [z1.1 353 (by simp), h36, nI_leI (by omega) (by omega)]
    refine ⟨fun _ => q1 Z (fun v hv => hRB.span sV sA (fun l hl => ?_) hv) (H.goM (z1.M (by simp)) (by simp)), fun q => absurd (Nat.le_refl _) q⟩
    obtain ⟨r, hr, hL⟩ := id hl
    have hlw := (MT.2.2.1 r hr).1
    rw [hL] at hlw
    obtain ⟨-, -, c, hc, ec⟩ := hcl l hlw
    have hd : hdL rk0 L0 (clf K (2 ^ n) c) := by rw [ec]; exact hl
    have hlt : npM K (2 ^ n) (hdL rk0 L0) c < rk0 := by
      have q1 := npM_all (hd := hdL rk0 L0) MT.1.2.2.1
      have q2 := MT.2.2.2.2.2.2
      have := npM_lt (K := K) (w := 2 ^ n) (hd := hdL rk0 L0) hc hd
      omega
    refine sA.to (z2 _ hlt) (fun a ha => ?_)
    rw [rowc c hc hd a ha, ec]
  · rintro i m Z hi ⟨z1, z2⟩ ih
    unfold q_X9_annihilator_145
    rw [z1.1 353 (by simp), h36, nI_leI (by omega) (by omega)]
    refine ⟨fun q => by omega, fun _ => ?_⟩
    refine loopE (fun m2 a (Y : Sto) => q_X9_annihilator_157 x y z (fun y5 S => q_X9_annihilator_145 x y z Q m y5 S) Q m2 (nI i) (nI a) Y) (fun a Y => Y = setA Z 370 (fl a (fun t => S.1 376 (16 * i + t)) (Z.1 370))) (2 ^ n) ?_ ?_ 0 Z (Nat.zero_le _) (by rw [fl_0, setA_self])
    · intro Y hY
      unfold q_X9_annihilator_157
      have y1 : frs [370] S Y := z1.tr (by rw [hY]; exact frs.set (by simp))
      have MY := M.keepS y1 (by simp)
      rw [y1.1 353 (by simp), h3, nI_leI (by omega) (by omega)]
      refine ⟨fun _ => ?_, fun q => absurd (Nat.le_refl _) q⟩
      have hX : rd (Y.1 370) (2 ^ n) p (rwT S 376 i) := by
        intro a ha
        rw [hY, setA_eq, fl_lt _ _ ha]
        exact row i hi a ha
      refine sp_reduce MY hX (fun F r a1 a2 a3 => ?_)
      have zr := Rest.zero sA MY.2.2.2.2.1 a2
      have g1 : frs [370] S (setA Y 370 F) := y1.tr (frs.set (by simp))
      refine loopE (fun m3 a (W : Sto) => q_X9_annihilator_199 x y z (fun y5 S => q_X9_annihilator_145 x y z Q m y5 S) Q m3 (nI i) (nI a) W) (fun a W => W = setA Y 370 F ∧ ∀ t, t < a → r t = 0) (2 ^ n) ?_ ?_ 0 _ (Nat.zero_le _) ⟨rfl, fun t q => by omega⟩
      · rintro W ⟨w1, w2⟩
        unfold q_X9_annihilator_199
        rw [w1, g1.1 353 (by simp), h3, nI_leI (by omega) (by omega)]
        refine ⟨fun _ x2 e2 => ?_, fun q => absurd (Nat.le_refl _) q⟩
        rw [e2, nI_1]
        refine ih _ ⟨g1, fun k hk => ?_⟩
        by_cases e : k = i
        · rw [e]; exact zr.mpr w2
        · exact z2 k (by omega)
      · rintro a m3 W ha ⟨w1, w2⟩ ih3
        unfold q_X9_annihilator_199
        rw [w1, g1.1 353 (by simp), h3, nI_leI (by omega) (by omega), tn_nI (by omega), setA_eq, (a1 a ha).1]
        have g := (a1 a ha).2
        rw [iI_eq0 ⟨by omega, by omega⟩]
        refine ⟨fun q => by omega, fun _ => ⟨vp_nI (by omega) (by omega), fun q x2 e2 => ?_, fun q => ?_⟩⟩
        · rw [e2, nI_1]
          refine ih3 _ ⟨rfl, fun t ht => ?_⟩
          by_cases e : t = a
          · rw [e]; exact q
          · exact w2 t (by omega)
        · exact q0 _ (fun hall => q (zr.mp (hall _ (by
            obtain ⟨c, c1, c2, c3⟩ := MT.at hi
            refine sV.to (hRB.1 _ c2).2.1 (fun t ht => ?_)
            rw [← rowc c c1 c2 t ht, c3])) a ha)) (H.goM (g1.M (by simp)) (by simp))
    · intro a m2 Y ha hY ih2
      unfold q_X9_annihilator_157
      have y1 : frs [370] S Y := z1.tr (by rw [hY]; exact frs.set (by simp))
      rw [y1.1 353 (by simp), y1.1 376 (by simp), h3, nI_leI (by omega) (by omega), show (16 : Int32) = nI 16 from rfl, pk_mul, nI_add, tn_nI (i := 16 * i + a) (by omega), tn_nI (i := a) (by omega)]
      refine ⟨fun q => by omega, fun _ => ⟨vp_nI (by omega) (by omega), vp_nI (by omega) (by omega), fun S1 e1 x2 e2 => ?_⟩⟩
      rw [e2, nI_1]
      refine ih2 S1 ?_
      rw [e1, hY]
      exact fl_step Z 370 a (fun t => S.1 376 (16 * i + t)) _
