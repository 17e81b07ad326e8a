/-! what happens in the reference (2) -/
theorem sp_happens {n p w v : Nat} {g : Gk} {E : Nat → Vc} {S : Sto} {Q : Sto → Prop} (hC : Cm S n p g.2.2) (hG : Gm S n p g.1 g.2.1) (hE : ∀ e, e < 6 → ∀ i, i < 16 → S.1 354 (16 * e + i) = iI (E e i) ∧ 0 ≤ E e i ∧ E e i < p) (hv : evOK w v)
    (hQ : ∀ S', Cm S' n p (evS n p E w v g).2.2 → Gm S' n p (evS n p E w v g).1 (evS n p E w v g).2.1 → frH S S' → Q S') : wp_X9_happens (nI w) (nI v) S Q := by
  obtain ⟨gc, G, K⟩ := g
  simp only at hC hG
  obtain ⟨h1, h2, h3, h4, n2, n4, hp, hK⟩ := id hC
  obtain ⟨g1, g2, g3⟩ := id hG
  obtain ⟨v1, v2, v3, v4⟩ := hv
  have hw := pow_n n4
  have hp8 := hp.pos
  have same : evS n p E w v (gc, G, K) = (gc, G, K) → Q S := fun e => hQ S (by rw [e]; exact hC) (by rw [e]; exact hG) frH.rf
  unfold wp_X9_happens q_X9_happens_210
  rw [g1, h1, show (0 : Int32) = nI 0 from rfl, show (3 : Int32) = nI 3 from rfl, show (4 : Int32) = nI 4 from rfl, nI_eq (by omega) (by omega), nI_eq (by omega) (by omega), nI_eq (by omega) (by omega), nI_leI (by omega) (by omega), nI_leI (by omega) (by omega), nI_ltI (by omega) (by omega)]
  refine ⟨fun w0 => ⟨fun w3 => ⟨fun w4 => ⟨fun vn => same ?_, fun vn => ?_⟩, fun w4 => ⟨fun vg S6 e6 x3 e3 => ?_, fun vg => same ?_⟩⟩, fun w3 S8 e8 => ?_⟩, fun w0 => ⟨fun g4 => same ?_, fun g4 => ?_⟩⟩
  · unfold evS; rw [if_neg w0, if_neg w3, if_neg w4, if_neg (by omega)]
  · -- products
    have ev : evS n p E w v (gc, G, K) = (gc, fun i c => (if w = 1 then pl (2 ^ v) (G i) c else pr (2 ^ v) (G i) c) % p, K) := by
      unfold evS; rw [if_neg w0, if_neg w3, if_neg w4, if_pos (by omega)]
    have hv2 : 2 ^ v < 2 ^ n := Nat.pow_lt_pow_right (by omega) (by omega)
    rw [ev] at hQ
    simp only at hQ
    obtain ⟨P, hP⟩ : ∃ P : Nat → Vc, P = fun i c => (if w = 1 then pl (2 ^ v) (G i) c else pr (2 ^ v) (G i) c) % p := ⟨_, rfl⟩
    rw [← hP] at hQ
    refine loopE (fun m i (T : Sto) => q_X9_happens_108 (nI w) (nI v) Q m (nI i) T) (fun i T => Gm T n p gc (fun k c => if k < i then P k c else G k c) ∧ frH S T ∧ T.1 353 2 = S.1 353 2) gc ?_ ?_ 0 S (Nat.zero_le _) ⟨hG, frH.rf, rfl⟩
    · rintro T ⟨t1, t2, t3⟩
      unfold q_X9_happens_108 q_X9_happens_210
      rw [t1.1, nI_leI (by omega) (by omega)]
      refine ⟨fun _ => hQ T (hC.keepH t2 t3) ⟨t1.1, t1.2.1, fun i hi j hj => ?_⟩ t2, fun q => absurd (Nat.le_refl _) q⟩
      have := t1.2.2 i hi j hj
      simp only [if_pos hi] at this
      exact this
    · rintro i m T hi ⟨t1, t2, t3⟩ ih
      unfold q_X9_happens_108
      rw [t1.1, nI_leI (by omega) (by omega), shl_n v (by omega)]
      refine ⟨fun q => by omega, fun _ => ?_⟩
      have cT := hC.keepH t2 t3
      refine sp_unitU (by omega) (fun S2 u1 u2 => ?_)
      have cT2 := cT.keep (u2.m (by simp))
      have gT2 := t1.keep (u2.m (by simp)) (by simp)
      -- what is made comes to the row
      have last : ∀ S5, frs [371, 373] T S5 → rd (S5.1 373) (2 ^ n) p (P i) → q_X9_happens_169 (nI w) (nI v) (fun y3 S => q_X9_happens_108 (nI w) (nI v) Q m y3 S) Q (nI i) S5 := by
        intro S5 f5 r5
        unfold q_X9_happens_169
        refine loopE (fun m2 a (Y : Sto) => q_X9_happens_172 (nI w) (nI v) (fun y3 S => q_X9_happens_108 (nI w) (nI v) Q m y3 S) Q m2 (nI i) (nI a) Y) (fun a Y => frs [355] S5 Y ∧ (∀ b, b < a → Y.1 355 (16 * i + b) = S5.1 373 b) ∧ ∀ k, (k < 16 * i ∨ 16 * i + 16 ≤ k) → Y.1 355 k = S5.1 355 k) 16 ?_ ?_ 0 S5 (by omega) ⟨frs.rf, fun b q => by omega, fun _ _ => rfl⟩
        · rintro Y ⟨y1, y2, y3⟩
          unfold q_X9_happens_172
          refine ⟨fun _ x ex => ?_, fun q => absurd (show (16 : Int32) ≤ nI 16 by decide) q⟩
          rw [ex, nI_1]
          have fY : frs [355, 371, 373] T Y := (f5.mono (by simp)).tr (y1.mono (by simp))
          refine ih Y ⟨⟨by rw [fY.1 353 (by simp)]; exact t1.1, t1.2.1, fun k hk j hj => ?_⟩, t2.tr ⟨fun c a b d e => fY.1 c (by simp; omega), fun j _ _ => by rw [fY.1 353 (by simp)], fun k hk => ?_, fY.2⟩, by rw [fY.1 353 (by simp)]; exact t3⟩
          · by_cases e : k = i
            · rw [e, y2 j (by omega)]
              simp only [if_pos (Nat.lt_succ_self i)]
              exact r5 j hj
            · have := t1.2.2 k hk j hj
              rw [y3 _ (by omega), f5.1 355 (by simp)]
              by_cases q : k < i
              · simp only [if_pos q] at this
                simp only [if_pos (show k < i + 1 by omega)]
                exact this
              · simp only [if_neg q] at this
                simp only [if_neg (show ¬ k < i + 1 by omega)]
                exact this
          · rw [y3 _ (by omega), f5.1 355 (by simp)]
        · rintro a m2 Y ha ⟨y1, y2, y3⟩ ih2
          unfold q_X9_happens_172
          rw [y1.1 373 (by simp), show (16 : Int32) = nI 16 from rfl, nI_leI (by omega) (by omega), pk_mul, nI_add, tn_nI (i := a) (by omega), tn_nI (i := 16 * i + a) (by omega)]
          refine ⟨fun q => by omega, fun _ => ⟨vi (by omega) (by omega), vi (by omega) (by omega), fun S6 e6 x ex => ?_⟩⟩
          rw [ex, nI_1]
          refine ih2 S6 ⟨y1.tr (by rw [e6]; exact frs.upd (by simp)), fun b hb => ?_, fun k hk => ?_⟩
          · rw [e6, uA_eq]
            by_cases e : b = a
            · rw [e, upd_eq]
            · rw [upd_ne _ _ (by omega)]; exact y2 b (by omega)
          · rw [e6, uA_eq, upd_ne _ _ (by omega)]; exact y3 k hk
      have hGi : (fun c => if i < i then P i c else G i c) = G i := by funext c; rw [if_neg (Nat.lt_irrefl i)]
      rw [show (1 : Int32) = nI 1 from rfl, nI_eq (by omega) (by omega), show (16 : Int32) = nI 16 from rfl, pk_mul]
      refine ⟨fun w1 => ?_, fun w1 => ?_⟩
      · refine sp_mulUR cT2 gT2 hi hv2 u1 (fun S5 r1 r2 r3 => last S5 ((u2.mono (by simp)).tr (r3.mono (by simp))) ?_)
        have : (fun c => pr (2 ^ v) (fun c => if i < i then P i c else G i c) c % p) = P i := by
          rw [hGi, hP]; funext c; simp only [if_neg w1]
        rw [← this]; exact r1
      · refine sp_mulUL cT2 gT2 hi hv2 u1 (fun S5 r1 r2 r3 => last S5 ((u2.mono (by simp)).tr (r3.mono (by simp))) ?_)
        have : (fun c => pl (2 ^ v) (fun c => if i < i then P i c else G i c) c % p) = P i := by
          rw [hGi, hP]; funext c; simp only [if_pos w1]
        rw [← this]; exact r1
  · -- one less
    obtain ⟨gd, hgd⟩ : ∃ gd, gc = gd + 1 := ⟨gc - 1, by omega⟩
    have ev : evS n p E w v (gc, G, K) = (gd, fun i => if i < v then G i else G (i + 1), K) := by
      unfold evS; rw [if_neg w0, if_neg w3, if_pos w4]
      simp only
      rw [if_pos vg, hgd]; rfl
    rw [ev] at hQ
    simp only at hQ
    rw [hgd, nI_dec] at e6
    have s6 : S6.1 353 6 = nI gd := by rw [e6, uA_eq, upd_eq]
    rw [e3, show (16 : Int32) = nI 16 from rfl, pk_mul]
    refine loopE (fun m i (T : Sto) => q_X9_happens_63 (nI w) (nI v) Q m (nI i) T) (fun i T => 16 * v ≤ i ∧ frs [355] S6 T ∧ (∀ k, 16 * v ≤ k → k < i → T.1 355 k = S6.1 355 (k + 16)) ∧ ∀ k, (k < 16 * v ∨ i ≤ k) → T.1 355 k = S6.1 355 k) (16 * gd) ?_ ?_ (16 * v) S6 (by omega) ⟨Nat.le_refl _, frs.rf, fun k a b => by omega, fun _ _ => rfl⟩
    · rintro T ⟨-, t1, t2, t3⟩
      unfold q_X9_happens_63 q_X9_happens_210
      rw [t1.1 353 (by simp), s6, show (16 : Int32) = nI 16 from rfl, pk_mul, nI_leI (by omega) (by omega)]
      have e353 : ∀ j, j ≠ 6 → T.1 353 j = S.1 353 j := fun j hj => by rw [t1.1 353 (by simp), e6, uA_eq, upd_ne _ _ hj]
      have f : frH S T := ⟨fun c a b d e => by rw [t1.1 c (by simp; exact b), e6, uA_ne a], fun j _ b => e353 j b, fun k hk => by rw [t3 k (Or.inr (by omega)), e6, uA_ne (by decide)], by rw [t1.2, e6]; rfl⟩
      refine ⟨fun _ => hQ T (hC.keepH f (e353 2 (by decide))) ⟨by rw [t1.1 353 (by simp)]; exact s6, by omega, fun k hk j hj => ?_⟩ f, fun q => absurd (Nat.le_refl _) q⟩
      by_cases q : k < v
      · simp only [if_pos q]
        rw [t3 _ (Or.inl (by omega)), e6, uA_ne (by decide)]
        exact g3 k (by omega) j hj
      · simp only [if_neg q]
        rw [t2 _ (by omega) (by omega), e6, uA_ne (by decide), show 16 * k + j + 16 = 16 * (k + 1) + j by omega]
        exact g3 (k + 1) (by omega) j hj
    · rintro i m T hi ⟨q, t1, t2, t3⟩ ih
      unfold q_X9_happens_63
      rw [t1.1 353 (by simp), s6, show (16 : Int32) = nI 16 from rfl, pk_mul, nI_leI (by omega) (by omega), nI_add, tn_nI (i := i) (by omega)]
      refine ⟨fun z => by omega, fun _ => ⟨vi (by omega) (by omega), vi (by omega) (by omega), fun S7 e7 x ex => ?_⟩⟩
      rw [tn_nI (by omega)] at e7
      rw [ex, nI_1]
      refine ih S7 ⟨by omega, t1.tr (by rw [e7]; exact frs.upd (by simp)), fun k a b => ?_, fun k hk => ?_⟩
      · rw [e7, uA_eq]
        by_cases e : k = i
        · rw [e, upd_eq, t3 _ (Or.inr (by omega))]
        · rw [upd_ne _ _ e]; exact t2 k a (by omega)
      · rw [e7, uA_eq, upd_ne _ _ (by omega)]; exact t3 k (by omega)
  · unfold evS; rw [if_neg w0, if_neg w3, if_pos w4]
    simp only
    rw [if_neg vg]
  · -- the order
    have ev : evS n p E w v (gc, G, K) = (gc, G, v) := by
      unfold evS; rw [if_neg w0, if_pos w3]
    rw [ev] at hQ
    simp only at hQ
    have f : frH S S8 := ⟨fun c a b d e => by rw [e8, uA_ne a], fun j a b => by rw [e8, uA_eq, upd_ne _ _ a], fun k _ => by rw [e8, uA_ne (by decide)], by rw [e8]; rfl⟩
    refine hQ S8 ⟨by rw [f.2.1 0 (by decide) (by decide)]; exact h1, by rw [f.2.1 1 (by decide) (by decide)]; exact h2, by rw [e8, uA_eq, upd_eq], by rw [f.2.1 3 (by decide) (by decide)]; exact h4, n2, n4, hp, v3 w3⟩ ⟨by rw [e8, uA_eq, upd_ne _ _ (by decide)]; exact g1, g2, fun i hi j hj => by rw [e8, uA_ne (by decide)]; exact g3 i hi j hj⟩ f
  · unfold evS; rw [if_pos w0]
    simp only
    rw [if_neg (by omega)]
  · -- one more
    have ev : evS n p E w v (gc, G, K) = (gc + 1, fun i => if i = gc then E v else G i, K) := by
      unfold evS; rw [if_pos w0]
      simp only
      rw [if_pos (by omega)]
    rw [ev] at hQ
    simp only at hQ
    refine sp_generate9 g1 g2 (fun v' hv' e hg S' A => ?_) (fun _ q => by omega) (fun h0 => absurd ⟨v, v2, rfl⟩ h0)
    rw [nI_eq (by omega) (by omega)] at e
    subst e
    obtain ⟨a1, a2, a3, a4, a5, a6⟩ := A
    have f : frH S S' := ⟨fun c a b d e => a1 c a b, fun j _ b => a3 j b, fun k hk => a6 k (Or.inr (by omega)), a2⟩
    refine hQ S' (hC.keepH f (a3 2 (by decide))) ⟨a4, by omega, fun i hi j hj => ?_⟩ f
    by_cases e : i = gc
    · rw [e, a5 j (by omega)]
      simp only [if_pos]
      exact hE v v2 j (by omega)
    · simp only [if_neg e]
      rw [a6 _ (Or.inl (by omega))]
      exact g3 i (by omega) j hj
