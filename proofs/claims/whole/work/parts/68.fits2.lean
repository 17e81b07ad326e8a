/-! the call that tries values (2) -/
theorem nI_dec (v : Nat) : nI (v + 1) - 1 = nI v := by rw [← nI_1, Int32.add_sub_cancel]
theorem nI_sub1 (v : Nat) : nI v + -1 = nI v - 1 := (Int32.sub_eq_add_neg _ _).symm
theorem sp_fits9 {n p K rk j k : Nat} {V : Vc → Prop} {L : Nat → Nat} {R : Nat → Vc} {E : Vc} {S : Sto} {x z : Int32} {Q : Int32 → Sto → Prop} (M : MB S p (2 ^ n) K V rk L R) (h3 : S.1 353 3 = nI (2 ^ n)) (hn4 : n ≤ 4) (hk : k < 6) (hj : j < 2 ^ n) (hE : ∀ i, i < 2 ^ n → S.1 354 (16 * k + i) = iI (E i) ∧ 0 ≤ E i ∧ E i < p)
    (hQ : ∀ S' a, lst (fun v => isB (V (wth E j v))) 0 p a → (∀ c, c ≠ 370 → c ≠ 373 → S'.1 c = S.1 c) → S'.2 = S.2 → (¬ z = 0 → Q a S') ∧ (z = 0 → Q (nI (ctB (fun v => isB (V (wth E j v))) p)) S')) : ∃ m, q_X9_fits_72 x (nI k) (nI j) z Q m (nI (16 * k + j)) (S.1 354 (16 * k + j)) 0 (-5) (nI p - 1) S := by
  obtain ⟨f, hf⟩ : ∃ f : Nat → Bool, f = fun v => isB (V (wth E j v)) := ⟨_, rfl⟩
  rw [← hf] at hQ
  have hw := pow_n hn4
  have hp8 := M.1.1.pos
  have cp := ctB_le f p
  refine loopE (fun m i (T : Int32 × Int32 × Sto) => q_X9_fits_72 x (nI k) (nI j) z Q m (nI (16 * k + j)) (S.1 354 (16 * k + j)) T.1 T.2.1 (nI (p - i) - 1) T.2.2) (fun i T => T.1 = nI (ctB f p - ctB f (p - i)) ∧ lst f (p - i) p T.2.1 ∧ (∀ c, c ≠ 354 → c ≠ 370 → c ≠ 373 → T.2.2.1 c = S.1 c) ∧ (∀ c, c ≠ 16 * k + j → T.2.2.1 354 c = S.1 354 c) ∧ T.2.2.2 = S.2) p ?_ ?_ 0 (0, -5, S) (Nat.zero_le _) ⟨?_, Or.inr ⟨fun t _ q => by omega, rfl⟩, fun _ _ _ _ => rfl, fun _ _ => rfl, rfl⟩
  · rintro ⟨x7, x8, Z⟩ ⟨t1, t2, t3, t4, t5⟩
    simp only at t1 t2 t3 t4 t5
    show q_X9_fits_72 x (nI k) (nI j) z Q 1 (nI (16 * k + j)) (S.1 354 (16 * k + j)) x7 x8 (nI (p - p) - 1) Z
    unfold q_X9_fits_72 q_X9_fits_131
    rw [Nat.sub_self] at t1 t2 ⊢
    rw [tn_nI (by omega)]
    refine ⟨fun _ => ⟨vp_nI (by omega) (by omega), fun S3 e3 => ?_⟩, fun q => absurd (show (nI 0 - 1 : Int32) < 0 by decide) q⟩
    have e1 : x7 = nI (ctB f p) := t1
    rw [e1]
    refine hQ S3 x8 t2 (fun c c1 c2 => ?_) (by rw [e3]; exact t5)
    by_cases e : c = 354
    · rw [e, e3, uA_eq]
      funext i
      by_cases e4 : i = 16 * k + j
      · rw [e4, upd_eq]
      · rw [upd_ne _ _ e4]; exact t4 i e4
    · rw [e3, uA_ne e]; exact t3 c e c1 c2
  · rintro i m ⟨x7, x8, Z⟩ hi ⟨t1, t2, t3, t4, t5⟩ ih
    simp only at t1 t2 t3 t4 t5
    obtain ⟨v, hv⟩ : ∃ v, p - i = v + 1 := ⟨p - i - 1, by omega⟩
    have hv2 : p - (i + 1) = v := by omega
    rw [hv] at t1 t2
    rw [hv2] at ih
    show q_X9_fits_72 x (nI k) (nI j) z Q (m + 1) (nI (16 * k + j)) (S.1 354 (16 * k + j)) x7 x8 (nI (p - i) - 1) Z
    rw [hv, nI_dec]
    unfold q_X9_fits_72 q_X9_fits_104
    rw [tn_nI (by omega)]
    refine ⟨fun q => absurd q (by rw [Int32.lt_iff_toInt_lt, nI_toInt (by omega)]; show ¬ (v : Int) < 0; omega), fun _ => ⟨vp_nI (by omega) (by omega), fun S6 e6 => ?_⟩⟩
    have o6 : ∀ c, c ≠ 354 → c ≠ 370 → c ≠ 373 → S6.1 c = S.1 c := fun c a b d => by rw [e6, uA_ne a]; exact t3 c a b d
    have M6 : MB S6 p (2 ^ n) K V rk L R := M.keep ⟨by rw [o6 353 (by decide) (by decide) (by decide)], by rw [o6 353 (by decide) (by decide) (by decide)], by rw [o6 353 (by decide) (by decide) (by decide)]⟩ (fun c a b => o6 c (by omega) (by omega) (by omega))
    have cle := ctB_le f v
    have hfv : f v = true ↔ V (wth E j v) := by rw [hf]; exact isB_t
    have cv : ctB f (v + 1) = ctB f v + (if f v then 1 else 0) := rfl
    have mono : ctB f (v + 1) ≤ ctB f p := by
      obtain ⟨d, hd⟩ : ∃ d, p = v + 1 + d := ⟨p - (v + 1), by omega⟩
      have := ctB_split f (v + 1) d
      rw [hd]; omega
    refine sp_liesWithin (X := wth E j v) M6 (by omega) hk (by rw [o6 353 (by decide) (by decide) (by decide)]; exact h3) (fun a ha => ?_) (fun hV S7 f7 => ⟨fun _ x7' e7 x9 e9 => ?_, fun q => absurd q (by decide)⟩) (fun hV S7 f7 => ⟨fun q => absurd rfl q, fun _ x9 e9 => ?_⟩)
    · rw [e6, uA_eq]
      unfold wth
      by_cases e : a = j
      · rw [e, upd_eq, if_pos rfl]
        exact ⟨rfl, by omega, by omega⟩
      · rw [upd_ne _ _ (by omega), if_neg e, t4 _ (by omega)]
        exact hE a ha
    · rw [e9, e7, t1, nI_1, nI_sub1]
      refine ih (nI (ctB f p - ctB f (v + 1) + 1), nI v, S7) ⟨?_, Or.inl ⟨v, Nat.le_refl _, by omega, hfv.mpr hV, fun t a b => by omega, rfl⟩, fun c a b d => ?_, fun c a => ?_, ?_⟩
      · rw [if_pos (hfv.mpr hV)] at cv
        show nI (ctB f p - ctB f (v + 1) + 1) = nI (ctB f p - ctB f v)
        congr 1; omega
      · show S7.1 c = S.1 c
        rw [f7.1 c (by simp; omega)]; exact o6 c a b d
      · show S7.1 354 c = S.1 354 c
        rw [f7.1 354 (by simp), e6, uA_eq, upd_ne _ _ a]; exact t4 c a
      · show S7.2 = S.2
        rw [f7.2, e6]; exact t5
    · rw [e9, t1, nI_sub1]
      have fv : f v = false := by
        cases e : f v
        · rfl
        · exact absurd (hfv.mp e) hV
      refine ih (nI (ctB f p - ctB f (v + 1)), x8, S7) ⟨?_, ?_, fun c a b d => ?_, fun c a => ?_, ?_⟩
      · rw [fv] at cv
        show nI (ctB f p - ctB f (v + 1)) = nI (ctB f p - ctB f v)
        rw [cv]; rfl
      · rcases t2 with ⟨u, u1, u2, u3, u4, u5⟩ | ⟨q, e⟩
        · refine Or.inl ⟨u, by omega, u2, u3, fun t a b => ?_, u5⟩
          by_cases e : t = v
          · rw [e]; exact fv
          · exact u4 t (by omega) b
        · refine Or.inr ⟨fun t a b => ?_, e⟩
          by_cases e : t = v
          · rw [e]; exact fv
          · exact q t (by omega) b
      · show S7.1 c = S.1 c
        rw [f7.1 c (by simp; omega)]; exact o6 c a b d
      · show S7.1 354 c = S.1 354 c
        rw [f7.1 354 (by simp), e6, uA_eq, upd_ne _ _ a]; exact t4 c a
      · show S7.2 = S.2
        rw [f7.2, e6]; exact t5
  · show (0 : Int32) = nI (ctB f p - ctB f (p - 0))
    rw [Nat.sub_zero, Nat.sub_self]; rfl
