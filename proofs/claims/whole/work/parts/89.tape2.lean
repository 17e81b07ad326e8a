/-! tapes laid -/
theorem uL_1 (S : Sto) (t j : Nat) (x : Int64) : (uL S t j x).1 = S.1 := rfl
theorem uL_eq2 (S : Sto) (t j i : Nat) (x : Int64) : (uL S t j x).2 t i = if i = j then x else S.2 t i := by
  rw [uL_eq]
  unfold vp_updL
  by_cases e : i = j
  · simp [e]
  · simp [e]
theorem uL_ne2 (S : Sto) {t c : Nat} (j : Nat) (x : Int64) (h : c ≠ t) : (uL S t j x).2 c = S.2 c := by
  unfold uL
  simp only [if_neg h]
theorem sp_lay8 {t l : Nat} {s : Int32} {S : Sto} {Q : Sto → Prop} (ht : t < 6) (hQ : ∀ S', (∀ c, c ≠ 39 → c ≠ 40 → S'.1 c = S.1 c) → S'.1 39 = upd (S.1 39) t s → S'.1 40 = upd (S.1 40) t (nI l) → (∀ c, c ≠ 41 + 1 + t → S'.2 c = S.2 c) → (∀ i, i < 60 → S'.2 (41 + 1 + t) i = 0) → Q S') : wp_X7_lay (nI t) s (nI l) S Q := by
  have hl := ln_tp t ht
  unfold wp_X7_lay
  rw [tn_nI (i := t) (by omega)]
  refine ⟨vi ht (by omega), fun S2 e2 => ⟨vi ht (by omega), fun S4 e4 => ?_⟩⟩
  refine loopE (fun m i (T : Sto) => q_X7_lay_17 (nI t) s (nI l) Q m (nI i) T) (fun i T => T.1 = S4.1 ∧ (∀ c, c ≠ 41 + 1 + t → T.2 c = S.2 c) ∧ ∀ k, k < i → T.2 (41 + 1 + t) k = 0) 60 ?_ ?_ 0 S4 (by omega) ⟨rfl, fun c _ => by rw [e4, e2]; rfl, fun k q => by omega⟩
  · rintro T ⟨t1, t2, t3⟩
    unfold q_X7_lay_17
    refine ⟨fun _ => hQ T (fun c a b => by rw [t1, e4, uA_ne b, e2, uA_ne a]) (by rw [t1, e4, uA_ne (by decide), e2, uA_eq]) (by rw [t1, e4, uA_eq, e2, uA_ne (by decide)]) t2 t3, fun q => absurd (show (60 : Int32) ≤ nI 60 by decide) q⟩
  · rintro i m T hi ⟨t1, t2, t3⟩ ih
    unfold q_X7_lay_17
    rw [show (60 : Int32) = nI 60 from rfl, nI_leI (by omega) (by omega), tn_nI (i := t) (by omega), tn_nI (i := i) (by omega), hl]
    refine ⟨fun q => by omega, fun _ => ⟨vi ht (by omega), vi (by omega) (by omega), fun S5 e5 x ex => ?_⟩⟩
    rw [ex, nI_1]
    refine ih S5 ⟨by rw [e5]; exact t1, fun c hc => by rw [e5, uL_ne2 _ _ _ hc]; exact t2 c hc, fun k hk => ?_⟩
    rw [e5, uL_eq2]
    by_cases q : k = i
    · rw [if_pos q]
    · rw [if_neg q]; exact t3 k (by omega)
theorem sp_tape68 {t l : Nat} {s z : Int32} {S : Sto} {Q : Int32 → Sto → Prop} (ht : t < 6) (hQ : ∀ S', (∀ c, c ≠ 363 → S'.1 c = S.1 c) → S'.1 363 = upd (S.1 363) t (nI l) → (∀ c, c ≠ 361 → S'.2 c = S.2 c) → (∀ i, i < 60 → S'.2 361 (60 * t + i) = 0) → (∀ k, (k < 60 * t ∨ 60 * t + 60 ≤ k) → S'.2 361 k = S.2 361 k) → Q 1 S') : q_X9_tape_68 (nI t) s z Q (nI t) (nI l) S := by
  unfold q_X9_tape_68
  rw [tn_nI (i := t) (by omega)]
  refine ⟨vi ht (by omega), fun S2 e2 => ?_⟩
  refine loopE (fun m i (T : Sto) => q_X9_tape_72 (nI t) s z Q m (nI i) T) (fun i T => T.1 = S2.1 ∧ (∀ c, c ≠ 361 → T.2 c = S.2 c) ∧ (∀ k, k < i → T.2 361 (60 * t + k) = 0) ∧ ∀ k, (k < 60 * t ∨ 60 * t + 60 ≤ k) → T.2 361 k = S.2 361 k) 60 ?_ ?_ 0 S2 (by omega) ⟨rfl, fun c _ => by rw [e2]; rfl, fun k q => by omega, fun k _ => by rw [e2]; rfl⟩
  · rintro T ⟨t1, t2, t3, t4⟩
    unfold q_X9_tape_72
    refine ⟨fun _ => hQ T (fun c a => by rw [t1, e2, uA_ne a]) (by rw [t1, e2, uA_eq]) t2 t3 t4, fun q => absurd (show (60 : Int32) ≤ nI 60 by decide) q⟩
  · rintro i m T hi ⟨t1, t2, t3, t4⟩ ih
    unfold q_X9_tape_72
    rw [show (60 : Int32) = nI 60 from rfl, nI_leI (by omega) (by omega), pk_mul, nI_add, tn_nI (by omega)]
    refine ⟨fun q => by omega, fun _ => ⟨vi (by omega) (by omega), fun S5 e5 x ex => ?_⟩⟩
    rw [ex, nI_1]
    refine ih S5 ⟨by rw [e5]; exact t1, fun c hc => by rw [e5, uL_ne2 _ _ _ hc]; exact t2 c hc, fun k hk => ?_, fun k hk => ?_⟩
    · rw [e5, uL_eq2]
      by_cases q : k = i
      · rw [q, if_pos rfl]
      · rw [if_neg (by omega)]; exact t3 k (by omega)
    · rw [e5, uL_eq2, if_neg (by omega)]; exact t4 k hk
/-- one tape changed in both -/
theorem R0.tape {S S' : Sto} {b n p K gc ec bc t l : Nat} {s : Int32} (H : R0 S b n p K gc ec bc) (ht : t < 6) (hl : l ≤ 60) (hs : (s = -1 ∧ l = 0) ∨ ∃ k, k < 5 ∧ s = nI k) (f : ∀ c, c ≠ 39 → c ≠ 40 → c ≠ 362 → c ≠ 363 → S'.1 c = S.1 c) (a39 : S'.1 39 = upd (S.1 39) t s) (a40 : S'.1 40 = upd (S.1 40) t (nI l)) (a362 : S'.1 362 = upd (S.1 362) t s) (a363 : S'.1 363 = upd (S.1 363) t (nI l))
    (g1 : ∀ c, c ≠ 41 + 1 + t → c ≠ 361 → S'.2 c = S.2 c) (g2 : ∀ k, (k < 60 * t ∨ 60 * t + 60 ≤ k) → S'.2 361 k = S.2 361 k) (g3 : ∀ i, i < l → S'.2 361 (60 * t + i) = S'.2 (41 + 1 + t) i) : R0 S' b n p K gc ec bc := by
  have hT := H.2.2.1
  have hA := H.2.2.2.1
  refine H.out (fun c c1 c2 c3 _ => f c (by omega) (by omega) (by omega) (by omega)) (fun j _ _ _ => by rw [f 353 (by decide) (by decide) (by decide) (by decide)]) ?_ (fun u hu => ?_)
  · unfold Txt
    rw [f 35 (by decide) (by decide) (by decide) (by decide), f 36 (by decide) (by decide) (by decide) (by decide), f 353 (by decide) (by decide) (by decide) (by decide), f 360 (by decide) (by decide) (by decide) (by decide)]; exact hT
  · rw [a39, a40, a362, a363]
    by_cases e : u = t
    · rw [e, upd_eq, upd_eq, upd_eq, upd_eq]
      exact ⟨rfl, rfl, l, hl, rfl, hs, g3⟩
    · rw [upd_ne _ _ e, upd_ne _ _ e, upd_ne _ _ e, upd_ne _ _ e]
      obtain ⟨x1, x2, l', x3, x4, x5, x6⟩ := hA u hu
      refine ⟨x1, x2, l', x3, x4, x5, fun i hi => ?_⟩
      rw [g2 _ (by omega), g1 _ (by omega) (by omega)]
      exact x6 i hi
