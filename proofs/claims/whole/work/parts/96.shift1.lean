/-! the call that shifts items (1): the reference's loop -/
theorem sp_shift9 {t u i j n l m : Nat} {dn : Int32} {S : Sto} {Q : Int32 → Sto → Prop} (ht : t < 6) (hu : u < 6) (l60 : l ≤ 60) (m60 : m ≤ 60) (hi : i + n ≤ l) (hj : j + n ≤ m) (hd : (dn = 1 ∧ 60 * u + j ≤ 60 * t + i) ∨ (dn = 0 ∧ 60 * t + i < 60 * u + j))
    (hQ : ∀ S', S'.1 = S.1 → (∀ c, c ≠ 361 → S'.2 c = S.2 c) → (∀ e, e < n → S'.2 361 (60 * u + j + e) = S.2 361 (60 * t + i + e)) → (∀ k, (k < 60 * u + j ∨ 60 * u + j + n ≤ k) → S'.2 361 k = S.2 361 k) → Q (nI n) S') : q_X9_shift_128 (nI t) (nI i) (nI u) (nI j) (nI n) Q dn S := by
  unfold q_X9_shift_128
  rcases hd with ⟨d1, d2⟩ | ⟨d1, d2⟩
  · subst d1
    refine loopE (fun q e (T : Sto) => q_X9_shift_133 (nI t) (nI i) (nI u) (nI j) (nI n) Q q 1 (nI e) T) (fun e T => T.1 = S.1 ∧ (∀ c, c ≠ 361 → T.2 c = S.2 c) ∧ (∀ k, k < e → T.2 361 (60 * u + j + k) = S.2 361 (60 * t + i + k)) ∧ ∀ k, (k < 60 * u + j ∨ 60 * u + j + e ≤ k) → T.2 361 k = S.2 361 k) n ?_ ?_ 0 S (Nat.zero_le _) ⟨rfl, fun _ _ => rfl, fun k q => by omega, fun _ _ => rfl⟩
    · rintro T ⟨t1, t2, t3, t4⟩
      unfold q_X9_shift_133
      rw [nI_leI (by omega) (by omega)]
      exact ⟨fun _ => hQ T t1 t2 t3 t4, fun q => absurd (Nat.le_refl _) q⟩
    · rintro e q T he ⟨t1, t2, t3, t4⟩ ih
      unfold q_X9_shift_133 q_X9_shift_157
      rw [nI_leI (by omega) (by omega), show (60 : Int32) = nI 60 from rfl, pk_mul, pk_mul, nI_add, nI_add, nI_add, nI_add, tn_nI (i := 60 * t + i + e) (by omega), tn_nI (i := 60 * u + j + e) (by omega)]
      refine ⟨fun z => by omega, fun _ => ⟨fun z => absurd z (by decide), fun _ => ⟨vi (by omega) (by omega), vi (by omega) (by omega), fun S3 e3 x ex => ?_⟩⟩⟩
      rw [ex, nI_1]
      refine ih S3 ⟨by rw [e3]; exact t1, fun c hc => by rw [e3, uL_ne2 _ _ _ hc]; exact t2 c hc, fun k hk => ?_, fun k hk => ?_⟩
      · rw [e3, uL_eq2]
        by_cases z : k = e
        · rw [z, if_pos rfl, t4 _ (Or.inr (by omega))]
        · rw [if_neg (by omega)]; exact t3 k (by omega)
      · rw [e3, uL_eq2, if_neg (by omega)]; exact t4 k (by omega)
  · subst d1
    refine loopE (fun q e (T : Sto) => q_X9_shift_133 (nI t) (nI i) (nI u) (nI j) (nI n) Q q 0 (nI e) T) (fun e T => T.1 = S.1 ∧ (∀ c, c ≠ 361 → T.2 c = S.2 c) ∧ (∀ k, n - e ≤ k → k < n → T.2 361 (60 * u + j + k) = S.2 361 (60 * t + i + k)) ∧ ∀ k, (k < 60 * u + j + (n - e) ∨ 60 * u + j + n ≤ k) → T.2 361 k = S.2 361 k) n ?_ ?_ 0 S (Nat.zero_le _) ⟨rfl, fun _ _ => rfl, fun k q q2 => by omega, fun _ _ => rfl⟩
    · rintro T ⟨t1, t2, t3, t4⟩
      unfold q_X9_shift_133
      rw [nI_leI (by omega) (by omega)]
      exact ⟨fun _ => hQ T t1 t2 (fun e he => t3 e (by omega) he) (fun k hk => t4 k (by omega)), fun q => absurd (Nat.le_refl _) q⟩
    · rintro e q T he ⟨t1, t2, t3, t4⟩ ih
      unfold q_X9_shift_133 q_X9_shift_157
      have en : nI n - 1 - nI e = nI (n - 1 - e) := by rw [show (1 : Int32) = nI 1 from rfl, nI_sub (by omega), nI_sub (by omega)]
      rw [nI_leI (by omega) (by omega), en, show (60 : Int32) = nI 60 from rfl, pk_mul, pk_mul, nI_add, nI_add, nI_add, nI_add, tn_nI (i := 60 * t + i + (n - 1 - e)) (by omega), tn_nI (i := 60 * u + j + (n - 1 - e)) (by omega)]
      refine ⟨fun z => by omega, fun _ => ⟨fun _ => ⟨vi (by omega) (by omega), vi (by omega) (by omega), fun S3 e3 x ex => ?_⟩, fun z => absurd rfl z⟩⟩
      rw [ex, nI_1]
      refine ih S3 ⟨by rw [e3]; exact t1, fun c hc => by rw [e3, uL_ne2 _ _ _ hc]; exact t2 c hc, fun k hk hk2 => ?_, fun k hk => ?_⟩
      · rw [e3, uL_eq2]
        by_cases z : k = n - 1 - e
        · rw [z, if_pos rfl, t4 _ (Or.inl (by omega))]
        · rw [if_neg (by omega)]; exact t3 k (by omega) hk2
      · rw [e3, uL_eq2, if_neg (by omega)]; exact t4 k (by omega)
