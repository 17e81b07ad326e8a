/-! the reference keeps what it holds, and holds it again -/
def KpF (S : Sto) (F : Nat → Int32) : Prop := (∀ j, j < 6 → F j = flM S j) ∧ (∀ i, i < 96 → F (6 + i) = S.1 354 i) ∧ (∀ i, i < 64 → F (102 + i) = S.1 355 i) ∧ ∀ i, i < 8 → F (166 + i) = S.1 356 i ∧ F (174 + i) = S.1 357 i ∧ F (182 + i) = S.1 358 i ∧ F (190 + i) = S.1 359 i
theorem uA_sA (S : Sto) (t j : Nat) (F : Nat → Int32) (x : Int32) : uA (setA S t F) t j x = setA S t (upd F j x) := by rw [uA_setA, setA_eq, setA_setA]
theorem ln_im : ∀ t, t = 364 ∨ t = 365 → ln t = 200 := by
  intro t h
  rcases h with rfl | rfl <;> decide +kernel
theorem vi {a b : Nat} (h : a < b) (hb : b ≤ 70000) : vp_in (nI a) b := vp_nI h hb
theorem sp_keepTo {t : Nat} (ht : t = 364 ∨ t = 365) {S : Sto} {Q : Sto → Prop} (hQ : ∀ F, KpF S F → Q (setA S t F)) : wp_X9_keepTo t S Q := by
  have hl := ln_im t ht
  have hne : t ≠ 353 ∧ t ≠ 354 ∧ t ≠ 355 ∧ t ≠ 356 ∧ t ≠ 357 ∧ t ≠ 358 ∧ t ≠ 359 := by omega
  unfold wp_X9_keepTo
  rw [hl]
  refine ⟨vi (a := 0) (by omega) (by omega), fun S2 e2 => ⟨vi (a := 1) (by omega) (by omega), fun S4 e4 => ⟨vi (a := 2) (by omega) (by omega), fun S6 e6 => ⟨vi (a := 3) (by omega) (by omega), fun S8 e8 => ⟨vi (a := 4) (by omega) (by omega), fun S10 e10 => ⟨vi (a := 5) (by omega) (by omega), fun S12 e12 => ?_⟩⟩⟩⟩⟩⟩
  rw [show (0 : Int32).toNatClampNeg = 0 from rfl] at e2
  rw [show (1 : Int32).toNatClampNeg = 1 from rfl, e2, uA_ne hne.1.symm, uA_setA S, uA_sA] at e4
  rw [show (2 : Int32).toNatClampNeg = 2 from rfl, e4, setA_ne _ _ hne.1.symm, uA_sA] at e6
  rw [show (3 : Int32).toNatClampNeg = 3 from rfl, e6, setA_ne _ _ hne.1.symm, uA_sA] at e8
  rw [show (4 : Int32).toNatClampNeg = 4 from rfl, e8, setA_ne _ _ hne.1.symm, uA_sA] at e10
  rw [show (5 : Int32).toNatClampNeg = 5 from rfl, e10, setA_ne _ _ hne.1.symm, uA_sA] at e12
  have hF : ∃ F, S12 = setA S t F ∧ ∀ j, j < 6 → F j = flM S j := by
    refine ⟨_, e12, fun j hj => ?_⟩
    have : j = 0 ∨ j = 1 ∨ j = 2 ∨ j = 3 ∨ j = 4 ∨ j = 5 := by omega
    rcases this with rfl | rfl | rfl | rfl | rfl | rfl <;> rfl
  refine loopE (fun m i (T : Sto) => q_X9_keepTo_44 t Q m (nI i) T) (fun i T => ∃ F, T = setA S t F ∧ (∀ j, j < 6 → F j = flM S j) ∧ ∀ k, k < i → F (6 + k) = S.1 354 k) 96 ?_ ?_ 0 S12 (by omega) (by obtain ⟨F, f1, f2⟩ := hF; exact ⟨F, f1, f2, fun k q => by omega⟩)
  · rintro T ⟨F, f1, f2, f3⟩
    unfold q_X9_keepTo_44
    refine ⟨fun _ => ?_, fun q => absurd (show (96 : Int32) ≤ nI 96 by decide) q⟩
    refine loopE (fun m i (T : Sto) => q_X9_keepTo_70 t Q m (nI i) T) (fun i T => ∃ F, T = setA S t F ∧ (∀ j, j < 6 → F j = flM S j) ∧ (∀ k, k < 96 → F (6 + k) = S.1 354 k) ∧ ∀ k, k < i → F (102 + k) = S.1 355 k) 64 ?_ ?_ 0 T (by omega) ⟨F, f1, f2, f3, fun k q => by omega⟩
    · rintro T ⟨F, f1, f2, f3, f4⟩
      unfold q_X9_keepTo_70
      refine ⟨fun _ => ?_, fun q => absurd (show (64 : Int32) ≤ nI 64 by decide) q⟩
      refine loopE (fun m i (T : Sto) => q_X9_keepTo_96 t Q m (nI i) T) (fun i T => ∃ F, T = setA S t F ∧ (∀ j, j < 6 → F j = flM S j) ∧ (∀ k, k < 96 → F (6 + k) = S.1 354 k) ∧ (∀ k, k < 64 → F (102 + k) = S.1 355 k) ∧ ∀ k, k < i → F (166 + k) = S.1 356 k ∧ F (174 + k) = S.1 357 k ∧ F (182 + k) = S.1 358 k ∧ F (190 + k) = S.1 359 k) 8 ?_ ?_ 0 T (by omega) ⟨F, f1, f2, f3, f4, fun k q => by omega⟩
      · rintro T ⟨F, f1, f2, f3, f4, f5⟩
        unfold q_X9_keepTo_96
        exact ⟨fun _ => by rw [f1]; exact hQ F ⟨f2, f3, f4, f5⟩, fun q => absurd (show (8 : Int32) ≤ nI 8 by decide) q⟩
      · rintro i m T hi ⟨F, f1, f2, f3, f4, f5⟩ ih
        unfold q_X9_keepTo_96
        rw [show (8 : Int32) = nI 8 from rfl, nI_leI (by omega) (by omega), show (166 : Int32) = nI 166 from rfl, show (174 : Int32) = nI 174 from rfl, show (182 : Int32) = nI 182 from rfl, show (190 : Int32) = nI 190 from rfl, nI_add, nI_add, nI_add, nI_add, tn_nI (i := i) (by omega), tn_nI (i := 166 + i) (by omega), tn_nI (i := 174 + i) (by omega), tn_nI (i := 182 + i) (by omega), tn_nI (i := 190 + i) (by omega), hl]
        refine ⟨fun q => by omega, fun _ => ⟨vi (by omega) (by omega), vi (by omega) (by omega), fun S4 g4 => ⟨vi (by omega) (by omega), vi (by omega) (by omega), fun S7 g7 => ⟨vi (by omega) (by omega), vi (by omega) (by omega), fun S10 g10 => ⟨vi (by omega) (by omega), vi (by omega) (by omega), fun S13 g13 x ex => ?_⟩⟩⟩⟩⟩
        rw [f1, setA_ne _ _ hne.2.2.2.1.symm, uA_sA] at g4
        rw [g4, setA_ne _ _ hne.2.2.2.2.1.symm, uA_sA] at g7
        rw [g7, setA_ne _ _ hne.2.2.2.2.2.1.symm, uA_sA] at g10
        rw [g10, setA_ne _ _ hne.2.2.2.2.2.2.symm, uA_sA] at g13
        rw [ex, nI_1]
        refine ih S13 ⟨_, g13, fun j hj => ?_, fun k hk => ?_, fun k hk => ?_, fun k hk => ?_⟩
        · rw [upd_ne _ _ (by omega), upd_ne _ _ (by omega), upd_ne _ _ (by omega), upd_ne _ _ (by omega)]; exact f2 j hj
        · rw [upd_ne _ _ (by omega), upd_ne _ _ (by omega), upd_ne _ _ (by omega), upd_ne _ _ (by omega)]; exact f3 k hk
        · rw [upd_ne _ _ (by omega), upd_ne _ _ (by omega), upd_ne _ _ (by omega), upd_ne _ _ (by omega)]; exact f4 k hk
        · by_cases e : k = i
          · subst e
            refine ⟨?_, ?_, ?_, ?_⟩
            · rw [upd_ne _ _ (by omega), upd_ne _ _ (by omega), upd_ne _ _ (by omega), upd_eq]
            · rw [upd_ne _ _ (by omega), upd_ne _ _ (by omega), upd_eq]
            · rw [upd_ne _ _ (by omega), upd_eq]
            · rw [upd_eq]
          · have := f5 k (by omega)
            refine ⟨?_, ?_, ?_, ?_⟩
            · rw [upd_ne _ _ (by omega), upd_ne _ _ (by omega), upd_ne _ _ (by omega), upd_ne _ _ (by omega)]; exact this.1
            · rw [upd_ne _ _ (by omega), upd_ne _ _ (by omega), upd_ne _ _ (by omega), upd_ne _ _ (by omega)]; exact this.2.1
            · rw [upd_ne _ _ (by omega), upd_ne _ _ (by omega), upd_ne _ _ (by omega), upd_ne _ _ (by omega)]; exact this.2.2.1
            · rw [upd_ne _ _ (by omega), upd_ne _ _ (by omega), upd_ne _ _ (by omega), upd_ne _ _ (by omega)]; exact this.2.2.2
    · rintro i m T hi ⟨F, f1, f2, f3, f4⟩ ih
      unfold q_X9_keepTo_70
      rw [show (64 : Int32) = nI 64 from rfl, nI_leI (by omega) (by omega), show (102 : Int32) = nI 102 from rfl, nI_add, tn_nI (i := i) (by omega), tn_nI (i := 102 + i) (by omega), hl]
      refine ⟨fun q => by omega, fun _ => ⟨vi (by omega) (by omega), vi (by omega) (by omega), fun S4 g4 x ex => ?_⟩⟩
      rw [f1, setA_ne _ _ hne.2.2.1.symm, uA_sA] at g4
      rw [ex, nI_1]
      refine ih S4 ⟨_, g4, fun j hj => ?_, fun k hk => ?_, fun k hk => ?_⟩
      · rw [upd_ne _ _ (by omega)]; exact f2 j hj
      · rw [upd_ne _ _ (by omega)]; exact f3 k hk
      · by_cases e : k = i
        · subst e; rw [upd_eq]
        · rw [upd_ne _ _ (by omega)]; exact f4 k (by omega)
  · rintro i m T hi ⟨F, f1, f2, f3⟩ ih
    unfold q_X9_keepTo_44
    rw [show (96 : Int32) = nI 96 from rfl, nI_leI (by omega) (by omega), show (6 : Int32) = nI 6 from rfl, nI_add, tn_nI (i := i) (by omega), tn_nI (i := 6 + i) (by omega), hl]
    refine ⟨fun q => by omega, fun _ => ⟨vi (by omega) (by omega), vi (by omega) (by omega), fun S4 g4 x ex => ?_⟩⟩
    rw [f1, setA_ne _ _ hne.2.1.symm, uA_sA] at g4
    rw [ex, nI_1]
    refine ih S4 ⟨_, g4, fun j hj => ?_, fun k hk => ?_⟩
    · rw [upd_ne _ _ (by omega)]; exact f2 j hj
    · by_cases e : k = i
      · subst e; rw [upd_eq]
      · rw [upd_ne _ _ (by omega)]; exact f3 k (by omega)
