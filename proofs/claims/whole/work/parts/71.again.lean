/-! the reference holds again what it kept -/
theorem fl_upd (i : Nat) (F G : Nat → Int32) {x : Int32} (hx : x = F i) : upd (fl i F G) i x = fl (i + 1) F G := by
  funext j
  by_cases e : j = i
  · rw [e, upd_eq, hx, fl_lt _ _ (by omega)]
  · rw [upd_ne _ _ e]
    by_cases q : j < i
    · rw [fl_lt _ _ q, fl_lt _ _ (by omega)]
    · rw [fl_ge _ _ (by omega), fl_ge _ _ (by omega)]
def Agn (S : Sto) (t : Nat) (S' : Sto) : Prop := (∀ c, c ≠ 353 → ¬ (354 ≤ c ∧ c ≤ 359) → S'.1 c = S.1 c) ∧ S'.2 = S.2 ∧
  (∀ j, j ≠ 0 → j ≠ 1 → j ≠ 2 → j ≠ 3 → j ≠ 6 → j ≠ 9 → j ≠ 12 → S'.1 353 j = S.1 353 j) ∧
  (∀ j, j < 6 → flM S' j = S.1 t j) ∧ S'.1 353 3 = 1 <<< (S.1 t 0 &&& 31) ∧ S'.1 354 = fl 96 (fun i => S.1 t (6 + i)) (S.1 354) ∧ S'.1 355 = fl 64 (fun i => S.1 t (102 + i)) (S.1 355) ∧
  S'.1 356 = fl 8 (fun i => S.1 t (166 + i)) (S.1 356) ∧ S'.1 357 = fl 8 (fun i => S.1 t (174 + i)) (S.1 357) ∧ S'.1 358 = fl 8 (fun i => S.1 t (182 + i)) (S.1 358) ∧ S'.1 359 = fl 8 (fun i => S.1 t (190 + i)) (S.1 359)
theorem sp_again {t : Nat} (ht : t = 364 ∨ t = 365) {S : Sto} {Q : Sto → Prop} (hQ : ∀ S', Agn S t S' → Q S') : wp_X9_again t S Q := by
  have hl := ln_im t ht
  have hne : t ≠ 353 ∧ t ≠ 354 ∧ t ≠ 355 ∧ t ≠ 356 ∧ t ≠ 357 ∧ t ≠ 358 ∧ t ≠ 359 := by omega
  unfold wp_X9_again
  rw [hl]
  refine ⟨vi (a := 0) (by omega) (by omega), fun S2 e2 => ⟨vi (a := 1) (by omega) (by omega), fun S4 e4 => ⟨vi (a := 2) (by omega) (by omega), fun S6 e6 => ⟨vi (a := 3) (by omega) (by omega), fun S8 e8 => ⟨vi (a := 4) (by omega) (by omega), fun S10 e10 => ⟨vi (a := 5) (by omega) (by omega), fun S12 e12 S13 e13 => ?_⟩⟩⟩⟩⟩⟩
  rw [show (0 : Int32).toNatClampNeg = 0 from rfl] at e2
  rw [show (1 : Int32).toNatClampNeg = 1 from rfl, e2, uA_ne hne.1, uA_setA S, uA_sA] at e4
  rw [show (2 : Int32).toNatClampNeg = 2 from rfl, e4, setA_ne _ _ hne.1, uA_sA] at e6
  rw [show (3 : Int32).toNatClampNeg = 3 from rfl, e6, setA_ne _ _ hne.1, uA_sA] at e8
  rw [show (4 : Int32).toNatClampNeg = 4 from rfl, e8, setA_ne _ _ hne.1, uA_sA] at e10
  rw [show (5 : Int32).toNatClampNeg = 5 from rfl, e10, setA_ne _ _ hne.1, uA_sA] at e12
  have e0 : S12.1 353 0 = S.1 t 0 := by
    rw [e12, setA_eq, upd_ne _ _ (by decide), upd_ne _ _ (by decide), upd_ne _ _ (by decide), upd_ne _ _ (by decide), upd_ne _ _ (by decide), upd_eq]
  rw [e0, e12, uA_sA] at e13
  obtain ⟨F, hF⟩ : ∃ F, F = S13.1 353 := ⟨_, rfl⟩
  have hS : S13 = setA S 353 F := by rw [hF, e13, setA_eq]
  have h1 : ∀ j, j ≠ 0 → j ≠ 1 → j ≠ 2 → j ≠ 3 → j ≠ 6 → j ≠ 9 → j ≠ 12 → F j = S.1 353 j := by
    intro j a b c d e f g
    rw [hF, e13, setA_eq, upd_ne _ _ d, upd_ne _ _ g, upd_ne _ _ f, upd_ne _ _ e, upd_ne _ _ c, upd_ne _ _ b, upd_ne _ _ a]
  have h2 : ∀ j, j < 6 → F (([0, 1, 2, 6, 9, 12] : List Nat).getD j 0) = S.1 t j := by
    intro j hj
    rw [hF, e13, setA_eq]
    have : j = 0 ∨ j = 1 ∨ j = 2 ∨ j = 3 ∨ j = 4 ∨ j = 5 := by omega
    rcases this with rfl | rfl | rfl | rfl | rfl | rfl <;> rfl
  have h3 : F 3 = 1 <<< (S.1 t 0 &&& 31) := by rw [hF, e13, setA_eq, upd_eq]
  clear e2 e4 e6 e8 e10 e12 e13 e0
  subst hS
  refine loopE (fun m i (T : Sto) => q_X9_again_54 t Q m (nI i) T) (fun i T => T = setA (setA S 353 F) 354 (fl i (fun i => S.1 t (6 + i)) (S.1 354))) 96 ?_ ?_ 0 _ (by omega) (by rw [fl_0, ← setA_ne S F (show 354 ≠ 353 by decide), setA_self])
  · intro T hT
    unfold q_X9_again_54
    refine ⟨fun _ => ?_, fun q => absurd (show (96 : Int32) ≤ nI 96 by decide) q⟩
    refine loopE (fun m i (T : Sto) => q_X9_again_80 t Q m (nI i) T) (fun i T => T = setA (setA (setA S 353 F) 354 (fl 96 (fun i => S.1 t (6 + i)) (S.1 354))) 355 (fl i (fun i => S.1 t (102 + i)) (S.1 355))) 64 ?_ ?_ 0 _ (by omega) (by rw [hT, fl_0]; exact (setA_self _ 355).symm)
    · intro T hT
      unfold q_X9_again_80
      refine ⟨fun _ => ?_, fun q => absurd (show (64 : Int32) ≤ nI 64 by decide) q⟩
      refine loopE (fun m i (Z : Sto) => q_X9_again_106 t Q m (nI i) Z) (fun i Z => frs [356, 357, 358, 359] T Z ∧ Z.1 356 = fl i (fun i => S.1 t (166 + i)) (S.1 356) ∧ Z.1 357 = fl i (fun i => S.1 t (174 + i)) (S.1 357) ∧ Z.1 358 = fl i (fun i => S.1 t (182 + i)) (S.1 358) ∧ Z.1 359 = fl i (fun i => S.1 t (190 + i)) (S.1 359)) 8 ?_ ?_ 0 _ (by omega) ⟨frs.rf, by rw [hT, fl_0]; rfl, by rw [hT, fl_0]; rfl, by rw [hT, fl_0]; rfl, by rw [hT, fl_0]; rfl⟩
      · rintro Z ⟨z1, z2, z3, z4, z5⟩
        unfold q_X9_again_106
        refine ⟨fun _ => hQ Z ?_, fun q => absurd (show (8 : Int32) ≤ nI 8 by decide) q⟩
        have e353 : Z.1 353 = F := by rw [z1.1 353 (by simp), hT, setA_ne _ _ (by decide), setA_ne _ _ (by decide), setA_eq]
        refine ⟨?_, ?_, ?_, ?_, ?_, ?_, ?_, z2, z3, z4, z5⟩
        · intro c c1 c2
          rw [z1.1 c (by simp; omega), hT, setA_ne _ _ (by omega), setA_ne _ _ (by omega), setA_ne _ _ c1]
        · rw [z1.2, hT]; rfl
        · intro j a b c d e f g; rw [e353]; exact h1 j a b c d e f g
        · intro j hj; unfold flM; rw [e353]; exact h2 j hj
        · rw [e353]; exact h3
        · rw [z1.1 354 (by simp), hT, setA_ne _ _ (by decide), setA_eq]
        · rw [z1.1 355 (by simp), hT, setA_eq]
      · rintro i m Z hi ⟨z1, z2, z3, z4, z5⟩ ih
        unfold q_X9_again_106
        have et : Z.1 t = S.1 t := by
          rw [z1.1 t (by simp; omega), hT, setA_ne _ _ (by omega), setA_ne _ _ (by omega), setA_ne _ _ (by omega)]
        rw [show (8 : Int32) = nI 8 from rfl, nI_leI (by omega) (by omega), show (166 : Int32) = nI 166 from rfl, show (174 : Int32) = nI 174 from rfl, show (182 : Int32) = nI 182 from rfl, show (190 : Int32) = nI 190 from rfl, nI_add, nI_add, nI_add, nI_add, tn_nI (i := i) (by omega), tn_nI (i := 166 + i) (by omega), tn_nI (i := 174 + i) (by omega), tn_nI (i := 182 + i) (by omega), tn_nI (i := 190 + i) (by omega), hl, et]
        refine ⟨fun q => by omega, fun _ => ⟨vi (by omega) (by omega), vi (by omega) (by omega), fun S4 g4 => ⟨vi (by omega) (by omega), vi (by omega) (by omega), fun S7 g7 => ⟨vi (by omega) (by omega), vi (by omega) (by omega), fun S10 g10 => ⟨vi (by omega) (by omega), vi (by omega) (by omega), fun S13 g13 x ex => ?_⟩⟩⟩⟩⟩
        rw [ex, nI_1]
        have t4 : S4.1 t = S.1 t := by rw [g4, uA_ne (by omega), et]
        have t7 : S7.1 t = S.1 t := by rw [g7, uA_ne (by omega), t4]
        have t10 : S10.1 t = S.1 t := by rw [g10, uA_ne (by omega), t7]
        rw [t4] at g7
        rw [t7] at g10
        rw [t10] at g13
        refine ih S13 ⟨z1.tr ?_, ?_, ?_, ?_, ?_⟩
        · rw [g13, g10, g7, g4]
          exact (frs.upd (by simp)).tr ((frs.upd (by simp)).tr ((frs.upd (by simp)).tr (frs.upd (by simp))))
        · rw [g13, uA_ne (by decide), g10, uA_ne (by decide), g7, uA_ne (by decide), g4, uA_eq, z2]
          exact fl_upd i _ _ rfl
        · rw [g13, uA_ne (by decide), g10, uA_ne (by decide), g7, uA_eq, g4, uA_ne (by decide), z3]
          exact fl_upd i _ _ rfl
        · rw [g13, uA_ne (by decide), g10, uA_eq, g7, uA_ne (by decide), g4, uA_ne (by decide), z4]
          exact fl_upd i _ _ rfl
        · rw [g13, uA_eq, g10, uA_ne (by decide), g7, uA_ne (by decide), g4, uA_ne (by decide), z5]
          exact fl_upd i _ _ rfl
    · intro i m T hi hT ih
      unfold q_X9_again_80
      have et : T.1 t = S.1 t := by
        rw [hT, setA_ne _ _ (by omega), setA_ne _ _ (by omega), setA_ne _ _ (by omega)]
      rw [show (64 : Int32) = nI 64 from rfl, nI_leI (by omega) (by omega), show (102 : Int32) = nI 102 from rfl, nI_add, tn_nI (i := i) (by omega), tn_nI (i := 102 + i) (by omega), hl, et]
      refine ⟨fun q => by omega, fun _ => ⟨vi (by omega) (by omega), vi (by omega) (by omega), fun S4 g4 x ex => ?_⟩⟩
      rw [ex, nI_1]
      refine ih S4 ?_
      rw [g4, hT, uA_sA]
      rw [fl_upd i (fun i => S.1 t (102 + i)) _ rfl]
  · intro i m T hi hT ih
    unfold q_X9_again_54
    have et : T.1 t = S.1 t := by
      rw [hT, setA_ne _ _ (by omega), setA_ne _ _ (by omega)]
    rw [show (96 : Int32) = nI 96 from rfl, nI_leI (by omega) (by omega), show (6 : Int32) = nI 6 from rfl, nI_add, tn_nI (i := i) (by omega), tn_nI (i := 6 + i) (by omega), hl, et]
    refine ⟨fun q => by omega, fun _ => ⟨vi (by omega) (by omega), vi (by omega) (by omega), fun S4 g4 x ex => ?_⟩⟩
    rw [ex, nI_1]
    refine ih S4 ?_
    rw [g4, hT, uA_sA]
    rw [fl_upd i (fun i => S.1 t (6 + i)) _ rfl]
