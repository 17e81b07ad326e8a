/-! the call that looks into the book -/
theorem spot_N : ∀ s, s < 600 → nI s / 100 = nI (s / 100) ∧ nI s - nI s / 100 * 100 = nI (s % 100) := by decide +kernel
noncomputable def bad (S : Sto) (n i : Nat) : Bool := isB (¬ ((S.1 16 i).toNatClampNeg % 100 < 2 ^ n ∧ S.1 (2 + 1 + (S.1 16 i).toNatClampNeg / 100) ((S.1 16 i).toNatClampNeg % 100) = S.1 17 i))
theorem lst.more {f : Nat → Bool} {b : Nat} (h : ∀ t, t < b → f t = false) : lst f 0 b (-5) := Or.inr ⟨fun t _ q => h t q, rfl⟩
theorem sp_spot8 {s n : Nat} {S : Sto} {Q : Int32 → Sto → Prop} (hs : s < 600) (hn : S.1 1 0 = nI n) (h4 : n ≤ 4) (h1 : s % 100 < 2 ^ n → Q 1 S) (h0 : ¬ s % 100 < 2 ^ n → Q 0 S) : wp_X4_hasSpot (nI s) S Q := by
  unfold wp_X4_hasSpot q_X4_hasSpot_30 q_X4_hasSpot_31
  rw [(spot_N s hs).2, (spot_N s hs).1]
  refine ⟨fun q => absurd q (nI_pos (by omega)), fun _ => ?_⟩
  refine sp_elem8 (fun _ => ⟨fun z => absurd z (by decide), fun _ => ?_⟩) (fun h => absurd ⟨s / 100, by omega, rfl⟩ h)
  refine sp_place8 hn h4 (fun ⟨j, hj, e⟩ => ⟨fun z => absurd z (by decide), fun _ => ⟨narb1, h1 ?_⟩⟩) (fun h => ⟨fun _ => ⟨narb0, h0 (fun z => h ⟨s % 100, z, rfl⟩)⟩, fun z => absurd rfl z⟩)
  have hw := pow_n h4
  rw [nI_eq (by omega) (by omega)] at e
  rw [e]; exact hj
theorem sp_looked8 {n p K gc ec bc b : Nat} {S : Sto} {Q : Int32 → Sto → Prop} (H : R0 S b n p K gc ec bc) (hQ : ∀ a, lst (bad S n) 0 bc a → Q a S) : wp_X8_looked S Q := by
  obtain ⟨h1, h2, h3, h4, h5, h6, h7⟩ := id H
  have N := h1.nw
  have n4 := N.1.2.2.2.1
  have hw := pow_n n4
  have b8 : bc ≤ 8 := h1.1.2.2.2.2.2.2
  have b11 : S.1 1 11 = nI bc := h1.2.1.2.2.2.2.2
  unfold wp_X8_looked
  refine loopE (fun m i (_ : Unit) => q_X8_looked_2 Q m (nI i) S) (fun i _ => ∀ t, t < i → bad S n t = false) bc ?_ ?_ 0 () (Nat.zero_le _) (fun t q => by omega)
  · intro _ hb
    unfold q_X8_looked_2 q_X8_looked_77
    rw [b11, nI_leI (by omega) (by omega)]
    exact ⟨fun _ => hQ _ (lst.more hb), fun q => absurd (Nat.le_refl _) q⟩
  · intro i m _ hi hb ih
    obtain ⟨-, -, s, hs, es⟩ := h1.2.2.2.2.2.2 i hi
    have es' : S.1 16 i = nI s := es
    have et : (S.1 16 i).toNatClampNeg = s := by rw [es', tn_nI (by omega)]
    have le := ln_el (s / 100) (by omega)
    unfold q_X8_looked_2 q_X8_looked_77 q_X8_looked_69
    rw [b11, nI_leI (by omega) (by omega), show (8 : Int32) = nI 8 from rfl, nI_leI (by omega) (by omega), tn_nI (i := i) (by omega)]
    refine ⟨fun q => by omega, fun _ => ⟨fun q => by omega, fun _ => ⟨vi (by omega) (by omega), fun x2 e2 => ?_⟩⟩⟩
    rw [e2, es', (spot_N s hs).2, (spot_N s hs).1, tn_nI (i := s / 100) (by omega), tn_nI (i := s % 100) (by omega), le]
    have hbi : bad S n i = true → Q (nI i) S := fun z => hQ _ (Or.inl ⟨i, Nat.zero_le _, hi, z, fun t _ q => hb t q, rfl⟩)
    have hgo : bad S n i = false → ∀ x : Int32, x = nI i + 1 → q_X8_looked_2 Q m x S := fun z x ex => by
      rw [ex, nI_1]
      exact ih () (fun t q => by
        by_cases e : t = i
        · rw [e]; exact z
        · exact hb t (by omega))
    refine sp_spot8 hs N.1.1 n4 (fun q => ⟨fun z => absurd z (by decide), fun _ => ⟨vi (by omega) (by omega), vi (by omega) (by omega), vi (by omega) (by omega), fun z => hgo ?_, fun z => hbi ?_⟩⟩) (fun q => ⟨fun _ => hbi ?_, fun z => absurd rfl z⟩)
    · unfold bad; rw [isB_f, et]; exact fun g => g ⟨q, z⟩
    · unfold bad; rw [isB_t, et]; exact fun g => z g.2
    · unfold bad; rw [isB_t, et]; exact fun g => q g.1
theorem sp_looked9 {n p K gc ec bc b : Nat} {S : Sto} {Q : Int32 → Sto → Prop} (H : R0 S b n p K gc ec bc) (hQ : ∀ a, lst (bad S n) 0 bc a → Q a S) : wp_X9_looked S Q := by
  obtain ⟨h1, h2, h3, h4, h5, h6, h7⟩ := id H
  have N := h1.nw
  have n4 := N.1.2.2.2.1
  have hw := pow_n n4
  have b8 : bc ≤ 8 := h1.1.2.2.2.2.2.2
  have b11 : S.1 353 12 = nI bc := h1.2.2.1.2.2.2.2.2
  unfold wp_X9_looked
  refine loopE (fun m i (_ : Unit) => q_X9_looked_2 Q m (nI i) S) (fun i _ => ∀ t, t < i → bad S n t = false) bc ?_ ?_ 0 () (Nat.zero_le _) (fun t q => by omega)
  · intro _ hb
    unfold q_X9_looked_2
    rw [b11, nI_leI (by omega) (by omega)]
    exact ⟨fun _ => hQ _ (lst.more hb), fun q => absurd (Nat.le_refl _) q⟩
  · intro i m _ hi hb ih
    obtain ⟨e1, e0, s, hs, es⟩ := h1.2.2.2.2.2.2 i hi
    have es' : S.1 16 i = nI s := es
    have e1' : S.1 358 i = nI s := by rw [e1]; exact es
    have e0' : S.1 359 i = S.1 17 i := e0
    have et : (S.1 16 i).toNatClampNeg = s := by rw [es', tn_nI (by omega)]
    unfold q_X9_looked_2 q_X9_looked_54
    rw [b11, nI_leI (by omega) (by omega), tn_nI (i := i) (by omega)]
    refine ⟨fun q => by omega, fun _ => ⟨vi (by omega) (by omega), fun x2 e2 => ?_⟩⟩
    rw [e2, e1', (spot_N s hs).2, (spot_N s hs).1]
    have hbi : bad S n i = true → Q (nI i) S := fun z => hQ _ (Or.inl ⟨i, Nat.zero_le _, hi, z, fun t _ q => hb t q, rfl⟩)
    have hgo : bad S n i = false → ∀ x : Int32, x = nI i + 1 → q_X9_looked_2 Q m x S := fun z x ex => by
      rw [ex, nI_1]
      exact ih () (fun t q => by
        by_cases e : t = i
        · rw [e]; exact z
        · exact hb t (by omega))
    refine sp_place9 h2 hw.1 (fun ⟨j, hj, ej⟩ => ?_) (fun q => ⟨fun _ => hbi ?_, fun z => absurd rfl z⟩)
    · rw [nI_eq (by omega) (by omega)] at ej
      have q : s % 100 < 2 ^ n := by rw [ej]; exact hj
      rw [show (16 : Int32) = nI 16 from rfl, pk_mul, nI_add, tn_nI (i := 16 * (s / 100) + s % 100) (by omega), show S.1 354 (16 * (s / 100) + s % 100) = S.1 (1 + 2 + s / 100) (s % 100) from (h1.2.2.2.1 (s / 100) (by omega) (s % 100) (by omega)).1, e0', show 1 + 2 + s / 100 = 2 + 1 + s / 100 by omega]
      refine ⟨fun z => absurd z (by decide), fun _ => ⟨vi (by omega) (by omega), vi (by omega) (by omega), fun z => hgo ?_, fun z => hbi ?_⟩⟩
      · unfold bad; rw [isB_f, et]; exact fun g => g ⟨q, z⟩
      · unfold bad; rw [isB_t, et]; exact fun g => z g.2
    · unfold bad; rw [isB_t, et]; exact fun g => q ⟨_, g.1, rfl⟩
theorem op_looked {S : Sto} {b : Nat} (H : Rel S b) : wp_X8_looked S (fun r S1 => wp_X9_looked S1 (fun r' S2 => r = r' ∧ Rel S2 b)) := by
  obtain ⟨n, p, K, gc, ec, bc, H⟩ := H.r0
  exact sp_looked8 H (fun a ha => sp_looked9 H (fun a' ha' => ⟨ha.same ha', H.rel⟩))
