/-! the calls that change elements (3) -/
theorem op_mix {S : Sto} {b : Nat} (x y u z v : Int32) (hb : b < 1000000) (H : Rel S b) : wp_X8_mix x y u z v S (fun r S1 => wp_X9_mix x y u z v S1 (fun r' S2 => r = r' ∧ Rel S2 b)) := by
  obtain ⟨n, p, K, gc, ec, bc, H⟩ := H.r0
  obtain ⟨h1, h2, h3, h4, h5, h6, h7⟩ := id H
  obtain ⟨ed, hed, hC, hR, hO, hE⟩ := H.abs
  have N := h1.nw
  have n4 := N.1.2.2.2.1
  have hp := N.1.2.2.2.2
  have hw := pow_n n4
  have hp8 := hp.pos
  unfold wp_X8_mix q_X8_mix_34
  have none : (¬ ((∃ s, s < 6 ∧ x = nI s) ∧ (∃ k, k < 6 ∧ y = nI k) ∧ ∃ j, j < 6 ∧ z = nI j)) → wp_X9_mix x y u z v S (fun r' S2 => (-1 : Int32) = r' ∧ Rel S2 b) := by
    intro hn
    unfold wp_X9_mix q_X9_mix_22
    refine sp_elem9 (fun hs => ⟨fun z => absurd z (by decide), fun _ => ?_⟩) (fun _ => ⟨fun _ => ⟨rfl, H.rel⟩, fun z => absurd rfl z⟩)
    refine sp_elem9 (fun hk => ⟨fun z => absurd z (by decide), fun _ => ?_⟩) (fun _ => ⟨fun _ => ⟨rfl, H.rel⟩, fun z => absurd rfl z⟩)
    exact sp_elem9 (fun hj => absurd ⟨hs, hk, hj⟩ hn) (fun _ => ⟨fun z => absurd rfl z, fun _ => ⟨rfl, H.rel⟩⟩)
  refine sp_elem8 (fun ⟨k, hk, e⟩ => ⟨fun z => absurd z (by decide), fun _ => ?_⟩) (fun h0 => ⟨fun _ => none (fun q => h0 q.1), fun z => absurd rfl z⟩)
  subst e
  refine sp_elem8 (fun ⟨a, ha, e⟩ => ⟨fun z => absurd z (by decide), fun _ => ?_⟩) (fun h0 => ⟨fun _ => none (fun q => h0 q.2.1), fun z => absurd rfl z⟩)
  subst e
  refine sp_elem8 (fun ⟨c, hc, e⟩ => ⟨fun _ => ?_, fun z => absurd z (by decide)⟩) (fun h0 => ⟨fun z => absurd rfl z, fun _ => none (fun q => h0 q.2.2)⟩)
  subst e
  have la := ln_el a ha
  have lc := ln_el c hc
  have Ea := h1.el a ha
  have Ec := h1.el c hc
  have Ma := h1.elM a ha
  have Mc := h1.elM c hc
  obtain ⟨U, hU⟩ : ∃ U : Int, U = u.toInt % p := ⟨_, rfl⟩
  obtain ⟨V, hV⟩ : ∃ V : Int, V = v.toInt % p := ⟨_, rfl⟩
  have U0 : 0 ≤ U := by rw [hU]; exact Int.emod_nonneg _ (by omega)
  have U1 : U < p := by rw [hU]; exact Int.emod_lt_of_pos _ (by omega)
  have V0' : 0 ≤ V := by rw [hV]; exact Int.emod_nonneg _ (by omega)
  have V1 : V < p := by rw [hV]; exact Int.emod_lt_of_pos _ (by omega)
  obtain ⟨r, hr⟩ : ∃ r : Vc, r = fun i => (U * eS S a i + V * eS S c i) % p := ⟨_, rfl⟩
  have hrp : ∀ i, 0 ≤ r i ∧ r i < p := fun i => by
    rw [hr]
    exact ⟨Int.emod_nonneg _ (by omega), Int.emod_lt_of_pos _ (by omega)⟩
  have bnd : ∀ i, i < 16 → 0 ≤ U * eS S a i + V * eS S c i ∧ U * eS S a i + V * eS S c i < 100 := fun i hi => by
    have h1 := Ea i hi
    have h2 := Ec i hi
    have q1 : 0 ≤ U * eS S a i := Int.mul_nonneg U0 h1.2.1
    have q2 : 0 ≤ V * eS S c i := Int.mul_nonneg V0' h2.2.1
    have q3 : U * eS S a i ≤ 7 * 7 := Int.mul_le_mul (by omega) (by omega) h1.2.1 (by omega)
    have q4 : V * eS S c i ≤ 7 * 7 := Int.mul_le_mul (by omega) (by omega) h2.2.1 (by omega)
    omega
  intro x6 e6
  rw [e6, N.1.2.1, ← iI_toInt u, ← iI_toInt v]
  refine sp_modulo (sm_toInt u) (by omega) (by omega) (sp_modulo (sm_toInt v) (by omega) (by omega) ?_)
  rw [← hU, ← hV]
  refine loopE (fun m i (T : Sto) => q_X8_mix_65 (nI k) (nI a) (iI u.toInt) (nI c) (iI v.toInt) (fun r S1 => wp_X9_mix (nI k) (nI a) (iI u.toInt) (nI c) (iI v.toInt) S1 (fun r' S2 => r = r' ∧ Rel S2 b)) m (nI p) (iI U) (iI V) (nI i) T) (fun i T => T = setA S 352 (fl i (fun i => iI (r i)) (S.1 352))) (2 ^ n) ?_ ?_ 0 S (Nat.zero_le _) (by rw [fl_0, setA_self])
  · intro T hT
    unfold q_X8_mix_65
    refine sp_width (by rw [hT, setA_ne _ _ (by decide)]; exact N.1.1) n4 ?_
    rw [nI_leI (by omega) (by omega)]
    refine ⟨fun _ => ?_, fun q => absurd (Nat.le_refl _) q⟩
    have CW := hC.w (F := fl (2 ^ n) (fun i => iI (r i)) (S.1 352)) hO.1.2.2.2.2
    rw [hT]
    refine R0.rep (Q9 := fun Q S2 => wp_X9_mix (nI k) (nI a) (iI u.toInt) (nI c) (iI v.toInt) S2 Q) (r := r) H hed hC hR hO hE hb CW.2 CW.1 hk (fun i hi => ⟨by rw [setA_eq, fl_lt _ _ hi], hrp i⟩) (fun S2 Q R2 hl => ?_)
    unfold wp_X9_mix
    refine sp_elem9 (fun _ => ⟨fun z => absurd z (by decide), fun _ => ?_⟩) (fun h0 => absurd ⟨k, hk, rfl⟩ h0)
    refine sp_elem9 (fun _ => ⟨fun z => absurd z (by decide), fun _ => ?_⟩) (fun h0 => absurd ⟨a, ha, rfl⟩ h0)
    refine sp_elem9 (fun _ => ⟨fun _ => ?_, fun z => absurd z (by decide)⟩) (fun h0 => absurd ⟨c, hc, rfl⟩ h0)
    refine loopE (fun m i (T : Sto) => q_X9_mix_27 (nI k) (nI a) (iI u.toInt) (nI c) (iI v.toInt) Q m (nI i) T) (fun i T => T = setA S2 373 (fl i (fun i => iI (r i)) (S2.1 373))) 16 ?_ ?_ 0 S2 (Nat.zero_le _) (by rw [fl_0, setA_self])
    · intro T hT
      unfold q_X9_mix_27
      refine ⟨fun _ => ?_, fun q => absurd (show (16 : Int32) ≤ nI 16 by decide) q⟩
      have RW := R2.w (l := [373]) ((frs.set (t := 373) (l := [373]) (F := fl 16 (fun i => iI (r i)) (S2.1 373)) (by simp)).M (by simp)) (by simp)
      rw [hT]
      refine hl _ RW.1 RW.2 (fun i hi => by rw [setA_eq, fl_lt _ _ (by omega)]) (fun i hi hi2 => ?_)
      rw [setA_eq, fl_lt _ _ hi2, hr]
      show iI ((U * eS S a i + V * eS S c i) % p) = 0
      rw [(Ma i hi2).2.2.2 hi, (Mc i hi2).2.2.2 hi]
      simp
      rfl
    · intro i m T hi hT ih
      unfold q_X9_mix_27
      have RW := R2.w (l := [373]) ((frs.set (t := 373) (l := [373]) (F := fl i (fun i => iI (r i)) (S2.1 373)) (by simp)).M (by simp)) (by simp)
      rw [← hT] at RW
      have p1 : T.1 353 1 = nI p := RW.1.2.1
      have ta : T.1 354 (16 * a + i) = iI (eS S a i) := (RW.1.2.2.2.2.2.1 a ha i hi).trans (Ea i hi).1
      have tc : T.1 354 (16 * c + i) = iI (eS S c i) := (RW.1.2.2.2.2.2.1 c hc i hi).trans (Ec i hi).1
      have h1 := Ea i hi
      have h2 := Ec i hi
      have h3 := bnd i hi
      rw [show (16 : Int32) = nI 16 from rfl, nI_leI (by omega) (by omega), pk_mul, pk_mul, nI_add, nI_add, tn_nI (i := 16 * a + i) (by omega), tn_nI (i := 16 * c + i) (by omega), tn_nI (i := i) (by omega), iI_l (sm_toInt u), iI_l (sm_toInt v)]
      refine ⟨fun q => by omega, fun _ => sp_mod9 p1 hp (sm31_63 (sm_toInt u)) ⟨vi (by omega) (by omega), sp_mod9 p1 hp (sm31_63 (sm_toInt v)) ⟨vi (by omega) (by omega), ?_⟩⟩⟩
      rw [← hU, ← hV, ta, tc, iI_l ⟨by omega, by omega⟩, iI_l ⟨by omega, by omega⟩, iI_l ⟨by omega, by omega⟩, iI_l ⟨by omega, by omega⟩, ← iL_mul, ← iL_mul, ← iL_add]
      refine sp_mod9 p1 hp ⟨by omega, by omega⟩ ⟨vi (by omega) (by omega), fun S13 e13 x ex => ?_⟩
      rw [ex, nI_1]
      refine ih S13 ?_
      rw [e13, hT]
      exact fl_step' S2 373 i _ _ (by rw [hr])
  · intro i m T hi hT ih
    unfold q_X8_mix_65
    have o : ∀ c, c ≠ 352 → T.1 c = S.1 c := fun c hc => by rw [hT, setA_ne _ _ hc]
    have h1 := Ea i (by omega)
    have h2 := Ec i (by omega)
    have h3 := bnd i (by omega)
    refine sp_width (by rw [o 1 (by decide)]; exact N.1.1) n4 ?_
    rw [nI_leI (by omega) (by omega), tn_nI (i := a) (by omega), tn_nI (i := c) (by omega), tn_nI (i := i) (by omega), la, lc, o _ (by omega), o _ (by omega), h1.1, h2.1, ← iI_mul, ← iI_mul, ← iI_add]
    refine ⟨fun q => by omega, fun _ => ⟨vi ha (by omega), vi (by omega) (by omega), vi hc (by omega), vi (by omega) (by omega), sp_modulo ⟨by omega, by omega⟩ (by omega) (by omega) ⟨vi (by omega) (by omega), fun S13 e13 x ex => ?_⟩⟩⟩
    rw [ex, nI_1]
    refine ih S13 ?_
    rw [e13, hT]
    exact fl_step' S 352 i _ _ (by rw [hr])
