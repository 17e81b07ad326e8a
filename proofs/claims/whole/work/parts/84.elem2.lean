/-! the calls that change elements (2) -/
theorem op_product {S : Sto} {b : Nat} (x y z : Int32) (hb : b < 1000000) (H : Rel S b) : wp_X8_product x y z S (fun r S1 => wp_X9_product x y z S1 (fun r' S2 => r = r' ∧ Rel S2 b)) := by
  obtain ⟨n, p, K, gc, ec, bc, H⟩ := H.r0
  obtain ⟨h1, h2, h3, h4, h5, h6, h7⟩ := id H
  obtain ⟨ed, hed, hC, hR, hO, hE⟩ := H.abs
  have N := h1.nw
  have n4 := N.1.2.2.2.1
  have hp := N.1.2.2.2.2
  have hw := pow_n n4
  have hp8 := hp.pos
  unfold wp_X8_product q_X8_product_33
  have none : (¬ ((∃ s, s < 6 ∧ x = nI s) ∧ (∃ k, k < 6 ∧ y = nI k) ∧ ∃ j, j < 6 ∧ z = nI j)) → wp_X9_product x y z S (fun r' S2 => (-1 : Int32) = r' ∧ Rel S2 b) := by
    intro hn
    unfold wp_X9_product q_X9_product_21
    refine sp_elem9 (fun hs => ⟨fun z => absurd z (by decide), fun _ => ?_⟩) (fun _ => ⟨fun _ => ⟨rfl, H.rel⟩, fun z => absurd rfl z⟩)
    refine sp_elem9 (fun hk => ⟨fun z => absurd z (by decide), fun _ => ?_⟩) (fun _ => ⟨fun _ => ⟨rfl, H.rel⟩, fun z => absurd rfl z⟩)
    exact sp_elem9 (fun hj => absurd ⟨hs, hk, hj⟩ hn) (fun _ => ⟨fun z => absurd rfl z, fun _ => ⟨rfl, H.rel⟩⟩)
  refine sp_elem8 (fun ⟨k, hk, e⟩ => ⟨fun z => absurd z (by decide), fun _ => ?_⟩) (fun h0 => ⟨fun _ => none (fun q => h0 q.1), fun z => absurd rfl z⟩)
  subst e
  refine sp_elem8 (fun ⟨a, ha, e⟩ => ⟨fun z => absurd z (by decide), fun _ => ?_⟩) (fun h0 => ⟨fun _ => none (fun q => h0 q.2.1), fun z => absurd rfl z⟩)
  subst e
  refine sp_elem8 (fun ⟨c, hc, e⟩ => ⟨fun _ => ?_, fun z => absurd z (by decide)⟩) (fun h0 => ⟨fun z => absurd rfl z, fun _ => none (fun q => h0 q.2.2)⟩)
  subst e
  have la := ln_el a ha
  have lc := ln_el c hc
  have Ea : rd (S.1 (2 + 1 + a)) (2 ^ n) p (eS S a) := fun i hi => h1.el a ha i (by omega)
  have Ec : rd (S.1 (2 + 1 + c)) (2 ^ n) p (eS S c) := fun i hi => h1.el c hc i (by omega)
  rw [tn_nI (i := a) (by omega), tn_nI (i := c) (by omega)]
  refine ⟨vi ha (by omega), vi hc (by omega), sp_width N.1.1 n4 ?_⟩
  rw [N.1.2.1]
  refine sp_multiply hp hw.1 (by omega) (by omega) (by rw [ln_352]; omega) (by omega) (by omega) (by rw [ln_352]; omega) (by omega) (by omega) Ea Ec ?_
  obtain ⟨r, hr⟩ : ∃ r : Vc, r = fun i => mulE (2 ^ n) (eS S a) (eS S c) i % p := ⟨_, rfl⟩
  have hrp : ∀ i, 0 ≤ r i ∧ r i < p := fun i => by
    rw [hr]
    exact ⟨Int.emod_nonneg _ (by omega), Int.emod_lt_of_pos _ (by omega)⟩
  have CW := hC.w (F := fl (2 ^ n) (fun i => iI (mulE (2 ^ n) (eS S a) (eS S c) i % p)) (S.1 352)) hO.1.2.2.2.2
  refine R0.rep (Q9 := fun Q S2 => wp_X9_product (nI k) (nI a) (nI c) S2 Q) (r := r) H hed hC hR hO hE hb CW.2 CW.1 hk (fun i hi => ⟨by rw [setA_eq, fl_lt _ _ hi, hr], hrp i⟩) (fun S2 Q R2 hl => ?_)
  unfold wp_X9_product
  refine sp_elem9 (fun _ => ⟨fun z => absurd z (by decide), fun _ => ?_⟩) (fun h0 => absurd ⟨k, hk, rfl⟩ h0)
  refine sp_elem9 (fun _ => ⟨fun z => absurd z (by decide), fun _ => ?_⟩) (fun h0 => absurd ⟨a, ha, rfl⟩ h0)
  refine sp_elem9 (fun _ => ⟨fun _ => ?_, fun z => absurd z (by decide)⟩) (fun h0 => absurd ⟨c, hc, rfl⟩ h0)
  rw [show (16 : Int32) = nI 16 from rfl, pk_mul, pk_mul]
  have l354 : ln 354 = 96 := by decide +kernel
  refine sp_multiply9 (X := eS S a) (Y := eS S c) n4 R2.2.1 hp R2.2.2.2.1 (by rw [l354]; omega) (by rw [l354]; omega) (by rw [l354]; omega) (by rw [l354]; omega) (by decide) (by decide) (fun i hi => ?_) (fun i hi => ?_) ?_
  · rw [R2.2.2.2.2.2.1 a ha i (by omega)]; exact Ea i hi
  · rw [R2.2.2.2.2.2.1 c hc i (by omega)]; exact Ec i hi
  · have RW := R2.w (l := [373]) ((frs.set (t := 373) (l := [373]) (F := fl 16 (fun i => if i < 2 ^ n then iI (mulE (2 ^ n) (eS S a) (eS S c) i % p) else 0) (S2.1 373)) (by simp)).M (by simp)) (by simp)
    refine hl _ RW.1 RW.2 (fun i hi => ?_) (fun i hi hi2 => ?_)
    · rw [setA_eq, fl_lt _ _ (by omega), if_pos hi, hr]
    · rw [setA_eq, fl_lt _ _ hi2, if_neg (by omega)]
theorem op_set {S : Sto} {b : Nat} (x d v : Int32) (hb : b < 1000000) (H : Rel S b) : wp_X8_set x d v S (fun r S1 => wp_X9_set x d v S1 (fun r' S2 => r = r' ∧ Rel S2 b)) := by
  obtain ⟨n, p, K, gc, ec, bc, H⟩ := H.r0
  obtain ⟨h1, h2, h3, h4, h5, h6, h7⟩ := id H
  obtain ⟨ed, hed, hC, hR, hO, hE⟩ := H.abs
  have N := h1.nw
  have n4 := N.1.2.2.2.1
  have hp := N.1.2.2.2.2
  have hw := pow_n n4
  have hp8 := hp.pos
  unfold wp_X8_set q_X8_set_22
  have none : (¬ ((∃ k, k < 6 ∧ x = nI k) ∧ ∃ j, j < 2 ^ n ∧ d = nI j)) → wp_X9_set x d v S (fun r' S2 => (-1 : Int32) = r' ∧ Rel S2 b) := by
    intro hn
    unfold wp_X9_set q_X9_set_15
    refine sp_elem9 (fun hk => ⟨fun z => absurd z (by decide), fun _ => ?_⟩) (fun _ => ⟨fun _ => ⟨rfl, H.rel⟩, fun z => absurd rfl z⟩)
    exact sp_place9 h2 hw.1 (fun hj => absurd ⟨hk, hj⟩ hn) (fun _ => ⟨fun z => absurd rfl z, fun _ => ⟨rfl, H.rel⟩⟩)
  refine sp_elem8 (fun ⟨k, hk, e⟩ => ⟨fun z => absurd z (by decide), fun _ => ?_⟩) (fun h0 => ⟨fun _ => none (fun q => h0 q.1), fun z => absurd rfl z⟩)
  subst e
  refine sp_place8 N.1.1 n4 (fun ⟨j, hj, e⟩ => ⟨fun _ => ?_, fun z => absurd z (by decide)⟩) (fun h0 => ⟨fun z => absurd rfl z, fun _ => none (fun q => h0 q.2)⟩)
  subst e
  have le := ln_el k hk
  rw [tn_nI (i := k) (by omega), tn_nI (i := j) (by omega), le]
  refine ⟨vi hk (by omega), vi (by omega) (by omega), fun x4 e4 => ⟨vi hk (by omega), ?_⟩⟩
  rw [N.1.2.1, ← iI_toInt v]
  refine sp_modulo (sm_toInt v) (by omega) (by omega) ⟨vi (by omega) (by omega), fun S1 e1 => ?_⟩
  obtain ⟨E', hE'⟩ : ∃ E' : Nat → Nat → Int32, E' = fun e i => if e = k ∧ i = j then iI (v.toInt % p) else S.1 (2 + 1 + e) i := ⟨_, rfl⟩
  have hEv : ∀ e i, E' e i = if e = k ∧ i = j then iI (v.toInt % p) else S.1 (2 + 1 + e) i := fun e i => by rw [hE']
  have f1 : frC S S1 := by rw [e1]; exact frC.cell (by omega)
  have o : ∀ c, c ≠ 2 + 1 + k → S1.1 c = S.1 c := fun c hc => by rw [e1, uA_ne hc]
  have C1 : CA S1 n p K gc ed E' (fun g i => S.1 (9 + 1 + g) i) := by
    obtain ⟨c1, c2, c3, c4, c5, c6, c7⟩ := hC
    refine ⟨by rw [o 1 (by omega)]; exact c1, by rw [o 1 (by omega)]; exact c2, by rw [o 1 (by omega)]; exact c3, by rw [o 1 (by omega)]; exact c4, by rw [o 1 (by omega)]; exact c5, fun e he i hi => ?_, fun g hg i hi => by rw [o _ (by omega)]⟩
    rw [hEv]
    by_cases q : e = k
    · rw [q, e1, uA_eq]
      by_cases q2 : i = j
      · rw [q2, upd_eq, if_pos ⟨rfl, rfl⟩]
      · rw [upd_ne _ _ q2, if_neg (fun z => q2 z.2)]
    · rw [o _ (by omega), if_neg (fun z => q z.1)]
  have R1 := hR.of f1
  unfold wp_X9_set
  refine sp_elem9 (fun _ => ⟨fun z => absurd z (by decide), fun _ => ?_⟩) (fun h0 => absurd ⟨k, hk, rfl⟩ h0)
  refine sp_place9 R1.2.2.2.1 hw.1 (fun _ => ⟨fun _ => ?_, fun z => absurd z (by decide)⟩) (fun h0 => absurd ⟨j, hj, rfl⟩ h0)
  rw [show (16 : Int32) = nI 16 from rfl, pk_mul, nI_add, tn_nI (i := 16 * k + j) (by omega)]
  refine ⟨vi (by omega) (by omega), fun x5 e5 => ?_⟩
  rw [iI_toInt, i64]
  refine sp_mod9 R1.2.1 hp (sm31_63 (sm_toInt v)) ⟨vi (by omega) (by omega), fun S2 e2 => ⟨?_, ?_⟩⟩
  · rw [e4, e5, R1.2.2.2.2.2.1 k hk j (by omega)]
  · have f2 : frR S1 S2 := by rw [e2]; exact frR.cell (by omega)
    have o2 : ∀ c, c ≠ 354 → S2.1 c = S1.1 c := fun c hc => by rw [e2, uA_ne hc]
    have R2 : RA S2 n p K gc E' (fun g i => S.1 (9 + 1 + g) i) := by
      obtain ⟨c1, c2, c3, c4, c5, c6, c7⟩ := R1
      refine ⟨by rw [o2 353 (by omega)]; exact c1, by rw [o2 353 (by omega)]; exact c2, by rw [o2 353 (by omega)]; exact c3, by rw [o2 353 (by omega)]; exact c4, by rw [o2 353 (by omega)]; exact c5, fun e he i hi => ?_, fun g hg i hi => by rw [o2 355 (by omega)]; exact c7 g hg i hi⟩
      rw [hEv, e2, uA_eq]
      by_cases q : e = k ∧ i = j
      · rw [q.1, q.2, upd_eq, if_pos ⟨rfl, rfl⟩]
      · rw [upd_ne _ _ (by omega), if_neg q]; exact c6 e he i hi
    have O2 : OA n p K gc E' (fun g i => S.1 (9 + 1 + g) i) := by
      refine ⟨hO.1, fun e he i hi => ?_, hO.2.2⟩
      rw [hEv]
      by_cases q : e = k ∧ i = j
      · refine ⟨v.toInt % p, if_pos q, Int.emod_nonneg _ (by omega), Int.emod_lt_of_pos _ (by omega), fun z => by omega⟩
      · obtain ⟨z, z1, z2⟩ := hO.2.1 e he i hi
        exact ⟨z, by rw [if_neg q]; exact z1, z2⟩
    exact R0.rel (H.chg (b' := b) (othE.of f1 f2) hC (C1.of hO.1.2.2.2.2 f2) R2 O2 (hE.of f1 f2) Edt.rf hed hb)
