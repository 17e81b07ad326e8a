/-! the class: lies in; events -/
theorem sp_liesIn {h1 h2 n p K K2 : Nat} {V V2 : Vc → Prop} {S : Sto} {Q : Int32 → Sto → Prop} (hs1 : s16 h1) (hs2 : s16 h2) (hn4 : n ≤ 4) (H : SpOK S h1 p (2 ^ n) K V) (H2 : SpOK S h2 p (2 ^ n) K2 V2)
    (q1 : ∀ S', (∀ v, V v → V2 v) → (∀ c, c ≠ 205 → S'.1 c = S.1 c) → S'.2 = S.2 → Q 1 S') (q0 : ∀ S', ¬ (∀ v, V v → V2 v) → (∀ c, c ≠ 205 → S'.1 c = S.1 c) → S'.2 = S.2 → Q 0 S') : wp_X1_liesIn h1 h2 S Q := by
  have hw := pow_n hn4
  obtain ⟨k1, hl1, ha1, hb1⟩ := hs1.ok
  obtain ⟨k2, hl2, ha2, hb2⟩ := hs2.ok
  have hp8 := H.1.2.1.pos
  have hB := H.2.2.1
  have hV := H.2.2.2
  have hV2 := H2.2.2.2
  unfold wp_X1_liesIn
  refine loopE (fun m l (T : Sto) => q_X1_liesIn_2 h1 h2 Q m (nI l) T) (fun l T => (∀ k, k < l → hdS S h1 (2 ^ n) k → V2 (rwS S h1 k)) ∧ (∀ c, c ≠ 205 → T.1 c = S.1 c) ∧ T.2 = S.2) 16 ?_ ?_ 0 S (by omega) ⟨fun k q => by omega, fun _ _ => rfl, rfl⟩
  · rintro T ⟨t1, t2, t3⟩
    unfold q_X1_liesIn_2
    refine ⟨fun _ => q1 T (fun v hv => hB.span hV hV2 (fun l hl => t1 l (by have := hl.1; omega) hl) hv) t2 t3, fun q => absurd ?_ q⟩
    rw [show (16 : Int32) = nI 16 from rfl, nI_leI (by omega) (by omega)]; omega
  · rintro l m T hl ⟨t1, t2, t3⟩ ih
    have HT : SpOK T h1 p (2 ^ n) K V := H.keep (fun c hc => t2 c (by unfold spC at hc; omega))
    have HT2 : SpOK T h2 p (2 ^ n) K2 V2 := H2.keep (fun c hc => t2 c (by unfold spC at hc; omega))
    have hd1 : hdS T h1 (2 ^ n) l ↔ hdS S h1 (2 ^ n) l := by unfold hdS; rw [t2 _ (by omega)]
    unfold q_X1_liesIn_2 q_X1_liesIn_55
    have e16 : (16 : Int32) = nI 16 := rfl
    refine ⟨fun q => ?_, fun _ => sp_holds k1 (by omega) HT.2.1.2.1 (by omega) (fun q => ⟨fun z => absurd z (by decide), fun _ => ⟨vp_nI (by omega) (by omega), ?_⟩⟩) (fun q => ⟨fun _ x3 e3 => ?_, fun z => absurd rfl z⟩)⟩
    · rw [e16, nI_leI (by omega) (by omega)] at q; omega
    · have hlr := sp_rowln k1 (show l < ln (h1 + 1) by omega)
      rw [tn_nI (by omega), e16]
      refine sp_copy (by omega) (by rw [ln_205]; omega) (by omega) (by rw [ln_205]; omega) (by omega) ?_
      have HA : SpOK (setA T 205 (fl 16 (T.1 (h1 + 1 + 1 + l)) (T.1 205))) h2 p (2 ^ n) K2 V2 := HT2.keep (fun c hc => setA_ne _ _ (by unfold spC at hc; omega))
      have hr := HT.row q
      have er : rwS T h1 l = rwS S h1 l := by unfold rwS; rw [t2 _ (by omega)]
      refine sp_takeFrom (X := rwS T h1 l) HA (by rw [ln_205]; omega) (by rw [ln_205]; omega) (by unfold spC; omega) (by rw [setA_eq]; intro i hi; rw [fl_lt _ _ (by omega)]; exact hr i hi) (fun F r a1 a2 a3 => ?_)
      have o : ∀ c, c ≠ 205 → (setA (setA T 205 (fl 16 (T.1 (h1 + 1 + 1 + l)) (T.1 205))) 205 F).1 c = S.1 c := fun c hc => by rw [setA_ne _ _ hc, setA_ne _ _ hc]; exact t2 c hc
      rw [show (setA (setA T 205 (fl 16 (T.1 (h1 + 1 + 1 + l)) (T.1 205))) 205 F).1 h2 3 = nI (2 ^ n) by rw [o h2 (by omega)]; exact H2.2.1.2.1]
      refine sp_nonZeros (by rw [ln_205]; omega) (by rw [ln_205]; omega) ?_
      rw [setA_eq]
      have hle := cz_le F (2 ^ n)
      have hz := Rest.zero hV2 HA.2.2.1 a2
      have hiff : cz F (2 ^ n) = 0 ↔ V2 (rwS S h1 l) := by
        rw [cz_zero, ← er, hz]
        constructor
        · intro h i hi
          have := a1 i hi
          have h2 := h i hi
          rw [this.1, iI_eq0 ⟨by omega, by omega⟩] at h2
          exact h2
        · intro h i hi
          have := a1 i hi
          rw [this.1, iI_eq0 ⟨by omega, by omega⟩]
          exact h i hi
      rw [show (0 : Int32) = nI 0 from rfl, nI_eq (by omega) (by omega), hiff]
      refine ⟨fun q2 x3 e3 => ?_, fun q2 => q0 _ (fun all => q2 (all _ (H.2.2.1.1 l (hd1.mp q)).2.1)) o t3⟩
      rw [e3, nI_1]
      refine ih _ ⟨fun k hk hdk => ?_, o, t3⟩
      rcases Nat.lt_or_ge k l with z | z
      · exact t1 k z hdk
      · rw [show k = l by omega]; exact q2
    · rw [e3, nI_1]
      refine ih T ⟨fun k hk hdk => ?_, t2, t3⟩
      rcases Nat.lt_or_ge k l with z | z
      · exact t1 k z hdk
      · rw [show k = l by omega] at hdk; exact absurd (hd1.mpr hdk) q
/-- what is told of the events: generators (how many, which) and the kind of order -/
abbrev Gk : Type := Nat × (Nat → Vc) × Nat
noncomputable def evS (n p : Nat) (E : Nat → Vc) (what v : Nat) (g : Gk) : Gk :=
  if what = 0 then (if g.1 < 4 then (g.1 + 1, fun i => if i = g.1 then E v else g.2.1 i, g.2.2) else g)
  else if what = 3 then (g.1, g.2.1, v)
  else if what = 4 then (if v < g.1 then (g.1 - 1, fun i => if i < v then g.2.1 i else g.2.1 (i + 1), g.2.2) else g)
  else if v < n then (g.1, fun i c => (if what = 1 then pl (2 ^ v) (g.2.1 i) c else pr (2 ^ v) (g.2.1 i) c) % p, g.2.2) else g
noncomputable def evF (n p : Nat) (E : Nat → Vc) (w v : Nat → Nat) (g : Gk) : Nat → Gk
  | 0 => g
  | k + 1 => evS n p E (w k) (v k) (evF n p E w v g k)
def evOK (what v : Nat) : Prop := what < 5 ∧ v < 6 ∧ (what = 3 → v < 2) ∧ ((what = 1 ∨ what = 2) → v < 4)
/-- the class's later generators -/
def Lt (S : Sto) (n p : Nat) (g : Gk) : Prop := S.1 48 9 = nI g.1 ∧ g.1 ≤ 4 ∧ S.1 48 10 = nI g.2.2 ∧ g.2.2 < 2 ∧ ∀ i, i < g.1 → rd (S.1 (183 + 1 + i)) (2 ^ n) p (g.2.1 i)
def eS (S : Sto) (e : Nat) : Vc := fun j => (S.1 (2 + 1 + e) j).toInt
def El (S : Sto) (p : Nat) : Prop := ∀ e, e < 6 → rd (S.1 (2 + 1 + e)) 16 p (eS S e)
def fr4 (S S' : Sto) : Prop := (∀ c, c ≠ 48 → ¬ (184 ≤ c ∧ c ≤ 187) → c ≠ 205 → S'.1 c = S.1 c) ∧ (∀ j, j ≠ 9 → j ≠ 10 → S'.1 48 j = S.1 48 j) ∧ S'.2 = S.2
theorem fr4.rf {S : Sto} : fr4 S S := ⟨fun _ _ _ _ => rfl, fun _ _ _ => rfl, rfl⟩
theorem fr4.tr {S S' S'' : Sto} (a : fr4 S S') (b : fr4 S' S'') : fr4 S S'' := ⟨fun c x y z => (b.1 c x y z).trans (a.1 c x y z), fun j x y => (b.2.1 j x y).trans (a.2.1 j x y), b.2.2.trans a.2.2⟩
theorem ln_lat : ∀ i, i < 4 → ln (183 + 1 + i) = 16 := by decide +kernel
theorem ln_gen : ∀ i, i < 4 → ln (9 + 1 + i) = 16 := by decide +kernel
theorem ln_el : ∀ i, i < 6 → ln (2 + 1 + i) = 16 := by decide +kernel
theorem sp_comeLater {x gc n p : Nat} {G : Nat → Vc} {X : Vc} {S : Sto} {Q : Sto → Prop} (hn : n ≤ 4) (h9 : S.1 48 9 = nI gc) (hgc : gc ≤ 4) (hG : ∀ i, i < gc → rd (S.1 (183 + 1 + i)) (2 ^ n) p (G i)) (hx : x < 48) (hlx : ln x = 16) (hX : rd (S.1 x) 16 p X)
    (hQ : ∀ S', S'.1 48 9 = nI (if gc < 4 then gc + 1 else gc) → (∀ i, i < (if gc < 4 then gc + 1 else gc) → rd (S'.1 (183 + 1 + i)) (2 ^ n) p (if gc < 4 then (if i = gc then X else G i) else G i)) → (∀ c, c ≠ 48 → ¬ (184 ≤ c ∧ c ≤ 187) → S'.1 c = S.1 c) → (∀ j, j ≠ 9 → S'.1 48 j = S.1 48 j) → S'.2 = S.2 → Q S') : wp_X1_comeLater x S Q := by
  have hw := pow_n hn
  unfold wp_X1_comeLater q_X1_comeLater_33
  rw [h9, show (4 : Int32) = nI 4 from rfl, nI_leI (by omega) (by omega), tn_nI (by omega)]
  refine ⟨fun q => hQ S ?_ ?_ (fun _ _ _ => rfl) (fun _ _ => rfl) rfl, fun q => ⟨vp_nI (by omega) (by omega), ?_⟩⟩
  · rw [if_neg (by omega)]; exact h9
  · rw [if_neg (by omega)]
    intro i hi
    rw [if_neg (by omega)]; exact hG i hi
  · have ll := ln_lat gc (by omega)
    rw [show (16 : Int32) = nI 16 from rfl]
    refine sp_copy (by omega) (by omega) (by omega) (by omega) (by omega) ?_
    intro S1 e1
    have o : ∀ c, c ≠ 48 → c ≠ 183 + 1 + gc → S1.1 c = S.1 c := fun c a b => by rw [e1, uA_ne a, setA_ne _ _ b]
    have e48 : S1.1 48 = upd (S.1 48) 9 (nI (gc + 1)) := by rw [e1, uA_eq, setA_ne _ _ (by omega), h9, show (1 : Int32) = nI 1 from rfl, nI_add]
    refine hQ S1 ?_ ?_ (fun c a b => o c a (by omega)) (fun j hj => by rw [e48, upd_ne _ _ hj]) (by rw [e1]; rfl)
    · rw [if_pos (by omega), e48, upd_eq]
    · rw [if_pos (by omega)]
      intro i hi
      rw [if_pos (by omega)]
      by_cases e : i = gc
      · subst e
        rw [if_pos rfl, show S1.1 (183 + 1 + i) = fl 16 (S.1 x) (S.1 (183 + 1 + i)) by rw [e1, uA_ne (by omega), setA_eq]]
        intro j hj
        rw [fl_lt _ _ (by omega)]
        exact hX j (by omega)
      · rw [if_neg e, o _ (by omega) (by omega)]
        exact hG i (by omega)
theorem sp_goLater {gc v n p : Nat} {G : Nat → Vc} {S : Sto} {Q : Sto → Prop} (hn : n ≤ 4) (h9 : S.1 48 9 = nI gc) (hgc : gc ≤ 4) (hG : ∀ i, i < gc → rd (S.1 (183 + 1 + i)) (2 ^ n) p (G i)) (hv : v < 70000)
    (hQ : ∀ S', S'.1 48 9 = nI (if v < gc then gc - 1 else gc) → (∀ i, i < (if v < gc then gc - 1 else gc) → rd (S'.1 (183 + 1 + i)) (2 ^ n) p (if v < gc then (if i < v then G i else G (i + 1)) else G i)) → (∀ c, c ≠ 48 → ¬ (184 ≤ c ∧ c ≤ 187) → S'.1 c = S.1 c) → (∀ j, j ≠ 9 → S'.1 48 j = S.1 48 j) → S'.2 = S.2 → Q S') : wp_X1_goLater (nI v) S Q := by
  have hw := pow_n hn
  unfold wp_X1_goLater q_X1_goLater_12
  rw [h9, nI_ltI (by omega) (by omega)]
  refine ⟨fun q => absurd q (nI_pos (by omega)), fun _ => ⟨fun q => ?_, fun q => hQ S ?_ ?_ (fun _ _ _ => rfl) (fun _ _ => rfl) rfl⟩⟩
  · refine loopE (fun m i (T : Sto) => q_X1_goLater_15 (nI v) Q m (nI i) T) (fun i T => v ≤ i ∧ T.1 48 = S.1 48 ∧ (∀ j, j < i → rd (T.1 (183 + 1 + j)) (2 ^ n) p (if j < v then G j else G (j + 1))) ∧ (∀ j, i < j → j < gc → rd (T.1 (183 + 1 + j)) (2 ^ n) p (G j)) ∧ (∀ c, ¬ (184 ≤ c ∧ c ≤ 187) → T.1 c = S.1 c) ∧ T.2 = S.2) (gc - 1) ?_ ?_ v S (by omega) ⟨by omega, rfl, fun j hj => by rw [if_pos hj]; exact hG j (by omega), fun j _ hj => hG j hj, fun _ _ => rfl, rfl⟩
    · rintro T ⟨t0, t1, t2, t3, t4, t5⟩
      unfold q_X1_goLater_15 q_X1_goLater_57
      rw [t1, h9, show (1 : Int32) = nI 1 from rfl, nI_add, nI_leI (by omega) (by omega)]
      refine ⟨fun _ S1 e1 => ?_, fun z => by omega⟩
      have o : ∀ c, c ≠ 48 → S1.1 c = T.1 c := fun c a => by rw [e1, uA_ne a]
      have e48 : S1.1 48 = upd (S.1 48) 9 (nI (gc - 1)) := by rw [e1, uA_eq, t1, pk_sub (by omega)]
      refine hQ S1 ?_ ?_ (fun c a b => by rw [o c a]; exact t4 c b) (fun j hj => by rw [e48, upd_ne _ _ hj]) (by rw [e1]; exact t5)
      · rw [if_pos q, e48, upd_eq]
      · rw [if_pos q]
        intro i hi
        rw [if_pos q, o _ (by omega)]
        exact t2 i (by omega)
    · rintro i m T hi ⟨t0, t1, t2, t3, t4, t5⟩ ih
      unfold q_X1_goLater_15
      rw [t1, h9, show (1 : Int32) = nI 1 from rfl, nI_add, nI_leI (by omega) (by omega), show (4 : Int32) = nI 4 from rfl, nI_leI (by omega) (by omega), tn_nI (by omega), tn_nI (by omega)]
      have l1 := ln_lat i (by omega)
      have l2 := ln_lat (i + 1) (by omega)
      refine ⟨fun z => by omega, fun _ => ⟨fun z => by omega, fun _ => ⟨vp_nI (by omega) (by omega), vp_nI (by omega) (by omega), ?_⟩⟩⟩
      rw [show (16 : Int32) = nI 16 from rfl]
      refine sp_copy (by omega) (by omega) (by omega) (by omega) (by omega) ?_
      intro x2 e2
      rw [e2]
      refine ih _ ⟨by omega, by rw [setA_ne _ _ (by omega)]; exact t1, fun j hj => ?_, fun j a b => by rw [setA_ne _ _ (by omega)]; exact t3 j (by omega) b, fun c hc => by rw [setA_ne _ _ (by omega)]; exact t4 c hc, t5⟩
      by_cases e : j = i
      · rw [e, setA_eq, if_neg (by omega)]
        intro k hk
        rw [fl_lt _ _ (by omega)]
        exact t3 (i + 1) (by omega) (by omega) k hk
      · rw [setA_ne _ _ (by omega)]; exact t2 j (by omega)
  · rw [if_neg q]; exact h9
  · rw [if_neg q]
    intro i hi
    rw [if_neg q]; exact hG i hi
theorem sp_multiplyLater {gc v n p side : Nat} {G : Nat → Vc} {S : Sto} {Q : Sto → Prop} (hC : Cw S n p) (h9 : S.1 48 9 = nI gc) (hgc : gc ≤ 4) (hG : ∀ i, i < gc → rd (S.1 (183 + 1 + i)) (2 ^ n) p (G i)) (hv : v < n) (hs : side < 2)
    (hQ : ∀ S', (∀ i, i < gc → rd (S'.1 (183 + 1 + i)) (2 ^ n) p (fun c => (if side = 0 then pl (2 ^ v) (G i) c else pr (2 ^ v) (G i) c) % p)) → (∀ c, ¬ (184 ≤ c ∧ c ≤ 187) → c ≠ 205 → S'.1 c = S.1 c) → S'.2 = S.2 → Q S') : wp_X1_multiplyLater (nI side) (nI v) S Q := by
  obtain ⟨c0, c1, n2, n4, hp⟩ := id hC
  have hw := pow_n n4
  have hp8 := hp.pos
  unfold wp_X1_multiplyLater
  refine loopE (fun m i (T : Sto) => q_X1_multiplyLater_3 (nI side) (nI v) Q m (nI i) T) (fun i T => (∀ j, j < i → rd (T.1 (183 + 1 + j)) (2 ^ n) p (fun c => (if side = 0 then pl (2 ^ v) (G j) c else pr (2 ^ v) (G j) c) % p)) ∧ (∀ j, i ≤ j → j < gc → rd (T.1 (183 + 1 + j)) (2 ^ n) p (G j)) ∧ (∀ c, ¬ (184 ≤ c ∧ c ≤ 187) → c ≠ 205 → T.1 c = S.1 c) ∧ T.2 = S.2) gc ?_ ?_ 0 S (by omega) ⟨fun j q => by omega, fun j _ hj => hG j hj, fun _ _ _ => rfl, rfl⟩
  · rintro T ⟨t1, t2, t3, t4⟩
    unfold q_X1_multiplyLater_3 q_X1_multiplyLater_66
    rw [t3 48 (by omega) (by omega), h9, nI_leI (by omega) (by omega)]
    exact ⟨fun _ => hQ T t1 t3 t4, fun z => by omega⟩
  · rintro i m T hi ⟨t1, t2, t3, t4⟩ ih
    unfold q_X1_multiplyLater_3
    have hT : Cw T n p := hC.keep (t3 1 (by omega) (by omega))
    have l1 := ln_lat i (by omega)
    rw [t3 48 (by omega) (by omega), h9, nI_leI (by omega) (by omega), show (4 : Int32) = nI 4 from rfl, nI_leI (by omega) (by omega), tn_nI (by omega)]
    refine ⟨fun z => by omega, fun _ => ⟨fun z => by omega, fun _ => ⟨vp_nI (by omega) (by omega), sp_width hT.1 n4 ?_⟩⟩⟩
    rw [hT.2.1]
    refine sp_byLetter (X := G i) hp hs (by omega) (by omega) (fun _ => by omega) (by omega) (by rw [ln_205]; omega) (by omega) (by rw [ln_205]; omega) (by omega) (t2 i (by omega) hi) ?_
    refine ⟨vp_nI (by omega) (by omega), sp_width (by rw [setA_ne _ _ (by decide)]; exact hT.1) n4 ?_⟩
    refine sp_copy (by rw [ln_205]; omega) (by omega) (by rw [ln_205]; omega) (by omega) (by omega) ?_
    intro x4 e4
    rw [e4, nI_1]
    refine ih _ ⟨fun j hj => ?_, fun j a b => by rw [setA_ne _ _ (by omega), setA_ne _ _ (by omega)]; exact t2 j (by omega) b, fun c a b => by rw [setA_ne _ _ (by omega), setA_ne _ _ b]; exact t3 c a b, t4⟩
    by_cases e : j = i
    · rw [e, setA_eq]
      intro k hk
      rw [fl_lt _ _ hk, setA_eq, fl_lt _ _ hk]
      have : mlE side v (G i) k = (if side = 0 then pl (2 ^ v) (G i) k else pr (2 ^ v) (G i) k) := by
        by_cases s0 : side = 0
        · rw [s0, if_pos rfl]; exact mlE_pl (by omega) (by omega) _
        · rw [show side = 1 by omega, if_neg (by decide)]; exact mlE_pr (by omega) (by omega) _
      show iI (mlE side v (G i) k % p) = iI ((if side = 0 then pl (2 ^ v) (G i) k else pr (2 ^ v) (G i) k) % p) ∧ _
      rw [← this]
      exact ⟨rfl, Int.emod_nonneg _ (by omega), Int.emod_lt_of_pos _ (by omega)⟩
    · rw [setA_ne _ _ (by omega), setA_ne _ _ (by omega)]; exact t1 j (by omega)
theorem sp_hasElement {v : Nat} {S : Sto} {Q : Int32 → Sto → Prop} (hv : v < 70000) (h1 : v < 6 → Q 1 S) (h0 : 6 ≤ v → Q 0 S) : wp_X4_hasElement (nI v) S Q := by
  unfold wp_X4_hasElement q_X4_hasElement_14 q_X4_hasElement_15
  rw [show (6 : Int32) = nI 6 from rfl, nI_leI (by omega) (by omega)]
  exact ⟨fun q => absurd q (nI_pos (by omega)), fun _ => ⟨fun q => ⟨narb0, h0 q⟩, fun q => ⟨narb1, h1 (by omega)⟩⟩⟩
theorem evS_ok {n p what v : Nat} {E : Nat → Vc} {g : Gk} (hev : evOK what v) (hg : g.1 ≤ 4) (hk : g.2.2 < 2) : (evS n p E what v g).1 ≤ 4 ∧ (evS n p E what v g).2.2 < 2 := by
  obtain ⟨h1, h2, h3, h4⟩ := hev
  unfold evS
  by_cases w0 : what = 0
  · rw [if_pos w0]; split
    · exact ⟨by show _ ≤ 4; omega, hk⟩
    · exact ⟨hg, hk⟩
  · rw [if_neg w0]
    by_cases w3 : what = 3
    · rw [if_pos w3]; exact ⟨hg, h3 w3⟩
    · rw [if_neg w3]
      by_cases w4 : what = 4
      · rw [if_pos w4]; split
        · exact ⟨by show _ ≤ 4; omega, hk⟩
        · exact ⟨hg, hk⟩
      · rw [if_neg w4]; split <;> exact ⟨hg, hk⟩
theorem sp_happen {what v n p : Nat} {g : Gk} {S : Sto} {Q : Sto → Prop} (hC : Cw S n p) (hev : evOK what v) (hE : El S p) (L : Lt S n p g)
    (hQ : ∀ S', Lt S' n p (evS n p (eS S) what v g) → fr4 S S' → Q S') : wp_X1_happen (nI what) (nI v) S Q := by
  obtain ⟨c0, c1, n2, n4, hp⟩ := id hC
  obtain ⟨v1, v2, v3, v4⟩ := id hev
  obtain ⟨L1, L2, L3, L4, L5⟩ := id L
  have hok := evS_ok (n := n) (p := p) (E := eS S) hev L2 L4
  have k : ∀ a b : Nat, a < 70000 → b < 70000 → (nI a = nI b ↔ a = b) := fun a b ha hb => nI_eq (by omega) (by omega)
  have hw := pow_n n4
  unfold wp_X1_happen q_X1_happen_25 q_X1_happen_35 q_X1_happen_62 q_X1_happen_55 q_X1_happen_85
  rw [show (0 : Int32) = nI 0 from rfl, show (1 : Int32) = nI 1 from rfl, show (2 : Int32) = nI 2 from rfl, show (3 : Int32) = nI 3 from rfl, show (4 : Int32) = nI 4 from rfl]
  simp only [k what 0 (by omega) (by omega), k what 1 (by omega) (by omega), k what 2 (by omega) (by omega), k what 3 (by omega) (by omega), k what 4 (by omega) (by omega)]
  rw [c0, nI_leI (by omega) (by omega)]
  have go : what = 4 → wp_X1_goLater (nI v) S (fun S_3 => Q S_3) := by
    intro w4
    refine sp_goLater n4 L1 L2 L5 (by omega) (fun S' a1 a2 a3 a4 a5 => ?_)
    unfold evS at hQ hok
    rw [if_neg (by omega), if_neg (by omega), if_pos w4] at hQ hok
    refine hQ S' ⟨?_, hok.1, ?_, hok.2, ?_⟩ ⟨fun c x y z => a3 c x y, fun j x y => a4 j x, a5⟩
    · rw [a1]; split <;> rfl
    · rw [a4 10 (by decide), L3]; split <;> rfl
    · intro i hi
      by_cases q : v < g.1
      · simp only [if_pos q] at hi a2 ⊢
        exact a2 i hi
      · simp only [if_neg q] at hi a2 ⊢
        exact a2 i hi
  have ord : what = 3 → ∀ S_5 : Sto, S_5 = uA S 48 10 (nI v) → Q S_5 := by
    intro w3 S1 e1
    unfold evS at hQ hok
    rw [if_neg (by omega), if_pos w3] at hQ hok
    have o : ∀ c, c ≠ 48 → S1.1 c = S.1 c := fun c a => by rw [e1, uA_ne a]
    have e48 : S1.1 48 = upd (S.1 48) 10 (nI v) := by rw [e1, uA_eq]
    refine hQ S1 ⟨by rw [e48, upd_ne _ _ (by decide)]; exact L1, hok.1, by rw [e48, upd_eq], hok.2, fun i hi => by rw [o _ (by omega)]; exact L5 i hi⟩ ⟨fun c x _ _ => o c x, fun j _ y => by rw [e48, upd_ne _ _ y], by rw [e1]; rfl⟩
  have mul : ∀ side, side < 2 → what = side + 1 → v < n → wp_X1_multiplyLater (nI side) (nI v) S (fun S_1 => Q S_1) := by
    intro side hside hw1 hvn
    refine sp_multiplyLater hC L1 L2 L5 hvn hside (fun S' a1 a2 a3 => ?_)
    unfold evS at hQ hok
    rw [if_neg (by omega), if_neg (by omega), if_neg (by omega), if_pos hvn] at hQ hok
    refine hQ S' ⟨by rw [a2 48 (by omega) (by omega)]; exact L1, L2, by rw [a2 48 (by omega) (by omega)]; exact L3, L4, fun i hi => ?_⟩ ⟨fun c x y z => a2 c y z, fun j _ _ => by rw [a2 48 (by omega) (by omega)], a3⟩
    have := a1 i hi
    by_cases s0 : side = 0
    · simp only [if_pos s0] at this; simp only [show what = 1 by omega, if_true]; exact this
    · simp only [if_neg s0] at this; simp only [show ¬ what = 1 by omega, if_false]; exact this
  have idl : (what = 1 ∨ what = 2) → n ≤ v → Q S := by
    intro hw1 hnv
    unfold evS at hQ hok
    rw [if_neg (by omega), if_neg (by omega), if_neg (by omega), if_neg (by omega)] at hQ
    exact hQ S L fr4.rf
  have r62 : ((what = 1 ∨ what = 2) → n ≤ v) → ¬ what = 0 → ((¬ what = 3 → ((¬ what = 4 → Q S) ∧ (what = 4 → wp_X1_goLater (nI v) S (fun S_3 => Q S_3)))) ∧ (what = 3 → ∀ S_5 : Sto, S_5 = uA S 48 10 (nI v) → Q S_5)) := fun h h0 =>
    ⟨fun h3 => ⟨fun h4 => idl (by omega) (h (by omega)), go⟩, ord⟩
  have r35 : (what = 1 ∨ what = 2) → ((n ≤ v → ((¬ what = 3 → ((¬ what = 4 → Q S) ∧ (what = 4 → wp_X1_goLater (nI v) S (fun S_3 => Q S_3)))) ∧ (what = 3 → ∀ S_5 : Sto, S_5 = uA S 48 10 (nI v) → Q S_5))) ∧ (¬ n ≤ v → ((¬ what = 1 → wp_X1_multiplyLater (nI 1) (nI v) S (fun S_1 => Q S_1)) ∧ (what = 1 → wp_X1_multiplyLater (nI 0) (nI v) S (fun S_1 => Q S_1))))) := fun h =>
    ⟨fun hv => r62 (fun _ => hv) (by omega), fun hv => ⟨fun h1 => mul 1 (by omega) (by omega) (by omega), fun h1 => mul 0 (by omega) (by omega) (by omega)⟩⟩
  refine ⟨fun w0 => ⟨fun w1 => r35 (Or.inl w1), fun w1 => ⟨fun w2 => r62 (fun h => by omega) w0, fun w2 => r35 (Or.inr w2)⟩⟩, fun w0 => sp_hasElement (by omega) (fun _ => ⟨fun z => absurd z (by decide), fun _ => ⟨vp_nI (by omega) (by omega), ?_⟩⟩) (fun q => by omega)⟩
  rw [tn_nI (by omega)]
  refine sp_comeLater n4 L1 L2 L5 (by omega) (ln_el v (by omega)) (hE v (by omega)) (fun S' a1 a2 a3 a4 a5 => ?_)
  unfold evS at hQ hok
  rw [if_pos w0] at hQ hok
  refine hQ S' ⟨?_, hok.1, ?_, hok.2, ?_⟩ ⟨fun c x y z => a3 c x y, fun j x y => a4 j x, a5⟩
  · rw [a1]; split <;> rfl
  · rw [a4 10 (by decide), L3]; split <;> rfl
  · intro i hi
    by_cases q : g.1 < 4
    · simp only [if_pos q] at hi a2 ⊢
      exact a2 i hi
    · simp only [if_neg q] at hi a2 ⊢
      exact a2 i hi
theorem evS_E {n p what v : Nat} {E E' : Nat → Vc} {g : Gk} (h : E v = E' v) : evS n p E what v g = evS n p E' what v g := by
  unfold evS; rw [h]
def Ev (S : Sto) (ec : Nat) (w v : Nat → Nat) : Prop := S.1 1 8 = nI ec ∧ ec ≤ 8 ∧ ∀ i, i < ec → S.1 14 i = nI (w i) ∧ S.1 15 i = nI (v i) ∧ evOK (w i) (v i)
theorem sp_afterEvents {s n p K gc ec : Nat} {w v : Nat → Nat} {S : Sto} {Q : Nat → Sto → Prop} (hs : s < 3) (N : Nw S n p K gc) (hE : El S p) (hV : Ev S ec w v)
    (hQ : ∀ S' g, g = evF n p (eS S) w v (gc, gS S, K) ec → SpOK S' 164 p (2 ^ n) g.2.2 (IdV p n s g.1 g.2.1) → S'.1 48 9 = nI g.1 → g.1 ≤ 4 → (∀ c, c < 48 ∨ (49 ≤ c ∧ c < 164) ∨ 205 < c → S'.1 c = S.1 c) → S'.2 = S.2 → Q 164 S') : wp_X1_afterEvents (nI s) S Q := by
  obtain ⟨N1, N2, N3, N4, N5, N6⟩ := id N
  obtain ⟨c0, c1, n2, n4, hp⟩ := id N1
  obtain ⟨V1, V2, V3⟩ := id hV
  have hw := pow_n n4
  have hp8 := hp.pos
  have h164 : s16 164 := by simp [s16]
  obtain ⟨k8, hl, -, -⟩ := h164.ok
  have l4 : ln 9 = 4 := by decide +kernel
  have keepN : ∀ T, fr4 S T → Nw T n p K gc := fun T f => N.keep (f.1 1 (by decide) (by omega) (by decide)) (fun i hi => f.1 _ (by omega) (by omega) (by omega))
  have keepE : ∀ T, fr4 S T → ∀ e, e < 6 → eS T e = eS S e := fun T f e he => by unfold eS; rw [f.1 _ (by omega) (by omega) (by omega)]
  have keepEl : ∀ T, fr4 S T → El T p := fun T f e he => by rw [keepE T f e he, f.1 _ (by omega) (by omega) (by omega)]; exact hE e he
  unfold wp_X1_afterEvents
  intro S1 e1
  -- the end
  have fin : ∀ T, fr4 S T → Lt T n p (evF n p (eS S) w v (gc, gS S, K) ec) → q_X1_afterEvents_78 (nI s) Q T := by
    intro T f L
    obtain ⟨L1, L2, L3, L4, L5⟩ := L
    have NT := keepN T f
    unfold q_X1_afterEvents_78
    refine sp_width NT.1.1 n4 ?_
    rw [NT.1.2.1, L3]
    refine sp_begin k8 hp (by omega) L4 (fun T1 A1 A2 A3 => ?_)
    have a48 : T1.1 48 = T.1 48 := A2 48 (by decide) (by omega)
    have a1 : T1.1 1 = T.1 1 := A2 1 (by decide) (by omega)
    rw [a48, L1]
    refine sp_complete (G := (evF n p (eS S) w v (gc, gS S, K) ec).2.1) h164 hs (NT.1.keep a1) A1 L2 (Or.inr rfl) (fun i hi => by rw [A2 _ (by omega) (by omega)]; exact L5 i hi) A1.zero (fun T2 B1 B2 => ?_)
    refine hQ T2 _ rfl B1 (by rw [B2.2.1 9 (by decide), a48]; exact L1) L2 (fun c hc => ?_) (by rw [B2.2.2, A3]; exact f.2.2)
    rw [B2.1 c (by unfold spC; omega) (by omega) (by omega), A2 c (by omega) (by omega)]
    exact f.1 c (by omega) (by omega) (by omega)
  -- the events
  have part2 : ∀ T, fr4 S T → Lt T n p (gc, gS S, K) → (∃ n_41, q_X1_afterEvents_41 (nI s) Q n_41 0 T) := by
    intro T f L
    refine loopE (fun m i (T : Sto) => q_X1_afterEvents_41 (nI s) Q m (nI i) T) (fun i T => fr4 S T ∧ Lt T n p (evF n p (eS S) w v (gc, gS S, K) i)) ec ?_ ?_ 0 T (by omega) ⟨f, L⟩
    · rintro T ⟨t1, t2⟩
      unfold q_X1_afterEvents_41
      rw [t1.1 1 (by decide) (by omega) (by decide), V1, nI_leI (by omega) (by omega)]
      exact ⟨fun _ => fin T t1 t2, fun q => by omega⟩
    · rintro i m T hi ⟨t1, t2⟩ ih
      obtain ⟨v1, v2, v3⟩ := V3 i hi
      unfold q_X1_afterEvents_41
      rw [t1.1 1 (by decide) (by omega) (by decide), t1.1 14 (by decide) (by omega) (by decide), t1.1 15 (by decide) (by omega) (by decide), V1, nI_leI (by omega) (by omega), show (8 : Int32) = nI 8 from rfl, nI_leI (by omega) (by omega), tn_nI (by omega), v1, v2]
      refine ⟨fun q => by omega, fun _ => ⟨fun q => by omega, fun _ => ⟨vp_nI (by omega) (by omega), vp_nI (by omega) (by omega), ?_⟩⟩⟩
      refine sp_happen (keepN T t1).1 v3 (keepEl T t1) t2 (fun T1 b1 b2 x3 e3 => ?_)
      rw [e3, nI_1]
      refine ih T1 ⟨t1.tr b2, ?_⟩
      rw [evS_E (keepE T t1 _ v3.2.1)] at b1
      exact b1
  -- the generators
  have st : ∀ T, S1 = T → T.1 48 9 = nI 0 ∧ (∀ c, c ≠ 48 → T.1 c = S.1 c) ∧ (∀ j, j ≠ 9 → T.1 48 j = S.1 48 j) ∧ T.2 = S.2 := by
    intro T eT
    rw [← eT]
    exact ⟨by rw [e1, uA_eq, upd_eq]; rfl, fun c a => by rw [e1, uA_ne a], fun j hj => by rw [e1, uA_eq, upd_ne _ _ hj], by rw [e1]; rfl⟩
  obtain ⟨s1, s2, s3, s4⟩ := st S1 rfl
  refine loopE (fun m i (T : Sto) => q_X1_afterEvents_7 (nI s) Q m (nI i) T) (fun i T => fr4 S T ∧ T.1 48 9 = nI i ∧ ∀ j, j < i → rd (T.1 (183 + 1 + j)) (2 ^ n) p (gS S j)) gc ?_ ?_ 0 S1 (by omega) ⟨⟨fun c a _ _ => s2 c a, fun j a _ => s3 j a, s4⟩, s1, fun j q => by omega⟩
  · rintro T ⟨t1, t2, t3⟩
    unfold q_X1_afterEvents_7
    rw [t1.1 1 (by decide) (by omega) (by decide), N4, nI_leI (by omega) (by omega), N2]
    refine ⟨fun _ S2 e2 => ?_, fun q => by omega⟩
    have o : ∀ c, c ≠ 48 → S2.1 c = T.1 c := fun c a => by rw [e2, uA_ne a]
    have e48 : S2.1 48 = upd (T.1 48) 10 (nI K) := by rw [e2, uA_eq]
    exact part2 S2 (t1.tr ⟨fun c a _ _ => o c a, fun j _ b => by rw [e48, upd_ne _ _ b], by rw [e2]; rfl⟩) ⟨by rw [e48, upd_ne _ _ (by decide)]; exact t2, N5, by rw [e48, upd_eq], N3, fun i hi => by rw [o _ (by omega)]; exact t3 i hi⟩
  · rintro i m T hi ⟨t1, t2, t3⟩ ih
    unfold q_X1_afterEvents_7
    rw [t1.1 1 (by decide) (by omega) (by decide), N4, nI_leI (by omega) (by omega), tn_nI (by omega)]
    refine ⟨fun q => by omega, fun _ => ⟨vp_nI (by omega) (by omega), ?_⟩⟩
    refine sp_comeLater n4 t2 (by omega) t3 (by omega) (ln_gen i (by omega)) (X := gS S i) (by rw [t1.1 _ (by omega) (by omega) (by omega)]; exact N6 i hi) (fun S' a1 a2 a3 a4 a5 x3 e3 => ?_)
    rw [e3, nI_1]
    rw [if_pos (by omega)] at a1
    rw [if_pos (by omega)] at a2
    refine ih S' ⟨t1.tr ⟨fun c a b _ => a3 c a b, fun j a _ => a4 j a, a5⟩, a1, fun j hj => ?_⟩
    have := a2 j hj
    rw [if_pos (by omega)] at this
    by_cases e : j = i
    · rw [if_pos e] at this; rw [e] at this ⊢; exact this
    · rw [if_neg e] at this; exact this
