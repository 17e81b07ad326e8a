/-! further methods of Span -/
theorem upd_eq (f : Nat → Int32) (k : Nat) (x : Int32) : upd f k x k = x := if_pos rfl
theorem upd_ne (f : Nat → Int32) {k j : Nat} (x : Int32) (h : j ≠ k) : upd f k x j = f j := if_neg h
theorem sp_begin {h p w K : Nat} {S : Sto} {Q : Sto → Prop} (k8 : kd h = 8) (hp : isP p) (hw : w ≤ ln (h + 1)) (hK : K < 2)
    (hQ : ∀ S' : Sto, SpOK S' h p w K (V0 p w) → (∀ k, k ≠ h → k ≠ h + 2 + ln (h + 1) → S'.1 k = S.1 k) → S'.2 = S.2 → Q S') : wp_X5_begin h (nI w) (nI p) (nI K) S Q := by
  have hp8 := hp.pos
  have hln := sp_ln k8
  have hhl := sp_heldln k8
  unfold wp_X5_begin
  rw [hhl]
  refine sp_min (by omega) (by omega) ?_
  intro S1 e1
  refine sp_max (b := 2) (by omega) (by omega) ?_
  intro S2 e2 S3 e3 S4 e4
  rw [show min w (ln (h + 1)) = w by omega] at e1
  rw [show max p 2 = p by omega] at e2
  have o : ∀ k, k ≠ h → S4.1 k = S.1 k := fun k hk => by rw [e4, uA_ne hk, e3, uA_ne hk, e2, uA_ne hk, e1, uA_ne hk]
  have w3 : S4.1 h 3 = nI w := by rw [e4, uA_eq, upd_ne _ _ (by decide), e3, uA_eq, upd_ne _ _ (by decide), e2, uA_eq, upd_ne _ _ (by decide), e1, uA_eq, upd_eq]
  have w4 : S4.1 h 4 = nI p := by rw [e4, uA_eq, upd_ne _ _ (by decide), e3, uA_eq, upd_ne _ _ (by decide), e2, uA_eq, upd_eq]
  have w5 : S4.1 h 5 = nI K := by rw [e4, uA_eq, upd_ne _ _ (by decide), e3, uA_eq, upd_eq]
  have w2 : S4.1 h 2 = nI 0 := by rw [e4, uA_eq, upd_eq]; rfl
  have s2 : S4.2 = S.2 := by rw [e4, e3, e2, e1]; rfl
  refine loopE (fun n i (T : Sto) => q_X5_begin_35 h (nI w) (nI p) (nI K) Q n (nI i) T) (fun i T => T = setA S4 (h + 2 + ln (h + 1)) (fl i (fun _ => 0) (S4.1 (h + 2 + ln (h + 1))))) w ?_ ?_ 0 S4 (by omega) (by rw [fl_0, setA_self])
  · intro T hT
    unfold q_X5_begin_35
    have th : T.1 h = S4.1 h := by rw [hT, setA_ne _ _ (by omega)]
    have td : T.1 (h + 2 + ln (h + 1)) = fl w (fun _ => 0) (S4.1 (h + 2 + ln (h + 1))) := by rw [hT, setA_eq]
    rw [th, w3, nI_leI (by omega) (by omega)]
    refine ⟨fun _ => hQ T ⟨⟨k8, hp, hw, hK⟩, ⟨?_, by rw [th]; exact w3, by rw [th]; exact w4, by rw [th]; exact w5⟩, ?_, V0_sub p w⟩ (fun k a b => by rw [hT, setA_ne _ _ b, o k a]) (by rw [hT]; exact s2), fun c => by omega⟩
    · rw [th, w2, td, cz_zero.mpr (fun i hi => fl_lt _ _ hi)]
    · refine (RB.none (R := rwS T h)).eqv (V0_sub p w) (fun l => ?_) (fun l i q => q.elim)
      refine ⟨fun q => q.elim, fun q => q.2 ?_⟩
      rw [td, fl_lt _ _ q.1]
  · intro i n T hi hT ih
    unfold q_X5_begin_35
    have th : T.1 h = S4.1 h := by rw [hT, setA_ne _ _ (by omega)]
    rw [th, w3, nI_leI (by omega) (by omega), hhl, tn_nI (by omega), vb0]
    refine ⟨fun c => by omega, fun _ => ⟨vp_nI (by omega) (by omega), fun S5 e5 z ez => ?_⟩⟩
    rw [ez, nI_1]
    refine ih S5 ?_
    rw [e5, hT]
    exact fl_step' S4 _ i _ _ rfl
theorem narb0 : narrow .boolean (.int 0) = .int 0 := by decide
theorem narb1 : narrow .boolean (.int 1) = .int 1 := by decide
theorem sp_holds {h w l : Nat} {S : Sto} {Q : Int32 → Sto → Prop} (k8 : kd h = 8) (hw : w ≤ ln (h + 1)) (f3 : S.1 h 3 = nI w) (hl : l < 70000) (h1 : hdS S h w l → Q 1 S) (h0 : ¬ hdS S h w l → Q 0 S) : wp_X5_holds h (nI l) S Q := by
  have hln := sp_ln k8
  have hhl := sp_heldln k8
  unfold wp_X5_holds q_X5_holds_25 q_X5_holds_26
  rw [f3, nI_leI (by omega) (by omega), hhl, tn_nI (by omega)]
  refine ⟨fun c => absurd c (nI_pos (by omega)), fun _ => ⟨fun c => ⟨narb0, h0 (fun q => by have := q.1; omega)⟩, fun c => ⟨vp_nI (by omega) (by omega), fun z => ⟨narb0, h0 (fun q => q.2 z)⟩, fun z => ⟨narb1, h1 ⟨by omega, z⟩⟩⟩⟩⟩
/-! how many leads stand ahead -/
noncomputable def isB (P : Prop) : Bool := @decide P (Classical.propDecidable P)
theorem isB_t {P : Prop} : isB P = true ↔ P := by unfold isB; simp
theorem isB_f {P : Prop} : isB P = false ↔ ¬ P := by unfold isB; simp
/-- how many of the places ahead of the J-th in order lead -/
noncomputable def np (K : Nat) (hd : Nat → Prop) (J : Nat) : Nat := ctB (fun j => isB (hd (plc K j))) J
theorem sp_leadNumber {h p w K : Nat} {V : Vc → Prop} {i : Int32} {S : Sto} {Q : Int32 → Sto → Prop} (H : SpOK S h p w K V)
    (h1 : ∀ j, hdS S h w (plc K j) → i = nI (np K (hdS S h w) j) → Q (nI (plc K j)) S) (h2 : (∀ j, hdS S h w (plc K j) → ¬ i = nI (np K (hdS S h w) j)) → Q (-1) S) : wp_X5_leadNumber h i S Q := by
  obtain ⟨⟨k8, hp, hwl, hK⟩, ⟨f2, f3, f4, f5⟩, hB, hV⟩ := id H
  have hln := sp_ln k8
  unfold wp_X5_leadNumber
  refine loopE (fun n j (c : Int32) => q_X5_leadNumber_4 h i Q n c (nI j) S) (fun j c => c = nI (np K (hdS S h w) j) ∧ ∀ k, k < j → hdS S h w (plc K k) → ¬ i = nI (np K (hdS S h w) k)) (max w 16) ?_ ?_ 0 0 (by omega) ⟨rfl, fun k q => by omega⟩
  · rintro c ⟨c1, c2⟩
    unfold q_X5_leadNumber_4
    rw [f3, nI_ltI (by omega) (by omega), show (16 : Int32) = nI 16 from rfl, nI_leI (by omega) (by omega)]
    refine ⟨fun q => by omega, fun _ => ⟨fun _ => h2 (fun j hj => c2 j ?_ hj), fun q => by omega⟩⟩
    have := ps_lt (K := K) (a := plc K j) (M := max w 16) (by have := hj.1; omega) (by omega)
    rwa [ps_plc] at this
  · rintro j n c hj ⟨c1, c2⟩ ih
    have hle := ctB_le (fun j => isB (hdS S h w (plc K j))) j
    have body : q_X5_leadNumber_18 h i (fun y2 y3 S => q_X5_leadNumber_4 h i Q n y2 y3 S) Q c (nI j) S := by
      unfold q_X5_leadNumber_18
      rw [f5]
      refine sp_placeInOrder (by omega) hK ?_
      have hpl := plc_lt (K := K) hj (by omega)
      refine sp_holds k8 hwl f3 (by omega) (fun q => ⟨fun z => absurd z (by decide), fun _ => ⟨fun z y ey x3 ex => ?_, fun z => h1 j q (by rw [← z, c1])⟩⟩) (fun q => ⟨fun _ x3 ex => ?_, fun z => absurd rfl z⟩)
      · rw [ex, nI_1]
        refine ih y ⟨?_, fun k q2 hk => ?_⟩
        · rw [ey, c1, nI_1, np, np, ctB, if_pos (isB_t.mpr q)]
        · rcases Nat.lt_or_ge k j with q3 | q3
          · exact c2 k q3 hk
          · rw [show k = j by omega, ← c1]; exact fun e => z e.symm
      · rw [ex, nI_1]
        refine ih c ⟨?_, fun k q2 hk => ?_⟩
        · rw [c1, np, np, ctB, if_neg (by rw [isB_t]; exact q), Nat.add_zero]
        · rcases Nat.lt_or_ge k j with q3 | q3
          · exact c2 k q3 hk
          · exact absurd (by rw [← show k = j by omega]; exact hk) q
    unfold q_X5_leadNumber_4
    refine ⟨fun _ => body, fun z => ⟨fun z2 => ?_, fun _ => body⟩⟩
    rw [f3, nI_ltI (by omega) (by omega)] at z
    rw [show (16 : Int32) = nI 16 from rfl, nI_leI (by omega) (by omega)] at z2
    omega
theorem sp_leadsOfDegree {h p w K d : Nat} {V : Vc → Prop} {S : Sto} {Q : Int32 → Sto → Prop} (H : SpOK S h p w K V) (hw : w ≤ 64) (hd : d < 100) (hQ : Q (nI (ctB (fun l => isB (hdS S h w l ∧ bcN l = d)) w)) S) : wp_X5_leadsOfDegree h (nI d) S Q := by
  obtain ⟨⟨k8, hp, hwl, hK⟩, ⟨f2, f3, f4, f5⟩, hB, hV⟩ := id H
  have hln := sp_ln k8
  have hhl := sp_heldln k8
  unfold wp_X5_leadsOfDegree
  refine loopE (fun n j (c : Int32) => q_X5_leadsOfDegree_4 h (nI d) Q n c (nI j) S) (fun j c => c = nI (ctB (fun l => isB (hdS S h w l ∧ bcN l = d)) j)) w ?_ ?_ 0 0 (by omega) rfl
  · intro c hc
    unfold q_X5_leadsOfDegree_4
    rw [f3, nI_leI (by omega) (by omega)]
    exact ⟨fun _ => hc ▸ hQ, fun c => by omega⟩
  · intro i n c hi hc ih
    unfold q_X5_leadsOfDegree_4 q_X5_leadsOfDegree_34 q_X5_leadsOfDegree_35
    rw [f3, nI_leI (by omega) (by omega), hhl, tn_nI (by omega)]
    have hle := ctB_le (fun l => isB (hdS S h w l ∧ bcN l = d)) i
    have no : ¬ (hdS S h w i ∧ bcN i = d) → ∀ x2, x2 = c + 0 → ∀ x3, x3 = nI i + 1 → q_X5_leadsOfDegree_4 h (nI d) Q n x2 x3 S := fun q x2 e2 x3 e3 => by
      rw [e3, nI_1]
      refine ih x2 ?_
      rw [e2, hc, show (0 : Int32) = nI 0 from rfl, nI_add, ctB, if_neg (by rw [isB_t]; exact q)]
    refine ⟨fun c => by omega, fun _ => ⟨vp_nI (by omega) (by omega), fun z => no (fun q => q.1.2 z), fun z => sp_bitCount (by omega) ?_⟩⟩
    have hb := bcN_lt i
    rw [nI_eq (by omega) (by omega)]
    refine ⟨fun q => no (fun q2 => q q2.2), fun q x2 e2 x3 e3 => ?_⟩
    rw [e3, nI_1]
    refine ih x2 ?_
    rw [e2, hc, nI_1, ctB, if_pos (isB_t.mpr ⟨⟨hi, z⟩, q⟩)]
/-- the solution of the equations R with 1 at the place f and 0 at all others that are no leads -/
noncomputable def slv (p : Nat) (hd : Nat → Prop) (R : Nat → Vc) (f : Nat) : Vc := fun i => if i = f then 1 else if isB (hd i) then (-(R i f)) % p else 0
theorem sp_solve {h p w K f t : Nat} {V : Vc → Prop} {S : Sto} {Q : Int32 → Sto → Prop} (H : SpOK S h p w K V) (hf : f < 70000) (hwt : w ≤ ln t) (hlt : ln t ≤ 70000) (ht : ¬ spC h t)
    (h1 : ¬ hdS S h w f → f < w → ∀ F, rd F w p (slv p (hdS S h w) (rwS S h) f) → (∀ j, w ≤ j → F j = S.1 t j) → Q 1 (setA S t F)) (h0 : (hdS S h w f ∨ w ≤ f) → Q 0 S) : wp_X5_solve h (nI f) t S Q := by
  obtain ⟨⟨k8, hp, hwl, hK⟩, ⟨f2, f3, f4, f5⟩, hB, hV⟩ := id H
  have hp8 := hp.pos
  have hln := sp_ln k8
  have hhl := sp_heldln k8
  have hth : t ≠ h := fun e => ht ⟨by omega, by omega⟩
  have htd : t ≠ h + 2 + ln (h + 1) := fun e => ht ⟨by omega, by omega⟩
  unfold wp_X5_solve q_X5_solve_21
  rw [f3, nI_leI (by omega) (by omega), hhl, tn_nI (by omega)]
  refine ⟨fun c => absurd c (nI_pos (by omega)), fun _ => ⟨fun c => h0 (Or.inr c), fun c => ⟨vp_nI (by omega) (by omega), fun z => ?_, fun z => h0 (Or.inl ⟨by omega, z⟩)⟩⟩⟩
  have hn : ¬ hdS S h w f := fun q => q.2 z
  obtain ⟨G, hG⟩ : ∃ G : Nat → Int, G = fun i => if isB (hdS S h w i) then (-(rwS S h i f)) % p else 0 := ⟨_, rfl⟩
  refine loopE (fun n i (T : Sto) => q_X5_solve_25 h (nI f) t Q n (nI i) T) (fun i T => T = setA S t (fl i (fun i => iI (G i)) (S.1 t))) w ?_ ?_ 0 S (by omega) (by rw [fl_0, setA_self])
  · intro T hT
    unfold q_X5_solve_25
    have th : T.1 h = S.1 h := by rw [hT, setA_ne _ _ hth.symm]
    rw [th, f3, nI_leI (by omega) (by omega), tn_nI (by omega)]
    refine ⟨fun _ => ⟨vp_nI (by omega) hlt, fun S1 e1 => ?_⟩, fun c => by omega⟩
    rw [e1, hT, uA_setA, setA_setA, setA_eq]
    refine h1 hn (by omega) _ (fun i hi => ?_) (fun j hj => by rw [upd_ne _ _ (by omega), fl_ge _ _ hj])
    unfold slv
    by_cases e : i = f
    · rw [e, upd_eq, if_pos rfl]; exact ⟨rfl, by omega, by omega⟩
    · rw [upd_ne _ _ e, fl_lt _ _ hi, if_neg e, hG]
      refine ⟨rfl, ?_⟩
      split
      · exact ⟨Int.emod_nonneg _ (by omega), Int.emod_lt_of_pos _ (by omega)⟩
      · omega
  · intro i n T hi hT ih
    unfold q_X5_solve_25 q_X5_solve_64
    have th : T.1 h = S.1 h := by rw [hT, setA_ne _ _ hth.symm]
    have td : T.1 (h + 2 + ln (h + 1)) = S.1 (h + 2 + ln (h + 1)) := by rw [hT, setA_ne _ _ htd.symm]
    have last : ∀ x : Int32, x = iI (G i) → vp_in (nI i) (ln t) ∧ ∀ S_2 : Sto, S_2 = uA T t i x → ∀ x3 : Int32, x3 = nI i + 1 → q_X5_solve_25 h (nI f) t Q n x3 S_2 := by
      intro x hx
      refine ⟨vp_nI (by omega) hlt, fun S1 e1 z ez => ?_⟩
      rw [ez, nI_1]
      refine ih S1 ?_
      rw [e1, hT]
      exact fl_step' S t i _ _ hx
    rw [th, td, f3, f4, nI_leI (by omega) (by omega), hhl, tn_nI (by omega), tn_nI (by omega)]
    refine ⟨fun c => by omega, fun _ => ⟨vp_nI (by omega) (by omega), fun z2 => ?_, fun z2 => ?_⟩⟩
    · exact last 0 (by rw [hG]; simp [isB_f.mpr (fun q : hdS S h w i => q.2 z2)]; rfl)
    · have hdi : hdS S h w i := ⟨hi, z2⟩
      have hli := sp_rowln k8 (show i < ln (h + 1) by omega)
      have tr : T.1 (h + 1 + 1 + i) = S.1 (h + 1 + 1 + i) := by rw [hT, setA_ne _ _ (fun e => ht ⟨by omega, by omega⟩)]
      have hri := H.row hdi f (by omega)
      refine ⟨vp_nI (by omega) (by omega), vp_nI (by omega) (by omega), ?_⟩
      rw [tr, hri.1, ← iI_neg]
      refine sp_modulo ⟨by omega, by omega⟩ (by omega) (by omega) ?_
      exact last _ (by rw [hG]; simp [isB_t.mpr hdi])
