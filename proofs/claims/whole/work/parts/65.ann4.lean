/-! the calls that ask of annihilators (4) -/
theorem op_annihilator {S : Sto} {b : Nat} (x y z : Int32) (H : Rel S b) : wp_X8_annihilator x y z S (fun r S1 => wp_X9_annihilator x y z S1 (fun r' S2 => r = r' ∧ Rel S2 b)) := by
  obtain ⟨n, p, K, gc, ec, bc, H⟩ := H.r0
  obtain ⟨h1, h2, h3, h4, h5, h6, h7⟩ := id H
  have N := h1.nw
  have n2 := N.1.2.2.1
  have n4 := N.1.2.2.2.1
  have hw := pow_n n4
  have hK := N.2.2.1
  have hok := okW_n n2 n4 hK
  have hcl := clf_ok hok
  have two : (1 : Int64) = iL (((2 : Nat) : Int) - 1) := by decide
  have four : (3 : Int64) = iL (((4 : Nat) : Int) - 1) := by decide
  unfold wp_X8_annihilator q_X8_annihilator_23 q_X8_annihilator_130 q_X8_annihilator_75
  have none : (¬ ((∃ s, s < 3 ∧ x = nI s) ∧ (∃ s, s < 2 ∧ y = nI s) ∧ ∃ j, j < 4 ∧ z = nI j)) → wp_X9_annihilator x y z S (fun r' S2 => (-1 : Int32) = r' ∧ Rel S2 b) := by
    intro hn
    unfold wp_X9_annihilator q_X9_annihilator_29
    refine sp_side9 (fun hs => ⟨fun z => absurd z (by decide), fun _ => ?_⟩) (fun _ => ⟨fun _ => ⟨rfl, H.rel⟩, fun z => absurd rfl z⟩)
    refine sp_inN (k := 2) (by omega) two (fun hk => ⟨fun z => absurd z (by decide), fun _ => ?_⟩) (fun _ => ⟨fun _ => ⟨rfl, H.rel⟩, fun z => absurd rfl z⟩)
    exact sp_inN (k := 4) (by omega) four (fun hj => absurd ⟨hs, hk, hj⟩ hn) (fun _ => ⟨fun z => absurd rfl z, fun _ => ⟨rfl, H.rel⟩⟩)
  refine sp_side8 (fun ⟨s, hs, e⟩ => ⟨fun z => absurd z (by decide), fun _ => ?_⟩) (fun h0 => ⟨fun _ => none (fun q => h0 q.1), fun z => absurd rfl z⟩)
  subst e
  refine sp_hand8 (fun ⟨hd, hh, e⟩ => ⟨fun z => absurd z (by decide), fun _ => ?_⟩) (fun h0 => ⟨fun _ => none (fun q => h0 q.2.1), fun z => absurd rfl z⟩)
  subst e
  have hz4 : (∃ j, j < 4 ∧ z = nI j) ↔ (0 ≤ z.toInt ∧ z.toInt ≤ 3) := by
    have := ex_iff (x := z) (k := 4) (by omega)
    rw [this]; exact Iff.rfl
  refine ⟨fun q => none (fun u => ?_), fun q => ⟨fun q2 => ?_, fun q2 => none (fun u => ?_)⟩⟩
  · have := hz4.mp u.2.2
    rw [Int32.lt_iff_toInt_lt] at q
    have q' : z.toInt < 0 := q
    omega
  · rw [Int32.lt_iff_toInt_lt] at q
    rw [Int32.le_iff_toInt_le] at q2
    have q' : ¬ z.toInt < 0 := q
    have q2' : z.toInt ≤ 3 := q2
    obtain ⟨j, hj, e⟩ := hz4.mpr ⟨by omega, q2'⟩
    subst e
    refine sp_ann8 hs hh H (fun S1 P1 R1 hkd => ?_)
    have pre : ∀ (Sx : Sto) (V : Vc → Prop) (Q : Int32 → Sto → Prop), R0 Sx b n p K gc ec bc → V = IdV p n s gc (gS Sx) → (∀ S' T rk L R rk0 L0 Rw0, MB T p (2 ^ n) K V rk0 L0 Rw0 → Kpt S' 376 (2 ^ n) K rk0 L0 Rw0 → S'.1 353 36 = nI rk0 → MB S' p (2 ^ n) K (AnV p n hd V) rk L R → Kpt S' 374 (2 ^ n) K rk L R → S'.1 353 35 = nI rk → R0 S' b n p K gc ec bc → ((¬ nI j = 0 → ((¬ nI j = 3 → ∀ x4 : Int32, x4 = S'.1 353 35 → (∃ m, q_X9_annihilator_89 (nI s) (nI hd) (nI j) Q m x4 0 S')) ∧ (nI j = 3 → wp_X9_firstLead S' (fun r S'' => Q r S'')))) ∧ (nI j = 0 → Q (S'.1 353 35) S'))) → wp_X9_annihilator (nI s) (nI hd) (nI j) Sx Q := by
      intro Sx V Q Rx hV hQ
      unfold wp_X9_annihilator
      refine sp_side9 (fun _ => ⟨fun z => absurd z (by decide), fun _ => ?_⟩) (fun h0 => absurd ⟨s, hs, rfl⟩ h0)
      refine sp_inN (k := 2) (by omega) two (fun _ => ⟨fun z => absurd z (by decide), fun _ => ?_⟩) (fun h0 => absurd ⟨hd, hh, rfl⟩ h0)
      refine sp_inN (k := 4) (by omega) four (fun _ => ⟨fun _ => ?_, fun z => absurd z (by decide)⟩) (fun h0 => absurd ⟨j, hj, rfl⟩ h0)
      rw [hV] at hQ
      exact sp_ann9 hs hh Rx hQ
    have tail : ∀ (Sx : Sto) (V : Vc → Prop) (Q : Int32 → Sto → Prop), R0 Sx b n p K gc ec bc → V = IdV p n s gc (gS Sx) → ¬ j = 0 → ¬ j = 3 → (∀ S' T rk L R rk0 L0 Rw0, MB T p (2 ^ n) K V rk0 L0 Rw0 → Kpt S' 376 (2 ^ n) K rk0 L0 Rw0 → S'.1 353 36 = nI rk0 → MB S' p (2 ^ n) K (AnV p n (1 - hd) (AnV p n hd V)) rk L R → S'.1 353 35 = nI rk → R0 S' b n p K gc ec bc → ((¬ nI j = 1 → ∃ m, q_X9_annihilator_145 (nI s) (nI hd) (nI j) Q m 0 S') ∧ (nI j = 1 → Q (S'.1 353 35) S'))) → wp_X9_annihilator (nI s) (nI hd) (nI j) Sx Q := by
      intro Sx V Q Rx hV j0 j3 hQ
      refine pre Sx V Q Rx hV (fun S' T rk L R rk0 L0 Rw0 b1 b2 b3 b4 b5 b6 R2 => ⟨fun _ => ⟨fun _ x4 e4 => ?_, fun q => ?_⟩, fun q => ?_⟩)
      · have hrk := b4.rk
        rw [e4, b6]
        refine loopE (fun m i (Z : Sto) => q_X9_annihilator_89 (nI s) (nI hd) (nI j) Q m (nI rk) (nI i) Z) (fun i Z => Z = setA S' 379 (fl i (S'.1 374) (S'.1 379))) (16 * rk) ?_ ?_ 0 S' (Nat.zero_le _) (by rw [fl_0, setA_self])
        · intro Z hZ
          unfold q_X9_annihilator_89
          rw [show (16 : Int32) = nI 16 from rfl, pk_mul, nI_leI (by omega) (by omega)]
          refine ⟨fun _ => ?_, fun q => absurd (Nat.le_refl _) q⟩
          have z1 : frs [379] S' Z := by rw [hZ]; exact frs.set (by simp)
          have RZ := R2.goM (z1.M (by simp)) (by simp)
          rw [show (1 - nI hd : Int32) = nI (1 - hd) by
            have : hd = 0 ∨ hd = 1 := by omega
            rcases this with e | e <;> rw [e] <;> rfl]
          refine sp_annihilated (Y := rwT S' 374) (RZ.1.cm RZ.2.1) (Or.inr rfl) (by omega) (by omega) (fun i hi a ha => ?_) (fun S3 rk3 L3 R3 d1 d2 d3 d4 => ?_)
          · rw [hZ, setA_eq, fl_lt _ _ (by omega)]
            exact Kpt_rd b4 n4 b5 hi a ha
          · exact hQ S3 T rk3 L3 R3 rk0 L0 Rw0 b1 (fun c hc hd a ha => by rw [d4.1 376 (by decide) (by simp [lAn]), z1.1 376 (by simp)]; exact b2 c hc hd a ha) (by rw [d4.2.1 36 (Or.inr rfl), z1.1 353 (by simp), b3]) (d1.cong (fun v => Kpt_AnR b4 n4 b5 v)) d3 (RZ.goM d4 (by simp [lAn]))
        · intro i m Z hi hZ ih
          unfold q_X9_annihilator_89
          have z1 : frs [379] S' Z := by rw [hZ]; exact frs.set (by simp)
          rw [show (16 : Int32) = nI 16 from rfl, pk_mul, nI_leI (by omega) (by omega), tn_nI (i := i) (by omega), z1.1 374 (by simp)]
          refine ⟨fun q => by omega, fun _ => ⟨vp_nI (by omega) (by omega), vp_nI (by omega) (by omega), fun S4 e4 x2 e2 => ?_⟩⟩
          rw [e2, nI_1]
          refine ih S4 ?_
          rw [e4, hZ]
          exact fl_step S' 379 i _ _
      · rw [show (3 : Int32) = nI 3 from rfl, nI_eq (by omega) (by omega)] at q
        exact absurd q j3
      · rw [show (0 : Int32) = nI 0 from rfl, nI_eq (by omega) (by omega)] at q
        exact absurd q j0
    rw [show (0 : Int32) = nI 0 from rfl, show (3 : Int32) = nI 3 from rfl, show (1 : Int32) = nI 1 from rfl, nI_eq (by omega) (by omega), nI_eq (by omega) (by omega), nI_eq (by omega) (by omega)]
    refine ⟨fun j0 => ⟨fun j3 => ?_, fun j3 => ?_⟩, fun j0 => ?_⟩
    · have k126 : s16 126 := by unfold s16; omega
      have k145 : s16 145 := by unfold s16; omega
      unfold wp_X1_annihilatorAgain
      rw [show (1 - nI hd : Int32) = nI (1 - hd) by
        have : hd = 0 ∨ hd = 1 := by omega
        rcases this with e | e <;> rw [e] <;> rfl]
      refine sp_annihilate k126 (by omega) (Or.inr rfl) (by omega) (by omega) R1.1.nw.1 R1.1.nw.2.1 hK P1 (fun S2 P2 f2 hk2 => ?_)
      have f2' := f2.scC (Or.inr rfl)
      have R2 := R1.goC f2'.1 f2'.2
      have e2 := R1.idv (S' := S2) (fun c hc => f2'.1.1 c (by omega)) s
      refine ⟨fun j1 => ?_, fun j1 => ?_⟩
      · refine sp_ofSide hs R2.1.nw R2.2.2.2.2.2.1 (fun S3 N3 I3 P3 f3 hk3 => ?_)
        have R3 := R2.side hs f3 I3
        have P3' := SpOK.g N3.2.2.2.2.1 (fun i hi => (f3.scC hs).1 _ (by omega)) P3
        have e3 := R2.idv (S' := S3) (fun c hc => (f3.scC hs).1 c (by omega)) s
        have ls := sps s hs
        have l145 : ln (145 + 1) = 16 := by decide +kernel
        have P2' := P2.keep (S' := S3) (fun c hc => f3.1 c (by unfold spC at hc ⊢; omega) (by unfold spC at hc; omega) (by unfold spC at hc; omega) (by unfold spC at hc; omega))
        have fin : ∀ (S4 : Sto) (a : Int32), (∀ c, c ≠ 205 → S4.1 c = S3.1 c) → S4.2 = S3.2 → (((∀ v, IdV p n s gc (gS S3) v → AnV p n (1 - hd) (AnV p n hd (IdV p n s gc (gS S1))) v) ∧ a = 1) ∨ (¬ (∀ v, IdV p n s gc (gS S3) v → AnV p n (1 - hd) (AnV p n hd (IdV p n s gc (gS S1))) v) ∧ a = 0)) → wp_X9_annihilator (nI s) (nI hd) (nI j) S4 (fun r' S2 => a = r' ∧ Rel S2 b) := by
          intro S4 a o1 o2 ha
          have R4 : R0 S4 b n p K gc ec bc := R3.goC ⟨fun c hc => o1 c (by omega), o2⟩ (fun c h1 h2 => o1 c (by omega))
          have e4 := R3.idv (S' := S4) (fun c hc => o1 c (by omega)) s
          rw [e3, e2] at ha
          refine tail S4 (IdV p n s gc (gS S1)) _ R4 (by rw [e4, e3, e2]) j0 j3 (fun S5 T rk L R rk0 L0 Rw0 b1 b2 b3 b4 b5 R5 => ⟨fun _ => ?_, fun q => ?_⟩)
          · refine sp_lies9 R5 b1 b2 b3 b4 (fun S6 hall R6 => ⟨?_, R6.rel⟩) (fun S6 hall R6 => ⟨?_, R6.rel⟩)
            · rcases ha with ⟨-, q⟩ | ⟨q, -⟩
              · exact q
              · exact absurd hall q
            · rcases ha with ⟨q, -⟩ | ⟨-, q⟩
              · exact absurd q hall
              · exact q
          · rw [show (1 : Int32) = nI 1 from rfl, nI_eq (by omega) (by omega)] at q
            exact absurd q j1
        refine sp_liesIn (sps16 hs) k145 n4 P3' P2' (fun S4 hall o1 o2 => ⟨fun q => absurd q (by decide), fun _ => fin S4 _ o1 o2 (Or.inl ⟨hall, rfl⟩)⟩) (fun S4 hall o1 o2 => ⟨fun _ => fin S4 _ o1 o2 (Or.inr ⟨hall, rfl⟩), fun q => absurd rfl q⟩)
      · refine tail S2 (IdV p n s gc (gS S1)) _ R2 e2.symm j0 j3 (fun S3 T rk L R rk0 L0 Rw0 b1 b2 b3 b4 b5 R3 => ⟨fun q => absurd (by rw [j1]; rfl) q, fun _ => ⟨?_, R3.rel⟩⟩)
        rw [b5]; exact (link P2 b4).2.2
    · -- the first lead
      have ref : ∀ a : Int32, ((∃ c, c < 2 ^ n ∧ hdS S1 126 (2 ^ n) (clf K (2 ^ n) c) ∧ (0 : Int32) = nI (npM K (2 ^ n) (hdS S1 126 (2 ^ n)) c) ∧ a = nI (clf K (2 ^ n) c)) ∨ ((∀ c, c < 2 ^ n → hdS S1 126 (2 ^ n) (clf K (2 ^ n) c) → ¬ (0 : Int32) = nI (npM K (2 ^ n) (hdS S1 126 (2 ^ n)) c)) ∧ a = -5)) → wp_X9_annihilator (nI s) (nI hd) (nI j) S1 (fun r' S2 => a = r' ∧ Rel S2 b) := by
        intro a ha
        refine pre S1 _ _ R1 rfl (fun S2 T rk L R rk0 L0 Rw0 b1 b2 b3 b4 b5 b6 R2 => ⟨fun _ => ⟨fun q => absurd (by rw [j3]; rfl) q, fun _ => ?_⟩, fun q => ?_⟩)
        · exact sp_first2 P1 b4 (by omega) R2.rel ha
        · rw [show (0 : Int32) = nI 0 from rfl, nI_eq (by omega) (by omega)] at q
          exact absurd q j0
      refine sp_leadNumber' hok P1 (fun c hc hdc hi => ⟨fun _ => ref _ (Or.inl ⟨c, hc, hdc, hi, rfl⟩), fun z => absurd (nI_pos' (by have := (hcl c hc).1; omega)) z⟩) (fun hn => ⟨fun z => absurd z (by decide), fun _ => ref _ (Or.inr ⟨hn, rfl⟩)⟩)
    · refine pre S1 _ _ R1 rfl (fun S2 T rk L R rk0 L0 Rw0 b1 b2 b3 b4 b5 b6 R2 => ⟨fun q => absurd (by rw [j0]; rfl) q, fun _ => ⟨?_, R2.rel⟩⟩)
      rw [b6]; exact (link P1 b4).2.2
  · have := hz4.mp u.2.2
    rw [Int32.le_iff_toInt_le] at q2
    exact q2 this.2
