/-! the call that books -/
theorem div100 {k : Nat} (hk : k < 2 ^ 31) : nI k / 100 = nI (k / 100) := by
  rw [show (100 : Int32) = iI 100 from rfl, nI_iI, nI_iI]
  have h1 : iI (k : Int) / iI 100 = iI ((k : Int).tdiv 100) := by
    refine (Int32.ofInt_tdiv ?_ ?_ ?_ ?_).symm
    all_goals first | (show (-2147483648 : Int) ≤ _; omega) | (show _ ≤ (2147483647 : Int); omega)
  rw [h1, Int.tdiv_eq_ediv_of_nonneg (by omega)]
  rfl
theorem sp_spot8' {x : Int32} {n : Nat} {S : Sto} {Q : Int32 → Sto → Prop} (hn : S.1 1 0 = nI n) (h4 : n ≤ 4) (h1 : ∀ s, s < 600 → x = nI s → s % 100 < 2 ^ n → Q 1 S) (h0 : (¬ ∃ s, s < 600 ∧ x = nI s ∧ s % 100 < 2 ^ n) → Q 0 S) : wp_X4_hasSpot x S Q := by
  by_cases hx : ∃ s, s < 600 ∧ x = nI s
  · obtain ⟨s, hs, e⟩ := hx
    subst e
    refine sp_spot8 hs hn h4 (fun q => h1 s hs rfl q) (fun q => h0 (fun ⟨s', a, b, c⟩ => ?_))
    rw [nI_eq (by omega) (by omega)] at b
    rw [b] at q; exact q c
  · have n0 : Q 0 S := h0 (fun ⟨s, a, b, _⟩ => hx ⟨s, a, b⟩)
    unfold wp_X4_hasSpot q_X4_hasSpot_30 q_X4_hasSpot_31
    refine ⟨fun _ => ⟨narb0, n0⟩, fun q => ?_⟩
    obtain ⟨k, hk, rfl⟩ := nI_of q
    rw [div100 hk]
    refine sp_elem8 (fun ⟨s, hs, e⟩ => ?_) (fun _ => ⟨fun _ => ⟨narb0, n0⟩, fun z => absurd rfl z⟩)
    rw [nI_eq (by omega) (by omega)] at e
    exact absurd ⟨k, by omega, rfl⟩ hx
theorem sp_spot9 {x : Int32} {n : Nat} {S : Sto} {Q : Int32 → Sto → Prop} (h3 : S.1 353 3 = nI (2 ^ n)) (h4 : n ≤ 4) (h1 : ∀ s, s < 600 → x = nI s → s % 100 < 2 ^ n → Q 1 S) (h0 : (¬ ∃ s, s < 600 ∧ x = nI s ∧ s % 100 < 2 ^ n) → Q 0 S) : wp_X9_isSpot x S Q := by
  have hw := pow_n h4
  unfold wp_X9_isSpot q_X9_isSpot_27 q_X9_isSpot_28
  refine sp_inN (k := 600) (by omega) (by decide) (fun ⟨s, hs, e⟩ => ⟨fun z => absurd z (by decide), fun _ => ?_⟩) (fun hx => ⟨fun _ => ⟨narb0, h0 (fun ⟨s, a, b, _⟩ => hx ⟨s, a, b⟩)⟩, fun z => absurd rfl z⟩)
  subst e
  rw [(spot_N s hs).2]
  refine sp_place9 h3 hw.1 (fun ⟨j, hj, e⟩ => ⟨fun z => absurd z (by decide), fun _ => ⟨narb1, h1 s hs rfl ?_⟩⟩) (fun hn => ⟨fun _ => ⟨narb0, h0 (fun ⟨s', a, b, c⟩ => hn ⟨s % 100, ?_, rfl⟩)⟩, fun z => absurd rfl z⟩)
  · rw [nI_eq (by omega) (by omega)] at e
    rw [e]; exact hj
  · rw [nI_eq (by omega) (by omega)] at b
    rw [b]; exact c
theorem op_book {S : Sto} {b : Nat} (x y : Int32) (hb : b < 1000000) (H : Rel S b) : wp_X8_book x y S (fun r S1 => wp_X9_book x y S1 (fun r' S2 => r = r' ∧ Rel S2 b)) := by
  obtain ⟨n, p, K, gc, ec, bc, H⟩ := H.r0
  obtain ⟨ed, hed, hC, hR, hO, hE⟩ := H.abs
  obtain ⟨⟨e8, b8⟩, ⟨c8, c11, c9, c12⟩, hev, hbk⟩ := id hE
  have n4 := hO.1.2.1
  have seven : (6 : Int64) = iL (((7 : Nat) : Int) - 1) := by decide
  unfold wp_X8_book q_X8_book_38 q_X8_book_65
  refine ⟨fun xne => ?_, fun xe S8 e8' => ?_⟩
  · refine sp_spot8' hC.1 n4 (fun s hs e hp => ⟨fun _ => ?_, fun z => absurd z (by decide)⟩) (fun hn => ⟨fun z => absurd rfl z, fun _ => ?_⟩)
    · have r0 : ∀ S1 (Q : Int32 → Sto → Prop), S1.1 353 3 = nI (2 ^ n) → ((¬ ∃ v, v < 7 ∧ y = nI v) → Q (-2) S1) → ((∃ v, v < 7 ∧ y = nI v) → ((¬ S1.1 353 12 = 8 → vp_in (S1.1 353 12) 8 ∧ ∀ S_10 : Sto, S_10 = uA S1 358 (S1.1 353 12).toNatClampNeg x → vp_in (S_10.1 353 12) 8 ∧ ∀ S_12 : Sto, S_12 = uA S_10 359 (S_10.1 353 12).toNatClampNeg y → ∀ S_13 : Sto, S_13 = uA S_12 353 12 ((S_12.1 353 12) + 1) → Q (S_13.1 353 12) S_13) ∧ (S1.1 353 12 = 8 → Q (-4) S1))) → wp_X9_book x y S1 Q := by
        intro S1 Q h3 r1 r2
        unfold wp_X9_book
        refine ⟨fun _ => sp_spot9 h3 n4 (fun _ _ _ _ => ⟨fun _ => ?_, fun z => absurd z (by decide)⟩) (fun hn => absurd ⟨s, hs, e, hp⟩ hn), fun q => absurd q xne⟩
        exact sp_inN (k := 7) (by omega) seven (fun h => ⟨fun _ => r2 h, fun z => absurd z (by decide)⟩) (fun h => ⟨fun z => absurd rfl z, fun _ => r1 h⟩)
      have bad2 : (¬ ∃ v, v < 7 ∧ y = nI v) → wp_X9_book x y S (fun r' S2 => (-2 : Int32) = r' ∧ Rel S2 b) := fun hn => r0 S _ hR.2.2.2.1 (fun _ => ⟨rfl, H.rel⟩) (fun h => absurd h hn)
      refine ⟨fun q => bad2 (fun ⟨v, hv, e⟩ => by rw [e] at q; exact nI_pos (by omega) q), fun q => ?_⟩
      obtain ⟨v, hv, rfl⟩ := nI_of q
      rw [show (6 : Int32) = nI 6 from rfl, nI_leI hv (by omega)]
      refine ⟨fun le => ?_, fun gt => bad2 (fun ⟨v', hv', e⟩ => by rw [nI_eq hv (by omega)] at e; omega)⟩
      have hv7 : ∃ v', v' < 7 ∧ nI v = nI v' := ⟨v, by omega, rfl⟩
      unfold wp_X4_addToBook
      rw [c11, show (8 : Int32) = nI 8 from rfl, nI_ltI (by omega) (by omega), tn_nI (i := bc) (by omega)]
      refine ⟨fun lt => ⟨vi (by omega) (by omega), fun S3 e3 => ?_⟩, fun ge => ⟨fun _ => ?_, fun z => absurd rfl z⟩⟩
      · have k3 : S3.1 1 11 = nI bc := by rw [e3, uA_ne (by decide), c11]
        rw [k3, tn_nI (i := bc) (by omega)]
        refine ⟨vi (by omega) (by omega), fun S5 e5 S6 e6 => ⟨fun z => absurd z (by decide), fun _ => ?_⟩⟩
        have k5 : S5.1 1 11 = nI bc := by rw [e5, uA_ne (by decide), k3]
        rw [k5, nI_1] at e6
        have k6 : S6.1 1 11 = nI (bc + 1) := by rw [e6, uA_eq, upd_eq]
        rw [k6]
        have o6 : ∀ c, c ≠ 1 → c ≠ 16 → c ≠ 17 → S6.1 c = S.1 c := fun c a d g => by rw [e6, uA_ne a, e5, uA_ne g, e3, uA_ne d]
        refine r0 S6 _ (by rw [o6 353 (by decide) (by decide) (by decide)]; exact hR.2.2.2.1) (fun hn => absurd hv7 hn) (fun _ => ?_)
        rw [o6 353 (by decide) (by decide) (by decide), c12, show (8 : Int32) = nI 8 from rfl, nI_eq (by omega) (by omega), tn_nI (i := bc) (by omega)]
        refine ⟨fun _ => ⟨vi (by omega) (by omega), fun T3 g3 => ?_⟩, fun q => by omega⟩
        have m3 : T3.1 353 12 = nI bc := by rw [g3, uA_ne (by decide), o6 353 (by decide) (by decide) (by decide), c12]
        rw [m3, tn_nI (i := bc) (by omega)]
        refine ⟨vi (by omega) (by omega), fun T5 g5 T6 g6 => ?_⟩
        have m5 : T5.1 353 12 = nI bc := by rw [g5, uA_ne (by decide), m3]
        rw [m5, nI_1] at g6
        have m6 : T6.1 353 12 = nI (bc + 1) := by rw [g6, uA_eq, upd_eq]
        rw [m6]
        have oT : ∀ c, c ≠ 353 → c ≠ 358 → c ≠ 359 → T6.1 c = S6.1 c := fun c a d g => by rw [g6, uA_ne a, g5, uA_ne g, g3, uA_ne d]
        have a14 : T6.1 16 = upd (S.1 16) bc x := by rw [oT 16 (by decide) (by decide) (by decide), e6, uA_ne (by decide), e5, uA_ne (by decide), e3, uA_eq]
        have a15 : T6.1 17 = upd (S.1 17) bc (nI v) := by rw [oT 17 (by decide) (by decide) (by decide), e6, uA_ne (by decide), e5, uA_eq, e3, uA_ne (by decide)]
        have a356 : T6.1 358 = upd (S.1 358) bc x := by rw [g6, uA_ne (by decide), g5, uA_ne (by decide), g3, uA_eq, o6 358 (by decide) (by decide) (by decide)]
        have a357 : T6.1 359 = upd (S.1 359) bc (nI v) := by rw [g6, uA_ne (by decide), g5, uA_eq, g3, uA_ne (by decide), o6 359 (by decide) (by decide) (by decide)]
        have f1 : ∀ j, j ≠ 11 → T6.1 1 j = S.1 1 j := fun j hj => by rw [oT 1 (by decide) (by decide) (by decide), e6, uA_eq, upd_ne _ _ hj, e5, uA_ne (by decide), e3, uA_ne (by decide)]
        have f53 : ∀ j, j ≠ 12 → T6.1 353 j = S.1 353 j := fun j hj => by rw [g6, uA_eq, upd_ne _ _ hj, g5, uA_ne (by decide), g3, uA_ne (by decide), o6 353 (by decide) (by decide) (by decide)]
        refine ⟨rfl, R0.rel (H.ev hb (ec' := ec) (bc' := bc + 1) (fun c q1 q2 q3 q4 => ?_) (fun j _ q => f1 j q) (fun j _ q => f53 j q) (by rw [g6, g5, g3, e6, e5, e3]; rfl) ⟨⟨e8, by omega⟩, ⟨by rw [f1 8 (by decide)]; exact c8, ?_, by rw [f53 9 (by decide)]; exact c9, m6⟩, fun i hi => ?_, fun i hi => ?_⟩)⟩
        · rw [oT c q3 (by omega) (by omega), o6 c q1 (by omega) (by omega)]
        · rw [oT 1 (by decide) (by decide) (by decide)]; exact k6
        · rw [oT 14 (by decide) (by decide) (by decide), oT 15 (by decide) (by decide) (by decide), oT 356 (by decide) (by decide) (by decide), oT 357 (by decide) (by decide) (by decide), o6 14 (by decide) (by decide) (by decide), o6 15 (by decide) (by decide) (by decide), o6 356 (by decide) (by decide) (by decide), o6 357 (by decide) (by decide) (by decide)]
          exact hev i hi
        · rw [a14, a15, a356, a357]
          by_cases q : i = bc
          · rw [q, upd_eq, upd_eq, upd_eq, upd_eq]; exact ⟨rfl, rfl, s, hs, e⟩
          · rw [upd_ne _ _ q, upd_ne _ _ q, upd_ne _ _ q, upd_ne _ _ q]; exact hbk i (by omega)
      · refine r0 S _ hR.2.2.2.1 (fun hn => absurd hv7 hn) (fun _ => ?_)
        rw [c12, show (8 : Int32) = nI 8 from rfl, nI_eq (by omega) (by omega)]
        exact ⟨fun q => by omega, fun _ => ⟨rfl, H.rel⟩⟩
    · unfold wp_X9_book
      exact ⟨fun _ => sp_spot9 hR.2.2.2.1 n4 (fun s hs e hp => absurd ⟨s, hs, e, hp⟩ hn) (fun _ => ⟨fun z => absurd rfl z, fun _ => ⟨rfl, H.rel⟩⟩), fun q => absurd q xne⟩
  · unfold wp_X9_book
    refine ⟨fun q => absurd xe q, fun _ S9 e9 => ⟨rfl, R0.rel (H.ev hb (ec' := ec) (bc' := 0) (fun c q1 q2 q3 q4 => ?_) (fun j _ q => ?_) (fun j _ q => ?_) (by rw [e9, e8']; rfl) ⟨⟨e8, by omega⟩, ⟨?_, ?_, ?_, ?_⟩, fun i hi => ?_, fun i hi => by omega⟩)⟩⟩
    · rw [e9, uA_ne q3, e8', uA_ne q1]
    · rw [e9, uA_ne (by decide), e8', uA_eq, upd_ne _ _ q]
    · rw [e9, uA_eq, upd_ne _ _ q, e8', uA_ne (by decide)]
    · rw [e9, uA_ne (by decide), e8', uA_eq, upd_ne _ _ (by decide)]; exact c8
    · rw [e9, uA_ne (by decide), e8', uA_eq, upd_eq]; rfl
    · rw [e9, uA_eq, upd_ne _ _ (by decide), e8', uA_ne (by decide)]; exact c9
    · rw [e9, uA_eq, upd_eq]; rfl
    · rw [e9, e8']; exact hev i hi
