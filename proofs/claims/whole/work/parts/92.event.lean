/-! events and the book -/
theorem R0.ev {S S' : Sto} {b n p K gc ec bc ec' bc' : Nat} (H : R0 S b n p K gc ec bc) (hb : b < 1000000) (f : ∀ c, c ≠ 1 → ¬ (14 ≤ c ∧ c ≤ 17) → c ≠ 353 → ¬ (356 ≤ c ∧ c ≤ 359) → S'.1 c = S.1 c) (f1 : ∀ j, j ≠ 8 → j ≠ 11 → S'.1 1 j = S.1 1 j) (f2 : ∀ j, j ≠ 9 → j ≠ 12 → S'.1 353 j = S.1 353 j) (f3 : S'.2 = S.2) (hE : EB S' ec' bc') : R0 S' b n p K gc ec' bc' := by
  obtain ⟨ed, hed, hC, hR, hO, -⟩ := H.abs
  have g4 := hO.1.2.2.2.2
  refine H.chg ⟨⟨fun c hc => f c (by omega) (by omega) (by omega) (by omega), f2 14 (by decide) (by decide), f2 21 (by decide) (by decide), f3⟩, fun c hc => f c (by omega) (by omega) (by omega) (by omega)⟩ hC (n' := n) (p' := p) (K' := K) (gc' := gc) (ed' := ed) (E' := fun e i => S.1 (2 + 1 + e) i) (G' := fun g i => S.1 (9 + 1 + g) i) ?_ ?_ hO hE Edt.rf hed hb
  · obtain ⟨c1, c2, c3, c4, c5, c6, c7⟩ := hC
    exact ⟨by rw [f1 0 (by decide) (by decide)]; exact c1, by rw [f1 1 (by decide) (by decide)]; exact c2, by rw [f1 2 (by decide) (by decide)]; exact c3, by rw [f1 5 (by decide) (by decide)]; exact c4, by rw [f1 12 (by decide) (by decide)]; exact c5, fun e he i hi => by rw [f _ (by omega) (by omega) (by omega) (by omega)], fun g hg i hi => by rw [f _ (by omega) (by omega) (by omega) (by omega)]⟩
  · obtain ⟨c1, c2, c3, c4, c5, c6, c7⟩ := hR
    exact ⟨by rw [f2 0 (by decide) (by decide)]; exact c1, by rw [f2 1 (by decide) (by decide)]; exact c2, by rw [f2 2 (by decide) (by decide)]; exact c3, by rw [f2 3 (by decide) (by decide)]; exact c4, by rw [f2 6 (by decide) (by decide)]; exact c5, fun e he i hi => by rw [f 354 (by decide) (by decide) (by decide) (by decide)]; exact c6 e he i hi, fun g hg i hi => by rw [f 355 (by decide) (by decide) (by decide) (by decide)]; exact c7 g hg i hi⟩
theorem m1_ne {k : Nat} (hk : k < 70000) : ¬ nI k = -1 := fun e => by
  have := congrArg Int32.toInt e
  rw [nI_toInt (by omega)] at this
  have h2 : (k : Int) = -1 := this
  omega
theorem op_event {S : Sto} {b : Nat} (x y : Int32) (hb : b < 1000000) (H : Rel S b) : wp_X8_event x y S (fun r S1 => wp_X9_event x y S1 (fun r' S2 => r = r' ∧ Rel S2 b)) := by
  obtain ⟨n, p, K, gc, ec, bc, H⟩ := H.r0
  obtain ⟨ed, hed, hC, hR, hO, hE⟩ := H.abs
  obtain ⟨⟨e8, b8⟩, ⟨c8, c11, c9, c12⟩, hev, hbk⟩ := id hE
  have five : (4 : Int64) = iL (((5 : Nat) : Int) - 1) := by decide
  have two : (1 : Int64) = iL (((2 : Nat) : Int) - 1) := by decide
  have four : (3 : Int64) = iL (((4 : Nat) : Int) - 1) := by decide
  -- both add it
  have add : ∀ w v, x = nI w → y = nI v → evOK w v → (∀ S1 (Q : Int32 → Sto → Prop), q_X9_event_76 x y Q S1 → wp_X9_event x y S1 Q) → q_X8_event_74 x y (fun r S1 => wp_X9_event x y S1 (fun r' S2 => r = r' ∧ Rel S2 b)) S := by
    intro w v ex ey hv h9
    unfold q_X8_event_74 q_X8_event_98 wp_X4_addEvent
    rw [c8, show (8 : Int32) = nI 8 from rfl, nI_ltI (by omega) (by omega), tn_nI (i := ec) (by omega)]
    refine ⟨fun lt => ⟨vi (by omega) (by omega), fun S3 e3 => ?_⟩, fun ge => ⟨fun _ => ?_, fun z => absurd rfl z⟩⟩
    · have k3 : S3.1 1 8 = nI ec := by rw [e3, uA_ne (by decide), c8]
      rw [k3, tn_nI (i := ec) (by omega)]
      refine ⟨vi (by omega) (by omega), fun S5 e5 S6 e6 => ⟨fun z => absurd z (by decide), fun _ => ?_⟩⟩
      have k5 : S5.1 1 8 = nI ec := by rw [e5, uA_ne (by decide), k3]
      rw [k5, nI_1] at e6
      have k6 : S6.1 1 8 = nI (ec + 1) := by rw [e6, uA_eq, upd_eq]
      rw [k6]
      have o6 : ∀ c, c ≠ 1 → c ≠ 14 → c ≠ 15 → S6.1 c = S.1 c := fun c a d g => by rw [e6, uA_ne a, e5, uA_ne g, e3, uA_ne d]
      refine h9 S6 _ ?_
      unfold q_X9_event_76
      rw [o6 353 (by decide) (by decide) (by decide), c9, show (8 : Int32) = nI 8 from rfl, nI_eq (by omega) (by omega), tn_nI (i := ec) (by omega)]
      refine ⟨fun _ => ⟨vi (by omega) (by omega), fun T3 g3 => ?_⟩, fun q => by omega⟩
      have m3 : T3.1 353 9 = nI ec := by rw [g3, uA_ne (by decide), o6 353 (by decide) (by decide) (by decide), c9]
      rw [m3, tn_nI (i := ec) (by omega)]
      refine ⟨vi (by omega) (by omega), fun T5 g5 T6 g6 => ?_⟩
      have m5 : T5.1 353 9 = nI ec := by rw [g5, uA_ne (by decide), m3]
      rw [m5, nI_1] at g6
      have m6 : T6.1 353 9 = nI (ec + 1) := by rw [g6, uA_eq, upd_eq]
      rw [m6]
      have oT : ∀ c, c ≠ 353 → c ≠ 356 → c ≠ 357 → T6.1 c = S6.1 c := fun c a d g => by rw [g6, uA_ne a, g5, uA_ne g, g3, uA_ne d]
      have a14 : T6.1 14 = upd (S.1 14) ec x := by rw [oT 14 (by decide) (by decide) (by decide), e6, uA_ne (by decide), e5, uA_ne (by decide), e3, uA_eq]
      have a15 : T6.1 15 = upd (S.1 15) ec y := by rw [oT 15 (by decide) (by decide) (by decide), e6, uA_ne (by decide), e5, uA_eq, e3, uA_ne (by decide)]
      have a356 : T6.1 356 = upd (S.1 356) ec x := by rw [g6, uA_ne (by decide), g5, uA_ne (by decide), g3, uA_eq, o6 356 (by decide) (by decide) (by decide)]
      have a357 : T6.1 357 = upd (S.1 357) ec y := by rw [g6, uA_ne (by decide), g5, uA_eq, g3, uA_ne (by decide), o6 357 (by decide) (by decide) (by decide)]
      have f1 : ∀ j, j ≠ 8 → T6.1 1 j = S.1 1 j := fun j hj => by rw [oT 1 (by decide) (by decide) (by decide), e6, uA_eq, upd_ne _ _ hj, e5, uA_ne (by decide), e3, uA_ne (by decide)]
      have f53 : ∀ j, j ≠ 9 → T6.1 353 j = S.1 353 j := fun j hj => by rw [g6, uA_eq, upd_ne _ _ hj, g5, uA_ne (by decide), g3, uA_ne (by decide), o6 353 (by decide) (by decide) (by decide)]
      refine ⟨rfl, R0.rel (H.ev hb (ec' := ec + 1) (bc' := bc) (fun c q1 q2 q3 q4 => ?_) (fun j q _ => f1 j q) (fun j q _ => f53 j q) (by rw [g6, g5, g3, e6, e5, e3]; rfl) ⟨⟨by omega, b8⟩, ⟨?_, by rw [f1 11 (by decide)]; exact c11, m6, by rw [f53 12 (by decide)]; exact c12⟩, fun i hi => ?_, fun i hi => ?_⟩)⟩
      · rw [oT c q3 (by omega) (by omega), o6 c q1 (by omega) (by omega)]
      · rw [oT 1 (by decide) (by decide) (by decide)]; exact k6
      · rw [a14, a15, a356, a357]
        by_cases q : i = ec
        · rw [q, upd_eq, upd_eq, upd_eq, upd_eq]; exact ⟨rfl, rfl, w, v, ex, ey, hv⟩
        · rw [upd_ne _ _ q, upd_ne _ _ q, upd_ne _ _ q, upd_ne _ _ q]; exact hev i (by omega)
      · rw [oT 16 (by decide) (by decide) (by decide), oT 17 (by decide) (by decide) (by decide), oT 358 (by decide) (by decide) (by decide), oT 359 (by decide) (by decide) (by decide), o6 16 (by decide) (by decide) (by decide), o6 17 (by decide) (by decide) (by decide), o6 358 (by decide) (by decide) (by decide), o6 359 (by decide) (by decide) (by decide)]
        exact hbk i hi
    · refine h9 S _ ?_
      unfold q_X9_event_76
      rw [c9, show (8 : Int32) = nI 8 from rfl, nI_eq (by omega) (by omega)]
      exact ⟨fun q => by omega, fun _ => ⟨rfl, H.rel⟩⟩
  unfold wp_X8_event
  refine ⟨fun xne => ?_, fun xe S8 e8' => ?_⟩
  · have hx := ex_iff (x := x) (k := 5) (by omega)
    -- not in range
    have noW : (¬ ∃ w, w < 5 ∧ x = nI w) → wp_X9_event x y S (fun r' S2 => (-1 : Int32) = r' ∧ Rel S2 b) := by
      intro hn
      unfold wp_X9_event q_X9_event_50
      exact ⟨fun _ => sp_inN (k := 5) (by omega) five (fun h => absurd h hn) (fun _ => ⟨fun _ => ⟨rfl, H.rel⟩, fun z => absurd rfl z⟩), fun q => absurd q xne⟩
    unfold q_X8_event_51 q_X8_event_39 q_X8_event_53 q_X8_event_71 q_X8_event_51
    refine ⟨fun q => noW (fun ⟨w, hw, e⟩ => by rw [e] at q; exact nI_pos (by omega) q), fun q => ?_⟩
    obtain ⟨w, hw, rfl⟩ := nI_of q
    rw [show (4 : Int32) = nI 4 from rfl, nI_ltI (by omega) hw]
    refine ⟨fun q4 => noW (fun ⟨w', hw', e⟩ => by rw [nI_eq hw (by omega)] at e; omega), fun q4 => ?_⟩
    have w5 : w < 5 := by omega
    -- the reference behind the range
    have r0 : ∀ S1 (Q : Int32 → Sto → Prop), (¬ w = 0 → q_X9_event_35 (nI w) y Q S1) → (w = 0 → wp_X9_isElement y S1 (fun r S2 => (r = 0 → q_X9_event_50 (nI w) y Q S2) ∧ (¬ r = 0 → q_X9_event_35 (nI w) y Q S2))) → wp_X9_event (nI w) y S1 Q := by
      intro S1 Q r1 r2
      unfold wp_X9_event
      refine ⟨fun _ => sp_inN (k := 5) (by omega) five (fun _ => ⟨fun z => absurd z (by decide), fun _ => ?_⟩) (fun h0 => absurd ⟨w, w5, rfl⟩ h0), fun q => absurd q xne⟩
      rw [show (0 : Int32) = nI 0 from rfl, nI_eq hw (by omega)]
      exact ⟨r1, r2⟩
    have e3 : nI w = 3 ↔ w = 3 := by rw [show (3 : Int32) = nI 3 from rfl, nI_eq hw (by omega)]
    have e0 : nI w = 0 ↔ w = 0 := by rw [show (0 : Int32) = nI 0 from rfl, nI_eq hw (by omega)]
    rw [e3, e0]
    -- sorts 1, 2, 4
    have mid : ¬ w = 0 → ¬ w = 3 → (y < 0 → wp_X9_event (nI w) y S (fun r' S2 => (-2 : Int32) = r' ∧ Rel S2 b)) ∧ (¬ y < 0 → (y < 4 → q_X8_event_74 (nI w) y (fun r S1 => wp_X9_event (nI w) y S1 (fun r' S2 => r = r' ∧ Rel S2 b)) S) ∧ (¬ y < 4 → wp_X9_event (nI w) y S (fun r' S2 => (-2 : Int32) = r' ∧ Rel S2 b))) := by
      intro w0 w3
      have bad2 : (¬ ∃ v, v < 4 ∧ y = nI v) → wp_X9_event (nI w) y S (fun r' S2 => (-2 : Int32) = r' ∧ Rel S2 b) := by
        intro hn
        refine r0 S _ (fun _ => ?_) (fun z => absurd z w0)
        unfold q_X9_event_35 q_X9_event_52
        refine ⟨fun _ => ⟨fun z => absurd (e0.mp z) w0, fun _ => ⟨fun z => absurd (e3.mp z) w3, fun _ => ?_⟩⟩, fun z => absurd (e3.mp z) w3⟩
        exact sp_inN (k := 4) (by omega) four (fun h => absurd h hn) (fun _ => ⟨fun z => absurd rfl z, fun _ => ⟨rfl, H.rel⟩⟩)
      refine ⟨fun q => bad2 (fun ⟨v, hv, e⟩ => by rw [e] at q; exact nI_pos (by omega) q), fun q => ?_⟩
      obtain ⟨v, hv, rfl⟩ := nI_of q
      rw [show (4 : Int32) = nI 4 from rfl, nI_ltI hv (by omega)]
      refine ⟨fun lt => add w v rfl rfl ⟨w5, by omega, fun z => absurd z w3, fun _ => lt⟩ (fun S1 Q h => r0 S1 Q (fun _ => ?_) (fun z => absurd z w0)), fun ge => bad2 (fun ⟨v', hv', e⟩ => by rw [nI_eq hv (by omega)] at e; omega)⟩
      unfold q_X9_event_35 q_X9_event_52
      refine ⟨fun _ => ⟨fun z => absurd (e0.mp z) w0, fun _ => ⟨fun z => absurd (e3.mp z) w3, fun _ => ?_⟩⟩, fun z => absurd (e3.mp z) w3⟩
      exact sp_inN (k := 4) (by omega) four (fun _ => ⟨fun _ => h, fun z => absurd z (by decide)⟩) (fun h0 => absurd ⟨v, lt, rfl⟩ h0)
    refine ⟨fun w0 => ⟨fun w3 => ⟨fun z => absurd z w0, fun _ => ⟨fun z => absurd z w3, fun _ => mid w0 w3⟩⟩, fun w3 => ?_⟩, fun w0 => ?_⟩
    · refine sp_kind8 (fun ⟨v, hv, e⟩ => ⟨fun _ => ⟨fun z => absurd z w0, fun _ => ⟨fun _ => ?_, fun z => absurd w3 z⟩⟩, fun z => absurd z (by decide)⟩) (fun hn => ⟨fun z => absurd rfl z, fun _ => ?_⟩)
      · refine add w v rfl e ⟨w5, by omega, fun _ => hv, fun z => by omega⟩ (fun S1 Q h => r0 S1 Q (fun _ => ?_) (fun z => absurd z w0))
        unfold q_X9_event_35 q_X9_event_52
        exact ⟨fun z => absurd (e3.mpr w3) z, fun _ => sp_inN (k := 2) (by omega) two (fun _ => ⟨fun _ => ⟨fun _ => h, fun _ => ⟨fun _ => h, fun z => absurd (e3.mpr w3) z⟩⟩, fun z => absurd z (by decide)⟩) (fun h0 => absurd ⟨v, hv, e⟩ h0)⟩
      · refine r0 S _ (fun _ => ?_) (fun z => absurd z w0)
        unfold q_X9_event_35 q_X9_event_50
        exact ⟨fun z => absurd (e3.mpr w3) z, fun _ => sp_inN (k := 2) (by omega) two (fun h => absurd h hn) (fun _ => ⟨fun z => absurd rfl z, fun _ => ⟨rfl, H.rel⟩⟩)⟩
    · have w3 : ¬ w = 3 := by omega
      refine sp_elem8 (fun ⟨v, hv, e⟩ => ⟨fun z => absurd z (by decide), fun _ => ⟨fun _ => ⟨fun _ => ?_, fun z => absurd w0 z⟩, fun z => absurd z w3⟩⟩) (fun hn => ⟨fun _ => ?_, fun z => absurd rfl z⟩)
      · refine add w v rfl e ⟨w5, hv, fun z => absurd z w3, fun z => by omega⟩ (fun S1 Q h => r0 S1 Q (fun z => absurd w0 z) (fun _ => ?_))
        unfold q_X9_event_35 q_X9_event_52
        exact sp_elem9 (fun _ => ⟨fun z => absurd z (by decide), fun _ => ⟨fun _ => ⟨fun _ => h, fun z => absurd (e0.mpr w0) z⟩, fun z => absurd (e3.mp z) w3⟩⟩) (fun h0 => absurd ⟨v, hv, e⟩ h0)
      · refine r0 S _ (fun z => absurd w0 z) (fun _ => ?_)
        unfold q_X9_event_50
        exact sp_elem9 (fun h => absurd h hn) (fun _ => ⟨fun _ => ⟨rfl, H.rel⟩, fun z => absurd rfl z⟩)
  · unfold wp_X9_event
    refine ⟨fun q => absurd xe q, fun _ S9 e9 => ⟨rfl, R0.rel (H.ev hb (ec' := 0) (bc' := bc) (fun c q1 q2 q3 q4 => ?_) (fun j q _ => ?_) (fun j q _ => ?_) (by rw [e9, e8']; rfl) ⟨⟨by omega, b8⟩, ⟨?_, ?_, ?_, ?_⟩, fun i hi => by omega, fun i hi => ?_⟩)⟩⟩
    · rw [e9, uA_ne q3, e8', uA_ne q1]
    · rw [e9, uA_ne (by decide), e8', uA_eq, upd_ne _ _ q]
    · rw [e9, uA_eq, upd_ne _ _ q, e8', uA_ne (by decide)]
    · rw [e9, uA_ne (by decide), e8', uA_eq, upd_eq]; rfl
    · rw [e9, uA_ne (by decide), e8', uA_eq, upd_ne _ _ (by decide)]; exact c11
    · rw [e9, uA_eq, upd_eq]; rfl
    · rw [e9, uA_eq, upd_ne _ _ (by decide), e8', uA_ne (by decide)]; exact c12
    · rw [e9, e8']; exact hbk i hi
