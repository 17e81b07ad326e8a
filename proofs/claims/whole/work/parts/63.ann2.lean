/-! the calls that ask of annihilators (2) -/
theorem op_annihilates {S : Sto} {b : Nat} (x y i d : Int32) (H : Rel S b) : wp_X8_annihilates x y i d S (fun r S1 => wp_X9_annihilates x y i d S1 (fun r' S2 => r = r' ∧ Rel S2 b)) := by
  obtain ⟨n, p, K, gc, ec, bc, H⟩ := H.r0
  obtain ⟨h1, h2, h3, h4, h5, h6, h7⟩ := id H
  have N := h1.nw
  have n2 := N.1.2.2.1
  have n4 := N.1.2.2.2.1
  have hw := pow_n n4
  have hK := N.2.2.1
  have hok := okW_n n2 n4 hK
  have hcl := clf_ok hok
  have two : (1 : Int64) = iL (((2 : Nat) : Int) - 1) := by decide
  unfold wp_X8_annihilates q_X8_annihilates_26 q_X8_annihilates_71
  have none : (¬ ((∃ s, s < 3 ∧ x = nI s) ∧ (∃ s, s < 2 ∧ y = nI s) ∧ ∃ j, j < 2 ^ n ∧ d = nI j)) → wp_X9_annihilates x y i d S (fun r' S2 => (-1 : Int32) = r' ∧ Rel S2 b) := by
    intro hn
    unfold wp_X9_annihilates q_X9_annihilates_26
    refine sp_side9 (fun hs => ⟨fun z => absurd z (by decide), fun _ => ?_⟩) (fun _ => ⟨fun _ => ⟨rfl, H.rel⟩, fun z => absurd rfl z⟩)
    refine sp_inN (k := 2) (by omega) two (fun hk => ⟨fun z => absurd z (by decide), fun _ => ?_⟩) (fun _ => ⟨fun _ => ⟨rfl, H.rel⟩, fun z => absurd rfl z⟩)
    exact sp_place9 h2 hw.1 (fun hj => absurd ⟨hs, hk, hj⟩ hn) (fun _ => ⟨fun z => absurd rfl z, fun _ => ⟨rfl, H.rel⟩⟩)
  refine sp_side8 (fun ⟨s, hs, e⟩ => ⟨fun z => absurd z (by decide), fun _ => ?_⟩) (fun h0 => ⟨fun _ => none (fun q => h0 q.1), fun z => absurd rfl z⟩)
  subst e
  refine sp_hand8 (fun ⟨hd, hh, e⟩ => ⟨fun z => absurd z (by decide), fun _ => ?_⟩) (fun h0 => ⟨fun _ => none (fun q => h0 q.2.1), fun z => absurd rfl z⟩)
  subst e
  refine sp_place8 N.1.1 n4 (fun ⟨j, hj, e⟩ => ⟨fun _ => ?_, fun z => absurd z (by decide)⟩) (fun h0 => ⟨fun z => absurd rfl z, fun _ => none (fun q => h0 q.2.2)⟩)
  subst e
  refine sp_ann8 hs hh H (fun S1 P1 R1 hkd => ?_)
  have ref : ∀ a : Int32, ((∃ c, c < 2 ^ n ∧ hdS S1 126 (2 ^ n) (clf K (2 ^ n) c) ∧ i = nI (npM K (2 ^ n) (hdS S1 126 (2 ^ n)) c) ∧ a = iI (rwS S1 126 (clf K (2 ^ n) c) j)) ∨ ((∀ c, c < 2 ^ n → hdS S1 126 (2 ^ n) (clf K (2 ^ n) c) → ¬ i = nI (npM K (2 ^ n) (hdS S1 126 (2 ^ n)) c)) ∧ a = -1)) → wp_X9_annihilates (nI s) (nI hd) i (nI j) S1 (fun r' S2 => a = r' ∧ Rel S2 b) := by
    intro a ha
    unfold wp_X9_annihilates q_X9_annihilates_90
    refine sp_side9 (fun _ => ⟨fun z => absurd z (by decide), fun _ => ?_⟩) (fun h0 => absurd ⟨s, hs, rfl⟩ h0)
    refine sp_inN (k := 2) (by omega) two (fun _ => ⟨fun z => absurd z (by decide), fun _ => ?_⟩) (fun h0 => absurd ⟨hd, hh, rfl⟩ h0)
    refine sp_place9 R1.2.1 hw.1 (fun _ => ⟨fun _ => ?_, fun z => absurd z (by decide)⟩) (fun h0 => absurd ⟨j, hj, rfl⟩ h0)
    refine sp_ann9 hs hh R1 (fun S2 T rk L R rk0 L0 Rw0 b1 b2 b3 b4 b5 b6 R2 => ?_)
    have lk := link P1 b4
    have hdeq : hdS S1 126 (2 ^ n) = hdL rk L := funext fun l => propext (lk.1 l)
    have hrk := b4.rk
    rw [hdeq] at ha
    have hlt : ∀ c, c < 2 ^ n → hdL rk L (clf K (2 ^ n) c) → npM K (2 ^ n) (hdL rk L) c < rk := by
      intro c hc hdc
      have q1 := npM_all (hd := hdL rk L) hok
      have q2 := b4.2.2.2.2.2.2
      have := npM_lt (K := K) (w := 2 ^ n) (hd := hdL rk L) hc hdc
      omega
    rw [b6, nI_m1 (by omega)]
    refine sp_inN (k := rk) (by omega) rfl (fun ⟨i', hi', ei⟩ => ⟨fun z => absurd z (by decide), fun _ => ?_⟩) (fun h0 => ⟨fun _ => ⟨?_, R2.rel⟩, fun z => absurd rfl z⟩)
    · rw [ei, show (16 : Int32) = nI 16 from rfl, pk_mul, nI_add, tn_nI (by omega)]
      refine ⟨vp_nI (by omega) (by omega), ?_, R2.rel⟩
      obtain ⟨c, c1, c2, c3⟩ := b4.at hi'
      rcases ha with ⟨c', u1, u2, u3, u4⟩ | ⟨q, -⟩
      · have ec : c' = c := npM_inj u2 c2 (by
          have := hlt c' u1 u2
          rw [ei, nI_eq (by omega) (by omega)] at u3
          rw [c3, u3])
        subst ec
        have k := b5 c' c1 c2 j (by omega)
        rw [if_pos hj, c3] at k
        rw [k, u4, lk.2.1 _ _ (by rw [hdeq]; exact c2) hj]
      · exact absurd (by rw [ei, c3]) (q c c1 c2)
    · rcases ha with ⟨c', c1, c2, c3, c4⟩ | ⟨-, q⟩
      · exact absurd ⟨_, hlt c' c1 c2, c3⟩ h0
      · exact q
  refine sp_leadNumber' hok P1 (fun c hc hdc hi => ⟨fun _ => ?_, fun z => absurd (nI_pos' (by have := (hcl c hc).1; omega)) z⟩) (fun hn => ⟨fun z => absurd z (by decide), fun _ => ref _ (Or.inr ⟨hn, rfl⟩)⟩)
  obtain ⟨q1, -⟩ := hcl c hc
  have hrow := P1.row hdc
  have l126 : ln (126 + 1) = 16 := by decide +kernel
  have hlr := sp_rowln hkd (show clf K (2 ^ n) c < ln (126 + 1) by omega)
  rw [tn_nI (by omega), tn_nI (by omega)]
  refine ⟨vp_nI (by omega) (by omega), vp_nI (by omega) (by omega), ?_⟩
  exact ref _ (Or.inl ⟨c, hc, hdc, hi, (hrow j hj).1⟩)
theorem sp_firstLead {p w K rk : Nat} {L : Nat → Nat} {R : Nat → Vc} {V : Vc → Prop} {S : Sto} {Q : Int32 → Sto → Prop} (H : MB S p w K V rk L R) (hw : w ≤ 16)
    (h1 : ∀ c, c < w → hdL rk L (clf K w c) → (0 : Int32) = nI (npM K w (hdL rk L) c) → Q (nI (clf K w c)) S) (h2 : (∀ c, c < w → hdL rk L (clf K w c) → ¬ (0 : Int32) = nI (npM K w (hdL rk L) c)) → Q (-5) S) : wp_X9_firstLead S Q := by
  unfold wp_X9_firstLead q_X9_firstLead_21
  have hrk := H.rk
  refine sp_rowAt H (fun c r hc hr hL hi => ⟨fun _ => ?_, fun z => absurd (nI_pos' (by omega)) z⟩) (fun hn => ⟨fun z => absurd z (by decide), fun _ => h2 hn⟩)
  rw [tn_nI (by omega), (H.2.2.1 r hr).2.1, hL]
  exact ⟨vp_nI (by omega) (by omega), h1 c hc ⟨r, hr, hL⟩ hi⟩
/-- the first lead of both -/
theorem sp_first2 {h p w K rk b : Nat} {L : Nat → Nat} {R : Nat → Vc} {V : Vc → Prop} {S S2 : Sto} {a : Int32} (P : SpOK S h p w K V) (M : MB S2 p w K V rk L R) (hw : w ≤ 16) (R2 : Rel S2 b)
    (ha : (∃ c, c < w ∧ hdS S h w (clf K w c) ∧ (0 : Int32) = nI (npM K w (hdS S h w) c) ∧ a = nI (clf K w c)) ∨ ((∀ c, c < w → hdS S h w (clf K w c) → ¬ (0 : Int32) = nI (npM K w (hdS S h w) c)) ∧ a = -5)) : wp_X9_firstLead S2 (fun r' S3 => a = r' ∧ Rel S3 b) := by
  have lk := link P M
  have hdeq : hdS S h w = hdL rk L := funext fun l => propext (lk.1 l)
  rw [hdeq] at ha
  have le : ∀ c, npM K w (hdL rk L) c ≤ c := fun c => ctB_le _ c
  refine sp_firstLead M hw (fun c hc hd hi => ⟨?_, R2⟩) (fun hn => ⟨?_, R2⟩)
  · rcases ha with ⟨c', u1, u2, u3, u4⟩ | ⟨q, -⟩
    · have := le c'
      have := le c
      have ec : c' = c := npM_inj u2 hd (by
        rw [show (0 : Int32) = nI 0 from rfl, nI_eq (by omega) (by omega)] at u3 hi
        omega)
      rw [u4, ec]
    · exact absurd hi (q c hc hd)
  · rcases ha with ⟨c', u1, u2, u3, -⟩ | ⟨-, q⟩
    · exact absurd u3 (hn c' u1 u2)
    · exact q
