/-! the calls that ask of ideals (1) -/
def R0 (S : Sto) (b n p K gc ec bc : Nat) : Prop := SameM S 1 n p K gc ec bc ∧ S.1 353 3 = nI (2 ^ n) ∧ Txt S ∧ Tap S ∧ Img S ∧ IdOK S n p K gc ∧ ∃ ed, S.1 1 12 = nI ed ∧ ed ≤ b
theorem Rel.r0 {S : Sto} {b : Nat} (h : Rel S b) : ∃ n p K gc ec bc, R0 S b n p K gc ec bc := h
theorem R0.rel {S : Sto} {b n p K gc ec bc : Nat} (h : R0 S b n p K gc ec bc) : Rel S b := ⟨n, p, K, gc, ec, bc, h⟩
theorem R0.go {S S' : Sto} {b n p K gc ec bc : Nat} (h : R0 S b n p K gc ec bc) (f : scr S S') (I : IdOK S' n p K gc) : R0 S' b n p K gc ec bc := by
  obtain ⟨h1, h2, h3, h4, h5, h6, ed, h7, h8⟩ := h
  exact ⟨h1.keep f, by rw [f.2.2.1 3 (by decide)]; exact h2, h3.keep f, h4.keep f, h5.keep f, I, ed, by rw [f.1 1 (by decide)]; exact h7, h8⟩
theorem R0.goM {S S' : Sto} {b n p K gc ec bc : Nat} {l : List Nat} (h : R0 S b n p K gc ec bc) (f : frM l S S') (hl : ∀ c, c ∈ l → 365 ≤ c) : R0 S' b n p K gc ec bc :=
  h.go (f.scr hl) (IdOK.keepM h.1.nw h.2.2.2.2.2.1 (f.scr hl) (fun c h1 h2 => f.1 c (by omega) (fun q => by have := hl c q; omega)))
/-- the class's scratch beside the kept ideals -/
theorem R0.goC {S S' : Sto} {b n p K gc ec bc : Nat} (h : R0 S b n p K gc ec bc) (f : scC S S') (e : ∀ c, 49 ≤ c → c ≤ 106 → S'.1 c = S.1 c) : R0 S' b n p K gc ec bc :=
  h.go f.scr (IdOK.keepM h.1.nw h.2.2.2.2.2.1 f.scr e)
theorem fr2.scC {s : Nat} {S S' : Sto} (hs : s < 3) (f : fr2 s S S') : scC S S' := by
  have l := sps s hs
  exact ⟨fun c hc => f.1 c (by unfold spC; omega) (by omega) (by omega) (by omega), f.2.2⟩
theorem R0.side {S S' : Sto} {b n p K gc ec bc s : Nat} (h : R0 S b n p K gc ec bc) (hs : s < 3) (f : fr2 s S S') (I : IdOK S' n p K gc) : R0 S' b n p K gc ec bc := h.go (f.scC hs).scr I
/-- both tell the same -/
theorem link {S S2 : Sto} {h p w K rk : Nat} {V : Vc → Prop} {L : Nat → Nat} {R : Nat → Vc} (H : SpOK S h p w K V) (M : MB S2 p w K V rk L R) : (∀ l, hdS S h w l ↔ hdL rk L l) ∧ (∀ l i, hdS S h w l → i < w → rwS S h l i = R l i) ∧ S.1 h 2 = nI rk := by
  have hp := H.1.2.1.pos
  have h1 := fun l => H.2.2.1.sameHd hp.1 H.2.2.2 M.2.2.2.2.1 l
  refine ⟨h1, fun l i hl hi => H.2.2.1.sameR hp.1 H.2.2.2 M.2.2.2.2.1 hl hi, ?_⟩
  rw [H.2.1.1, cz_cnt, M.2.2.2.2.2.2]
  congr 1
  refine ctB_cong (fun l _ => ?_)
  congr 1
  exact propext (h1 l)
theorem op_rank {S : Sto} {b : Nat} (x : Int32) (H : Rel S b) : wp_X8_rank x S (fun r S1 => wp_X9_rank x S1 (fun r' S2 => r = r' ∧ Rel S2 b)) := by
  obtain ⟨n, p, K, gc, ec, bc, H⟩ := H.r0
  obtain ⟨h1, h2, h3, h4, h5, h6, h7⟩ := id H
  unfold wp_X8_rank q_X8_rank_26
  refine sp_side8 (fun ⟨s, hs, e⟩ => ?_) (fun h0 => ?_)
  · subst e
    refine ⟨fun z => absurd z (by decide), fun _ => sp_ofSide hs h1.nw h6 (fun S1 N1 I1 P1 f1 _ => ?_)⟩
    have R1 := H.side hs f1 I1
    have P1' := SpOK.g N1.2.2.2.2.1 (fun i hi => (f1.scC hs).1 _ (by omega)) P1
    unfold wp_X9_rank
    refine sp_side9 (fun _ => ⟨fun _ => ?_, fun z => absurd z (by decide)⟩) (fun h0 => absurd ⟨s, hs, rfl⟩ h0)
    refine sp_spans hs (R1.1.cm R1.2.1) R1.1.gm (fun S2 rk L R b1 b2 => ?_)
    exact ⟨by rw [(link P1' b1).2.2, b1.1.2.2.2.2.2], (R1.goM b2.M (by simp [lSp])).rel⟩
  · refine ⟨fun _ => ?_, fun z => absurd rfl z⟩
    unfold wp_X9_rank
    exact sp_side9 (fun h => absurd h h0) (fun _ => ⟨fun z => absurd rfl z, fun _ => ⟨rfl, H.rel⟩⟩)
theorem op_count {S : Sto} {b : Nat} (x d : Int32) (H : Rel S b) : wp_X8_count x d S (fun r S1 => wp_X9_count x d S1 (fun r' S2 => r = r' ∧ Rel S2 b)) := by
  obtain ⟨n, p, K, gc, ec, bc, H⟩ := H.r0
  obtain ⟨h1, h2, h3, h4, h5, h6, h7⟩ := id H
  have N := h1.nw
  have hC := h1.cm h2
  have hw := pow_n N.1.2.2.2.1
  have n4 := N.1.2.2.2.1
  unfold wp_X8_count q_X8_count_22
  have none : (¬ ((∃ s, s < 3 ∧ x = nI s) ∧ ∃ k, k < n + 1 ∧ d = nI k)) → wp_X9_count x d S (fun r' S2 => (-1 : Int32) = r' ∧ Rel S2 b) := by
    intro hn
    unfold wp_X9_count q_X9_count_21
    refine sp_side9 (fun hs => ⟨fun z => absurd z (by decide), fun _ => ?_⟩) (fun _ => ⟨fun _ => ⟨rfl, H.rel⟩, fun z => absurd rfl z⟩)
    rw [hC.1, nI_iI, iI_l ⟨by omega, by omega⟩]
    refine sp_inN (k := n + 1) (by omega) (by congr 1; omega) (fun hd => absurd ⟨hs, hd⟩ hn) (fun _ => ⟨fun z => absurd rfl z, fun _ => ⟨rfl, H.rel⟩⟩)
  refine sp_side8 (fun ⟨s, hs, e⟩ => ⟨fun z => absurd z (by decide), fun _ => ?_⟩) (fun h0 => ⟨fun _ => none (fun q => h0 q.1), fun z => absurd rfl z⟩)
  subst e
  have neg : d < 0 → ¬ ∃ k, k < n + 1 ∧ d = nI k := fun h ⟨k, hk, e⟩ => by rw [e] at h; exact nI_pos (by omega) h
  refine ⟨fun q => none (fun z => neg q z.2), fun q => ?_⟩
  obtain ⟨k, hk, rfl⟩ := nI_of q
  rw [N.1.1, nI_leI hk (by omega)]
  refine ⟨fun q2 => ?_, fun q2 => none (fun ⟨_, k', hk', e⟩ => by rw [nI_eq hk (by omega)] at e; omega)⟩
  refine sp_ofSide hs N h6 (fun S1 N1 I1 P1 f1 _ => ?_)
  have R1 := H.side hs f1 I1
  have P1' := SpOK.g N1.2.2.2.2.1 (fun i hi => (f1.scC hs).1 _ (by omega)) P1
  refine sp_leadsOfDegree P1 (by omega) (by omega) ?_
  unfold wp_X9_count
  refine sp_side9 (fun _ => ⟨fun z => absurd z (by decide), fun _ => ?_⟩) (fun h0 => absurd ⟨s, hs, rfl⟩ h0)
  rw [(R1.1.cm R1.2.1).1, nI_iI n, iI_l ⟨by omega, by omega⟩]
  refine sp_inN (k := n + 1) (by omega) (by congr 1; omega) (fun _ => ⟨fun _ => ?_, fun z => absurd z (by decide)⟩) (fun h0 => absurd ⟨k, by omega, rfl⟩ h0)
  refine sp_spans hs (R1.1.cm R1.2.1) R1.1.gm (fun S2 rk L R b1 b2 => ?_)
  refine sp_countOf b1 (by omega) (by omega) ⟨?_, (R1.goM b2.M (by simp [lSp])).rel⟩
  congr 1
  rw [ctB_rows b1 (fun l => bcN l == k)]
  refine ctB_cong (fun l _ => ?_)
  congr 1
  have := (link P1' b1).1 l
  exact propext ⟨fun z => ⟨this.mp z.1, by simpa using z.2⟩, fun z => ⟨this.mpr z.1, by simpa using z.2⟩⟩
theorem op_odds {S : Sto} {b : Nat} (x d : Int32) (H : Rel S b) : wp_X8_odds x d S (fun r S1 => wp_X9_odds x d S1 (fun r' S2 => r = r' ∧ Rel S2 b)) := by
  obtain ⟨n, p, K, gc, ec, bc, H⟩ := H.r0
  obtain ⟨h1, h2, h3, h4, h5, h6, h7⟩ := id H
  have N := h1.nw
  have n4 := N.1.2.2.2.1
  have hw := pow_n n4
  unfold wp_X8_odds q_X8_odds_16
  have none : (¬ ((∃ s, s < 3 ∧ x = nI s) ∧ ∃ k, k < 2 ∧ d = nI k)) → wp_X9_odds x d S (fun r' S2 => (-9223372036854775808 : Int64) = r' ∧ Rel S2 b) := by
    intro hn
    unfold wp_X9_odds q_X9_odds_17
    refine sp_side9 (fun hs => ⟨fun z => absurd z (by decide), fun _ => ?_⟩) (fun _ => ⟨fun _ => ⟨rfl, H.rel⟩, fun z => absurd rfl z⟩)
    exact sp_inN (k := 2) (by omega) rfl (fun hd => absurd ⟨hs, hd⟩ hn) (fun _ => ⟨fun z => absurd rfl z, fun _ => ⟨rfl, H.rel⟩⟩)
  -- the reference, behind the checks
  have ref : ∀ (S1 : Sto) (s k rk' : Nat) (a : Int64), s < 3 → k < 2 → R0 S1 b n p K gc ec bc → (∀ S2 rk L R, MB S2 p (2 ^ n) K (IdV p n s gc (gS S1)) rk L R → rk = rk' ∨ k = 0) → (k = 0 → a = 1) → (k = 1 → rk' ≤ 2 ^ n ∧ a = Nat.rec (1 : Int64) (fun _ y => y * (nI p).toInt64) (2 ^ n - rk')) → wp_X9_odds (nI s) (nI k) S1 (fun r' S2 => a = r' ∧ Rel S2 b) := by
    intro S1 s k rk' a hs hk R1 hrk ha0 ha1
    unfold wp_X9_odds
    refine sp_side9 (fun _ => ⟨fun z => absurd z (by decide), fun _ => ?_⟩) (fun h0 => absurd ⟨s, hs, rfl⟩ h0)
    refine sp_inN (k := 2) (by omega) rfl (fun _ => ⟨fun _ => ?_, fun z => absurd z (by decide)⟩) (fun h0 => absurd ⟨k, hk, rfl⟩ h0)
    refine sp_spans hs (R1.1.cm R1.2.1) R1.1.gm (fun S2 rk L R b1 b2 x5 ex5 => ?_)
    have hrk2 := b1.rk
    have C2 := (R1.1.cm R1.2.1).keep b2
    have R2 := R1.goM b2.M (by simp [lSp])
    rw [b1.1.2.2.2.2.2] at ex5
    rw [ex5]
    refine loopE (σ := Int64) (fun m i y => q_X9_odds_34 (nI s) (nI k) _ m y (nI i) S2) (fun i y => rk ≤ i ∧ y = Nat.rec (1 : Int64) (fun _ y => y * (nI p).toInt64) (i - rk)) (2 ^ n) ?_ ?_ rk 1 hrk2 ⟨Nat.le_refl _, by rw [Nat.sub_self]; rfl⟩
    · rintro y ⟨y1, y2⟩
      unfold q_X9_odds_34 q_X9_odds_66
      rw [C2.2.2.2.1, nI_leI (by omega) (by omega)]
      refine ⟨fun _ => ⟨fun z => ⟨?_, R2.rel⟩, fun z => ⟨?_, R2.rel⟩⟩, fun z => by omega⟩
      · have hk1 : k = 1 := by
          have : k = 0 ∨ k = 1 := by omega
          rcases this with e | e
          · rw [e] at z; exact absurd rfl z
          · exact e
        have e := (hrk S2 rk L R b1).resolve_right (by omega)
        rw [(ha1 hk1).2, y2, e]
      · have hk0 : k = 0 := by
          rw [show (0 : Int32) = nI 0 from rfl, nI_eq (by omega) (by omega)] at z; exact z
        exact ha0 hk0
    · rintro i m y hi ⟨y1, y2⟩ ih
      unfold q_X9_odds_34
      rw [C2.2.2.2.1, C2.2.1, nI_leI (by omega) (by omega)]
      refine ⟨fun z => by omega, fun _ y' ey x5 ex => ?_⟩
      rw [ex, nI_1]
      refine ih y' ⟨by omega, ?_⟩
      rw [ey, y2, show i + 1 - rk = (i - rk) + 1 by omega]
  refine sp_side8 (fun ⟨s, hs, e⟩ => ⟨fun z => absurd z (by decide), fun _ => ?_⟩) (fun h0 => ⟨fun _ => none (fun q => h0 q.1), fun z => absurd rfl z⟩)
  subst e
  have neg : d < 0 → ¬ ∃ k, k < 2 ∧ d = nI k := fun h ⟨k, hk, e⟩ => by rw [e] at h; exact nI_pos (by omega) h
  refine ⟨fun q => none (fun z => neg q z.2), fun q => ?_⟩
  obtain ⟨k, hk, rfl⟩ := nI_of q
  rw [show (1 : Int32) = nI 1 from rfl, nI_leI hk (by omega)]
  refine ⟨fun q2 => ⟨fun q3 => ?_, fun q3 => ?_⟩, fun q2 => none (fun ⟨_, k', hk', e⟩ => by rw [nI_eq hk (by omega)] at e; omega)⟩
  · refine sp_width N.1.1 n4 ?_
    refine sp_ofSide hs N h6 (fun S1 N1 I1 P1 f1 _ x3 ex3 => ?_)
    have R1 := H.side hs f1 I1
    have P1' := SpOK.g N1.2.2.2.2.1 (fun i hi => (f1.scC hs).1 _ (by omega)) P1
    have hk1 : k = 1 := by
      have : k = 0 ∨ k = 1 := by omega
      rcases this with e | e
      · rw [e] at q3; exact absurd rfl q3
      · exact e
    have hle := cz_le (S1.1 (49 + 19 * s + 2 + ln (49 + 19 * s + 1))) (2 ^ n)
    obtain ⟨rk', hrk'⟩ : ∃ rk', rk' = cz (S1.1 (49 + 19 * s + 2 + ln (49 + 19 * s + 1))) (2 ^ n) := ⟨_, rfl⟩
    rw [P1.2.1.1, ← hrk', pk_sub (by omega)] at ex3
    rw [ex3]
    refine loopE (σ := Int64) (fun m i y => q_X8_odds_56 (nI s) (nI k) _ m (nI (2 ^ n - rk')) y (nI i) S1) (fun i y => y = Nat.rec (1 : Int64) (fun _ y => y * (nI p).toInt64) i) (2 ^ n - rk') ?_ ?_ 0 1 (Nat.zero_le _) rfl
    · intro y hy
      unfold q_X8_odds_56
      rw [nI_leI (by omega) (by omega)]
      refine ⟨fun _ => ?_, fun z => by omega⟩
      refine ref S1 s k rk' y hs (by omega) R1 (fun S2 rk L R b1 => Or.inl ?_) (fun z => by omega) (fun _ => ⟨by omega, hy⟩)
      have := (link P1' b1).2.2
      have hr := b1.rk
      rw [P1.2.1.1, ← hrk', nI_eq (by omega) (by omega)] at this
      exact this.symm
    · intro i m y hi hy ih
      unfold q_X8_odds_56
      rw [nI_leI (by omega) (by omega), N1.1.2.1]
      refine ⟨fun z => by omega, fun _ y' ey x6 ex => ?_⟩
      rw [ex, nI_1]
      refine ih y' ?_
      rw [ey, hy]
  · have hk0 : k = 0 := by
      rw [show (0 : Int32) = nI 0 from rfl, nI_eq hk (by omega)] at q3; exact q3
    exact ref S s k 0 1 hs (by omega) H (fun _ _ _ _ _ => Or.inr hk0) (fun _ => rfl) (fun z => by omega)
