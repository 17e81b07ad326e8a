/-! the reference: rests, leads in order, counts -/
/-- element e of the reference -/
def eM (S : Sto) (e : Nat) : Vc := fun j => (S.1 354 (16 * e + j)).toInt
theorem sp_rests {e w p K rk : Nat} {V : Vc → Prop} {L : Nat → Nat} {R : Nat → Vc} {X : Vc} {S : Sto} {Q : Sto → Prop} (H : MB S p w K V rk L R) (hw : w ≤ 16) (he : e < 6) (h3 : S.1 353 3 = nI w) (hX : ∀ i, i < w → S.1 354 (16 * e + i) = iI (X i) ∧ 0 ≤ X i ∧ X i < p)
    (hQ : ∀ (S' : Sto) (r : Vc), rd (S'.1 373) w p r → Rest p w V (hdL rk L) X r → (∀ i, w ≤ i → i < 16 → S'.1 373 i = 0) → frs [370, 373] S S' → Q S') : wp_X9_rests (nI e) S Q := by
  have l3 : ln 373 = 16 := by decide +kernel
  unfold wp_X9_rests
  refine loopE (fun m i (T : Sto) => q_X9_rests_2 (nI e) Q m (nI i) T) (fun i T => T = setA S 370 (fl i (fun i => S.1 354 (16 * e + i)) (S.1 370))) w ?_ ?_ 0 S (by omega) (by rw [fl_0, setA_self])
  · intro T hT
    unfold q_X9_rests_2
    have f1 : frs [370] S T := by rw [hT]; exact frs.set (by simp)
    rw [f1.1 353 (by simp), h3, nI_leI (by omega) (by omega)]
    refine ⟨fun _ => ?_, fun z => by omega⟩
    refine sp_reduce (X := X) (H.keepS f1 (by simp)) (by rw [hT, setA_eq]; intro i hi; rw [fl_lt _ _ hi]; exact hX i hi) (fun F r b1 b2 b3 => ?_)
    have f2 : frs [370, 373] S (setA T 370 F) := (f1.mono (by simp)).tr (frs.set (by simp))
    refine loopE (fun m i (Y : Sto) => q_X9_rests_39 (nI e) Q m (nI i) Y) (fun i Y => Y = setA (setA T 370 F) 373 (fl i (fun i => if i < w then F i else 0) (T.1 373))) 16 ?_ ?_ 0 _ (by omega) (by rw [fl_0]; rw [show T.1 373 = (setA T 370 F).1 373 from (setA_ne _ _ (by decide)).symm, setA_self])
    · intro Y hY
      unfold q_X9_rests_39
      refine ⟨fun _ => hQ Y r (fun i hi => ?_) b2 (fun i h1 h2 => ?_) (f2.tr (by rw [hY]; exact frs.set (by simp))), fun z => absurd (show (16 : Int32) ≤ nI 16 by decide) z⟩
      · rw [hY, setA_eq, fl_lt _ _ (by omega), if_pos hi]; exact b1 i hi
      · rw [hY, setA_eq, fl_lt _ _ h2, if_neg (by omega)]
    · intro i m Y hi hY ih
      unfold q_X9_rests_39 q_X9_rests_68
      have y3 : Y.1 353 3 = nI w := by rw [hY, setA_ne _ _ (by decide), f2.1 353 (by simp)]; exact h3
      have y7 : Y.1 370 = F := by rw [hY, setA_ne _ _ (by decide), setA_eq]
      have last : ∀ v : Int32, v = (if i < w then F i else 0) → vp_in (nI i) 16 ∧ ∀ S_2 : Sto, S_2 = uA Y 373 i v → ∀ x2_3 : Int32, x2_3 = nI i + 1 → q_X9_rests_39 (nI e) Q m x2_3 S_2 := by
        intro v hv
        refine ⟨vp_nI (by omega) (by omega), fun S1 e1 x ex => ?_⟩
        rw [ex, nI_1]
        refine ih S1 ?_
        rw [e1, hY, uA_setA, setA_setA, setA_eq]
        congr 1
        funext j
        by_cases q : j = i
        · subst q; rw [upd_eq, fl_lt _ _ (by omega), hv]
        · rw [upd_ne _ _ q]
          by_cases q2 : j < i
          · rw [fl_lt _ _ q2, fl_lt _ _ (by omega)]
          · rw [fl_ge _ _ (by omega), fl_ge _ _ (by omega)]
      rw [show (16 : Int32) = nI 16 from rfl, nI_leI (by omega) (by omega), y3, nI_leI (by omega) (by omega), tn_nI (by omega), y7]
      exact ⟨fun z => by omega, fun _ => ⟨fun z => last 0 (by rw [if_neg (by omega)]), fun z => ⟨vp_nI (by omega) (by omega), last _ (by rw [if_pos (by omega)])⟩⟩⟩
  · intro i m T hi hT ih
    unfold q_X9_rests_2
    have f1 : frs [370] S T := by rw [hT]; exact frs.set (by simp)
    rw [f1.1 353 (by simp), h3, nI_leI (by omega) (by omega), show (16 : Int32) = nI 16 from rfl, pk_mul, nI_add, tn_nI (i := i) (by omega), tn_nI (i := 16 * e + i) (by omega), f1.1 354 (by simp)]
    refine ⟨fun z => by omega, fun _ => ⟨vp_nI (by omega) (by omega), vp_nI (by omega) (by omega), fun S1 e1 x ex => ?_⟩⟩
    rw [ex, nI_1]
    refine ih S1 ?_
    rw [e1, hT]
    exact fl_step' S 370 i _ _ rfl
theorem sp_liesWithin {e w p K rk : Nat} {V : Vc → Prop} {L : Nat → Nat} {R : Nat → Vc} {X : Vc} {S : Sto} {Q : Int32 → Sto → Prop} (H : MB S p w K V rk L R) (hw : w ≤ 16) (he : e < 6) (h3 : S.1 353 3 = nI w) (hX : ∀ i, i < w → S.1 354 (16 * e + i) = iI (X i) ∧ 0 ≤ X i ∧ X i < p)
    (q1 : V X → ∀ S', frs [370, 373] S S' → Q 1 S') (q0 : ¬ V X → ∀ S', frs [370, 373] S S' → Q 0 S') : wp_X9_liesWithin (nI e) S Q := by
  have hp8 := H.1.1.pos
  unfold wp_X9_liesWithin
  refine sp_rests H hw he h3 hX (fun T r b1 b2 _ b3 => ?_)
  have hz := Rest.zero H.2.2.2.2.2.1 H.2.2.2.2.1 b2
  have key : ∀ k i, k + i = w → (∀ j, j < i → r j = 0) → q_X9_liesWithin_7 (nI e) Q (k + 1) (nI i) T := by
    intro k
    induction k with
    | zero =>
      intro i hi hj
      unfold q_X9_liesWithin_7
      rw [b3.1 353 (by simp), h3, nI_leI (by omega) (by omega)]
      exact ⟨fun _ => q1 (hz.mpr (fun j hj2 => hj j (by omega))) T b3, fun z => by omega⟩
    | succ k ih =>
      intro i hi hj
      unfold q_X9_liesWithin_7
      obtain ⟨r1, r2, r3⟩ := b1 i (by omega)
      rw [b3.1 353 (by simp), h3, nI_leI (by omega) (by omega), tn_nI (by omega), r1, iI_eq0 ⟨by omega, by omega⟩]
      refine ⟨fun z => by omega, fun _ => ⟨vp_nI (by omega) (by omega), fun z x ex => ?_, fun z => q0 (fun hv => z (hz.mp hv i (by omega))) T b3⟩⟩
      rw [ex, nI_1]
      refine ih (i + 1) (by omega) (fun j hj2 => ?_)
      rcases Nat.lt_or_ge j i with q | q
      · exact hj j q
      · rw [show j = i by omega]; exact z
  exact ⟨w + 1, key w 0 (by omega) (fun j q => by omega)⟩
/-- what is made becomes element k -/
theorem sp_lays {k : Nat} {S : Sto} {Q : Int32 → Sto → Prop} (hk : k < 6) (hQ : Q (nI (cz (S.1 373) 16)) (setA S 354 (fun j => if 16 * k ≤ j ∧ j < 16 * k + 16 then S.1 373 (j - 16 * k) else S.1 354 j))) : wp_X9_lays (nI k) S Q := by
  unfold wp_X9_lays
  refine loopE (σ := Int32 × Sto) (fun m i T => q_X9_lays_4 (nI k) Q m T.1 (nI i) T.2) (fun i T => T.1 = nI (cz (S.1 373) i) ∧ T.2 = setA S 354 (fun j => if 16 * k ≤ j ∧ j < 16 * k + i then S.1 373 (j - 16 * k) else S.1 354 j)) 16 ?_ ?_ 0 (0, S) (by omega) ⟨rfl, ?_⟩
  · rintro ⟨x, T⟩ ⟨h1, h2⟩
    simp only at h1 h2 ⊢
    unfold q_X9_lays_4
    rw [h1, h2]
    exact ⟨fun _ => hQ, fun z => absurd (show (16 : Int32) ≤ nI 16 by decide) z⟩
  · rintro i m ⟨x, T⟩ hi ⟨h1, h2⟩ ih
    simp only at h1 h2 ⊢
    unfold q_X9_lays_4 q_X9_lays_39
    have t7 : T.1 373 = S.1 373 := by rw [h2, setA_ne _ _ (by decide)]
    rw [show (16 : Int32) = nI 16 from rfl, nI_leI (by omega) (by omega), pk_mul, nI_add, tn_nI (i := i) (by omega), tn_nI (i := 16 * k + i) (by omega), t7]
    refine ⟨fun z => by omega, fun _ => ⟨vp_nI (by omega) (by omega), vp_nI (by omega) (by omega), fun S1 e1 => ⟨vp_nI (by omega) (by omega), ?_⟩⟩⟩
    have s7 : S1.1 373 = S.1 373 := by rw [e1, uA_ne (by decide)]; exact t7
    have s1 : S1 = setA S 354 (fun j => if 16 * k ≤ j ∧ j < 16 * k + (i + 1) then S.1 373 (j - 16 * k) else S.1 354 j) := by
      rw [e1, h2, uA_setA, setA_setA, setA_eq]
      congr 1
      funext j
      by_cases q : j = 16 * k + i
      · rw [q, upd_eq, if_pos (by omega), show 16 * k + i - 16 * k = i by omega]
      · rw [upd_ne _ _ q]
        by_cases q2 : 16 * k ≤ j ∧ j < 16 * k + i
        · rw [if_pos q2, if_pos (by omega)]
        · rw [if_neg q2, if_neg (by omega)]
    rw [s7]
    refine ⟨fun z x3 e3 => ?_, fun z y ey x3 e3 => ?_⟩
    · rw [e3, nI_1]
      exact ih (x, S1) ⟨by show x = _; rw [h1, cz, if_pos z]; rfl, s1⟩
    · rw [e3, nI_1]
      exact ih (y, S1) ⟨by show y = _; rw [ey, h1, nI_1, cz, if_neg z], s1⟩
  · show S = _
    rw [show (fun j => if 16 * k ≤ j ∧ j < 16 * k + 0 then S.1 373 (j - 16 * k) else S.1 354 j) = S.1 354 from funext fun j => if_neg (by omega), setA_self]
/-- how many of the first c places in order lead -/
noncomputable def npM (K w : Nat) (hd : Nat → Prop) (c : Nat) : Nat := ctB (fun j => isB (hd (clf K w j))) c
theorem npM_lt {K w : Nat} {hd : Nat → Prop} {c c' : Nat} (h : c < c') (hc : hd (clf K w c)) : npM K w hd c < npM K w hd c' := by
  have mono : ∀ a b, a ≤ b → npM K w hd a ≤ npM K w hd b := by
    intro a b hab
    induction b with
    | zero => rw [show a = 0 by omega]; exact Nat.le_refl _
    | succ b ih =>
      rcases Nat.lt_or_ge a (b + 1) with q | q
      · have := ih (by omega)
        show _ ≤ ctB _ b + _
        unfold npM at *
        omega
      · rw [show a = b + 1 by omega]; exact Nat.le_refl _
  have h1 : npM K w hd (c + 1) = npM K w hd c + 1 := by
    show ctB _ c + _ = ctB _ c + 1
    rw [if_pos (isB_t.mpr hc)]
  have := mono (c + 1) c' h
  omega
theorem npM_inj {K w : Nat} {hd : Nat → Prop} {c c' : Nat} (hc : hd (clf K w c)) (hc' : hd (clf K w c')) (e : npM K w hd c = npM K w hd c') : c = c' := by
  rcases Nat.lt_trichotomy c c' with q | q | q
  · have := npM_lt q hc; omega
  · exact q
  · have := npM_lt q hc'; omega
theorem sp_rowAt {i : Int32} {p w K rk : Nat} {V : Vc → Prop} {L : Nat → Nat} {R : Nat → Vc} {S : Sto} {Q : Int32 → Sto → Prop} (H : MB S p w K V rk L R)
    (h1 : ∀ c r, c < w → r < rk → L r = clf K w c → i = nI (npM K w (hdL rk L) c) → Q (nI r) S) (h2 : (∀ c, c < w → hdL rk L (clf K w c) → ¬ i = nI (npM K w (hdL rk L) c)) → Q (-1) S) : wp_X9_rowAt i S Q := by
  obtain ⟨⟨hp, hw, hok, p1, h27, h25⟩, hc, hr, hrb, hB, hV, hct⟩ := id H
  have hcl := clf_ok hok
  have hrk := H.rk
  unfold wp_X9_rowAt
  refine loopE (σ := Int32) (fun m c x => q_X9_rowAt_4 i Q m x (nI c) S) (fun c x => x = nI (npM K w (hdL rk L) c) ∧ ∀ b, b < c → hdL rk L (clf K w b) → ¬ i = nI (npM K w (hdL rk L) b)) w ?_ ?_ 0 0 (by omega) ⟨rfl, fun b q => by omega⟩
  · rintro x ⟨a1, a2⟩
    unfold q_X9_rowAt_4
    rw [h27, nI_leI (by omega) (by omega)]
    exact ⟨fun _ => h2 a2, fun z => by omega⟩
  · rintro c m x hcw ⟨a1, a2⟩ ih
    unfold q_X9_rowAt_4 q_X9_rowAt_49
    obtain ⟨q1, -⟩ := hcl c hcw
    have hle := ctB_le (fun j => isB (hdL rk L (clf K w j))) c
    rw [h27, nI_leI (by omega) (by omega), tn_nI (by omega), hc c hcw, tn_nI (by omega)]
    refine ⟨fun z => by omega, fun _ => ⟨vp_nI (by omega) (by omega), vp_nI (by omega) (by omega), fun z => ?_, fun z x3 e3 => ?_⟩⟩
    · rcases hrb _ q1 with hm | ⟨k, hk, hLk⟩
      · rw [hm] at z; exact absurd z (by decide)
      · have s3 := (hr k hk).2.2.1
        rw [hLk] at s3
        rw [s3]
        refine ⟨fun z2 y ey x3 e3 => ?_, fun z2 => ⟨vp_nI (by omega) (by omega), vp_nI (by omega) (by omega), h1 c k hcw hk hLk (by rw [← z2, a1])⟩⟩
        rw [e3, nI_1]
        refine ih y ⟨?_, fun b hb hd => ?_⟩
        · rw [ey, a1, nI_1]
          show _ = nI (ctB _ c + _)
          rw [if_pos (isB_t.mpr ⟨k, hk, hLk⟩)]; rfl
        · rcases Nat.lt_or_ge b c with q | q
          · exact a2 b q hd
          · rw [show b = c by omega, ← a1]; exact fun e => z2 e.symm
    · rw [e3, nI_1]
      have hn : ¬ hdL rk L (clf K w c) := by
        rintro ⟨k, hk, e⟩
        have := (hr k hk).2.2.1
        rw [e] at this
        rw [this] at z
        exact z (nI_pos' (by omega))
      refine ih x ⟨?_, fun b hb hd => ?_⟩
      · rw [a1]
        show _ = nI (ctB _ c + _)
        rw [if_neg (by rw [isB_t]; exact hn)]; rfl
      · rcases Nat.lt_or_ge b c with q | q
        · exact a2 b q hd
        · exact absurd (by rw [← show b = c by omega]; exact hd) hn
/-! the class's count of leads ahead is the reference's -/
theorem ctB_skip {f : Nat → Bool} {a : Nat} : ∀ {b : Nat}, a ≤ b → (∀ j, a ≤ j → j < b → f j = false) → ctB f b = ctB f a
  | 0, h, _ => by rw [show a = 0 by omega]
  | b + 1, h, h0 => by
    rcases Nat.lt_or_ge a (b + 1) with q | q
    · show ctB f b + _ = ctB f a
      rw [h0 b (by omega) (by omega), ctB_skip (by omega) (fun j q1 q2 => h0 j q1 (by omega))]; simp
    · rw [show a = b + 1 by omega]
theorem gap4a : ps 1 (clf 1 4 0) = 0 := by decide +kernel
theorem gap4b : ∀ c, c < 4 → ∀ j, j < 16 → 0 < c → ps 1 (clf 1 4 (c - 1)) < j → j < ps 1 (clf 1 4 c) → 4 ≤ plc 1 j := by decide +kernel
theorem gap4 (c : Nat) (hc : c < 4) (j : Nat) (hj : j < 16) : (c = 0 → ps 1 (clf 1 4 0) = 0) ∧ (0 < c → ps 1 (clf 1 4 (c - 1)) < j → j < ps 1 (clf 1 4 c) → 4 ≤ plc 1 j) := ⟨fun _ => gap4a, gap4b c hc j hj⟩
theorem gap8a : ps 1 (clf 1 8 0) = 0 := by decide +kernel
theorem gap8b : ∀ c, c < 8 → ∀ j, j < 16 → 0 < c → ps 1 (clf 1 8 (c - 1)) < j → j < ps 1 (clf 1 8 c) → 8 ≤ plc 1 j := by decide +kernel
theorem gap8 (c : Nat) (hc : c < 8) (j : Nat) (hj : j < 16) : (c = 0 → ps 1 (clf 1 8 0) = 0) ∧ (0 < c → ps 1 (clf 1 8 (c - 1)) < j → j < ps 1 (clf 1 8 c) → 8 ≤ plc 1 j) := ⟨fun _ => gap8a, gap8b c hc j hj⟩
theorem gap16a : ps 1 (clf 1 16 0) = 0 := by decide +kernel
theorem gap16b : ∀ c, c < 16 → ∀ j, j < 16 → 0 < c → ps 1 (clf 1 16 (c - 1)) < j → j < ps 1 (clf 1 16 c) → 16 ≤ plc 1 j := by decide +kernel
theorem gap16 (c : Nat) (hc : c < 16) (j : Nat) (hj : j < 16) : (c = 0 → ps 1 (clf 1 16 0) = 0) ∧ (0 < c → ps 1 (clf 1 16 (c - 1)) < j → j < ps 1 (clf 1 16 c) → 16 ≤ plc 1 j) := ⟨fun _ => gap16a, gap16b c hc j hj⟩
theorem ps_16 : ∀ c, c < 16 → ps 1 c < 16 := by decide +kernel
theorem np_npM {K w : Nat} {hd : Nat → Prop} (hok : okW K w) (hdw : ∀ l, hd l → l < w) : ∀ c, c < w → np K hd (ps K (clf K w c)) = npM K w hd c := by
  have hcl := clf_ok hok
  have gap : ∀ c, c < w → ∀ j, (c = 0 → ps K (clf K w 0) = 0) ∧ (0 < c → ps K (clf K w (c - 1)) < j → j < ps K (clf K w c) → w ≤ plc K j) := by
    intro c hc j
    rcases hok with rfl | ⟨rfl, hw⟩
    · refine ⟨fun _ => rfl, fun h0 h1 h2 => ?_⟩
      have e1 : ps 0 (clf 0 w (c - 1)) = c - 1 := rfl
      have e2 : ps 0 (clf 0 w c) = c := rfl
      omega
    · rcases Nat.lt_or_ge j 16 with q | q
      · rcases hw with rfl | rfl | rfl
        · exact gap4 c hc j q
        · exact gap8 c hc j q
        · exact gap16 c hc j q
      · have h1 := ps_16 (clf 1 w c) (by have := (hcl c hc).1; omega)
        have h2 := ps_16 (clf 1 w 0) (by have := (hcl 0 (by omega)).1; omega)
        refine ⟨fun e => ?_, fun _ _ h3 => by omega⟩
        rcases hw with rfl | rfl | rfl
        · exact (gap4 c hc 0 (by decide)).1 e
        · exact (gap8 c hc 0 (by decide)).1 e
        · exact (gap16 c hc 0 (by decide)).1 e
  intro c
  induction c with
  | zero => intro hc; rw [(gap 0 hc 0).1 rfl]; rfl
  | succ c ih =>
    intro hc
    have h1 := ih (by omega)
    have hlt := (hcl (c + 1) hc).2.1 c (by omega)
    unfold np at h1 ⊢
    rw [ctB_skip (a := ps K (clf K w c) + 1) (by omega) (fun j q1 q2 => isB_f.mpr (fun q => by
      have := (gap (c + 1) hc j).2 (by omega) (by show ps K (clf K w c) < j; omega) q2
      have := hdw _ q
      omega))]
    show ctB _ (ps K (clf K w c)) + _ = ctB _ c + _
    simp only [plc_ps]
    rw [h1]; rfl
theorem sp_leadNumber' {h p w K : Nat} {V : Vc → Prop} {i : Int32} {S : Sto} {Q : Int32 → Sto → Prop} (hok : okW K w) (H : SpOK S h p w K V)
    (h1 : ∀ c, c < w → hdS S h w (clf K w c) → i = nI (npM K w (hdS S h w) c) → Q (nI (clf K w c)) S) (h2 : (∀ c, c < w → hdS S h w (clf K w c) → ¬ i = nI (npM K w (hdS S h w) c)) → Q (-1) S) : wp_X5_leadNumber h i S Q := by
  have hcl := clf_ok hok
  have hdw : ∀ l, hdS S h w l → l < w := fun l q => q.1
  refine sp_leadNumber H (fun j hj e => ?_) (fun hn => h2 (fun c hc hd e => ?_))
  · obtain ⟨-, -, c, hc, ec⟩ := hcl _ hj.1
    rw [← ec]
    refine h1 c hc (by rw [ec]; exact hj) ?_
    rw [← np_npM hok hdw c hc, ec, ps_plc]; exact e
  · refine hn (ps K (clf K w c)) (by rw [plc_ps]; exact hd) ?_
    rw [np_npM hok hdw c hc]; exact e
theorem sp_countOf {d p w K rk : Nat} {V : Vc → Prop} {L : Nat → Nat} {R : Nat → Vc} {S : Sto} {Q : Int32 → Sto → Prop} (H : MB S p w K V rk L R) (hw : w ≤ 64) (hd : d < 100) (hQ : Q (nI (ctB (fun r => bcN (L r) == d) rk)) S) : wp_X9_countOf (nI d) S Q := by
  obtain ⟨⟨hp, -, hok, p1, h27, h25⟩, hc, hr, hrb, hB, hV, hct⟩ := id H
  have hrk := H.rk
  unfold wp_X9_countOf
  refine loopE (σ := Int32) (fun m r x => q_X9_countOf_4 (nI d) Q m x (nI r) S) (fun r x => x = nI (ctB (fun r => bcN (L r) == d) r)) rk ?_ ?_ 0 0 (by omega) rfl
  · intro x hx
    unfold q_X9_countOf_4
    rw [h25, nI_leI (by omega) (by omega)]
    exact ⟨fun _ => hx ▸ hQ, fun z => by omega⟩
  · intro r m x hrr hx ih
    unfold q_X9_countOf_4 q_X9_countOf_28
    obtain ⟨u1, u2, -⟩ := hr r hrr
    have hb := bcN_lt (L r)
    rw [h25, nI_leI (by omega) (by omega), tn_nI (by omega), u2]
    refine ⟨fun z => by omega, fun _ => ⟨vp_nI (by omega) (by omega), sp_degree9 (by omega) ?_⟩⟩
    rw [nI_eq (by omega) (by omega)]
    refine ⟨fun z x3 e3 => ?_, fun z y ey x3 e3 => ?_⟩
    · rw [e3, nI_1]
      refine ih x ?_
      rw [hx]; show _ = nI (ctB _ r + _)
      rw [if_neg (by simpa using z)]; rfl
    · rw [e3, nI_1]
      refine ih y ?_
      rw [ey, hx, nI_1]; show _ = nI (ctB _ r + _)
      rw [if_pos (by simpa using z)]
/-- counting leads by the rows is counting them by the places -/
theorem sI_ctB (f : Nat → Bool) : ∀ n, (ctB f n : Int) = sI (fun i => if f i then 1 else 0) n
  | 0 => rfl
  | n + 1 => by
    unfold ctB sI
    rw [Int.natCast_add, sI_ctB f n]
    split <;> rfl
theorem ctB_rows {p w K rk : Nat} {V : Vc → Prop} {L : Nat → Nat} {R : Nat → Vc} {S : Sto} (H : MB S p w K V rk L R) (f : Nat → Bool) : ctB (fun r => f (L r)) rk = ctB (fun l => isB (hdL rk L l ∧ f l = true)) w := by
  have e : (ctB (fun r => f (L r)) rk : Int) = ctB (fun l => isB (hdL rk L l ∧ f l = true)) w := by
    rw [sI_ctB, sI_ctB]
    have h1 : sI (fun r => if f (L r) then (1 : Int) else 0) rk = sI (fun r => sI (fun l => if L r = l ∧ f l = true then 1 else 0) w) rk := sI_cong (fun r hr => by
      rw [sI_one (H.2.2.1 r hr).1 (fun l _ q => if_neg (fun z => q z.1.symm))]
      simp)
    rw [h1, sI_swap]
    refine sI_cong (fun l hl => ?_)
    by_cases hd : hdL rk L l
    · obtain ⟨r, hr, e⟩ := hd
      rw [sI_one hr (fun r' hr' q => if_neg (fun z => q (H.inj hr' hr (by rw [z.1, e]))))]
      by_cases hf : f l = true
      · rw [if_pos ⟨e, hf⟩, if_pos (isB_t.mpr ⟨⟨r, hr, e⟩, hf⟩)]
      · rw [if_neg (fun z => hf z.2), if_neg (by rw [isB_t]; exact fun z => hf z.2)]
    · rw [sI_zero (fun r hr => if_neg (fun z => hd ⟨r, hr, z.1⟩)), if_neg (by rw [isB_t]; exact fun z => hd z.1)]
  omega
