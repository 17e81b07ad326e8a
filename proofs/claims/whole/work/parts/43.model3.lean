/-! the reference: a row comes -/
theorem ctB_add {f g : Nat → Bool} {l : Nat} : ∀ {w : Nat}, l < w → f l = false → g l = true → (∀ i, i < w → i ≠ l → g i = f i) → ctB g w = ctB f w + 1
  | 0, h, _, _, _ => by omega
  | w + 1, h, h1, h2, h3 => by
    unfold ctB
    by_cases e : l = w
    · subst e
      rw [ctB_cong (f := g) (g := f) (n := l) (fun i hi => h3 i (by omega) (by omega)), h1, h2]; rfl
    · rw [ctB_add (f := f) (g := g) (w := w) (by omega) h1 h2 (fun i hi q => h3 i (by omega) q), h3 w (by omega) (by omega)]; omega
theorem sp_comes {p w K rk : Nat} {V : Vc → Prop} {L : Nat → Nat} {R : Nat → Vc} {X : Vc} {S : Sto} {Q : Int32 → Sto → Prop} (H : MB S p w K V rk L R) (hX : rd (S.1 370) w p X)
    (hQ : ∀ (a : Int32) (S' : Sto) rk' L' R', MB S' p w K (addV V X) rk' L' R' → frm [366, 367, 368, 370] S S' → ((a = 0 ∧ V X ∧ rk' = rk) ∨ (a = 1 ∧ ¬ V X ∧ rk' = rk + 1)) → Q a S') : wp_X9_comes S Q := by
  obtain ⟨⟨hp, hw, hok, h1, h27, h25⟩, hc, hr, hrb, hB, hV, hct⟩ := id H
  have hp8 := hp.pos
  have hrk := H.rk
  have hcl := clf_ok hok
  unfold wp_X9_comes
  refine sp_reduce H hX (fun F r hF hR hF2 => ?_)
  obtain ⟨T0, hT0⟩ : ∃ T0, T0 = setA S 370 F := ⟨_, rfl⟩
  rw [← hT0]
  have o0 : ∀ c, c ≠ 370 → T0.1 c = S.1 c := fun c hc => by rw [hT0, setA_ne _ _ hc]
  have c0 : T0.1 370 = F := by rw [hT0, setA_eq]
  have f0 : frm [366, 367, 368, 370] S T0 := by rw [hT0]; exact frm.set (by simp) (by decide)
  have H0 : MB T0 p w K V rk L R := H.keep ⟨by rw [o0 _ (by decide)], by rw [o0 _ (by decide)], by rw [o0 _ (by decide)]⟩ (fun c a b => o0 c (by omega))
  have t353 : T0.1 353 = S.1 353 := o0 353 (by decide)
  -- behind the search
  have none : (∀ b, b < w → r (clf K w b) = 0) → q_X9_comes_47 Q (-1) T0 := by
    intro hz
    have hVX : V X := (hR.zero hV hB).mpr (fun i hi => by obtain ⟨-, -, b, hb, e⟩ := hcl i hi; rw [← e]; exact hz b hb)
    unfold q_X9_comes_47
    refine ⟨fun z => absurd z (by decide), fun _ => hQ 0 T0 rk L R (H0.cong (fun v => ⟨fun h => addV_old hV X h, fun h => addV_least hV (fun _ q => q) hVX h⟩)) f0 (Or.inl ⟨rfl, hVX, rfl⟩)⟩
  have some : ∀ b0, b0 < w → ¬ r (clf K w b0) = 0 → (∀ b, b < b0 → r (clf K w b) = 0) → q_X9_comes_47 Q (nI (clf K w b0)) T0 := by
    intro b0 hb0 hnz hz
    obtain ⟨l0, hl0⟩ : ∃ l0, l0 = clf K w b0 := ⟨_, rfl⟩
    obtain ⟨l1, l2, -⟩ := hcl b0 hb0
    rw [← hl0] at hnz l1 l2 ⊢
    have hfirst : ∀ i, i < w → ps K i < ps K l0 → r i = 0 := fun i hi q => by
      obtain ⟨-, -, b, hb, e⟩ := hcl i hi
      rw [← e]
      refine hz b ?_
      rcases Nat.lt_or_ge b b0 with z | z
      · exact z
      · rcases Nat.lt_or_ge b0 b with z2 | z2
        · have := (hcl b hb).2.1 b0 z2
          rw [← hl0, e] at this; omega
        · rw [show b = b0 by omega, ← hl0] at e
          rw [e] at q; omega
    obtain ⟨r1, r2, r3⟩ := hF l0 l1
    obtain ⟨v, hv, hv0, hvp, hi0, hip, hinv⟩ := ivI hp r2 r3 hnz
    have hnl : ¬ hdL rk L l0 := fun q => hnz (hR.2.2 l0 q)
    obtain ⟨N, hN⟩ : ∃ N : Vc, N = fun i => (ivN p v : Int) * r i % p := ⟨_, rfl⟩
    have hNr : ∀ i, 0 ≤ N i ∧ N i < p := fun i => by rw [hN]; exact ⟨Int.emod_nonneg _ (by omega), Int.emod_lt_of_pos _ (by omega)⟩
    obtain ⟨R', hR'⟩ : ∃ R' : Nat → Vc, R' = fun l => if l = l0 then N else fun i => (R l i - R l l0 * N i) % p := ⟨_, rfl⟩
    have hRn : R' l0 = N := by rw [hR']; exact if_pos rfl
    have hRo : ∀ l, l ≠ l0 → R' l = fun i => (R l i - R l l0 * N i) % p := fun l h => by rw [hR']; exact if_neg h
    have hone : R' l0 l0 = 1 := by rw [hRn, hN]; exact hinv
    have hBn := RB.add (R' := R') (c := (ivN p v : Int)) hp.pi hV hB hR l1 (fun q => by
        have := dvd_small (p := p) (a := r l0) (b := 0) (by rw [Int.sub_zero]; exact q) ⟨r2, r3⟩ ⟨by omega, by omega⟩
        exact hnz this) hfirst (fun i hi => ⟨by rw [hRn]; exact (hNr i).1, by rw [hRn]; exact (hNr i).2, by
          rw [hRn, hN]
          have := Int.dvd_neg.mpr (dvd_emod p ((ivN p v : Int) * r i))
          rwa [Int.neg_sub] at this⟩) hone (fun l hl i hi => by
        rw [hRo l (fun e => hnl (e ▸ hl)), hRn]
        refine ⟨Int.emod_nonneg _ (by omega), Int.emod_lt_of_pos _ (by omega), ?_⟩
        have := Int.dvd_neg.mpr (dvd_emod p (R l i - R l l0 * N i))
        rwa [Int.neg_sub] at this)
    have hct2 : rk + 1 = ctB (fun a => isB (hdL rk L a ∨ a = l0)) w := by
      rw [ctB_add (f := fun a => isB (hdL rk L a)) (l := l0) l1 (isB_f.mpr hnl) (isB_t.mpr (Or.inr rfl)) (fun i hi q => by
        congr 1; exact propext ⟨fun h => h.resolve_right q, Or.inl⟩), ← hct]
    have hrkw : rk + 1 ≤ w := by have := ctB_le (fun a => isB (hdL rk L a ∨ a = l0)) w; omega
    unfold q_X9_comes_47
    rw [c0, tn_nI (by omega), r1, hv, ← nI_iI]
    refine ⟨fun _ => ⟨vp_nI (by omega) (by omega), sp_inverse9 (by rw [t353]; exact h1) hp hv0 hvp ?_⟩, fun z => absurd (nI_pos' (by omega)) z⟩
    -- the last loop
    have last : ∀ (T : Sto) (G : Nat → Int32), T.1 370 = fl w (fun i => iI (N i)) F → T.1 366 = G → (∀ c, c ≠ 366 → c ≠ 370 → T.1 c = S.1 c) → T.2 = S.2 → (∀ k, k < rk → ∀ i, i < w → G (256 * k + i) = iI (R' (L k) i)) → ∃ n_202, q_X9_comes_202 Q n_202 (nI l0) 0 T := by
      intro T G a1 a2 a3 a4 a5
      refine loopE (fun m i (Y : Sto) => q_X9_comes_202 Q m (nI l0) (nI i) Y) (fun i Y => Y.1 370 = fl w (fun i => iI (N i)) F ∧ (∀ c, c ≠ 366 → c ≠ 370 → Y.1 c = S.1 c) ∧ Y.2 = S.2 ∧ (∀ k, k < rk → ∀ i, i < w → Y.1 366 (256 * k + i) = iI (R' (L k) i)) ∧ ∀ j, j < i → Y.1 366 (256 * rk + j) = iI (N j)) w ?_ ?_ 0 T (by omega) ⟨a1, a3, a4, by rw [a2]; exact a5, fun j q => by omega⟩
      · rintro Y ⟨b1, b2, b3, b4, b5⟩
        unfold q_X9_comes_202
        rw [b2 353 (by decide) (by decide), h27, h25, nI_leI (by omega) (by omega), tn_nI (by omega), tn_nI (by omega)]
        refine ⟨fun _ => ⟨vp_nI (by omega) (by omega), fun S3 e3 => ⟨vp_nI (by omega) (by omega), fun S5 e5 S6 e6 => ?_⟩⟩, fun z => by omega⟩
        have s3 : S3.1 353 = S.1 353 := by rw [e3, uA_ne (by decide)]; exact b2 353 (by decide) (by decide)
        have s5 : S5.1 353 = S.1 353 := by rw [e5, uA_ne (by decide)]; exact s3
        have s6 : S6.1 353 = upd (S.1 353) 25 (nI (rk + 1)) := by rw [e6, uA_eq, s5, h25, nI_1]
        have s67 : S6.1 367 = upd (S.1 367) rk (nI l0) := by rw [e6, uA_ne (by decide), e5, uA_ne (by decide), e3, uA_eq, b2 367 (by decide) (by decide)]
        have s68 : S6.1 368 = upd (S.1 368) l0 (nI rk) := by rw [e6, uA_ne (by decide), e5, uA_eq, s3, h25, e3, uA_ne (by decide), b2 368 (by decide) (by decide)]
        have s66 : S6.1 366 = Y.1 366 := by rw [e6, uA_ne (by decide), e5, uA_ne (by decide), e3, uA_ne (by decide)]
        have so : ∀ c, c ≠ 353 → c ≠ 366 → c ≠ 367 → c ≠ 368 → c ≠ 370 → S6.1 c = S.1 c := fun c q1 q2 q3 q4 q5 => by rw [e6, uA_ne q1, e5, uA_ne q4, e3, uA_ne q3]; exact b2 c q2 q5
        have hL' : ∀ a, hdL (rk + 1) (fun r => if r = rk then l0 else L r) a ↔ (hdL rk L a ∨ a = l0) := by
          intro a
          constructor
          · rintro ⟨k, hk, e⟩
            by_cases ek : k = rk
            · simp only [if_pos ek] at e; exact Or.inr e.symm
            · simp only [if_neg ek] at e; exact Or.inl ⟨k, by omega, e⟩
          · rintro (⟨k, hk, e⟩ | e)
            · exact ⟨k, by omega, by simp only [if_neg (show ¬ k = rk by omega)]; exact e⟩
            · exact ⟨rk, by omega, by simp only [if_pos]; exact e.symm⟩
        refine hQ 1 S6 (rk + 1) (fun r => if r = rk then l0 else L r) R' ⟨⟨hp, hw, hok, by rw [s6, upd_ne _ _ (by decide)]; exact h1, by rw [s6, upd_ne _ _ (by decide)]; exact h27, by rw [s6, upd_eq]⟩, fun c hcw => by rw [so 369 (by decide) (by decide) (by decide) (by decide) (by decide)]; exact hc c hcw, fun k hk => ?_, fun a ha => ?_, ?_, addV_sub hV X, ?_⟩ ⟨fun c q1 q2 => so c q1 (fun e => q2 (by simp [e])) (fun e => q2 (by simp [e])) (fun e => q2 (by simp [e])) (fun e => q2 (by simp [e])), fun j q1 _ => by rw [s6, upd_ne _ _ q1], by rw [e6, e5, e3]; exact b3⟩ (Or.inr ⟨rfl, fun q => hnz ((hR.zero hV hB).mp q l0 l1), rfl⟩)
        · by_cases ek : k = rk
          · subst ek
            simp only [if_pos]
            rw [s67, s68, upd_eq, upd_eq, s66, hRn]
            exact ⟨l1, rfl, rfl, fun i hi => b5 i hi⟩
          · simp only [if_neg ek]
            obtain ⟨u1, u2, u3, u4⟩ := hr k (by omega)
            have hne : L k ≠ l0 := fun e => hnl ⟨k, by omega, e⟩
            rw [s67, s68, upd_ne _ _ ek, upd_ne _ _ hne, s66]
            exact ⟨u1, u2, u3, fun i hi => b4 k (by omega) i hi⟩
        · rw [s68]
          by_cases e : a = l0
          · exact Or.inr ⟨rk, by omega, by simp only [if_pos]; exact e.symm⟩
          · rw [upd_ne _ _ e]
            rcases hrb a ha with q | ⟨k, hk, q⟩
            · exact Or.inl q
            · exact Or.inr ⟨k, by omega, by simp only [if_neg (show ¬ k = rk by omega)]; exact q⟩
        · exact hBn.eqv (addV_sub hV X) (fun l => (hL' l).symm) (fun _ _ _ _ => rfl)
        · exact hct2.trans (ctB_cong (fun a _ => by congr 1; exact propext (hL' a).symm))
      · rintro i m Y hi ⟨b1, b2, b3, b4, b5⟩ ih
        unfold q_X9_comes_202
        rw [b2 353 (by decide) (by decide), h27, h25, nI_leI (by omega) (by omega), b1, tn_nI (i := i) (by omega), fl_lt _ _ hi, show (256 : Int32) = nI 256 from rfl, pk_mul, nI_add, tn_nI (i := 256 * rk + i) (by omega)]
        refine ⟨fun z => by omega, fun _ => ⟨vp_nI (by omega) (by omega), vp_nI (by omega) (by omega), fun S9 e9 x ex => ?_⟩⟩
        rw [ex, nI_1]
        refine ih S9 ⟨by rw [e9, uA_ne (by decide)]; exact b1, fun c q1 q2 => by rw [e9, uA_ne q1]; exact b2 c q1 q2, by rw [e9]; exact b3, fun k hk j hj => ?_, fun j hj => ?_⟩
        · rw [e9, uA_eq, upd_ne _ _ (by omega)]; exact b4 k hk j hj
        · rw [e9, uA_eq]
          by_cases e : j = i
          · rw [e, upd_eq]
          · rw [upd_ne _ _ (by omega)]; exact b5 j (by omega)
    -- the rows that are there
    have rows : ∀ T, T = setA T0 370 (fl w (fun i => iI (N i)) F) → ∃ n_102, q_X9_comes_102 Q n_102 (nI l0) 0 T := by
      intro T hT
      have to : ∀ c, c ≠ 370 → T.1 c = S.1 c := fun c q => by rw [hT, setA_ne _ _ q]; exact o0 c q
      refine loopE (fun m k (Y : Sto) => q_X9_comes_102 Q m (nI l0) (nI k) Y) (fun k Y => ∃ G, Y = setA T 366 G ∧ ∀ j, j < rk → ∀ i, i < w → G (256 * j + i) = if j < k then iI (R' (L j) i) else iI (R (L j) i)) rk ?_ ?_ 0 T (by omega) ⟨T.1 366, by rw [setA_self], fun j hj i hi => by rw [if_neg (by omega), to 366 (by decide)]; exact (hr j hj).2.2.2 i hi⟩
      · rintro Y ⟨G, hY, hG⟩
        unfold q_X9_comes_102
        rw [hY, setA_ne _ _ (by decide), to 353 (by decide), h25, nI_leI (by omega) (by omega)]
        refine ⟨fun _ => last _ G (by rw [setA_ne _ _ (by decide), hT, setA_eq]) (setA_eq _ _ _) (fun c q1 q2 => by rw [setA_ne _ _ q1]; exact to c q2) (by rw [hT, hT0]; rfl) (fun k hk i hi => by have := hG k hk i hi; rw [if_pos hk] at this; exact this), fun z => by omega⟩
      · rintro k m Y hk ⟨G, hY, hG⟩ ih
        unfold q_X9_comes_102 q_X9_comes_194
        obtain ⟨u1, u2, u3, u4⟩ := hr k hk
        have y3 : Y.1 353 = S.1 353 := by rw [hY, setA_ne _ _ (by decide)]; exact to 353 (by decide)
        have y6 : Y.1 366 = G := by rw [hY, setA_eq]
        have hdk : hdL rk L (L k) := ⟨k, hk, rfl⟩
        obtain ⟨g1, g2, g3, g4, g5, g6⟩ := hB.1 _ hdk
        have hne : L k ≠ l0 := fun e => hnl ⟨k, hk, e⟩
        have hGk := hG k hk l0 l1
        rw [if_neg (by omega)] at hGk
        obtain ⟨t, ht⟩ : ∃ t, t = R (L k) l0 := ⟨_, rfl⟩
        have ht2 := g4 l0 l1
        rw [← ht] at hGk ht2
        rw [y3, h25, nI_leI (by omega) (by omega), show (256 : Int32) = nI 256 from rfl, pk_mul, nI_add, tn_nI (by omega), y6, hGk]
        refine ⟨fun z => by omega, fun _ => ⟨vp_nI (by omega) (by omega), fun x4 ex4 => ?_⟩⟩
        rw [ex4]
        refine ⟨fun z => ?_, fun z x ex => ?_⟩
        · refine loopE (fun m2 i (Y : Sto) => q_X9_comes_135 (fun y1 y3 S => q_X9_comes_102 Q m y1 y3 S) Q m2 (nI l0) (nI k) (iI t) (nI i) Y) (fun i Y => ∃ G, Y = setA T 366 G ∧ ∀ j, j < rk → ∀ a, a < w → G (256 * j + a) = if j < k ∨ (j = k ∧ a < i) then iI (R' (L j) a) else iI (R (L j) a)) w ?_ ?_ 0 Y (by omega) ⟨G, hY, fun j hj a ha => by
            have := hG j hj a ha
            rw [this]
            congr 1
            exact propext ⟨Or.inl, fun q => by rcases q with q | q; exact q; omega⟩⟩
          · rintro Y ⟨G, hY, hG⟩
            unfold q_X9_comes_135 q_X9_comes_194
            rw [hY, setA_ne _ _ (by decide), to 353 (by decide), h27, nI_leI (by omega) (by omega)]
            refine ⟨fun _ x ex => ?_, fun z => by omega⟩
            rw [ex, nI_1]
            refine ih _ ⟨G, rfl, fun j hj a ha => ?_⟩
            rw [hG j hj a ha]
            congr 1
            exact propext ⟨fun q => by omega, fun q => by omega⟩
          · rintro i m2 Y hi ⟨G, hY, hG⟩ ih2
            unfold q_X9_comes_135
            have y3 : Y.1 353 = S.1 353 := by rw [hY, setA_ne _ _ (by decide)]; exact to 353 (by decide)
            have y6 : Y.1 366 = G := by rw [hY, setA_eq]
            have y7 : Y.1 370 = fl w (fun i => iI (N i)) F := by rw [hY, setA_ne _ _ (by decide), hT, setA_eq]
            have hGi := hG k hk i hi
            rw [if_neg (by omega)] at hGi
            have w4 := g4 i hi
            have n4 := hNr i
            rw [y3, h27, nI_leI (by omega) (by omega), show (256 : Int32) = nI 256 from rfl, pk_mul, nI_add, tn_nI (by omega), tn_nI (by omega), y6, hGi, y7, fl_lt _ _ hi, iI_l ⟨by omega, by omega⟩, iI_l ⟨by omega, by omega⟩, iI_l ⟨by omega, by omega⟩, ← iL_mul, ← iL_sub]
            have hm0 : 0 ≤ t * N i := Int.mul_nonneg ht2.1 n4.1
            have hm1 : t * N i ≤ 8 * 8 := Int.mul_le_mul (by omega) (by omega) n4.1 (by omega)
            refine ⟨fun z => by omega, fun _ => ⟨vp_nI (by omega) (by omega), vp_nI (by omega) (by omega), sp_mod9 (by rw [y3]; exact h1) hp ⟨by omega, by omega⟩ ⟨vp_nI (by omega) (by omega), fun S1 e1 x ex => ?_⟩⟩⟩
            rw [ex, nI_1]
            refine ih2 S1 ⟨upd G (256 * k + i) (iI ((R (L k) i - t * N i) % p)), by rw [e1, hY, uA_setA, setA_setA, setA_eq], fun j hj a ha => ?_⟩
            by_cases e : j = k ∧ a = i
            · obtain ⟨rfl, rfl⟩ := e
              rw [upd_eq, if_pos (Or.inr ⟨rfl, by omega⟩), hRo _ hne, ht]
            · rw [upd_ne _ _ (by omega), hG j hj a ha]
              congr 1
              exact propext ⟨fun q => by omega, fun q => by omega⟩
        · rw [ex, nI_1]
          refine ih Y ⟨G, hY, fun j hj a ha => ?_⟩
          rw [hG j hj a ha]
          by_cases e : j = k
          · subst e
            rw [if_neg (by omega), if_pos (by omega), hRo _ hne]
            rw [iI_eq0 ⟨by omega, by omega⟩] at z
            have := g4 a ha
            show _ = iI ((R (L j) a - R (L j) l0 * N a) % p)
            rw [← ht, z, Int.zero_mul, Int.sub_zero, Int.emod_eq_of_lt this.1 this.2]
          · by_cases q : j < k
            · rw [if_pos q, if_pos (by omega)]
            · rw [if_neg q, if_neg (by omega)]
    -- normed
    refine loopE (fun m i (Y : Sto) => q_X9_comes_66 Q m (nI l0) (nI (ivN p v)) (nI i) Y) (fun i Y => Y = setA T0 370 (fl i (fun i => iI (N i)) F)) w ?_ ?_ 0 T0 (by omega) (by rw [fl_0, ← c0, setA_self])
    · intro Y hY
      unfold q_X9_comes_66
      rw [hY, setA_ne _ _ (by decide), t353, h27, nI_leI (by omega) (by omega)]
      exact ⟨fun _ => rows _ rfl, fun z => by omega⟩
    · intro i m Y hi hY ih
      unfold q_X9_comes_66
      have y3 : Y.1 353 = S.1 353 := by rw [hY, setA_ne _ _ (by decide)]; exact t353
      have y7 : Y.1 370 i = F i := by rw [hY, setA_eq, fl_at]
      obtain ⟨u1, u2, u3⟩ := hF i hi
      rw [y3, h27, nI_leI (by omega) (by omega), tn_nI (by omega), y7, u1, nI_iI (ivN p v), iI_l ⟨by omega, by omega⟩, iI_l ⟨by omega, by omega⟩, ← iL_mul]
      have hm0 : 0 ≤ (ivN p v : Int) * r i := Int.mul_nonneg (by omega) u2
      have hm1 : (ivN p v : Int) * r i ≤ 8 * 8 := Int.mul_le_mul (by omega) (by omega) u2 (by omega)
      refine ⟨fun z => by omega, fun _ => ⟨vp_nI (by omega) (by omega), sp_mod9 (by rw [y3]; exact h1) hp ⟨by omega, by omega⟩ ⟨vp_nI (by omega) (by omega), fun S1 e1 x ex => ?_⟩⟩⟩
      rw [ex, nI_1, ← nI_iI]
      refine ih S1 ?_
      rw [e1, hY]
      have := fl_step' T0 370 i (fun i => iI (N i)) F (x := iI ((ivN p v : Int) * r i % p)) (by rw [hN])
      exact this
  refine loopG (fun m c (x1 : Int32) => q_X9_comes_8 Q m x1 (nI c) T0) (fun c x1 => (x1 = -1 ∧ ∀ b, b < c → r (clf K w b) = 0) ∨ ∃ b0, b0 < w ∧ x1 = nI (clf K w b0) ∧ ¬ r (clf K w b0) = 0 ∧ ∀ b, b < b0 → r (clf K w b) = 0) w ?_ 0 (-1) (by omega) (Or.inl ⟨rfl, fun b q => by omega⟩)
  intro c m x1 hcw hI ih
  unfold q_X9_comes_8 q_X9_comes_41
  have e9 : T0.1 369 = S.1 369 := o0 369 (by decide)
  rw [t353, h27, nI_leI (by omega) (by omega), e9, c0]
  rcases hI with ⟨e, hz⟩ | ⟨b0, hb0, e, hnz, hz⟩
  · rw [e]
    refine ⟨fun z => none (fun b hb => hz b (by omega)), fun z => ⟨fun z2 => absurd z2 (by decide), fun _ => ?_⟩⟩
    obtain ⟨q1, -⟩ := hcl c (by omega)
    rw [tn_nI (by omega), hc c (by omega), tn_nI (by omega)]
    obtain ⟨r1, r2, r3⟩ := hF _ q1
    rw [r1, iI_eq0 ⟨by omega, by omega⟩]
    refine ⟨vp_nI (by omega) (by omega), vp_nI (by omega) (by omega), fun z2 x ex => ?_, fun z2 => ⟨vp_nI (by omega) (by omega), fun x1' ex1 x ex => ?_⟩⟩
    · rw [ex, nI_1]
      refine ih (-1) (by omega) (Or.inl ⟨rfl, fun b hb => ?_⟩)
      rcases Nat.lt_or_ge b c with q | q
      · exact hz b q
      · rw [show b = c by omega]; exact z2
    · rw [ex, nI_1]
      exact ih x1' (by omega) (Or.inr ⟨c, by omega, ex1, z2, hz⟩)
  · rw [e]
    obtain ⟨q1, -⟩ := hcl b0 hb0
    exact ⟨fun _ => some b0 hb0 hnz hz, fun z => ⟨fun _ => some b0 hb0 hnz hz, fun z2 => absurd (nI_pos' (by omega)) z2⟩⟩
