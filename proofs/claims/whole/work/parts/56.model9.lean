/-! the reference: what is needed of a module -/
theorem lf_1 : ∀ l, l < 4 → ∀ i, i < 256 → (nI i ||| ((1 : Int32) <<< (nI l &&& 31))) = nI (i ||| 2 ^ l) := by decide +kernel
theorem lf_2 : ∀ l, l < 4 → (1 : Int32) <<< (nI l &&& 31) = nI (2 ^ l) := by decide +kernel
theorem lf_3 : ∀ n, n < 5 → 2 ≤ n → ∀ l, l < n → ∀ i, i < 256 → (2 ^ l &&& (i % 2 ^ n) = 0 ↔ 2 ^ l &&& i = 0) := by decide +kernel
theorem lf_4 : ∀ l, l < 4 → ∀ c, c < 256 → 2 ^ l &&& c = 2 ^ l → 2 ^ l &&& (c ^^^ 2 ^ l) = 0 := by decide +kernel
theorem lf_5 : ∀ l, l < 4 → ∀ c, c < 256 → 2 ^ l &&& c = 2 ^ l → (c ^^^ 2 ^ l) ||| 2 ^ l = c := by decide +kernel
theorem sg_nz : ∀ a, a < 16 → ∀ b, b < 16 → (a &&& b = 0 ↔ ¬ sg a b = 0) := by decide +kernel
/-- the rows of the module tell M -/
def Mdl (S : Sto) (p w : Nat) (M : Vc → Prop) (mr : Nat) (X : Nat → Vc) : Prop := S.1 353 38 = nI mr ∧ S.1 353 39 = nI w ∧ mr ≤ w ∧ (∀ r, r < mr → (∀ i, i < w → S.1 377 (256 * r + i) = iI (X r i) ∧ 0 ≤ X r i ∧ X r i < p) ∧ M (X r)) ∧ (∀ U : Vc → Prop, Sub p w U → (∀ r, r < mr → U (X r)) → ∀ v, M v → U v) ∧ Sub p w M
theorem sp_lifts {r l n p s K : Nat} {X : Vc} {S : Sto} {Q : Sto → Prop} (hC : Cm S n p K) (hl : l < n) (hs : s * 2 ^ n ≤ 256) (hr : r < 256) (h39 : S.1 353 39 = nI (s * 2 ^ n)) (hX : ∀ i, i < s * 2 ^ n → S.1 377 (256 * r + i) = iI (X i) ∧ 0 ≤ X i ∧ X i < p)
    (hQ : ∀ S', rd (S'.1 370) (s * 2 ^ n) p (fun c => pl (2 ^ l) X c % p) → frs [370] S S' → Q S') : wp_X9_lifts 377 (nI (256 * r)) (nI l) S Q := by
  obtain ⟨h1, h2, h3, h4, n2, n4, hp, hK⟩ := id hC
  have hw := pow_n n4
  have hp8 := hp.pos
  have l377 : ln 377 = 65536 := by decide +kernel
  have hl4 := pow_l (l := l) (by omega)
  unfold wp_X9_lifts
  -- products
  have part2 : ∀ T, frs [370] S T → (∀ c, c < s * 2 ^ n → T.1 370 c = 0) → ∃ n_29, q_X9_lifts_29 377 (nI (256 * r)) (nI l) Q n_29 0 T := by
    intro T t1 t2
    refine loopE (fun m i (T : Sto) => q_X9_lifts_29 377 (nI (256 * r)) (nI l) Q m (nI i) T) (fun i T => frs [370] S T ∧ ∀ c, c < s * 2 ^ n → T.1 370 c = if 2 ^ l &&& c = 2 ^ l ∧ c ^^^ 2 ^ l < i then iI (pl (2 ^ l) X c % p) else 0) (s * 2 ^ n) ?_ ?_ 0 T (Nat.zero_le _) ⟨t1, fun c hc => by rw [t2 c hc, if_neg (by omega)]⟩
    · rintro T ⟨t1, t2⟩
      unfold q_X9_lifts_29
      rw [t1.1 353 (by simp), h39, nI_leI (by omega) (by omega)]
      refine ⟨fun _ => hQ T (fun c hc => ?_) t1, fun z => by omega⟩
      refine ⟨?_, Int.emod_nonneg _ (by omega), Int.emod_lt_of_pos _ (by omega)⟩
      rw [t2 c hc]
      by_cases q : 2 ^ l &&& c = 2 ^ l
      · have := blk_xor (by omega) n2 hl (by omega) hc
        rw [if_pos ⟨q, this⟩]
      · rw [if_neg (fun z => q z.1)]
        show (0 : Int32) = iI ((if 2 ^ l &&& c = 2 ^ l then sg (2 ^ l) (c ^^^ 2 ^ l) * X (c ^^^ 2 ^ l) else 0) % p)
        rw [if_neg q, Int.zero_emod]; rfl
    · rintro i m T hi ⟨t1, t2⟩ ih
      unfold q_X9_lifts_29 q_X9_lifts_92
      rw [t1.1 353 (by simp), h39, h4, nI_leI (by omega) (by omega), lf_2 l (by omega), pk_rem (by omega) (by omega) (by omega)]
      have hm := Nat.mod_lt i hw.2
      obtain ⟨x1, x2, x3⟩ := hX i hi
      have same : (2 ^ l &&& i = 0 → X i = 0) → ∀ c, c < s * 2 ^ n → T.1 370 c = if 2 ^ l &&& c = 2 ^ l ∧ c ^^^ 2 ^ l < i + 1 then iI (pl (2 ^ l) X c % p) else 0 := by
        intro h0 c hc
        rw [t2 c hc]
        by_cases q : 2 ^ l &&& c = 2 ^ l
        · by_cases e : c ^^^ 2 ^ l = i
          · rw [if_neg (by omega), if_pos ⟨q, by omega⟩]
            unfold pl
            rw [if_pos q, e, h0 (by rw [← e]; exact lf_4 l (by omega) c (by omega) q), Int.mul_zero, Int.zero_emod]; rfl
          · have e2 : (2 ^ l &&& c = 2 ^ l ∧ c ^^^ 2 ^ l < i) ↔ (2 ^ l &&& c = 2 ^ l ∧ c ^^^ 2 ^ l < i + 1) := by omega
            simp only [e2]
        · rw [if_neg (fun z => q z.1), if_neg (fun z => q z.1)]
      have f3 := lf_3 n (by omega) n2 l hl i (by omega)
      have fz := sg_nz (2 ^ l) hl4.1 (i % 2 ^ n) (by omega)
      have hs3 := sg_sm (2 ^ l) hl4.1 (i % 2 ^ n) (by omega)
      refine ⟨fun z => by omega, fun _ => ⟨nI_ne0 (by omega) (by omega), sp_sign9 hl4.1 (by omega) ?_⟩⟩
      rw [iI_eq0 ⟨by omega, by omega⟩, nI_add, tn_nI (by omega), t1.1 377 (by simp), x1]
      refine ⟨fun z x4 e4 => ?_, fun z => ⟨vp_nI (by omega) (by omega), fun z2 x4 e4 => ?_, fun z2 => ⟨vp_nI (by omega) (by omega), ?_⟩⟩⟩
      · rw [e4, nI_1]
        exact ih T ⟨t1, same (fun h0 => absurd z (fz.mp (f3.mpr h0)))⟩
      · rw [e4, nI_1]
        rw [iI_eq0 ⟨by omega, by omega⟩] at z2
        exact ih T ⟨t1, same (fun _ => z2)⟩
      · have h0 : 2 ^ l &&& i = 0 := f3.mp (fz.mpr z)
        obtain ⟨b1, b2⟩ := bd_1 l (by omega) i (by omega) h0
        obtain ⟨b3, b4⟩ := bd_3 l (by omega) i (by omega) h0
        have hlt : i ||| 2 ^ l < s * 2 ^ n := by rw [b3]; exact blk_xor (by omega) n2 hl (by omega) hi
        have hb : -8 ≤ sg (2 ^ l) (i % 2 ^ n) * X i ∧ sg (2 ^ l) (i % 2 ^ n) * X i ≤ 8 := by rcases hs3 with e | e | e <;> rw [e] <;> omega
        rw [← iI_mul, iI_l ⟨by omega, by omega⟩]
        refine sp_mod9 (by rw [t1.1 353 (by simp)]; exact h2) hp ⟨by omega, by omega⟩ ?_
        rw [← lf_2 l (by omega), lf_1 l (by omega) i (by omega), tn_nI (by omega)]
        refine ⟨vp_nI (by omega) (by omega), fun S1 e1 x4 e4 => ?_⟩
        rw [e4, nI_1]
        refine ih S1 ⟨t1.tr (by rw [e1]; exact frs.upd (by simp)), fun c hc => ?_⟩
        rw [e1, uA_eq]
        by_cases e : c = i ||| 2 ^ l
        · rw [e, upd_eq, if_pos ⟨b2, by omega⟩]
          unfold pl
          rw [if_pos b2, b1, md_4 n (by omega) n2 l hl i (by omega)]
        · rw [upd_ne _ _ e, t2 c hc]
          have e2 : (2 ^ l &&& c = 2 ^ l ∧ c ^^^ 2 ^ l < i) ↔ (2 ^ l &&& c = 2 ^ l ∧ c ^^^ 2 ^ l < i + 1) := by
            constructor
            · rintro ⟨q1, q2⟩; exact ⟨q1, by omega⟩
            · rintro ⟨q1, q2⟩
              refine ⟨q1, ?_⟩
              rcases Nat.lt_or_ge (c ^^^ 2 ^ l) i with q | q
              · exact q
              · have h5 := lf_5 l (by omega) c (by omega) q1
                rw [show c ^^^ 2 ^ l = i by omega] at h5
                exact absurd h5.symm e
          simp only [e2]
  refine loopE (fun m i (T : Sto) => q_X9_lifts_3 377 (nI (256 * r)) (nI l) Q m (nI i) T) (fun i T => frs [370] S T ∧ ∀ c, c < i → T.1 370 c = 0) (s * 2 ^ n) ?_ ?_ 0 S (Nat.zero_le _) ⟨frs.rf, fun c q => by omega⟩
  · rintro T ⟨t1, t2⟩
    unfold q_X9_lifts_3
    rw [t1.1 353 (by simp), h39, nI_leI (by omega) (by omega)]
    exact ⟨fun _ => part2 T t1 t2, fun z => by omega⟩
  · rintro i m T hi ⟨t1, t2⟩ ih
    unfold q_X9_lifts_3
    rw [t1.1 353 (by simp), h39, nI_leI (by omega) (by omega), tn_nI (by omega)]
    refine ⟨fun z => by omega, fun _ => ⟨vp_nI (by omega) (by omega), fun S1 e1 x4 e4 => ?_⟩⟩
    rw [e4, nI_1]
    refine ih S1 ⟨t1.tr (by rw [e1]; exact frs.upd (by simp)), fun c hc => ?_⟩
    rw [e1, uA_eq]
    by_cases e : c = i
    · rw [e, upd_eq]
    · rw [upd_ne _ _ e]; exact t2 c (by omega)
/-- t rows h were taken -/
def Tkn (S : Sto) (p w t : Nat) (h : Nat → Vc) : Prop := S.1 353 41 = nI t ∧ ∀ i, i < t → ∀ j, j < w → S.1 378 (256 * i + j) = iI (h i j) ∧ 0 ≤ h i j ∧ h i j < p
def lNd : List Nat := [366, 367, 368, 369, 370, 378]
theorem sp_needs {n p s K mr : Nat} {M : Vc → Prop} {X : Nat → Vc} {S : Sto} {Q : Int32 → Sto → Prop} (hC : Cm S n p K) (hs : s * 2 ^ n ≤ 256) (hc : cloL n M) (H : Mdl S p (s * 2 ^ n) M mr X)
    (hQ : ∀ S' t h, Mg p n (s * 2 ^ n) M t h → Tkn S' p (s * 2 ^ n) t h → t ≤ 256 → S'.1 353 39 = nI (s * 2 ^ n) → frM lNd S S' → Q (nI t) S') : wp_X9_needs S Q := by
  obtain ⟨h1, h2, h3, h4, n2, n4, hp, hK⟩ := id hC
  obtain ⟨m1, m2, m3, m4, m5, m6⟩ := id H
  have hw := pow_n n4
  have hp8 := hp.pos
  obtain ⟨w, hwe⟩ : ∃ w, w = s * 2 ^ n := ⟨_, rfl⟩
  have hL := LMs_Sub p n w M
  rw [← hwe] at hs m2 m3 m4 m5 m6 hQ
  unfold wp_X9_needs
  rw [m2]
  refine sp_begin9 h2 hp hs (fun S1 a1 a2 => ?_)
  -- what is taken
  have part2 : ∀ (T : Sto) (rk : Nat) (L : Nat → Nat) (R : Nat → Vc), MB T p w 0 (LMs p n w M) rk L R → frm [366, 367, 368, 369, 370] S T → ∀ S_2 : Sto, S_2 = uA T 353 41 0 → (∃ n_66, q_X9_needs_66 Q n_66 0 S_2) := by
    intro T rk L R b1 b2 S2 e2
    have f2 : frM lNd S S2 := (b2.M.mono (by simp [lNd])).tr (by rw [e2]; exact frM.fld (by decide))
    have o2 : ∀ c, c ≠ 353 → S2.1 c = T.1 c := fun c h => by rw [e2, uA_ne h]
    have u2 : ∀ j, j ≠ 41 → S2.1 353 j = T.1 353 j := fun j h => by rw [e2, uA_eq, upd_ne _ _ h]
    refine loopE (fun m r (T : Sto) => q_X9_needs_66 Q m (nI r) T) (fun r T => ∃ k g rk L R, MB T p w 0 (CS (LMs p n w M) g k) rk L R ∧ k ≤ rk ∧ Tkn T p w k g ∧ (∀ j, j < k → M (g j)) ∧ (∀ j, j < k → ¬ CS (LMs p n w M) g j (g j)) ∧ (∀ j, j < r → CS (LMs p n w M) g k (X j)) ∧ (T.1 353 38 = nI mr ∧ T.1 353 39 = nI w) ∧ frM lNd S T) mr ?_ ?_ 0 S2 (Nat.zero_le _) ⟨0, fun _ _ => 0, rk, L, R, (b1.cong (fun v => (CS_0 hL _ v).symm)).keep ⟨u2 1 (by decide), u2 25 (by decide), u2 27 (by decide)⟩ (fun c q1 q2 => o2 c (by omega)), Nat.zero_le _, ⟨by rw [e2, uA_eq, upd_eq]; rfl, fun i q => by omega⟩, fun j q => by omega, fun j q => by omega, fun j q => by omega, ⟨by rw [u2 38 (by decide), b2.2.1 38 (by decide) (by decide)]; exact m1, by rw [u2 39 (by decide), b2.2.1 39 (by decide) (by decide)]; exact m2⟩, f2⟩
    · rintro T ⟨k, g, rk, L, R, c1, c2, c3, c4, c5, c6, ⟨c7, c8⟩, c9⟩
      unfold q_X9_needs_66
      have := c1.rk
      rw [c7, nI_leI (by omega) (by omega), c3.1]
      refine ⟨fun _ => hQ T k g ⟨c4, fun v hv => ?_, c5⟩ c3 (by omega) c8 c9, fun z => by omega⟩
      exact m5 _ c1.2.2.2.2.2.1 c6 v hv
    · rintro r m T hr ⟨k, g, rk, L, R, c1, c2, c3, c4, c5, c6, ⟨c7, c8⟩, c9⟩ ih
      have hrk := c1.rk
      obtain ⟨q1, q2⟩ := m4 r hr
      have t377 : T.1 377 = S.1 377 := c9.1 377 (by decide) (by simp [lNd])
      have hV := c1.2.2.2.2.2.1
      unfold q_X9_needs_66
      rw [c7, nI_leI (by omega) (by omega)]
      refine ⟨fun z => by omega, fun _ => ?_⟩
      refine loopE (fun m2 i (Y : Sto) => q_X9_needs_76 (fun y1 S => q_X9_needs_66 Q m y1 S) Q m2 (nI r) (nI i) Y) (fun i Y => Y = setA T 370 (fl i (fun i => T.1 377 (256 * r + i)) (T.1 370))) w ?_ ?_ 0 T (Nat.zero_le _) (by rw [fl_0, setA_self])
      · intro Y hY
        unfold q_X9_needs_76
        have g1 : frs [370] T Y := by rw [hY]; exact frs.set (by simp)
        rw [g1.1 353 (by simp), c8, nI_leI (by omega) (by omega)]
        refine ⟨fun _ => ?_, fun z => by omega⟩
        refine sp_comes (X := X r) (c1.keepS g1 (by simp)) (by rw [hY, setA_eq]; intro i hi; rw [fl_lt _ _ hi, t377]; exact q1 i hi) (fun a S' rk' L' R' d1 d2 d3 => ?_)
        have g2 : frM lNd T S' := ((g1.M (by simp)).mono (by simp [lNd])).tr (d2.M.mono (by simp [lNd]))
        have e377 : S'.1 377 = S.1 377 := by rw [g2.1 377 (by decide) (by simp [lNd])]; exact t377
        have e378 : S'.1 378 = T.1 378 := by rw [d2.1 378 (by decide) (by simp), g1.1 378 (by simp)]
        have efl : ∀ j, j ≠ 25 → j ≠ 27 → S'.1 353 j = T.1 353 j := fun j q1 q2 => by rw [d2.2.1 j q1 q2, g1.1 353 (by simp)]
        unfold q_X9_needs_171
        rcases d3 with ⟨ha, hv, hk⟩ | ⟨ha, hv, hk⟩
        · rw [ha]
          refine ⟨fun z => absurd rfl z, fun _ x1 ex1 => ?_⟩
          rw [ex1, nI_1]
          refine ih S' ⟨k, g, rk', L', R', d1.cong (fun v => ⟨fun q => addV_least hV (fun _ z => z) hv q, fun q => addV_old hV _ q⟩), by omega, ⟨by rw [efl 41 (by decide) (by decide)]; exact c3.1, fun i hi j hj => by rw [e378]; exact c3.2 i hi j hj⟩, c4, c5, fun j hj => ?_, ⟨by rw [efl 38 (by decide) (by decide)]; exact c7, by rw [efl 39 (by decide) (by decide)]; exact c8⟩, c9.tr g2⟩
          rcases Nat.lt_or_ge j r with q | q
          · exact c6 j q
          · rw [show j = r by omega]; exact hv
        · have hrk' := d1.rk
          rw [ha]
          refine ⟨fun _ => ?_, fun z => absurd z (by decide)⟩
          -- the row is copied
          refine loopE (fun m3 i (Z : Sto) => q_X9_needs_120 (fun y1 S => q_X9_needs_66 Q m y1 S) Q m3 (nI r) (nI i) Z) (fun i Z => frs [378] S' Z ∧ (∀ j, j < 256 * k → Z.1 378 j = S'.1 378 j) ∧ ∀ j, j < i → Z.1 378 (256 * k + j) = iI (X r j)) w ?_ ?_ 0 S' (Nat.zero_le _) ⟨frs.rf, fun _ _ => rfl, fun j q => by omega⟩
          · rintro Z ⟨z1, z2, z3⟩
            unfold q_X9_needs_120 q_X9_needs_171
            rw [z1.1 353 (by simp), efl 39 (by decide) (by decide), c8, nI_leI (by omega) (by omega), efl 41 (by decide) (by decide), c3.1]
            refine ⟨fun _ S3 e3 x1 ex1 => ?_, fun q => by omega⟩
            rw [ex1, nI_1]
            have o3 : ∀ c, c ≠ 353 → S3.1 c = Z.1 c := fun c h => by rw [e3, uA_ne h]
            have u3 : ∀ j, j ≠ 41 → S3.1 353 j = S'.1 353 j := fun j h => by rw [e3, uA_eq, upd_ne _ _ h, z1.1 353 (by simp)]
            have gc : ∀ j, j ≤ k → ∀ u, CS (LMs p n w M) (fun i => if i = k then X r else g i) j u ↔ CS (LMs p n w M) g j u := fun j hj u => CS_cong (fun i hi => if_neg (by omega)) u
            have gck : CS (LMs p n w M) (fun i => if i = k then X r else g i) k = CS (LMs p n w M) g k := funext fun v => propext (gc k (Nat.le_refl _) v)
            refine ih S3 ⟨k + 1, fun i => if i = k then X r else g i, rk', L', R', ((d1.keepS z1 (by simp)).keep ⟨by rw [u3 1 (by decide), z1.1 353 (by simp)], by rw [u3 25 (by decide), z1.1 353 (by simp)], by rw [u3 27 (by decide), z1.1 353 (by simp)]⟩ (fun c q1 q2 => o3 c (by omega))).cong (fun v => ?_), by omega, ⟨by rw [e3, uA_eq, upd_eq, nI_1], fun i hi j hj => ?_⟩, fun j hj => ?_, fun j hj => ?_, fun j hj => ?_, ⟨by rw [u3 38 (by decide), efl 38 (by decide) (by decide)]; exact c7, by rw [u3 39 (by decide), efl 39 (by decide) (by decide)]; exact c8⟩, c9.tr (g2.tr (((z1.M (by simp)).mono (by simp [lNd])).tr (by rw [e3]; exact frM.fld (by decide))))⟩
            · rw [← CS_add hL]
              simp only [if_pos]
              rw [gck]
            · rw [o3 378 (by decide)]
              by_cases e : i = k
              · simp only [if_pos e]
                rw [e]
                exact ⟨z3 j hj, (q1 j hj).2⟩
              · simp only [if_neg e]
                rw [z2 _ (by omega), e378]
                exact c3.2 i (by omega) j hj
            · by_cases e : j = k
              · simp only [if_pos e]; exact q2
              · simp only [if_neg e]; exact c4 j (by omega)
            · rw [gc j (by omega)]
              by_cases e : j = k
              · simp only [if_pos e]; rw [e]; exact hv
              · simp only [if_neg e]; exact c5 j (by omega)
            · rw [← CS_add hL]
              simp only [if_pos]
              rw [gck]
              rcases Nat.lt_or_ge j r with q | q
              · exact addV_old hV _ (c6 j q)
              · rw [show j = r by omega]; exact addV_new hV _
          · rintro i m3 Z hi ⟨z1, z2, z3⟩ ih3
            unfold q_X9_needs_120
            rw [z1.1 353 (by simp), efl 39 (by decide) (by decide), c8, nI_leI (by omega) (by omega), efl 41 (by decide) (by decide), c3.1, show (256 : Int32) = nI 256 from rfl, pk_mul, pk_mul, nI_add, nI_add, tn_nI (i := 256 * r + i) (by omega), tn_nI (i := 256 * k + i) (by omega), z1.1 377 (by simp), e377]
            refine ⟨fun q => by omega, fun _ => ⟨vp_nI (by omega) (by omega), vp_nI (by omega) (by omega), fun S5 e5 x2 ex2 => ?_⟩⟩
            rw [ex2, nI_1]
            refine ih3 S5 ⟨z1.tr (by rw [e5]; exact frs.upd (by simp)), fun j hj => by rw [e5, uA_eq, upd_ne _ _ (by omega)]; exact z2 j hj, fun j hj => ?_⟩
            rw [e5, uA_eq]
            by_cases e : j = i
            · rw [e, upd_eq]; exact (q1 i hi).1
            · rw [upd_ne _ _ (by omega)]; exact z3 j (by omega)
      · intro i m2 Y hi hY ih2
        unfold q_X9_needs_76
        have g1 : frs [370] T Y := by rw [hY]; exact frs.set (by simp)
        rw [g1.1 353 (by simp), c8, nI_leI (by omega) (by omega), show (256 : Int32) = nI 256 from rfl, pk_mul, nI_add, tn_nI (i := i) (by omega), tn_nI (i := 256 * r + i) (by omega), g1.1 377 (by simp)]
        refine ⟨fun z => by omega, fun _ => ⟨vp_nI (by omega) (by omega), vp_nI (by omega) (by omega), fun S7 e7 x2 ex2 => ?_⟩⟩
        rw [ex2, nI_1]
        refine ih2 S7 ?_
        rw [e7, hY]
        exact fl_step' T 370 i _ _ rfl
  -- letters times the rows
  refine loopE (fun m r (T : Sto) => q_X9_needs_10 Q m (nI r) T) (fun r T => ∃ V rk L R, MB T p w 0 V rk L R ∧ (∀ v, V v → LMs p n w M v) ∧ (∀ j, j < r → ∀ l, l < n → V (pl (2 ^ l) (X j))) ∧ frm [366, 367, 368, 369, 370] S T) mr ?_ ?_ 0 S1 (Nat.zero_le _) ⟨_, 0, _, _, a1, fun v hv => V0_least hL hv, fun j q => by omega, a2.mono (by simp)⟩
  · rintro T ⟨V, rk, L, R, b1, b2, b3, b4⟩
    unfold q_X9_needs_10
    rw [b4.2.1 38 (by decide) (by decide), m1, nI_leI (by omega) (by omega)]
    refine ⟨fun _ => part2 T rk L R (b1.cong (fun v => ⟨b2 v, fun hv => ?_⟩)) b4, fun z => by omega⟩
    have hV := b1.2.2.2.2.2.1
    refine hv V hV ?_
    rintro y ⟨l, hl, x, hx, rfl⟩
    have hP := pl_Lin p (w := w) (pow_l (l := l) (by omega)).1 hs
    exact m5 _ (Sub.pre hP hV) (fun j hj => b3 j hj l hl) x hx
  · rintro r m T hr ⟨V, rk, L, R, b1, b2, b3, b4⟩ ih
    obtain ⟨q1, q2⟩ := m4 r hr
    unfold q_X9_needs_10
    rw [b4.2.1 38 (by decide) (by decide), m1, nI_leI (by omega) (by omega)]
    refine ⟨fun z => by omega, fun _ => ?_⟩
    refine loopE (fun mm l (T : Sto) => q_X9_needs_20 (fun y1 S => q_X9_needs_10 Q m y1 S) Q mm (nI r) (nI l) T) (fun l T => ∃ V rk L R, MB T p w 0 V rk L R ∧ (∀ v, V v → LMs p n w M v) ∧ (∀ j, j < r → ∀ l, l < n → V (pl (2 ^ l) (X j))) ∧ (∀ l2, l2 < l → V (pl (2 ^ l2) (X r))) ∧ frm [366, 367, 368, 369, 370] S T) n ?_ ?_ 0 T (Nat.zero_le _) ⟨V, rk, L, R, b1, b2, b3, fun j q => by omega, b4⟩
    · rintro T ⟨V, rk, L, R, b1, b2, b3, b5, b4⟩
      unfold q_X9_needs_20
      rw [b4.2.1 0 (by decide) (by decide), h1, nI_leI (by omega) (by omega)]
      refine ⟨fun _ x1 ex1 => ?_, fun z => by omega⟩
      rw [ex1, nI_1]
      refine ih T ⟨V, rk, L, R, b1, b2, fun j hj l hl => ?_, b4⟩
      rcases Nat.lt_or_ge j r with q | q
      · exact b3 j q l hl
      · rw [show j = r by omega]; exact b5 l hl
    · rintro l mm T hl ⟨V, rk, L, R, b1, b2, b3, b5, b4⟩ ih2
      have hV := b1.2.2.2.2.2.1
      unfold q_X9_needs_20
      rw [b4.2.1 0 (by decide) (by decide), h1, nI_leI (by omega) (by omega), show (256 : Int32) = nI 256 from rfl, pk_mul]
      refine ⟨fun z => by omega, fun _ => ?_⟩
      refine sp_lifts (X := X r) (s := s) (hC.keep b4) hl (by omega) (by omega) (by rw [b4.2.1 39 (by decide) (by decide), ← hwe]; exact m2) (fun i hi => by rw [b4.1 377 (by decide) (by simp)]; exact q1 i (by omega)) (fun T1 d1 d2 => ?_)
      rw [← hwe] at d1
      have hE : eqm p w (pl (2 ^ l) (X r)) (fun c => pl (2 ^ l) (X r) c % p) := eqm_emod (fun _ _ => rfl)
      refine sp_comes (b1.keepS d2 (by simp)) d1 (fun a S' rk' L' R' e1 e2 e3 x2 ex2 => ?_)
      rw [ex2, nI_1]
      refine ih2 S' ⟨_, rk', L', R', e1, fun v hv => addV_least hL b2 (hL.2.2.2 _ _ hE (LMs_gen hl q2)) hv, fun j hj l hl => addV_old hV _ (b3 j hj l hl), fun l2 hl2 => ?_, b4.tr (((d2.m (by simp)).mono (by simp)).tr (e2.mono (by simp)))⟩
      rcases Nat.lt_or_ge l2 l with q | q
      · exact addV_old hV _ (b5 l2 q)
      · rw [show l2 = l by omega]
        exact (addV_sub hV _).2.2.2 _ _ hE.sy (addV_new hV _)
