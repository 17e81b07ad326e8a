/-! the reference: relations, steps -/
theorem rl_1 : ∀ n, n < 5 → 2 ≤ n → ∀ a, a < 2 ^ n → ∀ i, i < 256 → a &&& (i % 2 ^ n) = 0 → i - i % 2 ^ n + (a ||| (i % 2 ^ n)) = i ||| a := by decide +kernel
theorem rl_2 : ∀ n, n < 5 → 2 ≤ n → ∀ a, a < 2 ^ n → ∀ i, i < 256 → a &&& (i % 2 ^ n) = 0 → (i ||| a) ^^^ a = i := by decide +kernel
theorem rl_3 : ∀ a, a < 16 → ∀ i, i < 256 → a &&& (i ||| a) = a := by decide +kernel
theorem rl_4 : ∀ n, n < 5 → 2 ≤ n → ∀ a, a < 2 ^ n → ∀ i, i < 256 → sg a i = sg a (i % 2 ^ n) := by decide +kernel
theorem rl_5 : ∀ n, n < 5 → 2 ≤ n → ∀ a, a < 2 ^ n → ∀ i, i < 256 → (i ||| a) < (i / 2 ^ n + 1) * 2 ^ n := by decide +kernel
theorem rl_6 : ∀ n, n < 5 → 2 ≤ n → ∀ a, a < 2 ^ n → ∀ c, c < 256 → a &&& c = a → a &&& ((c ^^^ a) % 2 ^ n) = 0 := by decide +kernel
theorem rl_7 : ∀ a, a < 16 → ∀ c, c < 256 → a &&& c = a → (c ^^^ a) ||| a = c := by decide +kernel
theorem or_blk {n s a i : Nat} (hn : n < 5) (hn2 : 2 ≤ n) (ha : a < 2 ^ n) (hi : i < 256) (h : i < s * 2 ^ n) : i ||| a < s * 2 ^ n := by
  have h1 := rl_5 n hn hn2 a ha i hi
  have h2 := blk_lt h
  have := Nat.mul_le_mul_right (2 ^ n) (show i / 2 ^ n + 1 ≤ s from h2)
  omega
theorem cmb_del {n t j c : Nat} (hn : n ≤ 4) (hj : j < t * 2 ^ n) (g : Nat → Vc) : cmb n t g (fun k => if k = j then 1 else 0) c = pl (j % 2 ^ n) (g (j / 2 ^ n)) c := by
  unfold cmb
  rw [sI_one hj (fun k _ q => by simp only [if_neg q, Int.zero_mul])]
  simp only [if_pos, Int.one_mul]
def lRl : List Nat := [366, 367, 368, 369, 370, 377]
theorem sp_relates {n p s K t : Nat} {h : Nat → Vc} {S : Sto} {Q : Sto → Prop} (hC : Cm S n p K) (hs : s * 2 ^ n + t * 2 ^ n ≤ 256) (h39 : S.1 353 39 = nI (s * 2 ^ n)) (hT : Tkn S p (s * 2 ^ n) t h)
    (hQ : ∀ S' mr X, Mdl S' p (t * 2 ^ n) (Sz p n (s * 2 ^ n) t h) mr X → frM lRl S S' → Q S') : wp_X9_relates S Q := by
  obtain ⟨h1, h2, h3, h4, n2, n4, hp, hK⟩ := id hC
  obtain ⟨k1, k2⟩ := hT
  have hw := pow_n n4
  have hp8 := hp.pos
  have l366 : ln 366 = 65536 := by decide +kernel
  obtain ⟨w, hwe⟩ : ∃ w, w = s * 2 ^ n := ⟨_, rfl⟩
  obtain ⟨tw, htw⟩ : ∃ tw, tw = t * 2 ^ n := ⟨_, rfl⟩
  have ht32 : t ≤ 256 := by
    have := Nat.le_mul_of_pos_right t hw.2
    omega
  have hf0 := cmb_Lin p n t w h
  rw [← htw] at hf0
  rw [← hwe] at h39 k2 hQ
  rw [← hwe, ← htw] at hs
  have hTs := all_Sub p tw
  have hGs := Gr_Sub hTs hf0
  have hEm := emb_Lin hf0
  unfold wp_X9_relates
  intro x1 ex1
  rw [h39, k1, h4, pk_mul, nI_add, ← htw] at ex1
  rw [ex1]
  refine sp_begin9 h2 hp hs (fun S1 a1 a2 => ?_)
  -- the rows of the kernel
  have part2 : ∀ (T : Sto) (rk : Nat) (L : Nat → Nat) (R : Nat → Vc), MB T p (w + tw) 0 (Gr p w (fun _ => True) (cmb n t h)) rk L R → frm [366, 367, 368, 369, 370] S T → ∀ S_2 : Sto, S_2 = uA T 353 38 0 → (∃ n_198, q_X9_relates_198 Q n_198 0 S_2) := by
    intro T rk L R b1 b2 S2 e2
    have hrk := b1.rk
    obtain ⟨-, -, br, -, bB, bV, bct⟩ := id b1
    have o2 : ∀ c, c ≠ 353 → S2.1 c = T.1 c := fun c h => by rw [e2, uA_ne h]
    have u2 : ∀ j, j ≠ 38 → S2.1 353 j = T.1 353 j := fun j h => by rw [e2, uA_eq, upd_ne _ _ h]
    have f2 : frM lRl S S2 := (b2.M.mono (by simp [lRl])).tr (by rw [e2]; exact frM.fld (by decide))
    obtain ⟨cf, hcf⟩ : ∃ cf : Nat → Nat, cf = ctB (fun r => decide (w ≤ L r)) := ⟨_, rfl⟩
    have cfW : cf rk ≤ tw := by
      rw [hcf, ctB_rows b1 (fun l => decide (w ≤ l))]
      have h := ctB_more (fun l => isB (hdL rk L l ∧ decide (w ≤ l) = true)) w tw
      have h0 : ctB (fun l => isB (hdL rk L l ∧ decide (w ≤ l) = true)) w = 0 := by
        rw [ctB_skip (a := 0) (by omega) (fun l _ hl => isB_f.mpr (fun q => by have := of_decide_eq_true q.2; omega))]; rfl
      omega
    have cf_lt : ∀ r r', r < r' → w ≤ L r → cf r < cf r' := fun r r' hr hl => by rw [hcf]; exact ctB_lt hr (by simpa using hl)
    have cf_le : ∀ r, r ≤ rk → cf r ≤ cf rk := by
      intro r hr
      rw [hcf]
      have : ∀ a b, a ≤ b → ctB (fun r => decide (w ≤ L r)) a ≤ ctB (fun r => decide (w ≤ L r)) b := by
        intro a b hab
        induction b with
        | zero => rw [show a = 0 by omega]; exact Nat.le_refl _
        | succ b ih =>
          rcases Nat.lt_or_ge a (b + 1) with q | q
          · have := ih (by omega)
            show _ ≤ ctB _ b + _
            omega
          · rw [show a = b + 1 by omega]; exact Nat.le_refl _
      exact this r rk hr
    have cf_inj : ∀ r r', w ≤ L r → w ≤ L r' → cf r = cf r' → r = r' := fun r r' hl hl' e => by
      rcases Nat.lt_trichotomy r r' with q | q | q
      · have := cf_lt r r' q hl; omega
      · exact q
      · have := cf_lt r' r q hl'; omega
    have fin : ∀ (Y3 : Sto), frM lRl S Y3 → Y3.1 353 38 = nI (cf rk) → (∀ r, r < rk → w ≤ L r → ∀ a, a < tw → Y3.1 377 (256 * cf r + a) = iI (R (L r) (w + a))) → ∀ S_2 : Sto, S_2 = uA Y3 353 39 (nI tw) → Q S_2 := by
      intro Y3 c1 c0 c2 S3 e3
      have hex : ∀ k, k < cf rk → ∃ r, r < rk ∧ w ≤ L r ∧ cf r = k := by
        intro k hk
        rw [hcf] at hk
        obtain ⟨r, q1, q2, q3⟩ := ctB_at hk
        exact ⟨r, q1, by simpa using q2, by rw [hcf]; exact q3⟩
      obtain ⟨X', hX'⟩ : ∃ X' : Nat → Vc, ∀ k (hk : k < cf rk), X' k = sh w (R (L (Classical.choose (hex k hk)))) := ⟨fun k => if hk : k < cf rk then sh w (R (L (Classical.choose (hex k hk)))) else fun _ => 0, fun k hk => dif_pos hk⟩
      have hXr : ∀ r, r < rk → w ≤ L r → X' (cf r) = sh w (R (L r)) := by
        intro r hr hl
        have hk := cf_lt r rk hr hl
        rw [hX' _ hk]
        have := Classical.choose_spec (hex _ hk)
        rw [cf_inj _ r this.2.1 hl this.2.2]
      have kb := (Ker_RB hf0 bB).cong (V' := Sz p n w t h) (fun v => ⟨fun q => q.2, fun q => ⟨trivial, q⟩⟩)
      have hSz := Sz_Sub p n w t h
      rw [← htw] at hSz hQ
      refine hQ S3 (cf rk) X' ⟨by rw [e3, uA_eq, upd_ne _ _ (by decide)]; exact c0, by rw [e3, uA_eq, upd_eq], cfW, fun k hk => ?_, fun U' hU' hall v hv => ?_, hSz⟩ (c1.tr (by rw [e3]; exact frM.fld (by decide)))
      · obtain ⟨r, q1, q2, q3⟩ := hex k hk
        have hd : hdL rk L (w + (L r - w)) := ⟨r, q1, by omega⟩
        have g := kb.1 _ hd
        simp only [show w + (L r - w) = L r by omega] at g
        rw [← q3, hXr r q1 q2]
        refine ⟨fun a ha => ?_, g.2.1⟩
        rw [e3, uA_ne (by decide), c2 r q1 q2 a ha]
        exact ⟨rfl, g.2.2.2.1 a ha⟩
      · refine kb.span hSz hU' (fun l hl => ?_) hv
        obtain ⟨r, q1, q2⟩ := hl
        have := hall (cf r) (cf_lt r rk q1 (by omega))
        rw [hXr r q1 (by omega), q2] at this
        exact this
    refine loopE (fun m r (Z : Sto) => q_X9_relates_198 Q m (nI r) Z) (fun r Z => (∀ c, c ≠ 353 → c ≠ 377 → Z.1 c = T.1 c) ∧ (∀ j, j ≠ 38 → Z.1 353 j = T.1 353 j) ∧ Z.2 = T.2 ∧ Z.1 353 38 = nI (cf r) ∧ ∀ r', r' < r → w ≤ L r' → ∀ a, a < tw → Z.1 377 (256 * cf r' + a) = iI (R (L r') (w + a))) rk ?_ ?_ 0 S2 (Nat.zero_le _) ⟨fun c q _ => o2 c q, u2, by rw [e2]; rfl, by rw [e2, uA_eq, upd_eq, hcf]; rfl, fun r q => by omega⟩
    · rintro Z ⟨z1, z2, z3, z4, z5⟩
      unfold q_X9_relates_198
      have zf : frM lRl S Z := ⟨fun c q1 q2 => by rw [z1 c q1 (by intro e; exact q2 (by rw [e]; simp [lRl]))]; exact b2.1 c q1 (by intro e; exact q2 (by simp [lRl] at e ⊢; omega)), fun j hj => by rw [z2 j (by omega)]; exact b2.2.1 j (by omega) (by omega), by rw [z3]; exact b2.2.2⟩
      rw [z2 25 (by decide), b1.1.2.2.2.2.2, nI_leI (by omega) (by omega), z2 41 (by decide), z2 3 (by decide), b2.2.1 41 (by decide) (by decide), b2.2.1 3 (by decide) (by decide), k1, h4, pk_mul, ← htw]
      exact ⟨fun _ => fin Z zf z4 z5, fun q => by omega⟩
    · rintro r m Z hr ⟨z1, z2, z3, z4, z5⟩ ih
      unfold q_X9_relates_198 q_X9_relates_285
      obtain ⟨u1, u2', u3, u4⟩ := br r hr
      have cle := cf_le r (by omega)
      rw [z2 25 (by decide), b1.1.2.2.2.2.2, nI_leI (by omega) (by omega), tn_nI (by omega), z1 367 (by decide) (by decide), u2', z2 39 (by decide), b2.2.1 39 (by decide) (by decide), h39, nI_leI (by omega) (by omega)]
      refine ⟨fun z => by omega, fun _ => ⟨vp_nI (by omega) (by omega), fun z => ?_, fun z x2 ex2 => ?_⟩⟩
      · have hcfr := cf_lt r rk hr z
        refine loopE (fun m2 a (Z2 : Sto) => q_X9_relates_224 (fun y2 S => q_X9_relates_198 Q m y2 S) Q m2 (nI r) (nI a) Z2) (fun a Z2 => frs [377] Z Z2 ∧ (∀ i, i < 256 * cf r → Z2.1 377 i = Z.1 377 i) ∧ ∀ b, b < a → Z2.1 377 (256 * cf r + b) = iI (R (L r) (w + b))) tw ?_ ?_ 0 Z (Nat.zero_le _) ⟨frs.rf, fun _ _ => rfl, fun b q => by omega⟩
        · rintro Z2 ⟨y1, y2, y3⟩
          unfold q_X9_relates_224 q_X9_relates_285
          rw [y1.1 353 (by simp), z2 41 (by decide), z2 3 (by decide), b2.2.1 41 (by decide) (by decide), b2.2.1 3 (by decide) (by decide), k1, h4, pk_mul, ← htw, nI_leI (by omega) (by omega), z4]
          refine ⟨fun _ S3 e3 x2 ex2 => ?_, fun q => by omega⟩
          rw [ex2, nI_1]
          refine ih S3 ⟨fun c q1 q2 => by rw [e3, uA_ne q1, y1.1 c (by simpa using q2)]; exact z1 c q1 q2, fun j hj => by rw [e3, uA_eq, upd_ne _ _ hj, y1.1 353 (by simp)]; exact z2 j hj, by rw [e3]; show Z2.2 = _; rw [y1.2]; exact z3, ?_, fun r' hr' hl a ha => ?_⟩
          · rw [e3, uA_eq, upd_eq, nI_1, hcf]
            show _ = nI (ctB _ r + _)
            rw [if_pos (by simpa using z)]
          · rw [e3, uA_ne (by decide)]
            by_cases e : r' = r
            · rw [e]; exact y3 a ha
            · have := cf_lt r' r (by omega) hl
              rw [y2 _ (by omega)]
              exact z5 r' (by omega) hl a ha
        · rintro a m2 Z2 ha ⟨y1, y2, y3⟩ ih2
          unfold q_X9_relates_224
          rw [y1.1 353 (by simp), z2 41 (by decide), z2 3 (by decide), z2 39 (by decide), b2.2.1 41 (by decide) (by decide), b2.2.1 3 (by decide) (by decide), b2.2.1 39 (by decide) (by decide), k1, h4, h39, z4, pk_mul, ← htw, nI_leI (by omega) (by omega), show (256 : Int32) = nI 256 from rfl, pk_mul, pk_mul, nI_add, nI_add, nI_add, tn_nI (i := 256 * r + w + a) (by omega), tn_nI (i := 256 * cf r + a) (by omega), y1.1 366 (by simp), z1 366 (by decide) (by decide)]
          refine ⟨fun q => by omega, fun _ => ⟨vp_nI (by omega) (by omega), vp_nI (by omega) (by omega), fun S5 e5 x3 ex3 => ?_⟩⟩
          rw [ex3, nI_1]
          refine ih2 S5 ⟨y1.tr (by rw [e5]; exact frs.upd (by simp)), fun i hi => by rw [e5, uA_eq, upd_ne _ _ (by omega)]; exact y2 i hi, fun b hb => ?_⟩
          rw [e5, uA_eq]
          by_cases e : b = a
          · rw [e, upd_eq, Nat.add_assoc, u4 _ (by omega)]
          · rw [upd_ne _ _ (by omega)]; exact y3 b (by omega)
      · rw [ex2, nI_1]
        refine ih Z ⟨z1, z2, z3, ?_, fun r' hr' hl a ha => z5 r' (by rcases Nat.lt_or_ge r' r with q | q; exact q; exact absurd (show r' = r by omega) (fun e => z (e ▸ hl))) hl a ha⟩
        rw [z4, hcf]
        show _ = nI (ctB _ r + _)
        rw [if_neg (by simpa using z)]; rfl
  -- the pairs
  obtain ⟨del, hdel⟩ : ∃ del : Nat → Vc, del = fun j k => if k = j then 1 else 0 := ⟨_, rfl⟩
  refine loopE (fun m g (T : Sto) => q_X9_relates_22 Q m (nI (w + tw)) (nI g) T) (fun g T => ∃ V rk L R, MB T p (w + tw) 0 V rk L R ∧ (∀ v, V v → Gr p w (fun _ => True) (cmb n t h) v) ∧ (∀ j, j < g * 2 ^ n → V (emb w (cmb n t h) (del j))) ∧ frm [366, 367, 368, 369, 370] S T) t ?_ ?_ 0 S1 (Nat.zero_le _) ⟨_, 0, _, _, a1, fun v hv => V0_least hGs hv, fun j q => by rw [Nat.zero_mul] at q; omega, a2.mono (by simp)⟩
  · rintro T ⟨V, rk, L, R, b1, b2, b3, b4⟩
    unfold q_X9_relates_22
    rw [b4.2.1 41 (by decide) (by decide), k1, nI_leI (by omega) (by omega)]
    refine ⟨fun _ => part2 T rk L R (b1.cong (fun v => ⟨b2 v, fun hv => Gr_all hf0 b1.2.2.2.2.2.1 (fun x _ => ?_) hv⟩)) b4, fun z => by omega⟩
    exact unit_all (Sub.pre hEm b1.2.2.2.2.2.1) (fun a ha => by have := b3 a (by omega); rw [hdel] at this; exact this) x
  · rintro g m T hg ⟨V, rk, L, R, b1, b2, b3, b4⟩ ih
    have hgw : g * 2 ^ n + 2 ^ n ≤ tw := by rw [htw, ← Nat.succ_mul]; exact Nat.mul_le_mul_right _ hg
    unfold q_X9_relates_22
    rw [b4.2.1 41 (by decide) (by decide), k1, nI_leI (by omega) (by omega)]
    refine ⟨fun z => by omega, fun _ => ?_⟩
    refine loopE (fun m2 a (T : Sto) => q_X9_relates_32 (fun y1 y2 S => q_X9_relates_22 Q m y1 y2 S) Q m2 (nI (w + tw)) (nI g) (nI a) T) (fun a T => ∃ V rk L R, MB T p (w + tw) 0 V rk L R ∧ (∀ v, V v → Gr p w (fun _ => True) (cmb n t h) v) ∧ (∀ j, j < g * 2 ^ n + a → V (emb w (cmb n t h) (del j))) ∧ frm [366, 367, 368, 369, 370] S T) (2 ^ n) ?_ ?_ 0 T (Nat.zero_le _) ⟨V, rk, L, R, b1, b2, b3, b4⟩
    · rintro T ⟨V, rk, L, R, b1, b2, b3, b4⟩
      unfold q_X9_relates_32
      rw [b4.2.1 3 (by decide) (by decide), h4, nI_leI (by omega) (by omega)]
      refine ⟨fun _ x2 e2 => ?_, fun z => by omega⟩
      rw [e2, nI_1]
      exact ih T ⟨V, rk, L, R, b1, b2, fun j hj => b3 j (by rw [Nat.succ_mul] at hj; omega), b4⟩
    · rintro a m2 T ha ⟨V, rk, L, R, b1, b2, b3, b4⟩ ih2
      have hV := b1.2.2.2.2.2.1
      have e378 : T.1 378 = S.1 378 := b4.1 378 (by decide) (by simp)
      have hxk := k2 g hg
      unfold q_X9_relates_32
      rw [b4.2.1 3 (by decide) (by decide), h4, nI_leI (by omega) (by omega)]
      refine ⟨fun z => by omega, fun _ => ?_⟩
      -- the row
      have row : ∀ Y, frs [370] T Y → (∀ k, k < w + tw → Y.1 370 k = 0) → ∃ n_66, q_X9_relates_66 (fun y1 y2 S => q_X9_relates_22 Q m y1 y2 S) (fun y1 y2 y3 S => q_X9_relates_32 (fun y1 y2 S => q_X9_relates_22 Q m y1 y2 S) Q m2 y1 y2 y3 S) Q n_66 (nI (w + tw)) (nI g) (nI a) 0 Y := by
        intro Y y1 y2
        refine loopE (fun m3 i (Y : Sto) => q_X9_relates_66 (fun y1 y2 S => q_X9_relates_22 Q m y1 y2 S) (fun y1 y2 y3 S => q_X9_relates_32 (fun y1 y2 S => q_X9_relates_22 Q m y1 y2 S) Q m2 y1 y2 y3 S) Q m3 (nI (w + tw)) (nI g) (nI a) (nI i) Y) (fun i Y => frs [370] T Y ∧ ∀ k, k < w + tw → Y.1 370 k = if k < w ∧ a &&& k = a ∧ k ^^^ a < i then iI (pl a (h g) k % p) else 0) w ?_ ?_ 0 Y (Nat.zero_le _) ⟨y1, fun k hk => by rw [y2 k hk, if_neg (by omega)]⟩
        · rintro Y ⟨y1, y2⟩
          unfold q_X9_relates_66
          rw [y1.1 353 (by simp), b4.2.1 39 (by decide) (by decide), b4.2.1 3 (by decide) (by decide), h39, h4, nI_leI (by omega) (by omega), pk_mul, show 2 ^ n * g = g * 2 ^ n from Nat.mul_comm _ _, nI_add, nI_add, tn_nI (by omega)]
          refine ⟨fun _ => ⟨vp_nI (by omega) (by omega), fun S3 e3 => ?_⟩, fun z => by omega⟩
          obtain ⟨Z, hZ⟩ : ∃ Z : Vc, Z = fun k => if k < w then pl a (h g) k % p else if k = w + g * 2 ^ n + a then 1 else 0 := ⟨_, rfl⟩
          have hZr : ∀ k, 0 ≤ Z k ∧ Z k < p := by
            intro k
            rw [hZ]
            by_cases q : k < w
            · simp only [if_pos q]; exact ⟨Int.emod_nonneg _ (by omega), Int.emod_lt_of_pos _ (by omega)⟩
            · simp only [if_neg q]; exact unit_rd hp k
          obtain ⟨m1, m2'⟩ := blk_md (b := g) ha
          have hZe : eqm p (w + tw) (emb w (cmb n t h) (del (g * 2 ^ n + a))) Z := by
            intro k hk
            rw [hZ]
            unfold emb
            by_cases q : k < w
            · simp only [if_pos q]
              rw [hdel, cmb_del n4 (by omega), m1, m2']
              exact dvd_emod p _
            · simp only [if_neg q, hdel]
              by_cases e : k = w + g * 2 ^ n + a
              · rw [if_pos (by omega), if_pos e]; exact ⟨0, by omega⟩
              · rw [if_neg (by omega), if_neg e]; exact ⟨0, by omega⟩
          have f3 : frs [370] T S3 := y1.tr (by rw [e3]; exact frs.upd (by simp))
          refine sp_comes (X := Z) (b1.keepS f3 (by simp)) (fun k hk => ⟨?_, hZr k⟩) (fun r S' rk' L' R' d1 d2 d3 x3 ex3 => ?_)
          · rw [e3, uA_eq, hZ]
            by_cases e : k = w + g * 2 ^ n + a
            · rw [e, upd_eq]
              simp only [if_neg (show ¬ w + g * 2 ^ n + a < w by omega), if_true]; rfl
            · rw [upd_ne _ _ e, y2 k hk]
              by_cases q : k < w
              · simp only [if_pos q]
                by_cases q2 : a &&& k = a
                · have := sub_le a (by omega) k (by omega) q2
                  rw [if_pos ⟨q, q2, by omega⟩]
                · rw [if_neg (fun z => q2 z.2.1)]
                  unfold pl
                  rw [if_neg q2, Int.zero_emod]; rfl
              · simp only [if_neg q, if_neg e]
                rw [if_neg (fun z => q z.1)]; rfl
          · rw [ex3, nI_1]
            refine ih2 S' ⟨_, rk', L', R', d1, fun v hv => addV_least hGs b2 (hGs.2.2.2 _ _ hZe (emb_Gr trivial)) hv, fun j hj => ?_, b4.tr (((f3.m (by simp)).mono (by simp)).tr (d2.mono (by simp)))⟩
            rcases Nat.lt_or_ge j (g * 2 ^ n + a) with q | q
            · exact addV_old hV _ (b3 j q)
            · rw [show j = g * 2 ^ n + a by omega]
              exact (addV_sub hV _).2.2.2 _ _ hZe.sy (addV_new hV _)
        · rintro i m3 Y hi ⟨y1, y2⟩ ih3
          unfold q_X9_relates_66 q_X9_relates_149
          obtain ⟨x1', x2', x3'⟩ := hxk i hi
          have hmi := Nat.mod_lt i hw.2
          have hdi := Nat.mod_le i (2 ^ n)
          rw [y1.1 353 (by simp), b4.2.1 39 (by decide) (by decide), b4.2.1 3 (by decide) (by decide), h39, h4, nI_leI (by omega) (by omega)]
          refine ⟨fun z => by omega, fun _ => ⟨nI_ne0 (by omega) (by omega), fun x5 ex5 => ?_⟩⟩
          rw [pk_rem (by omega) (by omega) (by omega)] at ex5
          rw [ex5]
          refine sp_sign9 (by omega) (by omega) ?_
          have hs3 := sg_sm a (by omega) (i % 2 ^ n) (by omega)
          have fz := sg_nz a (by omega) (i % 2 ^ n) (by omega)
          have same : (a &&& (i % 2 ^ n) = 0 → h g i = 0) → ∀ k, k < w + tw → Y.1 370 k = if k < w ∧ a &&& k = a ∧ k ^^^ a < i + 1 then iI (pl a (h g) k % p) else 0 := by
            intro h0 k hk
            rw [y2 k hk]
            by_cases q : k < w ∧ a &&& k = a
            · by_cases e : k ^^^ a = i
              · rw [if_neg (by omega), if_pos ⟨q.1, q.2, by omega⟩]
                unfold pl
                rw [if_pos q.2, e, h0 (by rw [← e]; exact rl_6 n (by omega) n2 a ha k (by omega) q.2), Int.mul_zero, Int.zero_emod]; rfl
              · have e2 : (k < w ∧ a &&& k = a ∧ k ^^^ a < i) ↔ (k < w ∧ a &&& k = a ∧ k ^^^ a < i + 1) := by omega
                simp only [e2]
            · rw [if_neg (fun z => q ⟨z.1, z.2.1⟩), if_neg (fun z => q ⟨z.1, z.2.1⟩)]
          rw [iI_eq0 ⟨by omega, by omega⟩, show (256 : Int32) = nI 256 from rfl, pk_mul, nI_add, tn_nI (by omega), y1.1 378 (by simp), e378, x1']
          refine ⟨fun z x4 e4 => ?_, fun z => ⟨vp_nI (by omega) (by omega), fun z2 x4 e4 => ?_, fun z2 => ⟨vp_nI (by omega) (by omega), ?_⟩⟩⟩
          · rw [e4, nI_1]
            exact ih3 Y ⟨y1, same (fun h0 => absurd z (fz.mp h0))⟩
          · rw [e4, nI_1]
            rw [iI_eq0 ⟨by omega, by omega⟩] at z2
            exact ih3 Y ⟨y1, same (fun _ => z2)⟩
          · have h0 := fz.mpr z
            have r1 := rl_1 n (by omega) n2 a ha i (by omega) h0
            have r2 := rl_2 n (by omega) n2 a ha i (by omega) h0
            have r3 := rl_3 a (by omega) i (by omega)
            have r4 := rl_4 n (by omega) n2 a ha i (by omega)
            have hlt : i ||| a < w := by rw [hwe]; exact or_blk (by omega) n2 ha (by omega) (by rw [← hwe]; exact hi)
            have hb : -8 ≤ sg a (i % 2 ^ n) * h g i ∧ sg a (i % 2 ^ n) * h g i ≤ 8 := by rcases hs3 with e | e | e <;> rw [e] <;> omega
            obtain ⟨an1, an2, an3, an4⟩ := an_N a (by omega) (i % 2 ^ n) (by omega)
            rw [← iI_mul, iI_l ⟨by omega, by omega⟩, pk_sub hdi, an2, nI_add, r1]
            refine sp_mod9 (by rw [y1.1 353 (by simp), b4.2.1 1 (by decide) (by decide)]; exact h2) hp ⟨by omega, by omega⟩ ?_
            rw [tn_nI (by omega)]
            refine ⟨vp_nI (by omega) (by omega), fun S1 e1 x4 e4 => ?_⟩
            rw [e4, nI_1]
            refine ih3 S1 ⟨y1.tr (by rw [e1]; exact frs.upd (by simp)), fun k hk => ?_⟩
            rw [e1, uA_eq]
            by_cases e : k = i ||| a
            · rw [e, upd_eq, if_pos ⟨hlt, r3, by omega⟩]
              unfold pl
              rw [if_pos r3, r2, r4]
            · rw [upd_ne _ _ e, y2 k hk]
              have e2 : (k < w ∧ a &&& k = a ∧ k ^^^ a < i) ↔ (k < w ∧ a &&& k = a ∧ k ^^^ a < i + 1) := by
                constructor
                · rintro ⟨q0, q1, q2⟩; exact ⟨q0, q1, by omega⟩
                · rintro ⟨q0, q1, q2⟩
                  refine ⟨q0, q1, ?_⟩
                  rcases Nat.lt_or_ge (k ^^^ a) i with q | q
                  · exact q
                  · have h5 := rl_7 a (by omega) k (by omega) q1
                    rw [show k ^^^ a = i by omega] at h5
                    exact absurd h5.symm e
              simp only [e2]
      refine loopE (fun m3 i (Y : Sto) => q_X9_relates_43 (fun y1 y2 S => q_X9_relates_22 Q m y1 y2 S) (fun y1 y2 y3 S => q_X9_relates_32 (fun y1 y2 S => q_X9_relates_22 Q m y1 y2 S) Q m2 y1 y2 y3 S) Q m3 (nI (w + tw)) (nI g) (nI a) (nI i) Y) (fun i Y => frs [370] T Y ∧ ∀ k, k < i → Y.1 370 k = 0) (w + tw) ?_ ?_ 0 T (Nat.zero_le _) ⟨frs.rf, fun k q => by omega⟩
      · rintro Y ⟨y1, y2⟩
        unfold q_X9_relates_43
        rw [nI_leI (by omega) (by omega)]
        exact ⟨fun _ => row Y y1 y2, fun z => by omega⟩
      · rintro i m3 Y hi ⟨y1, y2⟩ ih3
        unfold q_X9_relates_43
        rw [nI_leI (by omega) (by omega), tn_nI (by omega)]
        refine ⟨fun z => by omega, fun _ => ⟨vp_nI (by omega) (by omega), fun S1 e1 x4 e4 => ?_⟩⟩
        rw [e4, nI_1]
        refine ih3 S1 ⟨y1.tr (by rw [e1]; exact frs.upd (by simp)), fun c hc => ?_⟩
        rw [e1, uA_eq]
        by_cases e : c = i
        · rw [e, upd_eq]
        · rw [upd_ne _ _ e]; exact y2 c (by omega)
