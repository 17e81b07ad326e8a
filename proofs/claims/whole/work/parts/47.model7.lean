/-! the reference: annihilators -/
theorem actx_Lin (p : Nat) {w hand : Nat} (g : Vc) : Lin p w w (fun x => act w hand x g) := by
  refine ⟨fun x y i => ?_, fun c x i => ?_, fun x y e i hi => ?_⟩
  · show act w hand (fun j => x j + y j) g i = _
    unfold act
    rw [← sI_add]
    exact sI_cong (fun k _ => Int.add_mul _ _ _)
  · show act w hand (fun j => c * x j) g i = _
    unfold act
    rw [← sI_mul]
    exact sI_cong (fun k _ => Int.mul_assoc _ _ _)
  · refine sI_mod (fun k hk => ?_)
    rw [← Int.sub_mul]
    exact Int.dvd_mul_of_dvd_left (e k hk)
/-- what changes in the reference: l, and fields of no lasting kind -/
def frM (l : List Nat) (S S' : Sto) : Prop := (∀ c, c ≠ 353 → c ∉ l → S'.1 c = S.1 c) ∧ (∀ j, j < 22 ∨ j = 36 → S'.1 353 j = S.1 353 j) ∧ S'.2 = S.2
theorem frM.rf {l : List Nat} {S : Sto} : frM l S S := ⟨fun _ _ _ => rfl, fun _ _ => rfl, rfl⟩
theorem frM.tr {l : List Nat} {S S' S'' : Sto} (a : frM l S S') (b : frM l S' S'') : frM l S S'' := ⟨fun c x y => (b.1 c x y).trans (a.1 c x y), fun j x => (b.2.1 j x).trans (a.2.1 j x), b.2.2.trans a.2.2⟩
theorem frM.mono {l l' : List Nat} {S S' : Sto} (a : frM l S S') (h : ∀ c, c ∈ l → c ∈ l') : frM l' S S' := ⟨fun c x y => a.1 c x (fun q => y (h c q)), a.2.1, a.2.2⟩
theorem frm.M {l : List Nat} {S S' : Sto} (a : frm l S S') : frM l S S' := ⟨a.1, fun j h => a.2.1 j (by omega) (by omega), a.2.2⟩
theorem frs.M {l : List Nat} {S S' : Sto} (a : frs l S S') (h : 353 ∉ l) : frM l S S' := (a.m h).M
theorem frM.fld {l : List Nat} {S : Sto} {j : Nat} {x : Int32} (h : 22 ≤ j ∧ j ≠ 36) : frM l S (uA S 353 j x) := ⟨fun c q _ => uA_ne q, fun i hi => by rw [uA_eq, upd_ne _ _ (by omega)], rfl⟩
theorem Cm.keepM {S S' : Sto} {n p K : Nat} {l : List Nat} (h : Cm S n p K) (f : frM l S S') : Cm S' n p K := by
  obtain ⟨h1, h2, h3, h4, h5⟩ := h
  exact ⟨by rw [f.2.1 0 (by decide)]; exact h1, by rw [f.2.1 1 (by decide)]; exact h2, by rw [f.2.1 2 (by decide)]; exact h3, by rw [f.2.1 3 (by decide)]; exact h4, h5⟩
/-- the space tells U -/
def Spc (S : Sto) (n p : Nat) (U : Vc → Prop) (m : Nat) (X : Nat → Vc) : Prop := S.1 353 35 = nI m ∧ m ≤ 2 ^ n ∧ (∀ i, i < m → (∀ a, a < 2 ^ n → S.1 374 (16 * i + a) = iI (X i a) ∧ 0 ≤ X i a ∧ X i a < p) ∧ U (X i)) ∧ (∀ U' : Vc → Prop, Sub p (2 ^ n) U' → (∀ i, i < m → U' (X i)) → ∀ v, U v → U' v) ∧ Sub p (2 ^ n) U
def lAn : List Nat := [366, 367, 368, 369, 370, 373, 374, 375]
theorem ctB_lt {f : Nat → Bool} {c c' : Nat} (h : c < c') (hc : f c = true) : ctB f c < ctB f c' := by
  have mono : ∀ a b, a ≤ b → ctB f a ≤ ctB f b := by
    intro a b hab
    induction b with
    | zero => rw [show a = 0 by omega]; exact Nat.le_refl _
    | succ b ih =>
      rcases Nat.lt_or_ge a (b + 1) with q | q
      · have := ih (by omega)
        show _ ≤ ctB _ b + _
        omega
      · rw [show a = b + 1 by omega]; exact Nat.le_refl _
  have h1 : ctB f (c + 1) = ctB f c + 1 := by
    show ctB _ c + _ = ctB _ c + 1
    rw [if_pos hc]
  have := mono (c + 1) c' h
  omega
theorem ctB_more (f : Nat → Bool) (a : Nat) : ∀ b, ctB f (a + b) ≤ ctB f a + b
  | 0 => Nat.le_refl _
  | b + 1 => by
    have := ctB_more f a b
    show ctB f (a + b) + _ ≤ _
    split <;> omega
theorem sp_thins {t j n p K m hand : Nat} {U : Vc → Prop} {X : Nat → Vc} {Y : Vc} {S : Sto} {Q : Sto → Prop} (hC : Cm S n p K) (ht : t = 376 ∨ t = 379) (hj : j < 16) (hh : hand < 2) (hSp : Spc S n p U m X) (hY : ∀ a, a < 2 ^ n → S.1 t (16 * j + a) = iI (Y a) ∧ 0 ≤ Y a ∧ Y a < p)
    (hQ : ∀ S' m' X', Spc S' n p (Ker p (2 ^ n) U (fun x => act (2 ^ n) hand x Y)) m' X' → frM lAn S S' → Q S') : wp_X9_thins t (nI (16 * j)) (nI hand) S Q := by
  obtain ⟨h1, h2, h3, h4, n2, n4, hp, hK⟩ := id hC
  obtain ⟨p1, p2, p3, p4, p5⟩ := id hSp
  have hw := pow_n n4
  have hp8 := hp.pos
  have hlt : ln t = 256 := by rcases ht with rfl | rfl <;> decide +kernel
  have l374 : ln 374 = 256 := by decide +kernel
  have ht3 : t ≠ 373 := by rcases ht with rfl | rfl <;> decide
  obtain ⟨f, hf0⟩ : ∃ f : Vc → Vc, f = fun x => act (2 ^ n) hand x Y := ⟨_, rfl⟩
  have hf : Lin p (2 ^ n) (2 ^ n) f := by rw [hf0]; exact actx_Lin p Y
  rw [← hf0] at hQ
  have hGs := Gr_Sub p5 hf
  have hEm := emb_Lin hf
  unfold wp_X9_thins
  rw [h4, show (2 : Int32) = nI 2 from rfl, pk_mul, show 2 * 2 ^ n = 2 ^ n + 2 ^ n by omega]
  refine sp_begin9 h2 hp (by omega) (fun S1 a1 a2 => ?_)
  -- the rows of the kernel
  have part2 : ∀ (T : Sto) (rk : Nat) (L : Nat → Nat) (R : Nat → Vc), MB T p (2 ^ n + 2 ^ n) 0 (Gr p (2 ^ n) U f) rk L R → frm [366, 367, 368, 369, 370, 373] S T → ∃ n_133, q_X9_thins_133 t (nI (16 * j)) (nI hand) Q n_133 0 0 T := by
    intro T rk L R b1 b2
    have hrk := b1.rk
    obtain ⟨-, -, br, -, bB, bV, bct⟩ := id b1
    obtain ⟨cf, hcf⟩ : ∃ cf : Nat → Nat, cf = ctB (fun r => decide (2 ^ n ≤ L r)) := ⟨_, rfl⟩
    have cfW : cf rk ≤ 2 ^ n := by
      rw [hcf, ctB_rows b1 (fun l => decide (2 ^ n ≤ l))]
      have h := ctB_more (fun l => isB (hdL rk L l ∧ decide (2 ^ n ≤ l) = true)) (2 ^ n) (2 ^ n)
      have h0 : ctB (fun l => isB (hdL rk L l ∧ decide (2 ^ n ≤ l) = true)) (2 ^ n) = 0 := by
        rw [ctB_skip (a := 0) (by omega) (fun l _ hl => isB_f.mpr (fun q => by have := of_decide_eq_true q.2; omega))]; rfl
      omega
    have cf_lt : ∀ r r', r < r' → 2 ^ n ≤ L r → cf r < cf r' := fun r r' hr hl => by rw [hcf]; exact ctB_lt hr (by simpa using hl)
    have cf_inj : ∀ r r', 2 ^ n ≤ L r → 2 ^ n ≤ L r' → cf r = cf r' → r = r' := fun r r' hl hl' e => by
      rcases Nat.lt_trichotomy r r' with q | q | q
      · have := cf_lt r r' q hl; omega
      · exact q
      · have := cf_lt r' r q hl'; omega
    -- fresh is space
    have part3 : ∀ (Y3 : Sto), frM lAn S Y3 → (∀ r, r < rk → 2 ^ n ≤ L r → ∀ a, a < 16 → Y3.1 375 (16 * cf r + a) = if a < 2 ^ n then iI (R (L r) (2 ^ n + a)) else 0) → ∃ n_232, q_X9_thins_232 t (nI (16 * j)) (nI hand) Q n_232 (nI (cf rk)) 0 Y3 := by
      intro Y3 c1 c2
      refine loopE (fun m i (Z : Sto) => q_X9_thins_232 t (nI (16 * j)) (nI hand) Q m (nI (cf rk)) (nI i) Z) (fun i Z => Z = setA Y3 374 (fl i (Y3.1 375) (Y3.1 374))) (16 * cf rk) ?_ ?_ 0 Y3 (by omega) (by rw [fl_0, setA_self])
      · intro Z hZ
        unfold q_X9_thins_232
        rw [show (16 : Int32) = nI 16 from rfl, pk_mul, nI_leI (by omega) (by omega)]
        refine ⟨fun _ S2 e2 => ?_, fun z => by omega⟩
        have z374 : S2.1 374 = fl (16 * cf rk) (Y3.1 375) (Y3.1 374) := by rw [e2, uA_ne (by decide), hZ, setA_eq]
        have hex : ∀ k, k < cf rk → ∃ r, r < rk ∧ 2 ^ n ≤ L r ∧ cf r = k := by
          intro k hk
          rw [hcf] at hk
          obtain ⟨r, q1, q2, q3⟩ := ctB_at hk
          exact ⟨r, q1, by simpa using q2, by rw [hcf]; exact q3⟩
        obtain ⟨X', hX'⟩ : ∃ X' : Nat → Vc, ∀ k (hk : k < cf rk), X' k = sh (2 ^ n) (R (L (Classical.choose (hex k hk)))) := ⟨fun k => if hk : k < cf rk then sh (2 ^ n) (R (L (Classical.choose (hex k hk)))) else fun _ => 0, fun k hk => dif_pos hk⟩
        have hXr : ∀ r, r < rk → 2 ^ n ≤ L r → X' (cf r) = sh (2 ^ n) (R (L r)) := by
          intro r hr hl
          have hk := cf_lt r rk hr hl
          rw [hX' _ hk]
          have := Classical.choose_spec (hex _ hk)
          rw [cf_inj _ r this.2.1 hl this.2.2]
        have kb := Ker_RB hf bB
        refine hQ S2 (cf rk) X' ⟨by rw [e2, uA_eq, upd_eq], cfW, fun k hk => ?_, fun U' hU' hall v hv => ?_, Ker_Sub p5 hf⟩ (c1.tr ((show frM lAn Y3 Z by rw [hZ]; exact (frs.set (by simp [lAn])).M (by simp [lAn])).tr (by rw [e2]; exact frM.fld (by decide))))
        · obtain ⟨r, q1, q2, q3⟩ := hex k hk
          obtain ⟨u1, u2, u3, u4⟩ := br r q1
          have hd : hdL rk L (2 ^ n + (L r - 2 ^ n)) := ⟨r, q1, by omega⟩
          have g := kb.1 _ hd
          simp only [show 2 ^ n + (L r - 2 ^ n) = L r by omega] at g
          rw [← q3, hXr r q1 q2]
          refine ⟨fun a ha => ?_, g.2.1⟩
          rw [z374, fl_lt _ _ (by omega), c2 r q1 q2 a (by omega), if_pos ha]
          exact ⟨rfl, g.2.2.2.1 a ha⟩
        · refine kb.span (Ker_Sub p5 hf) hU' (fun l hl => ?_) hv
          obtain ⟨r, q1, q2⟩ := hl
          have := hall (cf r) (cf_lt r rk q1 (by omega))
          rw [hXr r q1 (by omega), q2] at this
          exact this
      · intro i m Z hi hZ ih
        unfold q_X9_thins_232
        have e5 : Z.1 375 = Y3.1 375 := by rw [hZ, setA_ne _ _ (by decide)]
        rw [show (16 : Int32) = nI 16 from rfl, pk_mul, nI_leI (by omega) (by omega), tn_nI (by omega), e5]
        refine ⟨fun z => by omega, fun _ => ⟨vp_nI (by omega) (by omega), vp_nI (by omega) (by omega), fun S1 e1 x ex => ?_⟩⟩
        rw [ex, nI_1]
        refine ih S1 ?_
        rw [e1, hZ]
        exact fl_step' Y3 374 i _ _ rfl
    refine loopE (σ := Int32 × Sto) (fun m r T => q_X9_thins_133 t (nI (16 * j)) (nI hand) Q m T.1 (nI r) T.2) (fun r Z => Z.1 = nI (cf r) ∧ frs [375] T Z.2 ∧ ∀ r', r' < r → 2 ^ n ≤ L r' → ∀ a, a < 16 → Z.2.1 375 (16 * cf r' + a) = if a < 2 ^ n then iI (R (L r') (2 ^ n + a)) else 0) rk ?_ ?_ 0 (0, T) (by omega) ⟨by rw [hcf]; rfl, frs.rf, fun r q => by omega⟩
    · rintro ⟨x, Z⟩ ⟨z1, z2, z3⟩
      simp only at z1 z2 z3 ⊢
      unfold q_X9_thins_133
      rw [z2.1 353 (by simp), b1.1.2.2.2.2.2, nI_leI (by omega) (by omega), z1]
      exact ⟨fun _ => part3 Z ((b2.M.mono (by simp [lAn])).tr ((z2.M (by simp)).mono (by simp [lAn]))) z3, fun z => by omega⟩
    · rintro r m ⟨x, Z⟩ hr ⟨z1, z2, z3⟩ ih
      simp only at z1 z2 z3 ⊢
      unfold q_X9_thins_133 q_X9_thins_223
      obtain ⟨u1, u2, u3, u4⟩ := br r hr
      have hs3 : Z.1 353 3 = nI (2 ^ n) := by rw [z2.1 353 (by simp), b2.2.1 3 (by decide) (by decide)]; exact h4
      have cle : cf r ≤ cf rk := by
        rw [hcf]
        rcases Nat.lt_or_ge r rk with q | q
        · have : ∀ a b, a ≤ b → ctB (fun r => decide (2 ^ n ≤ L r)) a ≤ ctB (fun r => decide (2 ^ n ≤ L r)) b := by
            intro a b hab
            induction b with
            | zero => rw [show a = 0 by omega]; exact Nat.le_refl _
            | succ b ih =>
              rcases Nat.lt_or_ge a (b + 1) with q | q
              · have := ih (by omega)
                show _ ≤ ctB _ b + _
                omega
              · rw [show a = b + 1 by omega]; exact Nat.le_refl _
          exact this r rk (by omega)
        · omega
      rw [z2.1 353 (by simp), b1.1.2.2.2.2.2, nI_leI (by omega) (by omega), ← z2.1 353 (by simp), hs3, tn_nI (by omega), z2.1 367 (by simp), u2, nI_leI (by omega) (by omega)]
      refine ⟨fun z => by omega, fun _ => ⟨vp_nI (by omega) (by omega), fun z => ?_, fun z x5 e5 => ?_⟩⟩
      · have hcfr := cf_lt r rk hr z
        refine loopE (fun m2 a (Z2 : Sto) => q_X9_thins_162 t (nI (16 * j)) (nI hand) (fun y4 y5 S => q_X9_thins_133 t (nI (16 * j)) (nI hand) Q m y4 y5 S) Q m2 x (nI r) (nI a) Z2) (fun a Z2 => frs [375] Z Z2 ∧ (∀ i, i < 16 * cf r → Z2.1 375 i = Z.1 375 i) ∧ ∀ b, b < a → Z2.1 375 (16 * cf r + b) = if b < 2 ^ n then iI (R (L r) (2 ^ n + b)) else 0) 16 ?_ ?_ 0 Z (by omega) ⟨frs.rf, fun _ _ => rfl, fun b q => by omega⟩
        · rintro Z2 ⟨y1, y2, y3⟩
          unfold q_X9_thins_162 q_X9_thins_223
          refine ⟨fun _ x4 e4 x5 e5 => ?_, fun q => absurd (show (16 : Int32) ≤ nI 16 by decide) q⟩
          rw [e5, nI_1]
          refine ih (x4, Z2) ⟨?_, z2.tr y1, fun r' hr' hl a ha => ?_⟩
          · show x4 = _
            rw [e4, z1, nI_1, hcf]
            show _ = nI (ctB _ r + _)
            rw [if_pos (by simpa using z)]
          · by_cases e : r' = r
            · rw [e]; exact y3 a ha
            · have := cf_lt r' r (by omega) hl
              show Z2.1 375 _ = _
              rw [y2 _ (by omega)]
              exact z3 r' (by omega) hl a ha
        · rintro a m2 Z2 ha ⟨y1, y2, y3⟩ ih2
          unfold q_X9_thins_162 q_X9_thins_213
          have last : ∀ v : Int32, v = (if a < 2 ^ n then iI (R (L r) (2 ^ n + a)) else 0) → vp_in (nI (16 * cf r + a)) 256 ∧ ∀ S_2 : Sto, S_2 = uA Z2 375 (16 * cf r + a) v → ∀ x6_3 : Int32, x6_3 = nI a + 1 → q_X9_thins_162 t (nI (16 * j)) (nI hand) (fun y4 y5 S => q_X9_thins_133 t (nI (16 * j)) (nI hand) Q m y4 y5 S) Q m2 (nI (cf r)) (nI r) x6_3 S_2 := by
            intro v hv
            refine ⟨vp_nI (by omega) (by omega), fun S1 e1 y ey => ?_⟩
            rw [ey, nI_1, ← z1]
            refine ih2 S1 ⟨y1.tr (by rw [e1]; exact frs.upd (by simp)), fun i hi => by rw [e1, uA_eq, upd_ne _ _ (by omega)]; exact y2 i hi, fun b hb => ?_⟩
            rw [e1, uA_eq]
            by_cases e : b = a
            · rw [e, upd_eq, hv]
            · rw [upd_ne _ _ (by omega)]; exact y3 b (by omega)
          rw [show (16 : Int32) = nI 16 from rfl, nI_leI (by omega) (by omega), y1.1 353 (by simp), hs3, nI_leI (by omega) (by omega), z1, pk_mul, nI_add, show (256 : Int32) = nI 256 from rfl, pk_mul, nI_add, nI_add, tn_nI (by omega), tn_nI (by omega), y1.1 366 (by simp), z2.1 366 (by simp)]
          refine ⟨fun q => by omega, fun _ => ⟨fun q => last 0 (by rw [if_neg (by omega)]), fun q => ⟨vp_nI (by omega) (by omega), last _ ?_⟩⟩⟩
          rw [if_pos (by omega), Nat.add_assoc, u4 _ (by omega)]
      · rw [e5, nI_1]
        refine ih (x, Z) ⟨?_, z2, fun r' hr' hl a ha => z3 r' (by rcases Nat.lt_or_ge r' r with q | q; exact q; exact absurd (show r' = r by omega) (fun e => z (e ▸ hl))) hl a ha⟩
        show x = _
        rw [z1, hcf]
        show _ = nI (ctB _ r + _)
        rw [if_neg (by simpa using z)]; rfl
  -- the pairs
  refine loopE (fun m2 i (T : Sto) => q_X9_thins_16 t (nI (16 * j)) (nI hand) Q m2 0 (nI i) T) (fun i T => ∃ V rk L R, MB T p (2 ^ n + 2 ^ n) 0 V rk L R ∧ (∀ v, V v → Gr p (2 ^ n) U f v) ∧ (∀ k, k < i → V (emb (2 ^ n) f (X k))) ∧ frm [366, 367, 368, 369, 370, 373] S T) m ?_ ?_ 0 S1 (by omega) ⟨_, 0, _, _, a1, fun v hv => V0_least hGs hv, fun k q => by omega, a2.mono (by simp)⟩
  · rintro T ⟨V, rk, L, R, b1, b2, b3, b4⟩
    unfold q_X9_thins_16
    rw [b4.2.1 35 (by decide) (by decide), p1, nI_leI (by omega) (by omega)]
    refine ⟨fun _ => part2 T rk L R (b1.cong (fun v => ⟨b2 v, fun hv => Gr_all hf b1.2.2.2.2.2.1 (fun x hx => p4 _ (Sub.pre hEm b1.2.2.2.2.2.1) b3 x hx) hv⟩)) b4, fun z => by omega⟩
  · rintro i m2 T hi ⟨V, rk, L, R, b1, b2, b3, b4⟩ ih
    obtain ⟨q1, q2⟩ := p3 i hi
    have hV := b1.2.2.2.2.2.1
    unfold q_X9_thins_16 q_X9_thins_62
    rw [b4.2.1 35 (by decide) (by decide), p1, nI_leI (by omega) (by omega), show (16 : Int32) = nI 16 from rfl, pk_mul]
    refine ⟨fun z => by omega, fun _ => ?_⟩
    -- behind the product
    have rest : ∀ T2 : Sto, frs [373] T T2 → rd (T2.1 373) (2 ^ n) p (fun c => f (X i) c % p) → ∃ n_65, q_X9_thins_65 t (nI (16 * j)) (nI hand) (fun y4 y5 S => q_X9_thins_16 t (nI (16 * j)) (nI hand) Q m2 y4 y5 S) Q n_65 0 (nI i) 0 T2 := by
      intro T2 c1 c2
      obtain ⟨Z, hZ⟩ : ∃ Z : Vc, Z = fun k => if k < 2 ^ n then f (X i) k % p else X i (k - 2 ^ n) := ⟨_, rfl⟩
      have hZr : ∀ k, k < 2 ^ n + 2 ^ n → 0 ≤ Z k ∧ Z k < p := by
        intro k hk
        rw [hZ]
        by_cases q : k < 2 ^ n
        · simp only [if_pos q]; exact ⟨Int.emod_nonneg _ (by omega), Int.emod_lt_of_pos _ (by omega)⟩
        · simp only [if_neg q]; exact (q1 _ (by omega)).2
      have hZe : eqm p (2 ^ n + 2 ^ n) (emb (2 ^ n) f (X i)) Z := by
        intro k hk
        rw [hZ]
        unfold emb
        by_cases q : k < 2 ^ n
        · simp only [if_pos q]; exact dvd_emod p _
        · simp only [if_neg q]; simp
      refine loopE (fun m3 a (Y3 : Sto) => q_X9_thins_65 t (nI (16 * j)) (nI hand) (fun y4 y5 S => q_X9_thins_16 t (nI (16 * j)) (nI hand) Q m2 y4 y5 S) Q m3 0 (nI i) (nI a) Y3) (fun a Y3 => frs [370] T2 Y3 ∧ (∀ b, b < a → Y3.1 370 b = iI (Z b) ∧ Y3.1 370 (2 ^ n + b) = iI (Z (2 ^ n + b)))) (2 ^ n) ?_ ?_ 0 T2 (Nat.zero_le _) ⟨frs.rf, fun b q => by omega⟩
      · rintro Y3 ⟨d1, d2⟩
        unfold q_X9_thins_65
        have f3 : frs [370, 373] T Y3 := (c1.mono (by simp)).tr (d1.mono (by simp))
        rw [f3.1 353 (by simp), b4.2.1 3 (by decide) (by decide), h4, nI_leI (by omega) (by omega)]
        refine ⟨fun _ => ?_, fun z => by omega⟩
        refine sp_comes (X := Z) (b1.keepS f3 (by simp)) (fun k hk => ⟨?_, hZr k hk⟩) (fun a S' rk' L' R' e1 e2 e3 x5 ex => ?_)
        · by_cases q : k < 2 ^ n
          · exact (d2 k q).1
          · have := (d2 (k - 2 ^ n) (by omega)).2
            rwa [show 2 ^ n + (k - 2 ^ n) = k by omega] at this
        · rw [ex, nI_1]
          refine ih S' ⟨_, rk', L', R', e1, fun v hv => addV_least hGs b2 (hGs.2.2.2 _ _ hZe (emb_Gr q2)) hv, fun k hk => ?_, b4.tr (((f3.m (by simp)).mono (by simp)).tr (e2.mono (by simp)))⟩
          rcases Nat.lt_or_ge k i with q | q
          · exact addV_old hV _ (b3 k q)
          · rw [show k = i by omega]
            exact (addV_sub hV _).2.2.2 _ _ (fun k hk => by have := Int.dvd_neg.mpr (hZe k hk); rwa [Int.neg_sub] at this) (addV_new hV _)
      · rintro a m3 Y3 ha ⟨d1, d2⟩ ih3
        unfold q_X9_thins_65
        have f3 : frs [370, 373] T Y3 := (c1.mono (by simp)).tr (d1.mono (by simp))
        have e353 : Y3.1 353 = T.1 353 := f3.1 353 (by simp)
        have e3 : T.1 353 3 = nI (2 ^ n) := by rw [b4.2.1 3 (by decide) (by decide)]; exact h4
        rw [e353, e3, nI_leI (by omega) (by omega), tn_nI (i := a) (by omega), d1.1 373 (by simp)]
        refine ⟨fun z => by omega, fun _ => ⟨vp_nI (by omega) (by omega), vp_nI (by omega) (by omega), fun S7 e7 => ?_⟩⟩
        have g7 : S7.1 353 = T.1 353 := by rw [e7, uA_ne (by decide)]; exact e353
        have g74 : S7.1 374 = S.1 374 := by rw [e7, uA_ne (by decide), f3.1 374 (by simp), b4.1 374 (by decide) (by simp)]
        rw [g7, e3, g74, show (16 : Int32) = nI 16 from rfl, pk_mul, nI_add, nI_add, tn_nI (i := 16 * i + a) (by omega), tn_nI (i := 2 ^ n + a) (by omega)]
        refine ⟨vp_nI (by omega) (by omega), vp_nI (by omega) (by omega), fun S10 e10 x6 ex => ?_⟩
        rw [ex, nI_1]
        refine ih3 S10 ⟨d1.tr ((show frs [370] Y3 S7 by rw [e7]; exact frs.upd (by simp)).tr (by rw [e10]; exact frs.upd (by simp))), fun b hb => ?_⟩
        have g10 : S10.1 370 = upd (upd (Y3.1 370) a (T2.1 373 a)) (2 ^ n + a) (S.1 374 (16 * i + a)) := by rw [e10, uA_eq, e7, uA_eq]
        rw [g10, upd_ne _ _ (by omega)]
        by_cases e : b = a
        · rw [e, upd_eq, upd_eq, (c2 a ha).1, (q1 a ha).1, hZ]
          simp only [if_pos ha, if_neg (show ¬ 2 ^ n + a < 2 ^ n by omega), Nat.add_sub_cancel_left]
          constructor <;> first | trivial | rfl
        · rw [upd_ne _ _ e, upd_ne _ _ (by omega), upd_ne _ _ (by omega)]
          exact d2 b (by omega)
    have cT := hC.keep b4
    have eX : ∀ a, a < 2 ^ n → T.1 374 (16 * i + a) = iI (X i a) ∧ 0 ≤ X i a ∧ X i a < p := fun a ha => by rw [b4.1 374 (by decide) (by simp)]; exact q1 a ha
    have eY : ∀ a, a < 2 ^ n → T.1 t (16 * j + a) = iI (Y a) ∧ 0 ≤ Y a ∧ Y a < p := fun a ha => by rw [b4.1 t (by rcases ht with rfl | rfl <;> decide) (by rcases ht with rfl | rfl <;> simp)]; exact hY a ha
    rw [show (0 : Int32) = nI 0 from rfl, nI_eq (by omega) (by omega)]
    refine ⟨fun z => ?_, fun z => ?_⟩
    · refine sp_multiply9 (X := Y) (Y := X i) n4 cT.2.1 hp cT.2.2.2.1 (by omega) (by omega) (by omega) (by omega) ht3 (by decide) eY eX ?_
      refine rest _ (frs.set (by simp)) (fun c hc => ?_)
      rw [setA_eq, fl_lt _ _ (by omega), if_pos hc, mulE_act1 n4 hc, hf0, show hand = 1 by omega]
      exact ⟨rfl, Int.emod_nonneg _ (by omega), Int.emod_lt_of_pos _ (by omega)⟩
    · refine sp_multiply9 (X := X i) (Y := Y) n4 cT.2.1 hp cT.2.2.2.1 (by omega) (by omega) (by omega) (by omega) (by decide) ht3 eX eY ?_
      refine rest _ (frs.set (by simp)) (fun c hc => ?_)
      rw [setA_eq, fl_lt _ _ (by omega), if_pos hc, mulE_act0, hf0, z]
      exact ⟨rfl, Int.emod_nonneg _ (by omega), Int.emod_lt_of_pos _ (by omega)⟩
