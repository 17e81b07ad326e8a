/-! the call: series -/
theorem ctB_mono {f g : Nat → Bool} : ∀ {n : Nat}, (∀ i, i < n → f i = true → g i = true) → ctB f n ≤ ctB g n
  | 0, _ => Nat.le_refl _
  | n + 1, h => by
    have := ctB_mono (f := f) (g := g) (n := n) (fun i hi => h i (by omega))
    unfold ctB
    by_cases q : f n = true
    · rw [if_pos q, if_pos (h n (by omega) q)]; omega
    · rw [if_neg q]; omega
def sGE (j : Nat) (s : UInt32) : Prop := s = 0 ∨ EX s (-30 - 7 * (j : Int)) (-17 + 11 * (j : Int))
def sSt (x s : UInt32) (k : Nat) : UInt32 := FP.fadd (FP.fmul s x) (FP.i2f (nI k))
def sHs (x : UInt32) (k : Nat → Nat) : Nat → UInt32 → UInt32
  | 0, s => s
  | d + 1, s => sHs x k d (sSt x s (k d))
theorem vf_0 : vf_n32 0 := vf_32 (by decide)
theorem sSt_ok {x s : UInt32} {j k : Nat} (hx : EX x (-30) (-16)) (h : sGE j s) (hj : j ≤ 5) (hk : k < 100) : vf_n32 (FP.fmul s x) ∧ vf_n32 (sSt x s k) ∧ sGE (j + 1) (sSt x s k) := by
  unfold sSt
  have cast : ((j + 1 : Nat) : Int) = (j : Int) + 1 := by omega
  rcases h with rfl | h
  · rw [fmul_0 hx]
    rcases Nat.eq_zero_or_pos k with q | q
    · rw [q, i2f_0, fadd_00]
      exact ⟨vf_0, vf_0, Or.inl rfl⟩
    · have e := fk_EX (i2f_k k hk q)
      rw [(fadd_0r e).2]
      exact ⟨vf_0, e.vf (by omega) (by omega), Or.inr (e.mono (by omega) (by omega))⟩
  · have m := h.mul hx (by omega) (by omega)
    refine ⟨m.vf (by omega) (by omega), ?_⟩
    rcases Nat.eq_zero_or_pos k with q | q
    · rw [q, i2f_0, (fadd_0r m).1]
      exact ⟨m.vf (by omega) (by omega), Or.inr (m.mono (by omega) (by omega))⟩
    · have e := fk_EX (i2f_k k hk q)
      have a := m.add e (by omega) (by omega) (by omega)
      exact ⟨a.vf (by omega) (by omega), Or.inr (a.mono (by omega) (by omega))⟩
theorem op_series {S : Sto} {b : Nat} (x p2 p3 : Int32) (H : Rel S b) : wp_X8_series x p2 p3 S (fun r S1 => wp_X9_series x p2 p3 S1 (fun r' S2 => r = r' ∧ Rel S2 b)) := by
  obtain ⟨n, p, K, gc, ec, bc, H⟩ := H.r0
  obtain ⟨h1, h2, h3, h4, h5, h6, h7⟩ := id H
  have N := h1.nw
  have n4 := N.1.2.2.2.1
  have hw := pow_n n4
  unfold wp_X8_series q_X8_series_31
  refine sp_side8 (fun ⟨s, hs, e⟩ => ⟨fun _ => ?_, fun z => absurd z (by decide)⟩) (fun h0 => ⟨fun z => absurd rfl z, fun _ => ?_⟩)
  · subst e
    have t2 : p2 < 1 ↔ p2.toInt < 1 := Int32.lt_iff_toInt_lt
    have t2' : 99 < p2 ↔ 99 < p2.toInt := Int32.lt_iff_toInt_lt
    have t3 : p3 < 1 ↔ p3.toInt < 1 := Int32.lt_iff_toInt_lt
    have t3' : p3 ≤ 99 ↔ p3.toInt ≤ 99 := Int32.le_iff_toInt_le
    have z1 : (1 : Int64) = iL 1 := by decide
    have z99 : (99 : Int64) = iL 99 := by decide
    have bad : ¬ ((1 ≤ p2.toInt ∧ p2.toInt ≤ 99) ∧ (1 ≤ p3.toInt ∧ p3.toInt ≤ 99)) → wp_X9_series (nI s) p2 p3 S (fun r' S2 => (-2 : Int32) = r' ∧ Rel S2 b) := by
      intro nb
      unfold wp_X9_series q_X9_series_33
      refine sp_side9 (fun _ => ⟨fun _ => ?_, fun z => absurd z (by decide)⟩) (fun h0 => absurd ⟨s, hs, rfl⟩ h0)
      rw [z1, z99]
      refine sp_in9 (a := 1) (b := 99) ⟨by omega, by omega⟩ ⟨by omega, by omega⟩ (fun a1 a2 => ⟨fun z => absurd z (by decide), fun _ => ?_⟩) (fun hn => ⟨fun _ => ⟨rfl, H.rel⟩, fun z => absurd rfl z⟩)
      exact sp_in9 (a := 1) (b := 99) ⟨by omega, by omega⟩ ⟨by omega, by omega⟩ (fun b1 b2 => absurd ⟨⟨a1, a2⟩, b1, b2⟩ nb) (fun hn => ⟨fun z => absurd rfl z, fun _ => ⟨rfl, H.rel⟩⟩)
    rw [t2, t2', t3, t3']
    refine ⟨fun q => bad (by omega), fun q1 => ⟨fun q => bad (by omega), fun q2 => ⟨fun q => bad (by omega), fun q3 => ⟨fun q4 => ?_, fun q => bad (by omega)⟩⟩⟩⟩
    obtain ⟨a, ea, a1, a2⟩ : ∃ a : Nat, p2 = nI a ∧ 0 < a ∧ a < 100 := ⟨p2.toInt.toNat, by rw [nI_iI, Int.toNat_of_nonneg (by omega), iI_toInt], by omega, by omega⟩
    obtain ⟨c, ec', c1, c2⟩ : ∃ c : Nat, p3 = nI c ∧ 0 < c ∧ c < 100 := ⟨p3.toInt.toNat, by rw [nI_iI, Int.toNat_of_nonneg (by omega), iI_toInt], by omega, by omega⟩
    obtain ⟨X, eX⟩ : ∃ X, X = FP.fdiv (FP.i2f p2) (FP.i2f p3) := ⟨_, rfl⟩
    have hX : EX X (-30) (-16) := by
      rw [eX, ea, ec']
      exact ((fk_EX (i2f_k a a2 a1)).div (fk_EX (i2f_k c c2 c1)) (by omega) (by omega)).mono (by omega) (by omega)
    have vX : vf_n32 (FP.fdiv (FP.i2f p2) (FP.i2f p3)) := by rw [← eX]; exact hX.vf (by omega) (by omega)
    refine sp_ofSide hs N h6 (fun S1 N1 I1 P1 f1 _ => ?_)
    have R1 := H.side hs f1 I1
    have P1' := SpOK.g N1.2.2.2.2.1 (fun i hi => (f1.scC hs).1 _ (by omega)) P1
    obtain ⟨fP, eP⟩ : ∃ f : Nat → Nat, f = fun d => ctB (fun c => bcN c == d) (2 ^ n) := ⟨_, rfl⟩
    obtain ⟨fL, eL⟩ : ∃ f : Nat → Nat, f = fun d => ctB (fun l => isB (hdS S1 (49 + 19 * s) (2 ^ n) l ∧ bcN l = d)) (2 ^ n) := ⟨_, rfl⟩
    have lLP : ∀ d, fL d ≤ fP d := fun d => by
      rw [eL, eP]
      exact ctB_mono (fun i _ hi => by simpa using (isB_t.mp hi).2)
    have lP : ∀ d, fP d ≤ 16 := fun d => by rw [eP]; exact Nat.le_trans (ctB_le _ _) hw.1
    obtain ⟨k, ek⟩ : ∃ k : Nat → Nat, k = fun d => fP d - fL d := ⟨_, rfl⟩
    have lk : ∀ d, k d < 100 := fun d => by rw [ek]; have := lP d; show fP d - fL d < 100; omega
    have all : ∀ d s0 j, d + j = n + 1 → sGE j s0 → sGE (n + 1) (sHs X k d s0) := by
      intro d
      induction d with
      | zero => intro s0 j e h; rw [show n + 1 = j by omega]; exact h
      | succ d ih => intro s0 j e h; exact ih _ (j + 1) (by omega) (sSt_ok hX h (by omega) (lk d)).2.2
    have fin := all (n + 1) 0 0 (by omega) (Or.inl rfl)
    have fin' : sHs X k (n + 1) 0 = 0 ∨ EX (sHs X k (n + 1) 0) (-120) 70 := fin.imp id (fun h => h.mono (by omega) (by omega))
    have nn : FP.Core.val32 (sHs X k (n + 1) 0) ≠ .nan := by
      rcases fin' with h | h
      · rw [h, show FP.Core.val32 0 = .fin false 0 FP.Core.b32.qmin from FP.Core.val32_fconst0]; exact FP.Core.Datum.noConfusion
      · exact h.ne.1
    have m1 : (-1 : Int32) = iI (-1) := by decide
    -- the reference from here on
    have ref : wp_X9_series (nI s) p2 p3 S1 (fun r' S2 => (sHs X k (n + 1) 0).toInt32 = r' ∧ Rel S2 b) := by
      unfold wp_X9_series
      refine sp_side9 (fun _ => ⟨fun _ => ?_, fun z => absurd z (by decide)⟩) (fun h0 => absurd ⟨s, hs, rfl⟩ h0)
      rw [z1, z99]
      refine sp_in9 (a := 1) (b := 99) ⟨by omega, by omega⟩ ⟨by omega, by omega⟩ (fun _ _ => ⟨fun z => absurd z (by decide), fun _ => ?_⟩) (fun hn => absurd ⟨by omega, by omega⟩ hn)
      refine sp_in9 (a := 1) (b := 99) ⟨by omega, by omega⟩ ⟨by omega, by omega⟩ (fun _ _ => ⟨fun _ => ?_, fun z => absurd z (by decide)⟩) (fun hn => absurd ⟨by omega, by omega⟩ hn)
      refine sp_spans hs (R1.1.cm R1.2.1) R1.1.gm (fun S2 rk L R b1 b2 => ⟨vX, fun x4 e4 x6 e6 => ?_⟩)
      have hrk := b1.rk
      have hL := b1.2.2.1
      have hrel : Rel S2 b := (R1.goM b2.M (by simp [lSp])).rel
      have RM := R1.goM b2.M (by simp [lSp])
      have h0n : S2.1 353 0 = nI n := (RM.1.cm RM.2.1).1
      have h3w : S2.1 353 3 = nI (2 ^ n) := RM.2.1
      rw [e4, ← eX, e6, h0n]
      have cnt : ∀ d, ctB (fun r => bcN (L r) == d) rk = fL d := by
        intro d
        rw [eL, ctB_rows b1 (fun l => bcN l == d)]
        refine ctB_cong (fun l _ => ?_)
        congr 1
        have := (link P1' b1).1 l
        exact propext ⟨fun z => ⟨this.mpr z.1, by simpa using z.2⟩, fun z => ⟨this.mp z.1, by simpa using z.2⟩⟩
      have lp : ∀ d j s0, d + j = n + 1 → sGE j s0 → sHs X k d s0 = sHs X k (n + 1) 0 → q_X9_series_57 (nI s) p2 p3 (fun r' S2 => (sHs X k (n + 1) 0).toInt32 = r' ∧ Rel S2 b) (d + 1) X s0 (iI ((d : Int) - 1)) S2 := by
        intro d
        induction d with
        | zero =>
          intro j s0 e h eq
          unfold q_X9_series_57
          have es : s0 = sHs X k (n + 1) 0 := eq
          rw [show (0 : Int32) = iI 0 from rfl, iI_lt ⟨by omega, by omega⟩ ⟨by omega, by omega⟩]
          exact ⟨fun _ => sp_fbits (by rw [es]; exact nn) ⟨by rw [es], hrel⟩, fun z => absurd (by omega) z⟩
        | succ d ih =>
          intro j s0 e h eq
          unfold q_X9_series_57
          rw [show (0 : Int32) = iI 0 from rfl, iI_lt ⟨by omega, by omega⟩ ⟨by omega, by omega⟩]
          refine ⟨fun z => by omega, fun _ => ?_⟩
          obtain ⟨o1, o2, o3⟩ := sSt_ok hX h (by omega) (lk d)
          rw [show iI (((d + 1 : Nat) : Int) - 1) = nI d by rw [nI_iI]; congr 1; omega]
          refine loopE (σ := Int32) (fun m i y => q_X9_series_68 (nI s) p2 p3 (fun y4 y5 y6 S => q_X9_series_57 (nI s) p2 p3 (fun r' S2 => (sHs X k (n + 1) 0).toInt32 = r' ∧ Rel S2 b) (d + 1) y4 y5 y6 S) (fun r' S2 => (sHs X k (n + 1) 0).toInt32 = r' ∧ Rel S2 b) m X s0 (nI d) y (nI i) S2) (fun i y => y = nI (ctB (fun c => bcN c == d) i)) (2 ^ n) ?_ ?_ 0 0 (by omega) rfl
          · intro y hy
            unfold q_X9_series_68
            rw [h3w, nI_leI (by omega) (by omega)]
            refine ⟨fun _ => ⟨o1, sp_countOf b1 (by omega) (by omega) ?_⟩, fun z => by omega⟩
            have le := lLP d
            have ed : y - nI (ctB (fun r => bcN (L r) == d) rk) = nI (k d) := by
              rw [hy, cnt d, show ctB (fun c => bcN c == d) (2 ^ n) = fP d by rw [eP], nI_sub le, ek]
            rw [ed]
            refine ⟨o2, fun x5 e5 x6' e6' => ?_⟩
            rw [e5, e6', nI_iI d, m1, ← iI_add]
            exact ih (j + 1) _ (by omega) o3 eq
          · intro i m y hi hy ih2
            unfold q_X9_series_68 q_X9_series_90
            have hbb := bcN_lt i
            rw [h3w, nI_leI (by omega) (by omega)]
            refine ⟨fun z => by omega, fun _ => sp_degree9 (by omega) ?_⟩
            rw [nI_eq (by omega) (by omega)]
            refine ⟨fun z x8 e8 => ?_, fun z x7 e7 x8 e8 => ?_⟩
            · rw [e8, nI_1]
              refine ih2 y ?_
              rw [hy]; show _ = nI (ctB _ i + _)
              rw [if_neg (by simpa using z)]; rfl
            · rw [e8, nI_1]
              refine ih2 x7 ?_
              rw [e7, hy, nI_1]; show _ = nI (ctB _ i + _)
              rw [if_pos (by simpa using z)]
      exact ⟨_, by have := lp (n + 1) 0 0 (by omega) (Or.inl rfl) rfl; rw [show iI (((n + 1 : Nat) : Int) - 1) = nI n by rw [nI_iI]; congr 1; omega] at this; exact this⟩
    have d0 : S1.1 1 0 = nI n := N1.1.1
    refine ⟨vX, fun x5 e5 x7 e7 => ?_⟩
    rw [e5, ← eX, e7, d0]
    have lp : ∀ d j s0, d + j = n + 1 → sGE j s0 → sHs X k d s0 = sHs X k (n + 1) 0 → q_X8_series_67 (nI s) p2 p3 (fun r S2 => wp_X9_series (nI s) p2 p3 S2 (fun r' S3 => r = r' ∧ Rel S3 b)) (d + 1) (49 + 19 * s) X s0 (iI ((d : Int) - 1)) S1 := by
      intro d
      induction d with
      | zero =>
        intro j s0 e h eq
        unfold q_X8_series_67
        have es : s0 = sHs X k (n + 1) 0 := eq
        rw [show (0 : Int32) = iI 0 from rfl, iI_lt ⟨by omega, by omega⟩ ⟨by omega, by omega⟩]
        refine ⟨fun _ => ?_, fun z => absurd (by omega) z⟩
        rw [es]
        exact sp_ofFloat fin' ref
      | succ d ih =>
        intro j s0 e h eq
        unfold q_X8_series_67
        rw [show (0 : Int32) = iI 0 from rfl, iI_lt ⟨by omega, by omega⟩ ⟨by omega, by omega⟩]
        obtain ⟨o1, o2, o3⟩ := sSt_ok hX h (by omega) (lk d)
        refine ⟨fun z => by omega, fun _ => ⟨o1, sp_width d0 n4 ?_⟩⟩
        rw [show iI (((d + 1 : Nat) : Int) - 1) = nI d by rw [nI_iI]; congr 1; omega]
        refine sp_placesOfDegree (by omega) (by omega) (sp_leadsOfDegree P1 (by omega) (by omega) ?_)
        have le := lLP d
        have ed : nI (ctB (fun c => bcN c == d) (2 ^ n)) - nI (ctB (fun l => isB (hdS S1 (49 + 19 * s) (2 ^ n) l ∧ bcN l = d)) (2 ^ n)) = nI (k d) := by
          rw [show ctB (fun c => bcN c == d) (2 ^ n) = fP d by rw [eP], show ctB (fun l => isB (hdS S1 (49 + 19 * s) (2 ^ n) l ∧ bcN l = d)) (2 ^ n) = fL d by rw [eL], nI_sub le, ek]
        rw [ed]
        refine ⟨o2, fun x6 e6 x7' e7' => ?_⟩
        rw [e6, e7', nI_iI d, m1, ← iI_add]
        exact ih (j + 1) _ (by omega) o3 eq
    exact ⟨_, by have := lp (n + 1) 0 0 (by omega) (Or.inl rfl) rfl; rw [show iI (((n + 1 : Nat) : Int) - 1) = nI n by rw [nI_iI]; congr 1; omega] at this; exact this⟩
  · unfold wp_X9_series
    exact sp_side9 (fun h => absurd h h0) (fun _ => ⟨fun z => absurd rfl z, fun _ => ⟨rfl, H.rel⟩⟩)
