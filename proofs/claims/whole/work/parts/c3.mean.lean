/-! the call: mean -/
theorem sD_cong1 {f f' : Nat → Nat} : ∀ {n : Nat}, (∀ i, 0 < i → i < n → f i = f' i) → sD f n = sD f' n
  | 0, _ => rfl
  | n + 1, h => by
    unfold sD
    rw [sD_cong1 (fun i h0 hi => h i h0 (by omega))]
    rcases Nat.eq_zero_or_pos n with q | q
    · subst q; rw [Nat.zero_mul, Nat.zero_mul]
    · rw [h n q (by omega)]
theorem sm_le {n : Nat} (n4 : n ≤ 4) (P : Nat → Prop) : sD (fun d => ctB (fun l => isB (P l ∧ bcN l = d)) (2 ^ n)) (n + 1) ≤ 64 := by
  have hw := pow_n n4
  rw [sD_cong1 (f' := fun d => ctB (fun l => (if isB (P l) then bcN l else 0) == d) (2 ^ n)) (fun d d0 _ => ctB_cong (fun l _ => by
    by_cases q : P l
    · rw [isB_if q]
      by_cases q2 : bcN l = d
      · rw [isB_t.mpr ⟨q, q2⟩]; simp [q2]
      · rw [isB_f.mpr (fun z => q2 z.2)]; simp [q2]
    · rw [isB_el q, isB_f.mpr (fun z => q z.1)]
      have : ¬ (0 = d) := by omega
      simp [this]))]
  have b : ∀ l, l < 2 ^ n → (if isB (P l) then bcN l else 0) ≤ n := by
    intro l hl
    by_cases q : P l
    · rw [isB_if q]; exact bcN_n n (by omega) l (by omega) hl
    · rw [isB_el q]; omega
  rw [sD_rows (fun l => if isB (P l) then bcN l else 0) (2 ^ n) (fun r hr => by have := b r hr; omega)]
  have := sR_le (fun l => if isB (P l) then bcN l else 0) (2 ^ n) b
  have h2 : n * 2 ^ n ≤ 4 * 16 := Nat.mul_le_mul n4 hw.1
  omega
/-- the mean of sm over sz, as the class and the reference tell it -/
def mv (sm sz : Nat) : Int64 := if sz = 0 then 0 else (FP.ddiv (FP.i2d (nI sm)) (FP.i2d (nI sz))).toInt64
theorem op_mean {S : Sto} {b : Nat} (x : Int32) (H : Rel S b) : wp_X8_mean x S (fun r S1 => wp_X9_mean x S1 (fun r' S2 => r = r' ∧ Rel S2 b)) := by
  obtain ⟨n, p, K, gc, ec, bc, H⟩ := H.r0
  obtain ⟨h1, h2, h3, h4, h5, h6, h7⟩ := id H
  have N := h1.nw
  have n4 := N.1.2.2.2.1
  have hw := pow_n n4
  unfold wp_X8_mean
  refine sp_side8 (fun ⟨s, hs, e⟩ => ⟨fun _ => ?_, fun z => absurd z (by decide)⟩) (fun h0 => ⟨fun z => absurd rfl z, fun _ => ?_⟩)
  · subst e
    refine sp_ofSide hs N h6 (fun S1 N1 I1 P1 f1 _ => ?_)
    have R1 := H.side hs f1 I1
    have P1' := SpOK.g N1.2.2.2.2.1 (fun i hi => (f1.scC hs).1 _ (by omega)) P1
    obtain ⟨f, ef⟩ : ∃ f : Nat → Nat, f = fun d => ctB (fun l => isB (hdS S1 (49 + 19 * s) (2 ^ n) l ∧ bcN l = d)) (2 ^ n) := ⟨_, rfl⟩
    obtain ⟨sz, esz, lsz⟩ : ∃ sz, S1.1 (49 + 19 * s) 2 = nI sz ∧ sz ≤ 2 ^ n := ⟨_, P1.2.1.1, by rw [cz_cnt]; exact ctB_le _ _⟩
    obtain ⟨sm, esm⟩ : ∃ sm, sm = sD f (n + 1) := ⟨_, rfl⟩
    have lsm : sm ≤ 64 := by rw [esm, ef]; exact sm_le n4 _
    -- the reference from here on
    have ref : wp_X9_mean (nI s) S1 (fun r' S2 => mv sm sz = r' ∧ Rel S2 b) := by
      unfold wp_X9_mean
      refine sp_side9 (fun _ => ⟨fun _ => ?_, fun z => absurd z (by decide)⟩) (fun h0 => absurd ⟨s, hs, rfl⟩ h0)
      refine sp_spans hs (R1.1.cm R1.2.1) R1.1.gm (fun S2 rk L R b1 b2 => ?_)
      have hrk := b1.rk
      have erk : sz = rk := by
        have := (link P1' b1).2.2
        rw [esz, nI_eq (by omega) (by omega)] at this
        exact this
      have hL := b1.2.2.1
      have hb : ∀ r, r < rk → bcN (L r) < n + 1 := fun r hr => by
        have l := (hL r hr).1
        have := bcN_n n (by omega) (L r) (by omega) l
        omega
      have esr : sm = sR (fun r => bcN (L r)) rk := by
        rw [esm, ← sD_rows (fun r => bcN (L r)) rk hb]
        refine sD_cong (fun d _ => ?_)
        rw [ef, ctB_rows b1 (fun l => bcN l == d)]
        refine ctB_cong (fun l _ => ?_)
        congr 1
        have := (link P1' b1).1 l
        exact propext ⟨fun z => ⟨this.mp z.1, by simpa using z.2⟩, fun z => ⟨this.mpr z.1, by simpa using z.2⟩⟩
      have hrel : Rel S2 b := (R1.goM b2.M (by simp [lSp])).rel
      have h25 : S2.1 353 25 = nI rk := b1.1.2.2.2.2.2
      refine loopE (σ := Int32) (fun m r x => q_X9_mean_20 (nI s) (fun r' S2 => mv sm sz = r' ∧ Rel S2 b) m x (nI r) S2) (fun r x => x = nI (sR (fun r => bcN (L r)) r)) rk ?_ ?_ 0 0 (by omega) rfl
      · intro x hx
        unfold q_X9_mean_20 q_X9_mean_65
        rw [h25, nI_leI (by omega) (by omega), hx, ← esr]
        refine ⟨fun _ => ⟨fun ne => ?_, fun e => ?_⟩, fun z => by omega⟩
        · have rp : 0 < rk := by
            rcases Nat.eq_zero_or_pos rk with q | q
            · rw [q] at ne; exact absurd rfl ne
            · exact q
          have ev : mv sm sz = (FP.ddiv (FP.i2d (nI sm)) (FP.i2d (nI rk))).toInt64 := by unfold mv; rw [erk, if_neg (by omega)]
          rcases Nat.eq_zero_or_pos sm with q | q
          · have d0 := dd0 rk (by omega) rp
            rw [ev, q, d0]
            exact ⟨vf_64 (by decide), sp_dbits (by rw [show FP.Core.val64 0 = .fin false 0 FP.Core.b64.qmin from FP.Core.val64_dconst0]; exact FP.Core.Datum.noConfusion) ⟨rfl, hrel⟩⟩
          · obtain ⟨C, q', hd, l1, l2⟩ := dk_DX (ddk sm (by omega) q rk (by omega) rp)
            exact ⟨hd.vf (by omega) (by omega), sp_dbits (by rw [hd.1]; exact FP.Core.Datum.noConfusion) ⟨ev, hrel⟩⟩
        · have r0 : rk = 0 := by
            rw [show (0 : Int32) = nI 0 from rfl, nI_eq (by omega) (by omega)] at e; exact e
          refine sp_dbits (x := FP.dconst0) (by rw [show FP.Core.val64 FP.dconst0 = .fin false 0 FP.Core.b64.qmin from FP.Core.val64_dconst0]; exact FP.Core.Datum.noConfusion) ⟨?_, hrel⟩
          unfold mv
          rw [erk, if_pos r0]; rfl
      · intro r m x hr hx ih
        unfold q_X9_mean_20
        obtain ⟨u1, u2, -⟩ := hL r hr
        rw [h25, nI_leI (by omega) (by omega), tn_nI (by omega), u2]
        refine ⟨fun z => by omega, fun _ => ⟨vp_nI (by omega) (by omega), sp_degree9 (by omega) (fun y ey x3 e3 => ?_)⟩⟩
        rw [e3, nI_1]
        refine ih y ?_
        rw [ey, hx, nI_add]; rfl
    have d0 : S1.1 1 0 = nI n := N1.1.1
    rw [esz]
    refine ⟨fun lt => ?_, fun ge => ?_⟩
    · have zp : 0 < sz := by
        rcases Nat.eq_zero_or_pos sz with q | q
        · rw [q] at lt; exact absurd lt (by decide)
        · exact q
      refine loopE (σ := Int32) (fun m d x => q_X8_mean_41 (nI s) (fun r S2 => wp_X9_mean (nI s) S2 (fun r' S3 => r = r' ∧ Rel S3 b)) m (49 + 19 * s) x (nI d) S1) (fun d x => x = nI (sD f d)) (n + 1) ?_ ?_ 0 0 (by omega) rfl
      · intro x hx
        unfold q_X8_mean_41
        rw [d0, nI_ltI (by omega) (by omega), hx, ← esm, esz]
        have ev : mv sm sz = (FP.ddiv (FP.i2d (nI sm)) (FP.i2d (nI sz))).toInt64 := by unfold mv; rw [if_neg (by omega)]
        refine ⟨fun _ => ?_, fun z => by omega⟩
        rcases Nat.eq_zero_or_pos sm with q | q
        · have dz := dd0 sz (by omega) zp
          rw [q] at ev ref ⊢
          rw [dz] at ev ⊢
          refine ⟨vf_64 (by decide), sp_ofD0 ?_⟩
          rw [ev] at ref
          exact ref
        · obtain ⟨C, q', hd, l1, l2⟩ := dk_DX (ddk sm (by omega) q sz (by omega) zp)
          refine ⟨hd.vf (by omega) (by omega), sp_ofDouble hd l1 l2 ?_⟩
          rw [ev] at ref
          exact ref
      · intro d m x hd hx ih
        unfold q_X8_mean_41
        rw [d0, nI_ltI (by omega) (by omega)]
        refine ⟨fun z => by omega, fun _ => sp_leadsOfDegree P1 (by omega) (by omega) (fun y ey x3 e3 => ?_)⟩
        rw [e3, nI_1]
        refine ih y ?_
        rw [ey, hx, pk_mul, nI_add]
        show _ = nI (sD f d + d * f d)
        rw [ef]
    · have z0 : sz = 0 := by
        rcases Nat.eq_zero_or_pos sz with q | q
        · exact q
        · exact absurd (nI_lt (a := 0) q (by omega)) ge
      have ev : mv sm sz = 0 := by unfold mv; rw [if_pos z0]
      rw [ev] at ref
      exact sp_ofD0 ref
  · unfold wp_X9_mean
    exact sp_side9 (fun h => absurd h h0) (fun _ => ⟨fun z => absurd rfl z, fun _ => ⟨rfl, H.rel⟩⟩)
