/-! floats: the class's own bits (3) -/
theorem f2d_DX {x : UInt32} {c : Nat} {q : Int} (hx : FP.Core.val32 x = .fin false c q) (h1 : 8388608 ≤ c) (h2 : c < 16777216) (h3 : -149 ≤ q) (h4 : q ≤ 104) : DX (FP.f2d x) (c * 536870912) (q - 29) := by
  refine ⟨?_, by omega, by omega⟩
  have nn : FP.fIsNaN x = false := (FP.Core.notNaN_iff32 x).mpr (by rw [hx]; exact FP.Core.Datum.noConfusion)
  rw [FP.f2d_core nn, FP.Core.val64_f2d, hx]
  show FP.Core.roundRatio FP.Core.b64 false c 1 q = _
  refine FP.Core.roundRatio_exact FP.Core.good_b64 (by decide) (fits64 (by omega) (by omega) (by omega) (by omega)) ?_
  rw [show (q - (q - 29)).toNat = 29 by omega, show (q - 29 - q).toNat = 0 by omega]
  omega
theorem sp_ofFloat {x : UInt32} {S : Sto} {Q : Int32 → Sto → Prop} (h : x = 0 ∨ EX x (-120) 70) (hQ : Q x.toInt32 S) : wp_X0_ofFloat x S Q := by
  unfold wp_X0_ofFloat q_X0_ofFloat_23
  rcases h with rfl | ⟨c, q, hx, h1, h2, h3, h4⟩
  · exact ⟨fun _ => hQ, fun w => absurd (by decide +kernel) w⟩
  · have gt : FP.fcmp x FP.fconst0 = some .gt := by
      show FP.Core.order (FP.Core.val32 x) (FP.Core.val32 FP.Core.fconst0) = _
      rw [hx, FP.Core.val32_fconst0]
      refine congrArg some (cmp_gt ?_)
      unfold FP.Core.inUnits
      rw [Nat.zero_mul]
      exact Nat.mul_pos (by omega) (Nat.two_pow_pos _)
    rw [gt]
    have hd := f2d_DX hx h1 h2 (by omega) (by omega)
    refine ⟨fun w => absurd w (by decide), fun _ => ⟨hd.vf (by omega) (by omega), sp_ofDouble hd (by omega) (by omega) ?_⟩⟩
    have e1 := b64_of hd (by omega) (by omega)
    have e2 := b32_of hx h1 h2 (by omega) (by omega)
    have e3 : (FP.f2d x).toNat / 536870912 = (q + 1046).toNat * 8388608 + (c - 8388608) := by
      rw [e1, show (q - 29 + 1075).toNat = (q + 1046).toNat by omega]
      omega
    rw [u64_i, shr29 (by rw [e1]; omega), e3, show (7516192768 : Int64) = iL 7516192768 by decide, ← iL_sub, iL_i]
    rw [u32_i, e2] at hQ
    have e4 : ((((q + 1046).toNat * 8388608 + (c - 8388608) : Nat) : Int) - 7516192768) = (((q + 150).toNat * 8388608 + (c - 8388608) : Nat) : Int) := by omega
    rw [e4]
    exact hQ
theorem sp_fbits {x : UInt32} {S : Sto} {Q : Int32 → Sto → Prop} (h : FP.Core.val32 x ≠ .nan) (hQ : Q x.toInt32 S) : wp_Jxf58ca_floatToIntBits_5c35a x S Q := by
  unfold wp_Jxf58ca_floatToIntBits_5c35a wp_Jxf58ca_isNaN_12338 q_Jxf58ca_isNaN_12338_11
  have e : FP.fcmp x x = some .eq := FP.Core.fcmp_refl ((FP.Core.notNaN_iff32 x).mpr h)
  rw [e]
  exact ⟨fun _ => ⟨narb0, fun w => absurd rfl w, fun _ => hQ⟩, fun w => absurd (by decide) w⟩
theorem sp_dbits {x : UInt64} {S : Sto} {Q : Int64 → Sto → Prop} (h : FP.Core.val64 x ≠ .nan) (hQ : Q x.toInt64 S) : wp_Jxe99ae_doubleToLongBits_ccdee x S Q := by
  unfold wp_Jxe99ae_doubleToLongBits_ccdee wp_Jxe99ae_isNaN_b9ae7 q_Jxe99ae_isNaN_b9ae7_11
  have e : FP.dcmp x x = some .eq := FP.Core.dcmp_refl ((FP.Core.notNaN_iff x).mpr h)
  rw [e]
  exact ⟨fun _ => ⟨narb0, fun w => absurd rfl w, fun _ => hQ⟩, fun w => absurd (by decide) w⟩
theorem sp_ofD0 {S : Sto} {Q : Int64 → Sto → Prop} (hQ : Q 0 S) : wp_X0_ofDouble 0 S Q := by
  unfold wp_X0_ofDouble
  exact ⟨fun w => absurd w (by decide +kernel), fun _ => hQ⟩
/-- the quotients that come up -/
def dk (x : UInt64) : Bool := match FP.Core.val64 x with
  | .fin false C q => decide (4503599627370496 ≤ C ∧ C < 9007199254740992 ∧ -150 ≤ q ∧ q ≤ 46)
  | _ => false
theorem dk_DX {x : UInt64} (h : dk x = true) : ∃ C q, DX x C q ∧ -150 ≤ q ∧ q ≤ 46 := by
  unfold dk at h
  generalize e : FP.Core.val64 x = d at h
  cases d with
  | nan => exact absurd h Bool.false_ne_true
  | inf s => exact absurd h Bool.false_ne_true
  | fin s c q =>
    cases s with
    | true => exact absurd h Bool.false_ne_true
    | false =>
      have := of_decide_eq_true h
      exact ⟨c, q, ⟨e, this.1, this.2.1⟩, this.2.2.1, this.2.2.2⟩
theorem ddk : ∀ a, a < 65 → 0 < a → ∀ b, b < 17 → 0 < b → dk (FP.ddiv (FP.i2d (nI a)) (FP.i2d (nI b))) = true := by decide +kernel
theorem dd0 : ∀ b, b < 17 → 0 < b → FP.ddiv (FP.i2d (nI 0)) (FP.i2d (nI b)) = 0 := by decide +kernel
/-- sums by degree and by row -/
def sD (f : Nat → Nat) : Nat → Nat | 0 => 0 | n + 1 => sD f n + n * f n
def sR (f : Nat → Nat) : Nat → Nat | 0 => 0 | n + 1 => sR f n + f n
theorem sD_cong {f f' : Nat → Nat} : ∀ {n : Nat}, (∀ i, i < n → f i = f' i) → sD f n = sD f' n
  | 0, _ => rfl
  | n + 1, h => by unfold sD; rw [sD_cong (fun i hi => h i (by omega)), h n (by omega)]
theorem sD_add {f f' : Nat → Nat} {g : Nat} (h : ∀ d, f' d = f d + (if g = d then 1 else 0)) : ∀ n, sD f' n = sD f n + (if g < n then g else 0)
  | 0 => rfl
  | n + 1 => by
    unfold sD
    rw [sD_add h n, h n]
    by_cases q : g = n
    · subst q
      rw [if_neg (by omega), if_pos rfl, if_pos (by omega), Nat.mul_add, Nat.mul_one]; omega
    · rw [if_neg q, Nat.add_zero]
      by_cases q2 : g < n
      · rw [if_pos q2, if_pos (by omega)]; omega
      · rw [if_neg q2, if_neg (by omega)]; omega
theorem sD_rows (g : Nat → Nat) {n : Nat} : ∀ rk, (∀ r, r < rk → g r < n) → sD (fun d => ctB (fun r => g r == d) rk) n = sR g rk
  | 0, _ => by
    have : ∀ n, sD (fun d => ctB (fun r => g r == d) 0) n = 0 := by
      intro n
      induction n with
      | zero => rfl
      | succ n ih => unfold sD; rw [ih]; rfl
    exact this n
  | rk + 1, h => by
    rw [sD_add (f := fun d => ctB (fun r => g r == d) rk) (g := g rk) (fun d => by
      show ctB (fun r => g r == d) rk + (if (g rk == d) = true then 1 else 0) = _
      congr 1
      by_cases q : g rk = d
      · rw [if_pos q, if_pos (by simpa using q)]
      · rw [if_neg q, if_neg (by simpa using q)]), sD_rows g rk (fun r hr => h r (by omega)), if_pos (h rk (by omega))]
    rfl
theorem sR_le (g : Nat → Nat) {n : Nat} : ∀ rk, (∀ r, r < rk → g r ≤ n) → sR g rk ≤ n * rk
  | 0, _ => Nat.zero_le _
  | rk + 1, h => by
    have := sR_le g rk (fun r hr => h r (by omega))
    have := h rk (by omega)
    unfold sR
    rw [Nat.mul_succ]; omega
theorem sD_mono (f : Nat → Nat) : ∀ {a b : Nat}, a ≤ b → sD f a ≤ sD f b := by
  intro a b h
  induction b with
  | zero => rw [show a = 0 by omega]; exact Nat.le_refl _
  | succ b ih =>
    rcases Nat.lt_or_ge a (b + 1) with q | q
    · have := ih (by omega)
      show _ ≤ sD f b + b * f b
      omega
    · rw [show a = b + 1 by omega]; exact Nat.le_refl _
theorem bcN_n : ∀ n, n < 5 → ∀ a, a < 16 → a < 2 ^ n → bcN a ≤ n := by decide +kernel
