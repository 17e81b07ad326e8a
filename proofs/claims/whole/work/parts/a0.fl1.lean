/-! floats: rounding of what is normal -/
theorem fp_p32 : FP.Core.b32.p = 24 ∧ FP.Core.b32.tails = 8388608 ∧ FP.Core.b32.qmin = -149 ∧ FP.Core.b32.qmax = 104 ∧ FP.Core.b32.exps = 256 := by decide
theorem fp_p64 : FP.Core.b64.p = 53 ∧ FP.Core.b64.tails = 4503599627370496 ∧ FP.Core.b64.qmin = -1074 ∧ FP.Core.b64.qmax = 971 ∧ FP.Core.b64.exps = 2048 := by decide
theorem fr_32 {A B : Nat} (hA : 0 < A) (hB : 0 < B) {e lo hi : Int} (h1 : ¬ FP.Core.Below A B lo) (h2 : FP.Core.Below A B hi) (hq1 : -149 ≤ lo + e - 23) (hq2 : hi + e - 23 ≤ 104) : ∃ c q, FP.Core.roundRatio FP.Core.b32 false A B e = .fin false c q ∧ 8388608 ≤ c ∧ c < 16777216 ∧ lo + e - 23 ≤ q ∧ q ≤ hi + e - 23 := by
  obtain ⟨p1, p2, p3, p4, -⟩ := fp_p32
  have l1 := FP.Core.lt_of_below h1 (FP.Core.leading_spec hA hB).2
  have l2 := FP.Core.lt_of_below (FP.Core.leading_spec hA hB).1 h2
  have hQ : FP.Core.quantum FP.Core.b32 A B e = FP.Core.leading A B + e - 23 := by
    unfold FP.Core.quantum
    rw [p1, p3]; omega
  obtain ⟨Q, eQ⟩ : ∃ Q, Q = FP.Core.quantum FP.Core.b32 A B e := ⟨_, rfl⟩
  obtain ⟨N, eN⟩ : ∃ N, N = FP.Core.nearest (FP.Core.unitsNum A e Q) (FP.Core.unitsDen B e Q) := ⟨_, rfl⟩
  have hN1 : 8388608 ≤ N := by
    rw [eN]
    refine FP.Core.nearest_ge (FP.Core.unitsDen_pos hB _ _) ?_
    have u := FP.Core.units_below A B e Q 23
    have nb : ¬ FP.Core.Below A B (Q - e + 23) := by
      rw [show Q - e + 23 = FP.Core.leading A B by omega]
      exact (FP.Core.leading_spec hA hB).1
    have := Nat.not_lt.mp (fun q => nb (u.mp q))
    omega
  have hN2 : N ≤ 16777216 := by
    have h := FP.Core.nearest_units_le (f := FP.Core.b32) hA hB e
    rw [p1, ← eQ, ← eN] at h
    omega
  have e1 : FP.Core.roundRatio FP.Core.b32 false A B e = FP.Core.settle FP.Core.b32 false N Q := by
    unfold FP.Core.roundRatio FP.Core.roundAt
    rw [if_neg (by omega), eN, eQ]
  rw [e1]
  unfold FP.Core.settle FP.Core.bound
  rw [p1, p2, p4]
  rcases Nat.lt_or_ge N 16777216 with q | q
  · rw [if_pos q, if_pos (by omega)]
    exact ⟨N, Q, rfl, hN1, q, by omega, by omega⟩
  · rw [if_neg (by omega), if_pos (by omega)]
    exact ⟨8388608, Q + 1, rfl, by omega, by omega, by omega, by omega⟩
/-- a normal float above 0 -/
def EX (x : UInt32) (lo hi : Int) : Prop := ∃ c q, FP.Core.val32 x = .fin false c q ∧ 8388608 ≤ c ∧ c < 16777216 ∧ lo ≤ q ∧ q ≤ hi
def DX (x : UInt64) (C : Nat) (q : Int) : Prop := FP.Core.val64 x = .fin false C q ∧ 4503599627370496 ≤ C ∧ C < 9007199254740992
theorem z32 {x : UInt32} (h : FP.Core.val32 x = .fin false 0 FP.Core.b32.qmin) : x = 0 := FP.Core.val32_inj (by rw [h]; exact FP.Core.Datum.noConfusion) (h.trans FP.Core.val32_fconst0.symm)
theorem z64 {x : UInt64} (h : FP.Core.val64 x = .fin false 0 FP.Core.b64.qmin) : x = 0 := FP.Core.val64_inj (by rw [h]; exact FP.Core.Datum.noConfusion) (h.trans FP.Core.val64_dconst0.symm)
theorem b32_of {x : UInt32} {c : Nat} {q : Int} (h : FP.Core.val32 x = .fin false c q) (h1 : 8388608 ≤ c) (h2 : c < 16777216) (h3 : -149 ≤ q) (h4 : q ≤ 104) : x.toNat = (q + 150).toNat * 8388608 + (c - 8388608) := by
  obtain ⟨p1, p2, p3, p4, p5⟩ := fp_p32
  have e := FP.Core.of32_val32 (a := x) (by rw [h]; exact FP.Core.Datum.noConfusion)
  rw [h] at e
  rw [← e]
  unfold FP.Core.of32 FP.Core.encode FP.Core.assemble
  show (UInt32.ofNat (if c < FP.Core.b32.tails then _ else _)).toNat = _
  rw [p2, p3, p5, if_neg (by omega)]
  show (UInt32.ofNat ((0 * 256 + ((q - -149).toNat + 1)) * 8388608 + (c - 8388608))).toNat = _
  rw [UInt32.toNat_ofNat', Nat.mod_eq_of_lt (by omega)]
  have : (q - -149).toNat + 1 = (q + 150).toNat := by omega
  rw [this]; omega
theorem b64_of {x : UInt64} {c : Nat} {q : Int} (h : DX x c q) (h3 : -1000 ≤ q) (h4 : q ≤ 900) : x.toNat = (q + 1075).toNat * 4503599627370496 + (c - 4503599627370496) := by
  obtain ⟨h, h1, h2⟩ := h
  obtain ⟨p1, p2, p3, p4, p5⟩ := fp_p64
  have e := FP.Core.of64_val64 (a := x) (by rw [h]; exact FP.Core.Datum.noConfusion)
  rw [h] at e
  rw [← e]
  unfold FP.Core.of64 FP.Core.encode FP.Core.assemble
  show (UInt64.ofNat (if c < FP.Core.b64.tails then _ else _)).toNat = _
  rw [p2, p3, p5, if_neg (by omega)]
  show (UInt64.ofNat ((0 * 2048 + ((q - -1074).toNat + 1)) * 4503599627370496 + (c - 4503599627370496))).toNat = _
  rw [UInt64.toNat_ofNat', Nat.mod_eq_of_lt (by omega)]
  have : (q - -1074).toNat + 1 = (q + 1075).toNat := by omega
  rw [this]; omega
theorem vf_32 {x : UInt32} (h : x.toNat ≤ 2139095040) : vf_n32 x := by
  unfold vf_n32
  rw [UInt32.le_iff_toNat_le, UInt32.toNat_and]
  exact Nat.le_trans Nat.and_le_left h
theorem vf_64 {x : UInt64} (h : x.toNat ≤ 9218868437227405312) : vf_n64 x := by
  unfold vf_n64
  rw [UInt64.le_iff_toNat_le, UInt64.toNat_and]
  exact Nat.le_trans Nat.and_le_left h
theorem EX.vf {x : UInt32} {lo hi : Int} (h : EX x lo hi) (h1 : -149 ≤ lo) (h2 : hi ≤ 103) : vf_n32 x := by
  obtain ⟨c, q, h, a, b, l, u⟩ := h
  exact vf_32 (by rw [b32_of h a b (by omega) (by omega)]; omega)
theorem DX.vf {x : UInt64} {C : Nat} {q : Int} (h : DX x C q) (h1 : -1000 ≤ q) (h2 : q ≤ 900) : vf_n64 x := by
  have := h.2
  exact vf_64 (by rw [b64_of h h1 h2]; omega)
theorem EX.mono {x : UInt32} {lo hi lo' hi' : Int} (h : EX x lo hi) (h1 : lo' ≤ lo) (h2 : hi ≤ hi') : EX x lo' hi' := by
  obtain ⟨c, q, h, a, b, l, u⟩ := h
  exact ⟨c, q, h, a, b, by omega, by omega⟩
theorem EX.mul {x y : UInt32} {a b a' b' : Int} (hx : EX x a b) (hy : EX y a' b') (h1 : -149 ≤ a + a' + 23) (h2 : b + b' + 25 ≤ 104) : EX (FP.fmul x y) (a + a' + 23) (b + b' + 25) := by
  obtain ⟨c, q, hx, c1, c2, q1, q2⟩ := hx
  obtain ⟨d, r, hy, d1, d2, r1, r2⟩ := hy
  have m1 : 8388608 * 8388608 ≤ c * d := Nat.mul_le_mul c1 d1
  have m2 : c * d < 16777216 * 16777216 := Nat.mul_lt_mul'' c2 d2
  obtain ⟨N, s, e1, n1, n2, s1, s2⟩ := fr_32 (A := c * d) (B := 1) (e := q + r) (lo := 46) (hi := 48) (by omega) (by omega) (by
    unfold FP.Core.Below
    show ¬ c * d * 2 ^ 0 < 1 * 2 ^ 46
    omega) (by
    unfold FP.Core.Below
    show c * d * 2 ^ 0 < 1 * 2 ^ 48
    omega) (by omega) (by omega)
  refine ⟨N, s, ?_, n1, n2, by omega, by omega⟩
  rw [FP.Core.val32_fmul, hx, hy]
  exact e1
theorem EX.div {x y : UInt32} {a b a' b' : Int} (hx : EX x a b) (hy : EX y a' b') (h1 : -149 ≤ a - b' - 24) (h2 : b - a' - 22 ≤ 104) : EX (FP.fdiv x y) (a - b' - 24) (b - a' - 22) := by
  obtain ⟨c, q, hx, c1, c2, q1, q2⟩ := hx
  obtain ⟨d, r, hy, d1, d2, r1, r2⟩ := hy
  obtain ⟨N, s, e1, n1, n2, s1, s2⟩ := fr_32 (A := c) (B := d) (e := q - r) (lo := -1) (hi := 1) (by omega) (by omega) (by
    unfold FP.Core.Below
    show ¬ c * 2 ^ 1 < d * 2 ^ 0
    omega) (by
    unfold FP.Core.Below
    show c * 2 ^ 0 < d * 2 ^ 1
    omega) (by omega) (by omega)
  refine ⟨N, s, ?_, n1, n2, by omega, by omega⟩
  rw [FP.Core.val32_fdiv, hx, hy]
  show (if d = 0 then _ else FP.Core.roundRatio FP.Core.b32 (false != false) c d (q - r)) = _
  rw [if_neg (by omega)]
  exact e1
theorem EX.add {x y : UInt32} {a b a' b' : Int} (hx : EX x a b) (hy : EX y a' b') (h1 : -149 ≤ a) (h2 : b ≤ 100) (h3 : b' ≤ 100) : EX (FP.fadd x y) (max a a') (max b b' + 2) := by
  obtain ⟨c, q, hx, c1, c2, q1, q2⟩ := hx
  obtain ⟨d, r, hy, d1, d2, r1, r2⟩ := hy
  obtain ⟨i, ei⟩ : ∃ i, i = (q - min q r).toNat := ⟨_, rfl⟩
  obtain ⟨j, ej⟩ : ∃ j, j = (r - min q r).toNat := ⟨_, rfl⟩
  have pi := Nat.two_pow_pos i
  have pj := Nat.two_pow_pos j
  have mx : max i j = i ∨ max i j = j := by omega
  have up : 2 ^ i ≤ 2 ^ (max i j) ∧ 2 ^ j ≤ 2 ^ (max i j) := ⟨Nat.pow_le_pow_right (by omega) (by omega), Nat.pow_le_pow_right (by omega) (by omega)⟩
  have A1 : 8388608 * 2 ^ (max i j) ≤ c * 2 ^ i + d * 2 ^ j := by
    rcases mx with e | e <;> rw [e]
    · have := Nat.mul_le_mul_right (2 ^ i) c1; omega
    · have := Nat.mul_le_mul_right (2 ^ j) d1; omega
  have A2 : c * 2 ^ i + d * 2 ^ j < 33554432 * 2 ^ (max i j) := by
    have a1 := Nat.mul_lt_mul_of_lt_of_le c2 up.1 (Nat.two_pow_pos _)
    have a2 := Nat.mul_lt_mul_of_lt_of_le d2 up.2 (Nat.two_pow_pos _)
    omega
  have me : ((max i j : Nat) : Int) = max q r - min q r := by omega
  obtain ⟨N, s, e1, n1, n2, s1, s2⟩ := fr_32 (A := c * 2 ^ i + d * 2 ^ j) (B := 1) (e := min q r) (lo := ((23 + max i j : Nat) : Int)) (hi := ((25 + max i j : Nat) : Int)) (by omega) (by omega) (by
    unfold FP.Core.Below
    rw [show (-((23 + max i j : Nat) : Int)).toNat = 0 by omega, Int.toNat_natCast, Nat.pow_add]
    show ¬ (c * 2 ^ i + d * 2 ^ j) * 1 < 1 * (8388608 * 2 ^ (max i j))
    omega) (by
    unfold FP.Core.Below
    rw [show (-((25 + max i j : Nat) : Int)).toNat = 0 by omega, Int.toNat_natCast, Nat.pow_add]
    show (c * 2 ^ i + d * 2 ^ j) * 1 < 1 * (33554432 * 2 ^ (max i j))
    omega) (by omega) (by omega)
  refine ⟨N, s, ?_, n1, n2, by omega, by omega⟩
  rw [FP.Core.val32_fadd, hx, hy]
  have v : FP.Core.sumUnits false c q false d r (min q r) = ((c * 2 ^ i + d * 2 ^ j : Nat) : Int) := by
    unfold FP.Core.sumUnits FP.Core.signed FP.Core.inUnits
    rw [← ei, ← ej]
    rfl
  show FP.Core.round FP.Core.b32 (.fin (FP.Core.sumSign false false (FP.Core.sumUnits false c q false d r (min q r))) (FP.Core.sumUnits false c q false d r (min q r)).natAbs (min q r)) = _
  have sg : FP.Core.sumSign false false (FP.Core.sumUnits false c q false d r (min q r)) = false := by
    rw [v]
    unfold FP.Core.sumSign
    rw [if_neg (by omega)]
    exact decide_eq_false (by omega)
  rw [sg, v, Int.natAbs_natCast]
  exact e1
theorem EX.ne {x : UInt32} {lo hi : Int} (h : EX x lo hi) : FP.Core.val32 x ≠ .nan ∧ x ≠ FP.Core.fzeroNeg := by
  obtain ⟨c, q, h, a, b, l, u⟩ := h
  refine ⟨by rw [h]; exact FP.Core.Datum.noConfusion, fun e => ?_⟩
  rw [e, FP.Core.val32_fzeroNeg] at h
  injection h with h1 h2 h3
  exact absurd h1 (by decide)
theorem fadd_0r {x : UInt32} {lo hi : Int} (h : EX x lo hi) : FP.fadd x 0 = x ∧ FP.fadd 0 x = x := by
  have e := FP.Core.fadd_zero h.ne.1 h.ne.2
  exact ⟨e, (FP.Core.fadd_comm 0 x).trans e⟩
theorem fmul_0 {x : UInt32} {lo hi : Int} (h : EX x lo hi) : FP.fmul 0 x = 0 := by
  obtain ⟨c, q, h, a, b, l, u⟩ := h
  refine z32 ?_
  rw [FP.Core.val32_fmul, h, show FP.Core.val32 0 = .fin false 0 FP.Core.b32.qmin from FP.Core.val32_fconst0]
  show FP.Core.roundRatio FP.Core.b32 false (0 * c) 1 _ = _
  rw [Nat.zero_mul]
  exact if_pos rfl
theorem fadd_00 : FP.fadd 0 0 = 0 := by decide +kernel
/-- whole numbers as floats -/
def fk (x : UInt32) (lo hi : Int) : Bool := match FP.Core.val32 x with
  | .fin false c q => decide (8388608 ≤ c ∧ c < 16777216 ∧ lo ≤ q ∧ q ≤ hi)
  | _ => false
theorem fk_EX {x : UInt32} {lo hi : Int} (h : fk x lo hi = true) : EX x lo hi := by
  unfold fk at h
  generalize e : FP.Core.val32 x = d at h
  cases d with
  | nan => exact absurd h Bool.false_ne_true
  | inf s => exact absurd h Bool.false_ne_true
  | fin s c q =>
    cases s with
    | true => exact absurd h Bool.false_ne_true
    | false =>
      have := of_decide_eq_true h
      exact ⟨c, q, e, this.1, this.2.1, this.2.2.1, this.2.2.2⟩
theorem i2f_k : ∀ k, k < 100 → 0 < k → fk (FP.i2f (nI k)) (-23) (-17) = true := by decide +kernel
theorem i2f_0 : FP.i2f (nI 0) = 0 := by decide +kernel
