/-! floats: the class's own bits -/
theorem v64_two : FP.Core.val64 4611686018427387904 = .fin false 4503599627370496 (-51) := by decide +kernel
theorem v64_p52 : FP.Core.val64 4841369599423283200 = .fin false 4503599627370496 0 := by decide +kernel
theorem cmp64 {x y : UInt64} {C D : Nat} {q r : Int} (hx : FP.Core.val64 x = .fin false C q) (hy : FP.Core.val64 y = .fin false D r) : FP.dcmp x y = some (compare (FP.Core.signed false (FP.Core.inUnits C q (min q r))) (FP.Core.signed false (FP.Core.inUnits D r (min q r)))) := by
  show FP.Core.order (FP.Core.val64 x) (FP.Core.val64 y) = _
  rw [hx, hy]; rfl
theorem cmp_lt {a b : Nat} (h : a < b) : compare (FP.Core.signed false a) (FP.Core.signed false b) = .lt := by
  rw [FP.Core.compare_ite]
  exact if_pos (show (a : Int) < b by omega)
theorem cmp_ge {a b : Nat} (h : b ≤ a) : compare (FP.Core.signed false a) (FP.Core.signed false b) = .eq ∨ compare (FP.Core.signed false a) (FP.Core.signed false b) = .gt := by
  rw [FP.Core.compare_ite, if_neg (show ¬ FP.Core.signed false a < FP.Core.signed false b from (show ¬ (a : Int) < b by omega))]
  by_cases q : (FP.Core.signed false a) = (FP.Core.signed false b)
  · rw [if_pos q]; exact Or.inl rfl
  · rw [if_neg q]; exact Or.inr rfl
theorem cmp_gt {a b : Nat} (h : b < a) : compare (FP.Core.signed false a) (FP.Core.signed false b) = .gt := by
  rw [FP.Core.compare_ite, if_neg (show ¬ FP.Core.signed false a < FP.Core.signed false b from (show ¬ (a : Int) < b by omega)), if_neg (show ¬ FP.Core.signed false a = FP.Core.signed false b from (show ¬ (a : Int) = b by omega))]
theorem fits64 {C : Nat} {q : Int} (h1 : 4503599627370496 ≤ C) (h2 : C < 9007199254740992) (h3 : -1074 ≤ q) (h4 : q ≤ 971) : FP.Core.fits FP.Core.b64 (.fin false C q) := by
  obtain ⟨p1, p2, p3, p4, -⟩ := fp_p64
  exact ⟨by rw [p1]; omega, by rw [p3]; exact h3, by rw [p4]; exact h4, Or.inr (by rw [p2]; exact h1)⟩
theorem DX.pos {x : UInt64} {C : Nat} {q : Int} (h : DX x C q) : 0 < Op.cmpValue (FP.dcmp x FP.dconst0) .l := by
  rw [cmp64 (y := FP.dconst0) h.1 FP.Core.val64_dconst0, cmp_gt]
  · decide
  · unfold FP.Core.inUnits
    rw [Nat.zero_mul]
    exact Nat.mul_pos (by have := h.2.1; omega) (Nat.two_pow_pos _)
theorem DX.two {x : UInt64} {C : Nat} {q : Int} (h : DX x C q) : (q ≤ -52 → Op.cmpValue (FP.dcmp x 4611686018427387904) .l < 0) ∧ (-51 ≤ q → ¬ Op.cmpValue (FP.dcmp x 4611686018427387904) .l < 0) := by
  obtain ⟨h0, h1, h2⟩ := h
  rw [cmp64 h0 v64_two]
  refine ⟨fun l => ?_, fun l => ?_⟩
  · rw [cmp_lt]
    · decide
    · unfold FP.Core.inUnits
      rw [show min q (-51) = q by omega, show (q - q).toNat = 0 by omega, show (-51 - q).toNat = (-51 - q).toNat - 1 + 1 by omega, Nat.pow_succ]
      have := Nat.two_pow_pos ((-51 - q).toNat - 1)
      omega
  · have : FP.Core.inUnits 4503599627370496 (-51) (min q (-51)) ≤ FP.Core.inUnits C q (min q (-51)) := by
      unfold FP.Core.inUnits
      rw [show min q (-51) = -51 by omega]
      have := Nat.mul_le_mul h1 (Nat.two_pow_pos (q - -51).toNat)
      show 4503599627370496 * 2 ^ 0 ≤ _
      omega
    rcases cmp_ge this with e | e <;> rw [e] <;> decide
theorem DX.one {x : UInt64} {C : Nat} {q : Int} (h : DX x C q) : (-52 ≤ q → 0 ≤ Op.cmpValue (FP.dcmp x FP.dconst1) .g) ∧ (q ≤ -53 → ¬ 0 ≤ Op.cmpValue (FP.dcmp x FP.dconst1) .g) := by
  obtain ⟨h0, h1, h2⟩ := h
  rw [cmp64 (y := FP.dconst1) h0 FP.Core.val64_dconst1]
  refine ⟨fun l => ?_, fun l => ?_⟩
  · have : FP.Core.inUnits (2 ^ 52) (-52) (min q (-52)) ≤ FP.Core.inUnits C q (min q (-52)) := by
      unfold FP.Core.inUnits
      rw [show min q (-52) = -52 by omega]
      have := Nat.mul_le_mul h1 (Nat.two_pow_pos (q - -52).toNat)
      show 2 ^ 52 * 2 ^ 0 ≤ _
      omega
    rcases cmp_ge this with e | e <;> rw [e] <;> decide
  · rw [cmp_lt]
    · decide
    · unfold FP.Core.inUnits
      rw [show min q (-52) = q by omega, show (q - q).toNat = 0 by omega, show (-52 - q).toNat = (-52 - q).toNat - 1 + 1 by omega, Nat.pow_succ]
      have := Nat.two_pow_pos ((-52 - q).toNat - 1)
      omega
theorem DX.half {x : UInt64} {C : Nat} {q : Int} (h : DX x C q) (l : -1000 ≤ q) (u : q ≤ 900) : DX (FP.ddiv x 4611686018427387904) C (q - 1) := by
  refine ⟨?_, h.2⟩
  rw [FP.Core.val64_ddiv, h.1, v64_two]
  have e : FP.Core.quotient FP.Core.b64 (.fin false C q) (.fin false 4503599627370496 (-51)) = FP.Core.roundRatio FP.Core.b64 false C 4503599627370496 (q - -51) := by
    show (if (4503599627370496 : Nat) = 0 then (if C = 0 then FP.Core.Datum.nan else FP.Core.Datum.inf (false != false)) else FP.Core.roundRatio FP.Core.b64 (false != false) C 4503599627370496 (q - -51)) = _
    rw [if_neg (by decide)]
    rfl
  rw [e]
  refine FP.Core.roundRatio_exact FP.Core.good_b64 (by decide) (fits64 h.2.1 h.2.2 (by omega) (by omega)) ?_
  rw [show (q - -51 - (q - 1)).toNat = 52 by omega, show (q - 1 - (q - -51)).toNat = 0 by omega]
  omega
theorem DX.dbl {x : UInt64} {C : Nat} {q : Int} (h : DX x C q) (l : -1000 ≤ q) (u : q ≤ 900) : DX (FP.dmul x 4611686018427387904) C (q + 1) := by
  refine ⟨?_, h.2⟩
  rw [FP.Core.val64_dmul, h.1, v64_two]
  show FP.Core.roundRatio FP.Core.b64 (false != false) (C * 4503599627370496) 1 (q + -51) = _
  refine FP.Core.roundRatio_exact FP.Core.good_b64 (by decide) (fits64 h.2.1 h.2.2 (by omega) (by omega)) ?_
  rw [show (q + -51 - (q + 1)).toNat = 0 by omega, show (q + 1 - (q + -51)).toNat = 52 by omega]
  omega
theorem ND.n {x : UInt64} (h : FP.Core.val64 x = .fin false 0 FP.Core.b64.qmin) : vf_n64 x := by
  rw [z64 h]; unfold vf_n64; decide
/-- what is over 1, of a number from 1 to 2 -/
theorem DX.over {x : UInt64} {C : Nat} (h : DX x C (-52)) : vf_n64 (FP.dsub x FP.dconst1) ∧ vf_n64 (FP.dmul (FP.dsub x FP.dconst1) 4841369599423283200) ∧ FP.d2l (FP.dmul (FP.dsub x FP.dconst1) 4841369599423283200) = iL ((C - 4503599627370496 : Nat) : Int) := by
  obtain ⟨h0, h1, h2⟩ := h
  obtain ⟨m, em⟩ : ∃ m, m = C - 4503599627370496 := ⟨_, rfl⟩
  have v : FP.Core.sumUnits false C (-52) true (2 ^ 52) (-52) (min (-52) (-52)) = ((m : Nat) : Int) := by
    show ((C * 1 : Nat) : Int) + -((4503599627370496 * 1 : Nat) : Int) = _
    omega
  have e1 : FP.Core.val64 (FP.dsub x FP.dconst1) = FP.Core.roundRatio FP.Core.b64 false m 1 (-52) := by
    rw [FP.Core.val64_dsub, h0, show FP.Core.val64 FP.dconst1 = .fin false (2 ^ 52) (-52) from FP.Core.val64_dconst1]
    show FP.Core.round FP.Core.b64 (.fin (FP.Core.sumSign false true (FP.Core.sumUnits false C (-52) true (2 ^ 52) (-52) (min (-52) (-52)))) (FP.Core.sumUnits false C (-52) true (2 ^ 52) (-52) (min (-52) (-52))).natAbs (min (-52) (-52))) = _
    rw [v, Int.natAbs_natCast]
    have sg : FP.Core.sumSign false true ((m : Nat) : Int) = false := by
      unfold FP.Core.sumSign
      by_cases z : ((m : Nat) : Int) = 0
      · rw [if_pos z]; rfl
      · rw [if_neg z]; exact decide_eq_false (by omega)
    rw [sg]; rfl
  rw [← em]
  rcases Nat.eq_zero_or_pos m with z | z
  · have e2 : FP.Core.val64 (FP.dsub x FP.dconst1) = .fin false 0 FP.Core.b64.qmin := by rw [e1, z]; exact if_pos rfl
    have e3 : FP.Core.val64 (FP.dmul (FP.dsub x FP.dconst1) 4841369599423283200) = .fin false 0 FP.Core.b64.qmin := by
      rw [FP.Core.val64_dmul, e2, v64_p52]
      show FP.Core.roundRatio FP.Core.b64 (false != false) (0 * 4503599627370496) 1 _ = _
      rw [Nat.zero_mul]; exact if_pos rfl
    refine ⟨ND.n e2, ND.n e3, ?_⟩
    show FP.Core.toL (FP.Core.val64 _) = _
    rw [e3, z]; decide +kernel
  · obtain ⟨k, ek⟩ : ∃ k, k = m.log2 := ⟨_, rfl⟩
    have k1 : 2 ^ k ≤ m := by rw [ek]; exact Nat.log2_self_le (by omega)
    have k2 : m < 2 ^ (k + 1) := by rw [ek]; exact Nat.lt_log2_self
    have k3 : k ≤ 51 := by
      rcases Nat.lt_or_ge k 52 with q | q
      · omega
      · have := Nat.pow_le_pow_right (show 0 < 2 by decide) q
        omega
    have pk : 2 ^ k * 2 ^ (52 - k) = 4503599627370496 := by rw [← Nat.pow_add, show k + (52 - k) = 52 by omega]
    have b1 : 4503599627370496 ≤ m * 2 ^ (52 - k) := by rw [← pk]; exact Nat.mul_le_mul_right _ k1
    have b2 : m * 2 ^ (52 - k) < 9007199254740992 := by
      have := Nat.mul_lt_mul_of_pos_right k2 (Nat.two_pow_pos (52 - k))
      rw [Nat.pow_succ, Nat.mul_right_comm, pk] at this
      exact this
    have d1 : DX (FP.dsub x FP.dconst1) (m * 2 ^ (52 - k)) ((k : Int) - 104) := by
      refine ⟨?_, b1, b2⟩
      rw [e1]
      refine FP.Core.roundRatio_exact FP.Core.good_b64 (by decide) (fits64 b1 b2 (by omega) (by omega)) ?_
      rw [show (-52 - ((k : Int) - 104)).toNat = 52 - k by omega, show ((k : Int) - 104 - -52).toNat = 0 by omega]
      omega
    have d2 : DX (FP.dmul (FP.dsub x FP.dconst1) 4841369599423283200) (m * 2 ^ (52 - k)) ((k : Int) - 52) := by
      refine ⟨?_, b1, b2⟩
      rw [FP.Core.val64_dmul, d1.1, v64_p52]
      show FP.Core.roundRatio FP.Core.b64 (false != false) (m * 2 ^ (52 - k) * 4503599627370496) 1 ((k : Int) - 104 + 0) = _
      refine FP.Core.roundRatio_exact FP.Core.good_b64 (by decide) (fits64 b1 b2 (by omega) (by omega)) ?_
      rw [show ((k : Int) - 104 + 0 - ((k : Int) - 52)).toNat = 0 by omega, show ((k : Int) - 52 - ((k : Int) - 104 + 0)).toNat = 52 by omega]
      omega
    refine ⟨d1.vf (by omega) (by omega), d2.vf (by omega) (by omega), ?_⟩
    show FP.Core.toL (FP.Core.val64 _) = _
    rw [d2.1]
    show Int64.ofInt (max _ (min _ (FP.Core.truncate false (m * 2 ^ (52 - k)) ((k : Int) - 52)))) = _
    have t : FP.Core.truncate false (m * 2 ^ (52 - k)) ((k : Int) - 52) = (m : Int) := by
      show ((m * 2 ^ (52 - k) * 2 ^ ((k : Int) - 52).toNat / 2 ^ (-((k : Int) - 52)).toNat : Nat) : Int) = _
      rw [show ((k : Int) - 52).toNat = 0 by omega, show (-((k : Int) - 52)).toNat = 52 - k by omega, Nat.pow_zero, Nat.mul_one, Nat.mul_div_cancel _ (Nat.two_pow_pos _)]
    rw [t]
    have : max (-2 ^ 63 : Int) (min (2 ^ 63 - 1) (m : Int)) = (m : Int) := by omega
    rw [this]
