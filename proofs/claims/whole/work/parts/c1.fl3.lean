/-! floats: the class's own bits (2) -/
theorem iLb (n : Nat) : (iL (n : Int)).toBitVec = BitVec.ofNat 64 n := by
  show BitVec.ofInt 64 (n : Int) = _
  exact BitVec.ofInt_natCast 64 n
theorem bits64 {a m : Nat} (ha : a < 2048) (hm : m < 4503599627370496) : (iL (a : Int) <<< (52 : Int64)) ||| iL (m : Int) = iL ((a * 4503599627370496 + m : Nat) : Int) := by
  apply Int64.toBitVec_inj.mp
  rw [Int64.toBitVec_or, Int64.toBitVec_shiftLeft, iLb, iLb, iLb, show ((52 : Int64).toBitVec.smod 64) = 52#64 by decide]
  apply BitVec.eq_of_toNat_eq
  rw [BitVec.toNat_or, BitVec.toNat_ofNat, BitVec.toNat_ofNat]
  have e1 : (BitVec.ofNat 64 a <<< 52#64).toNat = a <<< 52 := by
    rw [BitVec.shiftLeft_eq', BitVec.toNat_shiftLeft, BitVec.toNat_ofNat, BitVec.toNat_ofNat]
    simp only [Nat.shiftLeft_eq]
    rw [Nat.mod_eq_of_lt (show a < 2 ^ 64 by omega), show 52 % 2 ^ 64 = 52 from rfl, Nat.mod_eq_of_lt (by omega)]
  rw [e1, Nat.mod_eq_of_lt (show m < 2 ^ 64 by omega), Nat.mod_eq_of_lt (by omega), ← Nat.shiftLeft_add_eq_or_of_lt (by omega), Nat.shiftLeft_eq]
theorem u64_i (x : UInt64) : x.toInt64 = iL (x.toNat : Int) := by
  apply Int64.toBitVec_inj.mp
  rw [iLb]
  show x.toBitVec = _
  exact (BitVec.ofNat_toNat 64 x.toBitVec).symm ▸ (by simp)
theorem u32_i (x : UInt32) : x.toInt32 = iI (x.toNat : Int) := by
  apply Int32.toBitVec_inj.mp
  show x.toBitVec = BitVec.ofInt 32 (x.toNat : Int)
  rw [BitVec.ofInt_natCast]
  simp
theorem shr29 {n : Nat} (hn : n < 9223372036854775808) : iL (n : Int) >>> ((29 : Int32).toInt64 &&& 63) = iL ((n / 536870912 : Nat) : Int) := by
  apply Int64.toBitVec_inj.mp
  rw [show ((29 : Int32).toInt64 &&& 63) = 29 by decide, Int64.toBitVec_shiftRight, iLb, iLb, show ((29 : Int64).toBitVec.smod 64) = 29#64 by decide]
  apply BitVec.eq_of_toNat_eq
  have hm : (BitVec.ofNat 64 n).msb = false := by
    rw [BitVec.msb_eq_decide, BitVec.toNat_ofNat]
    exact decide_eq_false (by omega)
  rw [BitVec.sshiftRight_eq', BitVec.sshiftRight_eq_of_msb_false hm, BitVec.toNat_ushiftRight, BitVec.toNat_ofNat, BitVec.toNat_ofNat, Nat.shiftRight_eq_div_pow]
  show n % 2 ^ 64 / 2 ^ 29 = (BitVec.ofNat 64 (n / 536870912)).toNat
  rw [BitVec.toNat_ofNat]
  omega
theorem sp_ofDouble {x : UInt64} {C : Nat} {q : Int} {S : Sto} {Q : Int64 → Sto → Prop} (h : DX x C q) (l : -150 ≤ q) (u : q ≤ 46) (hQ : Q x.toInt64 S) : wp_X0_ofDouble x S Q := by
  have hx := b64_of h (by omega) (by omega)
  -- the end
  have fin : ∀ y : UInt64, DX y C (-52) → q_X0_ofDouble_77 x Q y (iI (q + 52)) S := by
    intro y hy
    obtain ⟨o1, o2, o3⟩ := hy.over
    unfold q_X0_ofDouble_77
    refine ⟨o1, o2, ?_⟩
    have e1 : (iI (q + 52) + 1023 : Int32) = nI (q + 1075).toNat := by
      rw [show (1023 : Int32) = iI 1023 from rfl, ← iI_add, nI_iI]
      congr 1; omega
    rw [o3, e1, nI_iI, iI_l ⟨by omega, by omega⟩, show ((52 : Int32).toInt64 &&& 63) = 52 by decide, bits64 (by omega) (by have := h.2; omega), ← hx, ← u64_i]
    exact hQ
  -- up from below 1
  have up : ∀ (k i : Nat) (y : UInt64) (z : Int), DX y C (-52 - k) → i + k ≤ 99 → z - k = q + 52 → q_X0_ofDouble_49 x Q (k + 1) y (iI z) (nI i) S := by
    intro k
    induction k with
    | zero =>
      intro i y z hy hi hz
      unfold q_X0_ofDouble_49
      have hy' : DX y C (-52) := by have := hy; rw [show (-52 - ((0 : Nat) : Int)) = -52 by omega] at this; exact this
      have e : z = q + 52 := by omega
      rw [show (100 : Int32) = nI 100 from rfl, nI_leI (by omega) (by omega), e]
      exact ⟨fun w => by omega, fun _ => ⟨fun _ => fin y hy', fun w => absurd ((hy'.one).1 (by omega)) w⟩⟩
    | succ k ih =>
      intro i y z hy hi hz
      unfold q_X0_ofDouble_49
      rw [show (100 : Int32) = nI 100 from rfl, nI_leI (by omega) (by omega)]
      refine ⟨fun w => by omega, fun _ => ⟨fun w => absurd w ((hy.one).2 (by omega)), fun _ => ?_⟩⟩
      have hd := hy.dbl (by omega) (by omega)
      refine ⟨hd.vf (by omega) (by omega), fun y2 e2 z2 ez i2 ei => ?_⟩
      rw [e2, ez, ei, nI_1, show (-1 : Int32) = iI (-1) by decide, ← iI_add]
      exact ih (i + 1) _ (z + -1) (by have := hd; rw [show (-52 - ((k + 1 : Nat) : Int) + 1) = -52 - (k : Int) by omega] at this; exact this) (by omega) (by omega)
  have up0 : ∀ (y : UInt64) (z : Int) (q' : Int), DX y C q' → q' ≤ -52 → -150 ≤ q' → z + q' = q → q_X0_ofDouble_46 x Q y (iI z) S := by
    intro y z q' hy hq' hl he
    unfold q_X0_ofDouble_46
    exact ⟨_, up (-52 - q').toNat 0 y z (by have := hy; rw [show q' = -52 - ((-52 - q').toNat : Int) by omega] at this; exact this) (by omega) (by omega)⟩
  -- down from 2 and over
  have dn : ∀ (k i : Nat) (y : UInt64) (z : Int), DX y C (-52 + k) → i + k ≤ 99 → z + k = q + 52 → q_X0_ofDouble_16 x Q (k + 1) y (iI z) (nI i) S := by
    intro k
    induction k with
    | zero =>
      intro i y z hy hi hz
      unfold q_X0_ofDouble_16
      have hy' : DX y C (-52) := by have := hy; rw [show (-52 + ((0 : Nat) : Int)) = -52 by omega] at this; exact this
      rw [show (100 : Int32) = nI 100 from rfl, nI_leI (by omega) (by omega)]
      exact ⟨fun w => by omega, fun _ => ⟨fun _ => up0 y z (-52) hy' (by omega) (by omega) (by omega), fun w => absurd ((hy'.two).1 (by omega)) w⟩⟩
    | succ k ih =>
      intro i y z hy hi hz
      unfold q_X0_ofDouble_16
      rw [show (100 : Int32) = nI 100 from rfl, nI_leI (by omega) (by omega)]
      refine ⟨fun w => by omega, fun _ => ⟨fun w => absurd w ((hy.two).2 (by omega)), fun _ => ?_⟩⟩
      have hd := hy.half (by omega) (by omega)
      refine ⟨hd.vf (by omega) (by omega), fun y2 e2 z2 ez i2 ei => ?_⟩
      rw [e2, ez, ei, nI_1, show (1 : Int32) = iI 1 from rfl, ← iI_add]
      exact ih (i + 1) _ (z + 1) (by have := hd; rw [show (-52 + ((k + 1 : Nat) : Int) - 1) = -52 + (k : Int) by omega] at this; exact this) (by omega) (by omega)
  unfold wp_X0_ofDouble
  refine ⟨fun _ => ?_, fun w => absurd h.pos w⟩
  rcases Int.lt_or_le q (-51) with w | w
  · refine ⟨1, ?_⟩
    unfold q_X0_ofDouble_16
    exact ⟨fun z => absurd z (by decide), fun _ => ⟨fun _ => up0 x 0 q h (by omega) l (by omega), fun z => absurd ((h.two).1 (by omega)) z⟩⟩
  · exact ⟨_, dn (q + 52).toNat 0 x 0 (by have := h; rw [show q = -52 + ((q + 52).toNat : Int) by omega] at this; exact this) (by omega) (by omega)⟩
