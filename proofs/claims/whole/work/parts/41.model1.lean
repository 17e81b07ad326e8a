/-! the reference: numbers -/
abbrev iL (z : Int) : Int64 := Int64.ofInt z
def sm63 (z : Int) : Prop := -4611686018427387904 ≤ z ∧ z < 4611686018427387904
theorem toInt_iL {z : Int} (h : sm63 z) : (iL z).toInt = z := Int64.toInt_ofInt_of_le (by have := h.1; omega) (by have := h.2; omega)
theorem iL_add (a b : Int) : iL (a + b) = iL a + iL b := Int64.ofInt_add a b
theorem iL_sub (a b : Int) : iL (a - b) = iL a - iL b := Int64.ofInt_sub a b
theorem iL_mul (a b : Int) : iL (a * b) = iL a * iL b := Int64.ofInt_mul a b
theorem iI_l {a : Int} (h : sm31 a) : (iI a).toInt64 = iL a := by
  rw [← Int64.ofInt_int32ToInt, toInt_iI h]
theorem iL_i (z : Int) : (iL z).toInt32 = iI z := Int64.toInt32_ofInt
theorem iL_le {a b : Int} (ha : sm63 a) (hb : sm63 b) : iL a ≤ iL b ↔ a ≤ b := by
  rw [Int64.le_iff_toInt_le, toInt_iL ha, toInt_iL hb]
theorem iL_lt {a b : Int} (ha : sm63 a) (hb : sm63 b) : iL a < iL b ↔ a < b := by
  rw [Int64.lt_iff_toInt_lt, toInt_iL ha, toInt_iL hb]
theorem iL_eq {a b : Int} (ha : sm63 a) (hb : sm63 b) : iL a = iL b ↔ a = b := by
  rw [← Int64.toInt_inj, toInt_iL ha, toInt_iL hb]
theorem iL_trem {a b : Int} (ha : sm63 a) (hb : 0 < b) (hb2 : b < 2147483648) : iL a - iL a / iL b * iL b = iL (a.tmod b) := by
  have h1 : iL a / iL b = iL (a.tdiv b) := by
    obtain ⟨q1, q2⟩ := ha
    refine (Int64.ofInt_tdiv ?_ ?_ ?_ ?_).symm
    all_goals first | (show (-9223372036854775808 : Int) ≤ _; omega) | (show _ ≤ (9223372036854775807 : Int); omega)
  rw [h1, ← iL_mul, ← iL_sub]
  congr 1
  rw [Int.tmod_def, Int.mul_comm]
theorem sp_mod9 {z : Int} {p : Nat} {S : Sto} {Q : Int32 → Sto → Prop} (hp1 : S.1 353 1 = nI p) (hp : isP p) (hz : sm63 z) (h : Q (iI (z % p)) S) : wp_X9_modulo (iL z) S Q := by
  have hp8 := hp.pos
  have hpl : (nI p).toInt64 = iL (p : Int) := by rw [nI_iI, iI_l ⟨by omega, by omega⟩]
  unfold wp_X9_modulo q_X9_modulo_25
  rw [hp1, hpl]
  refine ⟨by rw [show (0 : Int64) = iL 0 from rfl, iL_eq ⟨by omega, by omega⟩ ⟨by omega, by omega⟩]; omega, fun x hx => ?_⟩
  rw [iL_trem hz (by omega) (by omega)] at hx
  have ht := Int.tmod_eq_emod (a := z) (b := (p : Int))
  have he := Int.emod_nonneg z (show (p : Int) ≠ 0 by omega)
  have he2 := Int.emod_lt_of_pos z (show (0 : Int) < p by omega)
  have hd : (p : Int) ∣ z ↔ z % p = 0 := Int.dvd_iff_emod_eq_zero
  have hts : sm63 (z.tmod (p : Int)) := by
    rw [ht]; split <;> constructor <;> omega
  rw [lg_cmp_ge, hx, show (0 : Int64) = iL 0 from rfl, iL_le ⟨by omega, by omega⟩ hts, ← iL_add, iL_i, iL_i]
  refine ⟨fun c => ?_, fun c => ?_⟩
  · have : z.tmod (p : Int) = z % p := by
      rw [ht] at c ⊢
      split
      · omega
      · rename_i q
        rw [if_neg q] at c
        omega
    rw [this]; exact h
  · have : z.tmod (p : Int) + p = z % p := by
      rw [ht] at c ⊢
      split
      · rename_i q
        rw [if_pos q] at c
        omega
      · omega
    rw [this]; exact h
theorem sp_inverse9 {p v : Nat} {S : Sto} {Q : Int32 → Sto → Prop} (hp1 : S.1 353 1 = nI p) (hp : isP p) (hv : 0 < v) (hv2 : v < p) (h : Q (nI (ivN p v)) S) : wp_X9_inverse (nI v) S Q := by
  obtain ⟨⟨h1, h2, h3⟩, h4⟩ := ivN_ok hp v hv2 hv
  have hp8 := hp.pos
  unfold wp_X9_inverse
  have key : ∀ k i, k + i = ivN p v → 0 < i → ∃ n, q_X9_inverse_2 (nI v) Q n (nI i) S := by
    intro k
    induction k with
    | zero =>
      intro i e hi
      refine ⟨1, ?_⟩
      unfold q_X9_inverse_2
      rw [hp1, pk_mul, pk_rem (a := i * v) (d := p) (by have := Nat.mul_le_mul (show i ≤ 8 by omega) (Nat.le_of_lt hv2); omega) (by omega) (by omega)]
      have e2 : i = ivN p v := by omega
      rw [e2, Nat.mul_comm, h3]
      exact ⟨nI_ne0 (by omega) (by omega), fun _ => h, fun c => absurd rfl c⟩
    | succ k ih =>
      intro i e hi
      obtain ⟨n, hn⟩ := ih (i + 1) (by omega) (by omega)
      refine ⟨n + 1, ?_⟩
      unfold q_X9_inverse_2
      rw [hp1, pk_mul, pk_rem (a := i * v) (d := p) (by have := Nat.mul_le_mul (show i ≤ 8 by omega) (Nat.le_of_lt hv2); omega) (by omega) (by omega)]
      have hm : i * v % p < p := Nat.mod_lt _ (by omega)
      refine ⟨nI_ne0 (by omega) (by omega), fun c => ?_, fun _ x hx => ?_⟩
      · rw [show (1 : Int32) = nI 1 from rfl, nI_eq (by omega) (by omega), Nat.mul_comm] at c
        exact absurd c (h4 i (by omega))
      · rw [hx, nI_1]; exact hn
  exact key (ivN p v - 1) 1 (by omega) (by omega)
/-! the reference: signs -/
def sgI (a b i : Nat) : Nat → Nat | 0 => 0 | k + 1 => sgI a b i k + (if a / 2 ^ i % 2 = 1 ∧ b / 2 ^ k % 2 = 1 then 1 else 0)
def sgO (a b : Nat) : Nat → Nat | 0 => 0 | i + 1 => sgO a b i + sgI a b i i
theorem sgO_N : ∀ a, a < 16 → ∀ b, b < 16 → sgO a b 4 < 7 ∧ (a &&& b = 0 → sg a b = if sgO a b 4 % 2 = 0 then 1 else -1) := by decide +kernel
theorem bt_N : ∀ a, a < 16 → ∀ i, i < 4 → (((nI a >>> (nI i &&& 31)) &&& 1) = 1 ↔ a / 2 ^ i % 2 = 1) := by decide +kernel
theorem an_N : ∀ a, a < 16 → ∀ b, b < 16 → ((nI a &&& nI b) = 0 ↔ a &&& b = 0) ∧ (nI a ||| nI b) = nI (a ||| b) ∧ a ||| b < 16 ∧ (¬ a &&& b = 0 → sg a b = 0) := by decide +kernel
theorem sgI_le (a b i : Nat) : ∀ k, sgI a b i k ≤ k
  | 0 => Nat.le_refl 0
  | k + 1 => by have := sgI_le a b i k; unfold sgI; split <;> omega
theorem sgO_le (a b : Nat) : ∀ i, sgO a b i ≤ i * i
  | 0 => by simp [sgO]
  | i + 1 => by have := sgO_le a b i; have := sgI_le a b i i; unfold sgO; rw [Nat.add_mul, Nat.mul_add]; omega
theorem sp_sign9 {a b : Nat} {S : Sto} {Q : Int32 → Sto → Prop} (ha : a < 16) (hb : b < 16) (h : Q (iI (sg a b)) S) : wp_X9_sign (nI a) (nI b) S Q := by
  obtain ⟨a1, a2, a3, a4⟩ := an_N a ha b hb
  unfold wp_X9_sign
  rw [a1]
  refine ⟨fun q => ?_, fun q => ?_⟩
  · refine loopE (σ := Int32) (fun m i x2 => q_X9_sign_12 (nI a) (nI b) Q m x2 (nI i) S) (fun i x2 => x2 = nI (sgO a b i)) 4 ?_ ?_ 0 0 (by omega) rfl
    · intro x2 hx
      unfold q_X9_sign_12 q_X9_sign_71
      obtain ⟨s1, s2⟩ := sgO_N a ha b hb
      refine ⟨fun _ => ?_, fun z => absurd (show (4 : Int32) ≤ nI 4 by decide) z⟩
      rw [hx, show (2 : Int32) = nI 2 from rfl, pk_rem (by omega) (by omega) (by omega), show (0 : Int32) = nI 0 from rfl, nI_eq (by omega) (by omega)]
      rw [s2 q] at h
      refine ⟨fun z => ?_, fun z => ?_⟩
      · rw [if_neg z] at h; exact h
      · rw [if_pos z] at h; exact h
    · intro i m x2 hi hx ih
      unfold q_X9_sign_12
      rw [show (4 : Int32) = nI 4 from rfl, nI_leI (by omega) (by omega)]
      refine ⟨fun z => by omega, fun _ => ?_⟩
      have hso := sgO_le a b i
      have : i * i ≤ 3 * 3 := Nat.mul_le_mul (by omega) (by omega)
      refine loopE (σ := Int32) (fun m2 k x2 => q_X9_sign_20 (nI a) (nI b) (fun y2 y3 S => q_X9_sign_12 (nI a) (nI b) Q m y2 y3 S) Q m2 x2 (nI i) (nI k) S) (fun k x2 => x2 = nI (sgO a b i + sgI a b i k)) i ?_ ?_ 0 x2 (by omega) hx
      · intro y hy
        unfold q_X9_sign_20
        refine ⟨fun _ x3 e3 => ?_, fun z => ?_⟩
        · rw [e3, nI_1]
          exact ih y hy
        · rw [nI_leI (by omega) (by omega)] at z; omega
      · intro k m2 y hk hy ih2
        unfold q_X9_sign_20 q_X9_sign_48
        rw [nI_leI (by omega) (by omega), bt_N a ha i hi, bt_N b hb k (by omega)]
        refine ⟨fun z => by omega, fun _ => ⟨fun z x4 e4 => ?_, fun z => ⟨fun z2 x4 e4 => ?_, fun z2 w hw x4 e4 => ?_⟩⟩⟩
        · rw [e4, nI_1]
          refine ih2 y ?_
          rw [hy, sgI, if_neg (fun c => z c.1)]; rfl
        · rw [e4, nI_1]
          refine ih2 y ?_
          rw [hy, sgI, if_neg (fun c => z2 c.2)]; rfl
        · rw [e4, nI_1]
          refine ih2 w ?_
          rw [hw, hy, nI_1, sgI, if_pos ⟨z, z2⟩]; rfl
  · rw [a4 q] at h; exact h
theorem sp_unit9 {t a : Nat} {S : Sto} {Q : Sto → Prop} (ht : ln t = 16) (ha : a < 16) (hQ : Q (setA S t (fl 16 (fun i => if i = a then 1 else 0) (S.1 t)))) : wp_X9_unit t (nI a) S Q := by
  unfold wp_X9_unit
  refine loopE (fun m i (T : Sto) => q_X9_unit_2 t (nI a) Q m (nI i) T) (fun i T => T = setA S t (fl i (fun i => if i = a then 1 else 0) (S.1 t))) 16 ?_ ?_ 0 S (by omega) (by rw [fl_0, setA_self])
  · intro T hT
    unfold q_X9_unit_2
    exact ⟨fun _ => hT ▸ hQ, fun z => absurd (show (16 : Int32) ≤ nI 16 by decide) z⟩
  · intro i m T hi hT ih
    unfold q_X9_unit_2 q_X9_unit_20
    rw [show (16 : Int32) = nI 16 from rfl, nI_leI (by omega) (by omega), nI_eq (by omega) (by omega), tn_nI (by omega), ht]
    have last : ∀ v : Int32, v = (if i = a then 1 else 0) → vp_in (nI i) 16 ∧ ∀ S_2 : Sto, S_2 = uA T t i v → ∀ x3_3 : Int32, x3_3 = nI i + 1 → q_X9_unit_2 t (nI a) Q m x3_3 S_2 := by
      intro v hv
      refine ⟨vp_nI (by omega) (by omega), fun S1 e1 x e => ?_⟩
      rw [e, nI_1]
      refine ih S1 ?_
      rw [e1, hT]
      exact fl_step' S t i _ _ hv
    exact ⟨fun z => by omega, fun _ => ⟨fun z => last 0 (by rw [if_neg z]), fun z => last 1 (by rw [if_pos z])⟩⟩
/-- the terms of a product -/
def tmE (X Y : Vc) (c a : Nat) : Int := if a &&& c = a then sg a (c ^^^ a) * X a * Y (c ^^^ a) else 0
theorem mulE_tm (W : Nat) (X Y : Vc) (c : Nat) : mulE W X Y c = sI (tmE X Y c) W := rfl
theorem or_xor : ∀ a, a < 16 → ∀ b, b < 16 → a &&& b = 0 → (a ||| b) ^^^ a = b ∧ a &&& (a ||| b) = a := by decide +kernel
theorem xor_and : ∀ a, a < 16 → ∀ c, c < 16 → a &&& c = a → a &&& (c ^^^ a) = 0 ∧ a ||| (c ^^^ a) = c := by decide +kernel
theorem emod_add_l (x y : Int) (p : Nat) : (x % p + y) % p = (x + y) % p := by
  rw [Int.add_emod, Int.emod_emod_of_dvd _ (Int.dvd_refl _), ← Int.add_emod]
theorem sp_multiply9 {n x i y k p : Nat} {X Y : Vc} {S : Sto} {Q : Sto → Prop} (hn : n ≤ 4) (hp1 : S.1 353 1 = nI p) (hp : isP p) (hW : S.1 353 3 = nI (2 ^ n)) (hx : i + 16 ≤ ln x) (hy : k + 16 ≤ ln y) (hlx : ln x ≤ 70000) (hly : ln y ≤ 70000) (hx3 : x ≠ 373) (hy3 : y ≠ 373)
    (hX : ∀ a, a < 2 ^ n → S.1 x (i + a) = iI (X a) ∧ 0 ≤ X a ∧ X a < p) (hY : ∀ a, a < 2 ^ n → S.1 y (k + a) = iI (Y a) ∧ 0 ≤ Y a ∧ Y a < p)
    (hQ : Q (setA S 373 (fl 16 (fun c => if c < 2 ^ n then iI (mulE (2 ^ n) X Y c % p) else 0) (S.1 373)))) : wp_X9_multiply x (nI i) y (nI k) S Q := by
  have hw := pow_n hn
  have hp8 := hp.pos
  have hl3 : ln 373 = 16 := by decide +kernel
  obtain ⟨M, hM⟩ : ∃ M : Nat → Nat → Int32, M = fun a c => if c < 2 ^ n then iI (sI (tmE X Y c) a % p) else 0 := ⟨_, rfl⟩
  have hMW : (fun c => if c < 2 ^ n then iI (mulE (2 ^ n) X Y c % p) else 0) = M (2 ^ n) := by rw [hM]; rfl
  rw [hMW] at hQ
  obtain ⟨B, hB⟩ : ∃ B : Nat → Nat → Nat → Int32, B = fun a b c => if c < 2 ^ n then iI ((sI (tmE X Y c) a + (if a &&& c = a ∧ c ^^^ a < b then tmE X Y c a else 0)) % p) else 0 := ⟨_, rfl⟩
  have hB0 : ∀ a, B a 0 = M a := fun a => by
    rw [hB, hM]; funext c
    have : ¬ (a &&& c = a ∧ c ^^^ a < 0) := by omega
    simp only [if_neg this, Int.add_zero]
  have hBW : ∀ a, a < 2 ^ n → B a (2 ^ n) = M (a + 1) := fun a ha => by
    rw [hB, hM]; funext c
    by_cases hc : c < 2 ^ n
    · simp only [if_pos hc]
      by_cases q : a &&& c = a
      · have := sub_le a (by omega) c (by omega) q
        rw [if_pos ⟨q, by omega⟩]; rfl
      · rw [if_neg (fun z => q z.1), sI]
        unfold tmE
        rw [if_neg q]
    · simp only [if_neg hc]
  unfold wp_X9_multiply
  have start : ∀ T, T = setA S 373 (fl 16 (M 0) (S.1 373)) → ∃ n_27, q_X9_multiply_27 x (nI i) y (nI k) Q n_27 0 T := by
    intro T hT
    refine loopE (fun m a (T : Sto) => q_X9_multiply_27 x (nI i) y (nI k) Q m (nI a) T) (fun a T => T = setA S 373 (fl 16 (M a) (S.1 373))) (2 ^ n) ?_ ?_ 0 T (Nat.zero_le _) hT
    · intro T hT
      unfold q_X9_multiply_27
      rw [hT, setA_ne _ _ (by decide), hW, nI_leI (by omega) (by omega)]
      exact ⟨fun _ => hQ, fun z => by omega⟩
    · intro a m T ha hT ih
      unfold q_X9_multiply_27
      have t3 : T.1 353 = S.1 353 := by rw [hT, setA_ne _ _ (by decide)]
      have tx : T.1 x = S.1 x := by rw [hT, setA_ne _ _ hx3]
      have hXa := hX a ha
      rw [t3, tx, hW, nI_leI (by omega) (by omega), nI_add, tn_nI (by omega), hXa.1]
      refine ⟨fun z => by omega, fun _ => ⟨vp_nI (by omega) hlx, fun z => ?_, fun z => ?_⟩⟩
      · refine loopE (fun m2 b (T : Sto) => q_X9_multiply_51 x (nI i) y (nI k) (fun y5 S => q_X9_multiply_27 x (nI i) y (nI k) Q m y5 S) Q m2 (nI a) (nI b) T) (fun b T => T = setA S 373 (fl 16 (B a b) (S.1 373))) (2 ^ n) ?_ ?_ 0 T (Nat.zero_le _) (by rw [hB0]; exact hT)
        · intro T hT
          unfold q_X9_multiply_51 q_X9_multiply_136
          rw [hT, setA_ne _ _ (by decide), hW, nI_leI (by omega) (by omega)]
          refine ⟨fun _ x5 e5 => ?_, fun z => by omega⟩
          rw [e5, nI_1]
          exact ih _ (by rw [hBW a ha])
        · intro b m2 T hb hT ih2
          unfold q_X9_multiply_51 q_X9_multiply_130
          have t3 : T.1 353 = S.1 353 := by rw [hT, setA_ne _ _ (by decide)]
          have tx : T.1 x = S.1 x := by rw [hT, setA_ne _ _ hx3]
          have ty : T.1 y = S.1 y := by rw [hT, setA_ne _ _ hy3]
          have t373 : T.1 373 = fl 16 (B a b) (S.1 373) := by rw [hT, setA_eq]
          have hYb := hY b hb
          obtain ⟨a1, a2, a3, a4⟩ := an_N a (by omega) b (by omega)
          rw [t3, hW, nI_leI (by omega) (by omega)]
          -- nothing comes to it
          have none : (a &&& b = 0 → Y b = 0) → B a (b + 1) = B a b := fun h0 => by
            rw [hB]; funext c
            by_cases hc : c < 2 ^ n
            · simp only [if_pos hc]
              by_cases q : a &&& c = a
              · by_cases e : c ^^^ a = b
                · obtain ⟨x1, x2⟩ := xor_and a (by omega) c (by omega) q
                  rw [if_pos ⟨q, by omega⟩, if_neg (by omega)]
                  unfold tmE
                  rw [if_pos q, e, h0 (by rw [← e]; exact x1), Int.mul_zero]
                · have e1 : (a &&& c = a ∧ c ^^^ a < b + 1) ↔ (a &&& c = a ∧ c ^^^ a < b) := by omega
                  simp only [e1]
              · rw [if_neg (fun z => q z.1), if_neg (fun z => q z.1)]
            · simp only [if_neg hc]
          refine ⟨fun z => by omega, fun _ => sp_sign9 (by omega) (by omega) ?_⟩
          have hs := sg_sm a (by omega) b (by omega)
          rw [nI_add, tn_nI (by omega), ty, hYb.1]
          refine ⟨fun z2 x6 e6 => ?_, fun z2 => ⟨vp_nI (by omega) hly, fun z3 x6 e6 => ?_, fun z3 => ?_⟩⟩
          · rw [e6, nI_1]
            refine ih2 T ?_
            rw [none (fun h0 => ?_)]
            · exact hT
            · rw [iI_eq0 ⟨by omega, by omega⟩] at z2
              have : ∀ a, a < 16 → ∀ b, b < 16 → a &&& b = 0 → ¬ sg a b = 0 := by decide +kernel
              exact absurd z2 (this a (by omega) b (by omega) h0)
          · rw [e6, nI_1]
            refine ih2 T ?_
            rw [none (fun h0 => ?_)]
            · exact hT
            · rw [iI_eq0 ⟨by omega, by omega⟩] at z3
              exact z3
          · have hab : a &&& b = 0 := by
              apply Decidable.of_not_not
              intro q
              rw [a4 q] at z2
              exact z2 rfl
            obtain ⟨o1, o2⟩ := or_xor a (by omega) b (by omega) hab
            have hor : a ||| b < 2 ^ n := Nat.or_lt_two_pow ha hb
            rw [a2, nI_add i a, tn_nI (by omega), tn_nI (by omega), tx, hXa.1, t373, fl_lt _ _ (by omega)]
            have hv : B a b (a ||| b) = iI (sI (tmE X Y (a ||| b)) a % p) := by
              rw [hB]; simp only [if_pos hor]
              rw [if_neg (by omega), Int.add_zero]
            have hm0 := Int.emod_nonneg (sI (tmE X Y (a ||| b)) a) (show (p : Int) ≠ 0 by omega)
            have hm1 := Int.emod_lt_of_pos (sI (tmE X Y (a ||| b)) a) (show (0 : Int) < p by omega)
            have hb2 := prod_bound hp8.2 hs hXa.2 hYb.2
            rw [hv, iI_l ⟨by omega, by omega⟩, iI_l ⟨by omega, by omega⟩, iI_l ⟨by omega, by omega⟩, iI_l ⟨by omega, by omega⟩, ← iL_mul, ← iL_mul, ← iL_add]
            refine ⟨vp_nI (by omega) (by omega), vp_nI (by omega) hlx, vp_nI (by omega) hly, sp_mod9 (by rw [t3]; exact hp1) hp ⟨by omega, by omega⟩ ⟨vp_nI (by omega) (by omega), fun S1 e1 x6 e6 => ?_⟩⟩
            rw [e6, nI_1]
            refine ih2 S1 ?_
            rw [e1, hT, uA_setA, setA_setA, setA_eq]
            congr 1
            funext c
            rw [emod_add_l]
            by_cases e : c = a ||| b
            · rw [e, upd_eq, fl_lt _ _ (by omega), hB]
              simp only [if_pos hor]
              rw [if_pos ⟨o2, by omega⟩]
              unfold tmE
              rw [if_pos o2, o1]
            · rw [upd_ne _ _ e]
              by_cases hc : c < 16
              · rw [fl_lt _ _ hc, fl_lt _ _ hc, hB]
                by_cases hc2 : c < 2 ^ n
                · simp only [if_pos hc2]
                  have e1 : (a &&& c = a ∧ c ^^^ a < b + 1) ↔ (a &&& c = a ∧ c ^^^ a < b) := by
                    constructor
                    · rintro ⟨q1, q2⟩
                      obtain ⟨x1, x2⟩ := xor_and a (by omega) c hc q1
                      refine ⟨q1, ?_⟩
                      rcases Nat.lt_or_ge (c ^^^ a) b with q | q
                      · exact q
                      · have : c ^^^ a = b := by omega
                        rw [this] at x2
                        exact absurd x2.symm e
                    · rintro ⟨q1, q2⟩; exact ⟨q1, by omega⟩
                  simp only [e1]
                · simp only [if_neg hc2]
              · rw [fl_ge _ _ (by omega), fl_ge _ _ (by omega)]
      · unfold q_X9_multiply_136
        intro x5 e5
        rw [e5, nI_1]
        refine ih T ?_
        rw [hT]
        congr 2
        rw [iI_eq0 ⟨by omega, by omega⟩] at z
        rw [hM]; funext c
        have : tmE X Y c a = 0 := by
          unfold tmE
          split
          · rw [z, Int.mul_zero, Int.zero_mul]
          · rfl
        simp only [sI, this, Int.add_zero]
  refine loopE (fun m c (T : Sto) => q_X9_multiply_3 x (nI i) y (nI k) Q m (nI c) T) (fun c T => T = setA S 373 (fl c (M 0) (S.1 373))) 16 ?_ ?_ 0 S (by omega) (by rw [fl_0, setA_self])
  · intro T hT
    unfold q_X9_multiply_3
    exact ⟨fun _ => start T hT, fun z => absurd (show (16 : Int32) ≤ nI 16 by decide) z⟩
  · intro c m T hc hT ih
    unfold q_X9_multiply_3
    rw [show (16 : Int32) = nI 16 from rfl, nI_leI (by omega) (by omega), tn_nI (by omega)]
    refine ⟨fun z => by omega, fun _ => ⟨vp_nI (by omega) (by omega), fun S1 e1 x5 e5 => ?_⟩⟩
    rw [e5, nI_1]
    refine ih S1 ?_
    rw [e1, hT]
    refine fl_step' S 373 c _ _ ?_
    rw [hM]
    simp only [sI, Int.zero_emod]
    split <;> rfl
