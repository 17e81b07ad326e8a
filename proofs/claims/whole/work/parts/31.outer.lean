/-! the methods of Outer -/
def bcN (a : Nat) : Nat := a % 2 + a / 2 % 2 + a / 4 % 2 + a / 8 % 2 + a / 16 % 2 + a / 32 % 2
def bcf (p0 : Int32) : Int32 :=
  let x1 := p0 - (((p0.toUInt32 >>> ((1 : Int32).toUInt32 &&& Int32.toUInt32 31)).toInt32) &&& 1431655765)
  let x2 := (x1 &&& 858993459) + (((x1.toUInt32 >>> ((2 : Int32).toUInt32 &&& Int32.toUInt32 31)).toInt32) &&& 858993459)
  let x3 := (x2 + ((x2.toUInt32 >>> ((4 : Int32).toUInt32 &&& Int32.toUInt32 31)).toInt32)) &&& 252645135
  let x4 := x3 + ((x3.toUInt32 >>> ((8 : Int32).toUInt32 &&& Int32.toUInt32 31)).toInt32)
  let x5 := x4 + ((x4.toUInt32 >>> ((16 : Int32).toUInt32 &&& Int32.toUInt32 31)).toInt32)
  x5 &&& 63
theorem sp_bc0 {x : Int32} {S : Sto} {Q : Int32 → Sto → Prop} (h : Q (bcf x) S) : wp_J6_bitCount_0f7a4 x S Q := by
  unfold wp_J6_bitCount_0f7a4
  intro x1 e1 x2 e2 x3 e3 x4 e4 x5 e5
  subst e1 e2 e3 e4 e5
  exact h
theorem bcf_N : ∀ a, a < 64 → bcf (nI a) = nI (bcN a) := by decide +kernel
theorem sp_bitCount {a : Nat} {S : Sto} {Q : Int32 → Sto → Prop} (ha : a < 64) (h : Q (nI (bcN a)) S) : wp_J6_bitCount_0f7a4 (nI a) S Q := sp_bc0 (by rw [bcf_N a ha]; exact h)
/-- SIGN of the product of two places; 0: there is none -/
def sg (a b : Nat) : Int := if a &&& b = 0 then (if (bcN ((a >>> 1) &&& b) + bcN ((a >>> 2) &&& b) + bcN ((a >>> 3) &&& b)) % 2 = 0 then 1 else -1) else 0
def sgf (a b : Int32) : Int32 := if a &&& b = 0 then (if ((bcf ((a >>> (1 &&& 31)) &&& b) + bcf ((a >>> (2 &&& 31)) &&& b)) + bcf ((a >>> (3 &&& 31)) &&& b)) &&& 1 = 0 then 1 else -1) else 0
theorem sp_sg0 {a b : Int32} {S : Sto} {Q : Int32 → Sto → Prop} (h : Q (sgf a b) S) : wp_X2_sign a b S Q := by
  unfold wp_X2_sign q_X2_sign_46
  unfold sgf at h
  refine ⟨fun c => ?_, fun c => ?_⟩
  · rw [if_pos c] at h
    refine sp_bc0 (sp_bc0 (sp_bc0 ?_))
    intro x hx
    subst hx
    refine ⟨fun c2 => ?_, fun c2 => ?_⟩
    · rw [if_neg c2] at h; exact h
    · rw [if_pos c2] at h; exact h
  · rw [if_neg c] at h; exact h
theorem sgf_N : ∀ a, a < 16 → ∀ b, b < 64 → sgf (nI a) (nI b) = iI (sg a b) := by decide +kernel
theorem sp_sign {a b : Nat} {S : Sto} {Q : Int32 → Sto → Prop} (ha : a < 16) (hb : b < 64) (h : Q (iI (sg a b)) S) : wp_X2_sign (nI a) (nI b) S Q := sp_sg0 (by rw [sgf_N a ha b hb]; exact h)
theorem sg_sm : ∀ a, a < 16 → ∀ b, b < 64 → sg a b = 0 ∨ sg a b = 1 ∨ sg a b = -1 := by decide +kernel
/-! inverses -/
def isP (p : Nat) : Prop := p = 2 ∨ p = 3 ∨ p = 5 ∨ p = 7
theorem isP.pos {p : Nat} (h : isP p) : 1 < p ∧ p < 8 := by rcases h with h | h | h | h <;> omega
def ivN (p v : Nat) : Nat := if v * 1 % p = 1 then 1 else if v * 2 % p = 1 then 2 else if v * 3 % p = 1 then 3 else if v * 4 % p = 1 then 4 else if v * 5 % p = 1 then 5 else 6
theorem ivN_7 : ∀ v, v < 7 → 0 < v → (0 < ivN 7 v ∧ ivN 7 v < 7 ∧ v * ivN 7 v % 7 = 1) ∧ ∀ j, j < ivN 7 v → ¬ v * j % 7 = 1 := by decide +kernel
theorem ivN_5 : ∀ v, v < 5 → 0 < v → (0 < ivN 5 v ∧ ivN 5 v < 5 ∧ v * ivN 5 v % 5 = 1) ∧ ∀ j, j < ivN 5 v → ¬ v * j % 5 = 1 := by decide +kernel
theorem ivN_3 : ∀ v, v < 3 → 0 < v → (0 < ivN 3 v ∧ ivN 3 v < 3 ∧ v * ivN 3 v % 3 = 1) ∧ ∀ j, j < ivN 3 v → ¬ v * j % 3 = 1 := by decide +kernel
theorem ivN_2 : ∀ v, v < 2 → 0 < v → (0 < ivN 2 v ∧ ivN 2 v < 2 ∧ v * ivN 2 v % 2 = 1) ∧ ∀ j, j < ivN 2 v → ¬ v * j % 2 = 1 := by decide +kernel
theorem ivN_ok {p : Nat} (h : isP p) (v : Nat) (hv : v < p) (h0 : 0 < v) : (0 < ivN p v ∧ ivN p v < p ∧ v * ivN p v % p = 1) ∧ ∀ j, j < ivN p v → ¬ v * j % p = 1 := by
  rcases h with rfl | rfl | rfl | rfl
  · exact ivN_2 v hv h0
  · exact ivN_3 v hv h0
  · exact ivN_5 v hv h0
  · exact ivN_7 v hv h0
theorem sp_inverse {p v : Nat} {S : Sto} {Q : Int32 → Sto → Prop} (hp : isP p) (hv : 0 < v) (hv2 : v < p) (h : Q (nI (ivN p v)) S) : wp_X2_inverse (nI v) (nI p) S Q := by
  obtain ⟨⟨h1, h2, h3⟩, h4⟩ := ivN_ok hp v hv2 hv
  have hp8 := hp.pos
  unfold wp_X2_inverse
  have key : ∀ k i, k + i = ivN p v → 0 < i → ∃ n, q_X2_inverse_2 (nI v) (nI p) Q n (nI i) S := by
    intro k
    induction k with
    | zero =>
      intro i e hi
      refine ⟨1, ?_⟩
      unfold q_X2_inverse_2
      rw [nI_leI (by omega) (by omega), pk_mul, pk_rem (a := v * i) (d := p) (by have := Nat.mul_le_mul (Nat.le_of_lt hv2) (show i ≤ 8 by omega); omega) (by omega) (by omega)]
      have e2 : i = ivN p v := by omega
      rw [e2, h3]
      refine ⟨fun c => by omega, fun _ => ⟨fun c => nI_ne0 (by omega) (by omega) c, fun c => absurd rfl c, fun _ => h⟩⟩
    | succ k ih =>
      intro i e hi
      obtain ⟨n, hn⟩ := ih (i + 1) (by omega) (by omega)
      refine ⟨n + 1, ?_⟩
      unfold q_X2_inverse_2
      rw [nI_leI (by omega) (by omega), pk_mul, pk_rem (a := v * i) (d := p) (by have := Nat.mul_le_mul (Nat.le_of_lt hv2) (show i ≤ 8 by omega); omega) (by omega) (by omega)]
      have hm : v * i % p < p := Nat.mod_lt _ (by omega)
      refine ⟨fun c => by omega, fun _ => ⟨fun c => nI_ne0 (by omega) (by omega) c, fun _ x hx => ?_, fun c => ?_⟩⟩
      · rw [hx, nI_1]; exact hn
      · rw [show (1 : Int32) = nI 1 from rfl, nI_eq (by omega) (by omega)] at c
        exact absurd c (h4 i (by omega))
  exact key (ivN p v - 1) 1 (by omega) (by omega)
/-! places in their order -/
def pbN (i : Nat) : Nat := ([0, 1, 2, 4, 8, 3, 5, 6, 9, 10, 12, 7, 11, 13, 14, 15] : List Nat).getD i i
/-- the i-th place in the order of a kind -/
def plc (K i : Nat) : Nat := if K = 1 then (if i < 16 then pbN i else i) else i
/-- where a place stands in the order of a kind -/
def psN (a : Nat) : Nat := ([0, 1, 2, 5, 3, 6, 7, 11, 4, 8, 9, 12, 10, 13, 14, 15] : List Nat).getD a a
def ps (K a : Nat) : Nat := if K = 1 then (if a < 16 then psN a else a) else a
theorem pbd_N : ∀ i, i < 16 → pbd i = nI (pbN i) := by decide +kernel
theorem pb_ps : ∀ i, i < 16 → pbN i < 16 ∧ psN i < 16 ∧ psN (pbN i) = i ∧ pbN (psN i) = i := by decide +kernel
theorem ps_plc (K i : Nat) : ps K (plc K i) = i := by
  unfold ps plc
  by_cases h : K = 1
  · by_cases h2 : i < 16
    · simp [h, h2, (pb_ps i h2).1, (pb_ps i h2).2.2.1]
    · simp [h, h2]
  · simp [h]
theorem plc_ps (K a : Nat) : plc K (ps K a) = a := by
  unfold ps plc
  by_cases h : K = 1
  · by_cases h2 : a < 16
    · simp [h, h2, (pb_ps a h2).2.1, (pb_ps a h2).2.2.2]
    · simp [h, h2]
  · simp [h]
theorem ps_inj {K a b : Nat} (h : ps K a = ps K b) : a = b := by rw [← plc_ps K a, h, plc_ps]
theorem plc_lt {K i M : Nat} (h : i < M) (hM : 16 ≤ M) : plc K i < M := by
  unfold plc
  by_cases h1 : K = 1
  · by_cases h2 : i < 16
    · have := (pb_ps i h2).1; simp [h1, h2]; omega
    · simp [h1, h2]; omega
  · simp [h1]; omega
theorem ps_lt {K a M : Nat} (h : a < M) (hM : 16 ≤ M) : ps K a < M := by
  unfold ps
  by_cases h1 : K = 1
  · by_cases h2 : a < 16
    · have := (pb_ps a h2).2.1; simp [h1, h2]; omega
    · simp [h1, h2]; omega
  · simp [h1]; omega
theorem sp_placeInOrder {i K : Nat} {S : Sto} {Q : Int32 → Sto → Prop} (hi : i < 70000) (hK : K < 2) (h : Q (nI (plc K i)) S) : wp_X2_placeInOrder (nI i) (nI K) S Q := by
  unfold wp_X2_placeInOrder q_X2_placeInOrder_23 q_X2_placeInOrder_24
  rw [show (1 : Int32) = nI 1 from rfl, nI_eq (by omega) (by omega), show (16 : Int32) = nI 16 from rfl, nI_leI (by omega) (by omega), tn_nI (by omega)]
  refine ⟨fun c => ?_, fun c => ⟨fun c2 => ?_, fun _ => ⟨fun c3 => ?_, fun c3 => ⟨vp_nI (by omega) (by omega), ?_⟩⟩⟩⟩
  · rw [plc, if_neg c] at h; exact h
  · exact absurd c2 (nI_pos (by omega))
  · rw [plc, if_pos c, if_neg (by omega)] at h; exact h
  · rw [plc, if_pos c, if_pos (by omega)] at h; rw [pbd_N i (by omega)]; exact h
theorem sp_leadIn {x W K : Nat} {S : Sto} {Q : Int32 → Sto → Prop} (hW : W ≤ 64) (hx : W ≤ ln x) (hK : K < 2) (hl : ln x ≤ 70000)
    (h1 : ∀ l, l < W → ¬ S.1 x l = 0 → (∀ j, j < W → ps K j < ps K l → S.1 x j = 0) → Q (nI l) S) (h2 : (∀ j, j < W → S.1 x j = 0) → Q (-1) S) : wp_X2_leadIn x (nI W) (nI K) S Q := by
  unfold wp_X2_leadIn
  have key := loopE (σ := Unit) (fun n i _ => q_X2_leadIn_2 x (nI W) (nI K) Q n (nI i) S) (fun i _ => ∀ j, j < W → ps K j < i → S.1 x j = 0) (max W 16) ?_ ?_ 0 () (by omega) (fun j _ h => by omega)
  · exact key
  · intro _ hI
    unfold q_X2_leadIn_2
    rw [nI_ltI (by omega) (by omega), show (16 : Int32) = nI 16 from rfl, nI_leI (by omega) (by omega)]
    refine ⟨fun c => by omega, fun _ => ⟨fun _ => h2 (fun j hj => hI j hj (ps_lt (by omega) (by omega))), fun c => by omega⟩⟩
  · intro i n _ hi hI ih
    have body : q_X2_leadIn_13 x (nI W) (nI K) (fun y3 S => q_X2_leadIn_2 x (nI W) (nI K) Q n y3 S) Q (nI i) S := by
      have hpl : plc K i < max W 16 := plc_lt hi (by omega)
      have next : (plc K i < W → S.1 x (plc K i) = 0) → q_X2_leadIn_36 x (nI W) (nI K) (fun y3 S => q_X2_leadIn_2 x (nI W) (nI K) Q n y3 S) Q (nI i) S := by
        intro hz y hy
        rw [hy, nI_1]
        refine ih () (fun j hj hps => ?_)
        rcases Nat.lt_or_ge (ps K j) i with q | q
        · exact hI j hj q
        · have e : ps K j = i := by omega
          have e2 : j = plc K i := by rw [← e, plc_ps]
          rw [e2] at hj ⊢
          exact hz hj
      unfold q_X2_leadIn_13
      refine sp_placeInOrder (by omega) hK ?_
      rw [nI_leI (by omega) (by omega), tn_nI (by omega)]
      refine ⟨fun c => next (fun c2 => by omega), fun c => ⟨vp_nI (by omega) hl, fun z => next (fun _ => z), fun z => ?_⟩⟩
      refine h1 _ (by omega) z (fun j hj hps => hI j hj ?_)
      rw [ps_plc] at hps
      exact hps
    unfold q_X2_leadIn_2
    exact ⟨fun _ => body, fun _ => ⟨fun c => by rw [show (16 : Int32) = nI 16 from rfl, nI_leI (by omega) (by omega)] at c; rename_i c2; rw [nI_ltI (by omega) (by omega)] at c2; omega, fun _ => body⟩⟩
/-! copies and counts -/
theorem sp_copy {f t W : Nat} {S : Sto} {Q : Sto → Prop} (hf : W ≤ ln f) (ht : W ≤ ln t) (hfl : ln f ≤ 70000) (htl : ln t ≤ 70000) (hne : f ≠ t) (h : Q (setA S t (fl W (S.1 f) (S.1 t)))) : wp_X2_copy f t (nI W) S Q := by
  unfold wp_X2_copy
  have key := loopE (fun n i (T : Sto) => q_X2_copy_2 f t (nI W) Q n (nI i) T) (fun i T => T = setA S t (fl i (S.1 f) (S.1 t))) W ?_ ?_ 0 S (by omega) (by rw [fl_0, setA_self])
  · exact key
  · intro T hT
    unfold q_X2_copy_2 q_X2_copy_31
    rw [nI_leI (by omega) (by omega)]
    exact ⟨fun _ => hT ▸ h, fun c => by omega⟩
  · intro i n T hi hT ih
    unfold q_X2_copy_2
    rw [nI_leI (by omega) (by omega), nI_leI (by omega) (by omega), nI_leI (by omega) (by omega), tn_nI (by omega)]
    refine ⟨fun c => by omega, fun _ => ⟨fun c => by omega, fun _ => ⟨fun c => by omega, fun _ => ⟨vp_nI (by omega) hfl, vp_nI (by omega) htl, fun S1 e1 y ey => ?_⟩⟩⟩⟩
    rw [ey, nI_1]
    refine ih S1 ?_
    rw [e1, hT, setA_ne _ _ hne]
    exact fl_step S t i (S.1 f) (S.1 t)
def cz (f : Nat → Int32) : Nat → Nat | 0 => 0 | n + 1 => cz f n + (if f n = 0 then 0 else 1)
theorem cz_le (f : Nat → Int32) : ∀ n, cz f n ≤ n
  | 0 => Nat.le_refl 0
  | n + 1 => by have := cz_le f n; unfold cz; split <;> omega
theorem cz_cong {f g : Nat → Int32} : ∀ {n : Nat}, (∀ i, i < n → f i = g i) → cz f n = cz g n
  | 0, _ => rfl
  | n + 1, h => by unfold cz; rw [cz_cong (fun i hi => h i (by omega)), h n (by omega)]
theorem cz_zero {f : Nat → Int32} : ∀ {n : Nat}, cz f n = 0 ↔ ∀ i, i < n → f i = 0
  | 0 => by simp [cz]
  | n + 1 => by
    unfold cz
    constructor
    · intro h i hi
      by_cases e : f n = 0
      · rcases Nat.lt_or_ge i n with q | q
        · exact (cz_zero.mp (by omega)) i q
        · rw [show i = n by omega]; exact e
      · simp [e] at h
    · intro h
      rw [if_pos (h n (by omega)), cz_zero.mpr (fun i hi => h i (by omega))]
theorem sp_nonZeros {x W : Nat} {S : Sto} {Q : Int32 → Sto → Prop} (hx : W ≤ ln x) (hl : ln x ≤ 70000) (h : Q (nI (cz (S.1 x) W)) S) : wp_X2_nonZeros x (nI W) S Q := by
  unfold wp_X2_nonZeros
  have key := loopE (fun n i (c : Int32) => q_X2_nonZeros_4 x (nI W) Q n c (nI i) S) (fun i c => c = nI (cz (S.1 x) i)) W ?_ ?_ 0 0 (by omega) rfl
  · exact key
  · intro c hc
    unfold q_X2_nonZeros_4 q_X2_nonZeros_35
    rw [nI_leI (by omega) (by omega)]
    exact ⟨fun _ => hc ▸ h, fun c => by omega⟩
  · intro i n c hi hc ih
    unfold q_X2_nonZeros_4 q_X2_nonZeros_27
    rw [nI_leI (by omega) (by omega), nI_leI (by omega) (by omega), tn_nI (by omega)]
    have hz := cz_le (S.1 x) i
    refine ⟨fun c => by omega, fun _ => ⟨fun c => by omega, fun _ => ⟨vp_nI (by omega) hl, fun z x2 e2 x3 e3 => ?_, fun z x2 e2 x3 e3 => ?_⟩⟩⟩
    · rw [e3, nI_1]
      refine ih x2 ?_
      rw [e2, hc, show (0 : Int32) = nI 0 from rfl, nI_add, cz, if_pos z]
    · rw [e3, nI_1]
      refine ih x2 ?_
      rw [e2, hc, nI_1, cz, if_neg z]
