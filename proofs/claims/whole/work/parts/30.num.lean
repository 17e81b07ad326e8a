/-! numbers: Int32 as the image of Int -/
abbrev iI (z : Int) : Int32 := Int32.ofInt z
theorem iI_add (a b : Int) : iI (a + b) = iI a + iI b := Int32.ofInt_add a b
theorem iI_sub (a b : Int) : iI (a - b) = iI a - iI b := Int32.ofInt_sub a b
theorem iI_mul (a b : Int) : iI (a * b) = iI a * iI b := Int32.ofInt_mul a b
theorem iI_neg (a : Int) : iI (-a) = -iI a := Int32.ofInt_neg a
def sm31 (z : Int) : Prop := -2147483648 ≤ z ∧ z < 2147483648
theorem toInt_iI {z : Int} (h : sm31 z) : (iI z).toInt = z := Int32.toInt_ofInt_of_le h.1 h.2
theorem iI_toInt (x : Int32) : iI x.toInt = x := Int32.ofInt_toInt x
theorem sm_toInt (x : Int32) : sm31 x.toInt := ⟨x.le_toInt, x.toInt_lt⟩
theorem nI_iI (n : Nat) : nI n = iI (n : Int) := Int32.ofInt_eq_ofNat.symm
theorem iI_le {a b : Int} (ha : sm31 a) (hb : sm31 b) : iI a ≤ iI b ↔ a ≤ b := by
  rw [Int32.le_iff_toInt_le, toInt_iI ha, toInt_iI hb]
theorem iI_lt {a b : Int} (ha : sm31 a) (hb : sm31 b) : iI a < iI b ↔ a < b := by
  rw [Int32.lt_iff_toInt_lt, toInt_iI ha, toInt_iI hb]
theorem iI_eq {a b : Int} (ha : sm31 a) (hb : sm31 b) : iI a = iI b ↔ a = b := by
  rw [← Int32.toInt_inj, toInt_iI ha, toInt_iI hb]
theorem iI_eq0 {a : Int} (ha : sm31 a) : iI a = 0 ↔ a = 0 := iI_eq (b := 0) ha ⟨by decide, by decide⟩
theorem iI_rem {a b : Int} (ha : 0 ≤ a) (ha2 : a < 2147483648) (hb : 0 < b) (hb2 : b < 2147483648) : iI a - iI a / iI b * iI b = iI (a % b) := by
  have h1 : iI a / iI b = iI (a.tdiv b) := by
    refine (Int32.ofInt_tdiv ?_ ?_ ?_ ?_).symm
    all_goals first | (show (-2147483648 : Int) ≤ _; omega) | (show _ ≤ (2147483647 : Int); omega)
  rw [h1, ← iI_mul, ← iI_sub]
  congr 1
  rw [Int.tdiv_eq_ediv_of_nonneg ha, Int.emod_def, Int.mul_comm]
theorem iI_trem {a b : Int} (ha : sm31 a) (hb : 0 < b) (hb2 : b < 2147483648) : iI a - iI a / iI b * iI b = iI (a.tmod b) := by
  have h1 : iI a / iI b = iI (a.tdiv b) := by
    obtain ⟨q1, q2⟩ := ha
    refine (Int32.ofInt_tdiv ?_ ?_ ?_ ?_).symm
    all_goals first | (show (-2147483648 : Int) ≤ _; omega) | (show _ ≤ (2147483647 : Int); omega)
  rw [h1, ← iI_mul, ← iI_sub]
  congr 1
  rw [Int.tmod_def, Int.mul_comm]
theorem xor_sign (x y : Int32) : 0 ≤ x ^^^ y ↔ (x < 0 ↔ y < 0) := by
  have key : ∀ z : Int32, z < 0 ↔ z.toBitVec.msb = true := fun z => by
    rw [Int32.lt_iff_toInt_lt, BitVec.msb_eq_toInt]
    simp
  rw [show (0 ≤ x ^^^ y ↔ ¬ (x ^^^ y) < 0) from Int32.not_lt.symm, key, key, key, Int32.toBitVec_xor, BitVec.msb_xor]
  cases x.toBitVec.msb <;> cases y.toBitVec.msb <;> simp
/-! loops -/
theorem loopF {σ : Type} (q : Nat → Nat → σ → Prop) (I : Nat → σ → Prop) (W : Nat) (hend : ∀ S, I W S → q 1 W S) (hstep : ∀ i n S, i < W → I i S → (∀ S', I (i + 1) S' → q n (i + 1) S') → q (n + 1) i S) : ∀ k i S, k + i = W → I i S → q (k + 1) i S := by
  intro k
  induction k with
  | zero => intro i S e h; rw [show i = W by omega] at h ⊢; exact hend S h
  | succ k ih => intro i S e h; exact hstep i (k + 1) S (by omega) h (fun S' h' => ih (i + 1) S' (by omega) h')
theorem loopE {σ : Type} (q : Nat → Nat → σ → Prop) (I : Nat → σ → Prop) (W : Nat) (hend : ∀ S, I W S → q 1 W S) (hstep : ∀ i n S, i < W → I i S → (∀ S', I (i + 1) S' → q n (i + 1) S') → q (n + 1) i S) (i : Nat) (S : σ) (hi : i ≤ W) (h : I i S) : ∃ n, q n i S := ⟨W - i + 1, loopF q I W hend hstep (W - i) i S (by omega) h⟩
/-! the store: an array replaced -/
def setA (S : Sto) (t : Nat) (F : Nat → Int32) : Sto := (fun k => if k = t then F else S.1 k, S.2)
def fl (i : Nat) (F G : Nat → Int32) : Nat → Int32 := fun j => if j < i then F j else G j
theorem setA_eq (S : Sto) (t : Nat) (F : Nat → Int32) : (setA S t F).1 t = F := if_pos rfl
theorem setA_ne (S : Sto) {t k : Nat} (F : Nat → Int32) (h : k ≠ t) : (setA S t F).1 k = S.1 k := if_neg h
theorem setA_2 (S : Sto) (t : Nat) (F : Nat → Int32) : (setA S t F).2 = S.2 := rfl
theorem setA_self (S : Sto) (t : Nat) : setA S t (S.1 t) = S := by
  unfold setA
  refine Prod.ext (funext fun k => ?_) rfl
  by_cases h : k = t
  · subst h; simp
  · simp [h]
theorem setA_setA (S : Sto) (t : Nat) (F G : Nat → Int32) : setA (setA S t F) t G = setA S t G := by
  unfold setA
  refine Prod.ext (funext fun k => ?_) rfl
  by_cases h : k = t <;> simp [h]
theorem uA_setA (S : Sto) (t j : Nat) (x : Int32) : uA S t j x = setA S t (upd (S.1 t) j x) := rfl
theorem fl_0 (F G : Nat → Int32) : fl 0 F G = G := by funext j; simp [fl]
theorem fl_at {i : Nat} (F G : Nat → Int32) : fl i F G i = G i := by simp [fl]
theorem fl_lt {i j : Nat} (F G : Nat → Int32) (h : j < i) : fl i F G j = F j := if_pos h
theorem fl_ge {i j : Nat} (F G : Nat → Int32) (h : i ≤ j) : fl i F G j = G j := if_neg (by omega)
theorem fl_step (S : Sto) (t i : Nat) (F G : Nat → Int32) : uA (setA S t (fl i F G)) t i (F i) = setA S t (fl (i + 1) F G) := by
  rw [uA_setA, setA_setA, setA_eq]
  congr 1
  funext j
  simp only [upd, fl]
  by_cases h : j = i
  · subst h; simp
  · by_cases h2 : j < i
    · simp [h, h2, Nat.lt_succ_of_lt h2]
    · simp [h, h2, show ¬ j < i + 1 by omega]
theorem fl_step' (S : Sto) (t i : Nat) (F G : Nat → Int32) {x : Int32} (hx : x = F i) : uA (setA S t (fl i F G)) t i x = setA S t (fl (i + 1) F G) := by rw [hx]; exact fl_step S t i F G
theorem vp_nI {i N : Nat} (h : i < N) (hN : N ≤ 70000) : vp_in (nI i) N := vp_in_nI h (by omega)
theorem tn_nI {i : Nat} (h : i < 2147483648) : (nI i).toNatClampNeg = i := nI_clamp h
/-! Math -/
theorem sp_floorMod {v : Int} {P : Nat} {S : Sto} {Q : Int32 → Sto → Prop} (hv : sm31 v) (hP : 0 < P) (hP2 : P < 1000) (h : Q (iI (v % P)) S) : wp_J9_floorMod_7cf53 (iI v) (nI P) S Q := by
  have hPs : sm31 (P : Int) := ⟨by omega, by omega⟩
  unfold wp_J9_floorMod_7cf53 q_J9_floorMod_7cf53_18
  rw [nI_iI, iI_trem hv (by omega) (by omega)]
  refine ⟨by rw [iI_eq0 hPs]; omega, fun x hx => ?_⟩
  have hxs : (iI v < 0 ↔ v < 0) := iI_lt (b := 0) hv ⟨by decide, by decide⟩
  have hps : ¬ iI (P : Int) < 0 := by rw [show (0 : Int32) = iI 0 from rfl, iI_lt hPs ⟨by decide, by decide⟩]; omega
  have ht := Int.tmod_eq_emod (a := v) (b := (P : Int))
  have he := Int.emod_nonneg v (show (P : Int) ≠ 0 by omega)
  have he2 := Int.emod_lt_of_pos v (show (0 : Int) < P by omega)
  have hd : (P : Int) ∣ v ↔ v % P = 0 := Int.dvd_iff_emod_eq_zero
  subst hx
  rw [xor_sign, hxs]
  have hts : sm31 (v.tmod (P : Int)) := by
    rw [ht]; split <;> constructor <;> omega
  refine ⟨fun c => ?_, fun c => ⟨fun z => ?_, fun z => ?_⟩⟩
  · have : v.tmod (P : Int) = v % P := by
      rw [ht, if_pos (Or.inl (by simp [hps] at c; omega))]; omega
    rw [this]; exact h
  · rw [iI_eq0 hts] at z
    have : v % P = 0 := by
      rw [ht] at z
      split at z <;> omega
    rw [z, ← this]; exact h
  · rw [iI_eq0 hts] at z
    rw [← iI_add]
    have : v.tmod (P : Int) + P = v % P := by
      rw [ht] at z ⊢
      split
      · rename_i q
        rw [if_pos q] at z
        rcases q with q | q
        · simp [hps] at c; omega
        · rw [hd] at q; omega
      · simp
    rw [this]; exact h
theorem sp_modulo {v : Int} {P : Nat} {S : Sto} {Q : Int32 → Sto → Prop} (hv : sm31 v) (hP : 0 < P) (hP2 : P < 1000) (h : Q (iI (v % P)) S) : wp_X2_modulo (iI v) (nI P) S Q := by
  unfold wp_X2_modulo q_X2_modulo_13
  refine ⟨fun c => ?_, fun _ => sp_floorMod hv hP hP2 h⟩
  exact absurd c (nI_nle hP (by omega))
theorem sp_max {a b : Nat} {S : Sto} {Q : Int32 → Sto → Prop} (ha : a < 100000) (hb : b < 100000) (h : Q (nI (max a b)) S) : wp_J9_max_7cf53 (nI a) (nI b) S Q := by
  unfold wp_J9_max_7cf53 q_J9_max_7cf53_10
  rw [nI_ltI (by omega) (by omega)]
  refine ⟨fun c => ?_, fun c => ?_⟩
  · rw [show max a b = b by omega] at h; exact h
  · rw [show max a b = a by omega] at h; exact h
theorem sp_min {a b : Nat} {S : Sto} {Q : Int32 → Sto → Prop} (ha : a < 100000) (hb : b < 100000) (h : Q (nI (min a b)) S) : wp_J9_min_7cf53 (nI a) (nI b) S Q := by
  unfold wp_J9_min_7cf53 q_J9_min_7cf53_10
  rw [nI_ltI (by omega) (by omega)]
  refine ⟨fun c => ?_, fun c => ?_⟩
  · rw [show min a b = b by omega] at h; exact h
  · rw [show min a b = a by omega] at h; exact h
