/-! a term worked out: the reference -/
def bk9 (p1 : Int32) (Q : Int32 → Sto → Prop) (v pl : Nat) (s : Int) (S : Sto) : Prop := vp_in (nI pl) 16 ∧ ((p1 = 0 → q_X9_adds_148 p1 Q (nI v) 1 (nI pl) (S.1 372 (nI pl).toNatClampNeg).toInt64 (iI s) S) ∧ (¬ p1 = 0 → q_X9_adds_148 p1 Q (nI v) 1 (nI pl) (S.1 372 (nI pl).toNatClampNeg).toInt64 (-iI s) S))
theorem sp_lf9 {tl n v : Nat} {c : Nat → Nat} {p1 : Int32} {Q : Int32 → Sto → Prop} (n4 : n ≤ 4) : ∀ k a pl s w S, PR S tl c a → S.1 353 3 = nI (2 ^ n) → pl < 16 → s3 s → ¬ lt' tl c (a + run (lt' tl c) k a) → (¬ (w = true ∧ (lf tl c n k a pl s).1 = true) → Q 0 (uA S 353 15 (nI (a + run (lt' tl c) k a)))) → (w = true → (lf tl c n k a pl s).1 = true → bk9 p1 Q v (lf tl c n k a pl s).2.1 (lf tl c n k a pl s).2.2 (uA S 353 15 (nI (a + run (lt' tl c) k a)))) → q_X9_adds_54 p1 Q (k + 1) (nI v) (nI pl) (iI s) (bI w) S := by
  have fin : ∀ k a pl s (w : Bool) S, PR S tl c a → ¬ lt' tl c a → (¬ w = true → Q 0 S) → (w = true → bk9 p1 Q v pl s S) → q_X9_adds_54 p1 Q (k + 1) (nI v) (nI pl) (iI s) (bI w) S := by
    intro k a pl s w S P d h0 h1
    unfold q_X9_adds_54 q_X9_adds_157
    refine sp_isLetter P (fun e => absurd e d) (fun _ => ⟨fun _ => ?_, fun z => absurd rfl z⟩)
    cases w with
    | false => exact ⟨fun _ => ⟨narb0, h0 (by decide)⟩, fun z => absurd rfl z⟩
    | true => exact ⟨fun z => absurd z (by decide), fun _ => h1 rfl⟩
  intro k
  induction k with
  | zero =>
    intro a pl s w S P h3 hpl hs hd h0 h1
    rw [show a + run (lt' tl c) 0 a = a from rfl, uA_same S 353 15 P.2.2.1] at h0 h1
    exact fin 0 a pl s w S P hd (fun q => h0 (fun z => q z.1)) (fun q => h1 q rfl)
  | succ k ih =>
    intro a pl s w S P h3 hpl hs hd h0 h1
    by_cases d : lt' tl c a
    · have l4 : c a - 97 < 4 := by have := d.2; omega
      have p42 := p4 l4
      have er : a + 1 + run (lt' tl c) k (a + 1) = a + run (lt' tl c) (k + 1) a := by rw [run_t d]; omega
      have la := d.1
      have t1 := P.1.1
      rw [← er] at hd h0 h1
      unfold q_X9_adds_54
      refine sp_isLetter P (fun _ => ⟨fun z => absurd z (by decide), fun _ S7 e7 => ?_⟩) (fun e => absurd d e)
      rw [P.2.2.1, nI_1] at e7
      rw [P.2.2.1]
      refine ⟨vi (by omega) (by omega), fun x6 e6 => ?_⟩
      have PS := P.go (show a + 1 ≤ tl by omega)
      rw [← e7] at PS
      have s3e : S7.1 353 3 = nI (2 ^ n) := by rw [e7, uA_eq, upd_ne _ _ (by decide)]; exact h3
      have sx : x6 = nI (2 ^ (c a - 97)) := by
        rw [e6, tn_nI (by omega), e7, uA_ne (by decide), P.2.2.2 a la, show (97 : Int32) = nI 97 from rfl, nI_sub d.2.1, shl_n _ (by omega)]
      have pn := (pow_n n4).1
      rw [s3e, sx, nI_ltI (by omega) (by omega), Nat.pow_lt_pow_iff_right (by omega)]
      refine ⟨fun hl => ?_, fun hl => ?_⟩
      · refine sp_sign9 hpl p42.1 (fun x4 e4 x3 e3 => ?_)
        have an := an_N pl hpl _ p42.1
        rw [e4, e3, ← iI_mul, an.2.1]
        rw [lf_t d hl] at h0 h1
        exact ih (a + 1) _ _ w S7 PS s3e an.2.2.1 (hs.mul (sg_sm pl hpl _ p42.2)) hd (fun q => by rw [e7, uA_uA]; exact h0 q) (fun q q2 => by rw [e7, uA_uA]; exact h1 q q2)
      · rw [lf_f d hl] at h0
        exact ih (a + 1) pl s false S7 PS s3e hpl hs hd (fun q => by rw [e7, uA_uA]; exact h0 (fun z => absurd z.2 Bool.false_ne_true)) (fun q => absurd q (by decide))
    · rw [lf_e d] at h0 h1
      rw [run_f d, Nat.add_zero, uA_same S 353 15 P.2.2.1] at h0 h1
      exact fin (k + 1) a pl s w S P d (fun q => h0 (fun z => q z.1)) (fun q => h1 q rfl)
def fI (less : Bool) : Int := if less then -1 else 1
theorem sp_adds {tl a n p : Nat} {c : Nat → Nat} {less : Bool} {z : Vc} {S : Sto} {Q : Int32 → Sto → Prop} (P : PR S tl c a) (n4 : n ≤ 4) (hp : isP p) (h3 : S.1 353 3 = nI (2 ^ n)) (hp1 : S.1 353 1 = nI p) (hz : ∀ i, i < 16 → S.1 372 i = iI (z i) ∧ 0 ≤ z i ∧ z i < p) (nd : ¬ dg tl c (te tl c a)) (nl : ¬ lt' tl c (te tl c a)) (h0 : ¬ (Lf tl c n a).1 = true → Q 0 (uA S 353 15 (nI (te tl c a)))) (h1 : (Lf tl c n a).1 = true → Q 1 (uA (uA S 353 15 (nI (te tl c a))) 372 (Lf tl c n a).2.1 (iI ((z (Lf tl c n a).2.1 + fI less * tv tl c a * (Lf tl c n a).2.2) % p)))) : wp_X9_adds (bI less) S Q := by
  have hpp := hp.pos
  have t1 := P.1.1
  have pn := pow_n n4
  have lo := lf_ok (tl := tl) (c := c) n4 4 (a + run (dg tl c) 2 a) 0 1 (by omega) (Or.inr (Or.inl rfl))
  have lr : a + run (dg tl c) 2 a ≤ tl := run_tl (fun _ q => q.1) 2 a P.1.2.1
  have main : q_X9_adds_46 (bI less) Q (nI (tv tl c a)) (uA S 353 15 (nI (a + run (dg tl c) 2 a))) := by
    unfold q_X9_adds_46
    refine ⟨5, sp_lf9 (n := n) n4 4 (a + run (dg tl c) 2 a) 0 1 true _ (P.go lr) (by rw [uA_eq, upd_ne _ _ (by decide)]; exact h3) (by omega) (Or.inr (Or.inl rfl)) nl (fun q => ?_) (fun _ q => ?_)⟩
    · rw [uA_uA]
      exact h0 (fun e => q ⟨rfl, e⟩)
    · rw [uA_uA, show a + run (dg tl c) 2 a + run (lt' tl c) 4 (a + run (dg tl c) 2 a) = te tl c a from rfl, show lf tl c n 4 (a + run (dg tl c) 2 a) 0 1 = Lf tl c n a from rfl]
      have lo1 : (Lf tl c n a).2.1 < 2 ^ n := lo.1
      have lo2 : s3 (Lf tl c n a).2.2 := lo.2
      obtain ⟨z1, z2, z3⟩ := hz (Lf tl c n a).2.1 (by omega)
      have tl9 := tv_le tl c a
      have g : q_X9_adds_148 (bI less) Q (nI (tv tl c a)) 1 (nI (Lf tl c n a).2.1) ((uA S 353 15 (nI (te tl c a))).1 372 (nI (Lf tl c n a).2.1).toNatClampNeg).toInt64 (iI (fI less * (Lf tl c n a).2.2)) (uA S 353 15 (nI (te tl c a))) := by
        unfold q_X9_adds_148 q_X9_adds_157
        have m1 : sm31 (fI less * (Lf tl c n a).2.2) := by
          unfold s3 at lo2; unfold sm31 fI
          cases less <;> rcases lo2 with e | e | e <;> rw [e] <;> decide
        rw [tn_nI (by omega), uA_ne (show 372 ≠ 353 by decide), z1, iI_l ⟨by omega, by omega⟩, iI_l m1, nI_iI (tv tl c a), iI_l ⟨by omega, by omega⟩, ← iL_mul, ← iL_add]
        have e1 : fI less * (Lf tl c n a).2.2 * (tv tl c a : Int) = fI less * (tv tl c a : Int) * (Lf tl c n a).2.2 := by
          rw [Int.mul_assoc, Int.mul_comm (Lf tl c n a).2.2, ← Int.mul_assoc]
        rw [e1]
        refine sp_mod9 (p := p) (by rw [uA_eq, upd_ne _ _ (by decide)]; exact hp1) hp (sm31_63 (fs_sm hp ⟨z2, z3⟩ (by unfold fI; cases less <;> decide) tl9 lo2).1) ⟨vi (by omega) (by omega), fun S4 e4 => ⟨narb1, ?_⟩⟩
        rw [e4]
        exact h1 q
      refine ⟨vi (by omega) (by omega), fun e => ?_, fun e => ?_⟩
      · cases less with
        | true => exact absurd e (by decide)
        | false =>
          have : fI false * (Lf tl c n a).2.2 = (Lf tl c n a).2.2 := Int.one_mul _
          rw [this] at g; exact g
      · cases less with
        | false => exact absurd rfl e
        | true =>
          have : fI true * (Lf tl c n a).2.2 = -(Lf tl c n a).2.2 := by show -1 * _ = _; omega
          rw [this, iI_neg] at g; exact g
  unfold wp_X9_adds
  have k15 : ∀ k, (uA S 353 15 (nI k)).1 353 15 = nI k := fun k => by rw [uA_eq, upd_eq]
  have z48 : (48 : Int32) = nI 48 := rfl
  refine sp_isDigit P (fun d => ⟨fun z => absurd z (by decide), fun _ => ?_⟩) (fun d => ⟨fun _ => ?_, fun z => absurd rfl z⟩)
  · have d2 := d.2
    have la := d.1
    by_cases e : dg tl c (a + 1)
    · have e2 := e.2
      have lb := e.1
      have et : tv tl c a = 10 * (c a - 48) + (c (a + 1) - 48) := by
        unfold tv; rw [isB_if d, isB_if e]
      have er : run (dg tl c) 2 a = 2 := by rw [run_t d, run_t e]; rfl
      have f : ¬ dg tl c (a + 1 + 1) := by
        intro f
        have : ¬ lt' tl c (a + 2) := fun q => by have h5 : c (a + 2) ≤ 57 := f.2.2; have := q.2; omega
        have : te tl c a = a + 2 := by unfold te; rw [er, run_f this]
        rw [this] at nd
        exact nd f
      rw [et, er] at main
      refine ⟨3, ?_⟩
      unfold q_X9_adds_11
      refine sp_isDigit P (fun _ => ⟨fun z => absurd z (by decide), fun _ S4 e4 => ?_⟩) (fun q => absurd d q)
      rw [P.2.2.1, nI_1] at e4
      rw [P.2.2.1]
      refine ⟨vi (by omega) (by omega), fun x ex => ?_⟩
      rw [tn_nI (by omega), e4, uA_ne (by decide), P.2.2.2 a la] at ex
      unfold q_X9_adds_11
      have P1 := P.go (show a + 1 ≤ tl by omega)
      rw [← e4] at P1
      refine sp_isDigit P1 (fun _ => ⟨fun z => absurd z (by decide), fun _ S5 e5 => ?_⟩) (fun q => absurd e q)
      rw [P1.2.2.1, nI_1, e4, uA_uA] at e5
      rw [P1.2.2.1]
      refine ⟨vi (by omega) (by omega), fun y ey => ?_⟩
      rw [tn_nI (by omega), e5, uA_ne (by decide), P.2.2.2 _ lb] at ey
      unfold q_X9_adds_11
      have P2 := P.go (show a + 1 + 1 ≤ tl by omega)
      rw [← e5] at P2
      refine sp_isDigit P2 (fun q => absurd q f) (fun _ => ⟨fun _ => ?_, fun z => absurd rfl z⟩)
      have : y = nI (10 * (c a - 48) + (c (a + 1) - 48)) := by
        rw [ey, ex, show (10 : Int32) * 0 = nI 0 from rfl, nI_add, z48, nI_sub (by omega), show (10 : Int32) = nI 10 from rfl, pk_mul, nI_add, nI_sub (by omega)]
        congr 1; omega
      rw [this, e5]
      exact main
    · have et : tv tl c a = c a - 48 := by
        unfold tv; rw [isB_if d, isB_el e]
      have er : run (dg tl c) 2 a = 1 := by rw [run_t d, run_f e]
      rw [et, er] at main
      refine ⟨2, ?_⟩
      unfold q_X9_adds_11
      refine sp_isDigit P (fun _ => ⟨fun z => absurd z (by decide), fun _ S4 e4 => ?_⟩) (fun q => absurd d q)
      rw [P.2.2.1, nI_1] at e4
      rw [P.2.2.1]
      refine ⟨vi (by omega) (by omega), fun x ex => ?_⟩
      rw [tn_nI (by omega), e4, uA_ne (by decide), P.2.2.2 a la] at ex
      unfold q_X9_adds_11
      have P1 := P.go (show a + 1 ≤ tl by omega)
      rw [← e4] at P1
      refine sp_isDigit P1 (fun q => absurd q e) (fun _ => ⟨fun _ => ?_, fun z => absurd rfl z⟩)
      have : x = nI (c a - 48) := by
        rw [ex, show (10 : Int32) * 0 = nI 0 from rfl, nI_add, z48, nI_sub (by omega)]
        congr 1; omega
      rw [this, e4]
      exact main
  · have et : tv tl c a = 1 := by
      unfold tv; rw [isB_el d]
    have er : run (dg tl c) 2 a = 0 := run_f d
    rw [et, er, Nat.add_zero, uA_same S 353 15 P.2.2.1] at main
    exact main
