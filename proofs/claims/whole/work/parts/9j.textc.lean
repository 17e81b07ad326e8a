/-! a term worked out: the class -/
def bI (b : Bool) : Int32 := if b then 1 else 0
theorem bI_n (b : Bool) : narrow .boolean (.int (bI b)) = .int (bI b) := by
  cases b
  · exact narb0
  · exact narb1
def s3 (s : Int) : Prop := s = 0 ∨ s = 1 ∨ s = -1
theorem s3.mul {s t : Int} (h : s3 s) (k : s3 t) : s3 (s * t) := by
  unfold s3 at *
  rcases h with rfl | rfl | rfl <;> rcases k with rfl | rfl | rfl <;> decide
/-- the letters from a on, at most m: whether all are there, place and sign -/
noncomputable def lf (tl : Nat) (c : Nat → Nat) (n : Nat) : Nat → Nat → Nat → Int → Bool × Nat × Int
  | 0, _, pl, s => (true, pl, s)
  | m + 1, a, pl, s => if isB (lt' tl c a) then (if c a - 97 < n then lf tl c n m (a + 1) (pl ||| 2 ^ (c a - 97)) (s * sg pl (2 ^ (c a - 97))) else (false, pl, s)) else (true, pl, s)
theorem lf_t {tl : Nat} {c : Nat → Nat} {n m a pl : Nat} {s : Int} (d : lt' tl c a) (h : c a - 97 < n) : lf tl c n (m + 1) a pl s = lf tl c n m (a + 1) (pl ||| 2 ^ (c a - 97)) (s * sg pl (2 ^ (c a - 97))) := by
  show (if isB (lt' tl c a) then _ else _) = _
  rw [isB_if d, if_pos h]
theorem lf_f {tl : Nat} {c : Nat → Nat} {n m a pl : Nat} {s : Int} (d : lt' tl c a) (h : ¬ c a - 97 < n) : lf tl c n (m + 1) a pl s = (false, pl, s) := by
  show (if isB (lt' tl c a) then _ else _) = _
  rw [isB_if d, if_neg h]
theorem lf_e {tl : Nat} {c : Nat → Nat} {n m a pl : Nat} {s : Int} (d : ¬ lt' tl c a) : lf tl c n m a pl s = (true, pl, s) := by
  cases m with
  | zero => rfl
  | succ m =>
    show (if isB (lt' tl c a) then _ else _) = _
    rw [isB_el d]
theorem p4 {l : Nat} (h : l < 4) : 2 ^ l < 16 ∧ 2 ^ l < 64 := by
  have : l = 0 ∨ l = 1 ∨ l = 2 ∨ l = 3 := by omega
  rcases this with rfl | rfl | rfl | rfl <;> decide
theorem lf_ok {tl : Nat} {c : Nat → Nat} {n : Nat} (n4 : n ≤ 4) : ∀ m a pl s, pl < 2 ^ n → s3 s → (lf tl c n m a pl s).2.1 < 2 ^ n ∧ s3 (lf tl c n m a pl s).2.2
  | 0, a, pl, s, h, k => ⟨h, k⟩
  | m + 1, a, pl, s, h, k => by
    by_cases d : lt' tl c a
    · by_cases q : c a - 97 < n
      · rw [lf_t d q]
        have := (pow_n n4).1
        exact lf_ok n4 m _ _ _ (or_lt q h) (k.mul (sg_sm pl (by omega) _ (p4 (by omega)).2))
      · rw [lf_f d q]; exact ⟨h, k⟩
    · rw [lf_e d]; exact ⟨h, k⟩
theorem sp_lf8 {tl n : Nat} {c : Nat → Nat} {p1 : Int32} {Q : Int32 → Sto → Prop} (n4 : n ≤ 4) (g : Int) : ∀ k x8 a pl s w S, x8 + k = 4 → PC S tl c a → S.1 1 0 = nI n → pl < 16 → s3 s → (∀ pl' s' (w' : Bool), pl' < 16 → s3 s' → (w' = true ↔ w = true ∧ (lf tl c n k a pl s).1 = true) → (w' = true → pl' = (lf tl c n k a pl s).2.1 ∧ s' = (lf tl c n k a pl s).2.2) → q_X3_addTerm_118 p1 Q (iI (g * s')) (nI pl') (bI w') (uA S 35 2 (nI (a + run (lt' tl c) k a)))) → q_X3_addTerm_48 p1 Q (k + 1) (iI (g * s)) (nI pl) (bI w) (nI x8) S := by
  intro k
  induction k with
  | zero =>
    intro x8 a pl s w S hx P hn hpl hs hQ
    unfold q_X3_addTerm_48
    have := hQ pl s w hpl hs ⟨fun q => ⟨q, rfl⟩, fun q => q.1⟩ (fun _ => ⟨rfl, rfl⟩)
    rw [show a + run (lt' tl c) 0 a = a from rfl, uA_same S 35 2 P.2.2.1] at this
    rw [show (4 : Int32) = nI 4 from rfl, nI_leI (by omega) (by omega)]
    exact ⟨fun _ => this, fun q => by omega⟩
  | succ k ih =>
    intro x8 a pl s w S hx P hn hpl hs hQ
    unfold q_X3_addTerm_48
    rw [show (4 : Int32) = nI 4 from rfl, nI_leI (by omega) (by omega)]
    refine ⟨fun q => by omega, fun _ => sp_passLetter P (fun d => ⟨fun _ => ?_, fun z => absurd (Int32.not_le.mp z) (nI_pos (by have := d.2; omega))⟩) (fun d => ⟨fun z => absurd z (by decide), fun _ => ?_⟩)⟩
    · have l4 : c a - 97 < 4 := by have := d.2; omega
      have p42 := p4 l4
      have stp : ∀ w2 : Bool, (w2 = true ↔ w = true ∧ c a - 97 < n) → q_X3_addTerm_87 p1 (fun y5 y6 y7 y8 S => q_X3_addTerm_48 p1 Q (k + 1) y5 y6 y7 y8 S) Q (iI (g * s)) (nI pl) (nI x8) (nI (c a - 97)) (bI w2) (uA S 35 2 (nI (a + 1))) := by
        intro w2 hw
        unfold q_X3_addTerm_87
        rw [shl_n _ (by omega)]
        refine sp_sign hpl p42.2 ?_
        intro y5 e5 y6 e6 y8 e8
        have an := an_N pl hpl _ p42.1
        rw [e5, e6, e8, nI_1, ← iI_mul, an.2.1, Int.mul_assoc]
        refine ih (x8 + 1) (a + 1) _ _ w2 _ (by omega) (P.go d.1) (by rw [uA_ne (by decide)]; exact hn) an.2.2.1 (hs.mul (sg_sm pl hpl _ p42.2)) (fun pl' s' w' h1 h2 h3 h4 => ?_)
        have er : a + 1 + run (lt' tl c) k (a + 1) = a + run (lt' tl c) (k + 1) a := by rw [run_t d]; omega
        rw [uA_uA, er]
        by_cases hl : c a - 97 < n
        · have el := lf_t (n := n) (m := k) (pl := pl) (s := s) d hl
          rw [← el] at h3 h4
          exact hQ pl' s' w' h1 h2 ⟨fun q => ⟨(hw.mp (h3.mp q).1).1, (h3.mp q).2⟩, fun q => h3.mpr ⟨hw.mpr ⟨q.1, hl⟩, q.2⟩⟩ h4
        · have el := lf_f (n := n) (m := k) (pl := pl) (s := s) d hl
          have nw : ¬ w' = true := fun q => hl (hw.mp (h3.mp q).1).2
          exact hQ pl' s' w' h1 h2 ⟨fun q => absurd q nw, fun q => by rw [el] at q; exact absurd q.2 Bool.false_ne_true⟩ (fun q => absurd q nw)
      unfold q_X3_addTerm_86
      cases w with
      | false => exact ⟨fun _ => stp false ⟨fun z => absurd z (by decide), fun z => absurd z.1 (by decide)⟩, fun z => absurd rfl z⟩
      | true =>
        refine ⟨fun z => absurd z (by decide), fun _ => ?_⟩
        rw [uA_ne (by decide), hn, nI_leI (by omega) (by omega)]
        exact ⟨fun q => stp false ⟨fun z => absurd z (by decide), fun z => by omega⟩, fun q => stp true ⟨fun _ => ⟨rfl, by omega⟩, fun _ => rfl⟩⟩
    · have el := lf_e (n := n) (m := k + 1) (pl := pl) (s := s) d
      have := hQ pl s w hpl hs (by rw [el]; exact ⟨fun q => ⟨q, rfl⟩, fun q => q.1⟩) (by rw [el]; exact fun _ => ⟨rfl, rfl⟩)
      rw [run_f d, Nat.add_zero, uA_same S 35 2 P.2.2.1] at this
      exact this
/-- the number that a term begins with -/
noncomputable def tv (tl : Nat) (c : Nat → Nat) (a : Nat) : Nat := if isB (dg tl c a) then (if isB (dg tl c (a + 1)) then 10 * (c a - 48) + (c (a + 1) - 48) else c a - 48) else 1
noncomputable def Lf (tl : Nat) (c : Nat → Nat) (n a : Nat) : Bool × Nat × Int := lf tl c n 4 (a + run (dg tl c) 2 a) 0 1
theorem tv_le (tl : Nat) (c : Nat → Nat) (a : Nat) : tv tl c a ≤ 99 := by
  unfold tv
  by_cases q : dg tl c a
  · rw [isB_if q]
    have := q.2
    by_cases q2 : dg tl c (a + 1)
    · rw [isB_if q2]; have := q2.2; omega
    · rw [isB_el q2]; omega
  · rw [isB_el q]; omega
theorem fs_sm {z f s : Int} {v p : Nat} (hp : isP p) (hz : 0 ≤ z ∧ z < p) (hf : f = 1 ∨ f = -1) (hv : v ≤ 99) (hs : s3 s) : sm31 (z + f * v * s) ∧ sm31 (f * v * s) := by
  have := hp.pos
  unfold s3 at hs
  unfold sm31
  rcases hf with rfl | rfl <;> rcases hs with rfl | rfl | rfl <;> omega
theorem sp_addTerm {tl a n p : Nat} {c : Nat → Nat} {f : Int} {z : Vc} {S : Sto} {Q : Int32 → Sto → Prop} (P : PC S tl c a) (n4 : n ≤ 4) (hp : isP p) (hn : S.1 1 0 = nI n) (hp1 : S.1 1 1 = nI p) (hf : f = 1 ∨ f = -1) (hz : ∀ i, i < 16 → S.1 37 i = iI (z i) ∧ 0 ≤ z i ∧ z i < p) (hQ : ∀ (w : Bool) pl v, pl < 16 → 0 ≤ v → v < (p : Int) → (w = true ↔ (Lf tl c n a).1 = true) → (w = true → pl = (Lf tl c n a).2.1 ∧ v = (z pl + f * tv tl c a * (Lf tl c n a).2.2) % p) → Q (bI w) (uA (uA S 35 2 (nI (te tl c a))) 37 pl (iI v))) : wp_X3_addTerm (iI f) S Q := by
  have hpp := hp.pos
  have main : q_X3_addTerm_36 (iI f) Q (iI f) (nI (tv tl c a)) (uA S 35 2 (nI (a + run (dg tl c) 2 a))) := by
    unfold q_X3_addTerm_36
    intro x5 e5
    rw [e5, nI_iI (tv tl c a), ← iI_mul, ← Int.mul_one (f * (tv tl c a : Int))]
    have lr : a + run (dg tl c) 2 a ≤ tl := run_tl (fun _ q => q.1) 2 a P.1.2.1
    refine ⟨5, sp_lf8 (n := n) n4 (f * (tv tl c a : Int)) 4 0 (a + run (dg tl c) 2 a) 0 1 true _ rfl (P.go lr) (by rw [uA_ne (by decide)]; exact hn) (by omega) (Or.inr (Or.inl rfl)) (fun pl s w h1 h2 h3 h4 => ?_)⟩
    rw [uA_uA, show a + run (dg tl c) 2 a + run (lt' tl c) 4 (a + run (dg tl c) 2 a) = te tl c a from rfl]
    obtain ⟨z1, z2, z3⟩ := hz pl h1
    unfold q_X3_addTerm_118
    rw [tn_nI (by omega), uA_ne (show 37 ≠ 35 by decide), uA_ne (show 1 ≠ 35 by decide), z1, hp1, ← iI_add]
    refine ⟨vi h1 (by omega), sp_modulo (fs_sm hp ⟨z2, z3⟩ hf (tv_le tl c a) h2).1 (by omega) (by omega) ⟨vi h1 (by omega), fun S5 e5 => ⟨bI_n w, ?_⟩⟩⟩
    rw [e5]
    refine hQ w pl _ h1 (Int.emod_nonneg _ (by omega)) (Int.emod_lt_of_pos _ (by omega)) ⟨fun q => (h3.mp q).2, fun q => h3.mpr ⟨rfl, q⟩⟩ (fun q => ⟨(h4 q).1, ?_⟩)
    rw [(h4 q).2]; rfl
  unfold wp_X3_addTerm
  refine sp_passDigit P (fun d => ?_) (fun d => ?_)
  · have d2 := d.2
    have nn : ∀ k, k < 100 → ¬ ¬ (0 : Int32) ≤ nI k := fun k hk z => absurd (Int32.not_le.mp z) (nI_pos (by omega))
    refine sp_passDigit (P.go d.1) (fun e => ⟨fun _ => ⟨fun _ => ?_, fun z => absurd z (nn _ (by have := e.2; omega))⟩, fun z => absurd z (nn _ (by omega))⟩) (fun e => ⟨fun _ => ⟨fun z => absurd z (by decide), fun _ => ?_⟩, fun z => absurd z (nn _ (by omega))⟩)
    · have e2 := e.2
      have et : tv tl c a = 10 * (c a - 48) + (c (a + 1) - 48) := by
        unfold tv; rw [isB_if d, isB_if e]
      have er : run (dg tl c) 2 a = 2 := by rw [run_t d, run_t e]; rfl
      rw [et, er] at main
      rw [uA_uA, show (10 : Int32) = nI 10 from rfl, pk_mul, nI_add]
      exact main
    · have et : tv tl c a = c a - 48 := by
        unfold tv; rw [isB_if d, isB_el e]
      have er : run (dg tl c) 2 a = 1 := by rw [run_t d, run_f e]
      rw [et, er] at main
      exact main
  · refine sp_passDigit P (fun e => absurd e d) (fun _ => ⟨fun z => absurd z (by decide), fun _ => ?_⟩)
    have et : tv tl c a = 1 := by
      unfold tv; rw [isB_el d]
    have er : run (dg tl c) 2 a = 0 := run_f d
    rw [et, er, Nat.add_zero, uA_same S 35 2 P.2.2.1] at main
    exact main
