/-! a clause of the text: the reference (2) -/
theorem sp_seesClause {tl a : Nat} {c : Nat → Nat} {S : Sto} {Q : Int32 → Sto → Prop} (P : PR S tl c a) (h1 : (cl tl c a).1 = true → Q 1 (uA S 353 15 (nI (cl tl c a).2))) (h0 : (cl tl c a).1 = false → Q 0 (uA S 353 15 (nI (cl tl c a).2))) : wp_X9_seesClause S Q := by
  have hc := P.1.2.2
  have self := uA_same S 353 15 P.2.2.1
  have e := sn_toInt (at_ := a) hc
  unfold wp_X9_seesClause
  refine sp_sign_ P ?_
  rw [show (48 : Int64) = iL 48 by decide, show (57 : Int64) = iL 57 by decide]
  refine sp_in9 (a := 48) (b := 57) ⟨by omega, by omega⟩ ⟨by omega, by omega⟩ (fun x y => ⟨fun z => absurd z (by decide), fun _ S11 e11 => ?_⟩) (fun hn => ⟨fun _ => ?_, fun z => absurd rfl z⟩)
  · have d : dg tl c a := by
      rw [e] at x y
      by_cases q : a < tl
      · rw [if_pos q] at x y; exact ⟨q, by omega, by omega⟩
      · rw [if_neg q] at x; omega
    have nx : ¬ is tl c 120 a := fun q => by have := d.2; have := q.2; omega
    have none : ¬ (is tl c 103 a ∨ is tl c 110 a ∨ is tl c 112 a ∨ is tl c 111 a) := by
      have := d.2
      rintro (h | h | h | h) <;> (have := h.2; omega)
    rw [P.2.2.1, nI_1] at e11
    have P1 := P.go (show a + 1 ≤ tl from d.1)
    rw [← e11] at P1
    refine sp_sign_ P1 ?_
    rw [show (58 : Int32) = nI 58 from rfl, sn_eq hc (by omega)]
    refine ⟨fun q S15 e15 => ?_, fun n6 => ?_⟩
    · have P2 := P.go (show a + 1 + 1 ≤ tl from q.1)
      rw [P1.2.2.1, nI_1, e11, uA_uA] at e15
      rw [← e15] at P2
      have ec : cl tl c a = sm tl c 100 (if isB (is tl c 45 (a + 2)) then a + 3 else a + 2) := by
        unfold cl
        rw [isB_el nx, isB_el none, isB_if d, isB_if (P := is tl c 58 (a + 1)) q]
      rw [ec] at h1 h0
      refine sp_sign_ P2 ?_
      rw [show (45 : Int32) = nI 45 from rfl, sn_eq hc (by omega)]
      refine ⟨fun n7 => ?_, fun q7 S19 e19 => ?_⟩
      · rw [isB_el (P := is tl c 45 (a + 2)) n7] at h1 h0
        exact sp_69 (by omega) P2 (fun z => by rw [e15, uA_uA]; exact h1 z) (fun z => by rw [e15, uA_uA]; exact h0 z)
      · rw [isB_if (P := is tl c 45 (a + 2)) q7] at h1 h0
        have P3 := P.go (show a + 1 + 1 + 1 ≤ tl from q7.1)
        rw [P2.2.2.1, nI_1, e15, uA_uA] at e19
        rw [← e19] at P3
        exact sp_69 (by omega) P3 (fun z => by rw [e19, uA_uA]; exact h1 z) (fun z => by rw [e19, uA_uA]; exact h0 z)
    · have ec : cl tl c a = (false, a + 1) := by
        unfold cl
        rw [isB_el nx, isB_el none, isB_if d, isB_el (P := is tl c 58 (a + 1)) n6]
      rw [ec] at h0
      rw [e11]; exact h0 rfl
  · have nd : ¬ dg tl c a := fun d => hn (by rw [e, if_pos d.1]; have := d.2; omega)
    have two : is tl c 103 a ∨ is tl c 110 a ∨ is tl c 112 a ∨ is tl c 111 a → q_X9_seesClause_149 Q (sn tl c a) S := by
      intro hk
      have hl : a < tl := by rcases hk with h | h | h | h <;> exact h.1
      have nx : ¬ is tl c 120 a := fun q => by have := q.2; rcases hk with h | h | h | h <;> (have := h.2; omega)
      unfold q_X9_seesClause_149 q_X9_seesClause_172 q_X9_seesClause_177 wp_X9_seesDigit
      intro S1 e1
      rw [P.2.2.1, nI_1] at e1
      have P1 := P.go (show a + 1 ≤ tl from hl)
      rw [← e1] at P1
      refine ⟨fun q => absurd ((sn_eq (k := 120) hc (by omega)).mp q) nx, fun _ => ?_⟩
      refine sp_isDigit P1 (fun d => ⟨fun _ S4 e4 => ⟨fun z => absurd z (by decide), fun _ => ⟨narb1, ?_⟩⟩, fun z => absurd z (by decide)⟩) (fun d => ⟨fun z => absurd rfl z, fun _ => ⟨fun _ => ⟨narb0, ?_⟩, fun z => absurd rfl z⟩⟩)
      · have ec : cl tl c a = (true, a + 2) := by
          unfold cl
          rw [isB_el nx, isB_if hk, isB_if d]
        rw [ec] at h1
        rw [P1.2.2.1, nI_1, e1, uA_uA] at e4
        rw [e4]; exact h1 rfl
      · have ec : cl tl c a = (false, a + 1) := by
          unfold cl
          rw [isB_el nx, isB_if hk, isB_el d]
        rw [ec] at h0
        rw [e1]; exact h0 rfl
    have one : is tl c 120 a → q_X9_seesClause_149 Q (sn tl c a) S := by
      intro hk
      unfold q_X9_seesClause_149 q_X9_seesClause_172 q_X9_seesClause_177
      intro S1 e1
      rw [P.2.2.1, nI_1] at e1
      refine ⟨fun _ => ⟨narb1, ?_⟩, fun q => absurd ((sn_eq (k := 120) hc (by omega)).mpr hk) q⟩
      have ec : cl tl c a = (true, a + 1) := isB_if hk
      rw [ec] at h1
      rw [e1]; exact h1 rfl
    refine ⟨fun q => two (Or.inl ((sn_eq (k := 103) hc (by omega)).mp q)), fun n1 => ⟨fun q => one ((sn_eq (k := 120) hc (by omega)).mp q), fun n2 => ⟨fun q => two (Or.inr (Or.inl ((sn_eq (k := 110) hc (by omega)).mp q))), fun n3 => ⟨fun q => two (Or.inr (Or.inr (Or.inl ((sn_eq (k := 112) hc (by omega)).mp q)))), fun n4 => ⟨fun q => two (Or.inr (Or.inr (Or.inr ((sn_eq (k := 111) hc (by omega)).mp q)))), fun n5 => ?_⟩⟩⟩⟩⟩
    have ec : cl tl c a = (false, a) := by
      unfold cl
      rw [isB_el (P := is tl c 120 a) (fun q => n2 ((sn_eq (k := 120) hc (by omega)).mpr q)), isB_el (P := is tl c 103 a ∨ is tl c 110 a ∨ is tl c 112 a ∨ is tl c 111 a) (by
        rintro (h | h | h | h)
        · exact n1 ((sn_eq (k := 103) hc (by omega)).mpr h)
        · exact n3 ((sn_eq (k := 110) hc (by omega)).mpr h)
        · exact n4 ((sn_eq (k := 112) hc (by omega)).mpr h)
        · exact n5 ((sn_eq (k := 111) hc (by omega)).mpr h)), isB_el nd]
    rw [ec] at h0
    have := h0 rfl
    rw [self] at this
    exact this
theorem sm_tl {tl : Nat} {c : Nat → Nat} : ∀ m a, a ≤ tl → (sm tl c m a).2 ≤ tl
  | 0, a, h => h
  | m + 1, a, h => by
    have l := te_tl (c := c) h
    unfold sm
    by_cases q : te tl c a = a
    · rw [if_pos q]; exact h
    · rw [if_neg q]
      by_cases q2 : pm tl c (te tl c a)
      · rw [isB_if q2]; exact sm_tl m _ q2.1
      · rw [isB_el q2]; exact l
theorem cl_tl {tl : Nat} {c : Nat → Nat} {a : Nat} (h : a ≤ tl) : (cl tl c a).2 ≤ tl := by
  unfold cl
  by_cases q1 : is tl c 120 a
  · rw [isB_if q1]; exact q1.1
  · rw [isB_el q1]
    by_cases q2 : is tl c 103 a ∨ is tl c 110 a ∨ is tl c 112 a ∨ is tl c 111 a
    · have hl : a < tl := by rcases q2 with h | h | h | h <;> exact h.1
      rw [isB_if q2]
      by_cases q3 : dg tl c (a + 1)
      · rw [isB_if q3]; exact q3.1
      · rw [isB_el q3]; exact hl
    · rw [isB_el q2]
      by_cases q3 : dg tl c a
      · rw [isB_if q3]
        by_cases q4 : is tl c 58 (a + 1)
        · rw [isB_if q4]
          by_cases q5 : is tl c 45 (a + 2)
          · rw [isB_if q5]; exact sm_tl _ _ q5.1
          · rw [isB_el q5]; exact sm_tl _ _ q4.1
        · rw [isB_el q4]; exact q3.1
      · rw [isB_el q3]; exact h
/-! the text in form -/
/-- from a on, at most m clauses: whether they stand there up to the end, and where the fault is -/
noncomputable def fp (tl : Nat) (c : Nat → Nat) : Nat → Nat → Bool × Nat
  | 0, a => (false, a)
  | m + 1, a => if (cl tl c a).1 then (if (cl tl c a).2 < tl then (if m = 0 then (false, (cl tl c a).2) else if isB (is tl c 59 (cl tl c a).2) then fp tl c m ((cl tl c a).2 + 1) else (false, (cl tl c a).2)) else (true, (cl tl c a).2)) else (false, (cl tl c a).2)
theorem sp_faultLoop {tl : Nat} {c : Nat → Nat} {S : Sto} {Q : Int32 → Sto → Prop} : ∀ (m x a : Nat), x + m = 13 → 0 < m → PC S tl c a → ((fp tl c m a).1 = true → Q (-1) (uA S 35 2 (nI (fp tl c m a).2))) → ((fp tl c m a).1 = false → Q (nI (fp tl c m a).2) (uA S 35 2 (nI (fp tl c m a).2))) → q_X3_faultPlace_7 Q (m + 1) (nI x) S := by
  intro m
  induction m generalizing S with
  | zero => intro x a hx h0; omega
  | succ m ih =>
    intro x a hx _ P h1 h0
    have lc := cl_tl (c := c) P.1.2.1
    have t1 := P.1.1
    have PE := P.go lc
    have k2 : ∀ k, (uA S 35 2 (nI k)).1 35 2 = nI k := fun k => by rw [uA_eq, upd_eq]
    unfold q_X3_faultPlace_7 q_X3_faultPlace_53
    rw [show (12 : Int32) = nI 12 from rfl, nI_ltI (by omega) (by omega)]
    have fe : fp tl c (m + 1) a = if (cl tl c a).1 then (if (cl tl c a).2 < tl then (if m = 0 then (false, (cl tl c a).2) else if isB (is tl c 59 (cl tl c a).2) then fp tl c m ((cl tl c a).2 + 1) else (false, (cl tl c a).2)) else (true, (cl tl c a).2)) else (false, (cl tl c a).2) := rfl
    refine ⟨fun q => by omega, fun _ => sp_passClause P (fun g => ⟨fun _ => ?_, fun z => absurd z (by decide)⟩) (fun g => ⟨fun z => absurd rfl z, fun _ => ?_⟩)⟩
    · rw [if_pos g] at fe
      rw [k2, PE.2.1, nI_ltI (by omega) (by omega), nI_eq (by omega) (by omega)]
      refine ⟨fun lt => ⟨fun e12 => ?_, fun ne => sp_passSign (k := 59) PE (by omega) (fun l1 c1 => ⟨fun _ y hy => ?_, fun z => absurd z (by decide)⟩) (fun n1 => ⟨fun z => absurd rfl z, fun _ => ?_⟩)⟩, fun ge => ?_⟩
      · rw [if_pos lt, if_pos (by omega)] at fe
        rw [fe] at h0
        exact h0 rfl
      · rw [if_pos lt, if_neg (by omega), isB_if (P := is tl c 59 (cl tl c a).2) ⟨l1, c1⟩] at fe
        rw [fe] at h1 h0
        rw [hy, nI_1, uA_uA]
        exact ih (x + 1) _ (by omega) (by omega) (P.go (by omega)) (fun z => by rw [uA_uA]; exact h1 z) (fun z => by rw [uA_uA]; exact h0 z)
      · rw [if_pos lt, if_neg (by omega), isB_el (P := is tl c 59 (cl tl c a).2) (fun q => n1 q)] at fe
        rw [fe] at h0
        rw [uA_uA, k2]
        exact h0 rfl
      · rw [if_neg ge] at fe
        rw [fe] at h1
        exact h1 rfl
    · rw [if_neg (by rw [g]; decide)] at fe
      rw [fe] at h0
      rw [k2]
      exact h0 rfl
theorem sp_seesLoop {tl : Nat} {c : Nat → Nat} {S : Sto} {Q : Int32 → Sto → Prop} : ∀ (m x a : Nat), x + m = 12 → 0 < m → PR S tl c a → ((fp tl c m a).1 = true → Q 1 (uA S 353 15 (nI (fp tl c m a).2))) → ((fp tl c m a).1 = false → Q 0 (uA S 353 15 (nI (fp tl c m a).2))) → q_X9_sees_7 Q m (nI x) S := by
  intro m
  induction m generalizing S with
  | zero => intro x a hx h0; omega
  | succ m ih =>
    intro x a hx _ P h1 h0
    have lc := cl_tl (c := c) P.1.2.1
    have t1 := P.1.1
    have PE := P.go lc
    have hc := P.1.2.2
    have k2 : ∀ k, (uA S 353 15 (nI k)).1 353 15 = nI k := fun k => by rw [uA_eq, upd_eq]
    unfold q_X9_sees_7 q_X9_sees_47
    have fe : fp tl c (m + 1) a = if (cl tl c a).1 then (if (cl tl c a).2 < tl then (if m = 0 then (false, (cl tl c a).2) else if isB (is tl c 59 (cl tl c a).2) then fp tl c m ((cl tl c a).2 + 1) else (false, (cl tl c a).2)) else (true, (cl tl c a).2)) else (false, (cl tl c a).2) := rfl
    refine sp_seesClause P (fun g => ⟨fun _ y hy => ?_, fun z => absurd z (by decide)⟩) (fun g => ⟨fun z => absurd rfl z, fun _ => ?_⟩)
    · rw [if_pos g] at fe
      rw [k2, PE.2.1, nI_eq (by omega) (by omega), hy, nI_1, show (12 : Int32) = nI 12 from rfl, nI_eq (by omega) (by omega)]
      refine ⟨fun ne => sp_sign_ PE ?_, fun e => ?_⟩
      · have lt : (cl tl c a).2 < tl := by omega
        rw [if_pos lt] at fe
        rw [show (59 : Int32) = nI 59 from rfl, sn_eq hc (by omega)]
        refine ⟨fun n1 => ?_, fun q => ⟨fun n12 S10 e10 => ?_, fun e12 => ?_⟩⟩
        · by_cases m0 : m = 0
          · rw [if_pos m0] at fe
            rw [fe] at h0; exact h0 rfl
          · rw [if_neg m0, isB_el (P := is tl c 59 (cl tl c a).2) n1] at fe
            rw [fe] at h0; exact h0 rfl
        · rw [if_neg (by omega), isB_if (P := is tl c 59 (cl tl c a).2) q] at fe
          rw [fe] at h1 h0
          rw [k2, nI_1, uA_uA] at e10
          rw [e10]
          exact ih (x + 1) _ (by omega) (by omega) (P.go (by omega)) (fun z => by rw [uA_uA]; exact h1 z) (fun z => by rw [uA_uA]; exact h0 z)
        · rw [if_pos (by omega)] at fe
          rw [fe] at h0; exact h0 rfl
      · rw [if_neg (by omega)] at fe
        rw [fe] at h1; exact h1 rfl
    · rw [if_neg (by rw [g]; decide)] at fe
      rw [fe] at h0
      exact h0 rfl
