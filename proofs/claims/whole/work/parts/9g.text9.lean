/-! a clause of the text: the class (2) -/
theorem sp_passClause {tl a : Nat} {c : Nat → Nat} {S : Sto} {Q : Int32 → Sto → Prop} (P : PC S tl c a) (h1 : (cl tl c a).1 = true → Q 1 (uA S 35 2 (nI (cl tl c a).2))) (h0 : (cl tl c a).1 = false → Q 0 (uA S 35 2 (nI (cl tl c a).2))) : wp_X3_passClause S Q := by
  have self := uA_same S 35 2 P.2.2.1
  unfold wp_X3_passClause
  refine sp_passSign (k := 120) P (by omega) (fun l1 c1 => ⟨fun z => absurd z (by decide), fun _ => ?_⟩) (fun n1 => ⟨fun _ => ?_, fun z => absurd rfl z⟩)
  · have e : cl tl c a = (true, a + 1) := isB_if (P := is tl c 120 a) ⟨l1, c1⟩
    rw [e] at h1
    exact h1 rfl
  · rw [self]
    -- a letter and a digit
    have two : is tl c 103 a ∨ is tl c 110 a ∨ is tl c 112 a ∨ is tl c 111 a → q_X3_passClause_47 Q (uA S 35 2 (nI (a + 1))) := by
      intro hk
      have hl : a < tl := by rcases hk with h | h | h | h <;> exact h.1
      unfold q_X3_passClause_47 q_X3_passClause_59
      refine sp_passDigit (P.go (show a + 1 ≤ tl by omega)) (fun d => ⟨fun z => absurd z (nI_pos (by have := d.2; omega)), fun _ => ⟨narb1, ?_⟩⟩) (fun d => ⟨fun _ => ⟨narb0, ?_⟩, fun z => absurd (by decide) z⟩)
      · have e : cl tl c a = (true, a + 2) := by
          unfold cl
          rw [isB_el (P := is tl c 120 a) (fun q => n1 ⟨q.1, q.2⟩), isB_if hk, isB_if d]
        rw [e] at h1
        rw [uA_uA]; exact h1 rfl
      · have e : cl tl c a = (false, a + 1) := by
          unfold cl
          rw [isB_el (P := is tl c 120 a) (fun q => n1 ⟨q.1, q.2⟩), isB_if hk, isB_el d]
        rw [e] at h0
        exact h0 rfl
    refine sp_passSign (k := 103) P (by omega) (fun l c1 => ⟨fun _ => two (Or.inl ⟨l, c1⟩), fun z => absurd z (by decide)⟩) (fun n2 => ⟨fun z => absurd rfl z, fun _ => ?_⟩)
    rw [self]
    refine sp_passSign (k := 110) P (by omega) (fun l c1 => ⟨fun _ => two (Or.inr (Or.inl ⟨l, c1⟩)), fun z => absurd z (by decide)⟩) (fun n3 => ⟨fun z => absurd rfl z, fun _ => ?_⟩)
    rw [self]
    refine sp_passSign (k := 112) P (by omega) (fun l c1 => ⟨fun _ => two (Or.inr (Or.inr (Or.inl ⟨l, c1⟩))), fun z => absurd z (by decide)⟩) (fun n4 => ⟨fun z => absurd rfl z, fun _ => ?_⟩)
    rw [self]
    refine sp_passSign (k := 111) P (by omega) (fun l c1 => ⟨fun z => absurd z (by decide), fun _ => two (Or.inr (Or.inr (Or.inr ⟨l, c1⟩)))⟩) (fun n5 => ⟨fun _ => ?_, fun z => absurd rfl z⟩)
    rw [self]
    have none : ¬ (is tl c 103 a ∨ is tl c 110 a ∨ is tl c 112 a ∨ is tl c 111 a) := by
      rintro (h | h | h | h)
      · exact n2 h
      · exact n3 h
      · exact n4 h
      · exact n5 h
    unfold q_X3_passClause_87 q_X3_passClause_88
    refine sp_passDigit P (fun d => ⟨fun z => absurd z (nI_pos (by have := d.2; omega)), fun _ => ?_⟩) (fun d => ⟨fun _ => ⟨narb0, ?_⟩, fun z => absurd (by decide) z⟩)
    · have P1 := P.go (show a + 1 ≤ tl by have := d.1; omega)
      refine sp_passSign (k := 58) P1 (by omega) (fun l c1 => ⟨fun z => absurd z (by decide), fun _ => ?_⟩) (fun n6 => ⟨fun _ => ⟨narb0, ?_⟩, fun z => absurd rfl z⟩)
      · rw [uA_uA]
        have e : cl tl c a = sm tl c 100 (if isB (is tl c 45 (a + 2)) then a + 3 else a + 2) := by
          unfold cl
          rw [isB_el (P := is tl c 120 a) (fun q => n1 ⟨q.1, q.2⟩), isB_el none, isB_if d, isB_if (P := is tl c 58 (a + 1)) ⟨l, c1⟩]
        rw [e] at h1 h0
        exact sp_passSum (P.go (show a + 1 + 1 ≤ tl by omega)) (fun q => ⟨fun z => absurd z (by decide), fun _ => ⟨narb1, by rw [uA_uA]; exact h1 q⟩⟩) (fun q => ⟨fun _ => ⟨narb0, by rw [uA_uA]; exact h0 q⟩, fun z => absurd rfl z⟩)
      · have e : cl tl c a = (false, a + 1) := by
          unfold cl
          rw [isB_el (P := is tl c 120 a) (fun q => n1 ⟨q.1, q.2⟩), isB_el none, isB_if d, isB_el (P := is tl c 58 (a + 1)) (fun q => n6 ⟨q.1, q.2⟩)]
        rw [e] at h0
        rw [uA_uA]; exact h0 rfl
    · have e : cl tl c a = (false, a) := by
        unfold cl
        rw [isB_el (P := is tl c 120 a) (fun q => n1 ⟨q.1, q.2⟩), isB_el none, isB_el d]
      rw [e] at h0
      have := h0 rfl
      rw [self] at this
      exact this
