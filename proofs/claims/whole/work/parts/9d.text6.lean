/-! a sum of the text: the class -/
def pm (tl : Nat) (c : Nat → Nat) (a : Nat) : Prop := a < tl ∧ (c a = 43 ∨ c a = 45)
/-- a sum from a on, of at most m terms: whether it stands there, and where it ends or is at fault -/
noncomputable def sm (tl : Nat) (c : Nat → Nat) : Nat → Nat → Bool × Nat
  | 0, a => (false, a)
  | m + 1, a => if te tl c a = a then (false, a) else if isB (pm tl c (te tl c a)) then sm tl c m (te tl c a + 1) else (true, te tl c a)
theorem sp_sumLoop {tl : Nat} {c : Nat → Nat} {S : Sto} {Q : Int32 → Sto → Prop} : ∀ (m x a : Nat), x + m = 100 → PC S tl c a → ((sm tl c m a).1 = true → Q 1 (uA S 35 2 (nI (sm tl c m a).2))) → ((sm tl c m a).1 = false → Q 0 (uA S 35 2 (nI (sm tl c m a).2))) → q_X3_passSum_9 Q (m + 1) (nI x) S := by
  intro m
  induction m generalizing S with
  | zero =>
    intro x a hx P h1 h0
    unfold q_X3_passSum_9
    rw [show (100 : Int32) = nI 100 from rfl, nI_leI (by omega) (by omega)]
    refine ⟨fun _ => ?_, fun q => by omega⟩
    have := h0 rfl
    have e : sm tl c 0 a = (false, a) := rfl
    rw [e, uA_same S 35 2 P.2.2.1] at this
    exact this
  | succ m ih =>
    intro x a hx P h1 h0
    unfold q_X3_passSum_9 q_X3_passSum_44
    rw [show (100 : Int32) = nI 100 from rfl, nI_leI (by omega) (by omega)]
    refine ⟨fun q => by omega, fun _ => sp_passTerm P (fun lt => ⟨fun _ => ?_, fun z => absurd z (by decide)⟩) (fun e => ⟨fun z => absurd rfl z, fun _ => ?_⟩)⟩
    · have P1 := P.go (te_tl P.1.2.1 (c := c))
      have ne : ¬ te tl c a = a := by omega
      have go : pm tl c (te tl c a) → ∀ T : Sto, T = uA S 35 2 (nI (te tl c a + 1)) → ∀ y : Int32, y = nI x + 1 → q_X3_passSum_9 Q (m + 1) y T := by
        intro hp T hT y hy
        have e' : sm tl c (m + 1) a = sm tl c m (te tl c a + 1) := by
          show (if te tl c a = a then _ else _) = _
          rw [if_neg ne, if_pos (isB_t.mpr hp)]
        rw [e'] at h1 h0
        rw [hy, nI_1, hT]
        have PT := P.go (show te tl c a + 1 ≤ tl by have := hp.1; omega)
        exact ih (x + 1) (te tl c a + 1) (by omega) PT (fun q => by rw [uA_uA]; exact h1 q) (fun q => by rw [uA_uA]; exact h0 q)
      refine sp_passSign (k := 43) P1 (by omega) (fun l1 c1 => ⟨fun _ y hy => go ⟨l1, Or.inl c1⟩ _ (by rw [uA_uA]) y hy, fun z => absurd z (by decide)⟩) (fun n1 => ⟨fun z => absurd rfl z, fun _ => ?_⟩)
      rw [uA_uA]
      refine sp_passSign (k := 45) P1 (by omega) (fun l1 c1 => ⟨fun _ y hy => go ⟨l1, Or.inr c1⟩ _ (by rw [uA_uA]) y hy, fun z => absurd z (by decide)⟩) (fun n2 => ⟨fun z => absurd rfl z, fun _ => ?_⟩)
      rw [uA_uA]
      have e' : sm tl c (m + 1) a = (true, te tl c a) := by
        show (if te tl c a = a then _ else _) = _
        rw [if_neg ne, if_neg (fun q => by
          have := isB_t.mp q
          rcases this.2 with h | h
          · exact n1 ⟨this.1, h⟩
          · exact n2 ⟨this.1, h⟩)]
      have := h1 (by rw [e'])
      rw [e'] at this
      exact this
    · have e' : sm tl c (m + 1) a = (false, a) := if_pos e
      have := h0 (by rw [e'])
      rw [e'] at this
      rw [e]; exact this
