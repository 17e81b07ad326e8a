/-! a term of the text -/
/-- how many of the next m signs hold P, one behind the other -/
noncomputable def run (P : Nat → Prop) : Nat → Nat → Nat
  | 0, _ => 0
  | m + 1, a => if isB (P a) then run P m (a + 1) + 1 else 0
theorem run_le (P : Nat → Prop) : ∀ m a, run P m a ≤ m
  | 0, _ => Nat.le_refl _
  | m + 1, a => by
    unfold run
    have := run_le P m (a + 1)
    split <;> omega
theorem run_tl {P : Nat → Prop} {tl : Nat} (h : ∀ a, P a → a < tl) : ∀ m a, a ≤ tl → a + run P m a ≤ tl
  | 0, a, ha => ha
  | m + 1, a, ha => by
    unfold run
    by_cases q : isB (P a) = true
    · rw [if_pos q]
      have := h a (isB_t.mp q)
      have := run_tl h m (a + 1) (by omega)
      omega
    · rw [if_neg q]; exact ha
theorem run_t {P : Nat → Prop} {m a : Nat} (h : P a) : run P (m + 1) a = run P m (a + 1) + 1 := by
  show (if isB (P a) then run P m (a + 1) + 1 else 0) = _
  rw [if_pos (isB_t.mpr h)]
theorem run_f {P : Nat → Prop} {m a : Nat} (h : ¬ P a) : run P m a = 0 := by
  cases m with
  | zero => rfl
  | succ m =>
    show (if isB (P a) then run P m (a + 1) + 1 else 0) = _
    rw [if_neg (fun q => h (isB_t.mp q))]
/-- where a term ends that begins at a -/
noncomputable def te (tl : Nat) (c : Nat → Nat) (a : Nat) : Nat := a + run (dg tl c) 2 a + run (lt' tl c) 4 (a + run (dg tl c) 2 a)
theorem te_ge (tl : Nat) (c : Nat → Nat) (a : Nat) : a ≤ te tl c a := by unfold te; omega
theorem te_tl {tl : Nat} {c : Nat → Nat} {a : Nat} (h : a ≤ tl) : te tl c a ≤ tl := by
  unfold te
  exact run_tl (fun _ q => q.1) 4 _ (run_tl (fun _ q => q.1) 2 a h)
