/-! a clause of the text: the class -/
def is (tl : Nat) (c : Nat → Nat) (k a : Nat) : Prop := a < tl ∧ c a = k
noncomputable def cl (tl : Nat) (c : Nat → Nat) (a : Nat) : Bool × Nat :=
  if isB (is tl c 120 a) then (true, a + 1)
  else if isB (is tl c 103 a ∨ is tl c 110 a ∨ is tl c 112 a ∨ is tl c 111 a) then (if isB (dg tl c (a + 1)) then (true, a + 2) else (false, a + 1))
  else if isB (dg tl c a) then (if isB (is tl c 58 (a + 1)) then sm tl c 100 (if isB (is tl c 45 (a + 2)) then a + 3 else a + 2) else (false, a + 1))
  else (false, a)
theorem isB_if {α : Type} {P : Prop} {x y : α} (h : P) : (if isB P then x else y) = x := if_pos (isB_t.mpr h)
theorem isB_el {α : Type} {P : Prop} {x y : α} (h : ¬ P) : (if isB P then x else y) = y := if_neg (fun q => h (isB_t.mp q))
theorem sp_passSum {tl a : Nat} {c : Nat → Nat} {S : Sto} {Q : Int32 → Sto → Prop} (P : PC S tl c a) (h1 : (sm tl c 100 (if isB (is tl c 45 a) then a + 1 else a)).1 = true → Q 1 (uA S 35 2 (nI (sm tl c 100 (if isB (is tl c 45 a) then a + 1 else a)).2))) (h0 : (sm tl c 100 (if isB (is tl c 45 a) then a + 1 else a)).1 = false → Q 0 (uA S 35 2 (nI (sm tl c 100 (if isB (is tl c 45 a) then a + 1 else a)).2))) : wp_X3_passSum S Q := by
  unfold wp_X3_passSum
  refine sp_passSign (k := 45) P (by omega) (fun l1 c1 => ?_) (fun n1 => ?_)
  · rw [isB_if (P := is tl c 45 a) ⟨l1, c1⟩] at h1 h0
    exact ⟨_, sp_sumLoop 100 0 (a + 1) rfl (P.go (by omega)) (fun q => by rw [uA_uA]; exact h1 q) (fun q => by rw [uA_uA]; exact h0 q)⟩
  · rw [isB_el (P := is tl c 45 a) (fun q => n1 ⟨q.1, q.2⟩)] at h1 h0
    exact ⟨_, sp_sumLoop 100 0 a rfl (P.go P.1.2.1) (fun q => by rw [uA_uA]; exact h1 q) (fun q => by rw [uA_uA]; exact h0 q)⟩
