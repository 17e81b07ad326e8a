/-! a term of the text: the class -/
theorem uA_uA (S : Sto) (t j : Nat) (x y : Int32) : uA (uA S t j x) t j y = uA S t j y := by
  rw [uA_setA S, uA_sA, upd2]; rfl
theorem uA_same (S : Sto) (t j : Nat) {x : Int32} (h : S.1 t j = x) : uA S t j x = S := by
  rw [uA_setA]
  have : upd (S.1 t) j x = S.1 t := by
    funext i
    by_cases e : i = j
    · rw [e, upd_eq, h]
    · rw [upd_ne _ _ e]
  rw [this, setA_self]
theorem sp_passTerm {tl a : Nat} {c : Nat → Nat} {S : Sto} {Q : Int32 → Sto → Prop} (P : PC S tl c a) (h1 : a < te tl c a → Q 1 (uA S 35 2 (nI (te tl c a)))) (h0 : te tl c a = a → Q 0 (uA S 35 2 (nI (te tl c a)))) : wp_X3_passTerm S Q := by
  obtain ⟨⟨p1, p2, p3⟩, p4, p5, p6⟩ := id P
  have lE := te_tl (c := c) p2
  have gE := te_ge tl c a
  unfold wp_X3_passTerm
  intro x1 e1
  rw [e1, p5]
  -- the letters
  have lets : ∀ m x2 k, x2 + m = 4 → k ≤ tl → k + run (lt' tl c) m k = te tl c a → q_X3_passTerm_25 Q (m + 1) (nI a) (nI x2) (uA S 35 2 (nI k)) := by
    intro m
    induction m with
    | zero =>
      intro x2 k hx hk hr
      unfold q_X3_passTerm_25 q_X3_passTerm_54
      have hr' : k = te tl c a := hr
      rw [show (4 : Int32) = nI 4 from rfl, nI_leI (by omega) (by omega), show (uA S 35 2 (nI k)).1 35 2 = nI k by rw [uA_eq, upd_eq], nI_leI (by omega) (by omega), hr']
      exact ⟨fun _ => ⟨fun q => ⟨narb0, h0 (by omega)⟩, fun q => ⟨narb1, h1 (by omega)⟩⟩, fun q => by omega⟩
    | succ m ih =>
      intro x2 k hx hk hr
      unfold q_X3_passTerm_25
      rw [show (4 : Int32) = nI 4 from rfl, nI_leI (by omega) (by omega)]
      refine ⟨fun q => by omega, fun _ => sp_passLetter (P.go hk) (fun d x ex => ?_) (fun d x ex => ?_)⟩
      · rw [ex, nI_1, uA_uA]
        rw [run_t d] at hr
        exact ih (x2 + 1) (k + 1) (by omega) (by have := d.1; omega) (by omega)
      · rw [ex, nI_1]
        rw [run_f d] at hr
        exact ih (x2 + 1) k (by omega) hk (by rw [run_f d]; exact hr)
  have digs : ∀ m x2 k, x2 + m = 2 → k ≤ tl → k + run (dg tl c) m k = a + run (dg tl c) 2 a → q_X3_passTerm_7 Q (m + 1) (nI a) (nI x2) (uA S 35 2 (nI k)) := by
    intro m
    induction m with
    | zero =>
      intro x2 k hx hk hr
      have hr' : k = a + run (dg tl c) 2 a := hr
      unfold q_X3_passTerm_7
      rw [show (2 : Int32) = nI 2 from rfl, nI_leI (by omega) (by omega)]
      exact ⟨fun _ => ⟨_, lets 4 0 k rfl hk (by rw [hr']; rfl)⟩, fun q => by omega⟩
    | succ m ih =>
      intro x2 k hx hk hr
      unfold q_X3_passTerm_7
      rw [show (2 : Int32) = nI 2 from rfl, nI_leI (by omega) (by omega)]
      refine ⟨fun q => by omega, fun _ => sp_passDigit (P.go hk) (fun d x ex => ?_) (fun d x ex => ?_)⟩
      · rw [ex, nI_1, uA_uA]
        rw [run_t d] at hr
        exact ih (x2 + 1) (k + 1) (by omega) (by have := d.1; omega) (by omega)
      · rw [ex, nI_1]
        rw [run_f d] at hr
        exact ih (x2 + 1) k (by omega) hk (by rw [run_f d]; exact hr)
  have := digs 2 0 a rfl p2 rfl
  rw [uA_same S 35 2 p5] at this
  exact ⟨_, this⟩
