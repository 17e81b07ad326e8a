/-! a term of the text: the reference -/
theorem sp_seesTerm {tl a : Nat} {c : Nat → Nat} {S : Sto} {Q : Int32 → Sto → Prop} (P : PR S tl c a) (h1 : a < te tl c a → Q 1 (uA S 353 15 (nI (te tl c a)))) (h0 : te tl c a = a → Q 0 (uA S 353 15 (nI (te tl c a)))) : wp_X9_seesTerm S Q := by
  obtain ⟨⟨p1, p2, p3⟩, p4, p5, p6⟩ := id P
  have lE := te_tl (c := c) p2
  have gE := te_ge tl c a
  have k15 : ∀ k, (uA S 353 15 (nI k)).1 353 15 = nI k := fun k => by rw [uA_eq, upd_eq]
  unfold wp_X9_seesTerm
  have fin : ∀ x1 x2 : Nat, a + x1 + x2 = te tl c a → q_X9_seesTerm_60 Q (nI x1) (nI x2) (uA S 353 15 (nI (te tl c a))) := by
    intro x1 x2 hx
    unfold q_X9_seesTerm_60 q_X9_seesTerm_71
    rw [nI_add, show (0 : Int32) = nI 0 from rfl, nI_leI (by omega) (by omega)]
    exact ⟨fun q => ⟨narb0, h0 (by omega)⟩, fun q => ⟨narb1, h1 (by omega)⟩⟩
  have lets : ∀ m x1 x2, x2 + m = 4 → a + x1 + x2 ≤ tl → a + x1 + x2 + run (lt' tl c) m (a + x1 + x2) = te tl c a → q_X9_seesTerm_32 Q (m + 1) (nI x1) (nI x2) (uA S 353 15 (nI (a + x1 + x2))) := by
    intro m
    induction m with
    | zero =>
      intro x1 x2 hx hk hr
      unfold q_X9_seesTerm_32
      have hr' : a + x1 + x2 = te tl c a := hr
      rw [show (4 : Int32) = nI 4 from rfl, nI_leI (by omega) (by omega), hr']
      exact ⟨fun _ => fin x1 x2 hr', fun q => by omega⟩
    | succ m ih =>
      intro x1 x2 hx hk hr
      unfold q_X9_seesTerm_32
      rw [show (4 : Int32) = nI 4 from rfl, nI_leI (by omega) (by omega)]
      refine ⟨fun q => by omega, fun _ => sp_isLetter (P.go hk) (fun d => ⟨fun z => absurd z (by decide), fun _ S5 e5 x ex => ?_⟩) (fun d => ⟨fun _ => ?_, fun z => absurd rfl z⟩)⟩
      · rw [k15, nI_1, uA_uA] at e5
        rw [run_t d] at hr
        have := ih x1 (x2 + 1) (by omega) (by have := d.1; omega) (by rw [show a + x1 + (x2 + 1) = a + x1 + x2 + 1 by omega]; omega)
        rw [ex, nI_1, e5]
        exact this
      · rw [run_f d] at hr
        have hr' : a + x1 + x2 = te tl c a := hr
        rw [hr']
        exact fin x1 x2 hr'
  have digs : ∀ m x1, x1 + m = 2 → a + x1 ≤ tl → a + x1 + run (dg tl c) m (a + x1) = a + run (dg tl c) 2 a → q_X9_seesTerm_2 Q (m + 1) (nI x1) (uA S 353 15 (nI (a + x1))) := by
    intro m
    induction m with
    | zero =>
      intro x1 hx hk hr
      have hr' : a + x1 = a + run (dg tl c) 2 a := hr
      unfold q_X9_seesTerm_2 q_X9_seesTerm_30
      rw [show (2 : Int32) = nI 2 from rfl, nI_leI (by omega) (by omega)]
      exact ⟨fun _ => ⟨_, lets 4 x1 0 rfl hk (by rw [Nat.add_zero, hr']; rfl)⟩, fun q => by omega⟩
    | succ m ih =>
      intro x1 hx hk hr
      unfold q_X9_seesTerm_2 q_X9_seesTerm_30
      rw [show (2 : Int32) = nI 2 from rfl, nI_leI (by omega) (by omega)]
      refine ⟨fun q => by omega, fun _ => sp_isDigit (P.go hk) (fun d => ⟨fun z => absurd z (by decide), fun _ S5 e5 x ex => ?_⟩) (fun d => ⟨fun _ => ?_, fun z => absurd rfl z⟩)⟩
      · rw [k15, nI_1, uA_uA] at e5
        rw [run_t d] at hr
        have := ih (x1 + 1) (by omega) (by have := d.1; omega) (by rw [show a + (x1 + 1) = a + x1 + 1 by omega]; omega)
        rw [ex, nI_1, e5]
        exact this
      · rw [run_f d] at hr
        have hr' : a + x1 = a + run (dg tl c) 2 a := hr
        exact ⟨_, lets 4 x1 0 rfl hk (by rw [Nat.add_zero, hr']; rfl)⟩
  have := digs 2 0 rfl p2 rfl
  rw [show a + 0 = a from rfl, uA_same S 353 15 p5] at this
  exact ⟨_, this⟩
