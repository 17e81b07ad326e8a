/-! a clause of the text: the reference -/
theorem sp_78 {tl m a : Nat} {c : Nat → Nat} {S : Sto} {Q : Int32 → Sto → Prop} (hx : tl < a + (m + 1)) (P : PR S tl c a) (lt : a < te tl c a) (h1 : (sm tl c (m + 1) a).1 = true → Q 1 (uA S 353 15 (nI (sm tl c (m + 1) a).2))) (h0 : (sm tl c (m + 1) a).1 = false → Q 0 (uA S 353 15 (nI (sm tl c (m + 1) a).2))) : q_X9_seesClause_78 Q (m + 1) (uA S 353 15 (nI (te tl c a))) := by
  have k15 : ∀ k, (uA S 353 15 (nI k)).1 353 15 = nI k := fun k => by rw [uA_eq, upd_eq]
  have P1 := P.go (te_tl P.1.2.1 (c := c))
  have ne : ¬ te tl c a = a := by omega
  have hc := P.1.2.2
  unfold q_X9_seesClause_78
  have go : pm tl c (te tl c a) → q_X9_seesClause_96 (fun S => q_X9_seesClause_78 Q m S) Q (uA S 353 15 (nI (te tl c a))) := by
    intro hp
    have e' : sm tl c (m + 1) a = sm tl c m (te tl c a + 1) := by
      show (if te tl c a = a then _ else _) = _
      rw [if_neg ne, if_pos (isB_t.mpr hp)]
    rw [e'] at h1 h0
    unfold q_X9_seesClause_96
    intro S1 e1
    rw [k15, nI_1, uA_uA] at e1
    rw [e1]
    have PT := P.go (show te tl c a + 1 ≤ tl by have := hp.1; omega)
    exact sp_seesSum m (te tl c a + 1) (by omega) PT (fun q => by rw [uA_uA]; exact h1 q) (fun q => by rw [uA_uA]; exact h0 q)
  refine sp_sign_ P1 ?_
  rw [show (43 : Int32) = nI 43 from rfl, sn_eq hc (by omega)]
  refine ⟨fun q => go ⟨q.1, Or.inl q.2⟩, fun n1 => sp_sign_ P1 ?_⟩
  rw [show (45 : Int32) = nI 45 from rfl, sn_eq hc (by omega)]
  refine ⟨fun n2 => ?_, fun q => go ⟨q.1, Or.inr q.2⟩⟩
  have e' : sm tl c (m + 1) a = (true, te tl c a) := by
    show (if te tl c a = a then _ else _) = _
    rw [if_neg ne, if_neg (fun q => by
      have := isB_t.mp q
      rcases this.2 with h | h
      · exact n1 ⟨this.1, h⟩
      · exact n2 ⟨this.1, h⟩)]
  have := h1 (by rw [e'])
  rw [e'] at this
  exact this
theorem sp_69 {tl a : Nat} {c : Nat → Nat} {S : Sto} {Q : Int32 → Sto → Prop} (ha : 1 ≤ a) (P : PR S tl c a) (h1 : (sm tl c 100 a).1 = true → Q 1 (uA S 353 15 (nI (sm tl c 100 a).2))) (h0 : (sm tl c 100 a).1 = false → Q 0 (uA S 353 15 (nI (sm tl c 100 a).2))) : q_X9_seesClause_69 Q S := by
  unfold q_X9_seesClause_69
  have p1 := P.1.1
  refine sp_seesTerm P (fun lt => ⟨fun _ => ⟨_, sp_78 (m := 99) (by omega) P lt h1 h0⟩, fun z => absurd z (by decide)⟩) (fun e => ⟨fun z => absurd rfl z, fun _ => ?_⟩)
  have e' : sm tl c 100 a = (false, a) := if_pos e
  have := h0 (by rw [e'])
  rw [e'] at this
  rw [e]; exact this
