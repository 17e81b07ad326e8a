/-! the text, sign by sign -/
/-- the sign at a place of the text c of tl signs; none: -1 -/
def sn (tl : Nat) (c : Nat → Nat) (at_ : Nat) : Int32 := if at_ < tl then nI (c at_) else -1
/-- the class stands at a place of the text -/
def PC (S : Sto) (tl : Nat) (c : Nat → Nat) (at_ : Nat) : Prop := (tl ≤ 100 ∧ at_ ≤ tl ∧ ∀ i, i < tl → c i < 128) ∧ S.1 35 1 = nI tl ∧ S.1 35 2 = nI at_ ∧ ∀ i, i < tl → S.1 36 i = nI (c i)
def PR (S : Sto) (tl : Nat) (c : Nat → Nat) (at_ : Nat) : Prop := (tl ≤ 100 ∧ at_ ≤ tl ∧ ∀ i, i < tl → c i < 128) ∧ S.1 353 14 = nI tl ∧ S.1 353 15 = nI at_ ∧ ∀ i, i < tl → S.1 360 i = nI (c i)
theorem sp_signHere {tl at_ : Nat} {c : Nat → Nat} {S : Sto} {Q : Int32 → Sto → Prop} (P : PC S tl c at_) (h : Q (sn tl c at_) S) : wp_X3_signHere S Q := by
  obtain ⟨⟨p1, p2, p3⟩, p4, p5, p6⟩ := P
  unfold wp_X3_signHere q_X3_signHere_39 q_X3_signHere_40
  rw [p4, p5, nI_leI (by omega) (by omega), show (100 : Int32) = nI 100 from rfl, nI_leI (by omega) (by omega), tn_nI (by omega)]
  unfold sn at h
  refine ⟨fun q => absurd q (nI_pos (by omega)), fun _ => ⟨fun q => by rw [if_neg (by omega)] at h; exact h, fun q => ⟨fun z => by omega, fun _ => ⟨vi (by omega) (by omega), ?_⟩⟩⟩⟩
  rw [if_pos (by omega)] at h
  rw [p6 at_ (by omega)]; exact h
theorem sp_sign_ {tl at_ : Nat} {c : Nat → Nat} {S : Sto} {Q : Int32 → Sto → Prop} (P : PR S tl c at_) (h : Q (sn tl c at_) S) : wp_X9_sign_ S Q := by
  obtain ⟨⟨p1, p2, p3⟩, p4, p5, p6⟩ := P
  unfold wp_X9_sign_ q_X9_sign__24
  rw [p4, p5, nI_leI (by omega) (by omega), tn_nI (by omega)]
  unfold sn at h
  refine ⟨fun q => by rw [if_neg (by omega)] at h; exact h, fun q => ⟨vi (by omega) (by omega), ?_⟩⟩
  rw [if_pos (by omega)] at h
  rw [p6 at_ (by omega)]; exact h
/-- what moves the place alone -/
def frP (S S' : Sto) (at_ : Nat) : Prop := S' = uA S 35 2 (nI at_)
theorem PC.go {tl at_ b : Nat} {c : Nat → Nat} {S : Sto} (P : PC S tl c at_) (h : b ≤ tl) : PC (uA S 35 2 (nI b)) tl c b := by
  obtain ⟨⟨p1, p2, p3⟩, p4, p5, p6⟩ := P
  exact ⟨⟨p1, h, p3⟩, by rw [uA_eq, upd_ne _ _ (by decide)]; exact p4, by rw [uA_eq, upd_eq], fun i hi => by rw [uA_ne (by decide)]; exact p6 i hi⟩
theorem PR.go {tl at_ b : Nat} {c : Nat → Nat} {S : Sto} (P : PR S tl c at_) (h : b ≤ tl) : PR (uA S 353 15 (nI b)) tl c b := by
  obtain ⟨⟨p1, p2, p3⟩, p4, p5, p6⟩ := P
  exact ⟨⟨p1, h, p3⟩, by rw [uA_eq, upd_ne _ _ (by decide)]; exact p4, by rw [uA_eq, upd_eq], fun i hi => by rw [uA_ne (by decide)]; exact p6 i hi⟩
theorem sn_eq {tl at_ k : Nat} {c : Nat → Nat} (hc : ∀ i, i < tl → c i < 128) (hk : k < 128) : sn tl c at_ = nI k ↔ at_ < tl ∧ c at_ = k := by
  unfold sn
  by_cases q : at_ < tl
  · rw [if_pos q, nI_eq (by have := hc at_ q; omega) (by omega)]
    exact ⟨fun e => ⟨q, e⟩, fun e => e.2⟩
  · rw [if_neg q]
    exact ⟨fun e => absurd e.symm (m1_ne (by omega)), fun e => absurd e.1 q⟩
theorem sp_passSign {tl at_ k : Nat} {c : Nat → Nat} {S : Sto} {Q : Int32 → Sto → Prop} (P : PC S tl c at_) (hk : k < 128) (h1 : at_ < tl → c at_ = k → Q 1 (uA S 35 2 (nI (at_ + 1)))) (h0 : ¬ (at_ < tl ∧ c at_ = k) → Q 0 (uA S 35 2 (nI at_))) : wp_X3_passSign (nI k) S Q := by
  have e := sn_eq (at_ := at_) P.1.2.2 hk
  unfold wp_X3_passSign q_X3_passSign_13 q_X3_passSign_28
  refine sp_signHere P ?_
  rw [e, P.2.2.1]
  refine ⟨fun q => ⟨fun _ S1 e1 => ⟨narb0, ?_⟩, fun z => absurd rfl z⟩, fun q => ⟨fun z => absurd z (by decide), fun _ S1 e1 => ⟨narb1, ?_⟩⟩⟩
  · rw [Int32.add_zero] at e1
    rw [e1]; exact h0 q
  · rw [nI_1] at e1
    rw [e1]; exact h1 q.1 q.2
