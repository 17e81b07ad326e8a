/-! the text, sign by sign (2) -/
def dg (tl : Nat) (c : Nat → Nat) (at_ : Nat) : Prop := at_ < tl ∧ 48 ≤ c at_ ∧ c at_ ≤ 57
def lt' (tl : Nat) (c : Nat → Nat) (at_ : Nat) : Prop := at_ < tl ∧ 97 ≤ c at_ ∧ c at_ ≤ 100
theorem sp_passDigit {tl at_ : Nat} {c : Nat → Nat} {S : Sto} {Q : Int32 → Sto → Prop} (P : PC S tl c at_) (h1 : dg tl c at_ → Q (nI (c at_ - 48)) (uA S 35 2 (nI (at_ + 1)))) (h0 : ¬ dg tl c at_ → Q (-1) S) : wp_X3_passDigit S Q := by
  unfold wp_X3_passDigit q_X3_passDigit_17
  refine sp_signHere P ?_
  rw [P.2.2.1]
  by_cases q : at_ < tl
  · have l := P.1.2.2 at_ q
    have e : sn tl c at_ = nI (c at_) := if_pos q
    rw [e, show (48 : Int32) = nI 48 from rfl, show (57 : Int32) = nI 57 from rfl, nI_ltI (by omega) (by omega), nI_leI (by omega) (by omega)]
    refine ⟨fun z => h0 (fun d => by have := d.2.1; omega), fun z => ⟨fun z2 S5 e5 => ?_, fun z2 => h0 (fun d => z2 d.2.2)⟩⟩
    rw [nI_1] at e5
    rw [e5, nI_sub (by omega)]
    exact h1 ⟨q, by omega, z2⟩
  · have e : sn tl c at_ = -1 := if_neg q
    rw [e]
    exact ⟨fun _ => h0 (fun d => q d.1), fun z => absurd (by decide) z⟩
theorem sp_passLetter {tl at_ : Nat} {c : Nat → Nat} {S : Sto} {Q : Int32 → Sto → Prop} (P : PC S tl c at_) (h1 : lt' tl c at_ → Q (nI (c at_ - 97)) (uA S 35 2 (nI (at_ + 1)))) (h0 : ¬ lt' tl c at_ → Q (-1) S) : wp_X3_passLetter S Q := by
  unfold wp_X3_passLetter q_X3_passLetter_17
  refine sp_signHere P ?_
  rw [P.2.2.1]
  by_cases q : at_ < tl
  · have l := P.1.2.2 at_ q
    have e : sn tl c at_ = nI (c at_) := if_pos q
    rw [e, show (97 : Int32) = nI 97 from rfl, show (100 : Int32) = nI 100 from rfl, nI_ltI (by omega) (by omega), nI_leI (by omega) (by omega)]
    refine ⟨fun z => h0 (fun d => by have := d.2.1; omega), fun z => ⟨fun z2 S5 e5 => ?_, fun z2 => h0 (fun d => z2 d.2.2)⟩⟩
    rw [nI_1] at e5
    rw [e5, nI_sub (by omega)]
    exact h1 ⟨q, by omega, z2⟩
  · have e : sn tl c at_ = -1 := if_neg q
    rw [e]
    exact ⟨fun _ => h0 (fun d => q d.1), fun z => absurd (by decide) z⟩
theorem sn_toInt {tl at_ : Nat} {c : Nat → Nat} (hc : ∀ i, i < tl → c i < 128) : (sn tl c at_).toInt = if at_ < tl then (c at_ : Int) else -1 := by
  unfold sn
  by_cases q : at_ < tl
  · rw [if_pos q, if_pos q, nI_toInt (by have := hc at_ q; omega)]
  · rw [if_neg q, if_neg q]; rfl
theorem sp_isDigit {tl at_ : Nat} {c : Nat → Nat} {S : Sto} {Q : Int32 → Sto → Prop} (P : PR S tl c at_) (h1 : dg tl c at_ → Q 1 S) (h0 : ¬ dg tl c at_ → Q 0 S) : wp_X9_isDigit S Q := by
  unfold wp_X9_isDigit
  refine sp_sign_ P ?_
  have e := sn_toInt (at_ := at_) P.1.2.2
  rw [show (48 : Int64) = iL 48 by decide, show (57 : Int64) = iL 57 by decide]
  refine sp_in9 (a := 48) (b := 57) ⟨by omega, by omega⟩ ⟨by omega, by omega⟩ (fun a b => ⟨narb1, h1 ?_⟩) (fun hn => ⟨narb0, h0 (fun d => hn ?_)⟩)
  · rw [e] at a b
    by_cases q : at_ < tl
    · rw [if_pos q] at a b; exact ⟨q, by omega, by omega⟩
    · rw [if_neg q] at a; omega
  · rw [e, if_pos d.1]
    have := d.2
    omega
theorem sp_isLetter {tl at_ : Nat} {c : Nat → Nat} {S : Sto} {Q : Int32 → Sto → Prop} (P : PR S tl c at_) (h1 : lt' tl c at_ → Q 1 S) (h0 : ¬ lt' tl c at_ → Q 0 S) : wp_X9_isLetter S Q := by
  unfold wp_X9_isLetter
  refine sp_sign_ P ?_
  have e := sn_toInt (at_ := at_) P.1.2.2
  rw [show (97 : Int64) = iL 97 by decide, show (100 : Int64) = iL 100 by decide]
  refine sp_in9 (a := 97) (b := 100) ⟨by omega, by omega⟩ ⟨by omega, by omega⟩ (fun a b => ⟨narb1, h1 ?_⟩) (fun hn => ⟨narb0, h0 (fun d => hn ?_)⟩)
  · rw [e] at a b
    by_cases q : at_ < tl
    · rw [if_pos q] at a b; exact ⟨q, by omega, by omega⟩
    · rw [if_neg q] at a; omega
  · rw [e, if_pos d.1]
    have := d.2
    omega
