/-! what a clause does -/
/-- a set-up: letters, prime, kind, generators' count, edition, elements, generators -/
abbrev Us : Type := Nat × Nat × Nat × Nat × Nat × (Nat → Nat → Int32) × (Nat → Nat → Int32)
def cA (S : Sto) (u : Us) : Prop := CA S u.1 u.2.1 u.2.2.1 u.2.2.2.1 u.2.2.2.2.1 u.2.2.2.2.2.1 u.2.2.2.2.2.2
def rA (S : Sto) (u : Us) : Prop := RA S u.1 u.2.1 u.2.2.1 u.2.2.2.1 u.2.2.2.2.2.1 u.2.2.2.2.2.2
def oA (u : Us) : Prop := OA u.1 u.2.1 u.2.2.1 u.2.2.2.1 u.2.2.2.2.2.1 u.2.2.2.2.2.2
def eD (u v : Us) : Prop := Edt u.2.2.2.2.1 u.1 u.2.1 u.2.2.1 u.2.2.2.1 u.2.2.2.2.2.2 v.2.2.2.2.1 v.1 v.2.1 v.2.2.1 v.2.2.2.1 v.2.2.2.2.2.2
/-- where the sum of a clause at a begins, and by what -/
noncomputable def sb (tl : Nat) (c : Nat → Nat) (a : Nat) : Nat := if isB (is tl c 45 (a + 2)) then a + 2 + 1 else a + 2
noncomputable def sf (tl : Nat) (c : Nat → Nat) (a : Nat) : Int := if isB (is tl c 45 (a + 2)) then -1 else 1
noncomputable def dq (tl : Nat) (c : Nat → Nat) (a n p K gc ed : Nat) (E G : Nat → Nat → Int32) : Bool × Us :=
    if isB (is tl c 120 a) then (true, (n, p, K, 0, ed + 1, E, G))
    else if isB (is tl c 103 a) then (if isB (c (a + 1) - 48 < 6 ∧ gc < 4) then (true, (n, p, K, gc + 1, ed + 1, E, gE gc (c (a + 1) - 48) E G)) else (false, (n, p, K, gc, ed, E, G)))
    else if isB (is tl c 110 a) then (if isB (2 ≤ c (a + 1) - 48 ∧ c (a + 1) - 48 ≤ 4) then (true, (c (a + 1) - 48, p, K, 0, ed + 1, E0, G)) else (false, (n, p, K, gc, ed, E, G)))
    else if isB (is tl c 112 a) then (if isB (isP (c (a + 1) - 48)) then (true, (n, c (a + 1) - 48, K, 0, ed + 1, E0, G)) else (false, (n, p, K, gc, ed, E, G)))
    else if isB (is tl c 111 a) then (if isB (c (a + 1) - 48 < 2) then (true, (n, p, c (a + 1) - 48, gc, ed + 1, E, G)) else (false, (n, p, K, gc, ed, E, G)))
    else if isB (c a - 48 < 6 ∧ (ad tl c n p 100 (sb tl c a) (sf tl c a) (true, fun _ => 0)).1 = true) then (true, (n, p, K, gc, ed, rE n (c a - 48) (ad tl c n p 100 (sb tl c a) (sf tl c a) (true, fun _ => 0)).2 E, G))
    else (false, (n, p, K, gc, ed, E, G))
noncomputable def dc (tl : Nat) (c : Nat → Nat) (a : Nat) (u : Us) : Bool × Us := dq tl c a u.1 u.2.1 u.2.2.1 u.2.2.2.1 u.2.2.2.2.1 u.2.2.2.2.2.1 u.2.2.2.2.2.2
/-- the six kinds of a clause that stands -/
theorem cl_cases {tl a : Nat} {c : Nat → Nat} (g : (cl tl c a).1 = true) : (is tl c 120 a ∧ (cl tl c a).2 = a + 1) ∨ (¬ is tl c 120 a ∧ (is tl c 103 a ∨ is tl c 110 a ∨ is tl c 112 a ∨ is tl c 111 a) ∧ dg tl c (a + 1) ∧ (cl tl c a).2 = a + 2) ∨ (dg tl c a ∧ is tl c 58 (a + 1) ∧ (cl tl c a).2 = (sm tl c 100 (sb tl c a)).2 ∧ (sm tl c 100 (sb tl c a)).1 = true) := by
  have e : cl tl c a = if isB (is tl c 120 a) then (true, a + 1)
    else if isB (is tl c 103 a ∨ is tl c 110 a ∨ is tl c 112 a ∨ is tl c 111 a) then (if isB (dg tl c (a + 1)) then (true, a + 2) else (false, a + 1))
    else if isB (dg tl c a) then (if isB (is tl c 58 (a + 1)) then sm tl c 100 (sb tl c a) else (false, a + 1))
    else (false, a) := rfl
  by_cases q1 : is tl c 120 a
  · rw [isB_if q1] at e
    exact Or.inl ⟨q1, by rw [e]⟩
  · rw [isB_el q1] at e
    by_cases q2 : is tl c 103 a ∨ is tl c 110 a ∨ is tl c 112 a ∨ is tl c 111 a
    · rw [isB_if q2] at e
      by_cases q3 : dg tl c (a + 1)
      · rw [isB_if q3] at e
        exact Or.inr (Or.inl ⟨q1, q2, q3, by rw [e]⟩)
      · rw [isB_el q3] at e
        rw [e] at g; exact absurd g Bool.false_ne_true
    · rw [isB_el q2] at e
      by_cases q3 : dg tl c a
      · rw [isB_if q3] at e
        by_cases q4 : is tl c 58 (a + 1)
        · rw [isB_if q4] at e
          exact Or.inr (Or.inr ⟨q3, q4, by rw [e], by rw [← e]; exact g⟩)
        · rw [isB_el q4] at e
          rw [e] at g; exact absurd g Bool.false_ne_true
      · rw [isB_el q3] at e
        rw [e] at g; exact absurd g Bool.false_ne_true
theorem CA.eq {S S' : Sto} {n p K gc ed : Nat} {E G : Nat → Nat → Int32} (h : CA S n p K gc ed E G) (g4 : gc ≤ 4) (e : ∀ k, 1 ≤ k → k ≤ 13 → S'.1 k = S.1 k) : CA S' n p K gc ed E G := by
  obtain ⟨h1, h2, h3, h4, h5, h6, h7⟩ := h
  have e1 := e 1 (by decide) (by decide)
  exact ⟨by rw [e1]; exact h1, by rw [e1]; exact h2, by rw [e1]; exact h3, by rw [e1]; exact h4, by rw [e1]; exact h5, fun k hk i hi => by rw [e _ (by omega) (by omega)]; exact h6 k hk i hi, fun g hg i hi => by rw [e _ (by omega) (by omega)]; exact h7 g hg i hi⟩
theorem RA.eq {S S' : Sto} {n p K gc : Nat} {E G : Nat → Nat → Int32} (h : RA S n p K gc E G) (e : ∀ j, j ≠ 14 → j ≠ 15 → S'.1 353 j = S.1 353 j) (e4 : S'.1 354 = S.1 354) (e5 : S'.1 355 = S.1 355) : RA S' n p K gc E G := by
  obtain ⟨h1, h2, h3, h4, h5, h6, h7⟩ := h
  exact ⟨by rw [e 0 (by decide) (by decide)]; exact h1, by rw [e 1 (by decide) (by decide)]; exact h2, by rw [e 2 (by decide) (by decide)]; exact h3, by rw [e 3 (by decide) (by decide)]; exact h4, by rw [e 6 (by decide) (by decide)]; exact h5, fun k hk i hi => by rw [e4]; exact h6 k hk i hi, fun g hg i hi => by rw [e5]; exact h7 g hg i hi⟩
/-- what the class's work on the text leaves alone -/
def frX (S S' : Sto) : Prop := (∀ c, c = 0 ∨ c = 2 ∨ (14 ≤ c ∧ c ≤ 34) ∨ c = 36 ∨ (38 ≤ c ∧ c ≤ 106) ∨ 353 ≤ c → S'.1 c = S.1 c) ∧ (∀ j, j = 8 ∨ j = 11 → S'.1 1 j = S.1 1 j) ∧ S'.1 35 1 = S.1 35 1 ∧ S'.2 = S.2
theorem frX.rf {S : Sto} : frX S S := ⟨fun _ _ => rfl, fun _ _ => rfl, rfl, rfl⟩
theorem frX.tr {S S' S'' : Sto} (a : frX S S') (b : frX S' S'') : frX S S'' := ⟨fun c x => (b.1 c x).trans (a.1 c x), fun j x => (b.2.1 j x).trans (a.2.1 j x), b.2.2.1.trans a.2.2.1, b.2.2.2.trans a.2.2.2⟩
theorem frC.toX {S S' : Sto} (a : frC S S') : frX S S' := ⟨fun c h => a.1 c (by omega), a.2.1, by rw [a.1 35 (by decide)], a.2.2⟩
theorem frX.go {S : Sto} {x : Int32} : frX S (uA S 35 2 x) := ⟨fun c h => uA_ne (by omega), fun j h => by rw [uA_ne (by decide)], by rw [uA_eq, upd_ne _ _ (by decide)], rfl⟩
theorem PC.fr {S S' : Sto} {tl a : Nat} {c : Nat → Nat} (P : PC S tl c a) (f : frC S S') : PC S' tl c a := ⟨P.1, by rw [f.1 35 (by decide)]; exact P.2.1, by rw [f.1 35 (by decide)]; exact P.2.2.1, fun i hi => by rw [f.1 36 (by decide)]; exact P.2.2.2 i hi⟩
theorem frT.toX {S S' : Sto} {tl a b : Nat} {c : Nat → Nat} (f : frT S S') (P : PC S tl c a) (P' : PC S' tl c b) : frX S S' := ⟨fun c h => f.1 c (by omega) (by omega), fun j _ => by rw [f.1 1 (by decide) (by decide)], by rw [P.2.1, P'.2.1], f.2⟩
/-- the class replaces an element by the sum -/
theorem sp_replace37 {n p K gc ed k : Nat} {E G : Nat → Nat → Int32} {r : Vc} {S : Sto} {Q : Int32 → Sto → Prop} (C : CA S n p K gc ed E G) (O : OA n p K gc E G) (hk : k < 6) (hr : ∀ i, i < 2 ^ n → S.1 37 i = iI (r i)) (hQ : ∀ v S', CA S' n p K gc ed (rE n k r E) G → frC S S' → Q v S') : wp_X4_replaceElement (nI k) 37 S Q := by
  obtain ⟨c1, c2, c3, c4, c5, c6, c7⟩ := id C
  have n4 := O.1.2.1
  have g4 := O.1.2.2.2.2
  have hw := pow_n n4
  have le := ln_el k hk
  have l37 : ln 37 = 16 := rfl
  unfold wp_X4_replaceElement
  refine sp_elem8 (fun _ => ⟨fun _ => ?_, fun z => absurd z (by decide)⟩) (fun h0 => absurd ⟨k, hk, rfl⟩ h0)
  rw [tn_nI (by omega)]
  refine ⟨vi hk (by omega), sp_width c1 n4 ?_⟩
  refine sp_copy (by rw [l37]; omega) (by omega) (by rw [l37]; omega) (by omega) (by omega) ?_
  obtain ⟨S1, e1⟩ : ∃ S1, S1 = setA S (2 + 1 + k) (fl (2 ^ n) (S.1 37) (S.1 (2 + 1 + k))) := ⟨_, rfl⟩
  rw [← e1]
  have o : ∀ c, c ≠ 2 + 1 + k → S1.1 c = S.1 c := fun c hc => by rw [e1, setA_ne _ _ hc]
  refine sp_width (by rw [o 1 (by omega)]; exact c1) n4 (sp_nonZeros (by rw [l37]; omega) (by rw [l37]; omega) ?_)
  refine hQ _ S1 ⟨by rw [o 1 (by omega)]; exact c1, by rw [o 1 (by omega)]; exact c2, by rw [o 1 (by omega)]; exact c3, by rw [o 1 (by omega)]; exact c4, by rw [o 1 (by omega)]; exact c5, fun e he i hi => ?_, fun g hg i hi => by rw [o _ (by omega)]; exact c7 g hg i hi⟩ ⟨fun c hc => o c (by omega), fun j _ => by rw [o 1 (by omega)], by rw [e1]; rfl⟩
  unfold rE
  by_cases q : e = k
  · rw [q, if_pos rfl, e1, setA_eq]
    by_cases q2 : i < 2 ^ n
    · rw [if_pos q2, fl_lt _ _ q2]; exact hr i q2
    · rw [if_neg q2, fl_ge _ _ (by omega), c6 k hk i hi]
      obtain ⟨z, z1, -, -, z4⟩ := O.2.1 k hk i hi
      rw [z1, z4 (by omega)]; rfl
  · rw [if_neg q, o _ (by omega)]; exact c6 e he i hi
/-- a clause: the class -/
theorem sp_doClause {tl a : Nat} {c : Nat → Nat} {u : Us} {S : Sto} {Q : Int32 → Sto → Prop} (P : PC S tl c a) (g : (cl tl c a).1 = true) (C : cA S u) (O : oA u) (hQ : ∀ S', PC S' tl c (cl tl c a).2 → cA S' (dc tl c a u).2 → frX S S' → Q (bI (dc tl c a u).1) S') : wp_X3_doClause S Q := by
  obtain ⟨n, p, K, gc, ed, E, G⟩ := u
  have C' : CA S n p K gc ed E G := C
  have O' : OA n p K gc E G := O
  have g4 := O'.1.2.2.2.2
  have self := uA_same S 35 2 P.2.2.1
  unfold wp_X3_doClause
  have Cm : ∀ x, CA (uA S 35 2 x) n p K gc ed E G := fun x => C'.eq g4 (fun k h1 h2 => uA_ne (by omega))
  rcases cl_cases g with ⟨q, e2⟩ | ⟨nx, q, d, e2⟩ | ⟨d, q, e2, gs⟩
  · have ed' : dc tl c a (n, p, K, gc, ed, E, G) = (true, (n, p, K, 0, ed + 1, E, G)) := isB_if q
    rw [ed', e2] at hQ
    refine sp_passSign (k := 120) P (by omega) (fun l1 c1 => ⟨fun z => absurd z (by decide), fun _ => ?_⟩) (fun n1 => absurd q n1)
    exact sp_drop8 (Cm _) (fun S' C1 f1 => hQ S' ((P.go (by omega)).fr f1) C1 (frX.go.tr f1.toX))
  · have lt : a < tl := by rcases q with h | h | h | h <;> exact h.1
    have l4 : c (a + 1) - 48 < 10 := by have := d.2; omega
    rw [e2] at hQ
    have P1 := P.go (show a + 1 ≤ tl by omega)
    have P2 := P.go (show a + 2 ≤ tl from d.1)
    refine sp_passSign (k := 120) P (by omega) (fun l1 c1 => absurd ⟨l1, c1⟩ nx) (fun _ => ⟨fun _ => ?_, fun z => absurd rfl z⟩)
    rw [self]
    have dig : ∀ (R : Int32 → Sto → Prop), R (nI (c (a + 1) - 48)) (uA S 35 2 (nI (a + 2))) → wp_X3_passDigit (uA S 35 2 (nI (a + 1))) R := by
      intro R hR
      refine sp_passDigit P1 (fun _ => ?_) (fun z => absurd d z)
      rw [uA_uA]; exact hR
    -- the letter g
    by_cases q1 : is tl c 103 a
    · refine sp_passSign (k := 103) P (by omega) (fun l1 c1 => ⟨fun z => absurd z (by decide), fun _ => ?_⟩) (fun n1 => absurd q1 n1)
      refine dig _ (sp_addGen8 (Cm _) g4 (fun k hk ek hg S1 C1 f1 => ⟨narb1, ?_⟩) (fun hn => ⟨narb0, ?_⟩))
      · rw [nI_eq (by omega) (by omega)] at ek
        subst ek
        have ed' : dc tl c a (n, p, K, gc, ed, E, G) = (true, (n, p, K, gc + 1, ed + 1, E, gE gc (c (a + 1) - 48) E G)) := by
          show dq tl c a n p K gc ed E G = _
          unfold dq
          rw [isB_el nx, isB_if q1, isB_if ⟨hk, hg⟩]
        rw [ed'] at hQ
        exact hQ S1 (P2.fr f1) C1 (frX.go.tr f1.toX)
      · have ed' : dc tl c a (n, p, K, gc, ed, E, G) = (false, (n, p, K, gc, ed, E, G)) := by
          show dq tl c a n p K gc ed E G = _
          unfold dq
          rw [isB_el nx, isB_if q1, isB_el (fun z => hn ⟨⟨_, z.1, rfl⟩, z.2⟩)]
        rw [ed'] at hQ
        exact hQ _ P2 (Cm _) frX.go
    · refine sp_passSign (k := 103) P (by omega) (fun l1 c1 => absurd ⟨l1, c1⟩ q1) (fun _ => ⟨fun _ => ?_, fun z => absurd rfl z⟩)
      rw [self]
      by_cases q2 : is tl c 110 a
      · refine sp_passSign (k := 110) P (by omega) (fun l1 c1 => ⟨fun z => absurd z (by decide), fun _ => ?_⟩) (fun n1 => absurd q2 n1)
        refine dig _ (sp_letters8 (Cm _) (fun m m2 m4 ek S1 C1 f1 => ⟨narb1, ?_⟩) (fun hn => ⟨narb0, ?_⟩))
        · rw [nI_eq (by omega) (by omega)] at ek
          subst ek
          have ed' : dc tl c a (n, p, K, gc, ed, E, G) = (true, (c (a + 1) - 48, p, K, 0, ed + 1, E0, G)) := by
            show dq tl c a n p K gc ed E G = _
            unfold dq
            rw [isB_el nx, isB_el q1, isB_if q2, isB_if ⟨m2, m4⟩]
          rw [ed'] at hQ
          exact hQ S1 (P2.fr f1) C1 (frX.go.tr f1.toX)
        · have ed' : dc tl c a (n, p, K, gc, ed, E, G) = (false, (n, p, K, gc, ed, E, G)) := by
            show dq tl c a n p K gc ed E G = _
            unfold dq
            rw [isB_el nx, isB_el q1, isB_if q2, isB_el (fun z => hn ⟨_, z.1, z.2, rfl⟩)]
          rw [ed'] at hQ
          exact hQ _ P2 (Cm _) frX.go
      · refine sp_passSign (k := 110) P (by omega) (fun l1 c1 => absurd ⟨l1, c1⟩ q2) (fun _ => ⟨fun _ => ?_, fun z => absurd rfl z⟩)
        rw [self]
        by_cases q3 : is tl c 112 a
        · refine sp_passSign (k := 112) P (by omega) (fun l1 c1 => ⟨fun z => absurd z (by decide), fun _ => ?_⟩) (fun n1 => absurd q3 n1)
          refine dig _ (sp_prime8 (Cm _) (fun m hm ek S1 C1 f1 => ⟨narb1, ?_⟩) (fun hn => ⟨narb0, ?_⟩))
          · rw [nI_eq (by omega) (by have := hm.pos; omega)] at ek
            subst ek
            have ed' : dc tl c a (n, p, K, gc, ed, E, G) = (true, (n, c (a + 1) - 48, K, 0, ed + 1, E0, G)) := by
              show dq tl c a n p K gc ed E G = _
              unfold dq
              rw [isB_el nx, isB_el q1, isB_el q2, isB_if q3, isB_if hm]
            rw [ed'] at hQ
            exact hQ S1 (P2.fr f1) C1 (frX.go.tr f1.toX)
          · have ed' : dc tl c a (n, p, K, gc, ed, E, G) = (false, (n, p, K, gc, ed, E, G)) := by
              show dq tl c a n p K gc ed E G = _
              unfold dq
              rw [isB_el nx, isB_el q1, isB_el q2, isB_if q3, isB_el (fun z => hn ⟨_, z, rfl⟩)]
            rw [ed'] at hQ
            exact hQ _ P2 (Cm _) frX.go
        · refine sp_passSign (k := 112) P (by omega) (fun l1 c1 => absurd ⟨l1, c1⟩ q3) (fun _ => ⟨fun _ => ?_, fun z => absurd rfl z⟩)
          rw [self]
          have q4 : is tl c 111 a := by
            rcases q with h | h | h | h
            · exact absurd h q1
            · exact absurd h q2
            · exact absurd h q3
            · exact h
          refine sp_passSign (k := 111) P (by omega) (fun l1 c1 => ⟨fun z => absurd z (by decide), fun _ => ?_⟩) (fun n1 => absurd q4 n1)
          refine dig _ (sp_kind8' (Cm _) (fun m hm ek S1 C1 f1 => ⟨narb1, ?_⟩) (fun hn => ⟨narb0, ?_⟩))
          · rw [nI_eq (by omega) (by omega)] at ek
            subst ek
            have ed' : dc tl c a (n, p, K, gc, ed, E, G) = (true, (n, p, c (a + 1) - 48, gc, ed + 1, E, G)) := by
              show dq tl c a n p K gc ed E G = _
              unfold dq
              rw [isB_el nx, isB_el q1, isB_el q2, isB_el q3, isB_if q4, isB_if hm]
            rw [ed'] at hQ
            exact hQ S1 (P2.fr f1) C1 (frX.go.tr f1.toX)
          · have ed' : dc tl c a (n, p, K, gc, ed, E, G) = (false, (n, p, K, gc, ed, E, G)) := by
              show dq tl c a n p K gc ed E G = _
              unfold dq
              rw [isB_el nx, isB_el q1, isB_el q2, isB_el q3, isB_if q4, isB_el (fun z => hn ⟨_, z, rfl⟩)]
            rw [ed'] at hQ
            exact hQ _ P2 (Cm _) frX.go
  · have d2 := d.2
    have no : ∀ k, (k < 48 ∨ 57 < k) → ¬ is tl c k a := fun k hk z => by have := z.2; omega
    have n120 := no 120 (by omega)
    have n103 := no 103 (by omega)
    have n110 := no 110 (by omega)
    have n112 := no 112 (by omega)
    have n111 := no 111 (by omega)
    refine sp_passSign (k := 120) P (by omega) (fun l1 c1 => absurd ⟨l1, c1⟩ n120) (fun _ => ⟨fun _ => ?_, fun z => absurd rfl z⟩)
    rw [self]
    refine sp_passSign (k := 103) P (by omega) (fun l1 c1 => absurd ⟨l1, c1⟩ n103) (fun _ => ⟨fun _ => ?_, fun z => absurd rfl z⟩)
    rw [self]
    refine sp_passSign (k := 110) P (by omega) (fun l1 c1 => absurd ⟨l1, c1⟩ n110) (fun _ => ⟨fun _ => ?_, fun z => absurd rfl z⟩)
    rw [self]
    refine sp_passSign (k := 112) P (by omega) (fun l1 c1 => absurd ⟨l1, c1⟩ n112) (fun _ => ⟨fun _ => ?_, fun z => absurd rfl z⟩)
    rw [self]
    refine sp_passSign (k := 111) P (by omega) (fun l1 c1 => absurd ⟨l1, c1⟩ n111) (fun _ => ⟨fun _ => ?_, fun z => absurd rfl z⟩)
    rw [self]
    refine sp_passDigit P (fun _ => ?_) (fun z => absurd d z)
    have P1 := P.go (show a + 1 ≤ tl from d.1)
    refine sp_passSign (k := 58) P1 (by omega) (fun l1 c1 => ?_) (fun z => absurd q z)
    rw [uA_uA]
    have P2 := P.go (show a + 1 + 1 ≤ tl from q.1)
    have n4 := O'.1.2.1
    have hp := O'.1.2.2.1
    refine sp_addUp (n := n) (p := p) n4 hp P2 (by rw [uA_ne (by decide)]; exact C'.1) (by rw [uA_ne (by decide)]; exact C'.2.1) gs (fun S2 z f2 P3 hz hw => ?_)
    have P3' : PC S2 tl c (cl tl c a).2 := by rw [e2]; exact P3
    have fX : frX S S2 := frX.go.tr (f2.toX P2 P3)
    have C2 : CA S2 n p K gc ed E G := (Cm (nI (a + 1 + 1))).eq g4 (fun k h1 h2 => f2.1 k (by omega) (by omega))
    have hw' : (ad tl c n p 100 (sb tl c a) (sf tl c a) (true, fun _ => 0)).1 = true → ∀ i, i < 16 → z i = (ad tl c n p 100 (sb tl c a) (sf tl c a) (true, fun _ => 0)).2 i := hw
    show (bI (ad tl c n p 100 (sb tl c a) (sf tl c a) (true, fun _ => 0)).1 = 0 → _) ∧ (¬ bI (ad tl c n p 100 (sb tl c a) (sf tl c a) (true, fun _ => 0)).1 = 0 → _)
    have dE : dc tl c a (n, p, K, gc, ed, E, G) = if isB (c a - 48 < 6 ∧ (ad tl c n p 100 (sb tl c a) (sf tl c a) (true, fun _ => 0)).1 = true) then (true, (n, p, K, gc, ed, rE n (c a - 48) (ad tl c n p 100 (sb tl c a) (sf tl c a) (true, fun _ => 0)).2 E, G)) else (false, (n, p, K, gc, ed, E, G)) := by
      show dq tl c a n p K gc ed E G = _
      unfold dq
      rw [isB_el n120, isB_el n103, isB_el n110, isB_el n112, isB_el n111]
    unfold q_X3_doClause_115
    refine ⟨fun z0 => ?_, fun z1 => ?_⟩
    · have nt : ¬ (ad tl c n p 100 (sb tl c a) (sf tl c a) (true, fun _ => 0)).1 = true := fun t => by rw [t] at z0; exact absurd z0 (by decide)
      rw [isB_el (fun t => nt t.2)] at dE
      rw [dE] at hQ
      exact hQ S2 P3' C2 fX
    · have tt : (ad tl c n p 100 (sb tl c a) (sf tl c a) (true, fun _ => 0)).1 = true := by
        cases h : (ad tl c n p 100 (sb tl c a) (sf tl c a) (true, fun _ => 0)).1 with
        | true => rfl
        | false => rw [h] at z1; exact absurd rfl z1
      have hw2 := hw' tt
      have pn := pow_n n4
      refine sp_elem8 (fun ⟨k, hk, ek⟩ => ⟨fun _ => ?_, fun z => absurd z (by decide)⟩) (fun hn => ⟨fun z => absurd rfl z, fun _ => ?_⟩)
      · rw [nI_eq (by omega) (by omega)] at ek
        rw [isB_if ⟨by omega, tt⟩] at dE
        rw [dE] at hQ
        refine sp_replace37 (r := (ad tl c n p 100 (sb tl c a) (sf tl c a) (true, fun _ => 0)).2) C2 O' (by omega) (fun i hi => by rw [(hz i (by omega)).1, hw2 i (by omega)]) (fun v S3 C3 f3 => ?_)
        exact hQ S3 (P3'.fr f3) C3 (fX.tr f3.toX)
      · rw [isB_el (fun t => hn ⟨_, t.1, rfl⟩)] at dE
        rw [dE] at hQ
        exact hQ S2 P3' C2 fX
