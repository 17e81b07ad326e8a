/-! a sum worked out: the class -/
def vU (v : Vc) (k : Nat) (x : Int) : Vc := fun i => if i = k then x else v i
noncomputable def at1 (tl : Nat) (c : Nat → Nat) (n p a : Nat) (f : Int) (w : Bool × Vc) : Bool × Vc := if (Lf tl c n a).1 = true then (w.1, vU w.2 (Lf tl c n a).2.1 ((w.2 (Lf tl c n a).2.1 + f * tv tl c a * (Lf tl c n a).2.2) % p)) else (false, w.2)
/-- a sum of at most m terms from a on, the first by f, comes to w -/
noncomputable def ad (tl : Nat) (c : Nat → Nat) (n p : Nat) : Nat → Nat → Int → Bool × Vc → Bool × Vc
  | 0, _, _, w => w
  | m + 1, a, f, w => if isB (is tl c 43 (te tl c a)) then ad tl c n p m (te tl c a + 1) 1 (at1 tl c n p a f w) else if isB (is tl c 45 (te tl c a)) then ad tl c n p m (te tl c a + 1) (-1) (at1 tl c n p a f w) else at1 tl c n p a f w
def rg (S : Sto) (k p : Nat) (z : Vc) : Prop := ∀ i, i < 16 → S.1 k i = iI (z i) ∧ 0 ≤ z i ∧ z i < p
theorem rg.st {S S' : Sto} {k p pl : Nat} {z : Vc} {v : Int} (h : rg S k p z) (e : S'.1 k = upd (S.1 k) pl (iI v)) (v0 : 0 ≤ v) (v1 : v < p) : rg S' k p (vU z pl v) := by
  intro i hi
  unfold vU
  rw [e]
  by_cases q : i = pl
  · rw [q, upd_eq, if_pos rfl]; exact ⟨rfl, v0, v1⟩
  · rw [upd_ne _ _ q, if_neg q]; exact h i hi
/-- the class at work on the text -/
def frT (S S' : Sto) : Prop := (∀ k, k ≠ 35 → k ≠ 37 → S'.1 k = S.1 k) ∧ S'.2 = S.2
theorem frT.rf {S : Sto} : frT S S := ⟨fun _ _ _ => rfl, rfl⟩
theorem frT.tr {S S' S'' : Sto} (a : frT S S') (b : frT S' S'') : frT S S'' := ⟨fun k x y => (b.1 k x y).trans (a.1 k x y), b.2.trans a.2⟩
theorem frT.go {S : Sto} {j : Nat} {x : Int32} : frT S (uA S 35 j x) := ⟨fun _ h _ => uA_ne h, rfl⟩
theorem frT.su {S : Sto} {j : Nat} {x : Int32} : frT S (uA S 37 j x) := ⟨fun _ _ h => uA_ne h, rfl⟩
theorem PC.su {S : Sto} {tl a j : Nat} {c : Nat → Nat} {x : Int32} (P : PC S tl c a) : PC (uA S 37 j x) tl c a := ⟨P.1, by rw [uA_ne (by decide)]; exact P.2.1, by rw [uA_ne (by decide)]; exact P.2.2.1, fun i hi => by rw [uA_ne (by decide)]; exact P.2.2.2 i hi⟩
theorem sm_pm {tl m a : Nat} {c : Nat → Nat} (g : (sm tl c (m + 1) a).1 = true) : ¬ te tl c a = a ∧ (pm tl c (te tl c a) → sm tl c (m + 1) a = sm tl c m (te tl c a + 1)) ∧ (¬ pm tl c (te tl c a) → sm tl c (m + 1) a = (true, te tl c a)) := by
  have e : sm tl c (m + 1) a = if te tl c a = a then (false, a) else if isB (pm tl c (te tl c a)) then sm tl c m (te tl c a + 1) else (true, te tl c a) := rfl
  have ne : ¬ te tl c a = a := fun q => by rw [e, if_pos q] at g; exact absurd g Bool.false_ne_true
  refine ⟨ne, fun q => ?_, fun q => ?_⟩
  · rw [e, if_neg ne, isB_if q]
  · rw [e, if_neg ne, isB_el q]
theorem sp_addLoop {tl n p : Nat} {c : Nat → Nat} {Q : Int32 → Sto → Prop} (n4 : n ≤ 4) (hp : isP p) : ∀ m x a f w z r S, x + m = 100 → PC S tl c a → (sm tl c m a).1 = true → S.1 1 0 = nI n → S.1 1 1 = nI p → (f = 1 ∨ f = -1) → rg S 37 p z → (w = true → ∀ i, i < 16 → z i = r i) → (∀ S' z', frT S S' → PC S' tl c (sm tl c m a).2 → rg S' 37 p z' → ((ad tl c n p m a f (w, r)).1 = true → ∀ i, i < 16 → z' i = (ad tl c n p m a f (w, r)).2 i) → Q (bI (ad tl c n p m a f (w, r)).1) S') → q_X3_addUp_41 Q (m + 1) (bI w) (iI f) (nI x) S := by
  intro m
  induction m with
  | zero => intro x a f w z r S hx P g; exact absurd g (by show ¬ false = true; decide)
  | succ m ih =>
    intro x a f w z r S hx P g hn hp1 hf hz hw hQ
    obtain ⟨g1, g2, g3⟩ := sm_pm g
    have lt := te_tl (c := c) P.1.2.1
    unfold q_X3_addUp_41
    rw [show (100 : Int32) = nI 100 from rfl, nI_leI (by omega) (by omega)]
    refine ⟨fun q => by omega, fun _ => sp_addTerm (n := n) (p := p) P n4 hp hn hp1 hf hz (fun wt pl v h1 h2 h3 h4 h5 => ?_)⟩
    -- behind the term
    have hz1 : rg (uA (uA S 35 2 (nI (te tl c a))) 37 pl (iI v)) 37 p (vU z pl v) := hz.st (by rw [uA_eq, uA_ne (by decide)]) h2 h3
    obtain ⟨S1, e1⟩ : ∃ S1, S1 = uA (uA S 35 2 (nI (te tl c a))) 37 pl (iI v) := ⟨_, rfl⟩
    have P1 : PC S1 tl c (te tl c a) := by rw [e1]; exact (P.go lt).su
    have f1 : frT S S1 := by rw [e1]; exact frT.go.tr frT.su
    rw [← e1] at hz1 ⊢
    -- the new standing
    have new : ∀ wn : Bool, (wn = (wt && w)) → q_X3_addUp_66 (fun y2 y3 y4 S => q_X3_addUp_41 Q (m + 1) y2 y3 y4 S) Q (nI x) (bI wn) S1 := by
      intro wn ewn
      have st : at1 tl c n p a f (w, r) = (wn, (at1 tl c n p a f (w, r)).2) := by
        unfold at1
        cases wt with
        | true => rw [if_pos (h4.mp rfl), ewn]; rfl
        | false => rw [if_neg (fun q => absurd (h4.mpr q) (by decide)), ewn]; rfl
      have hw1 : wn = true → ∀ i, i < 16 → vU z pl v i = (at1 tl c n p a f (w, r)).2 i := by
        intro q i hi
        rw [ewn, Bool.and_eq_true] at q
        obtain ⟨e2, e3⟩ := h5 q.1
        have hw' := hw q.2
        unfold at1
        rw [if_pos (h4.mp q.1)]
        show vU z pl v i = vU r _ _ i
        unfold vU
        rw [e3, e2, hw' _ (by omega), hw' i hi]
      have ae : ad tl c n p (m + 1) a f (w, r) = if isB (is tl c 43 (te tl c a)) then ad tl c n p m (te tl c a + 1) 1 (at1 tl c n p a f (w, r)) else if isB (is tl c 45 (te tl c a)) then ad tl c n p m (te tl c a + 1) (-1) (at1 tl c n p a f (w, r)) else at1 tl c n p a f (w, r) := rfl
      have n1 : S1.1 1 0 = nI n := by rw [f1.1 1 (by decide) (by decide)]; exact hn
      have n2 : S1.1 1 1 = nI p := by rw [f1.1 1 (by decide) (by decide)]; exact hp1
      unfold q_X3_addUp_66 q_X3_addUp_97
      have go : ∀ f', (f' = 1 ∨ f' = -1) → pm tl c (te tl c a) → ad tl c n p (m + 1) a f (w, r) = ad tl c n p m (te tl c a + 1) f' (at1 tl c n p a f (w, r)) → ∀ y : Int32, y = nI x + 1 → q_X3_addUp_41 Q (m + 1) (bI wn) (iI f') y (uA S1 35 2 (nI (te tl c a + 1))) := by
        intro f' hf' hpm ae' y hy
        rw [hy, nI_1]
        rw [st] at ae'
        refine ih (x + 1) (te tl c a + 1) f' wn (vU z pl v) (at1 tl c n p a f (w, r)).2 _ (by omega) (P1.go hpm.1) (by rw [← g2 hpm]; exact g) (by rw [uA_ne (by decide)]; exact n1) (by rw [uA_ne (by decide)]; exact n2) hf' (fun i hi => by rw [uA_ne (by decide)]; exact hz1 i hi) hw1 (fun S' z' a1 a2 a3 a4 => ?_)
        rw [← ae'] at a4 ⊢
        exact hQ S' z' ((f1.tr frT.go).tr a1) (by rw [g2 hpm]; exact a2) a3 a4
      refine sp_passSign (k := 43) P1 (by omega) (fun l1 c1 => ⟨fun z => absurd z (by decide), fun _ y hy => go 1 (Or.inl rfl) ⟨l1, Or.inl c1⟩ (by rw [ae, isB_if (P := is tl c 43 (te tl c a)) ⟨l1, c1⟩]) y hy⟩) (fun n1' => ⟨fun _ => ?_, fun z => absurd rfl z⟩)
      rw [uA_same S1 35 2 P1.2.2.1]
      refine sp_passSign (k := 45) P1 (by omega) (fun l1 c1 => ⟨fun z => absurd z (by decide), fun _ y hy => go (-1) (Or.inr rfl) ⟨l1, Or.inr c1⟩ (by rw [ae, isB_el (P := is tl c 43 (te tl c a)) n1', isB_if (P := is tl c 45 (te tl c a)) ⟨l1, c1⟩]) y hy⟩) (fun n2' => ⟨fun _ => ⟨bI_n wn, ?_⟩, fun z => absurd rfl z⟩)
      rw [uA_same S1 35 2 P1.2.2.1]
      have npm : ¬ pm tl c (te tl c a) := fun q => by
        rcases q.2 with h | h
        · exact n1' ⟨q.1, h⟩
        · exact n2' ⟨q.1, h⟩
      have ae' : ad tl c n p (m + 1) a f (w, r) = (wn, (at1 tl c n p a f (w, r)).2) := by rw [ae, isB_el (P := is tl c 43 (te tl c a)) n1', isB_el (P := is tl c 45 (te tl c a)) n2', ← st]
      have := hQ S1 (vU z pl v) f1 (by rw [g3 npm]; exact P1) hz1 (by rw [ae']; exact hw1)
      rw [ae'] at this
      exact this
    unfold q_X3_addUp_65
    cases wt with
    | false => exact ⟨fun _ => new false rfl, fun z => absurd rfl z⟩
    | true =>
      refine ⟨fun z => absurd z (by decide), fun _ => ?_⟩
      cases w with
      | false => exact ⟨fun _ => new false rfl, fun z => absurd rfl z⟩
      | true => exact ⟨fun z => absurd z (by decide), fun _ => new true rfl⟩
theorem sp_addUp {tl n p a : Nat} {c : Nat → Nat} {S : Sto} {Q : Int32 → Sto → Prop} (n4 : n ≤ 4) (hp : isP p) (P : PC S tl c a) (hn : S.1 1 0 = nI n) (hp1 : S.1 1 1 = nI p) (g : (sm tl c 100 (if isB (is tl c 45 a) then a + 1 else a)).1 = true)
    (hQ : ∀ S' z', frT S S' → PC S' tl c (sm tl c 100 (if isB (is tl c 45 a) then a + 1 else a)).2 → rg S' 37 p z' → ((ad tl c n p 100 (if isB (is tl c 45 a) then a + 1 else a) (if isB (is tl c 45 a) then -1 else 1) (true, fun _ => 0)).1 = true → ∀ i, i < 16 → z' i = (ad tl c n p 100 (if isB (is tl c 45 a) then a + 1 else a) (if isB (is tl c 45 a) then -1 else 1) (true, fun _ => 0)).2 i) → Q (bI (ad tl c n p 100 (if isB (is tl c 45 a) then a + 1 else a) (if isB (is tl c 45 a) then -1 else 1) (true, fun _ => 0)).1) S') : wp_X3_addUp S Q := by
  have hpp := hp.pos
  unfold wp_X3_addUp
  refine loopE (fun m i (T : Sto) => q_X3_addUp_2 Q m (nI i) T) (fun i T => (∀ k, k ≠ 37 → T.1 k = S.1 k) ∧ T.2 = S.2 ∧ ∀ k, k < i → T.1 37 k = 0) 16 ?_ ?_ 0 S (by omega) ⟨fun _ _ => rfl, rfl, fun k q => by omega⟩
  · rintro T ⟨t1, t2, t3⟩
    unfold q_X3_addUp_2 q_X3_addUp_37
    refine ⟨fun _ => ?_, fun q => absurd (show (16 : Int32) ≤ nI 16 by decide) q⟩
    have PT : PC T tl c a := ⟨P.1, by rw [t1 35 (by decide)]; exact P.2.1, by rw [t1 35 (by decide)]; exact P.2.2.1, fun i hi => by rw [t1 36 (by decide)]; exact P.2.2.2 i hi⟩
    have fT : frT S T := ⟨fun k _ h => t1 k h, t2⟩
    have hz : rg T 37 p (fun _ => 0) := fun i hi => ⟨by rw [t3 i hi]; rfl, by show (0 : Int) ≤ 0; omega, by show (0 : Int) < p; omega⟩
    have a0 : T.1 1 0 = nI n := by rw [t1 1 (by decide)]; exact hn
    have a1 : T.1 1 1 = nI p := by rw [t1 1 (by decide)]; exact hp1
    refine sp_passSign (k := 45) PT (by omega) (fun l1 c1 => ⟨fun z => absurd z (by decide), fun _ => ?_⟩) (fun n1 => ⟨fun _ => ?_, fun z => absurd rfl z⟩)
    · rw [isB_if (P := is tl c 45 a) ⟨l1, c1⟩, isB_if (P := is tl c 45 a) ⟨l1, c1⟩] at hQ
      rw [isB_if (P := is tl c 45 a) ⟨l1, c1⟩] at g
      rw [show (-1 : Int32) = iI (-1) by decide]
      exact ⟨101, sp_addLoop n4 hp 100 0 (a + 1) (-1) true (fun _ => 0) (fun _ => 0) _ rfl (PT.go (by omega)) g (by rw [uA_ne (by decide)]; exact a0) (by rw [uA_ne (by decide)]; exact a1) (Or.inr rfl) (fun i hi => by rw [uA_ne (by decide)]; exact hz i hi) (fun _ _ _ => rfl) (fun S' z' b1 b2 b3 b4 => hQ S' z' ((fT.tr frT.go).tr b1) b2 b3 b4)⟩
    · rw [isB_el (P := is tl c 45 a) n1, isB_el (P := is tl c 45 a) n1] at hQ
      rw [isB_el (P := is tl c 45 a) n1] at g
      rw [uA_same T 35 2 PT.2.2.1]
      exact ⟨101, sp_addLoop n4 hp 100 0 a 1 true (fun _ => 0) (fun _ => 0) _ rfl PT g a0 a1 (Or.inl rfl) hz (fun _ _ _ => rfl) (fun S' z' b1 b2 b3 b4 => hQ S' z' (fT.tr b1) b2 b3 b4)⟩
  · rintro i m T hi ⟨t1, t2, t3⟩ ih
    unfold q_X3_addUp_2
    rw [show (16 : Int32) = nI 16 from rfl, nI_leI (by omega) (by omega), tn_nI (i := i) (by omega)]
    refine ⟨fun q => by omega, fun _ => ⟨vi hi (by omega), fun S6 e6 x ex => ?_⟩⟩
    rw [ex, nI_1]
    refine ih S6 ⟨fun k hk => by rw [e6, uA_ne hk]; exact t1 k hk, by rw [e6]; exact t2, fun k hk => ?_⟩
    rw [e6, uA_eq]
    by_cases q : k = i
    · rw [q, upd_eq]
    · rw [upd_ne _ _ q]; exact t3 k (by omega)
