/-! a sum worked out: the reference -/
def frU (S S' : Sto) : Prop := (∀ k, k ≠ 353 → k ≠ 372 → S'.1 k = S.1 k) ∧ (∀ j, j ≠ 15 → S'.1 353 j = S.1 353 j) ∧ S'.2 = S.2
theorem frU.rf {S : Sto} : frU S S := ⟨fun _ _ _ => rfl, fun _ _ => rfl, rfl⟩
theorem frU.tr {S S' S'' : Sto} (a : frU S S') (b : frU S' S'') : frU S S'' := ⟨fun k x y => (b.1 k x y).trans (a.1 k x y), fun j x => (b.2.1 j x).trans (a.2.1 j x), b.2.2.trans a.2.2⟩
theorem frU.go {S : Sto} {x : Int32} : frU S (uA S 353 15 x) := ⟨fun _ h _ => uA_ne h, fun j h => by rw [uA_eq, upd_ne _ _ h], rfl⟩
theorem frU.su {S : Sto} {j : Nat} {x : Int32} : frU S (uA S 372 j x) := ⟨fun _ _ h => uA_ne h, fun j h => by rw [uA_ne (by decide)], rfl⟩
theorem PR.su {S : Sto} {tl a j : Nat} {c : Nat → Nat} {x : Int32} (P : PR S tl c a) : PR (uA S 372 j x) tl c a := ⟨P.1, by rw [uA_ne (by decide)]; exact P.2.1, by rw [uA_ne (by decide)]; exact P.2.2.1, fun i hi => by rw [uA_ne (by decide)]; exact P.2.2.2 i hi⟩
theorem pm_no {tl a : Nat} {c : Nat → Nat} (h : pm tl c a) : ¬ dg tl c a ∧ ¬ lt' tl c a := by
  refine ⟨fun q => ?_, fun q => ?_⟩ <;> (have := q.2; have := h.2; omega)
theorem bI_and (x y : Bool) : bI x &&& bI y = bI (x && y) := by
  cases x <;> cases y <;> decide
theorem sp_doesLoop {tl n p : Nat} {c : Nat → Nat} {x1 : Int32} {Q : Int32 → Sto → Prop} (n4 : n ≤ 4) (hp : isP p) : ∀ m a less w z r S, PR S tl c a → (sm tl c m a).1 = true → ¬ dg tl c (sm tl c m a).2 → ¬ lt' tl c (sm tl c m a).2 → S.1 353 3 = nI (2 ^ n) → S.1 353 1 = nI p → rg S 372 p z → (w = true → ∀ i, i < 16 → z i = r i) → (∀ S' z', frU S S' → PR S' tl c (sm tl c m a).2 → rg S' 372 p z' → ((ad tl c n p m a (fI less) (w, r)).1 = true → ∀ i, i < 16 → z' i = (ad tl c n p m a (fI less) (w, r)).2 i) → (∃ k, q_X9_does_272 Q k x1 (bI (ad tl c n p m a (fI less) (w, r)).1) 0 S')) → q_X9_does_196 Q (m + 1) x1 (bI w) 1 (bI less) S := by
  intro m
  induction m with
  | zero => intro a less w z r S P g; exact absurd g (by show ¬ false = true; decide)
  | succ m ih =>
    intro a less w z r S P g gd gl h3 hp1 hz hw hQ
    obtain ⟨g1, g2, g3⟩ := sm_pm g
    have lt := te_tl (c := c) P.1.2.1
    have hc := P.1.2.2
    have t1 := P.1.1
    have nb : ¬ dg tl c (te tl c a) ∧ ¬ lt' tl c (te tl c a) := by
      by_cases q : pm tl c (te tl c a)
      · exact pm_no q
      · rw [g3 q] at gd gl; exact ⟨gd, gl⟩
    have lo := lf_ok (tl := tl) (c := c) n4 4 (a + run (dg tl c) 2 a) 0 1 (pow_n n4).2 (Or.inr (Or.inl rfl))
    have lo1 : (Lf tl c n a).2.1 < 2 ^ n := lo.1
    have pn := pow_n n4
    have hpp := hp.pos
    -- behind the term
    have new : ∀ (S1 : Sto) (z1 : Vc), PR S1 tl c (te tl c a) → frU S S1 → rg S1 372 p z1 → ((at1 tl c n p a (fI less) (w, r)).1 = true → ∀ i, i < 16 → z1 i = (at1 tl c n p a (fI less) (w, r)).2 i) → ∀ x2 : Int32, x2 = bI (at1 tl c n p a (fI less) (w, r)).1 → wp_X9_sign_ S1 (fun r_6 S_5 => ((r_6 = 43 → q_X9_does_227 (fun y1 y2 y3 y4 S => q_X9_does_196 Q (m + 1) y1 y2 y3 y4 S) Q x1 x2 (bI less) S_5) ∧ (¬ r_6 = 43 → wp_X9_sign_ S_5 (fun r_9 S_8 => ((¬ r_9 = 45 → q_X9_does_232 (fun y1 y2 y3 y4 S => q_X9_does_196 Q (m + 1) y1 y2 y3 y4 S) Q x1 x2 (bI less) 0 S_8) ∧ (r_9 = 45 → q_X9_does_227 (fun y1 y2 y3 y4 S => q_X9_does_196 Q (m + 1) y1 y2 y3 y4 S) Q x1 x2 (bI less) S_8)))))) := by
      intro S1 z1 P1 f1 hz1 hw1 x2 ex2
      have ae : ad tl c n p (m + 1) a (fI less) (w, r) = if isB (is tl c 43 (te tl c a)) then ad tl c n p m (te tl c a + 1) 1 (at1 tl c n p a (fI less) (w, r)) else if isB (is tl c 45 (te tl c a)) then ad tl c n p m (te tl c a + 1) (-1) (at1 tl c n p a (fI less) (w, r)) else at1 tl c n p a (fI less) (w, r) := rfl
      have n1 : S1.1 353 3 = nI (2 ^ n) := by rw [f1.2.1 3 (by decide)]; exact h3
      have n2 : S1.1 353 1 = nI p := by rw [f1.2.1 1 (by decide)]; exact hp1
      have go : ∀ less' : Bool, pm tl c (te tl c a) → ad tl c n p (m + 1) a (fI less) (w, r) = ad tl c n p m (te tl c a + 1) (fI less') (at1 tl c n p a (fI less) (w, r)) → ∀ t : Int32, t = bI less' → q_X9_does_254 (fun y1 y2 y3 y4 S => q_X9_does_196 Q (m + 1) y1 y2 y3 y4 S) Q x1 x2 1 t S1 := by
        intro less' hpm ae' t et
        unfold q_X9_does_254
        intro S2 e2
        rw [P1.2.2.1, nI_1] at e2
        have P2 := P1.go (show te tl c a + 1 ≤ tl from hpm.1)
        rw [← e2] at P2
        have f2 : frU S1 S2 := by rw [e2]; exact frU.go
        rw [ex2, et]
        refine ih (te tl c a + 1) less' (at1 tl c n p a (fI less) (w, r)).1 z1 (at1 tl c n p a (fI less) (w, r)).2 S2 P2 (by rw [← g2 hpm]; exact g) (by rw [← g2 hpm]; exact gd) (by rw [← g2 hpm]; exact gl) (by rw [f2.2.1 3 (by decide)]; exact n1) (by rw [f2.2.1 1 (by decide)]; exact n2) (fun i hi => by rw [e2, uA_ne (by decide)]; exact hz1 i hi) hw1 (fun S' z' a1 a2 a3 a4 => ?_)
        have ae2 : ad tl c n p (m + 1) a (fI less) (w, r) = ad tl c n p m (te tl c a + 1) (fI less') ((at1 tl c n p a (fI less) (w, r)).1, (at1 tl c n p a (fI less) (w, r)).2) := ae'
        rw [← ae2] at a4 ⊢
        exact hQ S' z' ((f1.tr f2).tr a1) (by rw [g2 hpm]; exact a2) a3 a4
      unfold q_X9_does_227 q_X9_does_232
      have k43 := sn_eq (at_ := te tl c a) (k := 43) hc (by omega)
      have k45 := sn_eq (at_ := te tl c a) (k := 45) hc (by omega)
      have z43 : (43 : Int32) = nI 43 := rfl
      have z45 : (45 : Int32) = nI 45 := rfl
      refine sp_sign_ P1 ?_
      rw [z43, z45, k43]
      refine ⟨fun q => ⟨fun _ => sp_sign_ P1 ?_, fun z => absurd z (by decide)⟩, fun q => sp_sign_ P1 ?_⟩
      · rw [k45]
        refine ⟨fun _ => go false ⟨q.1, Or.inl q.2⟩ (by rw [ae, isB_if (P := is tl c 43 (te tl c a)) q]; rfl) 0 rfl, fun q2 => absurd q2.2 (by have := q.2; omega)⟩
      · rw [k45]
        refine ⟨fun q2 => ⟨fun z => absurd rfl z, fun _ => ?_⟩, fun q2 => ⟨fun _ => sp_sign_ P1 ?_, fun z => absurd z (by decide)⟩⟩
        · have npm : ¬ pm tl c (te tl c a) := fun z => by
            rcases z.2 with h | h
            · exact q ⟨z.1, h⟩
            · exact q2 ⟨z.1, h⟩
          have ae' : ad tl c n p (m + 1) a (fI less) (w, r) = at1 tl c n p a (fI less) (w, r) := by rw [ae, isB_el (P := is tl c 43 (te tl c a)) q, isB_el (P := is tl c 45 (te tl c a)) q2]
          unfold q_X9_does_196
          refine ⟨fun _ => ?_, fun z => absurd rfl z⟩
          have := hQ S1 z1 f1 (by rw [g3 npm]; exact P1) hz1 (by rw [ae']; exact hw1)
          rw [ae'] at this
          rw [ex2]; exact this
        · rw [k45]
          exact ⟨fun z => absurd q2 z, fun _ => go true ⟨q2.1, Or.inr q2.2⟩ (by rw [ae, isB_el (P := is tl c 43 (te tl c a)) q, isB_if (P := is tl c 45 (te tl c a)) q2]; rfl) 1 rfl⟩
    unfold q_X9_does_196
    refine ⟨fun z => absurd z (by decide), fun _ => sp_adds (n := n) (p := p) P n4 hp h3 hp1 hz nb.1 nb.2 (fun q x2 ex2 => ?_) (fun q x2 ex2 => ?_)⟩
    · have st : at1 tl c n p a (fI less) (w, r) = (false, r) := by unfold at1; rw [if_neg q]
      refine new _ z (P.go lt) frU.go (fun i hi => by rw [uA_ne (by decide)]; exact hz i hi) (by rw [st]; exact fun z => absurd z Bool.false_ne_true) x2 ?_
      rw [st, ex2, show (0 : Int32) = bI false from rfl, bI_and, Bool.and_false]
    · have st : at1 tl c n p a (fI less) (w, r) = (w, vU r (Lf tl c n a).2.1 ((r (Lf tl c n a).2.1 + fI less * tv tl c a * (Lf tl c n a).2.2) % p)) := by unfold at1; rw [if_pos q]
      refine new _ (vU z (Lf tl c n a).2.1 ((z (Lf tl c n a).2.1 + fI less * tv tl c a * (Lf tl c n a).2.2) % p)) (P.go lt).su (frU.go.tr frU.su) (hz.st (by rw [uA_eq, uA_ne (by decide)]) (Int.emod_nonneg _ (by omega)) (Int.emod_lt_of_pos _ (by omega))) ?_ x2 ?_
      · rw [st]
        intro q2 i hi
        have hw' := hw q2
        unfold vU
        rw [hw' _ (by omega), hw' i hi]
      · rw [st, ex2, show (1 : Int32) = bI true from rfl, bI_and, Bool.and_true]
