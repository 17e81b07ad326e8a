/-! a clause: the reference -/
theorem ad_b {tl : Nat} {c : Nat → Nat} {n p : Nat} (b : Bool) : ∀ m a f (w : Bool) r, ad tl c n p m a f (b && w, r) = (b && (ad tl c n p m a f (w, r)).1, (ad tl c n p m a f (w, r)).2)
  | 0, _, _, _, _ => rfl
  | m + 1, a, f, w, r => by
    have st : at1 tl c n p a f (b && w, r) = (b && (at1 tl c n p a f (w, r)).1, (at1 tl c n p a f (w, r)).2) := by
      unfold at1
      by_cases q : (Lf tl c n a).1 = true
      · rw [if_pos q, if_pos q]
      · rw [if_neg q, if_neg q, Bool.and_false]
    have e : ∀ w', ad tl c n p (m + 1) a f (w', r) = if isB (is tl c 43 (te tl c a)) then ad tl c n p m (te tl c a + 1) 1 (at1 tl c n p a f (w', r)) else if isB (is tl c 45 (te tl c a)) then ad tl c n p m (te tl c a + 1) (-1) (at1 tl c n p a f (w', r)) else at1 tl c n p a f (w', r) := fun _ => rfl
    rw [e, e, st]
    by_cases q1 : is tl c 43 (te tl c a)
    · rw [isB_if q1, isB_if q1]
      exact ad_b b m _ _ _ _
    · rw [isB_el q1, isB_el q1]
      by_cases q2 : is tl c 45 (te tl c a)
      · rw [isB_if q2, isB_if q2]
        exact ad_b b m _ _ _ _
      · rw [isB_el q2, isB_el q2]
/-- no place beyond the letters comes in -/
theorem ad_0 {tl : Nat} {c : Nat → Nat} {n p : Nat} (n4 : n ≤ 4) : ∀ m a f w, (∀ i, 2 ^ n ≤ i → w.2 i = 0) → ∀ i, 2 ^ n ≤ i → (ad tl c n p m a f w).2 i = 0
  | 0, _, _, _, h => h
  | m + 1, a, f, w, h => by
    have st : ∀ i, 2 ^ n ≤ i → (at1 tl c n p a f w).2 i = 0 := by
      intro i hi
      have lo := (lf_ok (tl := tl) (c := c) n4 4 (a + run (dg tl c) 2 a) 0 1 (pow_n n4).2 (Or.inr (Or.inl rfl))).1
      have lo1 : (Lf tl c n a).2.1 < 2 ^ n := lo
      unfold at1
      by_cases q : (Lf tl c n a).1 = true
      · rw [if_pos q]
        show vU _ _ _ i = 0
        unfold vU
        rw [if_neg (by omega)]; exact h i hi
      · rw [if_neg q]; exact h i hi
    have e : ad tl c n p (m + 1) a f w = if isB (is tl c 43 (te tl c a)) then ad tl c n p m (te tl c a + 1) 1 (at1 tl c n p a f w) else if isB (is tl c 45 (te tl c a)) then ad tl c n p m (te tl c a + 1) (-1) (at1 tl c n p a f w) else at1 tl c n p a f w := rfl
    rw [e]
    by_cases q1 : is tl c 43 (te tl c a)
    · rw [isB_if q1]; exact ad_0 n4 m _ _ _ st
    · rw [isB_el q1]
      by_cases q2 : is tl c 45 (te tl c a)
      · rw [isB_if q2]; exact ad_0 n4 m _ _ _ st
      · rw [isB_el q2]; exact st
/-- what the reference's work on the text leaves alone -/
def frY (S S' : Sto) : Prop := (∀ c, c < 353 ∨ (356 ≤ c ∧ c ≤ 364) → S'.1 c = S.1 c) ∧ (∀ j, j = 9 ∨ j = 12 ∨ j = 14 ∨ j = 21 → S'.1 353 j = S.1 353 j) ∧ S'.2 = S.2
theorem frY.rf {S : Sto} : frY S S := ⟨fun _ _ => rfl, fun _ _ => rfl, rfl⟩
theorem frY.tr {S S' S'' : Sto} (a : frY S S') (b : frY S' S'') : frY S S'' := ⟨fun c x => (b.1 c x).trans (a.1 c x), fun j x => (b.2.1 j x).trans (a.2.1 j x), b.2.2.trans a.2.2⟩
theorem frR.toY {S S' : Sto} (a : frR S S') : frY S S' := ⟨a.1, fun j h => a.2.1 j (by omega), a.2.2⟩
theorem frU.toY {S S' : Sto} (a : frU S S') : frY S S' := ⟨fun c h => a.1 c (by omega) (by omega), fun j h => a.2.1 j (by omega), a.2.2⟩
theorem PR.fr {S S' : Sto} {tl a : Nat} {c : Nat → Nat} (P : PR S tl c a) (f : frR S S') : PR S' tl c a := ⟨P.1, by rw [f.2.1 14 (by decide)]; exact P.2.1, by rw [f.2.1 15 (by decide)]; exact P.2.2.1, fun i hi => by rw [f.1 360 (by decide)]; exact P.2.2.2 i hi⟩
theorem RA.fu {S S' : Sto} {n p K gc : Nat} {E G : Nat → Nat → Int32} (h : RA S n p K gc E G) (f : frU S S') : RA S' n p K gc E G := h.eq (fun j _ h => f.2.1 j h) (f.1 354 (by decide) (by decide)) (f.1 355 (by decide) (by decide))
/-- two comes to an element -/
theorem sp_272 {n p K gc v : Nat} {E G : Nat → Nat → Int32} {r : Vc} {b : Bool} {S : Sto} {Q : Int32 → Sto → Prop} (R : RA S n p K gc E G) (n4 : n ≤ 4) (hv : v < 10) (hb : b = true → v < 6 ∧ (∀ i, i < 16 → S.1 372 i = iI (r i)) ∧ ∀ i, 2 ^ n ≤ i → r i = 0) (h0 : b = false → Q 0 S) (h1 : b = true → ∀ S', RA S' n p K gc (rE n v r E) G → frR S S' → Q 1 S') : ∃ k, q_X9_does_272 Q k (nI (48 + v)) (bI b) 0 S := by
  cases b with
  | false =>
    refine ⟨1, ?_⟩
    unfold q_X9_does_272 q_X9_does_311
    exact ⟨fun z => absurd z (by decide), fun _ => ⟨fun _ => ⟨narb0, h0 rfl⟩, fun z => absurd rfl z⟩⟩
  | true =>
    obtain ⟨v6, hr, hz⟩ := hb rfl
    have pn := pow_n n4
    refine loopE (fun m i (T : Sto) => q_X9_does_272 Q m (nI (48 + v)) (bI true) (nI i) T) (fun i T => (∀ k, k ≠ 354 → T.1 k = S.1 k) ∧ T.2 = S.2 ∧ ∀ j, T.1 354 j = if 16 * v ≤ j ∧ j < 16 * v + i then iI (r (j - 16 * v)) else S.1 354 j) 16 ?_ ?_ 0 S (by omega) ⟨fun _ _ => rfl, rfl, fun j => by rw [if_neg (by omega)]⟩
    · rintro T ⟨t1, t2, t3⟩
      unfold q_X9_does_272 q_X9_does_311
      refine ⟨fun _ => ⟨narb1, ?_⟩, fun q => absurd (show (16 : Int32) ≤ nI 16 by decide) q⟩
      obtain ⟨c1, c2, c3, c4, c5, c6, c7⟩ := id R
      have o := t1 353 (by decide)
      refine h1 rfl T ⟨by rw [o]; exact c1, by rw [o]; exact c2, by rw [o]; exact c3, by rw [o]; exact c4, by rw [o]; exact c5, fun e he i hi => ?_, fun g hg i hi => by rw [t1 355 (by decide)]; exact c7 g hg i hi⟩ ⟨fun k hk => t1 k (by omega), fun j _ => by rw [o], t2⟩
      rw [t3]
      unfold rE
      by_cases q : e = v
      · rw [q, if_pos rfl, if_pos ⟨by omega, by omega⟩, show 16 * v + i - 16 * v = i by omega]
        by_cases q2 : i < 2 ^ n
        · rw [if_pos q2]
        · rw [if_neg q2, hz i (by omega)]; rfl
      · rw [if_neg q, if_neg (by omega)]; exact c6 e he i hi
    · rintro i m T hi ⟨t1, t2, t3⟩ ih
      unfold q_X9_does_272
      rw [show (16 : Int32) = nI 16 from rfl, nI_leI (by omega) (by omega), show (48 : Int32) = nI 48 from rfl, nI_sub (by omega), show 48 + v - 48 = v by omega, show (nI 16 * nI v : Int32) = nI (16 * v) from pk_mul 16 v, nI_add, tn_nI (i := i) (by omega), tn_nI (i := 16 * v + i) (by omega)]
      refine ⟨fun q => by omega, fun _ => ⟨fun z => absurd z (by decide), fun _ => ⟨vi hi (by omega), vi (by omega) (by omega), fun S5 e5 x ex => ?_⟩⟩⟩
      rw [ex, nI_1]
      refine ih S5 ⟨fun k hk => by rw [e5, uA_ne hk]; exact t1 k hk, by rw [e5]; exact t2, fun j => ?_⟩
      rw [e5, uA_eq, t1 372 (by decide), hr i hi]
      by_cases q : j = 16 * v + i
      · rw [q, upd_eq, if_pos ⟨by omega, by omega⟩, show 16 * v + i - 16 * v = i by omega]
      · rw [upd_ne _ _ q, t3 j]
        by_cases q2 : 16 * v ≤ j ∧ j < 16 * v + i
        · rw [if_pos q2, if_pos ⟨by omega, by omega⟩]
        · rw [if_neg q2, if_neg (by omega)]
theorem sp_does {tl a : Nat} {c : Nat → Nat} {u : Us} {S : Sto} {Q : Int32 → Sto → Prop} (P : PR S tl c a) (g : (cl tl c a).1 = true) (gd : ¬ dg tl c (cl tl c a).2) (gl : ¬ lt' tl c (cl tl c a).2) (R : rA S u) (O : oA u) (hQ : ∀ S', PR S' tl c (cl tl c a).2 → rA S' (dc tl c a u).2 → frY S S' → Q (bI (dc tl c a u).1) S') : wp_X9_does S Q := by
  obtain ⟨n, p, K, gc, ed, E, G⟩ := u
  have R' : RA S n p K gc E G := R
  have O' : OA n p K gc E G := O
  have g4 := O'.1.2.2.2.2
  have t1 := P.1.1
  have hc := P.1.2.2
  unfold wp_X9_does
  intro S1 e1
  rw [P.2.2.1, nI_1] at e1
  have lt : a < tl := by
    rcases cl_cases g with ⟨q, -⟩ | ⟨-, q, -⟩ | ⟨q, -⟩
    · exact q.1
    · rcases q with h | h | h | h <;> exact h.1
    · exact q.1
  rw [P.2.2.1]
  refine ⟨vi (by omega) (by omega), fun x1 ex1 => ?_⟩
  have P1 := P.go (show a + 1 ≤ tl by omega)
  rw [← e1] at P1
  have fU : frU S S1 := by rw [e1]; exact frU.go
  have R1 := R'.fu fU
  rw [tn_nI (by omega), P1.2.2.2 a lt] at ex1
  have ca := hc a lt
  have k : ∀ j : Nat, j < 128 → (x1 = nI j ↔ is tl c j a) := fun j hj => by
    rw [ex1, nI_eq (by omega) (by omega)]
    exact ⟨fun q => ⟨lt, q⟩, fun q => q.2⟩
  have k120 := k 120 (by omega)
  have k103 := k 103 (by omega)
  have k110 := k 110 (by omega)
  have k112 := k 112 (by omega)
  have k111 := k 111 (by omega)
  have z120 : (120 : Int32) = nI 120 := rfl
  have z103 : (103 : Int32) = nI 103 := rfl
  have z110 : (110 : Int32) = nI 110 := rfl
  have z112 : (112 : Int32) = nI 112 := rfl
  have z111 : (111 : Int32) = nI 111 := rfl
  rw [z120, z103, z110, z112, z111, k120, k103, k110, k112, k111]
  rcases cl_cases g with ⟨q, e2⟩ | ⟨nx, q, d, e2⟩ | ⟨d, q, e2, gs⟩
  · refine ⟨fun z => absurd q z, fun _ S9 e9 => ?_⟩
    have ed' : dc tl c a (n, p, K, gc, ed, E, G) = (true, (n, p, K, 0, ed + 1, E, G)) := isB_if q
    rw [ed', e2] at hQ
    have f9 : frR S1 S9 := by rw [e9]; exact frR.fld (by decide)
    have f : ∀ j, S9.1 353 j = if j = 6 then 0 else S1.1 353 j := fun j => by rw [e9, uA353]
    obtain ⟨c1, c2, c3, c4, c5, c6, c7⟩ := id R1
    exact hQ S9 (P1.fr f9) (R1.fld (fun c hc => by rw [e9, uA_ne hc]) (by rw [f]; exact c1) (by rw [f]; exact c2) (by rw [f]; exact c3) (by rw [f]; exact c4) (by rw [f]; rfl) (Nat.zero_le _)) (fU.toY.tr f9.toY)
  · have l4 : c (a + 1) - 48 < 10 := by have := d.2; omega
    have lb := d.1
    rw [e2] at hQ
    have main : q_X9_does_54 Q x1 S1 := by
      unfold q_X9_does_54
      intro S2 e3
      rw [P1.2.2.1, nI_1, e1, uA_uA] at e3
      rw [P1.2.2.1]
      refine ⟨vi (by omega) (by omega), fun x2 ex2 => ?_⟩
      have P2 := P.go (show a + 2 ≤ tl by omega)
      have e3' : S2 = uA S 353 15 (nI (a + 2)) := e3
      rw [← e3'] at P2
      have fU2 : frU S S2 := by rw [e3']; exact frU.go
      have R2 := R'.fu fU2
      rw [tn_nI (by omega), P2.2.2.2 _ lb, show (48 : Int32) = nI 48 from rfl, nI_sub d.2.1] at ex2
      have pos : ∀ j : Nat, j < 100 → ¬ nI j < 0 := fun j hj => nI_pos (by omega)
      unfold q_X9_does_121 q_X9_does_129
      rw [z103, z110, z112, k103, k110, k112, ex2]
      by_cases q1 : is tl c 103 a
      · refine ⟨fun z => absurd q1 z, fun _ => sp_gen9' R2 g4 (fun v hv ev hg S3 R3 f3 => ⟨fun z => absurd z (pos _ (by omega)), fun _ => ⟨narb1, ?_⟩⟩) (fun _ hg => ⟨fun _ => ⟨narb0, ?_⟩, fun z => absurd (by decide) z⟩) (fun hn => ⟨fun _ => ⟨narb0, ?_⟩, fun z => absurd (by decide) z⟩)⟩
        · rw [nI_eq (by omega) (by omega)] at ev
          subst ev
          have ed' : dc tl c a (n, p, K, gc, ed, E, G) = (true, (n, p, K, gc + 1, ed + 1, E, gE gc (c (a + 1) - 48) E G)) := by
            show dq tl c a n p K gc ed E G = _
            unfold dq
            rw [isB_el nx, isB_if q1, isB_if ⟨hv, hg⟩]
          rw [ed'] at hQ
          exact hQ S3 (P2.fr f3) R3 (fU2.toY.tr f3.toY)
        · have ed' : dc tl c a (n, p, K, gc, ed, E, G) = (false, (n, p, K, gc, ed, E, G)) := by
            show dq tl c a n p K gc ed E G = _
            unfold dq
            rw [isB_el nx, isB_if q1, isB_el (fun z => by omega)]
          rw [ed'] at hQ
          exact hQ S2 P2 R2 fU2.toY
        · have ed' : dc tl c a (n, p, K, gc, ed, E, G) = (false, (n, p, K, gc, ed, E, G)) := by
            show dq tl c a n p K gc ed E G = _
            unfold dq
            rw [isB_el nx, isB_if q1, isB_el (fun z => hn ⟨_, z.1, rfl⟩)]
          rw [ed'] at hQ
          exact hQ S2 P2 R2 fU2.toY
      · refine ⟨fun _ => ?_, fun z => absurd z q1⟩
        by_cases q2 : is tl c 110 a
        · refine ⟨fun z => absurd q2 z, fun _ => sp_letters9 R2 (fun m m2 m4 ev S3 R3 f3 => ⟨fun z => absurd z (pos _ (by have := O'.1.2.1; omega)), fun _ => ⟨narb1, ?_⟩⟩) (fun hn => ⟨fun _ => ⟨narb0, ?_⟩, fun z => absurd (by decide) z⟩)⟩
          · rw [nI_eq (by omega) (by omega)] at ev
            subst ev
            have ed' : dc tl c a (n, p, K, gc, ed, E, G) = (true, (c (a + 1) - 48, p, K, 0, ed + 1, E0, G)) := by
              show dq tl c a n p K gc ed E G = _
              unfold dq
              rw [isB_el nx, isB_el q1, isB_if q2, isB_if ⟨m2, m4⟩]
            rw [ed'] at hQ
            exact hQ S3 (P2.fr f3) R3 (fU2.toY.tr f3.toY)
          · have ed' : dc tl c a (n, p, K, gc, ed, E, G) = (false, (n, p, K, gc, ed, E, G)) := by
              show dq tl c a n p K gc ed E G = _
              unfold dq
              rw [isB_el nx, isB_el q1, isB_if q2, isB_el (fun z => hn ⟨_, z.1, z.2, rfl⟩)]
            rw [ed'] at hQ
            exact hQ S2 P2 R2 fU2.toY
        · refine ⟨fun _ => ?_, fun z => absurd z q2⟩
          by_cases q3 : is tl c 112 a
          · refine ⟨fun z => absurd q3 z, fun _ => sp_prime9 R2 (fun m hm ev S3 R3 f3 => ⟨fun z => absurd z (pos _ (by have := O'.1.2.2.1.pos; omega)), fun _ => ⟨narb1, ?_⟩⟩) (fun hn => ⟨fun _ => ⟨narb0, ?_⟩, fun z => absurd (by decide) z⟩)⟩
            · rw [nI_eq (by omega) (by have := hm.pos; omega)] at ev
              subst ev
              have ed' : dc tl c a (n, p, K, gc, ed, E, G) = (true, (n, c (a + 1) - 48, K, 0, ed + 1, E0, G)) := by
                show dq tl c a n p K gc ed E G = _
                unfold dq
                rw [isB_el nx, isB_el q1, isB_el q2, isB_if q3, isB_if hm]
              rw [ed'] at hQ
              exact hQ S3 (P2.fr f3) R3 (fU2.toY.tr f3.toY)
            · have ed' : dc tl c a (n, p, K, gc, ed, E, G) = (false, (n, p, K, gc, ed, E, G)) := by
                show dq tl c a n p K gc ed E G = _
                unfold dq
                rw [isB_el nx, isB_el q1, isB_el q2, isB_if q3, isB_el (fun z => hn ⟨_, z, rfl⟩)]
              rw [ed'] at hQ
              exact hQ S2 P2 R2 fU2.toY
          · have q4 : is tl c 111 a := by
              rcases q with h | h | h | h
              · exact absurd h q1
              · exact absurd h q2
              · exact absurd h q3
              · exact h
            refine ⟨fun _ => sp_order9 R2 (fun m hm ev S3 R3 f3 => ⟨fun z => absurd z (pos _ (by have := O'.1.2.2.2.1; omega)), fun _ => ⟨narb1, ?_⟩⟩) (fun hn => ⟨fun _ => ⟨narb0, ?_⟩, fun z => absurd (by decide) z⟩), fun z => absurd z q3⟩
            · rw [nI_eq (by omega) (by omega)] at ev
              subst ev
              have ed' : dc tl c a (n, p, K, gc, ed, E, G) = (true, (n, p, c (a + 1) - 48, gc, ed + 1, E, G)) := by
                show dq tl c a n p K gc ed E G = _
                unfold dq
                rw [isB_el nx, isB_el q1, isB_el q2, isB_el q3, isB_if q4, isB_if hm]
              rw [ed'] at hQ
              exact hQ S3 (P2.fr f3) R3 (fU2.toY.tr f3.toY)
            · have ed' : dc tl c a (n, p, K, gc, ed, E, G) = (false, (n, p, K, gc, ed, E, G)) := by
                show dq tl c a n p K gc ed E G = _
                unfold dq
                rw [isB_el nx, isB_el q1, isB_el q2, isB_el q3, isB_if q4, isB_el (fun z => hn ⟨_, z, rfl⟩)]
              rw [ed'] at hQ
              exact hQ S2 P2 R2 fU2.toY
    refine ⟨fun _ => ⟨fun _ => main, fun n1 => ⟨fun _ => main, fun n2 => ⟨fun _ => main, fun n3 => ⟨fun n4 => ?_, fun _ => main⟩⟩⟩⟩, fun z => absurd z nx⟩
    rcases q with h | h | h | h
    · exact absurd h n1
    · exact absurd h n2
    · exact absurd h n3
    · exact absurd h n4
  · have d2 := d.2
    have no : ∀ k, (k < 48 ∨ 57 < k) → ¬ is tl c k a := fun k hk z => by have := z.2; omega
    have n120 := no 120 (by omega)
    have n103 := no 103 (by omega)
    have n110 := no 110 (by omega)
    have n112 := no 112 (by omega)
    have n111 := no 111 (by omega)
    refine ⟨fun _ => ⟨fun z => absurd z n103, fun _ => ⟨fun z => absurd z n110, fun _ => ⟨fun z => absurd z n112, fun _ => ⟨fun _ => ?_, fun z => absurd z n111⟩⟩⟩⟩, fun z => absurd z n120⟩
    have n4 := O'.1.2.1
    have hp := O'.1.2.2.1
    have hpp := hp.pos
    have pn := pow_n n4
    have ev : x1 = nI (48 + (c a - 48)) := by rw [ex1]; congr 1; omega
    refine loopE (fun m i (T : Sto) => q_X9_does_132 Q m x1 (nI i) T) (fun i T => (∀ k, k ≠ 372 → T.1 k = S1.1 k) ∧ T.2 = S1.2 ∧ ∀ k, k < i → T.1 372 k = 0) 16 ?_ ?_ 0 S1 (by omega) ⟨fun _ _ => rfl, rfl, fun k q => by omega⟩
    · rintro T ⟨u1, u2, u3⟩
      unfold q_X9_does_132
      refine ⟨fun _ => ?_, fun q => absurd (show (16 : Int32) ≤ nI 16 by decide) q⟩
      have fT : frU S1 T := ⟨fun k _ h => u1 k h, fun j _ => by rw [u1 353 (by decide)], u2⟩
      have PT : PR T tl c (a + 1) := ⟨P1.1, by rw [u1 353 (by decide)]; exact P1.2.1, by rw [u1 353 (by decide)]; exact P1.2.2.1, fun i hi => by rw [u1 360 (by decide)]; exact P1.2.2.2 i hi⟩
      have hz : rg T 372 p (fun _ => 0) := fun i hi => ⟨by rw [u3 i hi]; rfl, by show (0 : Int) ≤ 0; omega, by show (0 : Int) < p; omega⟩
      have sub : x1 - 48 = nI (c a - 48) := by rw [ev, show (48 : Int32) = nI 48 from rfl, nI_sub (by omega)]; congr 1; omega
      -- from the sum on
      have go : ∀ (b : Bool) (S5 : Sto) (less : Bool), (b = true ↔ c a - 48 < 6) → frU T S5 → PR S5 tl c (sb tl c a) → rg S5 372 p (fun _ => 0) → fI less = sf tl c a → q_X9_does_196 Q 101 x1 (bI b) 1 (bI less) S5 := by
        intro b S5 less hb f5 P5 z5 hl
        have FU : frU S S5 := (fU.tr fT).tr f5
        have R5 := R'.fu FU
        refine sp_doesLoop (n := n) (p := p) n4 hp 100 (sb tl c a) less b (fun _ => 0) (fun _ => 0) S5 P5 gs (by rw [← e2]; exact gd) (by rw [← e2]; exact gl) R5.2.2.2.1 R5.2.1 z5 (fun _ _ _ => rfl) (fun S6 z6 f6 P6 h6 w6 => ?_)
        rw [hl] at w6 ⊢
        have R6 := R5.fu f6
        have ab := ad_b (tl := tl) (c := c) (n := n) (p := p) b 100 (sb tl c a) (sf tl c a) true (fun _ => 0)
        rw [Bool.and_true] at ab
        rw [ab] at w6 ⊢
        have dE : dc tl c a (n, p, K, gc, ed, E, G) = if isB (c a - 48 < 6 ∧ (ad tl c n p 100 (sb tl c a) (sf tl c a) (true, fun _ => 0)).1 = true) then (true, (n, p, K, gc, ed, rE n (c a - 48) (ad tl c n p 100 (sb tl c a) (sf tl c a) (true, fun _ => 0)).2 E, G)) else (false, (n, p, K, gc, ed, E, G)) := by
          show dq tl c a n p K gc ed E G = _
          unfold dq
          rw [isB_el n120, isB_el n103, isB_el n110, isB_el n112, isB_el n111]
        have P6' : PR S6 tl c (cl tl c a).2 := by rw [e2]; exact P6
        have FY : frY S S6 := (FU.tr f6).toY
        rw [ev]
        refine sp_272 (n := n) (r := (ad tl c n p 100 (sb tl c a) (sf tl c a) (true, fun _ => 0)).2) R6 n4 (by omega) (fun q => ?_) (fun q => ?_) (fun q S7 R7 f7 => ?_)
        · have q' := Bool.and_eq_true_iff.mp q
          exact ⟨hb.mp q'.1, fun i hi => by rw [(h6 i hi).1, w6 q i hi], ad_0 n4 100 _ _ _ (fun _ _ => rfl)⟩
        · rw [isB_el (fun t => by
            have : (b && (ad tl c n p 100 (sb tl c a) (sf tl c a) (true, fun _ => 0)).1) = true := by rw [hb.mpr t.1, t.2]; rfl
            exact absurd (this.symm.trans q) (by decide))] at dE
          rw [dE] at hQ
          exact hQ S6 P6' R6 FY
        · have q' := Bool.and_eq_true_iff.mp q
          rw [isB_if ⟨hb.mp q'.1, q'.2⟩] at dE
          rw [dE] at hQ
          exact hQ S7 (P6'.fr f7) R7 (FY.tr f7.toY)
      have cont : ∀ b : Bool, (b = true ↔ c a - 48 < 6) → ∀ S4 : Sto, S4 = uA T 353 15 ((T.1 353 15) + 1) → wp_X9_sign_ S4 (fun r_6 S_5 => ((¬ r_6 = 45 → (∃ n_196, q_X9_does_196 Q n_196 x1 (bI b) 1 0 S_5)) ∧ (r_6 = 45 → ∀ S_8 : Sto, S_8 = uA S_5 353 15 ((S_5.1 353 15) + 1) → (∃ n_196, q_X9_does_196 Q n_196 x1 (bI b) 1 1 S_8)))) := by
        intro b hb S4 e4
        rw [PT.2.2.1, nI_1] at e4
        have P4 := PT.go (show a + 1 + 1 ≤ tl from q.1)
        rw [← e4] at P4
        refine sp_sign_ P4 ?_
        rw [show (45 : Int32) = nI 45 from rfl, sn_eq hc (by omega)]
        refine ⟨fun n1 => ⟨101, ?_⟩, fun q1 S8 e8 => ⟨101, ?_⟩⟩
        · have b1 : sb tl c a = a + 2 := isB_el (P := is tl c 45 (a + 2)) n1
          have b2 : sf tl c a = 1 := isB_el (P := is tl c 45 (a + 2)) n1
          exact go b S4 false hb (by rw [e4]; exact frU.go) (by rw [b1]; exact P4) (fun i hi => by rw [e4, uA_ne (by decide)]; exact hz i hi) (by rw [b2]; rfl)
        · have b1 : sb tl c a = a + 2 + 1 := isB_if (P := is tl c 45 (a + 2)) q1
          have b2 : sf tl c a = -1 := isB_if (P := is tl c 45 (a + 2)) q1
          rw [P4.2.2.1, nI_1, e4, uA_uA] at e8
          have P8 := PT.go (show a + 1 + 1 + 1 ≤ tl from q1.1)
          rw [← e8] at P8
          exact go b S8 true hb (by rw [e8]; exact frU.go) (by rw [b1]; exact P8) (fun i hi => by rw [e8, uA_ne (by decide)]; exact hz i hi) (by rw [b2]; rfl)
      rw [sub]
      refine sp_elem9 (fun ⟨k, hk, ek⟩ => ?_) (fun hn => ?_)
      · rw [nI_eq (by omega) (by omega)] at ek
        exact cont true ⟨fun _ => by omega, fun _ => rfl⟩
      · exact cont false ⟨fun z => absurd z (by decide), fun z => absurd ⟨_, z, rfl⟩ hn⟩
    · rintro i m T hi ⟨u1, u2, u3⟩ ih
      unfold q_X9_does_132
      rw [show (16 : Int32) = nI 16 from rfl, nI_leI (by omega) (by omega), tn_nI (i := i) (by omega)]
      refine ⟨fun q => by omega, fun _ => ⟨vi hi (by omega), fun S6 e6 x ex => ?_⟩⟩
      rw [ex, nI_1]
      refine ih S6 ⟨fun k hk => by rw [e6, uA_ne hk]; exact u1 k hk, by rw [e6]; exact u2, fun k hk => ?_⟩
      rw [e6, uA_eq]
      by_cases q : k = i
      · rw [q, upd_eq]
      · rw [upd_ne _ _ q]; exact u3 k (by omega)
