/-! the call: read -/
def bN (b : Bool) : Nat := if b then 1 else 0
noncomputable def dt (tl : Nat) (c : Nat → Nat) : Nat → Nat → Us → Nat × Us
  | 0, _, u => (0, u)
  | m + 1, a, u => if (cl tl c a).2 < tl then (bN (dc tl c a u).1 + (dt tl c m ((cl tl c a).2 + 1) (dc tl c a u).2).1, (dt tl c m ((cl tl c a).2 + 1) (dc tl c a u).2).2) else (bN (dc tl c a u).1, (dc tl c a u).2)
theorem ad_rg {tl : Nat} {c : Nat → Nat} {n p : Nat} (hp : isP p) : ∀ m a f w, (∀ i, 0 ≤ w.2 i ∧ w.2 i < (p : Int)) → ∀ i, 0 ≤ (ad tl c n p m a f w).2 i ∧ (ad tl c n p m a f w).2 i < (p : Int)
  | 0, _, _, _, h => h
  | m + 1, a, f, w, h => by
    have hpp := hp.pos
    have st : ∀ i, 0 ≤ (at1 tl c n p a f w).2 i ∧ (at1 tl c n p a f w).2 i < (p : Int) := by
      intro i
      unfold at1
      by_cases q : (Lf tl c n a).1 = true
      · rw [if_pos q]
        show 0 ≤ vU _ _ _ i ∧ vU _ _ _ i < (p : Int)
        unfold vU
        by_cases q2 : i = (Lf tl c n a).2.1
        · rw [if_pos q2]; exact ⟨Int.emod_nonneg _ (by omega), Int.emod_lt_of_pos _ (by omega)⟩
        · rw [if_neg q2]; exact h i
      · rw [if_neg q]; exact h i
    have e : ad tl c n p (m + 1) a f w = if isB (is tl c 43 (te tl c a)) then ad tl c n p m (te tl c a + 1) 1 (at1 tl c n p a f w) else if isB (is tl c 45 (te tl c a)) then ad tl c n p m (te tl c a + 1) (-1) (at1 tl c n p a f w) else at1 tl c n p a f w := rfl
    rw [e]
    by_cases q1 : is tl c 43 (te tl c a)
    · rw [isB_if q1]; exact ad_rg hp m _ _ _ st
    · rw [isB_el q1]
      by_cases q2 : is tl c 45 (te tl c a)
      · rw [isB_if q2]; exact ad_rg hp m _ _ _ st
      · rw [isB_el q2]; exact st
theorem dc_ok {tl a : Nat} {c : Nat → Nat} {u : Us} (O : oA u) : oA (dc tl c a u).2 ∧ eD u (dc tl c a u).2 ∧ (dc tl c a u).2.2.2.2.2.1 ≤ u.2.2.2.2.1 + 1 := by
  obtain ⟨n, p, K, gc, ed, E, G⟩ := u
  have O' : OA n p K gc E G := O
  have rf : oA (n, p, K, gc, ed, E, G) ∧ eD (n, p, K, gc, ed, E, G) (n, p, K, gc, ed, E, G) ∧ ed ≤ ed + 1 := ⟨O, Edt.rf, by omega⟩
  have nw : ∀ n' p' K' gc' E' G', OA n' p' K' gc' E' G' → oA (n', p', K', gc', ed + 1, E', G') ∧ eD (n, p, K, gc, ed, E, G) (n', p', K', gc', ed + 1, E', G') ∧ ed + 1 ≤ ed + 1 := fun n' p' K' gc' E' G' h => ⟨h, Edt.new (show ed < ed + 1 by omega), Nat.le_refl _⟩
  rw [show dc tl c a (n, p, K, gc, ed, E, G) = dq tl c a n p K gc ed E G from rfl]
  unfold dq
  by_cases q1 : is tl c 120 a
  · rw [isB_if q1]; exact nw _ _ _ _ _ _ O'.drop
  rw [isB_el q1]
  by_cases q2 : is tl c 103 a
  · rw [isB_if q2]
    by_cases q : c (a + 1) - 48 < 6 ∧ gc < 4
    · rw [isB_if q]; exact nw _ _ _ _ _ _ (O'.gen q.1 q.2)
    · rw [isB_el q]; exact rf
  rw [isB_el q2]
  by_cases q3 : is tl c 110 a
  · rw [isB_if q3]
    by_cases q : 2 ≤ c (a + 1) - 48 ∧ c (a + 1) - 48 ≤ 4
    · rw [isB_if q]; exact nw _ _ _ _ _ _ (O'.new q O'.1.2.2.1)
    · rw [isB_el q]; exact rf
  rw [isB_el q3]
  by_cases q4 : is tl c 112 a
  · rw [isB_if q4]
    by_cases q : isP (c (a + 1) - 48)
    · rw [isB_if q]; exact nw _ _ _ _ _ _ (O'.new ⟨O'.1.1, O'.1.2.1⟩ q)
    · rw [isB_el q]; exact rf
  rw [isB_el q4]
  by_cases q5 : is tl c 111 a
  · rw [isB_if q5]
    by_cases q : c (a + 1) - 48 < 2
    · rw [isB_if q]; exact nw _ _ _ _ _ _ (O'.ord q)
    · rw [isB_el q]; exact rf
  rw [isB_el q5]
  by_cases q : c a - 48 < 6 ∧ (ad tl c n p 100 (sb tl c a) (sf tl c a) (true, fun _ => 0)).1 = true
  · rw [isB_if q]
    have hp := O'.1.2.2.1
    exact ⟨O'.rep (fun i _ => ad_rg hp 100 _ _ _ (fun _ => ⟨by show (0 : Int) ≤ 0; omega, by have := hp.pos; show (0 : Int) < p; omega⟩) i), Edt.rf, by show ed ≤ ed + 1; omega⟩
  · rw [isB_el q]; exact rf
theorem dt_ok {tl : Nat} {c : Nat → Nat} : ∀ m a u, oA u → oA (dt tl c m a u).2 ∧ eD u (dt tl c m a u).2 ∧ (dt tl c m a u).2.2.2.2.2.1 ≤ u.2.2.2.2.1 + m
  | 0, _, u, O => ⟨O, Edt.rf, Nat.le_refl _⟩
  | m + 1, a, u, O => by
    obtain ⟨d1, d2, d3⟩ := dc_ok (tl := tl) (a := a) (c := c) O
    unfold dt
    by_cases q : (cl tl c a).2 < tl
    · rw [if_pos q]
      obtain ⟨e1, e2, e3⟩ := dt_ok m ((cl tl c a).2 + 1) _ d1
      exact ⟨e1, Edt.tr d2 e2, by show (dt tl c m _ _).2.2.2.2.2.1 ≤ _; omega⟩
    · rw [if_neg q]
      exact ⟨d1, d2, by show (dc tl c a u).2.2.2.2.2.1 ≤ _; omega⟩
theorem fp_st {tl : Nat} {c : Nat → Nat} {m a : Nat} (h : (fp tl c (m + 1) a).1 = true) : (cl tl c a).1 = true ∧ ((cl tl c a).2 < tl → 0 < m ∧ is tl c 59 (cl tl c a).2 ∧ (fp tl c m ((cl tl c a).2 + 1)).1 = true) := by
  have e : fp tl c (m + 1) a = if (cl tl c a).1 then (if (cl tl c a).2 < tl then (if m = 0 then (false, (cl tl c a).2) else if isB (is tl c 59 (cl tl c a).2) then fp tl c m ((cl tl c a).2 + 1) else (false, (cl tl c a).2)) else (true, (cl tl c a).2)) else (false, (cl tl c a).2) := rfl
  by_cases g : (cl tl c a).1 = true
  · refine ⟨g, fun lt => ?_⟩
    rw [if_pos g, if_pos lt] at e
    by_cases m0 : m = 0
    · rw [if_pos m0] at e
      rw [e] at h; exact absurd h Bool.false_ne_true
    · rw [if_neg m0] at e
      by_cases q : is tl c 59 (cl tl c a).2
      · rw [isB_if q] at e
        exact ⟨by omega, q, by rw [← e]; exact h⟩
      · rw [isB_el q] at e
        rw [e] at h; exact absurd h Bool.false_ne_true
  · rw [if_neg g] at e
    rw [e] at h; exact absurd h Bool.false_ne_true
theorem cl_lt {tl a : Nat} {c : Nat → Nat} (g : (cl tl c a).1 = true) : a < tl := by
  rcases cl_cases g with ⟨q, -⟩ | ⟨-, q, -⟩ | ⟨q, -⟩
  · exact q.1
  · rcases q with h | h | h | h <;> exact h.1
  · exact q.1
theorem bI_0 {b : Bool} : bI b = 0 ↔ b = false := by cases b <;> decide
theorem sp_performLoop {tl : Nat} {c : Nat → Nat} {Q : Int32 → Sto → Prop} : ∀ m x d a u S, x + m = 13 → PC S tl c a → (fp tl c m a).1 = true → cA S u → oA u → (∀ S', cA S' (dt tl c m a u).2 → frX S S' → Q (nI (d + (dt tl c m a u).1)) S') → q_X3_perform_9 Q (m + 1) (nI d) (nI x) S := by
  intro m
  induction m with
  | zero => intro x d a u S _ _ g; exact absurd g (by show ¬ false = true; decide)
  | succ m ih =>
    intro x d a u S hx P g C O hQ
    obtain ⟨g1, g2⟩ := fp_st g
    have la := cl_lt g1
    have lc := cl_tl (c := c) P.1.2.1
    have t1 := P.1.1
    unfold q_X3_perform_9
    rw [show (12 : Int32) = nI 12 from rfl, nI_ltI (by omega) (by omega), P.2.1, P.2.2.1, nI_leI (by omega) (by omega)]
    have dE : dt tl c (m + 1) a u = if (cl tl c a).2 < tl then (bN (dc tl c a u).1 + (dt tl c m ((cl tl c a).2 + 1) (dc tl c a u).2).1, (dt tl c m ((cl tl c a).2 + 1) (dc tl c a u).2).2) else (bN (dc tl c a u).1, (dc tl c a u).2) := rfl
    refine ⟨fun q => by omega, fun _ => ⟨fun q => by omega, fun _ => sp_doClause P g1 C O (fun S1 P1 C1 f1 => ?_)⟩⟩
    have nx : ∀ t : Int32, t = nI (bN (dc tl c a u).1) → q_X3_perform_40 (fun y2 y3 S => q_X3_perform_9 Q (m + 1) y2 y3 S) Q (nI x) (nI d) t S1 := by
      intro t et
      unfold q_X3_perform_40
      intro x2 e2
      rw [et, nI_add] at e2
      rw [e2]
      by_cases lt : (cl tl c a).2 < tl
      · obtain ⟨m0, c59, gf⟩ := g2 lt
        rw [if_pos lt] at dE
        rw [dE] at hQ
        refine sp_passSign (k := 59) P1 (by omega) (fun l1 c1 y ey => ?_) (fun n1 => absurd c59 n1)
        rw [ey, nI_1]
        refine ih (x + 1) _ _ _ _ (by omega) (P1.go (by omega)) gf (C1.eq (dc_ok O).1.1.2.2.2.2 (fun k h1 h2 => uA_ne (by omega))) (dc_ok O).1 (fun S2 C2 f2 => ?_)
        have := hQ S2 C2 ((f1.tr frX.go).tr f2)
        rw [← Nat.add_assoc] at this
        exact this
      · rw [if_neg lt] at dE
        rw [dE] at hQ
        refine sp_passSign (k := 59) P1 (by omega) (fun l1 c1 => absurd l1 lt) (fun n1 y ey => ?_)
        rw [ey, nI_1, uA_same S1 35 2 P1.2.2.1]
        show q_X3_perform_9 Q (m + 1) (nI (d + bN (dc tl c a u).1)) (nI (x + 1)) S1
        have fin := hQ S1 C1 f1
        unfold q_X3_perform_9 q_X3_perform_55
        rw [P1.2.1, P1.2.2.1, nI_leI (by omega) (by omega)]
        exact ⟨fun _ => fin, fun _ => ⟨fun _ => fin, fun q => by omega⟩⟩
    refine ⟨fun z => nx 0 ?_, fun z => nx 1 ?_⟩
    · rw [bI_0.mp z]; rfl
    · have : (dc tl c a u).1 = true := by
        cases h : (dc tl c a u).1 with
        | true => rfl
        | false => rw [h] at z; exact absurd rfl z
      rw [this]; rfl
theorem sp_readLoop {tl : Nat} {c : Nat → Nat} {Q : Int32 → Sto → Prop} : ∀ m d a u S, PR S tl c a → (fp tl c m a).1 = true → rA S u → oA u → (∀ S', rA S' (dt tl c m a u).2 → frY S S' → Q (nI (d + (dt tl c m a u).1)) (uA S' 353 14 0)) → q_X9_read_27 Q (m + 1) (nI d) S := by
  intro m
  induction m with
  | zero => intro d a u S _ g; exact absurd g (by show ¬ false = true; decide)
  | succ m ih =>
    intro d a u S P g R O hQ
    obtain ⟨g1, g2⟩ := fp_st g
    have la := cl_lt g1
    have lc := cl_tl (c := c) P.1.2.1
    have t1 := P.1.1
    unfold q_X9_read_27
    rw [P.2.1, P.2.2.1, nI_leI (by omega) (by omega)]
    have dE : dt tl c (m + 1) a u = if (cl tl c a).2 < tl then (bN (dc tl c a u).1 + (dt tl c m ((cl tl c a).2 + 1) (dc tl c a u).2).1, (dt tl c m ((cl tl c a).2 + 1) (dc tl c a u).2).2) else (bN (dc tl c a u).1, (dc tl c a u).2) := rfl
    have gd : ¬ dg tl c (cl tl c a).2 := fun q => by have := (g2 q.1).2.1.2; have := q.2; omega
    have gl : ¬ lt' tl c (cl tl c a).2 := fun q => by have := (g2 q.1).2.1.2; have := q.2; omega
    refine ⟨fun q => by omega, fun _ => sp_does P g1 gd gl R O (fun S1 P1 R1 f1 => ?_)⟩
    have k : ∀ x : Int32, ∀ j, j ≠ 15 → (uA S1 353 15 x).1 353 j = S1.1 353 j := fun x j hj => by rw [uA_eq, upd_ne _ _ hj]
    have nx : ∀ x1 : Int32, x1 = nI (d + bN (dc tl c a u).1) → q_X9_read_48 (fun y1 S => q_X9_read_27 Q (m + 1) y1 S) Q x1 S1 := by
      intro x1 ex
      unfold q_X9_read_48
      intro S2 e2
      rw [P1.2.2.1, nI_1] at e2
      rw [ex]
      have R2 : rA S2 (dc tl c a u).2 := by rw [e2]; exact RA.fu R1 frU.go
      have f2 : frY S1 S2 := by rw [e2]; exact frU.go.toY
      by_cases lt : (cl tl c a).2 < tl
      · obtain ⟨m0, c59, gf⟩ := g2 lt
        rw [if_pos lt] at dE
        rw [dE] at hQ
        have P2 := P1.go (show (cl tl c a).2 + 1 ≤ tl by omega)
        rw [← e2] at P2
        refine ih _ _ _ S2 P2 gf R2 (dc_ok O).1 (fun S3 R3 f3 => ?_)
        have := hQ S3 R3 ((f1.tr f2).tr f3)
        rw [← Nat.add_assoc] at this
        exact this
      · rw [if_neg lt] at dE
        rw [dE] at hQ
        show q_X9_read_27 Q (m + 1) (nI (d + bN (dc tl c a u).1)) S2
        unfold q_X9_read_27
        have a14 : S2.1 353 14 = nI tl := by rw [e2, k _ 14 (by decide)]; exact P1.2.1
        have a15 : S2.1 353 15 = nI ((cl tl c a).2 + 1) := by rw [e2, uA_eq, upd_eq]
        rw [a14, a15, nI_leI (by omega) (by omega)]
        refine ⟨fun _ S3 e3 => ?_, fun q => by omega⟩
        rw [e3]
        exact hQ S2 R2 (f1.tr f2)
    refine ⟨fun z => nx _ ?_, fun z x1 ex => nx x1 ?_⟩
    · rw [bI_0.mp z]; rfl
    · have : (dc tl c a u).1 = true := by
        cases h : (dc tl c a u).1 with
        | true => rfl
        | false => rw [h] at z; exact absurd rfl z
      rw [ex, this, nI_1]; rfl
