/-! the call that shifts items (2) -/
theorem sp_stretch8 {t l : Nat} {i n : Int32} {S : Sto} {Q : Int32 → Sto → Prop} (ht : t < 6) (hl : S.1 40 t = nI l) (l60 : l ≤ 60) (h1 : ∀ a c, i = nI a → n = nI c → a + c ≤ l → Q 1 S) (h0 : (¬ ∃ a c, i = nI a ∧ n = nI c ∧ a + c ≤ l) → Q 0 S) : wp_X7_hasStretch (nI t) i n S Q := by
  unfold wp_X7_hasStretch q_X7_hasStretch_34 q_X7_hasStretch_35
  rw [tn_nI (by omega), hl]
  refine ⟨fun q => ⟨narb0, h0 (fun ⟨a, c, e, _, h⟩ => by rw [e] at q; exact nI_pos (by omega) q)⟩, fun q => ⟨fun q2 => ⟨narb0, h0 (fun ⟨a, c, _, e, h⟩ => by rw [e] at q2; exact nI_pos (by omega) q2)⟩, fun q2 => ?_⟩⟩
  obtain ⟨a, ha, rfl⟩ := nI_of q
  obtain ⟨c, hc, rfl⟩ := nI_of q2
  rw [nI_ltI (by omega) ha]
  refine ⟨vi ht (by omega), fun z => ⟨narb0, h0 (fun ⟨a', c', e, _, h⟩ => by rw [nI_eq ha (by omega)] at e; omega)⟩, fun z => ⟨vi ht (by omega), ?_⟩⟩
  rw [nI_sub (by omega), nI_ltI (by omega) hc]
  refine ⟨fun z2 => ⟨narb0, h0 (fun ⟨a', c', e, e', h⟩ => by rw [nI_eq ha (by omega)] at e; rw [nI_eq hc (by omega)] at e'; omega)⟩, fun z2 => ⟨narb1, h1 a c rfl rfl (by omega)⟩⟩
theorem nn_cases (x : Int32) : x < 0 ∨ ∃ a : Nat, a < 2 ^ 31 ∧ x = nI a := by
  by_cases q : x < 0
  · exact Or.inl q
  · exact Or.inr (nI_of q)
theorem op_shift {S : Sto} {b : Nat} (x i y j n' : Int32) (H : Rel S b) : wp_X8_shift x i y j n' S (fun r S1 => wp_X9_shift x i y j n' S1 (fun r' S2 => r = r' ∧ Rel S2 b)) := by
  obtain ⟨n, p, K, gc, ec, bc, H⟩ := H.r0
  unfold wp_X8_shift q_X8_shift_22 q_X8_shift_46 q_X8_shift_102
  have none : (¬ ((∃ k, k < 6 ∧ x = nI k) ∧ ∃ j, j < 6 ∧ y = nI j)) → wp_X9_shift x i y j n' S (fun r' S2 => (-1 : Int32) = r' ∧ Rel S2 b) := by
    intro hn
    unfold wp_X9_shift q_X9_shift_14
    refine sp_tape9 (fun hk => ⟨fun z => absurd z (by decide), fun _ => ?_⟩) (fun _ => ⟨fun _ => ⟨rfl, H.rel⟩, fun z => absurd rfl z⟩)
    exact sp_tape9 (fun hj => absurd ⟨hk, hj⟩ hn) (fun _ => ⟨fun z => absurd rfl z, fun _ => ⟨rfl, H.rel⟩⟩)
  refine sp_has8 (fun ⟨t, ht, e⟩ => ⟨fun z => absurd z (by decide), fun _ => ?_⟩) (fun h0 => ⟨fun _ => none (fun q => h0 q.1), fun z => absurd rfl z⟩)
  subst e
  refine sp_has8 (fun ⟨u, hu, e⟩ => ⟨fun _ => ?_, fun z => absurd z (by decide)⟩) (fun h0 => ⟨fun z => absurd rfl z, fun _ => none (fun q => h0 q.2)⟩)
  subst e
  obtain ⟨a1, a2, l, l60, a3, a4, a5⟩ := H.2.2.2.1 t ht
  obtain ⟨b1, b2, m, m60, b3, b4, b5⟩ := H.2.2.2.1 u hu
  have hlt := ln_tp t ht
  have hlu := ln_tp u hu
  -- the reference
  have ref : ∀ S1 (Q : Int32 → Sto → Prop), S1.1 = S.1 → ((S.1 39 t = -1 ∨ S.1 39 u = -1) → Q (-11) S1) → (¬ S.1 39 t = -1 → ¬ S.1 39 u = -1 → ¬ S.1 39 t = S.1 39 u → Q (-12) S1) → (¬ S.1 39 t = -1 → ¬ S.1 39 u = -1 → S.1 39 t = S.1 39 u → (¬ ∃ a c, i = nI a ∧ n' = nI c ∧ a + c ≤ l) ∨ (¬ ∃ a c, j = nI a ∧ n' = nI c ∧ a + c ≤ m) → Q (-13) S1) → (¬ S.1 39 t = -1 → ¬ S.1 39 u = -1 → S.1 39 t = S.1 39 u → ∀ a c d, i = nI a → n' = nI c → j = nI d → a + c ≤ l → d + c ≤ m → ∀ dn : Int32, ((dn = 1 ∧ 60 * u + d ≤ 60 * t + a) ∨ (dn = 0 ∧ 60 * t + a < 60 * u + d)) → q_X9_shift_128 (nI t) (nI a) (nI u) (nI d) (nI c) Q dn S1) → wp_X9_shift (nI t) i (nI u) j n' S1 Q := by
    intro S1 Q o r1 r2 r3 r4
    unfold wp_X9_shift q_X9_shift_34 q_X9_shift_104
    refine sp_tape9 (fun _ => ⟨fun z => absurd z (by decide), fun _ => ?_⟩) (fun h0 => absurd ⟨t, ht, rfl⟩ h0)
    refine sp_tape9 (fun _ => ⟨fun _ => ?_, fun z => absurd z (by decide)⟩) (fun h0 => absurd ⟨u, hu, rfl⟩ h0)
    rw [tn_nI (i := t) (by omega), tn_nI (i := u) (by omega), o, a1, b1, a2, b2, a3, b3]
    have sg1 : ∀ v : Int32, ((v = -1 ∧ l = 0) ∨ (∃ s, s < 5 ∧ v = nI s)) → (v < 0 ↔ v = -1) ∧ (0 ≤ v ↔ ¬ v = -1) := by
      intro v hv
      rcases hv with ⟨e, _⟩ | ⟨s, hs, e⟩
      · rw [e]; decide
      · rw [e]
        refine ⟨⟨fun z => absurd z (nI_pos (by omega)), fun z => absurd z (m1_ne (by omega))⟩, ⟨fun _ => m1_ne (by omega), fun _ => by rw [show (0 : Int32) = nI 0 from rfl, nI_leI (by omega) (by omega)]; omega⟩⟩
    have sg2 : ∀ v : Int32, ((v = -1 ∧ m = 0) ∨ (∃ s, s < 5 ∧ v = nI s)) → (v < 0 ↔ v = -1) ∧ (0 ≤ v ↔ ¬ v = -1) := by
      intro v hv
      rcases hv with ⟨e, _⟩ | ⟨s, hs, e⟩
      · rw [e]; decide
      · rw [e]
        refine ⟨⟨fun z => absurd z (nI_pos (by omega)), fun z => absurd z (m1_ne (by omega))⟩, ⟨fun _ => m1_ne (by omega), fun _ => by rw [show (0 : Int32) = nI 0 from rfl, nI_leI (by omega) (by omega)]; omega⟩⟩
    have s1 := sg1 _ a4
    have s2 := sg2 _ b4
    rw [s1.1, s2.2]
    refine ⟨vi ht (by omega), fun q => r1 (Or.inl q), fun q => ⟨vi hu (by omega), fun q2 => ⟨vi ht (by omega), vi hu (by omega), fun q3 => ?_, fun q3 => r2 q q2 q3⟩, fun q2 => r1 (Or.inr (Decidable.of_not_not q2))⟩⟩
    refine ⟨fun z => r3 q q2 q3 (Or.inl (fun ⟨a, c, _, e, h⟩ => by rw [e] at z; exact nI_pos (by omega) z)), fun z => ⟨fun z2 => r3 q q2 q3 (Or.inl (fun ⟨a, c, e, _, h⟩ => by rw [e] at z2; exact nI_pos (by omega) z2)), fun z2 => ⟨fun z3 => r3 q q2 q3 (Or.inr (fun ⟨a, c, e, _, h⟩ => by rw [e] at z3; exact nI_pos (by omega) z3)), fun z3 => ⟨vi ht (by omega), ?_⟩⟩⟩⟩
    obtain ⟨c, hc, ec'⟩ := nI_of z
    obtain ⟨a, ha, ea⟩ := nI_of z2
    obtain ⟨d, hd, ed'⟩ := nI_of z3
    subst ec'; subst ea; subst ed'
    rw [i64, i64, i64, i64, i64, nI_toInt hc, nI_toInt ha, nI_toInt hd, nI_toInt (by omega), nI_toInt (by omega), ← iL_add, ← iL_add, lg_cmp_gt, lg_cmp_le, iL_lt ⟨by omega, by omega⟩ ⟨by omega, by omega⟩, iL_le ⟨by omega, by omega⟩ ⟨by omega, by omega⟩]
    refine ⟨fun g => r3 q q2 q3 (Or.inl (fun ⟨a', c', e, e', h⟩ => by rw [nI_eq ha (by omega)] at e; rw [nI_eq hc (by omega)] at e'; omega)), fun g => ⟨vi hu (by omega), fun g2 => ?_, fun g2 => r3 q q2 q3 (Or.inr (fun ⟨a', c', e, e', h⟩ => by rw [nI_eq hd (by omega)] at e; rw [nI_eq hc (by omega)] at e'; omega))⟩⟩
    rw [show (60 : Int32) = nI 60 from rfl, pk_mul, pk_mul, nI_add, nI_add, nI_ltI (by omega) (by omega)]
    exact ⟨fun g3 => r4 q q2 q3 a c d rfl rfl rfl (by omega) (by omega) 0 (Or.inr ⟨rfl, g3⟩), fun g3 => r4 q q2 q3 a c d rfl rfl rfl (by omega) (by omega) 1 (Or.inl ⟨rfl, by omega⟩)⟩
  unfold wp_X7_isEmpty q_X7_isEmpty_15
  rw [tn_nI (i := t) (by omega), tn_nI (i := u) (by omega)]
  refine ⟨vi ht (by omega), fun nt => ⟨narb0, fun q => absurd rfl q, fun _ => ⟨vi hu (by omega), fun nu => ⟨narb0, fun _ => ⟨vi ht (by omega), vi hu (by omega), fun es => ?_, fun es => ref S _ rfl (fun q => absurd q (by simp [nt, nu])) (fun _ _ _ => ⟨rfl, H.rel⟩) (fun _ _ e => absurd e es) (fun _ _ e => absurd e es)⟩, fun q => absurd rfl q⟩, fun eu => ⟨narb1, fun q => absurd q (by decide), fun _ => ref S _ rfl (fun _ => ⟨rfl, H.rel⟩) (fun _ q => absurd eu q) (fun _ q => absurd eu q) (fun _ q => absurd eu q)⟩⟩⟩, fun et => ⟨narb1, fun _ => ref S _ rfl (fun _ => ⟨rfl, H.rel⟩) (fun q => absurd et q) (fun q => absurd et q) (fun q => absurd et q), fun q => absurd q (by decide)⟩⟩
  have no : ((¬ ∃ a c, i = nI a ∧ n' = nI c ∧ a + c ≤ l) ∨ (¬ ∃ a c, j = nI a ∧ n' = nI c ∧ a + c ≤ m)) → wp_X9_shift (nI t) i (nI u) j n' S (fun r' S2 => (-13 : Int32) = r' ∧ Rel S2 b) := by
    intro hn
    refine ref S _ rfl (fun q => absurd q (by simp [nt, nu])) (fun _ _ e => absurd es e) (fun _ _ _ _ => ⟨rfl, H.rel⟩) (fun _ _ _ a c d e1 e2 e3 h1 h2 => ?_)
    rcases hn with h | h
    · exact absurd ⟨a, c, e1, e2, h1⟩ h
    · exact absurd ⟨d, c, e3, e2, h2⟩ h
  refine sp_stretch8 ht a3 l60 (fun a c e1 e2 h1 => ⟨fun z => absurd z (by decide), fun _ => ?_⟩) (fun hn => ⟨fun _ => no (Or.inl hn), fun z => absurd rfl z⟩)
  refine sp_stretch8 hu b3 m60 (fun d c' e3 e4 h2 => ⟨fun _ => ⟨vi ht (by omega), vi hu (by omega), ?_, fun S25 e25 => ?_⟩, fun z => absurd z (by decide)⟩) (fun hn => ⟨fun z => absurd rfl z, fun _ => no (Or.inr hn)⟩)
  · have ecc : c' = c := by rw [e2, nI_eq (by omega) (by omega)] at e4; exact e4.symm
    subst ecc
    rw [e1, e2, e3, tn_nI (by omega), tn_nI (by omega), tn_nI (by omega), hlt, hlu]
    exact ⟨nI_pos (by omega), nI_pos (by omega), nI_pos (by omega), by omega, by omega⟩
  · have ecc : c' = c := by rw [e2, nI_eq (by omega) (by omega)] at e4; exact e4.symm
    subst ecc
    rw [e1, e2, e3, tn_nI (by omega), tn_nI (by omega), tn_nI (by omega)] at e25
    have o25 : S25.1 = S.1 := by rw [e25]; rfl
    have n25 : ∀ k, k ≠ 41 + 1 + u → S25.2 k = S.2 k := fun k hk => by rw [e25]; exact if_neg hk
    have y25 : S25.2 (41 + 1 + u) = va_cpy (S.2 (41 + 1 + t)) (S.2 (41 + 1 + u)) a d c' := by rw [e25]; exact if_pos rfl
    refine ref S25 _ o25 (fun q => absurd q (by simp [nt, nu])) (fun _ _ e => absurd es e) (fun _ _ _ hn => ?_) (fun _ _ _ a' c2 d' f1 f2 f3 g1 g2 dn hdn => ?_)
    · rcases hn with h | h
      · exact absurd ⟨a, c', e1, e2, h1⟩ h
      · exact absurd ⟨d, c', e3, e2, h2⟩ h
    · have q1 : a' = a := by rw [e1, nI_eq (by omega) (by omega)] at f1; exact f1.symm
      have q2 : c2 = c' := by rw [e2, nI_eq (by omega) (by omega)] at f2; exact f2.symm
      have q3 : d' = d := by rw [e3, nI_eq (by omega) (by omega)] at f3; exact f3.symm
      subst q1; subst q2; subst q3
      refine sp_shift9 ht hu l60 m60 g1 g2 hdn (fun S' w1 w2 w3 w4 => ⟨e2, R0.rel (H.out (fun k _ _ _ _ => by rw [w1, o25]) (fun k _ _ _ => by rw [w1, o25]) ?_ (fun v hv => ?_))⟩)
      · unfold Txt
        rw [w1, o25]; exact H.2.2.1
      · rw [w1, o25]
        obtain ⟨x1, x2, l', x3, x4, x5, x6⟩ := H.2.2.2.1 v hv
        refine ⟨x1, x2, l', x3, x4, x5, fun k hk => ?_⟩
        rw [w2 _ (show 41 + 1 + v ≠ 361 by omega)]
        have e361 : S25.2 361 = S.2 361 := n25 361 (by omega)
        by_cases q : v = u
        · subst q
          rw [y25]
          unfold va_cpy
          by_cases z : d' ≤ k ∧ k < d' + c2
          · rw [if_pos z]
            have := w3 (k - d') (by omega)
            rw [show 60 * v + d' + (k - d') = 60 * v + k by omega, e361, show 60 * t + a' + (k - d') = 60 * t + (a' + (k - d')) by omega, a5 _ (by omega)] at this
            exact this
          · rw [if_neg z, w4 _ (by omega), e361]; exact x6 k hk
        · rw [n25 _ (by omega), w4 _ (by omega), e361]; exact x6 k hk
