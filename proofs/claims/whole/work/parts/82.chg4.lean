/-! changes of the set-up, class and reference apart (3); the calls -/
def gE (gc k : Nat) (E G : Nat → Nat → Int32) : Nat → Nat → Int32 := fun g i => if g = gc then E k i else G g i
theorem sp_addGen8 {n p K gc ed : Nat} {E G : Nat → Nat → Int32} {x : Int32} {S : Sto} {Q : Int32 → Sto → Prop} (C : CA S n p K gc ed E G) (g4 : gc ≤ 4) (h1 : ∀ k, k < 6 → x = nI k → gc < 4 → ∀ S', CA S' n p K (gc + 1) (ed + 1) E (gE gc k E G) → frC S S' → Q 1 S') (h0 : (¬ ((∃ k, k < 6 ∧ x = nI k) ∧ gc < 4)) → Q 0 S) : wp_X4_addGenerator x S Q := by
  obtain ⟨c1, c2, c3, c4, c5, c6, c7⟩ := id C
  unfold wp_X4_addGenerator q_X4_addGenerator_16
  refine sp_elem8 (fun ⟨k, hk, e⟩ => ⟨fun z => absurd z (by decide), fun _ => ?_⟩) (fun hn => ⟨fun _ => h0 (fun q => hn q.1), fun z => absurd rfl z⟩)
  subst e
  rw [c4, show (4 : Int32) = nI 4 from rfl, nI_ltI (by omega) (by omega), tn_nI (i := k) (by omega), tn_nI (i := gc) (by omega)]
  refine ⟨fun q => ⟨vi hk (by omega), vi (by omega) (by omega), ?_⟩, fun q => h0 (fun z => q z.2)⟩
  have le := ln_el k hk
  have lg := ln_gen gc q
  refine sp_copy (W := 16) (by omega) (by omega) (by omega) (by omega) (by omega) (fun S1 e1 S2 e2 => ?_)
  have f : ∀ j, S2.1 1 j = if j = 12 then nI (ed + 1) else if j = 5 then nI (gc + 1) else S.1 1 j := fun j => by
    rw [e2, uA1, e1, uA1, uA1, if_neg (show ¬ (12 = 5) by decide), setA_ne _ _ (by omega), c5, c4, nI_1, nI_1]
  have o : ∀ c, c ≠ 1 → c ≠ 9 + 1 + gc → S2.1 c = S.1 c := fun c hc hg => by rw [e2, uA_ne hc, e1, uA_ne hc, setA_ne _ _ hg]
  refine h1 k hk rfl q S2 ⟨by rw [f]; exact c1, by rw [f]; exact c2, by rw [f]; exact c3, by rw [f]; rfl, by rw [f]; rfl, fun e he i hi => by rw [o _ (by omega) (by omega)]; exact c6 e he i hi, fun g hg i hi => ?_⟩ ⟨fun c hc => o c (by omega) (by omega), fun j hj => by rw [f, if_neg (by omega), if_neg (by omega)], by rw [e2, e1]; rfl⟩
  unfold gE
  by_cases e : g = gc
  · rw [e, if_pos rfl, e2, uA_ne (by omega), e1, uA_ne (by omega), setA_eq, fl_lt _ _ hi]
    exact c6 k hk i hi
  · rw [if_neg e, o _ (by omega) (by omega)]
    exact c7 g (by omega) i hi
theorem sp_gen9' {n p K gc : Nat} {E G : Nat → Nat → Int32} {x : Int32} {S : Sto} {Q : Int32 → Sto → Prop} (R : RA S n p K gc E G) (g4 : gc ≤ 4) (h1 : ∀ k, k < 6 → x = nI k → gc < 4 → ∀ S', RA S' n p K (gc + 1) E (gE gc k E G) → frR S S' → Q (nI (gc + 1)) S') (h2 : (∃ v, v < 6 ∧ x = nI v) → gc = 4 → Q (-4) S) (h3 : (¬ ∃ v, v < 6 ∧ x = nI v) → Q (-1) S) : wp_X9_generate x S Q := by
  obtain ⟨c1, c2, c3, c4, c5, c6, c7⟩ := id R
  refine sp_generate9 c5 g4 (fun v hv e hg S' A => ?_) h2 h3
  obtain ⟨a1, a2, a3, a4, a5, a6⟩ := A
  refine h1 v hv e hg S' ⟨by rw [a3 0 (by decide)]; exact c1, by rw [a3 1 (by decide)]; exact c2, by rw [a3 2 (by decide)]; exact c3, by rw [a3 3 (by decide)]; exact c4, a4, fun e he i hi => by rw [a1 354 (by decide) (by decide)]; exact c6 e he i hi, fun g hgg i hi => ?_⟩ ⟨fun c hc => a1 c (by omega) (by omega), fun j hj => a3 j (by omega), a2⟩
  unfold gE
  by_cases q : g = gc
  · rw [q, if_pos rfl, a5 i hi]; exact c6 v hv i hi
  · rw [if_neg q, a6 _ (Or.inl (by omega))]; exact c7 g (by omega) i hi
theorem OA.gen {n p K gc k : Nat} {E G : Nat → Nat → Int32} (h : OA n p K gc E G) (hk : k < 6) (hg : gc < 4) : OA n p K (gc + 1) E (gE gc k E G) := by
  obtain ⟨⟨o1, o2, o3, o4, o5⟩, h2, h3⟩ := h
  refine ⟨⟨o1, o2, o3, o4, by omega⟩, h2, fun g hgg i hi => ?_⟩
  unfold gE
  by_cases q : g = gc
  · rw [if_pos q]
    obtain ⟨z, a, b, c, -⟩ := h2 k hk i hi
    exact ⟨z, a, b, c⟩
  · rw [if_neg q]; exact h3 g (by omega) i hi
theorem OA.new {n p K gc n' p' : Nat} {E G G' : Nat → Nat → Int32} (h : OA n p K gc E G) (hn : 2 ≤ n' ∧ n' ≤ 4) (hp : isP p') : OA n' p' K 0 E0 G' := by
  obtain ⟨⟨o1, o2, o3, o4, o5⟩, h2, h3⟩ := h
  exact ⟨⟨hn.1, hn.2, hp, o4, by omega⟩, fun e he i hi => ⟨0, rfl, by omega, by have := hp.pos; omega, fun _ => rfl⟩, fun g hg => by omega⟩
theorem OA.drop {n p K gc : Nat} {E G G' : Nat → Nat → Int32} (h : OA n p K gc E G) : OA n p K 0 E G' :=
  ⟨⟨h.1.1, h.1.2.1, h.1.2.2.1, h.1.2.2.2.1, by omega⟩, h.2.1, fun g hg => by omega⟩
theorem OA.ord {n p K K' gc : Nat} {E G : Nat → Nat → Int32} (h : OA n p K gc E G) (hk : K' < 2) : OA n p K' gc E G :=
  ⟨⟨h.1.1, h.1.2.1, h.1.2.2.1, hk, h.1.2.2.2.2⟩, h.2.1, h.2.2⟩
theorem op_letters {S : Sto} {b : Nat} (x : Int32) (hb : b + 1 < 1000000) (H : Rel S b) : wp_X8_letters x S (fun r S1 => wp_X9_letters x S1 (fun r' S2 => r = r' ∧ Rel S2 (b + 1))) := by
  obtain ⟨n, p, K, gc, ec, bc, H⟩ := H.r0
  obtain ⟨ed, hed, hC, hR, hO, hE⟩ := H.abs
  unfold wp_X8_letters q_X8_letters_25
  intro x2 e2
  rw [e2, hC.1]
  refine sp_letters8 hC (fun m m2 m4 e S1 C1 f1 => ⟨fun z => absurd z (by decide), fun _ => ?_⟩) (fun hn => ⟨fun _ => ?_, fun z => absurd rfl z⟩)
  · refine sp_letters9 (hR.of f1) (fun m' a b' e' S2 R2 f2 => ⟨rfl, ?_⟩) (fun hn => absurd ⟨m, m2, m4, e⟩ hn)
    have em : m' = m := by rw [e, nI_eq (by omega) (by omega)] at e'; exact e'.symm
    subst em
    exact R0.rel (H.chg (b' := b + 1) (othE.of f1 f2) hC (C1.of (by omega) f2) R2 (hO.new ⟨m2, m4⟩ hO.1.2.2.1) (hE.of f1 f2) (Edt.new (by omega)) (by omega) hb)
  · exact sp_letters9 hR (fun m a b e => absurd ⟨m, a, b, e⟩ hn) (fun _ => ⟨rfl, H.rel.mono (by omega)⟩)
theorem op_prime {S : Sto} {b : Nat} (x : Int32) (hb : b + 1 < 1000000) (H : Rel S b) : wp_X8_prime x S (fun r S1 => wp_X9_prime x S1 (fun r' S2 => r = r' ∧ Rel S2 (b + 1))) := by
  obtain ⟨n, p, K, gc, ec, bc, H⟩ := H.r0
  obtain ⟨ed, hed, hC, hR, hO, hE⟩ := H.abs
  unfold wp_X8_prime q_X8_prime_25
  intro x2 e2
  rw [e2, hC.2.1]
  refine sp_prime8 hC (fun m hm e S1 C1 f1 => ⟨fun z => absurd z (by decide), fun _ => ?_⟩) (fun hn => ⟨fun _ => ?_, fun z => absurd rfl z⟩)
  · refine sp_prime9 (hR.of f1) (fun m' hm' e' S2 R2 f2 => ⟨rfl, ?_⟩) (fun hn => absurd ⟨m, hm, e⟩ hn)
    have em : m' = m := by
      have := hm.pos; have := hm'.pos
      rw [e, nI_eq (by omega) (by omega)] at e'; exact e'.symm
    subst em
    exact R0.rel (H.chg (b' := b + 1) (othE.of f1 f2) hC (C1.of (by omega) f2) R2 (hO.new ⟨hO.1.1, hO.1.2.1⟩ hm) (hE.of f1 f2) (Edt.new (by omega)) (by omega) hb)
  · exact sp_prime9 hR (fun m a e => absurd ⟨m, a, e⟩ hn) (fun _ => ⟨rfl, H.rel.mono (by omega)⟩)
theorem op_order {S : Sto} {b : Nat} (x : Int32) (hb : b + 1 < 1000000) (H : Rel S b) : wp_X8_order x S (fun r S1 => wp_X9_order x S1 (fun r' S2 => r = r' ∧ Rel S2 (b + 1))) := by
  obtain ⟨n, p, K, gc, ec, bc, H⟩ := H.r0
  obtain ⟨ed, hed, hC, hR, hO, hE⟩ := H.abs
  unfold wp_X8_order q_X8_order_24
  intro x2 e2
  rw [e2, hC.2.2.1]
  refine sp_kind8' hC (fun m hm e S1 C1 f1 => ⟨fun z => absurd z (by decide), fun _ => ?_⟩) (fun hn => ⟨fun _ => ?_, fun z => absurd rfl z⟩)
  · refine sp_order9 (hR.of f1) (fun m' hm' e' S2 R2 f2 => ⟨rfl, ?_⟩) (fun hn => absurd ⟨m, hm, e⟩ hn)
    have em : m' = m := by rw [e, nI_eq (by omega) (by omega)] at e'; exact e'.symm
    subst em
    exact R0.rel (H.chg (b' := b + 1) (othE.of f1 f2) hC (C1.of hO.1.2.2.2.2 f2) R2 (hO.ord hm) (hE.of f1 f2) (Edt.new (by omega)) (by omega) hb)
  · exact sp_order9 hR (fun m a e => absurd ⟨m, a, e⟩ hn) (fun _ => ⟨rfl, H.rel.mono (by omega)⟩)
theorem op_clear {S : Sto} {b : Nat} (hb : b + 1 < 1000000) (H : Rel S b) : wp_X8_clear S (fun r S1 => wp_X9_clear S1 (fun r' S2 => r = r' ∧ Rel S2 (b + 1))) := by
  obtain ⟨n, p, K, gc, ec, bc, H⟩ := H.r0
  obtain ⟨ed, hed, hC, hR, hO, hE⟩ := H.abs
  unfold wp_X8_clear
  intro x2 e2
  rw [e2, hC.2.2.2.1]
  refine sp_drop8 hC (fun S1 C1 f1 => sp_clear9 (hR.of f1) (fun S2 R2 f2 => ⟨rfl, ?_⟩))
  exact R0.rel (H.chg (b' := b + 1) (othE.of f1 f2) hC (C1.of (by omega) f2) R2 hO.drop (hE.of f1 f2) (Edt.new (by omega)) (by omega) hb)
theorem op_generate {S : Sto} {b : Nat} (x : Int32) (hb : b + 1 < 1000000) (H : Rel S b) : wp_X8_generate x S (fun r S1 => wp_X9_generate x S1 (fun r' S2 => r = r' ∧ Rel S2 (b + 1))) := by
  obtain ⟨n, p, K, gc, ec, bc, H⟩ := H.r0
  obtain ⟨ed, hed, hC, hR, hO, hE⟩ := H.abs
  have g4 := hO.1.2.2.2.2
  unfold wp_X8_generate q_X8_generate_36
  refine sp_elem8 (fun hx => ⟨fun _ => ?_, fun z => absurd z (by decide)⟩) (fun hn => ⟨fun z => absurd rfl z, fun _ => ?_⟩)
  · refine sp_addGen8 hC g4 (fun k hk e hg S1 C1 f1 => ⟨fun z => absurd z (by decide), fun _ => ?_⟩) (fun hn => ⟨fun _ => ?_, fun z => absurd rfl z⟩)
    · rw [C1.2.2.2.1]
      refine sp_gen9' (hR.of f1) g4 (fun k' hk' e' _ S2 R2 f2 => ⟨rfl, ?_⟩) (fun _ q => by omega) (fun hn => absurd ⟨k, hk, e⟩ hn)
      have em : k' = k := by rw [e, nI_eq (by omega) (by omega)] at e'; exact e'.symm
      subst em
      exact R0.rel (H.chg (b' := b + 1) (othE.of f1 f2) hC (C1.of (by omega) f2) R2 (hO.gen hk hg) (hE.of f1 f2) (Edt.new (by omega)) (by omega) hb)
    · exact sp_gen9' hR g4 (fun k hk e hg => absurd ⟨⟨k, hk, e⟩, hg⟩ hn) (fun _ _ => ⟨rfl, H.rel.mono (by omega)⟩) (fun hn => absurd hx hn)
  · exact sp_gen9' hR g4 (fun k hk e hg => absurd ⟨k, hk, e⟩ hn) (fun h => absurd h hn) (fun _ => ⟨rfl, H.rel.mono (by omega)⟩)
