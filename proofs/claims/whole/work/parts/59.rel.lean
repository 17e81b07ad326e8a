/-! class and reference side by side -/
/-- the Setup h of the class holds what the functions tell -/
def Same (S : Sto) (h : Nat) (fl : Nat → Int32) (el ge : Nat → Nat → Int32) (es en' sp nu : Nat → Int32) (n p K gc ec bc : Nat) : Prop :=
  (2 ≤ n ∧ n ≤ 4 ∧ isP p ∧ K < 2 ∧ gc ≤ 4 ∧ ec ≤ 8 ∧ bc ≤ 8) ∧
  (S.1 h 0 = nI n ∧ S.1 h 1 = nI p ∧ S.1 h 2 = nI K ∧ S.1 h 5 = nI gc ∧ S.1 h 8 = nI ec ∧ S.1 h 11 = nI bc) ∧
  (fl 0 = nI n ∧ fl 1 = nI p ∧ fl 2 = nI K ∧ fl 3 = nI gc ∧ fl 4 = nI ec ∧ fl 5 = nI bc) ∧
  (∀ e, e < 6 → ∀ i, i < 16 → el e i = S.1 (h + 2 + e) i ∧ ∃ z : Int, S.1 (h + 2 + e) i = iI z ∧ 0 ≤ z ∧ z < p ∧ (2 ^ n ≤ i → z = 0)) ∧
  (∀ g, g < gc → ∀ i, i < 16 → ge g i = S.1 (h + 9 + g) i ∧ ∃ z : Int, S.1 (h + 9 + g) i = iI z ∧ 0 ≤ z ∧ z < p) ∧
  (∀ i, i < ec → es i = S.1 (h + 13) i ∧ en' i = S.1 (h + 14) i ∧ ∃ w v, S.1 (h + 13) i = nI w ∧ S.1 (h + 14) i = nI v ∧ evOK w v) ∧
  (∀ i, i < bc → sp i = S.1 (h + 15) i ∧ nu i = S.1 (h + 16) i ∧ (∃ s, s < 600 ∧ S.1 (h + 15) i = nI s))
def flM (S : Sto) (j : Nat) : Int32 := S.1 353 (([0, 1, 2, 6, 9, 12] : List Nat).getD j 0)
/-- the reference's own -/
def SameM (S : Sto) (h n p K gc ec bc : Nat) : Prop := Same S h (flM S) (fun e i => S.1 354 (16 * e + i)) (fun g i => S.1 355 (16 * g + i)) (S.1 356) (S.1 357) (S.1 358) (S.1 359) n p K gc ec bc
/-- the reference's image in the array t -/
def SameI (S : Sto) (h t n p K gc ec bc : Nat) : Prop := Same S h (S.1 t) (fun e i => S.1 t (6 + (16 * e + i))) (fun g i => S.1 t (102 + (16 * g + i))) (fun i => S.1 t (166 + i)) (fun i => S.1 t (174 + i)) (fun i => S.1 t (182 + i)) (fun i => S.1 t (190 + i)) n p K gc ec bc
def Txt (S : Sto) : Prop := ∃ tl, tl ≤ 100 ∧ S.1 35 1 = nI tl ∧ S.1 353 14 = nI tl ∧ ∀ i, i < tl → S.1 360 i = S.1 36 i ∧ ∃ c, c < 128 ∧ S.1 36 i = nI c
def Tap (S : Sto) : Prop := ∀ t, t < 6 → S.1 362 t = S.1 39 t ∧ S.1 363 t = S.1 40 t ∧ ∃ l, l ≤ 60 ∧ S.1 40 t = nI l ∧ ((S.1 39 t = -1 ∧ l = 0) ∨ ∃ s, s < 5 ∧ S.1 39 t = nI s) ∧ ∀ i, i < l → S.2 361 (60 * t + i) = S.2 (41 + 1 + t) i
def Img (S : Sto) : Prop := (S.1 0 2 = 0 ∧ S.1 353 21 = 0) ∨ (S.1 0 2 = 1 ∧ S.1 353 21 = 1 ∧ ∃ n p K gc ec bc, SameI S 18 364 n p K gc ec bc)
/-- both are alike; at most b changes so far -/
def Rel (S : Sto) (b : Nat) : Prop := ∃ n p K gc ec bc, SameM S 1 n p K gc ec bc ∧ S.1 353 3 = nI (2 ^ n) ∧ Txt S ∧ Tap S ∧ Img S ∧ IdOK S n p K gc ∧ ∃ ed, S.1 1 12 = nI ed ∧ ed ≤ b
theorem Same.cw {S : Sto} {h n p K gc ec bc : Nat} {fl el ge es en' sp nu} (H : Same S h fl el ge es en' sp nu n p K gc ec bc) : 2 ≤ n ∧ n ≤ 4 ∧ isP p ∧ K < 2 ∧ gc ≤ 4 ∧ ec ≤ 8 ∧ bc ≤ 8 := H.1
theorem SameM.nw {S : Sto} {n p K gc ec bc : Nat} (H : SameM S 1 n p K gc ec bc) : Nw S n p K gc := by
  obtain ⟨⟨a1, a2, a3, a4, a5, a6, a7⟩, ⟨b1, b2, b3, b4, b5, b6⟩, -, -, g, -⟩ := H
  refine ⟨⟨b1, b2, a1, a2, a3⟩, b3, a4, b4, a5, fun i hi j hj => ?_⟩
  obtain ⟨-, z, z1, z2, z3⟩ := g i hi j hj
  have hp := a3.pos
  rw [show 1 + 9 + i = 9 + 1 + i by omega] at z1
  unfold gS
  rw [z1, toInt_iI ⟨by omega, by omega⟩]
  exact ⟨rfl, z2, z3⟩
theorem SameM.el {S : Sto} {n p K gc ec bc : Nat} (H : SameM S 1 n p K gc ec bc) : El S p := by
  obtain ⟨⟨a1, a2, a3, a4, a5, a6, a7⟩, -, -, e, -⟩ := H
  intro k hk j hj
  obtain ⟨-, z, z1, z2, z3, -⟩ := e k hk j hj
  have hp := a3.pos
  rw [show 1 + 2 + k = 2 + 1 + k by omega] at z1
  unfold eS
  rw [z1, toInt_iI ⟨by omega, by omega⟩]
  exact ⟨rfl, z2, z3⟩
theorem SameM.ev {S : Sto} {n p K gc ec bc : Nat} (H : SameM S 1 n p K gc ec bc) : ∃ w v, Ev S ec w v ∧ ∀ i, i < ec → S.1 356 i = nI (w i) ∧ S.1 357 i = nI (v i) := by
  obtain ⟨⟨a1, a2, a3, a4, a5, a6, a7⟩, ⟨b1, b2, b3, b4, b5, b6⟩, -, -, -, e, -⟩ := H
  have h1 : ∀ i, ∃ wv : Nat × Nat, i < ec → S.1 14 i = nI wv.1 ∧ S.1 15 i = nI wv.2 ∧ evOK wv.1 wv.2 ∧ S.1 356 i = nI wv.1 ∧ S.1 357 i = nI wv.2 := fun i => by
    by_cases q : i < ec
    · obtain ⟨e1, e2, w, v, e3, e4, e5⟩ := e i q
      exact ⟨(w, v), fun _ => ⟨e3, e4, e5, by rw [e1]; exact e3, by rw [e2]; exact e4⟩⟩
    · exact ⟨(0, 0), fun z => absurd z q⟩
  refine ⟨fun i => (Classical.choose (h1 i)).1, fun i => (Classical.choose (h1 i)).2, ⟨b5, a6, fun i hi => ?_⟩, fun i hi => ?_⟩
  · have := Classical.choose_spec (h1 i) hi
    exact ⟨this.1, this.2.1, this.2.2.1⟩
  · have := Classical.choose_spec (h1 i) hi
    exact ⟨this.2.2.2.1, this.2.2.2.2⟩
theorem SameM.cm {S : Sto} {n p K gc ec bc : Nat} (H : SameM S 1 n p K gc ec bc) (h3 : S.1 353 3 = nI (2 ^ n)) : Cm S n p K := by
  obtain ⟨⟨a1, a2, a3, a4, a5, a6, a7⟩, -, ⟨b1, b2, b3, b4, b5, b6⟩, -⟩ := H
  exact ⟨b1, b2, b3, h3, a1, a2, a3, a4⟩
theorem SameM.gm {S : Sto} {n p K gc ec bc : Nat} (H : SameM S 1 n p K gc ec bc) : Gm S n p gc (gS S) := by
  have N := H.nw
  obtain ⟨⟨a1, a2, a3, a4, a5, a6, a7⟩, -, ⟨b1, b2, b3, b4, b5, b6⟩, -, g, -⟩ := H
  have hw := pow_n a2
  refine ⟨b4, a5, fun i hi j hj => ?_⟩
  obtain ⟨e1, -⟩ := g i hi j (by omega)
  have h2 := N.2.2.2.2.2 i hi j (by omega)
  have e1' : S.1 355 (16 * i + j) = S.1 (1 + 9 + i) j := e1
  rw [show 1 + 9 + i = 9 + 1 + i by omega] at e1'
  rw [e1']
  exact h2
theorem SameM.elM {S : Sto} {n p K gc ec bc : Nat} (H : SameM S 1 n p K gc ec bc) : ∀ e, e < 6 → ∀ i, i < 16 → S.1 354 (16 * e + i) = iI (eS S e i) ∧ 0 ≤ eS S e i ∧ eS S e i < p ∧ (2 ^ n ≤ i → eS S e i = 0) := by
  have E := H.el
  obtain ⟨⟨a1, a2, a3, a4, a5, a6, a7⟩, -, -, e, -⟩ := H
  have hp := a3.pos
  intro k hk j hj
  obtain ⟨e1, z, z1, z2, z3, z4⟩ := e k hk j hj
  have h2 := E k hk j hj
  have e1' : S.1 354 (16 * k + j) = S.1 (1 + 2 + k) j := e1
  rw [show 1 + 2 + k = 2 + 1 + k by omega] at e1' z1
  refine ⟨by rw [e1']; exact h2.1, h2.2.1, h2.2.2, fun q => ?_⟩
  unfold eS
  rw [z1, toInt_iI ⟨by omega, by omega⟩]
  exact z4 q
/-! what only scratch is -/
/-- nothing changes that lasts -/
def scr (S S' : Sto) : Prop := (∀ c, c < 48 → S'.1 c = S.1 c) ∧ (∀ c, 354 ≤ c → c ≤ 364 → S'.1 c = S.1 c) ∧ (∀ j, j < 22 → S'.1 353 j = S.1 353 j) ∧ S'.2 = S.2
theorem scr.rf {S : Sto} : scr S S := ⟨fun _ _ => rfl, fun _ _ _ => rfl, fun _ _ => rfl, rfl⟩
theorem scr.tr {S S' S'' : Sto} (a : scr S S') (b : scr S' S'') : scr S S'' := ⟨fun c x => (b.1 c x).trans (a.1 c x), fun c x y => (b.2.1 c x y).trans (a.2.1 c x y), fun j x => (b.2.2.1 j x).trans (a.2.2.1 j x), b.2.2.2.trans a.2.2.2⟩
theorem frM.scr {l : List Nat} {S S' : Sto} (a : frM l S S') (h : ∀ c, c ∈ l → 365 ≤ c) : scr S S' := ⟨fun c hc => a.1 c (by omega) (fun q => by have := h c q; omega), fun c h1 h2 => a.1 c (by omega) (fun q => by have := h c q; omega), fun j h => a.2.1 j (Or.inl h), a.2.2⟩
/-- the class's scratch -/
def scC (S S' : Sto) : Prop := (∀ c, c < 48 ∨ 352 < c → S'.1 c = S.1 c) ∧ S'.2 = S.2
theorem scC.rf {S : Sto} : scC S S := ⟨fun _ _ => rfl, rfl⟩
theorem scC.tr {S S' S'' : Sto} (a : scC S S') (b : scC S' S'') : scC S S'' := ⟨fun c x => (b.1 c x).trans (a.1 c x), b.2.trans a.2⟩
theorem scC.scr {S S' : Sto} (a : scC S S') : scr S S' := ⟨fun c h => a.1 c (Or.inl h), fun c h _ => a.1 c (Or.inr (by omega)), fun j _ => by rw [a.1 353 (by omega)], a.2⟩
theorem Same.keep {S S' : Sto} {h n p K gc ec bc : Nat} {fl fl' el el' ge ge' es es' en' en'' sp sp' nu nu'} (H : Same S h fl el ge es en' sp nu n p K gc ec bc) (h0 : h + 16 < 48) (e : ∀ c, h ≤ c → c < 48 → S'.1 c = S.1 c)
    (e1 : ∀ j, j < 6 → fl' j = fl j) (e2 : ∀ k, k < 6 → ∀ i, i < 16 → el' k i = el k i) (e3 : ∀ k, k < 4 → ∀ i, i < 16 → ge' k i = ge k i) (e4 : ∀ i, i < 8 → es' i = es i ∧ en'' i = en' i ∧ sp' i = sp i ∧ nu' i = nu i) : Same S' h fl' el' ge' es' en'' sp' nu' n p K gc ec bc := by
  obtain ⟨a, b, c, d, g, v, k⟩ := H
  refine ⟨a, ?_, ?_, fun x hx i hi => ?_, fun x hx i hi => ?_, fun i hi => ?_, fun i hi => ?_⟩
  · rw [e h (by omega) (by omega)]; exact b
  · rw [e1 0 (by decide), e1 1 (by decide), e1 2 (by decide), e1 3 (by decide), e1 4 (by decide), e1 5 (by decide)]; exact c
  · rw [e _ (by omega) (by omega), e2 x hx i hi]; exact d x hx i hi
  · rw [e _ (by omega) (by omega), e3 x (by have := a.2.2.2.2.1; omega) i hi]; exact g x hx i hi
  · have := e4 i (by have := a.2.2.2.2.2.1; omega)
    rw [this.1, this.2.1, e _ (by omega) (by omega), e _ (by omega) (by omega)]; exact v i hi
  · have := e4 i (by have := a.2.2.2.2.2.2; omega)
    rw [this.2.2.1, this.2.2.2, e _ (by omega) (by omega), e _ (by omega) (by omega)]; exact k i hi
theorem flM_keep {S S' : Sto} (e : ∀ j, j < 22 → S'.1 353 j = S.1 353 j) (j : Nat) : flM S' j = flM S j := by
  unfold flM
  refine e _ ?_
  have : ∀ j, j < 6 → (([0, 1, 2, 6, 9, 12] : List Nat).getD j 0) < 22 := by decide
  rcases Nat.lt_or_ge j 6 with q | q
  · exact this j q
  · rw [List.getD_eq_getElem?_getD, List.getElem?_eq_none (by simp; omega)]; decide
theorem SameM.keep {S S' : Sto} {n p K gc ec bc : Nat} (H : SameM S 1 n p K gc ec bc) (f : scr S S') : SameM S' 1 n p K gc ec bc :=
  Same.keep H (by omega) (fun c _ h => f.1 c h) (fun j _ => flM_keep f.2.2.1 j) (fun k _ i _ => by rw [f.2.1 354 (by decide) (by decide)]) (fun k _ i _ => by rw [f.2.1 355 (by decide) (by decide)]) (fun i _ => by rw [f.2.1 356 (by decide) (by decide), f.2.1 357 (by decide) (by decide), f.2.1 358 (by decide) (by decide), f.2.1 359 (by decide) (by decide)]; exact ⟨rfl, rfl, rfl, rfl⟩)
theorem Img.keep {S S' : Sto} (H : Img S) (f : scr S S') : Img S' := by
  rcases H with ⟨h1, h2⟩ | ⟨h1, h2, n, p, K, gc, ec, bc, h3⟩
  · exact Or.inl ⟨by rw [f.1 0 (by decide)]; exact h1, by rw [f.2.2.1 21 (by decide)]; exact h2⟩
  · refine Or.inr ⟨by rw [f.1 0 (by decide)]; exact h1, by rw [f.2.2.1 21 (by decide)]; exact h2, n, p, K, gc, ec, bc, ?_⟩
    have e := f.2.1 364 (by decide) (by decide)
    exact Same.keep h3 (by omega) (fun c _ h => f.1 c h) (fun j _ => by rw [e]) (fun k _ i _ => by rw [e]) (fun k _ i _ => by rw [e]) (fun i _ => by rw [e]; exact ⟨rfl, rfl, rfl, rfl⟩)
theorem Txt.keep {S S' : Sto} (H : Txt S) (f : scr S S') : Txt S' := by
  unfold Txt
  rw [f.1 35 (by decide), f.1 36 (by decide), f.2.2.1 14 (by decide), f.2.1 360 (by decide) (by decide)]; exact H
theorem Tap.keep {S S' : Sto} (H : Tap S) (f : scr S S') : Tap S' := by
  unfold Tap
  rw [f.1 39 (by decide), f.1 40 (by decide), f.2.1 362 (by decide) (by decide), f.2.1 363 (by decide) (by decide), f.2.2.2]; exact H
/-- a call that asks alone -/
theorem Rel.ask {S S' : Sto} {b : Nat} (H : Rel S b) (f : scr S S') (hI : ∀ n p K gc, Nw S n p K gc → IdOK S n p K gc → IdOK S' n p K gc) : Rel S' b := by
  obtain ⟨n, p, K, gc, ec, bc, h1, h2, h3, h4, h5, h6, ed, h7, h8⟩ := H
  exact ⟨n, p, K, gc, ec, bc, h1.keep f, by rw [f.2.2.1 3 (by decide)]; exact h2, h3.keep f, h4.keep f, h5.keep f, hI _ _ _ _ h1.nw h6, ed, by rw [f.1 1 (by decide)]; exact h7, h8⟩
/-- where the kept ideals are not touched either -/
theorem IdOK.keepM {S S' : Sto} {n p K gc : Nat} (N : Nw S n p K gc) (h : IdOK S n p K gc) (f : scr S S') (e : ∀ c, 49 ≤ c → c ≤ 106 → S'.1 c = S.1 c) : IdOK S' n p K gc :=
  h.keep N.2.2.2.2.1 (f.1 1 (by decide)) (fun i hi => f.1 _ (by omega)) e
/-! is it there -/
theorem sp_side8 {x : Int32} {S : Sto} {Q : Int32 → Sto → Prop} (h1 : (∃ s, s < 3 ∧ x = nI s) → Q 1 S) (h0 : (¬ ∃ s, s < 3 ∧ x = nI s) → Q 0 S) : wp_X8_isSide x S Q := by
  unfold wp_X8_isSide q_X8_isSide_13 q_X8_isSide_14
  have neg : x < 0 → ¬ ∃ s, s < 3 ∧ x = nI s := fun h ⟨s, hs, e⟩ => by rw [e] at h; exact nI_pos (by omega) h
  refine ⟨fun h => ⟨narb0, h0 (neg h)⟩, fun h => ?_⟩
  obtain ⟨k, hk, rfl⟩ := nI_of h
  rw [show (2 : Int32) = nI 2 from rfl, nI_ltI (by omega) hk]
  refine ⟨fun q => ⟨narb0, h0 (fun ⟨s, hs, e⟩ => ?_)⟩, fun q => ⟨narb1, h1 ⟨k, by omega, rfl⟩⟩⟩
  rw [nI_eq hk (by omega)] at e; omega
theorem sp_hand8 {x : Int32} {S : Sto} {Q : Int32 → Sto → Prop} (h1 : (∃ s, s < 2 ∧ x = nI s) → Q 1 S) (h0 : (¬ ∃ s, s < 2 ∧ x = nI s) → Q 0 S) : wp_X8_isHand x S Q := by
  unfold wp_X8_isHand q_X8_isHand_13 q_X8_isHand_14
  have neg : x < 0 → ¬ ∃ s, s < 2 ∧ x = nI s := fun h ⟨s, hs, e⟩ => by rw [e] at h; exact nI_pos (by omega) h
  refine ⟨fun h => ⟨narb0, h0 (neg h)⟩, fun h => ?_⟩
  obtain ⟨k, hk, rfl⟩ := nI_of h
  rw [show (2 : Int32) = nI 2 from rfl, nI_leI (by omega) hk]
  refine ⟨fun q => ⟨narb0, h0 (fun ⟨s, hs, e⟩ => ?_)⟩, fun q => ⟨narb1, h1 ⟨k, by omega, rfl⟩⟩⟩
  rw [nI_eq hk (by omega)] at e; omega
theorem sp_kind8 {x : Int32} {S : Sto} {Q : Int32 → Sto → Prop} (h1 : (∃ s, s < 2 ∧ x = nI s) → Q 1 S) (h0 : (¬ ∃ s, s < 2 ∧ x = nI s) → Q 0 S) : wp_X8_isKind x S Q := by
  unfold wp_X8_isKind q_X8_isKind_9 q_X8_isKind_14
  refine ⟨fun h => ⟨narb1, h1 ⟨0, by omega, h⟩⟩, fun h => ⟨fun h2 => ⟨narb0, h0 (fun ⟨s, hs, e⟩ => ?_)⟩, fun h2 => ⟨narb1, h1 ⟨1, by omega, h2⟩⟩⟩⟩
  have : s = 0 ∨ s = 1 := by omega
  rcases this with rfl | rfl
  · exact h e
  · exact h2 e
theorem sp_elem8 {x : Int32} {S : Sto} {Q : Int32 → Sto → Prop} (h1 : (∃ s, s < 6 ∧ x = nI s) → Q 1 S) (h0 : (¬ ∃ s, s < 6 ∧ x = nI s) → Q 0 S) : wp_X4_hasElement x S Q := by
  unfold wp_X4_hasElement q_X4_hasElement_14 q_X4_hasElement_15
  have neg : x < 0 → ¬ ∃ s, s < 6 ∧ x = nI s := fun h ⟨s, hs, e⟩ => by rw [e] at h; exact nI_pos (by omega) h
  refine ⟨fun h => ⟨narb0, h0 (neg h)⟩, fun h => ?_⟩
  obtain ⟨k, hk, rfl⟩ := nI_of h
  rw [show (6 : Int32) = nI 6 from rfl, nI_leI (by omega) hk]
  refine ⟨fun q => ⟨narb0, h0 (fun ⟨s, hs, e⟩ => ?_)⟩, fun q => ⟨narb1, h1 ⟨k, by omega, rfl⟩⟩⟩
  rw [nI_eq hk (by omega)] at e; omega
theorem sp_place8 {x : Int32} {n : Nat} {S : Sto} {Q : Int32 → Sto → Prop} (hn : S.1 1 0 = nI n) (h4 : n ≤ 4) (h1 : (∃ s, s < 2 ^ n ∧ x = nI s) → Q 1 S) (h0 : (¬ ∃ s, s < 2 ^ n ∧ x = nI s) → Q 0 S) : wp_X4_hasPlace x S Q := by
  have hw := pow_n h4
  unfold wp_X4_hasPlace q_X4_hasPlace_16 q_X4_hasPlace_17
  have neg : x < 0 → ¬ ∃ s, s < 2 ^ n ∧ x = nI s := fun h ⟨s, hs, e⟩ => by rw [e] at h; exact nI_pos (by omega) h
  refine ⟨fun h => ⟨narb0, h0 (neg h)⟩, fun h => sp_width hn h4 ?_⟩
  obtain ⟨k, hk, rfl⟩ := nI_of h
  rw [nI_leI (by omega) hk]
  refine ⟨fun q => ⟨narb0, h0 (fun ⟨s, hs, e⟩ => ?_)⟩, fun q => ⟨narb1, h1 ⟨k, by omega, rfl⟩⟩⟩
  rw [nI_eq hk (by omega)] at e; omega
theorem i64 (x : Int32) : x.toInt64 = iL x.toInt := (Int64.ofInt_int32ToInt x).symm
theorem sm31_63 {z : Int} (h : sm31 z) : sm63 z := ⟨by have := h.1; omega, by have := h.2; omega⟩
theorem sp_in9 {x : Int32} {a b : Int} {S : Sto} {Q : Int32 → Sto → Prop} (ha : sm31 a) (hb : sm31 b) (h1 : a ≤ x.toInt → x.toInt ≤ b → Q 1 S) (h0 : ¬ (a ≤ x.toInt ∧ x.toInt ≤ b) → Q 0 S) : wp_X9_in x.toInt64 (iL a) (iL b) S Q := by
  unfold wp_X9_in q_X9_in_17 q_X9_in_18
  rw [lg_cmp_lt, lg_cmp_gt, i64, iL_lt (sm31_63 (sm_toInt x)) (sm31_63 ha), iL_lt (sm31_63 hb) (sm31_63 (sm_toInt x))]
  exact ⟨fun q => ⟨narb0, h0 (by omega)⟩, fun q => ⟨fun q2 => ⟨narb0, h0 (by omega)⟩, fun q2 => ⟨narb1, h1 (by omega) (by omega)⟩⟩⟩
theorem ex_iff {x : Int32} {k : Nat} (hk : k < 70000) : (∃ s, s < k ∧ x = nI s) ↔ (0 ≤ x.toInt ∧ x.toInt ≤ (k : Int) - 1) := by
  constructor
  · rintro ⟨s, hs, rfl⟩
    rw [nI_toInt (by omega)]; omega
  · rintro ⟨h1, h2⟩
    refine ⟨x.toInt.toNat, by omega, ?_⟩
    rw [nI_iI, Int.toNat_of_nonneg h1, iI_toInt]
theorem sp_inN {x : Int32} {k : Nat} {S : Sto} {Q : Int32 → Sto → Prop} {b : Int64} (hk : k < 70000) (hb : b = iL ((k : Int) - 1)) (h1 : (∃ s, s < k ∧ x = nI s) → Q 1 S) (h0 : (¬ ∃ s, s < k ∧ x = nI s) → Q 0 S) : wp_X9_in x.toInt64 0 b S Q := by
  rw [hb]
  exact sp_in9 (a := 0) ⟨by omega, by omega⟩ ⟨by omega, by omega⟩ (fun q1 q2 => h1 ((ex_iff hk).mpr ⟨q1, q2⟩)) (fun q => h0 (fun z => q ((ex_iff hk).mp z)))
theorem sp_side9 {x : Int32} {S : Sto} {Q : Int32 → Sto → Prop} (h1 : (∃ s, s < 3 ∧ x = nI s) → Q 1 S) (h0 : (¬ ∃ s, s < 3 ∧ x = nI s) → Q 0 S) : wp_X9_isSide x S Q := by
  unfold wp_X9_isSide
  exact sp_inN (k := 3) (by omega) rfl (fun q => ⟨narb1, h1 q⟩) (fun q => ⟨narb0, h0 q⟩)
theorem sp_elem9 {x : Int32} {S : Sto} {Q : Int32 → Sto → Prop} (h1 : (∃ s, s < 6 ∧ x = nI s) → Q 1 S) (h0 : (¬ ∃ s, s < 6 ∧ x = nI s) → Q 0 S) : wp_X9_isElement x S Q := by
  unfold wp_X9_isElement
  exact sp_inN (k := 6) (by omega) rfl (fun q => ⟨narb1, h1 q⟩) (fun q => ⟨narb0, h0 q⟩)
theorem sp_tape9 {x : Int32} {S : Sto} {Q : Int32 → Sto → Prop} (h1 : (∃ s, s < 6 ∧ x = nI s) → Q 1 S) (h0 : (¬ ∃ s, s < 6 ∧ x = nI s) → Q 0 S) : wp_X9_isTape x S Q := by
  unfold wp_X9_isTape
  exact sp_inN (k := 6) (by omega) rfl (fun q => ⟨narb1, h1 q⟩) (fun q => ⟨narb0, h0 q⟩)
theorem nI_m1 {k : Nat} (hk : k < 70000) : (nI k - 1 : Int32).toInt64 = iL ((k : Int) - 1) := by
  rw [nI_iI, show (1 : Int32) = iI 1 from rfl, ← iI_sub, iI_l ⟨by omega, by omega⟩]
theorem sp_place9 {x : Int32} {w : Nat} {S : Sto} {Q : Int32 → Sto → Prop} (h3 : S.1 353 3 = nI w) (hw : w ≤ 16) (h1 : (∃ s, s < w ∧ x = nI s) → Q 1 S) (h0 : (¬ ∃ s, s < w ∧ x = nI s) → Q 0 S) : wp_X9_isPlace x S Q := by
  unfold wp_X9_isPlace
  rw [h3, nI_m1 (by omega)]
  exact sp_inN (k := w) (by omega) rfl (fun q => ⟨narb1, h1 q⟩) (fun q => ⟨narb0, h0 q⟩)
