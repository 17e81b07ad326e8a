/-! steps of a resolution, counted: what the number is -/
theorem Mg.exists {p n w : Nat} (hp : isP p) {M : Vc → Prop} (hM : Sub p w M) (hc : cloL n M) : ∃ t h, Mg p n w M t h := by
  have hL := LMs_Sub p n w M
  obtain ⟨hdM, RM, hRM⟩ := RB.exists hp hM
  obtain ⟨hdL, RL, hRL⟩ := RB.exists hp hL
  have inM : ∀ (h : Nat → Vc) k, (∀ i, i < k → M (h i)) → ∀ v, CS (LMs p n w M) h k v → M v := by
    rintro h k hh v ⟨c, hcs⟩
    have h1 := LMs_in hM hc hcs
    have h2 := sum_in hM c k (fun j hj => hh j hj)
    exact hM.to (hM.2.1 _ _ h1 h2) (fun i _ => Int.sub_add_cancel _ _)
  have key : ∀ d k h, cnt hdM w - cnt hdL w - k ≤ d → (∀ i, i < k → M (h i)) → (∀ j, j < k → ¬ CS (LMs p n w M) h j (h j)) → ∃ t h, Mg p n w M t h := by
    intro d
    induction d with
    | zero =>
      intro k h hd hh hi
      refine ⟨k, h, hh, fun v hv => ?_, hi⟩
      apply Classical.byContradiction
      intro hn
      have gc : ∀ j, j ≤ k → ∀ u, CS (LMs p n w M) (fun i => if i = k then v else h i) j u ↔ CS (LMs p n w M) h j u := fun j hj u => CS_cong (fun i hi => if_neg (by omega)) u
      obtain ⟨hdC, RC, hRC⟩ := RB.exists hp (CS_Sub hL (fun i => if i = k then v else h i) (k + 1))
      have d1 := CS_dim hp hL hRL (k + 1) (fun j hj => by
        rw [gc j (by omega)]
        by_cases e : j = k
        · simp only [if_pos e]; rw [e]; exact hn
        · simp only [if_neg e]; exact hi j (by omega)) hRC
      have d2 := CB.le hp (CS_Sub hL (fun i => if i = k then v else h i) (k + 1)) hRC.CB hRM.CB (id_Lin p _) (fun x hx => inM (fun i => if i = k then v else h i) (k + 1) (fun j hj => by
        by_cases e : j = k
        · simp only [if_pos e]; exact hv
        · simp only [if_neg e]; exact hh j (by omega)) x hx) (fun _ _ h => h)
      omega
    | succ d ih =>
      intro k h hd hh hi
      by_cases all : ∀ v, M v → CS (LMs p n w M) h k v
      · exact ⟨k, h, hh, all, hi⟩
      · have : ∃ v, M v ∧ ¬ CS (LMs p n w M) h k v := by
          apply Classical.byContradiction
          intro q
          exact all (fun v hv => by
            apply Classical.byContradiction
            intro z
            exact q ⟨v, hv, z⟩)
        obtain ⟨v, hv, hn⟩ := this
        have gc : ∀ j, j ≤ k → ∀ u, CS (LMs p n w M) (fun i => if i = k then v else h i) j u ↔ CS (LMs p n w M) h j u := fun j hj u => CS_cong (fun i hi => if_neg (by omega)) u
        refine ih (k + 1) (fun i => if i = k then v else h i) (by omega) (fun j hj => ?_) (fun j hj => ?_)
        · by_cases e : j = k
          · simp only [if_pos e]; exact hv
          · simp only [if_neg e]; exact hh j (by omega)
        · rw [gc j (by omega)]
          by_cases e : j = k
          · simp only [if_pos e]; rw [e]; exact hn
          · simp only [if_neg e]; exact hi j (by omega)
  exact key _ 0 (fun _ _ => 0) (Nat.le_refl _) (fun i q => by omega) (fun j q => by omega)
/-- step k of M comes to r -/
def BtR (p n : Nat) : Nat → Nat → (Vc → Prop) → Nat → Prop
  | 0, w, M, r => ∃ g, Mg p n w M r g
  | k + 1, w, M, r => ∃ t g, Mg p n w M t g ∧ t * 2 ^ n ≤ 256 ∧ BtR p n k (t * 2 ^ n) (Sz p n w t g) r
theorem Ned.bt {p n w r : Nat} (hp : isP p) {M : Vc → Prop} (hM : Sub p w M) (hc : cloL n M) (h : Ned p n w M r) : BtR p n 0 w M r := by
  obtain ⟨t, g, hg⟩ := Mg.exists (n := n) hp hM hc
  obtain ⟨hd, R, hR⟩ := RB.exists hp hM
  obtain ⟨hd2, R2, hR2⟩ := RB.exists hp (LMs_Sub p n w M)
  have h1 := hg.dim hp hM hc hR hR2
  have h2 := h _ _ _ _ hR hR2
  exact ⟨g, by rw [show r = t by omega]; exact hg⟩
/-- alike: linear both ways, letters going through -/
def Ike (p n w w' : Nat) (M M' : Vc → Prop) : Prop := ∃ ψ φ : Vc → Vc, (LL p n w w' M ψ ∧ (∀ x, M x → M' (ψ x)) ∧ (∀ x, M x → V0 p w' (ψ x) → V0 p w x) ∧ ∀ y, M' y → ∃ x, M x ∧ eqm p w' y (ψ x)) ∧ (LL p n w' w M' φ ∧ (∀ x, M' x → M (φ x)) ∧ ∀ x, M' x → V0 p w (φ x) → V0 p w' x)
theorem Ike.rf {p n w : Nat} {M : Vc → Prop} : Ike p n w w M M :=
  ⟨fun x => x, fun x => x, ⟨⟨id_Lin p w, fun _ _ _ _ => eqm.of (fun _ _ => rfl)⟩, fun _ h => h, fun _ _ h => h, fun y hy => ⟨y, hy, eqm.of (fun _ _ => rfl)⟩⟩, ⟨id_Lin p w, fun _ _ _ _ => eqm.of (fun _ _ => rfl)⟩, fun _ h => h, fun _ _ h => h⟩
theorem Ike.needs {p n w w' t t' : Nat} (hp : isP p) {M M' : Vc → Prop} {g h : Nat → Vc} (hM : Sub p w M) (hc : cloL n M) (hM' : Sub p w' M') (hc' : cloL n M') (I : Ike p n w w' M M') (G : Mg p n w M t g) (H : Mg p n w' M' t' h) : t = t' := by
  obtain ⟨ψ, φ, ⟨p1, p2, p3, -⟩, q1, q2, q3⟩ := I
  obtain ⟨hd, R, hR⟩ := RB.exists hp hM
  obtain ⟨hd2, R2, hR2⟩ := RB.exists hp (LMs_Sub p n w M)
  obtain ⟨hd', R', hR'⟩ := RB.exists hp hM'
  obtain ⟨hd2', R2', hR2'⟩ := RB.exists hp (LMs_Sub p n w' M')
  have a1 := G.dim hp hM hc hR hR2
  have a2 := H.dim hp hM' hc' hR' hR2'
  have b1 := CB.le hp hM hR.CB hR'.CB p1.1 p2 p3
  have b2 := CB.le hp hM' hR'.CB hR.CB q1.1 q2 q3
  have c1 := CB.le hp (LMs_Sub p n w M) hR2.CB hR2'.CB p1.1 (fun x hx => LMs_map p1 p2 hx) (fun x hx => p3 x (LMs_in hM hc hx))
  have c2 := CB.le hp (LMs_Sub p n w' M') hR2'.CB hR2.CB q1.1 (fun x hx => LMs_map q1 q2 hx) (fun x hx => q3 x (LMs_in hM' hc' hx))
  omega
theorem BtR.same {p n : Nat} (hp : isP p) (hn2 : 2 ≤ n) (hn : n ≤ 4) : ∀ k w w' (M M' : Vc → Prop) r r', w ≤ 256 → w' ≤ 256 → Sub p w M → cloL n M → Sub p w' M' → cloL n M' → Ike p n w w' M M' → BtR p n k w M r → BtR p n k w' M' r' → r = r' := by
  intro k
  induction k with
  | zero =>
    rintro w w' M M' r r' hw hw' hM hc hM' hc' I ⟨g, hg⟩ ⟨h, hh⟩
    exact I.needs hp hM hc hM' hc' hg hh
  | succ k ih =>
    rintro w w' M M' r r' hw hw' hM hc hM' hc' I ⟨t, g, hg, ht, hb⟩ ⟨t', h, hh, ht', hb'⟩
    have e := I.needs hp hM hc hM' hc' hg hh
    subst e
    obtain ⟨ψ, φ, ⟨p1, p2, p3, p4⟩, -⟩ := I
    obtain ⟨α, β, ⟨a1, a2, a3, a4⟩, b1, b2, b3⟩ := iso hp hn2 hn hw hw' ht hM hc hM' hc' p1 p2 p3 p4 hg hh
    exact ih _ _ _ _ r r' ht ht (Sz_Sub p n w t g) (Sz_clo hn2 hn hw ht) (Sz_Sub p n w' t h) (Sz_clo hn2 hn hw' ht) ⟨α, β, ⟨⟨a1.1, fun l hl x _ => a1.2 l hl x trivial⟩, a2, fun x _ => a3 x, a4⟩, ⟨b1.1, fun l hl x _ => b1.2 l hl x trivial⟩, b2, fun x _ => b3 x⟩ hb hb'
theorem BtR.nought {p n : Nat} {w : Nat} {M : Vc → Prop} {g : Nat → Vc} (hg : Mg p n w M 0 g) : ∀ k, BtR p n k w M 0 := by
  have z : ∀ w (g : Nat → Vc), Mg p n (0 * 2 ^ n) (Sz p n w 0 g) 0 (fun _ _ => 0) := fun w g => by
    rw [Nat.zero_mul]
    refine ⟨fun i q => by omega, fun v hv => ⟨fun _ => 0, ?_⟩, fun j q => by omega⟩
    exact (LMs_Sub p n 0 _).to (LMs_Sub p n 0 _).1 (fun i q => by omega)
  have key : ∀ k w (M : Vc → Prop) (g : Nat → Vc), Mg p n w M 0 g → BtR p n k w M 0 := by
    intro k
    induction k with
    | zero => intro w M g hg; exact ⟨g, hg⟩
    | succ k ih => intro w M g hg; exact ⟨0, g, hg, by omega, ih _ _ _ (z w g)⟩
  exact fun k => key k w M g hg
/-- the class counts it -/
theorem sp_stepsOf {h n p K K2 gc k : Nat} {S : Sto} {Q : Int32 → Sto → Prop} (hs : s16 h) (N : Nw S n p K gc) (H : SpOK S h p (2 ^ n) K2 (IdV p n 0 gc (gS S))) (hk : k ≤ 2) (hk3 : k = 2 → n ≤ 3)
    (hQ : ∀ S' r, BtR p n k (2 ^ n) (IdV p n 0 gc (gS S)) r → (∃ t g, Mg p n (2 ^ n) (IdV p n 0 gc (gS S)) t g ∧ t ≤ 4) → fr6 S S' → Q (nI r) S') : wp_X6_countOf h (nI k) S Q := by
  obtain ⟨N1, N2, N3, N4, N5, N6⟩ := id N
  obtain ⟨c0, c1, n2, n4, hp⟩ := id N1
  have hw := pow_n n4
  obtain ⟨I, hI⟩ : ∃ I, I = IdV p n 0 gc (gS S) := ⟨_, rfl⟩
  have IS : Sub p (2 ^ n) I := by rw [hI]; exact IdV_sub _ _ _ _ _
  have Ic : cloL n I := fun l hl x hx => by rw [hI] at hx ⊢; exact (IdV_clo p n 0 gc (gS S) l hl x hx).1 (by decide)
  unfold wp_X6_countOf
  refine sp_chooseGenerators hs N H (fun S1 t g A1 A2 A3 A4 A5 x4 ex4 => ?_)
  rw [← hI] at A1 A2 hQ
  obtain ⟨a1, a2, a3, a4, a5⟩ := id A1
  rw [a2] at ex4
  have htw : t * 2 ^ n ≤ 64 := by have := Nat.mul_le_mul A3 hw.1; omega
  have fC : ∀ T, fr6 S T → Cw T n p := fun T f => N1.keep (f.1 1 (by omega))
  have hk012 : k = 0 ∨ k = 1 ∨ k = 2 := by omega
  have hS1 := Sz_Sub p n (2 ^ n) t g
  have hSc1 := Sz_clo (p := p) (g := g) n2 n4 (show 2 ^ n ≤ 256 by omega) (show t * 2 ^ n ≤ 256 by omega)
  rw [show (1 : Int32) = nI 1 from rfl]
  have e2 : (2 : Int32) = nI 2 := rfl
  rcases hk012 with rfl | rfl | rfl
  · refine ⟨1, ?_⟩
    unfold q_X6_countOf_15 q_X6_countOf_56
    rw [nI_ltI (by omega) (by omega), ex4]
    exact ⟨fun _ => hQ S1 t ⟨g, A2⟩ ⟨t, g, A2, A3⟩ A5, fun z => by omega⟩
  · refine ⟨2, ?_⟩
    unfold q_X6_countOf_15 q_X6_countOf_50
    rw [nI_ltI (by omega) (by omega), e2, nI_ltI (by omega) (by omega)]
    refine ⟨fun z => by omega, fun _ => ⟨fun z => by omega, fun _ => ?_⟩⟩
    refine sp_relateChosen (s := 1) (fC S1 A5) (by omega) htw (by omega) (by omega) a2 A4 (fun i hi => by rw [Nat.one_mul]; exact a4 i hi) (fun S2 B1 B2 B3 => ?_)
    rw [Nat.one_mul] at B1
    have f2 : fr6 S S2 := A5.tr ⟨fun c hc => B2 c (by unfold spC; rw [st_ln.2.2.2.1]; omega) (by omega), B3⟩
    refine sp_countRelations (fC S2 f2) (by omega) htw (by omega) (by rw [B2 206 (by unfold spC; omega) (by decide)]; exact a2) B1 (fun S3 r C1 C2 C3 C4 => ?_)
    have f3 : fr6 S S3 := f2.tr ⟨fun c hc => C3 c (by unfold spC; rw [st_ln.2.1]; omega) (by omega) (by omega), C4⟩
    refine ⟨fun _ x5 e5 => ?_, fun z => absurd ?_ z⟩
    · rw [e5, nI_1]
      show q_X6_countOf_15 h (nI 1) Q 1 (nI r) (nI (1 + 1)) S3
      unfold q_X6_countOf_15 q_X6_countOf_56
      rw [nI_ltI (by omega) (by omega)]
      exact ⟨fun _ => hQ S3 r ⟨t, g, A2, by omega, C2.bt hp hS1 hSc1⟩ ⟨t, g, A2, A3⟩ f3, fun z => by omega⟩
    · rw [nI_leI (by omega) (by omega)]; omega
  · have n3 := hk3 rfl
    refine ⟨3, ?_⟩
    unfold q_X6_countOf_15 q_X6_countOf_50
    rw [nI_ltI (by omega) (by omega), e2, nI_ltI (by omega) (by omega)]
    refine ⟨fun z => by omega, fun _ => ⟨fun z => by omega, fun _ => ?_⟩⟩
    refine sp_relateChosen (s := 1) (fC S1 A5) (by omega) htw (by omega) (by omega) a2 A4 (fun i hi => by rw [Nat.one_mul]; exact a4 i hi) (fun S2 B1 B2 B3 => ?_)
    rw [Nat.one_mul] at B1
    have f2 : fr6 S S2 := A5.tr ⟨fun c hc => B2 c (by unfold spC; rw [st_ln.2.2.2.1]; omega) (by omega), B3⟩
    refine sp_countRelations (fC S2 f2) (by omega) htw (by omega) (by rw [B2 206 (by unfold spC; omega) (by decide)]; exact a2) B1 (fun S3 r C1 C2 C3 C4 => ?_)
    have f3 : fr6 S S3 := f2.tr ⟨fun c hc => C3 c (by unfold spC; rw [st_ln.2.1]; omega) (by omega) (by omega), C4⟩
    refine ⟨fun z => ?_, fun _ => ?_⟩
    · rw [nI_leI (by omega) (by omega)] at z; omega
    have B1' := B1.keep (S' := S3) (fun c hc => C3 c (by unfold spC at *; rw [st_ln.2.1]; omega) (by unfold spC at hc; rw [st_ln.2.2.2.1] at hc; omega) (by unfold spC at hc; rw [st_ln.2.2.2.1] at hc; omega))
    refine sp_chooseRelations (fC S3 f3) n3 (by omega) htw (by omega) (by rw [C3 206 (by unfold spC; omega) (by decide) (by decide), B2 206 (by unfold spC; omega) (by decide)]; exact a2) B1' C1 (fun hd R hd2 R2 r1 r2 => ?_) (fun S4 t1 g1 D1 D2 D3 D4 x5 e5 => ?_)
    · obtain ⟨hdM, RM, hRM⟩ := RB.exists hp IS
      obtain ⟨hdL, RL, hRL⟩ := RB.exists hp (LMs_Sub p n (2 ^ n) I)
      exact rel_bd hp n2 n3 A3 IS Ic A2 hRM hRL (A2.dim hp IS Ic hRM hRL) r1 r2
    have f4 := f3.tr D4
    rw [e5, nI_1]
    obtain ⟨d1, d2, d3, d4, d5⟩ := id D1
    have h8 : 2 ^ n ≤ 8 := by
      have : n = 2 ∨ n = 3 := by omega
      rcases this with rfl | rfl <;> decide
    have ht1w : t1 * 2 ^ n ≤ 64 := by have := Nat.mul_le_mul d3 h8; omega
    have hS2 := Sz_Sub p n (t * 2 ^ n) t1 g1
    have hSc2 := Sz_clo (p := p) (g := g1) n2 n4 (show t * 2 ^ n ≤ 256 by omega) (show t1 * 2 ^ n ≤ 256 by omega)
    show q_X6_countOf_15 h (nI 2) Q 2 (nI r) (nI (1 + 1)) S4
    unfold q_X6_countOf_15 q_X6_countOf_50
    rw [nI_ltI (by omega) (by omega), e2, nI_ltI (by omega) (by omega)]
    refine ⟨fun z => by omega, fun _ => ⟨fun z => by omega, fun _ => ?_⟩⟩
    refine sp_relateChosen (s := t) (fC S4 f4) d3 ht1w (by omega) htw d2 D3 d4 (fun S5 E1 E2 E3 => ?_)
    have f5 : fr6 S S5 := f4.tr ⟨fun c hc => E2 c (by unfold spC; rw [st_ln.2.2.2.1]; omega) (by omega), E3⟩
    refine sp_countRelations (fC S5 f5) d3 ht1w (by omega) (by rw [E2 206 (by unfold spC; omega) (by decide)]; exact d2) E1 (fun S6 r' F1 F2 F3 F4 => ?_)
    have f6 : fr6 S S6 := f5.tr ⟨fun c hc => F3 c (by unfold spC; rw [st_ln.2.1]; omega) (by omega) (by omega), F4⟩
    refine ⟨fun _ x6 e6 => ?_, fun z => absurd ?_ z⟩
    · rw [e6, nI_1]
      show q_X6_countOf_15 h (nI 2) Q 1 (nI r') (nI (1 + 1 + 1)) S6
      unfold q_X6_countOf_15 q_X6_countOf_56
      rw [nI_ltI (by omega) (by omega)]
      exact ⟨fun _ => hQ S6 r' ⟨t, g, A2, by omega, t1, g1, D2, by omega, F2.bt hp hS2 hSc2⟩ ⟨t, g, A2, A3⟩ f6, fun z => by omega⟩
    · rw [nI_leI (by omega) (by omega)]; omega
