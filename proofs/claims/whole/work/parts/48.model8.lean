/-! the reference: annihilated -/
theorem unit_all {p w : Nat} {U : Vc → Prop} (hU : Sub p w U) (h : ∀ a, a < w → U (fun i => if i = a then 1 else 0)) (v : Vc) : U v := by
  have key : ∀ k, k ≤ w → U (fun i => if i < k then v i else 0) := by
    intro k
    induction k with
    | zero => intro _; exact hU.to hU.1 (fun i _ => (if_neg (by omega)).symm)
    | succ k ih =>
      intro hk
      refine hU.to (hU.2.1 _ _ (ih (by omega)) (hU.2.2.1 (v k) _ (h k (by omega)))) (fun i _ => ?_)
      show (if i < k then v i else 0) + v k * (if i = k then 1 else 0) = if i < k + 1 then v i else 0
      rcases Nat.lt_trichotomy i k with q | q | q
      · rw [if_pos q, if_neg (by omega), if_pos (by omega), Int.mul_zero, Int.add_zero]
      · subst q; rw [if_neg (by omega), if_pos rfl, if_pos (by omega), Int.mul_one, Int.zero_add]
      · rw [if_neg (by omega), if_neg (by omega), if_neg (by omega), Int.mul_zero, Int.add_zero]
  exact hU.to (key w (Nat.le_refl _)) (fun i hi => if_pos hi)
/-- what rows Y 0 .. Y (i - 1) annihilate -/
def AnR (p n hand i : Nat) (Y : Nat → Vc) : Vc → Prop := fun x => ∀ j, j < i → V0 p (2 ^ n) (act (2 ^ n) hand x (Y j))
theorem AnR_Sub (p n hand i : Nat) (Y : Nat → Vc) : Sub p (2 ^ n) (AnR p n hand i Y) := by
  refine ⟨fun j _ => ?_, fun x y hx hy j hj => ?_, fun c x hx j hj => ?_, fun x y e hx j hj => ?_⟩
  · exact (Sub.pre (actx_Lin p (hand := hand) (Y j)) (V0_sub p (2 ^ n))).1
  · exact (Sub.pre (actx_Lin p (hand := hand) (Y j)) (V0_sub p (2 ^ n))).2.1 _ _ (hx j hj) (hy j hj)
  · exact (Sub.pre (actx_Lin p (hand := hand) (Y j)) (V0_sub p (2 ^ n))).2.2.1 _ _ (hx j hj)
  · exact (Sub.pre (actx_Lin p (hand := hand) (Y j)) (V0_sub p (2 ^ n))).2.2.2 _ _ e (hx j hj)
theorem Spc.cong {S : Sto} {n p m : Nat} {U U' : Vc → Prop} {X : Nat → Vc} (h : Spc S n p U m X) (e : ∀ v, U v ↔ U' v) : Spc S n p U' m X := by
  rw [show U' = U from funext fun v => propext (e v).symm]; exact h
theorem sp_annihilated {t n p K many hand : Nat} {Y : Nat → Vc} {S : Sto} {Q : Sto → Prop} (hC : Cm S n p K) (ht : t = 376 ∨ t = 379) (hm : many ≤ 16) (hh : hand < 2) (hY : ∀ i, i < many → ∀ a, a < 2 ^ n → S.1 t (16 * i + a) = iI (Y i a) ∧ 0 ≤ Y i a ∧ Y i a < p)
    (hQ : ∀ S' rk L R, MB S' p (2 ^ n) K (AnR p n hand many Y) rk L R → Kpt S' 374 (2 ^ n) K rk L R → S'.1 353 35 = nI rk → frM lAn S S' → Q S') : wp_X9_annihilated t (nI many) (nI hand) S Q := by
  obtain ⟨h1, h2, h3, h4, n2, n4, hp, hK⟩ := id hC
  have hw := pow_n n4
  have hp8 := hp.pos
  have l374 : ln 374 = 256 := by decide +kernel
  have htl : t ≠ 353 ∧ t ∉ lAn := by rcases ht with rfl | rfl <;> simp [lAn]
  unfold wp_X9_annihilated
  intro S1 e1
  have s35 : S1.1 353 35 = nI (2 ^ n) := by rw [e1, uA_eq, upd_eq]; exact h4
  have f1 : frM lAn S S1 := by rw [e1]; exact frM.fld (by decide)
  -- the basis
  have part3 : ∀ (T : Sto) (m : Nat) (X : Nat → Vc), Spc T n p (AnR p n hand many Y) m X → frM lAn S T → wp_X9_beginPlaces T (fun S_2 => (∃ n_100, q_X9_annihilated_100 t (nI many) (nI hand) Q n_100 0 S_2)) := by
    intro T m X hs hf
    obtain ⟨p1, p2, p3, p4, p5⟩ := hs
    refine sp_beginPlaces (hC.keepM hf) (fun T1 a1 a2 => ?_)
    refine loopE (fun m2 i (Z : Sto) => q_X9_annihilated_100 t (nI many) (nI hand) Q m2 (nI i) Z) (fun i Z => ∃ V rk L R, MB Z p (2 ^ n) K V rk L R ∧ (∀ v, V v → AnR p n hand many Y v) ∧ (∀ k, k < i → V (X k)) ∧ frm [366, 367, 368, 369, 370] T Z) m ?_ ?_ 0 T1 (by omega) ⟨_, 0, _, _, a1, fun v hv => V0_least p5 hv, fun k q => by omega, a2.mono (by simp)⟩
    · rintro Z ⟨V, rk, L, R, b1, b2, b3, b4⟩
      unfold q_X9_annihilated_100
      rw [b4.2.1 35 (by decide) (by decide), p1, nI_leI (by omega) (by omega)]
      refine ⟨fun _ => ?_, fun z => by omega⟩
      have b1' := b1.cong (fun v => ⟨b2 v, fun hv => p4 V b1.2.2.2.2.2.1 b3 v hv⟩)
      refine sp_keeps b1' (by omega) (by rw [b4.2.1 3 (by decide) (by decide), hf.2.1 3 (by decide)]; exact h4) (Or.inl rfl) (fun S' k1 k2 S4 e4 => ?_)
      have f4 : frM lAn S' S4 := by rw [e4]; exact frM.fld (by decide)
      have o4 : ∀ c, c ≠ 353 → S4.1 c = S'.1 c := fun c h => by rw [e4, uA_ne h]
      refine hQ S4 rk L R ((b1'.keepS k2 (by simp)).keep ⟨?_, ?_, ?_⟩ (fun c q1 q2 => o4 c (by omega))) (fun c hc hd a ha => by rw [o4 374 (by decide)]; exact k1 c hc hd a ha) (by rw [e4, uA_eq, upd_eq]) (hf.tr ((b4.M.mono (by simp [lAn])).tr (((k2.M (by simp)).mono (by simp [lAn])).tr f4)))
      · rw [e4, uA_eq, upd_ne _ _ (by decide)]
      · rw [e4, uA_eq, upd_ne _ _ (by decide)]
      · rw [e4, uA_eq, upd_ne _ _ (by decide)]
    · rintro i m2 Z hi ⟨V, rk, L, R, b1, b2, b3, b4⟩ ih
      obtain ⟨q1, q2⟩ := p3 i hi
      have hV := b1.2.2.2.2.2.1
      unfold q_X9_annihilated_100
      rw [b4.2.1 35 (by decide) (by decide), p1, nI_leI (by omega) (by omega)]
      refine ⟨fun z => by omega, fun _ => ?_⟩
      refine loopE (fun m3 a (Y3 : Sto) => q_X9_annihilated_112 t (nI many) (nI hand) (fun y4 S => q_X9_annihilated_100 t (nI many) (nI hand) Q m2 y4 S) Q m3 (nI i) (nI a) Y3) (fun a Y3 => Y3 = setA Z 370 (fl a (fun a => Z.1 374 (16 * i + a)) (Z.1 370))) (2 ^ n) ?_ ?_ 0 Z (Nat.zero_le _) (by rw [fl_0, setA_self])
      · intro Y3 hY3
        unfold q_X9_annihilated_112
        have g : frs [370] Z Y3 := by rw [hY3]; exact frs.set (by simp)
        rw [g.1 353 (by simp), b4.2.1 3 (by decide) (by decide), hf.2.1 3 (by decide), h4, nI_leI (by omega) (by omega)]
        refine ⟨fun _ => ?_, fun z => by omega⟩
        refine sp_comes (X := X i) (b1.keepS g (by simp)) (by rw [hY3, setA_eq]; intro a ha; rw [fl_lt _ _ ha, b4.1 374 (by decide) (by simp)]; exact q1 a ha) (fun a S' rk' L' R' c1 c2 c3 x ex => ?_)
        rw [ex, nI_1]
        refine ih S' ⟨_, rk', L', R', c1, fun v hv => addV_least p5 b2 q2 hv, fun k hk => ?_, b4.tr (((g.m (by simp)).mono (by simp)).tr (c2.mono (by simp)))⟩
        rcases Nat.lt_or_ge k i with q | q
        · exact addV_old hV _ (b3 k q)
        · rw [show k = i by omega]; exact addV_new hV _
      · intro a m3 Y3 ha hY3 ih3
        unfold q_X9_annihilated_112
        have g : frs [370] Z Y3 := by rw [hY3]; exact frs.set (by simp)
        rw [g.1 353 (by simp), b4.2.1 3 (by decide) (by decide), hf.2.1 3 (by decide), h4, nI_leI (by omega) (by omega), show (16 : Int32) = nI 16 from rfl, pk_mul, nI_add, tn_nI (i := a) (by omega), tn_nI (i := 16 * i + a) (by omega), g.1 374 (by simp)]
        refine ⟨fun z => by omega, fun _ => ⟨vp_nI (by omega) (by omega), vp_nI (by omega) (by omega), fun S7 e7 x ex => ?_⟩⟩
        rw [ex, nI_1]
        refine ih3 S7 ?_
        rw [e7, hY3]
        exact fl_step' Z 370 a _ _ rfl
  -- one row behind the other
  have part2 : ∀ (T : Sto) (X : Nat → Vc), Spc T n p (fun _ => True) (2 ^ n) X → frM lAn S T → ∃ n_70, q_X9_annihilated_70 t (nI many) (nI hand) Q n_70 0 T := by
    intro T X hs hf
    refine loopE (fun m2 i (Z : Sto) => q_X9_annihilated_70 t (nI many) (nI hand) Q m2 (nI i) Z) (fun i Z => ∃ m X, Spc Z n p (AnR p n hand i Y) m X ∧ frM lAn S Z) many ?_ ?_ 0 T (by omega) ⟨_, X, hs.cong (fun v => ⟨fun _ j q => by omega, fun _ => trivial⟩), hf⟩
    · rintro Z ⟨m, X, z1, z2⟩
      unfold q_X9_annihilated_70
      rw [nI_leI (by omega) (by omega)]
      exact ⟨fun _ => part3 Z m X z1 z2, fun z => by omega⟩
    · rintro i m2 Z hi ⟨m, X, z1, z2⟩ ih
      unfold q_X9_annihilated_70
      rw [nI_leI (by omega) (by omega), show (16 : Int32) = nI 16 from rfl, pk_mul]
      refine ⟨fun z => by omega, fun _ => ?_⟩
      refine sp_thins (Y := Y i) (hC.keepM z2) ht (by omega) hh z1 (fun a ha => by rw [z2.1 t htl.1 htl.2]; exact hY i hi a ha) (fun S' m' X' c1 c2 x ex => ?_)
      rw [ex, nI_1]
      refine ih S' ⟨m', X', c1.cong (fun v => ?_), z2.tr c2⟩
      constructor
      · rintro ⟨d1, d2⟩ j hj
        rcases Nat.lt_or_ge j i with q | q
        · exact d1 j q
        · rw [show j = i by omega]; exact d2
      · intro d
        exact ⟨fun j hj => d j (by omega), d i (by omega)⟩
  -- all elements
  refine loopE (fun m2 i (Z : Sto) => q_X9_annihilated_11 t (nI many) (nI hand) Q m2 (nI i) Z) (fun i Z => frs [374] S1 Z ∧ ∀ k, k < i → ∀ a, a < 16 → Z.1 374 (16 * k + a) = if a = k then 1 else 0) (2 ^ n) ?_ ?_ 0 S1 (Nat.zero_le _) ⟨frs.rf, fun k q => by omega⟩
  · rintro Z ⟨z1, z2⟩
    unfold q_X9_annihilated_11
    have hf : frM lAn S Z := f1.tr ((z1.M (by simp)).mono (by simp [lAn]))
    rw [hf.2.1 3 (by decide), h4, nI_leI (by omega) (by omega)]
    refine ⟨fun _ => part2 Z (fun k a => if a = k then 1 else 0) ⟨by rw [z1.1 353 (by simp)]; exact s35, Nat.le_refl _, fun i hi => ⟨fun a ha => ?_, trivial⟩, fun U' hU' hall v _ => unit_all hU' hall v, trivial, fun _ _ _ _ => trivial, fun _ _ _ => trivial, fun _ _ _ _ => trivial⟩ hf, fun z => by omega⟩
    rw [z2 i hi a (by omega)]
    refine ⟨?_, unit_rd hp a⟩
    show (if a = i then (1 : Int32) else 0) = iI (if a = i then 1 else 0)
    split <;> rfl
  · rintro i m2 Z hi ⟨z1, z2⟩ ih
    unfold q_X9_annihilated_11
    have hf : frM lAn S Z := f1.tr ((z1.M (by simp)).mono (by simp [lAn]))
    rw [hf.2.1 3 (by decide), h4, nI_leI (by omega) (by omega)]
    refine ⟨fun z => by omega, fun _ => ?_⟩
    refine loopE (fun m3 a (Y3 : Sto) => q_X9_annihilated_23 t (nI many) (nI hand) (fun y4 S => q_X9_annihilated_11 t (nI many) (nI hand) Q m2 y4 S) Q m3 (nI i) (nI a) Y3) (fun a Y3 => frs [374] Z Y3 ∧ (∀ k, k < 16 * i → Y3.1 374 k = Z.1 374 k) ∧ ∀ b, b < a → Y3.1 374 (16 * i + b) = if b = i then 1 else 0) 16 ?_ ?_ 0 Z (by omega) ⟨frs.rf, fun _ _ => rfl, fun b q => by omega⟩
    · rintro Y3 ⟨y1, y2, y3⟩
      unfold q_X9_annihilated_23
      refine ⟨fun _ x ex => ?_, fun q => absurd (show (16 : Int32) ≤ nI 16 by decide) q⟩
      rw [ex, nI_1]
      refine ih Y3 ⟨z1.tr y1, fun k hk a ha => ?_⟩
      by_cases e : k = i
      · rw [e]; exact y3 a ha
      · rw [y2 _ (by omega)]; exact z2 k (by omega) a ha
    · rintro a m3 Y3 ha ⟨y1, y2, y3⟩ ih3
      unfold q_X9_annihilated_23 q_X9_annihilated_54
      have last : ∀ v : Int32, v = (if a = i then 1 else 0) → vp_in (nI (16 * i + a)) 256 ∧ ∀ S_2 : Sto, S_2 = uA Y3 374 (16 * i + a) v → ∀ x5_3 : Int32, x5_3 = nI a + 1 → q_X9_annihilated_23 t (nI many) (nI hand) (fun y4 S => q_X9_annihilated_11 t (nI many) (nI hand) Q m2 y4 S) Q m3 (nI i) x5_3 S_2 := by
        intro v hv
        refine ⟨vp_nI (by omega) (by omega), fun S1 e1 y ey => ?_⟩
        rw [ey, nI_1]
        refine ih3 S1 ⟨y1.tr (by rw [e1]; exact frs.upd (by simp)), fun k hk => by rw [e1, uA_eq, upd_ne _ _ (by omega)]; exact y2 k hk, fun b hb => ?_⟩
        rw [e1, uA_eq]
        by_cases e : b = a
        · rw [e, upd_eq, hv]
        · rw [upd_ne _ _ (by omega)]; exact y3 b (by omega)
      rw [show (16 : Int32) = nI 16 from rfl, nI_leI (by omega) (by omega), nI_eq (by omega) (by omega), pk_mul, nI_add, tn_nI (by omega)]
      exact ⟨fun z => by omega, fun _ => ⟨fun z => last 0 (by rw [if_neg (fun e => z e.symm)]), fun z => last 1 (by rw [if_pos z.symm])⟩⟩
/-- the rows that were kept in t, read as rows -/
def rwT (S : Sto) (t i : Nat) : Vc := fun a => (S.1 t (16 * i + a)).toInt
theorem Kpt_rd {S S' : Sto} {t n p K rk i : Nat} {V : Vc → Prop} {L : Nat → Nat} {R : Nat → Vc} (H : MB S' p (2 ^ n) K V rk L R) (hn : n ≤ 4) (h : Kpt S t (2 ^ n) K rk L R) (hi : i < rk) : ∀ a, a < 2 ^ n → S.1 t (16 * i + a) = iI (rwT S t i a) ∧ 0 ≤ rwT S t i a ∧ rwT S t i a < p := by
  intro a ha
  have hw := pow_n hn
  have hp8 := H.1.1.pos
  obtain ⟨c, h1, h2, h3⟩ := H.at hi
  have := h c h1 h2 a (by omega)
  rw [if_pos ha, h3] at this
  have g := (H.2.2.2.2.1.1 _ h2).2.2.2.1 a ha
  refine ⟨(iI_toInt _).symm, ?_⟩
  unfold rwT
  rw [this, toInt_iI ⟨by omega, by omega⟩]
  exact g
theorem Kpt_AnR {S S' : Sto} {t n p K rk hand : Nat} {V : Vc → Prop} {L : Nat → Nat} {R : Nat → Vc} (H : MB S' p (2 ^ n) K V rk L R) (hn : n ≤ 4) (h : Kpt S t (2 ^ n) K rk L R) (x : Vc) : AnR p n hand rk (rwT S t) x ↔ AnV p n hand V x := by
  have hw := pow_n hn
  have hp8 := H.1.1.pos
  have hcl := clf_ok H.1.2.2.1
  have row : ∀ c, c < 2 ^ n → hdL rk L (clf K (2 ^ n) c) → ∀ a, a < 2 ^ n → rwT S t (npM K (2 ^ n) (hdL rk L) c) a = R (clf K (2 ^ n) c) a := by
    intro c hc hd a ha
    have g := (H.2.2.2.2.1.1 _ hd).2.2.2.1 a ha
    unfold rwT
    rw [h c hc hd a (by omega), if_pos ha, toInt_iI ⟨by omega, by omega⟩]
  have lt : ∀ c, c < 2 ^ n → hdL rk L (clf K (2 ^ n) c) → npM K (2 ^ n) (hdL rk L) c < rk := by
    intro c hc hd
    have h1 := npM_all (hd := hdL rk L) H.1.2.2.1
    have h2 := H.2.2.2.2.2.2
    have := npM_lt (K := K) (w := 2 ^ n) (hd := hdL rk L) hc hd
    omega
  rw [AnV_eq hn H.2.2.2.2.2.1 H.2.2.2.2.1]
  have tr : ∀ (X Y : Vc), (∀ a, a < 2 ^ n → X a = Y a) → V0 p (2 ^ n) (act (2 ^ n) hand x X) → V0 p (2 ^ n) (act (2 ^ n) hand x Y) := by
    intro X Y e hX
    exact (Sub.pre (act_Lin p (hand := hand) x (show 2 ^ n ≤ 16 by omega)) (V0_sub p (2 ^ n))).to hX e
  constructor
  · intro hx l hl
    obtain ⟨-, -, c, hc, e⟩ := hcl l (H.2.2.2.2.1.1 l hl).1
    rw [← e] at hl ⊢
    exact tr _ _ (row c hc hl) (hx _ (lt c hc hl))
  · intro hx i hi
    obtain ⟨c, h1, h2, h3⟩ := H.at hi
    rw [← h3]
    exact tr _ _ (fun a ha => (row c h1 h2 a ha).symm) (hx _ h2)
