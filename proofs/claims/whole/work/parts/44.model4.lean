/-! the reference: rests, ideals -/
/-- nothing but the cells l -/
def frs (l : List Nat) (S S' : Sto) : Prop := (∀ c, c ∉ l → S'.1 c = S.1 c) ∧ S'.2 = S.2
theorem frs.rf {l : List Nat} {S : Sto} : frs l S S := ⟨fun _ _ => rfl, rfl⟩
theorem frs.tr {l : List Nat} {S S' S'' : Sto} (a : frs l S S') (b : frs l S' S'') : frs l S S'' := ⟨fun c x => (b.1 c x).trans (a.1 c x), b.2.trans a.2⟩
theorem frs.mono {l l' : List Nat} {S S' : Sto} (a : frs l S S') (h : ∀ c, c ∈ l → c ∈ l') : frs l' S S' := ⟨fun c x => a.1 c (fun q => x (h c q)), a.2⟩
theorem frs.set {l : List Nat} {S : Sto} {t : Nat} {F : Nat → Int32} (h : t ∈ l) : frs l S (setA S t F) := ⟨fun c x => setA_ne _ _ (fun e => x (e ▸ h)), rfl⟩
theorem frs.upd {l : List Nat} {S : Sto} {t j : Nat} {x : Int32} (h : t ∈ l) : frs l S (uA S t j x) := by rw [uA_setA]; exact frs.set h
theorem frs.m {l : List Nat} {S S' : Sto} (a : frs l S S') (h : 353 ∉ l) : frm l S S' := ⟨fun c _ x => a.1 c x, fun j _ _ => by rw [a.1 353 h], a.2⟩
theorem MB.keepS {S S' : Sto} {p w K rk : Nat} {V : Vc → Prop} {L : Nat → Nat} {R : Nat → Vc} {l : List Nat} (H : MB S p w K V rk L R) (f : frs l S S') (h : 353 ∉ l ∧ 366 ∉ l ∧ 367 ∉ l ∧ 368 ∉ l ∧ 369 ∉ l) : MB S' p w K V rk L R :=
  H.keep ⟨by rw [f.1 353 h.1], by rw [f.1 353 h.1], by rw [f.1 353 h.1]⟩ (fun c a b => by
    have : c = 366 ∨ c = 367 ∨ c = 368 ∨ c = 369 := by omega
    rcases this with rfl | rfl | rfl | rfl
    · exact f.1 _ h.2.1
    · exact f.1 _ h.2.2.1
    · exact f.1 _ h.2.2.2.1
    · exact f.1 _ h.2.2.2.2)
def lSp : List Nat := [366, 367, 368, 369, 370, 371, 372, 373]
theorem sp_takesMade {w p K rk : Nat} {V : Vc → Prop} {L : Nat → Nat} {R : Nat → Vc} {X : Vc} {S : Sto} {Q : Sto → Prop} (H : MB S p w K V rk L R) (hw : w ≤ 16) (h3 : S.1 353 3 = nI w) (hX : rd (S.1 373) w p X)
    (hQ : ∀ (S' : Sto) rk' L' R', MB S' p w K (addV V X) rk' L' R' → frm [366, 367, 368, 370] S S' → Q S') : wp_X9_takesMade S Q := by
  unfold wp_X9_takesMade
  refine loopE (fun m i (T : Sto) => q_X9_takesMade_2 Q m (nI i) T) (fun i T => T = setA S 370 (fl i (S.1 373) (S.1 370))) w ?_ ?_ 0 S (by omega) (by rw [fl_0, setA_self])
  · intro T hT
    unfold q_X9_takesMade_2
    rw [hT, setA_ne _ _ (by decide), h3, nI_leI (by omega) (by omega)]
    refine ⟨fun _ => ?_, fun z => by omega⟩
    refine sp_comes (X := X) (H.keep ⟨by rw [setA_ne _ _ (by decide)], by rw [setA_ne _ _ (by decide)], by rw [setA_ne _ _ (by decide)]⟩ (fun c a b => setA_ne _ _ (by omega))) (by rw [setA_eq]; intro i hi; rw [fl_lt _ _ hi]; exact hX i hi) (fun a S' rk' L' R' b1 b2 b3 => ?_)
    exact hQ S' rk' L' R' b1 ((frm.set (by simp) (by decide)).tr b2)
  · intro i m T hi hT ih
    unfold q_X9_takesMade_2
    have e3 : T.1 353 = S.1 353 := by rw [hT, setA_ne _ _ (by decide)]
    have e7 : T.1 373 = S.1 373 := by rw [hT, setA_ne _ _ (by decide)]
    rw [e3, e7, h3, nI_leI (by omega) (by omega), tn_nI (by omega)]
    refine ⟨fun z => by omega, fun _ => ⟨vp_nI (by omega) (by omega), vp_nI (by omega) (by omega), fun S1 e1 x ex => ?_⟩⟩
    rw [ex, nI_1]
    refine ih S1 ?_
    rw [e1, hT]
    exact fl_step S 370 i _ _
theorem act_unit {w hand a c : Nat} (g : Vc) (ha : a < w) : act w hand (fun i => if i = a then 1 else 0) g c = ax hand a g c := by
  unfold act
  rw [sI_one ha (fun i _ q => by simp only [if_neg q, Int.zero_mul])]
  simp only [if_pos, Int.one_mul]
theorem mulE_unitL {w a c : Nat} (g : Vc) (ha : a < w) : mulE w (fun i => if i = a then 1 else 0) g c = pl a g c := by
  rw [mulE_act0, act_unit g ha]; rfl
theorem mulE_unitR {n a c : Nat} (g : Vc) (hn : n ≤ 4) (ha : a < 2 ^ n) (hc : c < 2 ^ n) : mulE (2 ^ n) g (fun i => if i = a then 1 else 0) c = pr a g c := by
  rw [mulE_act1 hn hc, act_unit g ha]; rfl
/-- the generators of the reference -/
def Gm (S : Sto) (n p gc : Nat) (G : Nat → Vc) : Prop := S.1 353 6 = nI gc ∧ gc ≤ 4 ∧ ∀ i, i < gc → ∀ j, j < 2 ^ n → S.1 355 (16 * i + j) = iI (G i j) ∧ 0 ≤ G i j ∧ G i j < p
theorem Gm.keep {S S' : Sto} {n p gc : Nat} {G : Nat → Vc} {l : List Nat} (h : Gm S n p gc G) (f : frm l S S') (hl : 355 ∉ l) : Gm S' n p gc G := by
  obtain ⟨h1, h2, h3⟩ := h
  refine ⟨by rw [f.2.1 6 (by decide) (by decide)]; exact h1, h2, fun i hi j hj => ?_⟩
  rw [f.1 355 (by decide) hl]; exact h3 i hi j hj
/-- place a times generator g (left), generator g times place a (right): into made -/
def Un (S : Sto) (a : Nat) : Prop := ∀ b, b < 16 → S.1 371 b = iI (if b = a then 1 else 0)
theorem sp_unitU {a : Nat} {S : Sto} {Q : Sto → Prop} (ha : a < 16) (hQ : ∀ S', Un S' a → frs [371] S S' → Q S') : wp_X9_unit 371 (nI a) S Q := by
  refine sp_unit9 (by decide +kernel) ha (hQ _ (fun b hb => ?_) (frs.set (by simp)))
  rw [setA_eq, fl_lt _ _ hb]
  split <;> rfl
theorem unit_rd {a p : Nat} (hp : isP p) (b : Nat) : 0 ≤ (if b = a then (1 : Int) else 0) ∧ (if b = a then (1 : Int) else 0) < p := by
  have := hp.pos
  split <;> omega
theorem sp_mulUL {n p K gc a g : Nat} {G : Nat → Vc} {S : Sto} {Q : Sto → Prop} (hC : Cm S n p K) (hG : Gm S n p gc G) (hg : g < gc) (ha : a < 2 ^ n) (hU : Un S a)
    (hQ : ∀ S', rd (S'.1 373) (2 ^ n) p (fun c => pl a (G g) c % p) → (∀ j, 2 ^ n ≤ j → j < 16 → S'.1 373 j = 0) → frs [373] S S' → Q S') : wp_X9_multiply 371 (nI 0) 355 (nI (16 * g)) S Q := by
  obtain ⟨h1, h2, h3, h4, n2, n4, hp, hK⟩ := id hC
  obtain ⟨g1, g2, g3⟩ := hG
  have hw := pow_n n4
  have hp8 := hp.pos
  have l1 : ln 371 = 16 := by decide +kernel
  have l2 : ln 355 = 64 := by decide +kernel
  refine sp_multiply9 (X := fun i => if i = a then 1 else 0) (Y := G g) n4 (p := p) h2 hp h4 (by omega) (by omega) (by omega) (by omega) (by decide) (by decide) (fun b hb => ⟨by rw [Nat.zero_add]; exact hU b (by omega), unit_rd hp b⟩) (fun b hb => g3 g hg b hb) ?_
  refine hQ _ (fun c hc => ?_) (fun j hj hj2 => ?_) (frs.set (by simp))
  · rw [setA_eq, fl_lt _ _ (by omega), if_pos hc, mulE_unitL _ ha]
    exact ⟨rfl, Int.emod_nonneg _ (by omega), Int.emod_lt_of_pos _ (by omega)⟩
  · rw [setA_eq, fl_lt _ _ (by omega), if_neg (by omega)]
theorem sp_mulUR {n p K gc a g : Nat} {G : Nat → Vc} {S : Sto} {Q : Sto → Prop} (hC : Cm S n p K) (hG : Gm S n p gc G) (hg : g < gc) (ha : a < 2 ^ n) (hU : Un S a)
    (hQ : ∀ S', rd (S'.1 373) (2 ^ n) p (fun c => pr a (G g) c % p) → (∀ j, 2 ^ n ≤ j → j < 16 → S'.1 373 j = 0) → frs [373] S S' → Q S') : wp_X9_multiply 355 (nI (16 * g)) 371 (nI 0) S Q := by
  obtain ⟨h1, h2, h3, h4, n2, n4, hp, hK⟩ := id hC
  obtain ⟨g1, g2, g3⟩ := hG
  have hw := pow_n n4
  have hp8 := hp.pos
  have l1 : ln 371 = 16 := by decide +kernel
  have l2 : ln 355 = 64 := by decide +kernel
  refine sp_multiply9 (Y := fun i => if i = a then 1 else 0) (X := G g) n4 (p := p) h2 hp h4 (by omega) (by omega) (by omega) (by omega) (by decide) (by decide) (fun b hb => g3 g hg b hb) (fun b hb => ⟨by rw [Nat.zero_add]; exact hU b (by omega), unit_rd hp b⟩) ?_
  refine hQ _ (fun c hc => ?_) (fun j hj hj2 => ?_) (frs.set (by simp))
  · rw [setA_eq, fl_lt _ _ (by omega), if_pos hc, mulE_unitR _ n4 ha hc]
    exact ⟨rfl, Int.emod_nonneg _ (by omega), Int.emod_lt_of_pos _ (by omega)⟩
  · rw [setA_eq, fl_lt _ _ (by omega), if_neg (by omega)]
/-- place b times what stands in two -/
theorem sp_mulUT {n p K b : Nat} {X : Vc} {S : Sto} {Q : Sto → Prop} (hC : Cm S n p K) (hX : rd (S.1 372) (2 ^ n) p X) (hb : b < 2 ^ n) (hU : Un S b)
    (hQ : ∀ S', rd (S'.1 373) (2 ^ n) p (fun c => pl b X c % p) → frs [373] S S' → Q S') : wp_X9_multiply 371 (nI 0) 372 (nI 0) S Q := by
  obtain ⟨h1, h2, h3, h4, n2, n4, hp, hK⟩ := id hC
  have hw := pow_n n4
  have hp8 := hp.pos
  have l1 : ln 371 = 16 := by decide +kernel
  have l2 : ln 372 = 16 := by decide +kernel
  refine sp_multiply9 (X := fun i => if i = b then 1 else 0) (Y := X) n4 (p := p) h2 hp h4 (by omega) (by omega) (by omega) (by omega) (by decide) (by decide) (fun b hb => ⟨by rw [Nat.zero_add]; exact hU b (by omega), unit_rd hp b⟩) (fun b hb => by rw [Nat.zero_add]; exact hX b hb) ?_
  refine hQ _ (fun c hc => ?_) (frs.set (by simp))
  rw [setA_eq, fl_lt _ _ (by omega), if_pos hc, mulE_unitL _ hb]
  exact ⟨rfl, Int.emod_nonneg _ (by omega), Int.emod_lt_of_pos _ (by omega)⟩
/-- the products that the reference takes, one by one -/
def It (s : Nat) (G : Nat → Vc) (i a b : Nat) : Vc := if s = 0 then pl a (G i) else if s = 1 then pr a (G i) else pl b (pr a (G i))
theorem It_Gn {n s gc i a b : Nat} {G : Nat → Vc} (hs : s < 3) (hi : i < gc) (ha : a < 2 ^ n) (hb : b < 2 ^ n) : GnF n s gc G (It s G i a b) := by
  refine ⟨i, hi, a, ha, ?_⟩
  unfold It
  have : s = 0 ∨ s = 1 ∨ s = 2 := by omega
  rcases this with rfl | rfl | rfl
  · exact Or.inl ⟨rfl, rfl⟩
  · exact Or.inr (Or.inl ⟨rfl, rfl⟩)
  · exact Or.inr (Or.inr ⟨rfl, b, hb, rfl⟩)
theorem sp_spans {s n p K gc : Nat} {G : Nat → Vc} {S : Sto} {Q : Sto → Prop} (hs : s < 3) (hC : Cm S n p K) (hG : Gm S n p gc G)
    (hQ : ∀ S' rk L R, MB S' p (2 ^ n) K (IdV p n s gc G) rk L R → frm lSp S S' → Q S') : wp_X9_spans (nI s) S Q := by
  obtain ⟨h1, h2, h3, h4, n2, n4, hp, hK⟩ := id hC
  have hw := pow_n n4
  have hp8 := hp.pos
  have hB := SpF_sub p (2 ^ n) (GnF n s gc G)
  -- the state: V is told, within the ideal
  have I : ∀ (P : (Vc → Prop) → Prop), ∃ Inv : Sto → Prop, ∀ T, Inv T ↔ ∃ V rk L R, MB T p (2 ^ n) K V rk L R ∧ (∀ v, V v → SpF p (2 ^ n) (GnF n s gc G) v) ∧ frm lSp S T ∧ P V := fun P => ⟨fun T => ∃ V rk L R, MB T p (2 ^ n) K V rk L R ∧ (∀ v, V v → SpF p (2 ^ n) (GnF n s gc G) v) ∧ frm lSp S T ∧ P V, fun _ => Iff.rfl⟩
  unfold wp_X9_spans
  refine sp_beginPlaces hC (fun S1 a1 a2 => ?_)
  have fin : ∀ T, (∃ V rk L R, MB T p (2 ^ n) K V rk L R ∧ (∀ v, V v → SpF p (2 ^ n) (GnF n s gc G) v) ∧ frm lSp S T ∧ ∀ i, i < gc → ∀ a, a < 2 ^ n → ∀ b, b < 2 ^ n → V (It s G i a b)) → Q T := by
    rintro T ⟨V, rk, L, R, b1, b2, b3, b4⟩
    refine hQ T rk L R (b1.cong (fun v => ?_)) b3
    rw [← GnF_IdV n4 hs]
    refine ⟨b2 v, fun hv => hv V b1.2.2.2.2.2.1 ?_⟩
    rintro x ⟨i, hi, a, ha, q⟩
    have h0 := b4 i hi a ha
    unfold It at h0
    rcases q with ⟨e, rfl⟩ | ⟨e, rfl⟩ | ⟨e, b, hb, rfl⟩
    · have := h0 0 hw.2; rw [if_pos e] at this; exact this
    · have := h0 0 hw.2; rw [if_neg (by omega), if_pos e] at this; exact this
    · have := h0 b hb; rw [if_neg (by omega), if_neg (by omega)] at this; exact this
  -- one that is taken
  have take : ∀ (T : Sto) (V : Vc → Prop) (rk : Nat) (L : Nat → Nat) (R : Nat → Vc) (X y : Vc) (Q' : Sto → Prop), MB T p (2 ^ n) K V rk L R → (∀ v, V v → SpF p (2 ^ n) (GnF n s gc G) v) → frm lSp S T → rd (T.1 373) (2 ^ n) p X → eqm p (2 ^ n) y X → GnF n s gc G y → (∀ T' V' rk' L' R', MB T' p (2 ^ n) K V' rk' L' R' → (∀ v, V' v → SpF p (2 ^ n) (GnF n s gc G) v) → frm lSp S T' → (∀ v, V v → V' v) → V' y → T'.1 372 = T.1 372 → Q' T') → wp_X9_takesMade T Q' := by
    intro T V rk L R X y Q' b1 b2 b3 b4 b5 b6 hQ'
    have hV := b1.2.2.2.2.2.1
    refine sp_takesMade b1 (by omega) (by rw [b3.2.1 3 (by decide) (by decide)]; exact h4) b4 (fun S' rk' L' R' c1 c2 => ?_)
    refine hQ' S' _ rk' L' R' c1 (fun v hv => SpF_add b2 (hB.2.2.2 _ _ b5 (SpF_gen b6)) v hv) (b3.tr (c2.mono (by simp [lSp]))) (fun v hv => addV_old hV X hv) ?_ (c2.1 372 (by decide) (by decide))
    exact (addV_sub hV X).2.2.2 _ _ (fun i hi => by have := Int.dvd_neg.mpr (b5 i hi); rwa [Int.neg_sub] at this) (addV_new hV X)
  have emy : ∀ y : Vc, eqm p (2 ^ n) y (fun c => y c % p) := fun y => eqm_emod (fun _ _ => rfl)
  refine loopE (fun m i (T : Sto) => q_X9_spans_6 (nI s) Q m (nI i) T) (fun i T => ∃ V rk L R, MB T p (2 ^ n) K V rk L R ∧ (∀ v, V v → SpF p (2 ^ n) (GnF n s gc G) v) ∧ frm lSp S T ∧ ∀ j, j < i → ∀ a, a < 2 ^ n → ∀ b, b < 2 ^ n → V (It s G j a b)) gc ?_ ?_ 0 S1 (by omega) ⟨_, 0, _, _, a1, fun v hv => V0_least hB hv, a2.mono (by simp [lSp]), fun j q => by omega⟩
  · rintro T ⟨V, rk, L, R, b1, b2, b3, b4⟩
    unfold q_X9_spans_6
    rw [b3.2.1 6 (by decide) (by decide), hG.1, nI_leI (by have := hG.2.1; omega) (by have := hG.2.1; omega)]
    exact ⟨fun _ => fin T ⟨V, rk, L, R, b1, b2, b3, b4⟩, fun z => by omega⟩
  · rintro i m T hi ⟨V, rk, L, R, b1, b2, b3, b4⟩ ih
    have hg4 := hG.2.1
    unfold q_X9_spans_6
    rw [b3.2.1 6 (by decide) (by decide), hG.1, nI_leI (by omega) (by omega)]
    refine ⟨fun z => by omega, fun _ => ?_⟩
    refine loopE (fun m2 a (T : Sto) => q_X9_spans_16 (nI s) (fun y2 S => q_X9_spans_6 (nI s) Q m y2 S) Q m2 (nI i) (nI a) T) (fun a T => ∃ V rk L R, MB T p (2 ^ n) K V rk L R ∧ (∀ v, V v → SpF p (2 ^ n) (GnF n s gc G) v) ∧ frm lSp S T ∧ (∀ j, j < i → ∀ a, a < 2 ^ n → ∀ b, b < 2 ^ n → V (It s G j a b)) ∧ ∀ a', a' < a → ∀ b, b < 2 ^ n → V (It s G i a' b)) (2 ^ n) ?_ ?_ 0 T (Nat.zero_le _) ⟨V, rk, L, R, b1, b2, b3, b4, fun a q => by omega⟩
    · rintro T ⟨V, rk, L, R, b1, b2, b3, b4, b5⟩
      unfold q_X9_spans_16
      rw [b3.2.1 3 (by decide) (by decide), h4, nI_leI (by omega) (by omega)]
      refine ⟨fun _ x2 e2 => ?_, fun z => by omega⟩
      rw [e2, nI_1]
      refine ih T ⟨V, rk, L, R, b1, b2, b3, fun j hj => ?_⟩
      rcases Nat.lt_or_ge j i with q | q
      · exact b4 j q
      · rw [show j = i by omega]; exact b5
    · rintro a m2 T ha ⟨V, rk, L, R, b1, b2, b3, b4, b5⟩ ih2
      unfold q_X9_spans_16 q_X9_spans_74 q_X9_spans_188
      have cT := hC.keep b3
      have gT := hG.keep b3 (by simp [lSp])
      rw [b3.2.1 3 (by decide) (by decide), h4, nI_leI (by omega) (by omega), show (0 : Int32) = nI 0 from rfl, show (2 : Int32) = nI 2 from rfl, nI_eq (by omega) (by omega), nI_leI (by omega) (by omega)]
      refine ⟨fun z => by omega, fun _ => ?_⟩
      -- one side alone: what is made is taken
      have one : ∀ (T2 : Sto) (y : Vc), (∀ b, It s G i a b = y) → rd (T2.1 373) (2 ^ n) p (fun c => y c % p) → frs [371, 373] T T2 → wp_X9_takesMade T2 (fun S_2 => ∀ x3_1 : Int32, x3_1 = nI a + 1 → q_X9_spans_16 (nI s) (fun y2 S => q_X9_spans_6 (nI s) Q m y2 S) Q m2 (nI i) x3_1 S_2) := by
        intro T2 y hy hrd hf
        refine take T2 V rk L R _ y _ (b1.keepS hf (by simp)) b2 (b3.tr ((hf.m (by simp)).mono (by simp [lSp]))) hrd (emy y) (by rw [← hy 0]; exact It_Gn hs hi ha hw.2) (fun T' V' rk' L' R' d1 d2 d3 d4 d5 _ x3 e3 => ?_)
        rw [e3, nI_1]
        refine ih2 T' ⟨V', rk', L', R', d1, d2, d3, fun j hj a ha b hb => d4 _ (b4 j hj a ha b hb), fun a' ha' b hb => ?_⟩
        rcases Nat.lt_or_ge a' a with q | q
        · exact d4 _ (b5 a' q b hb)
        · rw [show a' = a by omega, hy b]; exact d5
      refine sp_unitU (by omega) (fun T3 u1 u2 => ?_)
      have cT3 := cT.keep (u2.m (by simp))
      have gT3 := gT.keep (u2.m (by simp)) (by simp)
      rw [show (16 : Int32) = nI 16 from rfl, pk_mul]
      refine ⟨fun e => ?_, fun e => ?_⟩
      · refine sp_mulUR cT3 gT3 hi ha u1 (fun T4 v1 v2 v3 => ⟨fun e2 => ?_, fun e2 => one T4 _ (fun b => by unfold It; rw [if_neg e, if_pos (show s = 1 by omega)]) v1 ((u2.mono (by simp)).tr (v3.mono (by simp)))⟩)
        have es : s = 2 := by omega
        have f4 : frs [371, 373] T T4 := (u2.mono (by simp)).tr (v3.mono (by simp))
        -- both sides
        refine loopE (fun m3 b (T : Sto) => q_X9_spans_89 (nI s) (fun y2 S => q_X9_spans_6 (nI s) Q m y2 S) (fun y2 y3 S => q_X9_spans_16 (nI s) (fun y2 S => q_X9_spans_6 (nI s) Q m y2 S) Q m2 y2 y3 S) Q m3 (nI i) (nI a) (nI b) T) (fun b T => ∃ V rk L R, MB T p (2 ^ n) K V rk L R ∧ (∀ v, V v → SpF p (2 ^ n) (GnF n s gc G) v) ∧ frm lSp S T ∧ (∀ j, j < i → ∀ a, a < 2 ^ n → ∀ b, b < 2 ^ n → V (It s G j a b)) ∧ (∀ a', a' < a → ∀ b, b < 2 ^ n → V (It s G i a' b)) ∧ ∀ b', b' < b → V (It s G i a b')) (2 ^ n) ?_ ?_ 0 T4 (Nat.zero_le _) ⟨V, rk, L, R, b1.keepS f4 (by simp), b2, b3.tr ((f4.m (by simp)).mono (by simp [lSp])), b4, b5, fun b q => by omega⟩
        · rintro T ⟨V, rk, L, R, b1, b2, b3, b4, b5, b6⟩
          unfold q_X9_spans_89 q_X9_spans_188
          rw [b3.2.1 3 (by decide) (by decide), h4, nI_leI (by omega) (by omega)]
          refine ⟨fun _ x3 e3 => ?_, fun z => by omega⟩
          rw [e3, nI_1]
          refine ih2 T ⟨V, rk, L, R, b1, b2, b3, b4, fun a' ha' b hb => ?_⟩
          rcases Nat.lt_or_ge a' a with q | q
          · exact b5 a' q b hb
          · rw [show a' = a by omega]; exact b6 b hb
        · rintro b m3 T hb ⟨V, rk, L, R, b1, b2, b3, b4, b5, b6⟩ ih3
          have cT := hC.keep b3
          have gT := hG.keep b3 (by simp [lSp])
          unfold q_X9_spans_89
          rw [b3.2.1 3 (by decide) (by decide), h4, nI_leI (by omega) (by omega)]
          refine ⟨fun z => by omega, fun _ => sp_unitU (by omega) (fun T5 w1 w2 => ?_)⟩
          rw [show (16 : Int32) = nI 16 from rfl, pk_mul, show (0 : Int32) = nI 0 from rfl]
          refine sp_mulUR (cT.keep (w2.m (by simp))) (gT.keep (w2.m (by simp)) (by simp)) hi ha w1 (fun T6 x1 x2 x3 => ?_)
          have f6 : frs [371, 372, 373] T T6 := (w2.mono (by simp)).tr (x3.mono (by simp))
          -- made comes to two
          refine loopE (fun m4 j (Y : Sto) => q_X9_spans_127 (nI s) (fun y2 S => q_X9_spans_6 (nI s) Q m y2 S) (fun y2 y3 S => q_X9_spans_16 (nI s) (fun y2 S => q_X9_spans_6 (nI s) Q m y2 S) Q m2 y2 y3 S) (fun y2 y3 y4 S => q_X9_spans_89 (nI s) (fun y2 S => q_X9_spans_6 (nI s) Q m y2 S) (fun y2 y3 S => q_X9_spans_16 (nI s) (fun y2 S => q_X9_spans_6 (nI s) Q m y2 S) Q m2 y2 y3 S) Q m3 y2 y3 y4 S) Q m4 (nI i) (nI a) (nI b) (nI j) Y) (fun j Y => Y = setA T6 372 (fl j (T6.1 373) (T6.1 372))) 16 ?_ ?_ 0 T6 (by omega) (by rw [fl_0, setA_self])
          · intro Y hY
            unfold q_X9_spans_127
            refine ⟨fun _ => ?_, fun z => absurd (show (16 : Int32) ≤ nI 16 by decide) z⟩
            have f7 : frs [371, 372, 373] T Y := f6.tr (by rw [hY]; exact frs.set (by simp))
            have y2 : rd (Y.1 372) (2 ^ n) p (fun c => pr a (G i) c % p) := by rw [hY, setA_eq]; intro j hj; rw [fl_lt _ _ (by omega)]; exact x1 j hj
            refine sp_unitU (by omega) (fun T7 z1 z2 => ?_)
            rw [show (0 : Int32) = nI 0 from rfl]
            refine sp_mulUT (X := fun c => pr a (G i) c % p) ((cT.keep (f7.m (by simp))).keep (z2.m (by simp))) (by rw [z2.1 372 (by simp)]; exact y2) hb z1 (fun T8 r1 r2 => ?_)
            have f8 : frs [371, 372, 373] T T8 := f7.tr ((z2.mono (by simp)).tr (r2.mono (by simp)))
            have ey : eqm p (2 ^ n) (It s G i a b) (fun c => pl b (fun c => pr a (G i) c % p) c % p) := by
              unfold It
              rw [if_neg (by omega), if_neg (by omega)]
              intro c hc
              have q1 := (pl_Lin p (show b < 16 by omega) (show 2 ^ n ≤ 256 by omega)).2.2 _ _ (emy (pr a (G i))) c hc
              have q2 := emy (pl b (fun c => pr a (G i) c % p)) c hc
              have := Int.dvd_add q1 q2
              rwa [show pl b (pr a (G i)) c - pl b (fun c => pr a (G i) c % p) c + (pl b (fun c => pr a (G i) c % p) c - pl b (fun c => pr a (G i) c % p) c % p) = pl b (pr a (G i)) c - pl b (fun c => pr a (G i) c % p) c % p by omega] at this
            refine take T8 V rk L R _ _ _ (b1.keepS f8 (by simp)) b2 (b3.tr ((f8.m (by simp)).mono (by simp [lSp]))) r1 ey (It_Gn hs hi ha hb) (fun T' V' rk' L' R' d1 d2 d3 d4 d5 _ x4 e4 => ?_)
            rw [e4, nI_1]
            refine ih3 T' ⟨V', rk', L', R', d1, d2, d3, fun j hj a ha b hb => d4 _ (b4 j hj a ha b hb), fun a' ha' b hb => d4 _ (b5 a' ha' b hb), fun b' hb' => ?_⟩
            rcases Nat.lt_or_ge b' b with q | q
            · exact d4 _ (b6 b' q)
            · rw [show b' = b by omega]; exact d5
          · intro j m4 Y hj hY ih4
            unfold q_X9_spans_127
            have y3 : Y.1 373 = T6.1 373 := by rw [hY, setA_ne _ _ (by decide)]
            rw [show (16 : Int32) = nI 16 from rfl, nI_leI (by omega) (by omega), tn_nI (by omega), y3]
            refine ⟨fun z => by omega, fun _ => ⟨vp_nI (by omega) (by omega), vp_nI (by omega) (by omega), fun S1 e1 x ex => ?_⟩⟩
            rw [ex, nI_1]
            refine ih4 S1 ?_
            rw [e1, hY]
            exact fl_step' T6 372 j _ _ rfl
      · refine sp_mulUL cT3 gT3 hi ha u1 (fun T4 v1 v2 v3 => ⟨fun e2 => by omega, fun e2 => one T4 _ (fun b => by unfold It; rw [if_pos e]) v1 ((u2.mono (by simp)).tr (v3.mono (by simp)))⟩)
