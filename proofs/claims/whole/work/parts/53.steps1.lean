/-! how many rows are taken -/
theorem first_nz {r : Vc} : ∀ w, (∃ i, i < w ∧ ¬ r i = 0) → ∃ l, l < w ∧ ¬ r l = 0 ∧ ∀ i, i < l → r i = 0
  | 0, ⟨i, h, _⟩ => by omega
  | w + 1, ⟨i, h, hn⟩ => by
    by_cases q : ∃ i, i < w ∧ ¬ r i = 0
    · obtain ⟨l, h1, h2, h3⟩ := first_nz w q
      exact ⟨l, by omega, h2, h3⟩
    · have hz : ∀ j, j < w → r j = 0 := fun j hj => by
        apply Classical.byContradiction
        intro z
        exact q ⟨j, hj, z⟩
      have e : i = w := by
        rcases Nat.lt_or_ge i w with z | z
        · exact absurd (hz i z) hn
        · omega
      exact ⟨w, by omega, e ▸ hn, hz⟩
theorem dim_add {p w : Nat} (hp : isP p) {V : Vc → Prop} {X : Vc} {hd hd' : Nat → Prop} {R R' : Nat → Vc} (hV : Sub p w V) (h : RB p w 0 V hd R) (h' : RB p w 0 (addV V X) hd' R') (hX : ¬ V X) : cnt hd' w = cnt hd w + 1 := by
  have hp8 := hp.pos
  obtain ⟨r, hr⟩ := h.rest hp hV X
  have hne : ∃ i, i < w ∧ ¬ r i = 0 := by
    apply Classical.byContradiction
    intro q
    refine hX ((hr.zero hV h).mpr (fun i hi => ?_))
    apply Classical.byContradiction
    intro z
    exact q ⟨i, hi, z⟩
  obtain ⟨l0, hl0, hn0, hz⟩ := first_nz w hne
  have hnz : ¬ (p : Int) ∣ r l0 := fun q => hn0 (dvd_small (p := p) (by rw [Int.sub_zero]; exact q) (hr.1 l0 hl0) ⟨by omega, by omega⟩)
  obtain ⟨b, hb⟩ := hp.inv hnz
  have hone : b * r l0 % p = 1 := by
    have h1 := Int.emod_nonneg (b * r l0) (show (p : Int) ≠ 0 by omega)
    have h2 := Int.emod_lt_of_pos (b * r l0) (show (0 : Int) < p by omega)
    have h3 := Int.dvd_sub hb (dvd_emod p (b * r l0))
    rw [show b * r l0 - 1 - (b * r l0 - b * r l0 % p) = b * r l0 % p - 1 by omega] at h3
    exact dvd_small h3 ⟨h1, h2⟩ ⟨by omega, by omega⟩
  have hnl : ¬ hd l0 := fun q => hnz (by rw [hr.2.2 l0 q]; exact Int.dvd_zero _)
  have em : ∀ z : Int, 0 ≤ z % p ∧ z % p < p ∧ (p : Int) ∣ z % p - z := fun z => ⟨Int.emod_nonneg _ (by omega), Int.emod_lt_of_pos _ (by omega), by have := Int.dvd_neg.mpr (dvd_emod p z); rwa [Int.neg_sub] at this⟩
  have hA := RB.add (R' := fun l => if l = l0 then fun i => b * r i % p else fun i => (R l i - R l l0 * (b * r i % p)) % p) (c := b) hp.pi hV h hr hl0 hnz (fun i _ q => hz i q) (fun i hi => by simp only [if_pos]; exact em _) (by simp only [if_pos]; exact hone) (fun l hl i hi => by
    have : l ≠ l0 := fun e => hnl (e ▸ hl)
    simp only [if_neg this, if_pos]; exact em _)
  rw [CB.same hp (addV_sub hV X) h'.CB hA.CB]
  refine ctB_add (l := l0) hl0 (isB_f.mpr hnl) (isB_t.mpr (Or.inr rfl)) (fun i _ q => ?_)
  congr 1
  exact propext ⟨fun z => z.resolve_right q, Or.inl⟩
theorem CS_Sub {p w : Nat} {L : Vc → Prop} (hL : Sub p w L) (h : Nat → Vc) : ∀ k, Sub p w (CS L h k)
  | 0 => by rw [show CS L h 0 = L from funext fun v => propext (CS_0 hL h v)]; exact hL
  | k + 1 => by rw [show CS L h (k + 1) = addV (CS L h k) (h k) from funext fun v => propext (CS_add hL h k v).symm]; exact addV_sub (CS_Sub hL h k) (h k)
theorem CS_dim {p w : Nat} (hp : isP p) {L : Vc → Prop} (hL : Sub p w L) {h : Nat → Vc} {hdL hd : Nat → Prop} {RL R : Nat → Vc} (hRL : RB p w 0 L hdL RL) : ∀ k, (∀ j, j < k → ¬ CS L h j (h j)) → RB p w 0 (CS L h k) hd R → cnt hd w = cnt hdL w + k := by
  intro k
  induction k generalizing hd R with
  | zero =>
    intro _ hR
    exact CB.same hp hL (hR.cong (CS_0 hL h)).CB hRL.CB
  | succ k ih =>
    intro hi hR
    have hk := CS_Sub hL h k
    obtain ⟨hd1, R1, h1⟩ := RB.exists hp hk
    have := ih (fun j hj => hi j (by omega)) h1
    rw [dim_add hp hk h1 (hR.cong (fun v => (CS_add hL h k v).symm)) (hi k (by omega)), this]; omega
theorem Mg.all {p n w t : Nat} {M : Vc → Prop} {h : Nat → Vc} (hM : Sub p w M) (hc : cloL n M) (H : Mg p n w M t h) (v : Vc) : CS (LMs p n w M) h t v ↔ M v := by
  refine ⟨fun ⟨c, hcs⟩ => ?_, H.2.1 v⟩
  have h1 := LMs_in hM hc hcs
  have h2 := sum_in hM c t (fun j hj => H.1 j hj)
  exact hM.to (hM.2.1 _ _ h1 h2) (fun i _ => by omega)
theorem Mg.dim {p n w t : Nat} (hp : isP p) {M : Vc → Prop} {h : Nat → Vc} (hM : Sub p w M) (hc : cloL n M) (H : Mg p n w M t h) {hd hd2 : Nat → Prop} {R R2 : Nat → Vc} (hR : RB p w 0 M hd R) (hR2 : RB p w 0 (LMs p n w M) hd2 R2) : cnt hd w = cnt hd2 w + t :=
  CS_dim hp (LMs_Sub p n w M) hR2 t H.2.2 (hR.cong (fun v => (H.all hM hc v).symm))
theorem Mg.same {p n w t t' : Nat} (hp : isP p) {M : Vc → Prop} {h h' : Nat → Vc} (hM : Sub p w M) (hc : cloL n M) (H : Mg p n w M t h) (H' : Mg p n w M t' h') : t = t' := by
  obtain ⟨hd, R, hR⟩ := RB.exists hp hM
  obtain ⟨hd2, R2, hR2⟩ := RB.exists hp (LMs_Sub p n w M)
  have := H.dim hp hM hc hR hR2
  have := H'.dim hp hM hc hR hR2
  omega
/-! the class's steps -/
theorem cz_cnt (f : Nat → Int32) : ∀ w, cz f w = cnt (fun l => l < w ∧ ¬ f l = 0) w := by
  intro w
  have key : ∀ k, k ≤ w → cz f k = cnt (fun l => l < w ∧ ¬ f l = 0) k := by
    intro k
    induction k with
    | zero => intro _; rfl
    | succ k ih =>
      intro hk
      unfold cz
      rw [ih (by omega)]
      show _ = ctB _ k + _
      by_cases q : f k = 0
      · rw [if_pos q, if_neg (by rw [isB_t]; exact fun z => z.2 q)]; rfl
      · rw [if_neg q, if_pos (isB_t.mpr ⟨by omega, q⟩)]; rfl
  exact key w (Nat.le_refl _)
def fr6 (S S' : Sto) : Prop := (∀ c, c < 206 ∨ 351 < c → S'.1 c = S.1 c) ∧ S'.2 = S.2
theorem fr6.rf {S : Sto} : fr6 S S := ⟨fun _ _ => rfl, rfl⟩
theorem fr6.tr {S S' S'' : Sto} (a : fr6 S S') (b : fr6 S' S'') : fr6 S S'' := ⟨fun c x => (b.1 c x).trans (a.1 c x), b.2.trans a.2⟩
theorem st_ln : kd 207 = 8 ∧ ln (207 + 1) = 64 ∧ kd 274 = 8 ∧ ln (274 + 1) = 64 ∧ ln 350 = 64 ∧ ln 351 = 64 := by decide +kernel
theorem ln_ch : ∀ i, i < 8 → ln (341 + 1 + i) = 64 := by decide +kernel
theorem sp_admitProducts {x w n p : Nat} {V : Vc → Prop} {X : Vc} {S : Sto} {Q : Sto → Prop} (hC : Cw S n p) (H : SpOK S 207 p w 0 V) (hw : w ≤ 64) (hx : ¬ spC 207 x) (hx2 : x ≠ 351) (hlx : w ≤ ln x) (hlx2 : ln x ≤ 70000) (hX : rd (S.1 x) w p X)
    (hQ : ∀ S' V', SpOK S' 207 p w 0 V' → (∀ v, V v → V' v) → (∀ l, l < n → V' (pl (2 ^ l) X)) → (∀ U : Vc → Prop, Sub p w U → (∀ v, V v → U v) → (∀ l, l < n → U (pl (2 ^ l) X)) → ∀ v, V' v → U v) → (∀ c, ¬ spC 207 c → c ≠ 351 → S'.1 c = S.1 c) → S'.2 = S.2 → Q S') : wp_X6_admitProducts x (nI w) S Q := by
  obtain ⟨c0, c1, n2, n4, hp⟩ := id hC
  have hp8 := hp.pos
  obtain ⟨-, l7, -, -, -, l51⟩ := st_ln
  have n1 : ¬ spC 207 1 := by unfold spC; omega
  unfold wp_X6_admitProducts
  refine loopE (fun m l (T : Sto) => q_X6_admitProducts_3 x (nI w) Q m (nI l) T) (fun l T => ∃ V', SpOK T 207 p w 0 V' ∧ (∀ v, V v → V' v) ∧ (∀ k, k < l → V' (pl (2 ^ k) X)) ∧ (∀ U : Vc → Prop, Sub p w U → (∀ v, V v → U v) → (∀ l, l < n → U (pl (2 ^ l) X)) → ∀ v, V' v → U v) ∧ (∀ c, ¬ spC 207 c → c ≠ 351 → T.1 c = S.1 c) ∧ T.2 = S.2) n ?_ ?_ 0 S (by omega) ⟨V, H, fun _ q => q, fun k q => by omega, fun _ _ q _ => q, fun _ _ _ => rfl, rfl⟩
  · rintro T ⟨V', a1, a2, a3, a4, a5, a6⟩
    unfold q_X6_admitProducts_3
    rw [a5 1 n1 (by decide), c0, nI_leI (by omega) (by omega)]
    exact ⟨fun _ => hQ T V' a1 a2 a3 a4 a5 a6, fun z => by omega⟩
  · rintro l m T hl ⟨V', a1, a2, a3, a4, a5, a6⟩ ih
    have hV' := a1.2.2.2
    unfold q_X6_admitProducts_3
    rw [a5 1 n1 (by decide), c0, c1, nI_leI (by omega) (by omega), show (0 : Int32) = nI 0 from rfl]
    refine ⟨fun z => by omega, fun _ => ?_⟩
    refine sp_byLetter (X := X) hp (by omega) (by omega) hw (fun q => by omega) hlx (by omega) hlx2 (by omega) hx2 (by rw [a5 x hx hx2]; exact hX) ?_
    have hE : eqm p w (pl (2 ^ l) X) (fun c => mlE 0 l X c % p) := eqm_emod (fun c hc => mlE_pl (by omega) (by omega) _)
    refine sp_admit (X := fun c => mlE 0 l X c % p) (a1.keep (fun c hc => setA_ne _ _ (by unfold spC at hc; omega))) (by omega) (by omega) (by unfold spC; omega) (by rw [setA_eq]; exact rd_fl (by omega) (fun _ _ => rfl)) (fun a S' r b1 b2 b3 _ _ _ _ y ey => ?_)
    rw [ey, nI_1]
    refine ih S' ⟨_, b1, fun v hv => addV_old hV' _ (a2 v hv), fun k hk => ?_, fun U hU u1 u2 v hv => addV_least hU (a4 U hU u1 u2) (hU.2.2.2 _ _ hE (u2 l hl)) hv, fun c h1 h2 => by rw [b2 c h2 h1, setA_ne _ _ h2]; exact a5 c h1 h2, by rw [b3]; exact a6⟩
    rcases Nat.lt_or_ge k l with q | q
    · exact addV_old hV' _ (a3 k q)
    · rw [show k = l by omega]
      exact (addV_sub hV' _).2.2.2 _ _ hE.sy (addV_new hV' _)
/-- k rows g are chosen, beside L -/
def Chs (S : Sto) (p w : Nat) (L : Vc → Prop) (k : Nat) (g : Nat → Vc) : Prop := SpOK S 207 p w 0 (CS L g k) ∧ S.1 206 3 = nI k ∧ k ≤ 8 ∧ (∀ i, i < k → rd (S.1 (341 + 1 + i)) w p (g i)) ∧ ∀ j, j < k → ¬ CS L g j (g j)
theorem sp_choose {x w n p k : Nat} {L : Vc → Prop} {g : Nat → Vc} {X : Vc} {S : Sto} {Q : Sto → Prop} (hC : Cw S n p) (hL : Sub p w L) (H : Chs S p w L k g) (hw : w ≤ 64) (hx : x < 206 ∨ x = 350) (hlx : w ≤ ln x) (hlx2 : ln x ≤ 70000) (hX : rd (S.1 x) w p X) (hroom : ¬ CS L g k X → k < 8 ∧ (k + 1) * 2 ^ n ≤ 64)
    (hQ : ∀ S' k' g', Chs S' p w L k' g' → k ≤ k' → k' ≤ k + 1 → (∀ i, i < k → g' i = g i) → (∀ i, k ≤ i → i < k' → g' i = X) → CS L g' k' X → (∀ c, ¬ spC 207 c → c ≠ 351 → ¬ (341 < c ∧ c ≤ 349) → c ≠ 206 → S'.1 c = S.1 c) → S'.1 206 4 = S.1 206 4 → S'.2 = S.2 → Q S') : wp_X6_choose x (nI w) S Q := by
  obtain ⟨c0, c1, n2, n4, hp⟩ := id hC
  obtain ⟨h1, h2, h3, h4, h5⟩ := H
  have hp8 := hp.pos
  have h16 := pow_n n4
  obtain ⟨-, l7, -, -, l50, l51⟩ := st_ln
  have hV := CS_Sub hL g k
  unfold wp_X6_choose q_X6_choose_38
  refine sp_copy hlx (by omega) hlx2 (by omega) (by omega) ?_
  obtain ⟨T, hT⟩ : ∃ T, T = setA S 351 (fl w (S.1 x) (S.1 351)) := ⟨_, rfl⟩
  rw [← hT]
  have o : ∀ c, c ≠ 351 → T.1 c = S.1 c := fun c hc => by rw [hT, setA_ne _ _ hc]
  have rT : rd (T.1 351) w p X := by rw [hT, setA_eq]; intro i hi; rw [fl_lt _ _ hi]; exact hX i hi
  rw [o 206 (by decide), h2, show (8 : Int32) = nI 8 from rfl, nI_leI (by omega) (by omega)]
  have main : ∀ t0 : Int32, (t0 = 0 → CS L g k X) → q_X6_choose_39 x (nI w) Q t0 T := by
    intro t0 ht0
    unfold q_X6_choose_39 q_X6_choose_84
    refine sp_admit (X := X) (h1.keep (fun c hc => o c (by unfold spC at hc; omega))) (by omega) (by omega) (by unfold spC; omega) rT (fun a S' r b1 b2 b3 b4 b5 b6 b7 => ?_)
    have oS : ∀ c, ¬ spC 207 c → c ≠ 351 → S'.1 c = S.1 c := fun c q1 q2 => by rw [b2 c q2 q1, o c q2]
    have e206 : S'.1 206 = S.1 206 := oS 206 (by unfold spC; omega) (by decide)
    have eS2 : S'.2 = S.2 := by rw [b3, hT]; rfl
    rcases b7 with ⟨ha, hv, -⟩ | ⟨ha, hv, -⟩
    · rw [ha]
      refine ⟨fun _ => hQ S' k g ⟨b1.cong (fun v => ⟨fun q => addV_least hV (fun _ z => z) hv q, fun q => addV_old hV X q⟩), by rw [e206]; exact h2, h3, fun i hi => by rw [oS _ (by unfold spC; omega) (by omega)]; exact h4 i hi, h5⟩ (Nat.le_refl _) (by omega) (fun _ _ => rfl) (fun i a b => by omega) hv (fun c q1 q2 _ _ => oS c q1 q2) (by rw [e206]) eS2, fun z => absurd rfl z⟩
    · obtain ⟨k8, -⟩ := hroom hv
      rw [ha, e206, h2]
      refine ⟨fun z => absurd z (by decide), fun _ => ⟨fun z => absurd (ht0 z) hv, fun _ => ⟨vp_nI (by omega) (by omega), ?_⟩⟩⟩
      rw [tn_nI (by omega)]
      have lc := ln_ch k k8
      have ex : S'.1 x = S.1 x := oS x (by unfold spC; omega) (by omega)
      refine sp_copy hlx (by omega) hlx2 (by omega) (by omega) ?_
      intro S1 e1
      have o1 : ∀ c, c ≠ 206 → c ≠ 341 + 1 + k → S1.1 c = S'.1 c := fun c q1 q2 => by rw [e1, uA_ne q1, setA_ne _ _ q2]
      have e1c : S1.1 (341 + 1 + k) = fl w (S'.1 x) (S'.1 (341 + 1 + k)) := by rw [e1, uA_ne (by omega), setA_eq]
      have e1k : S1.1 206 = upd (S.1 206) 3 (nI (k + 1)) := by rw [e1, uA_eq, setA_ne _ _ (by omega), e206, h2, nI_1]
      have gc : ∀ j, j ≤ k → ∀ v, CS L (fun i => if i = k then X else g i) j v ↔ CS L g j v := fun j hj v => CS_cong (fun i hi => if_neg (by omega)) v
      refine hQ S1 (k + 1) (fun i => if i = k then X else g i) ⟨(b1.keep (fun c hc => o1 c (by unfold spC at hc; omega) (by unfold spC at hc; omega))).cong (fun v => ?_), by rw [e1k, upd_eq], by omega, fun i hi => ?_, fun j hj => ?_⟩ (by omega) (Nat.le_refl _) (fun i hi => if_neg (by omega)) (fun i q1 q2 => if_pos (by omega)) ?_ (fun c q1 q2 q3 q4 => by rw [o1 c q4 (by omega)]; exact oS c q1 q2) (by rw [e1k, upd_ne _ _ (by decide)]) (by rw [e1]; exact eS2)
      · rw [← CS_add hL]
        simp only [if_pos]
        rw [show CS L (fun i => if i = k then X else g i) k = CS L g k from funext fun v => propext (gc k (Nat.le_refl _) v)]
      · by_cases e : i = k
        · simp only [if_pos e]
          rw [e, e1c]
          intro c hc
          rw [fl_lt _ _ hc, ex]; exact hX c hc
        · simp only [if_neg e]
          rw [o1 _ (by omega) (by omega), oS _ (by unfold spC; omega) (by omega)]
          exact h4 i (by omega)
      · rw [gc j (by omega)]
        by_cases e : j = k
        · simp only [if_pos e]; rw [e]; exact hv
        · simp only [if_neg e]; exact h5 j (by omega)
      · rw [← CS_add hL]
        simp only [if_pos]
        rw [show CS L (fun i => if i = k then X else g i) k = CS L g k from funext fun v => propext (gc k (Nat.le_refl _) v)]
        exact addV_new hV X
  refine ⟨fun q => main 0 (fun _ => ?_), fun q => sp_width (by rw [o 1 (by decide)]; exact c0) n4 ?_⟩
  · apply Classical.byContradiction
    intro z
    have := hroom z
    omega
  · have hk1 : (k + 1) * 2 ^ n ≤ 8 * 16 := Nat.mul_le_mul (by omega) h16.1
    rw [show (1 : Int32) = nI 1 from rfl, nI_add, pk_mul, show (64 : Int32) = nI 64 from rfl, nI_ltI (by omega) (by omega)]
    refine ⟨fun q2 => main 0 (fun _ => ?_), fun q2 => main (nI 1) (fun z => absurd z (by decide))⟩
    apply Classical.byContradiction
    intro z
    have := hroom z
    omega
theorem sp_chooseGenerators {h n p K K2 gc : Nat} {S : Sto} {Q : Sto → Prop} (hs : s16 h) (N : Nw S n p K gc) (H : SpOK S h p (2 ^ n) K2 (IdV p n 0 gc (gS S)))
    (hQ : ∀ S' k g, Chs S' p (2 ^ n) (LMs p n (2 ^ n) (IdV p n 0 gc (gS S))) k g → Mg p n (2 ^ n) (IdV p n 0 gc (gS S)) k g → k ≤ 4 → S'.1 206 4 = nI 1 → fr6 S S' → Q S') : wp_X6_chooseGenerators h S Q := by
  obtain ⟨N1, N2, N3, N4, N5, N6⟩ := id N
  obtain ⟨c0, c1, n2, n4, hp⟩ := id N1
  have hw := pow_n n4
  have hp8 := hp.pos
  obtain ⟨k7, l7, -, -, l50, l51⟩ := st_ln
  obtain ⟨kh, lh, ha, hb⟩ := hs.ok
  obtain ⟨I, hI⟩ : ∃ I, I = IdV p n 0 gc (gS S) := ⟨_, rfl⟩
  rw [← hI] at H hQ
  have IS : Sub p (2 ^ n) I := by rw [hI]; exact IdV_sub _ _ _ _ _
  have Ic : cloL n I := fun l hl x hx => by rw [hI] at hx ⊢; exact (IdV_clo p n 0 gc (gS S) l hl x hx).1 (by decide)
  have Ig : ∀ i, i < gc → I (gS S i) := fun i hi => by rw [hI]; exact IdV_gen hi
  have hL := LMs_Sub p n (2 ^ n) I
  unfold wp_X6_chooseGenerators
  refine sp_width c0 n4 ?_
  rw [c1, show (0 : Int32) = nI 0 from rfl]
  refine sp_begin k7 hp (by omega) (by omega) (fun S1 A1 A2 A3 => ?_)
  have f1 : ∀ c, ¬ spC 207 c → S1.1 c = S.1 c := fun c hc => A2 c (fun e => hc (by subst e; unfold spC; omega)) (fun e => hc (by subst e; unfold spC; omega))
  -- the generators
  have part2 : ∀ T, SpOK T 207 p (2 ^ n) 0 (LMs p n (2 ^ n) I) → fr6 S T → ∀ S_4 : Sto, S_4 = uA T 206 4 1 → ∀ S_5 : Sto, S_5 = uA S_4 206 3 0 → (∃ n_67, q_X6_chooseGenerators_67 h Q n_67 0 S_5) := by
    intro T t1 t2 S4 e4 S5 e5
    have o5 : ∀ c, c ≠ 206 → S5.1 c = T.1 c := fun c hc => by rw [e5, uA_ne hc, e4, uA_ne hc]
    have e206 : S5.1 206 = upd (upd (T.1 206) 4 1) 3 0 := by rw [e5, uA_eq, e4, uA_eq]
    have f5 : fr6 S S5 := ⟨fun c hc => by rw [o5 c (by omega)]; exact t2.1 c hc, by rw [e5, e4]; exact t2.2⟩
    refine loopE (fun m i (T : Sto) => q_X6_chooseGenerators_67 h Q m (nI i) T) (fun i T => ∃ k g, Chs T p (2 ^ n) (LMs p n (2 ^ n) I) k g ∧ k ≤ i ∧ (∀ j, j < k → I (g j)) ∧ (∀ j, j < i → CS (LMs p n (2 ^ n) I) g k (gS S j)) ∧ T.1 206 4 = nI 1 ∧ fr6 S T) gc ?_ ?_ 0 S5 (by omega) ⟨0, fun _ _ => 0, ⟨(t1.keep (fun c hc => o5 c (by unfold spC at hc; omega))).cong (fun v => (CS_0 hL _ v).symm), by rw [e206, upd_eq]; rfl, by omega, fun i q => by omega, fun j q => by omega⟩, by omega, fun j q => by omega, fun j q => by omega, by rw [e206, upd_ne _ _ (by decide), upd_eq]; rfl, f5⟩
    · rintro T ⟨k, g, b1, b2, b3, b4, b5, b6⟩
      unfold q_X6_chooseGenerators_67 q_X6_chooseGenerators_101
      rw [b6.1 1 (by omega), N4, nI_leI (by omega) (by omega)]
      refine ⟨fun _ => hQ T k g b1 ⟨b3, fun v hv => ?_, b1.2.2.2.2⟩ (by omega) b5 b6, fun z => by omega⟩
      have hCS := b1.1.2.2.2
      have : I v ∧ CS (LMs p n (2 ^ n) I) g k v := by
        rw [hI] at hv
        refine hv (fun v => I v ∧ CS (LMs p n (2 ^ n) I) g k v) (Sub.and IS hCS) ?_ (fun i hi => ⟨Ig i hi, b4 i hi⟩)
        intro l hl x hx
        refine ⟨fun _ => ⟨Ic l hl x hx.1, ?_⟩, fun z => absurd rfl z⟩
        exact ⟨fun _ => 0, hL.to (LMs_gen hl hx.1) (fun i _ => by rw [sI_zero (fun j _ => Int.zero_mul _)]; omega)⟩
      exact this.2
    · rintro i m T hi ⟨k, g, b1, b2, b3, b4, b5, b6⟩ ih
      unfold q_X6_chooseGenerators_67
      rw [b6.1 1 (by omega), N4, nI_leI (by omega) (by omega), show (4 : Int32) = nI 4 from rfl, nI_leI (by omega) (by omega), tn_nI (by omega)]
      refine ⟨fun z => by omega, fun _ => ⟨fun z => by omega, fun _ => ⟨vp_nI (by omega) (by omega), sp_width (by rw [b6.1 1 (by omega)]; exact c0) n4 ?_⟩⟩⟩
      have lg := ln_gen i (by omega)
      have hk4 : (k + 1) * 2 ^ n ≤ 4 * 16 := Nat.mul_le_mul (by omega) hw.1
      refine sp_choose (X := gS S i) (N1.keep (b6.1 1 (by omega))) hL b1 (by omega) (Or.inl (by omega)) (by omega) (by omega) (by rw [b6.1 _ (by omega)]; exact (N6 i hi).mono (by omega)) (fun _ => ⟨by omega, by omega⟩) (fun S' k' g' d1 d2 d3 d4 d5 d6 d7 d8 d9 x3 e3 => ?_)
      rw [e3, nI_1]
      refine ih S' ⟨k', g', d1, by omega, fun j hj => ?_, fun j hj => ?_, by rw [d8]; exact b5, b6.tr ⟨fun c hc => d7 c (by unfold spC; omega) (by omega) (by omega) (by omega), d9⟩⟩
      · rcases Nat.lt_or_ge j k with q | q
        · rw [d4 j q]; exact b3 j q
        · rw [d5 j q hj]; exact Ig i hi
      · rcases Nat.lt_or_ge j i with q | q
        · -- what was told stays told
          have h1 := (CS_cong (fun a ha => (d4 a ha).symm) _).mp (b4 j q)
          have hk : k' = k ∨ k' = k + 1 := by omega
          rcases hk with rfl | rfl
          · exact h1
          · exact (CS_add hL g' k _).mp (addV_old (CS_Sub hL g' k) _ h1)
        · rw [show j = i by omega]; exact d6
  refine loopE (fun m l (T : Sto) => q_X6_chooseGenerators_18 h Q m (nI l) T) (fun l T => ∃ V, SpOK T 207 p (2 ^ n) 0 V ∧ (∀ v, V v → LMs p n (2 ^ n) I v) ∧ (∀ k, k < l → hdS S h (2 ^ n) k → ∀ j, j < n → V (pl (2 ^ j) (rwS S h k))) ∧ fr6 S T) (2 ^ n) ?_ ?_ 0 S1 (Nat.zero_le _) ⟨_, A1, fun v hv => V0_least hL hv, fun k q => by omega, fun c hc => f1 c (by unfold spC; omega), A3⟩
  · rintro T ⟨V, b1, b2, b3, b4⟩
    unfold q_X6_chooseGenerators_18
    refine sp_width (by rw [b4.1 1 (by omega)]; exact c0) n4 ?_
    rw [nI_leI (by omega) (by omega)]
    refine ⟨fun _ => part2 T (b1.cong (fun v => ⟨b2 v, fun hv => ?_⟩)) b4, fun z => by omega⟩
    have hV := b1.2.2.2
    refine hv V hV ?_
    rintro y ⟨l, hl, x, hx, rfl⟩
    have hP := pl_Lin p (w := 2 ^ n) (pow_l (l := l) (by omega)).1 (by omega)
    exact H.2.2.1.span H.2.2.2 (Sub.pre hP hV) (fun k hk => b3 k hk.1 hk l hl) hx
  · rintro l m T hl ⟨V, b1, b2, b3, b4⟩ ih
    unfold q_X6_chooseGenerators_18 q_X6_chooseGenerators_49
    have tC := N1.keep (b4.1 1 (by omega))
    refine sp_width tC.1 n4 ?_
    rw [nI_leI (by omega) (by omega)]
    have ko : ∀ c, c < 206 → T.1 c = S.1 c := fun c hc => b4.1 c (Or.inl hc)
    have HT : SpOK T h p (2 ^ n) K2 I := H.keep (fun c hc => ko c (by unfold spC at hc; omega))
    have hd1 : hdS T h (2 ^ n) l ↔ hdS S h (2 ^ n) l := by unfold hdS; rw [ko _ (by omega)]
    refine ⟨fun q => by omega, fun _ => sp_holds kh (by omega) HT.2.1.2.1 (by omega) (fun q => ⟨fun z => absurd z (by decide), fun _ => ⟨vp_nI (by omega) (by omega), sp_width tC.1 n4 ?_⟩⟩) (fun q => ⟨fun _ x3 e3 => ?_, fun z => absurd rfl z⟩)⟩
    · rw [tn_nI (by omega)]
      have hlr := sp_rowln kh (show l < ln (h + 1) by omega)
      have er : rwS T h l = rwS S h l := by unfold rwS; rw [ko _ (by omega)]
      have hrow := HT.row q
      rw [er] at hrow
      refine sp_admitProducts (X := rwS S h l) tC b1 (by omega) (by unfold spC; omega) (by omega) (by omega) (by omega) hrow (fun S' V' d1 d2 d3 d4 d5 d6 x3 e3 => ?_)
      rw [e3, nI_1]
      refine ih S' ⟨V', d1, d4 _ hL b2 (fun j hj => LMs_gen hj (H.2.2.1.1 l (hd1.mp q)).2.1), fun k hk hdk j hj => ?_, b4.tr ⟨fun c hc => d5 c (by unfold spC; omega) (by omega), d6⟩⟩
      rcases Nat.lt_or_ge k l with z | z
      · exact d2 _ (b3 k z hdk j hj)
      · rw [show k = l by omega]; exact d3 j hj
    · rw [e3, nI_1]
      refine ih T ⟨V, b1, b2, fun k hk hdk j hj => ?_, b4⟩
      rcases Nat.lt_or_ge k l with z | z
      · exact b3 k z hdk j hj
      · rw [show k = l by omega] at hdk; exact absurd (hd1.mpr hdk) q
