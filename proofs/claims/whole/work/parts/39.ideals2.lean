/-! the class's ideals, kept from call to call; annihilators -/
def gS (S : Sto) (i : Nat) : Vc := fun j => (S.1 (9 + 1 + i) j).toInt
def Nw (S : Sto) (n p K gc : Nat) : Prop := Cw S n p ∧ S.1 1 2 = nI K ∧ K < 2 ∧ S.1 1 5 = nI gc ∧ gc ≤ 4 ∧ ∀ i, i < gc → rd (S.1 (9 + 1 + i)) 16 p (gS S i)
theorem Nw.keep {S S' : Sto} {n p K gc : Nat} (h : Nw S n p K gc) (e : S'.1 1 = S.1 1) (e2 : ∀ i, i < 4 → S'.1 (9 + 1 + i) = S.1 (9 + 1 + i)) : Nw S' n p K gc := by
  obtain ⟨h1, h2, h3, h4, h5, h6⟩ := h
  refine ⟨h1.keep e, by rw [e]; exact h2, h3, by rw [e]; exact h4, h5, fun i hi => ?_⟩
  unfold gS
  rw [e2 i (by omega)]
  exact h6 i hi
/-- the kept ideals are those of now, where they are marked so -/
def IdOK (S : Sto) (n p K gc : Nat) : Prop := ∃ ed, S.1 1 12 = nI ed ∧ ed < 1000000 ∧ ∀ s, s < 3 → (S.1 106 s = -1 ∨ ∃ e, e ≤ ed ∧ S.1 106 s = nI e) ∧ (S.1 106 s = nI ed → SpOK S (49 + 19 * s) p (2 ^ n) K (IdV p n s gc (gS S)))
theorem SpOK.g {S S' : Sto} {h p n s gc K : Nat} (hg : gc ≤ 4) (e : ∀ i, i < 4 → S'.1 (9 + 1 + i) = S.1 (9 + 1 + i)) (H : SpOK S' h p (2 ^ n) K (IdV p n s gc (gS S))) : SpOK S' h p (2 ^ n) K (IdV p n s gc (gS S')) :=
  H.cong (fun v => IdV_cong (fun i hi j _ => by unfold gS; rw [e i (by omega)]) v)
theorem IdOK.keep {S S' : Sto} {n p K gc : Nat} (hg : gc ≤ 4) (h : IdOK S n p K gc) (e : S'.1 1 = S.1 1) (e2 : ∀ i, i < 4 → S'.1 (9 + 1 + i) = S.1 (9 + 1 + i)) (e3 : ∀ c, 49 ≤ c → c ≤ 106 → S'.1 c = S.1 c) : IdOK S' n p K gc := by
  obtain ⟨ed, h1, h2, h3⟩ := h
  have hk : ∀ s, s < 3 → ln (49 + 19 * s + 1) = 16 := by decide +kernel
  refine ⟨ed, by rw [e]; exact h1, h2, fun s hs => ?_⟩
  have l := hk s hs
  rw [e3 106 (by decide) (by decide)]
  exact ⟨(h3 s hs).1, fun q => SpOK.g hg e2 (((h3 s hs).2 q).keep (fun c hc => e3 c (by unfold spC at hc; omega) (by unfold spC at hc; omega)))⟩
theorem SpOK.zero {S : Sto} {h p w K : Nat} (H : SpOK S h p w K (V0 p w)) : S.1 h 2 = 0 := by
  have hp8 := H.1.2.1.pos
  rw [H.2.1.1, cz_zero.mpr (fun i hi => ?_)]
  · rfl
  · apply Decidable.of_not_not
    intro q
    obtain ⟨g1, g2, g3, -⟩ := H.2.2.1.1 i ⟨hi, q⟩
    have := g2 i hi
    rw [g3] at this
    exact not_dvd_one hp8.1 this
def fr2 (s : Nat) (S S' : Sto) : Prop := (∀ c, ¬ spC (49 + 19 * s) c → c ≠ 48 → c ≠ 106 → ¬ (188 ≤ c ∧ c ≤ 205) → S'.1 c = S.1 c) ∧ (∀ j, j ≠ 12 → S'.1 48 j = S.1 48 j) ∧ S'.2 = S.2
theorem sps : ∀ s, s < 3 → ln (49 + 19 * s + 1) = 16 := by decide +kernel
theorem sps16 {s : Nat} (h : s < 3) : s16 (49 + 19 * s) := by
  have : s = 0 ∨ s = 1 ∨ s = 2 := by omega
  rcases this with rfl | rfl | rfl
  · exact Or.inl rfl
  · exact Or.inr (Or.inl rfl)
  · exact Or.inr (Or.inr (Or.inl rfl))
theorem sp_ofSide {s n p K gc : Nat} {S : Sto} {Q : Nat → Sto → Prop} (hs : s < 3) (N : Nw S n p K gc) (I : IdOK S n p K gc)
    (hQ : ∀ S', Nw S' n p K gc → IdOK S' n p K gc → SpOK S' (49 + 19 * s) p (2 ^ n) K (IdV p n s gc (gS S)) → fr2 s S S' → Q (49 + 19 * s) S') : wp_X1_ofSide (nI s) S Q := by
  obtain ⟨N1, N2, N3, N4, N5, N6⟩ := id N
  obtain ⟨c0, c1, n2, n4, hp⟩ := id N1
  obtain ⟨ed, I1, I2, I3⟩ := id I
  obtain ⟨k8, hl, hh1, hh2⟩ := (sps16 hs).ok
  have hw := pow_n n4
  have hp8 := hp.pos
  have main : q_X1_ofSide_27 (nI s) Q (49 + 19 * s) S := by
    unfold q_X1_ofSide_27 q_X1_ofSide_95
    rw [nI_leI (by omega) (by omega), tn_nI (by omega), I1]
    refine ⟨fun q => absurd q (nI_pos (by omega)), fun _ => ⟨fun q => by omega, fun _ => ⟨vp_nI (by omega) (by omega), fun q => ?_, fun q => ?_⟩⟩⟩
    · exact hQ S N I ((I3 s hs).2 q) ⟨fun _ _ _ _ _ => rfl, fun _ _ => rfl, rfl⟩
    · refine sp_width c0 n4 ?_
      rw [c1, N2]
      refine sp_begin k8 hp (by omega) N3 (fun S1 A1 A2 A3 => ?_)
      have hn1 := (sps16 hs).n1 (c := 1) (by omega)
      have a1 : S1.1 1 = S.1 1 := A2 1 (by omega) (by omega)
      have ag : ∀ i, i < 4 → S1.1 (9 + 1 + i) = S.1 (9 + 1 + i) := fun i hi => A2 _ (by omega) (by omega)
      rw [show S1.1 1 5 = nI gc by rw [a1]; exact N4]
      refine sp_complete (G := gS S) (sps16 hs) hs (N1.keep a1) A1 N5 (Or.inl rfl) (fun i hi => by rw [ag i (by omega)]; exact (N6 i hi).mono (by omega)) A1.zero (fun S2 B1 B2 => ?_)
      refine ⟨vp_nI (by omega) (by omega), fun S3 e3 => ?_⟩
      have b1 : S2.1 1 = S.1 1 := (B2.1 1 hn1 (by decide) (by omega)).trans a1
      have bg : ∀ i, i < 4 → S2.1 (9 + 1 + i) = S.1 (9 + 1 + i) := fun i hi => (B2.1 _ ((sps16 hs).n1 (by omega)) (by omega) (by omega)).trans (ag i hi)
      have e106 : S2.1 106 = S.1 106 := (B2.1 106 (by unfold spC; omega) (by decide) (by omega)).trans (A2 _ (by omega) (by omega))
      have c3 : ∀ c, c ≠ 106 → S3.1 c = S2.1 c := fun c h => by rw [e3, uA_ne h]
      have c106 : S3.1 106 = upd (S.1 106) s (nI ed) := by rw [e3, uA_eq, b1, I1, e106]
      have g3 : ∀ i, i < 4 → S3.1 (9 + 1 + i) = S.1 (9 + 1 + i) := fun i hi => (c3 _ (by omega)).trans (bg i hi)
      have H3 : SpOK S3 (49 + 19 * s) p (2 ^ n) K (IdV p n s gc (gS S)) := B1.keep (fun c hc => c3 c (by unfold spC at hc; omega))
      refine hQ S3 (N.keep ((c3 1 (by decide)).trans b1) g3) ⟨ed, by rw [c3 1 (by decide), b1]; exact I1, I2, fun s' hs' => ?_⟩ H3 ⟨fun c x y z u => ?_, fun j hj => ?_, ?_⟩
      · rw [c106]
        by_cases e : s' = s
        · subst e
          rw [upd_eq]
          exact ⟨Or.inr ⟨ed, Nat.le_refl _, rfl⟩, fun _ => SpOK.g N5 g3 H3⟩
        · rw [upd_ne _ _ e]
          refine ⟨(I3 s' hs').1, fun q2 => SpOK.g N5 g3 (((I3 s' hs').2 q2).keep (fun c hc => ?_))⟩
          have l' := sps s' hs'
          rw [c3 c (by unfold spC at hc; omega), B2.1 c (by unfold spC at hc ⊢; omega) (by unfold spC at hc; omega) (by unfold spC at hc; omega)]
          exact A2 c (by unfold spC at hc; omega) (by unfold spC at hc; omega)
      · rw [c3 c z, B2.1 c x y u]
        exact A2 c (fun e => x (by subst e; unfold spC; omega)) (fun e => x (by subst e; unfold spC; omega))
      · rw [c3 48 (by decide), B2.2.1 j hj, A2 48 (by omega) (by omega)]
      · rw [show S3.2 = S2.2 by rw [e3]; rfl, B2.2.2, A3]
  unfold wp_X1_ofSide
  have hc : s = 0 ∨ s = 1 ∨ s = 2 := by omega
  rcases hc with rfl | rfl | rfl
  · exact ⟨fun q => absurd rfl q, fun _ => main⟩
  · exact ⟨fun _ => ⟨fun q => absurd rfl q, fun _ => main⟩, fun q => absurd q (by decide)⟩
  · exact ⟨fun _ => ⟨fun _ => main, fun q => absurd q (by decide)⟩, fun q => absurd q (by decide)⟩
theorem dn_N : ∀ a, a < 16 → ∀ c, c < 16 → nI c &&& (nI a ^^^ (-1)) = nI (c ^^^ (a &&& c)) ∧ ((nI a ||| nI (c ^^^ (a &&& c))) = nI c ↔ a &&& c = a) ∧ c ^^^ (a &&& c) < 16 := by decide +kernel
theorem ax_mod {hand a c p : Nat} {G : Vc} (ha : a < 16) (hc : c < 16) : (if a &&& c = a then (if hand = 0 then sg a (c ^^^ a) else sg (c ^^^ a) a) * G (c ^^^ a) else 0) % (p : Int) = ax hand a G c % p := by
  congr 1
  unfold ax pl pr
  by_cases h : hand = 0
  · simp [h]
  · simp [h]
theorem sp_demand {g n p hand : Nat} {E : Vc → Prop} {G : Vc} {S : Sto} {Q : Sto → Prop} (hh : hand < 2) (hC : Cw S n p) (H : SpOK S 107 p (2 ^ n) 0 E) (hg1 : ¬ spC 107 g) (hg2 : g ≠ 205) (hgl : ln g = 16) (hG : rd (S.1 g) (2 ^ n) p G)
    (hQ : ∀ S' E', SpOK S' 107 p (2 ^ n) 0 E' → (∀ q, E q → E' q) → (∀ c, c < 2 ^ n → E' (fun a => ax hand a G c)) → (∀ U, Sub p (2 ^ n) U → (∀ q, E q → U q) → (∀ c, c < 2 ^ n → U (fun a => ax hand a G c)) → ∀ q, E' q → U q) → (∀ c, ¬ spC 107 c → c ≠ 205 → S'.1 c = S.1 c) → S'.2 = S.2 → Q S') : wp_X1_demandNought g (nI hand) S Q := by
  obtain ⟨c0, c1, n2, n4, hp⟩ := id hC
  have hw := pow_n n4
  have hp8 := hp.pos
  have l107 : ln (107 + 1) = 16 := by decide +kernel
  have n1 : ¬ spC 107 1 := by unfold spC; omega
  unfold wp_X1_demandNought
  refine loopE (fun m c (T : Sto) => q_X1_demandNought_3 g (nI hand) Q m (nI c) T) (fun c T => ∃ E', SpOK T 107 p (2 ^ n) 0 E' ∧ (∀ q, E q → E' q) ∧ (∀ d, d < c → E' (fun a => ax hand a G d)) ∧ (∀ U, Sub p (2 ^ n) U → (∀ q, E q → U q) → (∀ c, c < 2 ^ n → U (fun a => ax hand a G c)) → ∀ q, E' q → U q) ∧ (∀ c, ¬ spC 107 c → c ≠ 205 → T.1 c = S.1 c) ∧ T.2 = S.2) (2 ^ n) ?_ ?_ 0 S (Nat.zero_le _) ⟨E, H, fun _ q => q, fun d q => by omega, fun _ _ q _ => q, fun _ _ _ => rfl, rfl⟩
  · rintro T ⟨E', a1, a2, a3, a4, a5, a6⟩
    unfold q_X1_demandNought_3
    refine sp_width (by rw [a5 1 n1 (by decide)]; exact c0) n4 ?_
    rw [nI_leI (by omega) (by omega)]
    exact ⟨fun _ => hQ T E' a1 a2 a3 a4 a5 a6, fun q => by omega⟩
  · rintro c m T hc ⟨E', a1, a2, a3, a4, a5, a6⟩ ih
    unfold q_X1_demandNought_3
    have t1 : T.1 1 = S.1 1 := a5 1 n1 (by decide)
    refine sp_width (by rw [t1]; exact c0) n4 ?_
    rw [nI_leI (by omega) (by omega)]
    refine ⟨fun q => by omega, fun _ => ?_⟩
    refine loopE (fun m2 a (Y : Sto) => q_X1_demandNought_15 g (nI hand) (fun y4 S => q_X1_demandNought_3 g (nI hand) Q m y4 S) Q m2 (nI c) (nI a) Y) (fun a Y => Y = setA T 205 (fl a (fun a => iI (ax hand a G c % p)) (T.1 205))) (2 ^ n) ?_ ?_ 0 T (Nat.zero_le _) (by rw [fl_0, setA_self])
    · intro Y hY
      unfold q_X1_demandNought_15
      refine sp_width (by rw [hY, setA_ne _ _ (by decide), t1]; exact c0) n4 ?_
      rw [nI_leI (by omega) (by omega)]
      refine ⟨fun _ => ?_, fun q => by omega⟩
      have y1 : SpOK Y 107 p (2 ^ n) 0 E' := a1.keep (fun k hk => by rw [hY, setA_ne _ _ (by unfold spC at hk; omega)])
      have y2 : rd (Y.1 205) (2 ^ n) p (fun a => ax hand a G c % p) := by rw [hY, setA_eq]; exact rd_fl (by omega) (fun _ _ => rfl)
      refine sp_admit y1 (by rw [ln_205]; omega) (by rw [ln_205]; omega) (by unfold spC; omega) y2 (fun r S' rr b1 b2 b3 b4 b5 b6 b7 x4 e4 => ?_)
      rw [e4, nI_1]
      have hE := a1.2.2.2
      have hm : eqm p (2 ^ n) (fun a => ax hand a G c) (fun a => ax hand a G c % p) := eqm_emod (fun _ _ => rfl)
      have hm2 : eqm p (2 ^ n) (fun a => ax hand a G c % p) (fun a => ax hand a G c) := fun i hi => by have := Int.dvd_neg.mpr (hm i hi); rwa [Int.neg_sub] at this
      refine ih S' ⟨_, b1, fun q hq => addV_old hE _ (a2 q hq), fun d hd => ?_, fun U hU u1 u2 q hq => addV_least hU (a4 U hU u1 u2) (hU.2.2.2 _ _ hm (u2 c hc)) hq, fun k k1 k2 => by rw [b2 k k2 k1, hY, setA_ne _ _ k2]; exact a5 k k1 k2, by rw [b3, hY]; exact a6⟩
      rcases Nat.lt_or_ge d c with q | q
      · exact addV_old hE _ (a3 d q)
      · rw [show d = c by omega]
        exact (addV_sub hE _).2.2.2 _ _ hm2 (addV_new hE _)
    · intro a m2 Y ha hY ih2
      have y1 : Y.1 1 = S.1 1 := by rw [hY, setA_ne _ _ (by decide), t1]
      unfold q_X1_demandNought_15
      refine sp_width (by rw [y1]; exact c0) n4 ?_
      obtain ⟨d1, d2, d3⟩ := dn_N a (by omega) c (by omega)
      rw [nI_leI (by omega) (by omega)]
      refine ⟨fun q => by omega, fun _ x6 e6 => ?_⟩
      rw [d1] at e6
      have last : ∀ v : Int32, v = iI (ax hand a G c % p) → q_X1_demandNought_90 g (nI hand) (fun y4 S => q_X1_demandNought_3 g (nI hand) Q m y4 S) (fun y4 y5 S => q_X1_demandNought_15 g (nI hand) (fun y4 S => q_X1_demandNought_3 g (nI hand) Q m y4 S) Q m2 y4 y5 S) Q (nI c) (nI a) (nI a) v Y := by
        intro v hv
        unfold q_X1_demandNought_90
        refine ⟨vp_nI (by omega) (by omega), fun S1 e1 x5 e5 => ?_⟩
        rw [e5, nI_1]
        refine ih2 S1 ?_
        rw [e1, tn_nI (by omega), hY]
        exact fl_step' T 205 a _ _ hv
      have rest : ∀ s : Int, s = (if hand = 0 then sg a (c ^^^ (a &&& c)) else sg (c ^^^ (a &&& c)) a) → (s = 0 ∨ s = 1 ∨ s = -1) → q_X1_demandNought_54 g (nI hand) (fun y4 S => q_X1_demandNought_3 g (nI hand) Q m y4 S) (fun y4 y5 S => q_X1_demandNought_15 g (nI hand) (fun y4 S => q_X1_demandNought_3 g (nI hand) Q m y4 S) Q m2 y4 y5 S) Q (nI c) (nI a) x6 (iI s) Y := by
        intro s hs hs3
        unfold q_X1_demandNought_54
        rw [e6, d2]
        have hm := ax_mod (hand := hand) (p := p) (G := G) (show a < 16 by omega) (show c < 16 by omega)
        refine ⟨fun q => last 0 ?_, fun q => ⟨vp_nI (by omega) (by omega), ?_⟩⟩
        · rw [← hm, if_neg q, Int.zero_emod]; rfl
        · rw [q] at hs ⊢
          have hle := sub_le a (by omega) c (by omega) q
          have yg : Y.1 g = S.1 g := by rw [hY, setA_ne _ _ hg2, a5 g hg1 hg2]
          have hr := hG (c ^^^ a) (by omega)
          rw [tn_nI (by omega), yg, hr.1, y1, c1, ← iI_mul]
          have hb : -8 ≤ s * G (c ^^^ a) ∧ s * G (c ^^^ a) ≤ 8 := by rcases hs3 with e | e | e <;> rw [e] <;> omega
          refine sp_modulo ⟨by omega, by omega⟩ (by omega) (by omega) (last _ ?_)
          rw [← hm, if_pos q, hs]
      have hx : c ^^^ (a &&& c) < 16 := d3
      rw [e6, show (0 : Int32) = nI 0 from rfl, nI_eq (by omega) (by omega)]
      refine ⟨fun q => ?_, fun q => ?_⟩
      · refine sp_sign (by omega) (by omega) ?_
        rw [← e6]
        exact rest _ (by rw [if_neg q]) (sg_sm _ (by omega) _ (by omega))
      · refine sp_sign (by omega) (by omega) ?_
        rw [← e6]
        exact rest _ (by rw [if_pos q]) (sg_sm _ (by omega) _ (by omega))
def fr3 (h : Nat) (S S' : Sto) : Prop := (∀ c, ¬ spC 107 c → ¬ spC h c → c ≠ 205 → S'.1 c = S.1 c) ∧ S'.2 = S.2
theorem sp_annihilate {h1 h n p K K1 hand : Nat} {V : Vc → Prop} {S : Sto} {Q : Sto → Prop} (hs1 : s16 h1) (h17 : h1 ≠ 107) (hs : h = 126 ∨ h = 145) (hne : h1 ≠ h) (hh : hand < 2) (hC : Cw S n p) (hK : S.1 1 2 = nI K) (hK2 : K < 2) (H : SpOK S h1 p (2 ^ n) K1 V)
    (hQ : ∀ S', SpOK S' h p (2 ^ n) K (AnV p n hand V) → fr3 h S S' → Q S') : wp_X1_annihilate h1 (nI hand) h S Q := by
  obtain ⟨c0, c1, n2, n4, hp⟩ := id hC
  have hw := pow_n n4
  have hp8 := hp.pos
  have l107 : ln (107 + 1) = 16 := by decide +kernel
  have k107 : kd 107 = 8 := by decide +kernel
  obtain ⟨k1, hl1, ha1, hb1⟩ := hs1.ok
  have hs' : s16 h := by rcases hs with rfl | rfl <;> simp [s16]
  obtain ⟨k2, hl2, -, -⟩ := hs'.ok
  have dis : ∀ c, spC h1 c → ¬ spC 107 c ∧ ¬ spC h c := by
    intro c hc
    unfold spC at hc ⊢
    rcases hs1 with rfl | rfl | rfl | rfl | rfl | rfl | rfl <;> rcases hs with rfl | rfl <;> omega
  have dis2 : ∀ c, spC 107 c → ¬ spC h c := by
    intro c hc
    unfold spC at hc ⊢
    rcases hs with rfl | rfl <;> omega
  have n1a : ¬ spC 107 1 := by unfold spC; omega
  have n1b : ¬ spC h 1 := by unfold spC; omega
  have hB := H.2.2.1
  have hV := H.2.2.2
  unfold wp_X1_annihilate
  refine sp_width c0 n4 ?_
  rw [c1, show (0 : Int32) = nI 0 from rfl]
  refine sp_begin k107 hp (by omega) (by omega) (fun S1 A1 A2 A3 => ?_)
  have f1 : ∀ c, ¬ spC 107 c → S1.1 c = S.1 c := fun c hc => A2 c (fun e => hc (by subst e; unfold spC; omega)) (fun e => hc (by subst e; unfold spC; omega))
  -- behind the equations
  have part2 : ∀ (T : Sto) (E : Vc → Prop), SpOK T 107 p (2 ^ n) 0 E → (∀ l, hdS S h1 (2 ^ n) l → ∀ c, c < 2 ^ n → E (fun a => ax hand a (rwS S h1 l) c)) → (∀ U, Sub p (2 ^ n) U → (∀ l, hdS S h1 (2 ^ n) l → ∀ c, c < 2 ^ n → U (fun a => ax hand a (rwS S h1 l) c)) → ∀ q, E q → U q) → fr3 h S T → wp_X4_width T (fun r_5 S_4 => wp_X5_begin h r_5 (S_4.1 1 1) (S_4.1 1 2) S_4 (fun S_6 => (∃ n_76, q_X1_annihilate_76 h1 (nI hand) h Q n_76 (nI 0) S_6))) := by
    intro T E e1 e2 e3 e4
    have t1 : T.1 1 = S.1 1 := e4.1 1 n1a n1b (by decide)
    refine sp_width (by rw [t1]; exact c0) n4 ?_
    rw [t1, c1, hK]
    refine sp_begin k2 hp (by omega) hK2 (fun U B1 B2 B3 => ?_)
    have u1 : ∀ c, ¬ spC h c → U.1 c = T.1 c := fun c hc => B2 c (fun e => hc (by subst e; unfold spC; omega)) (fun e => hc (by subst e; unfold spC; omega))
    have hE := e1.2.2.2
    have hEB := e1.2.2.1
    have hPA : ∀ x, Perp p (2 ^ n) E x ↔ AnV p n hand V x := by
      intro x
      rw [AnV_eq n4 hV hB]
      constructor
      · intro hx l hl c hc
        rw [act_dot]
        exact hx _ (e2 l hl c hc)
      · intro hx q hq
        refine e3 _ (dot_Sub p (2 ^ n) x) (fun l hl c hc => ?_) q hq
        have := hx l hl c hc
        rw [act_dot] at this
        exact this
    have hP := Perp_sub p (2 ^ n) E
    refine loopE (fun m f (Y : Sto) => q_X1_annihilate_76 h1 (nI hand) h Q m (nI f) Y) (fun f Y => ∃ Vf, SpOK Y h p (2 ^ n) K Vf ∧ (∀ g, g < f → ¬ hdS T 107 (2 ^ n) g → Vf (slv p (hdS T 107 (2 ^ n)) (rwS T 107) g)) ∧ (∀ v, Vf v → Perp p (2 ^ n) E v) ∧ (∀ c, ¬ spC h c → c ≠ 205 → Y.1 c = T.1 c) ∧ Y.2 = T.2) (2 ^ n) ?_ ?_ 0 U (Nat.zero_le _) ⟨_, B1, fun g q => by omega, fun v hv => V0_least hP hv, fun c a _ => u1 c a, B3⟩
    · rintro Y ⟨Vf, y1, y2, y3, y4, y5⟩
      unfold q_X1_annihilate_76
      refine sp_width (by rw [y4 1 n1b (by decide), t1]; exact c0) n4 ?_
      rw [nI_leI (by omega) (by omega)]
      refine ⟨fun _ => hQ Y (y1.cong (fun v => ⟨fun hv => (hPA v).mp (y3 v hv), fun hv => slv_span hE hEB y1.2.2.2 (fun f hf hn => y2 f hf hn) ((hPA v).mpr hv)⟩)) ⟨fun c a b d => (y4 c b d).trans (e4.1 c a b d), y5.trans e4.2⟩, fun q => by omega⟩
    · rintro f m Y hf ⟨Vf, y1, y2, y3, y4, y5⟩ ih
      unfold q_X1_annihilate_76
      refine sp_width (by rw [y4 1 n1b (by decide), t1]; exact c0) n4 ?_
      rw [nI_leI (by omega) (by omega)]
      have hY : SpOK Y 107 p (2 ^ n) 0 E := e1.keep (fun c hc => y4 c (dis2 c hc) (by unfold spC at hc; omega))
      have q107 : ∀ c, spC 107 c → Y.1 c = T.1 c := fun c hc => y4 c (dis2 c hc) (by unfold spC at hc; omega)
      have hd1 : hdS Y 107 (2 ^ n) = hdS T 107 (2 ^ n) := by
        funext l; unfold hdS; rw [q107 _ (by unfold spC; omega)]
      refine ⟨fun q => by omega, fun _ => sp_solve hY (by omega) (by rw [ln_205]; omega) (by rw [ln_205]; omega) (by unfold spC; omega) (fun s1 s2 F s3 s4 => ?_) (fun s1 => ?_)⟩
      · unfold q_X1_annihilate_111
        refine ⟨fun q => absurd q (by decide), fun _ => ?_⟩
        have z1 : SpOK (setA Y 205 F) h p (2 ^ n) K Vf := y1.keep (fun c hc => setA_ne _ _ (by unfold spC at hc; omega))
        have sl : ∀ i, i < 2 ^ n → slv p (hdS Y 107 (2 ^ n)) (rwS Y 107) f i = slv p (hdS T 107 (2 ^ n)) (rwS T 107) f i := by
          intro i hi
          unfold slv
          rw [hd1]
          by_cases hdi : hdS T 107 (2 ^ n) i
          · unfold rwS
            rw [q107 (107 + 1 + 1 + i) (by unfold spC; omega)]
          · by_cases e : i = f
            · rw [if_pos e, if_pos e]
            · rw [if_neg e, if_neg e, if_neg (by rw [isB_t]; exact hdi), if_neg (by rw [isB_t]; exact hdi)]
        refine sp_admit z1 (by rw [ln_205]; omega) (by rw [ln_205]; omega) (by unfold spC; omega) (by rw [setA_eq]; exact s3) (fun r S' rr b1 b2 b3 b4 b5 b6 b7 x5 e5 => ?_)
        rw [e5, nI_1]
        have hVf := y1.2.2.2
        rw [hd1] at s1
        have hslv : Vf (fun i => 0) := hVf.1
        refine ih S' ⟨_, b1, fun g hg hn => ?_, fun v hv => addV_least hP y3 (hP.to (slv_perp hE hEB hf s1) (fun i hi => (sl i hi).symm)) hv, fun c x y => by rw [b2 c y x, setA_ne _ _ y]; exact y4 c x y, by rw [b3]; exact y5⟩
        rcases Nat.lt_or_ge g f with q | q
        · exact addV_old hVf _ (y2 g q hn)
        · rw [show g = f by omega]
          exact (addV_sub hVf _).to (addV_new hVf _) (fun i hi => sl i hi)
      · unfold q_X1_annihilate_111
        refine ⟨fun _ x5 e5 => ?_, fun q => absurd rfl q⟩
        rw [e5, nI_1]
        refine ih Y ⟨Vf, y1, fun g hg hn => ?_, y3, y4, y5⟩
        rcases Nat.lt_or_ge g f with q | q
        · exact y2 g q hn
        · rw [hd1] at s1
          rw [show g = f by omega] at hn
          rcases s1 with a | a
          · exact absurd a hn
          · omega
  refine loopE (fun m l (T : Sto) => q_X1_annihilate_19 h1 (nI hand) h Q m (nI l) T) (fun l T => ∃ E, SpOK T 107 p (2 ^ n) 0 E ∧ (∀ k, k < l → hdS S h1 (2 ^ n) k → ∀ c, c < 2 ^ n → E (fun a => ax hand a (rwS S h1 k) c)) ∧ (∀ U, Sub p (2 ^ n) U → (∀ l, hdS S h1 (2 ^ n) l → ∀ c, c < 2 ^ n → U (fun a => ax hand a (rwS S h1 l) c)) → ∀ q, E q → U q) ∧ (∀ c, ¬ spC 107 c → c ≠ 205 → T.1 c = S.1 c) ∧ T.2 = S.2) (2 ^ n) ?_ ?_ 0 S1 (Nat.zero_le _) ⟨_, A1, fun k q => by omega, fun U hU _ q hq => V0_least hU hq, fun c a _ => f1 c a, A3⟩
  · rintro T ⟨E, t1, t2, t3, t4, t5⟩
    unfold q_X1_annihilate_19
    refine sp_width (by rw [t4 1 n1a (by decide)]; exact c0) n4 ?_
    rw [nI_leI (by omega) (by omega)]
    exact ⟨fun _ => part2 T E t1 (fun l hl => t2 l hl.1 hl) t3 ⟨fun c a _ d => t4 c a d, t5⟩, fun q => by omega⟩
  · rintro l m T hl ⟨E, t1, t2, t3, t4, t5⟩ ih
    unfold q_X1_annihilate_19
    have tC : Cw T n p := hC.keep (t4 1 n1a (by decide))
    refine sp_width tC.1 n4 ?_
    rw [nI_leI (by omega) (by omega)]
    have ko : ∀ c, spC h1 c → T.1 c = S.1 c := fun c hc => t4 c (dis c hc).1 (by unfold spC at hc; omega)
    have hT : SpOK T h1 p (2 ^ n) K1 V := H.keep ko
    have hd1 : hdS T h1 (2 ^ n) l ↔ hdS S h1 (2 ^ n) l := by unfold hdS; rw [ko _ (by unfold spC; omega)]
    refine ⟨fun q => by omega, fun _ => sp_holds k1 (by omega) hT.2.1.2.1 (by omega) (fun q => ?_) (fun q => ?_)⟩
    · unfold q_X1_annihilate_50
      refine ⟨fun z => absurd z (by decide), fun _ => ⟨vp_nI (by omega) (by omega), ?_⟩⟩
      rw [tn_nI (by omega)]
      have hsp : spC h1 (h1 + 1 + 1 + l) := by unfold spC; omega
      have hrow := hT.row q
      have hlr := sp_rowln k1 (show l < ln (h1 + 1) by omega)
      have er : rwS T h1 l = rwS S h1 l := by unfold rwS; rw [ko _ hsp]
      rw [er] at hrow
      refine sp_demand (G := rwS S h1 l) hh tC t1 (dis _ hsp).1 (by unfold spC at hsp; omega) (by omega) hrow (fun S' E' b1 b2 b3 b4 b5 b6 x5 e5 => ?_)
      rw [e5, nI_1]
      refine ih S' ⟨E', b1, fun k hk hdk c hc => ?_, fun U hU u1 => b4 U hU (t3 U hU u1) (fun c hc => u1 l (hd1.mp q) c hc), fun c x y => (b5 c x y).trans (t4 c x y), b6.trans t5⟩
      rcases Nat.lt_or_ge k l with z | z
      · exact b2 _ (t2 k z hdk c hc)
      · rw [show k = l by omega]; exact b3 c hc
    · unfold q_X1_annihilate_50
      refine ⟨fun _ x5 e5 => ?_, fun z => absurd rfl z⟩
      rw [e5, nI_1]
      refine ih T ⟨E, t1, fun k hk hdk c hc => ?_, t3, t4, t5⟩
      rcases Nat.lt_or_ge k l with z | z
      · exact t2 k z hdk c hc
      · rw [show k = l by omega] at hdk; exact absurd (hd1.mpr hdk) q
