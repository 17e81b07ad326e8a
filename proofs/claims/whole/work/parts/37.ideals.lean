/-! the class's ideals -/
theorem loopG {σ : Type} (q : Nat → Nat → σ → Prop) (I : Nat → σ → Prop) (W : Nat) (hstep : ∀ i n S, i ≤ W → I i S → (∀ S', i + 1 ≤ W → I (i + 1) S' → q n (i + 1) S') → q (n + 1) i S) (i : Nat) (S : σ) (hi : i ≤ W) (h : I i S) : ∃ n, q n i S := by
  have key : ∀ k i S, k + i = W → I i S → q (k + 1) i S := by
    intro k
    induction k with
    | zero => intro i S e h; exact hstep i 0 S (by omega) h (fun S' q _ => by omega)
    | succ k ih => intro i S e h; exact hstep i (k + 1) S (by omega) h (fun S' _ h' => ih (i + 1) S' (by omega) h')
  exact ⟨W - i + 1, key (W - i) i S (by omega) h⟩
theorem ml_N : ∀ l, l < 4 → ∀ c, c < 256 → (c / 2 ^ l % 2 = 1 ↔ 2 ^ l &&& c = 2 ^ l) ∧ (c / 2 ^ l % 2 = 1 → wo c l = c ^^^ 2 ^ l) := by decide +kernel
theorem mlE_pl {l c : Nat} (hl : l < 4) (hc : c < 256) (X : Vc) : mlE 0 l X c = pl (2 ^ l) X c := by
  obtain ⟨h1, h2⟩ := ml_N l hl c hc
  unfold mlE pl
  by_cases q : c / 2 ^ l % 2 = 1
  · rw [if_pos q, if_pos (h1.mp q), if_pos rfl, h2 q]
  · rw [if_neg q, if_neg (fun e => q (h1.mpr e))]
theorem mlE_pr {l c : Nat} (hl : l < 4) (hc : c < 256) (X : Vc) : mlE 1 l X c = pr (2 ^ l) X c := by
  obtain ⟨h1, h2⟩ := ml_N l hl c hc
  unfold mlE pr
  by_cases q : c / 2 ^ l % 2 = 1
  · rw [if_pos q, if_pos (h1.mp q), if_neg (by decide), h2 q]
  · rw [if_neg q, if_neg (fun e => q (h1.mpr e))]
theorem eqm_emod {p w : Nat} {X Y : Vc} (h : ∀ i, i < w → X i = Y i) : eqm p w Y (fun i => X i % p) := fun i hi => by rw [← h i hi]; exact dvd_emod p (X i)
theorem SpOK.cong {S : Sto} {h p w K : Nat} {V V' : Vc → Prop} (H : SpOK S h p w K V) (e : ∀ v, V v ↔ V' v) : SpOK S h p w K V' := by
  rw [show V' = V from funext fun v => propext (e v).symm]; exact H
/-- letters and prime -/
def Cw (S : Sto) (n p : Nat) : Prop := S.1 1 0 = nI n ∧ S.1 1 1 = nI p ∧ 2 ≤ n ∧ n ≤ 4 ∧ isP p
theorem shl_n : ∀ n, n < 5 → (1 : Int32) <<< (nI n &&& 31) = nI (2 ^ n) := by decide +kernel
theorem sp_width {S : Sto} {n : Nat} {Q : Int32 → Sto → Prop} (h : S.1 1 0 = nI n) (hn : n ≤ 4) (hQ : Q (nI (2 ^ n)) S) : wp_X4_width S Q := by
  unfold wp_X4_width
  rw [h, shl_n n (by omega)]
  exact hQ
def s16 (h : Nat) : Prop := h = 49 ∨ h = 68 ∨ h = 87 ∨ h = 107 ∨ h = 126 ∨ h = 145 ∨ h = 164
theorem s16.ok {h : Nat} (e : s16 h) : kd h = 8 ∧ ln (h + 1) = 16 ∧ 49 ≤ h ∧ h ≤ 164 := by
  rcases e with rfl | rfl | rfl | rfl | rfl | rfl | rfl <;> decide +kernel
theorem ln_new : ∀ k, k < 16 → ln (188 + 1 + k) = 16 := by decide +kernel
theorem ln_205 : ln 205 = 16 := by decide +kernel
/-- the Span h and the newcomers N, by which all of it is told -/
def Ncm (S : Sto) (h p w K : Nat) (V : Vc → Prop) (k : Nat) (N : Nat → Vc) : Prop :=
  SpOK S h p w K V ∧ S.1 48 12 = nI k ∧ k = cz (S.1 (h + 2 + ln (h + 1))) w ∧ (∀ i, i < k → rd (S.1 (188 + 1 + i)) w p (N i) ∧ V (N i)) ∧ ∀ U : Vc → Prop, Sub p w U → (∀ i, i < k → U (N i)) → ∀ v, V v → U v
/-- what the completing of the Span h leaves alone -/
def fr1 (h : Nat) (S S' : Sto) : Prop := (∀ c, ¬ spC h c → c ≠ 48 → ¬ (188 ≤ c ∧ c ≤ 205) → S'.1 c = S.1 c) ∧ (∀ j, j ≠ 12 → S'.1 48 j = S.1 48 j) ∧ S'.2 = S.2
theorem fr1.rf {h : Nat} {S : Sto} : fr1 h S S := ⟨fun _ _ _ _ => rfl, fun _ _ => rfl, rfl⟩
theorem fr1.tr {h : Nat} {S S' S'' : Sto} (a : fr1 h S S') (b : fr1 h S' S'') : fr1 h S S'' := ⟨fun c x y z => (b.1 c x y z).trans (a.1 c x y z), fun j x => (b.2.1 j x).trans (a.2.1 j x), b.2.2.trans a.2.2⟩
theorem sp_welcome {h n p K k : Nat} {V : Vc → Prop} {N : Nat → Vc} {X : Vc} {S : Sto} {Q : Sto → Prop} (hs : s16 h) (hC : Cw S n p) (H : Ncm S h p (2 ^ n) K V k N) (hX : rd (S.1 205) (2 ^ n) p X)
    (hQ : ∀ S' k' N', Ncm S' h p (2 ^ n) K (addV V X) k' N' → k ≤ k' → (∀ i, i < k → N' i = N i) → fr1 h S S' → Q S') : wp_X1_welcome h S Q := by
  obtain ⟨c0, c1, n2, n4, hp⟩ := id hC
  obtain ⟨k8, hl, hh1, hh2⟩ := hs.ok
  have hw := pow_n n4
  obtain ⟨H1, H2, H3, H4, H5⟩ := H
  have hV := H1.2.2.2
  unfold wp_X1_welcome
  refine sp_admit H1 (by rw [ln_205]; omega) (by rw [ln_205]; omega) (by unfold spC; omega) hX (fun a S' r A1 A2 A3 A4 A5 A6 A7 => ?_)
  unfold q_X1_welcome_50
  have e48 : S'.1 48 = S.1 48 := A2 48 (by decide) (by unfold spC; omega)
  have hnew : ∀ i, i < 16 → S'.1 (188 + 1 + i) = S.1 (188 + 1 + i) := fun i hi => A2 _ (by omega) (by unfold spC; omega)
  have hk16 : k ≤ 16 := by have := cz_le (S.1 (h + 2 + ln (h + 1))) (2 ^ n); omega
  have f1 : fr1 h S S' := ⟨fun c x y z => A2 c (by omega) x, fun j _ => by rw [e48], A3⟩
  rcases A7 with ⟨ha, hVX, hz⟩ | ⟨ha, hVX, hz⟩
  · rw [ha]
    refine ⟨fun _ => hQ S' k N ⟨A1, by rw [e48]; exact H2, ?_, fun i hi => ⟨by rw [hnew i (by omega)]; exact (H4 i hi).1, addV_old hV X (H4 i hi).2⟩, fun U hU g v hv => addV_least hU (fun v hv => H5 U hU g v hv) (H5 U hU g X hVX) hv⟩ (Nat.le_refl _) (fun _ _ => rfl) f1, fun c => absurd rfl c⟩
    have h2a := A1.2.1.1
    rw [hz, H1.2.1.1] at h2a
    have l1 := cz_le (S.1 (h + 2 + ln (h + 1))) (2 ^ n)
    have l2 := cz_le (S'.1 (h + 2 + ln (h + 1))) (2 ^ n)
    rw [nI_eq (by omega) (by omega)] at h2a
    omega
  · have hk : k < 16 := by have := cz_le (S'.1 (h + 2 + ln (h + 1))) (2 ^ n); omega
    rw [ha, e48, H2, tn_nI (by omega), show (16 : Int32) = nI 16 from rfl, nI_leI (by omega) (by omega)]
    refine ⟨fun c => absurd c (by decide), fun _ => ⟨fun c => by omega, fun _ => ⟨vp_nI (by omega) (by omega), sp_width (by rw [A2 1 (by decide) (by unfold spC; omega)]; exact c0) n4 ?_⟩⟩⟩
    have l1 := ln_new k hk
    refine sp_copy (by rw [ln_205]; omega) (by omega) (by rw [ln_205]; omega) (by omega) (by omega) ?_
    intro S2 e2
    have e2o : ∀ c, c ≠ 48 → c ≠ 188 + 1 + k → S2.1 c = S'.1 c := fun c x y => by rw [e2, uA_ne x, setA_ne _ _ y]
    have e2n : S2.1 (188 + 1 + k) = fl (2 ^ n) (S'.1 205) (S'.1 (188 + 1 + k)) := by rw [e2, uA_ne (by omega), setA_eq]
    have e248 : S2.1 48 = upd (S.1 48) 12 (nI k + 1) := by rw [e2, uA_eq, setA_ne _ _ (by omega), e48, H2]
    refine hQ S2 (k + 1) (fun i => if i = k then r else N i) ⟨A1.keep (fun c hc => e2o c (by unfold spC at hc; omega) (by unfold spC at hc; omega)), by rw [e248, upd_eq, nI_1], ?_, fun i hi => ?_, fun U hU g v hv => ?_⟩ (by omega) (fun i hi => if_neg (by omega)) (f1.tr ⟨fun c x y z => e2o c y (by omega), fun j hj => by rw [e248, e48, upd_ne _ _ hj], by rw [e2]; rfl⟩)
    · rw [e2o _ (by omega) (by omega), hz]; omega
    · by_cases e : i = k
      · subst e
        simp only [if_pos]
        refine ⟨fun j hj => ?_, ?_⟩
        · rw [e2n, fl_lt _ _ hj]; exact A4 j hj
        · exact (addV_rest hV A5 r).mpr (addV_new hV r)
      · simp only [if_neg e]
        rw [e2o _ (by omega) (by omega), hnew i (by omega)]
        exact ⟨(H4 i (by omega)).1, addV_old hV X (H4 i (by omega)).2⟩
    · have gk := g k (by omega)
      simp only [if_pos] at gk
      have gV : ∀ v, V v → U v := fun v hv => H5 U hU (fun i hi => by have := g i (by omega); simp only [if_neg (show ¬ i = k by omega)] at this; exact this) v hv
      exact addV_least hU gV gk ((addV_rest hV A5 v).mp hv)
theorem Cw.keep {S S' : Sto} {n p : Nat} (h : Cw S n p) (e : S'.1 1 = S.1 1) : Cw S' n p := by
  unfold Cw; rw [e]; exact h
theorem s16.n1 {h : Nat} (e : s16 h) {c : Nat} (hc : c < 48) : ¬ spC h c := by
  have := e.ok; unfold spC; omega
theorem clo_of {p n s : Nat} {V : Vc → Prop} {k : Nat} {N : Nat → Vc} (hn : n ≤ 4) (hV : Sub p (2 ^ n) V) (hl : ∀ U : Vc → Prop, Sub p (2 ^ n) U → (∀ i, i < k → U (N i)) → ∀ v, V v → U v)
    (h : ∀ i, i < k → ∀ l, l < n → (s ≠ 1 → V (pl (2 ^ l) (N i))) ∧ (s ≠ 0 → V (pr (2 ^ l) (N i)))) : clo n s V := by
  have h16 := pow_n hn
  intro l hl4 x hx
  have h2 := pow_l (l := l) (by omega)
  refine ⟨fun q => ?_, fun q => ?_⟩
  · exact hl _ (Sub.pre (pl_Lin p h2.1 (by omega)) hV) (fun i hi => (h i hi l hl4).1 q) x hx
  · exact hl _ (Sub.pre (pr_Lin p h2.1 (by omega)) hV) (fun i hi => (h i hi l hl4).2 q) x hx
/-- the state of the completing -/
def Cpl (S0 S : Sto) (h n p K s gc : Nat) (G : Nat → Vc) (V : Vc → Prop) (k : Nat) (N : Nat → Vc) : Prop :=
  Ncm S h p (2 ^ n) K V k N ∧ (∀ v, V v → IdV p n s gc G v) ∧ fr1 h S0 S
theorem Cpl.k16 {S0 S : Sto} {h n p K s gc : Nat} {G : Nat → Vc} {V : Vc → Prop} {k : Nat} {N : Nat → Vc} (H : Cpl S0 S h n p K s gc G V k N) (hn : n ≤ 4) : k ≤ 16 := by
  have := cz_le (S.1 (h + 2 + ln (h + 1))) (2 ^ n)
  have := pow_n hn
  have := H.1.2.2.1
  omega
theorem sp_complete {h n p K s gc p4 : Nat} {G : Nat → Vc} {S : Sto} {Q : Sto → Prop} (hs : s16 h) (hs3 : s < 3) (hC : Cw S n p) (H : SpOK S h p (2 ^ n) K (V0 p (2 ^ n))) (hgc : gc ≤ 4) (hp4 : p4 = 9 ∨ p4 = 183) (hG : ∀ i, i < gc → rd (S.1 (p4 + 1 + i)) (2 ^ n) p (G i)) (hz : S.1 h 2 = 0)
    (hQ : ∀ S', SpOK S' h p (2 ^ n) K (IdV p n s gc G) → fr1 h S S' → Q S') : wp_X1_complete h (nI s) p4 (nI gc) S Q := by
  obtain ⟨c0, c1, n2, n4, hp⟩ := id hC
  obtain ⟨k8, hl, hh1, hh2⟩ := hs.ok
  have hw := pow_n n4
  have hp8 := hp.pos
  have hI := IdV_sub p n s gc G
  have hp4l : ln p4 = 4 := by rcases hp4 with rfl | rfl <;> decide +kernel
  have hp4r : ∀ i, i < 4 → ln (p4 + 1 + i) = 16 := by rcases hp4 with rfl | rfl <;> decide +kernel
  have keepC : ∀ S', fr1 h S S' → Cw S' n p := fun S' f => hC.keep (f.1 1 (hs.n1 (by omega)) (by decide) (by omega))
  have keepG : ∀ S', fr1 h S S' → ∀ i, i < gc → S'.1 (p4 + 1 + i) = S.1 (p4 + 1 + i) := fun S' f i hi => f.1 _ (by unfold spC; rcases hp4 with rfl | rfl <;> rcases hs with rfl | rfl | rfl | rfl | rfl | rfl | rfl <;> omega) (by omega) (by omega)
  unfold wp_X1_complete
  intro S1 e1
  have f01 : fr1 h S S1 := by
    refine ⟨fun c _ y _ => by rw [e1, uA_ne y], fun j hj => by rw [e1, uA_eq, upd_ne _ _ hj], by rw [e1]; rfl⟩
  have st1 : Cpl S S1 h n p K s gc G (V0 p (2 ^ n)) 0 (fun _ _ => 0) := by
    refine ⟨⟨H.keep (fun c hc => by rw [e1, uA_ne (by unfold spC at hc; omega)]), by rw [e1, uA_eq, upd_eq]; rfl, ?_, fun i hi => by omega, fun U hU _ v hv => V0_least hU hv⟩, fun v hv => V0_least hI hv, f01⟩
    have := H.2.1.1
    have l1 := cz_le (S.1 (h + 2 + ln (h + 1))) (2 ^ n)
    rw [hz, show (0 : Int32) = nI 0 from rfl, nI_eq (by omega) (by omega)] at this
    rw [e1, uA_ne (by omega)]; exact this
  -- the newcomers
  have part2 : ∀ (S2 : Sto) (V : Vc → Prop) (k : Nat) (N : Nat → Vc), Cpl S S2 h n p K s gc G V k N → (∀ i, i < gc → V (G i)) → q_X1_complete_51 h (nI s) p4 (nI gc) Q S2 := by
    intro S2 V k N hc hg
    unfold q_X1_complete_51
    refine loopG (fun m i (T : Sto) => q_X1_complete_54 h (nI s) p4 (nI gc) Q m (nI i) T) (fun i T => ∃ V k N, Cpl S T h n p K s gc G V k N ∧ (∀ i, i < gc → V (G i)) ∧ ∀ j, j < i → j < k ∧ ∀ l, l < n → (s ≠ 1 → V (pl (2 ^ l) (N j))) ∧ (s ≠ 0 → V (pr (2 ^ l) (N j)))) 16 ?_ 0 S2 (by omega) ⟨V, k, N, hc, hg, fun j q => by omega⟩
    rintro i m T hi ⟨V, k, N, hc, hg, hd⟩ ih
    have hk := hc.k16 n4
    unfold q_X1_complete_54 q_X1_complete_165
    rw [hc.1.2.1, show (16 : Int32) = nI 16 from rfl, nI_leI (by omega) (by omega), nI_leI (by omega) (by omega)]
    have fin : k ≤ i → Q T := fun q => by
      refine hQ T (hc.1.1.cong (fun v => ⟨hc.2.1 v, fun hv => ?_⟩)) hc.2.2
      have hV := hc.1.1.2.2.2
      refine hv V hV (clo_of n4 hV hc.1.2.2.2.2 (fun j hj => (hd j (by omega)).2)) hg
    refine ⟨fun q => fin q, fun q => ⟨fun q2 => by omega, fun _ => ?_⟩⟩
    -- the letters
    refine loopE (fun m2 l (T : Sto) => q_X1_complete_73 h (nI s) p4 (nI gc) (fun y6 T => q_X1_complete_54 h (nI s) p4 (nI gc) Q m y6 T) Q m2 (nI i) (nI l) T) (fun l T => ∃ V k N, Cpl S T h n p K s gc G V k N ∧ i < k ∧ (∀ i, i < gc → V (G i)) ∧ (∀ j, j < i → j < k ∧ ∀ l, l < n → (s ≠ 1 → V (pl (2 ^ l) (N j))) ∧ (s ≠ 0 → V (pr (2 ^ l) (N j)))) ∧ ∀ l2, l2 < l → (s ≠ 1 → V (pl (2 ^ l2) (N i))) ∧ (s ≠ 0 → V (pr (2 ^ l2) (N i)))) n ?_ ?_ 0 T (by omega) ⟨V, k, N, hc, by omega, hg, hd, fun l q => by omega⟩
    · rintro T ⟨V, k, N, hc, hik, hg, hd, hd2⟩
      have hk := hc.k16 n4
      unfold q_X1_complete_73
      rw [(keepC T hc.2.2).1, nI_leI (by omega) (by omega)]
      refine ⟨fun _ x6 e6 => ?_, fun q => by omega⟩
      rw [e6, nI_1]
      refine ih T (by omega) ⟨V, k, N, hc, hg, fun j hj => ?_⟩
      rcases Nat.lt_or_ge j i with q | q
      · exact hd j q
      · rw [show j = i by omega]; exact ⟨hik, hd2⟩
    · rintro l m2 T hl4 ⟨V, k, N, hc, hik, hg, hd, hd2⟩ ih2
      have hCT := keepC T hc.2.2
      have hk := hc.k16 n4
      have h2l := pow_l (l := l) (by omega)
      -- right
      have right : ∀ (T : Sto) (V : Vc → Prop) (k : Nat) (N : Nat → Vc), Cpl S T h n p K s gc G V k N → i < k → (∀ i, i < gc → V (G i)) → (∀ j, j < i → j < k ∧ ∀ l, l < n → (s ≠ 1 → V (pl (2 ^ l) (N j))) ∧ (s ≠ 0 → V (pr (2 ^ l) (N j)))) → (∀ l2, l2 < l → (s ≠ 1 → V (pl (2 ^ l2) (N i))) ∧ (s ≠ 0 → V (pr (2 ^ l2) (N i)))) → (s ≠ 1 → V (pl (2 ^ l) (N i))) → q_X1_complete_118 h (nI s) p4 (nI gc) (fun y6 T => q_X1_complete_54 h (nI s) p4 (nI gc) Q m y6 T) (fun y6 y7 T => q_X1_complete_73 h (nI s) p4 (nI gc) (fun y6 T => q_X1_complete_54 h (nI s) p4 (nI gc) Q m y6 T) Q m2 y6 y7 T) Q (nI i) (nI l) T := by
        intro T V k N hc hik hg hd hd2 hL
        have hCT := keepC T hc.2.2
        have hk := hc.k16 n4
        have hV := hc.1.1.2.2.2
        unfold q_X1_complete_118 q_X1_complete_153
        rw [show (0 : Int32) = nI 0 from rfl, nI_eq (by omega) (by omega)]
        refine ⟨fun q x7 e7 => ?_, fun q => ⟨vp_nI (by omega) (by omega), sp_width hCT.1 n4 ?_⟩⟩
        · rw [e7, nI_1]
          refine ih2 T ⟨V, k, N, hc, hik, hg, hd, fun l2 hl2 => ?_⟩
          rcases Nat.lt_or_ge l2 l with q2 | q2
          · exact hd2 l2 q2
          · rw [show l2 = l by omega]; exact ⟨hL, fun e => absurd q e⟩
        · have hr := (hc.1.2.2.2.1 i hik).1
          have l1 := ln_new i (by omega)
          rw [hCT.2.1, tn_nI (by omega), show (1 : Int32) = nI 1 from rfl]
          refine sp_byLetter (X := N i) hp (by omega) (by omega) (by omega) (fun _ => by omega) (by omega) (by rw [ln_205]; omega) (by omega) (by rw [ln_205]; omega) (by omega) hr ?_
          have hX : rd ((setA T 205 (fl (2 ^ n) (fun c => iI (mlE 1 l (N i) c % p)) (T.1 205))).1 205) (2 ^ n) p (fun c => mlE 1 l (N i) c % p) := by rw [setA_eq]; exact rd_fl (by omega) (fun _ _ => rfl)
          have fA : fr1 h T (setA T 205 (fl (2 ^ n) (fun c => iI (mlE 1 l (N i) c % p)) (T.1 205))) := ⟨fun c _ _ z => setA_ne _ _ (by omega), fun j _ => by rw [setA_ne _ _ (by decide)], rfl⟩
          have hN : Ncm (setA T 205 (fl (2 ^ n) (fun c => iI (mlE 1 l (N i) c % p)) (T.1 205))) h p (2 ^ n) K V k N := ⟨hc.1.1.keep (fun c hc => setA_ne _ _ (by unfold spC at hc; omega)), by rw [setA_ne _ _ (by decide)]; exact hc.1.2.1, by rw [setA_ne _ _ (by omega)]; exact hc.1.2.2.1, fun j hj => by rw [setA_ne _ _ (by omega)]; exact hc.1.2.2.2.1 j hj, hc.1.2.2.2.2⟩
          have hE : eqm p (2 ^ n) (pr (2 ^ l) (N i)) (fun c => mlE 1 l (N i) c % p) := eqm_emod (fun c hc => mlE_pr (by omega) (by omega) _)
          refine sp_welcome hs (hCT.keep (setA_ne _ _ (by decide))) hN hX (fun T2 k2 N2 B1 B2 B3 B4 x7 e7 => ?_)
          rw [e7, nI_add]
          have hAn : addV V (fun c => mlE 1 l (N i) c % p) (pr (2 ^ l) (N i)) := (addV_sub hV _).2.2.2 _ _ (fun c hc => by have := Int.dvd_neg.mpr (hE c hc); rwa [Int.neg_sub] at this) (addV_new hV _)
          refine ih2 T2 ⟨_, k2, N2, ⟨B1, fun v hv => addV_least hI hc.2.1 (hI.2.2.2 _ _ hE ((IdV_clo p n s gc G l hl4 _ (hc.2.1 _ (hc.1.2.2.2.1 i hik).2)).2 q)) hv, (hc.2.2.tr fA).tr B4⟩, by omega, fun i hi => addV_old hV _ (hg i hi), fun j hj => ⟨by have := (hd j hj).1; omega, fun l3 hl3 => ?_⟩, fun l2 hl2 => ?_⟩
          · rw [B3 j (by omega)]
            exact ⟨fun q => addV_old hV _ (((hd j hj).2 l3 hl3).1 q), fun q => addV_old hV _ (((hd j hj).2 l3 hl3).2 q)⟩
          · rw [B3 i hik]
            rcases Nat.lt_or_ge l2 l with q2 | q2
            · exact ⟨fun q => addV_old hV _ ((hd2 l2 q2).1 q), fun q => addV_old hV _ ((hd2 l2 q2).2 q)⟩
            · rw [show l2 = l by omega]; exact ⟨fun q => addV_old hV _ (hL q), fun _ => hAn⟩
      unfold q_X1_complete_73
      rw [hCT.1, nI_leI (by omega) (by omega), show (1 : Int32) = nI 1 from rfl, nI_eq (by omega) (by omega)]
      refine ⟨fun q => by omega, fun _ => ⟨fun q => right T V k N hc hik hg hd hd2 (fun e => absurd q e), fun q => ⟨vp_nI (by omega) (by omega), sp_width hCT.1 n4 ?_⟩⟩⟩
      have hV := hc.1.1.2.2.2
      have hr := (hc.1.2.2.2.1 i hik).1
      have l1 := ln_new i (by omega)
      rw [hCT.2.1, tn_nI (by omega), show (0 : Int32) = nI 0 from rfl]
      refine sp_byLetter (X := N i) hp (by omega) (by omega) (by omega) (fun _ => by omega) (by omega) (by rw [ln_205]; omega) (by omega) (by rw [ln_205]; omega) (by omega) hr ?_
      have hX : rd ((setA T 205 (fl (2 ^ n) (fun c => iI (mlE 0 l (N i) c % p)) (T.1 205))).1 205) (2 ^ n) p (fun c => mlE 0 l (N i) c % p) := by rw [setA_eq]; exact rd_fl (by omega) (fun _ _ => rfl)
      have fA : fr1 h T (setA T 205 (fl (2 ^ n) (fun c => iI (mlE 0 l (N i) c % p)) (T.1 205))) := ⟨fun c _ _ z => setA_ne _ _ (by omega), fun j _ => by rw [setA_ne _ _ (by decide)], rfl⟩
      have hN : Ncm (setA T 205 (fl (2 ^ n) (fun c => iI (mlE 0 l (N i) c % p)) (T.1 205))) h p (2 ^ n) K V k N := ⟨hc.1.1.keep (fun c hc => setA_ne _ _ (by unfold spC at hc; omega)), by rw [setA_ne _ _ (by decide)]; exact hc.1.2.1, by rw [setA_ne _ _ (by omega)]; exact hc.1.2.2.1, fun j hj => by rw [setA_ne _ _ (by omega)]; exact hc.1.2.2.2.1 j hj, hc.1.2.2.2.2⟩
      have hE : eqm p (2 ^ n) (pl (2 ^ l) (N i)) (fun c => mlE 0 l (N i) c % p) := eqm_emod (fun c hc => mlE_pl (by omega) (by omega) _)
      refine sp_welcome hs (hCT.keep (setA_ne _ _ (by decide))) hN hX (fun T2 k2 N2 B1 B2 B3 B4 => ?_)
      have hAn : addV V (fun c => mlE 0 l (N i) c % p) (pl (2 ^ l) (N i)) := (addV_sub hV _).2.2.2 _ _ (fun c hc => by have := Int.dvd_neg.mpr (hE c hc); rwa [Int.neg_sub] at this) (addV_new hV _)
      refine right T2 _ k2 N2 ⟨B1, fun v hv => addV_least hI hc.2.1 (hI.2.2.2 _ _ hE ((IdV_clo p n s gc G l hl4 _ (hc.2.1 _ (hc.1.2.2.2.1 i hik).2)).1 q)) hv, (hc.2.2.tr fA).tr B4⟩ (by omega) (fun i hi => addV_old hV _ (hg i hi)) (fun j hj => ⟨by have := (hd j hj).1; omega, fun l3 hl3 => ?_⟩) (fun l2 hl2 => ?_) (fun _ => by rw [B3 i hik]; exact hAn)
      · rw [B3 j (by omega)]
        exact ⟨fun q => addV_old hV _ (((hd j hj).2 l3 hl3).1 q), fun q => addV_old hV _ (((hd j hj).2 l3 hl3).2 q)⟩
      · rw [B3 i hik]
        exact ⟨fun q => addV_old hV _ ((hd2 l2 hl2).1 q), fun q => addV_old hV _ ((hd2 l2 hl2).2 q)⟩
  -- the generators
  refine loopE (fun m i (T : Sto) => q_X1_complete_8 h (nI s) p4 (nI gc) Q m (nI i) T) (fun i T => ∃ V k N, Cpl S T h n p K s gc G V k N ∧ ∀ j, j < i → V (G j)) gc ?_ ?_ 0 S1 (by omega) ⟨_, 0, _, st1, fun j q => by omega⟩
  · rintro T ⟨V, k, N, hc, hg⟩
    unfold q_X1_complete_8
    rw [nI_leI (by omega) (by omega)]
    exact ⟨fun _ => part2 T V k N hc hg, fun q => by omega⟩
  · rintro i m T hi ⟨V, k, N, hc, hg⟩ ih
    have hCT := keepC T hc.2.2
    have hk := hc.k16 n4
    have hV := hc.1.1.2.2.2
    unfold q_X1_complete_8
    have hr : rd (T.1 (p4 + 1 + i)) (2 ^ n) p (G i) := by rw [keepG T hc.2.2 i hi]; exact hG i hi
    have lr := hp4r i (by omega)
    rw [nI_leI (by omega) (by omega), hp4l, nI_leI (by omega) (by omega), tn_nI (by omega)]
    refine ⟨fun q => by omega, fun _ => ⟨fun q => by omega, fun _ => ⟨vp_nI (by omega) (by omega), sp_width hCT.1 n4 ?_⟩⟩⟩
    refine sp_copy (by omega) (by rw [ln_205]; omega) (by omega) (by rw [ln_205]; omega) (by omega) ?_
    have hX : rd ((setA T 205 (fl (2 ^ n) (T.1 (p4 + 1 + i)) (T.1 205))).1 205) (2 ^ n) p (G i) := by
      rw [setA_eq]; intro j hj; rw [fl_lt _ _ hj]; exact hr j hj
    have fA : fr1 h T (setA T 205 (fl (2 ^ n) (T.1 (p4 + 1 + i)) (T.1 205))) := ⟨fun c _ _ z => setA_ne _ _ (by omega), fun j _ => by rw [setA_ne _ _ (by decide)], rfl⟩
    have hN : Ncm (setA T 205 (fl (2 ^ n) (T.1 (p4 + 1 + i)) (T.1 205))) h p (2 ^ n) K V k N := ⟨hc.1.1.keep (fun c hc => setA_ne _ _ (by unfold spC at hc; omega)), by rw [setA_ne _ _ (by decide)]; exact hc.1.2.1, by rw [setA_ne _ _ (by omega)]; exact hc.1.2.2.1, fun j hj => by rw [setA_ne _ _ (by omega)]; exact hc.1.2.2.2.1 j hj, hc.1.2.2.2.2⟩
    refine sp_welcome hs (hCT.keep (setA_ne _ _ (by decide))) hN hX (fun T2 k2 N2 B1 B2 B3 B4 x6 e6 => ?_)
    rw [e6, nI_1]
    refine ih T2 ⟨_, k2, N2, ⟨B1, fun v hv => addV_least hI hc.2.1 (IdV_gen hi) hv, (hc.2.2.tr fA).tr B4⟩, fun j hj => ?_⟩
    rcases Nat.lt_or_ge j i with q | q
    · exact addV_old hV _ (hg j q)
    · rw [show j = i by omega]; exact addV_new hV _
