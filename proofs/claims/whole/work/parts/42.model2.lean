/-! the reference: rows in steps -/
def clN (w c : Nat) : Nat := if w = 8 then ([0, 1, 2, 4, 3, 5, 6, 7] : List Nat).getD c c else if w = 16 then pbN c else c
/-- the c-th place in order -/
def clf (K w c : Nat) : Nat := if K = 1 then clN w c else c
def okW (K w : Nat) : Prop := K = 0 ∨ (K = 1 ∧ (w = 4 ∨ w = 8 ∨ w = 16))
theorem clf4 : ∀ c, c < 4 → clf 1 4 c < 4 ∧ (∀ b, b < c → ps 1 (clf 1 4 b) < ps 1 (clf 1 4 c)) ∧ ∃ a, a < 4 ∧ clf 1 4 a = c := by decide +kernel
theorem clf8 : ∀ c, c < 8 → clf 1 8 c < 8 ∧ (∀ b, b < c → ps 1 (clf 1 8 b) < ps 1 (clf 1 8 c)) ∧ ∃ a, a < 8 ∧ clf 1 8 a = c := by decide +kernel
theorem clf16 : ∀ c, c < 16 → clf 1 16 c < 16 ∧ (∀ b, b < c → ps 1 (clf 1 16 b) < ps 1 (clf 1 16 c)) ∧ ∃ a, a < 16 ∧ clf 1 16 a = c := by decide +kernel
theorem clf_ok {K w : Nat} (h : okW K w) : ∀ c, c < w → clf K w c < w ∧ (∀ b, b < c → ps K (clf K w b) < ps K (clf K w c)) ∧ ∃ a, a < w ∧ clf K w a = c := by
  intro c hc
  rcases h with rfl | ⟨rfl, rfl | rfl | rfl⟩
  · exact ⟨hc, fun b hb => hb, c, hc, rfl⟩
  · exact clf4 c hc
  · exact clf8 c hc
  · exact clf16 c hc
def hdL (rk : Nat) (L : Nat → Nat) (a : Nat) : Prop := ∃ r, r < rk ∧ L r = a
/-- the reference's rows tell V in steps -/
def MB (S : Sto) (p w K : Nat) (V : Vc → Prop) (rk : Nat) (L : Nat → Nat) (R : Nat → Vc) : Prop :=
  (isP p ∧ w ≤ 256 ∧ okW K w ∧ S.1 353 1 = nI p ∧ S.1 353 27 = nI w ∧ S.1 353 25 = nI rk) ∧ (∀ c, c < w → S.1 369 c = nI (clf K w c)) ∧
  (∀ r, r < rk → L r < w ∧ S.1 367 r = nI (L r) ∧ S.1 368 (L r) = nI r ∧ ∀ i, i < w → S.1 366 (256 * r + i) = iI (R (L r) i)) ∧
  (∀ a, a < w → S.1 368 a = -1 ∨ ∃ r, r < rk ∧ L r = a) ∧ RB p w K V (hdL rk L) R ∧ Sub p w V ∧ rk = ctB (fun a => isB (hdL rk L a)) w
theorem MB.keep {S S' : Sto} {p w K rk : Nat} {V : Vc → Prop} {L : Nat → Nat} {R : Nat → Vc} (H : MB S p w K V rk L R) (e : S'.1 353 1 = S.1 353 1 ∧ S'.1 353 25 = S.1 353 25 ∧ S'.1 353 27 = S.1 353 27) (e2 : ∀ c, 366 ≤ c → c ≤ 369 → S'.1 c = S.1 c) : MB S' p w K V rk L R := by
  obtain ⟨⟨a1, a2, a3, a4, a5, a6⟩, b, c, d, f⟩ := H
  refine ⟨⟨a1, a2, a3, by rw [e.1]; exact a4, by rw [e.2.2]; exact a5, by rw [e.2.1]; exact a6⟩, fun k hk => by rw [e2 369 (by decide) (by decide)]; exact b k hk, fun r hr => ?_, fun a ha => by rw [e2 368 (by decide) (by decide)]; exact d a ha, f⟩
  rw [e2 366 (by decide) (by decide), e2 367 (by decide) (by decide), e2 368 (by decide) (by decide)]
  exact c r hr
theorem MB.cong {S : Sto} {p w K rk : Nat} {V V' : Vc → Prop} {L : Nat → Nat} {R : Nat → Vc} (H : MB S p w K V rk L R) (e : ∀ v, V v ↔ V' v) : MB S p w K V' rk L R := by
  rw [show V' = V from funext fun v => propext (e v).symm]; exact H
theorem MB.rk {S : Sto} {p w K rk : Nat} {V : Vc → Prop} {L : Nat → Nat} {R : Nat → Vc} (H : MB S p w K V rk L R) : rk ≤ w := by
  have := H.2.2.2.2.2.2
  have l := ctB_le (fun a => isB (hdL rk L a)) w
  omega
theorem MB.inj {S : Sto} {p w K rk : Nat} {V : Vc → Prop} {L : Nat → Nat} {R : Nat → Vc} (H : MB S p w K V rk L R) {r r' : Nat} (h : r < rk) (h' : r' < rk) (e : L r = L r') : r = r' := by
  have h1 := (H.2.2.1 r h).2.2.1
  have h2 := (H.2.2.1 r' h').2.2.1
  have := H.rk
  have := H.1.2.1
  rw [e, h2, nI_eq (by omega) (by omega)] at h1
  exact h1.symm
/-- what a reckoning with rows leaves alone: l is the list of cells that it may change, besides 353 (25, 27) -/
def frm (l : List Nat) (S S' : Sto) : Prop := (∀ c, c ≠ 353 → c ∉ l → S'.1 c = S.1 c) ∧ (∀ j, j ≠ 25 → j ≠ 27 → S'.1 353 j = S.1 353 j) ∧ S'.2 = S.2
theorem frm.rf {l : List Nat} {S : Sto} : frm l S S := ⟨fun _ _ _ => rfl, fun _ _ _ => rfl, rfl⟩
theorem frm.tr {l : List Nat} {S S' S'' : Sto} (a : frm l S S') (b : frm l S' S'') : frm l S S'' := ⟨fun c x y => (b.1 c x y).trans (a.1 c x y), fun j x y => (b.2.1 j x y).trans (a.2.1 j x y), b.2.2.trans a.2.2⟩
theorem frm.mono {l l' : List Nat} {S S' : Sto} (a : frm l S S') (h : ∀ c, c ∈ l → c ∈ l') : frm l' S S' := ⟨fun c x y => a.1 c x (fun q => y (h c q)), a.2.1, a.2.2⟩
theorem frm.set {l : List Nat} {S : Sto} {t : Nat} {F : Nat → Int32} (h : t ∈ l) (h3 : t ≠ 353) : frm l S (setA S t F) := ⟨fun c x y => setA_ne _ _ (fun e => y (e ▸ h)), fun j _ _ => by rw [setA_ne _ _ h3.symm], rfl⟩
theorem frm.upd {l : List Nat} {S : Sto} {t j : Nat} {x : Int32} (h : t ∈ l) (h3 : t ≠ 353) : frm l S (uA S t j x) := by rw [uA_setA]; exact frm.set h h3
theorem sp_begin9 {w p : Nat} {S : Sto} {Q : Sto → Prop} (hp1 : S.1 353 1 = nI p) (hp : isP p) (hw : w ≤ 256)
    (hQ : ∀ S', MB S' p w 0 (V0 p w) 0 (fun _ => 0) (fun _ _ => 0) → frm [368, 369] S S' → Q S') : wp_X9_begin (nI w) S Q := by
  unfold wp_X9_begin
  intro S1 e1 S2 e2
  have s2 : ∀ c, c ≠ 353 → S2.1 c = S.1 c := fun c h => by rw [e2, uA_ne h, e1, uA_ne h]
  have s3 : S2.1 353 = upd (upd (S.1 353) 25 0) 27 (nI w) := by rw [e2, uA_eq, e1, uA_eq]
  refine loopE (fun m c (T : Sto) => q_X9_begin_12 (nI w) Q m (nI c) T) (fun c T => frm [368, 369] S2 T ∧ T.1 353 = S2.1 353 ∧ (∀ i, i < c → T.1 369 i = nI i ∧ T.1 368 i = -1)) w ?_ ?_ 0 S2 (by omega) ⟨frm.rf, rfl, fun i q => by omega⟩
  · rintro T ⟨t1, t2, t3⟩
    unfold q_X9_begin_12
    refine ⟨fun _ => hQ T ⟨⟨hp, hw, Or.inl rfl, ?_, ?_, ?_⟩, fun c hc => (t3 c hc).1, fun r q => by omega, fun a ha => Or.inl (t3 a ha).2, ?_, V0_sub p w, ?_⟩ ⟨fun c x y => (t1.1 c x y).trans (s2 c x), fun j x y => by rw [t2, s3, upd_ne _ _ y, upd_ne _ _ x], by rw [t1.2.2, e2, e1]; rfl⟩, fun z => ?_⟩
    · rw [t2, s3, upd_ne _ _ (by decide), upd_ne _ _ (by decide)]; exact hp1
    · rw [t2, s3, upd_eq]
    · rw [t2, s3, upd_ne _ _ (by decide), upd_eq]; rfl
    · refine (RB.none (K := 0) (R := fun _ _ => 0)).eqv (V0_sub p w) (fun l => ?_) (fun l i q => q.elim)
      exact ⟨fun q => q.elim, fun ⟨r, q, _⟩ => by omega⟩
    · have : ∀ m, ctB (fun a => isB (hdL 0 (fun _ => 0) a)) m = 0 := by
        intro m
        induction m with
        | zero => rfl
        | succ m ih =>
          unfold ctB
          rw [ih, if_neg (by rw [isB_t]; rintro ⟨r, q, _⟩; omega)]
      rw [this]
    · rw [nI_leI (by omega) (by omega)] at z; omega
  · rintro c m T hc ⟨t1, t2, t3⟩ ih
    unfold q_X9_begin_12
    rw [nI_leI (by omega) (by omega), tn_nI (by omega)]
    refine ⟨fun z => by omega, fun _ => ⟨vp_nI (by omega) (by omega), fun S3 e3 => ⟨vp_nI (by omega) (by omega), fun S4 e4 x5 e5 => ?_⟩⟩⟩
    rw [e5, nI_1]
    have f3 : frm [368, 369] T S3 := by rw [e3]; exact frm.upd (by simp) (by decide)
    have f4 : frm [368, 369] S3 S4 := by rw [e4]; exact frm.upd (by simp) (by decide)
    refine ih S4 ⟨t1.tr (f3.tr f4), by rw [e4, uA_ne (by decide), e3, uA_ne (by decide)]; exact t2, fun i hi => ?_⟩
    rw [e4, uA_ne (by decide), uA_eq, e3, uA_eq, uA_ne (by decide)]
    by_cases e : i = c
    · rw [e, upd_eq, upd_eq]; exact ⟨rfl, rfl⟩
    · rw [upd_ne _ _ e, upd_ne _ _ e]; exact t3 i (by omega)
/-- how many places stand ahead of a among those of degree d and below -/
def kf (w d a : Nat) : Nat := ctB (fun x => decide (bcN x < d)) w + ctB (fun x => bcN x == d) a
theorem kf_Na : ∀ n, n < 5 → 2 ≤ n → ∀ d, d < n + 1 → ∀ a, a < 2 ^ n → kf (2 ^ n) d a ≤ 2 ^ n := by decide +kernel
theorem kf_Nb : ∀ n, n < 5 → 2 ≤ n → ∀ a, a < 2 ^ n → kf (2 ^ n) (bcN a) a < 2 ^ n := by decide +kernel
theorem kf_Nc : ∀ n, n < 5 → 2 ≤ n → ∀ a, a < 2 ^ n → clf 1 (2 ^ n) (kf (2 ^ n) (bcN a) a) = a := by decide +kernel
theorem kf_N1 (n : Nat) (h : n < 5) (h2 : 2 ≤ n) (d : Nat) (hd : d < n + 1) (a : Nat) (ha : a < 2 ^ n) : kf (2 ^ n) d a ≤ 2 ^ n ∧ (bcN a = d → kf (2 ^ n) d a < 2 ^ n ∧ clf 1 (2 ^ n) (kf (2 ^ n) d a) = a) :=
  ⟨kf_Na n h h2 d hd a ha, fun e => by subst e; exact ⟨kf_Nb n h h2 a ha, kf_Nc n h h2 a ha⟩⟩
theorem kf_N2 : ∀ n, n < 5 → 2 ≤ n → ∀ d, d < n + 1 → kf (2 ^ n) d (2 ^ n) = kf (2 ^ n) (d + 1) 0 := by decide +kernel
theorem kf_N3 : ∀ n, n < 5 → 2 ≤ n → kf (2 ^ n) 0 0 = 0 ∧ kf (2 ^ n) (n + 1) 0 = 2 ^ n := by decide +kernel
theorem kf_N (n : Nat) (h : n < 5) (h2 : 2 ≤ n) : (∀ d, d < n + 1 → (∀ a, a < 2 ^ n → kf (2 ^ n) d a ≤ 2 ^ n ∧ (bcN a = d → kf (2 ^ n) d a < 2 ^ n ∧ clf 1 (2 ^ n) (kf (2 ^ n) d a) = a)) ∧ kf (2 ^ n) d (2 ^ n) = kf (2 ^ n) (d + 1) 0) ∧ kf (2 ^ n) 0 0 = 0 ∧ kf (2 ^ n) (n + 1) 0 = 2 ^ n :=
  ⟨fun d hd => ⟨kf_N1 n h h2 d hd, kf_N2 n h h2 d hd⟩, kf_N3 n h h2⟩
theorem okW_n {n K : Nat} (hn : 2 ≤ n) (hn4 : n ≤ 4) (hK : K < 2) : okW K (2 ^ n) := by
  have h : n = 2 ∨ n = 3 ∨ n = 4 := by omega
  have h2 : K = 0 ∨ K = 1 := by omega
  rcases h2 with rfl | rfl
  · exact Or.inl rfl
  · rcases h with rfl | rfl | rfl
    · exact Or.inr ⟨rfl, Or.inl rfl⟩
    · exact Or.inr ⟨rfl, Or.inr (Or.inl rfl)⟩
    · exact Or.inr ⟨rfl, Or.inr (Or.inr rfl)⟩
theorem sp_degree9 {a : Nat} {S : Sto} {Q : Int32 → Sto → Prop} (ha : a < 64) (h : Q (nI (bcN a)) S) : wp_X9_degree (nI a) S Q := by
  unfold wp_X9_degree; exact sp_bitCount ha h
/-- letters, prime, order, places of the reference -/
def Cm (S : Sto) (n p K : Nat) : Prop := S.1 353 0 = nI n ∧ S.1 353 1 = nI p ∧ S.1 353 2 = nI K ∧ S.1 353 3 = nI (2 ^ n) ∧ 2 ≤ n ∧ n ≤ 4 ∧ isP p ∧ K < 2
theorem Cm.keep {S S' : Sto} {n p K : Nat} {l : List Nat} (h : Cm S n p K) (f : frm l S S') : Cm S' n p K := by
  obtain ⟨h1, h2, h3, h4, h5⟩ := h
  exact ⟨by rw [f.2.1 0 (by decide) (by decide)]; exact h1, by rw [f.2.1 1 (by decide) (by decide)]; exact h2, by rw [f.2.1 2 (by decide) (by decide)]; exact h3, by rw [f.2.1 3 (by decide) (by decide)]; exact h4, h5⟩
theorem sp_beginPlaces {n p K : Nat} {S : Sto} {Q : Sto → Prop} (hC : Cm S n p K)
    (hQ : ∀ S', MB S' p (2 ^ n) K (V0 p (2 ^ n)) 0 (fun _ => 0) (fun _ _ => 0) → frm [368, 369] S S' → Q S') : wp_X9_beginPlaces S Q := by
  obtain ⟨h1, h2, h3, h4, n2, n4, hp, hK⟩ := id hC
  have hw := pow_n n4
  unfold wp_X9_beginPlaces
  rw [h4]
  refine sp_begin9 h2 hp (by omega) (fun S1 a1 a2 => ?_)
  have c1 := hC.keep a2
  rw [c1.2.2.1]
  refine ⟨fun z => ?_, fun z => ?_⟩
  · have hK1 : K = 1 := by
      have : K = 0 ∨ K = 1 := by omega
      rcases this with e | e
      · rw [e] at z; exact absurd rfl z
      · exact e
    obtain ⟨k1, k2, k3⟩ := kf_N n (by omega) n2
    refine loopE (σ := Int32 × Sto) (fun m d T => q_X9_beginPlaces_20 Q m T.1 (nI d) T.2) (fun d T => T.1 = nI (kf (2 ^ n) d 0) ∧ frm [369] S1 T.2 ∧ T.2.1 353 = S1.1 353 ∧ ∀ c, c < kf (2 ^ n) d 0 → T.2.1 369 c = nI (clf 1 (2 ^ n) c)) (n + 1) ?_ ?_ 0 (0, S1) (by omega) ⟨by rw [k2]; rfl, frm.rf, rfl, fun c q => by omega⟩
    · rintro ⟨x1, T⟩ ⟨t0, t1, t2, t3⟩
      unfold q_X9_beginPlaces_20
      simp only at t0 t1 t2 t3 ⊢
      rw [t2, c1.1, nI_ltI (by omega) (by omega)]
      refine ⟨fun _ => hQ T ?_ (a2.tr (t1.mono (by simp))), fun z => by omega⟩
      obtain ⟨⟨b1, b2, b3, b4, b5, b6⟩, c, d, e, f⟩ := a1
      refine ⟨⟨b1, b2, okW_n n2 n4 hK, by rw [t2]; exact b4, by rw [t2]; exact b5, by rw [t2]; exact b6⟩, fun c hc => by rw [hK1]; exact t3 c (by omega), fun r q => by omega, fun a ha => by rw [t1.1 368 (by decide) (by simp)]; exact e a ha, ?_, f.2⟩
      refine (RB.none (K := K) (R := fun _ _ => 0)).eqv (V0_sub p (2 ^ n)) (fun l => ?_) (fun l i q => q.elim)
      exact ⟨fun q => q.elim, fun ⟨r, q, _⟩ => by omega⟩
    · rintro d m ⟨x1, T⟩ hd ⟨t0, t1, t2, t3⟩ ih
      unfold q_X9_beginPlaces_20
      simp only at t0 t1 t2 t3 ⊢
      rw [t2, c1.1, nI_ltI (by omega) (by omega)]
      obtain ⟨kk1, kk2⟩ := k1 d hd
      refine ⟨fun z => by omega, fun _ => ?_⟩
      refine loopE (σ := Int32 × Sto) (fun m2 a T => q_X9_beginPlaces_30 (fun y1 y2 S => q_X9_beginPlaces_20 Q m y1 y2 S) Q m2 T.1 (nI d) (nI a) T.2) (fun a T => T.1 = nI (kf (2 ^ n) d a) ∧ frm [369] S1 T.2 ∧ T.2.1 353 = S1.1 353 ∧ ∀ c, c < kf (2 ^ n) d a → T.2.1 369 c = nI (clf 1 (2 ^ n) c)) (2 ^ n) ?_ ?_ 0 (x1, T) (Nat.zero_le _) ⟨t0, t1, t2, t3⟩
      · rintro ⟨x1, T⟩ ⟨t0, t1, t2, t3⟩
        unfold q_X9_beginPlaces_30
        simp only at t0 t1 t2 t3 ⊢
        rw [t2, c1.2.2.2.1, nI_leI (by omega) (by omega)]
        refine ⟨fun _ x2 e2 => ?_, fun z => by omega⟩
        rw [e2, nI_1]
        rw [kk2] at t0 t3
        exact ih (x1, T) ⟨t0, t1, t2, t3⟩
      · rintro a m2 ⟨x1, T⟩ ha ⟨t0, t1, t2, t3⟩ ih2
        unfold q_X9_beginPlaces_30 q_X9_beginPlaces_56
        simp only at t0 t1 t2 t3 ⊢
        obtain ⟨kk3, kk4⟩ := kk1 a ha
        rw [t2, c1.2.2.2.1, nI_leI (by omega) (by omega)]
        refine ⟨fun z => by omega, fun _ => sp_degree9 (by omega) ?_⟩
        have hb := bcN_lt a
        rw [nI_eq (by omega) (by omega)]
        refine ⟨fun z x3 e3 => ?_, fun z y1 ey => ?_⟩
        · rw [e3, nI_1]
          refine ih2 (x1, T) ?_
          have : kf (2 ^ n) d (a + 1) = kf (2 ^ n) d a := by unfold kf; simp only [ctB]; rw [if_neg (by simpa using z)]; rfl
          rw [this]
          exact ⟨t0, t1, t2, t3⟩
        · obtain ⟨kk5, kk6⟩ := kk4 z
          have : kf (2 ^ n) d (a + 1) = kf (2 ^ n) d a + 1 := by unfold kf; simp only [ctB]; rw [if_pos (by simpa using z)]; rfl
          rw [t0, nI_1] at ey
          rw [t0, tn_nI (by omega)]
          refine ⟨vp_nI (by omega) (by omega), fun S3 e3 x3 e4 => ?_⟩
          rw [e4, nI_1]
          refine ih2 (y1, S3) ?_
          rw [this]
          refine ⟨ey, t1.tr (by rw [e3]; exact frm.upd (by simp) (by decide)), by show S3.1 353 = _; rw [e3, uA_ne (by decide)]; exact t2, fun c hc => ?_⟩
          show S3.1 369 c = _
          rw [e3, uA_eq]
          by_cases e : c = kf (2 ^ n) d a
          · rw [e, upd_eq, kk6]
          · rw [upd_ne _ _ e]; exact t3 c (by omega)
  · have hK0 : K = 0 := by
      rw [show (0 : Int32) = nI 0 from rfl, nI_eq (by omega) (by omega)] at z; exact z
    rw [hK0] at hQ
    exact hQ S1 a1 a2
/-! less what leads in it -/
theorem sp_reduce {p w K rk : Nat} {V : Vc → Prop} {L : Nat → Nat} {R : Nat → Vc} {X : Vc} {S : Sto} {Q : Sto → Prop} (H : MB S p w K V rk L R) (hX : rd (S.1 370) w p X)
    (hQ : ∀ (F : Nat → Int32) (r : Vc), rd F w p r → Rest p w V (hdL rk L) X r → (∀ j, w ≤ j → F j = S.1 370 j) → Q (setA S 370 F)) : wp_X9_reduce S Q := by
  obtain ⟨⟨hp, hw, hok, h1, h27, h25⟩, hc, hr, hrb, hB, hV, -⟩ := id H
  have hp8 := hp.pos
  have hrk := H.rk
  have hcl := clf_ok hok
  unfold wp_X9_reduce
  refine loopE (fun m c (T : Sto) => q_X9_reduce_2 Q m (nI c) T) (fun c T => ∃ (F : Nat → Int32) (r : Vc), T = setA S 370 F ∧ rd F w p r ∧ V (fun i => X i - r i) ∧ (∀ b, b < c → hdL rk L (clf K w b) → r (clf K w b) = 0) ∧ ∀ j, w ≤ j → F j = S.1 370 j) w ?_ ?_ 0 S (by omega) ⟨S.1 370, X, by rw [setA_self], hX, hV.to hV.1 (fun i _ => by simp), fun b q => by omega, fun _ _ => rfl⟩
  · rintro T ⟨F, r, rfl, t1, t2, t3, t4⟩
    unfold q_X9_reduce_2
    rw [setA_ne _ _ (by decide), h27, nI_leI (by omega) (by omega)]
    refine ⟨fun _ => hQ F r t1 ⟨fun i hi => (t1 i hi).2, t2, fun l hl => ?_⟩ t4, fun z => by omega⟩
    obtain ⟨g1, -⟩ := hB.1 l hl
    obtain ⟨-, -, b, hb, eb⟩ := hcl l g1
    have := t3 b hb (by rw [eb]; exact hl)
    rw [eb] at this; exact this
  · rintro c m T hcw ⟨F, r, rfl, t1, t2, t3, t4⟩ ih
    unfold q_X9_reduce_2 q_X9_reduce_104
    obtain ⟨q1, q2, -⟩ := hcl c hcw
    have e3 : (setA S 370 F).1 353 = S.1 353 := setA_ne _ _ (by decide)
    have e9 : (setA S 370 F).1 369 = S.1 369 := setA_ne _ _ (by decide)
    have e8 : (setA S 370 F).1 368 = S.1 368 := setA_ne _ _ (by decide)
    have skip : (hdL rk L (clf K w c) → r (clf K w c) = 0) → q_X9_reduce_2 Q m (nI (c + 1)) (setA S 370 F) := fun h0 => by
      refine ih _ ⟨F, r, rfl, t1, t2, fun b hb hd => ?_, t4⟩
      rcases Nat.lt_or_ge b c with z | z
      · exact t3 b z hd
      · rw [show b = c by omega] at hd ⊢; exact h0 hd
    rw [e3, h27, nI_leI (by omega) (by omega), e9, tn_nI (by omega), hc c hcw]
    refine ⟨fun z => by omega, fun _ => ⟨vp_nI (by omega) (by omega), fun x2 ex2 => ?_⟩⟩
    rw [ex2, setA_eq, e8, tn_nI (by omega)]
    obtain ⟨r1, r2, r3⟩ := t1 _ q1
    refine ⟨vp_nI (by omega) (by omega), fun x3 ex3 => ?_⟩
    rw [ex3, r1]
    refine ⟨fun z x ex => ?_, fun z => ⟨vp_nI (by omega) (by omega), fun z2 => ⟨vp_nI (by omega) (by omega), fun x4 ex4 => ?_⟩, fun z2 x ex => ?_⟩⟩
    · rw [ex, nI_1]
      rw [iI_eq0 ⟨by omega, by omega⟩] at z
      exact skip (fun _ => z)
    · rcases hrb _ q1 with hm | ⟨k, hk, hLk⟩
      · rw [hm] at z2; exact absurd z2 (by decide)
      · obtain ⟨s1, s2, s3, s4⟩ := hr k hk
        rw [← hLk, s3, show (256 : Int32) = nI 256 from rfl, pk_mul] at ex4
        have hdc : hdL rk L (clf K w c) := ⟨k, hk, hLk⟩
        obtain ⟨g1, g2, g3, g4, g5, g6⟩ := hB.1 _ hdc
        rw [hLk] at s4
        obtain ⟨t, ht⟩ : ∃ t, t = r (clf K w c) := ⟨_, rfl⟩
        rw [← ht] at r2 r3 ⊢
        refine loopE (fun m2 i (T : Sto) => q_X9_reduce_55 (fun y1 S => q_X9_reduce_2 Q m y1 S) Q m2 (nI c) (iI t) x4 (nI i) T) (fun i T => T = setA S 370 (fl i (fun i => iI ((r i - t * R (clf K w c) i) % p)) F)) w ?_ ?_ 0 _ (by omega) (by rw [fl_0])
        · intro T hT
          unfold q_X9_reduce_55 q_X9_reduce_104
          rw [hT, setA_ne _ _ (by decide), h27, nI_leI (by omega) (by omega)]
          refine ⟨fun _ x ex => ?_, fun z => by omega⟩
          rw [ex, nI_1]
          refine ih _ ⟨_, fun j => (r j - t * R (clf K w c) j) % p, rfl, rd_fl (by omega) (fun _ _ => rfl), ?_, fun b hb hd => ?_, fun j hj => by rw [fl_ge _ _ hj]; exact t4 j hj⟩
          · refine hV.2.2.2 _ _ (fun j hj => ?_) (hV.2.1 _ _ t2 (hV.2.2.1 t _ g2))
            have := Int.dvd_neg.mpr (dvd_emod p (r j - t * R (clf K w c) j))
            rwa [show -(r j - t * R (clf K w c) j - (r j - t * R (clf K w c) j) % p) = X j - r j + t * R (clf K w c) j - (X j - (r j - t * R (clf K w c) j) % p) by omega] at this
          · show (r (clf K w b) - t * R (clf K w c) (clf K w b)) % p = 0
            rcases Nat.lt_or_ge b c with z | z
            · have hne : clf K w b ≠ clf K w c := fun e => by have := q2 b z; rw [e] at this; omega
              rw [t3 b z hd, g6 _ hd hne]; simp
            · rw [show b = c by omega, g3, ← ht]; simp
        · intro i m2 T hi hT ih2
          unfold q_X9_reduce_55
          have t3 : T.1 353 = S.1 353 := by rw [hT, setA_ne _ _ (by decide)]
          have t6 : T.1 366 = S.1 366 := by rw [hT, setA_ne _ _ (by decide)]
          have t70 : T.1 370 i = F i := by rw [hT, setA_eq, fl_at]
          obtain ⟨u1, u2, u3⟩ := t1 i hi
          have u4 := g4 i hi
          rw [t3, h27, nI_leI (by omega) (by omega), tn_nI (by omega), t70, t6, ex4, nI_add, tn_nI (by omega), s4 i hi, u1, iI_l ⟨by omega, by omega⟩, iI_l ⟨by omega, by omega⟩, iI_l ⟨by omega, by omega⟩, ← iL_mul, ← iL_sub]
          have hm0 : 0 ≤ t * R (clf K w c) i := Int.mul_nonneg r2 u4.1
          have hm1 : t * R (clf K w c) i ≤ 8 * 8 := Int.mul_le_mul (by omega) (by omega) u4.1 (by omega)
          refine ⟨fun z => by omega, fun _ => ⟨vp_nI (by omega) (by omega), vp_nI (by omega) (by omega), sp_mod9 (by rw [t3]; exact h1) hp ⟨by omega, by omega⟩ ⟨vp_nI (by omega) (by omega), fun S1 e1 x ex => ?_⟩⟩⟩
          rw [ex, nI_1, ← ex4]
          refine ih2 S1 ?_
          rw [e1, hT, uA_setA, setA_setA, setA_eq]
          congr 1
          have := fl_step' S 370 i (fun i => iI ((r i - t * R (clf K w c) i) % p)) F rfl
          have h2 := congrArg (fun s : Sto => s.1 370) this
          simp only [uA_eq, setA_eq] at h2
          exact h2
    · rw [ex, nI_1]
      refine skip (fun hd => ?_)
      obtain ⟨k, hk, hLk⟩ := hd
      rw [← hLk, (hr k hk).2.2.1] at z2
      exact absurd (nI_pos' (by omega)) z2
