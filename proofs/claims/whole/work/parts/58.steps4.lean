/-! the reference counts steps -/
/-- there is room for what comes -/
def Bnd (p n : Nat) : Nat → Nat → (Vc → Prop) → Prop
  | 0, _, _ => True
  | m + 1, w, M => ∀ t h, Mg p n w M t h → w + t * 2 ^ n ≤ 256 ∧ Bnd p n m (t * 2 ^ n) (Sz p n w t h)
theorem Bnd_I {p n : Nat} {I : Vc → Prop} (hp : isP p) (hn2 : 2 ≤ n) (hn : n ≤ 4) (hI : Sub p (2 ^ n) I) (hc : cloL n I) (h4 : ∃ t g, Mg p n (2 ^ n) I t g ∧ t ≤ 4) : ∀ m, m ≤ 2 → (m = 2 → n ≤ 3) → Bnd p n m (2 ^ n) I := by
  have hw := pow_n hn
  obtain ⟨t0, g0, hg0, ht0⟩ := h4
  have bd : ∀ t h, Mg p n (2 ^ n) I t h → t ≤ 4 := fun t h hh => by rw [Mg.same hp hI hc hh hg0]; exact ht0
  have mul4 : ∀ t, t ≤ 4 → t * 2 ^ n ≤ 4 * 2 ^ n := fun t ht => Nat.mul_le_mul_right _ ht
  intro m hm h3
  have : m = 0 ∨ m = 1 ∨ m = 2 := by omega
  rcases this with rfl | rfl | rfl
  · trivial
  · intro t h hh
    have := mul4 t (bd t h hh)
    exact ⟨by omega, trivial⟩
  · have n3 := h3 rfl
    have h8 : 2 ^ n ≤ 8 := by
      have : n = 2 ∨ n = 3 := by omega
      rcases this with rfl | rfl <;> decide
    intro t h hh
    have ht := bd t h hh
    have := mul4 t ht
    refine ⟨by omega, fun t1 h1 hh1 => ⟨?_, trivial⟩⟩
    have hS := Sz_Sub p n (2 ^ n) t h
    have hSc := Sz_clo (p := p) (g := h) hn2 hn (show 2 ^ n ≤ 256 by omega) (show t * 2 ^ n ≤ 256 by omega)
    obtain ⟨hdM, RM, hRM⟩ := RB.exists hp hI
    obtain ⟨hdL, RL, hRL⟩ := RB.exists hp (LMs_Sub p n (2 ^ n) I)
    obtain ⟨hdS, RS, hRS⟩ := RB.exists hp hS
    obtain ⟨hd2, R2, hR2⟩ := RB.exists hp (LMs_Sub p n (t * 2 ^ n) (Sz p n (2 ^ n) t h))
    have b := rel_bd hp hn2 n3 ht hI hc hh hRM hRL (hh.dim hp hI hc hRM hRL) hRS hR2
    have d := hh1.dim hp hS hSc hRS hR2
    have ht1 : t1 ≤ 8 := by omega
    have := Nat.mul_le_mul_right (2 ^ n) ht1
    omega
def lSt : List Nat := [366, 367, 368, 369, 370, 377, 378]
theorem sp_step9 {n p K k : Nat} {Q : Int32 → Sto → Prop} : ∀ (m : Nat) (x2 : Nat) (S : Sto) (s : Nat) (M : Vc → Prop) (mr : Nat) (X : Nat → Vc), x2 + m = k → k ≤ 2 → Cm S n p K → s * 2 ^ n ≤ 256 → cloL n M → Mdl S p (s * 2 ^ n) M mr X → Bnd p n m (s * 2 ^ n) M → (∀ S' r, BtR p n m (s * 2 ^ n) M r → frM lSt S S' → Q (nI r) S') → q_X9_step_109 (nI k) Q (m + 1) (nI x2) S := by
  intro m
  induction m with
  | zero =>
    intro x2 S s M mr X e hk hC hs hc H hB hQ
    unfold q_X9_step_109
    rw [nI_leI (by omega) (by omega)]
    refine ⟨fun _ => ?_, fun z => by omega⟩
    exact sp_needs hC hs hc H (fun S' t h a1 a2 a3 a4 a5 => hQ S' t ⟨h, a1⟩ (a5.mono (by simp [lNd, lSt])))
  | succ m ih =>
    intro x2 S s M mr X e hk hC hs hc H hB hQ
    obtain ⟨h1, h2, h3, h4, n2, n4, hp, hK⟩ := id hC
    unfold q_X9_step_109
    rw [nI_leI (by omega) (by omega)]
    refine ⟨fun z => by omega, fun _ => ?_⟩
    refine sp_needs hC hs hc H (fun S' t h a1 a2 a3 a4 a5 => ⟨fun z => ?_, fun z => ?_⟩)
    · obtain ⟨b1, b2⟩ := hB t h a1
      have f1 : frM lSt S S' := a5.mono (by simp [lNd, lSt])
      refine sp_relates (hC.keepM f1) b1 a4 a2 (fun S2 mr' X' c1 c2 x3 ex3 => ?_)
      rw [ex3, nI_1]
      have f2 : frM lSt S S2 := f1.tr (c2.mono (by simp [lRl, lSt]))
      refine ih (x2 + 1) S2 t (Sz p n (s * 2 ^ n) t h) mr' X' (by omega) hk (hC.keepM f2) (by omega) (Sz_clo n2 n4 hs (by omega)) c1 b2 (fun S3 r d1 d2 => ?_)
      exact hQ S3 r ⟨t, h, a1, by omega, d1⟩ (f2.tr d2)
    · have ht : t = 0 := by
        rw [show (0 : Int32) = nI 0 from rfl, nI_eq (by omega) (by omega)] at z; exact z
      subst ht
      exact hQ S' 0 (BtR.nought a1 (m + 1)) (a5.mono (by simp [lNd, lSt]))
theorem sp_stepModel {n p K gc k : Nat} {G : Nat → Vc} {S : Sto} {Q : Int32 → Sto → Prop} (hC : Cm S n p K) (hG : Gm S n p gc G) (hk : k ≤ 2) (hk3 : k = 2 → n ≤ 3) (h4' : ∃ t g, Mg p n (2 ^ n) (IdV p n 0 gc G) t g ∧ t ≤ 4)
    (hQ : ∀ S' r, BtR p n k (2 ^ n) (IdV p n 0 gc G) r → frM [366, 367, 368, 369, 370, 371, 372, 373, 377, 378] S S' → Q (nI r) S') : q_X9_step_30 (nI k) Q S := by
  obtain ⟨h1, h2, h3, h4, n2, n4, hp, hK⟩ := id hC
  have hw := pow_n n4
  have IS := IdV_sub p n 0 gc G
  have Ic : cloL n (IdV p n 0 gc G) := fun l hl x hx => (IdV_clo p n 0 gc G l hl x hx).1 (by decide)
  unfold q_X9_step_30
  refine sp_spans (s := 0) (by omega) hC hG (fun S1 rk L R b1 b2 S3 e3 S4 e4 => ?_)
  have hrk := b1.rk
  obtain ⟨-, -, br, -, bB, bV, -⟩ := id b1
  have s3 : S1.1 353 3 = nI (2 ^ n) := by rw [b2.2.1 3 (by decide) (by decide)]; exact h4
  have o4 : ∀ c, c ≠ 353 → S4.1 c = S1.1 c := fun c h => by rw [e4, uA_ne h, e3, uA_ne h]
  have u4 : S4.1 353 = upd (upd (S1.1 353) 39 (nI (2 ^ n))) 38 (nI rk) := by
    rw [e4, uA_eq, e3, uA_eq, s3, upd_ne _ _ (by decide), b1.1.2.2.2.2.2]
  have f4 : frM [366, 367, 368, 369, 370, 371, 372, 373, 377, 378] S S4 := (b2.M.mono (by simp [lSp])).tr ((show frM _ S1 S3 by rw [e3]; exact frM.fld (by decide)).tr (by rw [e4]; exact frM.fld (by decide)))
  have l377 : ln 377 = 65536 := by decide +kernel
  have H4 : MB S4 p (2 ^ n) K (IdV p n 0 gc G) rk L R := b1.keep ⟨by rw [u4, upd_ne _ _ (by decide), upd_ne _ _ (by decide)], by rw [u4, upd_ne _ _ (by decide), upd_ne _ _ (by decide)], by rw [u4, upd_ne _ _ (by decide), upd_ne _ _ (by decide)]⟩ (fun c q1 q2 => o4 c (by omega))
  -- the rows are copied
  refine loopE (fun m r (T : Sto) => q_X9_step_53 (nI k) Q m (nI r) T) (fun r T => frs [377] S4 T ∧ ∀ j, j < r → ∀ i, i < 2 ^ n → T.1 377 (256 * j + i) = iI (R (L j) i)) rk ?_ ?_ 0 S4 (Nat.zero_le _) ⟨frs.rf, fun j q => by omega⟩
  · rintro T ⟨t1, t2⟩
    unfold q_X9_step_53
    rw [t1.1 353 (by simp), H4.1.2.2.2.2.2, nI_leI (by omega) (by omega)]
    refine ⟨fun _ => ⟨k + 1, ?_⟩, fun z => by omega⟩
    have fT : frM [366, 367, 368, 369, 370, 371, 372, 373, 377, 378] S T := f4.tr ((t1.M (by simp)).mono (by simp))
    have M1 : Mdl T p (1 * 2 ^ n) (IdV p n 0 gc G) rk (fun r => R (L r)) := by
      rw [Nat.one_mul]
      refine ⟨by rw [t1.1 353 (by simp), u4, upd_eq], by rw [t1.1 353 (by simp), u4, upd_ne _ _ (by decide), upd_eq], hrk, fun r hr => ⟨fun i hi => ⟨t2 r hr i hi, (bB.1 _ ⟨r, hr, rfl⟩).2.2.2.1 i hi⟩, (bB.1 _ ⟨r, hr, rfl⟩).2.1⟩, fun U hU hall v hv => ?_, IS⟩
      refine bB.span bV hU (fun l hl => ?_) hv
      obtain ⟨r, hr, e⟩ := hl
      rw [← e]; exact hall r hr
    have := sp_step9 (Q := Q) (n := n) (p := p) (K := K) (k := k) k 0 T 1 (IdV p n 0 gc G) rk (fun r => R (L r)) (by omega) hk (hC.keepM fT) (by omega) Ic M1 (by rw [Nat.one_mul]; exact Bnd_I hp n2 n4 IS Ic h4' k hk hk3) (fun S' r c1 c2 => ?_)
    · exact this
    · rw [Nat.one_mul] at c1
      exact hQ S' r c1 (fT.tr (c2.mono (by simp [lSt])))
  · rintro r m T hr ⟨t1, t2⟩ ih
    unfold q_X9_step_53
    rw [t1.1 353 (by simp), H4.1.2.2.2.2.2, nI_leI (by omega) (by omega)]
    refine ⟨fun z => by omega, fun _ => ?_⟩
    obtain ⟨u1, u2, u3, u5⟩ := br r hr
    refine loopE (fun m2 i (Y : Sto) => q_X9_step_63 (nI k) (fun y2 S => q_X9_step_53 (nI k) Q m y2 S) Q m2 (nI r) (nI i) Y) (fun i Y => frs [377] T Y ∧ (∀ j, j < 256 * r → Y.1 377 j = T.1 377 j) ∧ ∀ j, j < i → Y.1 377 (256 * r + j) = iI (R (L r) j)) (2 ^ n) ?_ ?_ 0 T (Nat.zero_le _) ⟨frs.rf, fun _ _ => rfl, fun j q => by omega⟩
    · rintro Y ⟨y1, y2, y3⟩
      unfold q_X9_step_63
      rw [y1.1 353 (by simp), t1.1 353 (by simp), u4, upd_ne _ _ (by decide), upd_ne _ _ (by decide), s3, nI_leI (by omega) (by omega)]
      refine ⟨fun _ x2 e2 => ?_, fun z => by omega⟩
      rw [e2, nI_1]
      refine ih Y ⟨t1.tr y1, fun j hj i hi => ?_⟩
      by_cases e : j = r
      · rw [e]; exact y3 i hi
      · rw [y2 _ (by omega)]; exact t2 j (by omega) i hi
    · rintro i m2 Y hi ⟨y1, y2, y3⟩ ih2
      unfold q_X9_step_63
      have e366 : Y.1 366 = S1.1 366 := by rw [y1.1 366 (by simp), t1.1 366 (by simp), o4 366 (by decide)]
      rw [y1.1 353 (by simp), t1.1 353 (by simp), u4, upd_ne _ _ (by decide), upd_ne _ _ (by decide), s3, nI_leI (by omega) (by omega), show (256 : Int32) = nI 256 from rfl, pk_mul, nI_add, tn_nI (by omega), e366]
      refine ⟨fun z => by omega, fun _ => ⟨vp_nI (by omega) (by omega), vp_nI (by omega) (by omega), fun S5 e5 x3 ex3 => ?_⟩⟩
      rw [ex3, nI_1]
      refine ih2 S5 ⟨y1.tr (by rw [e5]; exact frs.upd (by simp)), fun j hj => by rw [e5, uA_eq, upd_ne _ _ (by omega)]; exact y2 j hj, fun j hj => ?_⟩
      rw [e5, uA_eq]
      by_cases e : j = i
      · rw [e, upd_eq]; exact u5 i hi
      · rw [upd_ne _ _ (by omega)]; exact y3 j (by omega)
