/-! the calls that change elements (4) -/
theorem upd2 (F : Nat → Int32) (i : Nat) (x y : Int32) : upd (upd F i x) i y = upd F i y := by
  funext j
  by_cases e : j = i
  · rw [e, upd_eq, upd_eq]
  · rw [upd_ne _ _ e, upd_ne _ _ e, upd_ne _ _ e]
theorem tsg_M : ∀ c, c < 16 → ((nI (bcN c) * (nI (bcN c) - 1)) / 2 - ((nI (bcN c) * (nI (bcN c) - 1)) / 2) / 2 * 2 = 1 ∧ tsg c = -1) ∨ (¬ (nI (bcN c) * (nI (bcN c) - 1)) / 2 - ((nI (bcN c) * (nI (bcN c) - 1)) / 2) / 2 * 2 = 1 ∧ tsg c = 1) := by decide +kernel
theorem com_x : ∀ n, n ≤ 4 → ∀ c, c < 2 ^ n → (2 ^ n - 1) ^^^ c = 2 ^ n - 1 - c := by decide +kernel
theorem nI_sub {a b : Nat} (h : b ≤ a) : nI a - nI b = nI (a - b) := by
  have : nI a = nI (a - b) + nI b := by rw [nI_add]; congr 1; omega
  rw [this, Int32.add_sub_cancel]
theorem sp_bec9 {n p K gc a j : Nat} {E G : Nat → Nat → Int32} {X r : Vc} {S : Sto} {x : Int32} {Q : Int32 → Sto → Prop} (R : RA S n p K gc E G) (hp : isP p) (n4 : n ≤ 4) (ha : a < 6) (hj : j < 2) (hX : ∀ i, i < 2 ^ n → E a i = iI (X i) ∧ 0 ≤ X i ∧ X i < p) (hr : r = fun c => if j = 0 then tsg c * X c % p else sg ((2 ^ n - 1) ^^^ c) c * X ((2 ^ n - 1) ^^^ c) % p)
    (hQ : ∀ S3, RA S3 n p K gc E G → frR S S3 → (∀ i, i < 2 ^ n → S3.1 373 i = iI (r i)) → (∀ i, 2 ^ n ≤ i → i < 16 → S3.1 373 i = 0) → wp_X9_lays x S3 Q) : ∃ m, q_X9_becomes_54 x (nI a) (nI j) Q m 0 S := by
  have hw := pow_n n4
  have hp8 := hp.pos
  refine loopE (fun m i (T : Sto) => q_X9_becomes_54 x (nI a) (nI j) Q m (nI i) T) (fun i T => T = setA S 373 (fl i (fun i => if i < 2 ^ n then iI (r i) else 0) (S.1 373))) 16 ?_ ?_ 0 S (Nat.zero_le _) (by rw [fl_0, setA_self])
  · intro T hT
    unfold q_X9_becomes_54
    refine ⟨fun _ => ?_, fun q => absurd (show (16 : Int32) ≤ nI 16 by decide) q⟩
    have RW := R.w (l := [373]) ((frs.set (t := 373) (l := [373]) (F := fl 16 (fun i => if i < 2 ^ n then iI (r i) else 0) (S.1 373)) (by simp)).M (by simp)) (by simp)
    rw [hT]
    exact hQ _ RW.1 RW.2 (fun i hi => by rw [setA_eq, fl_lt _ _ (by omega), if_pos hi]) (fun i hi hi2 => by rw [setA_eq, fl_lt _ _ hi2, if_neg (by omega)])
  · intro i m T hi hT ih
    unfold q_X9_becomes_54 q_X9_becomes_193 q_X9_becomes_154 q_X9_becomes_193
    rw [show (16 : Int32) = nI 16 from rfl, nI_leI (by omega) (by omega), tn_nI (i := i) (by omega)]
    refine ⟨fun q => by omega, fun _ => ⟨vi (by omega) (by omega), fun S5 e5 => ?_⟩⟩
    rw [hT, uA_sA] at e5
    have RW := R.w (l := [373]) ((frs.set (t := 373) (l := [373]) (F := upd (fl i (fun i => if i < 2 ^ n then iI (r i) else 0) (S.1 373)) i 0) (by simp)).M (by simp)) (by simp)
    rw [← e5] at RW
    have p1 : S5.1 353 1 = nI p := RW.1.2.1
    have p3 : S5.1 353 3 = nI (2 ^ n) := RW.1.2.2.2.1
    have pe : ∀ c, c < 2 ^ n → S5.1 354 (16 * a + c) = iI (X c) := fun c hc => (RW.1.2.2.2.2.2.1 a ha c (by omega)).trans (hX c hc).1
    have go : ∀ v : Int32, i < 2 ^ n → v = iI (r i) → ∀ S6 : Sto, S6 = uA S5 373 i v → ∀ y : Int32, y = nI i + 1 → q_X9_becomes_54 x (nI a) (nI j) Q m y S6 := by
      intro v hi2 hv S6 e6 y ey
      rw [ey, nI_1]
      refine ih S6 ?_
      rw [e6, e5, uA_sA, upd2, fl_upd i (fun i => if i < 2 ^ n then iI (r i) else 0) _ (by simp only [if_pos hi2]; exact hv)]
    rw [p3, nI_ltI (by omega) (by omega), show (0 : Int32) = nI 0 from rfl, nI_eq (by omega) (by omega)]
    refine ⟨fun lt x5 e5' => ⟨fun j0 => ?_, fun j0 => ?_⟩, fun nlt y ey => ?_⟩
    · rw [show (1 : Int32) = nI 1 from rfl, nI_sub (by omega), nI_sub (by omega), ← com_x n n4 i lt] at e5'
      have lx : (2 ^ n - 1) ^^^ i < 2 ^ n := by rw [com_x n n4 i lt]; omega
      have g := hX _ lx
      have s3 := sg_sm ((2 ^ n - 1) ^^^ i) (by omega) i (by omega)
      have gb : -7 ≤ sg ((2 ^ n - 1) ^^^ i) i * X ((2 ^ n - 1) ^^^ i) ∧ sg ((2 ^ n - 1) ^^^ i) i * X ((2 ^ n - 1) ^^^ i) ≤ 7 := by
        rcases s3 with s | s | s <;> rw [s] <;> omega
      rw [e5']
      refine sp_sign9 (by omega) (by omega) ?_
      rw [pk_mul, nI_add, tn_nI (by omega), pe _ lx, ← iI_mul, iI_l ⟨by omega, by omega⟩]
      refine ⟨vi (by omega) (by omega), sp_mod9 p1 hp ⟨by omega, by omega⟩ ⟨vi (by omega) (by omega), fun S6 e6 y ey => go _ lt (by rw [hr]; simp only [if_neg j0]) S6 e6 y ey⟩⟩
    · have g := hX i lt
      refine sp_degree9 (by omega) (sp_degree9 (by omega) ?_)
      rw [pk_mul, nI_add, tn_nI (by omega), pe _ lt]
      rcases tsg_M i hi with ⟨t1, t2⟩ | ⟨t1, t2⟩
      · refine ⟨fun q => absurd t1 q, fun _ => ⟨vi (by omega) (by omega), ?_⟩⟩
        rw [show -(iI (X i)) = iI (-(X i)) from (Int32.ofInt_neg _).symm, iI_l ⟨by omega, by omega⟩]
        refine sp_mod9 p1 hp ⟨by omega, by omega⟩ ⟨vi (by omega) (by omega), fun S6 e6 y ey => go _ lt ?_ S6 e6 y ey⟩
        rw [hr]; simp only [if_pos j0]
        rw [t2, Int.neg_mul, Int.one_mul]
      · refine ⟨fun _ => ⟨vi (by omega) (by omega), ?_⟩, fun q => absurd q t1⟩
        rw [iI_l ⟨by omega, by omega⟩]
        refine sp_mod9 p1 hp ⟨by omega, by omega⟩ ⟨vi (by omega) (by omega), fun S6 e6 y ey => go _ lt ?_ S6 e6 y ey⟩
        rw [hr]; simp only [if_pos j0]
        rw [t2, Int.one_mul]
    · rw [ey, nI_1]
      refine ih S5 ?_
      rw [e5, fl_upd i (fun i => if i < 2 ^ n then iI (r i) else 0) _ (by simp only [if_neg nlt])]
