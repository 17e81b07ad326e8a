/-! rows that come to nothing with those taken: they do not hang on which are taken -/
def Sz (p n w t : Nat) (g : Nat → Vc) : Vc → Prop := fun x => V0 p w (cmb n t g x)
theorem Sz_Sub (p n w t : Nat) (g : Nat → Vc) : Sub p (t * 2 ^ n) (Sz p n w t g) := Sub.pre (U := V0 p w) (cmb_Lin p n t w g) (V0_sub p w)
theorem V0_clo {p n w : Nat} (hn : n ≤ 4) (hw : w ≤ 256) : cloL n (V0 p w) := by
  intro l hl x hx
  have hP := pl_Lin p (pow_l (l := l) (by omega)).1 hw
  exact fun i hi => hP.dvd hx hi
theorem Sz_clo {p n w t : Nat} {g : Nat → Vc} (hn2 : 2 ≤ n) (hn : n ≤ 4) (hw : w ≤ 256) (ht : t * 2 ^ n ≤ 256) : cloL n (Sz p n w t g) := by
  intro l hl x hx i hi
  rw [cmb_l hn2 hn ht hl (by omega)]
  exact V0_clo hn hw l hl _ hx i hi
theorem sI_split (f : Nat → Int) (a : Nat) : ∀ b, sI f (a + b) = sI f a + sI (fun k => f (a + k)) b
  | 0 => by simp [sI]
  | b + 1 => by
    show sI f (a + b) + f (a + b) = sI f a + (sI (fun k => f (a + k)) b + f (a + b))
    rw [sI_split f a b]; omega
theorem sI_blk (W : Nat) (hW : 0 < W) (f : Nat → Int) (h : ∀ j, ¬ j % W = 0 → f j = 0) : ∀ t, sI f (t * W) = sI (fun i => f (i * W)) t
  | 0 => by simp [sI]
  | t + 1 => by
    rw [Nat.succ_mul, sI_split, sI_blk W hW f h t]
    show _ = sI (fun i => f (i * W)) t + f (t * W)
    congr 1
    rw [sI_one hW (fun k hk q => h _ (by rw [Nat.mul_add_mod_self_right, Nat.mod_eq_of_lt hk]; exact q)), Nat.add_zero]
/-- with rows none of which is without need, nothing of degree 0 -/
theorem Sz_D {p n w t : Nat} {M : Vc → Prop} {h : Nat → Vc} (hp : isP p) (hn2 : 2 ≤ n) (hn : n ≤ 4) (hw : w ≤ 256) (ht : t * 2 ^ n ≤ 256) (hM : Sub p w M) (hc : cloL n M) (H : Mg p n w M t h) {x : Vc} (hx : Sz p n w t h x) : Dk p n 1 (t * 2 ^ n) x := by
  have h16 := pow_n hn
  have hL := LMs_Sub p n w M
  obtain ⟨x1, hx1⟩ : ∃ x1 : Vc, x1 = fun j => if j % 2 ^ n = 0 then 0 else x j := ⟨_, rfl⟩
  have i1 : LMs p n w M (cmb n t h x1) := by
    refine hL.to (sum_in (u := fun j => if j % 2 ^ n = 0 then fun _ => 0 else pl (j % 2 ^ n) (h (j / 2 ^ n))) hL x1 (t * 2 ^ n) (fun j hj => ?_)) (fun c _ => ?_)
    · by_cases q : j % 2 ^ n = 0
      · simp only [if_pos q]; exact hL.1
      · simp only [if_neg q]
        have hm := Nat.mod_lt j h16.2
        obtain ⟨a1, a2, a3, a4, a5, a6, -⟩ := hl_N (j % 2 ^ n) (by omega) (by omega)
        have hMh : M (pl (j % 2 ^ n ^^^ 2 ^ hl (j % 2 ^ n)) (h (j / 2 ^ n))) := pl_clo hn hw hM hc (H.1 _ (blk_lt hj)) _ (by omega)
        exact hL.sgn (c := sg (2 ^ hl (j % 2 ^ n)) (j % 2 ^ n ^^^ 2 ^ hl (j % 2 ^ n))) (LMs_gen (hl_lt (by omega) hn hm) hMh) (fun i hi => pl_step (by omega) (by omega) (by omega) _)
    · refine sI_cong (fun j hj => ?_)
      by_cases q : j % 2 ^ n = 0
      · rw [hx1]; simp only [if_pos q, Int.zero_mul]
      · simp only [if_neg q]
  have i2 : LMs p n w M (fun c => sI (fun i => x (i * 2 ^ n) * h i c) t) := by
    refine hL.2.2.2 _ _ (fun c hc2 => ?_) (hL.2.2.1 (-1) _ i1)
    have e1 : sI (fun i => x (i * 2 ^ n) * h i c) t = cmb n t h (fun j => x j - x1 j) c := by
      unfold cmb
      rw [sI_blk (2 ^ n) h16.2 _ (fun j q => by rw [hx1]; simp only [if_neg q, Int.sub_self, Int.zero_mul])]
      refine sI_cong (fun i hi => ?_)
      rw [hx1]
      simp only [Nat.mul_mod_left, if_true, Int.sub_zero]
      rw [Nat.mul_div_cancel _ h16.2, pl_0 (by omega)]
    have e2 := (cmb_Lin p n t w h).1 (fun j => x j - x1 j) x1 c
    rw [show (fun j => x j - x1 j + x1 j) = x from funext fun j => by omega] at e2
    show (p : Int) ∣ -1 * cmb n t h x1 c - sI (fun i => x (i * 2 ^ n) * h i c) t
    rw [e1]
    have := Int.dvd_neg.mpr (hx c hc2)
    rwa [e2, show -(cmb n t h (fun j => x j - x1 j) c + cmb n t h x1 c) = -1 * cmb n t h x1 c - cmb n t h (fun j => x j - x1 j) c by omega] at this
  have i3 := H.ind hp t (Nat.le_refl _) (fun i => x (i * 2 ^ n)) i2
  intro c hc2 hd
  have h0 : c % 2 ^ n = 0 := by
    have tb : ∀ a, a < 16 → bcN a < 1 → a = 0 := by decide +kernel
    exact tb _ (by have := Nat.mod_lt c h16.2; omega) hd
  have := i3 (c / 2 ^ n) (blk_lt hc2)
  have hd2 := Nat.div_add_mod c (2 ^ n)
  rw [h0, Nat.add_zero, Nat.mul_comm] at hd2
  rwa [hd2] at this
/-- one that leaves of each degree what is of the next takes nothing else to nought -/
theorem unip {p n t : Nat} (hn2 : 2 ≤ n) (hn : n ≤ 4) (ht : t * 2 ^ n ≤ 256) {C : Nat → Vc} (hC : ∀ i, i < t → Dk p n 1 (t * 2 ^ n) (fun j => en n i j - C i j)) {k : Nat} {y : Vc} (hy : Dk p n k (t * 2 ^ n) y) : Dk p n (k + 1) (t * 2 ^ n) (fun j => y j - cmb n t C y j) := by
  have h1 := Dk_cmb hn2 hn ht (F := fun i j => en n i j - C i j) hC hy
  refine (Dk_Sub p n (k + 1) (t * 2 ^ n)).to h1 (fun c hc => ?_)
  have e : cmb n t (fun i j => en n i j - C i j) y c = cmb n t (en n) y c - cmb n t C y c := by
    unfold cmb
    rw [← sI_sub]
    refine sI_cong (fun j hj => ?_)
    have h16 := pow_n hn
    have hP := pl_Lin p (w := 256) (show j % 2 ^ n < 16 by have := Nat.mod_lt j h16.2; omega) (Nat.le_refl _)
    have e1 := hP.1 (fun a => en n (j / 2 ^ n) a - C (j / 2 ^ n) a) (C (j / 2 ^ n)) c
    rw [show (fun a => en n (j / 2 ^ n) a - C (j / 2 ^ n) a + C (j / 2 ^ n) a) = en n (j / 2 ^ n) from funext fun a => by omega] at e1
    rw [e1]; grind
  rw [e, cmb_en hn2 hn ht hc]
theorem choice_lt {t : Nat} {P : Nat → Vc → Prop} (h : ∀ i, i < t → ∃ x, P i x) : ∃ A : Nat → Vc, ∀ i, i < t → P i (A i) := by
  have h2 : ∀ i, ∃ x, i < t → P i x := fun i => by
    by_cases q : i < t
    · obtain ⟨x, hx⟩ := h i q; exact ⟨x, fun _ => hx⟩
    · exact ⟨fun _ => 0, fun z => absurd z q⟩
  exact ⟨fun i => Classical.choose (h2 i), fun i hi => Classical.choose_spec (h2 i) hi⟩
/-- two modules that are alike, told by rows: the rows that come to nothing are alike too -/
theorem iso {p n w w' t : Nat} {M M' : Vc → Prop} {g h : Nat → Vc} {ψ : Vc → Vc} (hp : isP p) (hn2 : 2 ≤ n) (hn : n ≤ 4) (hw : w ≤ 256) (hw' : w' ≤ 256) (ht : t * 2 ^ n ≤ 256) (hM : Sub p w M) (hc : cloL n M) (hM' : Sub p w' M') (hc' : cloL n M')
    (hψ : LL p n w w' M ψ) (hψm : ∀ x, M x → M' (ψ x)) (hψi : ∀ x, M x → V0 p w' (ψ x) → V0 p w x) (hψs : ∀ y, M' y → ∃ x, M x ∧ eqm p w' y (ψ x)) (G : Mg p n w M t g) (H : Mg p n w' M' t h) :
    ∃ α β : Vc → Vc, (LL p n (t * 2 ^ n) (t * 2 ^ n) (fun _ => True) α ∧ (∀ x, Sz p n w t g x → Sz p n w' t h (α x)) ∧ (∀ x, V0 p (t * 2 ^ n) (α x) → V0 p (t * 2 ^ n) x) ∧ ∀ y, Sz p n w' t h y → ∃ x, Sz p n w t g x ∧ eqm p (t * 2 ^ n) y (α x)) ∧
      (LL p n (t * 2 ^ n) (t * 2 ^ n) (fun _ => True) β ∧ (∀ x, Sz p n w' t h x → Sz p n w t g (β x)) ∧ ∀ x, V0 p (t * 2 ^ n) (β x) → V0 p (t * 2 ^ n) x) := by
  have h16 := pow_n hn
  obtain ⟨A, hA⟩ := choice_lt (t := t) (P := fun i x => eqm p w' (ψ (g i)) (cmb n t h x)) (fun i hi => H.tell hn2 hn hw' ht hM' hc' (hψm _ (G.1 i hi)))
  obtain ⟨B, hB⟩ := choice_lt (t := t) (P := fun i x => eqm p w' (h i) (ψ (cmb n t g x))) (fun i hi => by
    obtain ⟨x, x1, x2⟩ := hψs _ (H.1 i hi)
    obtain ⟨y, hy⟩ := G.tell hn2 hn hw ht hM hc x1
    exact ⟨y, x2.tr (hψ.1.2.2 _ _ hy)⟩)
  have Tt := all_Sub p (t * 2 ^ n)
  have Tc : cloL n (fun _ : Vc => True) := fun _ _ _ _ => trivial
  have La := cmb_LL (p := p) hn2 hn ht ht A
  have Lb := cmb_LL (p := p) hn2 hn ht ht B
  have Lg := cmb_LL (p := p) hn2 hn ht hw g
  have Lh := cmb_LL (p := p) hn2 hn ht hw' h
  have Mg_in : ∀ x, M (cmb n t g x) := fun x => cmb_in hn hw hM hc G.1 x
  -- through A
  have eA : ∀ x, eqm p w' (cmb n t h (cmb n t A x)) (ψ (cmb n t g x)) := fun x =>
    (LLcmb hn ht hw' Tt Tc Lh (fun i _ => trivial) x).tr ((cmb_fam hn hw' (fun i hi => (hA i hi).sy) x).tr (LLcmb hn hw hw' hM hc hψ G.1 x).sy)
  have eB : ∀ y, eqm p w' (ψ (cmb n t g (cmb n t B y))) (cmb n t h y) := fun y =>
    (hψ.1.2.2 _ _ (LLcmb hn ht hw Tt Tc Lg (fun i _ => trivial) y)).tr ((LLcmb hn hw hw' hM hc hψ (fun i _ => Mg_in (B i)) y).tr (cmb_fam hn hw' (fun i hi => (hB i hi).sy) y))
  have zψ : ∀ x, V0 p w x → V0 p w' (ψ x) := fun x hx i hi => hψ.1.dvd hx hi
  have V0t : ∀ {w : Nat} {x y : Vc}, eqm p w x y → V0 p w y → V0 p w x := fun e hy i hi => dvd_cong (e i hi) (hy i hi)
  have mapA : ∀ x, Sz p n w t g x → Sz p n w' t h (cmb n t A x) := fun x hx => V0t (eA x) (zψ _ hx)
  have mapB : ∀ y, Sz p n w' t h y → Sz p n w t g (cmb n t B y) := fun y hy => hψi _ (Mg_in _) (V0t (eB y) hy)
  have subD : ∀ {w : Nat} {x y : Vc}, eqm p w x y → V0 p w (fun i => x i - y i) := fun e i hi => e i hi
  -- A B and B A are one, but for what is of higher degree
  have dC : ∀ i, i < t → Dk p n 1 (t * 2 ^ n) (fun j => en n i j - cmb n t A (B i) j) := by
    intro i hi
    refine Sz_D hp hn2 hn hw' ht hM' hc' H (x := fun j => en n i j - cmb n t A (B i) j) ?_
    have e1 : eqm p w' (cmb n t h (en n i)) (cmb n t h (cmb n t A (B i))) := ((eqm.of (fun c hc => cmb_unit hn hi (by omega) h)).tr (hB i hi)).tr (eA (B i)).sy
    intro c hcw
    have e2 := (cmb_Lin p n t w' h).1 (fun j => en n i j - cmb n t A (B i) j) (cmb n t A (B i)) c
    rw [show (fun j => en n i j - cmb n t A (B i) j + cmb n t A (B i) j) = en n i from funext fun j => by omega] at e2
    have e3 := e1 c hcw
    rwa [e2, Int.add_sub_cancel] at e3
  have dG : ∀ i, i < t → Dk p n 1 (t * 2 ^ n) (fun j => en n i j - cmb n t B (A i) j) := by
    intro i hi
    refine Sz_D hp hn2 hn hw ht hM hc G (x := fun j => en n i j - cmb n t B (A i) j) ?_
    have e1 : eqm p w' (ψ (cmb n t g (en n i))) (ψ (cmb n t g (cmb n t B (A i)))) := ((hψ.1.2.2 _ _ (eqm.of (fun c hc => cmb_unit hn hi (by omega) g))).tr (hA i hi)).tr (eB (A i)).sy
    have e2 : ∀ c, cmb n t g (fun j => en n i j - cmb n t B (A i) j) c = cmb n t g (en n i) c - cmb n t g (cmb n t B (A i)) c := fun c => by
      have e2 := (cmb_Lin p n t w g).1 (fun j => en n i j - cmb n t B (A i) j) (cmb n t B (A i)) c
      rw [show (fun j => en n i j - cmb n t B (A i) j + cmb n t B (A i) j) = en n i from funext fun j => by omega] at e2
      omega
    refine hψi _ (Mg_in _) (fun c hcw => ?_)
    have e3 := hψ.1.1 (cmb n t g (fun j => en n i j - cmb n t B (A i) j)) (cmb n t g (cmb n t B (A i))) c
    rw [show (fun j => cmb n t g (fun j => en n i j - cmb n t B (A i) j) j + cmb n t g (cmb n t B (A i)) j) = cmb n t g (en n i) from funext fun j => by rw [e2]; omega] at e3
    have e4 := e1 c hcw
    rwa [e3, Int.add_sub_cancel] at e4
  have AB : ∀ y, eqm p (t * 2 ^ n) (cmb n t A (cmb n t B y)) (cmb n t (fun i => cmb n t A (B i)) y) := fun y => LLcmb hn ht ht Tt Tc La (fun i _ => trivial) y
  have BA : ∀ y, eqm p (t * 2 ^ n) (cmb n t B (cmb n t A y)) (cmb n t (fun i => cmb n t B (A i)) y) := fun y => LLcmb hn ht ht Tt Tc Lb (fun i _ => trivial) y
  have inj : ∀ (P R : Nat → Vc), (∀ y, eqm p (t * 2 ^ n) (cmb n t P (cmb n t R y)) (cmb n t (fun i => cmb n t P (R i)) y)) → (∀ i, i < t → Dk p n 1 (t * 2 ^ n) (fun j => en n i j - cmb n t P (R i) j)) → ∀ x, V0 p (t * 2 ^ n) (cmb n t R x) → V0 p (t * 2 ^ n) x := by
    intro P R e1 e2 x hx
    have z1 : V0 p (t * 2 ^ n) (cmb n t (fun i => cmb n t P (R i)) x) := V0t (e1 x).sy (fun i hi => (cmb_Lin p n t (t * 2 ^ n) P).dvd hx hi)
    have key : ∀ k, Dk p n k (t * 2 ^ n) x := by
      intro k
      induction k with
      | zero => intro c _ q; omega
      | succ k ih =>
        refine (Dk_Sub p n (k + 1) (t * 2 ^ n)).2.2.2 _ _ (fun j hj => ?_) (unip hn2 hn ht e2 ih)
        have := Int.dvd_neg.mpr (z1 j hj)
        rwa [show -(cmb n t (fun i => cmb n t P (R i)) x j) = x j - cmb n t (fun i => cmb n t P (R i)) x j - x j by omega] at this
    exact Dk_all hn (key 5)
  refine ⟨cmb n t A, cmb n t B, ⟨La, mapA, inj B A BA dG, fun y hy => ?_⟩, Lb, mapB, inj A B AB dC⟩
  -- what is asked for
  have hS := Sz_Sub p n w' t h
  obtain ⟨f, hf⟩ : ∃ f : Vc → Vc, f = fun y => cmb n t A (cmb n t B y) := ⟨_, rfl⟩
  have hfL : Lin p (t * 2 ^ n) (t * 2 ^ n) f := by
    rw [hf]
    refine ⟨fun x y i => ?_, fun c x i => ?_, fun x y e => La.1.2.2 _ _ (Lb.1.2.2 x y e)⟩
    · show cmb n t A (cmb n t B (fun j => x j + y j)) i = _
      rw [show cmb n t B (fun j => x j + y j) = fun j => cmb n t B x j + cmb n t B y j from funext fun j => Lb.1.1 x y j, La.1.1]
    · show cmb n t A (cmb n t B (fun j => c * x j)) i = _
      rw [show cmb n t B (fun j => c * x j) = fun j => c * cmb n t B x j from funext fun j => Lb.1.2.1 c x j, La.1.2.1]
  have key : ∀ k, ∃ s r : Vc, Sz p n w' t h s ∧ Sz p n w' t h r ∧ Dk p n k (t * 2 ^ n) r ∧ eqm p (t * 2 ^ n) (fun j => f s j + r j) y := by
    intro k
    induction k with
    | zero => exact ⟨fun _ => 0, y, hS.1, hy, fun c _ q => by omega, eqm.of (fun j _ => by rw [hfL.zero]; omega)⟩
    | succ k ih =>
      obtain ⟨s, r, h1, h2, h3, h4⟩ := ih
      have hfr : Sz p n w' t h (f r) := by rw [hf]; exact mapA _ (mapB _ h2)
      refine ⟨fun j => s j + r j, fun j => r j - f r j, hS.2.1 _ _ h1 h2, hS.sub h2 hfr, ?_, (eqm.of (fun j _ => ?_)).tr h4⟩
      · refine (Dk_Sub p n (k + 1) (t * 2 ^ n)).2.2.2 _ _ (fun j hj => ?_) (unip hn2 hn ht dC h3)
        have := (AB r) j hj
        rw [hf]
        rwa [show cmb n t A (cmb n t B r) j - cmb n t (fun i => cmb n t A (B i)) r j = r j - cmb n t (fun i => cmb n t A (B i)) r j - (r j - cmb n t A (cmb n t B r) j) by omega] at this
      · show f (fun j => s j + r j) j + (r j - f r j) = f s j + r j
        rw [hfL.1]; omega
  obtain ⟨s, r, h1, h2, h3, h4⟩ := key 5
  have hz := Dk_all hn h3
  refine ⟨cmb n t B s, mapB s h1, fun j hj => ?_⟩
  have e1 := h4 j hj
  rw [hf] at e1
  have e2 := Int.dvd_neg.mpr (Int.dvd_sub e1 (hz j hj))
  rwa [show -(cmb n t A (cmb n t B s) j + r j - y j - r j) = y j - cmb n t A (cmb n t B s) j by omega] at e2
