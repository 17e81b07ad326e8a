/-! how many are needed at most: leads and their products with letters -/
theorem bd_1 : ∀ j, j < 4 → ∀ l, l < 256 → 2 ^ j &&& l = 0 → (l ||| 2 ^ j) ^^^ 2 ^ j = l ∧ 2 ^ j &&& (l ||| 2 ^ j) = 2 ^ j := by decide +kernel
theorem bd_2 : ∀ j, j < 4 → ∀ l, l < 256 → 2 ^ j &&& l = 0 → (sg (2 ^ j) l = 1 ∨ sg (2 ^ j) l = -1) := by decide +kernel
theorem bd_3 : ∀ j, j < 4 → ∀ l, l < 256 → 2 ^ j &&& l = 0 → l ||| 2 ^ j = l ^^^ 2 ^ j ∧ l ||| 2 ^ j = l + 2 ^ j := by decide +kernel
theorem bd_4 : ∀ j, j < 4 → ∀ l, l < 256 → 2 ^ j &&& l = 2 ^ j → (l ^^^ 2 ^ j) + 2 ^ j = l := by decide +kernel
theorem ld_up {p n t : Nat} {N : Vc → Prop} {hd hd2 : Nat → Prop} {R R2 : Nat → Vc} (hp : isP p) (hn2 : 2 ≤ n) (hn : n ≤ 4) (ht : t * 2 ^ n ≤ 256) (h : RB p (t * 2 ^ n) 0 N hd R) (h2 : RB p (t * 2 ^ n) 0 (LMs p n (t * 2 ^ n) N) hd2 R2) {l j : Nat} (hj : j < n) (hl : hd l) (h0 : 2 ^ j &&& l = 0) : hd2 (l ||| 2 ^ j) := by
  obtain ⟨g1, g2, g3, g4, g5, g6⟩ := h.1 l hl
  obtain ⟨a1, a2⟩ := bd_1 j (by omega) l (by omega) h0
  obtain ⟨b1, b2⟩ := bd_3 j (by omega) l (by omega) h0
  have hlt : l ||| 2 ^ j < t * 2 ^ n := by rw [b1]; exact blk_xor (by omega) hn2 hj (by omega) g1
  refine h2.lead (LMs_Sub p n _ N) (LMs_gen hj g2) hlt ?_ (fun i hi q => ?_)
  · unfold pl
    rw [if_pos a2, a1, g3, Int.mul_one]
    rcases bd_2 j (by omega) l (by omega) h0 with e | e
    · rw [e]; exact not_dvd_one hp.pos.1
    · rw [e]; intro z; exact not_dvd_one hp.pos.1 (by have := Int.dvd_neg.mpr z; exact this)
  · have q' : i < l ||| 2 ^ j := q
    unfold pl
    by_cases z : 2 ^ j &&& i = 2 ^ j
    · rw [if_pos z]
      have := bd_4 j (by omega) i (by omega) z
      rw [g5 _ (by omega) (by show i ^^^ 2 ^ j < l; omega), Int.mul_zero]; exact Int.dvd_zero _
    · rw [if_neg z]; exact Int.dvd_zero _
def c1 (b : Bool) : Nat := if b then 1 else 0
theorem bl_2 : ∀ b0 b1 b2 b3 : Bool, (b0 → b1) → (b0 → b2) → (b1 → b3) → (b2 → b3) → c1 b0 + c1 b1 + c1 b2 + c1 b3 ≤ c1 b0 + c1 b0 + c1 (b1 || b2) + 2 := by decide
theorem bl_3 : ∀ b0 b1 b2 b3 b4 b5 b6 b7 : Bool, ((b0 → (b1 && b2 && b4)) ∧ (b1 → (b3 && b5)) ∧ (b2 → (b3 && b6)) ∧ (b4 → (b5 && b6)) ∧ (b3 → b7) ∧ (b5 → b7) ∧ (b6 → b7)) →
    c1 b0 + c1 b1 + c1 b2 + c1 b3 + c1 b4 + c1 b5 + c1 b6 + c1 b7 ≤ c1 b0 + c1 b0 + c1 b0 + c1 (b1 || b2) + c1 (b1 || b4) + c1 (b2 || b4) + c1 (b3 || b5 || b6) + 3 ∧
    (c1 b0 + c1 b1 + c1 b2 + c1 b3 + c1 b4 + c1 b5 + c1 b6 + c1 b7 = c1 b0 + c1 b0 + c1 b0 + c1 (b1 || b2) + c1 (b1 || b4) + c1 (b2 || b4) + c1 (b3 || b5 || b6) + 3 → (c1 b0 + c1 b1 + c1 b2 + c1 b3 + c1 b4 + c1 b5 + c1 b6 + c1 b7) % 3 = 1) := by
  intro b0 b1 b2 b3 b4
  cases b0 <;> cases b1 <;> cases b2 <;> cases b3 <;> cases b4 <;> decide
theorem c1_le {P Q : Prop} (h : P → Q) : c1 (isB P) ≤ c1 (isB Q) := by
  unfold c1
  by_cases p : P
  · rw [if_pos (isB_t.mpr p), if_pos (isB_t.mpr (h p))]; exact Nat.le_refl _
  · rw [if_neg (by rw [isB_t]; exact p)]; exact Nat.zero_le _
theorem cnt_4 (P : Nat → Prop) : cnt P 4 = c1 (isB (P 0)) + c1 (isB (P 1)) + c1 (isB (P 2)) + c1 (isB (P 3)) := by
  show 0 + _ + _ + _ + _ = _
  rw [Nat.zero_add]; rfl
theorem cnt_8 (P : Nat → Prop) : cnt P 8 = c1 (isB (P 0)) + c1 (isB (P 1)) + c1 (isB (P 2)) + c1 (isB (P 3)) + c1 (isB (P 4)) + c1 (isB (P 5)) + c1 (isB (P 6)) + c1 (isB (P 7)) := by
  show 0 + _ + _ + _ + _ + _ + _ + _ + _ = _
  rw [Nat.zero_add]; rfl
theorem isB_or (P Q : Prop) : (isB P || isB Q) = isB (P ∨ Q) := by
  by_cases p : P <;> by_cases q : Q <;> simp [isB, p, q]
/-- one block: P its leads, Q those of its products -/
theorem blk_2 {P Q : Nat → Prop} (h : ∀ c, c < 4 → ∀ j, j < 2 → P c → 2 ^ j &&& c = 0 → Q (c ||| 2 ^ j)) (hq : ∀ c, c < 4 → Q c → P c) : cnt P 4 ≤ cnt Q 4 + 2 := by
  have up : ∀ c, c < 4 → ∀ j, j < 2 → P c → 2 ^ j &&& c = 0 → P (c ||| 2 ^ j) := fun c hc j hj a b => hq _ (Nat.or_lt_two_pow (n := 2) hc (Nat.pow_lt_pow_right (by omega) hj)) (h c hc j hj a b)
  have e := bl_2 (isB (P 0)) (isB (P 1)) (isB (P 2)) (isB (P 3)) (fun q => isB_t.mpr (up 0 (by omega) 0 (by omega) (isB_t.mp q) rfl)) (fun q => isB_t.mpr (up 0 (by omega) 1 (by omega) (isB_t.mp q) rfl)) (fun q => isB_t.mpr (up 1 (by omega) 1 (by omega) (isB_t.mp q) rfl)) (fun q => isB_t.mpr (up 2 (by omega) 0 (by omega) (isB_t.mp q) rfl))
  rw [cnt_4, cnt_4]
  rw [isB_or] at e
  have h1 : c1 (isB (P 0)) ≤ c1 (isB (Q 1)) := c1_le (fun q => h 0 (by omega) 0 (by omega) q rfl)
  have h2 : c1 (isB (P 0)) ≤ c1 (isB (Q 2)) := c1_le (fun q => h 0 (by omega) 1 (by omega) q rfl)
  have h3 : c1 (isB (P 1 ∨ P 2)) ≤ c1 (isB (Q 3)) := c1_le (fun q => by
    rcases q with q | q
    · exact h 1 (by omega) 1 (by omega) q rfl
    · exact h 2 (by omega) 0 (by omega) q rfl)
  omega
theorem blk_3 {P Q : Nat → Prop} (h : ∀ c, c < 8 → ∀ j, j < 3 → P c → 2 ^ j &&& c = 0 → Q (c ||| 2 ^ j)) (hq : ∀ c, c < 8 → Q c → P c) : cnt P 8 ≤ cnt Q 8 + 3 ∧ (cnt P 8 = cnt Q 8 + 3 → cnt P 8 % 3 = 1) := by
  have up : ∀ c, c < 8 → ∀ j, j < 3 → P c → 2 ^ j &&& c = 0 → P (c ||| 2 ^ j) := fun c hc j hj a b => hq _ (Nat.or_lt_two_pow (n := 3) hc (Nat.pow_lt_pow_right (by omega) hj)) (h c hc j hj a b)
  have t : ∀ {A : Prop}, A → isB A = true := fun a => isB_t.mpr a
  have e := bl_3 (isB (P 0)) (isB (P 1)) (isB (P 2)) (isB (P 3)) (isB (P 4)) (isB (P 5)) (isB (P 6)) (isB (P 7))
    ⟨fun q => by rw [t (A := P 1) (up 0 (by omega) 0 (by omega) (isB_t.mp q) rfl), t (A := P 2) (up 0 (by omega) 1 (by omega) (isB_t.mp q) rfl), t (A := P 4) (up 0 (by omega) 2 (by omega) (isB_t.mp q) rfl)]; rfl,
     fun q => by rw [t (A := P 3) (up 1 (by omega) 1 (by omega) (isB_t.mp q) rfl), t (A := P 5) (up 1 (by omega) 2 (by omega) (isB_t.mp q) rfl)]; rfl,
     fun q => by rw [t (A := P 3) (up 2 (by omega) 0 (by omega) (isB_t.mp q) rfl), t (A := P 6) (up 2 (by omega) 2 (by omega) (isB_t.mp q) rfl)]; rfl,
     fun q => by rw [t (A := P 5) (up 4 (by omega) 0 (by omega) (isB_t.mp q) rfl), t (A := P 6) (up 4 (by omega) 1 (by omega) (isB_t.mp q) rfl)]; rfl,
     fun q => t (A := P 7) (up 3 (by omega) 2 (by omega) (isB_t.mp q) rfl), fun q => t (A := P 7) (up 5 (by omega) 1 (by omega) (isB_t.mp q) rfl), fun q => t (A := P 7) (up 6 (by omega) 0 (by omega) (isB_t.mp q) rfl)⟩
  rw [cnt_8, cnt_8]
  rw [isB_or, isB_or, isB_or, isB_or, isB_or] at e
  have h1 : c1 (isB (P 0)) ≤ c1 (isB (Q 1)) := c1_le (fun q => h 0 (by omega) 0 (by omega) q rfl)
  have h2 : c1 (isB (P 0)) ≤ c1 (isB (Q 2)) := c1_le (fun q => h 0 (by omega) 1 (by omega) q rfl)
  have h4 : c1 (isB (P 0)) ≤ c1 (isB (Q 4)) := c1_le (fun q => h 0 (by omega) 2 (by omega) q rfl)
  have h3 : c1 (isB (P 1 ∨ P 2)) ≤ c1 (isB (Q 3)) := c1_le (fun q => by
    rcases q with q | q
    · exact h 1 (by omega) 1 (by omega) q rfl
    · exact h 2 (by omega) 0 (by omega) q rfl)
  have h5 : c1 (isB (P 1 ∨ P 4)) ≤ c1 (isB (Q 5)) := c1_le (fun q => by
    rcases q with q | q
    · exact h 1 (by omega) 2 (by omega) q rfl
    · exact h 4 (by omega) 0 (by omega) q rfl)
  have h6 : c1 (isB (P 2 ∨ P 4)) ≤ c1 (isB (Q 6)) := c1_le (fun q => by
    rcases q with q | q
    · exact h 2 (by omega) 2 (by omega) q rfl
    · exact h 4 (by omega) 1 (by omega) q rfl)
  have h7 : c1 (isB ((P 3 ∨ P 5) ∨ P 6)) ≤ c1 (isB (Q 7)) := c1_le (fun q => by
    rcases q with (q | q) | q
    · exact h 3 (by omega) 2 (by omega) q rfl
    · exact h 5 (by omega) 1 (by omega) q rfl
    · exact h 6 (by omega) 0 (by omega) q rfl)
  refine ⟨by omega, fun z => e.2 (by omega)⟩
theorem ctB_split (f : Nat → Bool) (a : Nat) : ∀ b, ctB f (a + b) = ctB f a + ctB (fun k => f (a + k)) b
  | 0 => rfl
  | b + 1 => by
    show ctB f (a + b) + (if f (a + b) then 1 else 0) = ctB f a + (ctB (fun k => f (a + k)) b + (if f (a + b) then 1 else 0))
    rw [ctB_split f a b, Nat.add_assoc]
theorem blk_or : ∀ n, n < 4 → 2 ≤ n → ∀ b, b < 32 → ∀ c, c < 2 ^ n → ∀ j, j < n → b * 2 ^ n < 256 → 2 ^ j &&& c = 0 → (2 ^ j &&& (b * 2 ^ n + c) = 0 ∧ (b * 2 ^ n + c) ||| 2 ^ j = b * 2 ^ n + (c ||| 2 ^ j)) := by
  intro n hn hn2
  have h : n = 2 ∨ n = 3 := by omega
  rcases h with rfl | rfl
  · have t : ∀ b, b < 32 → ∀ c, c < 4 → ∀ j, j < 2 → 2 ^ j &&& c = 0 → 2 ^ j &&& (b * 4 + c) = 0 := by decide +kernel
    have t2 : ∀ b, b < 32 → ∀ c, c < 4 → ∀ j, j < 2 → 2 ^ j &&& c = 0 → (b * 4 + c) ||| 2 ^ j = b * 4 + (c ||| 2 ^ j) := by decide +kernel
    exact fun b hb c hc j hj _ h0 => ⟨t b hb c hc j hj h0, t2 b hb c hc j hj h0⟩
  · have t : ∀ b, b < 32 → ∀ c, c < 8 → ∀ j, j < 3 → 2 ^ j &&& c = 0 → 2 ^ j &&& (b * 8 + c) = 0 := by decide +kernel
    have t2 : ∀ b, b < 32 → ∀ c, c < 8 → ∀ j, j < 3 → 2 ^ j &&& c = 0 → (b * 8 + c) ||| 2 ^ j = b * 8 + (c ||| 2 ^ j) := by decide +kernel
    exact fun b hb c hc j hj _ h0 => ⟨t b hb c hc j hj h0, t2 b hb c hc j hj h0⟩
/-- the bound for rows of t elements -/
theorem ld_bd {p n t : Nat} {N : Vc → Prop} {hd hd2 : Nat → Prop} {R R2 : Nat → Vc} (hp : isP p) (hn2 : 2 ≤ n) (hn : n ≤ 3) (ht : t * 2 ^ n ≤ 128) (hN : Sub p (t * 2 ^ n) N) (hc : cloL n N) (h : RB p (t * 2 ^ n) 0 N hd R) (h2 : RB p (t * 2 ^ n) 0 (LMs p n (t * 2 ^ n) N) hd2 R2) :
    cnt hd (t * 2 ^ n) ≤ cnt hd2 (t * 2 ^ n) + n * t ∧ (n = 3 → cnt hd (t * 2 ^ n) = cnt hd2 (t * 2 ^ n) + 3 * t → cnt hd (t * 2 ^ n) % 3 = t % 3) := by
  have h16 := pow_n (show n ≤ 4 by omega)
  have down : ∀ l, hd2 l → hd l := fun l hl => by
    obtain ⟨g1, g2, g3, g4, g5, g6⟩ := h2.1 l hl
    exact h.lead hN (LMs_in hN hc g2) g1 (by rw [g3]; exact not_dvd_one hp.pos.1) (fun i hi q => by rw [g5 i hi q]; exact Int.dvd_zero _)
  have ht32 : t ≤ 32 := by
    have : n = 2 ∨ n = 3 := by omega
    rcases this with rfl | rfl <;> omega
  have key : ∀ k, k ≤ t → cnt hd (k * 2 ^ n) ≤ cnt hd2 (k * 2 ^ n) + n * k ∧ (n = 3 → cnt hd (k * 2 ^ n) = cnt hd2 (k * 2 ^ n) + 3 * k → cnt hd (k * 2 ^ n) % 3 = k % 3) := by
    intro k
    induction k with
    | zero => intro _; rw [Nat.zero_mul]; exact ⟨Nat.zero_le _, fun _ _ => rfl⟩
    | succ k ih =>
      intro hk
      obtain ⟨i1, i2⟩ := ih (by omega)
      have e1 : cnt hd ((k + 1) * 2 ^ n) = cnt hd (k * 2 ^ n) + cnt (fun c => hd (k * 2 ^ n + c)) (2 ^ n) := by rw [Nat.succ_mul]; exact ctB_split _ _ _
      have e2 : cnt hd2 ((k + 1) * 2 ^ n) = cnt hd2 (k * 2 ^ n) + cnt (fun c => hd2 (k * 2 ^ n + c)) (2 ^ n) := by rw [Nat.succ_mul]; exact ctB_split _ _ _
      have hkw : (k + 1) * 2 ^ n ≤ t * 2 ^ n := Nat.mul_le_mul_right _ hk
      rw [Nat.succ_mul] at hkw
      have up : ∀ c, c < 2 ^ n → ∀ j, j < n → hd (k * 2 ^ n + c) → 2 ^ j &&& c = 0 → hd2 (k * 2 ^ n + (c ||| 2 ^ j)) := by
        intro c hc2 j hj hl h0
        obtain ⟨q1, q2⟩ := blk_or n (by omega) hn2 k (by omega) c hc2 j hj (by omega) h0
        rw [← q2]
        exact ld_up hp hn2 (by omega) (by omega) h h2 hj hl q1
      have hn' : n = 2 ∨ n = 3 := by omega
      rcases hn' with rfl | rfl
      · have b := blk_2 (P := fun c => hd (k * 2 ^ 2 + c)) (Q := fun c => hd2 (k * 2 ^ 2 + c)) (fun c hc2 j hj => up c hc2 j hj) (fun c _ q => down _ q)
        rw [e1, e2]
        refine ⟨?_, fun q => absurd q (by decide)⟩
        show _ + cnt _ 4 ≤ _ + cnt _ 4 + _
        omega
      · have b := blk_3 (P := fun c => hd (k * 2 ^ 3 + c)) (Q := fun c => hd2 (k * 2 ^ 3 + c)) (fun c hc2 j hj => up c hc2 j hj) (fun c _ q => down _ q)
        rw [e1, e2]
        have i2' := i2 rfl
        refine ⟨?_, fun _ => ?_⟩
        · show _ + cnt _ 8 ≤ _ + cnt _ 8 + _
          omega
        · show _ + cnt _ 8 = _ + cnt _ 8 + _ → (_ + cnt _ 8) % 3 = _
          intro z
          have z1 := b.2 (by omega)
          have z2 := i2' (by omega)
          omega
  exact key t (Nat.le_refl _)
/-- what is told, and what comes to nothing, are as many as there are places -/
theorem rank_null {p n w t : Nat} {M : Vc → Prop} {g : Nat → Vc} {hd hd2 : Nat → Prop} {R R2 : Nat → Vc} (hp : isP p) (hn2 : 2 ≤ n) (hn : n ≤ 4) (hw : w ≤ 256) (ht : t * 2 ^ n ≤ 256) (hM : Sub p w M) (hc : cloL n M) (G : Mg p n w M t g) (h : RB p w 0 M hd R) (h2 : RB p (t * 2 ^ n) 0 (Sz p n w t g) hd2 R2) : cnt hd w + cnt hd2 (t * 2 ^ n) = t * 2 ^ n := by
  have hf := cmb_Lin p n t w g
  have hT := all_Sub p (t * 2 ^ n)
  have hG := Gr_Sub hT hf
  obtain ⟨hd3, R3, h3⟩ := RB.exists hp hG
  have hE := emb_Lin hf
  have e1 : cnt hd3 (w + t * 2 ^ n) = t * 2 ^ n := by
    refine Eq.trans ?_ (cnt_all (t * 2 ^ n))
    refine Nat.le_antisymm (CB.le hp hG h3.CB (all_CB p (t * 2 ^ n)) (sh_Lin p w (t * 2 ^ n)) (fun _ _ => trivial) (fun z hz hz0 => ?_)) (CB.le hp hT (all_CB p (t * 2 ^ n)) h3.CB hE (fun x _ => emb_Gr (U := fun _ => True) trivial) (fun x _ hx0 i hi => ?_))
    · intro i hi
      by_cases q : i < w
      · exact dvd_cong (hz.1 i q) (hf.dvd hz0 q)
      · have := hz0 (i - w) (by omega)
        unfold sh at this
        rwa [show w + (i - w) = i by omega] at this
    · have := hx0 (w + i) (by omega)
      unfold emb at this
      rwa [if_neg (by omega), Nat.add_sub_cancel_left] at this
  have e2 : cnt hd3 (w + t * 2 ^ n) = cnt hd3 w + cnt (fun l => hd3 (w + l)) (t * 2 ^ n) := ctB_split _ _ _
  have k1 := (Ker_RB hf h3).cong (V' := Sz p n w t g) (fun v => ⟨fun q => q.2, fun q => ⟨trivial, q⟩⟩)
  have e3 := CB.same hp (Sz_Sub p n w t g) k1.CB h2.CB
  -- the first parts
  have f1 : RB p w 0 M (fun l => l < w ∧ hd3 l) R3 := by
    refine ⟨fun l hl => ?_, fun v hv hz i hi => ?_⟩
    · obtain ⟨g1, g2, g3, g4, g5, g6⟩ := h3.1 l hl.2
      refine ⟨hl.1, hM.2.2.2 _ _ (fun i hi => ?_) (cmb_in hn hw hM hc G.1 (sh w (R3 l))), g3, fun i hi => g4 i (by omega), fun i hi q => g5 i (by omega) q, fun l' hl' q => g6 l' hl'.2 q⟩
      have := Int.dvd_neg.mpr (g2.1 i hi)
      rwa [Int.neg_sub] at this
    · obtain ⟨x, hx⟩ := G.tell hn2 hn hw ht hM hc hv
      have key : ∀ k, ∃ u, Gr p w (fun _ => True) (cmb n t g) u ∧ (∀ i, i < w → u i = emb w (cmb n t g) x i) ∧ ∀ l, l < k → hd3 l → w ≤ l → (p : Int) ∣ u l := by
        intro k
        induction k with
        | zero => exact ⟨emb w (cmb n t g) x, emb_Gr trivial, fun _ _ => rfl, fun l q => by omega⟩
        | succ k ih =>
          obtain ⟨u, u1, u2, u3⟩ := ih
          by_cases q : hd3 k ∧ w ≤ k
          · obtain ⟨g1, g2, g3, g4, g5, g6⟩ := h3.1 k q.1
            refine ⟨fun i => u i - u k * R3 k i, hG.lc (u k) u1 g2, fun i hi => ?_, fun l hlk hl hwl => ?_⟩
            · show u i - u k * R3 k i = _
              rw [g5 i (by omega) (by show i < k; omega), Int.mul_zero, Int.sub_zero]; exact u2 i hi
            · show (p : Int) ∣ u l - u k * R3 k l
              by_cases e : l = k
              · rw [e, g3, Int.mul_one, Int.sub_self]; exact Int.dvd_zero _
              · rw [g6 l hl e, Int.mul_zero, Int.sub_zero]; exact u3 l (by omega) hl hwl
          · exact ⟨u, u1, u2, fun l hlk hl hwl => u3 l (by rcases Nat.lt_or_ge l k with z | z; exact z; exact absurd (show l = k by omega) (fun e => q ⟨e ▸ hl, e ▸ hwl⟩)) hl hwl⟩
      obtain ⟨u, u1, u2, u3⟩ := key (w + t * 2 ^ n)
      have ev : ∀ i, i < w → (p : Int) ∣ v i - u i := fun i hi => by
        rw [u2 i hi]
        unfold emb
        rw [if_pos hi]
        exact hx i hi
      have z := h3.2 u u1 (fun l hl => by
        by_cases q : l < w
        · have h1 := Int.dvd_sub (hz l ⟨q, hl⟩) (ev l q)
          rwa [show v l - (v l - u l) = u l by omega] at h1
        · exact u3 l (h3.1 l hl).1 hl (by omega)) i (by omega)
      exact dvd_cong (ev i hi) z
  have e4 := CB.same hp hM f1.CB h.CB
  have e5 : cnt (fun l => l < w ∧ hd3 l) w = cnt hd3 w := ctB_cong (fun l hl => by congr 1; exact propext ⟨fun q => q.2, fun q => ⟨hl, q⟩⟩)
  omega
/-- with at most three letters: no more than eight relations are needed, and they have room -/
theorem rel_bd {p n t : Nat} {M : Vc → Prop} {g : Nat → Vc} {hM1 hL1 hN hLN : Nat → Prop} {R1 R2 R3 R4 : Nat → Vc} (hp : isP p) (hn2 : 2 ≤ n) (hn : n ≤ 3) (ht4 : t ≤ 4) (hM : Sub p (2 ^ n) M) (hc : cloL n M) (G : Mg p n (2 ^ n) M t g) (h1 : RB p (2 ^ n) 0 M hM1 R1) (h2 : RB p (2 ^ n) 0 (LMs p n (2 ^ n) M) hL1 R2) (hcnt : cnt hM1 (2 ^ n) = cnt hL1 (2 ^ n) + t)
    (h3 : RB p (t * 2 ^ n) 0 (Sz p n (2 ^ n) t g) hN R3) (h4 : RB p (t * 2 ^ n) 0 (LMs p n (t * 2 ^ n) (Sz p n (2 ^ n) t g)) hLN R4) : cnt hN (t * 2 ^ n) ≤ cnt hLN (t * 2 ^ n) + 8 := by
  have h8 : 2 ^ n ≤ 8 ∧ 0 < 2 ^ n := by
    have : n = 2 ∨ n = 3 := by omega
    rcases this with rfl | rfl <;> decide
  have htw : t * 2 ^ n ≤ 32 := by have := Nat.mul_le_mul ht4 h8.1; omega
  have b1 := ld_bd (t := 1) hp hn2 hn (by omega) (by rw [Nat.one_mul]; exact hM) hc (by rw [Nat.one_mul]; exact h1) (by rw [Nat.one_mul]; exact h2)
  rw [Nat.one_mul] at b1
  have b2 := ld_bd (t := t) hp hn2 hn (by omega) (Sz_Sub p n (2 ^ n) t g) (Sz_clo hn2 (by omega) (by omega) (by omega)) h3 h4
  have rn := rank_null hp hn2 (by omega) (by omega) (by omega) hM hc G h1 h3
  have hn' : n = 2 ∨ n = 3 := by omega
  rcases hn' with rfl | rfl
  · omega
  · have t3 : t ≤ 3 := by omega
    have b1' := b1.2 rfl
    have b2' := b2.2 rfl
    have : t = 3 ∨ t ≤ 2 := by omega
    rcases this with e | e
    · apply Nat.le_of_not_lt
      intro q
      have z1 := b1' (by omega)
      have z2 := b2' (by omega)
      rw [e] at rn z2 q b2
      omega
    · omega
