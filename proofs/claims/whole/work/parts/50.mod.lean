/-! modules of rows of elements: sums of products from the left -/
theorem md_1 : ∀ n, n < 5 → 2 ≤ n → ∀ l, l < n → ∀ j, j < 256 → (j ^^^ 2 ^ l) / 2 ^ n = j / 2 ^ n ∧ (j ^^^ 2 ^ l) ^^^ 2 ^ l = j := by decide +kernel
theorem md_2 : ∀ n, n < 5 → 2 ≤ n → ∀ l, l < n → ∀ j, j < 256 → (2 ^ l &&& (j ^^^ 2 ^ l) = 2 ^ l ↔ 2 ^ l &&& (j % 2 ^ n) = 0) := by decide +kernel
theorem md_3 : ∀ n, n < 5 → 2 ≤ n → ∀ l, l < n → ∀ j, j < 256 → 2 ^ l &&& (j % 2 ^ n) = 0 → (j ^^^ 2 ^ l) % 2 ^ n = (j % 2 ^ n) ||| 2 ^ l := by decide +kernel
theorem md_4 : ∀ n, n < 5 → 2 ≤ n → ∀ l, l < n → ∀ j, j < 256 → sg (2 ^ l) j = sg (2 ^ l) (j % 2 ^ n) := by decide +kernel
theorem md_5 : ∀ n, n < 5 → 2 ≤ n → ∀ a, a < 2 ^ n → ∀ c, c < 256 → a &&& c = a → bcN (c % 2 ^ n) = bcN a + bcN ((c ^^^ a) % 2 ^ n) := by decide +kernel
theorem md_6 : ∀ n, n < 5 → 2 ≤ n → ∀ a, a < 2 ^ n → ∀ c, c < 256 → a &&& c = a → (c ^^^ a) / 2 ^ n = c / 2 ^ n := by decide +kernel
theorem md_7 : ∀ n, n < 5 → 2 ≤ n → ∀ a, a < 2 ^ n → ∀ c, c < 256 → a &&& c = a → c % 2 ^ n = (c ^^^ a) % 2 ^ n + a := by decide +kernel
theorem md_8 : ∀ n, n < 5 → 2 ≤ n → ∀ c, c < 256 → (c % 2 ^ n) &&& c = c % 2 ^ n ∧ c ^^^ (c % 2 ^ n) = c / 2 ^ n * 2 ^ n := by decide +kernel
theorem md_9 : ∀ n, n < 5 → 2 ≤ n → ∀ c, c < 256 → sg (c % 2 ^ n) (c / 2 ^ n * 2 ^ n) = 1 := by decide +kernel
theorem bit_blk : ∀ n, n < 5 → 2 ≤ n → ∀ l, l < n → ∀ j, j < 256 → (j ^^^ 2 ^ l) < (j / 2 ^ n + 1) * 2 ^ n := by decide +kernel
theorem blk_lt {n t j : Nat} (h : j < t * 2 ^ n) : j / 2 ^ n < t := by
  have := Nat.two_pow_pos n
  exact (Nat.div_lt_iff_lt_mul this).mpr h
theorem blk_xor {n t l j : Nat} (hn : n < 5) (hn2 : 2 ≤ n) (hl : l < n) (hj : j < 256) (h : j < t * 2 ^ n) : j ^^^ 2 ^ l < t * 2 ^ n := by
  have h1 := bit_blk n hn hn2 l hl j hj
  have h2 := blk_lt h
  have := Nat.mul_le_mul_right (2 ^ n) (show j / 2 ^ n + 1 ≤ t from h2)
  omega
/-- x0 g0, x1 g1, .. together -/
def cmb (n t : Nat) (g : Nat → Vc) (x : Vc) : Vc := fun c => sI (fun j => x j * pl (j % 2 ^ n) (g (j / 2 ^ n)) c) (t * 2 ^ n)
theorem cmb_Lin (p n t w : Nat) (g : Nat → Vc) : Lin p (t * 2 ^ n) w (cmb n t g) := by
  refine ⟨fun x y i => ?_, fun c x i => ?_, fun x y e i hi => ?_⟩
  · unfold cmb
    rw [← sI_add]
    exact sI_cong (fun k _ => Int.add_mul _ _ _)
  · unfold cmb
    rw [← sI_mul]
    exact sI_cong (fun k _ => Int.mul_assoc _ _ _)
  · refine sI_mod (fun k hk => ?_)
    rw [← Int.sub_mul]
    exact Int.dvd_mul_of_dvd_left (e k hk)
theorem cmb_fam {p n t w : Nat} (hn : n ≤ 4) (hw : w ≤ 256) {g g' : Nat → Vc} (h : ∀ i, i < t → eqm p w (g i) (g' i)) (x : Vc) : eqm p w (cmb n t g x) (cmb n t g' x) := by
  have h16 := pow_n hn
  intro c hc
  refine sI_mod (fun j hj => ?_)
  rw [← Int.mul_sub]
  refine Int.dvd_mul_of_dvd_right ?_
  exact (pl_Lin p (show j % 2 ^ n < 16 by have := Nat.mod_lt j h16.2; omega) hw).2.2 _ _ (h _ (blk_lt hj)) c hc
/-- a linear one takes sums to sums -/
theorem Lin.sum {p w w' : Nat} {f : Vc → Vc} (hf : Lin p w w' f) (x : Nat → Int) (u : Nat → Vc) : ∀ m k, f (fun c => sI (fun j => x j * u j c) m) k = sI (fun j => x j * f (u j) k) m
  | 0, k => hf.zero
  | m + 1, k => by
    show f (fun c => sI (fun j => x j * u j c) m + x m * u m c) k = _
    rw [hf.1 (fun c => sI (fun j => x j * u j c) m) (fun c => x m * u m c), hf.2.1, Lin.sum hf x u m k]; rfl
theorem sum_in {p w : Nat} {U : Vc → Prop} (hU : Sub p w U) {u : Nat → Vc} (x : Nat → Int) : ∀ m, (∀ j, j < m → U (u j)) → U (fun c => sI (fun j => x j * u j c) m)
  | 0, _ => hU.1
  | m + 1, h => hU.to (hU.2.1 _ _ (sum_in hU x m (fun j hj => h j (by omega))) (hU.2.2.1 (x m) _ (h m (by omega)))) (fun _ _ => rfl)
theorem cmb_l {n t l c : Nat} (hn2 : 2 ≤ n) (hn : n ≤ 4) (ht : t * 2 ^ n ≤ 256) (hl : l < n) (hc : c < 256) (g : Nat → Vc) (x : Vc) : cmb n t g (pl (2 ^ l) x) c = pl (2 ^ l) (cmb n t g x) c := by
  have h16 := pow_n hn
  have hl4 := pow_l (l := l) (by omega)
  have hm : ∀ j, j % 2 ^ n < 2 ^ n := fun j => Nat.mod_lt j h16.2
  have e1 : pl (2 ^ l) (cmb n t g x) c = sI (fun j => x j * pl (2 ^ l) (pl (j % 2 ^ n) (g (j / 2 ^ n))) c) (t * 2 ^ n) := (pl_Lin 1 hl4.1 (show 256 ≤ 256 by omega)).sum x (fun j => pl (j % 2 ^ n) (g (j / 2 ^ n))) (t * 2 ^ n) c
  rw [e1]
  unfold cmb
  rw [← sI_inv (σ := fun j => j ^^^ 2 ^ l) (fun j hj => ⟨blk_xor (by omega) hn2 hl (by omega) hj, (md_1 n (by omega) hn2 l hl j (by omega)).2⟩)]
  refine sI_cong (fun j hj => ?_)
  obtain ⟨q1, q2⟩ := md_1 n (by omega) hn2 l hl j (by omega)
  have q3 := md_2 n (by omega) hn2 l hl j (by omega)
  have hmj := hm j
  rw [pl_pl (by omega) (by omega) hc, q1]
  show (if 2 ^ l &&& (j ^^^ 2 ^ l) = 2 ^ l then sg (2 ^ l) ((j ^^^ 2 ^ l) ^^^ 2 ^ l) * x ((j ^^^ 2 ^ l) ^^^ 2 ^ l) else 0) * _ = _
  rw [q2]
  by_cases h : 2 ^ l &&& (j % 2 ^ n) = 0
  · rw [if_pos (q3.mpr h), if_pos h, md_3 n (by omega) hn2 l hl j (by omega) h, md_4 n (by omega) hn2 l hl j (by omega)]
    grind
  · rw [if_neg (fun q => h (q3.mp q)), if_neg h, Int.zero_mul, Int.mul_zero]
/-- closed under the letters from the left -/
def cloL (n : Nat) (U : Vc → Prop) : Prop := ∀ l, l < n → ∀ x, U x → U (pl (2 ^ l) x)
/-- linear, and letters go through it, on U -/
def LL (p n w w' : Nat) (U : Vc → Prop) (f : Vc → Vc) : Prop := Lin p w w' f ∧ ∀ l, l < n → ∀ x, U x → eqm p w' (f (pl (2 ^ l) x)) (pl (2 ^ l) (f x))
theorem eqm.tr {p w : Nat} {x y z : Vc} (a : eqm p w x y) (b : eqm p w y z) : eqm p w x z := fun i hi => by
  have := Int.dvd_add (a i hi) (b i hi)
  rwa [show x i - y i + (y i - z i) = x i - z i by omega] at this
theorem eqm.sy {p w : Nat} {x y : Vc} (a : eqm p w x y) : eqm p w y x := fun i hi => by
  have := Int.dvd_neg.mpr (a i hi)
  rwa [Int.neg_sub] at this
theorem eqm.of {p w : Nat} {x y : Vc} (h : ∀ i, i < w → x i = y i) : eqm p w x y := fun i hi => by rw [h i hi, Int.sub_self]; exact Int.dvd_zero _
theorem pl_step {a c : Nat} (ha : a < 16) (h0 : 0 < a) (hc : c < 256) (v : Vc) : pl a v c = sg (2 ^ hl a) (a ^^^ 2 ^ hl a) * pl (2 ^ hl a) (pl (a ^^^ 2 ^ hl a) v) c := by
  obtain ⟨a1, a2, a3, a4, a5, a6, -⟩ := hl_N a ha h0
  rw [pl_pl a1 (by omega) hc, if_pos a4, a5]
  rcases a6 with e | e <;> rw [e] <;> simp
theorem LLpl {p n w w' : Nat} {U : Vc → Prop} {f : Vc → Vc} (hn : n ≤ 4) (hw : w ≤ 256) (hw' : w' ≤ 256) (hU : Sub p w U) (hc : cloL n U) (hf : LL p n w w' U f) {x : Vc} (hx : U x) : ∀ a, a < 2 ^ n → eqm p w' (f (pl a x)) (pl a (f x)) := by
  intro a
  have h16 := pow_n hn
  induction a using Nat.strongRecOn with
  | ind a ih =>
    intro ha
    rcases Nat.eq_zero_or_pos a with h0 | h0
    · subst h0
      refine (hf.1.2.2 _ _ (eqm.of (fun i hi => pl_0 (by omega)))).tr (eqm.of (fun i hi => (pl_0 (by omega)).symm))
    · obtain ⟨a1, a2, a3, a4, a5, a6, -⟩ := hl_N a (by omega) h0
      have hlt := hl_lt h0 hn ha
      have hl4 := pow_l a1
      have hx' : U (pl (a ^^^ 2 ^ hl a) x) := pl_clo hn hw hU hc hx _ (by omega)
      have e1 := hf.1.2.2 (pl a x) (fun i => sg (2 ^ hl a) (a ^^^ 2 ^ hl a) * pl (2 ^ hl a) (pl (a ^^^ 2 ^ hl a) x) i) (eqm.of (fun i hi => pl_step (by omega) h0 (by omega) x))
      have e2 : eqm p w' (f (fun i => sg (2 ^ hl a) (a ^^^ 2 ^ hl a) * pl (2 ^ hl a) (pl (a ^^^ 2 ^ hl a) x) i)) (fun i => sg (2 ^ hl a) (a ^^^ 2 ^ hl a) * f (pl (2 ^ hl a) (pl (a ^^^ 2 ^ hl a) x)) i) := eqm.of (fun i _ => hf.1.2.1 _ _ i)
      have e3 := (hf.2 _ hlt _ hx').tr ((pl_Lin p hl4.1 hw').2.2 _ _ (ih _ a3 (by omega)))
      have e4 : eqm p w' (fun i => sg (2 ^ hl a) (a ^^^ 2 ^ hl a) * f (pl (2 ^ hl a) (pl (a ^^^ 2 ^ hl a) x)) i) (pl a (f x)) := by
        intro i hi
        rw [pl_step (by omega) h0 (by omega), ← Int.mul_sub]
        exact Int.dvd_mul_of_dvd_right (e3 i hi)
      exact e1.tr (e2.tr e4)
theorem cmb_LL {p n t w : Nat} (hn2 : 2 ≤ n) (hn : n ≤ 4) (ht : t * 2 ^ n ≤ 256) (hw : w ≤ 256) (g : Nat → Vc) : LL p n (t * 2 ^ n) w (fun _ => True) (cmb n t g) :=
  ⟨cmb_Lin p n t w g, fun l hl x _ => eqm.of (fun c hc => cmb_l hn2 hn ht hl (by omega) g x)⟩
/-- what lets letters through takes sums of products to sums of products -/
theorem LLcmb {p n t w w' : Nat} {U : Vc → Prop} {f : Vc → Vc} (hn : n ≤ 4) (hw : w ≤ 256) (hw' : w' ≤ 256) (hU : Sub p w U) (hc : cloL n U) (hf : LL p n w w' U f) {g : Nat → Vc} (hg : ∀ i, i < t → U (g i)) (x : Vc) : eqm p w' (f (cmb n t g x)) (cmb n t (fun i => f (g i)) x) := by
  have h16 := pow_n hn
  intro c hc2
  show (p : Int) ∣ f (fun c => sI (fun j => x j * pl (j % 2 ^ n) (g (j / 2 ^ n)) c) (t * 2 ^ n)) c - _
  rw [hf.1.sum x (fun j => pl (j % 2 ^ n) (g (j / 2 ^ n))) (t * 2 ^ n) c]
  refine sI_mod (fun j hj => ?_)
  rw [← Int.mul_sub]
  exact Int.dvd_mul_of_dvd_right (LLpl hn hw hw' hU hc hf (hg _ (blk_lt hj)) _ (Nat.mod_lt j h16.2) c hc2)
theorem cmb_in {p n t w : Nat} {U : Vc → Prop} (hn : n ≤ 4) (hw : w ≤ 256) (hU : Sub p w U) (hc : cloL n U) {g : Nat → Vc} (hg : ∀ i, i < t → U (g i)) (x : Vc) : U (cmb n t g x) := by
  have h16 := pow_n hn
  exact sum_in hU x (t * 2 ^ n) (fun j hj => pl_clo hn hw hU hc (hg _ (blk_lt hj)) _ (Nat.mod_lt j h16.2))
/-- the unit rows -/
def en (n i : Nat) : Vc := fun j => if j = i * 2 ^ n then 1 else 0
theorem pl_en {n j c : Nat} (hn2 : 2 ≤ n) (hn : n ≤ 4) (hj : j < 256) (hc : c < 256) : pl (j % 2 ^ n) (en n (j / 2 ^ n)) c = if j = c then 1 else 0 := by
  have h16 := pow_n hn
  have hm := Nat.mod_lt j h16.2
  have hd := Nat.div_add_mod j (2 ^ n)
  have hd2 := Nat.div_add_mod c (2 ^ n)
  unfold pl en
  by_cases e : j = c
  · subst e
    obtain ⟨q1, q2⟩ := md_8 n (by omega) hn2 j hj
    rw [if_pos q1, q2, if_pos rfl, md_9 n (by omega) hn2 j hj, if_pos rfl]; rfl
  · rw [if_neg e]
    by_cases q : (j % 2 ^ n) &&& c = j % 2 ^ n
    · rw [if_pos q]
      have h6 := md_6 n (by omega) hn2 _ hm c hc q
      have h7 := md_7 n (by omega) hn2 _ hm c hc q
      by_cases z : c ^^^ (j % 2 ^ n) = j / 2 ^ n * 2 ^ n
      · rw [z] at h6 h7
        rw [Nat.mul_div_cancel _ h16.2] at h6
        rw [Nat.mul_mod_left, Nat.zero_add] at h7
        rw [← h6, h7] at hd2
        exact absurd (hd.symm.trans hd2) e
      · rw [if_neg z, Int.mul_zero]
    · rw [if_neg q]
theorem cmb_en {n t c : Nat} (hn2 : 2 ≤ n) (hn : n ≤ 4) (ht : t * 2 ^ n ≤ 256) (hc : c < t * 2 ^ n) (y : Vc) : cmb n t (en n) y c = y c := by
  unfold cmb
  rw [sI_one hc (fun j hj q => by rw [pl_en hn2 hn (by omega) (by omega), if_neg q, Int.mul_zero]), pl_en hn2 hn (by omega) (by omega), if_pos rfl, Int.mul_one]
theorem cmb_unit {n t i c : Nat} (hn : n ≤ 4) (hi : i < t) (hc : c < 256) (g : Nat → Vc) : cmb n t g (en n i) c = g i c := by
  have h16 := pow_n hn
  unfold cmb en
  have hlt : i * 2 ^ n < t * 2 ^ n := Nat.mul_lt_mul_of_pos_right hi h16.2
  rw [sI_one hlt (fun j hj q => by rw [if_neg q, Int.zero_mul]), if_pos rfl, Int.one_mul, Nat.mul_mod_left, Nat.mul_div_cancel _ h16.2, pl_0 hc]
/-- letters times U, together -/
def LMs (p n w : Nat) (U : Vc → Prop) : Vc → Prop := SpF p w (fun y => ∃ l, l < n ∧ ∃ x, U x ∧ y = pl (2 ^ l) x)
theorem LMs_Sub (p n w : Nat) (U : Vc → Prop) : Sub p w (LMs p n w U) := SpF_sub _ _ _
theorem LMs_gen {p n w l : Nat} {U : Vc → Prop} {x : Vc} (hl : l < n) (hx : U x) : LMs p n w U (pl (2 ^ l) x) := SpF_gen ⟨l, hl, x, hx, rfl⟩
theorem LMs_in {p n w : Nat} {U : Vc → Prop} (hU : Sub p w U) (hc : cloL n U) {v : Vc} (h : LMs p n w U v) : U v := h U hU (by rintro y ⟨l, hl, x, hx, rfl⟩; exact hc l hl x hx)
theorem LMs_clo {p n w : Nat} {U : Vc → Prop} (hU : Sub p w U) (hc : cloL n U) : cloL n (LMs p n w U) := fun _ hl _ hx => LMs_gen hl (LMs_in hU hc hx)
theorem LMs_map {p n w w' : Nat} {U U' : Vc → Prop} {f : Vc → Vc} (hf : LL p n w w' U f) (hm : ∀ x, U x → U' (f x)) {v : Vc} (h : LMs p n w U v) : LMs p n w' U' (f v) := by
  have hS := LMs_Sub p n w' U'
  refine h _ (Sub.pre hf.1 hS) ?_
  rintro y ⟨l, hl, x, hx, rfl⟩
  exact hS.2.2.2 _ _ (hf.2 l hl x hx).sy (LMs_gen hl (hm x hx))
theorem LMs_mono {p n w : Nat} {U U' : Vc → Prop} (h : ∀ x, U x → U' x) {v : Vc} (hv : LMs p n w U v) : LMs p n w U' v := hv _ (LMs_Sub _ _ _ _) (by rintro y ⟨l, hl, x, hx, rfl⟩; exact LMs_gen hl (h x hx))
theorem LMs_cong {p n w : Nat} {U U' : Vc → Prop} (h : ∀ x, U x ↔ U' x) (v : Vc) : LMs p n w U v ↔ LMs p n w U' v := ⟨LMs_mono (fun x => (h x).mp), LMs_mono (fun x => (h x).mpr)⟩
/-- sums of multiples of h 0 .. h (k - 1), modulo L -/
def CS (L : Vc → Prop) (h : Nat → Vc) (k : Nat) : Vc → Prop := fun v => ∃ c : Nat → Int, L (fun i => v i - sI (fun j => c j * h j i) k)
theorem CS_add {p w : Nat} {L : Vc → Prop} (hL : Sub p w L) (h : Nat → Vc) (k : Nat) (v : Vc) : addV (CS L h k) (h k) v ↔ CS L h (k + 1) v := by
  constructor
  · rintro ⟨c0, c, hc⟩
    refine ⟨fun j => if j < k then c j else c0, hL.to hc (fun i _ => ?_)⟩
    show v i - c0 * h k i - sI (fun j => c j * h j i) k = v i - (sI (fun j => (if j < k then c j else c0) * h j i) k + (if k < k then c k else c0) * h k i)
    rw [if_neg (by omega), sI_cong (f := fun j => (if j < k then c j else c0) * h j i) (g := fun j => c j * h j i) (fun j hj => by simp only [if_pos hj])]
    omega
  · rintro ⟨c, hc⟩
    refine ⟨c k, c, hL.to hc (fun i _ => ?_)⟩
    show v i - (sI (fun j => c j * h j i) k + c k * h k i) = v i - c k * h k i - sI (fun j => c j * h j i) k
    omega
theorem CS_0 {p w : Nat} {L : Vc → Prop} (hL : Sub p w L) (h : Nat → Vc) (v : Vc) : CS L h 0 v ↔ L v := ⟨fun ⟨_, hc⟩ => hL.to hc (fun i _ => Int.sub_zero _), fun hv => ⟨fun _ => 0, hL.to hv (fun i _ => (Int.sub_zero _).symm)⟩⟩
theorem CS_cong {L : Vc → Prop} {h h' : Nat → Vc} {k : Nat} (e : ∀ j, j < k → h j = h' j) (v : Vc) : CS L h k v ↔ CS L h' k v := by
  have : ∀ c : Nat → Int, (fun i => v i - sI (fun j => c j * h j i) k) = fun i => v i - sI (fun j => c j * h' j i) k := fun c => funext fun i => by
    rw [sI_cong (fun j hj => by rw [e j hj])]
  unfold CS
  simp only [this]
/-- h 0 .. h (t - 1) tell M, none of them without need -/
def Mg (p n w : Nat) (M : Vc → Prop) (t : Nat) (h : Nat → Vc) : Prop := (∀ i, i < t → M (h i)) ∧ (∀ v, M v → CS (LMs p n w M) h t v) ∧ ∀ k, k < t → ¬ CS (LMs p n w M) h k (h k)
theorem Mg.ind {p n w t : Nat} {M : Vc → Prop} {h : Nat → Vc} (hp : isP p) (H : Mg p n w M t h) : ∀ t', t' ≤ t → ∀ c : Nat → Int, LMs p n w M (fun i => sI (fun j => c j * h j i) t') → ∀ i, i < t' → (p : Int) ∣ c i := by
  have hL := LMs_Sub p n w M
  intro t'
  induction t' with
  | zero => intro _ c _ i hi; omega
  | succ k ih =>
    intro hk c hc
    have hck : (p : Int) ∣ c k := by
      apply Classical.byContradiction
      intro q
      obtain ⟨b, hb⟩ := hp.inv q
      refine H.2.2 k (by omega) ⟨fun j => -(b * c j), ?_⟩
      refine hL.2.2.2 _ _ (fun i _ => ?_) (hL.2.2.1 b _ hc)
      show (p : Int) ∣ b * (sI (fun j => c j * h j i) k + c k * h k i) - (h k i - sI (fun j => -(b * c j) * h j i) k)
      have e : sI (fun j => -(b * c j) * h j i) k = -b * sI (fun j => c j * h j i) k := by
        rw [← sI_mul]; exact sI_cong (fun j _ => by grind)
      rw [e]
      have := Int.dvd_mul_of_dvd_left (c := h k i) hb
      rwa [show (b * c k - 1) * h k i = b * (sI (fun j => c j * h j i) k + c k * h k i) - (h k i - -b * sI (fun j => c j * h j i) k) by grind] at this
    intro i hi
    rcases Nat.lt_or_ge i k with q | q
    · refine ih (by omega) c (hL.2.2.2 _ _ (fun a _ => ?_) hc) i q
      show (p : Int) ∣ sI (fun j => c j * h j a) k + c k * h k a - sI (fun j => c j * h j a) k
      rw [show sI (fun j => c j * h j a) k + c k * h k a - sI (fun j => c j * h j a) k = c k * h k a by omega]
      exact Int.dvd_mul_of_dvd_left hck
    · rw [show i = k by omega]; exact hck
/-! degrees -/
def Dk (p n k w : Nat) (x : Vc) : Prop := ∀ c, c < w → bcN (c % 2 ^ n) < k → (p : Int) ∣ x c
theorem Dk_Sub (p n k w : Nat) : Sub p w (Dk p n k w) := ⟨fun c _ _ => Int.dvd_zero _, fun x y hx hy c a b => Int.dvd_add (hx c a b) (hy c a b), fun m x hx c a b => Int.dvd_mul_of_dvd_right (hx c a b), fun x y e hx c a b => by
  have := Int.dvd_sub (hx c a b) (e c a)
  rwa [show x c - (x c - y c) = y c by omega] at this⟩
theorem bc_mod {n c : Nat} (hn : n ≤ 4) : bcN (c % 2 ^ n) < 5 := by
  have h16 := pow_n hn
  have := Nat.mod_lt c h16.2
  have t : ∀ a, a < 16 → bcN a < 5 := by decide +kernel
  exact t _ (by omega)
theorem Dk_pl {p n k w a : Nat} (hn2 : 2 ≤ n) (hn : n ≤ 4) (hw : w ≤ 256) (ha : a < 2 ^ n) {x : Vc} (h : Dk p n k w x) : Dk p n (k + bcN a) w (pl a x) := by
  have h16 := pow_n hn
  intro c hc hd
  unfold pl
  by_cases q : a &&& c = a
  · rw [if_pos q]
    have h5 := md_5 n (by omega) hn2 a ha c (by omega) q
    have := sub_le a (by omega) c (by omega) q
    exact Int.dvd_mul_of_dvd_right (h _ (by omega) (by omega))
  · rw [if_neg q]; exact Int.dvd_zero _
theorem bc_l : ∀ l, l < 4 → bcN (2 ^ l) = 1 := by decide +kernel
/-- rows without a first part raise the degree -/
theorem Dk_cmb {p n k t : Nat} (hn2 : 2 ≤ n) (hn : n ≤ 4) (ht : t * 2 ^ n ≤ 256) {F : Nat → Vc} (hF : ∀ i, i < t → Dk p n 1 (t * 2 ^ n) (F i)) {y : Vc} (hy : Dk p n k (t * 2 ^ n) y) : Dk p n (k + 1) (t * 2 ^ n) (cmb n t F y) := by
  have h16 := pow_n hn
  intro c hc hd
  refine sI_dvd (fun j hj => ?_)
  have hm := Nat.mod_lt j h16.2
  by_cases q : bcN (j % 2 ^ n) < k
  · exact Int.dvd_mul_of_dvd_left (hy j hj q)
  · exact Int.dvd_mul_of_dvd_right (Dk_pl hn2 hn ht hm (hF _ (blk_lt hj)) c hc (by omega))
theorem Dk_all {p n w : Nat} (hn : n ≤ 4) {x : Vc} (h : Dk p n 5 w x) : V0 p w x := fun c hc => h c hc (bc_mod hn)
def LMk (p n w : Nat) (M : Vc → Prop) : Nat → Vc → Prop
  | 0 => M
  | k + 1 => LMs p n w (LMk p n w M k)
/-- Nakayama: such rows tell all by sums of products -/
theorem Mg.tell {p n w t : Nat} {M : Vc → Prop} {h : Nat → Vc} (hn2 : 2 ≤ n) (hn : n ≤ 4) (hw : w ≤ 256) (ht : t * 2 ^ n ≤ 256) (hM : Sub p w M) (hc : cloL n M) (H : Mg p n w M t h) {v : Vc} (hv : M v) : ∃ x, eqm p w v (cmb n t h x) := by
  have hG : Sub p w (fun v => ∃ x, eqm p w v (cmb n t h x)) := by
    refine ⟨⟨fun _ => 0, eqm.of (fun i _ => ((cmb_Lin p n t w h).zero).symm)⟩, ?_, ?_, ?_⟩
    · rintro a b ⟨x, hx⟩ ⟨y, hy⟩
      refine ⟨fun j => x j + y j, fun i hi => ?_⟩
      rw [(cmb_Lin p n t w h).1]
      have := Int.dvd_add (hx i hi) (hy i hi)
      rwa [show a i - cmb n t h x i + (b i - cmb n t h y i) = a i + b i - (cmb n t h x i + cmb n t h y i) by omega] at this
    · rintro m a ⟨x, hx⟩
      refine ⟨fun j => m * x j, fun i hi => ?_⟩
      rw [(cmb_Lin p n t w h).2.1, ← Int.mul_sub]
      exact Int.dvd_mul_of_dvd_right (hx i hi)
    · rintro a b e ⟨x, hx⟩
      exact ⟨x, e.sy.tr hx⟩
  have hGc : cloL n (fun v => ∃ x, eqm p w v (cmb n t h x)) := by
    rintro l hl a ⟨x, hx⟩
    refine ⟨pl (2 ^ l) x, ((pl_Lin p (pow_l (l := l) (by omega)).1 hw).2.2 _ _ hx).tr (eqm.of (fun c hc => (cmb_l hn2 hn ht hl (by omega) h x).symm))⟩
  have hGh : ∀ i, i < t → ∃ x, eqm p w (h i) (cmb n t h x) := fun i hi => ⟨en n i, eqm.of (fun c hc => (cmb_unit hn hi (by omega) h).symm)⟩
  obtain ⟨Mk, hMk⟩ : ∃ Mk : Nat → Vc → Prop, Mk = LMk p n w M := ⟨_, rfl⟩
  have m0 : Mk 0 = M := by rw [hMk]; rfl
  have ms : ∀ k, Mk (k + 1) = LMs p n w (Mk k) := fun k => by rw [hMk]; rfl
  have mS : ∀ k, Sub p w (Mk k) := fun k => by
    cases k with
    | zero => rw [m0]; exact hM
    | succ k => rw [ms]; exact LMs_Sub _ _ _ _
  have mD : ∀ k x, Mk k x → Dk p n k w x := by
    intro k
    induction k with
    | zero => intro x _ c _ q; omega
    | succ k ih =>
      intro x hx
      rw [ms] at hx
      refine hx _ (Dk_Sub p n (k + 1) w) ?_
      rintro y ⟨l, hl, z, hz, rfl⟩
      have := Dk_pl hn2 hn hw (Nat.pow_lt_pow_right (by omega) hl) (ih z hz)
      rwa [bc_l l (by omega)] at this
  have step : ∀ k x, Mk k x → ∃ u, (∃ z, eqm p w u (cmb n t h z)) ∧ Mk (k + 1) (fun i => x i - u i) := by
    intro k
    induction k with
    | zero =>
      intro x hx
      rw [m0] at hx
      obtain ⟨c, hc⟩ := H.2.1 x hx
      rw [ms, m0]
      exact ⟨_, sum_in hG c t (fun j hj => hGh j hj), hc⟩
    | succ k ih =>
      intro x hx
      rw [ms] at hx
      refine hx (fun x => ∃ u, (∃ z, eqm p w u (cmb n t h z)) ∧ Mk (k + 1 + 1) (fun i => x i - u i)) ?_ ?_
      · have hS := mS (k + 1 + 1)
        refine ⟨⟨fun _ => 0, hG.1, hS.to hS.1 (fun i _ => by simp)⟩, ?_, ?_, ?_⟩
        · rintro a b ⟨u, hu, hu2⟩ ⟨v, hv, hv2⟩
          exact ⟨fun i => u i + v i, hG.2.1 _ _ hu hv, hS.to (hS.2.1 _ _ hu2 hv2) (fun i _ => by show a i - u i + (b i - v i) = a i + b i - (u i + v i); omega)⟩
        · rintro m a ⟨u, hu, hu2⟩
          exact ⟨fun i => m * u i, hG.2.2.1 m _ hu, hS.to (hS.2.2.1 m _ hu2) (fun i _ => by rw [Int.mul_sub])⟩
        · rintro a b e ⟨u, hu, hu2⟩
          refine ⟨u, hu, hS.2.2.2 _ _ (fun i hi => ?_) hu2⟩
          have := e i hi
          rwa [show a i - b i = a i - u i - (b i - u i) by omega] at this
      · rintro y ⟨l, hl, z, hz, rfl⟩
        obtain ⟨u, hu, hu2⟩ := ih z hz
        refine ⟨pl (2 ^ l) u, hGc l hl u hu, ?_⟩
        rw [ms (k + 1)]
        have hLn := pl_Lin p (pow_l (l := l) (by omega)).1 hw
        refine (LMs_Sub p n w (Mk (k + 1))).to (LMs_gen hl hu2) (fun i hi => ?_)
        have e1 := hLn.1 (fun i => z i - u i) u i
        rw [show (fun j => z j - u j + u j) = z from funext fun j => by omega] at e1
        omega
  have all : ∀ k, ∃ u, (∃ z, eqm p w u (cmb n t h z)) ∧ Mk k (fun i => v i - u i) := by
    intro k
    induction k with
    | zero => exact ⟨fun _ => 0, hG.1, by rw [m0]; exact hM.to hv (fun i _ => (Int.sub_zero _).symm)⟩
    | succ k ih =>
      obtain ⟨u, hu, hu2⟩ := ih
      obtain ⟨u', hu', hu2'⟩ := step k _ hu2
      exact ⟨fun i => u i + u' i, hG.2.1 _ _ hu hu', (mS (k + 1)).to hu2' (fun i _ => by show v i - u i - u' i = v i - (u i + u' i); omega)⟩
  obtain ⟨u, hu, hu2⟩ := all 5
  have h5 := Dk_all hn (mD 5 _ hu2)
  exact hG.2.2.2 _ _ (fun i hi => by have := Int.dvd_neg.mpr (h5 i hi); rwa [show -(v i - u i) = u i - v i by omega] at this) hu
