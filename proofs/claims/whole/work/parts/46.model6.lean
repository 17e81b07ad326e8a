/-! graphs of linear ones, their rows in steps -/
def sh (m : Nat) (z : Vc) : Vc := fun i => z (m + i)
def Gr (p m : Nat) (U : Vc → Prop) (f : Vc → Vc) : Vc → Prop := fun z => (∀ i, i < m → (p : Int) ∣ z i - f (sh m z) i) ∧ U (sh m z)
def emb (m : Nat) (f : Vc → Vc) (x : Vc) : Vc := fun i => if i < m then f x i else x (i - m)
theorem sh_emb (m : Nat) (f : Vc → Vc) (x : Vc) : sh m (emb m f x) = x := by
  funext i
  unfold sh emb
  rw [if_neg (by omega), Nat.add_sub_cancel_left]
theorem sh_Lin (p m w : Nat) : Lin p (m + w) w (sh m) := ⟨fun _ _ _ => rfl, fun _ _ _ => rfl, fun _ _ e i hi => e (m + i) (by omega)⟩
theorem Lin.zero {p w w' : Nat} {f : Vc → Vc} (hf : Lin p w w' f) {i : Nat} : f (fun _ => 0) i = 0 := by
  have := hf.2.1 0 (fun _ => 0) i
  simp only [Int.zero_mul] at this
  exact this
theorem Lin.dvd {p w w' : Nat} {f : Vc → Vc} (hf : Lin p w w' f) {x : Vc} (hx : ∀ i, i < w → (p : Int) ∣ x i) {i : Nat} (hi : i < w') : (p : Int) ∣ f x i := by
  have := hf.2.2 x (fun _ => 0) (fun j hj => by rw [Int.sub_zero]; exact hx j hj) i hi
  rwa [hf.zero, Int.sub_zero] at this
theorem Gr_Sub {p m w : Nat} {U : Vc → Prop} {f : Vc → Vc} (hU : Sub p w U) (hf : Lin p w m f) : Sub p (m + w) (Gr p m U f) := by
  have hs := sh_Lin p m w
  refine ⟨⟨fun i _ => ?_, hU.1⟩, fun x y hx hy => ⟨fun i hi => ?_, hU.2.1 _ _ hx.2 hy.2⟩, fun c x hx => ⟨fun i hi => ?_, hU.2.2.1 c _ hx.2⟩, fun x y e hx => ⟨fun i hi => ?_, hU.2.2.2 _ _ (hs.2.2 x y e) hx.2⟩⟩
  · show (p : Int) ∣ 0 - f (fun _ => 0) i
    rw [hf.zero]; simp
  · have h1 := hx.1 i hi
    have h2 := hy.1 i hi
    have := Int.dvd_add h1 h2
    show (p : Int) ∣ x i + y i - f (fun j => sh m x j + sh m y j) i
    rw [hf.1]
    rwa [show x i - f (sh m x) i + (y i - f (sh m y) i) = x i + y i - (f (sh m x) i + f (sh m y) i) by omega] at this
  · have h1 : (p : Int) ∣ c * (x i - f (sh m x) i) := Int.dvd_mul_of_dvd_right (hx.1 i hi)
    show (p : Int) ∣ c * x i - f (fun j => c * sh m x j) i
    rw [hf.2.1, ← Int.mul_sub]
    exact h1
  · have h1 := hx.1 i hi
    have h2 := e i (by omega)
    have h3 := hf.2.2 _ _ (hs.2.2 x y e) i hi
    have := Int.dvd_add (Int.dvd_sub h1 h2) h3
    rwa [show x i - f (sh m x) i - (x i - y i) + (f (sh m x) i - f (sh m y) i) = y i - f (sh m y) i by omega] at this
theorem emb_Lin {p m w : Nat} {f : Vc → Vc} (hf : Lin p w m f) : Lin p w (m + w) (emb m f) := by
  refine ⟨fun x y i => ?_, fun c x i => ?_, fun x y e i hi => ?_⟩
  · unfold emb; split
    · exact hf.1 x y i
    · rfl
  · unfold emb; split
    · exact hf.2.1 c x i
    · rfl
  · unfold emb; split
    · rename_i q; exact hf.2.2 x y e i q
    · exact e _ (by omega)
theorem emb_Gr {p m : Nat} {U : Vc → Prop} {f : Vc → Vc} {x : Vc} (h : U x) : Gr p m U f (emb m f x) := by
  refine ⟨fun i hi => ?_, by rw [sh_emb]; exact h⟩
  rw [sh_emb]
  unfold emb
  rw [if_pos hi, Int.sub_self]; exact Int.dvd_zero _
/-- what is told by rows is the graph, if their second parts tell U -/
theorem Gr_all {p m w : Nat} {U V : Vc → Prop} {f : Vc → Vc} (hf : Lin p w m f) (hV : Sub p (m + w) V) (h : ∀ x, U x → V (emb m f x)) {z : Vc} (hz : Gr p m U f z) : V z := by
  refine hV.2.2.2 _ _ (fun i hi => ?_) (h _ hz.2)
  unfold emb
  split
  · rename_i q
    have := Int.dvd_neg.mpr (hz.1 i q)
    rwa [Int.neg_sub] at this
  · unfold sh
    rw [show m + (i - m) = i by omega, Int.sub_self]; exact Int.dvd_zero _
/-- the kernel -/
def Ker (p m : Nat) (U : Vc → Prop) (f : Vc → Vc) : Vc → Prop := fun x => U x ∧ ∀ i, i < m → (p : Int) ∣ f x i
theorem Ker_Sub {p m w : Nat} {U : Vc → Prop} {f : Vc → Vc} (hU : Sub p w U) (hf : Lin p w m f) : Sub p w (Ker p m U f) := Sub.and hU (Sub.pre hf (V0_sub p m))
theorem Ker_RB {p m w : Nat} {U : Vc → Prop} {f : Vc → Vc} {hd : Nat → Prop} {R : Nat → Vc} (hf : Lin p w m f) (h : RB p (m + w) 0 (Gr p m U f) hd R) : RB p w 0 (Ker p m U f) (fun l => hd (m + l)) (fun l => sh m (R (m + l))) := by
  refine ⟨fun l hl => ?_, fun v hv hz i hi => ?_⟩
  · obtain ⟨g1, g2, g3, g4, g5, g6⟩ := h.1 _ hl
    refine ⟨by omega, ⟨g2.2, fun i hi => ?_⟩, g3, fun i hi => g4 (m + i) (by omega), fun i hi q => g5 (m + i) (by omega) (by show m + i < m + l; have : i < l := q; omega), fun l' hl' n => g6 (m + l') hl' (by omega)⟩
    have h1 := g2.1 i hi
    rw [g5 i (by omega) (by show i < m + l; omega), Int.zero_sub] at h1
    have := Int.dvd_neg.mpr h1
    rwa [Int.neg_neg] at this
  · have key := h.2 (fun j => if j < m then 0 else v (j - m)) ?_ ?_ (m + i) (by omega)
    · simp only [if_neg (show ¬ m + i < m by omega), Nat.add_sub_cancel_left] at key
      exact key
    · have e : sh m (fun j => if j < m then 0 else v (j - m)) = v := by
        funext j
        show (if m + j < m then 0 else v (m + j - m)) = v j
        rw [if_neg (by omega), Nat.add_sub_cancel_left]
      refine ⟨fun j hj => ?_, by rw [e]; exact hv.1⟩
      rw [e]
      simp only [if_pos hj, Int.zero_sub]
      exact Int.dvd_neg.mpr (hv.2 j hj)
    · intro l hl
      by_cases q : l < m
      · simp only [if_pos q]; exact Int.dvd_zero _
      · simp only [if_neg q]
        refine hz (l - m) ?_
        show hd (m + (l - m))
        rw [show m + (l - m) = l by omega]; exact hl
/-! the reference: rows kept -/
theorem ctB_img {m w : Nat} {σ : Nat → Nat} {f : Nat → Bool} (hσ : ∀ r, r < m → σ r < w) (inj : ∀ r r', r < m → r' < m → σ r = σ r' → r = r') : ctB (fun r => f (σ r)) m = ctB (fun l => isB ((∃ r, r < m ∧ σ r = l) ∧ f l = true)) w := by
  have e : (ctB (fun r => f (σ r)) m : Int) = ctB (fun l => isB ((∃ r, r < m ∧ σ r = l) ∧ f l = true)) w := by
    rw [sI_ctB, sI_ctB]
    have h1 : sI (fun r => if f (σ r) then (1 : Int) else 0) m = sI (fun r => sI (fun l => if σ r = l ∧ f l = true then 1 else 0) w) m := sI_cong (fun r hr => by
      rw [sI_one (hσ r hr) (fun l _ q => if_neg (fun z => q z.1.symm))]
      simp)
    rw [h1, sI_swap]
    refine sI_cong (fun l hl => ?_)
    by_cases hd : ∃ r, r < m ∧ σ r = l
    · obtain ⟨r, hr, e⟩ := hd
      rw [sI_one hr (fun r' hr' q => if_neg (fun z => q (inj r' r hr' hr (by rw [z.1, e]))))]
      by_cases hf : f l = true
      · rw [if_pos ⟨e, hf⟩, if_pos (isB_t.mpr ⟨⟨r, hr, e⟩, hf⟩)]
      · rw [if_neg (fun z => hf z.2), if_neg (by rw [isB_t]; exact fun z => hf z.2)]
    · rw [sI_zero (fun r hr => if_neg (fun z => hd ⟨r, hr, z.1⟩)), if_neg (by rw [isB_t]; exact fun z => hd z.1)]
  omega
theorem clf_inj {K w c c' : Nat} (h : okW K w) (hc : c < w) (hc' : c' < w) (e : clf K w c = clf K w c') : c = c' := by
  rcases Nat.lt_trichotomy c c' with q | q | q
  · have := (clf_ok h c' hc').2.1 c q; rw [e] at this; omega
  · exact q
  · have := (clf_ok h c hc).2.1 c' q; rw [e] at this; omega
theorem npM_all {K w : Nat} {hd : Nat → Prop} (h : okW K w) : npM K w hd w = ctB (fun l => isB (hd l)) w := by
  unfold npM
  rw [ctB_img (σ := clf K w) (f := fun l => isB (hd l)) (fun r hr => (clf_ok h r hr).1) (fun r r' hr hr' e => clf_inj h hr hr' e)]
  refine ctB_cong (fun l hl => ?_)
  obtain ⟨-, -, c, hc, e⟩ := clf_ok h l hl
  congr 1
  exact propext ⟨fun q => isB_t.mp q.2, fun q => ⟨⟨c, hc, e⟩, isB_t.mpr q⟩⟩
theorem ctB_at {f : Nat → Bool} {i : Nat} : ∀ {m : Nat}, i < ctB f m → ∃ c, c < m ∧ f c = true ∧ ctB f c = i
  | 0, h => by simp [ctB] at h
  | m + 1, h => by
    by_cases q : i < ctB f m
    · obtain ⟨c, h1, h2, h3⟩ := ctB_at q
      exact ⟨c, by omega, h2, h3⟩
    · unfold ctB at h
      by_cases hf : f m = true
      · rw [if_pos hf] at h
        exact ⟨m, by omega, hf, by omega⟩
      · rw [if_neg hf] at h; omega
theorem MB.at {S : Sto} {p w K rk i : Nat} {V : Vc → Prop} {L : Nat → Nat} {R : Nat → Vc} (H : MB S p w K V rk L R) (hi : i < rk) : ∃ c, c < w ∧ hdL rk L (clf K w c) ∧ npM K w (hdL rk L) c = i := by
  have h1 := npM_all (hd := hdL rk L) H.1.2.2.1
  have h2 := H.2.2.2.2.2.2
  obtain ⟨c, a1, a2, a3⟩ := ctB_at (f := fun j => isB (hdL rk L (clf K w j))) (i := i) (m := w) (by unfold npM at h1; omega)
  exact ⟨c, a1, isB_t.mp a2, a3⟩
theorem sp_rowAt_i {i p w K rk : Nat} {V : Vc → Prop} {L : Nat → Nat} {R : Nat → Vc} {S : Sto} {Q : Int32 → Sto → Prop} (H : MB S p w K V rk L R) (hi : i < rk)
    (h1 : ∀ c r, c < w → r < rk → L r = clf K w c → npM K w (hdL rk L) c = i → Q (nI r) S) : wp_X9_rowAt (nI i) S Q := by
  have hrk := H.rk
  have hw := H.1.2.1
  have le : ∀ c, npM K w (hdL rk L) c ≤ c := fun c => ctB_le _ c
  refine sp_rowAt H (fun c r a b d e => h1 c r a b d ?_) (fun hn => ?_)
  · have := le c
    rw [nI_eq (by omega) (by omega)] at e; exact e.symm
  · obtain ⟨c, a1, a2, a3⟩ := H.at hi
    exact absurd (by rw [a3]) (hn c a1 a2)
/-- the rows of the array t are the rows in steps, in order -/
def Kpt (S : Sto) (t w K rk : Nat) (L : Nat → Nat) (R : Nat → Vc) : Prop := ∀ c, c < w → hdL rk L (clf K w c) → ∀ a, a < 16 → S.1 t (16 * npM K w (hdL rk L) c + a) = if a < w then iI (R (clf K w c) a) else 0
theorem sp_keeps {t p w K rk : Nat} {V : Vc → Prop} {L : Nat → Nat} {R : Nat → Vc} {S : Sto} {Q : Int32 → Sto → Prop} (H : MB S p w K V rk L R) (hw : w ≤ 16) (h3 : S.1 353 3 = nI w) (ht : t = 374 ∨ t = 376)
    (hQ : ∀ S', Kpt S' t w K rk L R → frs [t] S S' → Q (nI rk) S') : wp_X9_keeps t S Q := by
  have hrk := H.rk
  have hlt : ln t = 256 := by rcases ht with rfl | rfl <;> decide +kernel
  have ht3 : t ≠ 353 ∧ t ≠ 366 ∧ t ≠ 367 ∧ t ≠ 368 ∧ t ≠ 369 := by rcases ht with rfl | rfl <;> decide
  have keepH : ∀ T, frs [t] S T → MB T p w K V rk L R := fun T f => H.keepS f (by simp; omega)
  unfold wp_X9_keeps
  refine loopE (fun m i (T : Sto) => q_X9_keeps_2 t Q m (nI i) T) (fun i T => frs [t] S T ∧ ∀ c, c < w → hdL rk L (clf K w c) → npM K w (hdL rk L) c < i → ∀ a, a < 16 → T.1 t (16 * npM K w (hdL rk L) c + a) = if a < w then iI (R (clf K w c) a) else 0) rk ?_ ?_ 0 S (by omega) ⟨frs.rf, fun c _ _ q => by omega⟩
  · rintro T ⟨t1, t2⟩
    have HT := keepH T t1
    unfold q_X9_keeps_2
    rw [HT.1.2.2.2.2.2, nI_leI (by omega) (by omega)]
    refine ⟨fun _ => hQ T (fun c hc hd a ha => t2 c hc hd ?_ a ha) t1, fun z => by omega⟩
    have h1 := npM_all (hd := hdL rk L) H.1.2.2.1
    have h2 := H.2.2.2.2.2.2
    have := npM_lt (K := K) (w := w) (hd := hdL rk L) hc hd
    omega
  · rintro i m T hi ⟨t1, t2⟩ ih
    have HT := keepH T t1
    unfold q_X9_keeps_2
    rw [HT.1.2.2.2.2.2, nI_leI (by omega) (by omega)]
    refine ⟨fun z => by omega, fun _ => sp_rowAt_i HT hi (fun c r hc hr hL hnp => ?_)⟩
    obtain ⟨u1, u2, u3, u4⟩ := HT.2.2.1 r hr
    refine loopE (fun m2 a (Y : Sto) => q_X9_keeps_19 t (fun y2 S => q_X9_keeps_2 t Q m y2 S) Q m2 (nI i) (nI r) (nI a) Y) (fun a Y => frs [t] T Y ∧ (∀ j, j < 16 * i → Y.1 t j = T.1 t j) ∧ ∀ b, b < a → Y.1 t (16 * i + b) = if b < w then iI (R (clf K w c) b) else 0) 16 ?_ ?_ 0 T (by omega) ⟨frs.rf, fun _ _ => rfl, fun b q => by omega⟩
    · rintro Y ⟨y1, y2, y3⟩
      unfold q_X9_keeps_19
      refine ⟨fun _ x ex => ?_, fun z => absurd (show (16 : Int32) ≤ nI 16 by decide) z⟩
      rw [ex, nI_1]
      refine ih Y ⟨t1.tr y1, fun c' hc' hd' hlt a ha => ?_⟩
      by_cases e : npM K w (hdL rk L) c' = i
      · have hcc : c' = c := npM_inj hd' (by rw [← hL]; exact ⟨r, hr, rfl⟩) (by rw [e, hnp])
        subst hcc
        rw [e]; exact y3 a ha
      · rw [y2 _ (by omega)]
        exact t2 c' hc' hd' (by omega) a ha
    · rintro a m2 Y ha ⟨y1, y2, y3⟩ ih2
      unfold q_X9_keeps_19 q_X9_keeps_60
      have e3 : Y.1 353 = S.1 353 := by rw [y1.1 353 (by simp; omega), t1.1 353 (by simp; omega)]
      have e6 : Y.1 366 = T.1 366 := y1.1 366 (by simp; omega)
      have last : ∀ v : Int32, v = (if a < w then iI (R (clf K w c) a) else 0) → vp_in (nI (16 * i + a)) 256 ∧ ∀ S_2 : Sto, S_2 = uA Y t (16 * i + a) v → ∀ x4_3 : Int32, x4_3 = nI a + 1 → q_X9_keeps_19 t (fun y2 S => q_X9_keeps_2 t Q m y2 S) Q m2 (nI i) (nI r) x4_3 S_2 := by
        intro v hv
        refine ⟨vp_nI (by omega) (by omega), fun S1 e1 x ex => ?_⟩
        rw [ex, nI_1]
        refine ih2 S1 ⟨y1.tr (by rw [e1]; exact frs.upd (by simp)), fun j hj => by rw [e1, uA_eq, upd_ne _ _ (by omega)]; exact y2 j hj, fun b hb => ?_⟩
        rw [e1, uA_eq]
        by_cases e : b = a
        · rw [e, upd_eq, hv]
        · rw [upd_ne _ _ (by omega)]; exact y3 b (by omega)
      rw [show (16 : Int32) = nI 16 from rfl, nI_leI (by omega) (by omega), e3, h3, nI_leI (by omega) (by omega), pk_mul, nI_add, show (256 : Int32) = nI 256 from rfl, pk_mul, nI_add, tn_nI (by omega), tn_nI (by omega), hlt, e6]
      refine ⟨fun z => by omega, fun _ => ⟨fun z => last 0 (by rw [if_neg (by omega)]), fun z => ⟨vp_nI (by omega) (by omega), last _ ?_⟩⟩⟩
      rw [if_pos (by omega), u4 a (by omega), hL]
