/-! the call that tries values (1) -/
def wth (E : Vc) (j v : Nat) : Vc := fun i => if i = j then (v : Int) else E i
def lst (f : Nat → Bool) (a b : Nat) (x : Int32) : Prop := (∃ u, a ≤ u ∧ u < b ∧ f u = true ∧ (∀ t, a ≤ t → t < u → f t = false) ∧ x = nI u) ∨ ((∀ t, a ≤ t → t < b → f t = false) ∧ x = -5)
theorem lst.same {f : Nat → Bool} {a b : Nat} {x y : Int32} (h : lst f a b x) (h' : lst f a b y) : x = y := by
  rcases h with ⟨u, u1, u2, u3, u4, u5⟩ | ⟨q, e⟩ <;> rcases h' with ⟨u', v1, v2, v3, v4, v5⟩ | ⟨q', e'⟩
  · have : u = u' := by
      rcases Nat.lt_trichotomy u u' with l | l | l
      · rw [v4 u u1 l] at u3; exact absurd u3 (by decide)
      · exact l
      · rw [u4 u' v1 l] at v3; exact absurd v3 (by decide)
    rw [u5, v5, this]
  · rw [q' u u1 u2] at u3; exact absurd u3 (by decide)
  · rw [q u' v1 v2] at v3; exact absurd v3 (by decide)
  · rw [e, e']
theorem onl.tr {t : Nat} {S S' S'' : Sto} (a : onl t S S') (b : onl t S' S'') : onl t S S'' := ⟨fun c x => (b.1 c x).trans (a.1 c x), b.2.trans a.2⟩
theorem onl.set {t : Nat} {S : Sto} {F : Nat → Int32} : onl t S (setA S t F) := ⟨fun c x => setA_ne _ _ x, rfl⟩
theorem sp_fits8 {h n p K K2 gc j k : Nat} {V : Vc → Prop} {S : Sto} {x z : Int32} {Q : Int32 → Sto → Prop} (hs : s16 h) (N : Nw S n p K gc) (hE : El S p) (hk : k < 6) (hj : j < 2 ^ n) (H : SpOK S h p (2 ^ n) K2 V)
    (hQ : ∀ S' a, lst (fun v => isB (V (wth (eS S k) j v))) 0 p a → onl 352 S S' → (¬ z = 0 → Q a S') ∧ (z = 0 → Q (nI (ctB (fun v => isB (V (wth (eS S k) j v))) p)) S')) : ∃ m, q_X8_fits_66 x (nI k) (nI j) z Q m h 0 (-5) 0 S := by
  obtain ⟨f, hf⟩ : ∃ f : Nat → Bool, f = fun v => isB (V (wth (eS S k) j v)) := ⟨_, rfl⟩
  rw [← hf] at hQ
  have n4 := N.1.2.2.2.1
  have hw := pow_n n4
  have hp := N.1.2.2.2.2
  have hp8 := hp.pos
  have le := ln_el k hk
  obtain ⟨k8, hl, ha, hb⟩ := hs.ok
  refine loopE (fun m v (T : Int32 × Int32 × Sto) => q_X8_fits_66 x (nI k) (nI j) z Q m h T.1 T.2.1 (nI v) T.2.2) (fun v T => T.1 = nI (ctB f v) ∧ lst f 0 v T.2.1 ∧ onl 352 S T.2.2) p ?_ ?_ 0 (0, -5, S) (Nat.zero_le _) ⟨rfl, Or.inr ⟨fun t _ q => by omega, rfl⟩, fun _ _ => rfl, rfl⟩
  · rintro ⟨x6, x7, Z⟩ ⟨t1, t2, t3⟩
    simp only at t1 t2 t3
    show q_X8_fits_66 x (nI k) (nI j) z Q 1 h x6 x7 (nI p) Z
    unfold q_X8_fits_66 q_X8_fits_170
    rw [t3.1 1 (by decide), N.1.2.1, nI_leI (by omega) (by omega), t1]
    exact ⟨fun _ => hQ Z x7 t2 t3, fun q => absurd (Nat.le_refl _) q⟩
  · rintro v m ⟨x6, x7, Z⟩ hv ⟨t1, t2, t3⟩ ih
    simp only at t1 t2 t3
    show q_X8_fits_66 x (nI k) (nI j) z Q (m + 1) h x6 x7 (nI v) Z
    unfold q_X8_fits_66
    have z0 : Z.1 1 0 = nI n := by rw [t3.1 1 (by decide)]; exact N.1.1
    rw [t3.1 1 (by decide), N.1.2.1, nI_leI (by omega) (by omega), tn_nI (i := k) (by omega), tn_nI (i := j) (by omega)]
    refine ⟨fun q => by omega, fun _ => ⟨vp_nI hk (by omega), sp_width z0 n4 ?_⟩⟩
    refine sp_copy (by omega) (by rw [ln_352]; omega) (by omega) (by rw [ln_352]; omega) (by omega) ⟨vp_nI (by omega) (by omega), fun S9 e9 => ?_⟩
    have o9 : onl 352 S S9 := t3.tr (by rw [e9, uA_setA]; exact onl.set.tr onl.set)
    have H9 : SpOK S9 h p (2 ^ n) K2 V := H.keep (fun c hc => o9.1 c (by unfold spC at hc; omega))
    have hX : rd (S9.1 352) (2 ^ n) p (wth (eS S k) j v) := by
      intro i hi
      rw [e9, uA_eq, setA_eq]
      unfold wth
      by_cases e : i = j
      · rw [e, upd_eq, if_pos rfl]
        exact ⟨rfl, by omega, by omega⟩
      · rw [upd_ne _ _ e, fl_lt _ _ hi, if_neg e, t3.1 _ (by omega)]
        exact hE k hk i (by omega)
    refine sp_takeFrom H9 (by rw [ln_352]; omega) (by rw [ln_352]; omega) (by unfold spC; omega) hX (fun F r a1 a2 a3 => ?_)
    have o10 : onl 352 S (setA S9 352 F) := o9.tr onl.set
    have z10 : (setA S9 352 F).1 1 0 = nI n := by rw [o10.1 1 (by decide)]; exact N.1.1
    refine sp_width z10 n4 (sp_nonZeros (by rw [ln_352]; omega) (by rw [ln_352]; omega) ?_)
    have hle := cz_le F (2 ^ n)
    have hz := Rest.zero H9.2.2.2 H9.2.2.1 a2
    have hiff : cz F (2 ^ n) = 0 ↔ V (wth (eS S k) j v) := by
      rw [cz_zero, hz]
      constructor
      · intro q i hi
        have := a1 i hi
        have h2 := q i hi
        rw [this.1, iI_eq0 ⟨by omega, by omega⟩] at h2
        exact h2
      · intro q i hi
        have := a1 i hi
        rw [this.1, iI_eq0 ⟨by omega, by omega⟩]
        exact q i hi
    have hfv : f v = true ↔ V (wth (eS S k) j v) := by rw [hf]; exact isB_t
    have cle := ctB_le f v
    rw [setA_eq, show (0 : Int32) = nI 0 from rfl, nI_eq (by omega) (by omega), hiff, t1, nI_eq (by omega) (by omega)]
    unfold q_X8_fits_152 q_X8_fits_147 q_X8_fits_152
    have more : f v = true → ctB f (v + 1) = ctB f v + 1 := fun e => by show ctB f v + (if f v then 1 else 0) = _; rw [if_pos e]
    refine ⟨fun q x8 e8 => ?_, fun q => ⟨fun c0 x6' e6 x8 e8 => ?_, fun c0 x6' e6 x8 e8 => ?_⟩⟩
    · rw [e8, nI_1]
      have fv : f v = false := by
        cases e : f v
        · rfl
        · exact absurd (hfv.mp e) q
      refine ih (nI (ctB f v), x7, setA S9 352 F) ⟨?_, ?_, o10⟩
      · show nI (ctB f v) = nI (ctB f v + (if f v then 1 else 0))
        rw [fv]; rfl
      · rcases t2 with ⟨u, u1, u2, u3, u4, u5⟩ | ⟨q, e⟩
        · exact Or.inl ⟨u, u1, by omega, u3, u4, u5⟩
        · refine Or.inr ⟨fun t a b => ?_, e⟩
          by_cases e : t = v
          · rw [e]; exact fv
          · exact q t a (by omega)
    · rw [e8, e6, nI_1, nI_1]
      refine ih (nI (ctB f v + 1), x7, setA S9 352 F) ⟨by rw [more (hfv.mpr q)], ?_, o10⟩
      rcases t2 with ⟨u, u1, u2, u3, u4, u5⟩ | ⟨q, e⟩
      · exact Or.inl ⟨u, u1, by omega, u3, u4, u5⟩
      · exact absurd (ctB_skip (Nat.zero_le v) q) c0
    · rw [e8, e6, nI_1, nI_1]
      refine ih (nI (ctB f v + 1), nI v, setA S9 352 F) ⟨by rw [more (hfv.mpr q)], Or.inl ⟨v, Nat.zero_le _, by omega, hfv.mpr q, fun t _ ht => ?_, rfl⟩, o10⟩
      cases e : f t
      · rfl
      · have := ctB_lt (f := f) ht e; omega
