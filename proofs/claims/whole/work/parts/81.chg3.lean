/-! changes of the set-up, class and reference apart (2) -/
def E0 : Nat → Nat → Int32 := fun _ _ => 0
theorem sp_anew8 {n p K gc ed : Nat} {E G : Nat → Nat → Int32} {S : Sto} {Q : Sto → Prop} (C : CA S n p K gc ed E G) (hQ : ∀ S', CA S' n p K 0 (ed + 1) E0 G → frC S S' → Q S') : wp_X4_beginAnew S Q := by
  unfold wp_X4_beginAnew
  refine loopE (fun m e (T : Sto) => q_X4_beginAnew_2 Q m (nI e) T) (fun e T => (∀ c, ¬ (3 ≤ c ∧ c ≤ 8) → T.1 c = S.1 c) ∧ T.2 = S.2 ∧ ∀ k, k < e → ∀ i, i < 16 → T.1 (2 + 1 + k) i = 0) 6 ?_ ?_ 0 S (by omega) ⟨fun _ _ => rfl, rfl, fun k q => by omega⟩
  · rintro T ⟨t1, t2, t3⟩
    unfold q_X4_beginAnew_2
    refine ⟨fun _ => ?_, fun q => absurd (show (6 : Int32) ≤ nI 6 by decide) q⟩
    have CT : CA T n p K gc ed E0 (fun g i => T.1 (9 + 1 + g) i) := by
      obtain ⟨c1, c2, c3, c4, c5, c6, c7⟩ := C
      have e1 := t1 1 (by decide)
      exact ⟨by rw [e1]; exact c1, by rw [e1]; exact c2, by rw [e1]; exact c3, by rw [e1]; exact c4, by rw [e1]; exact c5, t3, fun _ _ _ _ => rfl⟩
    refine sp_drop8 CT (fun S' D f => hQ S' ⟨D.1, D.2.1, D.2.2.1, D.2.2.2.1, D.2.2.2.2.1, D.2.2.2.2.2.1, fun g hg => by omega⟩ ?_)
    have f0 : frC S T := ⟨fun c hc => t1 c (by omega), fun j _ => by rw [t1 1 (by decide)], t2⟩
    exact f0.tr f
  · rintro e m T he ⟨t1, t2, t3⟩ ih
    unfold q_X4_beginAnew_2
    rw [show (6 : Int32) = nI 6 from rfl, nI_leI (by omega) (by omega)]
    refine ⟨fun q => by omega, fun _ => ?_⟩
    refine loopE (fun m2 i (Y : Sto) => q_X4_beginAnew_10 (fun y1 S => q_X4_beginAnew_2 Q m y1 S) Q m2 (nI e) (nI i) Y) (fun i Y => (∀ c, c ≠ 2 + 1 + e → Y.1 c = T.1 c) ∧ Y.2 = T.2 ∧ ∀ k, k < i → Y.1 (2 + 1 + e) k = 0) 16 ?_ ?_ 0 T (by omega) ⟨fun _ _ => rfl, rfl, fun k q => by omega⟩
    · rintro Y ⟨y1, y2, y3⟩
      unfold q_X4_beginAnew_10
      refine ⟨fun _ x ex => ?_, fun q => absurd (show (16 : Int32) ≤ nI 16 by decide) q⟩
      rw [ex, nI_1]
      refine ih Y ⟨fun c hc => by rw [y1 c (by omega), t1 c hc], by rw [y2, t2], fun k hk i hi => ?_⟩
      by_cases q : k = e
      · rw [q]; exact y3 i hi
      · rw [y1 _ (by omega)]; exact t3 k (by omega) i hi
    · rintro i m2 Y hi ⟨y1, y2, y3⟩ ih2
      unfold q_X4_beginAnew_10
      have le := ln_el e he
      rw [show (16 : Int32) = nI 16 from rfl, nI_leI (by omega) (by omega), tn_nI (i := e) (by omega), tn_nI (i := i) (by omega), le]
      refine ⟨fun q => by omega, fun _ => ⟨vi he (by omega), vi (by omega) (by omega), fun S5 e5 x ex => ?_⟩⟩
      rw [ex, nI_1]
      refine ih2 S5 ⟨fun c hc => by rw [e5, uA_ne hc]; exact y1 c hc, by rw [e5]; exact y2, fun k hk => ?_⟩
      rw [e5, uA_eq]
      by_cases q : k = i
      · rw [q, upd_eq]
      · rw [upd_ne _ _ q]; exact y3 k (by omega)
theorem sp_letters8 {n p K gc ed : Nat} {E G : Nat → Nat → Int32} {x : Int32} {S : Sto} {Q : Int32 → Sto → Prop} (C : CA S n p K gc ed E G) (h1 : ∀ m, 2 ≤ m → m ≤ 4 → x = nI m → ∀ S', CA S' m p K 0 (ed + 1) E0 G → frC S S' → Q 1 S') (h0 : (¬ ∃ m, 2 ≤ m ∧ m ≤ 4 ∧ x = nI m) → Q 0 S) : wp_X4_takeLetters x S Q := by
  obtain ⟨c1, c2, c3, c4, c5, c6, c7⟩ := id C
  unfold wp_X4_takeLetters q_X4_takeLetters_10
  by_cases q : x < 0
  · have n1 : ¬ ∃ m, 2 ≤ m ∧ m ≤ 4 ∧ x = nI m := fun ⟨m, _, _, e⟩ => by rw [e] at q; exact nI_pos (by omega) q
    refine ⟨fun _ => h0 n1, fun z => absurd ?_ z⟩
    rw [Int32.lt_iff_toInt_lt] at q ⊢
    have q' : x.toInt < 0 := q
    show x.toInt < 2
    omega
  · obtain ⟨k, hk, rfl⟩ := nI_of q
    rw [show (2 : Int32) = nI 2 from rfl, show (4 : Int32) = nI 4 from rfl, nI_ltI hk (by omega), nI_leI hk (by omega)]
    refine ⟨fun z => h0 (fun ⟨m, a, b, e⟩ => by rw [nI_eq hk (by omega)] at e; omega), fun z => ⟨fun z2 S3 e3 => ?_, fun z2 => h0 (fun ⟨m, a, b, e⟩ => by rw [nI_eq hk (by omega)] at e; omega)⟩⟩
    have f : ∀ j, S3.1 1 j = if j = 0 then nI k else S.1 1 j := fun j => by rw [e3, uA1]
    have C3 : CA S3 k p K gc ed E G := C.fld (fun c hc => by rw [e3, uA_ne hc]) (by rw [f]; rfl) (by rw [f]; exact c2) (by rw [f]; exact c3) (by rw [f]; exact c4) (by rw [f]; exact c5) (Nat.le_refl _)
    exact sp_anew8 C3 (fun S' D g => h1 k (by omega) z2 rfl S' D (frC.tr (by rw [e3]; exact frC.fld (by decide)) g))
theorem isP_eq {x : Int32} : (∃ m, isP m ∧ x = nI m) ↔ (x = 2 ∨ x = 3 ∨ x = 5 ∨ x = 7) := by
  constructor
  · rintro ⟨m, h, e⟩
    unfold isP at h
    rcases h with rfl | rfl | rfl | rfl
    · exact Or.inl e
    · exact Or.inr (Or.inl e)
    · exact Or.inr (Or.inr (Or.inl e))
    · exact Or.inr (Or.inr (Or.inr e))
  · rintro (e | e | e | e)
    · exact ⟨2, Or.inl rfl, e⟩
    · exact ⟨3, Or.inr (Or.inl rfl), e⟩
    · exact ⟨5, Or.inr (Or.inr (Or.inl rfl)), e⟩
    · exact ⟨7, Or.inr (Or.inr (Or.inr rfl)), e⟩
theorem sp_prime8 {n p K gc ed : Nat} {E G : Nat → Nat → Int32} {x : Int32} {S : Sto} {Q : Int32 → Sto → Prop} (C : CA S n p K gc ed E G) (h1 : ∀ m, isP m → x = nI m → ∀ S', CA S' n m K 0 (ed + 1) E0 G → frC S S' → Q 1 S') (h0 : (¬ ∃ m, isP m ∧ x = nI m) → Q 0 S) : wp_X4_takePrime x S Q := by
  obtain ⟨c1, c2, c3, c4, c5, c6, c7⟩ := id C
  unfold wp_X4_takePrime
  have go : ∀ m, isP m → x = nI m → q_X4_takePrime_23 x Q S := by
    intro m hm e
    unfold q_X4_takePrime_23
    intro S3 e3
    have f : ∀ j, S3.1 1 j = if j = 1 then x else S.1 1 j := fun j => by rw [e3, uA1]
    have C3 : CA S3 n m K gc ed E G := C.fld (fun c hc => by rw [e3, uA_ne hc]) (by rw [f]; exact c1) (by rw [f]; exact e) (by rw [f]; exact c3) (by rw [f]; exact c4) (by rw [f]; exact c5) (Nat.le_refl _)
    exact sp_anew8 C3 (fun S' D g => h1 m hm e S' D (frC.tr (by rw [e3]; exact frC.fld (by decide)) g))
  exact ⟨fun e => go 2 (Or.inl rfl) e, fun a => ⟨fun e => go 3 (Or.inr (Or.inl rfl)) e, fun b => ⟨fun e => go 5 (Or.inr (Or.inr (Or.inl rfl))) e, fun c => ⟨fun e => go 7 (Or.inr (Or.inr (Or.inr rfl))) e, fun d => h0 (fun q => by
    rcases isP_eq.mp q with e | e | e | e
    · exact a e
    · exact b e
    · exact c e
    · exact d e)⟩⟩⟩⟩
theorem sp_anew9 {n p K gc : Nat} {E G : Nat → Nat → Int32} {S : Sto} {Q : Sto → Prop} (R : RA S n p K gc E G) (hQ : ∀ S', RA S' n p K 0 E0 G → frR S S' → Q S') : wp_X9_anew S Q := by
  obtain ⟨c1, c2, c3, c4, c5, c6, c7⟩ := id R
  unfold wp_X9_anew
  refine loopE (fun m e (T : Sto) => q_X9_anew_2 Q m (nI e) T) (fun e T => (∀ c, c ≠ 354 → T.1 c = S.1 c) ∧ T.2 = S.2 ∧ ∀ k, k < e → T.1 354 k = 0) 96 ?_ ?_ 0 S (by omega) ⟨fun _ _ => rfl, rfl, fun k q => by omega⟩
  · rintro T ⟨t1, t2, t3⟩
    unfold q_X9_anew_2
    refine ⟨fun _ S2 e2 => ?_, fun q => absurd (show (96 : Int32) ≤ nI 96 by decide) q⟩
    have f : ∀ j, S2.1 353 j = if j = 6 then 0 else S.1 353 j := fun j => by rw [e2, uA353, t1 353 (by decide)]
    refine hQ S2 ⟨by rw [f]; exact c1, by rw [f]; exact c2, by rw [f]; exact c3, by rw [f]; exact c4, by rw [f]; rfl, fun e he i hi => by rw [e2, uA_ne (by decide)]; exact t3 _ (by omega), fun g hg => by omega⟩ ⟨fun c hc => by rw [e2, uA_ne (by omega), t1 c (by omega)], fun j hj => by rw [f, if_neg (by omega)], by rw [e2]; exact t2⟩
  · rintro e m T he ⟨t1, t2, t3⟩ ih
    unfold q_X9_anew_2
    rw [show (96 : Int32) = nI 96 from rfl, nI_leI (by omega) (by omega), tn_nI (i := e) (by omega)]
    refine ⟨fun q => by omega, fun _ => ⟨vi he (by omega), fun S4 e4 x ex => ?_⟩⟩
    rw [ex, nI_1]
    refine ih S4 ⟨fun c hc => by rw [e4, uA_ne hc]; exact t1 c hc, by rw [e4]; exact t2, fun k hk => ?_⟩
    rw [e4, uA_eq]
    by_cases q : k = e
    · rw [q, upd_eq]
    · rw [upd_ne _ _ q]; exact t3 k (by omega)
theorem sp_letters9 {n p K gc : Nat} {E G : Nat → Nat → Int32} {x : Int32} {S : Sto} {Q : Int32 → Sto → Prop} (R : RA S n p K gc E G) (h1 : ∀ m, 2 ≤ m → m ≤ 4 → x = nI m → ∀ S', RA S' m p K 0 E0 G → frR S S' → Q (nI n) S') (h0 : (¬ ∃ m, 2 ≤ m ∧ m ≤ 4 ∧ x = nI m) → Q (-2) S) : wp_X9_letters x S Q := by
  obtain ⟨c1, c2, c3, c4, c5, c6, c7⟩ := id R
  unfold wp_X9_letters
  have ex5 := ex_iff (x := x) (k := 5) (by omega)
  refine sp_in9 (a := 2) (b := 4) ⟨by omega, by omega⟩ ⟨by omega, by omega⟩ (fun a b => ⟨fun _ x2 e2 S5 e5 S6 e6 => ?_, fun z => absurd z (by decide)⟩) (fun hn => ⟨fun z => absurd rfl z, fun _ => h0 (fun ⟨m, a, b, e⟩ => hn ?_)⟩)
  · obtain ⟨m, hm, e⟩ := ex5.mpr ⟨by omega, by omega⟩
    have h2 : 2 ≤ m := by
      rw [e, nI_toInt (by omega)] at a; omega
    rw [e, shl_n m (by omega)] at e6
    have f : ∀ j, S6.1 353 j = if j = 3 then nI (2 ^ m) else if j = 0 then nI m else S.1 353 j := fun j => by rw [e6, uA353, e5, uA353, e]
    have R6 : RA S6 m p K gc E G := R.fld (fun c hc => by rw [e6, uA_ne hc, e5, uA_ne hc]) (by rw [f]; rfl) (by rw [f]; exact c2) (by rw [f]; exact c3) (by rw [f]; rfl) (by rw [f]; exact c5) (Nat.le_refl _)
    rw [e2, c1]
    exact sp_anew9 R6 (fun S' D g => h1 m h2 (by omega) e S' D (frR.tr (by rw [e6, e5]; exact (frR.fld (by decide)).tr (frR.fld (by decide))) g))
  · rw [e, nI_toInt (by omega)]; omega
theorem sp_prime9 {n p K gc : Nat} {E G : Nat → Nat → Int32} {x : Int32} {S : Sto} {Q : Int32 → Sto → Prop} (R : RA S n p K gc E G) (h1 : ∀ m, isP m → x = nI m → ∀ S', RA S' n m K 0 E0 G → frR S S' → Q (nI p) S') (h0 : (¬ ∃ m, isP m ∧ x = nI m) → Q (-2) S) : wp_X9_prime x S Q := by
  obtain ⟨c1, c2, c3, c4, c5, c6, c7⟩ := id R
  unfold wp_X9_prime
  have go : ∀ m, isP m → x = nI m → q_X9_prime_24 x Q S := by
    intro m hm e
    unfold q_X9_prime_24
    intro x2 e2 S3 e3
    have f : ∀ j, S3.1 353 j = if j = 1 then x else S.1 353 j := fun j => by rw [e3, uA353]
    have R3 : RA S3 n m K gc E G := R.fld (fun c hc => by rw [e3, uA_ne hc]) (by rw [f]; exact c1) (by rw [f]; exact e) (by rw [f]; exact c3) (by rw [f]; exact c4) (by rw [f]; exact c5) (Nat.le_refl _)
    rw [e2, c2]
    exact sp_anew9 R3 (fun S' D g => h1 m hm e S' D (frR.tr (by rw [e3]; exact frR.fld (by decide)) g))
  exact ⟨fun e => go 2 (Or.inl rfl) e, fun a => ⟨fun e => go 3 (Or.inr (Or.inl rfl)) e, fun b => ⟨fun e => go 5 (Or.inr (Or.inr (Or.inl rfl))) e, fun c => ⟨fun e => go 7 (Or.inr (Or.inr (Or.inr rfl))) e, fun d => h0 (fun q => by
    rcases isP_eq.mp q with e | e | e | e
    · exact a e
    · exact b e
    · exact c e
    · exact d e)⟩⟩⟩⟩
