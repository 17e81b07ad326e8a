/-! the class copies a set-up -/
theorem ln_su : ∀ h, h = 1 ∨ h = 18 → ln (h + 1) = 6 ∧ ln (h + 8) = 4 ∧ ln (h + 13) = 8 ∧ ln (h + 14) = 8 ∧ ln (h + 15) = 8 ∧ ln (h + 16) = 8 := by
  intro h e
  rcases e with rfl | rfl <;> decide +kernel
theorem ln_su2 : ∀ h, h = 1 ∨ h = 18 → (∀ i, i < 6 → ln (h + 1 + 1 + i) = 16) ∧ ∀ i, i < 4 → ln (h + 8 + 1 + i) = 16 := by
  intro h e
  rcases e with rfl | rfl <;> decide +kernel
def Cpy (S S' : Sto) (p0 p1 : Nat) : Prop := (∀ c, ¬ (p0 ≤ c ∧ c ≤ p0 + 16) → S'.1 c = S.1 c) ∧ S'.2 = S.2 ∧ (∀ j, j = 0 ∨ j = 1 ∨ j = 2 ∨ j = 5 ∨ j = 8 ∨ j = 11 → S'.1 p0 j = S.1 p1 j) ∧ S'.1 p0 12 = S.1 p0 12 + 1 ∧ (∀ e, e < 6 → ∀ i, i < 16 → S'.1 (p0 + 1 + 1 + e) i = S.1 (p1 + 1 + 1 + e) i) ∧ (∀ e, e < 4 → ∀ i, i < 16 → S'.1 (p0 + 8 + 1 + e) i = S.1 (p1 + 8 + 1 + e) i) ∧
  ∀ i, i < 8 → S'.1 (p0 + 13) i = S.1 (p1 + 13) i ∧ S'.1 (p0 + 14) i = S.1 (p1 + 14) i ∧ S'.1 (p0 + 15) i = S.1 (p1 + 15) i ∧ S'.1 (p0 + 16) i = S.1 (p1 + 16) i
theorem sp_copyFrom {p0 p1 : Nat} {S : Sto} {Q : Sto → Prop} (h : (p0 = 18 ∧ p1 = 1) ∨ (p0 = 1 ∧ p1 = 18)) (hQ : ∀ S', Cpy S S' p0 p1 → Q S') : wp_X4_copyFrom p0 p1 S Q := by
  have h0 : p0 = 1 ∨ p0 = 18 := by omega
  have h1 : p1 = 1 ∨ p1 = 18 := by omega
  obtain ⟨l1, l2, l3, l4, l5, l6⟩ := ln_su p0 h0
  obtain ⟨m1, m2, m3, m4, m5, m6⟩ := ln_su p1 h1
  obtain ⟨le, lg⟩ := ln_su2 p0 h0
  obtain ⟨me, mg⟩ := ln_su2 p1 h1
  unfold wp_X4_copyFrom
  intro S1 e1 S2 e2 S3 e3
  have f3 : ∀ j, S3.1 p0 j = if j = 0 ∨ j = 1 ∨ j = 2 then S.1 p1 j else S.1 p0 j := fun j => by
    rw [e3, uA_eq, e2, uA_ne (show p1 ≠ p0 by omega), uA_eq, e1, uA_ne (show p1 ≠ p0 by omega), uA_eq]
    by_cases q2 : j = 2
    · rw [q2, upd_eq, if_pos (by omega)]
    · rw [upd_ne _ _ q2]
      by_cases q1 : j = 1
      · rw [q1, upd_eq, if_pos (by omega)]
      · rw [upd_ne _ _ q1]
        by_cases q0 : j = 0
        · rw [q0, upd_eq, if_pos (by omega)]
        · rw [upd_ne _ _ q0, if_neg (by omega)]
  have o3 : ∀ c, c ≠ p0 → S3.1 c = S.1 c := fun c hc => by rw [e3, uA_ne hc, e2, uA_ne hc, e1, uA_ne hc]
  have s3 : S3.2 = S.2 := by rw [e3, e2, e1]; rfl
  refine loopE (fun m e (T : Sto) => q_X4_copyFrom_26 p0 p1 Q m (nI e) T) (fun e T => (∀ c, ¬ (p0 + 2 ≤ c ∧ c ≤ p0 + 7) → T.1 c = S3.1 c) ∧ T.2 = S.2 ∧ ∀ k, k < e → ∀ i, i < 16 → T.1 (p0 + 1 + 1 + k) i = S.1 (p1 + 1 + 1 + k) i) 6 ?_ ?_ 0 S3 (by omega) ⟨fun _ _ => rfl, s3, fun k q => by omega⟩
  · rintro T ⟨t1, t2, t3⟩
    unfold q_X4_copyFrom_26
    refine ⟨fun _ => ?_, fun q => absurd (show (6 : Int32) ≤ nI 6 by decide) q⟩
    refine loopE (fun m e (Y : Sto) => q_X4_copyFrom_57 p0 p1 Q m (nI e) Y) (fun e Y => (∀ c, ¬ (p0 + 9 ≤ c ∧ c ≤ p0 + 12) → Y.1 c = T.1 c) ∧ Y.2 = S.2 ∧ ∀ k, k < e → ∀ i, i < 16 → Y.1 (p0 + 8 + 1 + k) i = S.1 (p1 + 8 + 1 + k) i) 4 ?_ ?_ 0 T (by omega) ⟨fun _ _ => rfl, t2, fun k q => by omega⟩
    · rintro Y ⟨y1, y2, y3⟩
      unfold q_X4_copyFrom_57
      refine ⟨fun _ Z1 g1 => ?_, fun q => absurd (show (4 : Int32) ≤ nI 4 by decide) q⟩
      refine sp_copy (W := 8) (by omega) (by omega) (by omega) (by omega) (by omega) (sp_copy (W := 8) (by omega) (by omega) (by omega) (by omega) (by omega) (fun Z4 g4 => ?_))
      refine sp_copy (W := 8) (by omega) (by omega) (by omega) (by omega) (by omega) (sp_copy (W := 8) (by omega) (by omega) (by omega) (by omega) (by omega) (fun Z7 g7 Z8 g8 => ?_))
      have yp : ∀ c, (p1 ≤ c ∧ c ≤ p1 + 16) → Y.1 c = S.1 c := fun c hc => by rw [y1 c (by omega), t1 c (by omega), o3 c (by omega)]
      have z1 : ∀ c, c ≠ p0 → Z1.1 c = Y.1 c := fun c hc => by rw [g1, uA_ne hc]
      have z4 : ∀ c, c ≠ p0 → c ≠ p0 + 13 → c ≠ p0 + 14 → Z4.1 c = Y.1 c := fun c a b d => by rw [g4, uA_ne a, setA_ne _ _ d, setA_ne _ _ b, z1 c a]
      have z4a : Z4.1 (p0 + 13) = fl 8 (Z1.1 (p1 + 13)) (Z1.1 (p0 + 13)) := by rw [g4, uA_ne (by omega), setA_ne _ _ (by omega), setA_eq]
      have z4b : Z4.1 (p0 + 14) = fl 8 (Z1.1 (p1 + 14)) (Z1.1 (p0 + 14)) := by rw [g4, uA_ne (by omega), setA_eq, setA_ne _ _ (by omega), setA_ne _ _ (by omega)]
      have z7 : ∀ c, c ≠ p0 → c ≠ p0 + 15 → c ≠ p0 + 16 → Z7.1 c = Z4.1 c := fun c a b d => by rw [g7, uA_ne a, setA_ne _ _ d, setA_ne _ _ b]
      have z7a : Z7.1 (p0 + 15) = fl 8 (Z4.1 (p1 + 15)) (Z4.1 (p0 + 15)) := by rw [g7, uA_ne (by omega), setA_ne _ _ (by omega), setA_eq]
      have z7b : Z7.1 (p0 + 16) = fl 8 (Z4.1 (p1 + 16)) (Z4.1 (p0 + 16)) := by rw [g7, uA_ne (by omega), setA_eq, setA_ne _ _ (by omega), setA_ne _ _ (by omega)]
      have z8 : ∀ c, c ≠ p0 → Z8.1 c = Z7.1 c := fun c hc => by rw [g8, uA_ne hc]
      -- the fields
      have yf : ∀ j, Y.1 p0 j = S3.1 p0 j := fun j => by rw [y1 p0 (by omega), t1 p0 (by omega)]
      have q1 : ∀ j, Z1.1 p0 j = if j = 5 then S.1 p1 5 else S3.1 p0 j := fun j => by
        rw [g1, uA_eq, yp p1 (by omega)]
        by_cases e : j = 5
        · rw [e, upd_eq, if_pos rfl]
        · rw [upd_ne _ _ e, if_neg e, yf]
      have q4 : ∀ j, Z4.1 p0 j = if j = 8 then S.1 p1 8 else if j = 5 then S.1 p1 5 else S3.1 p0 j := fun j => by
        rw [g4, uA_eq, setA_ne _ _ (by omega), setA_ne _ _ (by omega), setA_ne _ _ (by omega), setA_ne _ _ (by omega), z1 p1 (by omega), yp p1 (by omega)]
        by_cases e : j = 8
        · rw [e, upd_eq, if_pos rfl]
        · rw [upd_ne _ _ e, if_neg e, q1]
      have q7 : ∀ j, Z7.1 p0 j = if j = 11 then S.1 p1 11 else if j = 8 then S.1 p1 8 else if j = 5 then S.1 p1 5 else S3.1 p0 j := fun j => by
        rw [g7, uA_eq, setA_ne _ _ (by omega), setA_ne _ _ (by omega), setA_ne _ _ (by omega), setA_ne _ _ (by omega), z4 p1 (by omega) (by omega) (by omega), yp p1 (by omega)]
        by_cases e : j = 11
        · rw [e, upd_eq, if_pos rfl]
        · rw [upd_ne _ _ e, if_neg e, q4]
      refine hQ Z8 ⟨fun c hc => ?_, by rw [g8, g7, g4, g1]; exact y2, fun j hj => ?_, ?_, fun e he i hi => ?_, fun e he i hi => ?_, fun i hi => ⟨?_, ?_, ?_, ?_⟩⟩
      · rw [z8 c (by omega), z7 c (by omega) (by omega) (by omega), z4 c (by omega) (by omega) (by omega), y1 c (by omega), t1 c (by omega), o3 c (by omega)]
      · rw [g8, uA_eq, upd_ne _ _ (by omega), q7, f3]
        rcases hj with e | e | e | e | e | e <;> rw [e] <;> simp
      · rw [g8, uA_eq, upd_eq, q7, f3]; simp
      · rw [z8 _ (by omega), z7 _ (by omega) (by omega) (by omega), z4 _ (by omega) (by omega) (by omega), y1 _ (by omega)]; exact t3 e he i hi
      · rw [z8 _ (by omega), z7 _ (by omega) (by omega) (by omega), z4 _ (by omega) (by omega) (by omega)]; exact y3 e he i hi
      · rw [z8 _ (by omega), z7 _ (by omega) (by omega) (by omega), z4a, fl_lt _ _ hi, z1 _ (by omega), yp _ (by omega)]
      · rw [z8 _ (by omega), z7 _ (by omega) (by omega) (by omega), z4b, fl_lt _ _ hi, z1 _ (by omega), yp _ (by omega)]
      · rw [z8 _ (by omega), z7a, fl_lt _ _ hi, z4 _ (by omega) (by omega) (by omega), yp _ (by omega)]
      · rw [z8 _ (by omega), z7b, fl_lt _ _ hi, z4 _ (by omega) (by omega) (by omega), yp _ (by omega)]
    · rintro e m Y he ⟨y1, y2, y3⟩ ih
      unfold q_X4_copyFrom_57
      have a := lg e he
      have b := mg e he
      rw [show (4 : Int32) = nI 4 from rfl, nI_leI (by omega) (by omega), tn_nI (i := e) (by omega), l2, m2]
      refine ⟨fun q => by omega, fun _ => ⟨vi he (by omega), vi he (by omega), sp_copy (W := 16) (by omega) (by omega) (by omega) (by omega) (by omega) (fun x ex => ?_)⟩⟩
      rw [ex, nI_1]
      refine ih _ ⟨fun c hc => by rw [setA_ne _ _ (by omega)]; exact y1 c hc, y2, fun k hk i hi => ?_⟩
      by_cases q : k = e
      · rw [q, setA_eq, fl_lt _ _ hi, y1 _ (by omega), t1 _ (by omega), o3 _ (by omega)]
      · rw [setA_ne _ _ (by omega)]; exact y3 k (by omega) i hi
  · rintro e m T he ⟨t1, t2, t3⟩ ih
    unfold q_X4_copyFrom_26
    have a := le e he
    have b := me e he
    rw [show (6 : Int32) = nI 6 from rfl, nI_leI (by omega) (by omega), tn_nI (i := e) (by omega), l1, m1]
    refine ⟨fun q => by omega, fun _ => ⟨vi he (by omega), vi he (by omega), sp_copy (W := 16) (by omega) (by omega) (by omega) (by omega) (by omega) (fun x ex => ?_)⟩⟩
    rw [ex, nI_1]
    refine ih _ ⟨fun c hc => by rw [setA_ne _ _ (by omega)]; exact t1 c hc, t2, fun k hk i hi => ?_⟩
    by_cases q : k = e
    · rw [q, setA_eq, fl_lt _ _ hi, t1 _ (by omega), o3 _ (by omega)]
    · rw [setA_ne _ _ (by omega)]; exact t3 k (by omega) i hi
