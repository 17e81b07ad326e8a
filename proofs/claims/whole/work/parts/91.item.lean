/-! the call that sets an item -/
def nrw (v : Int64) : Nat → Int64
  | 0 => ((v.toInt32 : Int32).toInt8.toInt32 : Int32).toInt64
  | 1 => ((v.toInt32 : Int32).toInt16.toInt32 : Int32).toInt64
  | 2 => (v.toInt32 : Int32).toInt64
  | 3 => v
  | _ => if lg_cmp v 0 = 0 then 0 else 1
theorem sp_narrowed {v : Int64} {k : Nat} {S : Sto} {Q : Int64 → Sto → Prop} (hk : k < 5) (h : Q (nrw v k) S) : wp_X7_narrowed v (nI k) S Q := by
  unfold wp_X7_narrowed q_X7_narrowed_61
  have : k = 0 ∨ k = 1 ∨ k = 2 ∨ k = 3 ∨ k = 4 := by omega
  rcases this with rfl | rfl | rfl | rfl | rfl
  · exact ⟨fun q => absurd q (by decide), fun _ => h, fun q => absurd q (by decide), fun q => absurd q (by decide), fun q => absurd q (by decide), fun q => absurd q (by decide)⟩
  · exact ⟨fun q => absurd q (by decide), fun q => absurd q (by decide), fun _ => h, fun q => absurd q (by decide), fun q => absurd q (by decide), fun q => absurd q (by decide)⟩
  · exact ⟨fun q => absurd q (by decide), fun q => absurd q (by decide), fun q => absurd q (by decide), fun _ => h, fun q => absurd q (by decide), fun q => absurd q (by decide)⟩
  · exact ⟨fun q => absurd q (by decide), fun q => absurd q (by decide), fun q => absurd q (by decide), fun q => absurd q (by decide), fun _ => h, fun q => absurd q (by decide)⟩
  · refine ⟨fun q => absurd q (by decide), fun q => absurd q (by decide), fun q => absurd q (by decide), fun q => absurd q (by decide), fun q => absurd q (by decide), fun _ => ⟨fun e => ?_, fun e => ?_⟩⟩
    · have : nrw v 4 = 0 := if_pos e
      rw [this] at h; exact h
    · have : nrw v 4 = 1 := if_neg e
      rw [this] at h; exact h
theorem op_item {S : Sto} {b : Nat} (x i : Int32) (v : Int64) (H : Rel S b) : wp_X8_item x i v S (fun r S1 => wp_X9_item x i v S1 (fun r' S2 => r = r' ∧ Rel S2 b)) := by
  obtain ⟨n, p, K, gc, ec, bc, H⟩ := H.r0
  unfold wp_X8_item
  refine sp_has8 (fun ⟨t, ht, e⟩ => ⟨fun _ => ?_, fun z => absurd z (by decide)⟩) (fun h0 => ⟨fun z => absurd rfl z, fun _ => ?_⟩)
  · subst e
    have hl := ln_tp t ht
    obtain ⟨a1, a2, l, l60, a3, a4, a5⟩ := H.2.2.2.1 t ht
    -- the reference
    have ref : ∀ S1 (Q : Int32 → Sto → Prop), S1.1 = S.1 → (S.1 39 t = -1 → Q (-11) S1) → (∀ k, k < 5 → S.1 39 t = nI k → (¬ ∃ j, j < l ∧ i = nI j) → Q (-13) S1) → (∀ k, k < 5 → S.1 39 t = nI k → ∀ j, j < l → i = nI j → ∀ S2, S2 = uL S1 361 (60 * t + j) (nrw v k) → Q 1 S2) → wp_X9_item (nI t) i v S1 Q := by
      intro S1 Q o r1 r2 r3
      unfold wp_X9_item
      refine sp_tape9 (fun _ => ⟨fun _ => ?_, fun z => absurd z (by decide)⟩) (fun h0 => absurd ⟨t, ht, rfl⟩ h0)
      rw [tn_nI (i := t) (by omega), o, a1]
      rcases a4 with ⟨e, e2⟩ | ⟨k, hk, e⟩
      · exact ⟨vi ht (by omega), fun q => absurd q (by rw [e]; decide), fun _ => r1 e⟩
      · refine ⟨vi ht (by omega), fun _ => ?_, fun q => absurd (by rw [e, show (0 : Int32) = nI 0 from rfl, nI_leI (by omega) (by omega)]; omega) q⟩
        refine sp_item9 ht ((congrFun (congrFun o 363) t).trans (a2.trans a3)) l60 (fun j hj ej => ⟨fun _ => ⟨vi ht (by omega), fun xs exs => ?_⟩, fun z => absurd z (by decide)⟩) (fun hn => ⟨fun z => absurd rfl z, fun _ => r2 k hk e hn⟩)
        rw [o, a1, e] at exs
        have go : ∀ w, w = nrw v k → q_X9_item_118 (nI t) i v Q w S1 := by
          intro w hw
          unfold q_X9_item_118
          rw [ej, show (60 : Int32) = nI 60 from rfl, pk_mul, nI_add, tn_nI (by omega)]
          exact ⟨vi (by omega) (by omega), fun S2 e2 => r3 k hk e j hj ej S2 (by rw [e2, hw])⟩
        subst exs
        have : k = 0 ∨ k = 1 ∨ k = 2 ∨ k = 3 ∨ k = 4 := by omega
        rcases this with rfl | rfl | rfl | rfl | rfl
        · exact ⟨fun q => absurd q (by decide), fun _ w hw => go w hw, fun q => absurd q (by decide), fun q => absurd q (by decide), fun q => absurd q (by decide), fun q => absurd q (by decide)⟩
        · exact ⟨fun q => absurd q (by decide), fun q => absurd q (by decide), fun _ w hw => go w hw, fun q => absurd q (by decide), fun q => absurd q (by decide), fun q => absurd q (by decide)⟩
        · exact ⟨fun q => absurd q (by decide), fun q => absurd q (by decide), fun q => absurd q (by decide), fun _ w hw => go w hw, fun q => absurd q (by decide), fun q => absurd q (by decide)⟩
        · exact ⟨fun q => absurd q (by decide), fun q => absurd q (by decide), fun q => absurd q (by decide), fun q => absurd q (by decide), fun _ => go v rfl, fun q => absurd q (by decide)⟩
        · refine ⟨fun q => absurd q (by decide), fun q => absurd q (by decide), fun q => absurd q (by decide), fun q => absurd q (by decide), fun q => absurd q (by decide), fun _ => ?_⟩
          unfold q_X9_item_113
          exact ⟨fun e => go 0 (if_pos e).symm, fun e => go 1 (if_neg e).symm⟩
    have pos : ∀ k, k < 5 → S.1 39 t = nI k → ¬ S.1 39 t = -1 := fun k hk e q => by
      rw [q] at e
      have := congrArg Int32.toInt e
      rw [nI_toInt (by omega)] at this
      have h2 : (-1 : Int) = (k : Int) := this
      omega
    unfold wp_X7_isEmpty q_X7_isEmpty_15
    rw [tn_nI (i := t) (by omega)]
    refine ⟨vi ht (by omega), fun ne => ⟨narb0, fun _ => ?_, fun q => absurd rfl q⟩, fun em => ⟨narb1, fun q => absurd q (by decide), fun _ => ref S _ rfl (fun _ => ⟨rfl, H.rel⟩) (fun k hk e => absurd em (pos k hk e)) (fun k hk e => absurd em (pos k hk e))⟩⟩
    rcases a4 with ⟨e, e2⟩ | ⟨k, hk, e⟩
    · exact absurd e ne
    · refine sp_item8 ht a3 l60 (fun j hj ej => ⟨fun _ => ⟨vi ht (by omega), vi ht (by omega), ?_⟩, fun z => absurd z (by decide)⟩) (fun hn => ⟨fun z => absurd rfl z, fun _ => ref S _ rfl (fun q => absurd q ne) (fun _ _ _ _ => ⟨rfl, H.rel⟩) (fun _ _ _ j hj ej => absurd ⟨j, hj, ej⟩ hn)⟩)
      rw [e]
      refine sp_narrowed hk ⟨by rw [hl, ej]; exact vi (by omega) (by omega), fun S15 e15 => ?_⟩
      have ej2 : i.toNatClampNeg = j := by rw [ej, tn_nI (by omega)]
      rw [ej2] at e15
      refine ref S15 _ (by rw [e15]; rfl) (fun q => absurd q ne) (fun _ _ _ hn => absurd ⟨j, hj, ej⟩ hn) (fun k' hk' e' j' hj' ej' S2 e2 => ⟨rfl, R0.rel (H.out (fun c _ _ _ _ => by rw [e2, e15]; rfl) (fun c _ _ _ => by rw [e2, e15]; rfl) ?_ (fun u hu => ?_))⟩)
      · have : S2.1 = S.1 := by rw [e2, e15]; rfl
        unfold Txt
        rw [this]; exact H.2.2.1
      · have o : S2.1 = S.1 := by rw [e2, e15]; rfl
        rw [o]
        have ek : k' = k := by rw [e, nI_eq (by omega) (by omega)] at e'; exact e'.symm
        have ejj : j' = j := by rw [ej, nI_eq (by omega) (by omega)] at ej'; exact ej'.symm
        subst ek; subst ejj
        obtain ⟨x1, x2, l', x3, x4, x5, x6⟩ := H.2.2.2.1 u hu
        refine ⟨x1, x2, l', x3, x4, x5, fun m hm => ?_⟩
        rw [e2, uL_eq2, uL_ne2 _ _ _ (show 41 + 1 + u ≠ 361 by omega), e15, uL_ne2 _ _ _ (show 361 ≠ 41 + 1 + t by omega)]
        by_cases q : u = t
        · rw [q, uL_eq2]
          by_cases q2 : m = j'
          · rw [if_pos (by omega), if_pos q2]
          · rw [if_neg (by omega), if_neg q2, ← q]; exact x6 m hm
        · rw [if_neg (by omega), uL_ne2 _ _ _ (show 41 + 1 + u ≠ 41 + 1 + t by omega)]; exact x6 m hm
  · unfold wp_X9_item
    exact sp_tape9 (fun hk => absurd hk h0) (fun _ => ⟨fun z => absurd rfl z, fun _ => ⟨rfl, H.rel⟩⟩)
