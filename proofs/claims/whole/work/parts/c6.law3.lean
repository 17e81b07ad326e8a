/-! the law's loop -/
theorem lgc {x y : Int64} (h : x = y) : lg_cmp x y = 0 := (lg_cmp_eq x y).mpr h
theorem law_loop {L : Nat} {xs : Nat → Int32} (hL : L ≤ 3072) : ∀ m t S, t + m = L / 6 → Rel S (12 * t) → q_N_law_18 L xs (fun x _ => x = 1) (m + 1) (nI (6 * t)) S := by
  intro m
  induction m with
  | zero =>
    intro t S e H
    unfold q_N_law_18
    have lt : (Int32.ofNat L - 6 < nI (6 * t)) ↔ (L : Int) - 6 < ((6 * t : Nat) : Int) := by
      rw [show Int32.ofNat L = nI L from rfl, nI_iI, nI_iI, show (6 : Int32) = iI 6 from rfl, ← iI_sub, iI_lt ⟨by omega, by omega⟩ ⟨by omega, by omega⟩]
    rw [lt]
    exact ⟨fun _ => rfl, fun z => absurd (by omega) z⟩
  | succ m ih =>
    intro t S e H
    unfold q_N_law_18
    have lt : (Int32.ofNat L - 6 < nI (6 * t)) ↔ (L : Int) - 6 < ((6 * t : Nat) : Int) := by
      rw [show Int32.ofNat L = nI L from rfl, nI_iI, nI_iI, show (6 : Int32) = iI 6 from rfl, ← iI_sub, iI_lt ⟨by omega, by omega⟩ ⟨by omega, by omega⟩]
    rw [lt]
    have nx : ∀ S', Rel S' (12 * (t + 1)) → q_N_law_1551 L xs (fun y3 S => q_N_law_18 L xs (fun x _ => x = 1) (m + 1) y3 S) (fun x _ => x = 1) (nI (6 * t)) S' := by
      intro S' h'
      unfold q_N_law_1551
      intro y3 e3
      rw [e3, show (6 : Int32) = nI 6 from rfl, nI_add, show 6 * t + 6 = 6 * (t + 1) by omega]
      exact ih (t + 1) S' (by omega) h'
    have v : ∀ k, k < 6 → vp_in (nI (6 * t) + nI k) L := fun k hk => by rw [nI_add]; exact vi (by omega) (by omega)
    have v1 : vp_in (nI (6 * t) + 1) L := v 1 (by decide)
    have v2 : vp_in (nI (6 * t) + 2) L := v 2 (by decide)
    have v3 : vp_in (nI (6 * t) + 3) L := v 3 (by decide)
    have v4 : vp_in (nI (6 * t) + 4) L := v 4 (by decide)
    have v5 : vp_in (nI (6 * t) + 5) L := v 5 (by decide)
    refine ⟨fun z => by omega, fun _ => ⟨vi (by omega) (by omega), fun y ey => ⟨fun _ => nx S (H.mono (by omega)), fun _ => by
      unfold q_N_law_208
      exact ⟨fun r r' S' => r = r' ∧ Rel S' (12 * t + 1), fun r r' S' h => ⟨fun _ => nx S' (h.2.mono (by omega)), fun z => absurd h.1 z⟩, v1, op_letters _ (by omega) H⟩,
    fun _ => by
      unfold q_N_law_231
      exact ⟨fun r r' S' => r = r' ∧ Rel S' (12 * t + 1), fun r r' S' h => ⟨fun _ => nx S' (h.2.mono (by omega)), fun z => absurd h.1 z⟩, v1, op_prime _ (by omega) H⟩,
    fun _ => by
      unfold q_N_law_254
      exact ⟨fun r r' S' => r = r' ∧ Rel S' (12 * t + 1), fun r r' S' h => ⟨fun _ => nx S' (h.2.mono (by omega)), fun z => absurd h.1 z⟩, v1, op_order _ (by omega) H⟩,
    fun _ => by
      unfold q_N_law_277
      exact ⟨fun r r' S' => r = r' ∧ Rel S' (12 * t), fun r r' S' h => ⟨fun _ => nx S' (h.2.mono (by omega)), fun z => absurd h.1 z⟩, v1, v2, v3, op_set _ _ _ (by omega) H⟩,
    fun _ => by
      unfold q_N_law_320
      exact ⟨fun r r' S' => r = r' ∧ Rel S' (12 * t), fun r r' S' h => ⟨fun _ => nx S' (h.2.mono (by omega)), fun z => absurd h.1 z⟩, v1, v2, v3, op_product _ _ _ (by omega) H⟩,
    fun _ => by
      unfold q_N_law_363
      exact ⟨fun r r' S' => r = r' ∧ Rel S' (12 * t), fun r r' S' h => ⟨fun _ => nx S' (h.2.mono (by omega)), fun z => absurd h.1 z⟩, v1, v2, v3, v4, v5, op_mix _ _ _ _ _ (by omega) H⟩,
    fun _ => by
      unfold q_N_law_426
      exact ⟨fun r r' S' => r = r' ∧ Rel S' (12 * t), fun r r' S' h => ⟨fun _ => nx S' (h.2.mono (by omega)), fun z => absurd h.1 z⟩, v1, v2, v3, op_becomes _ _ _ (by omega) H⟩,
    fun _ => by
      unfold q_N_law_469
      exact ⟨fun r r' S' => r = r' ∧ Rel S' (12 * t + 1), fun r r' S' h => ⟨fun _ => nx S' (h.2.mono (by omega)), fun z => absurd h.1 z⟩, v1, op_generate _ (by omega) H⟩,
    fun _ => by
      unfold q_N_law_492
      exact ⟨fun r r' S' => r = r' ∧ Rel S' (12 * t + 1), fun r r' S' h => ⟨fun _ => nx S' (h.2.mono (by omega)), fun z => absurd h.1 z⟩, op_clear (by omega) H⟩,
    fun _ => by
      unfold q_N_law_505
      exact ⟨fun r r' S' => r = r' ∧ Rel S' (12 * t), fun r r' S' h => ⟨fun _ => nx S' (h.2.mono (by omega)), fun z => absurd h.1 z⟩, v1, op_feed _ H⟩,
    fun _ => by
      unfold q_N_law_528
      exact ⟨fun r r' S' => r = r' ∧ Rel S' (12 * t + 12), fun r r' S' h => ⟨fun _ => nx S' (h.2.mono (by omega)), fun z => absurd h.1 z⟩, op_read (by omega) H⟩,
    fun _ => by
      unfold q_N_law_541
      exact ⟨fun r r' S' => r = r' ∧ Rel S' (12 * t), fun r r' S' h => ⟨fun _ => nx S' (h.2.mono (by omega)), fun z => absurd h.1 z⟩, v1, v2, op_of _ _ H⟩,
    fun _ => by
      unfold q_N_law_574
      exact ⟨fun r r' S' => r = r' ∧ Rel S' (12 * t), fun r r' S' h => ⟨fun _ => nx S' (h.2.mono (by omega)), fun z => absurd h.1 z⟩, v1, op_told _ H⟩,
    fun _ => by
      unfold q_N_law_597
      exact ⟨fun r r' S' => r = r' ∧ Rel S' (12 * t), fun r r' S' h => ⟨fun _ => nx S' (h.2.mono (by omega)), fun z => absurd h.1 z⟩, v1, v2, op_generator _ _ H⟩,
    fun _ => by
      unfold q_N_law_630
      exact ⟨fun r r' S' => r = r' ∧ Rel S' (12 * t), fun r r' S' h => ⟨fun _ => nx S' (h.2.mono (by omega)), fun z => absurd h.1 z⟩, v1, v2, op_places _ _ H⟩,
    fun _ => by
      unfold q_N_law_663
      exact ⟨fun r r' S' => r = r' ∧ Rel S' (12 * t), fun r r' S' h => ⟨fun _ => nx S' (h.2.mono (by omega)), fun z => absurd h.1 z⟩, v1, op_lead _ H⟩,
    fun _ => by
      unfold q_N_law_686
      exact ⟨fun r r' S' => r = r' ∧ Rel S' (12 * t), fun r r' S' h => ⟨fun _ => nx S' (h.2.mono (by omega)), fun z => absurd h.1 z⟩, v1, op_rank _ H⟩,
    fun _ => by
      unfold q_N_law_709
      exact ⟨fun r r' S' => r = r' ∧ Rel S' (12 * t), fun r r' S' h => ⟨fun _ => nx S' (h.2.mono (by omega)), fun z => absurd h.1 z⟩, v1, v2, v3, op_basis _ _ _ H⟩,
    fun _ => by
      unfold q_N_law_752
      exact ⟨fun r r' S' => r = r' ∧ Rel S' (12 * t), fun r r' S' h => ⟨fun _ => nx S' (h.2.mono (by omega)), fun z => absurd h.1 z⟩, v1, v2, op_within _ _ H⟩,
    fun _ => by
      unfold q_N_law_785
      exact ⟨fun r r' S' => r = r' ∧ Rel S' (12 * t), fun r r' S' h => ⟨fun _ => nx S' (h.2.mono (by omega)), fun z => absurd h.1 z⟩, v1, v2, v3, op_rest _ _ _ H⟩,
    fun _ => by
      unfold q_N_law_828
      exact ⟨fun r r' S' => r = r' ∧ Rel S' (12 * t), fun r r' S' h => ⟨fun _ => nx S' (h.2.mono (by omega)), fun z => absurd h.1 z⟩, v1, v2, op_count _ _ H⟩,
    fun _ => by
      unfold q_N_law_861
      exact ⟨fun r r' S' => r = r' ∧ Rel S' (12 * t), fun r r' S' h => ⟨fun _ => nx S' (h.2.mono (by omega)), fun z => absurd h.1 z⟩, v1, v2, v3, op_series _ _ _ H⟩,
    fun _ => by
      unfold q_N_law_904
      exact ⟨fun r r' S' => r = r' ∧ Rel S' (12 * t), fun r r' S' h => ⟨fun _ => nx S' (h.2.mono (by omega)), fun z => absurd (lgc h.1) z⟩, v1, op_mean _ H⟩,
    fun _ => by
      unfold q_N_law_928
      exact ⟨fun r r' S' => r = r' ∧ Rel S' (12 * t), fun r r' S' h => ⟨fun _ => nx S' (h.2.mono (by omega)), fun z => absurd h.1 z⟩, v1, v2, v3, op_annihilator _ _ _ H⟩,
    fun _ => by
      unfold q_N_law_971
      exact ⟨fun r r' S' => r = r' ∧ Rel S' (12 * t), fun r r' S' h => ⟨fun _ => nx S' (h.2.mono (by omega)), fun z => absurd h.1 z⟩, v1, v2, v3, v4, op_annihilates _ _ _ _ H⟩,
    fun _ => by
      unfold q_N_law_1024
      exact ⟨fun r r' S' => r = r' ∧ Rel S' (12 * t), fun r r' S' h => ⟨fun _ => nx S' (h.2.mono (by omega)), fun z => absurd h.1 z⟩, v1, op_step _ H⟩,
    fun _ => by
      unfold q_N_law_1047
      exact ⟨fun r r' S' => r = r' ∧ Rel S' (12 * t), fun r r' S' h => ⟨fun _ => nx S' (h.2.mono (by omega)), fun z => absurd h.1 z⟩, v1, v2, v3, v4, op_fits _ _ _ _ H⟩,
    fun _ => by
      unfold q_N_law_1100
      exact ⟨fun r r' S' => r = r' ∧ Rel S' (12 * t), fun r r' S' h => ⟨fun _ => nx S' (h.2.mono (by omega)), fun z => absurd (lgc h.1) z⟩, v1, v2, op_odds _ _ H⟩,
    fun _ => by
      unfold q_N_law_1134
      exact ⟨fun r r' S' => r = r' ∧ Rel S' (12 * t), fun r r' S' h => ⟨fun _ => nx S' (h.2.mono (by omega)), fun z => absurd h.1 z⟩, v1, v2, op_event _ _ (by omega) H⟩,
    fun _ => by
      unfold q_N_law_1167
      exact ⟨fun r r' S' => r = r' ∧ Rel S' (12 * t), fun r r' S' h => ⟨fun _ => nx S' (h.2.mono (by omega)), fun z => absurd h.1 z⟩, v1, v2, op_after _ _ H⟩,
    fun _ => by
      unfold q_N_law_1200
      exact ⟨fun r r' S' => r = r' ∧ Rel S' (12 * t), fun r r' S' h => ⟨fun _ => nx S' (h.2.mono (by omega)), fun z => absurd h.1 z⟩, v1, v2, op_book _ _ (by omega) H⟩,
    fun _ => by
      unfold q_N_law_1233
      exact ⟨fun r r' S' => r = r' ∧ Rel S' (12 * t), fun r r' S' h => ⟨fun _ => nx S' (h.2.mono (by omega)), fun z => absurd h.1 z⟩, op_looked H⟩,
    fun _ => by
      unfold q_N_law_1246
      exact ⟨fun r r' S' => r = r' ∧ Rel S' (12 * t), fun r r' S' h => ⟨fun _ => nx S' (h.2.mono (by omega)), fun z => absurd h.1 z⟩, v1, v2, v3, op_judge _ _ _ H⟩,
    fun _ => by
      unfold q_N_law_1289
      exact ⟨fun r r' S' => r = r' ∧ Rel S' (12 * t), fun r r' S' h => ⟨fun _ => nx S' (h.2.mono (by omega)), fun z => absurd h.1 z⟩, op_image H⟩,
    fun _ => by
      unfold q_N_law_1302
      exact ⟨fun r r' S' => r = r' ∧ Rel S' (12 * t + 1), fun r r' S' h => ⟨fun _ => nx S' (h.2.mono (by omega)), fun z => absurd h.1 z⟩, op_undo (by omega) H⟩,
    fun _ => by
      unfold q_N_law_1315
      exact ⟨fun r r' S' => r = r' ∧ Rel S' (12 * t), fun r r' S' h => ⟨fun _ => nx S' (h.2.mono (by omega)), fun z => absurd h.1 z⟩, v1, op_counted _ H⟩,
    fun _ => by
      unfold q_N_law_1338
      exact ⟨fun r r' S' => r = r' ∧ Rel S' (12 * t), fun r r' S' h => ⟨fun _ => nx S' (h.2.mono (by omega)), fun z => absurd h.1 z⟩, v1, v2, v3, op_tape _ _ _ H⟩,
    fun _ => by
      unfold q_N_law_1381
      exact ⟨fun r r' S' => r = r' ∧ Rel S' (12 * t), fun r r' S' h => ⟨fun _ => nx S' (h.2.mono (by omega)), fun z => absurd h.1 z⟩, v1, v2, v3, v4, op_item _ _ _ H⟩,
    fun _ => by
      unfold q_N_law_1454
      exact ⟨fun r r' S' => r = r' ∧ Rel S' (12 * t), fun r r' S' h => ⟨fun _ => nx S' (h.2.mono (by omega)), fun z => absurd (lgc h.1) z⟩, v1, v2, op_peek _ _ H⟩,
    fun _ => by
      unfold q_N_law_1488
      exact ⟨fun r r' S' => r = r' ∧ Rel S' (12 * t), fun r r' S' h => ⟨fun _ => nx S' (h.2.mono (by omega)), fun z => absurd h.1 z⟩, v1, v2, v3, v4, v5, op_shift _ _ _ _ _ H⟩⟩⟩⟩
theorem law_ok {L : Nat} {xs : Nat → Int32} {S : Sto} (hL : L ≤ 3072) (H : Rel S 0) : wp_N_law L xs S (fun x _ => x = 1) := by
  unfold wp_N_law
  exact ⟨_, law_loop hL (L / 6) 0 S (by omega) H⟩
