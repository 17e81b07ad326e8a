def q_X7_isSort_14 (p0 : Int32)  (Q : Int32 → Sto → Prop) (t0 : Int32) (S : Sto) : Prop := narrow .boolean (.int t0) = .int t0 ∧ Q t0 S
set_option maxRecDepth 100000 in
set_option maxHeartbeats 4000000 in
theorem l_X7_isSort_14 {g : Gv} (p0 : Int32)  (Q : Int32 → Sto → Prop)   (t0 : Int32) (S : Sto)  (h : q_X7_isSort_14 p0  Q t0 S) : RJ g cX7_isSort RX7 (some .boolean) 1 1 14 [(0, .int p0)] [.int t0] S (Qi Q) := by
  unfold q_X7_isSort_14 at h
  obtain ⟨hb, h⟩ := h
  exact J_iret dX7_isSort_14 rfl hb ⟨_, rfl, h⟩
def q_X7_isSort_13 (p0 : Int32)  (Q : Int32 → Sto → Prop)  (S : Sto) : Prop := q_X7_isSort_14 p0  Q 0 S
set_option maxRecDepth 100000 in
set_option maxHeartbeats 4000000 in
theorem l_X7_isSort_13 {g : Gv} (p0 : Int32)  (Q : Int32 → Sto → Prop)    (S : Sto)  (h : q_X7_isSort_13 p0  Q  S) : RJ g cX7_isSort RX7 (some .boolean) 1 1 13 [(0, .int p0)] [] S (Qi Q) := by
  unfold q_X7_isSort_13 at h
  refine J_iconst (v := 0) dX7_isSort_13 (by decide)  ?_
  exact l_X7_isSort_14 p0  _   _ _  h
def wp_X7_isSort (p0 : Int32) (S : Sto) (Q : Int32 → Sto → Prop) : Prop := ((p0 < 0 → q_X7_isSort_13 p0  Q  S) ∧ (¬ p0 < 0 → ((4 < p0 → q_X7_isSort_13 p0  Q  S) ∧ (¬ 4 < p0 → q_X7_isSort_14 p0  Q 1 S))))
set_option maxRecDepth 100000 in
set_option maxHeartbeats 4000000 in
theorem c_X7_isSort {g : Gv} (p0 : Int32)  (S : Sto) (Q : Int32 → Sto → Prop) (h : wp_X7_isSort p0 S Q) : CT g yX7_isSort cX7_isSort 1 (some .boolean) 1 [.int p0] S (Qi Q) := by
  unfold wp_X7_isSort at h
  refine CT.of (by decide) (Nat.le_of_ble_eq_true rfl) ?_
  refine J_sub (lv' := [(0, .int p0)]) [0] rfl ?_
  refine J_iload_n dX7_isSort_0 rfl 0 rfl  ?_
  refine J_if_lt (tgt := 13) dX7_isSort_1 (by decide) (fun c_1 => ?_) (fun c_1 => ?_)
  · have h := h.1 c_1
    exact l_X7_isSort_13 p0  _    _  h
  · have h := h.2 c_1
    refine J_iload_n dX7_isSort_4 rfl 0 rfl  ?_
    refine J_iconst (v := 4) dX7_isSort_5 (by decide)  ?_
    refine J_icmp_gt (tgt := 13) dX7_isSort_6 (by decide) (fun c_2 => ?_) (fun c_2 => ?_)
    · have h := h.1 c_2
      exact l_X7_isSort_13 p0  _    _  h
    · have h := h.2 c_2
      refine J_iconst (v := 1) dX7_isSort_9 (by decide)  ?_
      refine J_goto (tgt := 14) dX7_isSort_10 (by decide)  ?_
      exact l_X7_isSort_14 p0  _   _ _  h
def q_X7_narrowed_61 (p0 : Int64) (p2 : Int32)  (Q : Int64 → Sto → Prop) (t0 : Int64) (S : Sto) : Prop := Q t0 S
set_option maxRecDepth 100000 in
set_option maxHeartbeats 4000000 in
theorem l_X7_narrowed_61 {g : Gv} (p0 : Int64) (p2 : Int32)  (Q : Int64 → Sto → Prop)   (t0 : Int64) (S : Sto)  (h : q_X7_narrowed_61 p0 p2  Q t0 S) : RJ g cX7_narrowed RX7 (some .long) 3 1 61 [(0, .long p0), (2, .int p2)] [.long t0] S (Ql Q) := by
  unfold q_X7_narrowed_61 at h
  exact J_lret dX7_narrowed_61 rfl ⟨_, rfl, h⟩
def wp_X7_narrowed (p0 : Int64) (p2 : Int32) (S : Sto) (Q : Int64 → Sto → Prop) : Prop := ((p2.toInt < 0 ∨ 4 < p2.toInt → Q p0 S) ∧ (p2 = 0 → Q ((((p0 : Int64).toInt32 : Int32).toInt8.toInt32 : Int32).toInt64) S) ∧ (p2 = 1 → Q ((((p0 : Int64).toInt32 : Int32).toInt16.toInt32 : Int32).toInt64) S) ∧ (p2 = 2 → Q (((p0 : Int64).toInt32 : Int32).toInt64) S) ∧ (p2 = 3 → Q p0 S) ∧ (p2 = 4 → (((lg_cmp p0 0) = 0 → q_X7_narrowed_61 p0 p2  Q 0 S) ∧ (¬ (lg_cmp p0 0) = 0 → q_X7_narrowed_61 p0 p2  Q 1 S))))
set_option maxRecDepth 100000 in
set_option maxHeartbeats 4000000 in
theorem c_X7_narrowed {g : Gv} (p0 : Int64) (p2 : Int32)  (S : Sto) (Q : Int64 → Sto → Prop) (h : wp_X7_narrowed p0 p2 S Q) : CT g yX7_narrowed cX7_narrowed 3 (some .long) 1 [.long p0, .int p2] S (Ql Q) := by
  unfold wp_X7_narrowed at h
  refine CT.of (by decide) (Nat.le_of_ble_eq_true rfl) ?_
  refine J_sub (lv' := [(0, .long p0), (2, .int p2)]) [0, 1] rfl ?_
  refine J_iload_n dX7_narrowed_0 rfl 1 rfl  ?_
  by_cases hsw : p2.toInt < 0 ∨ 4 < p2.toInt
  · have h := h.1 hsw
    refine J_tableOut (tgt := 62) dX7_narrowed_1 hsw (by decide) ?_
    refine J_lload_n dX7_narrowed_62 rfl 0 rfl  ?_
    exact J_lret dX7_narrowed_63 rfl ⟨_, rfl, h⟩
  · have h := h.2
    obtain ⟨ksw, hk1, hk2⟩ := sw_in (n := 4) (fun q => hsw (Or.inl q)) (fun q => hsw (Or.inr q))
    by_cases hs0 : ksw = 0
    · have hx : p2 = 0 := by rw [hk2, hs0]; rfl
      have h := h.1 hx
      refine J_tableIn (off := 35) (tgt := 36) dX7_narrowed_1 (by rw [hx]; decide) (by rw [hx]; decide) (by rw [hx]; decide) (by decide) ?_
      refine J_lload_n dX7_narrowed_36 rfl 0 rfl  ?_
      refine J_l2i dX7_narrowed_37  ?_
      refine J_i2b dX7_narrowed_38  ?_
      refine J_i2l dX7_narrowed_39  ?_
      exact J_lret dX7_narrowed_40 rfl ⟨_, rfl, h⟩
    by_cases hs1 : ksw = 1
    · have hx : p2 = 1 := by rw [hk2, hs1]; rfl
      have h := h.2.1 hx
      refine J_tableIn (off := 40) (tgt := 41) dX7_narrowed_1 (by rw [hx]; decide) (by rw [hx]; decide) (by rw [hx]; decide) (by decide) ?_
      refine J_lload_n dX7_narrowed_41 rfl 0 rfl  ?_
      refine J_l2i dX7_narrowed_42  ?_
      refine J_i2s dX7_narrowed_43  ?_
      refine J_i2l dX7_narrowed_44  ?_
      exact J_lret dX7_narrowed_45 rfl ⟨_, rfl, h⟩
    by_cases hs2 : ksw = 2
    · have hx : p2 = 2 := by rw [hk2, hs2]; rfl
      have h := h.2.2.1 hx
      refine J_tableIn (off := 45) (tgt := 46) dX7_narrowed_1 (by rw [hx]; decide) (by rw [hx]; decide) (by rw [hx]; decide) (by decide) ?_
      refine J_lload_n dX7_narrowed_46 rfl 0 rfl  ?_
      refine J_l2i dX7_narrowed_47  ?_
      refine J_i2l dX7_narrowed_48  ?_
      exact J_lret dX7_narrowed_49 rfl ⟨_, rfl, h⟩
    by_cases hs3 : ksw = 3
    · have hx : p2 = 3 := by rw [hk2, hs3]; rfl
      have h := h.2.2.2.1 hx
      refine J_tableIn (off := 61) (tgt := 62) dX7_narrowed_1 (by rw [hx]; decide) (by rw [hx]; decide) (by rw [hx]; decide) (by decide) ?_
      refine J_lload_n dX7_narrowed_62 rfl 0 rfl  ?_
      exact J_lret dX7_narrowed_63 rfl ⟨_, rfl, h⟩
    by_cases hs4 : ksw = 4
    · have hx : p2 = 4 := by rw [hk2, hs4]; rfl
      have h := h.2.2.2.2 hx
      refine J_tableIn (off := 49) (tgt := 50) dX7_narrowed_1 (by rw [hx]; decide) (by rw [hx]; decide) (by rw [hx]; decide) (by decide) ?_
      refine J_lload_n dX7_narrowed_50 rfl 0 rfl  ?_
      refine J_lconst (v := 0) dX7_narrowed_51 (by decide)  ?_
      refine J_lcmp dX7_narrowed_52  ?_
      refine J_if_eq (tgt := 60) dX7_narrowed_53 (by decide) (fun c_1 => ?_) (fun c_1 => ?_)
      · have h := h.1 c_1
        refine J_lconst (v := 0) dX7_narrowed_60 (by decide)  ?_
        exact l_X7_narrowed_61 p0 p2  _   _ _  h
      · have h := h.2 c_1
        refine J_lconst (v := 1) dX7_narrowed_56 (by decide)  ?_
        refine J_goto (tgt := 61) dX7_narrowed_57 (by decide)  ?_
        exact l_X7_narrowed_61 p0 p2  _   _ _  h
    omega
def q_X7_has_15 (p1 : Int32)  (Q : Int32 → Sto → Prop) (t0 : Int32) (S : Sto) : Prop := narrow .boolean (.int t0) = .int t0 ∧ Q t0 S
set_option maxRecDepth 100000 in
set_option maxHeartbeats 4000000 in
theorem l_X7_has_15 {g : Gv} (p1 : Int32)  (Q : Int32 → Sto → Prop)   (t0 : Int32) (S : Sto)  (h : q_X7_has_15 p1  Q t0 S) : RJ g cX7_has RX7 (some .boolean) 2 1 15 [(0, .ref (g.1 + 38)), (1, .int p1)] [.int t0] S (Qi Q) := by
  unfold q_X7_has_15 at h
  obtain ⟨hb, h⟩ := h
  exact J_iret dX7_has_15 rfl hb ⟨_, rfl, h⟩
def q_X7_has_14 (p1 : Int32)  (Q : Int32 → Sto → Prop)  (S : Sto) : Prop := q_X7_has_15 p1  Q 0 S
set_option maxRecDepth 100000 in
set_option maxHeartbeats 4000000 in
theorem l_X7_has_14 {g : Gv} (p1 : Int32)  (Q : Int32 → Sto → Prop)    (S : Sto)  (h : q_X7_has_14 p1  Q  S) : RJ g cX7_has RX7 (some .boolean) 2 1 14 [(0, .ref (g.1 + 38)), (1, .int p1)] [] S (Qi Q) := by
  unfold q_X7_has_14 at h
  refine J_iconst (v := 0) dX7_has_14 (by decide)  ?_
  exact l_X7_has_15 p1  _   _ _  h
def wp_X7_has (p1 : Int32) (S : Sto) (Q : Int32 → Sto → Prop) : Prop := ((p1 < 0 → q_X7_has_14 p1  Q  S) ∧ (¬ p1 < 0 → ((6 ≤ p1 → q_X7_has_14 p1  Q  S) ∧ (¬ 6 ≤ p1 → q_X7_has_15 p1  Q 1 S))))
set_option maxRecDepth 100000 in
set_option maxHeartbeats 4000000 in
theorem c_X7_has {g : Gv} (p1 : Int32)  (S : Sto) (Q : Int32 → Sto → Prop) (h : wp_X7_has p1 S Q) : CT g yX7_has cX7_has 2 (some .boolean) 1 [.ref (g.1 + 38), .int p1] S (Qi Q) := by
  unfold wp_X7_has at h
  refine CT.of (by decide) (Nat.le_of_ble_eq_true rfl) ?_
  refine J_sub (lv' := [(0, .ref (g.1 + 38)), (1, .int p1)]) [0, 1] rfl ?_
  refine J_iload_n dX7_has_0 rfl 1 rfl  ?_
  refine J_if_lt (tgt := 14) dX7_has_1 (by decide) (fun c_1 => ?_) (fun c_1 => ?_)
  · have h := h.1 c_1
    exact l_X7_has_14 p1  _    _  h
  · have h := h.2 c_1
    refine J_iload_n dX7_has_4 rfl 1 rfl  ?_
    refine J_bipush (v := 6) dX7_has_5 (by decide)  ?_
    refine J_icmp_ge (tgt := 14) dX7_has_7 (by decide) (fun c_2 => ?_) (fun c_2 => ?_)
    · have h := h.1 c_2
      exact l_X7_has_14 p1  _    _  h
    · have h := h.2 c_2
      refine J_iconst (v := 1) dX7_has_10 (by decide)  ?_
      refine J_goto (tgt := 15) dX7_has_11 (by decide)  ?_
      exact l_X7_has_15 p1  _   _ _  h
def q_X7_isEmpty_15 (p1 : Int32)  (Q : Int32 → Sto → Prop) (t0 : Int32) (S : Sto) : Prop := narrow .boolean (.int t0) = .int t0 ∧ Q t0 S
set_option maxRecDepth 100000 in
set_option maxHeartbeats 4000000 in
theorem l_X7_isEmpty_15 {g : Gv} (p1 : Int32)  (Q : Int32 → Sto → Prop)   (t0 : Int32) (S : Sto)  (h : q_X7_isEmpty_15 p1  Q t0 S) : RJ g cX7_isEmpty RX7 (some .boolean) 2 1 15 [(0, .ref (g.1 + 38)), (1, .int p1)] [.int t0] S (Qi Q) := by
  unfold q_X7_isEmpty_15 at h
  obtain ⟨hb, h⟩ := h
  exact J_iret dX7_isEmpty_15 rfl hb ⟨_, rfl, h⟩
def wp_X7_isEmpty (p1 : Int32) (S : Sto) (Q : Int32 → Sto → Prop) : Prop := vp_in p1 (6) ∧ ((¬ (S.1 39 (p1 : Int32).toNatClampNeg) = ((-1)) → q_X7_isEmpty_15 p1  Q 0 S) ∧ ((S.1 39 (p1 : Int32).toNatClampNeg) = ((-1)) → q_X7_isEmpty_15 p1  Q 1 S))
set_option maxRecDepth 100000 in
set_option maxHeartbeats 4000000 in
theorem c_X7_isEmpty {g : Gv} (p1 : Int32)  (S : Sto) (Q : Int32 → Sto → Prop) (h : wp_X7_isEmpty p1 S Q) : CT g yX7_isEmpty cX7_isEmpty 2 (some .boolean) 1 [.ref (g.1 + 38), .int p1] S (Qi Q) := by
  unfold wp_X7_isEmpty at h
  refine CT.of (by decide) (Nat.le_of_ble_eq_true rfl) ?_
  refine J_sub (lv' := [(0, .ref (g.1 + 38)), (1, .int p1)]) [0, 1] rfl ?_
  refine J_aload_n dX7_isEmpty_0 rfl 0 rfl  ?_
  refine J_getr (r := 39) (ci := 5) dX7_isEmpty_1 0 rfl giX7 (by decide) (by decide) rfl rfl tb_1_127 (by decide) (by decide)  ?_
  refine J_iload_n dX7_isEmpty_4 rfl 1 rfl  ?_
  obtain ⟨hi_1, h⟩ := h
  refine J_iald dX7_isEmpty_5 (by decide) hi_1  ?_
  refine J_iconst (v := (-1)) dX7_isEmpty_6 (by decide)  ?_
  refine J_icmp_ne (tgt := 14) dX7_isEmpty_7 (by decide) (fun c_2 => ?_) (fun c_2 => ?_)
  · have h := h.1 c_2
    refine J_iconst (v := 0) dX7_isEmpty_14 (by decide)  ?_
    exact l_X7_isEmpty_15 p1  _   _ _  h
  · have h := h.2 c_2
    refine J_iconst (v := 1) dX7_isEmpty_10 (by decide)  ?_
    refine J_goto (tgt := 15) dX7_isEmpty_11 (by decide)  ?_
    exact l_X7_isEmpty_15 p1  _   _ _  h
def q_X7_holdsBytes_14 (p1 : Int32)  (Q : Int32 → Sto → Prop) (t0 : Int32) (S : Sto) : Prop := narrow .boolean (.int t0) = .int t0 ∧ Q t0 S
set_option maxRecDepth 100000 in
set_option maxHeartbeats 4000000 in
theorem l_X7_holdsBytes_14 {g : Gv} (p1 : Int32)  (Q : Int32 → Sto → Prop)   (t0 : Int32) (S : Sto)  (h : q_X7_holdsBytes_14 p1  Q t0 S) : RJ g cX7_holdsBytes RX7 (some .boolean) 2 1 14 [(0, .ref (g.1 + 38)), (1, .int p1)] [.int t0] S (Qi Q) := by
  unfold q_X7_holdsBytes_14 at h
  obtain ⟨hb, h⟩ := h
  exact J_iret dX7_holdsBytes_14 rfl hb ⟨_, rfl, h⟩
def wp_X7_holdsBytes (p1 : Int32) (S : Sto) (Q : Int32 → Sto → Prop) : Prop := vp_in p1 (6) ∧ ((¬ (S.1 39 (p1 : Int32).toNatClampNeg) = 0 → q_X7_holdsBytes_14 p1  Q 0 S) ∧ ((S.1 39 (p1 : Int32).toNatClampNeg) = 0 → q_X7_holdsBytes_14 p1  Q 1 S))
set_option maxRecDepth 100000 in
set_option maxHeartbeats 4000000 in
theorem c_X7_holdsBytes {g : Gv} (p1 : Int32)  (S : Sto) (Q : Int32 → Sto → Prop) (h : wp_X7_holdsBytes p1 S Q) : CT g yX7_holdsBytes cX7_holdsBytes 2 (some .boolean) 1 [.ref (g.1 + 38), .int p1] S (Qi Q) := by
  unfold wp_X7_holdsBytes at h
  refine CT.of (by decide) (Nat.le_of_ble_eq_true rfl) ?_
  refine J_sub (lv' := [(0, .ref (g.1 + 38)), (1, .int p1)]) [0, 1] rfl ?_
  refine J_aload_n dX7_holdsBytes_0 rfl 0 rfl  ?_
  refine J_getr (r := 39) (ci := 5) dX7_holdsBytes_1 0 rfl giX7 (by decide) (by decide) rfl rfl tb_1_127 (by decide) (by decide)  ?_
  refine J_iload_n dX7_holdsBytes_4 rfl 1 rfl  ?_
  obtain ⟨hi_1, h⟩ := h
  refine J_iald dX7_holdsBytes_5 (by decide) hi_1  ?_
  refine J_if_ne (tgt := 13) dX7_holdsBytes_6 (by decide) (fun c_2 => ?_) (fun c_2 => ?_)
  · have h := h.1 c_2
    refine J_iconst (v := 0) dX7_holdsBytes_13 (by decide)  ?_
    exact l_X7_holdsBytes_14 p1  _   _ _  h
  · have h := h.2 c_2
    refine J_iconst (v := 1) dX7_holdsBytes_9 (by decide)  ?_
    refine J_goto (tgt := 14) dX7_holdsBytes_10 (by decide)  ?_
    exact l_X7_holdsBytes_14 p1  _   _ _  h
def q_X7_hasItem_19 (p1 : Int32) (p2 : Int32)  (Q : Int32 → Sto → Prop) (t0 : Int32) (S : Sto) : Prop := narrow .boolean (.int t0) = .int t0 ∧ Q t0 S
set_option maxRecDepth 100000 in
set_option maxHeartbeats 4000000 in
theorem l_X7_hasItem_19 {g : Gv} (p1 : Int32) (p2 : Int32)  (Q : Int32 → Sto → Prop)   (t0 : Int32) (S : Sto)  (h : q_X7_hasItem_19 p1 p2  Q t0 S) : RJ g cX7_hasItem RX7 (some .boolean) 3 1 19 [(0, .ref (g.1 + 38)), (1, .int p1), (2, .int p2)] [.int t0] S (Qi Q) := by
  unfold q_X7_hasItem_19 at h
  obtain ⟨hb, h⟩ := h
  exact J_iret dX7_hasItem_19 rfl hb ⟨_, rfl, h⟩
def q_X7_hasItem_18 (p1 : Int32) (p2 : Int32)  (Q : Int32 → Sto → Prop)  (S : Sto) : Prop := q_X7_hasItem_19 p1 p2  Q 0 S
set_option maxRecDepth 100000 in
set_option maxHeartbeats 4000000 in
theorem l_X7_hasItem_18 {g : Gv} (p1 : Int32) (p2 : Int32)  (Q : Int32 → Sto → Prop)    (S : Sto)  (h : q_X7_hasItem_18 p1 p2  Q  S) : RJ g cX7_hasItem RX7 (some .boolean) 3 1 18 [(0, .ref (g.1 + 38)), (1, .int p1), (2, .int p2)] [] S (Qi Q) := by
  unfold q_X7_hasItem_18 at h
  refine J_iconst (v := 0) dX7_hasItem_18 (by decide)  ?_
  exact l_X7_hasItem_19 p1 p2  _   _ _  h
def wp_X7_hasItem (p1 : Int32) (p2 : Int32) (S : Sto) (Q : Int32 → Sto → Prop) : Prop := ((p2 < 0 → q_X7_hasItem_18 p1 p2  Q  S) ∧ (¬ p2 < 0 → vp_in p1 (6) ∧ (((S.1 40 (p1 : Int32).toNatClampNeg) ≤ p2 → q_X7_hasItem_18 p1 p2  Q  S) ∧ (¬ (S.1 40 (p1 : Int32).toNatClampNeg) ≤ p2 → q_X7_hasItem_19 p1 p2  Q 1 S))))
set_option maxRecDepth 100000 in
set_option maxHeartbeats 4000000 in
theorem c_X7_hasItem {g : Gv} (p1 : Int32) (p2 : Int32)  (S : Sto) (Q : Int32 → Sto → Prop) (h : wp_X7_hasItem p1 p2 S Q) : CT g yX7_hasItem cX7_hasItem 3 (some .boolean) 1 [.ref (g.1 + 38), .int p1, .int p2] S (Qi Q) := by
  unfold wp_X7_hasItem at h
  refine CT.of (by decide) (Nat.le_of_ble_eq_true rfl) ?_
  refine J_sub (lv' := [(0, .ref (g.1 + 38)), (1, .int p1), (2, .int p2)]) [0, 1, 2] rfl ?_
  refine J_iload_n dX7_hasItem_0 rfl 2 rfl  ?_
  refine J_if_lt (tgt := 18) dX7_hasItem_1 (by decide) (fun c_1 => ?_) (fun c_1 => ?_)
  · have h := h.1 c_1
    exact l_X7_hasItem_18 p1 p2  _    _  h
  · have h := h.2 c_1
    refine J_iload_n dX7_hasItem_4 rfl 2 rfl  ?_
    refine J_aload_n dX7_hasItem_5 rfl 0 rfl  ?_
    refine J_getr (r := 40) (ci := 5) dX7_hasItem_6 1 rfl giX7 (by decide) (by decide) rfl rfl tb_1_129 (by decide) (by decide)  ?_
    refine J_iload_n dX7_hasItem_9 rfl 1 rfl  ?_
    obtain ⟨hi_2, h⟩ := h
    refine J_iald dX7_hasItem_10 (by decide) hi_2  ?_
    refine J_icmp_ge (tgt := 18) dX7_hasItem_11 (by decide) (fun c_3 => ?_) (fun c_3 => ?_)
    · have h := h.1 c_3
      exact l_X7_hasItem_18 p1 p2  _    _  h
    · have h := h.2 c_3
      refine J_iconst (v := 1) dX7_hasItem_14 (by decide)  ?_
      refine J_goto (tgt := 19) dX7_hasItem_15 (by decide)  ?_
      exact l_X7_hasItem_19 p1 p2  _   _ _  h
def q_X7_hasStretch_35 (p1 : Int32) (p2 : Int32) (p3 : Int32)  (Q : Int32 → Sto → Prop) (t0 : Int32) (S : Sto) : Prop := narrow .boolean (.int t0) = .int t0 ∧ Q t0 S
set_option maxRecDepth 100000 in
set_option maxHeartbeats 4000000 in
theorem l_X7_hasStretch_35 {g : Gv} (p1 : Int32) (p2 : Int32) (p3 : Int32)  (Q : Int32 → Sto → Prop)   (t0 : Int32) (S : Sto)  (h : q_X7_hasStretch_35 p1 p2 p3  Q t0 S) : RJ g cX7_hasStretch RX7 (some .boolean) 4 1 35 [(0, .ref (g.1 + 38)), (1, .int p1), (2, .int p2), (3, .int p3)] [.int t0] S (Qi Q) := by
  unfold q_X7_hasStretch_35 at h
  obtain ⟨hb, h⟩ := h
  exact J_iret dX7_hasStretch_35 rfl hb ⟨_, rfl, h⟩
def q_X7_hasStretch_34 (p1 : Int32) (p2 : Int32) (p3 : Int32)  (Q : Int32 → Sto → Prop)  (S : Sto) : Prop := q_X7_hasStretch_35 p1 p2 p3  Q 0 S
set_option maxRecDepth 100000 in
set_option maxHeartbeats 4000000 in
theorem l_X7_hasStretch_34 {g : Gv} (p1 : Int32) (p2 : Int32) (p3 : Int32)  (Q : Int32 → Sto → Prop)    (S : Sto)  (h : q_X7_hasStretch_34 p1 p2 p3  Q  S) : RJ g cX7_hasStretch RX7 (some .boolean) 4 1 34 [(0, .ref (g.1 + 38)), (1, .int p1), (2, .int p2), (3, .int p3)] [] S (Qi Q) := by
  unfold q_X7_hasStretch_34 at h
  refine J_iconst (v := 0) dX7_hasStretch_34 (by decide)  ?_
  exact l_X7_hasStretch_35 p1 p2 p3  _   _ _  h
def wp_X7_hasStretch (p1 : Int32) (p2 : Int32) (p3 : Int32) (S : Sto) (Q : Int32 → Sto → Prop) : Prop := ((p2 < 0 → q_X7_hasStretch_34 p1 p2 p3  Q  S) ∧ (¬ p2 < 0 → ((p3 < 0 → q_X7_hasStretch_34 p1 p2 p3  Q  S) ∧ (¬ p3 < 0 → vp_in p1 (6) ∧ (((S.1 40 (p1 : Int32).toNatClampNeg) < p2 → q_X7_hasStretch_34 p1 p2 p3  Q  S) ∧ (¬ (S.1 40 (p1 : Int32).toNatClampNeg) < p2 → vp_in p1 (6) ∧ ((((S.1 40 (p1 : Int32).toNatClampNeg) - p2) < p3 → q_X7_hasStretch_34 p1 p2 p3  Q  S) ∧ (¬ ((S.1 40 (p1 : Int32).toNatClampNeg) - p2) < p3 → q_X7_hasStretch_35 p1 p2 p3  Q 1 S))))))))
set_option maxRecDepth 100000 in
set_option maxHeartbeats 4000000 in
theorem c_X7_hasStretch {g : Gv} (p1 : Int32) (p2 : Int32) (p3 : Int32)  (S : Sto) (Q : Int32 → Sto → Prop) (h : wp_X7_hasStretch p1 p2 p3 S Q) : CT g yX7_hasStretch cX7_hasStretch 4 (some .boolean) 1 [.ref (g.1 + 38), .int p1, .int p2, .int p3] S (Qi Q) := by
  unfold wp_X7_hasStretch at h
  refine CT.of (by decide) (Nat.le_of_ble_eq_true rfl) ?_
  refine J_sub (lv' := [(0, .ref (g.1 + 38)), (1, .int p1), (2, .int p2), (3, .int p3)]) [0, 1, 2, 3] rfl ?_
  refine J_iload_n dX7_hasStretch_0 rfl 2 rfl  ?_
  refine J_if_lt (tgt := 34) dX7_hasStretch_1 (by decide) (fun c_1 => ?_) (fun c_1 => ?_)
  · have h := h.1 c_1
    exact l_X7_hasStretch_34 p1 p2 p3  _    _  h
  · have h := h.2 c_1
    refine J_iload_n dX7_hasStretch_4 rfl 3 rfl  ?_
    refine J_if_lt (tgt := 34) dX7_hasStretch_5 (by decide) (fun c_2 => ?_) (fun c_2 => ?_)
    · have h := h.1 c_2
      exact l_X7_hasStretch_34 p1 p2 p3  _    _  h
    · have h := h.2 c_2
      refine J_iload_n dX7_hasStretch_8 rfl 2 rfl  ?_
      refine J_aload_n dX7_hasStretch_9 rfl 0 rfl  ?_
      refine J_getr (r := 40) (ci := 5) dX7_hasStretch_10 1 rfl giX7 (by decide) (by decide) rfl rfl tb_1_129 (by decide) (by decide)  ?_
      refine J_iload_n dX7_hasStretch_13 rfl 1 rfl  ?_
      obtain ⟨hi_3, h⟩ := h
      refine J_iald dX7_hasStretch_14 (by decide) hi_3  ?_
      refine J_icmp_gt (tgt := 34) dX7_hasStretch_15 (by decide) (fun c_4 => ?_) (fun c_4 => ?_)
      · have h := h.1 c_4
        exact l_X7_hasStretch_34 p1 p2 p3  _    _  h
      · have h := h.2 c_4
        refine J_iload_n dX7_hasStretch_18 rfl 3 rfl  ?_
        refine J_aload_n dX7_hasStretch_19 rfl 0 rfl  ?_
        refine J_getr (r := 40) (ci := 5) dX7_hasStretch_20 1 rfl giX7 (by decide) (by decide) rfl rfl tb_1_129 (by decide) (by decide)  ?_
        refine J_iload_n dX7_hasStretch_23 rfl 1 rfl  ?_
        obtain ⟨hi_5, h⟩ := h
        refine J_iald dX7_hasStretch_24 (by decide) hi_5  ?_
        refine J_iload_n dX7_hasStretch_25 rfl 2 rfl  ?_
        refine J_isub dX7_hasStretch_26  ?_
        refine J_icmp_gt (tgt := 34) dX7_hasStretch_27 (by decide) (fun c_6 => ?_) (fun c_6 => ?_)
        · have h := h.1 c_6
          exact l_X7_hasStretch_34 p1 p2 p3  _    _  h
        · have h := h.2 c_6
          refine J_iconst (v := 1) dX7_hasStretch_30 (by decide)  ?_
          refine J_goto (tgt := 35) dX7_hasStretch_31 (by decide)  ?_
          exact l_X7_hasStretch_35 p1 p2 p3  _   _ _  h
def wp_X7_discard (p1 : Int32) (S : Sto) (Q : Sto → Prop) : Prop := vp_in p1 (6) ∧ ∀ S_2 : Sto, S_2 = uA S 39 (p1 : Int32).toNatClampNeg ((-1)) → vp_in p1 (6) ∧ ∀ S_4 : Sto, S_4 = uA S_2 40 (p1 : Int32).toNatClampNeg 0 → Q S_4
set_option maxRecDepth 100000 in
set_option maxHeartbeats 4000000 in
theorem c_X7_discard {g : Gv} (p1 : Int32)  (S : Sto) (Q : Sto → Prop) (h : wp_X7_discard p1 S Q) : CT g yX7_discard cX7_discard 2 none 1 [.ref (g.1 + 38), .int p1] S (Qv Q) := by
  unfold wp_X7_discard at h
  refine CT.of (by decide) (Nat.le_of_ble_eq_true rfl) ?_
  refine J_sub (lv' := [(0, .ref (g.1 + 38)), (1, .int p1)]) [0, 1] rfl ?_
  refine J_aload_n dX7_discard_0 rfl 0 rfl  ?_
  refine J_getr (r := 39) (ci := 5) dX7_discard_1 0 rfl giX7 (by decide) (by decide) rfl rfl tb_1_127 (by decide) (by decide)  ?_
  refine J_iload_n dX7_discard_4 rfl 1 rfl  ?_
  refine J_iconst (v := (-1)) dX7_discard_5 (by decide)  ?_
  obtain ⟨hi_1, h⟩ := h
  refine J_iast dX7_discard_6 (by decide) hi_1  ?_
  refine J_nmS (fun S_2 eS_2 => ?_)
  have h := h S_2 eS_2
  refine J_aload_n dX7_discard_7 rfl 0 rfl  ?_
  refine J_getr (r := 40) (ci := 5) dX7_discard_8 1 rfl giX7 (by decide) (by decide) rfl rfl tb_1_129 (by decide) (by decide)  ?_
  refine J_iload_n dX7_discard_11 rfl 1 rfl  ?_
  refine J_iconst (v := 0) dX7_discard_12 (by decide)  ?_
  obtain ⟨hi_3, h⟩ := h
  refine J_iast dX7_discard_13 (by decide) hi_3  ?_
  refine J_nmS (fun S_4 eS_4 => ?_)
  have h := h S_4 eS_4
  exact J_vret dX7_discard_14 rfl ⟨rfl, h⟩
def q_X7_lay_17 (p1 : Int32) (p2 : Int32) (p3 : Int32)  (Q : Sto → Prop) : Nat → Int32 → Sto → Prop
  | 0, _, _ => False
  | n + 1, x4, S => ((60 ≤ x4 → Q S) ∧ (¬ 60 ≤ x4 → vp_in p1 (6) ∧ vp_in x4 (ln (41 + 1 + (p1 : Int32).toNatClampNeg)) ∧ ∀ S_4 : Sto, S_4 = uL S (41 + 1 + (p1 : Int32).toNatClampNeg) (x4 : Int32).toNatClampNeg 0 → ∀ x4_5 : Int32, x4_5 = x4 + 1 → q_X7_lay_17 p1 p2 p3  Q n x4_5 S_4))
set_option maxRecDepth 100000 in
set_option maxHeartbeats 4000000 in
theorem l_X7_lay_17 {g : Gv} (p1 : Int32) (p2 : Int32) (p3 : Int32)  (Q : Sto → Prop)   (n : Nat) : ∀ (x4 : Int32) (S : Sto)  (h : q_X7_lay_17 p1 p2 p3  Q n x4 S), RJ g cX7_lay RX7 none 5 1 17 [(0, .ref (g.1 + 38)), (1, .int p1), (2, .int p2), (3, .int p3), (4, .int x4)] [] S (Qv Q) := by
  induction n with
  | zero => intro x4 S  h; exact h.elim
  | succ n ih =>
    intro x4 S  h
    unfold q_X7_lay_17 at h
    refine J_iload dX7_lay_17 4 rfl  ?_
    refine J_bipush (v := 60) dX7_lay_19 (by decide)  ?_
    refine J_icmp_ge (tgt := 40) dX7_lay_21 (by decide) (fun c_1 => ?_) (fun c_1 => ?_)
    · have h := h.1 c_1
      exact J_vret dX7_lay_40 rfl ⟨rfl, h⟩
    · have h := h.2 c_1
      refine J_aload_n dX7_lay_24 rfl 0 rfl  ?_
      refine J_getr (r := 41) (ci := 5) dX7_lay_25 2 rfl giX7 (by decide) (by decide) rfl rfl tb_1_131 (by decide) (by decide)  ?_
      refine J_iload_n dX7_lay_28 rfl 1 rfl  ?_
      obtain ⟨hi_2, h⟩ := h
      refine J_aald4 dX7_lay_29 (by decide) hi_2  ?_
      refine J_iload dX7_lay_30 4 rfl  ?_
      refine J_lconst (v := 0) dX7_lay_32 (by decide)  ?_
      obtain ⟨hi_3, h⟩ := h
      refine J_last dX7_lay_33 (kd_row4 (by decide) hi_2) hi_3  ?_
      refine J_nmS (fun S_4 eS_4 => ?_)
      have h := h S_4 eS_4
      obtain ⟨x4_5, ex4_5⟩ : ∃ y : Int32, y = x4 + 1 := ⟨_, rfl⟩
      have h := h x4_5 ex4_5
      refine J_iinc (v := x4_5) (lv' := [(0, .ref (g.1 + 38)), (1, .int p1), (2, .int p2), (3, .int p3), (4, .int x4_5)]) dX7_lay_34 (q := 4) rfl (by rw [ex4_5]; rfl) (by decide) [1, 2, 3, 4, 0] rfl  ?_
      refine J_goto (tgt := 17) dX7_lay_37 (by decide)  ?_
      exact ih _ _  h
def wp_X7_lay (p1 : Int32) (p2 : Int32) (p3 : Int32) (S : Sto) (Q : Sto → Prop) : Prop := vp_in p1 (6) ∧ ∀ S_2 : Sto, S_2 = uA S 39 (p1 : Int32).toNatClampNeg p2 → vp_in p1 (6) ∧ ∀ S_4 : Sto, S_4 = uA S_2 40 (p1 : Int32).toNatClampNeg p3 → (∃ n_17, q_X7_lay_17 p1 p2 p3  Q n_17 0 S_4)
set_option maxRecDepth 100000 in
set_option maxHeartbeats 4000000 in
theorem c_X7_lay {g : Gv} (p1 : Int32) (p2 : Int32) (p3 : Int32)  (S : Sto) (Q : Sto → Prop) (h : wp_X7_lay p1 p2 p3 S Q) : CT g yX7_lay cX7_lay 5 none 1 [.ref (g.1 + 38), .int p1, .int p2, .int p3] S (Qv Q) := by
  unfold wp_X7_lay at h
  refine CT.of (by decide) (Nat.le_of_ble_eq_true rfl) ?_
  refine J_sub (lv' := [(0, .ref (g.1 + 38)), (1, .int p1), (2, .int p2), (3, .int p3)]) [0, 1, 2, 3] rfl ?_
  refine J_aload_n dX7_lay_0 rfl 0 rfl  ?_
  refine J_getr (r := 39) (ci := 5) dX7_lay_1 0 rfl giX7 (by decide) (by decide) rfl rfl tb_1_127 (by decide) (by decide)  ?_
  refine J_iload_n dX7_lay_4 rfl 1 rfl  ?_
  refine J_iload_n dX7_lay_5 rfl 2 rfl  ?_
  obtain ⟨hi_1, h⟩ := h
  refine J_iast dX7_lay_6 (by decide) hi_1  ?_
  refine J_nmS (fun S_2 eS_2 => ?_)
  have h := h S_2 eS_2
  refine J_aload_n dX7_lay_7 rfl 0 rfl  ?_
  refine J_getr (r := 40) (ci := 5) dX7_lay_8 1 rfl giX7 (by decide) (by decide) rfl rfl tb_1_129 (by decide) (by decide)  ?_
  refine J_iload_n dX7_lay_11 rfl 1 rfl  ?_
  refine J_iload_n dX7_lay_12 rfl 3 rfl  ?_
  obtain ⟨hi_3, h⟩ := h
  refine J_iast dX7_lay_13 (by decide) hi_3  ?_
  refine J_nmS (fun S_4 eS_4 => ?_)
  have h := h S_4 eS_4
  refine J_iconst (v := 0) dX7_lay_14 (by decide)  ?_
  refine J_istore (lv' := [(0, .ref (g.1 + 38)), (1, .int p1), (2, .int p2), (3, .int p3), (4, .int 0)]) dX7_lay_15 (by decide) [1, 2, 3, 4, 0] rfl  ?_
  obtain ⟨n, h⟩ := h
  exact l_X7_lay_17 p1 p2 p3  _   n _ _  h
def q_X8_letters_25 (p1 : Int32)  (Q : Int32 → Sto → Prop) (t0 : Int32) (S : Sto) : Prop := Q t0 S
set_option maxRecDepth 100000 in
set_option maxHeartbeats 4000000 in
theorem l_X8_letters_25 {g : Gv} (p1 : Int32)  (Q : Int32 → Sto → Prop)   (t0 : Int32) (S : Sto)  (h : q_X8_letters_25 p1  Q t0 S) : RJ g cX8_letters RX8 (some .int) 3 4 25 [(0, .ref (g.1 + 0)), (1, .int p1)] [.int t0] S (Qi Q) := by
  unfold q_X8_letters_25 at h
  exact J_iret dX8_letters_25 rfl rfl ⟨_, rfl, h⟩
def wp_X8_letters (p1 : Int32) (S : Sto) (Q : Int32 → Sto → Prop) : Prop := ∀ x2_1 : Int32, x2_1 = S.1 1 0 → wp_X4_takeLetters p1 S (fun r_3 S_2 => ((r_3 = 0 → q_X8_letters_25 p1  Q ((-2)) S_2) ∧ (¬ r_3 = 0 → q_X8_letters_25 p1  Q x2_1 S_2)))
set_option maxRecDepth 100000 in
set_option maxHeartbeats 4000000 in
theorem c_X8_letters {g : Gv} (p1 : Int32)  (S : Sto) (Q : Int32 → Sto → Prop) (h : wp_X8_letters p1 S Q) : CT g yX8_letters cX8_letters 3 (some .int) 4 [.ref (g.1 + 0), .int p1] S (Qi Q) := by
  unfold wp_X8_letters at h
  refine CT.of (by decide) (Nat.le_of_ble_eq_true rfl) ?_
  refine J_sub (lv' := [(0, .ref (g.1 + 0)), (1, .int p1)]) [0, 1] rfl ?_
  refine J_aload_n dX8_letters_0 rfl 0 rfl  ?_
  refine J_getr (r := 1) (ci := 6) dX8_letters_1 0 rfl giX8 (by decide) (by decide) rfl rfl tb_2_16 (by decide) (by decide)  ?_
  refine J_geti (ci := 2) dX8_letters_4 0 rfl giX4 (by decide) (by decide) rfl rfl tb_1_33 rfl  ?_
  refine J_topi (fun x2_1 ex2_1 => ?_)
  have h := h x2_1 ex2_1
  refine J_istore_n (lv' := [(0, .ref (g.1 + 0)), (1, .int p1), (2, .int x2_1)]) dX8_letters_7 rfl (by decide) [1, 2, 0] rfl  ?_
  refine J_aload_n dX8_letters_8 rfl 0 rfl  ?_
  refine J_getr (r := 1) (ci := 6) dX8_letters_9 0 rfl giX8 (by decide) (by decide) rfl rfl tb_2_16 (by decide) (by decide)  ?_
  refine J_iload_n dX8_letters_12 rfl 1 rfl  ?_
  refine J_callV (h := 1) (ci := 2) (As := [.int p1]) (rest := []) (n := 1) dX8_letters_13 (c_X4_takeLetters p1  _ _ h) (by decide) rfl tb_2_48 tb_2_45 tb_1_2 tb_2_46 tb_2_47 (by decide) rfl (by decide) (by decide) (Nat.le_of_ble_eq_true rfl) rfl (fun v_r_3 S_2 hq => ?_)
  obtain ⟨r_3, rfl, h⟩ := hq
  dsimp only [Option.toList, List.cons_append, List.nil_append]
  refine J_if_eq (tgt := 23) dX8_letters_16 (by decide) (fun c_4 => ?_) (fun c_4 => ?_)
  · have h := h.1 c_4
    refine J_bipush (v := (-2)) dX8_letters_23 (by decide)  ?_
    refine J_sub (lv' := [(0, .ref (g.1 + 0)), (1, .int p1)]) [0, 1] rfl ?_
    exact l_X8_letters_25 p1  _   _ _  h
  · have h := h.2 c_4
    refine J_iload_n dX8_letters_19 rfl 2 rfl  ?_
    refine J_goto (tgt := 25) dX8_letters_20 (by decide)  ?_
    refine J_sub (lv' := [(0, .ref (g.1 + 0)), (1, .int p1)]) [0, 1] rfl ?_
    exact l_X8_letters_25 p1  _   _ _  h
def q_X8_prime_25 (p1 : Int32)  (Q : Int32 → Sto → Prop) (t0 : Int32) (S : Sto) : Prop := Q t0 S
set_option maxRecDepth 100000 in
set_option maxHeartbeats 4000000 in
theorem l_X8_prime_25 {g : Gv} (p1 : Int32)  (Q : Int32 → Sto → Prop)   (t0 : Int32) (S : Sto)  (h : q_X8_prime_25 p1  Q t0 S) : RJ g cX8_prime RX8 (some .int) 3 4 25 [(0, .ref (g.1 + 0)), (1, .int p1)] [.int t0] S (Qi Q) := by
  unfold q_X8_prime_25 at h
  exact J_iret dX8_prime_25 rfl rfl ⟨_, rfl, h⟩
def wp_X8_prime (p1 : Int32) (S : Sto) (Q : Int32 → Sto → Prop) : Prop := ∀ x2_1 : Int32, x2_1 = S.1 1 1 → wp_X4_takePrime p1 S (fun r_3 S_2 => ((r_3 = 0 → q_X8_prime_25 p1  Q ((-2)) S_2) ∧ (¬ r_3 = 0 → q_X8_prime_25 p1  Q x2_1 S_2)))
set_option maxRecDepth 100000 in
set_option maxHeartbeats 4000000 in
theorem c_X8_prime {g : Gv} (p1 : Int32)  (S : Sto) (Q : Int32 → Sto → Prop) (h : wp_X8_prime p1 S Q) : CT g yX8_prime cX8_prime 3 (some .int) 4 [.ref (g.1 + 0), .int p1] S (Qi Q) := by
  unfold wp_X8_prime at h
  refine CT.of (by decide) (Nat.le_of_ble_eq_true rfl) ?_
  refine J_sub (lv' := [(0, .ref (g.1 + 0)), (1, .int p1)]) [0, 1] rfl ?_
  refine J_aload_n dX8_prime_0 rfl 0 rfl  ?_
  refine J_getr (r := 1) (ci := 6) dX8_prime_1 0 rfl giX8 (by decide) (by decide) rfl rfl tb_2_16 (by decide) (by decide)  ?_
  refine J_geti (ci := 2) dX8_prime_4 1 rfl giX4 (by decide) (by decide) rfl rfl tb_1_39 rfl  ?_
  refine J_topi (fun x2_1 ex2_1 => ?_)
  have h := h x2_1 ex2_1
  refine J_istore_n (lv' := [(0, .ref (g.1 + 0)), (1, .int p1), (2, .int x2_1)]) dX8_prime_7 rfl (by decide) [1, 2, 0] rfl  ?_
  refine J_aload_n dX8_prime_8 rfl 0 rfl  ?_
  refine J_getr (r := 1) (ci := 6) dX8_prime_9 0 rfl giX8 (by decide) (by decide) rfl rfl tb_2_16 (by decide) (by decide)  ?_
  refine J_iload_n dX8_prime_12 rfl 1 rfl  ?_
  refine J_callV (h := 1) (ci := 2) (As := [.int p1]) (rest := []) (n := 1) dX8_prime_13 (c_X4_takePrime p1  _ _ h) (by decide) rfl tb_2_64 tb_2_61 tb_1_2 tb_2_62 tb_2_63 (by decide) rfl (by decide) (by decide) (Nat.le_of_ble_eq_true rfl) rfl (fun v_r_3 S_2 hq => ?_)
  obtain ⟨r_3, rfl, h⟩ := hq
  dsimp only [Option.toList, List.cons_append, List.nil_append]
  refine J_if_eq (tgt := 23) dX8_prime_16 (by decide) (fun c_4 => ?_) (fun c_4 => ?_)
  · have h := h.1 c_4
    refine J_bipush (v := (-2)) dX8_prime_23 (by decide)  ?_
    refine J_sub (lv' := [(0, .ref (g.1 + 0)), (1, .int p1)]) [0, 1] rfl ?_
    exact l_X8_prime_25 p1  _   _ _  h
  · have h := h.2 c_4
    refine J_iload_n dX8_prime_19 rfl 2 rfl  ?_
    refine J_goto (tgt := 25) dX8_prime_20 (by decide)  ?_
    refine J_sub (lv' := [(0, .ref (g.1 + 0)), (1, .int p1)]) [0, 1] rfl ?_
    exact l_X8_prime_25 p1  _   _ _  h
def q_X8_order_24 (p1 : Int32)  (Q : Int32 → Sto → Prop) (t0 : Int32) (S : Sto) : Prop := Q t0 S
set_option maxRecDepth 100000 in
set_option maxHeartbeats 4000000 in
theorem l_X8_order_24 {g : Gv} (p1 : Int32)  (Q : Int32 → Sto → Prop)   (t0 : Int32) (S : Sto)  (h : q_X8_order_24 p1  Q t0 S) : RJ g cX8_order RX8 (some .int) 3 3 24 [(0, .ref (g.1 + 0)), (1, .int p1)] [.int t0] S (Qi Q) := by
  unfold q_X8_order_24 at h
  exact J_iret dX8_order_24 rfl rfl ⟨_, rfl, h⟩
def wp_X8_order (p1 : Int32) (S : Sto) (Q : Int32 → Sto → Prop) : Prop := ∀ x2_1 : Int32, x2_1 = S.1 1 2 → wp_X4_takeKind p1 S (fun r_3 S_2 => ((r_3 = 0 → q_X8_order_24 p1  Q ((-1)) S_2) ∧ (¬ r_3 = 0 → q_X8_order_24 p1  Q x2_1 S_2)))
set_option maxRecDepth 100000 in
set_option maxHeartbeats 4000000 in
theorem c_X8_order {g : Gv} (p1 : Int32)  (S : Sto) (Q : Int32 → Sto → Prop) (h : wp_X8_order p1 S Q) : CT g yX8_order cX8_order 3 (some .int) 3 [.ref (g.1 + 0), .int p1] S (Qi Q) := by
  unfold wp_X8_order at h
  refine CT.of (by decide) (Nat.le_of_ble_eq_true rfl) ?_
  refine J_sub (lv' := [(0, .ref (g.1 + 0)), (1, .int p1)]) [0, 1] rfl ?_
  refine J_aload_n dX8_order_0 rfl 0 rfl  ?_
  refine J_getr (r := 1) (ci := 6) dX8_order_1 0 rfl giX8 (by decide) (by decide) rfl rfl tb_2_16 (by decide) (by decide)  ?_
  refine J_geti (ci := 2) dX8_order_4 2 rfl giX4 (by decide) (by decide) rfl rfl tb_1_44 rfl  ?_
  refine J_topi (fun x2_1 ex2_1 => ?_)
  have h := h x2_1 ex2_1
  refine J_istore_n (lv' := [(0, .ref (g.1 + 0)), (1, .int p1), (2, .int x2_1)]) dX8_order_7 rfl (by decide) [1, 2, 0] rfl  ?_
  refine J_aload_n dX8_order_8 rfl 0 rfl  ?_
  refine J_getr (r := 1) (ci := 6) dX8_order_9 0 rfl giX8 (by decide) (by decide) rfl rfl tb_2_16 (by decide) (by decide)  ?_
  refine J_iload_n dX8_order_12 rfl 1 rfl  ?_
  refine J_callV (h := 1) (ci := 2) (As := [.int p1]) (rest := []) (n := 1) dX8_order_13 (c_X4_takeKind p1  _ _ h) (by decide) rfl tb_2_72 tb_2_69 tb_1_2 tb_2_70 tb_2_71 (by decide) rfl (by decide) (by decide) (Nat.le_of_ble_eq_true rfl) rfl (fun v_r_3 S_2 hq => ?_)
  obtain ⟨r_3, rfl, h⟩ := hq
  dsimp only [Option.toList, List.cons_append, List.nil_append]
  refine J_if_eq (tgt := 23) dX8_order_16 (by decide) (fun c_4 => ?_) (fun c_4 => ?_)
  · have h := h.1 c_4
    refine J_iconst (v := (-1)) dX8_order_23 (by decide)  ?_
    refine J_sub (lv' := [(0, .ref (g.1 + 0)), (1, .int p1)]) [0, 1] rfl ?_
    exact l_X8_order_24 p1  _   _ _  h
  · have h := h.2 c_4
    refine J_iload_n dX8_order_19 rfl 2 rfl  ?_
    refine J_goto (tgt := 24) dX8_order_20 (by decide)  ?_
    refine J_sub (lv' := [(0, .ref (g.1 + 0)), (1, .int p1)]) [0, 1] rfl ?_
    exact l_X8_order_24 p1  _   _ _  h
def q_X8_set_22 (p1 : Int32) (p2 : Int32) (p3 : Int32)  (Q : Int32 → Sto → Prop)  (S : Sto) : Prop := Q ((-1)) S
set_option maxRecDepth 100000 in
set_option maxHeartbeats 4000000 in
theorem l_X8_set_22 {g : Gv} (p1 : Int32) (p2 : Int32) (p3 : Int32)  (Q : Int32 → Sto → Prop)    (S : Sto)  (h : q_X8_set_22 p1 p2 p3  Q  S) : RJ g cX8_set RX8 (some .int) 5 3 22 [(0, .ref (g.1 + 0)), (1, .int p1), (2, .int p2), (3, .int p3)] [] S (Qi Q) := by
  unfold q_X8_set_22 at h
  refine J_iconst (v := (-1)) dX8_set_22 (by decide)  ?_
  exact J_iret dX8_set_23 rfl rfl ⟨_, rfl, h⟩
def wp_X8_set (p1 : Int32) (p2 : Int32) (p3 : Int32) (S : Sto) (Q : Int32 → Sto → Prop) : Prop := wp_X4_hasElement p1 S (fun r_2 S_1 => ((r_2 = 0 → q_X8_set_22 p1 p2 p3  Q  S_1) ∧ (¬ r_2 = 0 → wp_X4_hasPlace p2 S_1 (fun r_5 S_4 => ((¬ r_5 = 0 → vp_in p1 (6) ∧ vp_in p2 (ln (2 + 1 + (p1 : Int32).toNatClampNeg)) ∧ ∀ x4_9 : Int32, x4_9 = S_4.1 (2 + 1 + (p1 : Int32).toNatClampNeg) (p2 : Int32).toNatClampNeg → vp_in p1 (6) ∧ wp_X2_modulo p3 (S_4.1 1 1) S_4 (fun r_12 S_11 => vp_in p2 (ln (2 + 1 + (p1 : Int32).toNatClampNeg)) ∧ ∀ S_14 : Sto, S_14 = uA S_11 (2 + 1 + (p1 : Int32).toNatClampNeg) (p2 : Int32).toNatClampNeg r_12 → Q x4_9 S_14)) ∧ (r_5 = 0 → q_X8_set_22 p1 p2 p3  Q  S_4))))))
set_option maxRecDepth 100000 in
set_option maxHeartbeats 4000000 in
theorem c_X8_set {g : Gv} (p1 : Int32) (p2 : Int32) (p3 : Int32)  (S : Sto) (Q : Int32 → Sto → Prop) (h : wp_X8_set p1 p2 p3 S Q) : CT g yX8_set cX8_set 5 (some .int) 3 [.ref (g.1 + 0), .int p1, .int p2, .int p3] S (Qi Q) := by
  unfold wp_X8_set at h
  refine CT.of (by decide) (Nat.le_of_ble_eq_true rfl) ?_
  refine J_sub (lv' := [(0, .ref (g.1 + 0)), (1, .int p1), (2, .int p2), (3, .int p3)]) [0, 1, 2, 3] rfl ?_
  refine J_aload_n dX8_set_0 rfl 0 rfl  ?_
  refine J_getr (r := 1) (ci := 6) dX8_set_1 0 rfl giX8 (by decide) (by decide) rfl rfl tb_2_16 (by decide) (by decide)  ?_
  refine J_iload_n dX8_set_4 rfl 1 rfl  ?_
  refine J_callV (h := 1) (ci := 2) (As := [.int p1]) (rest := []) (n := 1) dX8_set_5 (c_X4_hasElement p1  _ _ h) (by decide) rfl tb_2_83 tb_2_80 tb_1_2 tb_2_81 tb_2_82 (by decide) rfl (by decide) (by decide) (Nat.le_of_ble_eq_true rfl) rfl (fun v_r_2 S_1 hq => ?_)
  obtain ⟨r_2, rfl, h⟩ := hq
  dsimp only [Option.toList, List.cons_append, List.nil_append]
  refine J_if_eq (tgt := 22) dX8_set_8 (by decide) (fun c_3 => ?_) (fun c_3 => ?_)
  · have h := h.1 c_3
    exact l_X8_set_22 p1 p2 p3  _    _  h
  · have h := h.2 c_3
    refine J_aload_n dX8_set_11 rfl 0 rfl  ?_
    refine J_getr (r := 1) (ci := 6) dX8_set_12 0 rfl giX8 (by decide) (by decide) rfl rfl tb_2_16 (by decide) (by decide)  ?_
    refine J_iload_n dX8_set_15 rfl 2 rfl  ?_
    refine J_callV (h := 1) (ci := 2) (As := [.int p2]) (rest := []) (n := 1) dX8_set_16 (c_X4_hasPlace p2  _ _ h) (by decide) rfl tb_2_87 tb_2_84 tb_1_2 tb_2_85 tb_2_86 (by decide) rfl (by decide) (by decide) (Nat.le_of_ble_eq_true rfl) rfl (fun v_r_5 S_4 hq => ?_)
    obtain ⟨r_5, rfl, h⟩ := hq
    dsimp only [Option.toList, List.cons_append, List.nil_append]
    refine J_if_ne (tgt := 24) dX8_set_19 (by decide) (fun c_6 => ?_) (fun c_6 => ?_)
    · have h := h.1 c_6
      refine J_aload_n dX8_set_24 rfl 0 rfl  ?_
      refine J_getr (r := 1) (ci := 6) dX8_set_25 0 rfl giX8 (by decide) (by decide) rfl rfl tb_2_16 (by decide) (by decide)  ?_
      refine J_getr (r := 2) (ci := 2) dX8_set_28 3 rfl giX4 (by decide) (by decide) rfl rfl tb_1_46 (by decide) (by decide)  ?_
      refine J_iload_n dX8_set_31 rfl 1 rfl  ?_
      obtain ⟨hi_7, h⟩ := h
      refine J_aald3 dX8_set_32 (by decide) hi_7  ?_
      refine J_iload_n dX8_set_33 rfl 2 rfl  ?_
      obtain ⟨hi_8, h⟩ := h
      refine J_iald dX8_set_34 (kd_row3 (by decide) hi_7) hi_8  ?_
      refine J_topi (fun x4_9 ex4_9 => ?_)
      have h := h x4_9 ex4_9
      refine J_istore (lv' := [(0, .ref (g.1 + 0)), (1, .int p1), (2, .int p2), (3, .int p3), (4, .int x4_9)]) dX8_set_35 (by decide) [1, 2, 3, 4, 0] rfl  ?_
      refine J_aload_n dX8_set_37 rfl 0 rfl  ?_
      refine J_getr (r := 1) (ci := 6) dX8_set_38 0 rfl giX8 (by decide) (by decide) rfl rfl tb_2_16 (by decide) (by decide)  ?_
      refine J_getr (r := 2) (ci := 2) dX8_set_41 3 rfl giX4 (by decide) (by decide) rfl rfl tb_1_46 (by decide) (by decide)  ?_
      refine J_iload_n dX8_set_44 rfl 1 rfl  ?_
      obtain ⟨hi_10, h⟩ := h
      refine J_aald3 dX8_set_45 (by decide) hi_10  ?_
      refine J_iload_n dX8_set_46 rfl 2 rfl  ?_
      refine J_iload_n dX8_set_47 rfl 3 rfl  ?_
      refine J_aload_n dX8_set_48 rfl 0 rfl  ?_
      refine J_getr (r := 1) (ci := 6) dX8_set_49 0 rfl giX8 (by decide) (by decide) rfl rfl tb_2_16 (by decide) (by decide)  ?_
      refine J_geti (ci := 2) dX8_set_52 1 rfl giX4 (by decide) (by decide) rfl rfl tb_1_39 rfl  ?_
      refine J_callS (As := [.int p3, .int (S_4.1 1 1)]) (rest := [.int p2, .ref (g.1 + (2 + 1 + (p1 : Int32).toNatClampNeg))]) (n := 2) dX8_set_55 (c_X2_modulo p3 (S_4.1 1 1)  _ _ h) tb_2_94 tb_2_92 tb_1_9 tb_2_93 (by decide) rfl (by decide) (by decide) (Nat.le_of_ble_eq_true rfl) rfl (fun v_r_12 S_11 hq => ?_)
      obtain ⟨r_12, rfl, h⟩ := hq
      dsimp only [Option.toList, List.cons_append, List.nil_append]
      obtain ⟨hi_13, h⟩ := h
      refine J_iast dX8_set_58 (kd_row3 (by decide) hi_10) hi_13  ?_
      refine J_nmS (fun S_14 eS_14 => ?_)
      have h := h S_14 eS_14
      refine J_iload dX8_set_59 4 rfl  ?_
      exact J_iret dX8_set_61 rfl rfl ⟨_, rfl, h⟩
    · have h := h.2 c_6
      exact l_X8_set_22 p1 p2 p3  _    _  h
def q_X8_product_33 (p1 : Int32) (p2 : Int32) (p3 : Int32)  (Q : Int32 → Sto → Prop)  (S : Sto) : Prop := Q ((-1)) S
set_option maxRecDepth 100000 in
set_option maxHeartbeats 4000000 in
theorem l_X8_product_33 {g : Gv} (p1 : Int32) (p2 : Int32) (p3 : Int32)  (Q : Int32 → Sto → Prop)    (S : Sto)  (h : q_X8_product_33 p1 p2 p3  Q  S) : RJ g cX8_product RX8 (some .int) 4 4 33 [(0, .ref (g.1 + 0)), (1, .int p1), (2, .int p2), (3, .int p3)] [] S (Qi Q) := by
  unfold q_X8_product_33 at h
  refine J_iconst (v := (-1)) dX8_product_33 (by decide)  ?_
  exact J_iret dX8_product_34 rfl rfl ⟨_, rfl, h⟩
def wp_X8_product (p1 : Int32) (p2 : Int32) (p3 : Int32) (S : Sto) (Q : Int32 → Sto → Prop) : Prop := wp_X4_hasElement p1 S (fun r_2 S_1 => ((r_2 = 0 → q_X8_product_33 p1 p2 p3  Q  S_1) ∧ (¬ r_2 = 0 → wp_X4_hasElement p2 S_1 (fun r_5 S_4 => ((r_5 = 0 → q_X8_product_33 p1 p2 p3  Q  S_4) ∧ (¬ r_5 = 0 → wp_X4_hasElement p3 S_4 (fun r_8 S_7 => ((¬ r_8 = 0 → vp_in p2 (6) ∧ vp_in p3 (6) ∧ wp_X4_width  S_7 (fun r_13 S_12 => wp_X2_multiply (2 + 1 + (p2 : Int32).toNatClampNeg) (2 + 1 + (p3 : Int32).toNatClampNeg) 352 r_13 (S_12.1 1 1) S_12 (fun S_14 => wp_X4_replaceElement p1 352 S_14 (fun r_17 S_16 => Q r_17 S_16)))) ∧ (r_8 = 0 → q_X8_product_33 p1 p2 p3  Q  S_7)))))))))
set_option maxRecDepth 100000 in
set_option maxHeartbeats 4000000 in
theorem c_X8_product {g : Gv} (p1 : Int32) (p2 : Int32) (p3 : Int32)  (S : Sto) (Q : Int32 → Sto → Prop) (h : wp_X8_product p1 p2 p3 S Q) : CT g yX8_product cX8_product 4 (some .int) 4 [.ref (g.1 + 0), .int p1, .int p2, .int p3] S (Qi Q) := by
  unfold wp_X8_product at h
  refine CT.of (by decide) (Nat.le_of_ble_eq_true rfl) ?_
  refine J_sub (lv' := [(0, .ref (g.1 + 0)), (1, .int p1), (2, .int p2), (3, .int p3)]) [0, 1, 2, 3] rfl ?_
  refine J_aload_n dX8_product_0 rfl 0 rfl  ?_
  refine J_getr (r := 1) (ci := 6) dX8_product_1 0 rfl giX8 (by decide) (by decide) rfl rfl tb_2_16 (by decide) (by decide)  ?_
  refine J_iload_n dX8_product_4 rfl 1 rfl  ?_
  refine J_callV (h := 1) (ci := 2) (As := [.int p1]) (rest := []) (n := 1) dX8_product_5 (c_X4_hasElement p1  _ _ h) (by decide) rfl tb_2_83 tb_2_80 tb_1_2 tb_2_81 tb_2_82 (by decide) rfl (by decide) (by decide) (Nat.le_of_ble_eq_true rfl) rfl (fun v_r_2 S_1 hq => ?_)
  obtain ⟨r_2, rfl, h⟩ := hq
  dsimp only [Option.toList, List.cons_append, List.nil_append]
  refine J_if_eq (tgt := 33) dX8_product_8 (by decide) (fun c_3 => ?_) (fun c_3 => ?_)
  · have h := h.1 c_3
    exact l_X8_product_33 p1 p2 p3  _    _  h
  · have h := h.2 c_3
    refine J_aload_n dX8_product_11 rfl 0 rfl  ?_
    refine J_getr (r := 1) (ci := 6) dX8_product_12 0 rfl giX8 (by decide) (by decide) rfl rfl tb_2_16 (by decide) (by decide)  ?_
    refine J_iload_n dX8_product_15 rfl 2 rfl  ?_
    refine J_callV (h := 1) (ci := 2) (As := [.int p2]) (rest := []) (n := 1) dX8_product_16 (c_X4_hasElement p2  _ _ h) (by decide) rfl tb_2_83 tb_2_80 tb_1_2 tb_2_81 tb_2_82 (by decide) rfl (by decide) (by decide) (Nat.le_of_ble_eq_true rfl) rfl (fun v_r_5 S_4 hq => ?_)
    obtain ⟨r_5, rfl, h⟩ := hq
    dsimp only [Option.toList, List.cons_append, List.nil_append]
    refine J_if_eq (tgt := 33) dX8_product_19 (by decide) (fun c_6 => ?_) (fun c_6 => ?_)
    · have h := h.1 c_6
      exact l_X8_product_33 p1 p2 p3  _    _  h
    · have h := h.2 c_6
      refine J_aload_n dX8_product_22 rfl 0 rfl  ?_
      refine J_getr (r := 1) (ci := 6) dX8_product_23 0 rfl giX8 (by decide) (by decide) rfl rfl tb_2_16 (by decide) (by decide)  ?_
      refine J_iload_n dX8_product_26 rfl 3 rfl  ?_
      refine J_callV (h := 1) (ci := 2) (As := [.int p3]) (rest := []) (n := 1) dX8_product_27 (c_X4_hasElement p3  _ _ h) (by decide) rfl tb_2_83 tb_2_80 tb_1_2 tb_2_81 tb_2_82 (by decide) rfl (by decide) (by decide) (Nat.le_of_ble_eq_true rfl) rfl (fun v_r_8 S_7 hq => ?_)
      obtain ⟨r_8, rfl, h⟩ := hq
      dsimp only [Option.toList, List.cons_append, List.nil_append]
      refine J_if_ne (tgt := 35) dX8_product_30 (by decide) (fun c_9 => ?_) (fun c_9 => ?_)
      · have h := h.1 c_9
        refine J_aload_n dX8_product_35 rfl 0 rfl  ?_
        refine J_getr (r := 1) (ci := 6) dX8_product_36 0 rfl giX8 (by decide) (by decide) rfl rfl tb_2_16 (by decide) (by decide)  ?_
        refine J_getr (r := 2) (ci := 2) dX8_product_39 3 rfl giX4 (by decide) (by decide) rfl rfl tb_1_46 (by decide) (by decide)  ?_
        refine J_iload_n dX8_product_42 rfl 2 rfl  ?_
        obtain ⟨hi_10, h⟩ := h
        refine J_aald3 dX8_product_43 (by decide) hi_10  ?_
        refine J_aload_n dX8_product_44 rfl 0 rfl  ?_
        refine J_getr (r := 1) (ci := 6) dX8_product_45 0 rfl giX8 (by decide) (by decide) rfl rfl tb_2_16 (by decide) (by decide)  ?_
        refine J_getr (r := 2) (ci := 2) dX8_product_48 3 rfl giX4 (by decide) (by decide) rfl rfl tb_1_46 (by decide) (by decide)  ?_
        refine J_iload_n dX8_product_51 rfl 3 rfl  ?_
        obtain ⟨hi_11, h⟩ := h
        refine J_aald3 dX8_product_52 (by decide) hi_11  ?_
        refine J_aload_n dX8_product_53 rfl 0 rfl  ?_
        refine J_getr (r := 352) (ci := 6) dX8_product_54 7 rfl giX8 (by decide) (by decide) rfl rfl tb_2_23 (by decide) (by decide)  ?_
        refine J_aload_n dX8_product_57 rfl 0 rfl  ?_
        refine J_getr (r := 1) (ci := 6) dX8_product_58 0 rfl giX8 (by decide) (by decide) rfl rfl tb_2_16 (by decide) (by decide)  ?_
        refine J_callV (h := 1) (ci := 2) (As := []) (rest := [.ref (g.1 + 352), .ref (g.1 + (2 + 1 + (p3 : Int32).toNatClampNeg)), .ref (g.1 + (2 + 1 + (p2 : Int32).toNatClampNeg))]) (n := 0) dX8_product_61 (c_X4_width   _ _ h) (by decide) rfl tb_2_91 tb_2_102 tb_1_2 tb_2_89 tb_2_90 (by decide) rfl (by decide) (by decide) (Nat.le_of_ble_eq_true rfl) rfl (fun v_r_13 S_12 hq => ?_)
        obtain ⟨r_13, rfl, h⟩ := hq
        dsimp only [Option.toList, List.cons_append, List.nil_append]
        refine J_aload_n dX8_product_64 rfl 0 rfl  ?_
        refine J_getr (r := 1) (ci := 6) dX8_product_65 0 rfl giX8 (by decide) (by decide) rfl rfl tb_2_16 (by decide) (by decide)  ?_
        refine J_geti (ci := 2) dX8_product_68 1 rfl giX4 (by decide) (by decide) rfl rfl tb_1_39 rfl  ?_
        refine J_callS (As := [.ref (g.1 + (2 + 1 + (p2 : Int32).toNatClampNeg)), .ref (g.1 + (2 + 1 + (p3 : Int32).toNatClampNeg)), .ref (g.1 + 352), .int r_13, .int (S_12.1 1 1)]) (rest := []) (n := 5) dX8_product_71 (c_X2_multiply (2 + 1 + (p2 : Int32).toNatClampNeg) (2 + 1 + (p3 : Int32).toNatClampNeg) 352 r_13 (S_12.1 1 1) (kd_row3 (by decide) hi_10) (kd_row3 (by decide) hi_11) (by decide) _ _ h) tb_2_105 tb_2_103 tb_1_9 tb_2_104 (by decide) rfl (by decide) (by decide) (Nat.le_of_ble_eq_true rfl) rfl (fun v_r_15 S_14 hq => ?_)
        obtain ⟨rfl, h⟩ := hq
        dsimp only [Option.toList, List.cons_append, List.nil_append]
        refine J_aload_n dX8_product_74 rfl 0 rfl  ?_
        refine J_getr (r := 1) (ci := 6) dX8_product_75 0 rfl giX8 (by decide) (by decide) rfl rfl tb_2_16 (by decide) (by decide)  ?_
        refine J_iload_n dX8_product_78 rfl 1 rfl  ?_
        refine J_aload_n dX8_product_79 rfl 0 rfl  ?_
        refine J_getr (r := 352) (ci := 6) dX8_product_80 7 rfl giX8 (by decide) (by decide) rfl rfl tb_2_23 (by decide) (by decide)  ?_
        refine J_callV (h := 1) (ci := 2) (As := [.int p1, .ref (g.1 + 352)]) (rest := []) (n := 2) dX8_product_83 (c_X4_replaceElement p1 352 (by decide) _ _ h) (by decide) rfl tb_2_119 tb_2_116 tb_1_2 tb_2_117 tb_2_118 (by decide) rfl (by decide) (by decide) (Nat.le_of_ble_eq_true rfl) rfl (fun v_r_17 S_16 hq => ?_)
        obtain ⟨r_17, rfl, h⟩ := hq
        dsimp only [Option.toList, List.cons_append, List.nil_append]
        exact J_iret dX8_product_86 rfl rfl ⟨_, rfl, h⟩
      · have h := h.2 c_9
        exact l_X8_product_33 p1 p2 p3  _    _  h
def q_X8_mix_34 (p1 : Int32) (p2 : Int32) (p3 : Int32) (p4 : Int32) (p5 : Int32)  (Q : Int32 → Sto → Prop)  (S : Sto) : Prop := Q ((-1)) S
set_option maxRecDepth 100000 in
set_option maxHeartbeats 4000000 in
theorem l_X8_mix_34 {g : Gv} (p1 : Int32) (p2 : Int32) (p3 : Int32) (p4 : Int32) (p5 : Int32)  (Q : Int32 → Sto → Prop)    (S : Sto)  (h : q_X8_mix_34 p1 p2 p3 p4 p5  Q  S) : RJ g cX8_mix RX8 (some .int) 10 3 34 [(0, .ref (g.1 + 0)), (1, .int p1), (2, .int p2), (3, .int p3), (4, .int p4), (5, .int p5)] [] S (Qi Q) := by
  unfold q_X8_mix_34 at h
  refine J_iconst (v := (-1)) dX8_mix_34 (by decide)  ?_
  exact J_iret dX8_mix_35 rfl rfl ⟨_, rfl, h⟩
def q_X8_mix_65 (p1 : Int32) (p2 : Int32) (p3 : Int32) (p4 : Int32) (p5 : Int32)  (Q : Int32 → Sto → Prop) : Nat → Int32 → Int32 → Int32 → Int32 → Sto → Prop
  | 0, _, _, _, _, _ => False
  | n + 1, x6, x7, x8, x9, S => wp_X4_width  S (fun r_2 S_1 => ((r_2 ≤ x9 → wp_X4_replaceElement p1 352 S_1 (fun r_5 S_4 => Q r_5 S_4)) ∧ (¬ r_2 ≤ x9 → vp_in p2 (6) ∧ vp_in x9 (ln (2 + 1 + (p2 : Int32).toNatClampNeg)) ∧ vp_in p4 (6) ∧ vp_in x9 (ln (2 + 1 + (p4 : Int32).toNatClampNeg)) ∧ wp_X2_modulo ((x7 * (S_1.1 (2 + 1 + (p2 : Int32).toNatClampNeg) (x9 : Int32).toNatClampNeg)) + (x8 * (S_1.1 (2 + 1 + (p4 : Int32).toNatClampNeg) (x9 : Int32).toNatClampNeg))) x6 S_1 (fun r_11 S_10 => vp_in x9 (16) ∧ ∀ S_13 : Sto, S_13 = uA S_10 352 (x9 : Int32).toNatClampNeg r_11 → ∀ x9_14 : Int32, x9_14 = x9 + 1 → q_X8_mix_65 p1 p2 p3 p4 p5  Q n x6 x7 x8 x9_14 S_13))))
set_option maxRecDepth 100000 in
set_option maxHeartbeats 4000000 in
theorem l_X8_mix_65 {g : Gv} (p1 : Int32) (p2 : Int32) (p3 : Int32) (p4 : Int32) (p5 : Int32)  (Q : Int32 → Sto → Prop)   (n : Nat) : ∀ (x6 : Int32) (x7 : Int32) (x8 : Int32) (x9 : Int32) (S : Sto)  (h : q_X8_mix_65 p1 p2 p3 p4 p5  Q n x6 x7 x8 x9 S), RJ g cX8_mix RX8 (some .int) 10 3 65 [(0, .ref (g.1 + 0)), (1, .int p1), (2, .int p2), (3, .int p3), (4, .int p4), (5, .int p5), (6, .int x6), (7, .int x7), (8, .int x8), (9, .int x9)] [] S (Qi Q) := by
  induction n with
  | zero => intro x6 x7 x8 x9 S  h; exact h.elim
  | succ n ih =>
    intro x6 x7 x8 x9 S  h
    unfold q_X8_mix_65 at h
    refine J_iload dX8_mix_65 9 rfl  ?_
    refine J_aload_n dX8_mix_67 rfl 0 rfl  ?_
    refine J_getr (r := 1) (ci := 6) dX8_mix_68 0 rfl giX8 (by decide) (by decide) rfl rfl tb_2_16 (by decide) (by decide)  ?_
    refine J_callV (h := 1) (ci := 2) (As := []) (rest := [.int x9]) (n := 0) dX8_mix_71 (c_X4_width   _ _ h) (by decide) rfl tb_2_91 tb_2_102 tb_1_2 tb_2_89 tb_2_90 (by decide) rfl (by decide) (by decide) (Nat.le_of_ble_eq_true rfl) rfl (fun v_r_2 S_1 hq => ?_)
    obtain ⟨r_2, rfl, h⟩ := hq
    dsimp only [Option.toList, List.cons_append, List.nil_append]
    refine J_icmp_ge (tgt := 127) dX8_mix_74 (by decide) (fun c_3 => ?_) (fun c_3 => ?_)
    · have h := h.1 c_3
      refine J_aload_n dX8_mix_127 rfl 0 rfl  ?_
      refine J_getr (r := 1) (ci := 6) dX8_mix_128 0 rfl giX8 (by decide) (by decide) rfl rfl tb_2_16 (by decide) (by decide)  ?_
      refine J_iload_n dX8_mix_131 rfl 1 rfl  ?_
      refine J_aload_n dX8_mix_132 rfl 0 rfl  ?_
      refine J_getr (r := 352) (ci := 6) dX8_mix_133 7 rfl giX8 (by decide) (by decide) rfl rfl tb_2_23 (by decide) (by decide)  ?_
      refine J_callV (h := 1) (ci := 2) (As := [.int p1, .ref (g.1 + 352)]) (rest := []) (n := 2) dX8_mix_136 (c_X4_replaceElement p1 352 (by decide) _ _ h) (by decide) rfl tb_2_119 tb_2_116 tb_1_2 tb_2_117 tb_2_118 (by decide) rfl (by decide) (by decide) (Nat.le_of_ble_eq_true rfl) rfl (fun v_r_5 S_4 hq => ?_)
      obtain ⟨r_5, rfl, h⟩ := hq
      dsimp only [Option.toList, List.cons_append, List.nil_append]
      exact J_iret dX8_mix_139 rfl rfl ⟨_, rfl, h⟩
    · have h := h.2 c_3
      refine J_aload_n dX8_mix_77 rfl 0 rfl  ?_
      refine J_getr (r := 352) (ci := 6) dX8_mix_78 7 rfl giX8 (by decide) (by decide) rfl rfl tb_2_23 (by decide) (by decide)  ?_
      refine J_iload dX8_mix_81 9 rfl  ?_
      refine J_iload dX8_mix_83 7 rfl  ?_
      refine J_aload_n dX8_mix_85 rfl 0 rfl  ?_
      refine J_getr (r := 1) (ci := 6) dX8_mix_86 0 rfl giX8 (by decide) (by decide) rfl rfl tb_2_16 (by decide) (by decide)  ?_
      refine J_getr (r := 2) (ci := 2) dX8_mix_89 3 rfl giX4 (by decide) (by decide) rfl rfl tb_1_46 (by decide) (by decide)  ?_
      refine J_iload_n dX8_mix_92 rfl 2 rfl  ?_
      obtain ⟨hi_6, h⟩ := h
      refine J_aald3 dX8_mix_93 (by decide) hi_6  ?_
      refine J_iload dX8_mix_94 9 rfl  ?_
      obtain ⟨hi_7, h⟩ := h
      refine J_iald dX8_mix_96 (kd_row3 (by decide) hi_6) hi_7  ?_
      refine J_imul dX8_mix_97  ?_
      refine J_iload dX8_mix_98 8 rfl  ?_
      refine J_aload_n dX8_mix_100 rfl 0 rfl  ?_
      refine J_getr (r := 1) (ci := 6) dX8_mix_101 0 rfl giX8 (by decide) (by decide) rfl rfl tb_2_16 (by decide) (by decide)  ?_
      refine J_getr (r := 2) (ci := 2) dX8_mix_104 3 rfl giX4 (by decide) (by decide) rfl rfl tb_1_46 (by decide) (by decide)  ?_
      refine J_iload dX8_mix_107 4 rfl  ?_
      obtain ⟨hi_8, h⟩ := h
      refine J_aald3 dX8_mix_109 (by decide) hi_8  ?_
      refine J_iload dX8_mix_110 9 rfl  ?_
      obtain ⟨hi_9, h⟩ := h
      refine J_iald dX8_mix_112 (kd_row3 (by decide) hi_8) hi_9  ?_
      refine J_imul dX8_mix_113  ?_
      refine J_iadd dX8_mix_114  ?_
      refine J_iload dX8_mix_115 6 rfl  ?_
      refine J_callS (As := [.int ((x7 * (S_1.1 (2 + 1 + (p2 : Int32).toNatClampNeg) (x9 : Int32).toNatClampNeg)) + (x8 * (S_1.1 (2 + 1 + (p4 : Int32).toNatClampNeg) (x9 : Int32).toNatClampNeg))), .int x6]) (rest := [.int x9, .ref (g.1 + 352)]) (n := 2) dX8_mix_117 (c_X2_modulo ((x7 * (S_1.1 (2 + 1 + (p2 : Int32).toNatClampNeg) (x9 : Int32).toNatClampNeg)) + (x8 * (S_1.1 (2 + 1 + (p4 : Int32).toNatClampNeg) (x9 : Int32).toNatClampNeg))) x6  _ _ h) tb_2_94 tb_2_92 tb_1_9 tb_2_93 (by decide) rfl (by decide) (by decide) (Nat.le_of_ble_eq_true rfl) rfl (fun v_r_11 S_10 hq => ?_)
      obtain ⟨r_11, rfl, h⟩ := hq
      dsimp only [Option.toList, List.cons_append, List.nil_append]
      obtain ⟨hi_12, h⟩ := h
      refine J_iast dX8_mix_120 (by decide) hi_12  ?_
      refine J_nmS (fun S_13 eS_13 => ?_)
      have h := h S_13 eS_13
      obtain ⟨x9_14, ex9_14⟩ : ∃ y : Int32, y = x9 + 1 := ⟨_, rfl⟩
      have h := h x9_14 ex9_14
      refine J_iinc (v := x9_14) (lv' := [(0, .ref (g.1 + 0)), (1, .int p1), (2, .int p2), (3, .int p3), (4, .int p4), (5, .int p5), (6, .int x6), (7, .int x7), (8, .int x8), (9, .int x9_14)]) dX8_mix_121 (q := 9) rfl (by rw [ex9_14]; rfl) (by decide) [1, 2, 3, 4, 5, 6, 7, 8, 9, 0] rfl  ?_
      refine J_goto (tgt := 65) dX8_mix_124 (by decide)  ?_
      exact ih _ _ _ _ _  h
def wp_X8_mix (p1 : Int32) (p2 : Int32) (p3 : Int32) (p4 : Int32) (p5 : Int32) (S : Sto) (Q : Int32 → Sto → Prop) : Prop := wp_X4_hasElement p1 S (fun r_2 S_1 => ((r_2 = 0 → q_X8_mix_34 p1 p2 p3 p4 p5  Q  S_1) ∧ (¬ r_2 = 0 → wp_X4_hasElement p2 S_1 (fun r_5 S_4 => ((r_5 = 0 → q_X8_mix_34 p1 p2 p3 p4 p5  Q  S_4) ∧ (¬ r_5 = 0 → wp_X4_hasElement p4 S_4 (fun r_8 S_7 => ((¬ r_8 = 0 → ∀ x6_10 : Int32, x6_10 = S_7.1 1 1 → wp_X2_modulo p3 x6_10 S_7 (fun r_12 S_11 => wp_X2_modulo p5 x6_10 S_11 (fun r_14 S_13 => (∃ n_65, q_X8_mix_65 p1 p2 p3 p4 p5  Q n_65 x6_10 r_12 r_14 0 S_13)))) ∧ (r_8 = 0 → q_X8_mix_34 p1 p2 p3 p4 p5  Q  S_7)))))))))
set_option maxRecDepth 100000 in
set_option maxHeartbeats 4000000 in
theorem c_X8_mix {g : Gv} (p1 : Int32) (p2 : Int32) (p3 : Int32) (p4 : Int32) (p5 : Int32)  (S : Sto) (Q : Int32 → Sto → Prop) (h : wp_X8_mix p1 p2 p3 p4 p5 S Q) : CT g yX8_mix cX8_mix 10 (some .int) 3 [.ref (g.1 + 0), .int p1, .int p2, .int p3, .int p4, .int p5] S (Qi Q) := by
  unfold wp_X8_mix at h
  refine CT.of (by decide) (Nat.le_of_ble_eq_true rfl) ?_
  refine J_sub (lv' := [(0, .ref (g.1 + 0)), (1, .int p1), (2, .int p2), (3, .int p3), (4, .int p4), (5, .int p5)]) [0, 1, 2, 3, 4, 5] rfl ?_
  refine J_aload_n dX8_mix_0 rfl 0 rfl  ?_
  refine J_getr (r := 1) (ci := 6) dX8_mix_1 0 rfl giX8 (by decide) (by decide) rfl rfl tb_2_16 (by decide) (by decide)  ?_
  refine J_iload_n dX8_mix_4 rfl 1 rfl  ?_
  refine J_callV (h := 1) (ci := 2) (As := [.int p1]) (rest := []) (n := 1) dX8_mix_5 (c_X4_hasElement p1  _ _ h) (by decide) rfl tb_2_83 tb_2_80 tb_1_2 tb_2_81 tb_2_82 (by decide) rfl (by decide) (by decide) (Nat.le_of_ble_eq_true rfl) rfl (fun v_r_2 S_1 hq => ?_)
  obtain ⟨r_2, rfl, h⟩ := hq
  dsimp only [Option.toList, List.cons_append, List.nil_append]
  refine J_if_eq (tgt := 34) dX8_mix_8 (by decide) (fun c_3 => ?_) (fun c_3 => ?_)
  · have h := h.1 c_3
    exact l_X8_mix_34 p1 p2 p3 p4 p5  _    _  h
  · have h := h.2 c_3
    refine J_aload_n dX8_mix_11 rfl 0 rfl  ?_
    refine J_getr (r := 1) (ci := 6) dX8_mix_12 0 rfl giX8 (by decide) (by decide) rfl rfl tb_2_16 (by decide) (by decide)  ?_
    refine J_iload_n dX8_mix_15 rfl 2 rfl  ?_
    refine J_callV (h := 1) (ci := 2) (As := [.int p2]) (rest := []) (n := 1) dX8_mix_16 (c_X4_hasElement p2  _ _ h) (by decide) rfl tb_2_83 tb_2_80 tb_1_2 tb_2_81 tb_2_82 (by decide) rfl (by decide) (by decide) (Nat.le_of_ble_eq_true rfl) rfl (fun v_r_5 S_4 hq => ?_)
    obtain ⟨r_5, rfl, h⟩ := hq
    dsimp only [Option.toList, List.cons_append, List.nil_append]
    refine J_if_eq (tgt := 34) dX8_mix_19 (by decide) (fun c_6 => ?_) (fun c_6 => ?_)
    · have h := h.1 c_6
      exact l_X8_mix_34 p1 p2 p3 p4 p5  _    _  h
    · have h := h.2 c_6
      refine J_aload_n dX8_mix_22 rfl 0 rfl  ?_
      refine J_getr (r := 1) (ci := 6) dX8_mix_23 0 rfl giX8 (by decide) (by decide) rfl rfl tb_2_16 (by decide) (by decide)  ?_
      refine J_iload dX8_mix_26 4 rfl  ?_
      refine J_callV (h := 1) (ci := 2) (As := [.int p4]) (rest := []) (n := 1) dX8_mix_28 (c_X4_hasElement p4  _ _ h) (by decide) rfl tb_2_83 tb_2_80 tb_1_2 tb_2_81 tb_2_82 (by decide) rfl (by decide) (by decide) (Nat.le_of_ble_eq_true rfl) rfl (fun v_r_8 S_7 hq => ?_)
      obtain ⟨r_8, rfl, h⟩ := hq
      dsimp only [Option.toList, List.cons_append, List.nil_append]
      refine J_if_ne (tgt := 36) dX8_mix_31 (by decide) (fun c_9 => ?_) (fun c_9 => ?_)
      · have h := h.1 c_9
        refine J_aload_n dX8_mix_36 rfl 0 rfl  ?_
        refine J_getr (r := 1) (ci := 6) dX8_mix_37 0 rfl giX8 (by decide) (by decide) rfl rfl tb_2_16 (by decide) (by decide)  ?_
        refine J_geti (ci := 2) dX8_mix_40 1 rfl giX4 (by decide) (by decide) rfl rfl tb_1_39 rfl  ?_
        refine J_topi (fun x6_10 ex6_10 => ?_)
        have h := h x6_10 ex6_10
        refine J_istore (lv' := [(0, .ref (g.1 + 0)), (1, .int p1), (2, .int p2), (3, .int p3), (4, .int p4), (5, .int p5), (6, .int x6_10)]) dX8_mix_43 (by decide) [1, 2, 3, 4, 5, 6, 0] rfl  ?_
        refine J_iload_n dX8_mix_45 rfl 3 rfl  ?_
        refine J_iload dX8_mix_46 6 rfl  ?_
        refine J_callS (As := [.int p3, .int x6_10]) (rest := []) (n := 2) dX8_mix_48 (c_X2_modulo p3 x6_10  _ _ h) tb_2_94 tb_2_92 tb_1_9 tb_2_93 (by decide) rfl (by decide) (by decide) (Nat.le_of_ble_eq_true rfl) rfl (fun v_r_12 S_11 hq => ?_)
        obtain ⟨r_12, rfl, h⟩ := hq
        dsimp only [Option.toList, List.cons_append, List.nil_append]
        refine J_istore (lv' := [(0, .ref (g.1 + 0)), (1, .int p1), (2, .int p2), (3, .int p3), (4, .int p4), (5, .int p5), (6, .int x6_10), (7, .int r_12)]) dX8_mix_51 (by decide) [1, 2, 3, 4, 5, 6, 7, 0] rfl  ?_
        refine J_iload dX8_mix_53 5 rfl  ?_
        refine J_iload dX8_mix_55 6 rfl  ?_
        refine J_callS (As := [.int p5, .int x6_10]) (rest := []) (n := 2) dX8_mix_57 (c_X2_modulo p5 x6_10  _ _ h) tb_2_94 tb_2_92 tb_1_9 tb_2_93 (by decide) rfl (by decide) (by decide) (Nat.le_of_ble_eq_true rfl) rfl (fun v_r_14 S_13 hq => ?_)
        obtain ⟨r_14, rfl, h⟩ := hq
        dsimp only [Option.toList, List.cons_append, List.nil_append]
        refine J_istore (lv' := [(0, .ref (g.1 + 0)), (1, .int p1), (2, .int p2), (3, .int p3), (4, .int p4), (5, .int p5), (6, .int x6_10), (7, .int r_12), (8, .int r_14)]) dX8_mix_60 (by decide) [1, 2, 3, 4, 5, 6, 7, 8, 0] rfl  ?_
        refine J_iconst (v := 0) dX8_mix_62 (by decide)  ?_
        refine J_istore (lv' := [(0, .ref (g.1 + 0)), (1, .int p1), (2, .int p2), (3, .int p3), (4, .int p4), (5, .int p5), (6, .int x6_10), (7, .int r_12), (8, .int r_14), (9, .int 0)]) dX8_mix_63 (by decide) [1, 2, 3, 4, 5, 6, 7, 8, 9, 0] rfl  ?_
        obtain ⟨n, h⟩ := h
        exact l_X8_mix_65 p1 p2 p3 p4 p5  _   n _ _ _ _ _  h
      · have h := h.2 c_9
        exact l_X8_mix_34 p1 p2 p3 p4 p5  _    _  h
def wp_X8_leaveRest (p1 : Nat) (p2 : Int32) (S : Sto) (Q : Sto → Prop) : Prop := vp_in p2 (6) ∧ wp_X4_width  S (fun r_3 S_2 => wp_X2_copy (2 + 1 + (p2 : Int32).toNatClampNeg) 352 r_3 S_2 (fun S_4 => wp_X5_takeFrom p1 352 S_4 (fun S_6 => Q S_6)))
set_option maxRecDepth 100000 in
set_option maxHeartbeats 4000000 in
theorem c_X8_leaveRest {g : Gv} (p1 : Nat) (p2 : Int32) (hp1 : kd p1 = 8) (S : Sto) (Q : Sto → Prop) (h : wp_X8_leaveRest p1 p2 S Q) : CT g yX8_leaveRest cX8_leaveRest 3 none 3 [.ref (g.1 + 0), .ref (g.1 + p1), .int p2] S (Qv Q) := by
  unfold wp_X8_leaveRest at h
  refine CT.of (by decide) (Nat.le_of_ble_eq_true rfl) ?_
  refine J_sub (lv' := [(0, .ref (g.1 + 0)), (1, .ref (g.1 + p1)), (2, .int p2)]) [0, 1, 2] rfl ?_
  refine J_aload_n dX8_leaveRest_0 rfl 0 rfl  ?_
  refine J_getr (r := 1) (ci := 6) dX8_leaveRest_1 0 rfl giX8 (by decide) (by decide) rfl rfl tb_2_16 (by decide) (by decide)  ?_
  refine J_getr (r := 2) (ci := 2) dX8_leaveRest_4 3 rfl giX4 (by decide) (by decide) rfl rfl tb_1_46 (by decide) (by decide)  ?_
  refine J_iload_n dX8_leaveRest_7 rfl 2 rfl  ?_
  obtain ⟨hi_1, h⟩ := h
  refine J_aald3 dX8_leaveRest_8 (by decide) hi_1  ?_
  refine J_aload_n dX8_leaveRest_9 rfl 0 rfl  ?_
  refine J_getr (r := 352) (ci := 6) dX8_leaveRest_10 7 rfl giX8 (by decide) (by decide) rfl rfl tb_2_23 (by decide) (by decide)  ?_
  refine J_aload_n dX8_leaveRest_13 rfl 0 rfl  ?_
  refine J_getr (r := 1) (ci := 6) dX8_leaveRest_14 0 rfl giX8 (by decide) (by decide) rfl rfl tb_2_16 (by decide) (by decide)  ?_
  refine J_callV (h := 1) (ci := 2) (As := []) (rest := [.ref (g.1 + 352), .ref (g.1 + (2 + 1 + (p2 : Int32).toNatClampNeg))]) (n := 0) dX8_leaveRest_17 (c_X4_width   _ _ h) (by decide) rfl tb_2_91 tb_2_102 tb_1_2 tb_2_89 tb_2_90 (by decide) rfl (by decide) (by decide) (Nat.le_of_ble_eq_true rfl) rfl (fun v_r_3 S_2 hq => ?_)
  obtain ⟨r_3, rfl, h⟩ := hq
  dsimp only [Option.toList, List.cons_append, List.nil_append]
  refine J_callS (As := [.ref (g.1 + (2 + 1 + (p2 : Int32).toNatClampNeg)), .ref (g.1 + 352), .int r_3]) (rest := []) (n := 3) dX8_leaveRest_20 (c_X2_copy (2 + 1 + (p2 : Int32).toNatClampNeg) 352 r_3 (kd_row3 (by decide) hi_1) (by decide) _ _ h) tb_2_123 tb_2_196 tb_1_9 tb_2_122 (by decide) rfl (by decide) (by decide) (Nat.le_of_ble_eq_true rfl) rfl (fun v_r_5 S_4 hq => ?_)
  obtain ⟨rfl, h⟩ := hq
  dsimp only [Option.toList, List.cons_append, List.nil_append]
  refine J_aload_n dX8_leaveRest_23 rfl 1 rfl  ?_
  refine J_aload_n dX8_leaveRest_24 rfl 0 rfl  ?_
  refine J_getr (r := 352) (ci := 6) dX8_leaveRest_25 7 rfl giX8 (by decide) (by decide) rfl rfl tb_2_23 (by decide) (by decide)  ?_
  refine J_callV (h := p1) (ci := 3) (As := [.ref (g.1 + 352)]) (rest := []) (n := 1) dX8_leaveRest_28 (c_X5_takeFrom p1 352 hp1 (by decide) _ _ h) hp1 rfl tb_2_172 tb_2_197 tb_1_6 tb_2_170 tb_2_171 (by decide) rfl (by decide) (by decide) (Nat.le_of_ble_eq_true rfl) rfl (fun v_r_7 S_6 hq => ?_)
  obtain ⟨rfl, h⟩ := hq
  dsimp only [Option.toList, List.cons_append, List.nil_append]
  exact J_vret dX8_leaveRest_31 rfl ⟨rfl, h⟩
def q_X8_becomes_31 (p1 : Int32) (p2 : Int32) (p3 : Int32)  (Q : Int32 → Sto → Prop)  (S : Sto) : Prop := Q ((-1)) S
set_option maxRecDepth 100000 in
set_option maxHeartbeats 4000000 in
theorem l_X8_becomes_31 {g : Gv} (p1 : Int32) (p2 : Int32) (p3 : Int32)  (Q : Int32 → Sto → Prop)    (S : Sto)  (h : q_X8_becomes_31 p1 p2 p3  Q  S) : RJ g cX8_becomes RX8 (some .int) 4 7 31 [(0, .ref (g.1 + 0)), (1, .int p1), (2, .int p2), (3, .int p3)] [] S (Qi Q) := by
  unfold q_X8_becomes_31 at h
  refine J_iconst (v := (-1)) dX8_becomes_31 (by decide)  ?_
  exact J_iret dX8_becomes_32 rfl rfl ⟨_, rfl, h⟩
def q_X8_becomes_127 (p1 : Int32) (p2 : Int32) (p3 : Int32)  (Q : Int32 → Sto → Prop)  (S : Sto) : Prop := wp_X4_replaceElement p1 352 S (fun r_2 S_1 => Q r_2 S_1)
set_option maxRecDepth 100000 in
set_option maxHeartbeats 4000000 in
theorem l_X8_becomes_127 {g : Gv} (p1 : Int32) (p2 : Int32) (p3 : Int32)  (Q : Int32 → Sto → Prop)    (S : Sto)  (h : q_X8_becomes_127 p1 p2 p3  Q  S) : RJ g cX8_becomes RX8 (some .int) 4 7 127 [(0, .ref (g.1 + 0)), (1, .int p1), (2, .int p2), (3, .int p3)] [] S (Qi Q) := by
  unfold q_X8_becomes_127 at h
  refine J_aload_n dX8_becomes_127 rfl 0 rfl  ?_
  refine J_getr (r := 1) (ci := 6) dX8_becomes_128 0 rfl giX8 (by decide) (by decide) rfl rfl tb_2_16 (by decide) (by decide)  ?_
  refine J_iload_n dX8_becomes_131 rfl 1 rfl  ?_
  refine J_aload_n dX8_becomes_132 rfl 0 rfl  ?_
  refine J_getr (r := 352) (ci := 6) dX8_becomes_133 7 rfl giX8 (by decide) (by decide) rfl rfl tb_2_23 (by decide) (by decide)  ?_
  refine J_callV (h := 1) (ci := 2) (As := [.int p1, .ref (g.1 + 352)]) (rest := []) (n := 2) dX8_becomes_136 (c_X4_replaceElement p1 352 (by decide) _ _ h) (by decide) rfl tb_2_119 tb_2_116 tb_1_2 tb_2_117 tb_2_118 (by decide) rfl (by decide) (by decide) (Nat.le_of_ble_eq_true rfl) rfl (fun v_r_2 S_1 hq => ?_)
  obtain ⟨r_2, rfl, h⟩ := hq
  dsimp only [Option.toList, List.cons_append, List.nil_append]
  exact J_iret dX8_becomes_139 rfl rfl ⟨_, rfl, h⟩
def wp_X8_becomes (p1 : Int32) (p2 : Int32) (p3 : Int32) (S : Sto) (Q : Int32 → Sto → Prop) : Prop := wp_X4_hasElement p1 S (fun r_2 S_1 => ((r_2 = 0 → q_X8_becomes_31 p1 p2 p3  Q  S_1) ∧ (¬ r_2 = 0 → wp_X4_hasElement p2 S_1 (fun r_5 S_4 => ((r_5 = 0 → q_X8_becomes_31 p1 p2 p3  Q  S_4) ∧ (¬ r_5 = 0 → ((p3 < 0 → q_X8_becomes_31 p1 p2 p3  Q  S_4) ∧ (¬ p3 < 0 → ((p3 ≤ 4 → ((¬ p3 = 0 → ((¬ p3 = 1 → wp_X1_ofSide (p3 - 2) S_4 (fun r_12 S_11 => kd r_12 = 8 → wp_X8_leaveRest r_12 p2 S_11 (fun S_14 => q_X8_becomes_127 p1 p2 p3  Q  S_14))) ∧ (p3 = 1 → vp_in p2 (6) ∧ wp_X4_width  S_4 (fun r_18 S_17 => wp_X2_complement (2 + 1 + (p2 : Int32).toNatClampNeg) 352 r_18 (S_17.1 1 1) S_17 (fun S_19 => q_X8_becomes_127 p1 p2 p3  Q  S_19))))) ∧ (p3 = 0 → vp_in p2 (6) ∧ wp_X4_width  S_4 (fun r_23 S_22 => wp_X2_turn (2 + 1 + (p2 : Int32).toNatClampNeg) 352 r_23 (S_22.1 1 1) S_22 (fun S_24 => q_X8_becomes_127 p1 p2 p3  Q  S_24))))) ∧ (¬ p3 ≤ 4 → q_X8_becomes_31 p1 p2 p3  Q  S_4))))))))))
set_option maxRecDepth 100000 in
set_option maxHeartbeats 4000000 in
theorem c_X8_becomes {g : Gv} (p1 : Int32) (p2 : Int32) (p3 : Int32)  (S : Sto) (Q : Int32 → Sto → Prop) (h : wp_X8_becomes p1 p2 p3 S Q) : CT g yX8_becomes cX8_becomes 4 (some .int) 7 [.ref (g.1 + 0), .int p1, .int p2, .int p3] S (Qi Q) := by
  unfold wp_X8_becomes at h
  refine CT.of (by decide) (Nat.le_of_ble_eq_true rfl) ?_
  refine J_sub (lv' := [(0, .ref (g.1 + 0)), (1, .int p1), (2, .int p2), (3, .int p3)]) [0, 1, 2, 3] rfl ?_
  refine J_aload_n dX8_becomes_0 rfl 0 rfl  ?_
  refine J_getr (r := 1) (ci := 6) dX8_becomes_1 0 rfl giX8 (by decide) (by decide) rfl rfl tb_2_16 (by decide) (by decide)  ?_
  refine J_iload_n dX8_becomes_4 rfl 1 rfl  ?_
  refine J_callV (h := 1) (ci := 2) (As := [.int p1]) (rest := []) (n := 1) dX8_becomes_5 (c_X4_hasElement p1  _ _ h) (by decide) rfl tb_2_83 tb_2_80 tb_1_2 tb_2_81 tb_2_82 (by decide) rfl (by decide) (by decide) (Nat.le_of_ble_eq_true rfl) rfl (fun v_r_2 S_1 hq => ?_)
  obtain ⟨r_2, rfl, h⟩ := hq
  dsimp only [Option.toList, List.cons_append, List.nil_append]
  refine J_if_eq (tgt := 31) dX8_becomes_8 (by decide) (fun c_3 => ?_) (fun c_3 => ?_)
  · have h := h.1 c_3
    exact l_X8_becomes_31 p1 p2 p3  _    _  h
  · have h := h.2 c_3
    refine J_aload_n dX8_becomes_11 rfl 0 rfl  ?_
    refine J_getr (r := 1) (ci := 6) dX8_becomes_12 0 rfl giX8 (by decide) (by decide) rfl rfl tb_2_16 (by decide) (by decide)  ?_
    refine J_iload_n dX8_becomes_15 rfl 2 rfl  ?_
    refine J_callV (h := 1) (ci := 2) (As := [.int p2]) (rest := []) (n := 1) dX8_becomes_16 (c_X4_hasElement p2  _ _ h) (by decide) rfl tb_2_83 tb_2_80 tb_1_2 tb_2_81 tb_2_82 (by decide) rfl (by decide) (by decide) (Nat.le_of_ble_eq_true rfl) rfl (fun v_r_5 S_4 hq => ?_)
    obtain ⟨r_5, rfl, h⟩ := hq
    dsimp only [Option.toList, List.cons_append, List.nil_append]
    refine J_if_eq (tgt := 31) dX8_becomes_19 (by decide) (fun c_6 => ?_) (fun c_6 => ?_)
    · have h := h.1 c_6
      exact l_X8_becomes_31 p1 p2 p3  _    _  h
    · have h := h.2 c_6
      refine J_iload_n dX8_becomes_22 rfl 3 rfl  ?_
      refine J_if_lt (tgt := 31) dX8_becomes_23 (by decide) (fun c_7 => ?_) (fun c_7 => ?_)
      · have h := h.1 c_7
        exact l_X8_becomes_31 p1 p2 p3  _    _  h
      · have h := h.2 c_7
        refine J_iload_n dX8_becomes_26 rfl 3 rfl  ?_
        refine J_iconst (v := 4) dX8_becomes_27 (by decide)  ?_
        refine J_icmp_le (tgt := 33) dX8_becomes_28 (by decide) (fun c_8 => ?_) (fun c_8 => ?_)
        · have h := h.1 c_8
          refine J_iload_n dX8_becomes_33 rfl 3 rfl  ?_
          refine J_if_ne (tgt := 70) dX8_becomes_34 (by decide) (fun c_9 => ?_) (fun c_9 => ?_)
          · have h := h.1 c_9
            refine J_iload_n dX8_becomes_70 rfl 3 rfl  ?_
            refine J_iconst (v := 1) dX8_becomes_71 (by decide)  ?_
            refine J_icmp_ne (tgt := 108) dX8_becomes_72 (by decide) (fun c_10 => ?_) (fun c_10 => ?_)
            · have h := h.1 c_10
              refine J_aload_n dX8_becomes_108 rfl 0 rfl  ?_
              refine J_aload_n dX8_becomes_109 rfl 0 rfl  ?_
              refine J_getr (r := 48) (ci := 6) dX8_becomes_110 5 rfl giX8 (by decide) (by decide) rfl rfl tb_2_21 (by decide) (by decide)  ?_
              refine J_aload_n dX8_becomes_113 rfl 0 rfl  ?_
              refine J_getr (r := 1) (ci := 6) dX8_becomes_114 0 rfl giX8 (by decide) (by decide) rfl rfl tb_2_16 (by decide) (by decide)  ?_
              refine J_iload_n dX8_becomes_117 rfl 3 rfl  ?_
              refine J_iconst (v := 2) dX8_becomes_118 (by decide)  ?_
              refine J_isub dX8_becomes_119  ?_
              refine J_callV (h := 48) (ci := 0) (As := [.ref (g.1 + 1), .int (p3 - 2)]) (rest := [.ref (g.1 + 0)]) (n := 2) dX8_becomes_120 (c_X1_ofSide (p3 - 2)  _ _ h) (by decide) rfl tb_2_144 tb_2_141 tb_1_5 tb_2_142 tb_2_143 (by decide) rfl (by decide) (by decide) (Nat.le_of_ble_eq_true rfl) rfl (fun v_r_12 S_11 hq => ?_)
              obtain ⟨r_12, rfl, hk_13, h⟩ := hq
              have h := h hk_13
              dsimp only [Option.toList, List.cons_append, List.nil_append]
              refine J_iload_n dX8_becomes_123 rfl 2 rfl  ?_
              refine J_callV (h := 0) (ci := 6) (As := [.ref (g.1 + r_12), .int p2]) (rest := []) (n := 2) dX8_becomes_124 (c_X8_leaveRest r_12 p2 hk_13 _ _ h) (by decide) rfl tb_2_195 tb_2_192 tb_1_1 tb_2_194 sl_4 (by decide) rfl (by decide) (by decide) (Nat.le_of_ble_eq_true rfl) rfl (fun v_r_15 S_14 hq => ?_)
              obtain ⟨rfl, h⟩ := hq
              dsimp only [Option.toList, List.cons_append, List.nil_append]
              exact l_X8_becomes_127 p1 p2 p3  _    _  h
            · have h := h.2 c_10
              refine J_aload_n dX8_becomes_75 rfl 0 rfl  ?_
              refine J_getr (r := 1) (ci := 6) dX8_becomes_76 0 rfl giX8 (by decide) (by decide) rfl rfl tb_2_16 (by decide) (by decide)  ?_
              refine J_getr (r := 2) (ci := 2) dX8_becomes_79 3 rfl giX4 (by decide) (by decide) rfl rfl tb_1_46 (by decide) (by decide)  ?_
              refine J_iload_n dX8_becomes_82 rfl 2 rfl  ?_
              obtain ⟨hi_16, h⟩ := h
              refine J_aald3 dX8_becomes_83 (by decide) hi_16  ?_
              refine J_aload_n dX8_becomes_84 rfl 0 rfl  ?_
              refine J_getr (r := 352) (ci := 6) dX8_becomes_85 7 rfl giX8 (by decide) (by decide) rfl rfl tb_2_23 (by decide) (by decide)  ?_
              refine J_aload_n dX8_becomes_88 rfl 0 rfl  ?_
              refine J_getr (r := 1) (ci := 6) dX8_becomes_89 0 rfl giX8 (by decide) (by decide) rfl rfl tb_2_16 (by decide) (by decide)  ?_
              refine J_callV (h := 1) (ci := 2) (As := []) (rest := [.ref (g.1 + 352), .ref (g.1 + (2 + 1 + (p2 : Int32).toNatClampNeg))]) (n := 0) dX8_becomes_92 (c_X4_width   _ _ h) (by decide) rfl tb_2_91 tb_2_102 tb_1_2 tb_2_89 tb_2_90 (by decide) rfl (by decide) (by decide) (Nat.le_of_ble_eq_true rfl) rfl (fun v_r_18 S_17 hq => ?_)
              obtain ⟨r_18, rfl, h⟩ := hq
              dsimp only [Option.toList, List.cons_append, List.nil_append]
              refine J_aload_n dX8_becomes_95 rfl 0 rfl  ?_
              refine J_getr (r := 1) (ci := 6) dX8_becomes_96 0 rfl giX8 (by decide) (by decide) rfl rfl tb_2_16 (by decide) (by decide)  ?_
              refine J_geti (ci := 2) dX8_becomes_99 1 rfl giX4 (by decide) (by decide) rfl rfl tb_1_39 rfl  ?_
              refine J_callS (As := [.ref (g.1 + (2 + 1 + (p2 : Int32).toNatClampNeg)), .ref (g.1 + 352), .int r_18, .int (S_17.1 1 1)]) (rest := []) (n := 4) dX8_becomes_102 (c_X2_complement (2 + 1 + (p2 : Int32).toNatClampNeg) 352 r_18 (S_17.1 1 1) (kd_row3 (by decide) hi_16) (by decide) _ _ h) tb_2_140 tb_2_138 tb_1_9 tb_2_139 (by decide) rfl (by decide) (by decide) (Nat.le_of_ble_eq_true rfl) rfl (fun v_r_20 S_19 hq => ?_)
              obtain ⟨rfl, h⟩ := hq
              dsimp only [Option.toList, List.cons_append, List.nil_append]
              refine J_goto (tgt := 127) dX8_becomes_105 (by decide)  ?_
              exact l_X8_becomes_127 p1 p2 p3  _    _  h
          · have h := h.2 c_9
            refine J_aload_n dX8_becomes_37 rfl 0 rfl  ?_
            refine J_getr (r := 1) (ci := 6) dX8_becomes_38 0 rfl giX8 (by decide) (by decide) rfl rfl tb_2_16 (by decide) (by decide)  ?_
            refine J_getr (r := 2) (ci := 2) dX8_becomes_41 3 rfl giX4 (by decide) (by decide) rfl rfl tb_1_46 (by decide) (by decide)  ?_
            refine J_iload_n dX8_becomes_44 rfl 2 rfl  ?_
            obtain ⟨hi_21, h⟩ := h
            refine J_aald3 dX8_becomes_45 (by decide) hi_21  ?_
            refine J_aload_n dX8_becomes_46 rfl 0 rfl  ?_
            refine J_getr (r := 352) (ci := 6) dX8_becomes_47 7 rfl giX8 (by decide) (by decide) rfl rfl tb_2_23 (by decide) (by decide)  ?_
            refine J_aload_n dX8_becomes_50 rfl 0 rfl  ?_
            refine J_getr (r := 1) (ci := 6) dX8_becomes_51 0 rfl giX8 (by decide) (by decide) rfl rfl tb_2_16 (by decide) (by decide)  ?_
            refine J_callV (h := 1) (ci := 2) (As := []) (rest := [.ref (g.1 + 352), .ref (g.1 + (2 + 1 + (p2 : Int32).toNatClampNeg))]) (n := 0) dX8_becomes_54 (c_X4_width   _ _ h) (by decide) rfl tb_2_91 tb_2_102 tb_1_2 tb_2_89 tb_2_90 (by decide) rfl (by decide) (by decide) (Nat.le_of_ble_eq_true rfl) rfl (fun v_r_23 S_22 hq => ?_)
            obtain ⟨r_23, rfl, h⟩ := hq
            dsimp only [Option.toList, List.cons_append, List.nil_append]
            refine J_aload_n dX8_becomes_57 rfl 0 rfl  ?_
            refine J_getr (r := 1) (ci := 6) dX8_becomes_58 0 rfl giX8 (by decide) (by decide) rfl rfl tb_2_16 (by decide) (by decide)  ?_
            refine J_geti (ci := 2) dX8_becomes_61 1 rfl giX4 (by decide) (by decide) rfl rfl tb_1_39 rfl  ?_
            refine J_callS (As := [.ref (g.1 + (2 + 1 + (p2 : Int32).toNatClampNeg)), .ref (g.1 + 352), .int r_23, .int (S_22.1 1 1)]) (rest := []) (n := 4) dX8_becomes_64 (c_X2_turn (2 + 1 + (p2 : Int32).toNatClampNeg) 352 r_23 (S_22.1 1 1) (kd_row3 (by decide) hi_21) (by decide) _ _ h) tb_2_137 tb_2_135 tb_1_9 tb_2_136 (by decide) rfl (by decide) (by decide) (Nat.le_of_ble_eq_true rfl) rfl (fun v_r_25 S_24 hq => ?_)
            obtain ⟨rfl, h⟩ := hq
            dsimp only [Option.toList, List.cons_append, List.nil_append]
            refine J_goto (tgt := 127) dX8_becomes_67 (by decide)  ?_
            exact l_X8_becomes_127 p1 p2 p3  _    _  h
        · have h := h.2 c_8
          exact l_X8_becomes_31 p1 p2 p3  _    _  h
def q_X8_generate_36 (p1 : Int32)  (Q : Int32 → Sto → Prop) (t0 : Int32) (S : Sto) : Prop := Q t0 S
set_option maxRecDepth 100000 in
set_option maxHeartbeats 4000000 in
theorem l_X8_generate_36 {g : Gv} (p1 : Int32)  (Q : Int32 → Sto → Prop)   (t0 : Int32) (S : Sto)  (h : q_X8_generate_36 p1  Q t0 S) : RJ g cX8_generate RX8 (some .int) 2 3 36 [(0, .ref (g.1 + 0)), (1, .int p1)] [.int t0] S (Qi Q) := by
  unfold q_X8_generate_36 at h
  exact J_iret dX8_generate_36 rfl rfl ⟨_, rfl, h⟩
def wp_X8_generate (p1 : Int32) (S : Sto) (Q : Int32 → Sto → Prop) : Prop := wp_X4_hasElement p1 S (fun r_2 S_1 => ((¬ r_2 = 0 → wp_X4_addGenerator p1 S_1 (fun r_5 S_4 => ((r_5 = 0 → q_X8_generate_36 p1  Q ((-4)) S_4) ∧ (¬ r_5 = 0 → q_X8_generate_36 p1  Q (S_4.1 1 5) S_4)))) ∧ (r_2 = 0 → Q ((-1)) S_1)))
set_option maxRecDepth 100000 in
set_option maxHeartbeats 4000000 in
theorem c_X8_generate {g : Gv} (p1 : Int32)  (S : Sto) (Q : Int32 → Sto → Prop) (h : wp_X8_generate p1 S Q) : CT g yX8_generate cX8_generate 2 (some .int) 3 [.ref (g.1 + 0), .int p1] S (Qi Q) := by
  unfold wp_X8_generate at h
  refine CT.of (by decide) (Nat.le_of_ble_eq_true rfl) ?_
  refine J_sub (lv' := [(0, .ref (g.1 + 0)), (1, .int p1)]) [0, 1] rfl ?_
  refine J_aload_n dX8_generate_0 rfl 0 rfl  ?_
  refine J_getr (r := 1) (ci := 6) dX8_generate_1 0 rfl giX8 (by decide) (by decide) rfl rfl tb_2_16 (by decide) (by decide)  ?_
  refine J_iload_n dX8_generate_4 rfl 1 rfl  ?_
  refine J_callV (h := 1) (ci := 2) (As := [.int p1]) (rest := []) (n := 1) dX8_generate_5 (c_X4_hasElement p1  _ _ h) (by decide) rfl tb_2_83 tb_2_80 tb_1_2 tb_2_81 tb_2_82 (by decide) rfl (by decide) (by decide) (Nat.le_of_ble_eq_true rfl) rfl (fun v_r_2 S_1 hq => ?_)
  obtain ⟨r_2, rfl, h⟩ := hq
  dsimp only [Option.toList, List.cons_append, List.nil_append]
  refine J_if_ne (tgt := 13) dX8_generate_8 (by decide) (fun c_3 => ?_) (fun c_3 => ?_)
  · have h := h.1 c_3
    refine J_aload_n dX8_generate_13 rfl 0 rfl  ?_
    refine J_getr (r := 1) (ci := 6) dX8_generate_14 0 rfl giX8 (by decide) (by decide) rfl rfl tb_2_16 (by decide) (by decide)  ?_
    refine J_iload_n dX8_generate_17 rfl 1 rfl  ?_
    refine J_callV (h := 1) (ci := 2) (As := [.int p1]) (rest := []) (n := 1) dX8_generate_18 (c_X4_addGenerator p1  _ _ h) (by decide) rfl tb_2_205 tb_2_202 tb_1_2 tb_2_203 tb_2_204 (by decide) rfl (by decide) (by decide) (Nat.le_of_ble_eq_true rfl) rfl (fun v_r_5 S_4 hq => ?_)
    obtain ⟨r_5, rfl, h⟩ := hq
    dsimp only [Option.toList, List.cons_append, List.nil_append]
    refine J_if_eq (tgt := 34) dX8_generate_21 (by decide) (fun c_6 => ?_) (fun c_6 => ?_)
    · have h := h.1 c_6
      refine J_bipush (v := (-4)) dX8_generate_34 (by decide)  ?_
      exact l_X8_generate_36 p1  _   _ _  h
    · have h := h.2 c_6
      refine J_aload_n dX8_generate_24 rfl 0 rfl  ?_
      refine J_getr (r := 1) (ci := 6) dX8_generate_25 0 rfl giX8 (by decide) (by decide) rfl rfl tb_2_16 (by decide) (by decide)  ?_
      refine J_geti (ci := 2) dX8_generate_28 5 rfl giX4 (by decide) (by decide) rfl rfl tb_1_55 rfl  ?_
      refine J_goto (tgt := 36) dX8_generate_31 (by decide)  ?_
      exact l_X8_generate_36 p1  _   _ _  h
  · have h := h.2 c_3
    refine J_iconst (v := (-1)) dX8_generate_11 (by decide)  ?_
    exact J_iret dX8_generate_12 rfl rfl ⟨_, rfl, h⟩
def wp_X8_clear  (S : Sto) (Q : Int32 → Sto → Prop) : Prop := ∀ x1_1 : Int32, x1_1 = S.1 1 5 → wp_X4_dropGenerators  S (fun S_2 => Q x1_1 S_2)
set_option maxRecDepth 100000 in
set_option maxHeartbeats 4000000 in
theorem c_X8_clear {g : Gv}   (S : Sto) (Q : Int32 → Sto → Prop) (h : wp_X8_clear  S Q) : CT g yX8_clear cX8_clear 2 (some .int) 2 [.ref (g.1 + 0)] S (Qi Q) := by
  unfold wp_X8_clear at h
  refine CT.of (by decide) (Nat.le_of_ble_eq_true rfl) ?_
  refine J_sub (lv' := [(0, .ref (g.1 + 0))]) [0] rfl ?_
  refine J_aload_n dX8_clear_0 rfl 0 rfl  ?_
  refine J_getr (r := 1) (ci := 6) dX8_clear_1 0 rfl giX8 (by decide) (by decide) rfl rfl tb_2_16 (by decide) (by decide)  ?_
  refine J_geti (ci := 2) dX8_clear_4 5 rfl giX4 (by decide) (by decide) rfl rfl tb_1_55 rfl  ?_
  refine J_topi (fun x1_1 ex1_1 => ?_)
  have h := h x1_1 ex1_1
  refine J_istore_n (lv' := [(0, .ref (g.1 + 0)), (1, .int x1_1)]) dX8_clear_7 rfl (by decide) [1, 0] rfl  ?_
  refine J_aload_n dX8_clear_8 rfl 0 rfl  ?_
  refine J_getr (r := 1) (ci := 6) dX8_clear_9 0 rfl giX8 (by decide) (by decide) rfl rfl tb_2_16 (by decide) (by decide)  ?_
  refine J_callV (h := 1) (ci := 2) (As := []) (rest := []) (n := 0) dX8_clear_12 (c_X4_dropGenerators   _ _ h) (by decide) rfl tb_2_56 tb_2_210 tb_1_2 tb_2_54 tb_2_55 (by decide) rfl (by decide) (by decide) (Nat.le_of_ble_eq_true rfl) rfl (fun v_r_3 S_2 hq => ?_)
  obtain ⟨rfl, h⟩ := hq
  dsimp only [Option.toList, List.cons_append, List.nil_append]
  refine J_iload_n dX8_clear_15 rfl 1 rfl  ?_
  exact J_iret dX8_clear_16 rfl rfl ⟨_, rfl, h⟩
def q_X8_feed_10 (p1 : Int32)  (Q : Int32 → Sto → Prop)  (S : Sto) : Prop := Q ((-2)) S
set_option maxRecDepth 100000 in
set_option maxHeartbeats 4000000 in
theorem l_X8_feed_10 {g : Gv} (p1 : Int32)  (Q : Int32 → Sto → Prop)    (S : Sto)  (h : q_X8_feed_10 p1  Q  S) : RJ g cX8_feed RX8 (some .int) 2 2 10 [(0, .ref (g.1 + 0)), (1, .int p1)] [] S (Qi Q) := by
  unfold q_X8_feed_10 at h
  refine J_bipush (v := (-2)) dX8_feed_10 (by decide)  ?_
  exact J_iret dX8_feed_12 rfl rfl ⟨_, rfl, h⟩
def q_X8_feed_36 (p1 : Int32)  (Q : Int32 → Sto → Prop) (t0 : Int32) (S : Sto) : Prop := Q t0 S
set_option maxRecDepth 100000 in
set_option maxHeartbeats 4000000 in
theorem l_X8_feed_36 {g : Gv} (p1 : Int32)  (Q : Int32 → Sto → Prop)   (t0 : Int32) (S : Sto)  (h : q_X8_feed_36 p1  Q t0 S) : RJ g cX8_feed RX8 (some .int) 2 2 36 [(0, .ref (g.1 + 0)), (1, .int p1)] [.int t0] S (Qi Q) := by
  unfold q_X8_feed_36 at h
  exact J_iret dX8_feed_36 rfl rfl ⟨_, rfl, h⟩
def wp_X8_feed (p1 : Int32) (S : Sto) (Q : Int32 → Sto → Prop) : Prop := ((p1 < 0 → q_X8_feed_10 p1  Q  S) ∧ (¬ p1 < 0 → ((p1 ≤ 127 → wp_X3_append p1 S (fun r_4 S_3 => ((r_4 = 0 → q_X8_feed_36 p1  Q ((-4)) S_3) ∧ (¬ r_4 = 0 → q_X8_feed_36 p1  Q (S_3.1 35 1) S_3)))) ∧ (¬ p1 ≤ 127 → q_X8_feed_10 p1  Q  S))))
set_option maxRecDepth 100000 in
set_option maxHeartbeats 4000000 in
theorem c_X8_feed {g : Gv} (p1 : Int32)  (S : Sto) (Q : Int32 → Sto → Prop) (h : wp_X8_feed p1 S Q) : CT g yX8_feed cX8_feed 2 (some .int) 2 [.ref (g.1 + 0), .int p1] S (Qi Q) := by
  unfold wp_X8_feed at h
  refine CT.of (by decide) (Nat.le_of_ble_eq_true rfl) ?_
  refine J_sub (lv' := [(0, .ref (g.1 + 0)), (1, .int p1)]) [0, 1] rfl ?_
  refine J_iload_n dX8_feed_0 rfl 1 rfl  ?_
  refine J_if_lt (tgt := 10) dX8_feed_1 (by decide) (fun c_1 => ?_) (fun c_1 => ?_)
  · have h := h.1 c_1
    exact l_X8_feed_10 p1  _    _  h
  · have h := h.2 c_1
    refine J_iload_n dX8_feed_4 rfl 1 rfl  ?_
    refine J_bipush (v := 127) dX8_feed_5 (by decide)  ?_
    refine J_icmp_le (tgt := 13) dX8_feed_7 (by decide) (fun c_2 => ?_) (fun c_2 => ?_)
    · have h := h.1 c_2
      refine J_aload_n dX8_feed_13 rfl 0 rfl  ?_
      refine J_getr (r := 35) (ci := 6) dX8_feed_14 3 rfl giX8 (by decide) (by decide) rfl rfl tb_2_19 (by decide) (by decide)  ?_
      refine J_iload_n dX8_feed_17 rfl 1 rfl  ?_
      refine J_callV (h := 35) (ci := 1) (As := [.int p1]) (rest := []) (n := 1) dX8_feed_18 (c_X3_append p1  _ _ h) (by decide) rfl tb_2_218 tb_2_215 tb_1_3 tb_2_216 tb_2_217 (by decide) rfl (by decide) (by decide) (Nat.le_of_ble_eq_true rfl) rfl (fun v_r_4 S_3 hq => ?_)
      obtain ⟨r_4, rfl, h⟩ := hq
      dsimp only [Option.toList, List.cons_append, List.nil_append]
      refine J_if_eq (tgt := 34) dX8_feed_21 (by decide) (fun c_5 => ?_) (fun c_5 => ?_)
      · have h := h.1 c_5
        refine J_bipush (v := (-4)) dX8_feed_34 (by decide)  ?_
        exact l_X8_feed_36 p1  _   _ _  h
      · have h := h.2 c_5
        refine J_aload_n dX8_feed_24 rfl 0 rfl  ?_
        refine J_getr (r := 35) (ci := 6) dX8_feed_25 3 rfl giX8 (by decide) (by decide) rfl rfl tb_2_19 (by decide) (by decide)  ?_
        refine J_geti (ci := 1) dX8_feed_28 1 rfl giX3 (by decide) (by decide) rfl rfl tb_1_107 rfl  ?_
        refine J_goto (tgt := 36) dX8_feed_31 (by decide)  ?_
        exact l_X8_feed_36 p1  _   _ _  h
    · have h := h.2 c_2
      exact l_X8_feed_10 p1  _    _  h
def q_X8_read_30   (Q : Int32 → Sto → Prop) (t0 : Int32) (S : Sto) : Prop := ∀ S_1 : Sto, S_1 = uA S 35 1 0 → Q t0 S_1
set_option maxRecDepth 100000 in
set_option maxHeartbeats 4000000 in
theorem l_X8_read_30 {g : Gv}   (Q : Int32 → Sto → Prop)   (t0 : Int32) (S : Sto)  (h : q_X8_read_30   Q t0 S) : RJ g cX8_read RX8 (some .int) 3 7 30 [(0, .ref (g.1 + 0))] [.int t0] S (Qi Q) := by
  unfold q_X8_read_30 at h
  refine J_istore_n (lv' := [(0, .ref (g.1 + 0)), (2, .int t0)]) dX8_read_30 rfl (by decide) [1, 0] rfl  ?_
  refine J_aload_n dX8_read_31 rfl 0 rfl  ?_
  refine J_getr (r := 35) (ci := 6) dX8_read_32 3 rfl giX8 (by decide) (by decide) rfl rfl tb_2_19 (by decide) (by decide)  ?_
  refine J_iconst (v := 0) dX8_read_35 (by decide)  ?_
  refine J_puti (ci := 1) dX8_read_36 1 rfl giX3 (by decide) (by decide) rfl rfl tyX3 tyX3_ok nmX3 rfl rfl rfl rfl tb_1_107 rfl  ?_
  refine J_nmS (fun S_1 eS_1 => ?_)
  have h := h S_1 eS_1
  refine J_iload_n dX8_read_39 rfl 1 rfl  ?_
  exact J_iret dX8_read_40 rfl rfl ⟨_, rfl, h⟩
def wp_X8_read  (S : Sto) (Q : Int32 → Sto → Prop) : Prop := wp_X3_faultPlace  S (fun r_2 S_1 => ((r_2 < 0 → wp_X3_perform  S_1 (fun r_5 S_4 => q_X8_read_30   Q r_5 S_4)) ∧ (¬ r_2 < 0 → q_X8_read_30   Q (((-10)) - r_2) S_1)))
set_option maxRecDepth 100000 in
set_option maxHeartbeats 4000000 in
theorem c_X8_read {g : Gv}   (S : Sto) (Q : Int32 → Sto → Prop) (h : wp_X8_read  S Q) : CT g yX8_read cX8_read 3 (some .int) 7 [.ref (g.1 + 0)] S (Qi Q) := by
  unfold wp_X8_read at h
  refine CT.of (by decide) (Nat.le_of_ble_eq_true rfl) ?_
  refine J_sub (lv' := [(0, .ref (g.1 + 0))]) [0] rfl ?_
  refine J_aload_n dX8_read_0 rfl 0 rfl  ?_
  refine J_getr (r := 35) (ci := 6) dX8_read_1 3 rfl giX8 (by decide) (by decide) rfl rfl tb_2_19 (by decide) (by decide)  ?_
  refine J_callV (h := 35) (ci := 1) (As := []) (rest := []) (n := 0) dX8_read_4 (c_X3_faultPlace   _ _ h) (by decide) rfl tb_2_226 tb_2_223 tb_1_3 tb_2_224 tb_2_225 (by decide) rfl (by decide) (by decide) (Nat.le_of_ble_eq_true rfl) rfl (fun v_r_2 S_1 hq => ?_)
  obtain ⟨r_2, rfl, h⟩ := hq
  dsimp only [Option.toList, List.cons_append, List.nil_append]
  refine J_istore_n (lv' := [(0, .ref (g.1 + 0)), (1, .int r_2)]) dX8_read_7 rfl (by decide) [1, 0] rfl  ?_
  refine J_iload_n dX8_read_8 rfl 1 rfl  ?_
  refine J_if_lt (tgt := 19) dX8_read_9 (by decide) (fun c_3 => ?_) (fun c_3 => ?_)
  · have h := h.1 c_3
    refine J_aload_n dX8_read_19 rfl 0 rfl  ?_
    refine J_getr (r := 35) (ci := 6) dX8_read_20 3 rfl giX8 (by decide) (by decide) rfl rfl tb_2_19 (by decide) (by decide)  ?_
    refine J_aload_n dX8_read_23 rfl 0 rfl  ?_
    refine J_getr (r := 1) (ci := 6) dX8_read_24 0 rfl giX8 (by decide) (by decide) rfl rfl tb_2_16 (by decide) (by decide)  ?_
    refine J_callV (h := 35) (ci := 1) (As := [.ref (g.1 + 1)]) (rest := []) (n := 1) dX8_read_27 (c_X3_perform   _ _ h) (by decide) rfl tb_3_18 tb_3_15 tb_1_3 tb_3_16 tb_3_17 (by decide) rfl (by decide) (by decide) (Nat.le_of_ble_eq_true rfl) rfl (fun v_r_5 S_4 hq => ?_)
    obtain ⟨r_5, rfl, h⟩ := hq
    dsimp only [Option.toList, List.cons_append, List.nil_append]
    refine J_sub (lv' := [(0, .ref (g.1 + 0))]) [0] rfl ?_
    exact l_X8_read_30   _   _ _  h
  · have h := h.2 c_3
    refine J_bipush (v := (-10)) dX8_read_12 (by decide)  ?_
    refine J_iload_n dX8_read_14 rfl 1 rfl  ?_
    refine J_isub dX8_read_15  ?_
    refine J_goto (tgt := 30) dX8_read_16 (by decide)  ?_
    refine J_sub (lv' := [(0, .ref (g.1 + 0))]) [0] rfl ?_
    exact l_X8_read_30   _   _ _  h
def q_X8_of_37 (p1 : Int32) (p2 : Int32)  (Q : Int32 → Sto → Prop) (t0 : Int32) (S : Sto) : Prop := Q t0 S
set_option maxRecDepth 100000 in
set_option maxHeartbeats 4000000 in
theorem l_X8_of_37 {g : Gv} (p1 : Int32) (p2 : Int32)  (Q : Int32 → Sto → Prop)   (t0 : Int32) (S : Sto)  (h : q_X8_of_37 p1 p2  Q t0 S) : RJ g cX8_of RX8 (some .int) 3 3 37 [(0, .ref (g.1 + 0)), (1, .int p1), (2, .int p2)] [.int t0] S (Qi Q) := by
  unfold q_X8_of_37 at h
  exact J_iret dX8_of_37 rfl rfl ⟨_, rfl, h⟩
def q_X8_of_36 (p1 : Int32) (p2 : Int32)  (Q : Int32 → Sto → Prop)  (S : Sto) : Prop := q_X8_of_37 p1 p2  Q ((-1)) S
set_option maxRecDepth 100000 in
set_option maxHeartbeats 4000000 in
theorem l_X8_of_36 {g : Gv} (p1 : Int32) (p2 : Int32)  (Q : Int32 → Sto → Prop)    (S : Sto)  (h : q_X8_of_36 p1 p2  Q  S) : RJ g cX8_of RX8 (some .int) 3 3 36 [(0, .ref (g.1 + 0)), (1, .int p1), (2, .int p2)] [] S (Qi Q) := by
  unfold q_X8_of_36 at h
  refine J_iconst (v := (-1)) dX8_of_36 (by decide)  ?_
  exact l_X8_of_37 p1 p2  _   _ _  h
def wp_X8_of (p1 : Int32) (p2 : Int32) (S : Sto) (Q : Int32 → Sto → Prop) : Prop := wp_X4_hasElement p1 S (fun r_2 S_1 => ((r_2 = 0 → q_X8_of_36 p1 p2  Q  S_1) ∧ (¬ r_2 = 0 → wp_X4_hasPlace p2 S_1 (fun r_5 S_4 => ((r_5 = 0 → q_X8_of_36 p1 p2  Q  S_4) ∧ (¬ r_5 = 0 → vp_in p1 (6) ∧ vp_in p2 (ln (2 + 1 + (p1 : Int32).toNatClampNeg)) ∧ q_X8_of_37 p1 p2  Q (S_4.1 (2 + 1 + (p1 : Int32).toNatClampNeg) (p2 : Int32).toNatClampNeg) S_4))))))
set_option maxRecDepth 100000 in
set_option maxHeartbeats 4000000 in
theorem c_X8_of {g : Gv} (p1 : Int32) (p2 : Int32)  (S : Sto) (Q : Int32 → Sto → Prop) (h : wp_X8_of p1 p2 S Q) : CT g yX8_of cX8_of 3 (some .int) 3 [.ref (g.1 + 0), .int p1, .int p2] S (Qi Q) := by
  unfold wp_X8_of at h
  refine CT.of (by decide) (Nat.le_of_ble_eq_true rfl) ?_
  refine J_sub (lv' := [(0, .ref (g.1 + 0)), (1, .int p1), (2, .int p2)]) [0, 1, 2] rfl ?_
  refine J_aload_n dX8_of_0 rfl 0 rfl  ?_
  refine J_getr (r := 1) (ci := 6) dX8_of_1 0 rfl giX8 (by decide) (by decide) rfl rfl tb_2_16 (by decide) (by decide)  ?_
  refine J_iload_n dX8_of_4 rfl 1 rfl  ?_
  refine J_callV (h := 1) (ci := 2) (As := [.int p1]) (rest := []) (n := 1) dX8_of_5 (c_X4_hasElement p1  _ _ h) (by decide) rfl tb_2_83 tb_2_80 tb_1_2 tb_2_81 tb_2_82 (by decide) rfl (by decide) (by decide) (Nat.le_of_ble_eq_true rfl) rfl (fun v_r_2 S_1 hq => ?_)
  obtain ⟨r_2, rfl, h⟩ := hq
  dsimp only [Option.toList, List.cons_append, List.nil_append]
  refine J_if_eq (tgt := 36) dX8_of_8 (by decide) (fun c_3 => ?_) (fun c_3 => ?_)
  · have h := h.1 c_3
    exact l_X8_of_36 p1 p2  _    _  h
  · have h := h.2 c_3
    refine J_aload_n dX8_of_11 rfl 0 rfl  ?_
    refine J_getr (r := 1) (ci := 6) dX8_of_12 0 rfl giX8 (by decide) (by decide) rfl rfl tb_2_16 (by decide) (by decide)  ?_
    refine J_iload_n dX8_of_15 rfl 2 rfl  ?_
    refine J_callV (h := 1) (ci := 2) (As := [.int p2]) (rest := []) (n := 1) dX8_of_16 (c_X4_hasPlace p2  _ _ h) (by decide) rfl tb_2_87 tb_2_84 tb_1_2 tb_2_85 tb_2_86 (by decide) rfl (by decide) (by decide) (Nat.le_of_ble_eq_true rfl) rfl (fun v_r_5 S_4 hq => ?_)
    obtain ⟨r_5, rfl, h⟩ := hq
    dsimp only [Option.toList, List.cons_append, List.nil_append]
    refine J_if_eq (tgt := 36) dX8_of_19 (by decide) (fun c_6 => ?_) (fun c_6 => ?_)
    · have h := h.1 c_6
      exact l_X8_of_36 p1 p2  _    _  h
    · have h := h.2 c_6
      refine J_aload_n dX8_of_22 rfl 0 rfl  ?_
      refine J_getr (r := 1) (ci := 6) dX8_of_23 0 rfl giX8 (by decide) (by decide) rfl rfl tb_2_16 (by decide) (by decide)  ?_
      refine J_getr (r := 2) (ci := 2) dX8_of_26 3 rfl giX4 (by decide) (by decide) rfl rfl tb_1_46 (by decide) (by decide)  ?_
      refine J_iload_n dX8_of_29 rfl 1 rfl  ?_
      obtain ⟨hi_7, h⟩ := h
      refine J_aald3 dX8_of_30 (by decide) hi_7  ?_
      refine J_iload_n dX8_of_31 rfl 2 rfl  ?_
      obtain ⟨hi_8, h⟩ := h
      refine J_iald dX8_of_32 (kd_row3 (by decide) hi_7) hi_8  ?_
      refine J_goto (tgt := 37) dX8_of_33 (by decide)  ?_
      exact l_X8_of_37 p1 p2  _   _ _  h
