/-! the methods of Span -/
theorem vb0 : vp_nar .boolean 0 = 0 := by decide
theorem vb1 : vp_nar .boolean 1 = 1 := by decide
theorem pi_aux (p : Nat) (h0 : 1 < p) (hd : ∀ i, i < p → ∀ j, j < p → i * j % p = 0 → i = 0 ∨ j = 0) : isPI p := by
  refine ⟨h0, fun a b h => ?_⟩
  have h1 : 0 ≤ a % p := Int.emod_nonneg a (by omega)
  have h2 : a % p < p := Int.emod_lt_of_pos a (by omega)
  have h3 : 0 ≤ b % p := Int.emod_nonneg b (by omega)
  have h4 : b % p < p := Int.emod_lt_of_pos b (by omega)
  obtain ⟨i, hi⟩ := Int.eq_ofNat_of_zero_le h1
  obtain ⟨j, hj⟩ := Int.eq_ofNat_of_zero_le h3
  have e : ((i * j % p : Nat) : Int) = 0 := by
    rw [Int.natCast_emod, Int.natCast_mul, ← hi, ← hj, ← Int.mul_emod]
    exact Int.emod_eq_zero_of_dvd h
  rcases hd i (by omega) j (by omega) (by omega) with q | q
  · left; exact Int.dvd_of_emod_eq_zero (by omega)
  · right; exact Int.dvd_of_emod_eq_zero (by omega)
theorem isP.pi {p : Nat} (h : isP p) : isPI p := by
  rcases h with rfl | rfl | rfl | rfl
  · exact pi_aux 2 (by decide) (by decide +kernel)
  · exact pi_aux 3 (by decide) (by decide +kernel)
  · exact pi_aux 5 (by decide) (by decide +kernel)
  · exact pi_aux 7 (by decide) (by decide +kernel)
def hdS (S : Sto) (h w l : Nat) : Prop := l < w ∧ ¬ S.1 (h + 2 + ln (h + 1)) l = 0
def rwS (S : Sto) (h l : Nat) : Vc := fun i => (S.1 (h + 1 + 1 + l) i).toInt
/-- the Span h holds a basis in steps of V -/
def SpOK (S : Sto) (h p w K : Nat) (V : Vc → Prop) : Prop :=
  (kd h = 8 ∧ isP p ∧ w ≤ ln (h + 1) ∧ K < 2) ∧ (S.1 h 2 = nI (cz (S.1 (h + 2 + ln (h + 1))) w) ∧ S.1 h 3 = nI w ∧ S.1 h 4 = nI p ∧ S.1 h 5 = nI K) ∧ RB p w K V (hdS S h w) (rwS S h) ∧ Sub p w V
/-- the cells of a Span -/
def spC (h k : Nat) : Prop := h ≤ k ∧ k ≤ h + 2 + ln (h + 1)
theorem SpOK.keep {S S' : Sto} {h p w K : Nat} {V : Vc → Prop} (H : SpOK S h p w K V) (e : ∀ k, spC h k → S'.1 k = S.1 k) : SpOK S' h p w K V := by
  obtain ⟨h1, h2, h3, h4⟩ := H
  have e0 := e h ⟨by omega, by omega⟩
  have e1 := e (h + 2 + ln (h + 1)) ⟨by omega, by omega⟩
  refine ⟨h1, by rw [e0, e1]; exact h2, ?_, h4⟩
  refine h3.eqv h4 (fun l => by unfold hdS; rw [e1]) (fun l i hl hi => ?_)
  unfold rwS
  rw [e (h + 1 + 1 + l) ⟨by omega, by have := hl.1; omega⟩]
theorem SpOK.row {S : Sto} {h p w K : Nat} {V : Vc → Prop} (H : SpOK S h p w K V) {l : Nat} (hl : hdS S h w l) : rd (S.1 (h + 1 + 1 + l)) w p (rwS S h l) := by
  intro i hi
  have := (H.2.2.1.1 l hl).2.2.2.1 i hi
  exact ⟨(iI_toInt _).symm, this⟩
theorem emod_back {p : Nat} {x t y : Int} : (x + (p - t) * y) % p = (x - t * y) % p := by
  have : x + ((p : Int) - t) * y = x - t * y + p * y := by grind
  rw [this, Int.add_mul_emod_self_left]
theorem sp_lessen {h x y p w : Nat} {X Y : Vc} {t : Int} {S : Sto} {Q : Sto → Prop} (hp : isP p) (hw : w ≤ 64) (h3 : S.1 h 3 = nI w) (h4 : S.1 h 4 = nI p) (hwx : w ≤ ln x) (hwy : w ≤ ln y) (hlx : ln x ≤ 70000) (hly : ln y ≤ 70000) (hxy : x ≠ y) (hxh : x ≠ h) (ht : 0 ≤ t ∧ t < p) (hX : rd (S.1 x) w p X) (hY : rd (S.1 y) w p Y)
    (hQ : Q (setA S x (fl w (fun i => iI ((X i - t * Y i) % p)) (S.1 x)))) : wp_X5_lessen h x (iI t) y S Q := by
  have hp8 := hp.pos
  unfold wp_X5_lessen q_X5_lessen_12
  rw [iI_eq0 ⟨by omega, by omega⟩, h4, show (2 : Int32) = nI 2 from rfl, nI_leI (by omega) (by omega)]
  refine ⟨fun z => ?_, fun z => ⟨fun _ b hb => ?_, fun c => by omega⟩⟩
  · have e : setA S x (fl w (fun i => iI ((X i - t * Y i) % p)) (S.1 x)) = S := by
      rw [show fl w (fun i => iI ((X i - t * Y i) % p)) (S.1 x) = S.1 x from funext fun j => ?_, setA_self]
      unfold fl
      split
      · rename_i q
        obtain ⟨a1, a2, a3⟩ := hX j q
        show iI ((X j - t * Y j) % p) = S.1 x j
        rw [z, Int.zero_mul, Int.sub_zero, Int.emod_eq_of_lt a2 a3, a1]
      · rfl
    rw [e] at hQ; exact hQ
  · rw [nI_iI, ← iI_sub] at hb
    refine loopE (fun n i (T : Sto) => q_X5_lessen_24 h x (iI t) y Q n b (nI i) T) (fun i T => T = setA S x (fl i (fun i => iI ((X i - t * Y i) % p)) (S.1 x))) w ?_ ?_ 0 S (by omega) (by rw [fl_0, setA_self])
    · intro T hT
      unfold q_X5_lessen_24
      rw [hT, setA_ne _ _ hxh.symm, h3, nI_leI (by omega) (by omega)]
      exact ⟨fun _ => hQ, fun c => by omega⟩
    · intro i n T hi hT ih
      unfold q_X5_lessen_24
      have e3 : T.1 h = S.1 h := by rw [hT, setA_ne _ _ hxh.symm]
      have ex : T.1 x i = S.1 x i := by rw [hT, setA_eq, fl_at]
      have ey : T.1 y = S.1 y := by rw [hT, setA_ne _ _ hxy.symm]
      obtain ⟨a1, a2, a3⟩ := hX i hi
      obtain ⟨b1, b2, b3⟩ := hY i hi
      rw [e3, h3, h4, nI_leI (by omega) (by omega), tn_nI (by omega), ex, ey, a1, b1, hb, ← iI_mul, ← iI_add, nI_iI p]
      have hm0 : 0 ≤ ((p : Int) - t) * Y i := Int.mul_nonneg (by omega) b2
      have hm1 : ((p : Int) - t) * Y i ≤ 8 * 8 := Int.mul_le_mul (by omega) (by omega) b2 (by omega)
      rw [iI_rem (by omega) (by omega) (by omega) (by omega), emod_back]
      refine ⟨fun c => by omega, fun _ => ⟨vp_nI (by omega) hlx, vp_nI (by omega) hly, ?_, vp_nI (by omega) hlx, fun S1 e1 z ez => ?_⟩⟩
      · rw [iI_eq0 ⟨by omega, by omega⟩]; omega
      · rw [ez, nI_1, ← hb]
        refine ih S1 ?_
        rw [e1, hT]
        exact fl_step' S x i _ _ rfl
theorem rd_fl {F G : Nat → Int32} {w p : Nat} {r : Vc} (hp : 0 < p) (hF : ∀ i, i < w → F i = iI (r i % p)) : rd (fl w F G) w p (fun i => r i % p) := by
  intro i hi
  rw [fl_lt _ _ hi, hF i hi]
  exact ⟨rfl, Int.emod_nonneg _ (by omega), Int.emod_lt_of_pos _ (by omega)⟩
theorem dvd_emod (p : Nat) (a : Int) : (p : Int) ∣ a - a % p := by
  rw [Int.emod_def]
  exact ⟨a / p, by omega⟩
theorem sp_takeFrom {h x p w K : Nat} {V : Vc → Prop} {X : Vc} {S : Sto} {Q : Sto → Prop} (H : SpOK S h p w K V) (hwx : w ≤ ln x) (hlx : ln x ≤ 70000) (hx : ¬ spC h x) (hX : rd (S.1 x) w p X)
    (hQ : ∀ (F : Nat → Int32) (r : Vc), rd F w p r → Rest p w V (hdS S h w) X r → (∀ j, w ≤ j → F j = S.1 x j) → Q (setA S x F)) : wp_X5_takeFrom h x S Q := by
  obtain ⟨⟨k8, hp, hwl, hK⟩, ⟨f2, f3, f4, f5⟩, hB, hV⟩ := id H
  have hp8 := hp.pos
  have hln := sp_ln k8
  have hhl := sp_heldln k8
  have hxh : x ≠ h := fun e => hx ⟨by omega, by omega⟩
  have hxd : x ≠ h + 2 + ln (h + 1) := fun e => hx ⟨by omega, by omega⟩
  unfold wp_X5_takeFrom
  refine loopE (fun n i (T : Sto) => q_X5_takeFrom_2 h x Q n (nI i) T) (fun i T => ∃ (F : Nat → Int32) (r : Vc), T = setA S x F ∧ rd F w p r ∧ V (fun i => X i - r i) ∧ (∀ l, l < i → hdS S h w l → r l = 0) ∧ ∀ j, w ≤ j → F j = S.1 x j) w ?_ ?_ 0 S (by omega) ⟨S.1 x, X, by rw [setA_self], hX, hV.to hV.1 (fun i _ => by simp), fun l q => by omega, fun _ _ => rfl⟩
  · rintro T ⟨F, r, hT, h1, h2, h3, h4⟩
    unfold q_X5_takeFrom_2
    rw [hT, setA_ne _ _ hxh.symm, f3, nI_leI (by omega) (by omega)]
    exact ⟨fun _ => hQ F r h1 ⟨fun i hi => (h1 i hi).2, h2, fun l hl => h3 l hl.1 hl⟩ h4, fun c => by omega⟩
  · rintro i n T hi ⟨F, r, hT, h1, h2, h3, h4⟩ ih
    unfold q_X5_takeFrom_2
    have e1 : T.1 h = S.1 h := by rw [hT, setA_ne _ _ hxh.symm]
    have e2 : T.1 (h + 2 + ln (h + 1)) = S.1 (h + 2 + ln (h + 1)) := by rw [hT, setA_ne _ _ hxd.symm]
    have e3 : T.1 x = F := by rw [hT, setA_eq]
    rw [e1, e2, e3, f3, nI_leI (by omega) (by omega), tn_nI (by omega)]
    refine ⟨fun c => by omega, fun _ => ⟨vp_nI (by omega) (by omega), fun z => ?_, fun z => ⟨vp_nI (by omega) hlx, vp_nI (by omega) (by omega), ?_⟩⟩⟩
    · intro y ey
      rw [ey, nI_1]
      refine ih T ⟨F, r, hT, h1, h2, fun l q hl => ?_, h4⟩
      rcases Nat.lt_or_ge l i with q2 | q2
      · exact h3 l q2 hl
      · exact absurd z (by rw [← show l = i by omega]; exact hl.2)
    · have hdi : hdS S h w i := ⟨hi, z⟩
      obtain ⟨g1, g2, g3, g4, g5, g6⟩ := hB.1 i hdi
      have hrow := H.row hdi
      have hrx : h + 1 + 1 + i ≠ x := fun e => hx ⟨by omega, by omega⟩
      have er : T.1 (h + 1 + 1 + i) = S.1 (h + 1 + 1 + i) := by rw [hT, setA_ne _ _ hrx]
      have hlr := sp_rowln k8 (show i < ln (h + 1) by omega)
      rw [(h1 i hi).1]
      refine sp_lessen (p := p) (w := w) (X := r) (Y := rwS S h i) hp (by omega) (by rw [e1]; exact f3) (by rw [e1]; exact f4) hwx (by omega) hlx (by omega) hrx.symm hxh (h1 i hi).2 (by rw [e3]; exact h1) (by rw [er]; exact hrow) ?_
      intro y ey
      rw [ey, nI_1]
      refine ih _ ⟨_, fun j => (r j - r i * rwS S h i j) % p, by rw [hT, setA_setA, setA_eq], rd_fl (by omega) (fun j _ => rfl), ?_, fun l q hl => ?_, fun j hj => by rw [fl_ge _ _ hj]; exact h4 j hj⟩
      · refine hV.2.2.2 _ _ (fun j hj => ?_) (hV.2.1 _ _ h2 (hV.2.2.1 (r i) _ g2))
        have := Int.dvd_neg.mpr (dvd_emod p (r j - r i * rwS S h i j))
        rwa [show -(r j - r i * rwS S h i j - (r j - r i * rwS S h i j) % p) = X j - r j + r i * rwS S h i j - (X j - (r j - r i * rwS S h i j) % p) by omega] at this
      · show (r l - r i * rwS S h i l) % p = 0
        rcases Nat.lt_or_ge l i with q2 | q2
        · rw [h3 l q2 hl, g6 l hl (by omega)]; simp
        · rw [show l = i by omega, g3]; simp
theorem cz_upd {f : Nat → Int32} {l : Nat} : ∀ {w : Nat}, l < w → f l = 0 → cz (upd f l 1) w = cz f w + 1
  | 0, h, _ => by omega
  | w + 1, h, hz => by
    unfold cz
    rcases Nat.lt_or_ge l w with q | q
    · rw [cz_upd q hz, show upd f l 1 w = f w from if_neg (by omega)]; omega
    · have e : l = w := by omega
      subst e
      rw [cz_cong (f := upd f l 1) (g := f) (n := l) (fun i hi => if_neg (by omega)), hz, show upd f l 1 l = 1 from if_pos rfl]
      simp
theorem ivI {p : Nat} {z : Int} (hp : isP p) (h0 : 0 ≤ z) (h1 : z < p) (hz : z ≠ 0) : ∃ v : Nat, z = v ∧ 0 < v ∧ v < p ∧ 0 < ivN p v ∧ ivN p v < p ∧ ((ivN p v : Int) * z) % p = 1 := by
  obtain ⟨v, rfl⟩ := Int.eq_ofNat_of_zero_le h0
  obtain ⟨⟨a1, a2, a3⟩, -⟩ := ivN_ok hp v (by omega) (by omega)
  refine ⟨v, rfl, by omega, by omega, a1, a2, ?_⟩
  rw [Int.mul_comm, ← Int.natCast_mul, ← Int.natCast_emod, a3]; rfl
/-- what an admission leaves: whether it came, the rest of x in x, the space with x -/
theorem sp_admit {h x p w K : Nat} {V : Vc → Prop} {X : Vc} {S : Sto} {Q : Int32 → Sto → Prop} (H : SpOK S h p w K V) (hwx : w ≤ ln x) (hlx : ln x ≤ 70000) (hx : ¬ spC h x) (hX : rd (S.1 x) w p X)
    (hQ : ∀ (a : Int32) (S' : Sto) (r : Vc), SpOK S' h p w K (addV V X) → (∀ k, k ≠ x → ¬ spC h k → S'.1 k = S.1 k) → S'.2 = S.2 → rd (S'.1 x) w p r → V (fun i => X i - r i) → (∀ j, w ≤ j → S'.1 x j = S.1 x j) → (a = 0 ∧ V X ∧ S'.1 h 2 = S.1 h 2) ∨ (a = 1 ∧ ¬ V X ∧ cz (S'.1 (h + 2 + ln (h + 1))) w = cz (S.1 (h + 2 + ln (h + 1))) w + 1) → Q a S') : wp_X5_admit h x S Q := by
  obtain ⟨⟨k8, hp, hwl, hK⟩, ⟨f2, f3, f4, f5⟩, hB, hV⟩ := id H
  have hp8 := hp.pos
  have hln := sp_ln k8
  have hhl := sp_heldln k8
  have hxh : x ≠ h := fun e => hx ⟨by omega, by omega⟩
  have hxd : x ≠ h + 2 + ln (h + 1) := fun e => hx ⟨by omega, by omega⟩
  unfold wp_X5_admit
  refine sp_takeFrom H hwx hlx hx hX (fun F r hF hr hF2 => ?_)
  obtain ⟨T, hT⟩ : ∃ T, T = setA S x F := ⟨_, rfl⟩
  rw [← hT]
  have eo : ∀ k, k ≠ x → T.1 k = S.1 k := fun k hk => by rw [hT, setA_ne _ _ hk]
  have ex : T.1 x = F := by rw [hT, setA_eq]
  have HT : SpOK T h p w K V := H.keep (fun k hk => eo k (fun e => hx (e ▸ hk)))
  have eh : T.1 h = S.1 h := eo h hxh.symm
  have ed : T.1 (h + 2 + ln (h + 1)) = S.1 (h + 2 + ln (h + 1)) := eo _ hxd.symm
  have hdT : hdS T h w = hdS S h w := by funext l; unfold hdS; rw [ed]
  rw [eh, f3, f5]
  have rz : ∀ i, i < w → (T.1 x i = 0 ↔ r i = 0) := fun i hi => by
    have := hF i hi
    rw [ex, this.1, iI_eq0 ⟨by omega, by omega⟩]
  refine sp_leadIn (by omega) hwx hK hlx (fun l0 hl0 hnz hbef => ?_) (fun hz => ?_)
  · rw [rz l0 hl0] at hnz
    have hfirst : ∀ i, i < w → ps K i < ps K l0 → r i = 0 := fun i hi q => (rz i hi).mp (hbef i hi q)
    have hr0 := hF l0 hl0
    obtain ⟨v, hv, hv0, hvp, hi0, hip, hinv⟩ := ivI hp hr0.2.1 hr0.2.2 hnz
    rw [eh, f4, tn_nI (by omega), ex, hr0.1, hv, ← nI_iI]
    have hnl : ¬ hdS S h w l0 := fun q => hnz (hr.2.2 l0 q)
    have hrow : h + 1 + 1 + l0 ≠ x := fun e => hx ⟨by omega, by omega⟩
    have hrh : h + 1 + 1 + l0 ≠ h := by omega
    have hrd : h + 1 + 1 + l0 ≠ h + 2 + ln (h + 1) := by omega
    have hlr := sp_rowln k8 (show l0 < ln (h + 1) by omega)
    refine ⟨fun _ => ⟨vp_nI (by omega) (by omega), vp_nI (by omega) hlx, sp_inverse hp hv0 hvp ?_⟩, fun c => absurd (nI_pos' (by omega)) c⟩
    refine loopE (fun n i (U : Sto) => q_X5_admit_46 h x Q n (nI l0) (h + 1 + 1 + l0) (nI (ivN p v)) (nI i) U) (fun i U => U = setA T (h + 1 + 1 + l0) (fl i (fun i => iI ((ivN p v : Int) * r i % p)) (T.1 (h + 1 + 1 + l0)))) w ?_ ?_ 0 T (by omega) (by rw [fl_0, setA_self])
    · intro U hU
      unfold q_X5_admit_46
      have eU : ∀ k, k ≠ h + 1 + 1 + l0 → U.1 k = T.1 k := fun k hk => by rw [hU, setA_ne _ _ hk]
      have eUr : U.1 (h + 1 + 1 + l0) = fl w (fun i => iI ((ivN p v : Int) * r i % p)) (T.1 (h + 1 + 1 + l0)) := by rw [hU, setA_eq]
      have hN : rd (U.1 (h + 1 + 1 + l0)) w p (fun i => (ivN p v : Int) * r i % p) := by rw [eUr]; exact rd_fl (by omega) (fun i _ => rfl)
      rw [eU h hrh.symm, eh, f3, nI_leI (by omega) (by omega)]
      refine ⟨fun _ => ?_, fun c => by omega⟩
      -- the rows that are there
      refine loopE (fun n i (Y : Sto) => q_X5_admit_82 h x Q n (nI l0) (h + 1 + 1 + l0) (nI i) Y) (fun i Y => (∀ k, (∀ l, l < i → hdS S h w l → k ≠ h + 1 + 1 + l) → Y.1 k = U.1 k) ∧ Y.2 = S.2 ∧ ∀ l, l < i → hdS S h w l → Y.1 (h + 1 + 1 + l) = fl w (fun j => iI ((rwS S h l j - rwS S h l l0 * ((ivN p v : Int) * r j % p)) % p)) (S.1 (h + 1 + 1 + l))) w ?_ ?_ 0 U (by omega) ⟨fun _ _ => rfl, by rw [hU, hT]; rfl, fun l q => by omega⟩
      · rintro Y ⟨y1, y2, y3⟩
        unfold q_X5_admit_82
        have yh : Y.1 h = S.1 h := by rw [y1 h (fun l _ _ => by omega), eU h hrh.symm, eh]
        have yd : Y.1 (h + 2 + ln (h + 1)) = S.1 (h + 2 + ln (h + 1)) := by rw [y1 _ (fun l q _ => by omega), eU _ hrd.symm, ed]
        have yn : Y.1 (h + 1 + 1 + l0) = U.1 (h + 1 + 1 + l0) := y1 _ (fun l q hl e => hnl (by rw [show l0 = l by omega]; exact hl))
        rw [yh, f3, nI_leI (by omega) (by omega)]
        refine ⟨fun _ => ⟨vp_nI (by omega) (by omega), fun Z1 e1 Z e2 => ?_⟩, fun c => by omega⟩
        rw [tn_nI (by omega), vb1] at e1
        have z1h : Z1.1 h = S.1 h := by rw [e1, uA_ne (by omega), yh]
        have zo : ∀ k, k ≠ h → k ≠ h + 2 + ln (h + 1) → Z.1 k = Y.1 k := fun k a b => by rw [e2, uA_ne a, e1, uA_ne b]
        have zd : Z.1 (h + 2 + ln (h + 1)) = upd (S.1 (h + 2 + ln (h + 1))) l0 1 := by rw [e2, uA_ne (by omega), e1, uA_eq, yd]
        have zh : Z.1 h = upd (S.1 h) 2 (S.1 h 2 + 1) := by rw [e2, uA_eq, z1h]
        have hz0 : S.1 (h + 2 + ln (h + 1)) l0 = 0 := Decidable.of_not_not (fun q => hnl ⟨hl0, q⟩)
        have hcz := cz_upd hl0 hz0
        have hle := cz_le (S.1 (h + 2 + ln (h + 1))) w
        have zrow : ∀ l, l < w → Z.1 (h + 1 + 1 + l) = Y.1 (h + 1 + 1 + l) := fun l hl => zo _ (by omega) (by omega)
        have hhd : ∀ l, (hdS S h w l ∨ l = l0) ↔ hdS Z h w l := fun l => by
          unfold hdS
          rw [zd]
          by_cases e : l = l0
          · subst e
            refine ⟨fun _ => ⟨hl0, ?_⟩, fun _ => Or.inr rfl⟩
            rw [show upd (S.1 (h + 2 + ln (h + 1))) l 1 l = 1 from if_pos rfl]; decide
          · rw [show upd (S.1 (h + 2 + ln (h + 1))) l0 1 l = S.1 (h + 2 + ln (h + 1)) l from if_neg e]
            exact ⟨fun q => q.resolve_right e, Or.inl⟩
        have newR : ∀ i, i < w → rwS Z h l0 i = (ivN p v : Int) * r i % p := fun i hi => by
          unfold rwS
          rw [zrow l0 hl0, yn]
          have := hN i hi
          rw [this.1, toInt_iI ⟨by omega, by omega⟩]
        have oldR : ∀ l, hdS S h w l → ∀ i, i < w → rwS Z h l i = (rwS S h l i - rwS S h l l0 * rwS Z h l0 i) % p := fun l hl i hi => by
          rw [newR i hi]
          show (Z.1 (h + 1 + 1 + l) i).toInt = _
          rw [zrow l hl.1, y3 l hl.1 hl, fl_lt _ _ hi]
          have a1 := Int.emod_nonneg (rwS S h l i - rwS S h l l0 * ((ivN p v : Int) * r i % p)) (show (p : Int) ≠ 0 by omega)
          have a2 := Int.emod_lt_of_pos (rwS S h l i - rwS S h l l0 * ((ivN p v : Int) * r i % p)) (show (0 : Int) < p by omega)
          exact toInt_iI ⟨by omega, by omega⟩
        have hRB := RB.add (R' := rwS Z h) (c := (ivN p v : Int)) hp.pi hV hB hr hl0 (fun q => hnz (dvd_small (p := p) (b := 0) (by rw [Int.sub_zero]; exact q) hr0.2 ⟨by omega, by omega⟩)) hfirst
          (fun i hi => by
            rw [newR i hi]
            refine ⟨Int.emod_nonneg _ (by omega), Int.emod_lt_of_pos _ (by omega), ?_⟩
            have := Int.dvd_neg.mpr (dvd_emod p ((ivN p v : Int) * r i))
            rwa [show -((ivN p v : Int) * r i - (ivN p v : Int) * r i % p) = (ivN p v : Int) * r i % p - (ivN p v : Int) * r i by omega] at this)
          (by rw [newR l0 hl0, hv]; rw [hv] at hinv; exact hinv)
          (fun l hl i hi => by
            rw [oldR l hl i hi]
            refine ⟨Int.emod_nonneg _ (by omega), Int.emod_lt_of_pos _ (by omega), ?_⟩
            have := Int.dvd_neg.mpr (dvd_emod p (rwS S h l i - rwS S h l l0 * rwS Z h l0 i))
            rwa [show -(rwS S h l i - rwS S h l l0 * rwS Z h l0 i - (rwS S h l i - rwS S h l l0 * rwS Z h l0 i) % p) = (rwS S h l i - rwS S h l l0 * rwS Z h l0 i) % p - (rwS S h l i - rwS S h l l0 * rwS Z h l0 i) by omega] at this)
        have hA := addV_sub hV X
        have zx : Z.1 x = F := by rw [zo x hxh hxd, y1 x (fun l q hl e => hx ⟨by omega, by omega⟩), eU x hrow.symm, ex]
        refine hQ 1 Z r ⟨⟨k8, hp, hwl, hK⟩, ⟨?_, ?_, ?_, ?_⟩, hRB.eqv hA hhd (fun _ _ _ _ => rfl), hA⟩ ?_ ?_ (by rw [zx]; exact hF) hr.2.1 (fun j hj => by rw [zx]; exact hF2 j hj) (Or.inr ⟨rfl, fun q => hnz ((hr.zero hV hB).mp q l0 hl0), by rw [zd, hcz]⟩)
        · rw [zh, zd, hcz, show upd (S.1 h) 2 (S.1 h 2 + 1) 2 = S.1 h 2 + 1 from if_pos rfl, f2, nI_1]
        · rw [zh]; exact f3
        · rw [zh]; exact f4
        · rw [zh]; exact f5
        · intro k hk hs
          rw [zo k (fun e => hs (e ▸ ⟨by omega, by omega⟩)) (fun e => hs (e ▸ ⟨by omega, by omega⟩)), y1 k (fun l q hl e => hs (e ▸ ⟨by omega, by omega⟩)), eU k (fun e => hs (e ▸ ⟨by omega, by omega⟩)), eo k hk]
        · rw [e2, e1]; exact y2
      · rintro i n Y hi ⟨y1, y2, y3⟩ ih
        unfold q_X5_admit_82
        have yh : Y.1 h = S.1 h := by rw [y1 h (fun l _ _ => by omega), eU h hrh.symm, eh]
        have yd : Y.1 (h + 2 + ln (h + 1)) = S.1 (h + 2 + ln (h + 1)) := by rw [y1 _ (fun l q _ => by omega), eU _ hrd.symm, ed]
        have yn : Y.1 (h + 1 + 1 + l0) = U.1 (h + 1 + 1 + l0) := y1 _ (fun l q hl e => hnl (by rw [show l0 = l by omega]; exact hl))
        rw [yh, yd, f3, nI_leI (by omega) (by omega), tn_nI (by omega), tn_nI (by omega)]
        refine ⟨fun c => by omega, fun _ => ⟨vp_nI (by omega) (by omega), fun z y ey => ?_, fun z => ?_⟩⟩
        · rw [ey, nI_1]
          refine ih Y ⟨fun k hk => y1 k (fun l q hl => hk l (by omega) hl), y2, fun l q hl => ?_⟩
          rcases Nat.lt_or_ge l i with q2 | q2
          · exact y3 l q2 hl
          · exact absurd z (by rw [← show l = i by omega]; exact hl.2)
        · have hdi : hdS S h w i := ⟨hi, z⟩
          have hli := sp_rowln k8 (show i < ln (h + 1) by omega)
          have hne : i ≠ l0 := fun e => hnl (e ▸ hdi)
          have yr : Y.1 (h + 1 + 1 + i) = S.1 (h + 1 + 1 + i) := by rw [y1 _ (fun l q hl => by omega), eU _ (by omega), eo _ (fun e => hx ⟨by omega, by omega⟩)]
          have hri := H.row hdi
          refine ⟨vp_nI (by omega) (by omega), vp_nI (by omega) (by omega), vp_nI (by omega) (by omega), ?_⟩
          rw [yr, (hri l0 hl0).1]
          refine sp_lessen (p := p) (w := w) (X := rwS S h i) (Y := fun i => (ivN p v : Int) * r i % p) hp (by omega) (by rw [yh]; exact f3) (by rw [yh]; exact f4) (by omega) (by omega) (by omega) (by omega) (by omega) (by omega) (hri l0 hl0).2 (by rw [yr]; exact hri) (by rw [yn]; exact hN) ?_
          intro y ey
          rw [ey, nI_1]
          refine ih _ ⟨fun k hk => ?_, y2, fun l q hl => ?_⟩
          · rw [setA_ne _ _ (hk i (by omega) hdi)]
            exact y1 k (fun l q hl => hk l (by omega) hl)
          · by_cases e : l = i
            · rw [e, setA_eq, yr]
            · rw [setA_ne _ _ (by omega)]
              exact y3 l (by omega) hl
    · intro i n U hi hU ih
      unfold q_X5_admit_46
      have eU : ∀ k, k ≠ h + 1 + 1 + l0 → U.1 k = T.1 k := fun k hk => by rw [hU, setA_ne _ _ hk]
      have hri := hF i hi
      rw [eU h hrh.symm, eU x hrow.symm, eh, f3, f4, nI_leI (by omega) (by omega), tn_nI (by omega), ex, hri.1, nI_iI (ivN p v), ← iI_mul]
      have hm0 : 0 ≤ (ivN p v : Int) * r i := Int.mul_nonneg (by omega) hri.2.1
      have hm1 : (ivN p v : Int) * r i ≤ 8 * 8 := Int.mul_le_mul (by omega) (by omega) hri.2.1 (by omega)
      refine ⟨fun c => by omega, fun _ => ⟨vp_nI (by omega) hlx, sp_modulo ⟨by omega, by omega⟩ (by omega) (by omega) ⟨vp_nI (by omega) (by omega), fun S1 e1 z ez => ?_⟩⟩⟩
      rw [ez, nI_1, ← nI_iI]
      refine ih S1 ?_
      rw [e1, hU]
      exact fl_step' T _ i _ _ rfl
  · have hz2 : ∀ i, i < w → r i = 0 := fun i hi => (rz i hi).mp (hz i hi)
    have hVX := (hr.zero hV hB).mpr hz2
    refine ⟨fun c => absurd c (by decide), fun _ => ?_⟩
    refine hQ 0 T r ?_ (fun k hk _ => eo k hk) (by rw [hT]; rfl) (by rw [ex]; exact hF) hr.2.1 (fun j hj => by rw [ex]; exact hF2 j hj) (Or.inl ⟨rfl, hVX, by rw [eh]⟩)
    obtain ⟨t1, t2, t3, t4⟩ := HT
    refine ⟨t1, t2, t3.cong (fun u => ⟨fun q => addV_old hV X q, fun q => addV_least hV (fun _ q => q) hVX q⟩), addV_sub hV X⟩
