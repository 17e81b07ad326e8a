/-! the class: relations -/
theorem fq_1 : ∀ n, n < 5 → 2 ≤ n → ∀ a, a < 2 ^ n → ∀ c, c < 256 → (a &&& c = a ↔ a &&& (c % 2 ^ n) = a) := by decide +kernel
theorem fq_2 : ∀ n, n < 5 → 2 ≤ n → ∀ a, a < 2 ^ n → ∀ c, c < 256 → a &&& c = a → c ^^^ a = c / 2 ^ n * 2 ^ n + ((c % 2 ^ n) ^^^ a) := by decide +kernel
theorem fq_3 : ∀ n, n < 5 → 2 ≤ n → ∀ a, a < 2 ^ n → ∀ c, c < 256 → a &&& c = a → sg a (c ^^^ a) = sg a ((c % 2 ^ n) ^^^ a) := by decide +kernel
theorem blk_md {W b x : Nat} (h : x < W) : (b * W + x) % W = x ∧ (b * W + x) / W = b := by
  refine ⟨by rw [Nat.mul_add_mod_self_right, Nat.mod_eq_of_lt h], ?_⟩
  rw [Nat.mul_comm, Nat.mul_add_div (by omega), Nat.div_eq_of_lt h, Nat.add_zero]
theorem sp_fillEquation {i s t n p part place : Nat} {g : Nat → Vc} {S : Sto} {Q : Sto → Prop} (hC : Cw S n p) (hi : i < t) (ht : t ≤ 8) (htw : t * 2 ^ n ≤ 64) (hsw : s * 2 ^ n ≤ 64) (hpt : part < s) (hpl : place < 2 ^ n) (hg : rd (S.1 (341 + 1 + i)) (s * 2 ^ n) p (g i))
    (hQ : Q (setA S 350 (fun j => if i * 2 ^ n ≤ j ∧ j < i * 2 ^ n + 2 ^ n then iI (pl (j - i * 2 ^ n) (g i) (part * 2 ^ n + place) % p) else S.1 350 j))) : wp_X6_fillEquation (nI i) (nI (part * 2 ^ n)) (nI place) S Q := by
  obtain ⟨c0, c1, n2, n4, hp⟩ := id hC
  have hp8 := hp.pos
  have h16 := pow_n n4
  obtain ⟨-, -, -, -, l50, -⟩ := st_ln
  have lc := ln_ch i (by omega)
  have hb1 : i * 2 ^ n + 2 ^ n ≤ t * 2 ^ n := by rw [← Nat.succ_mul]; exact Nat.mul_le_mul_right _ hi
  have hb2 : part * 2 ^ n + 2 ^ n ≤ s * 2 ^ n := by rw [← Nat.succ_mul]; exact Nat.mul_le_mul_right _ hpt
  obtain ⟨m1, m2⟩ := blk_md (b := part) hpl
  unfold wp_X6_fillEquation
  refine sp_width c0 n4 ?_
  refine loopE (fun m a (T : Sto) => q_X6_fillEquation_10 (nI i) (nI (part * 2 ^ n)) (nI place) Q m (nI (2 ^ n)) (nI a) T) (fun a T => T = setA S 350 (fun j => if i * 2 ^ n ≤ j ∧ j < i * 2 ^ n + a then iI (pl (j - i * 2 ^ n) (g i) (part * 2 ^ n + place) % p) else S.1 350 j)) (2 ^ n) ?_ ?_ 0 S (Nat.zero_le _) ?_
  · intro T hT
    unfold q_X6_fillEquation_10
    rw [nI_leI (by omega) (by omega)]
    exact ⟨fun _ => hT ▸ hQ, fun z => by omega⟩
  · intro a m T ha hT ih
    have oT : ∀ c, c ≠ 350 → T.1 c = S.1 c := fun c hc => by rw [hT, setA_ne _ _ hc]
    unfold q_X6_fillEquation_10
    obtain ⟨d1, d2, d3⟩ := dn_N a (by omega) place (by omega)
    have hand := Nat.and_le_right (n := a) (m := place)
    have hxor : place ^^^ (a &&& place) < 2 ^ n := Nat.xor_lt_two_pow hpl (Nat.lt_of_le_of_lt hand hpl)
    rw [nI_leI (by omega) (by omega)]
    refine ⟨fun z => by omega, fun _ x7 e7 => ?_⟩
    rw [d1] at e7
    rw [e7]
    refine sp_sign (by omega) (by omega) ?_
    rw [nI_add, tn_nI (i := i) (by omega), tn_nI (i := part * 2 ^ n + (place ^^^ (a &&& place))) (by omega), lc, oT _ (by omega), d2]
    have hr := hg (part * 2 ^ n + (place ^^^ (a &&& place))) (by omega)
    have hs3 := sg_sm a (by omega) (place ^^^ (a &&& place)) (by omega)
    refine ⟨vp_nI (by omega) (by omega), vp_nI (by omega) (by omega), fun x8 e8 => ?_⟩
    rw [hr.1, ← iI_mul] at e8
    have last : ∀ v : Int32, v = iI (pl a (g i) (part * 2 ^ n + place) % p) → q_X6_fillEquation_80 (nI i) (nI (part * 2 ^ n)) (nI place) (fun y5 y6 S => q_X6_fillEquation_10 (nI i) (nI (part * 2 ^ n)) (nI place) Q m y5 y6 S) Q (nI (2 ^ n)) (nI a) (nI i * nI (2 ^ n) + nI a) v T := by
      intro v hv
      unfold q_X6_fillEquation_80
      rw [pk_mul, nI_add, tn_nI (by omega)]
      refine ⟨vp_nI (by omega) (by omega), fun S1 e1 x6 e6 => ?_⟩
      rw [e6, nI_1]
      refine ih S1 ?_
      rw [e1, hT, uA_setA, setA_setA, setA_eq]
      congr 1
      funext j
      by_cases q : j = i * 2 ^ n + a
      · rw [q, upd_eq, if_pos (by omega), Nat.add_sub_cancel_left, hv]
      · rw [upd_ne _ _ q]
        by_cases q2 : i * 2 ^ n ≤ j ∧ j < i * 2 ^ n + a
        · rw [if_pos q2, if_pos (by omega)]
        · rw [if_neg q2, if_neg (by omega)]
    have f1 := fq_1 n (by omega) n2 a ha (part * 2 ^ n + place) (by omega)
    rw [m1] at f1
    refine ⟨fun z => last 0 ?_, fun z => ?_⟩
    · unfold pl
      rw [if_neg (fun q => z (f1.mp q)), Int.zero_emod]; rfl
    · have q1 := f1.mpr z
      have f2 := fq_2 n (by omega) n2 a ha (part * 2 ^ n + place) (by omega) q1
      have f3 := fq_3 n (by omega) n2 a ha (part * 2 ^ n + place) (by omega) q1
      rw [m1, m2] at f2
      rw [m1] at f3
      rw [z] at hr hs3 e8
      rw [e8, oT 1 (by decide), c1]
      have hb : -8 ≤ sg a (place ^^^ a) * g i (part * 2 ^ n + (place ^^^ a)) ∧ sg a (place ^^^ a) * g i (part * 2 ^ n + (place ^^^ a)) ≤ 8 := by
        rcases hs3 with e | e | e <;> rw [e] <;> omega
      refine sp_modulo ⟨by omega, by omega⟩ (by omega) (by omega) ?_
      refine last _ ?_
      unfold pl
      rw [if_pos q1, f2, ← f3, f2]
  · rw [show (fun j => if i * 2 ^ n ≤ j ∧ j < i * 2 ^ n + 0 then iI (pl (j - i * 2 ^ n) (g i) (part * 2 ^ n + place) % p) else S.1 350 j) = S.1 350 from funext fun j => if_neg (by omega), setA_self]
/-- the equations tell what comes to nothing -/
def Eqs (S : Sto) (p n w t : Nat) (g : Nat → Vc) : Prop := ∃ E, SpOK S 274 p (t * 2 ^ n) 0 E ∧ ∀ x, Perp p (t * 2 ^ n) E x ↔ Sz p n w t g x
theorem Eqs.keep {S S' : Sto} {p n w t : Nat} {g : Nat → Vc} (h : Eqs S p n w t g) (e : ∀ c, spC 274 c → S'.1 c = S.1 c) : Eqs S' p n w t g := by
  obtain ⟨E, h1, h2⟩ := h
  exact ⟨E, h1.keep e, h2⟩
theorem sp_relateChosen {s t n p : Nat} {g : Nat → Vc} {S : Sto} {Q : Sto → Prop} (hC : Cw S n p) (ht : t ≤ 8) (htw : t * 2 ^ n ≤ 64) (hs : s ≤ 8) (hsw : s * 2 ^ n ≤ 64) (h3 : S.1 206 3 = nI t) (h4 : S.1 206 4 = nI s) (hg : ∀ i, i < t → rd (S.1 (341 + 1 + i)) (s * 2 ^ n) p (g i))
    (hQ : ∀ S', Eqs S' p n (s * 2 ^ n) t g → (∀ c, ¬ spC 274 c → c ≠ 350 → S'.1 c = S.1 c) → S'.2 = S.2 → Q S') : wp_X6_relateChosen S Q := by
  obtain ⟨c0, c1, n2, n4, hp⟩ := id hC
  have hp8 := hp.pos
  have h16 := pow_n n4
  obtain ⟨-, -, k4, l4, l50, -⟩ := st_ln
  have n1 : ¬ spC 274 1 := by unfold spC; omega
  have n206 : ¬ spC 274 206 := by unfold spC; omega
  unfold wp_X6_relateChosen
  refine sp_width c0 n4 ?_
  rw [h3, c1, pk_mul, show (0 : Int32) = nI 0 from rfl]
  refine sp_begin k4 hp (by omega) (by omega) (fun S1 A1 A2 A3 => ?_)
  have f1 : ∀ c, ¬ spC 274 c → S1.1 c = S.1 c := fun c hc => A2 c (fun e => hc (by subst e; unfold spC; omega)) (fun e => hc (by subst e; unfold spC; omega))
  obtain ⟨q, hq⟩ : ∃ q : Nat → Vc, q = fun c j => pl (j % 2 ^ n) (g (j / 2 ^ n)) c := ⟨_, rfl⟩
  have fin : ∀ T E, SpOK T 274 p (t * 2 ^ n) 0 E → (∀ c, c < s * 2 ^ n → E (q c)) → (∀ U : Vc → Prop, Sub p (t * 2 ^ n) U → (∀ c, c < s * 2 ^ n → U (q c)) → ∀ v, E v → U v) → (∀ c, ¬ spC 274 c → c ≠ 350 → T.1 c = S.1 c) → T.2 = S.2 → Q T := by
    intro T E e1 e2 e3 e4 e5
    have hdot : ∀ x c, dot (t * 2 ^ n) (q c) x = cmb n t g x c := fun x c => by
      unfold dot cmb
      rw [hq]
      exact sI_cong (fun j _ => Int.mul_comm _ _)
    refine hQ T ⟨E, e1, fun x => ⟨fun hx c hc => ?_, fun hx v hv => ?_⟩⟩ e4 e5
    · have := hx _ (e2 c hc)
      rwa [hdot] at this
    · refine e3 _ (dot_Sub p (t * 2 ^ n) x) (fun c hc => ?_) v hv
      rw [hdot]; exact hx c hc
  refine loopE (fun m b (T : Sto) => q_X6_relateChosen_25 Q m (nI (2 ^ n)) (nI b) T) (fun b T => ∃ E, SpOK T 274 p (t * 2 ^ n) 0 E ∧ (∀ c, c < b * 2 ^ n → E (q c)) ∧ (∀ U : Vc → Prop, Sub p (t * 2 ^ n) U → (∀ c, c < s * 2 ^ n → U (q c)) → ∀ v, E v → U v) ∧ (∀ c, ¬ spC 274 c → c ≠ 350 → T.1 c = S.1 c) ∧ T.2 = S.2) s ?_ ?_ 0 S1 (Nat.zero_le _) ⟨_, A1, fun c hc => by rw [Nat.zero_mul] at hc; omega, fun U hU _ v hv => V0_least hU hv, fun c a _ => f1 c a, A3⟩
  · rintro T ⟨E, e1, e2, e3, e4, e5⟩
    unfold q_X6_relateChosen_25
    rw [e4 206 n206 (by decide), h4, nI_leI (by omega) (by omega)]
    exact ⟨fun _ => fin T E e1 e2 e3 e4 e5, fun z => by omega⟩
  · rintro b m T hb ⟨E, e1, e2, e3, e4, e5⟩ ih
    unfold q_X6_relateChosen_25
    rw [e4 206 n206 (by decide), h4, nI_leI (by omega) (by omega)]
    refine ⟨fun z => by omega, fun _ => ?_⟩
    have hbw : b * 2 ^ n + 2 ^ n ≤ s * 2 ^ n := by rw [← Nat.succ_mul]; exact Nat.mul_le_mul_right _ hb
    refine loopE (fun m2 c (T : Sto) => q_X6_relateChosen_36 (fun y2 y3 S => q_X6_relateChosen_25 Q m y2 y3 S) Q m2 (nI (2 ^ n)) (nI b) (nI c) T) (fun c T => ∃ E, SpOK T 274 p (t * 2 ^ n) 0 E ∧ (∀ d, d < b * 2 ^ n + c → E (q d)) ∧ (∀ U : Vc → Prop, Sub p (t * 2 ^ n) U → (∀ c, c < s * 2 ^ n → U (q c)) → ∀ v, E v → U v) ∧ (∀ c, ¬ spC 274 c → c ≠ 350 → T.1 c = S.1 c) ∧ T.2 = S.2) (2 ^ n) ?_ ?_ 0 T (Nat.zero_le _) ⟨E, e1, e2, e3, e4, e5⟩
    · rintro T ⟨E, e1, e2, e3, e4, e5⟩
      unfold q_X6_relateChosen_36
      rw [nI_leI (by omega) (by omega)]
      refine ⟨fun _ x3 ex => ?_, fun z => by omega⟩
      rw [ex, nI_1]
      exact ih T ⟨E, e1, fun c hc => e2 c (by rw [Nat.succ_mul] at hc; omega), e3, e4, e5⟩
    · rintro c m2 T hc ⟨E, e1, e2, e3, e4, e5⟩ ih2
      unfold q_X6_relateChosen_36
      rw [nI_leI (by omega) (by omega)]
      refine ⟨fun z => by omega, fun _ => ?_⟩
      refine loopE (fun m3 i (Y : Sto) => q_X6_relateChosen_45 (fun y2 y3 S => q_X6_relateChosen_25 Q m y2 y3 S) (fun y2 y3 y4 S => q_X6_relateChosen_36 (fun y2 y3 S => q_X6_relateChosen_25 Q m y2 y3 S) Q m2 y2 y3 y4 S) Q m3 (nI (2 ^ n)) (nI b) (nI c) (nI i) Y) (fun i Y => (∀ d, d ≠ 350 → Y.1 d = T.1 d) ∧ Y.2 = T.2 ∧ ∀ j, j < i * 2 ^ n → Y.1 350 j = iI (q (b * 2 ^ n + c) j % p)) t ?_ ?_ 0 T (Nat.zero_le _) ⟨fun _ _ => rfl, rfl, fun j hj => by rw [Nat.zero_mul] at hj; omega⟩
      · rintro Y ⟨y1, y2, y3⟩
        unfold q_X6_relateChosen_45
        rw [y1 206 (by decide), e4 206 n206 (by decide), h3, nI_leI (by omega) (by omega)]
        refine ⟨fun _ => ?_, fun z => by omega⟩
        have hE := e1.2.2.2
        have hm : eqm p (t * 2 ^ n) (q (b * 2 ^ n + c)) (fun j => q (b * 2 ^ n + c) j % p) := eqm_emod (fun _ _ => rfl)
        refine sp_admit (X := fun j => q (b * 2 ^ n + c) j % p) (e1.keep (fun d hd => y1 d (by unfold spC at hd; omega))) (by omega) (by omega) (by unfold spC; omega) (fun j hj => ⟨y3 j hj, Int.emod_nonneg _ (by omega), Int.emod_lt_of_pos _ (by omega)⟩) (fun a S' r b1 b2 b3 _ _ _ _ x4 ex => ?_)
        rw [ex, nI_1]
        refine ih2 S' ⟨_, b1, fun d hd => ?_, fun U hU u1 v hv => addV_least hU (e3 U hU u1) (hU.2.2.2 _ _ hm (u1 _ (by omega))) hv, fun d d1 d2 => by rw [b2 d d2 d1, y1 d d2]; exact e4 d d1 d2, by rw [b3, y2]; exact e5⟩
        rcases Nat.lt_or_ge d (b * 2 ^ n + c) with z | z
        · exact addV_old hE _ (e2 d z)
        · rw [show d = b * 2 ^ n + c by omega]
          exact (addV_sub hE _).2.2.2 _ _ hm.sy (addV_new hE _)
      · rintro i m3 Y hi ⟨y1, y2, y3⟩ ih3
        unfold q_X6_relateChosen_45
        rw [y1 206 (by decide), e4 206 n206 (by decide), h3, nI_leI (by omega) (by omega), pk_mul]
        refine ⟨fun z => by omega, fun _ => ?_⟩
        have hYC : Cw Y n p := hC.keep (by rw [y1 1 (by decide), e4 1 n1 (by decide)])
        refine sp_fillEquation (g := g) hYC hi ht htw hsw hb hc (by rw [y1 _ (by omega), e4 _ (by unfold spC; omega) (by omega)]; exact hg i hi) ?_
        intro x5 ex
        rw [ex, nI_1]
        refine ih3 _ ⟨fun d hd => by rw [setA_ne _ _ hd]; exact y1 d hd, y2, fun j hj => ?_⟩
        rw [setA_eq, Nat.succ_mul] at *
        by_cases z : i * 2 ^ n ≤ j ∧ j < i * 2 ^ n + 2 ^ n
        · rw [if_pos z, hq]
          obtain ⟨m1, m2⟩ := blk_md (b := i) (show j - i * 2 ^ n < 2 ^ n by omega)
          rw [show i * 2 ^ n + (j - i * 2 ^ n) = j by omega] at m1 m2
          simp only [m1, m2]
        · rw [if_neg z]; exact y3 j (by omega)
theorem cnt_compl (P : Nat → Prop) : ∀ w, cnt (fun f => f < w ∧ ¬ P f) w + cnt P w = w := by
  intro w
  have key : ∀ k, k ≤ w → cnt (fun f => f < w ∧ ¬ P f) k + cnt P k = k := by
    intro k
    induction k with
    | zero => intro _; rfl
    | succ k ih =>
      intro hk
      have := ih (by omega)
      show ctB _ k + _ + (ctB _ k + _) = k + 1
      unfold cnt at this
      by_cases q : P k
      · rw [if_neg (by rw [isB_t]; exact fun z => z.2 q), if_pos (isB_t.mpr q)]; omega
      · rw [if_pos (isB_t.mpr ⟨by omega, q⟩), if_neg (by rw [isB_t]; exact q)]; omega
  exact key w (Nat.le_refl _)
/-- how many are taken of M, when as many as that are needed -/
def Ned (p n w : Nat) (M : Vc → Prop) (r : Nat) : Prop := ∀ hd R hd2 R2, RB p w 0 M hd R → RB p w 0 (LMs p n w M) hd2 R2 → cnt hd w = cnt hd2 w + r
theorem sp_countRelations {t n p w : Nat} {g : Nat → Vc} {S : Sto} {Q : Int32 → Sto → Prop} (hC : Cw S n p) (ht : t ≤ 8) (htw : t * 2 ^ n ≤ 64) (hw : w ≤ 256) (h3 : S.1 206 3 = nI t) (hE : Eqs S p n w t g)
    (hQ : ∀ S' r, SpOK S' 207 p (t * 2 ^ n) 0 (LMs p n (t * 2 ^ n) (Sz p n w t g)) → Ned p n (t * 2 ^ n) (Sz p n w t g) r → (∀ c, ¬ spC 207 c → c ≠ 350 → c ≠ 351 → S'.1 c = S.1 c) → S'.2 = S.2 → Q (nI r) S') : wp_X6_countRelations S Q := by
  obtain ⟨c0, c1, n2, n4, hp⟩ := id hC
  have hp8 := hp.pos
  have h16 := pow_n n4
  obtain ⟨k7, l7, k4, l4, l50, l51⟩ := st_ln
  obtain ⟨E, hE1, hE2⟩ := hE
  have n1 : ¬ spC 207 1 := by unfold spC; omega
  have n206 : ¬ spC 207 206 := by unfold spC; omega
  have hS := Sz_Sub p n w t g
  have hSc := Sz_clo (p := p) (g := g) n2 n4 hw (show t * 2 ^ n ≤ 256 by omega)
  have hL := LMs_Sub p n (t * 2 ^ n) (Sz p n w t g)
  have hEB := hE1.2.2.1
  have hEV := hE1.2.2.2
  have dis : ∀ c, spC 274 c → ¬ spC 207 c ∧ c ≠ 350 ∧ c ≠ 351 := fun c hc => by unfold spC at *; omega
  unfold wp_X6_countRelations
  refine sp_width c0 n4 ?_
  rw [h3, c1, pk_mul]
  intro x2 ex2
  rw [ex2, show (0 : Int32) = nI 0 from rfl]
  refine sp_begin k7 hp (by omega) (by omega) (fun S1 A1 A2 A3 => ?_)
  have f1 : ∀ c, ¬ spC 207 c → S1.1 c = S.1 c := fun c hc => A2 c (fun e => hc (by subst e; unfold spC; omega)) (fun e => hc (by subst e; unfold spC; omega))
  refine loopE (fun m f (T : Sto) => q_X6_countRelations_25 Q m (nI (t * 2 ^ n)) (nI f) T) (fun f T => ∃ V, SpOK T 207 p (t * 2 ^ n) 0 V ∧ (∀ v, V v → LMs p n (t * 2 ^ n) (Sz p n w t g) v) ∧ (∀ k, k < f → ¬ hdS S 274 (t * 2 ^ n) k → ∀ l, l < n → V (pl (2 ^ l) (slv p (hdS S 274 (t * 2 ^ n)) (rwS S 274) k))) ∧ (∀ c, ¬ spC 207 c → c ≠ 350 → c ≠ 351 → T.1 c = S.1 c) ∧ T.2 = S.2) (t * 2 ^ n) ?_ ?_ 0 S1 (Nat.zero_le _) ⟨_, A1, fun v hv => V0_least hL hv, fun k q => by omega, fun c a _ _ => f1 c a, A3⟩
  · rintro T ⟨V, b1, b2, b3, b4, b5⟩
    unfold q_X6_countRelations_25
    rw [nI_leI (by omega) (by omega)]
    refine ⟨fun _ => ?_, fun z => by omega⟩
    have hV := b1.2.2.2
    have b1' := b1.cong (V' := LMs p n (t * 2 ^ n) (Sz p n w t g)) (fun v => ⟨b2 v, fun hv => by
      refine hv V hV ?_
      rintro y ⟨l, hl, x, hx, rfl⟩
      have hP := pl_Lin p (w := t * 2 ^ n) (pow_l (l := l) (by omega)).1 (by omega)
      exact slv_span hEV hEB (Sub.pre hP hV) (fun f hf hn => b3 f hf hn l hl) ((hE2 x).mpr hx)⟩)
    have s4 : T.1 274 2 = nI (cnt (hdS S 274 (t * 2 ^ n)) (t * 2 ^ n)) := by
      rw [b4 274 (dis 274 (by unfold spC; omega)).1 (by decide) (by decide), hE1.2.1.1, cz_cnt]; rfl
    have s7 : T.1 207 2 = nI (cnt (hdS T 207 (t * 2 ^ n)) (t * 2 ^ n)) := by rw [b1.2.1.1, cz_cnt]; rfl
    have e1 := cnt_compl (hdS S 274 (t * 2 ^ n)) (t * 2 ^ n)
    obtain ⟨hd, R, hR⟩ := RB.exists hp hS
    have cbS : CB p (t * 2 ^ n) (Sz p n w t g) (fun f => f < t * 2 ^ n ∧ ¬ hdS S 274 (t * 2 ^ n) f) (slv p (hdS S 274 (t * 2 ^ n)) (rwS S 274)) := by
      have := slv_CB hEV hEB
      rwa [show Perp p (t * 2 ^ n) E = Sz p n w t g from funext fun x => propext (hE2 x)] at this
    have d1 := CB.same hp hS hR.CB cbS
    have d2 := CB.le hp hL b1'.2.2.1.CB hR.CB (id_Lin p _) (fun x hx => LMs_in hS hSc hx) (fun _ _ h => h)
    rw [s4, s7, pk_sub (by omega), pk_sub (by omega)]
    refine hQ T _ b1' (fun hd1 R1 hd2 R2 g1 g2 => ?_) b4 b5
    have d3 := CB.same hp hS g1.CB cbS
    have d4 := CB.same hp hL g2.CB b1'.2.2.1.CB
    omega
  · rintro f m T hf ⟨V, b1, b2, b3, b4, b5⟩ ih
    unfold q_X6_countRelations_25 q_X6_countRelations_55
    have hV := b1.2.2.2
    rw [nI_leI (by omega) (by omega)]
    have q274 : ∀ c, spC 274 c → T.1 c = S.1 c := fun c hc => b4 c (dis c hc).1 (dis c hc).2.1 (dis c hc).2.2
    have hT4 : SpOK T 274 p (t * 2 ^ n) 0 E := hE1.keep q274
    have hd1 : hdS T 274 (t * 2 ^ n) = hdS S 274 (t * 2 ^ n) := by
      funext l; unfold hdS; rw [q274 _ (by unfold spC; omega)]
    refine ⟨fun z => by omega, fun _ => sp_solve hT4 (by omega) (by omega) (by omega) (by unfold spC; omega) (fun s1 s2 F s3 s4 => ⟨fun z => absurd z (by decide), fun _ => ?_⟩) (fun s1 => ⟨fun _ x3 e3 => ?_, fun z => absurd rfl z⟩)⟩
    · have sl : ∀ i, i < t * 2 ^ n → slv p (hdS T 274 (t * 2 ^ n)) (rwS T 274) f i = slv p (hdS S 274 (t * 2 ^ n)) (rwS S 274) f i := by
        intro i hi
        unfold slv
        rw [hd1]
        by_cases hdi : hdS S 274 (t * 2 ^ n) i
        · unfold rwS
          rw [q274 (274 + 1 + 1 + i) (by unfold spC; omega)]
        · by_cases e : i = f
          · rw [if_pos e, if_pos e]
          · rw [if_neg e, if_neg e, if_neg (by rw [isB_t]; exact hdi), if_neg (by rw [isB_t]; exact hdi)]
      rw [hd1] at s1
      have sx : Sz p n w t g (slv p (hdS S 274 (t * 2 ^ n)) (rwS S 274) f) := (hE2 _).mp (slv_perp hEV hEB hf s1)
      have hX : rd ((setA T 350 F).1 350) (t * 2 ^ n) p (slv p (hdS S 274 (t * 2 ^ n)) (rwS S 274) f) := by
        rw [setA_eq]
        intro i hi
        rw [← sl i hi]; exact s3 i hi
      refine sp_admitProducts (X := slv p (hdS S 274 (t * 2 ^ n)) (rwS S 274) f) (hC.keep (by rw [setA_ne _ _ (by decide)]; exact b4 1 n1 (by decide) (by decide))) (b1.keep (fun c hc => setA_ne _ _ (by unfold spC at hc; omega))) (by omega) (by unfold spC; omega) (by decide) (by omega) (by omega) hX (fun S' V' d1 d2 d3 d4 d5 d6 x3 e3 => ?_)
      rw [e3, nI_1]
      refine ih S' ⟨V', d1, d4 _ hL b2 (fun l hl => LMs_gen hl sx), fun k hk hdk l hl => ?_, fun c q1 q2 q3 => by rw [d5 c q1 q3, setA_ne _ _ q2]; exact b4 c q1 q2 q3, by rw [d6]; exact b5⟩
      rcases Nat.lt_or_ge k f with z | z
      · exact d2 _ (b3 k z hdk l hl)
      · rw [show k = f by omega]; exact d3 l hl
    · rw [e3, nI_1]
      refine ih T ⟨V, b1, b2, fun k hk hdk l hl => ?_, b4, b5⟩
      rcases Nat.lt_or_ge k f with z | z
      · exact b3 k z hdk l hl
      · rw [hd1] at s1
        rw [show k = f by omega] at hdk
        rcases s1 with a | a
        · exact absurd a hdk
        · omega
theorem sp_chooseRelations {t n p w : Nat} {g : Nat → Vc} {S : Sto} {Q : Sto → Prop} (hC : Cw S n p) (hn : n ≤ 3) (ht : t ≤ 8) (htw : t * 2 ^ n ≤ 64) (hw : w ≤ 256) (h3 : S.1 206 3 = nI t) (hE : Eqs S p n w t g) (hP : SpOK S 207 p (t * 2 ^ n) 0 (LMs p n (t * 2 ^ n) (Sz p n w t g)))
    (hbd : ∀ hd R hd2 R2, RB p (t * 2 ^ n) 0 (Sz p n w t g) hd R → RB p (t * 2 ^ n) 0 (LMs p n (t * 2 ^ n) (Sz p n w t g)) hd2 R2 → cnt hd (t * 2 ^ n) ≤ cnt hd2 (t * 2 ^ n) + 8)
    (hQ : ∀ S' k g', Chs S' p (t * 2 ^ n) (LMs p n (t * 2 ^ n) (Sz p n w t g)) k g' → Mg p n (t * 2 ^ n) (Sz p n w t g) k g' → S'.1 206 4 = nI t → fr6 S S' → Q S') : wp_X6_chooseRelations S Q := by
  obtain ⟨c0, c1, n2, n4, hp⟩ := id hC
  have hp8 := hp.pos
  have h16 := pow_n n4
  have h8 : 2 ^ n ≤ 8 := by
    have : n = 2 ∨ n = 3 := by omega
    rcases this with rfl | rfl <;> decide
  obtain ⟨k7, l7, k4, l4, l50, l51⟩ := st_ln
  obtain ⟨E, hE1, hE2⟩ := hE
  have hS := Sz_Sub p n w t g
  have hL := LMs_Sub p n (t * 2 ^ n) (Sz p n w t g)
  have hSc := Sz_clo (p := p) (g := g) n2 n4 hw (show t * 2 ^ n ≤ 256 by omega)
  have hEB := hE1.2.2.1
  have hEV := hE1.2.2.2
  have dis : ∀ c, spC 274 c → ¬ spC 207 c ∧ c ≠ 350 ∧ c ≠ 351 ∧ ¬ (341 < c ∧ c ≤ 349) ∧ c ≠ 206 := fun c hc => by unfold spC at *; omega
  unfold wp_X6_chooseRelations
  refine sp_width c0 n4 ?_
  rw [h3, pk_mul]
  intro x2 ex2 S4 e4 S5 e5
  rw [ex2]
  have o5 : ∀ c, c ≠ 206 → S5.1 c = S.1 c := fun c hc => by rw [e5, uA_ne hc, e4, uA_ne hc]
  have e206 : S5.1 206 = upd (upd (S.1 206) 4 (nI t)) 3 0 := by rw [e5, uA_eq, e4, uA_eq]
  refine loopE (fun m f (T : Sto) => q_X6_chooseRelations_25 Q m (nI (t * 2 ^ n)) (nI f) T) (fun f T => ∃ k g', Chs T p (t * 2 ^ n) (LMs p n (t * 2 ^ n) (Sz p n w t g)) k g' ∧ (∀ j, j < k → Sz p n w t g (g' j)) ∧ (∀ j, j < f → ¬ hdS S 274 (t * 2 ^ n) j → CS (LMs p n (t * 2 ^ n) (Sz p n w t g)) g' k (slv p (hdS S 274 (t * 2 ^ n)) (rwS S 274) j)) ∧ T.1 206 4 = nI t ∧ (∀ c, spC 274 c → T.1 c = S.1 c) ∧ fr6 S T) (t * 2 ^ n) ?_ ?_ 0 S5 (Nat.zero_le _) ⟨0, fun _ _ => 0, ⟨(hP.keep (fun c hc => o5 c (by unfold spC at hc; omega))).cong (fun v => (CS_0 hL _ v).symm), by rw [e206, upd_eq]; rfl, by omega, fun i q => by omega, fun j q => by omega⟩, fun j q => by omega, fun j q => by omega, by rw [e206, upd_ne _ _ (by decide), upd_eq], fun c hc => o5 c (dis c hc).2.2.2.2, fun c hc => o5 c (by omega), by rw [e5, e4]; rfl⟩
  · rintro T ⟨k, g', b1, b2, b3, b4, b5, b6⟩
    unfold q_X6_chooseRelations_25
    rw [nI_leI (by omega) (by omega)]
    refine ⟨fun _ => hQ T k g' b1 ⟨b2, fun v hv => ?_, b1.2.2.2.2⟩ b4 b6, fun z => by omega⟩
    exact slv_span hEV hEB b1.1.2.2.2 (fun f hf hn => b3 f hf hn) ((hE2 v).mpr hv)
  · rintro f m T hf ⟨k, g', b1, b2, b3, b4, b5, b6⟩ ih
    unfold q_X6_chooseRelations_25 q_X6_chooseRelations_55
    rw [nI_leI (by omega) (by omega)]
    have hT4 : SpOK T 274 p (t * 2 ^ n) 0 E := hE1.keep b5
    have hd1 : hdS T 274 (t * 2 ^ n) = hdS S 274 (t * 2 ^ n) := by
      funext l; unfold hdS; rw [b5 _ (by unfold spC; omega)]
    refine ⟨fun z => by omega, fun _ => sp_solve hT4 (by omega) (by omega) (by omega) (by unfold spC; omega) (fun s1 s2 F s3 s4 => ⟨fun z => absurd z (by decide), fun _ => ?_⟩) (fun s1 => ⟨fun _ x3 e3 => ?_, fun z => absurd rfl z⟩)⟩
    · have sl : ∀ i, i < t * 2 ^ n → slv p (hdS T 274 (t * 2 ^ n)) (rwS T 274) f i = slv p (hdS S 274 (t * 2 ^ n)) (rwS S 274) f i := by
        intro i hi
        unfold slv
        rw [hd1]
        by_cases hdi : hdS S 274 (t * 2 ^ n) i
        · unfold rwS
          rw [b5 (274 + 1 + 1 + i) (by unfold spC; omega)]
        · by_cases e : i = f
          · rw [if_pos e, if_pos e]
          · rw [if_neg e, if_neg e, if_neg (by rw [isB_t]; exact hdi), if_neg (by rw [isB_t]; exact hdi)]
      rw [hd1] at s1
      obtain ⟨X, hXe⟩ : ∃ X, X = slv p (hdS S 274 (t * 2 ^ n)) (rwS S 274) f := ⟨_, rfl⟩
      have sx : Sz p n w t g X := by rw [hXe]; exact (hE2 _).mp (slv_perp hEV hEB hf s1)
      have hX : rd ((setA T 350 F).1 350) (t * 2 ^ n) p X := by
        rw [setA_eq, hXe]
        intro i hi
        rw [← sl i hi]; exact s3 i hi
      obtain ⟨b11, b12, b13, b14, b15⟩ := id b1
      have room : ¬ CS (LMs p n (t * 2 ^ n) (Sz p n w t g)) g' k X → k < 8 ∧ (k + 1) * 2 ^ n ≤ 64 := by
        intro hn0
        obtain ⟨hdS', RS, hRS⟩ := RB.exists hp hS
        obtain ⟨hdL, RL, hRL⟩ := RB.exists hp hL
        obtain ⟨hdC, RC, hRC⟩ := RB.exists hp (CS_Sub hL (fun i => if i = k then X else g' i) (k + 1))
        have gc : ∀ j, j ≤ k → ∀ v, CS (LMs p n (t * 2 ^ n) (Sz p n w t g)) (fun i => if i = k then X else g' i) j v ↔ CS (LMs p n (t * 2 ^ n) (Sz p n w t g)) g' j v := fun j hj v => CS_cong (fun i hi => if_neg (by omega)) v
        have d1 := CS_dim hp hL hRL (k + 1) (fun j hj => by
          rw [gc j (by omega)]
          by_cases e : j = k
          · simp only [if_pos e]; rw [e]; exact hn0
          · simp only [if_neg e]; exact b15 j (by omega)) hRC
        have d2 := CB.le hp (CS_Sub hL (fun i => if i = k then X else g' i) (k + 1)) hRC.CB hRS.CB (id_Lin p _) (fun x hx => by
          obtain ⟨c, hc⟩ := hx
          have h1 := LMs_in hS hSc hc
          have h2 := sum_in (u := fun i => if i = k then X else g' i) hS c (k + 1) (fun j hj => by
            by_cases e : j = k
            · simp only [if_pos e]; exact sx
            · simp only [if_neg e]; exact b2 j (by omega))
          exact hS.to (hS.2.1 _ _ h1 h2) (fun i _ => Int.sub_add_cancel _ _)) (fun _ _ h => h)
        have d3 := hbd _ _ _ _ hRS hRL
        have hk : k + 1 ≤ 8 := by omega
        have := Nat.mul_le_mul hk h8
        omega
      refine sp_choose (X := X) (hC.keep (by rw [setA_ne _ _ (by decide)]; exact b6.1 1 (by omega))) hL (k := k) (g := g') ⟨b11.keep (fun c hc => setA_ne _ _ (by unfold spC at hc; omega)), by rw [setA_ne _ _ (by decide)]; exact b12, b13, fun i hi => by rw [setA_ne _ _ (by omega)]; exact b14 i hi, b15⟩ (by omega) (Or.inr rfl) (by omega) (by omega) hX room (fun S' k' g'' d1 d2 d3 d4 d5 d6 d7 d8 d9 x3 e3 => ?_)
      rw [e3, nI_1]
      refine ih S' ⟨k', g'', d1, fun j hj => ?_, fun j hj hdj => ?_, by rw [d8, setA_ne _ _ (by decide)]; exact b4, fun c hc => ?_, b6.tr ⟨fun c hc => ?_, d9⟩⟩
      · rcases Nat.lt_or_ge j k with q | q
        · rw [d4 j q]; exact b2 j q
        · rw [d5 j q hj]; exact sx
      · rcases Nat.lt_or_ge j f with q | q
        · have h1 := (CS_cong (fun a ha => (d4 a ha).symm) _).mp (b3 j q hdj)
          have hk : k' = k ∨ k' = k + 1 := by omega
          rcases hk with rfl | rfl
          · exact h1
          · exact (CS_add hL g'' k _).mp (addV_old (CS_Sub hL g'' k) _ h1)
        · rw [show j = f by omega, ← hXe]; exact d6
      · obtain ⟨q1, q2, q3, q4, q5⟩ := dis c hc
        rw [d7 c q1 q3 q4 q5, setA_ne _ _ q2]; exact b5 c hc
      · rw [d7 c (by unfold spC; omega) (by omega) (by omega) (by omega), setA_ne _ _ (by omega)]
    · rw [e3, nI_1]
      refine ih T ⟨k, g', b1, b2, fun j hj hdj => ?_, b4, b5, b6⟩
      rcases Nat.lt_or_ge j f with z | z
      · exact b3 j z hdj
      · rw [hd1] at s1
        rw [show j = f by omega] at hdj
        rcases s1 with a | a
        · exact absurd a hdj
        · omega
