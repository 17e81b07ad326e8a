/-! the calls that ask of annihilators (1) -/
theorem R0.fld {S : Sto} {b n p K gc ec bc j : Nat} {x : Int32} (h : R0 S b n p K gc ec bc) (hj : 22 ≤ j) : R0 (uA S 353 j x) b n p K gc ec bc := by
  have f : scr S (uA S 353 j x) := ⟨fun c hc => uA_ne (by omega), fun c h1 h2 => uA_ne (by omega), fun i hi => by rw [uA_eq, upd_ne _ _ (by omega)], rfl⟩
  exact h.go f (h.2.2.2.2.2.1.keepM h.1.nw f (fun c _ _ => uA_ne (by omega)))
theorem sp_ann9 {s hand n p K gc ec bc b : Nat} {S : Sto} {Q : Sto → Prop} (hs : s < 3) (hh : hand < 2) (H : R0 S b n p K gc ec bc)
    (hQ : ∀ S' T rk L R rk0 L0 Rw0, MB T p (2 ^ n) K (IdV p n s gc (gS S)) rk0 L0 Rw0 → Kpt S' 376 (2 ^ n) K rk0 L0 Rw0 → S'.1 353 36 = nI rk0 → MB S' p (2 ^ n) K (AnV p n hand (IdV p n s gc (gS S))) rk L R → Kpt S' 374 (2 ^ n) K rk L R → S'.1 353 35 = nI rk → R0 S' b n p K gc ec bc → Q S') :
    wp_X9_spans (nI s) S (fun S1 => wp_X9_keeps 376 S1 (fun r S2 => ∀ S3 : Sto, S3 = uA S2 353 36 r → wp_X9_annihilated 376 (S3.1 353 36) (nI hand) S3 Q)) := by
  obtain ⟨h1, h2, -⟩ := id H
  have n4 := h1.nw.1.2.2.2.1
  have hw := pow_n n4
  refine sp_spans hs (h1.cm h2) h1.gm (fun S1 rk0 L0 Rw0 b1 b2 => ?_)
  have R1 := H.goM b2.M (by simp [lSp])
  refine sp_keeps b1 (by omega) R1.2.1 (Or.inr rfl) (fun S2 c1 c2 S3 e3 => ?_)
  have R2 := R1.goM (c2.M (by simp)) (by simp)
  have R3 : R0 S3 b n p K gc ec bc := by rw [e3]; exact R2.fld (by omega)
  have k3 : Kpt S3 376 (2 ^ n) K rk0 L0 Rw0 := fun c hc hd a ha => by rw [e3, uA_ne (by decide)]; exact c1 c hc hd a ha
  have hrk := b1.rk
  rw [show S3.1 353 36 = nI rk0 by rw [e3, uA_eq, upd_eq]]
  refine sp_annihilated (R3.1.cm R3.2.1) (Or.inl rfl) (by omega) hh (fun i hi => Kpt_rd b1 n4 k3 hi) (fun S' rk L R d1 d2 d3 d4 => ?_)
  exact hQ S' S1 rk L R rk0 L0 Rw0 b1 (fun c hc hd a ha => by rw [d4.1 376 (by decide) (by simp [lAn])]; exact k3 c hc hd a ha) (by rw [d4.2.1 36 (Or.inr rfl), e3, uA_eq, upd_eq]) (d1.cong (fun x => Kpt_AnR b1 n4 k3 x)) d2 d3 (R3.goM d4 (by simp [lAn]))
theorem fr3.scC {h : Nat} {S S' : Sto} (hh : h = 126 ∨ h = 145) (f : fr3 h S S') : scC S S' ∧ ∀ c, 49 ≤ c → c ≤ 106 → S'.1 c = S.1 c := by
  have l1 : ln (107 + 1) = 16 := by decide +kernel
  have l2 : ln (h + 1) = 16 := by rcases hh with rfl | rfl <;> decide +kernel
  exact ⟨⟨fun c hc => f.1 c (by unfold spC; omega) (by unfold spC; omega) (by omega), f.2⟩, fun c h1 h2 => f.1 c (by unfold spC; omega) (by unfold spC; omega) (by omega)⟩
theorem R0.idv {S S' : Sto} {b n p K gc ec bc : Nat} (h : R0 S b n p K gc ec bc) (f : ∀ c, c < 48 → S'.1 c = S.1 c) (s : Nat) : IdV p n s gc (gS S') = IdV p n s gc (gS S) := by
  have := h.1.nw.2.2.2.2.1
  funext v
  exact propext (IdV_cong (fun i hi j _ => by unfold gS; rw [f _ (by omega)]) v)
theorem sp_ann8 {s hand n p K gc ec bc b : Nat} {S : Sto} {Q : Nat → Sto → Prop} (hs : s < 3) (hh : hand < 2) (H : R0 S b n p K gc ec bc)
    (hQ : ∀ S', SpOK S' 126 p (2 ^ n) K (AnV p n hand (IdV p n s gc (gS S'))) → R0 S' b n p K gc ec bc → Q 126 S') : wp_X1_annihilatorOf (nI s) (nI hand) S Q := by
  obtain ⟨h1, h2, h3, h4, h5, h6, h7⟩ := id H
  have N := h1.nw
  unfold wp_X1_annihilatorOf
  refine sp_ofSide hs N h6 (fun S1 N1 I1 P1 f1 hkd => ?_)
  have R1 := H.side hs f1 I1
  have P1' := SpOK.g N1.2.2.2.2.1 (fun i hi => (f1.scC hs).1 _ (by omega)) P1
  refine sp_annihilate (sps16 hs) (by omega) (Or.inl rfl) (by omega) hh N1.1 N1.2.1 N.2.2.1 P1' (fun S2 P2 f2 => ?_)
  have f2' := f2.scC (Or.inl rfl)
  refine hQ S2 ?_ (R1.goC f2'.1 f2'.2)
  rw [R1.idv (fun c hc => f2'.1.1 c (by omega)) s]
  exact P2
