/-! the constructors: fields, arrays, objects, calls -/
section NR2
variable {g : Gv} {b : ByteArray} {own : String} {nL d pc : Nat} {lv lv' : List (Nat × Value)} {st : List Value} {T T2 T' : List va_E} {mc ms mc' ms' : Nat} {E : Nat → Array Slot → List Value → Prop}
theorem N_put {C : String} {TC : u_T} {N ci i index : Nat} {fs : List Value} (hd : decode b pc = .ok (.putfield index, 3)) (f : Nat) (hc : vwCl[ci]? = some (C, TC, N)) (hin : ∀ w ∈ u_ws C TC N, w ∈ lw_gd) (hT : T[i]? = some (.inr (ci, fs))) (hf : f < N) (hN : fs.length = N) (hdc : (TC f).1 = C) {v : Value} {ty : FieldType} (ty0 : Nat → FieldType) (hty : ∀ k, k < N → parseFieldDescriptor (TC k).2.2.1 = some (ty0 k)) (hnm : ∀ a, a < N → ∀ b, b < N → a ≠ b → (TC a).2.1 ≠ (TC b).2.1) (hfin : (TC f).2.2.2 = false) (hpd : parseFieldDescriptor (TC f).2.2.1 = some ty) (hnr : narrow ty v = v) (hft : fits ty v = true) (hw : Cond.fieldLink own index C (TC f).2.1 (TC f).2.2.1 ∈ lw_gd) (hS : T.set i (.inr (ci, fs.set f v)) = T') (k : NJ g b own nL d (pc + 3) lv st T' mc ms T2 E) : NJ g b own nL d pc lv (v :: .ref (g.1 + i) :: st) T mc ms T2 E := by
  intro p l e R s m args below meth c H locs ls cells slots cT sT Post Cx D hl h1 h2 h3 h4 hE
  obtain ⟨x1, x2, x3, x4, x5, x6, x7, x8, x9⟩ := id Cx
  have hK := x6.1
  have hap := va_apart (own := own) x5 hin ty0 hty hnm hK hc
  have he := pw_get g hT
  obtain ⟨r, r1, cell, q1, q2, q3, q4⟩ := D.1 i _ he
  have hr : r = (C, TC, N) := Option.some.inj (r1.symm.trans hc)
  subst hr
  obtain ⟨hS', hfc, kC, hkC, hkind⟩ := hK.1 ci _ hc
  obtain ⟨cf, kf, fi, f', hi, hsl⟩ := hS' f hf
  have hlay := x5 _ (hin _ (u_in_lay hf))
  unfold u_lay at hlay
  rw [if_neg (by rw [hfin]; decide)] at hlay
  have hst := (u_facts hfc hkC (u_lays x5 hin hf) hi).1
  have h6 := u_store hfc hkC hkind hlay hi hpd hnr hft
  refine W.putK x1 x2 (f := f') ⟨x4, x5 _ hw, ⟨_, _, _, (by have := hi; rw [hdc] at this; exact this)⟩, hst⟩ (by rw [q2]; exact h6) q1 q3 (by rw [hsl]; exact k2_hasslot (q4 f hf)) rfl rfl hd fun H' e1 e2 e3 => ?_
  rw [hsl] at e1 ⊢
  have hP := D.1.set (H1 := H') (pw_D g T) he (e := .inr (ci, fs.set f v)) ⟨_, hc, t_OB.to (V := updV (vp_V fs) f v) ⟨_, e1, q2, q3, t_set q4 hap hf v⟩ (fun j _ => vp_updV_set (by omega) v j)⟩ e3
  rw [pw_set, hS] at hP
  exact k p l e R s m args below meth c H' _ ls cells slots cT sT Post Cx ⟨hP, by rw [e2, D.2.1, ← hS, List.length_set], D.2.2.1.put e2 e3 (show g.1 ≤ g.1 + i by omega), D.2.2.2⟩ hl h1 h2 h3 h4 hE
theorem N_putF {C : String} {TC : u_T} {N ci i index : Nat} {fs : List Value} (hd : decode b pc = .ok (.putfield index, 3)) (f : Nat) (hc : vwCl[ci]? = some (C, TC, N)) (hin : ∀ w ∈ u_ws C TC N, w ∈ lw_gd) (hT : T[i]? = some (.inr (ci, fs))) (hf : f < N) (hN : fs.length = N) (hdc : (TC f).1 = C) (hoC : C = own) (hoL : own ≠ RL) {v : Value} {ty : FieldType} (ty0 : Nat → FieldType) (hty : ∀ k, k < N → parseFieldDescriptor (TC k).2.2.1 = some (ty0 k)) (hnm : ∀ a, a < N → ∀ b, b < N → a ≠ b → (TC a).2.1 ≠ (TC b).2.1) (hfin : (TC f).2.2.2 = true) (hpd : parseFieldDescriptor (TC f).2.2.1 = some ty) (hnr : narrow ty v = v) (hft : fits ty v = true) (hw : Cond.fieldLink own index C (TC f).2.1 (TC f).2.2.1 ∈ lw_gd) (hS : T.set i (.inr (ci, fs.set f v)) = T') (k : NJ g b own nL d (pc + 3) lv st T' mc ms T2 E) : NJ g b own nL d pc lv (v :: .ref (g.1 + i) :: st) T mc ms T2 E := by
  intro p l e R s m args below meth c H locs ls cells slots cT sT Post Cx D hl h1 h2 h3 h4 hE
  obtain ⟨x1, x2, x3, x4, x5, x6, x7, x8, x9⟩ := id Cx
  have hK := x6.1
  have hap := va_apart (own := own) x5 hin ty0 hty hnm hK hc
  have he := pw_get g hT
  obtain ⟨r, r1, cell, q1, q2, q3, q4⟩ := D.1 i _ he
  have hr : r = (C, TC, N) := Option.some.inj (r1.symm.trans hc)
  subst hr
  obtain ⟨hS', hfc, kC, hkC, hkind⟩ := hK.1 ci _ hc
  obtain ⟨cf, kf, fi, f', hi, hsl⟩ := hS' f hf
  have hlay := x5 _ (hin _ (u_in_lay hf))
  unfold u_lay at hlay
  rw [if_pos hfin] at hlay
  have hst := (u_facts hfc hkC (u_lays x5 hin hf) hi).1
  have hcf : m.cls = cf := by
    obtain ⟨_, _, c', _, _, _, -, -, hf', -, -, -, hown2, -⟩ := Cond.laysFinal_spec hlay
    have e1 : c' = cf := by have := hi.symm.trans hf'; simp at this; exact this.1.symm
    rw [hdc, hoC] at hown2
    rw [← e1]; exact Option.some.inj (x4.symm.trans hown2)
  have h6 := u_fits hfc hkC hkind (Or.inr hlay) hi hpd hnr hft
  refine W.putFinK x1 x2 x4 (x5 _ hw) (by have := hi; rw [hdc] at this; exact this) hst hcf (x9 hoL) (by rw [q2]; exact h6) q1 q3 (by rw [hsl]; exact k2_hasslot (q4 f hf)) rfl rfl hd fun H' e1 e2 e3 => ?_
  rw [hsl] at e1 ⊢
  have hP := D.1.set (H1 := H') (pw_D g T) he (e := .inr (ci, fs.set f v)) ⟨_, hc, t_OB.to (V := updV (vp_V fs) f v) ⟨_, e1, q2, q3, t_set q4 hap hf v⟩ (fun j _ => vp_updV_set (by omega) v j)⟩ e3
  rw [pw_set, hS] at hP
  exact k p l e R s m args below meth c H' _ ls cells slots cT sT Post Cx ⟨hP, by rw [e2, D.2.1, ← hS, List.length_set], D.2.2.1.put e2 e3 (show g.1 ≤ g.1 + i by omega), D.2.2.2⟩ hl h1 h2 h3 h4 hE
theorem N_get {C : String} {TC : u_T} {N ci i index : Nat} {fs : List Value} (hd : decode b pc = .ok (.getfield index, 3)) (f : Nat) (hc : vwCl[ci]? = some (C, TC, N)) (hin : ∀ w ∈ u_ws C TC N, w ∈ lw_gd) (hT : T[i]? = some (.inr (ci, fs))) (hf : f < N) (hdc : (TC f).1 = C) {v : Value} (hv : fs[f]? = some v) (hw : Cond.fieldLink own index C (TC f).2.1 (TC f).2.2.1 ∈ lw_gd) (k : NJ g b own nL d (pc + 3) lv (v :: st) T mc ms T2 E) : NJ g b own nL d pc lv (.ref (g.1 + i) :: st) T mc ms T2 E := by
  intro p l e R s m args below meth c H locs ls cells slots cT sT Post Cx D hl h1 h2 h3 h4 hE
  exact va_get Cx.1 Cx.2.1 Cx.2.2.2.2.1 hin Cx.2.2.2.1 Cx.2.2.2.2.2.1.1 D.1 i (pw_get g hT) hc f hf (Cx.2.2.2.2.1 _ hw) (fun x hx => by rw [hdc] at hx; exact hx) hv hd (k p l e R s m args below meth c H locs ls cells slots cT sT Post Cx D hl h1 h2 h3 h4 hE)
theorem N_iast {i len : Nat} {F : Nat → Int32} {x j : Int32} (hd : decode b pc = .ok (.iastore, 1)) (hT : T[i]? = some (.inl (g.2.2.1 0, len, .inl F))) (hin : vp_in j len) (hS : T.set i (.inl (g.2.2.1 0, len, .inl (upd F j.toNatClampNeg x))) = T') (k : NJ g b own nL d (pc + 1) lv st T' mc ms T2 E) : NJ g b own nL d pc lv (.int x :: .int j :: .ref (g.1 + i) :: st) T mc ms T2 E := by
  intro p l e R s m args below meth c H locs ls cells slots cT sT Post Cx D hl h1 h2 h3 h4 hE
  have ha := pw_get g hT
  refine W.iast Cx.1 Cx.2.1 (D.1 i _ ha) ((Cx.2.2.2.2.2.1.1.2 0 _ rfl).1 len (fun q => .int (F q))) (fun q => by cases q) (by show ¬ (j < 0 ∨ (arrV _ _ _).slots.size ≤ _); rw [arrV_size]; exact hin) rfl rfl hd fun H1 e1 z oq => ?_
  have hP := D.1.set (pw_D g T) ha (e := .inl (g.2.2.1 0, len, .inl (upd F j.toNatClampNeg x))) (by
    show H1[g.1 + i]? = some (vp_cell _ _)
    rw [e1, vp_cell_i, vp_cell_i, arrV_store]
    congr 2
    funext q
    by_cases hq : q = j.toNatClampNeg
    · subst hq
      simp [updV, upd]
    · simp [updV, upd, hq]) oq
  rw [pw_set, hS] at hP
  exact k p l e R s m args below meth c H1 _ ls cells slots cT sT Post Cx ⟨hP, by rw [z, D.2.1, ← hS, List.length_set], D.2.2.1.put z oq (show g.1 ≤ g.1 + i by omega), D.2.2.2⟩ hl h1 h2 h3 h4 hE
theorem N_newa {atype : ArrayType} {ty : FieldType} (t : Nat) {cA : ClassId} (hty : newarray.typeOf atype = ty) (ht : (tyL g)[t]? = some (cA, ty)) {n : Int32} {N : Nat} {a0 : vp_A} (ha : ∀ cA : ClassId, vp_cell cA a0 = arrV cA N (fun _ => defaultValue ty)) (hn : ¬ n < 0) (hN : n.toNatClampNeg = N) (hby : N * componentBytes ty ≤ 536870912) (hw : Cond.arrayClass ty ∈ lw_gd) (hd : decode b pc = .ok (.newarray atype, 2)) (hm : 1 + mc' ≤ mc) (hs : N + ms' ≤ ms) (k : NJ g b own nL d (pc + 2) lv (.ref (g.1 + T.length) :: st) (T ++ [.inl (cA, a0)]) mc' ms' T2 E) : NJ g b own nL d pc lv (.int n :: st) T mc ms T2 E := by
  intro p l e R s m args below meth c H locs ls cells slots cT sT Post Cx D hl h1 h2 h3 h4 hE
  subst hty
  refine va_newaK Cx.1 Cx.2.1 (Cx.2.2.2.2.1 _ hw) rfl hd rfl hn hN hby (by omega) (by omega) D.2.1 fun H1 cA' e1 z1 o1 hAr hNm => ?_
  have hRA := (Cx.2.2.2.2.2.1.1.2 t _ ht).2
  have ec : cA' = cA := by
    cases atype <;> exact Option.some.inj (hNm.symm.trans hRA)
  subst ec
  have o2 : ∀ q, q < H.size → H1[q]? = H[q]? := fun q hq => o1 q (by rw [← D.2.1]; exact hq)
  have hP : va_P g.2.2.2 vwCl (pw g (T ++ [.inl (cA', a0)])) H1 := by
    rw [pw_app]
    refine (D.1.kept (fun q x hx => o2 x.1 ((D.1 q x hx).lt))).app (fun q x hx => ?_)
    have hz : q < 1 := (List.getElem?_eq_some_iff.mp hx).1
    rw [show q = 0 by omega] at hx
    cases hx
    show H1[g.1 + T.length]? = some (vp_cell _ _)
    rw [ha]
    exact e1
  exact k p l e R s m args below meth c H1 locs ls (cells + 1) (slots + N) cT sT Post Cx ⟨hP, by rw [z1, List.length_append]; rfl, ⟨Nat.le_trans D.2.2.1.1 (by rw [z1, D.2.1]; omega), fun q q1 q2 => (o2 q (Nat.lt_of_lt_of_le q1 D.2.2.1.1)).trans (D.2.2.1.2.1 q q1 q2), D.2.2.1.2.2⟩, D.2.2.2⟩ hl (by omega) (by omega) h3 h4 hE
theorem N_new {C : String} {TC : u_T} {N ci index : Nat} {fs : List Value} (hc : vwCl[ci]? = some (C, TC, N)) (hin : ∀ w ∈ u_ws C TC N, w ∈ lw_gd) (ty : Nat → FieldType) (hty : ∀ k, k < N → parseFieldDescriptor (TC k).2.2.1 = some (ty k)) (hcl : Cond.classLink own index C ∈ lw_gd) (hinst : Cond.instantiable C N ∈ lw_gd) (hini : Cond.initialized C ∈ lw_gd) (hfs : ∀ j, j < N → defaultValue (ty j) = vp_V fs j) (hd : decode b pc = .ok (.new index, 3)) (hm : 1 + mc' ≤ mc) (hs : N + ms' ≤ ms) (k : NJ g b own nL d (pc + 3) lv (.ref (g.1 + T.length) :: st) (T ++ [.inr (ci, fs)]) mc' ms' T2 E) : NJ g b own nL d pc lv st T mc ms T2 E := by
  intro p l e R s m args below meth c H locs ls cells slots cT sT Post Cx D hl h1 h2 h3 h4 hE
  obtain ⟨x1, x2, x3, x4, x5, x6, x7, x8, x9⟩ := id Cx
  have hKn := x6.1.1 ci _ hc
  refine W.newcK x1 x2 x4 (x5 _ hcl) (x5 _ hinst) (x5 _ hini) rfl hd (by omega) (by omega) hKn.2.1 D.2.1 fun H1 kC hkC e1 z1 o1 => ?_
  have o2 : ∀ q, q < H.size → H1[q]? = H[q]? := fun q hq => o1 q (by rw [← D.2.1]; exact hq)
  have hP : va_P g.2.2.2 vwCl (pw g (T ++ [.inr (ci, fs)])) H1 := by
    rw [pw_app]
    refine (D.1.kept (fun q x hx => o2 x.1 ((D.1 q x hx).lt))).app (fun q x hx => ?_)
    have hz : q < 1 := (List.getElem?_eq_some_iff.mp hx).1
    rw [show q = 0 by omega] at hx
    cases hx
    exact ⟨_, hc, (u_born ty x5 hin hKn hkC e1 hty).to hfs⟩
  exact k p l e R s m args below meth c H1 locs ls (cells + 1) (slots + N) cT sT Post Cx ⟨hP, by rw [z1, List.length_append]; rfl, ⟨Nat.le_trans D.2.2.1.1 (by rw [z1, D.2.1]; omega), fun q q1 q2 => (o2 q (Nat.lt_of_lt_of_le q1 D.2.2.1.1)).trans (D.2.2.1.2.1 q q1 q2), D.2.2.1.2.2⟩, D.2.2.2⟩ hl (by omega) (by omega) h3 h4 hE
/-- what the tables say of an array of arrays: its class tA over the class tC of type ty -/
def AR (g : Gv) (tA tC : Nat) (nm : String) (ty : FieldType) : Prop := ∀ s : State, EV g s → ∃ (kA kC : Class) (c0 : ClassId), s.vm.findClass nm = some (g.2.2.1 tA) ∧ s.vm.classes[g.2.2.1 tA]? = some kA ∧ kA.kind = .array (g.2.2.1 tC) (.array ty) ∧ s.vm.classes[g.2.2.1 tC]? = some kC ∧ kC.kind = .array c0 ty
theorem AR.ints : AR g 3 0 "[[I" .int := by
  intro s h
  obtain ⟨⟨hK1, hK2⟩, ⟨⟨kA, a1, a2⟩, -⟩, -⟩ := h
  obtain ⟨-, kC, k1, c0, k2⟩ := (hK2 0 _ rfl).1 0 (fun _ => .null)
  exact ⟨kA, kC, c0, (hK2 3 _ rfl).2, a1, a2, k1, k2⟩
theorem AR.longs : AR g 4 2 "[[J" .long := by
  intro s h
  obtain ⟨⟨hK1, hK2⟩, ⟨-, kA, a1, a2⟩, -⟩ := h
  obtain ⟨-, kC, k1, c0, k2⟩ := (hK2 2 _ rfl).1 0 (fun _ => .null)
  exact ⟨kA, kC, c0, (hK2 4 _ rfl).2, a1, a2, k1, k2⟩
theorem N_multi {index tA tC : Nat} {nm : String} {ty : FieldType} (hR : AR g tA tC nm ty) {n x : Int32} {N M : Nat} {a0 : vp_A} (hI : ∀ cA : ClassId, vp_cell cA a0 = arrV cA M (fun _ => defaultValue ty)) (hn : ¬ n < 0) (hx : ¬ x < 0) (hN : n.toNatClampNeg = N) (hM : x.toNatClampNeg = M) (hb1 : N * 4 ≤ 536870912) (hb2 : M * componentBytes ty ≤ 536870912) (hb3 : M ≤ 536870912) (hdf : fits ty (defaultValue ty) = true) (hcl : Cond.classLink own index nm ∈ lw_gd) (hd : decode b pc = .ok (.multianewarray index 2, 4)) (hm : 1 + N + mc' ≤ mc) (hs : N + N * M + ms' ≤ ms)
    (k : NJ g b own nL d (pc + 4) lv (.ref (g.1 + T.length) :: st) (T ++ (.inl (g.2.2.1 tA, N, .inr (.inr (.inr (.inr (fun j => some (g.1 + (T.length + 1 + j))))))) :: List.replicate N (.inl (g.2.2.1 tC, a0)))) mc' ms' T2 E) : NJ g b own nL d pc lv (.int x :: .int n :: st) T mc ms T2 E := by
  intro p l e R s m args below meth c H locs ls cells slots cT sT Post Cx D hl h1 h2 h3 h4 hE
  obtain ⟨x1, x2, x3, x4, x5, x6, x7, x8, x9⟩ := id Cx
  obtain ⟨kA, kC, c0, r1, r2, r3, r4, r5⟩ := hR s x6
  refine W_multi x1 x2 x4 (x5 _ hcl) r1 r2 r3 r4 r5 hn hx hN hM hb1 hb2 hb3 hdf (by omega) (by omega) hd fun H1 locs1 z1 e1 e2 o1 hL => ?_
  rw [D.2.1] at e1 e2 z1 hL ⊢
  have hP : va_P g.2.2.2 vwCl (pw g (T ++ (.inl (g.2.2.1 tA, N, .inr (.inr (.inr (.inr (fun j => some (g.1 + (T.length + 1 + j))))))) :: List.replicate N (.inl (g.2.2.1 tC, a0))))) H1 := by
    rintro q ⟨a, en⟩ hq
    obtain ⟨f1, f2⟩ := pw_of g hq
    have f1' : a = g.1 + q := f1
    have f2' : (T ++ (.inl (g.2.2.1 tA, N, .inr (.inr (.inr (.inr (fun j => some (g.1 + (T.length + 1 + j))))))) :: List.replicate N (.inl (g.2.2.1 tC, a0))) : List va_E)[q]? = some en := f2
    subst f1'
    rcases Nat.lt_or_ge q T.length with lt | ge
    · rw [List.getElem?_append_left lt] at f2'
      have f3 := D.1 q _ (pw_get g f2')
      exact f3.kept (o1 _ f3.lt)
    · rw [List.getElem?_append_right ge] at f2'
      obtain ⟨j, rfl⟩ : ∃ j, q = T.length + j := ⟨q - T.length, by omega⟩
      rw [show T.length + j - T.length = j by omega] at f2'
      cases j with
      | zero =>
        cases f2'
        show H1[g.1 + (T.length + 0)]? = some (vp_cell _ _)
        rw [Nat.add_zero, e1, vp_cell_q]
        refine congrArg some (arrV_cg _ _ (fun j _ => ?_))
        have e5 : g.1 + T.length + 1 + j = g.1 + (T.length + 1 + j) := by omega
        exact congrArg Value.ref e5
      | succ j =>
        rw [List.getElem?_cons_succ, List.getElem?_replicate] at f2'
        by_cases hj : j < N
        · rw [if_pos hj] at f2'
          cases f2'
          show H1[g.1 + (T.length + (j + 1))]? = some (vp_cell _ _)
          rw [hI, show g.1 + (T.length + (j + 1)) = g.1 + T.length + 1 + j by omega]
          exact e2 j hj
        · rw [if_neg hj] at f2'; cases f2'
  have ag : ∀ q, g.1 + T.length = q → Ag g q := fun q hq => by show g.1 ≤ q; omega
  exact k p l e R s m args below meth c H1 locs1 ls (cells + 1 + N) (slots + N + N * M) cT sT Post Cx ⟨hP, by rw [z1, List.length_append, List.length_cons, List.length_replicate]; omega, ⟨Nat.le_trans D.2.2.1.1 (by rw [z1, D.2.1]; omega), fun q q1 q2 => (o1 q (Nat.lt_of_lt_of_le q1 D.2.2.1.1)).trans (D.2.2.1.2.1 q q1 q2), fun q hq => (hL q hq).elim (D.2.2.1.2.2 q) (fun h => ag _ h.symm)⟩, D.2.2.2⟩ hl (by omega) (by omega) h3 h4 hE
theorem N_run {rest st0 : List Value} {T1 : List va_E} {mc1 ms1 : Nat} {a : Array Value}
    (hr : ∀ (p : Program) (l : Launch) (e : Env) (R : Room) (s : State) (m : MethodId) (args : Array Value) (below : List Frame) (meth : Method) (c : Code) (H : Heap) (locs : List Loc) (ls : Array Slot) (cells slots : Nat), NX g b own nL d p R s m args meth c → GW g T s H locs → ls.size = nL → (cells + mc1 ≤ R.cells ∧ slots + ms1 ≤ R.slots) → va_Run p l e R s m args below meth c H locs cells slots mc1 ms1 (F0 m pc ls st0) rest (NQc g T1 a) (Ag g))
    (hm : mc1 + mc' ≤ mc) (hs : ms1 + ms' ≤ ms) (k : NJ g b own nL d (pc + 3) lv rest T1 mc' ms' T2 E) : NJ g b own nL d pc lv st0 T mc ms T2 E := by
  intro p l e R s m args below meth c H locs ls cells slots cT sT Post Cx D hl h1 h2 h3 h4 hE T0 hT X
  obtain ⟨v, st₀, t, T', L, h0, X', hL, e1, e2, ⟨hv, hp, hsz, hz, hk⟩, stp⟩ := hr p l e R s m args below meth c H locs ls cells slots Cx D hl.1 ⟨by omega, by omega⟩ T0 hT X
  cases hv
  rw [h0] at hz hk
  have hW : GW g T1 s T'.heap (locs ++ L) := by
    refine ⟨by rw [e1]; exact hp, by rw [e1]; exact hsz, ⟨Nat.le_trans D.2.2.1.1 (by rw [e1]; exact hz), fun q q1 q2 => ?_, fun q hq => ?_⟩, D.2.2.2⟩
    · rw [e1, hk q (Nat.lt_of_lt_of_le q1 D.2.2.1.1) q2]
      exact D.2.2.1.2.1 q q1 q2
    · rcases List.mem_append.mp hq with h | h
      · exact D.2.2.1.2.2 q h
      · exact hL q h
  obtain ⟨t2, a1, b1⟩ := k p l e R s m args below meth c T'.heap (locs ++ L) ls (cells + mc1) (slots + ms1) cT sT Post Cx hW hl (by omega) (by omega) h3 h4 hE T' rfl X'
  exact ⟨t2, stp t2 a1, b1⟩
theorem NX.pre {p : Program} {R : Room} {s : State} {m : MethodId} {args : Array Value} {meth : Method} {c : Code} {H : Heap} {locs : List Loc} (Cx : NX g b own nL d p R s m args meth c) (D : GW g T s H locs) (As : List Value) (U : State) (hU : U.heap = H) (hW : s.WarmedH U.vm) : NPc g As T As.toArray U :=
  ⟨rfl, by rw [hU]; exact D.1, by rw [hU]; exact D.2.1, Cx.2.2.2.2.2.1.warm hW⟩
/-- a constructor is called -/
theorem N_callI {y : MethodName} {bb : ByteArray} {mL d' index n a : Nat} {As rest : List Value} {T1 : List va_E} {mc1 ms1 : Nat} (hd : decode b pc = .ok (.invokespecial index, 3)) (hM : NC g y bb mL d' (.ref a :: As) T T1 mc1 ms1) (hcode : Cond.code y bb mL none ∈ lw_gd) (hlink : Cond.methodLink own index y ∈ lw_gd) (hini : Cond.initialized y.cls ∈ lw_gd) (hin : Cond.instanceMethod y ∈ lw_gd) (hyn : y.name = "<init>") (hds : y.cls ≠ "java/lang/invoke/MethodHandle" ∧ y.cls ≠ "java/lang/invoke/VarHandle" ∧ (parseMethodDescriptor y.desc).map (fun d => d.parameters.length) = some n) (hn : As.length = n) (h1 : d' + 1 ≤ d) (h2 : mL ≤ 13) (hrm : (rest.map fun v => v.category).sum ≤ 8) {st0 : List Value} (hs0 : st0 = As.reverse ++ .ref a :: rest)
    (hm : mc1 + mc' ≤ mc) (hs : ms1 + ms' ≤ ms) (k : NJ g b own nL d (pc + 3) lv rest T1 mc' ms' T2 E) : NJ g b own nL d pc lv st0 T mc ms T2 E := by
  refine N_run (a := (Value.ref a :: As).toArray) (fun p l e R s m args below meth c H locs ls cells slots Cx D hsz hf => ?_) hm hs k
  obtain ⟨x1, x2, x3, x4, x5, x6, x7, x8, x9⟩ := id Cx
  have hG : GoodIn lw_gd (Cond.code y bb mL none :: lw_gd) := gd_good (fun w hw => (List.mem_cons.mp hw).elim (fun e => by rw [e]; exact hcode) id)
  exact va_runI (As := As) ⟨x1, x2, x3, x4, x5⟩ (hM l) ⟨callB_of n x5 hG rfl rfl rfl (x5 _ hini) (x5 _ hlink) hds ⟨by show d' + 1 ≤ R.frames; omega, by show 8 + (mL + 11) + 32 * d' ≤ R.locals; omega⟩, hyn, x5 _ hin⟩ ⟨NPc.blind, fun U hU hW => Cx.pre D _ U hU hW⟩ rfl hn hsz hs0 (lv_room hrm) hd hf
theorem N_callN {y : MethodName} {host : String} {bb : ByteArray} {mL d' index n a : Nat} {As rest : List Value} {T1 : List va_E} {mc1 ms1 : Nat} (hd : decode b pc = .ok (.invokespecial index, 3)) (hM : NC g y bb mL d' (.ref a :: As) T T1 mc1 ms1) (hcode : Cond.code y bb mL none ∈ lw_gd) (hlink : ∀ U : State, NN U → va_Nw (Cond.methodLinkNest own index y host) U) (hini : Cond.initialized y.cls ∈ lw_gd) (hin : Cond.instanceMethod y ∈ lw_gd) (hyn : y.name = "<init>") (hds : y.cls ≠ "java/lang/invoke/MethodHandle" ∧ y.cls ≠ "java/lang/invoke/VarHandle" ∧ (parseMethodDescriptor y.desc).map (fun d => d.parameters.length) = some n) (hn : As.length = n) (h1 : d' + 1 ≤ d) (h2 : mL ≤ 13) (hrm : (rest.map fun v => v.category).sum ≤ 8) {st0 : List Value} (hs0 : st0 = As.reverse ++ .ref a :: rest)
    (hm : mc1 + mc' ≤ mc) (hs : ms1 + ms' ≤ ms) (k : NJ g b own nL d (pc + 3) lv rest T1 mc' ms' T2 E) : NJ g b own nL d pc lv st0 T mc ms T2 E := by
  refine N_run (a := (Value.ref a :: As).toArray) (fun p l e R s m args below meth c H locs ls cells slots Cx D hsz hf => ?_) hm hs k
  obtain ⟨x1, x2, x3, x4, x5, x6, x7, x8, x9⟩ := id Cx
  have hG : GoodIn lw_gd (Cond.code y bb mL none :: lw_gd) := gd_good (fun w hw => (List.mem_cons.mp hw).elim (fun e => by rw [e]; exact hcode) id)
  exact va_runIN (As := As) ⟨x1, x2, x3, x4, x5⟩ (hM l) ⟨va_cnB n x5 hG rfl rfl rfl (hlink s x6.2.2) (x5 _ hini) hds ⟨by show d' + 1 ≤ R.frames; omega, by show 8 + (mL + 11) + 32 * d' ≤ R.locals; omega⟩, hyn, x5 _ hin⟩ ⟨NPc.blind, fun U hU hW => Cx.pre D _ U hU hW⟩ rfl hn hsz hs0 (lv_room hrm) hd hf
end NR2
