/-! the constructors: an object and what came behind it -/
theorem ao_get {A B : List va_E} {o : va_E} {n : Nat} (h : A.length = n) : (A ++ o :: B)[n]? = some o := by
  rw [List.getElem?_append_right (by omega), show n - A.length = 0 by omega]; rfl
theorem ao_set {A B : List va_E} {o o' : va_E} {n : Nat} (h : A.length = n) : (A ++ o :: B).set n o' = A ++ o' :: B := by
  rw [List.set_append_right _ _ (by omega), show n - A.length = 0 by omega]; rfl
theorem ao_len {A B : List va_E} {o : va_E} {n nb : Nat} (h : A.length = n) (hB : B.length = nb) : (A ++ o :: B).length = n + 1 + nb := by
  rw [List.length_append, List.length_cons, h, hB]; omega
theorem ao_app {A B C : List va_E} {o : va_E} : (A ++ o :: B) ++ C = A ++ o :: (B ++ C) := by
  rw [List.append_assoc, List.cons_append]
section NR3
variable {g : Gv} {b : ByteArray} {own : String} {nL d pc : Nat} {lv lv' : List (Nat × Value)} {st : List Value} {T2 A B : List va_E} {o : va_E} {n nb mc ms mc' ms' : Nat} {E : Nat → Array Slot → List Value → Prop}
theorem M_put (hA : A.length = n) {C : String} {TC : u_T} {N ci index : Nat} {fs fs' : List Value} (hd : decode b pc = .ok (.putfield index, 3)) (f : Nat) (hc : vwCl[ci]? = some (C, TC, N)) (hin : ∀ w ∈ u_ws C TC N, w ∈ lw_gd) (hf : f < N) (hN : fs.length = N) (hdc : (TC f).1 = C) {v : Value} {ty : FieldType} (ty0 : Nat → FieldType) (hty : ∀ k, k < N → parseFieldDescriptor (TC k).2.2.1 = some (ty0 k)) (hnm : ∀ a, a < N → ∀ b, b < N → a ≠ b → (TC a).2.1 ≠ (TC b).2.1) (hfin : (TC f).2.2.2 = false) (hpd : parseFieldDescriptor (TC f).2.2.1 = some ty) (hnr : narrow ty v = v) (hft : fits ty v = true) (hw : Cond.fieldLink own index C (TC f).2.1 (TC f).2.2.1 ∈ lw_gd) (hS : fs.set f v = fs') (k : NJ g b own nL d (pc + 3) lv st (A ++ .inr (ci, fs') :: B) mc ms T2 E) : NJ g b own nL d pc lv (v :: .ref (g.1 + n) :: st) (A ++ .inr (ci, fs) :: B) mc ms T2 E :=
  N_put hd f hc hin (ao_get hA) hf hN hdc ty0 hty hnm hfin hpd hnr hft hw (by rw [ao_set hA, hS]) k
theorem M_putF (hA : A.length = n) {C : String} {TC : u_T} {N ci index : Nat} {fs fs' : List Value} (hd : decode b pc = .ok (.putfield index, 3)) (f : Nat) (hc : vwCl[ci]? = some (C, TC, N)) (hin : ∀ w ∈ u_ws C TC N, w ∈ lw_gd) (hf : f < N) (hN : fs.length = N) (hdc : (TC f).1 = C) (hoC : C = own) (hoL : own ≠ RL) {v : Value} {ty : FieldType} (ty0 : Nat → FieldType) (hty : ∀ k, k < N → parseFieldDescriptor (TC k).2.2.1 = some (ty0 k)) (hnm : ∀ a, a < N → ∀ b, b < N → a ≠ b → (TC a).2.1 ≠ (TC b).2.1) (hfin : (TC f).2.2.2 = true) (hpd : parseFieldDescriptor (TC f).2.2.1 = some ty) (hnr : narrow ty v = v) (hft : fits ty v = true) (hw : Cond.fieldLink own index C (TC f).2.1 (TC f).2.2.1 ∈ lw_gd) (hS : fs.set f v = fs') (k : NJ g b own nL d (pc + 3) lv st (A ++ .inr (ci, fs') :: B) mc ms T2 E) : NJ g b own nL d pc lv (v :: .ref (g.1 + n) :: st) (A ++ .inr (ci, fs) :: B) mc ms T2 E :=
  N_putF hd f hc hin (ao_get hA) hf hN hdc hoC hoL ty0 hty hnm hfin hpd hnr hft hw (by rw [ao_set hA, hS]) k
theorem M_newa (hA : A.length = n) (hB : B.length = nb) {atype : ArrayType} {ty : FieldType} (t : Nat) {cA : ClassId} (hty : newarray.typeOf atype = ty) (ht : (tyL g)[t]? = some (cA, ty)) {x : Int32} {N : Nat} {a0 : vp_A} (ha : ∀ cA : ClassId, vp_cell cA a0 = arrV cA N (fun _ => defaultValue ty)) (hn : ¬ x < 0) (hN : x.toNatClampNeg = N) (hby : N * componentBytes ty ≤ 536870912) (hw : Cond.arrayClass ty ∈ lw_gd) (hd : decode b pc = .ok (.newarray atype, 2)) (hm : 1 + mc' ≤ mc) (hs : N + ms' ≤ ms) (k : NJ g b own nL d (pc + 2) lv (.ref (g.1 + (n + 1 + nb)) :: st) (A ++ o :: (B ++ [.inl (cA, a0)])) mc' ms' T2 E) : NJ g b own nL d pc lv (.int x :: st) (A ++ o :: B) mc ms T2 E :=
  N_newa t hty ht ha hn hN hby hw hd hm hs (by rw [ao_len hA hB, ao_app]; exact k)
theorem M_multi (hA : A.length = n) (hB : B.length = nb) {index tA tC : Nat} {nm : String} {ty : FieldType} (hR : AR g tA tC nm ty) {y x : Int32} {N M : Nat} {a0 : vp_A} (hI : ∀ cA : ClassId, vp_cell cA a0 = arrV cA M (fun _ => defaultValue ty)) (hn : ¬ y < 0) (hx : ¬ x < 0) (hN : y.toNatClampNeg = N) (hM : x.toNatClampNeg = M) (hb1 : N * 4 ≤ 536870912) (hb2 : M * componentBytes ty ≤ 536870912) (hb3 : M ≤ 536870912) (hdf : fits ty (defaultValue ty) = true) (hcl : Cond.classLink own index nm ∈ lw_gd) (hd : decode b pc = .ok (.multianewarray index 2, 4)) (hm : 1 + N + mc' ≤ mc) (hs : N + N * M + ms' ≤ ms)
    (k : NJ g b own nL d (pc + 4) lv (.ref (g.1 + (n + 1 + nb)) :: st) (A ++ o :: (B ++ (.inl (g.2.2.1 tA, N, .inr (.inr (.inr (.inr (fun j => some (g.1 + (n + 1 + nb + 1 + j))))))) :: List.replicate N (.inl (g.2.2.1 tC, a0))))) mc' ms' T2 E) : NJ g b own nL d pc lv (.int x :: .int y :: st) (A ++ o :: B) mc ms T2 E :=
  N_multi hR hI hn hx hN hM hb1 hb2 hb3 hdf hcl hd hm hs (by rw [ao_len hA hB, ao_app]; exact k)
theorem M_new (hA : A.length = n) (hB : B.length = nb) {C : String} {TC : u_T} {N ci index : Nat} {fs : List Value} (hc : vwCl[ci]? = some (C, TC, N)) (hin : ∀ w ∈ u_ws C TC N, w ∈ lw_gd) (ty : Nat → FieldType) (hty : ∀ k, k < N → parseFieldDescriptor (TC k).2.2.1 = some (ty k)) (hcl : Cond.classLink own index C ∈ lw_gd) (hinst : Cond.instantiable C N ∈ lw_gd) (hini : Cond.initialized C ∈ lw_gd) (hfs : ∀ j, j < N → defaultValue (ty j) = vp_V fs j) (hd : decode b pc = .ok (.new index, 3)) (hm : 1 + mc' ≤ mc) (hs : N + ms' ≤ ms) (k : NJ g b own nL d (pc + 3) lv (.ref (g.1 + (n + 1 + nb)) :: st) (A ++ o :: (B ++ [.inr (ci, fs)])) mc' ms' T2 E) : NJ g b own nL d pc lv st (A ++ o :: B) mc ms T2 E :=
  N_new hc hin ty hty hcl hinst hini hfs hd hm hs (by rw [ao_len hA hB, ao_app]; exact k)
theorem M_iastL (hA : A.length = n) (hB : B.length = nb) {len jn : Nat} {F : Nat → Int32} {x j : Int32} (hd : decode b pc = .ok (.iastore, 1)) (hin : vp_in j len) (hj : j.toNatClampNeg = jn) (k : NJ g b own nL d (pc + 1) lv st (A ++ o :: (B ++ [.inl (g.2.2.1 0, len, .inl (upd F jn x))])) mc ms T2 E) : NJ g b own nL d pc lv (.int x :: .int j :: .ref (g.1 + (n + 1 + nb)) :: st) (A ++ o :: (B ++ [.inl (g.2.2.1 0, len, .inl F)])) mc ms T2 E := by
  have l := ao_len (o := o) hA hB
  have e : ∀ y : va_E, A ++ o :: (B ++ [y]) = (A ++ o :: B) ++ y :: [] := fun y => by rw [ao_app]
  rw [e] at k ⊢
  subst hj
  exact N_iast hd (ao_get l) hin (ao_set l) k
theorem M_iast0 (hA : A.length = n) {B' : List va_E} {len jn : Nat} {F : Nat → Int32} {x j : Int32} (hB : B = .inl (g.2.2.1 0, len, .inl F) :: B') (hd : decode b pc = .ok (.iastore, 1)) (hin : vp_in j len) (hj : j.toNatClampNeg = jn) (k : NJ g b own nL d (pc + 1) lv st (A ++ o :: .inl (g.2.2.1 0, len, .inl (upd F jn x)) :: B') mc ms T2 E) : NJ g b own nL d pc lv (.int x :: .int j :: .ref (g.1 + (n + 1 + 0)) :: st) (A ++ o :: B) mc ms T2 E := by
  have e : ∀ y : va_E, A ++ o :: y :: B' = (A ++ [o]) ++ y :: B' := fun y => by rw [List.append_assoc]; rfl
  have l : (A ++ [o]).length = n + 1 + 0 := by rw [List.length_append, hA]; rfl
  rw [hB]
  rw [e] at k ⊢
  subst hj
  exact N_iast hd (ao_get l) hin (ao_set l) k
theorem M_callI (hA : A.length = n) (hB : B.length = nb) {y : MethodName} {bb : ByteArray} {mL d' index nn : Nat} {As : List Value} {o0 o1 : va_E} {B1 : List va_E} {mc1 ms1 : Nat} (hd : decode b pc = .ok (.invokespecial index, 3)) (hM : ∀ A1 : List va_E, A1.length = n + 1 + nb → NC g y bb mL d' (.ref (g.1 + (n + 1 + nb)) :: As) (A1 ++ o0 :: []) (A1 ++ o1 :: B1) mc1 ms1) (hcode : Cond.code y bb mL none ∈ lw_gd) (hlink : Cond.methodLink own index y ∈ lw_gd) (hini : Cond.initialized y.cls ∈ lw_gd) (hin : Cond.instanceMethod y ∈ lw_gd) (hyn : y.name = "<init>") (hds : y.cls ≠ "java/lang/invoke/MethodHandle" ∧ y.cls ≠ "java/lang/invoke/VarHandle" ∧ (parseMethodDescriptor y.desc).map (fun d => d.parameters.length) = some nn) (hn : As.length = nn) (h1 : d' + 1 ≤ d) (h2 : mL ≤ 13) (hrm : (st.map fun v => v.category).sum ≤ 8) {st0 : List Value} (hs0 : st0 = As.reverse ++ .ref (g.1 + (n + 1 + nb)) :: st)
    (hm : mc1 + mc' ≤ mc) (hs : ms1 + ms' ≤ ms) (k : NJ g b own nL d (pc + 3) lv st (A ++ o :: (B ++ o1 :: B1)) mc' ms' T2 E) : NJ g b own nL d pc lv st0 (A ++ o :: (B ++ [o0])) mc ms T2 E := by
  have h := hM (A ++ o :: B) (ao_len hA hB)
  rw [ao_app, ao_app] at h
  exact N_callI hd h hcode hlink hini hin hyn hds hn h1 h2 hrm hs0 hm hs k
theorem M_callN (hA : A.length = n) (hB : B.length = nb) {y : MethodName} {host : String} {bb : ByteArray} {mL d' index nn : Nat} {As : List Value} {o0 o1 : va_E} {B1 : List va_E} {mc1 ms1 : Nat} (hd : decode b pc = .ok (.invokespecial index, 3)) (hM : ∀ A1 : List va_E, A1.length = n + 1 + nb → NC g y bb mL d' (.ref (g.1 + (n + 1 + nb)) :: As) (A1 ++ o0 :: []) (A1 ++ o1 :: B1) mc1 ms1) (hcode : Cond.code y bb mL none ∈ lw_gd) (hlink : ∀ U : State, NN U → va_Nw (Cond.methodLinkNest own index y host) U) (hini : Cond.initialized y.cls ∈ lw_gd) (hin : Cond.instanceMethod y ∈ lw_gd) (hyn : y.name = "<init>") (hds : y.cls ≠ "java/lang/invoke/MethodHandle" ∧ y.cls ≠ "java/lang/invoke/VarHandle" ∧ (parseMethodDescriptor y.desc).map (fun d => d.parameters.length) = some nn) (hn : As.length = nn) (h1 : d' + 1 ≤ d) (h2 : mL ≤ 13) (hrm : (st.map fun v => v.category).sum ≤ 8) {st0 : List Value} (hs0 : st0 = As.reverse ++ .ref (g.1 + (n + 1 + nb)) :: st)
    (hm : mc1 + mc' ≤ mc) (hs : ms1 + ms' ≤ ms) (k : NJ g b own nL d (pc + 3) lv st (A ++ o :: (B ++ o1 :: B1)) mc' ms' T2 E) : NJ g b own nL d pc lv st0 (A ++ o :: (B ++ [o0])) mc ms T2 E := by
  have h := hM (A ++ o :: B) (ao_len hA hB)
  rw [ao_app, ao_app] at h
  exact N_callN hd h hcode hlink hini hin hyn hds hn h1 h2 hrm hs0 hm hs k
end NR3
theorem ow_int : Cond.arrayClass .int ∈ lw_gd := by decide +kernel
theorem ow_bool : Cond.arrayClass .boolean ∈ lw_gd := by decide +kernel
theorem ow_long : Cond.arrayClass .long ∈ lw_gd := by decide +kernel
theorem ow_obj1 : Cond.instanceMethod objectInit ∈ lw_gd := by decide +kernel
theorem ow_obj2 : Cond.code objectInit ⟨#[0xb1]⟩ 1 none ∈ lw_gd := by decide +kernel
