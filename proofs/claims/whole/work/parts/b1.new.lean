/-! the constructors: a world that grows -/
def pw (g : Gv) (T : List va_E) : va_W := T.mapIdx (fun i e => (g.1 + i, e))
theorem pw_get (g : Gv) {T : List va_E} {i : Nat} {e : va_E} (h : T[i]? = some e) : (pw g T)[i]? = some (g.1 + i, e) := by
  unfold pw
  rw [List.getElem?_mapIdx, h]; rfl
theorem pw_of (g : Gv) {T : List va_E} {k : Nat} {q : Nat × va_E} (h : (pw g T)[k]? = some q) : q.1 = g.1 + k ∧ T[k]? = some q.2 := by
  unfold pw at h
  rw [List.getElem?_mapIdx] at h
  cases e : T[k]? with
  | none => rw [e] at h; exact absurd h (by simp)
  | some x => rw [e] at h; cases h; exact ⟨rfl, rfl⟩
theorem pw_app (g : Gv) (T : List va_E) (e : va_E) : pw g (T ++ [e]) = pw g T ++ [(g.1 + T.length, e)] := by
  unfold pw
  exact List.mapIdx_concat
theorem pw_set (g : Gv) (T : List va_E) (i : Nat) (e : va_E) : (pw g T).set i (g.1 + i, e) = pw g (T.set i e) := by
  apply List.ext_getElem?
  intro j
  unfold pw
  rw [List.getElem?_mapIdx, List.getElem?_set, List.getElem?_mapIdx, List.getElem?_set, List.length_mapIdx]
  by_cases q : i = j
  · subst q
    rw [if_pos rfl, if_pos rfl]
    by_cases q2 : i < T.length
    · rw [if_pos q2, if_pos q2]; rfl
    · rw [if_neg q2, if_neg q2]; rfl
  · rw [if_neg q, if_neg q]
theorem pw_D (g : Gv) (T : List va_E) : va_D (Ag g) (pw g T) := by
  refine ⟨fun i j p q hi hj e => ?_, fun k q hq => ?_⟩
  · have h1 := (pw_of g hi).1
    have h2 := (pw_of g hj).1
    omega
  · show g.1 ≤ q.1
    rw [(pw_of g hq).1]; omega
/-- what the tables say of the arrays of arrays -/
def AO (g : Gv) (U : State) : Prop := (∃ kA : Class, U.vm.classes[g.2.2.1 3]? = some kA ∧ kA.kind = .array (g.2.2.1 0) (.array .int)) ∧ ∃ kA : Class, U.vm.classes[g.2.2.1 4]? = some kA ∧ kA.kind = .array (g.2.2.1 2) (.array .long)
theorem AO.moved {g : Gv} {u U : State} (hvm : u.vm.Alike U.vm) (h : AO g u) : AO g U := by
  obtain ⟨⟨k1, a1, b1⟩, k2, a2, b2⟩ := h
  obtain ⟨k1', c1, e1⟩ := hvm.2.2 _ _ a1
  obtain ⟨k2', c2, e2⟩ := hvm.2.2 _ _ a2
  exact ⟨⟨k1', c1, by rw [e1]; exact b1⟩, k2', c2, by rw [e2]; exact b2⟩
/-- the nest mates' words of the constructors -/
def NN (U : State) : Prop := va_Nw (.methodLinkNest RX8 11 yX4_init RX8) U ∧ va_Nw (.methodLinkNest RX8 27 yX3_init RX8) U ∧ va_Nw (.methodLinkNest RX8 41 yX1_init RX8) U ∧ va_Nw (.methodLinkNest RX8 48 yX6_init RX8) U
def EV (g : Gv) (U : State) : Prop := va_K g.2.2.2 vwCl (tyL g) U ∧ AO g U ∧ NN U
theorem EV.warm {g : Gv} {u U : State} (hW : u.WarmedH U.vm) (h : EV g u) : EV g U := ⟨va_K.moved hW.alike h.1, h.2.1.moved hW.alike, h.2.2.1.warmM hW, h.2.2.2.1.warmM hW, h.2.2.2.2.1.warmM hW, h.2.2.2.2.2.warmM hW⟩
theorem EV.same {g : Gv} {u U : State} (e : u.vm = U.vm) (h : EV g u) : EV g U := ⟨va_K.moved (e ▸ Vm.Alike.refl u.vm) h.1, h.2.1.moved (e ▸ Vm.Alike.refl u.vm), h.2.2.1.same rfl e, h.2.2.2.1.same rfl e, h.2.2.2.2.1.same rfl e, h.2.2.2.2.2.same rfl e⟩
def NX (g : Gv) (b : ByteArray) (own : String) (nL d : Nat) (p : Program) (R : Room) (s : State) (m : MethodId) (args : Array Value) (meth : Method) (c : Code) : Prop :=
  p.tables.exec = Jvm.exec ∧ c.code = b ∧ c.maxLocals = nL ∧ s.vm.findClass own = some m.cls ∧ (∀ w ∈ lw_gd, w.before args s = true) ∧ EV g s ∧ d ≤ R.frames ∧ 32 * d ≤ R.locals ∧ (own ≠ RL → meth.name = "<init>")
def GW (g : Gv) (T : List va_E) (s : State) (H : Heap) (locs : List Loc) : Prop := va_P g.2.2.2 vwCl (pw g T) H ∧ H.size = g.1 + T.length ∧ va_S (Ag g) s.heap H locs ∧ g.1 ≤ s.heap.size
/-- THE JUDGEMENT: from here, over the world T, at most mc cells of ms slots are made, and the world is T2 at E -/
def NJ (g : Gv) (b : ByteArray) (own : String) (nL d pc : Nat) (lv : List (Nat × Value)) (st : List Value) (T : List va_E) (mc ms : Nat) (T2 : List va_E) (E : Nat → Array Slot → List Value → Prop) : Prop :=
  ∀ (p : Program) (l : Launch) (e : Env) (R : Room) (s : State) (m : MethodId) (args : Array Value) (below : List Frame) (meth : Method) (c : Code) (H : Heap) (locs : List Loc) (ls : Array Slot) (cells slots cT sT : Nat) (Post : State → Prop),
    NX g b own nL d p R s m args meth c → GW g T s H locs → lv_has ls nL lv → cells + mc ≤ cT → slots + ms ≤ sT → cT ≤ R.cells → sT ≤ R.slots →
    (∀ (H' : Heap) (locs' : List Loc) (ls' : Array Slot) (pc' : Nat) (st' : List Value), GW g T2 s H' locs' → E pc' ls' st' → W p l e R s m args below meth c H' locs' cT sT Post (F0 m pc' ls' st')) →
    W p l e R s m args below meth c H locs cells slots Post (F0 m pc ls st)
def RN (d mc ms : Nat) : Room := { frames := d, cells := mc, slots := ms, locals := 32 * d }
def NPc (g : Gv) (As : List Value) (T : List va_E) : Array Value → State → Prop := fun v U => v = As.toArray ∧ va_P g.2.2.2 vwCl (pw g T) U.heap ∧ U.heap.size = g.1 + T.length ∧ EV g U
def NQc (g : Gv) (T : List va_E) : Array Value → State → Outcome → State → Prop := fun _ st oc t => oc = .returned none ∧ va_P g.2.2.2 vwCl (pw g T) t.heap ∧ t.heap.size = g.1 + T.length ∧ va_F (Ag g) st t
/-- THE CONTRACT of a constructor -/
def NC (g : Gv) (y : MethodName) (b : ByteArray) (mL d : Nat) (As : List Value) (T T2 : List va_E) (mc ms : Nat) : Prop := ∀ l : Launch, Met l y (Cond.code y b mL none :: lw_gd) (RN d mc ms) (NPc g As T) (NQc g T2) mc ms (Ag g)
def NE (b : ByteArray) : Nat → Array Slot → List Value → Prop := fun pc _ st => st = [] ∧ decode b pc = .ok (.return_, 1)
theorem NPc.blind {g : Gv} {As : List Value} {T : List va_E} : FrameBlind (NPc g As T) := by
  intro a U f mk h
  obtain ⟨h1, h2, h3, h4⟩ := h
  exact ⟨h1, h2, h3, EV.same (u := U) (U := U.calling f mk a) rfl h4⟩
set_option maxHeartbeats 4000000 in
theorem NC.of {g : Gv} {y : MethodName} {b : ByteArray} {mL d : Nat} {As : List Value} {T T2 : List va_E} {mc ms : Nat} (hy : plainName y.cls = true) (hi : y.name = "<init>") (hA : (lg_sl As).length ≤ mL)
    (h : NJ g b y.cls mL d 0 (lv_args 0 As) [] T mc ms T2 (NE b)) : NC g y b mL d As T T2 mc ms := by
  intro l
  refine Met.ofW (cc := b) (maxL := mL) (ret := none) hy rfl ?_
  intro p e s m args below meth c s₁ B hml hv
  obtain ⟨rfl, hP, hZ, hE⟩ := hv
  have hts := atoms_spec (ws := Cond.code y b mL none :: lw_gd) B.pre
  have hown : s.vm.findClass y.cls = some m.cls := findClass_of_methodNamed B.named
  have hin : meth.name = "<init>" := ((name_of_methodNamed B.named B.method).1).trans hi
  have hlocks := B.notSynchronized
  have hl := lv_entry As (n := mL) hA
  rw [lg_entry_eq]
  generalize (lg_sl As ++ List.replicate (mL - (lg_sl As).length) Slot.unset).toArray = ls at hl ⊢
  refine h p l e _ s m _ below meth c s.heap [] ls 0 0 mc ms _ ⟨B.exec, B.bytes, hml, hown, fun w hw => hts w (List.mem_cons_of_mem _ hw), hE, Nat.le_refl _, Nat.le_refl _, fun _ => hin⟩ ⟨hP, hZ, va_S.rf, by omega⟩ hl (by omega) (by omega) (Nat.le_refl _) (Nat.le_refl _) ?_
  intro H' locs' ls' pc' st' hW hR
  obtain ⟨rfl, hd⟩ := hR
  exact W.vret B.exec B.bytes B.returns (fun t ht _ => ⟨rfl, by rw [ht]; exact hW.1, by rw [ht]; exact hW.2.1, hW.2.2.1.F ht⟩) hW.2.2.1.2.2 hd hlocks
section NR
variable {g : Gv} {b : ByteArray} {own : String} {nL d pc : Nat} {lv lv' : List (Nat × Value)} {st : List Value} {T T2 T' : List va_E} {mc ms mc' ms' : Nat} {E : Nat → Array Slot → List Value → Prop}
theorem N_end (hT : T = T2) (hE : ∀ ls : Array Slot, lv_has ls nL lv → E pc ls st) : NJ g b own nL d pc lv st T mc ms T2 E := by
  intro p l e R s m args below meth c H locs ls cells slots cT sT Post C D hl h1 h2 h3 h4 k
  subst hT
  exact W.widen (k := cT) (n := sT) (by omega) (by omega) (k H locs ls pc st D (hE ls hl))
theorem N_iconst {n : Int} {v : Int32} (hd : decode b pc = .ok (.iconst n, 1)) (hv : Int32.ofInt n = v) (k : NJ g b own nL d (pc + 1) lv (.int v :: st) T mc ms T2 E) : NJ g b own nL d pc lv st T mc ms T2 E := by
  intro p l e R s m args below meth c H locs ls cells slots cT sT Post C D hl h1 h2 h3 h4 hE
  exact lv_iconst C.1 C.2.1 hd hv (k p l e R s m args below meth c H locs ls cells slots cT sT Post C D hl h1 h2 h3 h4 hE)
theorem N_bipush {n : Int} {v : Int32} (hd : decode b pc = .ok (.bipush n, 2)) (hv : (Int8.ofInt n).toInt32 = v) (k : NJ g b own nL d (pc + 2) lv (.int v :: st) T mc ms T2 E) : NJ g b own nL d pc lv st T mc ms T2 E := by
  intro p l e R s m args below meth c H locs ls cells slots cT sT Post C D hl h1 h2 h3 h4 hE
  exact lv_bipush C.1 C.2.1 hd hv (k p l e R s m args below meth c H locs ls cells slots cT sT Post C D hl h1 h2 h3 h4 hE)
theorem N_sipush {n : Int} {v : Int32} (hd : decode b pc = .ok (.sipush n, 3)) (hv : (Int16.ofInt n).toInt32 = v) (k : NJ g b own nL d (pc + 3) lv (.int v :: st) T mc ms T2 E) : NJ g b own nL d pc lv st T mc ms T2 E := by
  intro p l e R s m args below meth c H locs ls cells slots cT sT Post C D hl h1 h2 h3 h4 hE
  exact lv_sipush C.1 C.2.1 hd hv (k p l e R s m args below meth c H locs ls cells slots cT sT Post C D hl h1 h2 h3 h4 hE)
theorem N_ldc {index : Nat} {v : Int32} (hd : decode b pc = .ok (.ldc index, 2)) (hw : Cond.constant own index v ∈ lw_gd) (k : NJ g b own nL d (pc + 2) lv (.int v :: st) T mc ms T2 E) : NJ g b own nL d pc lv st T mc ms T2 E := by
  intro p l e R s m args below meth c H locs ls cells slots cT sT Post C D hl h1 h2 h3 h4 hE
  exact lv_ldc C.1 C.2.1 C.2.2.2.1 (C.2.2.2.2.1 _ hw) hd (k p l e R s m args below meth c H locs ls cells slots cT sT Post C D hl h1 h2 h3 h4 hE)
theorem N_iload_n {n : Fin 4} {i : Nat} {x : Int32} (hd : decode b pc = .ok (.iload_n n, 1)) (hi : (n : Nat) = i) (q : Nat) (hq : lv[q]? = some (i, .int x)) (k : NJ g b own nL d (pc + 1) lv (.int x :: st) T mc ms T2 E) : NJ g b own nL d pc lv st T mc ms T2 E := by
  intro p l e R s m args below meth c H locs ls cells slots cT sT Post C D hl h1 h2 h3 h4 hE
  exact lv_iload_n C.1 C.2.1 hd hi (lv_at hl q hq) (k p l e R s m args below meth c H locs ls cells slots cT sT Post C D hl h1 h2 h3 h4 hE)
theorem N_aload_n {n : Fin 4} {i : Nat} {x : Nat} (hd : decode b pc = .ok (.aload_n n, 1)) (hi : (n : Nat) = i) (q : Nat) (hq : lv[q]? = some (i, .ref x)) (k : NJ g b own nL d (pc + 1) lv (.ref x :: st) T mc ms T2 E) : NJ g b own nL d pc lv st T mc ms T2 E := by
  intro p l e R s m args below meth c H locs ls cells slots cT sT Post C D hl h1 h2 h3 h4 hE
  exact lv_aload_n C.1 C.2.1 hd hi (lv_at hl q hq) (k p l e R s m args below meth c H locs ls cells slots cT sT Post C D hl h1 h2 h3 h4 hE)
theorem N_istore_n {n : Fin 4} {i : Nat} {x : Int32} (hd : decode b pc = .ok (.istore_n n, 1)) (hi : (n : Nat) = i) (hn : i < nL) (ks : List Nat) (hs : lv_pick ((i, Value.int x) :: lv.filter (fun q => !(q.1 == i) && !(q.1 + 1 == i && q.2.category == 2))) ks = lv') (k : NJ g b own nL d (pc + 1) lv' st T mc ms T2 E) : NJ g b own nL d pc lv (.int x :: st) T mc ms T2 E := by
  intro p l e R s m args below meth c H locs ls cells slots cT sT Post C D hl h1 h2 h3 h4 hE
  exact lv_istore_n C.1 C.2.1 hd hi hl hn rfl (fun ls1 q1 => by have q1 := lv_sub q1 ks hs; exact k p l e R s m args below meth c H locs ls1 cells slots cT sT Post C D q1 h1 h2 h3 h4 hE)
theorem N_astore_n {n : Fin 4} {i : Nat} {x : Nat} (hd : decode b pc = .ok (.astore_n n, 1)) (hi : (n : Nat) = i) (hn : i < nL) (ks : List Nat) (hs : lv_pick ((i, Value.ref x) :: lv.filter (fun q => !(q.1 == i) && !(q.1 + 1 == i && q.2.category == 2))) ks = lv') (k : NJ g b own nL d (pc + 1) lv' st T mc ms T2 E) : NJ g b own nL d pc lv (.ref x :: st) T mc ms T2 E := by
  intro p l e R s m args below meth c H locs ls cells slots cT sT Post C D hl h1 h2 h3 h4 hE
  exact lv_astore_n C.1 C.2.1 hd hi hl hn rfl (fun ls1 q1 => by have q1 := lv_sub q1 ks hs; exact k p l e R s m args below meth c H locs ls1 cells slots cT sT Post C D q1 h1 h2 h3 h4 hE)
theorem N_iinc {i q : Nat} {n : Int} {x v : Int32} (hd : decode b pc = .ok (.iinc i n, 3)) (hq : lv[q]? = some (i, .int x)) (hv : x + Int32.ofInt n = v) (hn : i < nL) (ks : List Nat) (hs : lv_pick ((i, Value.int v) :: lv.filter (fun q => !(q.1 == i) && !(q.1 + 1 == i && q.2.category == 2))) ks = lv') (k : NJ g b own nL d (pc + 3) lv' st T mc ms T2 E) : NJ g b own nL d pc lv st T mc ms T2 E := by
  intro p l e R s m args below meth c H locs ls cells slots cT sT Post C D hl h1 h2 h3 h4 hE
  exact lv_iinc C.1 C.2.1 hd hl hq hv hn rfl (fun ls1 q1 => by have q1 := lv_sub q1 ks hs; exact k p l e R s m args below meth c H locs ls1 cells slots cT sT Post C D q1 h1 h2 h3 h4 hE)
theorem N_dup {v : Value} (hd : decode b pc = .ok (.dup, 1)) (hv : v.category = 1) (k : NJ g b own nL d (pc + 1) lv (v :: v :: st) T mc ms T2 E) : NJ g b own nL d pc lv (v :: st) T mc ms T2 E := by
  intro p l e R s m args below meth c H locs ls cells slots cT sT Post C D hl h1 h2 h3 h4 hE
  exact lv_dup C.1 C.2.1 hd hv (k p l e R s m args below meth c H locs ls cells slots cT sT Post C D hl h1 h2 h3 h4 hE)
theorem N_goto {off : Int} {tgt : Nat} (hd : decode b pc = .ok (.goto off, 3)) (ht : (pc : Int) + off = (tgt : Int)) (k : NJ g b own nL d tgt lv st T mc ms T2 E) : NJ g b own nL d pc lv st T mc ms T2 E := by
  intro p l e R s m args below meth c H locs ls cells slots cT sT Post C D hl h1 h2 h3 h4 hE
  exact lv_goto C.1 C.2.1 hd ht (k p l e R s m args below meth c H locs ls cells slots cT sT Post C D hl h1 h2 h3 h4 hE)
theorem N_icmp_ge {x y : Int32} {off : Int} {tgt : Nat} (hd : decode b pc = .ok (.if_icmp .ge off, 3)) (ht : (pc : Int) + off = (tgt : Int)) (kt : y ≤ x → NJ g b own nL d tgt lv st T mc ms T2 E) (kf : ¬ y ≤ x → NJ g b own nL d (pc + 3) lv st T mc ms T2 E) : NJ g b own nL d pc lv (.int y :: .int x :: st) T mc ms T2 E := by
  intro p l e R s m args below meth c H locs ls cells slots cT sT Post C D hl h1 h2 h3 h4 hE
  exact lv_icmp_ge C.1 C.2.1 hd ht (fun q => kt q p l e R s m args below meth c H locs ls cells slots cT sT Post C D hl h1 h2 h3 h4 hE) (fun q => kf q p l e R s m args below meth c H locs ls cells slots cT sT Post C D hl h1 h2 h3 h4 hE)
theorem N_obj {idx a : Nat} (hd : decode b pc = .ok (.invokespecial idx, 3)) (hw1 : Cond.methodLink own idx objectInit ∈ lw_gd) (hw2 : Cond.instanceMethod objectInit ∈ lw_gd) (hw3 : Cond.code objectInit ⟨#[0xb1]⟩ 1 none ∈ lw_gd) (hd1 : 1 ≤ d) (k : NJ g b own nL d (pc + 3) lv [] T mc ms T2 E) : NJ g b own nL d pc lv [.ref a] T mc ms T2 E := by
  intro p l e R s m args below meth c H locs ls cells slots cT sT Post C D hl h1 h2 h3 h4 hE
  obtain ⟨x1, x2, x3, x4, x5, x6, x7, x8, x9⟩ := id C
  refine W.objInit x1 x2 x4 (x5 _ hw1) (x5 _ hw2) (x5 _ hw3) rfl (by rw [x3]; exact hl.1) rfl hd (by omega) ?_ ?_
  · show 2 * 0 + 0 + 12 ≤ R.locals
    omega
  · exact k p l e R s m args below meth c H locs ls cells slots cT sT Post C D hl h1 h2 h3 h4 hE
end NR
