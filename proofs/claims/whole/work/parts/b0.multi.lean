/-! an array of arrays is made: cell by cell -/
def mfO (c : ClassId) (N h0 i : Nat) : Cell := arrV c N (fun j => if j < i then .ref (h0 + 1 + j) else .null)
theorem arrV_cg (c : ClassId) (N : Nat) {f f' : Nat → Value} (h : ∀ j, j < N → f j = f' j) : arrV c N f = arrV c N f' := by
  unfold arrV
  congr 1
  congr 1
  funext j
  exact h j.val j.isLt
theorem mfO_step (c : ClassId) (N h0 i : Nat) : (mfO c N h0 i).setSlot i (.ref (h0 + 1 + i)) = mfO c N h0 (i + 1) := by
  unfold mfO
  rw [arrV_store]
  refine arrV_cg c N (fun j _ => ?_)
  unfold updV
  by_cases q : j = i
  · subst q; rw [if_pos rfl, if_pos (by omega)]
  · rw [if_neg q]
    show (if j < i then Value.ref (h0 + 1 + j) else Value.null) = _
    by_cases q2 : j < i
    · rw [if_pos q2, if_pos (by omega)]
    · rw [if_neg q2, if_neg (by omega)]
def mfS (s : State) (c comp : ClassId) (N M : Nat) (dv : Value) : Nat → State
  | 0 => s.pushCell (mfO c N s.heap.size 0)
  | i + 1 => ((mfS s c comp N M dv i).pushCell (arrV comp M (fun _ => dv))).setCell s.heap.size ((mfO c N s.heap.size i).setSlot i (.ref (s.heap.size + 1 + i)))
theorem mfS_facts (s : State) (c comp : ClassId) (N M : Nat) (dv : Value) : ∀ i, (mfS s c comp N M dv i).heap.size = s.heap.size + 1 + i ∧ (mfS s c comp N M dv i).vm = s.vm ∧ (mfS s c comp N M dv i).slotsUsed = s.slotsUsed + N + i * M ∧ (mfS s c comp N M dv i).heap[s.heap.size]? = some (mfO c N s.heap.size i) ∧ (∀ a, a < s.heap.size → (mfS s c comp N M dv i).heap[a]? = s.heap[a]?) ∧ ∀ j, j < i → (mfS s c comp N M dv i).heap[s.heap.size + 1 + j]? = some (arrV comp M (fun _ => dv))
  | 0 => by
    have e : (mfS s c comp N M dv 0).heap = s.heap.push (mfO c N s.heap.size 0) := rfl
    refine ⟨by rw [e]; simp, rfl, ?_, by rw [e]; simp, fun a ha => ?_, fun j hj => by omega⟩
    · show s.slotsUsed + (mfO c N s.heap.size 0).slots.size = _
      unfold mfO
      rw [arrV_size]; omega
    · rw [e, Array.getElem?_push, if_neg (by omega)]
  | i + 1 => by
    obtain ⟨a1, a2, a3, a4, a5, a6⟩ := mfS_facts s c comp N M dv i
    have e : (mfS s c comp N M dv (i + 1)).heap = ((mfS s c comp N M dv i).heap.push (arrV comp M (fun _ => dv))).setIfInBounds s.heap.size (mfO c N s.heap.size (i + 1)) := by
      rw [← mfO_step]; rfl
    refine ⟨by rw [e]; simp [a1]; omega, a2, ?_, ?_, fun a ha => ?_, fun j hj => ?_⟩
    · show (mfS s c comp N M dv i).slotsUsed + (arrV comp M (fun _ => dv)).slots.size = _
      rw [arrV_size, a3, Nat.succ_mul]; omega
    · rw [e, Array.getElem?_setIfInBounds, if_pos rfl, if_pos (by simp [a1]; omega)]
    · rw [e, Array.getElem?_setIfInBounds, if_neg (by omega), Array.getElem?_push, if_neg (by omega)]
      exact a5 a ha
    · rw [e, Array.getElem?_setIfInBounds, if_neg (by omega), Array.getElem?_push]
      by_cases q : j = i
      · rw [if_pos (by omega)]
      · rw [if_neg (by omega)]
        exact a6 j (by omega)
theorem mf_stand {p : Program} {l : Launch} {e : Env} {R : Room} {s : State} {m : MethodId} {args : Array Value} {below : List Frame} {meth : Method} {c : Code} {T : State} {locs : List Loc} {cells slots : Nat} (X : Stand p l e R s m args below meth c T locs cells slots) (cA comp : ClassId) (N M : Nat) (dv : Value) : ∀ i, ∃ L : List Loc, (∀ q ∈ L, q ∈ locs ∨ q.base = T.heap.size) ∧ Stand p l e R s m args below meth c (mfS T cA comp N M dv i) L (cells + 1 + i) (slots + N + i * M)
  | 0 => by
    have h := X.pushed (mfO cA N T.heap.size 0)
    have e1 : (mfO cA N T.heap.size 0).slots.size = N := by unfold mfO; rw [arrV_size]
    rw [e1] at h
    refine ⟨locs, fun q hq => Or.inl hq, ?_⟩
    rw [Nat.zero_mul]
    exact h
  | i + 1 => by
    obtain ⟨L, hL, Xi⟩ := mf_stand X cA comp N M dv i
    obtain ⟨f1, f2, f3, f4, f5, f6⟩ := mfS_facts T cA comp N M dv i
    have hcell : ((mfS T cA comp N M dv i).pushCell (arrV comp M (fun _ => dv))).heap[T.heap.size]? = some (mfO cA N T.heap.size i) := by
      show ((mfS T cA comp N M dv i).heap.push _)[T.heap.size]? = _
      rw [Array.getElem?_push, if_neg (by omega)]; exact f4
    have h := (Xi.pushed (arrV comp M (fun _ => dv))).stored hcell i (.ref (T.heap.size + 1 + i))
    rw [arrV_size] at h
    refine ⟨L ++ [⟨T.heap.size, i⟩], fun q hq => ?_, ?_⟩
    · rcases List.mem_append.mp hq with q1 | q1
      · exact hL q q1
      · rw [List.mem_singleton.mp q1]; exact Or.inr rfl
    · rw [show slots + N + (i + 1) * M = slots + N + i * M + M by rw [Nat.succ_mul]; omega]
      exact h
theorem mk_row {E : CtlPost} {e : Env} {d : Bool} {acts : List Action} {s : State} {comp cc : ClassId} {kc : Class} {type : FieldType} {m : Int32} (hkc : s.vm.classes[comp]? = some kc) (hkindc : kc.kind = .array cc type) (hm : ¬ m < 0)
    (hl2 : ¬ m.toNatClampNeg > e.platform.arrayLengthLimit) (hh2 : ¬ m.toNatClampNeg * componentBytes type > e.platform.maxHeapBytes) (hdf : fits type (defaultValue type) = true)
    (h1 : s.heap.size < e.platform.maxCells) (h2 : s.slotsUsed + m.toNatClampNeg ≤ e.platform.maxSlots) {Q : Addr → Pre} (hq : ∀ acts', Q s.heap.size d acts' (s.pushCell (arrV comp m.toNatClampNeg (fun _ => defaultValue type)))) : wp (multianewarray.make comp [m]) Q E e d acts s := by
  rw [multianewarray.make]
  simp only [wp_bind', W.ite, hm, if_false, wp_pure', W.theClass, hkc, hkindc, Option.some.injEq, exists_eq_left']
  refine W.newArray_of hkc hkindc hl2 hh2 h1 h2 hdf (fun acts' => ?_)
  have := hq acts'
  rw [← arrV_new] at this
  exact this
theorem ref_fits {t : FieldType} (h : t.isReference = true) (v : Value) (hv : v = .null ∨ ∃ a, v = .ref a) : fits t v = true := by
  rcases hv with rfl | ⟨a, rfl⟩ <;> cases t <;> first | rfl | exact absurd h Bool.false_ne_true
theorem mk_rows {E : CtlPost} {e : Env} {d : Bool} {acts : List Action} {s : State} {c comp cc : ClassId} {k kc : Class} {t0 type : FieldType} {n m : Int32} (hk : s.vm.classes[c]? = some k) (hkind : k.kind = .array comp t0) (href : t0.isReference = true)
    (hkc : s.vm.classes[comp]? = some kc) (hkindc : kc.kind = .array cc type) (hn : ¬ n < 0) (hm : ¬ m < 0)
    (hl1 : ¬ n.toNatClampNeg > e.platform.arrayLengthLimit) (hh1 : ¬ n.toNatClampNeg * componentBytes t0 > e.platform.maxHeapBytes)
    (hl2 : ¬ m.toNatClampNeg > e.platform.arrayLengthLimit) (hh2 : ¬ m.toNatClampNeg * componentBytes type > e.platform.maxHeapBytes)
    (hdf : fits type (defaultValue type) = true)
    (hc : s.heap.size + 1 + n.toNatClampNeg ≤ e.platform.maxCells) (hs : s.slotsUsed + n.toNatClampNeg + n.toNatClampNeg * m.toNatClampNeg ≤ e.platform.maxSlots)
    {Q : Addr → Pre} (hq : ∀ d' acts', Q s.heap.size d' acts' (mfS s c comp n.toNatClampNeg m.toNatClampNeg (defaultValue type) n.toNatClampNeg)) : wp (multianewarray.make c [n, m]) Q E e d acts s := by
  have hfind : ([m].find? (· < 0)) = none := by simp [hm]
  rw [multianewarray.make]
  simp only [wp_bind', W.ite, hn, if_false, wp_pure', W.theClass, hk, hkind, Option.some.injEq, exists_eq_left']
  refine W.newArray_of hk hkind hl1 hh1 (by omega) (by have := Nat.zero_le (n.toNatClampNeg * m.toNatClampNeg); omega) (ref_fits href _ (Or.inl rfl)) (fun acts0 => ?_)
  have e0 : s.pushCell ({ cls := c, slots := Array.replicate n.toNatClampNeg .null } : Cell) = mfS s c comp n.toNatClampNeg m.toNatClampNeg (defaultValue type) 0 := by
    show s.pushCell ({ cls := c, slots := Array.replicate n.toNatClampNeg .null, vm := .none } : Cell) = s.pushCell (mfO c n.toNatClampNeg s.heap.size 0)
    rw [arrV_new]
    congr 1
  rw [e0]
  simp only [hfind]
  rw [ite_self, wp_bind', Std.Legacy.Range.forIn_eq_forIn_range']
  have hsz : ([:n.toNatClampNeg] : Std.Legacy.Range).size = n.toNatClampNeg := by simp [Std.Legacy.Range.size]
  rw [hsz]
  show wp (forIn (List.range' 0 n.toNatClampNeg 1) PUnit.unit _) _ E e d acts0 _
  refine wp_forIn_inv (fun rest s' => ∃ i, i ≤ n.toNatClampNeg ∧ rest = List.range' i (n.toNatClampNeg - i) ∧ s' = mfS s c comp n.toNatClampNeg m.toNatClampNeg (defaultValue type) i) _ _ ⟨0, Nat.zero_le _, rfl, rfl⟩ ?_ ?_
  · rintro x rest s' d' acts' Q' ⟨i, hi, hl, rfl⟩ hnext
    have hlt : i < n.toNatClampNeg := by
      rcases Nat.lt_or_ge i n.toNatClampNeg with h | h
      · exact h
      · rw [show n.toNatClampNeg - i = 0 by omega] at hl
        exact absurd hl (List.cons_ne_nil _ _)
    obtain ⟨rfl, hrest⟩ : x = i ∧ rest = List.range' (i + 1) (n.toNatClampNeg - (i + 1)) := by
      rw [show n.toNatClampNeg - i = (n.toNatClampNeg - (i + 1)) + 1 by omega, List.range'_succ] at hl
      exact ⟨(List.cons.inj hl).1, (List.cons.inj hl).2⟩
    obtain ⟨f1, f2, f3, f4, f5, f6⟩ := mfS_facts s c comp n.toNatClampNeg m.toNatClampNeg (defaultValue type) x
    have hmul : x * m.toNatClampNeg + m.toNatClampNeg ≤ n.toNatClampNeg * m.toNatClampNeg := by
      have := Nat.mul_le_mul_right m.toNatClampNeg (show x + 1 ≤ n.toNatClampNeg from hlt)
      rw [Nat.succ_mul] at this; exact this
    simp only [wp_bind']
    refine mk_row (by rw [f2]; exact hkc) hkindc hm hl2 hh2 hdf (by rw [f1]; omega) (by rw [f3]; omega) (fun acts2 => ?_)
    simp only [wp_bind', W.writeLoc, wp_pure']
    refine ⟨mfO c n.toNatClampNeg s.heap.size x, ?_, ?_, ?_, ?_, hnext _ _ _ ⟨x + 1, hlt, hrest, ?_⟩⟩
    · show ((mfS s c comp n.toNatClampNeg m.toNatClampNeg (defaultValue type) x).heap.push _)[s.heap.size]? = _
      rw [Array.getElem?_push, if_neg (by omega)]; exact f4
    · exact fun h => by cases h
    · unfold mfO; rw [arrV_size]; exact hlt
    · show State.fitsSlot _ c .none x _ = true
      simp [State.fitsSlot, State.slotType?, f2, hk, hkind, ref_fits href _ (Or.inr ⟨_, rfl⟩)]
    · rw [f1]; rfl
  · rintro s' d' acts' ⟨i, hi, hl, rfl⟩
    have hiN : i = n.toNatClampNeg := by
      rcases Nat.lt_or_ge i n.toNatClampNeg with h | h
      · rw [show n.toNatClampNeg - i = (n.toNatClampNeg - (i + 1)) + 1 by omega, List.range'_succ] at hl
        exact absurd hl.symm (List.cons_ne_nil _ _)
      · omega
    subst hiN
    simp only [wp_pure']
    exact hq _ _
theorem mfS_setTop (s : State) (f : JFrame) (c comp : ClassId) (N M : Nat) (dv : Value) : ∀ i, mfS (s.setTop f) c comp N M dv i = (mfS s c comp N M dv i).setTop f
  | 0 => rfl
  | i + 1 => by
    show (State.pushCell (mfS (s.setTop f) c comp N M dv i) _).setCell _ _ = _
    rw [mfS_setTop s f c comp N M dv i]
    rfl
theorem W_multi {p : Program} {l : Launch} {e : Env} {R : Room} {s : State} {m : MethodId} {args : Array Value} {below : List Frame} {meth : Method} {c : Code} {H : Heap} {locs : List Loc} {cells slots : Nat} {Q : State → Prop} {cc : ByteArray} {pc : Nat} {ls : Array Slot} {rest : List Value} (hexec : p.tables.exec = Jvm.exec) (hb : c.code = cc) {own nmA : String} {index : Nat} {ty : FieldType} {cA comp cc0 : ClassId} {kA kC : Class} (hown : s.vm.findClass own = some m.cls) (hclink : (Cond.classLink own index nmA).before args s = true) (hfA : s.vm.findClass nmA = some cA)
    (hkA : s.vm.classes[cA]? = some kA) (hkindA : kA.kind = .array comp (.array ty)) (hkC : s.vm.classes[comp]? = some kC) (hkindC : kC.kind = .array cc0 ty) {n k : Int32} {N M : Nat} (hn : ¬ n < 0) (hk : ¬ k < 0) (hN : n.toNatClampNeg = N) (hM : k.toNatClampNeg = M) (hb1 : N * 4 ≤ 536870912) (hb2 : M * componentBytes ty ≤ 536870912) (hb3 : M ≤ 536870912)
    (hdf : fits ty (defaultValue ty) = true) (hcells : cells + (1 + N) ≤ R.cells) (hslots : slots + (N + N * M) ≤ R.slots) (hdg : decode cc pc = .ok (.multianewarray index 2, 4))
    (kk : ∀ (H1 : Heap) (locs1 : List Loc), H1.size = H.size + 1 + N → H1[H.size]? = some (arrV cA N (fun j => .ref (H.size + 1 + j))) → (∀ j, j < N → H1[H.size + 1 + j]? = some (arrV comp M (fun _ => defaultValue ty))) → (∀ a, a < H.size → H1[a]? = H[a]?) → (∀ q ∈ locs1, q ∈ locs ∨ q.base = H.size) → W p l e R s m args below meth c H1 locs1 (cells + 1 + N) (slots + N + N * M) Q (F0 m (pc + 4) ls (.ref H.size :: rest))) : W p l e R s m args below meth c H locs cells slots Q (F0 m pc ls (.int k :: .int n :: rest)) := by
  intro T hT X
  subst hT; subst hb; subst hN; subst hM
  have hpl : e.platform.magicAccessors = ({} : Platform).magicAccessors := by rw [X.admits.platform]
  obtain ⟨c0, hfc0, hcl⟩ := Cond.classLink_spec hown hclink e.platform hpl
  cases hfA.symm.trans hfc0
  obtain ⟨hg1, hwarm1, hready1⟩ := State.classEntry (e := e) X.warmed hcl
  generalize T.vm.noted m.cls index (.cls cA) = vm1 at hg1 hwarm1 hready1
  have hal : s.vm.Alike vm1 := hwarm1.alike
  obtain ⟨kA1, hkA1, heA⟩ := hal.2.2 _ _ hkA
  obtain ⟨kC1, hkC1, heC⟩ := hal.2.2 _ _ hkC
  have hkindA1 : kA1.kind = .array comp (.array ty) := by rw [heA]; exact hkindA
  have hkindC1 : kC1.kind = .array cc0 ty := by rw [heC]; exact hkindC
  have X1 := X.noted hwarm1
  obtain ⟨hr1, hr2⟩ := X.roomAbove hcells hslots
  obtain ⟨L, hL, XF⟩ := mf_stand X1 cA comp n.toNatClampNeg k.toNatClampNeg (defaultValue ty) n.toNatClampNeg
  obtain ⟨f1, f2, f3, f4, f5, f6⟩ := mfS_facts (T.setVm vm1) cA comp n.toNatClampNeg k.toNatClampNeg (defaultValue ty) n.toNatClampNeg
  obtain ⟨t, a1, b1⟩ := kk _ L f1 (f4.trans (by unfold mfO; exact congrArg some (arrV_cg _ _ (fun j hj => by rw [if_pos hj]; rfl)))) f6 f5 hL _ rfl XF
  refine ⟨t, ?_, b1⟩
  have hl1 : ¬ n.toNatClampNeg > e.platform.arrayLengthLimit := by rw [Launch.admits_arrayLengthLimit X.admits]; omega
  have hh1 : ¬ n.toNatClampNeg * componentBytes (.array ty) > e.platform.maxHeapBytes := by
    rw [Launch.admits_maxHeapBytes X.admits]; show ¬ n.toNatClampNeg * 4 > 536870912; omega
  have hl2 : ¬ k.toNatClampNeg > e.platform.arrayLengthLimit := by rw [Launch.admits_arrayLengthLimit X.admits]; omega
  have hh2 : ¬ k.toNatClampNeg * componentBytes ty > e.platform.maxHeapBytes := by rw [Launch.admits_maxHeapBytes X.admits]; omega
  jvm_step X.here [hexec, hdg]
  simp only [multianewarray.sem, wp_bind', W.resolveClassAt_links (State.method?_setTop (F0 m pc ls (.int k :: .int n :: rest)) X.here.top) hg1]
  rw [W.popN, if_neg (by decide)]
  refine ⟨F0 m pc ls (.int k :: .int n :: rest), State.topJava?_setTop' (s := T.setVm vm1) _ X.here.top, [.int n, .int k], rest, rfl, rfl, ?_⟩
  simp only [List.mapM_cons, List.mapM_nil, wp_bind', wp_pure']
  refine mk_rows (k := kA1) (kc := kC1) (comp := comp) (cc := cc0) (t0 := .array ty) (type := ty) hkA1 hkindA1 rfl hkC1 hkindC1 hn hk hl1 hh1 hl2 hh2 hdf (by show T.heap.size + 1 + _ ≤ _; omega) (by show T.slotsUsed + _ + _ ≤ _; omega) (fun d' acts' => ?_)
  have eS : ((T.setTop (F0 m pc ls (.int k :: .int n :: rest))).setVm vm1).setTop { (F0 m pc ls (.int k :: .int n :: rest)) with stack := rest } = (T.setVm vm1).setTop { (F0 m pc ls (.int k :: .int n :: rest)) with stack := rest } := by
    show ((T.setVm vm1).setTop _).setTop _ = _
    rw [State.setTop_setTop]
  rw [eS, mfS_setTop]
  simp only [wp_bind', W.mark, W.pushRef, State.topJava?_setTop' _ XF.here.top, Option.some.injEq, exists_eq_left', State.setTop_setTop, State.heap_setTop]
  intro acts
  simp [jvm, XF.here.top]
  exact a1
