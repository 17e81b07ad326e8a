/-! the store: ints (fields and elements) and longs, by cell and place -/
/-- the words that last -/
def lw_gd : List Cond := lw_tbl.filter goodWord
abbrev Sto : Type := (Nat → Nat → Int32) × (Nat → Nat → Int64)
def uA (S : Sto) (h j : Nat) (x : Int32) : Sto := (fun k => if k = h then upd (S.1 h) j x else S.1 k, S.2)
def uL (S : Sto) (h j : Nat) (x : Int64) : Sto := (S.1, fun k => if k = h then vp_updL (S.2 h) j x else S.2 k)
def uC (S : Sto) (a i b j n : Nat) : Sto := (S.1, fun k => if k = b then va_cpy (S.2 a) (S.2 b) i j n else S.2 k)
/-- base address; the table of places and the script (address, length, numbers); classes of arrays; classes and slots of objects -/
abbrev Gv : Type := Nat × (Nat × Nat × Nat × (Nat → Int32)) × (Nat → ClassId) × va_G
def kdL : List Nat := [11, 7, 3, 0, 0, 0, 0, 0, 0, 3, 0, 0, 0, 0, 0, 0, 0, 0, 7, 3, 0, 0, 0, 0, 0, 0, 3, 0, 0, 0, 0, 0, 0, 0, 0, 6, 0, 0, 10, 0, 0, 4, 2, 2, 2, 2, 2, 2, 5, 8, 3, 0, 0, 0, 0, 0, 0, 0, 0, 0, 0, 0, 0, 0, 0, 0, 0, 1, 8, 3, 0, 0, 0, 0, 0, 0, 0, 0, 0, 0, 0, 0, 0, 0, 0, 0, 1, 8, 3, 0, 0, 0, 0, 0, 0, 0, 0, 0, 0, 0, 0, 0, 0, 0, 0, 1, 0, 8, 3, 0, 0, 0, 0, 0, 0, 0, 0, 0, 0, 0, 0, 0, 0, 0, 0, 1, 8, 3, 0, 0, 0, 0, 0, 0, 0, 0, 0, 0, 0, 0, 0, 0, 0, 0, 1, 8, 3, 0, 0, 0, 0, 0, 0, 0, 0, 0, 0, 0, 0, 0, 0, 0, 0, 1, 8, 3, 0, 0, 0, 0, 0, 0, 0, 0, 0, 0, 0, 0, 0, 0, 0, 0, 1, 3, 0, 0, 0, 0, 3, 0, 0, 0, 0, 0, 0, 0, 0, 0, 0, 0, 0, 0, 0, 0, 0, 0, 9, 8, 3, 0, 0, 0, 0, 0, 0, 0, 0, 0, 0, 0, 0, 0, 0, 0, 0, 0, 0, 0, 0, 0, 0, 0, 0, 0, 0, 0, 0, 0, 0, 0, 0, 0, 0, 0, 0, 0, 0, 0, 0, 0, 0, 0, 0, 0, 0, 0, 0, 0, 0, 0, 0, 0, 0, 0, 0, 0, 0, 0, 0, 0, 0, 0, 0, 1, 8, 3, 0, 0, 0, 0, 0, 0, 0, 0, 0, 0, 0, 0, 0, 0, 0, 0, 0, 0, 0, 0, 0, 0, 0, 0, 0, 0, 0, 0, 0, 0, 0, 0, 0, 0, 0, 0, 0, 0, 0, 0, 0, 0, 0, 0, 0, 0, 0, 0, 0, 0, 0, 0, 0, 0, 0, 0, 0, 0, 0, 0, 0, 0, 0, 0, 1, 3, 0, 0, 0, 0, 0, 0, 0, 0, 0, 0, 0, 12, 0, 0, 0, 0, 0, 0, 0, 2, 0, 0, 0, 0, 0, 0, 0, 0, 0, 0, 0, 0, 0, 0, 0, 0, 0, 0]
def kd (i : Nat) : Nat := kdL.getD i 99
def lnL : List Nat := [0, 0, 6, 16, 16, 16, 16, 16, 16, 4, 16, 16, 16, 16, 8, 8, 8, 8, 0, 6, 16, 16, 16, 16, 16, 16, 4, 16, 16, 16, 16, 8, 8, 8, 8, 0, 100, 16, 0, 6, 6, 6, 60, 60, 60, 60, 60, 60, 0, 0, 16, 16, 16, 16, 16, 16, 16, 16, 16, 16, 16, 16, 16, 16, 16, 16, 16, 16, 0, 16, 16, 16, 16, 16, 16, 16, 16, 16, 16, 16, 16, 16, 16, 16, 16, 16, 16, 0, 16, 16, 16, 16, 16, 16, 16, 16, 16, 16, 16, 16, 16, 16, 16, 16, 16, 16, 3, 0, 16, 16, 16, 16, 16, 16, 16, 16, 16, 16, 16, 16, 16, 16, 16, 16, 16, 16, 0, 16, 16, 16, 16, 16, 16, 16, 16, 16, 16, 16, 16, 16, 16, 16, 16, 16, 16, 0, 16, 16, 16, 16, 16, 16, 16, 16, 16, 16, 16, 16, 16, 16, 16, 16, 16, 16, 0, 16, 16, 16, 16, 16, 16, 16, 16, 16, 16, 16, 16, 16, 16, 16, 16, 16, 16, 4, 16, 16, 16, 16, 16, 16, 16, 16, 16, 16, 16, 16, 16, 16, 16, 16, 16, 16, 16, 16, 16, 16, 0, 0, 64, 64, 64, 64, 64, 64, 64, 64, 64, 64, 64, 64, 64, 64, 64, 64, 64, 64, 64, 64, 64, 64, 64, 64, 64, 64, 64, 64, 64, 64, 64, 64, 64, 64, 64, 64, 64, 64, 64, 64, 64, 64, 64, 64, 64, 64, 64, 64, 64, 64, 64, 64, 64, 64, 64, 64, 64, 64, 64, 64, 64, 64, 64, 64, 64, 64, 0, 64, 64, 64, 64, 64, 64, 64, 64, 64, 64, 64, 64, 64, 64, 64, 64, 64, 64, 64, 64, 64, 64, 64, 64, 64, 64, 64, 64, 64, 64, 64, 64, 64, 64, 64, 64, 64, 64, 64, 64, 64, 64, 64, 64, 64, 64, 64, 64, 64, 64, 64, 64, 64, 64, 64, 64, 64, 64, 64, 64, 64, 64, 64, 64, 64, 64, 8, 64, 64, 64, 64, 64, 64, 64, 64, 64, 64, 16, 0, 96, 64, 8, 8, 8, 8, 100, 360, 6, 6, 200, 200, 65536, 256, 256, 256, 256, 16, 16, 16, 256, 256, 256, 65536, 65536, 256]
def ln (i : Nat) : Nat := lnL.getD i 0
def nC : Nat := 380
def foL : List (List Nat) := [[1, 20, 39, 58, 59, 78, 97, 116, 135, 0, 0, 140, 0, 157], [1, 0, 0, 2], [0, 0, 0, 1, 8, 0, 13, 14, 0, 15, 16, 0, 0], [1, 1, 0, 0, 0, 0], [1, 68, 135, 0, 0, 144, 145], [1, 2, 3], [1, 18, 0, 35, 38, 48, 206, 352], [0, 0, 0, 0, 1, 2, 0, 3, 4, 0, 5, 6, 0, 7, 0, 0, 8, 9, 10, 11, 12, 0, 13, 14, 15, 0, 16, 0, 17, 18, 19, 20, 21, 22, 23, 0, 0, 24, 0, 0, 25, 0, 26]]
def fo (ci k : Nat) : Nat := (foL.getD ci []).getD k 0
def nf (ci : Nat) : Nat := (foL.getD ci []).length
def rf (h k : Nat) : Nat := if kd h = 8 ∧ k = 1 then h + 2 + ln (h + 1) else h + fo (kd h - 5) k
def fv (g : Gv) (S : Sto) (h ci j : Nat) : Value := if fo ci j = 0 then .int (S.1 h j) else .ref (g.1 + rf h j)
def ce (g : Gv) (S : Sto) (i : Nat) : va_E := match kd i with
  | 0 => .inl (g.2.2.1 0, ln i, .inl (S.1 i))
  | 1 => .inl (g.2.2.1 1, ln i, .inl (S.1 i))
  | 2 => .inl (g.2.2.1 2, ln i, .inr (.inl (S.2 i)))
  | 3 => .inl (g.2.2.1 3, ln i, .inr (.inr (.inr (.inr (fun j => some (g.1 + (i + 1 + j)))))))
  | 4 => .inl (g.2.2.1 4, ln i, .inr (.inr (.inr (.inr (fun j => some (g.1 + (i + 1 + j)))))))
  | c + 5 => .inr (c, (List.range (nf c)).map (fv g S i c))
def wd (g : Gv) (S : Sto) : va_W := (List.range nC).map (fun i => (g.1 + i, ce g S i))
abbrev tyL (g : Gv) : List (ClassId × FieldType) := [(g.2.2.1 0, .int), (g.2.2.1 1, .boolean), (g.2.2.1 2, .long), (g.2.2.1 3, .array .int), (g.2.2.1 4, .array .long)]
def Ag (g : Gv) : Nat → Prop := fun q => g.1 ≤ q
def pbd : Nat → Int32 := fun j => ([0, 1, 2, 4, 8, 3, 5, 6, 9, 10, 12, 7, 11, 13, 14, 15] : List Int32).getD j 0
theorem kd_lt {h c : Nat} (e : kd h = c) (hc : c < 99) : h < nC := by
  rcases Nat.lt_or_ge h nC with q | q
  · exact q
  · have : kd h = 99 := by
      unfold kd
      have e1 : kdL.length = nC := by decide +kernel
      rw [List.getD_eq_getElem?_getD, List.getElem?_eq_none (by rw [e1]; exact q)]
      rfl
    omega
theorem wd_get (g : Gv) (S : Sto) {i : Nat} (h : i < nC) : (wd g S)[i]? = some (g.1 + i, ce g S i) := by
  unfold wd
  rw [List.getElem?_map, List.getElem?_range h]
  rfl
theorem wd_len (g : Gv) (S : Sto) : (wd g S).length = nC := by simp [wd]
theorem wd_D (g : Gv) (S : Sto) : va_D (Ag g) (wd g S) := by
  have key : ∀ (k : Nat) (q : Nat × va_E), (wd g S)[k]? = some q → q.1 = g.1 + k := by
    intro k q hq
    have hk : k < nC := by rw [← wd_len g S]; exact (List.getElem?_eq_some_iff.mp hq).1
    rw [wd_get g S hk] at hq
    cases hq
    rfl
  refine ⟨fun i j p q hi hj e => ?_, fun k q hq => ?_⟩
  · have h1 := key i p hi
    have h2 := key j q hj
    omega
  · show g.1 ≤ q.1
    rw [key k q hq]
    exact Nat.le_add_right _ _
/-- the world with one cell changed is the world of another store -/
theorem wd_set (g : Gv) (S S' : Sto) {h : Nat} (e : va_E) (h1 : ce g S' h = e) (h2 : ∀ k, k ≠ h → ce g S' k = ce g S k) : (wd g S).set h (g.1 + h, e) = wd g S' := by
  apply List.ext_getElem?
  intro i
  by_cases hi : i < nC
  · rw [wd_get g S' hi]
    by_cases hh : i = h
    · subst hh
      rw [List.getElem?_set_self (by rw [wd_len]; exact hi), h1]
    · rw [List.getElem?_set_ne (fun q => hh q.symm), wd_get g S hi, h2 i hh]
  · rw [List.getElem?_eq_none (by rw [List.length_set, wd_len]; omega), List.getElem?_eq_none (by rw [wd_len]; omega)]
theorem ce_0 (g : Gv) (S : Sto) {h : Nat} (e : kd h = 0) : ce g S h = .inl (g.2.2.1 0, ln h, .inl (S.1 h)) := by unfold ce; rw [e]
theorem ce_1 (g : Gv) (S : Sto) {h : Nat} (e : kd h = 1) : ce g S h = .inl (g.2.2.1 1, ln h, .inl (S.1 h)) := by unfold ce; rw [e]
theorem ce_2 (g : Gv) (S : Sto) {h : Nat} (e : kd h = 2) : ce g S h = .inl (g.2.2.1 2, ln h, .inr (.inl (S.2 h))) := by unfold ce; rw [e]
theorem ce_3 (g : Gv) (S : Sto) {h : Nat} (e : kd h = 3) : ce g S h = .inl (g.2.2.1 3, ln h, .inr (.inr (.inr (.inr (fun j => some (g.1 + (h + 1 + j))))))) := by unfold ce; rw [e]
theorem ce_4 (g : Gv) (S : Sto) {h : Nat} (e : kd h = 4) : ce g S h = .inl (g.2.2.1 4, ln h, .inr (.inr (.inr (.inr (fun j => some (g.1 + (h + 1 + j))))))) := by unfold ce; rw [e]
theorem ce_5 (g : Gv) (S : Sto) {h c : Nat} (e : kd h = c + 5) : ce g S h = .inr (c, (List.range (nf c)).map (fv g S h c)) := by unfold ce; rw [e]
theorem uA_ne {S : Sto} {h j k : Nat} {x : Int32} (n : k ≠ h) : (uA S h j x).1 k = S.1 k := if_neg n
theorem uA_eq {S : Sto} {h j : Nat} {x : Int32} : (uA S h j x).1 h = upd (S.1 h) j x := if_pos rfl
theorem uL_ne {S : Sto} {h j k : Nat} {x : Int64} (n : k ≠ h) : (uL S h j x).2 k = S.2 k := if_neg n
theorem uL_eq {S : Sto} {h j : Nat} {x : Int64} : (uL S h j x).2 h = vp_updL (S.2 h) j x := if_pos rfl
/-- a cell whose own numbers are the same is the same -/
theorem ce_cong (g : Gv) {S S' : Sto} {k : Nat} (h1 : S'.1 k = S.1 k) (h2 : S'.2 k = S.2 k) : ce g S' k = ce g S k := by
  unfold ce fv
  rw [h1, h2]
theorem ce_uA (g : Gv) (S : Sto) {h j k : Nat} (x : Int32) (n : k ≠ h) : ce g (uA S h j x) k = ce g S k := ce_cong g (uA_ne n) rfl
theorem ce_uL (g : Gv) (S : Sto) {h j k : Nat} (x : Int64) (n : k ≠ h) : ce g (uL S h j x) k = ce g S k := ce_cong g rfl (uL_ne n)
theorem fs_get (g : Gv) (S : Sto) {h c k : Nat} (hk : k < nf c) : ((List.range (nf c)).map (fv g S h c))[k]? = some (fv g S h c k) := by
  rw [List.getElem?_map, List.getElem?_range hk]
  rfl
theorem fs_set (g : Gv) (S : Sto) {h c k : Nat} (x : Int32) (hk : k < nf c) (hz : fo c k = 0) : ((List.range (nf c)).map (fv g S h c)).set k (.int x) = (List.range (nf c)).map (fv g (uA S h k x) h c) := by
  apply List.ext_getElem?
  intro i
  by_cases hi : i < nf c
  · rw [fs_get g _ hi]
    by_cases e : i = k
    · subst e
      rw [List.getElem?_set_self (by simp; exact hi)]
      simp [fv, hz, uA_eq, upd]
    · rw [List.getElem?_set_ne (fun q => e q.symm), fs_get g S hi]
      unfold fv
      rw [uA_eq, upd, if_neg e]
  · rw [List.getElem?_eq_none (by simp; omega), List.getElem?_eq_none (by simp; omega)]
/-- words of nest mates -/
def NW (U : State) : Prop := va_Nw (.fieldLinkNest RX1 147 RX5 "width" "I" RX8) U ∧ va_Nw (.methodLinkNest RX4 71 yX8_isKind RX8) U
def ZS (g : Gv) (U : State) (H : Heap) : Prop := NW U ∧ va_Z RX2 "PLACES_BY_DEGREE" "[I" (.ref g.2.1.1) (Ag g) U H ∧ va_T .int g.2.1.1 16 (fun j => .int (pbd j)) (Ag g) U H ∧ va_X g.2.1.2.1 g.2.1.2.2.1 g.2.1.2.2.2 U H ∧ (g.2.1.1 < g.1 ∧ g.2.1.2.1 < g.1) ∧ g.1 ≤ H.size
def CX (g : Gv) (b : ByteArray) (own : String) (ret : Option FieldType) (nL d : Nat) (p : Program) (R : Room) (s : State) (m : MethodId) (args : Array Value) (meth : Method) (c : Code) : Prop :=
  p.tables.exec = Jvm.exec ∧ c.code = b ∧ c.maxLocals = nL ∧ s.vm.findClass own = some m.cls ∧ (∀ w ∈ lw_gd, w.before args s = true) ∧ va_K g.2.2.2 vwCl (tyL g) s ∧ d ≤ R.frames ∧ 32 * d ≤ R.locals ∧ ZS g s s.heap
def WD (g : Gv) (S : Sto) (s : State) (H : Heap) (locs : List Loc) : Prop := va_P g.2.2.2 vwCl (wd g S) H ∧ va_S (Ag g) s.heap H locs
/-- at a return of v -/
def RT (b : ByteArray) (ret : Option FieldType) (pc : Nat) (v : Option Value) (st : List Value) : Prop :=
  (∃ (x : Int32) (ty : FieldType), v = some (.int x) ∧ ret = some ty ∧ narrow ty (.int x) = .int x ∧ st = [.int x] ∧ decode b pc = .ok (.ireturn, 1)) ∨
  (∃ x : Int64, v = some (.long x) ∧ ret = some .long ∧ st = [.long x] ∧ decode b pc = .ok (.lreturn, 1)) ∨
  (v = none ∧ ret = none ∧ st = [] ∧ decode b pc = .ok (.return_, 1)) ∨
  (∃ (a : Nat) (n : String), v = some (.ref a) ∧ ret = some (.object n) ∧ st = [.ref a] ∧ decode b pc = .ok (.areturn, 1))
/-- THE JUDGEMENT: from here, over the world of S, the method comes to its end with Q -/
def RJ (g : Gv) (b : ByteArray) (own : String) (ret : Option FieldType) (nL d pc : Nat) (lv : List (Nat × Value)) (st : List Value) (S : Sto) (Q : Option Value → Sto → Prop) : Prop :=
  ∀ (p : Program) (l : Launch) (e : Env) (R : Room) (s : State) (m : MethodId) (args : Array Value) (below : List Frame) (meth : Method) (c : Code) (H : Heap) (locs : List Loc) (ls : Array Slot) (cells slots : Nat) (Post : State → Prop),
    CX g b own ret nL d p R s m args meth c → WD g S s H locs → lv_has ls nL lv → (cells ≤ R.cells ∧ slots ≤ R.slots) →
    (∀ (v : Option Value) (S' : Sto) (H' : Heap) (locs' : List Loc) (ls' : Array Slot) (pc' : Nat) (st' : List Value), Q v S' → WD g S' s H' locs' → RT b ret pc' v st' → W p l e R s m args below meth c H' locs' cells slots Post (F0 m pc' ls' st')) →
    W p l e R s m args below meth c H locs cells slots Post (F0 m pc ls st)
def RM (d : Nat) : Room := { frames := d, cells := 0, slots := 0, locals := 32 * d }
def Pct (g : Gv) (As : List Value) (S : Sto) : Array Value → State → Prop := fun v U => v = As.toArray ∧ va_P g.2.2.2 vwCl (wd g S) U.heap ∧ va_K g.2.2.2 vwCl (tyL g) U ∧ ZS g U U.heap
def Qct (g : Gv) (Q : Option Value → Sto → Prop) : Array Value → State → Outcome → State → Prop := fun _ st oc t => ∃ (v : Option Value) (S' : Sto), oc = .returned v ∧ Q v S' ∧ va_P g.2.2.2 vwCl (wd g S') t.heap ∧ va_F (Ag g) st t
/-- THE CONTRACT of a method over the world of S -/
def CT (g : Gv) (y : MethodName) (b : ByteArray) (mL : Nat) (ret : Option FieldType) (d : Nat) (As : List Value) (S : Sto) (Q : Option Value → Sto → Prop) : Prop :=
  ∀ l : Launch, Met l y (Cond.code y b mL ret :: lw_gd) (RM d) (Pct g As S) (Qct g Q) 0 0 (Ag g)
theorem ZS.warm {g : Gv} {u U : State} {H : Heap} (hW : u.WarmedH U.vm) (h : ZS g u H) : ZS g U H := ⟨⟨h.1.1.warmF hW, h.1.2.warmM hW⟩, h.2.1.moved hW.alike, h.2.2.1.moved hW.alike, h.2.2.2.1.moved hW.alike, h.2.2.2.2⟩
theorem ZS.same {g : Gv} {u U : State} {H : Heap} (e : u.vm = U.vm) (h : ZS g u H) : ZS g U H := ⟨⟨h.1.1.same rfl e, h.1.2.same rfl e⟩, h.2.1.moved (e ▸ Vm.Alike.refl u.vm), h.2.2.1.moved (e ▸ Vm.Alike.refl u.vm), h.2.2.2.1.moved (e ▸ Vm.Alike.refl u.vm), h.2.2.2.2⟩
theorem ZS.kept {g : Gv} {U : State} {H H1 : Heap} {locs : List Loc} (h : ZS g U H) (hS : va_S (Ag g) H H1 locs) : ZS g U H1 := by
  obtain ⟨h0, h1, h2, h2b, ⟨h3, h3b⟩, h4⟩ := h
  exact ⟨h0, h1.kept (fun a q n => hS.2.1 a q n), h2.kept (fun a q n => hS.2.1 a q n), h2b.kept (hS.2.1 _ (by omega) (Nat.not_le.mpr h3b)), ⟨h3, h3b⟩, Nat.le_trans h4 hS.1⟩
theorem Pct.blind {g : Gv} {As : List Value} {S : Sto} : FrameBlind (Pct g As S) := by
  intro a U f mk h
  obtain ⟨h1, h2, h3, h4⟩ := h
  exact ⟨h1, h2, va_K.moved (u := U) (U := U.calling f mk a) (Vm.Alike.refl U.vm) h3, ZS.same (u := U) (U := U.calling f mk a) rfl h4⟩
set_option maxHeartbeats 4000000 in
/-- a contract out of its body's judgement -/
theorem CT.of {g : Gv} {y : MethodName} {b : ByteArray} {mL : Nat} {ret : Option FieldType} {d : Nat} {As : List Value} {S : Sto} {Q : Option Value → Sto → Prop} (hy : plainName y.cls = true) (hA : (lg_sl As).length ≤ mL)
    (h : RJ g b y.cls ret mL d 0 (lv_args 0 As) [] S Q) : CT g y b mL ret d As S Q := by
  intro l
  refine Met.ofW (cc := b) (maxL := mL) (ret := ret) hy rfl ?_
  intro p e s m args below meth c s₁ B hml hv
  obtain ⟨rfl, hP, hK, hZ⟩ := hv
  have hts := atoms_spec (ws := Cond.code y b mL ret :: lw_gd) B.pre
  have hown : s.vm.findClass y.cls = some m.cls := findClass_of_methodNamed B.named
  have hlocks := B.notSynchronized
  have hl := lv_entry As (n := mL) hA
  rw [lg_entry_eq]
  generalize (lg_sl As ++ List.replicate (mL - (lg_sl As).length) Slot.unset).toArray = ls at hl ⊢
  refine h p l e _ s m _ below meth c s.heap [] ls 0 0 _ ⟨B.exec, B.bytes, hml, hown, fun w hw => hts w (List.mem_cons_of_mem _ hw), hK, Nat.le_refl _, Nat.le_refl _, hZ⟩ ⟨hP, va_S.rf⟩ hl ⟨Nat.zero_le _, Nat.zero_le _⟩ ?_
  intro v S' H' locs' ls' pc' st' hQ hW hR
  have hq : ∀ t : State, t.heap = H' → Qct g Q As.toArray s (.returned v) t := fun t ht => ⟨v, S', rfl, hQ, by rw [ht]; exact hW.1, hW.2.F ht⟩
  rcases hR with ⟨x, ty, rfl, hret, hn, rfl, hd⟩ | ⟨x, rfl, hret, rfl, hd⟩ | ⟨rfl, hret, rfl, hd⟩ | ⟨a, n, rfl, hret, rfl, hd⟩
  · exact W.zret B.exec B.bytes (B.returns.trans hret) hn (fun t ht _ => hq t ht) hW.2.2.2 hd hlocks
  · exact W.lret B.exec B.bytes (B.returns.trans hret) (fun t ht _ => hq t ht) hW.2.2.2 hd hlocks
  · exact W.vret B.exec B.bytes (B.returns.trans hret) (fun t ht _ => hq t ht) hW.2.2.2 hd hlocks
  · exact W.aret B.exec B.bytes (B.returns.trans hret) (Or.inl ⟨n, rfl⟩) (Or.inr ⟨a, rfl⟩) (fun t ht _ => hq t ht) hW.2.2.2 hd hlocks
theorem RJ.mono {g : Gv} {b : ByteArray} {own : String} {ret : Option FieldType} {nL d pc : Nat} {lv : List (Nat × Value)} {st : List Value} {S : Sto} {Q Q' : Option Value → Sto → Prop} (hq : ∀ v S', Q v S' → Q' v S') (h : RJ g b own ret nL d pc lv st S Q) : RJ g b own ret nL d pc lv st S Q' := by
  intro p l e R s m args below meth c H locs ls cells slots Post C D hl hc hE
  exact h p l e R s m args below meth c H locs ls cells slots Post C D hl hc (fun v S' H' locs' ls' pc' st' h1 h2 h3 => hE v S' H' locs' ls' pc' st' (hq v S' h1) h2 h3)

section JR
variable {g : Gv} {b : ByteArray} {own : String} {ret : Option FieldType} {nL d pc : Nat} {lv lv' : List (Nat × Value)} {st : List Value} {S : Sto} {Q : Option Value → Sto → Prop}
theorem J_iconst {n : Int} {v : Int32} (hd : decode b pc = .ok (.iconst n, 1)) (hv : Int32.ofInt n = v) (k : RJ g b own ret nL d (pc + 1) lv (.int v :: st) S Q) : RJ g b own ret nL d pc lv (st) S Q := by
  intro p l e R s m args below meth c H locs ls cells slots Post C D hl hc hE
  exact lv_iconst C.1 C.2.1 hd hv (k p l e R s m args below meth c H locs ls cells slots Post C D hl hc hE)
theorem J_bipush {n : Int} {v : Int32} (hd : decode b pc = .ok (.bipush n, 2)) (hv : (Int8.ofInt n).toInt32 = v) (k : RJ g b own ret nL d (pc + 2) lv (.int v :: st) S Q) : RJ g b own ret nL d pc lv (st) S Q := by
  intro p l e R s m args below meth c H locs ls cells slots Post C D hl hc hE
  exact lv_bipush C.1 C.2.1 hd hv (k p l e R s m args below meth c H locs ls cells slots Post C D hl hc hE)
theorem J_sipush {n : Int} {v : Int32} (hd : decode b pc = .ok (.sipush n, 3)) (hv : (Int16.ofInt n).toInt32 = v) (k : RJ g b own ret nL d (pc + 3) lv (.int v :: st) S Q) : RJ g b own ret nL d pc lv (st) S Q := by
  intro p l e R s m args below meth c H locs ls cells slots Post C D hl hc hE
  exact lv_sipush C.1 C.2.1 hd hv (k p l e R s m args below meth c H locs ls cells slots Post C D hl hc hE)
theorem J_lconst {n : Fin 2} {v : Int64} (hd : decode b pc = .ok (.lconst n, 1)) (hv : Int64.ofNat (n : Nat) = v) (k : RJ g b own ret nL d (pc + 1) lv (.long v :: st) S Q) : RJ g b own ret nL d pc lv (st) S Q := by
  intro p l e R s m args below meth c H locs ls cells slots Post C D hl hc hE
  exact lv_lconst C.1 C.2.1 hd hv (k p l e R s m args below meth c H locs ls cells slots Post C D hl hc hE)
theorem J_fconst0  (hd : decode b pc = .ok (.fconst 0, 1)) (k : RJ g b own ret nL d (pc + 1) lv (.float FP.fconst0 :: st) S Q) : RJ g b own ret nL d pc lv (st) S Q := by
  intro p l e R s m args below meth c H locs ls cells slots Post C D hl hc hE
  exact lv_fconst0 C.1 C.2.1 hd (k p l e R s m args below meth c H locs ls cells slots Post C D hl hc hE)
theorem J_dconst0  (hd : decode b pc = .ok (.dconst 0, 1)) (k : RJ g b own ret nL d (pc + 1) lv (.double FP.dconst0 :: st) S Q) : RJ g b own ret nL d pc lv (st) S Q := by
  intro p l e R s m args below meth c H locs ls cells slots Post C D hl hc hE
  exact lv_dconst0 C.1 C.2.1 hd (k p l e R s m args below meth c H locs ls cells slots Post C D hl hc hE)
theorem J_dconst1  (hd : decode b pc = .ok (.dconst 1, 1)) (k : RJ g b own ret nL d (pc + 1) lv (.double FP.dconst1 :: st) S Q) : RJ g b own ret nL d pc lv (st) S Q := by
  intro p l e R s m args below meth c H locs ls cells slots Post C D hl hc hE
  exact lv_dconst1 C.1 C.2.1 hd (k p l e R s m args below meth c H locs ls cells slots Post C D hl hc hE)
theorem J_iload_n {n : Fin 4} {i : Nat} {x : Int32} (hd : decode b pc = .ok (.iload_n n, 1)) (hi : (n : Nat) = i) (q : Nat) (hq : lv[q]? = some (i, .int x)) (k : RJ g b own ret nL d (pc + 1) lv (.int x :: st) S Q) : RJ g b own ret nL d pc lv (st) S Q := by
  intro p l e R s m args below meth c H locs ls cells slots Post C D hl hc hE
  exact lv_iload_n C.1 C.2.1 hd hi (lv_at hl q hq) (k p l e R s m args below meth c H locs ls cells slots Post C D hl hc hE)
theorem J_iload {i : Nat} {x : Int32} (hd : decode b pc = .ok (.iload i, 2)) (q : Nat) (hq : lv[q]? = some (i, .int x)) (k : RJ g b own ret nL d (pc + 2) lv (.int x :: st) S Q) : RJ g b own ret nL d pc lv (st) S Q := by
  intro p l e R s m args below meth c H locs ls cells slots Post C D hl hc hE
  exact lv_iload C.1 C.2.1 hd (lv_at hl q hq) (k p l e R s m args below meth c H locs ls cells slots Post C D hl hc hE)
theorem J_istore_n {n : Fin 4} {i : Nat} {x : Int32} (hd : decode b pc = .ok (.istore_n n, 1)) (hi : (n : Nat) = i) (hn : i < nL) (ks : List Nat) (hs : lv_pick ((i, Value.int x) :: lv.filter (fun q => !(q.1 == i) && !(q.1 + 1 == i && q.2.category == 2))) ks = lv') (k : RJ g b own ret nL d (pc + 1) lv' (st) S Q) : RJ g b own ret nL d pc lv (.int x :: st) S Q := by
  intro p l e R s m args below meth c H locs ls cells slots Post C D hl hc hE
  exact lv_istore_n C.1 C.2.1 hd hi hl hn rfl (fun ls1 h1 => by have h1 := lv_sub h1 ks hs; exact k p l e R s m args below meth c H locs ls1 cells slots Post C D h1 hc hE)
theorem J_istore {i : Nat} {x : Int32} (hd : decode b pc = .ok (.istore i, 2)) (hn : i < nL) (ks : List Nat) (hs : lv_pick ((i, Value.int x) :: lv.filter (fun q => !(q.1 == i) && !(q.1 + 1 == i && q.2.category == 2))) ks = lv') (k : RJ g b own ret nL d (pc + 2) lv' (st) S Q) : RJ g b own ret nL d pc lv (.int x :: st) S Q := by
  intro p l e R s m args below meth c H locs ls cells slots Post C D hl hc hE
  exact lv_istore C.1 C.2.1 hd hl hn rfl (fun ls1 h1 => by have h1 := lv_sub h1 ks hs; exact k p l e R s m args below meth c H locs ls1 cells slots Post C D h1 hc hE)
theorem J_lload_n {n : Fin 4} {i : Nat} {x : Int64} (hd : decode b pc = .ok (.lload_n n, 1)) (hi : (n : Nat) = i) (q : Nat) (hq : lv[q]? = some (i, .long x)) (k : RJ g b own ret nL d (pc + 1) lv (.long x :: st) S Q) : RJ g b own ret nL d pc lv (st) S Q := by
  intro p l e R s m args below meth c H locs ls cells slots Post C D hl hc hE
  exact lv_lload_n C.1 C.2.1 hd hi (lv_at hl q hq) (k p l e R s m args below meth c H locs ls cells slots Post C D hl hc hE)
theorem J_lload {i : Nat} {x : Int64} (hd : decode b pc = .ok (.lload i, 2)) (q : Nat) (hq : lv[q]? = some (i, .long x)) (k : RJ g b own ret nL d (pc + 2) lv (.long x :: st) S Q) : RJ g b own ret nL d pc lv (st) S Q := by
  intro p l e R s m args below meth c H locs ls cells slots Post C D hl hc hE
  exact lv_lload C.1 C.2.1 hd (lv_at hl q hq) (k p l e R s m args below meth c H locs ls cells slots Post C D hl hc hE)
theorem J_lstore_n {n : Fin 4} {i : Nat} {x : Int64} (hd : decode b pc = .ok (.lstore_n n, 1)) (hi : (n : Nat) = i) (hn : i + 1 < nL) (ks : List Nat) (hs : lv_pick ((i, Value.long x) :: lv.filter (fun q => !(q.1 == i) && (!(q.1 == i + 1) && !(q.1 + 1 == i && q.2.category == 2)))) ks = lv') (k : RJ g b own ret nL d (pc + 1) lv' (st) S Q) : RJ g b own ret nL d pc lv (.long x :: st) S Q := by
  intro p l e R s m args below meth c H locs ls cells slots Post C D hl hc hE
  exact lv_lstore_n C.1 C.2.1 hd hi hl hn rfl (fun ls1 h1 => by have h1 := lv_sub h1 ks hs; exact k p l e R s m args below meth c H locs ls1 cells slots Post C D h1 hc hE)
theorem J_lstore {i : Nat} {x : Int64} (hd : decode b pc = .ok (.lstore i, 2)) (hn : i + 1 < nL) (ks : List Nat) (hs : lv_pick ((i, Value.long x) :: lv.filter (fun q => !(q.1 == i) && (!(q.1 == i + 1) && !(q.1 + 1 == i && q.2.category == 2)))) ks = lv') (k : RJ g b own ret nL d (pc + 2) lv' (st) S Q) : RJ g b own ret nL d pc lv (.long x :: st) S Q := by
  intro p l e R s m args below meth c H locs ls cells slots Post C D hl hc hE
  exact lv_lstore C.1 C.2.1 hd hl hn rfl (fun ls1 h1 => by have h1 := lv_sub h1 ks hs; exact k p l e R s m args below meth c H locs ls1 cells slots Post C D h1 hc hE)
theorem J_aload_n {n : Fin 4} {i : Nat} {x : Nat} (hd : decode b pc = .ok (.aload_n n, 1)) (hi : (n : Nat) = i) (q : Nat) (hq : lv[q]? = some (i, .ref x)) (k : RJ g b own ret nL d (pc + 1) lv (.ref x :: st) S Q) : RJ g b own ret nL d pc lv (st) S Q := by
  intro p l e R s m args below meth c H locs ls cells slots Post C D hl hc hE
  exact lv_aload_n C.1 C.2.1 hd hi (lv_at hl q hq) (k p l e R s m args below meth c H locs ls cells slots Post C D hl hc hE)
theorem J_aload {i : Nat} {x : Nat} (hd : decode b pc = .ok (.aload i, 2)) (q : Nat) (hq : lv[q]? = some (i, .ref x)) (k : RJ g b own ret nL d (pc + 2) lv (.ref x :: st) S Q) : RJ g b own ret nL d pc lv (st) S Q := by
  intro p l e R s m args below meth c H locs ls cells slots Post C D hl hc hE
  exact lv_aload C.1 C.2.1 hd (lv_at hl q hq) (k p l e R s m args below meth c H locs ls cells slots Post C D hl hc hE)
theorem J_astore_n {n : Fin 4} {i : Nat} {x : Nat} (hd : decode b pc = .ok (.astore_n n, 1)) (hi : (n : Nat) = i) (hn : i < nL) (ks : List Nat) (hs : lv_pick ((i, Value.ref x) :: lv.filter (fun q => !(q.1 == i) && !(q.1 + 1 == i && q.2.category == 2))) ks = lv') (k : RJ g b own ret nL d (pc + 1) lv' (st) S Q) : RJ g b own ret nL d pc lv (.ref x :: st) S Q := by
  intro p l e R s m args below meth c H locs ls cells slots Post C D hl hc hE
  exact lv_astore_n C.1 C.2.1 hd hi hl hn rfl (fun ls1 h1 => by have h1 := lv_sub h1 ks hs; exact k p l e R s m args below meth c H locs ls1 cells slots Post C D h1 hc hE)
theorem J_astore {i : Nat} {x : Nat} (hd : decode b pc = .ok (.astore i, 2)) (hn : i < nL) (ks : List Nat) (hs : lv_pick ((i, Value.ref x) :: lv.filter (fun q => !(q.1 == i) && !(q.1 + 1 == i && q.2.category == 2))) ks = lv') (k : RJ g b own ret nL d (pc + 2) lv' (st) S Q) : RJ g b own ret nL d pc lv (.ref x :: st) S Q := by
  intro p l e R s m args below meth c H locs ls cells slots Post C D hl hc hE
  exact lv_astore C.1 C.2.1 hd hl hn rfl (fun ls1 h1 => by have h1 := lv_sub h1 ks hs; exact k p l e R s m args below meth c H locs ls1 cells slots Post C D h1 hc hE)
theorem J_fload_n {n : Fin 4} {i : Nat} {x : UInt32} (hd : decode b pc = .ok (.fload_n n, 1)) (hi : (n : Nat) = i) (q : Nat) (hq : lv[q]? = some (i, .float x)) (k : RJ g b own ret nL d (pc + 1) lv (.float x :: st) S Q) : RJ g b own ret nL d pc lv (st) S Q := by
  intro p l e R s m args below meth c H locs ls cells slots Post C D hl hc hE
  exact lv_fload_n C.1 C.2.1 hd hi (lv_at hl q hq) (k p l e R s m args below meth c H locs ls cells slots Post C D hl hc hE)
theorem J_fload {i : Nat} {x : UInt32} (hd : decode b pc = .ok (.fload i, 2)) (q : Nat) (hq : lv[q]? = some (i, .float x)) (k : RJ g b own ret nL d (pc + 2) lv (.float x :: st) S Q) : RJ g b own ret nL d pc lv (st) S Q := by
  intro p l e R s m args below meth c H locs ls cells slots Post C D hl hc hE
  exact lv_fload C.1 C.2.1 hd (lv_at hl q hq) (k p l e R s m args below meth c H locs ls cells slots Post C D hl hc hE)
theorem J_fstore_n {n : Fin 4} {i : Nat} {x : UInt32} (hd : decode b pc = .ok (.fstore_n n, 1)) (hi : (n : Nat) = i) (hn : i < nL) (ks : List Nat) (hs : lv_pick ((i, Value.float x) :: lv.filter (fun q => !(q.1 == i) && !(q.1 + 1 == i && q.2.category == 2))) ks = lv') (k : RJ g b own ret nL d (pc + 1) lv' (st) S Q) : RJ g b own ret nL d pc lv (.float x :: st) S Q := by
  intro p l e R s m args below meth c H locs ls cells slots Post C D hl hc hE
  exact lv_fstore_n C.1 C.2.1 hd hi hl hn rfl (fun ls1 h1 => by have h1 := lv_sub h1 ks hs; exact k p l e R s m args below meth c H locs ls1 cells slots Post C D h1 hc hE)
theorem J_fstore {i : Nat} {x : UInt32} (hd : decode b pc = .ok (.fstore i, 2)) (hn : i < nL) (ks : List Nat) (hs : lv_pick ((i, Value.float x) :: lv.filter (fun q => !(q.1 == i) && !(q.1 + 1 == i && q.2.category == 2))) ks = lv') (k : RJ g b own ret nL d (pc + 2) lv' (st) S Q) : RJ g b own ret nL d pc lv (.float x :: st) S Q := by
  intro p l e R s m args below meth c H locs ls cells slots Post C D hl hc hE
  exact lv_fstore C.1 C.2.1 hd hl hn rfl (fun ls1 h1 => by have h1 := lv_sub h1 ks hs; exact k p l e R s m args below meth c H locs ls1 cells slots Post C D h1 hc hE)
theorem J_dload_n {n : Fin 4} {i : Nat} {x : UInt64} (hd : decode b pc = .ok (.dload_n n, 1)) (hi : (n : Nat) = i) (q : Nat) (hq : lv[q]? = some (i, .double x)) (k : RJ g b own ret nL d (pc + 1) lv (.double x :: st) S Q) : RJ g b own ret nL d pc lv (st) S Q := by
  intro p l e R s m args below meth c H locs ls cells slots Post C D hl hc hE
  exact lv_dload_n C.1 C.2.1 hd hi (lv_at hl q hq) (k p l e R s m args below meth c H locs ls cells slots Post C D hl hc hE)
theorem J_dload {i : Nat} {x : UInt64} (hd : decode b pc = .ok (.dload i, 2)) (q : Nat) (hq : lv[q]? = some (i, .double x)) (k : RJ g b own ret nL d (pc + 2) lv (.double x :: st) S Q) : RJ g b own ret nL d pc lv (st) S Q := by
  intro p l e R s m args below meth c H locs ls cells slots Post C D hl hc hE
  exact lv_dload C.1 C.2.1 hd (lv_at hl q hq) (k p l e R s m args below meth c H locs ls cells slots Post C D hl hc hE)
theorem J_dstore_n {n : Fin 4} {i : Nat} {x : UInt64} (hd : decode b pc = .ok (.dstore_n n, 1)) (hi : (n : Nat) = i) (hn : i + 1 < nL) (ks : List Nat) (hs : lv_pick ((i, Value.double x) :: lv.filter (fun q => !(q.1 == i) && (!(q.1 == i + 1) && !(q.1 + 1 == i && q.2.category == 2)))) ks = lv') (k : RJ g b own ret nL d (pc + 1) lv' (st) S Q) : RJ g b own ret nL d pc lv (.double x :: st) S Q := by
  intro p l e R s m args below meth c H locs ls cells slots Post C D hl hc hE
  exact lv_dstore_n C.1 C.2.1 hd hi hl hn rfl (fun ls1 h1 => by have h1 := lv_sub h1 ks hs; exact k p l e R s m args below meth c H locs ls1 cells slots Post C D h1 hc hE)
theorem J_dstore {i : Nat} {x : UInt64} (hd : decode b pc = .ok (.dstore i, 2)) (hn : i + 1 < nL) (ks : List Nat) (hs : lv_pick ((i, Value.double x) :: lv.filter (fun q => !(q.1 == i) && (!(q.1 == i + 1) && !(q.1 + 1 == i && q.2.category == 2)))) ks = lv') (k : RJ g b own ret nL d (pc + 2) lv' (st) S Q) : RJ g b own ret nL d pc lv (.double x :: st) S Q := by
  intro p l e R s m args below meth c H locs ls cells slots Post C D hl hc hE
  exact lv_dstore C.1 C.2.1 hd hl hn rfl (fun ls1 h1 => by have h1 := lv_sub h1 ks hs; exact k p l e R s m args below meth c H locs ls1 cells slots Post C D h1 hc hE)
theorem J_iinc {i q : Nat} {n : Int} {x v : Int32} (hd : decode b pc = .ok (.iinc i n, 3)) (hq : lv[q]? = some (i, .int x)) (hv : x + Int32.ofInt n = v) (hn : i < nL) (ks : List Nat) (hs : lv_pick ((i, Value.int v) :: lv.filter (fun q => !(q.1 == i) && !(q.1 + 1 == i && q.2.category == 2))) ks = lv') (k : RJ g b own ret nL d (pc + 3) lv' (st) S Q) : RJ g b own ret nL d pc lv (st) S Q := by
  intro p l e R s m args below meth c H locs ls cells slots Post C D hl hc hE
  exact lv_iinc C.1 C.2.1 hd hl hq hv hn rfl (fun ls1 h1 => by have h1 := lv_sub h1 ks hs; exact k p l e R s m args below meth c H locs ls1 cells slots Post C D h1 hc hE)
theorem J_sub (ks : List Nat) (hs : lv_pick lv ks = lv') (k : RJ g b own ret nL d pc lv' (st) S Q) : RJ g b own ret nL d pc lv (st) S Q := by
  intro p l e R s m args below meth c H locs ls cells slots Post C D hl hc hE
  have h1 := lv_sub hl ks hs
  exact k p l e R s m args below meth c H locs ls cells slots Post C D h1 hc hE
theorem J_iadd {x y : Int32} (hd : decode b pc = .ok (.iadd, 1)) (k : RJ g b own ret nL d (pc + 1) lv (.int (x + y) :: st) S Q) : RJ g b own ret nL d pc lv (.int y :: .int x :: st) S Q := by
  intro p l e R s m args below meth c H locs ls cells slots Post C D hl hc hE
  exact lv_iadd C.1 C.2.1 hd (k p l e R s m args below meth c H locs ls cells slots Post C D hl hc hE)
theorem J_isub {x y : Int32} (hd : decode b pc = .ok (.isub, 1)) (k : RJ g b own ret nL d (pc + 1) lv (.int (x - y) :: st) S Q) : RJ g b own ret nL d pc lv (.int y :: .int x :: st) S Q := by
  intro p l e R s m args below meth c H locs ls cells slots Post C D hl hc hE
  exact lv_isub C.1 C.2.1 hd (k p l e R s m args below meth c H locs ls cells slots Post C D hl hc hE)
theorem J_imul {x y : Int32} (hd : decode b pc = .ok (.imul, 1)) (k : RJ g b own ret nL d (pc + 1) lv (.int (x * y) :: st) S Q) : RJ g b own ret nL d pc lv (.int y :: .int x :: st) S Q := by
  intro p l e R s m args below meth c H locs ls cells slots Post C D hl hc hE
  exact lv_imul C.1 C.2.1 hd (k p l e R s m args below meth c H locs ls cells slots Post C D hl hc hE)
theorem J_iand {x y : Int32} (hd : decode b pc = .ok (.iand, 1)) (k : RJ g b own ret nL d (pc + 1) lv (.int (x &&& y) :: st) S Q) : RJ g b own ret nL d pc lv (.int y :: .int x :: st) S Q := by
  intro p l e R s m args below meth c H locs ls cells slots Post C D hl hc hE
  exact lv_iand C.1 C.2.1 hd (k p l e R s m args below meth c H locs ls cells slots Post C D hl hc hE)
theorem J_ior {x y : Int32} (hd : decode b pc = .ok (.ior, 1)) (k : RJ g b own ret nL d (pc + 1) lv (.int (x ||| y) :: st) S Q) : RJ g b own ret nL d pc lv (.int y :: .int x :: st) S Q := by
  intro p l e R s m args below meth c H locs ls cells slots Post C D hl hc hE
  exact lv_ior C.1 C.2.1 hd (k p l e R s m args below meth c H locs ls cells slots Post C D hl hc hE)
theorem J_ixor {x y : Int32} (hd : decode b pc = .ok (.ixor, 1)) (k : RJ g b own ret nL d (pc + 1) lv (.int (x ^^^ y) :: st) S Q) : RJ g b own ret nL d pc lv (.int y :: .int x :: st) S Q := by
  intro p l e R s m args below meth c H locs ls cells slots Post C D hl hc hE
  exact lv_ixor C.1 C.2.1 hd (k p l e R s m args below meth c H locs ls cells slots Post C D hl hc hE)
theorem J_ishl {x y : Int32} (hd : decode b pc = .ok (.ishl, 1)) (k : RJ g b own ret nL d (pc + 1) lv (.int (x <<< (y &&& 31)) :: st) S Q) : RJ g b own ret nL d pc lv (.int y :: .int x :: st) S Q := by
  intro p l e R s m args below meth c H locs ls cells slots Post C D hl hc hE
  exact lv_ishl C.1 C.2.1 hd (k p l e R s m args below meth c H locs ls cells slots Post C D hl hc hE)
theorem J_ishr {x y : Int32} (hd : decode b pc = .ok (.ishr, 1)) (k : RJ g b own ret nL d (pc + 1) lv (.int (x >>> (y &&& 31)) :: st) S Q) : RJ g b own ret nL d pc lv (.int y :: .int x :: st) S Q := by
  intro p l e R s m args below meth c H locs ls cells slots Post C D hl hc hE
  exact lv_ishr C.1 C.2.1 hd (k p l e R s m args below meth c H locs ls cells slots Post C D hl hc hE)
theorem J_ladd {x y : Int64} (hd : decode b pc = .ok (.ladd, 1)) (k : RJ g b own ret nL d (pc + 1) lv (.long (x + y) :: st) S Q) : RJ g b own ret nL d pc lv (.long y :: .long x :: st) S Q := by
  intro p l e R s m args below meth c H locs ls cells slots Post C D hl hc hE
  exact lv_ladd C.1 C.2.1 hd (k p l e R s m args below meth c H locs ls cells slots Post C D hl hc hE)
theorem J_lsub {x y : Int64} (hd : decode b pc = .ok (.lsub, 1)) (k : RJ g b own ret nL d (pc + 1) lv (.long (x - y) :: st) S Q) : RJ g b own ret nL d pc lv (.long y :: .long x :: st) S Q := by
  intro p l e R s m args below meth c H locs ls cells slots Post C D hl hc hE
  exact lv_lsub C.1 C.2.1 hd (k p l e R s m args below meth c H locs ls cells slots Post C D hl hc hE)
theorem J_lmul {x y : Int64} (hd : decode b pc = .ok (.lmul, 1)) (k : RJ g b own ret nL d (pc + 1) lv (.long (x * y) :: st) S Q) : RJ g b own ret nL d pc lv (.long y :: .long x :: st) S Q := by
  intro p l e R s m args below meth c H locs ls cells slots Post C D hl hc hE
  exact lv_lmul C.1 C.2.1 hd (k p l e R s m args below meth c H locs ls cells slots Post C D hl hc hE)
theorem J_land {x y : Int64} (hd : decode b pc = .ok (.land, 1)) (k : RJ g b own ret nL d (pc + 1) lv (.long (x &&& y) :: st) S Q) : RJ g b own ret nL d pc lv (.long y :: .long x :: st) S Q := by
  intro p l e R s m args below meth c H locs ls cells slots Post C D hl hc hE
  exact lv_land C.1 C.2.1 hd (k p l e R s m args below meth c H locs ls cells slots Post C D hl hc hE)
theorem J_lor {x y : Int64} (hd : decode b pc = .ok (.lor, 1)) (k : RJ g b own ret nL d (pc + 1) lv (.long (x ||| y) :: st) S Q) : RJ g b own ret nL d pc lv (.long y :: .long x :: st) S Q := by
  intro p l e R s m args below meth c H locs ls cells slots Post C D hl hc hE
  exact lv_lor C.1 C.2.1 hd (k p l e R s m args below meth c H locs ls cells slots Post C D hl hc hE)
theorem J_lxor {x y : Int64} (hd : decode b pc = .ok (.lxor, 1)) (k : RJ g b own ret nL d (pc + 1) lv (.long (x ^^^ y) :: st) S Q) : RJ g b own ret nL d pc lv (.long y :: .long x :: st) S Q := by
  intro p l e R s m args below meth c H locs ls cells slots Post C D hl hc hE
  exact lv_lxor C.1 C.2.1 hd (k p l e R s m args below meth c H locs ls cells slots Post C D hl hc hE)
theorem J_ineg {x : Int32} (hd : decode b pc = .ok (.ineg, 1)) (k : RJ g b own ret nL d (pc + 1) lv (.int (-x) :: st) S Q) : RJ g b own ret nL d pc lv (.int x :: st) S Q := by
  intro p l e R s m args below meth c H locs ls cells slots Post C D hl hc hE
  exact lv_ineg C.1 C.2.1 hd (k p l e R s m args below meth c H locs ls cells slots Post C D hl hc hE)
theorem J_idiv {x y : Int32} (hd : decode b pc = .ok (.idiv, 1)) (hne : ¬ y = 0) (k : RJ g b own ret nL d (pc + 1) lv (.int (x / y) :: st) S Q) : RJ g b own ret nL d pc lv (.int y :: .int x :: st) S Q := by
  intro p l e R s m args below meth c H locs ls cells slots Post C D hl hc hE
  exact lv_idiv C.1 C.2.1 hd hne (k p l e R s m args below meth c H locs ls cells slots Post C D hl hc hE)
theorem J_irem {x y : Int32} (hd : decode b pc = .ok (.irem, 1)) (hne : ¬ y = 0) (k : RJ g b own ret nL d (pc + 1) lv (.int (x - x / y * y) :: st) S Q) : RJ g b own ret nL d pc lv (.int y :: .int x :: st) S Q := by
  intro p l e R s m args below meth c H locs ls cells slots Post C D hl hc hE
  exact lv_irem C.1 C.2.1 hd hne (k p l e R s m args below meth c H locs ls cells slots Post C D hl hc hE)
theorem J_lrem {x y : Int64} (hd : decode b pc = .ok (.lrem, 1)) (hne : ¬ y = 0) (k : RJ g b own ret nL d (pc + 1) lv (.long (x - x / y * y) :: st) S Q) : RJ g b own ret nL d pc lv (.long y :: .long x :: st) S Q := by
  intro p l e R s m args below meth c H locs ls cells slots Post C D hl hc hE
  exact lv_lrem C.1 C.2.1 hd hne (k p l e R s m args below meth c H locs ls cells slots Post C D hl hc hE)
theorem J_iushr {x y : Int32} (hd : decode b pc = .ok (.iushr, 1)) (k : RJ g b own ret nL d (pc + 1) lv (.int ((x.toUInt32 >>> (y.toUInt32 &&& Int32.toUInt32 31)).toInt32) :: st) S Q) : RJ g b own ret nL d pc lv (.int y :: .int x :: st) S Q := by
  intro p l e R s m args below meth c H locs ls cells slots Post C D hl hc hE
  exact lv_iushr C.1 C.2.1 hd rfl (k p l e R s m args below meth c H locs ls cells slots Post C D hl hc hE)
theorem J_lshl {x : Int64} {y : Int32} (hd : decode b pc = .ok (.lshl, 1)) (k : RJ g b own ret nL d (pc + 1) lv (.long (x <<< (y.toInt64 &&& 63)) :: st) S Q) : RJ g b own ret nL d pc lv (.int y :: .long x :: st) S Q := by
  intro p l e R s m args below meth c H locs ls cells slots Post C D hl hc hE
  exact lv_lshl C.1 C.2.1 hd rfl (k p l e R s m args below meth c H locs ls cells slots Post C D hl hc hE)
theorem J_lshr {x : Int64} {y : Int32} (hd : decode b pc = .ok (.lshr, 1)) (k : RJ g b own ret nL d (pc + 1) lv (.long (x >>> (y.toInt64 &&& 63)) :: st) S Q) : RJ g b own ret nL d pc lv (.int y :: .long x :: st) S Q := by
  intro p l e R s m args below meth c H locs ls cells slots Post C D hl hc hE
  exact lv_lshr C.1 C.2.1 hd rfl (k p l e R s m args below meth c H locs ls cells slots Post C D hl hc hE)
theorem J_i2l {x : Int32} (hd : decode b pc = .ok (.i2l, 1)) (k : RJ g b own ret nL d (pc + 1) lv (.long (x.toInt64) :: st) S Q) : RJ g b own ret nL d pc lv (.int x :: st) S Q := by
  intro p l e R s m args below meth c H locs ls cells slots Post C D hl hc hE
  exact lv_i2l C.1 C.2.1 hd rfl (k p l e R s m args below meth c H locs ls cells slots Post C D hl hc hE)
theorem J_l2i {x : Int64} (hd : decode b pc = .ok (.l2i, 1)) (k : RJ g b own ret nL d (pc + 1) lv (.int (x.toInt32) :: st) S Q) : RJ g b own ret nL d pc lv (.long x :: st) S Q := by
  intro p l e R s m args below meth c H locs ls cells slots Post C D hl hc hE
  exact lv_l2i C.1 C.2.1 hd rfl (k p l e R s m args below meth c H locs ls cells slots Post C D hl hc hE)
theorem J_i2b {x : Int32} (hd : decode b pc = .ok (.i2b, 1)) (k : RJ g b own ret nL d (pc + 1) lv (.int (x.toInt8.toInt32) :: st) S Q) : RJ g b own ret nL d pc lv (.int x :: st) S Q := by
  intro p l e R s m args below meth c H locs ls cells slots Post C D hl hc hE
  exact lv_i2b C.1 C.2.1 hd rfl (k p l e R s m args below meth c H locs ls cells slots Post C D hl hc hE)
theorem J_i2s {x : Int32} (hd : decode b pc = .ok (.i2s, 1)) (k : RJ g b own ret nL d (pc + 1) lv (.int (x.toInt16.toInt32) :: st) S Q) : RJ g b own ret nL d pc lv (.int x :: st) S Q := by
  intro p l e R s m args below meth c H locs ls cells slots Post C D hl hc hE
  exact lv_i2s C.1 C.2.1 hd rfl (k p l e R s m args below meth c H locs ls cells slots Post C D hl hc hE)
theorem J_dup {v : Value} (hd : decode b pc = .ok (.dup, 1)) (hv : v.category = 1) (k : RJ g b own ret nL d (pc + 1) lv (v :: v :: st) S Q) : RJ g b own ret nL d pc lv (v :: st) S Q := by
  intro p l e R s m args below meth c H locs ls cells slots Post C D hl hc hE
  exact lv_dup C.1 C.2.1 hd hv (k p l e R s m args below meth c H locs ls cells slots Post C D hl hc hE)
theorem J_pop {v : Value} (hd : decode b pc = .ok (.pop, 1)) (hv : v.category = 1) (k : RJ g b own ret nL d (pc + 1) lv (st) S Q) : RJ g b own ret nL d pc lv (v :: st) S Q := by
  intro p l e R s m args below meth c H locs ls cells slots Post C D hl hc hE
  exact lv_pop C.1 C.2.1 hd hv (k p l e R s m args below meth c H locs ls cells slots Post C D hl hc hE)
theorem J_dup_x1 {v w : Value} (hd : decode b pc = .ok (.dup_x1, 1)) (hv : v.category = 1) (hw : w.category = 1) (k : RJ g b own ret nL d (pc + 1) lv (v :: w :: v :: st) S Q) : RJ g b own ret nL d pc lv (v :: w :: st) S Q := by
  intro p l e R s m args below meth c H locs ls cells slots Post C D hl hc hE
  exact lv_dup_x1 C.1 C.2.1 hd hv hw (k p l e R s m args below meth c H locs ls cells slots Post C D hl hc hE)
theorem J_fadd {x y : UInt32} (hd : decode b pc = .ok (.fadd, 1)) (hne : vf_n32 (FP.fadd x y)) (k : RJ g b own ret nL d (pc + 1) lv (.float (FP.fadd x y) :: st) S Q) : RJ g b own ret nL d pc lv (.float y :: .float x :: st) S Q := by
  intro p l e R s m args below meth c H locs ls cells slots Post C D hl hc hE
  exact lv_fadd C.1 C.2.1 hd hne (k p l e R s m args below meth c H locs ls cells slots Post C D hl hc hE)
theorem J_fmul {x y : UInt32} (hd : decode b pc = .ok (.fmul, 1)) (hne : vf_n32 (FP.fmul x y)) (k : RJ g b own ret nL d (pc + 1) lv (.float (FP.fmul x y) :: st) S Q) : RJ g b own ret nL d pc lv (.float y :: .float x :: st) S Q := by
  intro p l e R s m args below meth c H locs ls cells slots Post C D hl hc hE
  exact lv_fmul C.1 C.2.1 hd hne (k p l e R s m args below meth c H locs ls cells slots Post C D hl hc hE)
theorem J_fdiv {x y : UInt32} (hd : decode b pc = .ok (.fdiv, 1)) (hne : vf_n32 (FP.fdiv x y)) (k : RJ g b own ret nL d (pc + 1) lv (.float (FP.fdiv x y) :: st) S Q) : RJ g b own ret nL d pc lv (.float y :: .float x :: st) S Q := by
  intro p l e R s m args below meth c H locs ls cells slots Post C D hl hc hE
  exact lv_fdiv C.1 C.2.1 hd hne (k p l e R s m args below meth c H locs ls cells slots Post C D hl hc hE)
theorem J_dsub {x y : UInt64} (hd : decode b pc = .ok (.dsub, 1)) (hne : vf_n64 (FP.dsub x y)) (k : RJ g b own ret nL d (pc + 1) lv (.double (FP.dsub x y) :: st) S Q) : RJ g b own ret nL d pc lv (.double y :: .double x :: st) S Q := by
  intro p l e R s m args below meth c H locs ls cells slots Post C D hl hc hE
  exact lv_dsub C.1 C.2.1 hd hne (k p l e R s m args below meth c H locs ls cells slots Post C D hl hc hE)
theorem J_dmul {x y : UInt64} (hd : decode b pc = .ok (.dmul, 1)) (hne : vf_n64 (FP.dmul x y)) (k : RJ g b own ret nL d (pc + 1) lv (.double (FP.dmul x y) :: st) S Q) : RJ g b own ret nL d pc lv (.double y :: .double x :: st) S Q := by
  intro p l e R s m args below meth c H locs ls cells slots Post C D hl hc hE
  exact lv_dmul C.1 C.2.1 hd hne (k p l e R s m args below meth c H locs ls cells slots Post C D hl hc hE)
theorem J_ddiv {x y : UInt64} (hd : decode b pc = .ok (.ddiv, 1)) (hne : vf_n64 (FP.ddiv x y)) (k : RJ g b own ret nL d (pc + 1) lv (.double (FP.ddiv x y) :: st) S Q) : RJ g b own ret nL d pc lv (.double y :: .double x :: st) S Q := by
  intro p l e R s m args below meth c H locs ls cells slots Post C D hl hc hE
  exact lv_ddiv C.1 C.2.1 hd hne (k p l e R s m args below meth c H locs ls cells slots Post C D hl hc hE)
theorem J_fcmp {x y : UInt32} {op : CmpOp} (hd : decode b pc = .ok (.fcmp op, 1)) (k : RJ g b own ret nL d (pc + 1) lv (.int (Op.cmpValue (FP.fcmp x y) op) :: st) S Q) : RJ g b own ret nL d pc lv (.float y :: .float x :: st) S Q := by
  intro p l e R s m args below meth c H locs ls cells slots Post C D hl hc hE
  exact lv_fcmp C.1 C.2.1 hd (k p l e R s m args below meth c H locs ls cells slots Post C D hl hc hE)
theorem J_dcmp {x y : UInt64} {op : CmpOp} (hd : decode b pc = .ok (.dcmp op, 1)) (k : RJ g b own ret nL d (pc + 1) lv (.int (Op.cmpValue (FP.dcmp x y) op) :: st) S Q) : RJ g b own ret nL d pc lv (.double y :: .double x :: st) S Q := by
  intro p l e R s m args below meth c H locs ls cells slots Post C D hl hc hE
  exact lv_dcmp C.1 C.2.1 hd (k p l e R s m args below meth c H locs ls cells slots Post C D hl hc hE)
theorem J_i2f {x : Int32} (hd : decode b pc = .ok (.i2f, 1)) (k : RJ g b own ret nL d (pc + 1) lv (.float (FP.i2f x) :: st) S Q) : RJ g b own ret nL d pc lv (.int x :: st) S Q := by
  intro p l e R s m args below meth c H locs ls cells slots Post C D hl hc hE
  exact lv_i2f C.1 C.2.1 hd (k p l e R s m args below meth c H locs ls cells slots Post C D hl hc hE)
theorem J_i2d {x : Int32} (hd : decode b pc = .ok (.i2d, 1)) (k : RJ g b own ret nL d (pc + 1) lv (.double (FP.i2d x) :: st) S Q) : RJ g b own ret nL d pc lv (.int x :: st) S Q := by
  intro p l e R s m args below meth c H locs ls cells slots Post C D hl hc hE
  exact lv_i2d C.1 C.2.1 hd (k p l e R s m args below meth c H locs ls cells slots Post C D hl hc hE)
theorem J_d2l {x : UInt64} (hd : decode b pc = .ok (.d2l, 1)) (k : RJ g b own ret nL d (pc + 1) lv (.long (FP.d2l x) :: st) S Q) : RJ g b own ret nL d pc lv (.double x :: st) S Q := by
  intro p l e R s m args below meth c H locs ls cells slots Post C D hl hc hE
  exact lv_d2l C.1 C.2.1 hd (k p l e R s m args below meth c H locs ls cells slots Post C D hl hc hE)
theorem J_f2d {x : UInt32} (hd : decode b pc = .ok (.f2d, 1)) (hne : vf_n64 (FP.f2d x)) (k : RJ g b own ret nL d (pc + 1) lv (.double (FP.f2d x) :: st) S Q) : RJ g b own ret nL d pc lv (.float x :: st) S Q := by
  intro p l e R s m args below meth c H locs ls cells slots Post C D hl hc hE
  exact lv_f2d C.1 C.2.1 hd hne (k p l e R s m args below meth c H locs ls cells slots Post C D hl hc hE)
theorem J_ldc {index : Nat} {v : Int32} (hd : decode b pc = .ok (.ldc index, 2)) (hw : Cond.constant own index v ∈ lw_gd) (k : RJ g b own ret nL d (pc + 2) lv (.int v :: st) S Q) : RJ g b own ret nL d pc lv (st) S Q := by
  intro p l e R s m args below meth c H locs ls cells slots Post C D hl hc hE
  exact lv_ldc C.1 C.2.1 C.2.2.2.1 (C.2.2.2.2.1 _ hw) hd (k p l e R s m args below meth c H locs ls cells slots Post C D hl hc hE)
theorem J_ldcw {index : Nat} {v : Int32} (hd : decode b pc = .ok (.ldc_w index, 3)) (hw : Cond.constant own index v ∈ lw_gd) (k : RJ g b own ret nL d (pc + 3) lv (.int v :: st) S Q) : RJ g b own ret nL d pc lv (st) S Q := by
  intro p l e R s m args below meth c H locs ls cells slots Post C D hl hc hE
  exact lv_ldcw C.1 C.2.1 C.2.2.2.1 (C.2.2.2.2.1 _ hw) hd (k p l e R s m args below meth c H locs ls cells slots Post C D hl hc hE)
theorem J_ldc2 {index : Nat} {v : Int64} (hd : decode b pc = .ok (.ldc2_w index, 3)) (hw : Cond.constantLong own index v ∈ lw_gd) (k : RJ g b own ret nL d (pc + 3) lv (.long v :: st) S Q) : RJ g b own ret nL d pc lv (st) S Q := by
  intro p l e R s m args below meth c H locs ls cells slots Post C D hl hc hE
  exact lv_ldc2 C.1 C.2.1 C.2.2.2.1 (C.2.2.2.2.1 _ hw) hd (k p l e R s m args below meth c H locs ls cells slots Post C D hl hc hE)
theorem J_ldc2d {index : Nat} {v : UInt64} (hd : decode b pc = .ok (.ldc2_w index, 3)) (hw : Cond.constantDouble own index v ∈ lw_gd) (k : RJ g b own ret nL d (pc + 3) lv (.double v :: st) S Q) : RJ g b own ret nL d pc lv (st) S Q := by
  intro p l e R s m args below meth c H locs ls cells slots Post C D hl hc hE
  exact lv_ldc2d C.1 C.2.1 C.2.2.2.1 (C.2.2.2.2.1 _ hw) hd (k p l e R s m args below meth c H locs ls cells slots Post C D hl hc hE)
theorem J_if_eq {x : Int32} {off : Int} {tgt : Nat} (hd : decode b pc = .ok (.ifCond .eq off, 3)) (ht : (pc : Int) + off = (tgt : Int)) (kt : x = 0 → RJ g b own ret nL d tgt lv (st) S Q) (kf : ¬ x = 0 → RJ g b own ret nL d (pc + 3) lv (st) S Q) : RJ g b own ret nL d pc lv (.int x :: st) S Q := by
  intro p l e R s m args below meth c H locs ls cells slots Post C D hl hc hE
  exact lv_if_eq C.1 C.2.1 hd ht (fun h => kt h p l e R s m args below meth c H locs ls cells slots Post C D hl hc hE) (fun h => kf h p l e R s m args below meth c H locs ls cells slots Post C D hl hc hE)
theorem J_icmp_eq {x y : Int32} {off : Int} {tgt : Nat} (hd : decode b pc = .ok (.if_icmp .eq off, 3)) (ht : (pc : Int) + off = (tgt : Int)) (kt : x = y → RJ g b own ret nL d tgt lv (st) S Q) (kf : ¬ x = y → RJ g b own ret nL d (pc + 3) lv (st) S Q) : RJ g b own ret nL d pc lv (.int y :: .int x :: st) S Q := by
  intro p l e R s m args below meth c H locs ls cells slots Post C D hl hc hE
  exact lv_icmp_eq C.1 C.2.1 hd ht (fun h => kt h p l e R s m args below meth c H locs ls cells slots Post C D hl hc hE) (fun h => kf h p l e R s m args below meth c H locs ls cells slots Post C D hl hc hE)
theorem J_if_ne {x : Int32} {off : Int} {tgt : Nat} (hd : decode b pc = .ok (.ifCond .ne off, 3)) (ht : (pc : Int) + off = (tgt : Int)) (kt : ¬ x = 0 → RJ g b own ret nL d tgt lv (st) S Q) (kf : x = 0 → RJ g b own ret nL d (pc + 3) lv (st) S Q) : RJ g b own ret nL d pc lv (.int x :: st) S Q := by
  intro p l e R s m args below meth c H locs ls cells slots Post C D hl hc hE
  exact lv_if_ne C.1 C.2.1 hd ht (fun h => kt h p l e R s m args below meth c H locs ls cells slots Post C D hl hc hE) (fun h => kf h p l e R s m args below meth c H locs ls cells slots Post C D hl hc hE)
theorem J_icmp_ne {x y : Int32} {off : Int} {tgt : Nat} (hd : decode b pc = .ok (.if_icmp .ne off, 3)) (ht : (pc : Int) + off = (tgt : Int)) (kt : ¬ x = y → RJ g b own ret nL d tgt lv (st) S Q) (kf : x = y → RJ g b own ret nL d (pc + 3) lv (st) S Q) : RJ g b own ret nL d pc lv (.int y :: .int x :: st) S Q := by
  intro p l e R s m args below meth c H locs ls cells slots Post C D hl hc hE
  exact lv_icmp_ne C.1 C.2.1 hd ht (fun h => kt h p l e R s m args below meth c H locs ls cells slots Post C D hl hc hE) (fun h => kf h p l e R s m args below meth c H locs ls cells slots Post C D hl hc hE)
theorem J_if_lt {x : Int32} {off : Int} {tgt : Nat} (hd : decode b pc = .ok (.ifCond .lt off, 3)) (ht : (pc : Int) + off = (tgt : Int)) (kt : x < 0 → RJ g b own ret nL d tgt lv (st) S Q) (kf : ¬ x < 0 → RJ g b own ret nL d (pc + 3) lv (st) S Q) : RJ g b own ret nL d pc lv (.int x :: st) S Q := by
  intro p l e R s m args below meth c H locs ls cells slots Post C D hl hc hE
  exact lv_if_lt C.1 C.2.1 hd ht (fun h => kt h p l e R s m args below meth c H locs ls cells slots Post C D hl hc hE) (fun h => kf h p l e R s m args below meth c H locs ls cells slots Post C D hl hc hE)
theorem J_icmp_lt {x y : Int32} {off : Int} {tgt : Nat} (hd : decode b pc = .ok (.if_icmp .lt off, 3)) (ht : (pc : Int) + off = (tgt : Int)) (kt : x < y → RJ g b own ret nL d tgt lv (st) S Q) (kf : ¬ x < y → RJ g b own ret nL d (pc + 3) lv (st) S Q) : RJ g b own ret nL d pc lv (.int y :: .int x :: st) S Q := by
  intro p l e R s m args below meth c H locs ls cells slots Post C D hl hc hE
  exact lv_icmp_lt C.1 C.2.1 hd ht (fun h => kt h p l e R s m args below meth c H locs ls cells slots Post C D hl hc hE) (fun h => kf h p l e R s m args below meth c H locs ls cells slots Post C D hl hc hE)
theorem J_if_ge {x : Int32} {off : Int} {tgt : Nat} (hd : decode b pc = .ok (.ifCond .ge off, 3)) (ht : (pc : Int) + off = (tgt : Int)) (kt : 0 ≤ x → RJ g b own ret nL d tgt lv (st) S Q) (kf : ¬ 0 ≤ x → RJ g b own ret nL d (pc + 3) lv (st) S Q) : RJ g b own ret nL d pc lv (.int x :: st) S Q := by
  intro p l e R s m args below meth c H locs ls cells slots Post C D hl hc hE
  exact lv_if_ge C.1 C.2.1 hd ht (fun h => kt h p l e R s m args below meth c H locs ls cells slots Post C D hl hc hE) (fun h => kf h p l e R s m args below meth c H locs ls cells slots Post C D hl hc hE)
theorem J_icmp_ge {x y : Int32} {off : Int} {tgt : Nat} (hd : decode b pc = .ok (.if_icmp .ge off, 3)) (ht : (pc : Int) + off = (tgt : Int)) (kt : y ≤ x → RJ g b own ret nL d tgt lv (st) S Q) (kf : ¬ y ≤ x → RJ g b own ret nL d (pc + 3) lv (st) S Q) : RJ g b own ret nL d pc lv (.int y :: .int x :: st) S Q := by
  intro p l e R s m args below meth c H locs ls cells slots Post C D hl hc hE
  exact lv_icmp_ge C.1 C.2.1 hd ht (fun h => kt h p l e R s m args below meth c H locs ls cells slots Post C D hl hc hE) (fun h => kf h p l e R s m args below meth c H locs ls cells slots Post C D hl hc hE)
theorem J_if_gt {x : Int32} {off : Int} {tgt : Nat} (hd : decode b pc = .ok (.ifCond .gt off, 3)) (ht : (pc : Int) + off = (tgt : Int)) (kt : 0 < x → RJ g b own ret nL d tgt lv (st) S Q) (kf : ¬ 0 < x → RJ g b own ret nL d (pc + 3) lv (st) S Q) : RJ g b own ret nL d pc lv (.int x :: st) S Q := by
  intro p l e R s m args below meth c H locs ls cells slots Post C D hl hc hE
  exact lv_if_gt C.1 C.2.1 hd ht (fun h => kt h p l e R s m args below meth c H locs ls cells slots Post C D hl hc hE) (fun h => kf h p l e R s m args below meth c H locs ls cells slots Post C D hl hc hE)
theorem J_icmp_gt {x y : Int32} {off : Int} {tgt : Nat} (hd : decode b pc = .ok (.if_icmp .gt off, 3)) (ht : (pc : Int) + off = (tgt : Int)) (kt : y < x → RJ g b own ret nL d tgt lv (st) S Q) (kf : ¬ y < x → RJ g b own ret nL d (pc + 3) lv (st) S Q) : RJ g b own ret nL d pc lv (.int y :: .int x :: st) S Q := by
  intro p l e R s m args below meth c H locs ls cells slots Post C D hl hc hE
  exact lv_icmp_gt C.1 C.2.1 hd ht (fun h => kt h p l e R s m args below meth c H locs ls cells slots Post C D hl hc hE) (fun h => kf h p l e R s m args below meth c H locs ls cells slots Post C D hl hc hE)
theorem J_if_le {x : Int32} {off : Int} {tgt : Nat} (hd : decode b pc = .ok (.ifCond .le off, 3)) (ht : (pc : Int) + off = (tgt : Int)) (kt : x ≤ 0 → RJ g b own ret nL d tgt lv (st) S Q) (kf : ¬ x ≤ 0 → RJ g b own ret nL d (pc + 3) lv (st) S Q) : RJ g b own ret nL d pc lv (.int x :: st) S Q := by
  intro p l e R s m args below meth c H locs ls cells slots Post C D hl hc hE
  exact lv_if_le C.1 C.2.1 hd ht (fun h => kt h p l e R s m args below meth c H locs ls cells slots Post C D hl hc hE) (fun h => kf h p l e R s m args below meth c H locs ls cells slots Post C D hl hc hE)
theorem J_icmp_le {x y : Int32} {off : Int} {tgt : Nat} (hd : decode b pc = .ok (.if_icmp .le off, 3)) (ht : (pc : Int) + off = (tgt : Int)) (kt : x ≤ y → RJ g b own ret nL d tgt lv (st) S Q) (kf : ¬ x ≤ y → RJ g b own ret nL d (pc + 3) lv (st) S Q) : RJ g b own ret nL d pc lv (.int y :: .int x :: st) S Q := by
  intro p l e R s m args below meth c H locs ls cells slots Post C D hl hc hE
  exact lv_icmp_le C.1 C.2.1 hd ht (fun h => kt h p l e R s m args below meth c H locs ls cells slots Post C D hl hc hE) (fun h => kf h p l e R s m args below meth c H locs ls cells slots Post C D hl hc hE)
theorem J_goto {off : Int} {tgt : Nat} (hd : decode b pc = .ok (.goto off, 3)) (ht : (pc : Int) + off = (tgt : Int)) (k : RJ g b own ret nL d tgt lv (st) S Q) : RJ g b own ret nL d pc lv (st) S Q := by
  intro p l e R s m args below meth c H locs ls cells slots Post C D hl hc hE
  exact lv_goto C.1 C.2.1 hd ht (k p l e R s m args below meth c H locs ls cells slots Post C D hl hc hE)
theorem J_lcmp {x y : Int64} (hd : decode b pc = .ok (.lcmp, 1)) (k : RJ g b own ret nL d (pc + 1) lv (.int (lg_cmp x y) :: st) S Q) : RJ g b own ret nL d pc lv (.long y :: .long x :: st) S Q := by
  intro p l e R s m args below meth c H locs ls cells slots Post C D hl hc hE
  exact W.lcmp C.1 C.2.1 hd (k p l e R s m args below meth c H locs ls cells slots Post C D hl hc hE)
theorem J_tableIn {dflt lo hi : Int} {offs : Array Int} {len : Nat} {x : Int32} {off : Int} {tgt : Nat} (hd : decode b pc = .ok (.tableswitch dflt lo hi offs, len)) (h1 : ¬ x.toInt < lo) (h2 : ¬ hi < x.toInt) (ho : offs[(x.toInt - lo).toNat]? = some off) (ht : (pc : Int) + off = (tgt : Int)) (k : RJ g b own ret nL d tgt lv (st) S Q) : RJ g b own ret nL d pc lv (.int x :: st) S Q := by
  intro p l e R s m args below meth c H locs ls cells slots Post C D hl hc hE
  exact lv_tableIn C.1 C.2.1 hd h1 h2 ho ht (k p l e R s m args below meth c H locs ls cells slots Post C D hl hc hE)
theorem J_tableOut {dflt lo hi : Int} {offs : Array Int} {len : Nat} {x : Int32} {tgt : Nat} (hd : decode b pc = .ok (.tableswitch dflt lo hi offs, len)) (h : x.toInt < lo ∨ hi < x.toInt) (ht : (pc : Int) + dflt = (tgt : Int)) (k : RJ g b own ret nL d tgt lv (st) S Q) : RJ g b own ret nL d pc lv (.int x :: st) S Q := by
  intro p l e R s m args below meth c H locs ls cells slots Post C D hl hc hE
  exact lv_tableOut C.1 C.2.1 hd h ht (k p l e R s m args below meth c H locs ls cells slots Post C D hl hc hE)
theorem J_topi {x : Int32} (k : ∀ y : Int32, y = x → RJ g b own ret nL d pc lv (.int y :: st) S Q) : RJ g b own ret nL d pc lv (.int x :: st) S Q := k x rfl
theorem J_topl {x : Int64} (k : ∀ y : Int64, y = x → RJ g b own ret nL d pc lv (.long y :: st) S Q) : RJ g b own ret nL d pc lv (.long x :: st) S Q := k x rfl
theorem J_topf {x : UInt32} (k : ∀ y : UInt32, y = x → RJ g b own ret nL d pc lv (.float y :: st) S Q) : RJ g b own ret nL d pc lv (.float x :: st) S Q := k x rfl
theorem J_topd {x : UInt64} (k : ∀ y : UInt64, y = x → RJ g b own ret nL d pc lv (.double y :: st) S Q) : RJ g b own ret nL d pc lv (.double x :: st) S Q := k x rfl
theorem J_iret {x : Int32} {ty : FieldType} (hd : decode b pc = .ok (.ireturn, 1)) (hr : ret = some ty) (hn : narrow ty (.int x) = .int x) (hq : Q (some (.int x)) S) : RJ g b own ret nL d pc lv ([.int x]) S Q := by
  intro p l e R s m args below meth c H locs ls cells slots Post C D hl hc hE
  exact hE _ _ _ _ ls pc _ hq D (Or.inl ⟨x, ty, rfl, hr, hn, rfl, hd⟩)
theorem J_lret {x : Int64} (hd : decode b pc = .ok (.lreturn, 1)) (hr : ret = some .long) (hq : Q (some (.long x)) S) : RJ g b own ret nL d pc lv ([.long x]) S Q := by
  intro p l e R s m args below meth c H locs ls cells slots Post C D hl hc hE
  exact hE _ _ _ _ ls pc _ hq D (Or.inr (Or.inl ⟨x, rfl, hr, rfl, hd⟩))
theorem J_vret (hd : decode b pc = .ok (.return_, 1)) (hr : ret = none) (hq : Q none S) : RJ g b own ret nL d pc lv ([]) S Q := by
  intro p l e R s m args below meth c H locs ls cells slots Post C D hl hc hE
  exact hE _ _ _ _ ls pc _ hq D (Or.inr (Or.inr (Or.inl ⟨rfl, hr, rfl, hd⟩)))
theorem J_aret {a : Nat} {n : String} (hd : decode b pc = .ok (.areturn, 1)) (hr : ret = some (.object n)) (hq : Q (some (.ref a)) S) : RJ g b own ret nL d pc lv ([.ref a]) S Q := by
  intro p l e R s m args below meth c H locs ls cells slots Post C D hl hc hE
  exact hE _ _ _ _ ls pc _ hq D (Or.inr (Or.inr (Or.inr ⟨a, n, rfl, hr, rfl, hd⟩)))
theorem J_geti {C : String} {T : u_T} {N ci h index : Nat} (hd : decode b pc = .ok (.getfield index, 3)) (f : Nat) (hc : vwCl[ci]? = some (C, T, N)) (hin : ∀ w ∈ u_ws C T N, w ∈ lw_gd) (hh : kd h = ci + 5) (hf : f < N) (hN : nf ci = N) (hdc : (T f).1 = C) (hw : Cond.fieldLink own index C (T f).2.1 (T f).2.2.1 ∈ lw_gd) (hz : fo ci f = 0) (k : RJ g b own ret nL d (pc + 3) lv (.int (S.1 h f) :: st) S Q) : RJ g b own ret nL d pc lv (.ref (g.1 + h) :: st) S Q := by
  intro p l e R s m args below meth c H locs ls cells slots Post C D hl hc_ hE
  refine va_get C.1 C.2.1 C.2.2.2.2.1 hin C.2.2.2.1 C.2.2.2.2.2.1 D.1 h (by rw [wd_get g S (kd_lt hh (by have := (List.getElem?_eq_some_iff.mp hc).1; simp [vwCl] at this; omega)), ce_5 g S hh]) hc f hf (C.2.2.2.2.1 _ hw) (fun x hx => by rw [hdc] at hx; exact hx) (v := .int (S.1 h f)) (by rw [fs_get g S (by omega)]; simp [fv, hz]) hd (k p l e R s m args below meth c H locs ls cells slots Post C D hl hc_ hE)
theorem J_getr {C : String} {T : u_T} {N ci h index : Nat} (hd : decode b pc = .ok (.getfield index, 3)) (f : Nat) (hc : vwCl[ci]? = some (C, T, N)) (hin : ∀ w ∈ u_ws C T N, w ∈ lw_gd) (hh : kd h = ci + 5) (hf : f < N) (hN : nf ci = N) (hdc : (T f).1 = C) {r : Nat} (hw : Cond.fieldLink own index C (T f).2.1 (T f).2.2.1 ∈ lw_gd) (hz : ¬ fo ci f = 0) (hr : rf h f = r) (k : RJ g b own ret nL d (pc + 3) lv (.ref (g.1 + r) :: st) S Q) : RJ g b own ret nL d pc lv (.ref (g.1 + h) :: st) S Q := by
  intro p l e R s m args below meth c H locs ls cells slots Post C D hl hc_ hE
  refine va_get C.1 C.2.1 C.2.2.2.2.1 hin C.2.2.2.1 C.2.2.2.2.2.1 D.1 h (by rw [wd_get g S (kd_lt hh (by have := (List.getElem?_eq_some_iff.mp hc).1; simp [vwCl] at this; omega)), ce_5 g S hh]) hc f hf (C.2.2.2.2.1 _ hw) (fun x hx => by rw [hdc] at hx; exact hx) (v := .ref (g.1 + r)) (by rw [fs_get g S (by omega)]; simp [fv, hz, hr]) hd (k p l e R s m args below meth c H locs ls cells slots Post C D hl hc_ hE)
theorem J_puti {C : String} {T : u_T} {N ci h index : Nat} (hd : decode b pc = .ok (.putfield index, 3)) (f : Nat) (hc : vwCl[ci]? = some (C, T, N)) (hin : ∀ w ∈ u_ws C T N, w ∈ lw_gd) (hh : kd h = ci + 5) (hf : f < N) (hN : nf ci = N) (hdc : (T f).1 = C) {x : Int32} {ty : FieldType} (ty0 : Nat → FieldType) (hty : ∀ k, k < N → parseFieldDescriptor (T k).2.2.1 = some (ty0 k)) (hnm : ∀ a, a < N → ∀ b, b < N → a ≠ b → (T a).2.1 ≠ (T b).2.1) (hfin : (T f).2.2.2 = false) (hpd : parseFieldDescriptor (T f).2.2.1 = some ty) (hnr : narrow ty (.int x) = .int x) (hft : fits ty (.int x) = true) (hw : Cond.fieldLink own index C (T f).2.1 (T f).2.2.1 ∈ lw_gd) (hz : fo ci f = 0) (k : RJ g b own ret nL d (pc + 3) lv (st) (uA S h f x) Q) : RJ g b own ret nL d pc lv (.int x :: .ref (g.1 + h) :: st) S Q := by
  intro p l e R s m args below meth c H locs ls cells slots Post C D hl hc_ hE
  have hlt : h < nC := kd_lt hh (by have := (List.getElem?_eq_some_iff.mp hc).1; simp [vwCl] at this; omega)
  refine va_put C.1 C.2.1 C.2.2.2.2.1 hin ty0 hty hnm C.2.2.2.1 C.2.2.2.2.2.1 D.1 (wd_D g S) D.2 h (by rw [wd_get g S hlt, ce_5 g S hh]) hc f hf (C.2.2.2.2.1 _ hw) (fun x hx => by rw [hdc] at hx; exact hx) hfin (v := .int x) hpd hnr hft (by simp; omega) hd (fun H1 locs1 hP _ hS => ?_)
  rw [fs_set g S x (by omega) hz, wd_set g S (uA S h f x) _ (ce_5 g _ hh) (fun q hq => ce_uA g S x hq)] at hP
  exact k p l e R s m args below meth c H1 locs1 ls cells slots Post C ⟨hP, hS⟩ hl hc_ hE
theorem J_getiN {C : String} {T : u_T} {N ci h index : Nat} (hd : decode b pc = .ok (.getfield index, 3)) (f : Nat) (hc : vwCl[ci]? = some (C, T, N)) (hin : ∀ w ∈ u_ws C T N, w ∈ lw_gd) (hh : kd h = ci + 5) (hf : f < N) (hN : nf ci = N) (hdc : (T f).1 = C) {host : String} (hw : ∀ U : State, NW U → va_Nw (Cond.fieldLinkNest own index C (T f).2.1 (T f).2.2.1 host) U) (hz : fo ci f = 0) (k : RJ g b own ret nL d (pc + 3) lv (.int (S.1 h f) :: st) S Q) : RJ g b own ret nL d pc lv (.ref (g.1 + h) :: st) S Q := by
  intro p l e R s m args below meth c H locs ls cells slots Post C D hl hc_ hE
  refine va_getN C.1 C.2.1 C.2.2.2.2.1 hin C.2.2.2.1 C.2.2.2.2.2.1 D.1 h (by rw [wd_get g S (kd_lt hh (by have := (List.getElem?_eq_some_iff.mp hc).1; simp [vwCl] at this; omega)), ce_5 g S hh]) hc f hf ((hw s C.2.2.2.2.2.2.2.2.1).use rfl) (fun x hx => by rw [hdc] at hx; exact hx) (v := .int (S.1 h f)) (by rw [fs_get g S (by omega)]; simp [fv, hz]) hd (k p l e R s m args below meth c H locs ls cells slots Post C D hl hc_ hE)
theorem J_iald {h : Nat} {i : Int32} (hd : decode b pc = .ok (.iaload, 1)) (hh : kd h = 0) (hi : vp_in i (ln h)) (k : RJ g b own ret nL d (pc + 1) lv (.int (S.1 h i.toNatClampNeg) :: st) S Q) : RJ g b own ret nL d pc lv (.int i :: .ref (g.1 + h) :: st) S Q := by
  intro p l e R s m args below meth c H locs ls cells slots Post C D hl hc hE
  exact va_iald C.1 C.2.1 C.2.2.2.2.2.1 D.1 h 0 (by rw [wd_get g S (kd_lt hh (by omega)), ce_0 g S hh]) rfl hi hd (k p l e R s m args below meth c H locs ls cells slots Post C D hl hc hE)
theorem J_zald {h : Nat} {i : Int32} (hd : decode b pc = .ok (.baload, 1)) (hh : kd h = 1) (hi : vp_in i (ln h)) (k : RJ g b own ret nL d (pc + 1) lv (.int (S.1 h i.toNatClampNeg) :: st) S Q) : RJ g b own ret nL d pc lv (.int i :: .ref (g.1 + h) :: st) S Q := by
  intro p l e R s m args below meth c H locs ls cells slots Post C D hl hc hE
  exact va_zald C.1 C.2.1 C.2.2.2.2.2.1 D.1 h 1 (by rw [wd_get g S (kd_lt hh (by omega)), ce_1 g S hh]) rfl hi hd (k p l e R s m args below meth c H locs ls cells slots Post C D hl hc hE)
theorem J_lald {h : Nat} {i : Int32} (hd : decode b pc = .ok (.laload, 1)) (hh : kd h = 2) (hi : vp_in i (ln h)) (k : RJ g b own ret nL d (pc + 1) lv (.long (S.2 h i.toNatClampNeg) :: st) S Q) : RJ g b own ret nL d pc lv (.int i :: .ref (g.1 + h) :: st) S Q := by
  intro p l e R s m args below meth c H locs ls cells slots Post C D hl hc hE
  exact va_lald C.1 C.2.1 C.2.2.2.2.2.1 D.1 h 2 (by rw [wd_get g S (kd_lt hh (by omega)), ce_2 g S hh]) rfl hi hd (k p l e R s m args below meth c H locs ls cells slots Post C D hl hc hE)
theorem wd_aald {p : Program} {l : Launch} {e : Env} {R : Room} {s : State} {m : MethodId} {args : Array Value} {below : List Frame} {meth : Method} {c : Code} {H : Heap} {locs : List Loc} {cells slots : Nat} {Q : State → Prop} {cc : ByteArray} {pc : Nat} {ls : Array Slot} {rest : List Value} {D : va_G} {cl : List vw_C} {a : Nat} {tys : List (ClassId × FieldType)} {ws : va_W}
    (hexec : p.tables.exec = Jvm.exec) (hb : c.code = cc) (hK : va_K D cl tys s) (hP : va_P D cl ws H) (q0 t0 : Nat) {cA : ClassId} {t : FieldType} {n : Nat} {f : Nat → Option Nat} (ha : ws[q0]? = some (a, .inl (cA, n, .inr (.inr (.inr (.inr f)))))) (ht : tys[t0]? = some (cA, .array t)) {i : Int32} (hin : vp_in i n) (hdg : decode cc pc = .ok (.aaload, 1))
    (kk : W p l e R s m args below meth c H locs cells slots Q (F0 m (pc + 1) ls (va_rf (f i.toNatClampNeg) :: rest))) : W p l e R s m args below meth c H locs cells slots Q (F0 m pc ls (.int i :: .ref a :: rest)) := by
  have hlt : i.toNatClampNeg < n := Nat.not_le.mp fun q => hin (Or.inr q)
  exact W.aald (v := va_rf (f i.toNatClampNeg)) (ty := .array t) hexec hb (hP q0 _ ha) ((hK.2 t0 _ ht).1 n (fun j => va_rf (f j))) rfl (fun q => by cases q) (by show ¬ (i < 0 ∨ (arrV _ _ _).slots.size ≤ _); rw [arrV_size]; exact hin) (by show (arrV _ _ _).slots[_]? = _; rw [arrV_read _ _ hlt]) rfl rfl hdg kk
theorem J_aald3 {h : Nat} {i : Int32} (hd : decode b pc = .ok (.aaload, 1)) (hh : kd h = 3) (hi : vp_in i (ln h)) (k : RJ g b own ret nL d (pc + 1) lv (.ref (g.1 + (h + 1 + i.toNatClampNeg)) :: st) S Q) : RJ g b own ret nL d pc lv (.int i :: .ref (g.1 + h) :: st) S Q := by
  intro p l e R s m args below meth c H locs ls cells slots Post C D hl hc hE
  exact wd_aald C.1 C.2.1 C.2.2.2.2.2.1 D.1 h 3 (f := fun j => some (g.1 + (h + 1 + j))) (by rw [wd_get g S (kd_lt hh (by omega)), ce_3 g S hh]) rfl hi hd (k p l e R s m args below meth c H locs ls cells slots Post C D hl hc hE)
theorem J_aald4 {h : Nat} {i : Int32} (hd : decode b pc = .ok (.aaload, 1)) (hh : kd h = 4) (hi : vp_in i (ln h)) (k : RJ g b own ret nL d (pc + 1) lv (.ref (g.1 + (h + 1 + i.toNatClampNeg)) :: st) S Q) : RJ g b own ret nL d pc lv (.int i :: .ref (g.1 + h) :: st) S Q := by
  intro p l e R s m args below meth c H locs ls cells slots Post C D hl hc hE
  exact wd_aald C.1 C.2.1 C.2.2.2.2.2.1 D.1 h 4 (f := fun j => some (g.1 + (h + 1 + j))) (by rw [wd_get g S (kd_lt hh (by omega)), ce_4 g S hh]) rfl hi hd (k p l e R s m args below meth c H locs ls cells slots Post C D hl hc hE)
theorem J_iast {h : Nat} {i x : Int32} (hd : decode b pc = .ok (.iastore, 1)) (hh : kd h = 0) (hi : vp_in i (ln h)) (k : RJ g b own ret nL d (pc + 1) lv (st) (uA S h i.toNatClampNeg x) Q) : RJ g b own ret nL d pc lv (.int x :: .int i :: .ref (g.1 + h) :: st) S Q := by
  intro p l e R s m args below meth c H locs ls cells slots Post C D hl hc hE
  refine va_iast C.1 C.2.1 C.2.2.2.2.2.1 D.1 (wd_D g S) D.2 h 0 (by rw [wd_get g S (kd_lt hh (by omega)), ce_0 g S hh]) rfl hi hd (fun H1 locs1 hP _ hS => ?_)
  rw [wd_set g S (uA S h i.toNatClampNeg x) _ (by rw [ce_0 g _ hh, uA_eq]) (fun q hq => ce_uA g S _ hq)] at hP
  exact k p l e R s m args below meth c H1 locs1 ls cells slots Post C ⟨hP, hS⟩ hl hc hE
theorem J_zast {h : Nat} {i x : Int32} (hd : decode b pc = .ok (.bastore, 1)) (hh : kd h = 1) (hi : vp_in i (ln h)) (k : RJ g b own ret nL d (pc + 1) lv (st) (uA S h i.toNatClampNeg (vp_nar .boolean x)) Q) : RJ g b own ret nL d pc lv (.int x :: .int i :: .ref (g.1 + h) :: st) S Q := by
  intro p l e R s m args below meth c H locs ls cells slots Post C D hl hc hE
  refine va_zast C.1 C.2.1 C.2.2.2.2.2.1 D.1 (wd_D g S) D.2 h 1 (by rw [wd_get g S (kd_lt hh (by omega)), ce_1 g S hh]) rfl hi hd (fun H1 locs1 hP _ hS => ?_)
  rw [wd_set g S (uA S h i.toNatClampNeg (vp_nar .boolean x)) _ (by rw [ce_1 g _ hh, uA_eq]) (fun q hq => ce_uA g S _ hq)] at hP
  exact k p l e R s m args below meth c H1 locs1 ls cells slots Post C ⟨hP, hS⟩ hl hc hE
theorem J_last {h : Nat} {i : Int32} {x : Int64} (hd : decode b pc = .ok (.lastore, 1)) (hh : kd h = 2) (hi : vp_in i (ln h)) (k : RJ g b own ret nL d (pc + 1) lv (st) (uL S h i.toNatClampNeg x) Q) : RJ g b own ret nL d pc lv (.long x :: .int i :: .ref (g.1 + h) :: st) S Q := by
  intro p l e R s m args below meth c H locs ls cells slots Post C D hl hc hE
  refine va_last C.1 C.2.1 C.2.2.2.2.2.1 D.1 (wd_D g S) D.2 h 2 (by rw [wd_get g S (kd_lt hh (by omega)), ce_2 g S hh]) rfl hi hd (fun H1 locs1 hP _ hS => ?_)
  rw [wd_set g S (uL S h i.toNatClampNeg x) _ (by rw [ce_2 g _ hh, uL_eq]) (fun q hq => ce_uL g S _ hq)] at hP
  exact k p l e R s m args below meth c H1 locs1 ls cells slots Post C ⟨hP, hS⟩ hl hc hE
theorem J_alen0 {h n : Nat} (hd : decode b pc = .ok (.arraylength, 1)) (hh : kd h = 0) (hn : ln h = n) (k : RJ g b own ret nL d (pc + 1) lv (.int (nI n) :: st) S Q) : RJ g b own ret nL d pc lv (.ref (g.1 + h) :: st) S Q := by
  intro p l e R s m args below meth c H locs ls cells slots Post C D hl hc hE
  exact va_alen C.1 C.2.1 C.2.2.2.2.2.1 D.1 h 0 (by rw [wd_get g S (kd_lt hh (by omega)), ce_0 g S hh]) rfl (v := nI n) (by show Int32.ofNat (ln h) = nI n; rw [hn]; rfl) hd (k p l e R s m args below meth c H locs ls cells slots Post C D hl hc hE)
theorem J_alen1 {h n : Nat} (hd : decode b pc = .ok (.arraylength, 1)) (hh : kd h = 1) (hn : ln h = n) (k : RJ g b own ret nL d (pc + 1) lv (.int (nI n) :: st) S Q) : RJ g b own ret nL d pc lv (.ref (g.1 + h) :: st) S Q := by
  intro p l e R s m args below meth c H locs ls cells slots Post C D hl hc hE
  exact va_alen C.1 C.2.1 C.2.2.2.2.2.1 D.1 h 1 (by rw [wd_get g S (kd_lt hh (by omega)), ce_1 g S hh]) rfl (v := nI n) (by show Int32.ofNat (ln h) = nI n; rw [hn]; rfl) hd (k p l e R s m args below meth c H locs ls cells slots Post C D hl hc hE)
theorem J_alen2 {h n : Nat} (hd : decode b pc = .ok (.arraylength, 1)) (hh : kd h = 2) (hn : ln h = n) (k : RJ g b own ret nL d (pc + 1) lv (.int (nI n) :: st) S Q) : RJ g b own ret nL d pc lv (.ref (g.1 + h) :: st) S Q := by
  intro p l e R s m args below meth c H locs ls cells slots Post C D hl hc hE
  exact va_alen C.1 C.2.1 C.2.2.2.2.2.1 D.1 h 2 (by rw [wd_get g S (kd_lt hh (by omega)), ce_2 g S hh]) rfl (v := nI n) (by show Int32.ofNat (ln h) = nI n; rw [hn]; rfl) hd (k p l e R s m args below meth c H locs ls cells slots Post C D hl hc hE)
theorem J_alen3 {h n : Nat} (hd : decode b pc = .ok (.arraylength, 1)) (hh : kd h = 3) (hn : ln h = n) (k : RJ g b own ret nL d (pc + 1) lv (.int (nI n) :: st) S Q) : RJ g b own ret nL d pc lv (.ref (g.1 + h) :: st) S Q := by
  intro p l e R s m args below meth c H locs ls cells slots Post C D hl hc hE
  exact va_alen C.1 C.2.1 C.2.2.2.2.2.1 D.1 h 3 (by rw [wd_get g S (kd_lt hh (by omega)), ce_3 g S hh]) rfl (v := nI n) (by show Int32.ofNat (ln h) = nI n; rw [hn]; rfl) hd (k p l e R s m args below meth c H locs ls cells slots Post C D hl hc hE)
theorem J_alen4 {h n : Nat} (hd : decode b pc = .ok (.arraylength, 1)) (hh : kd h = 4) (hn : ln h = n) (k : RJ g b own ret nL d (pc + 1) lv (.int (nI n) :: st) S Q) : RJ g b own ret nL d pc lv (.ref (g.1 + h) :: st) S Q := by
  intro p l e R s m args below meth c H locs ls cells slots Post C D hl hc hE
  exact va_alen C.1 C.2.1 C.2.2.2.2.2.1 D.1 h 4 (by rw [wd_get g S (kd_lt hh (by omega)), ce_4 g S hh]) rfl (v := nI n) (by show Int32.ofNat (ln h) = nI n; rw [hn]; rfl) hd (k p l e R s m args below meth c H locs ls cells slots Post C D hl hc hE)
theorem gd_in {w : Cond} (h : w ∈ lw_tbl) (hg : goodWord w = true) : w ∈ lw_gd := List.mem_filter.mpr ⟨h, hg⟩
theorem gd_good {ws : List Cond} (h : ∀ w ∈ ws, w ∈ lw_gd) : GoodIn lw_gd ws := fun w hw => ⟨h w hw, good_of_word (List.mem_filter.mp (h w hw)).2⟩
/-- what a call of a contract leaves -/
theorem J_run {Q1 : Option Value → Sto → Prop} {rest st0 : List Value} {a : Array Value}
    (hr : ∀ (p : Program) (l : Launch) (e : Env) (R : Room) (s : State) (m : MethodId) (args : Array Value) (below : List Frame) (meth : Method) (c : Code) (H : Heap) (locs : List Loc) (ls : Array Slot) (cells slots : Nat), CX g b own ret nL d p R s m args meth c → WD g S s H locs → ls.size = nL → (cells ≤ R.cells ∧ slots ≤ R.slots) → va_Run p l e R s m args below meth c H locs cells slots 0 0 (F0 m pc ls st0) rest (Qct g Q1 a) (Ag g))
    (kk : ∀ (v : Option Value) (S1 : Sto), Q1 v S1 → RJ g b own ret nL d (pc + 3) lv (v.toList ++ rest) S1 Q) : RJ g b own ret nL d pc lv st0 S Q := by
  intro p l e R s m args below meth c H locs ls cells slots Post C D hl hc hE T hT X
  obtain ⟨v, st₀, t, T', L, h0, X', hL, e1, e2, ⟨v', S1, hv, hq, hp, hz, hk⟩, stp⟩ := hr p l e R s m args below meth c H locs ls cells slots C D hl.1 hc T hT X
  cases hv
  rw [h0] at hz hk
  have hW : WD g S1 s T'.heap (locs ++ L) := by
    refine ⟨by rw [e1]; exact hp, Nat.le_trans D.2.1 (by rw [e1]; exact hz), fun q h1 h2 => ?_, fun q hq => ?_⟩
    · rw [e1, hk q (Nat.lt_of_lt_of_le h1 D.2.1) h2]
      exact D.2.2.1 q h1 h2
    · rcases List.mem_append.mp hq with h | h
      · exact D.2.2.2 q h
      · exact hL q h
  obtain ⟨t2, a1, b1⟩ := kk v S1 hq p l e R s m args below meth c T'.heap (locs ++ L) ls cells slots Post C hW hl hc hE T' rfl X'
  exact ⟨t2, stp t2 a1, b1⟩
theorem CX.pre {p : Program} {R : Room} {s : State} {m : MethodId} {args : Array Value} {meth : Method} {c : Code} {H : Heap} {locs : List Loc} (C : CX g b own ret nL d p R s m args meth c) (D : WD g S s H locs) (As : List Value) (U : State) (hU : U.heap = H) (hW : s.WarmedH U.vm) : Pct g As S As.toArray U :=
  ⟨rfl, by rw [hU]; exact D.1, va_K.moved hW.alike C.2.2.2.2.2.1, by rw [hU]; exact (C.2.2.2.2.2.2.2.2.kept D.2).warm hW⟩
theorem CX.callB {p : Program} {R : Room} {s : State} {m : MethodId} {args : Array Value} {meth : Method} {c : Code} (C : CX g b own ret nL d p R s m args meth c) {y : MethodName} {bb : ByteArray} {mL d' index n : Nat} {rt : Option FieldType}
    (hcode : Cond.code y bb mL rt ∈ lw_gd) (hlink : Cond.methodLink own index y ∈ lw_gd) (hini : Cond.initialized y.cls ∈ lw_gd) (hd : y.cls ≠ "java/lang/invoke/MethodHandle" ∧ y.cls ≠ "java/lang/invoke/VarHandle" ∧ (parseMethodDescriptor y.desc).map (fun d => d.parameters.length) = some n) (h1 : d' + 1 ≤ d) (h2 : mL ≤ 13) : CallB R s args own index y bb mL rt (Cond.code y bb mL rt :: lw_gd) (RM d') 0 0 n := by
  obtain ⟨-, -, -, -, hts, -, hf, hlc, -⟩ := C
  have hG : GoodIn lw_gd (Cond.code y bb mL rt :: lw_gd) := gd_good (fun w hw => (List.mem_cons.mp hw).elim (fun e => by rw [e]; exact hcode) id)
  exact callB_of n hts hG rfl rfl rfl (hts _ hini) (hts _ hlink) hd ⟨by show d' + 1 ≤ R.frames; omega, by show 8 + (mL + 11) + 32 * d' ≤ R.locals; omega⟩
/-- a static method of a class's own or another's -/
theorem J_callS {Q1 : Option Value → Sto → Prop} {y : MethodName} {bb : ByteArray} {mL d' index n : Nat} {rt : Option FieldType} {As rest : List Value} (hd : decode b pc = .ok (.invokestatic index, 3)) (hM : CT g y bb mL rt d' As S Q1) (hcode : Cond.code y bb mL rt ∈ lw_gd) (hlink : Cond.methodLink own index y ∈ lw_gd) (hini : Cond.initialized y.cls ∈ lw_gd) (hst : Cond.static y ∈ lw_gd)
    (hds : y.cls ≠ "java/lang/invoke/MethodHandle" ∧ y.cls ≠ "java/lang/invoke/VarHandle" ∧ (parseMethodDescriptor y.desc).map (fun d => d.parameters.length) = some n) (hn : As.length = n) (h1 : d' + 1 ≤ d) (h2 : mL ≤ 13) (hrm : (rest.map fun v => v.category).sum ≤ 8) {st0 : List Value} (hs : st0 = As.reverse ++ rest)
    (kk : ∀ (v : Option Value) (S1 : Sto), Q1 v S1 → RJ g b own ret nL d (pc + 3) lv (v.toList ++ rest) S1 Q) : RJ g b own ret nL d pc lv st0 S Q := by
  refine J_run (a := As.toArray) (fun p l e R s m args below meth c H locs ls cells slots C D hsz hc => ?_) kk
  exact va_runS (As := As) ⟨C.1, C.2.1, C.2.2.1, C.2.2.2.1, C.2.2.2.2.1⟩ (hM l) ⟨C.callB hcode hlink hini hds h1 h2, C.2.2.2.2.1 _ hst⟩ ⟨Pct.blind, fun U hU hW => C.pre D As U hU hW⟩ rfl hn hsz hs (lv_room hrm) hd hc
theorem J_callSN {Q1 : Option Value → Sto → Prop} {y : MethodName} {host : String} {bb : ByteArray} {mL d' index n : Nat} {rt : Option FieldType} {As rest : List Value} (hd : decode b pc = .ok (.invokestatic index, 3)) (hM : CT g y bb mL rt d' As S Q1) (hcode : Cond.code y bb mL rt ∈ lw_gd) (hlink : ∀ U : State, NW U → va_Nw (Cond.methodLinkNest own index y host) U) (hini : Cond.initialized y.cls ∈ lw_gd) (hst : Cond.static y ∈ lw_gd)
    (hds : y.cls ≠ "java/lang/invoke/MethodHandle" ∧ y.cls ≠ "java/lang/invoke/VarHandle" ∧ (parseMethodDescriptor y.desc).map (fun d => d.parameters.length) = some n) (hn : As.length = n) (h1 : d' + 1 ≤ d) (h2 : mL ≤ 13) (hrm : (rest.map fun v => v.category).sum ≤ 8) {st0 : List Value} (hs : st0 = As.reverse ++ rest)
    (kk : ∀ (v : Option Value) (S1 : Sto), Q1 v S1 → RJ g b own ret nL d (pc + 3) lv (v.toList ++ rest) S1 Q) : RJ g b own ret nL d pc lv st0 S Q := by
  refine J_run (a := As.toArray) (fun p l e R s m args below meth c H locs ls cells slots C D hsz hc => ?_) kk
  obtain ⟨c1, c2, c3, c4, hts, c6, hf, hlc, hz⟩ := id C
  have hG : GoodIn lw_gd (Cond.code y bb mL rt :: lw_gd) := gd_good (fun w hw => (List.mem_cons.mp hw).elim (fun e => by rw [e]; exact hcode) id)
  exact va_runSN (As := As) ⟨c1, c2, c3, c4, hts⟩ (hM l) ⟨va_cnB n hts hG rfl rfl rfl (hlink s hz.1) (hts _ hini) hds ⟨by show d' + 1 ≤ R.frames; omega, by show 8 + (mL + 11) + 32 * d' ≤ R.locals; omega⟩, hts _ hst, trivial⟩ ⟨Pct.blind, fun U hU hW => C.pre D As U hU hW⟩ rfl hn hsz hs (lv_room hrm) hd hc
/-- a method of an object of the world -/
theorem J_callV {Q1 : Option Value → Sto → Prop} {y : MethodName} {bb : ByteArray} {mL d' index n h ci : Nat} {q : vw_C} {rt : Option FieldType} {As rest : List Value} (hd : decode b pc = .ok (.invokevirtual index, 3)) (hM : CT g y bb mL rt d' (.ref (g.1 + h) :: As) S Q1) (hh : kd h = ci + 5) (hci : vwCl[ci]? = some q) (hcode : Cond.code y bb mL rt ∈ lw_gd) (hlink : Cond.methodLink own index y ∈ lw_gd) (hini : Cond.initialized y.cls ∈ lw_gd) (hin : Cond.instanceMethod y ∈ lw_gd) (hse : Cond.selects q.1 y y ∈ lw_gd)
    (hds : y.cls ≠ "java/lang/invoke/MethodHandle" ∧ y.cls ≠ "java/lang/invoke/VarHandle" ∧ (parseMethodDescriptor y.desc).map (fun d => d.parameters.length) = some n) (hn : As.length = n) (h1 : d' + 1 ≤ d) (h2 : mL ≤ 13) (hrm : (rest.map fun v => v.category).sum ≤ 8) {st0 : List Value} (hs : st0 = As.reverse ++ .ref (g.1 + h) :: rest)
    (kk : ∀ (v : Option Value) (S1 : Sto), Q1 v S1 → RJ g b own ret nL d (pc + 3) lv (v.toList ++ rest) S1 Q) : RJ g b own ret nL d pc lv st0 S Q := by
  refine J_run (a := (Value.ref (g.1 + h) :: As).toArray) (fun p l e R s m args below meth c H locs ls cells slots C D hsz hc => ?_) kk
  have hlt : h < nC := kd_lt hh (by have := (List.getElem?_eq_some_iff.mp hci).1; simp [vwCl] at this; omega)
  exact va_runV (As := As) ⟨C.1, C.2.1, C.2.2.1, C.2.2.2.1, C.2.2.2.2.1⟩ (hM l) ⟨C.callB hcode hlink hini hds h1 h2, C.2.2.2.2.1 _ hin, C.2.2.2.2.1 _ hse⟩ ⟨Pct.blind, va_recv C.2.2.2.2.2.1 D.1 hci (by rw [wd_get g S hlt, ce_5 g S hh]), fun U hU hW => C.pre D _ U hU hW⟩ rfl hn hsz hs (lv_room hrm) hd hc
/-- the table of places -/
theorem J_pbd {index : Nat} (hd : decode b pc = .ok (.getstatic index, 3)) (hw : Cond.fieldLink own index RX2 "PLACES_BY_DEGREE" "[I" ∈ lw_gd) (k : RJ g b own ret nL d (pc + 3) lv (.ref g.2.1.1 :: st) S Q) : RJ g b own ret nL d pc lv st S Q := by
  intro p l e R s m args below meth c H locs ls cells slots Post C D hl hc hE
  exact va_gets C.1 C.2.1 C.2.2.2.2.2.2.2.2.2.1 D.2 C.2.2.2.1 (C.2.2.2.2.1 _ hw) (fun x hx => hx) hd (k p l e R s m args below meth c H locs ls cells slots Post C D hl hc hE)
theorem J_pld {i : Int32} (hd : decode b pc = .ok (.iaload, 1)) (hi : vp_in i 16) (k : RJ g b own ret nL d (pc + 1) lv (.int (pbd i.toNatClampNeg) :: st) S Q) : RJ g b own ret nL d pc lv (.int i :: .ref g.2.1.1 :: st) S Q := by
  intro p l e R s m args below meth c H locs ls cells slots Post C D hl hc hE
  obtain ⟨-, -, hX, -, hlt, hle⟩ := C.2.2.2.2.2.2.2.2
  exact va_ti C.1 C.2.1 hX D.2 hi rfl hd (k p l e R s m args below meth c H locs ls cells slots Post C D hl hc hE)
/-- the script -/
theorem J_sld {i : Int32} (hd : decode b pc = .ok (.iaload, 1)) (hi : vp_in i g.2.1.2.2.1) (k : RJ g b own ret nL d (pc + 1) lv (.int (g.2.1.2.2.2 i.toNatClampNeg) :: st) S Q) : RJ g b own ret nL d pc lv (.int i :: .ref g.2.1.2.1 :: st) S Q := by
  intro p l e R s m args below meth c H locs ls cells slots Post C D hl hc hE
  obtain ⟨-, -, -, hX, hlt, hle⟩ := C.2.2.2.2.2.2.2.2
  exact va_sld C.1 C.2.1 hX (by omega) (Nat.not_le.mpr hlt.2) D.2 hi hd (k p l e R s m args below meth c H locs ls cells slots Post C D hl hc hE)
theorem J_slen (hd : decode b pc = .ok (.arraylength, 1)) (k : RJ g b own ret nL d (pc + 1) lv (.int (Int32.ofNat g.2.1.2.2.1) :: st) S Q) : RJ g b own ret nL d pc lv (.ref g.2.1.2.1 :: st) S Q := by
  intro p l e R s m args below meth c H locs ls cells slots Post C D hl hc hE
  obtain ⟨-, -, -, hX, hlt, hle⟩ := C.2.2.2.2.2.2.2.2
  exact va_slen C.1 C.2.1 hX (by omega) (Nat.not_le.mpr hlt.2) D.2 hd (k p l e R s m args below meth c H locs ls cells slots Post C D hl hc hE)
end JR
