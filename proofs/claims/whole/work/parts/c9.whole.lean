/-! THE CLAIM OUT OF ONE WALK OF THE LAW'S BODY. Your part is whole_start (and what it stands on); all else here is the same for every law, but numbers. -/
/-- the class of an array of arrays -/
theorem ov_spec {args : Array Value} {s : State} {t : FieldType} (h : (Cond.arrayOver (.array t)).before args s = true) : ∃ (comp c : ClassId) (k : Class), s.vm.findClass (FieldType.array t).toString = some comp ∧ s.vm.classes[c]? = some k ∧ k.kind = .array comp (.array t) ∧ s.vm.findClass ("[" ++ (FieldType.array t).toString) = some c := by
  simp only [Cond.before, Cond.holds, Cond.value, beq_iff_eq] at h
  cases hc : s.vm.findClass (FieldType.array t).toString with
  | none => simp [hc] at h
  | some comp =>
    simp only [hc, Option.bind_some, Option.bind_eq_some_iff, Option.map_eq_some_iff] at h
    obtain ⟨c, hi, k, hk, hb⟩ := h
    obtain ⟨hlt, hp, -⟩ := Array.findIdx?_eq_some_iff_getElem.mp hi
    have hkk : s.vm.classes[c] = k := (Array.getElem?_eq_some_iff.mp hk).2
    rw [hkk] at hp
    cases hkind : k.kind with
    | array c1 ty =>
      rw [hkind] at hp hb
      have hb2 := hb
      simp at hb2 hp
      exact ⟨comp, c, k, rfl, hk, by rw [hkind, hp, hb2.1], hb2.2⟩
    | _ => rw [hkind] at hb; simp at hb
set_option maxRecDepth 100000 in
set_option maxHeartbeats 8000000 in
theorem whole_start {p : Program} {e : Env} {s : State} {m : MethodId} {below : List Frame} {meth : Method} {c : Code} (l : Launch) (hflags : l.flags = flags0) {b L : Nat} {xs : Nat → Int32} (hL : L ≤ 3072) (C0 : lw_At p s m meth c b L xs) : W p l e room_1 s m #[Value.ref b] below meth c s.heap [] 0 0 (lw_Z below #[Value.ref b] s) (entryFrame m ([Value.ref b] : List Value).toArray 4) := by
  obtain ⟨hx, hb, hr, hml, hown, hts, hX, hbl, hlocks, hgv⟩ := C0
  have hgd : ∀ w ∈ lw_gd, w.before #[Value.ref b] s = true := fun w hw => hts w (List.mem_filter.mp hw).1
  obtain ⟨c1, i1, u1⟩ := u_known hgd giX1 (hgd _ tb_1_142)
  obtain ⟨c3, i3, u3⟩ := u_known hgd giX3 (hgd _ tb_1_100)
  obtain ⟨c4, i4, u4⟩ := u_known hgd giX4 (hgd _ tb_1_25)
  obtain ⟨c5, i5, u5⟩ := u_known hgd giX5 (hgd _ tb_1_148)
  obtain ⟨c6, i6, u6⟩ := u_known hgd giX6 (hgd _ tb_1_226)
  obtain ⟨c7, i7, u7⟩ := u_known hgd giX7 (hgd _ tb_1_120)
  obtain ⟨c8, i8, u8⟩ := u_known hgd giX8 (hgd _ tb_1_17)
  obtain ⟨c9, i9, u9⟩ := u_known hgd giX9 (hgd _ tb_4_105)
  obtain ⟨cI, kI, pI, aI1, aI2, aI3⟩ := Cond.arrayClass_spec (hgd _ ow_int)
  obtain ⟨cZ, kZ, pZ, aZ1, aZ2, aZ3⟩ := Cond.arrayClass_spec (hgd _ ow_bool)
  obtain ⟨cJ, kJ, pJ, aJ1, aJ2, aJ3⟩ := Cond.arrayClass_spec (hgd _ ow_long)
  obtain ⟨pA, cA, kA, oA0, oA1, oA2, oA3⟩ := ov_spec (t := .int) (hts _ (by decide +kernel))
  obtain ⟨pB, cB, kB, oB0, oB1, oB2, oB3⟩ := ov_spec (t := .long) (hts _ (by decide +kernel))
  have eA : pA = cI := Option.some.inj (oA0.symm.trans aI1)
  have eB : pB = cJ := Option.some.inj (oB0.symm.trans aJ1)
  subst eA; subst eB
  -- the table of places
  have hg := flat_of_before _ hgv
  obtain ⟨t, ht1, ht2⟩ := va_Tof (args := #[Value.ref b]) (s := s) (tm := .static RX2 "PLACES_BY_DEGREE" "[I") (ty := .int) (N := 16) (f := fun j => .int (pbd j)) (A := fun q => s.heap.size ≤ q) (by decide) (hg _ (by decide +kernel)) (va_eqt (z := 16) (hg _ (by decide +kernel))) (fun j hj => by
    have : j = 0 ∨ j = 1 ∨ j = 2 ∨ j = 3 ∨ j = 4 ∨ j = 5 ∨ j = 6 ∨ j = 7 ∨ j = 8 ∨ j = 9 ∨ j = 10 ∨ j = 11 ∨ j = 12 ∨ j = 13 ∨ j = 14 ∨ j = 15 := by omega
    rcases this with rfl | rfl | rfl | rfl | rfl | rfl | rfl | rfl | rfl | rfl | rfl | rfl | rfl | rfl | rfl | rfl
    · exact va_eqt (z := 0) (hg _ (by decide +kernel))
    · exact va_eqt (z := 1) (hg _ (by decide +kernel))
    · exact va_eqt (z := 2) (hg _ (by decide +kernel))
    · exact va_eqt (z := 4) (hg _ (by decide +kernel))
    · exact va_eqt (z := 8) (hg _ (by decide +kernel))
    · exact va_eqt (z := 3) (hg _ (by decide +kernel))
    · exact va_eqt (z := 5) (hg _ (by decide +kernel))
    · exact va_eqt (z := 6) (hg _ (by decide +kernel))
    · exact va_eqt (z := 9) (hg _ (by decide +kernel))
    · exact va_eqt (z := 10) (hg _ (by decide +kernel))
    · exact va_eqt (z := 12) (hg _ (by decide +kernel))
    · exact va_eqt (z := 7) (hg _ (by decide +kernel))
    · exact va_eqt (z := 11) (hg _ (by decide +kernel))
    · exact va_eqt (z := 13) (hg _ (by decide +kernel))
    · exact va_eqt (z := 14) (hg _ (by decide +kernel))
    · exact va_eqt (z := 15) (hg _ (by decide +kernel))) (fun a ha => by omega)
  have htz : va_Z RX2 "PLACES_BY_DEGREE" "[I" (.ref t) (fun q => s.heap.size ≤ q) s s.heap := va_Zref (hts _ (by decide +kernel)) (hts _ (by decide +kernel)) ht1 (fun a ha => by omega)
  have htl : t < s.heap.size := by
    obtain ⟨cell, hc, -⟩ := ht2
    exact (Array.getElem?_eq_some_iff.mp hc).1
  obtain ⟨g, eg⟩ : ∃ g : Gv, g = (s.heap.size, (t, b, L, xs), (fun k => match k with | 0 => pA | 1 => cZ | 2 => pB | 3 => cA | _ => cB), ((fun c => match c with | 0 => c1 | 1 => c3 | 2 => c4 | 3 => c5 | 4 => c6 | 5 => c7 | 6 => c8 | _ => c9), (fun c => match c with | 0 => i1 | 1 => i3 | 2 => i4 | 3 => i5 | 4 => i6 | 5 => i7 | 6 => i8 | _ => i9))) := ⟨_, rfl⟩
  have hK : va_K g.2.2.2 vwCl (tyL g) s := by
    rw [eg]
    refine ⟨fun q r hq => ?_, fun k q hk => ?_⟩
    · have hl := (List.getElem?_eq_some_iff.mp hq).1
      have : q = 0 ∨ q = 1 ∨ q = 2 ∨ q = 3 ∨ q = 4 ∨ q = 5 ∨ q = 6 ∨ q = 7 := by simp [vwCl] at hl; omega
      rcases this with rfl | rfl | rfl | rfl | rfl | rfl | rfl | rfl <;> cases hq
      · exact u1
      · exact u3
      · exact u4
      · exact u5
      · exact u6
      · exact u7
      · exact u8
      · exact u9
    · have hl := (List.getElem?_eq_some_iff.mp hk).1
      have : k = 0 ∨ k = 1 ∨ k = 2 ∨ k = 3 ∨ k = 4 := by simp [tyL] at hl; omega
      rcases this with rfl | rfl | rfl | rfl | rfl <;> cases hk
      · exact ⟨fun n z => ⟨fun k h => (by cases h), kI, aI2, pI, aI3⟩, aI1⟩
      · exact ⟨fun n z => ⟨fun k h => (by cases h), kZ, aZ2, pZ, aZ3⟩, aZ1⟩
      · exact ⟨fun n z => ⟨fun k h => (by cases h), kJ, aJ2, pJ, aJ3⟩, aJ1⟩
      · exact ⟨fun n z => ⟨fun k h => (by cases h), kA, oA1, pA, oA2⟩, oA3⟩
      · exact ⟨fun n z => ⟨fun k h => (by cases h), kB, oB1, pB, oB2⟩, oB3⟩
  have hAO : AO g s := by rw [eg]; exact ⟨⟨kA, oA1, oA2⟩, kB, oB1, oB2⟩
  have nw : ∀ w : Cond, w ∈ lw_tbl → w.onTables = true → va_Nw w s := fun w hw ho => va_tabs ho rfl (hts w hw)
  have hNN : NN s := ⟨nw _ (by decide +kernel) (by rfl), nw _ (by decide +kernel) (by rfl), nw _ (by decide +kernel) (by rfl), nw _ (by decide +kernel) (by rfl)⟩
  have hNW : NW s := ⟨nw _ (by decide +kernel) (by rfl), nw _ (by decide +kernel) (by rfl)⟩
  have g1 : g.1 = s.heap.size := by rw [eg]
  have hZS : ZS g s s.heap := by
    rw [eg]
    exact ⟨hNW, htz, ht2, hX, ⟨htl, hbl⟩, Nat.le_refl _⟩
  have hl := lv_entry [Value.ref b] (n := 4) (Nat.le_of_ble_eq_true rfl)
  have eL : g.2.1.2.1 = b := by rw [eg]
  refine W.base ?_
  have hd0 := Drawn.sameBut.refl s.drawn lw_cs
  rw [lg_entry_eq]
  generalize (lg_sl [Value.ref b] ++ List.replicate (4 - (lg_sl [Value.ref b]).length) Slot.unset).toArray = ls at hl ⊢
  have hl : lv_has ls 4 [(0, .ref g.2.1.2.1)] := by rw [eL]; exact hl
  refine law_new (g := g) p l e room_1 s m #[Value.ref b] below meth c s.heap [] ls 0 0 380 212312 _ ⟨hx, hb, hml, hown, hgd, ⟨hK, hAO, hNN⟩, by decide, by decide, fun h => absurd rfl h⟩ ⟨fun k q hk => (by cases hk), g1.symm, va_S.rf, by omega⟩ hl (by omega) (by omega) (by decide) (by decide) ?_
  rintro H locs ls' pc st hW ⟨rfl, rfl, hl'⟩
  have hD : WD g Sst s H locs := ⟨by rw [← sg_pw]; exact hW.1, hW.2.2.1⟩
  have eLx : g.2.1.2.2.1 = L ∧ g.2.1.2.2.2 = xs := by rw [eg]; exact ⟨rfl, rfl⟩
  refine j_N_law (g := g) Sst (fun x _ => x = 1) (by rw [eLx.1, eLx.2]; exact law_ok hL Sst_rel) p l e room_1 s m #[Value.ref b] below meth c H locs ls' 380 212312 _ ⟨hx, hb, hml, hown, hgd, hK, by decide, by decide, hZS⟩ hD hl' ⟨by decide, by decide⟩ ?_
  rintro v S' H' locs' ls2 pc' st' ⟨x, rfl, hx1⟩ hW' hR
  subst hx1
  rcases hR with ⟨x, ty, hv, hret, hn, rfl, hd⟩ | ⟨x, hv, -⟩ | ⟨hv, -⟩ | ⟨a, n, hv, -⟩
  · cases hv
    refine va_forget (fun q hq => by have := hW'.2.2.2 q hq; have : g.1 ≤ q.base := this; omega) ?_
    refine W.widen (k := 600000) (n := 7302250) (by decide) (by decide) ?_
    exact lw_ret hd0 hx hb hr hlocks hd
  · cases hv
  · cases hv
  · cases hv
set_option maxHeartbeats 4000000 in
theorem lw_walk (l : Launch) (hflags : l.flags = flags0) (b : Addr) (xs : List Int32) : MetFree l x (headSpec (Jvm.Cond.code x code maxLocals ret :: tables_1) room_1) (lw_P b xs) (fun _ _ _ _ _ => True) lw_Q := by
  refine MetFree.of_bodyS (code := code) (maxLocals := maxLocals) (ret := ret) (by decide) ?_ ?_
  · intro args s m h hn
    obtain ⟨meth, c, h1, h2, h3, h4, h5, h6, -, -⟩ := Cond.code_spec hn (atoms_spec (ws := Jvm.Cond.code x code maxLocals ret :: tables_1) h _ List.mem_cons_self)
    exact ⟨meth, c, h1, h2, h3, h4, h5, h6⟩
  · intro p e s m args below meth c s₁ B hml0 hP _
    obtain ⟨rfl, hx, hbd, hgv⟩ := hP
    obtain ⟨scr, harrAt, hlist, hof, hsmall⟩ := hx
    obtain ⟨hcb, hkn, -, -⟩ := State.arrayAt?_spec harrAt
    have hown : s.vm.findClass R_law = some m.cls := findClass_of_methodNamed B.named
    have hts0 : ∀ c ∈ (Jvm.Cond.code x code maxLocals ret :: tables_1), c.before #[Value.ref b] s = true := atoms_spec (ws := Jvm.Cond.code x code maxLocals ret :: tables_1) B.pre
    have hts : ∀ w ∈ lw_tbl, w.before #[Value.ref b] s = true := k2_hts_sels lw_privs (fun w hw => hts0 w (List.mem_cons_of_mem _ hw)) lw_privs_ok
    have hml : c.maxLocals = 4 := B.maxLocals_eq (hts0 _ List.mem_cons_self)
    have X₀ : Stand p l e room_1 s m #[Value.ref b] below meth c s₁ [] 0 0 := Stand.of_body B
    have hh0 : s₁.heap = s.heap := by rw [B.state]; rfl
    have hsz : scr.slots.size = xs.length := by rw [← Array.length_toList, hlist, List.length_map]
    have hval : ∀ j : Nat, j < xs.length → scr.slots[j]? = some (.int (xs.getD j 0)) := fun j hj => by
      rw [← Array.getElem?_toList, hlist]
      simp [hj]
    have hbl : b < s.heap.size := (Array.getElem?_eq_some_iff.mp hcb).1
    have hX : va_X b xs.length (fun j => xs.getD j 0) s s.heap := ⟨scr, hcb, hof, hkn, hsz, hval⟩
    have K : W p l e room_1 s m #[Value.ref b] below meth c s₁.heap [] 0 0 (lw_Z below #[Value.ref b] s) (entryFrame m ([Value.ref b] : List Value).toArray 4) := by
      rw [hh0]
      exact whole_start l hflags hbd ⟨B.exec, B.bytes, B.returns, hml, hown, hts, hX, hbl, B.notSynchronized, hgv⟩
    obtain ⟨t, a1, o, b1, b2, b3⟩ := K s₁ rfl X₀
    exact ⟨t, o, a1, b1, b2, b3⟩
theorem lw_pre_spec {args : Array Value} {s : State} (h : (Jvm.Cond.and given_1 narrow_1).before args s = true) (hr : rest_1_c.before args s = true) : ∃ (b : Addr) (xs : List Int32), lw_P b xs args s := by
  have hs := flat_of_before _ h
  have hq := flat_of_before _ hr
  have hc : (Cond.count 1).before args s = true := hs _ (by decide +kernel)
  have harr : (Cond.arrayOf (.arg 0) .int).before args s = true := hs _ (by decide +kernel)
  have hle : (Cond.le (.length (.arg 0)) (.int 3072)).before args s = true := hs _ (by decide +kernel)
  have hlen : (Cond.isInt (.length (.arg 0))).before args s = true := hq _ (by decide +kernel)
  have hall : (Cond.all (.arg 0) (.isInt (.elem (.arg 0) (.index 0)))).before args s = true := hq _ (by decide +kernel)
  obtain ⟨b, xs, hb, hx⟩ := State.ints_of_pre rfl harr hlen hall
  have hsm : xs.length < 2 ^ 31 := hx.choose_spec.2.2.2
  have hev : (Term.length (.arg 0)).eval args s none [] s = some (.int xs.length.toInt32) := hx.length_eval hb
  have hv := Cond.le_ints hev (show (Term.int 3072).eval args s none [] s = some (.int 3072) from rfl)
  have hd : xs.length.toInt32 ≤ 3072 := by
    simpa [Cond.before, Cond.holds, hv] using hle
  have hN : xs.length ≤ 3072 := (Int32.ofNat_le_ofNat hsm (by decide)).mp (show Int32.ofNat xs.length ≤ Int32.ofNat 3072 from hd)
  exact ⟨b, xs, Cond.one_arg hc (show args[0]? = some (.ref b) from hb), hx, hN, h⟩
theorem lw_comes (l : Launch) (hflags : l.flags = flags0) : Comes l x (Jvm.Cond.code x code maxLocals ret :: tables_1) room_1 (fun tb e args s => Calls_1 tb e args s ∧ rest_1 tb e args s ∧ Pre_1 tb e args s)
    (fun _ _ args s o t => lw_Q args s o t) := by
  intro p e ha hc hk s m args below hf hfit hheap happ hpre
  obtain ⟨b, xs, hP⟩ := lw_pre_spec hpre.2.2 hpre.2.1
  obtain ⟨k, o, h1, h2, h3, hQ⟩ := lw_walk l hflags b xs p e ha hc hk s m args below hf ((Spec.applies_iff_loose hf).mp happ).1 hP trivial
  exact ⟨k, o, h1, h2, h3, hQ⟩
theorem lw_frame {s t : State} {o : Outcome} {args : Array Value} (h : State.butDraws s t lw_cs (fun t1 => Framed s o t1 [] 600000 7302250)) :
    State.butDraws s t [Jvm.Choice.named "NaN.bits"] (fun t1 => Framed s o t1 (fieldLocs frame_1_writes args s ++ arrayLocs frame_1_arrays args s ++ staticLocs frame_1_statics s) 600000 7302250) := h
theorem lw_limb (L : Cond) (hL : ∀ (args : Array Value) (s t : State), L.after args s (.returned (some (.int 1))) t = true) :
    ArmFor flags0 classFile x code maxLocals ret World_1 tables_1 room_1 Calls_1 rest_1 Pre_1
      (fun tb e a s o t => postC L tb e a s o t ∧ State.butDraws s t [Jvm.Choice.named "NaN.bits"] (fun t1 => Framed s o t1 (fieldLocs frame_1_writes a s ++ arrayLocs frame_1_arrays a s ++ staticLocs frame_1_statics s) 600000 7302250)) := by
  intro l hflags _ _ p e ha hc hk s m args below hf hfit hheap happ hpre
  obtain ⟨k, o, h1, h2, h3, rfl, hF⟩ := lw_comes l hflags p e ha hc hk s m args below hf hfit hheap happ hpre
  exact ⟨k, _, h1, h2, h3, hL args s _, lw_frame hF⟩
theorem i_vc : Claimed_1_1 ∧ Claimed_1_2 := ⟨lw_limb limb_1_1 (fun args s t => by simp [limb_1_1, Cond.after, Cond.holds, Cond.value]), lw_limb limb_1_2 (fun args s t => Cond.after_iff.mpr (by
  first | (rw [show limb_1_2 = Cond.eq .result (.int 1) from rfl, Cond.eq_ints (x := 1) (y := 1) rfl rfl]; simp; done) | (simp [limb_1_2, Cond.value, Term.eval]; done)))⟩
