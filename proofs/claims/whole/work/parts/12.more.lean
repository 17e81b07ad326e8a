/-! what the printed methods need besides: ends, kinds of cells, natives -/
def Qi (Q : Int32 → Sto → Prop) : Option Value → Sto → Prop := fun v S => ∃ x : Int32, v = some (.int x) ∧ Q x S
def Ql (Q : Int64 → Sto → Prop) : Option Value → Sto → Prop := fun v S => ∃ x : Int64, v = some (.long x) ∧ Q x S
def Qv (Q : Sto → Prop) : Option Value → Sto → Prop := fun v S => v = none ∧ Q S
def Qr (g : Gv) (k : Nat) (Q : Nat → Sto → Prop) : Option Value → Sto → Prop := fun v S => ∃ a : Nat, v = some (.ref (g.1 + a)) ∧ kd a = k ∧ Q a S
theorem all_kd (P : Nat → Prop) (k : Nat) (hk : k < 99) (h : ∀ i, i < nC → kd i = k → P i) {i : Nat} (e : kd i = k) : P i := h i (kd_lt e hk) e
theorem sp_rows {h : Nat} (e : kd h = 8) : kd (h + 1) = 3 := all_kd (fun i => kd (i + 1) = 3) 8 (by decide) (by decide +kernel) e
theorem sp_held {h : Nat} (e : kd h = 8) : kd (h + 2 + ln (h + 1)) = 1 := all_kd (fun i => kd (i + 2 + ln (i + 1)) = 1) 8 (by decide) (by decide +kernel) e
theorem sp_heldln {h : Nat} (e : kd h = 8) : ln (h + 2 + ln (h + 1)) = ln (h + 1) := all_kd (fun i => ln (i + 2 + ln (i + 1)) = ln (i + 1)) 8 (by decide) (by decide +kernel) e
theorem sp_ln {h : Nat} (e : kd h = 8) : ln (h + 1) = 16 ∨ ln (h + 1) = 64 := all_kd (fun i => ln (i + 1) = 16 ∨ ln (i + 1) = 64) 8 (by decide) (by decide +kernel) e
theorem sp_rf0 {h : Nat} (e : kd h = 8) : rf h 0 = h + 1 := all_kd (fun i => rf i 0 = i + 1) 8 (by decide) (by decide +kernel) e
theorem sp_rf1 {h : Nat} (e : kd h = 8) : rf h 1 = h + 2 + ln (h + 1) := all_kd (fun i => rf i 1 = i + 2 + ln (i + 1)) 8 (by decide) (by decide +kernel) e
theorem sp_rowln {h j : Nat} (e : kd h = 8) (hj : j < ln (h + 1)) : ln (h + 1 + 1 + j) = ln (h + 1) := all_kd (fun i => ∀ j, j < ln (i + 1) → ln (i + 1 + 1 + j) = ln (i + 1)) 8 (by decide) (by decide +kernel) e j hj
theorem su_1 {h : Nat} (e : kd h = 7) : h = 1 ∨ h = 18 := all_kd (fun i => i = 1 ∨ i = 18) 7 (by decide) (by decide +kernel) e
theorem su_kd3 {h : Nat} (e : kd h = 7) : kd (h + 1) = 3 := by rcases su_1 e with rfl | rfl <;> decide
theorem su_kd4 {h : Nat} (e : kd h = 7) : kd (h + 8) = 3 := by rcases su_1 e with rfl | rfl <;> decide
theorem su_kd6 {h : Nat} (e : kd h = 7) : kd (h + 13) = 0 := by rcases su_1 e with rfl | rfl <;> decide
theorem su_kd7 {h : Nat} (e : kd h = 7) : kd (h + 14) = 0 := by rcases su_1 e with rfl | rfl <;> decide
theorem su_kd9 {h : Nat} (e : kd h = 7) : kd (h + 15) = 0 := by rcases su_1 e with rfl | rfl <;> decide
theorem su_kd10 {h : Nat} (e : kd h = 7) : kd (h + 16) = 0 := by rcases su_1 e with rfl | rfl <;> decide
theorem su_rf3 {h : Nat} (e : kd h = 7) : rf h 3 = h + 1 := by rcases su_1 e with rfl | rfl <;> decide
theorem su_rf4 {h : Nat} (e : kd h = 7) : rf h 4 = h + 8 := by rcases su_1 e with rfl | rfl <;> decide
theorem su_rf6 {h : Nat} (e : kd h = 7) : rf h 6 = h + 13 := by rcases su_1 e with rfl | rfl <;> decide
theorem su_rf7 {h : Nat} (e : kd h = 7) : rf h 7 = h + 14 := by rcases su_1 e with rfl | rfl <;> decide
theorem su_rf9 {h : Nat} (e : kd h = 7) : rf h 9 = h + 15 := by rcases su_1 e with rfl | rfl <;> decide
theorem su_rf10 {h : Nat} (e : kd h = 7) : rf h 10 = h + 16 := by rcases su_1 e with rfl | rfl <;> decide
theorem vp_lt {i : Int32} {n : Nat} (h : vp_in i n) : i.toNatClampNeg < n := Nat.not_le.mp fun q => h (Or.inr q)
theorem kd_row3 {v : Nat} {i : Int32} (e : kd v = 3) (h : vp_in i (ln v)) : kd (v + 1 + i.toNatClampNeg) = 0 := all_kd (fun i => ∀ j, j < ln i → kd (i + 1 + j) = 0) 3 (by decide) (by decide +kernel) e _ (vp_lt h)
theorem kd_row4 {v : Nat} {i : Int32} (e : kd v = 4) (h : vp_in i (ln v)) : kd (v + 1 + i.toNatClampNeg) = 2 := all_kd (fun i => ∀ j, j < ln i → kd (i + 1 + j) = 2) 4 (by decide) (by decide +kernel) e _ (vp_lt h)
theorem sw_in {x : Int32} {n : Nat} (h1 : ¬ x.toInt < 0) (h2 : ¬ (n : Int) < x.toInt) : ∃ k : Nat, k ≤ n ∧ x = nI k := by
  refine ⟨x.toInt.toNat, by omega, ?_⟩
  apply Int32.toInt_inj.mp
  have hx := x.toInt_lt
  rw [nI_toInt (by omega)]
  omega
section JN
variable {g : Gv} {b : ByteArray} {own : String} {ret : Option FieldType} {nL d pc : Nat} {lv lv' : List (Nat × Value)} {st : List Value} {S : Sto} {Q : Option Value → Sto → Prop}
theorem J_floatToRawIntBits {index : Nat} {x : UInt32} (hd : decode b pc = .ok (.invokestatic index, 3)) (hlink : Cond.methodLink own index ⟨"java/lang/Float", "floatToRawIntBits", "(F)I"⟩ ∈ lw_gd) (hnat : Cond.native ⟨"java/lang/Float", "floatToRawIntBits", "(F)I"⟩ ∈ lw_gd) (hstat : Cond.static ⟨"java/lang/Float", "floatToRawIntBits", "(F)I"⟩ ∈ lw_gd) (hini : Cond.initialized "java/lang/Float" ∈ lw_gd) (h1 : 1 ≤ d) (h2 : (st.map fun v => v.category).sum ≤ 8)
    (k : RJ g b own ret nL d (pc + 3) lv (.int x.toInt32 :: st) S Q) : RJ g b own ret nL d pc lv (.float x :: st) S Q := by
  intro p l e R s m args below meth c H locs ls cells slots Post C D hl hc hE
  obtain ⟨c1, c2, c3, c4, hts, c6, hf, hlc, hz⟩ := id C
  exact vn_f2i c1 c2 (c3.trans hl.1.symm) c4 (hts _ hlink) (hts _ hnat) (hts _ hstat) (hts _ hini) (by omega) (by omega) hd (k p l e R s m args below meth c H locs ls cells slots Post C D hl hc hE)
theorem J_doubleToRawLongBits {index : Nat} {x : UInt64} (hd : decode b pc = .ok (.invokestatic index, 3)) (hlink : Cond.methodLink own index ⟨"java/lang/Double", "doubleToRawLongBits", "(D)J"⟩ ∈ lw_gd) (hnat : Cond.native ⟨"java/lang/Double", "doubleToRawLongBits", "(D)J"⟩ ∈ lw_gd) (hstat : Cond.static ⟨"java/lang/Double", "doubleToRawLongBits", "(D)J"⟩ ∈ lw_gd) (hini : Cond.initialized "java/lang/Double" ∈ lw_gd) (h1 : 1 ≤ d) (h2 : (st.map fun v => v.category).sum ≤ 8)
    (k : RJ g b own ret nL d (pc + 3) lv (.long x.toInt64 :: st) S Q) : RJ g b own ret nL d pc lv (.double x :: st) S Q := by
  intro p l e R s m args below meth c H locs ls cells slots Post C D hl hc hE
  obtain ⟨c1, c2, c3, c4, hts, c6, hf, hlc, hz⟩ := id C
  exact vn_d2l c1 c2 (c3.trans hl.1.symm) c4 (hts _ hlink) (hts _ hnat) (hts _ hstat) (hts _ hini) (by omega) (by omega) hd (k p l e R s m args below meth c H locs ls cells slots Post C D hl hc hE)
theorem ce_uC (g : Gv) (S : Sto) {a i b j n k : Nat} (h : k ≠ b) : ce g (uC S a i b j n) k = ce g S k := ce_cong g rfl (if_neg h)
theorem J_copyl {index h1 h2 : Nat} {i j n : Int32} (hd : decode b pc = .ok (.invokestatic index, 3)) (hlink : Cond.methodLink own index arraycopyName ∈ lw_gd) (hnat : Cond.native arraycopyName ∈ lw_gd) (hstat : Cond.static arraycopyName ∈ lw_gd) (hini : Cond.initialized "java/lang/System" ∈ lw_gd) (k1 : kd h1 = 2) (k2 : kd h2 = 2)
    (hy : ¬ i < 0 ∧ ¬ j < 0 ∧ ¬ n < 0 ∧ i.toNatClampNeg + n.toNatClampNeg ≤ ln h1 ∧ j.toNatClampNeg + n.toNatClampNeg ≤ ln h2) (hd1 : 1 ≤ d) (hs : (st.map fun v => v.category).sum = 0)
    (k : RJ g b own ret nL d (pc + 3) lv st (uC S h1 i.toNatClampNeg h2 j.toNatClampNeg n.toNatClampNeg) Q) : RJ g b own ret nL d pc lv (.int n :: .int j :: .ref (g.1 + h2) :: .int i :: .ref (g.1 + h1) :: st) S Q := by
  intro p l e R s m args below meth c H locs ls cells slots Post C D hl hc hE
  obtain ⟨c1, c2, c3, c4, hts, c6, hf, hlc, hz⟩ := id C
  have hw : nativeFrameWords "java/lang/System" "arraycopy" 5 + 11 ≤ 32 := by decide
  refine va_copyl c1 c2 (c3.trans hl.1.symm) c4 (hts _ hlink) (hts _ hnat) (hts _ hstat) (hts _ hini) c6 D.1 (wd_D g S) D.2 h1 h2 2 2 (by rw [wd_get g S (kd_lt k1 (by omega)), ce_2 g S k1]) (by rw [wd_get g S (kd_lt k2 (by omega)), ce_2 g S k2]) rfl rfl rfl hy.1 hy.2.1 hy.2.2.1 hy.2.2.2.1 hy.2.2.2.2 (fun i _ => rfl) (by omega) (by omega) hd (fun H1 locs1 hP _ hS => ?_)
  rw [wd_set g S (uC S h1 i.toNatClampNeg h2 j.toNatClampNeg n.toNatClampNeg) _ (by rw [ce_2 g _ k2]; simp [uC]) (fun q hq => ce_uC g S hq)] at hP
  exact k p l e R s m args below meth c H1 locs1 ls cells slots Post C ⟨hP, hS⟩ hl hc hE
end JN
/-- a contract out of its walk, for a method that no native stands for -/
theorem met_ofW {l : Launch} {y : MethodName} {ws ws' : List Cond} {rm : Room} {Pc : Array Value → State → Prop} {Qc : Array Value → State → Outcome → State → Prop} {mc ms : Nat} {free : Addr → Prop} {cc : ByteArray} {maxL : Nat} {ret : Option FieldType}
    (hy : plainFor y = true) (hw : ws = Cond.code y cc maxL ret :: ws')
    (body : ∀ p e s m args below meth c s₁, BodyLoose p l y (headSpec ws rm) cc maxL ret e s m args below meth c s₁ → c.maxLocals = maxL → Pc args s →
      W p l e (headSpec ws rm).room s m args below meth c s.heap [] 0 0 (MQ below Qc args s mc ms free) (entryFrame m args maxL)) : Met l y ws rm Pc Qc mc ms free := by
  refine MetFree.of_bodySF (code := cc) (maxLocals := maxL) (ret := ret) hy ?_ ?_
  · intro args s m h hn
    obtain ⟨meth, c, h1, h2, h3, h4, h5, h6, -, -⟩ := Cond.code_spec hn (atoms_spec (ws := ws) h _ (by rw [hw]; exact List.mem_cons_self))
    exact ⟨meth, c, h1, h2, h3, h4, h5, h6⟩
  · intro p e s m args below meth c s₁ B hml hP _
    obtain ⟨t, a1, o, b1, b2, b3⟩ := body p e s m args below meth c s₁ B hml hP s₁ (by rw [B.state]; rfl) (Stand.of_body B)
    exact ⟨t, o, a1, b1, b2, ⟨b3.1, b3.2⟩⟩
set_option maxHeartbeats 4000000 in
theorem CT.ofF {g : Gv} {y : MethodName} {b : ByteArray} {mL : Nat} {ret : Option FieldType} {d : Nat} {As : List Value} {S : Sto} {Q : Option Value → Sto → Prop} (hy : plainFor y = true) (hA : (lg_sl As).length ≤ mL)
    (h : RJ g b y.cls ret mL d 0 (lv_args 0 As) [] S Q) : CT g y b mL ret d As S Q := by
  intro l
  refine met_ofW (cc := b) (maxL := mL) (ret := ret) hy rfl ?_
  intro p e s m args below meth c s₁ B hml hv
  obtain ⟨rfl, hP, hK, hZ⟩ := hv
  have hts := atoms_spec (ws := Cond.code y b mL ret :: lw_gd) B.pre
  have hown : s.vm.findClass y.cls = some m.cls := findClass_of_methodNamed B.named
  have hlocks := B.notSynchronized
  have hl := lv_entry As (n := mL) hA
  rw [lg_entry_eq]
  generalize (lg_sl As ++ List.replicate (mL - (lg_sl As).length) Slot.unset).toArray = ls at hl ⊢
  refine h p l e _ s m _ below meth c s.heap [] ls 0 0 _ ⟨B.exec, B.bytes, hml, hown, fun w hw => hts w (List.mem_cons_of_mem _ hw), hK, Nat.le_refl _, Nat.le_refl _, hZ⟩ ⟨hP, va_S.rf⟩ hl ⟨Nat.zero_le _, Nat.zero_le _⟩ ?_
  intro v S' H' locs' ls' pc' st' hQ hW hR
  have hq : ∀ t : State, t.heap = H' → Qct g Q As.toArray s (.returned v) t := fun t ht => ⟨v, S', rfl, hQ, by rw [ht]; exact hW.1, hW.2.F ht⟩
  rcases hR with ⟨x, ty, rfl, hret, hn, rfl, hd⟩ | ⟨x, rfl, hret, rfl, hd⟩ | ⟨rfl, hret, rfl, hd⟩ | ⟨a, n, rfl, hret, rfl, hd⟩
  · exact W.zret B.exec B.bytes (B.returns.trans hret) hn (fun t ht _ => hq t ht) hW.2.2.2 hd hlocks
  · exact W.lret B.exec B.bytes (B.returns.trans hret) (fun t ht _ => hq t ht) hW.2.2.2 hd hlocks
  · exact W.vret B.exec B.bytes (B.returns.trans hret) (fun t ht _ => hq t ht) hW.2.2.2 hd hlocks
  · exact W.aret B.exec B.bytes (B.returns.trans hret) (Or.inl ⟨n, rfl⟩) (Or.inr ⟨a, rfl⟩) (fun t ht _ => hq t ht) hW.2.2.2 hd hlocks
theorem J_nmS {g : Gv} {b : ByteArray} {own : String} {ret : Option FieldType} {nL d pc : Nat} {lv : List (Nat × Value)} {st : List Value} {S : Sto} {Q : Option Value → Sto → Prop} (k : ∀ S1 : Sto, S1 = S → RJ g b own ret nL d pc lv st S1 Q) : RJ g b own ret nL d pc lv st S Q := k S rfl
