/-! the world that the constructors leave -/
theorem sg_app {g : Gv} {X Y : List va_E} {a k m : Nat} (hX : X = (List.range' a k).map (ce g Sst)) (hY : Y = (List.range' (a + k) m).map (ce g Sst)) : X ++ Y = (List.range' a (k + m)).map (ce g Sst) := by
  rw [hX, hY, ← List.map_append, List.range'_append_1]
theorem sg_nil {g : Gv} {a : Nat} : ([] : List va_E) = (List.range' a 0).map (ce g Sst) := rfl
theorem sg_one {g : Gv} {a : Nat} {e : va_E} (h : ce g Sst a = e) : [e] = (List.range' a 1).map (ce g Sst) := by
  rw [← h]; rfl
theorem sg_cons {g : Gv} {a m : Nat} {e : va_E} {Y : List va_E} (h : ce g Sst a = e) (hY : Y = (List.range' (a + 1) m).map (ce g Sst)) : e :: Y = (List.range' a (1 + m)).map (ce g Sst) := sg_app (X := [e]) (sg_one h) hY
def zz (i : Nat) : Bool := ! [1, 18, 39, 49, 68, 87, 106, 107, 126, 145, 164, 206, 207, 274, 353, 362].contains i
theorem zz_0 {i : Nat} (h : zz i = true) : Sst.1 i = fun _ => 0 := by
  refine Sst_0 ?_
  unfold zz at h
  simp at h
  omega
theorem sg_rep {g : Gv} {a k w : Nat} (h : ∀ i, i < k → kd (a + i) = 0 ∧ ln (a + i) = w ∧ zz (a + i) = true) : List.replicate k (.inl (g.2.2.1 0, w, .inl (fun _ => 0)) : va_E) = (List.range' a k).map (ce g Sst) := by
  apply List.ext_getElem?
  intro i
  rw [List.getElem?_replicate, List.getElem?_map]
  by_cases q : i < k
  · rw [if_pos q, List.getElem?_range' q, Nat.one_mul]
    obtain ⟨h1, h2, h3⟩ := h i q
    show _ = some (ce g Sst (a + i))
    rw [ce_0 g Sst h1, h2, zz_0 h3]
  · rw [if_neg q, List.getElem?_eq_none (by simp; omega)]; rfl
theorem sg_i {g : Gv} {a w : Nat} {F : Nat → Int32} (h : kd a = 0 ∧ ln a = w) (hF : Sst.1 a = F) : ce g Sst a = .inl (g.2.2.1 0, w, .inl F) := by rw [ce_0 g Sst h.1, h.2, hF]
theorem sg_z {g : Gv} {a w : Nat} (h : kd a = 1 ∧ ln a = w ∧ zz a = true) : ce g Sst a = .inl (g.2.2.1 1, w, .inl (fun _ => 0)) := by rw [ce_1 g Sst h.1, h.2.1, zz_0 h.2.2]
theorem sg_l {g : Gv} {a w : Nat} (h : kd a = 2 ∧ ln a = w) : ce g Sst a = .inl (g.2.2.1 2, w, .inr (.inl (fun _ => 0))) := by rw [ce_2 g Sst h.1, h.2]; rfl
theorem sg_r {g : Gv} {a w r : Nat} (h : kd a = 3 ∧ ln a = w ∧ a = r) : ce g Sst a = .inl (g.2.2.1 3, w, .inr (.inr (.inr (.inr (fun j => some (g.1 + (r + 1 + j))))))) := by rw [ce_3 g Sst h.1, h.2.1, h.2.2]
theorem sg_r4 {g : Gv} {a w r : Nat} (h : kd a = 4 ∧ ln a = w ∧ a = r) : ce g Sst a = .inl (g.2.2.1 4, w, .inr (.inr (.inr (.inr (fun j => some (g.1 + (r + 1 + j))))))) := by rw [ce_4 g Sst h.1, h.2.1, h.2.2]
theorem fvI {g : Gv} {h ci j : Nat} {x : Int32} (a : fo ci j = 0) (b : Sst.1 h j = x) : fv g Sst h ci j = .int x := by unfold fv; rw [if_pos a, b]
theorem fvR {g : Gv} {h ci j r : Nat} (a : ¬ fo ci j = 0) (b : rf h j = r) : fv g Sst h ci j = .ref (g.1 + r) := by unfold fv; rw [if_neg a, b]
theorem mp_range {α : Type} (f : Nat → α) : (List.range 0).map f = [] := rfl
theorem so_0 {g : Gv} : ce g Sst 0 = oX8 g 0 := by
  rw [ce_5 g Sst (h := 0) (c := 6) (by decide +kernel), show nf 6 = 8 by decide +kernel]
  have e : (List.range 8).map (fv g Sst 0 6) = [fv g Sst 0 6 0, fv g Sst 0 6 1, fv g Sst 0 6 2, fv g Sst 0 6 3, fv g Sst 0 6 4, fv g Sst 0 6 5, fv g Sst 0 6 6, fv g Sst 0 6 7] := rfl
  rw [e]
  refine congrArg (fun z => Sum.inr (6, z)) ?_
  rw [fvR (j := 0) (r := 1) (by decide +kernel) (by decide +kernel), fvR (j := 1) (r := 18) (by decide +kernel) (by decide +kernel), fvI (j := 2) (x := 0) (by decide +kernel) (by decide +kernel), fvR (j := 3) (r := 35) (by decide +kernel) (by decide +kernel), fvR (j := 4) (r := 38) (by decide +kernel) (by decide +kernel), fvR (j := 5) (r := 48) (by decide +kernel) (by decide +kernel), fvR (j := 6) (r := 206) (by decide +kernel) (by decide +kernel), fvR (j := 7) (r := 352) (by decide +kernel) (by decide +kernel)]

theorem so_1 {g : Gv} : ce g Sst 1 = oX4 g (0 + 1 + 0) := by
  rw [ce_5 g Sst (h := 1) (c := 2) (by decide +kernel), show nf 2 = 13 by decide +kernel]
  have e : (List.range 13).map (fv g Sst 1 2) = [fv g Sst 1 2 0, fv g Sst 1 2 1, fv g Sst 1 2 2, fv g Sst 1 2 3, fv g Sst 1 2 4, fv g Sst 1 2 5, fv g Sst 1 2 6, fv g Sst 1 2 7, fv g Sst 1 2 8, fv g Sst 1 2 9, fv g Sst 1 2 10, fv g Sst 1 2 11, fv g Sst 1 2 12] := rfl
  rw [e]
  refine congrArg (fun z => Sum.inr (2, z)) ?_
  rw [fvI (j := 0) (x := 3) (by decide +kernel) (by decide +kernel), fvI (j := 1) (x := 5) (by decide +kernel) (by decide +kernel), fvI (j := 2) (x := 0) (by decide +kernel) (by decide +kernel), fvR (j := 3) (r := 2) (by decide +kernel) (by decide +kernel), fvR (j := 4) (r := 9) (by decide +kernel) (by decide +kernel), fvI (j := 5) (x := 0) (by decide +kernel) (by decide +kernel), fvR (j := 6) (r := 14) (by decide +kernel) (by decide +kernel), fvR (j := 7) (r := 15) (by decide +kernel) (by decide +kernel), fvI (j := 8) (x := 0) (by decide +kernel) (by decide +kernel), fvR (j := 9) (r := 16) (by decide +kernel) (by decide +kernel), fvR (j := 10) (r := 17) (by decide +kernel) (by decide +kernel), fvI (j := 11) (x := 0) (by decide +kernel) (by decide +kernel), fvI (j := 12) (x := 0) (by decide +kernel) (by decide +kernel)]

theorem so_18 {g : Gv} : ce g Sst 18 = oX4 g (0 + 1 + 17) := by
  rw [ce_5 g Sst (h := 18) (c := 2) (by decide +kernel), show nf 2 = 13 by decide +kernel]
  have e : (List.range 13).map (fv g Sst 18 2) = [fv g Sst 18 2 0, fv g Sst 18 2 1, fv g Sst 18 2 2, fv g Sst 18 2 3, fv g Sst 18 2 4, fv g Sst 18 2 5, fv g Sst 18 2 6, fv g Sst 18 2 7, fv g Sst 18 2 8, fv g Sst 18 2 9, fv g Sst 18 2 10, fv g Sst 18 2 11, fv g Sst 18 2 12] := rfl
  rw [e]
  refine congrArg (fun z => Sum.inr (2, z)) ?_
  rw [fvI (j := 0) (x := 3) (by decide +kernel) (by decide +kernel), fvI (j := 1) (x := 5) (by decide +kernel) (by decide +kernel), fvI (j := 2) (x := 0) (by decide +kernel) (by decide +kernel), fvR (j := 3) (r := 19) (by decide +kernel) (by decide +kernel), fvR (j := 4) (r := 26) (by decide +kernel) (by decide +kernel), fvI (j := 5) (x := 0) (by decide +kernel) (by decide +kernel), fvR (j := 6) (r := 31) (by decide +kernel) (by decide +kernel), fvR (j := 7) (r := 32) (by decide +kernel) (by decide +kernel), fvI (j := 8) (x := 0) (by decide +kernel) (by decide +kernel), fvR (j := 9) (r := 33) (by decide +kernel) (by decide +kernel), fvR (j := 10) (r := 34) (by decide +kernel) (by decide +kernel), fvI (j := 11) (x := 0) (by decide +kernel) (by decide +kernel), fvI (j := 12) (x := 0) (by decide +kernel) (by decide +kernel)]

theorem so_35 {g : Gv} : ce g Sst 35 = oX3 g (0 + 1 + 34) := by
  rw [ce_5 g Sst (h := 35) (c := 1) (by decide +kernel), show nf 1 = 4 by decide +kernel]
  have e : (List.range 4).map (fv g Sst 35 1) = [fv g Sst 35 1 0, fv g Sst 35 1 1, fv g Sst 35 1 2, fv g Sst 35 1 3] := rfl
  rw [e]
  refine congrArg (fun z => Sum.inr (1, z)) ?_
  rw [fvR (j := 0) (r := 36) (by decide +kernel) (by decide +kernel), fvI (j := 1) (x := 0) (by decide +kernel) (by decide +kernel), fvI (j := 2) (x := 0) (by decide +kernel) (by decide +kernel), fvR (j := 3) (r := 37) (by decide +kernel) (by decide +kernel)]

theorem so_38 {g : Gv} : ce g Sst 38 = oX7 g (0 + 1 + 37) := by
  rw [ce_5 g Sst (h := 38) (c := 5) (by decide +kernel), show nf 5 = 3 by decide +kernel]
  have e : (List.range 3).map (fv g Sst 38 5) = [fv g Sst 38 5 0, fv g Sst 38 5 1, fv g Sst 38 5 2] := rfl
  rw [e]
  refine congrArg (fun z => Sum.inr (5, z)) ?_
  rw [fvR (j := 0) (r := 39) (by decide +kernel) (by decide +kernel), fvR (j := 1) (r := 40) (by decide +kernel) (by decide +kernel), fvR (j := 2) (r := 41) (by decide +kernel) (by decide +kernel)]

theorem so_48 {g : Gv} : ce g Sst 48 = oX1 g (0 + 1 + 47) := by
  rw [ce_5 g Sst (h := 48) (c := 0) (by decide +kernel), show nf 0 = 14 by decide +kernel]
  have e : (List.range 14).map (fv g Sst 48 0) = [fv g Sst 48 0 0, fv g Sst 48 0 1, fv g Sst 48 0 2, fv g Sst 48 0 3, fv g Sst 48 0 4, fv g Sst 48 0 5, fv g Sst 48 0 6, fv g Sst 48 0 7, fv g Sst 48 0 8, fv g Sst 48 0 9, fv g Sst 48 0 10, fv g Sst 48 0 11, fv g Sst 48 0 12, fv g Sst 48 0 13] := rfl
  rw [e]
  refine congrArg (fun z => Sum.inr (0, z)) ?_
  rw [fvR (j := 0) (r := 49) (by decide +kernel) (by decide +kernel), fvR (j := 1) (r := 68) (by decide +kernel) (by decide +kernel), fvR (j := 2) (r := 87) (by decide +kernel) (by decide +kernel), fvR (j := 3) (r := 106) (by decide +kernel) (by decide +kernel), fvR (j := 4) (r := 107) (by decide +kernel) (by decide +kernel), fvR (j := 5) (r := 126) (by decide +kernel) (by decide +kernel), fvR (j := 6) (r := 145) (by decide +kernel) (by decide +kernel), fvR (j := 7) (r := 164) (by decide +kernel) (by decide +kernel), fvR (j := 8) (r := 183) (by decide +kernel) (by decide +kernel), fvI (j := 9) (x := 0) (by decide +kernel) (by decide +kernel), fvI (j := 10) (x := 0) (by decide +kernel) (by decide +kernel), fvR (j := 11) (r := 188) (by decide +kernel) (by decide +kernel), fvI (j := 12) (x := 0) (by decide +kernel) (by decide +kernel), fvR (j := 13) (r := 205) (by decide +kernel) (by decide +kernel)]

theorem so_49 {g : Gv} : ce g Sst 49 = oX5_16 g (0 + 1 + 47 + 1 + 0) := by
  rw [ce_5 g Sst (h := 49) (c := 3) (by decide +kernel), show nf 3 = 6 by decide +kernel]
  have e : (List.range 6).map (fv g Sst 49 3) = [fv g Sst 49 3 0, fv g Sst 49 3 1, fv g Sst 49 3 2, fv g Sst 49 3 3, fv g Sst 49 3 4, fv g Sst 49 3 5] := rfl
  rw [e]
  refine congrArg (fun z => Sum.inr (3, z)) ?_
  rw [fvR (j := 0) (r := 50) (by decide +kernel) (by decide +kernel), fvR (j := 1) (r := 67) (by decide +kernel) (by decide +kernel), fvI (j := 2) (x := 0) (by decide +kernel) (by decide +kernel), fvI (j := 3) (x := 0) (by decide +kernel) (by decide +kernel), fvI (j := 4) (x := 2) (by decide +kernel) (by decide +kernel), fvI (j := 5) (x := 0) (by decide +kernel) (by decide +kernel)]

theorem so_68 {g : Gv} : ce g Sst 68 = oX5_16 g (0 + 1 + 47 + 1 + 19) := by
  rw [ce_5 g Sst (h := 68) (c := 3) (by decide +kernel), show nf 3 = 6 by decide +kernel]
  have e : (List.range 6).map (fv g Sst 68 3) = [fv g Sst 68 3 0, fv g Sst 68 3 1, fv g Sst 68 3 2, fv g Sst 68 3 3, fv g Sst 68 3 4, fv g Sst 68 3 5] := rfl
  rw [e]
  refine congrArg (fun z => Sum.inr (3, z)) ?_
  rw [fvR (j := 0) (r := 69) (by decide +kernel) (by decide +kernel), fvR (j := 1) (r := 86) (by decide +kernel) (by decide +kernel), fvI (j := 2) (x := 0) (by decide +kernel) (by decide +kernel), fvI (j := 3) (x := 0) (by decide +kernel) (by decide +kernel), fvI (j := 4) (x := 2) (by decide +kernel) (by decide +kernel), fvI (j := 5) (x := 0) (by decide +kernel) (by decide +kernel)]

theorem so_87 {g : Gv} : ce g Sst 87 = oX5_16 g (0 + 1 + 47 + 1 + 38) := by
  rw [ce_5 g Sst (h := 87) (c := 3) (by decide +kernel), show nf 3 = 6 by decide +kernel]
  have e : (List.range 6).map (fv g Sst 87 3) = [fv g Sst 87 3 0, fv g Sst 87 3 1, fv g Sst 87 3 2, fv g Sst 87 3 3, fv g Sst 87 3 4, fv g Sst 87 3 5] := rfl
  rw [e]
  refine congrArg (fun z => Sum.inr (3, z)) ?_
  rw [fvR (j := 0) (r := 88) (by decide +kernel) (by decide +kernel), fvR (j := 1) (r := 105) (by decide +kernel) (by decide +kernel), fvI (j := 2) (x := 0) (by decide +kernel) (by decide +kernel), fvI (j := 3) (x := 0) (by decide +kernel) (by decide +kernel), fvI (j := 4) (x := 2) (by decide +kernel) (by decide +kernel), fvI (j := 5) (x := 0) (by decide +kernel) (by decide +kernel)]

theorem so_107 {g : Gv} : ce g Sst 107 = oX5_16 g (0 + 1 + 47 + 1 + 58) := by
  rw [ce_5 g Sst (h := 107) (c := 3) (by decide +kernel), show nf 3 = 6 by decide +kernel]
  have e : (List.range 6).map (fv g Sst 107 3) = [fv g Sst 107 3 0, fv g Sst 107 3 1, fv g Sst 107 3 2, fv g Sst 107 3 3, fv g Sst 107 3 4, fv g Sst 107 3 5] := rfl
  rw [e]
  refine congrArg (fun z => Sum.inr (3, z)) ?_
  rw [fvR (j := 0) (r := 108) (by decide +kernel) (by decide +kernel), fvR (j := 1) (r := 125) (by decide +kernel) (by decide +kernel), fvI (j := 2) (x := 0) (by decide +kernel) (by decide +kernel), fvI (j := 3) (x := 0) (by decide +kernel) (by decide +kernel), fvI (j := 4) (x := 2) (by decide +kernel) (by decide +kernel), fvI (j := 5) (x := 0) (by decide +kernel) (by decide +kernel)]

theorem so_126 {g : Gv} : ce g Sst 126 = oX5_16 g (0 + 1 + 47 + 1 + 77) := by
  rw [ce_5 g Sst (h := 126) (c := 3) (by decide +kernel), show nf 3 = 6 by decide +kernel]
  have e : (List.range 6).map (fv g Sst 126 3) = [fv g Sst 126 3 0, fv g Sst 126 3 1, fv g Sst 126 3 2, fv g Sst 126 3 3, fv g Sst 126 3 4, fv g Sst 126 3 5] := rfl
  rw [e]
  refine congrArg (fun z => Sum.inr (3, z)) ?_
  rw [fvR (j := 0) (r := 127) (by decide +kernel) (by decide +kernel), fvR (j := 1) (r := 144) (by decide +kernel) (by decide +kernel), fvI (j := 2) (x := 0) (by decide +kernel) (by decide +kernel), fvI (j := 3) (x := 0) (by decide +kernel) (by decide +kernel), fvI (j := 4) (x := 2) (by decide +kernel) (by decide +kernel), fvI (j := 5) (x := 0) (by decide +kernel) (by decide +kernel)]

theorem so_145 {g : Gv} : ce g Sst 145 = oX5_16 g (0 + 1 + 47 + 1 + 96) := by
  rw [ce_5 g Sst (h := 145) (c := 3) (by decide +kernel), show nf 3 = 6 by decide +kernel]
  have e : (List.range 6).map (fv g Sst 145 3) = [fv g Sst 145 3 0, fv g Sst 145 3 1, fv g Sst 145 3 2, fv g Sst 145 3 3, fv g Sst 145 3 4, fv g Sst 145 3 5] := rfl
  rw [e]
  refine congrArg (fun z => Sum.inr (3, z)) ?_
  rw [fvR (j := 0) (r := 146) (by decide +kernel) (by decide +kernel), fvR (j := 1) (r := 163) (by decide +kernel) (by decide +kernel), fvI (j := 2) (x := 0) (by decide +kernel) (by decide +kernel), fvI (j := 3) (x := 0) (by decide +kernel) (by decide +kernel), fvI (j := 4) (x := 2) (by decide +kernel) (by decide +kernel), fvI (j := 5) (x := 0) (by decide +kernel) (by decide +kernel)]

theorem so_164 {g : Gv} : ce g Sst 164 = oX5_16 g (0 + 1 + 47 + 1 + 115) := by
  rw [ce_5 g Sst (h := 164) (c := 3) (by decide +kernel), show nf 3 = 6 by decide +kernel]
  have e : (List.range 6).map (fv g Sst 164 3) = [fv g Sst 164 3 0, fv g Sst 164 3 1, fv g Sst 164 3 2, fv g Sst 164 3 3, fv g Sst 164 3 4, fv g Sst 164 3 5] := rfl
  rw [e]
  refine congrArg (fun z => Sum.inr (3, z)) ?_
  rw [fvR (j := 0) (r := 165) (by decide +kernel) (by decide +kernel), fvR (j := 1) (r := 182) (by decide +kernel) (by decide +kernel), fvI (j := 2) (x := 0) (by decide +kernel) (by decide +kernel), fvI (j := 3) (x := 0) (by decide +kernel) (by decide +kernel), fvI (j := 4) (x := 2) (by decide +kernel) (by decide +kernel), fvI (j := 5) (x := 0) (by decide +kernel) (by decide +kernel)]

theorem so_206 {g : Gv} : ce g Sst 206 = oX6 g (0 + 1 + 205) := by
  rw [ce_5 g Sst (h := 206) (c := 4) (by decide +kernel), show nf 4 = 7 by decide +kernel]
  have e : (List.range 7).map (fv g Sst 206 4) = [fv g Sst 206 4 0, fv g Sst 206 4 1, fv g Sst 206 4 2, fv g Sst 206 4 3, fv g Sst 206 4 4, fv g Sst 206 4 5, fv g Sst 206 4 6] := rfl
  rw [e]
  refine congrArg (fun z => Sum.inr (4, z)) ?_
  rw [fvR (j := 0) (r := 207) (by decide +kernel) (by decide +kernel), fvR (j := 1) (r := 274) (by decide +kernel) (by decide +kernel), fvR (j := 2) (r := 341) (by decide +kernel) (by decide +kernel), fvI (j := 3) (x := 0) (by decide +kernel) (by decide +kernel), fvI (j := 4) (x := 1) (by decide +kernel) (by decide +kernel), fvR (j := 5) (r := 350) (by decide +kernel) (by decide +kernel), fvR (j := 6) (r := 351) (by decide +kernel) (by decide +kernel)]

theorem so_207 {g : Gv} : ce g Sst 207 = oX5_64 g (0 + 1 + 205 + 1 + 0) := by
  rw [ce_5 g Sst (h := 207) (c := 3) (by decide +kernel), show nf 3 = 6 by decide +kernel]
  have e : (List.range 6).map (fv g Sst 207 3) = [fv g Sst 207 3 0, fv g Sst 207 3 1, fv g Sst 207 3 2, fv g Sst 207 3 3, fv g Sst 207 3 4, fv g Sst 207 3 5] := rfl
  rw [e]
  refine congrArg (fun z => Sum.inr (3, z)) ?_
  rw [fvR (j := 0) (r := 208) (by decide +kernel) (by decide +kernel), fvR (j := 1) (r := 273) (by decide +kernel) (by decide +kernel), fvI (j := 2) (x := 0) (by decide +kernel) (by decide +kernel), fvI (j := 3) (x := 0) (by decide +kernel) (by decide +kernel), fvI (j := 4) (x := 2) (by decide +kernel) (by decide +kernel), fvI (j := 5) (x := 0) (by decide +kernel) (by decide +kernel)]

theorem so_274 {g : Gv} : ce g Sst 274 = oX5_64 g (0 + 1 + 205 + 1 + 67) := by
  rw [ce_5 g Sst (h := 274) (c := 3) (by decide +kernel), show nf 3 = 6 by decide +kernel]
  have e : (List.range 6).map (fv g Sst 274 3) = [fv g Sst 274 3 0, fv g Sst 274 3 1, fv g Sst 274 3 2, fv g Sst 274 3 3, fv g Sst 274 3 4, fv g Sst 274 3 5] := rfl
  rw [e]
  refine congrArg (fun z => Sum.inr (3, z)) ?_
  rw [fvR (j := 0) (r := 275) (by decide +kernel) (by decide +kernel), fvR (j := 1) (r := 340) (by decide +kernel) (by decide +kernel), fvI (j := 2) (x := 0) (by decide +kernel) (by decide +kernel), fvI (j := 3) (x := 0) (by decide +kernel) (by decide +kernel), fvI (j := 4) (x := 2) (by decide +kernel) (by decide +kernel), fvI (j := 5) (x := 0) (by decide +kernel) (by decide +kernel)]

theorem so_353 {g : Gv} : ce g Sst 353 = oX9 g 353 := by
  rw [ce_5 g Sst (h := 353) (c := 7) (by decide +kernel), show nf 7 = 43 by decide +kernel]
  have e : (List.range 43).map (fv g Sst 353 7) = [fv g Sst 353 7 0, fv g Sst 353 7 1, fv g Sst 353 7 2, fv g Sst 353 7 3, fv g Sst 353 7 4, fv g Sst 353 7 5, fv g Sst 353 7 6, fv g Sst 353 7 7, fv g Sst 353 7 8, fv g Sst 353 7 9, fv g Sst 353 7 10, fv g Sst 353 7 11, fv g Sst 353 7 12, fv g Sst 353 7 13, fv g Sst 353 7 14, fv g Sst 353 7 15, fv g Sst 353 7 16, fv g Sst 353 7 17, fv g Sst 353 7 18, fv g Sst 353 7 19, fv g Sst 353 7 20, fv g Sst 353 7 21, fv g Sst 353 7 22, fv g Sst 353 7 23, fv g Sst 353 7 24, fv g Sst 353 7 25, fv g Sst 353 7 26, fv g Sst 353 7 27, fv g Sst 353 7 28, fv g Sst 353 7 29, fv g Sst 353 7 30, fv g Sst 353 7 31, fv g Sst 353 7 32, fv g Sst 353 7 33, fv g Sst 353 7 34, fv g Sst 353 7 35, fv g Sst 353 7 36, fv g Sst 353 7 37, fv g Sst 353 7 38, fv g Sst 353 7 39, fv g Sst 353 7 40, fv g Sst 353 7 41, fv g Sst 353 7 42] := rfl
  rw [e]
  refine congrArg (fun z => Sum.inr (7, z)) ?_
  rw [fvI (j := 0) (x := 3) (by decide +kernel) (by decide +kernel), fvI (j := 1) (x := 5) (by decide +kernel) (by decide +kernel), fvI (j := 2) (x := 0) (by decide +kernel) (by decide +kernel), fvI (j := 3) (x := 8) (by decide +kernel) (by decide +kernel), fvR (j := 4) (r := 354) (by decide +kernel) (by decide +kernel), fvR (j := 5) (r := 355) (by decide +kernel) (by decide +kernel), fvI (j := 6) (x := 0) (by decide +kernel) (by decide +kernel), fvR (j := 7) (r := 356) (by decide +kernel) (by decide +kernel), fvR (j := 8) (r := 357) (by decide +kernel) (by decide +kernel), fvI (j := 9) (x := 0) (by decide +kernel) (by decide +kernel), fvR (j := 10) (r := 358) (by decide +kernel) (by decide +kernel), fvR (j := 11) (r := 359) (by decide +kernel) (by decide +kernel), fvI (j := 12) (x := 0) (by decide +kernel) (by decide +kernel), fvR (j := 13) (r := 360) (by decide +kernel) (by decide +kernel), fvI (j := 14) (x := 0) (by decide +kernel) (by decide +kernel), fvI (j := 15) (x := 0) (by decide +kernel) (by decide +kernel), fvR (j := 16) (r := 361) (by decide +kernel) (by decide +kernel), fvR (j := 17) (r := 362) (by decide +kernel) (by decide +kernel), fvR (j := 18) (r := 363) (by decide +kernel) (by decide +kernel), fvR (j := 19) (r := 364) (by decide +kernel) (by decide +kernel), fvR (j := 20) (r := 365) (by decide +kernel) (by decide +kernel), fvI (j := 21) (x := 0) (by decide +kernel) (by decide +kernel), fvR (j := 22) (r := 366) (by decide +kernel) (by decide +kernel), fvR (j := 23) (r := 367) (by decide +kernel) (by decide +kernel), fvR (j := 24) (r := 368) (by decide +kernel) (by decide +kernel), fvI (j := 25) (x := 0) (by decide +kernel) (by decide +kernel), fvR (j := 26) (r := 369) (by decide +kernel) (by decide +kernel), fvI (j := 27) (x := 0) (by decide +kernel) (by decide +kernel), fvR (j := 28) (r := 370) (by decide +kernel) (by decide +kernel), fvR (j := 29) (r := 371) (by decide +kernel) (by decide +kernel), fvR (j := 30) (r := 372) (by decide +kernel) (by decide +kernel), fvR (j := 31) (r := 373) (by decide +kernel) (by decide +kernel), fvR (j := 32) (r := 374) (by decide +kernel) (by decide +kernel), fvR (j := 33) (r := 375) (by decide +kernel) (by decide +kernel), fvR (j := 34) (r := 376) (by decide +kernel) (by decide +kernel), fvI (j := 35) (x := 0) (by decide +kernel) (by decide +kernel), fvI (j := 36) (x := 0) (by decide +kernel) (by decide +kernel), fvR (j := 37) (r := 377) (by decide +kernel) (by decide +kernel), fvI (j := 38) (x := 0) (by decide +kernel) (by decide +kernel), fvI (j := 39) (x := 0) (by decide +kernel) (by decide +kernel), fvR (j := 40) (r := 378) (by decide +kernel) (by decide +kernel), fvI (j := 41) (x := 0) (by decide +kernel) (by decide +kernel), fvR (j := 42) (r := 379) (by decide +kernel) (by decide +kernel)]

