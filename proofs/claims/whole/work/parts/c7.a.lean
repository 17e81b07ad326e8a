/-! the store that the constructors leave -/
def sfS : Nat → Int32 := fun j => if j = 0 then 3 else if j = 1 then 5 else 0
def sfP : Nat → Int32 := fun j => if j = 4 then 2 else 0
def sfT : Nat → Int32 := fun j => if j = 4 then 1 else 0
def sfM : Nat → Int32 := fun j => if j = 0 then 3 else if j = 1 then 5 else if j = 3 then 8 else 0
def sfE : Nat → Int32 := upd (upd (upd (fun _ => 0) 0 (-1)) 1 (-1)) 2 (-1)
def sfX : Nat → Int32 := upd (upd (upd (upd (upd (upd (fun _ => 0) 0 (-1)) 1 (-1)) 2 (-1)) 3 (-1)) 4 (-1)) 5 (-1)
def Sst : Sto := (fun i => if i = 1 then sfS else if i = 18 then sfS else if i = 39 then sfX else if i = 49 then sfP else if i = 68 then sfP else if i = 87 then sfP else if i = 106 then sfE else if i = 107 then sfP else if i = 126 then sfP else if i = 145 then sfP else if i = 164 then sfP else if i = 206 then sfT else if i = 207 then sfP else if i = 274 then sfP else if i = 353 then sfM else if i = 362 then sfX else fun _ => 0, fun _ _ => 0)
theorem Sst_0 {i : Nat} (h : i ≠ 1 ∧ i ≠ 18 ∧ i ≠ 39 ∧ i ≠ 49 ∧ i ≠ 68 ∧ i ≠ 87 ∧ i ≠ 106 ∧ i ≠ 107 ∧ i ≠ 126 ∧ i ≠ 145 ∧ i ≠ 164 ∧ i ≠ 206 ∧ i ≠ 207 ∧ i ≠ 274 ∧ i ≠ 353 ∧ i ≠ 362) : Sst.1 i = fun _ => 0 := by
  obtain ⟨h1, h2, h3, h4, h5, h6, h7, h8, h9, h10, h11, h12, h13, h14, h15, h16⟩ := h
  show (if i = 1 then sfS else _) = _
  rw [if_neg h1, if_neg h2, if_neg h3, if_neg h4, if_neg h5, if_neg h6, if_neg h7, if_neg h8, if_neg h9, if_neg h10, if_neg h11, if_neg h12, if_neg h13, if_neg h14, if_neg h15, if_neg h16]
theorem Sst_rel : Rel Sst 0 := by
  have z : ∀ i, (i ≠ 1 ∧ i ≠ 18 ∧ i ≠ 39 ∧ i ≠ 49 ∧ i ≠ 68 ∧ i ≠ 87 ∧ i ≠ 106 ∧ i ≠ 107 ∧ i ≠ 126 ∧ i ≠ 145 ∧ i ≠ 164 ∧ i ≠ 206 ∧ i ≠ 207 ∧ i ≠ 274 ∧ i ≠ 353 ∧ i ≠ 362) → ∀ j, Sst.1 i j = 0 := fun i h j => by rw [Sst_0 h]
  refine ⟨3, 5, 0, 0, 0, 0, ⟨⟨by decide, by decide, Or.inr (Or.inr (Or.inl rfl)), by decide, by decide, by decide, by decide⟩, ⟨rfl, rfl, rfl, rfl, rfl, rfl⟩, ⟨rfl, rfl, rfl, rfl, rfl, rfl⟩, fun e he i hi => ?_, fun g hg => absurd hg (by omega), fun i hi => absurd hi (by omega), fun i hi => absurd hi (by omega)⟩, rfl, ⟨0, by omega, rfl, rfl, fun i hi => absurd hi (by omega)⟩, fun t ht => ?_, Or.inl ⟨rfl, rfl⟩, ⟨0, rfl, by omega, fun s hs => ?_⟩, 0, rfl, Nat.le_refl _⟩
  · have a := z (1 + 2 + e) (by omega) i
    have b := z 354 (by decide) (16 * e + i)
    exact ⟨b.trans a.symm, 0, a, by omega, by decide, fun _ => rfl⟩
  · have a : Sst.1 39 t = -1 ∧ Sst.1 362 t = -1 := by
      have : t = 0 ∨ t = 1 ∨ t = 2 ∨ t = 3 ∨ t = 4 ∨ t = 5 := by omega
      rcases this with rfl | rfl | rfl | rfl | rfl | rfl <;> exact ⟨rfl, rfl⟩
    have b := z 40 (by decide) t
    have c := z 363 (by decide) t
    exact ⟨a.2.trans a.1.symm, c.trans b.symm, 0, by omega, b, Or.inl ⟨a.1, rfl⟩, fun i hi => absurd hi (by omega)⟩
  · have a : Sst.1 106 s = -1 := by
      have : s = 0 ∨ s = 1 ∨ s = 2 := by omega
      rcases this with rfl | rfl | rfl <;> rfl
    exact ⟨Or.inl a, fun q => absurd (q.symm.trans a) (m1_ne (by omega))⟩
