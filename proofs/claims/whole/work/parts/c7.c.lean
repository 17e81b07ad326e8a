/-! the world that the constructors leave (2) -/
theorem sb_49 {g : Gv} : bX5_16 g (0 + 1 + 47 + 1 + 0) = (List.range' 50 18).map (ce g Sst) := by
  unfold bX5_16
  exact (sg_app (a := 50) (k := 17) (m := 1) (sg_app (a := 50) (k := 0) (m := 17) sg_nil (sg_cons (a := 50) (m := 16) (sg_r (by decide +kernel)) (sg_rep (a := 51) (k := 16) (w := 16) (by decide +kernel)))) (sg_one (sg_z (a := 67) (w := 16) (by decide +kernel))))
theorem sb_68 {g : Gv} : bX5_16 g (0 + 1 + 47 + 1 + 19) = (List.range' 69 18).map (ce g Sst) := by
  unfold bX5_16
  exact (sg_app (a := 69) (k := 17) (m := 1) (sg_app (a := 69) (k := 0) (m := 17) sg_nil (sg_cons (a := 69) (m := 16) (sg_r (by decide +kernel)) (sg_rep (a := 70) (k := 16) (w := 16) (by decide +kernel)))) (sg_one (sg_z (a := 86) (w := 16) (by decide +kernel))))
theorem sb_87 {g : Gv} : bX5_16 g (0 + 1 + 47 + 1 + 38) = (List.range' 88 18).map (ce g Sst) := by
  unfold bX5_16
  exact (sg_app (a := 88) (k := 17) (m := 1) (sg_app (a := 88) (k := 0) (m := 17) sg_nil (sg_cons (a := 88) (m := 16) (sg_r (by decide +kernel)) (sg_rep (a := 89) (k := 16) (w := 16) (by decide +kernel)))) (sg_one (sg_z (a := 105) (w := 16) (by decide +kernel))))
theorem sb_107 {g : Gv} : bX5_16 g (0 + 1 + 47 + 1 + 58) = (List.range' 108 18).map (ce g Sst) := by
  unfold bX5_16
  exact (sg_app (a := 108) (k := 17) (m := 1) (sg_app (a := 108) (k := 0) (m := 17) sg_nil (sg_cons (a := 108) (m := 16) (sg_r (by decide +kernel)) (sg_rep (a := 109) (k := 16) (w := 16) (by decide +kernel)))) (sg_one (sg_z (a := 125) (w := 16) (by decide +kernel))))
theorem sb_126 {g : Gv} : bX5_16 g (0 + 1 + 47 + 1 + 77) = (List.range' 127 18).map (ce g Sst) := by
  unfold bX5_16
  exact (sg_app (a := 127) (k := 17) (m := 1) (sg_app (a := 127) (k := 0) (m := 17) sg_nil (sg_cons (a := 127) (m := 16) (sg_r (by decide +kernel)) (sg_rep (a := 128) (k := 16) (w := 16) (by decide +kernel)))) (sg_one (sg_z (a := 144) (w := 16) (by decide +kernel))))
theorem sb_145 {g : Gv} : bX5_16 g (0 + 1 + 47 + 1 + 96) = (List.range' 146 18).map (ce g Sst) := by
  unfold bX5_16
  exact (sg_app (a := 146) (k := 17) (m := 1) (sg_app (a := 146) (k := 0) (m := 17) sg_nil (sg_cons (a := 146) (m := 16) (sg_r (by decide +kernel)) (sg_rep (a := 147) (k := 16) (w := 16) (by decide +kernel)))) (sg_one (sg_z (a := 163) (w := 16) (by decide +kernel))))
theorem sb_164 {g : Gv} : bX5_16 g (0 + 1 + 47 + 1 + 115) = (List.range' 165 18).map (ce g Sst) := by
  unfold bX5_16
  exact (sg_app (a := 165) (k := 17) (m := 1) (sg_app (a := 165) (k := 0) (m := 17) sg_nil (sg_cons (a := 165) (m := 16) (sg_r (by decide +kernel)) (sg_rep (a := 166) (k := 16) (w := 16) (by decide +kernel)))) (sg_one (sg_z (a := 182) (w := 16) (by decide +kernel))))
theorem sb_207 {g : Gv} : bX5_64 g (0 + 1 + 205 + 1 + 0) = (List.range' 208 66).map (ce g Sst) := by
  unfold bX5_64
  exact (sg_app (a := 208) (k := 65) (m := 1) (sg_app (a := 208) (k := 0) (m := 65) sg_nil (sg_cons (a := 208) (m := 64) (sg_r (by decide +kernel)) (sg_rep (a := 209) (k := 64) (w := 64) (by decide +kernel)))) (sg_one (sg_z (a := 273) (w := 64) (by decide +kernel))))
theorem sb_274 {g : Gv} : bX5_64 g (0 + 1 + 205 + 1 + 67) = (List.range' 275 66).map (ce g Sst) := by
  unfold bX5_64
  exact (sg_app (a := 275) (k := 65) (m := 1) (sg_app (a := 275) (k := 0) (m := 65) sg_nil (sg_cons (a := 275) (m := 64) (sg_r (by decide +kernel)) (sg_rep (a := 276) (k := 64) (w := 64) (by decide +kernel)))) (sg_one (sg_z (a := 340) (w := 64) (by decide +kernel))))
theorem sb_1 {g : Gv} : bX4 g (0 + 1 + 0) = (List.range' 2 16).map (ce g Sst) := by
  unfold bX4
  exact (sg_app (a := 2) (k := 15) (m := 1) (sg_app (a := 2) (k := 14) (m := 1) (sg_app (a := 2) (k := 13) (m := 1) (sg_app (a := 2) (k := 12) (m := 1) (sg_app (a := 2) (k := 7) (m := 5) (sg_app (a := 2) (k := 0) (m := 7) sg_nil (sg_cons (a := 2) (m := 6) (sg_r (by decide +kernel)) (sg_rep (a := 3) (k := 6) (w := 16) (by decide +kernel)))) (sg_cons (a := 9) (m := 4) (sg_r (by decide +kernel)) (sg_rep (a := 10) (k := 4) (w := 16) (by decide +kernel)))) (sg_one (sg_i (a := 14) (w := 8) (by decide +kernel) (zz_0 (by decide +kernel))))) (sg_one (sg_i (a := 15) (w := 8) (by decide +kernel) (zz_0 (by decide +kernel))))) (sg_one (sg_i (a := 16) (w := 8) (by decide +kernel) (zz_0 (by decide +kernel))))) (sg_one (sg_i (a := 17) (w := 8) (by decide +kernel) (zz_0 (by decide +kernel)))))
theorem sb_18 {g : Gv} : bX4 g (0 + 1 + 17) = (List.range' 19 16).map (ce g Sst) := by
  unfold bX4
  exact (sg_app (a := 19) (k := 15) (m := 1) (sg_app (a := 19) (k := 14) (m := 1) (sg_app (a := 19) (k := 13) (m := 1) (sg_app (a := 19) (k := 12) (m := 1) (sg_app (a := 19) (k := 7) (m := 5) (sg_app (a := 19) (k := 0) (m := 7) sg_nil (sg_cons (a := 19) (m := 6) (sg_r (by decide +kernel)) (sg_rep (a := 20) (k := 6) (w := 16) (by decide +kernel)))) (sg_cons (a := 26) (m := 4) (sg_r (by decide +kernel)) (sg_rep (a := 27) (k := 4) (w := 16) (by decide +kernel)))) (sg_one (sg_i (a := 31) (w := 8) (by decide +kernel) (zz_0 (by decide +kernel))))) (sg_one (sg_i (a := 32) (w := 8) (by decide +kernel) (zz_0 (by decide +kernel))))) (sg_one (sg_i (a := 33) (w := 8) (by decide +kernel) (zz_0 (by decide +kernel))))) (sg_one (sg_i (a := 34) (w := 8) (by decide +kernel) (zz_0 (by decide +kernel)))))
theorem sb_35 {g : Gv} : bX3 g (0 + 1 + 34) = (List.range' 36 2).map (ce g Sst) := by
  unfold bX3
  exact (sg_app (a := 36) (k := 1) (m := 1) (sg_app (a := 36) (k := 0) (m := 1) sg_nil (sg_one (sg_i (a := 36) (w := 100) (by decide +kernel) (zz_0 (by decide +kernel))))) (sg_one (sg_i (a := 37) (w := 16) (by decide +kernel) (zz_0 (by decide +kernel)))))
theorem sg_repl {g : Gv} {a k w : Nat} (h : ∀ i, i < k → kd (a + i) = 2 ∧ ln (a + i) = w) : List.replicate k (.inl (g.2.2.1 2, w, .inr (.inl (fun _ => 0))) : va_E) = (List.range' a k).map (ce g Sst) := by
  apply List.ext_getElem?
  intro i
  rw [List.getElem?_replicate, List.getElem?_map]
  by_cases q : i < k
  · rw [if_pos q, List.getElem?_range' q, Nat.one_mul]
    show _ = some (ce g Sst (a + i))
    rw [sg_l (h i q)]
  · rw [if_neg q, List.getElem?_eq_none (by simp; omega)]; rfl
theorem sb_38 {g : Gv} : bX7 g (0 + 1 + 37) = (List.range' 39 9).map (ce g Sst) := by
  unfold bX7
  exact sg_cons (a := 39) (m := 8) (sg_i (a := 39) (w := 6) (by decide +kernel) rfl) (sg_app (a := 40) (k := 1) (m := 7) (sg_app (a := 40) (k := 0) (m := 1) sg_nil (sg_one (sg_i (a := 40) (w := 6) (by decide +kernel) (zz_0 (by decide +kernel))))) (sg_cons (a := 41) (m := 6) (sg_r4 (by decide +kernel)) (sg_repl (a := 42) (k := 6) (w := 60) (by decide +kernel))))
theorem sb_48 {g : Gv} : bX1 g (0 + 1 + 47) = (List.range' 49 157).map (ce g Sst) := by
  unfold bX1
  exact (sg_app (a := 49) (k := 156) (m := 1) (sg_app (a := 49) (k := 139) (m := 17) (sg_app (a := 49) (k := 134) (m := 5) (sg_app (a := 49) (k := 115) (m := 19) (sg_app (a := 49) (k := 96) (m := 19) (sg_app (a := 49) (k := 77) (m := 19) (sg_app (a := 49) (k := 58) (m := 19) (sg_app (a := 49) (k := 57) (m := 1) (sg_app (a := 49) (k := 38) (m := 19) (sg_app (a := 49) (k := 19) (m := 19) (sg_app (a := 49) (k := 0) (m := 19) sg_nil (sg_cons (a := 49) (m := 18) so_49 sb_49)) (sg_cons (a := 68) (m := 18) so_68 sb_68)) (sg_cons (a := 87) (m := 18) so_87 sb_87)) (sg_one (sg_i (a := 106) (w := 3) (by decide +kernel) rfl))) (sg_cons (a := 107) (m := 18) so_107 sb_107)) (sg_cons (a := 126) (m := 18) so_126 sb_126)) (sg_cons (a := 145) (m := 18) so_145 sb_145)) (sg_cons (a := 164) (m := 18) so_164 sb_164)) (sg_cons (a := 183) (m := 4) (sg_r (by decide +kernel)) (sg_rep (a := 184) (k := 4) (w := 16) (by decide +kernel)))) (sg_cons (a := 188) (m := 16) (sg_r (by decide +kernel)) (sg_rep (a := 189) (k := 16) (w := 16) (by decide +kernel)))) (sg_one (sg_i (a := 205) (w := 16) (by decide +kernel) (zz_0 (by decide +kernel)))))
theorem sb_206 {g : Gv} : bX6 g (0 + 1 + 205) = (List.range' 207 145).map (ce g Sst) := by
  unfold bX6
  exact (sg_app (a := 207) (k := 144) (m := 1) (sg_app (a := 207) (k := 143) (m := 1) (sg_app (a := 207) (k := 134) (m := 9) (sg_app (a := 207) (k := 67) (m := 67) (sg_app (a := 207) (k := 0) (m := 67) sg_nil (sg_cons (a := 207) (m := 66) so_207 sb_207)) (sg_cons (a := 274) (m := 66) so_274 sb_274)) (sg_cons (a := 341) (m := 8) (sg_r (by decide +kernel)) (sg_rep (a := 342) (k := 8) (w := 64) (by decide +kernel)))) (sg_one (sg_i (a := 350) (w := 64) (by decide +kernel) (zz_0 (by decide +kernel))))) (sg_one (sg_i (a := 351) (w := 64) (by decide +kernel) (zz_0 (by decide +kernel)))))
theorem sb_0 {g : Gv} : bX8 g 0 = (List.range' 1 352).map (ce g Sst) := by
  unfold bX8
  exact (sg_app (a := 1) (k := 351) (m := 1) (sg_app (a := 1) (k := 205) (m := 146) (sg_app (a := 1) (k := 47) (m := 158) (sg_app (a := 1) (k := 37) (m := 10) (sg_app (a := 1) (k := 34) (m := 3) (sg_app (a := 1) (k := 17) (m := 17) (sg_app (a := 1) (k := 0) (m := 17) sg_nil (sg_cons (a := 1) (m := 16) so_1 sb_1)) (sg_cons (a := 18) (m := 16) so_18 sb_18)) (sg_cons (a := 35) (m := 2) so_35 sb_35)) (sg_cons (a := 38) (m := 9) so_38 sb_38)) (sg_cons (a := 48) (m := 157) so_48 sb_48)) (sg_cons (a := 206) (m := 145) so_206 sb_206)) (sg_one (sg_i (a := 352) (w := 16) (by decide +kernel) (zz_0 (by decide +kernel)))))
theorem sb_353 {g : Gv} : bX9 g 353 = (List.range' 354 26).map (ce g Sst) := by
  unfold bX9
  exact (sg_app (a := 354) (k := 25) (m := 1) (sg_app (a := 354) (k := 24) (m := 1) (sg_app (a := 354) (k := 23) (m := 1) (sg_app (a := 354) (k := 22) (m := 1) (sg_app (a := 354) (k := 21) (m := 1) (sg_app (a := 354) (k := 20) (m := 1) (sg_app (a := 354) (k := 19) (m := 1) (sg_app (a := 354) (k := 18) (m := 1) (sg_app (a := 354) (k := 17) (m := 1) (sg_app (a := 354) (k := 16) (m := 1) (sg_app (a := 354) (k := 15) (m := 1) (sg_app (a := 354) (k := 14) (m := 1) (sg_app (a := 354) (k := 13) (m := 1) (sg_app (a := 354) (k := 12) (m := 1) (sg_app (a := 354) (k := 11) (m := 1) (sg_app (a := 354) (k := 10) (m := 1) (sg_app (a := 354) (k := 9) (m := 1) (sg_app (a := 354) (k := 8) (m := 1) (sg_app (a := 354) (k := 7) (m := 1) (sg_app (a := 354) (k := 6) (m := 1) (sg_app (a := 354) (k := 5) (m := 1) (sg_app (a := 354) (k := 4) (m := 1) (sg_app (a := 354) (k := 3) (m := 1) (sg_app (a := 354) (k := 2) (m := 1) (sg_app (a := 354) (k := 1) (m := 1) (sg_app (a := 354) (k := 0) (m := 1) sg_nil (sg_one (sg_i (a := 354) (w := 96) (by decide +kernel) (zz_0 (by decide +kernel))))) (sg_one (sg_i (a := 355) (w := 64) (by decide +kernel) (zz_0 (by decide +kernel))))) (sg_one (sg_i (a := 356) (w := 8) (by decide +kernel) (zz_0 (by decide +kernel))))) (sg_one (sg_i (a := 357) (w := 8) (by decide +kernel) (zz_0 (by decide +kernel))))) (sg_one (sg_i (a := 358) (w := 8) (by decide +kernel) (zz_0 (by decide +kernel))))) (sg_one (sg_i (a := 359) (w := 8) (by decide +kernel) (zz_0 (by decide +kernel))))) (sg_one (sg_i (a := 360) (w := 100) (by decide +kernel) (zz_0 (by decide +kernel))))) (sg_one (sg_l (a := 361) (w := 360) (by decide +kernel)))) (sg_one (sg_i (a := 362) (w := 6) (by decide +kernel) rfl))) (sg_one (sg_i (a := 363) (w := 6) (by decide +kernel) (zz_0 (by decide +kernel))))) (sg_one (sg_i (a := 364) (w := 200) (by decide +kernel) (zz_0 (by decide +kernel))))) (sg_one (sg_i (a := 365) (w := 200) (by decide +kernel) (zz_0 (by decide +kernel))))) (sg_one (sg_i (a := 366) (w := 65536) (by decide +kernel) (zz_0 (by decide +kernel))))) (sg_one (sg_i (a := 367) (w := 256) (by decide +kernel) (zz_0 (by decide +kernel))))) (sg_one (sg_i (a := 368) (w := 256) (by decide +kernel) (zz_0 (by decide +kernel))))) (sg_one (sg_i (a := 369) (w := 256) (by decide +kernel) (zz_0 (by decide +kernel))))) (sg_one (sg_i (a := 370) (w := 256) (by decide +kernel) (zz_0 (by decide +kernel))))) (sg_one (sg_i (a := 371) (w := 16) (by decide +kernel) (zz_0 (by decide +kernel))))) (sg_one (sg_i (a := 372) (w := 16) (by decide +kernel) (zz_0 (by decide +kernel))))) (sg_one (sg_i (a := 373) (w := 16) (by decide +kernel) (zz_0 (by decide +kernel))))) (sg_one (sg_i (a := 374) (w := 256) (by decide +kernel) (zz_0 (by decide +kernel))))) (sg_one (sg_i (a := 375) (w := 256) (by decide +kernel) (zz_0 (by decide +kernel))))) (sg_one (sg_i (a := 376) (w := 256) (by decide +kernel) (zz_0 (by decide +kernel))))) (sg_one (sg_i (a := 377) (w := 65536) (by decide +kernel) (zz_0 (by decide +kernel))))) (sg_one (sg_i (a := 378) (w := 65536) (by decide +kernel) (zz_0 (by decide +kernel))))) (sg_one (sg_i (a := 379) (w := 256) (by decide +kernel) (zz_0 (by decide +kernel)))))
theorem sg_8 {g : Gv} : (oX8 g 0 :: bX8 g 0) = (List.range' 0 353).map (ce g Sst) := sg_cons (a := 0) (m := 352) so_0 sb_0
theorem sg_9 {g : Gv} : (oX9 g 353 :: bX9 g 353) = (List.range' 353 27).map (ce g Sst) := sg_cons (a := 353) (m := 26) so_353 sb_353
theorem sg_all {g : Gv} : ([] ++ oX8 g 0 :: bX8 g 0) ++ oX9 g 353 :: bX9 g 353 = (List.range nC).map (ce g Sst) := by
  rw [List.nil_append, show List.range nC = List.range' 0 (353 + 27) from List.range_eq_range']
  exact sg_app (a := 0) (k := 353) (m := 27) sg_8 sg_9
theorem sg_pw {g : Gv} : pw g (([] ++ oX8 g 0 :: bX8 g 0) ++ oX9 g 353 :: bX9 g 353) = wd g Sst := by
  rw [sg_all]
  apply List.ext_getElem?
  intro i
  unfold pw wd
  rw [List.getElem?_mapIdx, List.getElem?_map, List.getElem?_map]
  by_cases h : i < nC
  · rw [List.getElem?_range h]; rfl
  · rw [List.getElem?_eq_none (by simp; omega)]; rfl
theorem sg_len {g : Gv} : ([] ++ oX8 g 0 :: bX8 g 0 : List va_E).length = 353 := by
  rw [List.nil_append, sg_8, List.length_map, List.length_range']
