theorem jin_places {big ws : List Cond} (ps : List Nat) (hp : ws = ps.filterMap (fun i => big[i]?)) : ∀ w ∈ ws, w ∈ big := by
  intro w h
  rw [hp] at h
  obtain ⟨i, -, hi⟩ := List.mem_filterMap.mp h
  exact List.mem_of_getElem? hi
set_option maxRecDepth 20000 in
theorem jin_wsL_law_r1 : ∀ w ∈ wsL_law_r1, w ∈ lw_tbl := jin_places [20, 21, 11, 61, 22, 23, 24, 25, 26, 27, 28, 29, 12, 128, 129, 63, 64, 14, 130, 79, 80, 15, 131, 109] (by decide +kernel)
set_option maxRecDepth 20000 in
theorem jin_wsL_law_r2 : ∀ w ∈ wsL_law_r2, w ∈ lw_tbl := jin_places [110, 16, 132, 133, 62, 134, 30, 31, 32, 33, 39, 40, 41, 42, 43, 44, 36, 38, 37, 13, 66, 67, 68, 69] (by decide +kernel)
set_option maxRecDepth 20000 in
theorem jin_wsL_law_r3 : ∀ w ∈ wsL_law_r3, w ∈ lw_tbl := jin_places [70, 82, 83, 84, 108, 85, 87, 88, 89, 90, 111, 112, 113, 114, 115, 118, 117, 334, 335, 10, 336, 337, 338, 339] (by decide +kernel)
set_option maxRecDepth 20000 in
theorem jin_wsL_law_r4 : ∀ w ∈ wsL_law_r4, w ∈ lw_tbl := jin_places [340, 341, 342, 343, 344, 345, 189, 190, 191, 192, 193, 194, 195, 154, 155, 156, 196, 197, 198, 199, 200, 201, 202, 45] (by decide +kernel)
set_option maxRecDepth 20000 in
theorem jin_wsL_law_r5 : ∀ w ∈ wsL_law_r5, w ∈ lw_tbl := jin_places [203, 204, 205, 206, 207, 208, 209, 210, 211, 212, 213, 214, 215, 216, 217, 218, 219, 220, 221, 222, 223, 224, 225, 226] (by decide +kernel)
set_option maxRecDepth 20000 in
theorem jin_wsL_law_r6 : ∀ w ∈ wsL_law_r6, w ∈ lw_tbl := jin_places [166, 167, 168, 169, 120, 119, 170, 172, 0, 173, 174, 175, 17, 176, 177, 178, 179, 180, 181, 182, 183, 184, 227, 228] (by decide +kernel)
