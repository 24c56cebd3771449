set_option maxRecDepth 20000 in
theorem jin_wsL_law_r19 : ∀ w ∈ wsL_law_r19, w ∈ lw_tbl := jin_places [512, 513, 514, 515, 516, 517, 518, 519, 520, 521, 522, 523, 524] (by decide +kernel)
set_option maxRecDepth 20000 in
theorem jin_wsX00 : ∀ w ∈ wsX00, w ∈ lw_tbl := jin_places [121, 123, 125] (by decide +kernel)
set_option maxRecDepth 20000 in
theorem jin_wsX10 : ∀ w ∈ wsX10, w ∈ lw_tbl := jin_places [91, 93, 95, 97, 99, 101, 103, 105] (by decide +kernel)
set_option maxRecDepth 20000 in
theorem jin_wsX20 : ∀ w ∈ wsX20, w ∈ lw_tbl := jin_places [72, 74, 76] (by decide +kernel)
set_option maxRecDepth 20000 in
theorem jin_wsX30 : ∀ w ∈ wsX30, w ∈ lw_tbl := jin_places [46, 48, 50, 52, 54, 56, 58] (by decide +kernel)
set_option maxRecDepth 20000 in
theorem jin_wsX40 : ∀ w ∈ wsX40, w ∈ lw_tbl := jin_places [135, 137, 139, 141, 143, 145, 147] (by decide +kernel)
