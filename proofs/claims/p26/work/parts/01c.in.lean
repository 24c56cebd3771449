set_option maxRecDepth 20000 in
theorem jin_wsL_law_r7 : ∀ w ∈ wsL_law_r7, w ∈ lw_tbl := jin_places [229, 230, 231, 233, 1, 234, 235, 237, 2, 238, 349, 350, 351, 346, 347, 348, 239, 240, 241, 242, 243, 244, 245, 246] (by decide +kernel)
set_option maxRecDepth 20000 in
theorem jin_wsL_law_r8 : ∀ w ∈ wsL_law_r8, w ∈ lw_tbl := jin_places [247, 248, 249, 250, 251, 252, 253, 254, 255, 256, 257, 258, 259, 260, 261, 262, 263, 264, 265, 266, 267, 268, 269, 270] (by decide +kernel)
set_option maxRecDepth 20000 in
theorem jin_wsL_law_r9 : ∀ w ∈ wsL_law_r9, w ∈ lw_tbl := jin_places [271, 272, 273, 274, 275, 276, 277, 278, 279, 280, 281, 282, 283, 284, 17, 285, 286, 287, 288, 289, 290, 291, 292, 293] (by decide +kernel)
set_option maxRecDepth 20000 in
theorem jin_wsL_law_r10 : ∀ w ∈ wsL_law_r10, w ∈ lw_tbl := jin_places [294, 295, 296, 297, 298, 300, 301, 302, 299, 303, 304, 305, 306, 307, 308, 309, 310, 311, 312, 313, 314, 315, 316, 317] (by decide +kernel)
set_option maxRecDepth 20000 in
theorem jin_wsL_law_r11 : ∀ w ∈ wsL_law_r11, w ∈ lw_tbl := jin_places [318, 319, 320, 321, 322, 324, 3, 325, 326, 327, 328, 329, 330, 331, 332, 333, 150, 151, 152, 153, 157, 159, 161, 162] (by decide +kernel)
set_option maxRecDepth 20000 in
theorem jin_wsL_law_r12 : ∀ w ∈ wsL_law_r12, w ∈ lw_tbl := jin_places [163, 164, 185, 186, 187, 188, 352, 353, 354, 355, 356, 357, 358, 359, 360, 361, 362, 363, 364, 365, 366, 367, 368, 369] (by decide +kernel)
