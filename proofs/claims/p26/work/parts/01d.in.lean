set_option maxRecDepth 20000 in
theorem jin_wsL_law_r13 : ∀ w ∈ wsL_law_r13, w ∈ lw_tbl := jin_places [370, 371, 372, 373, 374, 375, 376, 377, 71, 378, 379, 380, 18, 381, 382, 383, 384, 385, 386, 387, 388, 389, 390, 392] (by decide +kernel)
set_option maxRecDepth 20000 in
theorem jin_wsL_law_r14 : ∀ w ∈ wsL_law_r14, w ∈ lw_tbl := jin_places [4, 393, 396, 397, 399, 5, 400, 401, 402, 403, 404, 405, 406, 407, 408, 409, 410, 411, 412, 413, 414, 415, 416, 417] (by decide +kernel)
set_option maxRecDepth 20000 in
theorem jin_wsL_law_r15 : ∀ w ∈ wsL_law_r15, w ∈ lw_tbl := jin_places [418, 419, 420, 421, 422, 423, 424, 425, 426, 427, 428, 429, 430, 431, 432, 433, 434, 435, 436, 437, 439, 6, 440, 441] (by decide +kernel)
set_option maxRecDepth 20000 in
theorem jin_wsL_law_r16 : ∀ w ∈ wsL_law_r16, w ∈ lw_tbl := jin_places [442, 443, 444, 445, 446, 447, 448, 449, 450, 451, 452, 453, 454, 456, 7, 457, 458, 459, 460, 461, 462, 463, 464, 465] (by decide +kernel)
set_option maxRecDepth 20000 in
theorem jin_wsL_law_r17 : ∀ w ∈ wsL_law_r17, w ∈ lw_tbl := jin_places [466, 467, 468, 469, 470, 471, 472, 473, 474, 475, 476, 477, 19, 478, 479, 480, 481, 482, 483, 484, 485, 486, 487, 488] (by decide +kernel)
set_option maxRecDepth 20000 in
theorem jin_wsL_law_r18 : ∀ w ∈ wsL_law_r18, w ∈ lw_tbl := jin_places [489, 490, 491, 492, 493, 494, 496, 8, 497, 498, 499, 500, 501, 502, 504, 9, 505, 506, 507, 508, 509, 86, 510, 511] (by decide +kernel)
