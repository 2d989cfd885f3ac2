set_option maxRecDepth 100000 in
theorem wli_1 : GoodIn lw_tbl wsL_law_r1 := goodIn_p _ [147, 150] (by decide +kernel) (by decide +kernel)
set_option maxRecDepth 100000 in
theorem wli_2 : GoodIn lw_tbl wsL_law_r2 := goodIn_p _ [] (by decide +kernel) (by decide +kernel)
set_option maxRecDepth 100000 in
theorem wli_3 : GoodIn lw_tbl wsL_law_r3 := goodIn_p _ [155, 171, 177] (by decide +kernel) (by decide +kernel)
set_option maxRecDepth 100000 in
theorem wli_4 : GoodIn lw_tbl wsL_law_r4 := goodIn_p _ [199] (by decide +kernel) (by decide +kernel)
set_option maxRecDepth 100000 in
theorem wli_5 : GoodIn lw_tbl wsL_law_r5 := goodIn_p _ [338, 356, 400] (by decide +kernel) (by decide +kernel)
set_option maxRecDepth 100000 in
theorem wli_6 : GoodIn lw_tbl wsL_law_r6 := goodIn_p _ [422, 442, 1308] (by decide +kernel) (by decide +kernel)
set_option maxRecDepth 100000 in
theorem wli_7 : GoodIn lw_tbl wsL_law_r7 := goodIn_p _ [] (by decide +kernel) (by decide +kernel)
set_option maxRecDepth 100000 in
theorem wli_8 : GoodIn lw_tbl wsL_law_r8 := goodIn_p _ [507, 511, 514, 1453, 518] (by decide +kernel) (by decide +kernel)
set_option maxRecDepth 100000 in
theorem wli_9 : GoodIn lw_tbl wsL_law_r9 := goodIn_p _ [1457, 1445, 522, 526, 530, 534, 537, 541] (by decide +kernel) (by decide +kernel)
set_option maxRecDepth 100000 in
theorem wli_10 : GoodIn lw_tbl wsL_law_r10 := goodIn_p _ [544, 547, 552, 556, 560] (by decide +kernel) (by decide +kernel)
set_option maxRecDepth 100000 in
theorem wli_11 : GoodIn lw_tbl wsL_law_r11 := goodIn_p _ [567, 571, 574, 577, 582, 585] (by decide +kernel) (by decide +kernel)
set_option maxRecDepth 100000 in
theorem wli_12 : GoodIn lw_tbl wsL_law_r12 := goodIn_p _ [588, 591, 595, 617, 621, 624] (by decide +kernel) (by decide +kernel)
set_option maxRecDepth 100000 in
theorem wli_13 : GoodIn lw_tbl wsL_law_r13 := goodIn_p _ [627, 631, 634, 638, 642, 646, 650] (by decide +kernel) (by decide +kernel)
set_option maxRecDepth 100000 in
theorem wli_14 : GoodIn lw_tbl wsL_law_r14 := goodIn_p _ [654, 658, 662, 668, 672, 676] (by decide +kernel) (by decide +kernel)
set_option maxRecDepth 100000 in
theorem wli_15 : GoodIn lw_tbl wsL_law_r15 := goodIn_p _ [682, 685, 689, 695, 699, 702, 706, 713] (by decide +kernel) (by decide +kernel)
set_option maxRecDepth 100000 in
theorem wli_16 : GoodIn lw_tbl wsL_law_r16 := goodIn_p _ [710, 717, 1465, 1469] (by decide +kernel) (by decide +kernel)
set_option maxRecDepth 100000 in
theorem wli_17 : GoodIn lw_tbl wsL_law_r17 := goodIn_p _ [1473, 1483, 1487, 1491, 1496] (by decide +kernel) (by decide +kernel)
set_option maxRecDepth 100000 in
theorem wli_18 : GoodIn lw_tbl wsL_law_r18 := goodIn_p _ [1500, 1504, 1510, 1515, 1519, 1525] (by decide +kernel) (by decide +kernel)
