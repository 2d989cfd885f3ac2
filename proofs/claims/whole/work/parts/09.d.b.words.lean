set_option maxRecDepth 100000 in
theorem wli_19 : GoodIn lw_tbl wsL_law_r19 := goodIn_p _ [1532, 1540, 1546, 722, 1461, 726] (by decide +kernel) (by decide +kernel)
set_option maxRecDepth 100000 in
theorem wli_20 : GoodIn lw_tbl wsL_law_r20 := goodIn_p _ [730, 1550, 1554, 1558, 735] (by decide +kernel) (by decide +kernel)
set_option maxRecDepth 100000 in
theorem wli_21 : GoodIn lw_tbl wsL_law_r21 := goodIn_p _ [739, 1566, 1570, 1575, 743, 1562] (by decide +kernel) (by decide +kernel)
set_option maxRecDepth 100000 in
theorem wli_22 : GoodIn lw_tbl wsL_law_r22 := goodIn_p _ [747, 751, 754, 758, 1579, 1583] (by decide +kernel) (by decide +kernel)
set_option maxRecDepth 100000 in
theorem wli_23 : GoodIn lw_tbl wsL_law_r23 := goodIn_p _ [1587, 1591, 1596, 1599, 762, 766] (by decide +kernel) (by decide +kernel)
set_option maxRecDepth 100000 in
theorem wli_24 : GoodIn lw_tbl wsL_law_r24 := goodIn_p _ [770, 1604, 783, 1608, 1612, 1615] (by decide +kernel) (by decide +kernel)
set_option maxRecDepth 100000 in
theorem wli_25 : GoodIn lw_tbl wsL_law_r25 := goodIn_p _ [787, 1619, 814, 818, 822, 826] (by decide +kernel) (by decide +kernel)
set_option maxRecDepth 100000 in
theorem wli_26 : GoodIn lw_tbl wsL_law_r26 := goodIn_p _ [834, 838, 842, 846, 1667, 1671] (by decide +kernel) (by decide +kernel)
set_option maxRecDepth 100000 in
theorem wli_27 : GoodIn lw_tbl wsL_law_r27 := goodIn_p _ [1675, 1679, 850, 1683, 1687] (by decide +kernel) (by decide +kernel)
set_option maxRecDepth 100000 in
theorem wli_28 : GoodIn lw_tbl wsL_law_r28 := goodIn_p _ [854, 858, 1691, 863, 1695, 867] (by decide +kernel) (by decide +kernel)
set_option maxRecDepth 100000 in
theorem wli_29 : GoodIn lw_tbl wsL_law_r29 := goodIn_p _ [1699, 871, 1703, 875, 1707, 879] (by decide +kernel) (by decide +kernel)
set_option maxRecDepth 100000 in
theorem wli_30 : GoodIn lw_tbl wsL_law_r30 := goodIn_p _ [1728, 891, 1732, 895, 1736, 903] (by decide +kernel) (by decide +kernel)
set_option maxRecDepth 100000 in
theorem wli_31 : GoodIn lw_tbl wsL_law_r31 := goodIn_p _ [907, 911, 1740, 792, 1627, 915] (by decide +kernel) (by decide +kernel)
set_option maxRecDepth 100000 in
theorem wli_32 : GoodIn lw_tbl wsL_law_r32 := goodIn_p _ [1744, 919, 1748, 775, 779, 1623] (by decide +kernel) (by decide +kernel)
set_option maxRecDepth 100000 in
theorem wli_33 : GoodIn lw_tbl wsL_law_r33 := goodIn_p _ [924, 1647, 928, 1651, 932, 1655] (by decide +kernel) (by decide +kernel)
set_option maxRecDepth 100000 in
theorem wli_34 : GoodIn lw_tbl wsL_law_r34 := goodIn_p _ [936, 940, 1659, 796, 1631, 801] (by decide +kernel) (by decide +kernel)
set_option maxRecDepth 100000 in
theorem wli_35 : GoodIn lw_tbl wsL_law_r35 := goodIn_p _ [805, 1635, 1639, 809, 1643, 944] (by decide +kernel) (by decide +kernel)
set_option maxRecDepth 100000 in
theorem wli_36 : GoodIn lw_tbl wsL_law_r36 := goodIn_p _ [1663, 883, 1711, 899, 1715, 887] (by decide +kernel) (by decide +kernel)
