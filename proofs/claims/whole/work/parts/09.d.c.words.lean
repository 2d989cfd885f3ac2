set_option maxRecDepth 100000 in
theorem wli_37 : GoodIn lw_tbl wsL_law_r37 := goodIn_p _ [1719, 949, 1723, 953, 957, 1773] (by decide +kernel) (by decide +kernel)
set_option maxRecDepth 100000 in
theorem wli_38 : GoodIn lw_tbl wsL_law_r38 := goodIn_p _ [1756, 1158, 1162, 1167, 1171, 1175] (by decide +kernel) (by decide +kernel)
set_option maxRecDepth 100000 in
theorem wli_39 : GoodIn lw_tbl wsL_law_r39 := goodIn_p _ [1178, 1181, 1185, 1191, 1194, 1197, 1920] (by decide +kernel) (by decide +kernel)
set_option maxRecDepth 100000 in
theorem wli_40 : GoodIn lw_tbl wsL_law_r40 := goodIn_p _ [1905, 1909, 1913, 1916, 1126, 1129] (by decide +kernel) (by decide +kernel)
set_option maxRecDepth 100000 in
theorem wli_41 : GoodIn lw_tbl wsL_law_r41 := goodIn_p _ [1132, 1135, 1890, 1877, 961, 1752] (by decide +kernel) (by decide +kernel)
set_option maxRecDepth 100000 in
theorem wli_42 : GoodIn lw_tbl wsL_law_r42 := goodIn_p _ [965, 969, 1761, 1765, 973, 1769] (by decide +kernel) (by decide +kernel)
set_option maxRecDepth 100000 in
theorem wli_43 : GoodIn lw_tbl wsL_law_r43 := goodIn_p _ [977, 1777, 981, 1781, 1785, 985] (by decide +kernel) (by decide +kernel)
set_option maxRecDepth 100000 in
theorem wli_44 : GoodIn lw_tbl wsL_law_r44 := goodIn_p _ [989, 993, 997, 1000, 1007] (by decide +kernel) (by decide +kernel)
set_option maxRecDepth 100000 in
theorem wli_45 : GoodIn lw_tbl wsL_law_r45 := goodIn_p _ [1789, 1793, 1796, 1011, 1800, 1015, 1019] (by decide +kernel) (by decide +kernel)
set_option maxRecDepth 100000 in
theorem wli_46 : GoodIn lw_tbl wsL_law_r46 := goodIn_p _ [1804, 1808, 1024, 1812, 1030, 1034] (by decide +kernel) (by decide +kernel)
set_option maxRecDepth 100000 in
theorem wli_47 : GoodIn lw_tbl wsL_law_r47 := goodIn_p _ [1038, 1042, 1046, 1051, 1055, 1059] (by decide +kernel) (by decide +kernel)
set_option maxRecDepth 100000 in
theorem wli_48 : GoodIn lw_tbl wsL_law_r48 := goodIn_p _ [1064, 1069, 1073, 1816, 1820, 1824, 1827] (by decide +kernel) (by decide +kernel)
set_option maxRecDepth 100000 in
theorem wli_49 : GoodIn lw_tbl wsL_law_r49 := goodIn_p _ [1831, 1835, 1080, 1839, 1084, 1843] (by decide +kernel) (by decide +kernel)
set_option maxRecDepth 100000 in
theorem wli_50 : GoodIn lw_tbl wsL_law_r50 := goodIn_p _ [1088, 1092, 1096, 1847, 1851] (by decide +kernel) (by decide +kernel)
set_option maxRecDepth 100000 in
theorem wli_51 : GoodIn lw_tbl wsL_law_r51 := goodIn_p _ [1101, 1105, 1855, 1110, 1114, 1118] (by decide +kernel) (by decide +kernel)
set_option maxRecDepth 100000 in
theorem wli_52 : GoodIn lw_tbl wsL_law_r52 := goodIn_p _ [1859, 1863, 1122, 1867, 1139, 1142] (by decide +kernel) (by decide +kernel)
set_option maxRecDepth 100000 in
theorem wli_53 : GoodIn lw_tbl wsL_law_r53 := goodIn_p _ [1871, 1874, 1146, 1881, 1150, 1885, 1154] (by decide +kernel) (by decide +kernel)
set_option maxRecDepth 100000 in
theorem wli_54 : GoodIn lw_tbl wsL_law_r54 := goodIn_p _ [1894, 1201, 1205, 1898, 1209] (by decide +kernel) (by decide +kernel)
