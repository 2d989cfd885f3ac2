set_option maxRecDepth 100000 in
theorem wli_55 : GoodIn lw_tbl wsL_law_r55 := goodIn_p _ [1924, 1235, 1239, 1929, 1933, 1243] (by decide +kernel) (by decide +kernel)
set_option maxRecDepth 100000 in
theorem wli_56 : GoodIn lw_tbl wsL_law_r56 := goodIn_p _ [1937, 1247, 1942, 1251, 1946, 1214] (by decide +kernel) (by decide +kernel)
set_option maxRecDepth 100000 in
theorem wli_57 : GoodIn lw_tbl wsL_law_r57 := goodIn_p _ [1217, 1222, 1950, 1953, 1958] (by decide +kernel) (by decide +kernel)
set_option maxRecDepth 100000 in
theorem wli_58 : GoodIn lw_tbl wsL_law_r58 := goodIn_p _ [1231, 1967, 1255, 1972] (by decide +kernel) (by decide +kernel)
set_option maxRecDepth 100000 in
theorem wli_59 : GoodIn lw_tbl wsL_law_r59 := goodIn_p _ [1259, 1263, 1976, 1267, 1271, 1441] (by decide +kernel) (by decide +kernel)
set_option maxRecDepth 100000 in
theorem wli_60 : GoodIn lw_tbl wsL_law_r60 := goodIn_p _ [1275, 1449, 1279, 1283, 1981, 1287] (by decide +kernel) (by decide +kernel)
set_option maxRecDepth 100000 in
theorem wli_61 : GoodIn lw_tbl wsL_law_r61 := goodIn_p _ [1290, 1294, 1985, 1988, 1298, 1302, 1992] (by decide +kernel) (by decide +kernel)
set_option maxRecDepth 100000 in
theorem wlx_9 : GoodIn lw_tbl wsX90 := goodIn_p _ [] (by decide +kernel) (by decide +kernel)
set_option maxRecDepth 100000 in
theorem wlx_10 : GoodIn lw_tbl wsX100 := goodIn_p _ [] (by decide +kernel) (by decide +kernel)
set_option maxRecDepth 100000 in
theorem wlx_6 : GoodIn lw_tbl wsX60 := goodIn_p _ [] (by decide +kernel) (by decide +kernel)
set_option maxRecDepth 100000 in
theorem wlx_1 : GoodIn lw_tbl wsX10 := goodIn_p _ [] (by decide +kernel) (by decide +kernel)
set_option maxRecDepth 100000 in
theorem wlx_2 : GoodIn lw_tbl wsX20 := goodIn_p _ [] (by decide +kernel) (by decide +kernel)
set_option maxRecDepth 100000 in
theorem wlx_8 : GoodIn lw_tbl wsX80 := goodIn_p _ [] (by decide +kernel) (by decide +kernel)
set_option maxRecDepth 100000 in
theorem wlx_5 : GoodIn lw_tbl wsX50 := goodIn_p _ [] (by decide +kernel) (by decide +kernel)
set_option maxRecDepth 100000 in
theorem wlx_4 : GoodIn lw_tbl wsX40 := goodIn_p _ [] (by decide +kernel) (by decide +kernel)
set_option maxRecDepth 100000 in
theorem wlx_0 : GoodIn lw_tbl wsX00 := goodIn_p _ [] (by decide +kernel) (by decide +kernel)
set_option maxRecDepth 100000 in
theorem wlx_3 : GoodIn lw_tbl wsX30 := goodIn_p _ [] (by decide +kernel) (by decide +kernel)
set_option maxRecDepth 100000 in
theorem wlx_7 : GoodIn lw_tbl wsX70 := goodIn_p _ [] (by decide +kernel) (by decide +kernel)
