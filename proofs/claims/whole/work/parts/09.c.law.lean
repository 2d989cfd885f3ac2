set_option maxRecDepth 100000 in
theorem daL_law_0 : dchk cL_law [(0, .new 7, 3), (3, .dup, 1), (4, .invokespecial 9, 3), (7, .astore_n 1, 1), (8, .new 10, 3), (11, .dup, 1), (12, .invokespecial 12, 3), (15, .astore_n 2, 1), (16, .iconst 0, 1), (17, .istore_n 3, 1), (18, .iload_n 3, 1), (19, .aload_n 0, 1), (20, .arraylength, 1), (21, .bipush 6, 2), (23, .isub, 1), (24, .if_icmp .gt 2594, 3), (27, .aload_n 0, 1), (28, .iload_n 3, 1), (29, .iaload, 1), (30, .bipush 127, 2), (32, .iand, 1), (33, .tableswitch 2579 0 75 #[319, 382, 405, 418, 441, 474, 507, 540, 563, 586, 609, 632, 675, 708, 751, 784, 817, 850, 883, 916, 949, 972, 1005, 1028, 1061, 1084, 1107, 1120, 1133, 1156, 1169, 1192, 1205, 1218, 1251, 1284, 1317, 1350, 1373, 1406, 1440, 1463, 1496, 1529, 1562, 1605, 1638, 1671, 1704, 1737, 1780, 1803, 1826, 1849, 1872, 1895, 1938, 1981, 1994, 2007, 2040, 2053, 2097, 2130, 2163, 2196, 2209, 2222, 2255, 2298, 2331, 2354, 2377, 2400, 2443, 2516], 319), (352, .aload_n 1, 1), (353, .aload_n 0, 1), (354, .iload_n 3, 1), (355, .iconst 1, 1), (356, .iadd, 1), (357, .iaload, 1), (358, .aload_n 0, 1), (359, .iload_n 3, 1), (360, .iconst 2, 1), (361, .iadd, 1), (362, .iaload, 1), (363, .aload_n 0, 1), (364, .iload_n 3, 1), (365, .iconst 3, 1), (366, .iadd, 1), (367, .iaload, 1), (368, .aload_n 0, 1), (369, .iload_n 3, 1), (370, .iconst 4, 1), (371, .iadd, 1), (372, .iaload, 1), (373, .aload_n 0, 1), (374, .iload_n 3, 1), (375, .iconst 5, 1), (376, .iadd, 1), (377, .iaload, 1), (378, .invokevirtual 13, 3), (381, .aload_n 2, 1), (382, .aload_n 0, 1), (383, .iload_n 3, 1), (384, .iconst 1, 1), (385, .iadd, 1), (386, .iaload, 1), (387, .aload_n 0, 1), (388, .iload_n 3, 1), (389, .iconst 2, 1), (390, .iadd, 1), (391, .iaload, 1)] = true := by decide +kernel
theorem dL_law_0 : decode cL_law 0 = .ok (.new 7, 3) := dget daL_law_0 0 rfl
theorem dL_law_3 : decode cL_law 3 = .ok (.dup, 1) := dget daL_law_0 1 rfl
theorem dL_law_4 : decode cL_law 4 = .ok (.invokespecial 9, 3) := dget daL_law_0 2 rfl
theorem dL_law_7 : decode cL_law 7 = .ok (.astore_n 1, 1) := dget daL_law_0 3 rfl
theorem dL_law_8 : decode cL_law 8 = .ok (.new 10, 3) := dget daL_law_0 4 rfl
theorem dL_law_11 : decode cL_law 11 = .ok (.dup, 1) := dget daL_law_0 5 rfl
theorem dL_law_12 : decode cL_law 12 = .ok (.invokespecial 12, 3) := dget daL_law_0 6 rfl
theorem dL_law_15 : decode cL_law 15 = .ok (.astore_n 2, 1) := dget daL_law_0 7 rfl
theorem dL_law_16 : decode cL_law 16 = .ok (.iconst 0, 1) := dget daL_law_0 8 rfl
theorem dL_law_17 : decode cL_law 17 = .ok (.istore_n 3, 1) := dget daL_law_0 9 rfl
theorem dL_law_18 : decode cL_law 18 = .ok (.iload_n 3, 1) := dget daL_law_0 10 rfl
theorem dL_law_19 : decode cL_law 19 = .ok (.aload_n 0, 1) := dget daL_law_0 11 rfl
theorem dL_law_20 : decode cL_law 20 = .ok (.arraylength, 1) := dget daL_law_0 12 rfl
theorem dL_law_21 : decode cL_law 21 = .ok (.bipush 6, 2) := dget daL_law_0 13 rfl
theorem dL_law_23 : decode cL_law 23 = .ok (.isub, 1) := dget daL_law_0 14 rfl
theorem dL_law_24 : decode cL_law 24 = .ok (.if_icmp .gt 2594, 3) := dget daL_law_0 15 rfl
theorem dL_law_27 : decode cL_law 27 = .ok (.aload_n 0, 1) := dget daL_law_0 16 rfl
theorem dL_law_28 : decode cL_law 28 = .ok (.iload_n 3, 1) := dget daL_law_0 17 rfl
theorem dL_law_29 : decode cL_law 29 = .ok (.iaload, 1) := dget daL_law_0 18 rfl
theorem dL_law_30 : decode cL_law 30 = .ok (.bipush 127, 2) := dget daL_law_0 19 rfl
theorem dL_law_32 : decode cL_law 32 = .ok (.iand, 1) := dget daL_law_0 20 rfl
theorem dL_law_33 : decode cL_law 33 = .ok (.tableswitch 2579 0 75 #[319, 382, 405, 418, 441, 474, 507, 540, 563, 586, 609, 632, 675, 708, 751, 784, 817, 850, 883, 916, 949, 972, 1005, 1028, 1061, 1084, 1107, 1120, 1133, 1156, 1169, 1192, 1205, 1218, 1251, 1284, 1317, 1350, 1373, 1406, 1440, 1463, 1496, 1529, 1562, 1605, 1638, 1671, 1704, 1737, 1780, 1803, 1826, 1849, 1872, 1895, 1938, 1981, 1994, 2007, 2040, 2053, 2097, 2130, 2163, 2196, 2209, 2222, 2255, 2298, 2331, 2354, 2377, 2400, 2443, 2516], 319) := dget daL_law_0 21 rfl
theorem dL_law_352 : decode cL_law 352 = .ok (.aload_n 1, 1) := dget daL_law_0 22 rfl
theorem dL_law_353 : decode cL_law 353 = .ok (.aload_n 0, 1) := dget daL_law_0 23 rfl
theorem dL_law_354 : decode cL_law 354 = .ok (.iload_n 3, 1) := dget daL_law_0 24 rfl
theorem dL_law_355 : decode cL_law 355 = .ok (.iconst 1, 1) := dget daL_law_0 25 rfl
theorem dL_law_356 : decode cL_law 356 = .ok (.iadd, 1) := dget daL_law_0 26 rfl
theorem dL_law_357 : decode cL_law 357 = .ok (.iaload, 1) := dget daL_law_0 27 rfl
theorem dL_law_358 : decode cL_law 358 = .ok (.aload_n 0, 1) := dget daL_law_0 28 rfl
theorem dL_law_359 : decode cL_law 359 = .ok (.iload_n 3, 1) := dget daL_law_0 29 rfl
theorem dL_law_360 : decode cL_law 360 = .ok (.iconst 2, 1) := dget daL_law_0 30 rfl
theorem dL_law_361 : decode cL_law 361 = .ok (.iadd, 1) := dget daL_law_0 31 rfl
theorem dL_law_362 : decode cL_law 362 = .ok (.iaload, 1) := dget daL_law_0 32 rfl
theorem dL_law_363 : decode cL_law 363 = .ok (.aload_n 0, 1) := dget daL_law_0 33 rfl
theorem dL_law_364 : decode cL_law 364 = .ok (.iload_n 3, 1) := dget daL_law_0 34 rfl
theorem dL_law_365 : decode cL_law 365 = .ok (.iconst 3, 1) := dget daL_law_0 35 rfl
theorem dL_law_366 : decode cL_law 366 = .ok (.iadd, 1) := dget daL_law_0 36 rfl
theorem dL_law_367 : decode cL_law 367 = .ok (.iaload, 1) := dget daL_law_0 37 rfl
theorem dL_law_368 : decode cL_law 368 = .ok (.aload_n 0, 1) := dget daL_law_0 38 rfl
theorem dL_law_369 : decode cL_law 369 = .ok (.iload_n 3, 1) := dget daL_law_0 39 rfl
theorem dL_law_370 : decode cL_law 370 = .ok (.iconst 4, 1) := dget daL_law_0 40 rfl
theorem dL_law_371 : decode cL_law 371 = .ok (.iadd, 1) := dget daL_law_0 41 rfl
theorem dL_law_372 : decode cL_law 372 = .ok (.iaload, 1) := dget daL_law_0 42 rfl
theorem dL_law_373 : decode cL_law 373 = .ok (.aload_n 0, 1) := dget daL_law_0 43 rfl
theorem dL_law_374 : decode cL_law 374 = .ok (.iload_n 3, 1) := dget daL_law_0 44 rfl
theorem dL_law_375 : decode cL_law 375 = .ok (.iconst 5, 1) := dget daL_law_0 45 rfl
theorem dL_law_376 : decode cL_law 376 = .ok (.iadd, 1) := dget daL_law_0 46 rfl
theorem dL_law_377 : decode cL_law 377 = .ok (.iaload, 1) := dget daL_law_0 47 rfl
theorem dL_law_378 : decode cL_law 378 = .ok (.invokevirtual 13, 3) := dget daL_law_0 48 rfl
theorem dL_law_381 : decode cL_law 381 = .ok (.aload_n 2, 1) := dget daL_law_0 49 rfl
theorem dL_law_382 : decode cL_law 382 = .ok (.aload_n 0, 1) := dget daL_law_0 50 rfl
theorem dL_law_383 : decode cL_law 383 = .ok (.iload_n 3, 1) := dget daL_law_0 51 rfl
theorem dL_law_384 : decode cL_law 384 = .ok (.iconst 1, 1) := dget daL_law_0 52 rfl
theorem dL_law_385 : decode cL_law 385 = .ok (.iadd, 1) := dget daL_law_0 53 rfl
theorem dL_law_386 : decode cL_law 386 = .ok (.iaload, 1) := dget daL_law_0 54 rfl
theorem dL_law_387 : decode cL_law 387 = .ok (.aload_n 0, 1) := dget daL_law_0 55 rfl
theorem dL_law_388 : decode cL_law 388 = .ok (.iload_n 3, 1) := dget daL_law_0 56 rfl
theorem dL_law_389 : decode cL_law 389 = .ok (.iconst 2, 1) := dget daL_law_0 57 rfl
theorem dL_law_390 : decode cL_law 390 = .ok (.iadd, 1) := dget daL_law_0 58 rfl
theorem dL_law_391 : decode cL_law 391 = .ok (.iaload, 1) := dget daL_law_0 59 rfl
set_option maxRecDepth 100000 in
theorem daL_law_1 : dchk cL_law [(392, .aload_n 0, 1), (393, .iload_n 3, 1), (394, .iconst 3, 1), (395, .iadd, 1), (396, .iaload, 1), (397, .aload_n 0, 1), (398, .iload_n 3, 1), (399, .iconst 4, 1), (400, .iadd, 1), (401, .iaload, 1), (402, .aload_n 0, 1), (403, .iload_n 3, 1), (404, .iconst 5, 1), (405, .iadd, 1), (406, .iaload, 1), (407, .invokevirtual 17, 3), (410, .if_icmp .eq 2202, 3), (413, .iconst 0, 1), (414, .ireturn, 1), (415, .aload_n 1, 1), (416, .aload_n 0, 1), (417, .iload_n 3, 1), (418, .iconst 1, 1), (419, .iadd, 1), (420, .iaload, 1), (421, .invokevirtual 18, 3), (424, .aload_n 2, 1), (425, .aload_n 0, 1), (426, .iload_n 3, 1), (427, .iconst 1, 1), (428, .iadd, 1), (429, .iaload, 1), (430, .invokevirtual 22, 3), (433, .if_icmp .eq 2179, 3), (436, .iconst 0, 1), (437, .ireturn, 1), (438, .aload_n 1, 1), (439, .invokevirtual 23, 3), (442, .aload_n 2, 1), (443, .invokevirtual 27, 3), (446, .if_icmp .eq 2166, 3), (449, .iconst 0, 1), (450, .ireturn, 1), (451, .aload_n 1, 1), (452, .aload_n 0, 1), (453, .iload_n 3, 1), (454, .iconst 1, 1), (455, .iadd, 1), (456, .iaload, 1), (457, .invokevirtual 28, 3), (460, .aload_n 2, 1), (461, .aload_n 0, 1), (462, .iload_n 3, 1), (463, .iconst 1, 1), (464, .iadd, 1), (465, .iaload, 1), (466, .invokevirtual 31, 3), (469, .if_icmp .eq 2143, 3), (472, .iconst 0, 1), (473, .ireturn, 1)] = true := by decide +kernel
theorem dL_law_392 : decode cL_law 392 = .ok (.aload_n 0, 1) := dget daL_law_1 0 rfl
theorem dL_law_393 : decode cL_law 393 = .ok (.iload_n 3, 1) := dget daL_law_1 1 rfl
theorem dL_law_394 : decode cL_law 394 = .ok (.iconst 3, 1) := dget daL_law_1 2 rfl
theorem dL_law_395 : decode cL_law 395 = .ok (.iadd, 1) := dget daL_law_1 3 rfl
theorem dL_law_396 : decode cL_law 396 = .ok (.iaload, 1) := dget daL_law_1 4 rfl
theorem dL_law_397 : decode cL_law 397 = .ok (.aload_n 0, 1) := dget daL_law_1 5 rfl
theorem dL_law_398 : decode cL_law 398 = .ok (.iload_n 3, 1) := dget daL_law_1 6 rfl
theorem dL_law_399 : decode cL_law 399 = .ok (.iconst 4, 1) := dget daL_law_1 7 rfl
theorem dL_law_400 : decode cL_law 400 = .ok (.iadd, 1) := dget daL_law_1 8 rfl
theorem dL_law_401 : decode cL_law 401 = .ok (.iaload, 1) := dget daL_law_1 9 rfl
theorem dL_law_402 : decode cL_law 402 = .ok (.aload_n 0, 1) := dget daL_law_1 10 rfl
theorem dL_law_403 : decode cL_law 403 = .ok (.iload_n 3, 1) := dget daL_law_1 11 rfl
theorem dL_law_404 : decode cL_law 404 = .ok (.iconst 5, 1) := dget daL_law_1 12 rfl
theorem dL_law_405 : decode cL_law 405 = .ok (.iadd, 1) := dget daL_law_1 13 rfl
theorem dL_law_406 : decode cL_law 406 = .ok (.iaload, 1) := dget daL_law_1 14 rfl
theorem dL_law_407 : decode cL_law 407 = .ok (.invokevirtual 17, 3) := dget daL_law_1 15 rfl
theorem dL_law_410 : decode cL_law 410 = .ok (.if_icmp .eq 2202, 3) := dget daL_law_1 16 rfl
theorem dL_law_413 : decode cL_law 413 = .ok (.iconst 0, 1) := dget daL_law_1 17 rfl
theorem dL_law_414 : decode cL_law 414 = .ok (.ireturn, 1) := dget daL_law_1 18 rfl
theorem dL_law_415 : decode cL_law 415 = .ok (.aload_n 1, 1) := dget daL_law_1 19 rfl
theorem dL_law_416 : decode cL_law 416 = .ok (.aload_n 0, 1) := dget daL_law_1 20 rfl
theorem dL_law_417 : decode cL_law 417 = .ok (.iload_n 3, 1) := dget daL_law_1 21 rfl
theorem dL_law_418 : decode cL_law 418 = .ok (.iconst 1, 1) := dget daL_law_1 22 rfl
theorem dL_law_419 : decode cL_law 419 = .ok (.iadd, 1) := dget daL_law_1 23 rfl
theorem dL_law_420 : decode cL_law 420 = .ok (.iaload, 1) := dget daL_law_1 24 rfl
theorem dL_law_421 : decode cL_law 421 = .ok (.invokevirtual 18, 3) := dget daL_law_1 25 rfl
theorem dL_law_424 : decode cL_law 424 = .ok (.aload_n 2, 1) := dget daL_law_1 26 rfl
theorem dL_law_425 : decode cL_law 425 = .ok (.aload_n 0, 1) := dget daL_law_1 27 rfl
theorem dL_law_426 : decode cL_law 426 = .ok (.iload_n 3, 1) := dget daL_law_1 28 rfl
theorem dL_law_427 : decode cL_law 427 = .ok (.iconst 1, 1) := dget daL_law_1 29 rfl
theorem dL_law_428 : decode cL_law 428 = .ok (.iadd, 1) := dget daL_law_1 30 rfl
theorem dL_law_429 : decode cL_law 429 = .ok (.iaload, 1) := dget daL_law_1 31 rfl
theorem dL_law_430 : decode cL_law 430 = .ok (.invokevirtual 22, 3) := dget daL_law_1 32 rfl
theorem dL_law_433 : decode cL_law 433 = .ok (.if_icmp .eq 2179, 3) := dget daL_law_1 33 rfl
theorem dL_law_436 : decode cL_law 436 = .ok (.iconst 0, 1) := dget daL_law_1 34 rfl
theorem dL_law_437 : decode cL_law 437 = .ok (.ireturn, 1) := dget daL_law_1 35 rfl
theorem dL_law_438 : decode cL_law 438 = .ok (.aload_n 1, 1) := dget daL_law_1 36 rfl
theorem dL_law_439 : decode cL_law 439 = .ok (.invokevirtual 23, 3) := dget daL_law_1 37 rfl
theorem dL_law_442 : decode cL_law 442 = .ok (.aload_n 2, 1) := dget daL_law_1 38 rfl
theorem dL_law_443 : decode cL_law 443 = .ok (.invokevirtual 27, 3) := dget daL_law_1 39 rfl
theorem dL_law_446 : decode cL_law 446 = .ok (.if_icmp .eq 2166, 3) := dget daL_law_1 40 rfl
theorem dL_law_449 : decode cL_law 449 = .ok (.iconst 0, 1) := dget daL_law_1 41 rfl
theorem dL_law_450 : decode cL_law 450 = .ok (.ireturn, 1) := dget daL_law_1 42 rfl
theorem dL_law_451 : decode cL_law 451 = .ok (.aload_n 1, 1) := dget daL_law_1 43 rfl
theorem dL_law_452 : decode cL_law 452 = .ok (.aload_n 0, 1) := dget daL_law_1 44 rfl
theorem dL_law_453 : decode cL_law 453 = .ok (.iload_n 3, 1) := dget daL_law_1 45 rfl
theorem dL_law_454 : decode cL_law 454 = .ok (.iconst 1, 1) := dget daL_law_1 46 rfl
theorem dL_law_455 : decode cL_law 455 = .ok (.iadd, 1) := dget daL_law_1 47 rfl
theorem dL_law_456 : decode cL_law 456 = .ok (.iaload, 1) := dget daL_law_1 48 rfl
theorem dL_law_457 : decode cL_law 457 = .ok (.invokevirtual 28, 3) := dget daL_law_1 49 rfl
theorem dL_law_460 : decode cL_law 460 = .ok (.aload_n 2, 1) := dget daL_law_1 50 rfl
theorem dL_law_461 : decode cL_law 461 = .ok (.aload_n 0, 1) := dget daL_law_1 51 rfl
theorem dL_law_462 : decode cL_law 462 = .ok (.iload_n 3, 1) := dget daL_law_1 52 rfl
theorem dL_law_463 : decode cL_law 463 = .ok (.iconst 1, 1) := dget daL_law_1 53 rfl
theorem dL_law_464 : decode cL_law 464 = .ok (.iadd, 1) := dget daL_law_1 54 rfl
theorem dL_law_465 : decode cL_law 465 = .ok (.iaload, 1) := dget daL_law_1 55 rfl
theorem dL_law_466 : decode cL_law 466 = .ok (.invokevirtual 31, 3) := dget daL_law_1 56 rfl
theorem dL_law_469 : decode cL_law 469 = .ok (.if_icmp .eq 2143, 3) := dget daL_law_1 57 rfl
theorem dL_law_472 : decode cL_law 472 = .ok (.iconst 0, 1) := dget daL_law_1 58 rfl
theorem dL_law_473 : decode cL_law 473 = .ok (.ireturn, 1) := dget daL_law_1 59 rfl
set_option maxRecDepth 100000 in
theorem daL_law_2 : dchk cL_law [(474, .aload_n 1, 1), (475, .aload_n 0, 1), (476, .iload_n 3, 1), (477, .iconst 1, 1), (478, .iadd, 1), (479, .iaload, 1), (480, .aload_n 0, 1), (481, .iload_n 3, 1), (482, .iconst 2, 1), (483, .iadd, 1), (484, .iaload, 1), (485, .invokevirtual 32, 3), (488, .aload_n 2, 1), (489, .aload_n 0, 1), (490, .iload_n 3, 1), (491, .iconst 1, 1), (492, .iadd, 1), (493, .iaload, 1), (494, .aload_n 0, 1), (495, .iload_n 3, 1), (496, .iconst 2, 1), (497, .iadd, 1), (498, .iaload, 1), (499, .invokevirtual 36, 3), (502, .if_icmp .eq 2110, 3), (505, .iconst 0, 1), (506, .ireturn, 1), (507, .aload_n 1, 1), (508, .aload_n 0, 1), (509, .iload_n 3, 1), (510, .iconst 1, 1), (511, .iadd, 1), (512, .iaload, 1), (513, .aload_n 0, 1), (514, .iload_n 3, 1), (515, .iconst 2, 1), (516, .iadd, 1), (517, .iaload, 1), (518, .invokevirtual 37, 3), (521, .aload_n 2, 1), (522, .aload_n 0, 1), (523, .iload_n 3, 1), (524, .iconst 1, 1), (525, .iadd, 1), (526, .iaload, 1), (527, .aload_n 0, 1), (528, .iload_n 3, 1), (529, .iconst 2, 1), (530, .iadd, 1), (531, .iaload, 1), (532, .invokevirtual 40, 3), (535, .if_icmp .eq 2077, 3), (538, .iconst 0, 1), (539, .ireturn, 1), (540, .aload_n 1, 1), (541, .aload_n 0, 1), (542, .iload_n 3, 1), (543, .iconst 1, 1), (544, .iadd, 1), (545, .iaload, 1)] = true := by decide +kernel
theorem dL_law_474 : decode cL_law 474 = .ok (.aload_n 1, 1) := dget daL_law_2 0 rfl
theorem dL_law_475 : decode cL_law 475 = .ok (.aload_n 0, 1) := dget daL_law_2 1 rfl
theorem dL_law_476 : decode cL_law 476 = .ok (.iload_n 3, 1) := dget daL_law_2 2 rfl
theorem dL_law_477 : decode cL_law 477 = .ok (.iconst 1, 1) := dget daL_law_2 3 rfl
theorem dL_law_478 : decode cL_law 478 = .ok (.iadd, 1) := dget daL_law_2 4 rfl
theorem dL_law_479 : decode cL_law 479 = .ok (.iaload, 1) := dget daL_law_2 5 rfl
theorem dL_law_480 : decode cL_law 480 = .ok (.aload_n 0, 1) := dget daL_law_2 6 rfl
theorem dL_law_481 : decode cL_law 481 = .ok (.iload_n 3, 1) := dget daL_law_2 7 rfl
theorem dL_law_482 : decode cL_law 482 = .ok (.iconst 2, 1) := dget daL_law_2 8 rfl
theorem dL_law_483 : decode cL_law 483 = .ok (.iadd, 1) := dget daL_law_2 9 rfl
theorem dL_law_484 : decode cL_law 484 = .ok (.iaload, 1) := dget daL_law_2 10 rfl
theorem dL_law_485 : decode cL_law 485 = .ok (.invokevirtual 32, 3) := dget daL_law_2 11 rfl
theorem dL_law_488 : decode cL_law 488 = .ok (.aload_n 2, 1) := dget daL_law_2 12 rfl
theorem dL_law_489 : decode cL_law 489 = .ok (.aload_n 0, 1) := dget daL_law_2 13 rfl
theorem dL_law_490 : decode cL_law 490 = .ok (.iload_n 3, 1) := dget daL_law_2 14 rfl
theorem dL_law_491 : decode cL_law 491 = .ok (.iconst 1, 1) := dget daL_law_2 15 rfl
theorem dL_law_492 : decode cL_law 492 = .ok (.iadd, 1) := dget daL_law_2 16 rfl
theorem dL_law_493 : decode cL_law 493 = .ok (.iaload, 1) := dget daL_law_2 17 rfl
theorem dL_law_494 : decode cL_law 494 = .ok (.aload_n 0, 1) := dget daL_law_2 18 rfl
theorem dL_law_495 : decode cL_law 495 = .ok (.iload_n 3, 1) := dget daL_law_2 19 rfl
theorem dL_law_496 : decode cL_law 496 = .ok (.iconst 2, 1) := dget daL_law_2 20 rfl
theorem dL_law_497 : decode cL_law 497 = .ok (.iadd, 1) := dget daL_law_2 21 rfl
theorem dL_law_498 : decode cL_law 498 = .ok (.iaload, 1) := dget daL_law_2 22 rfl
theorem dL_law_499 : decode cL_law 499 = .ok (.invokevirtual 36, 3) := dget daL_law_2 23 rfl
theorem dL_law_502 : decode cL_law 502 = .ok (.if_icmp .eq 2110, 3) := dget daL_law_2 24 rfl
theorem dL_law_505 : decode cL_law 505 = .ok (.iconst 0, 1) := dget daL_law_2 25 rfl
theorem dL_law_506 : decode cL_law 506 = .ok (.ireturn, 1) := dget daL_law_2 26 rfl
theorem dL_law_507 : decode cL_law 507 = .ok (.aload_n 1, 1) := dget daL_law_2 27 rfl
theorem dL_law_508 : decode cL_law 508 = .ok (.aload_n 0, 1) := dget daL_law_2 28 rfl
theorem dL_law_509 : decode cL_law 509 = .ok (.iload_n 3, 1) := dget daL_law_2 29 rfl
theorem dL_law_510 : decode cL_law 510 = .ok (.iconst 1, 1) := dget daL_law_2 30 rfl
theorem dL_law_511 : decode cL_law 511 = .ok (.iadd, 1) := dget daL_law_2 31 rfl
theorem dL_law_512 : decode cL_law 512 = .ok (.iaload, 1) := dget daL_law_2 32 rfl
theorem dL_law_513 : decode cL_law 513 = .ok (.aload_n 0, 1) := dget daL_law_2 33 rfl
theorem dL_law_514 : decode cL_law 514 = .ok (.iload_n 3, 1) := dget daL_law_2 34 rfl
theorem dL_law_515 : decode cL_law 515 = .ok (.iconst 2, 1) := dget daL_law_2 35 rfl
theorem dL_law_516 : decode cL_law 516 = .ok (.iadd, 1) := dget daL_law_2 36 rfl
theorem dL_law_517 : decode cL_law 517 = .ok (.iaload, 1) := dget daL_law_2 37 rfl
theorem dL_law_518 : decode cL_law 518 = .ok (.invokevirtual 37, 3) := dget daL_law_2 38 rfl
theorem dL_law_521 : decode cL_law 521 = .ok (.aload_n 2, 1) := dget daL_law_2 39 rfl
theorem dL_law_522 : decode cL_law 522 = .ok (.aload_n 0, 1) := dget daL_law_2 40 rfl
theorem dL_law_523 : decode cL_law 523 = .ok (.iload_n 3, 1) := dget daL_law_2 41 rfl
theorem dL_law_524 : decode cL_law 524 = .ok (.iconst 1, 1) := dget daL_law_2 42 rfl
theorem dL_law_525 : decode cL_law 525 = .ok (.iadd, 1) := dget daL_law_2 43 rfl
theorem dL_law_526 : decode cL_law 526 = .ok (.iaload, 1) := dget daL_law_2 44 rfl
theorem dL_law_527 : decode cL_law 527 = .ok (.aload_n 0, 1) := dget daL_law_2 45 rfl
theorem dL_law_528 : decode cL_law 528 = .ok (.iload_n 3, 1) := dget daL_law_2 46 rfl
theorem dL_law_529 : decode cL_law 529 = .ok (.iconst 2, 1) := dget daL_law_2 47 rfl
theorem dL_law_530 : decode cL_law 530 = .ok (.iadd, 1) := dget daL_law_2 48 rfl
theorem dL_law_531 : decode cL_law 531 = .ok (.iaload, 1) := dget daL_law_2 49 rfl
theorem dL_law_532 : decode cL_law 532 = .ok (.invokevirtual 40, 3) := dget daL_law_2 50 rfl
theorem dL_law_535 : decode cL_law 535 = .ok (.if_icmp .eq 2077, 3) := dget daL_law_2 51 rfl
theorem dL_law_538 : decode cL_law 538 = .ok (.iconst 0, 1) := dget daL_law_2 52 rfl
theorem dL_law_539 : decode cL_law 539 = .ok (.ireturn, 1) := dget daL_law_2 53 rfl
theorem dL_law_540 : decode cL_law 540 = .ok (.aload_n 1, 1) := dget daL_law_2 54 rfl
theorem dL_law_541 : decode cL_law 541 = .ok (.aload_n 0, 1) := dget daL_law_2 55 rfl
theorem dL_law_542 : decode cL_law 542 = .ok (.iload_n 3, 1) := dget daL_law_2 56 rfl
theorem dL_law_543 : decode cL_law 543 = .ok (.iconst 1, 1) := dget daL_law_2 57 rfl
theorem dL_law_544 : decode cL_law 544 = .ok (.iadd, 1) := dget daL_law_2 58 rfl
theorem dL_law_545 : decode cL_law 545 = .ok (.iaload, 1) := dget daL_law_2 59 rfl
set_option maxRecDepth 100000 in
theorem daL_law_3 : dchk cL_law [(546, .aload_n 0, 1), (547, .iload_n 3, 1), (548, .iconst 2, 1), (549, .iadd, 1), (550, .iaload, 1), (551, .invokevirtual 41, 3), (554, .aload_n 2, 1), (555, .aload_n 0, 1), (556, .iload_n 3, 1), (557, .iconst 1, 1), (558, .iadd, 1), (559, .iaload, 1), (560, .aload_n 0, 1), (561, .iload_n 3, 1), (562, .iconst 2, 1), (563, .iadd, 1), (564, .iaload, 1), (565, .invokevirtual 44, 3), (568, .if_icmp .eq 2044, 3), (571, .iconst 0, 1), (572, .ireturn, 1), (573, .aload_n 1, 1), (574, .aload_n 0, 1), (575, .iload_n 3, 1), (576, .iconst 1, 1), (577, .iadd, 1), (578, .iaload, 1), (579, .invokevirtual 45, 3), (582, .aload_n 2, 1), (583, .aload_n 0, 1), (584, .iload_n 3, 1), (585, .iconst 1, 1), (586, .iadd, 1), (587, .iaload, 1), (588, .invokevirtual 48, 3), (591, .if_icmp .eq 2021, 3), (594, .iconst 0, 1), (595, .ireturn, 1), (596, .aload_n 1, 1), (597, .aload_n 0, 1), (598, .iload_n 3, 1), (599, .iconst 1, 1), (600, .iadd, 1), (601, .iaload, 1), (602, .invokevirtual 49, 3), (605, .aload_n 2, 1), (606, .aload_n 0, 1), (607, .iload_n 3, 1), (608, .iconst 1, 1), (609, .iadd, 1), (610, .iaload, 1), (611, .invokevirtual 52, 3), (614, .if_icmp .eq 1998, 3), (617, .iconst 0, 1), (618, .ireturn, 1), (619, .aload_n 1, 1), (620, .aload_n 0, 1), (621, .iload_n 3, 1), (622, .iconst 1, 1), (623, .iadd, 1)] = true := by decide +kernel
theorem dL_law_546 : decode cL_law 546 = .ok (.aload_n 0, 1) := dget daL_law_3 0 rfl
theorem dL_law_547 : decode cL_law 547 = .ok (.iload_n 3, 1) := dget daL_law_3 1 rfl
theorem dL_law_548 : decode cL_law 548 = .ok (.iconst 2, 1) := dget daL_law_3 2 rfl
theorem dL_law_549 : decode cL_law 549 = .ok (.iadd, 1) := dget daL_law_3 3 rfl
theorem dL_law_550 : decode cL_law 550 = .ok (.iaload, 1) := dget daL_law_3 4 rfl
theorem dL_law_551 : decode cL_law 551 = .ok (.invokevirtual 41, 3) := dget daL_law_3 5 rfl
theorem dL_law_554 : decode cL_law 554 = .ok (.aload_n 2, 1) := dget daL_law_3 6 rfl
theorem dL_law_555 : decode cL_law 555 = .ok (.aload_n 0, 1) := dget daL_law_3 7 rfl
theorem dL_law_556 : decode cL_law 556 = .ok (.iload_n 3, 1) := dget daL_law_3 8 rfl
theorem dL_law_557 : decode cL_law 557 = .ok (.iconst 1, 1) := dget daL_law_3 9 rfl
theorem dL_law_558 : decode cL_law 558 = .ok (.iadd, 1) := dget daL_law_3 10 rfl
theorem dL_law_559 : decode cL_law 559 = .ok (.iaload, 1) := dget daL_law_3 11 rfl
theorem dL_law_560 : decode cL_law 560 = .ok (.aload_n 0, 1) := dget daL_law_3 12 rfl
theorem dL_law_561 : decode cL_law 561 = .ok (.iload_n 3, 1) := dget daL_law_3 13 rfl
theorem dL_law_562 : decode cL_law 562 = .ok (.iconst 2, 1) := dget daL_law_3 14 rfl
theorem dL_law_563 : decode cL_law 563 = .ok (.iadd, 1) := dget daL_law_3 15 rfl
theorem dL_law_564 : decode cL_law 564 = .ok (.iaload, 1) := dget daL_law_3 16 rfl
theorem dL_law_565 : decode cL_law 565 = .ok (.invokevirtual 44, 3) := dget daL_law_3 17 rfl
theorem dL_law_568 : decode cL_law 568 = .ok (.if_icmp .eq 2044, 3) := dget daL_law_3 18 rfl
theorem dL_law_571 : decode cL_law 571 = .ok (.iconst 0, 1) := dget daL_law_3 19 rfl
theorem dL_law_572 : decode cL_law 572 = .ok (.ireturn, 1) := dget daL_law_3 20 rfl
theorem dL_law_573 : decode cL_law 573 = .ok (.aload_n 1, 1) := dget daL_law_3 21 rfl
theorem dL_law_574 : decode cL_law 574 = .ok (.aload_n 0, 1) := dget daL_law_3 22 rfl
theorem dL_law_575 : decode cL_law 575 = .ok (.iload_n 3, 1) := dget daL_law_3 23 rfl
theorem dL_law_576 : decode cL_law 576 = .ok (.iconst 1, 1) := dget daL_law_3 24 rfl
theorem dL_law_577 : decode cL_law 577 = .ok (.iadd, 1) := dget daL_law_3 25 rfl
theorem dL_law_578 : decode cL_law 578 = .ok (.iaload, 1) := dget daL_law_3 26 rfl
theorem dL_law_579 : decode cL_law 579 = .ok (.invokevirtual 45, 3) := dget daL_law_3 27 rfl
theorem dL_law_582 : decode cL_law 582 = .ok (.aload_n 2, 1) := dget daL_law_3 28 rfl
theorem dL_law_583 : decode cL_law 583 = .ok (.aload_n 0, 1) := dget daL_law_3 29 rfl
theorem dL_law_584 : decode cL_law 584 = .ok (.iload_n 3, 1) := dget daL_law_3 30 rfl
theorem dL_law_585 : decode cL_law 585 = .ok (.iconst 1, 1) := dget daL_law_3 31 rfl
theorem dL_law_586 : decode cL_law 586 = .ok (.iadd, 1) := dget daL_law_3 32 rfl
theorem dL_law_587 : decode cL_law 587 = .ok (.iaload, 1) := dget daL_law_3 33 rfl
theorem dL_law_588 : decode cL_law 588 = .ok (.invokevirtual 48, 3) := dget daL_law_3 34 rfl
theorem dL_law_591 : decode cL_law 591 = .ok (.if_icmp .eq 2021, 3) := dget daL_law_3 35 rfl
theorem dL_law_594 : decode cL_law 594 = .ok (.iconst 0, 1) := dget daL_law_3 36 rfl
theorem dL_law_595 : decode cL_law 595 = .ok (.ireturn, 1) := dget daL_law_3 37 rfl
theorem dL_law_596 : decode cL_law 596 = .ok (.aload_n 1, 1) := dget daL_law_3 38 rfl
theorem dL_law_597 : decode cL_law 597 = .ok (.aload_n 0, 1) := dget daL_law_3 39 rfl
theorem dL_law_598 : decode cL_law 598 = .ok (.iload_n 3, 1) := dget daL_law_3 40 rfl
theorem dL_law_599 : decode cL_law 599 = .ok (.iconst 1, 1) := dget daL_law_3 41 rfl
theorem dL_law_600 : decode cL_law 600 = .ok (.iadd, 1) := dget daL_law_3 42 rfl
theorem dL_law_601 : decode cL_law 601 = .ok (.iaload, 1) := dget daL_law_3 43 rfl
theorem dL_law_602 : decode cL_law 602 = .ok (.invokevirtual 49, 3) := dget daL_law_3 44 rfl
theorem dL_law_605 : decode cL_law 605 = .ok (.aload_n 2, 1) := dget daL_law_3 45 rfl
theorem dL_law_606 : decode cL_law 606 = .ok (.aload_n 0, 1) := dget daL_law_3 46 rfl
theorem dL_law_607 : decode cL_law 607 = .ok (.iload_n 3, 1) := dget daL_law_3 47 rfl
theorem dL_law_608 : decode cL_law 608 = .ok (.iconst 1, 1) := dget daL_law_3 48 rfl
theorem dL_law_609 : decode cL_law 609 = .ok (.iadd, 1) := dget daL_law_3 49 rfl
theorem dL_law_610 : decode cL_law 610 = .ok (.iaload, 1) := dget daL_law_3 50 rfl
theorem dL_law_611 : decode cL_law 611 = .ok (.invokevirtual 52, 3) := dget daL_law_3 51 rfl
theorem dL_law_614 : decode cL_law 614 = .ok (.if_icmp .eq 1998, 3) := dget daL_law_3 52 rfl
theorem dL_law_617 : decode cL_law 617 = .ok (.iconst 0, 1) := dget daL_law_3 53 rfl
theorem dL_law_618 : decode cL_law 618 = .ok (.ireturn, 1) := dget daL_law_3 54 rfl
theorem dL_law_619 : decode cL_law 619 = .ok (.aload_n 1, 1) := dget daL_law_3 55 rfl
theorem dL_law_620 : decode cL_law 620 = .ok (.aload_n 0, 1) := dget daL_law_3 56 rfl
theorem dL_law_621 : decode cL_law 621 = .ok (.iload_n 3, 1) := dget daL_law_3 57 rfl
theorem dL_law_622 : decode cL_law 622 = .ok (.iconst 1, 1) := dget daL_law_3 58 rfl
theorem dL_law_623 : decode cL_law 623 = .ok (.iadd, 1) := dget daL_law_3 59 rfl
set_option maxRecDepth 100000 in
theorem daL_law_4 : dchk cL_law [(624, .iaload, 1), (625, .invokevirtual 53, 3), (628, .aload_n 2, 1), (629, .aload_n 0, 1), (630, .iload_n 3, 1), (631, .iconst 1, 1), (632, .iadd, 1), (633, .iaload, 1), (634, .invokevirtual 56, 3), (637, .if_icmp .eq 1975, 3), (640, .iconst 0, 1), (641, .ireturn, 1), (642, .aload_n 1, 1), (643, .aload_n 0, 1), (644, .iload_n 3, 1), (645, .iconst 1, 1), (646, .iadd, 1), (647, .iaload, 1), (648, .invokevirtual 57, 3), (651, .aload_n 2, 1), (652, .aload_n 0, 1), (653, .iload_n 3, 1), (654, .iconst 1, 1), (655, .iadd, 1), (656, .iaload, 1), (657, .invokevirtual 60, 3), (660, .if_icmp .eq 1952, 3), (663, .iconst 0, 1), (664, .ireturn, 1), (665, .aload_n 1, 1), (666, .aload_n 0, 1), (667, .iload_n 3, 1), (668, .iconst 1, 1), (669, .iadd, 1), (670, .iaload, 1), (671, .aload_n 0, 1), (672, .iload_n 3, 1), (673, .iconst 2, 1), (674, .iadd, 1), (675, .iaload, 1), (676, .aload_n 0, 1), (677, .iload_n 3, 1), (678, .iconst 3, 1), (679, .iadd, 1), (680, .iaload, 1), (681, .invokevirtual 61, 3), (684, .aload_n 2, 1), (685, .aload_n 0, 1), (686, .iload_n 3, 1), (687, .iconst 1, 1), (688, .iadd, 1), (689, .iaload, 1), (690, .aload_n 0, 1), (691, .iload_n 3, 1), (692, .iconst 2, 1), (693, .iadd, 1), (694, .iaload, 1), (695, .aload_n 0, 1), (696, .iload_n 3, 1), (697, .iconst 3, 1)] = true := by decide +kernel
theorem dL_law_624 : decode cL_law 624 = .ok (.iaload, 1) := dget daL_law_4 0 rfl
theorem dL_law_625 : decode cL_law 625 = .ok (.invokevirtual 53, 3) := dget daL_law_4 1 rfl
theorem dL_law_628 : decode cL_law 628 = .ok (.aload_n 2, 1) := dget daL_law_4 2 rfl
theorem dL_law_629 : decode cL_law 629 = .ok (.aload_n 0, 1) := dget daL_law_4 3 rfl
theorem dL_law_630 : decode cL_law 630 = .ok (.iload_n 3, 1) := dget daL_law_4 4 rfl
theorem dL_law_631 : decode cL_law 631 = .ok (.iconst 1, 1) := dget daL_law_4 5 rfl
theorem dL_law_632 : decode cL_law 632 = .ok (.iadd, 1) := dget daL_law_4 6 rfl
theorem dL_law_633 : decode cL_law 633 = .ok (.iaload, 1) := dget daL_law_4 7 rfl
theorem dL_law_634 : decode cL_law 634 = .ok (.invokevirtual 56, 3) := dget daL_law_4 8 rfl
theorem dL_law_637 : decode cL_law 637 = .ok (.if_icmp .eq 1975, 3) := dget daL_law_4 9 rfl
theorem dL_law_640 : decode cL_law 640 = .ok (.iconst 0, 1) := dget daL_law_4 10 rfl
theorem dL_law_641 : decode cL_law 641 = .ok (.ireturn, 1) := dget daL_law_4 11 rfl
theorem dL_law_642 : decode cL_law 642 = .ok (.aload_n 1, 1) := dget daL_law_4 12 rfl
theorem dL_law_643 : decode cL_law 643 = .ok (.aload_n 0, 1) := dget daL_law_4 13 rfl
theorem dL_law_644 : decode cL_law 644 = .ok (.iload_n 3, 1) := dget daL_law_4 14 rfl
theorem dL_law_645 : decode cL_law 645 = .ok (.iconst 1, 1) := dget daL_law_4 15 rfl
theorem dL_law_646 : decode cL_law 646 = .ok (.iadd, 1) := dget daL_law_4 16 rfl
theorem dL_law_647 : decode cL_law 647 = .ok (.iaload, 1) := dget daL_law_4 17 rfl
theorem dL_law_648 : decode cL_law 648 = .ok (.invokevirtual 57, 3) := dget daL_law_4 18 rfl
theorem dL_law_651 : decode cL_law 651 = .ok (.aload_n 2, 1) := dget daL_law_4 19 rfl
theorem dL_law_652 : decode cL_law 652 = .ok (.aload_n 0, 1) := dget daL_law_4 20 rfl
theorem dL_law_653 : decode cL_law 653 = .ok (.iload_n 3, 1) := dget daL_law_4 21 rfl
theorem dL_law_654 : decode cL_law 654 = .ok (.iconst 1, 1) := dget daL_law_4 22 rfl
theorem dL_law_655 : decode cL_law 655 = .ok (.iadd, 1) := dget daL_law_4 23 rfl
theorem dL_law_656 : decode cL_law 656 = .ok (.iaload, 1) := dget daL_law_4 24 rfl
theorem dL_law_657 : decode cL_law 657 = .ok (.invokevirtual 60, 3) := dget daL_law_4 25 rfl
theorem dL_law_660 : decode cL_law 660 = .ok (.if_icmp .eq 1952, 3) := dget daL_law_4 26 rfl
theorem dL_law_663 : decode cL_law 663 = .ok (.iconst 0, 1) := dget daL_law_4 27 rfl
theorem dL_law_664 : decode cL_law 664 = .ok (.ireturn, 1) := dget daL_law_4 28 rfl
theorem dL_law_665 : decode cL_law 665 = .ok (.aload_n 1, 1) := dget daL_law_4 29 rfl
theorem dL_law_666 : decode cL_law 666 = .ok (.aload_n 0, 1) := dget daL_law_4 30 rfl
theorem dL_law_667 : decode cL_law 667 = .ok (.iload_n 3, 1) := dget daL_law_4 31 rfl
theorem dL_law_668 : decode cL_law 668 = .ok (.iconst 1, 1) := dget daL_law_4 32 rfl
theorem dL_law_669 : decode cL_law 669 = .ok (.iadd, 1) := dget daL_law_4 33 rfl
theorem dL_law_670 : decode cL_law 670 = .ok (.iaload, 1) := dget daL_law_4 34 rfl
theorem dL_law_671 : decode cL_law 671 = .ok (.aload_n 0, 1) := dget daL_law_4 35 rfl
theorem dL_law_672 : decode cL_law 672 = .ok (.iload_n 3, 1) := dget daL_law_4 36 rfl
theorem dL_law_673 : decode cL_law 673 = .ok (.iconst 2, 1) := dget daL_law_4 37 rfl
theorem dL_law_674 : decode cL_law 674 = .ok (.iadd, 1) := dget daL_law_4 38 rfl
theorem dL_law_675 : decode cL_law 675 = .ok (.iaload, 1) := dget daL_law_4 39 rfl
theorem dL_law_676 : decode cL_law 676 = .ok (.aload_n 0, 1) := dget daL_law_4 40 rfl
theorem dL_law_677 : decode cL_law 677 = .ok (.iload_n 3, 1) := dget daL_law_4 41 rfl
theorem dL_law_678 : decode cL_law 678 = .ok (.iconst 3, 1) := dget daL_law_4 42 rfl
theorem dL_law_679 : decode cL_law 679 = .ok (.iadd, 1) := dget daL_law_4 43 rfl
theorem dL_law_680 : decode cL_law 680 = .ok (.iaload, 1) := dget daL_law_4 44 rfl
theorem dL_law_681 : decode cL_law 681 = .ok (.invokevirtual 61, 3) := dget daL_law_4 45 rfl
theorem dL_law_684 : decode cL_law 684 = .ok (.aload_n 2, 1) := dget daL_law_4 46 rfl
theorem dL_law_685 : decode cL_law 685 = .ok (.aload_n 0, 1) := dget daL_law_4 47 rfl
theorem dL_law_686 : decode cL_law 686 = .ok (.iload_n 3, 1) := dget daL_law_4 48 rfl
theorem dL_law_687 : decode cL_law 687 = .ok (.iconst 1, 1) := dget daL_law_4 49 rfl
theorem dL_law_688 : decode cL_law 688 = .ok (.iadd, 1) := dget daL_law_4 50 rfl
theorem dL_law_689 : decode cL_law 689 = .ok (.iaload, 1) := dget daL_law_4 51 rfl
theorem dL_law_690 : decode cL_law 690 = .ok (.aload_n 0, 1) := dget daL_law_4 52 rfl
theorem dL_law_691 : decode cL_law 691 = .ok (.iload_n 3, 1) := dget daL_law_4 53 rfl
theorem dL_law_692 : decode cL_law 692 = .ok (.iconst 2, 1) := dget daL_law_4 54 rfl
theorem dL_law_693 : decode cL_law 693 = .ok (.iadd, 1) := dget daL_law_4 55 rfl
theorem dL_law_694 : decode cL_law 694 = .ok (.iaload, 1) := dget daL_law_4 56 rfl
theorem dL_law_695 : decode cL_law 695 = .ok (.aload_n 0, 1) := dget daL_law_4 57 rfl
theorem dL_law_696 : decode cL_law 696 = .ok (.iload_n 3, 1) := dget daL_law_4 58 rfl
theorem dL_law_697 : decode cL_law 697 = .ok (.iconst 3, 1) := dget daL_law_4 59 rfl
set_option maxRecDepth 100000 in
theorem daL_law_5 : dchk cL_law [(698, .iadd, 1), (699, .iaload, 1), (700, .invokevirtual 65, 3), (703, .if_icmp .eq 1909, 3), (706, .iconst 0, 1), (707, .ireturn, 1), (708, .aload_n 1, 1), (709, .aload_n 0, 1), (710, .iload_n 3, 1), (711, .iconst 1, 1), (712, .iadd, 1), (713, .iaload, 1), (714, .aload_n 0, 1), (715, .iload_n 3, 1), (716, .iconst 2, 1), (717, .iadd, 1), (718, .iaload, 1), (719, .invokevirtual 66, 3), (722, .aload_n 2, 1), (723, .aload_n 0, 1), (724, .iload_n 3, 1), (725, .iconst 1, 1), (726, .iadd, 1), (727, .iaload, 1), (728, .aload_n 0, 1), (729, .iload_n 3, 1), (730, .iconst 2, 1), (731, .iadd, 1), (732, .iaload, 1), (733, .invokevirtual 69, 3), (736, .if_icmp .eq 1876, 3), (739, .iconst 0, 1), (740, .ireturn, 1), (741, .aload_n 1, 1), (742, .aload_n 0, 1), (743, .iload_n 3, 1), (744, .iconst 1, 1), (745, .iadd, 1), (746, .iaload, 1), (747, .aload_n 0, 1), (748, .iload_n 3, 1), (749, .iconst 2, 1), (750, .iadd, 1), (751, .iaload, 1), (752, .aload_n 0, 1), (753, .iload_n 3, 1), (754, .iconst 3, 1), (755, .iadd, 1), (756, .iaload, 1), (757, .invokevirtual 70, 3), (760, .aload_n 2, 1), (761, .aload_n 0, 1), (762, .iload_n 3, 1), (763, .iconst 1, 1), (764, .iadd, 1), (765, .iaload, 1), (766, .aload_n 0, 1), (767, .iload_n 3, 1), (768, .iconst 2, 1), (769, .iadd, 1)] = true := by decide +kernel
theorem dL_law_698 : decode cL_law 698 = .ok (.iadd, 1) := dget daL_law_5 0 rfl
theorem dL_law_699 : decode cL_law 699 = .ok (.iaload, 1) := dget daL_law_5 1 rfl
theorem dL_law_700 : decode cL_law 700 = .ok (.invokevirtual 65, 3) := dget daL_law_5 2 rfl
theorem dL_law_703 : decode cL_law 703 = .ok (.if_icmp .eq 1909, 3) := dget daL_law_5 3 rfl
theorem dL_law_706 : decode cL_law 706 = .ok (.iconst 0, 1) := dget daL_law_5 4 rfl
theorem dL_law_707 : decode cL_law 707 = .ok (.ireturn, 1) := dget daL_law_5 5 rfl
theorem dL_law_708 : decode cL_law 708 = .ok (.aload_n 1, 1) := dget daL_law_5 6 rfl
theorem dL_law_709 : decode cL_law 709 = .ok (.aload_n 0, 1) := dget daL_law_5 7 rfl
theorem dL_law_710 : decode cL_law 710 = .ok (.iload_n 3, 1) := dget daL_law_5 8 rfl
theorem dL_law_711 : decode cL_law 711 = .ok (.iconst 1, 1) := dget daL_law_5 9 rfl
theorem dL_law_712 : decode cL_law 712 = .ok (.iadd, 1) := dget daL_law_5 10 rfl
theorem dL_law_713 : decode cL_law 713 = .ok (.iaload, 1) := dget daL_law_5 11 rfl
theorem dL_law_714 : decode cL_law 714 = .ok (.aload_n 0, 1) := dget daL_law_5 12 rfl
theorem dL_law_715 : decode cL_law 715 = .ok (.iload_n 3, 1) := dget daL_law_5 13 rfl
theorem dL_law_716 : decode cL_law 716 = .ok (.iconst 2, 1) := dget daL_law_5 14 rfl
theorem dL_law_717 : decode cL_law 717 = .ok (.iadd, 1) := dget daL_law_5 15 rfl
theorem dL_law_718 : decode cL_law 718 = .ok (.iaload, 1) := dget daL_law_5 16 rfl
theorem dL_law_719 : decode cL_law 719 = .ok (.invokevirtual 66, 3) := dget daL_law_5 17 rfl
theorem dL_law_722 : decode cL_law 722 = .ok (.aload_n 2, 1) := dget daL_law_5 18 rfl
theorem dL_law_723 : decode cL_law 723 = .ok (.aload_n 0, 1) := dget daL_law_5 19 rfl
theorem dL_law_724 : decode cL_law 724 = .ok (.iload_n 3, 1) := dget daL_law_5 20 rfl
theorem dL_law_725 : decode cL_law 725 = .ok (.iconst 1, 1) := dget daL_law_5 21 rfl
theorem dL_law_726 : decode cL_law 726 = .ok (.iadd, 1) := dget daL_law_5 22 rfl
theorem dL_law_727 : decode cL_law 727 = .ok (.iaload, 1) := dget daL_law_5 23 rfl
theorem dL_law_728 : decode cL_law 728 = .ok (.aload_n 0, 1) := dget daL_law_5 24 rfl
theorem dL_law_729 : decode cL_law 729 = .ok (.iload_n 3, 1) := dget daL_law_5 25 rfl
theorem dL_law_730 : decode cL_law 730 = .ok (.iconst 2, 1) := dget daL_law_5 26 rfl
theorem dL_law_731 : decode cL_law 731 = .ok (.iadd, 1) := dget daL_law_5 27 rfl
theorem dL_law_732 : decode cL_law 732 = .ok (.iaload, 1) := dget daL_law_5 28 rfl
theorem dL_law_733 : decode cL_law 733 = .ok (.invokevirtual 69, 3) := dget daL_law_5 29 rfl
theorem dL_law_736 : decode cL_law 736 = .ok (.if_icmp .eq 1876, 3) := dget daL_law_5 30 rfl
theorem dL_law_739 : decode cL_law 739 = .ok (.iconst 0, 1) := dget daL_law_5 31 rfl
theorem dL_law_740 : decode cL_law 740 = .ok (.ireturn, 1) := dget daL_law_5 32 rfl
theorem dL_law_741 : decode cL_law 741 = .ok (.aload_n 1, 1) := dget daL_law_5 33 rfl
theorem dL_law_742 : decode cL_law 742 = .ok (.aload_n 0, 1) := dget daL_law_5 34 rfl
theorem dL_law_743 : decode cL_law 743 = .ok (.iload_n 3, 1) := dget daL_law_5 35 rfl
theorem dL_law_744 : decode cL_law 744 = .ok (.iconst 1, 1) := dget daL_law_5 36 rfl
theorem dL_law_745 : decode cL_law 745 = .ok (.iadd, 1) := dget daL_law_5 37 rfl
theorem dL_law_746 : decode cL_law 746 = .ok (.iaload, 1) := dget daL_law_5 38 rfl
theorem dL_law_747 : decode cL_law 747 = .ok (.aload_n 0, 1) := dget daL_law_5 39 rfl
theorem dL_law_748 : decode cL_law 748 = .ok (.iload_n 3, 1) := dget daL_law_5 40 rfl
theorem dL_law_749 : decode cL_law 749 = .ok (.iconst 2, 1) := dget daL_law_5 41 rfl
theorem dL_law_750 : decode cL_law 750 = .ok (.iadd, 1) := dget daL_law_5 42 rfl
theorem dL_law_751 : decode cL_law 751 = .ok (.iaload, 1) := dget daL_law_5 43 rfl
theorem dL_law_752 : decode cL_law 752 = .ok (.aload_n 0, 1) := dget daL_law_5 44 rfl
theorem dL_law_753 : decode cL_law 753 = .ok (.iload_n 3, 1) := dget daL_law_5 45 rfl
theorem dL_law_754 : decode cL_law 754 = .ok (.iconst 3, 1) := dget daL_law_5 46 rfl
theorem dL_law_755 : decode cL_law 755 = .ok (.iadd, 1) := dget daL_law_5 47 rfl
theorem dL_law_756 : decode cL_law 756 = .ok (.iaload, 1) := dget daL_law_5 48 rfl
theorem dL_law_757 : decode cL_law 757 = .ok (.invokevirtual 70, 3) := dget daL_law_5 49 rfl
theorem dL_law_760 : decode cL_law 760 = .ok (.aload_n 2, 1) := dget daL_law_5 50 rfl
theorem dL_law_761 : decode cL_law 761 = .ok (.aload_n 0, 1) := dget daL_law_5 51 rfl
theorem dL_law_762 : decode cL_law 762 = .ok (.iload_n 3, 1) := dget daL_law_5 52 rfl
theorem dL_law_763 : decode cL_law 763 = .ok (.iconst 1, 1) := dget daL_law_5 53 rfl
theorem dL_law_764 : decode cL_law 764 = .ok (.iadd, 1) := dget daL_law_5 54 rfl
theorem dL_law_765 : decode cL_law 765 = .ok (.iaload, 1) := dget daL_law_5 55 rfl
theorem dL_law_766 : decode cL_law 766 = .ok (.aload_n 0, 1) := dget daL_law_5 56 rfl
theorem dL_law_767 : decode cL_law 767 = .ok (.iload_n 3, 1) := dget daL_law_5 57 rfl
theorem dL_law_768 : decode cL_law 768 = .ok (.iconst 2, 1) := dget daL_law_5 58 rfl
theorem dL_law_769 : decode cL_law 769 = .ok (.iadd, 1) := dget daL_law_5 59 rfl
set_option maxRecDepth 100000 in
theorem daL_law_6 : dchk cL_law [(770, .iaload, 1), (771, .aload_n 0, 1), (772, .iload_n 3, 1), (773, .iconst 3, 1), (774, .iadd, 1), (775, .iaload, 1), (776, .invokevirtual 73, 3), (779, .if_icmp .eq 1833, 3), (782, .iconst 0, 1), (783, .ireturn, 1), (784, .aload_n 1, 1), (785, .aload_n 0, 1), (786, .iload_n 3, 1), (787, .iconst 1, 1), (788, .iadd, 1), (789, .iaload, 1), (790, .aload_n 0, 1), (791, .iload_n 3, 1), (792, .iconst 2, 1), (793, .iadd, 1), (794, .iaload, 1), (795, .invokevirtual 74, 3), (798, .aload_n 2, 1), (799, .aload_n 0, 1), (800, .iload_n 3, 1), (801, .iconst 1, 1), (802, .iadd, 1), (803, .iaload, 1), (804, .aload_n 0, 1), (805, .iload_n 3, 1), (806, .iconst 2, 1), (807, .iadd, 1), (808, .iaload, 1), (809, .invokevirtual 77, 3), (812, .if_icmp .eq 1800, 3), (815, .iconst 0, 1), (816, .ireturn, 1), (817, .aload_n 1, 1), (818, .aload_n 0, 1), (819, .iload_n 3, 1), (820, .iconst 1, 1), (821, .iadd, 1), (822, .iaload, 1), (823, .aload_n 0, 1), (824, .iload_n 3, 1), (825, .iconst 2, 1), (826, .iadd, 1), (827, .iaload, 1), (828, .invokevirtual 78, 3), (831, .aload_n 2, 1), (832, .aload_n 0, 1), (833, .iload_n 3, 1), (834, .iconst 1, 1), (835, .iadd, 1), (836, .iaload, 1), (837, .aload_n 0, 1), (838, .iload_n 3, 1), (839, .iconst 2, 1), (840, .iadd, 1), (841, .iaload, 1)] = true := by decide +kernel
theorem dL_law_770 : decode cL_law 770 = .ok (.iaload, 1) := dget daL_law_6 0 rfl
theorem dL_law_771 : decode cL_law 771 = .ok (.aload_n 0, 1) := dget daL_law_6 1 rfl
theorem dL_law_772 : decode cL_law 772 = .ok (.iload_n 3, 1) := dget daL_law_6 2 rfl
theorem dL_law_773 : decode cL_law 773 = .ok (.iconst 3, 1) := dget daL_law_6 3 rfl
theorem dL_law_774 : decode cL_law 774 = .ok (.iadd, 1) := dget daL_law_6 4 rfl
theorem dL_law_775 : decode cL_law 775 = .ok (.iaload, 1) := dget daL_law_6 5 rfl
theorem dL_law_776 : decode cL_law 776 = .ok (.invokevirtual 73, 3) := dget daL_law_6 6 rfl
theorem dL_law_779 : decode cL_law 779 = .ok (.if_icmp .eq 1833, 3) := dget daL_law_6 7 rfl
theorem dL_law_782 : decode cL_law 782 = .ok (.iconst 0, 1) := dget daL_law_6 8 rfl
theorem dL_law_783 : decode cL_law 783 = .ok (.ireturn, 1) := dget daL_law_6 9 rfl
theorem dL_law_784 : decode cL_law 784 = .ok (.aload_n 1, 1) := dget daL_law_6 10 rfl
theorem dL_law_785 : decode cL_law 785 = .ok (.aload_n 0, 1) := dget daL_law_6 11 rfl
theorem dL_law_786 : decode cL_law 786 = .ok (.iload_n 3, 1) := dget daL_law_6 12 rfl
theorem dL_law_787 : decode cL_law 787 = .ok (.iconst 1, 1) := dget daL_law_6 13 rfl
theorem dL_law_788 : decode cL_law 788 = .ok (.iadd, 1) := dget daL_law_6 14 rfl
theorem dL_law_789 : decode cL_law 789 = .ok (.iaload, 1) := dget daL_law_6 15 rfl
theorem dL_law_790 : decode cL_law 790 = .ok (.aload_n 0, 1) := dget daL_law_6 16 rfl
theorem dL_law_791 : decode cL_law 791 = .ok (.iload_n 3, 1) := dget daL_law_6 17 rfl
theorem dL_law_792 : decode cL_law 792 = .ok (.iconst 2, 1) := dget daL_law_6 18 rfl
theorem dL_law_793 : decode cL_law 793 = .ok (.iadd, 1) := dget daL_law_6 19 rfl
theorem dL_law_794 : decode cL_law 794 = .ok (.iaload, 1) := dget daL_law_6 20 rfl
theorem dL_law_795 : decode cL_law 795 = .ok (.invokevirtual 74, 3) := dget daL_law_6 21 rfl
theorem dL_law_798 : decode cL_law 798 = .ok (.aload_n 2, 1) := dget daL_law_6 22 rfl
theorem dL_law_799 : decode cL_law 799 = .ok (.aload_n 0, 1) := dget daL_law_6 23 rfl
theorem dL_law_800 : decode cL_law 800 = .ok (.iload_n 3, 1) := dget daL_law_6 24 rfl
theorem dL_law_801 : decode cL_law 801 = .ok (.iconst 1, 1) := dget daL_law_6 25 rfl
theorem dL_law_802 : decode cL_law 802 = .ok (.iadd, 1) := dget daL_law_6 26 rfl
theorem dL_law_803 : decode cL_law 803 = .ok (.iaload, 1) := dget daL_law_6 27 rfl
theorem dL_law_804 : decode cL_law 804 = .ok (.aload_n 0, 1) := dget daL_law_6 28 rfl
theorem dL_law_805 : decode cL_law 805 = .ok (.iload_n 3, 1) := dget daL_law_6 29 rfl
theorem dL_law_806 : decode cL_law 806 = .ok (.iconst 2, 1) := dget daL_law_6 30 rfl
theorem dL_law_807 : decode cL_law 807 = .ok (.iadd, 1) := dget daL_law_6 31 rfl
theorem dL_law_808 : decode cL_law 808 = .ok (.iaload, 1) := dget daL_law_6 32 rfl
theorem dL_law_809 : decode cL_law 809 = .ok (.invokevirtual 77, 3) := dget daL_law_6 33 rfl
theorem dL_law_812 : decode cL_law 812 = .ok (.if_icmp .eq 1800, 3) := dget daL_law_6 34 rfl
theorem dL_law_815 : decode cL_law 815 = .ok (.iconst 0, 1) := dget daL_law_6 35 rfl
theorem dL_law_816 : decode cL_law 816 = .ok (.ireturn, 1) := dget daL_law_6 36 rfl
theorem dL_law_817 : decode cL_law 817 = .ok (.aload_n 1, 1) := dget daL_law_6 37 rfl
theorem dL_law_818 : decode cL_law 818 = .ok (.aload_n 0, 1) := dget daL_law_6 38 rfl
theorem dL_law_819 : decode cL_law 819 = .ok (.iload_n 3, 1) := dget daL_law_6 39 rfl
theorem dL_law_820 : decode cL_law 820 = .ok (.iconst 1, 1) := dget daL_law_6 40 rfl
theorem dL_law_821 : decode cL_law 821 = .ok (.iadd, 1) := dget daL_law_6 41 rfl
theorem dL_law_822 : decode cL_law 822 = .ok (.iaload, 1) := dget daL_law_6 42 rfl
theorem dL_law_823 : decode cL_law 823 = .ok (.aload_n 0, 1) := dget daL_law_6 43 rfl
theorem dL_law_824 : decode cL_law 824 = .ok (.iload_n 3, 1) := dget daL_law_6 44 rfl
theorem dL_law_825 : decode cL_law 825 = .ok (.iconst 2, 1) := dget daL_law_6 45 rfl
theorem dL_law_826 : decode cL_law 826 = .ok (.iadd, 1) := dget daL_law_6 46 rfl
theorem dL_law_827 : decode cL_law 827 = .ok (.iaload, 1) := dget daL_law_6 47 rfl
theorem dL_law_828 : decode cL_law 828 = .ok (.invokevirtual 78, 3) := dget daL_law_6 48 rfl
theorem dL_law_831 : decode cL_law 831 = .ok (.aload_n 2, 1) := dget daL_law_6 49 rfl
theorem dL_law_832 : decode cL_law 832 = .ok (.aload_n 0, 1) := dget daL_law_6 50 rfl
theorem dL_law_833 : decode cL_law 833 = .ok (.iload_n 3, 1) := dget daL_law_6 51 rfl
theorem dL_law_834 : decode cL_law 834 = .ok (.iconst 1, 1) := dget daL_law_6 52 rfl
theorem dL_law_835 : decode cL_law 835 = .ok (.iadd, 1) := dget daL_law_6 53 rfl
theorem dL_law_836 : decode cL_law 836 = .ok (.iaload, 1) := dget daL_law_6 54 rfl
theorem dL_law_837 : decode cL_law 837 = .ok (.aload_n 0, 1) := dget daL_law_6 55 rfl
theorem dL_law_838 : decode cL_law 838 = .ok (.iload_n 3, 1) := dget daL_law_6 56 rfl
theorem dL_law_839 : decode cL_law 839 = .ok (.iconst 2, 1) := dget daL_law_6 57 rfl
theorem dL_law_840 : decode cL_law 840 = .ok (.iadd, 1) := dget daL_law_6 58 rfl
theorem dL_law_841 : decode cL_law 841 = .ok (.iaload, 1) := dget daL_law_6 59 rfl
set_option maxRecDepth 100000 in
theorem daL_law_7 : dchk cL_law [(842, .invokevirtual 81, 3), (845, .if_icmp .eq 1767, 3), (848, .iconst 0, 1), (849, .ireturn, 1), (850, .aload_n 1, 1), (851, .aload_n 0, 1), (852, .iload_n 3, 1), (853, .iconst 1, 1), (854, .iadd, 1), (855, .iaload, 1), (856, .aload_n 0, 1), (857, .iload_n 3, 1), (858, .iconst 2, 1), (859, .iadd, 1), (860, .iaload, 1), (861, .invokevirtual 82, 3), (864, .aload_n 2, 1), (865, .aload_n 0, 1), (866, .iload_n 3, 1), (867, .iconst 1, 1), (868, .iadd, 1), (869, .iaload, 1), (870, .aload_n 0, 1), (871, .iload_n 3, 1), (872, .iconst 2, 1), (873, .iadd, 1), (874, .iaload, 1), (875, .invokevirtual 85, 3), (878, .if_icmp .eq 1734, 3), (881, .iconst 0, 1), (882, .ireturn, 1), (883, .aload_n 1, 1), (884, .aload_n 0, 1), (885, .iload_n 3, 1), (886, .iconst 1, 1), (887, .iadd, 1), (888, .iaload, 1), (889, .aload_n 0, 1), (890, .iload_n 3, 1), (891, .iconst 2, 1), (892, .iadd, 1), (893, .iaload, 1), (894, .invokevirtual 86, 3), (897, .aload_n 2, 1), (898, .aload_n 0, 1), (899, .iload_n 3, 1), (900, .iconst 1, 1), (901, .iadd, 1), (902, .iaload, 1), (903, .aload_n 0, 1), (904, .iload_n 3, 1), (905, .iconst 2, 1), (906, .iadd, 1), (907, .iaload, 1), (908, .invokevirtual 89, 3), (911, .if_icmp .eq 1701, 3), (914, .iconst 0, 1), (915, .ireturn, 1), (916, .aload_n 1, 1), (917, .aload_n 0, 1)] = true := by decide +kernel
theorem dL_law_842 : decode cL_law 842 = .ok (.invokevirtual 81, 3) := dget daL_law_7 0 rfl
theorem dL_law_845 : decode cL_law 845 = .ok (.if_icmp .eq 1767, 3) := dget daL_law_7 1 rfl
theorem dL_law_848 : decode cL_law 848 = .ok (.iconst 0, 1) := dget daL_law_7 2 rfl
theorem dL_law_849 : decode cL_law 849 = .ok (.ireturn, 1) := dget daL_law_7 3 rfl
theorem dL_law_850 : decode cL_law 850 = .ok (.aload_n 1, 1) := dget daL_law_7 4 rfl
theorem dL_law_851 : decode cL_law 851 = .ok (.aload_n 0, 1) := dget daL_law_7 5 rfl
theorem dL_law_852 : decode cL_law 852 = .ok (.iload_n 3, 1) := dget daL_law_7 6 rfl
theorem dL_law_853 : decode cL_law 853 = .ok (.iconst 1, 1) := dget daL_law_7 7 rfl
theorem dL_law_854 : decode cL_law 854 = .ok (.iadd, 1) := dget daL_law_7 8 rfl
theorem dL_law_855 : decode cL_law 855 = .ok (.iaload, 1) := dget daL_law_7 9 rfl
theorem dL_law_856 : decode cL_law 856 = .ok (.aload_n 0, 1) := dget daL_law_7 10 rfl
theorem dL_law_857 : decode cL_law 857 = .ok (.iload_n 3, 1) := dget daL_law_7 11 rfl
theorem dL_law_858 : decode cL_law 858 = .ok (.iconst 2, 1) := dget daL_law_7 12 rfl
theorem dL_law_859 : decode cL_law 859 = .ok (.iadd, 1) := dget daL_law_7 13 rfl
theorem dL_law_860 : decode cL_law 860 = .ok (.iaload, 1) := dget daL_law_7 14 rfl
theorem dL_law_861 : decode cL_law 861 = .ok (.invokevirtual 82, 3) := dget daL_law_7 15 rfl
theorem dL_law_864 : decode cL_law 864 = .ok (.aload_n 2, 1) := dget daL_law_7 16 rfl
theorem dL_law_865 : decode cL_law 865 = .ok (.aload_n 0, 1) := dget daL_law_7 17 rfl
theorem dL_law_866 : decode cL_law 866 = .ok (.iload_n 3, 1) := dget daL_law_7 18 rfl
theorem dL_law_867 : decode cL_law 867 = .ok (.iconst 1, 1) := dget daL_law_7 19 rfl
theorem dL_law_868 : decode cL_law 868 = .ok (.iadd, 1) := dget daL_law_7 20 rfl
theorem dL_law_869 : decode cL_law 869 = .ok (.iaload, 1) := dget daL_law_7 21 rfl
theorem dL_law_870 : decode cL_law 870 = .ok (.aload_n 0, 1) := dget daL_law_7 22 rfl
theorem dL_law_871 : decode cL_law 871 = .ok (.iload_n 3, 1) := dget daL_law_7 23 rfl
theorem dL_law_872 : decode cL_law 872 = .ok (.iconst 2, 1) := dget daL_law_7 24 rfl
theorem dL_law_873 : decode cL_law 873 = .ok (.iadd, 1) := dget daL_law_7 25 rfl
theorem dL_law_874 : decode cL_law 874 = .ok (.iaload, 1) := dget daL_law_7 26 rfl
theorem dL_law_875 : decode cL_law 875 = .ok (.invokevirtual 85, 3) := dget daL_law_7 27 rfl
theorem dL_law_878 : decode cL_law 878 = .ok (.if_icmp .eq 1734, 3) := dget daL_law_7 28 rfl
theorem dL_law_881 : decode cL_law 881 = .ok (.iconst 0, 1) := dget daL_law_7 29 rfl
theorem dL_law_882 : decode cL_law 882 = .ok (.ireturn, 1) := dget daL_law_7 30 rfl
theorem dL_law_883 : decode cL_law 883 = .ok (.aload_n 1, 1) := dget daL_law_7 31 rfl
theorem dL_law_884 : decode cL_law 884 = .ok (.aload_n 0, 1) := dget daL_law_7 32 rfl
theorem dL_law_885 : decode cL_law 885 = .ok (.iload_n 3, 1) := dget daL_law_7 33 rfl
theorem dL_law_886 : decode cL_law 886 = .ok (.iconst 1, 1) := dget daL_law_7 34 rfl
theorem dL_law_887 : decode cL_law 887 = .ok (.iadd, 1) := dget daL_law_7 35 rfl
theorem dL_law_888 : decode cL_law 888 = .ok (.iaload, 1) := dget daL_law_7 36 rfl
theorem dL_law_889 : decode cL_law 889 = .ok (.aload_n 0, 1) := dget daL_law_7 37 rfl
theorem dL_law_890 : decode cL_law 890 = .ok (.iload_n 3, 1) := dget daL_law_7 38 rfl
theorem dL_law_891 : decode cL_law 891 = .ok (.iconst 2, 1) := dget daL_law_7 39 rfl
theorem dL_law_892 : decode cL_law 892 = .ok (.iadd, 1) := dget daL_law_7 40 rfl
theorem dL_law_893 : decode cL_law 893 = .ok (.iaload, 1) := dget daL_law_7 41 rfl
theorem dL_law_894 : decode cL_law 894 = .ok (.invokevirtual 86, 3) := dget daL_law_7 42 rfl
theorem dL_law_897 : decode cL_law 897 = .ok (.aload_n 2, 1) := dget daL_law_7 43 rfl
theorem dL_law_898 : decode cL_law 898 = .ok (.aload_n 0, 1) := dget daL_law_7 44 rfl
theorem dL_law_899 : decode cL_law 899 = .ok (.iload_n 3, 1) := dget daL_law_7 45 rfl
theorem dL_law_900 : decode cL_law 900 = .ok (.iconst 1, 1) := dget daL_law_7 46 rfl
theorem dL_law_901 : decode cL_law 901 = .ok (.iadd, 1) := dget daL_law_7 47 rfl
theorem dL_law_902 : decode cL_law 902 = .ok (.iaload, 1) := dget daL_law_7 48 rfl
theorem dL_law_903 : decode cL_law 903 = .ok (.aload_n 0, 1) := dget daL_law_7 49 rfl
theorem dL_law_904 : decode cL_law 904 = .ok (.iload_n 3, 1) := dget daL_law_7 50 rfl
theorem dL_law_905 : decode cL_law 905 = .ok (.iconst 2, 1) := dget daL_law_7 51 rfl
theorem dL_law_906 : decode cL_law 906 = .ok (.iadd, 1) := dget daL_law_7 52 rfl
theorem dL_law_907 : decode cL_law 907 = .ok (.iaload, 1) := dget daL_law_7 53 rfl
theorem dL_law_908 : decode cL_law 908 = .ok (.invokevirtual 89, 3) := dget daL_law_7 54 rfl
theorem dL_law_911 : decode cL_law 911 = .ok (.if_icmp .eq 1701, 3) := dget daL_law_7 55 rfl
theorem dL_law_914 : decode cL_law 914 = .ok (.iconst 0, 1) := dget daL_law_7 56 rfl
theorem dL_law_915 : decode cL_law 915 = .ok (.ireturn, 1) := dget daL_law_7 57 rfl
theorem dL_law_916 : decode cL_law 916 = .ok (.aload_n 1, 1) := dget daL_law_7 58 rfl
theorem dL_law_917 : decode cL_law 917 = .ok (.aload_n 0, 1) := dget daL_law_7 59 rfl
set_option maxRecDepth 100000 in
theorem daL_law_8 : dchk cL_law [(918, .iload_n 3, 1), (919, .iconst 1, 1), (920, .iadd, 1), (921, .iaload, 1), (922, .aload_n 0, 1), (923, .iload_n 3, 1), (924, .iconst 2, 1), (925, .iadd, 1), (926, .iaload, 1), (927, .invokevirtual 90, 3), (930, .aload_n 2, 1), (931, .aload_n 0, 1), (932, .iload_n 3, 1), (933, .iconst 1, 1), (934, .iadd, 1), (935, .iaload, 1), (936, .aload_n 0, 1), (937, .iload_n 3, 1), (938, .iconst 2, 1), (939, .iadd, 1), (940, .iaload, 1), (941, .invokevirtual 93, 3), (944, .if_icmp .eq 1668, 3), (947, .iconst 0, 1), (948, .ireturn, 1), (949, .aload_n 1, 1), (950, .aload_n 0, 1), (951, .iload_n 3, 1), (952, .iconst 1, 1), (953, .iadd, 1), (954, .iaload, 1), (955, .aload_n 0, 1), (956, .iload_n 3, 1), (957, .iconst 2, 1), (958, .iadd, 1), (959, .iaload, 1), (960, .invokevirtual 94, 3), (963, .aload_n 2, 1), (964, .aload_n 0, 1), (965, .iload_n 3, 1), (966, .iconst 1, 1), (967, .iadd, 1), (968, .iaload, 1), (969, .aload_n 0, 1), (970, .iload_n 3, 1), (971, .iconst 2, 1), (972, .iadd, 1), (973, .iaload, 1), (974, .invokevirtual 97, 3), (977, .if_icmp .eq 1635, 3), (980, .iconst 0, 1), (981, .ireturn, 1), (982, .aload_n 1, 1), (983, .aload_n 0, 1), (984, .iload_n 3, 1), (985, .iconst 1, 1), (986, .iadd, 1), (987, .iaload, 1), (988, .invokevirtual 98, 3), (991, .aload_n 2, 1)] = true := by decide +kernel
theorem dL_law_918 : decode cL_law 918 = .ok (.iload_n 3, 1) := dget daL_law_8 0 rfl
theorem dL_law_919 : decode cL_law 919 = .ok (.iconst 1, 1) := dget daL_law_8 1 rfl
theorem dL_law_920 : decode cL_law 920 = .ok (.iadd, 1) := dget daL_law_8 2 rfl
theorem dL_law_921 : decode cL_law 921 = .ok (.iaload, 1) := dget daL_law_8 3 rfl
theorem dL_law_922 : decode cL_law 922 = .ok (.aload_n 0, 1) := dget daL_law_8 4 rfl
theorem dL_law_923 : decode cL_law 923 = .ok (.iload_n 3, 1) := dget daL_law_8 5 rfl
theorem dL_law_924 : decode cL_law 924 = .ok (.iconst 2, 1) := dget daL_law_8 6 rfl
theorem dL_law_925 : decode cL_law 925 = .ok (.iadd, 1) := dget daL_law_8 7 rfl
theorem dL_law_926 : decode cL_law 926 = .ok (.iaload, 1) := dget daL_law_8 8 rfl
theorem dL_law_927 : decode cL_law 927 = .ok (.invokevirtual 90, 3) := dget daL_law_8 9 rfl
theorem dL_law_930 : decode cL_law 930 = .ok (.aload_n 2, 1) := dget daL_law_8 10 rfl
theorem dL_law_931 : decode cL_law 931 = .ok (.aload_n 0, 1) := dget daL_law_8 11 rfl
theorem dL_law_932 : decode cL_law 932 = .ok (.iload_n 3, 1) := dget daL_law_8 12 rfl
theorem dL_law_933 : decode cL_law 933 = .ok (.iconst 1, 1) := dget daL_law_8 13 rfl
theorem dL_law_934 : decode cL_law 934 = .ok (.iadd, 1) := dget daL_law_8 14 rfl
theorem dL_law_935 : decode cL_law 935 = .ok (.iaload, 1) := dget daL_law_8 15 rfl
theorem dL_law_936 : decode cL_law 936 = .ok (.aload_n 0, 1) := dget daL_law_8 16 rfl
theorem dL_law_937 : decode cL_law 937 = .ok (.iload_n 3, 1) := dget daL_law_8 17 rfl
theorem dL_law_938 : decode cL_law 938 = .ok (.iconst 2, 1) := dget daL_law_8 18 rfl
theorem dL_law_939 : decode cL_law 939 = .ok (.iadd, 1) := dget daL_law_8 19 rfl
theorem dL_law_940 : decode cL_law 940 = .ok (.iaload, 1) := dget daL_law_8 20 rfl
theorem dL_law_941 : decode cL_law 941 = .ok (.invokevirtual 93, 3) := dget daL_law_8 21 rfl
theorem dL_law_944 : decode cL_law 944 = .ok (.if_icmp .eq 1668, 3) := dget daL_law_8 22 rfl
theorem dL_law_947 : decode cL_law 947 = .ok (.iconst 0, 1) := dget daL_law_8 23 rfl
theorem dL_law_948 : decode cL_law 948 = .ok (.ireturn, 1) := dget daL_law_8 24 rfl
theorem dL_law_949 : decode cL_law 949 = .ok (.aload_n 1, 1) := dget daL_law_8 25 rfl
theorem dL_law_950 : decode cL_law 950 = .ok (.aload_n 0, 1) := dget daL_law_8 26 rfl
theorem dL_law_951 : decode cL_law 951 = .ok (.iload_n 3, 1) := dget daL_law_8 27 rfl
theorem dL_law_952 : decode cL_law 952 = .ok (.iconst 1, 1) := dget daL_law_8 28 rfl
theorem dL_law_953 : decode cL_law 953 = .ok (.iadd, 1) := dget daL_law_8 29 rfl
theorem dL_law_954 : decode cL_law 954 = .ok (.iaload, 1) := dget daL_law_8 30 rfl
theorem dL_law_955 : decode cL_law 955 = .ok (.aload_n 0, 1) := dget daL_law_8 31 rfl
theorem dL_law_956 : decode cL_law 956 = .ok (.iload_n 3, 1) := dget daL_law_8 32 rfl
theorem dL_law_957 : decode cL_law 957 = .ok (.iconst 2, 1) := dget daL_law_8 33 rfl
theorem dL_law_958 : decode cL_law 958 = .ok (.iadd, 1) := dget daL_law_8 34 rfl
theorem dL_law_959 : decode cL_law 959 = .ok (.iaload, 1) := dget daL_law_8 35 rfl
theorem dL_law_960 : decode cL_law 960 = .ok (.invokevirtual 94, 3) := dget daL_law_8 36 rfl
theorem dL_law_963 : decode cL_law 963 = .ok (.aload_n 2, 1) := dget daL_law_8 37 rfl
theorem dL_law_964 : decode cL_law 964 = .ok (.aload_n 0, 1) := dget daL_law_8 38 rfl
theorem dL_law_965 : decode cL_law 965 = .ok (.iload_n 3, 1) := dget daL_law_8 39 rfl
theorem dL_law_966 : decode cL_law 966 = .ok (.iconst 1, 1) := dget daL_law_8 40 rfl
theorem dL_law_967 : decode cL_law 967 = .ok (.iadd, 1) := dget daL_law_8 41 rfl
theorem dL_law_968 : decode cL_law 968 = .ok (.iaload, 1) := dget daL_law_8 42 rfl
theorem dL_law_969 : decode cL_law 969 = .ok (.aload_n 0, 1) := dget daL_law_8 43 rfl
theorem dL_law_970 : decode cL_law 970 = .ok (.iload_n 3, 1) := dget daL_law_8 44 rfl
theorem dL_law_971 : decode cL_law 971 = .ok (.iconst 2, 1) := dget daL_law_8 45 rfl
theorem dL_law_972 : decode cL_law 972 = .ok (.iadd, 1) := dget daL_law_8 46 rfl
theorem dL_law_973 : decode cL_law 973 = .ok (.iaload, 1) := dget daL_law_8 47 rfl
theorem dL_law_974 : decode cL_law 974 = .ok (.invokevirtual 97, 3) := dget daL_law_8 48 rfl
theorem dL_law_977 : decode cL_law 977 = .ok (.if_icmp .eq 1635, 3) := dget daL_law_8 49 rfl
theorem dL_law_980 : decode cL_law 980 = .ok (.iconst 0, 1) := dget daL_law_8 50 rfl
theorem dL_law_981 : decode cL_law 981 = .ok (.ireturn, 1) := dget daL_law_8 51 rfl
theorem dL_law_982 : decode cL_law 982 = .ok (.aload_n 1, 1) := dget daL_law_8 52 rfl
theorem dL_law_983 : decode cL_law 983 = .ok (.aload_n 0, 1) := dget daL_law_8 53 rfl
theorem dL_law_984 : decode cL_law 984 = .ok (.iload_n 3, 1) := dget daL_law_8 54 rfl
theorem dL_law_985 : decode cL_law 985 = .ok (.iconst 1, 1) := dget daL_law_8 55 rfl
theorem dL_law_986 : decode cL_law 986 = .ok (.iadd, 1) := dget daL_law_8 56 rfl
theorem dL_law_987 : decode cL_law 987 = .ok (.iaload, 1) := dget daL_law_8 57 rfl
theorem dL_law_988 : decode cL_law 988 = .ok (.invokevirtual 98, 3) := dget daL_law_8 58 rfl
theorem dL_law_991 : decode cL_law 991 = .ok (.aload_n 2, 1) := dget daL_law_8 59 rfl
set_option maxRecDepth 100000 in
theorem daL_law_9 : dchk cL_law [(992, .aload_n 0, 1), (993, .iload_n 3, 1), (994, .iconst 1, 1), (995, .iadd, 1), (996, .iaload, 1), (997, .invokevirtual 101, 3), (1000, .if_icmp .eq 1612, 3), (1003, .iconst 0, 1), (1004, .ireturn, 1), (1005, .aload_n 1, 1), (1006, .aload_n 0, 1), (1007, .iload_n 3, 1), (1008, .iconst 1, 1), (1009, .iadd, 1), (1010, .iaload, 1), (1011, .aload_n 0, 1), (1012, .iload_n 3, 1), (1013, .iconst 2, 1), (1014, .iadd, 1), (1015, .iaload, 1), (1016, .invokevirtual 102, 3), (1019, .aload_n 2, 1), (1020, .aload_n 0, 1), (1021, .iload_n 3, 1), (1022, .iconst 1, 1), (1023, .iadd, 1), (1024, .iaload, 1), (1025, .aload_n 0, 1), (1026, .iload_n 3, 1), (1027, .iconst 2, 1), (1028, .iadd, 1), (1029, .iaload, 1), (1030, .invokevirtual 105, 3), (1033, .if_icmp .eq 1579, 3), (1036, .iconst 0, 1), (1037, .ireturn, 1), (1038, .aload_n 1, 1), (1039, .aload_n 0, 1), (1040, .iload_n 3, 1), (1041, .iconst 1, 1), (1042, .iadd, 1), (1043, .iaload, 1), (1044, .invokevirtual 106, 3), (1047, .aload_n 2, 1), (1048, .aload_n 0, 1), (1049, .iload_n 3, 1), (1050, .iconst 1, 1), (1051, .iadd, 1), (1052, .iaload, 1), (1053, .invokevirtual 109, 3), (1056, .if_icmp .eq 1556, 3), (1059, .iconst 0, 1), (1060, .ireturn, 1), (1061, .aload_n 1, 1), (1062, .aload_n 0, 1), (1063, .iload_n 3, 1), (1064, .iconst 1, 1), (1065, .iadd, 1), (1066, .iaload, 1), (1067, .aload_n 0, 1)] = true := by decide +kernel
theorem dL_law_992 : decode cL_law 992 = .ok (.aload_n 0, 1) := dget daL_law_9 0 rfl
theorem dL_law_993 : decode cL_law 993 = .ok (.iload_n 3, 1) := dget daL_law_9 1 rfl
theorem dL_law_994 : decode cL_law 994 = .ok (.iconst 1, 1) := dget daL_law_9 2 rfl
theorem dL_law_995 : decode cL_law 995 = .ok (.iadd, 1) := dget daL_law_9 3 rfl
theorem dL_law_996 : decode cL_law 996 = .ok (.iaload, 1) := dget daL_law_9 4 rfl
theorem dL_law_997 : decode cL_law 997 = .ok (.invokevirtual 101, 3) := dget daL_law_9 5 rfl
theorem dL_law_1000 : decode cL_law 1000 = .ok (.if_icmp .eq 1612, 3) := dget daL_law_9 6 rfl
theorem dL_law_1003 : decode cL_law 1003 = .ok (.iconst 0, 1) := dget daL_law_9 7 rfl
theorem dL_law_1004 : decode cL_law 1004 = .ok (.ireturn, 1) := dget daL_law_9 8 rfl
theorem dL_law_1005 : decode cL_law 1005 = .ok (.aload_n 1, 1) := dget daL_law_9 9 rfl
theorem dL_law_1006 : decode cL_law 1006 = .ok (.aload_n 0, 1) := dget daL_law_9 10 rfl
theorem dL_law_1007 : decode cL_law 1007 = .ok (.iload_n 3, 1) := dget daL_law_9 11 rfl
theorem dL_law_1008 : decode cL_law 1008 = .ok (.iconst 1, 1) := dget daL_law_9 12 rfl
theorem dL_law_1009 : decode cL_law 1009 = .ok (.iadd, 1) := dget daL_law_9 13 rfl
theorem dL_law_1010 : decode cL_law 1010 = .ok (.iaload, 1) := dget daL_law_9 14 rfl
theorem dL_law_1011 : decode cL_law 1011 = .ok (.aload_n 0, 1) := dget daL_law_9 15 rfl
theorem dL_law_1012 : decode cL_law 1012 = .ok (.iload_n 3, 1) := dget daL_law_9 16 rfl
theorem dL_law_1013 : decode cL_law 1013 = .ok (.iconst 2, 1) := dget daL_law_9 17 rfl
theorem dL_law_1014 : decode cL_law 1014 = .ok (.iadd, 1) := dget daL_law_9 18 rfl
theorem dL_law_1015 : decode cL_law 1015 = .ok (.iaload, 1) := dget daL_law_9 19 rfl
theorem dL_law_1016 : decode cL_law 1016 = .ok (.invokevirtual 102, 3) := dget daL_law_9 20 rfl
theorem dL_law_1019 : decode cL_law 1019 = .ok (.aload_n 2, 1) := dget daL_law_9 21 rfl
theorem dL_law_1020 : decode cL_law 1020 = .ok (.aload_n 0, 1) := dget daL_law_9 22 rfl
theorem dL_law_1021 : decode cL_law 1021 = .ok (.iload_n 3, 1) := dget daL_law_9 23 rfl
theorem dL_law_1022 : decode cL_law 1022 = .ok (.iconst 1, 1) := dget daL_law_9 24 rfl
theorem dL_law_1023 : decode cL_law 1023 = .ok (.iadd, 1) := dget daL_law_9 25 rfl
theorem dL_law_1024 : decode cL_law 1024 = .ok (.iaload, 1) := dget daL_law_9 26 rfl
theorem dL_law_1025 : decode cL_law 1025 = .ok (.aload_n 0, 1) := dget daL_law_9 27 rfl
theorem dL_law_1026 : decode cL_law 1026 = .ok (.iload_n 3, 1) := dget daL_law_9 28 rfl
theorem dL_law_1027 : decode cL_law 1027 = .ok (.iconst 2, 1) := dget daL_law_9 29 rfl
theorem dL_law_1028 : decode cL_law 1028 = .ok (.iadd, 1) := dget daL_law_9 30 rfl
theorem dL_law_1029 : decode cL_law 1029 = .ok (.iaload, 1) := dget daL_law_9 31 rfl
theorem dL_law_1030 : decode cL_law 1030 = .ok (.invokevirtual 105, 3) := dget daL_law_9 32 rfl
theorem dL_law_1033 : decode cL_law 1033 = .ok (.if_icmp .eq 1579, 3) := dget daL_law_9 33 rfl
theorem dL_law_1036 : decode cL_law 1036 = .ok (.iconst 0, 1) := dget daL_law_9 34 rfl
theorem dL_law_1037 : decode cL_law 1037 = .ok (.ireturn, 1) := dget daL_law_9 35 rfl
theorem dL_law_1038 : decode cL_law 1038 = .ok (.aload_n 1, 1) := dget daL_law_9 36 rfl
theorem dL_law_1039 : decode cL_law 1039 = .ok (.aload_n 0, 1) := dget daL_law_9 37 rfl
theorem dL_law_1040 : decode cL_law 1040 = .ok (.iload_n 3, 1) := dget daL_law_9 38 rfl
theorem dL_law_1041 : decode cL_law 1041 = .ok (.iconst 1, 1) := dget daL_law_9 39 rfl
theorem dL_law_1042 : decode cL_law 1042 = .ok (.iadd, 1) := dget daL_law_9 40 rfl
theorem dL_law_1043 : decode cL_law 1043 = .ok (.iaload, 1) := dget daL_law_9 41 rfl
theorem dL_law_1044 : decode cL_law 1044 = .ok (.invokevirtual 106, 3) := dget daL_law_9 42 rfl
theorem dL_law_1047 : decode cL_law 1047 = .ok (.aload_n 2, 1) := dget daL_law_9 43 rfl
theorem dL_law_1048 : decode cL_law 1048 = .ok (.aload_n 0, 1) := dget daL_law_9 44 rfl
theorem dL_law_1049 : decode cL_law 1049 = .ok (.iload_n 3, 1) := dget daL_law_9 45 rfl
theorem dL_law_1050 : decode cL_law 1050 = .ok (.iconst 1, 1) := dget daL_law_9 46 rfl
theorem dL_law_1051 : decode cL_law 1051 = .ok (.iadd, 1) := dget daL_law_9 47 rfl
theorem dL_law_1052 : decode cL_law 1052 = .ok (.iaload, 1) := dget daL_law_9 48 rfl
theorem dL_law_1053 : decode cL_law 1053 = .ok (.invokevirtual 109, 3) := dget daL_law_9 49 rfl
theorem dL_law_1056 : decode cL_law 1056 = .ok (.if_icmp .eq 1556, 3) := dget daL_law_9 50 rfl
theorem dL_law_1059 : decode cL_law 1059 = .ok (.iconst 0, 1) := dget daL_law_9 51 rfl
theorem dL_law_1060 : decode cL_law 1060 = .ok (.ireturn, 1) := dget daL_law_9 52 rfl
theorem dL_law_1061 : decode cL_law 1061 = .ok (.aload_n 1, 1) := dget daL_law_9 53 rfl
theorem dL_law_1062 : decode cL_law 1062 = .ok (.aload_n 0, 1) := dget daL_law_9 54 rfl
theorem dL_law_1063 : decode cL_law 1063 = .ok (.iload_n 3, 1) := dget daL_law_9 55 rfl
theorem dL_law_1064 : decode cL_law 1064 = .ok (.iconst 1, 1) := dget daL_law_9 56 rfl
theorem dL_law_1065 : decode cL_law 1065 = .ok (.iadd, 1) := dget daL_law_9 57 rfl
theorem dL_law_1066 : decode cL_law 1066 = .ok (.iaload, 1) := dget daL_law_9 58 rfl
theorem dL_law_1067 : decode cL_law 1067 = .ok (.aload_n 0, 1) := dget daL_law_9 59 rfl
set_option maxRecDepth 100000 in
theorem daL_law_10 : dchk cL_law [(1068, .iload_n 3, 1), (1069, .iconst 2, 1), (1070, .iadd, 1), (1071, .iaload, 1), (1072, .invokevirtual 110, 3), (1075, .aload_n 2, 1), (1076, .aload_n 0, 1), (1077, .iload_n 3, 1), (1078, .iconst 1, 1), (1079, .iadd, 1), (1080, .iaload, 1), (1081, .aload_n 0, 1), (1082, .iload_n 3, 1), (1083, .iconst 2, 1), (1084, .iadd, 1), (1085, .iaload, 1), (1086, .invokevirtual 113, 3), (1089, .if_icmp .eq 1523, 3), (1092, .iconst 0, 1), (1093, .ireturn, 1), (1094, .aload_n 1, 1), (1095, .aload_n 0, 1), (1096, .iload_n 3, 1), (1097, .iconst 1, 1), (1098, .iadd, 1), (1099, .iaload, 1), (1100, .invokevirtual 114, 3), (1103, .aload_n 2, 1), (1104, .aload_n 0, 1), (1105, .iload_n 3, 1), (1106, .iconst 1, 1), (1107, .iadd, 1), (1108, .iaload, 1), (1109, .invokevirtual 117, 3), (1112, .if_icmp .eq 1500, 3), (1115, .iconst 0, 1), (1116, .ireturn, 1), (1117, .aload_n 1, 1), (1118, .aload_n 0, 1), (1119, .iload_n 3, 1), (1120, .iconst 1, 1), (1121, .iadd, 1), (1122, .iaload, 1), (1123, .invokevirtual 118, 3), (1126, .aload_n 2, 1), (1127, .aload_n 0, 1), (1128, .iload_n 3, 1), (1129, .iconst 1, 1), (1130, .iadd, 1), (1131, .iaload, 1), (1132, .invokevirtual 121, 3), (1135, .if_icmp .eq 1477, 3), (1138, .iconst 0, 1), (1139, .ireturn, 1), (1140, .aload_n 1, 1), (1141, .invokevirtual 122, 3), (1144, .aload_n 2, 1), (1145, .invokevirtual 125, 3), (1148, .if_icmp .eq 1464, 3), (1151, .iconst 0, 1)] = true := by decide +kernel
theorem dL_law_1068 : decode cL_law 1068 = .ok (.iload_n 3, 1) := dget daL_law_10 0 rfl
theorem dL_law_1069 : decode cL_law 1069 = .ok (.iconst 2, 1) := dget daL_law_10 1 rfl
theorem dL_law_1070 : decode cL_law 1070 = .ok (.iadd, 1) := dget daL_law_10 2 rfl
theorem dL_law_1071 : decode cL_law 1071 = .ok (.iaload, 1) := dget daL_law_10 3 rfl
theorem dL_law_1072 : decode cL_law 1072 = .ok (.invokevirtual 110, 3) := dget daL_law_10 4 rfl
theorem dL_law_1075 : decode cL_law 1075 = .ok (.aload_n 2, 1) := dget daL_law_10 5 rfl
theorem dL_law_1076 : decode cL_law 1076 = .ok (.aload_n 0, 1) := dget daL_law_10 6 rfl
theorem dL_law_1077 : decode cL_law 1077 = .ok (.iload_n 3, 1) := dget daL_law_10 7 rfl
theorem dL_law_1078 : decode cL_law 1078 = .ok (.iconst 1, 1) := dget daL_law_10 8 rfl
theorem dL_law_1079 : decode cL_law 1079 = .ok (.iadd, 1) := dget daL_law_10 9 rfl
theorem dL_law_1080 : decode cL_law 1080 = .ok (.iaload, 1) := dget daL_law_10 10 rfl
theorem dL_law_1081 : decode cL_law 1081 = .ok (.aload_n 0, 1) := dget daL_law_10 11 rfl
theorem dL_law_1082 : decode cL_law 1082 = .ok (.iload_n 3, 1) := dget daL_law_10 12 rfl
theorem dL_law_1083 : decode cL_law 1083 = .ok (.iconst 2, 1) := dget daL_law_10 13 rfl
theorem dL_law_1084 : decode cL_law 1084 = .ok (.iadd, 1) := dget daL_law_10 14 rfl
theorem dL_law_1085 : decode cL_law 1085 = .ok (.iaload, 1) := dget daL_law_10 15 rfl
theorem dL_law_1086 : decode cL_law 1086 = .ok (.invokevirtual 113, 3) := dget daL_law_10 16 rfl
theorem dL_law_1089 : decode cL_law 1089 = .ok (.if_icmp .eq 1523, 3) := dget daL_law_10 17 rfl
theorem dL_law_1092 : decode cL_law 1092 = .ok (.iconst 0, 1) := dget daL_law_10 18 rfl
theorem dL_law_1093 : decode cL_law 1093 = .ok (.ireturn, 1) := dget daL_law_10 19 rfl
theorem dL_law_1094 : decode cL_law 1094 = .ok (.aload_n 1, 1) := dget daL_law_10 20 rfl
theorem dL_law_1095 : decode cL_law 1095 = .ok (.aload_n 0, 1) := dget daL_law_10 21 rfl
theorem dL_law_1096 : decode cL_law 1096 = .ok (.iload_n 3, 1) := dget daL_law_10 22 rfl
theorem dL_law_1097 : decode cL_law 1097 = .ok (.iconst 1, 1) := dget daL_law_10 23 rfl
theorem dL_law_1098 : decode cL_law 1098 = .ok (.iadd, 1) := dget daL_law_10 24 rfl
theorem dL_law_1099 : decode cL_law 1099 = .ok (.iaload, 1) := dget daL_law_10 25 rfl
theorem dL_law_1100 : decode cL_law 1100 = .ok (.invokevirtual 114, 3) := dget daL_law_10 26 rfl
theorem dL_law_1103 : decode cL_law 1103 = .ok (.aload_n 2, 1) := dget daL_law_10 27 rfl
theorem dL_law_1104 : decode cL_law 1104 = .ok (.aload_n 0, 1) := dget daL_law_10 28 rfl
theorem dL_law_1105 : decode cL_law 1105 = .ok (.iload_n 3, 1) := dget daL_law_10 29 rfl
theorem dL_law_1106 : decode cL_law 1106 = .ok (.iconst 1, 1) := dget daL_law_10 30 rfl
theorem dL_law_1107 : decode cL_law 1107 = .ok (.iadd, 1) := dget daL_law_10 31 rfl
theorem dL_law_1108 : decode cL_law 1108 = .ok (.iaload, 1) := dget daL_law_10 32 rfl
theorem dL_law_1109 : decode cL_law 1109 = .ok (.invokevirtual 117, 3) := dget daL_law_10 33 rfl
theorem dL_law_1112 : decode cL_law 1112 = .ok (.if_icmp .eq 1500, 3) := dget daL_law_10 34 rfl
theorem dL_law_1115 : decode cL_law 1115 = .ok (.iconst 0, 1) := dget daL_law_10 35 rfl
theorem dL_law_1116 : decode cL_law 1116 = .ok (.ireturn, 1) := dget daL_law_10 36 rfl
theorem dL_law_1117 : decode cL_law 1117 = .ok (.aload_n 1, 1) := dget daL_law_10 37 rfl
theorem dL_law_1118 : decode cL_law 1118 = .ok (.aload_n 0, 1) := dget daL_law_10 38 rfl
theorem dL_law_1119 : decode cL_law 1119 = .ok (.iload_n 3, 1) := dget daL_law_10 39 rfl
theorem dL_law_1120 : decode cL_law 1120 = .ok (.iconst 1, 1) := dget daL_law_10 40 rfl
theorem dL_law_1121 : decode cL_law 1121 = .ok (.iadd, 1) := dget daL_law_10 41 rfl
theorem dL_law_1122 : decode cL_law 1122 = .ok (.iaload, 1) := dget daL_law_10 42 rfl
theorem dL_law_1123 : decode cL_law 1123 = .ok (.invokevirtual 118, 3) := dget daL_law_10 43 rfl
theorem dL_law_1126 : decode cL_law 1126 = .ok (.aload_n 2, 1) := dget daL_law_10 44 rfl
theorem dL_law_1127 : decode cL_law 1127 = .ok (.aload_n 0, 1) := dget daL_law_10 45 rfl
theorem dL_law_1128 : decode cL_law 1128 = .ok (.iload_n 3, 1) := dget daL_law_10 46 rfl
theorem dL_law_1129 : decode cL_law 1129 = .ok (.iconst 1, 1) := dget daL_law_10 47 rfl
theorem dL_law_1130 : decode cL_law 1130 = .ok (.iadd, 1) := dget daL_law_10 48 rfl
theorem dL_law_1131 : decode cL_law 1131 = .ok (.iaload, 1) := dget daL_law_10 49 rfl
theorem dL_law_1132 : decode cL_law 1132 = .ok (.invokevirtual 121, 3) := dget daL_law_10 50 rfl
theorem dL_law_1135 : decode cL_law 1135 = .ok (.if_icmp .eq 1477, 3) := dget daL_law_10 51 rfl
theorem dL_law_1138 : decode cL_law 1138 = .ok (.iconst 0, 1) := dget daL_law_10 52 rfl
theorem dL_law_1139 : decode cL_law 1139 = .ok (.ireturn, 1) := dget daL_law_10 53 rfl
theorem dL_law_1140 : decode cL_law 1140 = .ok (.aload_n 1, 1) := dget daL_law_10 54 rfl
theorem dL_law_1141 : decode cL_law 1141 = .ok (.invokevirtual 122, 3) := dget daL_law_10 55 rfl
theorem dL_law_1144 : decode cL_law 1144 = .ok (.aload_n 2, 1) := dget daL_law_10 56 rfl
theorem dL_law_1145 : decode cL_law 1145 = .ok (.invokevirtual 125, 3) := dget daL_law_10 57 rfl
theorem dL_law_1148 : decode cL_law 1148 = .ok (.if_icmp .eq 1464, 3) := dget daL_law_10 58 rfl
theorem dL_law_1151 : decode cL_law 1151 = .ok (.iconst 0, 1) := dget daL_law_10 59 rfl
set_option maxRecDepth 100000 in
theorem daL_law_11 : dchk cL_law [(1152, .ireturn, 1), (1153, .aload_n 1, 1), (1154, .invokevirtual 126, 3), (1157, .aload_n 2, 1), (1158, .invokevirtual 129, 3), (1161, .if_icmp .eq 1451, 3), (1164, .iconst 0, 1), (1165, .ireturn, 1), (1166, .aload_n 1, 1), (1167, .aload_n 0, 1), (1168, .iload_n 3, 1), (1169, .iconst 1, 1), (1170, .iadd, 1), (1171, .iaload, 1), (1172, .invokevirtual 130, 3), (1175, .aload_n 2, 1), (1176, .aload_n 0, 1), (1177, .iload_n 3, 1), (1178, .iconst 1, 1), (1179, .iadd, 1), (1180, .iaload, 1), (1181, .invokevirtual 133, 3), (1184, .if_icmp .eq 1428, 3), (1187, .iconst 0, 1), (1188, .ireturn, 1), (1189, .aload_n 1, 1), (1190, .invokevirtual 134, 3), (1193, .aload_n 2, 1), (1194, .invokevirtual 137, 3), (1197, .if_icmp .eq 1415, 3), (1200, .iconst 0, 1), (1201, .ireturn, 1), (1202, .aload_n 1, 1), (1203, .aload_n 0, 1), (1204, .iload_n 3, 1), (1205, .iconst 1, 1), (1206, .iadd, 1), (1207, .iaload, 1), (1208, .invokevirtual 138, 3), (1211, .aload_n 2, 1), (1212, .aload_n 0, 1), (1213, .iload_n 3, 1), (1214, .iconst 1, 1), (1215, .iadd, 1), (1216, .iaload, 1), (1217, .invokevirtual 141, 3), (1220, .if_icmp .eq 1392, 3), (1223, .iconst 0, 1), (1224, .ireturn, 1), (1225, .aload_n 1, 1), (1226, .invokevirtual 142, 3), (1229, .aload_n 2, 1), (1230, .invokevirtual 145, 3), (1233, .if_icmp .eq 1379, 3), (1236, .iconst 0, 1), (1237, .ireturn, 1), (1238, .aload_n 1, 1), (1239, .invokevirtual 146, 3), (1242, .aload_n 2, 1), (1243, .invokevirtual 149, 3)] = true := by decide +kernel
theorem dL_law_1152 : decode cL_law 1152 = .ok (.ireturn, 1) := dget daL_law_11 0 rfl
theorem dL_law_1153 : decode cL_law 1153 = .ok (.aload_n 1, 1) := dget daL_law_11 1 rfl
theorem dL_law_1154 : decode cL_law 1154 = .ok (.invokevirtual 126, 3) := dget daL_law_11 2 rfl
theorem dL_law_1157 : decode cL_law 1157 = .ok (.aload_n 2, 1) := dget daL_law_11 3 rfl
theorem dL_law_1158 : decode cL_law 1158 = .ok (.invokevirtual 129, 3) := dget daL_law_11 4 rfl
theorem dL_law_1161 : decode cL_law 1161 = .ok (.if_icmp .eq 1451, 3) := dget daL_law_11 5 rfl
theorem dL_law_1164 : decode cL_law 1164 = .ok (.iconst 0, 1) := dget daL_law_11 6 rfl
theorem dL_law_1165 : decode cL_law 1165 = .ok (.ireturn, 1) := dget daL_law_11 7 rfl
theorem dL_law_1166 : decode cL_law 1166 = .ok (.aload_n 1, 1) := dget daL_law_11 8 rfl
theorem dL_law_1167 : decode cL_law 1167 = .ok (.aload_n 0, 1) := dget daL_law_11 9 rfl
theorem dL_law_1168 : decode cL_law 1168 = .ok (.iload_n 3, 1) := dget daL_law_11 10 rfl
theorem dL_law_1169 : decode cL_law 1169 = .ok (.iconst 1, 1) := dget daL_law_11 11 rfl
theorem dL_law_1170 : decode cL_law 1170 = .ok (.iadd, 1) := dget daL_law_11 12 rfl
theorem dL_law_1171 : decode cL_law 1171 = .ok (.iaload, 1) := dget daL_law_11 13 rfl
theorem dL_law_1172 : decode cL_law 1172 = .ok (.invokevirtual 130, 3) := dget daL_law_11 14 rfl
theorem dL_law_1175 : decode cL_law 1175 = .ok (.aload_n 2, 1) := dget daL_law_11 15 rfl
theorem dL_law_1176 : decode cL_law 1176 = .ok (.aload_n 0, 1) := dget daL_law_11 16 rfl
theorem dL_law_1177 : decode cL_law 1177 = .ok (.iload_n 3, 1) := dget daL_law_11 17 rfl
theorem dL_law_1178 : decode cL_law 1178 = .ok (.iconst 1, 1) := dget daL_law_11 18 rfl
theorem dL_law_1179 : decode cL_law 1179 = .ok (.iadd, 1) := dget daL_law_11 19 rfl
theorem dL_law_1180 : decode cL_law 1180 = .ok (.iaload, 1) := dget daL_law_11 20 rfl
theorem dL_law_1181 : decode cL_law 1181 = .ok (.invokevirtual 133, 3) := dget daL_law_11 21 rfl
theorem dL_law_1184 : decode cL_law 1184 = .ok (.if_icmp .eq 1428, 3) := dget daL_law_11 22 rfl
theorem dL_law_1187 : decode cL_law 1187 = .ok (.iconst 0, 1) := dget daL_law_11 23 rfl
theorem dL_law_1188 : decode cL_law 1188 = .ok (.ireturn, 1) := dget daL_law_11 24 rfl
theorem dL_law_1189 : decode cL_law 1189 = .ok (.aload_n 1, 1) := dget daL_law_11 25 rfl
theorem dL_law_1190 : decode cL_law 1190 = .ok (.invokevirtual 134, 3) := dget daL_law_11 26 rfl
theorem dL_law_1193 : decode cL_law 1193 = .ok (.aload_n 2, 1) := dget daL_law_11 27 rfl
theorem dL_law_1194 : decode cL_law 1194 = .ok (.invokevirtual 137, 3) := dget daL_law_11 28 rfl
theorem dL_law_1197 : decode cL_law 1197 = .ok (.if_icmp .eq 1415, 3) := dget daL_law_11 29 rfl
theorem dL_law_1200 : decode cL_law 1200 = .ok (.iconst 0, 1) := dget daL_law_11 30 rfl
theorem dL_law_1201 : decode cL_law 1201 = .ok (.ireturn, 1) := dget daL_law_11 31 rfl
theorem dL_law_1202 : decode cL_law 1202 = .ok (.aload_n 1, 1) := dget daL_law_11 32 rfl
theorem dL_law_1203 : decode cL_law 1203 = .ok (.aload_n 0, 1) := dget daL_law_11 33 rfl
theorem dL_law_1204 : decode cL_law 1204 = .ok (.iload_n 3, 1) := dget daL_law_11 34 rfl
theorem dL_law_1205 : decode cL_law 1205 = .ok (.iconst 1, 1) := dget daL_law_11 35 rfl
theorem dL_law_1206 : decode cL_law 1206 = .ok (.iadd, 1) := dget daL_law_11 36 rfl
theorem dL_law_1207 : decode cL_law 1207 = .ok (.iaload, 1) := dget daL_law_11 37 rfl
theorem dL_law_1208 : decode cL_law 1208 = .ok (.invokevirtual 138, 3) := dget daL_law_11 38 rfl
theorem dL_law_1211 : decode cL_law 1211 = .ok (.aload_n 2, 1) := dget daL_law_11 39 rfl
theorem dL_law_1212 : decode cL_law 1212 = .ok (.aload_n 0, 1) := dget daL_law_11 40 rfl
theorem dL_law_1213 : decode cL_law 1213 = .ok (.iload_n 3, 1) := dget daL_law_11 41 rfl
theorem dL_law_1214 : decode cL_law 1214 = .ok (.iconst 1, 1) := dget daL_law_11 42 rfl
theorem dL_law_1215 : decode cL_law 1215 = .ok (.iadd, 1) := dget daL_law_11 43 rfl
theorem dL_law_1216 : decode cL_law 1216 = .ok (.iaload, 1) := dget daL_law_11 44 rfl
theorem dL_law_1217 : decode cL_law 1217 = .ok (.invokevirtual 141, 3) := dget daL_law_11 45 rfl
theorem dL_law_1220 : decode cL_law 1220 = .ok (.if_icmp .eq 1392, 3) := dget daL_law_11 46 rfl
theorem dL_law_1223 : decode cL_law 1223 = .ok (.iconst 0, 1) := dget daL_law_11 47 rfl
theorem dL_law_1224 : decode cL_law 1224 = .ok (.ireturn, 1) := dget daL_law_11 48 rfl
theorem dL_law_1225 : decode cL_law 1225 = .ok (.aload_n 1, 1) := dget daL_law_11 49 rfl
theorem dL_law_1226 : decode cL_law 1226 = .ok (.invokevirtual 142, 3) := dget daL_law_11 50 rfl
theorem dL_law_1229 : decode cL_law 1229 = .ok (.aload_n 2, 1) := dget daL_law_11 51 rfl
theorem dL_law_1230 : decode cL_law 1230 = .ok (.invokevirtual 145, 3) := dget daL_law_11 52 rfl
theorem dL_law_1233 : decode cL_law 1233 = .ok (.if_icmp .eq 1379, 3) := dget daL_law_11 53 rfl
theorem dL_law_1236 : decode cL_law 1236 = .ok (.iconst 0, 1) := dget daL_law_11 54 rfl
theorem dL_law_1237 : decode cL_law 1237 = .ok (.ireturn, 1) := dget daL_law_11 55 rfl
theorem dL_law_1238 : decode cL_law 1238 = .ok (.aload_n 1, 1) := dget daL_law_11 56 rfl
theorem dL_law_1239 : decode cL_law 1239 = .ok (.invokevirtual 146, 3) := dget daL_law_11 57 rfl
theorem dL_law_1242 : decode cL_law 1242 = .ok (.aload_n 2, 1) := dget daL_law_11 58 rfl
theorem dL_law_1243 : decode cL_law 1243 = .ok (.invokevirtual 149, 3) := dget daL_law_11 59 rfl
set_option maxRecDepth 100000 in
theorem daL_law_12 : dchk cL_law [(1246, .if_icmp .eq 1366, 3), (1249, .iconst 0, 1), (1250, .ireturn, 1), (1251, .aload_n 1, 1), (1252, .aload_n 0, 1), (1253, .iload_n 3, 1), (1254, .iconst 1, 1), (1255, .iadd, 1), (1256, .iaload, 1), (1257, .aload_n 0, 1), (1258, .iload_n 3, 1), (1259, .iconst 2, 1), (1260, .iadd, 1), (1261, .iaload, 1), (1262, .invokevirtual 150, 3), (1265, .aload_n 2, 1), (1266, .aload_n 0, 1), (1267, .iload_n 3, 1), (1268, .iconst 1, 1), (1269, .iadd, 1), (1270, .iaload, 1), (1271, .aload_n 0, 1), (1272, .iload_n 3, 1), (1273, .iconst 2, 1), (1274, .iadd, 1), (1275, .iaload, 1), (1276, .invokevirtual 153, 3), (1279, .if_icmp .eq 1333, 3), (1282, .iconst 0, 1), (1283, .ireturn, 1), (1284, .aload_n 1, 1), (1285, .aload_n 0, 1), (1286, .iload_n 3, 1), (1287, .iconst 1, 1), (1288, .iadd, 1), (1289, .iaload, 1), (1290, .aload_n 0, 1), (1291, .iload_n 3, 1), (1292, .iconst 2, 1), (1293, .iadd, 1), (1294, .iaload, 1), (1295, .invokevirtual 154, 3), (1298, .aload_n 2, 1), (1299, .aload_n 0, 1), (1300, .iload_n 3, 1), (1301, .iconst 1, 1), (1302, .iadd, 1), (1303, .iaload, 1), (1304, .aload_n 0, 1), (1305, .iload_n 3, 1), (1306, .iconst 2, 1), (1307, .iadd, 1), (1308, .iaload, 1), (1309, .invokevirtual 157, 3), (1312, .if_icmp .eq 1300, 3), (1315, .iconst 0, 1), (1316, .ireturn, 1), (1317, .aload_n 1, 1), (1318, .aload_n 0, 1), (1319, .iload_n 3, 1)] = true := by decide +kernel
theorem dL_law_1246 : decode cL_law 1246 = .ok (.if_icmp .eq 1366, 3) := dget daL_law_12 0 rfl
theorem dL_law_1249 : decode cL_law 1249 = .ok (.iconst 0, 1) := dget daL_law_12 1 rfl
theorem dL_law_1250 : decode cL_law 1250 = .ok (.ireturn, 1) := dget daL_law_12 2 rfl
theorem dL_law_1251 : decode cL_law 1251 = .ok (.aload_n 1, 1) := dget daL_law_12 3 rfl
theorem dL_law_1252 : decode cL_law 1252 = .ok (.aload_n 0, 1) := dget daL_law_12 4 rfl
theorem dL_law_1253 : decode cL_law 1253 = .ok (.iload_n 3, 1) := dget daL_law_12 5 rfl
theorem dL_law_1254 : decode cL_law 1254 = .ok (.iconst 1, 1) := dget daL_law_12 6 rfl
theorem dL_law_1255 : decode cL_law 1255 = .ok (.iadd, 1) := dget daL_law_12 7 rfl
theorem dL_law_1256 : decode cL_law 1256 = .ok (.iaload, 1) := dget daL_law_12 8 rfl
theorem dL_law_1257 : decode cL_law 1257 = .ok (.aload_n 0, 1) := dget daL_law_12 9 rfl
theorem dL_law_1258 : decode cL_law 1258 = .ok (.iload_n 3, 1) := dget daL_law_12 10 rfl
theorem dL_law_1259 : decode cL_law 1259 = .ok (.iconst 2, 1) := dget daL_law_12 11 rfl
theorem dL_law_1260 : decode cL_law 1260 = .ok (.iadd, 1) := dget daL_law_12 12 rfl
theorem dL_law_1261 : decode cL_law 1261 = .ok (.iaload, 1) := dget daL_law_12 13 rfl
theorem dL_law_1262 : decode cL_law 1262 = .ok (.invokevirtual 150, 3) := dget daL_law_12 14 rfl
theorem dL_law_1265 : decode cL_law 1265 = .ok (.aload_n 2, 1) := dget daL_law_12 15 rfl
theorem dL_law_1266 : decode cL_law 1266 = .ok (.aload_n 0, 1) := dget daL_law_12 16 rfl
theorem dL_law_1267 : decode cL_law 1267 = .ok (.iload_n 3, 1) := dget daL_law_12 17 rfl
theorem dL_law_1268 : decode cL_law 1268 = .ok (.iconst 1, 1) := dget daL_law_12 18 rfl
theorem dL_law_1269 : decode cL_law 1269 = .ok (.iadd, 1) := dget daL_law_12 19 rfl
theorem dL_law_1270 : decode cL_law 1270 = .ok (.iaload, 1) := dget daL_law_12 20 rfl
theorem dL_law_1271 : decode cL_law 1271 = .ok (.aload_n 0, 1) := dget daL_law_12 21 rfl
theorem dL_law_1272 : decode cL_law 1272 = .ok (.iload_n 3, 1) := dget daL_law_12 22 rfl
theorem dL_law_1273 : decode cL_law 1273 = .ok (.iconst 2, 1) := dget daL_law_12 23 rfl
theorem dL_law_1274 : decode cL_law 1274 = .ok (.iadd, 1) := dget daL_law_12 24 rfl
theorem dL_law_1275 : decode cL_law 1275 = .ok (.iaload, 1) := dget daL_law_12 25 rfl
theorem dL_law_1276 : decode cL_law 1276 = .ok (.invokevirtual 153, 3) := dget daL_law_12 26 rfl
theorem dL_law_1279 : decode cL_law 1279 = .ok (.if_icmp .eq 1333, 3) := dget daL_law_12 27 rfl
theorem dL_law_1282 : decode cL_law 1282 = .ok (.iconst 0, 1) := dget daL_law_12 28 rfl
theorem dL_law_1283 : decode cL_law 1283 = .ok (.ireturn, 1) := dget daL_law_12 29 rfl
theorem dL_law_1284 : decode cL_law 1284 = .ok (.aload_n 1, 1) := dget daL_law_12 30 rfl
theorem dL_law_1285 : decode cL_law 1285 = .ok (.aload_n 0, 1) := dget daL_law_12 31 rfl
theorem dL_law_1286 : decode cL_law 1286 = .ok (.iload_n 3, 1) := dget daL_law_12 32 rfl
theorem dL_law_1287 : decode cL_law 1287 = .ok (.iconst 1, 1) := dget daL_law_12 33 rfl
theorem dL_law_1288 : decode cL_law 1288 = .ok (.iadd, 1) := dget daL_law_12 34 rfl
theorem dL_law_1289 : decode cL_law 1289 = .ok (.iaload, 1) := dget daL_law_12 35 rfl
theorem dL_law_1290 : decode cL_law 1290 = .ok (.aload_n 0, 1) := dget daL_law_12 36 rfl
theorem dL_law_1291 : decode cL_law 1291 = .ok (.iload_n 3, 1) := dget daL_law_12 37 rfl
theorem dL_law_1292 : decode cL_law 1292 = .ok (.iconst 2, 1) := dget daL_law_12 38 rfl
theorem dL_law_1293 : decode cL_law 1293 = .ok (.iadd, 1) := dget daL_law_12 39 rfl
theorem dL_law_1294 : decode cL_law 1294 = .ok (.iaload, 1) := dget daL_law_12 40 rfl
theorem dL_law_1295 : decode cL_law 1295 = .ok (.invokevirtual 154, 3) := dget daL_law_12 41 rfl
theorem dL_law_1298 : decode cL_law 1298 = .ok (.aload_n 2, 1) := dget daL_law_12 42 rfl
theorem dL_law_1299 : decode cL_law 1299 = .ok (.aload_n 0, 1) := dget daL_law_12 43 rfl
theorem dL_law_1300 : decode cL_law 1300 = .ok (.iload_n 3, 1) := dget daL_law_12 44 rfl
theorem dL_law_1301 : decode cL_law 1301 = .ok (.iconst 1, 1) := dget daL_law_12 45 rfl
theorem dL_law_1302 : decode cL_law 1302 = .ok (.iadd, 1) := dget daL_law_12 46 rfl
theorem dL_law_1303 : decode cL_law 1303 = .ok (.iaload, 1) := dget daL_law_12 47 rfl
theorem dL_law_1304 : decode cL_law 1304 = .ok (.aload_n 0, 1) := dget daL_law_12 48 rfl
theorem dL_law_1305 : decode cL_law 1305 = .ok (.iload_n 3, 1) := dget daL_law_12 49 rfl
theorem dL_law_1306 : decode cL_law 1306 = .ok (.iconst 2, 1) := dget daL_law_12 50 rfl
theorem dL_law_1307 : decode cL_law 1307 = .ok (.iadd, 1) := dget daL_law_12 51 rfl
theorem dL_law_1308 : decode cL_law 1308 = .ok (.iaload, 1) := dget daL_law_12 52 rfl
theorem dL_law_1309 : decode cL_law 1309 = .ok (.invokevirtual 157, 3) := dget daL_law_12 53 rfl
theorem dL_law_1312 : decode cL_law 1312 = .ok (.if_icmp .eq 1300, 3) := dget daL_law_12 54 rfl
theorem dL_law_1315 : decode cL_law 1315 = .ok (.iconst 0, 1) := dget daL_law_12 55 rfl
theorem dL_law_1316 : decode cL_law 1316 = .ok (.ireturn, 1) := dget daL_law_12 56 rfl
theorem dL_law_1317 : decode cL_law 1317 = .ok (.aload_n 1, 1) := dget daL_law_12 57 rfl
theorem dL_law_1318 : decode cL_law 1318 = .ok (.aload_n 0, 1) := dget daL_law_12 58 rfl
theorem dL_law_1319 : decode cL_law 1319 = .ok (.iload_n 3, 1) := dget daL_law_12 59 rfl
set_option maxRecDepth 100000 in
theorem daL_law_13 : dchk cL_law [(1320, .iconst 1, 1), (1321, .iadd, 1), (1322, .iaload, 1), (1323, .aload_n 0, 1), (1324, .iload_n 3, 1), (1325, .iconst 2, 1), (1326, .iadd, 1), (1327, .iaload, 1), (1328, .invokevirtual 158, 3), (1331, .aload_n 2, 1), (1332, .aload_n 0, 1), (1333, .iload_n 3, 1), (1334, .iconst 1, 1), (1335, .iadd, 1), (1336, .iaload, 1), (1337, .aload_n 0, 1), (1338, .iload_n 3, 1), (1339, .iconst 2, 1), (1340, .iadd, 1), (1341, .iaload, 1), (1342, .invokevirtual 161, 3), (1345, .if_icmp .eq 1267, 3), (1348, .iconst 0, 1), (1349, .ireturn, 1), (1350, .aload_n 1, 1), (1351, .aload_n 0, 1), (1352, .iload_n 3, 1), (1353, .iconst 1, 1), (1354, .iadd, 1), (1355, .iaload, 1), (1356, .aload_n 0, 1), (1357, .iload_n 3, 1), (1358, .iconst 2, 1), (1359, .iadd, 1), (1360, .iaload, 1), (1361, .invokevirtual 162, 3), (1364, .aload_n 2, 1), (1365, .aload_n 0, 1), (1366, .iload_n 3, 1), (1367, .iconst 1, 1), (1368, .iadd, 1), (1369, .iaload, 1), (1370, .aload_n 0, 1), (1371, .iload_n 3, 1), (1372, .iconst 2, 1), (1373, .iadd, 1), (1374, .iaload, 1), (1375, .invokevirtual 165, 3), (1378, .if_icmp .eq 1234, 3), (1381, .iconst 0, 1), (1382, .ireturn, 1), (1383, .aload_n 1, 1), (1384, .aload_n 0, 1), (1385, .iload_n 3, 1), (1386, .iconst 1, 1), (1387, .iadd, 1), (1388, .iaload, 1), (1389, .invokevirtual 166, 3), (1392, .aload_n 2, 1), (1393, .aload_n 0, 1)] = true := by decide +kernel
theorem dL_law_1320 : decode cL_law 1320 = .ok (.iconst 1, 1) := dget daL_law_13 0 rfl
theorem dL_law_1321 : decode cL_law 1321 = .ok (.iadd, 1) := dget daL_law_13 1 rfl
theorem dL_law_1322 : decode cL_law 1322 = .ok (.iaload, 1) := dget daL_law_13 2 rfl
theorem dL_law_1323 : decode cL_law 1323 = .ok (.aload_n 0, 1) := dget daL_law_13 3 rfl
theorem dL_law_1324 : decode cL_law 1324 = .ok (.iload_n 3, 1) := dget daL_law_13 4 rfl
theorem dL_law_1325 : decode cL_law 1325 = .ok (.iconst 2, 1) := dget daL_law_13 5 rfl
theorem dL_law_1326 : decode cL_law 1326 = .ok (.iadd, 1) := dget daL_law_13 6 rfl
theorem dL_law_1327 : decode cL_law 1327 = .ok (.iaload, 1) := dget daL_law_13 7 rfl
theorem dL_law_1328 : decode cL_law 1328 = .ok (.invokevirtual 158, 3) := dget daL_law_13 8 rfl
theorem dL_law_1331 : decode cL_law 1331 = .ok (.aload_n 2, 1) := dget daL_law_13 9 rfl
theorem dL_law_1332 : decode cL_law 1332 = .ok (.aload_n 0, 1) := dget daL_law_13 10 rfl
theorem dL_law_1333 : decode cL_law 1333 = .ok (.iload_n 3, 1) := dget daL_law_13 11 rfl
theorem dL_law_1334 : decode cL_law 1334 = .ok (.iconst 1, 1) := dget daL_law_13 12 rfl
theorem dL_law_1335 : decode cL_law 1335 = .ok (.iadd, 1) := dget daL_law_13 13 rfl
theorem dL_law_1336 : decode cL_law 1336 = .ok (.iaload, 1) := dget daL_law_13 14 rfl
theorem dL_law_1337 : decode cL_law 1337 = .ok (.aload_n 0, 1) := dget daL_law_13 15 rfl
theorem dL_law_1338 : decode cL_law 1338 = .ok (.iload_n 3, 1) := dget daL_law_13 16 rfl
theorem dL_law_1339 : decode cL_law 1339 = .ok (.iconst 2, 1) := dget daL_law_13 17 rfl
theorem dL_law_1340 : decode cL_law 1340 = .ok (.iadd, 1) := dget daL_law_13 18 rfl
theorem dL_law_1341 : decode cL_law 1341 = .ok (.iaload, 1) := dget daL_law_13 19 rfl
theorem dL_law_1342 : decode cL_law 1342 = .ok (.invokevirtual 161, 3) := dget daL_law_13 20 rfl
theorem dL_law_1345 : decode cL_law 1345 = .ok (.if_icmp .eq 1267, 3) := dget daL_law_13 21 rfl
theorem dL_law_1348 : decode cL_law 1348 = .ok (.iconst 0, 1) := dget daL_law_13 22 rfl
theorem dL_law_1349 : decode cL_law 1349 = .ok (.ireturn, 1) := dget daL_law_13 23 rfl
theorem dL_law_1350 : decode cL_law 1350 = .ok (.aload_n 1, 1) := dget daL_law_13 24 rfl
theorem dL_law_1351 : decode cL_law 1351 = .ok (.aload_n 0, 1) := dget daL_law_13 25 rfl
theorem dL_law_1352 : decode cL_law 1352 = .ok (.iload_n 3, 1) := dget daL_law_13 26 rfl
theorem dL_law_1353 : decode cL_law 1353 = .ok (.iconst 1, 1) := dget daL_law_13 27 rfl
theorem dL_law_1354 : decode cL_law 1354 = .ok (.iadd, 1) := dget daL_law_13 28 rfl
theorem dL_law_1355 : decode cL_law 1355 = .ok (.iaload, 1) := dget daL_law_13 29 rfl
theorem dL_law_1356 : decode cL_law 1356 = .ok (.aload_n 0, 1) := dget daL_law_13 30 rfl
theorem dL_law_1357 : decode cL_law 1357 = .ok (.iload_n 3, 1) := dget daL_law_13 31 rfl
theorem dL_law_1358 : decode cL_law 1358 = .ok (.iconst 2, 1) := dget daL_law_13 32 rfl
theorem dL_law_1359 : decode cL_law 1359 = .ok (.iadd, 1) := dget daL_law_13 33 rfl
theorem dL_law_1360 : decode cL_law 1360 = .ok (.iaload, 1) := dget daL_law_13 34 rfl
theorem dL_law_1361 : decode cL_law 1361 = .ok (.invokevirtual 162, 3) := dget daL_law_13 35 rfl
theorem dL_law_1364 : decode cL_law 1364 = .ok (.aload_n 2, 1) := dget daL_law_13 36 rfl
theorem dL_law_1365 : decode cL_law 1365 = .ok (.aload_n 0, 1) := dget daL_law_13 37 rfl
theorem dL_law_1366 : decode cL_law 1366 = .ok (.iload_n 3, 1) := dget daL_law_13 38 rfl
theorem dL_law_1367 : decode cL_law 1367 = .ok (.iconst 1, 1) := dget daL_law_13 39 rfl
theorem dL_law_1368 : decode cL_law 1368 = .ok (.iadd, 1) := dget daL_law_13 40 rfl
theorem dL_law_1369 : decode cL_law 1369 = .ok (.iaload, 1) := dget daL_law_13 41 rfl
theorem dL_law_1370 : decode cL_law 1370 = .ok (.aload_n 0, 1) := dget daL_law_13 42 rfl
theorem dL_law_1371 : decode cL_law 1371 = .ok (.iload_n 3, 1) := dget daL_law_13 43 rfl
theorem dL_law_1372 : decode cL_law 1372 = .ok (.iconst 2, 1) := dget daL_law_13 44 rfl
theorem dL_law_1373 : decode cL_law 1373 = .ok (.iadd, 1) := dget daL_law_13 45 rfl
theorem dL_law_1374 : decode cL_law 1374 = .ok (.iaload, 1) := dget daL_law_13 46 rfl
theorem dL_law_1375 : decode cL_law 1375 = .ok (.invokevirtual 165, 3) := dget daL_law_13 47 rfl
theorem dL_law_1378 : decode cL_law 1378 = .ok (.if_icmp .eq 1234, 3) := dget daL_law_13 48 rfl
theorem dL_law_1381 : decode cL_law 1381 = .ok (.iconst 0, 1) := dget daL_law_13 49 rfl
theorem dL_law_1382 : decode cL_law 1382 = .ok (.ireturn, 1) := dget daL_law_13 50 rfl
theorem dL_law_1383 : decode cL_law 1383 = .ok (.aload_n 1, 1) := dget daL_law_13 51 rfl
theorem dL_law_1384 : decode cL_law 1384 = .ok (.aload_n 0, 1) := dget daL_law_13 52 rfl
theorem dL_law_1385 : decode cL_law 1385 = .ok (.iload_n 3, 1) := dget daL_law_13 53 rfl
theorem dL_law_1386 : decode cL_law 1386 = .ok (.iconst 1, 1) := dget daL_law_13 54 rfl
theorem dL_law_1387 : decode cL_law 1387 = .ok (.iadd, 1) := dget daL_law_13 55 rfl
theorem dL_law_1388 : decode cL_law 1388 = .ok (.iaload, 1) := dget daL_law_13 56 rfl
theorem dL_law_1389 : decode cL_law 1389 = .ok (.invokevirtual 166, 3) := dget daL_law_13 57 rfl
theorem dL_law_1392 : decode cL_law 1392 = .ok (.aload_n 2, 1) := dget daL_law_13 58 rfl
theorem dL_law_1393 : decode cL_law 1393 = .ok (.aload_n 0, 1) := dget daL_law_13 59 rfl
set_option maxRecDepth 100000 in
theorem daL_law_14 : dchk cL_law [(1394, .iload_n 3, 1), (1395, .iconst 1, 1), (1396, .iadd, 1), (1397, .iaload, 1), (1398, .invokevirtual 169, 3), (1401, .if_icmp .eq 1211, 3), (1404, .iconst 0, 1), (1405, .ireturn, 1), (1406, .aload_n 1, 1), (1407, .aload_n 0, 1), (1408, .iload_n 3, 1), (1409, .iconst 1, 1), (1410, .iadd, 1), (1411, .iaload, 1), (1412, .aload_n 0, 1), (1413, .iload_n 3, 1), (1414, .iconst 2, 1), (1415, .iadd, 1), (1416, .iaload, 1), (1417, .invokevirtual 170, 3), (1420, .aload_n 2, 1), (1421, .aload_n 0, 1), (1422, .iload_n 3, 1), (1423, .iconst 1, 1), (1424, .iadd, 1), (1425, .iaload, 1), (1426, .aload_n 0, 1), (1427, .iload_n 3, 1), (1428, .iconst 2, 1), (1429, .iadd, 1), (1430, .iaload, 1), (1431, .invokevirtual 173, 3), (1434, .if_icmp .eq 1178, 3), (1437, .iconst 0, 1), (1438, .ireturn, 1), (1439, .aload_n 1, 1), (1440, .aload_n 0, 1), (1441, .iload_n 3, 1), (1442, .iconst 1, 1), (1443, .iadd, 1), (1444, .iaload, 1), (1445, .aload_n 0, 1), (1446, .iload_n 3, 1), (1447, .iconst 2, 1), (1448, .iadd, 1), (1449, .iaload, 1), (1450, .invokevirtual 174, 3), (1453, .aload_n 2, 1), (1454, .aload_n 0, 1), (1455, .iload_n 3, 1), (1456, .iconst 1, 1), (1457, .iadd, 1), (1458, .iaload, 1), (1459, .aload_n 0, 1), (1460, .iload_n 3, 1), (1461, .iconst 2, 1), (1462, .iadd, 1), (1463, .iaload, 1), (1464, .invokevirtual 178, 3), (1467, .lcmp, 1)] = true := by decide +kernel
theorem dL_law_1394 : decode cL_law 1394 = .ok (.iload_n 3, 1) := dget daL_law_14 0 rfl
theorem dL_law_1395 : decode cL_law 1395 = .ok (.iconst 1, 1) := dget daL_law_14 1 rfl
theorem dL_law_1396 : decode cL_law 1396 = .ok (.iadd, 1) := dget daL_law_14 2 rfl
theorem dL_law_1397 : decode cL_law 1397 = .ok (.iaload, 1) := dget daL_law_14 3 rfl
theorem dL_law_1398 : decode cL_law 1398 = .ok (.invokevirtual 169, 3) := dget daL_law_14 4 rfl
theorem dL_law_1401 : decode cL_law 1401 = .ok (.if_icmp .eq 1211, 3) := dget daL_law_14 5 rfl
theorem dL_law_1404 : decode cL_law 1404 = .ok (.iconst 0, 1) := dget daL_law_14 6 rfl
theorem dL_law_1405 : decode cL_law 1405 = .ok (.ireturn, 1) := dget daL_law_14 7 rfl
theorem dL_law_1406 : decode cL_law 1406 = .ok (.aload_n 1, 1) := dget daL_law_14 8 rfl
theorem dL_law_1407 : decode cL_law 1407 = .ok (.aload_n 0, 1) := dget daL_law_14 9 rfl
theorem dL_law_1408 : decode cL_law 1408 = .ok (.iload_n 3, 1) := dget daL_law_14 10 rfl
theorem dL_law_1409 : decode cL_law 1409 = .ok (.iconst 1, 1) := dget daL_law_14 11 rfl
theorem dL_law_1410 : decode cL_law 1410 = .ok (.iadd, 1) := dget daL_law_14 12 rfl
theorem dL_law_1411 : decode cL_law 1411 = .ok (.iaload, 1) := dget daL_law_14 13 rfl
theorem dL_law_1412 : decode cL_law 1412 = .ok (.aload_n 0, 1) := dget daL_law_14 14 rfl
theorem dL_law_1413 : decode cL_law 1413 = .ok (.iload_n 3, 1) := dget daL_law_14 15 rfl
theorem dL_law_1414 : decode cL_law 1414 = .ok (.iconst 2, 1) := dget daL_law_14 16 rfl
theorem dL_law_1415 : decode cL_law 1415 = .ok (.iadd, 1) := dget daL_law_14 17 rfl
theorem dL_law_1416 : decode cL_law 1416 = .ok (.iaload, 1) := dget daL_law_14 18 rfl
theorem dL_law_1417 : decode cL_law 1417 = .ok (.invokevirtual 170, 3) := dget daL_law_14 19 rfl
theorem dL_law_1420 : decode cL_law 1420 = .ok (.aload_n 2, 1) := dget daL_law_14 20 rfl
theorem dL_law_1421 : decode cL_law 1421 = .ok (.aload_n 0, 1) := dget daL_law_14 21 rfl
theorem dL_law_1422 : decode cL_law 1422 = .ok (.iload_n 3, 1) := dget daL_law_14 22 rfl
theorem dL_law_1423 : decode cL_law 1423 = .ok (.iconst 1, 1) := dget daL_law_14 23 rfl
theorem dL_law_1424 : decode cL_law 1424 = .ok (.iadd, 1) := dget daL_law_14 24 rfl
theorem dL_law_1425 : decode cL_law 1425 = .ok (.iaload, 1) := dget daL_law_14 25 rfl
theorem dL_law_1426 : decode cL_law 1426 = .ok (.aload_n 0, 1) := dget daL_law_14 26 rfl
theorem dL_law_1427 : decode cL_law 1427 = .ok (.iload_n 3, 1) := dget daL_law_14 27 rfl
theorem dL_law_1428 : decode cL_law 1428 = .ok (.iconst 2, 1) := dget daL_law_14 28 rfl
theorem dL_law_1429 : decode cL_law 1429 = .ok (.iadd, 1) := dget daL_law_14 29 rfl
theorem dL_law_1430 : decode cL_law 1430 = .ok (.iaload, 1) := dget daL_law_14 30 rfl
theorem dL_law_1431 : decode cL_law 1431 = .ok (.invokevirtual 173, 3) := dget daL_law_14 31 rfl
theorem dL_law_1434 : decode cL_law 1434 = .ok (.if_icmp .eq 1178, 3) := dget daL_law_14 32 rfl
theorem dL_law_1437 : decode cL_law 1437 = .ok (.iconst 0, 1) := dget daL_law_14 33 rfl
theorem dL_law_1438 : decode cL_law 1438 = .ok (.ireturn, 1) := dget daL_law_14 34 rfl
theorem dL_law_1439 : decode cL_law 1439 = .ok (.aload_n 1, 1) := dget daL_law_14 35 rfl
theorem dL_law_1440 : decode cL_law 1440 = .ok (.aload_n 0, 1) := dget daL_law_14 36 rfl
theorem dL_law_1441 : decode cL_law 1441 = .ok (.iload_n 3, 1) := dget daL_law_14 37 rfl
theorem dL_law_1442 : decode cL_law 1442 = .ok (.iconst 1, 1) := dget daL_law_14 38 rfl
theorem dL_law_1443 : decode cL_law 1443 = .ok (.iadd, 1) := dget daL_law_14 39 rfl
theorem dL_law_1444 : decode cL_law 1444 = .ok (.iaload, 1) := dget daL_law_14 40 rfl
theorem dL_law_1445 : decode cL_law 1445 = .ok (.aload_n 0, 1) := dget daL_law_14 41 rfl
theorem dL_law_1446 : decode cL_law 1446 = .ok (.iload_n 3, 1) := dget daL_law_14 42 rfl
theorem dL_law_1447 : decode cL_law 1447 = .ok (.iconst 2, 1) := dget daL_law_14 43 rfl
theorem dL_law_1448 : decode cL_law 1448 = .ok (.iadd, 1) := dget daL_law_14 44 rfl
theorem dL_law_1449 : decode cL_law 1449 = .ok (.iaload, 1) := dget daL_law_14 45 rfl
theorem dL_law_1450 : decode cL_law 1450 = .ok (.invokevirtual 174, 3) := dget daL_law_14 46 rfl
theorem dL_law_1453 : decode cL_law 1453 = .ok (.aload_n 2, 1) := dget daL_law_14 47 rfl
theorem dL_law_1454 : decode cL_law 1454 = .ok (.aload_n 0, 1) := dget daL_law_14 48 rfl
theorem dL_law_1455 : decode cL_law 1455 = .ok (.iload_n 3, 1) := dget daL_law_14 49 rfl
theorem dL_law_1456 : decode cL_law 1456 = .ok (.iconst 1, 1) := dget daL_law_14 50 rfl
theorem dL_law_1457 : decode cL_law 1457 = .ok (.iadd, 1) := dget daL_law_14 51 rfl
theorem dL_law_1458 : decode cL_law 1458 = .ok (.iaload, 1) := dget daL_law_14 52 rfl
theorem dL_law_1459 : decode cL_law 1459 = .ok (.aload_n 0, 1) := dget daL_law_14 53 rfl
theorem dL_law_1460 : decode cL_law 1460 = .ok (.iload_n 3, 1) := dget daL_law_14 54 rfl
theorem dL_law_1461 : decode cL_law 1461 = .ok (.iconst 2, 1) := dget daL_law_14 55 rfl
theorem dL_law_1462 : decode cL_law 1462 = .ok (.iadd, 1) := dget daL_law_14 56 rfl
theorem dL_law_1463 : decode cL_law 1463 = .ok (.iaload, 1) := dget daL_law_14 57 rfl
theorem dL_law_1464 : decode cL_law 1464 = .ok (.invokevirtual 178, 3) := dget daL_law_14 58 rfl
theorem dL_law_1467 : decode cL_law 1467 = .ok (.lcmp, 1) := dget daL_law_14 59 rfl
set_option maxRecDepth 100000 in
theorem daL_law_15 : dchk cL_law [(1468, .ifCond .eq 1144, 3), (1471, .iconst 0, 1), (1472, .ireturn, 1), (1473, .aload_n 1, 1), (1474, .aload_n 0, 1), (1475, .iload_n 3, 1), (1476, .iconst 1, 1), (1477, .iadd, 1), (1478, .iaload, 1), (1479, .invokevirtual 179, 3), (1482, .aload_n 2, 1), (1483, .aload_n 0, 1), (1484, .iload_n 3, 1), (1485, .iconst 1, 1), (1486, .iadd, 1), (1487, .iaload, 1), (1488, .invokevirtual 182, 3), (1491, .if_icmp .eq 1121, 3), (1494, .iconst 0, 1), (1495, .ireturn, 1), (1496, .aload_n 1, 1), (1497, .aload_n 0, 1), (1498, .iload_n 3, 1), (1499, .iconst 1, 1), (1500, .iadd, 1), (1501, .iaload, 1), (1502, .aload_n 0, 1), (1503, .iload_n 3, 1), (1504, .iconst 2, 1), (1505, .iadd, 1), (1506, .iaload, 1), (1507, .invokevirtual 183, 3), (1510, .aload_n 2, 1), (1511, .aload_n 0, 1), (1512, .iload_n 3, 1), (1513, .iconst 1, 1), (1514, .iadd, 1), (1515, .iaload, 1), (1516, .aload_n 0, 1), (1517, .iload_n 3, 1), (1518, .iconst 2, 1), (1519, .iadd, 1), (1520, .iaload, 1), (1521, .invokevirtual 186, 3), (1524, .if_icmp .eq 1088, 3), (1527, .iconst 0, 1), (1528, .ireturn, 1), (1529, .aload_n 1, 1), (1530, .aload_n 0, 1), (1531, .iload_n 3, 1), (1532, .iconst 1, 1), (1533, .iadd, 1), (1534, .iaload, 1), (1535, .aload_n 0, 1), (1536, .iload_n 3, 1), (1537, .iconst 2, 1), (1538, .iadd, 1), (1539, .iaload, 1), (1540, .invokevirtual 187, 3), (1543, .aload_n 2, 1)] = true := by decide +kernel
theorem dL_law_1468 : decode cL_law 1468 = .ok (.ifCond .eq 1144, 3) := dget daL_law_15 0 rfl
theorem dL_law_1471 : decode cL_law 1471 = .ok (.iconst 0, 1) := dget daL_law_15 1 rfl
theorem dL_law_1472 : decode cL_law 1472 = .ok (.ireturn, 1) := dget daL_law_15 2 rfl
theorem dL_law_1473 : decode cL_law 1473 = .ok (.aload_n 1, 1) := dget daL_law_15 3 rfl
theorem dL_law_1474 : decode cL_law 1474 = .ok (.aload_n 0, 1) := dget daL_law_15 4 rfl
theorem dL_law_1475 : decode cL_law 1475 = .ok (.iload_n 3, 1) := dget daL_law_15 5 rfl
theorem dL_law_1476 : decode cL_law 1476 = .ok (.iconst 1, 1) := dget daL_law_15 6 rfl
theorem dL_law_1477 : decode cL_law 1477 = .ok (.iadd, 1) := dget daL_law_15 7 rfl
theorem dL_law_1478 : decode cL_law 1478 = .ok (.iaload, 1) := dget daL_law_15 8 rfl
theorem dL_law_1479 : decode cL_law 1479 = .ok (.invokevirtual 179, 3) := dget daL_law_15 9 rfl
theorem dL_law_1482 : decode cL_law 1482 = .ok (.aload_n 2, 1) := dget daL_law_15 10 rfl
theorem dL_law_1483 : decode cL_law 1483 = .ok (.aload_n 0, 1) := dget daL_law_15 11 rfl
theorem dL_law_1484 : decode cL_law 1484 = .ok (.iload_n 3, 1) := dget daL_law_15 12 rfl
theorem dL_law_1485 : decode cL_law 1485 = .ok (.iconst 1, 1) := dget daL_law_15 13 rfl
theorem dL_law_1486 : decode cL_law 1486 = .ok (.iadd, 1) := dget daL_law_15 14 rfl
theorem dL_law_1487 : decode cL_law 1487 = .ok (.iaload, 1) := dget daL_law_15 15 rfl
theorem dL_law_1488 : decode cL_law 1488 = .ok (.invokevirtual 182, 3) := dget daL_law_15 16 rfl
theorem dL_law_1491 : decode cL_law 1491 = .ok (.if_icmp .eq 1121, 3) := dget daL_law_15 17 rfl
theorem dL_law_1494 : decode cL_law 1494 = .ok (.iconst 0, 1) := dget daL_law_15 18 rfl
theorem dL_law_1495 : decode cL_law 1495 = .ok (.ireturn, 1) := dget daL_law_15 19 rfl
theorem dL_law_1496 : decode cL_law 1496 = .ok (.aload_n 1, 1) := dget daL_law_15 20 rfl
theorem dL_law_1497 : decode cL_law 1497 = .ok (.aload_n 0, 1) := dget daL_law_15 21 rfl
theorem dL_law_1498 : decode cL_law 1498 = .ok (.iload_n 3, 1) := dget daL_law_15 22 rfl
theorem dL_law_1499 : decode cL_law 1499 = .ok (.iconst 1, 1) := dget daL_law_15 23 rfl
theorem dL_law_1500 : decode cL_law 1500 = .ok (.iadd, 1) := dget daL_law_15 24 rfl
theorem dL_law_1501 : decode cL_law 1501 = .ok (.iaload, 1) := dget daL_law_15 25 rfl
theorem dL_law_1502 : decode cL_law 1502 = .ok (.aload_n 0, 1) := dget daL_law_15 26 rfl
theorem dL_law_1503 : decode cL_law 1503 = .ok (.iload_n 3, 1) := dget daL_law_15 27 rfl
theorem dL_law_1504 : decode cL_law 1504 = .ok (.iconst 2, 1) := dget daL_law_15 28 rfl
theorem dL_law_1505 : decode cL_law 1505 = .ok (.iadd, 1) := dget daL_law_15 29 rfl
theorem dL_law_1506 : decode cL_law 1506 = .ok (.iaload, 1) := dget daL_law_15 30 rfl
theorem dL_law_1507 : decode cL_law 1507 = .ok (.invokevirtual 183, 3) := dget daL_law_15 31 rfl
theorem dL_law_1510 : decode cL_law 1510 = .ok (.aload_n 2, 1) := dget daL_law_15 32 rfl
theorem dL_law_1511 : decode cL_law 1511 = .ok (.aload_n 0, 1) := dget daL_law_15 33 rfl
theorem dL_law_1512 : decode cL_law 1512 = .ok (.iload_n 3, 1) := dget daL_law_15 34 rfl
theorem dL_law_1513 : decode cL_law 1513 = .ok (.iconst 1, 1) := dget daL_law_15 35 rfl
theorem dL_law_1514 : decode cL_law 1514 = .ok (.iadd, 1) := dget daL_law_15 36 rfl
theorem dL_law_1515 : decode cL_law 1515 = .ok (.iaload, 1) := dget daL_law_15 37 rfl
theorem dL_law_1516 : decode cL_law 1516 = .ok (.aload_n 0, 1) := dget daL_law_15 38 rfl
theorem dL_law_1517 : decode cL_law 1517 = .ok (.iload_n 3, 1) := dget daL_law_15 39 rfl
theorem dL_law_1518 : decode cL_law 1518 = .ok (.iconst 2, 1) := dget daL_law_15 40 rfl
theorem dL_law_1519 : decode cL_law 1519 = .ok (.iadd, 1) := dget daL_law_15 41 rfl
theorem dL_law_1520 : decode cL_law 1520 = .ok (.iaload, 1) := dget daL_law_15 42 rfl
theorem dL_law_1521 : decode cL_law 1521 = .ok (.invokevirtual 186, 3) := dget daL_law_15 43 rfl
theorem dL_law_1524 : decode cL_law 1524 = .ok (.if_icmp .eq 1088, 3) := dget daL_law_15 44 rfl
theorem dL_law_1527 : decode cL_law 1527 = .ok (.iconst 0, 1) := dget daL_law_15 45 rfl
theorem dL_law_1528 : decode cL_law 1528 = .ok (.ireturn, 1) := dget daL_law_15 46 rfl
theorem dL_law_1529 : decode cL_law 1529 = .ok (.aload_n 1, 1) := dget daL_law_15 47 rfl
theorem dL_law_1530 : decode cL_law 1530 = .ok (.aload_n 0, 1) := dget daL_law_15 48 rfl
theorem dL_law_1531 : decode cL_law 1531 = .ok (.iload_n 3, 1) := dget daL_law_15 49 rfl
theorem dL_law_1532 : decode cL_law 1532 = .ok (.iconst 1, 1) := dget daL_law_15 50 rfl
theorem dL_law_1533 : decode cL_law 1533 = .ok (.iadd, 1) := dget daL_law_15 51 rfl
theorem dL_law_1534 : decode cL_law 1534 = .ok (.iaload, 1) := dget daL_law_15 52 rfl
theorem dL_law_1535 : decode cL_law 1535 = .ok (.aload_n 0, 1) := dget daL_law_15 53 rfl
theorem dL_law_1536 : decode cL_law 1536 = .ok (.iload_n 3, 1) := dget daL_law_15 54 rfl
theorem dL_law_1537 : decode cL_law 1537 = .ok (.iconst 2, 1) := dget daL_law_15 55 rfl
theorem dL_law_1538 : decode cL_law 1538 = .ok (.iadd, 1) := dget daL_law_15 56 rfl
theorem dL_law_1539 : decode cL_law 1539 = .ok (.iaload, 1) := dget daL_law_15 57 rfl
theorem dL_law_1540 : decode cL_law 1540 = .ok (.invokevirtual 187, 3) := dget daL_law_15 58 rfl
theorem dL_law_1543 : decode cL_law 1543 = .ok (.aload_n 2, 1) := dget daL_law_15 59 rfl
set_option maxRecDepth 100000 in
theorem daL_law_16 : dchk cL_law [(1544, .aload_n 0, 1), (1545, .iload_n 3, 1), (1546, .iconst 1, 1), (1547, .iadd, 1), (1548, .iaload, 1), (1549, .aload_n 0, 1), (1550, .iload_n 3, 1), (1551, .iconst 2, 1), (1552, .iadd, 1), (1553, .iaload, 1), (1554, .invokevirtual 190, 3), (1557, .if_icmp .eq 1055, 3), (1560, .iconst 0, 1), (1561, .ireturn, 1), (1562, .aload_n 1, 1), (1563, .aload_n 0, 1), (1564, .iload_n 3, 1), (1565, .iconst 1, 1), (1566, .iadd, 1), (1567, .iaload, 1), (1568, .aload_n 0, 1), (1569, .iload_n 3, 1), (1570, .iconst 2, 1), (1571, .iadd, 1), (1572, .iaload, 1), (1573, .invokevirtual 191, 3), (1576, .aload_n 2, 1), (1577, .aload_n 0, 1), (1578, .iload_n 3, 1), (1579, .iconst 1, 1), (1580, .iadd, 1), (1581, .iaload, 1), (1582, .aload_n 0, 1), (1583, .iload_n 3, 1), (1584, .iconst 2, 1), (1585, .iadd, 1), (1586, .iaload, 1), (1587, .invokevirtual 194, 3), (1590, .if_icmp .eq 1022, 3), (1593, .iconst 0, 1), (1594, .ireturn, 1), (1595, .aload_n 1, 1), (1596, .aload_n 0, 1), (1597, .iload_n 3, 1), (1598, .iconst 1, 1), (1599, .iadd, 1), (1600, .iaload, 1), (1601, .aload_n 0, 1), (1602, .iload_n 3, 1), (1603, .iconst 2, 1), (1604, .iadd, 1), (1605, .iaload, 1), (1606, .aload_n 0, 1), (1607, .iload_n 3, 1), (1608, .iconst 3, 1), (1609, .iadd, 1), (1610, .iaload, 1), (1611, .invokevirtual 195, 3), (1614, .aload_n 2, 1), (1615, .aload_n 0, 1)] = true := by decide +kernel
theorem dL_law_1544 : decode cL_law 1544 = .ok (.aload_n 0, 1) := dget daL_law_16 0 rfl
theorem dL_law_1545 : decode cL_law 1545 = .ok (.iload_n 3, 1) := dget daL_law_16 1 rfl
theorem dL_law_1546 : decode cL_law 1546 = .ok (.iconst 1, 1) := dget daL_law_16 2 rfl
theorem dL_law_1547 : decode cL_law 1547 = .ok (.iadd, 1) := dget daL_law_16 3 rfl
theorem dL_law_1548 : decode cL_law 1548 = .ok (.iaload, 1) := dget daL_law_16 4 rfl
theorem dL_law_1549 : decode cL_law 1549 = .ok (.aload_n 0, 1) := dget daL_law_16 5 rfl
theorem dL_law_1550 : decode cL_law 1550 = .ok (.iload_n 3, 1) := dget daL_law_16 6 rfl
theorem dL_law_1551 : decode cL_law 1551 = .ok (.iconst 2, 1) := dget daL_law_16 7 rfl
theorem dL_law_1552 : decode cL_law 1552 = .ok (.iadd, 1) := dget daL_law_16 8 rfl
theorem dL_law_1553 : decode cL_law 1553 = .ok (.iaload, 1) := dget daL_law_16 9 rfl
theorem dL_law_1554 : decode cL_law 1554 = .ok (.invokevirtual 190, 3) := dget daL_law_16 10 rfl
theorem dL_law_1557 : decode cL_law 1557 = .ok (.if_icmp .eq 1055, 3) := dget daL_law_16 11 rfl
theorem dL_law_1560 : decode cL_law 1560 = .ok (.iconst 0, 1) := dget daL_law_16 12 rfl
theorem dL_law_1561 : decode cL_law 1561 = .ok (.ireturn, 1) := dget daL_law_16 13 rfl
theorem dL_law_1562 : decode cL_law 1562 = .ok (.aload_n 1, 1) := dget daL_law_16 14 rfl
theorem dL_law_1563 : decode cL_law 1563 = .ok (.aload_n 0, 1) := dget daL_law_16 15 rfl
theorem dL_law_1564 : decode cL_law 1564 = .ok (.iload_n 3, 1) := dget daL_law_16 16 rfl
theorem dL_law_1565 : decode cL_law 1565 = .ok (.iconst 1, 1) := dget daL_law_16 17 rfl
theorem dL_law_1566 : decode cL_law 1566 = .ok (.iadd, 1) := dget daL_law_16 18 rfl
theorem dL_law_1567 : decode cL_law 1567 = .ok (.iaload, 1) := dget daL_law_16 19 rfl
theorem dL_law_1568 : decode cL_law 1568 = .ok (.aload_n 0, 1) := dget daL_law_16 20 rfl
theorem dL_law_1569 : decode cL_law 1569 = .ok (.iload_n 3, 1) := dget daL_law_16 21 rfl
theorem dL_law_1570 : decode cL_law 1570 = .ok (.iconst 2, 1) := dget daL_law_16 22 rfl
theorem dL_law_1571 : decode cL_law 1571 = .ok (.iadd, 1) := dget daL_law_16 23 rfl
theorem dL_law_1572 : decode cL_law 1572 = .ok (.iaload, 1) := dget daL_law_16 24 rfl
theorem dL_law_1573 : decode cL_law 1573 = .ok (.invokevirtual 191, 3) := dget daL_law_16 25 rfl
theorem dL_law_1576 : decode cL_law 1576 = .ok (.aload_n 2, 1) := dget daL_law_16 26 rfl
theorem dL_law_1577 : decode cL_law 1577 = .ok (.aload_n 0, 1) := dget daL_law_16 27 rfl
theorem dL_law_1578 : decode cL_law 1578 = .ok (.iload_n 3, 1) := dget daL_law_16 28 rfl
theorem dL_law_1579 : decode cL_law 1579 = .ok (.iconst 1, 1) := dget daL_law_16 29 rfl
theorem dL_law_1580 : decode cL_law 1580 = .ok (.iadd, 1) := dget daL_law_16 30 rfl
theorem dL_law_1581 : decode cL_law 1581 = .ok (.iaload, 1) := dget daL_law_16 31 rfl
theorem dL_law_1582 : decode cL_law 1582 = .ok (.aload_n 0, 1) := dget daL_law_16 32 rfl
theorem dL_law_1583 : decode cL_law 1583 = .ok (.iload_n 3, 1) := dget daL_law_16 33 rfl
theorem dL_law_1584 : decode cL_law 1584 = .ok (.iconst 2, 1) := dget daL_law_16 34 rfl
theorem dL_law_1585 : decode cL_law 1585 = .ok (.iadd, 1) := dget daL_law_16 35 rfl
theorem dL_law_1586 : decode cL_law 1586 = .ok (.iaload, 1) := dget daL_law_16 36 rfl
theorem dL_law_1587 : decode cL_law 1587 = .ok (.invokevirtual 194, 3) := dget daL_law_16 37 rfl
theorem dL_law_1590 : decode cL_law 1590 = .ok (.if_icmp .eq 1022, 3) := dget daL_law_16 38 rfl
theorem dL_law_1593 : decode cL_law 1593 = .ok (.iconst 0, 1) := dget daL_law_16 39 rfl
theorem dL_law_1594 : decode cL_law 1594 = .ok (.ireturn, 1) := dget daL_law_16 40 rfl
theorem dL_law_1595 : decode cL_law 1595 = .ok (.aload_n 1, 1) := dget daL_law_16 41 rfl
theorem dL_law_1596 : decode cL_law 1596 = .ok (.aload_n 0, 1) := dget daL_law_16 42 rfl
theorem dL_law_1597 : decode cL_law 1597 = .ok (.iload_n 3, 1) := dget daL_law_16 43 rfl
theorem dL_law_1598 : decode cL_law 1598 = .ok (.iconst 1, 1) := dget daL_law_16 44 rfl
theorem dL_law_1599 : decode cL_law 1599 = .ok (.iadd, 1) := dget daL_law_16 45 rfl
theorem dL_law_1600 : decode cL_law 1600 = .ok (.iaload, 1) := dget daL_law_16 46 rfl
theorem dL_law_1601 : decode cL_law 1601 = .ok (.aload_n 0, 1) := dget daL_law_16 47 rfl
theorem dL_law_1602 : decode cL_law 1602 = .ok (.iload_n 3, 1) := dget daL_law_16 48 rfl
theorem dL_law_1603 : decode cL_law 1603 = .ok (.iconst 2, 1) := dget daL_law_16 49 rfl
theorem dL_law_1604 : decode cL_law 1604 = .ok (.iadd, 1) := dget daL_law_16 50 rfl
theorem dL_law_1605 : decode cL_law 1605 = .ok (.iaload, 1) := dget daL_law_16 51 rfl
theorem dL_law_1606 : decode cL_law 1606 = .ok (.aload_n 0, 1) := dget daL_law_16 52 rfl
theorem dL_law_1607 : decode cL_law 1607 = .ok (.iload_n 3, 1) := dget daL_law_16 53 rfl
theorem dL_law_1608 : decode cL_law 1608 = .ok (.iconst 3, 1) := dget daL_law_16 54 rfl
theorem dL_law_1609 : decode cL_law 1609 = .ok (.iadd, 1) := dget daL_law_16 55 rfl
theorem dL_law_1610 : decode cL_law 1610 = .ok (.iaload, 1) := dget daL_law_16 56 rfl
theorem dL_law_1611 : decode cL_law 1611 = .ok (.invokevirtual 195, 3) := dget daL_law_16 57 rfl
theorem dL_law_1614 : decode cL_law 1614 = .ok (.aload_n 2, 1) := dget daL_law_16 58 rfl
theorem dL_law_1615 : decode cL_law 1615 = .ok (.aload_n 0, 1) := dget daL_law_16 59 rfl
set_option maxRecDepth 100000 in
theorem daL_law_17 : dchk cL_law [(1616, .iload_n 3, 1), (1617, .iconst 1, 1), (1618, .iadd, 1), (1619, .iaload, 1), (1620, .aload_n 0, 1), (1621, .iload_n 3, 1), (1622, .iconst 2, 1), (1623, .iadd, 1), (1624, .iaload, 1), (1625, .aload_n 0, 1), (1626, .iload_n 3, 1), (1627, .iconst 3, 1), (1628, .iadd, 1), (1629, .iaload, 1), (1630, .invokevirtual 198, 3), (1633, .if_icmp .eq 979, 3), (1636, .iconst 0, 1), (1637, .ireturn, 1), (1638, .aload_n 1, 1), (1639, .aload_n 0, 1), (1640, .iload_n 3, 1), (1641, .iconst 1, 1), (1642, .iadd, 1), (1643, .iaload, 1), (1644, .aload_n 0, 1), (1645, .iload_n 3, 1), (1646, .iconst 2, 1), (1647, .iadd, 1), (1648, .iaload, 1), (1649, .invokevirtual 199, 3), (1652, .aload_n 2, 1), (1653, .aload_n 0, 1), (1654, .iload_n 3, 1), (1655, .iconst 1, 1), (1656, .iadd, 1), (1657, .iaload, 1), (1658, .aload_n 0, 1), (1659, .iload_n 3, 1), (1660, .iconst 2, 1), (1661, .iadd, 1), (1662, .iaload, 1), (1663, .invokevirtual 202, 3), (1666, .if_icmp .eq 946, 3), (1669, .iconst 0, 1), (1670, .ireturn, 1), (1671, .aload_n 1, 1), (1672, .aload_n 0, 1), (1673, .iload_n 3, 1), (1674, .iconst 1, 1), (1675, .iadd, 1), (1676, .iaload, 1), (1677, .aload_n 0, 1), (1678, .iload_n 3, 1), (1679, .iconst 2, 1), (1680, .iadd, 1), (1681, .iaload, 1), (1682, .invokevirtual 203, 3), (1685, .aload_n 2, 1), (1686, .aload_n 0, 1), (1687, .iload_n 3, 1)] = true := by decide +kernel
theorem dL_law_1616 : decode cL_law 1616 = .ok (.iload_n 3, 1) := dget daL_law_17 0 rfl
theorem dL_law_1617 : decode cL_law 1617 = .ok (.iconst 1, 1) := dget daL_law_17 1 rfl
theorem dL_law_1618 : decode cL_law 1618 = .ok (.iadd, 1) := dget daL_law_17 2 rfl
theorem dL_law_1619 : decode cL_law 1619 = .ok (.iaload, 1) := dget daL_law_17 3 rfl
theorem dL_law_1620 : decode cL_law 1620 = .ok (.aload_n 0, 1) := dget daL_law_17 4 rfl
theorem dL_law_1621 : decode cL_law 1621 = .ok (.iload_n 3, 1) := dget daL_law_17 5 rfl
theorem dL_law_1622 : decode cL_law 1622 = .ok (.iconst 2, 1) := dget daL_law_17 6 rfl
theorem dL_law_1623 : decode cL_law 1623 = .ok (.iadd, 1) := dget daL_law_17 7 rfl
theorem dL_law_1624 : decode cL_law 1624 = .ok (.iaload, 1) := dget daL_law_17 8 rfl
theorem dL_law_1625 : decode cL_law 1625 = .ok (.aload_n 0, 1) := dget daL_law_17 9 rfl
theorem dL_law_1626 : decode cL_law 1626 = .ok (.iload_n 3, 1) := dget daL_law_17 10 rfl
theorem dL_law_1627 : decode cL_law 1627 = .ok (.iconst 3, 1) := dget daL_law_17 11 rfl
theorem dL_law_1628 : decode cL_law 1628 = .ok (.iadd, 1) := dget daL_law_17 12 rfl
theorem dL_law_1629 : decode cL_law 1629 = .ok (.iaload, 1) := dget daL_law_17 13 rfl
theorem dL_law_1630 : decode cL_law 1630 = .ok (.invokevirtual 198, 3) := dget daL_law_17 14 rfl
theorem dL_law_1633 : decode cL_law 1633 = .ok (.if_icmp .eq 979, 3) := dget daL_law_17 15 rfl
theorem dL_law_1636 : decode cL_law 1636 = .ok (.iconst 0, 1) := dget daL_law_17 16 rfl
theorem dL_law_1637 : decode cL_law 1637 = .ok (.ireturn, 1) := dget daL_law_17 17 rfl
theorem dL_law_1638 : decode cL_law 1638 = .ok (.aload_n 1, 1) := dget daL_law_17 18 rfl
theorem dL_law_1639 : decode cL_law 1639 = .ok (.aload_n 0, 1) := dget daL_law_17 19 rfl
theorem dL_law_1640 : decode cL_law 1640 = .ok (.iload_n 3, 1) := dget daL_law_17 20 rfl
theorem dL_law_1641 : decode cL_law 1641 = .ok (.iconst 1, 1) := dget daL_law_17 21 rfl
theorem dL_law_1642 : decode cL_law 1642 = .ok (.iadd, 1) := dget daL_law_17 22 rfl
theorem dL_law_1643 : decode cL_law 1643 = .ok (.iaload, 1) := dget daL_law_17 23 rfl
theorem dL_law_1644 : decode cL_law 1644 = .ok (.aload_n 0, 1) := dget daL_law_17 24 rfl
theorem dL_law_1645 : decode cL_law 1645 = .ok (.iload_n 3, 1) := dget daL_law_17 25 rfl
theorem dL_law_1646 : decode cL_law 1646 = .ok (.iconst 2, 1) := dget daL_law_17 26 rfl
theorem dL_law_1647 : decode cL_law 1647 = .ok (.iadd, 1) := dget daL_law_17 27 rfl
theorem dL_law_1648 : decode cL_law 1648 = .ok (.iaload, 1) := dget daL_law_17 28 rfl
theorem dL_law_1649 : decode cL_law 1649 = .ok (.invokevirtual 199, 3) := dget daL_law_17 29 rfl
theorem dL_law_1652 : decode cL_law 1652 = .ok (.aload_n 2, 1) := dget daL_law_17 30 rfl
theorem dL_law_1653 : decode cL_law 1653 = .ok (.aload_n 0, 1) := dget daL_law_17 31 rfl
theorem dL_law_1654 : decode cL_law 1654 = .ok (.iload_n 3, 1) := dget daL_law_17 32 rfl
theorem dL_law_1655 : decode cL_law 1655 = .ok (.iconst 1, 1) := dget daL_law_17 33 rfl
theorem dL_law_1656 : decode cL_law 1656 = .ok (.iadd, 1) := dget daL_law_17 34 rfl
theorem dL_law_1657 : decode cL_law 1657 = .ok (.iaload, 1) := dget daL_law_17 35 rfl
theorem dL_law_1658 : decode cL_law 1658 = .ok (.aload_n 0, 1) := dget daL_law_17 36 rfl
theorem dL_law_1659 : decode cL_law 1659 = .ok (.iload_n 3, 1) := dget daL_law_17 37 rfl
theorem dL_law_1660 : decode cL_law 1660 = .ok (.iconst 2, 1) := dget daL_law_17 38 rfl
theorem dL_law_1661 : decode cL_law 1661 = .ok (.iadd, 1) := dget daL_law_17 39 rfl
theorem dL_law_1662 : decode cL_law 1662 = .ok (.iaload, 1) := dget daL_law_17 40 rfl
theorem dL_law_1663 : decode cL_law 1663 = .ok (.invokevirtual 202, 3) := dget daL_law_17 41 rfl
theorem dL_law_1666 : decode cL_law 1666 = .ok (.if_icmp .eq 946, 3) := dget daL_law_17 42 rfl
theorem dL_law_1669 : decode cL_law 1669 = .ok (.iconst 0, 1) := dget daL_law_17 43 rfl
theorem dL_law_1670 : decode cL_law 1670 = .ok (.ireturn, 1) := dget daL_law_17 44 rfl
theorem dL_law_1671 : decode cL_law 1671 = .ok (.aload_n 1, 1) := dget daL_law_17 45 rfl
theorem dL_law_1672 : decode cL_law 1672 = .ok (.aload_n 0, 1) := dget daL_law_17 46 rfl
theorem dL_law_1673 : decode cL_law 1673 = .ok (.iload_n 3, 1) := dget daL_law_17 47 rfl
theorem dL_law_1674 : decode cL_law 1674 = .ok (.iconst 1, 1) := dget daL_law_17 48 rfl
theorem dL_law_1675 : decode cL_law 1675 = .ok (.iadd, 1) := dget daL_law_17 49 rfl
theorem dL_law_1676 : decode cL_law 1676 = .ok (.iaload, 1) := dget daL_law_17 50 rfl
theorem dL_law_1677 : decode cL_law 1677 = .ok (.aload_n 0, 1) := dget daL_law_17 51 rfl
theorem dL_law_1678 : decode cL_law 1678 = .ok (.iload_n 3, 1) := dget daL_law_17 52 rfl
theorem dL_law_1679 : decode cL_law 1679 = .ok (.iconst 2, 1) := dget daL_law_17 53 rfl
theorem dL_law_1680 : decode cL_law 1680 = .ok (.iadd, 1) := dget daL_law_17 54 rfl
theorem dL_law_1681 : decode cL_law 1681 = .ok (.iaload, 1) := dget daL_law_17 55 rfl
theorem dL_law_1682 : decode cL_law 1682 = .ok (.invokevirtual 203, 3) := dget daL_law_17 56 rfl
theorem dL_law_1685 : decode cL_law 1685 = .ok (.aload_n 2, 1) := dget daL_law_17 57 rfl
theorem dL_law_1686 : decode cL_law 1686 = .ok (.aload_n 0, 1) := dget daL_law_17 58 rfl
theorem dL_law_1687 : decode cL_law 1687 = .ok (.iload_n 3, 1) := dget daL_law_17 59 rfl
set_option maxRecDepth 100000 in
theorem daL_law_18 : dchk cL_law [(1688, .iconst 1, 1), (1689, .iadd, 1), (1690, .iaload, 1), (1691, .aload_n 0, 1), (1692, .iload_n 3, 1), (1693, .iconst 2, 1), (1694, .iadd, 1), (1695, .iaload, 1), (1696, .invokevirtual 206, 3), (1699, .if_icmp .eq 913, 3), (1702, .iconst 0, 1), (1703, .ireturn, 1), (1704, .aload_n 1, 1), (1705, .aload_n 0, 1), (1706, .iload_n 3, 1), (1707, .iconst 1, 1), (1708, .iadd, 1), (1709, .iaload, 1), (1710, .aload_n 0, 1), (1711, .iload_n 3, 1), (1712, .iconst 2, 1), (1713, .iadd, 1), (1714, .iaload, 1), (1715, .invokevirtual 207, 3), (1718, .aload_n 2, 1), (1719, .aload_n 0, 1), (1720, .iload_n 3, 1), (1721, .iconst 1, 1), (1722, .iadd, 1), (1723, .iaload, 1), (1724, .aload_n 0, 1), (1725, .iload_n 3, 1), (1726, .iconst 2, 1), (1727, .iadd, 1), (1728, .iaload, 1), (1729, .invokevirtual 210, 3), (1732, .if_icmp .eq 880, 3), (1735, .iconst 0, 1), (1736, .ireturn, 1), (1737, .aload_n 1, 1), (1738, .aload_n 0, 1), (1739, .iload_n 3, 1), (1740, .iconst 1, 1), (1741, .iadd, 1), (1742, .iaload, 1), (1743, .aload_n 0, 1), (1744, .iload_n 3, 1), (1745, .iconst 2, 1), (1746, .iadd, 1), (1747, .iaload, 1), (1748, .invokevirtual 211, 3), (1751, .aload_n 2, 1), (1752, .aload_n 0, 1), (1753, .iload_n 3, 1), (1754, .iconst 1, 1), (1755, .iadd, 1), (1756, .iaload, 1), (1757, .aload_n 0, 1), (1758, .iload_n 3, 1), (1759, .iconst 2, 1)] = true := by decide +kernel
theorem dL_law_1688 : decode cL_law 1688 = .ok (.iconst 1, 1) := dget daL_law_18 0 rfl
theorem dL_law_1689 : decode cL_law 1689 = .ok (.iadd, 1) := dget daL_law_18 1 rfl
theorem dL_law_1690 : decode cL_law 1690 = .ok (.iaload, 1) := dget daL_law_18 2 rfl
theorem dL_law_1691 : decode cL_law 1691 = .ok (.aload_n 0, 1) := dget daL_law_18 3 rfl
theorem dL_law_1692 : decode cL_law 1692 = .ok (.iload_n 3, 1) := dget daL_law_18 4 rfl
theorem dL_law_1693 : decode cL_law 1693 = .ok (.iconst 2, 1) := dget daL_law_18 5 rfl
theorem dL_law_1694 : decode cL_law 1694 = .ok (.iadd, 1) := dget daL_law_18 6 rfl
theorem dL_law_1695 : decode cL_law 1695 = .ok (.iaload, 1) := dget daL_law_18 7 rfl
theorem dL_law_1696 : decode cL_law 1696 = .ok (.invokevirtual 206, 3) := dget daL_law_18 8 rfl
theorem dL_law_1699 : decode cL_law 1699 = .ok (.if_icmp .eq 913, 3) := dget daL_law_18 9 rfl
theorem dL_law_1702 : decode cL_law 1702 = .ok (.iconst 0, 1) := dget daL_law_18 10 rfl
theorem dL_law_1703 : decode cL_law 1703 = .ok (.ireturn, 1) := dget daL_law_18 11 rfl
theorem dL_law_1704 : decode cL_law 1704 = .ok (.aload_n 1, 1) := dget daL_law_18 12 rfl
theorem dL_law_1705 : decode cL_law 1705 = .ok (.aload_n 0, 1) := dget daL_law_18 13 rfl
theorem dL_law_1706 : decode cL_law 1706 = .ok (.iload_n 3, 1) := dget daL_law_18 14 rfl
theorem dL_law_1707 : decode cL_law 1707 = .ok (.iconst 1, 1) := dget daL_law_18 15 rfl
theorem dL_law_1708 : decode cL_law 1708 = .ok (.iadd, 1) := dget daL_law_18 16 rfl
theorem dL_law_1709 : decode cL_law 1709 = .ok (.iaload, 1) := dget daL_law_18 17 rfl
theorem dL_law_1710 : decode cL_law 1710 = .ok (.aload_n 0, 1) := dget daL_law_18 18 rfl
theorem dL_law_1711 : decode cL_law 1711 = .ok (.iload_n 3, 1) := dget daL_law_18 19 rfl
theorem dL_law_1712 : decode cL_law 1712 = .ok (.iconst 2, 1) := dget daL_law_18 20 rfl
theorem dL_law_1713 : decode cL_law 1713 = .ok (.iadd, 1) := dget daL_law_18 21 rfl
theorem dL_law_1714 : decode cL_law 1714 = .ok (.iaload, 1) := dget daL_law_18 22 rfl
theorem dL_law_1715 : decode cL_law 1715 = .ok (.invokevirtual 207, 3) := dget daL_law_18 23 rfl
theorem dL_law_1718 : decode cL_law 1718 = .ok (.aload_n 2, 1) := dget daL_law_18 24 rfl
theorem dL_law_1719 : decode cL_law 1719 = .ok (.aload_n 0, 1) := dget daL_law_18 25 rfl
theorem dL_law_1720 : decode cL_law 1720 = .ok (.iload_n 3, 1) := dget daL_law_18 26 rfl
theorem dL_law_1721 : decode cL_law 1721 = .ok (.iconst 1, 1) := dget daL_law_18 27 rfl
theorem dL_law_1722 : decode cL_law 1722 = .ok (.iadd, 1) := dget daL_law_18 28 rfl
theorem dL_law_1723 : decode cL_law 1723 = .ok (.iaload, 1) := dget daL_law_18 29 rfl
theorem dL_law_1724 : decode cL_law 1724 = .ok (.aload_n 0, 1) := dget daL_law_18 30 rfl
theorem dL_law_1725 : decode cL_law 1725 = .ok (.iload_n 3, 1) := dget daL_law_18 31 rfl
theorem dL_law_1726 : decode cL_law 1726 = .ok (.iconst 2, 1) := dget daL_law_18 32 rfl
theorem dL_law_1727 : decode cL_law 1727 = .ok (.iadd, 1) := dget daL_law_18 33 rfl
theorem dL_law_1728 : decode cL_law 1728 = .ok (.iaload, 1) := dget daL_law_18 34 rfl
theorem dL_law_1729 : decode cL_law 1729 = .ok (.invokevirtual 210, 3) := dget daL_law_18 35 rfl
theorem dL_law_1732 : decode cL_law 1732 = .ok (.if_icmp .eq 880, 3) := dget daL_law_18 36 rfl
theorem dL_law_1735 : decode cL_law 1735 = .ok (.iconst 0, 1) := dget daL_law_18 37 rfl
theorem dL_law_1736 : decode cL_law 1736 = .ok (.ireturn, 1) := dget daL_law_18 38 rfl
theorem dL_law_1737 : decode cL_law 1737 = .ok (.aload_n 1, 1) := dget daL_law_18 39 rfl
theorem dL_law_1738 : decode cL_law 1738 = .ok (.aload_n 0, 1) := dget daL_law_18 40 rfl
theorem dL_law_1739 : decode cL_law 1739 = .ok (.iload_n 3, 1) := dget daL_law_18 41 rfl
theorem dL_law_1740 : decode cL_law 1740 = .ok (.iconst 1, 1) := dget daL_law_18 42 rfl
theorem dL_law_1741 : decode cL_law 1741 = .ok (.iadd, 1) := dget daL_law_18 43 rfl
theorem dL_law_1742 : decode cL_law 1742 = .ok (.iaload, 1) := dget daL_law_18 44 rfl
theorem dL_law_1743 : decode cL_law 1743 = .ok (.aload_n 0, 1) := dget daL_law_18 45 rfl
theorem dL_law_1744 : decode cL_law 1744 = .ok (.iload_n 3, 1) := dget daL_law_18 46 rfl
theorem dL_law_1745 : decode cL_law 1745 = .ok (.iconst 2, 1) := dget daL_law_18 47 rfl
theorem dL_law_1746 : decode cL_law 1746 = .ok (.iadd, 1) := dget daL_law_18 48 rfl
theorem dL_law_1747 : decode cL_law 1747 = .ok (.iaload, 1) := dget daL_law_18 49 rfl
theorem dL_law_1748 : decode cL_law 1748 = .ok (.invokevirtual 211, 3) := dget daL_law_18 50 rfl
theorem dL_law_1751 : decode cL_law 1751 = .ok (.aload_n 2, 1) := dget daL_law_18 51 rfl
theorem dL_law_1752 : decode cL_law 1752 = .ok (.aload_n 0, 1) := dget daL_law_18 52 rfl
theorem dL_law_1753 : decode cL_law 1753 = .ok (.iload_n 3, 1) := dget daL_law_18 53 rfl
theorem dL_law_1754 : decode cL_law 1754 = .ok (.iconst 1, 1) := dget daL_law_18 54 rfl
theorem dL_law_1755 : decode cL_law 1755 = .ok (.iadd, 1) := dget daL_law_18 55 rfl
theorem dL_law_1756 : decode cL_law 1756 = .ok (.iaload, 1) := dget daL_law_18 56 rfl
theorem dL_law_1757 : decode cL_law 1757 = .ok (.aload_n 0, 1) := dget daL_law_18 57 rfl
theorem dL_law_1758 : decode cL_law 1758 = .ok (.iload_n 3, 1) := dget daL_law_18 58 rfl
theorem dL_law_1759 : decode cL_law 1759 = .ok (.iconst 2, 1) := dget daL_law_18 59 rfl
set_option maxRecDepth 100000 in
theorem daL_law_19 : dchk cL_law [(1760, .iadd, 1), (1761, .iaload, 1), (1762, .invokevirtual 214, 3), (1765, .if_icmp .eq 847, 3), (1768, .iconst 0, 1), (1769, .ireturn, 1), (1770, .aload_n 1, 1), (1771, .aload_n 0, 1), (1772, .iload_n 3, 1), (1773, .iconst 1, 1), (1774, .iadd, 1), (1775, .iaload, 1), (1776, .aload_n 0, 1), (1777, .iload_n 3, 1), (1778, .iconst 2, 1), (1779, .iadd, 1), (1780, .iaload, 1), (1781, .aload_n 0, 1), (1782, .iload_n 3, 1), (1783, .iconst 3, 1), (1784, .iadd, 1), (1785, .iaload, 1), (1786, .invokevirtual 215, 3), (1789, .aload_n 2, 1), (1790, .aload_n 0, 1), (1791, .iload_n 3, 1), (1792, .iconst 1, 1), (1793, .iadd, 1), (1794, .iaload, 1), (1795, .aload_n 0, 1), (1796, .iload_n 3, 1), (1797, .iconst 2, 1), (1798, .iadd, 1), (1799, .iaload, 1), (1800, .aload_n 0, 1), (1801, .iload_n 3, 1), (1802, .iconst 3, 1), (1803, .iadd, 1), (1804, .iaload, 1), (1805, .invokevirtual 218, 3), (1808, .if_icmp .eq 804, 3), (1811, .iconst 0, 1), (1812, .ireturn, 1), (1813, .aload_n 1, 1), (1814, .aload_n 0, 1), (1815, .iload_n 3, 1), (1816, .iconst 1, 1), (1817, .iadd, 1), (1818, .iaload, 1), (1819, .invokevirtual 219, 3), (1822, .aload_n 2, 1), (1823, .aload_n 0, 1), (1824, .iload_n 3, 1), (1825, .iconst 1, 1), (1826, .iadd, 1), (1827, .iaload, 1), (1828, .invokevirtual 222, 3), (1831, .if_icmp .eq 781, 3), (1834, .iconst 0, 1), (1835, .ireturn, 1)] = true := by decide +kernel
theorem dL_law_1760 : decode cL_law 1760 = .ok (.iadd, 1) := dget daL_law_19 0 rfl
theorem dL_law_1761 : decode cL_law 1761 = .ok (.iaload, 1) := dget daL_law_19 1 rfl
theorem dL_law_1762 : decode cL_law 1762 = .ok (.invokevirtual 214, 3) := dget daL_law_19 2 rfl
theorem dL_law_1765 : decode cL_law 1765 = .ok (.if_icmp .eq 847, 3) := dget daL_law_19 3 rfl
theorem dL_law_1768 : decode cL_law 1768 = .ok (.iconst 0, 1) := dget daL_law_19 4 rfl
theorem dL_law_1769 : decode cL_law 1769 = .ok (.ireturn, 1) := dget daL_law_19 5 rfl
theorem dL_law_1770 : decode cL_law 1770 = .ok (.aload_n 1, 1) := dget daL_law_19 6 rfl
theorem dL_law_1771 : decode cL_law 1771 = .ok (.aload_n 0, 1) := dget daL_law_19 7 rfl
theorem dL_law_1772 : decode cL_law 1772 = .ok (.iload_n 3, 1) := dget daL_law_19 8 rfl
theorem dL_law_1773 : decode cL_law 1773 = .ok (.iconst 1, 1) := dget daL_law_19 9 rfl
theorem dL_law_1774 : decode cL_law 1774 = .ok (.iadd, 1) := dget daL_law_19 10 rfl
theorem dL_law_1775 : decode cL_law 1775 = .ok (.iaload, 1) := dget daL_law_19 11 rfl
theorem dL_law_1776 : decode cL_law 1776 = .ok (.aload_n 0, 1) := dget daL_law_19 12 rfl
theorem dL_law_1777 : decode cL_law 1777 = .ok (.iload_n 3, 1) := dget daL_law_19 13 rfl
theorem dL_law_1778 : decode cL_law 1778 = .ok (.iconst 2, 1) := dget daL_law_19 14 rfl
theorem dL_law_1779 : decode cL_law 1779 = .ok (.iadd, 1) := dget daL_law_19 15 rfl
theorem dL_law_1780 : decode cL_law 1780 = .ok (.iaload, 1) := dget daL_law_19 16 rfl
theorem dL_law_1781 : decode cL_law 1781 = .ok (.aload_n 0, 1) := dget daL_law_19 17 rfl
theorem dL_law_1782 : decode cL_law 1782 = .ok (.iload_n 3, 1) := dget daL_law_19 18 rfl
theorem dL_law_1783 : decode cL_law 1783 = .ok (.iconst 3, 1) := dget daL_law_19 19 rfl
theorem dL_law_1784 : decode cL_law 1784 = .ok (.iadd, 1) := dget daL_law_19 20 rfl
theorem dL_law_1785 : decode cL_law 1785 = .ok (.iaload, 1) := dget daL_law_19 21 rfl
theorem dL_law_1786 : decode cL_law 1786 = .ok (.invokevirtual 215, 3) := dget daL_law_19 22 rfl
theorem dL_law_1789 : decode cL_law 1789 = .ok (.aload_n 2, 1) := dget daL_law_19 23 rfl
theorem dL_law_1790 : decode cL_law 1790 = .ok (.aload_n 0, 1) := dget daL_law_19 24 rfl
theorem dL_law_1791 : decode cL_law 1791 = .ok (.iload_n 3, 1) := dget daL_law_19 25 rfl
theorem dL_law_1792 : decode cL_law 1792 = .ok (.iconst 1, 1) := dget daL_law_19 26 rfl
theorem dL_law_1793 : decode cL_law 1793 = .ok (.iadd, 1) := dget daL_law_19 27 rfl
theorem dL_law_1794 : decode cL_law 1794 = .ok (.iaload, 1) := dget daL_law_19 28 rfl
theorem dL_law_1795 : decode cL_law 1795 = .ok (.aload_n 0, 1) := dget daL_law_19 29 rfl
theorem dL_law_1796 : decode cL_law 1796 = .ok (.iload_n 3, 1) := dget daL_law_19 30 rfl
theorem dL_law_1797 : decode cL_law 1797 = .ok (.iconst 2, 1) := dget daL_law_19 31 rfl
theorem dL_law_1798 : decode cL_law 1798 = .ok (.iadd, 1) := dget daL_law_19 32 rfl
theorem dL_law_1799 : decode cL_law 1799 = .ok (.iaload, 1) := dget daL_law_19 33 rfl
theorem dL_law_1800 : decode cL_law 1800 = .ok (.aload_n 0, 1) := dget daL_law_19 34 rfl
theorem dL_law_1801 : decode cL_law 1801 = .ok (.iload_n 3, 1) := dget daL_law_19 35 rfl
theorem dL_law_1802 : decode cL_law 1802 = .ok (.iconst 3, 1) := dget daL_law_19 36 rfl
theorem dL_law_1803 : decode cL_law 1803 = .ok (.iadd, 1) := dget daL_law_19 37 rfl
theorem dL_law_1804 : decode cL_law 1804 = .ok (.iaload, 1) := dget daL_law_19 38 rfl
theorem dL_law_1805 : decode cL_law 1805 = .ok (.invokevirtual 218, 3) := dget daL_law_19 39 rfl
theorem dL_law_1808 : decode cL_law 1808 = .ok (.if_icmp .eq 804, 3) := dget daL_law_19 40 rfl
theorem dL_law_1811 : decode cL_law 1811 = .ok (.iconst 0, 1) := dget daL_law_19 41 rfl
theorem dL_law_1812 : decode cL_law 1812 = .ok (.ireturn, 1) := dget daL_law_19 42 rfl
theorem dL_law_1813 : decode cL_law 1813 = .ok (.aload_n 1, 1) := dget daL_law_19 43 rfl
theorem dL_law_1814 : decode cL_law 1814 = .ok (.aload_n 0, 1) := dget daL_law_19 44 rfl
theorem dL_law_1815 : decode cL_law 1815 = .ok (.iload_n 3, 1) := dget daL_law_19 45 rfl
theorem dL_law_1816 : decode cL_law 1816 = .ok (.iconst 1, 1) := dget daL_law_19 46 rfl
theorem dL_law_1817 : decode cL_law 1817 = .ok (.iadd, 1) := dget daL_law_19 47 rfl
theorem dL_law_1818 : decode cL_law 1818 = .ok (.iaload, 1) := dget daL_law_19 48 rfl
theorem dL_law_1819 : decode cL_law 1819 = .ok (.invokevirtual 219, 3) := dget daL_law_19 49 rfl
theorem dL_law_1822 : decode cL_law 1822 = .ok (.aload_n 2, 1) := dget daL_law_19 50 rfl
theorem dL_law_1823 : decode cL_law 1823 = .ok (.aload_n 0, 1) := dget daL_law_19 51 rfl
theorem dL_law_1824 : decode cL_law 1824 = .ok (.iload_n 3, 1) := dget daL_law_19 52 rfl
theorem dL_law_1825 : decode cL_law 1825 = .ok (.iconst 1, 1) := dget daL_law_19 53 rfl
theorem dL_law_1826 : decode cL_law 1826 = .ok (.iadd, 1) := dget daL_law_19 54 rfl
theorem dL_law_1827 : decode cL_law 1827 = .ok (.iaload, 1) := dget daL_law_19 55 rfl
theorem dL_law_1828 : decode cL_law 1828 = .ok (.invokevirtual 222, 3) := dget daL_law_19 56 rfl
theorem dL_law_1831 : decode cL_law 1831 = .ok (.if_icmp .eq 781, 3) := dget daL_law_19 57 rfl
theorem dL_law_1834 : decode cL_law 1834 = .ok (.iconst 0, 1) := dget daL_law_19 58 rfl
theorem dL_law_1835 : decode cL_law 1835 = .ok (.ireturn, 1) := dget daL_law_19 59 rfl
set_option maxRecDepth 100000 in
theorem daL_law_20 : dchk cL_law [(1836, .aload_n 1, 1), (1837, .aload_n 0, 1), (1838, .iload_n 3, 1), (1839, .iconst 1, 1), (1840, .iadd, 1), (1841, .iaload, 1), (1842, .invokevirtual 223, 3), (1845, .aload_n 2, 1), (1846, .aload_n 0, 1), (1847, .iload_n 3, 1), (1848, .iconst 1, 1), (1849, .iadd, 1), (1850, .iaload, 1), (1851, .invokevirtual 226, 3), (1854, .if_icmp .eq 758, 3), (1857, .iconst 0, 1), (1858, .ireturn, 1), (1859, .aload_n 1, 1), (1860, .aload_n 0, 1), (1861, .iload_n 3, 1), (1862, .iconst 1, 1), (1863, .iadd, 1), (1864, .iaload, 1), (1865, .invokevirtual 227, 3), (1868, .aload_n 2, 1), (1869, .aload_n 0, 1), (1870, .iload_n 3, 1), (1871, .iconst 1, 1), (1872, .iadd, 1), (1873, .iaload, 1), (1874, .invokevirtual 230, 3), (1877, .if_icmp .eq 735, 3), (1880, .iconst 0, 1), (1881, .ireturn, 1), (1882, .aload_n 1, 1), (1883, .aload_n 0, 1), (1884, .iload_n 3, 1), (1885, .iconst 1, 1), (1886, .iadd, 1), (1887, .iaload, 1), (1888, .invokevirtual 231, 3), (1891, .aload_n 2, 1), (1892, .aload_n 0, 1), (1893, .iload_n 3, 1), (1894, .iconst 1, 1), (1895, .iadd, 1), (1896, .iaload, 1), (1897, .invokevirtual 234, 3), (1900, .if_icmp .eq 712, 3), (1903, .iconst 0, 1), (1904, .ireturn, 1), (1905, .aload_n 1, 1), (1906, .aload_n 0, 1), (1907, .iload_n 3, 1), (1908, .iconst 1, 1), (1909, .iadd, 1), (1910, .iaload, 1), (1911, .invokevirtual 235, 3), (1914, .aload_n 2, 1), (1915, .aload_n 0, 1)] = true := by decide +kernel
theorem dL_law_1836 : decode cL_law 1836 = .ok (.aload_n 1, 1) := dget daL_law_20 0 rfl
theorem dL_law_1837 : decode cL_law 1837 = .ok (.aload_n 0, 1) := dget daL_law_20 1 rfl
theorem dL_law_1838 : decode cL_law 1838 = .ok (.iload_n 3, 1) := dget daL_law_20 2 rfl
theorem dL_law_1839 : decode cL_law 1839 = .ok (.iconst 1, 1) := dget daL_law_20 3 rfl
theorem dL_law_1840 : decode cL_law 1840 = .ok (.iadd, 1) := dget daL_law_20 4 rfl
theorem dL_law_1841 : decode cL_law 1841 = .ok (.iaload, 1) := dget daL_law_20 5 rfl
theorem dL_law_1842 : decode cL_law 1842 = .ok (.invokevirtual 223, 3) := dget daL_law_20 6 rfl
theorem dL_law_1845 : decode cL_law 1845 = .ok (.aload_n 2, 1) := dget daL_law_20 7 rfl
theorem dL_law_1846 : decode cL_law 1846 = .ok (.aload_n 0, 1) := dget daL_law_20 8 rfl
theorem dL_law_1847 : decode cL_law 1847 = .ok (.iload_n 3, 1) := dget daL_law_20 9 rfl
theorem dL_law_1848 : decode cL_law 1848 = .ok (.iconst 1, 1) := dget daL_law_20 10 rfl
theorem dL_law_1849 : decode cL_law 1849 = .ok (.iadd, 1) := dget daL_law_20 11 rfl
theorem dL_law_1850 : decode cL_law 1850 = .ok (.iaload, 1) := dget daL_law_20 12 rfl
theorem dL_law_1851 : decode cL_law 1851 = .ok (.invokevirtual 226, 3) := dget daL_law_20 13 rfl
theorem dL_law_1854 : decode cL_law 1854 = .ok (.if_icmp .eq 758, 3) := dget daL_law_20 14 rfl
theorem dL_law_1857 : decode cL_law 1857 = .ok (.iconst 0, 1) := dget daL_law_20 15 rfl
theorem dL_law_1858 : decode cL_law 1858 = .ok (.ireturn, 1) := dget daL_law_20 16 rfl
theorem dL_law_1859 : decode cL_law 1859 = .ok (.aload_n 1, 1) := dget daL_law_20 17 rfl
theorem dL_law_1860 : decode cL_law 1860 = .ok (.aload_n 0, 1) := dget daL_law_20 18 rfl
theorem dL_law_1861 : decode cL_law 1861 = .ok (.iload_n 3, 1) := dget daL_law_20 19 rfl
theorem dL_law_1862 : decode cL_law 1862 = .ok (.iconst 1, 1) := dget daL_law_20 20 rfl
theorem dL_law_1863 : decode cL_law 1863 = .ok (.iadd, 1) := dget daL_law_20 21 rfl
theorem dL_law_1864 : decode cL_law 1864 = .ok (.iaload, 1) := dget daL_law_20 22 rfl
theorem dL_law_1865 : decode cL_law 1865 = .ok (.invokevirtual 227, 3) := dget daL_law_20 23 rfl
theorem dL_law_1868 : decode cL_law 1868 = .ok (.aload_n 2, 1) := dget daL_law_20 24 rfl
theorem dL_law_1869 : decode cL_law 1869 = .ok (.aload_n 0, 1) := dget daL_law_20 25 rfl
theorem dL_law_1870 : decode cL_law 1870 = .ok (.iload_n 3, 1) := dget daL_law_20 26 rfl
theorem dL_law_1871 : decode cL_law 1871 = .ok (.iconst 1, 1) := dget daL_law_20 27 rfl
theorem dL_law_1872 : decode cL_law 1872 = .ok (.iadd, 1) := dget daL_law_20 28 rfl
theorem dL_law_1873 : decode cL_law 1873 = .ok (.iaload, 1) := dget daL_law_20 29 rfl
theorem dL_law_1874 : decode cL_law 1874 = .ok (.invokevirtual 230, 3) := dget daL_law_20 30 rfl
theorem dL_law_1877 : decode cL_law 1877 = .ok (.if_icmp .eq 735, 3) := dget daL_law_20 31 rfl
theorem dL_law_1880 : decode cL_law 1880 = .ok (.iconst 0, 1) := dget daL_law_20 32 rfl
theorem dL_law_1881 : decode cL_law 1881 = .ok (.ireturn, 1) := dget daL_law_20 33 rfl
theorem dL_law_1882 : decode cL_law 1882 = .ok (.aload_n 1, 1) := dget daL_law_20 34 rfl
theorem dL_law_1883 : decode cL_law 1883 = .ok (.aload_n 0, 1) := dget daL_law_20 35 rfl
theorem dL_law_1884 : decode cL_law 1884 = .ok (.iload_n 3, 1) := dget daL_law_20 36 rfl
theorem dL_law_1885 : decode cL_law 1885 = .ok (.iconst 1, 1) := dget daL_law_20 37 rfl
theorem dL_law_1886 : decode cL_law 1886 = .ok (.iadd, 1) := dget daL_law_20 38 rfl
theorem dL_law_1887 : decode cL_law 1887 = .ok (.iaload, 1) := dget daL_law_20 39 rfl
theorem dL_law_1888 : decode cL_law 1888 = .ok (.invokevirtual 231, 3) := dget daL_law_20 40 rfl
theorem dL_law_1891 : decode cL_law 1891 = .ok (.aload_n 2, 1) := dget daL_law_20 41 rfl
theorem dL_law_1892 : decode cL_law 1892 = .ok (.aload_n 0, 1) := dget daL_law_20 42 rfl
theorem dL_law_1893 : decode cL_law 1893 = .ok (.iload_n 3, 1) := dget daL_law_20 43 rfl
theorem dL_law_1894 : decode cL_law 1894 = .ok (.iconst 1, 1) := dget daL_law_20 44 rfl
theorem dL_law_1895 : decode cL_law 1895 = .ok (.iadd, 1) := dget daL_law_20 45 rfl
theorem dL_law_1896 : decode cL_law 1896 = .ok (.iaload, 1) := dget daL_law_20 46 rfl
theorem dL_law_1897 : decode cL_law 1897 = .ok (.invokevirtual 234, 3) := dget daL_law_20 47 rfl
theorem dL_law_1900 : decode cL_law 1900 = .ok (.if_icmp .eq 712, 3) := dget daL_law_20 48 rfl
theorem dL_law_1903 : decode cL_law 1903 = .ok (.iconst 0, 1) := dget daL_law_20 49 rfl
theorem dL_law_1904 : decode cL_law 1904 = .ok (.ireturn, 1) := dget daL_law_20 50 rfl
theorem dL_law_1905 : decode cL_law 1905 = .ok (.aload_n 1, 1) := dget daL_law_20 51 rfl
theorem dL_law_1906 : decode cL_law 1906 = .ok (.aload_n 0, 1) := dget daL_law_20 52 rfl
theorem dL_law_1907 : decode cL_law 1907 = .ok (.iload_n 3, 1) := dget daL_law_20 53 rfl
theorem dL_law_1908 : decode cL_law 1908 = .ok (.iconst 1, 1) := dget daL_law_20 54 rfl
theorem dL_law_1909 : decode cL_law 1909 = .ok (.iadd, 1) := dget daL_law_20 55 rfl
theorem dL_law_1910 : decode cL_law 1910 = .ok (.iaload, 1) := dget daL_law_20 56 rfl
theorem dL_law_1911 : decode cL_law 1911 = .ok (.invokevirtual 235, 3) := dget daL_law_20 57 rfl
theorem dL_law_1914 : decode cL_law 1914 = .ok (.aload_n 2, 1) := dget daL_law_20 58 rfl
theorem dL_law_1915 : decode cL_law 1915 = .ok (.aload_n 0, 1) := dget daL_law_20 59 rfl
set_option maxRecDepth 100000 in
theorem daL_law_21 : dchk cL_law [(1916, .iload_n 3, 1), (1917, .iconst 1, 1), (1918, .iadd, 1), (1919, .iaload, 1), (1920, .invokevirtual 238, 3), (1923, .if_icmp .eq 689, 3), (1926, .iconst 0, 1), (1927, .ireturn, 1), (1928, .aload_n 1, 1), (1929, .aload_n 0, 1), (1930, .iload_n 3, 1), (1931, .iconst 1, 1), (1932, .iadd, 1), (1933, .iaload, 1), (1934, .aload_n 0, 1), (1935, .iload_n 3, 1), (1936, .iconst 2, 1), (1937, .iadd, 1), (1938, .iaload, 1), (1939, .aload_n 0, 1), (1940, .iload_n 3, 1), (1941, .iconst 3, 1), (1942, .iadd, 1), (1943, .iaload, 1), (1944, .invokevirtual 239, 3), (1947, .aload_n 2, 1), (1948, .aload_n 0, 1), (1949, .iload_n 3, 1), (1950, .iconst 1, 1), (1951, .iadd, 1), (1952, .iaload, 1), (1953, .aload_n 0, 1), (1954, .iload_n 3, 1), (1955, .iconst 2, 1), (1956, .iadd, 1), (1957, .iaload, 1), (1958, .aload_n 0, 1), (1959, .iload_n 3, 1), (1960, .iconst 3, 1), (1961, .iadd, 1), (1962, .iaload, 1), (1963, .invokevirtual 242, 3), (1966, .if_icmp .eq 646, 3), (1969, .iconst 0, 1), (1970, .ireturn, 1), (1971, .aload_n 1, 1), (1972, .aload_n 0, 1), (1973, .iload_n 3, 1), (1974, .iconst 1, 1), (1975, .iadd, 1), (1976, .iaload, 1), (1977, .aload_n 0, 1), (1978, .iload_n 3, 1), (1979, .iconst 2, 1), (1980, .iadd, 1), (1981, .iaload, 1), (1982, .aload_n 0, 1), (1983, .iload_n 3, 1), (1984, .iconst 3, 1), (1985, .iadd, 1)] = true := by decide +kernel
theorem dL_law_1916 : decode cL_law 1916 = .ok (.iload_n 3, 1) := dget daL_law_21 0 rfl
theorem dL_law_1917 : decode cL_law 1917 = .ok (.iconst 1, 1) := dget daL_law_21 1 rfl
theorem dL_law_1918 : decode cL_law 1918 = .ok (.iadd, 1) := dget daL_law_21 2 rfl
theorem dL_law_1919 : decode cL_law 1919 = .ok (.iaload, 1) := dget daL_law_21 3 rfl
theorem dL_law_1920 : decode cL_law 1920 = .ok (.invokevirtual 238, 3) := dget daL_law_21 4 rfl
theorem dL_law_1923 : decode cL_law 1923 = .ok (.if_icmp .eq 689, 3) := dget daL_law_21 5 rfl
theorem dL_law_1926 : decode cL_law 1926 = .ok (.iconst 0, 1) := dget daL_law_21 6 rfl
theorem dL_law_1927 : decode cL_law 1927 = .ok (.ireturn, 1) := dget daL_law_21 7 rfl
theorem dL_law_1928 : decode cL_law 1928 = .ok (.aload_n 1, 1) := dget daL_law_21 8 rfl
theorem dL_law_1929 : decode cL_law 1929 = .ok (.aload_n 0, 1) := dget daL_law_21 9 rfl
theorem dL_law_1930 : decode cL_law 1930 = .ok (.iload_n 3, 1) := dget daL_law_21 10 rfl
theorem dL_law_1931 : decode cL_law 1931 = .ok (.iconst 1, 1) := dget daL_law_21 11 rfl
theorem dL_law_1932 : decode cL_law 1932 = .ok (.iadd, 1) := dget daL_law_21 12 rfl
theorem dL_law_1933 : decode cL_law 1933 = .ok (.iaload, 1) := dget daL_law_21 13 rfl
theorem dL_law_1934 : decode cL_law 1934 = .ok (.aload_n 0, 1) := dget daL_law_21 14 rfl
theorem dL_law_1935 : decode cL_law 1935 = .ok (.iload_n 3, 1) := dget daL_law_21 15 rfl
theorem dL_law_1936 : decode cL_law 1936 = .ok (.iconst 2, 1) := dget daL_law_21 16 rfl
theorem dL_law_1937 : decode cL_law 1937 = .ok (.iadd, 1) := dget daL_law_21 17 rfl
theorem dL_law_1938 : decode cL_law 1938 = .ok (.iaload, 1) := dget daL_law_21 18 rfl
theorem dL_law_1939 : decode cL_law 1939 = .ok (.aload_n 0, 1) := dget daL_law_21 19 rfl
theorem dL_law_1940 : decode cL_law 1940 = .ok (.iload_n 3, 1) := dget daL_law_21 20 rfl
theorem dL_law_1941 : decode cL_law 1941 = .ok (.iconst 3, 1) := dget daL_law_21 21 rfl
theorem dL_law_1942 : decode cL_law 1942 = .ok (.iadd, 1) := dget daL_law_21 22 rfl
theorem dL_law_1943 : decode cL_law 1943 = .ok (.iaload, 1) := dget daL_law_21 23 rfl
theorem dL_law_1944 : decode cL_law 1944 = .ok (.invokevirtual 239, 3) := dget daL_law_21 24 rfl
theorem dL_law_1947 : decode cL_law 1947 = .ok (.aload_n 2, 1) := dget daL_law_21 25 rfl
theorem dL_law_1948 : decode cL_law 1948 = .ok (.aload_n 0, 1) := dget daL_law_21 26 rfl
theorem dL_law_1949 : decode cL_law 1949 = .ok (.iload_n 3, 1) := dget daL_law_21 27 rfl
theorem dL_law_1950 : decode cL_law 1950 = .ok (.iconst 1, 1) := dget daL_law_21 28 rfl
theorem dL_law_1951 : decode cL_law 1951 = .ok (.iadd, 1) := dget daL_law_21 29 rfl
theorem dL_law_1952 : decode cL_law 1952 = .ok (.iaload, 1) := dget daL_law_21 30 rfl
theorem dL_law_1953 : decode cL_law 1953 = .ok (.aload_n 0, 1) := dget daL_law_21 31 rfl
theorem dL_law_1954 : decode cL_law 1954 = .ok (.iload_n 3, 1) := dget daL_law_21 32 rfl
theorem dL_law_1955 : decode cL_law 1955 = .ok (.iconst 2, 1) := dget daL_law_21 33 rfl
theorem dL_law_1956 : decode cL_law 1956 = .ok (.iadd, 1) := dget daL_law_21 34 rfl
theorem dL_law_1957 : decode cL_law 1957 = .ok (.iaload, 1) := dget daL_law_21 35 rfl
theorem dL_law_1958 : decode cL_law 1958 = .ok (.aload_n 0, 1) := dget daL_law_21 36 rfl
theorem dL_law_1959 : decode cL_law 1959 = .ok (.iload_n 3, 1) := dget daL_law_21 37 rfl
theorem dL_law_1960 : decode cL_law 1960 = .ok (.iconst 3, 1) := dget daL_law_21 38 rfl
theorem dL_law_1961 : decode cL_law 1961 = .ok (.iadd, 1) := dget daL_law_21 39 rfl
theorem dL_law_1962 : decode cL_law 1962 = .ok (.iaload, 1) := dget daL_law_21 40 rfl
theorem dL_law_1963 : decode cL_law 1963 = .ok (.invokevirtual 242, 3) := dget daL_law_21 41 rfl
theorem dL_law_1966 : decode cL_law 1966 = .ok (.if_icmp .eq 646, 3) := dget daL_law_21 42 rfl
theorem dL_law_1969 : decode cL_law 1969 = .ok (.iconst 0, 1) := dget daL_law_21 43 rfl
theorem dL_law_1970 : decode cL_law 1970 = .ok (.ireturn, 1) := dget daL_law_21 44 rfl
theorem dL_law_1971 : decode cL_law 1971 = .ok (.aload_n 1, 1) := dget daL_law_21 45 rfl
theorem dL_law_1972 : decode cL_law 1972 = .ok (.aload_n 0, 1) := dget daL_law_21 46 rfl
theorem dL_law_1973 : decode cL_law 1973 = .ok (.iload_n 3, 1) := dget daL_law_21 47 rfl
theorem dL_law_1974 : decode cL_law 1974 = .ok (.iconst 1, 1) := dget daL_law_21 48 rfl
theorem dL_law_1975 : decode cL_law 1975 = .ok (.iadd, 1) := dget daL_law_21 49 rfl
theorem dL_law_1976 : decode cL_law 1976 = .ok (.iaload, 1) := dget daL_law_21 50 rfl
theorem dL_law_1977 : decode cL_law 1977 = .ok (.aload_n 0, 1) := dget daL_law_21 51 rfl
theorem dL_law_1978 : decode cL_law 1978 = .ok (.iload_n 3, 1) := dget daL_law_21 52 rfl
theorem dL_law_1979 : decode cL_law 1979 = .ok (.iconst 2, 1) := dget daL_law_21 53 rfl
theorem dL_law_1980 : decode cL_law 1980 = .ok (.iadd, 1) := dget daL_law_21 54 rfl
theorem dL_law_1981 : decode cL_law 1981 = .ok (.iaload, 1) := dget daL_law_21 55 rfl
theorem dL_law_1982 : decode cL_law 1982 = .ok (.aload_n 0, 1) := dget daL_law_21 56 rfl
theorem dL_law_1983 : decode cL_law 1983 = .ok (.iload_n 3, 1) := dget daL_law_21 57 rfl
theorem dL_law_1984 : decode cL_law 1984 = .ok (.iconst 3, 1) := dget daL_law_21 58 rfl
theorem dL_law_1985 : decode cL_law 1985 = .ok (.iadd, 1) := dget daL_law_21 59 rfl
set_option maxRecDepth 100000 in
theorem daL_law_22 : dchk cL_law [(1986, .iaload, 1), (1987, .invokevirtual 243, 3), (1990, .aload_n 2, 1), (1991, .aload_n 0, 1), (1992, .iload_n 3, 1), (1993, .iconst 1, 1), (1994, .iadd, 1), (1995, .iaload, 1), (1996, .aload_n 0, 1), (1997, .iload_n 3, 1), (1998, .iconst 2, 1), (1999, .iadd, 1), (2000, .iaload, 1), (2001, .aload_n 0, 1), (2002, .iload_n 3, 1), (2003, .iconst 3, 1), (2004, .iadd, 1), (2005, .iaload, 1), (2006, .invokevirtual 246, 3), (2009, .if_icmp .eq 603, 3), (2012, .iconst 0, 1), (2013, .ireturn, 1), (2014, .aload_n 1, 1), (2015, .invokevirtual 247, 3), (2018, .aload_n 2, 1), (2019, .invokevirtual 250, 3), (2022, .if_icmp .eq 590, 3), (2025, .iconst 0, 1), (2026, .ireturn, 1), (2027, .aload_n 1, 1), (2028, .invokevirtual 251, 3), (2031, .aload_n 2, 1), (2032, .invokevirtual 254, 3), (2035, .if_icmp .eq 577, 3), (2038, .iconst 0, 1), (2039, .ireturn, 1), (2040, .aload_n 1, 1), (2041, .aload_n 0, 1), (2042, .iload_n 3, 1), (2043, .iconst 1, 1), (2044, .iadd, 1), (2045, .iaload, 1), (2046, .aload_n 0, 1), (2047, .iload_n 3, 1), (2048, .iconst 2, 1), (2049, .iadd, 1), (2050, .iaload, 1), (2051, .invokevirtual 255, 3), (2054, .aload_n 2, 1), (2055, .aload_n 0, 1), (2056, .iload_n 3, 1), (2057, .iconst 1, 1), (2058, .iadd, 1), (2059, .iaload, 1), (2060, .aload_n 0, 1), (2061, .iload_n 3, 1), (2062, .iconst 2, 1), (2063, .iadd, 1), (2064, .iaload, 1), (2065, .invokevirtual 258, 3)] = true := by decide +kernel
theorem dL_law_1986 : decode cL_law 1986 = .ok (.iaload, 1) := dget daL_law_22 0 rfl
theorem dL_law_1987 : decode cL_law 1987 = .ok (.invokevirtual 243, 3) := dget daL_law_22 1 rfl
theorem dL_law_1990 : decode cL_law 1990 = .ok (.aload_n 2, 1) := dget daL_law_22 2 rfl
theorem dL_law_1991 : decode cL_law 1991 = .ok (.aload_n 0, 1) := dget daL_law_22 3 rfl
theorem dL_law_1992 : decode cL_law 1992 = .ok (.iload_n 3, 1) := dget daL_law_22 4 rfl
theorem dL_law_1993 : decode cL_law 1993 = .ok (.iconst 1, 1) := dget daL_law_22 5 rfl
theorem dL_law_1994 : decode cL_law 1994 = .ok (.iadd, 1) := dget daL_law_22 6 rfl
theorem dL_law_1995 : decode cL_law 1995 = .ok (.iaload, 1) := dget daL_law_22 7 rfl
theorem dL_law_1996 : decode cL_law 1996 = .ok (.aload_n 0, 1) := dget daL_law_22 8 rfl
theorem dL_law_1997 : decode cL_law 1997 = .ok (.iload_n 3, 1) := dget daL_law_22 9 rfl
theorem dL_law_1998 : decode cL_law 1998 = .ok (.iconst 2, 1) := dget daL_law_22 10 rfl
theorem dL_law_1999 : decode cL_law 1999 = .ok (.iadd, 1) := dget daL_law_22 11 rfl
theorem dL_law_2000 : decode cL_law 2000 = .ok (.iaload, 1) := dget daL_law_22 12 rfl
theorem dL_law_2001 : decode cL_law 2001 = .ok (.aload_n 0, 1) := dget daL_law_22 13 rfl
theorem dL_law_2002 : decode cL_law 2002 = .ok (.iload_n 3, 1) := dget daL_law_22 14 rfl
theorem dL_law_2003 : decode cL_law 2003 = .ok (.iconst 3, 1) := dget daL_law_22 15 rfl
theorem dL_law_2004 : decode cL_law 2004 = .ok (.iadd, 1) := dget daL_law_22 16 rfl
theorem dL_law_2005 : decode cL_law 2005 = .ok (.iaload, 1) := dget daL_law_22 17 rfl
theorem dL_law_2006 : decode cL_law 2006 = .ok (.invokevirtual 246, 3) := dget daL_law_22 18 rfl
theorem dL_law_2009 : decode cL_law 2009 = .ok (.if_icmp .eq 603, 3) := dget daL_law_22 19 rfl
theorem dL_law_2012 : decode cL_law 2012 = .ok (.iconst 0, 1) := dget daL_law_22 20 rfl
theorem dL_law_2013 : decode cL_law 2013 = .ok (.ireturn, 1) := dget daL_law_22 21 rfl
theorem dL_law_2014 : decode cL_law 2014 = .ok (.aload_n 1, 1) := dget daL_law_22 22 rfl
theorem dL_law_2015 : decode cL_law 2015 = .ok (.invokevirtual 247, 3) := dget daL_law_22 23 rfl
theorem dL_law_2018 : decode cL_law 2018 = .ok (.aload_n 2, 1) := dget daL_law_22 24 rfl
theorem dL_law_2019 : decode cL_law 2019 = .ok (.invokevirtual 250, 3) := dget daL_law_22 25 rfl
theorem dL_law_2022 : decode cL_law 2022 = .ok (.if_icmp .eq 590, 3) := dget daL_law_22 26 rfl
theorem dL_law_2025 : decode cL_law 2025 = .ok (.iconst 0, 1) := dget daL_law_22 27 rfl
theorem dL_law_2026 : decode cL_law 2026 = .ok (.ireturn, 1) := dget daL_law_22 28 rfl
theorem dL_law_2027 : decode cL_law 2027 = .ok (.aload_n 1, 1) := dget daL_law_22 29 rfl
theorem dL_law_2028 : decode cL_law 2028 = .ok (.invokevirtual 251, 3) := dget daL_law_22 30 rfl
theorem dL_law_2031 : decode cL_law 2031 = .ok (.aload_n 2, 1) := dget daL_law_22 31 rfl
theorem dL_law_2032 : decode cL_law 2032 = .ok (.invokevirtual 254, 3) := dget daL_law_22 32 rfl
theorem dL_law_2035 : decode cL_law 2035 = .ok (.if_icmp .eq 577, 3) := dget daL_law_22 33 rfl
theorem dL_law_2038 : decode cL_law 2038 = .ok (.iconst 0, 1) := dget daL_law_22 34 rfl
theorem dL_law_2039 : decode cL_law 2039 = .ok (.ireturn, 1) := dget daL_law_22 35 rfl
theorem dL_law_2040 : decode cL_law 2040 = .ok (.aload_n 1, 1) := dget daL_law_22 36 rfl
theorem dL_law_2041 : decode cL_law 2041 = .ok (.aload_n 0, 1) := dget daL_law_22 37 rfl
theorem dL_law_2042 : decode cL_law 2042 = .ok (.iload_n 3, 1) := dget daL_law_22 38 rfl
theorem dL_law_2043 : decode cL_law 2043 = .ok (.iconst 1, 1) := dget daL_law_22 39 rfl
theorem dL_law_2044 : decode cL_law 2044 = .ok (.iadd, 1) := dget daL_law_22 40 rfl
theorem dL_law_2045 : decode cL_law 2045 = .ok (.iaload, 1) := dget daL_law_22 41 rfl
theorem dL_law_2046 : decode cL_law 2046 = .ok (.aload_n 0, 1) := dget daL_law_22 42 rfl
theorem dL_law_2047 : decode cL_law 2047 = .ok (.iload_n 3, 1) := dget daL_law_22 43 rfl
theorem dL_law_2048 : decode cL_law 2048 = .ok (.iconst 2, 1) := dget daL_law_22 44 rfl
theorem dL_law_2049 : decode cL_law 2049 = .ok (.iadd, 1) := dget daL_law_22 45 rfl
theorem dL_law_2050 : decode cL_law 2050 = .ok (.iaload, 1) := dget daL_law_22 46 rfl
theorem dL_law_2051 : decode cL_law 2051 = .ok (.invokevirtual 255, 3) := dget daL_law_22 47 rfl
theorem dL_law_2054 : decode cL_law 2054 = .ok (.aload_n 2, 1) := dget daL_law_22 48 rfl
theorem dL_law_2055 : decode cL_law 2055 = .ok (.aload_n 0, 1) := dget daL_law_22 49 rfl
theorem dL_law_2056 : decode cL_law 2056 = .ok (.iload_n 3, 1) := dget daL_law_22 50 rfl
theorem dL_law_2057 : decode cL_law 2057 = .ok (.iconst 1, 1) := dget daL_law_22 51 rfl
theorem dL_law_2058 : decode cL_law 2058 = .ok (.iadd, 1) := dget daL_law_22 52 rfl
theorem dL_law_2059 : decode cL_law 2059 = .ok (.iaload, 1) := dget daL_law_22 53 rfl
theorem dL_law_2060 : decode cL_law 2060 = .ok (.aload_n 0, 1) := dget daL_law_22 54 rfl
theorem dL_law_2061 : decode cL_law 2061 = .ok (.iload_n 3, 1) := dget daL_law_22 55 rfl
theorem dL_law_2062 : decode cL_law 2062 = .ok (.iconst 2, 1) := dget daL_law_22 56 rfl
theorem dL_law_2063 : decode cL_law 2063 = .ok (.iadd, 1) := dget daL_law_22 57 rfl
theorem dL_law_2064 : decode cL_law 2064 = .ok (.iaload, 1) := dget daL_law_22 58 rfl
theorem dL_law_2065 : decode cL_law 2065 = .ok (.invokevirtual 258, 3) := dget daL_law_22 59 rfl
set_option maxRecDepth 100000 in
theorem daL_law_23 : dchk cL_law [(2068, .if_icmp .eq 544, 3), (2071, .iconst 0, 1), (2072, .ireturn, 1), (2073, .aload_n 1, 1), (2074, .invokevirtual 259, 3), (2077, .aload_n 2, 1), (2078, .invokevirtual 262, 3), (2081, .if_icmp .eq 531, 3), (2084, .iconst 0, 1), (2085, .ireturn, 1), (2086, .aload_n 1, 1), (2087, .aload_n 0, 1), (2088, .iload_n 3, 1), (2089, .iconst 1, 1), (2090, .iadd, 1), (2091, .iaload, 1), (2092, .aload_n 0, 1), (2093, .iload_n 3, 1), (2094, .iconst 2, 1), (2095, .iadd, 1), (2096, .iaload, 1), (2097, .aload_n 0, 1), (2098, .iload_n 3, 1), (2099, .iconst 3, 1), (2100, .iadd, 1), (2101, .iaload, 1), (2102, .invokevirtual 263, 3), (2105, .aload_n 2, 1), (2106, .aload_n 0, 1), (2107, .iload_n 3, 1), (2108, .iconst 1, 1), (2109, .iadd, 1), (2110, .iaload, 1), (2111, .aload_n 0, 1), (2112, .iload_n 3, 1), (2113, .iconst 2, 1), (2114, .iadd, 1), (2115, .iaload, 1), (2116, .aload_n 0, 1), (2117, .iload_n 3, 1), (2118, .iconst 3, 1), (2119, .iadd, 1), (2120, .iaload, 1), (2121, .invokevirtual 267, 3), (2124, .lcmp, 1), (2125, .ifCond .eq 487, 3), (2128, .iconst 0, 1), (2129, .ireturn, 1), (2130, .aload_n 1, 1), (2131, .aload_n 0, 1), (2132, .iload_n 3, 1), (2133, .iconst 1, 1), (2134, .iadd, 1), (2135, .iaload, 1), (2136, .aload_n 0, 1), (2137, .iload_n 3, 1), (2138, .iconst 2, 1), (2139, .iadd, 1), (2140, .iaload, 1), (2141, .invokevirtual 268, 3)] = true := by decide +kernel
theorem dL_law_2068 : decode cL_law 2068 = .ok (.if_icmp .eq 544, 3) := dget daL_law_23 0 rfl
theorem dL_law_2071 : decode cL_law 2071 = .ok (.iconst 0, 1) := dget daL_law_23 1 rfl
theorem dL_law_2072 : decode cL_law 2072 = .ok (.ireturn, 1) := dget daL_law_23 2 rfl
theorem dL_law_2073 : decode cL_law 2073 = .ok (.aload_n 1, 1) := dget daL_law_23 3 rfl
theorem dL_law_2074 : decode cL_law 2074 = .ok (.invokevirtual 259, 3) := dget daL_law_23 4 rfl
theorem dL_law_2077 : decode cL_law 2077 = .ok (.aload_n 2, 1) := dget daL_law_23 5 rfl
theorem dL_law_2078 : decode cL_law 2078 = .ok (.invokevirtual 262, 3) := dget daL_law_23 6 rfl
theorem dL_law_2081 : decode cL_law 2081 = .ok (.if_icmp .eq 531, 3) := dget daL_law_23 7 rfl
theorem dL_law_2084 : decode cL_law 2084 = .ok (.iconst 0, 1) := dget daL_law_23 8 rfl
theorem dL_law_2085 : decode cL_law 2085 = .ok (.ireturn, 1) := dget daL_law_23 9 rfl
theorem dL_law_2086 : decode cL_law 2086 = .ok (.aload_n 1, 1) := dget daL_law_23 10 rfl
theorem dL_law_2087 : decode cL_law 2087 = .ok (.aload_n 0, 1) := dget daL_law_23 11 rfl
theorem dL_law_2088 : decode cL_law 2088 = .ok (.iload_n 3, 1) := dget daL_law_23 12 rfl
theorem dL_law_2089 : decode cL_law 2089 = .ok (.iconst 1, 1) := dget daL_law_23 13 rfl
theorem dL_law_2090 : decode cL_law 2090 = .ok (.iadd, 1) := dget daL_law_23 14 rfl
theorem dL_law_2091 : decode cL_law 2091 = .ok (.iaload, 1) := dget daL_law_23 15 rfl
theorem dL_law_2092 : decode cL_law 2092 = .ok (.aload_n 0, 1) := dget daL_law_23 16 rfl
theorem dL_law_2093 : decode cL_law 2093 = .ok (.iload_n 3, 1) := dget daL_law_23 17 rfl
theorem dL_law_2094 : decode cL_law 2094 = .ok (.iconst 2, 1) := dget daL_law_23 18 rfl
theorem dL_law_2095 : decode cL_law 2095 = .ok (.iadd, 1) := dget daL_law_23 19 rfl
theorem dL_law_2096 : decode cL_law 2096 = .ok (.iaload, 1) := dget daL_law_23 20 rfl
theorem dL_law_2097 : decode cL_law 2097 = .ok (.aload_n 0, 1) := dget daL_law_23 21 rfl
theorem dL_law_2098 : decode cL_law 2098 = .ok (.iload_n 3, 1) := dget daL_law_23 22 rfl
theorem dL_law_2099 : decode cL_law 2099 = .ok (.iconst 3, 1) := dget daL_law_23 23 rfl
theorem dL_law_2100 : decode cL_law 2100 = .ok (.iadd, 1) := dget daL_law_23 24 rfl
theorem dL_law_2101 : decode cL_law 2101 = .ok (.iaload, 1) := dget daL_law_23 25 rfl
theorem dL_law_2102 : decode cL_law 2102 = .ok (.invokevirtual 263, 3) := dget daL_law_23 26 rfl
theorem dL_law_2105 : decode cL_law 2105 = .ok (.aload_n 2, 1) := dget daL_law_23 27 rfl
theorem dL_law_2106 : decode cL_law 2106 = .ok (.aload_n 0, 1) := dget daL_law_23 28 rfl
theorem dL_law_2107 : decode cL_law 2107 = .ok (.iload_n 3, 1) := dget daL_law_23 29 rfl
theorem dL_law_2108 : decode cL_law 2108 = .ok (.iconst 1, 1) := dget daL_law_23 30 rfl
theorem dL_law_2109 : decode cL_law 2109 = .ok (.iadd, 1) := dget daL_law_23 31 rfl
theorem dL_law_2110 : decode cL_law 2110 = .ok (.iaload, 1) := dget daL_law_23 32 rfl
theorem dL_law_2111 : decode cL_law 2111 = .ok (.aload_n 0, 1) := dget daL_law_23 33 rfl
theorem dL_law_2112 : decode cL_law 2112 = .ok (.iload_n 3, 1) := dget daL_law_23 34 rfl
theorem dL_law_2113 : decode cL_law 2113 = .ok (.iconst 2, 1) := dget daL_law_23 35 rfl
theorem dL_law_2114 : decode cL_law 2114 = .ok (.iadd, 1) := dget daL_law_23 36 rfl
theorem dL_law_2115 : decode cL_law 2115 = .ok (.iaload, 1) := dget daL_law_23 37 rfl
theorem dL_law_2116 : decode cL_law 2116 = .ok (.aload_n 0, 1) := dget daL_law_23 38 rfl
theorem dL_law_2117 : decode cL_law 2117 = .ok (.iload_n 3, 1) := dget daL_law_23 39 rfl
theorem dL_law_2118 : decode cL_law 2118 = .ok (.iconst 3, 1) := dget daL_law_23 40 rfl
theorem dL_law_2119 : decode cL_law 2119 = .ok (.iadd, 1) := dget daL_law_23 41 rfl
theorem dL_law_2120 : decode cL_law 2120 = .ok (.iaload, 1) := dget daL_law_23 42 rfl
theorem dL_law_2121 : decode cL_law 2121 = .ok (.invokevirtual 267, 3) := dget daL_law_23 43 rfl
theorem dL_law_2124 : decode cL_law 2124 = .ok (.lcmp, 1) := dget daL_law_23 44 rfl
theorem dL_law_2125 : decode cL_law 2125 = .ok (.ifCond .eq 487, 3) := dget daL_law_23 45 rfl
theorem dL_law_2128 : decode cL_law 2128 = .ok (.iconst 0, 1) := dget daL_law_23 46 rfl
theorem dL_law_2129 : decode cL_law 2129 = .ok (.ireturn, 1) := dget daL_law_23 47 rfl
theorem dL_law_2130 : decode cL_law 2130 = .ok (.aload_n 1, 1) := dget daL_law_23 48 rfl
theorem dL_law_2131 : decode cL_law 2131 = .ok (.aload_n 0, 1) := dget daL_law_23 49 rfl
theorem dL_law_2132 : decode cL_law 2132 = .ok (.iload_n 3, 1) := dget daL_law_23 50 rfl
theorem dL_law_2133 : decode cL_law 2133 = .ok (.iconst 1, 1) := dget daL_law_23 51 rfl
theorem dL_law_2134 : decode cL_law 2134 = .ok (.iadd, 1) := dget daL_law_23 52 rfl
theorem dL_law_2135 : decode cL_law 2135 = .ok (.iaload, 1) := dget daL_law_23 53 rfl
theorem dL_law_2136 : decode cL_law 2136 = .ok (.aload_n 0, 1) := dget daL_law_23 54 rfl
theorem dL_law_2137 : decode cL_law 2137 = .ok (.iload_n 3, 1) := dget daL_law_23 55 rfl
theorem dL_law_2138 : decode cL_law 2138 = .ok (.iconst 2, 1) := dget daL_law_23 56 rfl
theorem dL_law_2139 : decode cL_law 2139 = .ok (.iadd, 1) := dget daL_law_23 57 rfl
theorem dL_law_2140 : decode cL_law 2140 = .ok (.iaload, 1) := dget daL_law_23 58 rfl
theorem dL_law_2141 : decode cL_law 2141 = .ok (.invokevirtual 268, 3) := dget daL_law_23 59 rfl
set_option maxRecDepth 100000 in
theorem daL_law_24 : dchk cL_law [(2144, .aload_n 2, 1), (2145, .aload_n 0, 1), (2146, .iload_n 3, 1), (2147, .iconst 1, 1), (2148, .iadd, 1), (2149, .iaload, 1), (2150, .aload_n 0, 1), (2151, .iload_n 3, 1), (2152, .iconst 2, 1), (2153, .iadd, 1), (2154, .iaload, 1), (2155, .invokevirtual 271, 3), (2158, .if_icmp .eq 454, 3), (2161, .iconst 0, 1), (2162, .ireturn, 1), (2163, .aload_n 1, 1), (2164, .aload_n 0, 1), (2165, .iload_n 3, 1), (2166, .iconst 1, 1), (2167, .iadd, 1), (2168, .iaload, 1), (2169, .aload_n 0, 1), (2170, .iload_n 3, 1), (2171, .iconst 2, 1), (2172, .iadd, 1), (2173, .iaload, 1), (2174, .invokevirtual 272, 3), (2177, .aload_n 2, 1), (2178, .aload_n 0, 1), (2179, .iload_n 3, 1), (2180, .iconst 1, 1), (2181, .iadd, 1), (2182, .iaload, 1), (2183, .aload_n 0, 1), (2184, .iload_n 3, 1), (2185, .iconst 2, 1), (2186, .iadd, 1), (2187, .iaload, 1), (2188, .invokevirtual 275, 3), (2191, .if_icmp .eq 421, 3), (2194, .iconst 0, 1), (2195, .ireturn, 1), (2196, .aload_n 1, 1), (2197, .aload_n 0, 1), (2198, .iload_n 3, 1), (2199, .iconst 1, 1), (2200, .iadd, 1), (2201, .iaload, 1), (2202, .aload_n 0, 1), (2203, .iload_n 3, 1), (2204, .iconst 2, 1), (2205, .iadd, 1), (2206, .iaload, 1), (2207, .invokevirtual 276, 3), (2210, .aload_n 2, 1), (2211, .aload_n 0, 1), (2212, .iload_n 3, 1), (2213, .iconst 1, 1), (2214, .iadd, 1), (2215, .iaload, 1)] = true := by decide +kernel
theorem dL_law_2144 : decode cL_law 2144 = .ok (.aload_n 2, 1) := dget daL_law_24 0 rfl
theorem dL_law_2145 : decode cL_law 2145 = .ok (.aload_n 0, 1) := dget daL_law_24 1 rfl
theorem dL_law_2146 : decode cL_law 2146 = .ok (.iload_n 3, 1) := dget daL_law_24 2 rfl
theorem dL_law_2147 : decode cL_law 2147 = .ok (.iconst 1, 1) := dget daL_law_24 3 rfl
theorem dL_law_2148 : decode cL_law 2148 = .ok (.iadd, 1) := dget daL_law_24 4 rfl
theorem dL_law_2149 : decode cL_law 2149 = .ok (.iaload, 1) := dget daL_law_24 5 rfl
theorem dL_law_2150 : decode cL_law 2150 = .ok (.aload_n 0, 1) := dget daL_law_24 6 rfl
theorem dL_law_2151 : decode cL_law 2151 = .ok (.iload_n 3, 1) := dget daL_law_24 7 rfl
theorem dL_law_2152 : decode cL_law 2152 = .ok (.iconst 2, 1) := dget daL_law_24 8 rfl
theorem dL_law_2153 : decode cL_law 2153 = .ok (.iadd, 1) := dget daL_law_24 9 rfl
theorem dL_law_2154 : decode cL_law 2154 = .ok (.iaload, 1) := dget daL_law_24 10 rfl
theorem dL_law_2155 : decode cL_law 2155 = .ok (.invokevirtual 271, 3) := dget daL_law_24 11 rfl
theorem dL_law_2158 : decode cL_law 2158 = .ok (.if_icmp .eq 454, 3) := dget daL_law_24 12 rfl
theorem dL_law_2161 : decode cL_law 2161 = .ok (.iconst 0, 1) := dget daL_law_24 13 rfl
theorem dL_law_2162 : decode cL_law 2162 = .ok (.ireturn, 1) := dget daL_law_24 14 rfl
theorem dL_law_2163 : decode cL_law 2163 = .ok (.aload_n 1, 1) := dget daL_law_24 15 rfl
theorem dL_law_2164 : decode cL_law 2164 = .ok (.aload_n 0, 1) := dget daL_law_24 16 rfl
theorem dL_law_2165 : decode cL_law 2165 = .ok (.iload_n 3, 1) := dget daL_law_24 17 rfl
theorem dL_law_2166 : decode cL_law 2166 = .ok (.iconst 1, 1) := dget daL_law_24 18 rfl
theorem dL_law_2167 : decode cL_law 2167 = .ok (.iadd, 1) := dget daL_law_24 19 rfl
theorem dL_law_2168 : decode cL_law 2168 = .ok (.iaload, 1) := dget daL_law_24 20 rfl
theorem dL_law_2169 : decode cL_law 2169 = .ok (.aload_n 0, 1) := dget daL_law_24 21 rfl
theorem dL_law_2170 : decode cL_law 2170 = .ok (.iload_n 3, 1) := dget daL_law_24 22 rfl
theorem dL_law_2171 : decode cL_law 2171 = .ok (.iconst 2, 1) := dget daL_law_24 23 rfl
theorem dL_law_2172 : decode cL_law 2172 = .ok (.iadd, 1) := dget daL_law_24 24 rfl
theorem dL_law_2173 : decode cL_law 2173 = .ok (.iaload, 1) := dget daL_law_24 25 rfl
theorem dL_law_2174 : decode cL_law 2174 = .ok (.invokevirtual 272, 3) := dget daL_law_24 26 rfl
theorem dL_law_2177 : decode cL_law 2177 = .ok (.aload_n 2, 1) := dget daL_law_24 27 rfl
theorem dL_law_2178 : decode cL_law 2178 = .ok (.aload_n 0, 1) := dget daL_law_24 28 rfl
theorem dL_law_2179 : decode cL_law 2179 = .ok (.iload_n 3, 1) := dget daL_law_24 29 rfl
theorem dL_law_2180 : decode cL_law 2180 = .ok (.iconst 1, 1) := dget daL_law_24 30 rfl
theorem dL_law_2181 : decode cL_law 2181 = .ok (.iadd, 1) := dget daL_law_24 31 rfl
theorem dL_law_2182 : decode cL_law 2182 = .ok (.iaload, 1) := dget daL_law_24 32 rfl
theorem dL_law_2183 : decode cL_law 2183 = .ok (.aload_n 0, 1) := dget daL_law_24 33 rfl
theorem dL_law_2184 : decode cL_law 2184 = .ok (.iload_n 3, 1) := dget daL_law_24 34 rfl
theorem dL_law_2185 : decode cL_law 2185 = .ok (.iconst 2, 1) := dget daL_law_24 35 rfl
theorem dL_law_2186 : decode cL_law 2186 = .ok (.iadd, 1) := dget daL_law_24 36 rfl
theorem dL_law_2187 : decode cL_law 2187 = .ok (.iaload, 1) := dget daL_law_24 37 rfl
theorem dL_law_2188 : decode cL_law 2188 = .ok (.invokevirtual 275, 3) := dget daL_law_24 38 rfl
theorem dL_law_2191 : decode cL_law 2191 = .ok (.if_icmp .eq 421, 3) := dget daL_law_24 39 rfl
theorem dL_law_2194 : decode cL_law 2194 = .ok (.iconst 0, 1) := dget daL_law_24 40 rfl
theorem dL_law_2195 : decode cL_law 2195 = .ok (.ireturn, 1) := dget daL_law_24 41 rfl
theorem dL_law_2196 : decode cL_law 2196 = .ok (.aload_n 1, 1) := dget daL_law_24 42 rfl
theorem dL_law_2197 : decode cL_law 2197 = .ok (.aload_n 0, 1) := dget daL_law_24 43 rfl
theorem dL_law_2198 : decode cL_law 2198 = .ok (.iload_n 3, 1) := dget daL_law_24 44 rfl
theorem dL_law_2199 : decode cL_law 2199 = .ok (.iconst 1, 1) := dget daL_law_24 45 rfl
theorem dL_law_2200 : decode cL_law 2200 = .ok (.iadd, 1) := dget daL_law_24 46 rfl
theorem dL_law_2201 : decode cL_law 2201 = .ok (.iaload, 1) := dget daL_law_24 47 rfl
theorem dL_law_2202 : decode cL_law 2202 = .ok (.aload_n 0, 1) := dget daL_law_24 48 rfl
theorem dL_law_2203 : decode cL_law 2203 = .ok (.iload_n 3, 1) := dget daL_law_24 49 rfl
theorem dL_law_2204 : decode cL_law 2204 = .ok (.iconst 2, 1) := dget daL_law_24 50 rfl
theorem dL_law_2205 : decode cL_law 2205 = .ok (.iadd, 1) := dget daL_law_24 51 rfl
theorem dL_law_2206 : decode cL_law 2206 = .ok (.iaload, 1) := dget daL_law_24 52 rfl
theorem dL_law_2207 : decode cL_law 2207 = .ok (.invokevirtual 276, 3) := dget daL_law_24 53 rfl
theorem dL_law_2210 : decode cL_law 2210 = .ok (.aload_n 2, 1) := dget daL_law_24 54 rfl
theorem dL_law_2211 : decode cL_law 2211 = .ok (.aload_n 0, 1) := dget daL_law_24 55 rfl
theorem dL_law_2212 : decode cL_law 2212 = .ok (.iload_n 3, 1) := dget daL_law_24 56 rfl
theorem dL_law_2213 : decode cL_law 2213 = .ok (.iconst 1, 1) := dget daL_law_24 57 rfl
theorem dL_law_2214 : decode cL_law 2214 = .ok (.iadd, 1) := dget daL_law_24 58 rfl
theorem dL_law_2215 : decode cL_law 2215 = .ok (.iaload, 1) := dget daL_law_24 59 rfl
set_option maxRecDepth 100000 in
theorem daL_law_25 : dchk cL_law [(2216, .aload_n 0, 1), (2217, .iload_n 3, 1), (2218, .iconst 2, 1), (2219, .iadd, 1), (2220, .iaload, 1), (2221, .invokevirtual 279, 3), (2224, .if_icmp .eq 388, 3), (2227, .iconst 0, 1), (2228, .ireturn, 1), (2229, .aload_n 1, 1), (2230, .invokevirtual 280, 3), (2233, .aload_n 2, 1), (2234, .invokevirtual 283, 3), (2237, .if_icmp .eq 375, 3), (2240, .iconst 0, 1), (2241, .ireturn, 1), (2242, .aload_n 1, 1), (2243, .invokevirtual 284, 3), (2246, .aload_n 2, 1), (2247, .invokevirtual 287, 3), (2250, .if_icmp .eq 362, 3), (2253, .iconst 0, 1), (2254, .ireturn, 1), (2255, .aload_n 1, 1), (2256, .aload_n 0, 1), (2257, .iload_n 3, 1), (2258, .iconst 1, 1), (2259, .iadd, 1), (2260, .iaload, 1), (2261, .aload_n 0, 1), (2262, .iload_n 3, 1), (2263, .iconst 2, 1), (2264, .iadd, 1), (2265, .iaload, 1), (2266, .invokevirtual 288, 3), (2269, .aload_n 2, 1), (2270, .aload_n 0, 1), (2271, .iload_n 3, 1), (2272, .iconst 1, 1), (2273, .iadd, 1), (2274, .iaload, 1), (2275, .aload_n 0, 1), (2276, .iload_n 3, 1), (2277, .iconst 2, 1), (2278, .iadd, 1), (2279, .iaload, 1), (2280, .invokevirtual 291, 3), (2283, .if_icmp .eq 329, 3), (2286, .iconst 0, 1), (2287, .ireturn, 1), (2288, .aload_n 1, 1), (2289, .aload_n 0, 1), (2290, .iload_n 3, 1), (2291, .iconst 1, 1), (2292, .iadd, 1), (2293, .iaload, 1), (2294, .aload_n 0, 1), (2295, .iload_n 3, 1), (2296, .iconst 2, 1), (2297, .iadd, 1)] = true := by decide +kernel
theorem dL_law_2216 : decode cL_law 2216 = .ok (.aload_n 0, 1) := dget daL_law_25 0 rfl
theorem dL_law_2217 : decode cL_law 2217 = .ok (.iload_n 3, 1) := dget daL_law_25 1 rfl
theorem dL_law_2218 : decode cL_law 2218 = .ok (.iconst 2, 1) := dget daL_law_25 2 rfl
theorem dL_law_2219 : decode cL_law 2219 = .ok (.iadd, 1) := dget daL_law_25 3 rfl
theorem dL_law_2220 : decode cL_law 2220 = .ok (.iaload, 1) := dget daL_law_25 4 rfl
theorem dL_law_2221 : decode cL_law 2221 = .ok (.invokevirtual 279, 3) := dget daL_law_25 5 rfl
theorem dL_law_2224 : decode cL_law 2224 = .ok (.if_icmp .eq 388, 3) := dget daL_law_25 6 rfl
theorem dL_law_2227 : decode cL_law 2227 = .ok (.iconst 0, 1) := dget daL_law_25 7 rfl
theorem dL_law_2228 : decode cL_law 2228 = .ok (.ireturn, 1) := dget daL_law_25 8 rfl
theorem dL_law_2229 : decode cL_law 2229 = .ok (.aload_n 1, 1) := dget daL_law_25 9 rfl
theorem dL_law_2230 : decode cL_law 2230 = .ok (.invokevirtual 280, 3) := dget daL_law_25 10 rfl
theorem dL_law_2233 : decode cL_law 2233 = .ok (.aload_n 2, 1) := dget daL_law_25 11 rfl
theorem dL_law_2234 : decode cL_law 2234 = .ok (.invokevirtual 283, 3) := dget daL_law_25 12 rfl
theorem dL_law_2237 : decode cL_law 2237 = .ok (.if_icmp .eq 375, 3) := dget daL_law_25 13 rfl
theorem dL_law_2240 : decode cL_law 2240 = .ok (.iconst 0, 1) := dget daL_law_25 14 rfl
theorem dL_law_2241 : decode cL_law 2241 = .ok (.ireturn, 1) := dget daL_law_25 15 rfl
theorem dL_law_2242 : decode cL_law 2242 = .ok (.aload_n 1, 1) := dget daL_law_25 16 rfl
theorem dL_law_2243 : decode cL_law 2243 = .ok (.invokevirtual 284, 3) := dget daL_law_25 17 rfl
theorem dL_law_2246 : decode cL_law 2246 = .ok (.aload_n 2, 1) := dget daL_law_25 18 rfl
theorem dL_law_2247 : decode cL_law 2247 = .ok (.invokevirtual 287, 3) := dget daL_law_25 19 rfl
theorem dL_law_2250 : decode cL_law 2250 = .ok (.if_icmp .eq 362, 3) := dget daL_law_25 20 rfl
theorem dL_law_2253 : decode cL_law 2253 = .ok (.iconst 0, 1) := dget daL_law_25 21 rfl
theorem dL_law_2254 : decode cL_law 2254 = .ok (.ireturn, 1) := dget daL_law_25 22 rfl
theorem dL_law_2255 : decode cL_law 2255 = .ok (.aload_n 1, 1) := dget daL_law_25 23 rfl
theorem dL_law_2256 : decode cL_law 2256 = .ok (.aload_n 0, 1) := dget daL_law_25 24 rfl
theorem dL_law_2257 : decode cL_law 2257 = .ok (.iload_n 3, 1) := dget daL_law_25 25 rfl
theorem dL_law_2258 : decode cL_law 2258 = .ok (.iconst 1, 1) := dget daL_law_25 26 rfl
theorem dL_law_2259 : decode cL_law 2259 = .ok (.iadd, 1) := dget daL_law_25 27 rfl
theorem dL_law_2260 : decode cL_law 2260 = .ok (.iaload, 1) := dget daL_law_25 28 rfl
theorem dL_law_2261 : decode cL_law 2261 = .ok (.aload_n 0, 1) := dget daL_law_25 29 rfl
theorem dL_law_2262 : decode cL_law 2262 = .ok (.iload_n 3, 1) := dget daL_law_25 30 rfl
theorem dL_law_2263 : decode cL_law 2263 = .ok (.iconst 2, 1) := dget daL_law_25 31 rfl
theorem dL_law_2264 : decode cL_law 2264 = .ok (.iadd, 1) := dget daL_law_25 32 rfl
theorem dL_law_2265 : decode cL_law 2265 = .ok (.iaload, 1) := dget daL_law_25 33 rfl
theorem dL_law_2266 : decode cL_law 2266 = .ok (.invokevirtual 288, 3) := dget daL_law_25 34 rfl
theorem dL_law_2269 : decode cL_law 2269 = .ok (.aload_n 2, 1) := dget daL_law_25 35 rfl
theorem dL_law_2270 : decode cL_law 2270 = .ok (.aload_n 0, 1) := dget daL_law_25 36 rfl
theorem dL_law_2271 : decode cL_law 2271 = .ok (.iload_n 3, 1) := dget daL_law_25 37 rfl
theorem dL_law_2272 : decode cL_law 2272 = .ok (.iconst 1, 1) := dget daL_law_25 38 rfl
theorem dL_law_2273 : decode cL_law 2273 = .ok (.iadd, 1) := dget daL_law_25 39 rfl
theorem dL_law_2274 : decode cL_law 2274 = .ok (.iaload, 1) := dget daL_law_25 40 rfl
theorem dL_law_2275 : decode cL_law 2275 = .ok (.aload_n 0, 1) := dget daL_law_25 41 rfl
theorem dL_law_2276 : decode cL_law 2276 = .ok (.iload_n 3, 1) := dget daL_law_25 42 rfl
theorem dL_law_2277 : decode cL_law 2277 = .ok (.iconst 2, 1) := dget daL_law_25 43 rfl
theorem dL_law_2278 : decode cL_law 2278 = .ok (.iadd, 1) := dget daL_law_25 44 rfl
theorem dL_law_2279 : decode cL_law 2279 = .ok (.iaload, 1) := dget daL_law_25 45 rfl
theorem dL_law_2280 : decode cL_law 2280 = .ok (.invokevirtual 291, 3) := dget daL_law_25 46 rfl
theorem dL_law_2283 : decode cL_law 2283 = .ok (.if_icmp .eq 329, 3) := dget daL_law_25 47 rfl
theorem dL_law_2286 : decode cL_law 2286 = .ok (.iconst 0, 1) := dget daL_law_25 48 rfl
theorem dL_law_2287 : decode cL_law 2287 = .ok (.ireturn, 1) := dget daL_law_25 49 rfl
theorem dL_law_2288 : decode cL_law 2288 = .ok (.aload_n 1, 1) := dget daL_law_25 50 rfl
theorem dL_law_2289 : decode cL_law 2289 = .ok (.aload_n 0, 1) := dget daL_law_25 51 rfl
theorem dL_law_2290 : decode cL_law 2290 = .ok (.iload_n 3, 1) := dget daL_law_25 52 rfl
theorem dL_law_2291 : decode cL_law 2291 = .ok (.iconst 1, 1) := dget daL_law_25 53 rfl
theorem dL_law_2292 : decode cL_law 2292 = .ok (.iadd, 1) := dget daL_law_25 54 rfl
theorem dL_law_2293 : decode cL_law 2293 = .ok (.iaload, 1) := dget daL_law_25 55 rfl
theorem dL_law_2294 : decode cL_law 2294 = .ok (.aload_n 0, 1) := dget daL_law_25 56 rfl
theorem dL_law_2295 : decode cL_law 2295 = .ok (.iload_n 3, 1) := dget daL_law_25 57 rfl
theorem dL_law_2296 : decode cL_law 2296 = .ok (.iconst 2, 1) := dget daL_law_25 58 rfl
theorem dL_law_2297 : decode cL_law 2297 = .ok (.iadd, 1) := dget daL_law_25 59 rfl
set_option maxRecDepth 100000 in
theorem daL_law_26 : dchk cL_law [(2298, .iaload, 1), (2299, .aload_n 0, 1), (2300, .iload_n 3, 1), (2301, .iconst 3, 1), (2302, .iadd, 1), (2303, .iaload, 1), (2304, .invokevirtual 292, 3), (2307, .aload_n 2, 1), (2308, .aload_n 0, 1), (2309, .iload_n 3, 1), (2310, .iconst 1, 1), (2311, .iadd, 1), (2312, .iaload, 1), (2313, .aload_n 0, 1), (2314, .iload_n 3, 1), (2315, .iconst 2, 1), (2316, .iadd, 1), (2317, .iaload, 1), (2318, .aload_n 0, 1), (2319, .iload_n 3, 1), (2320, .iconst 3, 1), (2321, .iadd, 1), (2322, .iaload, 1), (2323, .invokevirtual 295, 3), (2326, .if_icmp .eq 286, 3), (2329, .iconst 0, 1), (2330, .ireturn, 1), (2331, .aload_n 1, 1), (2332, .aload_n 0, 1), (2333, .iload_n 3, 1), (2334, .iconst 1, 1), (2335, .iadd, 1), (2336, .iaload, 1), (2337, .aload_n 0, 1), (2338, .iload_n 3, 1), (2339, .iconst 2, 1), (2340, .iadd, 1), (2341, .iaload, 1), (2342, .invokevirtual 296, 3), (2345, .aload_n 2, 1), (2346, .aload_n 0, 1), (2347, .iload_n 3, 1), (2348, .iconst 1, 1), (2349, .iadd, 1), (2350, .iaload, 1), (2351, .aload_n 0, 1), (2352, .iload_n 3, 1), (2353, .iconst 2, 1), (2354, .iadd, 1), (2355, .iaload, 1), (2356, .invokevirtual 299, 3), (2359, .if_icmp .eq 253, 3), (2362, .iconst 0, 1), (2363, .ireturn, 1), (2364, .aload_n 1, 1), (2365, .aload_n 0, 1), (2366, .iload_n 3, 1), (2367, .iconst 1, 1), (2368, .iadd, 1), (2369, .iaload, 1)] = true := by decide +kernel
theorem dL_law_2298 : decode cL_law 2298 = .ok (.iaload, 1) := dget daL_law_26 0 rfl
theorem dL_law_2299 : decode cL_law 2299 = .ok (.aload_n 0, 1) := dget daL_law_26 1 rfl
theorem dL_law_2300 : decode cL_law 2300 = .ok (.iload_n 3, 1) := dget daL_law_26 2 rfl
theorem dL_law_2301 : decode cL_law 2301 = .ok (.iconst 3, 1) := dget daL_law_26 3 rfl
theorem dL_law_2302 : decode cL_law 2302 = .ok (.iadd, 1) := dget daL_law_26 4 rfl
theorem dL_law_2303 : decode cL_law 2303 = .ok (.iaload, 1) := dget daL_law_26 5 rfl
theorem dL_law_2304 : decode cL_law 2304 = .ok (.invokevirtual 292, 3) := dget daL_law_26 6 rfl
theorem dL_law_2307 : decode cL_law 2307 = .ok (.aload_n 2, 1) := dget daL_law_26 7 rfl
theorem dL_law_2308 : decode cL_law 2308 = .ok (.aload_n 0, 1) := dget daL_law_26 8 rfl
theorem dL_law_2309 : decode cL_law 2309 = .ok (.iload_n 3, 1) := dget daL_law_26 9 rfl
theorem dL_law_2310 : decode cL_law 2310 = .ok (.iconst 1, 1) := dget daL_law_26 10 rfl
theorem dL_law_2311 : decode cL_law 2311 = .ok (.iadd, 1) := dget daL_law_26 11 rfl
theorem dL_law_2312 : decode cL_law 2312 = .ok (.iaload, 1) := dget daL_law_26 12 rfl
theorem dL_law_2313 : decode cL_law 2313 = .ok (.aload_n 0, 1) := dget daL_law_26 13 rfl
theorem dL_law_2314 : decode cL_law 2314 = .ok (.iload_n 3, 1) := dget daL_law_26 14 rfl
theorem dL_law_2315 : decode cL_law 2315 = .ok (.iconst 2, 1) := dget daL_law_26 15 rfl
theorem dL_law_2316 : decode cL_law 2316 = .ok (.iadd, 1) := dget daL_law_26 16 rfl
theorem dL_law_2317 : decode cL_law 2317 = .ok (.iaload, 1) := dget daL_law_26 17 rfl
theorem dL_law_2318 : decode cL_law 2318 = .ok (.aload_n 0, 1) := dget daL_law_26 18 rfl
theorem dL_law_2319 : decode cL_law 2319 = .ok (.iload_n 3, 1) := dget daL_law_26 19 rfl
theorem dL_law_2320 : decode cL_law 2320 = .ok (.iconst 3, 1) := dget daL_law_26 20 rfl
theorem dL_law_2321 : decode cL_law 2321 = .ok (.iadd, 1) := dget daL_law_26 21 rfl
theorem dL_law_2322 : decode cL_law 2322 = .ok (.iaload, 1) := dget daL_law_26 22 rfl
theorem dL_law_2323 : decode cL_law 2323 = .ok (.invokevirtual 295, 3) := dget daL_law_26 23 rfl
theorem dL_law_2326 : decode cL_law 2326 = .ok (.if_icmp .eq 286, 3) := dget daL_law_26 24 rfl
theorem dL_law_2329 : decode cL_law 2329 = .ok (.iconst 0, 1) := dget daL_law_26 25 rfl
theorem dL_law_2330 : decode cL_law 2330 = .ok (.ireturn, 1) := dget daL_law_26 26 rfl
theorem dL_law_2331 : decode cL_law 2331 = .ok (.aload_n 1, 1) := dget daL_law_26 27 rfl
theorem dL_law_2332 : decode cL_law 2332 = .ok (.aload_n 0, 1) := dget daL_law_26 28 rfl
theorem dL_law_2333 : decode cL_law 2333 = .ok (.iload_n 3, 1) := dget daL_law_26 29 rfl
theorem dL_law_2334 : decode cL_law 2334 = .ok (.iconst 1, 1) := dget daL_law_26 30 rfl
theorem dL_law_2335 : decode cL_law 2335 = .ok (.iadd, 1) := dget daL_law_26 31 rfl
theorem dL_law_2336 : decode cL_law 2336 = .ok (.iaload, 1) := dget daL_law_26 32 rfl
theorem dL_law_2337 : decode cL_law 2337 = .ok (.aload_n 0, 1) := dget daL_law_26 33 rfl
theorem dL_law_2338 : decode cL_law 2338 = .ok (.iload_n 3, 1) := dget daL_law_26 34 rfl
theorem dL_law_2339 : decode cL_law 2339 = .ok (.iconst 2, 1) := dget daL_law_26 35 rfl
theorem dL_law_2340 : decode cL_law 2340 = .ok (.iadd, 1) := dget daL_law_26 36 rfl
theorem dL_law_2341 : decode cL_law 2341 = .ok (.iaload, 1) := dget daL_law_26 37 rfl
theorem dL_law_2342 : decode cL_law 2342 = .ok (.invokevirtual 296, 3) := dget daL_law_26 38 rfl
theorem dL_law_2345 : decode cL_law 2345 = .ok (.aload_n 2, 1) := dget daL_law_26 39 rfl
theorem dL_law_2346 : decode cL_law 2346 = .ok (.aload_n 0, 1) := dget daL_law_26 40 rfl
theorem dL_law_2347 : decode cL_law 2347 = .ok (.iload_n 3, 1) := dget daL_law_26 41 rfl
theorem dL_law_2348 : decode cL_law 2348 = .ok (.iconst 1, 1) := dget daL_law_26 42 rfl
theorem dL_law_2349 : decode cL_law 2349 = .ok (.iadd, 1) := dget daL_law_26 43 rfl
theorem dL_law_2350 : decode cL_law 2350 = .ok (.iaload, 1) := dget daL_law_26 44 rfl
theorem dL_law_2351 : decode cL_law 2351 = .ok (.aload_n 0, 1) := dget daL_law_26 45 rfl
theorem dL_law_2352 : decode cL_law 2352 = .ok (.iload_n 3, 1) := dget daL_law_26 46 rfl
theorem dL_law_2353 : decode cL_law 2353 = .ok (.iconst 2, 1) := dget daL_law_26 47 rfl
theorem dL_law_2354 : decode cL_law 2354 = .ok (.iadd, 1) := dget daL_law_26 48 rfl
theorem dL_law_2355 : decode cL_law 2355 = .ok (.iaload, 1) := dget daL_law_26 49 rfl
theorem dL_law_2356 : decode cL_law 2356 = .ok (.invokevirtual 299, 3) := dget daL_law_26 50 rfl
theorem dL_law_2359 : decode cL_law 2359 = .ok (.if_icmp .eq 253, 3) := dget daL_law_26 51 rfl
theorem dL_law_2362 : decode cL_law 2362 = .ok (.iconst 0, 1) := dget daL_law_26 52 rfl
theorem dL_law_2363 : decode cL_law 2363 = .ok (.ireturn, 1) := dget daL_law_26 53 rfl
theorem dL_law_2364 : decode cL_law 2364 = .ok (.aload_n 1, 1) := dget daL_law_26 54 rfl
theorem dL_law_2365 : decode cL_law 2365 = .ok (.aload_n 0, 1) := dget daL_law_26 55 rfl
theorem dL_law_2366 : decode cL_law 2366 = .ok (.iload_n 3, 1) := dget daL_law_26 56 rfl
theorem dL_law_2367 : decode cL_law 2367 = .ok (.iconst 1, 1) := dget daL_law_26 57 rfl
theorem dL_law_2368 : decode cL_law 2368 = .ok (.iadd, 1) := dget daL_law_26 58 rfl
theorem dL_law_2369 : decode cL_law 2369 = .ok (.iaload, 1) := dget daL_law_26 59 rfl
set_option maxRecDepth 100000 in
theorem daL_law_27 : dchk cL_law [(2370, .invokevirtual 300, 3), (2373, .aload_n 2, 1), (2374, .aload_n 0, 1), (2375, .iload_n 3, 1), (2376, .iconst 1, 1), (2377, .iadd, 1), (2378, .iaload, 1), (2379, .invokevirtual 303, 3), (2382, .if_icmp .eq 230, 3), (2385, .iconst 0, 1), (2386, .ireturn, 1), (2387, .aload_n 1, 1), (2388, .aload_n 0, 1), (2389, .iload_n 3, 1), (2390, .iconst 1, 1), (2391, .iadd, 1), (2392, .iaload, 1), (2393, .invokevirtual 304, 3), (2396, .aload_n 2, 1), (2397, .aload_n 0, 1), (2398, .iload_n 3, 1), (2399, .iconst 1, 1), (2400, .iadd, 1), (2401, .iaload, 1), (2402, .invokevirtual 307, 3), (2405, .if_icmp .eq 207, 3), (2408, .iconst 0, 1), (2409, .ireturn, 1), (2410, .aload_n 1, 1), (2411, .aload_n 0, 1), (2412, .iload_n 3, 1), (2413, .iconst 1, 1), (2414, .iadd, 1), (2415, .iaload, 1), (2416, .invokevirtual 308, 3), (2419, .aload_n 2, 1), (2420, .aload_n 0, 1), (2421, .iload_n 3, 1), (2422, .iconst 1, 1), (2423, .iadd, 1), (2424, .iaload, 1), (2425, .invokevirtual 311, 3), (2428, .if_icmp .eq 184, 3), (2431, .iconst 0, 1), (2432, .ireturn, 1), (2433, .aload_n 1, 1), (2434, .aload_n 0, 1), (2435, .iload_n 3, 1), (2436, .iconst 1, 1), (2437, .iadd, 1), (2438, .iaload, 1), (2439, .aload_n 0, 1), (2440, .iload_n 3, 1), (2441, .iconst 2, 1), (2442, .iadd, 1), (2443, .iaload, 1), (2444, .aload_n 0, 1), (2445, .iload_n 3, 1), (2446, .iconst 3, 1), (2447, .iadd, 1)] = true := by decide +kernel
theorem dL_law_2370 : decode cL_law 2370 = .ok (.invokevirtual 300, 3) := dget daL_law_27 0 rfl
theorem dL_law_2373 : decode cL_law 2373 = .ok (.aload_n 2, 1) := dget daL_law_27 1 rfl
theorem dL_law_2374 : decode cL_law 2374 = .ok (.aload_n 0, 1) := dget daL_law_27 2 rfl
theorem dL_law_2375 : decode cL_law 2375 = .ok (.iload_n 3, 1) := dget daL_law_27 3 rfl
theorem dL_law_2376 : decode cL_law 2376 = .ok (.iconst 1, 1) := dget daL_law_27 4 rfl
theorem dL_law_2377 : decode cL_law 2377 = .ok (.iadd, 1) := dget daL_law_27 5 rfl
theorem dL_law_2378 : decode cL_law 2378 = .ok (.iaload, 1) := dget daL_law_27 6 rfl
theorem dL_law_2379 : decode cL_law 2379 = .ok (.invokevirtual 303, 3) := dget daL_law_27 7 rfl
theorem dL_law_2382 : decode cL_law 2382 = .ok (.if_icmp .eq 230, 3) := dget daL_law_27 8 rfl
theorem dL_law_2385 : decode cL_law 2385 = .ok (.iconst 0, 1) := dget daL_law_27 9 rfl
theorem dL_law_2386 : decode cL_law 2386 = .ok (.ireturn, 1) := dget daL_law_27 10 rfl
theorem dL_law_2387 : decode cL_law 2387 = .ok (.aload_n 1, 1) := dget daL_law_27 11 rfl
theorem dL_law_2388 : decode cL_law 2388 = .ok (.aload_n 0, 1) := dget daL_law_27 12 rfl
theorem dL_law_2389 : decode cL_law 2389 = .ok (.iload_n 3, 1) := dget daL_law_27 13 rfl
theorem dL_law_2390 : decode cL_law 2390 = .ok (.iconst 1, 1) := dget daL_law_27 14 rfl
theorem dL_law_2391 : decode cL_law 2391 = .ok (.iadd, 1) := dget daL_law_27 15 rfl
theorem dL_law_2392 : decode cL_law 2392 = .ok (.iaload, 1) := dget daL_law_27 16 rfl
theorem dL_law_2393 : decode cL_law 2393 = .ok (.invokevirtual 304, 3) := dget daL_law_27 17 rfl
theorem dL_law_2396 : decode cL_law 2396 = .ok (.aload_n 2, 1) := dget daL_law_27 18 rfl
theorem dL_law_2397 : decode cL_law 2397 = .ok (.aload_n 0, 1) := dget daL_law_27 19 rfl
theorem dL_law_2398 : decode cL_law 2398 = .ok (.iload_n 3, 1) := dget daL_law_27 20 rfl
theorem dL_law_2399 : decode cL_law 2399 = .ok (.iconst 1, 1) := dget daL_law_27 21 rfl
theorem dL_law_2400 : decode cL_law 2400 = .ok (.iadd, 1) := dget daL_law_27 22 rfl
theorem dL_law_2401 : decode cL_law 2401 = .ok (.iaload, 1) := dget daL_law_27 23 rfl
theorem dL_law_2402 : decode cL_law 2402 = .ok (.invokevirtual 307, 3) := dget daL_law_27 24 rfl
theorem dL_law_2405 : decode cL_law 2405 = .ok (.if_icmp .eq 207, 3) := dget daL_law_27 25 rfl
theorem dL_law_2408 : decode cL_law 2408 = .ok (.iconst 0, 1) := dget daL_law_27 26 rfl
theorem dL_law_2409 : decode cL_law 2409 = .ok (.ireturn, 1) := dget daL_law_27 27 rfl
theorem dL_law_2410 : decode cL_law 2410 = .ok (.aload_n 1, 1) := dget daL_law_27 28 rfl
theorem dL_law_2411 : decode cL_law 2411 = .ok (.aload_n 0, 1) := dget daL_law_27 29 rfl
theorem dL_law_2412 : decode cL_law 2412 = .ok (.iload_n 3, 1) := dget daL_law_27 30 rfl
theorem dL_law_2413 : decode cL_law 2413 = .ok (.iconst 1, 1) := dget daL_law_27 31 rfl
theorem dL_law_2414 : decode cL_law 2414 = .ok (.iadd, 1) := dget daL_law_27 32 rfl
theorem dL_law_2415 : decode cL_law 2415 = .ok (.iaload, 1) := dget daL_law_27 33 rfl
theorem dL_law_2416 : decode cL_law 2416 = .ok (.invokevirtual 308, 3) := dget daL_law_27 34 rfl
theorem dL_law_2419 : decode cL_law 2419 = .ok (.aload_n 2, 1) := dget daL_law_27 35 rfl
theorem dL_law_2420 : decode cL_law 2420 = .ok (.aload_n 0, 1) := dget daL_law_27 36 rfl
theorem dL_law_2421 : decode cL_law 2421 = .ok (.iload_n 3, 1) := dget daL_law_27 37 rfl
theorem dL_law_2422 : decode cL_law 2422 = .ok (.iconst 1, 1) := dget daL_law_27 38 rfl
theorem dL_law_2423 : decode cL_law 2423 = .ok (.iadd, 1) := dget daL_law_27 39 rfl
theorem dL_law_2424 : decode cL_law 2424 = .ok (.iaload, 1) := dget daL_law_27 40 rfl
theorem dL_law_2425 : decode cL_law 2425 = .ok (.invokevirtual 311, 3) := dget daL_law_27 41 rfl
theorem dL_law_2428 : decode cL_law 2428 = .ok (.if_icmp .eq 184, 3) := dget daL_law_27 42 rfl
theorem dL_law_2431 : decode cL_law 2431 = .ok (.iconst 0, 1) := dget daL_law_27 43 rfl
theorem dL_law_2432 : decode cL_law 2432 = .ok (.ireturn, 1) := dget daL_law_27 44 rfl
theorem dL_law_2433 : decode cL_law 2433 = .ok (.aload_n 1, 1) := dget daL_law_27 45 rfl
theorem dL_law_2434 : decode cL_law 2434 = .ok (.aload_n 0, 1) := dget daL_law_27 46 rfl
theorem dL_law_2435 : decode cL_law 2435 = .ok (.iload_n 3, 1) := dget daL_law_27 47 rfl
theorem dL_law_2436 : decode cL_law 2436 = .ok (.iconst 1, 1) := dget daL_law_27 48 rfl
theorem dL_law_2437 : decode cL_law 2437 = .ok (.iadd, 1) := dget daL_law_27 49 rfl
theorem dL_law_2438 : decode cL_law 2438 = .ok (.iaload, 1) := dget daL_law_27 50 rfl
theorem dL_law_2439 : decode cL_law 2439 = .ok (.aload_n 0, 1) := dget daL_law_27 51 rfl
theorem dL_law_2440 : decode cL_law 2440 = .ok (.iload_n 3, 1) := dget daL_law_27 52 rfl
theorem dL_law_2441 : decode cL_law 2441 = .ok (.iconst 2, 1) := dget daL_law_27 53 rfl
theorem dL_law_2442 : decode cL_law 2442 = .ok (.iadd, 1) := dget daL_law_27 54 rfl
theorem dL_law_2443 : decode cL_law 2443 = .ok (.iaload, 1) := dget daL_law_27 55 rfl
theorem dL_law_2444 : decode cL_law 2444 = .ok (.aload_n 0, 1) := dget daL_law_27 56 rfl
theorem dL_law_2445 : decode cL_law 2445 = .ok (.iload_n 3, 1) := dget daL_law_27 57 rfl
theorem dL_law_2446 : decode cL_law 2446 = .ok (.iconst 3, 1) := dget daL_law_27 58 rfl
theorem dL_law_2447 : decode cL_law 2447 = .ok (.iadd, 1) := dget daL_law_27 59 rfl
set_option maxRecDepth 100000 in
theorem daL_law_28 : dchk cL_law [(2448, .iaload, 1), (2449, .invokevirtual 312, 3), (2452, .aload_n 2, 1), (2453, .aload_n 0, 1), (2454, .iload_n 3, 1), (2455, .iconst 1, 1), (2456, .iadd, 1), (2457, .iaload, 1), (2458, .aload_n 0, 1), (2459, .iload_n 3, 1), (2460, .iconst 2, 1), (2461, .iadd, 1), (2462, .iaload, 1), (2463, .aload_n 0, 1), (2464, .iload_n 3, 1), (2465, .iconst 3, 1), (2466, .iadd, 1), (2467, .iaload, 1), (2468, .invokevirtual 315, 3), (2471, .if_icmp .eq 141, 3), (2474, .iconst 0, 1), (2475, .ireturn, 1), (2476, .aload_n 1, 1), (2477, .aload_n 0, 1), (2478, .iload_n 3, 1), (2479, .iconst 1, 1), (2480, .iadd, 1), (2481, .iaload, 1), (2482, .aload_n 0, 1), (2483, .iload_n 3, 1), (2484, .iconst 2, 1), (2485, .iadd, 1), (2486, .iaload, 1), (2487, .aload_n 0, 1), (2488, .iload_n 3, 1), (2489, .iconst 3, 1), (2490, .iadd, 1), (2491, .iaload, 1), (2492, .i2l, 1), (2493, .bipush 32, 2), (2495, .lshl, 1), (2496, .aload_n 0, 1), (2497, .iload_n 3, 1), (2498, .iconst 4, 1), (2499, .iadd, 1), (2500, .iaload, 1), (2501, .i2l, 1), (2502, .ldc2_w 316, 3), (2505, .land, 1), (2506, .lor, 1), (2507, .invokevirtual 318, 3), (2510, .aload_n 2, 1), (2511, .aload_n 0, 1), (2512, .iload_n 3, 1), (2513, .iconst 1, 1), (2514, .iadd, 1), (2515, .iaload, 1), (2516, .aload_n 0, 1), (2517, .iload_n 3, 1), (2518, .iconst 2, 1)] = true := by decide +kernel
theorem dL_law_2448 : decode cL_law 2448 = .ok (.iaload, 1) := dget daL_law_28 0 rfl
theorem dL_law_2449 : decode cL_law 2449 = .ok (.invokevirtual 312, 3) := dget daL_law_28 1 rfl
theorem dL_law_2452 : decode cL_law 2452 = .ok (.aload_n 2, 1) := dget daL_law_28 2 rfl
theorem dL_law_2453 : decode cL_law 2453 = .ok (.aload_n 0, 1) := dget daL_law_28 3 rfl
theorem dL_law_2454 : decode cL_law 2454 = .ok (.iload_n 3, 1) := dget daL_law_28 4 rfl
theorem dL_law_2455 : decode cL_law 2455 = .ok (.iconst 1, 1) := dget daL_law_28 5 rfl
theorem dL_law_2456 : decode cL_law 2456 = .ok (.iadd, 1) := dget daL_law_28 6 rfl
theorem dL_law_2457 : decode cL_law 2457 = .ok (.iaload, 1) := dget daL_law_28 7 rfl
theorem dL_law_2458 : decode cL_law 2458 = .ok (.aload_n 0, 1) := dget daL_law_28 8 rfl
theorem dL_law_2459 : decode cL_law 2459 = .ok (.iload_n 3, 1) := dget daL_law_28 9 rfl
theorem dL_law_2460 : decode cL_law 2460 = .ok (.iconst 2, 1) := dget daL_law_28 10 rfl
theorem dL_law_2461 : decode cL_law 2461 = .ok (.iadd, 1) := dget daL_law_28 11 rfl
theorem dL_law_2462 : decode cL_law 2462 = .ok (.iaload, 1) := dget daL_law_28 12 rfl
theorem dL_law_2463 : decode cL_law 2463 = .ok (.aload_n 0, 1) := dget daL_law_28 13 rfl
theorem dL_law_2464 : decode cL_law 2464 = .ok (.iload_n 3, 1) := dget daL_law_28 14 rfl
theorem dL_law_2465 : decode cL_law 2465 = .ok (.iconst 3, 1) := dget daL_law_28 15 rfl
theorem dL_law_2466 : decode cL_law 2466 = .ok (.iadd, 1) := dget daL_law_28 16 rfl
theorem dL_law_2467 : decode cL_law 2467 = .ok (.iaload, 1) := dget daL_law_28 17 rfl
theorem dL_law_2468 : decode cL_law 2468 = .ok (.invokevirtual 315, 3) := dget daL_law_28 18 rfl
theorem dL_law_2471 : decode cL_law 2471 = .ok (.if_icmp .eq 141, 3) := dget daL_law_28 19 rfl
theorem dL_law_2474 : decode cL_law 2474 = .ok (.iconst 0, 1) := dget daL_law_28 20 rfl
theorem dL_law_2475 : decode cL_law 2475 = .ok (.ireturn, 1) := dget daL_law_28 21 rfl
theorem dL_law_2476 : decode cL_law 2476 = .ok (.aload_n 1, 1) := dget daL_law_28 22 rfl
theorem dL_law_2477 : decode cL_law 2477 = .ok (.aload_n 0, 1) := dget daL_law_28 23 rfl
theorem dL_law_2478 : decode cL_law 2478 = .ok (.iload_n 3, 1) := dget daL_law_28 24 rfl
theorem dL_law_2479 : decode cL_law 2479 = .ok (.iconst 1, 1) := dget daL_law_28 25 rfl
theorem dL_law_2480 : decode cL_law 2480 = .ok (.iadd, 1) := dget daL_law_28 26 rfl
theorem dL_law_2481 : decode cL_law 2481 = .ok (.iaload, 1) := dget daL_law_28 27 rfl
theorem dL_law_2482 : decode cL_law 2482 = .ok (.aload_n 0, 1) := dget daL_law_28 28 rfl
theorem dL_law_2483 : decode cL_law 2483 = .ok (.iload_n 3, 1) := dget daL_law_28 29 rfl
theorem dL_law_2484 : decode cL_law 2484 = .ok (.iconst 2, 1) := dget daL_law_28 30 rfl
theorem dL_law_2485 : decode cL_law 2485 = .ok (.iadd, 1) := dget daL_law_28 31 rfl
theorem dL_law_2486 : decode cL_law 2486 = .ok (.iaload, 1) := dget daL_law_28 32 rfl
theorem dL_law_2487 : decode cL_law 2487 = .ok (.aload_n 0, 1) := dget daL_law_28 33 rfl
theorem dL_law_2488 : decode cL_law 2488 = .ok (.iload_n 3, 1) := dget daL_law_28 34 rfl
theorem dL_law_2489 : decode cL_law 2489 = .ok (.iconst 3, 1) := dget daL_law_28 35 rfl
theorem dL_law_2490 : decode cL_law 2490 = .ok (.iadd, 1) := dget daL_law_28 36 rfl
theorem dL_law_2491 : decode cL_law 2491 = .ok (.iaload, 1) := dget daL_law_28 37 rfl
theorem dL_law_2492 : decode cL_law 2492 = .ok (.i2l, 1) := dget daL_law_28 38 rfl
theorem dL_law_2493 : decode cL_law 2493 = .ok (.bipush 32, 2) := dget daL_law_28 39 rfl
theorem dL_law_2495 : decode cL_law 2495 = .ok (.lshl, 1) := dget daL_law_28 40 rfl
theorem dL_law_2496 : decode cL_law 2496 = .ok (.aload_n 0, 1) := dget daL_law_28 41 rfl
theorem dL_law_2497 : decode cL_law 2497 = .ok (.iload_n 3, 1) := dget daL_law_28 42 rfl
theorem dL_law_2498 : decode cL_law 2498 = .ok (.iconst 4, 1) := dget daL_law_28 43 rfl
theorem dL_law_2499 : decode cL_law 2499 = .ok (.iadd, 1) := dget daL_law_28 44 rfl
theorem dL_law_2500 : decode cL_law 2500 = .ok (.iaload, 1) := dget daL_law_28 45 rfl
theorem dL_law_2501 : decode cL_law 2501 = .ok (.i2l, 1) := dget daL_law_28 46 rfl
theorem dL_law_2502 : decode cL_law 2502 = .ok (.ldc2_w 316, 3) := dget daL_law_28 47 rfl
theorem dL_law_2505 : decode cL_law 2505 = .ok (.land, 1) := dget daL_law_28 48 rfl
theorem dL_law_2506 : decode cL_law 2506 = .ok (.lor, 1) := dget daL_law_28 49 rfl
theorem dL_law_2507 : decode cL_law 2507 = .ok (.invokevirtual 318, 3) := dget daL_law_28 50 rfl
theorem dL_law_2510 : decode cL_law 2510 = .ok (.aload_n 2, 1) := dget daL_law_28 51 rfl
theorem dL_law_2511 : decode cL_law 2511 = .ok (.aload_n 0, 1) := dget daL_law_28 52 rfl
theorem dL_law_2512 : decode cL_law 2512 = .ok (.iload_n 3, 1) := dget daL_law_28 53 rfl
theorem dL_law_2513 : decode cL_law 2513 = .ok (.iconst 1, 1) := dget daL_law_28 54 rfl
theorem dL_law_2514 : decode cL_law 2514 = .ok (.iadd, 1) := dget daL_law_28 55 rfl
theorem dL_law_2515 : decode cL_law 2515 = .ok (.iaload, 1) := dget daL_law_28 56 rfl
theorem dL_law_2516 : decode cL_law 2516 = .ok (.aload_n 0, 1) := dget daL_law_28 57 rfl
theorem dL_law_2517 : decode cL_law 2517 = .ok (.iload_n 3, 1) := dget daL_law_28 58 rfl
theorem dL_law_2518 : decode cL_law 2518 = .ok (.iconst 2, 1) := dget daL_law_28 59 rfl
set_option maxRecDepth 100000 in
theorem daL_law_29 : dchk cL_law [(2519, .iadd, 1), (2520, .iaload, 1), (2521, .aload_n 0, 1), (2522, .iload_n 3, 1), (2523, .iconst 3, 1), (2524, .iadd, 1), (2525, .iaload, 1), (2526, .i2l, 1), (2527, .bipush 32, 2), (2529, .lshl, 1), (2530, .aload_n 0, 1), (2531, .iload_n 3, 1), (2532, .iconst 4, 1), (2533, .iadd, 1), (2534, .iaload, 1), (2535, .i2l, 1), (2536, .ldc2_w 316, 3), (2539, .land, 1), (2540, .lor, 1), (2541, .invokevirtual 322, 3), (2544, .if_icmp .eq 68, 3), (2547, .iconst 0, 1), (2548, .ireturn, 1), (2549, .aload_n 1, 1), (2550, .aload_n 0, 1), (2551, .iload_n 3, 1), (2552, .iconst 1, 1), (2553, .iadd, 1), (2554, .iaload, 1), (2555, .aload_n 0, 1), (2556, .iload_n 3, 1), (2557, .iconst 2, 1), (2558, .iadd, 1), (2559, .iaload, 1), (2560, .aload_n 0, 1), (2561, .iload_n 3, 1), (2562, .iconst 3, 1), (2563, .iadd, 1), (2564, .iaload, 1), (2565, .aload_n 0, 1), (2566, .iload_n 3, 1), (2567, .iconst 4, 1), (2568, .iadd, 1), (2569, .iaload, 1), (2570, .aload_n 0, 1), (2571, .iload_n 3, 1), (2572, .iconst 5, 1), (2573, .iadd, 1), (2574, .iaload, 1), (2575, .invokevirtual 323, 3), (2578, .aload_n 2, 1), (2579, .aload_n 0, 1), (2580, .iload_n 3, 1), (2581, .iconst 1, 1), (2582, .iadd, 1), (2583, .iaload, 1), (2584, .aload_n 0, 1), (2585, .iload_n 3, 1), (2586, .iconst 2, 1), (2587, .iadd, 1)] = true := by decide +kernel
theorem dL_law_2519 : decode cL_law 2519 = .ok (.iadd, 1) := dget daL_law_29 0 rfl
theorem dL_law_2520 : decode cL_law 2520 = .ok (.iaload, 1) := dget daL_law_29 1 rfl
theorem dL_law_2521 : decode cL_law 2521 = .ok (.aload_n 0, 1) := dget daL_law_29 2 rfl
theorem dL_law_2522 : decode cL_law 2522 = .ok (.iload_n 3, 1) := dget daL_law_29 3 rfl
theorem dL_law_2523 : decode cL_law 2523 = .ok (.iconst 3, 1) := dget daL_law_29 4 rfl
theorem dL_law_2524 : decode cL_law 2524 = .ok (.iadd, 1) := dget daL_law_29 5 rfl
theorem dL_law_2525 : decode cL_law 2525 = .ok (.iaload, 1) := dget daL_law_29 6 rfl
theorem dL_law_2526 : decode cL_law 2526 = .ok (.i2l, 1) := dget daL_law_29 7 rfl
theorem dL_law_2527 : decode cL_law 2527 = .ok (.bipush 32, 2) := dget daL_law_29 8 rfl
theorem dL_law_2529 : decode cL_law 2529 = .ok (.lshl, 1) := dget daL_law_29 9 rfl
theorem dL_law_2530 : decode cL_law 2530 = .ok (.aload_n 0, 1) := dget daL_law_29 10 rfl
theorem dL_law_2531 : decode cL_law 2531 = .ok (.iload_n 3, 1) := dget daL_law_29 11 rfl
theorem dL_law_2532 : decode cL_law 2532 = .ok (.iconst 4, 1) := dget daL_law_29 12 rfl
theorem dL_law_2533 : decode cL_law 2533 = .ok (.iadd, 1) := dget daL_law_29 13 rfl
theorem dL_law_2534 : decode cL_law 2534 = .ok (.iaload, 1) := dget daL_law_29 14 rfl
theorem dL_law_2535 : decode cL_law 2535 = .ok (.i2l, 1) := dget daL_law_29 15 rfl
theorem dL_law_2536 : decode cL_law 2536 = .ok (.ldc2_w 316, 3) := dget daL_law_29 16 rfl
theorem dL_law_2539 : decode cL_law 2539 = .ok (.land, 1) := dget daL_law_29 17 rfl
theorem dL_law_2540 : decode cL_law 2540 = .ok (.lor, 1) := dget daL_law_29 18 rfl
theorem dL_law_2541 : decode cL_law 2541 = .ok (.invokevirtual 322, 3) := dget daL_law_29 19 rfl
theorem dL_law_2544 : decode cL_law 2544 = .ok (.if_icmp .eq 68, 3) := dget daL_law_29 20 rfl
theorem dL_law_2547 : decode cL_law 2547 = .ok (.iconst 0, 1) := dget daL_law_29 21 rfl
theorem dL_law_2548 : decode cL_law 2548 = .ok (.ireturn, 1) := dget daL_law_29 22 rfl
theorem dL_law_2549 : decode cL_law 2549 = .ok (.aload_n 1, 1) := dget daL_law_29 23 rfl
theorem dL_law_2550 : decode cL_law 2550 = .ok (.aload_n 0, 1) := dget daL_law_29 24 rfl
theorem dL_law_2551 : decode cL_law 2551 = .ok (.iload_n 3, 1) := dget daL_law_29 25 rfl
theorem dL_law_2552 : decode cL_law 2552 = .ok (.iconst 1, 1) := dget daL_law_29 26 rfl
theorem dL_law_2553 : decode cL_law 2553 = .ok (.iadd, 1) := dget daL_law_29 27 rfl
theorem dL_law_2554 : decode cL_law 2554 = .ok (.iaload, 1) := dget daL_law_29 28 rfl
theorem dL_law_2555 : decode cL_law 2555 = .ok (.aload_n 0, 1) := dget daL_law_29 29 rfl
theorem dL_law_2556 : decode cL_law 2556 = .ok (.iload_n 3, 1) := dget daL_law_29 30 rfl
theorem dL_law_2557 : decode cL_law 2557 = .ok (.iconst 2, 1) := dget daL_law_29 31 rfl
theorem dL_law_2558 : decode cL_law 2558 = .ok (.iadd, 1) := dget daL_law_29 32 rfl
theorem dL_law_2559 : decode cL_law 2559 = .ok (.iaload, 1) := dget daL_law_29 33 rfl
theorem dL_law_2560 : decode cL_law 2560 = .ok (.aload_n 0, 1) := dget daL_law_29 34 rfl
theorem dL_law_2561 : decode cL_law 2561 = .ok (.iload_n 3, 1) := dget daL_law_29 35 rfl
theorem dL_law_2562 : decode cL_law 2562 = .ok (.iconst 3, 1) := dget daL_law_29 36 rfl
theorem dL_law_2563 : decode cL_law 2563 = .ok (.iadd, 1) := dget daL_law_29 37 rfl
theorem dL_law_2564 : decode cL_law 2564 = .ok (.iaload, 1) := dget daL_law_29 38 rfl
theorem dL_law_2565 : decode cL_law 2565 = .ok (.aload_n 0, 1) := dget daL_law_29 39 rfl
theorem dL_law_2566 : decode cL_law 2566 = .ok (.iload_n 3, 1) := dget daL_law_29 40 rfl
theorem dL_law_2567 : decode cL_law 2567 = .ok (.iconst 4, 1) := dget daL_law_29 41 rfl
theorem dL_law_2568 : decode cL_law 2568 = .ok (.iadd, 1) := dget daL_law_29 42 rfl
theorem dL_law_2569 : decode cL_law 2569 = .ok (.iaload, 1) := dget daL_law_29 43 rfl
theorem dL_law_2570 : decode cL_law 2570 = .ok (.aload_n 0, 1) := dget daL_law_29 44 rfl
theorem dL_law_2571 : decode cL_law 2571 = .ok (.iload_n 3, 1) := dget daL_law_29 45 rfl
theorem dL_law_2572 : decode cL_law 2572 = .ok (.iconst 5, 1) := dget daL_law_29 46 rfl
theorem dL_law_2573 : decode cL_law 2573 = .ok (.iadd, 1) := dget daL_law_29 47 rfl
theorem dL_law_2574 : decode cL_law 2574 = .ok (.iaload, 1) := dget daL_law_29 48 rfl
theorem dL_law_2575 : decode cL_law 2575 = .ok (.invokevirtual 323, 3) := dget daL_law_29 49 rfl
theorem dL_law_2578 : decode cL_law 2578 = .ok (.aload_n 2, 1) := dget daL_law_29 50 rfl
theorem dL_law_2579 : decode cL_law 2579 = .ok (.aload_n 0, 1) := dget daL_law_29 51 rfl
theorem dL_law_2580 : decode cL_law 2580 = .ok (.iload_n 3, 1) := dget daL_law_29 52 rfl
theorem dL_law_2581 : decode cL_law 2581 = .ok (.iconst 1, 1) := dget daL_law_29 53 rfl
theorem dL_law_2582 : decode cL_law 2582 = .ok (.iadd, 1) := dget daL_law_29 54 rfl
theorem dL_law_2583 : decode cL_law 2583 = .ok (.iaload, 1) := dget daL_law_29 55 rfl
theorem dL_law_2584 : decode cL_law 2584 = .ok (.aload_n 0, 1) := dget daL_law_29 56 rfl
theorem dL_law_2585 : decode cL_law 2585 = .ok (.iload_n 3, 1) := dget daL_law_29 57 rfl
theorem dL_law_2586 : decode cL_law 2586 = .ok (.iconst 2, 1) := dget daL_law_29 58 rfl
theorem dL_law_2587 : decode cL_law 2587 = .ok (.iadd, 1) := dget daL_law_29 59 rfl
set_option maxRecDepth 100000 in
theorem daL_law_30 : dchk cL_law [(2588, .iaload, 1), (2589, .aload_n 0, 1), (2590, .iload_n 3, 1), (2591, .iconst 3, 1), (2592, .iadd, 1), (2593, .iaload, 1), (2594, .aload_n 0, 1), (2595, .iload_n 3, 1), (2596, .iconst 4, 1), (2597, .iadd, 1), (2598, .iaload, 1), (2599, .aload_n 0, 1), (2600, .iload_n 3, 1), (2601, .iconst 5, 1), (2602, .iadd, 1), (2603, .iaload, 1), (2604, .invokevirtual 326, 3), (2607, .if_icmp .eq 5, 3), (2610, .iconst 0, 1), (2611, .ireturn, 1), (2612, .iinc 3 6, 3), (2615, .goto (-2597), 3), (2618, .iconst 1, 1), (2619, .ireturn, 1)] = true := by decide +kernel
theorem dL_law_2588 : decode cL_law 2588 = .ok (.iaload, 1) := dget daL_law_30 0 rfl
theorem dL_law_2589 : decode cL_law 2589 = .ok (.aload_n 0, 1) := dget daL_law_30 1 rfl
theorem dL_law_2590 : decode cL_law 2590 = .ok (.iload_n 3, 1) := dget daL_law_30 2 rfl
theorem dL_law_2591 : decode cL_law 2591 = .ok (.iconst 3, 1) := dget daL_law_30 3 rfl
theorem dL_law_2592 : decode cL_law 2592 = .ok (.iadd, 1) := dget daL_law_30 4 rfl
theorem dL_law_2593 : decode cL_law 2593 = .ok (.iaload, 1) := dget daL_law_30 5 rfl
theorem dL_law_2594 : decode cL_law 2594 = .ok (.aload_n 0, 1) := dget daL_law_30 6 rfl
theorem dL_law_2595 : decode cL_law 2595 = .ok (.iload_n 3, 1) := dget daL_law_30 7 rfl
theorem dL_law_2596 : decode cL_law 2596 = .ok (.iconst 4, 1) := dget daL_law_30 8 rfl
theorem dL_law_2597 : decode cL_law 2597 = .ok (.iadd, 1) := dget daL_law_30 9 rfl
theorem dL_law_2598 : decode cL_law 2598 = .ok (.iaload, 1) := dget daL_law_30 10 rfl
theorem dL_law_2599 : decode cL_law 2599 = .ok (.aload_n 0, 1) := dget daL_law_30 11 rfl
theorem dL_law_2600 : decode cL_law 2600 = .ok (.iload_n 3, 1) := dget daL_law_30 12 rfl
theorem dL_law_2601 : decode cL_law 2601 = .ok (.iconst 5, 1) := dget daL_law_30 13 rfl
theorem dL_law_2602 : decode cL_law 2602 = .ok (.iadd, 1) := dget daL_law_30 14 rfl
theorem dL_law_2603 : decode cL_law 2603 = .ok (.iaload, 1) := dget daL_law_30 15 rfl
theorem dL_law_2604 : decode cL_law 2604 = .ok (.invokevirtual 326, 3) := dget daL_law_30 16 rfl
theorem dL_law_2607 : decode cL_law 2607 = .ok (.if_icmp .eq 5, 3) := dget daL_law_30 17 rfl
theorem dL_law_2610 : decode cL_law 2610 = .ok (.iconst 0, 1) := dget daL_law_30 18 rfl
theorem dL_law_2611 : decode cL_law 2611 = .ok (.ireturn, 1) := dget daL_law_30 19 rfl
theorem dL_law_2612 : decode cL_law 2612 = .ok (.iinc 3 6, 3) := dget daL_law_30 20 rfl
theorem dL_law_2615 : decode cL_law 2615 = .ok (.goto (-2597), 3) := dget daL_law_30 21 rfl
theorem dL_law_2618 : decode cL_law 2618 = .ok (.iconst 1, 1) := dget daL_law_30 22 rfl
theorem dL_law_2619 : decode cL_law 2619 = .ok (.ireturn, 1) := dget daL_law_30 23 rfl
