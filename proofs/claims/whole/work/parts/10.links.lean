set_option maxRecDepth 20000 in
theorem c_iconst_0 : Int32.ofInt 0 = (0 : Int32) := by decide
set_option maxRecDepth 20000 in
theorem c_bipush_70 : (Int8.ofInt 70).toInt32 = (70 : Int32) := by decide
set_option maxRecDepth 20000 in
theorem c_bipush_30 : (Int8.ofInt 30).toInt32 = (30 : Int32) := by decide
set_option maxRecDepth 20000 in
theorem c_bipush_50 : (Int8.ofInt 50).toInt32 = (50 : Int32) := by decide
set_option maxRecDepth 20000 in
theorem c_iconst_3 : Int32.ofInt 3 = (3 : Int32) := by decide
set_option maxRecDepth 20000 in
theorem c_iconst_1 : Int32.ofInt 1 = (1 : Int32) := by decide
set_option maxRecDepth 20000 in
theorem c_bipush_63 : (Int8.ofInt 63).toInt32 = (63 : Int32) := by decide
set_option maxRecDepth 20000 in
theorem c_iconst_2 : Int32.ofInt 2 = (2 : Int32) := by decide
set_option maxRecDepth 20000 in
theorem c_iconst_m1 : Int32.ofInt (-1) = ((-1) : Int32) := by decide
set_option maxRecDepth 20000 in
theorem c_bipush_16 : (Int8.ofInt 16).toInt32 = (16 : Int32) := by decide
set_option maxRecDepth 20000 in
theorem c_bipush_32 : (Int8.ofInt 32).toInt32 = (32 : Int32) := by decide
set_option maxRecDepth 20000 in
theorem c_bipush_127 : (Int8.ofInt 127).toInt32 = (127 : Int32) := by decide
set_option maxRecDepth 20000 in
theorem c_bipush_8 : (Int8.ofInt 8).toInt32 = (8 : Int32) := by decide
set_option maxRecDepth 20000 in
theorem c_iconst_4 : Int32.ofInt 4 = (4 : Int32) := by decide
set_option maxRecDepth 20000 in
theorem c_bipush_m100 : (Int8.ofInt (-100)).toInt32 = ((-100) : Int32) := by decide
set_option maxRecDepth 20000 in
theorem c_bipush_m13 : (Int8.ofInt (-13)).toInt32 = ((-13) : Int32) := by decide
set_option maxRecDepth 20000 in
theorem c_bipush_m14 : (Int8.ofInt (-14)).toInt32 = ((-14) : Int32) := by decide
set_option maxRecDepth 20000 in
theorem c_bipush_17 : (Int8.ofInt 17).toInt32 = (17 : Int32) := by decide
set_option maxRecDepth 20000 in
theorem c_bipush_18 : (Int8.ofInt 18).toInt32 = (18 : Int32) := by decide
set_option maxRecDepth 20000 in
theorem c_bipush_19 : (Int8.ofInt 19).toInt32 = (19 : Int32) := by decide
set_option maxRecDepth 20000 in
theorem c_bipush_99 : (Int8.ofInt 99).toInt32 = (99 : Int32) := by decide
set_option maxRecDepth 20000 in
theorem c_bipush_40 : (Int8.ofInt 40).toInt32 = (40 : Int32) := by decide
set_option maxRecDepth 20000 in
theorem c_iconst_m8 : Int32.ofInt (-8) = ((-8) : Int32) := by decide
set_option maxRecDepth 20000 in
theorem c_bipush_56 : (Int8.ofInt 56).toInt32 = (56 : Int32) := by decide
set_option maxRecDepth 20000 in
theorem c_iconst_5 : Int32.ofInt 5 = (5 : Int32) := by decide
set_option maxRecDepth 20000 in
theorem c_sipush_251 : (Int16.ofInt 251).toInt32 = (251 : Int32) := by decide
set_option maxRecDepth 20000 in
theorem c_sipush_211 : (Int16.ofInt 211).toInt32 = (211 : Int32) := by decide
set_option maxRecDepth 20000 in
theorem c_sipush_255 : (Int16.ofInt 255).toInt32 = (255 : Int32) := by decide
set_option maxRecDepth 20000 in
theorem c_bipush_6 : (Int8.ofInt 6).toInt32 = (6 : Int32) := by decide
set_option maxRecDepth 20000 in
theorem c_bipush_9 : (Int8.ofInt 9).toInt32 = (9 : Int32) := by decide
set_option maxRecDepth 20000 in
theorem c_sipush_999 : (Int16.ofInt 999).toInt32 = (999 : Int32) := by decide
set_option maxRecDepth 20000 in
theorem c_bipush_48 : (Int8.ofInt 48).toInt32 = (48 : Int32) := by decide
set_option maxRecDepth 20000 in
theorem c_bipush_57 : (Int8.ofInt 57).toInt32 = (57 : Int32) := by decide
set_option maxRecDepth 20000 in
theorem c_bipush_97 : (Int8.ofInt 97).toInt32 = (97 : Int32) := by decide
set_option maxRecDepth 20000 in
theorem c_bipush_122 : (Int8.ofInt 122).toInt32 = (122 : Int32) := by decide
set_option maxRecDepth 20000 in
theorem c_bipush_m3 : (Int8.ofInt (-3)).toInt32 = ((-3) : Int32) := by decide
set_option maxRecDepth 20000 in
theorem c_bipush_m4 : (Int8.ofInt (-4)).toInt32 = ((-4) : Int32) := by decide
set_option maxRecDepth 20000 in
theorem c_bipush_10 : (Int8.ofInt 10).toInt32 = (10 : Int32) := by decide
set_option maxRecDepth 20000 in
theorem c_bipush_27 : (Int8.ofInt 27).toInt32 = (27 : Int32) := by decide
set_option maxRecDepth 20000 in
theorem c_bipush_m2 : (Int8.ofInt (-2)).toInt32 = ((-2) : Int32) := by decide
set_option maxRecDepth 20000 in
theorem c_bipush_26 : (Int8.ofInt 26).toInt32 = (26 : Int32) := by decide
set_option maxRecDepth 20000 in
theorem c_sipush_9999 : (Int16.ofInt 9999).toInt32 = (9999 : Int32) := by decide
set_option maxRecDepth 20000 in
theorem c_bipush_12 : (Int8.ofInt 12).toInt32 = (12 : Int32) := by decide
set_option maxRecDepth 20000 in
theorem c_bipush_7 : (Int8.ofInt 7).toInt32 = (7 : Int32) := by decide
set_option maxRecDepth 20000 in
theorem c_bipush_43 : (Int8.ofInt 43).toInt32 = (43 : Int32) := by decide
set_option maxRecDepth 20000 in
theorem c_sipush_1600 : (Int16.ofInt 1600).toInt32 = (1600 : Int32) := by decide
set_option maxRecDepth 20000 in
theorem c_bipush_45 : (Int8.ofInt 45).toInt32 = (45 : Int32) := by decide
set_option maxRecDepth 20000 in
theorem c_bipush_42 : (Int8.ofInt 42).toInt32 = (42 : Int32) := by decide
set_option maxRecDepth 20000 in
theorem c_bipush_47 : (Int8.ofInt 47).toInt32 = (47 : Int32) := by decide
set_option maxRecDepth 20000 in
theorem c_bipush_m5 : (Int8.ofInt (-5)).toInt32 = ((-5) : Int32) := by decide
set_option maxRecDepth 20000 in
theorem c_bipush_37 : (Int8.ofInt 37).toInt32 = (37 : Int32) := by decide
set_option maxRecDepth 20000 in
theorem c_bipush_25 : (Int8.ofInt 25).toInt32 = (25 : Int32) := by decide
set_option maxRecDepth 20000 in
theorem c_bipush_m7 : (Int8.ofInt (-7)).toInt32 = ((-7) : Int32) := by decide
set_option maxRecDepth 20000 in
theorem c_bipush_m6 : (Int8.ofInt (-6)).toInt32 = ((-6) : Int32) := by decide
set_option maxRecDepth 20000 in
theorem c_bipush_20 : (Int8.ofInt 20).toInt32 = (20 : Int32) := by decide
set_option maxRecDepth 20000 in
theorem c_bipush_41 : (Int8.ofInt 41).toInt32 = (41 : Int32) := by decide
set_option maxRecDepth 20000 in
theorem c_bipush_44 : (Int8.ofInt 44).toInt32 = (44 : Int32) := by decide
set_option maxRecDepth 20000 in
theorem c_bipush_21 : (Int8.ofInt 21).toInt32 = (21 : Int32) := by decide
set_option maxRecDepth 20000 in
theorem c_bipush_m12 : (Int8.ofInt (-12)).toInt32 = ((-12) : Int32) := by decide
set_option maxRecDepth 20000 in
theorem c_bipush_22 : (Int8.ofInt 22).toInt32 = (22 : Int32) := by decide
set_option maxRecDepth 20000 in
theorem c_bipush_m11 : (Int8.ofInt (-11)).toInt32 = ((-11) : Int32) := by decide
set_option maxRecDepth 20000 in
theorem c_bipush_23 : (Int8.ofInt 23).toInt32 = (23 : Int32) := by decide
set_option maxRecDepth 20000 in
theorem c_bipush_91 : (Int8.ofInt 91).toInt32 = (91 : Int32) := by decide
set_option maxRecDepth 20000 in
theorem c_bipush_24 : (Int8.ofInt 24).toInt32 = (24 : Int32) := by decide
set_option maxRecDepth 20000 in
theorem c_bipush_93 : (Int8.ofInt 93).toInt32 = (93 : Int32) := by decide
set_option maxRecDepth 20000 in
theorem c_bipush_60 : (Int8.ofInt 60).toInt32 = (60 : Int32) := by decide
set_option maxRecDepth 20000 in
theorem c_bipush_62 : (Int8.ofInt 62).toInt32 = (62 : Int32) := by decide
set_option maxRecDepth 20000 in
theorem c_bipush_m10 : (Int8.ofInt (-10)).toInt32 = ((-10) : Int32) := by decide
set_option maxRecDepth 20000 in
theorem c_bipush_m9 : (Int8.ofInt (-9)).toInt32 = ((-9) : Int32) := by decide
set_option maxRecDepth 20000 in
theorem c_bipush_m8 : (Int8.ofInt (-8)).toInt32 = ((-8) : Int32) := by decide
set_option maxRecDepth 20000 in
theorem c_bipush_61 : (Int8.ofInt 61).toInt32 = (61 : Int32) := by decide
set_option maxRecDepth 20000 in
theorem c_bipush_51 : (Int8.ofInt 51).toInt32 = (51 : Int32) := by decide
set_option maxRecDepth 20000 in
theorem c_bipush_49 : (Int8.ofInt 49).toInt32 = (49 : Int32) := by decide
set_option maxRecDepth 20000 in
theorem c_bipush_100 : (Int8.ofInt 100).toInt32 = (100 : Int32) := by decide
set_option maxRecDepth 20000 in
theorem c_bipush_59 : (Int8.ofInt 59).toInt32 = (59 : Int32) := by decide
set_option maxRecDepth 20000 in
theorem c_bipush_13 : (Int8.ofInt 13).toInt32 = (13 : Int32) := by decide
set_option maxRecDepth 20000 in
theorem c_bipush_14 : (Int8.ofInt 14).toInt32 = (14 : Int32) := by decide
set_option maxRecDepth 20000 in
theorem c_bipush_15 : (Int8.ofInt 15).toInt32 = (15 : Int32) := by decide
set_option maxRecDepth 20000 in
theorem c_sipush_1580 : (Int16.ofInt 1580).toInt32 = (1580 : Int32) := by decide
set_option maxRecDepth 20000 in
theorem c_bipush_31 : (Int8.ofInt 31).toInt32 = (31 : Int32) := by decide
set_option maxRecDepth 20000 in
theorem c_sipush_m1000 : (Int16.ofInt (-1000)).toInt32 = ((-1000) : Int32) := by decide
set_option maxRecDepth 20000 in
theorem c_bipush_64 : (Int8.ofInt 64).toInt32 = (64 : Int32) := by decide
set_option maxRecDepth 20000 in
theorem c_bipush_38 : (Int8.ofInt 38).toInt32 = (38 : Int32) := by decide
set_option maxRecDepth 20000 in
theorem c_bipush_39 : (Int8.ofInt 39).toInt32 = (39 : Int32) := by decide
set_option maxRecDepth 20000 in
theorem c_bipush_36 : (Int8.ofInt 36).toInt32 = (36 : Int32) := by decide
set_option maxRecDepth 20000 in
theorem c_bipush_35 : (Int8.ofInt 35).toInt32 = (35 : Int32) := by decide
set_option maxRecDepth 20000 in
theorem c_bipush_34 : (Int8.ofInt 34).toInt32 = (34 : Int32) := by decide
set_option maxRecDepth 20000 in
theorem c_bipush_33 : (Int8.ofInt 33).toInt32 = (33 : Int32) := by decide
set_option maxRecDepth 20000 in
theorem c_bipush_120 : (Int8.ofInt 120).toInt32 = (120 : Int32) := by decide
set_option maxRecDepth 20000 in
theorem c_iconst_m2 : Int32.ofInt (-2) = ((-2) : Int32) := by decide
set_option maxRecDepth 20000 in
theorem c_bipush_117 : (Int8.ofInt 117).toInt32 = (117 : Int32) := by decide
set_option maxRecDepth 20000 in
theorem c_lconst_0 : Int64.ofNat ((0 : Fin 2) : Nat) = (0 : Int64) := by decide
set_option maxRecDepth 20000 in
theorem c_lconst_1 : Int64.ofNat ((1 : Fin 2) : Nat) = (1 : Int64) := by decide
set_option maxRecDepth 20000 in
theorem k_RJ13_316 : Cond.constantLong RJ13 316 (3689348814741910323 : Int64) ∈ zTb := zW4 131 rfl rfl
set_option maxRecDepth 20000 in
theorem k_RJ13_318 : Cond.constantLong RJ13 318 (1085102592571150095 : Int64) ∈ zTb := zW4 132 rfl rfl
set_option maxRecDepth 20000 in
theorem k_RJ13_314 : Cond.constantLong RJ13 314 (6148914691236517205 : Int64) ∈ zTb := zW4 130 rfl rfl
set_option maxRecDepth 20000 in
theorem k_RX10_125 : Cond.constantLong RX10 125 ((-1000000) : Int64) ∈ zTb := zW4 225 rfl rfl
set_option maxRecDepth 20000 in
theorem k_RX10_127 : Cond.constantLong RX10 127 (1000000 : Int64) ∈ zTb := zW4 226 rfl rfl
set_option maxRecDepth 20000 in
theorem k_RX4_64 : Cond.constantLong RX4 64 (255 : Int64) ∈ zTb := zW6 29 rfl rfl
set_option maxRecDepth 20000 in
theorem k_RX11_390 : Cond.constant RX11 390 (1073741824 : Int32) ∈ zTb := zW4 110 rfl rfl
set_option maxRecDepth 20000 in
theorem k_RX11_310 : Cond.constantLong RX11 310 (1073741823 : Int64) ∈ zTb := zW5 104 rfl rfl
set_option maxRecDepth 20000 in
theorem k_RX11_397 : Cond.constantLong RX11 397 (1103515245 : Int64) ∈ zTb := zW5 229 rfl rfl
set_option maxRecDepth 20000 in
theorem k_RX11_399 : Cond.constantLong RX11 399 (12345 : Int64) ∈ zTb := zW5 230 rfl rfl
set_option maxRecDepth 20000 in
theorem k_RX11_401 : Cond.constantLong RX11 401 (2147483648 : Int64) ∈ zTb := zW5 231 rfl rfl
set_option maxRecDepth 20000 in
theorem k_RX12_271 : Cond.constantLong RX12 271 (439854918756 : Int64) ∈ zTb := zW7 94 rfl rfl
set_option maxRecDepth 20000 in
theorem k_RX12_273 : Cond.constantLong RX12 273 (1886350457 : Int64) ∈ zTb := zW7 118 rfl rfl
set_option maxRecDepth 20000 in
theorem k_RX12_275 : Cond.constantLong RX12 275 (469853168755 : Int64) ∈ zTb := zW7 125 rfl rfl
set_option maxRecDepth 20000 in
theorem k_RX12_277 : Cond.constantLong RX12 277 (495673373300 : Int64) ∈ zTb := zW7 130 rfl rfl
set_option maxRecDepth 20000 in
theorem k_RX12_279 : Cond.constantLong RX12 279 (1885431653 : Int64) ∈ zTb := zW7 147 rfl rfl
set_option maxRecDepth 20000 in
theorem k_RX12_281 : Cond.constantLong RX12 281 (1751738216 : Int64) ∈ zTb := zW7 160 rfl rfl
set_option maxRecDepth 20000 in
theorem k_RX12_283 : Cond.constantLong RX12 283 (7106423 : Int64) ∈ zTb := zW7 161 rfl rfl
set_option maxRecDepth 20000 in
theorem k_RX12_285 : Cond.constantLong RX12 285 (7170404 : Int64) ∈ zTb := zW7 162 rfl rfl
set_option maxRecDepth 20000 in
theorem k_RX12_287 : Cond.constantLong RX12 287 (1937007984 : Int64) ∈ zTb := zW7 163 rfl rfl
set_option maxRecDepth 20000 in
theorem k_RX12_289 : Cond.constantLong RX12 289 (474315584357 : Int64) ∈ zTb := zW7 164 rfl rfl
set_option maxRecDepth 20000 in
theorem k_RX12_291 : Cond.constantLong RX12 291 (110442557371507 : Int64) ∈ zTb := zW7 165 rfl rfl
set_option maxRecDepth 20000 in
theorem k_RX12_293 : Cond.constantLong RX12 293 (500135716211 : Int64) ∈ zTb := zW7 166 rfl rfl
set_option maxRecDepth 20000 in
theorem k_RX12_295 : Cond.constantLong RX12 295 (6578553 : Int64) ∈ zTb := zW7 167 rfl rfl
set_option maxRecDepth 20000 in
theorem k_RX12_297 : Cond.constantLong RX12 297 (1667591276 : Int64) ∈ zTb := zW7 168 rfl rfl
set_option maxRecDepth 20000 in
theorem k_RX12_299 : Cond.constantLong RX12 299 (465558725996 : Int64) ∈ zTb := zW7 169 rfl rfl
set_option maxRecDepth 20000 in
theorem k_RX12_301 : Cond.constantLong RX12 301 (6449524 : Int64) ∈ zTb := zW7 170 rfl rfl
set_option maxRecDepth 20000 in
theorem k_RX12_303 : Cond.constantLong RX12 303 (6383461 : Int64) ∈ zTb := zW7 171 rfl rfl
set_option maxRecDepth 20000 in
theorem k_RX12_305 : Cond.constantLong RX12 305 (500135716196 : Int64) ∈ zTb := zW7 172 rfl rfl
set_option maxRecDepth 20000 in
theorem k_RX12_307 : Cond.constantLong RX12 307 (6775152 : Int64) ∈ zTb := zW7 173 rfl rfl
set_option maxRecDepth 20000 in
theorem k_RX12_309 : Cond.constantLong RX12 309 (24948 : Int64) ∈ zTb := zW7 174 rfl rfl
set_option maxRecDepth 20000 in
theorem k_RX12_311 : Cond.constantLong RX12 311 (26982 : Int64) ∈ zTb := zW7 175 rfl rfl
set_option maxRecDepth 20000 in
theorem k_RX12_313 : Cond.constantLong RX12 313 (28530 : Int64) ∈ zTb := zW7 176 rfl rfl
set_option maxRecDepth 20000 in
theorem k_RX12_315 : Cond.constantLong RX12 315 (6385252 : Int64) ∈ zTb := zW7 177 rfl rfl
set_option maxRecDepth 20000 in
theorem k_RX12_317 : Cond.constantLong RX12 317 (7237492 : Int64) ∈ zTb := zW7 178 rfl rfl
set_option maxRecDepth 20000 in
theorem k_RX12_319 : Cond.constantLong RX12 319 (6384748 : Int64) ∈ zTb := zW7 179 rfl rfl
set_option maxRecDepth 20000 in
theorem k_RX12_321 : Cond.constantLong RX12 321 (7170414 : Int64) ∈ zTb := zW7 180 rfl rfl
set_option maxRecDepth 20000 in
theorem k_RX12_323 : Cond.constantLong RX12 323 (7168376 : Int64) ∈ zTb := zW7 181 rfl rfl
set_option maxRecDepth 20000 in
theorem k_RX12_445 : Cond.constant RX12 445 (1073741823 : Int32) ∈ zTb := zW8 44 rfl rfl
set_option maxRecDepth 20000 in
theorem k_RX12_482 : Cond.constantLong RX12 482 (1000000 : Int64) ∈ zTb := zW8 163 rfl rfl
set_option maxRecDepth 20000 in
theorem k_RX12_484 : Cond.constantLong RX12 484 ((-1000000) : Int64) ∈ zTb := zW8 164 rfl rfl
set_option maxRecDepth 20000 in
theorem k_RX12_526 : Cond.constantLong RX12 526 (99 : Int64) ∈ zTb := zW8 168 rfl rfl
set_option maxRecDepth 20000 in
theorem k_RX12_534 : Cond.constantLong RX12 534 (255 : Int64) ∈ zTb := zW8 116 rfl rfl
set_option maxRecDepth 20000 in
theorem k_RX12_548 : Cond.constantLong RX12 548 (1073741823 : Int64) ∈ zTb := zW8 213 rfl rfl
set_option maxRecDepth 20000 in
theorem k_RX12_553 : Cond.constant RX12 553 (100000000 : Int32) ∈ zTb := zW9 6 rfl rfl
set_option maxRecDepth 20000 in
theorem k_RX12_571 : Cond.constantLong RX12 571 (1103515245 : Int64) ∈ zTb := zW9 55 rfl rfl
set_option maxRecDepth 20000 in
theorem k_RX12_573 : Cond.constantLong RX12 573 (12345 : Int64) ∈ zTb := zW9 56 rfl rfl
set_option maxRecDepth 20000 in
theorem k_RX12_575 : Cond.constantLong RX12 575 (2147483648 : Int64) ∈ zTb := zW9 57 rfl rfl
set_option maxRecDepth 20000 in
theorem k_RX12_577 : Cond.constantLong RX12 577 (64 : Int64) ∈ zTb := zW9 58 rfl rfl
set_option maxRecDepth 20000 in
theorem fl_RX0_25 : zFL RX0 25 0 3 0 := ⟨⟨by decide, by decide, rfl⟩, zW2 115 rfl rfl⟩
set_option maxRecDepth 20000 in
theorem fl_RX0_29 : zFL RX0 29 0 4 0 := ⟨⟨by decide, by decide, rfl⟩, zW2 117 rfl rfl⟩
set_option maxRecDepth 20000 in
theorem fl_RX0_32 : zFL RX0 32 0 5 0 := ⟨⟨by decide, by decide, rfl⟩, zW2 120 rfl rfl⟩
set_option maxRecDepth 20000 in
theorem fl_RX0_35 : zFL RX0 35 0 6 0 := ⟨⟨by decide, by decide, rfl⟩, zW2 123 rfl rfl⟩
set_option maxRecDepth 20000 in
theorem fl_RX0_38 : zFL RX0 38 0 7 0 := ⟨⟨by decide, by decide, rfl⟩, zW2 126 rfl rfl⟩
set_option maxRecDepth 20000 in
theorem fl_RX0_41 : zFL RX0 41 0 8 0 := ⟨⟨by decide, by decide, rfl⟩, zW2 129 rfl rfl⟩
set_option maxRecDepth 20000 in
theorem fl_RX0_44 : zFL RX0 44 0 9 0 := ⟨⟨by decide, by decide, rfl⟩, zW2 132 rfl rfl⟩
set_option maxRecDepth 20000 in
theorem fl_RX0_47 : zFL RX0 47 0 10 0 := ⟨⟨by decide, by decide, rfl⟩, zW2 136 rfl rfl⟩
set_option maxRecDepth 20000 in
theorem fl_RX0_50 : zFL RX0 50 0 11 0 := ⟨⟨by decide, by decide, rfl⟩, zW2 139 rfl rfl⟩
set_option maxRecDepth 20000 in
theorem fl_RX0_53 : zFL RX0 53 0 12 0 := ⟨⟨by decide, by decide, rfl⟩, zW2 143 rfl rfl⟩
set_option maxRecDepth 20000 in
theorem fl_RX0_56 : zFL RX0 56 0 13 0 := ⟨⟨by decide, by decide, rfl⟩, zW2 145 rfl rfl⟩
set_option maxRecDepth 20000 in
theorem fl_RX0_59 : zFL RX0 59 0 14 0 := ⟨⟨by decide, by decide, rfl⟩, zW2 148 rfl rfl⟩
set_option maxRecDepth 20000 in
theorem fl_RX0_18 : zFL RX0 18 0 1 2 := ⟨⟨by decide, by decide, rfl⟩, zW2 110 rfl rfl⟩
set_option maxRecDepth 20000 in
theorem fl_RX0_22 : zFL RX0 22 0 2 2 := ⟨⟨by decide, by decide, rfl⟩, zW2 113 rfl rfl⟩
set_option maxRecDepth 20000 in
theorem fl_RX1_9 : zFL RX1 9 1 0 2 := ⟨⟨by decide, by decide, rfl⟩, zW2 43 rfl rfl⟩
set_option maxRecDepth 20000 in
theorem fl_RX1_15 : zFL RX1 15 1 1 2 := ⟨⟨by decide, by decide, rfl⟩, zW2 46 rfl rfl⟩
set_option maxRecDepth 20000 in
theorem fl_RX1_32 : zFL RX1 32 1 7 0 := ⟨⟨by decide, by decide, rfl⟩, zW2 53 rfl rfl⟩
set_option maxRecDepth 20000 in
theorem fl_RX1_28 : zFL RX1 28 1 6 0 := ⟨⟨by decide, by decide, rfl⟩, zW2 52 rfl rfl⟩
set_option maxRecDepth 20000 in
theorem fl_RX1_42 : zFL RX1 42 1 9 0 := ⟨⟨by decide, by decide, rfl⟩, zW2 60 rfl rfl⟩
set_option maxRecDepth 20000 in
theorem fl_RX1_38 : zFL RX1 38 1 12 1 := ⟨⟨by decide, by decide, rfl⟩, zW2 72 rfl rfl⟩
set_option maxRecDepth 20000 in
theorem fl_RX1_35 : zFL RX1 35 1 8 0 := ⟨⟨by decide, by decide, rfl⟩, zW2 56 rfl rfl⟩
set_option maxRecDepth 20000 in
theorem fl_RX1_57 : zFL RX1 57 1 10 0 := ⟨⟨by decide, by decide, rfl⟩, zW2 64 rfl rfl⟩
set_option maxRecDepth 20000 in
theorem fl_RX1_60 : zFL RX1 60 1 11 0 := ⟨⟨by decide, by decide, rfl⟩, zW2 70 rfl rfl⟩
set_option maxRecDepth 20000 in
theorem fl_RX1_63 : zFL RX1 63 1 5 3 := ⟨⟨by decide, by decide, rfl⟩, zW2 51 rfl rfl⟩
set_option maxRecDepth 20000 in
theorem fl_RX1_25 : zFL RX1 25 1 4 2 := ⟨⟨by decide, by decide, rfl⟩, zW2 50 rfl rfl⟩
set_option maxRecDepth 20000 in
theorem fl_RX1_18 : zFL RX1 18 1 2 2 := ⟨⟨by decide, by decide, rfl⟩, zW2 48 rfl rfl⟩
set_option maxRecDepth 20000 in
theorem fl_RX1_21 : zFL RX1 21 1 3 2 := ⟨⟨by decide, by decide, rfl⟩, zW2 49 rfl rfl⟩
set_option maxRecDepth 20000 in
theorem fl_RX2_27 : zFL RX2 27 2 5 3 := ⟨⟨by decide, by decide, rfl⟩, zW1 61 rfl rfl⟩
set_option maxRecDepth 20000 in
theorem fl_RX2_15 : zFL RX2 15 2 1 2 := ⟨⟨by decide, by decide, rfl⟩, zW1 55 rfl rfl⟩
set_option maxRecDepth 20000 in
theorem fl_RX2_18 : zFL RX2 18 2 2 2 := ⟨⟨by decide, by decide, rfl⟩, zW1 57 rfl rfl⟩
set_option maxRecDepth 20000 in
theorem fl_RX2_56 : zFL RX2 56 2 8 0 := ⟨⟨by decide, by decide, rfl⟩, zW1 66 rfl rfl⟩
set_option maxRecDepth 20000 in
theorem fl_RX2_9 : zFL RX2 9 2 0 2 := ⟨⟨by decide, by decide, rfl⟩, zW1 53 rfl rfl⟩
set_option maxRecDepth 20000 in
theorem fl_RX2_38 : zFL RX2 38 1 8 0 := ⟨⟨by decide, by decide, rfl⟩, zW2 58 rfl rfl⟩
set_option maxRecDepth 20000 in
theorem fl_RX2_21 : zFL RX2 21 2 3 2 := ⟨⟨by decide, by decide, rfl⟩, zW1 58 rfl rfl⟩
set_option maxRecDepth 20000 in
theorem fl_RX2_100 : zFL RX2 100 1 0 2 := ⟨⟨by decide, by decide, rfl⟩, zW2 45 rfl rfl⟩
set_option maxRecDepth 20000 in
theorem fl_RX2_90 : zFL RX2 90 1 7 0 := ⟨⟨by decide, by decide, rfl⟩, zW2 55 rfl rfl⟩
set_option maxRecDepth 20000 in
theorem fl_RX2_97 : zFL RX2 97 1 10 0 := ⟨⟨by decide, by decide, rfl⟩, zW2 69 rfl rfl⟩
set_option maxRecDepth 20000 in
theorem fl_RX2_24 : zFL RX2 24 2 4 2 := ⟨⟨by decide, by decide, rfl⟩, zW1 59 rfl rfl⟩
set_option maxRecDepth 20000 in
theorem fl_RX2_35 : zFL RX2 35 2 7 1 := ⟨⟨by decide, by decide, rfl⟩, zW1 63 rfl rfl⟩
set_option maxRecDepth 20000 in
theorem fl_RX2_63 : zFL RX2 63 2 9 0 := ⟨⟨by decide, by decide, rfl⟩, zW1 69 rfl rfl⟩
set_option maxRecDepth 20000 in
theorem fl_RX2_31 : zFL RX2 31 2 6 1 := ⟨⟨by decide, by decide, rfl⟩, zW1 62 rfl rfl⟩
set_option maxRecDepth 20000 in
theorem fl_RX8_26 : zFL RX8 26 8 4 1 := ⟨⟨by decide, by decide, rfl⟩, zW1 159 rfl rfl⟩
set_option maxRecDepth 20000 in
theorem fl_RX3_43 : zFL RX3 43 0 0 2 := ⟨⟨by decide, by decide, rfl⟩, zW2 104 rfl rfl⟩
set_option maxRecDepth 20000 in
theorem fl_RX3_74 : zFL RX3 74 1 8 0 := ⟨⟨by decide, by decide, rfl⟩, zW2 57 rfl rfl⟩
set_option maxRecDepth 20000 in
theorem fl_RX3_9 : zFL RX3 9 3 0 2 := ⟨⟨by decide, by decide, rfl⟩, zW1 98 rfl rfl⟩
set_option maxRecDepth 20000 in
theorem fl_RX3_90 : zFL RX3 90 2 9 0 := ⟨⟨by decide, by decide, rfl⟩, zW1 68 rfl rfl⟩
set_option maxRecDepth 20000 in
theorem fl_RX3_60 : zFL RX3 60 3 4 0 := ⟨⟨by decide, by decide, rfl⟩, zW1 104 rfl rfl⟩
set_option maxRecDepth 20000 in
theorem fl_RX3_91 : zFL RX3 91 2 8 0 := ⟨⟨by decide, by decide, rfl⟩, zW1 65 rfl rfl⟩
set_option maxRecDepth 20000 in
theorem fl_RX3_81 : zFL RX3 81 3 5 0 := ⟨⟨by decide, by decide, rfl⟩, zW1 106 rfl rfl⟩
set_option maxRecDepth 20000 in
theorem fl_RX3_94 : zFL RX3 94 2 7 1 := ⟨⟨by decide, by decide, rfl⟩, zW1 64 rfl rfl⟩
set_option maxRecDepth 20000 in
theorem fl_RX3_67 : zFL RX3 67 3 6 1 := ⟨⟨by decide, by decide, rfl⟩, zW1 108 rfl rfl⟩
set_option maxRecDepth 20000 in
theorem fl_RX3_19 : zFL RX3 19 8 4 1 := ⟨⟨by decide, by decide, rfl⟩, zW1 158 rfl rfl⟩
set_option maxRecDepth 20000 in
theorem fl_RX10_92 : zFL RX10 92 10 2 0 := ⟨⟨by decide, by decide, rfl⟩, zW1 38 rfl rfl⟩
set_option maxRecDepth 20000 in
theorem fl_RX10_15 : zFL RX10 15 10 1 2 := ⟨⟨by decide, by decide, rfl⟩, zW1 37 rfl rfl⟩
set_option maxRecDepth 20000 in
theorem fl_RX10_9 : zFL RX10 9 10 0 2 := ⟨⟨by decide, by decide, rfl⟩, zW1 36 rfl rfl⟩
set_option maxRecDepth 20000 in
theorem fl_RX10_95 : zFL RX10 95 0 2 2 := ⟨⟨by decide, by decide, rfl⟩, zW2 114 rfl rfl⟩
set_option maxRecDepth 20000 in
theorem fl_RX10_86 : zFL RX10 86 0 6 0 := ⟨⟨by decide, by decide, rfl⟩, zW2 124 rfl rfl⟩
set_option maxRecDepth 20000 in
theorem fl_RX10_89 : zFL RX10 89 0 7 0 := ⟨⟨by decide, by decide, rfl⟩, zW2 127 rfl rfl⟩
set_option maxRecDepth 20000 in
theorem fl_RX3_15 : zFL RX3 15 3 1 2 := ⟨⟨by decide, by decide, rfl⟩, zW1 99 rfl rfl⟩
set_option maxRecDepth 20000 in
theorem fl_RX3_37 : zFL RX3 37 3 2 0 := ⟨⟨by decide, by decide, rfl⟩, zW1 100 rfl rfl⟩
set_option maxRecDepth 20000 in
theorem fl_RX3_40 : zFL RX3 40 3 3 0 := ⟨⟨by decide, by decide, rfl⟩, zW1 102 rfl rfl⟩
set_option maxRecDepth 20000 in
theorem fl_RX3_107 : zFL RX3 107 0 13 0 := ⟨⟨by decide, by decide, rfl⟩, zW2 146 rfl rfl⟩
set_option maxRecDepth 20000 in
theorem fl_RX8_9 : zFL RX8 9 8 0 2 := ⟨⟨by decide, by decide, rfl⟩, zW1 142 rfl rfl⟩
set_option maxRecDepth 20000 in
theorem fl_RX3_70 : zFL RX3 70 3 7 3 := ⟨⟨by decide, by decide, rfl⟩, zW1 110 rfl rfl⟩
set_option maxRecDepth 20000 in
theorem fl_RX3_47 : zFL RX3 47 1 10 0 := ⟨⟨by decide, by decide, rfl⟩, zW2 63 rfl rfl⟩
set_option maxRecDepth 20000 in
theorem fl_RX3_31 : zFL RX3 31 0 12 0 := ⟨⟨by decide, by decide, rfl⟩, zW2 142 rfl rfl⟩
set_option maxRecDepth 20000 in
theorem fl_RX4_15 : zFL RX4 15 4 1 0 := ⟨⟨by decide, by decide, rfl⟩, zW2 24 rfl rfl⟩
set_option maxRecDepth 20000 in
theorem fl_RX4_9 : zFL RX4 9 4 0 2 := ⟨⟨by decide, by decide, rfl⟩, zW2 22 rfl rfl⟩
set_option maxRecDepth 20000 in
theorem fl_RX4_66 : zFL RX4 66 8 0 2 := ⟨⟨by decide, by decide, rfl⟩, zW1 143 rfl rfl⟩
set_option maxRecDepth 20000 in
theorem fl_RX4_60 : zFL RX4 60 8 4 1 := ⟨⟨by decide, by decide, rfl⟩, zW1 160 rfl rfl⟩
set_option maxRecDepth 20000 in
theorem fl_RX4_51 : zFL RX4 51 8 2 3 := ⟨⟨by decide, by decide, rfl⟩, zW1 150 rfl rfl⟩
set_option maxRecDepth 20000 in
theorem fl_RX4_57 : zFL RX4 57 8 3 0 := ⟨⟨by decide, by decide, rfl⟩, zW1 154 rfl rfl⟩
set_option maxRecDepth 20000 in
theorem fl_RX4_28 : zFL RX4 28 5 0 2 := ⟨⟨by decide, by decide, rfl⟩, zW1 176 rfl rfl⟩
set_option maxRecDepth 20000 in
theorem fl_RX4_32 : zFL RX4 32 0 0 2 := ⟨⟨by decide, by decide, rfl⟩, zW2 103 rfl rfl⟩
set_option maxRecDepth 20000 in
theorem fl_RX4_38 : zFL RX4 38 1 10 0 := ⟨⟨by decide, by decide, rfl⟩, zW2 62 rfl rfl⟩
set_option maxRecDepth 20000 in
theorem fl_RX4_19 : zFL RX4 19 5 1 0 := ⟨⟨by decide, by decide, rfl⟩, zW1 179 rfl rfl⟩
set_option maxRecDepth 20000 in
theorem fl_RX8_19 : zFL RX8 19 8 2 3 := ⟨⟨by decide, by decide, rfl⟩, zW1 149 rfl rfl⟩
set_option maxRecDepth 20000 in
theorem fl_RX8_23 : zFL RX8 23 8 3 0 := ⟨⟨by decide, by decide, rfl⟩, zW1 153 rfl rfl⟩
set_option maxRecDepth 20000 in
theorem fl_RX5_11 : zFL RX5 11 5 0 2 := ⟨⟨by decide, by decide, rfl⟩, zW1 175 rfl rfl⟩
set_option maxRecDepth 20000 in
theorem fl_RX5_20 : zFL RX5 20 5 1 0 := ⟨⟨by decide, by decide, rfl⟩, zW1 178 rfl rfl⟩
set_option maxRecDepth 20000 in
theorem fl_RX8_15 : zFL RX8 15 8 1 0 := ⟨⟨by decide, by decide, rfl⟩, zW1 147 rfl rfl⟩
set_option maxRecDepth 20000 in
theorem fl_RX5_31 : zFL RX5 31 8 2 3 := ⟨⟨by decide, by decide, rfl⟩, zW1 151 rfl rfl⟩
set_option maxRecDepth 20000 in
theorem fl_RX5_47 : zFL RX5 47 0 0 2 := ⟨⟨by decide, by decide, rfl⟩, zW2 107 rfl rfl⟩
set_option maxRecDepth 20000 in
theorem fl_RX5_51 : zFL RX5 51 1 10 0 := ⟨⟨by decide, by decide, rfl⟩, zW2 67 rfl rfl⟩
set_option maxRecDepth 20000 in
theorem fl_RX5_60 : zFL RX5 60 8 3 0 := ⟨⟨by decide, by decide, rfl⟩, zW1 156 rfl rfl⟩
set_option maxRecDepth 20000 in
theorem fl_RX5_63 : zFL RX5 63 8 4 1 := ⟨⟨by decide, by decide, rfl⟩, zW1 162 rfl rfl⟩
set_option maxRecDepth 20000 in
theorem fl_RX5_67 : zFL RX5 67 8 0 2 := ⟨⟨by decide, by decide, rfl⟩, zW1 145 rfl rfl⟩
set_option maxRecDepth 20000 in
theorem fl_RX5_42 : zFL RX5 42 0 9 0 := ⟨⟨by decide, by decide, rfl⟩, zW2 133 rfl rfl⟩
set_option maxRecDepth 20000 in
theorem fl_RX6_55 : zFL RX6 55 6 4 0 := ⟨⟨by decide, by decide, rfl⟩, zW3 5 rfl rfl⟩
set_option maxRecDepth 20000 in
theorem fl_RX6_58 : zFL RX6 58 6 5 0 := ⟨⟨by decide, by decide, rfl⟩, zW3 7 rfl rfl⟩
set_option maxRecDepth 20000 in
theorem fl_RX6_81 : zFL RX6 81 6 7 0 := ⟨⟨by decide, by decide, rfl⟩, zW3 10 rfl rfl⟩
set_option maxRecDepth 20000 in
theorem fl_RX6_61 : zFL RX6 61 6 9 0 := ⟨⟨by decide, by decide, rfl⟩, zW3 12 rfl rfl⟩
set_option maxRecDepth 20000 in
theorem fl_RX6_78 : zFL RX6 78 6 6 0 := ⟨⟨by decide, by decide, rfl⟩, zW3 9 rfl rfl⟩
set_option maxRecDepth 20000 in
theorem fl_RX6_91 : zFL RX6 91 6 8 0 := ⟨⟨by decide, by decide, rfl⟩, zW3 11 rfl rfl⟩
set_option maxRecDepth 20000 in
theorem fl_RX6_46 : zFL RX6 46 6 3 0 := ⟨⟨by decide, by decide, rfl⟩, zW3 4 rfl rfl⟩
set_option maxRecDepth 20000 in
theorem fl_RX6_15 : zFL RX6 15 6 1 2 := ⟨⟨by decide, by decide, rfl⟩, zW3 2 rfl rfl⟩
set_option maxRecDepth 20000 in
theorem fl_RX6_97 : zFL RX6 97 6 10 0 := ⟨⟨by decide, by decide, rfl⟩, zW3 13 rfl rfl⟩
set_option maxRecDepth 20000 in
theorem fl_RX6_9 : zFL RX6 9 6 0 2 := ⟨⟨by decide, by decide, rfl⟩, zW3 1 rfl rfl⟩
set_option maxRecDepth 20000 in
theorem fl_RX6_94 : zFL RX6 94 6 11 0 := ⟨⟨by decide, by decide, rfl⟩, zW3 14 rfl rfl⟩
set_option maxRecDepth 20000 in
theorem fl_RX6_18 : zFL RX6 18 6 2 2 := ⟨⟨by decide, by decide, rfl⟩, zW3 3 rfl rfl⟩
set_option maxRecDepth 20000 in
theorem fl_RX6_124 : zFL RX6 124 0 0 2 := ⟨⟨by decide, by decide, rfl⟩, zW2 109 rfl rfl⟩
set_option maxRecDepth 20000 in
theorem fl_RX6_178 : zFL RX6 178 6 12 3 := ⟨⟨by decide, by decide, rfl⟩, zW3 15 rfl rfl⟩
set_option maxRecDepth 20000 in
theorem fl_RX6_182 : zFL RX6 182 0 3 0 := ⟨⟨by decide, by decide, rfl⟩, zW2 116 rfl rfl⟩
set_option maxRecDepth 20000 in
theorem fl_RX6_185 : zFL RX6 185 0 4 0 := ⟨⟨by decide, by decide, rfl⟩, zW2 119 rfl rfl⟩
set_option maxRecDepth 20000 in
theorem fl_RX6_191 : zFL RX6 191 0 5 0 := ⟨⟨by decide, by decide, rfl⟩, zW2 122 rfl rfl⟩
set_option maxRecDepth 20000 in
theorem fl_RX6_166 : zFL RX6 166 0 9 0 := ⟨⟨by decide, by decide, rfl⟩, zW2 135 rfl rfl⟩
set_option maxRecDepth 20000 in
theorem fl_RX6_172 : zFL RX6 172 0 1 2 := ⟨⟨by decide, by decide, rfl⟩, zW2 112 rfl rfl⟩
set_option maxRecDepth 20000 in
theorem fl_RX6_151 : zFL RX6 151 0 10 0 := ⟨⟨by decide, by decide, rfl⟩, zW2 138 rfl rfl⟩
set_option maxRecDepth 20000 in
theorem fl_RX6_154 : zFL RX6 154 0 11 0 := ⟨⟨by decide, by decide, rfl⟩, zW2 141 rfl rfl⟩
set_option maxRecDepth 20000 in
theorem fl_RX6_157 : zFL RX6 157 0 12 0 := ⟨⟨by decide, by decide, rfl⟩, zW2 144 rfl rfl⟩
set_option maxRecDepth 20000 in
theorem fl_RX6_160 : zFL RX6 160 0 13 0 := ⟨⟨by decide, by decide, rfl⟩, zW2 147 rfl rfl⟩
set_option maxRecDepth 20000 in
theorem fl_RX6_163 : zFL RX6 163 0 14 0 := ⟨⟨by decide, by decide, rfl⟩, zW2 149 rfl rfl⟩
set_option maxRecDepth 20000 in
theorem fl_RX6_197 : zFL RX6 197 0 6 0 := ⟨⟨by decide, by decide, rfl⟩, zW2 125 rfl rfl⟩
set_option maxRecDepth 20000 in
theorem fl_RX6_203 : zFL RX6 203 0 7 0 := ⟨⟨by decide, by decide, rfl⟩, zW2 128 rfl rfl⟩
set_option maxRecDepth 20000 in
theorem fl_RX6_75 : zFL RX6 75 0 8 0 := ⟨⟨by decide, by decide, rfl⟩, zW2 130 rfl rfl⟩
set_option maxRecDepth 20000 in
theorem fl_RX7_25 : zFL RX7 25 7 3 0 := ⟨⟨by decide, by decide, rfl⟩, zW1 200 rfl rfl⟩
set_option maxRecDepth 20000 in
theorem fl_RX7_29 : zFL RX7 29 7 4 0 := ⟨⟨by decide, by decide, rfl⟩, zW1 202 rfl rfl⟩
set_option maxRecDepth 20000 in
theorem fl_RX7_32 : zFL RX7 32 7 5 0 := ⟨⟨by decide, by decide, rfl⟩, zW1 203 rfl rfl⟩
set_option maxRecDepth 20000 in
theorem fl_RX7_11 : zFL RX7 11 7 0 2 := ⟨⟨by decide, by decide, rfl⟩, zW1 197 rfl rfl⟩
set_option maxRecDepth 20000 in
theorem fl_RX7_17 : zFL RX7 17 7 1 2 := ⟨⟨by decide, by decide, rfl⟩, zW1 198 rfl rfl⟩
set_option maxRecDepth 20000 in
theorem fl_RX7_21 : zFL RX7 21 7 2 2 := ⟨⟨by decide, by decide, rfl⟩, zW1 199 rfl rfl⟩
set_option maxRecDepth 20000 in
theorem fl_RX8_36 : zFL RX8 36 0 0 2 := ⟨⟨by decide, by decide, rfl⟩, zW2 106 rfl rfl⟩
set_option maxRecDepth 20000 in
theorem fl_RX8_42 : zFL RX8 42 1 10 0 := ⟨⟨by decide, by decide, rfl⟩, zW2 66 rfl rfl⟩
set_option maxRecDepth 20000 in
theorem fl_RX8_54 : zFL RX8 54 0 11 0 := ⟨⟨by decide, by decide, rfl⟩, zW2 140 rfl rfl⟩
set_option maxRecDepth 20000 in
theorem fl_RX8_51 : zFL RX8 51 0 10 0 := ⟨⟨by decide, by decide, rfl⟩, zW2 137 rfl rfl⟩
set_option maxRecDepth 20000 in
theorem fl_RX9_27 : zFL RX9 27 9 5 0 := ⟨⟨by decide, by decide, rfl⟩, zW1 229 rfl rfl⟩
set_option maxRecDepth 20000 in
theorem fl_RX9_9 : zFL RX9 9 9 0 2 := ⟨⟨by decide, by decide, rfl⟩, zW1 223 rfl rfl⟩
set_option maxRecDepth 20000 in
theorem fl_RX9_15 : zFL RX9 15 9 1 2 := ⟨⟨by decide, by decide, rfl⟩, zW1 224 rfl rfl⟩
set_option maxRecDepth 20000 in
theorem fl_RX9_21 : zFL RX9 21 9 3 2 := ⟨⟨by decide, by decide, rfl⟩, zW1 227 rfl rfl⟩
set_option maxRecDepth 20000 in
theorem fl_RX9_18 : zFL RX9 18 9 2 2 := ⟨⟨by decide, by decide, rfl⟩, zW1 225 rfl rfl⟩
set_option maxRecDepth 20000 in
theorem fl_RX9_43 : zFL RX9 43 9 6 0 := ⟨⟨by decide, by decide, rfl⟩, zW1 231 rfl rfl⟩
set_option maxRecDepth 20000 in
theorem fl_RX9_24 : zFL RX9 24 9 4 2 := ⟨⟨by decide, by decide, rfl⟩, zW1 228 rfl rfl⟩
set_option maxRecDepth 20000 in
theorem fl_RX9_57 : zFL RX9 57 9 8 0 := ⟨⟨by decide, by decide, rfl⟩, zW1 235 rfl rfl⟩
set_option maxRecDepth 20000 in
theorem fl_RX9_54 : zFL RX9 54 9 7 0 := ⟨⟨by decide, by decide, rfl⟩, zW1 233 rfl rfl⟩
set_option maxRecDepth 20000 in
theorem fl_RX10_18 : zFL RX10 18 8 1 0 := ⟨⟨by decide, by decide, rfl⟩, zW1 148 rfl rfl⟩
set_option maxRecDepth 20000 in
theorem fl_RX10_34 : zFL RX10 34 0 4 0 := ⟨⟨by decide, by decide, rfl⟩, zW2 118 rfl rfl⟩
set_option maxRecDepth 20000 in
theorem fl_RX10_37 : zFL RX10 37 0 5 0 := ⟨⟨by decide, by decide, rfl⟩, zW2 121 rfl rfl⟩
set_option maxRecDepth 20000 in
theorem fl_RX10_60 : zFL RX10 60 0 0 2 := ⟨⟨by decide, by decide, rfl⟩, zW2 105 rfl rfl⟩
set_option maxRecDepth 20000 in
theorem fl_RX10_64 : zFL RX10 64 1 10 0 := ⟨⟨by decide, by decide, rfl⟩, zW2 65 rfl rfl⟩
set_option maxRecDepth 20000 in
theorem fl_RX10_53 : zFL RX10 53 8 3 0 := ⟨⟨by decide, by decide, rfl⟩, zW1 155 rfl rfl⟩
set_option maxRecDepth 20000 in
theorem fl_RX10_69 : zFL RX10 69 8 0 2 := ⟨⟨by decide, by decide, rfl⟩, zW1 144 rfl rfl⟩
set_option maxRecDepth 20000 in
theorem fl_RX10_72 : zFL RX10 72 8 4 1 := ⟨⟨by decide, by decide, rfl⟩, zW1 161 rfl rfl⟩
set_option maxRecDepth 20000 in
theorem fl_RX11_102 : zFL RX11 102 11 15 0 := ⟨⟨by decide, by decide, rfl⟩, zW3 59 rfl rfl⟩
set_option maxRecDepth 20000 in
theorem fl_RX11_9 : zFL RX11 9 11 0 2 := ⟨⟨by decide, by decide, rfl⟩, zW3 44 rfl rfl⟩
set_option maxRecDepth 20000 in
theorem fl_RX11_13 : zFL RX11 13 11 1 2 := ⟨⟨by decide, by decide, rfl⟩, zW3 45 rfl rfl⟩
set_option maxRecDepth 20000 in
theorem fl_RX11_94 : zFL RX11 94 11 13 2 := ⟨⟨by decide, by decide, rfl⟩, zW3 57 rfl rfl⟩
set_option maxRecDepth 20000 in
theorem fl_RX11_86 : zFL RX11 86 11 12 2 := ⟨⟨by decide, by decide, rfl⟩, zW3 56 rfl rfl⟩
set_option maxRecDepth 20000 in
theorem fl_RX11_82 : zFL RX11 82 11 11 2 := ⟨⟨by decide, by decide, rfl⟩, zW3 55 rfl rfl⟩
set_option maxRecDepth 20000 in
theorem fl_RX11_120 : zFL RX11 120 11 14 3 := ⟨⟨by decide, by decide, rfl⟩, zW3 58 rfl rfl⟩
set_option maxRecDepth 20000 in
theorem fl_RX11_42 : zFL RX11 42 11 5 2 := ⟨⟨by decide, by decide, rfl⟩, zW3 49 rfl rfl⟩
set_option maxRecDepth 20000 in
theorem fl_RX11_61 : zFL RX11 61 11 8 2 := ⟨⟨by decide, by decide, rfl⟩, zW3 52 rfl rfl⟩
set_option maxRecDepth 20000 in
theorem fl_RX11_68 : zFL RX11 68 11 9 2 := ⟨⟨by decide, by decide, rfl⟩, zW3 53 rfl rfl⟩
set_option maxRecDepth 20000 in
theorem fl_RX11_26 : zFL RX11 26 11 3 2 := ⟨⟨by decide, by decide, rfl⟩, zW3 47 rfl rfl⟩
set_option maxRecDepth 20000 in
theorem fl_RX11_132 : zFL RX11 132 0 8 0 := ⟨⟨by decide, by decide, rfl⟩, zW2 131 rfl rfl⟩
set_option maxRecDepth 20000 in
theorem fl_RX11_135 : zFL RX11 135 6 4 0 := ⟨⟨by decide, by decide, rfl⟩, zW3 6 rfl rfl⟩
set_option maxRecDepth 20000 in
theorem fl_RX11_138 : zFL RX11 138 6 5 0 := ⟨⟨by decide, by decide, rfl⟩, zW3 8 rfl rfl⟩
set_option maxRecDepth 20000 in
theorem fl_RX11_141 : zFL RX11 141 0 0 2 := ⟨⟨by decide, by decide, rfl⟩, zW2 108 rfl rfl⟩
set_option maxRecDepth 20000 in
theorem fl_RX11_145 : zFL RX11 145 1 7 0 := ⟨⟨by decide, by decide, rfl⟩, zW2 54 rfl rfl⟩
set_option maxRecDepth 20000 in
theorem fl_RX11_150 : zFL RX11 150 1 9 0 := ⟨⟨by decide, by decide, rfl⟩, zW2 61 rfl rfl⟩
set_option maxRecDepth 20000 in
theorem fl_RX11_153 : zFL RX11 153 1 10 0 := ⟨⟨by decide, by decide, rfl⟩, zW2 68 rfl rfl⟩
set_option maxRecDepth 20000 in
theorem fl_RX11_156 : zFL RX11 156 1 11 0 := ⟨⟨by decide, by decide, rfl⟩, zW2 71 rfl rfl⟩
set_option maxRecDepth 20000 in
theorem fl_RX11_159 : zFL RX11 159 0 9 0 := ⟨⟨by decide, by decide, rfl⟩, zW2 134 rfl rfl⟩
set_option maxRecDepth 20000 in
theorem fl_RX11_164 : zFL RX11 164 5 1 0 := ⟨⟨by decide, by decide, rfl⟩, zW1 180 rfl rfl⟩
set_option maxRecDepth 20000 in
theorem fl_RX11_170 : zFL RX11 170 9 5 0 := ⟨⟨by decide, by decide, rfl⟩, zW1 230 rfl rfl⟩
set_option maxRecDepth 20000 in
theorem fl_RX11_173 : zFL RX11 173 7 3 0 := ⟨⟨by decide, by decide, rfl⟩, zW1 201 rfl rfl⟩
set_option maxRecDepth 20000 in
theorem fl_RX11_98 : zFL RX11 98 11 16 0 := ⟨⟨by decide, by decide, rfl⟩, zW3 60 rfl rfl⟩
set_option maxRecDepth 20000 in
theorem fl_RX11_180 : zFL RX11 180 0 1 2 := ⟨⟨by decide, by decide, rfl⟩, zW2 111 rfl rfl⟩
set_option maxRecDepth 20000 in
theorem fl_RX11_186 : zFL RX11 186 1 0 2 := ⟨⟨by decide, by decide, rfl⟩, zW2 44 rfl rfl⟩
set_option maxRecDepth 20000 in
theorem fl_RX11_183 : zFL RX11 183 1 1 2 := ⟨⟨by decide, by decide, rfl⟩, zW2 47 rfl rfl⟩
set_option maxRecDepth 20000 in
theorem fl_RX11_192 : zFL RX11 192 1 12 1 := ⟨⟨by decide, by decide, rfl⟩, zW2 73 rfl rfl⟩
set_option maxRecDepth 20000 in
theorem fl_RX11_218 : zFL RX11 218 1 8 0 := ⟨⟨by decide, by decide, rfl⟩, zW2 59 rfl rfl⟩
set_option maxRecDepth 20000 in
theorem fl_RX11_224 : zFL RX11 224 5 0 2 := ⟨⟨by decide, by decide, rfl⟩, zW1 177 rfl rfl⟩
set_option maxRecDepth 20000 in
theorem fl_RX11_227 : zFL RX11 227 8 2 3 := ⟨⟨by decide, by decide, rfl⟩, zW1 152 rfl rfl⟩
set_option maxRecDepth 20000 in
theorem fl_RX11_233 : zFL RX11 233 8 4 1 := ⟨⟨by decide, by decide, rfl⟩, zW1 163 rfl rfl⟩
set_option maxRecDepth 20000 in
theorem fl_RX11_230 : zFL RX11 230 8 3 0 := ⟨⟨by decide, by decide, rfl⟩, zW1 157 rfl rfl⟩
set_option maxRecDepth 20000 in
theorem fl_RX11_19 : zFL RX11 19 11 2 2 := ⟨⟨by decide, by decide, rfl⟩, zW3 46 rfl rfl⟩
set_option maxRecDepth 20000 in
theorem fl_RX11_251 : zFL RX11 251 8 0 2 := ⟨⟨by decide, by decide, rfl⟩, zW1 146 rfl rfl⟩
set_option maxRecDepth 20000 in
theorem fl_RX11_276 : zFL RX11 276 2 0 2 := ⟨⟨by decide, by decide, rfl⟩, zW1 54 rfl rfl⟩
set_option maxRecDepth 20000 in
theorem fl_RX11_282 : zFL RX11 282 2 9 0 := ⟨⟨by decide, by decide, rfl⟩, zW1 70 rfl rfl⟩
set_option maxRecDepth 20000 in
theorem fl_RX11_279 : zFL RX11 279 2 8 0 := ⟨⟨by decide, by decide, rfl⟩, zW1 67 rfl rfl⟩
set_option maxRecDepth 20000 in
theorem fl_RX11_285 : zFL RX11 285 2 1 2 := ⟨⟨by decide, by decide, rfl⟩, zW1 56 rfl rfl⟩
set_option maxRecDepth 20000 in
theorem fl_RX11_288 : zFL RX11 288 2 4 2 := ⟨⟨by decide, by decide, rfl⟩, zW1 60 rfl rfl⟩
set_option maxRecDepth 20000 in
theorem fl_RX11_35 : zFL RX11 35 11 4 2 := ⟨⟨by decide, by decide, rfl⟩, zW3 48 rfl rfl⟩
set_option maxRecDepth 20000 in
theorem fl_RX11_296 : zFL RX11 296 3 6 1 := ⟨⟨by decide, by decide, rfl⟩, zW1 109 rfl rfl⟩
set_option maxRecDepth 20000 in
theorem fl_RX11_299 : zFL RX11 299 3 5 0 := ⟨⟨by decide, by decide, rfl⟩, zW1 107 rfl rfl⟩
set_option maxRecDepth 20000 in
theorem fl_RX11_302 : zFL RX11 302 3 2 0 := ⟨⟨by decide, by decide, rfl⟩, zW1 101 rfl rfl⟩
set_option maxRecDepth 20000 in
theorem fl_RX11_304 : zFL RX11 304 3 3 0 := ⟨⟨by decide, by decide, rfl⟩, zW1 103 rfl rfl⟩
set_option maxRecDepth 20000 in
theorem fl_RX11_307 : zFL RX11 307 3 7 3 := ⟨⟨by decide, by decide, rfl⟩, zW1 111 rfl rfl⟩
set_option maxRecDepth 20000 in
theorem fl_RX11_295 : zFL RX11 295 3 4 0 := ⟨⟨by decide, by decide, rfl⟩, zW1 105 rfl rfl⟩
set_option maxRecDepth 20000 in
theorem fl_RX11_54 : zFL RX11 54 11 7 2 := ⟨⟨by decide, by decide, rfl⟩, zW3 51 rfl rfl⟩
set_option maxRecDepth 20000 in
theorem fl_RX11_327 : zFL RX11 327 0 14 0 := ⟨⟨by decide, by decide, rfl⟩, zW2 150 rfl rfl⟩
set_option maxRecDepth 20000 in
theorem fl_RX11_338 : zFL RX11 338 9 6 0 := ⟨⟨by decide, by decide, rfl⟩, zW1 232 rfl rfl⟩
set_option maxRecDepth 20000 in
theorem fl_RX11_341 : zFL RX11 341 9 2 2 := ⟨⟨by decide, by decide, rfl⟩, zW1 226 rfl rfl⟩
set_option maxRecDepth 20000 in
theorem fl_RX11_350 : zFL RX11 350 9 8 0 := ⟨⟨by decide, by decide, rfl⟩, zW1 236 rfl rfl⟩
set_option maxRecDepth 20000 in
theorem fl_RX11_347 : zFL RX11 347 9 7 0 := ⟨⟨by decide, by decide, rfl⟩, zW1 234 rfl rfl⟩
set_option maxRecDepth 20000 in
theorem fl_RX11_75 : zFL RX11 75 11 10 2 := ⟨⟨by decide, by decide, rfl⟩, zW3 54 rfl rfl⟩
set_option maxRecDepth 20000 in
theorem fl_RX11_381 : zFL RX11 381 4 1 0 := ⟨⟨by decide, by decide, rfl⟩, zW2 25 rfl rfl⟩
set_option maxRecDepth 20000 in
theorem fl_RX11_382 : zFL RX11 382 4 0 2 := ⟨⟨by decide, by decide, rfl⟩, zW2 23 rfl rfl⟩
set_option maxRecDepth 20000 in
theorem fl_RX11_46 : zFL RX11 46 11 6 2 := ⟨⟨by decide, by decide, rfl⟩, zW3 50 rfl rfl⟩
set_option maxRecDepth 20000 in
theorem fl_RX12_7 : zFL RX12 7 12 0 2 := ⟨⟨by decide, by decide, rfl⟩, zW6 66 rfl rfl⟩
set_option maxRecDepth 20000 in
theorem fl_RX12_13 : zFL RX12 13 12 1 0 := ⟨⟨by decide, by decide, rfl⟩, zW6 67 rfl rfl⟩
set_option maxRecDepth 20000 in
theorem fl_RX12_123 : zFL RX12 123 12 36 2 := ⟨⟨by decide, by decide, rfl⟩, zW6 102 rfl rfl⟩
set_option maxRecDepth 20000 in
theorem fl_RX12_36 : zFL RX12 36 12 8 0 := ⟨⟨by decide, by decide, rfl⟩, zW6 74 rfl rfl⟩
set_option maxRecDepth 20000 in
theorem fl_RX12_39 : zFL RX12 39 12 9 0 := ⟨⟨by decide, by decide, rfl⟩, zW6 75 rfl rfl⟩
set_option maxRecDepth 20000 in
theorem fl_RX12_48 : zFL RX12 48 12 12 0 := ⟨⟨by decide, by decide, rfl⟩, zW6 78 rfl rfl⟩
set_option maxRecDepth 20000 in
theorem fl_RX12_29 : zFL RX12 29 12 6 0 := ⟨⟨by decide, by decide, rfl⟩, zW6 72 rfl rfl⟩
set_option maxRecDepth 20000 in
theorem fl_RX12_32 : zFL RX12 32 12 7 1 := ⟨⟨by decide, by decide, rfl⟩, zW6 73 rfl rfl⟩
set_option maxRecDepth 20000 in
theorem fl_RX12_26 : zFL RX12 26 12 5 0 := ⟨⟨by decide, by decide, rfl⟩, zW6 71 rfl rfl⟩
set_option maxRecDepth 20000 in
theorem fl_RX12_17 : zFL RX12 17 12 2 0 := ⟨⟨by decide, by decide, rfl⟩, zW6 68 rfl rfl⟩
set_option maxRecDepth 20000 in
theorem fl_RX12_20 : zFL RX12 20 12 3 0 := ⟨⟨by decide, by decide, rfl⟩, zW6 69 rfl rfl⟩
set_option maxRecDepth 20000 in
theorem fl_RX12_23 : zFL RX12 23 12 4 0 := ⟨⟨by decide, by decide, rfl⟩, zW6 70 rfl rfl⟩
set_option maxRecDepth 20000 in
theorem fl_RX12_57 : zFL RX12 57 12 15 2 := ⟨⟨by decide, by decide, rfl⟩, zW6 81 rfl rfl⟩
set_option maxRecDepth 20000 in
theorem fl_RX12_79 : zFL RX12 79 12 22 0 := ⟨⟨by decide, by decide, rfl⟩, zW6 88 rfl rfl⟩
set_option maxRecDepth 20000 in
theorem fl_RX12_72 : zFL RX12 72 12 20 2 := ⟨⟨by decide, by decide, rfl⟩, zW6 86 rfl rfl⟩
set_option maxRecDepth 20000 in
theorem fl_RX12_66 : zFL RX12 66 12 18 2 := ⟨⟨by decide, by decide, rfl⟩, zW6 84 rfl rfl⟩
set_option maxRecDepth 20000 in
theorem fl_RX12_76 : zFL RX12 76 12 21 0 := ⟨⟨by decide, by decide, rfl⟩, zW6 87 rfl rfl⟩
set_option maxRecDepth 20000 in
theorem fl_RX12_69 : zFL RX12 69 12 19 2 := ⟨⟨by decide, by decide, rfl⟩, zW6 85 rfl rfl⟩
set_option maxRecDepth 20000 in
theorem fl_RX12_110 : zFL RX12 110 12 32 0 := ⟨⟨by decide, by decide, rfl⟩, zW6 98 rfl rfl⟩
set_option maxRecDepth 20000 in
theorem fl_RX12_98 : zFL RX12 98 12 28 2 := ⟨⟨by decide, by decide, rfl⟩, zW6 94 rfl rfl⟩
set_option maxRecDepth 20000 in
theorem fl_RX12_101 : zFL RX12 101 12 29 0 := ⟨⟨by decide, by decide, rfl⟩, zW6 95 rfl rfl⟩
set_option maxRecDepth 20000 in
theorem fl_RX12_107 : zFL RX12 107 12 31 2 := ⟨⟨by decide, by decide, rfl⟩, zW6 97 rfl rfl⟩
set_option maxRecDepth 20000 in
theorem fl_RX12_104 : zFL RX12 104 12 30 0 := ⟨⟨by decide, by decide, rfl⟩, zW6 96 rfl rfl⟩
set_option maxRecDepth 20000 in
theorem fl_RX12_85 : zFL RX12 85 12 24 2 := ⟨⟨by decide, by decide, rfl⟩, zW6 90 rfl rfl⟩
set_option maxRecDepth 20000 in
theorem fl_RX12_88 : zFL RX12 88 12 25 2 := ⟨⟨by decide, by decide, rfl⟩, zW6 91 rfl rfl⟩
set_option maxRecDepth 20000 in
theorem fl_RX12_91 : zFL RX12 91 12 26 2 := ⟨⟨by decide, by decide, rfl⟩, zW6 92 rfl rfl⟩
set_option maxRecDepth 20000 in
theorem fl_RX12_95 : zFL RX12 95 12 27 2 := ⟨⟨by decide, by decide, rfl⟩, zW6 93 rfl rfl⟩
set_option maxRecDepth 20000 in
theorem fl_RX12_82 : zFL RX12 82 12 23 0 := ⟨⟨by decide, by decide, rfl⟩, zW6 89 rfl rfl⟩
set_option maxRecDepth 20000 in
theorem fl_RX12_113 : zFL RX12 113 12 33 3 := ⟨⟨by decide, by decide, rfl⟩, zW6 99 rfl rfl⟩
set_option maxRecDepth 20000 in
theorem fl_RX12_54 : zFL RX12 54 12 14 2 := ⟨⟨by decide, by decide, rfl⟩, zW6 80 rfl rfl⟩
set_option maxRecDepth 20000 in
theorem fl_RX12_117 : zFL RX12 117 12 34 2 := ⟨⟨by decide, by decide, rfl⟩, zW6 100 rfl rfl⟩
set_option maxRecDepth 20000 in
theorem fl_RX12_63 : zFL RX12 63 12 17 2 := ⟨⟨by decide, by decide, rfl⟩, zW6 83 rfl rfl⟩
set_option maxRecDepth 20000 in
theorem fl_RX12_60 : zFL RX12 60 12 16 2 := ⟨⟨by decide, by decide, rfl⟩, zW6 82 rfl rfl⟩
set_option maxRecDepth 20000 in
theorem fl_RX12_195 : zFL RX12 195 12 60 2 := ⟨⟨by decide, by decide, rfl⟩, zW6 126 rfl rfl⟩
set_option maxRecDepth 20000 in
theorem fl_RX12_204 : zFL RX12 204 12 63 0 := ⟨⟨by decide, by decide, rfl⟩, zW6 129 rfl rfl⟩
set_option maxRecDepth 20000 in
theorem fl_RX12_222 : zFL RX12 222 12 69 0 := ⟨⟨by decide, by decide, rfl⟩, zW6 135 rfl rfl⟩
set_option maxRecDepth 20000 in
theorem fl_RX12_183 : zFL RX12 183 12 56 2 := ⟨⟨by decide, by decide, rfl⟩, zW6 122 rfl rfl⟩
set_option maxRecDepth 20000 in
theorem fl_RX12_180 : zFL RX12 180 12 55 2 := ⟨⟨by decide, by decide, rfl⟩, zW6 121 rfl rfl⟩
set_option maxRecDepth 20000 in
theorem fl_RX12_51 : zFL RX12 51 12 13 0 := ⟨⟨by decide, by decide, rfl⟩, zW6 79 rfl rfl⟩
set_option maxRecDepth 20000 in
theorem fl_RX12_141 : zFL RX12 141 12 42 2 := ⟨⟨by decide, by decide, rfl⟩, zW6 108 rfl rfl⟩
set_option maxRecDepth 20000 in
theorem fl_RX12_144 : zFL RX12 144 12 43 2 := ⟨⟨by decide, by decide, rfl⟩, zW6 109 rfl rfl⟩
set_option maxRecDepth 20000 in
theorem fl_RX12_126 : zFL RX12 126 12 37 0 := ⟨⟨by decide, by decide, rfl⟩, zW6 103 rfl rfl⟩
set_option maxRecDepth 20000 in
theorem fl_RX12_147 : zFL RX12 147 12 44 2 := ⟨⟨by decide, by decide, rfl⟩, zW6 110 rfl rfl⟩
set_option maxRecDepth 20000 in
theorem fl_RX12_138 : zFL RX12 138 12 41 1 := ⟨⟨by decide, by decide, rfl⟩, zW6 107 rfl rfl⟩
set_option maxRecDepth 20000 in
theorem fl_RX12_129 : zFL RX12 129 12 38 0 := ⟨⟨by decide, by decide, rfl⟩, zW6 104 rfl rfl⟩
set_option maxRecDepth 20000 in
theorem fl_RX12_135 : zFL RX12 135 12 40 0 := ⟨⟨by decide, by decide, rfl⟩, zW6 106 rfl rfl⟩
set_option maxRecDepth 20000 in
theorem fl_RX12_132 : zFL RX12 132 12 39 0 := ⟨⟨by decide, by decide, rfl⟩, zW6 105 rfl rfl⟩
set_option maxRecDepth 20000 in
theorem fl_RX12_42 : zFL RX12 42 12 10 0 := ⟨⟨by decide, by decide, rfl⟩, zW6 76 rfl rfl⟩
set_option maxRecDepth 20000 in
theorem fl_RX12_45 : zFL RX12 45 12 11 0 := ⟨⟨by decide, by decide, rfl⟩, zW6 77 rfl rfl⟩
set_option maxRecDepth 20000 in
theorem fl_RX12_120 : zFL RX12 120 12 35 3 := ⟨⟨by decide, by decide, rfl⟩, zW6 101 rfl rfl⟩
set_option maxRecDepth 20000 in
theorem fl_RX12_150 : zFL RX12 150 12 45 2 := ⟨⟨by decide, by decide, rfl⟩, zW6 111 rfl rfl⟩
set_option maxRecDepth 20000 in
theorem fl_RX12_162 : zFL RX12 162 12 49 0 := ⟨⟨by decide, by decide, rfl⟩, zW6 115 rfl rfl⟩
set_option maxRecDepth 20000 in
theorem fl_RX12_153 : zFL RX12 153 12 46 2 := ⟨⟨by decide, by decide, rfl⟩, zW6 112 rfl rfl⟩
set_option maxRecDepth 20000 in
theorem fl_RX12_156 : zFL RX12 156 12 47 2 := ⟨⟨by decide, by decide, rfl⟩, zW6 113 rfl rfl⟩
set_option maxRecDepth 20000 in
theorem fl_RX12_159 : zFL RX12 159 12 48 2 := ⟨⟨by decide, by decide, rfl⟩, zW6 114 rfl rfl⟩
set_option maxRecDepth 20000 in
theorem fl_RX12_165 : zFL RX12 165 12 50 0 := ⟨⟨by decide, by decide, rfl⟩, zW6 116 rfl rfl⟩
set_option maxRecDepth 20000 in
theorem fl_RX12_171 : zFL RX12 171 12 52 0 := ⟨⟨by decide, by decide, rfl⟩, zW6 118 rfl rfl⟩
set_option maxRecDepth 20000 in
theorem fl_RX12_174 : zFL RX12 174 12 53 1 := ⟨⟨by decide, by decide, rfl⟩, zW6 119 rfl rfl⟩
set_option maxRecDepth 20000 in
theorem fl_RX12_168 : zFL RX12 168 12 51 2 := ⟨⟨by decide, by decide, rfl⟩, zW6 117 rfl rfl⟩
set_option maxRecDepth 20000 in
theorem fl_RX12_177 : zFL RX12 177 12 54 2 := ⟨⟨by decide, by decide, rfl⟩, zW6 120 rfl rfl⟩
set_option maxRecDepth 20000 in
theorem fl_RX12_192 : zFL RX12 192 12 59 2 := ⟨⟨by decide, by decide, rfl⟩, zW6 125 rfl rfl⟩
set_option maxRecDepth 20000 in
theorem fl_RX12_198 : zFL RX12 198 12 61 2 := ⟨⟨by decide, by decide, rfl⟩, zW6 127 rfl rfl⟩
set_option maxRecDepth 20000 in
theorem fl_RX12_186 : zFL RX12 186 12 57 2 := ⟨⟨by decide, by decide, rfl⟩, zW6 123 rfl rfl⟩
set_option maxRecDepth 20000 in
theorem fl_RX12_189 : zFL RX12 189 12 58 2 := ⟨⟨by decide, by decide, rfl⟩, zW6 124 rfl rfl⟩
set_option maxRecDepth 20000 in
theorem fl_RX12_201 : zFL RX12 201 12 62 0 := ⟨⟨by decide, by decide, rfl⟩, zW6 128 rfl rfl⟩
set_option maxRecDepth 20000 in
theorem fl_RX12_210 : zFL RX12 210 12 65 2 := ⟨⟨by decide, by decide, rfl⟩, zW6 131 rfl rfl⟩
set_option maxRecDepth 20000 in
theorem fl_RX12_213 : zFL RX12 213 12 66 2 := ⟨⟨by decide, by decide, rfl⟩, zW6 132 rfl rfl⟩
set_option maxRecDepth 20000 in
theorem fl_RX12_219 : zFL RX12 219 12 68 0 := ⟨⟨by decide, by decide, rfl⟩, zW6 134 rfl rfl⟩
set_option maxRecDepth 20000 in
theorem fl_RX12_216 : zFL RX12 216 12 67 0 := ⟨⟨by decide, by decide, rfl⟩, zW6 133 rfl rfl⟩
set_option maxRecDepth 20000 in
theorem fl_RX12_207 : zFL RX12 207 12 64 1 := ⟨⟨by decide, by decide, rfl⟩, zW6 130 rfl rfl⟩
set_option maxRecDepth 20000 in
theorem fl_RX12_225 : zFL RX12 225 12 70 2 := ⟨⟨by decide, by decide, rfl⟩, zW6 136 rfl rfl⟩
set_option maxRecDepth 20000 in
theorem fl_RX12_228 : zFL RX12 228 12 71 2 := ⟨⟨by decide, by decide, rfl⟩, zW6 137 rfl rfl⟩
set_option maxRecDepth 20000 in
theorem fl_RX12_231 : zFL RX12 231 12 72 2 := ⟨⟨by decide, by decide, rfl⟩, zW6 138 rfl rfl⟩
set_option maxRecDepth 20000 in
theorem fl_RX12_234 : zFL RX12 234 12 73 2 := ⟨⟨by decide, by decide, rfl⟩, zW6 139 rfl rfl⟩
set_option maxRecDepth 20000 in
theorem fl_RX12_237 : zFL RX12 237 12 74 2 := ⟨⟨by decide, by decide, rfl⟩, zW6 140 rfl rfl⟩
set_option maxRecDepth 20000 in
theorem fl_RX12_240 : zFL RX12 240 12 75 0 := ⟨⟨by decide, by decide, rfl⟩, zW6 141 rfl rfl⟩
set_option maxRecDepth 20000 in
theorem cb_RX1_73 : zCN RX1 73 yX11_bitOf cX11_bitOf 3 (some .int) 2 ∧ Cond.static yX11_bitOf ∈ zTb := ⟨⟨⟨_, List.mem_of_getElem? (i := 6) (by rfl)⟩, zW1 1 rfl rfl, zW3 187 rfl rfl, ⟨by decide +kernel, by decide +kernel, by decide +kernel⟩⟩, zW3 186 rfl rfl⟩
set_option maxRecDepth 20000 in
theorem cb_RX1_45 : zCB RX1 45 yX1_valueAt cX1_valueAt 7 (some .int) 2 ∧ Cond.instanceMethod yX1_valueAt ∈ zTb ∧ Cond.selects yX1_valueAt.cls yX1_valueAt yX1_valueAt ∈ zTb ∧ yX1_valueAt.cls = zNm 1 ∧ 1 < 13 := ⟨⟨zW3 181 rfl rfl, zW1 11 rfl rfl, zW3 184 rfl rfl, ⟨by decide +kernel, by decide +kernel, by decide +kernel⟩⟩, zW3 182 rfl rfl, zW3 183 rfl rfl, rfl, by decide⟩
set_option maxRecDepth 20000 in
theorem cb_RX1_49 : zCB RX1 49 yX1_leastPolynomial cX1_leastPolynomial 3 (some .int) 1 ∧ Cond.instanceMethod yX1_leastPolynomial ∈ zTb ∧ Cond.selects yX1_leastPolynomial.cls yX1_leastPolynomial yX1_leastPolynomial ∈ zTb ∧ yX1_leastPolynomial.cls = zNm 1 ∧ 1 < 13 := ⟨⟨zW3 188 rfl rfl, zW1 11 rfl rfl, zW3 191 rfl rfl, ⟨by decide +kernel, by decide +kernel, by decide +kernel⟩⟩, zW3 189 rfl rfl, zW3 190 rfl rfl, rfl, by decide⟩
set_option maxRecDepth 20000 in
theorem cb_RX1_53 : zCB RX1 53 yX1_multiplyDivisor cX1_multiplyDivisor 5 none 1 ∧ Cond.instanceMethod yX1_multiplyDivisor ∈ zTb ∧ Cond.selects yX1_multiplyDivisor.cls yX1_multiplyDivisor yX1_multiplyDivisor ∈ zTb ∧ yX1_multiplyDivisor.cls = zNm 1 ∧ 1 < 13 := ⟨⟨zW3 192 rfl rfl, zW1 11 rfl rfl, zW3 195 rfl rfl, ⟨by decide +kernel, by decide +kernel, by decide +kernel⟩⟩, zW3 194 rfl rfl, zSel 12 rfl rfl, rfl, by decide⟩
set_option maxRecDepth 20000 in
theorem cb_RX1_67 : zCB RX1 67 yJ7_fill_53178 cJ7_fill_53178 4 none 2 ∧ Cond.static yJ7_fill_53178 ∈ zTb := ⟨⟨zW3 200 rfl rfl, zW1 19 rfl rfl, zW3 202 rfl rfl, ⟨by decide +kernel, by decide +kernel, by decide +kernel⟩⟩, zW3 201 rfl rfl⟩
set_option maxRecDepth 20000 in
theorem cb_RX1_76 : zCB RX1 76 yX1_encode cX1_encode 8 (some .long) 1 ∧ Cond.instanceMethod yX1_encode ∈ zTb ∧ Cond.selects yX1_encode.cls yX1_encode yX1_encode ∈ zTb ∧ yX1_encode.cls = zNm 1 ∧ 1 < 13 := ⟨⟨zW4 126 rfl rfl, zW1 11 rfl rfl, zW4 117 rfl rfl, ⟨by decide +kernel, by decide +kernel, by decide +kernel⟩⟩, zW4 115 rfl rfl, zW4 116 rfl rfl, rfl, by decide⟩
set_option maxRecDepth 20000 in
theorem cb_RX1_80 : zCB RX1 80 yJ13_bitCount_95d88 cJ13_bitCount_95d88 2 (some .int) 1 ∧ Cond.static yJ13_bitCount_95d88 ∈ zTb := ⟨⟨zW4 127 rfl rfl, zW1 20 rfl rfl, zW4 129 rfl rfl, ⟨by decide +kernel, by decide +kernel, by decide +kernel⟩⟩, zW4 128 rfl rfl⟩
set_option maxRecDepth 20000 in
theorem cb_RX1_99 : zCB RX1 99 yX1_thirdOf cX1_thirdOf 2 (some .int) 1 ∧ Cond.instanceMethod yX1_thirdOf ∈ zTb ∧ Cond.selects yX1_thirdOf.cls yX1_thirdOf yX1_thirdOf ∈ zTb ∧ yX1_thirdOf.cls = zNm 1 ∧ 1 < 13 := ⟨⟨zW4 156 rfl rfl, zW1 11 rfl rfl, zW4 159 rfl rfl, ⟨by decide +kernel, by decide +kernel, by decide +kernel⟩⟩, zW4 158 rfl rfl, zSel 34 rfl rfl, rfl, by decide⟩
set_option maxRecDepth 20000 in
theorem cb_RX1_102 : zCB RX1 102 yX1_marked cX1_marked 3 (some .int) 2 ∧ Cond.instanceMethod yX1_marked ∈ zTb ∧ Cond.selects yX1_marked.cls yX1_marked yX1_marked ∈ zTb ∧ yX1_marked.cls = zNm 1 ∧ 1 < 13 := ⟨⟨zW4 164 rfl rfl, zW1 11 rfl rfl, zW4 167 rfl rfl, ⟨by decide +kernel, by decide +kernel, by decide +kernel⟩⟩, zW4 166 rfl rfl, zSel 36 rfl rfl, rfl, by decide⟩
set_option maxRecDepth 20000 in
theorem cb_RX1_95 : zCB RX1 95 yX1_mark cX1_mark 3 none 2 ∧ Cond.instanceMethod yX1_mark ∈ zTb ∧ Cond.selects yX1_mark.cls yX1_mark yX1_mark ∈ zTb ∧ yX1_mark.cls = zNm 1 ∧ 1 < 13 := ⟨⟨zW4 152 rfl rfl, zW1 11 rfl rfl, zW4 155 rfl rfl, ⟨by decide +kernel, by decide +kernel, by decide +kernel⟩⟩, zW4 154 rfl rfl, zSel 33 rfl rfl, rfl, by decide⟩
set_option maxRecDepth 20000 in
theorem cb_RX1_92 : zCB RX1 92 yJ7_fill_d0a16 cJ7_fill_d0a16 5 none 2 ∧ Cond.static yJ7_fill_d0a16 ∈ zTb := ⟨⟨zW4 149 rfl rfl, zW1 19 rfl rfl, zW4 151 rfl rfl, ⟨by decide +kernel, by decide +kernel, by decide +kernel⟩⟩, zW4 150 rfl rfl⟩
set_option maxRecDepth 20000 in
theorem cb_RX1_86 : zCB RX1 86 yX1_markMendable cX1_markMendable 3 none 0 ∧ Cond.instanceMethod yX1_markMendable ∈ zTb ∧ Cond.selects yX1_markMendable.cls yX1_markMendable yX1_markMendable ∈ zTb ∧ yX1_markMendable.cls = zNm 1 ∧ 1 < 13 := ⟨⟨zW4 145 rfl rfl, zW1 11 rfl rfl, zW4 148 rfl rfl, ⟨by decide +kernel, by decide +kernel, by decide +kernel⟩⟩, zW4 147 rfl rfl, zSel 32 rfl rfl, rfl, by decide⟩
set_option maxRecDepth 20000 in
theorem cb_RX1_89 : zCB RX1 89 yX1_countMendable cX1_countMendable 8 (some .int) 1 ∧ Cond.instanceMethod yX1_countMendable ∈ zTb ∧ Cond.selects yX1_countMendable.cls yX1_countMendable yX1_countMendable ∈ zTb ∧ yX1_countMendable.cls = zNm 1 ∧ 1 < 13 := ⟨⟨zW4 160 rfl rfl, zW1 11 rfl rfl, zW4 163 rfl rfl, ⟨by decide +kernel, by decide +kernel, by decide +kernel⟩⟩, zW4 162 rfl rfl, zSel 35 rfl rfl, rfl, by decide⟩
set_option maxRecDepth 20000 in
theorem cb_RX2_48 : zCB RX2 48 yX1_product cX1_product 4 (some .int) 2 ∧ Cond.instanceMethod yX1_product ∈ zTb ∧ Cond.selects yX1_product.cls yX1_product yX1_product ∈ zTb ∧ yX1_product.cls = zNm 1 ∧ 1 < 13 := ⟨⟨zW5 28 rfl rfl, zW1 11 rfl rfl, zW5 31 rfl rfl, ⟨by decide +kernel, by decide +kernel, by decide +kernel⟩⟩, zW5 29 rfl rfl, zW5 30 rfl rfl, rfl, by decide⟩
set_option maxRecDepth 20000 in
theorem cb_RX2_72 : zCB RX2 72 yX2_gapAt cX2_gapAt 5 (some .int) 2 ∧ Cond.instanceMethod yX2_gapAt ∈ zTb ∧ Cond.selects yX2_gapAt.cls yX2_gapAt yX2_gapAt ∈ zTb ∧ yX2_gapAt.cls = zNm 2 ∧ 2 < 13 := ⟨⟨zW5 37 rfl rfl, zW1 3 rfl rfl, zW5 40 rfl rfl, ⟨by decide +kernel, by decide +kernel, by decide +kernel⟩⟩, zW5 39 rfl rfl, zSel 47 rfl rfl, rfl, by decide⟩
set_option maxRecDepth 20000 in
theorem cb_RX2_82 : zCB RX2 82 yX1_inverse cX1_inverse 3 (some .int) 1 ∧ Cond.instanceMethod yX1_inverse ∈ zTb ∧ Cond.selects yX1_inverse.cls yX1_inverse yX1_inverse ∈ zTb ∧ yX1_inverse.cls = zNm 1 ∧ 1 < 13 := ⟨⟨zW5 44 rfl rfl, zW1 11 rfl rfl, zW5 47 rfl rfl, ⟨by decide +kernel, by decide +kernel, by decide +kernel⟩⟩, zW5 45 rfl rfl, zW5 46 rfl rfl, rfl, by decide⟩
set_option maxRecDepth 20000 in
theorem cb_RX2_86 : zCB RX2 86 yX2_correct cX2_correct 5 none 3 ∧ Cond.instanceMethod yX2_correct ∈ zTb ∧ Cond.selects yX2_correct.cls yX2_correct yX2_correct ∈ zTb ∧ yX2_correct.cls = zNm 2 ∧ 2 < 13 := ⟨⟨zW5 48 rfl rfl, zW1 3 rfl rfl, zW5 51 rfl rfl, ⟨by decide +kernel, by decide +kernel, by decide +kernel⟩⟩, zW5 50 rfl rfl, zSel 48 rfl rfl, rfl, by decide⟩
set_option maxRecDepth 20000 in
theorem ac_RX2_76 : Cond.methodLink RX2 76 arraycopyName ∈ zTb ∧ Cond.native arraycopyName ∈ zTb ∧ Cond.static arraycopyName ∈ zTb ∧ Cond.initialized "java/lang/System" ∈ zTb := ⟨zW5 41 rfl rfl, zW5 43 rfl rfl, zW5 42 rfl rfl, zW1 21 rfl rfl⟩
set_option maxRecDepth 20000 in
theorem cb_RX2_66 : zCB RX2 66 yJ7_fill_53178 cJ7_fill_53178 4 none 2 ∧ Cond.static yJ7_fill_53178 ∈ zTb := ⟨⟨zW5 36 rfl rfl, zW1 19 rfl rfl, zW3 202 rfl rfl, ⟨by decide +kernel, by decide +kernel, by decide +kernel⟩⟩, zW3 201 rfl rfl⟩
set_option maxRecDepth 20000 in
theorem cb_RX2_93 : zCB RX2 93 yX2_isRoot cX2_isRoot 7 (some .boolean) 2 ∧ Cond.instanceMethod yX2_isRoot ∈ zTb ∧ Cond.selects yX2_isRoot.cls yX2_isRoot yX2_isRoot ∈ zTb ∧ yX2_isRoot.cls = zNm 2 ∧ 2 < 13 := ⟨⟨zW5 56 rfl rfl, zW1 3 rfl rfl, zW5 59 rfl rfl, ⟨by decide +kernel, by decide +kernel, by decide +kernel⟩⟩, zW5 58 rfl rfl, zSel 50 rfl rfl, rfl, by decide⟩
set_option maxRecDepth 20000 in
theorem cb_RX2_52 : zCB RX2 52 yX2_findFactors cX2_findFactors 6 none 1 ∧ Cond.instanceMethod yX2_findFactors ∈ zTb ∧ Cond.selects yX2_findFactors.cls yX2_findFactors yX2_findFactors ∈ zTb ∧ yX2_findFactors.cls = zNm 2 ∧ 2 < 13 := ⟨⟨zW5 32 rfl rfl, zW1 3 rfl rfl, zW5 35 rfl rfl, ⟨by decide +kernel, by decide +kernel, by decide +kernel⟩⟩, zW5 34 rfl rfl, zSel 46 rfl rfl, rfl, by decide⟩
set_option maxRecDepth 20000 in
theorem cb_RX2_59 : zCB RX2 59 yX2_findRoots cX2_findRoots 5 (some .int) 1 ∧ Cond.instanceMethod yX2_findRoots ∈ zTb ∧ Cond.selects yX2_findRoots.cls yX2_findRoots yX2_findRoots ∈ zTb ∧ yX2_findRoots.cls = zNm 2 ∧ 2 < 13 := ⟨⟨zW5 52 rfl rfl, zW1 3 rfl rfl, zW5 55 rfl rfl, ⟨by decide +kernel, by decide +kernel, by decide +kernel⟩⟩, zW5 54 rfl rfl, zSel 49 rfl rfl, rfl, by decide⟩
set_option maxRecDepth 20000 in
theorem cb_RX2_44 : zCB RX2 44 yX1_valueAt cX1_valueAt 7 (some .int) 2 ∧ Cond.instanceMethod yX1_valueAt ∈ zTb ∧ Cond.selects yX1_valueAt.cls yX1_valueAt yX1_valueAt ∈ zTb ∧ yX1_valueAt.cls = zNm 1 ∧ 1 < 13 := ⟨⟨zW5 27 rfl rfl, zW1 11 rfl rfl, zW3 184 rfl rfl, ⟨by decide +kernel, by decide +kernel, by decide +kernel⟩⟩, zW3 182 rfl rfl, zW3 183 rfl rfl, rfl, by decide⟩
set_option maxRecDepth 20000 in
theorem cb_RX8_57 : zCB RX8 57 yJ13_bitCount_95d88 cJ13_bitCount_95d88 2 (some .int) 1 ∧ Cond.static yJ13_bitCount_95d88 ∈ zTb := ⟨⟨zW5 90 rfl rfl, zW1 20 rfl rfl, zW4 129 rfl rfl, ⟨by decide +kernel, by decide +kernel, by decide +kernel⟩⟩, zW4 128 rfl rfl⟩
set_option maxRecDepth 20000 in
theorem cb_RX3_77 : zCB RX3 77 yX8_isTrueRead cX8_isTrueRead 4 (some .boolean) 2 ∧ Cond.instanceMethod yX8_isTrueRead ∈ zTb ∧ Cond.selects yX8_isTrueRead.cls yX8_isTrueRead yX8_isTrueRead ∈ zTb ∧ yX8_isTrueRead.cls = zNm 8 ∧ 8 < 13 := ⟨⟨zW5 86 rfl rfl, zW1 6 rfl rfl, zW5 89 rfl rfl, ⟨by decide +kernel, by decide +kernel, by decide +kernel⟩⟩, zW5 87 rfl rfl, zW5 88 rfl rfl, rfl, by decide⟩
set_option maxRecDepth 20000 in
theorem cb_RX3_84 : zCB RX3 84 yX2_decode cX2_decode 5 none 2 ∧ Cond.instanceMethod yX2_decode ∈ zTb ∧ Cond.selects yX2_decode.cls yX2_decode yX2_decode ∈ zTb ∧ yX2_decode.cls = zNm 2 ∧ 2 < 13 := ⟨⟨zW5 91 rfl rfl, zW1 3 rfl rfl, zW5 26 rfl rfl, ⟨by decide +kernel, by decide +kernel, by decide +kernel⟩⟩, zW5 24 rfl rfl, zW5 25 rfl rfl, rfl, by decide⟩
set_option maxRecDepth 20000 in
theorem cb_RX3_25 : zCB RX3 25 yJ13_bitCount_95d88 cJ13_bitCount_95d88 2 (some .int) 1 ∧ Cond.static yJ13_bitCount_95d88 ∈ zTb := ⟨⟨zW5 80 rfl rfl, zW1 20 rfl rfl, zW4 129 rfl rfl, ⟨by decide +kernel, by decide +kernel, by decide +kernel⟩⟩, zW4 128 rfl rfl⟩
set_option maxRecDepth 20000 in
theorem cb_RX10_129 : zCB RX10 129 yJ9_min_f86c9 cJ9_min_f86c9 4 (some .long) 2 ∧ Cond.static yJ9_min_f86c9 ∈ zTb := ⟨⟨zW4 227 rfl rfl, zW1 18 rfl rfl, zW4 229 rfl rfl, ⟨by decide +kernel, by decide +kernel, by decide +kernel⟩⟩, zW4 228 rfl rfl⟩
set_option maxRecDepth 20000 in
theorem cb_RX10_131 : zCB RX10 131 yJ9_max_f86c9 cJ9_max_f86c9 4 (some .long) 2 ∧ Cond.static yJ9_max_f86c9 ∈ zTb := ⟨⟨zW4 230 rfl rfl, zW1 18 rfl rfl, zW4 232 rfl rfl, ⟨by decide +kernel, by decide +kernel, by decide +kernel⟩⟩, zW4 231 rfl rfl⟩
set_option maxRecDepth 20000 in
theorem cb_RX10_50 : zCB RX10 50 yJ9_max_7cf53 cJ9_max_7cf53 2 (some .int) 2 ∧ Cond.static yJ9_max_7cf53 ∈ zTb := ⟨⟨zW5 0 rfl rfl, zW1 18 rfl rfl, zW5 2 rfl rfl, ⟨by decide +kernel, by decide +kernel, by decide +kernel⟩⟩, zW5 1 rfl rfl⟩
set_option maxRecDepth 20000 in
theorem cb_RX10_44 : zCB RX10 44 yJ9_min_7cf53 cJ9_min_7cf53 2 (some .int) 2 ∧ Cond.static yJ9_min_7cf53 ∈ zTb := ⟨⟨zW4 239 rfl rfl, zW1 18 rfl rfl, zW3 126 rfl rfl, ⟨by decide +kernel, by decide +kernel, by decide +kernel⟩⟩, zW3 125 rfl rfl⟩
set_option maxRecDepth 20000 in
theorem cb_RX10_122 : zCB RX10 122 yJ9_floorMod_f86c9 cJ9_floorMod_f86c9 6 (some .long) 2 ∧ Cond.static yJ9_floorMod_f86c9 ∈ zTb := ⟨⟨zW4 236 rfl rfl, zW1 18 rfl rfl, zW4 238 rfl rfl, ⟨by decide +kernel, by decide +kernel, by decide +kernel⟩⟩, zW4 237 rfl rfl⟩
set_option maxRecDepth 20000 in
theorem cb_RX10_114 : zCB RX10 114 yX10_bounded cX10_bounded 2 (some .int) 1 ∧ Cond.static yX10_bounded ∈ zTb := ⟨⟨zW4 222 rfl rfl, zW1 2 rfl rfl, zW4 224 rfl rfl, ⟨by decide +kernel, by decide +kernel, by decide +kernel⟩⟩, zW4 223 rfl rfl⟩
set_option maxRecDepth 20000 in
theorem cb_RX10_118 : zCB RX10 118 yJ9_floorDiv_f86c9 cJ9_floorDiv_f86c9 6 (some .long) 2 ∧ Cond.static yJ9_floorDiv_f86c9 ∈ zTb := ⟨⟨zW4 233 rfl rfl, zW1 18 rfl rfl, zW4 235 rfl rfl, ⟨by decide +kernel, by decide +kernel, by decide +kernel⟩⟩, zW4 234 rfl rfl⟩
set_option maxRecDepth 20000 in
theorem cb_RX10_98 : zCB RX10 98 yX10_push cX10_push 2 none 1 ∧ Cond.instanceMethod yX10_push ∈ zTb ∧ Cond.selects yX10_push.cls yX10_push yX10_push ∈ zTb ∧ yX10_push.cls = zNm 10 ∧ 10 < 13 := ⟨⟨zW4 207 rfl rfl, zW1 2 rfl rfl, zW4 210 rfl rfl, ⟨by decide +kernel, by decide +kernel, by decide +kernel⟩⟩, zW4 209 rfl rfl, zSel 41 rfl rfl, rfl, by decide⟩
set_option maxRecDepth 20000 in
theorem cb_RX10_106 : zCB RX10 106 yX10_pop cX10_pop 1 (some .int) 0 ∧ Cond.instanceMethod yX10_pop ∈ zTb ∧ Cond.selects yX10_pop.cls yX10_pop yX10_pop ∈ zTb ∧ yX10_pop.cls = zNm 10 ∧ 10 < 13 := ⟨⟨zW4 215 rfl rfl, zW1 2 rfl rfl, zW4 218 rfl rfl, ⟨by decide +kernel, by decide +kernel, by decide +kernel⟩⟩, zW4 217 rfl rfl, zSel 43 rfl rfl, rfl, by decide⟩
set_option maxRecDepth 20000 in
theorem cb_RX10_110 : zCB RX10 110 yX10_joined cX10_joined 3 (some .int) 3 ∧ Cond.static yX10_joined ∈ zTb := ⟨⟨zW4 219 rfl rfl, zW1 2 rfl rfl, zW4 221 rfl rfl, ⟨by decide +kernel, by decide +kernel, by decide +kernel⟩⟩, zW4 220 rfl rfl⟩
set_option maxRecDepth 20000 in
theorem cb_RX10_102 : zCB RX10 102 yX10_valueOf cX10_valueOf 2 (some .int) 1 ∧ Cond.instanceMethod yX10_valueOf ∈ zTb ∧ Cond.selects yX10_valueOf.cls yX10_valueOf yX10_valueOf ∈ zTb ∧ yX10_valueOf.cls = zNm 10 ∧ 10 < 13 := ⟨⟨zW4 211 rfl rfl, zW1 2 rfl rfl, zW4 214 rfl rfl, ⟨by decide +kernel, by decide +kernel, by decide +kernel⟩⟩, zW4 213 rfl rfl, zSel 42 rfl rfl, rfl, by decide⟩
set_option maxRecDepth 20000 in
theorem cb_RX10_83 : zCB RX10 83 yX0_hasTries cX0_hasTries 1 (some .boolean) 0 ∧ Cond.instanceMethod yX0_hasTries ∈ zTb ∧ Cond.selects yX0_hasTries.cls yX0_hasTries yX0_hasTries ∈ zTb ∧ yX0_hasTries.cls = zNm 0 ∧ 0 < 13 := ⟨⟨zW5 103 rfl rfl, zW1 10 rfl rfl, zW4 42 rfl rfl, ⟨by decide +kernel, by decide +kernel, by decide +kernel⟩⟩, zW4 40 rfl rfl, zW4 41 rfl rfl, rfl, by decide⟩
set_option maxRecDepth 20000 in
theorem cb_RX10_40 : zCB RX10 40 yX10_run cX10_run 8 (some .int) 3 ∧ Cond.instanceMethod yX10_run ∈ zTb ∧ Cond.selects yX10_run.cls yX10_run yX10_run ∈ zTb ∧ yX10_run.cls = zNm 10 ∧ 10 < 13 := ⟨⟨zW4 203 rfl rfl, zW1 2 rfl rfl, zW4 206 rfl rfl, ⟨by decide +kernel, by decide +kernel, by decide +kernel⟩⟩, zW4 205 rfl rfl, zSel 40 rfl rfl, rfl, by decide⟩
set_option maxRecDepth 20000 in
theorem cb_RX3_95 : zCB RX3 95 yJ9_abs_0f7a4 cJ9_abs_0f7a4 1 (some .int) 1 ∧ Cond.static yJ9_abs_0f7a4 ∈ zTb := ⟨⟨zW5 96 rfl rfl, zW1 18 rfl rfl, zW5 98 rfl rfl, ⟨by decide +kernel, by decide +kernel, by decide +kernel⟩⟩, zW5 97 rfl rfl⟩
set_option maxRecDepth 20000 in
theorem cb_RX3_101 : zCB RX3 101 yX10_triesAgain cX10_triesAgain 5 (some .boolean) 4 ∧ Cond.instanceMethod yX10_triesAgain ∈ zTb ∧ Cond.selects yX10_triesAgain.cls yX10_triesAgain yX10_triesAgain ∈ zTb ∧ yX10_triesAgain.cls = zNm 10 ∧ 10 < 13 := ⟨⟨zW5 99 rfl rfl, zW1 2 rfl rfl, zW5 102 rfl rfl, ⟨by decide +kernel, by decide +kernel, by decide +kernel⟩⟩, zW5 100 rfl rfl, zW5 101 rfl rfl, rfl, by decide⟩
set_option maxRecDepth 20000 in
theorem cb_RX3_52 : zCB RX3 52 yX8_readBy cX8_readBy 6 (some .long) 2 ∧ Cond.instanceMethod yX8_readBy ∈ zTb ∧ Cond.selects yX8_readBy.cls yX8_readBy yX8_readBy ∈ zTb ∧ yX8_readBy.cls = zNm 8 ∧ 8 < 13 := ⟨⟨zW5 81 rfl rfl, zW1 6 rfl rfl, zW5 14 rfl rfl, ⟨by decide +kernel, by decide +kernel, by decide +kernel⟩⟩, zW5 12 rfl rfl, zW5 13 rfl rfl, rfl, by decide⟩
set_option maxRecDepth 20000 in
theorem cb_RX3_56 : zCB RX3 56 yX3_mend cX3_mend 5 none 3 ∧ Cond.instanceMethod yX3_mend ∈ zTb ∧ Cond.selects yX3_mend.cls yX3_mend yX3_mend ∈ zTb ∧ yX3_mend.cls = zNm 3 ∧ 3 < 13 := ⟨⟨zW5 82 rfl rfl, zW1 4 rfl rfl, zW5 85 rfl rfl, ⟨by decide +kernel, by decide +kernel, by decide +kernel⟩⟩, zW5 84 rfl rfl, zSel 51 rfl rfl, rfl, by decide⟩
set_option maxRecDepth 20000 in
theorem cb_RX3_63 : zCB RX3 63 yX3_nextThreshold cX3_nextThreshold 4 (some .int) 2 ∧ Cond.instanceMethod yX3_nextThreshold ∈ zTb ∧ Cond.selects yX3_nextThreshold.cls yX3_nextThreshold yX3_nextThreshold ∈ zTb ∧ yX3_nextThreshold.cls = zNm 3 ∧ 3 < 13 := ⟨⟨zW5 92 rfl rfl, zW1 4 rfl rfl, zW5 95 rfl rfl, ⟨by decide +kernel, by decide +kernel, by decide +kernel⟩⟩, zW5 94 rfl rfl, zSel 52 rfl rfl, rfl, by decide⟩
set_option maxRecDepth 20000 in
theorem cb_RX4_24 : zCB RX4 24 yX4_put cX4_put 2 none 1 ∧ Cond.instanceMethod yX4_put ∈ zTb ∧ Cond.selects yX4_put.cls yX4_put yX4_put ∈ zTb ∧ yX4_put.cls = zNm 4 ∧ 4 < 13 := ⟨⟨zW6 21 rfl rfl, zW1 9 rfl rfl, zW6 24 rfl rfl, ⟨by decide +kernel, by decide +kernel, by decide +kernel⟩⟩, zW6 23 rfl rfl, zSel 59 rfl rfl, rfl, by decide⟩
set_option maxRecDepth 20000 in
theorem cb_RX4_47 : zCB RX4 47 yX4_sumOf cX4_sumOf 4 (some .int) 2 ∧ Cond.static yX4_sumOf ∈ zTb := ⟨⟨zW6 30 rfl rfl, zW1 9 rfl rfl, zW6 32 rfl rfl, ⟨by decide +kernel, by decide +kernel, by decide +kernel⟩⟩, zW6 31 rfl rfl⟩
set_option maxRecDepth 20000 in
theorem cb_RX4_43 : zCB RX4 43 yX4_putRow cX4_putRow 4 none 2 ∧ Cond.instanceMethod yX4_putRow ∈ zTb ∧ Cond.selects yX4_putRow.cls yX4_putRow yX4_putRow ∈ zTb ∧ yX4_putRow.cls = zNm 4 ∧ 4 < 13 := ⟨⟨zW6 25 rfl rfl, zW1 9 rfl rfl, zW6 28 rfl rfl, ⟨by decide +kernel, by decide +kernel, by decide +kernel⟩⟩, zW6 27 rfl rfl, zSel 60 rfl rfl, rfl, by decide⟩
set_option maxRecDepth 20000 in
theorem cb_RX5_24 : zCB RX5 24 yX8_clear cX8_clear 1 none 0 ∧ Cond.instanceMethod yX8_clear ∈ zTb ∧ Cond.selects yX8_clear.cls yX8_clear yX8_clear ∈ zTb ∧ yX8_clear.cls = zNm 8 ∧ 8 < 13 := ⟨⟨zW4 51 rfl rfl, zW1 6 rfl rfl, zW4 54 rfl rfl, ⟨by decide +kernel, by decide +kernel, by decide +kernel⟩⟩, zW4 52 rfl rfl, zW4 53 rfl rfl, rfl, by decide⟩
set_option maxRecDepth 20000 in
theorem ac_RX8_30 : Cond.methodLink RX8 30 arraycopyName ∈ zTb ∧ Cond.native arraycopyName ∈ zTb ∧ Cond.static arraycopyName ∈ zTb ∧ Cond.initialized "java/lang/System" ∈ zTb := ⟨zW5 118 rfl rfl, zW5 43 rfl rfl, zW5 42 rfl rfl, zW1 21 rfl rfl⟩
set_option maxRecDepth 20000 in
theorem cb_RX5_27 : zCB RX5 27 yX8_copy cX8_copy 2 none 1 ∧ Cond.instanceMethod yX8_copy ∈ zTb ∧ Cond.selects yX8_copy.cls yX8_copy yX8_copy ∈ zTb ∧ yX8_copy.cls = zNm 8 ∧ 8 < 13 := ⟨⟨zW5 186 rfl rfl, zW1 6 rfl rfl, zW5 117 rfl rfl, ⟨by decide +kernel, by decide +kernel, by decide +kernel⟩⟩, zW5 115 rfl rfl, zW5 116 rfl rfl, rfl, by decide⟩
set_option maxRecDepth 20000 in
theorem cb_RX5_71 : zCB RX5 71 yX1_isCodeWord cX1_isCodeWord 3 (some .boolean) 1 ∧ Cond.instanceMethod yX1_isCodeWord ∈ zTb ∧ Cond.selects yX1_isCodeWord.cls yX1_isCodeWord yX1_isCodeWord ∈ zTb ∧ yX1_isCodeWord.cls = zNm 1 ∧ 1 < 13 := ⟨⟨zW6 51 rfl rfl, zW1 11 rfl rfl, zW6 54 rfl rfl, ⟨by decide +kernel, by decide +kernel, by decide +kernel⟩⟩, zW6 52 rfl rfl, zW6 53 rfl rfl, rfl, by decide⟩
set_option maxRecDepth 20000 in
theorem cb_RX5_56 : zCB RX5 56 yX5_takesRow cX5_takesRow 6 (some .boolean) 4 ∧ Cond.instanceMethod yX5_takesRow ∈ zTb ∧ Cond.selects yX5_takesRow.cls yX5_takesRow yX5_takesRow ∈ zTb ∧ yX5_takesRow.cls = zNm 5 ∧ 5 < 13 := ⟨⟨zW6 47 rfl rfl, zW1 5 rfl rfl, zW6 50 rfl rfl, ⟨by decide +kernel, by decide +kernel, by decide +kernel⟩⟩, zW6 49 rfl rfl, zSel 61 rfl rfl, rfl, by decide⟩
set_option maxRecDepth 20000 in
theorem cb_RX5_35 : zCB RX5 35 yX5_clear cX5_clear 2 none 0 ∧ Cond.instanceMethod yX5_clear ∈ zTb ∧ Cond.selects yX5_clear.cls yX5_clear yX5_clear ∈ zTb ∧ yX5_clear.cls = zNm 5 ∧ 5 < 13 := ⟨⟨zW6 45 rfl rfl, zW1 5 rfl rfl, zW4 50 rfl rfl, ⟨by decide +kernel, by decide +kernel, by decide +kernel⟩⟩, zW4 48 rfl rfl, zW4 49 rfl rfl, rfl, by decide⟩
set_option maxRecDepth 20000 in
theorem cb_RX5_36 : zCB RX5 36 yX4_sumOf cX4_sumOf 4 (some .int) 2 ∧ Cond.static yX4_sumOf ∈ zTb := ⟨⟨zW6 46 rfl rfl, zW1 9 rfl rfl, zW6 32 rfl rfl, ⟨by decide +kernel, by decide +kernel, by decide +kernel⟩⟩, zW6 31 rfl rfl⟩
set_option maxRecDepth 20000 in
theorem cb_RX6_100 : zCB RX6 100 yX6_isLetter cX6_isLetter 1 (some .boolean) 1 ∧ Cond.static yX6_isLetter ∈ zTb := ⟨⟨zW3 135 rfl rfl, zW1 12 rfl rfl, zW3 137 rfl rfl, ⟨by decide +kernel, by decide +kernel, by decide +kernel⟩⟩, zW3 136 rfl rfl⟩
set_option maxRecDepth 20000 in
theorem cb_RX6_109 : zCB RX6 109 yX6_lookAtNumber cX6_lookAtNumber 4 none 0 ∧ Cond.instanceMethod yX6_lookAtNumber ∈ zTb ∧ Cond.selects yX6_lookAtNumber.cls yX6_lookAtNumber yX6_lookAtNumber ∈ zTb ∧ yX6_lookAtNumber.cls = zNm 6 ∧ 6 < 13 := ⟨⟨zW3 145 rfl rfl, zW1 12 rfl rfl, zW3 148 rfl rfl, ⟨by decide +kernel, by decide +kernel, by decide +kernel⟩⟩, zW3 147 rfl rfl, zSel 5 rfl rfl, rfl, by decide⟩
set_option maxRecDepth 20000 in
theorem cb_RX6_106 : zCB RX6 106 yX6_lookAtWord cX6_lookAtWord 4 none 0 ∧ Cond.instanceMethod yX6_lookAtWord ∈ zTb ∧ Cond.selects yX6_lookAtWord.cls yX6_lookAtWord yX6_lookAtWord ∈ zTb ∧ yX6_lookAtWord.cls = zNm 6 ∧ 6 < 13 := ⟨⟨zW3 141 rfl rfl, zW1 12 rfl rfl, zW3 144 rfl rfl, ⟨by decide +kernel, by decide +kernel, by decide +kernel⟩⟩, zW3 143 rfl rfl, zSel 4 rfl rfl, rfl, by decide⟩
set_option maxRecDepth 20000 in
theorem cb_RX6_103 : zCB RX6 103 yX6_isDigit cX6_isDigit 1 (some .boolean) 1 ∧ Cond.static yX6_isDigit ∈ zTb := ⟨⟨zW3 138 rfl rfl, zW1 12 rfl rfl, zW3 140 rfl rfl, ⟨by decide +kernel, by decide +kernel, by decide +kernel⟩⟩, zW3 139 rfl rfl⟩
set_option maxRecDepth 20000 in
theorem cb_RX6_84 : zCB RX6 84 yX6_failBy cX6_failBy 3 (some .boolean) 2 ∧ Cond.instanceMethod yX6_failBy ∈ zTb ∧ Cond.selects yX6_failBy.cls yX6_failBy yX6_failBy ∈ zTb ∧ yX6_failBy.cls = zNm 6 ∧ 6 < 13 := ⟨⟨zW3 165 rfl rfl, zW1 12 rfl rfl, zW3 168 rfl rfl, ⟨by decide +kernel, by decide +kernel, by decide +kernel⟩⟩, zW3 167 rfl rfl, zSel 10 rfl rfl, rfl, by decide⟩
set_option maxRecDepth 20000 in
theorem cb_RX6_64 : zCB RX6 64 yX6_look cX6_look 2 none 0 ∧ Cond.instanceMethod yX6_look ∈ zTb ∧ Cond.selects yX6_look.cls yX6_look yX6_look ∈ zTb ∧ yX6_look.cls = zNm 6 ∧ 6 < 13 := ⟨⟨zW3 131 rfl rfl, zW1 12 rfl rfl, zW3 134 rfl rfl, ⟨by decide +kernel, by decide +kernel, by decide +kernel⟩⟩, zW3 133 rfl rfl, zSel 3 rfl rfl, rfl, by decide⟩
set_option maxRecDepth 20000 in
theorem cb_RX6_115 : zCB RX6 115 yX6_failHere cX6_failHere 1 (some .boolean) 0 ∧ Cond.instanceMethod yX6_failHere ∈ zTb ∧ Cond.selects yX6_failHere.cls yX6_failHere yX6_failHere ∈ zTb ∧ yX6_failHere.cls = zNm 6 ∧ 6 < 13 := ⟨⟨zW3 161 rfl rfl, zW1 12 rfl rfl, zW3 164 rfl rfl, ⟨by decide +kernel, by decide +kernel, by decide +kernel⟩⟩, zW3 163 rfl rfl, zSel 9 rfl rfl, rfl, by decide⟩
set_option maxRecDepth 20000 in
theorem cb_RX6_112 : zCB RX6 112 yX6_isOwn cX6_isOwn 2 (some .boolean) 1 ∧ Cond.instanceMethod yX6_isOwn ∈ zTb ∧ Cond.selects yX6_isOwn.cls yX6_isOwn yX6_isOwn ∈ zTb ∧ yX6_isOwn.cls = zNm 6 ∧ 6 < 13 := ⟨⟨zW3 157 rfl rfl, zW1 12 rfl rfl, zW3 160 rfl rfl, ⟨by decide +kernel, by decide +kernel, by decide +kernel⟩⟩, zW3 159 rfl rfl, zSel 8 rfl rfl, rfl, by decide⟩
set_option maxRecDepth 20000 in
theorem cb_RX6_121 : zCB RX6 121 yX6_readNumber cX6_readNumber 4 (some .int) 2 ∧ Cond.instanceMethod yX6_readNumber ∈ zTb ∧ Cond.selects yX6_readNumber.cls yX6_readNumber yX6_readNumber ∈ zTb ∧ yX6_readNumber.cls = zNm 6 ∧ 6 < 13 := ⟨⟨zW3 169 rfl rfl, zW1 12 rfl rfl, zW3 172 rfl rfl, ⟨by decide +kernel, by decide +kernel, by decide +kernel⟩⟩, zW3 171 rfl rfl, zSel 11 rfl rfl, rfl, by decide⟩
set_option maxRecDepth 20000 in
theorem cb_RX6_118 : zCB RX6 118 yX6_readOwn cX6_readOwn 2 (some .boolean) 1 ∧ Cond.instanceMethod yX6_readOwn ∈ zTb ∧ Cond.selects yX6_readOwn.cls yX6_readOwn yX6_readOwn ∈ zTb ∧ yX6_readOwn.cls = zNm 6 ∧ 6 < 13 := ⟨⟨zW3 153 rfl rfl, zW1 12 rfl rfl, zW3 156 rfl rfl, ⟨by decide +kernel, by decide +kernel, by decide +kernel⟩⟩, zW3 155 rfl rfl, zSel 7 rfl rfl, rfl, by decide⟩
set_option maxRecDepth 20000 in
theorem cb_RX6_133 : zCB RX6 133 yX1_takesMends cX1_takesMends 4 (some .boolean) 1 ∧ Cond.instanceMethod yX1_takesMends ∈ zTb ∧ Cond.selects yX1_takesMends.cls yX1_takesMends yX1_takesMends ∈ zTb ∧ yX1_takesMends.cls = zNm 1 ∧ 1 < 13 := ⟨⟨zW3 177 rfl rfl, zW1 11 rfl rfl, zW3 180 rfl rfl, ⟨by decide +kernel, by decide +kernel, by decide +kernel⟩⟩, zW3 178 rfl rfl, zW3 179 rfl rfl, rfl, by decide⟩
set_option maxRecDepth 20000 in
theorem cb_RX6_136 : zCB RX6 136 yX1_takesShort cX1_takesShort 2 (some .boolean) 1 ∧ Cond.instanceMethod yX1_takesShort ∈ zTb ∧ Cond.selects yX1_takesShort.cls yX1_takesShort yX1_takesShort ∈ zTb ∧ yX1_takesShort.cls = zNm 1 ∧ 1 < 13 := ⟨⟨zW3 196 rfl rfl, zW1 11 rfl rfl, zW3 199 rfl rfl, ⟨by decide +kernel, by decide +kernel, by decide +kernel⟩⟩, zW3 197 rfl rfl, zW3 198 rfl rfl, rfl, by decide⟩
set_option maxRecDepth 20000 in
theorem cb_RX6_128 : zCB RX6 128 yX1_takesPoly cX1_takesPoly 5 (some .boolean) 2 ∧ Cond.instanceMethod yX1_takesPoly ∈ zTb ∧ Cond.selects yX1_takesPoly.cls yX1_takesPoly yX1_takesPoly ∈ zTb ∧ yX1_takesPoly.cls = zNm 1 ∧ 1 < 13 := ⟨⟨zW3 173 rfl rfl, zW1 11 rfl rfl, zW3 176 rfl rfl, ⟨by decide +kernel, by decide +kernel, by decide +kernel⟩⟩, zW3 174 rfl rfl, zW3 175 rfl rfl, rfl, by decide⟩
set_option maxRecDepth 20000 in
theorem cb_RX6_206 : zCB RX6 206 yX6_readProduct cX6_readProduct 4 (some .boolean) 1 ∧ Cond.instanceMethod yX6_readProduct ∈ zTb ∧ Cond.selects yX6_readProduct.cls yX6_readProduct yX6_readProduct ∈ zTb ∧ yX6_readProduct.cls = zNm 6 ∧ 6 < 13 := ⟨⟨zW3 231 rfl rfl, zW1 12 rfl rfl, zW3 234 rfl rfl, ⟨by decide +kernel, by decide +kernel, by decide +kernel⟩⟩, zW3 233 rfl rfl, zSel 18 rfl rfl, rfl, by decide⟩
set_option maxRecDepth 20000 in
theorem cb_RX6_209 : zCB RX6 209 yX0_addStep cX0_addStep 2 none 1 ∧ Cond.instanceMethod yX0_addStep ∈ zTb ∧ Cond.selects yX0_addStep.cls yX0_addStep yX0_addStep ∈ zTb ∧ yX0_addStep.cls = zNm 0 ∧ 0 < 13 := ⟨⟨zW3 239 rfl rfl, zW1 10 rfl rfl, zW4 2 rfl rfl, ⟨by decide +kernel, by decide +kernel, by decide +kernel⟩⟩, zW4 0 rfl rfl, zW4 1 rfl rfl, rfl, by decide⟩
set_option maxRecDepth 20000 in
theorem cb_RX6_213 : zCB RX6 213 yX6_readPart cX6_readPart 2 (some .boolean) 1 ∧ Cond.instanceMethod yX6_readPart ∈ zTb ∧ Cond.selects yX6_readPart.cls yX6_readPart yX6_readPart ∈ zTb ∧ yX6_readPart.cls = zNm 6 ∧ 6 < 13 := ⟨⟨zW3 235 rfl rfl, zW1 12 rfl rfl, zW3 238 rfl rfl, ⟨by decide +kernel, by decide +kernel, by decide +kernel⟩⟩, zW3 237 rfl rfl, zSel 19 rfl rfl, rfl, by decide⟩
set_option maxRecDepth 20000 in
theorem cb_RX6_219 : zCB RX6 219 yX6_readPair cX6_readPair 3 (some .boolean) 2 ∧ Cond.instanceMethod yX6_readPair ∈ zTb ∧ Cond.selects yX6_readPair.cls yX6_readPair yX6_readPair ∈ zTb ∧ yX6_readPair.cls = zNm 6 ∧ 6 < 13 := ⟨⟨zW4 7 rfl rfl, zW1 12 rfl rfl, zW4 10 rfl rfl, ⟨by decide +kernel, by decide +kernel, by decide +kernel⟩⟩, zW4 9 rfl rfl, zSel 21 rfl rfl, rfl, by decide⟩
set_option maxRecDepth 20000 in
theorem cb_RX6_225 : zCB RX6 225 yX6_isValue cX6_isValue 2 (some .boolean) 1 ∧ Cond.instanceMethod yX6_isValue ∈ zTb ∧ Cond.selects yX6_isValue.cls yX6_isValue yX6_isValue ∈ zTb ∧ yX6_isValue.cls = zNm 6 ∧ 6 < 13 := ⟨⟨zW4 31 rfl rfl, zW1 12 rfl rfl, zW4 34 rfl rfl, ⟨by decide +kernel, by decide +kernel, by decide +kernel⟩⟩, zW4 33 rfl rfl, zSel 27 rfl rfl, rfl, by decide⟩
set_option maxRecDepth 20000 in
theorem cb_RX6_222 : zCB RX6 222 yX6_readChoice cX6_readChoice 2 (some .boolean) 1 ∧ Cond.instanceMethod yX6_readChoice ∈ zTb ∧ Cond.selects yX6_readChoice.cls yX6_readChoice yX6_readChoice ∈ zTb ∧ yX6_readChoice.cls = zNm 6 ∧ 6 < 13 := ⟨⟨zW4 11 rfl rfl, zW1 12 rfl rfl, zW4 14 rfl rfl, ⟨by decide +kernel, by decide +kernel, by decide +kernel⟩⟩, zW4 13 rfl rfl, zSel 22 rfl rfl, rfl, by decide⟩
set_option maxRecDepth 20000 in
theorem cb_RX6_216 : zCB RX6 216 yX6_readOpening cX6_readOpening 3 (some .boolean) 2 ∧ Cond.instanceMethod yX6_readOpening ∈ zTb ∧ Cond.selects yX6_readOpening.cls yX6_readOpening yX6_readOpening ∈ zTb ∧ yX6_readOpening.cls = zNm 6 ∧ 6 < 13 := ⟨⟨zW4 3 rfl rfl, zW1 12 rfl rfl, zW4 6 rfl rfl, ⟨by decide +kernel, by decide +kernel, by decide +kernel⟩⟩, zW4 5 rfl rfl, zSel 20 rfl rfl, rfl, by decide⟩
set_option maxRecDepth 20000 in
theorem cb_RX6_188 : zCB RX6 188 yX6_readSum cX6_readSum 4 (some .boolean) 1 ∧ Cond.instanceMethod yX6_readSum ∈ zTb ∧ Cond.selects yX6_readSum.cls yX6_readSum yX6_readSum ∈ zTb ∧ yX6_readSum.cls = zNm 6 ∧ 6 < 13 := ⟨⟨zW3 227 rfl rfl, zW1 12 rfl rfl, zW3 230 rfl rfl, ⟨by decide +kernel, by decide +kernel, by decide +kernel⟩⟩, zW3 229 rfl rfl, zSel 17 rfl rfl, rfl, by decide⟩
set_option maxRecDepth 20000 in
theorem cb_RX6_71 : zCB RX6 71 yX6_readSign cX6_readSign 2 (some .boolean) 1 ∧ Cond.instanceMethod yX6_readSign ∈ zTb ∧ Cond.selects yX6_readSign.cls yX6_readSign yX6_readSign ∈ zTb ∧ yX6_readSign.cls = zNm 6 ∧ 6 < 13 := ⟨⟨zW3 203 rfl rfl, zW1 12 rfl rfl, zW3 206 rfl rfl, ⟨by decide +kernel, by decide +kernel, by decide +kernel⟩⟩, zW3 205 rfl rfl, zSel 13 rfl rfl, rfl, by decide⟩
set_option maxRecDepth 20000 in
theorem cb_RX6_200 : zCB RX6 200 yX6_readTest cX6_readTest 3 (some .boolean) 1 ∧ Cond.instanceMethod yX6_readTest ∈ zTb ∧ Cond.selects yX6_readTest.cls yX6_readTest yX6_readTest ∈ zTb ∧ yX6_readTest.cls = zNm 6 ∧ 6 < 13 := ⟨⟨zW4 15 rfl rfl, zW1 12 rfl rfl, zW4 18 rfl rfl, ⟨by decide +kernel, by decide +kernel, by decide +kernel⟩⟩, zW4 17 rfl rfl, zSel 23 rfl rfl, rfl, by decide⟩
set_option maxRecDepth 20000 in
theorem cb_RX6_228 : zCB RX6 228 yX6_readBoth cX6_readBoth 3 (some .boolean) 1 ∧ Cond.instanceMethod yX6_readBoth ∈ zTb ∧ Cond.selects yX6_readBoth.cls yX6_readBoth yX6_readBoth ∈ zTb ∧ yX6_readBoth.cls = zNm 6 ∧ 6 < 13 := ⟨⟨zW4 19 rfl rfl, zW1 12 rfl rfl, zW4 22 rfl rfl, ⟨by decide +kernel, by decide +kernel, by decide +kernel⟩⟩, zW4 21 rfl rfl, zSel 24 rfl rfl, rfl, by decide⟩
set_option maxRecDepth 20000 in
theorem cb_RX6_231 : zCB RX6 231 yX6_readFact cX6_readFact 2 (some .boolean) 1 ∧ Cond.instanceMethod yX6_readFact ∈ zTb ∧ Cond.selects yX6_readFact.cls yX6_readFact yX6_readFact ∈ zTb ∧ yX6_readFact.cls = zNm 6 ∧ 6 < 13 := ⟨⟨zW4 23 rfl rfl, zW1 12 rfl rfl, zW4 26 rfl rfl, ⟨by decide +kernel, by decide +kernel, by decide +kernel⟩⟩, zW4 25 rfl rfl, zSel 25 rfl rfl, rfl, by decide⟩
set_option maxRecDepth 20000 in
theorem cb_RX6_234 : zCB RX6 234 yX6_readComparison cX6_readComparison 3 (some .boolean) 1 ∧ Cond.instanceMethod yX6_readComparison ∈ zTb ∧ Cond.selects yX6_readComparison.cls yX6_readComparison yX6_readComparison ∈ zTb ∧ yX6_readComparison.cls = zNm 6 ∧ 6 < 13 := ⟨⟨zW4 27 rfl rfl, zW1 12 rfl rfl, zW4 30 rfl rfl, ⟨by decide +kernel, by decide +kernel, by decide +kernel⟩⟩, zW4 29 rfl rfl, zSel 26 rfl rfl, rfl, by decide⟩
set_option maxRecDepth 20000 in
theorem cb_RX6_175 : zCB RX6 175 yX0_hasDrifts cX0_hasDrifts 1 (some .boolean) 0 ∧ Cond.instanceMethod yX0_hasDrifts ∈ zTb ∧ Cond.selects yX0_hasDrifts.cls yX0_hasDrifts yX0_hasDrifts ∈ zTb ∧ yX0_hasDrifts.cls = zNm 0 ∧ 0 < 13 := ⟨⟨zW3 223 rfl rfl, zW1 10 rfl rfl, zW3 226 rfl rfl, ⟨by decide +kernel, by decide +kernel, by decide +kernel⟩⟩, zW3 224 rfl rfl, zW3 225 rfl rfl, rfl, by decide⟩
set_option maxRecDepth 20000 in
theorem cb_RX6_169 : zCB RX6 169 yX0_hasName cX0_hasName 3 (some .boolean) 1 ∧ Cond.instanceMethod yX0_hasName ∈ zTb ∧ Cond.selects yX0_hasName.cls yX0_hasName yX0_hasName ∈ zTb ∧ yX0_hasName.cls = zNm 0 ∧ 0 < 13 := ⟨⟨zW3 215 rfl rfl, zW1 10 rfl rfl, zW3 218 rfl rfl, ⟨by decide +kernel, by decide +kernel, by decide +kernel⟩⟩, zW3 216 rfl rfl, zW3 217 rfl rfl, rfl, by decide⟩
set_option maxRecDepth 20000 in
theorem cb_RX6_194 : zCB RX6 194 yX0_hasTries cX0_hasTries 1 (some .boolean) 0 ∧ Cond.instanceMethod yX0_hasTries ∈ zTb ∧ Cond.selects yX0_hasTries.cls yX0_hasTries yX0_hasTries ∈ zTb ∧ yX0_hasTries.cls = zNm 0 ∧ 0 < 13 := ⟨⟨zW4 39 rfl rfl, zW1 10 rfl rfl, zW4 42 rfl rfl, ⟨by decide +kernel, by decide +kernel, by decide +kernel⟩⟩, zW4 40 rfl rfl, zW4 41 rfl rfl, rfl, by decide⟩
set_option maxRecDepth 20000 in
theorem cb_RX6_139 : zCB RX6 139 yX6_readPage cX6_readPage 1 (some .boolean) 0 ∧ Cond.instanceMethod yX6_readPage ∈ zTb ∧ Cond.selects yX6_readPage.cls yX6_readPage yX6_readPage ∈ zTb ∧ yX6_readPage.cls = zNm 6 ∧ 6 < 13 := ⟨⟨zW3 211 rfl rfl, zW1 12 rfl rfl, zW3 214 rfl rfl, ⟨by decide +kernel, by decide +kernel, by decide +kernel⟩⟩, zW3 213 rfl rfl, zSel 15 rfl rfl, rfl, by decide⟩
set_option maxRecDepth 20000 in
theorem cb_RX6_142 : zCB RX6 142 yX6_readDrifts cX6_readDrifts 1 (some .boolean) 0 ∧ Cond.instanceMethod yX6_readDrifts ∈ zTb ∧ Cond.selects yX6_readDrifts.cls yX6_readDrifts yX6_readDrifts ∈ zTb ∧ yX6_readDrifts.cls = zNm 6 ∧ 6 < 13 := ⟨⟨zW3 219 rfl rfl, zW1 12 rfl rfl, zW3 222 rfl rfl, ⟨by decide +kernel, by decide +kernel, by decide +kernel⟩⟩, zW3 221 rfl rfl, zSel 16 rfl rfl, rfl, by decide⟩
set_option maxRecDepth 20000 in
theorem cb_RX6_145 : zCB RX6 145 yX6_readTries cX6_readTries 1 (some .boolean) 0 ∧ Cond.instanceMethod yX6_readTries ∈ zTb ∧ Cond.selects yX6_readTries.cls yX6_readTries yX6_readTries ∈ zTb ∧ yX6_readTries.cls = zNm 6 ∧ 6 < 13 := ⟨⟨zW4 35 rfl rfl, zW1 12 rfl rfl, zW4 38 rfl rfl, ⟨by decide +kernel, by decide +kernel, by decide +kernel⟩⟩, zW4 37 rfl rfl, zSel 28 rfl rfl, rfl, by decide⟩
set_option maxRecDepth 20000 in
theorem cb_RX6_148 : zCB RX6 148 yX6_readSetting cX6_readSetting 2 (some .boolean) 0 ∧ Cond.instanceMethod yX6_readSetting ∈ zTb ∧ Cond.selects yX6_readSetting.cls yX6_readSetting yX6_readSetting ∈ zTb ∧ yX6_readSetting.cls = zNm 6 ∧ 6 < 13 := ⟨⟨zW4 43 rfl rfl, zW1 12 rfl rfl, zW4 46 rfl rfl, ⟨by decide +kernel, by decide +kernel, by decide +kernel⟩⟩, zW4 45 rfl rfl, zSel 29 rfl rfl, rfl, by decide⟩
set_option maxRecDepth 20000 in
theorem cb_RX6_88 : zCB RX6 88 yX6_readStatement cX6_readStatement 1 (some .boolean) 0 ∧ Cond.instanceMethod yX6_readStatement ∈ zTb ∧ Cond.selects yX6_readStatement.cls yX6_readStatement yX6_readStatement ∈ zTb ∧ yX6_readStatement.cls = zNm 6 ∧ 6 < 13 := ⟨⟨zW3 207 rfl rfl, zW1 12 rfl rfl, zW3 210 rfl rfl, ⟨by decide +kernel, by decide +kernel, by decide +kernel⟩⟩, zW3 209 rfl rfl, zSel 14 rfl rfl, rfl, by decide⟩
set_option maxRecDepth 20000 in
theorem cb_RX6_40 : zCB RX6 40 yJ9_min_7cf53 cJ9_min_7cf53 2 (some .int) 2 ∧ Cond.static yJ9_min_7cf53 ∈ zTb := ⟨⟨zW3 124 rfl rfl, zW1 18 rfl rfl, zW3 126 rfl rfl, ⟨by decide +kernel, by decide +kernel, by decide +kernel⟩⟩, zW3 125 rfl rfl⟩
set_option maxRecDepth 20000 in
theorem cb_RX6_50 : zCB RX6 50 yX0_clear cX0_clear 1 none 0 ∧ Cond.instanceMethod yX0_clear ∈ zTb ∧ Cond.selects yX0_clear.cls yX0_clear yX0_clear ∈ zTb ∧ yX0_clear.cls = zNm 0 ∧ 0 < 13 := ⟨⟨zW3 127 rfl rfl, zW1 10 rfl rfl, zW3 130 rfl rfl, ⟨by decide +kernel, by decide +kernel, by decide +kernel⟩⟩, zW3 128 rfl rfl, zW3 129 rfl rfl, rfl, by decide⟩
set_option maxRecDepth 20000 in
theorem cb_RX6_67 : zCB RX6 67 yX6_readField cX6_readField 4 (some .boolean) 0 ∧ Cond.instanceMethod yX6_readField ∈ zTb ∧ Cond.selects yX6_readField.cls yX6_readField yX6_readField ∈ zTb ∧ yX6_readField.cls = zNm 6 ∧ 6 < 13 := ⟨⟨zW3 149 rfl rfl, zW1 12 rfl rfl, zW3 152 rfl rfl, ⟨by decide +kernel, by decide +kernel, by decide +kernel⟩⟩, zW3 151 rfl rfl, zSel 6 rfl rfl, rfl, by decide⟩
set_option maxRecDepth 20000 in
theorem cb_RX7_35 : zCB RX7 35 yX5_copy cX5_copy 3 none 1 ∧ Cond.instanceMethod yX5_copy ∈ zTb ∧ Cond.selects yX5_copy.cls yX5_copy yX5_copy ∈ zTb ∧ yX5_copy.cls = zNm 5 ∧ 5 < 13 := ⟨⟨zW5 182 rfl rfl, zW1 5 rfl rfl, zW5 185 rfl rfl, ⟨by decide +kernel, by decide +kernel, by decide +kernel⟩⟩, zW5 183 rfl rfl, zW5 184 rfl rfl, rfl, by decide⟩
set_option maxRecDepth 20000 in
theorem cb_RX7_39 : zCB RX7 39 yJ9_min_7cf53 cJ9_min_7cf53 2 (some .int) 2 ∧ Cond.static yJ9_min_7cf53 ∈ zTb := ⟨⟨zW4 83 rfl rfl, zW1 18 rfl rfl, zW3 126 rfl rfl, ⟨by decide +kernel, by decide +kernel, by decide +kernel⟩⟩, zW3 125 rfl rfl⟩
set_option maxRecDepth 20000 in
theorem cb_RX7_45 : zCB RX7 45 yX7_told cX7_told 1 (some .int) 0 ∧ Cond.instanceMethod yX7_told ∈ zTb ∧ Cond.selects yX7_told.cls yX7_told yX7_told ∈ zTb ∧ yX7_told.cls = zNm 7 ∧ 7 < 13 := ⟨⟨zW6 12 rfl rfl, zW1 7 rfl rfl, zW4 82 rfl rfl, ⟨by decide +kernel, by decide +kernel, by decide +kernel⟩⟩, zW4 80 rfl rfl, zW4 81 rfl rfl, rfl, by decide⟩
set_option maxRecDepth 20000 in
theorem cb_RX8_47 : zCN RX8 47 yX11_bitOf cX11_bitOf 3 (some .int) 2 ∧ Cond.static yX11_bitOf ∈ zTb := ⟨⟨⟨_, List.mem_of_getElem? (i := 9) (by rfl)⟩, zW1 1 rfl rfl, zW3 187 rfl rfl, ⟨by decide +kernel, by decide +kernel, by decide +kernel⟩⟩, zW3 186 rfl rfl⟩
set_option maxRecDepth 20000 in
theorem cb_RX9_50 : zCB RX9 50 yX9_onesBy cX9_onesBy 3 (some .int) 2 ∧ Cond.instanceMethod yX9_onesBy ∈ zTb ∧ Cond.selects yX9_onesBy.cls yX9_onesBy yX9_onesBy ∈ zTb ∧ yX9_onesBy.cls = zNm 9 ∧ 9 < 13 := ⟨⟨zW5 156 rfl rfl, zW1 8 rfl rfl, zW5 159 rfl rfl, ⟨by decide +kernel, by decide +kernel, by decide +kernel⟩⟩, zW5 158 rfl rfl, zSel 54 rfl rfl, rfl, by decide⟩
set_option maxRecDepth 20000 in
theorem cb_RX9_46 : zCB RX9 46 yX9_isLeft cX9_isLeft 3 (some .boolean) 1 ∧ Cond.instanceMethod yX9_isLeft ∈ zTb ∧ Cond.selects yX9_isLeft.cls yX9_isLeft yX9_isLeft ∈ zTb ∧ yX9_isLeft.cls = zNm 9 ∧ 9 < 13 := ⟨⟨zW5 152 rfl rfl, zW1 8 rfl rfl, zW5 155 rfl rfl, ⟨by decide +kernel, by decide +kernel, by decide +kernel⟩⟩, zW5 154 rfl rfl, zSel 53 rfl rfl, rfl, by decide⟩
set_option maxRecDepth 20000 in
theorem cb_RX9_31 : zCB RX9 31 yX8_readBy cX8_readBy 6 (some .long) 2 ∧ Cond.instanceMethod yX8_readBy ∈ zTb ∧ Cond.selects yX8_readBy.cls yX8_readBy yX8_readBy ∈ zTb ∧ yX8_readBy.cls = zNm 8 ∧ 8 < 13 := ⟨⟨zW5 150 rfl rfl, zW1 6 rfl rfl, zW5 14 rfl rfl, ⟨by decide +kernel, by decide +kernel, by decide +kernel⟩⟩, zW5 12 rfl rfl, zW5 13 rfl rfl, rfl, by decide⟩
set_option maxRecDepth 20000 in
theorem cb_RX9_37 : zCB RX9 37 yJ13_bitCount_95d88 cJ13_bitCount_95d88 2 (some .int) 1 ∧ Cond.static yJ13_bitCount_95d88 ∈ zTb := ⟨⟨zW5 151 rfl rfl, zW1 20 rfl rfl, zW4 129 rfl rfl, ⟨by decide +kernel, by decide +kernel, by decide +kernel⟩⟩, zW4 128 rfl rfl⟩
set_option maxRecDepth 20000 in
theorem cb_RX9_70 : zCB RX9 70 yJ9_max_7cf53 cJ9_max_7cf53 2 (some .int) 2 ∧ Cond.static yJ9_max_7cf53 ∈ zTb := ⟨⟨zW5 173 rfl rfl, zW1 18 rfl rfl, zW5 2 rfl rfl, ⟨by decide +kernel, by decide +kernel, by decide +kernel⟩⟩, zW5 1 rfl rfl⟩
set_option maxRecDepth 20000 in
theorem cb_RX9_64 : zCB RX9 64 yJ7_fill_53178 cJ7_fill_53178 4 none 2 ∧ Cond.static yJ7_fill_53178 ∈ zTb := ⟨⟨zW5 172 rfl rfl, zW1 19 rfl rfl, zW3 202 rfl rfl, ⟨by decide +kernel, by decide +kernel, by decide +kernel⟩⟩, zW3 201 rfl rfl⟩
set_option maxRecDepth 20000 in
theorem cb_RX9_60 : zCB RX9 60 yX9_mostLeft cX9_mostLeft 5 (some .int) 1 ∧ Cond.instanceMethod yX9_mostLeft ∈ zTb ∧ Cond.selects yX9_mostLeft.cls yX9_mostLeft yX9_mostLeft ∈ zTb ∧ yX9_mostLeft.cls = zNm 9 ∧ 9 < 13 := ⟨⟨zW5 168 rfl rfl, zW1 8 rfl rfl, zW5 171 rfl rfl, ⟨by decide +kernel, by decide +kernel, by decide +kernel⟩⟩, zW5 170 rfl rfl, zSel 55 rfl rfl, rfl, by decide⟩
set_option maxRecDepth 20000 in
theorem cb_RX10_24 : zCB RX10 24 yX0_hasDrifts cX0_hasDrifts 1 (some .boolean) 0 ∧ Cond.instanceMethod yX0_hasDrifts ∈ zTb ∧ Cond.selects yX0_hasDrifts.cls yX0_hasDrifts yX0_hasDrifts ∈ zTb ∧ yX0_hasDrifts.cls = zNm 0 ∧ 0 < 13 := ⟨⟨zW4 201 rfl rfl, zW1 10 rfl rfl, zW3 226 rfl rfl, ⟨by decide +kernel, by decide +kernel, by decide +kernel⟩⟩, zW3 224 rfl rfl, zW3 225 rfl rfl, rfl, by decide⟩
set_option maxRecDepth 20000 in
theorem cb_RX10_30 : zCN RX10 30 yX11_bitOf cX11_bitOf 3 (some .int) 2 ∧ Cond.static yX11_bitOf ∈ zTb := ⟨⟨⟨_, List.mem_of_getElem? (i := 7) (by rfl)⟩, zW1 1 rfl rfl, zW3 187 rfl rfl, ⟨by decide +kernel, by decide +kernel, by decide +kernel⟩⟩, zW3 186 rfl rfl⟩
set_option maxRecDepth 20000 in
theorem cb_RX11_403 : zCB RX11 403 yJ9_min_7cf53 cJ9_min_7cf53 2 (some .int) 2 ∧ Cond.static yJ9_min_7cf53 ∈ zTb := ⟨⟨zW4 192 rfl rfl, zW1 18 rfl rfl, zW3 126 rfl rfl, ⟨by decide +kernel, by decide +kernel, by decide +kernel⟩⟩, zW3 125 rfl rfl⟩
set_option maxRecDepth 20000 in
theorem cb_RX10_80 : zCN RX10 80 yX11_older cX11_older 2 (some .int) 2 ∧ Cond.static yX11_older ∈ zTb := ⟨⟨⟨_, List.mem_of_getElem? (i := 8) (by rfl)⟩, zW1 1 rfl rfl, zW4 191 rfl rfl, ⟨by decide +kernel, by decide +kernel, by decide +kernel⟩⟩, zW4 190 rfl rfl⟩
set_option maxRecDepth 20000 in
theorem cb_RX10_76 : zCB RX10 76 yX10_drifted cX10_drifted 7 (some .int) 4 ∧ Cond.instanceMethod yX10_drifted ∈ zTb ∧ Cond.selects yX10_drifted.cls yX10_drifted yX10_drifted ∈ zTb ∧ yX10_drifted.cls = zNm 10 ∧ 10 < 13 := ⟨⟨zW5 124 rfl rfl, zW1 2 rfl rfl, zW4 200 rfl rfl, ⟨by decide +kernel, by decide +kernel, by decide +kernel⟩⟩, zW4 198 rfl rfl, zW4 199 rfl rfl, rfl, by decide⟩
set_option maxRecDepth 20000 in
theorem cb_RX10_56 : zCB RX10 56 yX10_setDay cX10_setDay 4 none 3 ∧ Cond.instanceMethod yX10_setDay ∈ zTb ∧ Cond.selects yX10_setDay.cls yX10_setDay yX10_setDay ∈ zTb ∧ yX10_setDay.cls = zNm 10 ∧ 10 < 13 := ⟨⟨zW5 123 rfl rfl, zW1 2 rfl rfl, zW4 196 rfl rfl, ⟨by decide +kernel, by decide +kernel, by decide +kernel⟩⟩, zW4 194 rfl rfl, zW4 195 rfl rfl, rfl, by decide⟩
set_option maxRecDepth 20000 in
theorem cb_RX11_109 : zCB RX11 109 yX11_putNumber cX11_putNumber 3 none 1 ∧ Cond.instanceMethod yX11_putNumber ∈ zTb ∧ Cond.selects yX11_putNumber.cls yX11_putNumber yX11_putNumber ∈ zTb ∧ yX11_putNumber.cls = zNm 11 ∧ 11 < 13 := ⟨⟨zW3 104 rfl rfl, zW1 1 rfl rfl, zW3 107 rfl rfl, ⟨by decide +kernel, by decide +kernel, by decide +kernel⟩⟩, zW3 106 rfl rfl, zSel 1 rfl rfl, rfl, by decide⟩
set_option maxRecDepth 20000 in
theorem cb_RX11_105 : zCB RX11 105 yX11_refuse cX11_refuse 2 (some .int) 1 ∧ Cond.instanceMethod yX11_refuse ∈ zTb ∧ Cond.selects yX11_refuse.cls yX11_refuse yX11_refuse ∈ zTb ∧ yX11_refuse.cls = zNm 11 ∧ 11 < 13 := ⟨⟨zW3 100 rfl rfl, zW1 1 rfl rfl, zW3 103 rfl rfl, ⟨by decide +kernel, by decide +kernel, by decide +kernel⟩⟩, zW3 102 rfl rfl, zSel 0 rfl rfl, rfl, by decide⟩
set_option maxRecDepth 20000 in
theorem cb_RX11_112 : zCB RX11 112 yX11_takeTape cX11_takeTape 2 (some .int) 0 ∧ Cond.instanceMethod yX11_takeTape ∈ zTb ∧ Cond.selects yX11_takeTape.cls yX11_takeTape yX11_takeTape ∈ zTb ∧ yX11_takeTape.cls = zNm 11 ∧ 11 < 13 := ⟨⟨zW3 116 rfl rfl, zW1 1 rfl rfl, zW3 119 rfl rfl, ⟨by decide +kernel, by decide +kernel, by decide +kernel⟩⟩, zW3 118 rfl rfl, zSel 2 rfl rfl, rfl, by decide⟩
set_option maxRecDepth 20000 in
theorem cb_RX11_116 : zCB RX11 116 yX6_reads cX6_reads 4 (some .boolean) 2 ∧ Cond.instanceMethod yX6_reads ∈ zTb ∧ Cond.selects yX6_reads.cls yX6_reads yX6_reads ∈ zTb ∧ yX6_reads.cls = zNm 6 ∧ 6 < 13 := ⟨⟨zW3 120 rfl rfl, zW1 12 rfl rfl, zW3 123 rfl rfl, ⟨by decide +kernel, by decide +kernel, by decide +kernel⟩⟩, zW3 121 rfl rfl, zW3 122 rfl rfl, rfl, by decide⟩
set_option maxRecDepth 20000 in
theorem cb_RX11_124 : zCB RX11 124 yX5_clear cX5_clear 2 none 0 ∧ Cond.instanceMethod yX5_clear ∈ zTb ∧ Cond.selects yX5_clear.cls yX5_clear yX5_clear ∈ zTb ∧ yX5_clear.cls = zNm 5 ∧ 5 < 13 := ⟨⟨zW4 47 rfl rfl, zW1 5 rfl rfl, zW4 50 rfl rfl, ⟨by decide +kernel, by decide +kernel, by decide +kernel⟩⟩, zW4 48 rfl rfl, zW4 49 rfl rfl, rfl, by decide⟩
set_option maxRecDepth 20000 in
theorem cb_RX11_127 : zCB RX11 127 yX7_clear cX7_clear 1 none 0 ∧ Cond.instanceMethod yX7_clear ∈ zTb ∧ Cond.selects yX7_clear.cls yX7_clear yX7_clear ∈ zTb ∧ yX7_clear.cls = zNm 7 ∧ 7 < 13 := ⟨⟨zW4 55 rfl rfl, zW1 7 rfl rfl, zW4 58 rfl rfl, ⟨by decide +kernel, by decide +kernel, by decide +kernel⟩⟩, zW4 56 rfl rfl, zW4 57 rfl rfl, rfl, by decide⟩
set_option maxRecDepth 20000 in
theorem cb_RX11_128 : zCB RX11 128 yX9_clear cX9_clear 1 none 0 ∧ Cond.instanceMethod yX9_clear ∈ zTb ∧ Cond.selects yX9_clear.cls yX9_clear yX9_clear ∈ zTb ∧ yX9_clear.cls = zNm 9 ∧ 9 < 13 := ⟨⟨zW4 59 rfl rfl, zW1 8 rfl rfl, zW4 62 rfl rfl, ⟨by decide +kernel, by decide +kernel, by decide +kernel⟩⟩, zW4 60 rfl rfl, zW4 61 rfl rfl, rfl, by decide⟩
set_option maxRecDepth 20000 in
theorem cb_RX11_129 : zCB RX11 129 yX2_forget cX2_forget 1 none 0 ∧ Cond.instanceMethod yX2_forget ∈ zTb ∧ Cond.selects yX2_forget.cls yX2_forget yX2_forget ∈ zTb ∧ yX2_forget.cls = zNm 2 ∧ 2 < 13 := ⟨⟨zW4 63 rfl rfl, zW1 3 rfl rfl, zW4 66 rfl rfl, ⟨by decide +kernel, by decide +kernel, by decide +kernel⟩⟩, zW4 64 rfl rfl, zW4 65 rfl rfl, rfl, by decide⟩
set_option maxRecDepth 20000 in
theorem cb_RX11_161 : zCB RX11 161 yX5_writtenCount cX5_writtenCount 3 (some .int) 0 ∧ Cond.instanceMethod yX5_writtenCount ∈ zTb ∧ Cond.selects yX5_writtenCount.cls yX5_writtenCount yX5_writtenCount ∈ zTb ∧ yX5_writtenCount.cls = zNm 5 ∧ 5 < 13 := ⟨⟨zW4 75 rfl rfl, zW1 5 rfl rfl, zW4 78 rfl rfl, ⟨by decide +kernel, by decide +kernel, by decide +kernel⟩⟩, zW4 76 rfl rfl, zW4 77 rfl rfl, rfl, by decide⟩
set_option maxRecDepth 20000 in
theorem cb_RX11_167 : zCB RX11 167 yX7_told cX7_told 1 (some .int) 0 ∧ Cond.instanceMethod yX7_told ∈ zTb ∧ Cond.selects yX7_told.cls yX7_told yX7_told ∈ zTb ∧ yX7_told.cls = zNm 7 ∧ 7 < 13 := ⟨⟨zW4 79 rfl rfl, zW1 7 rfl rfl, zW4 82 rfl rfl, ⟨by decide +kernel, by decide +kernel, by decide +kernel⟩⟩, zW4 80 rfl rfl, zW4 81 rfl rfl, rfl, by decide⟩
set_option maxRecDepth 20000 in
theorem cb_RX11_176 : zCB RX11 176 yX11_isPage cX11_isPage 2 (some .boolean) 1 ∧ Cond.instanceMethod yX11_isPage ∈ zTb ∧ Cond.selects yX11_isPage.cls yX11_isPage yX11_isPage ∈ zTb ∧ yX11_isPage.cls = zNm 11 ∧ 11 < 13 := ⟨⟨zW4 88 rfl rfl, zW1 1 rfl rfl, zW4 91 rfl rfl, ⟨by decide +kernel, by decide +kernel, by decide +kernel⟩⟩, zW4 90 rfl rfl, zSel 30 rfl rfl, rfl, by decide⟩
set_option maxRecDepth 20000 in
theorem cb_RX11_189 : zCB RX11 189 yX1_leastPolynomial cX1_leastPolynomial 3 (some .int) 1 ∧ Cond.instanceMethod yX1_leastPolynomial ∈ zTb ∧ Cond.selects yX1_leastPolynomial.cls yX1_leastPolynomial yX1_leastPolynomial ∈ zTb ∧ yX1_leastPolynomial.cls = zNm 1 ∧ 1 < 13 := ⟨⟨zW4 96 rfl rfl, zW1 11 rfl rfl, zW3 191 rfl rfl, ⟨by decide +kernel, by decide +kernel, by decide +kernel⟩⟩, zW3 189 rfl rfl, zW3 190 rfl rfl, rfl, by decide⟩
set_option maxRecDepth 20000 in
theorem cb_RX11_196 : zCB RX11 196 yX11_bitOf cX11_bitOf 3 (some .int) 2 ∧ Cond.static yX11_bitOf ∈ zTb := ⟨⟨zW4 101 rfl rfl, zW1 1 rfl rfl, zW3 187 rfl rfl, ⟨by decide +kernel, by decide +kernel, by decide +kernel⟩⟩, zW3 186 rfl rfl⟩
set_option maxRecDepth 20000 in
theorem cb_RX11_204 : zCB RX11 204 yX11_dataOf cX11_dataOf 2 (some .long) 2 ∧ Cond.static yX11_dataOf ∈ zTb := ⟨⟨zW4 111 rfl rfl, zW1 1 rfl rfl, zW4 113 rfl rfl, ⟨by decide +kernel, by decide +kernel, by decide +kernel⟩⟩, zW4 112 rfl rfl⟩
set_option maxRecDepth 20000 in
theorem cb_RX11_200 : zCB RX11 200 yX11_isData cX11_isData 3 (some .boolean) 2 ∧ Cond.instanceMethod yX11_isData ∈ zTb ∧ Cond.selects yX11_isData.cls yX11_isData yX11_isData ∈ zTb ∧ yX11_isData.cls = zNm 11 ∧ 11 < 13 := ⟨⟨zW4 106 rfl rfl, zW1 1 rfl rfl, zW4 109 rfl rfl, ⟨by decide +kernel, by decide +kernel, by decide +kernel⟩⟩, zW4 108 rfl rfl, zSel 31 rfl rfl, rfl, by decide⟩
set_option maxRecDepth 20000 in
theorem cb_RX11_208 : zCB RX11 208 yX1_encode cX1_encode 8 (some .long) 1 ∧ Cond.instanceMethod yX1_encode ∈ zTb ∧ Cond.selects yX1_encode.cls yX1_encode yX1_encode ∈ zTb ∧ yX1_encode.cls = zNm 1 ∧ 1 < 13 := ⟨⟨zW4 114 rfl rfl, zW1 11 rfl rfl, zW4 117 rfl rfl, ⟨by decide +kernel, by decide +kernel, by decide +kernel⟩⟩, zW4 115 rfl rfl, zW4 116 rfl rfl, rfl, by decide⟩
set_option maxRecDepth 20000 in
theorem cb_RX11_212 : zCB RX11 212 yX1_wordsOfWeight cX1_wordsOfWeight 3 (some .int) 1 ∧ Cond.instanceMethod yX1_wordsOfWeight ∈ zTb ∧ Cond.selects yX1_wordsOfWeight.cls yX1_wordsOfWeight yX1_wordsOfWeight ∈ zTb ∧ yX1_wordsOfWeight.cls = zNm 1 ∧ 1 < 13 := ⟨⟨zW4 122 rfl rfl, zW1 11 rfl rfl, zW4 125 rfl rfl, ⟨by decide +kernel, by decide +kernel, by decide +kernel⟩⟩, zW4 123 rfl rfl, zW4 124 rfl rfl, rfl, by decide⟩
set_option maxRecDepth 20000 in
theorem cb_RX11_215 : zCB RX11 215 yX1_patternCount cX1_patternCount 3 (some .int) 1 ∧ Cond.instanceMethod yX1_patternCount ∈ zTb ∧ Cond.selects yX1_patternCount.cls yX1_patternCount yX1_patternCount ∈ zTb ∧ yX1_patternCount.cls = zNm 1 ∧ 1 < 13 := ⟨⟨zW4 137 rfl rfl, zW1 11 rfl rfl, zW4 140 rfl rfl, ⟨by decide +kernel, by decide +kernel, by decide +kernel⟩⟩, zW4 138 rfl rfl, zW4 139 rfl rfl, rfl, by decide⟩
set_option maxRecDepth 20000 in
theorem cb_RX11_221 : zCB RX11 221 yX1_missedCount cX1_missedCount 2 (some .int) 1 ∧ Cond.instanceMethod yX1_missedCount ∈ zTb ∧ Cond.selects yX1_missedCount.cls yX1_missedCount yX1_missedCount ∈ zTb ∧ yX1_missedCount.cls = zNm 1 ∧ 1 < 13 := ⟨⟨zW4 141 rfl rfl, zW1 11 rfl rfl, zW4 144 rfl rfl, ⟨by decide +kernel, by decide +kernel, by decide +kernel⟩⟩, zW4 142 rfl rfl, zW4 143 rfl rfl, rfl, by decide⟩
set_option maxRecDepth 20000 in
theorem cb_RX11_236 : zCB RX11 236 yJ13_bitCount_95d88 cJ13_bitCount_95d88 2 (some .int) 1 ∧ Cond.static yJ13_bitCount_95d88 ∈ zTb := ⟨⟨zW4 172 rfl rfl, zW1 20 rfl rfl, zW4 129 rfl rfl, ⟨by decide +kernel, by decide +kernel, by decide +kernel⟩⟩, zW4 128 rfl rfl⟩
set_option maxRecDepth 20000 in
theorem cb_RX11_254 : zCB RX11 254 yX11_older cX11_older 2 (some .int) 2 ∧ Cond.static yX11_older ∈ zTb := ⟨⟨zW4 189 rfl rfl, zW1 1 rfl rfl, zW4 191 rfl rfl, ⟨by decide +kernel, by decide +kernel, by decide +kernel⟩⟩, zW4 190 rfl rfl⟩
set_option maxRecDepth 20000 in
theorem cb_RX11_258 : zCB RX11 258 yX10_setDay cX10_setDay 4 none 3 ∧ Cond.instanceMethod yX10_setDay ∈ zTb ∧ Cond.selects yX10_setDay.cls yX10_setDay yX10_setDay ∈ zTb ∧ yX10_setDay.cls = zNm 10 ∧ 10 < 13 := ⟨⟨zW4 193 rfl rfl, zW1 2 rfl rfl, zW4 196 rfl rfl, ⟨by decide +kernel, by decide +kernel, by decide +kernel⟩⟩, zW4 194 rfl rfl, zW4 195 rfl rfl, rfl, by decide⟩
set_option maxRecDepth 20000 in
theorem cb_RX11_262 : zCB RX11 262 yX10_drifted cX10_drifted 7 (some .int) 4 ∧ Cond.instanceMethod yX10_drifted ∈ zTb ∧ Cond.selects yX10_drifted.cls yX10_drifted yX10_drifted ∈ zTb ∧ yX10_drifted.cls = zNm 10 ∧ 10 < 13 := ⟨⟨zW4 197 rfl rfl, zW1 2 rfl rfl, zW4 200 rfl rfl, ⟨by decide +kernel, by decide +kernel, by decide +kernel⟩⟩, zW4 198 rfl rfl, zW4 199 rfl rfl, rfl, by decide⟩
set_option maxRecDepth 20000 in
theorem cb_RX11_242 : zCB RX11 242 yX11_isWritten cX11_isWritten 2 (some .boolean) 1 ∧ Cond.instanceMethod yX11_isWritten ∈ zTb ∧ Cond.selects yX11_isWritten.cls yX11_isWritten yX11_isWritten ∈ zTb ∧ yX11_isWritten.cls = zNm 11 ∧ 11 < 13 := ⟨⟨zW4 177 rfl rfl, zW1 1 rfl rfl, zW4 180 rfl rfl, ⟨by decide +kernel, by decide +kernel, by decide +kernel⟩⟩, zW4 179 rfl rfl, zSel 37 rfl rfl, rfl, by decide⟩
set_option maxRecDepth 20000 in
theorem cb_RX11_245 : zCB RX11 245 yX11_isCell cX11_isCell 2 (some .boolean) 1 ∧ Cond.instanceMethod yX11_isCell ∈ zTb ∧ Cond.selects yX11_isCell.cls yX11_isCell yX11_isCell ∈ zTb ∧ yX11_isCell.cls = zNm 11 ∧ 11 < 13 := ⟨⟨zW4 181 rfl rfl, zW1 1 rfl rfl, zW4 184 rfl rfl, ⟨by decide +kernel, by decide +kernel, by decide +kernel⟩⟩, zW4 183 rfl rfl, zSel 38 rfl rfl, rfl, by decide⟩
set_option maxRecDepth 20000 in
theorem cb_RX11_248 : zCB RX11 248 yX11_daysFit cX11_daysFit 2 (some .boolean) 1 ∧ Cond.instanceMethod yX11_daysFit ∈ zTb ∧ Cond.selects yX11_daysFit.cls yX11_daysFit yX11_daysFit ∈ zTb ∧ yX11_daysFit.cls = zNm 11 ∧ 11 < 13 := ⟨⟨zW4 185 rfl rfl, zW1 1 rfl rfl, zW4 188 rfl rfl, ⟨by decide +kernel, by decide +kernel, by decide +kernel⟩⟩, zW4 187 rfl rfl, zSel 39 rfl rfl, rfl, by decide⟩
set_option maxRecDepth 20000 in
theorem cb_RX11_266 : zCB RX11 266 yX11_isRead cX11_isRead 3 (some .boolean) 2 ∧ Cond.instanceMethod yX11_isRead ∈ zTb ∧ Cond.selects yX11_isRead.cls yX11_isRead yX11_isRead ∈ zTb ∧ yX11_isRead.cls = zNm 11 ∧ 11 < 13 := ⟨⟨zW5 7 rfl rfl, zW1 1 rfl rfl, zW5 10 rfl rfl, ⟨by decide +kernel, by decide +kernel, by decide +kernel⟩⟩, zW5 9 rfl rfl, zSel 44 rfl rfl, rfl, by decide⟩
set_option maxRecDepth 20000 in
theorem cb_RX11_269 : zCB RX11 269 yX8_readBy cX8_readBy 6 (some .long) 2 ∧ Cond.instanceMethod yX8_readBy ∈ zTb ∧ Cond.selects yX8_readBy.cls yX8_readBy yX8_readBy ∈ zTb ∧ yX8_readBy.cls = zNm 8 ∧ 8 < 13 := ⟨⟨zW5 11 rfl rfl, zW1 6 rfl rfl, zW5 14 rfl rfl, ⟨by decide +kernel, by decide +kernel, by decide +kernel⟩⟩, zW5 12 rfl rfl, zW5 13 rfl rfl, rfl, by decide⟩
set_option maxRecDepth 20000 in
theorem cb_RX11_391 : zCB RX11 391 yX2_decode cX2_decode 5 none 2 ∧ Cond.instanceMethod yX2_decode ∈ zTb ∧ Cond.selects yX2_decode.cls yX2_decode yX2_decode ∈ zTb ∧ yX2_decode.cls = zNm 2 ∧ 2 < 13 := ⟨⟨zW5 23 rfl rfl, zW1 3 rfl rfl, zW5 26 rfl rfl, ⟨by decide +kernel, by decide +kernel, by decide +kernel⟩⟩, zW5 24 rfl rfl, zW5 25 rfl rfl, rfl, by decide⟩
set_option maxRecDepth 20000 in
theorem cb_RX11_272 : zCB RX11 272 yX11_decode cX11_decode 3 none 2 ∧ Cond.instanceMethod yX11_decode ∈ zTb ∧ Cond.selects yX11_decode.cls yX11_decode yX11_decode ∈ zTb ∧ yX11_decode.cls = zNm 11 ∧ 11 < 13 := ⟨⟨zW5 19 rfl rfl, zW1 1 rfl rfl, zW5 22 rfl rfl, ⟨by decide +kernel, by decide +kernel, by decide +kernel⟩⟩, zW5 21 rfl rfl, zSel 45 rfl rfl, rfl, by decide⟩
set_option maxRecDepth 20000 in
theorem cb_RX11_291 : zCB RX11 291 yX3_get cX3_get 8 none 2 ∧ Cond.instanceMethod yX3_get ∈ zTb ∧ Cond.selects yX3_get.cls yX3_get yX3_get ∈ zTb ∧ yX3_get.cls = zNm 3 ∧ 3 < 13 := ⟨⟨zW5 76 rfl rfl, zW1 4 rfl rfl, zW5 79 rfl rfl, ⟨by decide +kernel, by decide +kernel, by decide +kernel⟩⟩, zW5 77 rfl rfl, zW5 78 rfl rfl, rfl, by decide⟩
set_option maxRecDepth 20000 in
theorem cb_RX11_312 : zCB RX11 312 yX8_isTrueRead cX8_isTrueRead 4 (some .boolean) 2 ∧ Cond.instanceMethod yX8_isTrueRead ∈ zTb ∧ Cond.selects yX8_isTrueRead.cls yX8_isTrueRead yX8_isTrueRead ∈ zTb ∧ yX8_isTrueRead.cls = zNm 8 ∧ 8 < 13 := ⟨⟨zW5 109 rfl rfl, zW1 6 rfl rfl, zW5 89 rfl rfl, ⟨by decide +kernel, by decide +kernel, by decide +kernel⟩⟩, zW5 87 rfl rfl, zW5 88 rfl rfl, rfl, by decide⟩
set_option maxRecDepth 20000 in
theorem cb_RX11_320 : zCB RX11 320 yX10_passDay cX10_passDay 5 none 3 ∧ Cond.instanceMethod yX10_passDay ∈ zTb ∧ Cond.selects yX10_passDay.cls yX10_passDay yX10_passDay ∈ zTb ∧ yX10_passDay.cls = zNm 10 ∧ 10 < 13 := ⟨⟨zW5 119 rfl rfl, zW1 2 rfl rfl, zW5 122 rfl rfl, ⟨by decide +kernel, by decide +kernel, by decide +kernel⟩⟩, zW5 120 rfl rfl, zW5 121 rfl rfl, rfl, by decide⟩
set_option maxRecDepth 20000 in
theorem cb_RX11_316 : zCB RX11 316 yX8_copy cX8_copy 2 none 1 ∧ Cond.instanceMethod yX8_copy ∈ zTb ∧ Cond.selects yX8_copy.cls yX8_copy yX8_copy ∈ zTb ∧ yX8_copy.cls = zNm 8 ∧ 8 < 13 := ⟨⟨zW5 114 rfl rfl, zW1 6 rfl rfl, zW5 117 rfl rfl, ⟨by decide +kernel, by decide +kernel, by decide +kernel⟩⟩, zW5 115 rfl rfl, zW5 116 rfl rfl, rfl, by decide⟩
set_option maxRecDepth 20000 in
theorem cb_RX11_324 : zCB RX11 324 yX8_turn cX8_turn 2 none 1 ∧ Cond.instanceMethod yX8_turn ∈ zTb ∧ Cond.selects yX8_turn.cls yX8_turn yX8_turn ∈ zTb ∧ yX8_turn.cls = zNm 8 ∧ 8 < 13 := ⟨⟨zW5 130 rfl rfl, zW1 6 rfl rfl, zW5 133 rfl rfl, ⟨by decide +kernel, by decide +kernel, by decide +kernel⟩⟩, zW5 131 rfl rfl, zW5 132 rfl rfl, rfl, by decide⟩
set_option maxRecDepth 20000 in
theorem cb_RX11_330 : zCB RX11 330 yX9_takes cX9_takes 4 (some .boolean) 2 ∧ Cond.instanceMethod yX9_takes ∈ zTb ∧ Cond.selects yX9_takes.cls yX9_takes yX9_takes ∈ zTb ∧ yX9_takes.cls = zNm 9 ∧ 9 < 13 := ⟨⟨zW5 138 rfl rfl, zW1 8 rfl rfl, zW5 141 rfl rfl, ⟨by decide +kernel, by decide +kernel, by decide +kernel⟩⟩, zW5 139 rfl rfl, zW5 140 rfl rfl, rfl, by decide⟩
set_option maxRecDepth 20000 in
theorem cb_RX11_334 : zCB RX11 334 yX9_find cX9_find 4 none 2 ∧ Cond.instanceMethod yX9_find ∈ zTb ∧ Cond.selects yX9_find.cls yX9_find yX9_find ∈ zTb ∧ yX9_find.cls = zNm 9 ∧ 9 < 13 := ⟨⟨zW5 146 rfl rfl, zW1 8 rfl rfl, zW5 149 rfl rfl, ⟨by decide +kernel, by decide +kernel, by decide +kernel⟩⟩, zW5 147 rfl rfl, zW5 148 rfl rfl, rfl, by decide⟩
set_option maxRecDepth 20000 in
theorem cb_RX11_344 : zCB RX11 344 yX9_findTelling cX9_findTelling 3 none 0 ∧ Cond.instanceMethod yX9_findTelling ∈ zTb ∧ Cond.selects yX9_findTelling.cls yX9_findTelling yX9_findTelling ∈ zTb ∧ yX9_findTelling.cls = zNm 9 ∧ 9 < 13 := ⟨⟨zW5 164 rfl rfl, zW1 8 rfl rfl, zW5 167 rfl rfl, ⟨by decide +kernel, by decide +kernel, by decide +kernel⟩⟩, zW5 165 rfl rfl, zW5 166 rfl rfl, rfl, by decide⟩
set_option maxRecDepth 20000 in
theorem cb_RX11_353 : zCB RX11 353 yX7_save cX7_save 2 none 1 ∧ Cond.instanceMethod yX7_save ∈ zTb ∧ Cond.selects yX7_save.cls yX7_save yX7_save ∈ zTb ∧ yX7_save.cls = zNm 7 ∧ 7 < 13 := ⟨⟨zW5 178 rfl rfl, zW1 7 rfl rfl, zW5 181 rfl rfl, ⟨by decide +kernel, by decide +kernel, by decide +kernel⟩⟩, zW5 179 rfl rfl, zW5 180 rfl rfl, rfl, by decide⟩
set_option maxRecDepth 20000 in
theorem cb_RX11_357 : zCB RX11 357 yX8_fill cX8_fill 5 none 2 ∧ Cond.instanceMethod yX8_fill ∈ zTb ∧ Cond.selects yX8_fill.cls yX8_fill yX8_fill ∈ zTb ∧ yX8_fill.cls = zNm 8 ∧ 8 < 13 := ⟨⟨zW5 187 rfl rfl, zW1 6 rfl rfl, zW5 190 rfl rfl, ⟨by decide +kernel, by decide +kernel, by decide +kernel⟩⟩, zW5 188 rfl rfl, zW5 189 rfl rfl, rfl, by decide⟩
set_option maxRecDepth 20000 in
theorem cb_RX11_361 : zCB RX11 361 yX7_add cX7_add 5 none 3 ∧ Cond.instanceMethod yX7_add ∈ zTb ∧ Cond.selects yX7_add.cls yX7_add yX7_add ∈ zTb ∧ yX7_add.cls = zNm 7 ∧ 7 < 13 := ⟨⟨zW5 192 rfl rfl, zW1 7 rfl rfl, zW5 195 rfl rfl, ⟨by decide +kernel, by decide +kernel, by decide +kernel⟩⟩, zW5 193 rfl rfl, zW5 194 rfl rfl, rfl, by decide⟩
set_option maxRecDepth 20000 in
theorem cb_RX11_365 : zCB RX11 365 yX8_clear cX8_clear 1 none 0 ∧ Cond.instanceMethod yX8_clear ∈ zTb ∧ Cond.selects yX8_clear.cls yX8_clear yX8_clear ∈ zTb ∧ yX8_clear.cls = zNm 8 ∧ 8 < 13 := ⟨⟨zW5 200 rfl rfl, zW1 6 rfl rfl, zW4 54 rfl rfl, ⟨by decide +kernel, by decide +kernel, by decide +kernel⟩⟩, zW4 52 rfl rfl, zW4 53 rfl rfl, rfl, by decide⟩
set_option maxRecDepth 20000 in
theorem cb_RX11_366 : zCB RX11 366 yX11_passDay cX11_passDay 2 none 0 ∧ Cond.instanceMethod yX11_passDay ∈ zTb ∧ Cond.selects yX11_passDay.cls yX11_passDay yX11_passDay ∈ zTb ∧ yX11_passDay.cls = zNm 11 ∧ 11 < 13 := ⟨⟨zW5 213 rfl rfl, zW1 1 rfl rfl, zW5 216 rfl rfl, ⟨by decide +kernel, by decide +kernel, by decide +kernel⟩⟩, zW5 215 rfl rfl, zSel 56 rfl rfl, rfl, by decide⟩
set_option maxRecDepth 20000 in
theorem cb_RX11_394 : zCB RX11 394 yX11_draw cX11_draw 2 (some .int) 1 ∧ Cond.instanceMethod yX11_draw ∈ zTb ∧ Cond.selects yX11_draw.cls yX11_draw yX11_draw ∈ zTb ∧ yX11_draw.cls = zNm 11 ∧ 11 < 13 := ⟨⟨zW5 225 rfl rfl, zW1 1 rfl rfl, zW5 228 rfl rfl, ⟨by decide +kernel, by decide +kernel, by decide +kernel⟩⟩, zW5 227 rfl rfl, zSel 58 rfl rfl, rfl, by decide⟩
set_option maxRecDepth 20000 in
theorem cb_RX11_368 : zCB RX11 368 yX11_addNoise cX11_addNoise 3 (some .int) 0 ∧ Cond.instanceMethod yX11_addNoise ∈ zTb ∧ Cond.selects yX11_addNoise.cls yX11_addNoise yX11_addNoise ∈ zTb ∧ yX11_addNoise.cls = zNm 11 ∧ 11 < 13 := ⟨⟨zW5 221 rfl rfl, zW1 1 rfl rfl, zW5 224 rfl rfl, ⟨by decide +kernel, by decide +kernel, by decide +kernel⟩⟩, zW5 223 rfl rfl, zSel 57 rfl rfl, rfl, by decide⟩
set_option maxRecDepth 20000 in
theorem cb_RX11_371 : zCB RX11 371 yX7_restore cX7_restore 2 none 1 ∧ Cond.instanceMethod yX7_restore ∈ zTb ∧ Cond.selects yX7_restore.cls yX7_restore yX7_restore ∈ zTb ∧ yX7_restore.cls = zNm 7 ∧ 7 < 13 := ⟨⟨zW5 236 rfl rfl, zW1 7 rfl rfl, zW5 239 rfl rfl, ⟨by decide +kernel, by decide +kernel, by decide +kernel⟩⟩, zW5 237 rfl rfl, zW5 238 rfl rfl, rfl, by decide⟩
set_option maxRecDepth 20000 in
theorem cb_RX11_374 : zCB RX11 374 yX7_entry cX7_entry 3 (some .int) 2 ∧ Cond.instanceMethod yX7_entry ∈ zTb ∧ Cond.selects yX7_entry.cls yX7_entry yX7_entry ∈ zTb ∧ yX7_entry.cls = zNm 7 ∧ 7 < 13 := ⟨⟨zW6 8 rfl rfl, zW1 7 rfl rfl, zW6 11 rfl rfl, ⟨by decide +kernel, by decide +kernel, by decide +kernel⟩⟩, zW6 9 rfl rfl, zW6 10 rfl rfl, rfl, by decide⟩
set_option maxRecDepth 20000 in
theorem cb_RX11_377 : zCB RX11 377 yX4_build cX4_build 5 none 3 ∧ Cond.instanceMethod yX4_build ∈ zTb ∧ Cond.selects yX4_build.cls yX4_build yX4_build ∈ zTb ∧ yX4_build.cls = zNm 4 ∧ 4 < 13 := ⟨⟨zW6 17 rfl rfl, zW1 9 rfl rfl, zW6 20 rfl rfl, ⟨by decide +kernel, by decide +kernel, by decide +kernel⟩⟩, zW6 18 rfl rfl, zW6 19 rfl rfl, rfl, by decide⟩
set_option maxRecDepth 20000 in
theorem cb_RX11_385 : zCB RX11 385 yX5_takes cX5_takes 7 (some .boolean) 3 ∧ Cond.instanceMethod yX5_takes ∈ zTb ∧ Cond.selects yX5_takes.cls yX5_takes yX5_takes ∈ zTb ∧ yX5_takes.cls = zNm 5 ∧ 5 < 13 := ⟨⟨zW6 41 rfl rfl, zW1 5 rfl rfl, zW6 44 rfl rfl, ⟨by decide +kernel, by decide +kernel, by decide +kernel⟩⟩, zW6 42 rfl rfl, zW6 43 rfl rfl, rfl, by decide⟩
set_option maxRecDepth 20000 in
theorem cb_RX11_388 : zCB RX11 388 yX5_copy cX5_copy 3 none 1 ∧ Cond.instanceMethod yX5_copy ∈ zTb ∧ Cond.selects yX5_copy.cls yX5_copy yX5_copy ∈ zTb ∧ yX5_copy.cls = zNm 5 ∧ 5 < 13 := ⟨⟨zW6 55 rfl rfl, zW1 5 rfl rfl, zW5 185 rfl rfl, ⟨by decide +kernel, by decide +kernel, by decide +kernel⟩⟩, zW5 183 rfl rfl, zW5 184 rfl rfl, rfl, by decide⟩
set_option maxRecDepth 20000 in
theorem cb_RX12_247 : zCB RX12 247 yX12_put cX12_put 3 none 1 ∧ Cond.instanceMethod yX12_put ∈ zTb ∧ Cond.selects yX12_put.cls yX12_put yX12_put ∈ zTb ∧ yX12_put.cls = zNm 12 ∧ 12 < 13 := ⟨⟨zW7 64 rfl rfl, zW1 17 rfl rfl, zW7 67 rfl rfl, ⟨by decide +kernel, by decide +kernel, by decide +kernel⟩⟩, zW7 66 rfl rfl, zSel 63 rfl rfl, rfl, by decide⟩
set_option maxRecDepth 20000 in
theorem cb_RX12_243 : zCB RX12 243 yX12_refuses cX12_refuses 2 (some .int) 1 ∧ Cond.instanceMethod yX12_refuses ∈ zTb ∧ Cond.selects yX12_refuses.cls yX12_refuses yX12_refuses ∈ zTb ∧ yX12_refuses.cls = zNm 12 ∧ 12 < 13 := ⟨⟨zW7 60 rfl rfl, zW1 17 rfl rfl, zW7 63 rfl rfl, ⟨by decide +kernel, by decide +kernel, by decide +kernel⟩⟩, zW7 62 rfl rfl, zSel 62 rfl rfl, rfl, by decide⟩
set_option maxRecDepth 20000 in
theorem cb_RX12_251 : zCB RX12 251 yX12_blame cX12_blame 3 none 2 ∧ Cond.instanceMethod yX12_blame ∈ zTb ∧ Cond.selects yX12_blame.cls yX12_blame yX12_blame ∈ zTb ∧ yX12_blame.cls = zNm 12 ∧ 12 < 13 := ⟨⟨zW7 103 rfl rfl, zW1 17 rfl rfl, zW7 106 rfl rfl, ⟨by decide +kernel, by decide +kernel, by decide +kernel⟩⟩, zW7 105 rfl rfl, zSel 69 rfl rfl, rfl, by decide⟩
set_option maxRecDepth 20000 in
theorem cb_RX12_259 : zCB RX12 259 yX12_isDigit cX12_isDigit 1 (some .boolean) 1 ∧ Cond.static yX12_isDigit ∈ zTb := ⟨⟨zW7 87 rfl rfl, zW1 17 rfl rfl, zW7 89 rfl rfl, ⟨by decide +kernel, by decide +kernel, by decide +kernel⟩⟩, zW7 88 rfl rfl⟩
set_option maxRecDepth 20000 in
theorem cb_RX12_255 : zCB RX12 255 yX12_isLetter cX12_isLetter 1 (some .boolean) 1 ∧ Cond.static yX12_isLetter ∈ zTb := ⟨⟨zW7 84 rfl rfl, zW1 17 rfl rfl, zW7 86 rfl rfl, ⟨by decide +kernel, by decide +kernel, by decide +kernel⟩⟩, zW7 85 rfl rfl⟩
set_option maxRecDepth 20000 in
theorem cb_RX12_268 : zCB RX12 268 yX12_ahead cX12_ahead 6 none 0 ∧ Cond.instanceMethod yX12_ahead ∈ zTb ∧ Cond.selects yX12_ahead.cls yX12_ahead yX12_ahead ∈ zTb ∧ yX12_ahead.cls = zNm 12 ∧ 12 < 13 := ⟨⟨zW7 80 rfl rfl, zW1 17 rfl rfl, zW7 83 rfl rfl, ⟨by decide +kernel, by decide +kernel, by decide +kernel⟩⟩, zW7 82 rfl rfl, zSel 65 rfl rfl, rfl, by decide⟩
set_option maxRecDepth 20000 in
theorem cb_RX12_262 : zCB RX12 262 yX12_lex cX12_lex 1 none 0 ∧ Cond.instanceMethod yX12_lex ∈ zTb ∧ Cond.selects yX12_lex.cls yX12_lex yX12_lex ∈ zTb ∧ yX12_lex.cls = zNm 12 ∧ 12 < 13 := ⟨⟨zW7 99 rfl rfl, zW1 17 rfl rfl, zW7 102 rfl rfl, ⟨by decide +kernel, by decide +kernel, by decide +kernel⟩⟩, zW7 101 rfl rfl, zSel 68 rfl rfl, rfl, by decide⟩
set_option maxRecDepth 20000 in
theorem cb_RX12_265 : zCB RX12 265 yX12_isSign cX12_isSign 2 (some .boolean) 1 ∧ Cond.instanceMethod yX12_isSign ∈ zTb ∧ Cond.selects yX12_isSign.cls yX12_isSign yX12_isSign ∈ zTb ∧ yX12_isSign.cls = zNm 12 ∧ 12 < 13 := ⟨⟨zW7 135 rfl rfl, zW1 17 rfl rfl, zW7 138 rfl rfl, ⟨by decide +kernel, by decide +kernel, by decide +kernel⟩⟩, zW7 137 rfl rfl, zSel 74 rfl rfl, rfl, by decide⟩
set_option maxRecDepth 20000 in
theorem cb_RX12_325 : zCB RX12 325 yX12_is cX12_is 3 (some .boolean) 3 ∧ Cond.static yX12_is ∈ zTb := ⟨⟨zW7 115 rfl rfl, zW1 17 rfl rfl, zW7 117 rfl rfl, ⟨by decide +kernel, by decide +kernel, by decide +kernel⟩⟩, zW7 116 rfl rfl⟩
set_option maxRecDepth 20000 in
theorem cb_RX12_329 : zCB RX12 329 yX12_rank cX12_rank 1 (some .int) 1 ∧ Cond.static yX12_rank ∈ zTb := ⟨⟨zW7 229 rfl rfl, zW1 17 rfl rfl, zW7 231 rfl rfl, ⟨by decide +kernel, by decide +kernel, by decide +kernel⟩⟩, zW7 230 rfl rfl⟩
set_option maxRecDepth 20000 in
theorem cb_RX12_332 : zCB RX12 332 yX12_add cX12_add 3 none 2 ∧ Cond.instanceMethod yX12_add ∈ zTb ∧ Cond.selects yX12_add.cls yX12_add yX12_add ∈ zTb ∧ yX12_add.cls = zNm 12 ∧ 12 < 13 := ⟨⟨zW7 217 rfl rfl, zW1 17 rfl rfl, zW7 220 rfl rfl, ⟨by decide +kernel, by decide +kernel, by decide +kernel⟩⟩, zW7 219 rfl rfl, zSel 88 rfl rfl, rfl, by decide⟩
set_option maxRecDepth 20000 in
theorem cb_RX12_335 : zCB RX12 335 yX12_pushes cX12_pushes 2 none 1 ∧ Cond.instanceMethod yX12_pushes ∈ zTb ∧ Cond.selects yX12_pushes.cls yX12_pushes yX12_pushes ∈ zTb ∧ yX12_pushes.cls = zNm 12 ∧ 12 < 13 := ⟨⟨zW7 198 rfl rfl, zW1 17 rfl rfl, zW7 201 rfl rfl, ⟨by decide +kernel, by decide +kernel, by decide +kernel⟩⟩, zW7 200 rfl rfl, zSel 84 rfl rfl, rfl, by decide⟩
set_option maxRecDepth 20000 in
theorem cb_RX12_345 : zCB RX12 345 yX12_holdsBack cX12_holdsBack 2 none 1 ∧ Cond.instanceMethod yX12_holdsBack ∈ zTb ∧ Cond.selects yX12_holdsBack.cls yX12_holdsBack yX12_holdsBack ∈ zTb ∧ yX12_holdsBack.cls = zNm 12 ∧ 12 < 13 := ⟨⟨zW7 209 rfl rfl, zW1 17 rfl rfl, zW7 212 rfl rfl, ⟨by decide +kernel, by decide +kernel, by decide +kernel⟩⟩, zW7 211 rfl rfl, zSel 86 rfl rfl, rfl, by decide⟩
set_option maxRecDepth 20000 in
theorem cb_RX12_348 : zCB RX12 348 yX12_opens cX12_opens 2 none 1 ∧ Cond.instanceMethod yX12_opens ∈ zTb ∧ Cond.selects yX12_opens.cls yX12_opens yX12_opens ∈ zTb ∧ yX12_opens.cls = zNm 12 ∧ 12 < 13 := ⟨⟨zW7 213 rfl rfl, zW1 17 rfl rfl, zW7 216 rfl rfl, ⟨by decide +kernel, by decide +kernel, by decide +kernel⟩⟩, zW7 215 rfl rfl, zSel 87 rfl rfl, rfl, by decide⟩
set_option maxRecDepth 20000 in
theorem cb_RX12_341 : zCB RX12 341 yX12_isWord cX12_isWord 3 (some .boolean) 1 ∧ Cond.instanceMethod yX12_isWord ∈ zTb ∧ Cond.selects yX12_isWord.cls yX12_isWord yX12_isWord ∈ zTb ∧ yX12_isWord.cls = zNm 12 ∧ 12 < 13 := ⟨⟨zW7 107 rfl rfl, zW1 17 rfl rfl, zW7 110 rfl rfl, ⟨by decide +kernel, by decide +kernel, by decide +kernel⟩⟩, zW7 109 rfl rfl, zSel 70 rfl rfl, rfl, by decide⟩
set_option maxRecDepth 20000 in
theorem cb_RX12_338 : zCB RX12 338 yX12_isTest cX12_isTest 1 (some .boolean) 1 ∧ Cond.static yX12_isTest ∈ zTb := ⟨⟨zW7 206 rfl rfl, zW1 17 rfl rfl, zW7 208 rfl rfl, ⟨by decide +kernel, by decide +kernel, by decide +kernel⟩⟩, zW7 207 rfl rfl⟩
set_option maxRecDepth 20000 in
theorem cb_RX12_351 : zCB RX12 351 yX12_joins cX12_joins 2 none 1 ∧ Cond.instanceMethod yX12_joins ∈ zTb ∧ Cond.selects yX12_joins.cls yX12_joins yX12_joins ∈ zTb ∧ yX12_joins.cls = zNm 12 ∧ 12 < 13 := ⟨⟨zW7 225 rfl rfl, zW1 17 rfl rfl, zW7 228 rfl rfl, ⟨by decide +kernel, by decide +kernel, by decide +kernel⟩⟩, zW7 227 rfl rfl, zSel 90 rfl rfl, rfl, by decide⟩
set_option maxRecDepth 20000 in
theorem cb_RX12_357 : zCB RX12 357 yX12_goesOn cX12_goesOn 5 (some .boolean) 0 ∧ Cond.instanceMethod yX12_goesOn ∈ zTb ∧ Cond.selects yX12_goesOn.cls yX12_goesOn yX12_goesOn ∈ zTb ∧ yX12_goesOn.cls = zNm 12 ∧ 12 < 13 := ⟨⟨zW7 221 rfl rfl, zW1 17 rfl rfl, zW7 224 rfl rfl, ⟨by decide +kernel, by decide +kernel, by decide +kernel⟩⟩, zW7 223 rfl rfl, zSel 89 rfl rfl, rfl, by decide⟩
set_option maxRecDepth 20000 in
theorem cb_RX12_354 : zCB RX12 354 yX12_operand cX12_operand 4 (some .boolean) 0 ∧ Cond.instanceMethod yX12_operand ∈ zTb ∧ Cond.selects yX12_operand.cls yX12_operand yX12_operand ∈ zTb ∧ yX12_operand.cls = zNm 12 ∧ 12 < 13 := ⟨⟨zW7 202 rfl rfl, zW1 17 rfl rfl, zW7 205 rfl rfl, ⟨by decide +kernel, by decide +kernel, by decide +kernel⟩⟩, zW7 204 rfl rfl, zSel 85 rfl rfl, rfl, by decide⟩
set_option maxRecDepth 20000 in
theorem cb_RX12_360 : zCB RX12 360 yX12_timesA cX12_timesA 4 (some .int) 3 ∧ Cond.static yX12_timesA ∈ zTb := ⟨⟨zW7 122 rfl rfl, zW1 17 rfl rfl, zW7 124 rfl rfl, ⟨by decide +kernel, by decide +kernel, by decide +kernel⟩⟩, zW7 123 rfl rfl⟩
set_option maxRecDepth 20000 in
theorem cb_RX12_364 : zCB RX12 364 yX12_mustWord cX12_mustWord 3 none 1 ∧ Cond.instanceMethod yX12_mustWord ∈ zTb ∧ Cond.selects yX12_mustWord.cls yX12_mustWord yX12_mustWord ∈ zTb ∧ yX12_mustWord.cls = zNm 12 ∧ 12 < 13 := ⟨⟨zW7 95 rfl rfl, zW1 17 rfl rfl, zW7 98 rfl rfl, ⟨by decide +kernel, by decide +kernel, by decide +kernel⟩⟩, zW7 97 rfl rfl, zSel 67 rfl rfl, rfl, by decide⟩
set_option maxRecDepth 20000 in
theorem cb_RX12_368 : zCB RX12 368 yX12_number cX12_number 4 (some .int) 2 ∧ Cond.instanceMethod yX12_number ∈ zTb ∧ Cond.selects yX12_number.cls yX12_number yX12_number ∈ zTb ∧ yX12_number.cls = zNm 12 ∧ 12 < 13 := ⟨⟨zW7 111 rfl rfl, zW1 17 rfl rfl, zW7 114 rfl rfl, ⟨by decide +kernel, by decide +kernel, by decide +kernel⟩⟩, zW7 113 rfl rfl, zSel 71 rfl rfl, rfl, by decide⟩
set_option maxRecDepth 20000 in
theorem cb_RX12_379 : zCB RX12 379 yX12_tellsAt cX12_tellsAt 3 none 2 ∧ Cond.instanceMethod yX12_tellsAt ∈ zTb ∧ Cond.selects yX12_tellsAt.cls yX12_tellsAt yX12_tellsAt ∈ zTb ∧ yX12_tellsAt.cls = zNm 12 ∧ 12 < 13 := ⟨⟨zW7 76 rfl rfl, zW1 17 rfl rfl, zW7 79 rfl rfl, ⟨by decide +kernel, by decide +kernel, by decide +kernel⟩⟩, zW7 78 rfl rfl, zSel 64 rfl rfl, rfl, by decide⟩
set_option maxRecDepth 20000 in
theorem cb_RX12_376 : zCB RX12 376 yX12_rootsFor cX12_rootsFor 8 (some .int) 2 ∧ Cond.instanceMethod yX12_rootsFor ∈ zTb ∧ Cond.selects yX12_rootsFor.cls yX12_rootsFor yX12_rootsFor ∈ zTb ∧ yX12_rootsFor.cls = zNm 12 ∧ 12 < 13 := ⟨⟨zW7 126 rfl rfl, zW1 17 rfl rfl, zW7 129 rfl rfl, ⟨by decide +kernel, by decide +kernel, by decide +kernel⟩⟩, zW7 128 rfl rfl, zSel 72 rfl rfl, rfl, by decide⟩
set_option maxRecDepth 20000 in
theorem cb_RX12_372 : zCB RX12 372 yX12_isPrimitive cX12_isPrimitive 4 (some .boolean) 2 ∧ Cond.static yX12_isPrimitive ∈ zTb := ⟨⟨zW7 119 rfl rfl, zW1 17 rfl rfl, zW7 121 rfl rfl, ⟨by decide +kernel, by decide +kernel, by decide +kernel⟩⟩, zW7 120 rfl rfl⟩
set_option maxRecDepth 20000 in
theorem cb_RX12_389 : zCB RX12 389 yX12_pageNamed cX12_pageNamed 4 (some .int) 1 ∧ Cond.instanceMethod yX12_pageNamed ∈ zTb ∧ Cond.selects yX12_pageNamed.cls yX12_pageNamed yX12_pageNamed ∈ zTb ∧ yX12_pageNamed.cls = zNm 12 ∧ 12 < 13 := ⟨⟨zW7 182 rfl rfl, zW1 17 rfl rfl, zW7 185 rfl rfl, ⟨by decide +kernel, by decide +kernel, by decide +kernel⟩⟩, zW7 184 rfl rfl, zSel 80 rfl rfl, rfl, by decide⟩
set_option maxRecDepth 20000 in
theorem cb_RX12_382 : zCB RX12 382 yX12_isCounted cX12_isCounted 2 (some .boolean) 1 ∧ Cond.instanceMethod yX12_isCounted ∈ zTb ∧ Cond.selects yX12_isCounted.cls yX12_isCounted yX12_isCounted ∈ zTb ∧ yX12_isCounted.cls = zNm 12 ∧ 12 < 13 := ⟨⟨zW7 152 rfl rfl, zW1 17 rfl rfl, zW7 155 rfl rfl, ⟨by decide +kernel, by decide +kernel, by decide +kernel⟩⟩, zW7 154 rfl rfl, zSel 78 rfl rfl, rfl, by decide⟩
set_option maxRecDepth 20000 in
theorem cb_RX12_386 : zCB RX12 386 yX12_isOwn cX12_isOwn 3 (some .boolean) 1 ∧ Cond.instanceMethod yX12_isOwn ∈ zTb ∧ Cond.selects yX12_isOwn.cls yX12_isOwn yX12_isOwn ∈ zTb ∧ yX12_isOwn.cls = zNm 12 ∧ 12 < 13 := ⟨⟨zW7 156 rfl rfl, zW1 17 rfl rfl, zW7 159 rfl rfl, ⟨by decide +kernel, by decide +kernel, by decide +kernel⟩⟩, zW7 158 rfl rfl, zSel 79 rfl rfl, rfl, by decide⟩
set_option maxRecDepth 20000 in
theorem cb_RX12_393 : zCB RX12 393 yX12_reads cX12_reads 3 none 1 ∧ Cond.instanceMethod yX12_reads ∈ zTb ∧ Cond.selects yX12_reads.cls yX12_reads yX12_reads ∈ zTb ∧ yX12_reads.cls = zNm 12 ∧ 12 < 13 := ⟨⟨zW7 194 rfl rfl, zW1 17 rfl rfl, zW7 197 rfl rfl, ⟨by decide +kernel, by decide +kernel, by decide +kernel⟩⟩, zW7 196 rfl rfl, zSel 83 rfl rfl, rfl, by decide⟩
set_option maxRecDepth 20000 in
theorem cb_RX12_404 : zCB RX12 404 yX12_reading cX12_reading 3 none 1 ∧ Cond.instanceMethod yX12_reading ∈ zTb ∧ Cond.selects yX12_reading.cls yX12_reading yX12_reading ∈ zTb ∧ yX12_reading.cls = zNm 12 ∧ 12 < 13 := ⟨⟨zW7 190 rfl rfl, zW1 17 rfl rfl, zW7 193 rfl rfl, ⟨by decide +kernel, by decide +kernel, by decide +kernel⟩⟩, zW7 192 rfl rfl, zSel 82 rfl rfl, rfl, by decide⟩
set_option maxRecDepth 20000 in
theorem cb_RX12_400 : zCB RX12 400 yX12_telling cX12_telling 5 none 3 ∧ Cond.instanceMethod yX12_telling ∈ zTb ∧ Cond.selects yX12_telling.cls yX12_telling yX12_telling ∈ zTb ∧ yX12_telling.cls = zNm 12 ∧ 12 < 13 := ⟨⟨zW7 186 rfl rfl, zW1 17 rfl rfl, zW7 189 rfl rfl, ⟨by decide +kernel, by decide +kernel, by decide +kernel⟩⟩, zW7 188 rfl rfl, zSel 81 rfl rfl, rfl, by decide⟩
set_option maxRecDepth 20000 in
theorem cb_RX12_397 : zCB RX12 397 yX12_pageIs cX12_pageIs 1 none 0 ∧ Cond.instanceMethod yX12_pageIs ∈ zTb ∧ Cond.selects yX12_pageIs.cls yX12_pageIs yX12_pageIs ∈ zTb ∧ yX12_pageIs.cls = zNm 12 ∧ 12 < 13 := ⟨⟨zW7 148 rfl rfl, zW1 17 rfl rfl, zW7 151 rfl rfl, ⟨by decide +kernel, by decide +kernel, by decide +kernel⟩⟩, zW7 150 rfl rfl, zSel 77 rfl rfl, rfl, by decide⟩
set_option maxRecDepth 20000 in
theorem cb_RX12_407 : zCB RX12 407 yX12_must cX12_must 2 none 1 ∧ Cond.instanceMethod yX12_must ∈ zTb ∧ Cond.selects yX12_must.cls yX12_must yX12_must ∈ zTb ∧ yX12_must.cls = zNm 12 ∧ 12 < 13 := ⟨⟨zW7 139 rfl rfl, zW1 17 rfl rfl, zW7 142 rfl rfl, ⟨by decide +kernel, by decide +kernel, by decide +kernel⟩⟩, zW7 141 rfl rfl, zSel 75 rfl rfl, rfl, by decide⟩
set_option maxRecDepth 20000 in
theorem cb_RX12_425 : zCB RX12 425 yX12_times cX12_times 3 (some .int) 2 ∧ Cond.instanceMethod yX12_times ∈ zTb ∧ Cond.selects yX12_times.cls yX12_times yX12_times ∈ zTb ∧ yX12_times.cls = zNm 12 ∧ 12 < 13 := ⟨⟨zW8 4 rfl rfl, zW1 17 rfl rfl, zW8 7 rfl rfl, ⟨by decide +kernel, by decide +kernel, by decide +kernel⟩⟩, zW8 6 rfl rfl, zSel 94 rfl rfl, rfl, by decide⟩
set_option maxRecDepth 20000 in
theorem cb_RX12_434 : zCB RX12 434 yX12_twoElements cX12_twoElements 5 (some .long) 1 ∧ Cond.instanceMethod yX12_twoElements ∈ zTb ∧ Cond.selects yX12_twoElements.cls yX12_twoElements yX12_twoElements ∈ zTb ∧ yX12_twoElements.cls = zNm 12 ∧ 12 < 13 := ⟨⟨zW8 8 rfl rfl, zW1 17 rfl rfl, zW8 11 rfl rfl, ⟨by decide +kernel, by decide +kernel, by decide +kernel⟩⟩, zW8 10 rfl rfl, zSel 95 rfl rfl, rfl, by decide⟩
set_option maxRecDepth 20000 in
theorem cb_RX12_431 : zCB RX12 431 yX12_multiplies cX12_multiplies 4 none 2 ∧ Cond.instanceMethod yX12_multiplies ∈ zTb ∧ Cond.selects yX12_multiplies.cls yX12_multiplies yX12_multiplies ∈ zTb ∧ yX12_multiplies.cls = zNm 12 ∧ 12 < 13 := ⟨⟨zW8 0 rfl rfl, zW1 17 rfl rfl, zW8 3 rfl rfl, ⟨by decide +kernel, by decide +kernel, by decide +kernel⟩⟩, zW8 2 rfl rfl, zSel 93 rfl rfl, rfl, by decide⟩
set_option maxRecDepth 20000 in
theorem cb_RX12_428 : zCB RX12 428 yX12_by cX12_by 2 (some .int) 1 ∧ Cond.instanceMethod yX12_by ∈ zTb ∧ Cond.selects yX12_by.cls yX12_by yX12_by ∈ zTb ∧ yX12_by.cls = zNm 12 ∧ 12 < 13 := ⟨⟨zW7 236 rfl rfl, zW1 17 rfl rfl, zW7 239 rfl rfl, ⟨by decide +kernel, by decide +kernel, by decide +kernel⟩⟩, zW7 238 rfl rfl, zSel 92 rfl rfl, rfl, by decide⟩
set_option maxRecDepth 20000 in
theorem cb_RX12_419 : zCB RX12 419 yX12_lays cX12_lays 4 none 0 ∧ Cond.instanceMethod yX12_lays ∈ zTb ∧ Cond.selects yX12_lays.cls yX12_lays yX12_lays ∈ zTb ∧ yX12_lays.cls = zNm 12 ∧ 12 < 13 := ⟨⟨zW7 232 rfl rfl, zW1 17 rfl rfl, zW7 235 rfl rfl, ⟨by decide +kernel, by decide +kernel, by decide +kernel⟩⟩, zW7 234 rfl rfl, zSel 91 rfl rfl, rfl, by decide⟩
set_option maxRecDepth 20000 in
theorem cb_RX12_422 : zCB RX12 422 yX12_begin cX12_begin 2 none 0 ∧ Cond.instanceMethod yX12_begin ∈ zTb ∧ Cond.selects yX12_begin.cls yX12_begin yX12_begin ∈ zTb ∧ yX12_begin.cls = zNm 12 ∧ 12 < 13 := ⟨⟨zW8 12 rfl rfl, zW1 17 rfl rfl, zW8 15 rfl rfl, ⟨by decide +kernel, by decide +kernel, by decide +kernel⟩⟩, zW8 14 rfl rfl, zSel 96 rfl rfl, rfl, by decide⟩
set_option maxRecDepth 20000 in
theorem cb_RX12_416 : zCB RX12 416 yX12_statement cX12_statement 1 none 0 ∧ Cond.instanceMethod yX12_statement ∈ zTb ∧ Cond.selects yX12_statement.cls yX12_statement yX12_statement ∈ zTb ∧ yX12_statement.cls = zNm 12 ∧ 12 < 13 := ⟨⟨zW7 143 rfl rfl, zW1 17 rfl rfl, zW7 146 rfl rfl, ⟨by decide +kernel, by decide +kernel, by decide +kernel⟩⟩, zW7 145 rfl rfl, zSel 76 rfl rfl, rfl, by decide⟩
set_option maxRecDepth 20000 in
theorem cb_RX12_413 : zCB RX12 413 yX12_finishes cX12_finishes 3 none 1 ∧ Cond.instanceMethod yX12_finishes ∈ zTb ∧ Cond.selects yX12_finishes.cls yX12_finishes yX12_finishes ∈ zTb ∧ yX12_finishes.cls = zNm 12 ∧ 12 < 13 := ⟨⟨zW7 131 rfl rfl, zW1 17 rfl rfl, zW7 134 rfl rfl, ⟨by decide +kernel, by decide +kernel, by decide +kernel⟩⟩, zW7 133 rfl rfl, zSel 73 rfl rfl, rfl, by decide⟩
set_option maxRecDepth 20000 in
theorem cb_RX12_410 : zCB RX12 410 yX12_chipIs cX12_chipIs 7 none 0 ∧ Cond.instanceMethod yX12_chipIs ∈ zTb ∧ Cond.selects yX12_chipIs.cls yX12_chipIs yX12_chipIs ∈ zTb ∧ yX12_chipIs.cls = zNm 12 ∧ 12 < 13 := ⟨⟨zW7 90 rfl rfl, zW1 17 rfl rfl, zW7 93 rfl rfl, ⟨by decide +kernel, by decide +kernel, by decide +kernel⟩⟩, zW7 92 rfl rfl, zSel 66 rfl rfl, rfl, by decide⟩
set_option maxRecDepth 20000 in
theorem cb_RX12_438 : zCB RX12 438 yX12_minimal cX12_minimal 5 (some .int) 1 ∧ Cond.instanceMethod yX12_minimal ∈ zTb ∧ Cond.selects yX12_minimal.cls yX12_minimal yX12_minimal ∈ zTb ∧ yX12_minimal.cls = zNm 12 ∧ 12 < 13 := ⟨⟨zW8 28 rfl rfl, zW1 17 rfl rfl, zW8 31 rfl rfl, ⟨by decide +kernel, by decide +kernel, by decide +kernel⟩⟩, zW8 30 rfl rfl, zSel 97 rfl rfl, rfl, by decide⟩
set_option maxRecDepth 20000 in
theorem cb_RX12_441 : zCB RX12 441 yX12_left cX12_left 6 (some .long) 1 ∧ Cond.instanceMethod yX12_left ∈ zTb ∧ Cond.selects yX12_left.cls yX12_left yX12_left ∈ zTb ∧ yX12_left.cls = zNm 12 ∧ 12 < 13 := ⟨⟨zW8 49 rfl rfl, zW1 17 rfl rfl, zW8 52 rfl rfl, ⟨by decide +kernel, by decide +kernel, by decide +kernel⟩⟩, zW8 51 rfl rfl, zSel 100 rfl rfl, rfl, by decide⟩
set_option maxRecDepth 20000 in
theorem cb_RX12_446 : zCB RX12 446 yX12_isData cX12_isData 3 (some .boolean) 2 ∧ Cond.instanceMethod yX12_isData ∈ zTb ∧ Cond.selects yX12_isData.cls yX12_isData yX12_isData ∈ zTb ∧ yX12_isData.cls = zNm 12 ∧ 12 < 13 := ⟨⟨zW8 40 rfl rfl, zW1 17 rfl rfl, zW8 43 rfl rfl, ⟨by decide +kernel, by decide +kernel, by decide +kernel⟩⟩, zW8 42 rfl rfl, zSel 98 rfl rfl, rfl, by decide⟩
set_option maxRecDepth 20000 in
theorem cb_RX12_449 : zCB RX12 449 yX12_wordOf cX12_wordOf 5 (some .long) 1 ∧ Cond.instanceMethod yX12_wordOf ∈ zTb ∧ Cond.selects yX12_wordOf.cls yX12_wordOf yX12_wordOf ∈ zTb ∧ yX12_wordOf.cls = zNm 12 ∧ 12 < 13 := ⟨⟨zW8 45 rfl rfl, zW1 17 rfl rfl, zW8 48 rfl rfl, ⟨by decide +kernel, by decide +kernel, by decide +kernel⟩⟩, zW8 47 rfl rfl, zSel 99 rfl rfl, rfl, by decide⟩
set_option maxRecDepth 20000 in
theorem cb_RX12_452 : zCB RX12 452 yX12_onesOf cX12_onesOf 5 (some .int) 1 ∧ Cond.static yX12_onesOf ∈ zTb := ⟨⟨zW8 57 rfl rfl, zW1 17 rfl rfl, zW8 59 rfl rfl, ⟨by decide +kernel, by decide +kernel, by decide +kernel⟩⟩, zW8 58 rfl rfl⟩
set_option maxRecDepth 20000 in
theorem cb_RX12_458 : zCB RX12 458 yX12_inverse cX12_inverse 2 (some .int) 1 ∧ Cond.instanceMethod yX12_inverse ∈ zTb ∧ Cond.selects yX12_inverse.cls yX12_inverse yX12_inverse ∈ zTb ∧ yX12_inverse.cls = zNm 12 ∧ 12 < 13 := ⟨⟨zW8 84 rfl rfl, zW1 17 rfl rfl, zW8 87 rfl rfl, ⟨by decide +kernel, by decide +kernel, by decide +kernel⟩⟩, zW8 86 rfl rfl, zSel 106 rfl rfl, rfl, by decide⟩
set_option maxRecDepth 20000 in
theorem cb_RX12_455 : zCB RX12 455 yX12_missing cX12_missing 4 (some .int) 1 ∧ Cond.instanceMethod yX12_missing ∈ zTb ∧ Cond.selects yX12_missing.cls yX12_missing yX12_missing ∈ zTb ∧ yX12_missing.cls = zNm 12 ∧ 12 < 13 := ⟨⟨zW8 80 rfl rfl, zW1 17 rfl rfl, zW8 83 rfl rfl, ⟨by decide +kernel, by decide +kernel, by decide +kernel⟩⟩, zW8 82 rfl rfl, zSel 105 rfl rfl, rfl, by decide⟩
set_option maxRecDepth 20000 in
theorem cb_RX12_467 : zCB RX12 467 yX12_isRootAt cX12_isRootAt 4 (some .boolean) 1 ∧ Cond.instanceMethod yX12_isRootAt ∈ zTb ∧ Cond.selects yX12_isRootAt.cls yX12_isRootAt yX12_isRootAt ∈ zTb ∧ yX12_isRootAt.cls = zNm 12 ∧ 12 < 13 := ⟨⟨zW8 88 rfl rfl, zW1 17 rfl rfl, zW8 91 rfl rfl, ⟨by decide +kernel, by decide +kernel, by decide +kernel⟩⟩, zW8 90 rfl rfl, zSel 107 rfl rfl, rfl, by decide⟩
set_option maxRecDepth 20000 in
theorem cb_RX12_461 : zCB RX12 461 yX12_syndromesOf cX12_syndromesOf 6 none 1 ∧ Cond.instanceMethod yX12_syndromesOf ∈ zTb ∧ Cond.selects yX12_syndromesOf.cls yX12_syndromesOf yX12_syndromesOf ∈ zTb ∧ yX12_syndromesOf.cls = zNm 12 ∧ 12 < 13 := ⟨⟨zW8 72 rfl rfl, zW1 17 rfl rfl, zW8 75 rfl rfl, ⟨by decide +kernel, by decide +kernel, by decide +kernel⟩⟩, zW8 74 rfl rfl, zSel 103 rfl rfl, rfl, by decide⟩
set_option maxRecDepth 20000 in
theorem cb_RX12_464 : zCB RX12 464 yX12_locates cX12_locates 7 none 0 ∧ Cond.instanceMethod yX12_locates ∈ zTb ∧ Cond.selects yX12_locates.cls yX12_locates yX12_locates ∈ zTb ∧ yX12_locates.cls = zNm 12 ∧ 12 < 13 := ⟨⟨zW8 76 rfl rfl, zW1 17 rfl rfl, zW8 79 rfl rfl, ⟨by decide +kernel, by decide +kernel, by decide +kernel⟩⟩, zW8 78 rfl rfl, zSel 104 rfl rfl, rfl, by decide⟩
set_option maxRecDepth 20000 in
theorem cb_RX12_470 : zCB RX12 470 yX12_readsBits cX12_readsBits 4 (some .int) 1 ∧ Cond.instanceMethod yX12_readsBits ∈ zTb ∧ Cond.selects yX12_readsBits.cls yX12_readsBits yX12_readsBits ∈ zTb ∧ yX12_readsBits.cls = zNm 12 ∧ 12 < 13 := ⟨⟨zW8 68 rfl rfl, zW1 17 rfl rfl, zW8 71 rfl rfl, ⟨by decide +kernel, by decide +kernel, by decide +kernel⟩⟩, zW8 70 rfl rfl, zSel 102 rfl rfl, rfl, by decide⟩
set_option maxRecDepth 20000 in
theorem cb_RX12_473 : zCB RX12 473 yX12_counts cX12_counts 4 none 1 ∧ Cond.instanceMethod yX12_counts ∈ zTb ∧ Cond.selects yX12_counts.cls yX12_counts yX12_counts ∈ zTb ∧ yX12_counts.cls = zNm 12 ∧ 12 < 13 := ⟨⟨zW8 64 rfl rfl, zW1 17 rfl rfl, zW8 67 rfl rfl, ⟨by decide +kernel, by decide +kernel, by decide +kernel⟩⟩, zW8 66 rfl rfl, zSel 101 rfl rfl, rfl, by decide⟩
set_option maxRecDepth 20000 in
theorem cb_RX12_476 : zCB RX12 476 yX12_slot cX12_slot 2 (some .int) 1 ∧ Cond.instanceMethod yX12_slot ∈ zTb ∧ Cond.selects yX12_slot.cls yX12_slot yX12_slot ∈ zTb ∧ yX12_slot.cls = zNm 12 ∧ 12 < 13 := ⟨⟨zW8 96 rfl rfl, zW1 17 rfl rfl, zW8 99 rfl rfl, ⟨by decide +kernel, by decide +kernel, by decide +kernel⟩⟩, zW8 98 rfl rfl, zSel 108 rfl rfl, rfl, by decide⟩
set_option maxRecDepth 20000 in
theorem cb_RX12_479 : zCB RX12 479 yX12_copies cX12_copies 5 none 2 ∧ Cond.instanceMethod yX12_copies ∈ zTb ∧ Cond.selects yX12_copies.cls yX12_copies yX12_copies ∈ zTb ∧ yX12_copies.cls = zNm 12 ∧ 12 < 13 := ⟨⟨zW8 100 rfl rfl, zW1 17 rfl rfl, zW8 103 rfl rfl, ⟨by decide +kernel, by decide +kernel, by decide +kernel⟩⟩, zW8 102 rfl rfl, zSel 109 rfl rfl, rfl, by decide⟩
set_option maxRecDepth 20000 in
theorem cb_RX12_486 : zCB RX12 486 yX12_within cX12_within 2 (some .long) 1 ∧ Cond.static yX12_within ∈ zTb := ⟨⟨zW8 160 rfl rfl, zW1 17 rfl rfl, zW8 162 rfl rfl, ⟨by decide +kernel, by decide +kernel, by decide +kernel⟩⟩, zW8 161 rfl rfl⟩
set_option maxRecDepth 20000 in
theorem cb_RX12_489 : zCB RX12 489 yX12_floor cX12_floor 6 (some .long) 2 ∧ Cond.static yX12_floor ∈ zTb := ⟨⟨zW8 165 rfl rfl, zW1 17 rfl rfl, zW8 167 rfl rfl, ⟨by decide +kernel, by decide +kernel, by decide +kernel⟩⟩, zW8 166 rfl rfl⟩
set_option maxRecDepth 20000 in
theorem cb_RX12_493 : zCB RX12 493 yX12_two cX12_two 5 (some .long) 3 ∧ Cond.static yX12_two ∈ zTb := ⟨⟨zW8 157 rfl rfl, zW1 17 rfl rfl, zW8 159 rfl rfl, ⟨by decide +kernel, by decide +kernel, by decide +kernel⟩⟩, zW8 158 rfl rfl⟩
set_option maxRecDepth 20000 in
theorem cb_RX12_497 : zCB RX12 497 yX12_isPage cX12_isPage 2 (some .boolean) 1 ∧ Cond.instanceMethod yX12_isPage ∈ zTb ∧ Cond.selects yX12_isPage.cls yX12_isPage yX12_isPage ∈ zTb ∧ yX12_isPage.cls = zNm 12 ∧ 12 < 13 := ⟨⟨zW8 112 rfl rfl, zW1 17 rfl rfl, zW8 115 rfl rfl, ⟨by decide +kernel, by decide +kernel, by decide +kernel⟩⟩, zW8 114 rfl rfl, zSel 110 rfl rfl, rfl, by decide⟩
set_option maxRecDepth 20000 in
theorem cb_RX12_500 : zCB RX12 500 yX12_levelAt cX12_levelAt 4 (some .int) 3 ∧ Cond.instanceMethod yX12_levelAt ∈ zTb ∧ Cond.selects yX12_levelAt.cls yX12_levelAt yX12_levelAt ∈ zTb ∧ yX12_levelAt.cls = zNm 12 ∧ 12 < 13 := ⟨⟨zW8 149 rfl rfl, zW1 17 rfl rfl, zW8 152 rfl rfl, ⟨by decide +kernel, by decide +kernel, by decide +kernel⟩⟩, zW8 151 rfl rfl, zSel 117 rfl rfl, rfl, by decide⟩
set_option maxRecDepth 20000 in
theorem cb_RX12_506 : zCB RX12 506 yX12_isTold cX12_isTold 2 (some .boolean) 1 ∧ Cond.instanceMethod yX12_isTold ∈ zTb ∧ Cond.selects yX12_isTold.cls yX12_isTold yX12_isTold ∈ zTb ∧ yX12_isTold.cls = zNm 12 ∧ 12 < 13 := ⟨⟨zW8 145 rfl rfl, zW1 17 rfl rfl, zW8 148 rfl rfl, ⟨by decide +kernel, by decide +kernel, by decide +kernel⟩⟩, zW8 147 rfl rfl, zSel 116 rfl rfl, rfl, by decide⟩
set_option maxRecDepth 20000 in
theorem cb_RX12_509 : zCB RX12 509 yX12_reckons cX12_reckons 5 (some .long) 1 ∧ Cond.instanceMethod yX12_reckons ∈ zTb ∧ Cond.selects yX12_reckons.cls yX12_reckons yX12_reckons ∈ zTb ∧ yX12_reckons.cls = zNm 12 ∧ 12 < 13 := ⟨⟨zW8 153 rfl rfl, zW1 17 rfl rfl, zW8 156 rfl rfl, ⟨by decide +kernel, by decide +kernel, by decide +kernel⟩⟩, zW8 155 rfl rfl, zSel 118 rfl rfl, rfl, by decide⟩
set_option maxRecDepth 20000 in
theorem cb_RX12_503 : zCB RX12 503 yX12_wantedOf cX12_wantedOf 3 (some .int) 2 ∧ Cond.instanceMethod yX12_wantedOf ∈ zTb ∧ Cond.selects yX12_wantedOf.cls yX12_wantedOf yX12_wantedOf ∈ zTb ∧ yX12_wantedOf.cls = zNm 12 ∧ 12 < 13 := ⟨⟨zW8 121 rfl rfl, zW1 17 rfl rfl, zW8 124 rfl rfl, ⟨by decide +kernel, by decide +kernel, by decide +kernel⟩⟩, zW8 123 rfl rfl, zSel 111 rfl rfl, rfl, by decide⟩
set_option maxRecDepth 20000 in
theorem cb_RX12_512 : zCB RX12 512 yX12_bitsBy cX12_bitsBy 8 (some .long) 4 ∧ Cond.instanceMethod yX12_bitsBy ∈ zTb ∧ Cond.selects yX12_bitsBy.cls yX12_bitsBy yX12_bitsBy ∈ zTb ∧ yX12_bitsBy.cls = zNm 12 ∧ 12 < 13 := ⟨⟨zW8 181 rfl rfl, zW1 17 rfl rfl, zW8 184 rfl rfl, ⟨by decide +kernel, by decide +kernel, by decide +kernel⟩⟩, zW8 183 rfl rfl, zSel 121 rfl rfl, rfl, by decide⟩
set_option maxRecDepth 20000 in
theorem cb_RX12_516 : zCB RX12 516 yX12_isTriedAgain cX12_isTriedAgain 6 (some .boolean) 3 ∧ Cond.instanceMethod yX12_isTriedAgain ∈ zTb ∧ Cond.selects yX12_isTriedAgain.cls yX12_isTriedAgain yX12_isTriedAgain ∈ zTb ∧ yX12_isTriedAgain.cls = zNm 12 ∧ 12 < 13 := ⟨⟨zW8 209 rfl rfl, zW1 17 rfl rfl, zW8 212 rfl rfl, ⟨by decide +kernel, by decide +kernel, by decide +kernel⟩⟩, zW8 211 rfl rfl, zSel 123 rfl rfl, rfl, by decide⟩
set_option maxRecDepth 20000 in
theorem cb_RX12_519 : zCB RX12 519 yX12_gets cX12_gets 6 (some .int) 2 ∧ Cond.instanceMethod yX12_gets ∈ zTb ∧ Cond.selects yX12_gets.cls yX12_gets yX12_gets ∈ zTb ∧ yX12_gets.cls = zNm 12 ∧ 12 < 13 := ⟨⟨zW8 205 rfl rfl, zW1 17 rfl rfl, zW8 208 rfl rfl, ⟨by decide +kernel, by decide +kernel, by decide +kernel⟩⟩, zW8 207 rfl rfl, zSel 122 rfl rfl, rfl, by decide⟩
set_option maxRecDepth 20000 in
theorem cb_RX12_522 : zCB RX12 522 yX12_puts cX12_puts 5 none 4 ∧ Cond.instanceMethod yX12_puts ∈ zTb ∧ Cond.selects yX12_puts.cls yX12_puts yX12_puts ∈ zTb ∧ yX12_puts.cls = zNm 12 ∧ 12 < 13 := ⟨⟨zW8 169 rfl rfl, zW1 17 rfl rfl, zW8 172 rfl rfl, ⟨by decide +kernel, by decide +kernel, by decide +kernel⟩⟩, zW8 171 rfl rfl, zSel 119 rfl rfl, rfl, by decide⟩
set_option maxRecDepth 20000 in
theorem cb_RX12_528 : zCB RX12 528 yX12_drifts cX12_drifts 7 none 2 ∧ Cond.instanceMethod yX12_drifts ∈ zTb ∧ Cond.selects yX12_drifts.cls yX12_drifts yX12_drifts ∈ zTb ∧ yX12_drifts.cls = zNm 12 ∧ 12 < 13 := ⟨⟨zW8 141 rfl rfl, zW1 17 rfl rfl, zW8 144 rfl rfl, ⟨by decide +kernel, by decide +kernel, by decide +kernel⟩⟩, zW8 143 rfl rfl, zSel 115 rfl rfl, rfl, by decide⟩
set_option maxRecDepth 20000 in
theorem cb_RX12_531 : zCB RX12 531 yX12_isTrue cX12_isTrue 3 (some .boolean) 2 ∧ Cond.instanceMethod yX12_isTrue ∈ zTb ∧ Cond.selects yX12_isTrue.cls yX12_isTrue yX12_isTrue ∈ zTb ∧ yX12_isTrue.cls = zNm 12 ∧ 12 < 13 := ⟨⟨zW8 222 rfl rfl, zW1 17 rfl rfl, zW8 225 rfl rfl, ⟨by decide +kernel, by decide +kernel, by decide +kernel⟩⟩, zW8 224 rfl rfl, zSel 124 rfl rfl, rfl, by decide⟩
set_option maxRecDepth 20000 in
theorem cb_RX12_542 : zCB RX12 542 yX12_passes cX12_passes 3 none 1 ∧ Cond.instanceMethod yX12_passes ∈ zTb ∧ Cond.selects yX12_passes.cls yX12_passes yX12_passes ∈ zTb ∧ yX12_passes.cls = zNm 12 ∧ 12 < 13 := ⟨⟨zW8 137 rfl rfl, zW1 17 rfl rfl, zW8 140 rfl rfl, ⟨by decide +kernel, by decide +kernel, by decide +kernel⟩⟩, zW8 139 rfl rfl, zSel 114 rfl rfl, rfl, by decide⟩
set_option maxRecDepth 20000 in
theorem cb_RX12_536 : zCB RX12 536 yX12_isThere cX12_isThere 2 (some .boolean) 1 ∧ Cond.instanceMethod yX12_isThere ∈ zTb ∧ Cond.selects yX12_isThere.cls yX12_isThere yX12_isThere ∈ zTb ∧ yX12_isThere.cls = zNm 12 ∧ 12 < 13 := ⟨⟨zW8 129 rfl rfl, zW1 17 rfl rfl, zW8 132 rfl rfl, ⟨by decide +kernel, by decide +kernel, by decide +kernel⟩⟩, zW8 131 rfl rfl, zSel 112 rfl rfl, rfl, by decide⟩
set_option maxRecDepth 20000 in
theorem cb_RX12_539 : zCB RX12 539 yX12_isAhead cX12_isAhead 4 (some .boolean) 3 ∧ Cond.instanceMethod yX12_isAhead ∈ zTb ∧ Cond.selects yX12_isAhead.cls yX12_isAhead yX12_isAhead ∈ zTb ∧ yX12_isAhead.cls = zNm 12 ∧ 12 < 13 := ⟨⟨zW8 133 rfl rfl, zW1 17 rfl rfl, zW8 136 rfl rfl, ⟨by decide +kernel, by decide +kernel, by decide +kernel⟩⟩, zW8 135 rfl rfl, zSel 113 rfl rfl, rfl, by decide⟩
set_option maxRecDepth 20000 in
theorem cb_RX12_545 : zCB RX12 545 yX12_isRead cX12_isRead 3 (some .boolean) 2 ∧ Cond.instanceMethod yX12_isRead ∈ zTb ∧ Cond.selects yX12_isRead.cls yX12_isRead yX12_isRead ∈ zTb ∧ yX12_isRead.cls = zNm 12 ∧ 12 < 13 := ⟨⟨zW8 177 rfl rfl, zW1 17 rfl rfl, zW8 180 rfl rfl, ⟨by decide +kernel, by decide +kernel, by decide +kernel⟩⟩, zW8 179 rfl rfl, zSel 120 rfl rfl, rfl, by decide⟩
set_option maxRecDepth 20000 in
theorem cb_RX12_550 : zCB RX12 550 yX12_leaves cX12_leaves 5 (some .int) 1 ∧ Cond.instanceMethod yX12_leaves ∈ zTb ∧ Cond.selects yX12_leaves.cls yX12_leaves yX12_leaves ∈ zTb ∧ yX12_leaves.cls = zNm 12 ∧ 12 < 13 := ⟨⟨zW8 238 rfl rfl, zW1 17 rfl rfl, zW9 1 rfl rfl, ⟨by decide +kernel, by decide +kernel, by decide +kernel⟩⟩, zW9 0 rfl rfl, zSel 125 rfl rfl, rfl, by decide⟩
set_option maxRecDepth 20000 in
theorem cb_RX12_554 : zCB RX12 554 yX12_mostBy cX12_mostBy 6 (some .int) 2 ∧ Cond.instanceMethod yX12_mostBy ∈ zTb ∧ Cond.selects yX12_mostBy.cls yX12_mostBy yX12_mostBy ∈ zTb ∧ yX12_mostBy.cls = zNm 12 ∧ 12 < 13 := ⟨⟨zW9 7 rfl rfl, zW1 17 rfl rfl, zW9 10 rfl rfl, ⟨by decide +kernel, by decide +kernel, by decide +kernel⟩⟩, zW9 9 rfl rfl, zSel 126 rfl rfl, rfl, by decide⟩
set_option maxRecDepth 20000 in
theorem cb_RX12_557 : zCB RX12 557 yX12_keeps cX12_keeps 1 none 0 ∧ Cond.instanceMethod yX12_keeps ∈ zTb ∧ Cond.selects yX12_keeps.cls yX12_keeps yX12_keeps ∈ zTb ∧ yX12_keeps.cls = zNm 12 ∧ 12 < 13 := ⟨⟨zW9 15 rfl rfl, zW1 17 rfl rfl, zW9 18 rfl rfl, ⟨by decide +kernel, by decide +kernel, by decide +kernel⟩⟩, zW9 17 rfl rfl, zSel 127 rfl rfl, rfl, by decide⟩
set_option maxRecDepth 20000 in
theorem cb_RX12_560 : zCB RX12 560 yX12_writesWord cX12_writesWord 5 none 2 ∧ Cond.instanceMethod yX12_writesWord ∈ zTb ∧ Cond.selects yX12_writesWord.cls yX12_writesWord yX12_writesWord ∈ zTb ∧ yX12_writesWord.cls = zNm 12 ∧ 12 < 13 := ⟨⟨zW9 19 rfl rfl, zW1 17 rfl rfl, zW9 22 rfl rfl, ⟨by decide +kernel, by decide +kernel, by decide +kernel⟩⟩, zW9 21 rfl rfl, zSel 128 rfl rfl, rfl, by decide⟩
set_option maxRecDepth 20000 in
theorem cb_RX12_564 : zCB RX12 564 yX12_writesDown cX12_writesDown 4 none 2 ∧ Cond.instanceMethod yX12_writesDown ∈ zTb ∧ Cond.selects yX12_writesDown.cls yX12_writesDown yX12_writesDown ∈ zTb ∧ yX12_writesDown.cls = zNm 12 ∧ 12 < 13 := ⟨⟨zW9 23 rfl rfl, zW1 17 rfl rfl, zW9 26 rfl rfl, ⟨by decide +kernel, by decide +kernel, by decide +kernel⟩⟩, zW9 25 rfl rfl, zSel 129 rfl rfl, rfl, by decide⟩
set_option maxRecDepth 20000 in
theorem cb_RX12_567 : zCB RX12 567 yX12_trueOnes cX12_trueOnes 3 (some .int) 0 ∧ Cond.instanceMethod yX12_trueOnes ∈ zTb ∧ Cond.selects yX12_trueOnes.cls yX12_trueOnes yX12_trueOnes ∈ zTb ∧ yX12_trueOnes.cls = zNm 12 ∧ 12 < 13 := ⟨⟨zW9 43 rfl rfl, zW1 17 rfl rfl, zW9 46 rfl rfl, ⟨by decide +kernel, by decide +kernel, by decide +kernel⟩⟩, zW9 45 rfl rfl, zSel 130 rfl rfl, rfl, by decide⟩
set_option maxRecDepth 20000 in
theorem cb_RX12_579 : zCB RX12 579 yX12_draw cX12_draw 2 (some .int) 1 ∧ Cond.instanceMethod yX12_draw ∈ zTb ∧ Cond.selects yX12_draw.cls yX12_draw yX12_draw ∈ zTb ∧ yX12_draw.cls = zNm 12 ∧ 12 < 13 := ⟨⟨zW9 51 rfl rfl, zW1 17 rfl rfl, zW9 54 rfl rfl, ⟨by decide +kernel, by decide +kernel, by decide +kernel⟩⟩, zW9 53 rfl rfl, zSel 131 rfl rfl, rfl, by decide⟩
set_option maxRecDepth 20000 in
theorem cb_RX12_582 : zCB RX12 582 yX12_writes cX12_writes 2 none 1 ∧ Cond.instanceMethod yX12_writes ∈ zTb ∧ Cond.selects yX12_writes.cls yX12_writes yX12_writes ∈ zTb ∧ yX12_writes.cls = zNm 12 ∧ 12 < 13 := ⟨⟨zW9 71 rfl rfl, zW1 17 rfl rfl, zW9 74 rfl rfl, ⟨by decide +kernel, by decide +kernel, by decide +kernel⟩⟩, zW9 73 rfl rfl, zSel 132 rfl rfl, rfl, by decide⟩
set_option maxRecDepth 20000 in
theorem cb_RX12_585 : zCB RX12 585 yX12_pageOn cX12_pageOn 8 (some .int) 3 ∧ Cond.instanceMethod yX12_pageOn ∈ zTb ∧ Cond.selects yX12_pageOn.cls yX12_pageOn yX12_pageOn ∈ zTb ∧ yX12_pageOn.cls = zNm 12 ∧ 12 < 13 := ⟨⟨zW9 87 rfl rfl, zW1 17 rfl rfl, zW9 90 rfl rfl, ⟨by decide +kernel, by decide +kernel, by decide +kernel⟩⟩, zW9 89 rfl rfl, zSel 134 rfl rfl, rfl, by decide⟩
set_option maxRecDepth 20000 in
theorem cb_RX12_588 : zCB RX12 588 yX12_comesOn cX12_comesOn 5 (some .boolean) 1 ∧ Cond.instanceMethod yX12_comesOn ∈ zTb ∧ Cond.selects yX12_comesOn.cls yX12_comesOn yX12_comesOn ∈ zTb ∧ yX12_comesOn.cls = zNm 12 ∧ 12 < 13 := ⟨⟨zW9 83 rfl rfl, zW1 17 rfl rfl, zW9 86 rfl rfl, ⟨by decide +kernel, by decide +kernel, by decide +kernel⟩⟩, zW9 85 rfl rfl, zSel 133 rfl rfl, rfl, by decide⟩
