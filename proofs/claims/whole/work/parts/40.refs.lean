/-! references: those that never change, and the three that do -/
set_option maxRecDepth 20000 in
def WRl : List (Nat × Nat × Nat) := [(0, 0, 2), (0, 1, 3), (0, 2, 4), (0, 3, 7), (0, 4, 13), (0, 5, 14), (0, 6, 28), (0, 7, 42), (0, 8, 44), (0, 9, 328), (0, 10, 334), (0, 13, 354), (3, 0, 5), (3, 1, 6), (6, 0, 8), (6, 1, 9), (6, 2, 10), (6, 3, 11), (6, 4, 12), (12, 0, 7), (12, 1, 4), (13, 0, 15), (14, 0, 16), (14, 1, 18), (14, 2, 20), (14, 3, 22), (14, 4, 24), (14, 5, 26), (15, 0, 17), (17, 0, 19), (19, 0, 21), (21, 0, 23), (23, 0, 25), (25, 0, 27), (27, 0, 29), (28, 0, 30), (28, 1, 32), (28, 2, 34), (28, 3, 36), (28, 4, 38), (28, 5, 40), (29, 0, 31), (31, 0, 33), (33, 0, 35), (35, 0, 37), (37, 0, 39), (39, 0, 41), (41, 0, 43), (43, 0, 45), (43, 1, 46), (43, 2, 47), (44, 0, 48), (44, 1, 62), (44, 2, 76), (44, 3, 90), (44, 4, 104), (44, 5, 118), (44, 6, 132), (44, 7, 146), (44, 8, 160), (44, 9, 174), (44, 10, 188), (44, 11, 202), (44, 12, 216), (44, 13, 230), (44, 14, 244), (44, 15, 258), (44, 16, 272), (44, 17, 286), (44, 18, 300), (44, 19, 314), (47, 0, 49), (48, 0, 50), (48, 1, 52), (48, 2, 54), (48, 3, 56), (48, 4, 58), (48, 5, 60), (49, 0, 51), (51, 0, 53), (53, 0, 55), (55, 0, 57), (57, 0, 59), (59, 0, 61), (61, 0, 63), (62, 0, 64), (62, 1, 66), (62, 2, 68), (62, 3, 70), (62, 4, 72), (62, 5, 74), (63, 0, 65), (65, 0, 67), (67, 0, 69), (69, 0, 71), (71, 0, 73), (73, 0, 75), (75, 0, 77), (76, 0, 78), (76, 1, 80), (76, 2, 82), (76, 3, 84), (76, 4, 86), (76, 5, 88), (77, 0, 79), (79, 0, 81), (81, 0, 83), (83, 0, 85), (85, 0, 87), (87, 0, 89), (89, 0, 91), (90, 0, 92), (90, 1, 94), (90, 2, 96), (90, 3, 98), (90, 4, 100), (90, 5, 102), (91, 0, 93), (93, 0, 95), (95, 0, 97), (97, 0, 99), (99, 0, 101), (101, 0, 103), (103, 0, 105), (104, 0, 106), (104, 1, 108), (104, 2, 110), (104, 3, 112), (104, 4, 114), (104, 5, 116), (105, 0, 107), (107, 0, 109), (109, 0, 111), (111, 0, 113), (113, 0, 115), (115, 0, 117), (117, 0, 119), (118, 0, 120), (118, 1, 122), (118, 2, 124), (118, 3, 126), (118, 4, 128), (118, 5, 130), (119, 0, 121), (121, 0, 123), (123, 0, 125), (125, 0, 127), (127, 0, 129), (129, 0, 131), (131, 0, 133), (132, 0, 134), (132, 1, 136), (132, 2, 138), (132, 3, 140), (132, 4, 142), (132, 5, 144), (133, 0, 135), (135, 0, 137), (137, 0, 139), (139, 0, 141), (141, 0, 143), (143, 0, 145), (145, 0, 147), (146, 0, 148), (146, 1, 150), (146, 2, 152), (146, 3, 154), (146, 4, 156), (146, 5, 158), (147, 0, 149), (149, 0, 151), (151, 0, 153), (153, 0, 155), (155, 0, 157), (157, 0, 159), (159, 0, 161), (160, 0, 162), (160, 1, 164), (160, 2, 166), (160, 3, 168), (160, 4, 170), (160, 5, 172), (161, 0, 163), (163, 0, 165), (165, 0, 167), (167, 0, 169), (169, 0, 171), (171, 0, 173), (173, 0, 175), (174, 0, 176), (174, 1, 178), (174, 2, 180), (174, 3, 182), (174, 4, 184), (174, 5, 186), (175, 0, 177), (177, 0, 179), (179, 0, 181), (181, 0, 183), (183, 0, 185), (185, 0, 187), (187, 0, 189), (188, 0, 190), (188, 1, 192), (188, 2, 194), (188, 3, 196), (188, 4, 198), (188, 5, 200), (189, 0, 191), (191, 0, 193), (193, 0, 195), (195, 0, 197), (197, 0, 199), (199, 0, 201), (201, 0, 203), (202, 0, 204), (202, 1, 206), (202, 2, 208), (202, 3, 210), (202, 4, 212), (202, 5, 214), (203, 0, 205), (205, 0, 207), (207, 0, 209), (209, 0, 211), (211, 0, 213), (213, 0, 215), (215, 0, 217), (216, 0, 218), (216, 1, 220), (216, 2, 222), (216, 3, 224), (216, 4, 226), (216, 5, 228), (217, 0, 219), (219, 0, 221), (221, 0, 223), (223, 0, 225), (225, 0, 227), (227, 0, 229), (229, 0, 231), (230, 0, 232), (230, 1, 234), (230, 2, 236), (230, 3, 238), (230, 4, 240), (230, 5, 242), (231, 0, 233), (233, 0, 235), (235, 0, 237), (237, 0, 239), (239, 0, 241), (241, 0, 243), (243, 0, 245), (244, 0, 246), (244, 1, 248), (244, 2, 250), (244, 3, 252), (244, 4, 254), (244, 5, 256), (245, 0, 247), (247, 0, 249), (249, 0, 251), (251, 0, 253), (253, 0, 255), (255, 0, 257), (257, 0, 259), (258, 0, 260), (258, 1, 262), (258, 2, 264), (258, 3, 266), (258, 4, 268), (258, 5, 270), (259, 0, 261), (261, 0, 263), (263, 0, 265), (265, 0, 267), (267, 0, 269), (269, 0, 271), (271, 0, 273), (272, 0, 274), (272, 1, 276), (272, 2, 278), (272, 3, 280), (272, 4, 282), (272, 5, 284), (273, 0, 275), (275, 0, 277), (277, 0, 279), (279, 0, 281), (281, 0, 283), (283, 0, 285), (285, 0, 287), (286, 0, 288), (286, 1, 290), (286, 2, 292), (286, 3, 294), (286, 4, 296), (286, 5, 298), (287, 0, 289), (289, 0, 291), (291, 0, 293), (293, 0, 295), (295, 0, 297), (297, 0, 299), (299, 0, 301), (300, 0, 302), (300, 1, 304), (300, 2, 306), (300, 3, 308), (300, 4, 310), (300, 5, 312), (301, 0, 303), (303, 0, 305), (305, 0, 307), (307, 0, 309), (309, 0, 311), (311, 0, 313), (313, 0, 315), (314, 0, 316), (314, 1, 318), (314, 2, 320), (314, 3, 322), (314, 4, 324), (314, 5, 326), (315, 0, 317), (317, 0, 319), (319, 0, 321), (321, 0, 323), (323, 0, 325), (325, 0, 327), (327, 0, 329), (327, 1, 330), (327, 2, 331), (327, 3, 332), (327, 4, 333), (333, 0, 335), (335, 0, 337), (335, 1, 343), (335, 2, 344), (336, 0, 338), (336, 1, 339), (336, 2, 340), (336, 3, 341), (336, 4, 342), (344, 0, 346), (344, 1, 352), (344, 2, 353), (345, 0, 347), (345, 1, 348), (345, 2, 349), (345, 3, 350), (345, 4, 351), (353, 0, 355), (353, 1, 2), (355, 0, 357), (355, 14, 358), (355, 15, 359), (355, 16, 360), (355, 17, 361), (355, 18, 362), (355, 19, 363), (355, 20, 364), (355, 24, 365), (355, 25, 366), (355, 26, 367), (355, 27, 368), (355, 28, 369), (355, 31, 370), (355, 34, 371), (355, 36, 372), (355, 42, 373), (355, 43, 374), (355, 44, 375), (355, 45, 376), (355, 46, 377), (355, 47, 378), (355, 48, 379), (355, 51, 380), (355, 54, 381), (355, 55, 382), (355, 56, 383), (355, 57, 384), (355, 58, 385), (355, 59, 386), (355, 60, 387), (355, 61, 388), (355, 65, 389), (355, 66, 390), (355, 70, 391), (355, 71, 392), (355, 72, 393), (355, 73, 394), (355, 74, 395)]
def WRc (M : Mem) : Prop := ∀ t ∈ WRl, zR M t.1 t.2.1 = t.2.2
def WR (M : Mem) (c s p : Nat) : Prop := WRc M ∧ zR M 0 11 = c + 1 ∧ zR M 0 12 = s + 1 ∧ zR M 353 2 = p + 1 ∧ ((c = 335 ∧ s = 344) ∨ (c = 344 ∧ s = 335)) ∧ (p = 335 ∨ p = 344)
theorem zrf_of {M : Mem} {a j v : Nat} (h : zR M a j = v + 1) : zrf M a j = some v := by unfold zrf; rw [h]
theorem wr_at {M : Mem} (h : WRc M) (i : Nat) {a j v : Nat} (hi : WRl[i]? = some (a, j, v + 1)) : zrf M a j = some v := zrf_of (h _ (List.mem_of_getElem? hi))
theorem wr_mem {M : Mem} (h : WRc M) {a j v : Nat} (hi : (a, j, v + 1) ∈ WRl) : zrf M a j = some v := zrf_of (h _ hi)
theorem wr_cur {M : Mem} {c s p : Nat} (h : WR M c s p) : zrf M 0 11 = some c := zrf_of h.2.1
theorem wr_spr {M : Mem} {c s p : Nat} (h : WR M c s p) : zrf M 0 12 = some s := zrf_of h.2.2.1
theorem wr_pch {M : Mem} {c s p : Nat} (h : WR M c s p) : zrf M 353 2 = some p := zrf_of h.2.2.2.1
set_option maxRecDepth 20000 in
theorem w0_0 {M : Mem} (h : WRc M) : zrf M 0 0 = some 1 := wr_at h 0 rfl
set_option maxRecDepth 20000 in
theorem w0_1 {M : Mem} (h : WRc M) : zrf M 0 1 = some 2 := wr_at h 1 rfl
set_option maxRecDepth 20000 in
theorem w0_2 {M : Mem} (h : WRc M) : zrf M 0 2 = some 3 := wr_at h 2 rfl
set_option maxRecDepth 20000 in
theorem w0_3 {M : Mem} (h : WRc M) : zrf M 0 3 = some 6 := wr_at h 3 rfl
set_option maxRecDepth 20000 in
theorem w0_4 {M : Mem} (h : WRc M) : zrf M 0 4 = some 12 := wr_at h 4 rfl
set_option maxRecDepth 20000 in
theorem w0_5 {M : Mem} (h : WRc M) : zrf M 0 5 = some 13 := wr_at h 5 rfl
set_option maxRecDepth 20000 in
theorem w0_6 {M : Mem} (h : WRc M) : zrf M 0 6 = some 27 := wr_at h 6 rfl
set_option maxRecDepth 20000 in
theorem w0_7 {M : Mem} (h : WRc M) : zrf M 0 7 = some 41 := wr_at h 7 rfl
set_option maxRecDepth 20000 in
theorem w0_8 {M : Mem} (h : WRc M) : zrf M 0 8 = some 43 := wr_at h 8 rfl
set_option maxRecDepth 20000 in
theorem w0_9 {M : Mem} (h : WRc M) : zrf M 0 9 = some 327 := wr_at h 9 rfl
set_option maxRecDepth 20000 in
theorem w0_10 {M : Mem} (h : WRc M) : zrf M 0 10 = some 333 := wr_at h 10 rfl
set_option maxRecDepth 20000 in
theorem w0_13 {M : Mem} (h : WRc M) : zrf M 0 13 = some 353 := wr_at h 11 rfl
set_option maxRecDepth 20000 in
theorem w3_0 {M : Mem} (h : WRc M) : zrf M 3 0 = some 4 := wr_at h 12 rfl
set_option maxRecDepth 20000 in
theorem w3_1 {M : Mem} (h : WRc M) : zrf M 3 1 = some 5 := wr_at h 13 rfl
set_option maxRecDepth 20000 in
theorem w6_0 {M : Mem} (h : WRc M) : zrf M 6 0 = some 7 := wr_at h 14 rfl
set_option maxRecDepth 20000 in
theorem w6_1 {M : Mem} (h : WRc M) : zrf M 6 1 = some 8 := wr_at h 15 rfl
set_option maxRecDepth 20000 in
theorem w6_2 {M : Mem} (h : WRc M) : zrf M 6 2 = some 9 := wr_at h 16 rfl
set_option maxRecDepth 20000 in
theorem w6_3 {M : Mem} (h : WRc M) : zrf M 6 3 = some 10 := wr_at h 17 rfl
set_option maxRecDepth 20000 in
theorem w6_4 {M : Mem} (h : WRc M) : zrf M 6 4 = some 11 := wr_at h 18 rfl
set_option maxRecDepth 20000 in
theorem w12_0 {M : Mem} (h : WRc M) : zrf M 12 0 = some 6 := wr_at h 19 rfl
set_option maxRecDepth 20000 in
theorem w12_1 {M : Mem} (h : WRc M) : zrf M 12 1 = some 3 := wr_at h 20 rfl
set_option maxRecDepth 20000 in
theorem w13_0 {M : Mem} (h : WRc M) : zrf M 13 0 = some 14 := wr_at h 21 rfl
set_option maxRecDepth 20000 in
theorem w14_0 {M : Mem} (h : WRc M) : zrf M 14 0 = some 15 := wr_at h 22 rfl
set_option maxRecDepth 20000 in
theorem w14_1 {M : Mem} (h : WRc M) : zrf M 14 1 = some 17 := wr_at h 23 rfl
set_option maxRecDepth 20000 in
theorem w14_2 {M : Mem} (h : WRc M) : zrf M 14 2 = some 19 := wr_at h 24 rfl
set_option maxRecDepth 20000 in
theorem w14_3 {M : Mem} (h : WRc M) : zrf M 14 3 = some 21 := wr_at h 25 rfl
set_option maxRecDepth 20000 in
theorem w14_4 {M : Mem} (h : WRc M) : zrf M 14 4 = some 23 := wr_at h 26 rfl
set_option maxRecDepth 20000 in
theorem w14_5 {M : Mem} (h : WRc M) : zrf M 14 5 = some 25 := wr_at h 27 rfl
set_option maxRecDepth 20000 in
theorem w27_0 {M : Mem} (h : WRc M) : zrf M 27 0 = some 28 := wr_at h 34 rfl
set_option maxRecDepth 20000 in
theorem w28_0 {M : Mem} (h : WRc M) : zrf M 28 0 = some 29 := wr_at h 35 rfl
set_option maxRecDepth 20000 in
theorem w28_1 {M : Mem} (h : WRc M) : zrf M 28 1 = some 31 := wr_at h 36 rfl
set_option maxRecDepth 20000 in
theorem w28_2 {M : Mem} (h : WRc M) : zrf M 28 2 = some 33 := wr_at h 37 rfl
set_option maxRecDepth 20000 in
theorem w28_3 {M : Mem} (h : WRc M) : zrf M 28 3 = some 35 := wr_at h 38 rfl
set_option maxRecDepth 20000 in
theorem w28_4 {M : Mem} (h : WRc M) : zrf M 28 4 = some 37 := wr_at h 39 rfl
set_option maxRecDepth 20000 in
theorem w28_5 {M : Mem} (h : WRc M) : zrf M 28 5 = some 39 := wr_at h 40 rfl
set_option maxRecDepth 20000 in
theorem w41_0 {M : Mem} (h : WRc M) : zrf M 41 0 = some 42 := wr_at h 47 rfl
set_option maxRecDepth 20000 in
theorem w43_0 {M : Mem} (h : WRc M) : zrf M 43 0 = some 44 := wr_at h 48 rfl
set_option maxRecDepth 20000 in
theorem w43_1 {M : Mem} (h : WRc M) : zrf M 43 1 = some 45 := wr_at h 49 rfl
set_option maxRecDepth 20000 in
theorem w43_2 {M : Mem} (h : WRc M) : zrf M 43 2 = some 46 := wr_at h 50 rfl
set_option maxRecDepth 20000 in
theorem w327_0 {M : Mem} (h : WRc M) : zrf M 327 0 = some 328 := wr_at h 331 rfl
set_option maxRecDepth 20000 in
theorem w327_1 {M : Mem} (h : WRc M) : zrf M 327 1 = some 329 := wr_at h 332 rfl
set_option maxRecDepth 20000 in
theorem w327_2 {M : Mem} (h : WRc M) : zrf M 327 2 = some 330 := wr_at h 333 rfl
set_option maxRecDepth 20000 in
theorem w327_3 {M : Mem} (h : WRc M) : zrf M 327 3 = some 331 := wr_at h 334 rfl
set_option maxRecDepth 20000 in
theorem w327_4 {M : Mem} (h : WRc M) : zrf M 327 4 = some 332 := wr_at h 335 rfl
set_option maxRecDepth 20000 in
theorem w333_0 {M : Mem} (h : WRc M) : zrf M 333 0 = some 334 := wr_at h 336 rfl
set_option maxRecDepth 20000 in
theorem w353_0 {M : Mem} (h : WRc M) : zrf M 353 0 = some 354 := wr_at h 353 rfl
set_option maxRecDepth 20000 in
theorem w353_1 {M : Mem} (h : WRc M) : zrf M 353 1 = some 1 := wr_at h 354 rfl
set_option maxRecDepth 20000 in
theorem w355_0 {M : Mem} (h : WRc M) : zrf M 355 0 = some 356 := wr_at h 355 rfl
set_option maxRecDepth 20000 in
theorem w355_14 {M : Mem} (h : WRc M) : zrf M 355 14 = some 357 := wr_at h 356 rfl
set_option maxRecDepth 20000 in
theorem w355_15 {M : Mem} (h : WRc M) : zrf M 355 15 = some 358 := wr_at h 357 rfl
set_option maxRecDepth 20000 in
theorem w355_16 {M : Mem} (h : WRc M) : zrf M 355 16 = some 359 := wr_at h 358 rfl
set_option maxRecDepth 20000 in
theorem w355_17 {M : Mem} (h : WRc M) : zrf M 355 17 = some 360 := wr_at h 359 rfl
set_option maxRecDepth 20000 in
theorem w355_18 {M : Mem} (h : WRc M) : zrf M 355 18 = some 361 := wr_at h 360 rfl
set_option maxRecDepth 20000 in
theorem w355_19 {M : Mem} (h : WRc M) : zrf M 355 19 = some 362 := wr_at h 361 rfl
set_option maxRecDepth 20000 in
theorem w355_20 {M : Mem} (h : WRc M) : zrf M 355 20 = some 363 := wr_at h 362 rfl
set_option maxRecDepth 20000 in
theorem w355_24 {M : Mem} (h : WRc M) : zrf M 355 24 = some 364 := wr_at h 363 rfl
set_option maxRecDepth 20000 in
theorem w355_25 {M : Mem} (h : WRc M) : zrf M 355 25 = some 365 := wr_at h 364 rfl
set_option maxRecDepth 20000 in
theorem w355_26 {M : Mem} (h : WRc M) : zrf M 355 26 = some 366 := wr_at h 365 rfl
set_option maxRecDepth 20000 in
theorem w355_27 {M : Mem} (h : WRc M) : zrf M 355 27 = some 367 := wr_at h 366 rfl
set_option maxRecDepth 20000 in
theorem w355_28 {M : Mem} (h : WRc M) : zrf M 355 28 = some 368 := wr_at h 367 rfl
set_option maxRecDepth 20000 in
theorem w355_31 {M : Mem} (h : WRc M) : zrf M 355 31 = some 369 := wr_at h 368 rfl
set_option maxRecDepth 20000 in
theorem w355_34 {M : Mem} (h : WRc M) : zrf M 355 34 = some 370 := wr_at h 369 rfl
set_option maxRecDepth 20000 in
theorem w355_36 {M : Mem} (h : WRc M) : zrf M 355 36 = some 371 := wr_at h 370 rfl
set_option maxRecDepth 20000 in
theorem w355_42 {M : Mem} (h : WRc M) : zrf M 355 42 = some 372 := wr_at h 371 rfl
set_option maxRecDepth 20000 in
theorem w355_43 {M : Mem} (h : WRc M) : zrf M 355 43 = some 373 := wr_at h 372 rfl
set_option maxRecDepth 20000 in
theorem w355_44 {M : Mem} (h : WRc M) : zrf M 355 44 = some 374 := wr_at h 373 rfl
set_option maxRecDepth 20000 in
theorem w355_45 {M : Mem} (h : WRc M) : zrf M 355 45 = some 375 := wr_at h 374 rfl
set_option maxRecDepth 20000 in
theorem w355_46 {M : Mem} (h : WRc M) : zrf M 355 46 = some 376 := wr_at h 375 rfl
set_option maxRecDepth 20000 in
theorem w355_47 {M : Mem} (h : WRc M) : zrf M 355 47 = some 377 := wr_at h 376 rfl
set_option maxRecDepth 20000 in
theorem w355_48 {M : Mem} (h : WRc M) : zrf M 355 48 = some 378 := wr_at h 377 rfl
set_option maxRecDepth 20000 in
theorem w355_51 {M : Mem} (h : WRc M) : zrf M 355 51 = some 379 := wr_at h 378 rfl
set_option maxRecDepth 20000 in
theorem w355_54 {M : Mem} (h : WRc M) : zrf M 355 54 = some 380 := wr_at h 379 rfl
set_option maxRecDepth 20000 in
theorem w355_55 {M : Mem} (h : WRc M) : zrf M 355 55 = some 381 := wr_at h 380 rfl
set_option maxRecDepth 20000 in
theorem w355_56 {M : Mem} (h : WRc M) : zrf M 355 56 = some 382 := wr_at h 381 rfl
set_option maxRecDepth 20000 in
theorem w355_57 {M : Mem} (h : WRc M) : zrf M 355 57 = some 383 := wr_at h 382 rfl
set_option maxRecDepth 20000 in
theorem w355_58 {M : Mem} (h : WRc M) : zrf M 355 58 = some 384 := wr_at h 383 rfl
set_option maxRecDepth 20000 in
theorem w355_59 {M : Mem} (h : WRc M) : zrf M 355 59 = some 385 := wr_at h 384 rfl
set_option maxRecDepth 20000 in
theorem w355_60 {M : Mem} (h : WRc M) : zrf M 355 60 = some 386 := wr_at h 385 rfl
set_option maxRecDepth 20000 in
theorem w355_61 {M : Mem} (h : WRc M) : zrf M 355 61 = some 387 := wr_at h 386 rfl
set_option maxRecDepth 20000 in
theorem w355_65 {M : Mem} (h : WRc M) : zrf M 355 65 = some 388 := wr_at h 387 rfl
set_option maxRecDepth 20000 in
theorem w355_66 {M : Mem} (h : WRc M) : zrf M 355 66 = some 389 := wr_at h 388 rfl
set_option maxRecDepth 20000 in
theorem w355_70 {M : Mem} (h : WRc M) : zrf M 355 70 = some 390 := wr_at h 389 rfl
set_option maxRecDepth 20000 in
theorem w355_71 {M : Mem} (h : WRc M) : zrf M 355 71 = some 391 := wr_at h 390 rfl
set_option maxRecDepth 20000 in
theorem w355_72 {M : Mem} (h : WRc M) : zrf M 355 72 = some 392 := wr_at h 391 rfl
set_option maxRecDepth 20000 in
theorem w355_73 {M : Mem} (h : WRc M) : zrf M 355 73 = some 393 := wr_at h 392 rfl
set_option maxRecDepth 20000 in
theorem w355_74 {M : Mem} (h : WRc M) : zrf M 355 74 = some 394 := wr_at h 393 rfl
set_option maxRecDepth 20000 in
theorem wRow {M : Mem} (h : WRc M) {r : Nat} (hr : r < 395) (hk : (zSH r).1 = 8) : zrf M r 0 = some (r + 1) := by
  refine wr_mem h ?_
  exact of_decide_eq_true (List.all_eq_true.mp (show (List.range 395).all (fun r => decide ((zSH r).1 = 8 → (r, 0, r + 1 + 1) ∈ WRl)) = true by decide +kernel) r (List.mem_range.mpr hr)) hk
theorem wPg {M : Mem} (h : WRc M) {r : Nat} (hr : r < 395) (hk : (zSH r).1 = 5) : zrf M r 0 = some (r + 1) := by
  refine wr_mem h ?_
  exact of_decide_eq_true (List.all_eq_true.mp (show (List.range 395).all (fun r => decide ((zSH r).1 = 5 → (r, 0, r + 1 + 1) ∈ WRl)) = true by decide +kernel) r (List.mem_range.mpr hr)) hk
theorem wPr {M : Mem} (h : WRc M) {r k : Nat} (hr : r < 395) (hk : (zSH r).1 = 5) (h6 : k < 6) : zrf M (r + 1) k = some (r + 2 + 2 * k) := by
  refine wr_mem h ?_
  exact of_decide_eq_true (List.all_eq_true.mp (List.all_eq_true.mp (show (List.range 395).all (fun r => (List.range 6).all fun k => decide ((zSH r).1 = 5 → (r + 1, k, r + 2 + 2 * k + 1) ∈ WRl)) = true by decide +kernel) r (List.mem_range.mpr hr)) k (List.mem_range.mpr h6)) hk
theorem wPst {M : Mem} (h : WRc M) {k : Nat} (hk : k < 20) : zrf M 44 k = some (47 + 14 * k) := by
  refine wr_mem h ?_
  exact of_decide_eq_true (List.all_eq_true.mp (show (List.range 20).all (fun k => decide ((44, k, 47 + 14 * k + 1) ∈ WRl)) = true by decide +kernel) k (List.mem_range.mpr hk))
def zCh2 (c : Nat) : Prop := c = 335 ∨ c = 344
set_option maxRecDepth 20000 in
theorem wC_0 {M : Mem} (h : WRc M) {c : Nat} (hc : zCh2 c) : zrf M c 0 = some (c + 1) := by rcases hc with rfl | rfl <;> exact wr_mem h (by decide +kernel)
set_option maxRecDepth 20000 in
theorem wC_1 {M : Mem} (h : WRc M) {c : Nat} (hc : zCh2 c) : zrf M c 1 = some (c + 7) := by rcases hc with rfl | rfl <;> exact wr_mem h (by decide +kernel)
set_option maxRecDepth 20000 in
theorem wC_2 {M : Mem} (h : WRc M) {c : Nat} (hc : zCh2 c) : zrf M c 2 = some (c + 8) := by rcases hc with rfl | rfl <;> exact wr_mem h (by decide +kernel)
set_option maxRecDepth 20000 in
theorem wK_0 {M : Mem} (h : WRc M) {c : Nat} (hc : zCh2 c) : zrf M (c + 1) 0 = some (c + 2) := by rcases hc with rfl | rfl <;> exact wr_mem h (by decide +kernel)
set_option maxRecDepth 20000 in
theorem wK_1 {M : Mem} (h : WRc M) {c : Nat} (hc : zCh2 c) : zrf M (c + 1) 1 = some (c + 3) := by rcases hc with rfl | rfl <;> exact wr_mem h (by decide +kernel)
set_option maxRecDepth 20000 in
theorem wK_2 {M : Mem} (h : WRc M) {c : Nat} (hc : zCh2 c) : zrf M (c + 1) 2 = some (c + 4) := by rcases hc with rfl | rfl <;> exact wr_mem h (by decide +kernel)
set_option maxRecDepth 20000 in
theorem wK_3 {M : Mem} (h : WRc M) {c : Nat} (hc : zCh2 c) : zrf M (c + 1) 3 = some (c + 5) := by rcases hc with rfl | rfl <;> exact wr_mem h (by decide +kernel)
set_option maxRecDepth 20000 in
theorem wK_4 {M : Mem} (h : WRc M) {c : Nat} (hc : zCh2 c) : zrf M (c + 1) 4 = some (c + 6) := by rcases hc with rfl | rfl <;> exact wr_mem h (by decide +kernel)
theorem zrf_wI (M : Mem) (a : Nat) (f : Nat → Int32) (b j : Nat) : zrf (zwI M a f) b j = zrf M b j := rfl
theorem zrf_wL (M : Mem) (a : Nat) (f : Nat → Int64) (b j : Nat) : zrf (zwL M a f) b j = zrf M b j := rfl
theorem zrf_sI (M : Mem) (a k : Nat) (v : Int32) (b j : Nat) : zrf (zsI M a k v) b j = zrf M b j := rfl
theorem zrf_sL (M : Mem) (a k : Nat) (v : Int64) (b j : Nat) : zrf (zsL M a k v) b j = zrf M b j := rfl
theorem zI_wI (M : Mem) (a : Nat) (f : Nat → Int32) (b : Nat) : zI (zwI M a f) b = if b = a then f else zI M b := rfl
theorem zI_wL (M : Mem) (a : Nat) (f : Nat → Int64) (b : Nat) : zI (zwL M a f) b = zI M b := rfl
theorem zL_wI (M : Mem) (a : Nat) (f : Nat → Int32) (b : Nat) : zL (zwI M a f) b = zL M b := rfl
theorem zL_wL (M : Mem) (a : Nat) (f : Nat → Int64) (b : Nat) : zL (zwL M a f) b = if b = a then f else zL M b := rfl
theorem zI_sI (M : Mem) (a k : Nat) (v : Int32) (b : Nat) : zI (zsI M a k v) b = if b = a then zup (zI M a) k v else zI M b := rfl
theorem zI_sL (M : Mem) (a k : Nat) (v : Int64) (b : Nat) : zI (zsL M a k v) b = zI M b := rfl
theorem zL_sI (M : Mem) (a k : Nat) (v : Int32) (b : Nat) : zL (zsI M a k v) b = zL M b := rfl
theorem zL_sL (M : Mem) (a k : Nat) (v : Int64) (b : Nat) : zL (zsL M a k v) b = if b = a then zup (zL M a) k v else zL M b := rfl
theorem zup_at {α : Type} (f : Nat → α) (k : Nat) (v : α) (j : Nat) : zup f k v j = if j = k then v else f j := rfl
theorem zup_zup {α : Type} (f : Nat → α) (k : Nat) (v w : α) : zup (zup f k v) k w = zup f k w := by
  funext j; unfold zup; by_cases h : j = k <;> simp [h]
theorem zwI_wI (M : Mem) (a : Nat) (f g : Nat → Int32) : zwI (zwI M a f) a g = zwI M a g := by
  unfold zwI; simp only [zup_zup]
theorem zwL_wL (M : Mem) (a : Nat) (f g : Nat → Int64) : zwL (zwL M a f) a g = zwL M a g := by
  unfold zwL; simp only [zup_zup]
theorem zsI_wI (M : Mem) (a k : Nat) (v : Int32) : zsI M a k v = zwI M a (zup (zI M a) k v) := rfl
theorem zsL_wL (M : Mem) (a k : Nat) (v : Int64) : zsL M a k v = zwL M a (zup (zL M a) k v) := rfl
theorem zup_self_eq {α : Type} (f : Nat → α) (k : Nat) : zup f k (f k) = f := by
  funext j; unfold zup; by_cases h : j = k <;> simp [h]
theorem zwI_self (M : Mem) (a : Nat) : zwI M a (zI M a) = M := by
  unfold zwI zI; rw [zup_self_eq]
theorem zld_nI {a k : Nat} (h : k < (zSH a).2) (h2 : (zSH a).2 < 2 ^ 31) : zld a (nI k) = some k := by
  have hk : k < 2 ^ 31 := Nat.lt_trans h h2
  unfold zld
  rw [if_neg, nI_clamp hk]
  rw [nI_clamp hk]
  intro hc
  rcases hc with hc | hc
  · exact nI_pos hk hc
  · omega
