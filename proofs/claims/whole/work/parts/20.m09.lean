set_option maxRecDepth 100000 in
def dt_X12_isOwn : List (Nat × Instr × Nat) := [(0, .lload_n 1, 1), (1, .ldc2_w 271, 3), (4, .lcmp, 1), (5, .ifCond .eq 35, 3), (8, .lload_n 1, 1), (9, .ldc2_w 273, 3), (12, .lcmp, 1), (13, .ifCond .eq 27, 3), (16, .lload_n 1, 1), (17, .ldc2_w 275, 3), (20, .lcmp, 1), (21, .ifCond .eq 19, 3), (24, .lload_n 1, 1), (25, .ldc2_w 277, 3), (28, .lcmp, 1), (29, .ifCond .eq 11, 3), (32, .lload_n 1, 1), (33, .ldc2_w 279, 3), (36, .lcmp, 1), (37, .ifCond .ne 5, 3), (40, .iconst 1, 1), (41, .ireturn, 1), (42, .lload_n 1, 1), (43, .ldc2_w 281, 3), (46, .lcmp, 1), (47, .ifCond .eq 35, 3), (50, .lload_n 1, 1), (51, .ldc2_w 283, 3), (54, .lcmp, 1), (55, .ifCond .eq 27, 3), (58, .lload_n 1, 1), (59, .ldc2_w 285, 3), (62, .lcmp, 1), (63, .ifCond .eq 19, 3), (66, .lload_n 1, 1), (67, .ldc2_w 287, 3), (70, .lcmp, 1), (71, .ifCond .eq 11, 3), (74, .lload_n 1, 1), (75, .ldc2_w 289, 3), (78, .lcmp, 1), (79, .ifCond .ne 5, 3), (82, .iconst 1, 1), (83, .ireturn, 1), (84, .lload_n 1, 1), (85, .ldc2_w 291, 3), (88, .lcmp, 1), (89, .ifCond .eq 35, 3), (92, .lload_n 1, 1), (93, .ldc2_w 293, 3), (96, .lcmp, 1), (97, .ifCond .eq 27, 3), (100, .lload_n 1, 1), (101, .ldc2_w 295, 3), (104, .lcmp, 1), (105, .ifCond .eq 19, 3), (108, .lload_n 1, 1), (109, .ldc2_w 297, 3), (112, .lcmp, 1), (113, .ifCond .eq 11, 3), (116, .lload_n 1, 1), (117, .ldc2_w 299, 3), (120, .lcmp, 1), (121, .ifCond .ne 5, 3), (124, .iconst 1, 1), (125, .ireturn, 1), (126, .lload_n 1, 1), (127, .ldc2_w 301, 3), (130, .lcmp, 1), (131, .ifCond .eq 35, 3), (134, .lload_n 1, 1), (135, .ldc2_w 303, 3), (138, .lcmp, 1), (139, .ifCond .eq 27, 3), (142, .lload_n 1, 1), (143, .ldc2_w 305, 3), (146, .lcmp, 1), (147, .ifCond .eq 19, 3), (150, .lload_n 1, 1), (151, .ldc2_w 307, 3), (154, .lcmp, 1), (155, .ifCond .eq 11, 3), (158, .lload_n 1, 1), (159, .ldc2_w 309, 3), (162, .lcmp, 1), (163, .ifCond .ne 5, 3), (166, .iconst 1, 1), (167, .ireturn, 1), (168, .lload_n 1, 1), (169, .ldc2_w 311, 3), (172, .lcmp, 1), (173, .ifCond .eq 35, 3), (176, .lload_n 1, 1), (177, .ldc2_w 313, 3), (180, .lcmp, 1), (181, .ifCond .eq 27, 3), (184, .lload_n 1, 1), (185, .ldc2_w 315, 3), (188, .lcmp, 1), (189, .ifCond .eq 19, 3), (192, .lload_n 1, 1), (193, .ldc2_w 317, 3), (196, .lcmp, 1), (197, .ifCond .eq 11, 3), (200, .lload_n 1, 1), (201, .ldc2_w 319, 3), (204, .lcmp, 1), (205, .ifCond .ne 5, 3), (208, .iconst 1, 1), (209, .ireturn, 1), (210, .lload_n 1, 1), (211, .ldc2_w 321, 3), (214, .lcmp, 1), (215, .ifCond .eq 11, 3), (218, .lload_n 1, 1), (219, .ldc2_w 323, 3), (222, .lcmp, 1), (223, .ifCond .ne 5, 3), (226, .iconst 1, 1), (227, .ireturn, 1), (228, .iconst 0, 1), (229, .ireturn, 1)]
set_option maxRecDepth 100000 in
theorem dk_X12_isOwn : dt_X12_isOwn.all (fun q => decide (decode cX12_isOwn q.1 = .ok q.2)) = true := by decide +kernel
set_option maxRecDepth 100000 in
def f_X12_isOwn_40  (r0 : Nat) (y1 : Int64)  (M : Mem) : Option (Int32 × Mem) := some (1, M)
set_option maxRecDepth 100000 in
set_option maxHeartbeats 4000000 in
theorem x_X12_isOwn_40 {κ : KX} {n : Nat} (hC : CX κ cX12_isOwn RX12 3 (some .boolean) 0) (hE : zEnd κ n (0, 0)) (hk0 : zRk κ (0, 0)) {r0 : Nat} {y1 : Int64} (h_r0 : zO n r0 12) (M : Mem) : X κ 3 emI n (0, 0) 40 [.null, .null, .null] [] M (f_X12_isOwn_40 r0 y1 M) := by
  unfold f_X12_isOwn_40
  refine x_iconst (i := 1) c_iconst_1 hC (zdk dk_X12_isOwn 20 rfl) (q := 41) rfl ?_
  exact x_iret (ty := .boolean) rfl hE hC (zdk dk_X12_isOwn 21 rfl)
set_option maxRecDepth 100000 in
def f_X12_isOwn_82  (r0 : Nat) (y1 : Int64)  (M : Mem) : Option (Int32 × Mem) := some (1, M)
set_option maxRecDepth 100000 in
set_option maxHeartbeats 4000000 in
theorem x_X12_isOwn_82 {κ : KX} {n : Nat} (hC : CX κ cX12_isOwn RX12 3 (some .boolean) 0) (hE : zEnd κ n (0, 0)) (hk0 : zRk κ (0, 0)) {r0 : Nat} {y1 : Int64} (h_r0 : zO n r0 12) (M : Mem) : X κ 3 emI n (0, 0) 82 [.null, .null, .null] [] M (f_X12_isOwn_82 r0 y1 M) := by
  unfold f_X12_isOwn_82
  refine x_iconst (i := 1) c_iconst_1 hC (zdk dk_X12_isOwn 42 rfl) (q := 83) rfl ?_
  exact x_iret (ty := .boolean) rfl hE hC (zdk dk_X12_isOwn 43 rfl)
set_option maxRecDepth 100000 in
def f_X12_isOwn_124  (r0 : Nat) (y1 : Int64)  (M : Mem) : Option (Int32 × Mem) := some (1, M)
set_option maxRecDepth 100000 in
set_option maxHeartbeats 4000000 in
theorem x_X12_isOwn_124 {κ : KX} {n : Nat} (hC : CX κ cX12_isOwn RX12 3 (some .boolean) 0) (hE : zEnd κ n (0, 0)) (hk0 : zRk κ (0, 0)) {r0 : Nat} {y1 : Int64} (h_r0 : zO n r0 12) (M : Mem) : X κ 3 emI n (0, 0) 124 [.null, .null, .null] [] M (f_X12_isOwn_124 r0 y1 M) := by
  unfold f_X12_isOwn_124
  refine x_iconst (i := 1) c_iconst_1 hC (zdk dk_X12_isOwn 64 rfl) (q := 125) rfl ?_
  exact x_iret (ty := .boolean) rfl hE hC (zdk dk_X12_isOwn 65 rfl)
set_option maxRecDepth 100000 in
def f_X12_isOwn_166  (r0 : Nat) (y1 : Int64)  (M : Mem) : Option (Int32 × Mem) := some (1, M)
set_option maxRecDepth 100000 in
set_option maxHeartbeats 4000000 in
theorem x_X12_isOwn_166 {κ : KX} {n : Nat} (hC : CX κ cX12_isOwn RX12 3 (some .boolean) 0) (hE : zEnd κ n (0, 0)) (hk0 : zRk κ (0, 0)) {r0 : Nat} {y1 : Int64} (h_r0 : zO n r0 12) (M : Mem) : X κ 3 emI n (0, 0) 166 [.null, .null, .null] [] M (f_X12_isOwn_166 r0 y1 M) := by
  unfold f_X12_isOwn_166
  refine x_iconst (i := 1) c_iconst_1 hC (zdk dk_X12_isOwn 86 rfl) (q := 167) rfl ?_
  exact x_iret (ty := .boolean) rfl hE hC (zdk dk_X12_isOwn 87 rfl)
set_option maxRecDepth 100000 in
def f_X12_isOwn_208  (r0 : Nat) (y1 : Int64)  (M : Mem) : Option (Int32 × Mem) := some (1, M)
set_option maxRecDepth 100000 in
set_option maxHeartbeats 4000000 in
theorem x_X12_isOwn_208 {κ : KX} {n : Nat} (hC : CX κ cX12_isOwn RX12 3 (some .boolean) 0) (hE : zEnd κ n (0, 0)) (hk0 : zRk κ (0, 0)) {r0 : Nat} {y1 : Int64} (h_r0 : zO n r0 12) (M : Mem) : X κ 3 emI n (0, 0) 208 [.null, .null, .null] [] M (f_X12_isOwn_208 r0 y1 M) := by
  unfold f_X12_isOwn_208
  refine x_iconst (i := 1) c_iconst_1 hC (zdk dk_X12_isOwn 108 rfl) (q := 209) rfl ?_
  exact x_iret (ty := .boolean) rfl hE hC (zdk dk_X12_isOwn 109 rfl)
set_option maxRecDepth 100000 in
def f_X12_isOwn_226  (r0 : Nat) (y1 : Int64)  (M : Mem) : Option (Int32 × Mem) := some (1, M)
set_option maxRecDepth 100000 in
set_option maxHeartbeats 4000000 in
theorem x_X12_isOwn_226 {κ : KX} {n : Nat} (hC : CX κ cX12_isOwn RX12 3 (some .boolean) 0) (hE : zEnd κ n (0, 0)) (hk0 : zRk κ (0, 0)) {r0 : Nat} {y1 : Int64} (h_r0 : zO n r0 12) (M : Mem) : X κ 3 emI n (0, 0) 226 [.null, .null, .null] [] M (f_X12_isOwn_226 r0 y1 M) := by
  unfold f_X12_isOwn_226
  refine x_iconst (i := 1) c_iconst_1 hC (zdk dk_X12_isOwn 118 rfl) (q := 227) rfl ?_
  exact x_iret (ty := .boolean) rfl hE hC (zdk dk_X12_isOwn 119 rfl)
set_option maxRecDepth 100000 in
def f_X12_isOwn (r0 : Nat) (y1 : Int64) (M : Mem) : Option (Int32 × Mem) := (if lg_cmp y1 439854918756 = 0 then f_X12_isOwn_40 r0 y1 M else (if lg_cmp y1 1886350457 = 0 then f_X12_isOwn_40 r0 y1 M else (if lg_cmp y1 469853168755 = 0 then f_X12_isOwn_40 r0 y1 M else (if lg_cmp y1 495673373300 = 0 then f_X12_isOwn_40 r0 y1 M else (if lg_cmp y1 1885431653 = 0 then f_X12_isOwn_40 r0 y1 M else (if lg_cmp y1 1751738216 = 0 then f_X12_isOwn_82 r0 y1 M else (if lg_cmp y1 7106423 = 0 then f_X12_isOwn_82 r0 y1 M else (if lg_cmp y1 7170404 = 0 then f_X12_isOwn_82 r0 y1 M else (if lg_cmp y1 1937007984 = 0 then f_X12_isOwn_82 r0 y1 M else (if lg_cmp y1 474315584357 = 0 then f_X12_isOwn_82 r0 y1 M else (if lg_cmp y1 110442557371507 = 0 then f_X12_isOwn_124 r0 y1 M else (if lg_cmp y1 500135716211 = 0 then f_X12_isOwn_124 r0 y1 M else (if lg_cmp y1 6578553 = 0 then f_X12_isOwn_124 r0 y1 M else (if lg_cmp y1 1667591276 = 0 then f_X12_isOwn_124 r0 y1 M else (if lg_cmp y1 465558725996 = 0 then f_X12_isOwn_124 r0 y1 M else (if lg_cmp y1 6449524 = 0 then f_X12_isOwn_166 r0 y1 M else (if lg_cmp y1 6383461 = 0 then f_X12_isOwn_166 r0 y1 M else (if lg_cmp y1 500135716196 = 0 then f_X12_isOwn_166 r0 y1 M else (if lg_cmp y1 6775152 = 0 then f_X12_isOwn_166 r0 y1 M else (if lg_cmp y1 24948 = 0 then f_X12_isOwn_166 r0 y1 M else (if lg_cmp y1 26982 = 0 then f_X12_isOwn_208 r0 y1 M else (if lg_cmp y1 28530 = 0 then f_X12_isOwn_208 r0 y1 M else (if lg_cmp y1 6385252 = 0 then f_X12_isOwn_208 r0 y1 M else (if lg_cmp y1 7237492 = 0 then f_X12_isOwn_208 r0 y1 M else (if lg_cmp y1 6384748 = 0 then f_X12_isOwn_208 r0 y1 M else (if lg_cmp y1 7170414 = 0 then f_X12_isOwn_226 r0 y1 M else (if lg_cmp y1 7168376 = 0 then f_X12_isOwn_226 r0 y1 M else some (0, M))))))))))))))))))))))))))))
set_option maxRecDepth 100000 in
set_option maxHeartbeats 4000000 in
theorem x_X12_isOwn {κ : KX} {n : Nat} (hC : CX κ cX12_isOwn RX12 3 (some .boolean) 0) (hE : zEnd κ n (0, 0)) (hk0 : zRk κ (0, 0)) (r0 : Nat) (y1 : Int64) (M : Mem) (h_r0 : zO n r0 12) : X κ 3 emI n (0, 0) 0 [.ref r0, .long y1, .null] [] M (f_X12_isOwn r0 y1 M) := by
  unfold f_X12_isOwn
  refine x_lload_n (i := 1) rfl hC (zdk dk_X12_isOwn 0 rfl) (q := 1) rfl ?_
  refine x_ldc2 k_RX12_271 hC (zdk dk_X12_isOwn 1 rfl) (q := 4) rfl ?_
  refine x_lcmp hC (zdk dk_X12_isOwn 2 rfl) (q := 5) rfl ?_
  refine x_if_eq (tgt := 40) hC (zdk dk_X12_isOwn 3 rfl) (q := 8) rfl rfl (fun _ => ?_) (fun _ => ?_)
  · refine x_weak (L' := [.null, .null, .null]) ⟨Or.inl rfl, Or.inl rfl, Or.inl rfl, trivial⟩ ?_
    exact x_X12_isOwn_40 hC hE hk0 h_r0 _
  · refine x_lload_n (i := 1) rfl hC (zdk dk_X12_isOwn 4 rfl) (q := 9) rfl ?_
    refine x_ldc2 k_RX12_273 hC (zdk dk_X12_isOwn 5 rfl) (q := 12) rfl ?_
    refine x_lcmp hC (zdk dk_X12_isOwn 6 rfl) (q := 13) rfl ?_
    refine x_if_eq (tgt := 40) hC (zdk dk_X12_isOwn 7 rfl) (q := 16) rfl rfl (fun _ => ?_) (fun _ => ?_)
    · refine x_weak (L' := [.null, .null, .null]) ⟨Or.inl rfl, Or.inl rfl, Or.inl rfl, trivial⟩ ?_
      exact x_X12_isOwn_40 hC hE hk0 h_r0 _
    · refine x_lload_n (i := 1) rfl hC (zdk dk_X12_isOwn 8 rfl) (q := 17) rfl ?_
      refine x_ldc2 k_RX12_275 hC (zdk dk_X12_isOwn 9 rfl) (q := 20) rfl ?_
      refine x_lcmp hC (zdk dk_X12_isOwn 10 rfl) (q := 21) rfl ?_
      refine x_if_eq (tgt := 40) hC (zdk dk_X12_isOwn 11 rfl) (q := 24) rfl rfl (fun _ => ?_) (fun _ => ?_)
      · refine x_weak (L' := [.null, .null, .null]) ⟨Or.inl rfl, Or.inl rfl, Or.inl rfl, trivial⟩ ?_
        exact x_X12_isOwn_40 hC hE hk0 h_r0 _
      · refine x_lload_n (i := 1) rfl hC (zdk dk_X12_isOwn 12 rfl) (q := 25) rfl ?_
        refine x_ldc2 k_RX12_277 hC (zdk dk_X12_isOwn 13 rfl) (q := 28) rfl ?_
        refine x_lcmp hC (zdk dk_X12_isOwn 14 rfl) (q := 29) rfl ?_
        refine x_if_eq (tgt := 40) hC (zdk dk_X12_isOwn 15 rfl) (q := 32) rfl rfl (fun _ => ?_) (fun _ => ?_)
        · refine x_weak (L' := [.null, .null, .null]) ⟨Or.inl rfl, Or.inl rfl, Or.inl rfl, trivial⟩ ?_
          exact x_X12_isOwn_40 hC hE hk0 h_r0 _
        · refine x_lload_n (i := 1) rfl hC (zdk dk_X12_isOwn 16 rfl) (q := 33) rfl ?_
          refine x_ldc2 k_RX12_279 hC (zdk dk_X12_isOwn 17 rfl) (q := 36) rfl ?_
          refine x_lcmp hC (zdk dk_X12_isOwn 18 rfl) (q := 37) rfl ?_
          refine x_if_ne (tgt := 42) hC (zdk dk_X12_isOwn 19 rfl) (q := 40) rfl rfl (fun _ => ?_) (fun _ => ?_)
          · refine x_lload_n (i := 1) rfl hC (zdk dk_X12_isOwn 22 rfl) (q := 43) rfl ?_
            refine x_ldc2 k_RX12_281 hC (zdk dk_X12_isOwn 23 rfl) (q := 46) rfl ?_
            refine x_lcmp hC (zdk dk_X12_isOwn 24 rfl) (q := 47) rfl ?_
            refine x_if_eq (tgt := 82) hC (zdk dk_X12_isOwn 25 rfl) (q := 50) rfl rfl (fun _ => ?_) (fun _ => ?_)
            · refine x_weak (L' := [.null, .null, .null]) ⟨Or.inl rfl, Or.inl rfl, Or.inl rfl, trivial⟩ ?_
              exact x_X12_isOwn_82 hC hE hk0 h_r0 _
            · refine x_lload_n (i := 1) rfl hC (zdk dk_X12_isOwn 26 rfl) (q := 51) rfl ?_
              refine x_ldc2 k_RX12_283 hC (zdk dk_X12_isOwn 27 rfl) (q := 54) rfl ?_
              refine x_lcmp hC (zdk dk_X12_isOwn 28 rfl) (q := 55) rfl ?_
              refine x_if_eq (tgt := 82) hC (zdk dk_X12_isOwn 29 rfl) (q := 58) rfl rfl (fun _ => ?_) (fun _ => ?_)
              · refine x_weak (L' := [.null, .null, .null]) ⟨Or.inl rfl, Or.inl rfl, Or.inl rfl, trivial⟩ ?_
                exact x_X12_isOwn_82 hC hE hk0 h_r0 _
              · refine x_lload_n (i := 1) rfl hC (zdk dk_X12_isOwn 30 rfl) (q := 59) rfl ?_
                refine x_ldc2 k_RX12_285 hC (zdk dk_X12_isOwn 31 rfl) (q := 62) rfl ?_
                refine x_lcmp hC (zdk dk_X12_isOwn 32 rfl) (q := 63) rfl ?_
                refine x_if_eq (tgt := 82) hC (zdk dk_X12_isOwn 33 rfl) (q := 66) rfl rfl (fun _ => ?_) (fun _ => ?_)
                · refine x_weak (L' := [.null, .null, .null]) ⟨Or.inl rfl, Or.inl rfl, Or.inl rfl, trivial⟩ ?_
                  exact x_X12_isOwn_82 hC hE hk0 h_r0 _
                · refine x_lload_n (i := 1) rfl hC (zdk dk_X12_isOwn 34 rfl) (q := 67) rfl ?_
                  refine x_ldc2 k_RX12_287 hC (zdk dk_X12_isOwn 35 rfl) (q := 70) rfl ?_
                  refine x_lcmp hC (zdk dk_X12_isOwn 36 rfl) (q := 71) rfl ?_
                  refine x_if_eq (tgt := 82) hC (zdk dk_X12_isOwn 37 rfl) (q := 74) rfl rfl (fun _ => ?_) (fun _ => ?_)
                  · refine x_weak (L' := [.null, .null, .null]) ⟨Or.inl rfl, Or.inl rfl, Or.inl rfl, trivial⟩ ?_
                    exact x_X12_isOwn_82 hC hE hk0 h_r0 _
                  · refine x_lload_n (i := 1) rfl hC (zdk dk_X12_isOwn 38 rfl) (q := 75) rfl ?_
                    refine x_ldc2 k_RX12_289 hC (zdk dk_X12_isOwn 39 rfl) (q := 78) rfl ?_
                    refine x_lcmp hC (zdk dk_X12_isOwn 40 rfl) (q := 79) rfl ?_
                    refine x_if_ne (tgt := 84) hC (zdk dk_X12_isOwn 41 rfl) (q := 82) rfl rfl (fun _ => ?_) (fun _ => ?_)
                    · refine x_lload_n (i := 1) rfl hC (zdk dk_X12_isOwn 44 rfl) (q := 85) rfl ?_
                      refine x_ldc2 k_RX12_291 hC (zdk dk_X12_isOwn 45 rfl) (q := 88) rfl ?_
                      refine x_lcmp hC (zdk dk_X12_isOwn 46 rfl) (q := 89) rfl ?_
                      refine x_if_eq (tgt := 124) hC (zdk dk_X12_isOwn 47 rfl) (q := 92) rfl rfl (fun _ => ?_) (fun _ => ?_)
                      · refine x_weak (L' := [.null, .null, .null]) ⟨Or.inl rfl, Or.inl rfl, Or.inl rfl, trivial⟩ ?_
                        exact x_X12_isOwn_124 hC hE hk0 h_r0 _
                      · refine x_lload_n (i := 1) rfl hC (zdk dk_X12_isOwn 48 rfl) (q := 93) rfl ?_
                        refine x_ldc2 k_RX12_293 hC (zdk dk_X12_isOwn 49 rfl) (q := 96) rfl ?_
                        refine x_lcmp hC (zdk dk_X12_isOwn 50 rfl) (q := 97) rfl ?_
                        refine x_if_eq (tgt := 124) hC (zdk dk_X12_isOwn 51 rfl) (q := 100) rfl rfl (fun _ => ?_) (fun _ => ?_)
                        · refine x_weak (L' := [.null, .null, .null]) ⟨Or.inl rfl, Or.inl rfl, Or.inl rfl, trivial⟩ ?_
                          exact x_X12_isOwn_124 hC hE hk0 h_r0 _
                        · refine x_lload_n (i := 1) rfl hC (zdk dk_X12_isOwn 52 rfl) (q := 101) rfl ?_
                          refine x_ldc2 k_RX12_295 hC (zdk dk_X12_isOwn 53 rfl) (q := 104) rfl ?_
                          refine x_lcmp hC (zdk dk_X12_isOwn 54 rfl) (q := 105) rfl ?_
                          refine x_if_eq (tgt := 124) hC (zdk dk_X12_isOwn 55 rfl) (q := 108) rfl rfl (fun _ => ?_) (fun _ => ?_)
                          · refine x_weak (L' := [.null, .null, .null]) ⟨Or.inl rfl, Or.inl rfl, Or.inl rfl, trivial⟩ ?_
                            exact x_X12_isOwn_124 hC hE hk0 h_r0 _
                          · refine x_lload_n (i := 1) rfl hC (zdk dk_X12_isOwn 56 rfl) (q := 109) rfl ?_
                            refine x_ldc2 k_RX12_297 hC (zdk dk_X12_isOwn 57 rfl) (q := 112) rfl ?_
                            refine x_lcmp hC (zdk dk_X12_isOwn 58 rfl) (q := 113) rfl ?_
                            refine x_if_eq (tgt := 124) hC (zdk dk_X12_isOwn 59 rfl) (q := 116) rfl rfl (fun _ => ?_) (fun _ => ?_)
                            · refine x_weak (L' := [.null, .null, .null]) ⟨Or.inl rfl, Or.inl rfl, Or.inl rfl, trivial⟩ ?_
                              exact x_X12_isOwn_124 hC hE hk0 h_r0 _
                            · refine x_lload_n (i := 1) rfl hC (zdk dk_X12_isOwn 60 rfl) (q := 117) rfl ?_
                              refine x_ldc2 k_RX12_299 hC (zdk dk_X12_isOwn 61 rfl) (q := 120) rfl ?_
                              refine x_lcmp hC (zdk dk_X12_isOwn 62 rfl) (q := 121) rfl ?_
                              refine x_if_ne (tgt := 126) hC (zdk dk_X12_isOwn 63 rfl) (q := 124) rfl rfl (fun _ => ?_) (fun _ => ?_)
                              · refine x_lload_n (i := 1) rfl hC (zdk dk_X12_isOwn 66 rfl) (q := 127) rfl ?_
                                refine x_ldc2 k_RX12_301 hC (zdk dk_X12_isOwn 67 rfl) (q := 130) rfl ?_
                                refine x_lcmp hC (zdk dk_X12_isOwn 68 rfl) (q := 131) rfl ?_
                                refine x_if_eq (tgt := 166) hC (zdk dk_X12_isOwn 69 rfl) (q := 134) rfl rfl (fun _ => ?_) (fun _ => ?_)
                                · refine x_weak (L' := [.null, .null, .null]) ⟨Or.inl rfl, Or.inl rfl, Or.inl rfl, trivial⟩ ?_
                                  exact x_X12_isOwn_166 hC hE hk0 h_r0 _
                                · refine x_lload_n (i := 1) rfl hC (zdk dk_X12_isOwn 70 rfl) (q := 135) rfl ?_
                                  refine x_ldc2 k_RX12_303 hC (zdk dk_X12_isOwn 71 rfl) (q := 138) rfl ?_
                                  refine x_lcmp hC (zdk dk_X12_isOwn 72 rfl) (q := 139) rfl ?_
                                  refine x_if_eq (tgt := 166) hC (zdk dk_X12_isOwn 73 rfl) (q := 142) rfl rfl (fun _ => ?_) (fun _ => ?_)
                                  · refine x_weak (L' := [.null, .null, .null]) ⟨Or.inl rfl, Or.inl rfl, Or.inl rfl, trivial⟩ ?_
                                    exact x_X12_isOwn_166 hC hE hk0 h_r0 _
                                  · refine x_lload_n (i := 1) rfl hC (zdk dk_X12_isOwn 74 rfl) (q := 143) rfl ?_
                                    refine x_ldc2 k_RX12_305 hC (zdk dk_X12_isOwn 75 rfl) (q := 146) rfl ?_
                                    refine x_lcmp hC (zdk dk_X12_isOwn 76 rfl) (q := 147) rfl ?_
                                    refine x_if_eq (tgt := 166) hC (zdk dk_X12_isOwn 77 rfl) (q := 150) rfl rfl (fun _ => ?_) (fun _ => ?_)
                                    · refine x_weak (L' := [.null, .null, .null]) ⟨Or.inl rfl, Or.inl rfl, Or.inl rfl, trivial⟩ ?_
                                      exact x_X12_isOwn_166 hC hE hk0 h_r0 _
                                    · refine x_lload_n (i := 1) rfl hC (zdk dk_X12_isOwn 78 rfl) (q := 151) rfl ?_
                                      refine x_ldc2 k_RX12_307 hC (zdk dk_X12_isOwn 79 rfl) (q := 154) rfl ?_
                                      refine x_lcmp hC (zdk dk_X12_isOwn 80 rfl) (q := 155) rfl ?_
                                      refine x_if_eq (tgt := 166) hC (zdk dk_X12_isOwn 81 rfl) (q := 158) rfl rfl (fun _ => ?_) (fun _ => ?_)
                                      · refine x_weak (L' := [.null, .null, .null]) ⟨Or.inl rfl, Or.inl rfl, Or.inl rfl, trivial⟩ ?_
                                        exact x_X12_isOwn_166 hC hE hk0 h_r0 _
                                      · refine x_lload_n (i := 1) rfl hC (zdk dk_X12_isOwn 82 rfl) (q := 159) rfl ?_
                                        refine x_ldc2 k_RX12_309 hC (zdk dk_X12_isOwn 83 rfl) (q := 162) rfl ?_
                                        refine x_lcmp hC (zdk dk_X12_isOwn 84 rfl) (q := 163) rfl ?_
                                        refine x_if_ne (tgt := 168) hC (zdk dk_X12_isOwn 85 rfl) (q := 166) rfl rfl (fun _ => ?_) (fun _ => ?_)
                                        · refine x_lload_n (i := 1) rfl hC (zdk dk_X12_isOwn 88 rfl) (q := 169) rfl ?_
                                          refine x_ldc2 k_RX12_311 hC (zdk dk_X12_isOwn 89 rfl) (q := 172) rfl ?_
                                          refine x_lcmp hC (zdk dk_X12_isOwn 90 rfl) (q := 173) rfl ?_
                                          refine x_if_eq (tgt := 208) hC (zdk dk_X12_isOwn 91 rfl) (q := 176) rfl rfl (fun _ => ?_) (fun _ => ?_)
                                          · refine x_weak (L' := [.null, .null, .null]) ⟨Or.inl rfl, Or.inl rfl, Or.inl rfl, trivial⟩ ?_
                                            exact x_X12_isOwn_208 hC hE hk0 h_r0 _
                                          · refine x_lload_n (i := 1) rfl hC (zdk dk_X12_isOwn 92 rfl) (q := 177) rfl ?_
                                            refine x_ldc2 k_RX12_313 hC (zdk dk_X12_isOwn 93 rfl) (q := 180) rfl ?_
                                            refine x_lcmp hC (zdk dk_X12_isOwn 94 rfl) (q := 181) rfl ?_
                                            refine x_if_eq (tgt := 208) hC (zdk dk_X12_isOwn 95 rfl) (q := 184) rfl rfl (fun _ => ?_) (fun _ => ?_)
                                            · refine x_weak (L' := [.null, .null, .null]) ⟨Or.inl rfl, Or.inl rfl, Or.inl rfl, trivial⟩ ?_
                                              exact x_X12_isOwn_208 hC hE hk0 h_r0 _
                                            · refine x_lload_n (i := 1) rfl hC (zdk dk_X12_isOwn 96 rfl) (q := 185) rfl ?_
                                              refine x_ldc2 k_RX12_315 hC (zdk dk_X12_isOwn 97 rfl) (q := 188) rfl ?_
                                              refine x_lcmp hC (zdk dk_X12_isOwn 98 rfl) (q := 189) rfl ?_
                                              refine x_if_eq (tgt := 208) hC (zdk dk_X12_isOwn 99 rfl) (q := 192) rfl rfl (fun _ => ?_) (fun _ => ?_)
                                              · refine x_weak (L' := [.null, .null, .null]) ⟨Or.inl rfl, Or.inl rfl, Or.inl rfl, trivial⟩ ?_
                                                exact x_X12_isOwn_208 hC hE hk0 h_r0 _
                                              · refine x_lload_n (i := 1) rfl hC (zdk dk_X12_isOwn 100 rfl) (q := 193) rfl ?_
                                                refine x_ldc2 k_RX12_317 hC (zdk dk_X12_isOwn 101 rfl) (q := 196) rfl ?_
                                                refine x_lcmp hC (zdk dk_X12_isOwn 102 rfl) (q := 197) rfl ?_
                                                refine x_if_eq (tgt := 208) hC (zdk dk_X12_isOwn 103 rfl) (q := 200) rfl rfl (fun _ => ?_) (fun _ => ?_)
                                                · refine x_weak (L' := [.null, .null, .null]) ⟨Or.inl rfl, Or.inl rfl, Or.inl rfl, trivial⟩ ?_
                                                  exact x_X12_isOwn_208 hC hE hk0 h_r0 _
                                                · refine x_lload_n (i := 1) rfl hC (zdk dk_X12_isOwn 104 rfl) (q := 201) rfl ?_
                                                  refine x_ldc2 k_RX12_319 hC (zdk dk_X12_isOwn 105 rfl) (q := 204) rfl ?_
                                                  refine x_lcmp hC (zdk dk_X12_isOwn 106 rfl) (q := 205) rfl ?_
                                                  refine x_if_ne (tgt := 210) hC (zdk dk_X12_isOwn 107 rfl) (q := 208) rfl rfl (fun _ => ?_) (fun _ => ?_)
                                                  · refine x_lload_n (i := 1) rfl hC (zdk dk_X12_isOwn 110 rfl) (q := 211) rfl ?_
                                                    refine x_ldc2 k_RX12_321 hC (zdk dk_X12_isOwn 111 rfl) (q := 214) rfl ?_
                                                    refine x_lcmp hC (zdk dk_X12_isOwn 112 rfl) (q := 215) rfl ?_
                                                    refine x_if_eq (tgt := 226) hC (zdk dk_X12_isOwn 113 rfl) (q := 218) rfl rfl (fun _ => ?_) (fun _ => ?_)
                                                    · refine x_weak (L' := [.null, .null, .null]) ⟨Or.inl rfl, Or.inl rfl, Or.inl rfl, trivial⟩ ?_
                                                      exact x_X12_isOwn_226 hC hE hk0 h_r0 _
                                                    · refine x_lload_n (i := 1) rfl hC (zdk dk_X12_isOwn 114 rfl) (q := 219) rfl ?_
                                                      refine x_ldc2 k_RX12_323 hC (zdk dk_X12_isOwn 115 rfl) (q := 222) rfl ?_
                                                      refine x_lcmp hC (zdk dk_X12_isOwn 116 rfl) (q := 223) rfl ?_
                                                      refine x_if_ne (tgt := 228) hC (zdk dk_X12_isOwn 117 rfl) (q := 226) rfl rfl (fun _ => ?_) (fun _ => ?_)
                                                      · refine x_iconst (i := 0) c_iconst_0 hC (zdk dk_X12_isOwn 120 rfl) (q := 229) rfl ?_
                                                        exact x_iret (ty := .boolean) rfl hE hC (zdk dk_X12_isOwn 121 rfl)
                                                      · refine x_weak (L' := [.null, .null, .null]) ⟨Or.inl rfl, Or.inl rfl, Or.inl rfl, trivial⟩ ?_
                                                        exact x_X12_isOwn_226 hC hE hk0 h_r0 _
                                                  · refine x_weak (L' := [.null, .null, .null]) ⟨Or.inl rfl, Or.inl rfl, Or.inl rfl, trivial⟩ ?_
                                                    exact x_X12_isOwn_208 hC hE hk0 h_r0 _
                                        · refine x_weak (L' := [.null, .null, .null]) ⟨Or.inl rfl, Or.inl rfl, Or.inl rfl, trivial⟩ ?_
                                          exact x_X12_isOwn_166 hC hE hk0 h_r0 _
                              · refine x_weak (L' := [.null, .null, .null]) ⟨Or.inl rfl, Or.inl rfl, Or.inl rfl, trivial⟩ ?_
                                exact x_X12_isOwn_124 hC hE hk0 h_r0 _
                    · refine x_weak (L' := [.null, .null, .null]) ⟨Or.inl rfl, Or.inl rfl, Or.inl rfl, trivial⟩ ?_
                      exact x_X12_isOwn_82 hC hE hk0 h_r0 _
          · refine x_weak (L' := [.null, .null, .null]) ⟨Or.inl rfl, Or.inl rfl, Or.inl rfl, trivial⟩ ?_
            exact x_X12_isOwn_40 hC hE hk0 h_r0 _
set_option maxRecDepth 100000 in
set_option maxHeartbeats 4000000 in
theorem t_X12_isOwn {n : Nat} {r0 : Nat} {y1 : Int64} {M : Mem} (h_r0 : zO n r0 12) (x : (Int32 × Mem)) (hx : f_X12_isOwn r0 y1 M = some x) (l : Launch) (dC : Nat → ClassId) (dI : Nat → Nat → Nat) (b : zSg) : MT l dC dI b yX12_isOwn cX12_isOwn 3 (some .boolean) 0 0 0 n n [.ref r0, .long y1] M (emI x).1 (emI x).2 :=
  MT.ofX (by decide +kernel) rfl (Nat.le_of_ble_eq_true rfl) (fun κ hC hF _ => x_X12_isOwn hC (zEnd_of hF (Nat.le_refl _) (Nat.le_refl _)) (zRk_of hF (Nat.le_refl _) (Nat.le_refl _)) _ _ _ h_r0) x hx
set_option maxRecDepth 100000 in
def dt_X12_pageNamed : List (Nat × Instr × Nat) := [(0, .iconst 0, 1), (1, .istore_n 3, 1), (2, .iload_n 3, 1), (3, .aload_n 0, 1), (4, .getfield 57, 3), (7, .aload_n 0, 1), (8, .getfield 79, 3), (11, .iaload, 1), (12, .if_icmp .ge 30, 3), (15, .aload_n 0, 1), (16, .getfield 72, 3), (19, .bipush 6, 2), (21, .aload_n 0, 1), (22, .getfield 79, 3), (25, .imul, 1), (26, .iload_n 3, 1), (27, .iadd, 1), (28, .laload, 1), (29, .lload_n 1, 1), (30, .lcmp, 1), (31, .ifCond .ne 5, 3), (34, .iload_n 3, 1), (35, .ireturn, 1), (36, .iinc 3 1, 3), (39, .goto (-37), 3), (42, .iconst (-1), 1), (43, .ireturn, 1)]
set_option maxRecDepth 100000 in
theorem dk_X12_pageNamed : dt_X12_pageNamed.all (fun q => decide (decode cX12_pageNamed q.1 = .ok q.2)) = true := by decide +kernel
set_option maxRecDepth 100000 in
def f_X12_pageNamed_2  (r0 : Nat) (y1 : Int64) : Nat → Int32 → Mem → Option (Int32 × Mem)
  | 0, _, _ => none
  | f + 1, x3, M => Option.bind (zrf M r0 15) fun q1 => Option.bind (zld q1 (zI M r0 22)) fun k2 => (if zI M q1 k2 ≤ x3 then some ((-1), M) else Option.bind (zrf M r0 20) fun q3 => Option.bind (zld q3 ((6 * (zI M r0 22)) + x3)) fun k4 => (if lg_cmp (zL M q3 k4) y1 = 0 then some (x3, M) else (f_X12_pageNamed_2 r0 y1 f) (x3 + 1) M))
set_option maxRecDepth 100000 in
set_option maxHeartbeats 4000000 in
theorem x_X12_pageNamed_2 {κ : KX} {n : Nat} (hC : CX κ cX12_pageNamed RX12 4 (some .int) 0) (hE : zEnd κ n (0, 0)) (hk0 : zRk κ (0, 0)) {r0 : Nat} {y1 : Int64} (h_r0 : zO n r0 12) : ∀ (f : Nat) (x3 : Int32) (M : Mem), X κ 4 emI n (0, 0) 2 [.ref r0, .long y1, .null, .int x3] [] M (f_X12_pageNamed_2 r0 y1 f x3 M) := by
  intro f
  induction f with
  | zero => intros; exact x_none
  | succ f ih =>
    intro x3 M 
    rw [f_X12_pageNamed_2]
    refine x_iload_n (i := 3) rfl hC (zdk dk_X12_pageNamed 2 rfl) (q := 3) rfl ?_
    refine x_aload_n (i := 0) rfl hC (zdk dk_X12_pageNamed 3 rfl) (q := 4) rfl ?_
    refine x_getR (k := 20) fl_RX12_57 rfl h_r0 hC (zdk dk_X12_pageNamed 4 rfl) (q := 7) rfl (fun q1 hq1 => ?_)
    refine x_aload_n (i := 0) rfl hC (zdk dk_X12_pageNamed 5 rfl) (q := 8) rfl ?_
    refine x_getI fl_RX12_79 (by decide) h_r0 hC (zdk dk_X12_pageNamed 6 rfl) (q := 11) rfl ?_
    refine x_iald hq1 hC (zdk dk_X12_pageNamed 7 rfl) (q := 12) rfl (fun k2 _ => ?_)
    refine x_icmp_ge (tgt := 42) hC (zdk dk_X12_pageNamed 8 rfl) (q := 15) rfl rfl (fun _ => ?_) (fun _ => ?_)
    · refine x_iconst (i := (-1)) c_iconst_m1 hC (zdk dk_X12_pageNamed 25 rfl) (q := 43) rfl ?_
      exact x_iret (ty := .int) rfl hE hC (zdk dk_X12_pageNamed 26 rfl)
    · refine x_aload_n (i := 0) rfl hC (zdk dk_X12_pageNamed 9 rfl) (q := 16) rfl ?_
      refine x_getR (k := 21) fl_RX12_72 rfl h_r0 hC (zdk dk_X12_pageNamed 10 rfl) (q := 19) rfl (fun q3 hq3 => ?_)
      refine x_bipush (i := 6) c_bipush_6 hC (zdk dk_X12_pageNamed 11 rfl) (q := 21) rfl ?_
      refine x_aload_n (i := 0) rfl hC (zdk dk_X12_pageNamed 12 rfl) (q := 22) rfl ?_
      refine x_getI fl_RX12_79 (by decide) h_r0 hC (zdk dk_X12_pageNamed 13 rfl) (q := 25) rfl ?_
      refine x_imul hC (zdk dk_X12_pageNamed 14 rfl) (q := 26) rfl ?_
      refine x_iload_n (i := 3) rfl hC (zdk dk_X12_pageNamed 15 rfl) (q := 27) rfl ?_
      refine x_iadd hC (zdk dk_X12_pageNamed 16 rfl) (q := 28) rfl ?_
      refine x_lald hq3 hC (zdk dk_X12_pageNamed 17 rfl) (q := 29) rfl (fun k4 _ => ?_)
      refine x_lload_n (i := 1) rfl hC (zdk dk_X12_pageNamed 18 rfl) (q := 30) rfl ?_
      refine x_lcmp hC (zdk dk_X12_pageNamed 19 rfl) (q := 31) rfl ?_
      refine x_if_ne (tgt := 36) hC (zdk dk_X12_pageNamed 20 rfl) (q := 34) rfl rfl (fun _ => ?_) (fun _ => ?_)
      · refine x_iinc (i := 3) c_iconst_1 rfl (by decide) (L' := [.ref r0, .long y1, .null, .int (x3 + 1)]) rfl hC (zdk dk_X12_pageNamed 23 rfl) (q := 39) rfl ?_
        refine x_goto (tgt := 2) hC (zdk dk_X12_pageNamed 24 rfl) rfl ?_
        refine x_weak (L' := [.ref r0, .long y1, .null, .int (x3 + 1)]) ⟨Or.inr rfl, Or.inr rfl, Or.inl rfl, Or.inr rfl, trivial⟩ ?_
        exact ih _ _
      · refine x_iload_n (i := 3) rfl hC (zdk dk_X12_pageNamed 21 rfl) (q := 35) rfl ?_
        exact x_iret (ty := .int) rfl hE hC (zdk dk_X12_pageNamed 22 rfl)
set_option maxRecDepth 100000 in
def f_X12_pageNamed (r0 : Nat) (y1 : Int64) (M : Mem) : Option (Int32 × Mem) := f_X12_pageNamed_2 r0 y1 1000000 0 M
set_option maxRecDepth 100000 in
set_option maxHeartbeats 4000000 in
theorem x_X12_pageNamed {κ : KX} {n : Nat} (hC : CX κ cX12_pageNamed RX12 4 (some .int) 0) (hE : zEnd κ n (0, 0)) (hk0 : zRk κ (0, 0)) (r0 : Nat) (y1 : Int64) (M : Mem) (h_r0 : zO n r0 12) : X κ 4 emI n (0, 0) 0 [.ref r0, .long y1, .null, .null] [] M (f_X12_pageNamed r0 y1 M) := by
  unfold f_X12_pageNamed
  refine x_iconst (i := 0) c_iconst_0 hC (zdk dk_X12_pageNamed 0 rfl) (q := 1) rfl ?_
  refine x_istore_n (i := 3) (L' := [.ref r0, .long y1, .null, .int 0]) (by decide) rfl hC (zdk dk_X12_pageNamed 1 rfl) (q := 2) rfl ?_
  refine x_weak (L' := [.ref r0, .long y1, .null, .int 0]) ⟨Or.inr rfl, Or.inr rfl, Or.inl rfl, Or.inr rfl, trivial⟩ ?_
  exact x_X12_pageNamed_2 hC hE hk0 h_r0 _ _ _
set_option maxRecDepth 100000 in
set_option maxHeartbeats 4000000 in
theorem t_X12_pageNamed {n : Nat} {r0 : Nat} {y1 : Int64} {M : Mem} (h_r0 : zO n r0 12) (x : (Int32 × Mem)) (hx : f_X12_pageNamed r0 y1 M = some x) (l : Launch) (dC : Nat → ClassId) (dI : Nat → Nat → Nat) (b : zSg) : MT l dC dI b yX12_pageNamed cX12_pageNamed 4 (some .int) 0 0 0 n n [.ref r0, .long y1] M (emI x).1 (emI x).2 :=
  MT.ofX (by decide +kernel) rfl (Nat.le_of_ble_eq_true rfl) (fun κ hC hF _ => x_X12_pageNamed hC (zEnd_of hF (Nat.le_refl _) (Nat.le_refl _)) (zRk_of hF (Nat.le_refl _) (Nat.le_refl _)) _ _ _ h_r0) x hx
set_option maxRecDepth 100000 in
def dt_X12_number : List (Nat × Instr × Nat) := [(0, .aload_n 0, 1), (1, .invokevirtual 262, 3), (4, .aload_n 0, 1), (5, .getfield 36, 3), (8, .ifCond .le 5, 3), (11, .iconst 0, 1), (12, .ireturn, 1), (13, .aload_n 0, 1), (14, .getfield 20, 3), (17, .iconst 2, 1), (18, .if_icmp .eq 12, 3), (21, .aload_n 0, 1), (22, .iconst 1, 1), (23, .aload_n 0, 1), (24, .getfield 23, 3), (27, .invokevirtual 251, 3), (30, .aload_n 0, 1), (31, .getfield 36, 3), (34, .ifCond .ne 24, 3), (37, .aload_n 0, 1), (38, .getfield 29, 3), (41, .iload_n 1, 1), (42, .iload_n 2, 1), (43, .invokestatic 325, 3), (46, .ifCond .ne 12, 3), (49, .aload_n 0, 1), (50, .iconst 4, 1), (51, .aload_n 0, 1), (52, .getfield 23, 3), (55, .invokevirtual 251, 3), (58, .aload_n 0, 1), (59, .getfield 29, 3), (62, .istore_n 3, 1), (63, .aload_n 0, 1), (64, .getfield 36, 3), (67, .ifCond .ne 7, 3), (70, .aload_n 0, 1), (71, .invokevirtual 268, 3), (74, .iload_n 3, 1), (75, .ireturn, 1)]
set_option maxRecDepth 100000 in
theorem dk_X12_number : dt_X12_number.all (fun q => decide (decode cX12_number q.1 = .ok q.2)) = true := by decide +kernel
set_option maxRecDepth 100000 in
def f_X12_number_74  (r0 : Nat) (x1 : Int32) (x2 : Int32) (x3 : Int32) (M : Mem) : Option (Int32 × Mem) := some (x3, M)
set_option maxRecDepth 100000 in
set_option maxHeartbeats 4000000 in
theorem x_X12_number_74 {κ : KX} {n : Nat} (hC : CX κ cX12_number RX12 4 (some .int) 2) (hE : zEnd κ n (0, 0)) (hk0 : zRk κ (0, 0)) {r0 : Nat} {x1 : Int32} {x2 : Int32} (h_r0 : zO n r0 12) (x3 : Int32) (M : Mem) : X κ 4 emI n (0, 0) 74 [.null, .null, .null, .int x3] [] M (f_X12_number_74 r0 x1 x2 x3 M) := by
  unfold f_X12_number_74
  refine x_iload_n (i := 3) rfl hC (zdk dk_X12_number 38 rfl) (q := 75) rfl ?_
  exact x_iret (ty := .int) rfl hE hC (zdk dk_X12_number 39 rfl)
set_option maxRecDepth 100000 in
def f_X12_number_58  (r0 : Nat) (x1 : Int32) (x2 : Int32)  (M : Mem) : Option (Int32 × Mem) := (if zI M r0 8 = 0 then Option.bind (f_X12_ahead r0 M) fun M1 => f_X12_number_74 r0 x1 x2 (zI M r0 6) M1 else f_X12_number_74 r0 x1 x2 (zI M r0 6) M)
set_option maxRecDepth 100000 in
set_option maxHeartbeats 4000000 in
theorem x_X12_number_58 {κ : KX} {n : Nat} (hC : CX κ cX12_number RX12 4 (some .int) 2) (hE : zEnd κ n (0, 0)) (hk0 : zRk κ (0, 0)) {r0 : Nat} {x1 : Int32} {x2 : Int32} (h_r0 : zO n r0 12) (M : Mem) : X κ 4 emI n (0, 0) 58 [.ref r0, .null, .null, .null] [] M (f_X12_number_58 r0 x1 x2 M) := by
  unfold f_X12_number_58
  refine x_aload_n (i := 0) rfl hC (zdk dk_X12_number 30 rfl) (q := 59) rfl ?_
  refine x_getI fl_RX12_29 (by decide) h_r0 hC (zdk dk_X12_number 31 rfl) (q := 62) rfl ?_
  refine x_istore_n (i := 3) (L' := [.ref r0, .null, .null, .int (zI M r0 6)]) (by decide) rfl hC (zdk dk_X12_number 32 rfl) (q := 63) rfl ?_
  refine x_aload_n (i := 0) rfl hC (zdk dk_X12_number 33 rfl) (q := 64) rfl ?_
  refine x_getI fl_RX12_36 (by decide) h_r0 hC (zdk dk_X12_number 34 rfl) (q := 67) rfl ?_
  refine x_if_ne (tgt := 74) hC (zdk dk_X12_number 35 rfl) (q := 70) rfl rfl (fun _ => ?_) (fun _ => ?_)
  · refine x_weak (L' := [.null, .null, .null, .int (zI M r0 6)]) ⟨Or.inl rfl, Or.inl rfl, Or.inl rfl, Or.inr rfl, trivial⟩ ?_
    exact x_X12_number_74 hC hE hk0 h_r0 _ _
  · refine x_aload_n (i := 0) rfl hC (zdk dk_X12_number 36 rfl) (q := 71) rfl ?_
    refine x_callVv (as := []) cb_RX12_268 rfl (by decide) hk0 h_r0 (fun x hx => t_X12_ahead h_r0 x hx) hC (zdk dk_X12_number 37 rfl) (q := 74) rfl rfl (Nat.le_of_ble_eq_true rfl) (fun M1 => ?_)
    refine x_weak (L' := [.null, .null, .null, .int (zI M r0 6)]) ⟨Or.inl rfl, Or.inl rfl, Or.inl rfl, Or.inr rfl, trivial⟩ ?_
    exact x_X12_number_74 hC hE hk0 h_r0 _ _
set_option maxRecDepth 100000 in
def f_X12_number_30  (r0 : Nat) (x1 : Int32) (x2 : Int32)  (M : Mem) : Option (Int32 × Mem) := (if zI M r0 8 = 0 then Option.bind (f_X12_is (zI M r0 6) x1 x2 M) fun z2 => (if z2.1 = 0 then Option.bind (f_X12_blame r0 4 (zI z2.2 r0 4) z2.2) fun M3 => f_X12_number_58 r0 x1 x2 M3 else f_X12_number_58 r0 x1 x2 z2.2) else f_X12_number_58 r0 x1 x2 M)
set_option maxRecDepth 100000 in
set_option maxHeartbeats 4000000 in
theorem x_X12_number_30 {κ : KX} {n : Nat} (hC : CX κ cX12_number RX12 4 (some .int) 2) (hE : zEnd κ n (0, 0)) (hk0 : zRk κ (0, 0)) {r0 : Nat} {x1 : Int32} {x2 : Int32} (h_r0 : zO n r0 12) (M : Mem) : X κ 4 emI n (0, 0) 30 [.ref r0, .int x1, .int x2, .null] [] M (f_X12_number_30 r0 x1 x2 M) := by
  unfold f_X12_number_30
  refine x_aload_n (i := 0) rfl hC (zdk dk_X12_number 16 rfl) (q := 31) rfl ?_
  refine x_getI fl_RX12_36 (by decide) h_r0 hC (zdk dk_X12_number 17 rfl) (q := 34) rfl ?_
  refine x_if_ne (tgt := 58) hC (zdk dk_X12_number 18 rfl) (q := 37) rfl rfl (fun _ => ?_) (fun _ => ?_)
  · refine x_weak (L' := [.ref r0, .null, .null, .null]) ⟨Or.inr rfl, Or.inl rfl, Or.inl rfl, Or.inl rfl, trivial⟩ ?_
    exact x_X12_number_58 hC hE hk0 h_r0 _
  · refine x_aload_n (i := 0) rfl hC (zdk dk_X12_number 19 rfl) (q := 38) rfl ?_
    refine x_getI fl_RX12_29 (by decide) h_r0 hC (zdk dk_X12_number 20 rfl) (q := 41) rfl ?_
    refine x_iload_n (i := 1) rfl hC (zdk dk_X12_number 21 rfl) (q := 42) rfl ?_
    refine x_iload_n (i := 2) rfl hC (zdk dk_X12_number 22 rfl) (q := 43) rfl ?_
    refine x_callSi (as := [.int (zI M r0 6), .int x1, .int x2]) cb_RX12_325 rfl (by decide) hk0 (fun x hx => t_X12_is  x hx) hC (zdk dk_X12_number 23 rfl) (q := 46) rfl rfl (Nat.le_of_ble_eq_true rfl) (fun z2 => ?_)
    refine x_if_ne (tgt := 58) hC (zdk dk_X12_number 24 rfl) (q := 49) rfl rfl (fun _ => ?_) (fun _ => ?_)
    · refine x_weak (L' := [.ref r0, .null, .null, .null]) ⟨Or.inr rfl, Or.inl rfl, Or.inl rfl, Or.inl rfl, trivial⟩ ?_
      exact x_X12_number_58 hC hE hk0 h_r0 _
    · refine x_aload_n (i := 0) rfl hC (zdk dk_X12_number 25 rfl) (q := 50) rfl ?_
      refine x_iconst (i := 4) c_iconst_4 hC (zdk dk_X12_number 26 rfl) (q := 51) rfl ?_
      refine x_aload_n (i := 0) rfl hC (zdk dk_X12_number 27 rfl) (q := 52) rfl ?_
      refine x_getI fl_RX12_23 (by decide) h_r0 hC (zdk dk_X12_number 28 rfl) (q := 55) rfl ?_
      refine x_callVv (as := [.int 4, .int (zI z2.2 r0 4)]) cb_RX12_251 rfl (by decide) hk0 h_r0 (fun x hx => t_X12_blame h_r0 x hx) hC (zdk dk_X12_number 29 rfl) (q := 58) rfl rfl (Nat.le_of_ble_eq_true rfl) (fun M3 => ?_)
      refine x_weak (L' := [.ref r0, .null, .null, .null]) ⟨Or.inr rfl, Or.inl rfl, Or.inl rfl, Or.inl rfl, trivial⟩ ?_
      exact x_X12_number_58 hC hE hk0 h_r0 _
set_option maxRecDepth 100000 in
def f_X12_number (r0 : Nat) (x1 : Int32) (x2 : Int32) (M : Mem) : Option (Int32 × Mem) := Option.bind (f_X12_lex r0 M) fun M4 => (if zI M4 r0 8 ≤ 0 then (if zI M4 r0 3 = 2 then f_X12_number_30 r0 x1 x2 M4 else Option.bind (f_X12_blame r0 1 (zI M4 r0 4) M4) fun M5 => f_X12_number_30 r0 x1 x2 M5) else some (0, M4))
set_option maxRecDepth 100000 in
set_option maxHeartbeats 4000000 in
theorem x_X12_number {κ : KX} {n : Nat} (hC : CX κ cX12_number RX12 4 (some .int) 2) (hE : zEnd κ n (0, 0)) (hk0 : zRk κ (0, 0)) (r0 : Nat) (x1 : Int32) (x2 : Int32) (M : Mem) (h_r0 : zO n r0 12) : X κ 4 emI n (0, 0) 0 [.ref r0, .int x1, .int x2, .null] [] M (f_X12_number r0 x1 x2 M) := by
  unfold f_X12_number
  refine x_aload_n (i := 0) rfl hC (zdk dk_X12_number 0 rfl) (q := 1) rfl ?_
  refine x_callVv (as := []) cb_RX12_262 rfl (by decide) hk0 h_r0 (fun x hx => t_X12_lex h_r0 x hx) hC (zdk dk_X12_number 1 rfl) (q := 4) rfl rfl (Nat.le_of_ble_eq_true rfl) (fun M4 => ?_)
  refine x_aload_n (i := 0) rfl hC (zdk dk_X12_number 2 rfl) (q := 5) rfl ?_
  refine x_getI fl_RX12_36 (by decide) h_r0 hC (zdk dk_X12_number 3 rfl) (q := 8) rfl ?_
  refine x_if_le (tgt := 13) hC (zdk dk_X12_number 4 rfl) (q := 11) rfl rfl (fun _ => ?_) (fun _ => ?_)
  · refine x_aload_n (i := 0) rfl hC (zdk dk_X12_number 7 rfl) (q := 14) rfl ?_
    refine x_getI fl_RX12_20 (by decide) h_r0 hC (zdk dk_X12_number 8 rfl) (q := 17) rfl ?_
    refine x_iconst (i := 2) c_iconst_2 hC (zdk dk_X12_number 9 rfl) (q := 18) rfl ?_
    refine x_icmp_eq (tgt := 30) hC (zdk dk_X12_number 10 rfl) (q := 21) rfl rfl (fun _ => ?_) (fun _ => ?_)
    · refine x_weak (L' := [.ref r0, .int x1, .int x2, .null]) ⟨Or.inr rfl, Or.inr rfl, Or.inr rfl, Or.inl rfl, trivial⟩ ?_
      exact x_X12_number_30 hC hE hk0 h_r0 _
    · refine x_aload_n (i := 0) rfl hC (zdk dk_X12_number 11 rfl) (q := 22) rfl ?_
      refine x_iconst (i := 1) c_iconst_1 hC (zdk dk_X12_number 12 rfl) (q := 23) rfl ?_
      refine x_aload_n (i := 0) rfl hC (zdk dk_X12_number 13 rfl) (q := 24) rfl ?_
      refine x_getI fl_RX12_23 (by decide) h_r0 hC (zdk dk_X12_number 14 rfl) (q := 27) rfl ?_
      refine x_callVv (as := [.int 1, .int (zI M4 r0 4)]) cb_RX12_251 rfl (by decide) hk0 h_r0 (fun x hx => t_X12_blame h_r0 x hx) hC (zdk dk_X12_number 15 rfl) (q := 30) rfl rfl (Nat.le_of_ble_eq_true rfl) (fun M5 => ?_)
      refine x_weak (L' := [.ref r0, .int x1, .int x2, .null]) ⟨Or.inr rfl, Or.inr rfl, Or.inr rfl, Or.inl rfl, trivial⟩ ?_
      exact x_X12_number_30 hC hE hk0 h_r0 _
  · refine x_iconst (i := 0) c_iconst_0 hC (zdk dk_X12_number 5 rfl) (q := 12) rfl ?_
    exact x_iret (ty := .int) rfl hE hC (zdk dk_X12_number 6 rfl)
set_option maxRecDepth 100000 in
set_option maxHeartbeats 4000000 in
theorem t_X12_number {n : Nat} {r0 : Nat} {x1 : Int32} {x2 : Int32} {M : Mem} (h_r0 : zO n r0 12) (x : (Int32 × Mem)) (hx : f_X12_number r0 x1 x2 M = some x) (l : Launch) (dC : Nat → ClassId) (dI : Nat → Nat → Nat) (b : zSg) : MT l dC dI b yX12_number cX12_number 4 (some .int) 2 0 0 n n [.ref r0, .int x1, .int x2] M (emI x).1 (emI x).2 :=
  MT.ofX (by decide +kernel) rfl (Nat.le_of_ble_eq_true rfl) (fun κ hC hF _ => x_X12_number hC (zEnd_of hF (Nat.le_refl _) (Nat.le_refl _)) (zRk_of hF (Nat.le_refl _) (Nat.le_refl _)) _ _ _ _ h_r0) x hx
set_option maxRecDepth 100000 in
def dt_X12_add : List (Nat × Instr × Nat) := [(0, .aload_n 0, 1), (1, .getfield 66, 3), (4, .sipush 1600, 3), (7, .aload_n 0, 1), (8, .getfield 79, 3), (11, .imul, 1), (12, .aload_n 0, 1), (13, .getfield 76, 3), (16, .iadd, 1), (17, .iload_n 1, 1), (18, .iastore, 1), (19, .aload_n 0, 1), (20, .getfield 69, 3), (23, .sipush 1600, 3), (26, .aload_n 0, 1), (27, .getfield 79, 3), (30, .imul, 1), (31, .aload_n 0, 1), (32, .getfield 76, 3), (35, .iadd, 1), (36, .iload_n 2, 1), (37, .iastore, 1), (38, .aload_n 0, 1), (39, .dup, 1), (40, .getfield 76, 3), (43, .iconst 1, 1), (44, .iadd, 1), (45, .putfield 76, 3), (48, .return_, 1)]
set_option maxRecDepth 100000 in
theorem dk_X12_add : dt_X12_add.all (fun q => decide (decode cX12_add q.1 = .ok q.2)) = true := by decide +kernel
set_option maxRecDepth 100000 in
def f_X12_add (r0 : Nat) (x1 : Int32) (x2 : Int32) (M : Mem) : Option Mem := Option.bind (zrf M r0 18) fun q1 => Option.bind (zld q1 ((1600 * (zI M r0 22)) + (zI M r0 21))) fun k2 => Option.bind (some (zsI M q1 k2 x1)) fun M3 => Option.bind (zrf M3 r0 19) fun q4 => Option.bind (zld q4 ((1600 * (zI M3 r0 22)) + (zI M3 r0 21))) fun k5 => Option.bind (some (zsI M3 q4 k5 x2)) fun M6 => Option.bind (some (zsI M6 r0 21 ((zI M6 r0 21) + 1))) fun M7 => some M7
set_option maxRecDepth 100000 in
set_option maxHeartbeats 4000000 in
theorem x_X12_add {κ : KX} {n : Nat} (hC : CX κ cX12_add RX12 3 none 0) (hE : zEnd κ n (0, 0)) (hk0 : zRk κ (0, 0)) (r0 : Nat) (x1 : Int32) (x2 : Int32) (M : Mem) (h_r0 : zO n r0 12) : X κ 3 emV n (0, 0) 0 [.ref r0, .int x1, .int x2] [] M (f_X12_add r0 x1 x2 M) := by
  unfold f_X12_add
  refine x_aload_n (i := 0) rfl hC (zdk dk_X12_add 0 rfl) (q := 1) rfl ?_
  refine x_getR (k := 20) fl_RX12_66 rfl h_r0 hC (zdk dk_X12_add 1 rfl) (q := 4) rfl (fun q1 hq1 => ?_)
  refine x_sipush (i := 1600) c_sipush_1600 hC (zdk dk_X12_add 2 rfl) (q := 7) rfl ?_
  refine x_aload_n (i := 0) rfl hC (zdk dk_X12_add 3 rfl) (q := 8) rfl ?_
  refine x_getI fl_RX12_79 (by decide) h_r0 hC (zdk dk_X12_add 4 rfl) (q := 11) rfl ?_
  refine x_imul hC (zdk dk_X12_add 5 rfl) (q := 12) rfl ?_
  refine x_aload_n (i := 0) rfl hC (zdk dk_X12_add 6 rfl) (q := 13) rfl ?_
  refine x_getI fl_RX12_76 (by decide) h_r0 hC (zdk dk_X12_add 7 rfl) (q := 16) rfl ?_
  refine x_iadd hC (zdk dk_X12_add 8 rfl) (q := 17) rfl ?_
  refine x_iload_n (i := 1) rfl hC (zdk dk_X12_add 9 rfl) (q := 18) rfl ?_
  refine x_iast hq1 hC (zdk dk_X12_add 10 rfl) (q := 19) rfl (fun k2 _ => ?_)
  refine x_nmM (fun M3 => ?_)
  refine x_aload_n (i := 0) rfl hC (zdk dk_X12_add 11 rfl) (q := 20) rfl ?_
  refine x_getR (k := 20) fl_RX12_69 rfl h_r0 hC (zdk dk_X12_add 12 rfl) (q := 23) rfl (fun q4 hq4 => ?_)
  refine x_sipush (i := 1600) c_sipush_1600 hC (zdk dk_X12_add 13 rfl) (q := 26) rfl ?_
  refine x_aload_n (i := 0) rfl hC (zdk dk_X12_add 14 rfl) (q := 27) rfl ?_
  refine x_getI fl_RX12_79 (by decide) h_r0 hC (zdk dk_X12_add 15 rfl) (q := 30) rfl ?_
  refine x_imul hC (zdk dk_X12_add 16 rfl) (q := 31) rfl ?_
  refine x_aload_n (i := 0) rfl hC (zdk dk_X12_add 17 rfl) (q := 32) rfl ?_
  refine x_getI fl_RX12_76 (by decide) h_r0 hC (zdk dk_X12_add 18 rfl) (q := 35) rfl ?_
  refine x_iadd hC (zdk dk_X12_add 19 rfl) (q := 36) rfl ?_
  refine x_iload_n (i := 2) rfl hC (zdk dk_X12_add 20 rfl) (q := 37) rfl ?_
  refine x_iast hq4 hC (zdk dk_X12_add 21 rfl) (q := 38) rfl (fun k5 _ => ?_)
  refine x_nmM (fun M6 => ?_)
  refine x_aload_n (i := 0) rfl hC (zdk dk_X12_add 22 rfl) (q := 39) rfl ?_
  refine x_dup rfl hC (zdk dk_X12_add 23 rfl) (q := 40) rfl ?_
  refine x_getI fl_RX12_76 (by decide) h_r0 hC (zdk dk_X12_add 24 rfl) (q := 43) rfl ?_
  refine x_iconst (i := 1) c_iconst_1 hC (zdk dk_X12_add 25 rfl) (q := 44) rfl ?_
  refine x_iadd hC (zdk dk_X12_add 26 rfl) (q := 45) rfl ?_
  refine x_putI fl_RX12_76 ⟨rfl, rfl⟩ (by decide) (Or.inl rfl) h_r0 hC (zdk dk_X12_add 27 rfl) (q := 48) rfl ?_
  refine x_nmM (fun M7 => ?_)
  exact x_vret hE hC (zdk dk_X12_add 28 rfl)
set_option maxRecDepth 100000 in
set_option maxHeartbeats 4000000 in
theorem t_X12_add {n : Nat} {r0 : Nat} {x1 : Int32} {x2 : Int32} {M : Mem} (h_r0 : zO n r0 12) (x : Mem) (hx : f_X12_add r0 x1 x2 M = some x) (l : Launch) (dC : Nat → ClassId) (dI : Nat → Nat → Nat) (b : zSg) : MT l dC dI b yX12_add cX12_add 3 none 0 0 0 n n [.ref r0, .int x1, .int x2] M (emV x).1 (emV x).2 :=
  MT.ofX (by decide +kernel) rfl (Nat.le_of_ble_eq_true rfl) (fun κ hC hF _ => x_X12_add hC (zEnd_of hF (Nat.le_refl _) (Nat.le_refl _)) (zRk_of hF (Nat.le_refl _) (Nat.le_refl _)) _ _ _ _ h_r0) x hx
set_option maxRecDepth 100000 in
def dt_X12_rank : List (Nat × Instr × Nat) := [(0, .iload_n 0, 1), (1, .bipush 42, 2), (3, .if_icmp .ne 7, 3), (6, .iconst 1, 1), (7, .goto 63, 3), (10, .iload_n 0, 1), (11, .bipush 41, 2), (13, .if_icmp .ne 7, 3), (16, .iconst 2, 1), (17, .goto 53, 3), (20, .iload_n 0, 1), (21, .bipush 43, 2), (23, .if_icmp .ne 7, 3), (26, .iconst 3, 1), (27, .goto 43, 3), (30, .iload_n 0, 1), (31, .bipush 38, 2), (33, .if_icmp .eq 15, 3), (36, .iload_n 0, 1), (37, .bipush 39, 2), (39, .if_icmp .eq 9, 3), (42, .iload_n 0, 1), (43, .bipush 40, 2), (45, .if_icmp .ne 7, 3), (48, .iconst 4, 1), (49, .goto 21, 3), (52, .iload_n 0, 1), (53, .bipush 31, 2), (55, .if_icmp .eq 9, 3), (58, .iload_n 0, 1), (59, .bipush 32, 2), (61, .if_icmp .ne 7, 3), (64, .iconst 5, 1), (65, .goto 5, 3), (68, .bipush 6, 2), (70, .ireturn, 1)]
set_option maxRecDepth 100000 in
theorem dk_X12_rank : dt_X12_rank.all (fun q => decide (decode cX12_rank q.1 = .ok q.2)) = true := by decide +kernel
set_option maxRecDepth 100000 in
def f_X12_rank_70  (x0 : Int32) (s0 : Int32) (M : Mem) : Option (Int32 × Mem) := some (s0, M)
set_option maxRecDepth 100000 in
set_option maxHeartbeats 4000000 in
theorem x_X12_rank_70 {κ : KX} {n : Nat} (hC : CX κ cX12_rank RX12 1 (some .int) 0) (hE : zEnd κ n (0, 0)) (hk0 : zRk κ (0, 0)) {x0 : Int32} (s0 : Int32) (M : Mem) : X κ 1 emI n (0, 0) 70 [.null] [.int s0] M (f_X12_rank_70 x0 s0 M) := by
  unfold f_X12_rank_70
  exact x_iret (ty := .int) rfl hE hC (zdk dk_X12_rank 35 rfl)
set_option maxRecDepth 100000 in
def f_X12_rank_48  (x0 : Int32)  (M : Mem) : Option (Int32 × Mem) := f_X12_rank_70 x0 4 M
set_option maxRecDepth 100000 in
set_option maxHeartbeats 4000000 in
theorem x_X12_rank_48 {κ : KX} {n : Nat} (hC : CX κ cX12_rank RX12 1 (some .int) 0) (hE : zEnd κ n (0, 0)) (hk0 : zRk κ (0, 0)) {x0 : Int32} (M : Mem) : X κ 1 emI n (0, 0) 48 [.null] [] M (f_X12_rank_48 x0 M) := by
  unfold f_X12_rank_48
  refine x_iconst (i := 4) c_iconst_4 hC (zdk dk_X12_rank 24 rfl) (q := 49) rfl ?_
  refine x_goto (tgt := 70) hC (zdk dk_X12_rank 25 rfl) rfl ?_
  refine x_weak (L' := [.null]) ⟨Or.inl rfl, trivial⟩ ?_
  exact x_X12_rank_70 hC hE hk0 _ _
set_option maxRecDepth 100000 in
def f_X12_rank_64  (x0 : Int32)  (M : Mem) : Option (Int32 × Mem) := f_X12_rank_70 x0 5 M
set_option maxRecDepth 100000 in
set_option maxHeartbeats 4000000 in
theorem x_X12_rank_64 {κ : KX} {n : Nat} (hC : CX κ cX12_rank RX12 1 (some .int) 0) (hE : zEnd κ n (0, 0)) (hk0 : zRk κ (0, 0)) {x0 : Int32} (M : Mem) : X κ 1 emI n (0, 0) 64 [.null] [] M (f_X12_rank_64 x0 M) := by
  unfold f_X12_rank_64
  refine x_iconst (i := 5) c_iconst_5 hC (zdk dk_X12_rank 32 rfl) (q := 65) rfl ?_
  refine x_goto (tgt := 70) hC (zdk dk_X12_rank 33 rfl) rfl ?_
  refine x_weak (L' := [.null]) ⟨Or.inl rfl, trivial⟩ ?_
  exact x_X12_rank_70 hC hE hk0 _ _
set_option maxRecDepth 100000 in
def f_X12_rank (x0 : Int32) (M : Mem) : Option (Int32 × Mem) := (if x0 = 42 then f_X12_rank_70 x0 1 M else (if x0 = 41 then f_X12_rank_70 x0 2 M else (if x0 = 43 then f_X12_rank_70 x0 3 M else (if x0 = 38 then f_X12_rank_48 x0 M else (if x0 = 39 then f_X12_rank_48 x0 M else (if x0 = 40 then f_X12_rank_48 x0 M else (if x0 = 31 then f_X12_rank_64 x0 M else (if x0 = 32 then f_X12_rank_64 x0 M else f_X12_rank_70 x0 6 M))))))))
set_option maxRecDepth 100000 in
set_option maxHeartbeats 4000000 in
theorem x_X12_rank {κ : KX} {n : Nat} (hC : CX κ cX12_rank RX12 1 (some .int) 0) (hE : zEnd κ n (0, 0)) (hk0 : zRk κ (0, 0)) (x0 : Int32) (M : Mem) : X κ 1 emI n (0, 0) 0 [.int x0] [] M (f_X12_rank x0 M) := by
  unfold f_X12_rank
  refine x_iload_n (i := 0) rfl hC (zdk dk_X12_rank 0 rfl) (q := 1) rfl ?_
  refine x_bipush (i := 42) c_bipush_42 hC (zdk dk_X12_rank 1 rfl) (q := 3) rfl ?_
  refine x_icmp_ne (tgt := 10) hC (zdk dk_X12_rank 2 rfl) (q := 6) rfl rfl (fun _ => ?_) (fun _ => ?_)
  · refine x_iload_n (i := 0) rfl hC (zdk dk_X12_rank 5 rfl) (q := 11) rfl ?_
    refine x_bipush (i := 41) c_bipush_41 hC (zdk dk_X12_rank 6 rfl) (q := 13) rfl ?_
    refine x_icmp_ne (tgt := 20) hC (zdk dk_X12_rank 7 rfl) (q := 16) rfl rfl (fun _ => ?_) (fun _ => ?_)
    · refine x_iload_n (i := 0) rfl hC (zdk dk_X12_rank 10 rfl) (q := 21) rfl ?_
      refine x_bipush (i := 43) c_bipush_43 hC (zdk dk_X12_rank 11 rfl) (q := 23) rfl ?_
      refine x_icmp_ne (tgt := 30) hC (zdk dk_X12_rank 12 rfl) (q := 26) rfl rfl (fun _ => ?_) (fun _ => ?_)
      · refine x_iload_n (i := 0) rfl hC (zdk dk_X12_rank 15 rfl) (q := 31) rfl ?_
        refine x_bipush (i := 38) c_bipush_38 hC (zdk dk_X12_rank 16 rfl) (q := 33) rfl ?_
        refine x_icmp_eq (tgt := 48) hC (zdk dk_X12_rank 17 rfl) (q := 36) rfl rfl (fun _ => ?_) (fun _ => ?_)
        · refine x_weak (L' := [.null]) ⟨Or.inl rfl, trivial⟩ ?_
          exact x_X12_rank_48 hC hE hk0 _
        · refine x_iload_n (i := 0) rfl hC (zdk dk_X12_rank 18 rfl) (q := 37) rfl ?_
          refine x_bipush (i := 39) c_bipush_39 hC (zdk dk_X12_rank 19 rfl) (q := 39) rfl ?_
          refine x_icmp_eq (tgt := 48) hC (zdk dk_X12_rank 20 rfl) (q := 42) rfl rfl (fun _ => ?_) (fun _ => ?_)
          · refine x_weak (L' := [.null]) ⟨Or.inl rfl, trivial⟩ ?_
            exact x_X12_rank_48 hC hE hk0 _
          · refine x_iload_n (i := 0) rfl hC (zdk dk_X12_rank 21 rfl) (q := 43) rfl ?_
            refine x_bipush (i := 40) c_bipush_40 hC (zdk dk_X12_rank 22 rfl) (q := 45) rfl ?_
            refine x_icmp_ne (tgt := 52) hC (zdk dk_X12_rank 23 rfl) (q := 48) rfl rfl (fun _ => ?_) (fun _ => ?_)
            · refine x_iload_n (i := 0) rfl hC (zdk dk_X12_rank 26 rfl) (q := 53) rfl ?_
              refine x_bipush (i := 31) c_bipush_31 hC (zdk dk_X12_rank 27 rfl) (q := 55) rfl ?_
              refine x_icmp_eq (tgt := 64) hC (zdk dk_X12_rank 28 rfl) (q := 58) rfl rfl (fun _ => ?_) (fun _ => ?_)
              · refine x_weak (L' := [.null]) ⟨Or.inl rfl, trivial⟩ ?_
                exact x_X12_rank_64 hC hE hk0 _
              · refine x_iload_n (i := 0) rfl hC (zdk dk_X12_rank 29 rfl) (q := 59) rfl ?_
                refine x_bipush (i := 32) c_bipush_32 hC (zdk dk_X12_rank 30 rfl) (q := 61) rfl ?_
                refine x_icmp_ne (tgt := 68) hC (zdk dk_X12_rank 31 rfl) (q := 64) rfl rfl (fun _ => ?_) (fun _ => ?_)
                · refine x_bipush (i := 6) c_bipush_6 hC (zdk dk_X12_rank 34 rfl) (q := 70) rfl ?_
                  refine x_weak (L' := [.null]) ⟨Or.inl rfl, trivial⟩ ?_
                  exact x_X12_rank_70 hC hE hk0 _ _
                · refine x_weak (L' := [.null]) ⟨Or.inl rfl, trivial⟩ ?_
                  exact x_X12_rank_64 hC hE hk0 _
            · refine x_weak (L' := [.null]) ⟨Or.inl rfl, trivial⟩ ?_
              exact x_X12_rank_48 hC hE hk0 _
      · refine x_iconst (i := 3) c_iconst_3 hC (zdk dk_X12_rank 13 rfl) (q := 27) rfl ?_
        refine x_goto (tgt := 70) hC (zdk dk_X12_rank 14 rfl) rfl ?_
        refine x_weak (L' := [.null]) ⟨Or.inl rfl, trivial⟩ ?_
        exact x_X12_rank_70 hC hE hk0 _ _
    · refine x_iconst (i := 2) c_iconst_2 hC (zdk dk_X12_rank 8 rfl) (q := 17) rfl ?_
      refine x_goto (tgt := 70) hC (zdk dk_X12_rank 9 rfl) rfl ?_
      refine x_weak (L' := [.null]) ⟨Or.inl rfl, trivial⟩ ?_
      exact x_X12_rank_70 hC hE hk0 _ _
  · refine x_iconst (i := 1) c_iconst_1 hC (zdk dk_X12_rank 3 rfl) (q := 7) rfl ?_
    refine x_goto (tgt := 70) hC (zdk dk_X12_rank 4 rfl) rfl ?_
    refine x_weak (L' := [.null]) ⟨Or.inl rfl, trivial⟩ ?_
    exact x_X12_rank_70 hC hE hk0 _ _
set_option maxRecDepth 100000 in
set_option maxHeartbeats 4000000 in
theorem t_X12_rank {n : Nat} {x0 : Int32} {M : Mem}  (x : (Int32 × Mem)) (hx : f_X12_rank x0 M = some x) (l : Launch) (dC : Nat → ClassId) (dI : Nat → Nat → Nat) (b : zSg) : MT l dC dI b yX12_rank cX12_rank 1 (some .int) 0 0 0 n n [.int x0] M (emI x).1 (emI x).2 :=
  MT.ofX (by decide +kernel) rfl (Nat.le_of_ble_eq_true rfl) (fun κ hC hF _ => x_X12_rank hC (zEnd_of hF (Nat.le_refl _) (Nat.le_refl _)) (zRk_of hF (Nat.le_refl _) (Nat.le_refl _)) _ _ ) x hx
set_option maxRecDepth 100000 in
def dt_X12_joins : List (Nat × Instr × Nat) := [(0, .aload_n 0, 1), (1, .getfield 110, 3), (4, .aload_n 0, 1), (5, .getfield 98, 3), (8, .aload_n 0, 1), (9, .getfield 101, 3), (12, .iconst 1, 1), (13, .isub, 1), (14, .iaload, 1), (15, .if_icmp .le 72, 3), (18, .aload_n 0, 1), (19, .getfield 107, 3), (22, .aload_n 0, 1), (23, .getfield 110, 3), (26, .iconst 1, 1), (27, .isub, 1), (28, .iaload, 1), (29, .invokestatic 329, 3), (32, .iload_n 1, 1), (33, .if_icmp .lt 54, 3), (36, .aload_n 0, 1), (37, .dup, 1), (38, .getfield 110, 3), (41, .iconst 1, 1), (42, .isub, 1), (43, .putfield 110, 3), (46, .aload_n 0, 1), (47, .aload_n 0, 1), (48, .getfield 107, 3), (51, .aload_n 0, 1), (52, .getfield 110, 3), (55, .iaload, 1), (56, .iconst 0, 1), (57, .invokevirtual 332, 3), (60, .aload_n 0, 1), (61, .getfield 107, 3), (64, .aload_n 0, 1), (65, .getfield 110, 3), (68, .iaload, 1), (69, .bipush 43, 2), (71, .if_icmp .ne (-71), 3), (74, .aload_n 0, 1), (75, .dup, 1), (76, .getfield 104, 3), (79, .iconst 1, 1), (80, .isub, 1), (81, .putfield 104, 3), (84, .goto (-84), 3), (87, .return_, 1)]
set_option maxRecDepth 100000 in
theorem dk_X12_joins : dt_X12_joins.all (fun q => decide (decode cX12_joins q.1 = .ok q.2)) = true := by decide +kernel
set_option maxRecDepth 100000 in
def f_X12_joins_87  (r0 : Nat) (x1 : Int32)  (M : Mem) : Option Mem := some M
set_option maxRecDepth 100000 in
set_option maxHeartbeats 4000000 in
theorem x_X12_joins_87 {κ : KX} {n : Nat} (hC : CX κ cX12_joins RX12 2 none 1) (hE : zEnd κ n (0, 0)) (hk0 : zRk κ (0, 0)) {r0 : Nat} {x1 : Int32} (h_r0 : zO n r0 12) (M : Mem) : X κ 2 emV n (0, 0) 87 [.null, .null] [] M (f_X12_joins_87 r0 x1 M) := by
  unfold f_X12_joins_87
  exact x_vret hE hC (zdk dk_X12_joins 48 rfl)
set_option maxRecDepth 100000 in
def f_X12_joins_0  (r0 : Nat) (x1 : Int32) : Nat → Mem → Option Mem
  | 0, _ => none
  | f + 1, M => Option.bind (zrf M r0 28) fun q1 => Option.bind (zld q1 ((zI M r0 29) - 1)) fun k2 => (if zI M r0 32 ≤ zI M q1 k2 then f_X12_joins_87 r0 x1 M else Option.bind (zrf M r0 31) fun q3 => Option.bind (zld q3 ((zI M r0 32) - 1)) fun k4 => Option.bind (f_X12_rank (zI M q3 k4) M) fun z5 => (if z5.1 < x1 then f_X12_joins_87 r0 x1 z5.2 else Option.bind (some (zsI z5.2 r0 32 ((zI z5.2 r0 32) - 1))) fun M6 => Option.bind (zrf M6 r0 31) fun q7 => Option.bind (zld q7 (zI M6 r0 32)) fun k8 => Option.bind (f_X12_add r0 (zI M6 q7 k8) 0 M6) fun M9 => Option.bind (zrf M9 r0 31) fun q10 => Option.bind (zld q10 (zI M9 r0 32)) fun k11 => (if zI M9 q10 k11 = 43 then Option.bind (some (zsI M9 r0 30 ((zI M9 r0 30) - 1))) fun M12 => (f_X12_joins_0 r0 x1 f) M12 else (f_X12_joins_0 r0 x1 f) M9)))
set_option maxRecDepth 100000 in
set_option maxHeartbeats 4000000 in
theorem x_X12_joins_0 {κ : KX} {n : Nat} (hC : CX κ cX12_joins RX12 2 none 1) (hE : zEnd κ n (0, 0)) (hk0 : zRk κ (0, 0)) {r0 : Nat} {x1 : Int32} (h_r0 : zO n r0 12) : ∀ (f : Nat)  (M : Mem), X κ 2 emV n (0, 0) 0 [.ref r0, .int x1] [] M (f_X12_joins_0 r0 x1 f M) := by
  intro f
  induction f with
  | zero => intros; exact x_none
  | succ f ih =>
    intro  M 
    rw [f_X12_joins_0]
    refine x_aload_n (i := 0) rfl hC (zdk dk_X12_joins 0 rfl) (q := 1) rfl ?_
    refine x_getI fl_RX12_110 (by decide) h_r0 hC (zdk dk_X12_joins 1 rfl) (q := 4) rfl ?_
    refine x_aload_n (i := 0) rfl hC (zdk dk_X12_joins 2 rfl) (q := 5) rfl ?_
    refine x_getR (k := 20) fl_RX12_98 rfl h_r0 hC (zdk dk_X12_joins 3 rfl) (q := 8) rfl (fun q1 hq1 => ?_)
    refine x_aload_n (i := 0) rfl hC (zdk dk_X12_joins 4 rfl) (q := 9) rfl ?_
    refine x_getI fl_RX12_101 (by decide) h_r0 hC (zdk dk_X12_joins 5 rfl) (q := 12) rfl ?_
    refine x_iconst (i := 1) c_iconst_1 hC (zdk dk_X12_joins 6 rfl) (q := 13) rfl ?_
    refine x_isub hC (zdk dk_X12_joins 7 rfl) (q := 14) rfl ?_
    refine x_iald hq1 hC (zdk dk_X12_joins 8 rfl) (q := 15) rfl (fun k2 _ => ?_)
    refine x_icmp_le (tgt := 87) hC (zdk dk_X12_joins 9 rfl) (q := 18) rfl rfl (fun _ => ?_) (fun _ => ?_)
    · refine x_weak (L' := [.null, .null]) ⟨Or.inl rfl, Or.inl rfl, trivial⟩ ?_
      exact x_X12_joins_87 hC hE hk0 h_r0 _
    · refine x_aload_n (i := 0) rfl hC (zdk dk_X12_joins 10 rfl) (q := 19) rfl ?_
      refine x_getR (k := 20) fl_RX12_107 rfl h_r0 hC (zdk dk_X12_joins 11 rfl) (q := 22) rfl (fun q3 hq3 => ?_)
      refine x_aload_n (i := 0) rfl hC (zdk dk_X12_joins 12 rfl) (q := 23) rfl ?_
      refine x_getI fl_RX12_110 (by decide) h_r0 hC (zdk dk_X12_joins 13 rfl) (q := 26) rfl ?_
      refine x_iconst (i := 1) c_iconst_1 hC (zdk dk_X12_joins 14 rfl) (q := 27) rfl ?_
      refine x_isub hC (zdk dk_X12_joins 15 rfl) (q := 28) rfl ?_
      refine x_iald hq3 hC (zdk dk_X12_joins 16 rfl) (q := 29) rfl (fun k4 _ => ?_)
      refine x_callSi (as := [.int (zI M q3 k4)]) cb_RX12_329 rfl (by decide) hk0 (fun x hx => t_X12_rank  x hx) hC (zdk dk_X12_joins 17 rfl) (q := 32) rfl rfl (Nat.le_of_ble_eq_true rfl) (fun z5 => ?_)
      refine x_iload_n (i := 1) rfl hC (zdk dk_X12_joins 18 rfl) (q := 33) rfl ?_
      refine x_icmp_lt (tgt := 87) hC (zdk dk_X12_joins 19 rfl) (q := 36) rfl rfl (fun _ => ?_) (fun _ => ?_)
      · refine x_weak (L' := [.null, .null]) ⟨Or.inl rfl, Or.inl rfl, trivial⟩ ?_
        exact x_X12_joins_87 hC hE hk0 h_r0 _
      · refine x_aload_n (i := 0) rfl hC (zdk dk_X12_joins 20 rfl) (q := 37) rfl ?_
        refine x_dup rfl hC (zdk dk_X12_joins 21 rfl) (q := 38) rfl ?_
        refine x_getI fl_RX12_110 (by decide) h_r0 hC (zdk dk_X12_joins 22 rfl) (q := 41) rfl ?_
        refine x_iconst (i := 1) c_iconst_1 hC (zdk dk_X12_joins 23 rfl) (q := 42) rfl ?_
        refine x_isub hC (zdk dk_X12_joins 24 rfl) (q := 43) rfl ?_
        refine x_putI fl_RX12_110 ⟨rfl, rfl⟩ (by decide) (Or.inl rfl) h_r0 hC (zdk dk_X12_joins 25 rfl) (q := 46) rfl ?_
        refine x_nmM (fun M6 => ?_)
        refine x_aload_n (i := 0) rfl hC (zdk dk_X12_joins 26 rfl) (q := 47) rfl ?_
        refine x_aload_n (i := 0) rfl hC (zdk dk_X12_joins 27 rfl) (q := 48) rfl ?_
        refine x_getR (k := 20) fl_RX12_107 rfl h_r0 hC (zdk dk_X12_joins 28 rfl) (q := 51) rfl (fun q7 hq7 => ?_)
        refine x_aload_n (i := 0) rfl hC (zdk dk_X12_joins 29 rfl) (q := 52) rfl ?_
        refine x_getI fl_RX12_110 (by decide) h_r0 hC (zdk dk_X12_joins 30 rfl) (q := 55) rfl ?_
        refine x_iald hq7 hC (zdk dk_X12_joins 31 rfl) (q := 56) rfl (fun k8 _ => ?_)
        refine x_iconst (i := 0) c_iconst_0 hC (zdk dk_X12_joins 32 rfl) (q := 57) rfl ?_
        refine x_callVv (as := [.int (zI M6 q7 k8), .int 0]) cb_RX12_332 rfl (by decide) hk0 h_r0 (fun x hx => t_X12_add h_r0 x hx) hC (zdk dk_X12_joins 33 rfl) (q := 60) rfl rfl (Nat.le_of_ble_eq_true rfl) (fun M9 => ?_)
        refine x_aload_n (i := 0) rfl hC (zdk dk_X12_joins 34 rfl) (q := 61) rfl ?_
        refine x_getR (k := 20) fl_RX12_107 rfl h_r0 hC (zdk dk_X12_joins 35 rfl) (q := 64) rfl (fun q10 hq10 => ?_)
        refine x_aload_n (i := 0) rfl hC (zdk dk_X12_joins 36 rfl) (q := 65) rfl ?_
        refine x_getI fl_RX12_110 (by decide) h_r0 hC (zdk dk_X12_joins 37 rfl) (q := 68) rfl ?_
        refine x_iald hq10 hC (zdk dk_X12_joins 38 rfl) (q := 69) rfl (fun k11 _ => ?_)
        refine x_bipush (i := 43) c_bipush_43 hC (zdk dk_X12_joins 39 rfl) (q := 71) rfl ?_
        refine x_icmp_ne (tgt := 0) hC (zdk dk_X12_joins 40 rfl) (q := 74) rfl rfl (fun _ => ?_) (fun _ => ?_)
        · refine x_weak (L' := [.ref r0, .int x1]) ⟨Or.inr rfl, Or.inr rfl, trivial⟩ ?_
          exact ih _
        · refine x_aload_n (i := 0) rfl hC (zdk dk_X12_joins 41 rfl) (q := 75) rfl ?_
          refine x_dup rfl hC (zdk dk_X12_joins 42 rfl) (q := 76) rfl ?_
          refine x_getI fl_RX12_104 (by decide) h_r0 hC (zdk dk_X12_joins 43 rfl) (q := 79) rfl ?_
          refine x_iconst (i := 1) c_iconst_1 hC (zdk dk_X12_joins 44 rfl) (q := 80) rfl ?_
          refine x_isub hC (zdk dk_X12_joins 45 rfl) (q := 81) rfl ?_
          refine x_putI fl_RX12_104 ⟨rfl, rfl⟩ (by decide) (Or.inl rfl) h_r0 hC (zdk dk_X12_joins 46 rfl) (q := 84) rfl ?_
          refine x_nmM (fun M12 => ?_)
          refine x_goto (tgt := 0) hC (zdk dk_X12_joins 47 rfl) rfl ?_
          refine x_weak (L' := [.ref r0, .int x1]) ⟨Or.inr rfl, Or.inr rfl, trivial⟩ ?_
          exact ih _
set_option maxRecDepth 100000 in
def f_X12_joins (r0 : Nat) (x1 : Int32) (M : Mem) : Option Mem := f_X12_joins_0 r0 x1 1000000 M
set_option maxRecDepth 100000 in
set_option maxHeartbeats 4000000 in
theorem x_X12_joins {κ : KX} {n : Nat} (hC : CX κ cX12_joins RX12 2 none 1) (hE : zEnd κ n (0, 0)) (hk0 : zRk κ (0, 0)) (r0 : Nat) (x1 : Int32) (M : Mem) (h_r0 : zO n r0 12) : X κ 2 emV n (0, 0) 0 [.ref r0, .int x1] [] M (f_X12_joins r0 x1 M) := by
  unfold f_X12_joins
  refine x_weak (L' := [.ref r0, .int x1]) ⟨Or.inr rfl, Or.inr rfl, trivial⟩ ?_
  exact x_X12_joins_0 hC hE hk0 h_r0 _ _
set_option maxRecDepth 100000 in
set_option maxHeartbeats 4000000 in
theorem t_X12_joins {n : Nat} {r0 : Nat} {x1 : Int32} {M : Mem} (h_r0 : zO n r0 12) (x : Mem) (hx : f_X12_joins r0 x1 M = some x) (l : Launch) (dC : Nat → ClassId) (dI : Nat → Nat → Nat) (b : zSg) : MT l dC dI b yX12_joins cX12_joins 2 none 1 0 0 n n [.ref r0, .int x1] M (emV x).1 (emV x).2 :=
  MT.ofX (by decide +kernel) rfl (Nat.le_of_ble_eq_true rfl) (fun κ hC hF _ => x_X12_joins hC (zEnd_of hF (Nat.le_refl _) (Nat.le_refl _)) (zRk_of hF (Nat.le_refl _) (Nat.le_refl _)) _ _ _ h_r0) x hx
set_option maxRecDepth 100000 in
def dt_X12_holdsBack : List (Nat × Instr × Nat) := [(0, .aload_n 0, 1), (1, .getfield 107, 3), (4, .aload_n 0, 1), (5, .getfield 110, 3), (8, .iload_n 1, 1), (9, .iastore, 1), (10, .aload_n 0, 1), (11, .dup, 1), (12, .getfield 110, 3), (15, .iconst 1, 1), (16, .iadd, 1), (17, .putfield 110, 3), (20, .return_, 1)]
set_option maxRecDepth 100000 in
theorem dk_X12_holdsBack : dt_X12_holdsBack.all (fun q => decide (decode cX12_holdsBack q.1 = .ok q.2)) = true := by decide +kernel
set_option maxRecDepth 100000 in
def f_X12_holdsBack (r0 : Nat) (x1 : Int32) (M : Mem) : Option Mem := Option.bind (zrf M r0 31) fun q1 => Option.bind (zld q1 (zI M r0 32)) fun k2 => Option.bind (some (zsI M q1 k2 x1)) fun M3 => Option.bind (some (zsI M3 r0 32 ((zI M3 r0 32) + 1))) fun M4 => some M4
set_option maxRecDepth 100000 in
set_option maxHeartbeats 4000000 in
theorem x_X12_holdsBack {κ : KX} {n : Nat} (hC : CX κ cX12_holdsBack RX12 2 none 0) (hE : zEnd κ n (0, 0)) (hk0 : zRk κ (0, 0)) (r0 : Nat) (x1 : Int32) (M : Mem) (h_r0 : zO n r0 12) : X κ 2 emV n (0, 0) 0 [.ref r0, .int x1] [] M (f_X12_holdsBack r0 x1 M) := by
  unfold f_X12_holdsBack
  refine x_aload_n (i := 0) rfl hC (zdk dk_X12_holdsBack 0 rfl) (q := 1) rfl ?_
  refine x_getR (k := 20) fl_RX12_107 rfl h_r0 hC (zdk dk_X12_holdsBack 1 rfl) (q := 4) rfl (fun q1 hq1 => ?_)
  refine x_aload_n (i := 0) rfl hC (zdk dk_X12_holdsBack 2 rfl) (q := 5) rfl ?_
  refine x_getI fl_RX12_110 (by decide) h_r0 hC (zdk dk_X12_holdsBack 3 rfl) (q := 8) rfl ?_
  refine x_iload_n (i := 1) rfl hC (zdk dk_X12_holdsBack 4 rfl) (q := 9) rfl ?_
  refine x_iast hq1 hC (zdk dk_X12_holdsBack 5 rfl) (q := 10) rfl (fun k2 _ => ?_)
  refine x_nmM (fun M3 => ?_)
  refine x_aload_n (i := 0) rfl hC (zdk dk_X12_holdsBack 6 rfl) (q := 11) rfl ?_
  refine x_dup rfl hC (zdk dk_X12_holdsBack 7 rfl) (q := 12) rfl ?_
  refine x_getI fl_RX12_110 (by decide) h_r0 hC (zdk dk_X12_holdsBack 8 rfl) (q := 15) rfl ?_
  refine x_iconst (i := 1) c_iconst_1 hC (zdk dk_X12_holdsBack 9 rfl) (q := 16) rfl ?_
  refine x_iadd hC (zdk dk_X12_holdsBack 10 rfl) (q := 17) rfl ?_
  refine x_putI fl_RX12_110 ⟨rfl, rfl⟩ (by decide) (Or.inl rfl) h_r0 hC (zdk dk_X12_holdsBack 11 rfl) (q := 20) rfl ?_
  refine x_nmM (fun M4 => ?_)
  exact x_vret hE hC (zdk dk_X12_holdsBack 12 rfl)
set_option maxRecDepth 100000 in
set_option maxHeartbeats 4000000 in
theorem t_X12_holdsBack {n : Nat} {r0 : Nat} {x1 : Int32} {M : Mem} (h_r0 : zO n r0 12) (x : Mem) (hx : f_X12_holdsBack r0 x1 M = some x) (l : Launch) (dC : Nat → ClassId) (dI : Nat → Nat → Nat) (b : zSg) : MT l dC dI b yX12_holdsBack cX12_holdsBack 2 none 0 0 0 n n [.ref r0, .int x1] M (emV x).1 (emV x).2 :=
  MT.ofX (by decide +kernel) rfl (Nat.le_of_ble_eq_true rfl) (fun κ hC hF _ => x_X12_holdsBack hC (zEnd_of hF (Nat.le_refl _) (Nat.le_refl _)) (zRk_of hF (Nat.le_refl _) (Nat.le_refl _)) _ _ _ h_r0) x hx
set_option maxRecDepth 100000 in
def dt_X12_pushes : List (Nat × Instr × Nat) := [(0, .aload_n 0, 1), (1, .getfield 85, 3), (4, .aload_n 0, 1), (5, .getfield 101, 3), (8, .iload_n 1, 1), (9, .iastore, 1), (10, .aload_n 0, 1), (11, .getfield 88, 3), (14, .aload_n 0, 1), (15, .getfield 101, 3), (18, .iconst 0, 1), (19, .iastore, 1), (20, .aload_n 0, 1), (21, .getfield 91, 3), (24, .aload_n 0, 1), (25, .getfield 101, 3), (28, .iconst 1, 1), (29, .bastore, 1), (30, .aload_n 0, 1), (31, .getfield 98, 3), (34, .aload_n 0, 1), (35, .getfield 101, 3), (38, .aload_n 0, 1), (39, .getfield 110, 3), (42, .iastore, 1), (43, .aload_n 0, 1), (44, .dup, 1), (45, .getfield 101, 3), (48, .iconst 1, 1), (49, .iadd, 1), (50, .putfield 101, 3), (53, .return_, 1)]
set_option maxRecDepth 100000 in
theorem dk_X12_pushes : dt_X12_pushes.all (fun q => decide (decode cX12_pushes q.1 = .ok q.2)) = true := by decide +kernel
set_option maxRecDepth 100000 in
def f_X12_pushes (r0 : Nat) (x1 : Int32) (M : Mem) : Option Mem := Option.bind (zrf M r0 24) fun q1 => Option.bind (zld q1 (zI M r0 29)) fun k2 => Option.bind (some (zsI M q1 k2 x1)) fun M3 => Option.bind (zrf M3 r0 25) fun q4 => Option.bind (zld q4 (zI M3 r0 29)) fun k5 => Option.bind (some (zsI M3 q4 k5 0)) fun M6 => Option.bind (zrf M6 r0 26) fun q7 => Option.bind (zld q7 (zI M6 r0 29)) fun k8 => Option.bind (some (zsI M6 q7 k8 1)) fun M9 => Option.bind (zrf M9 r0 28) fun q10 => Option.bind (zld q10 (zI M9 r0 29)) fun k11 => Option.bind (some (zsI M9 q10 k11 (zI M9 r0 32))) fun M12 => Option.bind (some (zsI M12 r0 29 ((zI M12 r0 29) + 1))) fun M13 => some M13
set_option maxRecDepth 100000 in
set_option maxHeartbeats 4000000 in
theorem x_X12_pushes {κ : KX} {n : Nat} (hC : CX κ cX12_pushes RX12 2 none 0) (hE : zEnd κ n (0, 0)) (hk0 : zRk κ (0, 0)) (r0 : Nat) (x1 : Int32) (M : Mem) (h_r0 : zO n r0 12) : X κ 2 emV n (0, 0) 0 [.ref r0, .int x1] [] M (f_X12_pushes r0 x1 M) := by
  unfold f_X12_pushes
  refine x_aload_n (i := 0) rfl hC (zdk dk_X12_pushes 0 rfl) (q := 1) rfl ?_
  refine x_getR (k := 20) fl_RX12_85 rfl h_r0 hC (zdk dk_X12_pushes 1 rfl) (q := 4) rfl (fun q1 hq1 => ?_)
  refine x_aload_n (i := 0) rfl hC (zdk dk_X12_pushes 2 rfl) (q := 5) rfl ?_
  refine x_getI fl_RX12_101 (by decide) h_r0 hC (zdk dk_X12_pushes 3 rfl) (q := 8) rfl ?_
  refine x_iload_n (i := 1) rfl hC (zdk dk_X12_pushes 4 rfl) (q := 9) rfl ?_
  refine x_iast hq1 hC (zdk dk_X12_pushes 5 rfl) (q := 10) rfl (fun k2 _ => ?_)
  refine x_nmM (fun M3 => ?_)
  refine x_aload_n (i := 0) rfl hC (zdk dk_X12_pushes 6 rfl) (q := 11) rfl ?_
  refine x_getR (k := 20) fl_RX12_88 rfl h_r0 hC (zdk dk_X12_pushes 7 rfl) (q := 14) rfl (fun q4 hq4 => ?_)
  refine x_aload_n (i := 0) rfl hC (zdk dk_X12_pushes 8 rfl) (q := 15) rfl ?_
  refine x_getI fl_RX12_101 (by decide) h_r0 hC (zdk dk_X12_pushes 9 rfl) (q := 18) rfl ?_
  refine x_iconst (i := 0) c_iconst_0 hC (zdk dk_X12_pushes 10 rfl) (q := 19) rfl ?_
  refine x_iast hq4 hC (zdk dk_X12_pushes 11 rfl) (q := 20) rfl (fun k5 _ => ?_)
  refine x_nmM (fun M6 => ?_)
  refine x_aload_n (i := 0) rfl hC (zdk dk_X12_pushes 12 rfl) (q := 21) rfl ?_
  refine x_getR (k := 22) fl_RX12_91 rfl h_r0 hC (zdk dk_X12_pushes 13 rfl) (q := 24) rfl (fun q7 hq7 => ?_)
  refine x_aload_n (i := 0) rfl hC (zdk dk_X12_pushes 14 rfl) (q := 25) rfl ?_
  refine x_getI fl_RX12_101 (by decide) h_r0 hC (zdk dk_X12_pushes 15 rfl) (q := 28) rfl ?_
  refine x_iconst (i := 1) c_iconst_1 hC (zdk dk_X12_pushes 16 rfl) (q := 29) rfl ?_
  refine x_zast (by rfl) hq7 hC (zdk dk_X12_pushes 17 rfl) (q := 30) rfl (fun k8 _ => ?_)
  refine x_nmM (fun M9 => ?_)
  refine x_aload_n (i := 0) rfl hC (zdk dk_X12_pushes 18 rfl) (q := 31) rfl ?_
  refine x_getR (k := 20) fl_RX12_98 rfl h_r0 hC (zdk dk_X12_pushes 19 rfl) (q := 34) rfl (fun q10 hq10 => ?_)
  refine x_aload_n (i := 0) rfl hC (zdk dk_X12_pushes 20 rfl) (q := 35) rfl ?_
  refine x_getI fl_RX12_101 (by decide) h_r0 hC (zdk dk_X12_pushes 21 rfl) (q := 38) rfl ?_
  refine x_aload_n (i := 0) rfl hC (zdk dk_X12_pushes 22 rfl) (q := 39) rfl ?_
  refine x_getI fl_RX12_110 (by decide) h_r0 hC (zdk dk_X12_pushes 23 rfl) (q := 42) rfl ?_
  refine x_iast hq10 hC (zdk dk_X12_pushes 24 rfl) (q := 43) rfl (fun k11 _ => ?_)
  refine x_nmM (fun M12 => ?_)
  refine x_aload_n (i := 0) rfl hC (zdk dk_X12_pushes 25 rfl) (q := 44) rfl ?_
  refine x_dup rfl hC (zdk dk_X12_pushes 26 rfl) (q := 45) rfl ?_
  refine x_getI fl_RX12_101 (by decide) h_r0 hC (zdk dk_X12_pushes 27 rfl) (q := 48) rfl ?_
  refine x_iconst (i := 1) c_iconst_1 hC (zdk dk_X12_pushes 28 rfl) (q := 49) rfl ?_
  refine x_iadd hC (zdk dk_X12_pushes 29 rfl) (q := 50) rfl ?_
  refine x_putI fl_RX12_101 ⟨rfl, rfl⟩ (by decide) (Or.inl rfl) h_r0 hC (zdk dk_X12_pushes 30 rfl) (q := 53) rfl ?_
  refine x_nmM (fun M13 => ?_)
  exact x_vret hE hC (zdk dk_X12_pushes 31 rfl)
set_option maxRecDepth 100000 in
set_option maxHeartbeats 4000000 in
theorem t_X12_pushes {n : Nat} {r0 : Nat} {x1 : Int32} {M : Mem} (h_r0 : zO n r0 12) (x : Mem) (hx : f_X12_pushes r0 x1 M = some x) (l : Launch) (dC : Nat → ClassId) (dI : Nat → Nat → Nat) (b : zSg) : MT l dC dI b yX12_pushes cX12_pushes 2 none 0 0 0 n n [.ref r0, .int x1] M (emV x).1 (emV x).2 :=
  MT.ofX (by decide +kernel) rfl (Nat.le_of_ble_eq_true rfl) (fun κ hC hF _ => x_X12_pushes hC (zEnd_of hF (Nat.le_refl _) (Nat.le_refl _)) (zRk_of hF (Nat.le_refl _) (Nat.le_refl _)) _ _ _ h_r0) x hx
set_option maxRecDepth 100000 in
def dt_X12_opens : List (Nat × Instr × Nat) := [(0, .aload_n 0, 1), (1, .getfield 104, 3), (4, .bipush 7, 2), (6, .if_icmp .ne 12, 3), (9, .aload_n 0, 1), (10, .iconst 5, 1), (11, .aload_n 0, 1), (12, .getfield 23, 3), (15, .invokevirtual 251, 3), (18, .aload_n 0, 1), (19, .getfield 36, 3), (22, .ifCond .le 4, 3), (25, .return_, 1), (26, .aload_n 0, 1), (27, .dup, 1), (28, .getfield 104, 3), (31, .iconst 1, 1), (32, .iadd, 1), (33, .putfield 104, 3), (36, .aload_n 0, 1), (37, .invokevirtual 268, 3), (40, .aload_n 0, 1), (41, .iload_n 1, 1), (42, .invokevirtual 335, 3), (45, .return_, 1)]
set_option maxRecDepth 100000 in
theorem dk_X12_opens : dt_X12_opens.all (fun q => decide (decode cX12_opens q.1 = .ok q.2)) = true := by decide +kernel
set_option maxRecDepth 100000 in
def f_X12_opens_18  (r0 : Nat) (x1 : Int32)  (M : Mem) : Option Mem := (if zI M r0 8 ≤ 0 then Option.bind (some (zsI M r0 30 ((zI M r0 30) + 1))) fun M1 => Option.bind (f_X12_ahead r0 M1) fun M2 => Option.bind (f_X12_pushes r0 x1 M2) fun M3 => some M3 else some M)
set_option maxRecDepth 100000 in
set_option maxHeartbeats 4000000 in
theorem x_X12_opens_18 {κ : KX} {n : Nat} (hC : CX κ cX12_opens RX12 2 none 2) (hE : zEnd κ n (0, 0)) (hk0 : zRk κ (0, 0)) {r0 : Nat} {x1 : Int32} (h_r0 : zO n r0 12) (M : Mem) : X κ 2 emV n (0, 0) 18 [.ref r0, .int x1] [] M (f_X12_opens_18 r0 x1 M) := by
  unfold f_X12_opens_18
  refine x_aload_n (i := 0) rfl hC (zdk dk_X12_opens 9 rfl) (q := 19) rfl ?_
  refine x_getI fl_RX12_36 (by decide) h_r0 hC (zdk dk_X12_opens 10 rfl) (q := 22) rfl ?_
  refine x_if_le (tgt := 26) hC (zdk dk_X12_opens 11 rfl) (q := 25) rfl rfl (fun _ => ?_) (fun _ => ?_)
  · refine x_aload_n (i := 0) rfl hC (zdk dk_X12_opens 13 rfl) (q := 27) rfl ?_
    refine x_dup rfl hC (zdk dk_X12_opens 14 rfl) (q := 28) rfl ?_
    refine x_getI fl_RX12_104 (by decide) h_r0 hC (zdk dk_X12_opens 15 rfl) (q := 31) rfl ?_
    refine x_iconst (i := 1) c_iconst_1 hC (zdk dk_X12_opens 16 rfl) (q := 32) rfl ?_
    refine x_iadd hC (zdk dk_X12_opens 17 rfl) (q := 33) rfl ?_
    refine x_putI fl_RX12_104 ⟨rfl, rfl⟩ (by decide) (Or.inl rfl) h_r0 hC (zdk dk_X12_opens 18 rfl) (q := 36) rfl ?_
    refine x_nmM (fun M1 => ?_)
    refine x_aload_n (i := 0) rfl hC (zdk dk_X12_opens 19 rfl) (q := 37) rfl ?_
    refine x_callVv (as := []) cb_RX12_268 rfl (by decide) hk0 h_r0 (fun x hx => t_X12_ahead h_r0 x hx) hC (zdk dk_X12_opens 20 rfl) (q := 40) rfl rfl (Nat.le_of_ble_eq_true rfl) (fun M2 => ?_)
    refine x_aload_n (i := 0) rfl hC (zdk dk_X12_opens 21 rfl) (q := 41) rfl ?_
    refine x_iload_n (i := 1) rfl hC (zdk dk_X12_opens 22 rfl) (q := 42) rfl ?_
    refine x_callVv (as := [.int x1]) cb_RX12_335 rfl (by decide) hk0 h_r0 (fun x hx => t_X12_pushes h_r0 x hx) hC (zdk dk_X12_opens 23 rfl) (q := 45) rfl rfl (Nat.le_of_ble_eq_true rfl) (fun M3 => ?_)
    exact x_vret hE hC (zdk dk_X12_opens 24 rfl)
  · exact x_vret hE hC (zdk dk_X12_opens 12 rfl)
set_option maxRecDepth 100000 in
def f_X12_opens (r0 : Nat) (x1 : Int32) (M : Mem) : Option Mem := (if zI M r0 30 = 7 then Option.bind (f_X12_blame r0 5 (zI M r0 4) M) fun M4 => f_X12_opens_18 r0 x1 M4 else f_X12_opens_18 r0 x1 M)
set_option maxRecDepth 100000 in
set_option maxHeartbeats 4000000 in
theorem x_X12_opens {κ : KX} {n : Nat} (hC : CX κ cX12_opens RX12 2 none 2) (hE : zEnd κ n (0, 0)) (hk0 : zRk κ (0, 0)) (r0 : Nat) (x1 : Int32) (M : Mem) (h_r0 : zO n r0 12) : X κ 2 emV n (0, 0) 0 [.ref r0, .int x1] [] M (f_X12_opens r0 x1 M) := by
  unfold f_X12_opens
  refine x_aload_n (i := 0) rfl hC (zdk dk_X12_opens 0 rfl) (q := 1) rfl ?_
  refine x_getI fl_RX12_104 (by decide) h_r0 hC (zdk dk_X12_opens 1 rfl) (q := 4) rfl ?_
  refine x_bipush (i := 7) c_bipush_7 hC (zdk dk_X12_opens 2 rfl) (q := 6) rfl ?_
  refine x_icmp_ne (tgt := 18) hC (zdk dk_X12_opens 3 rfl) (q := 9) rfl rfl (fun _ => ?_) (fun _ => ?_)
  · refine x_weak (L' := [.ref r0, .int x1]) ⟨Or.inr rfl, Or.inr rfl, trivial⟩ ?_
    exact x_X12_opens_18 hC hE hk0 h_r0 _
  · refine x_aload_n (i := 0) rfl hC (zdk dk_X12_opens 4 rfl) (q := 10) rfl ?_
    refine x_iconst (i := 5) c_iconst_5 hC (zdk dk_X12_opens 5 rfl) (q := 11) rfl ?_
    refine x_aload_n (i := 0) rfl hC (zdk dk_X12_opens 6 rfl) (q := 12) rfl ?_
    refine x_getI fl_RX12_23 (by decide) h_r0 hC (zdk dk_X12_opens 7 rfl) (q := 15) rfl ?_
    refine x_callVv (as := [.int 5, .int (zI M r0 4)]) cb_RX12_251 rfl (by decide) hk0 h_r0 (fun x hx => t_X12_blame h_r0 x hx) hC (zdk dk_X12_opens 8 rfl) (q := 18) rfl rfl (Nat.le_of_ble_eq_true rfl) (fun M4 => ?_)
    refine x_weak (L' := [.ref r0, .int x1]) ⟨Or.inr rfl, Or.inr rfl, trivial⟩ ?_
    exact x_X12_opens_18 hC hE hk0 h_r0 _
set_option maxRecDepth 100000 in
set_option maxHeartbeats 4000000 in
theorem t_X12_opens {n : Nat} {r0 : Nat} {x1 : Int32} {M : Mem} (h_r0 : zO n r0 12) (x : Mem) (hx : f_X12_opens r0 x1 M = some x) (l : Launch) (dC : Nat → ClassId) (dI : Nat → Nat → Nat) (b : zSg) : MT l dC dI b yX12_opens cX12_opens 2 none 2 0 0 n n [.ref r0, .int x1] M (emV x).1 (emV x).2 :=
  MT.ofX (by decide +kernel) rfl (Nat.le_of_ble_eq_true rfl) (fun κ hC hF _ => x_X12_opens hC (zEnd_of hF (Nat.le_refl _) (Nat.le_refl _)) (zRk_of hF (Nat.le_refl _) (Nat.le_refl _)) _ _ _ h_r0) x hx
set_option maxRecDepth 100000 in
def dt_X12_isTest : List (Nat × Instr × Nat) := [(0, .iload_n 0, 1), (1, .iconst 1, 1), (2, .if_icmp .eq 14, 3), (5, .iload_n 0, 1), (6, .iconst 5, 1), (7, .if_icmp .eq 9, 3), (10, .iload_n 0, 1), (11, .bipush 6, 2), (13, .if_icmp .ne 7, 3), (16, .iconst 1, 1), (17, .goto 4, 3), (20, .iconst 0, 1), (21, .ireturn, 1)]
set_option maxRecDepth 100000 in
theorem dk_X12_isTest : dt_X12_isTest.all (fun q => decide (decode cX12_isTest q.1 = .ok q.2)) = true := by decide +kernel
set_option maxRecDepth 100000 in
def f_X12_isTest_21  (x0 : Int32) (s0 : Int32) (M : Mem) : Option (Int32 × Mem) := zbz s0 (some (s0, M))
set_option maxRecDepth 100000 in
set_option maxHeartbeats 4000000 in
theorem x_X12_isTest_21 {κ : KX} {n : Nat} (hC : CX κ cX12_isTest RX12 1 (some .boolean) 0) (hE : zEnd κ n (0, 0)) (hk0 : zRk κ (0, 0)) {x0 : Int32} (s0 : Int32) (M : Mem) : X κ 1 emI n (0, 0) 21 [.null] [.int s0] M (f_X12_isTest_21 x0 s0 M) := by
  unfold f_X12_isTest_21
  refine x_bz (fun hb1 => ?_)
  exact x_iret (ty := .boolean) hb1.1 hE hC (zdk dk_X12_isTest 12 rfl)
set_option maxRecDepth 100000 in
def f_X12_isTest_16  (x0 : Int32)  (M : Mem) : Option (Int32 × Mem) := f_X12_isTest_21 x0 1 M
set_option maxRecDepth 100000 in
set_option maxHeartbeats 4000000 in
theorem x_X12_isTest_16 {κ : KX} {n : Nat} (hC : CX κ cX12_isTest RX12 1 (some .boolean) 0) (hE : zEnd κ n (0, 0)) (hk0 : zRk κ (0, 0)) {x0 : Int32} (M : Mem) : X κ 1 emI n (0, 0) 16 [.null] [] M (f_X12_isTest_16 x0 M) := by
  unfold f_X12_isTest_16
  refine x_iconst (i := 1) c_iconst_1 hC (zdk dk_X12_isTest 9 rfl) (q := 17) rfl ?_
  refine x_goto (tgt := 21) hC (zdk dk_X12_isTest 10 rfl) rfl ?_
  refine x_weak (L' := [.null]) ⟨Or.inl rfl, trivial⟩ ?_
  exact x_X12_isTest_21 hC hE hk0 _ _
set_option maxRecDepth 100000 in
def f_X12_isTest (x0 : Int32) (M : Mem) : Option (Int32 × Mem) := (if x0 = 1 then f_X12_isTest_16 x0 M else (if x0 = 5 then f_X12_isTest_16 x0 M else (if x0 = 6 then f_X12_isTest_16 x0 M else f_X12_isTest_21 x0 0 M)))
set_option maxRecDepth 100000 in
set_option maxHeartbeats 4000000 in
theorem x_X12_isTest {κ : KX} {n : Nat} (hC : CX κ cX12_isTest RX12 1 (some .boolean) 0) (hE : zEnd κ n (0, 0)) (hk0 : zRk κ (0, 0)) (x0 : Int32) (M : Mem) : X κ 1 emI n (0, 0) 0 [.int x0] [] M (f_X12_isTest x0 M) := by
  unfold f_X12_isTest
  refine x_iload_n (i := 0) rfl hC (zdk dk_X12_isTest 0 rfl) (q := 1) rfl ?_
  refine x_iconst (i := 1) c_iconst_1 hC (zdk dk_X12_isTest 1 rfl) (q := 2) rfl ?_
  refine x_icmp_eq (tgt := 16) hC (zdk dk_X12_isTest 2 rfl) (q := 5) rfl rfl (fun _ => ?_) (fun _ => ?_)
  · refine x_weak (L' := [.null]) ⟨Or.inl rfl, trivial⟩ ?_
    exact x_X12_isTest_16 hC hE hk0 _
  · refine x_iload_n (i := 0) rfl hC (zdk dk_X12_isTest 3 rfl) (q := 6) rfl ?_
    refine x_iconst (i := 5) c_iconst_5 hC (zdk dk_X12_isTest 4 rfl) (q := 7) rfl ?_
    refine x_icmp_eq (tgt := 16) hC (zdk dk_X12_isTest 5 rfl) (q := 10) rfl rfl (fun _ => ?_) (fun _ => ?_)
    · refine x_weak (L' := [.null]) ⟨Or.inl rfl, trivial⟩ ?_
      exact x_X12_isTest_16 hC hE hk0 _
    · refine x_iload_n (i := 0) rfl hC (zdk dk_X12_isTest 6 rfl) (q := 11) rfl ?_
      refine x_bipush (i := 6) c_bipush_6 hC (zdk dk_X12_isTest 7 rfl) (q := 13) rfl ?_
      refine x_icmp_ne (tgt := 20) hC (zdk dk_X12_isTest 8 rfl) (q := 16) rfl rfl (fun _ => ?_) (fun _ => ?_)
      · refine x_iconst (i := 0) c_iconst_0 hC (zdk dk_X12_isTest 11 rfl) (q := 21) rfl ?_
        refine x_weak (L' := [.null]) ⟨Or.inl rfl, trivial⟩ ?_
        exact x_X12_isTest_21 hC hE hk0 _ _
      · refine x_weak (L' := [.null]) ⟨Or.inl rfl, trivial⟩ ?_
        exact x_X12_isTest_16 hC hE hk0 _
set_option maxRecDepth 100000 in
set_option maxHeartbeats 4000000 in
theorem t_X12_isTest {n : Nat} {x0 : Int32} {M : Mem}  (x : (Int32 × Mem)) (hx : f_X12_isTest x0 M = some x) (l : Launch) (dC : Nat → ClassId) (dI : Nat → Nat → Nat) (b : zSg) : MT l dC dI b yX12_isTest cX12_isTest 1 (some .boolean) 0 0 0 n n [.int x0] M (emI x).1 (emI x).2 :=
  MT.ofX (by decide +kernel) rfl (Nat.le_of_ble_eq_true rfl) (fun κ hC hF _ => x_X12_isTest hC (zEnd_of hF (Nat.le_refl _) (Nat.le_refl _)) (zRk_of hF (Nat.le_refl _) (Nat.le_refl _)) _ _ ) x hx
set_option maxRecDepth 100000 in
def dt_X12_operand : List (Nat × Instr × Nat) := [(0, .aload_n 0, 1), (1, .invokevirtual 262, 3), (4, .aload_n 0, 1), (5, .getfield 36, 3), (8, .ifCond .le 5, 3), (11, .iconst 1, 1), (12, .ireturn, 1), (13, .aload_n 0, 1), (14, .getfield 101, 3), (17, .iconst 1, 1), (18, .isub, 1), (19, .istore_n 1, 1), (20, .aload_n 0, 1), (21, .getfield 85, 3), (24, .iload_n 1, 1), (25, .iaload, 1), (26, .invokestatic 338, 3), (29, .ifCond .eq 16, 3), (32, .aload_n 0, 1), (33, .getfield 91, 3), (36, .iload_n 1, 1), (37, .baload, 1), (38, .ifCond .eq 7, 3), (41, .iconst 1, 1), (42, .goto 4, 3), (45, .iconst 0, 1), (46, .istore_n 2, 1), (47, .iload_n 2, 1), (48, .ifCond .eq 62, 3), (51, .aload_n 0, 1), (52, .ldc2_w 317, 3), (55, .invokevirtual 341, 3), (58, .ifCond .eq 52, 3), (61, .aload_n 0, 1), (62, .getfield 104, 3), (65, .bipush 7, 2), (67, .if_icmp .ne 12, 3), (70, .aload_n 0, 1), (71, .iconst 5, 1), (72, .aload_n 0, 1), (73, .getfield 23, 3), (76, .invokevirtual 251, 3), (79, .aload_n 0, 1), (80, .getfield 36, 3), (83, .ifCond .le 5, 3), (86, .iconst 1, 1), (87, .ireturn, 1), (88, .aload_n 0, 1), (89, .dup, 1), (90, .getfield 104, 3), (93, .iconst 1, 1), (94, .iadd, 1), (95, .putfield 104, 3), (98, .aload_n 0, 1), (99, .bipush 43, 2), (101, .invokevirtual 345, 3), (104, .aload_n 0, 1), (105, .invokevirtual 268, 3), (108, .iconst 0, 1), (109, .ireturn, 1), (110, .aload_n 0, 1), (111, .getfield 91, 3), (114, .iload_n 1, 1), (115, .iconst 0, 1), (116, .bastore, 1), (117, .iload_n 2, 1), (118, .ifCond .eq 19, 3), (121, .aload_n 0, 1), (122, .bipush 91, 2), (124, .invokevirtual 265, 3), (127, .ifCond .eq 10, 3), (130, .aload_n 0, 1), (131, .iconst 5, 1), (132, .invokevirtual 348, 3), (135, .iconst 0, 1), (136, .ireturn, 1), (137, .iload_n 2, 1), (138, .ifCond .eq 33, 3), (141, .aload_n 0, 1), (142, .ldc2_w 319, 3), (145, .invokevirtual 341, 3), (148, .ifCond .eq 23, 3), (151, .aload_n 0, 1), (152, .bipush 30, 2), (154, .iconst 0, 1), (155, .invokevirtual 332, 3), (158, .aload_n 0, 1), (159, .getfield 88, 3), (162, .iload_n 1, 1), (163, .iconst 2, 1), (164, .iastore, 1), (165, .aload_n 0, 1), (166, .invokevirtual 268, 3), (169, .iconst 1, 1), (170, .ireturn, 1), (171, .aload_n 0, 1), (172, .bipush 40, 2), (174, .invokevirtual 265, 3), (177, .ifCond .eq 10, 3), (180, .aload_n 0, 1), (181, .iconst 2, 1), (182, .invokevirtual 348, 3), (185, .iconst 0, 1), (186, .ireturn, 1), (187, .aload_n 0, 1), (188, .ldc2_w 321, 3), (191, .invokevirtual 341, 3), (194, .ifCond .ne 23, 3), (197, .aload_n 0, 1), (198, .ldc2_w 323, 3), (201, .invokevirtual 341, 3), (204, .ifCond .ne 13, 3), (207, .aload_n 0, 1), (208, .ldc2_w 311, 3), (211, .invokevirtual 341, 3), (214, .ifCond .eq 99, 3), (217, .aload_n 0, 1), (218, .ldc2_w 321, 3), (221, .invokevirtual 341, 3), (224, .ifCond .eq 8, 3), (227, .bipush 36, 2), (229, .goto 20, 3), (232, .aload_n 0, 1), (233, .ldc2_w 323, 3), (236, .invokevirtual 341, 3), (239, .ifCond .eq 8, 3), (242, .bipush 37, 2), (244, .goto 5, 3), (247, .bipush 44, 2), (249, .istore_n 3, 1), (250, .aload_n 0, 1), (251, .invokevirtual 268, 3), (254, .aload_n 0, 1), (255, .invokevirtual 262, 3), (258, .aload_n 0, 1), (259, .bipush 40, 2), (261, .invokevirtual 265, 3), (264, .ifCond .ne 12, 3), (267, .aload_n 0, 1), (268, .iconst 1, 1), (269, .aload_n 0, 1), (270, .getfield 23, 3), (273, .invokevirtual 251, 3), (276, .aload_n 0, 1), (277, .iload_n 3, 1), (278, .bipush 44, 2), (280, .if_icmp .ne 8, 3), (283, .bipush 6, 2), (285, .goto 4, 3), (288, .iconst 3, 1), (289, .invokevirtual 348, 3), (292, .aload_n 0, 1), (293, .getfield 36, 3), (296, .ifCond .ne 15, 3), (299, .aload_n 0, 1), (300, .getfield 95, 3), (303, .aload_n 0, 1), (304, .getfield 101, 3), (307, .iconst 1, 1), (308, .isub, 1), (309, .iload_n 3, 1), (310, .iastore, 1), (311, .iconst 0, 1), (312, .ireturn, 1), (313, .aload_n 0, 1), (314, .getfield 20, 3), (317, .iconst 2, 1), (318, .if_icmp .ne 7, 3), (321, .iconst 0, 1), (322, .goto 134, 3), (325, .aload_n 0, 1), (326, .ldc2_w 295, 3), (329, .invokevirtual 341, 3), (332, .ifCond .eq 7, 3), (335, .iconst 1, 1), (336, .goto 120, 3), (339, .aload_n 0, 1), (340, .ldc2_w 279, 3), (343, .invokevirtual 341, 3), (346, .ifCond .eq 7, 3), (349, .iconst 2, 1), (350, .goto 106, 3), (353, .aload_n 0, 1), (354, .ldc2_w 297, 3), (357, .invokevirtual 341, 3), (360, .ifCond .eq 7, 3), (363, .iconst 3, 1), (364, .goto 92, 3), (367, .aload_n 0, 1), (368, .ldc2_w 299, 3), (371, .invokevirtual 341, 3), (374, .ifCond .eq 7, 3), (377, .iconst 4, 1), (378, .goto 78, 3), (381, .aload_n 0, 1), (382, .ldc2_w 301, 3), (385, .invokevirtual 341, 3), (388, .ifCond .eq 7, 3), (391, .iconst 5, 1), (392, .goto 64, 3), (395, .aload_n 0, 1), (396, .ldc2_w 303, 3), (399, .invokevirtual 341, 3), (402, .ifCond .eq 8, 3), (405, .bipush 6, 2), (407, .goto 49, 3), (410, .aload_n 0, 1), (411, .ldc2_w 305, 3), (414, .invokevirtual 341, 3), (417, .ifCond .eq 8, 3), (420, .bipush 7, 2), (422, .goto 34, 3), (425, .aload_n 0, 1), (426, .ldc2_w 307, 3), (429, .invokevirtual 341, 3), (432, .ifCond .eq 8, 3), (435, .bipush 8, 2), (437, .goto 19, 3), (440, .aload_n 0, 1), (441, .ldc2_w 309, 3), (444, .invokevirtual 341, 3), (447, .ifCond .eq 8, 3), (450, .bipush 9, 2), (452, .goto 4, 3), (455, .iconst (-1), 1), (456, .istore_n 3, 1), (457, .iload_n 3, 1), (458, .iconst 1, 1), (459, .if_icmp .lt 32, 3), (462, .iload_n 3, 1), (463, .bipush 7, 2), (465, .if_icmp .lt 7, 3), (468, .iconst 1, 1), (469, .goto 4, 3), (472, .iconst 0, 1), (473, .aload_n 0, 1), (474, .getfield 82, 3), (477, .iconst 1, 1), (478, .if_icmp .ne 7, 3), (481, .iconst 1, 1), (482, .goto 4, 3), (485, .iconst 0, 1), (486, .if_icmp .eq 5, 3), (489, .iconst (-1), 1), (490, .istore_n 3, 1), (491, .iload_n 3, 1), (492, .iconst (-1), 1), (493, .if_icmp .ne 12, 3), (496, .aload_n 0, 1), (497, .iconst 1, 1), (498, .aload_n 0, 1), (499, .getfield 23, 3), (502, .invokevirtual 251, 3), (505, .aload_n 0, 1), (506, .getfield 36, 3), (509, .ifCond .le 5, 3), (512, .iconst 1, 1), (513, .ireturn, 1), (514, .aload_n 0, 1), (515, .iload_n 3, 1), (516, .aload_n 0, 1), (517, .getfield 29, 3), (520, .invokevirtual 332, 3), (523, .aload_n 0, 1), (524, .invokevirtual 268, 3), (527, .iconst 1, 1), (528, .ireturn, 1)]
set_option maxRecDepth 100000 in
theorem dk_X12_operand : dt_X12_operand.all (fun q => decide (decode cX12_operand q.1 = .ok q.2)) = true := by decide +kernel
set_option maxRecDepth 100000 in
def f_X12_operand_79  (r0 : Nat)  (M : Mem) : Option (Int32 × Mem) := (if zI M r0 8 ≤ 0 then Option.bind (some (zsI M r0 30 ((zI M r0 30) + 1))) fun M1 => Option.bind (f_X12_holdsBack r0 43 M1) fun M2 => Option.bind (f_X12_ahead r0 M2) fun M3 => some (0, M3) else some (1, M))
set_option maxRecDepth 100000 in
set_option maxHeartbeats 4000000 in
theorem x_X12_operand_79 {κ : KX} {n : Nat} (hC : CX κ cX12_operand RX12 4 (some .boolean) 3) (hE : zEnd κ n (0, 0)) (hk0 : zRk κ (0, 0)) {r0 : Nat} (h_r0 : zO n r0 12) (M : Mem) : X κ 4 emI n (0, 0) 79 [.ref r0, .null, .null, .null] [] M (f_X12_operand_79 r0 M) := by
  unfold f_X12_operand_79
  refine x_aload_n (i := 0) rfl hC (zdk dk_X12_operand 42 rfl) (q := 80) rfl ?_
  refine x_getI fl_RX12_36 (by decide) h_r0 hC (zdk dk_X12_operand 43 rfl) (q := 83) rfl ?_
  refine x_if_le (tgt := 88) hC (zdk dk_X12_operand 44 rfl) (q := 86) rfl rfl (fun _ => ?_) (fun _ => ?_)
  · refine x_aload_n (i := 0) rfl hC (zdk dk_X12_operand 47 rfl) (q := 89) rfl ?_
    refine x_dup rfl hC (zdk dk_X12_operand 48 rfl) (q := 90) rfl ?_
    refine x_getI fl_RX12_104 (by decide) h_r0 hC (zdk dk_X12_operand 49 rfl) (q := 93) rfl ?_
    refine x_iconst (i := 1) c_iconst_1 hC (zdk dk_X12_operand 50 rfl) (q := 94) rfl ?_
    refine x_iadd hC (zdk dk_X12_operand 51 rfl) (q := 95) rfl ?_
    refine x_putI fl_RX12_104 ⟨rfl, rfl⟩ (by decide) (Or.inl rfl) h_r0 hC (zdk dk_X12_operand 52 rfl) (q := 98) rfl ?_
    refine x_nmM (fun M1 => ?_)
    refine x_aload_n (i := 0) rfl hC (zdk dk_X12_operand 53 rfl) (q := 99) rfl ?_
    refine x_bipush (i := 43) c_bipush_43 hC (zdk dk_X12_operand 54 rfl) (q := 101) rfl ?_
    refine x_callVv (as := [.int 43]) cb_RX12_345 rfl (by decide) hk0 h_r0 (fun x hx => t_X12_holdsBack h_r0 x hx) hC (zdk dk_X12_operand 55 rfl) (q := 104) rfl rfl (Nat.le_of_ble_eq_true rfl) (fun M2 => ?_)
    refine x_aload_n (i := 0) rfl hC (zdk dk_X12_operand 56 rfl) (q := 105) rfl ?_
    refine x_callVv (as := []) cb_RX12_268 rfl (by decide) hk0 h_r0 (fun x hx => t_X12_ahead h_r0 x hx) hC (zdk dk_X12_operand 57 rfl) (q := 108) rfl rfl (Nat.le_of_ble_eq_true rfl) (fun M3 => ?_)
    refine x_iconst (i := 0) c_iconst_0 hC (zdk dk_X12_operand 58 rfl) (q := 109) rfl ?_
    exact x_iret (ty := .boolean) rfl hE hC (zdk dk_X12_operand 59 rfl)
  · refine x_iconst (i := 1) c_iconst_1 hC (zdk dk_X12_operand 45 rfl) (q := 87) rfl ?_
    exact x_iret (ty := .boolean) rfl hE hC (zdk dk_X12_operand 46 rfl)
set_option maxRecDepth 100000 in
def f_X12_operand_311  (r0 : Nat)  (M : Mem) : Option (Int32 × Mem) := some (0, M)
set_option maxRecDepth 100000 in
set_option maxHeartbeats 4000000 in
theorem x_X12_operand_311 {κ : KX} {n : Nat} (hC : CX κ cX12_operand RX12 4 (some .boolean) 3) (hE : zEnd κ n (0, 0)) (hk0 : zRk κ (0, 0)) {r0 : Nat} (h_r0 : zO n r0 12) (M : Mem) : X κ 4 emI n (0, 0) 311 [.null, .null, .null, .null] [] M (f_X12_operand_311 r0 M) := by
  unfold f_X12_operand_311
  refine x_iconst (i := 0) c_iconst_0 hC (zdk dk_X12_operand 162 rfl) (q := 312) rfl ?_
  exact x_iret (ty := .boolean) rfl hE hC (zdk dk_X12_operand 163 rfl)
set_option maxRecDepth 100000 in
def f_X12_operand_289  (r0 : Nat) (x3 : Int32) (s0 : Nat) (s1 : Int32) (M : Mem) : Option (Int32 × Mem) := Option.bind (f_X12_opens s0 s1 M) fun M4 => (if zI M4 r0 8 = 0 then Option.bind (zrf M4 r0 27) fun q5 => Option.bind (zld q5 ((zI M4 r0 29) - 1)) fun k6 => Option.bind (some (zsI M4 q5 k6 x3)) fun M7 => f_X12_operand_311 r0 M7 else f_X12_operand_311 r0 M4)
set_option maxRecDepth 100000 in
set_option maxHeartbeats 4000000 in
theorem x_X12_operand_289 {κ : KX} {n : Nat} (hC : CX κ cX12_operand RX12 4 (some .boolean) 3) (hE : zEnd κ n (0, 0)) (hk0 : zRk κ (0, 0)) {r0 : Nat} (h_r0 : zO n r0 12) (x3 : Int32) (s0 : Nat) (s1 : Int32) (M : Mem) (h_s0 : zO n s0 12) : X κ 4 emI n (0, 0) 289 [.ref r0, .null, .null, .int x3] [.int s1, .ref s0] M (f_X12_operand_289 r0 x3 s0 s1 M) := by
  unfold f_X12_operand_289
  refine x_callVv (as := [.int s1]) cb_RX12_348 rfl (by decide) hk0 h_s0 (fun x hx => t_X12_opens h_s0 x hx) hC (zdk dk_X12_operand 150 rfl) (q := 292) rfl rfl (Nat.le_of_ble_eq_true rfl) (fun M4 => ?_)
  refine x_aload_n (i := 0) rfl hC (zdk dk_X12_operand 151 rfl) (q := 293) rfl ?_
  refine x_getI fl_RX12_36 (by decide) h_r0 hC (zdk dk_X12_operand 152 rfl) (q := 296) rfl ?_
  refine x_if_ne (tgt := 311) hC (zdk dk_X12_operand 153 rfl) (q := 299) rfl rfl (fun _ => ?_) (fun _ => ?_)
  · refine x_weak (L' := [.null, .null, .null, .null]) ⟨Or.inl rfl, Or.inl rfl, Or.inl rfl, Or.inl rfl, trivial⟩ ?_
    exact x_X12_operand_311 hC hE hk0 h_r0 _
  · refine x_aload_n (i := 0) rfl hC (zdk dk_X12_operand 154 rfl) (q := 300) rfl ?_
    refine x_getR (k := 20) fl_RX12_95 rfl h_r0 hC (zdk dk_X12_operand 155 rfl) (q := 303) rfl (fun q5 hq5 => ?_)
    refine x_aload_n (i := 0) rfl hC (zdk dk_X12_operand 156 rfl) (q := 304) rfl ?_
    refine x_getI fl_RX12_101 (by decide) h_r0 hC (zdk dk_X12_operand 157 rfl) (q := 307) rfl ?_
    refine x_iconst (i := 1) c_iconst_1 hC (zdk dk_X12_operand 158 rfl) (q := 308) rfl ?_
    refine x_isub hC (zdk dk_X12_operand 159 rfl) (q := 309) rfl ?_
    refine x_iload_n (i := 3) rfl hC (zdk dk_X12_operand 160 rfl) (q := 310) rfl ?_
    refine x_iast hq5 hC (zdk dk_X12_operand 161 rfl) (q := 311) rfl (fun k6 _ => ?_)
    refine x_nmM (fun M7 => ?_)
    refine x_weak (L' := [.null, .null, .null, .null]) ⟨Or.inl rfl, Or.inl rfl, Or.inl rfl, Or.inl rfl, trivial⟩ ?_
    exact x_X12_operand_311 hC hE hk0 h_r0 _
set_option maxRecDepth 100000 in
def f_X12_operand_276  (r0 : Nat) (x3 : Int32) (M : Mem) : Option (Int32 × Mem) := (if x3 = 44 then f_X12_operand_289 r0 x3 r0 6 M else f_X12_operand_289 r0 x3 r0 3 M)
set_option maxRecDepth 100000 in
set_option maxHeartbeats 4000000 in
theorem x_X12_operand_276 {κ : KX} {n : Nat} (hC : CX κ cX12_operand RX12 4 (some .boolean) 3) (hE : zEnd κ n (0, 0)) (hk0 : zRk κ (0, 0)) {r0 : Nat} (h_r0 : zO n r0 12) (x3 : Int32) (M : Mem) : X κ 4 emI n (0, 0) 276 [.ref r0, .null, .null, .int x3] [] M (f_X12_operand_276 r0 x3 M) := by
  unfold f_X12_operand_276
  refine x_aload_n (i := 0) rfl hC (zdk dk_X12_operand 143 rfl) (q := 277) rfl ?_
  refine x_iload_n (i := 3) rfl hC (zdk dk_X12_operand 144 rfl) (q := 278) rfl ?_
  refine x_bipush (i := 44) c_bipush_44 hC (zdk dk_X12_operand 145 rfl) (q := 280) rfl ?_
  refine x_icmp_ne (tgt := 288) hC (zdk dk_X12_operand 146 rfl) (q := 283) rfl rfl (fun _ => ?_) (fun _ => ?_)
  · refine x_iconst (i := 3) c_iconst_3 hC (zdk dk_X12_operand 149 rfl) (q := 289) rfl ?_
    refine x_weak (L' := [.ref r0, .null, .null, .int x3]) ⟨Or.inr rfl, Or.inl rfl, Or.inl rfl, Or.inr rfl, trivial⟩ ?_
    exact x_X12_operand_289 hC hE hk0 h_r0 _ _ _ _ h_r0
  · refine x_bipush (i := 6) c_bipush_6 hC (zdk dk_X12_operand 147 rfl) (q := 285) rfl ?_
    refine x_goto (tgt := 289) hC (zdk dk_X12_operand 148 rfl) rfl ?_
    refine x_weak (L' := [.ref r0, .null, .null, .int x3]) ⟨Or.inr rfl, Or.inl rfl, Or.inl rfl, Or.inr rfl, trivial⟩ ?_
    exact x_X12_operand_289 hC hE hk0 h_r0 _ _ _ _ h_r0
set_option maxRecDepth 100000 in
def f_X12_operand_249  (r0 : Nat) (s0 : Int32) (M : Mem) : Option (Int32 × Mem) := Option.bind (f_X12_ahead r0 M) fun M8 => Option.bind (f_X12_lex r0 M8) fun M9 => Option.bind (f_X12_isSign r0 40 M9) fun z10 => (if z10.1 = 0 then Option.bind (f_X12_blame r0 1 (zI z10.2 r0 4) z10.2) fun M11 => f_X12_operand_276 r0 s0 M11 else f_X12_operand_276 r0 s0 z10.2)
set_option maxRecDepth 100000 in
set_option maxHeartbeats 4000000 in
theorem x_X12_operand_249 {κ : KX} {n : Nat} (hC : CX κ cX12_operand RX12 4 (some .boolean) 3) (hE : zEnd κ n (0, 0)) (hk0 : zRk κ (0, 0)) {r0 : Nat} (h_r0 : zO n r0 12) (s0 : Int32) (M : Mem) : X κ 4 emI n (0, 0) 249 [.ref r0, .null, .null, .null] [.int s0] M (f_X12_operand_249 r0 s0 M) := by
  unfold f_X12_operand_249
  refine x_istore_n (i := 3) (L' := [.ref r0, .null, .null, .int s0]) (by decide) rfl hC (zdk dk_X12_operand 129 rfl) (q := 250) rfl ?_
  refine x_aload_n (i := 0) rfl hC (zdk dk_X12_operand 130 rfl) (q := 251) rfl ?_
  refine x_callVv (as := []) cb_RX12_268 rfl (by decide) hk0 h_r0 (fun x hx => t_X12_ahead h_r0 x hx) hC (zdk dk_X12_operand 131 rfl) (q := 254) rfl rfl (Nat.le_of_ble_eq_true rfl) (fun M8 => ?_)
  refine x_aload_n (i := 0) rfl hC (zdk dk_X12_operand 132 rfl) (q := 255) rfl ?_
  refine x_callVv (as := []) cb_RX12_262 rfl (by decide) hk0 h_r0 (fun x hx => t_X12_lex h_r0 x hx) hC (zdk dk_X12_operand 133 rfl) (q := 258) rfl rfl (Nat.le_of_ble_eq_true rfl) (fun M9 => ?_)
  refine x_aload_n (i := 0) rfl hC (zdk dk_X12_operand 134 rfl) (q := 259) rfl ?_
  refine x_bipush (i := 40) c_bipush_40 hC (zdk dk_X12_operand 135 rfl) (q := 261) rfl ?_
  refine x_callVi (as := [.int 40]) cb_RX12_265 rfl (by decide) hk0 h_r0 (fun x hx => t_X12_isSign h_r0 x hx) hC (zdk dk_X12_operand 136 rfl) (q := 264) rfl rfl (Nat.le_of_ble_eq_true rfl) (fun z10 => ?_)
  refine x_if_ne (tgt := 276) hC (zdk dk_X12_operand 137 rfl) (q := 267) rfl rfl (fun _ => ?_) (fun _ => ?_)
  · refine x_weak (L' := [.ref r0, .null, .null, .int s0]) ⟨Or.inr rfl, Or.inl rfl, Or.inl rfl, Or.inr rfl, trivial⟩ ?_
    exact x_X12_operand_276 hC hE hk0 h_r0 _ _
  · refine x_aload_n (i := 0) rfl hC (zdk dk_X12_operand 138 rfl) (q := 268) rfl ?_
    refine x_iconst (i := 1) c_iconst_1 hC (zdk dk_X12_operand 139 rfl) (q := 269) rfl ?_
    refine x_aload_n (i := 0) rfl hC (zdk dk_X12_operand 140 rfl) (q := 270) rfl ?_
    refine x_getI fl_RX12_23 (by decide) h_r0 hC (zdk dk_X12_operand 141 rfl) (q := 273) rfl ?_
    refine x_callVv (as := [.int 1, .int (zI z10.2 r0 4)]) cb_RX12_251 rfl (by decide) hk0 h_r0 (fun x hx => t_X12_blame h_r0 x hx) hC (zdk dk_X12_operand 142 rfl) (q := 276) rfl rfl (Nat.le_of_ble_eq_true rfl) (fun M11 => ?_)
    refine x_weak (L' := [.ref r0, .null, .null, .int s0]) ⟨Or.inr rfl, Or.inl rfl, Or.inl rfl, Or.inr rfl, trivial⟩ ?_
    exact x_X12_operand_276 hC hE hk0 h_r0 _ _
set_option maxRecDepth 100000 in
def f_X12_operand_217  (r0 : Nat)  (M : Mem) : Option (Int32 × Mem) := Option.bind (f_X12_isWord r0 7170414 M) fun z12 => (if z12.1 = 0 then Option.bind (f_X12_isWord r0 7168376 z12.2) fun z13 => (if z13.1 = 0 then f_X12_operand_249 r0 44 z13.2 else f_X12_operand_249 r0 37 z13.2) else f_X12_operand_249 r0 36 z12.2)
set_option maxRecDepth 100000 in
set_option maxHeartbeats 4000000 in
theorem x_X12_operand_217 {κ : KX} {n : Nat} (hC : CX κ cX12_operand RX12 4 (some .boolean) 3) (hE : zEnd κ n (0, 0)) (hk0 : zRk κ (0, 0)) {r0 : Nat} (h_r0 : zO n r0 12) (M : Mem) : X κ 4 emI n (0, 0) 217 [.ref r0, .null, .null, .null] [] M (f_X12_operand_217 r0 M) := by
  unfold f_X12_operand_217
  refine x_aload_n (i := 0) rfl hC (zdk dk_X12_operand 116 rfl) (q := 218) rfl ?_
  refine x_ldc2 k_RX12_321 hC (zdk dk_X12_operand 117 rfl) (q := 221) rfl ?_
  refine x_callVi (as := [.long 7170414]) cb_RX12_341 rfl (by decide) hk0 h_r0 (fun x hx => t_X12_isWord h_r0 x hx) hC (zdk dk_X12_operand 118 rfl) (q := 224) rfl rfl (Nat.le_of_ble_eq_true rfl) (fun z12 => ?_)
  refine x_if_eq (tgt := 232) hC (zdk dk_X12_operand 119 rfl) (q := 227) rfl rfl (fun _ => ?_) (fun _ => ?_)
  · refine x_aload_n (i := 0) rfl hC (zdk dk_X12_operand 122 rfl) (q := 233) rfl ?_
    refine x_ldc2 k_RX12_323 hC (zdk dk_X12_operand 123 rfl) (q := 236) rfl ?_
    refine x_callVi (as := [.long 7168376]) cb_RX12_341 rfl (by decide) hk0 h_r0 (fun x hx => t_X12_isWord h_r0 x hx) hC (zdk dk_X12_operand 124 rfl) (q := 239) rfl rfl (Nat.le_of_ble_eq_true rfl) (fun z13 => ?_)
    refine x_if_eq (tgt := 247) hC (zdk dk_X12_operand 125 rfl) (q := 242) rfl rfl (fun _ => ?_) (fun _ => ?_)
    · refine x_bipush (i := 44) c_bipush_44 hC (zdk dk_X12_operand 128 rfl) (q := 249) rfl ?_
      refine x_weak (L' := [.ref r0, .null, .null, .null]) ⟨Or.inr rfl, Or.inl rfl, Or.inl rfl, Or.inl rfl, trivial⟩ ?_
      exact x_X12_operand_249 hC hE hk0 h_r0 _ _
    · refine x_bipush (i := 37) c_bipush_37 hC (zdk dk_X12_operand 126 rfl) (q := 244) rfl ?_
      refine x_goto (tgt := 249) hC (zdk dk_X12_operand 127 rfl) rfl ?_
      refine x_weak (L' := [.ref r0, .null, .null, .null]) ⟨Or.inr rfl, Or.inl rfl, Or.inl rfl, Or.inl rfl, trivial⟩ ?_
      exact x_X12_operand_249 hC hE hk0 h_r0 _ _
  · refine x_bipush (i := 36) c_bipush_36 hC (zdk dk_X12_operand 120 rfl) (q := 229) rfl ?_
    refine x_goto (tgt := 249) hC (zdk dk_X12_operand 121 rfl) rfl ?_
    refine x_weak (L' := [.ref r0, .null, .null, .null]) ⟨Or.inr rfl, Or.inl rfl, Or.inl rfl, Or.inl rfl, trivial⟩ ?_
    exact x_X12_operand_249 hC hE hk0 h_r0 _ _
set_option maxRecDepth 100000 in
def f_X12_operand_505  (r0 : Nat) (x3 : Int32) (M : Mem) : Option (Int32 × Mem) := (if zI M r0 8 ≤ 0 then Option.bind (f_X12_add r0 x3 (zI M r0 6) M) fun M14 => Option.bind (f_X12_ahead r0 M14) fun M15 => some (1, M15) else some (1, M))
set_option maxRecDepth 100000 in
set_option maxHeartbeats 4000000 in
theorem x_X12_operand_505 {κ : KX} {n : Nat} (hC : CX κ cX12_operand RX12 4 (some .boolean) 3) (hE : zEnd κ n (0, 0)) (hk0 : zRk κ (0, 0)) {r0 : Nat} (h_r0 : zO n r0 12) (x3 : Int32) (M : Mem) : X κ 4 emI n (0, 0) 505 [.ref r0, .null, .null, .int x3] [] M (f_X12_operand_505 r0 x3 M) := by
  unfold f_X12_operand_505
  refine x_aload_n (i := 0) rfl hC (zdk dk_X12_operand 253 rfl) (q := 506) rfl ?_
  refine x_getI fl_RX12_36 (by decide) h_r0 hC (zdk dk_X12_operand 254 rfl) (q := 509) rfl ?_
  refine x_if_le (tgt := 514) hC (zdk dk_X12_operand 255 rfl) (q := 512) rfl rfl (fun _ => ?_) (fun _ => ?_)
  · refine x_aload_n (i := 0) rfl hC (zdk dk_X12_operand 258 rfl) (q := 515) rfl ?_
    refine x_iload_n (i := 3) rfl hC (zdk dk_X12_operand 259 rfl) (q := 516) rfl ?_
    refine x_aload_n (i := 0) rfl hC (zdk dk_X12_operand 260 rfl) (q := 517) rfl ?_
    refine x_getI fl_RX12_29 (by decide) h_r0 hC (zdk dk_X12_operand 261 rfl) (q := 520) rfl ?_
    refine x_callVv (as := [.int x3, .int (zI M r0 6)]) cb_RX12_332 rfl (by decide) hk0 h_r0 (fun x hx => t_X12_add h_r0 x hx) hC (zdk dk_X12_operand 262 rfl) (q := 523) rfl rfl (Nat.le_of_ble_eq_true rfl) (fun M14 => ?_)
    refine x_aload_n (i := 0) rfl hC (zdk dk_X12_operand 263 rfl) (q := 524) rfl ?_
    refine x_callVv (as := []) cb_RX12_268 rfl (by decide) hk0 h_r0 (fun x hx => t_X12_ahead h_r0 x hx) hC (zdk dk_X12_operand 264 rfl) (q := 527) rfl rfl (Nat.le_of_ble_eq_true rfl) (fun M15 => ?_)
    refine x_iconst (i := 1) c_iconst_1 hC (zdk dk_X12_operand 265 rfl) (q := 528) rfl ?_
    exact x_iret (ty := .boolean) rfl hE hC (zdk dk_X12_operand 266 rfl)
  · refine x_iconst (i := 1) c_iconst_1 hC (zdk dk_X12_operand 256 rfl) (q := 513) rfl ?_
    exact x_iret (ty := .boolean) rfl hE hC (zdk dk_X12_operand 257 rfl)
set_option maxRecDepth 100000 in
def f_X12_operand_491  (r0 : Nat) (x3 : Int32) (M : Mem) : Option (Int32 × Mem) := (if x3 = (-1) then Option.bind (f_X12_blame r0 1 (zI M r0 4) M) fun M16 => f_X12_operand_505 r0 x3 M16 else f_X12_operand_505 r0 x3 M)
set_option maxRecDepth 100000 in
set_option maxHeartbeats 4000000 in
theorem x_X12_operand_491 {κ : KX} {n : Nat} (hC : CX κ cX12_operand RX12 4 (some .boolean) 3) (hE : zEnd κ n (0, 0)) (hk0 : zRk κ (0, 0)) {r0 : Nat} (h_r0 : zO n r0 12) (x3 : Int32) (M : Mem) : X κ 4 emI n (0, 0) 491 [.ref r0, .null, .null, .int x3] [] M (f_X12_operand_491 r0 x3 M) := by
  unfold f_X12_operand_491
  refine x_iload_n (i := 3) rfl hC (zdk dk_X12_operand 245 rfl) (q := 492) rfl ?_
  refine x_iconst (i := (-1)) c_iconst_m1 hC (zdk dk_X12_operand 246 rfl) (q := 493) rfl ?_
  refine x_icmp_ne (tgt := 505) hC (zdk dk_X12_operand 247 rfl) (q := 496) rfl rfl (fun _ => ?_) (fun _ => ?_)
  · refine x_weak (L' := [.ref r0, .null, .null, .int x3]) ⟨Or.inr rfl, Or.inl rfl, Or.inl rfl, Or.inr rfl, trivial⟩ ?_
    exact x_X12_operand_505 hC hE hk0 h_r0 _ _
  · refine x_aload_n (i := 0) rfl hC (zdk dk_X12_operand 248 rfl) (q := 497) rfl ?_
    refine x_iconst (i := 1) c_iconst_1 hC (zdk dk_X12_operand 249 rfl) (q := 498) rfl ?_
    refine x_aload_n (i := 0) rfl hC (zdk dk_X12_operand 250 rfl) (q := 499) rfl ?_
    refine x_getI fl_RX12_23 (by decide) h_r0 hC (zdk dk_X12_operand 251 rfl) (q := 502) rfl ?_
    refine x_callVv (as := [.int 1, .int (zI M r0 4)]) cb_RX12_251 rfl (by decide) hk0 h_r0 (fun x hx => t_X12_blame h_r0 x hx) hC (zdk dk_X12_operand 252 rfl) (q := 505) rfl rfl (Nat.le_of_ble_eq_true rfl) (fun M16 => ?_)
    refine x_weak (L' := [.ref r0, .null, .null, .int x3]) ⟨Or.inr rfl, Or.inl rfl, Or.inl rfl, Or.inr rfl, trivial⟩ ?_
    exact x_X12_operand_505 hC hE hk0 h_r0 _ _
set_option maxRecDepth 100000 in
def f_X12_operand_486  (r0 : Nat) (x3 : Int32) (s0 : Int32) (s1 : Int32) (M : Mem) : Option (Int32 × Mem) := (if s0 = s1 then f_X12_operand_491 r0 x3 M else f_X12_operand_491 r0 ((-1)) M)
set_option maxRecDepth 100000 in
set_option maxHeartbeats 4000000 in
theorem x_X12_operand_486 {κ : KX} {n : Nat} (hC : CX κ cX12_operand RX12 4 (some .boolean) 3) (hE : zEnd κ n (0, 0)) (hk0 : zRk κ (0, 0)) {r0 : Nat} (h_r0 : zO n r0 12) (x3 : Int32) (s0 : Int32) (s1 : Int32) (M : Mem) : X κ 4 emI n (0, 0) 486 [.ref r0, .null, .null, .int x3] [.int s1, .int s0] M (f_X12_operand_486 r0 x3 s0 s1 M) := by
  unfold f_X12_operand_486
  refine x_icmp_eq (tgt := 491) hC (zdk dk_X12_operand 242 rfl) (q := 489) rfl rfl (fun _ => ?_) (fun _ => ?_)
  · refine x_weak (L' := [.ref r0, .null, .null, .int x3]) ⟨Or.inr rfl, Or.inl rfl, Or.inl rfl, Or.inr rfl, trivial⟩ ?_
    exact x_X12_operand_491 hC hE hk0 h_r0 _ _
  · refine x_iconst (i := (-1)) c_iconst_m1 hC (zdk dk_X12_operand 243 rfl) (q := 490) rfl ?_
    refine x_istore_n (i := 3) (L' := [.ref r0, .null, .null, .int ((-1))]) (by decide) rfl hC (zdk dk_X12_operand 244 rfl) (q := 491) rfl ?_
    refine x_weak (L' := [.ref r0, .null, .null, .int ((-1))]) ⟨Or.inr rfl, Or.inl rfl, Or.inl rfl, Or.inr rfl, trivial⟩ ?_
    exact x_X12_operand_491 hC hE hk0 h_r0 _ _
set_option maxRecDepth 100000 in
def f_X12_operand_473  (r0 : Nat) (x3 : Int32) (s0 : Int32) (M : Mem) : Option (Int32 × Mem) := (if zI M r0 23 = 1 then f_X12_operand_486 r0 x3 s0 1 M else f_X12_operand_486 r0 x3 s0 0 M)
set_option maxRecDepth 100000 in
set_option maxHeartbeats 4000000 in
theorem x_X12_operand_473 {κ : KX} {n : Nat} (hC : CX κ cX12_operand RX12 4 (some .boolean) 3) (hE : zEnd κ n (0, 0)) (hk0 : zRk κ (0, 0)) {r0 : Nat} (h_r0 : zO n r0 12) (x3 : Int32) (s0 : Int32) (M : Mem) : X κ 4 emI n (0, 0) 473 [.ref r0, .null, .null, .int x3] [.int s0] M (f_X12_operand_473 r0 x3 s0 M) := by
  unfold f_X12_operand_473
  refine x_aload_n (i := 0) rfl hC (zdk dk_X12_operand 235 rfl) (q := 474) rfl ?_
  refine x_getI fl_RX12_82 (by decide) h_r0 hC (zdk dk_X12_operand 236 rfl) (q := 477) rfl ?_
  refine x_iconst (i := 1) c_iconst_1 hC (zdk dk_X12_operand 237 rfl) (q := 478) rfl ?_
  refine x_icmp_ne (tgt := 485) hC (zdk dk_X12_operand 238 rfl) (q := 481) rfl rfl (fun _ => ?_) (fun _ => ?_)
  · refine x_iconst (i := 0) c_iconst_0 hC (zdk dk_X12_operand 241 rfl) (q := 486) rfl ?_
    refine x_weak (L' := [.ref r0, .null, .null, .int x3]) ⟨Or.inr rfl, Or.inl rfl, Or.inl rfl, Or.inr rfl, trivial⟩ ?_
    exact x_X12_operand_486 hC hE hk0 h_r0 _ _ _ _
  · refine x_iconst (i := 1) c_iconst_1 hC (zdk dk_X12_operand 239 rfl) (q := 482) rfl ?_
    refine x_goto (tgt := 486) hC (zdk dk_X12_operand 240 rfl) rfl ?_
    refine x_weak (L' := [.ref r0, .null, .null, .int x3]) ⟨Or.inr rfl, Or.inl rfl, Or.inl rfl, Or.inr rfl, trivial⟩ ?_
    exact x_X12_operand_486 hC hE hk0 h_r0 _ _ _ _
set_option maxRecDepth 100000 in
def f_X12_operand_456  (r0 : Nat) (s0 : Int32) (M : Mem) : Option (Int32 × Mem) := (if s0 < 1 then f_X12_operand_491 r0 s0 M else (if s0 < 7 then f_X12_operand_473 r0 s0 0 M else f_X12_operand_473 r0 s0 1 M))
set_option maxRecDepth 100000 in
set_option maxHeartbeats 4000000 in
theorem x_X12_operand_456 {κ : KX} {n : Nat} (hC : CX κ cX12_operand RX12 4 (some .boolean) 3) (hE : zEnd κ n (0, 0)) (hk0 : zRk κ (0, 0)) {r0 : Nat} (h_r0 : zO n r0 12) (s0 : Int32) (M : Mem) : X κ 4 emI n (0, 0) 456 [.ref r0, .null, .null, .null] [.int s0] M (f_X12_operand_456 r0 s0 M) := by
  unfold f_X12_operand_456
  refine x_istore_n (i := 3) (L' := [.ref r0, .null, .null, .int s0]) (by decide) rfl hC (zdk dk_X12_operand 225 rfl) (q := 457) rfl ?_
  refine x_iload_n (i := 3) rfl hC (zdk dk_X12_operand 226 rfl) (q := 458) rfl ?_
  refine x_iconst (i := 1) c_iconst_1 hC (zdk dk_X12_operand 227 rfl) (q := 459) rfl ?_
  refine x_icmp_lt (tgt := 491) hC (zdk dk_X12_operand 228 rfl) (q := 462) rfl rfl (fun _ => ?_) (fun _ => ?_)
  · refine x_weak (L' := [.ref r0, .null, .null, .int s0]) ⟨Or.inr rfl, Or.inl rfl, Or.inl rfl, Or.inr rfl, trivial⟩ ?_
    exact x_X12_operand_491 hC hE hk0 h_r0 _ _
  · refine x_iload_n (i := 3) rfl hC (zdk dk_X12_operand 229 rfl) (q := 463) rfl ?_
    refine x_bipush (i := 7) c_bipush_7 hC (zdk dk_X12_operand 230 rfl) (q := 465) rfl ?_
    refine x_icmp_lt (tgt := 472) hC (zdk dk_X12_operand 231 rfl) (q := 468) rfl rfl (fun _ => ?_) (fun _ => ?_)
    · refine x_iconst (i := 0) c_iconst_0 hC (zdk dk_X12_operand 234 rfl) (q := 473) rfl ?_
      refine x_weak (L' := [.ref r0, .null, .null, .int s0]) ⟨Or.inr rfl, Or.inl rfl, Or.inl rfl, Or.inr rfl, trivial⟩ ?_
      exact x_X12_operand_473 hC hE hk0 h_r0 _ _ _
    · refine x_iconst (i := 1) c_iconst_1 hC (zdk dk_X12_operand 232 rfl) (q := 469) rfl ?_
      refine x_goto (tgt := 473) hC (zdk dk_X12_operand 233 rfl) rfl ?_
      refine x_weak (L' := [.ref r0, .null, .null, .int s0]) ⟨Or.inr rfl, Or.inl rfl, Or.inl rfl, Or.inr rfl, trivial⟩ ?_
      exact x_X12_operand_473 hC hE hk0 h_r0 _ _ _
set_option maxRecDepth 100000 in
def f_X12_operand_171  (r0 : Nat)  (M : Mem) : Option (Int32 × Mem) := Option.bind (f_X12_isSign r0 40 M) fun z17 => (if z17.1 = 0 then Option.bind (f_X12_isWord r0 7170414 z17.2) fun z18 => (if z18.1 = 0 then Option.bind (f_X12_isWord r0 7168376 z18.2) fun z19 => (if z19.1 = 0 then Option.bind (f_X12_isWord r0 26982 z19.2) fun z20 => (if z20.1 = 0 then (if zI z20.2 r0 3 = 2 then f_X12_operand_456 r0 0 z20.2 else Option.bind (f_X12_isWord r0 6578553 z20.2) fun z21 => (if z21.1 = 0 then Option.bind (f_X12_isWord r0 1885431653 z21.2) fun z22 => (if z22.1 = 0 then Option.bind (f_X12_isWord r0 1667591276 z22.2) fun z23 => (if z23.1 = 0 then Option.bind (f_X12_isWord r0 465558725996 z23.2) fun z24 => (if z24.1 = 0 then Option.bind (f_X12_isWord r0 6449524 z24.2) fun z25 => (if z25.1 = 0 then Option.bind (f_X12_isWord r0 6383461 z25.2) fun z26 => (if z26.1 = 0 then Option.bind (f_X12_isWord r0 500135716196 z26.2) fun z27 => (if z27.1 = 0 then Option.bind (f_X12_isWord r0 6775152 z27.2) fun z28 => (if z28.1 = 0 then Option.bind (f_X12_isWord r0 24948 z28.2) fun z29 => (if z29.1 = 0 then f_X12_operand_456 r0 ((-1)) z29.2 else f_X12_operand_456 r0 9 z29.2) else f_X12_operand_456 r0 8 z28.2) else f_X12_operand_456 r0 7 z27.2) else f_X12_operand_456 r0 6 z26.2) else f_X12_operand_456 r0 5 z25.2) else f_X12_operand_456 r0 4 z24.2) else f_X12_operand_456 r0 3 z23.2) else f_X12_operand_456 r0 2 z22.2) else f_X12_operand_456 r0 1 z21.2)) else f_X12_operand_217 r0 z20.2) else f_X12_operand_217 r0 z19.2) else f_X12_operand_217 r0 z18.2) else Option.bind (f_X12_opens r0 2 z17.2) fun M30 => some (0, M30))
set_option maxRecDepth 100000 in
set_option maxHeartbeats 4000000 in
theorem x_X12_operand_171 {κ : KX} {n : Nat} (hC : CX κ cX12_operand RX12 4 (some .boolean) 3) (hE : zEnd κ n (0, 0)) (hk0 : zRk κ (0, 0)) {r0 : Nat} (h_r0 : zO n r0 12) (M : Mem) : X κ 4 emI n (0, 0) 171 [.ref r0, .null, .null, .null] [] M (f_X12_operand_171 r0 M) := by
  unfold f_X12_operand_171
  refine x_aload_n (i := 0) rfl hC (zdk dk_X12_operand 95 rfl) (q := 172) rfl ?_
  refine x_bipush (i := 40) c_bipush_40 hC (zdk dk_X12_operand 96 rfl) (q := 174) rfl ?_
  refine x_callVi (as := [.int 40]) cb_RX12_265 rfl (by decide) hk0 h_r0 (fun x hx => t_X12_isSign h_r0 x hx) hC (zdk dk_X12_operand 97 rfl) (q := 177) rfl rfl (Nat.le_of_ble_eq_true rfl) (fun z17 => ?_)
  refine x_if_eq (tgt := 187) hC (zdk dk_X12_operand 98 rfl) (q := 180) rfl rfl (fun _ => ?_) (fun _ => ?_)
  · refine x_aload_n (i := 0) rfl hC (zdk dk_X12_operand 104 rfl) (q := 188) rfl ?_
    refine x_ldc2 k_RX12_321 hC (zdk dk_X12_operand 105 rfl) (q := 191) rfl ?_
    refine x_callVi (as := [.long 7170414]) cb_RX12_341 rfl (by decide) hk0 h_r0 (fun x hx => t_X12_isWord h_r0 x hx) hC (zdk dk_X12_operand 106 rfl) (q := 194) rfl rfl (Nat.le_of_ble_eq_true rfl) (fun z18 => ?_)
    refine x_if_ne (tgt := 217) hC (zdk dk_X12_operand 107 rfl) (q := 197) rfl rfl (fun _ => ?_) (fun _ => ?_)
    · refine x_weak (L' := [.ref r0, .null, .null, .null]) ⟨Or.inr rfl, Or.inl rfl, Or.inl rfl, Or.inl rfl, trivial⟩ ?_
      exact x_X12_operand_217 hC hE hk0 h_r0 _
    · refine x_aload_n (i := 0) rfl hC (zdk dk_X12_operand 108 rfl) (q := 198) rfl ?_
      refine x_ldc2 k_RX12_323 hC (zdk dk_X12_operand 109 rfl) (q := 201) rfl ?_
      refine x_callVi (as := [.long 7168376]) cb_RX12_341 rfl (by decide) hk0 h_r0 (fun x hx => t_X12_isWord h_r0 x hx) hC (zdk dk_X12_operand 110 rfl) (q := 204) rfl rfl (Nat.le_of_ble_eq_true rfl) (fun z19 => ?_)
      refine x_if_ne (tgt := 217) hC (zdk dk_X12_operand 111 rfl) (q := 207) rfl rfl (fun _ => ?_) (fun _ => ?_)
      · refine x_weak (L' := [.ref r0, .null, .null, .null]) ⟨Or.inr rfl, Or.inl rfl, Or.inl rfl, Or.inl rfl, trivial⟩ ?_
        exact x_X12_operand_217 hC hE hk0 h_r0 _
      · refine x_aload_n (i := 0) rfl hC (zdk dk_X12_operand 112 rfl) (q := 208) rfl ?_
        refine x_ldc2 k_RX12_311 hC (zdk dk_X12_operand 113 rfl) (q := 211) rfl ?_
        refine x_callVi (as := [.long 26982]) cb_RX12_341 rfl (by decide) hk0 h_r0 (fun x hx => t_X12_isWord h_r0 x hx) hC (zdk dk_X12_operand 114 rfl) (q := 214) rfl rfl (Nat.le_of_ble_eq_true rfl) (fun z20 => ?_)
        refine x_if_eq (tgt := 313) hC (zdk dk_X12_operand 115 rfl) (q := 217) rfl rfl (fun _ => ?_) (fun _ => ?_)
        · refine x_aload_n (i := 0) rfl hC (zdk dk_X12_operand 164 rfl) (q := 314) rfl ?_
          refine x_getI fl_RX12_20 (by decide) h_r0 hC (zdk dk_X12_operand 165 rfl) (q := 317) rfl ?_
          refine x_iconst (i := 2) c_iconst_2 hC (zdk dk_X12_operand 166 rfl) (q := 318) rfl ?_
          refine x_icmp_ne (tgt := 325) hC (zdk dk_X12_operand 167 rfl) (q := 321) rfl rfl (fun _ => ?_) (fun _ => ?_)
          · refine x_aload_n (i := 0) rfl hC (zdk dk_X12_operand 170 rfl) (q := 326) rfl ?_
            refine x_ldc2 k_RX12_295 hC (zdk dk_X12_operand 171 rfl) (q := 329) rfl ?_
            refine x_callVi (as := [.long 6578553]) cb_RX12_341 rfl (by decide) hk0 h_r0 (fun x hx => t_X12_isWord h_r0 x hx) hC (zdk dk_X12_operand 172 rfl) (q := 332) rfl rfl (Nat.le_of_ble_eq_true rfl) (fun z21 => ?_)
            refine x_if_eq (tgt := 339) hC (zdk dk_X12_operand 173 rfl) (q := 335) rfl rfl (fun _ => ?_) (fun _ => ?_)
            · refine x_aload_n (i := 0) rfl hC (zdk dk_X12_operand 176 rfl) (q := 340) rfl ?_
              refine x_ldc2 k_RX12_279 hC (zdk dk_X12_operand 177 rfl) (q := 343) rfl ?_
              refine x_callVi (as := [.long 1885431653]) cb_RX12_341 rfl (by decide) hk0 h_r0 (fun x hx => t_X12_isWord h_r0 x hx) hC (zdk dk_X12_operand 178 rfl) (q := 346) rfl rfl (Nat.le_of_ble_eq_true rfl) (fun z22 => ?_)
              refine x_if_eq (tgt := 353) hC (zdk dk_X12_operand 179 rfl) (q := 349) rfl rfl (fun _ => ?_) (fun _ => ?_)
              · refine x_aload_n (i := 0) rfl hC (zdk dk_X12_operand 182 rfl) (q := 354) rfl ?_
                refine x_ldc2 k_RX12_297 hC (zdk dk_X12_operand 183 rfl) (q := 357) rfl ?_
                refine x_callVi (as := [.long 1667591276]) cb_RX12_341 rfl (by decide) hk0 h_r0 (fun x hx => t_X12_isWord h_r0 x hx) hC (zdk dk_X12_operand 184 rfl) (q := 360) rfl rfl (Nat.le_of_ble_eq_true rfl) (fun z23 => ?_)
                refine x_if_eq (tgt := 367) hC (zdk dk_X12_operand 185 rfl) (q := 363) rfl rfl (fun _ => ?_) (fun _ => ?_)
                · refine x_aload_n (i := 0) rfl hC (zdk dk_X12_operand 188 rfl) (q := 368) rfl ?_
                  refine x_ldc2 k_RX12_299 hC (zdk dk_X12_operand 189 rfl) (q := 371) rfl ?_
                  refine x_callVi (as := [.long 465558725996]) cb_RX12_341 rfl (by decide) hk0 h_r0 (fun x hx => t_X12_isWord h_r0 x hx) hC (zdk dk_X12_operand 190 rfl) (q := 374) rfl rfl (Nat.le_of_ble_eq_true rfl) (fun z24 => ?_)
                  refine x_if_eq (tgt := 381) hC (zdk dk_X12_operand 191 rfl) (q := 377) rfl rfl (fun _ => ?_) (fun _ => ?_)
                  · refine x_aload_n (i := 0) rfl hC (zdk dk_X12_operand 194 rfl) (q := 382) rfl ?_
                    refine x_ldc2 k_RX12_301 hC (zdk dk_X12_operand 195 rfl) (q := 385) rfl ?_
                    refine x_callVi (as := [.long 6449524]) cb_RX12_341 rfl (by decide) hk0 h_r0 (fun x hx => t_X12_isWord h_r0 x hx) hC (zdk dk_X12_operand 196 rfl) (q := 388) rfl rfl (Nat.le_of_ble_eq_true rfl) (fun z25 => ?_)
                    refine x_if_eq (tgt := 395) hC (zdk dk_X12_operand 197 rfl) (q := 391) rfl rfl (fun _ => ?_) (fun _ => ?_)
                    · refine x_aload_n (i := 0) rfl hC (zdk dk_X12_operand 200 rfl) (q := 396) rfl ?_
                      refine x_ldc2 k_RX12_303 hC (zdk dk_X12_operand 201 rfl) (q := 399) rfl ?_
                      refine x_callVi (as := [.long 6383461]) cb_RX12_341 rfl (by decide) hk0 h_r0 (fun x hx => t_X12_isWord h_r0 x hx) hC (zdk dk_X12_operand 202 rfl) (q := 402) rfl rfl (Nat.le_of_ble_eq_true rfl) (fun z26 => ?_)
                      refine x_if_eq (tgt := 410) hC (zdk dk_X12_operand 203 rfl) (q := 405) rfl rfl (fun _ => ?_) (fun _ => ?_)
                      · refine x_aload_n (i := 0) rfl hC (zdk dk_X12_operand 206 rfl) (q := 411) rfl ?_
                        refine x_ldc2 k_RX12_305 hC (zdk dk_X12_operand 207 rfl) (q := 414) rfl ?_
                        refine x_callVi (as := [.long 500135716196]) cb_RX12_341 rfl (by decide) hk0 h_r0 (fun x hx => t_X12_isWord h_r0 x hx) hC (zdk dk_X12_operand 208 rfl) (q := 417) rfl rfl (Nat.le_of_ble_eq_true rfl) (fun z27 => ?_)
                        refine x_if_eq (tgt := 425) hC (zdk dk_X12_operand 209 rfl) (q := 420) rfl rfl (fun _ => ?_) (fun _ => ?_)
                        · refine x_aload_n (i := 0) rfl hC (zdk dk_X12_operand 212 rfl) (q := 426) rfl ?_
                          refine x_ldc2 k_RX12_307 hC (zdk dk_X12_operand 213 rfl) (q := 429) rfl ?_
                          refine x_callVi (as := [.long 6775152]) cb_RX12_341 rfl (by decide) hk0 h_r0 (fun x hx => t_X12_isWord h_r0 x hx) hC (zdk dk_X12_operand 214 rfl) (q := 432) rfl rfl (Nat.le_of_ble_eq_true rfl) (fun z28 => ?_)
                          refine x_if_eq (tgt := 440) hC (zdk dk_X12_operand 215 rfl) (q := 435) rfl rfl (fun _ => ?_) (fun _ => ?_)
                          · refine x_aload_n (i := 0) rfl hC (zdk dk_X12_operand 218 rfl) (q := 441) rfl ?_
                            refine x_ldc2 k_RX12_309 hC (zdk dk_X12_operand 219 rfl) (q := 444) rfl ?_
                            refine x_callVi (as := [.long 24948]) cb_RX12_341 rfl (by decide) hk0 h_r0 (fun x hx => t_X12_isWord h_r0 x hx) hC (zdk dk_X12_operand 220 rfl) (q := 447) rfl rfl (Nat.le_of_ble_eq_true rfl) (fun z29 => ?_)
                            refine x_if_eq (tgt := 455) hC (zdk dk_X12_operand 221 rfl) (q := 450) rfl rfl (fun _ => ?_) (fun _ => ?_)
                            · refine x_iconst (i := (-1)) c_iconst_m1 hC (zdk dk_X12_operand 224 rfl) (q := 456) rfl ?_
                              refine x_weak (L' := [.ref r0, .null, .null, .null]) ⟨Or.inr rfl, Or.inl rfl, Or.inl rfl, Or.inl rfl, trivial⟩ ?_
                              exact x_X12_operand_456 hC hE hk0 h_r0 _ _
                            · refine x_bipush (i := 9) c_bipush_9 hC (zdk dk_X12_operand 222 rfl) (q := 452) rfl ?_
                              refine x_goto (tgt := 456) hC (zdk dk_X12_operand 223 rfl) rfl ?_
                              refine x_weak (L' := [.ref r0, .null, .null, .null]) ⟨Or.inr rfl, Or.inl rfl, Or.inl rfl, Or.inl rfl, trivial⟩ ?_
                              exact x_X12_operand_456 hC hE hk0 h_r0 _ _
                          · refine x_bipush (i := 8) c_bipush_8 hC (zdk dk_X12_operand 216 rfl) (q := 437) rfl ?_
                            refine x_goto (tgt := 456) hC (zdk dk_X12_operand 217 rfl) rfl ?_
                            refine x_weak (L' := [.ref r0, .null, .null, .null]) ⟨Or.inr rfl, Or.inl rfl, Or.inl rfl, Or.inl rfl, trivial⟩ ?_
                            exact x_X12_operand_456 hC hE hk0 h_r0 _ _
                        · refine x_bipush (i := 7) c_bipush_7 hC (zdk dk_X12_operand 210 rfl) (q := 422) rfl ?_
                          refine x_goto (tgt := 456) hC (zdk dk_X12_operand 211 rfl) rfl ?_
                          refine x_weak (L' := [.ref r0, .null, .null, .null]) ⟨Or.inr rfl, Or.inl rfl, Or.inl rfl, Or.inl rfl, trivial⟩ ?_
                          exact x_X12_operand_456 hC hE hk0 h_r0 _ _
                      · refine x_bipush (i := 6) c_bipush_6 hC (zdk dk_X12_operand 204 rfl) (q := 407) rfl ?_
                        refine x_goto (tgt := 456) hC (zdk dk_X12_operand 205 rfl) rfl ?_
                        refine x_weak (L' := [.ref r0, .null, .null, .null]) ⟨Or.inr rfl, Or.inl rfl, Or.inl rfl, Or.inl rfl, trivial⟩ ?_
                        exact x_X12_operand_456 hC hE hk0 h_r0 _ _
                    · refine x_iconst (i := 5) c_iconst_5 hC (zdk dk_X12_operand 198 rfl) (q := 392) rfl ?_
                      refine x_goto (tgt := 456) hC (zdk dk_X12_operand 199 rfl) rfl ?_
                      refine x_weak (L' := [.ref r0, .null, .null, .null]) ⟨Or.inr rfl, Or.inl rfl, Or.inl rfl, Or.inl rfl, trivial⟩ ?_
                      exact x_X12_operand_456 hC hE hk0 h_r0 _ _
                  · refine x_iconst (i := 4) c_iconst_4 hC (zdk dk_X12_operand 192 rfl) (q := 378) rfl ?_
                    refine x_goto (tgt := 456) hC (zdk dk_X12_operand 193 rfl) rfl ?_
                    refine x_weak (L' := [.ref r0, .null, .null, .null]) ⟨Or.inr rfl, Or.inl rfl, Or.inl rfl, Or.inl rfl, trivial⟩ ?_
                    exact x_X12_operand_456 hC hE hk0 h_r0 _ _
                · refine x_iconst (i := 3) c_iconst_3 hC (zdk dk_X12_operand 186 rfl) (q := 364) rfl ?_
                  refine x_goto (tgt := 456) hC (zdk dk_X12_operand 187 rfl) rfl ?_
                  refine x_weak (L' := [.ref r0, .null, .null, .null]) ⟨Or.inr rfl, Or.inl rfl, Or.inl rfl, Or.inl rfl, trivial⟩ ?_
                  exact x_X12_operand_456 hC hE hk0 h_r0 _ _
              · refine x_iconst (i := 2) c_iconst_2 hC (zdk dk_X12_operand 180 rfl) (q := 350) rfl ?_
                refine x_goto (tgt := 456) hC (zdk dk_X12_operand 181 rfl) rfl ?_
                refine x_weak (L' := [.ref r0, .null, .null, .null]) ⟨Or.inr rfl, Or.inl rfl, Or.inl rfl, Or.inl rfl, trivial⟩ ?_
                exact x_X12_operand_456 hC hE hk0 h_r0 _ _
            · refine x_iconst (i := 1) c_iconst_1 hC (zdk dk_X12_operand 174 rfl) (q := 336) rfl ?_
              refine x_goto (tgt := 456) hC (zdk dk_X12_operand 175 rfl) rfl ?_
              refine x_weak (L' := [.ref r0, .null, .null, .null]) ⟨Or.inr rfl, Or.inl rfl, Or.inl rfl, Or.inl rfl, trivial⟩ ?_
              exact x_X12_operand_456 hC hE hk0 h_r0 _ _
          · refine x_iconst (i := 0) c_iconst_0 hC (zdk dk_X12_operand 168 rfl) (q := 322) rfl ?_
            refine x_goto (tgt := 456) hC (zdk dk_X12_operand 169 rfl) rfl ?_
            refine x_weak (L' := [.ref r0, .null, .null, .null]) ⟨Or.inr rfl, Or.inl rfl, Or.inl rfl, Or.inl rfl, trivial⟩ ?_
            exact x_X12_operand_456 hC hE hk0 h_r0 _ _
        · refine x_weak (L' := [.ref r0, .null, .null, .null]) ⟨Or.inr rfl, Or.inl rfl, Or.inl rfl, Or.inl rfl, trivial⟩ ?_
          exact x_X12_operand_217 hC hE hk0 h_r0 _
  · refine x_aload_n (i := 0) rfl hC (zdk dk_X12_operand 99 rfl) (q := 181) rfl ?_
    refine x_iconst (i := 2) c_iconst_2 hC (zdk dk_X12_operand 100 rfl) (q := 182) rfl ?_
    refine x_callVv (as := [.int 2]) cb_RX12_348 rfl (by decide) hk0 h_r0 (fun x hx => t_X12_opens h_r0 x hx) hC (zdk dk_X12_operand 101 rfl) (q := 185) rfl rfl (Nat.le_of_ble_eq_true rfl) (fun M30 => ?_)
    refine x_iconst (i := 0) c_iconst_0 hC (zdk dk_X12_operand 102 rfl) (q := 186) rfl ?_
    exact x_iret (ty := .boolean) rfl hE hC (zdk dk_X12_operand 103 rfl)
set_option maxRecDepth 100000 in
def f_X12_operand_137  (r0 : Nat) (x1 : Int32) (x2 : Int32) (M : Mem) : Option (Int32 × Mem) := (if x2 = 0 then f_X12_operand_171 r0 M else Option.bind (f_X12_isWord r0 6384748 M) fun z31 => (if z31.1 = 0 then f_X12_operand_171 r0 z31.2 else Option.bind (f_X12_add r0 30 0 z31.2) fun M32 => Option.bind (zrf M32 r0 25) fun q33 => Option.bind (zld q33 x1) fun k34 => Option.bind (some (zsI M32 q33 k34 2)) fun M35 => Option.bind (f_X12_ahead r0 M35) fun M36 => some (1, M36)))
set_option maxRecDepth 100000 in
set_option maxHeartbeats 4000000 in
theorem x_X12_operand_137 {κ : KX} {n : Nat} (hC : CX κ cX12_operand RX12 4 (some .boolean) 3) (hE : zEnd κ n (0, 0)) (hk0 : zRk κ (0, 0)) {r0 : Nat} (h_r0 : zO n r0 12) (x1 : Int32) (x2 : Int32) (M : Mem) : X κ 4 emI n (0, 0) 137 [.ref r0, .int x1, .int x2, .null] [] M (f_X12_operand_137 r0 x1 x2 M) := by
  unfold f_X12_operand_137
  refine x_iload_n (i := 2) rfl hC (zdk dk_X12_operand 76 rfl) (q := 138) rfl ?_
  refine x_if_eq (tgt := 171) hC (zdk dk_X12_operand 77 rfl) (q := 141) rfl rfl (fun _ => ?_) (fun _ => ?_)
  · refine x_weak (L' := [.ref r0, .null, .null, .null]) ⟨Or.inr rfl, Or.inl rfl, Or.inl rfl, Or.inl rfl, trivial⟩ ?_
    exact x_X12_operand_171 hC hE hk0 h_r0 _
  · refine x_aload_n (i := 0) rfl hC (zdk dk_X12_operand 78 rfl) (q := 142) rfl ?_
    refine x_ldc2 k_RX12_319 hC (zdk dk_X12_operand 79 rfl) (q := 145) rfl ?_
    refine x_callVi (as := [.long 6384748]) cb_RX12_341 rfl (by decide) hk0 h_r0 (fun x hx => t_X12_isWord h_r0 x hx) hC (zdk dk_X12_operand 80 rfl) (q := 148) rfl rfl (Nat.le_of_ble_eq_true rfl) (fun z31 => ?_)
    refine x_if_eq (tgt := 171) hC (zdk dk_X12_operand 81 rfl) (q := 151) rfl rfl (fun _ => ?_) (fun _ => ?_)
    · refine x_weak (L' := [.ref r0, .null, .null, .null]) ⟨Or.inr rfl, Or.inl rfl, Or.inl rfl, Or.inl rfl, trivial⟩ ?_
      exact x_X12_operand_171 hC hE hk0 h_r0 _
    · refine x_aload_n (i := 0) rfl hC (zdk dk_X12_operand 82 rfl) (q := 152) rfl ?_
      refine x_bipush (i := 30) c_bipush_30 hC (zdk dk_X12_operand 83 rfl) (q := 154) rfl ?_
      refine x_iconst (i := 0) c_iconst_0 hC (zdk dk_X12_operand 84 rfl) (q := 155) rfl ?_
      refine x_callVv (as := [.int 30, .int 0]) cb_RX12_332 rfl (by decide) hk0 h_r0 (fun x hx => t_X12_add h_r0 x hx) hC (zdk dk_X12_operand 85 rfl) (q := 158) rfl rfl (Nat.le_of_ble_eq_true rfl) (fun M32 => ?_)
      refine x_aload_n (i := 0) rfl hC (zdk dk_X12_operand 86 rfl) (q := 159) rfl ?_
      refine x_getR (k := 20) fl_RX12_88 rfl h_r0 hC (zdk dk_X12_operand 87 rfl) (q := 162) rfl (fun q33 hq33 => ?_)
      refine x_iload_n (i := 1) rfl hC (zdk dk_X12_operand 88 rfl) (q := 163) rfl ?_
      refine x_iconst (i := 2) c_iconst_2 hC (zdk dk_X12_operand 89 rfl) (q := 164) rfl ?_
      refine x_iast hq33 hC (zdk dk_X12_operand 90 rfl) (q := 165) rfl (fun k34 _ => ?_)
      refine x_nmM (fun M35 => ?_)
      refine x_aload_n (i := 0) rfl hC (zdk dk_X12_operand 91 rfl) (q := 166) rfl ?_
      refine x_callVv (as := []) cb_RX12_268 rfl (by decide) hk0 h_r0 (fun x hx => t_X12_ahead h_r0 x hx) hC (zdk dk_X12_operand 92 rfl) (q := 169) rfl rfl (Nat.le_of_ble_eq_true rfl) (fun M36 => ?_)
      refine x_iconst (i := 1) c_iconst_1 hC (zdk dk_X12_operand 93 rfl) (q := 170) rfl ?_
      exact x_iret (ty := .boolean) rfl hE hC (zdk dk_X12_operand 94 rfl)
set_option maxRecDepth 100000 in
def f_X12_operand_110  (r0 : Nat) (x1 : Int32) (x2 : Int32) (M : Mem) : Option (Int32 × Mem) := Option.bind (zrf M r0 26) fun q37 => Option.bind (zld q37 x1) fun k38 => Option.bind (some (zsI M q37 k38 0)) fun M39 => (if x2 = 0 then f_X12_operand_137 r0 x1 x2 M39 else Option.bind (f_X12_isSign r0 91 M39) fun z40 => (if z40.1 = 0 then f_X12_operand_137 r0 x1 x2 z40.2 else Option.bind (f_X12_opens r0 5 z40.2) fun M41 => some (0, M41)))
set_option maxRecDepth 100000 in
set_option maxHeartbeats 4000000 in
theorem x_X12_operand_110 {κ : KX} {n : Nat} (hC : CX κ cX12_operand RX12 4 (some .boolean) 3) (hE : zEnd κ n (0, 0)) (hk0 : zRk κ (0, 0)) {r0 : Nat} (h_r0 : zO n r0 12) (x1 : Int32) (x2 : Int32) (M : Mem) : X κ 4 emI n (0, 0) 110 [.ref r0, .int x1, .int x2, .null] [] M (f_X12_operand_110 r0 x1 x2 M) := by
  unfold f_X12_operand_110
  refine x_aload_n (i := 0) rfl hC (zdk dk_X12_operand 60 rfl) (q := 111) rfl ?_
  refine x_getR (k := 22) fl_RX12_91 rfl h_r0 hC (zdk dk_X12_operand 61 rfl) (q := 114) rfl (fun q37 hq37 => ?_)
  refine x_iload_n (i := 1) rfl hC (zdk dk_X12_operand 62 rfl) (q := 115) rfl ?_
  refine x_iconst (i := 0) c_iconst_0 hC (zdk dk_X12_operand 63 rfl) (q := 116) rfl ?_
  refine x_zast (by rfl) hq37 hC (zdk dk_X12_operand 64 rfl) (q := 117) rfl (fun k38 _ => ?_)
  refine x_nmM (fun M39 => ?_)
  refine x_iload_n (i := 2) rfl hC (zdk dk_X12_operand 65 rfl) (q := 118) rfl ?_
  refine x_if_eq (tgt := 137) hC (zdk dk_X12_operand 66 rfl) (q := 121) rfl rfl (fun _ => ?_) (fun _ => ?_)
  · refine x_weak (L' := [.ref r0, .int x1, .int x2, .null]) ⟨Or.inr rfl, Or.inr rfl, Or.inr rfl, Or.inl rfl, trivial⟩ ?_
    exact x_X12_operand_137 hC hE hk0 h_r0 _ _ _
  · refine x_aload_n (i := 0) rfl hC (zdk dk_X12_operand 67 rfl) (q := 122) rfl ?_
    refine x_bipush (i := 91) c_bipush_91 hC (zdk dk_X12_operand 68 rfl) (q := 124) rfl ?_
    refine x_callVi (as := [.int 91]) cb_RX12_265 rfl (by decide) hk0 h_r0 (fun x hx => t_X12_isSign h_r0 x hx) hC (zdk dk_X12_operand 69 rfl) (q := 127) rfl rfl (Nat.le_of_ble_eq_true rfl) (fun z40 => ?_)
    refine x_if_eq (tgt := 137) hC (zdk dk_X12_operand 70 rfl) (q := 130) rfl rfl (fun _ => ?_) (fun _ => ?_)
    · refine x_weak (L' := [.ref r0, .int x1, .int x2, .null]) ⟨Or.inr rfl, Or.inr rfl, Or.inr rfl, Or.inl rfl, trivial⟩ ?_
      exact x_X12_operand_137 hC hE hk0 h_r0 _ _ _
    · refine x_aload_n (i := 0) rfl hC (zdk dk_X12_operand 71 rfl) (q := 131) rfl ?_
      refine x_iconst (i := 5) c_iconst_5 hC (zdk dk_X12_operand 72 rfl) (q := 132) rfl ?_
      refine x_callVv (as := [.int 5]) cb_RX12_348 rfl (by decide) hk0 h_r0 (fun x hx => t_X12_opens h_r0 x hx) hC (zdk dk_X12_operand 73 rfl) (q := 135) rfl rfl (Nat.le_of_ble_eq_true rfl) (fun M41 => ?_)
      refine x_iconst (i := 0) c_iconst_0 hC (zdk dk_X12_operand 74 rfl) (q := 136) rfl ?_
      exact x_iret (ty := .boolean) rfl hE hC (zdk dk_X12_operand 75 rfl)
set_option maxRecDepth 100000 in
def f_X12_operand_46  (r0 : Nat) (x1 : Int32) (s0 : Int32) (M : Mem) : Option (Int32 × Mem) := (if s0 = 0 then f_X12_operand_110 r0 x1 s0 M else Option.bind (f_X12_isWord r0 7237492 M) fun z42 => (if z42.1 = 0 then f_X12_operand_110 r0 x1 s0 z42.2 else (if zI z42.2 r0 30 = 7 then Option.bind (f_X12_blame r0 5 (zI z42.2 r0 4) z42.2) fun M43 => f_X12_operand_79 r0 M43 else f_X12_operand_79 r0 z42.2)))
set_option maxRecDepth 100000 in
set_option maxHeartbeats 4000000 in
theorem x_X12_operand_46 {κ : KX} {n : Nat} (hC : CX κ cX12_operand RX12 4 (some .boolean) 3) (hE : zEnd κ n (0, 0)) (hk0 : zRk κ (0, 0)) {r0 : Nat} (h_r0 : zO n r0 12) (x1 : Int32) (s0 : Int32) (M : Mem) : X κ 4 emI n (0, 0) 46 [.ref r0, .int x1, .null, .null] [.int s0] M (f_X12_operand_46 r0 x1 s0 M) := by
  unfold f_X12_operand_46
  refine x_istore_n (i := 2) (L' := [.ref r0, .int x1, .int s0, .null]) (by decide) rfl hC (zdk dk_X12_operand 26 rfl) (q := 47) rfl ?_
  refine x_iload_n (i := 2) rfl hC (zdk dk_X12_operand 27 rfl) (q := 48) rfl ?_
  refine x_if_eq (tgt := 110) hC (zdk dk_X12_operand 28 rfl) (q := 51) rfl rfl (fun _ => ?_) (fun _ => ?_)
  · refine x_weak (L' := [.ref r0, .int x1, .int s0, .null]) ⟨Or.inr rfl, Or.inr rfl, Or.inr rfl, Or.inl rfl, trivial⟩ ?_
    exact x_X12_operand_110 hC hE hk0 h_r0 _ _ _
  · refine x_aload_n (i := 0) rfl hC (zdk dk_X12_operand 29 rfl) (q := 52) rfl ?_
    refine x_ldc2 k_RX12_317 hC (zdk dk_X12_operand 30 rfl) (q := 55) rfl ?_
    refine x_callVi (as := [.long 7237492]) cb_RX12_341 rfl (by decide) hk0 h_r0 (fun x hx => t_X12_isWord h_r0 x hx) hC (zdk dk_X12_operand 31 rfl) (q := 58) rfl rfl (Nat.le_of_ble_eq_true rfl) (fun z42 => ?_)
    refine x_if_eq (tgt := 110) hC (zdk dk_X12_operand 32 rfl) (q := 61) rfl rfl (fun _ => ?_) (fun _ => ?_)
    · refine x_weak (L' := [.ref r0, .int x1, .int s0, .null]) ⟨Or.inr rfl, Or.inr rfl, Or.inr rfl, Or.inl rfl, trivial⟩ ?_
      exact x_X12_operand_110 hC hE hk0 h_r0 _ _ _
    · refine x_aload_n (i := 0) rfl hC (zdk dk_X12_operand 33 rfl) (q := 62) rfl ?_
      refine x_getI fl_RX12_104 (by decide) h_r0 hC (zdk dk_X12_operand 34 rfl) (q := 65) rfl ?_
      refine x_bipush (i := 7) c_bipush_7 hC (zdk dk_X12_operand 35 rfl) (q := 67) rfl ?_
      refine x_icmp_ne (tgt := 79) hC (zdk dk_X12_operand 36 rfl) (q := 70) rfl rfl (fun _ => ?_) (fun _ => ?_)
      · refine x_weak (L' := [.ref r0, .null, .null, .null]) ⟨Or.inr rfl, Or.inl rfl, Or.inl rfl, Or.inl rfl, trivial⟩ ?_
        exact x_X12_operand_79 hC hE hk0 h_r0 _
      · refine x_aload_n (i := 0) rfl hC (zdk dk_X12_operand 37 rfl) (q := 71) rfl ?_
        refine x_iconst (i := 5) c_iconst_5 hC (zdk dk_X12_operand 38 rfl) (q := 72) rfl ?_
        refine x_aload_n (i := 0) rfl hC (zdk dk_X12_operand 39 rfl) (q := 73) rfl ?_
        refine x_getI fl_RX12_23 (by decide) h_r0 hC (zdk dk_X12_operand 40 rfl) (q := 76) rfl ?_
        refine x_callVv (as := [.int 5, .int (zI z42.2 r0 4)]) cb_RX12_251 rfl (by decide) hk0 h_r0 (fun x hx => t_X12_blame h_r0 x hx) hC (zdk dk_X12_operand 41 rfl) (q := 79) rfl rfl (Nat.le_of_ble_eq_true rfl) (fun M43 => ?_)
        refine x_weak (L' := [.ref r0, .null, .null, .null]) ⟨Or.inr rfl, Or.inl rfl, Or.inl rfl, Or.inl rfl, trivial⟩ ?_
        exact x_X12_operand_79 hC hE hk0 h_r0 _
set_option maxRecDepth 100000 in
def f_X12_operand_45  (r0 : Nat) (x1 : Int32) (M : Mem) : Option (Int32 × Mem) := f_X12_operand_46 r0 x1 0 M
set_option maxRecDepth 100000 in
set_option maxHeartbeats 4000000 in
theorem x_X12_operand_45 {κ : KX} {n : Nat} (hC : CX κ cX12_operand RX12 4 (some .boolean) 3) (hE : zEnd κ n (0, 0)) (hk0 : zRk κ (0, 0)) {r0 : Nat} (h_r0 : zO n r0 12) (x1 : Int32) (M : Mem) : X κ 4 emI n (0, 0) 45 [.ref r0, .int x1, .null, .null] [] M (f_X12_operand_45 r0 x1 M) := by
  unfold f_X12_operand_45
  refine x_iconst (i := 0) c_iconst_0 hC (zdk dk_X12_operand 25 rfl) (q := 46) rfl ?_
  refine x_weak (L' := [.ref r0, .int x1, .null, .null]) ⟨Or.inr rfl, Or.inr rfl, Or.inl rfl, Or.inl rfl, trivial⟩ ?_
  exact x_X12_operand_46 hC hE hk0 h_r0 _ _ _
set_option maxRecDepth 100000 in
def f_X12_operand (r0 : Nat) (M : Mem) : Option (Int32 × Mem) := Option.bind (f_X12_lex r0 M) fun M44 => (if zI M44 r0 8 ≤ 0 then Option.bind (zrf M44 r0 24) fun q45 => Option.bind (zld q45 ((zI M44 r0 29) - 1)) fun k46 => Option.bind (f_X12_isTest (zI M44 q45 k46) M44) fun z47 => (if z47.1 = 0 then f_X12_operand_45 r0 ((zI M44 r0 29) - 1) z47.2 else Option.bind (zrf z47.2 r0 26) fun q48 => Option.bind (zld q48 ((zI M44 r0 29) - 1)) fun k49 => (if zI z47.2 q48 k49 = 0 then f_X12_operand_45 r0 ((zI M44 r0 29) - 1) z47.2 else f_X12_operand_46 r0 ((zI M44 r0 29) - 1) 1 z47.2)) else some (1, M44))
set_option maxRecDepth 100000 in
set_option maxHeartbeats 4000000 in
theorem x_X12_operand {κ : KX} {n : Nat} (hC : CX κ cX12_operand RX12 4 (some .boolean) 3) (hE : zEnd κ n (0, 0)) (hk0 : zRk κ (0, 0)) (r0 : Nat) (M : Mem) (h_r0 : zO n r0 12) : X κ 4 emI n (0, 0) 0 [.ref r0, .null, .null, .null] [] M (f_X12_operand r0 M) := by
  unfold f_X12_operand
  refine x_aload_n (i := 0) rfl hC (zdk dk_X12_operand 0 rfl) (q := 1) rfl ?_
  refine x_callVv (as := []) cb_RX12_262 rfl (by decide) hk0 h_r0 (fun x hx => t_X12_lex h_r0 x hx) hC (zdk dk_X12_operand 1 rfl) (q := 4) rfl rfl (Nat.le_of_ble_eq_true rfl) (fun M44 => ?_)
  refine x_aload_n (i := 0) rfl hC (zdk dk_X12_operand 2 rfl) (q := 5) rfl ?_
  refine x_getI fl_RX12_36 (by decide) h_r0 hC (zdk dk_X12_operand 3 rfl) (q := 8) rfl ?_
  refine x_if_le (tgt := 13) hC (zdk dk_X12_operand 4 rfl) (q := 11) rfl rfl (fun _ => ?_) (fun _ => ?_)
  · refine x_aload_n (i := 0) rfl hC (zdk dk_X12_operand 7 rfl) (q := 14) rfl ?_
    refine x_getI fl_RX12_101 (by decide) h_r0 hC (zdk dk_X12_operand 8 rfl) (q := 17) rfl ?_
    refine x_iconst (i := 1) c_iconst_1 hC (zdk dk_X12_operand 9 rfl) (q := 18) rfl ?_
    refine x_isub hC (zdk dk_X12_operand 10 rfl) (q := 19) rfl ?_
    refine x_istore_n (i := 1) (L' := [.ref r0, .int ((zI M44 r0 29) - 1), .null, .null]) (by decide) rfl hC (zdk dk_X12_operand 11 rfl) (q := 20) rfl ?_
    refine x_aload_n (i := 0) rfl hC (zdk dk_X12_operand 12 rfl) (q := 21) rfl ?_
    refine x_getR (k := 20) fl_RX12_85 rfl h_r0 hC (zdk dk_X12_operand 13 rfl) (q := 24) rfl (fun q45 hq45 => ?_)
    refine x_iload_n (i := 1) rfl hC (zdk dk_X12_operand 14 rfl) (q := 25) rfl ?_
    refine x_iald hq45 hC (zdk dk_X12_operand 15 rfl) (q := 26) rfl (fun k46 _ => ?_)
    refine x_callSi (as := [.int (zI M44 q45 k46)]) cb_RX12_338 rfl (by decide) hk0 (fun x hx => t_X12_isTest  x hx) hC (zdk dk_X12_operand 16 rfl) (q := 29) rfl rfl (Nat.le_of_ble_eq_true rfl) (fun z47 => ?_)
    refine x_if_eq (tgt := 45) hC (zdk dk_X12_operand 17 rfl) (q := 32) rfl rfl (fun _ => ?_) (fun _ => ?_)
    · refine x_weak (L' := [.ref r0, .int ((zI M44 r0 29) - 1), .null, .null]) ⟨Or.inr rfl, Or.inr rfl, Or.inl rfl, Or.inl rfl, trivial⟩ ?_
      exact x_X12_operand_45 hC hE hk0 h_r0 _ _
    · refine x_aload_n (i := 0) rfl hC (zdk dk_X12_operand 18 rfl) (q := 33) rfl ?_
      refine x_getR (k := 22) fl_RX12_91 rfl h_r0 hC (zdk dk_X12_operand 19 rfl) (q := 36) rfl (fun q48 hq48 => ?_)
      refine x_iload_n (i := 1) rfl hC (zdk dk_X12_operand 20 rfl) (q := 37) rfl ?_
      refine x_zald hq48 hC (zdk dk_X12_operand 21 rfl) (q := 38) rfl (fun k49 _ => ?_)
      refine x_if_eq (tgt := 45) hC (zdk dk_X12_operand 22 rfl) (q := 41) rfl rfl (fun _ => ?_) (fun _ => ?_)
      · refine x_weak (L' := [.ref r0, .int ((zI M44 r0 29) - 1), .null, .null]) ⟨Or.inr rfl, Or.inr rfl, Or.inl rfl, Or.inl rfl, trivial⟩ ?_
        exact x_X12_operand_45 hC hE hk0 h_r0 _ _
      · refine x_iconst (i := 1) c_iconst_1 hC (zdk dk_X12_operand 23 rfl) (q := 42) rfl ?_
        refine x_goto (tgt := 46) hC (zdk dk_X12_operand 24 rfl) rfl ?_
        refine x_weak (L' := [.ref r0, .int ((zI M44 r0 29) - 1), .null, .null]) ⟨Or.inr rfl, Or.inr rfl, Or.inl rfl, Or.inl rfl, trivial⟩ ?_
        exact x_X12_operand_46 hC hE hk0 h_r0 _ _ _
  · refine x_iconst (i := 1) c_iconst_1 hC (zdk dk_X12_operand 5 rfl) (q := 12) rfl ?_
    exact x_iret (ty := .boolean) rfl hE hC (zdk dk_X12_operand 6 rfl)
set_option maxRecDepth 100000 in
set_option maxHeartbeats 4000000 in
theorem t_X12_operand {n : Nat} {r0 : Nat} {M : Mem} (h_r0 : zO n r0 12) (x : (Int32 × Mem)) (hx : f_X12_operand r0 M = some x) (l : Launch) (dC : Nat → ClassId) (dI : Nat → Nat → Nat) (b : zSg) : MT l dC dI b yX12_operand cX12_operand 4 (some .boolean) 3 0 0 n n [.ref r0] M (emI x).1 (emI x).2 :=
  MT.ofX (by decide +kernel) rfl (Nat.le_of_ble_eq_true rfl) (fun κ hC hF _ => x_X12_operand hC (zEnd_of hF (Nat.le_refl _) (Nat.le_refl _)) (zRk_of hF (Nat.le_refl _) (Nat.le_refl _)) _ _ h_r0) x hx
