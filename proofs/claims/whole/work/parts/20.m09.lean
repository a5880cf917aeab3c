set_option maxRecDepth 100000 in
def dt_X12_ahead : List (Nat × Instr × Nat) := [(0, .aload_n 0, 1), (1, .getfield 26, 3), (4, .istore_n 1, 1), (5, .iload_n 1, 1), (6, .aload_n 0, 1), (7, .getfield 17, 3), (10, .if_icmp .ge 31, 3), (13, .aload_n 0, 1), (14, .getfield 7, 3), (17, .iload_n 1, 1), (18, .iaload, 1), (19, .bipush 32, 2), (21, .if_icmp .eq 14, 3), (24, .aload_n 0, 1), (25, .getfield 7, 3), (28, .iload_n 1, 1), (29, .iaload, 1), (30, .bipush 10, 2), (32, .if_icmp .ne 9, 3), (35, .iinc 1 1, 3), (38, .goto (-33), 3), (41, .aload_n 0, 1), (42, .iload_n 1, 1), (43, .putfield 23, 3), (46, .aload_n 0, 1), (47, .iload_n 1, 1), (48, .putfield 26, 3), (51, .aload_n 0, 1), (52, .iconst 0, 1), (53, .putfield 20, 3), (56, .aload_n 0, 1), (57, .iconst (-1), 1), (58, .putfield 48, 3), (61, .iload_n 1, 1), (62, .aload_n 0, 1), (63, .getfield 17, 3), (66, .if_icmp .lt 4, 3), (69, .return_, 1), (70, .aload_n 0, 1), (71, .getfield 7, 3), (74, .iload_n 1, 1), (75, .iaload, 1), (76, .invokestatic 255, 3), (79, .istore_n 2, 1), (80, .aload_n 0, 1), (81, .getfield 7, 3), (84, .iload_n 1, 1), (85, .iaload, 1), (86, .invokestatic 259, 3), (89, .istore_n 3, 1), (90, .iload_n 2, 1), (91, .ifCond .ne 7, 3), (94, .iload_n 3, 1), (95, .ifCond .eq 40, 3), (98, .iload_n 1, 1), (99, .ifCond .le 36, 3), (102, .aload_n 0, 1), (103, .getfield 7, 3), (106, .iload_n 1, 1), (107, .iconst 1, 1), (108, .isub, 1), (109, .iaload, 1), (110, .invokestatic 255, 3), (113, .ifCond .ne 17, 3), (116, .aload_n 0, 1), (117, .getfield 7, 3), (120, .iload_n 1, 1), (121, .iconst 1, 1), (122, .isub, 1), (123, .iaload, 1), (124, .invokestatic 259, 3), (127, .ifCond .eq 8, 3), (130, .aload_n 0, 1), (131, .iload_n 1, 1), (132, .putfield 48, 3), (135, .aload_n 0, 1), (136, .iconst 0, 1), (137, .putfield 29, 3), (140, .aload_n 0, 1), (141, .lconst 0, 1), (142, .putfield 32, 3), (145, .aload_n 0, 1), (146, .iconst 3, 1), (147, .putfield 20, 3), (150, .aload_n 0, 1), (151, .iload_n 1, 1), (152, .iconst 1, 1), (153, .iadd, 1), (154, .putfield 26, 3), (157, .iload_n 2, 1), (158, .ifCond .ne 18, 3), (161, .iload_n 3, 1), (162, .ifCond .ne 14, 3), (165, .aload_n 0, 1), (166, .aload_n 0, 1), (167, .getfield 7, 3), (170, .iload_n 1, 1), (171, .iaload, 1), (172, .putfield 29, 3), (175, .return_, 1), (176, .aload_n 0, 1), (177, .iload_n 2, 1), (178, .ifCond .eq 7, 3), (181, .iconst 1, 1), (182, .goto 4, 3), (185, .iconst 2, 1), (186, .putfield 20, 3), (189, .iload_n 2, 1), (190, .ifCond .eq 8, 3), (193, .bipush 6, 2), (195, .goto 4, 3), (198, .iconst 4, 1), (199, .istore 4, 2), (201, .iconst 0, 1), (202, .istore 5, 2), (204, .iload_n 1, 1), (205, .aload_n 0, 1), (206, .getfield 17, 3), (209, .if_icmp .ge 125, 3), (212, .iload_n 2, 1), (213, .ifCond .eq 18, 3), (216, .aload_n 0, 1), (217, .getfield 7, 3), (220, .iload_n 1, 1), (221, .iaload, 1), (222, .invokestatic 255, 3), (225, .ifCond .eq 109, 3), (228, .goto 15, 3), (231, .aload_n 0, 1), (232, .getfield 7, 3), (235, .iload_n 1, 1), (236, .iaload, 1), (237, .invokestatic 259, 3), (240, .ifCond .eq 94, 3), (243, .iload 5, 2), (245, .iload 4, 2), (247, .if_icmp .ne 16, 3), (250, .aload_n 0, 1), (251, .getfield 48, 3), (254, .iconst (-1), 1), (255, .if_icmp .ne 8, 3), (258, .aload_n 0, 1), (259, .iload_n 1, 1), (260, .putfield 48, 3), (263, .iload 5, 2), (265, .iload 4, 2), (267, .if_icmp .ge 26, 3), (270, .iload_n 2, 1), (271, .ifCond .eq 22, 3), (274, .aload_n 0, 1), (275, .aload_n 0, 1), (276, .getfield 32, 3), (279, .bipush 8, 2), (281, .lshl, 1), (282, .aload_n 0, 1), (283, .getfield 7, 3), (286, .iload_n 1, 1), (287, .iaload, 1), (288, .i2l, 1), (289, .lor, 1), (290, .putfield 32, 3), (293, .iload 5, 2), (295, .iload 4, 2), (297, .if_icmp .ge 28, 3), (300, .iload_n 3, 1), (301, .ifCond .eq 24, 3), (304, .aload_n 0, 1), (305, .bipush 10, 2), (307, .aload_n 0, 1), (308, .getfield 29, 3), (311, .imul, 1), (312, .aload_n 0, 1), (313, .getfield 7, 3), (316, .iload_n 1, 1), (317, .iaload, 1), (318, .iadd, 1), (319, .bipush 48, 2), (321, .isub, 1), (322, .putfield 29, 3), (325, .iinc 5 1, 3), (328, .iinc 1 1, 3), (331, .goto (-127), 3), (334, .aload_n 0, 1), (335, .iload_n 1, 1), (336, .putfield 26, 3), (339, .return_, 1)]
set_option maxRecDepth 100000 in
theorem dk_X12_ahead : dt_X12_ahead.all (fun q => decide (decode cX12_ahead q.1 = .ok q.2)) = true := by decide +kernel
set_option maxRecDepth 100000 in
def f_X12_ahead_35 (k5 : Int32 → Mem → Option Mem) (r0 : Nat) (x1 : Int32) (M : Mem) : Option Mem := k5 (x1 + 1) M
set_option maxRecDepth 100000 in
set_option maxHeartbeats 4000000 in
theorem x_X12_ahead_35 {κ : KX} {n : Nat} (hC : CX κ cX12_ahead RX12 6 none 1) (hE : zEnd κ n (0, 0)) (hk0 : zRk κ (0, 0)) {r0 : Nat} (h_r0 : zO n r0 12) (k5 : Int32 → Mem → Option Mem) (hk5 : ∀ (x1 : Int32) (M : Mem), X κ 6 emV n (0, 0) 5 [.ref r0, .int x1, .null, .null, .null, .null] [] M (k5 x1 M)) (x1 : Int32) (M : Mem) : X κ 6 emV n (0, 0) 35 [.ref r0, .int x1, .null, .null, .null, .null] [] M (f_X12_ahead_35 k5 r0 x1 M) := by
  unfold f_X12_ahead_35
  refine x_iinc (i := 1) c_iconst_1 rfl (by decide) (L' := [.ref r0, .int (x1 + 1), .null, .null, .null, .null]) rfl hC (zdk dk_X12_ahead 19 rfl) (q := 38) rfl ?_
  refine x_goto (tgt := 5) hC (zdk dk_X12_ahead 20 rfl) rfl ?_
  refine x_weak (L' := [.ref r0, .int (x1 + 1), .null, .null, .null, .null]) ⟨Or.inr rfl, Or.inr rfl, Or.inl rfl, Or.inl rfl, Or.inl rfl, Or.inl rfl, trivial⟩ ?_
  exact hk5 _ _
set_option maxRecDepth 100000 in
def f_X12_ahead_325 (k204 : Int32 → Int32 → Int32 → Int32 → Int32 → Mem → Option Mem) (r0 : Nat) (x1 : Int32) (x2 : Int32) (x3 : Int32) (x4 : Int32) (x5 : Int32) (M : Mem) : Option Mem := k204 (x1 + 1) x2 x3 x4 (x5 + 1) M
set_option maxRecDepth 100000 in
set_option maxHeartbeats 4000000 in
theorem x_X12_ahead_325 {κ : KX} {n : Nat} (hC : CX κ cX12_ahead RX12 6 none 1) (hE : zEnd κ n (0, 0)) (hk0 : zRk κ (0, 0)) {r0 : Nat} (h_r0 : zO n r0 12) (k204 : Int32 → Int32 → Int32 → Int32 → Int32 → Mem → Option Mem) (hk204 : ∀ (x1 : Int32) (x2 : Int32) (x3 : Int32) (x4 : Int32) (x5 : Int32) (M : Mem), X κ 6 emV n (0, 0) 204 [.ref r0, .int x1, .int x2, .int x3, .int x4, .int x5] [] M (k204 x1 x2 x3 x4 x5 M)) (x1 : Int32) (x2 : Int32) (x3 : Int32) (x4 : Int32) (x5 : Int32) (M : Mem) : X κ 6 emV n (0, 0) 325 [.ref r0, .int x1, .int x2, .int x3, .int x4, .int x5] [] M (f_X12_ahead_325 k204 r0 x1 x2 x3 x4 x5 M) := by
  unfold f_X12_ahead_325
  refine x_iinc (i := 5) c_iconst_1 rfl (by decide) (L' := [.ref r0, .int x1, .int x2, .int x3, .int x4, .int (x5 + 1)]) rfl hC (zdk dk_X12_ahead 179 rfl) (q := 328) rfl ?_
  refine x_iinc (i := 1) c_iconst_1 rfl (by decide) (L' := [.ref r0, .int (x1 + 1), .int x2, .int x3, .int x4, .int (x5 + 1)]) rfl hC (zdk dk_X12_ahead 180 rfl) (q := 331) rfl ?_
  refine x_goto (tgt := 204) hC (zdk dk_X12_ahead 181 rfl) rfl ?_
  refine x_weak (L' := [.ref r0, .int (x1 + 1), .int x2, .int x3, .int x4, .int (x5 + 1)]) ⟨Or.inr rfl, Or.inr rfl, Or.inr rfl, Or.inr rfl, Or.inr rfl, Or.inr rfl, trivial⟩ ?_
  exact hk204 _ _ _ _ _ _
set_option maxRecDepth 100000 in
def f_X12_ahead_293 (k204 : Int32 → Int32 → Int32 → Int32 → Int32 → Mem → Option Mem) (r0 : Nat) (x1 : Int32) (x2 : Int32) (x3 : Int32) (x4 : Int32) (x5 : Int32) (M : Mem) : Option Mem := (if x4 ≤ x5 then f_X12_ahead_325 k204 r0 x1 x2 x3 x4 x5 M else (if x3 = 0 then f_X12_ahead_325 k204 r0 x1 x2 x3 x4 x5 M else Option.bind (zrf M r0 0) fun q1 => Option.bind (zld q1 x1) fun k2 => Option.bind (some (zsI M r0 6 (((10 * (zI M r0 6)) + (zI M q1 k2)) - 48))) fun M3 => f_X12_ahead_325 k204 r0 x1 x2 x3 x4 x5 M3))
set_option maxRecDepth 100000 in
set_option maxHeartbeats 4000000 in
theorem x_X12_ahead_293 {κ : KX} {n : Nat} (hC : CX κ cX12_ahead RX12 6 none 1) (hE : zEnd κ n (0, 0)) (hk0 : zRk κ (0, 0)) {r0 : Nat} (h_r0 : zO n r0 12) (k204 : Int32 → Int32 → Int32 → Int32 → Int32 → Mem → Option Mem) (hk204 : ∀ (x1 : Int32) (x2 : Int32) (x3 : Int32) (x4 : Int32) (x5 : Int32) (M : Mem), X κ 6 emV n (0, 0) 204 [.ref r0, .int x1, .int x2, .int x3, .int x4, .int x5] [] M (k204 x1 x2 x3 x4 x5 M)) (x1 : Int32) (x2 : Int32) (x3 : Int32) (x4 : Int32) (x5 : Int32) (M : Mem) : X κ 6 emV n (0, 0) 293 [.ref r0, .int x1, .int x2, .int x3, .int x4, .int x5] [] M (f_X12_ahead_293 k204 r0 x1 x2 x3 x4 x5 M) := by
  unfold f_X12_ahead_293
  refine x_iload (i := 5) rfl hC (zdk dk_X12_ahead 161 rfl) (q := 295) rfl ?_
  refine x_iload (i := 4) rfl hC (zdk dk_X12_ahead 162 rfl) (q := 297) rfl ?_
  refine x_icmp_ge (tgt := 325) hC (zdk dk_X12_ahead 163 rfl) (q := 300) rfl rfl (fun _ => ?_) (fun _ => ?_)
  · refine x_weak (L' := [.ref r0, .int x1, .int x2, .int x3, .int x4, .int x5]) ⟨Or.inr rfl, Or.inr rfl, Or.inr rfl, Or.inr rfl, Or.inr rfl, Or.inr rfl, trivial⟩ ?_
    exact x_X12_ahead_325 hC hE hk0 h_r0 k204 hk204 _ _ _ _ _ _
  · refine x_iload_n (i := 3) rfl hC (zdk dk_X12_ahead 164 rfl) (q := 301) rfl ?_
    refine x_if_eq (tgt := 325) hC (zdk dk_X12_ahead 165 rfl) (q := 304) rfl rfl (fun _ => ?_) (fun _ => ?_)
    · refine x_weak (L' := [.ref r0, .int x1, .int x2, .int x3, .int x4, .int x5]) ⟨Or.inr rfl, Or.inr rfl, Or.inr rfl, Or.inr rfl, Or.inr rfl, Or.inr rfl, trivial⟩ ?_
      exact x_X12_ahead_325 hC hE hk0 h_r0 k204 hk204 _ _ _ _ _ _
    · refine x_aload_n (i := 0) rfl hC (zdk dk_X12_ahead 166 rfl) (q := 305) rfl ?_
      refine x_bipush (i := 10) c_bipush_10 hC (zdk dk_X12_ahead 167 rfl) (q := 307) rfl ?_
      refine x_aload_n (i := 0) rfl hC (zdk dk_X12_ahead 168 rfl) (q := 308) rfl ?_
      refine x_getI fl_RX12_29 (by decide) h_r0 hC (zdk dk_X12_ahead 169 rfl) (q := 311) rfl ?_
      refine x_imul hC (zdk dk_X12_ahead 170 rfl) (q := 312) rfl ?_
      refine x_aload_n (i := 0) rfl hC (zdk dk_X12_ahead 171 rfl) (q := 313) rfl ?_
      refine x_getR (k := 20) fl_RX12_7 rfl h_r0 hC (zdk dk_X12_ahead 172 rfl) (q := 316) rfl (fun q1 hq1 => ?_)
      refine x_iload_n (i := 1) rfl hC (zdk dk_X12_ahead 173 rfl) (q := 317) rfl ?_
      refine x_iald hq1 hC (zdk dk_X12_ahead 174 rfl) (q := 318) rfl (fun k2 _ => ?_)
      refine x_iadd hC (zdk dk_X12_ahead 175 rfl) (q := 319) rfl ?_
      refine x_bipush (i := 48) c_bipush_48 hC (zdk dk_X12_ahead 176 rfl) (q := 321) rfl ?_
      refine x_isub hC (zdk dk_X12_ahead 177 rfl) (q := 322) rfl ?_
      refine x_putI fl_RX12_29 ⟨rfl, rfl⟩ (by decide) (Or.inl rfl) h_r0 hC (zdk dk_X12_ahead 178 rfl) (q := 325) rfl ?_
      refine x_nmM (fun M3 => ?_)
      refine x_weak (L' := [.ref r0, .int x1, .int x2, .int x3, .int x4, .int x5]) ⟨Or.inr rfl, Or.inr rfl, Or.inr rfl, Or.inr rfl, Or.inr rfl, Or.inr rfl, trivial⟩ ?_
      exact x_X12_ahead_325 hC hE hk0 h_r0 k204 hk204 _ _ _ _ _ _
set_option maxRecDepth 100000 in
def f_X12_ahead_263 (k204 : Int32 → Int32 → Int32 → Int32 → Int32 → Mem → Option Mem) (r0 : Nat) (x1 : Int32) (x2 : Int32) (x3 : Int32) (x4 : Int32) (x5 : Int32) (M : Mem) : Option Mem := (if x4 ≤ x5 then f_X12_ahead_293 k204 r0 x1 x2 x3 x4 x5 M else (if x2 = 0 then f_X12_ahead_293 k204 r0 x1 x2 x3 x4 x5 M else Option.bind (zrf M r0 0) fun q4 => Option.bind (zld q4 x1) fun k5 => Option.bind (some (zsL M r0 7 (((zL M r0 7) <<< ((8 : Int32).toInt64 &&& 63)) ||| ((zI M q4 k5).toInt64)))) fun M6 => f_X12_ahead_293 k204 r0 x1 x2 x3 x4 x5 M6))
set_option maxRecDepth 100000 in
set_option maxHeartbeats 4000000 in
theorem x_X12_ahead_263 {κ : KX} {n : Nat} (hC : CX κ cX12_ahead RX12 6 none 1) (hE : zEnd κ n (0, 0)) (hk0 : zRk κ (0, 0)) {r0 : Nat} (h_r0 : zO n r0 12) (k204 : Int32 → Int32 → Int32 → Int32 → Int32 → Mem → Option Mem) (hk204 : ∀ (x1 : Int32) (x2 : Int32) (x3 : Int32) (x4 : Int32) (x5 : Int32) (M : Mem), X κ 6 emV n (0, 0) 204 [.ref r0, .int x1, .int x2, .int x3, .int x4, .int x5] [] M (k204 x1 x2 x3 x4 x5 M)) (x1 : Int32) (x2 : Int32) (x3 : Int32) (x4 : Int32) (x5 : Int32) (M : Mem) : X κ 6 emV n (0, 0) 263 [.ref r0, .int x1, .int x2, .int x3, .int x4, .int x5] [] M (f_X12_ahead_263 k204 r0 x1 x2 x3 x4 x5 M) := by
  unfold f_X12_ahead_263
  refine x_iload (i := 5) rfl hC (zdk dk_X12_ahead 144 rfl) (q := 265) rfl ?_
  refine x_iload (i := 4) rfl hC (zdk dk_X12_ahead 145 rfl) (q := 267) rfl ?_
  refine x_icmp_ge (tgt := 293) hC (zdk dk_X12_ahead 146 rfl) (q := 270) rfl rfl (fun _ => ?_) (fun _ => ?_)
  · refine x_weak (L' := [.ref r0, .int x1, .int x2, .int x3, .int x4, .int x5]) ⟨Or.inr rfl, Or.inr rfl, Or.inr rfl, Or.inr rfl, Or.inr rfl, Or.inr rfl, trivial⟩ ?_
    exact x_X12_ahead_293 hC hE hk0 h_r0 k204 hk204 _ _ _ _ _ _
  · refine x_iload_n (i := 2) rfl hC (zdk dk_X12_ahead 147 rfl) (q := 271) rfl ?_
    refine x_if_eq (tgt := 293) hC (zdk dk_X12_ahead 148 rfl) (q := 274) rfl rfl (fun _ => ?_) (fun _ => ?_)
    · refine x_weak (L' := [.ref r0, .int x1, .int x2, .int x3, .int x4, .int x5]) ⟨Or.inr rfl, Or.inr rfl, Or.inr rfl, Or.inr rfl, Or.inr rfl, Or.inr rfl, trivial⟩ ?_
      exact x_X12_ahead_293 hC hE hk0 h_r0 k204 hk204 _ _ _ _ _ _
    · refine x_aload_n (i := 0) rfl hC (zdk dk_X12_ahead 149 rfl) (q := 275) rfl ?_
      refine x_aload_n (i := 0) rfl hC (zdk dk_X12_ahead 150 rfl) (q := 276) rfl ?_
      refine x_getL fl_RX12_32 h_r0 hC (zdk dk_X12_ahead 151 rfl) (q := 279) rfl ?_
      refine x_bipush (i := 8) c_bipush_8 hC (zdk dk_X12_ahead 152 rfl) (q := 281) rfl ?_
      refine x_lshl hC (zdk dk_X12_ahead 153 rfl) (q := 282) rfl ?_
      refine x_aload_n (i := 0) rfl hC (zdk dk_X12_ahead 154 rfl) (q := 283) rfl ?_
      refine x_getR (k := 20) fl_RX12_7 rfl h_r0 hC (zdk dk_X12_ahead 155 rfl) (q := 286) rfl (fun q4 hq4 => ?_)
      refine x_iload_n (i := 1) rfl hC (zdk dk_X12_ahead 156 rfl) (q := 287) rfl ?_
      refine x_iald hq4 hC (zdk dk_X12_ahead 157 rfl) (q := 288) rfl (fun k5 _ => ?_)
      refine x_i2l hC (zdk dk_X12_ahead 158 rfl) (q := 289) rfl ?_
      refine x_lor hC (zdk dk_X12_ahead 159 rfl) (q := 290) rfl ?_
      refine x_putL fl_RX12_32 ⟨rfl, rfl⟩ (Or.inl rfl) h_r0 hC (zdk dk_X12_ahead 160 rfl) (q := 293) rfl ?_
      refine x_nmM (fun M6 => ?_)
      refine x_weak (L' := [.ref r0, .int x1, .int x2, .int x3, .int x4, .int x5]) ⟨Or.inr rfl, Or.inr rfl, Or.inr rfl, Or.inr rfl, Or.inr rfl, Or.inr rfl, trivial⟩ ?_
      exact x_X12_ahead_293 hC hE hk0 h_r0 k204 hk204 _ _ _ _ _ _
set_option maxRecDepth 100000 in
def f_X12_ahead_243 (k204 : Int32 → Int32 → Int32 → Int32 → Int32 → Mem → Option Mem) (r0 : Nat) (x1 : Int32) (x2 : Int32) (x3 : Int32) (x4 : Int32) (x5 : Int32) (M : Mem) : Option Mem := (if x5 = x4 then (if zI M r0 12 = (-1) then Option.bind (some (zsI M r0 12 x1)) fun M7 => f_X12_ahead_263 k204 r0 x1 x2 x3 x4 x5 M7 else f_X12_ahead_263 k204 r0 x1 x2 x3 x4 x5 M) else f_X12_ahead_263 k204 r0 x1 x2 x3 x4 x5 M)
set_option maxRecDepth 100000 in
set_option maxHeartbeats 4000000 in
theorem x_X12_ahead_243 {κ : KX} {n : Nat} (hC : CX κ cX12_ahead RX12 6 none 1) (hE : zEnd κ n (0, 0)) (hk0 : zRk κ (0, 0)) {r0 : Nat} (h_r0 : zO n r0 12) (k204 : Int32 → Int32 → Int32 → Int32 → Int32 → Mem → Option Mem) (hk204 : ∀ (x1 : Int32) (x2 : Int32) (x3 : Int32) (x4 : Int32) (x5 : Int32) (M : Mem), X κ 6 emV n (0, 0) 204 [.ref r0, .int x1, .int x2, .int x3, .int x4, .int x5] [] M (k204 x1 x2 x3 x4 x5 M)) (x1 : Int32) (x2 : Int32) (x3 : Int32) (x4 : Int32) (x5 : Int32) (M : Mem) : X κ 6 emV n (0, 0) 243 [.ref r0, .int x1, .int x2, .int x3, .int x4, .int x5] [] M (f_X12_ahead_243 k204 r0 x1 x2 x3 x4 x5 M) := by
  unfold f_X12_ahead_243
  refine x_iload (i := 5) rfl hC (zdk dk_X12_ahead 134 rfl) (q := 245) rfl ?_
  refine x_iload (i := 4) rfl hC (zdk dk_X12_ahead 135 rfl) (q := 247) rfl ?_
  refine x_icmp_ne (tgt := 263) hC (zdk dk_X12_ahead 136 rfl) (q := 250) rfl rfl (fun _ => ?_) (fun _ => ?_)
  · refine x_weak (L' := [.ref r0, .int x1, .int x2, .int x3, .int x4, .int x5]) ⟨Or.inr rfl, Or.inr rfl, Or.inr rfl, Or.inr rfl, Or.inr rfl, Or.inr rfl, trivial⟩ ?_
    exact x_X12_ahead_263 hC hE hk0 h_r0 k204 hk204 _ _ _ _ _ _
  · refine x_aload_n (i := 0) rfl hC (zdk dk_X12_ahead 137 rfl) (q := 251) rfl ?_
    refine x_getI fl_RX12_48 (by decide) h_r0 hC (zdk dk_X12_ahead 138 rfl) (q := 254) rfl ?_
    refine x_iconst (i := (-1)) c_iconst_m1 hC (zdk dk_X12_ahead 139 rfl) (q := 255) rfl ?_
    refine x_icmp_ne (tgt := 263) hC (zdk dk_X12_ahead 140 rfl) (q := 258) rfl rfl (fun _ => ?_) (fun _ => ?_)
    · refine x_weak (L' := [.ref r0, .int x1, .int x2, .int x3, .int x4, .int x5]) ⟨Or.inr rfl, Or.inr rfl, Or.inr rfl, Or.inr rfl, Or.inr rfl, Or.inr rfl, trivial⟩ ?_
      exact x_X12_ahead_263 hC hE hk0 h_r0 k204 hk204 _ _ _ _ _ _
    · refine x_aload_n (i := 0) rfl hC (zdk dk_X12_ahead 141 rfl) (q := 259) rfl ?_
      refine x_iload_n (i := 1) rfl hC (zdk dk_X12_ahead 142 rfl) (q := 260) rfl ?_
      refine x_putI fl_RX12_48 ⟨rfl, rfl⟩ (by decide) (Or.inl rfl) h_r0 hC (zdk dk_X12_ahead 143 rfl) (q := 263) rfl ?_
      refine x_nmM (fun M7 => ?_)
      refine x_weak (L' := [.ref r0, .int x1, .int x2, .int x3, .int x4, .int x5]) ⟨Or.inr rfl, Or.inr rfl, Or.inr rfl, Or.inr rfl, Or.inr rfl, Or.inr rfl, trivial⟩ ?_
      exact x_X12_ahead_263 hC hE hk0 h_r0 k204 hk204 _ _ _ _ _ _
set_option maxRecDepth 100000 in
def f_X12_ahead_334  (r0 : Nat) (x1 : Int32) (M : Mem) : Option Mem := Option.bind (some (zsI M r0 5 x1)) fun M8 => some M8
set_option maxRecDepth 100000 in
set_option maxHeartbeats 4000000 in
theorem x_X12_ahead_334 {κ : KX} {n : Nat} (hC : CX κ cX12_ahead RX12 6 none 1) (hE : zEnd κ n (0, 0)) (hk0 : zRk κ (0, 0)) {r0 : Nat} (h_r0 : zO n r0 12) (x1 : Int32) (M : Mem) : X κ 6 emV n (0, 0) 334 [.ref r0, .int x1, .null, .null, .null, .null] [] M (f_X12_ahead_334 r0 x1 M) := by
  unfold f_X12_ahead_334
  refine x_aload_n (i := 0) rfl hC (zdk dk_X12_ahead 182 rfl) (q := 335) rfl ?_
  refine x_iload_n (i := 1) rfl hC (zdk dk_X12_ahead 183 rfl) (q := 336) rfl ?_
  refine x_putI fl_RX12_26 ⟨rfl, rfl⟩ (by decide) (Or.inl rfl) h_r0 hC (zdk dk_X12_ahead 184 rfl) (q := 339) rfl ?_
  refine x_nmM (fun M8 => ?_)
  exact x_vret hE hC (zdk dk_X12_ahead 185 rfl)
set_option maxRecDepth 100000 in
def f_X12_ahead_204  (r0 : Nat) : Nat → Int32 → Int32 → Int32 → Int32 → Int32 → Mem → Option Mem
  | 0, _, _, _, _, _, _ => none
  | f + 1, x1, x2, x3, x4, x5, M => (if zI M r0 2 ≤ x1 then f_X12_ahead_334 r0 x1 M else (if x2 = 0 then Option.bind (zrf M r0 0) fun q9 => Option.bind (zld q9 x1) fun k10 => Option.bind (f_X12_isDigit (zI M q9 k10) M) fun z11 => (if z11.1 = 0 then f_X12_ahead_334 r0 x1 z11.2 else f_X12_ahead_243 (f_X12_ahead_204 r0 f) r0 x1 x2 x3 x4 x5 z11.2) else Option.bind (zrf M r0 0) fun q12 => Option.bind (zld q12 x1) fun k13 => Option.bind (f_X12_isLetter (zI M q12 k13) M) fun z14 => (if z14.1 = 0 then f_X12_ahead_334 r0 x1 z14.2 else f_X12_ahead_243 (f_X12_ahead_204 r0 f) r0 x1 x2 x3 x4 x5 z14.2)))
set_option maxRecDepth 100000 in
set_option maxHeartbeats 4000000 in
theorem x_X12_ahead_204 {κ : KX} {n : Nat} (hC : CX κ cX12_ahead RX12 6 none 1) (hE : zEnd κ n (0, 0)) (hk0 : zRk κ (0, 0)) {r0 : Nat} (h_r0 : zO n r0 12) : ∀ (f : Nat) (x1 : Int32) (x2 : Int32) (x3 : Int32) (x4 : Int32) (x5 : Int32) (M : Mem), X κ 6 emV n (0, 0) 204 [.ref r0, .int x1, .int x2, .int x3, .int x4, .int x5] [] M (f_X12_ahead_204 r0 f x1 x2 x3 x4 x5 M) := by
  intro f
  induction f with
  | zero => intros; exact x_none
  | succ f ih =>
    intro x1 x2 x3 x4 x5 M 
    rw [f_X12_ahead_204]
    refine x_iload_n (i := 1) rfl hC (zdk dk_X12_ahead 115 rfl) (q := 205) rfl ?_
    refine x_aload_n (i := 0) rfl hC (zdk dk_X12_ahead 116 rfl) (q := 206) rfl ?_
    refine x_getI fl_RX12_17 (by decide) h_r0 hC (zdk dk_X12_ahead 117 rfl) (q := 209) rfl ?_
    refine x_icmp_ge (tgt := 334) hC (zdk dk_X12_ahead 118 rfl) (q := 212) rfl rfl (fun _ => ?_) (fun _ => ?_)
    · refine x_weak (L' := [.ref r0, .int x1, .null, .null, .null, .null]) ⟨Or.inr rfl, Or.inr rfl, Or.inl rfl, Or.inl rfl, Or.inl rfl, Or.inl rfl, trivial⟩ ?_
      exact x_X12_ahead_334 hC hE hk0 h_r0 _ _
    · refine x_iload_n (i := 2) rfl hC (zdk dk_X12_ahead 119 rfl) (q := 213) rfl ?_
      refine x_if_eq (tgt := 231) hC (zdk dk_X12_ahead 120 rfl) (q := 216) rfl rfl (fun _ => ?_) (fun _ => ?_)
      · refine x_aload_n (i := 0) rfl hC (zdk dk_X12_ahead 128 rfl) (q := 232) rfl ?_
        refine x_getR (k := 20) fl_RX12_7 rfl h_r0 hC (zdk dk_X12_ahead 129 rfl) (q := 235) rfl (fun q9 hq9 => ?_)
        refine x_iload_n (i := 1) rfl hC (zdk dk_X12_ahead 130 rfl) (q := 236) rfl ?_
        refine x_iald hq9 hC (zdk dk_X12_ahead 131 rfl) (q := 237) rfl (fun k10 _ => ?_)
        refine x_callSi (as := [.int (zI M q9 k10)]) cb_RX12_259 rfl (by decide) hk0 (fun x hx => t_X12_isDigit  x hx) hC (zdk dk_X12_ahead 132 rfl) (q := 240) rfl rfl (Nat.le_of_ble_eq_true rfl) (fun z11 => ?_)
        refine x_if_eq (tgt := 334) hC (zdk dk_X12_ahead 133 rfl) (q := 243) rfl rfl (fun _ => ?_) (fun _ => ?_)
        · refine x_weak (L' := [.ref r0, .int x1, .null, .null, .null, .null]) ⟨Or.inr rfl, Or.inr rfl, Or.inl rfl, Or.inl rfl, Or.inl rfl, Or.inl rfl, trivial⟩ ?_
          exact x_X12_ahead_334 hC hE hk0 h_r0 _ _
        · refine x_weak (L' := [.ref r0, .int x1, .int x2, .int x3, .int x4, .int x5]) ⟨Or.inr rfl, Or.inr rfl, Or.inr rfl, Or.inr rfl, Or.inr rfl, Or.inr rfl, trivial⟩ ?_
          exact x_X12_ahead_243 hC hE hk0 h_r0 (f_X12_ahead_204 r0 f) ih _ _ _ _ _ _
      · refine x_aload_n (i := 0) rfl hC (zdk dk_X12_ahead 121 rfl) (q := 217) rfl ?_
        refine x_getR (k := 20) fl_RX12_7 rfl h_r0 hC (zdk dk_X12_ahead 122 rfl) (q := 220) rfl (fun q12 hq12 => ?_)
        refine x_iload_n (i := 1) rfl hC (zdk dk_X12_ahead 123 rfl) (q := 221) rfl ?_
        refine x_iald hq12 hC (zdk dk_X12_ahead 124 rfl) (q := 222) rfl (fun k13 _ => ?_)
        refine x_callSi (as := [.int (zI M q12 k13)]) cb_RX12_255 rfl (by decide) hk0 (fun x hx => t_X12_isLetter  x hx) hC (zdk dk_X12_ahead 125 rfl) (q := 225) rfl rfl (Nat.le_of_ble_eq_true rfl) (fun z14 => ?_)
        refine x_if_eq (tgt := 334) hC (zdk dk_X12_ahead 126 rfl) (q := 228) rfl rfl (fun _ => ?_) (fun _ => ?_)
        · refine x_weak (L' := [.ref r0, .int x1, .null, .null, .null, .null]) ⟨Or.inr rfl, Or.inr rfl, Or.inl rfl, Or.inl rfl, Or.inl rfl, Or.inl rfl, trivial⟩ ?_
          exact x_X12_ahead_334 hC hE hk0 h_r0 _ _
        · refine x_goto (tgt := 243) hC (zdk dk_X12_ahead 127 rfl) rfl ?_
          refine x_weak (L' := [.ref r0, .int x1, .int x2, .int x3, .int x4, .int x5]) ⟨Or.inr rfl, Or.inr rfl, Or.inr rfl, Or.inr rfl, Or.inr rfl, Or.inr rfl, trivial⟩ ?_
          exact x_X12_ahead_243 hC hE hk0 h_r0 (f_X12_ahead_204 r0 f) ih _ _ _ _ _ _
set_option maxRecDepth 100000 in
def f_X12_ahead_199  (r0 : Nat) (x1 : Int32) (x2 : Int32) (x3 : Int32) (s0 : Int32) (M : Mem) : Option Mem := f_X12_ahead_204 r0 1000000 x1 x2 x3 s0 0 M
set_option maxRecDepth 100000 in
set_option maxHeartbeats 4000000 in
theorem x_X12_ahead_199 {κ : KX} {n : Nat} (hC : CX κ cX12_ahead RX12 6 none 1) (hE : zEnd κ n (0, 0)) (hk0 : zRk κ (0, 0)) {r0 : Nat} (h_r0 : zO n r0 12) (x1 : Int32) (x2 : Int32) (x3 : Int32) (s0 : Int32) (M : Mem) : X κ 6 emV n (0, 0) 199 [.ref r0, .int x1, .int x2, .int x3, .null, .null] [.int s0] M (f_X12_ahead_199 r0 x1 x2 x3 s0 M) := by
  unfold f_X12_ahead_199
  refine x_istore (i := 4) (L' := [.ref r0, .int x1, .int x2, .int x3, .int s0, .null]) (by decide) rfl hC (zdk dk_X12_ahead 112 rfl) (q := 201) rfl ?_
  refine x_iconst (i := 0) c_iconst_0 hC (zdk dk_X12_ahead 113 rfl) (q := 202) rfl ?_
  refine x_istore (i := 5) (L' := [.ref r0, .int x1, .int x2, .int x3, .int s0, .int 0]) (by decide) rfl hC (zdk dk_X12_ahead 114 rfl) (q := 204) rfl ?_
  refine x_weak (L' := [.ref r0, .int x1, .int x2, .int x3, .int s0, .int 0]) ⟨Or.inr rfl, Or.inr rfl, Or.inr rfl, Or.inr rfl, Or.inr rfl, Or.inr rfl, trivial⟩ ?_
  exact x_X12_ahead_204 hC hE hk0 h_r0 _ _ _ _ _ _ _
set_option maxRecDepth 100000 in
def f_X12_ahead_186  (r0 : Nat) (x1 : Int32) (x2 : Int32) (x3 : Int32) (s0 : Nat) (s1 : Int32) (M : Mem) : Option Mem := Option.bind (some (zsI M s0 3 s1)) fun M15 => (if x2 = 0 then f_X12_ahead_199 r0 x1 x2 x3 4 M15 else f_X12_ahead_199 r0 x1 x2 x3 6 M15)
set_option maxRecDepth 100000 in
set_option maxHeartbeats 4000000 in
theorem x_X12_ahead_186 {κ : KX} {n : Nat} (hC : CX κ cX12_ahead RX12 6 none 1) (hE : zEnd κ n (0, 0)) (hk0 : zRk κ (0, 0)) {r0 : Nat} (h_r0 : zO n r0 12) (x1 : Int32) (x2 : Int32) (x3 : Int32) (s0 : Nat) (s1 : Int32) (M : Mem) (h_s0 : zO n s0 12) : X κ 6 emV n (0, 0) 186 [.ref r0, .int x1, .int x2, .int x3, .null, .null] [.int s1, .ref s0] M (f_X12_ahead_186 r0 x1 x2 x3 s0 s1 M) := by
  unfold f_X12_ahead_186
  refine x_putI fl_RX12_20 ⟨rfl, rfl⟩ (by decide) (Or.inl rfl) h_s0 hC (zdk dk_X12_ahead 106 rfl) (q := 189) rfl ?_
  refine x_nmM (fun M15 => ?_)
  refine x_iload_n (i := 2) rfl hC (zdk dk_X12_ahead 107 rfl) (q := 190) rfl ?_
  refine x_if_eq (tgt := 198) hC (zdk dk_X12_ahead 108 rfl) (q := 193) rfl rfl (fun _ => ?_) (fun _ => ?_)
  · refine x_iconst (i := 4) c_iconst_4 hC (zdk dk_X12_ahead 111 rfl) (q := 199) rfl ?_
    refine x_weak (L' := [.ref r0, .int x1, .int x2, .int x3, .null, .null]) ⟨Or.inr rfl, Or.inr rfl, Or.inr rfl, Or.inr rfl, Or.inl rfl, Or.inl rfl, trivial⟩ ?_
    exact x_X12_ahead_199 hC hE hk0 h_r0 _ _ _ _ _
  · refine x_bipush (i := 6) c_bipush_6 hC (zdk dk_X12_ahead 109 rfl) (q := 195) rfl ?_
    refine x_goto (tgt := 199) hC (zdk dk_X12_ahead 110 rfl) rfl ?_
    refine x_weak (L' := [.ref r0, .int x1, .int x2, .int x3, .null, .null]) ⟨Or.inr rfl, Or.inr rfl, Or.inr rfl, Or.inr rfl, Or.inl rfl, Or.inl rfl, trivial⟩ ?_
    exact x_X12_ahead_199 hC hE hk0 h_r0 _ _ _ _ _
set_option maxRecDepth 100000 in
def f_X12_ahead_176  (r0 : Nat) (x1 : Int32) (x2 : Int32) (x3 : Int32) (M : Mem) : Option Mem := (if x2 = 0 then f_X12_ahead_186 r0 x1 x2 x3 r0 2 M else f_X12_ahead_186 r0 x1 x2 x3 r0 1 M)
set_option maxRecDepth 100000 in
set_option maxHeartbeats 4000000 in
theorem x_X12_ahead_176 {κ : KX} {n : Nat} (hC : CX κ cX12_ahead RX12 6 none 1) (hE : zEnd κ n (0, 0)) (hk0 : zRk κ (0, 0)) {r0 : Nat} (h_r0 : zO n r0 12) (x1 : Int32) (x2 : Int32) (x3 : Int32) (M : Mem) : X κ 6 emV n (0, 0) 176 [.ref r0, .int x1, .int x2, .int x3, .null, .null] [] M (f_X12_ahead_176 r0 x1 x2 x3 M) := by
  unfold f_X12_ahead_176
  refine x_aload_n (i := 0) rfl hC (zdk dk_X12_ahead 100 rfl) (q := 177) rfl ?_
  refine x_iload_n (i := 2) rfl hC (zdk dk_X12_ahead 101 rfl) (q := 178) rfl ?_
  refine x_if_eq (tgt := 185) hC (zdk dk_X12_ahead 102 rfl) (q := 181) rfl rfl (fun _ => ?_) (fun _ => ?_)
  · refine x_iconst (i := 2) c_iconst_2 hC (zdk dk_X12_ahead 105 rfl) (q := 186) rfl ?_
    refine x_weak (L' := [.ref r0, .int x1, .int x2, .int x3, .null, .null]) ⟨Or.inr rfl, Or.inr rfl, Or.inr rfl, Or.inr rfl, Or.inl rfl, Or.inl rfl, trivial⟩ ?_
    exact x_X12_ahead_186 hC hE hk0 h_r0 _ _ _ _ _ _ h_r0
  · refine x_iconst (i := 1) c_iconst_1 hC (zdk dk_X12_ahead 103 rfl) (q := 182) rfl ?_
    refine x_goto (tgt := 186) hC (zdk dk_X12_ahead 104 rfl) rfl ?_
    refine x_weak (L' := [.ref r0, .int x1, .int x2, .int x3, .null, .null]) ⟨Or.inr rfl, Or.inr rfl, Or.inr rfl, Or.inr rfl, Or.inl rfl, Or.inl rfl, trivial⟩ ?_
    exact x_X12_ahead_186 hC hE hk0 h_r0 _ _ _ _ _ _ h_r0
set_option maxRecDepth 100000 in
def f_X12_ahead_135  (r0 : Nat) (x1 : Int32) (x2 : Int32) (x3 : Int32) (M : Mem) : Option Mem := Option.bind (some (zsI M r0 6 0)) fun M16 => Option.bind (some (zsL M16 r0 7 0)) fun M17 => Option.bind (some (zsI M17 r0 3 3)) fun M18 => Option.bind (some (zsI M18 r0 5 (x1 + 1))) fun M19 => (if x2 = 0 then (if x3 = 0 then Option.bind (zrf M19 r0 0) fun q20 => Option.bind (zld q20 x1) fun k21 => Option.bind (some (zsI M19 r0 6 (zI M19 q20 k21))) fun M22 => some M22 else f_X12_ahead_176 r0 x1 x2 x3 M19) else f_X12_ahead_176 r0 x1 x2 x3 M19)
set_option maxRecDepth 100000 in
set_option maxHeartbeats 4000000 in
theorem x_X12_ahead_135 {κ : KX} {n : Nat} (hC : CX κ cX12_ahead RX12 6 none 1) (hE : zEnd κ n (0, 0)) (hk0 : zRk κ (0, 0)) {r0 : Nat} (h_r0 : zO n r0 12) (x1 : Int32) (x2 : Int32) (x3 : Int32) (M : Mem) : X κ 6 emV n (0, 0) 135 [.ref r0, .int x1, .int x2, .int x3, .null, .null] [] M (f_X12_ahead_135 r0 x1 x2 x3 M) := by
  unfold f_X12_ahead_135
  refine x_aload_n (i := 0) rfl hC (zdk dk_X12_ahead 75 rfl) (q := 136) rfl ?_
  refine x_iconst (i := 0) c_iconst_0 hC (zdk dk_X12_ahead 76 rfl) (q := 137) rfl ?_
  refine x_putI fl_RX12_29 ⟨rfl, rfl⟩ (by decide) (Or.inl rfl) h_r0 hC (zdk dk_X12_ahead 77 rfl) (q := 140) rfl ?_
  refine x_nmM (fun M16 => ?_)
  refine x_aload_n (i := 0) rfl hC (zdk dk_X12_ahead 78 rfl) (q := 141) rfl ?_
  refine x_lconst (i := 0) c_lconst_0 hC (zdk dk_X12_ahead 79 rfl) (q := 142) rfl ?_
  refine x_putL fl_RX12_32 ⟨rfl, rfl⟩ (Or.inl rfl) h_r0 hC (zdk dk_X12_ahead 80 rfl) (q := 145) rfl ?_
  refine x_nmM (fun M17 => ?_)
  refine x_aload_n (i := 0) rfl hC (zdk dk_X12_ahead 81 rfl) (q := 146) rfl ?_
  refine x_iconst (i := 3) c_iconst_3 hC (zdk dk_X12_ahead 82 rfl) (q := 147) rfl ?_
  refine x_putI fl_RX12_20 ⟨rfl, rfl⟩ (by decide) (Or.inl rfl) h_r0 hC (zdk dk_X12_ahead 83 rfl) (q := 150) rfl ?_
  refine x_nmM (fun M18 => ?_)
  refine x_aload_n (i := 0) rfl hC (zdk dk_X12_ahead 84 rfl) (q := 151) rfl ?_
  refine x_iload_n (i := 1) rfl hC (zdk dk_X12_ahead 85 rfl) (q := 152) rfl ?_
  refine x_iconst (i := 1) c_iconst_1 hC (zdk dk_X12_ahead 86 rfl) (q := 153) rfl ?_
  refine x_iadd hC (zdk dk_X12_ahead 87 rfl) (q := 154) rfl ?_
  refine x_putI fl_RX12_26 ⟨rfl, rfl⟩ (by decide) (Or.inl rfl) h_r0 hC (zdk dk_X12_ahead 88 rfl) (q := 157) rfl ?_
  refine x_nmM (fun M19 => ?_)
  refine x_iload_n (i := 2) rfl hC (zdk dk_X12_ahead 89 rfl) (q := 158) rfl ?_
  refine x_if_ne (tgt := 176) hC (zdk dk_X12_ahead 90 rfl) (q := 161) rfl rfl (fun _ => ?_) (fun _ => ?_)
  · refine x_weak (L' := [.ref r0, .int x1, .int x2, .int x3, .null, .null]) ⟨Or.inr rfl, Or.inr rfl, Or.inr rfl, Or.inr rfl, Or.inl rfl, Or.inl rfl, trivial⟩ ?_
    exact x_X12_ahead_176 hC hE hk0 h_r0 _ _ _ _
  · refine x_iload_n (i := 3) rfl hC (zdk dk_X12_ahead 91 rfl) (q := 162) rfl ?_
    refine x_if_ne (tgt := 176) hC (zdk dk_X12_ahead 92 rfl) (q := 165) rfl rfl (fun _ => ?_) (fun _ => ?_)
    · refine x_weak (L' := [.ref r0, .int x1, .int x2, .int x3, .null, .null]) ⟨Or.inr rfl, Or.inr rfl, Or.inr rfl, Or.inr rfl, Or.inl rfl, Or.inl rfl, trivial⟩ ?_
      exact x_X12_ahead_176 hC hE hk0 h_r0 _ _ _ _
    · refine x_aload_n (i := 0) rfl hC (zdk dk_X12_ahead 93 rfl) (q := 166) rfl ?_
      refine x_aload_n (i := 0) rfl hC (zdk dk_X12_ahead 94 rfl) (q := 167) rfl ?_
      refine x_getR (k := 20) fl_RX12_7 rfl h_r0 hC (zdk dk_X12_ahead 95 rfl) (q := 170) rfl (fun q20 hq20 => ?_)
      refine x_iload_n (i := 1) rfl hC (zdk dk_X12_ahead 96 rfl) (q := 171) rfl ?_
      refine x_iald hq20 hC (zdk dk_X12_ahead 97 rfl) (q := 172) rfl (fun k21 _ => ?_)
      refine x_putI fl_RX12_29 ⟨rfl, rfl⟩ (by decide) (Or.inl rfl) h_r0 hC (zdk dk_X12_ahead 98 rfl) (q := 175) rfl ?_
      refine x_nmM (fun M22 => ?_)
      exact x_vret hE hC (zdk dk_X12_ahead 99 rfl)
set_option maxRecDepth 100000 in
def f_X12_ahead_130  (r0 : Nat) (x1 : Int32) (x2 : Int32) (x3 : Int32) (M : Mem) : Option Mem := Option.bind (some (zsI M r0 12 x1)) fun M23 => f_X12_ahead_135 r0 x1 x2 x3 M23
set_option maxRecDepth 100000 in
set_option maxHeartbeats 4000000 in
theorem x_X12_ahead_130 {κ : KX} {n : Nat} (hC : CX κ cX12_ahead RX12 6 none 1) (hE : zEnd κ n (0, 0)) (hk0 : zRk κ (0, 0)) {r0 : Nat} (h_r0 : zO n r0 12) (x1 : Int32) (x2 : Int32) (x3 : Int32) (M : Mem) : X κ 6 emV n (0, 0) 130 [.ref r0, .int x1, .int x2, .int x3, .null, .null] [] M (f_X12_ahead_130 r0 x1 x2 x3 M) := by
  unfold f_X12_ahead_130
  refine x_aload_n (i := 0) rfl hC (zdk dk_X12_ahead 72 rfl) (q := 131) rfl ?_
  refine x_iload_n (i := 1) rfl hC (zdk dk_X12_ahead 73 rfl) (q := 132) rfl ?_
  refine x_putI fl_RX12_48 ⟨rfl, rfl⟩ (by decide) (Or.inl rfl) h_r0 hC (zdk dk_X12_ahead 74 rfl) (q := 135) rfl ?_
  refine x_nmM (fun M23 => ?_)
  refine x_weak (L' := [.ref r0, .int x1, .int x2, .int x3, .null, .null]) ⟨Or.inr rfl, Or.inr rfl, Or.inr rfl, Or.inr rfl, Or.inl rfl, Or.inl rfl, trivial⟩ ?_
  exact x_X12_ahead_135 hC hE hk0 h_r0 _ _ _ _
set_option maxRecDepth 100000 in
def f_X12_ahead_98  (r0 : Nat) (x1 : Int32) (x2 : Int32) (x3 : Int32) (M : Mem) : Option Mem := (if x1 ≤ 0 then f_X12_ahead_135 r0 x1 x2 x3 M else Option.bind (zrf M r0 0) fun q24 => Option.bind (zld q24 (x1 - 1)) fun k25 => Option.bind (f_X12_isLetter (zI M q24 k25) M) fun z26 => (if z26.1 = 0 then Option.bind (zrf z26.2 r0 0) fun q27 => Option.bind (zld q27 (x1 - 1)) fun k28 => Option.bind (f_X12_isDigit (zI z26.2 q27 k28) z26.2) fun z29 => (if z29.1 = 0 then f_X12_ahead_135 r0 x1 x2 x3 z29.2 else f_X12_ahead_130 r0 x1 x2 x3 z29.2) else f_X12_ahead_130 r0 x1 x2 x3 z26.2))
set_option maxRecDepth 100000 in
set_option maxHeartbeats 4000000 in
theorem x_X12_ahead_98 {κ : KX} {n : Nat} (hC : CX κ cX12_ahead RX12 6 none 1) (hE : zEnd κ n (0, 0)) (hk0 : zRk κ (0, 0)) {r0 : Nat} (h_r0 : zO n r0 12) (x1 : Int32) (x2 : Int32) (x3 : Int32) (M : Mem) : X κ 6 emV n (0, 0) 98 [.ref r0, .int x1, .int x2, .int x3, .null, .null] [] M (f_X12_ahead_98 r0 x1 x2 x3 M) := by
  unfold f_X12_ahead_98
  refine x_iload_n (i := 1) rfl hC (zdk dk_X12_ahead 54 rfl) (q := 99) rfl ?_
  refine x_if_le (tgt := 135) hC (zdk dk_X12_ahead 55 rfl) (q := 102) rfl rfl (fun _ => ?_) (fun _ => ?_)
  · refine x_weak (L' := [.ref r0, .int x1, .int x2, .int x3, .null, .null]) ⟨Or.inr rfl, Or.inr rfl, Or.inr rfl, Or.inr rfl, Or.inl rfl, Or.inl rfl, trivial⟩ ?_
    exact x_X12_ahead_135 hC hE hk0 h_r0 _ _ _ _
  · refine x_aload_n (i := 0) rfl hC (zdk dk_X12_ahead 56 rfl) (q := 103) rfl ?_
    refine x_getR (k := 20) fl_RX12_7 rfl h_r0 hC (zdk dk_X12_ahead 57 rfl) (q := 106) rfl (fun q24 hq24 => ?_)
    refine x_iload_n (i := 1) rfl hC (zdk dk_X12_ahead 58 rfl) (q := 107) rfl ?_
    refine x_iconst (i := 1) c_iconst_1 hC (zdk dk_X12_ahead 59 rfl) (q := 108) rfl ?_
    refine x_isub hC (zdk dk_X12_ahead 60 rfl) (q := 109) rfl ?_
    refine x_iald hq24 hC (zdk dk_X12_ahead 61 rfl) (q := 110) rfl (fun k25 _ => ?_)
    refine x_callSi (as := [.int (zI M q24 k25)]) cb_RX12_255 rfl (by decide) hk0 (fun x hx => t_X12_isLetter  x hx) hC (zdk dk_X12_ahead 62 rfl) (q := 113) rfl rfl (Nat.le_of_ble_eq_true rfl) (fun z26 => ?_)
    refine x_if_ne (tgt := 130) hC (zdk dk_X12_ahead 63 rfl) (q := 116) rfl rfl (fun _ => ?_) (fun _ => ?_)
    · refine x_weak (L' := [.ref r0, .int x1, .int x2, .int x3, .null, .null]) ⟨Or.inr rfl, Or.inr rfl, Or.inr rfl, Or.inr rfl, Or.inl rfl, Or.inl rfl, trivial⟩ ?_
      exact x_X12_ahead_130 hC hE hk0 h_r0 _ _ _ _
    · refine x_aload_n (i := 0) rfl hC (zdk dk_X12_ahead 64 rfl) (q := 117) rfl ?_
      refine x_getR (k := 20) fl_RX12_7 rfl h_r0 hC (zdk dk_X12_ahead 65 rfl) (q := 120) rfl (fun q27 hq27 => ?_)
      refine x_iload_n (i := 1) rfl hC (zdk dk_X12_ahead 66 rfl) (q := 121) rfl ?_
      refine x_iconst (i := 1) c_iconst_1 hC (zdk dk_X12_ahead 67 rfl) (q := 122) rfl ?_
      refine x_isub hC (zdk dk_X12_ahead 68 rfl) (q := 123) rfl ?_
      refine x_iald hq27 hC (zdk dk_X12_ahead 69 rfl) (q := 124) rfl (fun k28 _ => ?_)
      refine x_callSi (as := [.int (zI z26.2 q27 k28)]) cb_RX12_259 rfl (by decide) hk0 (fun x hx => t_X12_isDigit  x hx) hC (zdk dk_X12_ahead 70 rfl) (q := 127) rfl rfl (Nat.le_of_ble_eq_true rfl) (fun z29 => ?_)
      refine x_if_eq (tgt := 135) hC (zdk dk_X12_ahead 71 rfl) (q := 130) rfl rfl (fun _ => ?_) (fun _ => ?_)
      · refine x_weak (L' := [.ref r0, .int x1, .int x2, .int x3, .null, .null]) ⟨Or.inr rfl, Or.inr rfl, Or.inr rfl, Or.inr rfl, Or.inl rfl, Or.inl rfl, trivial⟩ ?_
        exact x_X12_ahead_135 hC hE hk0 h_r0 _ _ _ _
      · refine x_weak (L' := [.ref r0, .int x1, .int x2, .int x3, .null, .null]) ⟨Or.inr rfl, Or.inr rfl, Or.inr rfl, Or.inr rfl, Or.inl rfl, Or.inl rfl, trivial⟩ ?_
        exact x_X12_ahead_130 hC hE hk0 h_r0 _ _ _ _
set_option maxRecDepth 100000 in
def f_X12_ahead_41  (r0 : Nat) (x1 : Int32) (M : Mem) : Option Mem := Option.bind (some (zsI M r0 4 x1)) fun M30 => Option.bind (some (zsI M30 r0 5 x1)) fun M31 => Option.bind (some (zsI M31 r0 3 0)) fun M32 => Option.bind (some (zsI M32 r0 12 ((-1)))) fun M33 => (if x1 < zI M33 r0 2 then Option.bind (zrf M33 r0 0) fun q34 => Option.bind (zld q34 x1) fun k35 => Option.bind (f_X12_isLetter (zI M33 q34 k35) M33) fun z36 => Option.bind (zrf z36.2 r0 0) fun q37 => Option.bind (zld q37 x1) fun k38 => Option.bind (f_X12_isDigit (zI z36.2 q37 k38) z36.2) fun z39 => (if z36.1 = 0 then (if z39.1 = 0 then f_X12_ahead_135 r0 x1 z36.1 z39.1 z39.2 else f_X12_ahead_98 r0 x1 z36.1 z39.1 z39.2) else f_X12_ahead_98 r0 x1 z36.1 z39.1 z39.2) else some M33)
set_option maxRecDepth 100000 in
set_option maxHeartbeats 4000000 in
theorem x_X12_ahead_41 {κ : KX} {n : Nat} (hC : CX κ cX12_ahead RX12 6 none 1) (hE : zEnd κ n (0, 0)) (hk0 : zRk κ (0, 0)) {r0 : Nat} (h_r0 : zO n r0 12) (x1 : Int32) (M : Mem) : X κ 6 emV n (0, 0) 41 [.ref r0, .int x1, .null, .null, .null, .null] [] M (f_X12_ahead_41 r0 x1 M) := by
  unfold f_X12_ahead_41
  refine x_aload_n (i := 0) rfl hC (zdk dk_X12_ahead 21 rfl) (q := 42) rfl ?_
  refine x_iload_n (i := 1) rfl hC (zdk dk_X12_ahead 22 rfl) (q := 43) rfl ?_
  refine x_putI fl_RX12_23 ⟨rfl, rfl⟩ (by decide) (Or.inl rfl) h_r0 hC (zdk dk_X12_ahead 23 rfl) (q := 46) rfl ?_
  refine x_nmM (fun M30 => ?_)
  refine x_aload_n (i := 0) rfl hC (zdk dk_X12_ahead 24 rfl) (q := 47) rfl ?_
  refine x_iload_n (i := 1) rfl hC (zdk dk_X12_ahead 25 rfl) (q := 48) rfl ?_
  refine x_putI fl_RX12_26 ⟨rfl, rfl⟩ (by decide) (Or.inl rfl) h_r0 hC (zdk dk_X12_ahead 26 rfl) (q := 51) rfl ?_
  refine x_nmM (fun M31 => ?_)
  refine x_aload_n (i := 0) rfl hC (zdk dk_X12_ahead 27 rfl) (q := 52) rfl ?_
  refine x_iconst (i := 0) c_iconst_0 hC (zdk dk_X12_ahead 28 rfl) (q := 53) rfl ?_
  refine x_putI fl_RX12_20 ⟨rfl, rfl⟩ (by decide) (Or.inl rfl) h_r0 hC (zdk dk_X12_ahead 29 rfl) (q := 56) rfl ?_
  refine x_nmM (fun M32 => ?_)
  refine x_aload_n (i := 0) rfl hC (zdk dk_X12_ahead 30 rfl) (q := 57) rfl ?_
  refine x_iconst (i := (-1)) c_iconst_m1 hC (zdk dk_X12_ahead 31 rfl) (q := 58) rfl ?_
  refine x_putI fl_RX12_48 ⟨rfl, rfl⟩ (by decide) (Or.inl rfl) h_r0 hC (zdk dk_X12_ahead 32 rfl) (q := 61) rfl ?_
  refine x_nmM (fun M33 => ?_)
  refine x_iload_n (i := 1) rfl hC (zdk dk_X12_ahead 33 rfl) (q := 62) rfl ?_
  refine x_aload_n (i := 0) rfl hC (zdk dk_X12_ahead 34 rfl) (q := 63) rfl ?_
  refine x_getI fl_RX12_17 (by decide) h_r0 hC (zdk dk_X12_ahead 35 rfl) (q := 66) rfl ?_
  refine x_icmp_lt (tgt := 70) hC (zdk dk_X12_ahead 36 rfl) (q := 69) rfl rfl (fun _ => ?_) (fun _ => ?_)
  · refine x_aload_n (i := 0) rfl hC (zdk dk_X12_ahead 38 rfl) (q := 71) rfl ?_
    refine x_getR (k := 20) fl_RX12_7 rfl h_r0 hC (zdk dk_X12_ahead 39 rfl) (q := 74) rfl (fun q34 hq34 => ?_)
    refine x_iload_n (i := 1) rfl hC (zdk dk_X12_ahead 40 rfl) (q := 75) rfl ?_
    refine x_iald hq34 hC (zdk dk_X12_ahead 41 rfl) (q := 76) rfl (fun k35 _ => ?_)
    refine x_callSi (as := [.int (zI M33 q34 k35)]) cb_RX12_255 rfl (by decide) hk0 (fun x hx => t_X12_isLetter  x hx) hC (zdk dk_X12_ahead 42 rfl) (q := 79) rfl rfl (Nat.le_of_ble_eq_true rfl) (fun z36 => ?_)
    refine x_istore_n (i := 2) (L' := [.ref r0, .int x1, .int z36.1, .null, .null, .null]) (by decide) rfl hC (zdk dk_X12_ahead 43 rfl) (q := 80) rfl ?_
    refine x_aload_n (i := 0) rfl hC (zdk dk_X12_ahead 44 rfl) (q := 81) rfl ?_
    refine x_getR (k := 20) fl_RX12_7 rfl h_r0 hC (zdk dk_X12_ahead 45 rfl) (q := 84) rfl (fun q37 hq37 => ?_)
    refine x_iload_n (i := 1) rfl hC (zdk dk_X12_ahead 46 rfl) (q := 85) rfl ?_
    refine x_iald hq37 hC (zdk dk_X12_ahead 47 rfl) (q := 86) rfl (fun k38 _ => ?_)
    refine x_callSi (as := [.int (zI z36.2 q37 k38)]) cb_RX12_259 rfl (by decide) hk0 (fun x hx => t_X12_isDigit  x hx) hC (zdk dk_X12_ahead 48 rfl) (q := 89) rfl rfl (Nat.le_of_ble_eq_true rfl) (fun z39 => ?_)
    refine x_istore_n (i := 3) (L' := [.ref r0, .int x1, .int z36.1, .int z39.1, .null, .null]) (by decide) rfl hC (zdk dk_X12_ahead 49 rfl) (q := 90) rfl ?_
    refine x_iload_n (i := 2) rfl hC (zdk dk_X12_ahead 50 rfl) (q := 91) rfl ?_
    refine x_if_ne (tgt := 98) hC (zdk dk_X12_ahead 51 rfl) (q := 94) rfl rfl (fun _ => ?_) (fun _ => ?_)
    · refine x_weak (L' := [.ref r0, .int x1, .int z36.1, .int z39.1, .null, .null]) ⟨Or.inr rfl, Or.inr rfl, Or.inr rfl, Or.inr rfl, Or.inl rfl, Or.inl rfl, trivial⟩ ?_
      exact x_X12_ahead_98 hC hE hk0 h_r0 _ _ _ _
    · refine x_iload_n (i := 3) rfl hC (zdk dk_X12_ahead 52 rfl) (q := 95) rfl ?_
      refine x_if_eq (tgt := 135) hC (zdk dk_X12_ahead 53 rfl) (q := 98) rfl rfl (fun _ => ?_) (fun _ => ?_)
      · refine x_weak (L' := [.ref r0, .int x1, .int z36.1, .int z39.1, .null, .null]) ⟨Or.inr rfl, Or.inr rfl, Or.inr rfl, Or.inr rfl, Or.inl rfl, Or.inl rfl, trivial⟩ ?_
        exact x_X12_ahead_135 hC hE hk0 h_r0 _ _ _ _
      · refine x_weak (L' := [.ref r0, .int x1, .int z36.1, .int z39.1, .null, .null]) ⟨Or.inr rfl, Or.inr rfl, Or.inr rfl, Or.inr rfl, Or.inl rfl, Or.inl rfl, trivial⟩ ?_
        exact x_X12_ahead_98 hC hE hk0 h_r0 _ _ _ _
  · exact x_vret hE hC (zdk dk_X12_ahead 37 rfl)
set_option maxRecDepth 100000 in
def f_X12_ahead_5  (r0 : Nat) : Nat → Int32 → Mem → Option Mem
  | 0, _, _ => none
  | f + 1, x1, M => (if zI M r0 2 ≤ x1 then f_X12_ahead_41 r0 x1 M else Option.bind (zrf M r0 0) fun q40 => Option.bind (zld q40 x1) fun k41 => (if zI M q40 k41 = 32 then f_X12_ahead_35 (f_X12_ahead_5 r0 f) r0 x1 M else Option.bind (zrf M r0 0) fun q42 => Option.bind (zld q42 x1) fun k43 => (if zI M q42 k43 = 10 then f_X12_ahead_35 (f_X12_ahead_5 r0 f) r0 x1 M else f_X12_ahead_41 r0 x1 M)))
set_option maxRecDepth 100000 in
set_option maxHeartbeats 4000000 in
theorem x_X12_ahead_5 {κ : KX} {n : Nat} (hC : CX κ cX12_ahead RX12 6 none 1) (hE : zEnd κ n (0, 0)) (hk0 : zRk κ (0, 0)) {r0 : Nat} (h_r0 : zO n r0 12) : ∀ (f : Nat) (x1 : Int32) (M : Mem), X κ 6 emV n (0, 0) 5 [.ref r0, .int x1, .null, .null, .null, .null] [] M (f_X12_ahead_5 r0 f x1 M) := by
  intro f
  induction f with
  | zero => intros; exact x_none
  | succ f ih =>
    intro x1 M 
    rw [f_X12_ahead_5]
    refine x_iload_n (i := 1) rfl hC (zdk dk_X12_ahead 3 rfl) (q := 6) rfl ?_
    refine x_aload_n (i := 0) rfl hC (zdk dk_X12_ahead 4 rfl) (q := 7) rfl ?_
    refine x_getI fl_RX12_17 (by decide) h_r0 hC (zdk dk_X12_ahead 5 rfl) (q := 10) rfl ?_
    refine x_icmp_ge (tgt := 41) hC (zdk dk_X12_ahead 6 rfl) (q := 13) rfl rfl (fun _ => ?_) (fun _ => ?_)
    · refine x_weak (L' := [.ref r0, .int x1, .null, .null, .null, .null]) ⟨Or.inr rfl, Or.inr rfl, Or.inl rfl, Or.inl rfl, Or.inl rfl, Or.inl rfl, trivial⟩ ?_
      exact x_X12_ahead_41 hC hE hk0 h_r0 _ _
    · refine x_aload_n (i := 0) rfl hC (zdk dk_X12_ahead 7 rfl) (q := 14) rfl ?_
      refine x_getR (k := 20) fl_RX12_7 rfl h_r0 hC (zdk dk_X12_ahead 8 rfl) (q := 17) rfl (fun q40 hq40 => ?_)
      refine x_iload_n (i := 1) rfl hC (zdk dk_X12_ahead 9 rfl) (q := 18) rfl ?_
      refine x_iald hq40 hC (zdk dk_X12_ahead 10 rfl) (q := 19) rfl (fun k41 _ => ?_)
      refine x_bipush (i := 32) c_bipush_32 hC (zdk dk_X12_ahead 11 rfl) (q := 21) rfl ?_
      refine x_icmp_eq (tgt := 35) hC (zdk dk_X12_ahead 12 rfl) (q := 24) rfl rfl (fun _ => ?_) (fun _ => ?_)
      · refine x_weak (L' := [.ref r0, .int x1, .null, .null, .null, .null]) ⟨Or.inr rfl, Or.inr rfl, Or.inl rfl, Or.inl rfl, Or.inl rfl, Or.inl rfl, trivial⟩ ?_
        exact x_X12_ahead_35 hC hE hk0 h_r0 (f_X12_ahead_5 r0 f) ih _ _
      · refine x_aload_n (i := 0) rfl hC (zdk dk_X12_ahead 13 rfl) (q := 25) rfl ?_
        refine x_getR (k := 20) fl_RX12_7 rfl h_r0 hC (zdk dk_X12_ahead 14 rfl) (q := 28) rfl (fun q42 hq42 => ?_)
        refine x_iload_n (i := 1) rfl hC (zdk dk_X12_ahead 15 rfl) (q := 29) rfl ?_
        refine x_iald hq42 hC (zdk dk_X12_ahead 16 rfl) (q := 30) rfl (fun k43 _ => ?_)
        refine x_bipush (i := 10) c_bipush_10 hC (zdk dk_X12_ahead 17 rfl) (q := 32) rfl ?_
        refine x_icmp_ne (tgt := 41) hC (zdk dk_X12_ahead 18 rfl) (q := 35) rfl rfl (fun _ => ?_) (fun _ => ?_)
        · refine x_weak (L' := [.ref r0, .int x1, .null, .null, .null, .null]) ⟨Or.inr rfl, Or.inr rfl, Or.inl rfl, Or.inl rfl, Or.inl rfl, Or.inl rfl, trivial⟩ ?_
          exact x_X12_ahead_41 hC hE hk0 h_r0 _ _
        · refine x_weak (L' := [.ref r0, .int x1, .null, .null, .null, .null]) ⟨Or.inr rfl, Or.inr rfl, Or.inl rfl, Or.inl rfl, Or.inl rfl, Or.inl rfl, trivial⟩ ?_
          exact x_X12_ahead_35 hC hE hk0 h_r0 (f_X12_ahead_5 r0 f) ih _ _
set_option maxRecDepth 100000 in
def f_X12_ahead (r0 : Nat) (M : Mem) : Option Mem := f_X12_ahead_5 r0 1000000 (zI M r0 5) M
set_option maxRecDepth 100000 in
set_option maxHeartbeats 4000000 in
theorem x_X12_ahead {κ : KX} {n : Nat} (hC : CX κ cX12_ahead RX12 6 none 1) (hE : zEnd κ n (0, 0)) (hk0 : zRk κ (0, 0)) (r0 : Nat) (M : Mem) (h_r0 : zO n r0 12) : X κ 6 emV n (0, 0) 0 [.ref r0, .null, .null, .null, .null, .null] [] M (f_X12_ahead r0 M) := by
  unfold f_X12_ahead
  refine x_aload_n (i := 0) rfl hC (zdk dk_X12_ahead 0 rfl) (q := 1) rfl ?_
  refine x_getI fl_RX12_26 (by decide) h_r0 hC (zdk dk_X12_ahead 1 rfl) (q := 4) rfl ?_
  refine x_istore_n (i := 1) (L' := [.ref r0, .int (zI M r0 5), .null, .null, .null, .null]) (by decide) rfl hC (zdk dk_X12_ahead 2 rfl) (q := 5) rfl ?_
  refine x_weak (L' := [.ref r0, .int (zI M r0 5), .null, .null, .null, .null]) ⟨Or.inr rfl, Or.inr rfl, Or.inl rfl, Or.inl rfl, Or.inl rfl, Or.inl rfl, trivial⟩ ?_
  exact x_X12_ahead_5 hC hE hk0 h_r0 _ _ _
set_option maxRecDepth 100000 in
set_option maxHeartbeats 4000000 in
theorem t_X12_ahead {n : Nat} {r0 : Nat} {M : Mem} (h_r0 : zO n r0 12) (x : Mem) (hx : f_X12_ahead r0 M = some x) (l : Launch) (dC : Nat → ClassId) (dI : Nat → Nat → Nat) (b : zSg) : MT l dC dI b yX12_ahead cX12_ahead 6 none 1 0 0 n n [.ref r0] M (emV x).1 (emV x).2 :=
  MT.ofX (by decide +kernel) rfl (Nat.le_of_ble_eq_true rfl) (fun κ hC hF _ => x_X12_ahead hC (zEnd_of hF (Nat.le_refl _) (Nat.le_refl _)) (zRk_of hF (Nat.le_refl _) (Nat.le_refl _)) _ _ h_r0) x hx
set_option maxRecDepth 100000 in
def dt_X12_isSign : List (Nat × Instr × Nat) := [(0, .aload_n 0, 1), (1, .getfield 20, 3), (4, .iconst 3, 1), (5, .if_icmp .ne 15, 3), (8, .aload_n 0, 1), (9, .getfield 29, 3), (12, .iload_n 1, 1), (13, .if_icmp .ne 7, 3), (16, .iconst 1, 1), (17, .goto 4, 3), (20, .iconst 0, 1), (21, .ireturn, 1)]
set_option maxRecDepth 100000 in
theorem dk_X12_isSign : dt_X12_isSign.all (fun q => decide (decode cX12_isSign q.1 = .ok q.2)) = true := by decide +kernel
set_option maxRecDepth 100000 in
def f_X12_isSign_21  (r0 : Nat) (x1 : Int32) (s0 : Int32) (M : Mem) : Option (Int32 × Mem) := zbz s0 (some (s0, M))
set_option maxRecDepth 100000 in
set_option maxHeartbeats 4000000 in
theorem x_X12_isSign_21 {κ : KX} {n : Nat} (hC : CX κ cX12_isSign RX12 2 (some .boolean) 0) (hE : zEnd κ n (0, 0)) (hk0 : zRk κ (0, 0)) {r0 : Nat} {x1 : Int32} (h_r0 : zO n r0 12) (s0 : Int32) (M : Mem) : X κ 2 emI n (0, 0) 21 [.null, .null] [.int s0] M (f_X12_isSign_21 r0 x1 s0 M) := by
  unfold f_X12_isSign_21
  refine x_bz (fun hb1 => ?_)
  exact x_iret (ty := .boolean) hb1.1 hE hC (zdk dk_X12_isSign 11 rfl)
set_option maxRecDepth 100000 in
def f_X12_isSign_20  (r0 : Nat) (x1 : Int32)  (M : Mem) : Option (Int32 × Mem) := f_X12_isSign_21 r0 x1 0 M
set_option maxRecDepth 100000 in
set_option maxHeartbeats 4000000 in
theorem x_X12_isSign_20 {κ : KX} {n : Nat} (hC : CX κ cX12_isSign RX12 2 (some .boolean) 0) (hE : zEnd κ n (0, 0)) (hk0 : zRk κ (0, 0)) {r0 : Nat} {x1 : Int32} (h_r0 : zO n r0 12) (M : Mem) : X κ 2 emI n (0, 0) 20 [.null, .null] [] M (f_X12_isSign_20 r0 x1 M) := by
  unfold f_X12_isSign_20
  refine x_iconst (i := 0) c_iconst_0 hC (zdk dk_X12_isSign 10 rfl) (q := 21) rfl ?_
  refine x_weak (L' := [.null, .null]) ⟨Or.inl rfl, Or.inl rfl, trivial⟩ ?_
  exact x_X12_isSign_21 hC hE hk0 h_r0 _ _
set_option maxRecDepth 100000 in
def f_X12_isSign (r0 : Nat) (x1 : Int32) (M : Mem) : Option (Int32 × Mem) := (if zI M r0 3 = 3 then (if zI M r0 6 = x1 then f_X12_isSign_21 r0 x1 1 M else f_X12_isSign_20 r0 x1 M) else f_X12_isSign_20 r0 x1 M)
set_option maxRecDepth 100000 in
set_option maxHeartbeats 4000000 in
theorem x_X12_isSign {κ : KX} {n : Nat} (hC : CX κ cX12_isSign RX12 2 (some .boolean) 0) (hE : zEnd κ n (0, 0)) (hk0 : zRk κ (0, 0)) (r0 : Nat) (x1 : Int32) (M : Mem) (h_r0 : zO n r0 12) : X κ 2 emI n (0, 0) 0 [.ref r0, .int x1] [] M (f_X12_isSign r0 x1 M) := by
  unfold f_X12_isSign
  refine x_aload_n (i := 0) rfl hC (zdk dk_X12_isSign 0 rfl) (q := 1) rfl ?_
  refine x_getI fl_RX12_20 (by decide) h_r0 hC (zdk dk_X12_isSign 1 rfl) (q := 4) rfl ?_
  refine x_iconst (i := 3) c_iconst_3 hC (zdk dk_X12_isSign 2 rfl) (q := 5) rfl ?_
  refine x_icmp_ne (tgt := 20) hC (zdk dk_X12_isSign 3 rfl) (q := 8) rfl rfl (fun _ => ?_) (fun _ => ?_)
  · refine x_weak (L' := [.null, .null]) ⟨Or.inl rfl, Or.inl rfl, trivial⟩ ?_
    exact x_X12_isSign_20 hC hE hk0 h_r0 _
  · refine x_aload_n (i := 0) rfl hC (zdk dk_X12_isSign 4 rfl) (q := 9) rfl ?_
    refine x_getI fl_RX12_29 (by decide) h_r0 hC (zdk dk_X12_isSign 5 rfl) (q := 12) rfl ?_
    refine x_iload_n (i := 1) rfl hC (zdk dk_X12_isSign 6 rfl) (q := 13) rfl ?_
    refine x_icmp_ne (tgt := 20) hC (zdk dk_X12_isSign 7 rfl) (q := 16) rfl rfl (fun _ => ?_) (fun _ => ?_)
    · refine x_weak (L' := [.null, .null]) ⟨Or.inl rfl, Or.inl rfl, trivial⟩ ?_
      exact x_X12_isSign_20 hC hE hk0 h_r0 _
    · refine x_iconst (i := 1) c_iconst_1 hC (zdk dk_X12_isSign 8 rfl) (q := 17) rfl ?_
      refine x_goto (tgt := 21) hC (zdk dk_X12_isSign 9 rfl) rfl ?_
      refine x_weak (L' := [.null, .null]) ⟨Or.inl rfl, Or.inl rfl, trivial⟩ ?_
      exact x_X12_isSign_21 hC hE hk0 h_r0 _ _
set_option maxRecDepth 100000 in
set_option maxHeartbeats 4000000 in
theorem t_X12_isSign {n : Nat} {r0 : Nat} {x1 : Int32} {M : Mem} (h_r0 : zO n r0 12) (x : (Int32 × Mem)) (hx : f_X12_isSign r0 x1 M = some x) (l : Launch) (dC : Nat → ClassId) (dI : Nat → Nat → Nat) (b : zSg) : MT l dC dI b yX12_isSign cX12_isSign 2 (some .boolean) 0 0 0 n n [.ref r0, .int x1] M (emI x).1 (emI x).2 :=
  MT.ofX (by decide +kernel) rfl (Nat.le_of_ble_eq_true rfl) (fun κ hC hF _ => x_X12_isSign hC (zEnd_of hF (Nat.le_refl _) (Nat.le_refl _)) (zRk_of hF (Nat.le_refl _) (Nat.le_refl _)) _ _ _ h_r0) x hx
set_option maxRecDepth 100000 in
def dt_X12_isWord : List (Nat × Instr × Nat) := [(0, .aload_n 0, 1), (1, .getfield 20, 3), (4, .iconst 1, 1), (5, .if_icmp .ne 16, 3), (8, .aload_n 0, 1), (9, .getfield 32, 3), (12, .lload_n 1, 1), (13, .lcmp, 1), (14, .ifCond .ne 7, 3), (17, .iconst 1, 1), (18, .goto 4, 3), (21, .iconst 0, 1), (22, .ireturn, 1)]
set_option maxRecDepth 100000 in
theorem dk_X12_isWord : dt_X12_isWord.all (fun q => decide (decode cX12_isWord q.1 = .ok q.2)) = true := by decide +kernel
set_option maxRecDepth 100000 in
def f_X12_isWord_22  (r0 : Nat) (y1 : Int64) (s0 : Int32) (M : Mem) : Option (Int32 × Mem) := zbz s0 (some (s0, M))
set_option maxRecDepth 100000 in
set_option maxHeartbeats 4000000 in
theorem x_X12_isWord_22 {κ : KX} {n : Nat} (hC : CX κ cX12_isWord RX12 3 (some .boolean) 0) (hE : zEnd κ n (0, 0)) (hk0 : zRk κ (0, 0)) {r0 : Nat} {y1 : Int64} (h_r0 : zO n r0 12) (s0 : Int32) (M : Mem) : X κ 3 emI n (0, 0) 22 [.null, .null, .null] [.int s0] M (f_X12_isWord_22 r0 y1 s0 M) := by
  unfold f_X12_isWord_22
  refine x_bz (fun hb1 => ?_)
  exact x_iret (ty := .boolean) hb1.1 hE hC (zdk dk_X12_isWord 12 rfl)
set_option maxRecDepth 100000 in
def f_X12_isWord_21  (r0 : Nat) (y1 : Int64)  (M : Mem) : Option (Int32 × Mem) := f_X12_isWord_22 r0 y1 0 M
set_option maxRecDepth 100000 in
set_option maxHeartbeats 4000000 in
theorem x_X12_isWord_21 {κ : KX} {n : Nat} (hC : CX κ cX12_isWord RX12 3 (some .boolean) 0) (hE : zEnd κ n (0, 0)) (hk0 : zRk κ (0, 0)) {r0 : Nat} {y1 : Int64} (h_r0 : zO n r0 12) (M : Mem) : X κ 3 emI n (0, 0) 21 [.null, .null, .null] [] M (f_X12_isWord_21 r0 y1 M) := by
  unfold f_X12_isWord_21
  refine x_iconst (i := 0) c_iconst_0 hC (zdk dk_X12_isWord 11 rfl) (q := 22) rfl ?_
  refine x_weak (L' := [.null, .null, .null]) ⟨Or.inl rfl, Or.inl rfl, Or.inl rfl, trivial⟩ ?_
  exact x_X12_isWord_22 hC hE hk0 h_r0 _ _
set_option maxRecDepth 100000 in
def f_X12_isWord (r0 : Nat) (y1 : Int64) (M : Mem) : Option (Int32 × Mem) := (if zI M r0 3 = 1 then (if lg_cmp (zL M r0 7) y1 = 0 then f_X12_isWord_22 r0 y1 1 M else f_X12_isWord_21 r0 y1 M) else f_X12_isWord_21 r0 y1 M)
set_option maxRecDepth 100000 in
set_option maxHeartbeats 4000000 in
theorem x_X12_isWord {κ : KX} {n : Nat} (hC : CX κ cX12_isWord RX12 3 (some .boolean) 0) (hE : zEnd κ n (0, 0)) (hk0 : zRk κ (0, 0)) (r0 : Nat) (y1 : Int64) (M : Mem) (h_r0 : zO n r0 12) : X κ 3 emI n (0, 0) 0 [.ref r0, .long y1, .null] [] M (f_X12_isWord r0 y1 M) := by
  unfold f_X12_isWord
  refine x_aload_n (i := 0) rfl hC (zdk dk_X12_isWord 0 rfl) (q := 1) rfl ?_
  refine x_getI fl_RX12_20 (by decide) h_r0 hC (zdk dk_X12_isWord 1 rfl) (q := 4) rfl ?_
  refine x_iconst (i := 1) c_iconst_1 hC (zdk dk_X12_isWord 2 rfl) (q := 5) rfl ?_
  refine x_icmp_ne (tgt := 21) hC (zdk dk_X12_isWord 3 rfl) (q := 8) rfl rfl (fun _ => ?_) (fun _ => ?_)
  · refine x_weak (L' := [.null, .null, .null]) ⟨Or.inl rfl, Or.inl rfl, Or.inl rfl, trivial⟩ ?_
    exact x_X12_isWord_21 hC hE hk0 h_r0 _
  · refine x_aload_n (i := 0) rfl hC (zdk dk_X12_isWord 4 rfl) (q := 9) rfl ?_
    refine x_getL fl_RX12_32 h_r0 hC (zdk dk_X12_isWord 5 rfl) (q := 12) rfl ?_
    refine x_lload_n (i := 1) rfl hC (zdk dk_X12_isWord 6 rfl) (q := 13) rfl ?_
    refine x_lcmp hC (zdk dk_X12_isWord 7 rfl) (q := 14) rfl ?_
    refine x_if_ne (tgt := 21) hC (zdk dk_X12_isWord 8 rfl) (q := 17) rfl rfl (fun _ => ?_) (fun _ => ?_)
    · refine x_weak (L' := [.null, .null, .null]) ⟨Or.inl rfl, Or.inl rfl, Or.inl rfl, trivial⟩ ?_
      exact x_X12_isWord_21 hC hE hk0 h_r0 _
    · refine x_iconst (i := 1) c_iconst_1 hC (zdk dk_X12_isWord 9 rfl) (q := 18) rfl ?_
      refine x_goto (tgt := 22) hC (zdk dk_X12_isWord 10 rfl) rfl ?_
      refine x_weak (L' := [.null, .null, .null]) ⟨Or.inl rfl, Or.inl rfl, Or.inl rfl, trivial⟩ ?_
      exact x_X12_isWord_22 hC hE hk0 h_r0 _ _
set_option maxRecDepth 100000 in
set_option maxHeartbeats 4000000 in
theorem t_X12_isWord {n : Nat} {r0 : Nat} {y1 : Int64} {M : Mem} (h_r0 : zO n r0 12) (x : (Int32 × Mem)) (hx : f_X12_isWord r0 y1 M = some x) (l : Launch) (dC : Nat → ClassId) (dI : Nat → Nat → Nat) (b : zSg) : MT l dC dI b yX12_isWord cX12_isWord 3 (some .boolean) 0 0 0 n n [.ref r0, .long y1] M (emI x).1 (emI x).2 :=
  MT.ofX (by decide +kernel) rfl (Nat.le_of_ble_eq_true rfl) (fun κ hC hF _ => x_X12_isWord hC (zEnd_of hF (Nat.le_refl _) (Nat.le_refl _)) (zRk_of hF (Nat.le_refl _) (Nat.le_refl _)) _ _ _ h_r0) x hx
set_option maxRecDepth 100000 in
def dt_X12_must : List (Nat × Instr × Nat) := [(0, .aload_n 0, 1), (1, .invokevirtual 262, 3), (4, .aload_n 0, 1), (5, .iload_n 1, 1), (6, .invokevirtual 265, 3), (9, .ifCond .ne 12, 3), (12, .aload_n 0, 1), (13, .iconst 1, 1), (14, .aload_n 0, 1), (15, .getfield 23, 3), (18, .invokevirtual 251, 3), (21, .aload_n 0, 1), (22, .getfield 36, 3), (25, .ifCond .ne 7, 3), (28, .aload_n 0, 1), (29, .invokevirtual 268, 3), (32, .return_, 1)]
set_option maxRecDepth 100000 in
theorem dk_X12_must : dt_X12_must.all (fun q => decide (decode cX12_must q.1 = .ok q.2)) = true := by decide +kernel
set_option maxRecDepth 100000 in
def f_X12_must_32  (r0 : Nat) (x1 : Int32)  (M : Mem) : Option Mem := some M
set_option maxRecDepth 100000 in
set_option maxHeartbeats 4000000 in
theorem x_X12_must_32 {κ : KX} {n : Nat} (hC : CX κ cX12_must RX12 2 none 2) (hE : zEnd κ n (0, 0)) (hk0 : zRk κ (0, 0)) {r0 : Nat} {x1 : Int32} (h_r0 : zO n r0 12) (M : Mem) : X κ 2 emV n (0, 0) 32 [.null, .null] [] M (f_X12_must_32 r0 x1 M) := by
  unfold f_X12_must_32
  exact x_vret hE hC (zdk dk_X12_must 16 rfl)
set_option maxRecDepth 100000 in
def f_X12_must_21  (r0 : Nat) (x1 : Int32)  (M : Mem) : Option Mem := (if zI M r0 8 = 0 then Option.bind (f_X12_ahead r0 M) fun M1 => f_X12_must_32 r0 x1 M1 else f_X12_must_32 r0 x1 M)
set_option maxRecDepth 100000 in
set_option maxHeartbeats 4000000 in
theorem x_X12_must_21 {κ : KX} {n : Nat} (hC : CX κ cX12_must RX12 2 none 2) (hE : zEnd κ n (0, 0)) (hk0 : zRk κ (0, 0)) {r0 : Nat} {x1 : Int32} (h_r0 : zO n r0 12) (M : Mem) : X κ 2 emV n (0, 0) 21 [.ref r0, .null] [] M (f_X12_must_21 r0 x1 M) := by
  unfold f_X12_must_21
  refine x_aload_n (i := 0) rfl hC (zdk dk_X12_must 11 rfl) (q := 22) rfl ?_
  refine x_getI fl_RX12_36 (by decide) h_r0 hC (zdk dk_X12_must 12 rfl) (q := 25) rfl ?_
  refine x_if_ne (tgt := 32) hC (zdk dk_X12_must 13 rfl) (q := 28) rfl rfl (fun _ => ?_) (fun _ => ?_)
  · refine x_weak (L' := [.null, .null]) ⟨Or.inl rfl, Or.inl rfl, trivial⟩ ?_
    exact x_X12_must_32 hC hE hk0 h_r0 _
  · refine x_aload_n (i := 0) rfl hC (zdk dk_X12_must 14 rfl) (q := 29) rfl ?_
    refine x_callVv (as := []) cb_RX12_268 rfl (by decide) hk0 h_r0 (fun x hx => t_X12_ahead h_r0 x hx) hC (zdk dk_X12_must 15 rfl) (q := 32) rfl rfl (Nat.le_of_ble_eq_true rfl) (fun M1 => ?_)
    refine x_weak (L' := [.null, .null]) ⟨Or.inl rfl, Or.inl rfl, trivial⟩ ?_
    exact x_X12_must_32 hC hE hk0 h_r0 _
set_option maxRecDepth 100000 in
def f_X12_must (r0 : Nat) (x1 : Int32) (M : Mem) : Option Mem := Option.bind (f_X12_lex r0 M) fun M2 => Option.bind (f_X12_isSign r0 x1 M2) fun z3 => (if z3.1 = 0 then Option.bind (f_X12_blame r0 1 (zI z3.2 r0 4) z3.2) fun M4 => f_X12_must_21 r0 x1 M4 else f_X12_must_21 r0 x1 z3.2)
set_option maxRecDepth 100000 in
set_option maxHeartbeats 4000000 in
theorem x_X12_must {κ : KX} {n : Nat} (hC : CX κ cX12_must RX12 2 none 2) (hE : zEnd κ n (0, 0)) (hk0 : zRk κ (0, 0)) (r0 : Nat) (x1 : Int32) (M : Mem) (h_r0 : zO n r0 12) : X κ 2 emV n (0, 0) 0 [.ref r0, .int x1] [] M (f_X12_must r0 x1 M) := by
  unfold f_X12_must
  refine x_aload_n (i := 0) rfl hC (zdk dk_X12_must 0 rfl) (q := 1) rfl ?_
  refine x_callVv (as := []) cb_RX12_262 rfl (by decide) hk0 h_r0 (fun x hx => t_X12_lex h_r0 x hx) hC (zdk dk_X12_must 1 rfl) (q := 4) rfl rfl (Nat.le_of_ble_eq_true rfl) (fun M2 => ?_)
  refine x_aload_n (i := 0) rfl hC (zdk dk_X12_must 2 rfl) (q := 5) rfl ?_
  refine x_iload_n (i := 1) rfl hC (zdk dk_X12_must 3 rfl) (q := 6) rfl ?_
  refine x_callVi (as := [.int x1]) cb_RX12_265 rfl (by decide) hk0 h_r0 (fun x hx => t_X12_isSign h_r0 x hx) hC (zdk dk_X12_must 4 rfl) (q := 9) rfl rfl (Nat.le_of_ble_eq_true rfl) (fun z3 => ?_)
  refine x_if_ne (tgt := 21) hC (zdk dk_X12_must 5 rfl) (q := 12) rfl rfl (fun _ => ?_) (fun _ => ?_)
  · refine x_weak (L' := [.ref r0, .null]) ⟨Or.inr rfl, Or.inl rfl, trivial⟩ ?_
    exact x_X12_must_21 hC hE hk0 h_r0 _
  · refine x_aload_n (i := 0) rfl hC (zdk dk_X12_must 6 rfl) (q := 13) rfl ?_
    refine x_iconst (i := 1) c_iconst_1 hC (zdk dk_X12_must 7 rfl) (q := 14) rfl ?_
    refine x_aload_n (i := 0) rfl hC (zdk dk_X12_must 8 rfl) (q := 15) rfl ?_
    refine x_getI fl_RX12_23 (by decide) h_r0 hC (zdk dk_X12_must 9 rfl) (q := 18) rfl ?_
    refine x_callVv (as := [.int 1, .int (zI z3.2 r0 4)]) cb_RX12_251 rfl (by decide) hk0 h_r0 (fun x hx => t_X12_blame h_r0 x hx) hC (zdk dk_X12_must 10 rfl) (q := 21) rfl rfl (Nat.le_of_ble_eq_true rfl) (fun M4 => ?_)
    refine x_weak (L' := [.ref r0, .null]) ⟨Or.inr rfl, Or.inl rfl, trivial⟩ ?_
    exact x_X12_must_21 hC hE hk0 h_r0 _
set_option maxRecDepth 100000 in
set_option maxHeartbeats 4000000 in
theorem t_X12_must {n : Nat} {r0 : Nat} {x1 : Int32} {M : Mem} (h_r0 : zO n r0 12) (x : Mem) (hx : f_X12_must r0 x1 M = some x) (l : Launch) (dC : Nat → ClassId) (dI : Nat → Nat → Nat) (b : zSg) : MT l dC dI b yX12_must cX12_must 2 none 2 0 0 n n [.ref r0, .int x1] M (emV x).1 (emV x).2 :=
  MT.ofX (by decide +kernel) rfl (Nat.le_of_ble_eq_true rfl) (fun κ hC hF _ => x_X12_must hC (zEnd_of hF (Nat.le_refl _) (Nat.le_refl _)) (zRk_of hF (Nat.le_refl _) (Nat.le_refl _)) _ _ _ h_r0) x hx
set_option maxRecDepth 100000 in
def dt_X12_isOwn : List (Nat × Instr × Nat) := [(0, .lload_n 1, 1), (1, .ldc2_w 271, 3), (4, .lcmp, 1), (5, .ifCond .eq 35, 3), (8, .lload_n 1, 1), (9, .ldc2_w 273, 3), (12, .lcmp, 1), (13, .ifCond .eq 27, 3), (16, .lload_n 1, 1), (17, .ldc2_w 275, 3), (20, .lcmp, 1), (21, .ifCond .eq 19, 3), (24, .lload_n 1, 1), (25, .ldc2_w 277, 3), (28, .lcmp, 1), (29, .ifCond .eq 11, 3), (32, .lload_n 1, 1), (33, .ldc2_w 279, 3), (36, .lcmp, 1), (37, .ifCond .ne 5, 3), (40, .iconst 1, 1), (41, .ireturn, 1), (42, .lload_n 1, 1), (43, .ldc2_w 281, 3), (46, .lcmp, 1), (47, .ifCond .eq 35, 3), (50, .lload_n 1, 1), (51, .ldc2_w 283, 3), (54, .lcmp, 1), (55, .ifCond .eq 27, 3), (58, .lload_n 1, 1), (59, .ldc2_w 285, 3), (62, .lcmp, 1), (63, .ifCond .eq 19, 3), (66, .lload_n 1, 1), (67, .ldc2_w 287, 3), (70, .lcmp, 1), (71, .ifCond .eq 11, 3), (74, .lload_n 1, 1), (75, .ldc2_w 289, 3), (78, .lcmp, 1), (79, .ifCond .ne 5, 3), (82, .iconst 1, 1), (83, .ireturn, 1), (84, .lload_n 1, 1), (85, .ldc2_w 291, 3), (88, .lcmp, 1), (89, .ifCond .eq 35, 3), (92, .lload_n 1, 1), (93, .ldc2_w 293, 3), (96, .lcmp, 1), (97, .ifCond .eq 27, 3), (100, .lload_n 1, 1), (101, .ldc2_w 295, 3), (104, .lcmp, 1), (105, .ifCond .eq 19, 3), (108, .lload_n 1, 1), (109, .ldc2_w 297, 3), (112, .lcmp, 1), (113, .ifCond .eq 11, 3), (116, .lload_n 1, 1), (117, .ldc2_w 299, 3), (120, .lcmp, 1), (121, .ifCond .ne 5, 3), (124, .iconst 1, 1), (125, .ireturn, 1), (126, .lload_n 1, 1), (127, .ldc2_w 301, 3), (130, .lcmp, 1), (131, .ifCond .eq 35, 3), (134, .lload_n 1, 1), (135, .ldc2_w 303, 3), (138, .lcmp, 1), (139, .ifCond .eq 27, 3), (142, .lload_n 1, 1), (143, .ldc2_w 305, 3), (146, .lcmp, 1), (147, .ifCond .eq 19, 3), (150, .lload_n 1, 1), (151, .ldc2_w 307, 3), (154, .lcmp, 1), (155, .ifCond .eq 11, 3), (158, .lload_n 1, 1), (159, .ldc2_w 309, 3), (162, .lcmp, 1), (163, .ifCond .ne 5, 3), (166, .iconst 1, 1), (167, .ireturn, 1), (168, .lload_n 1, 1), (169, .ldc2_w 311, 3), (172, .lcmp, 1), (173, .ifCond .eq 35, 3), (176, .lload_n 1, 1), (177, .ldc2_w 313, 3), (180, .lcmp, 1), (181, .ifCond .eq 27, 3), (184, .lload_n 1, 1), (185, .ldc2_w 315, 3), (188, .lcmp, 1), (189, .ifCond .eq 19, 3), (192, .lload_n 1, 1), (193, .ldc2_w 317, 3), (196, .lcmp, 1), (197, .ifCond .eq 11, 3), (200, .lload_n 1, 1), (201, .ldc2_w 319, 3), (204, .lcmp, 1), (205, .ifCond .ne 5, 3), (208, .iconst 1, 1), (209, .ireturn, 1), (210, .lload_n 1, 1), (211, .ldc2_w 321, 3), (214, .lcmp, 1), (215, .ifCond .eq 11, 3), (218, .lload_n 1, 1), (219, .ldc2_w 323, 3), (222, .lcmp, 1), (223, .ifCond .ne 5, 3), (226, .iconst 1, 1), (227, .ireturn, 1), (228, .iconst 0, 1), (229, .ireturn, 1)]
set_option maxRecDepth 100000 in
theorem dk_X12_isOwn : dt_X12_isOwn.all (fun q => decide (decode cX12_isOwn q.1 = .ok q.2)) = true := by decide +kernel
set_option maxRecDepth 100000 in
def f_X12_isOwn_40  (r0 : Nat) (y1 : Int64)  (M : Mem) : Option (Int32 × Mem) := some (1, M)
set_option maxRecDepth 100000 in
set_option maxHeartbeats 4000000 in
theorem x_X12_isOwn_40 {κ : KX} {n : Nat} (hC : CX κ cX12_isOwn RX12 3 (some .boolean) 0) (hE : zEnd κ n (0, 0)) (hk0 : zRk κ (0, 0)) {r0 : Nat} {y1 : Int64} (h_r0 : zO n r0 12) (M : Mem) : X κ 3 emI n (0, 0) 40 [.null, .null, .null] [] M (f_X12_isOwn_40 r0 y1 M) := by
  unfold f_X12_isOwn_40
  refine x_iconst (i := 1) c_iconst_1 hC (zdk dk_X12_isOwn 20 rfl) (q := 41) rfl ?_
  exact x_iret (ty := .boolean) rfl hE hC (zdk dk_X12_isOwn 21 rfl)
set_option maxRecDepth 100000 in
def f_X12_isOwn_82  (r0 : Nat) (y1 : Int64)  (M : Mem) : Option (Int32 × Mem) := some (1, M)
set_option maxRecDepth 100000 in
set_option maxHeartbeats 4000000 in
theorem x_X12_isOwn_82 {κ : KX} {n : Nat} (hC : CX κ cX12_isOwn RX12 3 (some .boolean) 0) (hE : zEnd κ n (0, 0)) (hk0 : zRk κ (0, 0)) {r0 : Nat} {y1 : Int64} (h_r0 : zO n r0 12) (M : Mem) : X κ 3 emI n (0, 0) 82 [.null, .null, .null] [] M (f_X12_isOwn_82 r0 y1 M) := by
  unfold f_X12_isOwn_82
  refine x_iconst (i := 1) c_iconst_1 hC (zdk dk_X12_isOwn 42 rfl) (q := 83) rfl ?_
  exact x_iret (ty := .boolean) rfl hE hC (zdk dk_X12_isOwn 43 rfl)
set_option maxRecDepth 100000 in
def f_X12_isOwn_124  (r0 : Nat) (y1 : Int64)  (M : Mem) : Option (Int32 × Mem) := some (1, M)
set_option maxRecDepth 100000 in
set_option maxHeartbeats 4000000 in
theorem x_X12_isOwn_124 {κ : KX} {n : Nat} (hC : CX κ cX12_isOwn RX12 3 (some .boolean) 0) (hE : zEnd κ n (0, 0)) (hk0 : zRk κ (0, 0)) {r0 : Nat} {y1 : Int64} (h_r0 : zO n r0 12) (M : Mem) : X κ 3 emI n (0, 0) 124 [.null, .null, .null] [] M (f_X12_isOwn_124 r0 y1 M) := by
  unfold f_X12_isOwn_124
  refine x_iconst (i := 1) c_iconst_1 hC (zdk dk_X12_isOwn 64 rfl) (q := 125) rfl ?_
  exact x_iret (ty := .boolean) rfl hE hC (zdk dk_X12_isOwn 65 rfl)
set_option maxRecDepth 100000 in
def f_X12_isOwn_166  (r0 : Nat) (y1 : Int64)  (M : Mem) : Option (Int32 × Mem) := some (1, M)
set_option maxRecDepth 100000 in
set_option maxHeartbeats 4000000 in
theorem x_X12_isOwn_166 {κ : KX} {n : Nat} (hC : CX κ cX12_isOwn RX12 3 (some .boolean) 0) (hE : zEnd κ n (0, 0)) (hk0 : zRk κ (0, 0)) {r0 : Nat} {y1 : Int64} (h_r0 : zO n r0 12) (M : Mem) : X κ 3 emI n (0, 0) 166 [.null, .null, .null] [] M (f_X12_isOwn_166 r0 y1 M) := by
  unfold f_X12_isOwn_166
  refine x_iconst (i := 1) c_iconst_1 hC (zdk dk_X12_isOwn 86 rfl) (q := 167) rfl ?_
  exact x_iret (ty := .boolean) rfl hE hC (zdk dk_X12_isOwn 87 rfl)
set_option maxRecDepth 100000 in
def f_X12_isOwn_208  (r0 : Nat) (y1 : Int64)  (M : Mem) : Option (Int32 × Mem) := some (1, M)
set_option maxRecDepth 100000 in
set_option maxHeartbeats 4000000 in
theorem x_X12_isOwn_208 {κ : KX} {n : Nat} (hC : CX κ cX12_isOwn RX12 3 (some .boolean) 0) (hE : zEnd κ n (0, 0)) (hk0 : zRk κ (0, 0)) {r0 : Nat} {y1 : Int64} (h_r0 : zO n r0 12) (M : Mem) : X κ 3 emI n (0, 0) 208 [.null, .null, .null] [] M (f_X12_isOwn_208 r0 y1 M) := by
  unfold f_X12_isOwn_208
  refine x_iconst (i := 1) c_iconst_1 hC (zdk dk_X12_isOwn 108 rfl) (q := 209) rfl ?_
  exact x_iret (ty := .boolean) rfl hE hC (zdk dk_X12_isOwn 109 rfl)
set_option maxRecDepth 100000 in
def f_X12_isOwn_226  (r0 : Nat) (y1 : Int64)  (M : Mem) : Option (Int32 × Mem) := some (1, M)
set_option maxRecDepth 100000 in
set_option maxHeartbeats 4000000 in
theorem x_X12_isOwn_226 {κ : KX} {n : Nat} (hC : CX κ cX12_isOwn RX12 3 (some .boolean) 0) (hE : zEnd κ n (0, 0)) (hk0 : zRk κ (0, 0)) {r0 : Nat} {y1 : Int64} (h_r0 : zO n r0 12) (M : Mem) : X κ 3 emI n (0, 0) 226 [.null, .null, .null] [] M (f_X12_isOwn_226 r0 y1 M) := by
  unfold f_X12_isOwn_226
  refine x_iconst (i := 1) c_iconst_1 hC (zdk dk_X12_isOwn 118 rfl) (q := 227) rfl ?_
  exact x_iret (ty := .boolean) rfl hE hC (zdk dk_X12_isOwn 119 rfl)
set_option maxRecDepth 100000 in
def f_X12_isOwn (r0 : Nat) (y1 : Int64) (M : Mem) : Option (Int32 × Mem) := (if lg_cmp y1 439854918756 = 0 then f_X12_isOwn_40 r0 y1 M else (if lg_cmp y1 1886350457 = 0 then f_X12_isOwn_40 r0 y1 M else (if lg_cmp y1 469853168755 = 0 then f_X12_isOwn_40 r0 y1 M else (if lg_cmp y1 495673373300 = 0 then f_X12_isOwn_40 r0 y1 M else (if lg_cmp y1 1885431653 = 0 then f_X12_isOwn_40 r0 y1 M else (if lg_cmp y1 1751738216 = 0 then f_X12_isOwn_82 r0 y1 M else (if lg_cmp y1 7106423 = 0 then f_X12_isOwn_82 r0 y1 M else (if lg_cmp y1 7170404 = 0 then f_X12_isOwn_82 r0 y1 M else (if lg_cmp y1 1937007984 = 0 then f_X12_isOwn_82 r0 y1 M else (if lg_cmp y1 474315584357 = 0 then f_X12_isOwn_82 r0 y1 M else (if lg_cmp y1 110442557371507 = 0 then f_X12_isOwn_124 r0 y1 M else (if lg_cmp y1 500135716211 = 0 then f_X12_isOwn_124 r0 y1 M else (if lg_cmp y1 6578553 = 0 then f_X12_isOwn_124 r0 y1 M else (if lg_cmp y1 1667591276 = 0 then f_X12_isOwn_124 r0 y1 M else (if lg_cmp y1 465558725996 = 0 then f_X12_isOwn_124 r0 y1 M else (if lg_cmp y1 6449524 = 0 then f_X12_isOwn_166 r0 y1 M else (if lg_cmp y1 6383461 = 0 then f_X12_isOwn_166 r0 y1 M else (if lg_cmp y1 500135716196 = 0 then f_X12_isOwn_166 r0 y1 M else (if lg_cmp y1 6775152 = 0 then f_X12_isOwn_166 r0 y1 M else (if lg_cmp y1 24948 = 0 then f_X12_isOwn_166 r0 y1 M else (if lg_cmp y1 26982 = 0 then f_X12_isOwn_208 r0 y1 M else (if lg_cmp y1 28530 = 0 then f_X12_isOwn_208 r0 y1 M else (if lg_cmp y1 6385252 = 0 then f_X12_isOwn_208 r0 y1 M else (if lg_cmp y1 7237492 = 0 then f_X12_isOwn_208 r0 y1 M else (if lg_cmp y1 6384748 = 0 then f_X12_isOwn_208 r0 y1 M else (if lg_cmp y1 7170414 = 0 then f_X12_isOwn_226 r0 y1 M else (if lg_cmp y1 7168376 = 0 then f_X12_isOwn_226 r0 y1 M else some (0, M))))))))))))))))))))))))))))
set_option maxRecDepth 100000 in
set_option maxHeartbeats 4000000 in
theorem x_X12_isOwn {κ : KX} {n : Nat} (hC : CX κ cX12_isOwn RX12 3 (some .boolean) 0) (hE : zEnd κ n (0, 0)) (hk0 : zRk κ (0, 0)) (r0 : Nat) (y1 : Int64) (M : Mem) (h_r0 : zO n r0 12) : X κ 3 emI n (0, 0) 0 [.ref r0, .long y1, .null] [] M (f_X12_isOwn r0 y1 M) := by
  unfold f_X12_isOwn
  refine x_lload_n (i := 1) rfl hC (zdk dk_X12_isOwn 0 rfl) (q := 1) rfl ?_
  refine x_ldc2 k_RX12_271 hC (zdk dk_X12_isOwn 1 rfl) (q := 4) rfl ?_
  refine x_lcmp hC (zdk dk_X12_isOwn 2 rfl) (q := 5) rfl ?_
  refine x_if_eq (tgt := 40) hC (zdk dk_X12_isOwn 3 rfl) (q := 8) rfl rfl (fun _ => ?_) (fun _ => ?_)
  · refine x_weak (L' := [.null, .null, .null]) ⟨Or.inl rfl, Or.inl rfl, Or.inl rfl, trivial⟩ ?_
    exact x_X12_isOwn_40 hC hE hk0 h_r0 _
  · refine x_lload_n (i := 1) rfl hC (zdk dk_X12_isOwn 4 rfl) (q := 9) rfl ?_
    refine x_ldc2 k_RX12_273 hC (zdk dk_X12_isOwn 5 rfl) (q := 12) rfl ?_
    refine x_lcmp hC (zdk dk_X12_isOwn 6 rfl) (q := 13) rfl ?_
    refine x_if_eq (tgt := 40) hC (zdk dk_X12_isOwn 7 rfl) (q := 16) rfl rfl (fun _ => ?_) (fun _ => ?_)
    · refine x_weak (L' := [.null, .null, .null]) ⟨Or.inl rfl, Or.inl rfl, Or.inl rfl, trivial⟩ ?_
      exact x_X12_isOwn_40 hC hE hk0 h_r0 _
    · refine x_lload_n (i := 1) rfl hC (zdk dk_X12_isOwn 8 rfl) (q := 17) rfl ?_
      refine x_ldc2 k_RX12_275 hC (zdk dk_X12_isOwn 9 rfl) (q := 20) rfl ?_
      refine x_lcmp hC (zdk dk_X12_isOwn 10 rfl) (q := 21) rfl ?_
      refine x_if_eq (tgt := 40) hC (zdk dk_X12_isOwn 11 rfl) (q := 24) rfl rfl (fun _ => ?_) (fun _ => ?_)
      · refine x_weak (L' := [.null, .null, .null]) ⟨Or.inl rfl, Or.inl rfl, Or.inl rfl, trivial⟩ ?_
        exact x_X12_isOwn_40 hC hE hk0 h_r0 _
      · refine x_lload_n (i := 1) rfl hC (zdk dk_X12_isOwn 12 rfl) (q := 25) rfl ?_
        refine x_ldc2 k_RX12_277 hC (zdk dk_X12_isOwn 13 rfl) (q := 28) rfl ?_
        refine x_lcmp hC (zdk dk_X12_isOwn 14 rfl) (q := 29) rfl ?_
        refine x_if_eq (tgt := 40) hC (zdk dk_X12_isOwn 15 rfl) (q := 32) rfl rfl (fun _ => ?_) (fun _ => ?_)
        · refine x_weak (L' := [.null, .null, .null]) ⟨Or.inl rfl, Or.inl rfl, Or.inl rfl, trivial⟩ ?_
          exact x_X12_isOwn_40 hC hE hk0 h_r0 _
        · refine x_lload_n (i := 1) rfl hC (zdk dk_X12_isOwn 16 rfl) (q := 33) rfl ?_
          refine x_ldc2 k_RX12_279 hC (zdk dk_X12_isOwn 17 rfl) (q := 36) rfl ?_
          refine x_lcmp hC (zdk dk_X12_isOwn 18 rfl) (q := 37) rfl ?_
          refine x_if_ne (tgt := 42) hC (zdk dk_X12_isOwn 19 rfl) (q := 40) rfl rfl (fun _ => ?_) (fun _ => ?_)
          · refine x_lload_n (i := 1) rfl hC (zdk dk_X12_isOwn 22 rfl) (q := 43) rfl ?_
            refine x_ldc2 k_RX12_281 hC (zdk dk_X12_isOwn 23 rfl) (q := 46) rfl ?_
            refine x_lcmp hC (zdk dk_X12_isOwn 24 rfl) (q := 47) rfl ?_
            refine x_if_eq (tgt := 82) hC (zdk dk_X12_isOwn 25 rfl) (q := 50) rfl rfl (fun _ => ?_) (fun _ => ?_)
            · refine x_weak (L' := [.null, .null, .null]) ⟨Or.inl rfl, Or.inl rfl, Or.inl rfl, trivial⟩ ?_
              exact x_X12_isOwn_82 hC hE hk0 h_r0 _
            · refine x_lload_n (i := 1) rfl hC (zdk dk_X12_isOwn 26 rfl) (q := 51) rfl ?_
              refine x_ldc2 k_RX12_283 hC (zdk dk_X12_isOwn 27 rfl) (q := 54) rfl ?_
              refine x_lcmp hC (zdk dk_X12_isOwn 28 rfl) (q := 55) rfl ?_
              refine x_if_eq (tgt := 82) hC (zdk dk_X12_isOwn 29 rfl) (q := 58) rfl rfl (fun _ => ?_) (fun _ => ?_)
              · refine x_weak (L' := [.null, .null, .null]) ⟨Or.inl rfl, Or.inl rfl, Or.inl rfl, trivial⟩ ?_
                exact x_X12_isOwn_82 hC hE hk0 h_r0 _
              · refine x_lload_n (i := 1) rfl hC (zdk dk_X12_isOwn 30 rfl) (q := 59) rfl ?_
                refine x_ldc2 k_RX12_285 hC (zdk dk_X12_isOwn 31 rfl) (q := 62) rfl ?_
                refine x_lcmp hC (zdk dk_X12_isOwn 32 rfl) (q := 63) rfl ?_
                refine x_if_eq (tgt := 82) hC (zdk dk_X12_isOwn 33 rfl) (q := 66) rfl rfl (fun _ => ?_) (fun _ => ?_)
                · refine x_weak (L' := [.null, .null, .null]) ⟨Or.inl rfl, Or.inl rfl, Or.inl rfl, trivial⟩ ?_
                  exact x_X12_isOwn_82 hC hE hk0 h_r0 _
                · refine x_lload_n (i := 1) rfl hC (zdk dk_X12_isOwn 34 rfl) (q := 67) rfl ?_
                  refine x_ldc2 k_RX12_287 hC (zdk dk_X12_isOwn 35 rfl) (q := 70) rfl ?_
                  refine x_lcmp hC (zdk dk_X12_isOwn 36 rfl) (q := 71) rfl ?_
                  refine x_if_eq (tgt := 82) hC (zdk dk_X12_isOwn 37 rfl) (q := 74) rfl rfl (fun _ => ?_) (fun _ => ?_)
                  · refine x_weak (L' := [.null, .null, .null]) ⟨Or.inl rfl, Or.inl rfl, Or.inl rfl, trivial⟩ ?_
                    exact x_X12_isOwn_82 hC hE hk0 h_r0 _
                  · refine x_lload_n (i := 1) rfl hC (zdk dk_X12_isOwn 38 rfl) (q := 75) rfl ?_
                    refine x_ldc2 k_RX12_289 hC (zdk dk_X12_isOwn 39 rfl) (q := 78) rfl ?_
                    refine x_lcmp hC (zdk dk_X12_isOwn 40 rfl) (q := 79) rfl ?_
                    refine x_if_ne (tgt := 84) hC (zdk dk_X12_isOwn 41 rfl) (q := 82) rfl rfl (fun _ => ?_) (fun _ => ?_)
                    · refine x_lload_n (i := 1) rfl hC (zdk dk_X12_isOwn 44 rfl) (q := 85) rfl ?_
                      refine x_ldc2 k_RX12_291 hC (zdk dk_X12_isOwn 45 rfl) (q := 88) rfl ?_
                      refine x_lcmp hC (zdk dk_X12_isOwn 46 rfl) (q := 89) rfl ?_
                      refine x_if_eq (tgt := 124) hC (zdk dk_X12_isOwn 47 rfl) (q := 92) rfl rfl (fun _ => ?_) (fun _ => ?_)
                      · refine x_weak (L' := [.null, .null, .null]) ⟨Or.inl rfl, Or.inl rfl, Or.inl rfl, trivial⟩ ?_
                        exact x_X12_isOwn_124 hC hE hk0 h_r0 _
                      · refine x_lload_n (i := 1) rfl hC (zdk dk_X12_isOwn 48 rfl) (q := 93) rfl ?_
                        refine x_ldc2 k_RX12_293 hC (zdk dk_X12_isOwn 49 rfl) (q := 96) rfl ?_
                        refine x_lcmp hC (zdk dk_X12_isOwn 50 rfl) (q := 97) rfl ?_
                        refine x_if_eq (tgt := 124) hC (zdk dk_X12_isOwn 51 rfl) (q := 100) rfl rfl (fun _ => ?_) (fun _ => ?_)
                        · refine x_weak (L' := [.null, .null, .null]) ⟨Or.inl rfl, Or.inl rfl, Or.inl rfl, trivial⟩ ?_
                          exact x_X12_isOwn_124 hC hE hk0 h_r0 _
                        · refine x_lload_n (i := 1) rfl hC (zdk dk_X12_isOwn 52 rfl) (q := 101) rfl ?_
                          refine x_ldc2 k_RX12_295 hC (zdk dk_X12_isOwn 53 rfl) (q := 104) rfl ?_
                          refine x_lcmp hC (zdk dk_X12_isOwn 54 rfl) (q := 105) rfl ?_
                          refine x_if_eq (tgt := 124) hC (zdk dk_X12_isOwn 55 rfl) (q := 108) rfl rfl (fun _ => ?_) (fun _ => ?_)
                          · refine x_weak (L' := [.null, .null, .null]) ⟨Or.inl rfl, Or.inl rfl, Or.inl rfl, trivial⟩ ?_
                            exact x_X12_isOwn_124 hC hE hk0 h_r0 _
                          · refine x_lload_n (i := 1) rfl hC (zdk dk_X12_isOwn 56 rfl) (q := 109) rfl ?_
                            refine x_ldc2 k_RX12_297 hC (zdk dk_X12_isOwn 57 rfl) (q := 112) rfl ?_
                            refine x_lcmp hC (zdk dk_X12_isOwn 58 rfl) (q := 113) rfl ?_
                            refine x_if_eq (tgt := 124) hC (zdk dk_X12_isOwn 59 rfl) (q := 116) rfl rfl (fun _ => ?_) (fun _ => ?_)
                            · refine x_weak (L' := [.null, .null, .null]) ⟨Or.inl rfl, Or.inl rfl, Or.inl rfl, trivial⟩ ?_
                              exact x_X12_isOwn_124 hC hE hk0 h_r0 _
                            · refine x_lload_n (i := 1) rfl hC (zdk dk_X12_isOwn 60 rfl) (q := 117) rfl ?_
                              refine x_ldc2 k_RX12_299 hC (zdk dk_X12_isOwn 61 rfl) (q := 120) rfl ?_
                              refine x_lcmp hC (zdk dk_X12_isOwn 62 rfl) (q := 121) rfl ?_
                              refine x_if_ne (tgt := 126) hC (zdk dk_X12_isOwn 63 rfl) (q := 124) rfl rfl (fun _ => ?_) (fun _ => ?_)
                              · refine x_lload_n (i := 1) rfl hC (zdk dk_X12_isOwn 66 rfl) (q := 127) rfl ?_
                                refine x_ldc2 k_RX12_301 hC (zdk dk_X12_isOwn 67 rfl) (q := 130) rfl ?_
                                refine x_lcmp hC (zdk dk_X12_isOwn 68 rfl) (q := 131) rfl ?_
                                refine x_if_eq (tgt := 166) hC (zdk dk_X12_isOwn 69 rfl) (q := 134) rfl rfl (fun _ => ?_) (fun _ => ?_)
                                · refine x_weak (L' := [.null, .null, .null]) ⟨Or.inl rfl, Or.inl rfl, Or.inl rfl, trivial⟩ ?_
                                  exact x_X12_isOwn_166 hC hE hk0 h_r0 _
                                · refine x_lload_n (i := 1) rfl hC (zdk dk_X12_isOwn 70 rfl) (q := 135) rfl ?_
                                  refine x_ldc2 k_RX12_303 hC (zdk dk_X12_isOwn 71 rfl) (q := 138) rfl ?_
                                  refine x_lcmp hC (zdk dk_X12_isOwn 72 rfl) (q := 139) rfl ?_
                                  refine x_if_eq (tgt := 166) hC (zdk dk_X12_isOwn 73 rfl) (q := 142) rfl rfl (fun _ => ?_) (fun _ => ?_)
                                  · refine x_weak (L' := [.null, .null, .null]) ⟨Or.inl rfl, Or.inl rfl, Or.inl rfl, trivial⟩ ?_
                                    exact x_X12_isOwn_166 hC hE hk0 h_r0 _
                                  · refine x_lload_n (i := 1) rfl hC (zdk dk_X12_isOwn 74 rfl) (q := 143) rfl ?_
                                    refine x_ldc2 k_RX12_305 hC (zdk dk_X12_isOwn 75 rfl) (q := 146) rfl ?_
                                    refine x_lcmp hC (zdk dk_X12_isOwn 76 rfl) (q := 147) rfl ?_
                                    refine x_if_eq (tgt := 166) hC (zdk dk_X12_isOwn 77 rfl) (q := 150) rfl rfl (fun _ => ?_) (fun _ => ?_)
                                    · refine x_weak (L' := [.null, .null, .null]) ⟨Or.inl rfl, Or.inl rfl, Or.inl rfl, trivial⟩ ?_
                                      exact x_X12_isOwn_166 hC hE hk0 h_r0 _
                                    · refine x_lload_n (i := 1) rfl hC (zdk dk_X12_isOwn 78 rfl) (q := 151) rfl ?_
                                      refine x_ldc2 k_RX12_307 hC (zdk dk_X12_isOwn 79 rfl) (q := 154) rfl ?_
                                      refine x_lcmp hC (zdk dk_X12_isOwn 80 rfl) (q := 155) rfl ?_
                                      refine x_if_eq (tgt := 166) hC (zdk dk_X12_isOwn 81 rfl) (q := 158) rfl rfl (fun _ => ?_) (fun _ => ?_)
                                      · refine x_weak (L' := [.null, .null, .null]) ⟨Or.inl rfl, Or.inl rfl, Or.inl rfl, trivial⟩ ?_
                                        exact x_X12_isOwn_166 hC hE hk0 h_r0 _
                                      · refine x_lload_n (i := 1) rfl hC (zdk dk_X12_isOwn 82 rfl) (q := 159) rfl ?_
                                        refine x_ldc2 k_RX12_309 hC (zdk dk_X12_isOwn 83 rfl) (q := 162) rfl ?_
                                        refine x_lcmp hC (zdk dk_X12_isOwn 84 rfl) (q := 163) rfl ?_
                                        refine x_if_ne (tgt := 168) hC (zdk dk_X12_isOwn 85 rfl) (q := 166) rfl rfl (fun _ => ?_) (fun _ => ?_)
                                        · refine x_lload_n (i := 1) rfl hC (zdk dk_X12_isOwn 88 rfl) (q := 169) rfl ?_
                                          refine x_ldc2 k_RX12_311 hC (zdk dk_X12_isOwn 89 rfl) (q := 172) rfl ?_
                                          refine x_lcmp hC (zdk dk_X12_isOwn 90 rfl) (q := 173) rfl ?_
                                          refine x_if_eq (tgt := 208) hC (zdk dk_X12_isOwn 91 rfl) (q := 176) rfl rfl (fun _ => ?_) (fun _ => ?_)
                                          · refine x_weak (L' := [.null, .null, .null]) ⟨Or.inl rfl, Or.inl rfl, Or.inl rfl, trivial⟩ ?_
                                            exact x_X12_isOwn_208 hC hE hk0 h_r0 _
                                          · refine x_lload_n (i := 1) rfl hC (zdk dk_X12_isOwn 92 rfl) (q := 177) rfl ?_
                                            refine x_ldc2 k_RX12_313 hC (zdk dk_X12_isOwn 93 rfl) (q := 180) rfl ?_
                                            refine x_lcmp hC (zdk dk_X12_isOwn 94 rfl) (q := 181) rfl ?_
                                            refine x_if_eq (tgt := 208) hC (zdk dk_X12_isOwn 95 rfl) (q := 184) rfl rfl (fun _ => ?_) (fun _ => ?_)
                                            · refine x_weak (L' := [.null, .null, .null]) ⟨Or.inl rfl, Or.inl rfl, Or.inl rfl, trivial⟩ ?_
                                              exact x_X12_isOwn_208 hC hE hk0 h_r0 _
                                            · refine x_lload_n (i := 1) rfl hC (zdk dk_X12_isOwn 96 rfl) (q := 185) rfl ?_
                                              refine x_ldc2 k_RX12_315 hC (zdk dk_X12_isOwn 97 rfl) (q := 188) rfl ?_
                                              refine x_lcmp hC (zdk dk_X12_isOwn 98 rfl) (q := 189) rfl ?_
                                              refine x_if_eq (tgt := 208) hC (zdk dk_X12_isOwn 99 rfl) (q := 192) rfl rfl (fun _ => ?_) (fun _ => ?_)
                                              · refine x_weak (L' := [.null, .null, .null]) ⟨Or.inl rfl, Or.inl rfl, Or.inl rfl, trivial⟩ ?_
                                                exact x_X12_isOwn_208 hC hE hk0 h_r0 _
                                              · refine x_lload_n (i := 1) rfl hC (zdk dk_X12_isOwn 100 rfl) (q := 193) rfl ?_
                                                refine x_ldc2 k_RX12_317 hC (zdk dk_X12_isOwn 101 rfl) (q := 196) rfl ?_
                                                refine x_lcmp hC (zdk dk_X12_isOwn 102 rfl) (q := 197) rfl ?_
                                                refine x_if_eq (tgt := 208) hC (zdk dk_X12_isOwn 103 rfl) (q := 200) rfl rfl (fun _ => ?_) (fun _ => ?_)
                                                · refine x_weak (L' := [.null, .null, .null]) ⟨Or.inl rfl, Or.inl rfl, Or.inl rfl, trivial⟩ ?_
                                                  exact x_X12_isOwn_208 hC hE hk0 h_r0 _
                                                · refine x_lload_n (i := 1) rfl hC (zdk dk_X12_isOwn 104 rfl) (q := 201) rfl ?_
                                                  refine x_ldc2 k_RX12_319 hC (zdk dk_X12_isOwn 105 rfl) (q := 204) rfl ?_
                                                  refine x_lcmp hC (zdk dk_X12_isOwn 106 rfl) (q := 205) rfl ?_
                                                  refine x_if_ne (tgt := 210) hC (zdk dk_X12_isOwn 107 rfl) (q := 208) rfl rfl (fun _ => ?_) (fun _ => ?_)
                                                  · refine x_lload_n (i := 1) rfl hC (zdk dk_X12_isOwn 110 rfl) (q := 211) rfl ?_
                                                    refine x_ldc2 k_RX12_321 hC (zdk dk_X12_isOwn 111 rfl) (q := 214) rfl ?_
                                                    refine x_lcmp hC (zdk dk_X12_isOwn 112 rfl) (q := 215) rfl ?_
                                                    refine x_if_eq (tgt := 226) hC (zdk dk_X12_isOwn 113 rfl) (q := 218) rfl rfl (fun _ => ?_) (fun _ => ?_)
                                                    · refine x_weak (L' := [.null, .null, .null]) ⟨Or.inl rfl, Or.inl rfl, Or.inl rfl, trivial⟩ ?_
                                                      exact x_X12_isOwn_226 hC hE hk0 h_r0 _
                                                    · refine x_lload_n (i := 1) rfl hC (zdk dk_X12_isOwn 114 rfl) (q := 219) rfl ?_
                                                      refine x_ldc2 k_RX12_323 hC (zdk dk_X12_isOwn 115 rfl) (q := 222) rfl ?_
                                                      refine x_lcmp hC (zdk dk_X12_isOwn 116 rfl) (q := 223) rfl ?_
                                                      refine x_if_ne (tgt := 228) hC (zdk dk_X12_isOwn 117 rfl) (q := 226) rfl rfl (fun _ => ?_) (fun _ => ?_)
                                                      · refine x_iconst (i := 0) c_iconst_0 hC (zdk dk_X12_isOwn 120 rfl) (q := 229) rfl ?_
                                                        exact x_iret (ty := .boolean) rfl hE hC (zdk dk_X12_isOwn 121 rfl)
                                                      · refine x_weak (L' := [.null, .null, .null]) ⟨Or.inl rfl, Or.inl rfl, Or.inl rfl, trivial⟩ ?_
                                                        exact x_X12_isOwn_226 hC hE hk0 h_r0 _
                                                  · refine x_weak (L' := [.null, .null, .null]) ⟨Or.inl rfl, Or.inl rfl, Or.inl rfl, trivial⟩ ?_
                                                    exact x_X12_isOwn_208 hC hE hk0 h_r0 _
                                        · refine x_weak (L' := [.null, .null, .null]) ⟨Or.inl rfl, Or.inl rfl, Or.inl rfl, trivial⟩ ?_
                                          exact x_X12_isOwn_166 hC hE hk0 h_r0 _
                              · refine x_weak (L' := [.null, .null, .null]) ⟨Or.inl rfl, Or.inl rfl, Or.inl rfl, trivial⟩ ?_
                                exact x_X12_isOwn_124 hC hE hk0 h_r0 _
                    · refine x_weak (L' := [.null, .null, .null]) ⟨Or.inl rfl, Or.inl rfl, Or.inl rfl, trivial⟩ ?_
                      exact x_X12_isOwn_82 hC hE hk0 h_r0 _
          · refine x_weak (L' := [.null, .null, .null]) ⟨Or.inl rfl, Or.inl rfl, Or.inl rfl, trivial⟩ ?_
            exact x_X12_isOwn_40 hC hE hk0 h_r0 _
set_option maxRecDepth 100000 in
set_option maxHeartbeats 4000000 in
theorem t_X12_isOwn {n : Nat} {r0 : Nat} {y1 : Int64} {M : Mem} (h_r0 : zO n r0 12) (x : (Int32 × Mem)) (hx : f_X12_isOwn r0 y1 M = some x) (l : Launch) (dC : Nat → ClassId) (dI : Nat → Nat → Nat) (b : zSg) : MT l dC dI b yX12_isOwn cX12_isOwn 3 (some .boolean) 0 0 0 n n [.ref r0, .long y1] M (emI x).1 (emI x).2 :=
  MT.ofX (by decide +kernel) rfl (Nat.le_of_ble_eq_true rfl) (fun κ hC hF _ => x_X12_isOwn hC (zEnd_of hF (Nat.le_refl _) (Nat.le_refl _)) (zRk_of hF (Nat.le_refl _) (Nat.le_refl _)) _ _ _ h_r0) x hx
set_option maxRecDepth 100000 in
def dt_X12_pageNamed : List (Nat × Instr × Nat) := [(0, .iconst 0, 1), (1, .istore_n 3, 1), (2, .iload_n 3, 1), (3, .aload_n 0, 1), (4, .getfield 57, 3), (7, .aload_n 0, 1), (8, .getfield 79, 3), (11, .iaload, 1), (12, .if_icmp .ge 30, 3), (15, .aload_n 0, 1), (16, .getfield 72, 3), (19, .bipush 6, 2), (21, .aload_n 0, 1), (22, .getfield 79, 3), (25, .imul, 1), (26, .iload_n 3, 1), (27, .iadd, 1), (28, .laload, 1), (29, .lload_n 1, 1), (30, .lcmp, 1), (31, .ifCond .ne 5, 3), (34, .iload_n 3, 1), (35, .ireturn, 1), (36, .iinc 3 1, 3), (39, .goto (-37), 3), (42, .iconst (-1), 1), (43, .ireturn, 1)]
set_option maxRecDepth 100000 in
theorem dk_X12_pageNamed : dt_X12_pageNamed.all (fun q => decide (decode cX12_pageNamed q.1 = .ok q.2)) = true := by decide +kernel
set_option maxRecDepth 100000 in
def f_X12_pageNamed_2  (r0 : Nat) (y1 : Int64) : Nat → Int32 → Mem → Option (Int32 × Mem)
  | 0, _, _ => none
  | f + 1, x3, M => Option.bind (zrf M r0 15) fun q1 => Option.bind (zld q1 (zI M r0 22)) fun k2 => (if zI M q1 k2 ≤ x3 then some ((-1), M) else Option.bind (zrf M r0 20) fun q3 => Option.bind (zld q3 ((6 * (zI M r0 22)) + x3)) fun k4 => (if lg_cmp (zL M q3 k4) y1 = 0 then some (x3, M) else (f_X12_pageNamed_2 r0 y1 f) (x3 + 1) M))
set_option maxRecDepth 100000 in
set_option maxHeartbeats 4000000 in
theorem x_X12_pageNamed_2 {κ : KX} {n : Nat} (hC : CX κ cX12_pageNamed RX12 4 (some .int) 0) (hE : zEnd κ n (0, 0)) (hk0 : zRk κ (0, 0)) {r0 : Nat} {y1 : Int64} (h_r0 : zO n r0 12) : ∀ (f : Nat) (x3 : Int32) (M : Mem), X κ 4 emI n (0, 0) 2 [.ref r0, .long y1, .null, .int x3] [] M (f_X12_pageNamed_2 r0 y1 f x3 M) := by
  intro f
  induction f with
  | zero => intros; exact x_none
  | succ f ih =>
    intro x3 M 
    rw [f_X12_pageNamed_2]
    refine x_iload_n (i := 3) rfl hC (zdk dk_X12_pageNamed 2 rfl) (q := 3) rfl ?_
    refine x_aload_n (i := 0) rfl hC (zdk dk_X12_pageNamed 3 rfl) (q := 4) rfl ?_
    refine x_getR (k := 20) fl_RX12_57 rfl h_r0 hC (zdk dk_X12_pageNamed 4 rfl) (q := 7) rfl (fun q1 hq1 => ?_)
    refine x_aload_n (i := 0) rfl hC (zdk dk_X12_pageNamed 5 rfl) (q := 8) rfl ?_
    refine x_getI fl_RX12_79 (by decide) h_r0 hC (zdk dk_X12_pageNamed 6 rfl) (q := 11) rfl ?_
    refine x_iald hq1 hC (zdk dk_X12_pageNamed 7 rfl) (q := 12) rfl (fun k2 _ => ?_)
    refine x_icmp_ge (tgt := 42) hC (zdk dk_X12_pageNamed 8 rfl) (q := 15) rfl rfl (fun _ => ?_) (fun _ => ?_)
    · refine x_iconst (i := (-1)) c_iconst_m1 hC (zdk dk_X12_pageNamed 25 rfl) (q := 43) rfl ?_
      exact x_iret (ty := .int) rfl hE hC (zdk dk_X12_pageNamed 26 rfl)
    · refine x_aload_n (i := 0) rfl hC (zdk dk_X12_pageNamed 9 rfl) (q := 16) rfl ?_
      refine x_getR (k := 21) fl_RX12_72 rfl h_r0 hC (zdk dk_X12_pageNamed 10 rfl) (q := 19) rfl (fun q3 hq3 => ?_)
      refine x_bipush (i := 6) c_bipush_6 hC (zdk dk_X12_pageNamed 11 rfl) (q := 21) rfl ?_
      refine x_aload_n (i := 0) rfl hC (zdk dk_X12_pageNamed 12 rfl) (q := 22) rfl ?_
      refine x_getI fl_RX12_79 (by decide) h_r0 hC (zdk dk_X12_pageNamed 13 rfl) (q := 25) rfl ?_
      refine x_imul hC (zdk dk_X12_pageNamed 14 rfl) (q := 26) rfl ?_
      refine x_iload_n (i := 3) rfl hC (zdk dk_X12_pageNamed 15 rfl) (q := 27) rfl ?_
      refine x_iadd hC (zdk dk_X12_pageNamed 16 rfl) (q := 28) rfl ?_
      refine x_lald hq3 hC (zdk dk_X12_pageNamed 17 rfl) (q := 29) rfl (fun k4 _ => ?_)
      refine x_lload_n (i := 1) rfl hC (zdk dk_X12_pageNamed 18 rfl) (q := 30) rfl ?_
      refine x_lcmp hC (zdk dk_X12_pageNamed 19 rfl) (q := 31) rfl ?_
      refine x_if_ne (tgt := 36) hC (zdk dk_X12_pageNamed 20 rfl) (q := 34) rfl rfl (fun _ => ?_) (fun _ => ?_)
      · refine x_iinc (i := 3) c_iconst_1 rfl (by decide) (L' := [.ref r0, .long y1, .null, .int (x3 + 1)]) rfl hC (zdk dk_X12_pageNamed 23 rfl) (q := 39) rfl ?_
        refine x_goto (tgt := 2) hC (zdk dk_X12_pageNamed 24 rfl) rfl ?_
        refine x_weak (L' := [.ref r0, .long y1, .null, .int (x3 + 1)]) ⟨Or.inr rfl, Or.inr rfl, Or.inl rfl, Or.inr rfl, trivial⟩ ?_
        exact ih _ _
      · refine x_iload_n (i := 3) rfl hC (zdk dk_X12_pageNamed 21 rfl) (q := 35) rfl ?_
        exact x_iret (ty := .int) rfl hE hC (zdk dk_X12_pageNamed 22 rfl)
set_option maxRecDepth 100000 in
def f_X12_pageNamed (r0 : Nat) (y1 : Int64) (M : Mem) : Option (Int32 × Mem) := f_X12_pageNamed_2 r0 y1 1000000 0 M
set_option maxRecDepth 100000 in
set_option maxHeartbeats 4000000 in
theorem x_X12_pageNamed {κ : KX} {n : Nat} (hC : CX κ cX12_pageNamed RX12 4 (some .int) 0) (hE : zEnd κ n (0, 0)) (hk0 : zRk κ (0, 0)) (r0 : Nat) (y1 : Int64) (M : Mem) (h_r0 : zO n r0 12) : X κ 4 emI n (0, 0) 0 [.ref r0, .long y1, .null, .null] [] M (f_X12_pageNamed r0 y1 M) := by
  unfold f_X12_pageNamed
  refine x_iconst (i := 0) c_iconst_0 hC (zdk dk_X12_pageNamed 0 rfl) (q := 1) rfl ?_
  refine x_istore_n (i := 3) (L' := [.ref r0, .long y1, .null, .int 0]) (by decide) rfl hC (zdk dk_X12_pageNamed 1 rfl) (q := 2) rfl ?_
  refine x_weak (L' := [.ref r0, .long y1, .null, .int 0]) ⟨Or.inr rfl, Or.inr rfl, Or.inl rfl, Or.inr rfl, trivial⟩ ?_
  exact x_X12_pageNamed_2 hC hE hk0 h_r0 _ _ _
set_option maxRecDepth 100000 in
set_option maxHeartbeats 4000000 in
theorem t_X12_pageNamed {n : Nat} {r0 : Nat} {y1 : Int64} {M : Mem} (h_r0 : zO n r0 12) (x : (Int32 × Mem)) (hx : f_X12_pageNamed r0 y1 M = some x) (l : Launch) (dC : Nat → ClassId) (dI : Nat → Nat → Nat) (b : zSg) : MT l dC dI b yX12_pageNamed cX12_pageNamed 4 (some .int) 0 0 0 n n [.ref r0, .long y1] M (emI x).1 (emI x).2 :=
  MT.ofX (by decide +kernel) rfl (Nat.le_of_ble_eq_true rfl) (fun κ hC hF _ => x_X12_pageNamed hC (zEnd_of hF (Nat.le_refl _) (Nat.le_refl _)) (zRk_of hF (Nat.le_refl _) (Nat.le_refl _)) _ _ _ h_r0) x hx
set_option maxRecDepth 100000 in
def dt_X12_number : List (Nat × Instr × Nat) := [(0, .aload_n 0, 1), (1, .invokevirtual 262, 3), (4, .aload_n 0, 1), (5, .getfield 36, 3), (8, .ifCond .le 5, 3), (11, .iconst 0, 1), (12, .ireturn, 1), (13, .aload_n 0, 1), (14, .getfield 20, 3), (17, .iconst 2, 1), (18, .if_icmp .eq 12, 3), (21, .aload_n 0, 1), (22, .iconst 1, 1), (23, .aload_n 0, 1), (24, .getfield 23, 3), (27, .invokevirtual 251, 3), (30, .aload_n 0, 1), (31, .getfield 36, 3), (34, .ifCond .ne 24, 3), (37, .aload_n 0, 1), (38, .getfield 29, 3), (41, .iload_n 1, 1), (42, .iload_n 2, 1), (43, .invokestatic 325, 3), (46, .ifCond .ne 12, 3), (49, .aload_n 0, 1), (50, .iconst 4, 1), (51, .aload_n 0, 1), (52, .getfield 23, 3), (55, .invokevirtual 251, 3), (58, .aload_n 0, 1), (59, .getfield 29, 3), (62, .istore_n 3, 1), (63, .aload_n 0, 1), (64, .getfield 36, 3), (67, .ifCond .ne 7, 3), (70, .aload_n 0, 1), (71, .invokevirtual 268, 3), (74, .iload_n 3, 1), (75, .ireturn, 1)]
set_option maxRecDepth 100000 in
theorem dk_X12_number : dt_X12_number.all (fun q => decide (decode cX12_number q.1 = .ok q.2)) = true := by decide +kernel
set_option maxRecDepth 100000 in
def f_X12_number_74  (r0 : Nat) (x1 : Int32) (x2 : Int32) (x3 : Int32) (M : Mem) : Option (Int32 × Mem) := some (x3, M)
set_option maxRecDepth 100000 in
set_option maxHeartbeats 4000000 in
theorem x_X12_number_74 {κ : KX} {n : Nat} (hC : CX κ cX12_number RX12 4 (some .int) 2) (hE : zEnd κ n (0, 0)) (hk0 : zRk κ (0, 0)) {r0 : Nat} {x1 : Int32} {x2 : Int32} (h_r0 : zO n r0 12) (x3 : Int32) (M : Mem) : X κ 4 emI n (0, 0) 74 [.null, .null, .null, .int x3] [] M (f_X12_number_74 r0 x1 x2 x3 M) := by
  unfold f_X12_number_74
  refine x_iload_n (i := 3) rfl hC (zdk dk_X12_number 38 rfl) (q := 75) rfl ?_
  exact x_iret (ty := .int) rfl hE hC (zdk dk_X12_number 39 rfl)
set_option maxRecDepth 100000 in
def f_X12_number_58  (r0 : Nat) (x1 : Int32) (x2 : Int32)  (M : Mem) : Option (Int32 × Mem) := (if zI M r0 8 = 0 then Option.bind (f_X12_ahead r0 M) fun M1 => f_X12_number_74 r0 x1 x2 (zI M r0 6) M1 else f_X12_number_74 r0 x1 x2 (zI M r0 6) M)
set_option maxRecDepth 100000 in
set_option maxHeartbeats 4000000 in
theorem x_X12_number_58 {κ : KX} {n : Nat} (hC : CX κ cX12_number RX12 4 (some .int) 2) (hE : zEnd κ n (0, 0)) (hk0 : zRk κ (0, 0)) {r0 : Nat} {x1 : Int32} {x2 : Int32} (h_r0 : zO n r0 12) (M : Mem) : X κ 4 emI n (0, 0) 58 [.ref r0, .null, .null, .null] [] M (f_X12_number_58 r0 x1 x2 M) := by
  unfold f_X12_number_58
  refine x_aload_n (i := 0) rfl hC (zdk dk_X12_number 30 rfl) (q := 59) rfl ?_
  refine x_getI fl_RX12_29 (by decide) h_r0 hC (zdk dk_X12_number 31 rfl) (q := 62) rfl ?_
  refine x_istore_n (i := 3) (L' := [.ref r0, .null, .null, .int (zI M r0 6)]) (by decide) rfl hC (zdk dk_X12_number 32 rfl) (q := 63) rfl ?_
  refine x_aload_n (i := 0) rfl hC (zdk dk_X12_number 33 rfl) (q := 64) rfl ?_
  refine x_getI fl_RX12_36 (by decide) h_r0 hC (zdk dk_X12_number 34 rfl) (q := 67) rfl ?_
  refine x_if_ne (tgt := 74) hC (zdk dk_X12_number 35 rfl) (q := 70) rfl rfl (fun _ => ?_) (fun _ => ?_)
  · refine x_weak (L' := [.null, .null, .null, .int (zI M r0 6)]) ⟨Or.inl rfl, Or.inl rfl, Or.inl rfl, Or.inr rfl, trivial⟩ ?_
    exact x_X12_number_74 hC hE hk0 h_r0 _ _
  · refine x_aload_n (i := 0) rfl hC (zdk dk_X12_number 36 rfl) (q := 71) rfl ?_
    refine x_callVv (as := []) cb_RX12_268 rfl (by decide) hk0 h_r0 (fun x hx => t_X12_ahead h_r0 x hx) hC (zdk dk_X12_number 37 rfl) (q := 74) rfl rfl (Nat.le_of_ble_eq_true rfl) (fun M1 => ?_)
    refine x_weak (L' := [.null, .null, .null, .int (zI M r0 6)]) ⟨Or.inl rfl, Or.inl rfl, Or.inl rfl, Or.inr rfl, trivial⟩ ?_
    exact x_X12_number_74 hC hE hk0 h_r0 _ _
set_option maxRecDepth 100000 in
def f_X12_number_30  (r0 : Nat) (x1 : Int32) (x2 : Int32)  (M : Mem) : Option (Int32 × Mem) := (if zI M r0 8 = 0 then Option.bind (f_X12_is (zI M r0 6) x1 x2 M) fun z2 => (if z2.1 = 0 then Option.bind (f_X12_blame r0 4 (zI z2.2 r0 4) z2.2) fun M3 => f_X12_number_58 r0 x1 x2 M3 else f_X12_number_58 r0 x1 x2 z2.2) else f_X12_number_58 r0 x1 x2 M)
set_option maxRecDepth 100000 in
set_option maxHeartbeats 4000000 in
theorem x_X12_number_30 {κ : KX} {n : Nat} (hC : CX κ cX12_number RX12 4 (some .int) 2) (hE : zEnd κ n (0, 0)) (hk0 : zRk κ (0, 0)) {r0 : Nat} {x1 : Int32} {x2 : Int32} (h_r0 : zO n r0 12) (M : Mem) : X κ 4 emI n (0, 0) 30 [.ref r0, .int x1, .int x2, .null] [] M (f_X12_number_30 r0 x1 x2 M) := by
  unfold f_X12_number_30
  refine x_aload_n (i := 0) rfl hC (zdk dk_X12_number 16 rfl) (q := 31) rfl ?_
  refine x_getI fl_RX12_36 (by decide) h_r0 hC (zdk dk_X12_number 17 rfl) (q := 34) rfl ?_
  refine x_if_ne (tgt := 58) hC (zdk dk_X12_number 18 rfl) (q := 37) rfl rfl (fun _ => ?_) (fun _ => ?_)
  · refine x_weak (L' := [.ref r0, .null, .null, .null]) ⟨Or.inr rfl, Or.inl rfl, Or.inl rfl, Or.inl rfl, trivial⟩ ?_
    exact x_X12_number_58 hC hE hk0 h_r0 _
  · refine x_aload_n (i := 0) rfl hC (zdk dk_X12_number 19 rfl) (q := 38) rfl ?_
    refine x_getI fl_RX12_29 (by decide) h_r0 hC (zdk dk_X12_number 20 rfl) (q := 41) rfl ?_
    refine x_iload_n (i := 1) rfl hC (zdk dk_X12_number 21 rfl) (q := 42) rfl ?_
    refine x_iload_n (i := 2) rfl hC (zdk dk_X12_number 22 rfl) (q := 43) rfl ?_
    refine x_callSi (as := [.int (zI M r0 6), .int x1, .int x2]) cb_RX12_325 rfl (by decide) hk0 (fun x hx => t_X12_is  x hx) hC (zdk dk_X12_number 23 rfl) (q := 46) rfl rfl (Nat.le_of_ble_eq_true rfl) (fun z2 => ?_)
    refine x_if_ne (tgt := 58) hC (zdk dk_X12_number 24 rfl) (q := 49) rfl rfl (fun _ => ?_) (fun _ => ?_)
    · refine x_weak (L' := [.ref r0, .null, .null, .null]) ⟨Or.inr rfl, Or.inl rfl, Or.inl rfl, Or.inl rfl, trivial⟩ ?_
      exact x_X12_number_58 hC hE hk0 h_r0 _
    · refine x_aload_n (i := 0) rfl hC (zdk dk_X12_number 25 rfl) (q := 50) rfl ?_
      refine x_iconst (i := 4) c_iconst_4 hC (zdk dk_X12_number 26 rfl) (q := 51) rfl ?_
      refine x_aload_n (i := 0) rfl hC (zdk dk_X12_number 27 rfl) (q := 52) rfl ?_
      refine x_getI fl_RX12_23 (by decide) h_r0 hC (zdk dk_X12_number 28 rfl) (q := 55) rfl ?_
      refine x_callVv (as := [.int 4, .int (zI z2.2 r0 4)]) cb_RX12_251 rfl (by decide) hk0 h_r0 (fun x hx => t_X12_blame h_r0 x hx) hC (zdk dk_X12_number 29 rfl) (q := 58) rfl rfl (Nat.le_of_ble_eq_true rfl) (fun M3 => ?_)
      refine x_weak (L' := [.ref r0, .null, .null, .null]) ⟨Or.inr rfl, Or.inl rfl, Or.inl rfl, Or.inl rfl, trivial⟩ ?_
      exact x_X12_number_58 hC hE hk0 h_r0 _
set_option maxRecDepth 100000 in
def f_X12_number (r0 : Nat) (x1 : Int32) (x2 : Int32) (M : Mem) : Option (Int32 × Mem) := Option.bind (f_X12_lex r0 M) fun M4 => (if zI M4 r0 8 ≤ 0 then (if zI M4 r0 3 = 2 then f_X12_number_30 r0 x1 x2 M4 else Option.bind (f_X12_blame r0 1 (zI M4 r0 4) M4) fun M5 => f_X12_number_30 r0 x1 x2 M5) else some (0, M4))
set_option maxRecDepth 100000 in
set_option maxHeartbeats 4000000 in
theorem x_X12_number {κ : KX} {n : Nat} (hC : CX κ cX12_number RX12 4 (some .int) 2) (hE : zEnd κ n (0, 0)) (hk0 : zRk κ (0, 0)) (r0 : Nat) (x1 : Int32) (x2 : Int32) (M : Mem) (h_r0 : zO n r0 12) : X κ 4 emI n (0, 0) 0 [.ref r0, .int x1, .int x2, .null] [] M (f_X12_number r0 x1 x2 M) := by
  unfold f_X12_number
  refine x_aload_n (i := 0) rfl hC (zdk dk_X12_number 0 rfl) (q := 1) rfl ?_
  refine x_callVv (as := []) cb_RX12_262 rfl (by decide) hk0 h_r0 (fun x hx => t_X12_lex h_r0 x hx) hC (zdk dk_X12_number 1 rfl) (q := 4) rfl rfl (Nat.le_of_ble_eq_true rfl) (fun M4 => ?_)
  refine x_aload_n (i := 0) rfl hC (zdk dk_X12_number 2 rfl) (q := 5) rfl ?_
  refine x_getI fl_RX12_36 (by decide) h_r0 hC (zdk dk_X12_number 3 rfl) (q := 8) rfl ?_
  refine x_if_le (tgt := 13) hC (zdk dk_X12_number 4 rfl) (q := 11) rfl rfl (fun _ => ?_) (fun _ => ?_)
  · refine x_aload_n (i := 0) rfl hC (zdk dk_X12_number 7 rfl) (q := 14) rfl ?_
    refine x_getI fl_RX12_20 (by decide) h_r0 hC (zdk dk_X12_number 8 rfl) (q := 17) rfl ?_
    refine x_iconst (i := 2) c_iconst_2 hC (zdk dk_X12_number 9 rfl) (q := 18) rfl ?_
    refine x_icmp_eq (tgt := 30) hC (zdk dk_X12_number 10 rfl) (q := 21) rfl rfl (fun _ => ?_) (fun _ => ?_)
    · refine x_weak (L' := [.ref r0, .int x1, .int x2, .null]) ⟨Or.inr rfl, Or.inr rfl, Or.inr rfl, Or.inl rfl, trivial⟩ ?_
      exact x_X12_number_30 hC hE hk0 h_r0 _
    · refine x_aload_n (i := 0) rfl hC (zdk dk_X12_number 11 rfl) (q := 22) rfl ?_
      refine x_iconst (i := 1) c_iconst_1 hC (zdk dk_X12_number 12 rfl) (q := 23) rfl ?_
      refine x_aload_n (i := 0) rfl hC (zdk dk_X12_number 13 rfl) (q := 24) rfl ?_
      refine x_getI fl_RX12_23 (by decide) h_r0 hC (zdk dk_X12_number 14 rfl) (q := 27) rfl ?_
      refine x_callVv (as := [.int 1, .int (zI M4 r0 4)]) cb_RX12_251 rfl (by decide) hk0 h_r0 (fun x hx => t_X12_blame h_r0 x hx) hC (zdk dk_X12_number 15 rfl) (q := 30) rfl rfl (Nat.le_of_ble_eq_true rfl) (fun M5 => ?_)
      refine x_weak (L' := [.ref r0, .int x1, .int x2, .null]) ⟨Or.inr rfl, Or.inr rfl, Or.inr rfl, Or.inl rfl, trivial⟩ ?_
      exact x_X12_number_30 hC hE hk0 h_r0 _
  · refine x_iconst (i := 0) c_iconst_0 hC (zdk dk_X12_number 5 rfl) (q := 12) rfl ?_
    exact x_iret (ty := .int) rfl hE hC (zdk dk_X12_number 6 rfl)
set_option maxRecDepth 100000 in
set_option maxHeartbeats 4000000 in
theorem t_X12_number {n : Nat} {r0 : Nat} {x1 : Int32} {x2 : Int32} {M : Mem} (h_r0 : zO n r0 12) (x : (Int32 × Mem)) (hx : f_X12_number r0 x1 x2 M = some x) (l : Launch) (dC : Nat → ClassId) (dI : Nat → Nat → Nat) (b : zSg) : MT l dC dI b yX12_number cX12_number 4 (some .int) 2 0 0 n n [.ref r0, .int x1, .int x2] M (emI x).1 (emI x).2 :=
  MT.ofX (by decide +kernel) rfl (Nat.le_of_ble_eq_true rfl) (fun κ hC hF _ => x_X12_number hC (zEnd_of hF (Nat.le_refl _) (Nat.le_refl _)) (zRk_of hF (Nat.le_refl _) (Nat.le_refl _)) _ _ _ _ h_r0) x hx
set_option maxRecDepth 100000 in
def dt_X12_add : List (Nat × Instr × Nat) := [(0, .aload_n 0, 1), (1, .getfield 66, 3), (4, .sipush 1600, 3), (7, .aload_n 0, 1), (8, .getfield 79, 3), (11, .imul, 1), (12, .aload_n 0, 1), (13, .getfield 76, 3), (16, .iadd, 1), (17, .iload_n 1, 1), (18, .iastore, 1), (19, .aload_n 0, 1), (20, .getfield 69, 3), (23, .sipush 1600, 3), (26, .aload_n 0, 1), (27, .getfield 79, 3), (30, .imul, 1), (31, .aload_n 0, 1), (32, .getfield 76, 3), (35, .iadd, 1), (36, .iload_n 2, 1), (37, .iastore, 1), (38, .aload_n 0, 1), (39, .dup, 1), (40, .getfield 76, 3), (43, .iconst 1, 1), (44, .iadd, 1), (45, .putfield 76, 3), (48, .return_, 1)]
set_option maxRecDepth 100000 in
theorem dk_X12_add : dt_X12_add.all (fun q => decide (decode cX12_add q.1 = .ok q.2)) = true := by decide +kernel
set_option maxRecDepth 100000 in
def f_X12_add (r0 : Nat) (x1 : Int32) (x2 : Int32) (M : Mem) : Option Mem := Option.bind (zrf M r0 18) fun q1 => Option.bind (zld q1 ((1600 * (zI M r0 22)) + (zI M r0 21))) fun k2 => Option.bind (some (zsI M q1 k2 x1)) fun M3 => Option.bind (zrf M3 r0 19) fun q4 => Option.bind (zld q4 ((1600 * (zI M3 r0 22)) + (zI M3 r0 21))) fun k5 => Option.bind (some (zsI M3 q4 k5 x2)) fun M6 => Option.bind (some (zsI M6 r0 21 ((zI M6 r0 21) + 1))) fun M7 => some M7
set_option maxRecDepth 100000 in
set_option maxHeartbeats 4000000 in
theorem x_X12_add {κ : KX} {n : Nat} (hC : CX κ cX12_add RX12 3 none 0) (hE : zEnd κ n (0, 0)) (hk0 : zRk κ (0, 0)) (r0 : Nat) (x1 : Int32) (x2 : Int32) (M : Mem) (h_r0 : zO n r0 12) : X κ 3 emV n (0, 0) 0 [.ref r0, .int x1, .int x2] [] M (f_X12_add r0 x1 x2 M) := by
  unfold f_X12_add
  refine x_aload_n (i := 0) rfl hC (zdk dk_X12_add 0 rfl) (q := 1) rfl ?_
  refine x_getR (k := 20) fl_RX12_66 rfl h_r0 hC (zdk dk_X12_add 1 rfl) (q := 4) rfl (fun q1 hq1 => ?_)
  refine x_sipush (i := 1600) c_sipush_1600 hC (zdk dk_X12_add 2 rfl) (q := 7) rfl ?_
  refine x_aload_n (i := 0) rfl hC (zdk dk_X12_add 3 rfl) (q := 8) rfl ?_
  refine x_getI fl_RX12_79 (by decide) h_r0 hC (zdk dk_X12_add 4 rfl) (q := 11) rfl ?_
  refine x_imul hC (zdk dk_X12_add 5 rfl) (q := 12) rfl ?_
  refine x_aload_n (i := 0) rfl hC (zdk dk_X12_add 6 rfl) (q := 13) rfl ?_
  refine x_getI fl_RX12_76 (by decide) h_r0 hC (zdk dk_X12_add 7 rfl) (q := 16) rfl ?_
  refine x_iadd hC (zdk dk_X12_add 8 rfl) (q := 17) rfl ?_
  refine x_iload_n (i := 1) rfl hC (zdk dk_X12_add 9 rfl) (q := 18) rfl ?_
  refine x_iast hq1 hC (zdk dk_X12_add 10 rfl) (q := 19) rfl (fun k2 _ => ?_)
  refine x_nmM (fun M3 => ?_)
  refine x_aload_n (i := 0) rfl hC (zdk dk_X12_add 11 rfl) (q := 20) rfl ?_
  refine x_getR (k := 20) fl_RX12_69 rfl h_r0 hC (zdk dk_X12_add 12 rfl) (q := 23) rfl (fun q4 hq4 => ?_)
  refine x_sipush (i := 1600) c_sipush_1600 hC (zdk dk_X12_add 13 rfl) (q := 26) rfl ?_
  refine x_aload_n (i := 0) rfl hC (zdk dk_X12_add 14 rfl) (q := 27) rfl ?_
  refine x_getI fl_RX12_79 (by decide) h_r0 hC (zdk dk_X12_add 15 rfl) (q := 30) rfl ?_
  refine x_imul hC (zdk dk_X12_add 16 rfl) (q := 31) rfl ?_
  refine x_aload_n (i := 0) rfl hC (zdk dk_X12_add 17 rfl) (q := 32) rfl ?_
  refine x_getI fl_RX12_76 (by decide) h_r0 hC (zdk dk_X12_add 18 rfl) (q := 35) rfl ?_
  refine x_iadd hC (zdk dk_X12_add 19 rfl) (q := 36) rfl ?_
  refine x_iload_n (i := 2) rfl hC (zdk dk_X12_add 20 rfl) (q := 37) rfl ?_
  refine x_iast hq4 hC (zdk dk_X12_add 21 rfl) (q := 38) rfl (fun k5 _ => ?_)
  refine x_nmM (fun M6 => ?_)
  refine x_aload_n (i := 0) rfl hC (zdk dk_X12_add 22 rfl) (q := 39) rfl ?_
  refine x_dup rfl hC (zdk dk_X12_add 23 rfl) (q := 40) rfl ?_
  refine x_getI fl_RX12_76 (by decide) h_r0 hC (zdk dk_X12_add 24 rfl) (q := 43) rfl ?_
  refine x_iconst (i := 1) c_iconst_1 hC (zdk dk_X12_add 25 rfl) (q := 44) rfl ?_
  refine x_iadd hC (zdk dk_X12_add 26 rfl) (q := 45) rfl ?_
  refine x_putI fl_RX12_76 ⟨rfl, rfl⟩ (by decide) (Or.inl rfl) h_r0 hC (zdk dk_X12_add 27 rfl) (q := 48) rfl ?_
  refine x_nmM (fun M7 => ?_)
  exact x_vret hE hC (zdk dk_X12_add 28 rfl)
set_option maxRecDepth 100000 in
set_option maxHeartbeats 4000000 in
theorem t_X12_add {n : Nat} {r0 : Nat} {x1 : Int32} {x2 : Int32} {M : Mem} (h_r0 : zO n r0 12) (x : Mem) (hx : f_X12_add r0 x1 x2 M = some x) (l : Launch) (dC : Nat → ClassId) (dI : Nat → Nat → Nat) (b : zSg) : MT l dC dI b yX12_add cX12_add 3 none 0 0 0 n n [.ref r0, .int x1, .int x2] M (emV x).1 (emV x).2 :=
  MT.ofX (by decide +kernel) rfl (Nat.le_of_ble_eq_true rfl) (fun κ hC hF _ => x_X12_add hC (zEnd_of hF (Nat.le_refl _) (Nat.le_refl _)) (zRk_of hF (Nat.le_refl _) (Nat.le_refl _)) _ _ _ _ h_r0) x hx
set_option maxRecDepth 100000 in
def dt_X12_rank : List (Nat × Instr × Nat) := [(0, .iload_n 0, 1), (1, .bipush 42, 2), (3, .if_icmp .ne 7, 3), (6, .iconst 1, 1), (7, .goto 63, 3), (10, .iload_n 0, 1), (11, .bipush 41, 2), (13, .if_icmp .ne 7, 3), (16, .iconst 2, 1), (17, .goto 53, 3), (20, .iload_n 0, 1), (21, .bipush 43, 2), (23, .if_icmp .ne 7, 3), (26, .iconst 3, 1), (27, .goto 43, 3), (30, .iload_n 0, 1), (31, .bipush 38, 2), (33, .if_icmp .eq 15, 3), (36, .iload_n 0, 1), (37, .bipush 39, 2), (39, .if_icmp .eq 9, 3), (42, .iload_n 0, 1), (43, .bipush 40, 2), (45, .if_icmp .ne 7, 3), (48, .iconst 4, 1), (49, .goto 21, 3), (52, .iload_n 0, 1), (53, .bipush 31, 2), (55, .if_icmp .eq 9, 3), (58, .iload_n 0, 1), (59, .bipush 32, 2), (61, .if_icmp .ne 7, 3), (64, .iconst 5, 1), (65, .goto 5, 3), (68, .bipush 6, 2), (70, .ireturn, 1)]
set_option maxRecDepth 100000 in
theorem dk_X12_rank : dt_X12_rank.all (fun q => decide (decode cX12_rank q.1 = .ok q.2)) = true := by decide +kernel
set_option maxRecDepth 100000 in
def f_X12_rank_70  (x0 : Int32) (s0 : Int32) (M : Mem) : Option (Int32 × Mem) := some (s0, M)
set_option maxRecDepth 100000 in
set_option maxHeartbeats 4000000 in
theorem x_X12_rank_70 {κ : KX} {n : Nat} (hC : CX κ cX12_rank RX12 1 (some .int) 0) (hE : zEnd κ n (0, 0)) (hk0 : zRk κ (0, 0)) {x0 : Int32} (s0 : Int32) (M : Mem) : X κ 1 emI n (0, 0) 70 [.null] [.int s0] M (f_X12_rank_70 x0 s0 M) := by
  unfold f_X12_rank_70
  exact x_iret (ty := .int) rfl hE hC (zdk dk_X12_rank 35 rfl)
set_option maxRecDepth 100000 in
def f_X12_rank_48  (x0 : Int32)  (M : Mem) : Option (Int32 × Mem) := f_X12_rank_70 x0 4 M
set_option maxRecDepth 100000 in
set_option maxHeartbeats 4000000 in
theorem x_X12_rank_48 {κ : KX} {n : Nat} (hC : CX κ cX12_rank RX12 1 (some .int) 0) (hE : zEnd κ n (0, 0)) (hk0 : zRk κ (0, 0)) {x0 : Int32} (M : Mem) : X κ 1 emI n (0, 0) 48 [.null] [] M (f_X12_rank_48 x0 M) := by
  unfold f_X12_rank_48
  refine x_iconst (i := 4) c_iconst_4 hC (zdk dk_X12_rank 24 rfl) (q := 49) rfl ?_
  refine x_goto (tgt := 70) hC (zdk dk_X12_rank 25 rfl) rfl ?_
  refine x_weak (L' := [.null]) ⟨Or.inl rfl, trivial⟩ ?_
  exact x_X12_rank_70 hC hE hk0 _ _
set_option maxRecDepth 100000 in
def f_X12_rank_64  (x0 : Int32)  (M : Mem) : Option (Int32 × Mem) := f_X12_rank_70 x0 5 M
set_option maxRecDepth 100000 in
set_option maxHeartbeats 4000000 in
theorem x_X12_rank_64 {κ : KX} {n : Nat} (hC : CX κ cX12_rank RX12 1 (some .int) 0) (hE : zEnd κ n (0, 0)) (hk0 : zRk κ (0, 0)) {x0 : Int32} (M : Mem) : X κ 1 emI n (0, 0) 64 [.null] [] M (f_X12_rank_64 x0 M) := by
  unfold f_X12_rank_64
  refine x_iconst (i := 5) c_iconst_5 hC (zdk dk_X12_rank 32 rfl) (q := 65) rfl ?_
  refine x_goto (tgt := 70) hC (zdk dk_X12_rank 33 rfl) rfl ?_
  refine x_weak (L' := [.null]) ⟨Or.inl rfl, trivial⟩ ?_
  exact x_X12_rank_70 hC hE hk0 _ _
set_option maxRecDepth 100000 in
def f_X12_rank (x0 : Int32) (M : Mem) : Option (Int32 × Mem) := (if x0 = 42 then f_X12_rank_70 x0 1 M else (if x0 = 41 then f_X12_rank_70 x0 2 M else (if x0 = 43 then f_X12_rank_70 x0 3 M else (if x0 = 38 then f_X12_rank_48 x0 M else (if x0 = 39 then f_X12_rank_48 x0 M else (if x0 = 40 then f_X12_rank_48 x0 M else (if x0 = 31 then f_X12_rank_64 x0 M else (if x0 = 32 then f_X12_rank_64 x0 M else f_X12_rank_70 x0 6 M))))))))
set_option maxRecDepth 100000 in
set_option maxHeartbeats 4000000 in
theorem x_X12_rank {κ : KX} {n : Nat} (hC : CX κ cX12_rank RX12 1 (some .int) 0) (hE : zEnd κ n (0, 0)) (hk0 : zRk κ (0, 0)) (x0 : Int32) (M : Mem) : X κ 1 emI n (0, 0) 0 [.int x0] [] M (f_X12_rank x0 M) := by
  unfold f_X12_rank
  refine x_iload_n (i := 0) rfl hC (zdk dk_X12_rank 0 rfl) (q := 1) rfl ?_
  refine x_bipush (i := 42) c_bipush_42 hC (zdk dk_X12_rank 1 rfl) (q := 3) rfl ?_
  refine x_icmp_ne (tgt := 10) hC (zdk dk_X12_rank 2 rfl) (q := 6) rfl rfl (fun _ => ?_) (fun _ => ?_)
  · refine x_iload_n (i := 0) rfl hC (zdk dk_X12_rank 5 rfl) (q := 11) rfl ?_
    refine x_bipush (i := 41) c_bipush_41 hC (zdk dk_X12_rank 6 rfl) (q := 13) rfl ?_
    refine x_icmp_ne (tgt := 20) hC (zdk dk_X12_rank 7 rfl) (q := 16) rfl rfl (fun _ => ?_) (fun _ => ?_)
    · refine x_iload_n (i := 0) rfl hC (zdk dk_X12_rank 10 rfl) (q := 21) rfl ?_
      refine x_bipush (i := 43) c_bipush_43 hC (zdk dk_X12_rank 11 rfl) (q := 23) rfl ?_
      refine x_icmp_ne (tgt := 30) hC (zdk dk_X12_rank 12 rfl) (q := 26) rfl rfl (fun _ => ?_) (fun _ => ?_)
      · refine x_iload_n (i := 0) rfl hC (zdk dk_X12_rank 15 rfl) (q := 31) rfl ?_
        refine x_bipush (i := 38) c_bipush_38 hC (zdk dk_X12_rank 16 rfl) (q := 33) rfl ?_
        refine x_icmp_eq (tgt := 48) hC (zdk dk_X12_rank 17 rfl) (q := 36) rfl rfl (fun _ => ?_) (fun _ => ?_)
        · refine x_weak (L' := [.null]) ⟨Or.inl rfl, trivial⟩ ?_
          exact x_X12_rank_48 hC hE hk0 _
        · refine x_iload_n (i := 0) rfl hC (zdk dk_X12_rank 18 rfl) (q := 37) rfl ?_
          refine x_bipush (i := 39) c_bipush_39 hC (zdk dk_X12_rank 19 rfl) (q := 39) rfl ?_
          refine x_icmp_eq (tgt := 48) hC (zdk dk_X12_rank 20 rfl) (q := 42) rfl rfl (fun _ => ?_) (fun _ => ?_)
          · refine x_weak (L' := [.null]) ⟨Or.inl rfl, trivial⟩ ?_
            exact x_X12_rank_48 hC hE hk0 _
          · refine x_iload_n (i := 0) rfl hC (zdk dk_X12_rank 21 rfl) (q := 43) rfl ?_
            refine x_bipush (i := 40) c_bipush_40 hC (zdk dk_X12_rank 22 rfl) (q := 45) rfl ?_
            refine x_icmp_ne (tgt := 52) hC (zdk dk_X12_rank 23 rfl) (q := 48) rfl rfl (fun _ => ?_) (fun _ => ?_)
            · refine x_iload_n (i := 0) rfl hC (zdk dk_X12_rank 26 rfl) (q := 53) rfl ?_
              refine x_bipush (i := 31) c_bipush_31 hC (zdk dk_X12_rank 27 rfl) (q := 55) rfl ?_
              refine x_icmp_eq (tgt := 64) hC (zdk dk_X12_rank 28 rfl) (q := 58) rfl rfl (fun _ => ?_) (fun _ => ?_)
              · refine x_weak (L' := [.null]) ⟨Or.inl rfl, trivial⟩ ?_
                exact x_X12_rank_64 hC hE hk0 _
              · refine x_iload_n (i := 0) rfl hC (zdk dk_X12_rank 29 rfl) (q := 59) rfl ?_
                refine x_bipush (i := 32) c_bipush_32 hC (zdk dk_X12_rank 30 rfl) (q := 61) rfl ?_
                refine x_icmp_ne (tgt := 68) hC (zdk dk_X12_rank 31 rfl) (q := 64) rfl rfl (fun _ => ?_) (fun _ => ?_)
                · refine x_bipush (i := 6) c_bipush_6 hC (zdk dk_X12_rank 34 rfl) (q := 70) rfl ?_
                  refine x_weak (L' := [.null]) ⟨Or.inl rfl, trivial⟩ ?_
                  exact x_X12_rank_70 hC hE hk0 _ _
                · refine x_weak (L' := [.null]) ⟨Or.inl rfl, trivial⟩ ?_
                  exact x_X12_rank_64 hC hE hk0 _
            · refine x_weak (L' := [.null]) ⟨Or.inl rfl, trivial⟩ ?_
              exact x_X12_rank_48 hC hE hk0 _
      · refine x_iconst (i := 3) c_iconst_3 hC (zdk dk_X12_rank 13 rfl) (q := 27) rfl ?_
        refine x_goto (tgt := 70) hC (zdk dk_X12_rank 14 rfl) rfl ?_
        refine x_weak (L' := [.null]) ⟨Or.inl rfl, trivial⟩ ?_
        exact x_X12_rank_70 hC hE hk0 _ _
    · refine x_iconst (i := 2) c_iconst_2 hC (zdk dk_X12_rank 8 rfl) (q := 17) rfl ?_
      refine x_goto (tgt := 70) hC (zdk dk_X12_rank 9 rfl) rfl ?_
      refine x_weak (L' := [.null]) ⟨Or.inl rfl, trivial⟩ ?_
      exact x_X12_rank_70 hC hE hk0 _ _
  · refine x_iconst (i := 1) c_iconst_1 hC (zdk dk_X12_rank 3 rfl) (q := 7) rfl ?_
    refine x_goto (tgt := 70) hC (zdk dk_X12_rank 4 rfl) rfl ?_
    refine x_weak (L' := [.null]) ⟨Or.inl rfl, trivial⟩ ?_
    exact x_X12_rank_70 hC hE hk0 _ _
set_option maxRecDepth 100000 in
set_option maxHeartbeats 4000000 in
theorem t_X12_rank {n : Nat} {x0 : Int32} {M : Mem}  (x : (Int32 × Mem)) (hx : f_X12_rank x0 M = some x) (l : Launch) (dC : Nat → ClassId) (dI : Nat → Nat → Nat) (b : zSg) : MT l dC dI b yX12_rank cX12_rank 1 (some .int) 0 0 0 n n [.int x0] M (emI x).1 (emI x).2 :=
  MT.ofX (by decide +kernel) rfl (Nat.le_of_ble_eq_true rfl) (fun κ hC hF _ => x_X12_rank hC (zEnd_of hF (Nat.le_refl _) (Nat.le_refl _)) (zRk_of hF (Nat.le_refl _) (Nat.le_refl _)) _ _ ) x hx
set_option maxRecDepth 100000 in
def dt_X12_joins : List (Nat × Instr × Nat) := [(0, .aload_n 0, 1), (1, .getfield 110, 3), (4, .aload_n 0, 1), (5, .getfield 98, 3), (8, .aload_n 0, 1), (9, .getfield 101, 3), (12, .iconst 1, 1), (13, .isub, 1), (14, .iaload, 1), (15, .if_icmp .le 72, 3), (18, .aload_n 0, 1), (19, .getfield 107, 3), (22, .aload_n 0, 1), (23, .getfield 110, 3), (26, .iconst 1, 1), (27, .isub, 1), (28, .iaload, 1), (29, .invokestatic 329, 3), (32, .iload_n 1, 1), (33, .if_icmp .lt 54, 3), (36, .aload_n 0, 1), (37, .dup, 1), (38, .getfield 110, 3), (41, .iconst 1, 1), (42, .isub, 1), (43, .putfield 110, 3), (46, .aload_n 0, 1), (47, .aload_n 0, 1), (48, .getfield 107, 3), (51, .aload_n 0, 1), (52, .getfield 110, 3), (55, .iaload, 1), (56, .iconst 0, 1), (57, .invokevirtual 332, 3), (60, .aload_n 0, 1), (61, .getfield 107, 3), (64, .aload_n 0, 1), (65, .getfield 110, 3), (68, .iaload, 1), (69, .bipush 43, 2), (71, .if_icmp .ne (-71), 3), (74, .aload_n 0, 1), (75, .dup, 1), (76, .getfield 104, 3), (79, .iconst 1, 1), (80, .isub, 1), (81, .putfield 104, 3), (84, .goto (-84), 3), (87, .return_, 1)]
set_option maxRecDepth 100000 in
theorem dk_X12_joins : dt_X12_joins.all (fun q => decide (decode cX12_joins q.1 = .ok q.2)) = true := by decide +kernel
set_option maxRecDepth 100000 in
def f_X12_joins_87  (r0 : Nat) (x1 : Int32)  (M : Mem) : Option Mem := some M
set_option maxRecDepth 100000 in
set_option maxHeartbeats 4000000 in
theorem x_X12_joins_87 {κ : KX} {n : Nat} (hC : CX κ cX12_joins RX12 2 none 1) (hE : zEnd κ n (0, 0)) (hk0 : zRk κ (0, 0)) {r0 : Nat} {x1 : Int32} (h_r0 : zO n r0 12) (M : Mem) : X κ 2 emV n (0, 0) 87 [.null, .null] [] M (f_X12_joins_87 r0 x1 M) := by
  unfold f_X12_joins_87
  exact x_vret hE hC (zdk dk_X12_joins 48 rfl)
set_option maxRecDepth 100000 in
def f_X12_joins_0  (r0 : Nat) (x1 : Int32) : Nat → Mem → Option Mem
  | 0, _ => none
  | f + 1, M => Option.bind (zrf M r0 28) fun q1 => Option.bind (zld q1 ((zI M r0 29) - 1)) fun k2 => (if zI M r0 32 ≤ zI M q1 k2 then f_X12_joins_87 r0 x1 M else Option.bind (zrf M r0 31) fun q3 => Option.bind (zld q3 ((zI M r0 32) - 1)) fun k4 => Option.bind (f_X12_rank (zI M q3 k4) M) fun z5 => (if z5.1 < x1 then f_X12_joins_87 r0 x1 z5.2 else Option.bind (some (zsI z5.2 r0 32 ((zI z5.2 r0 32) - 1))) fun M6 => Option.bind (zrf M6 r0 31) fun q7 => Option.bind (zld q7 (zI M6 r0 32)) fun k8 => Option.bind (f_X12_add r0 (zI M6 q7 k8) 0 M6) fun M9 => Option.bind (zrf M9 r0 31) fun q10 => Option.bind (zld q10 (zI M9 r0 32)) fun k11 => (if zI M9 q10 k11 = 43 then Option.bind (some (zsI M9 r0 30 ((zI M9 r0 30) - 1))) fun M12 => (f_X12_joins_0 r0 x1 f) M12 else (f_X12_joins_0 r0 x1 f) M9)))
set_option maxRecDepth 100000 in
set_option maxHeartbeats 4000000 in
theorem x_X12_joins_0 {κ : KX} {n : Nat} (hC : CX κ cX12_joins RX12 2 none 1) (hE : zEnd κ n (0, 0)) (hk0 : zRk κ (0, 0)) {r0 : Nat} {x1 : Int32} (h_r0 : zO n r0 12) : ∀ (f : Nat)  (M : Mem), X κ 2 emV n (0, 0) 0 [.ref r0, .int x1] [] M (f_X12_joins_0 r0 x1 f M) := by
  intro f
  induction f with
  | zero => intros; exact x_none
  | succ f ih =>
    intro  M 
    rw [f_X12_joins_0]
    refine x_aload_n (i := 0) rfl hC (zdk dk_X12_joins 0 rfl) (q := 1) rfl ?_
    refine x_getI fl_RX12_110 (by decide) h_r0 hC (zdk dk_X12_joins 1 rfl) (q := 4) rfl ?_
    refine x_aload_n (i := 0) rfl hC (zdk dk_X12_joins 2 rfl) (q := 5) rfl ?_
    refine x_getR (k := 20) fl_RX12_98 rfl h_r0 hC (zdk dk_X12_joins 3 rfl) (q := 8) rfl (fun q1 hq1 => ?_)
    refine x_aload_n (i := 0) rfl hC (zdk dk_X12_joins 4 rfl) (q := 9) rfl ?_
    refine x_getI fl_RX12_101 (by decide) h_r0 hC (zdk dk_X12_joins 5 rfl) (q := 12) rfl ?_
    refine x_iconst (i := 1) c_iconst_1 hC (zdk dk_X12_joins 6 rfl) (q := 13) rfl ?_
    refine x_isub hC (zdk dk_X12_joins 7 rfl) (q := 14) rfl ?_
    refine x_iald hq1 hC (zdk dk_X12_joins 8 rfl) (q := 15) rfl (fun k2 _ => ?_)
    refine x_icmp_le (tgt := 87) hC (zdk dk_X12_joins 9 rfl) (q := 18) rfl rfl (fun _ => ?_) (fun _ => ?_)
    · refine x_weak (L' := [.null, .null]) ⟨Or.inl rfl, Or.inl rfl, trivial⟩ ?_
      exact x_X12_joins_87 hC hE hk0 h_r0 _
    · refine x_aload_n (i := 0) rfl hC (zdk dk_X12_joins 10 rfl) (q := 19) rfl ?_
      refine x_getR (k := 20) fl_RX12_107 rfl h_r0 hC (zdk dk_X12_joins 11 rfl) (q := 22) rfl (fun q3 hq3 => ?_)
      refine x_aload_n (i := 0) rfl hC (zdk dk_X12_joins 12 rfl) (q := 23) rfl ?_
      refine x_getI fl_RX12_110 (by decide) h_r0 hC (zdk dk_X12_joins 13 rfl) (q := 26) rfl ?_
      refine x_iconst (i := 1) c_iconst_1 hC (zdk dk_X12_joins 14 rfl) (q := 27) rfl ?_
      refine x_isub hC (zdk dk_X12_joins 15 rfl) (q := 28) rfl ?_
      refine x_iald hq3 hC (zdk dk_X12_joins 16 rfl) (q := 29) rfl (fun k4 _ => ?_)
      refine x_callSi (as := [.int (zI M q3 k4)]) cb_RX12_329 rfl (by decide) hk0 (fun x hx => t_X12_rank  x hx) hC (zdk dk_X12_joins 17 rfl) (q := 32) rfl rfl (Nat.le_of_ble_eq_true rfl) (fun z5 => ?_)
      refine x_iload_n (i := 1) rfl hC (zdk dk_X12_joins 18 rfl) (q := 33) rfl ?_
      refine x_icmp_lt (tgt := 87) hC (zdk dk_X12_joins 19 rfl) (q := 36) rfl rfl (fun _ => ?_) (fun _ => ?_)
      · refine x_weak (L' := [.null, .null]) ⟨Or.inl rfl, Or.inl rfl, trivial⟩ ?_
        exact x_X12_joins_87 hC hE hk0 h_r0 _
      · refine x_aload_n (i := 0) rfl hC (zdk dk_X12_joins 20 rfl) (q := 37) rfl ?_
        refine x_dup rfl hC (zdk dk_X12_joins 21 rfl) (q := 38) rfl ?_
        refine x_getI fl_RX12_110 (by decide) h_r0 hC (zdk dk_X12_joins 22 rfl) (q := 41) rfl ?_
        refine x_iconst (i := 1) c_iconst_1 hC (zdk dk_X12_joins 23 rfl) (q := 42) rfl ?_
        refine x_isub hC (zdk dk_X12_joins 24 rfl) (q := 43) rfl ?_
        refine x_putI fl_RX12_110 ⟨rfl, rfl⟩ (by decide) (Or.inl rfl) h_r0 hC (zdk dk_X12_joins 25 rfl) (q := 46) rfl ?_
        refine x_nmM (fun M6 => ?_)
        refine x_aload_n (i := 0) rfl hC (zdk dk_X12_joins 26 rfl) (q := 47) rfl ?_
        refine x_aload_n (i := 0) rfl hC (zdk dk_X12_joins 27 rfl) (q := 48) rfl ?_
        refine x_getR (k := 20) fl_RX12_107 rfl h_r0 hC (zdk dk_X12_joins 28 rfl) (q := 51) rfl (fun q7 hq7 => ?_)
        refine x_aload_n (i := 0) rfl hC (zdk dk_X12_joins 29 rfl) (q := 52) rfl ?_
        refine x_getI fl_RX12_110 (by decide) h_r0 hC (zdk dk_X12_joins 30 rfl) (q := 55) rfl ?_
        refine x_iald hq7 hC (zdk dk_X12_joins 31 rfl) (q := 56) rfl (fun k8 _ => ?_)
        refine x_iconst (i := 0) c_iconst_0 hC (zdk dk_X12_joins 32 rfl) (q := 57) rfl ?_
        refine x_callVv (as := [.int (zI M6 q7 k8), .int 0]) cb_RX12_332 rfl (by decide) hk0 h_r0 (fun x hx => t_X12_add h_r0 x hx) hC (zdk dk_X12_joins 33 rfl) (q := 60) rfl rfl (Nat.le_of_ble_eq_true rfl) (fun M9 => ?_)
        refine x_aload_n (i := 0) rfl hC (zdk dk_X12_joins 34 rfl) (q := 61) rfl ?_
        refine x_getR (k := 20) fl_RX12_107 rfl h_r0 hC (zdk dk_X12_joins 35 rfl) (q := 64) rfl (fun q10 hq10 => ?_)
        refine x_aload_n (i := 0) rfl hC (zdk dk_X12_joins 36 rfl) (q := 65) rfl ?_
        refine x_getI fl_RX12_110 (by decide) h_r0 hC (zdk dk_X12_joins 37 rfl) (q := 68) rfl ?_
        refine x_iald hq10 hC (zdk dk_X12_joins 38 rfl) (q := 69) rfl (fun k11 _ => ?_)
        refine x_bipush (i := 43) c_bipush_43 hC (zdk dk_X12_joins 39 rfl) (q := 71) rfl ?_
        refine x_icmp_ne (tgt := 0) hC (zdk dk_X12_joins 40 rfl) (q := 74) rfl rfl (fun _ => ?_) (fun _ => ?_)
        · refine x_weak (L' := [.ref r0, .int x1]) ⟨Or.inr rfl, Or.inr rfl, trivial⟩ ?_
          exact ih _
        · refine x_aload_n (i := 0) rfl hC (zdk dk_X12_joins 41 rfl) (q := 75) rfl ?_
          refine x_dup rfl hC (zdk dk_X12_joins 42 rfl) (q := 76) rfl ?_
          refine x_getI fl_RX12_104 (by decide) h_r0 hC (zdk dk_X12_joins 43 rfl) (q := 79) rfl ?_
          refine x_iconst (i := 1) c_iconst_1 hC (zdk dk_X12_joins 44 rfl) (q := 80) rfl ?_
          refine x_isub hC (zdk dk_X12_joins 45 rfl) (q := 81) rfl ?_
          refine x_putI fl_RX12_104 ⟨rfl, rfl⟩ (by decide) (Or.inl rfl) h_r0 hC (zdk dk_X12_joins 46 rfl) (q := 84) rfl ?_
          refine x_nmM (fun M12 => ?_)
          refine x_goto (tgt := 0) hC (zdk dk_X12_joins 47 rfl) rfl ?_
          refine x_weak (L' := [.ref r0, .int x1]) ⟨Or.inr rfl, Or.inr rfl, trivial⟩ ?_
          exact ih _
set_option maxRecDepth 100000 in
def f_X12_joins (r0 : Nat) (x1 : Int32) (M : Mem) : Option Mem := f_X12_joins_0 r0 x1 1000000 M
set_option maxRecDepth 100000 in
set_option maxHeartbeats 4000000 in
theorem x_X12_joins {κ : KX} {n : Nat} (hC : CX κ cX12_joins RX12 2 none 1) (hE : zEnd κ n (0, 0)) (hk0 : zRk κ (0, 0)) (r0 : Nat) (x1 : Int32) (M : Mem) (h_r0 : zO n r0 12) : X κ 2 emV n (0, 0) 0 [.ref r0, .int x1] [] M (f_X12_joins r0 x1 M) := by
  unfold f_X12_joins
  refine x_weak (L' := [.ref r0, .int x1]) ⟨Or.inr rfl, Or.inr rfl, trivial⟩ ?_
  exact x_X12_joins_0 hC hE hk0 h_r0 _ _
set_option maxRecDepth 100000 in
set_option maxHeartbeats 4000000 in
theorem t_X12_joins {n : Nat} {r0 : Nat} {x1 : Int32} {M : Mem} (h_r0 : zO n r0 12) (x : Mem) (hx : f_X12_joins r0 x1 M = some x) (l : Launch) (dC : Nat → ClassId) (dI : Nat → Nat → Nat) (b : zSg) : MT l dC dI b yX12_joins cX12_joins 2 none 1 0 0 n n [.ref r0, .int x1] M (emV x).1 (emV x).2 :=
  MT.ofX (by decide +kernel) rfl (Nat.le_of_ble_eq_true rfl) (fun κ hC hF _ => x_X12_joins hC (zEnd_of hF (Nat.le_refl _) (Nat.le_refl _)) (zRk_of hF (Nat.le_refl _) (Nat.le_refl _)) _ _ _ h_r0) x hx
set_option maxRecDepth 100000 in
def dt_X12_holdsBack : List (Nat × Instr × Nat) := [(0, .aload_n 0, 1), (1, .getfield 107, 3), (4, .aload_n 0, 1), (5, .getfield 110, 3), (8, .iload_n 1, 1), (9, .iastore, 1), (10, .aload_n 0, 1), (11, .dup, 1), (12, .getfield 110, 3), (15, .iconst 1, 1), (16, .iadd, 1), (17, .putfield 110, 3), (20, .return_, 1)]
set_option maxRecDepth 100000 in
theorem dk_X12_holdsBack : dt_X12_holdsBack.all (fun q => decide (decode cX12_holdsBack q.1 = .ok q.2)) = true := by decide +kernel
set_option maxRecDepth 100000 in
def f_X12_holdsBack (r0 : Nat) (x1 : Int32) (M : Mem) : Option Mem := Option.bind (zrf M r0 31) fun q1 => Option.bind (zld q1 (zI M r0 32)) fun k2 => Option.bind (some (zsI M q1 k2 x1)) fun M3 => Option.bind (some (zsI M3 r0 32 ((zI M3 r0 32) + 1))) fun M4 => some M4
set_option maxRecDepth 100000 in
set_option maxHeartbeats 4000000 in
theorem x_X12_holdsBack {κ : KX} {n : Nat} (hC : CX κ cX12_holdsBack RX12 2 none 0) (hE : zEnd κ n (0, 0)) (hk0 : zRk κ (0, 0)) (r0 : Nat) (x1 : Int32) (M : Mem) (h_r0 : zO n r0 12) : X κ 2 emV n (0, 0) 0 [.ref r0, .int x1] [] M (f_X12_holdsBack r0 x1 M) := by
  unfold f_X12_holdsBack
  refine x_aload_n (i := 0) rfl hC (zdk dk_X12_holdsBack 0 rfl) (q := 1) rfl ?_
  refine x_getR (k := 20) fl_RX12_107 rfl h_r0 hC (zdk dk_X12_holdsBack 1 rfl) (q := 4) rfl (fun q1 hq1 => ?_)
  refine x_aload_n (i := 0) rfl hC (zdk dk_X12_holdsBack 2 rfl) (q := 5) rfl ?_
  refine x_getI fl_RX12_110 (by decide) h_r0 hC (zdk dk_X12_holdsBack 3 rfl) (q := 8) rfl ?_
  refine x_iload_n (i := 1) rfl hC (zdk dk_X12_holdsBack 4 rfl) (q := 9) rfl ?_
  refine x_iast hq1 hC (zdk dk_X12_holdsBack 5 rfl) (q := 10) rfl (fun k2 _ => ?_)
  refine x_nmM (fun M3 => ?_)
  refine x_aload_n (i := 0) rfl hC (zdk dk_X12_holdsBack 6 rfl) (q := 11) rfl ?_
  refine x_dup rfl hC (zdk dk_X12_holdsBack 7 rfl) (q := 12) rfl ?_
  refine x_getI fl_RX12_110 (by decide) h_r0 hC (zdk dk_X12_holdsBack 8 rfl) (q := 15) rfl ?_
  refine x_iconst (i := 1) c_iconst_1 hC (zdk dk_X12_holdsBack 9 rfl) (q := 16) rfl ?_
  refine x_iadd hC (zdk dk_X12_holdsBack 10 rfl) (q := 17) rfl ?_
  refine x_putI fl_RX12_110 ⟨rfl, rfl⟩ (by decide) (Or.inl rfl) h_r0 hC (zdk dk_X12_holdsBack 11 rfl) (q := 20) rfl ?_
  refine x_nmM (fun M4 => ?_)
  exact x_vret hE hC (zdk dk_X12_holdsBack 12 rfl)
set_option maxRecDepth 100000 in
set_option maxHeartbeats 4000000 in
theorem t_X12_holdsBack {n : Nat} {r0 : Nat} {x1 : Int32} {M : Mem} (h_r0 : zO n r0 12) (x : Mem) (hx : f_X12_holdsBack r0 x1 M = some x) (l : Launch) (dC : Nat → ClassId) (dI : Nat → Nat → Nat) (b : zSg) : MT l dC dI b yX12_holdsBack cX12_holdsBack 2 none 0 0 0 n n [.ref r0, .int x1] M (emV x).1 (emV x).2 :=
  MT.ofX (by decide +kernel) rfl (Nat.le_of_ble_eq_true rfl) (fun κ hC hF _ => x_X12_holdsBack hC (zEnd_of hF (Nat.le_refl _) (Nat.le_refl _)) (zRk_of hF (Nat.le_refl _) (Nat.le_refl _)) _ _ _ h_r0) x hx
set_option maxRecDepth 100000 in
def dt_X12_pushes : List (Nat × Instr × Nat) := [(0, .aload_n 0, 1), (1, .getfield 85, 3), (4, .aload_n 0, 1), (5, .getfield 101, 3), (8, .iload_n 1, 1), (9, .iastore, 1), (10, .aload_n 0, 1), (11, .getfield 88, 3), (14, .aload_n 0, 1), (15, .getfield 101, 3), (18, .iconst 0, 1), (19, .iastore, 1), (20, .aload_n 0, 1), (21, .getfield 91, 3), (24, .aload_n 0, 1), (25, .getfield 101, 3), (28, .iconst 1, 1), (29, .bastore, 1), (30, .aload_n 0, 1), (31, .getfield 98, 3), (34, .aload_n 0, 1), (35, .getfield 101, 3), (38, .aload_n 0, 1), (39, .getfield 110, 3), (42, .iastore, 1), (43, .aload_n 0, 1), (44, .dup, 1), (45, .getfield 101, 3), (48, .iconst 1, 1), (49, .iadd, 1), (50, .putfield 101, 3), (53, .return_, 1)]
set_option maxRecDepth 100000 in
theorem dk_X12_pushes : dt_X12_pushes.all (fun q => decide (decode cX12_pushes q.1 = .ok q.2)) = true := by decide +kernel
set_option maxRecDepth 100000 in
def f_X12_pushes (r0 : Nat) (x1 : Int32) (M : Mem) : Option Mem := Option.bind (zrf M r0 24) fun q1 => Option.bind (zld q1 (zI M r0 29)) fun k2 => Option.bind (some (zsI M q1 k2 x1)) fun M3 => Option.bind (zrf M3 r0 25) fun q4 => Option.bind (zld q4 (zI M3 r0 29)) fun k5 => Option.bind (some (zsI M3 q4 k5 0)) fun M6 => Option.bind (zrf M6 r0 26) fun q7 => Option.bind (zld q7 (zI M6 r0 29)) fun k8 => Option.bind (some (zsI M6 q7 k8 1)) fun M9 => Option.bind (zrf M9 r0 28) fun q10 => Option.bind (zld q10 (zI M9 r0 29)) fun k11 => Option.bind (some (zsI M9 q10 k11 (zI M9 r0 32))) fun M12 => Option.bind (some (zsI M12 r0 29 ((zI M12 r0 29) + 1))) fun M13 => some M13
set_option maxRecDepth 100000 in
set_option maxHeartbeats 4000000 in
theorem x_X12_pushes {κ : KX} {n : Nat} (hC : CX κ cX12_pushes RX12 2 none 0) (hE : zEnd κ n (0, 0)) (hk0 : zRk κ (0, 0)) (r0 : Nat) (x1 : Int32) (M : Mem) (h_r0 : zO n r0 12) : X κ 2 emV n (0, 0) 0 [.ref r0, .int x1] [] M (f_X12_pushes r0 x1 M) := by
  unfold f_X12_pushes
  refine x_aload_n (i := 0) rfl hC (zdk dk_X12_pushes 0 rfl) (q := 1) rfl ?_
  refine x_getR (k := 20) fl_RX12_85 rfl h_r0 hC (zdk dk_X12_pushes 1 rfl) (q := 4) rfl (fun q1 hq1 => ?_)
  refine x_aload_n (i := 0) rfl hC (zdk dk_X12_pushes 2 rfl) (q := 5) rfl ?_
  refine x_getI fl_RX12_101 (by decide) h_r0 hC (zdk dk_X12_pushes 3 rfl) (q := 8) rfl ?_
  refine x_iload_n (i := 1) rfl hC (zdk dk_X12_pushes 4 rfl) (q := 9) rfl ?_
  refine x_iast hq1 hC (zdk dk_X12_pushes 5 rfl) (q := 10) rfl (fun k2 _ => ?_)
  refine x_nmM (fun M3 => ?_)
  refine x_aload_n (i := 0) rfl hC (zdk dk_X12_pushes 6 rfl) (q := 11) rfl ?_
  refine x_getR (k := 20) fl_RX12_88 rfl h_r0 hC (zdk dk_X12_pushes 7 rfl) (q := 14) rfl (fun q4 hq4 => ?_)
  refine x_aload_n (i := 0) rfl hC (zdk dk_X12_pushes 8 rfl) (q := 15) rfl ?_
  refine x_getI fl_RX12_101 (by decide) h_r0 hC (zdk dk_X12_pushes 9 rfl) (q := 18) rfl ?_
  refine x_iconst (i := 0) c_iconst_0 hC (zdk dk_X12_pushes 10 rfl) (q := 19) rfl ?_
  refine x_iast hq4 hC (zdk dk_X12_pushes 11 rfl) (q := 20) rfl (fun k5 _ => ?_)
  refine x_nmM (fun M6 => ?_)
  refine x_aload_n (i := 0) rfl hC (zdk dk_X12_pushes 12 rfl) (q := 21) rfl ?_
  refine x_getR (k := 22) fl_RX12_91 rfl h_r0 hC (zdk dk_X12_pushes 13 rfl) (q := 24) rfl (fun q7 hq7 => ?_)
  refine x_aload_n (i := 0) rfl hC (zdk dk_X12_pushes 14 rfl) (q := 25) rfl ?_
  refine x_getI fl_RX12_101 (by decide) h_r0 hC (zdk dk_X12_pushes 15 rfl) (q := 28) rfl ?_
  refine x_iconst (i := 1) c_iconst_1 hC (zdk dk_X12_pushes 16 rfl) (q := 29) rfl ?_
  refine x_zast (by rfl) hq7 hC (zdk dk_X12_pushes 17 rfl) (q := 30) rfl (fun k8 _ => ?_)
  refine x_nmM (fun M9 => ?_)
  refine x_aload_n (i := 0) rfl hC (zdk dk_X12_pushes 18 rfl) (q := 31) rfl ?_
  refine x_getR (k := 20) fl_RX12_98 rfl h_r0 hC (zdk dk_X12_pushes 19 rfl) (q := 34) rfl (fun q10 hq10 => ?_)
  refine x_aload_n (i := 0) rfl hC (zdk dk_X12_pushes 20 rfl) (q := 35) rfl ?_
  refine x_getI fl_RX12_101 (by decide) h_r0 hC (zdk dk_X12_pushes 21 rfl) (q := 38) rfl ?_
  refine x_aload_n (i := 0) rfl hC (zdk dk_X12_pushes 22 rfl) (q := 39) rfl ?_
  refine x_getI fl_RX12_110 (by decide) h_r0 hC (zdk dk_X12_pushes 23 rfl) (q := 42) rfl ?_
  refine x_iast hq10 hC (zdk dk_X12_pushes 24 rfl) (q := 43) rfl (fun k11 _ => ?_)
  refine x_nmM (fun M12 => ?_)
  refine x_aload_n (i := 0) rfl hC (zdk dk_X12_pushes 25 rfl) (q := 44) rfl ?_
  refine x_dup rfl hC (zdk dk_X12_pushes 26 rfl) (q := 45) rfl ?_
  refine x_getI fl_RX12_101 (by decide) h_r0 hC (zdk dk_X12_pushes 27 rfl) (q := 48) rfl ?_
  refine x_iconst (i := 1) c_iconst_1 hC (zdk dk_X12_pushes 28 rfl) (q := 49) rfl ?_
  refine x_iadd hC (zdk dk_X12_pushes 29 rfl) (q := 50) rfl ?_
  refine x_putI fl_RX12_101 ⟨rfl, rfl⟩ (by decide) (Or.inl rfl) h_r0 hC (zdk dk_X12_pushes 30 rfl) (q := 53) rfl ?_
  refine x_nmM (fun M13 => ?_)
  exact x_vret hE hC (zdk dk_X12_pushes 31 rfl)
set_option maxRecDepth 100000 in
set_option maxHeartbeats 4000000 in
theorem t_X12_pushes {n : Nat} {r0 : Nat} {x1 : Int32} {M : Mem} (h_r0 : zO n r0 12) (x : Mem) (hx : f_X12_pushes r0 x1 M = some x) (l : Launch) (dC : Nat → ClassId) (dI : Nat → Nat → Nat) (b : zSg) : MT l dC dI b yX12_pushes cX12_pushes 2 none 0 0 0 n n [.ref r0, .int x1] M (emV x).1 (emV x).2 :=
  MT.ofX (by decide +kernel) rfl (Nat.le_of_ble_eq_true rfl) (fun κ hC hF _ => x_X12_pushes hC (zEnd_of hF (Nat.le_refl _) (Nat.le_refl _)) (zRk_of hF (Nat.le_refl _) (Nat.le_refl _)) _ _ _ h_r0) x hx
set_option maxRecDepth 100000 in
def dt_X12_opens : List (Nat × Instr × Nat) := [(0, .aload_n 0, 1), (1, .getfield 104, 3), (4, .bipush 7, 2), (6, .if_icmp .ne 12, 3), (9, .aload_n 0, 1), (10, .iconst 5, 1), (11, .aload_n 0, 1), (12, .getfield 23, 3), (15, .invokevirtual 251, 3), (18, .aload_n 0, 1), (19, .getfield 36, 3), (22, .ifCond .le 4, 3), (25, .return_, 1), (26, .aload_n 0, 1), (27, .dup, 1), (28, .getfield 104, 3), (31, .iconst 1, 1), (32, .iadd, 1), (33, .putfield 104, 3), (36, .aload_n 0, 1), (37, .invokevirtual 268, 3), (40, .aload_n 0, 1), (41, .iload_n 1, 1), (42, .invokevirtual 335, 3), (45, .return_, 1)]
set_option maxRecDepth 100000 in
theorem dk_X12_opens : dt_X12_opens.all (fun q => decide (decode cX12_opens q.1 = .ok q.2)) = true := by decide +kernel
set_option maxRecDepth 100000 in
def f_X12_opens_18  (r0 : Nat) (x1 : Int32)  (M : Mem) : Option Mem := (if zI M r0 8 ≤ 0 then Option.bind (some (zsI M r0 30 ((zI M r0 30) + 1))) fun M1 => Option.bind (f_X12_ahead r0 M1) fun M2 => Option.bind (f_X12_pushes r0 x1 M2) fun M3 => some M3 else some M)
set_option maxRecDepth 100000 in
set_option maxHeartbeats 4000000 in
theorem x_X12_opens_18 {κ : KX} {n : Nat} (hC : CX κ cX12_opens RX12 2 none 2) (hE : zEnd κ n (0, 0)) (hk0 : zRk κ (0, 0)) {r0 : Nat} {x1 : Int32} (h_r0 : zO n r0 12) (M : Mem) : X κ 2 emV n (0, 0) 18 [.ref r0, .int x1] [] M (f_X12_opens_18 r0 x1 M) := by
  unfold f_X12_opens_18
  refine x_aload_n (i := 0) rfl hC (zdk dk_X12_opens 9 rfl) (q := 19) rfl ?_
  refine x_getI fl_RX12_36 (by decide) h_r0 hC (zdk dk_X12_opens 10 rfl) (q := 22) rfl ?_
  refine x_if_le (tgt := 26) hC (zdk dk_X12_opens 11 rfl) (q := 25) rfl rfl (fun _ => ?_) (fun _ => ?_)
  · refine x_aload_n (i := 0) rfl hC (zdk dk_X12_opens 13 rfl) (q := 27) rfl ?_
    refine x_dup rfl hC (zdk dk_X12_opens 14 rfl) (q := 28) rfl ?_
    refine x_getI fl_RX12_104 (by decide) h_r0 hC (zdk dk_X12_opens 15 rfl) (q := 31) rfl ?_
    refine x_iconst (i := 1) c_iconst_1 hC (zdk dk_X12_opens 16 rfl) (q := 32) rfl ?_
    refine x_iadd hC (zdk dk_X12_opens 17 rfl) (q := 33) rfl ?_
    refine x_putI fl_RX12_104 ⟨rfl, rfl⟩ (by decide) (Or.inl rfl) h_r0 hC (zdk dk_X12_opens 18 rfl) (q := 36) rfl ?_
    refine x_nmM (fun M1 => ?_)
    refine x_aload_n (i := 0) rfl hC (zdk dk_X12_opens 19 rfl) (q := 37) rfl ?_
    refine x_callVv (as := []) cb_RX12_268 rfl (by decide) hk0 h_r0 (fun x hx => t_X12_ahead h_r0 x hx) hC (zdk dk_X12_opens 20 rfl) (q := 40) rfl rfl (Nat.le_of_ble_eq_true rfl) (fun M2 => ?_)
    refine x_aload_n (i := 0) rfl hC (zdk dk_X12_opens 21 rfl) (q := 41) rfl ?_
    refine x_iload_n (i := 1) rfl hC (zdk dk_X12_opens 22 rfl) (q := 42) rfl ?_
    refine x_callVv (as := [.int x1]) cb_RX12_335 rfl (by decide) hk0 h_r0 (fun x hx => t_X12_pushes h_r0 x hx) hC (zdk dk_X12_opens 23 rfl) (q := 45) rfl rfl (Nat.le_of_ble_eq_true rfl) (fun M3 => ?_)
    exact x_vret hE hC (zdk dk_X12_opens 24 rfl)
  · exact x_vret hE hC (zdk dk_X12_opens 12 rfl)
set_option maxRecDepth 100000 in
def f_X12_opens (r0 : Nat) (x1 : Int32) (M : Mem) : Option Mem := (if zI M r0 30 = 7 then Option.bind (f_X12_blame r0 5 (zI M r0 4) M) fun M4 => f_X12_opens_18 r0 x1 M4 else f_X12_opens_18 r0 x1 M)
set_option maxRecDepth 100000 in
set_option maxHeartbeats 4000000 in
theorem x_X12_opens {κ : KX} {n : Nat} (hC : CX κ cX12_opens RX12 2 none 2) (hE : zEnd κ n (0, 0)) (hk0 : zRk κ (0, 0)) (r0 : Nat) (x1 : Int32) (M : Mem) (h_r0 : zO n r0 12) : X κ 2 emV n (0, 0) 0 [.ref r0, .int x1] [] M (f_X12_opens r0 x1 M) := by
  unfold f_X12_opens
  refine x_aload_n (i := 0) rfl hC (zdk dk_X12_opens 0 rfl) (q := 1) rfl ?_
  refine x_getI fl_RX12_104 (by decide) h_r0 hC (zdk dk_X12_opens 1 rfl) (q := 4) rfl ?_
  refine x_bipush (i := 7) c_bipush_7 hC (zdk dk_X12_opens 2 rfl) (q := 6) rfl ?_
  refine x_icmp_ne (tgt := 18) hC (zdk dk_X12_opens 3 rfl) (q := 9) rfl rfl (fun _ => ?_) (fun _ => ?_)
  · refine x_weak (L' := [.ref r0, .int x1]) ⟨Or.inr rfl, Or.inr rfl, trivial⟩ ?_
    exact x_X12_opens_18 hC hE hk0 h_r0 _
  · refine x_aload_n (i := 0) rfl hC (zdk dk_X12_opens 4 rfl) (q := 10) rfl ?_
    refine x_iconst (i := 5) c_iconst_5 hC (zdk dk_X12_opens 5 rfl) (q := 11) rfl ?_
    refine x_aload_n (i := 0) rfl hC (zdk dk_X12_opens 6 rfl) (q := 12) rfl ?_
    refine x_getI fl_RX12_23 (by decide) h_r0 hC (zdk dk_X12_opens 7 rfl) (q := 15) rfl ?_
    refine x_callVv (as := [.int 5, .int (zI M r0 4)]) cb_RX12_251 rfl (by decide) hk0 h_r0 (fun x hx => t_X12_blame h_r0 x hx) hC (zdk dk_X12_opens 8 rfl) (q := 18) rfl rfl (Nat.le_of_ble_eq_true rfl) (fun M4 => ?_)
    refine x_weak (L' := [.ref r0, .int x1]) ⟨Or.inr rfl, Or.inr rfl, trivial⟩ ?_
    exact x_X12_opens_18 hC hE hk0 h_r0 _
set_option maxRecDepth 100000 in
set_option maxHeartbeats 4000000 in
theorem t_X12_opens {n : Nat} {r0 : Nat} {x1 : Int32} {M : Mem} (h_r0 : zO n r0 12) (x : Mem) (hx : f_X12_opens r0 x1 M = some x) (l : Launch) (dC : Nat → ClassId) (dI : Nat → Nat → Nat) (b : zSg) : MT l dC dI b yX12_opens cX12_opens 2 none 2 0 0 n n [.ref r0, .int x1] M (emV x).1 (emV x).2 :=
  MT.ofX (by decide +kernel) rfl (Nat.le_of_ble_eq_true rfl) (fun κ hC hF _ => x_X12_opens hC (zEnd_of hF (Nat.le_refl _) (Nat.le_refl _)) (zRk_of hF (Nat.le_refl _) (Nat.le_refl _)) _ _ _ h_r0) x hx
set_option maxRecDepth 100000 in
def dt_X12_isTest : List (Nat × Instr × Nat) := [(0, .iload_n 0, 1), (1, .iconst 1, 1), (2, .if_icmp .eq 14, 3), (5, .iload_n 0, 1), (6, .iconst 5, 1), (7, .if_icmp .eq 9, 3), (10, .iload_n 0, 1), (11, .bipush 6, 2), (13, .if_icmp .ne 7, 3), (16, .iconst 1, 1), (17, .goto 4, 3), (20, .iconst 0, 1), (21, .ireturn, 1)]
set_option maxRecDepth 100000 in
theorem dk_X12_isTest : dt_X12_isTest.all (fun q => decide (decode cX12_isTest q.1 = .ok q.2)) = true := by decide +kernel
set_option maxRecDepth 100000 in
def f_X12_isTest_21  (x0 : Int32) (s0 : Int32) (M : Mem) : Option (Int32 × Mem) := zbz s0 (some (s0, M))
set_option maxRecDepth 100000 in
set_option maxHeartbeats 4000000 in
theorem x_X12_isTest_21 {κ : KX} {n : Nat} (hC : CX κ cX12_isTest RX12 1 (some .boolean) 0) (hE : zEnd κ n (0, 0)) (hk0 : zRk κ (0, 0)) {x0 : Int32} (s0 : Int32) (M : Mem) : X κ 1 emI n (0, 0) 21 [.null] [.int s0] M (f_X12_isTest_21 x0 s0 M) := by
  unfold f_X12_isTest_21
  refine x_bz (fun hb1 => ?_)
  exact x_iret (ty := .boolean) hb1.1 hE hC (zdk dk_X12_isTest 12 rfl)
set_option maxRecDepth 100000 in
def f_X12_isTest_16  (x0 : Int32)  (M : Mem) : Option (Int32 × Mem) := f_X12_isTest_21 x0 1 M
set_option maxRecDepth 100000 in
set_option maxHeartbeats 4000000 in
theorem x_X12_isTest_16 {κ : KX} {n : Nat} (hC : CX κ cX12_isTest RX12 1 (some .boolean) 0) (hE : zEnd κ n (0, 0)) (hk0 : zRk κ (0, 0)) {x0 : Int32} (M : Mem) : X κ 1 emI n (0, 0) 16 [.null] [] M (f_X12_isTest_16 x0 M) := by
  unfold f_X12_isTest_16
  refine x_iconst (i := 1) c_iconst_1 hC (zdk dk_X12_isTest 9 rfl) (q := 17) rfl ?_
  refine x_goto (tgt := 21) hC (zdk dk_X12_isTest 10 rfl) rfl ?_
  refine x_weak (L' := [.null]) ⟨Or.inl rfl, trivial⟩ ?_
  exact x_X12_isTest_21 hC hE hk0 _ _
set_option maxRecDepth 100000 in
def f_X12_isTest (x0 : Int32) (M : Mem) : Option (Int32 × Mem) := (if x0 = 1 then f_X12_isTest_16 x0 M else (if x0 = 5 then f_X12_isTest_16 x0 M else (if x0 = 6 then f_X12_isTest_16 x0 M else f_X12_isTest_21 x0 0 M)))
set_option maxRecDepth 100000 in
set_option maxHeartbeats 4000000 in
theorem x_X12_isTest {κ : KX} {n : Nat} (hC : CX κ cX12_isTest RX12 1 (some .boolean) 0) (hE : zEnd κ n (0, 0)) (hk0 : zRk κ (0, 0)) (x0 : Int32) (M : Mem) : X κ 1 emI n (0, 0) 0 [.int x0] [] M (f_X12_isTest x0 M) := by
  unfold f_X12_isTest
  refine x_iload_n (i := 0) rfl hC (zdk dk_X12_isTest 0 rfl) (q := 1) rfl ?_
  refine x_iconst (i := 1) c_iconst_1 hC (zdk dk_X12_isTest 1 rfl) (q := 2) rfl ?_
  refine x_icmp_eq (tgt := 16) hC (zdk dk_X12_isTest 2 rfl) (q := 5) rfl rfl (fun _ => ?_) (fun _ => ?_)
  · refine x_weak (L' := [.null]) ⟨Or.inl rfl, trivial⟩ ?_
    exact x_X12_isTest_16 hC hE hk0 _
  · refine x_iload_n (i := 0) rfl hC (zdk dk_X12_isTest 3 rfl) (q := 6) rfl ?_
    refine x_iconst (i := 5) c_iconst_5 hC (zdk dk_X12_isTest 4 rfl) (q := 7) rfl ?_
    refine x_icmp_eq (tgt := 16) hC (zdk dk_X12_isTest 5 rfl) (q := 10) rfl rfl (fun _ => ?_) (fun _ => ?_)
    · refine x_weak (L' := [.null]) ⟨Or.inl rfl, trivial⟩ ?_
      exact x_X12_isTest_16 hC hE hk0 _
    · refine x_iload_n (i := 0) rfl hC (zdk dk_X12_isTest 6 rfl) (q := 11) rfl ?_
      refine x_bipush (i := 6) c_bipush_6 hC (zdk dk_X12_isTest 7 rfl) (q := 13) rfl ?_
      refine x_icmp_ne (tgt := 20) hC (zdk dk_X12_isTest 8 rfl) (q := 16) rfl rfl (fun _ => ?_) (fun _ => ?_)
      · refine x_iconst (i := 0) c_iconst_0 hC (zdk dk_X12_isTest 11 rfl) (q := 21) rfl ?_
        refine x_weak (L' := [.null]) ⟨Or.inl rfl, trivial⟩ ?_
        exact x_X12_isTest_21 hC hE hk0 _ _
      · refine x_weak (L' := [.null]) ⟨Or.inl rfl, trivial⟩ ?_
        exact x_X12_isTest_16 hC hE hk0 _
set_option maxRecDepth 100000 in
set_option maxHeartbeats 4000000 in
theorem t_X12_isTest {n : Nat} {x0 : Int32} {M : Mem}  (x : (Int32 × Mem)) (hx : f_X12_isTest x0 M = some x) (l : Launch) (dC : Nat → ClassId) (dI : Nat → Nat → Nat) (b : zSg) : MT l dC dI b yX12_isTest cX12_isTest 1 (some .boolean) 0 0 0 n n [.int x0] M (emI x).1 (emI x).2 :=
  MT.ofX (by decide +kernel) rfl (Nat.le_of_ble_eq_true rfl) (fun κ hC hF _ => x_X12_isTest hC (zEnd_of hF (Nat.le_refl _) (Nat.le_refl _)) (zRk_of hF (Nat.le_refl _) (Nat.le_refl _)) _ _ ) x hx
