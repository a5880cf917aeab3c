set_option maxRecDepth 100000 in
def dt_X12_operand : List (Nat × Instr × Nat) := [(0, .aload_n 0, 1), (1, .invokevirtual 262, 3), (4, .aload_n 0, 1), (5, .getfield 36, 3), (8, .ifCond .le 5, 3), (11, .iconst 1, 1), (12, .ireturn, 1), (13, .aload_n 0, 1), (14, .getfield 101, 3), (17, .iconst 1, 1), (18, .isub, 1), (19, .istore_n 1, 1), (20, .aload_n 0, 1), (21, .getfield 85, 3), (24, .iload_n 1, 1), (25, .iaload, 1), (26, .invokestatic 338, 3), (29, .ifCond .eq 16, 3), (32, .aload_n 0, 1), (33, .getfield 91, 3), (36, .iload_n 1, 1), (37, .baload, 1), (38, .ifCond .eq 7, 3), (41, .iconst 1, 1), (42, .goto 4, 3), (45, .iconst 0, 1), (46, .istore_n 2, 1), (47, .iload_n 2, 1), (48, .ifCond .eq 62, 3), (51, .aload_n 0, 1), (52, .ldc2_w 317, 3), (55, .invokevirtual 341, 3), (58, .ifCond .eq 52, 3), (61, .aload_n 0, 1), (62, .getfield 104, 3), (65, .bipush 7, 2), (67, .if_icmp .ne 12, 3), (70, .aload_n 0, 1), (71, .iconst 5, 1), (72, .aload_n 0, 1), (73, .getfield 23, 3), (76, .invokevirtual 251, 3), (79, .aload_n 0, 1), (80, .getfield 36, 3), (83, .ifCond .le 5, 3), (86, .iconst 1, 1), (87, .ireturn, 1), (88, .aload_n 0, 1), (89, .dup, 1), (90, .getfield 104, 3), (93, .iconst 1, 1), (94, .iadd, 1), (95, .putfield 104, 3), (98, .aload_n 0, 1), (99, .bipush 43, 2), (101, .invokevirtual 345, 3), (104, .aload_n 0, 1), (105, .invokevirtual 268, 3), (108, .iconst 0, 1), (109, .ireturn, 1), (110, .aload_n 0, 1), (111, .getfield 91, 3), (114, .iload_n 1, 1), (115, .iconst 0, 1), (116, .bastore, 1), (117, .iload_n 2, 1), (118, .ifCond .eq 19, 3), (121, .aload_n 0, 1), (122, .bipush 91, 2), (124, .invokevirtual 265, 3), (127, .ifCond .eq 10, 3), (130, .aload_n 0, 1), (131, .iconst 5, 1), (132, .invokevirtual 348, 3), (135, .iconst 0, 1), (136, .ireturn, 1), (137, .iload_n 2, 1), (138, .ifCond .eq 33, 3), (141, .aload_n 0, 1), (142, .ldc2_w 319, 3), (145, .invokevirtual 341, 3), (148, .ifCond .eq 23, 3), (151, .aload_n 0, 1), (152, .bipush 30, 2), (154, .iconst 0, 1), (155, .invokevirtual 332, 3), (158, .aload_n 0, 1), (159, .getfield 88, 3), (162, .iload_n 1, 1), (163, .iconst 2, 1), (164, .iastore, 1), (165, .aload_n 0, 1), (166, .invokevirtual 268, 3), (169, .iconst 1, 1), (170, .ireturn, 1), (171, .aload_n 0, 1), (172, .bipush 40, 2), (174, .invokevirtual 265, 3), (177, .ifCond .eq 10, 3), (180, .aload_n 0, 1), (181, .iconst 2, 1), (182, .invokevirtual 348, 3), (185, .iconst 0, 1), (186, .ireturn, 1), (187, .aload_n 0, 1), (188, .ldc2_w 321, 3), (191, .invokevirtual 341, 3), (194, .ifCond .ne 23, 3), (197, .aload_n 0, 1), (198, .ldc2_w 323, 3), (201, .invokevirtual 341, 3), (204, .ifCond .ne 13, 3), (207, .aload_n 0, 1), (208, .ldc2_w 311, 3), (211, .invokevirtual 341, 3), (214, .ifCond .eq 99, 3), (217, .aload_n 0, 1), (218, .ldc2_w 321, 3), (221, .invokevirtual 341, 3), (224, .ifCond .eq 8, 3), (227, .bipush 36, 2), (229, .goto 20, 3), (232, .aload_n 0, 1), (233, .ldc2_w 323, 3), (236, .invokevirtual 341, 3), (239, .ifCond .eq 8, 3), (242, .bipush 37, 2), (244, .goto 5, 3), (247, .bipush 44, 2), (249, .istore_n 3, 1), (250, .aload_n 0, 1), (251, .invokevirtual 268, 3), (254, .aload_n 0, 1), (255, .invokevirtual 262, 3), (258, .aload_n 0, 1), (259, .bipush 40, 2), (261, .invokevirtual 265, 3), (264, .ifCond .ne 12, 3), (267, .aload_n 0, 1), (268, .iconst 1, 1), (269, .aload_n 0, 1), (270, .getfield 23, 3), (273, .invokevirtual 251, 3), (276, .aload_n 0, 1), (277, .iload_n 3, 1), (278, .bipush 44, 2), (280, .if_icmp .ne 8, 3), (283, .bipush 6, 2), (285, .goto 4, 3), (288, .iconst 3, 1), (289, .invokevirtual 348, 3), (292, .aload_n 0, 1), (293, .getfield 36, 3), (296, .ifCond .ne 15, 3), (299, .aload_n 0, 1), (300, .getfield 95, 3), (303, .aload_n 0, 1), (304, .getfield 101, 3), (307, .iconst 1, 1), (308, .isub, 1), (309, .iload_n 3, 1), (310, .iastore, 1), (311, .iconst 0, 1), (312, .ireturn, 1), (313, .aload_n 0, 1), (314, .getfield 20, 3), (317, .iconst 2, 1), (318, .if_icmp .ne 7, 3), (321, .iconst 0, 1), (322, .goto 134, 3), (325, .aload_n 0, 1), (326, .ldc2_w 295, 3), (329, .invokevirtual 341, 3), (332, .ifCond .eq 7, 3), (335, .iconst 1, 1), (336, .goto 120, 3), (339, .aload_n 0, 1), (340, .ldc2_w 279, 3), (343, .invokevirtual 341, 3), (346, .ifCond .eq 7, 3), (349, .iconst 2, 1), (350, .goto 106, 3), (353, .aload_n 0, 1), (354, .ldc2_w 297, 3), (357, .invokevirtual 341, 3), (360, .ifCond .eq 7, 3), (363, .iconst 3, 1), (364, .goto 92, 3), (367, .aload_n 0, 1), (368, .ldc2_w 299, 3), (371, .invokevirtual 341, 3), (374, .ifCond .eq 7, 3), (377, .iconst 4, 1), (378, .goto 78, 3), (381, .aload_n 0, 1), (382, .ldc2_w 301, 3), (385, .invokevirtual 341, 3), (388, .ifCond .eq 7, 3), (391, .iconst 5, 1), (392, .goto 64, 3), (395, .aload_n 0, 1), (396, .ldc2_w 303, 3), (399, .invokevirtual 341, 3), (402, .ifCond .eq 8, 3), (405, .bipush 6, 2), (407, .goto 49, 3), (410, .aload_n 0, 1), (411, .ldc2_w 305, 3), (414, .invokevirtual 341, 3), (417, .ifCond .eq 8, 3), (420, .bipush 7, 2), (422, .goto 34, 3), (425, .aload_n 0, 1), (426, .ldc2_w 307, 3), (429, .invokevirtual 341, 3), (432, .ifCond .eq 8, 3), (435, .bipush 8, 2), (437, .goto 19, 3), (440, .aload_n 0, 1), (441, .ldc2_w 309, 3), (444, .invokevirtual 341, 3), (447, .ifCond .eq 8, 3), (450, .bipush 9, 2), (452, .goto 4, 3), (455, .iconst (-1), 1), (456, .istore_n 3, 1), (457, .iload_n 3, 1), (458, .iconst 1, 1), (459, .if_icmp .lt 32, 3), (462, .iload_n 3, 1), (463, .bipush 7, 2), (465, .if_icmp .lt 7, 3), (468, .iconst 1, 1), (469, .goto 4, 3), (472, .iconst 0, 1), (473, .aload_n 0, 1), (474, .getfield 82, 3), (477, .iconst 1, 1), (478, .if_icmp .ne 7, 3), (481, .iconst 1, 1), (482, .goto 4, 3), (485, .iconst 0, 1), (486, .if_icmp .eq 5, 3), (489, .iconst (-1), 1), (490, .istore_n 3, 1), (491, .iload_n 3, 1), (492, .iconst (-1), 1), (493, .if_icmp .ne 12, 3), (496, .aload_n 0, 1), (497, .iconst 1, 1), (498, .aload_n 0, 1), (499, .getfield 23, 3), (502, .invokevirtual 251, 3), (505, .aload_n 0, 1), (506, .getfield 36, 3), (509, .ifCond .le 5, 3), (512, .iconst 1, 1), (513, .ireturn, 1), (514, .aload_n 0, 1), (515, .iload_n 3, 1), (516, .aload_n 0, 1), (517, .getfield 29, 3), (520, .invokevirtual 332, 3), (523, .aload_n 0, 1), (524, .invokevirtual 268, 3), (527, .iconst 1, 1), (528, .ireturn, 1)]
set_option maxRecDepth 100000 in
theorem dk_X12_operand : dt_X12_operand.all (fun q => decide (decode cX12_operand q.1 = .ok q.2)) = true := by decide +kernel
set_option maxRecDepth 100000 in
def f_X12_operand_79  (r0 : Nat)  (M : Mem) : Option (Int32 × Mem) := (if zI M r0 8 ≤ 0 then Option.bind (some (zsI M r0 30 ((zI M r0 30) + 1))) fun M1 => Option.bind (f_X12_holdsBack r0 43 M1) fun M2 => Option.bind (f_X12_ahead r0 M2) fun M3 => some (0, M3) else some (1, M))
set_option maxRecDepth 100000 in
set_option maxHeartbeats 4000000 in
theorem x_X12_operand_79 {κ : KX} {n : Nat} (hC : CX κ cX12_operand RX12 4 (some .boolean) 3) (hE : zEnd κ n (0, 0)) (hk0 : zRk κ (0, 0)) {r0 : Nat} (h_r0 : zO n r0 12) (M : Mem) : X κ 4 emI n (0, 0) 79 [.ref r0, .null, .null, .null] [] M (f_X12_operand_79 r0 M) := by
  unfold f_X12_operand_79
  refine x_aload_n (i := 0) rfl hC (zdk dk_X12_operand 42 rfl) (q := 80) rfl ?_
  refine x_getI fl_RX12_36 (by decide) h_r0 hC (zdk dk_X12_operand 43 rfl) (q := 83) rfl ?_
  refine x_if_le (tgt := 88) hC (zdk dk_X12_operand 44 rfl) (q := 86) rfl rfl (fun _ => ?_) (fun _ => ?_)
  · refine x_aload_n (i := 0) rfl hC (zdk dk_X12_operand 47 rfl) (q := 89) rfl ?_
    refine x_dup rfl hC (zdk dk_X12_operand 48 rfl) (q := 90) rfl ?_
    refine x_getI fl_RX12_104 (by decide) h_r0 hC (zdk dk_X12_operand 49 rfl) (q := 93) rfl ?_
    refine x_iconst (i := 1) c_iconst_1 hC (zdk dk_X12_operand 50 rfl) (q := 94) rfl ?_
    refine x_iadd hC (zdk dk_X12_operand 51 rfl) (q := 95) rfl ?_
    refine x_putI fl_RX12_104 ⟨rfl, rfl⟩ (by decide) (Or.inl rfl) h_r0 hC (zdk dk_X12_operand 52 rfl) (q := 98) rfl ?_
    refine x_nmM (fun M1 => ?_)
    refine x_aload_n (i := 0) rfl hC (zdk dk_X12_operand 53 rfl) (q := 99) rfl ?_
    refine x_bipush (i := 43) c_bipush_43 hC (zdk dk_X12_operand 54 rfl) (q := 101) rfl ?_
    refine x_callVv (as := [.int 43]) cb_RX12_345 rfl (by decide) hk0 h_r0 (fun x hx => t_X12_holdsBack h_r0 x hx) hC (zdk dk_X12_operand 55 rfl) (q := 104) rfl rfl (Nat.le_of_ble_eq_true rfl) (fun M2 => ?_)
    refine x_aload_n (i := 0) rfl hC (zdk dk_X12_operand 56 rfl) (q := 105) rfl ?_
    refine x_callVv (as := []) cb_RX12_268 rfl (by decide) hk0 h_r0 (fun x hx => t_X12_ahead h_r0 x hx) hC (zdk dk_X12_operand 57 rfl) (q := 108) rfl rfl (Nat.le_of_ble_eq_true rfl) (fun M3 => ?_)
    refine x_iconst (i := 0) c_iconst_0 hC (zdk dk_X12_operand 58 rfl) (q := 109) rfl ?_
    exact x_iret (ty := .boolean) rfl hE hC (zdk dk_X12_operand 59 rfl)
  · refine x_iconst (i := 1) c_iconst_1 hC (zdk dk_X12_operand 45 rfl) (q := 87) rfl ?_
    exact x_iret (ty := .boolean) rfl hE hC (zdk dk_X12_operand 46 rfl)
set_option maxRecDepth 100000 in
def f_X12_operand_311  (r0 : Nat)  (M : Mem) : Option (Int32 × Mem) := some (0, M)
set_option maxRecDepth 100000 in
set_option maxHeartbeats 4000000 in
theorem x_X12_operand_311 {κ : KX} {n : Nat} (hC : CX κ cX12_operand RX12 4 (some .boolean) 3) (hE : zEnd κ n (0, 0)) (hk0 : zRk κ (0, 0)) {r0 : Nat} (h_r0 : zO n r0 12) (M : Mem) : X κ 4 emI n (0, 0) 311 [.null, .null, .null, .null] [] M (f_X12_operand_311 r0 M) := by
  unfold f_X12_operand_311
  refine x_iconst (i := 0) c_iconst_0 hC (zdk dk_X12_operand 162 rfl) (q := 312) rfl ?_
  exact x_iret (ty := .boolean) rfl hE hC (zdk dk_X12_operand 163 rfl)
set_option maxRecDepth 100000 in
def f_X12_operand_289  (r0 : Nat) (x3 : Int32) (s0 : Nat) (s1 : Int32) (M : Mem) : Option (Int32 × Mem) := Option.bind (f_X12_opens s0 s1 M) fun M4 => (if zI M4 r0 8 = 0 then Option.bind (zrf M4 r0 27) fun q5 => Option.bind (zld q5 ((zI M4 r0 29) - 1)) fun k6 => Option.bind (some (zsI M4 q5 k6 x3)) fun M7 => f_X12_operand_311 r0 M7 else f_X12_operand_311 r0 M4)
set_option maxRecDepth 100000 in
set_option maxHeartbeats 4000000 in
theorem x_X12_operand_289 {κ : KX} {n : Nat} (hC : CX κ cX12_operand RX12 4 (some .boolean) 3) (hE : zEnd κ n (0, 0)) (hk0 : zRk κ (0, 0)) {r0 : Nat} (h_r0 : zO n r0 12) (x3 : Int32) (s0 : Nat) (s1 : Int32) (M : Mem) (h_s0 : zO n s0 12) : X κ 4 emI n (0, 0) 289 [.ref r0, .null, .null, .int x3] [.int s1, .ref s0] M (f_X12_operand_289 r0 x3 s0 s1 M) := by
  unfold f_X12_operand_289
  refine x_callVv (as := [.int s1]) cb_RX12_348 rfl (by decide) hk0 h_s0 (fun x hx => t_X12_opens h_s0 x hx) hC (zdk dk_X12_operand 150 rfl) (q := 292) rfl rfl (Nat.le_of_ble_eq_true rfl) (fun M4 => ?_)
  refine x_aload_n (i := 0) rfl hC (zdk dk_X12_operand 151 rfl) (q := 293) rfl ?_
  refine x_getI fl_RX12_36 (by decide) h_r0 hC (zdk dk_X12_operand 152 rfl) (q := 296) rfl ?_
  refine x_if_ne (tgt := 311) hC (zdk dk_X12_operand 153 rfl) (q := 299) rfl rfl (fun _ => ?_) (fun _ => ?_)
  · refine x_weak (L' := [.null, .null, .null, .null]) ⟨Or.inl rfl, Or.inl rfl, Or.inl rfl, Or.inl rfl, trivial⟩ ?_
    exact x_X12_operand_311 hC hE hk0 h_r0 _
  · refine x_aload_n (i := 0) rfl hC (zdk dk_X12_operand 154 rfl) (q := 300) rfl ?_
    refine x_getR (k := 20) fl_RX12_95 rfl h_r0 hC (zdk dk_X12_operand 155 rfl) (q := 303) rfl (fun q5 hq5 => ?_)
    refine x_aload_n (i := 0) rfl hC (zdk dk_X12_operand 156 rfl) (q := 304) rfl ?_
    refine x_getI fl_RX12_101 (by decide) h_r0 hC (zdk dk_X12_operand 157 rfl) (q := 307) rfl ?_
    refine x_iconst (i := 1) c_iconst_1 hC (zdk dk_X12_operand 158 rfl) (q := 308) rfl ?_
    refine x_isub hC (zdk dk_X12_operand 159 rfl) (q := 309) rfl ?_
    refine x_iload_n (i := 3) rfl hC (zdk dk_X12_operand 160 rfl) (q := 310) rfl ?_
    refine x_iast hq5 hC (zdk dk_X12_operand 161 rfl) (q := 311) rfl (fun k6 _ => ?_)
    refine x_nmM (fun M7 => ?_)
    refine x_weak (L' := [.null, .null, .null, .null]) ⟨Or.inl rfl, Or.inl rfl, Or.inl rfl, Or.inl rfl, trivial⟩ ?_
    exact x_X12_operand_311 hC hE hk0 h_r0 _
set_option maxRecDepth 100000 in
def f_X12_operand_276  (r0 : Nat) (x3 : Int32) (M : Mem) : Option (Int32 × Mem) := (if x3 = 44 then f_X12_operand_289 r0 x3 r0 6 M else f_X12_operand_289 r0 x3 r0 3 M)
set_option maxRecDepth 100000 in
set_option maxHeartbeats 4000000 in
theorem x_X12_operand_276 {κ : KX} {n : Nat} (hC : CX κ cX12_operand RX12 4 (some .boolean) 3) (hE : zEnd κ n (0, 0)) (hk0 : zRk κ (0, 0)) {r0 : Nat} (h_r0 : zO n r0 12) (x3 : Int32) (M : Mem) : X κ 4 emI n (0, 0) 276 [.ref r0, .null, .null, .int x3] [] M (f_X12_operand_276 r0 x3 M) := by
  unfold f_X12_operand_276
  refine x_aload_n (i := 0) rfl hC (zdk dk_X12_operand 143 rfl) (q := 277) rfl ?_
  refine x_iload_n (i := 3) rfl hC (zdk dk_X12_operand 144 rfl) (q := 278) rfl ?_
  refine x_bipush (i := 44) c_bipush_44 hC (zdk dk_X12_operand 145 rfl) (q := 280) rfl ?_
  refine x_icmp_ne (tgt := 288) hC (zdk dk_X12_operand 146 rfl) (q := 283) rfl rfl (fun _ => ?_) (fun _ => ?_)
  · refine x_iconst (i := 3) c_iconst_3 hC (zdk dk_X12_operand 149 rfl) (q := 289) rfl ?_
    refine x_weak (L' := [.ref r0, .null, .null, .int x3]) ⟨Or.inr rfl, Or.inl rfl, Or.inl rfl, Or.inr rfl, trivial⟩ ?_
    exact x_X12_operand_289 hC hE hk0 h_r0 _ _ _ _ h_r0
  · refine x_bipush (i := 6) c_bipush_6 hC (zdk dk_X12_operand 147 rfl) (q := 285) rfl ?_
    refine x_goto (tgt := 289) hC (zdk dk_X12_operand 148 rfl) rfl ?_
    refine x_weak (L' := [.ref r0, .null, .null, .int x3]) ⟨Or.inr rfl, Or.inl rfl, Or.inl rfl, Or.inr rfl, trivial⟩ ?_
    exact x_X12_operand_289 hC hE hk0 h_r0 _ _ _ _ h_r0
set_option maxRecDepth 100000 in
def f_X12_operand_249  (r0 : Nat) (s0 : Int32) (M : Mem) : Option (Int32 × Mem) := Option.bind (f_X12_ahead r0 M) fun M8 => Option.bind (f_X12_lex r0 M8) fun M9 => Option.bind (f_X12_isSign r0 40 M9) fun z10 => (if z10.1 = 0 then Option.bind (f_X12_blame r0 1 (zI z10.2 r0 4) z10.2) fun M11 => f_X12_operand_276 r0 s0 M11 else f_X12_operand_276 r0 s0 z10.2)
set_option maxRecDepth 100000 in
set_option maxHeartbeats 4000000 in
theorem x_X12_operand_249 {κ : KX} {n : Nat} (hC : CX κ cX12_operand RX12 4 (some .boolean) 3) (hE : zEnd κ n (0, 0)) (hk0 : zRk κ (0, 0)) {r0 : Nat} (h_r0 : zO n r0 12) (s0 : Int32) (M : Mem) : X κ 4 emI n (0, 0) 249 [.ref r0, .null, .null, .null] [.int s0] M (f_X12_operand_249 r0 s0 M) := by
  unfold f_X12_operand_249
  refine x_istore_n (i := 3) (L' := [.ref r0, .null, .null, .int s0]) (by decide) rfl hC (zdk dk_X12_operand 129 rfl) (q := 250) rfl ?_
  refine x_aload_n (i := 0) rfl hC (zdk dk_X12_operand 130 rfl) (q := 251) rfl ?_
  refine x_callVv (as := []) cb_RX12_268 rfl (by decide) hk0 h_r0 (fun x hx => t_X12_ahead h_r0 x hx) hC (zdk dk_X12_operand 131 rfl) (q := 254) rfl rfl (Nat.le_of_ble_eq_true rfl) (fun M8 => ?_)
  refine x_aload_n (i := 0) rfl hC (zdk dk_X12_operand 132 rfl) (q := 255) rfl ?_
  refine x_callVv (as := []) cb_RX12_262 rfl (by decide) hk0 h_r0 (fun x hx => t_X12_lex h_r0 x hx) hC (zdk dk_X12_operand 133 rfl) (q := 258) rfl rfl (Nat.le_of_ble_eq_true rfl) (fun M9 => ?_)
  refine x_aload_n (i := 0) rfl hC (zdk dk_X12_operand 134 rfl) (q := 259) rfl ?_
  refine x_bipush (i := 40) c_bipush_40 hC (zdk dk_X12_operand 135 rfl) (q := 261) rfl ?_
  refine x_callVi (as := [.int 40]) cb_RX12_265 rfl (by decide) hk0 h_r0 (fun x hx => t_X12_isSign h_r0 x hx) hC (zdk dk_X12_operand 136 rfl) (q := 264) rfl rfl (Nat.le_of_ble_eq_true rfl) (fun z10 => ?_)
  refine x_if_ne (tgt := 276) hC (zdk dk_X12_operand 137 rfl) (q := 267) rfl rfl (fun _ => ?_) (fun _ => ?_)
  · refine x_weak (L' := [.ref r0, .null, .null, .int s0]) ⟨Or.inr rfl, Or.inl rfl, Or.inl rfl, Or.inr rfl, trivial⟩ ?_
    exact x_X12_operand_276 hC hE hk0 h_r0 _ _
  · refine x_aload_n (i := 0) rfl hC (zdk dk_X12_operand 138 rfl) (q := 268) rfl ?_
    refine x_iconst (i := 1) c_iconst_1 hC (zdk dk_X12_operand 139 rfl) (q := 269) rfl ?_
    refine x_aload_n (i := 0) rfl hC (zdk dk_X12_operand 140 rfl) (q := 270) rfl ?_
    refine x_getI fl_RX12_23 (by decide) h_r0 hC (zdk dk_X12_operand 141 rfl) (q := 273) rfl ?_
    refine x_callVv (as := [.int 1, .int (zI z10.2 r0 4)]) cb_RX12_251 rfl (by decide) hk0 h_r0 (fun x hx => t_X12_blame h_r0 x hx) hC (zdk dk_X12_operand 142 rfl) (q := 276) rfl rfl (Nat.le_of_ble_eq_true rfl) (fun M11 => ?_)
    refine x_weak (L' := [.ref r0, .null, .null, .int s0]) ⟨Or.inr rfl, Or.inl rfl, Or.inl rfl, Or.inr rfl, trivial⟩ ?_
    exact x_X12_operand_276 hC hE hk0 h_r0 _ _
set_option maxRecDepth 100000 in
def f_X12_operand_217  (r0 : Nat)  (M : Mem) : Option (Int32 × Mem) := Option.bind (f_X12_isWord r0 7170414 M) fun z12 => (if z12.1 = 0 then Option.bind (f_X12_isWord r0 7168376 z12.2) fun z13 => (if z13.1 = 0 then f_X12_operand_249 r0 44 z13.2 else f_X12_operand_249 r0 37 z13.2) else f_X12_operand_249 r0 36 z12.2)
set_option maxRecDepth 100000 in
set_option maxHeartbeats 4000000 in
theorem x_X12_operand_217 {κ : KX} {n : Nat} (hC : CX κ cX12_operand RX12 4 (some .boolean) 3) (hE : zEnd κ n (0, 0)) (hk0 : zRk κ (0, 0)) {r0 : Nat} (h_r0 : zO n r0 12) (M : Mem) : X κ 4 emI n (0, 0) 217 [.ref r0, .null, .null, .null] [] M (f_X12_operand_217 r0 M) := by
  unfold f_X12_operand_217
  refine x_aload_n (i := 0) rfl hC (zdk dk_X12_operand 116 rfl) (q := 218) rfl ?_
  refine x_ldc2 k_RX12_321 hC (zdk dk_X12_operand 117 rfl) (q := 221) rfl ?_
  refine x_callVi (as := [.long 7170414]) cb_RX12_341 rfl (by decide) hk0 h_r0 (fun x hx => t_X12_isWord h_r0 x hx) hC (zdk dk_X12_operand 118 rfl) (q := 224) rfl rfl (Nat.le_of_ble_eq_true rfl) (fun z12 => ?_)
  refine x_if_eq (tgt := 232) hC (zdk dk_X12_operand 119 rfl) (q := 227) rfl rfl (fun _ => ?_) (fun _ => ?_)
  · refine x_aload_n (i := 0) rfl hC (zdk dk_X12_operand 122 rfl) (q := 233) rfl ?_
    refine x_ldc2 k_RX12_323 hC (zdk dk_X12_operand 123 rfl) (q := 236) rfl ?_
    refine x_callVi (as := [.long 7168376]) cb_RX12_341 rfl (by decide) hk0 h_r0 (fun x hx => t_X12_isWord h_r0 x hx) hC (zdk dk_X12_operand 124 rfl) (q := 239) rfl rfl (Nat.le_of_ble_eq_true rfl) (fun z13 => ?_)
    refine x_if_eq (tgt := 247) hC (zdk dk_X12_operand 125 rfl) (q := 242) rfl rfl (fun _ => ?_) (fun _ => ?_)
    · refine x_bipush (i := 44) c_bipush_44 hC (zdk dk_X12_operand 128 rfl) (q := 249) rfl ?_
      refine x_weak (L' := [.ref r0, .null, .null, .null]) ⟨Or.inr rfl, Or.inl rfl, Or.inl rfl, Or.inl rfl, trivial⟩ ?_
      exact x_X12_operand_249 hC hE hk0 h_r0 _ _
    · refine x_bipush (i := 37) c_bipush_37 hC (zdk dk_X12_operand 126 rfl) (q := 244) rfl ?_
      refine x_goto (tgt := 249) hC (zdk dk_X12_operand 127 rfl) rfl ?_
      refine x_weak (L' := [.ref r0, .null, .null, .null]) ⟨Or.inr rfl, Or.inl rfl, Or.inl rfl, Or.inl rfl, trivial⟩ ?_
      exact x_X12_operand_249 hC hE hk0 h_r0 _ _
  · refine x_bipush (i := 36) c_bipush_36 hC (zdk dk_X12_operand 120 rfl) (q := 229) rfl ?_
    refine x_goto (tgt := 249) hC (zdk dk_X12_operand 121 rfl) rfl ?_
    refine x_weak (L' := [.ref r0, .null, .null, .null]) ⟨Or.inr rfl, Or.inl rfl, Or.inl rfl, Or.inl rfl, trivial⟩ ?_
    exact x_X12_operand_249 hC hE hk0 h_r0 _ _
set_option maxRecDepth 100000 in
def f_X12_operand_505  (r0 : Nat) (x3 : Int32) (M : Mem) : Option (Int32 × Mem) := (if zI M r0 8 ≤ 0 then Option.bind (f_X12_add r0 x3 (zI M r0 6) M) fun M14 => Option.bind (f_X12_ahead r0 M14) fun M15 => some (1, M15) else some (1, M))
set_option maxRecDepth 100000 in
set_option maxHeartbeats 4000000 in
theorem x_X12_operand_505 {κ : KX} {n : Nat} (hC : CX κ cX12_operand RX12 4 (some .boolean) 3) (hE : zEnd κ n (0, 0)) (hk0 : zRk κ (0, 0)) {r0 : Nat} (h_r0 : zO n r0 12) (x3 : Int32) (M : Mem) : X κ 4 emI n (0, 0) 505 [.ref r0, .null, .null, .int x3] [] M (f_X12_operand_505 r0 x3 M) := by
  unfold f_X12_operand_505
  refine x_aload_n (i := 0) rfl hC (zdk dk_X12_operand 253 rfl) (q := 506) rfl ?_
  refine x_getI fl_RX12_36 (by decide) h_r0 hC (zdk dk_X12_operand 254 rfl) (q := 509) rfl ?_
  refine x_if_le (tgt := 514) hC (zdk dk_X12_operand 255 rfl) (q := 512) rfl rfl (fun _ => ?_) (fun _ => ?_)
  · refine x_aload_n (i := 0) rfl hC (zdk dk_X12_operand 258 rfl) (q := 515) rfl ?_
    refine x_iload_n (i := 3) rfl hC (zdk dk_X12_operand 259 rfl) (q := 516) rfl ?_
    refine x_aload_n (i := 0) rfl hC (zdk dk_X12_operand 260 rfl) (q := 517) rfl ?_
    refine x_getI fl_RX12_29 (by decide) h_r0 hC (zdk dk_X12_operand 261 rfl) (q := 520) rfl ?_
    refine x_callVv (as := [.int x3, .int (zI M r0 6)]) cb_RX12_332 rfl (by decide) hk0 h_r0 (fun x hx => t_X12_add h_r0 x hx) hC (zdk dk_X12_operand 262 rfl) (q := 523) rfl rfl (Nat.le_of_ble_eq_true rfl) (fun M14 => ?_)
    refine x_aload_n (i := 0) rfl hC (zdk dk_X12_operand 263 rfl) (q := 524) rfl ?_
    refine x_callVv (as := []) cb_RX12_268 rfl (by decide) hk0 h_r0 (fun x hx => t_X12_ahead h_r0 x hx) hC (zdk dk_X12_operand 264 rfl) (q := 527) rfl rfl (Nat.le_of_ble_eq_true rfl) (fun M15 => ?_)
    refine x_iconst (i := 1) c_iconst_1 hC (zdk dk_X12_operand 265 rfl) (q := 528) rfl ?_
    exact x_iret (ty := .boolean) rfl hE hC (zdk dk_X12_operand 266 rfl)
  · refine x_iconst (i := 1) c_iconst_1 hC (zdk dk_X12_operand 256 rfl) (q := 513) rfl ?_
    exact x_iret (ty := .boolean) rfl hE hC (zdk dk_X12_operand 257 rfl)
set_option maxRecDepth 100000 in
def f_X12_operand_491  (r0 : Nat) (x3 : Int32) (M : Mem) : Option (Int32 × Mem) := (if x3 = (-1) then Option.bind (f_X12_blame r0 1 (zI M r0 4) M) fun M16 => f_X12_operand_505 r0 x3 M16 else f_X12_operand_505 r0 x3 M)
set_option maxRecDepth 100000 in
set_option maxHeartbeats 4000000 in
theorem x_X12_operand_491 {κ : KX} {n : Nat} (hC : CX κ cX12_operand RX12 4 (some .boolean) 3) (hE : zEnd κ n (0, 0)) (hk0 : zRk κ (0, 0)) {r0 : Nat} (h_r0 : zO n r0 12) (x3 : Int32) (M : Mem) : X κ 4 emI n (0, 0) 491 [.ref r0, .null, .null, .int x3] [] M (f_X12_operand_491 r0 x3 M) := by
  unfold f_X12_operand_491
  refine x_iload_n (i := 3) rfl hC (zdk dk_X12_operand 245 rfl) (q := 492) rfl ?_
  refine x_iconst (i := (-1)) c_iconst_m1 hC (zdk dk_X12_operand 246 rfl) (q := 493) rfl ?_
  refine x_icmp_ne (tgt := 505) hC (zdk dk_X12_operand 247 rfl) (q := 496) rfl rfl (fun _ => ?_) (fun _ => ?_)
  · refine x_weak (L' := [.ref r0, .null, .null, .int x3]) ⟨Or.inr rfl, Or.inl rfl, Or.inl rfl, Or.inr rfl, trivial⟩ ?_
    exact x_X12_operand_505 hC hE hk0 h_r0 _ _
  · refine x_aload_n (i := 0) rfl hC (zdk dk_X12_operand 248 rfl) (q := 497) rfl ?_
    refine x_iconst (i := 1) c_iconst_1 hC (zdk dk_X12_operand 249 rfl) (q := 498) rfl ?_
    refine x_aload_n (i := 0) rfl hC (zdk dk_X12_operand 250 rfl) (q := 499) rfl ?_
    refine x_getI fl_RX12_23 (by decide) h_r0 hC (zdk dk_X12_operand 251 rfl) (q := 502) rfl ?_
    refine x_callVv (as := [.int 1, .int (zI M r0 4)]) cb_RX12_251 rfl (by decide) hk0 h_r0 (fun x hx => t_X12_blame h_r0 x hx) hC (zdk dk_X12_operand 252 rfl) (q := 505) rfl rfl (Nat.le_of_ble_eq_true rfl) (fun M16 => ?_)
    refine x_weak (L' := [.ref r0, .null, .null, .int x3]) ⟨Or.inr rfl, Or.inl rfl, Or.inl rfl, Or.inr rfl, trivial⟩ ?_
    exact x_X12_operand_505 hC hE hk0 h_r0 _ _
set_option maxRecDepth 100000 in
def f_X12_operand_486  (r0 : Nat) (x3 : Int32) (s0 : Int32) (s1 : Int32) (M : Mem) : Option (Int32 × Mem) := (if s0 = s1 then f_X12_operand_491 r0 x3 M else f_X12_operand_491 r0 ((-1)) M)
set_option maxRecDepth 100000 in
set_option maxHeartbeats 4000000 in
theorem x_X12_operand_486 {κ : KX} {n : Nat} (hC : CX κ cX12_operand RX12 4 (some .boolean) 3) (hE : zEnd κ n (0, 0)) (hk0 : zRk κ (0, 0)) {r0 : Nat} (h_r0 : zO n r0 12) (x3 : Int32) (s0 : Int32) (s1 : Int32) (M : Mem) : X κ 4 emI n (0, 0) 486 [.ref r0, .null, .null, .int x3] [.int s1, .int s0] M (f_X12_operand_486 r0 x3 s0 s1 M) := by
  unfold f_X12_operand_486
  refine x_icmp_eq (tgt := 491) hC (zdk dk_X12_operand 242 rfl) (q := 489) rfl rfl (fun _ => ?_) (fun _ => ?_)
  · refine x_weak (L' := [.ref r0, .null, .null, .int x3]) ⟨Or.inr rfl, Or.inl rfl, Or.inl rfl, Or.inr rfl, trivial⟩ ?_
    exact x_X12_operand_491 hC hE hk0 h_r0 _ _
  · refine x_iconst (i := (-1)) c_iconst_m1 hC (zdk dk_X12_operand 243 rfl) (q := 490) rfl ?_
    refine x_istore_n (i := 3) (L' := [.ref r0, .null, .null, .int ((-1))]) (by decide) rfl hC (zdk dk_X12_operand 244 rfl) (q := 491) rfl ?_
    refine x_weak (L' := [.ref r0, .null, .null, .int ((-1))]) ⟨Or.inr rfl, Or.inl rfl, Or.inl rfl, Or.inr rfl, trivial⟩ ?_
    exact x_X12_operand_491 hC hE hk0 h_r0 _ _
set_option maxRecDepth 100000 in
def f_X12_operand_473  (r0 : Nat) (x3 : Int32) (s0 : Int32) (M : Mem) : Option (Int32 × Mem) := (if zI M r0 23 = 1 then f_X12_operand_486 r0 x3 s0 1 M else f_X12_operand_486 r0 x3 s0 0 M)
set_option maxRecDepth 100000 in
set_option maxHeartbeats 4000000 in
theorem x_X12_operand_473 {κ : KX} {n : Nat} (hC : CX κ cX12_operand RX12 4 (some .boolean) 3) (hE : zEnd κ n (0, 0)) (hk0 : zRk κ (0, 0)) {r0 : Nat} (h_r0 : zO n r0 12) (x3 : Int32) (s0 : Int32) (M : Mem) : X κ 4 emI n (0, 0) 473 [.ref r0, .null, .null, .int x3] [.int s0] M (f_X12_operand_473 r0 x3 s0 M) := by
  unfold f_X12_operand_473
  refine x_aload_n (i := 0) rfl hC (zdk dk_X12_operand 235 rfl) (q := 474) rfl ?_
  refine x_getI fl_RX12_82 (by decide) h_r0 hC (zdk dk_X12_operand 236 rfl) (q := 477) rfl ?_
  refine x_iconst (i := 1) c_iconst_1 hC (zdk dk_X12_operand 237 rfl) (q := 478) rfl ?_
  refine x_icmp_ne (tgt := 485) hC (zdk dk_X12_operand 238 rfl) (q := 481) rfl rfl (fun _ => ?_) (fun _ => ?_)
  · refine x_iconst (i := 0) c_iconst_0 hC (zdk dk_X12_operand 241 rfl) (q := 486) rfl ?_
    refine x_weak (L' := [.ref r0, .null, .null, .int x3]) ⟨Or.inr rfl, Or.inl rfl, Or.inl rfl, Or.inr rfl, trivial⟩ ?_
    exact x_X12_operand_486 hC hE hk0 h_r0 _ _ _ _
  · refine x_iconst (i := 1) c_iconst_1 hC (zdk dk_X12_operand 239 rfl) (q := 482) rfl ?_
    refine x_goto (tgt := 486) hC (zdk dk_X12_operand 240 rfl) rfl ?_
    refine x_weak (L' := [.ref r0, .null, .null, .int x3]) ⟨Or.inr rfl, Or.inl rfl, Or.inl rfl, Or.inr rfl, trivial⟩ ?_
    exact x_X12_operand_486 hC hE hk0 h_r0 _ _ _ _
set_option maxRecDepth 100000 in
def f_X12_operand_456  (r0 : Nat) (s0 : Int32) (M : Mem) : Option (Int32 × Mem) := (if s0 < 1 then f_X12_operand_491 r0 s0 M else (if s0 < 7 then f_X12_operand_473 r0 s0 0 M else f_X12_operand_473 r0 s0 1 M))
set_option maxRecDepth 100000 in
set_option maxHeartbeats 4000000 in
theorem x_X12_operand_456 {κ : KX} {n : Nat} (hC : CX κ cX12_operand RX12 4 (some .boolean) 3) (hE : zEnd κ n (0, 0)) (hk0 : zRk κ (0, 0)) {r0 : Nat} (h_r0 : zO n r0 12) (s0 : Int32) (M : Mem) : X κ 4 emI n (0, 0) 456 [.ref r0, .null, .null, .null] [.int s0] M (f_X12_operand_456 r0 s0 M) := by
  unfold f_X12_operand_456
  refine x_istore_n (i := 3) (L' := [.ref r0, .null, .null, .int s0]) (by decide) rfl hC (zdk dk_X12_operand 225 rfl) (q := 457) rfl ?_
  refine x_iload_n (i := 3) rfl hC (zdk dk_X12_operand 226 rfl) (q := 458) rfl ?_
  refine x_iconst (i := 1) c_iconst_1 hC (zdk dk_X12_operand 227 rfl) (q := 459) rfl ?_
  refine x_icmp_lt (tgt := 491) hC (zdk dk_X12_operand 228 rfl) (q := 462) rfl rfl (fun _ => ?_) (fun _ => ?_)
  · refine x_weak (L' := [.ref r0, .null, .null, .int s0]) ⟨Or.inr rfl, Or.inl rfl, Or.inl rfl, Or.inr rfl, trivial⟩ ?_
    exact x_X12_operand_491 hC hE hk0 h_r0 _ _
  · refine x_iload_n (i := 3) rfl hC (zdk dk_X12_operand 229 rfl) (q := 463) rfl ?_
    refine x_bipush (i := 7) c_bipush_7 hC (zdk dk_X12_operand 230 rfl) (q := 465) rfl ?_
    refine x_icmp_lt (tgt := 472) hC (zdk dk_X12_operand 231 rfl) (q := 468) rfl rfl (fun _ => ?_) (fun _ => ?_)
    · refine x_iconst (i := 0) c_iconst_0 hC (zdk dk_X12_operand 234 rfl) (q := 473) rfl ?_
      refine x_weak (L' := [.ref r0, .null, .null, .int s0]) ⟨Or.inr rfl, Or.inl rfl, Or.inl rfl, Or.inr rfl, trivial⟩ ?_
      exact x_X12_operand_473 hC hE hk0 h_r0 _ _ _
    · refine x_iconst (i := 1) c_iconst_1 hC (zdk dk_X12_operand 232 rfl) (q := 469) rfl ?_
      refine x_goto (tgt := 473) hC (zdk dk_X12_operand 233 rfl) rfl ?_
      refine x_weak (L' := [.ref r0, .null, .null, .int s0]) ⟨Or.inr rfl, Or.inl rfl, Or.inl rfl, Or.inr rfl, trivial⟩ ?_
      exact x_X12_operand_473 hC hE hk0 h_r0 _ _ _
set_option maxRecDepth 100000 in
def f_X12_operand_171  (r0 : Nat)  (M : Mem) : Option (Int32 × Mem) := Option.bind (f_X12_isSign r0 40 M) fun z17 => (if z17.1 = 0 then Option.bind (f_X12_isWord r0 7170414 z17.2) fun z18 => (if z18.1 = 0 then Option.bind (f_X12_isWord r0 7168376 z18.2) fun z19 => (if z19.1 = 0 then Option.bind (f_X12_isWord r0 26982 z19.2) fun z20 => (if z20.1 = 0 then (if zI z20.2 r0 3 = 2 then f_X12_operand_456 r0 0 z20.2 else Option.bind (f_X12_isWord r0 6578553 z20.2) fun z21 => (if z21.1 = 0 then Option.bind (f_X12_isWord r0 1885431653 z21.2) fun z22 => (if z22.1 = 0 then Option.bind (f_X12_isWord r0 1667591276 z22.2) fun z23 => (if z23.1 = 0 then Option.bind (f_X12_isWord r0 465558725996 z23.2) fun z24 => (if z24.1 = 0 then Option.bind (f_X12_isWord r0 6449524 z24.2) fun z25 => (if z25.1 = 0 then Option.bind (f_X12_isWord r0 6383461 z25.2) fun z26 => (if z26.1 = 0 then Option.bind (f_X12_isWord r0 500135716196 z26.2) fun z27 => (if z27.1 = 0 then Option.bind (f_X12_isWord r0 6775152 z27.2) fun z28 => (if z28.1 = 0 then Option.bind (f_X12_isWord r0 24948 z28.2) fun z29 => (if z29.1 = 0 then f_X12_operand_456 r0 ((-1)) z29.2 else f_X12_operand_456 r0 9 z29.2) else f_X12_operand_456 r0 8 z28.2) else f_X12_operand_456 r0 7 z27.2) else f_X12_operand_456 r0 6 z26.2) else f_X12_operand_456 r0 5 z25.2) else f_X12_operand_456 r0 4 z24.2) else f_X12_operand_456 r0 3 z23.2) else f_X12_operand_456 r0 2 z22.2) else f_X12_operand_456 r0 1 z21.2)) else f_X12_operand_217 r0 z20.2) else f_X12_operand_217 r0 z19.2) else f_X12_operand_217 r0 z18.2) else Option.bind (f_X12_opens r0 2 z17.2) fun M30 => some (0, M30))
set_option maxRecDepth 100000 in
set_option maxHeartbeats 4000000 in
theorem x_X12_operand_171 {κ : KX} {n : Nat} (hC : CX κ cX12_operand RX12 4 (some .boolean) 3) (hE : zEnd κ n (0, 0)) (hk0 : zRk κ (0, 0)) {r0 : Nat} (h_r0 : zO n r0 12) (M : Mem) : X κ 4 emI n (0, 0) 171 [.ref r0, .null, .null, .null] [] M (f_X12_operand_171 r0 M) := by
  unfold f_X12_operand_171
  refine x_aload_n (i := 0) rfl hC (zdk dk_X12_operand 95 rfl) (q := 172) rfl ?_
  refine x_bipush (i := 40) c_bipush_40 hC (zdk dk_X12_operand 96 rfl) (q := 174) rfl ?_
  refine x_callVi (as := [.int 40]) cb_RX12_265 rfl (by decide) hk0 h_r0 (fun x hx => t_X12_isSign h_r0 x hx) hC (zdk dk_X12_operand 97 rfl) (q := 177) rfl rfl (Nat.le_of_ble_eq_true rfl) (fun z17 => ?_)
  refine x_if_eq (tgt := 187) hC (zdk dk_X12_operand 98 rfl) (q := 180) rfl rfl (fun _ => ?_) (fun _ => ?_)
  · refine x_aload_n (i := 0) rfl hC (zdk dk_X12_operand 104 rfl) (q := 188) rfl ?_
    refine x_ldc2 k_RX12_321 hC (zdk dk_X12_operand 105 rfl) (q := 191) rfl ?_
    refine x_callVi (as := [.long 7170414]) cb_RX12_341 rfl (by decide) hk0 h_r0 (fun x hx => t_X12_isWord h_r0 x hx) hC (zdk dk_X12_operand 106 rfl) (q := 194) rfl rfl (Nat.le_of_ble_eq_true rfl) (fun z18 => ?_)
    refine x_if_ne (tgt := 217) hC (zdk dk_X12_operand 107 rfl) (q := 197) rfl rfl (fun _ => ?_) (fun _ => ?_)
    · refine x_weak (L' := [.ref r0, .null, .null, .null]) ⟨Or.inr rfl, Or.inl rfl, Or.inl rfl, Or.inl rfl, trivial⟩ ?_
      exact x_X12_operand_217 hC hE hk0 h_r0 _
    · refine x_aload_n (i := 0) rfl hC (zdk dk_X12_operand 108 rfl) (q := 198) rfl ?_
      refine x_ldc2 k_RX12_323 hC (zdk dk_X12_operand 109 rfl) (q := 201) rfl ?_
      refine x_callVi (as := [.long 7168376]) cb_RX12_341 rfl (by decide) hk0 h_r0 (fun x hx => t_X12_isWord h_r0 x hx) hC (zdk dk_X12_operand 110 rfl) (q := 204) rfl rfl (Nat.le_of_ble_eq_true rfl) (fun z19 => ?_)
      refine x_if_ne (tgt := 217) hC (zdk dk_X12_operand 111 rfl) (q := 207) rfl rfl (fun _ => ?_) (fun _ => ?_)
      · refine x_weak (L' := [.ref r0, .null, .null, .null]) ⟨Or.inr rfl, Or.inl rfl, Or.inl rfl, Or.inl rfl, trivial⟩ ?_
        exact x_X12_operand_217 hC hE hk0 h_r0 _
      · refine x_aload_n (i := 0) rfl hC (zdk dk_X12_operand 112 rfl) (q := 208) rfl ?_
        refine x_ldc2 k_RX12_311 hC (zdk dk_X12_operand 113 rfl) (q := 211) rfl ?_
        refine x_callVi (as := [.long 26982]) cb_RX12_341 rfl (by decide) hk0 h_r0 (fun x hx => t_X12_isWord h_r0 x hx) hC (zdk dk_X12_operand 114 rfl) (q := 214) rfl rfl (Nat.le_of_ble_eq_true rfl) (fun z20 => ?_)
        refine x_if_eq (tgt := 313) hC (zdk dk_X12_operand 115 rfl) (q := 217) rfl rfl (fun _ => ?_) (fun _ => ?_)
        · refine x_aload_n (i := 0) rfl hC (zdk dk_X12_operand 164 rfl) (q := 314) rfl ?_
          refine x_getI fl_RX12_20 (by decide) h_r0 hC (zdk dk_X12_operand 165 rfl) (q := 317) rfl ?_
          refine x_iconst (i := 2) c_iconst_2 hC (zdk dk_X12_operand 166 rfl) (q := 318) rfl ?_
          refine x_icmp_ne (tgt := 325) hC (zdk dk_X12_operand 167 rfl) (q := 321) rfl rfl (fun _ => ?_) (fun _ => ?_)
          · refine x_aload_n (i := 0) rfl hC (zdk dk_X12_operand 170 rfl) (q := 326) rfl ?_
            refine x_ldc2 k_RX12_295 hC (zdk dk_X12_operand 171 rfl) (q := 329) rfl ?_
            refine x_callVi (as := [.long 6578553]) cb_RX12_341 rfl (by decide) hk0 h_r0 (fun x hx => t_X12_isWord h_r0 x hx) hC (zdk dk_X12_operand 172 rfl) (q := 332) rfl rfl (Nat.le_of_ble_eq_true rfl) (fun z21 => ?_)
            refine x_if_eq (tgt := 339) hC (zdk dk_X12_operand 173 rfl) (q := 335) rfl rfl (fun _ => ?_) (fun _ => ?_)
            · refine x_aload_n (i := 0) rfl hC (zdk dk_X12_operand 176 rfl) (q := 340) rfl ?_
              refine x_ldc2 k_RX12_279 hC (zdk dk_X12_operand 177 rfl) (q := 343) rfl ?_
              refine x_callVi (as := [.long 1885431653]) cb_RX12_341 rfl (by decide) hk0 h_r0 (fun x hx => t_X12_isWord h_r0 x hx) hC (zdk dk_X12_operand 178 rfl) (q := 346) rfl rfl (Nat.le_of_ble_eq_true rfl) (fun z22 => ?_)
              refine x_if_eq (tgt := 353) hC (zdk dk_X12_operand 179 rfl) (q := 349) rfl rfl (fun _ => ?_) (fun _ => ?_)
              · refine x_aload_n (i := 0) rfl hC (zdk dk_X12_operand 182 rfl) (q := 354) rfl ?_
                refine x_ldc2 k_RX12_297 hC (zdk dk_X12_operand 183 rfl) (q := 357) rfl ?_
                refine x_callVi (as := [.long 1667591276]) cb_RX12_341 rfl (by decide) hk0 h_r0 (fun x hx => t_X12_isWord h_r0 x hx) hC (zdk dk_X12_operand 184 rfl) (q := 360) rfl rfl (Nat.le_of_ble_eq_true rfl) (fun z23 => ?_)
                refine x_if_eq (tgt := 367) hC (zdk dk_X12_operand 185 rfl) (q := 363) rfl rfl (fun _ => ?_) (fun _ => ?_)
                · refine x_aload_n (i := 0) rfl hC (zdk dk_X12_operand 188 rfl) (q := 368) rfl ?_
                  refine x_ldc2 k_RX12_299 hC (zdk dk_X12_operand 189 rfl) (q := 371) rfl ?_
                  refine x_callVi (as := [.long 465558725996]) cb_RX12_341 rfl (by decide) hk0 h_r0 (fun x hx => t_X12_isWord h_r0 x hx) hC (zdk dk_X12_operand 190 rfl) (q := 374) rfl rfl (Nat.le_of_ble_eq_true rfl) (fun z24 => ?_)
                  refine x_if_eq (tgt := 381) hC (zdk dk_X12_operand 191 rfl) (q := 377) rfl rfl (fun _ => ?_) (fun _ => ?_)
                  · refine x_aload_n (i := 0) rfl hC (zdk dk_X12_operand 194 rfl) (q := 382) rfl ?_
                    refine x_ldc2 k_RX12_301 hC (zdk dk_X12_operand 195 rfl) (q := 385) rfl ?_
                    refine x_callVi (as := [.long 6449524]) cb_RX12_341 rfl (by decide) hk0 h_r0 (fun x hx => t_X12_isWord h_r0 x hx) hC (zdk dk_X12_operand 196 rfl) (q := 388) rfl rfl (Nat.le_of_ble_eq_true rfl) (fun z25 => ?_)
                    refine x_if_eq (tgt := 395) hC (zdk dk_X12_operand 197 rfl) (q := 391) rfl rfl (fun _ => ?_) (fun _ => ?_)
                    · refine x_aload_n (i := 0) rfl hC (zdk dk_X12_operand 200 rfl) (q := 396) rfl ?_
                      refine x_ldc2 k_RX12_303 hC (zdk dk_X12_operand 201 rfl) (q := 399) rfl ?_
                      refine x_callVi (as := [.long 6383461]) cb_RX12_341 rfl (by decide) hk0 h_r0 (fun x hx => t_X12_isWord h_r0 x hx) hC (zdk dk_X12_operand 202 rfl) (q := 402) rfl rfl (Nat.le_of_ble_eq_true rfl) (fun z26 => ?_)
                      refine x_if_eq (tgt := 410) hC (zdk dk_X12_operand 203 rfl) (q := 405) rfl rfl (fun _ => ?_) (fun _ => ?_)
                      · refine x_aload_n (i := 0) rfl hC (zdk dk_X12_operand 206 rfl) (q := 411) rfl ?_
                        refine x_ldc2 k_RX12_305 hC (zdk dk_X12_operand 207 rfl) (q := 414) rfl ?_
                        refine x_callVi (as := [.long 500135716196]) cb_RX12_341 rfl (by decide) hk0 h_r0 (fun x hx => t_X12_isWord h_r0 x hx) hC (zdk dk_X12_operand 208 rfl) (q := 417) rfl rfl (Nat.le_of_ble_eq_true rfl) (fun z27 => ?_)
                        refine x_if_eq (tgt := 425) hC (zdk dk_X12_operand 209 rfl) (q := 420) rfl rfl (fun _ => ?_) (fun _ => ?_)
                        · refine x_aload_n (i := 0) rfl hC (zdk dk_X12_operand 212 rfl) (q := 426) rfl ?_
                          refine x_ldc2 k_RX12_307 hC (zdk dk_X12_operand 213 rfl) (q := 429) rfl ?_
                          refine x_callVi (as := [.long 6775152]) cb_RX12_341 rfl (by decide) hk0 h_r0 (fun x hx => t_X12_isWord h_r0 x hx) hC (zdk dk_X12_operand 214 rfl) (q := 432) rfl rfl (Nat.le_of_ble_eq_true rfl) (fun z28 => ?_)
                          refine x_if_eq (tgt := 440) hC (zdk dk_X12_operand 215 rfl) (q := 435) rfl rfl (fun _ => ?_) (fun _ => ?_)
                          · refine x_aload_n (i := 0) rfl hC (zdk dk_X12_operand 218 rfl) (q := 441) rfl ?_
                            refine x_ldc2 k_RX12_309 hC (zdk dk_X12_operand 219 rfl) (q := 444) rfl ?_
                            refine x_callVi (as := [.long 24948]) cb_RX12_341 rfl (by decide) hk0 h_r0 (fun x hx => t_X12_isWord h_r0 x hx) hC (zdk dk_X12_operand 220 rfl) (q := 447) rfl rfl (Nat.le_of_ble_eq_true rfl) (fun z29 => ?_)
                            refine x_if_eq (tgt := 455) hC (zdk dk_X12_operand 221 rfl) (q := 450) rfl rfl (fun _ => ?_) (fun _ => ?_)
                            · refine x_iconst (i := (-1)) c_iconst_m1 hC (zdk dk_X12_operand 224 rfl) (q := 456) rfl ?_
                              refine x_weak (L' := [.ref r0, .null, .null, .null]) ⟨Or.inr rfl, Or.inl rfl, Or.inl rfl, Or.inl rfl, trivial⟩ ?_
                              exact x_X12_operand_456 hC hE hk0 h_r0 _ _
                            · refine x_bipush (i := 9) c_bipush_9 hC (zdk dk_X12_operand 222 rfl) (q := 452) rfl ?_
                              refine x_goto (tgt := 456) hC (zdk dk_X12_operand 223 rfl) rfl ?_
                              refine x_weak (L' := [.ref r0, .null, .null, .null]) ⟨Or.inr rfl, Or.inl rfl, Or.inl rfl, Or.inl rfl, trivial⟩ ?_
                              exact x_X12_operand_456 hC hE hk0 h_r0 _ _
                          · refine x_bipush (i := 8) c_bipush_8 hC (zdk dk_X12_operand 216 rfl) (q := 437) rfl ?_
                            refine x_goto (tgt := 456) hC (zdk dk_X12_operand 217 rfl) rfl ?_
                            refine x_weak (L' := [.ref r0, .null, .null, .null]) ⟨Or.inr rfl, Or.inl rfl, Or.inl rfl, Or.inl rfl, trivial⟩ ?_
                            exact x_X12_operand_456 hC hE hk0 h_r0 _ _
                        · refine x_bipush (i := 7) c_bipush_7 hC (zdk dk_X12_operand 210 rfl) (q := 422) rfl ?_
                          refine x_goto (tgt := 456) hC (zdk dk_X12_operand 211 rfl) rfl ?_
                          refine x_weak (L' := [.ref r0, .null, .null, .null]) ⟨Or.inr rfl, Or.inl rfl, Or.inl rfl, Or.inl rfl, trivial⟩ ?_
                          exact x_X12_operand_456 hC hE hk0 h_r0 _ _
                      · refine x_bipush (i := 6) c_bipush_6 hC (zdk dk_X12_operand 204 rfl) (q := 407) rfl ?_
                        refine x_goto (tgt := 456) hC (zdk dk_X12_operand 205 rfl) rfl ?_
                        refine x_weak (L' := [.ref r0, .null, .null, .null]) ⟨Or.inr rfl, Or.inl rfl, Or.inl rfl, Or.inl rfl, trivial⟩ ?_
                        exact x_X12_operand_456 hC hE hk0 h_r0 _ _
                    · refine x_iconst (i := 5) c_iconst_5 hC (zdk dk_X12_operand 198 rfl) (q := 392) rfl ?_
                      refine x_goto (tgt := 456) hC (zdk dk_X12_operand 199 rfl) rfl ?_
                      refine x_weak (L' := [.ref r0, .null, .null, .null]) ⟨Or.inr rfl, Or.inl rfl, Or.inl rfl, Or.inl rfl, trivial⟩ ?_
                      exact x_X12_operand_456 hC hE hk0 h_r0 _ _
                  · refine x_iconst (i := 4) c_iconst_4 hC (zdk dk_X12_operand 192 rfl) (q := 378) rfl ?_
                    refine x_goto (tgt := 456) hC (zdk dk_X12_operand 193 rfl) rfl ?_
                    refine x_weak (L' := [.ref r0, .null, .null, .null]) ⟨Or.inr rfl, Or.inl rfl, Or.inl rfl, Or.inl rfl, trivial⟩ ?_
                    exact x_X12_operand_456 hC hE hk0 h_r0 _ _
                · refine x_iconst (i := 3) c_iconst_3 hC (zdk dk_X12_operand 186 rfl) (q := 364) rfl ?_
                  refine x_goto (tgt := 456) hC (zdk dk_X12_operand 187 rfl) rfl ?_
                  refine x_weak (L' := [.ref r0, .null, .null, .null]) ⟨Or.inr rfl, Or.inl rfl, Or.inl rfl, Or.inl rfl, trivial⟩ ?_
                  exact x_X12_operand_456 hC hE hk0 h_r0 _ _
              · refine x_iconst (i := 2) c_iconst_2 hC (zdk dk_X12_operand 180 rfl) (q := 350) rfl ?_
                refine x_goto (tgt := 456) hC (zdk dk_X12_operand 181 rfl) rfl ?_
                refine x_weak (L' := [.ref r0, .null, .null, .null]) ⟨Or.inr rfl, Or.inl rfl, Or.inl rfl, Or.inl rfl, trivial⟩ ?_
                exact x_X12_operand_456 hC hE hk0 h_r0 _ _
            · refine x_iconst (i := 1) c_iconst_1 hC (zdk dk_X12_operand 174 rfl) (q := 336) rfl ?_
              refine x_goto (tgt := 456) hC (zdk dk_X12_operand 175 rfl) rfl ?_
              refine x_weak (L' := [.ref r0, .null, .null, .null]) ⟨Or.inr rfl, Or.inl rfl, Or.inl rfl, Or.inl rfl, trivial⟩ ?_
              exact x_X12_operand_456 hC hE hk0 h_r0 _ _
          · refine x_iconst (i := 0) c_iconst_0 hC (zdk dk_X12_operand 168 rfl) (q := 322) rfl ?_
            refine x_goto (tgt := 456) hC (zdk dk_X12_operand 169 rfl) rfl ?_
            refine x_weak (L' := [.ref r0, .null, .null, .null]) ⟨Or.inr rfl, Or.inl rfl, Or.inl rfl, Or.inl rfl, trivial⟩ ?_
            exact x_X12_operand_456 hC hE hk0 h_r0 _ _
        · refine x_weak (L' := [.ref r0, .null, .null, .null]) ⟨Or.inr rfl, Or.inl rfl, Or.inl rfl, Or.inl rfl, trivial⟩ ?_
          exact x_X12_operand_217 hC hE hk0 h_r0 _
  · refine x_aload_n (i := 0) rfl hC (zdk dk_X12_operand 99 rfl) (q := 181) rfl ?_
    refine x_iconst (i := 2) c_iconst_2 hC (zdk dk_X12_operand 100 rfl) (q := 182) rfl ?_
    refine x_callVv (as := [.int 2]) cb_RX12_348 rfl (by decide) hk0 h_r0 (fun x hx => t_X12_opens h_r0 x hx) hC (zdk dk_X12_operand 101 rfl) (q := 185) rfl rfl (Nat.le_of_ble_eq_true rfl) (fun M30 => ?_)
    refine x_iconst (i := 0) c_iconst_0 hC (zdk dk_X12_operand 102 rfl) (q := 186) rfl ?_
    exact x_iret (ty := .boolean) rfl hE hC (zdk dk_X12_operand 103 rfl)
set_option maxRecDepth 100000 in
def f_X12_operand_137  (r0 : Nat) (x1 : Int32) (x2 : Int32) (M : Mem) : Option (Int32 × Mem) := (if x2 = 0 then f_X12_operand_171 r0 M else Option.bind (f_X12_isWord r0 6384748 M) fun z31 => (if z31.1 = 0 then f_X12_operand_171 r0 z31.2 else Option.bind (f_X12_add r0 30 0 z31.2) fun M32 => Option.bind (zrf M32 r0 25) fun q33 => Option.bind (zld q33 x1) fun k34 => Option.bind (some (zsI M32 q33 k34 2)) fun M35 => Option.bind (f_X12_ahead r0 M35) fun M36 => some (1, M36)))
set_option maxRecDepth 100000 in
set_option maxHeartbeats 4000000 in
theorem x_X12_operand_137 {κ : KX} {n : Nat} (hC : CX κ cX12_operand RX12 4 (some .boolean) 3) (hE : zEnd κ n (0, 0)) (hk0 : zRk κ (0, 0)) {r0 : Nat} (h_r0 : zO n r0 12) (x1 : Int32) (x2 : Int32) (M : Mem) : X κ 4 emI n (0, 0) 137 [.ref r0, .int x1, .int x2, .null] [] M (f_X12_operand_137 r0 x1 x2 M) := by
  unfold f_X12_operand_137
  refine x_iload_n (i := 2) rfl hC (zdk dk_X12_operand 76 rfl) (q := 138) rfl ?_
  refine x_if_eq (tgt := 171) hC (zdk dk_X12_operand 77 rfl) (q := 141) rfl rfl (fun _ => ?_) (fun _ => ?_)
  · refine x_weak (L' := [.ref r0, .null, .null, .null]) ⟨Or.inr rfl, Or.inl rfl, Or.inl rfl, Or.inl rfl, trivial⟩ ?_
    exact x_X12_operand_171 hC hE hk0 h_r0 _
  · refine x_aload_n (i := 0) rfl hC (zdk dk_X12_operand 78 rfl) (q := 142) rfl ?_
    refine x_ldc2 k_RX12_319 hC (zdk dk_X12_operand 79 rfl) (q := 145) rfl ?_
    refine x_callVi (as := [.long 6384748]) cb_RX12_341 rfl (by decide) hk0 h_r0 (fun x hx => t_X12_isWord h_r0 x hx) hC (zdk dk_X12_operand 80 rfl) (q := 148) rfl rfl (Nat.le_of_ble_eq_true rfl) (fun z31 => ?_)
    refine x_if_eq (tgt := 171) hC (zdk dk_X12_operand 81 rfl) (q := 151) rfl rfl (fun _ => ?_) (fun _ => ?_)
    · refine x_weak (L' := [.ref r0, .null, .null, .null]) ⟨Or.inr rfl, Or.inl rfl, Or.inl rfl, Or.inl rfl, trivial⟩ ?_
      exact x_X12_operand_171 hC hE hk0 h_r0 _
    · refine x_aload_n (i := 0) rfl hC (zdk dk_X12_operand 82 rfl) (q := 152) rfl ?_
      refine x_bipush (i := 30) c_bipush_30 hC (zdk dk_X12_operand 83 rfl) (q := 154) rfl ?_
      refine x_iconst (i := 0) c_iconst_0 hC (zdk dk_X12_operand 84 rfl) (q := 155) rfl ?_
      refine x_callVv (as := [.int 30, .int 0]) cb_RX12_332 rfl (by decide) hk0 h_r0 (fun x hx => t_X12_add h_r0 x hx) hC (zdk dk_X12_operand 85 rfl) (q := 158) rfl rfl (Nat.le_of_ble_eq_true rfl) (fun M32 => ?_)
      refine x_aload_n (i := 0) rfl hC (zdk dk_X12_operand 86 rfl) (q := 159) rfl ?_
      refine x_getR (k := 20) fl_RX12_88 rfl h_r0 hC (zdk dk_X12_operand 87 rfl) (q := 162) rfl (fun q33 hq33 => ?_)
      refine x_iload_n (i := 1) rfl hC (zdk dk_X12_operand 88 rfl) (q := 163) rfl ?_
      refine x_iconst (i := 2) c_iconst_2 hC (zdk dk_X12_operand 89 rfl) (q := 164) rfl ?_
      refine x_iast hq33 hC (zdk dk_X12_operand 90 rfl) (q := 165) rfl (fun k34 _ => ?_)
      refine x_nmM (fun M35 => ?_)
      refine x_aload_n (i := 0) rfl hC (zdk dk_X12_operand 91 rfl) (q := 166) rfl ?_
      refine x_callVv (as := []) cb_RX12_268 rfl (by decide) hk0 h_r0 (fun x hx => t_X12_ahead h_r0 x hx) hC (zdk dk_X12_operand 92 rfl) (q := 169) rfl rfl (Nat.le_of_ble_eq_true rfl) (fun M36 => ?_)
      refine x_iconst (i := 1) c_iconst_1 hC (zdk dk_X12_operand 93 rfl) (q := 170) rfl ?_
      exact x_iret (ty := .boolean) rfl hE hC (zdk dk_X12_operand 94 rfl)
set_option maxRecDepth 100000 in
def f_X12_operand_110  (r0 : Nat) (x1 : Int32) (x2 : Int32) (M : Mem) : Option (Int32 × Mem) := Option.bind (zrf M r0 26) fun q37 => Option.bind (zld q37 x1) fun k38 => Option.bind (some (zsI M q37 k38 0)) fun M39 => (if x2 = 0 then f_X12_operand_137 r0 x1 x2 M39 else Option.bind (f_X12_isSign r0 91 M39) fun z40 => (if z40.1 = 0 then f_X12_operand_137 r0 x1 x2 z40.2 else Option.bind (f_X12_opens r0 5 z40.2) fun M41 => some (0, M41)))
set_option maxRecDepth 100000 in
set_option maxHeartbeats 4000000 in
theorem x_X12_operand_110 {κ : KX} {n : Nat} (hC : CX κ cX12_operand RX12 4 (some .boolean) 3) (hE : zEnd κ n (0, 0)) (hk0 : zRk κ (0, 0)) {r0 : Nat} (h_r0 : zO n r0 12) (x1 : Int32) (x2 : Int32) (M : Mem) : X κ 4 emI n (0, 0) 110 [.ref r0, .int x1, .int x2, .null] [] M (f_X12_operand_110 r0 x1 x2 M) := by
  unfold f_X12_operand_110
  refine x_aload_n (i := 0) rfl hC (zdk dk_X12_operand 60 rfl) (q := 111) rfl ?_
  refine x_getR (k := 22) fl_RX12_91 rfl h_r0 hC (zdk dk_X12_operand 61 rfl) (q := 114) rfl (fun q37 hq37 => ?_)
  refine x_iload_n (i := 1) rfl hC (zdk dk_X12_operand 62 rfl) (q := 115) rfl ?_
  refine x_iconst (i := 0) c_iconst_0 hC (zdk dk_X12_operand 63 rfl) (q := 116) rfl ?_
  refine x_zast (by rfl) hq37 hC (zdk dk_X12_operand 64 rfl) (q := 117) rfl (fun k38 _ => ?_)
  refine x_nmM (fun M39 => ?_)
  refine x_iload_n (i := 2) rfl hC (zdk dk_X12_operand 65 rfl) (q := 118) rfl ?_
  refine x_if_eq (tgt := 137) hC (zdk dk_X12_operand 66 rfl) (q := 121) rfl rfl (fun _ => ?_) (fun _ => ?_)
  · refine x_weak (L' := [.ref r0, .int x1, .int x2, .null]) ⟨Or.inr rfl, Or.inr rfl, Or.inr rfl, Or.inl rfl, trivial⟩ ?_
    exact x_X12_operand_137 hC hE hk0 h_r0 _ _ _
  · refine x_aload_n (i := 0) rfl hC (zdk dk_X12_operand 67 rfl) (q := 122) rfl ?_
    refine x_bipush (i := 91) c_bipush_91 hC (zdk dk_X12_operand 68 rfl) (q := 124) rfl ?_
    refine x_callVi (as := [.int 91]) cb_RX12_265 rfl (by decide) hk0 h_r0 (fun x hx => t_X12_isSign h_r0 x hx) hC (zdk dk_X12_operand 69 rfl) (q := 127) rfl rfl (Nat.le_of_ble_eq_true rfl) (fun z40 => ?_)
    refine x_if_eq (tgt := 137) hC (zdk dk_X12_operand 70 rfl) (q := 130) rfl rfl (fun _ => ?_) (fun _ => ?_)
    · refine x_weak (L' := [.ref r0, .int x1, .int x2, .null]) ⟨Or.inr rfl, Or.inr rfl, Or.inr rfl, Or.inl rfl, trivial⟩ ?_
      exact x_X12_operand_137 hC hE hk0 h_r0 _ _ _
    · refine x_aload_n (i := 0) rfl hC (zdk dk_X12_operand 71 rfl) (q := 131) rfl ?_
      refine x_iconst (i := 5) c_iconst_5 hC (zdk dk_X12_operand 72 rfl) (q := 132) rfl ?_
      refine x_callVv (as := [.int 5]) cb_RX12_348 rfl (by decide) hk0 h_r0 (fun x hx => t_X12_opens h_r0 x hx) hC (zdk dk_X12_operand 73 rfl) (q := 135) rfl rfl (Nat.le_of_ble_eq_true rfl) (fun M41 => ?_)
      refine x_iconst (i := 0) c_iconst_0 hC (zdk dk_X12_operand 74 rfl) (q := 136) rfl ?_
      exact x_iret (ty := .boolean) rfl hE hC (zdk dk_X12_operand 75 rfl)
set_option maxRecDepth 100000 in
def f_X12_operand_46  (r0 : Nat) (x1 : Int32) (s0 : Int32) (M : Mem) : Option (Int32 × Mem) := (if s0 = 0 then f_X12_operand_110 r0 x1 s0 M else Option.bind (f_X12_isWord r0 7237492 M) fun z42 => (if z42.1 = 0 then f_X12_operand_110 r0 x1 s0 z42.2 else (if zI z42.2 r0 30 = 7 then Option.bind (f_X12_blame r0 5 (zI z42.2 r0 4) z42.2) fun M43 => f_X12_operand_79 r0 M43 else f_X12_operand_79 r0 z42.2)))
set_option maxRecDepth 100000 in
set_option maxHeartbeats 4000000 in
theorem x_X12_operand_46 {κ : KX} {n : Nat} (hC : CX κ cX12_operand RX12 4 (some .boolean) 3) (hE : zEnd κ n (0, 0)) (hk0 : zRk κ (0, 0)) {r0 : Nat} (h_r0 : zO n r0 12) (x1 : Int32) (s0 : Int32) (M : Mem) : X κ 4 emI n (0, 0) 46 [.ref r0, .int x1, .null, .null] [.int s0] M (f_X12_operand_46 r0 x1 s0 M) := by
  unfold f_X12_operand_46
  refine x_istore_n (i := 2) (L' := [.ref r0, .int x1, .int s0, .null]) (by decide) rfl hC (zdk dk_X12_operand 26 rfl) (q := 47) rfl ?_
  refine x_iload_n (i := 2) rfl hC (zdk dk_X12_operand 27 rfl) (q := 48) rfl ?_
  refine x_if_eq (tgt := 110) hC (zdk dk_X12_operand 28 rfl) (q := 51) rfl rfl (fun _ => ?_) (fun _ => ?_)
  · refine x_weak (L' := [.ref r0, .int x1, .int s0, .null]) ⟨Or.inr rfl, Or.inr rfl, Or.inr rfl, Or.inl rfl, trivial⟩ ?_
    exact x_X12_operand_110 hC hE hk0 h_r0 _ _ _
  · refine x_aload_n (i := 0) rfl hC (zdk dk_X12_operand 29 rfl) (q := 52) rfl ?_
    refine x_ldc2 k_RX12_317 hC (zdk dk_X12_operand 30 rfl) (q := 55) rfl ?_
    refine x_callVi (as := [.long 7237492]) cb_RX12_341 rfl (by decide) hk0 h_r0 (fun x hx => t_X12_isWord h_r0 x hx) hC (zdk dk_X12_operand 31 rfl) (q := 58) rfl rfl (Nat.le_of_ble_eq_true rfl) (fun z42 => ?_)
    refine x_if_eq (tgt := 110) hC (zdk dk_X12_operand 32 rfl) (q := 61) rfl rfl (fun _ => ?_) (fun _ => ?_)
    · refine x_weak (L' := [.ref r0, .int x1, .int s0, .null]) ⟨Or.inr rfl, Or.inr rfl, Or.inr rfl, Or.inl rfl, trivial⟩ ?_
      exact x_X12_operand_110 hC hE hk0 h_r0 _ _ _
    · refine x_aload_n (i := 0) rfl hC (zdk dk_X12_operand 33 rfl) (q := 62) rfl ?_
      refine x_getI fl_RX12_104 (by decide) h_r0 hC (zdk dk_X12_operand 34 rfl) (q := 65) rfl ?_
      refine x_bipush (i := 7) c_bipush_7 hC (zdk dk_X12_operand 35 rfl) (q := 67) rfl ?_
      refine x_icmp_ne (tgt := 79) hC (zdk dk_X12_operand 36 rfl) (q := 70) rfl rfl (fun _ => ?_) (fun _ => ?_)
      · refine x_weak (L' := [.ref r0, .null, .null, .null]) ⟨Or.inr rfl, Or.inl rfl, Or.inl rfl, Or.inl rfl, trivial⟩ ?_
        exact x_X12_operand_79 hC hE hk0 h_r0 _
      · refine x_aload_n (i := 0) rfl hC (zdk dk_X12_operand 37 rfl) (q := 71) rfl ?_
        refine x_iconst (i := 5) c_iconst_5 hC (zdk dk_X12_operand 38 rfl) (q := 72) rfl ?_
        refine x_aload_n (i := 0) rfl hC (zdk dk_X12_operand 39 rfl) (q := 73) rfl ?_
        refine x_getI fl_RX12_23 (by decide) h_r0 hC (zdk dk_X12_operand 40 rfl) (q := 76) rfl ?_
        refine x_callVv (as := [.int 5, .int (zI z42.2 r0 4)]) cb_RX12_251 rfl (by decide) hk0 h_r0 (fun x hx => t_X12_blame h_r0 x hx) hC (zdk dk_X12_operand 41 rfl) (q := 79) rfl rfl (Nat.le_of_ble_eq_true rfl) (fun M43 => ?_)
        refine x_weak (L' := [.ref r0, .null, .null, .null]) ⟨Or.inr rfl, Or.inl rfl, Or.inl rfl, Or.inl rfl, trivial⟩ ?_
        exact x_X12_operand_79 hC hE hk0 h_r0 _
set_option maxRecDepth 100000 in
def f_X12_operand_45  (r0 : Nat) (x1 : Int32) (M : Mem) : Option (Int32 × Mem) := f_X12_operand_46 r0 x1 0 M
set_option maxRecDepth 100000 in
set_option maxHeartbeats 4000000 in
theorem x_X12_operand_45 {κ : KX} {n : Nat} (hC : CX κ cX12_operand RX12 4 (some .boolean) 3) (hE : zEnd κ n (0, 0)) (hk0 : zRk κ (0, 0)) {r0 : Nat} (h_r0 : zO n r0 12) (x1 : Int32) (M : Mem) : X κ 4 emI n (0, 0) 45 [.ref r0, .int x1, .null, .null] [] M (f_X12_operand_45 r0 x1 M) := by
  unfold f_X12_operand_45
  refine x_iconst (i := 0) c_iconst_0 hC (zdk dk_X12_operand 25 rfl) (q := 46) rfl ?_
  refine x_weak (L' := [.ref r0, .int x1, .null, .null]) ⟨Or.inr rfl, Or.inr rfl, Or.inl rfl, Or.inl rfl, trivial⟩ ?_
  exact x_X12_operand_46 hC hE hk0 h_r0 _ _ _
set_option maxRecDepth 100000 in
def f_X12_operand (r0 : Nat) (M : Mem) : Option (Int32 × Mem) := Option.bind (f_X12_lex r0 M) fun M44 => (if zI M44 r0 8 ≤ 0 then Option.bind (zrf M44 r0 24) fun q45 => Option.bind (zld q45 ((zI M44 r0 29) - 1)) fun k46 => Option.bind (f_X12_isTest (zI M44 q45 k46) M44) fun z47 => (if z47.1 = 0 then f_X12_operand_45 r0 ((zI M44 r0 29) - 1) z47.2 else Option.bind (zrf z47.2 r0 26) fun q48 => Option.bind (zld q48 ((zI M44 r0 29) - 1)) fun k49 => (if zI z47.2 q48 k49 = 0 then f_X12_operand_45 r0 ((zI M44 r0 29) - 1) z47.2 else f_X12_operand_46 r0 ((zI M44 r0 29) - 1) 1 z47.2)) else some (1, M44))
set_option maxRecDepth 100000 in
set_option maxHeartbeats 4000000 in
theorem x_X12_operand {κ : KX} {n : Nat} (hC : CX κ cX12_operand RX12 4 (some .boolean) 3) (hE : zEnd κ n (0, 0)) (hk0 : zRk κ (0, 0)) (r0 : Nat) (M : Mem) (h_r0 : zO n r0 12) : X κ 4 emI n (0, 0) 0 [.ref r0, .null, .null, .null] [] M (f_X12_operand r0 M) := by
  unfold f_X12_operand
  refine x_aload_n (i := 0) rfl hC (zdk dk_X12_operand 0 rfl) (q := 1) rfl ?_
  refine x_callVv (as := []) cb_RX12_262 rfl (by decide) hk0 h_r0 (fun x hx => t_X12_lex h_r0 x hx) hC (zdk dk_X12_operand 1 rfl) (q := 4) rfl rfl (Nat.le_of_ble_eq_true rfl) (fun M44 => ?_)
  refine x_aload_n (i := 0) rfl hC (zdk dk_X12_operand 2 rfl) (q := 5) rfl ?_
  refine x_getI fl_RX12_36 (by decide) h_r0 hC (zdk dk_X12_operand 3 rfl) (q := 8) rfl ?_
  refine x_if_le (tgt := 13) hC (zdk dk_X12_operand 4 rfl) (q := 11) rfl rfl (fun _ => ?_) (fun _ => ?_)
  · refine x_aload_n (i := 0) rfl hC (zdk dk_X12_operand 7 rfl) (q := 14) rfl ?_
    refine x_getI fl_RX12_101 (by decide) h_r0 hC (zdk dk_X12_operand 8 rfl) (q := 17) rfl ?_
    refine x_iconst (i := 1) c_iconst_1 hC (zdk dk_X12_operand 9 rfl) (q := 18) rfl ?_
    refine x_isub hC (zdk dk_X12_operand 10 rfl) (q := 19) rfl ?_
    refine x_istore_n (i := 1) (L' := [.ref r0, .int ((zI M44 r0 29) - 1), .null, .null]) (by decide) rfl hC (zdk dk_X12_operand 11 rfl) (q := 20) rfl ?_
    refine x_aload_n (i := 0) rfl hC (zdk dk_X12_operand 12 rfl) (q := 21) rfl ?_
    refine x_getR (k := 20) fl_RX12_85 rfl h_r0 hC (zdk dk_X12_operand 13 rfl) (q := 24) rfl (fun q45 hq45 => ?_)
    refine x_iload_n (i := 1) rfl hC (zdk dk_X12_operand 14 rfl) (q := 25) rfl ?_
    refine x_iald hq45 hC (zdk dk_X12_operand 15 rfl) (q := 26) rfl (fun k46 _ => ?_)
    refine x_callSi (as := [.int (zI M44 q45 k46)]) cb_RX12_338 rfl (by decide) hk0 (fun x hx => t_X12_isTest  x hx) hC (zdk dk_X12_operand 16 rfl) (q := 29) rfl rfl (Nat.le_of_ble_eq_true rfl) (fun z47 => ?_)
    refine x_if_eq (tgt := 45) hC (zdk dk_X12_operand 17 rfl) (q := 32) rfl rfl (fun _ => ?_) (fun _ => ?_)
    · refine x_weak (L' := [.ref r0, .int ((zI M44 r0 29) - 1), .null, .null]) ⟨Or.inr rfl, Or.inr rfl, Or.inl rfl, Or.inl rfl, trivial⟩ ?_
      exact x_X12_operand_45 hC hE hk0 h_r0 _ _
    · refine x_aload_n (i := 0) rfl hC (zdk dk_X12_operand 18 rfl) (q := 33) rfl ?_
      refine x_getR (k := 22) fl_RX12_91 rfl h_r0 hC (zdk dk_X12_operand 19 rfl) (q := 36) rfl (fun q48 hq48 => ?_)
      refine x_iload_n (i := 1) rfl hC (zdk dk_X12_operand 20 rfl) (q := 37) rfl ?_
      refine x_zald hq48 hC (zdk dk_X12_operand 21 rfl) (q := 38) rfl (fun k49 _ => ?_)
      refine x_if_eq (tgt := 45) hC (zdk dk_X12_operand 22 rfl) (q := 41) rfl rfl (fun _ => ?_) (fun _ => ?_)
      · refine x_weak (L' := [.ref r0, .int ((zI M44 r0 29) - 1), .null, .null]) ⟨Or.inr rfl, Or.inr rfl, Or.inl rfl, Or.inl rfl, trivial⟩ ?_
        exact x_X12_operand_45 hC hE hk0 h_r0 _ _
      · refine x_iconst (i := 1) c_iconst_1 hC (zdk dk_X12_operand 23 rfl) (q := 42) rfl ?_
        refine x_goto (tgt := 46) hC (zdk dk_X12_operand 24 rfl) rfl ?_
        refine x_weak (L' := [.ref r0, .int ((zI M44 r0 29) - 1), .null, .null]) ⟨Or.inr rfl, Or.inr rfl, Or.inl rfl, Or.inl rfl, trivial⟩ ?_
        exact x_X12_operand_46 hC hE hk0 h_r0 _ _ _
  · refine x_iconst (i := 1) c_iconst_1 hC (zdk dk_X12_operand 5 rfl) (q := 12) rfl ?_
    exact x_iret (ty := .boolean) rfl hE hC (zdk dk_X12_operand 6 rfl)
set_option maxRecDepth 100000 in
set_option maxHeartbeats 4000000 in
theorem t_X12_operand {n : Nat} {r0 : Nat} {M : Mem} (h_r0 : zO n r0 12) (x : (Int32 × Mem)) (hx : f_X12_operand r0 M = some x) (l : Launch) (dC : Nat → ClassId) (dI : Nat → Nat → Nat) (b : zSg) : MT l dC dI b yX12_operand cX12_operand 4 (some .boolean) 3 0 0 n n [.ref r0] M (emI x).1 (emI x).2 :=
  MT.ofX (by decide +kernel) rfl (Nat.le_of_ble_eq_true rfl) (fun κ hC hF _ => x_X12_operand hC (zEnd_of hF (Nat.le_refl _) (Nat.le_refl _)) (zRk_of hF (Nat.le_refl _) (Nat.le_refl _)) _ _ h_r0) x hx
set_option maxRecDepth 100000 in
def dt_X12_goesOn : List (Nat × Instr × Nat) := [(0, .aload_n 0, 1), (1, .invokevirtual 262, 3), (4, .aload_n 0, 1), (5, .getfield 36, 3), (8, .ifCond .le 5, 3), (11, .iconst 0, 1), (12, .ireturn, 1), (13, .aload_n 0, 1), (14, .getfield 101, 3), (17, .iconst 1, 1), (18, .isub, 1), (19, .istore_n 1, 1), (20, .aload_n 0, 1), (21, .getfield 85, 3), (24, .iload_n 1, 1), (25, .iaload, 1), (26, .istore_n 2, 1), (27, .iload_n 2, 1), (28, .invokestatic 338, 3), (31, .istore_n 3, 1), (32, .aload_n 0, 1), (33, .getfield 88, 3), (36, .iload_n 1, 1), (37, .iaload, 1), (38, .iconst 2, 1), (39, .if_icmp .ge 149, 3), (42, .aload_n 0, 1), (43, .bipush 43, 2), (45, .invokevirtual 265, 3), (48, .ifCond .ne 39, 3), (51, .aload_n 0, 1), (52, .bipush 45, 2), (54, .invokevirtual 265, 3), (57, .ifCond .ne 30, 3), (60, .aload_n 0, 1), (61, .bipush 42, 2), (63, .invokevirtual 265, 3), (66, .ifCond .ne 21, 3), (69, .aload_n 0, 1), (70, .bipush 47, 2), (72, .invokevirtual 265, 3), (75, .ifCond .ne 12, 3), (78, .aload_n 0, 1), (79, .bipush 37, 2), (81, .invokevirtual 265, 3), (84, .ifCond .eq 104, 3), (87, .aload_n 0, 1), (88, .aload_n 0, 1), (89, .bipush 43, 2), (91, .invokevirtual 265, 3), (94, .ifCond .ne 12, 3), (97, .aload_n 0, 1), (98, .bipush 45, 2), (100, .invokevirtual 265, 3), (103, .ifCond .eq 7, 3), (106, .iconst 5, 1), (107, .goto 5, 3), (110, .bipush 6, 2), (112, .invokevirtual 351, 3), (115, .aload_n 0, 1), (116, .aload_n 0, 1), (117, .bipush 43, 2), (119, .invokevirtual 265, 3), (122, .ifCond .eq 8, 3), (125, .bipush 31, 2), (127, .goto 47, 3), (130, .aload_n 0, 1), (131, .bipush 45, 2), (133, .invokevirtual 265, 3), (136, .ifCond .eq 8, 3), (139, .bipush 32, 2), (141, .goto 33, 3), (144, .aload_n 0, 1), (145, .bipush 42, 2), (147, .invokevirtual 265, 3), (150, .ifCond .eq 8, 3), (153, .bipush 33, 2), (155, .goto 19, 3), (158, .aload_n 0, 1), (159, .bipush 47, 2), (161, .invokevirtual 265, 3), (164, .ifCond .eq 8, 3), (167, .bipush 34, 2), (169, .goto 5, 3), (172, .bipush 35, 2), (174, .invokevirtual 345, 3), (177, .aload_n 0, 1), (178, .invokevirtual 268, 3), (181, .aload_n 0, 1), (182, .iconst 0, 1), (183, .putfield 113, 3), (186, .iconst 1, 1), (187, .ireturn, 1), (188, .iload_n 3, 1), (189, .ifCond .eq 96, 3), (192, .aload_n 0, 1), (193, .getfield 88, 3), (196, .iload_n 1, 1), (197, .iaload, 1), (198, .ifCond .ne 87, 3), (201, .aload_n 0, 1), (202, .bipush 60, 2), (204, .invokevirtual 265, 3), (207, .ifCond .ne 21, 3), (210, .aload_n 0, 1), (211, .bipush 62, 2), (213, .invokevirtual 265, 3), (216, .ifCond .ne 12, 3), (219, .aload_n 0, 1), (220, .bipush 61, 2), (222, .invokevirtual 265, 3), (225, .ifCond .eq 60, 3), (228, .aload_n 0, 1), (229, .iconst 5, 1), (230, .invokevirtual 351, 3), (233, .aload_n 0, 1), (234, .aload_n 0, 1), (235, .bipush 60, 2), (237, .invokevirtual 265, 3), (240, .ifCond .eq 8, 3), (243, .bipush 38, 2), (245, .goto 19, 3), (248, .aload_n 0, 1), (249, .bipush 62, 2), (251, .invokevirtual 265, 3), (254, .ifCond .eq 8, 3), (257, .bipush 39, 2), (259, .goto 5, 3), (262, .bipush 40, 2), (264, .invokevirtual 345, 3), (267, .aload_n 0, 1), (268, .getfield 88, 3), (271, .iload_n 1, 1), (272, .iconst 1, 1), (273, .iastore, 1), (274, .aload_n 0, 1), (275, .invokevirtual 268, 3), (278, .aload_n 0, 1), (279, .iconst 0, 1), (280, .putfield 113, 3), (283, .iconst 1, 1), (284, .ireturn, 1), (285, .iload_n 3, 1), (286, .ifCond .eq 114, 3), (289, .aload_n 0, 1), (290, .ldc2_w 315, 3), (293, .invokevirtual 341, 3), (296, .ifCond .ne 13, 3), (299, .aload_n 0, 1), (300, .ldc2_w 313, 3), (303, .invokevirtual 341, 3), (306, .ifCond .eq 94, 3), (309, .aload_n 0, 1), (310, .getfield 88, 3), (313, .iload_n 1, 1), (314, .iaload, 1), (315, .ifCond .ne 12, 3), (318, .aload_n 0, 1), (319, .iconst 1, 1), (320, .aload_n 0, 1), (321, .getfield 23, 3), (324, .invokevirtual 251, 3), (327, .aload_n 0, 1), (328, .getfield 36, 3), (331, .ifCond .le 5, 3), (334, .iconst 0, 1), (335, .ireturn, 1), (336, .aload_n 0, 1), (337, .ldc2_w 315, 3), (340, .invokevirtual 341, 3), (343, .istore 4, 2), (345, .aload_n 0, 1), (346, .iload 4, 2), (348, .ifCond .eq 7, 3), (351, .iconst 2, 1), (352, .goto 4, 3), (355, .iconst 1, 1), (356, .invokevirtual 351, 3), (359, .aload_n 0, 1), (360, .iload 4, 2), (362, .ifCond .eq 8, 3), (365, .bipush 41, 2), (367, .goto 5, 3), (370, .bipush 42, 2), (372, .invokevirtual 345, 3), (375, .aload_n 0, 1), (376, .getfield 88, 3), (379, .iload_n 1, 1), (380, .iconst 0, 1), (381, .iastore, 1), (382, .aload_n 0, 1), (383, .getfield 91, 3), (386, .iload_n 1, 1), (387, .iconst 1, 1), (388, .bastore, 1), (389, .aload_n 0, 1), (390, .invokevirtual 268, 3), (393, .aload_n 0, 1), (394, .iconst 0, 1), (395, .putfield 113, 3), (398, .iconst 1, 1), (399, .ireturn, 1), (400, .iload_n 3, 1), (401, .ifCond .eq 21, 3), (404, .aload_n 0, 1), (405, .getfield 88, 3), (408, .iload_n 1, 1), (409, .iaload, 1), (410, .ifCond .ne 12, 3), (413, .aload_n 0, 1), (414, .iconst 1, 1), (415, .aload_n 0, 1), (416, .getfield 23, 3), (419, .invokevirtual 251, 3), (422, .iload_n 2, 1), (423, .iconst 2, 1), (424, .if_icmp .ge 17, 3), (427, .aload_n 0, 1), (428, .getfield 36, 3), (431, .ifCond .ne 8, 3), (434, .aload_n 0, 1), (435, .iconst 1, 1), (436, .invokevirtual 351, 3), (439, .iconst 0, 1), (440, .ireturn, 1), (441, .iload_n 2, 1), (442, .iconst 3, 1), (443, .if_icmp .eq 9, 3), (446, .iload_n 2, 1), (447, .bipush 6, 2), (449, .if_icmp .ne 69, 3), (452, .aload_n 0, 1), (453, .bipush 44, 2), (455, .invokevirtual 265, 3), (458, .ifCond .ne 12, 3), (461, .aload_n 0, 1), (462, .iconst 1, 1), (463, .aload_n 0, 1), (464, .getfield 23, 3), (467, .invokevirtual 251, 3), (470, .aload_n 0, 1), (471, .getfield 36, 3), (474, .ifCond .le 5, 3), (477, .iconst 0, 1), (478, .ireturn, 1), (479, .aload_n 0, 1), (480, .iconst 1, 1), (481, .invokevirtual 351, 3), (484, .aload_n 0, 1), (485, .getfield 85, 3), (488, .iload_n 1, 1), (489, .iload_n 2, 1), (490, .iconst 3, 1), (491, .if_icmp .ne 7, 3), (494, .iconst 4, 1), (495, .goto 4, 3), (498, .iconst 3, 1), (499, .iastore, 1), (500, .aload_n 0, 1), (501, .getfield 88, 3), (504, .iload_n 1, 1), (505, .iconst 0, 1), (506, .iastore, 1), (507, .aload_n 0, 1), (508, .invokevirtual 268, 3), (511, .aload_n 0, 1), (512, .iconst 0, 1), (513, .putfield 113, 3), (516, .iconst 1, 1), (517, .ireturn, 1), (518, .aload_n 0, 1), (519, .iload_n 2, 1), (520, .iconst 5, 1), (521, .if_icmp .ne 8, 3), (524, .bipush 93, 2), (526, .goto 5, 3), (529, .bipush 41, 2), (531, .invokevirtual 265, 3), (534, .ifCond .ne 12, 3), (537, .aload_n 0, 1), (538, .iconst 1, 1), (539, .aload_n 0, 1), (540, .getfield 23, 3), (543, .invokevirtual 251, 3), (546, .aload_n 0, 1), (547, .getfield 36, 3), (550, .ifCond .le 5, 3), (553, .iconst 0, 1), (554, .ireturn, 1), (555, .aload_n 0, 1), (556, .iconst 1, 1), (557, .invokevirtual 351, 3), (560, .aload_n 0, 1), (561, .dup, 1), (562, .getfield 101, 3), (565, .iconst 1, 1), (566, .isub, 1), (567, .putfield 101, 3), (570, .aload_n 0, 1), (571, .dup, 1), (572, .getfield 104, 3), (575, .iconst 1, 1), (576, .isub, 1), (577, .putfield 104, 3), (580, .iload_n 2, 1), (581, .iconst 4, 1), (582, .if_icmp .ne 14, 3), (585, .aload_n 0, 1), (586, .aload_n 0, 1), (587, .getfield 95, 3), (590, .iload_n 1, 1), (591, .iaload, 1), (592, .iconst 0, 1), (593, .invokevirtual 332, 3), (596, .iload_n 2, 1), (597, .iconst 5, 1), (598, .if_icmp .ne 15, 3), (601, .aload_n 0, 1), (602, .getfield 88, 3), (605, .aload_n 0, 1), (606, .getfield 101, 3), (609, .iconst 1, 1), (610, .isub, 1), (611, .iconst 2, 1), (612, .iastore, 1), (613, .aload_n 0, 1), (614, .invokevirtual 268, 3), (617, .iconst 1, 1), (618, .ireturn, 1)]
set_option maxRecDepth 100000 in
theorem dk_X12_goesOn : dt_X12_goesOn.all (fun q => decide (decode cX12_goesOn q.1 = .ok q.2)) = true := by decide +kernel
set_option maxRecDepth 100000 in
def f_X12_goesOn_174  (r0 : Nat) (s0 : Nat) (s1 : Int32) (M : Mem) : Option (Int32 × Mem) := Option.bind (f_X12_holdsBack s0 s1 M) fun M1 => Option.bind (f_X12_ahead r0 M1) fun M2 => Option.bind (some (zsI M2 r0 33 0)) fun M3 => some (1, M3)
set_option maxRecDepth 100000 in
set_option maxHeartbeats 4000000 in
theorem x_X12_goesOn_174 {κ : KX} {n : Nat} (hC : CX κ cX12_goesOn RX12 5 (some .boolean) 2) (hE : zEnd κ n (0, 0)) (hk0 : zRk κ (0, 0)) {r0 : Nat} (h_r0 : zO n r0 12) (s0 : Nat) (s1 : Int32) (M : Mem) (h_s0 : zO n s0 12) : X κ 5 emI n (0, 0) 174 [.ref r0, .null, .null, .null, .null] [.int s1, .ref s0] M (f_X12_goesOn_174 r0 s0 s1 M) := by
  unfold f_X12_goesOn_174
  refine x_callVv (as := [.int s1]) cb_RX12_345 rfl (by decide) hk0 h_s0 (fun x hx => t_X12_holdsBack h_s0 x hx) hC (zdk dk_X12_goesOn 85 rfl) (q := 177) rfl rfl (Nat.le_of_ble_eq_true rfl) (fun M1 => ?_)
  refine x_aload_n (i := 0) rfl hC (zdk dk_X12_goesOn 86 rfl) (q := 178) rfl ?_
  refine x_callVv (as := []) cb_RX12_268 rfl (by decide) hk0 h_r0 (fun x hx => t_X12_ahead h_r0 x hx) hC (zdk dk_X12_goesOn 87 rfl) (q := 181) rfl rfl (Nat.le_of_ble_eq_true rfl) (fun M2 => ?_)
  refine x_aload_n (i := 0) rfl hC (zdk dk_X12_goesOn 88 rfl) (q := 182) rfl ?_
  refine x_iconst (i := 0) c_iconst_0 hC (zdk dk_X12_goesOn 89 rfl) (q := 183) rfl ?_
  refine x_putI fl_RX12_113 ⟨rfl, rfl⟩ (by decide) (Or.inl rfl) h_r0 hC (zdk dk_X12_goesOn 90 rfl) (q := 186) rfl ?_
  refine x_nmM (fun M3 => ?_)
  refine x_iconst (i := 1) c_iconst_1 hC (zdk dk_X12_goesOn 91 rfl) (q := 187) rfl ?_
  exact x_iret (ty := .boolean) rfl hE hC (zdk dk_X12_goesOn 92 rfl)
set_option maxRecDepth 100000 in
def f_X12_goesOn_112  (r0 : Nat) (s0 : Nat) (s1 : Int32) (M : Mem) : Option (Int32 × Mem) := Option.bind (f_X12_joins s0 s1 M) fun M4 => Option.bind (f_X12_isSign r0 43 M4) fun z5 => (if z5.1 = 0 then Option.bind (f_X12_isSign r0 45 z5.2) fun z6 => (if z6.1 = 0 then Option.bind (f_X12_isSign r0 42 z6.2) fun z7 => (if z7.1 = 0 then Option.bind (f_X12_isSign r0 47 z7.2) fun z8 => (if z8.1 = 0 then f_X12_goesOn_174 r0 r0 35 z8.2 else f_X12_goesOn_174 r0 r0 34 z8.2) else f_X12_goesOn_174 r0 r0 33 z7.2) else f_X12_goesOn_174 r0 r0 32 z6.2) else f_X12_goesOn_174 r0 r0 31 z5.2)
set_option maxRecDepth 100000 in
set_option maxHeartbeats 4000000 in
theorem x_X12_goesOn_112 {κ : KX} {n : Nat} (hC : CX κ cX12_goesOn RX12 5 (some .boolean) 2) (hE : zEnd κ n (0, 0)) (hk0 : zRk κ (0, 0)) {r0 : Nat} (h_r0 : zO n r0 12) (s0 : Nat) (s1 : Int32) (M : Mem) (h_s0 : zO n s0 12) : X κ 5 emI n (0, 0) 112 [.ref r0, .null, .null, .null, .null] [.int s1, .ref s0] M (f_X12_goesOn_112 r0 s0 s1 M) := by
  unfold f_X12_goesOn_112
  refine x_callVv (as := [.int s1]) cb_RX12_351 rfl (by decide) hk0 h_s0 (fun x hx => t_X12_joins h_s0 x hx) hC (zdk dk_X12_goesOn 58 rfl) (q := 115) rfl rfl (Nat.le_of_ble_eq_true rfl) (fun M4 => ?_)
  refine x_aload_n (i := 0) rfl hC (zdk dk_X12_goesOn 59 rfl) (q := 116) rfl ?_
  refine x_aload_n (i := 0) rfl hC (zdk dk_X12_goesOn 60 rfl) (q := 117) rfl ?_
  refine x_bipush (i := 43) c_bipush_43 hC (zdk dk_X12_goesOn 61 rfl) (q := 119) rfl ?_
  refine x_callVi (as := [.int 43]) cb_RX12_265 rfl (by decide) hk0 h_r0 (fun x hx => t_X12_isSign h_r0 x hx) hC (zdk dk_X12_goesOn 62 rfl) (q := 122) rfl rfl (Nat.le_of_ble_eq_true rfl) (fun z5 => ?_)
  refine x_if_eq (tgt := 130) hC (zdk dk_X12_goesOn 63 rfl) (q := 125) rfl rfl (fun _ => ?_) (fun _ => ?_)
  · refine x_aload_n (i := 0) rfl hC (zdk dk_X12_goesOn 66 rfl) (q := 131) rfl ?_
    refine x_bipush (i := 45) c_bipush_45 hC (zdk dk_X12_goesOn 67 rfl) (q := 133) rfl ?_
    refine x_callVi (as := [.int 45]) cb_RX12_265 rfl (by decide) hk0 h_r0 (fun x hx => t_X12_isSign h_r0 x hx) hC (zdk dk_X12_goesOn 68 rfl) (q := 136) rfl rfl (Nat.le_of_ble_eq_true rfl) (fun z6 => ?_)
    refine x_if_eq (tgt := 144) hC (zdk dk_X12_goesOn 69 rfl) (q := 139) rfl rfl (fun _ => ?_) (fun _ => ?_)
    · refine x_aload_n (i := 0) rfl hC (zdk dk_X12_goesOn 72 rfl) (q := 145) rfl ?_
      refine x_bipush (i := 42) c_bipush_42 hC (zdk dk_X12_goesOn 73 rfl) (q := 147) rfl ?_
      refine x_callVi (as := [.int 42]) cb_RX12_265 rfl (by decide) hk0 h_r0 (fun x hx => t_X12_isSign h_r0 x hx) hC (zdk dk_X12_goesOn 74 rfl) (q := 150) rfl rfl (Nat.le_of_ble_eq_true rfl) (fun z7 => ?_)
      refine x_if_eq (tgt := 158) hC (zdk dk_X12_goesOn 75 rfl) (q := 153) rfl rfl (fun _ => ?_) (fun _ => ?_)
      · refine x_aload_n (i := 0) rfl hC (zdk dk_X12_goesOn 78 rfl) (q := 159) rfl ?_
        refine x_bipush (i := 47) c_bipush_47 hC (zdk dk_X12_goesOn 79 rfl) (q := 161) rfl ?_
        refine x_callVi (as := [.int 47]) cb_RX12_265 rfl (by decide) hk0 h_r0 (fun x hx => t_X12_isSign h_r0 x hx) hC (zdk dk_X12_goesOn 80 rfl) (q := 164) rfl rfl (Nat.le_of_ble_eq_true rfl) (fun z8 => ?_)
        refine x_if_eq (tgt := 172) hC (zdk dk_X12_goesOn 81 rfl) (q := 167) rfl rfl (fun _ => ?_) (fun _ => ?_)
        · refine x_bipush (i := 35) c_bipush_35 hC (zdk dk_X12_goesOn 84 rfl) (q := 174) rfl ?_
          refine x_weak (L' := [.ref r0, .null, .null, .null, .null]) ⟨Or.inr rfl, Or.inl rfl, Or.inl rfl, Or.inl rfl, Or.inl rfl, trivial⟩ ?_
          exact x_X12_goesOn_174 hC hE hk0 h_r0 _ _ _ h_r0
        · refine x_bipush (i := 34) c_bipush_34 hC (zdk dk_X12_goesOn 82 rfl) (q := 169) rfl ?_
          refine x_goto (tgt := 174) hC (zdk dk_X12_goesOn 83 rfl) rfl ?_
          refine x_weak (L' := [.ref r0, .null, .null, .null, .null]) ⟨Or.inr rfl, Or.inl rfl, Or.inl rfl, Or.inl rfl, Or.inl rfl, trivial⟩ ?_
          exact x_X12_goesOn_174 hC hE hk0 h_r0 _ _ _ h_r0
      · refine x_bipush (i := 33) c_bipush_33 hC (zdk dk_X12_goesOn 76 rfl) (q := 155) rfl ?_
        refine x_goto (tgt := 174) hC (zdk dk_X12_goesOn 77 rfl) rfl ?_
        refine x_weak (L' := [.ref r0, .null, .null, .null, .null]) ⟨Or.inr rfl, Or.inl rfl, Or.inl rfl, Or.inl rfl, Or.inl rfl, trivial⟩ ?_
        exact x_X12_goesOn_174 hC hE hk0 h_r0 _ _ _ h_r0
    · refine x_bipush (i := 32) c_bipush_32 hC (zdk dk_X12_goesOn 70 rfl) (q := 141) rfl ?_
      refine x_goto (tgt := 174) hC (zdk dk_X12_goesOn 71 rfl) rfl ?_
      refine x_weak (L' := [.ref r0, .null, .null, .null, .null]) ⟨Or.inr rfl, Or.inl rfl, Or.inl rfl, Or.inl rfl, Or.inl rfl, trivial⟩ ?_
      exact x_X12_goesOn_174 hC hE hk0 h_r0 _ _ _ h_r0
  · refine x_bipush (i := 31) c_bipush_31 hC (zdk dk_X12_goesOn 64 rfl) (q := 127) rfl ?_
    refine x_goto (tgt := 174) hC (zdk dk_X12_goesOn 65 rfl) rfl ?_
    refine x_weak (L' := [.ref r0, .null, .null, .null, .null]) ⟨Or.inr rfl, Or.inl rfl, Or.inl rfl, Or.inl rfl, Or.inl rfl, trivial⟩ ?_
    exact x_X12_goesOn_174 hC hE hk0 h_r0 _ _ _ h_r0
set_option maxRecDepth 100000 in
def f_X12_goesOn_106  (r0 : Nat) (s0 : Nat) (M : Mem) : Option (Int32 × Mem) := f_X12_goesOn_112 r0 s0 5 M
set_option maxRecDepth 100000 in
set_option maxHeartbeats 4000000 in
theorem x_X12_goesOn_106 {κ : KX} {n : Nat} (hC : CX κ cX12_goesOn RX12 5 (some .boolean) 2) (hE : zEnd κ n (0, 0)) (hk0 : zRk κ (0, 0)) {r0 : Nat} (h_r0 : zO n r0 12) (s0 : Nat) (M : Mem) (h_s0 : zO n s0 12) : X κ 5 emI n (0, 0) 106 [.ref r0, .null, .null, .null, .null] [.ref s0] M (f_X12_goesOn_106 r0 s0 M) := by
  unfold f_X12_goesOn_106
  refine x_iconst (i := 5) c_iconst_5 hC (zdk dk_X12_goesOn 55 rfl) (q := 107) rfl ?_
  refine x_goto (tgt := 112) hC (zdk dk_X12_goesOn 56 rfl) rfl ?_
  refine x_weak (L' := [.ref r0, .null, .null, .null, .null]) ⟨Or.inr rfl, Or.inl rfl, Or.inl rfl, Or.inl rfl, Or.inl rfl, trivial⟩ ?_
  exact x_X12_goesOn_112 hC hE hk0 h_r0 _ _ _ h_s0
set_option maxRecDepth 100000 in
def f_X12_goesOn_87  (r0 : Nat)  (M : Mem) : Option (Int32 × Mem) := Option.bind (f_X12_isSign r0 43 M) fun z9 => (if z9.1 = 0 then Option.bind (f_X12_isSign r0 45 z9.2) fun z10 => (if z10.1 = 0 then f_X12_goesOn_112 r0 r0 6 z10.2 else f_X12_goesOn_106 r0 r0 z10.2) else f_X12_goesOn_106 r0 r0 z9.2)
set_option maxRecDepth 100000 in
set_option maxHeartbeats 4000000 in
theorem x_X12_goesOn_87 {κ : KX} {n : Nat} (hC : CX κ cX12_goesOn RX12 5 (some .boolean) 2) (hE : zEnd κ n (0, 0)) (hk0 : zRk κ (0, 0)) {r0 : Nat} (h_r0 : zO n r0 12) (M : Mem) : X κ 5 emI n (0, 0) 87 [.ref r0, .null, .null, .null, .null] [] M (f_X12_goesOn_87 r0 M) := by
  unfold f_X12_goesOn_87
  refine x_aload_n (i := 0) rfl hC (zdk dk_X12_goesOn 46 rfl) (q := 88) rfl ?_
  refine x_aload_n (i := 0) rfl hC (zdk dk_X12_goesOn 47 rfl) (q := 89) rfl ?_
  refine x_bipush (i := 43) c_bipush_43 hC (zdk dk_X12_goesOn 48 rfl) (q := 91) rfl ?_
  refine x_callVi (as := [.int 43]) cb_RX12_265 rfl (by decide) hk0 h_r0 (fun x hx => t_X12_isSign h_r0 x hx) hC (zdk dk_X12_goesOn 49 rfl) (q := 94) rfl rfl (Nat.le_of_ble_eq_true rfl) (fun z9 => ?_)
  refine x_if_ne (tgt := 106) hC (zdk dk_X12_goesOn 50 rfl) (q := 97) rfl rfl (fun _ => ?_) (fun _ => ?_)
  · refine x_weak (L' := [.ref r0, .null, .null, .null, .null]) ⟨Or.inr rfl, Or.inl rfl, Or.inl rfl, Or.inl rfl, Or.inl rfl, trivial⟩ ?_
    exact x_X12_goesOn_106 hC hE hk0 h_r0 _ _ h_r0
  · refine x_aload_n (i := 0) rfl hC (zdk dk_X12_goesOn 51 rfl) (q := 98) rfl ?_
    refine x_bipush (i := 45) c_bipush_45 hC (zdk dk_X12_goesOn 52 rfl) (q := 100) rfl ?_
    refine x_callVi (as := [.int 45]) cb_RX12_265 rfl (by decide) hk0 h_r0 (fun x hx => t_X12_isSign h_r0 x hx) hC (zdk dk_X12_goesOn 53 rfl) (q := 103) rfl rfl (Nat.le_of_ble_eq_true rfl) (fun z10 => ?_)
    refine x_if_eq (tgt := 110) hC (zdk dk_X12_goesOn 54 rfl) (q := 106) rfl rfl (fun _ => ?_) (fun _ => ?_)
    · refine x_bipush (i := 6) c_bipush_6 hC (zdk dk_X12_goesOn 57 rfl) (q := 112) rfl ?_
      refine x_weak (L' := [.ref r0, .null, .null, .null, .null]) ⟨Or.inr rfl, Or.inl rfl, Or.inl rfl, Or.inl rfl, Or.inl rfl, trivial⟩ ?_
      exact x_X12_goesOn_112 hC hE hk0 h_r0 _ _ _ h_r0
    · refine x_weak (L' := [.ref r0, .null, .null, .null, .null]) ⟨Or.inr rfl, Or.inl rfl, Or.inl rfl, Or.inl rfl, Or.inl rfl, trivial⟩ ?_
      exact x_X12_goesOn_106 hC hE hk0 h_r0 _ _ h_r0
set_option maxRecDepth 100000 in
def f_X12_goesOn_264  (r0 : Nat) (x1 : Int32) (s0 : Nat) (s1 : Int32) (M : Mem) : Option (Int32 × Mem) := Option.bind (f_X12_holdsBack s0 s1 M) fun M11 => Option.bind (zrf M11 r0 25) fun q12 => Option.bind (zld q12 x1) fun k13 => Option.bind (some (zsI M11 q12 k13 1)) fun M14 => Option.bind (f_X12_ahead r0 M14) fun M15 => Option.bind (some (zsI M15 r0 33 0)) fun M16 => some (1, M16)
set_option maxRecDepth 100000 in
set_option maxHeartbeats 4000000 in
theorem x_X12_goesOn_264 {κ : KX} {n : Nat} (hC : CX κ cX12_goesOn RX12 5 (some .boolean) 2) (hE : zEnd κ n (0, 0)) (hk0 : zRk κ (0, 0)) {r0 : Nat} (h_r0 : zO n r0 12) (x1 : Int32) (s0 : Nat) (s1 : Int32) (M : Mem) (h_s0 : zO n s0 12) : X κ 5 emI n (0, 0) 264 [.ref r0, .int x1, .null, .null, .null] [.int s1, .ref s0] M (f_X12_goesOn_264 r0 x1 s0 s1 M) := by
  unfold f_X12_goesOn_264
  refine x_callVv (as := [.int s1]) cb_RX12_345 rfl (by decide) hk0 h_s0 (fun x hx => t_X12_holdsBack h_s0 x hx) hC (zdk dk_X12_goesOn 129 rfl) (q := 267) rfl rfl (Nat.le_of_ble_eq_true rfl) (fun M11 => ?_)
  refine x_aload_n (i := 0) rfl hC (zdk dk_X12_goesOn 130 rfl) (q := 268) rfl ?_
  refine x_getR (k := 20) fl_RX12_88 rfl h_r0 hC (zdk dk_X12_goesOn 131 rfl) (q := 271) rfl (fun q12 hq12 => ?_)
  refine x_iload_n (i := 1) rfl hC (zdk dk_X12_goesOn 132 rfl) (q := 272) rfl ?_
  refine x_iconst (i := 1) c_iconst_1 hC (zdk dk_X12_goesOn 133 rfl) (q := 273) rfl ?_
  refine x_iast hq12 hC (zdk dk_X12_goesOn 134 rfl) (q := 274) rfl (fun k13 _ => ?_)
  refine x_nmM (fun M14 => ?_)
  refine x_aload_n (i := 0) rfl hC (zdk dk_X12_goesOn 135 rfl) (q := 275) rfl ?_
  refine x_callVv (as := []) cb_RX12_268 rfl (by decide) hk0 h_r0 (fun x hx => t_X12_ahead h_r0 x hx) hC (zdk dk_X12_goesOn 136 rfl) (q := 278) rfl rfl (Nat.le_of_ble_eq_true rfl) (fun M15 => ?_)
  refine x_aload_n (i := 0) rfl hC (zdk dk_X12_goesOn 137 rfl) (q := 279) rfl ?_
  refine x_iconst (i := 0) c_iconst_0 hC (zdk dk_X12_goesOn 138 rfl) (q := 280) rfl ?_
  refine x_putI fl_RX12_113 ⟨rfl, rfl⟩ (by decide) (Or.inl rfl) h_r0 hC (zdk dk_X12_goesOn 139 rfl) (q := 283) rfl ?_
  refine x_nmM (fun M16 => ?_)
  refine x_iconst (i := 1) c_iconst_1 hC (zdk dk_X12_goesOn 140 rfl) (q := 284) rfl ?_
  exact x_iret (ty := .boolean) rfl hE hC (zdk dk_X12_goesOn 141 rfl)
set_option maxRecDepth 100000 in
def f_X12_goesOn_228  (r0 : Nat) (x1 : Int32) (M : Mem) : Option (Int32 × Mem) := Option.bind (f_X12_joins r0 5 M) fun M17 => Option.bind (f_X12_isSign r0 60 M17) fun z18 => (if z18.1 = 0 then Option.bind (f_X12_isSign r0 62 z18.2) fun z19 => (if z19.1 = 0 then f_X12_goesOn_264 r0 x1 r0 40 z19.2 else f_X12_goesOn_264 r0 x1 r0 39 z19.2) else f_X12_goesOn_264 r0 x1 r0 38 z18.2)
set_option maxRecDepth 100000 in
set_option maxHeartbeats 4000000 in
theorem x_X12_goesOn_228 {κ : KX} {n : Nat} (hC : CX κ cX12_goesOn RX12 5 (some .boolean) 2) (hE : zEnd κ n (0, 0)) (hk0 : zRk κ (0, 0)) {r0 : Nat} (h_r0 : zO n r0 12) (x1 : Int32) (M : Mem) : X κ 5 emI n (0, 0) 228 [.ref r0, .int x1, .null, .null, .null] [] M (f_X12_goesOn_228 r0 x1 M) := by
  unfold f_X12_goesOn_228
  refine x_aload_n (i := 0) rfl hC (zdk dk_X12_goesOn 112 rfl) (q := 229) rfl ?_
  refine x_iconst (i := 5) c_iconst_5 hC (zdk dk_X12_goesOn 113 rfl) (q := 230) rfl ?_
  refine x_callVv (as := [.int 5]) cb_RX12_351 rfl (by decide) hk0 h_r0 (fun x hx => t_X12_joins h_r0 x hx) hC (zdk dk_X12_goesOn 114 rfl) (q := 233) rfl rfl (Nat.le_of_ble_eq_true rfl) (fun M17 => ?_)
  refine x_aload_n (i := 0) rfl hC (zdk dk_X12_goesOn 115 rfl) (q := 234) rfl ?_
  refine x_aload_n (i := 0) rfl hC (zdk dk_X12_goesOn 116 rfl) (q := 235) rfl ?_
  refine x_bipush (i := 60) c_bipush_60 hC (zdk dk_X12_goesOn 117 rfl) (q := 237) rfl ?_
  refine x_callVi (as := [.int 60]) cb_RX12_265 rfl (by decide) hk0 h_r0 (fun x hx => t_X12_isSign h_r0 x hx) hC (zdk dk_X12_goesOn 118 rfl) (q := 240) rfl rfl (Nat.le_of_ble_eq_true rfl) (fun z18 => ?_)
  refine x_if_eq (tgt := 248) hC (zdk dk_X12_goesOn 119 rfl) (q := 243) rfl rfl (fun _ => ?_) (fun _ => ?_)
  · refine x_aload_n (i := 0) rfl hC (zdk dk_X12_goesOn 122 rfl) (q := 249) rfl ?_
    refine x_bipush (i := 62) c_bipush_62 hC (zdk dk_X12_goesOn 123 rfl) (q := 251) rfl ?_
    refine x_callVi (as := [.int 62]) cb_RX12_265 rfl (by decide) hk0 h_r0 (fun x hx => t_X12_isSign h_r0 x hx) hC (zdk dk_X12_goesOn 124 rfl) (q := 254) rfl rfl (Nat.le_of_ble_eq_true rfl) (fun z19 => ?_)
    refine x_if_eq (tgt := 262) hC (zdk dk_X12_goesOn 125 rfl) (q := 257) rfl rfl (fun _ => ?_) (fun _ => ?_)
    · refine x_bipush (i := 40) c_bipush_40 hC (zdk dk_X12_goesOn 128 rfl) (q := 264) rfl ?_
      refine x_weak (L' := [.ref r0, .int x1, .null, .null, .null]) ⟨Or.inr rfl, Or.inr rfl, Or.inl rfl, Or.inl rfl, Or.inl rfl, trivial⟩ ?_
      exact x_X12_goesOn_264 hC hE hk0 h_r0 _ _ _ _ h_r0
    · refine x_bipush (i := 39) c_bipush_39 hC (zdk dk_X12_goesOn 126 rfl) (q := 259) rfl ?_
      refine x_goto (tgt := 264) hC (zdk dk_X12_goesOn 127 rfl) rfl ?_
      refine x_weak (L' := [.ref r0, .int x1, .null, .null, .null]) ⟨Or.inr rfl, Or.inr rfl, Or.inl rfl, Or.inl rfl, Or.inl rfl, trivial⟩ ?_
      exact x_X12_goesOn_264 hC hE hk0 h_r0 _ _ _ _ h_r0
  · refine x_bipush (i := 38) c_bipush_38 hC (zdk dk_X12_goesOn 120 rfl) (q := 245) rfl ?_
    refine x_goto (tgt := 264) hC (zdk dk_X12_goesOn 121 rfl) rfl ?_
    refine x_weak (L' := [.ref r0, .int x1, .null, .null, .null]) ⟨Or.inr rfl, Or.inr rfl, Or.inl rfl, Or.inl rfl, Or.inl rfl, trivial⟩ ?_
    exact x_X12_goesOn_264 hC hE hk0 h_r0 _ _ _ _ h_r0
set_option maxRecDepth 100000 in
def f_X12_goesOn_372  (r0 : Nat) (x1 : Int32) (s0 : Nat) (s1 : Int32) (M : Mem) : Option (Int32 × Mem) := Option.bind (f_X12_holdsBack s0 s1 M) fun M20 => Option.bind (zrf M20 r0 25) fun q21 => Option.bind (zld q21 x1) fun k22 => Option.bind (some (zsI M20 q21 k22 0)) fun M23 => Option.bind (zrf M23 r0 26) fun q24 => Option.bind (zld q24 x1) fun k25 => Option.bind (some (zsI M23 q24 k25 1)) fun M26 => Option.bind (f_X12_ahead r0 M26) fun M27 => Option.bind (some (zsI M27 r0 33 0)) fun M28 => some (1, M28)
set_option maxRecDepth 100000 in
set_option maxHeartbeats 4000000 in
theorem x_X12_goesOn_372 {κ : KX} {n : Nat} (hC : CX κ cX12_goesOn RX12 5 (some .boolean) 2) (hE : zEnd κ n (0, 0)) (hk0 : zRk κ (0, 0)) {r0 : Nat} (h_r0 : zO n r0 12) (x1 : Int32) (s0 : Nat) (s1 : Int32) (M : Mem) (h_s0 : zO n s0 12) : X κ 5 emI n (0, 0) 372 [.ref r0, .int x1, .null, .null, .null] [.int s1, .ref s0] M (f_X12_goesOn_372 r0 x1 s0 s1 M) := by
  unfold f_X12_goesOn_372
  refine x_callVv (as := [.int s1]) cb_RX12_345 rfl (by decide) hk0 h_s0 (fun x hx => t_X12_holdsBack h_s0 x hx) hC (zdk dk_X12_goesOn 184 rfl) (q := 375) rfl rfl (Nat.le_of_ble_eq_true rfl) (fun M20 => ?_)
  refine x_aload_n (i := 0) rfl hC (zdk dk_X12_goesOn 185 rfl) (q := 376) rfl ?_
  refine x_getR (k := 20) fl_RX12_88 rfl h_r0 hC (zdk dk_X12_goesOn 186 rfl) (q := 379) rfl (fun q21 hq21 => ?_)
  refine x_iload_n (i := 1) rfl hC (zdk dk_X12_goesOn 187 rfl) (q := 380) rfl ?_
  refine x_iconst (i := 0) c_iconst_0 hC (zdk dk_X12_goesOn 188 rfl) (q := 381) rfl ?_
  refine x_iast hq21 hC (zdk dk_X12_goesOn 189 rfl) (q := 382) rfl (fun k22 _ => ?_)
  refine x_nmM (fun M23 => ?_)
  refine x_aload_n (i := 0) rfl hC (zdk dk_X12_goesOn 190 rfl) (q := 383) rfl ?_
  refine x_getR (k := 22) fl_RX12_91 rfl h_r0 hC (zdk dk_X12_goesOn 191 rfl) (q := 386) rfl (fun q24 hq24 => ?_)
  refine x_iload_n (i := 1) rfl hC (zdk dk_X12_goesOn 192 rfl) (q := 387) rfl ?_
  refine x_iconst (i := 1) c_iconst_1 hC (zdk dk_X12_goesOn 193 rfl) (q := 388) rfl ?_
  refine x_zast (by rfl) hq24 hC (zdk dk_X12_goesOn 194 rfl) (q := 389) rfl (fun k25 _ => ?_)
  refine x_nmM (fun M26 => ?_)
  refine x_aload_n (i := 0) rfl hC (zdk dk_X12_goesOn 195 rfl) (q := 390) rfl ?_
  refine x_callVv (as := []) cb_RX12_268 rfl (by decide) hk0 h_r0 (fun x hx => t_X12_ahead h_r0 x hx) hC (zdk dk_X12_goesOn 196 rfl) (q := 393) rfl rfl (Nat.le_of_ble_eq_true rfl) (fun M27 => ?_)
  refine x_aload_n (i := 0) rfl hC (zdk dk_X12_goesOn 197 rfl) (q := 394) rfl ?_
  refine x_iconst (i := 0) c_iconst_0 hC (zdk dk_X12_goesOn 198 rfl) (q := 395) rfl ?_
  refine x_putI fl_RX12_113 ⟨rfl, rfl⟩ (by decide) (Or.inl rfl) h_r0 hC (zdk dk_X12_goesOn 199 rfl) (q := 398) rfl ?_
  refine x_nmM (fun M28 => ?_)
  refine x_iconst (i := 1) c_iconst_1 hC (zdk dk_X12_goesOn 200 rfl) (q := 399) rfl ?_
  exact x_iret (ty := .boolean) rfl hE hC (zdk dk_X12_goesOn 201 rfl)
set_option maxRecDepth 100000 in
def f_X12_goesOn_356  (r0 : Nat) (x1 : Int32) (x4 : Int32) (s0 : Nat) (s1 : Int32) (M : Mem) : Option (Int32 × Mem) := Option.bind (f_X12_joins s0 s1 M) fun M29 => (if x4 = 0 then f_X12_goesOn_372 r0 x1 r0 42 M29 else f_X12_goesOn_372 r0 x1 r0 41 M29)
set_option maxRecDepth 100000 in
set_option maxHeartbeats 4000000 in
theorem x_X12_goesOn_356 {κ : KX} {n : Nat} (hC : CX κ cX12_goesOn RX12 5 (some .boolean) 2) (hE : zEnd κ n (0, 0)) (hk0 : zRk κ (0, 0)) {r0 : Nat} (h_r0 : zO n r0 12) (x1 : Int32) (x4 : Int32) (s0 : Nat) (s1 : Int32) (M : Mem) (h_s0 : zO n s0 12) : X κ 5 emI n (0, 0) 356 [.ref r0, .int x1, .null, .null, .int x4] [.int s1, .ref s0] M (f_X12_goesOn_356 r0 x1 x4 s0 s1 M) := by
  unfold f_X12_goesOn_356
  refine x_callVv (as := [.int s1]) cb_RX12_351 rfl (by decide) hk0 h_s0 (fun x hx => t_X12_joins h_s0 x hx) hC (zdk dk_X12_goesOn 177 rfl) (q := 359) rfl rfl (Nat.le_of_ble_eq_true rfl) (fun M29 => ?_)
  refine x_aload_n (i := 0) rfl hC (zdk dk_X12_goesOn 178 rfl) (q := 360) rfl ?_
  refine x_iload (i := 4) rfl hC (zdk dk_X12_goesOn 179 rfl) (q := 362) rfl ?_
  refine x_if_eq (tgt := 370) hC (zdk dk_X12_goesOn 180 rfl) (q := 365) rfl rfl (fun _ => ?_) (fun _ => ?_)
  · refine x_bipush (i := 42) c_bipush_42 hC (zdk dk_X12_goesOn 183 rfl) (q := 372) rfl ?_
    refine x_weak (L' := [.ref r0, .int x1, .null, .null, .null]) ⟨Or.inr rfl, Or.inr rfl, Or.inl rfl, Or.inl rfl, Or.inl rfl, trivial⟩ ?_
    exact x_X12_goesOn_372 hC hE hk0 h_r0 _ _ _ _ h_r0
  · refine x_bipush (i := 41) c_bipush_41 hC (zdk dk_X12_goesOn 181 rfl) (q := 367) rfl ?_
    refine x_goto (tgt := 372) hC (zdk dk_X12_goesOn 182 rfl) rfl ?_
    refine x_weak (L' := [.ref r0, .int x1, .null, .null, .null]) ⟨Or.inr rfl, Or.inr rfl, Or.inl rfl, Or.inl rfl, Or.inl rfl, trivial⟩ ?_
    exact x_X12_goesOn_372 hC hE hk0 h_r0 _ _ _ _ h_r0
set_option maxRecDepth 100000 in
def f_X12_goesOn_327  (r0 : Nat) (x1 : Int32) (M : Mem) : Option (Int32 × Mem) := (if zI M r0 8 ≤ 0 then Option.bind (f_X12_isWord r0 6385252 M) fun z30 => (if z30.1 = 0 then f_X12_goesOn_356 r0 x1 z30.1 r0 1 z30.2 else f_X12_goesOn_356 r0 x1 z30.1 r0 2 z30.2) else some (0, M))
set_option maxRecDepth 100000 in
set_option maxHeartbeats 4000000 in
theorem x_X12_goesOn_327 {κ : KX} {n : Nat} (hC : CX κ cX12_goesOn RX12 5 (some .boolean) 2) (hE : zEnd κ n (0, 0)) (hk0 : zRk κ (0, 0)) {r0 : Nat} (h_r0 : zO n r0 12) (x1 : Int32) (M : Mem) : X κ 5 emI n (0, 0) 327 [.ref r0, .int x1, .null, .null, .null] [] M (f_X12_goesOn_327 r0 x1 M) := by
  unfold f_X12_goesOn_327
  refine x_aload_n (i := 0) rfl hC (zdk dk_X12_goesOn 162 rfl) (q := 328) rfl ?_
  refine x_getI fl_RX12_36 (by decide) h_r0 hC (zdk dk_X12_goesOn 163 rfl) (q := 331) rfl ?_
  refine x_if_le (tgt := 336) hC (zdk dk_X12_goesOn 164 rfl) (q := 334) rfl rfl (fun _ => ?_) (fun _ => ?_)
  · refine x_aload_n (i := 0) rfl hC (zdk dk_X12_goesOn 167 rfl) (q := 337) rfl ?_
    refine x_ldc2 k_RX12_315 hC (zdk dk_X12_goesOn 168 rfl) (q := 340) rfl ?_
    refine x_callVi (as := [.long 6385252]) cb_RX12_341 rfl (by decide) hk0 h_r0 (fun x hx => t_X12_isWord h_r0 x hx) hC (zdk dk_X12_goesOn 169 rfl) (q := 343) rfl rfl (Nat.le_of_ble_eq_true rfl) (fun z30 => ?_)
    refine x_istore (i := 4) (L' := [.ref r0, .int x1, .null, .null, .int z30.1]) (by decide) rfl hC (zdk dk_X12_goesOn 170 rfl) (q := 345) rfl ?_
    refine x_aload_n (i := 0) rfl hC (zdk dk_X12_goesOn 171 rfl) (q := 346) rfl ?_
    refine x_iload (i := 4) rfl hC (zdk dk_X12_goesOn 172 rfl) (q := 348) rfl ?_
    refine x_if_eq (tgt := 355) hC (zdk dk_X12_goesOn 173 rfl) (q := 351) rfl rfl (fun _ => ?_) (fun _ => ?_)
    · refine x_iconst (i := 1) c_iconst_1 hC (zdk dk_X12_goesOn 176 rfl) (q := 356) rfl ?_
      refine x_weak (L' := [.ref r0, .int x1, .null, .null, .int z30.1]) ⟨Or.inr rfl, Or.inr rfl, Or.inl rfl, Or.inl rfl, Or.inr rfl, trivial⟩ ?_
      exact x_X12_goesOn_356 hC hE hk0 h_r0 _ _ _ _ _ h_r0
    · refine x_iconst (i := 2) c_iconst_2 hC (zdk dk_X12_goesOn 174 rfl) (q := 352) rfl ?_
      refine x_goto (tgt := 356) hC (zdk dk_X12_goesOn 175 rfl) rfl ?_
      refine x_weak (L' := [.ref r0, .int x1, .null, .null, .int z30.1]) ⟨Or.inr rfl, Or.inr rfl, Or.inl rfl, Or.inl rfl, Or.inr rfl, trivial⟩ ?_
      exact x_X12_goesOn_356 hC hE hk0 h_r0 _ _ _ _ _ h_r0
  · refine x_iconst (i := 0) c_iconst_0 hC (zdk dk_X12_goesOn 165 rfl) (q := 335) rfl ?_
    exact x_iret (ty := .boolean) rfl hE hC (zdk dk_X12_goesOn 166 rfl)
set_option maxRecDepth 100000 in
def f_X12_goesOn_309  (r0 : Nat) (x1 : Int32) (M : Mem) : Option (Int32 × Mem) := Option.bind (zrf M r0 25) fun q31 => Option.bind (zld q31 x1) fun k32 => (if zI M q31 k32 = 0 then Option.bind (f_X12_blame r0 1 (zI M r0 4) M) fun M33 => f_X12_goesOn_327 r0 x1 M33 else f_X12_goesOn_327 r0 x1 M)
set_option maxRecDepth 100000 in
set_option maxHeartbeats 4000000 in
theorem x_X12_goesOn_309 {κ : KX} {n : Nat} (hC : CX κ cX12_goesOn RX12 5 (some .boolean) 2) (hE : zEnd κ n (0, 0)) (hk0 : zRk κ (0, 0)) {r0 : Nat} (h_r0 : zO n r0 12) (x1 : Int32) (M : Mem) : X κ 5 emI n (0, 0) 309 [.ref r0, .int x1, .null, .null, .null] [] M (f_X12_goesOn_309 r0 x1 M) := by
  unfold f_X12_goesOn_309
  refine x_aload_n (i := 0) rfl hC (zdk dk_X12_goesOn 152 rfl) (q := 310) rfl ?_
  refine x_getR (k := 20) fl_RX12_88 rfl h_r0 hC (zdk dk_X12_goesOn 153 rfl) (q := 313) rfl (fun q31 hq31 => ?_)
  refine x_iload_n (i := 1) rfl hC (zdk dk_X12_goesOn 154 rfl) (q := 314) rfl ?_
  refine x_iald hq31 hC (zdk dk_X12_goesOn 155 rfl) (q := 315) rfl (fun k32 _ => ?_)
  refine x_if_ne (tgt := 327) hC (zdk dk_X12_goesOn 156 rfl) (q := 318) rfl rfl (fun _ => ?_) (fun _ => ?_)
  · refine x_weak (L' := [.ref r0, .int x1, .null, .null, .null]) ⟨Or.inr rfl, Or.inr rfl, Or.inl rfl, Or.inl rfl, Or.inl rfl, trivial⟩ ?_
    exact x_X12_goesOn_327 hC hE hk0 h_r0 _ _
  · refine x_aload_n (i := 0) rfl hC (zdk dk_X12_goesOn 157 rfl) (q := 319) rfl ?_
    refine x_iconst (i := 1) c_iconst_1 hC (zdk dk_X12_goesOn 158 rfl) (q := 320) rfl ?_
    refine x_aload_n (i := 0) rfl hC (zdk dk_X12_goesOn 159 rfl) (q := 321) rfl ?_
    refine x_getI fl_RX12_23 (by decide) h_r0 hC (zdk dk_X12_goesOn 160 rfl) (q := 324) rfl ?_
    refine x_callVv (as := [.int 1, .int (zI M r0 4)]) cb_RX12_251 rfl (by decide) hk0 h_r0 (fun x hx => t_X12_blame h_r0 x hx) hC (zdk dk_X12_goesOn 161 rfl) (q := 327) rfl rfl (Nat.le_of_ble_eq_true rfl) (fun M33 => ?_)
    refine x_weak (L' := [.ref r0, .int x1, .null, .null, .null]) ⟨Or.inr rfl, Or.inr rfl, Or.inl rfl, Or.inl rfl, Or.inl rfl, trivial⟩ ?_
    exact x_X12_goesOn_327 hC hE hk0 h_r0 _ _
set_option maxRecDepth 100000 in
def f_X12_goesOn_439  (r0 : Nat)  (M : Mem) : Option (Int32 × Mem) := some (0, M)
set_option maxRecDepth 100000 in
set_option maxHeartbeats 4000000 in
theorem x_X12_goesOn_439 {κ : KX} {n : Nat} (hC : CX κ cX12_goesOn RX12 5 (some .boolean) 2) (hE : zEnd κ n (0, 0)) (hk0 : zRk κ (0, 0)) {r0 : Nat} (h_r0 : zO n r0 12) (M : Mem) : X κ 5 emI n (0, 0) 439 [.null, .null, .null, .null, .null] [] M (f_X12_goesOn_439 r0 M) := by
  unfold f_X12_goesOn_439
  refine x_iconst (i := 0) c_iconst_0 hC (zdk dk_X12_goesOn 223 rfl) (q := 440) rfl ?_
  exact x_iret (ty := .boolean) rfl hE hC (zdk dk_X12_goesOn 224 rfl)
set_option maxRecDepth 100000 in
def f_X12_goesOn_499  (r0 : Nat) (x1 : Int32) (s0 : Nat) (s1 : Int32) (s2 : Int32) (M : Mem) : Option (Int32 × Mem) := Option.bind (zld s0 s1) fun k34 => Option.bind (some (zsI M s0 k34 s2)) fun M35 => Option.bind (zrf M35 r0 25) fun q36 => Option.bind (zld q36 x1) fun k37 => Option.bind (some (zsI M35 q36 k37 0)) fun M38 => Option.bind (f_X12_ahead r0 M38) fun M39 => Option.bind (some (zsI M39 r0 33 0)) fun M40 => some (1, M40)
set_option maxRecDepth 100000 in
set_option maxHeartbeats 4000000 in
theorem x_X12_goesOn_499 {κ : KX} {n : Nat} (hC : CX κ cX12_goesOn RX12 5 (some .boolean) 2) (hE : zEnd κ n (0, 0)) (hk0 : zRk κ (0, 0)) {r0 : Nat} (h_r0 : zO n r0 12) (x1 : Int32) (s0 : Nat) (s1 : Int32) (s2 : Int32) (M : Mem) (h_s0 : zO n s0 20) : X κ 5 emI n (0, 0) 499 [.ref r0, .int x1, .null, .null, .null] [.int s2, .int s1, .ref s0] M (f_X12_goesOn_499 r0 x1 s0 s1 s2 M) := by
  unfold f_X12_goesOn_499
  refine x_iast h_s0 hC (zdk dk_X12_goesOn 257 rfl) (q := 500) rfl (fun k34 _ => ?_)
  refine x_nmM (fun M35 => ?_)
  refine x_aload_n (i := 0) rfl hC (zdk dk_X12_goesOn 258 rfl) (q := 501) rfl ?_
  refine x_getR (k := 20) fl_RX12_88 rfl h_r0 hC (zdk dk_X12_goesOn 259 rfl) (q := 504) rfl (fun q36 hq36 => ?_)
  refine x_iload_n (i := 1) rfl hC (zdk dk_X12_goesOn 260 rfl) (q := 505) rfl ?_
  refine x_iconst (i := 0) c_iconst_0 hC (zdk dk_X12_goesOn 261 rfl) (q := 506) rfl ?_
  refine x_iast hq36 hC (zdk dk_X12_goesOn 262 rfl) (q := 507) rfl (fun k37 _ => ?_)
  refine x_nmM (fun M38 => ?_)
  refine x_aload_n (i := 0) rfl hC (zdk dk_X12_goesOn 263 rfl) (q := 508) rfl ?_
  refine x_callVv (as := []) cb_RX12_268 rfl (by decide) hk0 h_r0 (fun x hx => t_X12_ahead h_r0 x hx) hC (zdk dk_X12_goesOn 264 rfl) (q := 511) rfl rfl (Nat.le_of_ble_eq_true rfl) (fun M39 => ?_)
  refine x_aload_n (i := 0) rfl hC (zdk dk_X12_goesOn 265 rfl) (q := 512) rfl ?_
  refine x_iconst (i := 0) c_iconst_0 hC (zdk dk_X12_goesOn 266 rfl) (q := 513) rfl ?_
  refine x_putI fl_RX12_113 ⟨rfl, rfl⟩ (by decide) (Or.inl rfl) h_r0 hC (zdk dk_X12_goesOn 267 rfl) (q := 516) rfl ?_
  refine x_nmM (fun M40 => ?_)
  refine x_iconst (i := 1) c_iconst_1 hC (zdk dk_X12_goesOn 268 rfl) (q := 517) rfl ?_
  exact x_iret (ty := .boolean) rfl hE hC (zdk dk_X12_goesOn 269 rfl)
set_option maxRecDepth 100000 in
def f_X12_goesOn_470  (r0 : Nat) (x1 : Int32) (x2 : Int32) (M : Mem) : Option (Int32 × Mem) := (if zI M r0 8 ≤ 0 then Option.bind (f_X12_joins r0 1 M) fun M41 => Option.bind (zrf M41 r0 24) fun q42 => (if x2 = 3 then f_X12_goesOn_499 r0 x1 q42 x1 4 M41 else f_X12_goesOn_499 r0 x1 q42 x1 3 M41) else some (0, M))
set_option maxRecDepth 100000 in
set_option maxHeartbeats 4000000 in
theorem x_X12_goesOn_470 {κ : KX} {n : Nat} (hC : CX κ cX12_goesOn RX12 5 (some .boolean) 2) (hE : zEnd κ n (0, 0)) (hk0 : zRk κ (0, 0)) {r0 : Nat} (h_r0 : zO n r0 12) (x1 : Int32) (x2 : Int32) (M : Mem) : X κ 5 emI n (0, 0) 470 [.ref r0, .int x1, .int x2, .null, .null] [] M (f_X12_goesOn_470 r0 x1 x2 M) := by
  unfold f_X12_goesOn_470
  refine x_aload_n (i := 0) rfl hC (zdk dk_X12_goesOn 240 rfl) (q := 471) rfl ?_
  refine x_getI fl_RX12_36 (by decide) h_r0 hC (zdk dk_X12_goesOn 241 rfl) (q := 474) rfl ?_
  refine x_if_le (tgt := 479) hC (zdk dk_X12_goesOn 242 rfl) (q := 477) rfl rfl (fun _ => ?_) (fun _ => ?_)
  · refine x_aload_n (i := 0) rfl hC (zdk dk_X12_goesOn 245 rfl) (q := 480) rfl ?_
    refine x_iconst (i := 1) c_iconst_1 hC (zdk dk_X12_goesOn 246 rfl) (q := 481) rfl ?_
    refine x_callVv (as := [.int 1]) cb_RX12_351 rfl (by decide) hk0 h_r0 (fun x hx => t_X12_joins h_r0 x hx) hC (zdk dk_X12_goesOn 247 rfl) (q := 484) rfl rfl (Nat.le_of_ble_eq_true rfl) (fun M41 => ?_)
    refine x_aload_n (i := 0) rfl hC (zdk dk_X12_goesOn 248 rfl) (q := 485) rfl ?_
    refine x_getR (k := 20) fl_RX12_85 rfl h_r0 hC (zdk dk_X12_goesOn 249 rfl) (q := 488) rfl (fun q42 hq42 => ?_)
    refine x_iload_n (i := 1) rfl hC (zdk dk_X12_goesOn 250 rfl) (q := 489) rfl ?_
    refine x_iload_n (i := 2) rfl hC (zdk dk_X12_goesOn 251 rfl) (q := 490) rfl ?_
    refine x_iconst (i := 3) c_iconst_3 hC (zdk dk_X12_goesOn 252 rfl) (q := 491) rfl ?_
    refine x_icmp_ne (tgt := 498) hC (zdk dk_X12_goesOn 253 rfl) (q := 494) rfl rfl (fun _ => ?_) (fun _ => ?_)
    · refine x_iconst (i := 3) c_iconst_3 hC (zdk dk_X12_goesOn 256 rfl) (q := 499) rfl ?_
      refine x_weak (L' := [.ref r0, .int x1, .null, .null, .null]) ⟨Or.inr rfl, Or.inr rfl, Or.inl rfl, Or.inl rfl, Or.inl rfl, trivial⟩ ?_
      exact x_X12_goesOn_499 hC hE hk0 h_r0 _ _ _ _ _ hq42
    · refine x_iconst (i := 4) c_iconst_4 hC (zdk dk_X12_goesOn 254 rfl) (q := 495) rfl ?_
      refine x_goto (tgt := 499) hC (zdk dk_X12_goesOn 255 rfl) rfl ?_
      refine x_weak (L' := [.ref r0, .int x1, .null, .null, .null]) ⟨Or.inr rfl, Or.inr rfl, Or.inl rfl, Or.inl rfl, Or.inl rfl, trivial⟩ ?_
      exact x_X12_goesOn_499 hC hE hk0 h_r0 _ _ _ _ _ hq42
  · refine x_iconst (i := 0) c_iconst_0 hC (zdk dk_X12_goesOn 243 rfl) (q := 478) rfl ?_
    exact x_iret (ty := .boolean) rfl hE hC (zdk dk_X12_goesOn 244 rfl)
set_option maxRecDepth 100000 in
def f_X12_goesOn_452  (r0 : Nat) (x1 : Int32) (x2 : Int32) (M : Mem) : Option (Int32 × Mem) := Option.bind (f_X12_isSign r0 44 M) fun z43 => (if z43.1 = 0 then Option.bind (f_X12_blame r0 1 (zI z43.2 r0 4) z43.2) fun M44 => f_X12_goesOn_470 r0 x1 x2 M44 else f_X12_goesOn_470 r0 x1 x2 z43.2)
set_option maxRecDepth 100000 in
set_option maxHeartbeats 4000000 in
theorem x_X12_goesOn_452 {κ : KX} {n : Nat} (hC : CX κ cX12_goesOn RX12 5 (some .boolean) 2) (hE : zEnd κ n (0, 0)) (hk0 : zRk κ (0, 0)) {r0 : Nat} (h_r0 : zO n r0 12) (x1 : Int32) (x2 : Int32) (M : Mem) : X κ 5 emI n (0, 0) 452 [.ref r0, .int x1, .int x2, .null, .null] [] M (f_X12_goesOn_452 r0 x1 x2 M) := by
  unfold f_X12_goesOn_452
  refine x_aload_n (i := 0) rfl hC (zdk dk_X12_goesOn 231 rfl) (q := 453) rfl ?_
  refine x_bipush (i := 44) c_bipush_44 hC (zdk dk_X12_goesOn 232 rfl) (q := 455) rfl ?_
  refine x_callVi (as := [.int 44]) cb_RX12_265 rfl (by decide) hk0 h_r0 (fun x hx => t_X12_isSign h_r0 x hx) hC (zdk dk_X12_goesOn 233 rfl) (q := 458) rfl rfl (Nat.le_of_ble_eq_true rfl) (fun z43 => ?_)
  refine x_if_ne (tgt := 470) hC (zdk dk_X12_goesOn 234 rfl) (q := 461) rfl rfl (fun _ => ?_) (fun _ => ?_)
  · refine x_weak (L' := [.ref r0, .int x1, .int x2, .null, .null]) ⟨Or.inr rfl, Or.inr rfl, Or.inr rfl, Or.inl rfl, Or.inl rfl, trivial⟩ ?_
    exact x_X12_goesOn_470 hC hE hk0 h_r0 _ _ _
  · refine x_aload_n (i := 0) rfl hC (zdk dk_X12_goesOn 235 rfl) (q := 462) rfl ?_
    refine x_iconst (i := 1) c_iconst_1 hC (zdk dk_X12_goesOn 236 rfl) (q := 463) rfl ?_
    refine x_aload_n (i := 0) rfl hC (zdk dk_X12_goesOn 237 rfl) (q := 464) rfl ?_
    refine x_getI fl_RX12_23 (by decide) h_r0 hC (zdk dk_X12_goesOn 238 rfl) (q := 467) rfl ?_
    refine x_callVv (as := [.int 1, .int (zI z43.2 r0 4)]) cb_RX12_251 rfl (by decide) hk0 h_r0 (fun x hx => t_X12_blame h_r0 x hx) hC (zdk dk_X12_goesOn 239 rfl) (q := 470) rfl rfl (Nat.le_of_ble_eq_true rfl) (fun M44 => ?_)
    refine x_weak (L' := [.ref r0, .int x1, .int x2, .null, .null]) ⟨Or.inr rfl, Or.inr rfl, Or.inr rfl, Or.inl rfl, Or.inl rfl, trivial⟩ ?_
    exact x_X12_goesOn_470 hC hE hk0 h_r0 _ _ _
set_option maxRecDepth 100000 in
def f_X12_goesOn_613  (r0 : Nat)  (M : Mem) : Option (Int32 × Mem) := Option.bind (f_X12_ahead r0 M) fun M45 => some (1, M45)
set_option maxRecDepth 100000 in
set_option maxHeartbeats 4000000 in
theorem x_X12_goesOn_613 {κ : KX} {n : Nat} (hC : CX κ cX12_goesOn RX12 5 (some .boolean) 2) (hE : zEnd κ n (0, 0)) (hk0 : zRk κ (0, 0)) {r0 : Nat} (h_r0 : zO n r0 12) (M : Mem) : X κ 5 emI n (0, 0) 613 [.ref r0, .null, .null, .null, .null] [] M (f_X12_goesOn_613 r0 M) := by
  unfold f_X12_goesOn_613
  refine x_aload_n (i := 0) rfl hC (zdk dk_X12_goesOn 325 rfl) (q := 614) rfl ?_
  refine x_callVv (as := []) cb_RX12_268 rfl (by decide) hk0 h_r0 (fun x hx => t_X12_ahead h_r0 x hx) hC (zdk dk_X12_goesOn 326 rfl) (q := 617) rfl rfl (Nat.le_of_ble_eq_true rfl) (fun M45 => ?_)
  refine x_iconst (i := 1) c_iconst_1 hC (zdk dk_X12_goesOn 327 rfl) (q := 618) rfl ?_
  exact x_iret (ty := .boolean) rfl hE hC (zdk dk_X12_goesOn 328 rfl)
set_option maxRecDepth 100000 in
def f_X12_goesOn_596  (r0 : Nat) (x2 : Int32) (M : Mem) : Option (Int32 × Mem) := (if x2 = 5 then Option.bind (zrf M r0 25) fun q46 => Option.bind (zld q46 ((zI M r0 29) - 1)) fun k47 => Option.bind (some (zsI M q46 k47 2)) fun M48 => f_X12_goesOn_613 r0 M48 else f_X12_goesOn_613 r0 M)
set_option maxRecDepth 100000 in
set_option maxHeartbeats 4000000 in
theorem x_X12_goesOn_596 {κ : KX} {n : Nat} (hC : CX κ cX12_goesOn RX12 5 (some .boolean) 2) (hE : zEnd κ n (0, 0)) (hk0 : zRk κ (0, 0)) {r0 : Nat} (h_r0 : zO n r0 12) (x2 : Int32) (M : Mem) : X κ 5 emI n (0, 0) 596 [.ref r0, .null, .int x2, .null, .null] [] M (f_X12_goesOn_596 r0 x2 M) := by
  unfold f_X12_goesOn_596
  refine x_iload_n (i := 2) rfl hC (zdk dk_X12_goesOn 314 rfl) (q := 597) rfl ?_
  refine x_iconst (i := 5) c_iconst_5 hC (zdk dk_X12_goesOn 315 rfl) (q := 598) rfl ?_
  refine x_icmp_ne (tgt := 613) hC (zdk dk_X12_goesOn 316 rfl) (q := 601) rfl rfl (fun _ => ?_) (fun _ => ?_)
  · refine x_weak (L' := [.ref r0, .null, .null, .null, .null]) ⟨Or.inr rfl, Or.inl rfl, Or.inl rfl, Or.inl rfl, Or.inl rfl, trivial⟩ ?_
    exact x_X12_goesOn_613 hC hE hk0 h_r0 _
  · refine x_aload_n (i := 0) rfl hC (zdk dk_X12_goesOn 317 rfl) (q := 602) rfl ?_
    refine x_getR (k := 20) fl_RX12_88 rfl h_r0 hC (zdk dk_X12_goesOn 318 rfl) (q := 605) rfl (fun q46 hq46 => ?_)
    refine x_aload_n (i := 0) rfl hC (zdk dk_X12_goesOn 319 rfl) (q := 606) rfl ?_
    refine x_getI fl_RX12_101 (by decide) h_r0 hC (zdk dk_X12_goesOn 320 rfl) (q := 609) rfl ?_
    refine x_iconst (i := 1) c_iconst_1 hC (zdk dk_X12_goesOn 321 rfl) (q := 610) rfl ?_
    refine x_isub hC (zdk dk_X12_goesOn 322 rfl) (q := 611) rfl ?_
    refine x_iconst (i := 2) c_iconst_2 hC (zdk dk_X12_goesOn 323 rfl) (q := 612) rfl ?_
    refine x_iast hq46 hC (zdk dk_X12_goesOn 324 rfl) (q := 613) rfl (fun k47 _ => ?_)
    refine x_nmM (fun M48 => ?_)
    refine x_weak (L' := [.ref r0, .null, .null, .null, .null]) ⟨Or.inr rfl, Or.inl rfl, Or.inl rfl, Or.inl rfl, Or.inl rfl, trivial⟩ ?_
    exact x_X12_goesOn_613 hC hE hk0 h_r0 _
set_option maxRecDepth 100000 in
def f_X12_goesOn_546  (r0 : Nat) (x1 : Int32) (x2 : Int32) (M : Mem) : Option (Int32 × Mem) := (if zI M r0 8 ≤ 0 then Option.bind (f_X12_joins r0 1 M) fun M49 => Option.bind (some (zsI M49 r0 29 ((zI M49 r0 29) - 1))) fun M50 => Option.bind (some (zsI M50 r0 30 ((zI M50 r0 30) - 1))) fun M51 => (if x2 = 4 then Option.bind (zrf M51 r0 27) fun q52 => Option.bind (zld q52 x1) fun k53 => Option.bind (f_X12_add r0 (zI M51 q52 k53) 0 M51) fun M54 => f_X12_goesOn_596 r0 x2 M54 else f_X12_goesOn_596 r0 x2 M51) else some (0, M))
set_option maxRecDepth 100000 in
set_option maxHeartbeats 4000000 in
theorem x_X12_goesOn_546 {κ : KX} {n : Nat} (hC : CX κ cX12_goesOn RX12 5 (some .boolean) 2) (hE : zEnd κ n (0, 0)) (hk0 : zRk κ (0, 0)) {r0 : Nat} (h_r0 : zO n r0 12) (x1 : Int32) (x2 : Int32) (M : Mem) : X κ 5 emI n (0, 0) 546 [.ref r0, .int x1, .int x2, .null, .null] [] M (f_X12_goesOn_546 r0 x1 x2 M) := by
  unfold f_X12_goesOn_546
  refine x_aload_n (i := 0) rfl hC (zdk dk_X12_goesOn 284 rfl) (q := 547) rfl ?_
  refine x_getI fl_RX12_36 (by decide) h_r0 hC (zdk dk_X12_goesOn 285 rfl) (q := 550) rfl ?_
  refine x_if_le (tgt := 555) hC (zdk dk_X12_goesOn 286 rfl) (q := 553) rfl rfl (fun _ => ?_) (fun _ => ?_)
  · refine x_aload_n (i := 0) rfl hC (zdk dk_X12_goesOn 289 rfl) (q := 556) rfl ?_
    refine x_iconst (i := 1) c_iconst_1 hC (zdk dk_X12_goesOn 290 rfl) (q := 557) rfl ?_
    refine x_callVv (as := [.int 1]) cb_RX12_351 rfl (by decide) hk0 h_r0 (fun x hx => t_X12_joins h_r0 x hx) hC (zdk dk_X12_goesOn 291 rfl) (q := 560) rfl rfl (Nat.le_of_ble_eq_true rfl) (fun M49 => ?_)
    refine x_aload_n (i := 0) rfl hC (zdk dk_X12_goesOn 292 rfl) (q := 561) rfl ?_
    refine x_dup rfl hC (zdk dk_X12_goesOn 293 rfl) (q := 562) rfl ?_
    refine x_getI fl_RX12_101 (by decide) h_r0 hC (zdk dk_X12_goesOn 294 rfl) (q := 565) rfl ?_
    refine x_iconst (i := 1) c_iconst_1 hC (zdk dk_X12_goesOn 295 rfl) (q := 566) rfl ?_
    refine x_isub hC (zdk dk_X12_goesOn 296 rfl) (q := 567) rfl ?_
    refine x_putI fl_RX12_101 ⟨rfl, rfl⟩ (by decide) (Or.inl rfl) h_r0 hC (zdk dk_X12_goesOn 297 rfl) (q := 570) rfl ?_
    refine x_nmM (fun M50 => ?_)
    refine x_aload_n (i := 0) rfl hC (zdk dk_X12_goesOn 298 rfl) (q := 571) rfl ?_
    refine x_dup rfl hC (zdk dk_X12_goesOn 299 rfl) (q := 572) rfl ?_
    refine x_getI fl_RX12_104 (by decide) h_r0 hC (zdk dk_X12_goesOn 300 rfl) (q := 575) rfl ?_
    refine x_iconst (i := 1) c_iconst_1 hC (zdk dk_X12_goesOn 301 rfl) (q := 576) rfl ?_
    refine x_isub hC (zdk dk_X12_goesOn 302 rfl) (q := 577) rfl ?_
    refine x_putI fl_RX12_104 ⟨rfl, rfl⟩ (by decide) (Or.inl rfl) h_r0 hC (zdk dk_X12_goesOn 303 rfl) (q := 580) rfl ?_
    refine x_nmM (fun M51 => ?_)
    refine x_iload_n (i := 2) rfl hC (zdk dk_X12_goesOn 304 rfl) (q := 581) rfl ?_
    refine x_iconst (i := 4) c_iconst_4 hC (zdk dk_X12_goesOn 305 rfl) (q := 582) rfl ?_
    refine x_icmp_ne (tgt := 596) hC (zdk dk_X12_goesOn 306 rfl) (q := 585) rfl rfl (fun _ => ?_) (fun _ => ?_)
    · refine x_weak (L' := [.ref r0, .null, .int x2, .null, .null]) ⟨Or.inr rfl, Or.inl rfl, Or.inr rfl, Or.inl rfl, Or.inl rfl, trivial⟩ ?_
      exact x_X12_goesOn_596 hC hE hk0 h_r0 _ _
    · refine x_aload_n (i := 0) rfl hC (zdk dk_X12_goesOn 307 rfl) (q := 586) rfl ?_
      refine x_aload_n (i := 0) rfl hC (zdk dk_X12_goesOn 308 rfl) (q := 587) rfl ?_
      refine x_getR (k := 20) fl_RX12_95 rfl h_r0 hC (zdk dk_X12_goesOn 309 rfl) (q := 590) rfl (fun q52 hq52 => ?_)
      refine x_iload_n (i := 1) rfl hC (zdk dk_X12_goesOn 310 rfl) (q := 591) rfl ?_
      refine x_iald hq52 hC (zdk dk_X12_goesOn 311 rfl) (q := 592) rfl (fun k53 _ => ?_)
      refine x_iconst (i := 0) c_iconst_0 hC (zdk dk_X12_goesOn 312 rfl) (q := 593) rfl ?_
      refine x_callVv (as := [.int (zI M51 q52 k53), .int 0]) cb_RX12_332 rfl (by decide) hk0 h_r0 (fun x hx => t_X12_add h_r0 x hx) hC (zdk dk_X12_goesOn 313 rfl) (q := 596) rfl rfl (Nat.le_of_ble_eq_true rfl) (fun M54 => ?_)
      refine x_weak (L' := [.ref r0, .null, .int x2, .null, .null]) ⟨Or.inr rfl, Or.inl rfl, Or.inr rfl, Or.inl rfl, Or.inl rfl, trivial⟩ ?_
      exact x_X12_goesOn_596 hC hE hk0 h_r0 _ _
  · refine x_iconst (i := 0) c_iconst_0 hC (zdk dk_X12_goesOn 287 rfl) (q := 554) rfl ?_
    exact x_iret (ty := .boolean) rfl hE hC (zdk dk_X12_goesOn 288 rfl)
set_option maxRecDepth 100000 in
def f_X12_goesOn_531  (r0 : Nat) (x1 : Int32) (x2 : Int32) (s0 : Nat) (s1 : Int32) (M : Mem) : Option (Int32 × Mem) := Option.bind (f_X12_isSign s0 s1 M) fun z55 => (if z55.1 = 0 then Option.bind (f_X12_blame r0 1 (zI z55.2 r0 4) z55.2) fun M56 => f_X12_goesOn_546 r0 x1 x2 M56 else f_X12_goesOn_546 r0 x1 x2 z55.2)
set_option maxRecDepth 100000 in
set_option maxHeartbeats 4000000 in
theorem x_X12_goesOn_531 {κ : KX} {n : Nat} (hC : CX κ cX12_goesOn RX12 5 (some .boolean) 2) (hE : zEnd κ n (0, 0)) (hk0 : zRk κ (0, 0)) {r0 : Nat} (h_r0 : zO n r0 12) (x1 : Int32) (x2 : Int32) (s0 : Nat) (s1 : Int32) (M : Mem) (h_s0 : zO n s0 12) : X κ 5 emI n (0, 0) 531 [.ref r0, .int x1, .int x2, .null, .null] [.int s1, .ref s0] M (f_X12_goesOn_531 r0 x1 x2 s0 s1 M) := by
  unfold f_X12_goesOn_531
  refine x_callVi (as := [.int s1]) cb_RX12_265 rfl (by decide) hk0 h_s0 (fun x hx => t_X12_isSign h_s0 x hx) hC (zdk dk_X12_goesOn 277 rfl) (q := 534) rfl rfl (Nat.le_of_ble_eq_true rfl) (fun z55 => ?_)
  refine x_if_ne (tgt := 546) hC (zdk dk_X12_goesOn 278 rfl) (q := 537) rfl rfl (fun _ => ?_) (fun _ => ?_)
  · refine x_weak (L' := [.ref r0, .int x1, .int x2, .null, .null]) ⟨Or.inr rfl, Or.inr rfl, Or.inr rfl, Or.inl rfl, Or.inl rfl, trivial⟩ ?_
    exact x_X12_goesOn_546 hC hE hk0 h_r0 _ _ _
  · refine x_aload_n (i := 0) rfl hC (zdk dk_X12_goesOn 279 rfl) (q := 538) rfl ?_
    refine x_iconst (i := 1) c_iconst_1 hC (zdk dk_X12_goesOn 280 rfl) (q := 539) rfl ?_
    refine x_aload_n (i := 0) rfl hC (zdk dk_X12_goesOn 281 rfl) (q := 540) rfl ?_
    refine x_getI fl_RX12_23 (by decide) h_r0 hC (zdk dk_X12_goesOn 282 rfl) (q := 543) rfl ?_
    refine x_callVv (as := [.int 1, .int (zI z55.2 r0 4)]) cb_RX12_251 rfl (by decide) hk0 h_r0 (fun x hx => t_X12_blame h_r0 x hx) hC (zdk dk_X12_goesOn 283 rfl) (q := 546) rfl rfl (Nat.le_of_ble_eq_true rfl) (fun M56 => ?_)
    refine x_weak (L' := [.ref r0, .int x1, .int x2, .null, .null]) ⟨Or.inr rfl, Or.inr rfl, Or.inr rfl, Or.inl rfl, Or.inl rfl, trivial⟩ ?_
    exact x_X12_goesOn_546 hC hE hk0 h_r0 _ _ _
set_option maxRecDepth 100000 in
def f_X12_goesOn_422  (r0 : Nat) (x1 : Int32) (x2 : Int32) (M : Mem) : Option (Int32 × Mem) := (if 2 ≤ x2 then (if x2 = 3 then f_X12_goesOn_452 r0 x1 x2 M else (if x2 = 6 then f_X12_goesOn_452 r0 x1 x2 M else (if x2 = 5 then f_X12_goesOn_531 r0 x1 x2 r0 93 M else f_X12_goesOn_531 r0 x1 x2 r0 41 M))) else (if zI M r0 8 = 0 then Option.bind (f_X12_joins r0 1 M) fun M57 => f_X12_goesOn_439 r0 M57 else f_X12_goesOn_439 r0 M))
set_option maxRecDepth 100000 in
set_option maxHeartbeats 4000000 in
theorem x_X12_goesOn_422 {κ : KX} {n : Nat} (hC : CX κ cX12_goesOn RX12 5 (some .boolean) 2) (hE : zEnd κ n (0, 0)) (hk0 : zRk κ (0, 0)) {r0 : Nat} (h_r0 : zO n r0 12) (x1 : Int32) (x2 : Int32) (M : Mem) : X κ 5 emI n (0, 0) 422 [.ref r0, .int x1, .int x2, .null, .null] [] M (f_X12_goesOn_422 r0 x1 x2 M) := by
  unfold f_X12_goesOn_422
  refine x_iload_n (i := 2) rfl hC (zdk dk_X12_goesOn 214 rfl) (q := 423) rfl ?_
  refine x_iconst (i := 2) c_iconst_2 hC (zdk dk_X12_goesOn 215 rfl) (q := 424) rfl ?_
  refine x_icmp_ge (tgt := 441) hC (zdk dk_X12_goesOn 216 rfl) (q := 427) rfl rfl (fun _ => ?_) (fun _ => ?_)
  · refine x_iload_n (i := 2) rfl hC (zdk dk_X12_goesOn 225 rfl) (q := 442) rfl ?_
    refine x_iconst (i := 3) c_iconst_3 hC (zdk dk_X12_goesOn 226 rfl) (q := 443) rfl ?_
    refine x_icmp_eq (tgt := 452) hC (zdk dk_X12_goesOn 227 rfl) (q := 446) rfl rfl (fun _ => ?_) (fun _ => ?_)
    · refine x_weak (L' := [.ref r0, .int x1, .int x2, .null, .null]) ⟨Or.inr rfl, Or.inr rfl, Or.inr rfl, Or.inl rfl, Or.inl rfl, trivial⟩ ?_
      exact x_X12_goesOn_452 hC hE hk0 h_r0 _ _ _
    · refine x_iload_n (i := 2) rfl hC (zdk dk_X12_goesOn 228 rfl) (q := 447) rfl ?_
      refine x_bipush (i := 6) c_bipush_6 hC (zdk dk_X12_goesOn 229 rfl) (q := 449) rfl ?_
      refine x_icmp_ne (tgt := 518) hC (zdk dk_X12_goesOn 230 rfl) (q := 452) rfl rfl (fun _ => ?_) (fun _ => ?_)
      · refine x_aload_n (i := 0) rfl hC (zdk dk_X12_goesOn 270 rfl) (q := 519) rfl ?_
        refine x_iload_n (i := 2) rfl hC (zdk dk_X12_goesOn 271 rfl) (q := 520) rfl ?_
        refine x_iconst (i := 5) c_iconst_5 hC (zdk dk_X12_goesOn 272 rfl) (q := 521) rfl ?_
        refine x_icmp_ne (tgt := 529) hC (zdk dk_X12_goesOn 273 rfl) (q := 524) rfl rfl (fun _ => ?_) (fun _ => ?_)
        · refine x_bipush (i := 41) c_bipush_41 hC (zdk dk_X12_goesOn 276 rfl) (q := 531) rfl ?_
          refine x_weak (L' := [.ref r0, .int x1, .int x2, .null, .null]) ⟨Or.inr rfl, Or.inr rfl, Or.inr rfl, Or.inl rfl, Or.inl rfl, trivial⟩ ?_
          exact x_X12_goesOn_531 hC hE hk0 h_r0 _ _ _ _ _ h_r0
        · refine x_bipush (i := 93) c_bipush_93 hC (zdk dk_X12_goesOn 274 rfl) (q := 526) rfl ?_
          refine x_goto (tgt := 531) hC (zdk dk_X12_goesOn 275 rfl) rfl ?_
          refine x_weak (L' := [.ref r0, .int x1, .int x2, .null, .null]) ⟨Or.inr rfl, Or.inr rfl, Or.inr rfl, Or.inl rfl, Or.inl rfl, trivial⟩ ?_
          exact x_X12_goesOn_531 hC hE hk0 h_r0 _ _ _ _ _ h_r0
      · refine x_weak (L' := [.ref r0, .int x1, .int x2, .null, .null]) ⟨Or.inr rfl, Or.inr rfl, Or.inr rfl, Or.inl rfl, Or.inl rfl, trivial⟩ ?_
        exact x_X12_goesOn_452 hC hE hk0 h_r0 _ _ _
  · refine x_aload_n (i := 0) rfl hC (zdk dk_X12_goesOn 217 rfl) (q := 428) rfl ?_
    refine x_getI fl_RX12_36 (by decide) h_r0 hC (zdk dk_X12_goesOn 218 rfl) (q := 431) rfl ?_
    refine x_if_ne (tgt := 439) hC (zdk dk_X12_goesOn 219 rfl) (q := 434) rfl rfl (fun _ => ?_) (fun _ => ?_)
    · refine x_weak (L' := [.null, .null, .null, .null, .null]) ⟨Or.inl rfl, Or.inl rfl, Or.inl rfl, Or.inl rfl, Or.inl rfl, trivial⟩ ?_
      exact x_X12_goesOn_439 hC hE hk0 h_r0 _
    · refine x_aload_n (i := 0) rfl hC (zdk dk_X12_goesOn 220 rfl) (q := 435) rfl ?_
      refine x_iconst (i := 1) c_iconst_1 hC (zdk dk_X12_goesOn 221 rfl) (q := 436) rfl ?_
      refine x_callVv (as := [.int 1]) cb_RX12_351 rfl (by decide) hk0 h_r0 (fun x hx => t_X12_joins h_r0 x hx) hC (zdk dk_X12_goesOn 222 rfl) (q := 439) rfl rfl (Nat.le_of_ble_eq_true rfl) (fun M57 => ?_)
      refine x_weak (L' := [.null, .null, .null, .null, .null]) ⟨Or.inl rfl, Or.inl rfl, Or.inl rfl, Or.inl rfl, Or.inl rfl, trivial⟩ ?_
      exact x_X12_goesOn_439 hC hE hk0 h_r0 _
set_option maxRecDepth 100000 in
def f_X12_goesOn_400  (r0 : Nat) (x1 : Int32) (x2 : Int32) (x3 : Int32) (M : Mem) : Option (Int32 × Mem) := (if x3 = 0 then f_X12_goesOn_422 r0 x1 x2 M else Option.bind (zrf M r0 25) fun q58 => Option.bind (zld q58 x1) fun k59 => (if zI M q58 k59 = 0 then Option.bind (f_X12_blame r0 1 (zI M r0 4) M) fun M60 => f_X12_goesOn_422 r0 x1 x2 M60 else f_X12_goesOn_422 r0 x1 x2 M))
set_option maxRecDepth 100000 in
set_option maxHeartbeats 4000000 in
theorem x_X12_goesOn_400 {κ : KX} {n : Nat} (hC : CX κ cX12_goesOn RX12 5 (some .boolean) 2) (hE : zEnd κ n (0, 0)) (hk0 : zRk κ (0, 0)) {r0 : Nat} (h_r0 : zO n r0 12) (x1 : Int32) (x2 : Int32) (x3 : Int32) (M : Mem) : X κ 5 emI n (0, 0) 400 [.ref r0, .int x1, .int x2, .int x3, .null] [] M (f_X12_goesOn_400 r0 x1 x2 x3 M) := by
  unfold f_X12_goesOn_400
  refine x_iload_n (i := 3) rfl hC (zdk dk_X12_goesOn 202 rfl) (q := 401) rfl ?_
  refine x_if_eq (tgt := 422) hC (zdk dk_X12_goesOn 203 rfl) (q := 404) rfl rfl (fun _ => ?_) (fun _ => ?_)
  · refine x_weak (L' := [.ref r0, .int x1, .int x2, .null, .null]) ⟨Or.inr rfl, Or.inr rfl, Or.inr rfl, Or.inl rfl, Or.inl rfl, trivial⟩ ?_
    exact x_X12_goesOn_422 hC hE hk0 h_r0 _ _ _
  · refine x_aload_n (i := 0) rfl hC (zdk dk_X12_goesOn 204 rfl) (q := 405) rfl ?_
    refine x_getR (k := 20) fl_RX12_88 rfl h_r0 hC (zdk dk_X12_goesOn 205 rfl) (q := 408) rfl (fun q58 hq58 => ?_)
    refine x_iload_n (i := 1) rfl hC (zdk dk_X12_goesOn 206 rfl) (q := 409) rfl ?_
    refine x_iald hq58 hC (zdk dk_X12_goesOn 207 rfl) (q := 410) rfl (fun k59 _ => ?_)
    refine x_if_ne (tgt := 422) hC (zdk dk_X12_goesOn 208 rfl) (q := 413) rfl rfl (fun _ => ?_) (fun _ => ?_)
    · refine x_weak (L' := [.ref r0, .int x1, .int x2, .null, .null]) ⟨Or.inr rfl, Or.inr rfl, Or.inr rfl, Or.inl rfl, Or.inl rfl, trivial⟩ ?_
      exact x_X12_goesOn_422 hC hE hk0 h_r0 _ _ _
    · refine x_aload_n (i := 0) rfl hC (zdk dk_X12_goesOn 209 rfl) (q := 414) rfl ?_
      refine x_iconst (i := 1) c_iconst_1 hC (zdk dk_X12_goesOn 210 rfl) (q := 415) rfl ?_
      refine x_aload_n (i := 0) rfl hC (zdk dk_X12_goesOn 211 rfl) (q := 416) rfl ?_
      refine x_getI fl_RX12_23 (by decide) h_r0 hC (zdk dk_X12_goesOn 212 rfl) (q := 419) rfl ?_
      refine x_callVv (as := [.int 1, .int (zI M r0 4)]) cb_RX12_251 rfl (by decide) hk0 h_r0 (fun x hx => t_X12_blame h_r0 x hx) hC (zdk dk_X12_goesOn 213 rfl) (q := 422) rfl rfl (Nat.le_of_ble_eq_true rfl) (fun M60 => ?_)
      refine x_weak (L' := [.ref r0, .int x1, .int x2, .null, .null]) ⟨Or.inr rfl, Or.inr rfl, Or.inr rfl, Or.inl rfl, Or.inl rfl, trivial⟩ ?_
      exact x_X12_goesOn_422 hC hE hk0 h_r0 _ _ _
set_option maxRecDepth 100000 in
def f_X12_goesOn_285  (r0 : Nat) (x1 : Int32) (x2 : Int32) (x3 : Int32) (M : Mem) : Option (Int32 × Mem) := (if x3 = 0 then f_X12_goesOn_400 r0 x1 x2 x3 M else Option.bind (f_X12_isWord r0 6385252 M) fun z61 => (if z61.1 = 0 then Option.bind (f_X12_isWord r0 28530 z61.2) fun z62 => (if z62.1 = 0 then f_X12_goesOn_400 r0 x1 x2 x3 z62.2 else f_X12_goesOn_309 r0 x1 z62.2) else f_X12_goesOn_309 r0 x1 z61.2))
set_option maxRecDepth 100000 in
set_option maxHeartbeats 4000000 in
theorem x_X12_goesOn_285 {κ : KX} {n : Nat} (hC : CX κ cX12_goesOn RX12 5 (some .boolean) 2) (hE : zEnd κ n (0, 0)) (hk0 : zRk κ (0, 0)) {r0 : Nat} (h_r0 : zO n r0 12) (x1 : Int32) (x2 : Int32) (x3 : Int32) (M : Mem) : X κ 5 emI n (0, 0) 285 [.ref r0, .int x1, .int x2, .int x3, .null] [] M (f_X12_goesOn_285 r0 x1 x2 x3 M) := by
  unfold f_X12_goesOn_285
  refine x_iload_n (i := 3) rfl hC (zdk dk_X12_goesOn 142 rfl) (q := 286) rfl ?_
  refine x_if_eq (tgt := 400) hC (zdk dk_X12_goesOn 143 rfl) (q := 289) rfl rfl (fun _ => ?_) (fun _ => ?_)
  · refine x_weak (L' := [.ref r0, .int x1, .int x2, .int x3, .null]) ⟨Or.inr rfl, Or.inr rfl, Or.inr rfl, Or.inr rfl, Or.inl rfl, trivial⟩ ?_
    exact x_X12_goesOn_400 hC hE hk0 h_r0 _ _ _ _
  · refine x_aload_n (i := 0) rfl hC (zdk dk_X12_goesOn 144 rfl) (q := 290) rfl ?_
    refine x_ldc2 k_RX12_315 hC (zdk dk_X12_goesOn 145 rfl) (q := 293) rfl ?_
    refine x_callVi (as := [.long 6385252]) cb_RX12_341 rfl (by decide) hk0 h_r0 (fun x hx => t_X12_isWord h_r0 x hx) hC (zdk dk_X12_goesOn 146 rfl) (q := 296) rfl rfl (Nat.le_of_ble_eq_true rfl) (fun z61 => ?_)
    refine x_if_ne (tgt := 309) hC (zdk dk_X12_goesOn 147 rfl) (q := 299) rfl rfl (fun _ => ?_) (fun _ => ?_)
    · refine x_weak (L' := [.ref r0, .int x1, .null, .null, .null]) ⟨Or.inr rfl, Or.inr rfl, Or.inl rfl, Or.inl rfl, Or.inl rfl, trivial⟩ ?_
      exact x_X12_goesOn_309 hC hE hk0 h_r0 _ _
    · refine x_aload_n (i := 0) rfl hC (zdk dk_X12_goesOn 148 rfl) (q := 300) rfl ?_
      refine x_ldc2 k_RX12_313 hC (zdk dk_X12_goesOn 149 rfl) (q := 303) rfl ?_
      refine x_callVi (as := [.long 28530]) cb_RX12_341 rfl (by decide) hk0 h_r0 (fun x hx => t_X12_isWord h_r0 x hx) hC (zdk dk_X12_goesOn 150 rfl) (q := 306) rfl rfl (Nat.le_of_ble_eq_true rfl) (fun z62 => ?_)
      refine x_if_eq (tgt := 400) hC (zdk dk_X12_goesOn 151 rfl) (q := 309) rfl rfl (fun _ => ?_) (fun _ => ?_)
      · refine x_weak (L' := [.ref r0, .int x1, .int x2, .int x3, .null]) ⟨Or.inr rfl, Or.inr rfl, Or.inr rfl, Or.inr rfl, Or.inl rfl, trivial⟩ ?_
        exact x_X12_goesOn_400 hC hE hk0 h_r0 _ _ _ _
      · refine x_weak (L' := [.ref r0, .int x1, .null, .null, .null]) ⟨Or.inr rfl, Or.inr rfl, Or.inl rfl, Or.inl rfl, Or.inl rfl, trivial⟩ ?_
        exact x_X12_goesOn_309 hC hE hk0 h_r0 _ _
set_option maxRecDepth 100000 in
def f_X12_goesOn_188  (r0 : Nat) (x1 : Int32) (x2 : Int32) (x3 : Int32) (M : Mem) : Option (Int32 × Mem) := (if x3 = 0 then f_X12_goesOn_285 r0 x1 x2 x3 M else Option.bind (zrf M r0 25) fun q63 => Option.bind (zld q63 x1) fun k64 => (if zI M q63 k64 = 0 then Option.bind (f_X12_isSign r0 60 M) fun z65 => (if z65.1 = 0 then Option.bind (f_X12_isSign r0 62 z65.2) fun z66 => (if z66.1 = 0 then Option.bind (f_X12_isSign r0 61 z66.2) fun z67 => (if z67.1 = 0 then f_X12_goesOn_285 r0 x1 x2 x3 z67.2 else f_X12_goesOn_228 r0 x1 z67.2) else f_X12_goesOn_228 r0 x1 z66.2) else f_X12_goesOn_228 r0 x1 z65.2) else f_X12_goesOn_285 r0 x1 x2 x3 M))
set_option maxRecDepth 100000 in
set_option maxHeartbeats 4000000 in
theorem x_X12_goesOn_188 {κ : KX} {n : Nat} (hC : CX κ cX12_goesOn RX12 5 (some .boolean) 2) (hE : zEnd κ n (0, 0)) (hk0 : zRk κ (0, 0)) {r0 : Nat} (h_r0 : zO n r0 12) (x1 : Int32) (x2 : Int32) (x3 : Int32) (M : Mem) : X κ 5 emI n (0, 0) 188 [.ref r0, .int x1, .int x2, .int x3, .null] [] M (f_X12_goesOn_188 r0 x1 x2 x3 M) := by
  unfold f_X12_goesOn_188
  refine x_iload_n (i := 3) rfl hC (zdk dk_X12_goesOn 93 rfl) (q := 189) rfl ?_
  refine x_if_eq (tgt := 285) hC (zdk dk_X12_goesOn 94 rfl) (q := 192) rfl rfl (fun _ => ?_) (fun _ => ?_)
  · refine x_weak (L' := [.ref r0, .int x1, .int x2, .int x3, .null]) ⟨Or.inr rfl, Or.inr rfl, Or.inr rfl, Or.inr rfl, Or.inl rfl, trivial⟩ ?_
    exact x_X12_goesOn_285 hC hE hk0 h_r0 _ _ _ _
  · refine x_aload_n (i := 0) rfl hC (zdk dk_X12_goesOn 95 rfl) (q := 193) rfl ?_
    refine x_getR (k := 20) fl_RX12_88 rfl h_r0 hC (zdk dk_X12_goesOn 96 rfl) (q := 196) rfl (fun q63 hq63 => ?_)
    refine x_iload_n (i := 1) rfl hC (zdk dk_X12_goesOn 97 rfl) (q := 197) rfl ?_
    refine x_iald hq63 hC (zdk dk_X12_goesOn 98 rfl) (q := 198) rfl (fun k64 _ => ?_)
    refine x_if_ne (tgt := 285) hC (zdk dk_X12_goesOn 99 rfl) (q := 201) rfl rfl (fun _ => ?_) (fun _ => ?_)
    · refine x_weak (L' := [.ref r0, .int x1, .int x2, .int x3, .null]) ⟨Or.inr rfl, Or.inr rfl, Or.inr rfl, Or.inr rfl, Or.inl rfl, trivial⟩ ?_
      exact x_X12_goesOn_285 hC hE hk0 h_r0 _ _ _ _
    · refine x_aload_n (i := 0) rfl hC (zdk dk_X12_goesOn 100 rfl) (q := 202) rfl ?_
      refine x_bipush (i := 60) c_bipush_60 hC (zdk dk_X12_goesOn 101 rfl) (q := 204) rfl ?_
      refine x_callVi (as := [.int 60]) cb_RX12_265 rfl (by decide) hk0 h_r0 (fun x hx => t_X12_isSign h_r0 x hx) hC (zdk dk_X12_goesOn 102 rfl) (q := 207) rfl rfl (Nat.le_of_ble_eq_true rfl) (fun z65 => ?_)
      refine x_if_ne (tgt := 228) hC (zdk dk_X12_goesOn 103 rfl) (q := 210) rfl rfl (fun _ => ?_) (fun _ => ?_)
      · refine x_weak (L' := [.ref r0, .int x1, .null, .null, .null]) ⟨Or.inr rfl, Or.inr rfl, Or.inl rfl, Or.inl rfl, Or.inl rfl, trivial⟩ ?_
        exact x_X12_goesOn_228 hC hE hk0 h_r0 _ _
      · refine x_aload_n (i := 0) rfl hC (zdk dk_X12_goesOn 104 rfl) (q := 211) rfl ?_
        refine x_bipush (i := 62) c_bipush_62 hC (zdk dk_X12_goesOn 105 rfl) (q := 213) rfl ?_
        refine x_callVi (as := [.int 62]) cb_RX12_265 rfl (by decide) hk0 h_r0 (fun x hx => t_X12_isSign h_r0 x hx) hC (zdk dk_X12_goesOn 106 rfl) (q := 216) rfl rfl (Nat.le_of_ble_eq_true rfl) (fun z66 => ?_)
        refine x_if_ne (tgt := 228) hC (zdk dk_X12_goesOn 107 rfl) (q := 219) rfl rfl (fun _ => ?_) (fun _ => ?_)
        · refine x_weak (L' := [.ref r0, .int x1, .null, .null, .null]) ⟨Or.inr rfl, Or.inr rfl, Or.inl rfl, Or.inl rfl, Or.inl rfl, trivial⟩ ?_
          exact x_X12_goesOn_228 hC hE hk0 h_r0 _ _
        · refine x_aload_n (i := 0) rfl hC (zdk dk_X12_goesOn 108 rfl) (q := 220) rfl ?_
          refine x_bipush (i := 61) c_bipush_61 hC (zdk dk_X12_goesOn 109 rfl) (q := 222) rfl ?_
          refine x_callVi (as := [.int 61]) cb_RX12_265 rfl (by decide) hk0 h_r0 (fun x hx => t_X12_isSign h_r0 x hx) hC (zdk dk_X12_goesOn 110 rfl) (q := 225) rfl rfl (Nat.le_of_ble_eq_true rfl) (fun z67 => ?_)
          refine x_if_eq (tgt := 285) hC (zdk dk_X12_goesOn 111 rfl) (q := 228) rfl rfl (fun _ => ?_) (fun _ => ?_)
          · refine x_weak (L' := [.ref r0, .int x1, .int x2, .int x3, .null]) ⟨Or.inr rfl, Or.inr rfl, Or.inr rfl, Or.inr rfl, Or.inl rfl, trivial⟩ ?_
            exact x_X12_goesOn_285 hC hE hk0 h_r0 _ _ _ _
          · refine x_weak (L' := [.ref r0, .int x1, .null, .null, .null]) ⟨Or.inr rfl, Or.inr rfl, Or.inl rfl, Or.inl rfl, Or.inl rfl, trivial⟩ ?_
            exact x_X12_goesOn_228 hC hE hk0 h_r0 _ _
set_option maxRecDepth 100000 in
def f_X12_goesOn (r0 : Nat) (M : Mem) : Option (Int32 × Mem) := Option.bind (f_X12_lex r0 M) fun M68 => (if zI M68 r0 8 ≤ 0 then Option.bind (zrf M68 r0 24) fun q69 => Option.bind (zld q69 ((zI M68 r0 29) - 1)) fun k70 => Option.bind (f_X12_isTest (zI M68 q69 k70) M68) fun z71 => Option.bind (zrf z71.2 r0 25) fun q72 => Option.bind (zld q72 ((zI M68 r0 29) - 1)) fun k73 => (if 2 ≤ zI z71.2 q72 k73 then f_X12_goesOn_188 r0 ((zI M68 r0 29) - 1) (zI M68 q69 k70) z71.1 z71.2 else Option.bind (f_X12_isSign r0 43 z71.2) fun z74 => (if z74.1 = 0 then Option.bind (f_X12_isSign r0 45 z74.2) fun z75 => (if z75.1 = 0 then Option.bind (f_X12_isSign r0 42 z75.2) fun z76 => (if z76.1 = 0 then Option.bind (f_X12_isSign r0 47 z76.2) fun z77 => (if z77.1 = 0 then Option.bind (f_X12_isSign r0 37 z77.2) fun z78 => (if z78.1 = 0 then f_X12_goesOn_188 r0 ((zI M68 r0 29) - 1) (zI M68 q69 k70) z71.1 z78.2 else f_X12_goesOn_87 r0 z78.2) else f_X12_goesOn_87 r0 z77.2) else f_X12_goesOn_87 r0 z76.2) else f_X12_goesOn_87 r0 z75.2) else f_X12_goesOn_87 r0 z74.2)) else some (0, M68))
set_option maxRecDepth 100000 in
set_option maxHeartbeats 4000000 in
theorem x_X12_goesOn {κ : KX} {n : Nat} (hC : CX κ cX12_goesOn RX12 5 (some .boolean) 2) (hE : zEnd κ n (0, 0)) (hk0 : zRk κ (0, 0)) (r0 : Nat) (M : Mem) (h_r0 : zO n r0 12) : X κ 5 emI n (0, 0) 0 [.ref r0, .null, .null, .null, .null] [] M (f_X12_goesOn r0 M) := by
  unfold f_X12_goesOn
  refine x_aload_n (i := 0) rfl hC (zdk dk_X12_goesOn 0 rfl) (q := 1) rfl ?_
  refine x_callVv (as := []) cb_RX12_262 rfl (by decide) hk0 h_r0 (fun x hx => t_X12_lex h_r0 x hx) hC (zdk dk_X12_goesOn 1 rfl) (q := 4) rfl rfl (Nat.le_of_ble_eq_true rfl) (fun M68 => ?_)
  refine x_aload_n (i := 0) rfl hC (zdk dk_X12_goesOn 2 rfl) (q := 5) rfl ?_
  refine x_getI fl_RX12_36 (by decide) h_r0 hC (zdk dk_X12_goesOn 3 rfl) (q := 8) rfl ?_
  refine x_if_le (tgt := 13) hC (zdk dk_X12_goesOn 4 rfl) (q := 11) rfl rfl (fun _ => ?_) (fun _ => ?_)
  · refine x_aload_n (i := 0) rfl hC (zdk dk_X12_goesOn 7 rfl) (q := 14) rfl ?_
    refine x_getI fl_RX12_101 (by decide) h_r0 hC (zdk dk_X12_goesOn 8 rfl) (q := 17) rfl ?_
    refine x_iconst (i := 1) c_iconst_1 hC (zdk dk_X12_goesOn 9 rfl) (q := 18) rfl ?_
    refine x_isub hC (zdk dk_X12_goesOn 10 rfl) (q := 19) rfl ?_
    refine x_istore_n (i := 1) (L' := [.ref r0, .int ((zI M68 r0 29) - 1), .null, .null, .null]) (by decide) rfl hC (zdk dk_X12_goesOn 11 rfl) (q := 20) rfl ?_
    refine x_aload_n (i := 0) rfl hC (zdk dk_X12_goesOn 12 rfl) (q := 21) rfl ?_
    refine x_getR (k := 20) fl_RX12_85 rfl h_r0 hC (zdk dk_X12_goesOn 13 rfl) (q := 24) rfl (fun q69 hq69 => ?_)
    refine x_iload_n (i := 1) rfl hC (zdk dk_X12_goesOn 14 rfl) (q := 25) rfl ?_
    refine x_iald hq69 hC (zdk dk_X12_goesOn 15 rfl) (q := 26) rfl (fun k70 _ => ?_)
    refine x_istore_n (i := 2) (L' := [.ref r0, .int ((zI M68 r0 29) - 1), .int (zI M68 q69 k70), .null, .null]) (by decide) rfl hC (zdk dk_X12_goesOn 16 rfl) (q := 27) rfl ?_
    refine x_iload_n (i := 2) rfl hC (zdk dk_X12_goesOn 17 rfl) (q := 28) rfl ?_
    refine x_callSi (as := [.int (zI M68 q69 k70)]) cb_RX12_338 rfl (by decide) hk0 (fun x hx => t_X12_isTest  x hx) hC (zdk dk_X12_goesOn 18 rfl) (q := 31) rfl rfl (Nat.le_of_ble_eq_true rfl) (fun z71 => ?_)
    refine x_istore_n (i := 3) (L' := [.ref r0, .int ((zI M68 r0 29) - 1), .int (zI M68 q69 k70), .int z71.1, .null]) (by decide) rfl hC (zdk dk_X12_goesOn 19 rfl) (q := 32) rfl ?_
    refine x_aload_n (i := 0) rfl hC (zdk dk_X12_goesOn 20 rfl) (q := 33) rfl ?_
    refine x_getR (k := 20) fl_RX12_88 rfl h_r0 hC (zdk dk_X12_goesOn 21 rfl) (q := 36) rfl (fun q72 hq72 => ?_)
    refine x_iload_n (i := 1) rfl hC (zdk dk_X12_goesOn 22 rfl) (q := 37) rfl ?_
    refine x_iald hq72 hC (zdk dk_X12_goesOn 23 rfl) (q := 38) rfl (fun k73 _ => ?_)
    refine x_iconst (i := 2) c_iconst_2 hC (zdk dk_X12_goesOn 24 rfl) (q := 39) rfl ?_
    refine x_icmp_ge (tgt := 188) hC (zdk dk_X12_goesOn 25 rfl) (q := 42) rfl rfl (fun _ => ?_) (fun _ => ?_)
    · refine x_weak (L' := [.ref r0, .int ((zI M68 r0 29) - 1), .int (zI M68 q69 k70), .int z71.1, .null]) ⟨Or.inr rfl, Or.inr rfl, Or.inr rfl, Or.inr rfl, Or.inl rfl, trivial⟩ ?_
      exact x_X12_goesOn_188 hC hE hk0 h_r0 _ _ _ _
    · refine x_aload_n (i := 0) rfl hC (zdk dk_X12_goesOn 26 rfl) (q := 43) rfl ?_
      refine x_bipush (i := 43) c_bipush_43 hC (zdk dk_X12_goesOn 27 rfl) (q := 45) rfl ?_
      refine x_callVi (as := [.int 43]) cb_RX12_265 rfl (by decide) hk0 h_r0 (fun x hx => t_X12_isSign h_r0 x hx) hC (zdk dk_X12_goesOn 28 rfl) (q := 48) rfl rfl (Nat.le_of_ble_eq_true rfl) (fun z74 => ?_)
      refine x_if_ne (tgt := 87) hC (zdk dk_X12_goesOn 29 rfl) (q := 51) rfl rfl (fun _ => ?_) (fun _ => ?_)
      · refine x_weak (L' := [.ref r0, .null, .null, .null, .null]) ⟨Or.inr rfl, Or.inl rfl, Or.inl rfl, Or.inl rfl, Or.inl rfl, trivial⟩ ?_
        exact x_X12_goesOn_87 hC hE hk0 h_r0 _
      · refine x_aload_n (i := 0) rfl hC (zdk dk_X12_goesOn 30 rfl) (q := 52) rfl ?_
        refine x_bipush (i := 45) c_bipush_45 hC (zdk dk_X12_goesOn 31 rfl) (q := 54) rfl ?_
        refine x_callVi (as := [.int 45]) cb_RX12_265 rfl (by decide) hk0 h_r0 (fun x hx => t_X12_isSign h_r0 x hx) hC (zdk dk_X12_goesOn 32 rfl) (q := 57) rfl rfl (Nat.le_of_ble_eq_true rfl) (fun z75 => ?_)
        refine x_if_ne (tgt := 87) hC (zdk dk_X12_goesOn 33 rfl) (q := 60) rfl rfl (fun _ => ?_) (fun _ => ?_)
        · refine x_weak (L' := [.ref r0, .null, .null, .null, .null]) ⟨Or.inr rfl, Or.inl rfl, Or.inl rfl, Or.inl rfl, Or.inl rfl, trivial⟩ ?_
          exact x_X12_goesOn_87 hC hE hk0 h_r0 _
        · refine x_aload_n (i := 0) rfl hC (zdk dk_X12_goesOn 34 rfl) (q := 61) rfl ?_
          refine x_bipush (i := 42) c_bipush_42 hC (zdk dk_X12_goesOn 35 rfl) (q := 63) rfl ?_
          refine x_callVi (as := [.int 42]) cb_RX12_265 rfl (by decide) hk0 h_r0 (fun x hx => t_X12_isSign h_r0 x hx) hC (zdk dk_X12_goesOn 36 rfl) (q := 66) rfl rfl (Nat.le_of_ble_eq_true rfl) (fun z76 => ?_)
          refine x_if_ne (tgt := 87) hC (zdk dk_X12_goesOn 37 rfl) (q := 69) rfl rfl (fun _ => ?_) (fun _ => ?_)
          · refine x_weak (L' := [.ref r0, .null, .null, .null, .null]) ⟨Or.inr rfl, Or.inl rfl, Or.inl rfl, Or.inl rfl, Or.inl rfl, trivial⟩ ?_
            exact x_X12_goesOn_87 hC hE hk0 h_r0 _
          · refine x_aload_n (i := 0) rfl hC (zdk dk_X12_goesOn 38 rfl) (q := 70) rfl ?_
            refine x_bipush (i := 47) c_bipush_47 hC (zdk dk_X12_goesOn 39 rfl) (q := 72) rfl ?_
            refine x_callVi (as := [.int 47]) cb_RX12_265 rfl (by decide) hk0 h_r0 (fun x hx => t_X12_isSign h_r0 x hx) hC (zdk dk_X12_goesOn 40 rfl) (q := 75) rfl rfl (Nat.le_of_ble_eq_true rfl) (fun z77 => ?_)
            refine x_if_ne (tgt := 87) hC (zdk dk_X12_goesOn 41 rfl) (q := 78) rfl rfl (fun _ => ?_) (fun _ => ?_)
            · refine x_weak (L' := [.ref r0, .null, .null, .null, .null]) ⟨Or.inr rfl, Or.inl rfl, Or.inl rfl, Or.inl rfl, Or.inl rfl, trivial⟩ ?_
              exact x_X12_goesOn_87 hC hE hk0 h_r0 _
            · refine x_aload_n (i := 0) rfl hC (zdk dk_X12_goesOn 42 rfl) (q := 79) rfl ?_
              refine x_bipush (i := 37) c_bipush_37 hC (zdk dk_X12_goesOn 43 rfl) (q := 81) rfl ?_
              refine x_callVi (as := [.int 37]) cb_RX12_265 rfl (by decide) hk0 h_r0 (fun x hx => t_X12_isSign h_r0 x hx) hC (zdk dk_X12_goesOn 44 rfl) (q := 84) rfl rfl (Nat.le_of_ble_eq_true rfl) (fun z78 => ?_)
              refine x_if_eq (tgt := 188) hC (zdk dk_X12_goesOn 45 rfl) (q := 87) rfl rfl (fun _ => ?_) (fun _ => ?_)
              · refine x_weak (L' := [.ref r0, .int ((zI M68 r0 29) - 1), .int (zI M68 q69 k70), .int z71.1, .null]) ⟨Or.inr rfl, Or.inr rfl, Or.inr rfl, Or.inr rfl, Or.inl rfl, trivial⟩ ?_
                exact x_X12_goesOn_188 hC hE hk0 h_r0 _ _ _ _
              · refine x_weak (L' := [.ref r0, .null, .null, .null, .null]) ⟨Or.inr rfl, Or.inl rfl, Or.inl rfl, Or.inl rfl, Or.inl rfl, trivial⟩ ?_
                exact x_X12_goesOn_87 hC hE hk0 h_r0 _
  · refine x_iconst (i := 0) c_iconst_0 hC (zdk dk_X12_goesOn 5 rfl) (q := 12) rfl ?_
    exact x_iret (ty := .boolean) rfl hE hC (zdk dk_X12_goesOn 6 rfl)
set_option maxRecDepth 100000 in
set_option maxHeartbeats 4000000 in
theorem t_X12_goesOn {n : Nat} {r0 : Nat} {M : Mem} (h_r0 : zO n r0 12) (x : (Int32 × Mem)) (hx : f_X12_goesOn r0 M = some x) (l : Launch) (dC : Nat → ClassId) (dI : Nat → Nat → Nat) (b : zSg) : MT l dC dI b yX12_goesOn cX12_goesOn 5 (some .boolean) 2 0 0 n n [.ref r0] M (emI x).1 (emI x).2 :=
  MT.ofX (by decide +kernel) rfl (Nat.le_of_ble_eq_true rfl) (fun κ hC hF _ => x_X12_goesOn hC (zEnd_of hF (Nat.le_refl _) (Nat.le_refl _)) (zRk_of hF (Nat.le_refl _) (Nat.le_refl _)) _ _ h_r0) x hx
set_option maxRecDepth 100000 in
def dt_X12_reads : List (Nat × Instr × Nat) := [(0, .aload_n 0, 1), (1, .getfield 36, 3), (4, .ifCond .le 4, 3), (7, .return_, 1), (8, .aload_n 0, 1), (9, .iconst 0, 1), (10, .putfield 101, 3), (13, .aload_n 0, 1), (14, .iconst 0, 1), (15, .putfield 104, 3), (18, .aload_n 0, 1), (19, .iconst 0, 1), (20, .putfield 110, 3), (23, .aload_n 0, 1), (24, .iconst 0, 1), (25, .putfield 113, 3), (28, .aload_n 0, 1), (29, .iload_n 1, 1), (30, .ifCond .eq 7, 3), (33, .iconst 1, 1), (34, .goto 4, 3), (37, .iconst 0, 1), (38, .invokevirtual 335, 3), (41, .iconst 1, 1), (42, .istore_n 2, 1), (43, .iload_n 2, 1), (44, .ifCond .eq 46, 3), (47, .aload_n 0, 1), (48, .getfield 113, 3), (51, .ifCond .ne 14, 3), (54, .aload_n 0, 1), (55, .aload_n 0, 1), (56, .invokevirtual 354, 3), (59, .putfield 113, 3), (62, .goto 8, 3), (65, .aload_n 0, 1), (66, .invokevirtual 357, 3), (69, .istore_n 2, 1), (70, .iload_n 2, 1), (71, .ifCond .eq 14, 3), (74, .aload_n 0, 1), (75, .getfield 36, 3), (78, .ifCond .ne 7, 3), (81, .iconst 1, 1), (82, .goto 4, 3), (85, .iconst 0, 1), (86, .istore_n 2, 1), (87, .goto (-44), 3), (90, .return_, 1)]
set_option maxRecDepth 100000 in
theorem dk_X12_reads : dt_X12_reads.all (fun q => decide (decode cX12_reads q.1 = .ok q.2)) = true := by decide +kernel
set_option maxRecDepth 100000 in
def f_X12_reads_86 (k43 : Int32 → Mem → Option Mem) (r0 : Nat) (x1 : Int32) (s0 : Int32) (M : Mem) : Option Mem := k43 s0 M
set_option maxRecDepth 100000 in
set_option maxHeartbeats 4000000 in
theorem x_X12_reads_86 {κ : KX} {n : Nat} (hC : CX κ cX12_reads RX12 3 none 4) (hE : zEnd κ n (0, 0)) (hk0 : zRk κ (0, 0)) {r0 : Nat} {x1 : Int32} (h_r0 : zO n r0 12) (k43 : Int32 → Mem → Option Mem) (hk43 : ∀ (x2 : Int32) (M : Mem), X κ 3 emV n (0, 0) 43 [.ref r0, .null, .int x2] [] M (k43 x2 M)) (s0 : Int32) (M : Mem) : X κ 3 emV n (0, 0) 86 [.ref r0, .null, .null] [.int s0] M (f_X12_reads_86 k43 r0 x1 s0 M) := by
  unfold f_X12_reads_86
  refine x_istore_n (i := 2) (L' := [.ref r0, .null, .int s0]) (by decide) rfl hC (zdk dk_X12_reads 46 rfl) (q := 87) rfl ?_
  refine x_goto (tgt := 43) hC (zdk dk_X12_reads 47 rfl) rfl ?_
  refine x_weak (L' := [.ref r0, .null, .int s0]) ⟨Or.inr rfl, Or.inl rfl, Or.inr rfl, trivial⟩ ?_
  exact hk43 _ _
set_option maxRecDepth 100000 in
def f_X12_reads_85 (k43 : Int32 → Mem → Option Mem) (r0 : Nat) (x1 : Int32)  (M : Mem) : Option Mem := f_X12_reads_86 k43 r0 x1 0 M
set_option maxRecDepth 100000 in
set_option maxHeartbeats 4000000 in
theorem x_X12_reads_85 {κ : KX} {n : Nat} (hC : CX κ cX12_reads RX12 3 none 4) (hE : zEnd κ n (0, 0)) (hk0 : zRk κ (0, 0)) {r0 : Nat} {x1 : Int32} (h_r0 : zO n r0 12) (k43 : Int32 → Mem → Option Mem) (hk43 : ∀ (x2 : Int32) (M : Mem), X κ 3 emV n (0, 0) 43 [.ref r0, .null, .int x2] [] M (k43 x2 M)) (M : Mem) : X κ 3 emV n (0, 0) 85 [.ref r0, .null, .null] [] M (f_X12_reads_85 k43 r0 x1 M) := by
  unfold f_X12_reads_85
  refine x_iconst (i := 0) c_iconst_0 hC (zdk dk_X12_reads 45 rfl) (q := 86) rfl ?_
  refine x_weak (L' := [.ref r0, .null, .null]) ⟨Or.inr rfl, Or.inl rfl, Or.inl rfl, trivial⟩ ?_
  exact x_X12_reads_86 hC hE hk0 h_r0 k43 hk43 _ _
set_option maxRecDepth 100000 in
def f_X12_reads_70 (k43 : Int32 → Mem → Option Mem) (r0 : Nat) (x1 : Int32) (x2 : Int32) (M : Mem) : Option Mem := (if x2 = 0 then f_X12_reads_85 k43 r0 x1 M else (if zI M r0 8 = 0 then f_X12_reads_86 k43 r0 x1 1 M else f_X12_reads_85 k43 r0 x1 M))
set_option maxRecDepth 100000 in
set_option maxHeartbeats 4000000 in
theorem x_X12_reads_70 {κ : KX} {n : Nat} (hC : CX κ cX12_reads RX12 3 none 4) (hE : zEnd κ n (0, 0)) (hk0 : zRk κ (0, 0)) {r0 : Nat} {x1 : Int32} (h_r0 : zO n r0 12) (k43 : Int32 → Mem → Option Mem) (hk43 : ∀ (x2 : Int32) (M : Mem), X κ 3 emV n (0, 0) 43 [.ref r0, .null, .int x2] [] M (k43 x2 M)) (x2 : Int32) (M : Mem) : X κ 3 emV n (0, 0) 70 [.ref r0, .null, .int x2] [] M (f_X12_reads_70 k43 r0 x1 x2 M) := by
  unfold f_X12_reads_70
  refine x_iload_n (i := 2) rfl hC (zdk dk_X12_reads 38 rfl) (q := 71) rfl ?_
  refine x_if_eq (tgt := 85) hC (zdk dk_X12_reads 39 rfl) (q := 74) rfl rfl (fun _ => ?_) (fun _ => ?_)
  · refine x_weak (L' := [.ref r0, .null, .null]) ⟨Or.inr rfl, Or.inl rfl, Or.inl rfl, trivial⟩ ?_
    exact x_X12_reads_85 hC hE hk0 h_r0 k43 hk43 _
  · refine x_aload_n (i := 0) rfl hC (zdk dk_X12_reads 40 rfl) (q := 75) rfl ?_
    refine x_getI fl_RX12_36 (by decide) h_r0 hC (zdk dk_X12_reads 41 rfl) (q := 78) rfl ?_
    refine x_if_ne (tgt := 85) hC (zdk dk_X12_reads 42 rfl) (q := 81) rfl rfl (fun _ => ?_) (fun _ => ?_)
    · refine x_weak (L' := [.ref r0, .null, .null]) ⟨Or.inr rfl, Or.inl rfl, Or.inl rfl, trivial⟩ ?_
      exact x_X12_reads_85 hC hE hk0 h_r0 k43 hk43 _
    · refine x_iconst (i := 1) c_iconst_1 hC (zdk dk_X12_reads 43 rfl) (q := 82) rfl ?_
      refine x_goto (tgt := 86) hC (zdk dk_X12_reads 44 rfl) rfl ?_
      refine x_weak (L' := [.ref r0, .null, .null]) ⟨Or.inr rfl, Or.inl rfl, Or.inl rfl, trivial⟩ ?_
      exact x_X12_reads_86 hC hE hk0 h_r0 k43 hk43 _ _
set_option maxRecDepth 100000 in
def f_X12_reads_43  (r0 : Nat) (x1 : Int32) : Nat → Int32 → Mem → Option Mem
  | 0, _, _ => none
  | f + 1, x2, M => (if x2 = 0 then some M else (if zI M r0 33 = 0 then Option.bind (f_X12_operand r0 M) fun z2 => zbz z2.1 <| Option.bind (some (zsI z2.2 r0 33 z2.1)) fun M3 => f_X12_reads_70 (f_X12_reads_43 r0 x1 f) r0 x1 x2 M3 else Option.bind (f_X12_goesOn r0 M) fun z1 => f_X12_reads_70 (f_X12_reads_43 r0 x1 f) r0 x1 z1.1 z1.2))
set_option maxRecDepth 100000 in
set_option maxHeartbeats 4000000 in
theorem x_X12_reads_43 {κ : KX} {n : Nat} (hC : CX κ cX12_reads RX12 3 none 4) (hE : zEnd κ n (0, 0)) (hk0 : zRk κ (0, 0)) {r0 : Nat} {x1 : Int32} (h_r0 : zO n r0 12) : ∀ (f : Nat) (x2 : Int32) (M : Mem), X κ 3 emV n (0, 0) 43 [.ref r0, .null, .int x2] [] M (f_X12_reads_43 r0 x1 f x2 M) := by
  intro f
  induction f with
  | zero => intros; exact x_none
  | succ f ih =>
    intro x2 M 
    rw [f_X12_reads_43]
    refine x_iload_n (i := 2) rfl hC (zdk dk_X12_reads 25 rfl) (q := 44) rfl ?_
    refine x_if_eq (tgt := 90) hC (zdk dk_X12_reads 26 rfl) (q := 47) rfl rfl (fun _ => ?_) (fun _ => ?_)
    · exact x_vret hE hC (zdk dk_X12_reads 48 rfl)
    · refine x_aload_n (i := 0) rfl hC (zdk dk_X12_reads 27 rfl) (q := 48) rfl ?_
      refine x_getI fl_RX12_113 (by decide) h_r0 hC (zdk dk_X12_reads 28 rfl) (q := 51) rfl ?_
      refine x_if_ne (tgt := 65) hC (zdk dk_X12_reads 29 rfl) (q := 54) rfl rfl (fun _ => ?_) (fun _ => ?_)
      · refine x_aload_n (i := 0) rfl hC (zdk dk_X12_reads 35 rfl) (q := 66) rfl ?_
        refine x_callVi (as := []) cb_RX12_357 rfl (by decide) hk0 h_r0 (fun x hx => t_X12_goesOn h_r0 x hx) hC (zdk dk_X12_reads 36 rfl) (q := 69) rfl rfl (Nat.le_of_ble_eq_true rfl) (fun z1 => ?_)
        refine x_istore_n (i := 2) (L' := [.ref r0, .null, .int z1.1]) (by decide) rfl hC (zdk dk_X12_reads 37 rfl) (q := 70) rfl ?_
        refine x_weak (L' := [.ref r0, .null, .int z1.1]) ⟨Or.inr rfl, Or.inl rfl, Or.inr rfl, trivial⟩ ?_
        exact x_X12_reads_70 hC hE hk0 h_r0 (f_X12_reads_43 r0 x1 f) ih _ _
      · refine x_aload_n (i := 0) rfl hC (zdk dk_X12_reads 30 rfl) (q := 55) rfl ?_
        refine x_aload_n (i := 0) rfl hC (zdk dk_X12_reads 31 rfl) (q := 56) rfl ?_
        refine x_callVi (as := []) cb_RX12_354 rfl (by decide) hk0 h_r0 (fun x hx => t_X12_operand h_r0 x hx) hC (zdk dk_X12_reads 32 rfl) (q := 59) rfl rfl (Nat.le_of_ble_eq_true rfl) (fun z2 => ?_)
        refine x_bz (fun hb4 => ?_)
        refine x_putI fl_RX12_113 hb4 (by decide) (Or.inl rfl) h_r0 hC (zdk dk_X12_reads 33 rfl) (q := 62) rfl ?_
        refine x_nmM (fun M3 => ?_)
        refine x_goto (tgt := 70) hC (zdk dk_X12_reads 34 rfl) rfl ?_
        refine x_weak (L' := [.ref r0, .null, .int x2]) ⟨Or.inr rfl, Or.inl rfl, Or.inr rfl, trivial⟩ ?_
        exact x_X12_reads_70 hC hE hk0 h_r0 (f_X12_reads_43 r0 x1 f) ih _ _
set_option maxRecDepth 100000 in
def f_X12_reads_38  (r0 : Nat) (x1 : Int32) (s0 : Nat) (s1 : Int32) (M : Mem) : Option Mem := Option.bind (f_X12_pushes s0 s1 M) fun M5 => f_X12_reads_43 r0 x1 1000000 1 M5
set_option maxRecDepth 100000 in
set_option maxHeartbeats 4000000 in
theorem x_X12_reads_38 {κ : KX} {n : Nat} (hC : CX κ cX12_reads RX12 3 none 4) (hE : zEnd κ n (0, 0)) (hk0 : zRk κ (0, 0)) {r0 : Nat} {x1 : Int32} (h_r0 : zO n r0 12) (s0 : Nat) (s1 : Int32) (M : Mem) (h_s0 : zO n s0 12) : X κ 3 emV n (0, 0) 38 [.ref r0, .null, .null] [.int s1, .ref s0] M (f_X12_reads_38 r0 x1 s0 s1 M) := by
  unfold f_X12_reads_38
  refine x_callVv (as := [.int s1]) cb_RX12_335 rfl (by decide) hk0 h_s0 (fun x hx => t_X12_pushes h_s0 x hx) hC (zdk dk_X12_reads 22 rfl) (q := 41) rfl rfl (Nat.le_of_ble_eq_true rfl) (fun M5 => ?_)
  refine x_iconst (i := 1) c_iconst_1 hC (zdk dk_X12_reads 23 rfl) (q := 42) rfl ?_
  refine x_istore_n (i := 2) (L' := [.ref r0, .null, .int 1]) (by decide) rfl hC (zdk dk_X12_reads 24 rfl) (q := 43) rfl ?_
  refine x_weak (L' := [.ref r0, .null, .int 1]) ⟨Or.inr rfl, Or.inl rfl, Or.inr rfl, trivial⟩ ?_
  exact x_X12_reads_43 hC hE hk0 h_r0 _ _ _
set_option maxRecDepth 100000 in
def f_X12_reads (r0 : Nat) (x1 : Int32) (M : Mem) : Option Mem := (if zI M r0 8 ≤ 0 then Option.bind (some (zsI M r0 29 0)) fun M6 => Option.bind (some (zsI M6 r0 30 0)) fun M7 => Option.bind (some (zsI M7 r0 32 0)) fun M8 => Option.bind (some (zsI M8 r0 33 0)) fun M9 => (if x1 = 0 then f_X12_reads_38 r0 x1 r0 0 M9 else f_X12_reads_38 r0 x1 r0 1 M9) else some M)
set_option maxRecDepth 100000 in
set_option maxHeartbeats 4000000 in
theorem x_X12_reads {κ : KX} {n : Nat} (hC : CX κ cX12_reads RX12 3 none 4) (hE : zEnd κ n (0, 0)) (hk0 : zRk κ (0, 0)) (r0 : Nat) (x1 : Int32) (M : Mem) (h_r0 : zO n r0 12) : X κ 3 emV n (0, 0) 0 [.ref r0, .int x1, .null] [] M (f_X12_reads r0 x1 M) := by
  unfold f_X12_reads
  refine x_aload_n (i := 0) rfl hC (zdk dk_X12_reads 0 rfl) (q := 1) rfl ?_
  refine x_getI fl_RX12_36 (by decide) h_r0 hC (zdk dk_X12_reads 1 rfl) (q := 4) rfl ?_
  refine x_if_le (tgt := 8) hC (zdk dk_X12_reads 2 rfl) (q := 7) rfl rfl (fun _ => ?_) (fun _ => ?_)
  · refine x_aload_n (i := 0) rfl hC (zdk dk_X12_reads 4 rfl) (q := 9) rfl ?_
    refine x_iconst (i := 0) c_iconst_0 hC (zdk dk_X12_reads 5 rfl) (q := 10) rfl ?_
    refine x_putI fl_RX12_101 ⟨rfl, rfl⟩ (by decide) (Or.inl rfl) h_r0 hC (zdk dk_X12_reads 6 rfl) (q := 13) rfl ?_
    refine x_nmM (fun M6 => ?_)
    refine x_aload_n (i := 0) rfl hC (zdk dk_X12_reads 7 rfl) (q := 14) rfl ?_
    refine x_iconst (i := 0) c_iconst_0 hC (zdk dk_X12_reads 8 rfl) (q := 15) rfl ?_
    refine x_putI fl_RX12_104 ⟨rfl, rfl⟩ (by decide) (Or.inl rfl) h_r0 hC (zdk dk_X12_reads 9 rfl) (q := 18) rfl ?_
    refine x_nmM (fun M7 => ?_)
    refine x_aload_n (i := 0) rfl hC (zdk dk_X12_reads 10 rfl) (q := 19) rfl ?_
    refine x_iconst (i := 0) c_iconst_0 hC (zdk dk_X12_reads 11 rfl) (q := 20) rfl ?_
    refine x_putI fl_RX12_110 ⟨rfl, rfl⟩ (by decide) (Or.inl rfl) h_r0 hC (zdk dk_X12_reads 12 rfl) (q := 23) rfl ?_
    refine x_nmM (fun M8 => ?_)
    refine x_aload_n (i := 0) rfl hC (zdk dk_X12_reads 13 rfl) (q := 24) rfl ?_
    refine x_iconst (i := 0) c_iconst_0 hC (zdk dk_X12_reads 14 rfl) (q := 25) rfl ?_
    refine x_putI fl_RX12_113 ⟨rfl, rfl⟩ (by decide) (Or.inl rfl) h_r0 hC (zdk dk_X12_reads 15 rfl) (q := 28) rfl ?_
    refine x_nmM (fun M9 => ?_)
    refine x_aload_n (i := 0) rfl hC (zdk dk_X12_reads 16 rfl) (q := 29) rfl ?_
    refine x_iload_n (i := 1) rfl hC (zdk dk_X12_reads 17 rfl) (q := 30) rfl ?_
    refine x_if_eq (tgt := 37) hC (zdk dk_X12_reads 18 rfl) (q := 33) rfl rfl (fun _ => ?_) (fun _ => ?_)
    · refine x_iconst (i := 0) c_iconst_0 hC (zdk dk_X12_reads 21 rfl) (q := 38) rfl ?_
      refine x_weak (L' := [.ref r0, .null, .null]) ⟨Or.inr rfl, Or.inl rfl, Or.inl rfl, trivial⟩ ?_
      exact x_X12_reads_38 hC hE hk0 h_r0 _ _ _ h_r0
    · refine x_iconst (i := 1) c_iconst_1 hC (zdk dk_X12_reads 19 rfl) (q := 34) rfl ?_
      refine x_goto (tgt := 38) hC (zdk dk_X12_reads 20 rfl) rfl ?_
      refine x_weak (L' := [.ref r0, .null, .null]) ⟨Or.inr rfl, Or.inl rfl, Or.inl rfl, trivial⟩ ?_
      exact x_X12_reads_38 hC hE hk0 h_r0 _ _ _ h_r0
  · exact x_vret hE hC (zdk dk_X12_reads 3 rfl)
set_option maxRecDepth 100000 in
set_option maxHeartbeats 4000000 in
theorem t_X12_reads {n : Nat} {r0 : Nat} {x1 : Int32} {M : Mem} (h_r0 : zO n r0 12) (x : Mem) (hx : f_X12_reads r0 x1 M = some x) (l : Launch) (dC : Nat → ClassId) (dI : Nat → Nat → Nat) (b : zSg) : MT l dC dI b yX12_reads cX12_reads 3 none 4 0 0 n n [.ref r0, .int x1] M (emV x).1 (emV x).2 :=
  MT.ofX (by decide +kernel) rfl (Nat.le_of_ble_eq_true rfl) (fun κ hC hF _ => x_X12_reads hC (zEnd_of hF (Nat.le_refl _) (Nat.le_refl _)) (zRk_of hF (Nat.le_refl _) (Nat.le_refl _)) _ _ _ h_r0) x hx
set_option maxRecDepth 100000 in
def dt_X12_isCounted : List (Nat × Instr × Nat) := [(0, .aload_n 0, 1), (1, .getfield 36, 3), (4, .ifCond .ne 17, 3), (7, .iload_n 1, 1), (8, .ifCond .eq 13, 3), (11, .aload_n 0, 1), (12, .bipush 6, 2), (14, .aload_n 0, 1), (15, .getfield 23, 3), (18, .invokevirtual 251, 3), (21, .aload_n 0, 1), (22, .getfield 36, 3), (25, .ifCond .ne 7, 3), (28, .aload_n 0, 1), (29, .invokevirtual 268, 3), (32, .aload_n 0, 1), (33, .getfield 36, 3), (36, .ifCond .ne 7, 3), (39, .iconst 1, 1), (40, .goto 4, 3), (43, .iconst 0, 1), (44, .ireturn, 1)]
set_option maxRecDepth 100000 in
theorem dk_X12_isCounted : dt_X12_isCounted.all (fun q => decide (decode cX12_isCounted q.1 = .ok q.2)) = true := by decide +kernel
set_option maxRecDepth 100000 in
def f_X12_isCounted_44  (r0 : Nat) (x1 : Int32) (s0 : Int32) (M : Mem) : Option (Int32 × Mem) := zbz s0 (some (s0, M))
set_option maxRecDepth 100000 in
set_option maxHeartbeats 4000000 in
theorem x_X12_isCounted_44 {κ : KX} {n : Nat} (hC : CX κ cX12_isCounted RX12 2 (some .boolean) 2) (hE : zEnd κ n (0, 0)) (hk0 : zRk κ (0, 0)) {r0 : Nat} {x1 : Int32} (h_r0 : zO n r0 12) (s0 : Int32) (M : Mem) : X κ 2 emI n (0, 0) 44 [.null, .null] [.int s0] M (f_X12_isCounted_44 r0 x1 s0 M) := by
  unfold f_X12_isCounted_44
  refine x_bz (fun hb1 => ?_)
  exact x_iret (ty := .boolean) hb1.1 hE hC (zdk dk_X12_isCounted 21 rfl)
set_option maxRecDepth 100000 in
def f_X12_isCounted_32  (r0 : Nat) (x1 : Int32)  (M : Mem) : Option (Int32 × Mem) := (if zI M r0 8 = 0 then f_X12_isCounted_44 r0 x1 1 M else f_X12_isCounted_44 r0 x1 0 M)
set_option maxRecDepth 100000 in
set_option maxHeartbeats 4000000 in
theorem x_X12_isCounted_32 {κ : KX} {n : Nat} (hC : CX κ cX12_isCounted RX12 2 (some .boolean) 2) (hE : zEnd κ n (0, 0)) (hk0 : zRk κ (0, 0)) {r0 : Nat} {x1 : Int32} (h_r0 : zO n r0 12) (M : Mem) : X κ 2 emI n (0, 0) 32 [.ref r0, .null] [] M (f_X12_isCounted_32 r0 x1 M) := by
  unfold f_X12_isCounted_32
  refine x_aload_n (i := 0) rfl hC (zdk dk_X12_isCounted 15 rfl) (q := 33) rfl ?_
  refine x_getI fl_RX12_36 (by decide) h_r0 hC (zdk dk_X12_isCounted 16 rfl) (q := 36) rfl ?_
  refine x_if_ne (tgt := 43) hC (zdk dk_X12_isCounted 17 rfl) (q := 39) rfl rfl (fun _ => ?_) (fun _ => ?_)
  · refine x_iconst (i := 0) c_iconst_0 hC (zdk dk_X12_isCounted 20 rfl) (q := 44) rfl ?_
    refine x_weak (L' := [.null, .null]) ⟨Or.inl rfl, Or.inl rfl, trivial⟩ ?_
    exact x_X12_isCounted_44 hC hE hk0 h_r0 _ _
  · refine x_iconst (i := 1) c_iconst_1 hC (zdk dk_X12_isCounted 18 rfl) (q := 40) rfl ?_
    refine x_goto (tgt := 44) hC (zdk dk_X12_isCounted 19 rfl) rfl ?_
    refine x_weak (L' := [.null, .null]) ⟨Or.inl rfl, Or.inl rfl, trivial⟩ ?_
    exact x_X12_isCounted_44 hC hE hk0 h_r0 _ _
set_option maxRecDepth 100000 in
def f_X12_isCounted_21  (r0 : Nat) (x1 : Int32)  (M : Mem) : Option (Int32 × Mem) := (if zI M r0 8 = 0 then Option.bind (f_X12_ahead r0 M) fun M2 => f_X12_isCounted_32 r0 x1 M2 else f_X12_isCounted_32 r0 x1 M)
set_option maxRecDepth 100000 in
set_option maxHeartbeats 4000000 in
theorem x_X12_isCounted_21 {κ : KX} {n : Nat} (hC : CX κ cX12_isCounted RX12 2 (some .boolean) 2) (hE : zEnd κ n (0, 0)) (hk0 : zRk κ (0, 0)) {r0 : Nat} {x1 : Int32} (h_r0 : zO n r0 12) (M : Mem) : X κ 2 emI n (0, 0) 21 [.ref r0, .null] [] M (f_X12_isCounted_21 r0 x1 M) := by
  unfold f_X12_isCounted_21
  refine x_aload_n (i := 0) rfl hC (zdk dk_X12_isCounted 10 rfl) (q := 22) rfl ?_
  refine x_getI fl_RX12_36 (by decide) h_r0 hC (zdk dk_X12_isCounted 11 rfl) (q := 25) rfl ?_
  refine x_if_ne (tgt := 32) hC (zdk dk_X12_isCounted 12 rfl) (q := 28) rfl rfl (fun _ => ?_) (fun _ => ?_)
  · refine x_weak (L' := [.ref r0, .null]) ⟨Or.inr rfl, Or.inl rfl, trivial⟩ ?_
    exact x_X12_isCounted_32 hC hE hk0 h_r0 _
  · refine x_aload_n (i := 0) rfl hC (zdk dk_X12_isCounted 13 rfl) (q := 29) rfl ?_
    refine x_callVv (as := []) cb_RX12_268 rfl (by decide) hk0 h_r0 (fun x hx => t_X12_ahead h_r0 x hx) hC (zdk dk_X12_isCounted 14 rfl) (q := 32) rfl rfl (Nat.le_of_ble_eq_true rfl) (fun M2 => ?_)
    refine x_weak (L' := [.ref r0, .null]) ⟨Or.inr rfl, Or.inl rfl, trivial⟩ ?_
    exact x_X12_isCounted_32 hC hE hk0 h_r0 _
set_option maxRecDepth 100000 in
def f_X12_isCounted (r0 : Nat) (x1 : Int32) (M : Mem) : Option (Int32 × Mem) := (if zI M r0 8 = 0 then (if x1 = 0 then f_X12_isCounted_21 r0 x1 M else Option.bind (f_X12_blame r0 6 (zI M r0 4) M) fun M3 => f_X12_isCounted_21 r0 x1 M3) else f_X12_isCounted_21 r0 x1 M)
set_option maxRecDepth 100000 in
set_option maxHeartbeats 4000000 in
theorem x_X12_isCounted {κ : KX} {n : Nat} (hC : CX κ cX12_isCounted RX12 2 (some .boolean) 2) (hE : zEnd κ n (0, 0)) (hk0 : zRk κ (0, 0)) (r0 : Nat) (x1 : Int32) (M : Mem) (h_r0 : zO n r0 12) : X κ 2 emI n (0, 0) 0 [.ref r0, .int x1] [] M (f_X12_isCounted r0 x1 M) := by
  unfold f_X12_isCounted
  refine x_aload_n (i := 0) rfl hC (zdk dk_X12_isCounted 0 rfl) (q := 1) rfl ?_
  refine x_getI fl_RX12_36 (by decide) h_r0 hC (zdk dk_X12_isCounted 1 rfl) (q := 4) rfl ?_
  refine x_if_ne (tgt := 21) hC (zdk dk_X12_isCounted 2 rfl) (q := 7) rfl rfl (fun _ => ?_) (fun _ => ?_)
  · refine x_weak (L' := [.ref r0, .null]) ⟨Or.inr rfl, Or.inl rfl, trivial⟩ ?_
    exact x_X12_isCounted_21 hC hE hk0 h_r0 _
  · refine x_iload_n (i := 1) rfl hC (zdk dk_X12_isCounted 3 rfl) (q := 8) rfl ?_
    refine x_if_eq (tgt := 21) hC (zdk dk_X12_isCounted 4 rfl) (q := 11) rfl rfl (fun _ => ?_) (fun _ => ?_)
    · refine x_weak (L' := [.ref r0, .null]) ⟨Or.inr rfl, Or.inl rfl, trivial⟩ ?_
      exact x_X12_isCounted_21 hC hE hk0 h_r0 _
    · refine x_aload_n (i := 0) rfl hC (zdk dk_X12_isCounted 5 rfl) (q := 12) rfl ?_
      refine x_bipush (i := 6) c_bipush_6 hC (zdk dk_X12_isCounted 6 rfl) (q := 14) rfl ?_
      refine x_aload_n (i := 0) rfl hC (zdk dk_X12_isCounted 7 rfl) (q := 15) rfl ?_
      refine x_getI fl_RX12_23 (by decide) h_r0 hC (zdk dk_X12_isCounted 8 rfl) (q := 18) rfl ?_
      refine x_callVv (as := [.int 6, .int (zI M r0 4)]) cb_RX12_251 rfl (by decide) hk0 h_r0 (fun x hx => t_X12_blame h_r0 x hx) hC (zdk dk_X12_isCounted 9 rfl) (q := 21) rfl rfl (Nat.le_of_ble_eq_true rfl) (fun M3 => ?_)
      refine x_weak (L' := [.ref r0, .null]) ⟨Or.inr rfl, Or.inl rfl, trivial⟩ ?_
      exact x_X12_isCounted_21 hC hE hk0 h_r0 _
set_option maxRecDepth 100000 in
set_option maxHeartbeats 4000000 in
theorem t_X12_isCounted {n : Nat} {r0 : Nat} {x1 : Int32} {M : Mem} (h_r0 : zO n r0 12) (x : (Int32 × Mem)) (hx : f_X12_isCounted r0 x1 M = some x) (l : Launch) (dC : Nat → ClassId) (dI : Nat → Nat → Nat) (b : zSg) : MT l dC dI b yX12_isCounted cX12_isCounted 2 (some .boolean) 2 0 0 n n [.ref r0, .int x1] M (emI x).1 (emI x).2 :=
  MT.ofX (by decide +kernel) rfl (Nat.le_of_ble_eq_true rfl) (fun κ hC hF _ => x_X12_isCounted hC (zEnd_of hF (Nat.le_refl _) (Nat.le_refl _)) (zRk_of hF (Nat.le_refl _) (Nat.le_refl _)) _ _ _ h_r0) x hx
