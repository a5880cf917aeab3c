set_option maxRecDepth 100000 in
def dt_X12_goesOn : List (Nat × Instr × Nat) := [(0, .aload_n 0, 1), (1, .invokevirtual 262, 3), (4, .aload_n 0, 1), (5, .getfield 36, 3), (8, .ifCond .le 5, 3), (11, .iconst 0, 1), (12, .ireturn, 1), (13, .aload_n 0, 1), (14, .getfield 101, 3), (17, .iconst 1, 1), (18, .isub, 1), (19, .istore_n 1, 1), (20, .aload_n 0, 1), (21, .getfield 85, 3), (24, .iload_n 1, 1), (25, .iaload, 1), (26, .istore_n 2, 1), (27, .iload_n 2, 1), (28, .invokestatic 338, 3), (31, .istore_n 3, 1), (32, .aload_n 0, 1), (33, .getfield 88, 3), (36, .iload_n 1, 1), (37, .iaload, 1), (38, .iconst 2, 1), (39, .if_icmp .ge 149, 3), (42, .aload_n 0, 1), (43, .bipush 43, 2), (45, .invokevirtual 265, 3), (48, .ifCond .ne 39, 3), (51, .aload_n 0, 1), (52, .bipush 45, 2), (54, .invokevirtual 265, 3), (57, .ifCond .ne 30, 3), (60, .aload_n 0, 1), (61, .bipush 42, 2), (63, .invokevirtual 265, 3), (66, .ifCond .ne 21, 3), (69, .aload_n 0, 1), (70, .bipush 47, 2), (72, .invokevirtual 265, 3), (75, .ifCond .ne 12, 3), (78, .aload_n 0, 1), (79, .bipush 37, 2), (81, .invokevirtual 265, 3), (84, .ifCond .eq 104, 3), (87, .aload_n 0, 1), (88, .aload_n 0, 1), (89, .bipush 43, 2), (91, .invokevirtual 265, 3), (94, .ifCond .ne 12, 3), (97, .aload_n 0, 1), (98, .bipush 45, 2), (100, .invokevirtual 265, 3), (103, .ifCond .eq 7, 3), (106, .iconst 5, 1), (107, .goto 5, 3), (110, .bipush 6, 2), (112, .invokevirtual 351, 3), (115, .aload_n 0, 1), (116, .aload_n 0, 1), (117, .bipush 43, 2), (119, .invokevirtual 265, 3), (122, .ifCond .eq 8, 3), (125, .bipush 31, 2), (127, .goto 47, 3), (130, .aload_n 0, 1), (131, .bipush 45, 2), (133, .invokevirtual 265, 3), (136, .ifCond .eq 8, 3), (139, .bipush 32, 2), (141, .goto 33, 3), (144, .aload_n 0, 1), (145, .bipush 42, 2), (147, .invokevirtual 265, 3), (150, .ifCond .eq 8, 3), (153, .bipush 33, 2), (155, .goto 19, 3), (158, .aload_n 0, 1), (159, .bipush 47, 2), (161, .invokevirtual 265, 3), (164, .ifCond .eq 8, 3), (167, .bipush 34, 2), (169, .goto 5, 3), (172, .bipush 35, 2), (174, .invokevirtual 345, 3), (177, .aload_n 0, 1), (178, .invokevirtual 268, 3), (181, .aload_n 0, 1), (182, .iconst 0, 1), (183, .putfield 113, 3), (186, .iconst 1, 1), (187, .ireturn, 1), (188, .iload_n 3, 1), (189, .ifCond .eq 96, 3), (192, .aload_n 0, 1), (193, .getfield 88, 3), (196, .iload_n 1, 1), (197, .iaload, 1), (198, .ifCond .ne 87, 3), (201, .aload_n 0, 1), (202, .bipush 60, 2), (204, .invokevirtual 265, 3), (207, .ifCond .ne 21, 3), (210, .aload_n 0, 1), (211, .bipush 62, 2), (213, .invokevirtual 265, 3), (216, .ifCond .ne 12, 3), (219, .aload_n 0, 1), (220, .bipush 61, 2), (222, .invokevirtual 265, 3), (225, .ifCond .eq 60, 3), (228, .aload_n 0, 1), (229, .iconst 5, 1), (230, .invokevirtual 351, 3), (233, .aload_n 0, 1), (234, .aload_n 0, 1), (235, .bipush 60, 2), (237, .invokevirtual 265, 3), (240, .ifCond .eq 8, 3), (243, .bipush 38, 2), (245, .goto 19, 3), (248, .aload_n 0, 1), (249, .bipush 62, 2), (251, .invokevirtual 265, 3), (254, .ifCond .eq 8, 3), (257, .bipush 39, 2), (259, .goto 5, 3), (262, .bipush 40, 2), (264, .invokevirtual 345, 3), (267, .aload_n 0, 1), (268, .getfield 88, 3), (271, .iload_n 1, 1), (272, .iconst 1, 1), (273, .iastore, 1), (274, .aload_n 0, 1), (275, .invokevirtual 268, 3), (278, .aload_n 0, 1), (279, .iconst 0, 1), (280, .putfield 113, 3), (283, .iconst 1, 1), (284, .ireturn, 1), (285, .iload_n 3, 1), (286, .ifCond .eq 114, 3), (289, .aload_n 0, 1), (290, .ldc2_w 315, 3), (293, .invokevirtual 341, 3), (296, .ifCond .ne 13, 3), (299, .aload_n 0, 1), (300, .ldc2_w 313, 3), (303, .invokevirtual 341, 3), (306, .ifCond .eq 94, 3), (309, .aload_n 0, 1), (310, .getfield 88, 3), (313, .iload_n 1, 1), (314, .iaload, 1), (315, .ifCond .ne 12, 3), (318, .aload_n 0, 1), (319, .iconst 1, 1), (320, .aload_n 0, 1), (321, .getfield 23, 3), (324, .invokevirtual 251, 3), (327, .aload_n 0, 1), (328, .getfield 36, 3), (331, .ifCond .le 5, 3), (334, .iconst 0, 1), (335, .ireturn, 1), (336, .aload_n 0, 1), (337, .ldc2_w 315, 3), (340, .invokevirtual 341, 3), (343, .istore 4, 2), (345, .aload_n 0, 1), (346, .iload 4, 2), (348, .ifCond .eq 7, 3), (351, .iconst 2, 1), (352, .goto 4, 3), (355, .iconst 1, 1), (356, .invokevirtual 351, 3), (359, .aload_n 0, 1), (360, .iload 4, 2), (362, .ifCond .eq 8, 3), (365, .bipush 41, 2), (367, .goto 5, 3), (370, .bipush 42, 2), (372, .invokevirtual 345, 3), (375, .aload_n 0, 1), (376, .getfield 88, 3), (379, .iload_n 1, 1), (380, .iconst 0, 1), (381, .iastore, 1), (382, .aload_n 0, 1), (383, .getfield 91, 3), (386, .iload_n 1, 1), (387, .iconst 1, 1), (388, .bastore, 1), (389, .aload_n 0, 1), (390, .invokevirtual 268, 3), (393, .aload_n 0, 1), (394, .iconst 0, 1), (395, .putfield 113, 3), (398, .iconst 1, 1), (399, .ireturn, 1), (400, .iload_n 3, 1), (401, .ifCond .eq 21, 3), (404, .aload_n 0, 1), (405, .getfield 88, 3), (408, .iload_n 1, 1), (409, .iaload, 1), (410, .ifCond .ne 12, 3), (413, .aload_n 0, 1), (414, .iconst 1, 1), (415, .aload_n 0, 1), (416, .getfield 23, 3), (419, .invokevirtual 251, 3), (422, .iload_n 2, 1), (423, .iconst 2, 1), (424, .if_icmp .ge 17, 3), (427, .aload_n 0, 1), (428, .getfield 36, 3), (431, .ifCond .ne 8, 3), (434, .aload_n 0, 1), (435, .iconst 1, 1), (436, .invokevirtual 351, 3), (439, .iconst 0, 1), (440, .ireturn, 1), (441, .iload_n 2, 1), (442, .iconst 3, 1), (443, .if_icmp .eq 9, 3), (446, .iload_n 2, 1), (447, .bipush 6, 2), (449, .if_icmp .ne 69, 3), (452, .aload_n 0, 1), (453, .bipush 44, 2), (455, .invokevirtual 265, 3), (458, .ifCond .ne 12, 3), (461, .aload_n 0, 1), (462, .iconst 1, 1), (463, .aload_n 0, 1), (464, .getfield 23, 3), (467, .invokevirtual 251, 3), (470, .aload_n 0, 1), (471, .getfield 36, 3), (474, .ifCond .le 5, 3), (477, .iconst 0, 1), (478, .ireturn, 1), (479, .aload_n 0, 1), (480, .iconst 1, 1), (481, .invokevirtual 351, 3), (484, .aload_n 0, 1), (485, .getfield 85, 3), (488, .iload_n 1, 1), (489, .iload_n 2, 1), (490, .iconst 3, 1), (491, .if_icmp .ne 7, 3), (494, .iconst 4, 1), (495, .goto 4, 3), (498, .iconst 3, 1), (499, .iastore, 1), (500, .aload_n 0, 1), (501, .getfield 88, 3), (504, .iload_n 1, 1), (505, .iconst 0, 1), (506, .iastore, 1), (507, .aload_n 0, 1), (508, .invokevirtual 268, 3), (511, .aload_n 0, 1), (512, .iconst 0, 1), (513, .putfield 113, 3), (516, .iconst 1, 1), (517, .ireturn, 1), (518, .aload_n 0, 1), (519, .iload_n 2, 1), (520, .iconst 5, 1), (521, .if_icmp .ne 8, 3), (524, .bipush 93, 2), (526, .goto 5, 3), (529, .bipush 41, 2), (531, .invokevirtual 265, 3), (534, .ifCond .ne 12, 3), (537, .aload_n 0, 1), (538, .iconst 1, 1), (539, .aload_n 0, 1), (540, .getfield 23, 3), (543, .invokevirtual 251, 3), (546, .aload_n 0, 1), (547, .getfield 36, 3), (550, .ifCond .le 5, 3), (553, .iconst 0, 1), (554, .ireturn, 1), (555, .aload_n 0, 1), (556, .iconst 1, 1), (557, .invokevirtual 351, 3), (560, .aload_n 0, 1), (561, .dup, 1), (562, .getfield 101, 3), (565, .iconst 1, 1), (566, .isub, 1), (567, .putfield 101, 3), (570, .aload_n 0, 1), (571, .dup, 1), (572, .getfield 104, 3), (575, .iconst 1, 1), (576, .isub, 1), (577, .putfield 104, 3), (580, .iload_n 2, 1), (581, .iconst 4, 1), (582, .if_icmp .ne 14, 3), (585, .aload_n 0, 1), (586, .aload_n 0, 1), (587, .getfield 95, 3), (590, .iload_n 1, 1), (591, .iaload, 1), (592, .iconst 0, 1), (593, .invokevirtual 332, 3), (596, .iload_n 2, 1), (597, .iconst 5, 1), (598, .if_icmp .ne 15, 3), (601, .aload_n 0, 1), (602, .getfield 88, 3), (605, .aload_n 0, 1), (606, .getfield 101, 3), (609, .iconst 1, 1), (610, .isub, 1), (611, .iconst 2, 1), (612, .iastore, 1), (613, .aload_n 0, 1), (614, .invokevirtual 268, 3), (617, .iconst 1, 1), (618, .ireturn, 1)]
set_option maxRecDepth 100000 in
theorem dk_X12_goesOn : dt_X12_goesOn.all (fun q => decide (decode cX12_goesOn q.1 = .ok q.2)) = true := by decide +kernel
set_option maxRecDepth 100000 in
def f_X12_goesOn_174  (r0 : Nat) (s0 : Nat) (s1 : Int32) (M : Mem) : Option (Int32 × Mem) := Option.bind (f_X12_holdsBack s0 s1 M) fun M1 => Option.bind (f_X12_ahead r0 M1) fun M2 => Option.bind (some (zsI M2 r0 33 0)) fun M3 => some (1, M3)
set_option maxRecDepth 100000 in
set_option maxHeartbeats 4000000 in
theorem x_X12_goesOn_174 {κ : KX} {n : Nat} (hC : CX κ cX12_goesOn RX12 5 (some .boolean) 2) (hE : zEnd κ n (0, 0)) (hk0 : zRk κ (0, 0)) {r0 : Nat} (h_r0 : zO n r0 12) (s0 : Nat) (s1 : Int32) (M : Mem) (h_s0 : zO n s0 12) : X κ 5 emI n (0, 0) 174 [.ref r0, .null, .null, .null, .null] [.int s1, .ref s0] M (f_X12_goesOn_174 r0 s0 s1 M) := by
  unfold f_X12_goesOn_174
  refine x_callVv (as := [.int s1]) cb_RX12_345 rfl (by decide) hk0 h_s0 (fun x hx => t_X12_holdsBack h_s0 x hx) hC (zdk dk_X12_goesOn 85 rfl) (q := 177) rfl rfl (Nat.le_of_ble_eq_true rfl) (fun M1 => ?_)
  refine x_aload_n (i := 0) rfl hC (zdk dk_X12_goesOn 86 rfl) (q := 178) rfl ?_
  refine x_callVv (as := []) cb_RX12_268 rfl (by decide) hk0 h_r0 (fun x hx => t_X12_ahead h_r0 x hx) hC (zdk dk_X12_goesOn 87 rfl) (q := 181) rfl rfl (Nat.le_of_ble_eq_true rfl) (fun M2 => ?_)
  refine x_aload_n (i := 0) rfl hC (zdk dk_X12_goesOn 88 rfl) (q := 182) rfl ?_
  refine x_iconst (i := 0) c_iconst_0 hC (zdk dk_X12_goesOn 89 rfl) (q := 183) rfl ?_
  refine x_putI fl_RX12_113 ⟨rfl, rfl⟩ (by decide) (Or.inl rfl) h_r0 hC (zdk dk_X12_goesOn 90 rfl) (q := 186) rfl ?_
  refine x_nmM (fun M3 => ?_)
  refine x_iconst (i := 1) c_iconst_1 hC (zdk dk_X12_goesOn 91 rfl) (q := 187) rfl ?_
  exact x_iret (ty := .boolean) rfl hE hC (zdk dk_X12_goesOn 92 rfl)
set_option maxRecDepth 100000 in
def f_X12_goesOn_112  (r0 : Nat) (s0 : Nat) (s1 : Int32) (M : Mem) : Option (Int32 × Mem) := Option.bind (f_X12_joins s0 s1 M) fun M4 => Option.bind (f_X12_isSign r0 43 M4) fun z5 => (if z5.1 = 0 then Option.bind (f_X12_isSign r0 45 z5.2) fun z6 => (if z6.1 = 0 then Option.bind (f_X12_isSign r0 42 z6.2) fun z7 => (if z7.1 = 0 then Option.bind (f_X12_isSign r0 47 z7.2) fun z8 => (if z8.1 = 0 then f_X12_goesOn_174 r0 r0 35 z8.2 else f_X12_goesOn_174 r0 r0 34 z8.2) else f_X12_goesOn_174 r0 r0 33 z7.2) else f_X12_goesOn_174 r0 r0 32 z6.2) else f_X12_goesOn_174 r0 r0 31 z5.2)
set_option maxRecDepth 100000 in
set_option maxHeartbeats 4000000 in
theorem x_X12_goesOn_112 {κ : KX} {n : Nat} (hC : CX κ cX12_goesOn RX12 5 (some .boolean) 2) (hE : zEnd κ n (0, 0)) (hk0 : zRk κ (0, 0)) {r0 : Nat} (h_r0 : zO n r0 12) (s0 : Nat) (s1 : Int32) (M : Mem) (h_s0 : zO n s0 12) : X κ 5 emI n (0, 0) 112 [.ref r0, .null, .null, .null, .null] [.int s1, .ref s0] M (f_X12_goesOn_112 r0 s0 s1 M) := by
  unfold f_X12_goesOn_112
  refine x_callVv (as := [.int s1]) cb_RX12_351 rfl (by decide) hk0 h_s0 (fun x hx => t_X12_joins h_s0 x hx) hC (zdk dk_X12_goesOn 58 rfl) (q := 115) rfl rfl (Nat.le_of_ble_eq_true rfl) (fun M4 => ?_)
  refine x_aload_n (i := 0) rfl hC (zdk dk_X12_goesOn 59 rfl) (q := 116) rfl ?_
  refine x_aload_n (i := 0) rfl hC (zdk dk_X12_goesOn 60 rfl) (q := 117) rfl ?_
  refine x_bipush (i := 43) c_bipush_43 hC (zdk dk_X12_goesOn 61 rfl) (q := 119) rfl ?_
  refine x_callVi (as := [.int 43]) cb_RX12_265 rfl (by decide) hk0 h_r0 (fun x hx => t_X12_isSign h_r0 x hx) hC (zdk dk_X12_goesOn 62 rfl) (q := 122) rfl rfl (Nat.le_of_ble_eq_true rfl) (fun z5 => ?_)
  refine x_if_eq (tgt := 130) hC (zdk dk_X12_goesOn 63 rfl) (q := 125) rfl rfl (fun _ => ?_) (fun _ => ?_)
  · refine x_aload_n (i := 0) rfl hC (zdk dk_X12_goesOn 66 rfl) (q := 131) rfl ?_
    refine x_bipush (i := 45) c_bipush_45 hC (zdk dk_X12_goesOn 67 rfl) (q := 133) rfl ?_
    refine x_callVi (as := [.int 45]) cb_RX12_265 rfl (by decide) hk0 h_r0 (fun x hx => t_X12_isSign h_r0 x hx) hC (zdk dk_X12_goesOn 68 rfl) (q := 136) rfl rfl (Nat.le_of_ble_eq_true rfl) (fun z6 => ?_)
    refine x_if_eq (tgt := 144) hC (zdk dk_X12_goesOn 69 rfl) (q := 139) rfl rfl (fun _ => ?_) (fun _ => ?_)
    · refine x_aload_n (i := 0) rfl hC (zdk dk_X12_goesOn 72 rfl) (q := 145) rfl ?_
      refine x_bipush (i := 42) c_bipush_42 hC (zdk dk_X12_goesOn 73 rfl) (q := 147) rfl ?_
      refine x_callVi (as := [.int 42]) cb_RX12_265 rfl (by decide) hk0 h_r0 (fun x hx => t_X12_isSign h_r0 x hx) hC (zdk dk_X12_goesOn 74 rfl) (q := 150) rfl rfl (Nat.le_of_ble_eq_true rfl) (fun z7 => ?_)
      refine x_if_eq (tgt := 158) hC (zdk dk_X12_goesOn 75 rfl) (q := 153) rfl rfl (fun _ => ?_) (fun _ => ?_)
      · refine x_aload_n (i := 0) rfl hC (zdk dk_X12_goesOn 78 rfl) (q := 159) rfl ?_
        refine x_bipush (i := 47) c_bipush_47 hC (zdk dk_X12_goesOn 79 rfl) (q := 161) rfl ?_
        refine x_callVi (as := [.int 47]) cb_RX12_265 rfl (by decide) hk0 h_r0 (fun x hx => t_X12_isSign h_r0 x hx) hC (zdk dk_X12_goesOn 80 rfl) (q := 164) rfl rfl (Nat.le_of_ble_eq_true rfl) (fun z8 => ?_)
        refine x_if_eq (tgt := 172) hC (zdk dk_X12_goesOn 81 rfl) (q := 167) rfl rfl (fun _ => ?_) (fun _ => ?_)
        · refine x_bipush (i := 35) c_bipush_35 hC (zdk dk_X12_goesOn 84 rfl) (q := 174) rfl ?_
          refine x_weak (L' := [.ref r0, .null, .null, .null, .null]) ⟨Or.inr rfl, Or.inl rfl, Or.inl rfl, Or.inl rfl, Or.inl rfl, trivial⟩ ?_
          exact x_X12_goesOn_174 hC hE hk0 h_r0 _ _ _ h_r0
        · refine x_bipush (i := 34) c_bipush_34 hC (zdk dk_X12_goesOn 82 rfl) (q := 169) rfl ?_
          refine x_goto (tgt := 174) hC (zdk dk_X12_goesOn 83 rfl) rfl ?_
          refine x_weak (L' := [.ref r0, .null, .null, .null, .null]) ⟨Or.inr rfl, Or.inl rfl, Or.inl rfl, Or.inl rfl, Or.inl rfl, trivial⟩ ?_
          exact x_X12_goesOn_174 hC hE hk0 h_r0 _ _ _ h_r0
      · refine x_bipush (i := 33) c_bipush_33 hC (zdk dk_X12_goesOn 76 rfl) (q := 155) rfl ?_
        refine x_goto (tgt := 174) hC (zdk dk_X12_goesOn 77 rfl) rfl ?_
        refine x_weak (L' := [.ref r0, .null, .null, .null, .null]) ⟨Or.inr rfl, Or.inl rfl, Or.inl rfl, Or.inl rfl, Or.inl rfl, trivial⟩ ?_
        exact x_X12_goesOn_174 hC hE hk0 h_r0 _ _ _ h_r0
    · refine x_bipush (i := 32) c_bipush_32 hC (zdk dk_X12_goesOn 70 rfl) (q := 141) rfl ?_
      refine x_goto (tgt := 174) hC (zdk dk_X12_goesOn 71 rfl) rfl ?_
      refine x_weak (L' := [.ref r0, .null, .null, .null, .null]) ⟨Or.inr rfl, Or.inl rfl, Or.inl rfl, Or.inl rfl, Or.inl rfl, trivial⟩ ?_
      exact x_X12_goesOn_174 hC hE hk0 h_r0 _ _ _ h_r0
  · refine x_bipush (i := 31) c_bipush_31 hC (zdk dk_X12_goesOn 64 rfl) (q := 127) rfl ?_
    refine x_goto (tgt := 174) hC (zdk dk_X12_goesOn 65 rfl) rfl ?_
    refine x_weak (L' := [.ref r0, .null, .null, .null, .null]) ⟨Or.inr rfl, Or.inl rfl, Or.inl rfl, Or.inl rfl, Or.inl rfl, trivial⟩ ?_
    exact x_X12_goesOn_174 hC hE hk0 h_r0 _ _ _ h_r0
set_option maxRecDepth 100000 in
def f_X12_goesOn_106  (r0 : Nat) (s0 : Nat) (M : Mem) : Option (Int32 × Mem) := f_X12_goesOn_112 r0 s0 5 M
set_option maxRecDepth 100000 in
set_option maxHeartbeats 4000000 in
theorem x_X12_goesOn_106 {κ : KX} {n : Nat} (hC : CX κ cX12_goesOn RX12 5 (some .boolean) 2) (hE : zEnd κ n (0, 0)) (hk0 : zRk κ (0, 0)) {r0 : Nat} (h_r0 : zO n r0 12) (s0 : Nat) (M : Mem) (h_s0 : zO n s0 12) : X κ 5 emI n (0, 0) 106 [.ref r0, .null, .null, .null, .null] [.ref s0] M (f_X12_goesOn_106 r0 s0 M) := by
  unfold f_X12_goesOn_106
  refine x_iconst (i := 5) c_iconst_5 hC (zdk dk_X12_goesOn 55 rfl) (q := 107) rfl ?_
  refine x_goto (tgt := 112) hC (zdk dk_X12_goesOn 56 rfl) rfl ?_
  refine x_weak (L' := [.ref r0, .null, .null, .null, .null]) ⟨Or.inr rfl, Or.inl rfl, Or.inl rfl, Or.inl rfl, Or.inl rfl, trivial⟩ ?_
  exact x_X12_goesOn_112 hC hE hk0 h_r0 _ _ _ h_s0
set_option maxRecDepth 100000 in
def f_X12_goesOn_87  (r0 : Nat)  (M : Mem) : Option (Int32 × Mem) := Option.bind (f_X12_isSign r0 43 M) fun z9 => (if z9.1 = 0 then Option.bind (f_X12_isSign r0 45 z9.2) fun z10 => (if z10.1 = 0 then f_X12_goesOn_112 r0 r0 6 z10.2 else f_X12_goesOn_106 r0 r0 z10.2) else f_X12_goesOn_106 r0 r0 z9.2)
set_option maxRecDepth 100000 in
set_option maxHeartbeats 4000000 in
theorem x_X12_goesOn_87 {κ : KX} {n : Nat} (hC : CX κ cX12_goesOn RX12 5 (some .boolean) 2) (hE : zEnd κ n (0, 0)) (hk0 : zRk κ (0, 0)) {r0 : Nat} (h_r0 : zO n r0 12) (M : Mem) : X κ 5 emI n (0, 0) 87 [.ref r0, .null, .null, .null, .null] [] M (f_X12_goesOn_87 r0 M) := by
  unfold f_X12_goesOn_87
  refine x_aload_n (i := 0) rfl hC (zdk dk_X12_goesOn 46 rfl) (q := 88) rfl ?_
  refine x_aload_n (i := 0) rfl hC (zdk dk_X12_goesOn 47 rfl) (q := 89) rfl ?_
  refine x_bipush (i := 43) c_bipush_43 hC (zdk dk_X12_goesOn 48 rfl) (q := 91) rfl ?_
  refine x_callVi (as := [.int 43]) cb_RX12_265 rfl (by decide) hk0 h_r0 (fun x hx => t_X12_isSign h_r0 x hx) hC (zdk dk_X12_goesOn 49 rfl) (q := 94) rfl rfl (Nat.le_of_ble_eq_true rfl) (fun z9 => ?_)
  refine x_if_ne (tgt := 106) hC (zdk dk_X12_goesOn 50 rfl) (q := 97) rfl rfl (fun _ => ?_) (fun _ => ?_)
  · refine x_weak (L' := [.ref r0, .null, .null, .null, .null]) ⟨Or.inr rfl, Or.inl rfl, Or.inl rfl, Or.inl rfl, Or.inl rfl, trivial⟩ ?_
    exact x_X12_goesOn_106 hC hE hk0 h_r0 _ _ h_r0
  · refine x_aload_n (i := 0) rfl hC (zdk dk_X12_goesOn 51 rfl) (q := 98) rfl ?_
    refine x_bipush (i := 45) c_bipush_45 hC (zdk dk_X12_goesOn 52 rfl) (q := 100) rfl ?_
    refine x_callVi (as := [.int 45]) cb_RX12_265 rfl (by decide) hk0 h_r0 (fun x hx => t_X12_isSign h_r0 x hx) hC (zdk dk_X12_goesOn 53 rfl) (q := 103) rfl rfl (Nat.le_of_ble_eq_true rfl) (fun z10 => ?_)
    refine x_if_eq (tgt := 110) hC (zdk dk_X12_goesOn 54 rfl) (q := 106) rfl rfl (fun _ => ?_) (fun _ => ?_)
    · refine x_bipush (i := 6) c_bipush_6 hC (zdk dk_X12_goesOn 57 rfl) (q := 112) rfl ?_
      refine x_weak (L' := [.ref r0, .null, .null, .null, .null]) ⟨Or.inr rfl, Or.inl rfl, Or.inl rfl, Or.inl rfl, Or.inl rfl, trivial⟩ ?_
      exact x_X12_goesOn_112 hC hE hk0 h_r0 _ _ _ h_r0
    · refine x_weak (L' := [.ref r0, .null, .null, .null, .null]) ⟨Or.inr rfl, Or.inl rfl, Or.inl rfl, Or.inl rfl, Or.inl rfl, trivial⟩ ?_
      exact x_X12_goesOn_106 hC hE hk0 h_r0 _ _ h_r0
set_option maxRecDepth 100000 in
def f_X12_goesOn_264  (r0 : Nat) (x1 : Int32) (s0 : Nat) (s1 : Int32) (M : Mem) : Option (Int32 × Mem) := Option.bind (f_X12_holdsBack s0 s1 M) fun M11 => Option.bind (zrf M11 r0 25) fun q12 => Option.bind (zld q12 x1) fun k13 => Option.bind (some (zsI M11 q12 k13 1)) fun M14 => Option.bind (f_X12_ahead r0 M14) fun M15 => Option.bind (some (zsI M15 r0 33 0)) fun M16 => some (1, M16)
set_option maxRecDepth 100000 in
set_option maxHeartbeats 4000000 in
theorem x_X12_goesOn_264 {κ : KX} {n : Nat} (hC : CX κ cX12_goesOn RX12 5 (some .boolean) 2) (hE : zEnd κ n (0, 0)) (hk0 : zRk κ (0, 0)) {r0 : Nat} (h_r0 : zO n r0 12) (x1 : Int32) (s0 : Nat) (s1 : Int32) (M : Mem) (h_s0 : zO n s0 12) : X κ 5 emI n (0, 0) 264 [.ref r0, .int x1, .null, .null, .null] [.int s1, .ref s0] M (f_X12_goesOn_264 r0 x1 s0 s1 M) := by
  unfold f_X12_goesOn_264
  refine x_callVv (as := [.int s1]) cb_RX12_345 rfl (by decide) hk0 h_s0 (fun x hx => t_X12_holdsBack h_s0 x hx) hC (zdk dk_X12_goesOn 129 rfl) (q := 267) rfl rfl (Nat.le_of_ble_eq_true rfl) (fun M11 => ?_)
  refine x_aload_n (i := 0) rfl hC (zdk dk_X12_goesOn 130 rfl) (q := 268) rfl ?_
  refine x_getR (k := 20) fl_RX12_88 rfl h_r0 hC (zdk dk_X12_goesOn 131 rfl) (q := 271) rfl (fun q12 hq12 => ?_)
  refine x_iload_n (i := 1) rfl hC (zdk dk_X12_goesOn 132 rfl) (q := 272) rfl ?_
  refine x_iconst (i := 1) c_iconst_1 hC (zdk dk_X12_goesOn 133 rfl) (q := 273) rfl ?_
  refine x_iast hq12 hC (zdk dk_X12_goesOn 134 rfl) (q := 274) rfl (fun k13 _ => ?_)
  refine x_nmM (fun M14 => ?_)
  refine x_aload_n (i := 0) rfl hC (zdk dk_X12_goesOn 135 rfl) (q := 275) rfl ?_
  refine x_callVv (as := []) cb_RX12_268 rfl (by decide) hk0 h_r0 (fun x hx => t_X12_ahead h_r0 x hx) hC (zdk dk_X12_goesOn 136 rfl) (q := 278) rfl rfl (Nat.le_of_ble_eq_true rfl) (fun M15 => ?_)
  refine x_aload_n (i := 0) rfl hC (zdk dk_X12_goesOn 137 rfl) (q := 279) rfl ?_
  refine x_iconst (i := 0) c_iconst_0 hC (zdk dk_X12_goesOn 138 rfl) (q := 280) rfl ?_
  refine x_putI fl_RX12_113 ⟨rfl, rfl⟩ (by decide) (Or.inl rfl) h_r0 hC (zdk dk_X12_goesOn 139 rfl) (q := 283) rfl ?_
  refine x_nmM (fun M16 => ?_)
  refine x_iconst (i := 1) c_iconst_1 hC (zdk dk_X12_goesOn 140 rfl) (q := 284) rfl ?_
  exact x_iret (ty := .boolean) rfl hE hC (zdk dk_X12_goesOn 141 rfl)
set_option maxRecDepth 100000 in
def f_X12_goesOn_228  (r0 : Nat) (x1 : Int32) (M : Mem) : Option (Int32 × Mem) := Option.bind (f_X12_joins r0 5 M) fun M17 => Option.bind (f_X12_isSign r0 60 M17) fun z18 => (if z18.1 = 0 then Option.bind (f_X12_isSign r0 62 z18.2) fun z19 => (if z19.1 = 0 then f_X12_goesOn_264 r0 x1 r0 40 z19.2 else f_X12_goesOn_264 r0 x1 r0 39 z19.2) else f_X12_goesOn_264 r0 x1 r0 38 z18.2)
set_option maxRecDepth 100000 in
set_option maxHeartbeats 4000000 in
theorem x_X12_goesOn_228 {κ : KX} {n : Nat} (hC : CX κ cX12_goesOn RX12 5 (some .boolean) 2) (hE : zEnd κ n (0, 0)) (hk0 : zRk κ (0, 0)) {r0 : Nat} (h_r0 : zO n r0 12) (x1 : Int32) (M : Mem) : X κ 5 emI n (0, 0) 228 [.ref r0, .int x1, .null, .null, .null] [] M (f_X12_goesOn_228 r0 x1 M) := by
  unfold f_X12_goesOn_228
  refine x_aload_n (i := 0) rfl hC (zdk dk_X12_goesOn 112 rfl) (q := 229) rfl ?_
  refine x_iconst (i := 5) c_iconst_5 hC (zdk dk_X12_goesOn 113 rfl) (q := 230) rfl ?_
  refine x_callVv (as := [.int 5]) cb_RX12_351 rfl (by decide) hk0 h_r0 (fun x hx => t_X12_joins h_r0 x hx) hC (zdk dk_X12_goesOn 114 rfl) (q := 233) rfl rfl (Nat.le_of_ble_eq_true rfl) (fun M17 => ?_)
  refine x_aload_n (i := 0) rfl hC (zdk dk_X12_goesOn 115 rfl) (q := 234) rfl ?_
  refine x_aload_n (i := 0) rfl hC (zdk dk_X12_goesOn 116 rfl) (q := 235) rfl ?_
  refine x_bipush (i := 60) c_bipush_60 hC (zdk dk_X12_goesOn 117 rfl) (q := 237) rfl ?_
  refine x_callVi (as := [.int 60]) cb_RX12_265 rfl (by decide) hk0 h_r0 (fun x hx => t_X12_isSign h_r0 x hx) hC (zdk dk_X12_goesOn 118 rfl) (q := 240) rfl rfl (Nat.le_of_ble_eq_true rfl) (fun z18 => ?_)
  refine x_if_eq (tgt := 248) hC (zdk dk_X12_goesOn 119 rfl) (q := 243) rfl rfl (fun _ => ?_) (fun _ => ?_)
  · refine x_aload_n (i := 0) rfl hC (zdk dk_X12_goesOn 122 rfl) (q := 249) rfl ?_
    refine x_bipush (i := 62) c_bipush_62 hC (zdk dk_X12_goesOn 123 rfl) (q := 251) rfl ?_
    refine x_callVi (as := [.int 62]) cb_RX12_265 rfl (by decide) hk0 h_r0 (fun x hx => t_X12_isSign h_r0 x hx) hC (zdk dk_X12_goesOn 124 rfl) (q := 254) rfl rfl (Nat.le_of_ble_eq_true rfl) (fun z19 => ?_)
    refine x_if_eq (tgt := 262) hC (zdk dk_X12_goesOn 125 rfl) (q := 257) rfl rfl (fun _ => ?_) (fun _ => ?_)
    · refine x_bipush (i := 40) c_bipush_40 hC (zdk dk_X12_goesOn 128 rfl) (q := 264) rfl ?_
      refine x_weak (L' := [.ref r0, .int x1, .null, .null, .null]) ⟨Or.inr rfl, Or.inr rfl, Or.inl rfl, Or.inl rfl, Or.inl rfl, trivial⟩ ?_
      exact x_X12_goesOn_264 hC hE hk0 h_r0 _ _ _ _ h_r0
    · refine x_bipush (i := 39) c_bipush_39 hC (zdk dk_X12_goesOn 126 rfl) (q := 259) rfl ?_
      refine x_goto (tgt := 264) hC (zdk dk_X12_goesOn 127 rfl) rfl ?_
      refine x_weak (L' := [.ref r0, .int x1, .null, .null, .null]) ⟨Or.inr rfl, Or.inr rfl, Or.inl rfl, Or.inl rfl, Or.inl rfl, trivial⟩ ?_
      exact x_X12_goesOn_264 hC hE hk0 h_r0 _ _ _ _ h_r0
  · refine x_bipush (i := 38) c_bipush_38 hC (zdk dk_X12_goesOn 120 rfl) (q := 245) rfl ?_
    refine x_goto (tgt := 264) hC (zdk dk_X12_goesOn 121 rfl) rfl ?_
    refine x_weak (L' := [.ref r0, .int x1, .null, .null, .null]) ⟨Or.inr rfl, Or.inr rfl, Or.inl rfl, Or.inl rfl, Or.inl rfl, trivial⟩ ?_
    exact x_X12_goesOn_264 hC hE hk0 h_r0 _ _ _ _ h_r0
set_option maxRecDepth 100000 in
def f_X12_goesOn_372  (r0 : Nat) (x1 : Int32) (s0 : Nat) (s1 : Int32) (M : Mem) : Option (Int32 × Mem) := Option.bind (f_X12_holdsBack s0 s1 M) fun M20 => Option.bind (zrf M20 r0 25) fun q21 => Option.bind (zld q21 x1) fun k22 => Option.bind (some (zsI M20 q21 k22 0)) fun M23 => Option.bind (zrf M23 r0 26) fun q24 => Option.bind (zld q24 x1) fun k25 => Option.bind (some (zsI M23 q24 k25 1)) fun M26 => Option.bind (f_X12_ahead r0 M26) fun M27 => Option.bind (some (zsI M27 r0 33 0)) fun M28 => some (1, M28)
set_option maxRecDepth 100000 in
set_option maxHeartbeats 4000000 in
theorem x_X12_goesOn_372 {κ : KX} {n : Nat} (hC : CX κ cX12_goesOn RX12 5 (some .boolean) 2) (hE : zEnd κ n (0, 0)) (hk0 : zRk κ (0, 0)) {r0 : Nat} (h_r0 : zO n r0 12) (x1 : Int32) (s0 : Nat) (s1 : Int32) (M : Mem) (h_s0 : zO n s0 12) : X κ 5 emI n (0, 0) 372 [.ref r0, .int x1, .null, .null, .null] [.int s1, .ref s0] M (f_X12_goesOn_372 r0 x1 s0 s1 M) := by
  unfold f_X12_goesOn_372
  refine x_callVv (as := [.int s1]) cb_RX12_345 rfl (by decide) hk0 h_s0 (fun x hx => t_X12_holdsBack h_s0 x hx) hC (zdk dk_X12_goesOn 184 rfl) (q := 375) rfl rfl (Nat.le_of_ble_eq_true rfl) (fun M20 => ?_)
  refine x_aload_n (i := 0) rfl hC (zdk dk_X12_goesOn 185 rfl) (q := 376) rfl ?_
  refine x_getR (k := 20) fl_RX12_88 rfl h_r0 hC (zdk dk_X12_goesOn 186 rfl) (q := 379) rfl (fun q21 hq21 => ?_)
  refine x_iload_n (i := 1) rfl hC (zdk dk_X12_goesOn 187 rfl) (q := 380) rfl ?_
  refine x_iconst (i := 0) c_iconst_0 hC (zdk dk_X12_goesOn 188 rfl) (q := 381) rfl ?_
  refine x_iast hq21 hC (zdk dk_X12_goesOn 189 rfl) (q := 382) rfl (fun k22 _ => ?_)
  refine x_nmM (fun M23 => ?_)
  refine x_aload_n (i := 0) rfl hC (zdk dk_X12_goesOn 190 rfl) (q := 383) rfl ?_
  refine x_getR (k := 22) fl_RX12_91 rfl h_r0 hC (zdk dk_X12_goesOn 191 rfl) (q := 386) rfl (fun q24 hq24 => ?_)
  refine x_iload_n (i := 1) rfl hC (zdk dk_X12_goesOn 192 rfl) (q := 387) rfl ?_
  refine x_iconst (i := 1) c_iconst_1 hC (zdk dk_X12_goesOn 193 rfl) (q := 388) rfl ?_
  refine x_zast (by rfl) hq24 hC (zdk dk_X12_goesOn 194 rfl) (q := 389) rfl (fun k25 _ => ?_)
  refine x_nmM (fun M26 => ?_)
  refine x_aload_n (i := 0) rfl hC (zdk dk_X12_goesOn 195 rfl) (q := 390) rfl ?_
  refine x_callVv (as := []) cb_RX12_268 rfl (by decide) hk0 h_r0 (fun x hx => t_X12_ahead h_r0 x hx) hC (zdk dk_X12_goesOn 196 rfl) (q := 393) rfl rfl (Nat.le_of_ble_eq_true rfl) (fun M27 => ?_)
  refine x_aload_n (i := 0) rfl hC (zdk dk_X12_goesOn 197 rfl) (q := 394) rfl ?_
  refine x_iconst (i := 0) c_iconst_0 hC (zdk dk_X12_goesOn 198 rfl) (q := 395) rfl ?_
  refine x_putI fl_RX12_113 ⟨rfl, rfl⟩ (by decide) (Or.inl rfl) h_r0 hC (zdk dk_X12_goesOn 199 rfl) (q := 398) rfl ?_
  refine x_nmM (fun M28 => ?_)
  refine x_iconst (i := 1) c_iconst_1 hC (zdk dk_X12_goesOn 200 rfl) (q := 399) rfl ?_
  exact x_iret (ty := .boolean) rfl hE hC (zdk dk_X12_goesOn 201 rfl)
set_option maxRecDepth 100000 in
def f_X12_goesOn_356  (r0 : Nat) (x1 : Int32) (x4 : Int32) (s0 : Nat) (s1 : Int32) (M : Mem) : Option (Int32 × Mem) := Option.bind (f_X12_joins s0 s1 M) fun M29 => (if x4 = 0 then f_X12_goesOn_372 r0 x1 r0 42 M29 else f_X12_goesOn_372 r0 x1 r0 41 M29)
set_option maxRecDepth 100000 in
set_option maxHeartbeats 4000000 in
theorem x_X12_goesOn_356 {κ : KX} {n : Nat} (hC : CX κ cX12_goesOn RX12 5 (some .boolean) 2) (hE : zEnd κ n (0, 0)) (hk0 : zRk κ (0, 0)) {r0 : Nat} (h_r0 : zO n r0 12) (x1 : Int32) (x4 : Int32) (s0 : Nat) (s1 : Int32) (M : Mem) (h_s0 : zO n s0 12) : X κ 5 emI n (0, 0) 356 [.ref r0, .int x1, .null, .null, .int x4] [.int s1, .ref s0] M (f_X12_goesOn_356 r0 x1 x4 s0 s1 M) := by
  unfold f_X12_goesOn_356
  refine x_callVv (as := [.int s1]) cb_RX12_351 rfl (by decide) hk0 h_s0 (fun x hx => t_X12_joins h_s0 x hx) hC (zdk dk_X12_goesOn 177 rfl) (q := 359) rfl rfl (Nat.le_of_ble_eq_true rfl) (fun M29 => ?_)
  refine x_aload_n (i := 0) rfl hC (zdk dk_X12_goesOn 178 rfl) (q := 360) rfl ?_
  refine x_iload (i := 4) rfl hC (zdk dk_X12_goesOn 179 rfl) (q := 362) rfl ?_
  refine x_if_eq (tgt := 370) hC (zdk dk_X12_goesOn 180 rfl) (q := 365) rfl rfl (fun _ => ?_) (fun _ => ?_)
  · refine x_bipush (i := 42) c_bipush_42 hC (zdk dk_X12_goesOn 183 rfl) (q := 372) rfl ?_
    refine x_weak (L' := [.ref r0, .int x1, .null, .null, .null]) ⟨Or.inr rfl, Or.inr rfl, Or.inl rfl, Or.inl rfl, Or.inl rfl, trivial⟩ ?_
    exact x_X12_goesOn_372 hC hE hk0 h_r0 _ _ _ _ h_r0
  · refine x_bipush (i := 41) c_bipush_41 hC (zdk dk_X12_goesOn 181 rfl) (q := 367) rfl ?_
    refine x_goto (tgt := 372) hC (zdk dk_X12_goesOn 182 rfl) rfl ?_
    refine x_weak (L' := [.ref r0, .int x1, .null, .null, .null]) ⟨Or.inr rfl, Or.inr rfl, Or.inl rfl, Or.inl rfl, Or.inl rfl, trivial⟩ ?_
    exact x_X12_goesOn_372 hC hE hk0 h_r0 _ _ _ _ h_r0
set_option maxRecDepth 100000 in
def f_X12_goesOn_327  (r0 : Nat) (x1 : Int32) (M : Mem) : Option (Int32 × Mem) := (if zI M r0 8 ≤ 0 then Option.bind (f_X12_isWord r0 6385252 M) fun z30 => (if z30.1 = 0 then f_X12_goesOn_356 r0 x1 z30.1 r0 1 z30.2 else f_X12_goesOn_356 r0 x1 z30.1 r0 2 z30.2) else some (0, M))
set_option maxRecDepth 100000 in
set_option maxHeartbeats 4000000 in
theorem x_X12_goesOn_327 {κ : KX} {n : Nat} (hC : CX κ cX12_goesOn RX12 5 (some .boolean) 2) (hE : zEnd κ n (0, 0)) (hk0 : zRk κ (0, 0)) {r0 : Nat} (h_r0 : zO n r0 12) (x1 : Int32) (M : Mem) : X κ 5 emI n (0, 0) 327 [.ref r0, .int x1, .null, .null, .null] [] M (f_X12_goesOn_327 r0 x1 M) := by
  unfold f_X12_goesOn_327
  refine x_aload_n (i := 0) rfl hC (zdk dk_X12_goesOn 162 rfl) (q := 328) rfl ?_
  refine x_getI fl_RX12_36 (by decide) h_r0 hC (zdk dk_X12_goesOn 163 rfl) (q := 331) rfl ?_
  refine x_if_le (tgt := 336) hC (zdk dk_X12_goesOn 164 rfl) (q := 334) rfl rfl (fun _ => ?_) (fun _ => ?_)
  · refine x_aload_n (i := 0) rfl hC (zdk dk_X12_goesOn 167 rfl) (q := 337) rfl ?_
    refine x_ldc2 k_RX12_315 hC (zdk dk_X12_goesOn 168 rfl) (q := 340) rfl ?_
    refine x_callVi (as := [.long 6385252]) cb_RX12_341 rfl (by decide) hk0 h_r0 (fun x hx => t_X12_isWord h_r0 x hx) hC (zdk dk_X12_goesOn 169 rfl) (q := 343) rfl rfl (Nat.le_of_ble_eq_true rfl) (fun z30 => ?_)
    refine x_istore (i := 4) (L' := [.ref r0, .int x1, .null, .null, .int z30.1]) (by decide) rfl hC (zdk dk_X12_goesOn 170 rfl) (q := 345) rfl ?_
    refine x_aload_n (i := 0) rfl hC (zdk dk_X12_goesOn 171 rfl) (q := 346) rfl ?_
    refine x_iload (i := 4) rfl hC (zdk dk_X12_goesOn 172 rfl) (q := 348) rfl ?_
    refine x_if_eq (tgt := 355) hC (zdk dk_X12_goesOn 173 rfl) (q := 351) rfl rfl (fun _ => ?_) (fun _ => ?_)
    · refine x_iconst (i := 1) c_iconst_1 hC (zdk dk_X12_goesOn 176 rfl) (q := 356) rfl ?_
      refine x_weak (L' := [.ref r0, .int x1, .null, .null, .int z30.1]) ⟨Or.inr rfl, Or.inr rfl, Or.inl rfl, Or.inl rfl, Or.inr rfl, trivial⟩ ?_
      exact x_X12_goesOn_356 hC hE hk0 h_r0 _ _ _ _ _ h_r0
    · refine x_iconst (i := 2) c_iconst_2 hC (zdk dk_X12_goesOn 174 rfl) (q := 352) rfl ?_
      refine x_goto (tgt := 356) hC (zdk dk_X12_goesOn 175 rfl) rfl ?_
      refine x_weak (L' := [.ref r0, .int x1, .null, .null, .int z30.1]) ⟨Or.inr rfl, Or.inr rfl, Or.inl rfl, Or.inl rfl, Or.inr rfl, trivial⟩ ?_
      exact x_X12_goesOn_356 hC hE hk0 h_r0 _ _ _ _ _ h_r0
  · refine x_iconst (i := 0) c_iconst_0 hC (zdk dk_X12_goesOn 165 rfl) (q := 335) rfl ?_
    exact x_iret (ty := .boolean) rfl hE hC (zdk dk_X12_goesOn 166 rfl)
set_option maxRecDepth 100000 in
def f_X12_goesOn_309  (r0 : Nat) (x1 : Int32) (M : Mem) : Option (Int32 × Mem) := Option.bind (zrf M r0 25) fun q31 => Option.bind (zld q31 x1) fun k32 => (if zI M q31 k32 = 0 then Option.bind (f_X12_blame r0 1 (zI M r0 4) M) fun M33 => f_X12_goesOn_327 r0 x1 M33 else f_X12_goesOn_327 r0 x1 M)
set_option maxRecDepth 100000 in
set_option maxHeartbeats 4000000 in
theorem x_X12_goesOn_309 {κ : KX} {n : Nat} (hC : CX κ cX12_goesOn RX12 5 (some .boolean) 2) (hE : zEnd κ n (0, 0)) (hk0 : zRk κ (0, 0)) {r0 : Nat} (h_r0 : zO n r0 12) (x1 : Int32) (M : Mem) : X κ 5 emI n (0, 0) 309 [.ref r0, .int x1, .null, .null, .null] [] M (f_X12_goesOn_309 r0 x1 M) := by
  unfold f_X12_goesOn_309
  refine x_aload_n (i := 0) rfl hC (zdk dk_X12_goesOn 152 rfl) (q := 310) rfl ?_
  refine x_getR (k := 20) fl_RX12_88 rfl h_r0 hC (zdk dk_X12_goesOn 153 rfl) (q := 313) rfl (fun q31 hq31 => ?_)
  refine x_iload_n (i := 1) rfl hC (zdk dk_X12_goesOn 154 rfl) (q := 314) rfl ?_
  refine x_iald hq31 hC (zdk dk_X12_goesOn 155 rfl) (q := 315) rfl (fun k32 _ => ?_)
  refine x_if_ne (tgt := 327) hC (zdk dk_X12_goesOn 156 rfl) (q := 318) rfl rfl (fun _ => ?_) (fun _ => ?_)
  · refine x_weak (L' := [.ref r0, .int x1, .null, .null, .null]) ⟨Or.inr rfl, Or.inr rfl, Or.inl rfl, Or.inl rfl, Or.inl rfl, trivial⟩ ?_
    exact x_X12_goesOn_327 hC hE hk0 h_r0 _ _
  · refine x_aload_n (i := 0) rfl hC (zdk dk_X12_goesOn 157 rfl) (q := 319) rfl ?_
    refine x_iconst (i := 1) c_iconst_1 hC (zdk dk_X12_goesOn 158 rfl) (q := 320) rfl ?_
    refine x_aload_n (i := 0) rfl hC (zdk dk_X12_goesOn 159 rfl) (q := 321) rfl ?_
    refine x_getI fl_RX12_23 (by decide) h_r0 hC (zdk dk_X12_goesOn 160 rfl) (q := 324) rfl ?_
    refine x_callVv (as := [.int 1, .int (zI M r0 4)]) cb_RX12_251 rfl (by decide) hk0 h_r0 (fun x hx => t_X12_blame h_r0 x hx) hC (zdk dk_X12_goesOn 161 rfl) (q := 327) rfl rfl (Nat.le_of_ble_eq_true rfl) (fun M33 => ?_)
    refine x_weak (L' := [.ref r0, .int x1, .null, .null, .null]) ⟨Or.inr rfl, Or.inr rfl, Or.inl rfl, Or.inl rfl, Or.inl rfl, trivial⟩ ?_
    exact x_X12_goesOn_327 hC hE hk0 h_r0 _ _
set_option maxRecDepth 100000 in
def f_X12_goesOn_439  (r0 : Nat)  (M : Mem) : Option (Int32 × Mem) := some (0, M)
set_option maxRecDepth 100000 in
set_option maxHeartbeats 4000000 in
theorem x_X12_goesOn_439 {κ : KX} {n : Nat} (hC : CX κ cX12_goesOn RX12 5 (some .boolean) 2) (hE : zEnd κ n (0, 0)) (hk0 : zRk κ (0, 0)) {r0 : Nat} (h_r0 : zO n r0 12) (M : Mem) : X κ 5 emI n (0, 0) 439 [.null, .null, .null, .null, .null] [] M (f_X12_goesOn_439 r0 M) := by
  unfold f_X12_goesOn_439
  refine x_iconst (i := 0) c_iconst_0 hC (zdk dk_X12_goesOn 223 rfl) (q := 440) rfl ?_
  exact x_iret (ty := .boolean) rfl hE hC (zdk dk_X12_goesOn 224 rfl)
set_option maxRecDepth 100000 in
def f_X12_goesOn_499  (r0 : Nat) (x1 : Int32) (s0 : Nat) (s1 : Int32) (s2 : Int32) (M : Mem) : Option (Int32 × Mem) := Option.bind (zld s0 s1) fun k34 => Option.bind (some (zsI M s0 k34 s2)) fun M35 => Option.bind (zrf M35 r0 25) fun q36 => Option.bind (zld q36 x1) fun k37 => Option.bind (some (zsI M35 q36 k37 0)) fun M38 => Option.bind (f_X12_ahead r0 M38) fun M39 => Option.bind (some (zsI M39 r0 33 0)) fun M40 => some (1, M40)
set_option maxRecDepth 100000 in
set_option maxHeartbeats 4000000 in
theorem x_X12_goesOn_499 {κ : KX} {n : Nat} (hC : CX κ cX12_goesOn RX12 5 (some .boolean) 2) (hE : zEnd κ n (0, 0)) (hk0 : zRk κ (0, 0)) {r0 : Nat} (h_r0 : zO n r0 12) (x1 : Int32) (s0 : Nat) (s1 : Int32) (s2 : Int32) (M : Mem) (h_s0 : zO n s0 20) : X κ 5 emI n (0, 0) 499 [.ref r0, .int x1, .null, .null, .null] [.int s2, .int s1, .ref s0] M (f_X12_goesOn_499 r0 x1 s0 s1 s2 M) := by
  unfold f_X12_goesOn_499
  refine x_iast h_s0 hC (zdk dk_X12_goesOn 257 rfl) (q := 500) rfl (fun k34 _ => ?_)
  refine x_nmM (fun M35 => ?_)
  refine x_aload_n (i := 0) rfl hC (zdk dk_X12_goesOn 258 rfl) (q := 501) rfl ?_
  refine x_getR (k := 20) fl_RX12_88 rfl h_r0 hC (zdk dk_X12_goesOn 259 rfl) (q := 504) rfl (fun q36 hq36 => ?_)
  refine x_iload_n (i := 1) rfl hC (zdk dk_X12_goesOn 260 rfl) (q := 505) rfl ?_
  refine x_iconst (i := 0) c_iconst_0 hC (zdk dk_X12_goesOn 261 rfl) (q := 506) rfl ?_
  refine x_iast hq36 hC (zdk dk_X12_goesOn 262 rfl) (q := 507) rfl (fun k37 _ => ?_)
  refine x_nmM (fun M38 => ?_)
  refine x_aload_n (i := 0) rfl hC (zdk dk_X12_goesOn 263 rfl) (q := 508) rfl ?_
  refine x_callVv (as := []) cb_RX12_268 rfl (by decide) hk0 h_r0 (fun x hx => t_X12_ahead h_r0 x hx) hC (zdk dk_X12_goesOn 264 rfl) (q := 511) rfl rfl (Nat.le_of_ble_eq_true rfl) (fun M39 => ?_)
  refine x_aload_n (i := 0) rfl hC (zdk dk_X12_goesOn 265 rfl) (q := 512) rfl ?_
  refine x_iconst (i := 0) c_iconst_0 hC (zdk dk_X12_goesOn 266 rfl) (q := 513) rfl ?_
  refine x_putI fl_RX12_113 ⟨rfl, rfl⟩ (by decide) (Or.inl rfl) h_r0 hC (zdk dk_X12_goesOn 267 rfl) (q := 516) rfl ?_
  refine x_nmM (fun M40 => ?_)
  refine x_iconst (i := 1) c_iconst_1 hC (zdk dk_X12_goesOn 268 rfl) (q := 517) rfl ?_
  exact x_iret (ty := .boolean) rfl hE hC (zdk dk_X12_goesOn 269 rfl)
set_option maxRecDepth 100000 in
def f_X12_goesOn_470  (r0 : Nat) (x1 : Int32) (x2 : Int32) (M : Mem) : Option (Int32 × Mem) := (if zI M r0 8 ≤ 0 then Option.bind (f_X12_joins r0 1 M) fun M41 => Option.bind (zrf M41 r0 24) fun q42 => (if x2 = 3 then f_X12_goesOn_499 r0 x1 q42 x1 4 M41 else f_X12_goesOn_499 r0 x1 q42 x1 3 M41) else some (0, M))
set_option maxRecDepth 100000 in
set_option maxHeartbeats 4000000 in
theorem x_X12_goesOn_470 {κ : KX} {n : Nat} (hC : CX κ cX12_goesOn RX12 5 (some .boolean) 2) (hE : zEnd κ n (0, 0)) (hk0 : zRk κ (0, 0)) {r0 : Nat} (h_r0 : zO n r0 12) (x1 : Int32) (x2 : Int32) (M : Mem) : X κ 5 emI n (0, 0) 470 [.ref r0, .int x1, .int x2, .null, .null] [] M (f_X12_goesOn_470 r0 x1 x2 M) := by
  unfold f_X12_goesOn_470
  refine x_aload_n (i := 0) rfl hC (zdk dk_X12_goesOn 240 rfl) (q := 471) rfl ?_
  refine x_getI fl_RX12_36 (by decide) h_r0 hC (zdk dk_X12_goesOn 241 rfl) (q := 474) rfl ?_
  refine x_if_le (tgt := 479) hC (zdk dk_X12_goesOn 242 rfl) (q := 477) rfl rfl (fun _ => ?_) (fun _ => ?_)
  · refine x_aload_n (i := 0) rfl hC (zdk dk_X12_goesOn 245 rfl) (q := 480) rfl ?_
    refine x_iconst (i := 1) c_iconst_1 hC (zdk dk_X12_goesOn 246 rfl) (q := 481) rfl ?_
    refine x_callVv (as := [.int 1]) cb_RX12_351 rfl (by decide) hk0 h_r0 (fun x hx => t_X12_joins h_r0 x hx) hC (zdk dk_X12_goesOn 247 rfl) (q := 484) rfl rfl (Nat.le_of_ble_eq_true rfl) (fun M41 => ?_)
    refine x_aload_n (i := 0) rfl hC (zdk dk_X12_goesOn 248 rfl) (q := 485) rfl ?_
    refine x_getR (k := 20) fl_RX12_85 rfl h_r0 hC (zdk dk_X12_goesOn 249 rfl) (q := 488) rfl (fun q42 hq42 => ?_)
    refine x_iload_n (i := 1) rfl hC (zdk dk_X12_goesOn 250 rfl) (q := 489) rfl ?_
    refine x_iload_n (i := 2) rfl hC (zdk dk_X12_goesOn 251 rfl) (q := 490) rfl ?_
    refine x_iconst (i := 3) c_iconst_3 hC (zdk dk_X12_goesOn 252 rfl) (q := 491) rfl ?_
    refine x_icmp_ne (tgt := 498) hC (zdk dk_X12_goesOn 253 rfl) (q := 494) rfl rfl (fun _ => ?_) (fun _ => ?_)
    · refine x_iconst (i := 3) c_iconst_3 hC (zdk dk_X12_goesOn 256 rfl) (q := 499) rfl ?_
      refine x_weak (L' := [.ref r0, .int x1, .null, .null, .null]) ⟨Or.inr rfl, Or.inr rfl, Or.inl rfl, Or.inl rfl, Or.inl rfl, trivial⟩ ?_
      exact x_X12_goesOn_499 hC hE hk0 h_r0 _ _ _ _ _ hq42
    · refine x_iconst (i := 4) c_iconst_4 hC (zdk dk_X12_goesOn 254 rfl) (q := 495) rfl ?_
      refine x_goto (tgt := 499) hC (zdk dk_X12_goesOn 255 rfl) rfl ?_
      refine x_weak (L' := [.ref r0, .int x1, .null, .null, .null]) ⟨Or.inr rfl, Or.inr rfl, Or.inl rfl, Or.inl rfl, Or.inl rfl, trivial⟩ ?_
      exact x_X12_goesOn_499 hC hE hk0 h_r0 _ _ _ _ _ hq42
  · refine x_iconst (i := 0) c_iconst_0 hC (zdk dk_X12_goesOn 243 rfl) (q := 478) rfl ?_
    exact x_iret (ty := .boolean) rfl hE hC (zdk dk_X12_goesOn 244 rfl)
set_option maxRecDepth 100000 in
def f_X12_goesOn_452  (r0 : Nat) (x1 : Int32) (x2 : Int32) (M : Mem) : Option (Int32 × Mem) := Option.bind (f_X12_isSign r0 44 M) fun z43 => (if z43.1 = 0 then Option.bind (f_X12_blame r0 1 (zI z43.2 r0 4) z43.2) fun M44 => f_X12_goesOn_470 r0 x1 x2 M44 else f_X12_goesOn_470 r0 x1 x2 z43.2)
set_option maxRecDepth 100000 in
set_option maxHeartbeats 4000000 in
theorem x_X12_goesOn_452 {κ : KX} {n : Nat} (hC : CX κ cX12_goesOn RX12 5 (some .boolean) 2) (hE : zEnd κ n (0, 0)) (hk0 : zRk κ (0, 0)) {r0 : Nat} (h_r0 : zO n r0 12) (x1 : Int32) (x2 : Int32) (M : Mem) : X κ 5 emI n (0, 0) 452 [.ref r0, .int x1, .int x2, .null, .null] [] M (f_X12_goesOn_452 r0 x1 x2 M) := by
  unfold f_X12_goesOn_452
  refine x_aload_n (i := 0) rfl hC (zdk dk_X12_goesOn 231 rfl) (q := 453) rfl ?_
  refine x_bipush (i := 44) c_bipush_44 hC (zdk dk_X12_goesOn 232 rfl) (q := 455) rfl ?_
  refine x_callVi (as := [.int 44]) cb_RX12_265 rfl (by decide) hk0 h_r0 (fun x hx => t_X12_isSign h_r0 x hx) hC (zdk dk_X12_goesOn 233 rfl) (q := 458) rfl rfl (Nat.le_of_ble_eq_true rfl) (fun z43 => ?_)
  refine x_if_ne (tgt := 470) hC (zdk dk_X12_goesOn 234 rfl) (q := 461) rfl rfl (fun _ => ?_) (fun _ => ?_)
  · refine x_weak (L' := [.ref r0, .int x1, .int x2, .null, .null]) ⟨Or.inr rfl, Or.inr rfl, Or.inr rfl, Or.inl rfl, Or.inl rfl, trivial⟩ ?_
    exact x_X12_goesOn_470 hC hE hk0 h_r0 _ _ _
  · refine x_aload_n (i := 0) rfl hC (zdk dk_X12_goesOn 235 rfl) (q := 462) rfl ?_
    refine x_iconst (i := 1) c_iconst_1 hC (zdk dk_X12_goesOn 236 rfl) (q := 463) rfl ?_
    refine x_aload_n (i := 0) rfl hC (zdk dk_X12_goesOn 237 rfl) (q := 464) rfl ?_
    refine x_getI fl_RX12_23 (by decide) h_r0 hC (zdk dk_X12_goesOn 238 rfl) (q := 467) rfl ?_
    refine x_callVv (as := [.int 1, .int (zI z43.2 r0 4)]) cb_RX12_251 rfl (by decide) hk0 h_r0 (fun x hx => t_X12_blame h_r0 x hx) hC (zdk dk_X12_goesOn 239 rfl) (q := 470) rfl rfl (Nat.le_of_ble_eq_true rfl) (fun M44 => ?_)
    refine x_weak (L' := [.ref r0, .int x1, .int x2, .null, .null]) ⟨Or.inr rfl, Or.inr rfl, Or.inr rfl, Or.inl rfl, Or.inl rfl, trivial⟩ ?_
    exact x_X12_goesOn_470 hC hE hk0 h_r0 _ _ _
set_option maxRecDepth 100000 in
def f_X12_goesOn_613  (r0 : Nat)  (M : Mem) : Option (Int32 × Mem) := Option.bind (f_X12_ahead r0 M) fun M45 => some (1, M45)
set_option maxRecDepth 100000 in
set_option maxHeartbeats 4000000 in
theorem x_X12_goesOn_613 {κ : KX} {n : Nat} (hC : CX κ cX12_goesOn RX12 5 (some .boolean) 2) (hE : zEnd κ n (0, 0)) (hk0 : zRk κ (0, 0)) {r0 : Nat} (h_r0 : zO n r0 12) (M : Mem) : X κ 5 emI n (0, 0) 613 [.ref r0, .null, .null, .null, .null] [] M (f_X12_goesOn_613 r0 M) := by
  unfold f_X12_goesOn_613
  refine x_aload_n (i := 0) rfl hC (zdk dk_X12_goesOn 325 rfl) (q := 614) rfl ?_
  refine x_callVv (as := []) cb_RX12_268 rfl (by decide) hk0 h_r0 (fun x hx => t_X12_ahead h_r0 x hx) hC (zdk dk_X12_goesOn 326 rfl) (q := 617) rfl rfl (Nat.le_of_ble_eq_true rfl) (fun M45 => ?_)
  refine x_iconst (i := 1) c_iconst_1 hC (zdk dk_X12_goesOn 327 rfl) (q := 618) rfl ?_
  exact x_iret (ty := .boolean) rfl hE hC (zdk dk_X12_goesOn 328 rfl)
set_option maxRecDepth 100000 in
def f_X12_goesOn_596  (r0 : Nat) (x2 : Int32) (M : Mem) : Option (Int32 × Mem) := (if x2 = 5 then Option.bind (zrf M r0 25) fun q46 => Option.bind (zld q46 ((zI M r0 29) - 1)) fun k47 => Option.bind (some (zsI M q46 k47 2)) fun M48 => f_X12_goesOn_613 r0 M48 else f_X12_goesOn_613 r0 M)
set_option maxRecDepth 100000 in
set_option maxHeartbeats 4000000 in
theorem x_X12_goesOn_596 {κ : KX} {n : Nat} (hC : CX κ cX12_goesOn RX12 5 (some .boolean) 2) (hE : zEnd κ n (0, 0)) (hk0 : zRk κ (0, 0)) {r0 : Nat} (h_r0 : zO n r0 12) (x2 : Int32) (M : Mem) : X κ 5 emI n (0, 0) 596 [.ref r0, .null, .int x2, .null, .null] [] M (f_X12_goesOn_596 r0 x2 M) := by
  unfold f_X12_goesOn_596
  refine x_iload_n (i := 2) rfl hC (zdk dk_X12_goesOn 314 rfl) (q := 597) rfl ?_
  refine x_iconst (i := 5) c_iconst_5 hC (zdk dk_X12_goesOn 315 rfl) (q := 598) rfl ?_
  refine x_icmp_ne (tgt := 613) hC (zdk dk_X12_goesOn 316 rfl) (q := 601) rfl rfl (fun _ => ?_) (fun _ => ?_)
  · refine x_weak (L' := [.ref r0, .null, .null, .null, .null]) ⟨Or.inr rfl, Or.inl rfl, Or.inl rfl, Or.inl rfl, Or.inl rfl, trivial⟩ ?_
    exact x_X12_goesOn_613 hC hE hk0 h_r0 _
  · refine x_aload_n (i := 0) rfl hC (zdk dk_X12_goesOn 317 rfl) (q := 602) rfl ?_
    refine x_getR (k := 20) fl_RX12_88 rfl h_r0 hC (zdk dk_X12_goesOn 318 rfl) (q := 605) rfl (fun q46 hq46 => ?_)
    refine x_aload_n (i := 0) rfl hC (zdk dk_X12_goesOn 319 rfl) (q := 606) rfl ?_
    refine x_getI fl_RX12_101 (by decide) h_r0 hC (zdk dk_X12_goesOn 320 rfl) (q := 609) rfl ?_
    refine x_iconst (i := 1) c_iconst_1 hC (zdk dk_X12_goesOn 321 rfl) (q := 610) rfl ?_
    refine x_isub hC (zdk dk_X12_goesOn 322 rfl) (q := 611) rfl ?_
    refine x_iconst (i := 2) c_iconst_2 hC (zdk dk_X12_goesOn 323 rfl) (q := 612) rfl ?_
    refine x_iast hq46 hC (zdk dk_X12_goesOn 324 rfl) (q := 613) rfl (fun k47 _ => ?_)
    refine x_nmM (fun M48 => ?_)
    refine x_weak (L' := [.ref r0, .null, .null, .null, .null]) ⟨Or.inr rfl, Or.inl rfl, Or.inl rfl, Or.inl rfl, Or.inl rfl, trivial⟩ ?_
    exact x_X12_goesOn_613 hC hE hk0 h_r0 _
set_option maxRecDepth 100000 in
def f_X12_goesOn_546  (r0 : Nat) (x1 : Int32) (x2 : Int32) (M : Mem) : Option (Int32 × Mem) := (if zI M r0 8 ≤ 0 then Option.bind (f_X12_joins r0 1 M) fun M49 => Option.bind (some (zsI M49 r0 29 ((zI M49 r0 29) - 1))) fun M50 => Option.bind (some (zsI M50 r0 30 ((zI M50 r0 30) - 1))) fun M51 => (if x2 = 4 then Option.bind (zrf M51 r0 27) fun q52 => Option.bind (zld q52 x1) fun k53 => Option.bind (f_X12_add r0 (zI M51 q52 k53) 0 M51) fun M54 => f_X12_goesOn_596 r0 x2 M54 else f_X12_goesOn_596 r0 x2 M51) else some (0, M))
set_option maxRecDepth 100000 in
set_option maxHeartbeats 4000000 in
theorem x_X12_goesOn_546 {κ : KX} {n : Nat} (hC : CX κ cX12_goesOn RX12 5 (some .boolean) 2) (hE : zEnd κ n (0, 0)) (hk0 : zRk κ (0, 0)) {r0 : Nat} (h_r0 : zO n r0 12) (x1 : Int32) (x2 : Int32) (M : Mem) : X κ 5 emI n (0, 0) 546 [.ref r0, .int x1, .int x2, .null, .null] [] M (f_X12_goesOn_546 r0 x1 x2 M) := by
  unfold f_X12_goesOn_546
  refine x_aload_n (i := 0) rfl hC (zdk dk_X12_goesOn 284 rfl) (q := 547) rfl ?_
  refine x_getI fl_RX12_36 (by decide) h_r0 hC (zdk dk_X12_goesOn 285 rfl) (q := 550) rfl ?_
  refine x_if_le (tgt := 555) hC (zdk dk_X12_goesOn 286 rfl) (q := 553) rfl rfl (fun _ => ?_) (fun _ => ?_)
  · refine x_aload_n (i := 0) rfl hC (zdk dk_X12_goesOn 289 rfl) (q := 556) rfl ?_
    refine x_iconst (i := 1) c_iconst_1 hC (zdk dk_X12_goesOn 290 rfl) (q := 557) rfl ?_
    refine x_callVv (as := [.int 1]) cb_RX12_351 rfl (by decide) hk0 h_r0 (fun x hx => t_X12_joins h_r0 x hx) hC (zdk dk_X12_goesOn 291 rfl) (q := 560) rfl rfl (Nat.le_of_ble_eq_true rfl) (fun M49 => ?_)
    refine x_aload_n (i := 0) rfl hC (zdk dk_X12_goesOn 292 rfl) (q := 561) rfl ?_
    refine x_dup rfl hC (zdk dk_X12_goesOn 293 rfl) (q := 562) rfl ?_
    refine x_getI fl_RX12_101 (by decide) h_r0 hC (zdk dk_X12_goesOn 294 rfl) (q := 565) rfl ?_
    refine x_iconst (i := 1) c_iconst_1 hC (zdk dk_X12_goesOn 295 rfl) (q := 566) rfl ?_
    refine x_isub hC (zdk dk_X12_goesOn 296 rfl) (q := 567) rfl ?_
    refine x_putI fl_RX12_101 ⟨rfl, rfl⟩ (by decide) (Or.inl rfl) h_r0 hC (zdk dk_X12_goesOn 297 rfl) (q := 570) rfl ?_
    refine x_nmM (fun M50 => ?_)
    refine x_aload_n (i := 0) rfl hC (zdk dk_X12_goesOn 298 rfl) (q := 571) rfl ?_
    refine x_dup rfl hC (zdk dk_X12_goesOn 299 rfl) (q := 572) rfl ?_
    refine x_getI fl_RX12_104 (by decide) h_r0 hC (zdk dk_X12_goesOn 300 rfl) (q := 575) rfl ?_
    refine x_iconst (i := 1) c_iconst_1 hC (zdk dk_X12_goesOn 301 rfl) (q := 576) rfl ?_
    refine x_isub hC (zdk dk_X12_goesOn 302 rfl) (q := 577) rfl ?_
    refine x_putI fl_RX12_104 ⟨rfl, rfl⟩ (by decide) (Or.inl rfl) h_r0 hC (zdk dk_X12_goesOn 303 rfl) (q := 580) rfl ?_
    refine x_nmM (fun M51 => ?_)
    refine x_iload_n (i := 2) rfl hC (zdk dk_X12_goesOn 304 rfl) (q := 581) rfl ?_
    refine x_iconst (i := 4) c_iconst_4 hC (zdk dk_X12_goesOn 305 rfl) (q := 582) rfl ?_
    refine x_icmp_ne (tgt := 596) hC (zdk dk_X12_goesOn 306 rfl) (q := 585) rfl rfl (fun _ => ?_) (fun _ => ?_)
    · refine x_weak (L' := [.ref r0, .null, .int x2, .null, .null]) ⟨Or.inr rfl, Or.inl rfl, Or.inr rfl, Or.inl rfl, Or.inl rfl, trivial⟩ ?_
      exact x_X12_goesOn_596 hC hE hk0 h_r0 _ _
    · refine x_aload_n (i := 0) rfl hC (zdk dk_X12_goesOn 307 rfl) (q := 586) rfl ?_
      refine x_aload_n (i := 0) rfl hC (zdk dk_X12_goesOn 308 rfl) (q := 587) rfl ?_
      refine x_getR (k := 20) fl_RX12_95 rfl h_r0 hC (zdk dk_X12_goesOn 309 rfl) (q := 590) rfl (fun q52 hq52 => ?_)
      refine x_iload_n (i := 1) rfl hC (zdk dk_X12_goesOn 310 rfl) (q := 591) rfl ?_
      refine x_iald hq52 hC (zdk dk_X12_goesOn 311 rfl) (q := 592) rfl (fun k53 _ => ?_)
      refine x_iconst (i := 0) c_iconst_0 hC (zdk dk_X12_goesOn 312 rfl) (q := 593) rfl ?_
      refine x_callVv (as := [.int (zI M51 q52 k53), .int 0]) cb_RX12_332 rfl (by decide) hk0 h_r0 (fun x hx => t_X12_add h_r0 x hx) hC (zdk dk_X12_goesOn 313 rfl) (q := 596) rfl rfl (Nat.le_of_ble_eq_true rfl) (fun M54 => ?_)
      refine x_weak (L' := [.ref r0, .null, .int x2, .null, .null]) ⟨Or.inr rfl, Or.inl rfl, Or.inr rfl, Or.inl rfl, Or.inl rfl, trivial⟩ ?_
      exact x_X12_goesOn_596 hC hE hk0 h_r0 _ _
  · refine x_iconst (i := 0) c_iconst_0 hC (zdk dk_X12_goesOn 287 rfl) (q := 554) rfl ?_
    exact x_iret (ty := .boolean) rfl hE hC (zdk dk_X12_goesOn 288 rfl)
set_option maxRecDepth 100000 in
def f_X12_goesOn_531  (r0 : Nat) (x1 : Int32) (x2 : Int32) (s0 : Nat) (s1 : Int32) (M : Mem) : Option (Int32 × Mem) := Option.bind (f_X12_isSign s0 s1 M) fun z55 => (if z55.1 = 0 then Option.bind (f_X12_blame r0 1 (zI z55.2 r0 4) z55.2) fun M56 => f_X12_goesOn_546 r0 x1 x2 M56 else f_X12_goesOn_546 r0 x1 x2 z55.2)
set_option maxRecDepth 100000 in
set_option maxHeartbeats 4000000 in
theorem x_X12_goesOn_531 {κ : KX} {n : Nat} (hC : CX κ cX12_goesOn RX12 5 (some .boolean) 2) (hE : zEnd κ n (0, 0)) (hk0 : zRk κ (0, 0)) {r0 : Nat} (h_r0 : zO n r0 12) (x1 : Int32) (x2 : Int32) (s0 : Nat) (s1 : Int32) (M : Mem) (h_s0 : zO n s0 12) : X κ 5 emI n (0, 0) 531 [.ref r0, .int x1, .int x2, .null, .null] [.int s1, .ref s0] M (f_X12_goesOn_531 r0 x1 x2 s0 s1 M) := by
  unfold f_X12_goesOn_531
  refine x_callVi (as := [.int s1]) cb_RX12_265 rfl (by decide) hk0 h_s0 (fun x hx => t_X12_isSign h_s0 x hx) hC (zdk dk_X12_goesOn 277 rfl) (q := 534) rfl rfl (Nat.le_of_ble_eq_true rfl) (fun z55 => ?_)
  refine x_if_ne (tgt := 546) hC (zdk dk_X12_goesOn 278 rfl) (q := 537) rfl rfl (fun _ => ?_) (fun _ => ?_)
  · refine x_weak (L' := [.ref r0, .int x1, .int x2, .null, .null]) ⟨Or.inr rfl, Or.inr rfl, Or.inr rfl, Or.inl rfl, Or.inl rfl, trivial⟩ ?_
    exact x_X12_goesOn_546 hC hE hk0 h_r0 _ _ _
  · refine x_aload_n (i := 0) rfl hC (zdk dk_X12_goesOn 279 rfl) (q := 538) rfl ?_
    refine x_iconst (i := 1) c_iconst_1 hC (zdk dk_X12_goesOn 280 rfl) (q := 539) rfl ?_
    refine x_aload_n (i := 0) rfl hC (zdk dk_X12_goesOn 281 rfl) (q := 540) rfl ?_
    refine x_getI fl_RX12_23 (by decide) h_r0 hC (zdk dk_X12_goesOn 282 rfl) (q := 543) rfl ?_
    refine x_callVv (as := [.int 1, .int (zI z55.2 r0 4)]) cb_RX12_251 rfl (by decide) hk0 h_r0 (fun x hx => t_X12_blame h_r0 x hx) hC (zdk dk_X12_goesOn 283 rfl) (q := 546) rfl rfl (Nat.le_of_ble_eq_true rfl) (fun M56 => ?_)
    refine x_weak (L' := [.ref r0, .int x1, .int x2, .null, .null]) ⟨Or.inr rfl, Or.inr rfl, Or.inr rfl, Or.inl rfl, Or.inl rfl, trivial⟩ ?_
    exact x_X12_goesOn_546 hC hE hk0 h_r0 _ _ _
set_option maxRecDepth 100000 in
def f_X12_goesOn_422  (r0 : Nat) (x1 : Int32) (x2 : Int32) (M : Mem) : Option (Int32 × Mem) := (if 2 ≤ x2 then (if x2 = 3 then f_X12_goesOn_452 r0 x1 x2 M else (if x2 = 6 then f_X12_goesOn_452 r0 x1 x2 M else (if x2 = 5 then f_X12_goesOn_531 r0 x1 x2 r0 93 M else f_X12_goesOn_531 r0 x1 x2 r0 41 M))) else (if zI M r0 8 = 0 then Option.bind (f_X12_joins r0 1 M) fun M57 => f_X12_goesOn_439 r0 M57 else f_X12_goesOn_439 r0 M))
set_option maxRecDepth 100000 in
set_option maxHeartbeats 4000000 in
theorem x_X12_goesOn_422 {κ : KX} {n : Nat} (hC : CX κ cX12_goesOn RX12 5 (some .boolean) 2) (hE : zEnd κ n (0, 0)) (hk0 : zRk κ (0, 0)) {r0 : Nat} (h_r0 : zO n r0 12) (x1 : Int32) (x2 : Int32) (M : Mem) : X κ 5 emI n (0, 0) 422 [.ref r0, .int x1, .int x2, .null, .null] [] M (f_X12_goesOn_422 r0 x1 x2 M) := by
  unfold f_X12_goesOn_422
  refine x_iload_n (i := 2) rfl hC (zdk dk_X12_goesOn 214 rfl) (q := 423) rfl ?_
  refine x_iconst (i := 2) c_iconst_2 hC (zdk dk_X12_goesOn 215 rfl) (q := 424) rfl ?_
  refine x_icmp_ge (tgt := 441) hC (zdk dk_X12_goesOn 216 rfl) (q := 427) rfl rfl (fun _ => ?_) (fun _ => ?_)
  · refine x_iload_n (i := 2) rfl hC (zdk dk_X12_goesOn 225 rfl) (q := 442) rfl ?_
    refine x_iconst (i := 3) c_iconst_3 hC (zdk dk_X12_goesOn 226 rfl) (q := 443) rfl ?_
    refine x_icmp_eq (tgt := 452) hC (zdk dk_X12_goesOn 227 rfl) (q := 446) rfl rfl (fun _ => ?_) (fun _ => ?_)
    · refine x_weak (L' := [.ref r0, .int x1, .int x2, .null, .null]) ⟨Or.inr rfl, Or.inr rfl, Or.inr rfl, Or.inl rfl, Or.inl rfl, trivial⟩ ?_
      exact x_X12_goesOn_452 hC hE hk0 h_r0 _ _ _
    · refine x_iload_n (i := 2) rfl hC (zdk dk_X12_goesOn 228 rfl) (q := 447) rfl ?_
      refine x_bipush (i := 6) c_bipush_6 hC (zdk dk_X12_goesOn 229 rfl) (q := 449) rfl ?_
      refine x_icmp_ne (tgt := 518) hC (zdk dk_X12_goesOn 230 rfl) (q := 452) rfl rfl (fun _ => ?_) (fun _ => ?_)
      · refine x_aload_n (i := 0) rfl hC (zdk dk_X12_goesOn 270 rfl) (q := 519) rfl ?_
        refine x_iload_n (i := 2) rfl hC (zdk dk_X12_goesOn 271 rfl) (q := 520) rfl ?_
        refine x_iconst (i := 5) c_iconst_5 hC (zdk dk_X12_goesOn 272 rfl) (q := 521) rfl ?_
        refine x_icmp_ne (tgt := 529) hC (zdk dk_X12_goesOn 273 rfl) (q := 524) rfl rfl (fun _ => ?_) (fun _ => ?_)
        · refine x_bipush (i := 41) c_bipush_41 hC (zdk dk_X12_goesOn 276 rfl) (q := 531) rfl ?_
          refine x_weak (L' := [.ref r0, .int x1, .int x2, .null, .null]) ⟨Or.inr rfl, Or.inr rfl, Or.inr rfl, Or.inl rfl, Or.inl rfl, trivial⟩ ?_
          exact x_X12_goesOn_531 hC hE hk0 h_r0 _ _ _ _ _ h_r0
        · refine x_bipush (i := 93) c_bipush_93 hC (zdk dk_X12_goesOn 274 rfl) (q := 526) rfl ?_
          refine x_goto (tgt := 531) hC (zdk dk_X12_goesOn 275 rfl) rfl ?_
          refine x_weak (L' := [.ref r0, .int x1, .int x2, .null, .null]) ⟨Or.inr rfl, Or.inr rfl, Or.inr rfl, Or.inl rfl, Or.inl rfl, trivial⟩ ?_
          exact x_X12_goesOn_531 hC hE hk0 h_r0 _ _ _ _ _ h_r0
      · refine x_weak (L' := [.ref r0, .int x1, .int x2, .null, .null]) ⟨Or.inr rfl, Or.inr rfl, Or.inr rfl, Or.inl rfl, Or.inl rfl, trivial⟩ ?_
        exact x_X12_goesOn_452 hC hE hk0 h_r0 _ _ _
  · refine x_aload_n (i := 0) rfl hC (zdk dk_X12_goesOn 217 rfl) (q := 428) rfl ?_
    refine x_getI fl_RX12_36 (by decide) h_r0 hC (zdk dk_X12_goesOn 218 rfl) (q := 431) rfl ?_
    refine x_if_ne (tgt := 439) hC (zdk dk_X12_goesOn 219 rfl) (q := 434) rfl rfl (fun _ => ?_) (fun _ => ?_)
    · refine x_weak (L' := [.null, .null, .null, .null, .null]) ⟨Or.inl rfl, Or.inl rfl, Or.inl rfl, Or.inl rfl, Or.inl rfl, trivial⟩ ?_
      exact x_X12_goesOn_439 hC hE hk0 h_r0 _
    · refine x_aload_n (i := 0) rfl hC (zdk dk_X12_goesOn 220 rfl) (q := 435) rfl ?_
      refine x_iconst (i := 1) c_iconst_1 hC (zdk dk_X12_goesOn 221 rfl) (q := 436) rfl ?_
      refine x_callVv (as := [.int 1]) cb_RX12_351 rfl (by decide) hk0 h_r0 (fun x hx => t_X12_joins h_r0 x hx) hC (zdk dk_X12_goesOn 222 rfl) (q := 439) rfl rfl (Nat.le_of_ble_eq_true rfl) (fun M57 => ?_)
      refine x_weak (L' := [.null, .null, .null, .null, .null]) ⟨Or.inl rfl, Or.inl rfl, Or.inl rfl, Or.inl rfl, Or.inl rfl, trivial⟩ ?_
      exact x_X12_goesOn_439 hC hE hk0 h_r0 _
set_option maxRecDepth 100000 in
def f_X12_goesOn_400  (r0 : Nat) (x1 : Int32) (x2 : Int32) (x3 : Int32) (M : Mem) : Option (Int32 × Mem) := (if x3 = 0 then f_X12_goesOn_422 r0 x1 x2 M else Option.bind (zrf M r0 25) fun q58 => Option.bind (zld q58 x1) fun k59 => (if zI M q58 k59 = 0 then Option.bind (f_X12_blame r0 1 (zI M r0 4) M) fun M60 => f_X12_goesOn_422 r0 x1 x2 M60 else f_X12_goesOn_422 r0 x1 x2 M))
set_option maxRecDepth 100000 in
set_option maxHeartbeats 4000000 in
theorem x_X12_goesOn_400 {κ : KX} {n : Nat} (hC : CX κ cX12_goesOn RX12 5 (some .boolean) 2) (hE : zEnd κ n (0, 0)) (hk0 : zRk κ (0, 0)) {r0 : Nat} (h_r0 : zO n r0 12) (x1 : Int32) (x2 : Int32) (x3 : Int32) (M : Mem) : X κ 5 emI n (0, 0) 400 [.ref r0, .int x1, .int x2, .int x3, .null] [] M (f_X12_goesOn_400 r0 x1 x2 x3 M) := by
  unfold f_X12_goesOn_400
  refine x_iload_n (i := 3) rfl hC (zdk dk_X12_goesOn 202 rfl) (q := 401) rfl ?_
  refine x_if_eq (tgt := 422) hC (zdk dk_X12_goesOn 203 rfl) (q := 404) rfl rfl (fun _ => ?_) (fun _ => ?_)
  · refine x_weak (L' := [.ref r0, .int x1, .int x2, .null, .null]) ⟨Or.inr rfl, Or.inr rfl, Or.inr rfl, Or.inl rfl, Or.inl rfl, trivial⟩ ?_
    exact x_X12_goesOn_422 hC hE hk0 h_r0 _ _ _
  · refine x_aload_n (i := 0) rfl hC (zdk dk_X12_goesOn 204 rfl) (q := 405) rfl ?_
    refine x_getR (k := 20) fl_RX12_88 rfl h_r0 hC (zdk dk_X12_goesOn 205 rfl) (q := 408) rfl (fun q58 hq58 => ?_)
    refine x_iload_n (i := 1) rfl hC (zdk dk_X12_goesOn 206 rfl) (q := 409) rfl ?_
    refine x_iald hq58 hC (zdk dk_X12_goesOn 207 rfl) (q := 410) rfl (fun k59 _ => ?_)
    refine x_if_ne (tgt := 422) hC (zdk dk_X12_goesOn 208 rfl) (q := 413) rfl rfl (fun _ => ?_) (fun _ => ?_)
    · refine x_weak (L' := [.ref r0, .int x1, .int x2, .null, .null]) ⟨Or.inr rfl, Or.inr rfl, Or.inr rfl, Or.inl rfl, Or.inl rfl, trivial⟩ ?_
      exact x_X12_goesOn_422 hC hE hk0 h_r0 _ _ _
    · refine x_aload_n (i := 0) rfl hC (zdk dk_X12_goesOn 209 rfl) (q := 414) rfl ?_
      refine x_iconst (i := 1) c_iconst_1 hC (zdk dk_X12_goesOn 210 rfl) (q := 415) rfl ?_
      refine x_aload_n (i := 0) rfl hC (zdk dk_X12_goesOn 211 rfl) (q := 416) rfl ?_
      refine x_getI fl_RX12_23 (by decide) h_r0 hC (zdk dk_X12_goesOn 212 rfl) (q := 419) rfl ?_
      refine x_callVv (as := [.int 1, .int (zI M r0 4)]) cb_RX12_251 rfl (by decide) hk0 h_r0 (fun x hx => t_X12_blame h_r0 x hx) hC (zdk dk_X12_goesOn 213 rfl) (q := 422) rfl rfl (Nat.le_of_ble_eq_true rfl) (fun M60 => ?_)
      refine x_weak (L' := [.ref r0, .int x1, .int x2, .null, .null]) ⟨Or.inr rfl, Or.inr rfl, Or.inr rfl, Or.inl rfl, Or.inl rfl, trivial⟩ ?_
      exact x_X12_goesOn_422 hC hE hk0 h_r0 _ _ _
set_option maxRecDepth 100000 in
def f_X12_goesOn_285  (r0 : Nat) (x1 : Int32) (x2 : Int32) (x3 : Int32) (M : Mem) : Option (Int32 × Mem) := (if x3 = 0 then f_X12_goesOn_400 r0 x1 x2 x3 M else Option.bind (f_X12_isWord r0 6385252 M) fun z61 => (if z61.1 = 0 then Option.bind (f_X12_isWord r0 28530 z61.2) fun z62 => (if z62.1 = 0 then f_X12_goesOn_400 r0 x1 x2 x3 z62.2 else f_X12_goesOn_309 r0 x1 z62.2) else f_X12_goesOn_309 r0 x1 z61.2))
set_option maxRecDepth 100000 in
set_option maxHeartbeats 4000000 in
theorem x_X12_goesOn_285 {κ : KX} {n : Nat} (hC : CX κ cX12_goesOn RX12 5 (some .boolean) 2) (hE : zEnd κ n (0, 0)) (hk0 : zRk κ (0, 0)) {r0 : Nat} (h_r0 : zO n r0 12) (x1 : Int32) (x2 : Int32) (x3 : Int32) (M : Mem) : X κ 5 emI n (0, 0) 285 [.ref r0, .int x1, .int x2, .int x3, .null] [] M (f_X12_goesOn_285 r0 x1 x2 x3 M) := by
  unfold f_X12_goesOn_285
  refine x_iload_n (i := 3) rfl hC (zdk dk_X12_goesOn 142 rfl) (q := 286) rfl ?_
  refine x_if_eq (tgt := 400) hC (zdk dk_X12_goesOn 143 rfl) (q := 289) rfl rfl (fun _ => ?_) (fun _ => ?_)
  · refine x_weak (L' := [.ref r0, .int x1, .int x2, .int x3, .null]) ⟨Or.inr rfl, Or.inr rfl, Or.inr rfl, Or.inr rfl, Or.inl rfl, trivial⟩ ?_
    exact x_X12_goesOn_400 hC hE hk0 h_r0 _ _ _ _
  · refine x_aload_n (i := 0) rfl hC (zdk dk_X12_goesOn 144 rfl) (q := 290) rfl ?_
    refine x_ldc2 k_RX12_315 hC (zdk dk_X12_goesOn 145 rfl) (q := 293) rfl ?_
    refine x_callVi (as := [.long 6385252]) cb_RX12_341 rfl (by decide) hk0 h_r0 (fun x hx => t_X12_isWord h_r0 x hx) hC (zdk dk_X12_goesOn 146 rfl) (q := 296) rfl rfl (Nat.le_of_ble_eq_true rfl) (fun z61 => ?_)
    refine x_if_ne (tgt := 309) hC (zdk dk_X12_goesOn 147 rfl) (q := 299) rfl rfl (fun _ => ?_) (fun _ => ?_)
    · refine x_weak (L' := [.ref r0, .int x1, .null, .null, .null]) ⟨Or.inr rfl, Or.inr rfl, Or.inl rfl, Or.inl rfl, Or.inl rfl, trivial⟩ ?_
      exact x_X12_goesOn_309 hC hE hk0 h_r0 _ _
    · refine x_aload_n (i := 0) rfl hC (zdk dk_X12_goesOn 148 rfl) (q := 300) rfl ?_
      refine x_ldc2 k_RX12_313 hC (zdk dk_X12_goesOn 149 rfl) (q := 303) rfl ?_
      refine x_callVi (as := [.long 28530]) cb_RX12_341 rfl (by decide) hk0 h_r0 (fun x hx => t_X12_isWord h_r0 x hx) hC (zdk dk_X12_goesOn 150 rfl) (q := 306) rfl rfl (Nat.le_of_ble_eq_true rfl) (fun z62 => ?_)
      refine x_if_eq (tgt := 400) hC (zdk dk_X12_goesOn 151 rfl) (q := 309) rfl rfl (fun _ => ?_) (fun _ => ?_)
      · refine x_weak (L' := [.ref r0, .int x1, .int x2, .int x3, .null]) ⟨Or.inr rfl, Or.inr rfl, Or.inr rfl, Or.inr rfl, Or.inl rfl, trivial⟩ ?_
        exact x_X12_goesOn_400 hC hE hk0 h_r0 _ _ _ _
      · refine x_weak (L' := [.ref r0, .int x1, .null, .null, .null]) ⟨Or.inr rfl, Or.inr rfl, Or.inl rfl, Or.inl rfl, Or.inl rfl, trivial⟩ ?_
        exact x_X12_goesOn_309 hC hE hk0 h_r0 _ _
set_option maxRecDepth 100000 in
def f_X12_goesOn_188  (r0 : Nat) (x1 : Int32) (x2 : Int32) (x3 : Int32) (M : Mem) : Option (Int32 × Mem) := (if x3 = 0 then f_X12_goesOn_285 r0 x1 x2 x3 M else Option.bind (zrf M r0 25) fun q63 => Option.bind (zld q63 x1) fun k64 => (if zI M q63 k64 = 0 then Option.bind (f_X12_isSign r0 60 M) fun z65 => (if z65.1 = 0 then Option.bind (f_X12_isSign r0 62 z65.2) fun z66 => (if z66.1 = 0 then Option.bind (f_X12_isSign r0 61 z66.2) fun z67 => (if z67.1 = 0 then f_X12_goesOn_285 r0 x1 x2 x3 z67.2 else f_X12_goesOn_228 r0 x1 z67.2) else f_X12_goesOn_228 r0 x1 z66.2) else f_X12_goesOn_228 r0 x1 z65.2) else f_X12_goesOn_285 r0 x1 x2 x3 M))
set_option maxRecDepth 100000 in
set_option maxHeartbeats 4000000 in
theorem x_X12_goesOn_188 {κ : KX} {n : Nat} (hC : CX κ cX12_goesOn RX12 5 (some .boolean) 2) (hE : zEnd κ n (0, 0)) (hk0 : zRk κ (0, 0)) {r0 : Nat} (h_r0 : zO n r0 12) (x1 : Int32) (x2 : Int32) (x3 : Int32) (M : Mem) : X κ 5 emI n (0, 0) 188 [.ref r0, .int x1, .int x2, .int x3, .null] [] M (f_X12_goesOn_188 r0 x1 x2 x3 M) := by
  unfold f_X12_goesOn_188
  refine x_iload_n (i := 3) rfl hC (zdk dk_X12_goesOn 93 rfl) (q := 189) rfl ?_
  refine x_if_eq (tgt := 285) hC (zdk dk_X12_goesOn 94 rfl) (q := 192) rfl rfl (fun _ => ?_) (fun _ => ?_)
  · refine x_weak (L' := [.ref r0, .int x1, .int x2, .int x3, .null]) ⟨Or.inr rfl, Or.inr rfl, Or.inr rfl, Or.inr rfl, Or.inl rfl, trivial⟩ ?_
    exact x_X12_goesOn_285 hC hE hk0 h_r0 _ _ _ _
  · refine x_aload_n (i := 0) rfl hC (zdk dk_X12_goesOn 95 rfl) (q := 193) rfl ?_
    refine x_getR (k := 20) fl_RX12_88 rfl h_r0 hC (zdk dk_X12_goesOn 96 rfl) (q := 196) rfl (fun q63 hq63 => ?_)
    refine x_iload_n (i := 1) rfl hC (zdk dk_X12_goesOn 97 rfl) (q := 197) rfl ?_
    refine x_iald hq63 hC (zdk dk_X12_goesOn 98 rfl) (q := 198) rfl (fun k64 _ => ?_)
    refine x_if_ne (tgt := 285) hC (zdk dk_X12_goesOn 99 rfl) (q := 201) rfl rfl (fun _ => ?_) (fun _ => ?_)
    · refine x_weak (L' := [.ref r0, .int x1, .int x2, .int x3, .null]) ⟨Or.inr rfl, Or.inr rfl, Or.inr rfl, Or.inr rfl, Or.inl rfl, trivial⟩ ?_
      exact x_X12_goesOn_285 hC hE hk0 h_r0 _ _ _ _
    · refine x_aload_n (i := 0) rfl hC (zdk dk_X12_goesOn 100 rfl) (q := 202) rfl ?_
      refine x_bipush (i := 60) c_bipush_60 hC (zdk dk_X12_goesOn 101 rfl) (q := 204) rfl ?_
      refine x_callVi (as := [.int 60]) cb_RX12_265 rfl (by decide) hk0 h_r0 (fun x hx => t_X12_isSign h_r0 x hx) hC (zdk dk_X12_goesOn 102 rfl) (q := 207) rfl rfl (Nat.le_of_ble_eq_true rfl) (fun z65 => ?_)
      refine x_if_ne (tgt := 228) hC (zdk dk_X12_goesOn 103 rfl) (q := 210) rfl rfl (fun _ => ?_) (fun _ => ?_)
      · refine x_weak (L' := [.ref r0, .int x1, .null, .null, .null]) ⟨Or.inr rfl, Or.inr rfl, Or.inl rfl, Or.inl rfl, Or.inl rfl, trivial⟩ ?_
        exact x_X12_goesOn_228 hC hE hk0 h_r0 _ _
      · refine x_aload_n (i := 0) rfl hC (zdk dk_X12_goesOn 104 rfl) (q := 211) rfl ?_
        refine x_bipush (i := 62) c_bipush_62 hC (zdk dk_X12_goesOn 105 rfl) (q := 213) rfl ?_
        refine x_callVi (as := [.int 62]) cb_RX12_265 rfl (by decide) hk0 h_r0 (fun x hx => t_X12_isSign h_r0 x hx) hC (zdk dk_X12_goesOn 106 rfl) (q := 216) rfl rfl (Nat.le_of_ble_eq_true rfl) (fun z66 => ?_)
        refine x_if_ne (tgt := 228) hC (zdk dk_X12_goesOn 107 rfl) (q := 219) rfl rfl (fun _ => ?_) (fun _ => ?_)
        · refine x_weak (L' := [.ref r0, .int x1, .null, .null, .null]) ⟨Or.inr rfl, Or.inr rfl, Or.inl rfl, Or.inl rfl, Or.inl rfl, trivial⟩ ?_
          exact x_X12_goesOn_228 hC hE hk0 h_r0 _ _
        · refine x_aload_n (i := 0) rfl hC (zdk dk_X12_goesOn 108 rfl) (q := 220) rfl ?_
          refine x_bipush (i := 61) c_bipush_61 hC (zdk dk_X12_goesOn 109 rfl) (q := 222) rfl ?_
          refine x_callVi (as := [.int 61]) cb_RX12_265 rfl (by decide) hk0 h_r0 (fun x hx => t_X12_isSign h_r0 x hx) hC (zdk dk_X12_goesOn 110 rfl) (q := 225) rfl rfl (Nat.le_of_ble_eq_true rfl) (fun z67 => ?_)
          refine x_if_eq (tgt := 285) hC (zdk dk_X12_goesOn 111 rfl) (q := 228) rfl rfl (fun _ => ?_) (fun _ => ?_)
          · refine x_weak (L' := [.ref r0, .int x1, .int x2, .int x3, .null]) ⟨Or.inr rfl, Or.inr rfl, Or.inr rfl, Or.inr rfl, Or.inl rfl, trivial⟩ ?_
            exact x_X12_goesOn_285 hC hE hk0 h_r0 _ _ _ _
          · refine x_weak (L' := [.ref r0, .int x1, .null, .null, .null]) ⟨Or.inr rfl, Or.inr rfl, Or.inl rfl, Or.inl rfl, Or.inl rfl, trivial⟩ ?_
            exact x_X12_goesOn_228 hC hE hk0 h_r0 _ _
set_option maxRecDepth 100000 in
def f_X12_goesOn (r0 : Nat) (M : Mem) : Option (Int32 × Mem) := Option.bind (f_X12_lex r0 M) fun M68 => (if zI M68 r0 8 ≤ 0 then Option.bind (zrf M68 r0 24) fun q69 => Option.bind (zld q69 ((zI M68 r0 29) - 1)) fun k70 => Option.bind (f_X12_isTest (zI M68 q69 k70) M68) fun z71 => Option.bind (zrf z71.2 r0 25) fun q72 => Option.bind (zld q72 ((zI M68 r0 29) - 1)) fun k73 => (if 2 ≤ zI z71.2 q72 k73 then f_X12_goesOn_188 r0 ((zI M68 r0 29) - 1) (zI M68 q69 k70) z71.1 z71.2 else Option.bind (f_X12_isSign r0 43 z71.2) fun z74 => (if z74.1 = 0 then Option.bind (f_X12_isSign r0 45 z74.2) fun z75 => (if z75.1 = 0 then Option.bind (f_X12_isSign r0 42 z75.2) fun z76 => (if z76.1 = 0 then Option.bind (f_X12_isSign r0 47 z76.2) fun z77 => (if z77.1 = 0 then Option.bind (f_X12_isSign r0 37 z77.2) fun z78 => (if z78.1 = 0 then f_X12_goesOn_188 r0 ((zI M68 r0 29) - 1) (zI M68 q69 k70) z71.1 z78.2 else f_X12_goesOn_87 r0 z78.2) else f_X12_goesOn_87 r0 z77.2) else f_X12_goesOn_87 r0 z76.2) else f_X12_goesOn_87 r0 z75.2) else f_X12_goesOn_87 r0 z74.2)) else some (0, M68))
set_option maxRecDepth 100000 in
set_option maxHeartbeats 4000000 in
theorem x_X12_goesOn {κ : KX} {n : Nat} (hC : CX κ cX12_goesOn RX12 5 (some .boolean) 2) (hE : zEnd κ n (0, 0)) (hk0 : zRk κ (0, 0)) (r0 : Nat) (M : Mem) (h_r0 : zO n r0 12) : X κ 5 emI n (0, 0) 0 [.ref r0, .null, .null, .null, .null] [] M (f_X12_goesOn r0 M) := by
  unfold f_X12_goesOn
  refine x_aload_n (i := 0) rfl hC (zdk dk_X12_goesOn 0 rfl) (q := 1) rfl ?_
  refine x_callVv (as := []) cb_RX12_262 rfl (by decide) hk0 h_r0 (fun x hx => t_X12_lex h_r0 x hx) hC (zdk dk_X12_goesOn 1 rfl) (q := 4) rfl rfl (Nat.le_of_ble_eq_true rfl) (fun M68 => ?_)
  refine x_aload_n (i := 0) rfl hC (zdk dk_X12_goesOn 2 rfl) (q := 5) rfl ?_
  refine x_getI fl_RX12_36 (by decide) h_r0 hC (zdk dk_X12_goesOn 3 rfl) (q := 8) rfl ?_
  refine x_if_le (tgt := 13) hC (zdk dk_X12_goesOn 4 rfl) (q := 11) rfl rfl (fun _ => ?_) (fun _ => ?_)
  · refine x_aload_n (i := 0) rfl hC (zdk dk_X12_goesOn 7 rfl) (q := 14) rfl ?_
    refine x_getI fl_RX12_101 (by decide) h_r0 hC (zdk dk_X12_goesOn 8 rfl) (q := 17) rfl ?_
    refine x_iconst (i := 1) c_iconst_1 hC (zdk dk_X12_goesOn 9 rfl) (q := 18) rfl ?_
    refine x_isub hC (zdk dk_X12_goesOn 10 rfl) (q := 19) rfl ?_
    refine x_istore_n (i := 1) (L' := [.ref r0, .int ((zI M68 r0 29) - 1), .null, .null, .null]) (by decide) rfl hC (zdk dk_X12_goesOn 11 rfl) (q := 20) rfl ?_
    refine x_aload_n (i := 0) rfl hC (zdk dk_X12_goesOn 12 rfl) (q := 21) rfl ?_
    refine x_getR (k := 20) fl_RX12_85 rfl h_r0 hC (zdk dk_X12_goesOn 13 rfl) (q := 24) rfl (fun q69 hq69 => ?_)
    refine x_iload_n (i := 1) rfl hC (zdk dk_X12_goesOn 14 rfl) (q := 25) rfl ?_
    refine x_iald hq69 hC (zdk dk_X12_goesOn 15 rfl) (q := 26) rfl (fun k70 _ => ?_)
    refine x_istore_n (i := 2) (L' := [.ref r0, .int ((zI M68 r0 29) - 1), .int (zI M68 q69 k70), .null, .null]) (by decide) rfl hC (zdk dk_X12_goesOn 16 rfl) (q := 27) rfl ?_
    refine x_iload_n (i := 2) rfl hC (zdk dk_X12_goesOn 17 rfl) (q := 28) rfl ?_
    refine x_callSi (as := [.int (zI M68 q69 k70)]) cb_RX12_338 rfl (by decide) hk0 (fun x hx => t_X12_isTest  x hx) hC (zdk dk_X12_goesOn 18 rfl) (q := 31) rfl rfl (Nat.le_of_ble_eq_true rfl) (fun z71 => ?_)
    refine x_istore_n (i := 3) (L' := [.ref r0, .int ((zI M68 r0 29) - 1), .int (zI M68 q69 k70), .int z71.1, .null]) (by decide) rfl hC (zdk dk_X12_goesOn 19 rfl) (q := 32) rfl ?_
    refine x_aload_n (i := 0) rfl hC (zdk dk_X12_goesOn 20 rfl) (q := 33) rfl ?_
    refine x_getR (k := 20) fl_RX12_88 rfl h_r0 hC (zdk dk_X12_goesOn 21 rfl) (q := 36) rfl (fun q72 hq72 => ?_)
    refine x_iload_n (i := 1) rfl hC (zdk dk_X12_goesOn 22 rfl) (q := 37) rfl ?_
    refine x_iald hq72 hC (zdk dk_X12_goesOn 23 rfl) (q := 38) rfl (fun k73 _ => ?_)
    refine x_iconst (i := 2) c_iconst_2 hC (zdk dk_X12_goesOn 24 rfl) (q := 39) rfl ?_
    refine x_icmp_ge (tgt := 188) hC (zdk dk_X12_goesOn 25 rfl) (q := 42) rfl rfl (fun _ => ?_) (fun _ => ?_)
    · refine x_weak (L' := [.ref r0, .int ((zI M68 r0 29) - 1), .int (zI M68 q69 k70), .int z71.1, .null]) ⟨Or.inr rfl, Or.inr rfl, Or.inr rfl, Or.inr rfl, Or.inl rfl, trivial⟩ ?_
      exact x_X12_goesOn_188 hC hE hk0 h_r0 _ _ _ _
    · refine x_aload_n (i := 0) rfl hC (zdk dk_X12_goesOn 26 rfl) (q := 43) rfl ?_
      refine x_bipush (i := 43) c_bipush_43 hC (zdk dk_X12_goesOn 27 rfl) (q := 45) rfl ?_
      refine x_callVi (as := [.int 43]) cb_RX12_265 rfl (by decide) hk0 h_r0 (fun x hx => t_X12_isSign h_r0 x hx) hC (zdk dk_X12_goesOn 28 rfl) (q := 48) rfl rfl (Nat.le_of_ble_eq_true rfl) (fun z74 => ?_)
      refine x_if_ne (tgt := 87) hC (zdk dk_X12_goesOn 29 rfl) (q := 51) rfl rfl (fun _ => ?_) (fun _ => ?_)
      · refine x_weak (L' := [.ref r0, .null, .null, .null, .null]) ⟨Or.inr rfl, Or.inl rfl, Or.inl rfl, Or.inl rfl, Or.inl rfl, trivial⟩ ?_
        exact x_X12_goesOn_87 hC hE hk0 h_r0 _
      · refine x_aload_n (i := 0) rfl hC (zdk dk_X12_goesOn 30 rfl) (q := 52) rfl ?_
        refine x_bipush (i := 45) c_bipush_45 hC (zdk dk_X12_goesOn 31 rfl) (q := 54) rfl ?_
        refine x_callVi (as := [.int 45]) cb_RX12_265 rfl (by decide) hk0 h_r0 (fun x hx => t_X12_isSign h_r0 x hx) hC (zdk dk_X12_goesOn 32 rfl) (q := 57) rfl rfl (Nat.le_of_ble_eq_true rfl) (fun z75 => ?_)
        refine x_if_ne (tgt := 87) hC (zdk dk_X12_goesOn 33 rfl) (q := 60) rfl rfl (fun _ => ?_) (fun _ => ?_)
        · refine x_weak (L' := [.ref r0, .null, .null, .null, .null]) ⟨Or.inr rfl, Or.inl rfl, Or.inl rfl, Or.inl rfl, Or.inl rfl, trivial⟩ ?_
          exact x_X12_goesOn_87 hC hE hk0 h_r0 _
        · refine x_aload_n (i := 0) rfl hC (zdk dk_X12_goesOn 34 rfl) (q := 61) rfl ?_
          refine x_bipush (i := 42) c_bipush_42 hC (zdk dk_X12_goesOn 35 rfl) (q := 63) rfl ?_
          refine x_callVi (as := [.int 42]) cb_RX12_265 rfl (by decide) hk0 h_r0 (fun x hx => t_X12_isSign h_r0 x hx) hC (zdk dk_X12_goesOn 36 rfl) (q := 66) rfl rfl (Nat.le_of_ble_eq_true rfl) (fun z76 => ?_)
          refine x_if_ne (tgt := 87) hC (zdk dk_X12_goesOn 37 rfl) (q := 69) rfl rfl (fun _ => ?_) (fun _ => ?_)
          · refine x_weak (L' := [.ref r0, .null, .null, .null, .null]) ⟨Or.inr rfl, Or.inl rfl, Or.inl rfl, Or.inl rfl, Or.inl rfl, trivial⟩ ?_
            exact x_X12_goesOn_87 hC hE hk0 h_r0 _
          · refine x_aload_n (i := 0) rfl hC (zdk dk_X12_goesOn 38 rfl) (q := 70) rfl ?_
            refine x_bipush (i := 47) c_bipush_47 hC (zdk dk_X12_goesOn 39 rfl) (q := 72) rfl ?_
            refine x_callVi (as := [.int 47]) cb_RX12_265 rfl (by decide) hk0 h_r0 (fun x hx => t_X12_isSign h_r0 x hx) hC (zdk dk_X12_goesOn 40 rfl) (q := 75) rfl rfl (Nat.le_of_ble_eq_true rfl) (fun z77 => ?_)
            refine x_if_ne (tgt := 87) hC (zdk dk_X12_goesOn 41 rfl) (q := 78) rfl rfl (fun _ => ?_) (fun _ => ?_)
            · refine x_weak (L' := [.ref r0, .null, .null, .null, .null]) ⟨Or.inr rfl, Or.inl rfl, Or.inl rfl, Or.inl rfl, Or.inl rfl, trivial⟩ ?_
              exact x_X12_goesOn_87 hC hE hk0 h_r0 _
            · refine x_aload_n (i := 0) rfl hC (zdk dk_X12_goesOn 42 rfl) (q := 79) rfl ?_
              refine x_bipush (i := 37) c_bipush_37 hC (zdk dk_X12_goesOn 43 rfl) (q := 81) rfl ?_
              refine x_callVi (as := [.int 37]) cb_RX12_265 rfl (by decide) hk0 h_r0 (fun x hx => t_X12_isSign h_r0 x hx) hC (zdk dk_X12_goesOn 44 rfl) (q := 84) rfl rfl (Nat.le_of_ble_eq_true rfl) (fun z78 => ?_)
              refine x_if_eq (tgt := 188) hC (zdk dk_X12_goesOn 45 rfl) (q := 87) rfl rfl (fun _ => ?_) (fun _ => ?_)
              · refine x_weak (L' := [.ref r0, .int ((zI M68 r0 29) - 1), .int (zI M68 q69 k70), .int z71.1, .null]) ⟨Or.inr rfl, Or.inr rfl, Or.inr rfl, Or.inr rfl, Or.inl rfl, trivial⟩ ?_
                exact x_X12_goesOn_188 hC hE hk0 h_r0 _ _ _ _
              · refine x_weak (L' := [.ref r0, .null, .null, .null, .null]) ⟨Or.inr rfl, Or.inl rfl, Or.inl rfl, Or.inl rfl, Or.inl rfl, trivial⟩ ?_
                exact x_X12_goesOn_87 hC hE hk0 h_r0 _
  · refine x_iconst (i := 0) c_iconst_0 hC (zdk dk_X12_goesOn 5 rfl) (q := 12) rfl ?_
    exact x_iret (ty := .boolean) rfl hE hC (zdk dk_X12_goesOn 6 rfl)
set_option maxRecDepth 100000 in
set_option maxHeartbeats 4000000 in
theorem t_X12_goesOn {n : Nat} {r0 : Nat} {M : Mem} (h_r0 : zO n r0 12) (x : (Int32 × Mem)) (hx : f_X12_goesOn r0 M = some x) (l : Launch) (dC : Nat → ClassId) (dI : Nat → Nat → Nat) (b : zSg) : MT l dC dI b yX12_goesOn cX12_goesOn 5 (some .boolean) 2 0 0 n n [.ref r0] M (emI x).1 (emI x).2 :=
  MT.ofX (by decide +kernel) rfl (Nat.le_of_ble_eq_true rfl) (fun κ hC hF _ => x_X12_goesOn hC (zEnd_of hF (Nat.le_refl _) (Nat.le_refl _)) (zRk_of hF (Nat.le_refl _) (Nat.le_refl _)) _ _ h_r0) x hx
set_option maxRecDepth 100000 in
def dt_X12_reads : List (Nat × Instr × Nat) := [(0, .aload_n 0, 1), (1, .getfield 36, 3), (4, .ifCond .le 4, 3), (7, .return_, 1), (8, .aload_n 0, 1), (9, .iconst 0, 1), (10, .putfield 101, 3), (13, .aload_n 0, 1), (14, .iconst 0, 1), (15, .putfield 104, 3), (18, .aload_n 0, 1), (19, .iconst 0, 1), (20, .putfield 110, 3), (23, .aload_n 0, 1), (24, .iconst 0, 1), (25, .putfield 113, 3), (28, .aload_n 0, 1), (29, .iload_n 1, 1), (30, .ifCond .eq 7, 3), (33, .iconst 1, 1), (34, .goto 4, 3), (37, .iconst 0, 1), (38, .invokevirtual 335, 3), (41, .iconst 1, 1), (42, .istore_n 2, 1), (43, .iload_n 2, 1), (44, .ifCond .eq 46, 3), (47, .aload_n 0, 1), (48, .getfield 113, 3), (51, .ifCond .ne 14, 3), (54, .aload_n 0, 1), (55, .aload_n 0, 1), (56, .invokevirtual 354, 3), (59, .putfield 113, 3), (62, .goto 8, 3), (65, .aload_n 0, 1), (66, .invokevirtual 357, 3), (69, .istore_n 2, 1), (70, .iload_n 2, 1), (71, .ifCond .eq 14, 3), (74, .aload_n 0, 1), (75, .getfield 36, 3), (78, .ifCond .ne 7, 3), (81, .iconst 1, 1), (82, .goto 4, 3), (85, .iconst 0, 1), (86, .istore_n 2, 1), (87, .goto (-44), 3), (90, .return_, 1)]
set_option maxRecDepth 100000 in
theorem dk_X12_reads : dt_X12_reads.all (fun q => decide (decode cX12_reads q.1 = .ok q.2)) = true := by decide +kernel
set_option maxRecDepth 100000 in
def f_X12_reads_86 (k43 : Int32 → Mem → Option Mem) (r0 : Nat) (x1 : Int32) (s0 : Int32) (M : Mem) : Option Mem := k43 s0 M
set_option maxRecDepth 100000 in
set_option maxHeartbeats 4000000 in
theorem x_X12_reads_86 {κ : KX} {n : Nat} (hC : CX κ cX12_reads RX12 3 none 4) (hE : zEnd κ n (0, 0)) (hk0 : zRk κ (0, 0)) {r0 : Nat} {x1 : Int32} (h_r0 : zO n r0 12) (k43 : Int32 → Mem → Option Mem) (hk43 : ∀ (x2 : Int32) (M : Mem), X κ 3 emV n (0, 0) 43 [.ref r0, .null, .int x2] [] M (k43 x2 M)) (s0 : Int32) (M : Mem) : X κ 3 emV n (0, 0) 86 [.ref r0, .null, .null] [.int s0] M (f_X12_reads_86 k43 r0 x1 s0 M) := by
  unfold f_X12_reads_86
  refine x_istore_n (i := 2) (L' := [.ref r0, .null, .int s0]) (by decide) rfl hC (zdk dk_X12_reads 46 rfl) (q := 87) rfl ?_
  refine x_goto (tgt := 43) hC (zdk dk_X12_reads 47 rfl) rfl ?_
  refine x_weak (L' := [.ref r0, .null, .int s0]) ⟨Or.inr rfl, Or.inl rfl, Or.inr rfl, trivial⟩ ?_
  exact hk43 _ _
set_option maxRecDepth 100000 in
def f_X12_reads_85 (k43 : Int32 → Mem → Option Mem) (r0 : Nat) (x1 : Int32)  (M : Mem) : Option Mem := f_X12_reads_86 k43 r0 x1 0 M
set_option maxRecDepth 100000 in
set_option maxHeartbeats 4000000 in
theorem x_X12_reads_85 {κ : KX} {n : Nat} (hC : CX κ cX12_reads RX12 3 none 4) (hE : zEnd κ n (0, 0)) (hk0 : zRk κ (0, 0)) {r0 : Nat} {x1 : Int32} (h_r0 : zO n r0 12) (k43 : Int32 → Mem → Option Mem) (hk43 : ∀ (x2 : Int32) (M : Mem), X κ 3 emV n (0, 0) 43 [.ref r0, .null, .int x2] [] M (k43 x2 M)) (M : Mem) : X κ 3 emV n (0, 0) 85 [.ref r0, .null, .null] [] M (f_X12_reads_85 k43 r0 x1 M) := by
  unfold f_X12_reads_85
  refine x_iconst (i := 0) c_iconst_0 hC (zdk dk_X12_reads 45 rfl) (q := 86) rfl ?_
  refine x_weak (L' := [.ref r0, .null, .null]) ⟨Or.inr rfl, Or.inl rfl, Or.inl rfl, trivial⟩ ?_
  exact x_X12_reads_86 hC hE hk0 h_r0 k43 hk43 _ _
set_option maxRecDepth 100000 in
def f_X12_reads_70 (k43 : Int32 → Mem → Option Mem) (r0 : Nat) (x1 : Int32) (x2 : Int32) (M : Mem) : Option Mem := (if x2 = 0 then f_X12_reads_85 k43 r0 x1 M else (if zI M r0 8 = 0 then f_X12_reads_86 k43 r0 x1 1 M else f_X12_reads_85 k43 r0 x1 M))
set_option maxRecDepth 100000 in
set_option maxHeartbeats 4000000 in
theorem x_X12_reads_70 {κ : KX} {n : Nat} (hC : CX κ cX12_reads RX12 3 none 4) (hE : zEnd κ n (0, 0)) (hk0 : zRk κ (0, 0)) {r0 : Nat} {x1 : Int32} (h_r0 : zO n r0 12) (k43 : Int32 → Mem → Option Mem) (hk43 : ∀ (x2 : Int32) (M : Mem), X κ 3 emV n (0, 0) 43 [.ref r0, .null, .int x2] [] M (k43 x2 M)) (x2 : Int32) (M : Mem) : X κ 3 emV n (0, 0) 70 [.ref r0, .null, .int x2] [] M (f_X12_reads_70 k43 r0 x1 x2 M) := by
  unfold f_X12_reads_70
  refine x_iload_n (i := 2) rfl hC (zdk dk_X12_reads 38 rfl) (q := 71) rfl ?_
  refine x_if_eq (tgt := 85) hC (zdk dk_X12_reads 39 rfl) (q := 74) rfl rfl (fun _ => ?_) (fun _ => ?_)
  · refine x_weak (L' := [.ref r0, .null, .null]) ⟨Or.inr rfl, Or.inl rfl, Or.inl rfl, trivial⟩ ?_
    exact x_X12_reads_85 hC hE hk0 h_r0 k43 hk43 _
  · refine x_aload_n (i := 0) rfl hC (zdk dk_X12_reads 40 rfl) (q := 75) rfl ?_
    refine x_getI fl_RX12_36 (by decide) h_r0 hC (zdk dk_X12_reads 41 rfl) (q := 78) rfl ?_
    refine x_if_ne (tgt := 85) hC (zdk dk_X12_reads 42 rfl) (q := 81) rfl rfl (fun _ => ?_) (fun _ => ?_)
    · refine x_weak (L' := [.ref r0, .null, .null]) ⟨Or.inr rfl, Or.inl rfl, Or.inl rfl, trivial⟩ ?_
      exact x_X12_reads_85 hC hE hk0 h_r0 k43 hk43 _
    · refine x_iconst (i := 1) c_iconst_1 hC (zdk dk_X12_reads 43 rfl) (q := 82) rfl ?_
      refine x_goto (tgt := 86) hC (zdk dk_X12_reads 44 rfl) rfl ?_
      refine x_weak (L' := [.ref r0, .null, .null]) ⟨Or.inr rfl, Or.inl rfl, Or.inl rfl, trivial⟩ ?_
      exact x_X12_reads_86 hC hE hk0 h_r0 k43 hk43 _ _
set_option maxRecDepth 100000 in
def f_X12_reads_43  (r0 : Nat) (x1 : Int32) : Nat → Int32 → Mem → Option Mem
  | 0, _, _ => none
  | f + 1, x2, M => (if x2 = 0 then some M else (if zI M r0 33 = 0 then Option.bind (f_X12_operand r0 M) fun z2 => zbz z2.1 <| Option.bind (some (zsI z2.2 r0 33 z2.1)) fun M3 => f_X12_reads_70 (f_X12_reads_43 r0 x1 f) r0 x1 x2 M3 else Option.bind (f_X12_goesOn r0 M) fun z1 => f_X12_reads_70 (f_X12_reads_43 r0 x1 f) r0 x1 z1.1 z1.2))
set_option maxRecDepth 100000 in
set_option maxHeartbeats 4000000 in
theorem x_X12_reads_43 {κ : KX} {n : Nat} (hC : CX κ cX12_reads RX12 3 none 4) (hE : zEnd κ n (0, 0)) (hk0 : zRk κ (0, 0)) {r0 : Nat} {x1 : Int32} (h_r0 : zO n r0 12) : ∀ (f : Nat) (x2 : Int32) (M : Mem), X κ 3 emV n (0, 0) 43 [.ref r0, .null, .int x2] [] M (f_X12_reads_43 r0 x1 f x2 M) := by
  intro f
  induction f with
  | zero => intros; exact x_none
  | succ f ih =>
    intro x2 M 
    rw [f_X12_reads_43]
    refine x_iload_n (i := 2) rfl hC (zdk dk_X12_reads 25 rfl) (q := 44) rfl ?_
    refine x_if_eq (tgt := 90) hC (zdk dk_X12_reads 26 rfl) (q := 47) rfl rfl (fun _ => ?_) (fun _ => ?_)
    · exact x_vret hE hC (zdk dk_X12_reads 48 rfl)
    · refine x_aload_n (i := 0) rfl hC (zdk dk_X12_reads 27 rfl) (q := 48) rfl ?_
      refine x_getI fl_RX12_113 (by decide) h_r0 hC (zdk dk_X12_reads 28 rfl) (q := 51) rfl ?_
      refine x_if_ne (tgt := 65) hC (zdk dk_X12_reads 29 rfl) (q := 54) rfl rfl (fun _ => ?_) (fun _ => ?_)
      · refine x_aload_n (i := 0) rfl hC (zdk dk_X12_reads 35 rfl) (q := 66) rfl ?_
        refine x_callVi (as := []) cb_RX12_357 rfl (by decide) hk0 h_r0 (fun x hx => t_X12_goesOn h_r0 x hx) hC (zdk dk_X12_reads 36 rfl) (q := 69) rfl rfl (Nat.le_of_ble_eq_true rfl) (fun z1 => ?_)
        refine x_istore_n (i := 2) (L' := [.ref r0, .null, .int z1.1]) (by decide) rfl hC (zdk dk_X12_reads 37 rfl) (q := 70) rfl ?_
        refine x_weak (L' := [.ref r0, .null, .int z1.1]) ⟨Or.inr rfl, Or.inl rfl, Or.inr rfl, trivial⟩ ?_
        exact x_X12_reads_70 hC hE hk0 h_r0 (f_X12_reads_43 r0 x1 f) ih _ _
      · refine x_aload_n (i := 0) rfl hC (zdk dk_X12_reads 30 rfl) (q := 55) rfl ?_
        refine x_aload_n (i := 0) rfl hC (zdk dk_X12_reads 31 rfl) (q := 56) rfl ?_
        refine x_callVi (as := []) cb_RX12_354 rfl (by decide) hk0 h_r0 (fun x hx => t_X12_operand h_r0 x hx) hC (zdk dk_X12_reads 32 rfl) (q := 59) rfl rfl (Nat.le_of_ble_eq_true rfl) (fun z2 => ?_)
        refine x_bz (fun hb4 => ?_)
        refine x_putI fl_RX12_113 hb4 (by decide) (Or.inl rfl) h_r0 hC (zdk dk_X12_reads 33 rfl) (q := 62) rfl ?_
        refine x_nmM (fun M3 => ?_)
        refine x_goto (tgt := 70) hC (zdk dk_X12_reads 34 rfl) rfl ?_
        refine x_weak (L' := [.ref r0, .null, .int x2]) ⟨Or.inr rfl, Or.inl rfl, Or.inr rfl, trivial⟩ ?_
        exact x_X12_reads_70 hC hE hk0 h_r0 (f_X12_reads_43 r0 x1 f) ih _ _
set_option maxRecDepth 100000 in
def f_X12_reads_38  (r0 : Nat) (x1 : Int32) (s0 : Nat) (s1 : Int32) (M : Mem) : Option Mem := Option.bind (f_X12_pushes s0 s1 M) fun M5 => f_X12_reads_43 r0 x1 1000000 1 M5
set_option maxRecDepth 100000 in
set_option maxHeartbeats 4000000 in
theorem x_X12_reads_38 {κ : KX} {n : Nat} (hC : CX κ cX12_reads RX12 3 none 4) (hE : zEnd κ n (0, 0)) (hk0 : zRk κ (0, 0)) {r0 : Nat} {x1 : Int32} (h_r0 : zO n r0 12) (s0 : Nat) (s1 : Int32) (M : Mem) (h_s0 : zO n s0 12) : X κ 3 emV n (0, 0) 38 [.ref r0, .null, .null] [.int s1, .ref s0] M (f_X12_reads_38 r0 x1 s0 s1 M) := by
  unfold f_X12_reads_38
  refine x_callVv (as := [.int s1]) cb_RX12_335 rfl (by decide) hk0 h_s0 (fun x hx => t_X12_pushes h_s0 x hx) hC (zdk dk_X12_reads 22 rfl) (q := 41) rfl rfl (Nat.le_of_ble_eq_true rfl) (fun M5 => ?_)
  refine x_iconst (i := 1) c_iconst_1 hC (zdk dk_X12_reads 23 rfl) (q := 42) rfl ?_
  refine x_istore_n (i := 2) (L' := [.ref r0, .null, .int 1]) (by decide) rfl hC (zdk dk_X12_reads 24 rfl) (q := 43) rfl ?_
  refine x_weak (L' := [.ref r0, .null, .int 1]) ⟨Or.inr rfl, Or.inl rfl, Or.inr rfl, trivial⟩ ?_
  exact x_X12_reads_43 hC hE hk0 h_r0 _ _ _
set_option maxRecDepth 100000 in
def f_X12_reads (r0 : Nat) (x1 : Int32) (M : Mem) : Option Mem := (if zI M r0 8 ≤ 0 then Option.bind (some (zsI M r0 29 0)) fun M6 => Option.bind (some (zsI M6 r0 30 0)) fun M7 => Option.bind (some (zsI M7 r0 32 0)) fun M8 => Option.bind (some (zsI M8 r0 33 0)) fun M9 => (if x1 = 0 then f_X12_reads_38 r0 x1 r0 0 M9 else f_X12_reads_38 r0 x1 r0 1 M9) else some M)
set_option maxRecDepth 100000 in
set_option maxHeartbeats 4000000 in
theorem x_X12_reads {κ : KX} {n : Nat} (hC : CX κ cX12_reads RX12 3 none 4) (hE : zEnd κ n (0, 0)) (hk0 : zRk κ (0, 0)) (r0 : Nat) (x1 : Int32) (M : Mem) (h_r0 : zO n r0 12) : X κ 3 emV n (0, 0) 0 [.ref r0, .int x1, .null] [] M (f_X12_reads r0 x1 M) := by
  unfold f_X12_reads
  refine x_aload_n (i := 0) rfl hC (zdk dk_X12_reads 0 rfl) (q := 1) rfl ?_
  refine x_getI fl_RX12_36 (by decide) h_r0 hC (zdk dk_X12_reads 1 rfl) (q := 4) rfl ?_
  refine x_if_le (tgt := 8) hC (zdk dk_X12_reads 2 rfl) (q := 7) rfl rfl (fun _ => ?_) (fun _ => ?_)
  · refine x_aload_n (i := 0) rfl hC (zdk dk_X12_reads 4 rfl) (q := 9) rfl ?_
    refine x_iconst (i := 0) c_iconst_0 hC (zdk dk_X12_reads 5 rfl) (q := 10) rfl ?_
    refine x_putI fl_RX12_101 ⟨rfl, rfl⟩ (by decide) (Or.inl rfl) h_r0 hC (zdk dk_X12_reads 6 rfl) (q := 13) rfl ?_
    refine x_nmM (fun M6 => ?_)
    refine x_aload_n (i := 0) rfl hC (zdk dk_X12_reads 7 rfl) (q := 14) rfl ?_
    refine x_iconst (i := 0) c_iconst_0 hC (zdk dk_X12_reads 8 rfl) (q := 15) rfl ?_
    refine x_putI fl_RX12_104 ⟨rfl, rfl⟩ (by decide) (Or.inl rfl) h_r0 hC (zdk dk_X12_reads 9 rfl) (q := 18) rfl ?_
    refine x_nmM (fun M7 => ?_)
    refine x_aload_n (i := 0) rfl hC (zdk dk_X12_reads 10 rfl) (q := 19) rfl ?_
    refine x_iconst (i := 0) c_iconst_0 hC (zdk dk_X12_reads 11 rfl) (q := 20) rfl ?_
    refine x_putI fl_RX12_110 ⟨rfl, rfl⟩ (by decide) (Or.inl rfl) h_r0 hC (zdk dk_X12_reads 12 rfl) (q := 23) rfl ?_
    refine x_nmM (fun M8 => ?_)
    refine x_aload_n (i := 0) rfl hC (zdk dk_X12_reads 13 rfl) (q := 24) rfl ?_
    refine x_iconst (i := 0) c_iconst_0 hC (zdk dk_X12_reads 14 rfl) (q := 25) rfl ?_
    refine x_putI fl_RX12_113 ⟨rfl, rfl⟩ (by decide) (Or.inl rfl) h_r0 hC (zdk dk_X12_reads 15 rfl) (q := 28) rfl ?_
    refine x_nmM (fun M9 => ?_)
    refine x_aload_n (i := 0) rfl hC (zdk dk_X12_reads 16 rfl) (q := 29) rfl ?_
    refine x_iload_n (i := 1) rfl hC (zdk dk_X12_reads 17 rfl) (q := 30) rfl ?_
    refine x_if_eq (tgt := 37) hC (zdk dk_X12_reads 18 rfl) (q := 33) rfl rfl (fun _ => ?_) (fun _ => ?_)
    · refine x_iconst (i := 0) c_iconst_0 hC (zdk dk_X12_reads 21 rfl) (q := 38) rfl ?_
      refine x_weak (L' := [.ref r0, .null, .null]) ⟨Or.inr rfl, Or.inl rfl, Or.inl rfl, trivial⟩ ?_
      exact x_X12_reads_38 hC hE hk0 h_r0 _ _ _ h_r0
    · refine x_iconst (i := 1) c_iconst_1 hC (zdk dk_X12_reads 19 rfl) (q := 34) rfl ?_
      refine x_goto (tgt := 38) hC (zdk dk_X12_reads 20 rfl) rfl ?_
      refine x_weak (L' := [.ref r0, .null, .null]) ⟨Or.inr rfl, Or.inl rfl, Or.inl rfl, trivial⟩ ?_
      exact x_X12_reads_38 hC hE hk0 h_r0 _ _ _ h_r0
  · exact x_vret hE hC (zdk dk_X12_reads 3 rfl)
set_option maxRecDepth 100000 in
set_option maxHeartbeats 4000000 in
theorem t_X12_reads {n : Nat} {r0 : Nat} {x1 : Int32} {M : Mem} (h_r0 : zO n r0 12) (x : Mem) (hx : f_X12_reads r0 x1 M = some x) (l : Launch) (dC : Nat → ClassId) (dI : Nat → Nat → Nat) (b : zSg) : MT l dC dI b yX12_reads cX12_reads 3 none 4 0 0 n n [.ref r0, .int x1] M (emV x).1 (emV x).2 :=
  MT.ofX (by decide +kernel) rfl (Nat.le_of_ble_eq_true rfl) (fun κ hC hF _ => x_X12_reads hC (zEnd_of hF (Nat.le_refl _) (Nat.le_refl _)) (zRk_of hF (Nat.le_refl _) (Nat.le_refl _)) _ _ _ h_r0) x hx
set_option maxRecDepth 100000 in
def dt_X12_isCounted : List (Nat × Instr × Nat) := [(0, .aload_n 0, 1), (1, .getfield 36, 3), (4, .ifCond .ne 17, 3), (7, .iload_n 1, 1), (8, .ifCond .eq 13, 3), (11, .aload_n 0, 1), (12, .bipush 6, 2), (14, .aload_n 0, 1), (15, .getfield 23, 3), (18, .invokevirtual 251, 3), (21, .aload_n 0, 1), (22, .getfield 36, 3), (25, .ifCond .ne 7, 3), (28, .aload_n 0, 1), (29, .invokevirtual 268, 3), (32, .aload_n 0, 1), (33, .getfield 36, 3), (36, .ifCond .ne 7, 3), (39, .iconst 1, 1), (40, .goto 4, 3), (43, .iconst 0, 1), (44, .ireturn, 1)]
set_option maxRecDepth 100000 in
theorem dk_X12_isCounted : dt_X12_isCounted.all (fun q => decide (decode cX12_isCounted q.1 = .ok q.2)) = true := by decide +kernel
set_option maxRecDepth 100000 in
def f_X12_isCounted_44  (r0 : Nat) (x1 : Int32) (s0 : Int32) (M : Mem) : Option (Int32 × Mem) := zbz s0 (some (s0, M))
set_option maxRecDepth 100000 in
set_option maxHeartbeats 4000000 in
theorem x_X12_isCounted_44 {κ : KX} {n : Nat} (hC : CX κ cX12_isCounted RX12 2 (some .boolean) 2) (hE : zEnd κ n (0, 0)) (hk0 : zRk κ (0, 0)) {r0 : Nat} {x1 : Int32} (h_r0 : zO n r0 12) (s0 : Int32) (M : Mem) : X κ 2 emI n (0, 0) 44 [.null, .null] [.int s0] M (f_X12_isCounted_44 r0 x1 s0 M) := by
  unfold f_X12_isCounted_44
  refine x_bz (fun hb1 => ?_)
  exact x_iret (ty := .boolean) hb1.1 hE hC (zdk dk_X12_isCounted 21 rfl)
set_option maxRecDepth 100000 in
def f_X12_isCounted_32  (r0 : Nat) (x1 : Int32)  (M : Mem) : Option (Int32 × Mem) := (if zI M r0 8 = 0 then f_X12_isCounted_44 r0 x1 1 M else f_X12_isCounted_44 r0 x1 0 M)
set_option maxRecDepth 100000 in
set_option maxHeartbeats 4000000 in
theorem x_X12_isCounted_32 {κ : KX} {n : Nat} (hC : CX κ cX12_isCounted RX12 2 (some .boolean) 2) (hE : zEnd κ n (0, 0)) (hk0 : zRk κ (0, 0)) {r0 : Nat} {x1 : Int32} (h_r0 : zO n r0 12) (M : Mem) : X κ 2 emI n (0, 0) 32 [.ref r0, .null] [] M (f_X12_isCounted_32 r0 x1 M) := by
  unfold f_X12_isCounted_32
  refine x_aload_n (i := 0) rfl hC (zdk dk_X12_isCounted 15 rfl) (q := 33) rfl ?_
  refine x_getI fl_RX12_36 (by decide) h_r0 hC (zdk dk_X12_isCounted 16 rfl) (q := 36) rfl ?_
  refine x_if_ne (tgt := 43) hC (zdk dk_X12_isCounted 17 rfl) (q := 39) rfl rfl (fun _ => ?_) (fun _ => ?_)
  · refine x_iconst (i := 0) c_iconst_0 hC (zdk dk_X12_isCounted 20 rfl) (q := 44) rfl ?_
    refine x_weak (L' := [.null, .null]) ⟨Or.inl rfl, Or.inl rfl, trivial⟩ ?_
    exact x_X12_isCounted_44 hC hE hk0 h_r0 _ _
  · refine x_iconst (i := 1) c_iconst_1 hC (zdk dk_X12_isCounted 18 rfl) (q := 40) rfl ?_
    refine x_goto (tgt := 44) hC (zdk dk_X12_isCounted 19 rfl) rfl ?_
    refine x_weak (L' := [.null, .null]) ⟨Or.inl rfl, Or.inl rfl, trivial⟩ ?_
    exact x_X12_isCounted_44 hC hE hk0 h_r0 _ _
set_option maxRecDepth 100000 in
def f_X12_isCounted_21  (r0 : Nat) (x1 : Int32)  (M : Mem) : Option (Int32 × Mem) := (if zI M r0 8 = 0 then Option.bind (f_X12_ahead r0 M) fun M2 => f_X12_isCounted_32 r0 x1 M2 else f_X12_isCounted_32 r0 x1 M)
set_option maxRecDepth 100000 in
set_option maxHeartbeats 4000000 in
theorem x_X12_isCounted_21 {κ : KX} {n : Nat} (hC : CX κ cX12_isCounted RX12 2 (some .boolean) 2) (hE : zEnd κ n (0, 0)) (hk0 : zRk κ (0, 0)) {r0 : Nat} {x1 : Int32} (h_r0 : zO n r0 12) (M : Mem) : X κ 2 emI n (0, 0) 21 [.ref r0, .null] [] M (f_X12_isCounted_21 r0 x1 M) := by
  unfold f_X12_isCounted_21
  refine x_aload_n (i := 0) rfl hC (zdk dk_X12_isCounted 10 rfl) (q := 22) rfl ?_
  refine x_getI fl_RX12_36 (by decide) h_r0 hC (zdk dk_X12_isCounted 11 rfl) (q := 25) rfl ?_
  refine x_if_ne (tgt := 32) hC (zdk dk_X12_isCounted 12 rfl) (q := 28) rfl rfl (fun _ => ?_) (fun _ => ?_)
  · refine x_weak (L' := [.ref r0, .null]) ⟨Or.inr rfl, Or.inl rfl, trivial⟩ ?_
    exact x_X12_isCounted_32 hC hE hk0 h_r0 _
  · refine x_aload_n (i := 0) rfl hC (zdk dk_X12_isCounted 13 rfl) (q := 29) rfl ?_
    refine x_callVv (as := []) cb_RX12_268 rfl (by decide) hk0 h_r0 (fun x hx => t_X12_ahead h_r0 x hx) hC (zdk dk_X12_isCounted 14 rfl) (q := 32) rfl rfl (Nat.le_of_ble_eq_true rfl) (fun M2 => ?_)
    refine x_weak (L' := [.ref r0, .null]) ⟨Or.inr rfl, Or.inl rfl, trivial⟩ ?_
    exact x_X12_isCounted_32 hC hE hk0 h_r0 _
set_option maxRecDepth 100000 in
def f_X12_isCounted (r0 : Nat) (x1 : Int32) (M : Mem) : Option (Int32 × Mem) := (if zI M r0 8 = 0 then (if x1 = 0 then f_X12_isCounted_21 r0 x1 M else Option.bind (f_X12_blame r0 6 (zI M r0 4) M) fun M3 => f_X12_isCounted_21 r0 x1 M3) else f_X12_isCounted_21 r0 x1 M)
set_option maxRecDepth 100000 in
set_option maxHeartbeats 4000000 in
theorem x_X12_isCounted {κ : KX} {n : Nat} (hC : CX κ cX12_isCounted RX12 2 (some .boolean) 2) (hE : zEnd κ n (0, 0)) (hk0 : zRk κ (0, 0)) (r0 : Nat) (x1 : Int32) (M : Mem) (h_r0 : zO n r0 12) : X κ 2 emI n (0, 0) 0 [.ref r0, .int x1] [] M (f_X12_isCounted r0 x1 M) := by
  unfold f_X12_isCounted
  refine x_aload_n (i := 0) rfl hC (zdk dk_X12_isCounted 0 rfl) (q := 1) rfl ?_
  refine x_getI fl_RX12_36 (by decide) h_r0 hC (zdk dk_X12_isCounted 1 rfl) (q := 4) rfl ?_
  refine x_if_ne (tgt := 21) hC (zdk dk_X12_isCounted 2 rfl) (q := 7) rfl rfl (fun _ => ?_) (fun _ => ?_)
  · refine x_weak (L' := [.ref r0, .null]) ⟨Or.inr rfl, Or.inl rfl, trivial⟩ ?_
    exact x_X12_isCounted_21 hC hE hk0 h_r0 _
  · refine x_iload_n (i := 1) rfl hC (zdk dk_X12_isCounted 3 rfl) (q := 8) rfl ?_
    refine x_if_eq (tgt := 21) hC (zdk dk_X12_isCounted 4 rfl) (q := 11) rfl rfl (fun _ => ?_) (fun _ => ?_)
    · refine x_weak (L' := [.ref r0, .null]) ⟨Or.inr rfl, Or.inl rfl, trivial⟩ ?_
      exact x_X12_isCounted_21 hC hE hk0 h_r0 _
    · refine x_aload_n (i := 0) rfl hC (zdk dk_X12_isCounted 5 rfl) (q := 12) rfl ?_
      refine x_bipush (i := 6) c_bipush_6 hC (zdk dk_X12_isCounted 6 rfl) (q := 14) rfl ?_
      refine x_aload_n (i := 0) rfl hC (zdk dk_X12_isCounted 7 rfl) (q := 15) rfl ?_
      refine x_getI fl_RX12_23 (by decide) h_r0 hC (zdk dk_X12_isCounted 8 rfl) (q := 18) rfl ?_
      refine x_callVv (as := [.int 6, .int (zI M r0 4)]) cb_RX12_251 rfl (by decide) hk0 h_r0 (fun x hx => t_X12_blame h_r0 x hx) hC (zdk dk_X12_isCounted 9 rfl) (q := 21) rfl rfl (Nat.le_of_ble_eq_true rfl) (fun M3 => ?_)
      refine x_weak (L' := [.ref r0, .null]) ⟨Or.inr rfl, Or.inl rfl, trivial⟩ ?_
      exact x_X12_isCounted_21 hC hE hk0 h_r0 _
set_option maxRecDepth 100000 in
set_option maxHeartbeats 4000000 in
theorem t_X12_isCounted {n : Nat} {r0 : Nat} {x1 : Int32} {M : Mem} (h_r0 : zO n r0 12) (x : (Int32 × Mem)) (hx : f_X12_isCounted r0 x1 M = some x) (l : Launch) (dC : Nat → ClassId) (dI : Nat → Nat → Nat) (b : zSg) : MT l dC dI b yX12_isCounted cX12_isCounted 2 (some .boolean) 2 0 0 n n [.ref r0, .int x1] M (emI x).1 (emI x).2 :=
  MT.ofX (by decide +kernel) rfl (Nat.le_of_ble_eq_true rfl) (fun κ hC hF _ => x_X12_isCounted hC (zEnd_of hF (Nat.le_refl _) (Nat.le_refl _)) (zRk_of hF (Nat.le_refl _) (Nat.le_refl _)) _ _ _ h_r0) x hx
set_option maxRecDepth 100000 in
def dt_X12_mustWord : List (Nat × Instr × Nat) := [(0, .aload_n 0, 1), (1, .invokevirtual 262, 3), (4, .aload_n 0, 1), (5, .getfield 36, 3), (8, .ifCond .le 4, 3), (11, .return_, 1), (12, .aload_n 0, 1), (13, .lload_n 1, 1), (14, .invokevirtual 341, 3), (17, .ifCond .ne 12, 3), (20, .aload_n 0, 1), (21, .iconst 1, 1), (22, .aload_n 0, 1), (23, .getfield 23, 3), (26, .invokevirtual 251, 3), (29, .aload_n 0, 1), (30, .getfield 36, 3), (33, .ifCond .ne 7, 3), (36, .aload_n 0, 1), (37, .invokevirtual 268, 3), (40, .return_, 1)]
set_option maxRecDepth 100000 in
theorem dk_X12_mustWord : dt_X12_mustWord.all (fun q => decide (decode cX12_mustWord q.1 = .ok q.2)) = true := by decide +kernel
set_option maxRecDepth 100000 in
def f_X12_mustWord_40  (r0 : Nat) (y1 : Int64)  (M : Mem) : Option Mem := some M
set_option maxRecDepth 100000 in
set_option maxHeartbeats 4000000 in
theorem x_X12_mustWord_40 {κ : KX} {n : Nat} (hC : CX κ cX12_mustWord RX12 3 none 2) (hE : zEnd κ n (0, 0)) (hk0 : zRk κ (0, 0)) {r0 : Nat} {y1 : Int64} (h_r0 : zO n r0 12) (M : Mem) : X κ 3 emV n (0, 0) 40 [.null, .null, .null] [] M (f_X12_mustWord_40 r0 y1 M) := by
  unfold f_X12_mustWord_40
  exact x_vret hE hC (zdk dk_X12_mustWord 20 rfl)
set_option maxRecDepth 100000 in
def f_X12_mustWord_29  (r0 : Nat) (y1 : Int64)  (M : Mem) : Option Mem := (if zI M r0 8 = 0 then Option.bind (f_X12_ahead r0 M) fun M1 => f_X12_mustWord_40 r0 y1 M1 else f_X12_mustWord_40 r0 y1 M)
set_option maxRecDepth 100000 in
set_option maxHeartbeats 4000000 in
theorem x_X12_mustWord_29 {κ : KX} {n : Nat} (hC : CX κ cX12_mustWord RX12 3 none 2) (hE : zEnd κ n (0, 0)) (hk0 : zRk κ (0, 0)) {r0 : Nat} {y1 : Int64} (h_r0 : zO n r0 12) (M : Mem) : X κ 3 emV n (0, 0) 29 [.ref r0, .null, .null] [] M (f_X12_mustWord_29 r0 y1 M) := by
  unfold f_X12_mustWord_29
  refine x_aload_n (i := 0) rfl hC (zdk dk_X12_mustWord 15 rfl) (q := 30) rfl ?_
  refine x_getI fl_RX12_36 (by decide) h_r0 hC (zdk dk_X12_mustWord 16 rfl) (q := 33) rfl ?_
  refine x_if_ne (tgt := 40) hC (zdk dk_X12_mustWord 17 rfl) (q := 36) rfl rfl (fun _ => ?_) (fun _ => ?_)
  · refine x_weak (L' := [.null, .null, .null]) ⟨Or.inl rfl, Or.inl rfl, Or.inl rfl, trivial⟩ ?_
    exact x_X12_mustWord_40 hC hE hk0 h_r0 _
  · refine x_aload_n (i := 0) rfl hC (zdk dk_X12_mustWord 18 rfl) (q := 37) rfl ?_
    refine x_callVv (as := []) cb_RX12_268 rfl (by decide) hk0 h_r0 (fun x hx => t_X12_ahead h_r0 x hx) hC (zdk dk_X12_mustWord 19 rfl) (q := 40) rfl rfl (Nat.le_of_ble_eq_true rfl) (fun M1 => ?_)
    refine x_weak (L' := [.null, .null, .null]) ⟨Or.inl rfl, Or.inl rfl, Or.inl rfl, trivial⟩ ?_
    exact x_X12_mustWord_40 hC hE hk0 h_r0 _
set_option maxRecDepth 100000 in
def f_X12_mustWord (r0 : Nat) (y1 : Int64) (M : Mem) : Option Mem := Option.bind (f_X12_lex r0 M) fun M2 => (if zI M2 r0 8 ≤ 0 then Option.bind (f_X12_isWord r0 y1 M2) fun z3 => (if z3.1 = 0 then Option.bind (f_X12_blame r0 1 (zI z3.2 r0 4) z3.2) fun M4 => f_X12_mustWord_29 r0 y1 M4 else f_X12_mustWord_29 r0 y1 z3.2) else some M2)
set_option maxRecDepth 100000 in
set_option maxHeartbeats 4000000 in
theorem x_X12_mustWord {κ : KX} {n : Nat} (hC : CX κ cX12_mustWord RX12 3 none 2) (hE : zEnd κ n (0, 0)) (hk0 : zRk κ (0, 0)) (r0 : Nat) (y1 : Int64) (M : Mem) (h_r0 : zO n r0 12) : X κ 3 emV n (0, 0) 0 [.ref r0, .long y1, .null] [] M (f_X12_mustWord r0 y1 M) := by
  unfold f_X12_mustWord
  refine x_aload_n (i := 0) rfl hC (zdk dk_X12_mustWord 0 rfl) (q := 1) rfl ?_
  refine x_callVv (as := []) cb_RX12_262 rfl (by decide) hk0 h_r0 (fun x hx => t_X12_lex h_r0 x hx) hC (zdk dk_X12_mustWord 1 rfl) (q := 4) rfl rfl (Nat.le_of_ble_eq_true rfl) (fun M2 => ?_)
  refine x_aload_n (i := 0) rfl hC (zdk dk_X12_mustWord 2 rfl) (q := 5) rfl ?_
  refine x_getI fl_RX12_36 (by decide) h_r0 hC (zdk dk_X12_mustWord 3 rfl) (q := 8) rfl ?_
  refine x_if_le (tgt := 12) hC (zdk dk_X12_mustWord 4 rfl) (q := 11) rfl rfl (fun _ => ?_) (fun _ => ?_)
  · refine x_aload_n (i := 0) rfl hC (zdk dk_X12_mustWord 6 rfl) (q := 13) rfl ?_
    refine x_lload_n (i := 1) rfl hC (zdk dk_X12_mustWord 7 rfl) (q := 14) rfl ?_
    refine x_callVi (as := [.long y1]) cb_RX12_341 rfl (by decide) hk0 h_r0 (fun x hx => t_X12_isWord h_r0 x hx) hC (zdk dk_X12_mustWord 8 rfl) (q := 17) rfl rfl (Nat.le_of_ble_eq_true rfl) (fun z3 => ?_)
    refine x_if_ne (tgt := 29) hC (zdk dk_X12_mustWord 9 rfl) (q := 20) rfl rfl (fun _ => ?_) (fun _ => ?_)
    · refine x_weak (L' := [.ref r0, .null, .null]) ⟨Or.inr rfl, Or.inl rfl, Or.inl rfl, trivial⟩ ?_
      exact x_X12_mustWord_29 hC hE hk0 h_r0 _
    · refine x_aload_n (i := 0) rfl hC (zdk dk_X12_mustWord 10 rfl) (q := 21) rfl ?_
      refine x_iconst (i := 1) c_iconst_1 hC (zdk dk_X12_mustWord 11 rfl) (q := 22) rfl ?_
      refine x_aload_n (i := 0) rfl hC (zdk dk_X12_mustWord 12 rfl) (q := 23) rfl ?_
      refine x_getI fl_RX12_23 (by decide) h_r0 hC (zdk dk_X12_mustWord 13 rfl) (q := 26) rfl ?_
      refine x_callVv (as := [.int 1, .int (zI z3.2 r0 4)]) cb_RX12_251 rfl (by decide) hk0 h_r0 (fun x hx => t_X12_blame h_r0 x hx) hC (zdk dk_X12_mustWord 14 rfl) (q := 29) rfl rfl (Nat.le_of_ble_eq_true rfl) (fun M4 => ?_)
      refine x_weak (L' := [.ref r0, .null, .null]) ⟨Or.inr rfl, Or.inl rfl, Or.inl rfl, trivial⟩ ?_
      exact x_X12_mustWord_29 hC hE hk0 h_r0 _
  · exact x_vret hE hC (zdk dk_X12_mustWord 5 rfl)
set_option maxRecDepth 100000 in
set_option maxHeartbeats 4000000 in
theorem t_X12_mustWord {n : Nat} {r0 : Nat} {y1 : Int64} {M : Mem} (h_r0 : zO n r0 12) (x : Mem) (hx : f_X12_mustWord r0 y1 M = some x) (l : Launch) (dC : Nat → ClassId) (dI : Nat → Nat → Nat) (b : zSg) : MT l dC dI b yX12_mustWord cX12_mustWord 3 none 2 0 0 n n [.ref r0, .long y1] M (emV x).1 (emV x).2 :=
  MT.ofX (by decide +kernel) rfl (Nat.le_of_ble_eq_true rfl) (fun κ hC hF _ => x_X12_mustWord hC (zEnd_of hF (Nat.le_refl _) (Nat.le_refl _)) (zRk_of hF (Nat.le_refl _) (Nat.le_refl _)) _ _ _ h_r0) x hx
set_option maxRecDepth 100000 in
def dt_X12_tellsAt : List (Nat × Instr × Nat) := [(0, .aload_n 0, 1), (1, .getfield 54, 3), (4, .bipush 10, 2), (6, .aload_n 0, 1), (7, .getfield 79, 3), (10, .imul, 1), (11, .iload_n 1, 1), (12, .iadd, 1), (13, .iload_n 2, 1), (14, .iastore, 1), (15, .return_, 1)]
set_option maxRecDepth 100000 in
theorem dk_X12_tellsAt : dt_X12_tellsAt.all (fun q => decide (decode cX12_tellsAt q.1 = .ok q.2)) = true := by decide +kernel
set_option maxRecDepth 100000 in
def f_X12_tellsAt (r0 : Nat) (x1 : Int32) (x2 : Int32) (M : Mem) : Option Mem := Option.bind (zrf M r0 14) fun q1 => Option.bind (zld q1 ((10 * (zI M r0 22)) + x1)) fun k2 => Option.bind (some (zsI M q1 k2 x2)) fun M3 => some M3
set_option maxRecDepth 100000 in
set_option maxHeartbeats 4000000 in
theorem x_X12_tellsAt {κ : KX} {n : Nat} (hC : CX κ cX12_tellsAt RX12 3 none 0) (hE : zEnd κ n (0, 0)) (hk0 : zRk κ (0, 0)) (r0 : Nat) (x1 : Int32) (x2 : Int32) (M : Mem) (h_r0 : zO n r0 12) : X κ 3 emV n (0, 0) 0 [.ref r0, .int x1, .int x2] [] M (f_X12_tellsAt r0 x1 x2 M) := by
  unfold f_X12_tellsAt
  refine x_aload_n (i := 0) rfl hC (zdk dk_X12_tellsAt 0 rfl) (q := 1) rfl ?_
  refine x_getR (k := 20) fl_RX12_54 rfl h_r0 hC (zdk dk_X12_tellsAt 1 rfl) (q := 4) rfl (fun q1 hq1 => ?_)
  refine x_bipush (i := 10) c_bipush_10 hC (zdk dk_X12_tellsAt 2 rfl) (q := 6) rfl ?_
  refine x_aload_n (i := 0) rfl hC (zdk dk_X12_tellsAt 3 rfl) (q := 7) rfl ?_
  refine x_getI fl_RX12_79 (by decide) h_r0 hC (zdk dk_X12_tellsAt 4 rfl) (q := 10) rfl ?_
  refine x_imul hC (zdk dk_X12_tellsAt 5 rfl) (q := 11) rfl ?_
  refine x_iload_n (i := 1) rfl hC (zdk dk_X12_tellsAt 6 rfl) (q := 12) rfl ?_
  refine x_iadd hC (zdk dk_X12_tellsAt 7 rfl) (q := 13) rfl ?_
  refine x_iload_n (i := 2) rfl hC (zdk dk_X12_tellsAt 8 rfl) (q := 14) rfl ?_
  refine x_iast hq1 hC (zdk dk_X12_tellsAt 9 rfl) (q := 15) rfl (fun k2 _ => ?_)
  refine x_nmM (fun M3 => ?_)
  exact x_vret hE hC (zdk dk_X12_tellsAt 10 rfl)
set_option maxRecDepth 100000 in
set_option maxHeartbeats 4000000 in
theorem t_X12_tellsAt {n : Nat} {r0 : Nat} {x1 : Int32} {x2 : Int32} {M : Mem} (h_r0 : zO n r0 12) (x : Mem) (hx : f_X12_tellsAt r0 x1 x2 M = some x) (l : Launch) (dC : Nat → ClassId) (dI : Nat → Nat → Nat) (b : zSg) : MT l dC dI b yX12_tellsAt cX12_tellsAt 3 none 0 0 0 n n [.ref r0, .int x1, .int x2] M (emV x).1 (emV x).2 :=
  MT.ofX (by decide +kernel) rfl (Nat.le_of_ble_eq_true rfl) (fun κ hC hF _ => x_X12_tellsAt hC (zEnd_of hF (Nat.le_refl _) (Nat.le_refl _)) (zRk_of hF (Nat.le_refl _) (Nat.le_refl _)) _ _ _ _ h_r0) x hx
set_option maxRecDepth 100000 in
def dt_X12_timesA : List (Nat × Instr × Nat) := [(0, .iload_n 0, 1), (1, .iconst 1, 1), (2, .ishl, 1), (3, .istore_n 3, 1), (4, .iload_n 3, 1), (5, .iload_n 1, 1), (6, .ishr, 1), (7, .iconst 1, 1), (8, .iand, 1), (9, .iconst 1, 1), (10, .if_icmp .ne 9, 3), (13, .iload_n 3, 1), (14, .iload_n 2, 1), (15, .ixor, 1), (16, .goto 4, 3), (19, .iload_n 3, 1), (20, .ireturn, 1)]
set_option maxRecDepth 100000 in
theorem dk_X12_timesA : dt_X12_timesA.all (fun q => decide (decode cX12_timesA q.1 = .ok q.2)) = true := by decide +kernel
set_option maxRecDepth 100000 in
def f_X12_timesA_20  (x0 : Int32) (x1 : Int32) (x2 : Int32) (s0 : Int32) (M : Mem) : Option (Int32 × Mem) := some (s0, M)
set_option maxRecDepth 100000 in
set_option maxHeartbeats 4000000 in
theorem x_X12_timesA_20 {κ : KX} {n : Nat} (hC : CX κ cX12_timesA RX12 4 (some .int) 0) (hE : zEnd κ n (0, 0)) (hk0 : zRk κ (0, 0)) {x0 : Int32} {x1 : Int32} {x2 : Int32} (s0 : Int32) (M : Mem) : X κ 4 emI n (0, 0) 20 [.null, .null, .null, .null] [.int s0] M (f_X12_timesA_20 x0 x1 x2 s0 M) := by
  unfold f_X12_timesA_20
  exact x_iret (ty := .int) rfl hE hC (zdk dk_X12_timesA 16 rfl)
set_option maxRecDepth 100000 in
def f_X12_timesA (x0 : Int32) (x1 : Int32) (x2 : Int32) (M : Mem) : Option (Int32 × Mem) := (if ((x0 <<< (1 &&& 31)) >>> (x1 &&& 31)) &&& 1 = 1 then f_X12_timesA_20 x0 x1 x2 ((x0 <<< (1 &&& 31)) ^^^ x2) M else f_X12_timesA_20 x0 x1 x2 (x0 <<< (1 &&& 31)) M)
set_option maxRecDepth 100000 in
set_option maxHeartbeats 4000000 in
theorem x_X12_timesA {κ : KX} {n : Nat} (hC : CX κ cX12_timesA RX12 4 (some .int) 0) (hE : zEnd κ n (0, 0)) (hk0 : zRk κ (0, 0)) (x0 : Int32) (x1 : Int32) (x2 : Int32) (M : Mem) : X κ 4 emI n (0, 0) 0 [.int x0, .int x1, .int x2, .null] [] M (f_X12_timesA x0 x1 x2 M) := by
  unfold f_X12_timesA
  refine x_iload_n (i := 0) rfl hC (zdk dk_X12_timesA 0 rfl) (q := 1) rfl ?_
  refine x_iconst (i := 1) c_iconst_1 hC (zdk dk_X12_timesA 1 rfl) (q := 2) rfl ?_
  refine x_ishl hC (zdk dk_X12_timesA 2 rfl) (q := 3) rfl ?_
  refine x_istore_n (i := 3) (L' := [.int x0, .int x1, .int x2, .int (x0 <<< (1 &&& 31))]) (by decide) rfl hC (zdk dk_X12_timesA 3 rfl) (q := 4) rfl ?_
  refine x_iload_n (i := 3) rfl hC (zdk dk_X12_timesA 4 rfl) (q := 5) rfl ?_
  refine x_iload_n (i := 1) rfl hC (zdk dk_X12_timesA 5 rfl) (q := 6) rfl ?_
  refine x_ishr hC (zdk dk_X12_timesA 6 rfl) (q := 7) rfl ?_
  refine x_iconst (i := 1) c_iconst_1 hC (zdk dk_X12_timesA 7 rfl) (q := 8) rfl ?_
  refine x_iand hC (zdk dk_X12_timesA 8 rfl) (q := 9) rfl ?_
  refine x_iconst (i := 1) c_iconst_1 hC (zdk dk_X12_timesA 9 rfl) (q := 10) rfl ?_
  refine x_icmp_ne (tgt := 19) hC (zdk dk_X12_timesA 10 rfl) (q := 13) rfl rfl (fun _ => ?_) (fun _ => ?_)
  · refine x_iload_n (i := 3) rfl hC (zdk dk_X12_timesA 15 rfl) (q := 20) rfl ?_
    refine x_weak (L' := [.null, .null, .null, .null]) ⟨Or.inl rfl, Or.inl rfl, Or.inl rfl, Or.inl rfl, trivial⟩ ?_
    exact x_X12_timesA_20 hC hE hk0 _ _
  · refine x_iload_n (i := 3) rfl hC (zdk dk_X12_timesA 11 rfl) (q := 14) rfl ?_
    refine x_iload_n (i := 2) rfl hC (zdk dk_X12_timesA 12 rfl) (q := 15) rfl ?_
    refine x_ixor hC (zdk dk_X12_timesA 13 rfl) (q := 16) rfl ?_
    refine x_goto (tgt := 20) hC (zdk dk_X12_timesA 14 rfl) rfl ?_
    refine x_weak (L' := [.null, .null, .null, .null]) ⟨Or.inl rfl, Or.inl rfl, Or.inl rfl, Or.inl rfl, trivial⟩ ?_
    exact x_X12_timesA_20 hC hE hk0 _ _
set_option maxRecDepth 100000 in
set_option maxHeartbeats 4000000 in
theorem t_X12_timesA {n : Nat} {x0 : Int32} {x1 : Int32} {x2 : Int32} {M : Mem}  (x : (Int32 × Mem)) (hx : f_X12_timesA x0 x1 x2 M = some x) (l : Launch) (dC : Nat → ClassId) (dI : Nat → Nat → Nat) (b : zSg) : MT l dC dI b yX12_timesA cX12_timesA 4 (some .int) 0 0 0 n n [.int x0, .int x1, .int x2] M (emI x).1 (emI x).2 :=
  MT.ofX (by decide +kernel) rfl (Nat.le_of_ble_eq_true rfl) (fun κ hC hF _ => x_X12_timesA hC (zEnd_of hF (Nat.le_refl _) (Nat.le_refl _)) (zRk_of hF (Nat.le_refl _) (Nat.le_refl _)) _ _ _ _ ) x hx
set_option maxRecDepth 100000 in
def dt_X12_isPrimitive : List (Nat × Instr × Nat) := [(0, .iload_n 1, 1), (1, .iload_n 0, 1), (2, .ishr, 1), (3, .iconst 1, 1), (4, .if_icmp .eq 5, 3), (7, .iconst 0, 1), (8, .ireturn, 1), (9, .iconst 1, 1), (10, .istore_n 2, 1), (11, .iconst 1, 1), (12, .istore_n 3, 1), (13, .iload_n 3, 1), (14, .iconst 1, 1), (15, .iload_n 0, 1), (16, .ishl, 1), (17, .if_icmp .ge 36, 3), (20, .iload_n 2, 1), (21, .iload_n 0, 1), (22, .iload_n 1, 1), (23, .invokestatic 360, 3), (26, .istore_n 2, 1), (27, .iload_n 2, 1), (28, .iconst 1, 1), (29, .if_icmp .ne 18, 3), (32, .iload_n 3, 1), (33, .iconst 1, 1), (34, .iload_n 0, 1), (35, .ishl, 1), (36, .iconst 1, 1), (37, .isub, 1), (38, .if_icmp .ne 7, 3), (41, .iconst 1, 1), (42, .goto 4, 3), (45, .iconst 0, 1), (46, .ireturn, 1), (47, .iinc 3 1, 3), (50, .goto (-37), 3), (53, .iconst 0, 1), (54, .ireturn, 1)]
set_option maxRecDepth 100000 in
theorem dk_X12_isPrimitive : dt_X12_isPrimitive.all (fun q => decide (decode cX12_isPrimitive q.1 = .ok q.2)) = true := by decide +kernel
set_option maxRecDepth 100000 in
def f_X12_isPrimitive_46  (x0 : Int32) (x1 : Int32) (s0 : Int32) (M : Mem) : Option (Int32 × Mem) := zbz s0 (some (s0, M))
set_option maxRecDepth 100000 in
set_option maxHeartbeats 4000000 in
theorem x_X12_isPrimitive_46 {κ : KX} {n : Nat} (hC : CX κ cX12_isPrimitive RX12 4 (some .boolean) 1) (hE : zEnd κ n (0, 0)) (hk0 : zRk κ (0, 0)) {x0 : Int32} {x1 : Int32} (s0 : Int32) (M : Mem) : X κ 4 emI n (0, 0) 46 [.null, .null, .null, .null] [.int s0] M (f_X12_isPrimitive_46 x0 x1 s0 M) := by
  unfold f_X12_isPrimitive_46
  refine x_bz (fun hb1 => ?_)
  exact x_iret (ty := .boolean) hb1.1 hE hC (zdk dk_X12_isPrimitive 34 rfl)
set_option maxRecDepth 100000 in
def f_X12_isPrimitive_13  (x0 : Int32) (x1 : Int32) : Nat → Int32 → Int32 → Mem → Option (Int32 × Mem)
  | 0, _, _, _ => none
  | f + 1, x2, x3, M => (if (1 : Int32) <<< (x0 &&& 31) ≤ x3 then some (0, M) else Option.bind (f_X12_timesA x2 x0 x1 M) fun z2 => (if z2.1 = 1 then (if x3 = ((1 : Int32) <<< (x0 &&& 31)) - 1 then f_X12_isPrimitive_46 x0 x1 1 z2.2 else f_X12_isPrimitive_46 x0 x1 0 z2.2) else (f_X12_isPrimitive_13 x0 x1 f) z2.1 (x3 + 1) z2.2))
set_option maxRecDepth 100000 in
set_option maxHeartbeats 4000000 in
theorem x_X12_isPrimitive_13 {κ : KX} {n : Nat} (hC : CX κ cX12_isPrimitive RX12 4 (some .boolean) 1) (hE : zEnd κ n (0, 0)) (hk0 : zRk κ (0, 0)) {x0 : Int32} {x1 : Int32} : ∀ (f : Nat) (x2 : Int32) (x3 : Int32) (M : Mem), X κ 4 emI n (0, 0) 13 [.int x0, .int x1, .int x2, .int x3] [] M (f_X12_isPrimitive_13 x0 x1 f x2 x3 M) := by
  intro f
  induction f with
  | zero => intros; exact x_none
  | succ f ih =>
    intro x2 x3 M 
    rw [f_X12_isPrimitive_13]
    refine x_iload_n (i := 3) rfl hC (zdk dk_X12_isPrimitive 11 rfl) (q := 14) rfl ?_
    refine x_iconst (i := 1) c_iconst_1 hC (zdk dk_X12_isPrimitive 12 rfl) (q := 15) rfl ?_
    refine x_iload_n (i := 0) rfl hC (zdk dk_X12_isPrimitive 13 rfl) (q := 16) rfl ?_
    refine x_ishl hC (zdk dk_X12_isPrimitive 14 rfl) (q := 17) rfl ?_
    refine x_icmp_ge (tgt := 53) hC (zdk dk_X12_isPrimitive 15 rfl) (q := 20) rfl rfl (fun _ => ?_) (fun _ => ?_)
    · refine x_iconst (i := 0) c_iconst_0 hC (zdk dk_X12_isPrimitive 37 rfl) (q := 54) rfl ?_
      exact x_iret (ty := .boolean) rfl hE hC (zdk dk_X12_isPrimitive 38 rfl)
    · refine x_iload_n (i := 2) rfl hC (zdk dk_X12_isPrimitive 16 rfl) (q := 21) rfl ?_
      refine x_iload_n (i := 0) rfl hC (zdk dk_X12_isPrimitive 17 rfl) (q := 22) rfl ?_
      refine x_iload_n (i := 1) rfl hC (zdk dk_X12_isPrimitive 18 rfl) (q := 23) rfl ?_
      refine x_callSi (as := [.int x2, .int x0, .int x1]) cb_RX12_360 rfl (by decide) hk0 (fun x hx => t_X12_timesA  x hx) hC (zdk dk_X12_isPrimitive 19 rfl) (q := 26) rfl rfl (Nat.le_of_ble_eq_true rfl) (fun z2 => ?_)
      refine x_istore_n (i := 2) (L' := [.int x0, .int x1, .int z2.1, .int x3]) (by decide) rfl hC (zdk dk_X12_isPrimitive 20 rfl) (q := 27) rfl ?_
      refine x_iload_n (i := 2) rfl hC (zdk dk_X12_isPrimitive 21 rfl) (q := 28) rfl ?_
      refine x_iconst (i := 1) c_iconst_1 hC (zdk dk_X12_isPrimitive 22 rfl) (q := 29) rfl ?_
      refine x_icmp_ne (tgt := 47) hC (zdk dk_X12_isPrimitive 23 rfl) (q := 32) rfl rfl (fun _ => ?_) (fun _ => ?_)
      · refine x_iinc (i := 3) c_iconst_1 rfl (by decide) (L' := [.int x0, .int x1, .int z2.1, .int (x3 + 1)]) rfl hC (zdk dk_X12_isPrimitive 35 rfl) (q := 50) rfl ?_
        refine x_goto (tgt := 13) hC (zdk dk_X12_isPrimitive 36 rfl) rfl ?_
        refine x_weak (L' := [.int x0, .int x1, .int z2.1, .int (x3 + 1)]) ⟨Or.inr rfl, Or.inr rfl, Or.inr rfl, Or.inr rfl, trivial⟩ ?_
        exact ih _ _ _
      · refine x_iload_n (i := 3) rfl hC (zdk dk_X12_isPrimitive 24 rfl) (q := 33) rfl ?_
        refine x_iconst (i := 1) c_iconst_1 hC (zdk dk_X12_isPrimitive 25 rfl) (q := 34) rfl ?_
        refine x_iload_n (i := 0) rfl hC (zdk dk_X12_isPrimitive 26 rfl) (q := 35) rfl ?_
        refine x_ishl hC (zdk dk_X12_isPrimitive 27 rfl) (q := 36) rfl ?_
        refine x_iconst (i := 1) c_iconst_1 hC (zdk dk_X12_isPrimitive 28 rfl) (q := 37) rfl ?_
        refine x_isub hC (zdk dk_X12_isPrimitive 29 rfl) (q := 38) rfl ?_
        refine x_icmp_ne (tgt := 45) hC (zdk dk_X12_isPrimitive 30 rfl) (q := 41) rfl rfl (fun _ => ?_) (fun _ => ?_)
        · refine x_iconst (i := 0) c_iconst_0 hC (zdk dk_X12_isPrimitive 33 rfl) (q := 46) rfl ?_
          refine x_weak (L' := [.null, .null, .null, .null]) ⟨Or.inl rfl, Or.inl rfl, Or.inl rfl, Or.inl rfl, trivial⟩ ?_
          exact x_X12_isPrimitive_46 hC hE hk0 _ _
        · refine x_iconst (i := 1) c_iconst_1 hC (zdk dk_X12_isPrimitive 31 rfl) (q := 42) rfl ?_
          refine x_goto (tgt := 46) hC (zdk dk_X12_isPrimitive 32 rfl) rfl ?_
          refine x_weak (L' := [.null, .null, .null, .null]) ⟨Or.inl rfl, Or.inl rfl, Or.inl rfl, Or.inl rfl, trivial⟩ ?_
          exact x_X12_isPrimitive_46 hC hE hk0 _ _
set_option maxRecDepth 100000 in
def f_X12_isPrimitive (x0 : Int32) (x1 : Int32) (M : Mem) : Option (Int32 × Mem) := (if x1 >>> (x0 &&& 31) = 1 then f_X12_isPrimitive_13 x0 x1 1000000 1 1 M else some (0, M))
set_option maxRecDepth 100000 in
set_option maxHeartbeats 4000000 in
theorem x_X12_isPrimitive {κ : KX} {n : Nat} (hC : CX κ cX12_isPrimitive RX12 4 (some .boolean) 1) (hE : zEnd κ n (0, 0)) (hk0 : zRk κ (0, 0)) (x0 : Int32) (x1 : Int32) (M : Mem) : X κ 4 emI n (0, 0) 0 [.int x0, .int x1, .null, .null] [] M (f_X12_isPrimitive x0 x1 M) := by
  unfold f_X12_isPrimitive
  refine x_iload_n (i := 1) rfl hC (zdk dk_X12_isPrimitive 0 rfl) (q := 1) rfl ?_
  refine x_iload_n (i := 0) rfl hC (zdk dk_X12_isPrimitive 1 rfl) (q := 2) rfl ?_
  refine x_ishr hC (zdk dk_X12_isPrimitive 2 rfl) (q := 3) rfl ?_
  refine x_iconst (i := 1) c_iconst_1 hC (zdk dk_X12_isPrimitive 3 rfl) (q := 4) rfl ?_
  refine x_icmp_eq (tgt := 9) hC (zdk dk_X12_isPrimitive 4 rfl) (q := 7) rfl rfl (fun _ => ?_) (fun _ => ?_)
  · refine x_iconst (i := 1) c_iconst_1 hC (zdk dk_X12_isPrimitive 7 rfl) (q := 10) rfl ?_
    refine x_istore_n (i := 2) (L' := [.int x0, .int x1, .int 1, .null]) (by decide) rfl hC (zdk dk_X12_isPrimitive 8 rfl) (q := 11) rfl ?_
    refine x_iconst (i := 1) c_iconst_1 hC (zdk dk_X12_isPrimitive 9 rfl) (q := 12) rfl ?_
    refine x_istore_n (i := 3) (L' := [.int x0, .int x1, .int 1, .int 1]) (by decide) rfl hC (zdk dk_X12_isPrimitive 10 rfl) (q := 13) rfl ?_
    refine x_weak (L' := [.int x0, .int x1, .int 1, .int 1]) ⟨Or.inr rfl, Or.inr rfl, Or.inr rfl, Or.inr rfl, trivial⟩ ?_
    exact x_X12_isPrimitive_13 hC hE hk0 _ _ _ _
  · refine x_iconst (i := 0) c_iconst_0 hC (zdk dk_X12_isPrimitive 5 rfl) (q := 8) rfl ?_
    exact x_iret (ty := .boolean) rfl hE hC (zdk dk_X12_isPrimitive 6 rfl)
set_option maxRecDepth 100000 in
set_option maxHeartbeats 4000000 in
theorem t_X12_isPrimitive {n : Nat} {x0 : Int32} {x1 : Int32} {M : Mem}  (x : (Int32 × Mem)) (hx : f_X12_isPrimitive x0 x1 M = some x) (l : Launch) (dC : Nat → ClassId) (dI : Nat → Nat → Nat) (b : zSg) : MT l dC dI b yX12_isPrimitive cX12_isPrimitive 4 (some .boolean) 1 0 0 n n [.int x0, .int x1] M (emI x).1 (emI x).2 :=
  MT.ofX (by decide +kernel) rfl (Nat.le_of_ble_eq_true rfl) (fun κ hC hF _ => x_X12_isPrimitive hC (zEnd_of hF (Nat.le_refl _) (Nat.le_refl _)) (zRk_of hF (Nat.le_refl _) (Nat.le_refl _)) _ _ _ ) x hx
set_option maxRecDepth 100000 in
def dt_X12_rootsFor : List (Nat × Instr × Nat) := [(0, .iconst 1, 1), (1, .iload_n 1, 1), (2, .ishl, 1), (3, .iconst 1, 1), (4, .isub, 1), (5, .istore_n 3, 1), (6, .iconst 0, 1), (7, .istore 4, 2), (9, .iconst 0, 1), (10, .istore 5, 2), (12, .iload 5, 2), (14, .iload_n 3, 1), (15, .if_icmp .ge 17, 3), (18, .aload_n 0, 1), (19, .getfield 117, 3), (22, .iload 5, 2), (24, .iconst 0, 1), (25, .iastore, 1), (26, .iinc 5 1, 3), (29, .goto (-17), 3), (32, .iconst 1, 1), (33, .istore 5, 2), (35, .iload 5, 2), (37, .iconst 2, 1), (38, .iload_n 2, 1), (39, .imul, 1), (40, .if_icmp .gt 60, 3), (43, .iload 5, 2), (45, .iload_n 3, 1), (46, .irem, 1), (47, .istore 6, 2), (49, .iconst 0, 1), (50, .istore 7, 2), (52, .iload 7, 2), (54, .iload_n 1, 1), (55, .if_icmp .ge 39, 3), (58, .iload 4, 2), (60, .iconst 1, 1), (61, .aload_n 0, 1), (62, .getfield 117, 3), (65, .iload 6, 2), (67, .iaload, 1), (68, .isub, 1), (69, .iadd, 1), (70, .istore 4, 2), (72, .aload_n 0, 1), (73, .getfield 117, 3), (76, .iload 6, 2), (78, .iconst 1, 1), (79, .iastore, 1), (80, .iconst 2, 1), (81, .iload 6, 2), (83, .imul, 1), (84, .iload_n 3, 1), (85, .irem, 1), (86, .istore 6, 2), (88, .iinc 7 1, 3), (91, .goto (-39), 3), (94, .iinc 5 1, 3), (97, .goto (-62), 3), (100, .iload 4, 2), (102, .ireturn, 1)]
set_option maxRecDepth 100000 in
theorem dk_X12_rootsFor : dt_X12_rootsFor.all (fun q => decide (decode cX12_rootsFor q.1 = .ok q.2)) = true := by decide +kernel
set_option maxRecDepth 100000 in
def f_X12_rootsFor_52 (k35 : Int32 → Int32 → Int32 → Mem → Option (Int32 × Mem)) (r0 : Nat) (x1 : Int32) (x2 : Int32) : Nat → Int32 → Int32 → Int32 → Int32 → Int32 → Mem → Option (Int32 × Mem)
  | 0, _, _, _, _, _, _ => none
  | f + 1, x3, x4, x5, x6, x7, M => (if x1 ≤ x7 then k35 x3 x4 (x5 + 1) M else Option.bind (zrf M r0 34) fun q1 => Option.bind (zld q1 x6) fun k2 => Option.bind (zrf M r0 34) fun q3 => Option.bind (zld q3 x6) fun k4 => Option.bind (some (zsI M q3 k4 1)) fun M5 => if x3 = 0 then none else (f_X12_rootsFor_52 k35 r0 x1 x2 f) x3 (x4 + (1 - (zI M q1 k2))) x5 (zrem (2 * x6) x3) (x7 + 1) M5)
set_option maxRecDepth 100000 in
set_option maxHeartbeats 4000000 in
theorem x_X12_rootsFor_52 {κ : KX} {n : Nat} (hC : CX κ cX12_rootsFor RX12 8 (some .int) 0) (hE : zEnd κ n (0, 0)) (hk0 : zRk κ (0, 0)) {r0 : Nat} {x1 : Int32} {x2 : Int32} (h_r0 : zO n r0 12) (k35 : Int32 → Int32 → Int32 → Mem → Option (Int32 × Mem)) (hk35 : ∀ (x3 : Int32) (x4 : Int32) (x5 : Int32) (M : Mem), X κ 8 emI n (0, 0) 35 [.ref r0, .int x1, .int x2, .int x3, .int x4, .int x5, .null, .null] [] M (k35 x3 x4 x5 M)) : ∀ (f : Nat) (x3 : Int32) (x4 : Int32) (x5 : Int32) (x6 : Int32) (x7 : Int32) (M : Mem), X κ 8 emI n (0, 0) 52 [.ref r0, .int x1, .int x2, .int x3, .int x4, .int x5, .int x6, .int x7] [] M (f_X12_rootsFor_52 k35 r0 x1 x2 f x3 x4 x5 x6 x7 M) := by
  intro f
  induction f with
  | zero => intros; exact x_none
  | succ f ih =>
    intro x3 x4 x5 x6 x7 M 
    rw [f_X12_rootsFor_52]
    refine x_iload (i := 7) rfl hC (zdk dk_X12_rootsFor 33 rfl) (q := 54) rfl ?_
    refine x_iload_n (i := 1) rfl hC (zdk dk_X12_rootsFor 34 rfl) (q := 55) rfl ?_
    refine x_icmp_ge (tgt := 94) hC (zdk dk_X12_rootsFor 35 rfl) (q := 58) rfl rfl (fun _ => ?_) (fun _ => ?_)
    · refine x_iinc (i := 5) c_iconst_1 rfl (by decide) (L' := [.ref r0, .int x1, .int x2, .int x3, .int x4, .int (x5 + 1), .int x6, .int x7]) rfl hC (zdk dk_X12_rootsFor 58 rfl) (q := 97) rfl ?_
      refine x_goto (tgt := 35) hC (zdk dk_X12_rootsFor 59 rfl) rfl ?_
      refine x_weak (L' := [.ref r0, .int x1, .int x2, .int x3, .int x4, .int (x5 + 1), .null, .null]) ⟨Or.inr rfl, Or.inr rfl, Or.inr rfl, Or.inr rfl, Or.inr rfl, Or.inr rfl, Or.inl rfl, Or.inl rfl, trivial⟩ ?_
      exact hk35 _ _ _ _
    · refine x_iload (i := 4) rfl hC (zdk dk_X12_rootsFor 36 rfl) (q := 60) rfl ?_
      refine x_iconst (i := 1) c_iconst_1 hC (zdk dk_X12_rootsFor 37 rfl) (q := 61) rfl ?_
      refine x_aload_n (i := 0) rfl hC (zdk dk_X12_rootsFor 38 rfl) (q := 62) rfl ?_
      refine x_getR (k := 20) fl_RX12_117 rfl h_r0 hC (zdk dk_X12_rootsFor 39 rfl) (q := 65) rfl (fun q1 hq1 => ?_)
      refine x_iload (i := 6) rfl hC (zdk dk_X12_rootsFor 40 rfl) (q := 67) rfl ?_
      refine x_iald hq1 hC (zdk dk_X12_rootsFor 41 rfl) (q := 68) rfl (fun k2 _ => ?_)
      refine x_isub hC (zdk dk_X12_rootsFor 42 rfl) (q := 69) rfl ?_
      refine x_iadd hC (zdk dk_X12_rootsFor 43 rfl) (q := 70) rfl ?_
      refine x_istore (i := 4) (L' := [.ref r0, .int x1, .int x2, .int x3, .int (x4 + (1 - (zI M q1 k2))), .int x5, .int x6, .int x7]) (by decide) rfl hC (zdk dk_X12_rootsFor 44 rfl) (q := 72) rfl ?_
      refine x_aload_n (i := 0) rfl hC (zdk dk_X12_rootsFor 45 rfl) (q := 73) rfl ?_
      refine x_getR (k := 20) fl_RX12_117 rfl h_r0 hC (zdk dk_X12_rootsFor 46 rfl) (q := 76) rfl (fun q3 hq3 => ?_)
      refine x_iload (i := 6) rfl hC (zdk dk_X12_rootsFor 47 rfl) (q := 78) rfl ?_
      refine x_iconst (i := 1) c_iconst_1 hC (zdk dk_X12_rootsFor 48 rfl) (q := 79) rfl ?_
      refine x_iast hq3 hC (zdk dk_X12_rootsFor 49 rfl) (q := 80) rfl (fun k4 _ => ?_)
      refine x_nmM (fun M5 => ?_)
      refine x_iconst (i := 2) c_iconst_2 hC (zdk dk_X12_rootsFor 50 rfl) (q := 81) rfl ?_
      refine x_iload (i := 6) rfl hC (zdk dk_X12_rootsFor 51 rfl) (q := 83) rfl ?_
      refine x_imul hC (zdk dk_X12_rootsFor 52 rfl) (q := 84) rfl ?_
      refine x_iload_n (i := 3) rfl hC (zdk dk_X12_rootsFor 53 rfl) (q := 85) rfl ?_
      refine x_iremG hC (zdk dk_X12_rootsFor 54 rfl) (q := 86) rfl ?_
      refine x_istore (i := 6) (L' := [.ref r0, .int x1, .int x2, .int x3, .int (x4 + (1 - (zI M q1 k2))), .int x5, .int (zrem (2 * x6) x3), .int x7]) (by decide) rfl hC (zdk dk_X12_rootsFor 55 rfl) (q := 88) rfl ?_
      refine x_iinc (i := 7) c_iconst_1 rfl (by decide) (L' := [.ref r0, .int x1, .int x2, .int x3, .int (x4 + (1 - (zI M q1 k2))), .int x5, .int (zrem (2 * x6) x3), .int (x7 + 1)]) rfl hC (zdk dk_X12_rootsFor 56 rfl) (q := 91) rfl ?_
      refine x_goto (tgt := 52) hC (zdk dk_X12_rootsFor 57 rfl) rfl ?_
      refine x_weak (L' := [.ref r0, .int x1, .int x2, .int x3, .int (x4 + (1 - (zI M q1 k2))), .int x5, .int (zrem (2 * x6) x3), .int (x7 + 1)]) ⟨Or.inr rfl, Or.inr rfl, Or.inr rfl, Or.inr rfl, Or.inr rfl, Or.inr rfl, Or.inr rfl, Or.inr rfl, trivial⟩ ?_
      exact ih _ _ _ _ _ _
set_option maxRecDepth 100000 in
def f_X12_rootsFor_35  (r0 : Nat) (x1 : Int32) (x2 : Int32) : Nat → Int32 → Int32 → Int32 → Mem → Option (Int32 × Mem)
  | 0, _, _, _, _ => none
  | f + 1, x3, x4, x5, M => (if 2 * x2 < x5 then some (x4, M) else if x3 = 0 then none else f_X12_rootsFor_52 (f_X12_rootsFor_35 r0 x1 x2 f) r0 x1 x2 1000000 x3 x4 x5 (zrem x5 x3) 0 M)
set_option maxRecDepth 100000 in
set_option maxHeartbeats 4000000 in
theorem x_X12_rootsFor_35 {κ : KX} {n : Nat} (hC : CX κ cX12_rootsFor RX12 8 (some .int) 0) (hE : zEnd κ n (0, 0)) (hk0 : zRk κ (0, 0)) {r0 : Nat} {x1 : Int32} {x2 : Int32} (h_r0 : zO n r0 12) : ∀ (f : Nat) (x3 : Int32) (x4 : Int32) (x5 : Int32) (M : Mem), X κ 8 emI n (0, 0) 35 [.ref r0, .int x1, .int x2, .int x3, .int x4, .int x5, .null, .null] [] M (f_X12_rootsFor_35 r0 x1 x2 f x3 x4 x5 M) := by
  intro f
  induction f with
  | zero => intros; exact x_none
  | succ f ih =>
    intro x3 x4 x5 M 
    rw [f_X12_rootsFor_35]
    refine x_iload (i := 5) rfl hC (zdk dk_X12_rootsFor 22 rfl) (q := 37) rfl ?_
    refine x_iconst (i := 2) c_iconst_2 hC (zdk dk_X12_rootsFor 23 rfl) (q := 38) rfl ?_
    refine x_iload_n (i := 2) rfl hC (zdk dk_X12_rootsFor 24 rfl) (q := 39) rfl ?_
    refine x_imul hC (zdk dk_X12_rootsFor 25 rfl) (q := 40) rfl ?_
    refine x_icmp_gt (tgt := 100) hC (zdk dk_X12_rootsFor 26 rfl) (q := 43) rfl rfl (fun _ => ?_) (fun _ => ?_)
    · refine x_iload (i := 4) rfl hC (zdk dk_X12_rootsFor 60 rfl) (q := 102) rfl ?_
      exact x_iret (ty := .int) rfl hE hC (zdk dk_X12_rootsFor 61 rfl)
    · refine x_iload (i := 5) rfl hC (zdk dk_X12_rootsFor 27 rfl) (q := 45) rfl ?_
      refine x_iload_n (i := 3) rfl hC (zdk dk_X12_rootsFor 28 rfl) (q := 46) rfl ?_
      refine x_iremG hC (zdk dk_X12_rootsFor 29 rfl) (q := 47) rfl ?_
      refine x_istore (i := 6) (L' := [.ref r0, .int x1, .int x2, .int x3, .int x4, .int x5, .int (zrem x5 x3), .null]) (by decide) rfl hC (zdk dk_X12_rootsFor 30 rfl) (q := 49) rfl ?_
      refine x_iconst (i := 0) c_iconst_0 hC (zdk dk_X12_rootsFor 31 rfl) (q := 50) rfl ?_
      refine x_istore (i := 7) (L' := [.ref r0, .int x1, .int x2, .int x3, .int x4, .int x5, .int (zrem x5 x3), .int 0]) (by decide) rfl hC (zdk dk_X12_rootsFor 32 rfl) (q := 52) rfl ?_
      refine x_weak (L' := [.ref r0, .int x1, .int x2, .int x3, .int x4, .int x5, .int (zrem x5 x3), .int 0]) ⟨Or.inr rfl, Or.inr rfl, Or.inr rfl, Or.inr rfl, Or.inr rfl, Or.inr rfl, Or.inr rfl, Or.inr rfl, trivial⟩ ?_
      exact x_X12_rootsFor_52 hC hE hk0 h_r0 (f_X12_rootsFor_35 r0 x1 x2 f) ih _ _ _ _ _ _ _
set_option maxRecDepth 100000 in
def f_X12_rootsFor_12  (r0 : Nat) (x1 : Int32) (x2 : Int32) : Nat → Int32 → Int32 → Int32 → Mem → Option (Int32 × Mem)
  | 0, _, _, _, _ => none
  | f + 1, x3, x4, x5, M => (if x3 ≤ x5 then f_X12_rootsFor_35 r0 x1 x2 1000000 x3 x4 1 M else Option.bind (zrf M r0 34) fun q6 => Option.bind (zld q6 x5) fun k7 => Option.bind (some (zsI M q6 k7 0)) fun M8 => (f_X12_rootsFor_12 r0 x1 x2 f) x3 x4 (x5 + 1) M8)
set_option maxRecDepth 100000 in
set_option maxHeartbeats 4000000 in
theorem x_X12_rootsFor_12 {κ : KX} {n : Nat} (hC : CX κ cX12_rootsFor RX12 8 (some .int) 0) (hE : zEnd κ n (0, 0)) (hk0 : zRk κ (0, 0)) {r0 : Nat} {x1 : Int32} {x2 : Int32} (h_r0 : zO n r0 12) : ∀ (f : Nat) (x3 : Int32) (x4 : Int32) (x5 : Int32) (M : Mem), X κ 8 emI n (0, 0) 12 [.ref r0, .int x1, .int x2, .int x3, .int x4, .int x5, .null, .null] [] M (f_X12_rootsFor_12 r0 x1 x2 f x3 x4 x5 M) := by
  intro f
  induction f with
  | zero => intros; exact x_none
  | succ f ih =>
    intro x3 x4 x5 M 
    rw [f_X12_rootsFor_12]
    refine x_iload (i := 5) rfl hC (zdk dk_X12_rootsFor 10 rfl) (q := 14) rfl ?_
    refine x_iload_n (i := 3) rfl hC (zdk dk_X12_rootsFor 11 rfl) (q := 15) rfl ?_
    refine x_icmp_ge (tgt := 32) hC (zdk dk_X12_rootsFor 12 rfl) (q := 18) rfl rfl (fun _ => ?_) (fun _ => ?_)
    · refine x_iconst (i := 1) c_iconst_1 hC (zdk dk_X12_rootsFor 20 rfl) (q := 33) rfl ?_
      refine x_istore (i := 5) (L' := [.ref r0, .int x1, .int x2, .int x3, .int x4, .int 1, .null, .null]) (by decide) rfl hC (zdk dk_X12_rootsFor 21 rfl) (q := 35) rfl ?_
      refine x_weak (L' := [.ref r0, .int x1, .int x2, .int x3, .int x4, .int 1, .null, .null]) ⟨Or.inr rfl, Or.inr rfl, Or.inr rfl, Or.inr rfl, Or.inr rfl, Or.inr rfl, Or.inl rfl, Or.inl rfl, trivial⟩ ?_
      exact x_X12_rootsFor_35 hC hE hk0 h_r0 _ _ _ _ _
    · refine x_aload_n (i := 0) rfl hC (zdk dk_X12_rootsFor 13 rfl) (q := 19) rfl ?_
      refine x_getR (k := 20) fl_RX12_117 rfl h_r0 hC (zdk dk_X12_rootsFor 14 rfl) (q := 22) rfl (fun q6 hq6 => ?_)
      refine x_iload (i := 5) rfl hC (zdk dk_X12_rootsFor 15 rfl) (q := 24) rfl ?_
      refine x_iconst (i := 0) c_iconst_0 hC (zdk dk_X12_rootsFor 16 rfl) (q := 25) rfl ?_
      refine x_iast hq6 hC (zdk dk_X12_rootsFor 17 rfl) (q := 26) rfl (fun k7 _ => ?_)
      refine x_nmM (fun M8 => ?_)
      refine x_iinc (i := 5) c_iconst_1 rfl (by decide) (L' := [.ref r0, .int x1, .int x2, .int x3, .int x4, .int (x5 + 1), .null, .null]) rfl hC (zdk dk_X12_rootsFor 18 rfl) (q := 29) rfl ?_
      refine x_goto (tgt := 12) hC (zdk dk_X12_rootsFor 19 rfl) rfl ?_
      refine x_weak (L' := [.ref r0, .int x1, .int x2, .int x3, .int x4, .int (x5 + 1), .null, .null]) ⟨Or.inr rfl, Or.inr rfl, Or.inr rfl, Or.inr rfl, Or.inr rfl, Or.inr rfl, Or.inl rfl, Or.inl rfl, trivial⟩ ?_
      exact ih _ _ _ _
set_option maxRecDepth 100000 in
def f_X12_rootsFor (r0 : Nat) (x1 : Int32) (x2 : Int32) (M : Mem) : Option (Int32 × Mem) := f_X12_rootsFor_12 r0 x1 x2 1000000 (((1 : Int32) <<< (x1 &&& 31)) - 1) 0 0 M
set_option maxRecDepth 100000 in
set_option maxHeartbeats 4000000 in
theorem x_X12_rootsFor {κ : KX} {n : Nat} (hC : CX κ cX12_rootsFor RX12 8 (some .int) 0) (hE : zEnd κ n (0, 0)) (hk0 : zRk κ (0, 0)) (r0 : Nat) (x1 : Int32) (x2 : Int32) (M : Mem) (h_r0 : zO n r0 12) : X κ 8 emI n (0, 0) 0 [.ref r0, .int x1, .int x2, .null, .null, .null, .null, .null] [] M (f_X12_rootsFor r0 x1 x2 M) := by
  unfold f_X12_rootsFor
  refine x_iconst (i := 1) c_iconst_1 hC (zdk dk_X12_rootsFor 0 rfl) (q := 1) rfl ?_
  refine x_iload_n (i := 1) rfl hC (zdk dk_X12_rootsFor 1 rfl) (q := 2) rfl ?_
  refine x_ishl hC (zdk dk_X12_rootsFor 2 rfl) (q := 3) rfl ?_
  refine x_iconst (i := 1) c_iconst_1 hC (zdk dk_X12_rootsFor 3 rfl) (q := 4) rfl ?_
  refine x_isub hC (zdk dk_X12_rootsFor 4 rfl) (q := 5) rfl ?_
  refine x_istore_n (i := 3) (L' := [.ref r0, .int x1, .int x2, .int (((1 : Int32) <<< (x1 &&& 31)) - 1), .null, .null, .null, .null]) (by decide) rfl hC (zdk dk_X12_rootsFor 5 rfl) (q := 6) rfl ?_
  refine x_iconst (i := 0) c_iconst_0 hC (zdk dk_X12_rootsFor 6 rfl) (q := 7) rfl ?_
  refine x_istore (i := 4) (L' := [.ref r0, .int x1, .int x2, .int (((1 : Int32) <<< (x1 &&& 31)) - 1), .int 0, .null, .null, .null]) (by decide) rfl hC (zdk dk_X12_rootsFor 7 rfl) (q := 9) rfl ?_
  refine x_iconst (i := 0) c_iconst_0 hC (zdk dk_X12_rootsFor 8 rfl) (q := 10) rfl ?_
  refine x_istore (i := 5) (L' := [.ref r0, .int x1, .int x2, .int (((1 : Int32) <<< (x1 &&& 31)) - 1), .int 0, .int 0, .null, .null]) (by decide) rfl hC (zdk dk_X12_rootsFor 9 rfl) (q := 12) rfl ?_
  refine x_weak (L' := [.ref r0, .int x1, .int x2, .int (((1 : Int32) <<< (x1 &&& 31)) - 1), .int 0, .int 0, .null, .null]) ⟨Or.inr rfl, Or.inr rfl, Or.inr rfl, Or.inr rfl, Or.inr rfl, Or.inr rfl, Or.inl rfl, Or.inl rfl, trivial⟩ ?_
  exact x_X12_rootsFor_12 hC hE hk0 h_r0 _ _ _ _ _
set_option maxRecDepth 100000 in
set_option maxHeartbeats 4000000 in
theorem t_X12_rootsFor {n : Nat} {r0 : Nat} {x1 : Int32} {x2 : Int32} {M : Mem} (h_r0 : zO n r0 12) (x : (Int32 × Mem)) (hx : f_X12_rootsFor r0 x1 x2 M = some x) (l : Launch) (dC : Nat → ClassId) (dI : Nat → Nat → Nat) (b : zSg) : MT l dC dI b yX12_rootsFor cX12_rootsFor 8 (some .int) 0 0 0 n n [.ref r0, .int x1, .int x2] M (emI x).1 (emI x).2 :=
  MT.ofX (by decide +kernel) rfl (Nat.le_of_ble_eq_true rfl) (fun κ hC hF _ => x_X12_rootsFor hC (zEnd_of hF (Nat.le_refl _) (Nat.le_refl _)) (zRk_of hF (Nat.le_refl _) (Nat.le_refl _)) _ _ _ _ h_r0) x hx
set_option maxRecDepth 100000 in
def dt_X12_chipIs : List (Nat × Instr × Nat) := [(0, .aload_n 0, 1), (1, .ldc2_w 271, 3), (4, .invokevirtual 364, 3), (7, .aload_n 0, 1), (8, .iconst 3, 1), (9, .bipush 6, 2), (11, .invokevirtual 368, 3), (14, .istore_n 1, 1), (15, .aload_n 0, 1), (16, .ldc2_w 273, 3), (19, .invokevirtual 364, 3), (22, .aload_n 0, 1), (23, .invokevirtual 262, 3), (26, .aload_n 0, 1), (27, .getfield 23, 3), (30, .istore_n 2, 1), (31, .aload_n 0, 1), (32, .iconst 0, 1), (33, .sipush 9999, 3), (36, .invokevirtual 368, 3), (39, .istore_n 3, 1), (40, .aload_n 0, 1), (41, .getfield 36, 3), (44, .ifCond .ne 17, 3), (47, .iload_n 1, 1), (48, .iload_n 3, 1), (49, .invokestatic 372, 3), (52, .ifCond .ne 9, 3), (55, .aload_n 0, 1), (56, .iconst 4, 1), (57, .iload_n 2, 1), (58, .invokevirtual 251, 3), (61, .aload_n 0, 1), (62, .ldc2_w 275, 3), (65, .invokevirtual 364, 3), (68, .aload_n 0, 1), (69, .invokevirtual 262, 3), (72, .aload_n 0, 1), (73, .getfield 23, 3), (76, .istore_n 2, 1), (77, .aload_n 0, 1), (78, .iconst 1, 1), (79, .iconst 5, 1), (80, .invokevirtual 368, 3), (83, .istore 4, 2), (85, .aload_n 0, 1), (86, .getfield 36, 3), (89, .ifCond .le 4, 3), (92, .return_, 1), (93, .iconst 1, 1), (94, .iload_n 1, 1), (95, .ishl, 1), (96, .iconst 1, 1), (97, .isub, 1), (98, .aload_n 0, 1), (99, .iload_n 1, 1), (100, .iload 4, 2), (102, .invokevirtual 376, 3), (105, .isub, 1), (106, .istore 5, 2), (108, .iload 5, 2), (110, .iconst 1, 1), (111, .if_icmp .ge 9, 3), (114, .aload_n 0, 1), (115, .iconst 4, 1), (116, .iload_n 2, 1), (117, .invokevirtual 251, 3), (120, .aload_n 0, 1), (121, .ldc2_w 277, 3), (124, .invokevirtual 364, 3), (127, .aload_n 0, 1), (128, .iconst 0, 1), (129, .iload 5, 2), (131, .iconst 1, 1), (132, .isub, 1), (133, .invokevirtual 368, 3), (136, .istore 6, 2), (138, .aload_n 0, 1), (139, .iconst 0, 1), (140, .iload_n 1, 1), (141, .invokevirtual 379, 3), (144, .aload_n 0, 1), (145, .iconst 1, 1), (146, .iload_n 3, 1), (147, .invokevirtual 379, 3), (150, .aload_n 0, 1), (151, .iconst 2, 1), (152, .iload 4, 2), (154, .invokevirtual 379, 3), (157, .aload_n 0, 1), (158, .iconst 3, 1), (159, .iload 6, 2), (161, .invokevirtual 379, 3), (164, .return_, 1)]
set_option maxRecDepth 100000 in
theorem dk_X12_chipIs : dt_X12_chipIs.all (fun q => decide (decode cX12_chipIs q.1 = .ok q.2)) = true := by decide +kernel
set_option maxRecDepth 100000 in
def f_X12_chipIs_120  (r0 : Nat) (x1 : Int32) (x3 : Int32) (x4 : Int32) (x5 : Int32) (M : Mem) : Option Mem := Option.bind (f_X12_mustWord r0 495673373300 M) fun M1 => Option.bind (f_X12_number r0 0 (x5 - 1) M1) fun z2 => Option.bind (f_X12_tellsAt r0 0 x1 z2.2) fun M3 => Option.bind (f_X12_tellsAt r0 1 x3 M3) fun M4 => Option.bind (f_X12_tellsAt r0 2 x4 M4) fun M5 => Option.bind (f_X12_tellsAt r0 3 z2.1 M5) fun M6 => some M6
set_option maxRecDepth 100000 in
set_option maxHeartbeats 4000000 in
theorem x_X12_chipIs_120 {κ : KX} {n : Nat} (hC : CX κ cX12_chipIs RX12 7 none 3) (hE : zEnd κ n (0, 0)) (hk0 : zRk κ (0, 0)) {r0 : Nat} (h_r0 : zO n r0 12) (x1 : Int32) (x3 : Int32) (x4 : Int32) (x5 : Int32) (M : Mem) : X κ 7 emV n (0, 0) 120 [.ref r0, .int x1, .null, .int x3, .int x4, .int x5, .null] [] M (f_X12_chipIs_120 r0 x1 x3 x4 x5 M) := by
  unfold f_X12_chipIs_120
  refine x_aload_n (i := 0) rfl hC (zdk dk_X12_chipIs 67 rfl) (q := 121) rfl ?_
  refine x_ldc2 k_RX12_277 hC (zdk dk_X12_chipIs 68 rfl) (q := 124) rfl ?_
  refine x_callVv (as := [.long 495673373300]) cb_RX12_364 rfl (by decide) hk0 h_r0 (fun x hx => t_X12_mustWord h_r0 x hx) hC (zdk dk_X12_chipIs 69 rfl) (q := 127) rfl rfl (Nat.le_of_ble_eq_true rfl) (fun M1 => ?_)
  refine x_aload_n (i := 0) rfl hC (zdk dk_X12_chipIs 70 rfl) (q := 128) rfl ?_
  refine x_iconst (i := 0) c_iconst_0 hC (zdk dk_X12_chipIs 71 rfl) (q := 129) rfl ?_
  refine x_iload (i := 5) rfl hC (zdk dk_X12_chipIs 72 rfl) (q := 131) rfl ?_
  refine x_iconst (i := 1) c_iconst_1 hC (zdk dk_X12_chipIs 73 rfl) (q := 132) rfl ?_
  refine x_isub hC (zdk dk_X12_chipIs 74 rfl) (q := 133) rfl ?_
  refine x_callVi (as := [.int 0, .int (x5 - 1)]) cb_RX12_368 rfl (by decide) hk0 h_r0 (fun x hx => t_X12_number h_r0 x hx) hC (zdk dk_X12_chipIs 75 rfl) (q := 136) rfl rfl (Nat.le_of_ble_eq_true rfl) (fun z2 => ?_)
  refine x_istore (i := 6) (L' := [.ref r0, .int x1, .null, .int x3, .int x4, .int x5, .int z2.1]) (by decide) rfl hC (zdk dk_X12_chipIs 76 rfl) (q := 138) rfl ?_
  refine x_aload_n (i := 0) rfl hC (zdk dk_X12_chipIs 77 rfl) (q := 139) rfl ?_
  refine x_iconst (i := 0) c_iconst_0 hC (zdk dk_X12_chipIs 78 rfl) (q := 140) rfl ?_
  refine x_iload_n (i := 1) rfl hC (zdk dk_X12_chipIs 79 rfl) (q := 141) rfl ?_
  refine x_callVv (as := [.int 0, .int x1]) cb_RX12_379 rfl (by decide) hk0 h_r0 (fun x hx => t_X12_tellsAt h_r0 x hx) hC (zdk dk_X12_chipIs 80 rfl) (q := 144) rfl rfl (Nat.le_of_ble_eq_true rfl) (fun M3 => ?_)
  refine x_aload_n (i := 0) rfl hC (zdk dk_X12_chipIs 81 rfl) (q := 145) rfl ?_
  refine x_iconst (i := 1) c_iconst_1 hC (zdk dk_X12_chipIs 82 rfl) (q := 146) rfl ?_
  refine x_iload_n (i := 3) rfl hC (zdk dk_X12_chipIs 83 rfl) (q := 147) rfl ?_
  refine x_callVv (as := [.int 1, .int x3]) cb_RX12_379 rfl (by decide) hk0 h_r0 (fun x hx => t_X12_tellsAt h_r0 x hx) hC (zdk dk_X12_chipIs 84 rfl) (q := 150) rfl rfl (Nat.le_of_ble_eq_true rfl) (fun M4 => ?_)
  refine x_aload_n (i := 0) rfl hC (zdk dk_X12_chipIs 85 rfl) (q := 151) rfl ?_
  refine x_iconst (i := 2) c_iconst_2 hC (zdk dk_X12_chipIs 86 rfl) (q := 152) rfl ?_
  refine x_iload (i := 4) rfl hC (zdk dk_X12_chipIs 87 rfl) (q := 154) rfl ?_
  refine x_callVv (as := [.int 2, .int x4]) cb_RX12_379 rfl (by decide) hk0 h_r0 (fun x hx => t_X12_tellsAt h_r0 x hx) hC (zdk dk_X12_chipIs 88 rfl) (q := 157) rfl rfl (Nat.le_of_ble_eq_true rfl) (fun M5 => ?_)
  refine x_aload_n (i := 0) rfl hC (zdk dk_X12_chipIs 89 rfl) (q := 158) rfl ?_
  refine x_iconst (i := 3) c_iconst_3 hC (zdk dk_X12_chipIs 90 rfl) (q := 159) rfl ?_
  refine x_iload (i := 6) rfl hC (zdk dk_X12_chipIs 91 rfl) (q := 161) rfl ?_
  refine x_callVv (as := [.int 3, .int z2.1]) cb_RX12_379 rfl (by decide) hk0 h_r0 (fun x hx => t_X12_tellsAt h_r0 x hx) hC (zdk dk_X12_chipIs 92 rfl) (q := 164) rfl rfl (Nat.le_of_ble_eq_true rfl) (fun M6 => ?_)
  exact x_vret hE hC (zdk dk_X12_chipIs 93 rfl)
set_option maxRecDepth 100000 in
def f_X12_chipIs_61  (r0 : Nat) (x1 : Int32) (x3 : Int32) (M : Mem) : Option Mem := Option.bind (f_X12_mustWord r0 469853168755 M) fun M7 => Option.bind (f_X12_lex r0 M7) fun M8 => Option.bind (f_X12_number r0 1 5 M8) fun z9 => (if zI z9.2 r0 8 ≤ 0 then Option.bind (f_X12_rootsFor r0 x1 z9.1 z9.2) fun z10 => Option.bind (some ((((1 : Int32) <<< (x1 &&& 31)) - 1) - z10.1)) fun (v11 : Int32) => (if 1 ≤ v11 then f_X12_chipIs_120 r0 x1 x3 z9.1 v11 z10.2 else Option.bind (f_X12_blame r0 4 (zI M8 r0 4) z10.2) fun M12 => f_X12_chipIs_120 r0 x1 x3 z9.1 v11 M12) else some z9.2)
set_option maxRecDepth 100000 in
set_option maxHeartbeats 4000000 in
theorem x_X12_chipIs_61 {κ : KX} {n : Nat} (hC : CX κ cX12_chipIs RX12 7 none 3) (hE : zEnd κ n (0, 0)) (hk0 : zRk κ (0, 0)) {r0 : Nat} (h_r0 : zO n r0 12) (x1 : Int32) (x3 : Int32) (M : Mem) : X κ 7 emV n (0, 0) 61 [.ref r0, .int x1, .null, .int x3, .null, .null, .null] [] M (f_X12_chipIs_61 r0 x1 x3 M) := by
  unfold f_X12_chipIs_61
  refine x_aload_n (i := 0) rfl hC (zdk dk_X12_chipIs 32 rfl) (q := 62) rfl ?_
  refine x_ldc2 k_RX12_275 hC (zdk dk_X12_chipIs 33 rfl) (q := 65) rfl ?_
  refine x_callVv (as := [.long 469853168755]) cb_RX12_364 rfl (by decide) hk0 h_r0 (fun x hx => t_X12_mustWord h_r0 x hx) hC (zdk dk_X12_chipIs 34 rfl) (q := 68) rfl rfl (Nat.le_of_ble_eq_true rfl) (fun M7 => ?_)
  refine x_aload_n (i := 0) rfl hC (zdk dk_X12_chipIs 35 rfl) (q := 69) rfl ?_
  refine x_callVv (as := []) cb_RX12_262 rfl (by decide) hk0 h_r0 (fun x hx => t_X12_lex h_r0 x hx) hC (zdk dk_X12_chipIs 36 rfl) (q := 72) rfl rfl (Nat.le_of_ble_eq_true rfl) (fun M8 => ?_)
  refine x_aload_n (i := 0) rfl hC (zdk dk_X12_chipIs 37 rfl) (q := 73) rfl ?_
  refine x_getI fl_RX12_23 (by decide) h_r0 hC (zdk dk_X12_chipIs 38 rfl) (q := 76) rfl ?_
  refine x_istore_n (i := 2) (L' := [.ref r0, .int x1, .int (zI M8 r0 4), .int x3, .null, .null, .null]) (by decide) rfl hC (zdk dk_X12_chipIs 39 rfl) (q := 77) rfl ?_
  refine x_aload_n (i := 0) rfl hC (zdk dk_X12_chipIs 40 rfl) (q := 78) rfl ?_
  refine x_iconst (i := 1) c_iconst_1 hC (zdk dk_X12_chipIs 41 rfl) (q := 79) rfl ?_
  refine x_iconst (i := 5) c_iconst_5 hC (zdk dk_X12_chipIs 42 rfl) (q := 80) rfl ?_
  refine x_callVi (as := [.int 1, .int 5]) cb_RX12_368 rfl (by decide) hk0 h_r0 (fun x hx => t_X12_number h_r0 x hx) hC (zdk dk_X12_chipIs 43 rfl) (q := 83) rfl rfl (Nat.le_of_ble_eq_true rfl) (fun z9 => ?_)
  refine x_istore (i := 4) (L' := [.ref r0, .int x1, .int (zI M8 r0 4), .int x3, .int z9.1, .null, .null]) (by decide) rfl hC (zdk dk_X12_chipIs 44 rfl) (q := 85) rfl ?_
  refine x_aload_n (i := 0) rfl hC (zdk dk_X12_chipIs 45 rfl) (q := 86) rfl ?_
  refine x_getI fl_RX12_36 (by decide) h_r0 hC (zdk dk_X12_chipIs 46 rfl) (q := 89) rfl ?_
  refine x_if_le (tgt := 93) hC (zdk dk_X12_chipIs 47 rfl) (q := 92) rfl rfl (fun _ => ?_) (fun _ => ?_)
  · refine x_iconst (i := 1) c_iconst_1 hC (zdk dk_X12_chipIs 49 rfl) (q := 94) rfl ?_
    refine x_iload_n (i := 1) rfl hC (zdk dk_X12_chipIs 50 rfl) (q := 95) rfl ?_
    refine x_ishl hC (zdk dk_X12_chipIs 51 rfl) (q := 96) rfl ?_
    refine x_iconst (i := 1) c_iconst_1 hC (zdk dk_X12_chipIs 52 rfl) (q := 97) rfl ?_
    refine x_isub hC (zdk dk_X12_chipIs 53 rfl) (q := 98) rfl ?_
    refine x_aload_n (i := 0) rfl hC (zdk dk_X12_chipIs 54 rfl) (q := 99) rfl ?_
    refine x_iload_n (i := 1) rfl hC (zdk dk_X12_chipIs 55 rfl) (q := 100) rfl ?_
    refine x_iload (i := 4) rfl hC (zdk dk_X12_chipIs 56 rfl) (q := 102) rfl ?_
    refine x_callVi (as := [.int x1, .int z9.1]) cb_RX12_376 rfl (by decide) hk0 h_r0 (fun x hx => t_X12_rootsFor h_r0 x hx) hC (zdk dk_X12_chipIs 57 rfl) (q := 105) rfl rfl (Nat.le_of_ble_eq_true rfl) (fun z10 => ?_)
    refine x_isub hC (zdk dk_X12_chipIs 58 rfl) (q := 106) rfl ?_
    refine x_istore (i := 5) (L' := [.ref r0, .int x1, .int (zI M8 r0 4), .int x3, .int z9.1, .int ((((1 : Int32) <<< (x1 &&& 31)) - 1) - z10.1), .null]) (by decide) rfl hC (zdk dk_X12_chipIs 59 rfl) (q := 108) rfl ?_
    refine x_nmI (fun v11 => [.ref r0, .int x1, .int (zI M8 r0 4), .int x3, .int z9.1, .int v11, .null]) rfl (fun v11 => ?_)
    refine x_iload (i := 5) rfl hC (zdk dk_X12_chipIs 60 rfl) (q := 110) rfl ?_
    refine x_iconst (i := 1) c_iconst_1 hC (zdk dk_X12_chipIs 61 rfl) (q := 111) rfl ?_
    refine x_icmp_ge (tgt := 120) hC (zdk dk_X12_chipIs 62 rfl) (q := 114) rfl rfl (fun _ => ?_) (fun _ => ?_)
    · refine x_weak (L' := [.ref r0, .int x1, .null, .int x3, .int z9.1, .int v11, .null]) ⟨Or.inr rfl, Or.inr rfl, Or.inl rfl, Or.inr rfl, Or.inr rfl, Or.inr rfl, Or.inl rfl, trivial⟩ ?_
      exact x_X12_chipIs_120 hC hE hk0 h_r0 _ _ _ _ _
    · refine x_aload_n (i := 0) rfl hC (zdk dk_X12_chipIs 63 rfl) (q := 115) rfl ?_
      refine x_iconst (i := 4) c_iconst_4 hC (zdk dk_X12_chipIs 64 rfl) (q := 116) rfl ?_
      refine x_iload_n (i := 2) rfl hC (zdk dk_X12_chipIs 65 rfl) (q := 117) rfl ?_
      refine x_callVv (as := [.int 4, .int (zI M8 r0 4)]) cb_RX12_251 rfl (by decide) hk0 h_r0 (fun x hx => t_X12_blame h_r0 x hx) hC (zdk dk_X12_chipIs 66 rfl) (q := 120) rfl rfl (Nat.le_of_ble_eq_true rfl) (fun M12 => ?_)
      refine x_weak (L' := [.ref r0, .int x1, .null, .int x3, .int z9.1, .int v11, .null]) ⟨Or.inr rfl, Or.inr rfl, Or.inl rfl, Or.inr rfl, Or.inr rfl, Or.inr rfl, Or.inl rfl, trivial⟩ ?_
      exact x_X12_chipIs_120 hC hE hk0 h_r0 _ _ _ _ _
  · exact x_vret hE hC (zdk dk_X12_chipIs 48 rfl)
set_option maxRecDepth 100000 in
def f_X12_chipIs (r0 : Nat) (M : Mem) : Option Mem := Option.bind (f_X12_mustWord r0 439854918756 M) fun M13 => Option.bind (f_X12_number r0 3 6 M13) fun z14 => Option.bind (f_X12_mustWord r0 1886350457 z14.2) fun M15 => Option.bind (f_X12_lex r0 M15) fun M16 => Option.bind (f_X12_number r0 0 9999 M16) fun z17 => (if zI z17.2 r0 8 = 0 then Option.bind (f_X12_isPrimitive z14.1 z17.1 z17.2) fun z18 => (if z18.1 = 0 then Option.bind (f_X12_blame r0 4 (zI M16 r0 4) z18.2) fun M19 => f_X12_chipIs_61 r0 z14.1 z17.1 M19 else f_X12_chipIs_61 r0 z14.1 z17.1 z18.2) else f_X12_chipIs_61 r0 z14.1 z17.1 z17.2)
set_option maxRecDepth 100000 in
set_option maxHeartbeats 4000000 in
theorem x_X12_chipIs {κ : KX} {n : Nat} (hC : CX κ cX12_chipIs RX12 7 none 3) (hE : zEnd κ n (0, 0)) (hk0 : zRk κ (0, 0)) (r0 : Nat) (M : Mem) (h_r0 : zO n r0 12) : X κ 7 emV n (0, 0) 0 [.ref r0, .null, .null, .null, .null, .null, .null] [] M (f_X12_chipIs r0 M) := by
  unfold f_X12_chipIs
  refine x_aload_n (i := 0) rfl hC (zdk dk_X12_chipIs 0 rfl) (q := 1) rfl ?_
  refine x_ldc2 k_RX12_271 hC (zdk dk_X12_chipIs 1 rfl) (q := 4) rfl ?_
  refine x_callVv (as := [.long 439854918756]) cb_RX12_364 rfl (by decide) hk0 h_r0 (fun x hx => t_X12_mustWord h_r0 x hx) hC (zdk dk_X12_chipIs 2 rfl) (q := 7) rfl rfl (Nat.le_of_ble_eq_true rfl) (fun M13 => ?_)
  refine x_aload_n (i := 0) rfl hC (zdk dk_X12_chipIs 3 rfl) (q := 8) rfl ?_
  refine x_iconst (i := 3) c_iconst_3 hC (zdk dk_X12_chipIs 4 rfl) (q := 9) rfl ?_
  refine x_bipush (i := 6) c_bipush_6 hC (zdk dk_X12_chipIs 5 rfl) (q := 11) rfl ?_
  refine x_callVi (as := [.int 3, .int 6]) cb_RX12_368 rfl (by decide) hk0 h_r0 (fun x hx => t_X12_number h_r0 x hx) hC (zdk dk_X12_chipIs 6 rfl) (q := 14) rfl rfl (Nat.le_of_ble_eq_true rfl) (fun z14 => ?_)
  refine x_istore_n (i := 1) (L' := [.ref r0, .int z14.1, .null, .null, .null, .null, .null]) (by decide) rfl hC (zdk dk_X12_chipIs 7 rfl) (q := 15) rfl ?_
  refine x_aload_n (i := 0) rfl hC (zdk dk_X12_chipIs 8 rfl) (q := 16) rfl ?_
  refine x_ldc2 k_RX12_273 hC (zdk dk_X12_chipIs 9 rfl) (q := 19) rfl ?_
  refine x_callVv (as := [.long 1886350457]) cb_RX12_364 rfl (by decide) hk0 h_r0 (fun x hx => t_X12_mustWord h_r0 x hx) hC (zdk dk_X12_chipIs 10 rfl) (q := 22) rfl rfl (Nat.le_of_ble_eq_true rfl) (fun M15 => ?_)
  refine x_aload_n (i := 0) rfl hC (zdk dk_X12_chipIs 11 rfl) (q := 23) rfl ?_
  refine x_callVv (as := []) cb_RX12_262 rfl (by decide) hk0 h_r0 (fun x hx => t_X12_lex h_r0 x hx) hC (zdk dk_X12_chipIs 12 rfl) (q := 26) rfl rfl (Nat.le_of_ble_eq_true rfl) (fun M16 => ?_)
  refine x_aload_n (i := 0) rfl hC (zdk dk_X12_chipIs 13 rfl) (q := 27) rfl ?_
  refine x_getI fl_RX12_23 (by decide) h_r0 hC (zdk dk_X12_chipIs 14 rfl) (q := 30) rfl ?_
  refine x_istore_n (i := 2) (L' := [.ref r0, .int z14.1, .int (zI M16 r0 4), .null, .null, .null, .null]) (by decide) rfl hC (zdk dk_X12_chipIs 15 rfl) (q := 31) rfl ?_
  refine x_aload_n (i := 0) rfl hC (zdk dk_X12_chipIs 16 rfl) (q := 32) rfl ?_
  refine x_iconst (i := 0) c_iconst_0 hC (zdk dk_X12_chipIs 17 rfl) (q := 33) rfl ?_
  refine x_sipush (i := 9999) c_sipush_9999 hC (zdk dk_X12_chipIs 18 rfl) (q := 36) rfl ?_
  refine x_callVi (as := [.int 0, .int 9999]) cb_RX12_368 rfl (by decide) hk0 h_r0 (fun x hx => t_X12_number h_r0 x hx) hC (zdk dk_X12_chipIs 19 rfl) (q := 39) rfl rfl (Nat.le_of_ble_eq_true rfl) (fun z17 => ?_)
  refine x_istore_n (i := 3) (L' := [.ref r0, .int z14.1, .int (zI M16 r0 4), .int z17.1, .null, .null, .null]) (by decide) rfl hC (zdk dk_X12_chipIs 20 rfl) (q := 40) rfl ?_
  refine x_aload_n (i := 0) rfl hC (zdk dk_X12_chipIs 21 rfl) (q := 41) rfl ?_
  refine x_getI fl_RX12_36 (by decide) h_r0 hC (zdk dk_X12_chipIs 22 rfl) (q := 44) rfl ?_
  refine x_if_ne (tgt := 61) hC (zdk dk_X12_chipIs 23 rfl) (q := 47) rfl rfl (fun _ => ?_) (fun _ => ?_)
  · refine x_weak (L' := [.ref r0, .int z14.1, .null, .int z17.1, .null, .null, .null]) ⟨Or.inr rfl, Or.inr rfl, Or.inl rfl, Or.inr rfl, Or.inl rfl, Or.inl rfl, Or.inl rfl, trivial⟩ ?_
    exact x_X12_chipIs_61 hC hE hk0 h_r0 _ _ _
  · refine x_iload_n (i := 1) rfl hC (zdk dk_X12_chipIs 24 rfl) (q := 48) rfl ?_
    refine x_iload_n (i := 3) rfl hC (zdk dk_X12_chipIs 25 rfl) (q := 49) rfl ?_
    refine x_callSi (as := [.int z14.1, .int z17.1]) cb_RX12_372 rfl (by decide) hk0 (fun x hx => t_X12_isPrimitive  x hx) hC (zdk dk_X12_chipIs 26 rfl) (q := 52) rfl rfl (Nat.le_of_ble_eq_true rfl) (fun z18 => ?_)
    refine x_if_ne (tgt := 61) hC (zdk dk_X12_chipIs 27 rfl) (q := 55) rfl rfl (fun _ => ?_) (fun _ => ?_)
    · refine x_weak (L' := [.ref r0, .int z14.1, .null, .int z17.1, .null, .null, .null]) ⟨Or.inr rfl, Or.inr rfl, Or.inl rfl, Or.inr rfl, Or.inl rfl, Or.inl rfl, Or.inl rfl, trivial⟩ ?_
      exact x_X12_chipIs_61 hC hE hk0 h_r0 _ _ _
    · refine x_aload_n (i := 0) rfl hC (zdk dk_X12_chipIs 28 rfl) (q := 56) rfl ?_
      refine x_iconst (i := 4) c_iconst_4 hC (zdk dk_X12_chipIs 29 rfl) (q := 57) rfl ?_
      refine x_iload_n (i := 2) rfl hC (zdk dk_X12_chipIs 30 rfl) (q := 58) rfl ?_
      refine x_callVv (as := [.int 4, .int (zI M16 r0 4)]) cb_RX12_251 rfl (by decide) hk0 h_r0 (fun x hx => t_X12_blame h_r0 x hx) hC (zdk dk_X12_chipIs 31 rfl) (q := 61) rfl rfl (Nat.le_of_ble_eq_true rfl) (fun M19 => ?_)
      refine x_weak (L' := [.ref r0, .int z14.1, .null, .int z17.1, .null, .null, .null]) ⟨Or.inr rfl, Or.inr rfl, Or.inl rfl, Or.inr rfl, Or.inl rfl, Or.inl rfl, Or.inl rfl, trivial⟩ ?_
      exact x_X12_chipIs_61 hC hE hk0 h_r0 _ _ _
set_option maxRecDepth 100000 in
set_option maxHeartbeats 4000000 in
theorem t_X12_chipIs {n : Nat} {r0 : Nat} {M : Mem} (h_r0 : zO n r0 12) (x : Mem) (hx : f_X12_chipIs r0 M = some x) (l : Launch) (dC : Nat → ClassId) (dI : Nat → Nat → Nat) (b : zSg) : MT l dC dI b yX12_chipIs cX12_chipIs 7 none 3 0 0 n n [.ref r0] M (emV x).1 (emV x).2 :=
  MT.ofX (by decide +kernel) rfl (Nat.le_of_ble_eq_true rfl) (fun κ hC hF _ => x_X12_chipIs hC (zEnd_of hF (Nat.le_refl _) (Nat.le_refl _)) (zRk_of hF (Nat.le_refl _) (Nat.le_refl _)) _ _ h_r0) x hx
