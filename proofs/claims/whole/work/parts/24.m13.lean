set_option maxRecDepth 100000 in
def dt_X12_copies : List (Nat × Instr × Nat) := [(0, .aload_n 0, 1), (1, .getfield 180, 3), (4, .iload_n 1, 1), (5, .aload_n 0, 1), (6, .getfield 180, 3), (9, .iload_n 2, 1), (10, .iaload, 1), (11, .iastore, 1), (12, .iconst 0, 1), (13, .istore_n 3, 1), (14, .iload_n 3, 1), (15, .bipush 6, 2), (17, .if_icmp .ge 125, 3), (20, .aload_n 0, 1), (21, .getfield 183, 3), (24, .bipush 6, 2), (26, .iload_n 1, 1), (27, .imul, 1), (28, .iload_n 3, 1), (29, .iadd, 1), (30, .aload_n 0, 1), (31, .getfield 183, 3), (34, .bipush 6, 2), (36, .iload_n 2, 1), (37, .imul, 1), (38, .iload_n 3, 1), (39, .iadd, 1), (40, .iaload, 1), (41, .iastore, 1), (42, .aload_n 0, 1), (43, .getfield 186, 3), (46, .bipush 6, 2), (48, .iload_n 1, 1), (49, .imul, 1), (50, .iload_n 3, 1), (51, .iadd, 1), (52, .aload_n 0, 1), (53, .getfield 186, 3), (56, .bipush 6, 2), (58, .iload_n 2, 1), (59, .imul, 1), (60, .iload_n 3, 1), (61, .iadd, 1), (62, .iaload, 1), (63, .iastore, 1), (64, .aload_n 0, 1), (65, .getfield 189, 3), (68, .bipush 6, 2), (70, .iload_n 1, 1), (71, .imul, 1), (72, .iload_n 3, 1), (73, .iadd, 1), (74, .aload_n 0, 1), (75, .getfield 189, 3), (78, .bipush 6, 2), (80, .iload_n 2, 1), (81, .imul, 1), (82, .iload_n 3, 1), (83, .iadd, 1), (84, .laload, 1), (85, .lastore, 1), (86, .iconst 0, 1), (87, .istore 4, 2), (89, .iload 4, 2), (91, .bipush 64, 2), (93, .if_icmp .ge 43, 3), (96, .aload_n 0, 1), (97, .getfield 192, 3), (100, .bipush 64, 2), (102, .bipush 6, 2), (104, .iload_n 1, 1), (105, .imul, 1), (106, .iload_n 3, 1), (107, .iadd, 1), (108, .imul, 1), (109, .iload 4, 2), (111, .iadd, 1), (112, .aload_n 0, 1), (113, .getfield 192, 3), (116, .bipush 64, 2), (118, .bipush 6, 2), (120, .iload_n 2, 1), (121, .imul, 1), (122, .iload_n 3, 1), (123, .iadd, 1), (124, .imul, 1), (125, .iload 4, 2), (127, .iadd, 1), (128, .iaload, 1), (129, .iastore, 1), (130, .iinc 4 1, 3), (133, .goto (-44), 3), (136, .iinc 3 1, 3), (139, .goto (-125), 3), (142, .aload_n 0, 1), (143, .getfield 195, 3), (146, .iload_n 1, 1), (147, .aload_n 0, 1), (148, .getfield 195, 3), (151, .iload_n 2, 1), (152, .iaload, 1), (153, .iastore, 1), (154, .iconst 0, 1), (155, .istore_n 3, 1), (156, .iload_n 3, 1), (157, .iconst 3, 1), (158, .aload_n 0, 1), (159, .getfield 195, 3), (162, .iload_n 2, 1), (163, .iaload, 1), (164, .imul, 1), (165, .if_icmp .ge 31, 3), (168, .aload_n 0, 1), (169, .getfield 198, 3), (172, .bipush 120, 2), (174, .iload_n 1, 1), (175, .imul, 1), (176, .iload_n 3, 1), (177, .iadd, 1), (178, .aload_n 0, 1), (179, .getfield 198, 3), (182, .bipush 120, 2), (184, .iload_n 2, 1), (185, .imul, 1), (186, .iload_n 3, 1), (187, .iadd, 1), (188, .iaload, 1), (189, .iastore, 1), (190, .iinc 3 1, 3), (193, .goto (-37), 3), (196, .return_, 1)]
set_option maxRecDepth 100000 in
theorem dk_X12_copies : dt_X12_copies.all (fun q => decide (decode cX12_copies q.1 = .ok q.2)) = true := by decide +kernel
set_option maxRecDepth 100000 in
def f_X12_copies_89 (k14 : Int32 → Mem → Option Mem) (r0 : Nat) (x1 : Int32) (x2 : Int32) : Nat → Int32 → Int32 → Mem → Option Mem
  | 0, _, _, _ => none
  | f + 1, x3, x4, M => (if 64 ≤ x4 then k14 (x3 + 1) M else Option.bind (zrf M r0 59) fun q1 => Option.bind (zrf M r0 59) fun q2 => Option.bind (zld q2 ((64 * ((6 * x2) + x3)) + x4)) fun k3 => Option.bind (zld q1 ((64 * ((6 * x1) + x3)) + x4)) fun k4 => Option.bind (some (zsI M q1 k4 (zI M q2 k3))) fun M5 => (f_X12_copies_89 k14 r0 x1 x2 f) x3 (x4 + 1) M5)
set_option maxRecDepth 100000 in
set_option maxHeartbeats 4000000 in
theorem x_X12_copies_89 {κ : KX} {n : Nat} (hC : CX κ cX12_copies RX12 5 none 0) (hE : zEnd κ n (0, 0)) (hk0 : zRk κ (0, 0)) {r0 : Nat} {x1 : Int32} {x2 : Int32} (h_r0 : zO n r0 12) (k14 : Int32 → Mem → Option Mem) (hk14 : ∀ (x3 : Int32) (M : Mem), X κ 5 emV n (0, 0) 14 [.ref r0, .int x1, .int x2, .int x3, .null] [] M (k14 x3 M)) : ∀ (f : Nat) (x3 : Int32) (x4 : Int32) (M : Mem), X κ 5 emV n (0, 0) 89 [.ref r0, .int x1, .int x2, .int x3, .int x4] [] M (f_X12_copies_89 k14 r0 x1 x2 f x3 x4 M) := by
  intro f
  induction f with
  | zero => intros; exact x_none
  | succ f ih =>
    intro x3 x4 M 
    rw [f_X12_copies_89]
    refine x_iload (i := 4) rfl hC (zdk dk_X12_copies 63 rfl) (q := 91) rfl ?_
    refine x_bipush (i := 64) c_bipush_64 hC (zdk dk_X12_copies 64 rfl) (q := 93) rfl ?_
    refine x_icmp_ge (tgt := 136) hC (zdk dk_X12_copies 65 rfl) (q := 96) rfl rfl (fun _ => ?_) (fun _ => ?_)
    · refine x_iinc (i := 3) c_iconst_1 rfl (by decide) (L' := [.ref r0, .int x1, .int x2, .int (x3 + 1), .int x4]) rfl hC (zdk dk_X12_copies 92 rfl) (q := 139) rfl ?_
      refine x_goto (tgt := 14) hC (zdk dk_X12_copies 93 rfl) rfl ?_
      refine x_weak (L' := [.ref r0, .int x1, .int x2, .int (x3 + 1), .null]) ⟨Or.inr rfl, Or.inr rfl, Or.inr rfl, Or.inr rfl, Or.inl rfl, trivial⟩ ?_
      exact hk14 _ _
    · refine x_aload_n (i := 0) rfl hC (zdk dk_X12_copies 66 rfl) (q := 97) rfl ?_
      refine x_getR (k := 20) fl_RX12_192 rfl h_r0 hC (zdk dk_X12_copies 67 rfl) (q := 100) rfl (fun q1 hq1 => ?_)
      refine x_bipush (i := 64) c_bipush_64 hC (zdk dk_X12_copies 68 rfl) (q := 102) rfl ?_
      refine x_bipush (i := 6) c_bipush_6 hC (zdk dk_X12_copies 69 rfl) (q := 104) rfl ?_
      refine x_iload_n (i := 1) rfl hC (zdk dk_X12_copies 70 rfl) (q := 105) rfl ?_
      refine x_imul hC (zdk dk_X12_copies 71 rfl) (q := 106) rfl ?_
      refine x_iload_n (i := 3) rfl hC (zdk dk_X12_copies 72 rfl) (q := 107) rfl ?_
      refine x_iadd hC (zdk dk_X12_copies 73 rfl) (q := 108) rfl ?_
      refine x_imul hC (zdk dk_X12_copies 74 rfl) (q := 109) rfl ?_
      refine x_iload (i := 4) rfl hC (zdk dk_X12_copies 75 rfl) (q := 111) rfl ?_
      refine x_iadd hC (zdk dk_X12_copies 76 rfl) (q := 112) rfl ?_
      refine x_aload_n (i := 0) rfl hC (zdk dk_X12_copies 77 rfl) (q := 113) rfl ?_
      refine x_getR (k := 20) fl_RX12_192 rfl h_r0 hC (zdk dk_X12_copies 78 rfl) (q := 116) rfl (fun q2 hq2 => ?_)
      refine x_bipush (i := 64) c_bipush_64 hC (zdk dk_X12_copies 79 rfl) (q := 118) rfl ?_
      refine x_bipush (i := 6) c_bipush_6 hC (zdk dk_X12_copies 80 rfl) (q := 120) rfl ?_
      refine x_iload_n (i := 2) rfl hC (zdk dk_X12_copies 81 rfl) (q := 121) rfl ?_
      refine x_imul hC (zdk dk_X12_copies 82 rfl) (q := 122) rfl ?_
      refine x_iload_n (i := 3) rfl hC (zdk dk_X12_copies 83 rfl) (q := 123) rfl ?_
      refine x_iadd hC (zdk dk_X12_copies 84 rfl) (q := 124) rfl ?_
      refine x_imul hC (zdk dk_X12_copies 85 rfl) (q := 125) rfl ?_
      refine x_iload (i := 4) rfl hC (zdk dk_X12_copies 86 rfl) (q := 127) rfl ?_
      refine x_iadd hC (zdk dk_X12_copies 87 rfl) (q := 128) rfl ?_
      refine x_iald hq2 hC (zdk dk_X12_copies 88 rfl) (q := 129) rfl (fun k3 _ => ?_)
      refine x_iast hq1 hC (zdk dk_X12_copies 89 rfl) (q := 130) rfl (fun k4 _ => ?_)
      refine x_nmM (fun M5 => ?_)
      refine x_iinc (i := 4) c_iconst_1 rfl (by decide) (L' := [.ref r0, .int x1, .int x2, .int x3, .int (x4 + 1)]) rfl hC (zdk dk_X12_copies 90 rfl) (q := 133) rfl ?_
      refine x_goto (tgt := 89) hC (zdk dk_X12_copies 91 rfl) rfl ?_
      refine x_weak (L' := [.ref r0, .int x1, .int x2, .int x3, .int (x4 + 1)]) ⟨Or.inr rfl, Or.inr rfl, Or.inr rfl, Or.inr rfl, Or.inr rfl, trivial⟩ ?_
      exact ih _ _ _
set_option maxRecDepth 100000 in
def f_X12_copies_156  (r0 : Nat) (x1 : Int32) (x2 : Int32) : Nat → Int32 → Mem → Option Mem
  | 0, _, _ => none
  | f + 1, x3, M => Option.bind (zrf M r0 60) fun q6 => Option.bind (zld q6 x2) fun k7 => (if 3 * (zI M q6 k7) ≤ x3 then some M else Option.bind (zrf M r0 61) fun q8 => Option.bind (zrf M r0 61) fun q9 => Option.bind (zld q9 ((120 * x2) + x3)) fun k10 => Option.bind (zld q8 ((120 * x1) + x3)) fun k11 => Option.bind (some (zsI M q8 k11 (zI M q9 k10))) fun M12 => (f_X12_copies_156 r0 x1 x2 f) (x3 + 1) M12)
set_option maxRecDepth 100000 in
set_option maxHeartbeats 4000000 in
theorem x_X12_copies_156 {κ : KX} {n : Nat} (hC : CX κ cX12_copies RX12 5 none 0) (hE : zEnd κ n (0, 0)) (hk0 : zRk κ (0, 0)) {r0 : Nat} {x1 : Int32} {x2 : Int32} (h_r0 : zO n r0 12) : ∀ (f : Nat) (x3 : Int32) (M : Mem), X κ 5 emV n (0, 0) 156 [.ref r0, .int x1, .int x2, .int x3, .null] [] M (f_X12_copies_156 r0 x1 x2 f x3 M) := by
  intro f
  induction f with
  | zero => intros; exact x_none
  | succ f ih =>
    intro x3 M 
    rw [f_X12_copies_156]
    refine x_iload_n (i := 3) rfl hC (zdk dk_X12_copies 104 rfl) (q := 157) rfl ?_
    refine x_iconst (i := 3) c_iconst_3 hC (zdk dk_X12_copies 105 rfl) (q := 158) rfl ?_
    refine x_aload_n (i := 0) rfl hC (zdk dk_X12_copies 106 rfl) (q := 159) rfl ?_
    refine x_getR (k := 20) fl_RX12_195 rfl h_r0 hC (zdk dk_X12_copies 107 rfl) (q := 162) rfl (fun q6 hq6 => ?_)
    refine x_iload_n (i := 2) rfl hC (zdk dk_X12_copies 108 rfl) (q := 163) rfl ?_
    refine x_iald hq6 hC (zdk dk_X12_copies 109 rfl) (q := 164) rfl (fun k7 _ => ?_)
    refine x_imul hC (zdk dk_X12_copies 110 rfl) (q := 165) rfl ?_
    refine x_icmp_ge (tgt := 196) hC (zdk dk_X12_copies 111 rfl) (q := 168) rfl rfl (fun _ => ?_) (fun _ => ?_)
    · exact x_vret hE hC (zdk dk_X12_copies 130 rfl)
    · refine x_aload_n (i := 0) rfl hC (zdk dk_X12_copies 112 rfl) (q := 169) rfl ?_
      refine x_getR (k := 20) fl_RX12_198 rfl h_r0 hC (zdk dk_X12_copies 113 rfl) (q := 172) rfl (fun q8 hq8 => ?_)
      refine x_bipush (i := 120) c_bipush_120 hC (zdk dk_X12_copies 114 rfl) (q := 174) rfl ?_
      refine x_iload_n (i := 1) rfl hC (zdk dk_X12_copies 115 rfl) (q := 175) rfl ?_
      refine x_imul hC (zdk dk_X12_copies 116 rfl) (q := 176) rfl ?_
      refine x_iload_n (i := 3) rfl hC (zdk dk_X12_copies 117 rfl) (q := 177) rfl ?_
      refine x_iadd hC (zdk dk_X12_copies 118 rfl) (q := 178) rfl ?_
      refine x_aload_n (i := 0) rfl hC (zdk dk_X12_copies 119 rfl) (q := 179) rfl ?_
      refine x_getR (k := 20) fl_RX12_198 rfl h_r0 hC (zdk dk_X12_copies 120 rfl) (q := 182) rfl (fun q9 hq9 => ?_)
      refine x_bipush (i := 120) c_bipush_120 hC (zdk dk_X12_copies 121 rfl) (q := 184) rfl ?_
      refine x_iload_n (i := 2) rfl hC (zdk dk_X12_copies 122 rfl) (q := 185) rfl ?_
      refine x_imul hC (zdk dk_X12_copies 123 rfl) (q := 186) rfl ?_
      refine x_iload_n (i := 3) rfl hC (zdk dk_X12_copies 124 rfl) (q := 187) rfl ?_
      refine x_iadd hC (zdk dk_X12_copies 125 rfl) (q := 188) rfl ?_
      refine x_iald hq9 hC (zdk dk_X12_copies 126 rfl) (q := 189) rfl (fun k10 _ => ?_)
      refine x_iast hq8 hC (zdk dk_X12_copies 127 rfl) (q := 190) rfl (fun k11 _ => ?_)
      refine x_nmM (fun M12 => ?_)
      refine x_iinc (i := 3) c_iconst_1 rfl (by decide) (L' := [.ref r0, .int x1, .int x2, .int (x3 + 1), .null]) rfl hC (zdk dk_X12_copies 128 rfl) (q := 193) rfl ?_
      refine x_goto (tgt := 156) hC (zdk dk_X12_copies 129 rfl) rfl ?_
      refine x_weak (L' := [.ref r0, .int x1, .int x2, .int (x3 + 1), .null]) ⟨Or.inr rfl, Or.inr rfl, Or.inr rfl, Or.inr rfl, Or.inl rfl, trivial⟩ ?_
      exact ih _ _
set_option maxRecDepth 100000 in
def f_X12_copies_14  (r0 : Nat) (x1 : Int32) (x2 : Int32) : Nat → Int32 → Mem → Option Mem
  | 0, _, _ => none
  | f + 1, x3, M => (if 6 ≤ x3 then Option.bind (zrf M r0 60) fun q13 => Option.bind (zrf M r0 60) fun q14 => Option.bind (zld q14 x2) fun k15 => Option.bind (zld q13 x1) fun k16 => Option.bind (some (zsI M q13 k16 (zI M q14 k15))) fun M17 => f_X12_copies_156 r0 x1 x2 1000000 0 M17 else Option.bind (zrf M r0 56) fun q18 => Option.bind (zrf M r0 56) fun q19 => Option.bind (zld q19 ((6 * x2) + x3)) fun k20 => Option.bind (zld q18 ((6 * x1) + x3)) fun k21 => Option.bind (some (zsI M q18 k21 (zI M q19 k20))) fun M22 => Option.bind (zrf M22 r0 57) fun q23 => Option.bind (zrf M22 r0 57) fun q24 => Option.bind (zld q24 ((6 * x2) + x3)) fun k25 => Option.bind (zld q23 ((6 * x1) + x3)) fun k26 => Option.bind (some (zsI M22 q23 k26 (zI M22 q24 k25))) fun M27 => Option.bind (zrf M27 r0 58) fun q28 => Option.bind (zrf M27 r0 58) fun q29 => Option.bind (zld q29 ((6 * x2) + x3)) fun k30 => Option.bind (zld q28 ((6 * x1) + x3)) fun k31 => Option.bind (some (zsL M27 q28 k31 (zL M27 q29 k30))) fun M32 => f_X12_copies_89 (f_X12_copies_14 r0 x1 x2 f) r0 x1 x2 1000000 x3 0 M32)
set_option maxRecDepth 100000 in
set_option maxHeartbeats 4000000 in
theorem x_X12_copies_14 {κ : KX} {n : Nat} (hC : CX κ cX12_copies RX12 5 none 0) (hE : zEnd κ n (0, 0)) (hk0 : zRk κ (0, 0)) {r0 : Nat} {x1 : Int32} {x2 : Int32} (h_r0 : zO n r0 12) : ∀ (f : Nat) (x3 : Int32) (M : Mem), X κ 5 emV n (0, 0) 14 [.ref r0, .int x1, .int x2, .int x3, .null] [] M (f_X12_copies_14 r0 x1 x2 f x3 M) := by
  intro f
  induction f with
  | zero => intros; exact x_none
  | succ f ih =>
    intro x3 M 
    rw [f_X12_copies_14]
    refine x_iload_n (i := 3) rfl hC (zdk dk_X12_copies 10 rfl) (q := 15) rfl ?_
    refine x_bipush (i := 6) c_bipush_6 hC (zdk dk_X12_copies 11 rfl) (q := 17) rfl ?_
    refine x_icmp_ge (tgt := 142) hC (zdk dk_X12_copies 12 rfl) (q := 20) rfl rfl (fun _ => ?_) (fun _ => ?_)
    · refine x_aload_n (i := 0) rfl hC (zdk dk_X12_copies 94 rfl) (q := 143) rfl ?_
      refine x_getR (k := 20) fl_RX12_195 rfl h_r0 hC (zdk dk_X12_copies 95 rfl) (q := 146) rfl (fun q13 hq13 => ?_)
      refine x_iload_n (i := 1) rfl hC (zdk dk_X12_copies 96 rfl) (q := 147) rfl ?_
      refine x_aload_n (i := 0) rfl hC (zdk dk_X12_copies 97 rfl) (q := 148) rfl ?_
      refine x_getR (k := 20) fl_RX12_195 rfl h_r0 hC (zdk dk_X12_copies 98 rfl) (q := 151) rfl (fun q14 hq14 => ?_)
      refine x_iload_n (i := 2) rfl hC (zdk dk_X12_copies 99 rfl) (q := 152) rfl ?_
      refine x_iald hq14 hC (zdk dk_X12_copies 100 rfl) (q := 153) rfl (fun k15 _ => ?_)
      refine x_iast hq13 hC (zdk dk_X12_copies 101 rfl) (q := 154) rfl (fun k16 _ => ?_)
      refine x_nmM (fun M17 => ?_)
      refine x_iconst (i := 0) c_iconst_0 hC (zdk dk_X12_copies 102 rfl) (q := 155) rfl ?_
      refine x_istore_n (i := 3) (L' := [.ref r0, .int x1, .int x2, .int 0, .null]) (by decide) rfl hC (zdk dk_X12_copies 103 rfl) (q := 156) rfl ?_
      refine x_weak (L' := [.ref r0, .int x1, .int x2, .int 0, .null]) ⟨Or.inr rfl, Or.inr rfl, Or.inr rfl, Or.inr rfl, Or.inl rfl, trivial⟩ ?_
      exact x_X12_copies_156 hC hE hk0 h_r0 _ _ _
    · refine x_aload_n (i := 0) rfl hC (zdk dk_X12_copies 13 rfl) (q := 21) rfl ?_
      refine x_getR (k := 20) fl_RX12_183 rfl h_r0 hC (zdk dk_X12_copies 14 rfl) (q := 24) rfl (fun q18 hq18 => ?_)
      refine x_bipush (i := 6) c_bipush_6 hC (zdk dk_X12_copies 15 rfl) (q := 26) rfl ?_
      refine x_iload_n (i := 1) rfl hC (zdk dk_X12_copies 16 rfl) (q := 27) rfl ?_
      refine x_imul hC (zdk dk_X12_copies 17 rfl) (q := 28) rfl ?_
      refine x_iload_n (i := 3) rfl hC (zdk dk_X12_copies 18 rfl) (q := 29) rfl ?_
      refine x_iadd hC (zdk dk_X12_copies 19 rfl) (q := 30) rfl ?_
      refine x_aload_n (i := 0) rfl hC (zdk dk_X12_copies 20 rfl) (q := 31) rfl ?_
      refine x_getR (k := 20) fl_RX12_183 rfl h_r0 hC (zdk dk_X12_copies 21 rfl) (q := 34) rfl (fun q19 hq19 => ?_)
      refine x_bipush (i := 6) c_bipush_6 hC (zdk dk_X12_copies 22 rfl) (q := 36) rfl ?_
      refine x_iload_n (i := 2) rfl hC (zdk dk_X12_copies 23 rfl) (q := 37) rfl ?_
      refine x_imul hC (zdk dk_X12_copies 24 rfl) (q := 38) rfl ?_
      refine x_iload_n (i := 3) rfl hC (zdk dk_X12_copies 25 rfl) (q := 39) rfl ?_
      refine x_iadd hC (zdk dk_X12_copies 26 rfl) (q := 40) rfl ?_
      refine x_iald hq19 hC (zdk dk_X12_copies 27 rfl) (q := 41) rfl (fun k20 _ => ?_)
      refine x_iast hq18 hC (zdk dk_X12_copies 28 rfl) (q := 42) rfl (fun k21 _ => ?_)
      refine x_nmM (fun M22 => ?_)
      refine x_aload_n (i := 0) rfl hC (zdk dk_X12_copies 29 rfl) (q := 43) rfl ?_
      refine x_getR (k := 20) fl_RX12_186 rfl h_r0 hC (zdk dk_X12_copies 30 rfl) (q := 46) rfl (fun q23 hq23 => ?_)
      refine x_bipush (i := 6) c_bipush_6 hC (zdk dk_X12_copies 31 rfl) (q := 48) rfl ?_
      refine x_iload_n (i := 1) rfl hC (zdk dk_X12_copies 32 rfl) (q := 49) rfl ?_
      refine x_imul hC (zdk dk_X12_copies 33 rfl) (q := 50) rfl ?_
      refine x_iload_n (i := 3) rfl hC (zdk dk_X12_copies 34 rfl) (q := 51) rfl ?_
      refine x_iadd hC (zdk dk_X12_copies 35 rfl) (q := 52) rfl ?_
      refine x_aload_n (i := 0) rfl hC (zdk dk_X12_copies 36 rfl) (q := 53) rfl ?_
      refine x_getR (k := 20) fl_RX12_186 rfl h_r0 hC (zdk dk_X12_copies 37 rfl) (q := 56) rfl (fun q24 hq24 => ?_)
      refine x_bipush (i := 6) c_bipush_6 hC (zdk dk_X12_copies 38 rfl) (q := 58) rfl ?_
      refine x_iload_n (i := 2) rfl hC (zdk dk_X12_copies 39 rfl) (q := 59) rfl ?_
      refine x_imul hC (zdk dk_X12_copies 40 rfl) (q := 60) rfl ?_
      refine x_iload_n (i := 3) rfl hC (zdk dk_X12_copies 41 rfl) (q := 61) rfl ?_
      refine x_iadd hC (zdk dk_X12_copies 42 rfl) (q := 62) rfl ?_
      refine x_iald hq24 hC (zdk dk_X12_copies 43 rfl) (q := 63) rfl (fun k25 _ => ?_)
      refine x_iast hq23 hC (zdk dk_X12_copies 44 rfl) (q := 64) rfl (fun k26 _ => ?_)
      refine x_nmM (fun M27 => ?_)
      refine x_aload_n (i := 0) rfl hC (zdk dk_X12_copies 45 rfl) (q := 65) rfl ?_
      refine x_getR (k := 21) fl_RX12_189 rfl h_r0 hC (zdk dk_X12_copies 46 rfl) (q := 68) rfl (fun q28 hq28 => ?_)
      refine x_bipush (i := 6) c_bipush_6 hC (zdk dk_X12_copies 47 rfl) (q := 70) rfl ?_
      refine x_iload_n (i := 1) rfl hC (zdk dk_X12_copies 48 rfl) (q := 71) rfl ?_
      refine x_imul hC (zdk dk_X12_copies 49 rfl) (q := 72) rfl ?_
      refine x_iload_n (i := 3) rfl hC (zdk dk_X12_copies 50 rfl) (q := 73) rfl ?_
      refine x_iadd hC (zdk dk_X12_copies 51 rfl) (q := 74) rfl ?_
      refine x_aload_n (i := 0) rfl hC (zdk dk_X12_copies 52 rfl) (q := 75) rfl ?_
      refine x_getR (k := 21) fl_RX12_189 rfl h_r0 hC (zdk dk_X12_copies 53 rfl) (q := 78) rfl (fun q29 hq29 => ?_)
      refine x_bipush (i := 6) c_bipush_6 hC (zdk dk_X12_copies 54 rfl) (q := 80) rfl ?_
      refine x_iload_n (i := 2) rfl hC (zdk dk_X12_copies 55 rfl) (q := 81) rfl ?_
      refine x_imul hC (zdk dk_X12_copies 56 rfl) (q := 82) rfl ?_
      refine x_iload_n (i := 3) rfl hC (zdk dk_X12_copies 57 rfl) (q := 83) rfl ?_
      refine x_iadd hC (zdk dk_X12_copies 58 rfl) (q := 84) rfl ?_
      refine x_lald hq29 hC (zdk dk_X12_copies 59 rfl) (q := 85) rfl (fun k30 _ => ?_)
      refine x_last hq28 hC (zdk dk_X12_copies 60 rfl) (q := 86) rfl (fun k31 _ => ?_)
      refine x_nmM (fun M32 => ?_)
      refine x_iconst (i := 0) c_iconst_0 hC (zdk dk_X12_copies 61 rfl) (q := 87) rfl ?_
      refine x_istore (i := 4) (L' := [.ref r0, .int x1, .int x2, .int x3, .int 0]) (by decide) rfl hC (zdk dk_X12_copies 62 rfl) (q := 89) rfl ?_
      refine x_weak (L' := [.ref r0, .int x1, .int x2, .int x3, .int 0]) ⟨Or.inr rfl, Or.inr rfl, Or.inr rfl, Or.inr rfl, Or.inr rfl, trivial⟩ ?_
      exact x_X12_copies_89 hC hE hk0 h_r0 (f_X12_copies_14 r0 x1 x2 f) ih _ _ _ _
set_option maxRecDepth 100000 in
def f_X12_copies (r0 : Nat) (x1 : Int32) (x2 : Int32) (M : Mem) : Option Mem := Option.bind (zrf M r0 55) fun q33 => Option.bind (zrf M r0 55) fun q34 => Option.bind (zld q34 x2) fun k35 => Option.bind (zld q33 x1) fun k36 => Option.bind (some (zsI M q33 k36 (zI M q34 k35))) fun M37 => f_X12_copies_14 r0 x1 x2 1000000 0 M37
set_option maxRecDepth 100000 in
set_option maxHeartbeats 4000000 in
theorem x_X12_copies {κ : KX} {n : Nat} (hC : CX κ cX12_copies RX12 5 none 0) (hE : zEnd κ n (0, 0)) (hk0 : zRk κ (0, 0)) (r0 : Nat) (x1 : Int32) (x2 : Int32) (M : Mem) (h_r0 : zO n r0 12) : X κ 5 emV n (0, 0) 0 [.ref r0, .int x1, .int x2, .null, .null] [] M (f_X12_copies r0 x1 x2 M) := by
  unfold f_X12_copies
  refine x_aload_n (i := 0) rfl hC (zdk dk_X12_copies 0 rfl) (q := 1) rfl ?_
  refine x_getR (k := 20) fl_RX12_180 rfl h_r0 hC (zdk dk_X12_copies 1 rfl) (q := 4) rfl (fun q33 hq33 => ?_)
  refine x_iload_n (i := 1) rfl hC (zdk dk_X12_copies 2 rfl) (q := 5) rfl ?_
  refine x_aload_n (i := 0) rfl hC (zdk dk_X12_copies 3 rfl) (q := 6) rfl ?_
  refine x_getR (k := 20) fl_RX12_180 rfl h_r0 hC (zdk dk_X12_copies 4 rfl) (q := 9) rfl (fun q34 hq34 => ?_)
  refine x_iload_n (i := 2) rfl hC (zdk dk_X12_copies 5 rfl) (q := 10) rfl ?_
  refine x_iald hq34 hC (zdk dk_X12_copies 6 rfl) (q := 11) rfl (fun k35 _ => ?_)
  refine x_iast hq33 hC (zdk dk_X12_copies 7 rfl) (q := 12) rfl (fun k36 _ => ?_)
  refine x_nmM (fun M37 => ?_)
  refine x_iconst (i := 0) c_iconst_0 hC (zdk dk_X12_copies 8 rfl) (q := 13) rfl ?_
  refine x_istore_n (i := 3) (L' := [.ref r0, .int x1, .int x2, .int 0, .null]) (by decide) rfl hC (zdk dk_X12_copies 9 rfl) (q := 14) rfl ?_
  refine x_weak (L' := [.ref r0, .int x1, .int x2, .int 0, .null]) ⟨Or.inr rfl, Or.inr rfl, Or.inr rfl, Or.inr rfl, Or.inl rfl, trivial⟩ ?_
  exact x_X12_copies_14 hC hE hk0 h_r0 _ _ _
set_option maxRecDepth 100000 in
set_option maxHeartbeats 4000000 in
theorem t_X12_copies {n : Nat} {r0 : Nat} {x1 : Int32} {x2 : Int32} {M : Mem} (h_r0 : zO n r0 12) (x : Mem) (hx : f_X12_copies r0 x1 x2 M = some x) (l : Launch) (dC : Nat → ClassId) (dI : Nat → Nat → Nat) (b : zSg) : MT l dC dI b yX12_copies cX12_copies 5 none 0 0 0 n n [.ref r0, .int x1, .int x2] M (emV x).1 (emV x).2 :=
  MT.ofX (by decide +kernel) rfl (Nat.le_of_ble_eq_true rfl) (fun κ hC hF _ => x_X12_copies hC (zEnd_of hF (Nat.le_refl _) (Nat.le_refl _)) (zRk_of hF (Nat.le_refl _) (Nat.le_refl _)) _ _ _ _ h_r0) x hx
set_option maxRecDepth 100000 in
def dt_X12_slot : List (Nat × Instr × Nat) := [(0, .iconst 2, 1), (1, .aload_n 0, 1), (2, .getfield 201, 3), (5, .iload_n 1, 1), (6, .iadd, 1), (7, .bipush 20, 2), (9, .irem, 1), (10, .iadd, 1), (11, .ireturn, 1)]
set_option maxRecDepth 100000 in
theorem dk_X12_slot : dt_X12_slot.all (fun q => decide (decode cX12_slot q.1 = .ok q.2)) = true := by decide +kernel
set_option maxRecDepth 100000 in
def f_X12_slot (r0 : Nat) (x1 : Int32) (M : Mem) : Option (Int32 × Mem) := some (2 + (zrem ((zI M r0 62) + x1) 20), M)
set_option maxRecDepth 100000 in
set_option maxHeartbeats 4000000 in
theorem x_X12_slot {κ : KX} {n : Nat} (hC : CX κ cX12_slot RX12 2 (some .int) 0) (hE : zEnd κ n (0, 0)) (hk0 : zRk κ (0, 0)) (r0 : Nat) (x1 : Int32) (M : Mem) (h_r0 : zO n r0 12) : X κ 2 emI n (0, 0) 0 [.ref r0, .int x1] [] M (f_X12_slot r0 x1 M) := by
  unfold f_X12_slot
  refine x_iconst (i := 2) c_iconst_2 hC (zdk dk_X12_slot 0 rfl) (q := 1) rfl ?_
  refine x_aload_n (i := 0) rfl hC (zdk dk_X12_slot 1 rfl) (q := 2) rfl ?_
  refine x_getI fl_RX12_201 (by decide) h_r0 hC (zdk dk_X12_slot 2 rfl) (q := 5) rfl ?_
  refine x_iload_n (i := 1) rfl hC (zdk dk_X12_slot 3 rfl) (q := 6) rfl ?_
  refine x_iadd hC (zdk dk_X12_slot 4 rfl) (q := 7) rfl ?_
  refine x_bipush (i := 20) c_bipush_20 hC (zdk dk_X12_slot 5 rfl) (q := 9) rfl ?_
  refine x_irem (by decide) hC (zdk dk_X12_slot 6 rfl) (q := 10) rfl ?_
  refine x_iadd hC (zdk dk_X12_slot 7 rfl) (q := 11) rfl ?_
  exact x_iret (ty := .int) rfl hE hC (zdk dk_X12_slot 8 rfl)
set_option maxRecDepth 100000 in
set_option maxHeartbeats 4000000 in
theorem t_X12_slot {n : Nat} {r0 : Nat} {x1 : Int32} {M : Mem} (h_r0 : zO n r0 12) (x : (Int32 × Mem)) (hx : f_X12_slot r0 x1 M = some x) (l : Launch) (dC : Nat → ClassId) (dI : Nat → Nat → Nat) (b : zSg) : MT l dC dI b yX12_slot cX12_slot 2 (some .int) 0 0 0 n n [.ref r0, .int x1] M (emI x).1 (emI x).2 :=
  MT.ofX (by decide +kernel) rfl (Nat.le_of_ble_eq_true rfl) (fun κ hC hF _ => x_X12_slot hC (zEnd_of hF (Nat.le_refl _) (Nat.le_refl _)) (zRk_of hF (Nat.le_refl _) (Nat.le_refl _)) _ _ _ h_r0) x hx
set_option maxRecDepth 100000 in
def dt_X12_keeps : List (Nat × Instr × Nat) := [(0, .aload_n 0, 1), (1, .getfield 204, 3), (4, .bipush 20, 2), (6, .if_icmp .ne 26, 3), (9, .aload_n 0, 1), (10, .aload_n 0, 1), (11, .getfield 201, 3), (14, .iconst 1, 1), (15, .iadd, 1), (16, .bipush 20, 2), (18, .irem, 1), (19, .putfield 201, 3), (22, .aload_n 0, 1), (23, .dup, 1), (24, .getfield 204, 3), (27, .iconst 1, 1), (28, .isub, 1), (29, .putfield 204, 3), (32, .aload_n 0, 1), (33, .aload_n 0, 1), (34, .aload_n 0, 1), (35, .getfield 204, 3), (38, .invokevirtual 476, 3), (41, .iconst 0, 1), (42, .invokevirtual 479, 3), (45, .aload_n 0, 1), (46, .dup, 1), (47, .getfield 204, 3), (50, .iconst 1, 1), (51, .iadd, 1), (52, .putfield 204, 3), (55, .return_, 1)]
set_option maxRecDepth 100000 in
theorem dk_X12_keeps : dt_X12_keeps.all (fun q => decide (decode cX12_keeps q.1 = .ok q.2)) = true := by decide +kernel
set_option maxRecDepth 100000 in
def f_X12_keeps_32  (r0 : Nat)  (M : Mem) : Option Mem := Option.bind (f_X12_slot r0 (zI M r0 63) M) fun z1 => Option.bind (f_X12_copies r0 z1.1 0 z1.2) fun M2 => Option.bind (some (zsI M2 r0 63 ((zI M2 r0 63) + 1))) fun M3 => some M3
set_option maxRecDepth 100000 in
set_option maxHeartbeats 4000000 in
theorem x_X12_keeps_32 {κ : KX} {n : Nat} (hC : CX κ cX12_keeps RX12 1 none 1) (hE : zEnd κ n (0, 0)) (hk0 : zRk κ (0, 0)) {r0 : Nat} (h_r0 : zO n r0 12) (M : Mem) : X κ 1 emV n (0, 0) 32 [.ref r0] [] M (f_X12_keeps_32 r0 M) := by
  unfold f_X12_keeps_32
  refine x_aload_n (i := 0) rfl hC (zdk dk_X12_keeps 18 rfl) (q := 33) rfl ?_
  refine x_aload_n (i := 0) rfl hC (zdk dk_X12_keeps 19 rfl) (q := 34) rfl ?_
  refine x_aload_n (i := 0) rfl hC (zdk dk_X12_keeps 20 rfl) (q := 35) rfl ?_
  refine x_getI fl_RX12_204 (by decide) h_r0 hC (zdk dk_X12_keeps 21 rfl) (q := 38) rfl ?_
  refine x_callVi (as := [.int (zI M r0 63)]) cb_RX12_476 rfl (by decide) hk0 h_r0 (fun x hx => t_X12_slot h_r0 x hx) hC (zdk dk_X12_keeps 22 rfl) (q := 41) rfl rfl (Nat.le_of_ble_eq_true rfl) (fun z1 => ?_)
  refine x_iconst (i := 0) c_iconst_0 hC (zdk dk_X12_keeps 23 rfl) (q := 42) rfl ?_
  refine x_callVv (as := [.int z1.1, .int 0]) cb_RX12_479 rfl (by decide) hk0 h_r0 (fun x hx => t_X12_copies h_r0 x hx) hC (zdk dk_X12_keeps 24 rfl) (q := 45) rfl rfl (Nat.le_of_ble_eq_true rfl) (fun M2 => ?_)
  refine x_aload_n (i := 0) rfl hC (zdk dk_X12_keeps 25 rfl) (q := 46) rfl ?_
  refine x_dup rfl hC (zdk dk_X12_keeps 26 rfl) (q := 47) rfl ?_
  refine x_getI fl_RX12_204 (by decide) h_r0 hC (zdk dk_X12_keeps 27 rfl) (q := 50) rfl ?_
  refine x_iconst (i := 1) c_iconst_1 hC (zdk dk_X12_keeps 28 rfl) (q := 51) rfl ?_
  refine x_iadd hC (zdk dk_X12_keeps 29 rfl) (q := 52) rfl ?_
  refine x_putI fl_RX12_204 ⟨rfl, rfl⟩ (by decide) (Or.inl rfl) h_r0 hC (zdk dk_X12_keeps 30 rfl) (q := 55) rfl ?_
  refine x_nmM (fun M3 => ?_)
  exact x_vret hE hC (zdk dk_X12_keeps 31 rfl)
set_option maxRecDepth 100000 in
def f_X12_keeps (r0 : Nat) (M : Mem) : Option Mem := (if zI M r0 63 = 20 then Option.bind (some (zsI M r0 62 (zrem ((zI M r0 62) + 1) 20))) fun M4 => Option.bind (some (zsI M4 r0 63 ((zI M4 r0 63) - 1))) fun M5 => f_X12_keeps_32 r0 M5 else f_X12_keeps_32 r0 M)
set_option maxRecDepth 100000 in
set_option maxHeartbeats 4000000 in
theorem x_X12_keeps {κ : KX} {n : Nat} (hC : CX κ cX12_keeps RX12 1 none 1) (hE : zEnd κ n (0, 0)) (hk0 : zRk κ (0, 0)) (r0 : Nat) (M : Mem) (h_r0 : zO n r0 12) : X κ 1 emV n (0, 0) 0 [.ref r0] [] M (f_X12_keeps r0 M) := by
  unfold f_X12_keeps
  refine x_aload_n (i := 0) rfl hC (zdk dk_X12_keeps 0 rfl) (q := 1) rfl ?_
  refine x_getI fl_RX12_204 (by decide) h_r0 hC (zdk dk_X12_keeps 1 rfl) (q := 4) rfl ?_
  refine x_bipush (i := 20) c_bipush_20 hC (zdk dk_X12_keeps 2 rfl) (q := 6) rfl ?_
  refine x_icmp_ne (tgt := 32) hC (zdk dk_X12_keeps 3 rfl) (q := 9) rfl rfl (fun _ => ?_) (fun _ => ?_)
  · refine x_weak (L' := [.ref r0]) ⟨Or.inr rfl, trivial⟩ ?_
    exact x_X12_keeps_32 hC hE hk0 h_r0 _
  · refine x_aload_n (i := 0) rfl hC (zdk dk_X12_keeps 4 rfl) (q := 10) rfl ?_
    refine x_aload_n (i := 0) rfl hC (zdk dk_X12_keeps 5 rfl) (q := 11) rfl ?_
    refine x_getI fl_RX12_201 (by decide) h_r0 hC (zdk dk_X12_keeps 6 rfl) (q := 14) rfl ?_
    refine x_iconst (i := 1) c_iconst_1 hC (zdk dk_X12_keeps 7 rfl) (q := 15) rfl ?_
    refine x_iadd hC (zdk dk_X12_keeps 8 rfl) (q := 16) rfl ?_
    refine x_bipush (i := 20) c_bipush_20 hC (zdk dk_X12_keeps 9 rfl) (q := 18) rfl ?_
    refine x_irem (by decide) hC (zdk dk_X12_keeps 10 rfl) (q := 19) rfl ?_
    refine x_putI fl_RX12_201 ⟨rfl, rfl⟩ (by decide) (Or.inl rfl) h_r0 hC (zdk dk_X12_keeps 11 rfl) (q := 22) rfl ?_
    refine x_nmM (fun M4 => ?_)
    refine x_aload_n (i := 0) rfl hC (zdk dk_X12_keeps 12 rfl) (q := 23) rfl ?_
    refine x_dup rfl hC (zdk dk_X12_keeps 13 rfl) (q := 24) rfl ?_
    refine x_getI fl_RX12_204 (by decide) h_r0 hC (zdk dk_X12_keeps 14 rfl) (q := 27) rfl ?_
    refine x_iconst (i := 1) c_iconst_1 hC (zdk dk_X12_keeps 15 rfl) (q := 28) rfl ?_
    refine x_isub hC (zdk dk_X12_keeps 16 rfl) (q := 29) rfl ?_
    refine x_putI fl_RX12_204 ⟨rfl, rfl⟩ (by decide) (Or.inl rfl) h_r0 hC (zdk dk_X12_keeps 17 rfl) (q := 32) rfl ?_
    refine x_nmM (fun M5 => ?_)
    refine x_weak (L' := [.ref r0]) ⟨Or.inr rfl, trivial⟩ ?_
    exact x_X12_keeps_32 hC hE hk0 h_r0 _
set_option maxRecDepth 100000 in
set_option maxHeartbeats 4000000 in
theorem t_X12_keeps {n : Nat} {r0 : Nat} {M : Mem} (h_r0 : zO n r0 12) (x : Mem) (hx : f_X12_keeps r0 M = some x) (l : Launch) (dC : Nat → ClassId) (dI : Nat → Nat → Nat) (b : zSg) : MT l dC dI b yX12_keeps cX12_keeps 1 none 1 0 0 n n [.ref r0] M (emV x).1 (emV x).2 :=
  MT.ofX (by decide +kernel) rfl (Nat.le_of_ble_eq_true rfl) (fun κ hC hF _ => x_X12_keeps hC (zEnd_of hF (Nat.le_refl _) (Nat.le_refl _)) (zRk_of hF (Nat.le_refl _) (Nat.le_refl _)) _ _ h_r0) x hx
set_option maxRecDepth 100000 in
def dt_X12_undo : List (Nat × Instr × Nat) := [(0, .aload_n 0, 1), (1, .getfield 204, 3), (4, .ifCond .ne 17, 3), (7, .aload_n 0, 1), (8, .iconst 4, 1), (9, .invokevirtual 243, 3), (12, .ifCond .lt 7, 3), (15, .iconst 1, 1), (16, .goto 4, 3), (19, .iconst 0, 1), (20, .ireturn, 1), (21, .aload_n 0, 1), (22, .dup, 1), (23, .getfield 204, 3), (26, .iconst 1, 1), (27, .isub, 1), (28, .putfield 204, 3), (31, .aload_n 0, 1), (32, .iconst 0, 1), (33, .aload_n 0, 1), (34, .aload_n 0, 1), (35, .getfield 204, 3), (38, .invokevirtual 476, 3), (41, .invokevirtual 479, 3), (44, .iconst 1, 1), (45, .ireturn, 1)]
set_option maxRecDepth 100000 in
theorem dk_X12_undo : dt_X12_undo.all (fun q => decide (decode cX12_undo q.1 = .ok q.2)) = true := by decide +kernel
set_option maxRecDepth 100000 in
def f_X12_undo_20  (r0 : Nat) (s0 : Int32) (M : Mem) : Option (Int32 × Mem) := zbz s0 (some (s0, M))
set_option maxRecDepth 100000 in
set_option maxHeartbeats 4000000 in
theorem x_X12_undo_20 {κ : KX} {n : Nat} (hC : CX κ cX12_undo RX12 1 (some .boolean) 1) (hE : zEnd κ n (0, 0)) (hk0 : zRk κ (0, 0)) {r0 : Nat} (h_r0 : zO n r0 12) (s0 : Int32) (M : Mem) : X κ 1 emI n (0, 0) 20 [.null] [.int s0] M (f_X12_undo_20 r0 s0 M) := by
  unfold f_X12_undo_20
  refine x_bz (fun hb1 => ?_)
  exact x_iret (ty := .boolean) hb1.1 hE hC (zdk dk_X12_undo 10 rfl)
set_option maxRecDepth 100000 in
def f_X12_undo (r0 : Nat) (M : Mem) : Option (Int32 × Mem) := (if zI M r0 63 = 0 then Option.bind (f_X12_refuses r0 4 M) fun z5 => (if z5.1 < 0 then f_X12_undo_20 r0 0 z5.2 else f_X12_undo_20 r0 1 z5.2) else Option.bind (some (zsI M r0 63 ((zI M r0 63) - 1))) fun M2 => Option.bind (f_X12_slot r0 (zI M2 r0 63) M2) fun z3 => Option.bind (f_X12_copies r0 0 z3.1 z3.2) fun M4 => some (1, M4))
set_option maxRecDepth 100000 in
set_option maxHeartbeats 4000000 in
theorem x_X12_undo {κ : KX} {n : Nat} (hC : CX κ cX12_undo RX12 1 (some .boolean) 1) (hE : zEnd κ n (0, 0)) (hk0 : zRk κ (0, 0)) (r0 : Nat) (M : Mem) (h_r0 : zO n r0 12) : X κ 1 emI n (0, 0) 0 [.ref r0] [] M (f_X12_undo r0 M) := by
  unfold f_X12_undo
  refine x_aload_n (i := 0) rfl hC (zdk dk_X12_undo 0 rfl) (q := 1) rfl ?_
  refine x_getI fl_RX12_204 (by decide) h_r0 hC (zdk dk_X12_undo 1 rfl) (q := 4) rfl ?_
  refine x_if_ne (tgt := 21) hC (zdk dk_X12_undo 2 rfl) (q := 7) rfl rfl (fun _ => ?_) (fun _ => ?_)
  · refine x_aload_n (i := 0) rfl hC (zdk dk_X12_undo 11 rfl) (q := 22) rfl ?_
    refine x_dup rfl hC (zdk dk_X12_undo 12 rfl) (q := 23) rfl ?_
    refine x_getI fl_RX12_204 (by decide) h_r0 hC (zdk dk_X12_undo 13 rfl) (q := 26) rfl ?_
    refine x_iconst (i := 1) c_iconst_1 hC (zdk dk_X12_undo 14 rfl) (q := 27) rfl ?_
    refine x_isub hC (zdk dk_X12_undo 15 rfl) (q := 28) rfl ?_
    refine x_putI fl_RX12_204 ⟨rfl, rfl⟩ (by decide) (Or.inl rfl) h_r0 hC (zdk dk_X12_undo 16 rfl) (q := 31) rfl ?_
    refine x_nmM (fun M2 => ?_)
    refine x_aload_n (i := 0) rfl hC (zdk dk_X12_undo 17 rfl) (q := 32) rfl ?_
    refine x_iconst (i := 0) c_iconst_0 hC (zdk dk_X12_undo 18 rfl) (q := 33) rfl ?_
    refine x_aload_n (i := 0) rfl hC (zdk dk_X12_undo 19 rfl) (q := 34) rfl ?_
    refine x_aload_n (i := 0) rfl hC (zdk dk_X12_undo 20 rfl) (q := 35) rfl ?_
    refine x_getI fl_RX12_204 (by decide) h_r0 hC (zdk dk_X12_undo 21 rfl) (q := 38) rfl ?_
    refine x_callVi (as := [.int (zI M2 r0 63)]) cb_RX12_476 rfl (by decide) hk0 h_r0 (fun x hx => t_X12_slot h_r0 x hx) hC (zdk dk_X12_undo 22 rfl) (q := 41) rfl rfl (Nat.le_of_ble_eq_true rfl) (fun z3 => ?_)
    refine x_callVv (as := [.int 0, .int z3.1]) cb_RX12_479 rfl (by decide) hk0 h_r0 (fun x hx => t_X12_copies h_r0 x hx) hC (zdk dk_X12_undo 23 rfl) (q := 44) rfl rfl (Nat.le_of_ble_eq_true rfl) (fun M4 => ?_)
    refine x_iconst (i := 1) c_iconst_1 hC (zdk dk_X12_undo 24 rfl) (q := 45) rfl ?_
    exact x_iret (ty := .boolean) rfl hE hC (zdk dk_X12_undo 25 rfl)
  · refine x_aload_n (i := 0) rfl hC (zdk dk_X12_undo 3 rfl) (q := 8) rfl ?_
    refine x_iconst (i := 4) c_iconst_4 hC (zdk dk_X12_undo 4 rfl) (q := 9) rfl ?_
    refine x_callVi (as := [.int 4]) cb_RX12_243 rfl (by decide) hk0 h_r0 (fun x hx => t_X12_refuses h_r0 x hx) hC (zdk dk_X12_undo 5 rfl) (q := 12) rfl rfl (Nat.le_of_ble_eq_true rfl) (fun z5 => ?_)
    refine x_if_lt (tgt := 19) hC (zdk dk_X12_undo 6 rfl) (q := 15) rfl rfl (fun _ => ?_) (fun _ => ?_)
    · refine x_iconst (i := 0) c_iconst_0 hC (zdk dk_X12_undo 9 rfl) (q := 20) rfl ?_
      refine x_weak (L' := [.null]) ⟨Or.inl rfl, trivial⟩ ?_
      exact x_X12_undo_20 hC hE hk0 h_r0 _ _
    · refine x_iconst (i := 1) c_iconst_1 hC (zdk dk_X12_undo 7 rfl) (q := 16) rfl ?_
      refine x_goto (tgt := 20) hC (zdk dk_X12_undo 8 rfl) rfl ?_
      refine x_weak (L' := [.null]) ⟨Or.inl rfl, trivial⟩ ?_
      exact x_X12_undo_20 hC hE hk0 h_r0 _ _
set_option maxRecDepth 100000 in
set_option maxHeartbeats 4000000 in
theorem t_X12_undo {n : Nat} {r0 : Nat} {M : Mem} (h_r0 : zO n r0 12) (x : (Int32 × Mem)) (hx : f_X12_undo r0 M = some x) (l : Launch) (dC : Nat → ClassId) (dI : Nat → Nat → Nat) (b : zSg) : MT l dC dI b yX12_undo cX12_undo 1 (some .boolean) 1 0 0 n n [.ref r0] M (emI x).1 (emI x).2 :=
  MT.ofX (by decide +kernel) rfl (Nat.le_of_ble_eq_true rfl) (fun κ hC hF _ => x_X12_undo hC (zEnd_of hF (Nat.le_refl _) (Nat.le_refl _)) (zRk_of hF (Nat.le_refl _) (Nat.le_refl _)) _ _ h_r0) x hx
set_option maxRecDepth 100000 in
def dt_X12_within : List (Nat × Instr × Nat) := [(0, .lload_n 0, 1), (1, .ldc2_w 482, 3), (4, .lcmp, 1), (5, .ifCond .le 9, 3), (8, .ldc2_w 482, 3), (11, .goto 18, 3), (14, .lload_n 0, 1), (15, .ldc2_w 484, 3), (18, .lcmp, 1), (19, .ifCond .ge 9, 3), (22, .ldc2_w 484, 3), (25, .goto 4, 3), (28, .lload_n 0, 1), (29, .lreturn, 1)]
set_option maxRecDepth 100000 in
theorem dk_X12_within : dt_X12_within.all (fun q => decide (decode cX12_within q.1 = .ok q.2)) = true := by decide +kernel
set_option maxRecDepth 100000 in
def f_X12_within_29  (y0 : Int64) (s0 : Int64) (M : Mem) : Option (Int64 × Mem) := some (s0, M)
set_option maxRecDepth 100000 in
set_option maxHeartbeats 4000000 in
theorem x_X12_within_29 {κ : KX} {n : Nat} (hC : CX κ cX12_within RX12 2 (some .long) 0) (hE : zEnd κ n (0, 0)) (hk0 : zRk κ (0, 0)) {y0 : Int64} (s0 : Int64) (M : Mem) : X κ 2 emL n (0, 0) 29 [.null, .null] [.long s0] M (f_X12_within_29 y0 s0 M) := by
  unfold f_X12_within_29
  exact x_lret hE hC (zdk dk_X12_within 13 rfl)
set_option maxRecDepth 100000 in
def f_X12_within (y0 : Int64) (M : Mem) : Option (Int64 × Mem) := (if lg_cmp y0 1000000 ≤ 0 then (if 0 ≤ lg_cmp y0 ((-1000000)) then f_X12_within_29 y0 y0 M else f_X12_within_29 y0 ((-1000000)) M) else f_X12_within_29 y0 1000000 M)
set_option maxRecDepth 100000 in
set_option maxHeartbeats 4000000 in
theorem x_X12_within {κ : KX} {n : Nat} (hC : CX κ cX12_within RX12 2 (some .long) 0) (hE : zEnd κ n (0, 0)) (hk0 : zRk κ (0, 0)) (y0 : Int64) (M : Mem) : X κ 2 emL n (0, 0) 0 [.long y0, .null] [] M (f_X12_within y0 M) := by
  unfold f_X12_within
  refine x_lload_n (i := 0) rfl hC (zdk dk_X12_within 0 rfl) (q := 1) rfl ?_
  refine x_ldc2 k_RX12_482 hC (zdk dk_X12_within 1 rfl) (q := 4) rfl ?_
  refine x_lcmp hC (zdk dk_X12_within 2 rfl) (q := 5) rfl ?_
  refine x_if_le (tgt := 14) hC (zdk dk_X12_within 3 rfl) (q := 8) rfl rfl (fun _ => ?_) (fun _ => ?_)
  · refine x_lload_n (i := 0) rfl hC (zdk dk_X12_within 6 rfl) (q := 15) rfl ?_
    refine x_ldc2 k_RX12_484 hC (zdk dk_X12_within 7 rfl) (q := 18) rfl ?_
    refine x_lcmp hC (zdk dk_X12_within 8 rfl) (q := 19) rfl ?_
    refine x_if_ge (tgt := 28) hC (zdk dk_X12_within 9 rfl) (q := 22) rfl rfl (fun _ => ?_) (fun _ => ?_)
    · refine x_lload_n (i := 0) rfl hC (zdk dk_X12_within 12 rfl) (q := 29) rfl ?_
      refine x_weak (L' := [.null, .null]) ⟨Or.inl rfl, Or.inl rfl, trivial⟩ ?_
      exact x_X12_within_29 hC hE hk0 _ _
    · refine x_ldc2 k_RX12_484 hC (zdk dk_X12_within 10 rfl) (q := 25) rfl ?_
      refine x_goto (tgt := 29) hC (zdk dk_X12_within 11 rfl) rfl ?_
      refine x_weak (L' := [.null, .null]) ⟨Or.inl rfl, Or.inl rfl, trivial⟩ ?_
      exact x_X12_within_29 hC hE hk0 _ _
  · refine x_ldc2 k_RX12_482 hC (zdk dk_X12_within 4 rfl) (q := 11) rfl ?_
    refine x_goto (tgt := 29) hC (zdk dk_X12_within 5 rfl) rfl ?_
    refine x_weak (L' := [.null, .null]) ⟨Or.inl rfl, Or.inl rfl, trivial⟩ ?_
    exact x_X12_within_29 hC hE hk0 _ _
set_option maxRecDepth 100000 in
set_option maxHeartbeats 4000000 in
theorem t_X12_within {n : Nat} {y0 : Int64} {M : Mem}  (x : (Int64 × Mem)) (hx : f_X12_within y0 M = some x) (l : Launch) (dC : Nat → ClassId) (dI : Nat → Nat → Nat) (b : zSg) : MT l dC dI b yX12_within cX12_within 2 (some .long) 0 0 0 n n [.long y0] M (emL x).1 (emL x).2 :=
  MT.ofX (by decide +kernel) rfl (Nat.le_of_ble_eq_true rfl) (fun κ hC hF _ => x_X12_within hC (zEnd_of hF (Nat.le_refl _) (Nat.le_refl _)) (zRk_of hF (Nat.le_refl _) (Nat.le_refl _)) _ _ ) x hx
set_option maxRecDepth 100000 in
def dt_X12_floor : List (Nat × Instr × Nat) := [(0, .lload_n 2, 1), (1, .lconst 0, 1), (2, .lcmp, 1), (3, .ifCond .ne 5, 3), (6, .lconst 0, 1), (7, .lreturn, 1), (8, .lload_n 0, 1), (9, .lload_n 2, 1), (10, .ldiv, 1), (11, .lstore 4, 2), (13, .lload_n 0, 1), (14, .lload_n 2, 1), (15, .lrem, 1), (16, .lconst 0, 1), (17, .lcmp, 1), (18, .ifCond .eq 35, 3), (21, .lload_n 0, 1), (22, .lconst 0, 1), (23, .lcmp, 1), (24, .ifCond .ge 7, 3), (27, .iconst 1, 1), (28, .goto 4, 3), (31, .iconst 0, 1), (32, .lload_n 2, 1), (33, .lconst 0, 1), (34, .lcmp, 1), (35, .ifCond .ge 7, 3), (38, .iconst 1, 1), (39, .goto 4, 3), (42, .iconst 0, 1), (43, .if_icmp .eq 10, 3), (46, .lload 4, 2), (48, .lconst 1, 1), (49, .lsub, 1), (50, .goto 5, 3), (53, .lload 4, 2), (55, .lreturn, 1)]
set_option maxRecDepth 100000 in
theorem dk_X12_floor : dt_X12_floor.all (fun q => decide (decode cX12_floor q.1 = .ok q.2)) = true := by decide +kernel
set_option maxRecDepth 100000 in
def f_X12_floor_55  (y0 : Int64) (y2 : Int64) (s0 : Int64) (M : Mem) : Option (Int64 × Mem) := some (s0, M)
set_option maxRecDepth 100000 in
set_option maxHeartbeats 4000000 in
theorem x_X12_floor_55 {κ : KX} {n : Nat} (hC : CX κ cX12_floor RX12 6 (some .long) 0) (hE : zEnd κ n (0, 0)) (hk0 : zRk κ (0, 0)) {y0 : Int64} {y2 : Int64} (s0 : Int64) (M : Mem) : X κ 6 emL n (0, 0) 55 [.null, .null, .null, .null, .null, .null] [.long s0] M (f_X12_floor_55 y0 y2 s0 M) := by
  unfold f_X12_floor_55
  exact x_lret hE hC (zdk dk_X12_floor 36 rfl)
set_option maxRecDepth 100000 in
def f_X12_floor_53  (y0 : Int64) (y2 : Int64) (y4 : Int64) (M : Mem) : Option (Int64 × Mem) := f_X12_floor_55 y0 y2 y4 M
set_option maxRecDepth 100000 in
set_option maxHeartbeats 4000000 in
theorem x_X12_floor_53 {κ : KX} {n : Nat} (hC : CX κ cX12_floor RX12 6 (some .long) 0) (hE : zEnd κ n (0, 0)) (hk0 : zRk κ (0, 0)) {y0 : Int64} {y2 : Int64} (y4 : Int64) (M : Mem) : X κ 6 emL n (0, 0) 53 [.null, .null, .null, .null, .long y4, .null] [] M (f_X12_floor_53 y0 y2 y4 M) := by
  unfold f_X12_floor_53
  refine x_lload (i := 4) rfl hC (zdk dk_X12_floor 35 rfl) (q := 55) rfl ?_
  refine x_weak (L' := [.null, .null, .null, .null, .null, .null]) ⟨Or.inl rfl, Or.inl rfl, Or.inl rfl, Or.inl rfl, Or.inl rfl, Or.inl rfl, trivial⟩ ?_
  exact x_X12_floor_55 hC hE hk0 _ _
set_option maxRecDepth 100000 in
def f_X12_floor_43  (y0 : Int64) (y2 : Int64) (y4 : Int64) (s0 : Int32) (s1 : Int32) (M : Mem) : Option (Int64 × Mem) := (if s0 = s1 then f_X12_floor_53 y0 y2 y4 M else f_X12_floor_55 y0 y2 (y4 - 1) M)
set_option maxRecDepth 100000 in
set_option maxHeartbeats 4000000 in
theorem x_X12_floor_43 {κ : KX} {n : Nat} (hC : CX κ cX12_floor RX12 6 (some .long) 0) (hE : zEnd κ n (0, 0)) (hk0 : zRk κ (0, 0)) {y0 : Int64} {y2 : Int64} (y4 : Int64) (s0 : Int32) (s1 : Int32) (M : Mem) : X κ 6 emL n (0, 0) 43 [.null, .null, .null, .null, .long y4, .null] [.int s1, .int s0] M (f_X12_floor_43 y0 y2 y4 s0 s1 M) := by
  unfold f_X12_floor_43
  refine x_icmp_eq (tgt := 53) hC (zdk dk_X12_floor 30 rfl) (q := 46) rfl rfl (fun _ => ?_) (fun _ => ?_)
  · refine x_weak (L' := [.null, .null, .null, .null, .long y4, .null]) ⟨Or.inl rfl, Or.inl rfl, Or.inl rfl, Or.inl rfl, Or.inr rfl, Or.inl rfl, trivial⟩ ?_
    exact x_X12_floor_53 hC hE hk0 _ _
  · refine x_lload (i := 4) rfl hC (zdk dk_X12_floor 31 rfl) (q := 48) rfl ?_
    refine x_lconst (i := 1) c_lconst_1 hC (zdk dk_X12_floor 32 rfl) (q := 49) rfl ?_
    refine x_lsub hC (zdk dk_X12_floor 33 rfl) (q := 50) rfl ?_
    refine x_goto (tgt := 55) hC (zdk dk_X12_floor 34 rfl) rfl ?_
    refine x_weak (L' := [.null, .null, .null, .null, .null, .null]) ⟨Or.inl rfl, Or.inl rfl, Or.inl rfl, Or.inl rfl, Or.inl rfl, Or.inl rfl, trivial⟩ ?_
    exact x_X12_floor_55 hC hE hk0 _ _
set_option maxRecDepth 100000 in
def f_X12_floor_32  (y0 : Int64) (y2 : Int64) (y4 : Int64) (s0 : Int32) (M : Mem) : Option (Int64 × Mem) := (if 0 ≤ lg_cmp y2 0 then f_X12_floor_43 y0 y2 y4 s0 0 M else f_X12_floor_43 y0 y2 y4 s0 1 M)
set_option maxRecDepth 100000 in
set_option maxHeartbeats 4000000 in
theorem x_X12_floor_32 {κ : KX} {n : Nat} (hC : CX κ cX12_floor RX12 6 (some .long) 0) (hE : zEnd κ n (0, 0)) (hk0 : zRk κ (0, 0)) {y0 : Int64} {y2 : Int64} (y4 : Int64) (s0 : Int32) (M : Mem) : X κ 6 emL n (0, 0) 32 [.null, .null, .long y2, .null, .long y4, .null] [.int s0] M (f_X12_floor_32 y0 y2 y4 s0 M) := by
  unfold f_X12_floor_32
  refine x_lload_n (i := 2) rfl hC (zdk dk_X12_floor 23 rfl) (q := 33) rfl ?_
  refine x_lconst (i := 0) c_lconst_0 hC (zdk dk_X12_floor 24 rfl) (q := 34) rfl ?_
  refine x_lcmp hC (zdk dk_X12_floor 25 rfl) (q := 35) rfl ?_
  refine x_if_ge (tgt := 42) hC (zdk dk_X12_floor 26 rfl) (q := 38) rfl rfl (fun _ => ?_) (fun _ => ?_)
  · refine x_iconst (i := 0) c_iconst_0 hC (zdk dk_X12_floor 29 rfl) (q := 43) rfl ?_
    refine x_weak (L' := [.null, .null, .null, .null, .long y4, .null]) ⟨Or.inl rfl, Or.inl rfl, Or.inl rfl, Or.inl rfl, Or.inr rfl, Or.inl rfl, trivial⟩ ?_
    exact x_X12_floor_43 hC hE hk0 _ _ _ _
  · refine x_iconst (i := 1) c_iconst_1 hC (zdk dk_X12_floor 27 rfl) (q := 39) rfl ?_
    refine x_goto (tgt := 43) hC (zdk dk_X12_floor 28 rfl) rfl ?_
    refine x_weak (L' := [.null, .null, .null, .null, .long y4, .null]) ⟨Or.inl rfl, Or.inl rfl, Or.inl rfl, Or.inl rfl, Or.inr rfl, Or.inl rfl, trivial⟩ ?_
    exact x_X12_floor_43 hC hE hk0 _ _ _ _
set_option maxRecDepth 100000 in
def f_X12_floor (y0 : Int64) (y2 : Int64) (M : Mem) : Option (Int64 × Mem) := (if lg_cmp y2 0 = 0 then some (0, M) else if y2 = 0 then none else if y2 = 0 then none else (if lg_cmp (zlrem y0 y2) 0 = 0 then f_X12_floor_53 y0 y2 (y0 / y2) M else (if 0 ≤ lg_cmp y0 0 then f_X12_floor_32 y0 y2 (y0 / y2) 0 M else f_X12_floor_32 y0 y2 (y0 / y2) 1 M)))
set_option maxRecDepth 100000 in
set_option maxHeartbeats 4000000 in
theorem x_X12_floor {κ : KX} {n : Nat} (hC : CX κ cX12_floor RX12 6 (some .long) 0) (hE : zEnd κ n (0, 0)) (hk0 : zRk κ (0, 0)) (y0 : Int64) (y2 : Int64) (M : Mem) : X κ 6 emL n (0, 0) 0 [.long y0, .null, .long y2, .null, .null, .null] [] M (f_X12_floor y0 y2 M) := by
  unfold f_X12_floor
  refine x_lload_n (i := 2) rfl hC (zdk dk_X12_floor 0 rfl) (q := 1) rfl ?_
  refine x_lconst (i := 0) c_lconst_0 hC (zdk dk_X12_floor 1 rfl) (q := 2) rfl ?_
  refine x_lcmp hC (zdk dk_X12_floor 2 rfl) (q := 3) rfl ?_
  refine x_if_ne (tgt := 8) hC (zdk dk_X12_floor 3 rfl) (q := 6) rfl rfl (fun _ => ?_) (fun _ => ?_)
  · refine x_lload_n (i := 0) rfl hC (zdk dk_X12_floor 6 rfl) (q := 9) rfl ?_
    refine x_lload_n (i := 2) rfl hC (zdk dk_X12_floor 7 rfl) (q := 10) rfl ?_
    refine x_ldivG hC (zdk dk_X12_floor 8 rfl) (q := 11) rfl ?_
    refine x_lstore (i := 4) (L' := [.long y0, .null, .long y2, .null, .long (y0 / y2), .null]) (by decide) rfl hC (zdk dk_X12_floor 9 rfl) (q := 13) rfl ?_
    refine x_lload_n (i := 0) rfl hC (zdk dk_X12_floor 10 rfl) (q := 14) rfl ?_
    refine x_lload_n (i := 2) rfl hC (zdk dk_X12_floor 11 rfl) (q := 15) rfl ?_
    refine x_lremG hC (zdk dk_X12_floor 12 rfl) (q := 16) rfl ?_
    refine x_lconst (i := 0) c_lconst_0 hC (zdk dk_X12_floor 13 rfl) (q := 17) rfl ?_
    refine x_lcmp hC (zdk dk_X12_floor 14 rfl) (q := 18) rfl ?_
    refine x_if_eq (tgt := 53) hC (zdk dk_X12_floor 15 rfl) (q := 21) rfl rfl (fun _ => ?_) (fun _ => ?_)
    · refine x_weak (L' := [.null, .null, .null, .null, .long (y0 / y2), .null]) ⟨Or.inl rfl, Or.inl rfl, Or.inl rfl, Or.inl rfl, Or.inr rfl, Or.inl rfl, trivial⟩ ?_
      exact x_X12_floor_53 hC hE hk0 _ _
    · refine x_lload_n (i := 0) rfl hC (zdk dk_X12_floor 16 rfl) (q := 22) rfl ?_
      refine x_lconst (i := 0) c_lconst_0 hC (zdk dk_X12_floor 17 rfl) (q := 23) rfl ?_
      refine x_lcmp hC (zdk dk_X12_floor 18 rfl) (q := 24) rfl ?_
      refine x_if_ge (tgt := 31) hC (zdk dk_X12_floor 19 rfl) (q := 27) rfl rfl (fun _ => ?_) (fun _ => ?_)
      · refine x_iconst (i := 0) c_iconst_0 hC (zdk dk_X12_floor 22 rfl) (q := 32) rfl ?_
        refine x_weak (L' := [.null, .null, .long y2, .null, .long (y0 / y2), .null]) ⟨Or.inl rfl, Or.inl rfl, Or.inr rfl, Or.inl rfl, Or.inr rfl, Or.inl rfl, trivial⟩ ?_
        exact x_X12_floor_32 hC hE hk0 _ _ _
      · refine x_iconst (i := 1) c_iconst_1 hC (zdk dk_X12_floor 20 rfl) (q := 28) rfl ?_
        refine x_goto (tgt := 32) hC (zdk dk_X12_floor 21 rfl) rfl ?_
        refine x_weak (L' := [.null, .null, .long y2, .null, .long (y0 / y2), .null]) ⟨Or.inl rfl, Or.inl rfl, Or.inr rfl, Or.inl rfl, Or.inr rfl, Or.inl rfl, trivial⟩ ?_
        exact x_X12_floor_32 hC hE hk0 _ _ _
  · refine x_lconst (i := 0) c_lconst_0 hC (zdk dk_X12_floor 4 rfl) (q := 7) rfl ?_
    exact x_lret hE hC (zdk dk_X12_floor 5 rfl)
set_option maxRecDepth 100000 in
set_option maxHeartbeats 4000000 in
theorem t_X12_floor {n : Nat} {y0 : Int64} {y2 : Int64} {M : Mem}  (x : (Int64 × Mem)) (hx : f_X12_floor y0 y2 M = some x) (l : Launch) (dC : Nat → ClassId) (dI : Nat → Nat → Nat) (b : zSg) : MT l dC dI b yX12_floor cX12_floor 6 (some .long) 0 0 0 n n [.long y0, .long y2] M (emL x).1 (emL x).2 :=
  MT.ofX (by decide +kernel) rfl (Nat.le_of_ble_eq_true rfl) (fun κ hC hF _ => x_X12_floor hC (zEnd_of hF (Nat.le_refl _) (Nat.le_refl _)) (zRk_of hF (Nat.le_refl _) (Nat.le_refl _)) _ _ _ ) x hx
set_option maxRecDepth 100000 in
def dt_X12_two : List (Nat × Instr × Nat) := [(0, .iload_n 0, 1), (1, .tableswitch 176 31 41 #[59, 66, 73, 80, 89, 112, 124, 136, 148, 160, 172], 59), (60, .lload_n 1, 1), (61, .lload_n 3, 1), (62, .ladd, 1), (63, .invokestatic 486, 3), (66, .lreturn, 1), (67, .lload_n 1, 1), (68, .lload_n 3, 1), (69, .lsub, 1), (70, .invokestatic 486, 3), (73, .lreturn, 1), (74, .lload_n 1, 1), (75, .lload_n 3, 1), (76, .lmul, 1), (77, .invokestatic 486, 3), (80, .lreturn, 1), (81, .lload_n 1, 1), (82, .lload_n 3, 1), (83, .invokestatic 489, 3), (86, .invokestatic 486, 3), (89, .lreturn, 1), (90, .lload_n 3, 1), (91, .lconst 0, 1), (92, .lcmp, 1), (93, .ifCond .ne 7, 3), (96, .lconst 0, 1), (97, .goto 15, 3), (100, .lload_n 1, 1), (101, .lload_n 3, 1), (102, .lload_n 1, 1), (103, .lload_n 3, 1), (104, .invokestatic 489, 3), (107, .lmul, 1), (108, .lsub, 1), (109, .invokestatic 486, 3), (112, .lreturn, 1), (113, .lload_n 1, 1), (114, .lload_n 3, 1), (115, .lcmp, 1), (116, .ifCond .ge 7, 3), (119, .lload_n 1, 1), (120, .goto 4, 3), (123, .lload_n 3, 1), (124, .lreturn, 1), (125, .lload_n 1, 1), (126, .lload_n 3, 1), (127, .lcmp, 1), (128, .ifCond .le 7, 3), (131, .lload_n 1, 1), (132, .goto 4, 3), (135, .lload_n 3, 1), (136, .lreturn, 1), (137, .lload_n 1, 1), (138, .lload_n 3, 1), (139, .lcmp, 1), (140, .ifCond .ge 7, 3), (143, .lconst 1, 1), (144, .goto 4, 3), (147, .lconst 0, 1), (148, .lreturn, 1), (149, .lload_n 1, 1), (150, .lload_n 3, 1), (151, .lcmp, 1), (152, .ifCond .le 7, 3), (155, .lconst 1, 1), (156, .goto 4, 3), (159, .lconst 0, 1), (160, .lreturn, 1), (161, .lload_n 1, 1), (162, .lload_n 3, 1), (163, .lcmp, 1), (164, .ifCond .ne 7, 3), (167, .lconst 1, 1), (168, .goto 4, 3), (171, .lconst 0, 1), (172, .lreturn, 1), (173, .lload_n 1, 1), (174, .lload_n 3, 1), (175, .land, 1), (176, .lreturn, 1), (177, .lload_n 1, 1), (178, .lload_n 3, 1), (179, .lor, 1), (180, .lreturn, 1)]
set_option maxRecDepth 100000 in
theorem dk_X12_two : dt_X12_two.all (fun q => decide (decode cX12_two q.1 = .ok q.2)) = true := by decide +kernel
set_option maxRecDepth 100000 in
def f_X12_two_172  (x0 : Int32) (y1 : Int64) (y3 : Int64) (s0 : Int64) (M : Mem) : Option (Int64 × Mem) := some (s0, M)
set_option maxRecDepth 100000 in
set_option maxHeartbeats 4000000 in
theorem x_X12_two_172 {κ : KX} {n : Nat} (hC : CX κ cX12_two RX12 5 (some .long) 1) (hE : zEnd κ n (0, 0)) (hk0 : zRk κ (0, 0)) {x0 : Int32} {y1 : Int64} {y3 : Int64} (s0 : Int64) (M : Mem) : X κ 5 emL n (0, 0) 172 [.null, .null, .null, .null, .null] [.long s0] M (f_X12_two_172 x0 y1 y3 s0 M) := by
  unfold f_X12_two_172
  exact x_lret hE hC (zdk dk_X12_two 76 rfl)
set_option maxRecDepth 100000 in
def f_X12_two_160  (x0 : Int32) (y1 : Int64) (y3 : Int64) (s0 : Int64) (M : Mem) : Option (Int64 × Mem) := some (s0, M)
set_option maxRecDepth 100000 in
set_option maxHeartbeats 4000000 in
theorem x_X12_two_160 {κ : KX} {n : Nat} (hC : CX κ cX12_two RX12 5 (some .long) 1) (hE : zEnd κ n (0, 0)) (hk0 : zRk κ (0, 0)) {x0 : Int32} {y1 : Int64} {y3 : Int64} (s0 : Int64) (M : Mem) : X κ 5 emL n (0, 0) 160 [.null, .null, .null, .null, .null] [.long s0] M (f_X12_two_160 x0 y1 y3 s0 M) := by
  unfold f_X12_two_160
  exact x_lret hE hC (zdk dk_X12_two 68 rfl)
set_option maxRecDepth 100000 in
def f_X12_two_148  (x0 : Int32) (y1 : Int64) (y3 : Int64) (s0 : Int64) (M : Mem) : Option (Int64 × Mem) := some (s0, M)
set_option maxRecDepth 100000 in
set_option maxHeartbeats 4000000 in
theorem x_X12_two_148 {κ : KX} {n : Nat} (hC : CX κ cX12_two RX12 5 (some .long) 1) (hE : zEnd κ n (0, 0)) (hk0 : zRk κ (0, 0)) {x0 : Int32} {y1 : Int64} {y3 : Int64} (s0 : Int64) (M : Mem) : X κ 5 emL n (0, 0) 148 [.null, .null, .null, .null, .null] [.long s0] M (f_X12_two_148 x0 y1 y3 s0 M) := by
  unfold f_X12_two_148
  exact x_lret hE hC (zdk dk_X12_two 60 rfl)
set_option maxRecDepth 100000 in
def f_X12_two_136  (x0 : Int32) (y1 : Int64) (y3 : Int64) (s0 : Int64) (M : Mem) : Option (Int64 × Mem) := some (s0, M)
set_option maxRecDepth 100000 in
set_option maxHeartbeats 4000000 in
theorem x_X12_two_136 {κ : KX} {n : Nat} (hC : CX κ cX12_two RX12 5 (some .long) 1) (hE : zEnd κ n (0, 0)) (hk0 : zRk κ (0, 0)) {x0 : Int32} {y1 : Int64} {y3 : Int64} (s0 : Int64) (M : Mem) : X κ 5 emL n (0, 0) 136 [.null, .null, .null, .null, .null] [.long s0] M (f_X12_two_136 x0 y1 y3 s0 M) := by
  unfold f_X12_two_136
  exact x_lret hE hC (zdk dk_X12_two 52 rfl)
set_option maxRecDepth 100000 in
def f_X12_two_124  (x0 : Int32) (y1 : Int64) (y3 : Int64) (s0 : Int64) (M : Mem) : Option (Int64 × Mem) := some (s0, M)
set_option maxRecDepth 100000 in
set_option maxHeartbeats 4000000 in
theorem x_X12_two_124 {κ : KX} {n : Nat} (hC : CX κ cX12_two RX12 5 (some .long) 1) (hE : zEnd κ n (0, 0)) (hk0 : zRk κ (0, 0)) {x0 : Int32} {y1 : Int64} {y3 : Int64} (s0 : Int64) (M : Mem) : X κ 5 emL n (0, 0) 124 [.null, .null, .null, .null, .null] [.long s0] M (f_X12_two_124 x0 y1 y3 s0 M) := by
  unfold f_X12_two_124
  exact x_lret hE hC (zdk dk_X12_two 44 rfl)
set_option maxRecDepth 100000 in
def f_X12_two_112  (x0 : Int32) (y1 : Int64) (y3 : Int64) (s0 : Int64) (M : Mem) : Option (Int64 × Mem) := some (s0, M)
set_option maxRecDepth 100000 in
set_option maxHeartbeats 4000000 in
theorem x_X12_two_112 {κ : KX} {n : Nat} (hC : CX κ cX12_two RX12 5 (some .long) 1) (hE : zEnd κ n (0, 0)) (hk0 : zRk κ (0, 0)) {x0 : Int32} {y1 : Int64} {y3 : Int64} (s0 : Int64) (M : Mem) : X κ 5 emL n (0, 0) 112 [.null, .null, .null, .null, .null] [.long s0] M (f_X12_two_112 x0 y1 y3 s0 M) := by
  unfold f_X12_two_112
  exact x_lret hE hC (zdk dk_X12_two 36 rfl)
set_option maxRecDepth 100000 in
def f_X12_two (x0 : Int32) (y1 : Int64) (y3 : Int64) (M : Mem) : Option (Int64 × Mem) := (if x0 = 31 then Option.bind (f_X12_within (y1 + y3) M) fun z2 => some (z2.1, z2.2) else if x0 = 32 then Option.bind (f_X12_within (y1 - y3) M) fun z4 => some (z4.1, z4.2) else if x0 = 33 then Option.bind (f_X12_within (y1 * y3) M) fun z6 => some (z6.1, z6.2) else if x0 = 34 then Option.bind (f_X12_floor y1 y3 M) fun z8 => Option.bind (f_X12_within z8.1 z8.2) fun z9 => some (z9.1, z9.2) else if x0 = 35 then (if lg_cmp y3 0 = 0 then f_X12_two_112 x0 y1 y3 0 M else Option.bind (f_X12_floor y1 y3 M) fun z11 => Option.bind (f_X12_within (y1 - (y3 * z11.1)) z11.2) fun z12 => f_X12_two_112 x0 y1 y3 z12.1 z12.2) else if x0 = 36 then (if 0 ≤ lg_cmp y1 y3 then f_X12_two_124 x0 y1 y3 y3 M else f_X12_two_124 x0 y1 y3 y1 M) else if x0 = 37 then (if lg_cmp y1 y3 ≤ 0 then f_X12_two_136 x0 y1 y3 y3 M else f_X12_two_136 x0 y1 y3 y1 M) else if x0 = 38 then (if 0 ≤ lg_cmp y1 y3 then f_X12_two_148 x0 y1 y3 0 M else f_X12_two_148 x0 y1 y3 1 M) else if x0 = 39 then (if lg_cmp y1 y3 ≤ 0 then f_X12_two_160 x0 y1 y3 0 M else f_X12_two_160 x0 y1 y3 1 M) else if x0 = 40 then (if lg_cmp y1 y3 = 0 then f_X12_two_172 x0 y1 y3 1 M else f_X12_two_172 x0 y1 y3 0 M) else if x0 = 41 then some (y1 &&& y3, M) else some (y1 ||| y3, M))
set_option maxRecDepth 100000 in
set_option maxHeartbeats 4000000 in
theorem x_X12_two {κ : KX} {n : Nat} (hC : CX κ cX12_two RX12 5 (some .long) 1) (hE : zEnd κ n (0, 0)) (hk0 : zRk κ (0, 0)) (x0 : Int32) (y1 : Int64) (y3 : Int64) (M : Mem) : X κ 5 emL n (0, 0) 0 [.int x0, .long y1, .null, .long y3, .null] [] M (f_X12_two x0 y1 y3 M) := by
  unfold f_X12_two
  refine x_iload_n (i := 0) rfl hC (zdk dk_X12_two 0 rfl) (q := 1) rfl ?_
  refine x_tsIn (v := 31) (off := 59) (tgt := 60) hC (zdk dk_X12_two 1 rfl) (by decide) ?_ (fun ht1 => ?_)
  · refine x_lload_n (i := 1) rfl hC (zdk dk_X12_two 2 rfl) (q := 61) rfl ?_
    refine x_lload_n (i := 3) rfl hC (zdk dk_X12_two 3 rfl) (q := 62) rfl ?_
    refine x_ladd hC (zdk dk_X12_two 4 rfl) (q := 63) rfl ?_
    refine x_callSl (as := [.long (y1 + y3)]) cb_RX12_486 rfl (by decide) hk0 (fun x hx => t_X12_within  x hx) hC (zdk dk_X12_two 5 rfl) (q := 66) rfl rfl (Nat.le_of_ble_eq_true rfl) (fun z2 => ?_)
    exact x_lret hE hC (zdk dk_X12_two 6 rfl)
  refine x_tsIn (v := 32) (off := 66) (tgt := 67) hC (zdk dk_X12_two 1 rfl) (by decide) ?_ (fun ht3 => ?_)
  · refine x_lload_n (i := 1) rfl hC (zdk dk_X12_two 7 rfl) (q := 68) rfl ?_
    refine x_lload_n (i := 3) rfl hC (zdk dk_X12_two 8 rfl) (q := 69) rfl ?_
    refine x_lsub hC (zdk dk_X12_two 9 rfl) (q := 70) rfl ?_
    refine x_callSl (as := [.long (y1 - y3)]) cb_RX12_486 rfl (by decide) hk0 (fun x hx => t_X12_within  x hx) hC (zdk dk_X12_two 10 rfl) (q := 73) rfl rfl (Nat.le_of_ble_eq_true rfl) (fun z4 => ?_)
    exact x_lret hE hC (zdk dk_X12_two 11 rfl)
  refine x_tsIn (v := 33) (off := 73) (tgt := 74) hC (zdk dk_X12_two 1 rfl) (by decide) ?_ (fun ht5 => ?_)
  · refine x_lload_n (i := 1) rfl hC (zdk dk_X12_two 12 rfl) (q := 75) rfl ?_
    refine x_lload_n (i := 3) rfl hC (zdk dk_X12_two 13 rfl) (q := 76) rfl ?_
    refine x_lmul hC (zdk dk_X12_two 14 rfl) (q := 77) rfl ?_
    refine x_callSl (as := [.long (y1 * y3)]) cb_RX12_486 rfl (by decide) hk0 (fun x hx => t_X12_within  x hx) hC (zdk dk_X12_two 15 rfl) (q := 80) rfl rfl (Nat.le_of_ble_eq_true rfl) (fun z6 => ?_)
    exact x_lret hE hC (zdk dk_X12_two 16 rfl)
  refine x_tsIn (v := 34) (off := 80) (tgt := 81) hC (zdk dk_X12_two 1 rfl) (by decide) ?_ (fun ht7 => ?_)
  · refine x_lload_n (i := 1) rfl hC (zdk dk_X12_two 17 rfl) (q := 82) rfl ?_
    refine x_lload_n (i := 3) rfl hC (zdk dk_X12_two 18 rfl) (q := 83) rfl ?_
    refine x_callSl (as := [.long y1, .long y3]) cb_RX12_489 rfl (by decide) hk0 (fun x hx => t_X12_floor  x hx) hC (zdk dk_X12_two 19 rfl) (q := 86) rfl rfl (Nat.le_of_ble_eq_true rfl) (fun z8 => ?_)
    refine x_callSl (as := [.long z8.1]) cb_RX12_486 rfl (by decide) hk0 (fun x hx => t_X12_within  x hx) hC (zdk dk_X12_two 20 rfl) (q := 89) rfl rfl (Nat.le_of_ble_eq_true rfl) (fun z9 => ?_)
    exact x_lret hE hC (zdk dk_X12_two 21 rfl)
  refine x_tsIn (v := 35) (off := 89) (tgt := 90) hC (zdk dk_X12_two 1 rfl) (by decide) ?_ (fun ht10 => ?_)
  · refine x_lload_n (i := 3) rfl hC (zdk dk_X12_two 22 rfl) (q := 91) rfl ?_
    refine x_lconst (i := 0) c_lconst_0 hC (zdk dk_X12_two 23 rfl) (q := 92) rfl ?_
    refine x_lcmp hC (zdk dk_X12_two 24 rfl) (q := 93) rfl ?_
    refine x_if_ne (tgt := 100) hC (zdk dk_X12_two 25 rfl) (q := 96) rfl rfl (fun _ => ?_) (fun _ => ?_)
    · refine x_lload_n (i := 1) rfl hC (zdk dk_X12_two 28 rfl) (q := 101) rfl ?_
      refine x_lload_n (i := 3) rfl hC (zdk dk_X12_two 29 rfl) (q := 102) rfl ?_
      refine x_lload_n (i := 1) rfl hC (zdk dk_X12_two 30 rfl) (q := 103) rfl ?_
      refine x_lload_n (i := 3) rfl hC (zdk dk_X12_two 31 rfl) (q := 104) rfl ?_
      refine x_callSl (as := [.long y1, .long y3]) cb_RX12_489 rfl (by decide) hk0 (fun x hx => t_X12_floor  x hx) hC (zdk dk_X12_two 32 rfl) (q := 107) rfl rfl (Nat.le_of_ble_eq_true rfl) (fun z11 => ?_)
      refine x_lmul hC (zdk dk_X12_two 33 rfl) (q := 108) rfl ?_
      refine x_lsub hC (zdk dk_X12_two 34 rfl) (q := 109) rfl ?_
      refine x_callSl (as := [.long (y1 - (y3 * z11.1))]) cb_RX12_486 rfl (by decide) hk0 (fun x hx => t_X12_within  x hx) hC (zdk dk_X12_two 35 rfl) (q := 112) rfl rfl (Nat.le_of_ble_eq_true rfl) (fun z12 => ?_)
      refine x_weak (L' := [.null, .null, .null, .null, .null]) ⟨Or.inl rfl, Or.inl rfl, Or.inl rfl, Or.inl rfl, Or.inl rfl, trivial⟩ ?_
      exact x_X12_two_112 hC hE hk0 _ _
    · refine x_lconst (i := 0) c_lconst_0 hC (zdk dk_X12_two 26 rfl) (q := 97) rfl ?_
      refine x_goto (tgt := 112) hC (zdk dk_X12_two 27 rfl) rfl ?_
      refine x_weak (L' := [.null, .null, .null, .null, .null]) ⟨Or.inl rfl, Or.inl rfl, Or.inl rfl, Or.inl rfl, Or.inl rfl, trivial⟩ ?_
      exact x_X12_two_112 hC hE hk0 _ _
  refine x_tsIn (v := 36) (off := 112) (tgt := 113) hC (zdk dk_X12_two 1 rfl) (by decide) ?_ (fun ht13 => ?_)
  · refine x_lload_n (i := 1) rfl hC (zdk dk_X12_two 37 rfl) (q := 114) rfl ?_
    refine x_lload_n (i := 3) rfl hC (zdk dk_X12_two 38 rfl) (q := 115) rfl ?_
    refine x_lcmp hC (zdk dk_X12_two 39 rfl) (q := 116) rfl ?_
    refine x_if_ge (tgt := 123) hC (zdk dk_X12_two 40 rfl) (q := 119) rfl rfl (fun _ => ?_) (fun _ => ?_)
    · refine x_lload_n (i := 3) rfl hC (zdk dk_X12_two 43 rfl) (q := 124) rfl ?_
      refine x_weak (L' := [.null, .null, .null, .null, .null]) ⟨Or.inl rfl, Or.inl rfl, Or.inl rfl, Or.inl rfl, Or.inl rfl, trivial⟩ ?_
      exact x_X12_two_124 hC hE hk0 _ _
    · refine x_lload_n (i := 1) rfl hC (zdk dk_X12_two 41 rfl) (q := 120) rfl ?_
      refine x_goto (tgt := 124) hC (zdk dk_X12_two 42 rfl) rfl ?_
      refine x_weak (L' := [.null, .null, .null, .null, .null]) ⟨Or.inl rfl, Or.inl rfl, Or.inl rfl, Or.inl rfl, Or.inl rfl, trivial⟩ ?_
      exact x_X12_two_124 hC hE hk0 _ _
  refine x_tsIn (v := 37) (off := 124) (tgt := 125) hC (zdk dk_X12_two 1 rfl) (by decide) ?_ (fun ht14 => ?_)
  · refine x_lload_n (i := 1) rfl hC (zdk dk_X12_two 45 rfl) (q := 126) rfl ?_
    refine x_lload_n (i := 3) rfl hC (zdk dk_X12_two 46 rfl) (q := 127) rfl ?_
    refine x_lcmp hC (zdk dk_X12_two 47 rfl) (q := 128) rfl ?_
    refine x_if_le (tgt := 135) hC (zdk dk_X12_two 48 rfl) (q := 131) rfl rfl (fun _ => ?_) (fun _ => ?_)
    · refine x_lload_n (i := 3) rfl hC (zdk dk_X12_two 51 rfl) (q := 136) rfl ?_
      refine x_weak (L' := [.null, .null, .null, .null, .null]) ⟨Or.inl rfl, Or.inl rfl, Or.inl rfl, Or.inl rfl, Or.inl rfl, trivial⟩ ?_
      exact x_X12_two_136 hC hE hk0 _ _
    · refine x_lload_n (i := 1) rfl hC (zdk dk_X12_two 49 rfl) (q := 132) rfl ?_
      refine x_goto (tgt := 136) hC (zdk dk_X12_two 50 rfl) rfl ?_
      refine x_weak (L' := [.null, .null, .null, .null, .null]) ⟨Or.inl rfl, Or.inl rfl, Or.inl rfl, Or.inl rfl, Or.inl rfl, trivial⟩ ?_
      exact x_X12_two_136 hC hE hk0 _ _
  refine x_tsIn (v := 38) (off := 136) (tgt := 137) hC (zdk dk_X12_two 1 rfl) (by decide) ?_ (fun ht15 => ?_)
  · refine x_lload_n (i := 1) rfl hC (zdk dk_X12_two 53 rfl) (q := 138) rfl ?_
    refine x_lload_n (i := 3) rfl hC (zdk dk_X12_two 54 rfl) (q := 139) rfl ?_
    refine x_lcmp hC (zdk dk_X12_two 55 rfl) (q := 140) rfl ?_
    refine x_if_ge (tgt := 147) hC (zdk dk_X12_two 56 rfl) (q := 143) rfl rfl (fun _ => ?_) (fun _ => ?_)
    · refine x_lconst (i := 0) c_lconst_0 hC (zdk dk_X12_two 59 rfl) (q := 148) rfl ?_
      refine x_weak (L' := [.null, .null, .null, .null, .null]) ⟨Or.inl rfl, Or.inl rfl, Or.inl rfl, Or.inl rfl, Or.inl rfl, trivial⟩ ?_
      exact x_X12_two_148 hC hE hk0 _ _
    · refine x_lconst (i := 1) c_lconst_1 hC (zdk dk_X12_two 57 rfl) (q := 144) rfl ?_
      refine x_goto (tgt := 148) hC (zdk dk_X12_two 58 rfl) rfl ?_
      refine x_weak (L' := [.null, .null, .null, .null, .null]) ⟨Or.inl rfl, Or.inl rfl, Or.inl rfl, Or.inl rfl, Or.inl rfl, trivial⟩ ?_
      exact x_X12_two_148 hC hE hk0 _ _
  refine x_tsIn (v := 39) (off := 148) (tgt := 149) hC (zdk dk_X12_two 1 rfl) (by decide) ?_ (fun ht16 => ?_)
  · refine x_lload_n (i := 1) rfl hC (zdk dk_X12_two 61 rfl) (q := 150) rfl ?_
    refine x_lload_n (i := 3) rfl hC (zdk dk_X12_two 62 rfl) (q := 151) rfl ?_
    refine x_lcmp hC (zdk dk_X12_two 63 rfl) (q := 152) rfl ?_
    refine x_if_le (tgt := 159) hC (zdk dk_X12_two 64 rfl) (q := 155) rfl rfl (fun _ => ?_) (fun _ => ?_)
    · refine x_lconst (i := 0) c_lconst_0 hC (zdk dk_X12_two 67 rfl) (q := 160) rfl ?_
      refine x_weak (L' := [.null, .null, .null, .null, .null]) ⟨Or.inl rfl, Or.inl rfl, Or.inl rfl, Or.inl rfl, Or.inl rfl, trivial⟩ ?_
      exact x_X12_two_160 hC hE hk0 _ _
    · refine x_lconst (i := 1) c_lconst_1 hC (zdk dk_X12_two 65 rfl) (q := 156) rfl ?_
      refine x_goto (tgt := 160) hC (zdk dk_X12_two 66 rfl) rfl ?_
      refine x_weak (L' := [.null, .null, .null, .null, .null]) ⟨Or.inl rfl, Or.inl rfl, Or.inl rfl, Or.inl rfl, Or.inl rfl, trivial⟩ ?_
      exact x_X12_two_160 hC hE hk0 _ _
  refine x_tsIn (v := 40) (off := 160) (tgt := 161) hC (zdk dk_X12_two 1 rfl) (by decide) ?_ (fun ht17 => ?_)
  · refine x_lload_n (i := 1) rfl hC (zdk dk_X12_two 69 rfl) (q := 162) rfl ?_
    refine x_lload_n (i := 3) rfl hC (zdk dk_X12_two 70 rfl) (q := 163) rfl ?_
    refine x_lcmp hC (zdk dk_X12_two 71 rfl) (q := 164) rfl ?_
    refine x_if_ne (tgt := 171) hC (zdk dk_X12_two 72 rfl) (q := 167) rfl rfl (fun _ => ?_) (fun _ => ?_)
    · refine x_lconst (i := 0) c_lconst_0 hC (zdk dk_X12_two 75 rfl) (q := 172) rfl ?_
      refine x_weak (L' := [.null, .null, .null, .null, .null]) ⟨Or.inl rfl, Or.inl rfl, Or.inl rfl, Or.inl rfl, Or.inl rfl, trivial⟩ ?_
      exact x_X12_two_172 hC hE hk0 _ _
    · refine x_lconst (i := 1) c_lconst_1 hC (zdk dk_X12_two 73 rfl) (q := 168) rfl ?_
      refine x_goto (tgt := 172) hC (zdk dk_X12_two 74 rfl) rfl ?_
      refine x_weak (L' := [.null, .null, .null, .null, .null]) ⟨Or.inl rfl, Or.inl rfl, Or.inl rfl, Or.inl rfl, Or.inl rfl, trivial⟩ ?_
      exact x_X12_two_172 hC hE hk0 _ _
  refine x_tsIn (v := 41) (off := 172) (tgt := 173) hC (zdk dk_X12_two 1 rfl) (by decide) ?_ (fun ht18 => ?_)
  · refine x_lload_n (i := 1) rfl hC (zdk dk_X12_two 77 rfl) (q := 174) rfl ?_
    refine x_lload_n (i := 3) rfl hC (zdk dk_X12_two 78 rfl) (q := 175) rfl ?_
    refine x_land hC (zdk dk_X12_two 79 rfl) (q := 176) rfl ?_
    exact x_lret hE hC (zdk dk_X12_two 80 rfl)
  refine x_tsOut (tgt := 177) [31, 32, 33, 34, 35, 36, 37, 38, 39, 40, 41] hC (zdk dk_X12_two 1 rfl) (List.forall_mem_cons.2 ⟨ht1, (List.forall_mem_cons.2 ⟨ht3, (List.forall_mem_cons.2 ⟨ht5, (List.forall_mem_cons.2 ⟨ht7, (List.forall_mem_cons.2 ⟨ht10, (List.forall_mem_cons.2 ⟨ht13, (List.forall_mem_cons.2 ⟨ht14, (List.forall_mem_cons.2 ⟨ht15, (List.forall_mem_cons.2 ⟨ht16, (List.forall_mem_cons.2 ⟨ht17, (List.forall_mem_cons.2 ⟨ht18, (fun _ h => absurd h List.not_mem_nil)⟩)⟩)⟩)⟩)⟩)⟩)⟩)⟩)⟩)⟩)⟩) (by decide) rfl ?_
  refine x_lload_n (i := 1) rfl hC (zdk dk_X12_two 81 rfl) (q := 178) rfl ?_
  refine x_lload_n (i := 3) rfl hC (zdk dk_X12_two 82 rfl) (q := 179) rfl ?_
  refine x_lor hC (zdk dk_X12_two 83 rfl) (q := 180) rfl ?_
  exact x_lret hE hC (zdk dk_X12_two 84 rfl)
set_option maxRecDepth 100000 in
set_option maxHeartbeats 4000000 in
theorem t_X12_two {n : Nat} {x0 : Int32} {y1 : Int64} {y3 : Int64} {M : Mem}  (x : (Int64 × Mem)) (hx : f_X12_two x0 y1 y3 M = some x) (l : Launch) (dC : Nat → ClassId) (dI : Nat → Nat → Nat) (b : zSg) : MT l dC dI b yX12_two cX12_two 5 (some .long) 1 0 0 n n [.int x0, .long y1, .long y3] M (emL x).1 (emL x).2 :=
  MT.ofX (by decide +kernel) rfl (Nat.le_of_ble_eq_true rfl) (fun κ hC hF _ => x_X12_two hC (zEnd_of hF (Nat.le_refl _) (Nat.le_refl _)) (zRk_of hF (Nat.le_refl _) (Nat.le_refl _)) _ _ _ _ ) x hx
set_option maxRecDepth 100000 in
def dt_X12_reckons : List (Nat × Instr × Nat) := [(0, .iconst 0, 1), (1, .istore_n 2, 1), (2, .sipush 1600, 3), (5, .aload_n 0, 1), (6, .getfield 51, 3), (9, .imul, 1), (10, .aload_n 0, 1), (11, .getfield 60, 3), (14, .iconst 2, 1), (15, .aload_n 0, 1), (16, .getfield 51, 3), (19, .imul, 1), (20, .iload_n 1, 1), (21, .iadd, 1), (22, .iaload, 1), (23, .iadd, 1), (24, .istore_n 3, 1), (25, .iload_n 3, 1), (26, .sipush 1600, 3), (29, .aload_n 0, 1), (30, .getfield 51, 3), (33, .imul, 1), (34, .aload_n 0, 1), (35, .getfield 63, 3), (38, .iconst 2, 1), (39, .aload_n 0, 1), (40, .getfield 51, 3), (43, .imul, 1), (44, .iload_n 1, 1), (45, .iadd, 1), (46, .iaload, 1), (47, .iadd, 1), (48, .if_icmp .ge 179, 3), (51, .aload_n 0, 1), (52, .getfield 66, 3), (55, .iload_n 3, 1), (56, .iaload, 1), (57, .istore 4, 2), (59, .iload 4, 2), (61, .bipush 30, 2), (63, .if_icmp .gt 49, 3), (66, .aload_n 0, 1), (67, .getfield 210, 3), (70, .iload_n 2, 1), (71, .iload 4, 2), (73, .ifCond .ne 13, 3), (76, .aload_n 0, 1), (77, .getfield 69, 3), (80, .iload_n 3, 1), (81, .iaload, 1), (82, .i2l, 1), (83, .goto 22, 3), (86, .iload 4, 2), (88, .bipush 30, 2), (90, .if_icmp .ne 7, 3), (93, .lconst 1, 1), (94, .goto 11, 3), (97, .aload_n 0, 1), (98, .getfield 213, 3), (101, .iload 4, 2), (103, .iaload, 1), (104, .i2l, 1), (105, .lastore, 1), (106, .iinc 2 1, 3), (109, .goto 112, 3), (112, .iload 4, 2), (114, .bipush 43, 2), (116, .if_icmp .ne 24, 3), (119, .aload_n 0, 1), (120, .getfield 210, 3), (123, .iload_n 2, 1), (124, .iconst 1, 1), (125, .isub, 1), (126, .lconst 1, 1), (127, .aload_n 0, 1), (128, .getfield 210, 3), (131, .iload_n 2, 1), (132, .iconst 1, 1), (133, .isub, 1), (134, .laload, 1), (135, .lsub, 1), (136, .lastore, 1), (137, .goto 84, 3), (140, .iload 4, 2), (142, .bipush 44, 2), (144, .if_icmp .ne 47, 3), (147, .iinc 2 (-2), 3), (150, .aload_n 0, 1), (151, .getfield 210, 3), (154, .iload_n 2, 1), (155, .iconst 1, 1), (156, .isub, 1), (157, .aload_n 0, 1), (158, .getfield 210, 3), (161, .iload_n 2, 1), (162, .iconst 1, 1), (163, .isub, 1), (164, .laload, 1), (165, .lconst 1, 1), (166, .lcmp, 1), (167, .ifCond .ne 12, 3), (170, .aload_n 0, 1), (171, .getfield 210, 3), (174, .iload_n 2, 1), (175, .laload, 1), (176, .goto 11, 3), (179, .aload_n 0, 1), (180, .getfield 210, 3), (183, .iload_n 2, 1), (184, .iconst 1, 1), (185, .iadd, 1), (186, .laload, 1), (187, .lastore, 1), (188, .goto 33, 3), (191, .iinc 2 (-1), 3), (194, .aload_n 0, 1), (195, .getfield 210, 3), (198, .iload_n 2, 1), (199, .iconst 1, 1), (200, .isub, 1), (201, .iload 4, 2), (203, .aload_n 0, 1), (204, .getfield 210, 3), (207, .iload_n 2, 1), (208, .iconst 1, 1), (209, .isub, 1), (210, .laload, 1), (211, .aload_n 0, 1), (212, .getfield 210, 3), (215, .iload_n 2, 1), (216, .laload, 1), (217, .invokestatic 493, 3), (220, .lastore, 1), (221, .iinc 3 1, 3), (224, .goto (-199), 3), (227, .aload_n 0, 1), (228, .getfield 210, 3), (231, .iconst 0, 1), (232, .laload, 1), (233, .lreturn, 1)]
set_option maxRecDepth 100000 in
theorem dk_X12_reckons : dt_X12_reckons.all (fun q => decide (decode cX12_reckons q.1 = .ok q.2)) = true := by decide +kernel
set_option maxRecDepth 100000 in
def f_X12_reckons_221 (k25 : Int32 → Int32 → Mem → Option (Int64 × Mem)) (r0 : Nat) (x1 : Int32) (x2 : Int32) (x3 : Int32) (M : Mem) : Option (Int64 × Mem) := k25 x2 (x3 + 1) M
set_option maxRecDepth 100000 in
set_option maxHeartbeats 4000000 in
theorem x_X12_reckons_221 {κ : KX} {n : Nat} (hC : CX κ cX12_reckons RX12 5 (some .long) 2) (hE : zEnd κ n (0, 0)) (hk0 : zRk κ (0, 0)) {r0 : Nat} {x1 : Int32} (h_r0 : zO n r0 12) (k25 : Int32 → Int32 → Mem → Option (Int64 × Mem)) (hk25 : ∀ (x2 : Int32) (x3 : Int32) (M : Mem), X κ 5 emL n (0, 0) 25 [.ref r0, .int x1, .int x2, .int x3, .null] [] M (k25 x2 x3 M)) (x2 : Int32) (x3 : Int32) (M : Mem) : X κ 5 emL n (0, 0) 221 [.ref r0, .int x1, .int x2, .int x3, .null] [] M (f_X12_reckons_221 k25 r0 x1 x2 x3 M) := by
  unfold f_X12_reckons_221
  refine x_iinc (i := 3) c_iconst_1 rfl (by decide) (L' := [.ref r0, .int x1, .int x2, .int (x3 + 1), .null]) rfl hC (zdk dk_X12_reckons 133 rfl) (q := 224) rfl ?_
  refine x_goto (tgt := 25) hC (zdk dk_X12_reckons 134 rfl) rfl ?_
  refine x_weak (L' := [.ref r0, .int x1, .int x2, .int (x3 + 1), .null]) ⟨Or.inr rfl, Or.inr rfl, Or.inr rfl, Or.inr rfl, Or.inl rfl, trivial⟩ ?_
  exact hk25 _ _ _
set_option maxRecDepth 100000 in
def f_X12_reckons_105 (k25 : Int32 → Int32 → Mem → Option (Int64 × Mem)) (r0 : Nat) (x1 : Int32) (x2 : Int32) (x3 : Int32) (s0 : Nat) (s1 : Int32) (s2 : Int64) (M : Mem) : Option (Int64 × Mem) := Option.bind (zld s0 s1) fun k1 => Option.bind (some (zsL M s0 k1 s2)) fun M2 => f_X12_reckons_221 k25 r0 x1 (x2 + 1) x3 M2
set_option maxRecDepth 100000 in
set_option maxHeartbeats 4000000 in
theorem x_X12_reckons_105 {κ : KX} {n : Nat} (hC : CX κ cX12_reckons RX12 5 (some .long) 2) (hE : zEnd κ n (0, 0)) (hk0 : zRk κ (0, 0)) {r0 : Nat} {x1 : Int32} (h_r0 : zO n r0 12) (k25 : Int32 → Int32 → Mem → Option (Int64 × Mem)) (hk25 : ∀ (x2 : Int32) (x3 : Int32) (M : Mem), X κ 5 emL n (0, 0) 25 [.ref r0, .int x1, .int x2, .int x3, .null] [] M (k25 x2 x3 M)) (x2 : Int32) (x3 : Int32) (s0 : Nat) (s1 : Int32) (s2 : Int64) (M : Mem) (h_s0 : zO n s0 21) : X κ 5 emL n (0, 0) 105 [.ref r0, .int x1, .int x2, .int x3, .null] [.long s2, .int s1, .ref s0] M (f_X12_reckons_105 k25 r0 x1 x2 x3 s0 s1 s2 M) := by
  unfold f_X12_reckons_105
  refine x_last h_s0 hC (zdk dk_X12_reckons 62 rfl) (q := 106) rfl (fun k1 _ => ?_)
  refine x_nmM (fun M2 => ?_)
  refine x_iinc (i := 2) c_iconst_1 rfl (by decide) (L' := [.ref r0, .int x1, .int (x2 + 1), .int x3, .null]) rfl hC (zdk dk_X12_reckons 63 rfl) (q := 109) rfl ?_
  refine x_goto (tgt := 221) hC (zdk dk_X12_reckons 64 rfl) rfl ?_
  refine x_weak (L' := [.ref r0, .int x1, .int (x2 + 1), .int x3, .null]) ⟨Or.inr rfl, Or.inr rfl, Or.inr rfl, Or.inr rfl, Or.inl rfl, trivial⟩ ?_
  exact x_X12_reckons_221 hC hE hk0 h_r0 k25 hk25 _ _ _
set_option maxRecDepth 100000 in
def f_X12_reckons_187 (k25 : Int32 → Int32 → Mem → Option (Int64 × Mem)) (r0 : Nat) (x1 : Int32) (x2 : Int32) (x3 : Int32) (s0 : Nat) (s1 : Int32) (s2 : Int64) (M : Mem) : Option (Int64 × Mem) := Option.bind (zld s0 s1) fun k3 => Option.bind (some (zsL M s0 k3 s2)) fun M4 => f_X12_reckons_221 k25 r0 x1 x2 x3 M4
set_option maxRecDepth 100000 in
set_option maxHeartbeats 4000000 in
theorem x_X12_reckons_187 {κ : KX} {n : Nat} (hC : CX κ cX12_reckons RX12 5 (some .long) 2) (hE : zEnd κ n (0, 0)) (hk0 : zRk κ (0, 0)) {r0 : Nat} {x1 : Int32} (h_r0 : zO n r0 12) (k25 : Int32 → Int32 → Mem → Option (Int64 × Mem)) (hk25 : ∀ (x2 : Int32) (x3 : Int32) (M : Mem), X κ 5 emL n (0, 0) 25 [.ref r0, .int x1, .int x2, .int x3, .null] [] M (k25 x2 x3 M)) (x2 : Int32) (x3 : Int32) (s0 : Nat) (s1 : Int32) (s2 : Int64) (M : Mem) (h_s0 : zO n s0 21) : X κ 5 emL n (0, 0) 187 [.ref r0, .int x1, .int x2, .int x3, .null] [.long s2, .int s1, .ref s0] M (f_X12_reckons_187 k25 r0 x1 x2 x3 s0 s1 s2 M) := by
  unfold f_X12_reckons_187
  refine x_last h_s0 hC (zdk dk_X12_reckons 112 rfl) (q := 188) rfl (fun k3 _ => ?_)
  refine x_nmM (fun M4 => ?_)
  refine x_goto (tgt := 221) hC (zdk dk_X12_reckons 113 rfl) rfl ?_
  refine x_weak (L' := [.ref r0, .int x1, .int x2, .int x3, .null]) ⟨Or.inr rfl, Or.inr rfl, Or.inr rfl, Or.inr rfl, Or.inl rfl, trivial⟩ ?_
  exact x_X12_reckons_221 hC hE hk0 h_r0 k25 hk25 _ _ _
set_option maxRecDepth 100000 in
def f_X12_reckons_25  (r0 : Nat) (x1 : Int32) : Nat → Int32 → Int32 → Mem → Option (Int64 × Mem)
  | 0, _, _, _ => none
  | f + 1, x2, x3, M => Option.bind (zrf M r0 17) fun q5 => Option.bind (zld q5 ((2 * (zI M r0 13)) + x1)) fun k6 => (if (1600 * (zI M r0 13)) + (zI M q5 k6) ≤ x3 then Option.bind (zrf M r0 65) fun q7 => Option.bind (zld q7 0) fun k8 => some (zL M q7 k8, M) else Option.bind (zrf M r0 18) fun q9 => Option.bind (zld q9 x3) fun k10 => (if 30 < zI M q9 k10 then (if zI M q9 k10 = 43 then Option.bind (zrf M r0 65) fun q26 => Option.bind (zrf M r0 65) fun q27 => Option.bind (zld q27 (x2 - 1)) fun k28 => Option.bind (zld q26 (x2 - 1)) fun k29 => Option.bind (some (zsL M q26 k29 (1 - (zL M q27 k28)))) fun M30 => f_X12_reckons_221 (f_X12_reckons_25 r0 x1 f) r0 x1 x2 x3 M30 else (if zI M q9 k10 = 44 then Option.bind (zrf M r0 65) fun q19 => Option.bind (zrf M r0 65) fun q20 => Option.bind (zld q20 ((x2 + (-2)) - 1)) fun k21 => (if lg_cmp (zL M q20 k21) 1 = 0 then Option.bind (zrf M r0 65) fun q24 => Option.bind (zld q24 (x2 + (-2))) fun k25 => f_X12_reckons_187 (f_X12_reckons_25 r0 x1 f) r0 x1 (x2 + (-2)) x3 q19 ((x2 + (-2)) - 1) (zL M q24 k25) M else Option.bind (zrf M r0 65) fun q22 => Option.bind (zld q22 ((x2 + (-2)) + 1)) fun k23 => f_X12_reckons_187 (f_X12_reckons_25 r0 x1 f) r0 x1 (x2 + (-2)) x3 q19 ((x2 + (-2)) - 1) (zL M q22 k23) M) else Option.bind (zrf M r0 65) fun q11 => Option.bind (zrf M r0 65) fun q12 => Option.bind (zld q12 ((x2 + (-1)) - 1)) fun k13 => Option.bind (zrf M r0 65) fun q14 => Option.bind (zld q14 (x2 + (-1))) fun k15 => Option.bind (f_X12_two (zI M q9 k10) (zL M q12 k13) (zL M q14 k15) M) fun z16 => Option.bind (zld q11 ((x2 + (-1)) - 1)) fun k17 => Option.bind (some (zsL z16.2 q11 k17 z16.1)) fun M18 => f_X12_reckons_221 (f_X12_reckons_25 r0 x1 f) r0 x1 (x2 + (-1)) x3 M18)) else Option.bind (zrf M r0 65) fun q31 => (if zI M q9 k10 = 0 then Option.bind (zrf M r0 19) fun q34 => Option.bind (zld q34 x3) fun k35 => f_X12_reckons_105 (f_X12_reckons_25 r0 x1 f) r0 x1 x2 x3 q31 x2 ((zI M q34 k35).toInt64) M else (if zI M q9 k10 = 30 then f_X12_reckons_105 (f_X12_reckons_25 r0 x1 f) r0 x1 x2 x3 q31 x2 1 M else Option.bind (zrf M r0 66) fun q32 => Option.bind (zld q32 (zI M q9 k10)) fun k33 => f_X12_reckons_105 (f_X12_reckons_25 r0 x1 f) r0 x1 x2 x3 q31 x2 ((zI M q32 k33).toInt64) M))))
set_option maxRecDepth 100000 in
set_option maxHeartbeats 4000000 in
theorem x_X12_reckons_25 {κ : KX} {n : Nat} (hC : CX κ cX12_reckons RX12 5 (some .long) 2) (hE : zEnd κ n (0, 0)) (hk0 : zRk κ (0, 0)) {r0 : Nat} {x1 : Int32} (h_r0 : zO n r0 12) : ∀ (f : Nat) (x2 : Int32) (x3 : Int32) (M : Mem), X κ 5 emL n (0, 0) 25 [.ref r0, .int x1, .int x2, .int x3, .null] [] M (f_X12_reckons_25 r0 x1 f x2 x3 M) := by
  intro f
  induction f with
  | zero => intros; exact x_none
  | succ f ih =>
    intro x2 x3 M 
    rw [f_X12_reckons_25]
    refine x_iload_n (i := 3) rfl hC (zdk dk_X12_reckons 17 rfl) (q := 26) rfl ?_
    refine x_sipush (i := 1600) c_sipush_1600 hC (zdk dk_X12_reckons 18 rfl) (q := 29) rfl ?_
    refine x_aload_n (i := 0) rfl hC (zdk dk_X12_reckons 19 rfl) (q := 30) rfl ?_
    refine x_getI fl_RX12_51 (by decide) h_r0 hC (zdk dk_X12_reckons 20 rfl) (q := 33) rfl ?_
    refine x_imul hC (zdk dk_X12_reckons 21 rfl) (q := 34) rfl ?_
    refine x_aload_n (i := 0) rfl hC (zdk dk_X12_reckons 22 rfl) (q := 35) rfl ?_
    refine x_getR (k := 20) fl_RX12_63 rfl h_r0 hC (zdk dk_X12_reckons 23 rfl) (q := 38) rfl (fun q5 hq5 => ?_)
    refine x_iconst (i := 2) c_iconst_2 hC (zdk dk_X12_reckons 24 rfl) (q := 39) rfl ?_
    refine x_aload_n (i := 0) rfl hC (zdk dk_X12_reckons 25 rfl) (q := 40) rfl ?_
    refine x_getI fl_RX12_51 (by decide) h_r0 hC (zdk dk_X12_reckons 26 rfl) (q := 43) rfl ?_
    refine x_imul hC (zdk dk_X12_reckons 27 rfl) (q := 44) rfl ?_
    refine x_iload_n (i := 1) rfl hC (zdk dk_X12_reckons 28 rfl) (q := 45) rfl ?_
    refine x_iadd hC (zdk dk_X12_reckons 29 rfl) (q := 46) rfl ?_
    refine x_iald hq5 hC (zdk dk_X12_reckons 30 rfl) (q := 47) rfl (fun k6 _ => ?_)
    refine x_iadd hC (zdk dk_X12_reckons 31 rfl) (q := 48) rfl ?_
    refine x_icmp_ge (tgt := 227) hC (zdk dk_X12_reckons 32 rfl) (q := 51) rfl rfl (fun _ => ?_) (fun _ => ?_)
    · refine x_aload_n (i := 0) rfl hC (zdk dk_X12_reckons 135 rfl) (q := 228) rfl ?_
      refine x_getR (k := 21) fl_RX12_210 rfl h_r0 hC (zdk dk_X12_reckons 136 rfl) (q := 231) rfl (fun q7 hq7 => ?_)
      refine x_iconst (i := 0) c_iconst_0 hC (zdk dk_X12_reckons 137 rfl) (q := 232) rfl ?_
      refine x_lald hq7 hC (zdk dk_X12_reckons 138 rfl) (q := 233) rfl (fun k8 _ => ?_)
      exact x_lret hE hC (zdk dk_X12_reckons 139 rfl)
    · refine x_aload_n (i := 0) rfl hC (zdk dk_X12_reckons 33 rfl) (q := 52) rfl ?_
      refine x_getR (k := 20) fl_RX12_66 rfl h_r0 hC (zdk dk_X12_reckons 34 rfl) (q := 55) rfl (fun q9 hq9 => ?_)
      refine x_iload_n (i := 3) rfl hC (zdk dk_X12_reckons 35 rfl) (q := 56) rfl ?_
      refine x_iald hq9 hC (zdk dk_X12_reckons 36 rfl) (q := 57) rfl (fun k10 _ => ?_)
      refine x_istore (i := 4) (L' := [.ref r0, .int x1, .int x2, .int x3, .int (zI M q9 k10)]) (by decide) rfl hC (zdk dk_X12_reckons 37 rfl) (q := 59) rfl ?_
      refine x_iload (i := 4) rfl hC (zdk dk_X12_reckons 38 rfl) (q := 61) rfl ?_
      refine x_bipush (i := 30) c_bipush_30 hC (zdk dk_X12_reckons 39 rfl) (q := 63) rfl ?_
      refine x_icmp_gt (tgt := 112) hC (zdk dk_X12_reckons 40 rfl) (q := 66) rfl rfl (fun _ => ?_) (fun _ => ?_)
      · refine x_iload (i := 4) rfl hC (zdk dk_X12_reckons 65 rfl) (q := 114) rfl ?_
        refine x_bipush (i := 43) c_bipush_43 hC (zdk dk_X12_reckons 66 rfl) (q := 116) rfl ?_
        refine x_icmp_ne (tgt := 140) hC (zdk dk_X12_reckons 67 rfl) (q := 119) rfl rfl (fun _ => ?_) (fun _ => ?_)
        · refine x_iload (i := 4) rfl hC (zdk dk_X12_reckons 83 rfl) (q := 142) rfl ?_
          refine x_bipush (i := 44) c_bipush_44 hC (zdk dk_X12_reckons 84 rfl) (q := 144) rfl ?_
          refine x_icmp_ne (tgt := 191) hC (zdk dk_X12_reckons 85 rfl) (q := 147) rfl rfl (fun _ => ?_) (fun _ => ?_)
          · refine x_iinc (i := 2) c_iconst_m1 rfl (by decide) (L' := [.ref r0, .int x1, .int (x2 + (-1)), .int x3, .int (zI M q9 k10)]) rfl hC (zdk dk_X12_reckons 114 rfl) (q := 194) rfl ?_
            refine x_aload_n (i := 0) rfl hC (zdk dk_X12_reckons 115 rfl) (q := 195) rfl ?_
            refine x_getR (k := 21) fl_RX12_210 rfl h_r0 hC (zdk dk_X12_reckons 116 rfl) (q := 198) rfl (fun q11 hq11 => ?_)
            refine x_iload_n (i := 2) rfl hC (zdk dk_X12_reckons 117 rfl) (q := 199) rfl ?_
            refine x_iconst (i := 1) c_iconst_1 hC (zdk dk_X12_reckons 118 rfl) (q := 200) rfl ?_
            refine x_isub hC (zdk dk_X12_reckons 119 rfl) (q := 201) rfl ?_
            refine x_iload (i := 4) rfl hC (zdk dk_X12_reckons 120 rfl) (q := 203) rfl ?_
            refine x_aload_n (i := 0) rfl hC (zdk dk_X12_reckons 121 rfl) (q := 204) rfl ?_
            refine x_getR (k := 21) fl_RX12_210 rfl h_r0 hC (zdk dk_X12_reckons 122 rfl) (q := 207) rfl (fun q12 hq12 => ?_)
            refine x_iload_n (i := 2) rfl hC (zdk dk_X12_reckons 123 rfl) (q := 208) rfl ?_
            refine x_iconst (i := 1) c_iconst_1 hC (zdk dk_X12_reckons 124 rfl) (q := 209) rfl ?_
            refine x_isub hC (zdk dk_X12_reckons 125 rfl) (q := 210) rfl ?_
            refine x_lald hq12 hC (zdk dk_X12_reckons 126 rfl) (q := 211) rfl (fun k13 _ => ?_)
            refine x_aload_n (i := 0) rfl hC (zdk dk_X12_reckons 127 rfl) (q := 212) rfl ?_
            refine x_getR (k := 21) fl_RX12_210 rfl h_r0 hC (zdk dk_X12_reckons 128 rfl) (q := 215) rfl (fun q14 hq14 => ?_)
            refine x_iload_n (i := 2) rfl hC (zdk dk_X12_reckons 129 rfl) (q := 216) rfl ?_
            refine x_lald hq14 hC (zdk dk_X12_reckons 130 rfl) (q := 217) rfl (fun k15 _ => ?_)
            refine x_callSl (as := [.int (zI M q9 k10), .long (zL M q12 k13), .long (zL M q14 k15)]) cb_RX12_493 rfl (by decide) hk0 (fun x hx => t_X12_two  x hx) hC (zdk dk_X12_reckons 131 rfl) (q := 220) rfl rfl (Nat.le_of_ble_eq_true rfl) (fun z16 => ?_)
            refine x_last hq11 hC (zdk dk_X12_reckons 132 rfl) (q := 221) rfl (fun k17 _ => ?_)
            refine x_nmM (fun M18 => ?_)
            refine x_weak (L' := [.ref r0, .int x1, .int (x2 + (-1)), .int x3, .null]) ⟨Or.inr rfl, Or.inr rfl, Or.inr rfl, Or.inr rfl, Or.inl rfl, trivial⟩ ?_
            exact x_X12_reckons_221 hC hE hk0 h_r0 (f_X12_reckons_25 r0 x1 f) ih _ _ _
          · refine x_iinc (i := 2) c_iconst_m2 rfl (by decide) (L' := [.ref r0, .int x1, .int (x2 + (-2)), .int x3, .int (zI M q9 k10)]) rfl hC (zdk dk_X12_reckons 86 rfl) (q := 150) rfl ?_
            refine x_aload_n (i := 0) rfl hC (zdk dk_X12_reckons 87 rfl) (q := 151) rfl ?_
            refine x_getR (k := 21) fl_RX12_210 rfl h_r0 hC (zdk dk_X12_reckons 88 rfl) (q := 154) rfl (fun q19 hq19 => ?_)
            refine x_iload_n (i := 2) rfl hC (zdk dk_X12_reckons 89 rfl) (q := 155) rfl ?_
            refine x_iconst (i := 1) c_iconst_1 hC (zdk dk_X12_reckons 90 rfl) (q := 156) rfl ?_
            refine x_isub hC (zdk dk_X12_reckons 91 rfl) (q := 157) rfl ?_
            refine x_aload_n (i := 0) rfl hC (zdk dk_X12_reckons 92 rfl) (q := 158) rfl ?_
            refine x_getR (k := 21) fl_RX12_210 rfl h_r0 hC (zdk dk_X12_reckons 93 rfl) (q := 161) rfl (fun q20 hq20 => ?_)
            refine x_iload_n (i := 2) rfl hC (zdk dk_X12_reckons 94 rfl) (q := 162) rfl ?_
            refine x_iconst (i := 1) c_iconst_1 hC (zdk dk_X12_reckons 95 rfl) (q := 163) rfl ?_
            refine x_isub hC (zdk dk_X12_reckons 96 rfl) (q := 164) rfl ?_
            refine x_lald hq20 hC (zdk dk_X12_reckons 97 rfl) (q := 165) rfl (fun k21 _ => ?_)
            refine x_lconst (i := 1) c_lconst_1 hC (zdk dk_X12_reckons 98 rfl) (q := 166) rfl ?_
            refine x_lcmp hC (zdk dk_X12_reckons 99 rfl) (q := 167) rfl ?_
            refine x_if_ne (tgt := 179) hC (zdk dk_X12_reckons 100 rfl) (q := 170) rfl rfl (fun _ => ?_) (fun _ => ?_)
            · refine x_aload_n (i := 0) rfl hC (zdk dk_X12_reckons 106 rfl) (q := 180) rfl ?_
              refine x_getR (k := 21) fl_RX12_210 rfl h_r0 hC (zdk dk_X12_reckons 107 rfl) (q := 183) rfl (fun q22 hq22 => ?_)
              refine x_iload_n (i := 2) rfl hC (zdk dk_X12_reckons 108 rfl) (q := 184) rfl ?_
              refine x_iconst (i := 1) c_iconst_1 hC (zdk dk_X12_reckons 109 rfl) (q := 185) rfl ?_
              refine x_iadd hC (zdk dk_X12_reckons 110 rfl) (q := 186) rfl ?_
              refine x_lald hq22 hC (zdk dk_X12_reckons 111 rfl) (q := 187) rfl (fun k23 _ => ?_)
              refine x_weak (L' := [.ref r0, .int x1, .int (x2 + (-2)), .int x3, .null]) ⟨Or.inr rfl, Or.inr rfl, Or.inr rfl, Or.inr rfl, Or.inl rfl, trivial⟩ ?_
              exact x_X12_reckons_187 hC hE hk0 h_r0 (f_X12_reckons_25 r0 x1 f) ih _ _ _ _ _ _ hq19
            · refine x_aload_n (i := 0) rfl hC (zdk dk_X12_reckons 101 rfl) (q := 171) rfl ?_
              refine x_getR (k := 21) fl_RX12_210 rfl h_r0 hC (zdk dk_X12_reckons 102 rfl) (q := 174) rfl (fun q24 hq24 => ?_)
              refine x_iload_n (i := 2) rfl hC (zdk dk_X12_reckons 103 rfl) (q := 175) rfl ?_
              refine x_lald hq24 hC (zdk dk_X12_reckons 104 rfl) (q := 176) rfl (fun k25 _ => ?_)
              refine x_goto (tgt := 187) hC (zdk dk_X12_reckons 105 rfl) rfl ?_
              refine x_weak (L' := [.ref r0, .int x1, .int (x2 + (-2)), .int x3, .null]) ⟨Or.inr rfl, Or.inr rfl, Or.inr rfl, Or.inr rfl, Or.inl rfl, trivial⟩ ?_
              exact x_X12_reckons_187 hC hE hk0 h_r0 (f_X12_reckons_25 r0 x1 f) ih _ _ _ _ _ _ hq19
        · refine x_aload_n (i := 0) rfl hC (zdk dk_X12_reckons 68 rfl) (q := 120) rfl ?_
          refine x_getR (k := 21) fl_RX12_210 rfl h_r0 hC (zdk dk_X12_reckons 69 rfl) (q := 123) rfl (fun q26 hq26 => ?_)
          refine x_iload_n (i := 2) rfl hC (zdk dk_X12_reckons 70 rfl) (q := 124) rfl ?_
          refine x_iconst (i := 1) c_iconst_1 hC (zdk dk_X12_reckons 71 rfl) (q := 125) rfl ?_
          refine x_isub hC (zdk dk_X12_reckons 72 rfl) (q := 126) rfl ?_
          refine x_lconst (i := 1) c_lconst_1 hC (zdk dk_X12_reckons 73 rfl) (q := 127) rfl ?_
          refine x_aload_n (i := 0) rfl hC (zdk dk_X12_reckons 74 rfl) (q := 128) rfl ?_
          refine x_getR (k := 21) fl_RX12_210 rfl h_r0 hC (zdk dk_X12_reckons 75 rfl) (q := 131) rfl (fun q27 hq27 => ?_)
          refine x_iload_n (i := 2) rfl hC (zdk dk_X12_reckons 76 rfl) (q := 132) rfl ?_
          refine x_iconst (i := 1) c_iconst_1 hC (zdk dk_X12_reckons 77 rfl) (q := 133) rfl ?_
          refine x_isub hC (zdk dk_X12_reckons 78 rfl) (q := 134) rfl ?_
          refine x_lald hq27 hC (zdk dk_X12_reckons 79 rfl) (q := 135) rfl (fun k28 _ => ?_)
          refine x_lsub hC (zdk dk_X12_reckons 80 rfl) (q := 136) rfl ?_
          refine x_last hq26 hC (zdk dk_X12_reckons 81 rfl) (q := 137) rfl (fun k29 _ => ?_)
          refine x_nmM (fun M30 => ?_)
          refine x_goto (tgt := 221) hC (zdk dk_X12_reckons 82 rfl) rfl ?_
          refine x_weak (L' := [.ref r0, .int x1, .int x2, .int x3, .null]) ⟨Or.inr rfl, Or.inr rfl, Or.inr rfl, Or.inr rfl, Or.inl rfl, trivial⟩ ?_
          exact x_X12_reckons_221 hC hE hk0 h_r0 (f_X12_reckons_25 r0 x1 f) ih _ _ _
      · refine x_aload_n (i := 0) rfl hC (zdk dk_X12_reckons 41 rfl) (q := 67) rfl ?_
        refine x_getR (k := 21) fl_RX12_210 rfl h_r0 hC (zdk dk_X12_reckons 42 rfl) (q := 70) rfl (fun q31 hq31 => ?_)
        refine x_iload_n (i := 2) rfl hC (zdk dk_X12_reckons 43 rfl) (q := 71) rfl ?_
        refine x_iload (i := 4) rfl hC (zdk dk_X12_reckons 44 rfl) (q := 73) rfl ?_
        refine x_if_ne (tgt := 86) hC (zdk dk_X12_reckons 45 rfl) (q := 76) rfl rfl (fun _ => ?_) (fun _ => ?_)
        · refine x_iload (i := 4) rfl hC (zdk dk_X12_reckons 52 rfl) (q := 88) rfl ?_
          refine x_bipush (i := 30) c_bipush_30 hC (zdk dk_X12_reckons 53 rfl) (q := 90) rfl ?_
          refine x_icmp_ne (tgt := 97) hC (zdk dk_X12_reckons 54 rfl) (q := 93) rfl rfl (fun _ => ?_) (fun _ => ?_)
          · refine x_aload_n (i := 0) rfl hC (zdk dk_X12_reckons 57 rfl) (q := 98) rfl ?_
            refine x_getR (k := 20) fl_RX12_213 rfl h_r0 hC (zdk dk_X12_reckons 58 rfl) (q := 101) rfl (fun q32 hq32 => ?_)
            refine x_iload (i := 4) rfl hC (zdk dk_X12_reckons 59 rfl) (q := 103) rfl ?_
            refine x_iald hq32 hC (zdk dk_X12_reckons 60 rfl) (q := 104) rfl (fun k33 _ => ?_)
            refine x_i2l hC (zdk dk_X12_reckons 61 rfl) (q := 105) rfl ?_
            refine x_weak (L' := [.ref r0, .int x1, .int x2, .int x3, .null]) ⟨Or.inr rfl, Or.inr rfl, Or.inr rfl, Or.inr rfl, Or.inl rfl, trivial⟩ ?_
            exact x_X12_reckons_105 hC hE hk0 h_r0 (f_X12_reckons_25 r0 x1 f) ih _ _ _ _ _ _ hq31
          · refine x_lconst (i := 1) c_lconst_1 hC (zdk dk_X12_reckons 55 rfl) (q := 94) rfl ?_
            refine x_goto (tgt := 105) hC (zdk dk_X12_reckons 56 rfl) rfl ?_
            refine x_weak (L' := [.ref r0, .int x1, .int x2, .int x3, .null]) ⟨Or.inr rfl, Or.inr rfl, Or.inr rfl, Or.inr rfl, Or.inl rfl, trivial⟩ ?_
            exact x_X12_reckons_105 hC hE hk0 h_r0 (f_X12_reckons_25 r0 x1 f) ih _ _ _ _ _ _ hq31
        · refine x_aload_n (i := 0) rfl hC (zdk dk_X12_reckons 46 rfl) (q := 77) rfl ?_
          refine x_getR (k := 20) fl_RX12_69 rfl h_r0 hC (zdk dk_X12_reckons 47 rfl) (q := 80) rfl (fun q34 hq34 => ?_)
          refine x_iload_n (i := 3) rfl hC (zdk dk_X12_reckons 48 rfl) (q := 81) rfl ?_
          refine x_iald hq34 hC (zdk dk_X12_reckons 49 rfl) (q := 82) rfl (fun k35 _ => ?_)
          refine x_i2l hC (zdk dk_X12_reckons 50 rfl) (q := 83) rfl ?_
          refine x_goto (tgt := 105) hC (zdk dk_X12_reckons 51 rfl) rfl ?_
          refine x_weak (L' := [.ref r0, .int x1, .int x2, .int x3, .null]) ⟨Or.inr rfl, Or.inr rfl, Or.inr rfl, Or.inr rfl, Or.inl rfl, trivial⟩ ?_
          exact x_X12_reckons_105 hC hE hk0 h_r0 (f_X12_reckons_25 r0 x1 f) ih _ _ _ _ _ _ hq31
set_option maxRecDepth 100000 in
def f_X12_reckons (r0 : Nat) (x1 : Int32) (M : Mem) : Option (Int64 × Mem) := Option.bind (zrf M r0 16) fun q36 => Option.bind (zld q36 ((2 * (zI M r0 13)) + x1)) fun k37 => f_X12_reckons_25 r0 x1 1000000 0 ((1600 * (zI M r0 13)) + (zI M q36 k37)) M
set_option maxRecDepth 100000 in
set_option maxHeartbeats 4000000 in
theorem x_X12_reckons {κ : KX} {n : Nat} (hC : CX κ cX12_reckons RX12 5 (some .long) 2) (hE : zEnd κ n (0, 0)) (hk0 : zRk κ (0, 0)) (r0 : Nat) (x1 : Int32) (M : Mem) (h_r0 : zO n r0 12) : X κ 5 emL n (0, 0) 0 [.ref r0, .int x1, .null, .null, .null] [] M (f_X12_reckons r0 x1 M) := by
  unfold f_X12_reckons
  refine x_iconst (i := 0) c_iconst_0 hC (zdk dk_X12_reckons 0 rfl) (q := 1) rfl ?_
  refine x_istore_n (i := 2) (L' := [.ref r0, .int x1, .int 0, .null, .null]) (by decide) rfl hC (zdk dk_X12_reckons 1 rfl) (q := 2) rfl ?_
  refine x_sipush (i := 1600) c_sipush_1600 hC (zdk dk_X12_reckons 2 rfl) (q := 5) rfl ?_
  refine x_aload_n (i := 0) rfl hC (zdk dk_X12_reckons 3 rfl) (q := 6) rfl ?_
  refine x_getI fl_RX12_51 (by decide) h_r0 hC (zdk dk_X12_reckons 4 rfl) (q := 9) rfl ?_
  refine x_imul hC (zdk dk_X12_reckons 5 rfl) (q := 10) rfl ?_
  refine x_aload_n (i := 0) rfl hC (zdk dk_X12_reckons 6 rfl) (q := 11) rfl ?_
  refine x_getR (k := 20) fl_RX12_60 rfl h_r0 hC (zdk dk_X12_reckons 7 rfl) (q := 14) rfl (fun q36 hq36 => ?_)
  refine x_iconst (i := 2) c_iconst_2 hC (zdk dk_X12_reckons 8 rfl) (q := 15) rfl ?_
  refine x_aload_n (i := 0) rfl hC (zdk dk_X12_reckons 9 rfl) (q := 16) rfl ?_
  refine x_getI fl_RX12_51 (by decide) h_r0 hC (zdk dk_X12_reckons 10 rfl) (q := 19) rfl ?_
  refine x_imul hC (zdk dk_X12_reckons 11 rfl) (q := 20) rfl ?_
  refine x_iload_n (i := 1) rfl hC (zdk dk_X12_reckons 12 rfl) (q := 21) rfl ?_
  refine x_iadd hC (zdk dk_X12_reckons 13 rfl) (q := 22) rfl ?_
  refine x_iald hq36 hC (zdk dk_X12_reckons 14 rfl) (q := 23) rfl (fun k37 _ => ?_)
  refine x_iadd hC (zdk dk_X12_reckons 15 rfl) (q := 24) rfl ?_
  refine x_istore_n (i := 3) (L' := [.ref r0, .int x1, .int 0, .int ((1600 * (zI M r0 13)) + (zI M q36 k37)), .null]) (by decide) rfl hC (zdk dk_X12_reckons 16 rfl) (q := 25) rfl ?_
  refine x_weak (L' := [.ref r0, .int x1, .int 0, .int ((1600 * (zI M r0 13)) + (zI M q36 k37)), .null]) ⟨Or.inr rfl, Or.inr rfl, Or.inr rfl, Or.inr rfl, Or.inl rfl, trivial⟩ ?_
  exact x_X12_reckons_25 hC hE hk0 h_r0 _ _ _ _
set_option maxRecDepth 100000 in
set_option maxHeartbeats 4000000 in
theorem t_X12_reckons {n : Nat} {r0 : Nat} {x1 : Int32} {M : Mem} (h_r0 : zO n r0 12) (x : (Int64 × Mem)) (hx : f_X12_reckons r0 x1 M = some x) (l : Launch) (dC : Nat → ClassId) (dI : Nat → Nat → Nat) (b : zSg) : MT l dC dI b yX12_reckons cX12_reckons 5 (some .long) 2 0 0 n n [.ref r0, .int x1] M (emL x).1 (emL x).2 :=
  MT.ofX (by decide +kernel) rfl (Nat.le_of_ble_eq_true rfl) (fun κ hC hF _ => x_X12_reckons hC (zEnd_of hF (Nat.le_refl _) (Nat.le_refl _)) (zRk_of hF (Nat.le_refl _) (Nat.le_refl _)) _ _ _ h_r0) x hx
set_option maxRecDepth 100000 in
def dt_X12_isTold : List (Nat × Instr × Nat) := [(0, .aload_n 0, 1), (1, .getfield 60, 3), (4, .iconst 2, 1), (5, .aload_n 0, 1), (6, .getfield 51, 3), (9, .imul, 1), (10, .iload_n 1, 1), (11, .iadd, 1), (12, .iaload, 1), (13, .iconst (-1), 1), (14, .if_icmp .eq 7, 3), (17, .iconst 1, 1), (18, .goto 4, 3), (21, .iconst 0, 1), (22, .ireturn, 1)]
set_option maxRecDepth 100000 in
theorem dk_X12_isTold : dt_X12_isTold.all (fun q => decide (decode cX12_isTold q.1 = .ok q.2)) = true := by decide +kernel
set_option maxRecDepth 100000 in
def f_X12_isTold_22  (r0 : Nat) (x1 : Int32) (s0 : Int32) (M : Mem) : Option (Int32 × Mem) := zbz s0 (some (s0, M))
set_option maxRecDepth 100000 in
set_option maxHeartbeats 4000000 in
theorem x_X12_isTold_22 {κ : KX} {n : Nat} (hC : CX κ cX12_isTold RX12 2 (some .boolean) 0) (hE : zEnd κ n (0, 0)) (hk0 : zRk κ (0, 0)) {r0 : Nat} {x1 : Int32} (h_r0 : zO n r0 12) (s0 : Int32) (M : Mem) : X κ 2 emI n (0, 0) 22 [.null, .null] [.int s0] M (f_X12_isTold_22 r0 x1 s0 M) := by
  unfold f_X12_isTold_22
  refine x_bz (fun hb1 => ?_)
  exact x_iret (ty := .boolean) hb1.1 hE hC (zdk dk_X12_isTold 14 rfl)
set_option maxRecDepth 100000 in
def f_X12_isTold (r0 : Nat) (x1 : Int32) (M : Mem) : Option (Int32 × Mem) := Option.bind (zrf M r0 16) fun q2 => Option.bind (zld q2 ((2 * (zI M r0 13)) + x1)) fun k3 => (if zI M q2 k3 = (-1) then f_X12_isTold_22 r0 x1 0 M else f_X12_isTold_22 r0 x1 1 M)
set_option maxRecDepth 100000 in
set_option maxHeartbeats 4000000 in
theorem x_X12_isTold {κ : KX} {n : Nat} (hC : CX κ cX12_isTold RX12 2 (some .boolean) 0) (hE : zEnd κ n (0, 0)) (hk0 : zRk κ (0, 0)) (r0 : Nat) (x1 : Int32) (M : Mem) (h_r0 : zO n r0 12) : X κ 2 emI n (0, 0) 0 [.ref r0, .int x1] [] M (f_X12_isTold r0 x1 M) := by
  unfold f_X12_isTold
  refine x_aload_n (i := 0) rfl hC (zdk dk_X12_isTold 0 rfl) (q := 1) rfl ?_
  refine x_getR (k := 20) fl_RX12_60 rfl h_r0 hC (zdk dk_X12_isTold 1 rfl) (q := 4) rfl (fun q2 hq2 => ?_)
  refine x_iconst (i := 2) c_iconst_2 hC (zdk dk_X12_isTold 2 rfl) (q := 5) rfl ?_
  refine x_aload_n (i := 0) rfl hC (zdk dk_X12_isTold 3 rfl) (q := 6) rfl ?_
  refine x_getI fl_RX12_51 (by decide) h_r0 hC (zdk dk_X12_isTold 4 rfl) (q := 9) rfl ?_
  refine x_imul hC (zdk dk_X12_isTold 5 rfl) (q := 10) rfl ?_
  refine x_iload_n (i := 1) rfl hC (zdk dk_X12_isTold 6 rfl) (q := 11) rfl ?_
  refine x_iadd hC (zdk dk_X12_isTold 7 rfl) (q := 12) rfl ?_
  refine x_iald hq2 hC (zdk dk_X12_isTold 8 rfl) (q := 13) rfl (fun k3 _ => ?_)
  refine x_iconst (i := (-1)) c_iconst_m1 hC (zdk dk_X12_isTold 9 rfl) (q := 14) rfl ?_
  refine x_icmp_eq (tgt := 21) hC (zdk dk_X12_isTold 10 rfl) (q := 17) rfl rfl (fun _ => ?_) (fun _ => ?_)
  · refine x_iconst (i := 0) c_iconst_0 hC (zdk dk_X12_isTold 13 rfl) (q := 22) rfl ?_
    refine x_weak (L' := [.null, .null]) ⟨Or.inl rfl, Or.inl rfl, trivial⟩ ?_
    exact x_X12_isTold_22 hC hE hk0 h_r0 _ _
  · refine x_iconst (i := 1) c_iconst_1 hC (zdk dk_X12_isTold 11 rfl) (q := 18) rfl ?_
    refine x_goto (tgt := 22) hC (zdk dk_X12_isTold 12 rfl) rfl ?_
    refine x_weak (L' := [.null, .null]) ⟨Or.inl rfl, Or.inl rfl, trivial⟩ ?_
    exact x_X12_isTold_22 hC hE hk0 h_r0 _ _
set_option maxRecDepth 100000 in
set_option maxHeartbeats 4000000 in
theorem t_X12_isTold {n : Nat} {r0 : Nat} {x1 : Int32} {M : Mem} (h_r0 : zO n r0 12) (x : (Int32 × Mem)) (hx : f_X12_isTold r0 x1 M = some x) (l : Launch) (dC : Nat → ClassId) (dI : Nat → Nat → Nat) (b : zSg) : MT l dC dI b yX12_isTold cX12_isTold 2 (some .boolean) 0 0 0 n n [.ref r0, .int x1] M (emI x).1 (emI x).2 :=
  MT.ofX (by decide +kernel) rfl (Nat.le_of_ble_eq_true rfl) (fun κ hC hF _ => x_X12_isTold hC (zEnd_of hF (Nat.le_refl _) (Nat.le_refl _)) (zRk_of hF (Nat.le_refl _) (Nat.le_refl _)) _ _ _ h_r0) x hx
set_option maxRecDepth 100000 in
def dt_X12_isPage : List (Nat × Instr × Nat) := [(0, .aload_n 0, 1), (1, .getfield 120, 3), (4, .ifCond .eq 24, 3), (7, .iload_n 1, 1), (8, .ifCond .lt 20, 3), (11, .iload_n 1, 1), (12, .aload_n 0, 1), (13, .getfield 57, 3), (16, .aload_n 0, 1), (17, .getfield 51, 3), (20, .iaload, 1), (21, .if_icmp .ge 7, 3), (24, .iconst 1, 1), (25, .goto 4, 3), (28, .iconst 0, 1), (29, .ireturn, 1)]
set_option maxRecDepth 100000 in
theorem dk_X12_isPage : dt_X12_isPage.all (fun q => decide (decode cX12_isPage q.1 = .ok q.2)) = true := by decide +kernel
set_option maxRecDepth 100000 in
def f_X12_isPage_29  (r0 : Nat) (x1 : Int32) (s0 : Int32) (M : Mem) : Option (Int32 × Mem) := zbz s0 (some (s0, M))
set_option maxRecDepth 100000 in
set_option maxHeartbeats 4000000 in
theorem x_X12_isPage_29 {κ : KX} {n : Nat} (hC : CX κ cX12_isPage RX12 2 (some .boolean) 0) (hE : zEnd κ n (0, 0)) (hk0 : zRk κ (0, 0)) {r0 : Nat} {x1 : Int32} (h_r0 : zO n r0 12) (s0 : Int32) (M : Mem) : X κ 2 emI n (0, 0) 29 [.null, .null] [.int s0] M (f_X12_isPage_29 r0 x1 s0 M) := by
  unfold f_X12_isPage_29
  refine x_bz (fun hb1 => ?_)
  exact x_iret (ty := .boolean) hb1.1 hE hC (zdk dk_X12_isPage 15 rfl)
set_option maxRecDepth 100000 in
def f_X12_isPage_28  (r0 : Nat) (x1 : Int32)  (M : Mem) : Option (Int32 × Mem) := f_X12_isPage_29 r0 x1 0 M
set_option maxRecDepth 100000 in
set_option maxHeartbeats 4000000 in
theorem x_X12_isPage_28 {κ : KX} {n : Nat} (hC : CX κ cX12_isPage RX12 2 (some .boolean) 0) (hE : zEnd κ n (0, 0)) (hk0 : zRk κ (0, 0)) {r0 : Nat} {x1 : Int32} (h_r0 : zO n r0 12) (M : Mem) : X κ 2 emI n (0, 0) 28 [.null, .null] [] M (f_X12_isPage_28 r0 x1 M) := by
  unfold f_X12_isPage_28
  refine x_iconst (i := 0) c_iconst_0 hC (zdk dk_X12_isPage 14 rfl) (q := 29) rfl ?_
  refine x_weak (L' := [.null, .null]) ⟨Or.inl rfl, Or.inl rfl, trivial⟩ ?_
  exact x_X12_isPage_29 hC hE hk0 h_r0 _ _
set_option maxRecDepth 100000 in
def f_X12_isPage (r0 : Nat) (x1 : Int32) (M : Mem) : Option (Int32 × Mem) := (if zI M r0 35 = 0 then f_X12_isPage_28 r0 x1 M else (if x1 < 0 then f_X12_isPage_28 r0 x1 M else Option.bind (zrf M r0 15) fun q2 => Option.bind (zld q2 (zI M r0 13)) fun k3 => (if zI M q2 k3 ≤ x1 then f_X12_isPage_28 r0 x1 M else f_X12_isPage_29 r0 x1 1 M)))
set_option maxRecDepth 100000 in
set_option maxHeartbeats 4000000 in
theorem x_X12_isPage {κ : KX} {n : Nat} (hC : CX κ cX12_isPage RX12 2 (some .boolean) 0) (hE : zEnd κ n (0, 0)) (hk0 : zRk κ (0, 0)) (r0 : Nat) (x1 : Int32) (M : Mem) (h_r0 : zO n r0 12) : X κ 2 emI n (0, 0) 0 [.ref r0, .int x1] [] M (f_X12_isPage r0 x1 M) := by
  unfold f_X12_isPage
  refine x_aload_n (i := 0) rfl hC (zdk dk_X12_isPage 0 rfl) (q := 1) rfl ?_
  refine x_getI fl_RX12_120 (by decide) h_r0 hC (zdk dk_X12_isPage 1 rfl) (q := 4) rfl ?_
  refine x_if_eq (tgt := 28) hC (zdk dk_X12_isPage 2 rfl) (q := 7) rfl rfl (fun _ => ?_) (fun _ => ?_)
  · refine x_weak (L' := [.null, .null]) ⟨Or.inl rfl, Or.inl rfl, trivial⟩ ?_
    exact x_X12_isPage_28 hC hE hk0 h_r0 _
  · refine x_iload_n (i := 1) rfl hC (zdk dk_X12_isPage 3 rfl) (q := 8) rfl ?_
    refine x_if_lt (tgt := 28) hC (zdk dk_X12_isPage 4 rfl) (q := 11) rfl rfl (fun _ => ?_) (fun _ => ?_)
    · refine x_weak (L' := [.null, .null]) ⟨Or.inl rfl, Or.inl rfl, trivial⟩ ?_
      exact x_X12_isPage_28 hC hE hk0 h_r0 _
    · refine x_iload_n (i := 1) rfl hC (zdk dk_X12_isPage 5 rfl) (q := 12) rfl ?_
      refine x_aload_n (i := 0) rfl hC (zdk dk_X12_isPage 6 rfl) (q := 13) rfl ?_
      refine x_getR (k := 20) fl_RX12_57 rfl h_r0 hC (zdk dk_X12_isPage 7 rfl) (q := 16) rfl (fun q2 hq2 => ?_)
      refine x_aload_n (i := 0) rfl hC (zdk dk_X12_isPage 8 rfl) (q := 17) rfl ?_
      refine x_getI fl_RX12_51 (by decide) h_r0 hC (zdk dk_X12_isPage 9 rfl) (q := 20) rfl ?_
      refine x_iald hq2 hC (zdk dk_X12_isPage 10 rfl) (q := 21) rfl (fun k3 _ => ?_)
      refine x_icmp_ge (tgt := 28) hC (zdk dk_X12_isPage 11 rfl) (q := 24) rfl rfl (fun _ => ?_) (fun _ => ?_)
      · refine x_weak (L' := [.null, .null]) ⟨Or.inl rfl, Or.inl rfl, trivial⟩ ?_
        exact x_X12_isPage_28 hC hE hk0 h_r0 _
      · refine x_iconst (i := 1) c_iconst_1 hC (zdk dk_X12_isPage 12 rfl) (q := 25) rfl ?_
        refine x_goto (tgt := 29) hC (zdk dk_X12_isPage 13 rfl) rfl ?_
        refine x_weak (L' := [.null, .null]) ⟨Or.inl rfl, Or.inl rfl, trivial⟩ ?_
        exact x_X12_isPage_29 hC hE hk0 h_r0 _ _
set_option maxRecDepth 100000 in
set_option maxHeartbeats 4000000 in
theorem t_X12_isPage {n : Nat} {r0 : Nat} {x1 : Int32} {M : Mem} (h_r0 : zO n r0 12) (x : (Int32 × Mem)) (hx : f_X12_isPage r0 x1 M = some x) (l : Launch) (dC : Nat → ClassId) (dI : Nat → Nat → Nat) (b : zSg) : MT l dC dI b yX12_isPage cX12_isPage 2 (some .boolean) 0 0 0 n n [.ref r0, .int x1] M (emI x).1 (emI x).2 :=
  MT.ofX (by decide +kernel) rfl (Nat.le_of_ble_eq_true rfl) (fun κ hC hF _ => x_X12_isPage hC (zEnd_of hF (Nat.le_refl _) (Nat.le_refl _)) (zRk_of hF (Nat.le_refl _) (Nat.le_refl _)) _ _ _ h_r0) x hx
set_option maxRecDepth 100000 in
def dt_X12_isThere : List (Nat × Instr × Nat) := [(0, .aload_n 0, 1), (1, .iload_n 1, 1), (2, .invokevirtual 497, 3), (5, .ifCond .eq 17, 3), (8, .aload_n 0, 1), (9, .getfield 183, 3), (12, .iload_n 1, 1), (13, .iaload, 1), (14, .iconst 1, 1), (15, .if_icmp .ne 7, 3), (18, .iconst 1, 1), (19, .goto 4, 3), (22, .iconst 0, 1), (23, .ireturn, 1)]
set_option maxRecDepth 100000 in
theorem dk_X12_isThere : dt_X12_isThere.all (fun q => decide (decode cX12_isThere q.1 = .ok q.2)) = true := by decide +kernel
set_option maxRecDepth 100000 in
def f_X12_isThere_23  (r0 : Nat) (x1 : Int32) (s0 : Int32) (M : Mem) : Option (Int32 × Mem) := zbz s0 (some (s0, M))
set_option maxRecDepth 100000 in
set_option maxHeartbeats 4000000 in
theorem x_X12_isThere_23 {κ : KX} {n : Nat} (hC : CX κ cX12_isThere RX12 2 (some .boolean) 1) (hE : zEnd κ n (0, 0)) (hk0 : zRk κ (0, 0)) {r0 : Nat} {x1 : Int32} (h_r0 : zO n r0 12) (s0 : Int32) (M : Mem) : X κ 2 emI n (0, 0) 23 [.null, .null] [.int s0] M (f_X12_isThere_23 r0 x1 s0 M) := by
  unfold f_X12_isThere_23
  refine x_bz (fun hb1 => ?_)
  exact x_iret (ty := .boolean) hb1.1 hE hC (zdk dk_X12_isThere 13 rfl)
set_option maxRecDepth 100000 in
def f_X12_isThere_22  (r0 : Nat) (x1 : Int32)  (M : Mem) : Option (Int32 × Mem) := f_X12_isThere_23 r0 x1 0 M
set_option maxRecDepth 100000 in
set_option maxHeartbeats 4000000 in
theorem x_X12_isThere_22 {κ : KX} {n : Nat} (hC : CX κ cX12_isThere RX12 2 (some .boolean) 1) (hE : zEnd κ n (0, 0)) (hk0 : zRk κ (0, 0)) {r0 : Nat} {x1 : Int32} (h_r0 : zO n r0 12) (M : Mem) : X κ 2 emI n (0, 0) 22 [.null, .null] [] M (f_X12_isThere_22 r0 x1 M) := by
  unfold f_X12_isThere_22
  refine x_iconst (i := 0) c_iconst_0 hC (zdk dk_X12_isThere 12 rfl) (q := 23) rfl ?_
  refine x_weak (L' := [.null, .null]) ⟨Or.inl rfl, Or.inl rfl, trivial⟩ ?_
  exact x_X12_isThere_23 hC hE hk0 h_r0 _ _
set_option maxRecDepth 100000 in
def f_X12_isThere (r0 : Nat) (x1 : Int32) (M : Mem) : Option (Int32 × Mem) := Option.bind (f_X12_isPage r0 x1 M) fun z2 => (if z2.1 = 0 then f_X12_isThere_22 r0 x1 z2.2 else Option.bind (zrf z2.2 r0 56) fun q3 => Option.bind (zld q3 x1) fun k4 => (if zI z2.2 q3 k4 = 1 then f_X12_isThere_23 r0 x1 1 z2.2 else f_X12_isThere_22 r0 x1 z2.2))
set_option maxRecDepth 100000 in
set_option maxHeartbeats 4000000 in
theorem x_X12_isThere {κ : KX} {n : Nat} (hC : CX κ cX12_isThere RX12 2 (some .boolean) 1) (hE : zEnd κ n (0, 0)) (hk0 : zRk κ (0, 0)) (r0 : Nat) (x1 : Int32) (M : Mem) (h_r0 : zO n r0 12) : X κ 2 emI n (0, 0) 0 [.ref r0, .int x1] [] M (f_X12_isThere r0 x1 M) := by
  unfold f_X12_isThere
  refine x_aload_n (i := 0) rfl hC (zdk dk_X12_isThere 0 rfl) (q := 1) rfl ?_
  refine x_iload_n (i := 1) rfl hC (zdk dk_X12_isThere 1 rfl) (q := 2) rfl ?_
  refine x_callVi (as := [.int x1]) cb_RX12_497 rfl (by decide) hk0 h_r0 (fun x hx => t_X12_isPage h_r0 x hx) hC (zdk dk_X12_isThere 2 rfl) (q := 5) rfl rfl (Nat.le_of_ble_eq_true rfl) (fun z2 => ?_)
  refine x_if_eq (tgt := 22) hC (zdk dk_X12_isThere 3 rfl) (q := 8) rfl rfl (fun _ => ?_) (fun _ => ?_)
  · refine x_weak (L' := [.null, .null]) ⟨Or.inl rfl, Or.inl rfl, trivial⟩ ?_
    exact x_X12_isThere_22 hC hE hk0 h_r0 _
  · refine x_aload_n (i := 0) rfl hC (zdk dk_X12_isThere 4 rfl) (q := 9) rfl ?_
    refine x_getR (k := 20) fl_RX12_183 rfl h_r0 hC (zdk dk_X12_isThere 5 rfl) (q := 12) rfl (fun q3 hq3 => ?_)
    refine x_iload_n (i := 1) rfl hC (zdk dk_X12_isThere 6 rfl) (q := 13) rfl ?_
    refine x_iald hq3 hC (zdk dk_X12_isThere 7 rfl) (q := 14) rfl (fun k4 _ => ?_)
    refine x_iconst (i := 1) c_iconst_1 hC (zdk dk_X12_isThere 8 rfl) (q := 15) rfl ?_
    refine x_icmp_ne (tgt := 22) hC (zdk dk_X12_isThere 9 rfl) (q := 18) rfl rfl (fun _ => ?_) (fun _ => ?_)
    · refine x_weak (L' := [.null, .null]) ⟨Or.inl rfl, Or.inl rfl, trivial⟩ ?_
      exact x_X12_isThere_22 hC hE hk0 h_r0 _
    · refine x_iconst (i := 1) c_iconst_1 hC (zdk dk_X12_isThere 10 rfl) (q := 19) rfl ?_
      refine x_goto (tgt := 23) hC (zdk dk_X12_isThere 11 rfl) rfl ?_
      refine x_weak (L' := [.null, .null]) ⟨Or.inl rfl, Or.inl rfl, trivial⟩ ?_
      exact x_X12_isThere_23 hC hE hk0 h_r0 _ _
set_option maxRecDepth 100000 in
set_option maxHeartbeats 4000000 in
theorem t_X12_isThere {n : Nat} {r0 : Nat} {x1 : Int32} {M : Mem} (h_r0 : zO n r0 12) (x : (Int32 × Mem)) (hx : f_X12_isThere r0 x1 M = some x) (l : Launch) (dC : Nat → ClassId) (dI : Nat → Nat → Nat) (b : zSg) : MT l dC dI b yX12_isThere cX12_isThere 2 (some .boolean) 1 0 0 n n [.ref r0, .int x1] M (emI x).1 (emI x).2 :=
  MT.ofX (by decide +kernel) rfl (Nat.le_of_ble_eq_true rfl) (fun κ hC hF _ => x_X12_isThere hC (zEnd_of hF (Nat.le_refl _) (Nat.le_refl _)) (zRk_of hF (Nat.le_refl _) (Nat.le_refl _)) _ _ _ h_r0) x hx
set_option maxRecDepth 100000 in
def dt_X12_levelAt : List (Nat × Instr × Nat) := [(0, .aload_n 0, 1), (1, .getfield 192, 3), (4, .bipush 64, 2), (6, .bipush 6, 2), (8, .iload_n 1, 1), (9, .imul, 1), (10, .iload_n 2, 1), (11, .iadd, 1), (12, .imul, 1), (13, .iload_n 3, 1), (14, .iadd, 1), (15, .iaload, 1), (16, .ireturn, 1)]
set_option maxRecDepth 100000 in
theorem dk_X12_levelAt : dt_X12_levelAt.all (fun q => decide (decode cX12_levelAt q.1 = .ok q.2)) = true := by decide +kernel
set_option maxRecDepth 100000 in
def f_X12_levelAt (r0 : Nat) (x1 : Int32) (x2 : Int32) (x3 : Int32) (M : Mem) : Option (Int32 × Mem) := Option.bind (zrf M r0 59) fun q1 => Option.bind (zld q1 ((64 * ((6 * x1) + x2)) + x3)) fun k2 => some (zI M q1 k2, M)
set_option maxRecDepth 100000 in
set_option maxHeartbeats 4000000 in
theorem x_X12_levelAt {κ : KX} {n : Nat} (hC : CX κ cX12_levelAt RX12 4 (some .int) 0) (hE : zEnd κ n (0, 0)) (hk0 : zRk κ (0, 0)) (r0 : Nat) (x1 : Int32) (x2 : Int32) (x3 : Int32) (M : Mem) (h_r0 : zO n r0 12) : X κ 4 emI n (0, 0) 0 [.ref r0, .int x1, .int x2, .int x3] [] M (f_X12_levelAt r0 x1 x2 x3 M) := by
  unfold f_X12_levelAt
  refine x_aload_n (i := 0) rfl hC (zdk dk_X12_levelAt 0 rfl) (q := 1) rfl ?_
  refine x_getR (k := 20) fl_RX12_192 rfl h_r0 hC (zdk dk_X12_levelAt 1 rfl) (q := 4) rfl (fun q1 hq1 => ?_)
  refine x_bipush (i := 64) c_bipush_64 hC (zdk dk_X12_levelAt 2 rfl) (q := 6) rfl ?_
  refine x_bipush (i := 6) c_bipush_6 hC (zdk dk_X12_levelAt 3 rfl) (q := 8) rfl ?_
  refine x_iload_n (i := 1) rfl hC (zdk dk_X12_levelAt 4 rfl) (q := 9) rfl ?_
  refine x_imul hC (zdk dk_X12_levelAt 5 rfl) (q := 10) rfl ?_
  refine x_iload_n (i := 2) rfl hC (zdk dk_X12_levelAt 6 rfl) (q := 11) rfl ?_
  refine x_iadd hC (zdk dk_X12_levelAt 7 rfl) (q := 12) rfl ?_
  refine x_imul hC (zdk dk_X12_levelAt 8 rfl) (q := 13) rfl ?_
  refine x_iload_n (i := 3) rfl hC (zdk dk_X12_levelAt 9 rfl) (q := 14) rfl ?_
  refine x_iadd hC (zdk dk_X12_levelAt 10 rfl) (q := 15) rfl ?_
  refine x_iald hq1 hC (zdk dk_X12_levelAt 11 rfl) (q := 16) rfl (fun k2 _ => ?_)
  exact x_iret (ty := .int) rfl hE hC (zdk dk_X12_levelAt 12 rfl)
set_option maxRecDepth 100000 in
set_option maxHeartbeats 4000000 in
theorem t_X12_levelAt {n : Nat} {r0 : Nat} {x1 : Int32} {x2 : Int32} {x3 : Int32} {M : Mem} (h_r0 : zO n r0 12) (x : (Int32 × Mem)) (hx : f_X12_levelAt r0 x1 x2 x3 M = some x) (l : Launch) (dC : Nat → ClassId) (dI : Nat → Nat → Nat) (b : zSg) : MT l dC dI b yX12_levelAt cX12_levelAt 4 (some .int) 0 0 0 n n [.ref r0, .int x1, .int x2, .int x3] M (emI x).1 (emI x).2 :=
  MT.ofX (by decide +kernel) rfl (Nat.le_of_ble_eq_true rfl) (fun κ hC hF _ => x_X12_levelAt hC (zEnd_of hF (Nat.le_refl _) (Nat.le_refl _)) (zRk_of hF (Nat.le_refl _) (Nat.le_refl _)) _ _ _ _ _ h_r0) x hx
set_option maxRecDepth 100000 in
def dt_X12_puts : List (Nat × Instr × Nat) := [(0, .aload_n 0, 1), (1, .getfield 192, 3), (4, .bipush 64, 2), (6, .bipush 6, 2), (8, .iload_n 1, 1), (9, .imul, 1), (10, .iload_n 2, 1), (11, .iadd, 1), (12, .imul, 1), (13, .iload_n 3, 1), (14, .iadd, 1), (15, .iload 4, 2), (17, .iastore, 1), (18, .return_, 1)]
set_option maxRecDepth 100000 in
theorem dk_X12_puts : dt_X12_puts.all (fun q => decide (decode cX12_puts q.1 = .ok q.2)) = true := by decide +kernel
set_option maxRecDepth 100000 in
def f_X12_puts (r0 : Nat) (x1 : Int32) (x2 : Int32) (x3 : Int32) (x4 : Int32) (M : Mem) : Option Mem := Option.bind (zrf M r0 59) fun q1 => Option.bind (zld q1 ((64 * ((6 * x1) + x2)) + x3)) fun k2 => Option.bind (some (zsI M q1 k2 x4)) fun M3 => some M3
set_option maxRecDepth 100000 in
set_option maxHeartbeats 4000000 in
theorem x_X12_puts {κ : KX} {n : Nat} (hC : CX κ cX12_puts RX12 5 none 0) (hE : zEnd κ n (0, 0)) (hk0 : zRk κ (0, 0)) (r0 : Nat) (x1 : Int32) (x2 : Int32) (x3 : Int32) (x4 : Int32) (M : Mem) (h_r0 : zO n r0 12) : X κ 5 emV n (0, 0) 0 [.ref r0, .int x1, .int x2, .int x3, .int x4] [] M (f_X12_puts r0 x1 x2 x3 x4 M) := by
  unfold f_X12_puts
  refine x_aload_n (i := 0) rfl hC (zdk dk_X12_puts 0 rfl) (q := 1) rfl ?_
  refine x_getR (k := 20) fl_RX12_192 rfl h_r0 hC (zdk dk_X12_puts 1 rfl) (q := 4) rfl (fun q1 hq1 => ?_)
  refine x_bipush (i := 64) c_bipush_64 hC (zdk dk_X12_puts 2 rfl) (q := 6) rfl ?_
  refine x_bipush (i := 6) c_bipush_6 hC (zdk dk_X12_puts 3 rfl) (q := 8) rfl ?_
  refine x_iload_n (i := 1) rfl hC (zdk dk_X12_puts 4 rfl) (q := 9) rfl ?_
  refine x_imul hC (zdk dk_X12_puts 5 rfl) (q := 10) rfl ?_
  refine x_iload_n (i := 2) rfl hC (zdk dk_X12_puts 6 rfl) (q := 11) rfl ?_
  refine x_iadd hC (zdk dk_X12_puts 7 rfl) (q := 12) rfl ?_
  refine x_imul hC (zdk dk_X12_puts 8 rfl) (q := 13) rfl ?_
  refine x_iload_n (i := 3) rfl hC (zdk dk_X12_puts 9 rfl) (q := 14) rfl ?_
  refine x_iadd hC (zdk dk_X12_puts 10 rfl) (q := 15) rfl ?_
  refine x_iload (i := 4) rfl hC (zdk dk_X12_puts 11 rfl) (q := 17) rfl ?_
  refine x_iast hq1 hC (zdk dk_X12_puts 12 rfl) (q := 18) rfl (fun k2 _ => ?_)
  refine x_nmM (fun M3 => ?_)
  exact x_vret hE hC (zdk dk_X12_puts 13 rfl)
set_option maxRecDepth 100000 in
set_option maxHeartbeats 4000000 in
theorem t_X12_puts {n : Nat} {r0 : Nat} {x1 : Int32} {x2 : Int32} {x3 : Int32} {x4 : Int32} {M : Mem} (h_r0 : zO n r0 12) (x : Mem) (hx : f_X12_puts r0 x1 x2 x3 x4 M = some x) (l : Launch) (dC : Nat → ClassId) (dI : Nat → Nat → Nat) (b : zSg) : MT l dC dI b yX12_puts cX12_puts 5 none 0 0 0 n n [.ref r0, .int x1, .int x2, .int x3, .int x4] M (emV x).1 (emV x).2 :=
  MT.ofX (by decide +kernel) rfl (Nat.le_of_ble_eq_true rfl) (fun κ hC hF _ => x_X12_puts hC (zEnd_of hF (Nat.le_refl _) (Nat.le_refl _)) (zRk_of hF (Nat.le_refl _) (Nat.le_refl _)) _ _ _ _ _ _ h_r0) x hx
set_option maxRecDepth 100000 in
def dt_X12_bitsBy : List (Nat × Instr × Nat) := [(0, .lconst 0, 1), (1, .lstore 5, 2), (3, .iconst 0, 1), (4, .istore 7, 2), (6, .iload 7, 2), (8, .aload_n 0, 1), (9, .getfield 132, 3), (12, .if_icmp .ge 37, 3), (15, .lload 5, 2), (17, .aload_n 0, 1), (18, .iload_n 1, 1), (19, .iload_n 2, 1), (20, .iload 7, 2), (22, .invokevirtual 500, 3), (25, .iload 4, 2), (27, .iadd, 1), (28, .iload_n 3, 1), (29, .if_icmp .lt 10, 3), (32, .lconst 1, 1), (33, .iload 7, 2), (35, .lshl, 1), (36, .goto 4, 3), (39, .lconst 0, 1), (40, .lor, 1), (41, .lstore 5, 2), (43, .iinc 7 1, 3), (46, .goto (-40), 3), (49, .lload 5, 2), (51, .lreturn, 1)]
set_option maxRecDepth 100000 in
theorem dk_X12_bitsBy : dt_X12_bitsBy.all (fun q => decide (decode cX12_bitsBy q.1 = .ok q.2)) = true := by decide +kernel
set_option maxRecDepth 100000 in
def f_X12_bitsBy_40 (k6 : Int64 → Int32 → Mem → Option (Int64 × Mem)) (r0 : Nat) (x1 : Int32) (x2 : Int32) (x3 : Int32) (x4 : Int32) (x7 : Int32) (s0 : Int64) (s1 : Int64) (M : Mem) : Option (Int64 × Mem) := k6 (s0 ||| s1) (x7 + 1) M
set_option maxRecDepth 100000 in
set_option maxHeartbeats 4000000 in
theorem x_X12_bitsBy_40 {κ : KX} {n : Nat} (hC : CX κ cX12_bitsBy RX12 8 (some .long) 1) (hE : zEnd κ n (0, 0)) (hk0 : zRk κ (0, 0)) {r0 : Nat} {x1 : Int32} {x2 : Int32} {x3 : Int32} {x4 : Int32} (h_r0 : zO n r0 12) (k6 : Int64 → Int32 → Mem → Option (Int64 × Mem)) (hk6 : ∀ (y5 : Int64) (x7 : Int32) (M : Mem), X κ 8 emL n (0, 0) 6 [.ref r0, .int x1, .int x2, .int x3, .int x4, .long y5, .null, .int x7] [] M (k6 y5 x7 M)) (x7 : Int32) (s0 : Int64) (s1 : Int64) (M : Mem) : X κ 8 emL n (0, 0) 40 [.ref r0, .int x1, .int x2, .int x3, .int x4, .null, .null, .int x7] [.long s1, .long s0] M (f_X12_bitsBy_40 k6 r0 x1 x2 x3 x4 x7 s0 s1 M) := by
  unfold f_X12_bitsBy_40
  refine x_lor hC (zdk dk_X12_bitsBy 23 rfl) (q := 41) rfl ?_
  refine x_lstore (i := 5) (L' := [.ref r0, .int x1, .int x2, .int x3, .int x4, .long (s0 ||| s1), .null, .int x7]) (by decide) rfl hC (zdk dk_X12_bitsBy 24 rfl) (q := 43) rfl ?_
  refine x_iinc (i := 7) c_iconst_1 rfl (by decide) (L' := [.ref r0, .int x1, .int x2, .int x3, .int x4, .long (s0 ||| s1), .null, .int (x7 + 1)]) rfl hC (zdk dk_X12_bitsBy 25 rfl) (q := 46) rfl ?_
  refine x_goto (tgt := 6) hC (zdk dk_X12_bitsBy 26 rfl) rfl ?_
  refine x_weak (L' := [.ref r0, .int x1, .int x2, .int x3, .int x4, .long (s0 ||| s1), .null, .int (x7 + 1)]) ⟨Or.inr rfl, Or.inr rfl, Or.inr rfl, Or.inr rfl, Or.inr rfl, Or.inr rfl, Or.inl rfl, Or.inr rfl, trivial⟩ ?_
  exact hk6 _ _ _
set_option maxRecDepth 100000 in
def f_X12_bitsBy_6  (r0 : Nat) (x1 : Int32) (x2 : Int32) (x3 : Int32) (x4 : Int32) : Nat → Int64 → Int32 → Mem → Option (Int64 × Mem)
  | 0, _, _, _ => none
  | f + 1, y5, x7, M => (if zI M r0 39 ≤ x7 then some (y5, M) else Option.bind (f_X12_levelAt r0 x1 x2 x7 M) fun z1 => (if z1.1 + x4 < x3 then f_X12_bitsBy_40 (f_X12_bitsBy_6 r0 x1 x2 x3 x4 f) r0 x1 x2 x3 x4 x7 y5 0 z1.2 else f_X12_bitsBy_40 (f_X12_bitsBy_6 r0 x1 x2 x3 x4 f) r0 x1 x2 x3 x4 x7 y5 ((1 : Int64) <<< (x7.toInt64 &&& 63)) z1.2))
set_option maxRecDepth 100000 in
set_option maxHeartbeats 4000000 in
theorem x_X12_bitsBy_6 {κ : KX} {n : Nat} (hC : CX κ cX12_bitsBy RX12 8 (some .long) 1) (hE : zEnd κ n (0, 0)) (hk0 : zRk κ (0, 0)) {r0 : Nat} {x1 : Int32} {x2 : Int32} {x3 : Int32} {x4 : Int32} (h_r0 : zO n r0 12) : ∀ (f : Nat) (y5 : Int64) (x7 : Int32) (M : Mem), X κ 8 emL n (0, 0) 6 [.ref r0, .int x1, .int x2, .int x3, .int x4, .long y5, .null, .int x7] [] M (f_X12_bitsBy_6 r0 x1 x2 x3 x4 f y5 x7 M) := by
  intro f
  induction f with
  | zero => intros; exact x_none
  | succ f ih =>
    intro y5 x7 M 
    rw [f_X12_bitsBy_6]
    refine x_iload (i := 7) rfl hC (zdk dk_X12_bitsBy 4 rfl) (q := 8) rfl ?_
    refine x_aload_n (i := 0) rfl hC (zdk dk_X12_bitsBy 5 rfl) (q := 9) rfl ?_
    refine x_getI fl_RX12_132 (by decide) h_r0 hC (zdk dk_X12_bitsBy 6 rfl) (q := 12) rfl ?_
    refine x_icmp_ge (tgt := 49) hC (zdk dk_X12_bitsBy 7 rfl) (q := 15) rfl rfl (fun _ => ?_) (fun _ => ?_)
    · refine x_lload (i := 5) rfl hC (zdk dk_X12_bitsBy 27 rfl) (q := 51) rfl ?_
      exact x_lret hE hC (zdk dk_X12_bitsBy 28 rfl)
    · refine x_lload (i := 5) rfl hC (zdk dk_X12_bitsBy 8 rfl) (q := 17) rfl ?_
      refine x_aload_n (i := 0) rfl hC (zdk dk_X12_bitsBy 9 rfl) (q := 18) rfl ?_
      refine x_iload_n (i := 1) rfl hC (zdk dk_X12_bitsBy 10 rfl) (q := 19) rfl ?_
      refine x_iload_n (i := 2) rfl hC (zdk dk_X12_bitsBy 11 rfl) (q := 20) rfl ?_
      refine x_iload (i := 7) rfl hC (zdk dk_X12_bitsBy 12 rfl) (q := 22) rfl ?_
      refine x_callVi (as := [.int x1, .int x2, .int x7]) cb_RX12_500 rfl (by decide) hk0 h_r0 (fun x hx => t_X12_levelAt h_r0 x hx) hC (zdk dk_X12_bitsBy 13 rfl) (q := 25) rfl rfl (Nat.le_of_ble_eq_true rfl) (fun z1 => ?_)
      refine x_iload (i := 4) rfl hC (zdk dk_X12_bitsBy 14 rfl) (q := 27) rfl ?_
      refine x_iadd hC (zdk dk_X12_bitsBy 15 rfl) (q := 28) rfl ?_
      refine x_iload_n (i := 3) rfl hC (zdk dk_X12_bitsBy 16 rfl) (q := 29) rfl ?_
      refine x_icmp_lt (tgt := 39) hC (zdk dk_X12_bitsBy 17 rfl) (q := 32) rfl rfl (fun _ => ?_) (fun _ => ?_)
      · refine x_lconst (i := 0) c_lconst_0 hC (zdk dk_X12_bitsBy 22 rfl) (q := 40) rfl ?_
        refine x_weak (L' := [.ref r0, .int x1, .int x2, .int x3, .int x4, .null, .null, .int x7]) ⟨Or.inr rfl, Or.inr rfl, Or.inr rfl, Or.inr rfl, Or.inr rfl, Or.inl rfl, Or.inl rfl, Or.inr rfl, trivial⟩ ?_
        exact x_X12_bitsBy_40 hC hE hk0 h_r0 (f_X12_bitsBy_6 r0 x1 x2 x3 x4 f) ih _ _ _ _
      · refine x_lconst (i := 1) c_lconst_1 hC (zdk dk_X12_bitsBy 18 rfl) (q := 33) rfl ?_
        refine x_iload (i := 7) rfl hC (zdk dk_X12_bitsBy 19 rfl) (q := 35) rfl ?_
        refine x_lshl hC (zdk dk_X12_bitsBy 20 rfl) (q := 36) rfl ?_
        refine x_goto (tgt := 40) hC (zdk dk_X12_bitsBy 21 rfl) rfl ?_
        refine x_weak (L' := [.ref r0, .int x1, .int x2, .int x3, .int x4, .null, .null, .int x7]) ⟨Or.inr rfl, Or.inr rfl, Or.inr rfl, Or.inr rfl, Or.inr rfl, Or.inl rfl, Or.inl rfl, Or.inr rfl, trivial⟩ ?_
        exact x_X12_bitsBy_40 hC hE hk0 h_r0 (f_X12_bitsBy_6 r0 x1 x2 x3 x4 f) ih _ _ _ _
set_option maxRecDepth 100000 in
def f_X12_bitsBy (r0 : Nat) (x1 : Int32) (x2 : Int32) (x3 : Int32) (x4 : Int32) (M : Mem) : Option (Int64 × Mem) := f_X12_bitsBy_6 r0 x1 x2 x3 x4 1000000 0 0 M
set_option maxRecDepth 100000 in
set_option maxHeartbeats 4000000 in
theorem x_X12_bitsBy {κ : KX} {n : Nat} (hC : CX κ cX12_bitsBy RX12 8 (some .long) 1) (hE : zEnd κ n (0, 0)) (hk0 : zRk κ (0, 0)) (r0 : Nat) (x1 : Int32) (x2 : Int32) (x3 : Int32) (x4 : Int32) (M : Mem) (h_r0 : zO n r0 12) : X κ 8 emL n (0, 0) 0 [.ref r0, .int x1, .int x2, .int x3, .int x4, .null, .null, .null] [] M (f_X12_bitsBy r0 x1 x2 x3 x4 M) := by
  unfold f_X12_bitsBy
  refine x_lconst (i := 0) c_lconst_0 hC (zdk dk_X12_bitsBy 0 rfl) (q := 1) rfl ?_
  refine x_lstore (i := 5) (L' := [.ref r0, .int x1, .int x2, .int x3, .int x4, .long 0, .null, .null]) (by decide) rfl hC (zdk dk_X12_bitsBy 1 rfl) (q := 3) rfl ?_
  refine x_iconst (i := 0) c_iconst_0 hC (zdk dk_X12_bitsBy 2 rfl) (q := 4) rfl ?_
  refine x_istore (i := 7) (L' := [.ref r0, .int x1, .int x2, .int x3, .int x4, .long 0, .null, .int 0]) (by decide) rfl hC (zdk dk_X12_bitsBy 3 rfl) (q := 6) rfl ?_
  refine x_weak (L' := [.ref r0, .int x1, .int x2, .int x3, .int x4, .long 0, .null, .int 0]) ⟨Or.inr rfl, Or.inr rfl, Or.inr rfl, Or.inr rfl, Or.inr rfl, Or.inr rfl, Or.inl rfl, Or.inr rfl, trivial⟩ ?_
  exact x_X12_bitsBy_6 hC hE hk0 h_r0 _ _ _ _
set_option maxRecDepth 100000 in
set_option maxHeartbeats 4000000 in
theorem t_X12_bitsBy {n : Nat} {r0 : Nat} {x1 : Int32} {x2 : Int32} {x3 : Int32} {x4 : Int32} {M : Mem} (h_r0 : zO n r0 12) (x : (Int64 × Mem)) (hx : f_X12_bitsBy r0 x1 x2 x3 x4 M = some x) (l : Launch) (dC : Nat → ClassId) (dI : Nat → Nat → Nat) (b : zSg) : MT l dC dI b yX12_bitsBy cX12_bitsBy 8 (some .long) 1 0 0 n n [.ref r0, .int x1, .int x2, .int x3, .int x4] M (emL x).1 (emL x).2 :=
  MT.ofX (by decide +kernel) rfl (Nat.le_of_ble_eq_true rfl) (fun κ hC hF _ => x_X12_bitsBy hC (zEnd_of hF (Nat.le_refl _) (Nat.le_refl _)) (zRk_of hF (Nat.le_refl _) (Nat.le_refl _)) _ _ _ _ _ _ h_r0) x hx
set_option maxRecDepth 100000 in
def dt_X12_wantedOf : List (Nat × Instr × Nat) := [(0, .aload_n 0, 1), (1, .getfield 189, 3), (4, .bipush 6, 2), (6, .iload_n 1, 1), (7, .imul, 1), (8, .iload_n 2, 1), (9, .iadd, 1), (10, .laload, 1), (11, .invokestatic 452, 3), (14, .ireturn, 1)]
set_option maxRecDepth 100000 in
theorem dk_X12_wantedOf : dt_X12_wantedOf.all (fun q => decide (decode cX12_wantedOf q.1 = .ok q.2)) = true := by decide +kernel
set_option maxRecDepth 100000 in
def f_X12_wantedOf (r0 : Nat) (x1 : Int32) (x2 : Int32) (M : Mem) : Option (Int32 × Mem) := Option.bind (zrf M r0 58) fun q1 => Option.bind (zld q1 ((6 * x1) + x2)) fun k2 => Option.bind (f_X12_onesOf (zL M q1 k2) M) fun z3 => some (z3.1, z3.2)
set_option maxRecDepth 100000 in
set_option maxHeartbeats 4000000 in
theorem x_X12_wantedOf {κ : KX} {n : Nat} (hC : CX κ cX12_wantedOf RX12 3 (some .int) 1) (hE : zEnd κ n (0, 0)) (hk0 : zRk κ (0, 0)) (r0 : Nat) (x1 : Int32) (x2 : Int32) (M : Mem) (h_r0 : zO n r0 12) : X κ 3 emI n (0, 0) 0 [.ref r0, .int x1, .int x2] [] M (f_X12_wantedOf r0 x1 x2 M) := by
  unfold f_X12_wantedOf
  refine x_aload_n (i := 0) rfl hC (zdk dk_X12_wantedOf 0 rfl) (q := 1) rfl ?_
  refine x_getR (k := 21) fl_RX12_189 rfl h_r0 hC (zdk dk_X12_wantedOf 1 rfl) (q := 4) rfl (fun q1 hq1 => ?_)
  refine x_bipush (i := 6) c_bipush_6 hC (zdk dk_X12_wantedOf 2 rfl) (q := 6) rfl ?_
  refine x_iload_n (i := 1) rfl hC (zdk dk_X12_wantedOf 3 rfl) (q := 7) rfl ?_
  refine x_imul hC (zdk dk_X12_wantedOf 4 rfl) (q := 8) rfl ?_
  refine x_iload_n (i := 2) rfl hC (zdk dk_X12_wantedOf 5 rfl) (q := 9) rfl ?_
  refine x_iadd hC (zdk dk_X12_wantedOf 6 rfl) (q := 10) rfl ?_
  refine x_lald hq1 hC (zdk dk_X12_wantedOf 7 rfl) (q := 11) rfl (fun k2 _ => ?_)
  refine x_callSi (as := [.long (zL M q1 k2)]) cb_RX12_452 rfl (by decide) hk0 (fun x hx => t_X12_onesOf  x hx) hC (zdk dk_X12_wantedOf 8 rfl) (q := 14) rfl rfl (Nat.le_of_ble_eq_true rfl) (fun z3 => ?_)
  exact x_iret (ty := .int) rfl hE hC (zdk dk_X12_wantedOf 9 rfl)
set_option maxRecDepth 100000 in
set_option maxHeartbeats 4000000 in
theorem t_X12_wantedOf {n : Nat} {r0 : Nat} {x1 : Int32} {x2 : Int32} {M : Mem} (h_r0 : zO n r0 12) (x : (Int32 × Mem)) (hx : f_X12_wantedOf r0 x1 x2 M = some x) (l : Launch) (dC : Nat → ClassId) (dI : Nat → Nat → Nat) (b : zSg) : MT l dC dI b yX12_wantedOf cX12_wantedOf 3 (some .int) 1 0 0 n n [.ref r0, .int x1, .int x2] M (emI x).1 (emI x).2 :=
  MT.ofX (by decide +kernel) rfl (Nat.le_of_ble_eq_true rfl) (fun κ hC hF _ => x_X12_wantedOf hC (zEnd_of hF (Nat.le_refl _) (Nat.le_refl _)) (zRk_of hF (Nat.le_refl _) (Nat.le_refl _)) _ _ _ _ h_r0) x hx
set_option maxRecDepth 100000 in
def dt_X12_isTriedAgain : List (Nat × Instr × Nat) := [(0, .aload_n 0, 1), (1, .iload_n 1, 1), (2, .iload_n 2, 1), (3, .invokevirtual 503, 3), (6, .istore 4, 2), (8, .aload_n 0, 1), (9, .getfield 165, 3), (12, .ifCond .eq 9, 3), (15, .iload_n 3, 1), (16, .iload 4, 2), (18, .if_icmp .ne 5, 3), (21, .iconst 0, 1), (22, .ireturn, 1), (23, .aload_n 0, 1), (24, .getfield 213, 3), (27, .iconst 1, 1), (28, .aload_n 0, 1), (29, .getfield 180, 3), (32, .iload_n 1, 1), (33, .iaload, 1), (34, .iastore, 1), (35, .aload_n 0, 1), (36, .getfield 213, 3), (39, .bipush 7, 2), (41, .aload_n 0, 1), (42, .getfield 216, 3), (45, .iastore, 1), (46, .aload_n 0, 1), (47, .getfield 213, 3), (50, .bipush 8, 2), (52, .iload_n 3, 1), (53, .iload 4, 2), (55, .if_icmp .le 10, 3), (58, .iload_n 3, 1), (59, .iload 4, 2), (61, .isub, 1), (62, .goto 7, 3), (65, .iload 4, 2), (67, .iload_n 3, 1), (68, .isub, 1), (69, .iastore, 1), (70, .aload_n 0, 1), (71, .getfield 213, 3), (74, .bipush 9, 2), (76, .aload_n 0, 1), (77, .getfield 219, 3), (80, .iastore, 1), (81, .aload_n 0, 1), (82, .getfield 216, 3), (85, .bipush 40, 2), (87, .if_icmp .ge 33, 3), (90, .aload_n 0, 1), (91, .iconst 1, 1), (92, .invokevirtual 506, 3), (95, .ifCond .eq 16, 3), (98, .aload_n 0, 1), (99, .iconst 1, 1), (100, .invokevirtual 509, 3), (103, .lconst 1, 1), (104, .lcmp, 1), (105, .ifCond .eq 17, 3), (108, .goto 12, 3), (111, .aload_n 0, 1), (112, .getfield 216, 3), (115, .bipush 8, 2), (117, .if_icmp .lt 5, 3), (120, .iconst 0, 1), (121, .ireturn, 1), (122, .iload_n 3, 1), (123, .iload 4, 2), (125, .if_icmp .le 17, 3), (128, .aload_n 0, 1), (129, .getfield 219, 3), (132, .aload_n 0, 1), (133, .bipush 7, 2), (135, .invokevirtual 428, 3), (138, .iadd, 1), (139, .goto 14, 3), (142, .aload_n 0, 1), (143, .getfield 219, 3), (146, .aload_n 0, 1), (147, .bipush 7, 2), (149, .invokevirtual 428, 3), (152, .isub, 1), (153, .istore 5, 2), (155, .iload 5, 2), (157, .iconst 1, 1), (158, .bipush 99, 2), (160, .invokestatic 325, 3), (163, .ifCond .ne 5, 3), (166, .iconst 0, 1), (167, .ireturn, 1), (168, .aload_n 0, 1), (169, .iload 5, 2), (171, .putfield 219, 3), (174, .iconst 1, 1), (175, .ireturn, 1)]
set_option maxRecDepth 100000 in
theorem dk_X12_isTriedAgain : dt_X12_isTriedAgain.all (fun q => decide (decode cX12_isTriedAgain q.1 = .ok q.2)) = true := by decide +kernel
set_option maxRecDepth 100000 in
def f_X12_isTriedAgain_21  (r0 : Nat) (x1 : Int32) (x2 : Int32) (x3 : Int32)  (M : Mem) : Option (Int32 × Mem) := some (0, M)
set_option maxRecDepth 100000 in
set_option maxHeartbeats 4000000 in
theorem x_X12_isTriedAgain_21 {κ : KX} {n : Nat} (hC : CX κ cX12_isTriedAgain RX12 6 (some .boolean) 3) (hE : zEnd κ n (0, 0)) (hk0 : zRk κ (0, 0)) {r0 : Nat} {x1 : Int32} {x2 : Int32} {x3 : Int32} (h_r0 : zO n r0 12) (M : Mem) : X κ 6 emI n (0, 0) 21 [.null, .null, .null, .null, .null, .null] [] M (f_X12_isTriedAgain_21 r0 x1 x2 x3 M) := by
  unfold f_X12_isTriedAgain_21
  refine x_iconst (i := 0) c_iconst_0 hC (zdk dk_X12_isTriedAgain 11 rfl) (q := 22) rfl ?_
  exact x_iret (ty := .boolean) rfl hE hC (zdk dk_X12_isTriedAgain 12 rfl)
set_option maxRecDepth 100000 in
def f_X12_isTriedAgain_120  (r0 : Nat) (x1 : Int32) (x2 : Int32) (x3 : Int32)  (M : Mem) : Option (Int32 × Mem) := some (0, M)
set_option maxRecDepth 100000 in
set_option maxHeartbeats 4000000 in
theorem x_X12_isTriedAgain_120 {κ : KX} {n : Nat} (hC : CX κ cX12_isTriedAgain RX12 6 (some .boolean) 3) (hE : zEnd κ n (0, 0)) (hk0 : zRk κ (0, 0)) {r0 : Nat} {x1 : Int32} {x2 : Int32} {x3 : Int32} (h_r0 : zO n r0 12) (M : Mem) : X κ 6 emI n (0, 0) 120 [.null, .null, .null, .null, .null, .null] [] M (f_X12_isTriedAgain_120 r0 x1 x2 x3 M) := by
  unfold f_X12_isTriedAgain_120
  refine x_iconst (i := 0) c_iconst_0 hC (zdk dk_X12_isTriedAgain 66 rfl) (q := 121) rfl ?_
  exact x_iret (ty := .boolean) rfl hE hC (zdk dk_X12_isTriedAgain 67 rfl)
set_option maxRecDepth 100000 in
def f_X12_isTriedAgain_153  (r0 : Nat) (x1 : Int32) (x2 : Int32) (x3 : Int32) (s0 : Int32) (M : Mem) : Option (Int32 × Mem) := Option.bind (f_X12_is s0 1 99 M) fun z1 => (if z1.1 = 0 then some (0, z1.2) else Option.bind (some (zsI z1.2 r0 68 s0)) fun M2 => some (1, M2))
set_option maxRecDepth 100000 in
set_option maxHeartbeats 4000000 in
theorem x_X12_isTriedAgain_153 {κ : KX} {n : Nat} (hC : CX κ cX12_isTriedAgain RX12 6 (some .boolean) 3) (hE : zEnd κ n (0, 0)) (hk0 : zRk κ (0, 0)) {r0 : Nat} {x1 : Int32} {x2 : Int32} {x3 : Int32} (h_r0 : zO n r0 12) (s0 : Int32) (M : Mem) : X κ 6 emI n (0, 0) 153 [.ref r0, .null, .null, .null, .null, .null] [.int s0] M (f_X12_isTriedAgain_153 r0 x1 x2 x3 s0 M) := by
  unfold f_X12_isTriedAgain_153
  refine x_istore (i := 5) (L' := [.ref r0, .null, .null, .null, .null, .int s0]) (by decide) rfl hC (zdk dk_X12_isTriedAgain 84 rfl) (q := 155) rfl ?_
  refine x_iload (i := 5) rfl hC (zdk dk_X12_isTriedAgain 85 rfl) (q := 157) rfl ?_
  refine x_iconst (i := 1) c_iconst_1 hC (zdk dk_X12_isTriedAgain 86 rfl) (q := 158) rfl ?_
  refine x_bipush (i := 99) c_bipush_99 hC (zdk dk_X12_isTriedAgain 87 rfl) (q := 160) rfl ?_
  refine x_callSi (as := [.int s0, .int 1, .int 99]) cb_RX12_325 rfl (by decide) hk0 (fun x hx => t_X12_is  x hx) hC (zdk dk_X12_isTriedAgain 88 rfl) (q := 163) rfl rfl (Nat.le_of_ble_eq_true rfl) (fun z1 => ?_)
  refine x_if_ne (tgt := 168) hC (zdk dk_X12_isTriedAgain 89 rfl) (q := 166) rfl rfl (fun _ => ?_) (fun _ => ?_)
  · refine x_aload_n (i := 0) rfl hC (zdk dk_X12_isTriedAgain 92 rfl) (q := 169) rfl ?_
    refine x_iload (i := 5) rfl hC (zdk dk_X12_isTriedAgain 93 rfl) (q := 171) rfl ?_
    refine x_putI fl_RX12_219 ⟨rfl, rfl⟩ (by decide) (Or.inl rfl) h_r0 hC (zdk dk_X12_isTriedAgain 94 rfl) (q := 174) rfl ?_
    refine x_nmM (fun M2 => ?_)
    refine x_iconst (i := 1) c_iconst_1 hC (zdk dk_X12_isTriedAgain 95 rfl) (q := 175) rfl ?_
    exact x_iret (ty := .boolean) rfl hE hC (zdk dk_X12_isTriedAgain 96 rfl)
  · refine x_iconst (i := 0) c_iconst_0 hC (zdk dk_X12_isTriedAgain 90 rfl) (q := 167) rfl ?_
    exact x_iret (ty := .boolean) rfl hE hC (zdk dk_X12_isTriedAgain 91 rfl)
set_option maxRecDepth 100000 in
def f_X12_isTriedAgain_122  (r0 : Nat) (x1 : Int32) (x2 : Int32) (x3 : Int32) (x4 : Int32) (M : Mem) : Option (Int32 × Mem) := (if x3 ≤ x4 then Option.bind (f_X12_by r0 7 M) fun z3 => f_X12_isTriedAgain_153 r0 x1 x2 x3 ((zI M r0 68) - z3.1) z3.2 else Option.bind (f_X12_by r0 7 M) fun z4 => f_X12_isTriedAgain_153 r0 x1 x2 x3 ((zI M r0 68) + z4.1) z4.2)
set_option maxRecDepth 100000 in
set_option maxHeartbeats 4000000 in
theorem x_X12_isTriedAgain_122 {κ : KX} {n : Nat} (hC : CX κ cX12_isTriedAgain RX12 6 (some .boolean) 3) (hE : zEnd κ n (0, 0)) (hk0 : zRk κ (0, 0)) {r0 : Nat} {x1 : Int32} {x2 : Int32} {x3 : Int32} (h_r0 : zO n r0 12) (x4 : Int32) (M : Mem) : X κ 6 emI n (0, 0) 122 [.ref r0, .null, .null, .int x3, .int x4, .null] [] M (f_X12_isTriedAgain_122 r0 x1 x2 x3 x4 M) := by
  unfold f_X12_isTriedAgain_122
  refine x_iload_n (i := 3) rfl hC (zdk dk_X12_isTriedAgain 68 rfl) (q := 123) rfl ?_
  refine x_iload (i := 4) rfl hC (zdk dk_X12_isTriedAgain 69 rfl) (q := 125) rfl ?_
  refine x_icmp_le (tgt := 142) hC (zdk dk_X12_isTriedAgain 70 rfl) (q := 128) rfl rfl (fun _ => ?_) (fun _ => ?_)
  · refine x_aload_n (i := 0) rfl hC (zdk dk_X12_isTriedAgain 78 rfl) (q := 143) rfl ?_
    refine x_getI fl_RX12_219 (by decide) h_r0 hC (zdk dk_X12_isTriedAgain 79 rfl) (q := 146) rfl ?_
    refine x_aload_n (i := 0) rfl hC (zdk dk_X12_isTriedAgain 80 rfl) (q := 147) rfl ?_
    refine x_bipush (i := 7) c_bipush_7 hC (zdk dk_X12_isTriedAgain 81 rfl) (q := 149) rfl ?_
    refine x_callVi (as := [.int 7]) cb_RX12_428 rfl (by decide) hk0 h_r0 (fun x hx => t_X12_by h_r0 x hx) hC (zdk dk_X12_isTriedAgain 82 rfl) (q := 152) rfl rfl (Nat.le_of_ble_eq_true rfl) (fun z3 => ?_)
    refine x_isub hC (zdk dk_X12_isTriedAgain 83 rfl) (q := 153) rfl ?_
    refine x_weak (L' := [.ref r0, .null, .null, .null, .null, .null]) ⟨Or.inr rfl, Or.inl rfl, Or.inl rfl, Or.inl rfl, Or.inl rfl, Or.inl rfl, trivial⟩ ?_
    exact x_X12_isTriedAgain_153 hC hE hk0 h_r0 _ _
  · refine x_aload_n (i := 0) rfl hC (zdk dk_X12_isTriedAgain 71 rfl) (q := 129) rfl ?_
    refine x_getI fl_RX12_219 (by decide) h_r0 hC (zdk dk_X12_isTriedAgain 72 rfl) (q := 132) rfl ?_
    refine x_aload_n (i := 0) rfl hC (zdk dk_X12_isTriedAgain 73 rfl) (q := 133) rfl ?_
    refine x_bipush (i := 7) c_bipush_7 hC (zdk dk_X12_isTriedAgain 74 rfl) (q := 135) rfl ?_
    refine x_callVi (as := [.int 7]) cb_RX12_428 rfl (by decide) hk0 h_r0 (fun x hx => t_X12_by h_r0 x hx) hC (zdk dk_X12_isTriedAgain 75 rfl) (q := 138) rfl rfl (Nat.le_of_ble_eq_true rfl) (fun z4 => ?_)
    refine x_iadd hC (zdk dk_X12_isTriedAgain 76 rfl) (q := 139) rfl ?_
    refine x_goto (tgt := 153) hC (zdk dk_X12_isTriedAgain 77 rfl) rfl ?_
    refine x_weak (L' := [.ref r0, .null, .null, .null, .null, .null]) ⟨Or.inr rfl, Or.inl rfl, Or.inl rfl, Or.inl rfl, Or.inl rfl, Or.inl rfl, trivial⟩ ?_
    exact x_X12_isTriedAgain_153 hC hE hk0 h_r0 _ _
set_option maxRecDepth 100000 in
def f_X12_isTriedAgain_69  (r0 : Nat) (x1 : Int32) (x2 : Int32) (x3 : Int32) (x4 : Int32) (s0 : Nat) (s1 : Int32) (s2 : Int32) (M : Mem) : Option (Int32 × Mem) := Option.bind (zld s0 s1) fun k5 => Option.bind (some (zsI M s0 k5 s2)) fun M6 => Option.bind (zrf M6 r0 66) fun q7 => Option.bind (zld q7 9) fun k8 => Option.bind (some (zsI M6 q7 k8 (zI M6 r0 68))) fun M9 => (if 40 ≤ zI M9 r0 67 then f_X12_isTriedAgain_120 r0 x1 x2 x3 M9 else Option.bind (f_X12_isTold r0 1 M9) fun z10 => (if z10.1 = 0 then (if zI z10.2 r0 67 < 8 then f_X12_isTriedAgain_122 r0 x1 x2 x3 x4 z10.2 else f_X12_isTriedAgain_120 r0 x1 x2 x3 z10.2) else Option.bind (f_X12_reckons r0 1 z10.2) fun z11 => (if lg_cmp z11.1 1 = 0 then f_X12_isTriedAgain_122 r0 x1 x2 x3 x4 z11.2 else f_X12_isTriedAgain_120 r0 x1 x2 x3 z11.2)))
set_option maxRecDepth 100000 in
set_option maxHeartbeats 4000000 in
theorem x_X12_isTriedAgain_69 {κ : KX} {n : Nat} (hC : CX κ cX12_isTriedAgain RX12 6 (some .boolean) 3) (hE : zEnd κ n (0, 0)) (hk0 : zRk κ (0, 0)) {r0 : Nat} {x1 : Int32} {x2 : Int32} {x3 : Int32} (h_r0 : zO n r0 12) (x4 : Int32) (s0 : Nat) (s1 : Int32) (s2 : Int32) (M : Mem) (h_s0 : zO n s0 20) : X κ 6 emI n (0, 0) 69 [.ref r0, .null, .null, .int x3, .int x4, .null] [.int s2, .int s1, .ref s0] M (f_X12_isTriedAgain_69 r0 x1 x2 x3 x4 s0 s1 s2 M) := by
  unfold f_X12_isTriedAgain_69
  refine x_iast h_s0 hC (zdk dk_X12_isTriedAgain 40 rfl) (q := 70) rfl (fun k5 _ => ?_)
  refine x_nmM (fun M6 => ?_)
  refine x_aload_n (i := 0) rfl hC (zdk dk_X12_isTriedAgain 41 rfl) (q := 71) rfl ?_
  refine x_getR (k := 20) fl_RX12_213 rfl h_r0 hC (zdk dk_X12_isTriedAgain 42 rfl) (q := 74) rfl (fun q7 hq7 => ?_)
  refine x_bipush (i := 9) c_bipush_9 hC (zdk dk_X12_isTriedAgain 43 rfl) (q := 76) rfl ?_
  refine x_aload_n (i := 0) rfl hC (zdk dk_X12_isTriedAgain 44 rfl) (q := 77) rfl ?_
  refine x_getI fl_RX12_219 (by decide) h_r0 hC (zdk dk_X12_isTriedAgain 45 rfl) (q := 80) rfl ?_
  refine x_iast hq7 hC (zdk dk_X12_isTriedAgain 46 rfl) (q := 81) rfl (fun k8 _ => ?_)
  refine x_nmM (fun M9 => ?_)
  refine x_aload_n (i := 0) rfl hC (zdk dk_X12_isTriedAgain 47 rfl) (q := 82) rfl ?_
  refine x_getI fl_RX12_216 (by decide) h_r0 hC (zdk dk_X12_isTriedAgain 48 rfl) (q := 85) rfl ?_
  refine x_bipush (i := 40) c_bipush_40 hC (zdk dk_X12_isTriedAgain 49 rfl) (q := 87) rfl ?_
  refine x_icmp_ge (tgt := 120) hC (zdk dk_X12_isTriedAgain 50 rfl) (q := 90) rfl rfl (fun _ => ?_) (fun _ => ?_)
  · refine x_weak (L' := [.null, .null, .null, .null, .null, .null]) ⟨Or.inl rfl, Or.inl rfl, Or.inl rfl, Or.inl rfl, Or.inl rfl, Or.inl rfl, trivial⟩ ?_
    exact x_X12_isTriedAgain_120 hC hE hk0 h_r0 _
  · refine x_aload_n (i := 0) rfl hC (zdk dk_X12_isTriedAgain 51 rfl) (q := 91) rfl ?_
    refine x_iconst (i := 1) c_iconst_1 hC (zdk dk_X12_isTriedAgain 52 rfl) (q := 92) rfl ?_
    refine x_callVi (as := [.int 1]) cb_RX12_506 rfl (by decide) hk0 h_r0 (fun x hx => t_X12_isTold h_r0 x hx) hC (zdk dk_X12_isTriedAgain 53 rfl) (q := 95) rfl rfl (Nat.le_of_ble_eq_true rfl) (fun z10 => ?_)
    refine x_if_eq (tgt := 111) hC (zdk dk_X12_isTriedAgain 54 rfl) (q := 98) rfl rfl (fun _ => ?_) (fun _ => ?_)
    · refine x_aload_n (i := 0) rfl hC (zdk dk_X12_isTriedAgain 62 rfl) (q := 112) rfl ?_
      refine x_getI fl_RX12_216 (by decide) h_r0 hC (zdk dk_X12_isTriedAgain 63 rfl) (q := 115) rfl ?_
      refine x_bipush (i := 8) c_bipush_8 hC (zdk dk_X12_isTriedAgain 64 rfl) (q := 117) rfl ?_
      refine x_icmp_lt (tgt := 122) hC (zdk dk_X12_isTriedAgain 65 rfl) (q := 120) rfl rfl (fun _ => ?_) (fun _ => ?_)
      · refine x_weak (L' := [.ref r0, .null, .null, .int x3, .int x4, .null]) ⟨Or.inr rfl, Or.inl rfl, Or.inl rfl, Or.inr rfl, Or.inr rfl, Or.inl rfl, trivial⟩ ?_
        exact x_X12_isTriedAgain_122 hC hE hk0 h_r0 _ _
      · refine x_weak (L' := [.null, .null, .null, .null, .null, .null]) ⟨Or.inl rfl, Or.inl rfl, Or.inl rfl, Or.inl rfl, Or.inl rfl, Or.inl rfl, trivial⟩ ?_
        exact x_X12_isTriedAgain_120 hC hE hk0 h_r0 _
    · refine x_aload_n (i := 0) rfl hC (zdk dk_X12_isTriedAgain 55 rfl) (q := 99) rfl ?_
      refine x_iconst (i := 1) c_iconst_1 hC (zdk dk_X12_isTriedAgain 56 rfl) (q := 100) rfl ?_
      refine x_callVl (as := [.int 1]) cb_RX12_509 rfl (by decide) hk0 h_r0 (fun x hx => t_X12_reckons h_r0 x hx) hC (zdk dk_X12_isTriedAgain 57 rfl) (q := 103) rfl rfl (Nat.le_of_ble_eq_true rfl) (fun z11 => ?_)
      refine x_lconst (i := 1) c_lconst_1 hC (zdk dk_X12_isTriedAgain 58 rfl) (q := 104) rfl ?_
      refine x_lcmp hC (zdk dk_X12_isTriedAgain 59 rfl) (q := 105) rfl ?_
      refine x_if_eq (tgt := 122) hC (zdk dk_X12_isTriedAgain 60 rfl) (q := 108) rfl rfl (fun _ => ?_) (fun _ => ?_)
      · refine x_weak (L' := [.ref r0, .null, .null, .int x3, .int x4, .null]) ⟨Or.inr rfl, Or.inl rfl, Or.inl rfl, Or.inr rfl, Or.inr rfl, Or.inl rfl, trivial⟩ ?_
        exact x_X12_isTriedAgain_122 hC hE hk0 h_r0 _ _
      · refine x_goto (tgt := 120) hC (zdk dk_X12_isTriedAgain 61 rfl) rfl ?_
        refine x_weak (L' := [.null, .null, .null, .null, .null, .null]) ⟨Or.inl rfl, Or.inl rfl, Or.inl rfl, Or.inl rfl, Or.inl rfl, Or.inl rfl, trivial⟩ ?_
        exact x_X12_isTriedAgain_120 hC hE hk0 h_r0 _
set_option maxRecDepth 100000 in
def f_X12_isTriedAgain (r0 : Nat) (x1 : Int32) (x2 : Int32) (x3 : Int32) (M : Mem) : Option (Int32 × Mem) := Option.bind (f_X12_wantedOf r0 x1 x2 M) fun z12 => (if zI z12.2 r0 50 = 0 then f_X12_isTriedAgain_21 r0 x1 x2 x3 z12.2 else (if x3 = z12.1 then f_X12_isTriedAgain_21 r0 x1 x2 x3 z12.2 else Option.bind (zrf z12.2 r0 66) fun q13 => Option.bind (zrf z12.2 r0 55) fun q14 => Option.bind (zld q14 x1) fun k15 => Option.bind (zld q13 1) fun k16 => Option.bind (some (zsI z12.2 q13 k16 (zI z12.2 q14 k15))) fun M17 => Option.bind (zrf M17 r0 66) fun q18 => Option.bind (zld q18 7) fun k19 => Option.bind (some (zsI M17 q18 k19 (zI M17 r0 67))) fun M20 => Option.bind (zrf M20 r0 66) fun q21 => (if x3 ≤ z12.1 then f_X12_isTriedAgain_69 r0 x1 x2 x3 z12.1 q21 8 (z12.1 - x3) M20 else f_X12_isTriedAgain_69 r0 x1 x2 x3 z12.1 q21 8 (x3 - z12.1) M20)))
set_option maxRecDepth 100000 in
set_option maxHeartbeats 4000000 in
theorem x_X12_isTriedAgain {κ : KX} {n : Nat} (hC : CX κ cX12_isTriedAgain RX12 6 (some .boolean) 3) (hE : zEnd κ n (0, 0)) (hk0 : zRk κ (0, 0)) (r0 : Nat) (x1 : Int32) (x2 : Int32) (x3 : Int32) (M : Mem) (h_r0 : zO n r0 12) : X κ 6 emI n (0, 0) 0 [.ref r0, .int x1, .int x2, .int x3, .null, .null] [] M (f_X12_isTriedAgain r0 x1 x2 x3 M) := by
  unfold f_X12_isTriedAgain
  refine x_aload_n (i := 0) rfl hC (zdk dk_X12_isTriedAgain 0 rfl) (q := 1) rfl ?_
  refine x_iload_n (i := 1) rfl hC (zdk dk_X12_isTriedAgain 1 rfl) (q := 2) rfl ?_
  refine x_iload_n (i := 2) rfl hC (zdk dk_X12_isTriedAgain 2 rfl) (q := 3) rfl ?_
  refine x_callVi (as := [.int x1, .int x2]) cb_RX12_503 rfl (by decide) hk0 h_r0 (fun x hx => t_X12_wantedOf h_r0 x hx) hC (zdk dk_X12_isTriedAgain 3 rfl) (q := 6) rfl rfl (Nat.le_of_ble_eq_true rfl) (fun z12 => ?_)
  refine x_istore (i := 4) (L' := [.ref r0, .int x1, .int x2, .int x3, .int z12.1, .null]) (by decide) rfl hC (zdk dk_X12_isTriedAgain 4 rfl) (q := 8) rfl ?_
  refine x_aload_n (i := 0) rfl hC (zdk dk_X12_isTriedAgain 5 rfl) (q := 9) rfl ?_
  refine x_getI fl_RX12_165 (by decide) h_r0 hC (zdk dk_X12_isTriedAgain 6 rfl) (q := 12) rfl ?_
  refine x_if_eq (tgt := 21) hC (zdk dk_X12_isTriedAgain 7 rfl) (q := 15) rfl rfl (fun _ => ?_) (fun _ => ?_)
  · refine x_weak (L' := [.null, .null, .null, .null, .null, .null]) ⟨Or.inl rfl, Or.inl rfl, Or.inl rfl, Or.inl rfl, Or.inl rfl, Or.inl rfl, trivial⟩ ?_
    exact x_X12_isTriedAgain_21 hC hE hk0 h_r0 _
  · refine x_iload_n (i := 3) rfl hC (zdk dk_X12_isTriedAgain 8 rfl) (q := 16) rfl ?_
    refine x_iload (i := 4) rfl hC (zdk dk_X12_isTriedAgain 9 rfl) (q := 18) rfl ?_
    refine x_icmp_ne (tgt := 23) hC (zdk dk_X12_isTriedAgain 10 rfl) (q := 21) rfl rfl (fun _ => ?_) (fun _ => ?_)
    · refine x_aload_n (i := 0) rfl hC (zdk dk_X12_isTriedAgain 13 rfl) (q := 24) rfl ?_
      refine x_getR (k := 20) fl_RX12_213 rfl h_r0 hC (zdk dk_X12_isTriedAgain 14 rfl) (q := 27) rfl (fun q13 hq13 => ?_)
      refine x_iconst (i := 1) c_iconst_1 hC (zdk dk_X12_isTriedAgain 15 rfl) (q := 28) rfl ?_
      refine x_aload_n (i := 0) rfl hC (zdk dk_X12_isTriedAgain 16 rfl) (q := 29) rfl ?_
      refine x_getR (k := 20) fl_RX12_180 rfl h_r0 hC (zdk dk_X12_isTriedAgain 17 rfl) (q := 32) rfl (fun q14 hq14 => ?_)
      refine x_iload_n (i := 1) rfl hC (zdk dk_X12_isTriedAgain 18 rfl) (q := 33) rfl ?_
      refine x_iald hq14 hC (zdk dk_X12_isTriedAgain 19 rfl) (q := 34) rfl (fun k15 _ => ?_)
      refine x_iast hq13 hC (zdk dk_X12_isTriedAgain 20 rfl) (q := 35) rfl (fun k16 _ => ?_)
      refine x_nmM (fun M17 => ?_)
      refine x_aload_n (i := 0) rfl hC (zdk dk_X12_isTriedAgain 21 rfl) (q := 36) rfl ?_
      refine x_getR (k := 20) fl_RX12_213 rfl h_r0 hC (zdk dk_X12_isTriedAgain 22 rfl) (q := 39) rfl (fun q18 hq18 => ?_)
      refine x_bipush (i := 7) c_bipush_7 hC (zdk dk_X12_isTriedAgain 23 rfl) (q := 41) rfl ?_
      refine x_aload_n (i := 0) rfl hC (zdk dk_X12_isTriedAgain 24 rfl) (q := 42) rfl ?_
      refine x_getI fl_RX12_216 (by decide) h_r0 hC (zdk dk_X12_isTriedAgain 25 rfl) (q := 45) rfl ?_
      refine x_iast hq18 hC (zdk dk_X12_isTriedAgain 26 rfl) (q := 46) rfl (fun k19 _ => ?_)
      refine x_nmM (fun M20 => ?_)
      refine x_aload_n (i := 0) rfl hC (zdk dk_X12_isTriedAgain 27 rfl) (q := 47) rfl ?_
      refine x_getR (k := 20) fl_RX12_213 rfl h_r0 hC (zdk dk_X12_isTriedAgain 28 rfl) (q := 50) rfl (fun q21 hq21 => ?_)
      refine x_bipush (i := 8) c_bipush_8 hC (zdk dk_X12_isTriedAgain 29 rfl) (q := 52) rfl ?_
      refine x_iload_n (i := 3) rfl hC (zdk dk_X12_isTriedAgain 30 rfl) (q := 53) rfl ?_
      refine x_iload (i := 4) rfl hC (zdk dk_X12_isTriedAgain 31 rfl) (q := 55) rfl ?_
      refine x_icmp_le (tgt := 65) hC (zdk dk_X12_isTriedAgain 32 rfl) (q := 58) rfl rfl (fun _ => ?_) (fun _ => ?_)
      · refine x_iload (i := 4) rfl hC (zdk dk_X12_isTriedAgain 37 rfl) (q := 67) rfl ?_
        refine x_iload_n (i := 3) rfl hC (zdk dk_X12_isTriedAgain 38 rfl) (q := 68) rfl ?_
        refine x_isub hC (zdk dk_X12_isTriedAgain 39 rfl) (q := 69) rfl ?_
        refine x_weak (L' := [.ref r0, .null, .null, .int x3, .int z12.1, .null]) ⟨Or.inr rfl, Or.inl rfl, Or.inl rfl, Or.inr rfl, Or.inr rfl, Or.inl rfl, trivial⟩ ?_
        exact x_X12_isTriedAgain_69 hC hE hk0 h_r0 _ _ _ _ _ hq21
      · refine x_iload_n (i := 3) rfl hC (zdk dk_X12_isTriedAgain 33 rfl) (q := 59) rfl ?_
        refine x_iload (i := 4) rfl hC (zdk dk_X12_isTriedAgain 34 rfl) (q := 61) rfl ?_
        refine x_isub hC (zdk dk_X12_isTriedAgain 35 rfl) (q := 62) rfl ?_
        refine x_goto (tgt := 69) hC (zdk dk_X12_isTriedAgain 36 rfl) rfl ?_
        refine x_weak (L' := [.ref r0, .null, .null, .int x3, .int z12.1, .null]) ⟨Or.inr rfl, Or.inl rfl, Or.inl rfl, Or.inr rfl, Or.inr rfl, Or.inl rfl, trivial⟩ ?_
        exact x_X12_isTriedAgain_69 hC hE hk0 h_r0 _ _ _ _ _ hq21
    · refine x_weak (L' := [.null, .null, .null, .null, .null, .null]) ⟨Or.inl rfl, Or.inl rfl, Or.inl rfl, Or.inl rfl, Or.inl rfl, Or.inl rfl, trivial⟩ ?_
      exact x_X12_isTriedAgain_21 hC hE hk0 h_r0 _
set_option maxRecDepth 100000 in
set_option maxHeartbeats 4000000 in
theorem t_X12_isTriedAgain {n : Nat} {r0 : Nat} {x1 : Int32} {x2 : Int32} {x3 : Int32} {M : Mem} (h_r0 : zO n r0 12) (x : (Int32 × Mem)) (hx : f_X12_isTriedAgain r0 x1 x2 x3 M = some x) (l : Launch) (dC : Nat → ClassId) (dI : Nat → Nat → Nat) (b : zSg) : MT l dC dI b yX12_isTriedAgain cX12_isTriedAgain 6 (some .boolean) 3 0 0 n n [.ref r0, .int x1, .int x2, .int x3] M (emI x).1 (emI x).2 :=
  MT.ofX (by decide +kernel) rfl (Nat.le_of_ble_eq_true rfl) (fun κ hC hF _ => x_X12_isTriedAgain hC (zEnd_of hF (Nat.le_refl _) (Nat.le_refl _)) (zRk_of hF (Nat.le_refl _) (Nat.le_refl _)) _ _ _ _ _ h_r0) x hx
set_option maxRecDepth 100000 in
def dt_X12_gets : List (Nat × Instr × Nat) := [(0, .aload_n 0, 1), (1, .aload_n 0, 1), (2, .bipush 6, 2), (4, .invokevirtual 428, 3), (7, .putfield 219, 3), (10, .aload_n 0, 1), (11, .iconst 0, 1), (12, .putfield 216, 3), (15, .iconst 1, 1), (16, .istore_n 3, 1), (17, .iload_n 3, 1), (18, .ifCond .eq 48, 3), (21, .aload_n 0, 1), (22, .iload_n 1, 1), (23, .iload_n 2, 1), (24, .aload_n 0, 1), (25, .getfield 219, 3), (28, .iconst 0, 1), (29, .invokevirtual 512, 3), (32, .lstore 4, 2), (34, .aload_n 0, 1), (35, .lload 4, 2), (37, .invokevirtual 470, 3), (40, .pop, 1), (41, .aload_n 0, 1), (42, .dup, 1), (43, .getfield 216, 3), (46, .iconst 1, 1), (47, .iadd, 1), (48, .putfield 216, 3), (51, .aload_n 0, 1), (52, .iload_n 1, 1), (53, .iload_n 2, 1), (54, .lload 4, 2), (56, .invokestatic 452, 3), (59, .invokevirtual 516, 3), (62, .istore_n 3, 1), (63, .goto (-46), 3), (66, .aload_n 0, 1), (67, .getfield 165, 3), (70, .ireturn, 1)]
set_option maxRecDepth 100000 in
theorem dk_X12_gets : dt_X12_gets.all (fun q => decide (decode cX12_gets q.1 = .ok q.2)) = true := by decide +kernel
set_option maxRecDepth 100000 in
def f_X12_gets_17  (r0 : Nat) (x1 : Int32) (x2 : Int32) : Nat → Int32 → Mem → Option (Int32 × Mem)
  | 0, _, _ => none
  | f + 1, x3, M => (if x3 = 0 then some (zI M r0 50, M) else Option.bind (f_X12_bitsBy r0 x1 x2 (zI M r0 68) 0 M) fun z1 => Option.bind (f_X12_readsBits r0 z1.1 z1.2) fun z2 => Option.bind (some (zsI z2.2 r0 67 ((zI z2.2 r0 67) + 1))) fun M3 => Option.bind (f_X12_onesOf z1.1 M3) fun z4 => Option.bind (f_X12_isTriedAgain r0 x1 x2 z4.1 z4.2) fun z5 => (f_X12_gets_17 r0 x1 x2 f) z5.1 z5.2)
set_option maxRecDepth 100000 in
set_option maxHeartbeats 4000000 in
theorem x_X12_gets_17 {κ : KX} {n : Nat} (hC : CX κ cX12_gets RX12 6 (some .int) 4) (hE : zEnd κ n (0, 0)) (hk0 : zRk κ (0, 0)) {r0 : Nat} {x1 : Int32} {x2 : Int32} (h_r0 : zO n r0 12) : ∀ (f : Nat) (x3 : Int32) (M : Mem), X κ 6 emI n (0, 0) 17 [.ref r0, .int x1, .int x2, .int x3, .null, .null] [] M (f_X12_gets_17 r0 x1 x2 f x3 M) := by
  intro f
  induction f with
  | zero => intros; exact x_none
  | succ f ih =>
    intro x3 M 
    rw [f_X12_gets_17]
    refine x_iload_n (i := 3) rfl hC (zdk dk_X12_gets 10 rfl) (q := 18) rfl ?_
    refine x_if_eq (tgt := 66) hC (zdk dk_X12_gets 11 rfl) (q := 21) rfl rfl (fun _ => ?_) (fun _ => ?_)
    · refine x_aload_n (i := 0) rfl hC (zdk dk_X12_gets 38 rfl) (q := 67) rfl ?_
      refine x_getI fl_RX12_165 (by decide) h_r0 hC (zdk dk_X12_gets 39 rfl) (q := 70) rfl ?_
      exact x_iret (ty := .int) rfl hE hC (zdk dk_X12_gets 40 rfl)
    · refine x_aload_n (i := 0) rfl hC (zdk dk_X12_gets 12 rfl) (q := 22) rfl ?_
      refine x_iload_n (i := 1) rfl hC (zdk dk_X12_gets 13 rfl) (q := 23) rfl ?_
      refine x_iload_n (i := 2) rfl hC (zdk dk_X12_gets 14 rfl) (q := 24) rfl ?_
      refine x_aload_n (i := 0) rfl hC (zdk dk_X12_gets 15 rfl) (q := 25) rfl ?_
      refine x_getI fl_RX12_219 (by decide) h_r0 hC (zdk dk_X12_gets 16 rfl) (q := 28) rfl ?_
      refine x_iconst (i := 0) c_iconst_0 hC (zdk dk_X12_gets 17 rfl) (q := 29) rfl ?_
      refine x_callVl (as := [.int x1, .int x2, .int (zI M r0 68), .int 0]) cb_RX12_512 rfl (by decide) hk0 h_r0 (fun x hx => t_X12_bitsBy h_r0 x hx) hC (zdk dk_X12_gets 18 rfl) (q := 32) rfl rfl (Nat.le_of_ble_eq_true rfl) (fun z1 => ?_)
      refine x_lstore (i := 4) (L' := [.ref r0, .int x1, .int x2, .int x3, .long z1.1, .null]) (by decide) rfl hC (zdk dk_X12_gets 19 rfl) (q := 34) rfl ?_
      refine x_aload_n (i := 0) rfl hC (zdk dk_X12_gets 20 rfl) (q := 35) rfl ?_
      refine x_lload (i := 4) rfl hC (zdk dk_X12_gets 21 rfl) (q := 37) rfl ?_
      refine x_callVi (as := [.long z1.1]) cb_RX12_470 rfl (by decide) hk0 h_r0 (fun x hx => t_X12_readsBits h_r0 x hx) hC (zdk dk_X12_gets 22 rfl) (q := 40) rfl rfl (Nat.le_of_ble_eq_true rfl) (fun z2 => ?_)
      refine x_pop rfl hC (zdk dk_X12_gets 23 rfl) (q := 41) rfl ?_
      refine x_aload_n (i := 0) rfl hC (zdk dk_X12_gets 24 rfl) (q := 42) rfl ?_
      refine x_dup rfl hC (zdk dk_X12_gets 25 rfl) (q := 43) rfl ?_
      refine x_getI fl_RX12_216 (by decide) h_r0 hC (zdk dk_X12_gets 26 rfl) (q := 46) rfl ?_
      refine x_iconst (i := 1) c_iconst_1 hC (zdk dk_X12_gets 27 rfl) (q := 47) rfl ?_
      refine x_iadd hC (zdk dk_X12_gets 28 rfl) (q := 48) rfl ?_
      refine x_putI fl_RX12_216 ⟨rfl, rfl⟩ (by decide) (Or.inl rfl) h_r0 hC (zdk dk_X12_gets 29 rfl) (q := 51) rfl ?_
      refine x_nmM (fun M3 => ?_)
      refine x_aload_n (i := 0) rfl hC (zdk dk_X12_gets 30 rfl) (q := 52) rfl ?_
      refine x_iload_n (i := 1) rfl hC (zdk dk_X12_gets 31 rfl) (q := 53) rfl ?_
      refine x_iload_n (i := 2) rfl hC (zdk dk_X12_gets 32 rfl) (q := 54) rfl ?_
      refine x_lload (i := 4) rfl hC (zdk dk_X12_gets 33 rfl) (q := 56) rfl ?_
      refine x_callSi (as := [.long z1.1]) cb_RX12_452 rfl (by decide) hk0 (fun x hx => t_X12_onesOf  x hx) hC (zdk dk_X12_gets 34 rfl) (q := 59) rfl rfl (Nat.le_of_ble_eq_true rfl) (fun z4 => ?_)
      refine x_callVi (as := [.int x1, .int x2, .int z4.1]) cb_RX12_516 rfl (by decide) hk0 h_r0 (fun x hx => t_X12_isTriedAgain h_r0 x hx) hC (zdk dk_X12_gets 35 rfl) (q := 62) rfl rfl (Nat.le_of_ble_eq_true rfl) (fun z5 => ?_)
      refine x_istore_n (i := 3) (L' := [.ref r0, .int x1, .int x2, .int z5.1, .long z1.1, .null]) (by decide) rfl hC (zdk dk_X12_gets 36 rfl) (q := 63) rfl ?_
      refine x_goto (tgt := 17) hC (zdk dk_X12_gets 37 rfl) rfl ?_
      refine x_weak (L' := [.ref r0, .int x1, .int x2, .int z5.1, .null, .null]) ⟨Or.inr rfl, Or.inr rfl, Or.inr rfl, Or.inr rfl, Or.inl rfl, Or.inl rfl, trivial⟩ ?_
      exact ih _ _
set_option maxRecDepth 100000 in
def f_X12_gets (r0 : Nat) (x1 : Int32) (x2 : Int32) (M : Mem) : Option (Int32 × Mem) := Option.bind (f_X12_by r0 6 M) fun z6 => Option.bind (some (zsI z6.2 r0 68 z6.1)) fun M7 => Option.bind (some (zsI M7 r0 67 0)) fun M8 => f_X12_gets_17 r0 x1 x2 1000000 1 M8
set_option maxRecDepth 100000 in
set_option maxHeartbeats 4000000 in
theorem x_X12_gets {κ : KX} {n : Nat} (hC : CX κ cX12_gets RX12 6 (some .int) 4) (hE : zEnd κ n (0, 0)) (hk0 : zRk κ (0, 0)) (r0 : Nat) (x1 : Int32) (x2 : Int32) (M : Mem) (h_r0 : zO n r0 12) : X κ 6 emI n (0, 0) 0 [.ref r0, .int x1, .int x2, .null, .null, .null] [] M (f_X12_gets r0 x1 x2 M) := by
  unfold f_X12_gets
  refine x_aload_n (i := 0) rfl hC (zdk dk_X12_gets 0 rfl) (q := 1) rfl ?_
  refine x_aload_n (i := 0) rfl hC (zdk dk_X12_gets 1 rfl) (q := 2) rfl ?_
  refine x_bipush (i := 6) c_bipush_6 hC (zdk dk_X12_gets 2 rfl) (q := 4) rfl ?_
  refine x_callVi (as := [.int 6]) cb_RX12_428 rfl (by decide) hk0 h_r0 (fun x hx => t_X12_by h_r0 x hx) hC (zdk dk_X12_gets 3 rfl) (q := 7) rfl rfl (Nat.le_of_ble_eq_true rfl) (fun z6 => ?_)
  refine x_putI fl_RX12_219 ⟨rfl, rfl⟩ (by decide) (Or.inl rfl) h_r0 hC (zdk dk_X12_gets 4 rfl) (q := 10) rfl ?_
  refine x_nmM (fun M7 => ?_)
  refine x_aload_n (i := 0) rfl hC (zdk dk_X12_gets 5 rfl) (q := 11) rfl ?_
  refine x_iconst (i := 0) c_iconst_0 hC (zdk dk_X12_gets 6 rfl) (q := 12) rfl ?_
  refine x_putI fl_RX12_216 ⟨rfl, rfl⟩ (by decide) (Or.inl rfl) h_r0 hC (zdk dk_X12_gets 7 rfl) (q := 15) rfl ?_
  refine x_nmM (fun M8 => ?_)
  refine x_iconst (i := 1) c_iconst_1 hC (zdk dk_X12_gets 8 rfl) (q := 16) rfl ?_
  refine x_istore_n (i := 3) (L' := [.ref r0, .int x1, .int x2, .int 1, .null, .null]) (by decide) rfl hC (zdk dk_X12_gets 9 rfl) (q := 17) rfl ?_
  refine x_weak (L' := [.ref r0, .int x1, .int x2, .int 1, .null, .null]) ⟨Or.inr rfl, Or.inr rfl, Or.inr rfl, Or.inr rfl, Or.inl rfl, Or.inl rfl, trivial⟩ ?_
  exact x_X12_gets_17 hC hE hk0 h_r0 _ _ _
set_option maxRecDepth 100000 in
set_option maxHeartbeats 4000000 in
theorem t_X12_gets {n : Nat} {r0 : Nat} {x1 : Int32} {x2 : Int32} {M : Mem} (h_r0 : zO n r0 12) (x : (Int32 × Mem)) (hx : f_X12_gets r0 x1 x2 M = some x) (l : Launch) (dC : Nat → ClassId) (dI : Nat → Nat → Nat) (b : zSg) : MT l dC dI b yX12_gets cX12_gets 6 (some .int) 4 0 0 n n [.ref r0, .int x1, .int x2] M (emI x).1 (emI x).2 :=
  MT.ofX (by decide +kernel) rfl (Nat.le_of_ble_eq_true rfl) (fun κ hC hF _ => x_X12_gets hC (zEnd_of hF (Nat.le_refl _) (Nat.le_refl _)) (zRk_of hF (Nat.le_refl _) (Nat.le_refl _)) _ _ _ _ h_r0) x hx
set_option maxRecDepth 100000 in
def dt_X12_isTrue : List (Nat × Instr × Nat) := [(0, .aload_n 0, 1), (1, .iload_n 1, 1), (2, .iload_n 2, 1), (3, .invokevirtual 519, 3), (6, .ifCond .ne 26, 3), (9, .aload_n 0, 1), (10, .getfield 174, 3), (13, .aload_n 0, 1), (14, .getfield 189, 3), (17, .bipush 6, 2), (19, .iload_n 1, 1), (20, .imul, 1), (21, .iload_n 2, 1), (22, .iadd, 1), (23, .laload, 1), (24, .lcmp, 1), (25, .ifCond .ne 7, 3), (28, .iconst 1, 1), (29, .goto 4, 3), (32, .iconst 0, 1), (33, .ireturn, 1)]
set_option maxRecDepth 100000 in
theorem dk_X12_isTrue : dt_X12_isTrue.all (fun q => decide (decode cX12_isTrue q.1 = .ok q.2)) = true := by decide +kernel
set_option maxRecDepth 100000 in
def f_X12_isTrue_33  (r0 : Nat) (x1 : Int32) (x2 : Int32) (s0 : Int32) (M : Mem) : Option (Int32 × Mem) := zbz s0 (some (s0, M))
set_option maxRecDepth 100000 in
set_option maxHeartbeats 4000000 in
theorem x_X12_isTrue_33 {κ : KX} {n : Nat} (hC : CX κ cX12_isTrue RX12 3 (some .boolean) 5) (hE : zEnd κ n (0, 0)) (hk0 : zRk κ (0, 0)) {r0 : Nat} {x1 : Int32} {x2 : Int32} (h_r0 : zO n r0 12) (s0 : Int32) (M : Mem) : X κ 3 emI n (0, 0) 33 [.null, .null, .null] [.int s0] M (f_X12_isTrue_33 r0 x1 x2 s0 M) := by
  unfold f_X12_isTrue_33
  refine x_bz (fun hb1 => ?_)
  exact x_iret (ty := .boolean) hb1.1 hE hC (zdk dk_X12_isTrue 20 rfl)
set_option maxRecDepth 100000 in
def f_X12_isTrue_32  (r0 : Nat) (x1 : Int32) (x2 : Int32)  (M : Mem) : Option (Int32 × Mem) := f_X12_isTrue_33 r0 x1 x2 0 M
set_option maxRecDepth 100000 in
set_option maxHeartbeats 4000000 in
theorem x_X12_isTrue_32 {κ : KX} {n : Nat} (hC : CX κ cX12_isTrue RX12 3 (some .boolean) 5) (hE : zEnd κ n (0, 0)) (hk0 : zRk κ (0, 0)) {r0 : Nat} {x1 : Int32} {x2 : Int32} (h_r0 : zO n r0 12) (M : Mem) : X κ 3 emI n (0, 0) 32 [.null, .null, .null] [] M (f_X12_isTrue_32 r0 x1 x2 M) := by
  unfold f_X12_isTrue_32
  refine x_iconst (i := 0) c_iconst_0 hC (zdk dk_X12_isTrue 19 rfl) (q := 33) rfl ?_
  refine x_weak (L' := [.null, .null, .null]) ⟨Or.inl rfl, Or.inl rfl, Or.inl rfl, trivial⟩ ?_
  exact x_X12_isTrue_33 hC hE hk0 h_r0 _ _
set_option maxRecDepth 100000 in
def f_X12_isTrue (r0 : Nat) (x1 : Int32) (x2 : Int32) (M : Mem) : Option (Int32 × Mem) := Option.bind (f_X12_gets r0 x1 x2 M) fun z2 => (if z2.1 = 0 then Option.bind (zrf z2.2 r0 58) fun q3 => Option.bind (zld q3 ((6 * x1) + x2)) fun k4 => (if lg_cmp (zL z2.2 r0 53) (zL z2.2 q3 k4) = 0 then f_X12_isTrue_33 r0 x1 x2 1 z2.2 else f_X12_isTrue_32 r0 x1 x2 z2.2) else f_X12_isTrue_32 r0 x1 x2 z2.2)
set_option maxRecDepth 100000 in
set_option maxHeartbeats 4000000 in
theorem x_X12_isTrue {κ : KX} {n : Nat} (hC : CX κ cX12_isTrue RX12 3 (some .boolean) 5) (hE : zEnd κ n (0, 0)) (hk0 : zRk κ (0, 0)) (r0 : Nat) (x1 : Int32) (x2 : Int32) (M : Mem) (h_r0 : zO n r0 12) : X κ 3 emI n (0, 0) 0 [.ref r0, .int x1, .int x2] [] M (f_X12_isTrue r0 x1 x2 M) := by
  unfold f_X12_isTrue
  refine x_aload_n (i := 0) rfl hC (zdk dk_X12_isTrue 0 rfl) (q := 1) rfl ?_
  refine x_iload_n (i := 1) rfl hC (zdk dk_X12_isTrue 1 rfl) (q := 2) rfl ?_
  refine x_iload_n (i := 2) rfl hC (zdk dk_X12_isTrue 2 rfl) (q := 3) rfl ?_
  refine x_callVi (as := [.int x1, .int x2]) cb_RX12_519 rfl (by decide) hk0 h_r0 (fun x hx => t_X12_gets h_r0 x hx) hC (zdk dk_X12_isTrue 3 rfl) (q := 6) rfl rfl (Nat.le_of_ble_eq_true rfl) (fun z2 => ?_)
  refine x_if_ne (tgt := 32) hC (zdk dk_X12_isTrue 4 rfl) (q := 9) rfl rfl (fun _ => ?_) (fun _ => ?_)
  · refine x_weak (L' := [.null, .null, .null]) ⟨Or.inl rfl, Or.inl rfl, Or.inl rfl, trivial⟩ ?_
    exact x_X12_isTrue_32 hC hE hk0 h_r0 _
  · refine x_aload_n (i := 0) rfl hC (zdk dk_X12_isTrue 5 rfl) (q := 10) rfl ?_
    refine x_getL fl_RX12_174 h_r0 hC (zdk dk_X12_isTrue 6 rfl) (q := 13) rfl ?_
    refine x_aload_n (i := 0) rfl hC (zdk dk_X12_isTrue 7 rfl) (q := 14) rfl ?_
    refine x_getR (k := 21) fl_RX12_189 rfl h_r0 hC (zdk dk_X12_isTrue 8 rfl) (q := 17) rfl (fun q3 hq3 => ?_)
    refine x_bipush (i := 6) c_bipush_6 hC (zdk dk_X12_isTrue 9 rfl) (q := 19) rfl ?_
    refine x_iload_n (i := 1) rfl hC (zdk dk_X12_isTrue 10 rfl) (q := 20) rfl ?_
    refine x_imul hC (zdk dk_X12_isTrue 11 rfl) (q := 21) rfl ?_
    refine x_iload_n (i := 2) rfl hC (zdk dk_X12_isTrue 12 rfl) (q := 22) rfl ?_
    refine x_iadd hC (zdk dk_X12_isTrue 13 rfl) (q := 23) rfl ?_
    refine x_lald hq3 hC (zdk dk_X12_isTrue 14 rfl) (q := 24) rfl (fun k4 _ => ?_)
    refine x_lcmp hC (zdk dk_X12_isTrue 15 rfl) (q := 25) rfl ?_
    refine x_if_ne (tgt := 32) hC (zdk dk_X12_isTrue 16 rfl) (q := 28) rfl rfl (fun _ => ?_) (fun _ => ?_)
    · refine x_weak (L' := [.null, .null, .null]) ⟨Or.inl rfl, Or.inl rfl, Or.inl rfl, trivial⟩ ?_
      exact x_X12_isTrue_32 hC hE hk0 h_r0 _
    · refine x_iconst (i := 1) c_iconst_1 hC (zdk dk_X12_isTrue 17 rfl) (q := 29) rfl ?_
      refine x_goto (tgt := 33) hC (zdk dk_X12_isTrue 18 rfl) rfl ?_
      refine x_weak (L' := [.null, .null, .null]) ⟨Or.inl rfl, Or.inl rfl, Or.inl rfl, trivial⟩ ?_
      exact x_X12_isTrue_33 hC hE hk0 h_r0 _ _
set_option maxRecDepth 100000 in
set_option maxHeartbeats 4000000 in
theorem t_X12_isTrue {n : Nat} {r0 : Nat} {x1 : Int32} {x2 : Int32} {M : Mem} (h_r0 : zO n r0 12) (x : (Int32 × Mem)) (hx : f_X12_isTrue r0 x1 x2 M = some x) (l : Launch) (dC : Nat → ClassId) (dI : Nat → Nat → Nat) (b : zSg) : MT l dC dI b yX12_isTrue cX12_isTrue 3 (some .boolean) 5 0 0 n n [.ref r0, .int x1, .int x2] M (emI x).1 (emI x).2 :=
  MT.ofX (by decide +kernel) rfl (Nat.le_of_ble_eq_true rfl) (fun κ hC hF _ => x_X12_isTrue hC (zEnd_of hF (Nat.le_refl _) (Nat.le_refl _)) (zRk_of hF (Nat.le_refl _) (Nat.le_refl _)) _ _ _ _ h_r0) x hx
