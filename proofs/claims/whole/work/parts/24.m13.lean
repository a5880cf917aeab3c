set_option maxRecDepth 100000 in
def dt_X12_locates : List (Nat × Instr × Nat) := [(0, .iconst 0, 1), (1, .istore_n 1, 1), (2, .iload_n 1, 1), (3, .bipush 14, 2), (5, .if_icmp .ge 36, 3), (8, .aload_n 0, 1), (9, .getfield 153, 3), (12, .iload_n 1, 1), (13, .iload_n 1, 1), (14, .ifCond .ne 7, 3), (17, .iconst 1, 1), (18, .goto 4, 3), (21, .iconst 0, 1), (22, .iastore, 1), (23, .aload_n 0, 1), (24, .getfield 156, 3), (27, .iload_n 1, 1), (28, .aload_n 0, 1), (29, .getfield 153, 3), (32, .iload_n 1, 1), (33, .iaload, 1), (34, .iastore, 1), (35, .iinc 1 1, 3), (38, .goto (-36), 3), (41, .aload_n 0, 1), (42, .iconst 0, 1), (43, .putfield 162, 3), (46, .iconst 1, 1), (47, .istore_n 1, 1), (48, .iconst 1, 1), (49, .istore_n 2, 1), (50, .iconst 1, 1), (51, .istore_n 3, 1), (52, .iload_n 3, 1), (53, .iconst 2, 1), (54, .aload_n 0, 1), (55, .iconst 2, 1), (56, .invokevirtual 428, 3), (59, .imul, 1), (60, .if_icmp .gt 174, 3), (63, .aload_n 0, 1), (64, .iload_n 3, 1), (65, .invokevirtual 455, 3), (68, .istore 4, 2), (70, .iload 4, 2), (72, .ifCond .ne 9, 3), (75, .iinc 1 1, 3), (78, .goto 150, 3), (81, .iconst 0, 1), (82, .istore 5, 2), (84, .iload 5, 2), (86, .bipush 14, 2), (88, .if_icmp .ge 23, 3), (91, .aload_n 0, 1), (92, .getfield 159, 3), (95, .iload 5, 2), (97, .aload_n 0, 1), (98, .getfield 153, 3), (101, .iload 5, 2), (103, .iaload, 1), (104, .iastore, 1), (105, .iinc 5 1, 3), (108, .goto (-24), 3), (111, .aload_n 0, 1), (112, .iload 4, 2), (114, .aload_n 0, 1), (115, .iload_n 2, 1), (116, .invokevirtual 458, 3), (119, .invokevirtual 425, 3), (122, .istore 5, 2), (124, .iload_n 1, 1), (125, .istore 6, 2), (127, .iload 6, 2), (129, .bipush 14, 2), (131, .if_icmp .ge 34, 3), (134, .aload_n 0, 1), (135, .getfield 153, 3), (138, .iload 6, 2), (140, .dup2, 1), (141, .iaload, 1), (142, .aload_n 0, 1), (143, .iload 5, 2), (145, .aload_n 0, 1), (146, .getfield 156, 3), (149, .iload 6, 2), (151, .iload_n 1, 1), (152, .isub, 1), (153, .iaload, 1), (154, .invokevirtual 425, 3), (157, .ixor, 1), (158, .iastore, 1), (159, .iinc 6 1, 3), (162, .goto (-35), 3), (165, .iconst 2, 1), (166, .aload_n 0, 1), (167, .getfield 162, 3), (170, .imul, 1), (171, .iload_n 3, 1), (172, .iconst 1, 1), (173, .isub, 1), (174, .if_icmp .le 9, 3), (177, .iinc 1 1, 3), (180, .goto 48, 3), (183, .aload_n 0, 1), (184, .iload_n 3, 1), (185, .aload_n 0, 1), (186, .getfield 162, 3), (189, .isub, 1), (190, .putfield 162, 3), (193, .iconst 0, 1), (194, .istore 6, 2), (196, .iload 6, 2), (198, .bipush 14, 2), (200, .if_icmp .ge 23, 3), (203, .aload_n 0, 1), (204, .getfield 156, 3), (207, .iload 6, 2), (209, .aload_n 0, 1), (210, .getfield 159, 3), (213, .iload 6, 2), (215, .iaload, 1), (216, .iastore, 1), (217, .iinc 6 1, 3), (220, .goto (-24), 3), (223, .iload 4, 2), (225, .istore_n 2, 1), (226, .iconst 1, 1), (227, .istore_n 1, 1), (228, .iinc 3 1, 3), (231, .goto (-179), 3), (234, .return_, 1)]
set_option maxRecDepth 100000 in
theorem dk_X12_locates : dt_X12_locates.all (fun q => decide (decode cX12_locates q.1 = .ok q.2)) = true := by decide +kernel
set_option maxRecDepth 100000 in
def f_X12_locates_22 (k2 : Int32 → Mem → Option Mem) (r0 : Nat) (x1 : Int32) (s0 : Nat) (s1 : Int32) (s2 : Int32) (M : Mem) : Option Mem := Option.bind (zld s0 s1) fun k1 => Option.bind (some (zsI M s0 k1 s2)) fun M2 => Option.bind (zrf M2 r0 47) fun q3 => Option.bind (zrf M2 r0 46) fun q4 => Option.bind (zld q4 x1) fun k5 => Option.bind (zld q3 x1) fun k6 => Option.bind (some (zsI M2 q3 k6 (zI M2 q4 k5))) fun M7 => k2 (x1 + 1) M7
set_option maxRecDepth 100000 in
set_option maxHeartbeats 4000000 in
theorem x_X12_locates_22 {κ : KX} {n : Nat} (hC : CX κ cX12_locates RX12 7 none 2) (hE : zEnd κ n (0, 0)) (hk0 : zRk κ (0, 0)) {r0 : Nat} (h_r0 : zO n r0 12) (k2 : Int32 → Mem → Option Mem) (hk2 : ∀ (x1 : Int32) (M : Mem), X κ 7 emV n (0, 0) 2 [.ref r0, .int x1, .null, .null, .null, .null, .null] [] M (k2 x1 M)) (x1 : Int32) (s0 : Nat) (s1 : Int32) (s2 : Int32) (M : Mem) (h_s0 : zO n s0 20) : X κ 7 emV n (0, 0) 22 [.ref r0, .int x1, .null, .null, .null, .null, .null] [.int s2, .int s1, .ref s0] M (f_X12_locates_22 k2 r0 x1 s0 s1 s2 M) := by
  unfold f_X12_locates_22
  refine x_iast h_s0 hC (zdk dk_X12_locates 13 rfl) (q := 23) rfl (fun k1 _ => ?_)
  refine x_nmM (fun M2 => ?_)
  refine x_aload_n (i := 0) rfl hC (zdk dk_X12_locates 14 rfl) (q := 24) rfl ?_
  refine x_getR (k := 20) fl_RX12_156 rfl h_r0 hC (zdk dk_X12_locates 15 rfl) (q := 27) rfl (fun q3 hq3 => ?_)
  refine x_iload_n (i := 1) rfl hC (zdk dk_X12_locates 16 rfl) (q := 28) rfl ?_
  refine x_aload_n (i := 0) rfl hC (zdk dk_X12_locates 17 rfl) (q := 29) rfl ?_
  refine x_getR (k := 20) fl_RX12_153 rfl h_r0 hC (zdk dk_X12_locates 18 rfl) (q := 32) rfl (fun q4 hq4 => ?_)
  refine x_iload_n (i := 1) rfl hC (zdk dk_X12_locates 19 rfl) (q := 33) rfl ?_
  refine x_iald hq4 hC (zdk dk_X12_locates 20 rfl) (q := 34) rfl (fun k5 _ => ?_)
  refine x_iast hq3 hC (zdk dk_X12_locates 21 rfl) (q := 35) rfl (fun k6 _ => ?_)
  refine x_nmM (fun M7 => ?_)
  refine x_iinc (i := 1) c_iconst_1 rfl (by decide) (L' := [.ref r0, .int (x1 + 1), .null, .null, .null, .null, .null]) rfl hC (zdk dk_X12_locates 22 rfl) (q := 38) rfl ?_
  refine x_goto (tgt := 2) hC (zdk dk_X12_locates 23 rfl) rfl ?_
  refine x_weak (L' := [.ref r0, .int (x1 + 1), .null, .null, .null, .null, .null]) ⟨Or.inr rfl, Or.inr rfl, Or.inl rfl, Or.inl rfl, Or.inl rfl, Or.inl rfl, Or.inl rfl, trivial⟩ ?_
  exact hk2 _ _
set_option maxRecDepth 100000 in
def f_X12_locates_228 (k52 : Int32 → Int32 → Int32 → Mem → Option Mem) (r0 : Nat) (x1 : Int32) (x2 : Int32) (x3 : Int32) (M : Mem) : Option Mem := k52 x1 x2 (x3 + 1) M
set_option maxRecDepth 100000 in
set_option maxHeartbeats 4000000 in
theorem x_X12_locates_228 {κ : KX} {n : Nat} (hC : CX κ cX12_locates RX12 7 none 2) (hE : zEnd κ n (0, 0)) (hk0 : zRk κ (0, 0)) {r0 : Nat} (h_r0 : zO n r0 12) (k52 : Int32 → Int32 → Int32 → Mem → Option Mem) (hk52 : ∀ (x1 : Int32) (x2 : Int32) (x3 : Int32) (M : Mem), X κ 7 emV n (0, 0) 52 [.ref r0, .int x1, .int x2, .int x3, .null, .null, .null] [] M (k52 x1 x2 x3 M)) (x1 : Int32) (x2 : Int32) (x3 : Int32) (M : Mem) : X κ 7 emV n (0, 0) 228 [.ref r0, .int x1, .int x2, .int x3, .null, .null, .null] [] M (f_X12_locates_228 k52 r0 x1 x2 x3 M) := by
  unfold f_X12_locates_228
  refine x_iinc (i := 3) c_iconst_1 rfl (by decide) (L' := [.ref r0, .int x1, .int x2, .int (x3 + 1), .null, .null, .null]) rfl hC (zdk dk_X12_locates 128 rfl) (q := 231) rfl ?_
  refine x_goto (tgt := 52) hC (zdk dk_X12_locates 129 rfl) rfl ?_
  refine x_weak (L' := [.ref r0, .int x1, .int x2, .int (x3 + 1), .null, .null, .null]) ⟨Or.inr rfl, Or.inr rfl, Or.inr rfl, Or.inr rfl, Or.inl rfl, Or.inl rfl, Or.inl rfl, trivial⟩ ?_
  exact hk52 _ _ _ _
set_option maxRecDepth 100000 in
def f_X12_locates_196 (k52 : Int32 → Int32 → Int32 → Mem → Option Mem) (r0 : Nat) : Nat → Int32 → Int32 → Int32 → Mem → Option Mem
  | 0, _, _, _, _ => none
  | f + 1, x3, x4, x6, M => (if 14 ≤ x6 then f_X12_locates_228 k52 r0 1 x4 x3 M else Option.bind (zrf M r0 47) fun q8 => Option.bind (zrf M r0 48) fun q9 => Option.bind (zld q9 x6) fun k10 => Option.bind (zld q8 x6) fun k11 => Option.bind (some (zsI M q8 k11 (zI M q9 k10))) fun M12 => (f_X12_locates_196 k52 r0 f) x3 x4 (x6 + 1) M12)
set_option maxRecDepth 100000 in
set_option maxHeartbeats 4000000 in
theorem x_X12_locates_196 {κ : KX} {n : Nat} (hC : CX κ cX12_locates RX12 7 none 2) (hE : zEnd κ n (0, 0)) (hk0 : zRk κ (0, 0)) {r0 : Nat} (h_r0 : zO n r0 12) (k52 : Int32 → Int32 → Int32 → Mem → Option Mem) (hk52 : ∀ (x1 : Int32) (x2 : Int32) (x3 : Int32) (M : Mem), X κ 7 emV n (0, 0) 52 [.ref r0, .int x1, .int x2, .int x3, .null, .null, .null] [] M (k52 x1 x2 x3 M)) : ∀ (f : Nat) (x3 : Int32) (x4 : Int32) (x6 : Int32) (M : Mem), X κ 7 emV n (0, 0) 196 [.ref r0, .null, .null, .int x3, .int x4, .null, .int x6] [] M (f_X12_locates_196 k52 r0 f x3 x4 x6 M) := by
  intro f
  induction f with
  | zero => intros; exact x_none
  | succ f ih =>
    intro x3 x4 x6 M 
    rw [f_X12_locates_196]
    refine x_iload (i := 6) rfl hC (zdk dk_X12_locates 111 rfl) (q := 198) rfl ?_
    refine x_bipush (i := 14) c_bipush_14 hC (zdk dk_X12_locates 112 rfl) (q := 200) rfl ?_
    refine x_icmp_ge (tgt := 223) hC (zdk dk_X12_locates 113 rfl) (q := 203) rfl rfl (fun _ => ?_) (fun _ => ?_)
    · refine x_iload (i := 4) rfl hC (zdk dk_X12_locates 124 rfl) (q := 225) rfl ?_
      refine x_istore_n (i := 2) (L' := [.ref r0, .null, .int x4, .int x3, .int x4, .null, .int x6]) (by decide) rfl hC (zdk dk_X12_locates 125 rfl) (q := 226) rfl ?_
      refine x_iconst (i := 1) c_iconst_1 hC (zdk dk_X12_locates 126 rfl) (q := 227) rfl ?_
      refine x_istore_n (i := 1) (L' := [.ref r0, .int 1, .int x4, .int x3, .int x4, .null, .int x6]) (by decide) rfl hC (zdk dk_X12_locates 127 rfl) (q := 228) rfl ?_
      refine x_weak (L' := [.ref r0, .int 1, .int x4, .int x3, .null, .null, .null]) ⟨Or.inr rfl, Or.inr rfl, Or.inr rfl, Or.inr rfl, Or.inl rfl, Or.inl rfl, Or.inl rfl, trivial⟩ ?_
      exact x_X12_locates_228 hC hE hk0 h_r0 k52 hk52 _ _ _ _
    · refine x_aload_n (i := 0) rfl hC (zdk dk_X12_locates 114 rfl) (q := 204) rfl ?_
      refine x_getR (k := 20) fl_RX12_156 rfl h_r0 hC (zdk dk_X12_locates 115 rfl) (q := 207) rfl (fun q8 hq8 => ?_)
      refine x_iload (i := 6) rfl hC (zdk dk_X12_locates 116 rfl) (q := 209) rfl ?_
      refine x_aload_n (i := 0) rfl hC (zdk dk_X12_locates 117 rfl) (q := 210) rfl ?_
      refine x_getR (k := 20) fl_RX12_159 rfl h_r0 hC (zdk dk_X12_locates 118 rfl) (q := 213) rfl (fun q9 hq9 => ?_)
      refine x_iload (i := 6) rfl hC (zdk dk_X12_locates 119 rfl) (q := 215) rfl ?_
      refine x_iald hq9 hC (zdk dk_X12_locates 120 rfl) (q := 216) rfl (fun k10 _ => ?_)
      refine x_iast hq8 hC (zdk dk_X12_locates 121 rfl) (q := 217) rfl (fun k11 _ => ?_)
      refine x_nmM (fun M12 => ?_)
      refine x_iinc (i := 6) c_iconst_1 rfl (by decide) (L' := [.ref r0, .null, .null, .int x3, .int x4, .null, .int (x6 + 1)]) rfl hC (zdk dk_X12_locates 122 rfl) (q := 220) rfl ?_
      refine x_goto (tgt := 196) hC (zdk dk_X12_locates 123 rfl) rfl ?_
      refine x_weak (L' := [.ref r0, .null, .null, .int x3, .int x4, .null, .int (x6 + 1)]) ⟨Or.inr rfl, Or.inl rfl, Or.inl rfl, Or.inr rfl, Or.inr rfl, Or.inl rfl, Or.inr rfl, trivial⟩ ?_
      exact ih _ _ _ _
set_option maxRecDepth 100000 in
def f_X12_locates_127 (k52 : Int32 → Int32 → Int32 → Mem → Option Mem) (r0 : Nat) : Nat → Int32 → Int32 → Int32 → Int32 → Int32 → Int32 → Mem → Option Mem
  | 0, _, _, _, _, _, _, _ => none
  | f + 1, x1, x2, x3, x4, x5, x6, M => (if 14 ≤ x6 then (if 2 * (zI M r0 49) ≤ x3 - 1 then Option.bind (some (zsI M r0 49 (x3 - (zI M r0 49)))) fun M13 => f_X12_locates_196 k52 r0 1000000 x3 x4 0 M13 else f_X12_locates_228 k52 r0 (x1 + 1) x2 x3 M) else Option.bind (zrf M r0 46) fun q14 => Option.bind (zld q14 x6) fun k15 => Option.bind (zrf M r0 47) fun q16 => Option.bind (zld q16 (x6 - x1)) fun k17 => Option.bind (f_X12_times r0 x5 (zI M q16 k17) M) fun z18 => Option.bind (zld q14 x6) fun k19 => Option.bind (some (zsI z18.2 q14 k19 ((zI M q14 k15) ^^^ z18.1))) fun M20 => (f_X12_locates_127 k52 r0 f) x1 x2 x3 x4 x5 (x6 + 1) M20)
set_option maxRecDepth 100000 in
set_option maxHeartbeats 4000000 in
theorem x_X12_locates_127 {κ : KX} {n : Nat} (hC : CX κ cX12_locates RX12 7 none 2) (hE : zEnd κ n (0, 0)) (hk0 : zRk κ (0, 0)) {r0 : Nat} (h_r0 : zO n r0 12) (k52 : Int32 → Int32 → Int32 → Mem → Option Mem) (hk52 : ∀ (x1 : Int32) (x2 : Int32) (x3 : Int32) (M : Mem), X κ 7 emV n (0, 0) 52 [.ref r0, .int x1, .int x2, .int x3, .null, .null, .null] [] M (k52 x1 x2 x3 M)) : ∀ (f : Nat) (x1 : Int32) (x2 : Int32) (x3 : Int32) (x4 : Int32) (x5 : Int32) (x6 : Int32) (M : Mem), X κ 7 emV n (0, 0) 127 [.ref r0, .int x1, .int x2, .int x3, .int x4, .int x5, .int x6] [] M (f_X12_locates_127 k52 r0 f x1 x2 x3 x4 x5 x6 M) := by
  intro f
  induction f with
  | zero => intros; exact x_none
  | succ f ih =>
    intro x1 x2 x3 x4 x5 x6 M 
    rw [f_X12_locates_127]
    refine x_iload (i := 6) rfl hC (zdk dk_X12_locates 72 rfl) (q := 129) rfl ?_
    refine x_bipush (i := 14) c_bipush_14 hC (zdk dk_X12_locates 73 rfl) (q := 131) rfl ?_
    refine x_icmp_ge (tgt := 165) hC (zdk dk_X12_locates 74 rfl) (q := 134) rfl rfl (fun _ => ?_) (fun _ => ?_)
    · refine x_iconst (i := 2) c_iconst_2 hC (zdk dk_X12_locates 93 rfl) (q := 166) rfl ?_
      refine x_aload_n (i := 0) rfl hC (zdk dk_X12_locates 94 rfl) (q := 167) rfl ?_
      refine x_getI fl_RX12_162 (by decide) h_r0 hC (zdk dk_X12_locates 95 rfl) (q := 170) rfl ?_
      refine x_imul hC (zdk dk_X12_locates 96 rfl) (q := 171) rfl ?_
      refine x_iload_n (i := 3) rfl hC (zdk dk_X12_locates 97 rfl) (q := 172) rfl ?_
      refine x_iconst (i := 1) c_iconst_1 hC (zdk dk_X12_locates 98 rfl) (q := 173) rfl ?_
      refine x_isub hC (zdk dk_X12_locates 99 rfl) (q := 174) rfl ?_
      refine x_icmp_le (tgt := 183) hC (zdk dk_X12_locates 100 rfl) (q := 177) rfl rfl (fun _ => ?_) (fun _ => ?_)
      · refine x_aload_n (i := 0) rfl hC (zdk dk_X12_locates 103 rfl) (q := 184) rfl ?_
        refine x_iload_n (i := 3) rfl hC (zdk dk_X12_locates 104 rfl) (q := 185) rfl ?_
        refine x_aload_n (i := 0) rfl hC (zdk dk_X12_locates 105 rfl) (q := 186) rfl ?_
        refine x_getI fl_RX12_162 (by decide) h_r0 hC (zdk dk_X12_locates 106 rfl) (q := 189) rfl ?_
        refine x_isub hC (zdk dk_X12_locates 107 rfl) (q := 190) rfl ?_
        refine x_putI fl_RX12_162 ⟨rfl, rfl⟩ (by decide) (Or.inl rfl) h_r0 hC (zdk dk_X12_locates 108 rfl) (q := 193) rfl ?_
        refine x_nmM (fun M13 => ?_)
        refine x_iconst (i := 0) c_iconst_0 hC (zdk dk_X12_locates 109 rfl) (q := 194) rfl ?_
        refine x_istore (i := 6) (L' := [.ref r0, .int x1, .int x2, .int x3, .int x4, .int x5, .int 0]) (by decide) rfl hC (zdk dk_X12_locates 110 rfl) (q := 196) rfl ?_
        refine x_weak (L' := [.ref r0, .null, .null, .int x3, .int x4, .null, .int 0]) ⟨Or.inr rfl, Or.inl rfl, Or.inl rfl, Or.inr rfl, Or.inr rfl, Or.inl rfl, Or.inr rfl, trivial⟩ ?_
        exact x_X12_locates_196 hC hE hk0 h_r0 k52 hk52 _ _ _ _ _
      · refine x_iinc (i := 1) c_iconst_1 rfl (by decide) (L' := [.ref r0, .int (x1 + 1), .int x2, .int x3, .int x4, .int x5, .int x6]) rfl hC (zdk dk_X12_locates 101 rfl) (q := 180) rfl ?_
        refine x_goto (tgt := 228) hC (zdk dk_X12_locates 102 rfl) rfl ?_
        refine x_weak (L' := [.ref r0, .int (x1 + 1), .int x2, .int x3, .null, .null, .null]) ⟨Or.inr rfl, Or.inr rfl, Or.inr rfl, Or.inr rfl, Or.inl rfl, Or.inl rfl, Or.inl rfl, trivial⟩ ?_
        exact x_X12_locates_228 hC hE hk0 h_r0 k52 hk52 _ _ _ _
    · refine x_aload_n (i := 0) rfl hC (zdk dk_X12_locates 75 rfl) (q := 135) rfl ?_
      refine x_getR (k := 20) fl_RX12_153 rfl h_r0 hC (zdk dk_X12_locates 76 rfl) (q := 138) rfl (fun q14 hq14 => ?_)
      refine x_iload (i := 6) rfl hC (zdk dk_X12_locates 77 rfl) (q := 140) rfl ?_
      refine x_dup2 rfl rfl hC (zdk dk_X12_locates 78 rfl) (q := 141) rfl ?_
      refine x_iald hq14 hC (zdk dk_X12_locates 79 rfl) (q := 142) rfl (fun k15 _ => ?_)
      refine x_aload_n (i := 0) rfl hC (zdk dk_X12_locates 80 rfl) (q := 143) rfl ?_
      refine x_iload (i := 5) rfl hC (zdk dk_X12_locates 81 rfl) (q := 145) rfl ?_
      refine x_aload_n (i := 0) rfl hC (zdk dk_X12_locates 82 rfl) (q := 146) rfl ?_
      refine x_getR (k := 20) fl_RX12_156 rfl h_r0 hC (zdk dk_X12_locates 83 rfl) (q := 149) rfl (fun q16 hq16 => ?_)
      refine x_iload (i := 6) rfl hC (zdk dk_X12_locates 84 rfl) (q := 151) rfl ?_
      refine x_iload_n (i := 1) rfl hC (zdk dk_X12_locates 85 rfl) (q := 152) rfl ?_
      refine x_isub hC (zdk dk_X12_locates 86 rfl) (q := 153) rfl ?_
      refine x_iald hq16 hC (zdk dk_X12_locates 87 rfl) (q := 154) rfl (fun k17 _ => ?_)
      refine x_callVi (as := [.int x5, .int (zI M q16 k17)]) cb_RX12_425 rfl (by decide) hk0 h_r0 (fun x hx => t_X12_times h_r0 x hx) hC (zdk dk_X12_locates 88 rfl) (q := 157) rfl rfl (Nat.le_of_ble_eq_true rfl) (fun z18 => ?_)
      refine x_ixor hC (zdk dk_X12_locates 89 rfl) (q := 158) rfl ?_
      refine x_iast hq14 hC (zdk dk_X12_locates 90 rfl) (q := 159) rfl (fun k19 _ => ?_)
      refine x_nmM (fun M20 => ?_)
      refine x_iinc (i := 6) c_iconst_1 rfl (by decide) (L' := [.ref r0, .int x1, .int x2, .int x3, .int x4, .int x5, .int (x6 + 1)]) rfl hC (zdk dk_X12_locates 91 rfl) (q := 162) rfl ?_
      refine x_goto (tgt := 127) hC (zdk dk_X12_locates 92 rfl) rfl ?_
      refine x_weak (L' := [.ref r0, .int x1, .int x2, .int x3, .int x4, .int x5, .int (x6 + 1)]) ⟨Or.inr rfl, Or.inr rfl, Or.inr rfl, Or.inr rfl, Or.inr rfl, Or.inr rfl, Or.inr rfl, trivial⟩ ?_
      exact ih _ _ _ _ _ _ _
set_option maxRecDepth 100000 in
def f_X12_locates_84 (k52 : Int32 → Int32 → Int32 → Mem → Option Mem) (r0 : Nat) : Nat → Int32 → Int32 → Int32 → Int32 → Int32 → Mem → Option Mem
  | 0, _, _, _, _, _, _ => none
  | f + 1, x1, x2, x3, x4, x5, M => (if 14 ≤ x5 then Option.bind (f_X12_inverse r0 x2 M) fun z21 => Option.bind (f_X12_times r0 x4 z21.1 z21.2) fun z22 => f_X12_locates_127 k52 r0 1000000 x1 x2 x3 x4 z22.1 x1 z22.2 else Option.bind (zrf M r0 48) fun q23 => Option.bind (zrf M r0 46) fun q24 => Option.bind (zld q24 x5) fun k25 => Option.bind (zld q23 x5) fun k26 => Option.bind (some (zsI M q23 k26 (zI M q24 k25))) fun M27 => (f_X12_locates_84 k52 r0 f) x1 x2 x3 x4 (x5 + 1) M27)
set_option maxRecDepth 100000 in
set_option maxHeartbeats 4000000 in
theorem x_X12_locates_84 {κ : KX} {n : Nat} (hC : CX κ cX12_locates RX12 7 none 2) (hE : zEnd κ n (0, 0)) (hk0 : zRk κ (0, 0)) {r0 : Nat} (h_r0 : zO n r0 12) (k52 : Int32 → Int32 → Int32 → Mem → Option Mem) (hk52 : ∀ (x1 : Int32) (x2 : Int32) (x3 : Int32) (M : Mem), X κ 7 emV n (0, 0) 52 [.ref r0, .int x1, .int x2, .int x3, .null, .null, .null] [] M (k52 x1 x2 x3 M)) : ∀ (f : Nat) (x1 : Int32) (x2 : Int32) (x3 : Int32) (x4 : Int32) (x5 : Int32) (M : Mem), X κ 7 emV n (0, 0) 84 [.ref r0, .int x1, .int x2, .int x3, .int x4, .int x5, .null] [] M (f_X12_locates_84 k52 r0 f x1 x2 x3 x4 x5 M) := by
  intro f
  induction f with
  | zero => intros; exact x_none
  | succ f ih =>
    intro x1 x2 x3 x4 x5 M 
    rw [f_X12_locates_84]
    refine x_iload (i := 5) rfl hC (zdk dk_X12_locates 50 rfl) (q := 86) rfl ?_
    refine x_bipush (i := 14) c_bipush_14 hC (zdk dk_X12_locates 51 rfl) (q := 88) rfl ?_
    refine x_icmp_ge (tgt := 111) hC (zdk dk_X12_locates 52 rfl) (q := 91) rfl rfl (fun _ => ?_) (fun _ => ?_)
    · refine x_aload_n (i := 0) rfl hC (zdk dk_X12_locates 63 rfl) (q := 112) rfl ?_
      refine x_iload (i := 4) rfl hC (zdk dk_X12_locates 64 rfl) (q := 114) rfl ?_
      refine x_aload_n (i := 0) rfl hC (zdk dk_X12_locates 65 rfl) (q := 115) rfl ?_
      refine x_iload_n (i := 2) rfl hC (zdk dk_X12_locates 66 rfl) (q := 116) rfl ?_
      refine x_callVi (as := [.int x2]) cb_RX12_458 rfl (by decide) hk0 h_r0 (fun x hx => t_X12_inverse h_r0 x hx) hC (zdk dk_X12_locates 67 rfl) (q := 119) rfl rfl (Nat.le_of_ble_eq_true rfl) (fun z21 => ?_)
      refine x_callVi (as := [.int x4, .int z21.1]) cb_RX12_425 rfl (by decide) hk0 h_r0 (fun x hx => t_X12_times h_r0 x hx) hC (zdk dk_X12_locates 68 rfl) (q := 122) rfl rfl (Nat.le_of_ble_eq_true rfl) (fun z22 => ?_)
      refine x_istore (i := 5) (L' := [.ref r0, .int x1, .int x2, .int x3, .int x4, .int z22.1, .null]) (by decide) rfl hC (zdk dk_X12_locates 69 rfl) (q := 124) rfl ?_
      refine x_iload_n (i := 1) rfl hC (zdk dk_X12_locates 70 rfl) (q := 125) rfl ?_
      refine x_istore (i := 6) (L' := [.ref r0, .int x1, .int x2, .int x3, .int x4, .int z22.1, .int x1]) (by decide) rfl hC (zdk dk_X12_locates 71 rfl) (q := 127) rfl ?_
      refine x_weak (L' := [.ref r0, .int x1, .int x2, .int x3, .int x4, .int z22.1, .int x1]) ⟨Or.inr rfl, Or.inr rfl, Or.inr rfl, Or.inr rfl, Or.inr rfl, Or.inr rfl, Or.inr rfl, trivial⟩ ?_
      exact x_X12_locates_127 hC hE hk0 h_r0 k52 hk52 _ _ _ _ _ _ _ _
    · refine x_aload_n (i := 0) rfl hC (zdk dk_X12_locates 53 rfl) (q := 92) rfl ?_
      refine x_getR (k := 20) fl_RX12_159 rfl h_r0 hC (zdk dk_X12_locates 54 rfl) (q := 95) rfl (fun q23 hq23 => ?_)
      refine x_iload (i := 5) rfl hC (zdk dk_X12_locates 55 rfl) (q := 97) rfl ?_
      refine x_aload_n (i := 0) rfl hC (zdk dk_X12_locates 56 rfl) (q := 98) rfl ?_
      refine x_getR (k := 20) fl_RX12_153 rfl h_r0 hC (zdk dk_X12_locates 57 rfl) (q := 101) rfl (fun q24 hq24 => ?_)
      refine x_iload (i := 5) rfl hC (zdk dk_X12_locates 58 rfl) (q := 103) rfl ?_
      refine x_iald hq24 hC (zdk dk_X12_locates 59 rfl) (q := 104) rfl (fun k25 _ => ?_)
      refine x_iast hq23 hC (zdk dk_X12_locates 60 rfl) (q := 105) rfl (fun k26 _ => ?_)
      refine x_nmM (fun M27 => ?_)
      refine x_iinc (i := 5) c_iconst_1 rfl (by decide) (L' := [.ref r0, .int x1, .int x2, .int x3, .int x4, .int (x5 + 1), .null]) rfl hC (zdk dk_X12_locates 61 rfl) (q := 108) rfl ?_
      refine x_goto (tgt := 84) hC (zdk dk_X12_locates 62 rfl) rfl ?_
      refine x_weak (L' := [.ref r0, .int x1, .int x2, .int x3, .int x4, .int (x5 + 1), .null]) ⟨Or.inr rfl, Or.inr rfl, Or.inr rfl, Or.inr rfl, Or.inr rfl, Or.inr rfl, Or.inl rfl, trivial⟩ ?_
      exact ih _ _ _ _ _ _
set_option maxRecDepth 100000 in
def f_X12_locates_52  (r0 : Nat) : Nat → Int32 → Int32 → Int32 → Mem → Option Mem
  | 0, _, _, _, _ => none
  | f + 1, x1, x2, x3, M => Option.bind (f_X12_by r0 2 M) fun z28 => (if 2 * z28.1 < x3 then some z28.2 else Option.bind (f_X12_missing r0 x3 z28.2) fun z29 => (if z29.1 = 0 then f_X12_locates_228 (f_X12_locates_52 r0 f) r0 (x1 + 1) x2 x3 z29.2 else f_X12_locates_84 (f_X12_locates_52 r0 f) r0 1000000 x1 x2 x3 z29.1 0 z29.2))
set_option maxRecDepth 100000 in
set_option maxHeartbeats 4000000 in
theorem x_X12_locates_52 {κ : KX} {n : Nat} (hC : CX κ cX12_locates RX12 7 none 2) (hE : zEnd κ n (0, 0)) (hk0 : zRk κ (0, 0)) {r0 : Nat} (h_r0 : zO n r0 12) : ∀ (f : Nat) (x1 : Int32) (x2 : Int32) (x3 : Int32) (M : Mem), X κ 7 emV n (0, 0) 52 [.ref r0, .int x1, .int x2, .int x3, .null, .null, .null] [] M (f_X12_locates_52 r0 f x1 x2 x3 M) := by
  intro f
  induction f with
  | zero => intros; exact x_none
  | succ f ih =>
    intro x1 x2 x3 M 
    rw [f_X12_locates_52]
    refine x_iload_n (i := 3) rfl hC (zdk dk_X12_locates 33 rfl) (q := 53) rfl ?_
    refine x_iconst (i := 2) c_iconst_2 hC (zdk dk_X12_locates 34 rfl) (q := 54) rfl ?_
    refine x_aload_n (i := 0) rfl hC (zdk dk_X12_locates 35 rfl) (q := 55) rfl ?_
    refine x_iconst (i := 2) c_iconst_2 hC (zdk dk_X12_locates 36 rfl) (q := 56) rfl ?_
    refine x_callVi (as := [.int 2]) cb_RX12_428 rfl (by decide) hk0 h_r0 (fun x hx => t_X12_by h_r0 x hx) hC (zdk dk_X12_locates 37 rfl) (q := 59) rfl rfl (Nat.le_of_ble_eq_true rfl) (fun z28 => ?_)
    refine x_imul hC (zdk dk_X12_locates 38 rfl) (q := 60) rfl ?_
    refine x_icmp_gt (tgt := 234) hC (zdk dk_X12_locates 39 rfl) (q := 63) rfl rfl (fun _ => ?_) (fun _ => ?_)
    · exact x_vret hE hC (zdk dk_X12_locates 130 rfl)
    · refine x_aload_n (i := 0) rfl hC (zdk dk_X12_locates 40 rfl) (q := 64) rfl ?_
      refine x_iload_n (i := 3) rfl hC (zdk dk_X12_locates 41 rfl) (q := 65) rfl ?_
      refine x_callVi (as := [.int x3]) cb_RX12_455 rfl (by decide) hk0 h_r0 (fun x hx => t_X12_missing h_r0 x hx) hC (zdk dk_X12_locates 42 rfl) (q := 68) rfl rfl (Nat.le_of_ble_eq_true rfl) (fun z29 => ?_)
      refine x_istore (i := 4) (L' := [.ref r0, .int x1, .int x2, .int x3, .int z29.1, .null, .null]) (by decide) rfl hC (zdk dk_X12_locates 43 rfl) (q := 70) rfl ?_
      refine x_iload (i := 4) rfl hC (zdk dk_X12_locates 44 rfl) (q := 72) rfl ?_
      refine x_if_ne (tgt := 81) hC (zdk dk_X12_locates 45 rfl) (q := 75) rfl rfl (fun _ => ?_) (fun _ => ?_)
      · refine x_iconst (i := 0) c_iconst_0 hC (zdk dk_X12_locates 48 rfl) (q := 82) rfl ?_
        refine x_istore (i := 5) (L' := [.ref r0, .int x1, .int x2, .int x3, .int z29.1, .int 0, .null]) (by decide) rfl hC (zdk dk_X12_locates 49 rfl) (q := 84) rfl ?_
        refine x_weak (L' := [.ref r0, .int x1, .int x2, .int x3, .int z29.1, .int 0, .null]) ⟨Or.inr rfl, Or.inr rfl, Or.inr rfl, Or.inr rfl, Or.inr rfl, Or.inr rfl, Or.inl rfl, trivial⟩ ?_
        exact x_X12_locates_84 hC hE hk0 h_r0 (f_X12_locates_52 r0 f) ih _ _ _ _ _ _ _
      · refine x_iinc (i := 1) c_iconst_1 rfl (by decide) (L' := [.ref r0, .int (x1 + 1), .int x2, .int x3, .int z29.1, .null, .null]) rfl hC (zdk dk_X12_locates 46 rfl) (q := 78) rfl ?_
        refine x_goto (tgt := 228) hC (zdk dk_X12_locates 47 rfl) rfl ?_
        refine x_weak (L' := [.ref r0, .int (x1 + 1), .int x2, .int x3, .null, .null, .null]) ⟨Or.inr rfl, Or.inr rfl, Or.inr rfl, Or.inr rfl, Or.inl rfl, Or.inl rfl, Or.inl rfl, trivial⟩ ?_
        exact x_X12_locates_228 hC hE hk0 h_r0 (f_X12_locates_52 r0 f) ih _ _ _ _
set_option maxRecDepth 100000 in
def f_X12_locates_2  (r0 : Nat) : Nat → Int32 → Mem → Option Mem
  | 0, _, _ => none
  | f + 1, x1, M => (if 14 ≤ x1 then Option.bind (some (zsI M r0 49 0)) fun M30 => f_X12_locates_52 r0 1000000 1 1 1 M30 else Option.bind (zrf M r0 46) fun q31 => (if x1 = 0 then f_X12_locates_22 (f_X12_locates_2 r0 f) r0 x1 q31 x1 1 M else f_X12_locates_22 (f_X12_locates_2 r0 f) r0 x1 q31 x1 0 M))
set_option maxRecDepth 100000 in
set_option maxHeartbeats 4000000 in
theorem x_X12_locates_2 {κ : KX} {n : Nat} (hC : CX κ cX12_locates RX12 7 none 2) (hE : zEnd κ n (0, 0)) (hk0 : zRk κ (0, 0)) {r0 : Nat} (h_r0 : zO n r0 12) : ∀ (f : Nat) (x1 : Int32) (M : Mem), X κ 7 emV n (0, 0) 2 [.ref r0, .int x1, .null, .null, .null, .null, .null] [] M (f_X12_locates_2 r0 f x1 M) := by
  intro f
  induction f with
  | zero => intros; exact x_none
  | succ f ih =>
    intro x1 M 
    rw [f_X12_locates_2]
    refine x_iload_n (i := 1) rfl hC (zdk dk_X12_locates 2 rfl) (q := 3) rfl ?_
    refine x_bipush (i := 14) c_bipush_14 hC (zdk dk_X12_locates 3 rfl) (q := 5) rfl ?_
    refine x_icmp_ge (tgt := 41) hC (zdk dk_X12_locates 4 rfl) (q := 8) rfl rfl (fun _ => ?_) (fun _ => ?_)
    · refine x_aload_n (i := 0) rfl hC (zdk dk_X12_locates 24 rfl) (q := 42) rfl ?_
      refine x_iconst (i := 0) c_iconst_0 hC (zdk dk_X12_locates 25 rfl) (q := 43) rfl ?_
      refine x_putI fl_RX12_162 ⟨rfl, rfl⟩ (by decide) (Or.inl rfl) h_r0 hC (zdk dk_X12_locates 26 rfl) (q := 46) rfl ?_
      refine x_nmM (fun M30 => ?_)
      refine x_iconst (i := 1) c_iconst_1 hC (zdk dk_X12_locates 27 rfl) (q := 47) rfl ?_
      refine x_istore_n (i := 1) (L' := [.ref r0, .int 1, .null, .null, .null, .null, .null]) (by decide) rfl hC (zdk dk_X12_locates 28 rfl) (q := 48) rfl ?_
      refine x_iconst (i := 1) c_iconst_1 hC (zdk dk_X12_locates 29 rfl) (q := 49) rfl ?_
      refine x_istore_n (i := 2) (L' := [.ref r0, .int 1, .int 1, .null, .null, .null, .null]) (by decide) rfl hC (zdk dk_X12_locates 30 rfl) (q := 50) rfl ?_
      refine x_iconst (i := 1) c_iconst_1 hC (zdk dk_X12_locates 31 rfl) (q := 51) rfl ?_
      refine x_istore_n (i := 3) (L' := [.ref r0, .int 1, .int 1, .int 1, .null, .null, .null]) (by decide) rfl hC (zdk dk_X12_locates 32 rfl) (q := 52) rfl ?_
      refine x_weak (L' := [.ref r0, .int 1, .int 1, .int 1, .null, .null, .null]) ⟨Or.inr rfl, Or.inr rfl, Or.inr rfl, Or.inr rfl, Or.inl rfl, Or.inl rfl, Or.inl rfl, trivial⟩ ?_
      exact x_X12_locates_52 hC hE hk0 h_r0 _ _ _ _ _
    · refine x_aload_n (i := 0) rfl hC (zdk dk_X12_locates 5 rfl) (q := 9) rfl ?_
      refine x_getR (k := 20) fl_RX12_153 rfl h_r0 hC (zdk dk_X12_locates 6 rfl) (q := 12) rfl (fun q31 hq31 => ?_)
      refine x_iload_n (i := 1) rfl hC (zdk dk_X12_locates 7 rfl) (q := 13) rfl ?_
      refine x_iload_n (i := 1) rfl hC (zdk dk_X12_locates 8 rfl) (q := 14) rfl ?_
      refine x_if_ne (tgt := 21) hC (zdk dk_X12_locates 9 rfl) (q := 17) rfl rfl (fun _ => ?_) (fun _ => ?_)
      · refine x_iconst (i := 0) c_iconst_0 hC (zdk dk_X12_locates 12 rfl) (q := 22) rfl ?_
        refine x_weak (L' := [.ref r0, .int x1, .null, .null, .null, .null, .null]) ⟨Or.inr rfl, Or.inr rfl, Or.inl rfl, Or.inl rfl, Or.inl rfl, Or.inl rfl, Or.inl rfl, trivial⟩ ?_
        exact x_X12_locates_22 hC hE hk0 h_r0 (f_X12_locates_2 r0 f) ih _ _ _ _ _ hq31
      · refine x_iconst (i := 1) c_iconst_1 hC (zdk dk_X12_locates 10 rfl) (q := 18) rfl ?_
        refine x_goto (tgt := 22) hC (zdk dk_X12_locates 11 rfl) rfl ?_
        refine x_weak (L' := [.ref r0, .int x1, .null, .null, .null, .null, .null]) ⟨Or.inr rfl, Or.inr rfl, Or.inl rfl, Or.inl rfl, Or.inl rfl, Or.inl rfl, Or.inl rfl, trivial⟩ ?_
        exact x_X12_locates_22 hC hE hk0 h_r0 (f_X12_locates_2 r0 f) ih _ _ _ _ _ hq31
set_option maxRecDepth 100000 in
def f_X12_locates (r0 : Nat) (M : Mem) : Option Mem := f_X12_locates_2 r0 1000000 0 M
set_option maxRecDepth 100000 in
set_option maxHeartbeats 4000000 in
theorem x_X12_locates {κ : KX} {n : Nat} (hC : CX κ cX12_locates RX12 7 none 2) (hE : zEnd κ n (0, 0)) (hk0 : zRk κ (0, 0)) (r0 : Nat) (M : Mem) (h_r0 : zO n r0 12) : X κ 7 emV n (0, 0) 0 [.ref r0, .null, .null, .null, .null, .null, .null] [] M (f_X12_locates r0 M) := by
  unfold f_X12_locates
  refine x_iconst (i := 0) c_iconst_0 hC (zdk dk_X12_locates 0 rfl) (q := 1) rfl ?_
  refine x_istore_n (i := 1) (L' := [.ref r0, .int 0, .null, .null, .null, .null, .null]) (by decide) rfl hC (zdk dk_X12_locates 1 rfl) (q := 2) rfl ?_
  refine x_weak (L' := [.ref r0, .int 0, .null, .null, .null, .null, .null]) ⟨Or.inr rfl, Or.inr rfl, Or.inl rfl, Or.inl rfl, Or.inl rfl, Or.inl rfl, Or.inl rfl, trivial⟩ ?_
  exact x_X12_locates_2 hC hE hk0 h_r0 _ _ _
set_option maxRecDepth 100000 in
set_option maxHeartbeats 4000000 in
theorem t_X12_locates {n : Nat} {r0 : Nat} {M : Mem} (h_r0 : zO n r0 12) (x : Mem) (hx : f_X12_locates r0 M = some x) (l : Launch) (dC : Nat → ClassId) (dI : Nat → Nat → Nat) (b : zSg) : MT l dC dI b yX12_locates cX12_locates 7 none 2 0 0 n n [.ref r0] M (emV x).1 (emV x).2 :=
  MT.ofX (by decide +kernel) rfl (Nat.le_of_ble_eq_true rfl) (fun κ hC hF _ => x_X12_locates hC (zEnd_of hF (Nat.le_refl _) (Nat.le_refl _)) (zRk_of hF (Nat.le_refl _) (Nat.le_refl _)) _ _ h_r0) x hx
set_option maxRecDepth 100000 in
def dt_X12_isRootAt : List (Nat × Instr × Nat) := [(0, .iconst 0, 1), (1, .istore_n 2, 1), (2, .iconst 1, 1), (3, .istore_n 3, 1), (4, .iload_n 3, 1), (5, .aload_n 0, 1), (6, .getfield 162, 3), (9, .if_icmp .gt 40, 3), (12, .iload_n 2, 1), (13, .aload_n 0, 1), (14, .aload_n 0, 1), (15, .getfield 153, 3), (18, .iload_n 3, 1), (19, .iaload, 1), (20, .aload_n 0, 1), (21, .getfield 141, 3), (24, .aload_n 0, 1), (25, .getfield 126, 3), (28, .iload_n 1, 1), (29, .isub, 1), (30, .iload_n 3, 1), (31, .imul, 1), (32, .aload_n 0, 1), (33, .getfield 126, 3), (36, .irem, 1), (37, .iaload, 1), (38, .invokevirtual 425, 3), (41, .ixor, 1), (42, .istore_n 2, 1), (43, .iinc 3 1, 3), (46, .goto (-42), 3), (49, .iload_n 2, 1), (50, .iconst 1, 1), (51, .if_icmp .ne 7, 3), (54, .iconst 1, 1), (55, .goto 4, 3), (58, .iconst 0, 1), (59, .ireturn, 1)]
set_option maxRecDepth 100000 in
theorem dk_X12_isRootAt : dt_X12_isRootAt.all (fun q => decide (decode cX12_isRootAt q.1 = .ok q.2)) = true := by decide +kernel
set_option maxRecDepth 100000 in
def f_X12_isRootAt_59  (r0 : Nat) (x1 : Int32) (s0 : Int32) (M : Mem) : Option (Int32 × Mem) := zbz s0 (some (s0, M))
set_option maxRecDepth 100000 in
set_option maxHeartbeats 4000000 in
theorem x_X12_isRootAt_59 {κ : KX} {n : Nat} (hC : CX κ cX12_isRootAt RX12 4 (some .boolean) 1) (hE : zEnd κ n (0, 0)) (hk0 : zRk κ (0, 0)) {r0 : Nat} {x1 : Int32} (h_r0 : zO n r0 12) (s0 : Int32) (M : Mem) : X κ 4 emI n (0, 0) 59 [.null, .null, .null, .null] [.int s0] M (f_X12_isRootAt_59 r0 x1 s0 M) := by
  unfold f_X12_isRootAt_59
  refine x_bz (fun hb1 => ?_)
  exact x_iret (ty := .boolean) hb1.1 hE hC (zdk dk_X12_isRootAt 37 rfl)
set_option maxRecDepth 100000 in
def f_X12_isRootAt_4  (r0 : Nat) (x1 : Int32) : Nat → Int32 → Int32 → Mem → Option (Int32 × Mem)
  | 0, _, _, _ => none
  | f + 1, x2, x3, M => (if zI M r0 49 < x3 then (if x2 = 1 then f_X12_isRootAt_59 r0 x1 1 M else f_X12_isRootAt_59 r0 x1 0 M) else Option.bind (zrf M r0 46) fun q2 => Option.bind (zld q2 x3) fun k3 => Option.bind (zrf M r0 42) fun q4 => if zI M r0 37 = 0 then none else Option.bind (zld q4 (zrem (((zI M r0 37) - x1) * x3) (zI M r0 37))) fun k5 => Option.bind (f_X12_times r0 (zI M q2 k3) (zI M q4 k5) M) fun z6 => (f_X12_isRootAt_4 r0 x1 f) (x2 ^^^ z6.1) (x3 + 1) z6.2)
set_option maxRecDepth 100000 in
set_option maxHeartbeats 4000000 in
theorem x_X12_isRootAt_4 {κ : KX} {n : Nat} (hC : CX κ cX12_isRootAt RX12 4 (some .boolean) 1) (hE : zEnd κ n (0, 0)) (hk0 : zRk κ (0, 0)) {r0 : Nat} {x1 : Int32} (h_r0 : zO n r0 12) : ∀ (f : Nat) (x2 : Int32) (x3 : Int32) (M : Mem), X κ 4 emI n (0, 0) 4 [.ref r0, .int x1, .int x2, .int x3] [] M (f_X12_isRootAt_4 r0 x1 f x2 x3 M) := by
  intro f
  induction f with
  | zero => intros; exact x_none
  | succ f ih =>
    intro x2 x3 M 
    rw [f_X12_isRootAt_4]
    refine x_iload_n (i := 3) rfl hC (zdk dk_X12_isRootAt 4 rfl) (q := 5) rfl ?_
    refine x_aload_n (i := 0) rfl hC (zdk dk_X12_isRootAt 5 rfl) (q := 6) rfl ?_
    refine x_getI fl_RX12_162 (by decide) h_r0 hC (zdk dk_X12_isRootAt 6 rfl) (q := 9) rfl ?_
    refine x_icmp_gt (tgt := 49) hC (zdk dk_X12_isRootAt 7 rfl) (q := 12) rfl rfl (fun _ => ?_) (fun _ => ?_)
    · refine x_iload_n (i := 2) rfl hC (zdk dk_X12_isRootAt 31 rfl) (q := 50) rfl ?_
      refine x_iconst (i := 1) c_iconst_1 hC (zdk dk_X12_isRootAt 32 rfl) (q := 51) rfl ?_
      refine x_icmp_ne (tgt := 58) hC (zdk dk_X12_isRootAt 33 rfl) (q := 54) rfl rfl (fun _ => ?_) (fun _ => ?_)
      · refine x_iconst (i := 0) c_iconst_0 hC (zdk dk_X12_isRootAt 36 rfl) (q := 59) rfl ?_
        refine x_weak (L' := [.null, .null, .null, .null]) ⟨Or.inl rfl, Or.inl rfl, Or.inl rfl, Or.inl rfl, trivial⟩ ?_
        exact x_X12_isRootAt_59 hC hE hk0 h_r0 _ _
      · refine x_iconst (i := 1) c_iconst_1 hC (zdk dk_X12_isRootAt 34 rfl) (q := 55) rfl ?_
        refine x_goto (tgt := 59) hC (zdk dk_X12_isRootAt 35 rfl) rfl ?_
        refine x_weak (L' := [.null, .null, .null, .null]) ⟨Or.inl rfl, Or.inl rfl, Or.inl rfl, Or.inl rfl, trivial⟩ ?_
        exact x_X12_isRootAt_59 hC hE hk0 h_r0 _ _
    · refine x_iload_n (i := 2) rfl hC (zdk dk_X12_isRootAt 8 rfl) (q := 13) rfl ?_
      refine x_aload_n (i := 0) rfl hC (zdk dk_X12_isRootAt 9 rfl) (q := 14) rfl ?_
      refine x_aload_n (i := 0) rfl hC (zdk dk_X12_isRootAt 10 rfl) (q := 15) rfl ?_
      refine x_getR (k := 20) fl_RX12_153 rfl h_r0 hC (zdk dk_X12_isRootAt 11 rfl) (q := 18) rfl (fun q2 hq2 => ?_)
      refine x_iload_n (i := 3) rfl hC (zdk dk_X12_isRootAt 12 rfl) (q := 19) rfl ?_
      refine x_iald hq2 hC (zdk dk_X12_isRootAt 13 rfl) (q := 20) rfl (fun k3 _ => ?_)
      refine x_aload_n (i := 0) rfl hC (zdk dk_X12_isRootAt 14 rfl) (q := 21) rfl ?_
      refine x_getR (k := 20) fl_RX12_141 rfl h_r0 hC (zdk dk_X12_isRootAt 15 rfl) (q := 24) rfl (fun q4 hq4 => ?_)
      refine x_aload_n (i := 0) rfl hC (zdk dk_X12_isRootAt 16 rfl) (q := 25) rfl ?_
      refine x_getI fl_RX12_126 (by decide) h_r0 hC (zdk dk_X12_isRootAt 17 rfl) (q := 28) rfl ?_
      refine x_iload_n (i := 1) rfl hC (zdk dk_X12_isRootAt 18 rfl) (q := 29) rfl ?_
      refine x_isub hC (zdk dk_X12_isRootAt 19 rfl) (q := 30) rfl ?_
      refine x_iload_n (i := 3) rfl hC (zdk dk_X12_isRootAt 20 rfl) (q := 31) rfl ?_
      refine x_imul hC (zdk dk_X12_isRootAt 21 rfl) (q := 32) rfl ?_
      refine x_aload_n (i := 0) rfl hC (zdk dk_X12_isRootAt 22 rfl) (q := 33) rfl ?_
      refine x_getI fl_RX12_126 (by decide) h_r0 hC (zdk dk_X12_isRootAt 23 rfl) (q := 36) rfl ?_
      refine x_iremG hC (zdk dk_X12_isRootAt 24 rfl) (q := 37) rfl ?_
      refine x_iald hq4 hC (zdk dk_X12_isRootAt 25 rfl) (q := 38) rfl (fun k5 _ => ?_)
      refine x_callVi (as := [.int (zI M q2 k3), .int (zI M q4 k5)]) cb_RX12_425 rfl (by decide) hk0 h_r0 (fun x hx => t_X12_times h_r0 x hx) hC (zdk dk_X12_isRootAt 26 rfl) (q := 41) rfl rfl (Nat.le_of_ble_eq_true rfl) (fun z6 => ?_)
      refine x_ixor hC (zdk dk_X12_isRootAt 27 rfl) (q := 42) rfl ?_
      refine x_istore_n (i := 2) (L' := [.ref r0, .int x1, .int (x2 ^^^ z6.1), .int x3]) (by decide) rfl hC (zdk dk_X12_isRootAt 28 rfl) (q := 43) rfl ?_
      refine x_iinc (i := 3) c_iconst_1 rfl (by decide) (L' := [.ref r0, .int x1, .int (x2 ^^^ z6.1), .int (x3 + 1)]) rfl hC (zdk dk_X12_isRootAt 29 rfl) (q := 46) rfl ?_
      refine x_goto (tgt := 4) hC (zdk dk_X12_isRootAt 30 rfl) rfl ?_
      refine x_weak (L' := [.ref r0, .int x1, .int (x2 ^^^ z6.1), .int (x3 + 1)]) ⟨Or.inr rfl, Or.inr rfl, Or.inr rfl, Or.inr rfl, trivial⟩ ?_
      exact ih _ _ _
set_option maxRecDepth 100000 in
def f_X12_isRootAt (r0 : Nat) (x1 : Int32) (M : Mem) : Option (Int32 × Mem) := f_X12_isRootAt_4 r0 x1 1000000 0 1 M
set_option maxRecDepth 100000 in
set_option maxHeartbeats 4000000 in
theorem x_X12_isRootAt {κ : KX} {n : Nat} (hC : CX κ cX12_isRootAt RX12 4 (some .boolean) 1) (hE : zEnd κ n (0, 0)) (hk0 : zRk κ (0, 0)) (r0 : Nat) (x1 : Int32) (M : Mem) (h_r0 : zO n r0 12) : X κ 4 emI n (0, 0) 0 [.ref r0, .int x1, .null, .null] [] M (f_X12_isRootAt r0 x1 M) := by
  unfold f_X12_isRootAt
  refine x_iconst (i := 0) c_iconst_0 hC (zdk dk_X12_isRootAt 0 rfl) (q := 1) rfl ?_
  refine x_istore_n (i := 2) (L' := [.ref r0, .int x1, .int 0, .null]) (by decide) rfl hC (zdk dk_X12_isRootAt 1 rfl) (q := 2) rfl ?_
  refine x_iconst (i := 1) c_iconst_1 hC (zdk dk_X12_isRootAt 2 rfl) (q := 3) rfl ?_
  refine x_istore_n (i := 3) (L' := [.ref r0, .int x1, .int 0, .int 1]) (by decide) rfl hC (zdk dk_X12_isRootAt 3 rfl) (q := 4) rfl ?_
  refine x_weak (L' := [.ref r0, .int x1, .int 0, .int 1]) ⟨Or.inr rfl, Or.inr rfl, Or.inr rfl, Or.inr rfl, trivial⟩ ?_
  exact x_X12_isRootAt_4 hC hE hk0 h_r0 _ _ _ _
set_option maxRecDepth 100000 in
set_option maxHeartbeats 4000000 in
theorem t_X12_isRootAt {n : Nat} {r0 : Nat} {x1 : Int32} {M : Mem} (h_r0 : zO n r0 12) (x : (Int32 × Mem)) (hx : f_X12_isRootAt r0 x1 M = some x) (l : Launch) (dC : Nat → ClassId) (dI : Nat → Nat → Nat) (b : zSg) : MT l dC dI b yX12_isRootAt cX12_isRootAt 4 (some .boolean) 1 0 0 n n [.ref r0, .int x1] M (emI x).1 (emI x).2 :=
  MT.ofX (by decide +kernel) rfl (Nat.le_of_ble_eq_true rfl) (fun κ hC hF _ => x_X12_isRootAt hC (zEnd_of hF (Nat.le_refl _) (Nat.le_refl _)) (zRk_of hF (Nat.le_refl _) (Nat.le_refl _)) _ _ _ h_r0) x hx
set_option maxRecDepth 100000 in
def dt_X12_readsBits : List (Nat × Instr × Nat) := [(0, .aload_n 0, 1), (1, .lload_n 1, 1), (2, .invokevirtual 461, 3), (5, .aload_n 0, 1), (6, .invokevirtual 464, 3), (9, .aload_n 0, 1), (10, .iconst 0, 1), (11, .putfield 171, 3), (14, .aload_n 0, 1), (15, .lload_n 1, 1), (16, .putfield 174, 3), (19, .aload_n 0, 1), (20, .iconst 0, 1), (21, .putfield 165, 3), (24, .aload_n 0, 1), (25, .getfield 162, 3), (28, .aload_n 0, 1), (29, .iconst 2, 1), (30, .invokevirtual 428, 3), (33, .if_icmp .le 13, 3), (36, .aload_n 0, 1), (37, .iconst 1, 1), (38, .putfield 165, 3), (41, .aload_n 0, 1), (42, .getfield 165, 3), (45, .ireturn, 1), (46, .iconst 0, 1), (47, .istore_n 3, 1), (48, .iload_n 3, 1), (49, .aload_n 0, 1), (50, .getfield 126, 3), (53, .if_icmp .ge 40, 3), (56, .aload_n 0, 1), (57, .iload_n 3, 1), (58, .invokevirtual 467, 3), (61, .ifCond .ne 6, 3), (64, .goto 23, 3), (67, .aload_n 0, 1), (68, .getfield 168, 3), (71, .aload_n 0, 1), (72, .getfield 171, 3), (75, .iload_n 3, 1), (76, .iastore, 1), (77, .aload_n 0, 1), (78, .dup, 1), (79, .getfield 171, 3), (82, .iconst 1, 1), (83, .iadd, 1), (84, .putfield 171, 3), (87, .iinc 3 1, 3), (90, .goto (-42), 3), (93, .aload_n 0, 1), (94, .getfield 171, 3), (97, .aload_n 0, 1), (98, .getfield 162, 3), (101, .if_icmp .eq 11, 3), (104, .aload_n 0, 1), (105, .iconst 2, 1), (106, .putfield 165, 3), (109, .goto 33, 3), (112, .aload_n 0, 1), (113, .getfield 171, 3), (116, .ifCond .le 26, 3), (119, .aload_n 0, 1), (120, .getfield 168, 3), (123, .aload_n 0, 1), (124, .getfield 171, 3), (127, .iconst 1, 1), (128, .isub, 1), (129, .iaload, 1), (130, .aload_n 0, 1), (131, .getfield 132, 3), (134, .if_icmp .lt 8, 3), (137, .aload_n 0, 1), (138, .iconst 3, 1), (139, .putfield 165, 3), (142, .iconst 0, 1), (143, .istore_n 3, 1), (144, .iload_n 3, 1), (145, .aload_n 0, 1), (146, .getfield 171, 3), (149, .if_icmp .ge 33, 3), (152, .aload_n 0, 1), (153, .getfield 165, 3), (156, .ifCond .ne 26, 3), (159, .aload_n 0, 1), (160, .dup, 1), (161, .getfield 174, 3), (164, .lconst 1, 1), (165, .aload_n 0, 1), (166, .getfield 168, 3), (169, .iload_n 3, 1), (170, .iaload, 1), (171, .lshl, 1), (172, .lxor, 1), (173, .putfield 174, 3), (176, .iinc 3 1, 3), (179, .goto (-35), 3), (182, .aload_n 0, 1), (183, .getfield 165, 3), (186, .ireturn, 1)]
set_option maxRecDepth 100000 in
theorem dk_X12_readsBits : dt_X12_readsBits.all (fun q => decide (decode cX12_readsBits q.1 = .ok q.2)) = true := by decide +kernel
set_option maxRecDepth 100000 in
def f_X12_readsBits_87 (k48 : Int32 → Mem → Option (Int32 × Mem)) (r0 : Nat) (y1 : Int64) (x3 : Int32) (M : Mem) : Option (Int32 × Mem) := k48 (x3 + 1) M
set_option maxRecDepth 100000 in
set_option maxHeartbeats 4000000 in
theorem x_X12_readsBits_87 {κ : KX} {n : Nat} (hC : CX κ cX12_readsBits RX12 4 (some .int) 3) (hE : zEnd κ n (0, 0)) (hk0 : zRk κ (0, 0)) {r0 : Nat} {y1 : Int64} (h_r0 : zO n r0 12) (k48 : Int32 → Mem → Option (Int32 × Mem)) (hk48 : ∀ (x3 : Int32) (M : Mem), X κ 4 emI n (0, 0) 48 [.ref r0, .null, .null, .int x3] [] M (k48 x3 M)) (x3 : Int32) (M : Mem) : X κ 4 emI n (0, 0) 87 [.ref r0, .null, .null, .int x3] [] M (f_X12_readsBits_87 k48 r0 y1 x3 M) := by
  unfold f_X12_readsBits_87
  refine x_iinc (i := 3) c_iconst_1 rfl (by decide) (L' := [.ref r0, .null, .null, .int (x3 + 1)]) rfl hC (zdk dk_X12_readsBits 49 rfl) (q := 90) rfl ?_
  refine x_goto (tgt := 48) hC (zdk dk_X12_readsBits 50 rfl) rfl ?_
  refine x_weak (L' := [.ref r0, .null, .null, .int (x3 + 1)]) ⟨Or.inr rfl, Or.inl rfl, Or.inl rfl, Or.inr rfl, trivial⟩ ?_
  exact hk48 _ _
set_option maxRecDepth 100000 in
def f_X12_readsBits_182  (r0 : Nat) (y1 : Int64)  (M : Mem) : Option (Int32 × Mem) := some (zI M r0 50, M)
set_option maxRecDepth 100000 in
set_option maxHeartbeats 4000000 in
theorem x_X12_readsBits_182 {κ : KX} {n : Nat} (hC : CX κ cX12_readsBits RX12 4 (some .int) 3) (hE : zEnd κ n (0, 0)) (hk0 : zRk κ (0, 0)) {r0 : Nat} {y1 : Int64} (h_r0 : zO n r0 12) (M : Mem) : X κ 4 emI n (0, 0) 182 [.ref r0, .null, .null, .null] [] M (f_X12_readsBits_182 r0 y1 M) := by
  unfold f_X12_readsBits_182
  refine x_aload_n (i := 0) rfl hC (zdk dk_X12_readsBits 98 rfl) (q := 183) rfl ?_
  refine x_getI fl_RX12_165 (by decide) h_r0 hC (zdk dk_X12_readsBits 99 rfl) (q := 186) rfl ?_
  exact x_iret (ty := .int) rfl hE hC (zdk dk_X12_readsBits 100 rfl)
set_option maxRecDepth 100000 in
def f_X12_readsBits_144  (r0 : Nat) (y1 : Int64) : Nat → Int32 → Mem → Option (Int32 × Mem)
  | 0, _, _ => none
  | f + 1, x3, M => (if zI M r0 52 ≤ x3 then f_X12_readsBits_182 r0 y1 M else (if zI M r0 50 = 0 then Option.bind (zrf M r0 51) fun q1 => Option.bind (zld q1 x3) fun k2 => Option.bind (some (zsL M r0 53 ((zL M r0 53) ^^^ ((1 : Int64) <<< ((zI M q1 k2).toInt64 &&& 63))))) fun M3 => (f_X12_readsBits_144 r0 y1 f) (x3 + 1) M3 else f_X12_readsBits_182 r0 y1 M))
set_option maxRecDepth 100000 in
set_option maxHeartbeats 4000000 in
theorem x_X12_readsBits_144 {κ : KX} {n : Nat} (hC : CX κ cX12_readsBits RX12 4 (some .int) 3) (hE : zEnd κ n (0, 0)) (hk0 : zRk κ (0, 0)) {r0 : Nat} {y1 : Int64} (h_r0 : zO n r0 12) : ∀ (f : Nat) (x3 : Int32) (M : Mem), X κ 4 emI n (0, 0) 144 [.ref r0, .null, .null, .int x3] [] M (f_X12_readsBits_144 r0 y1 f x3 M) := by
  intro f
  induction f with
  | zero => intros; exact x_none
  | succ f ih =>
    intro x3 M 
    rw [f_X12_readsBits_144]
    refine x_iload_n (i := 3) rfl hC (zdk dk_X12_readsBits 78 rfl) (q := 145) rfl ?_
    refine x_aload_n (i := 0) rfl hC (zdk dk_X12_readsBits 79 rfl) (q := 146) rfl ?_
    refine x_getI fl_RX12_171 (by decide) h_r0 hC (zdk dk_X12_readsBits 80 rfl) (q := 149) rfl ?_
    refine x_icmp_ge (tgt := 182) hC (zdk dk_X12_readsBits 81 rfl) (q := 152) rfl rfl (fun _ => ?_) (fun _ => ?_)
    · refine x_weak (L' := [.ref r0, .null, .null, .null]) ⟨Or.inr rfl, Or.inl rfl, Or.inl rfl, Or.inl rfl, trivial⟩ ?_
      exact x_X12_readsBits_182 hC hE hk0 h_r0 _
    · refine x_aload_n (i := 0) rfl hC (zdk dk_X12_readsBits 82 rfl) (q := 153) rfl ?_
      refine x_getI fl_RX12_165 (by decide) h_r0 hC (zdk dk_X12_readsBits 83 rfl) (q := 156) rfl ?_
      refine x_if_ne (tgt := 182) hC (zdk dk_X12_readsBits 84 rfl) (q := 159) rfl rfl (fun _ => ?_) (fun _ => ?_)
      · refine x_weak (L' := [.ref r0, .null, .null, .null]) ⟨Or.inr rfl, Or.inl rfl, Or.inl rfl, Or.inl rfl, trivial⟩ ?_
        exact x_X12_readsBits_182 hC hE hk0 h_r0 _
      · refine x_aload_n (i := 0) rfl hC (zdk dk_X12_readsBits 85 rfl) (q := 160) rfl ?_
        refine x_dup rfl hC (zdk dk_X12_readsBits 86 rfl) (q := 161) rfl ?_
        refine x_getL fl_RX12_174 h_r0 hC (zdk dk_X12_readsBits 87 rfl) (q := 164) rfl ?_
        refine x_lconst (i := 1) c_lconst_1 hC (zdk dk_X12_readsBits 88 rfl) (q := 165) rfl ?_
        refine x_aload_n (i := 0) rfl hC (zdk dk_X12_readsBits 89 rfl) (q := 166) rfl ?_
        refine x_getR (k := 20) fl_RX12_168 rfl h_r0 hC (zdk dk_X12_readsBits 90 rfl) (q := 169) rfl (fun q1 hq1 => ?_)
        refine x_iload_n (i := 3) rfl hC (zdk dk_X12_readsBits 91 rfl) (q := 170) rfl ?_
        refine x_iald hq1 hC (zdk dk_X12_readsBits 92 rfl) (q := 171) rfl (fun k2 _ => ?_)
        refine x_lshl hC (zdk dk_X12_readsBits 93 rfl) (q := 172) rfl ?_
        refine x_lxor hC (zdk dk_X12_readsBits 94 rfl) (q := 173) rfl ?_
        refine x_putL fl_RX12_174 ⟨rfl, rfl⟩ (Or.inl rfl) h_r0 hC (zdk dk_X12_readsBits 95 rfl) (q := 176) rfl ?_
        refine x_nmM (fun M3 => ?_)
        refine x_iinc (i := 3) c_iconst_1 rfl (by decide) (L' := [.ref r0, .null, .null, .int (x3 + 1)]) rfl hC (zdk dk_X12_readsBits 96 rfl) (q := 179) rfl ?_
        refine x_goto (tgt := 144) hC (zdk dk_X12_readsBits 97 rfl) rfl ?_
        refine x_weak (L' := [.ref r0, .null, .null, .int (x3 + 1)]) ⟨Or.inr rfl, Or.inl rfl, Or.inl rfl, Or.inr rfl, trivial⟩ ?_
        exact ih _ _
set_option maxRecDepth 100000 in
def f_X12_readsBits_142  (r0 : Nat) (y1 : Int64)  (M : Mem) : Option (Int32 × Mem) := f_X12_readsBits_144 r0 y1 1000000 0 M
set_option maxRecDepth 100000 in
set_option maxHeartbeats 4000000 in
theorem x_X12_readsBits_142 {κ : KX} {n : Nat} (hC : CX κ cX12_readsBits RX12 4 (some .int) 3) (hE : zEnd κ n (0, 0)) (hk0 : zRk κ (0, 0)) {r0 : Nat} {y1 : Int64} (h_r0 : zO n r0 12) (M : Mem) : X κ 4 emI n (0, 0) 142 [.ref r0, .null, .null, .null] [] M (f_X12_readsBits_142 r0 y1 M) := by
  unfold f_X12_readsBits_142
  refine x_iconst (i := 0) c_iconst_0 hC (zdk dk_X12_readsBits 76 rfl) (q := 143) rfl ?_
  refine x_istore_n (i := 3) (L' := [.ref r0, .null, .null, .int 0]) (by decide) rfl hC (zdk dk_X12_readsBits 77 rfl) (q := 144) rfl ?_
  refine x_weak (L' := [.ref r0, .null, .null, .int 0]) ⟨Or.inr rfl, Or.inl rfl, Or.inl rfl, Or.inr rfl, trivial⟩ ?_
  exact x_X12_readsBits_144 hC hE hk0 h_r0 _ _ _
set_option maxRecDepth 100000 in
def f_X12_readsBits_48  (r0 : Nat) (y1 : Int64) : Nat → Int32 → Mem → Option (Int32 × Mem)
  | 0, _, _ => none
  | f + 1, x3, M => (if zI M r0 37 ≤ x3 then (if zI M r0 52 = zI M r0 49 then (if zI M r0 52 ≤ 0 then f_X12_readsBits_142 r0 y1 M else Option.bind (zrf M r0 51) fun q4 => Option.bind (zld q4 ((zI M r0 52) - 1)) fun k5 => (if zI M q4 k5 < zI M r0 39 then f_X12_readsBits_142 r0 y1 M else Option.bind (some (zsI M r0 50 3)) fun M6 => f_X12_readsBits_142 r0 y1 M6)) else Option.bind (some (zsI M r0 50 2)) fun M7 => f_X12_readsBits_142 r0 y1 M7) else Option.bind (f_X12_isRootAt r0 x3 M) fun z8 => (if z8.1 = 0 then f_X12_readsBits_87 (f_X12_readsBits_48 r0 y1 f) r0 y1 x3 z8.2 else Option.bind (zrf z8.2 r0 51) fun q9 => Option.bind (zld q9 (zI z8.2 r0 52)) fun k10 => Option.bind (some (zsI z8.2 q9 k10 x3)) fun M11 => Option.bind (some (zsI M11 r0 52 ((zI M11 r0 52) + 1))) fun M12 => f_X12_readsBits_87 (f_X12_readsBits_48 r0 y1 f) r0 y1 x3 M12))
set_option maxRecDepth 100000 in
set_option maxHeartbeats 4000000 in
theorem x_X12_readsBits_48 {κ : KX} {n : Nat} (hC : CX κ cX12_readsBits RX12 4 (some .int) 3) (hE : zEnd κ n (0, 0)) (hk0 : zRk κ (0, 0)) {r0 : Nat} {y1 : Int64} (h_r0 : zO n r0 12) : ∀ (f : Nat) (x3 : Int32) (M : Mem), X κ 4 emI n (0, 0) 48 [.ref r0, .null, .null, .int x3] [] M (f_X12_readsBits_48 r0 y1 f x3 M) := by
  intro f
  induction f with
  | zero => intros; exact x_none
  | succ f ih =>
    intro x3 M 
    rw [f_X12_readsBits_48]
    refine x_iload_n (i := 3) rfl hC (zdk dk_X12_readsBits 28 rfl) (q := 49) rfl ?_
    refine x_aload_n (i := 0) rfl hC (zdk dk_X12_readsBits 29 rfl) (q := 50) rfl ?_
    refine x_getI fl_RX12_126 (by decide) h_r0 hC (zdk dk_X12_readsBits 30 rfl) (q := 53) rfl ?_
    refine x_icmp_ge (tgt := 93) hC (zdk dk_X12_readsBits 31 rfl) (q := 56) rfl rfl (fun _ => ?_) (fun _ => ?_)
    · refine x_aload_n (i := 0) rfl hC (zdk dk_X12_readsBits 51 rfl) (q := 94) rfl ?_
      refine x_getI fl_RX12_171 (by decide) h_r0 hC (zdk dk_X12_readsBits 52 rfl) (q := 97) rfl ?_
      refine x_aload_n (i := 0) rfl hC (zdk dk_X12_readsBits 53 rfl) (q := 98) rfl ?_
      refine x_getI fl_RX12_162 (by decide) h_r0 hC (zdk dk_X12_readsBits 54 rfl) (q := 101) rfl ?_
      refine x_icmp_eq (tgt := 112) hC (zdk dk_X12_readsBits 55 rfl) (q := 104) rfl rfl (fun _ => ?_) (fun _ => ?_)
      · refine x_aload_n (i := 0) rfl hC (zdk dk_X12_readsBits 60 rfl) (q := 113) rfl ?_
        refine x_getI fl_RX12_171 (by decide) h_r0 hC (zdk dk_X12_readsBits 61 rfl) (q := 116) rfl ?_
        refine x_if_le (tgt := 142) hC (zdk dk_X12_readsBits 62 rfl) (q := 119) rfl rfl (fun _ => ?_) (fun _ => ?_)
        · refine x_weak (L' := [.ref r0, .null, .null, .null]) ⟨Or.inr rfl, Or.inl rfl, Or.inl rfl, Or.inl rfl, trivial⟩ ?_
          exact x_X12_readsBits_142 hC hE hk0 h_r0 _
        · refine x_aload_n (i := 0) rfl hC (zdk dk_X12_readsBits 63 rfl) (q := 120) rfl ?_
          refine x_getR (k := 20) fl_RX12_168 rfl h_r0 hC (zdk dk_X12_readsBits 64 rfl) (q := 123) rfl (fun q4 hq4 => ?_)
          refine x_aload_n (i := 0) rfl hC (zdk dk_X12_readsBits 65 rfl) (q := 124) rfl ?_
          refine x_getI fl_RX12_171 (by decide) h_r0 hC (zdk dk_X12_readsBits 66 rfl) (q := 127) rfl ?_
          refine x_iconst (i := 1) c_iconst_1 hC (zdk dk_X12_readsBits 67 rfl) (q := 128) rfl ?_
          refine x_isub hC (zdk dk_X12_readsBits 68 rfl) (q := 129) rfl ?_
          refine x_iald hq4 hC (zdk dk_X12_readsBits 69 rfl) (q := 130) rfl (fun k5 _ => ?_)
          refine x_aload_n (i := 0) rfl hC (zdk dk_X12_readsBits 70 rfl) (q := 131) rfl ?_
          refine x_getI fl_RX12_132 (by decide) h_r0 hC (zdk dk_X12_readsBits 71 rfl) (q := 134) rfl ?_
          refine x_icmp_lt (tgt := 142) hC (zdk dk_X12_readsBits 72 rfl) (q := 137) rfl rfl (fun _ => ?_) (fun _ => ?_)
          · refine x_weak (L' := [.ref r0, .null, .null, .null]) ⟨Or.inr rfl, Or.inl rfl, Or.inl rfl, Or.inl rfl, trivial⟩ ?_
            exact x_X12_readsBits_142 hC hE hk0 h_r0 _
          · refine x_aload_n (i := 0) rfl hC (zdk dk_X12_readsBits 73 rfl) (q := 138) rfl ?_
            refine x_iconst (i := 3) c_iconst_3 hC (zdk dk_X12_readsBits 74 rfl) (q := 139) rfl ?_
            refine x_putI fl_RX12_165 ⟨rfl, rfl⟩ (by decide) (Or.inl rfl) h_r0 hC (zdk dk_X12_readsBits 75 rfl) (q := 142) rfl ?_
            refine x_nmM (fun M6 => ?_)
            refine x_weak (L' := [.ref r0, .null, .null, .null]) ⟨Or.inr rfl, Or.inl rfl, Or.inl rfl, Or.inl rfl, trivial⟩ ?_
            exact x_X12_readsBits_142 hC hE hk0 h_r0 _
      · refine x_aload_n (i := 0) rfl hC (zdk dk_X12_readsBits 56 rfl) (q := 105) rfl ?_
        refine x_iconst (i := 2) c_iconst_2 hC (zdk dk_X12_readsBits 57 rfl) (q := 106) rfl ?_
        refine x_putI fl_RX12_165 ⟨rfl, rfl⟩ (by decide) (Or.inl rfl) h_r0 hC (zdk dk_X12_readsBits 58 rfl) (q := 109) rfl ?_
        refine x_nmM (fun M7 => ?_)
        refine x_goto (tgt := 142) hC (zdk dk_X12_readsBits 59 rfl) rfl ?_
        refine x_weak (L' := [.ref r0, .null, .null, .null]) ⟨Or.inr rfl, Or.inl rfl, Or.inl rfl, Or.inl rfl, trivial⟩ ?_
        exact x_X12_readsBits_142 hC hE hk0 h_r0 _
    · refine x_aload_n (i := 0) rfl hC (zdk dk_X12_readsBits 32 rfl) (q := 57) rfl ?_
      refine x_iload_n (i := 3) rfl hC (zdk dk_X12_readsBits 33 rfl) (q := 58) rfl ?_
      refine x_callVi (as := [.int x3]) cb_RX12_467 rfl (by decide) hk0 h_r0 (fun x hx => t_X12_isRootAt h_r0 x hx) hC (zdk dk_X12_readsBits 34 rfl) (q := 61) rfl rfl (Nat.le_of_ble_eq_true rfl) (fun z8 => ?_)
      refine x_if_ne (tgt := 67) hC (zdk dk_X12_readsBits 35 rfl) (q := 64) rfl rfl (fun _ => ?_) (fun _ => ?_)
      · refine x_aload_n (i := 0) rfl hC (zdk dk_X12_readsBits 37 rfl) (q := 68) rfl ?_
        refine x_getR (k := 20) fl_RX12_168 rfl h_r0 hC (zdk dk_X12_readsBits 38 rfl) (q := 71) rfl (fun q9 hq9 => ?_)
        refine x_aload_n (i := 0) rfl hC (zdk dk_X12_readsBits 39 rfl) (q := 72) rfl ?_
        refine x_getI fl_RX12_171 (by decide) h_r0 hC (zdk dk_X12_readsBits 40 rfl) (q := 75) rfl ?_
        refine x_iload_n (i := 3) rfl hC (zdk dk_X12_readsBits 41 rfl) (q := 76) rfl ?_
        refine x_iast hq9 hC (zdk dk_X12_readsBits 42 rfl) (q := 77) rfl (fun k10 _ => ?_)
        refine x_nmM (fun M11 => ?_)
        refine x_aload_n (i := 0) rfl hC (zdk dk_X12_readsBits 43 rfl) (q := 78) rfl ?_
        refine x_dup rfl hC (zdk dk_X12_readsBits 44 rfl) (q := 79) rfl ?_
        refine x_getI fl_RX12_171 (by decide) h_r0 hC (zdk dk_X12_readsBits 45 rfl) (q := 82) rfl ?_
        refine x_iconst (i := 1) c_iconst_1 hC (zdk dk_X12_readsBits 46 rfl) (q := 83) rfl ?_
        refine x_iadd hC (zdk dk_X12_readsBits 47 rfl) (q := 84) rfl ?_
        refine x_putI fl_RX12_171 ⟨rfl, rfl⟩ (by decide) (Or.inl rfl) h_r0 hC (zdk dk_X12_readsBits 48 rfl) (q := 87) rfl ?_
        refine x_nmM (fun M12 => ?_)
        refine x_weak (L' := [.ref r0, .null, .null, .int x3]) ⟨Or.inr rfl, Or.inl rfl, Or.inl rfl, Or.inr rfl, trivial⟩ ?_
        exact x_X12_readsBits_87 hC hE hk0 h_r0 (f_X12_readsBits_48 r0 y1 f) ih _ _
      · refine x_goto (tgt := 87) hC (zdk dk_X12_readsBits 36 rfl) rfl ?_
        refine x_weak (L' := [.ref r0, .null, .null, .int x3]) ⟨Or.inr rfl, Or.inl rfl, Or.inl rfl, Or.inr rfl, trivial⟩ ?_
        exact x_X12_readsBits_87 hC hE hk0 h_r0 (f_X12_readsBits_48 r0 y1 f) ih _ _
set_option maxRecDepth 100000 in
def f_X12_readsBits (r0 : Nat) (y1 : Int64) (M : Mem) : Option (Int32 × Mem) := Option.bind (f_X12_syndromesOf r0 y1 M) fun M13 => Option.bind (f_X12_locates r0 M13) fun M14 => Option.bind (some (zsI M14 r0 52 0)) fun M15 => Option.bind (some (zsL M15 r0 53 y1)) fun M16 => Option.bind (some (zsI M16 r0 50 0)) fun M17 => Option.bind (f_X12_by r0 2 M17) fun z18 => (if zI M17 r0 49 ≤ z18.1 then f_X12_readsBits_48 r0 y1 1000000 0 z18.2 else Option.bind (some (zsI z18.2 r0 50 1)) fun M19 => some (zI M19 r0 50, M19))
set_option maxRecDepth 100000 in
set_option maxHeartbeats 4000000 in
theorem x_X12_readsBits {κ : KX} {n : Nat} (hC : CX κ cX12_readsBits RX12 4 (some .int) 3) (hE : zEnd κ n (0, 0)) (hk0 : zRk κ (0, 0)) (r0 : Nat) (y1 : Int64) (M : Mem) (h_r0 : zO n r0 12) : X κ 4 emI n (0, 0) 0 [.ref r0, .long y1, .null, .null] [] M (f_X12_readsBits r0 y1 M) := by
  unfold f_X12_readsBits
  refine x_aload_n (i := 0) rfl hC (zdk dk_X12_readsBits 0 rfl) (q := 1) rfl ?_
  refine x_lload_n (i := 1) rfl hC (zdk dk_X12_readsBits 1 rfl) (q := 2) rfl ?_
  refine x_callVv (as := [.long y1]) cb_RX12_461 rfl (by decide) hk0 h_r0 (fun x hx => t_X12_syndromesOf h_r0 x hx) hC (zdk dk_X12_readsBits 2 rfl) (q := 5) rfl rfl (Nat.le_of_ble_eq_true rfl) (fun M13 => ?_)
  refine x_aload_n (i := 0) rfl hC (zdk dk_X12_readsBits 3 rfl) (q := 6) rfl ?_
  refine x_callVv (as := []) cb_RX12_464 rfl (by decide) hk0 h_r0 (fun x hx => t_X12_locates h_r0 x hx) hC (zdk dk_X12_readsBits 4 rfl) (q := 9) rfl rfl (Nat.le_of_ble_eq_true rfl) (fun M14 => ?_)
  refine x_aload_n (i := 0) rfl hC (zdk dk_X12_readsBits 5 rfl) (q := 10) rfl ?_
  refine x_iconst (i := 0) c_iconst_0 hC (zdk dk_X12_readsBits 6 rfl) (q := 11) rfl ?_
  refine x_putI fl_RX12_171 ⟨rfl, rfl⟩ (by decide) (Or.inl rfl) h_r0 hC (zdk dk_X12_readsBits 7 rfl) (q := 14) rfl ?_
  refine x_nmM (fun M15 => ?_)
  refine x_aload_n (i := 0) rfl hC (zdk dk_X12_readsBits 8 rfl) (q := 15) rfl ?_
  refine x_lload_n (i := 1) rfl hC (zdk dk_X12_readsBits 9 rfl) (q := 16) rfl ?_
  refine x_putL fl_RX12_174 ⟨rfl, rfl⟩ (Or.inl rfl) h_r0 hC (zdk dk_X12_readsBits 10 rfl) (q := 19) rfl ?_
  refine x_nmM (fun M16 => ?_)
  refine x_aload_n (i := 0) rfl hC (zdk dk_X12_readsBits 11 rfl) (q := 20) rfl ?_
  refine x_iconst (i := 0) c_iconst_0 hC (zdk dk_X12_readsBits 12 rfl) (q := 21) rfl ?_
  refine x_putI fl_RX12_165 ⟨rfl, rfl⟩ (by decide) (Or.inl rfl) h_r0 hC (zdk dk_X12_readsBits 13 rfl) (q := 24) rfl ?_
  refine x_nmM (fun M17 => ?_)
  refine x_aload_n (i := 0) rfl hC (zdk dk_X12_readsBits 14 rfl) (q := 25) rfl ?_
  refine x_getI fl_RX12_162 (by decide) h_r0 hC (zdk dk_X12_readsBits 15 rfl) (q := 28) rfl ?_
  refine x_aload_n (i := 0) rfl hC (zdk dk_X12_readsBits 16 rfl) (q := 29) rfl ?_
  refine x_iconst (i := 2) c_iconst_2 hC (zdk dk_X12_readsBits 17 rfl) (q := 30) rfl ?_
  refine x_callVi (as := [.int 2]) cb_RX12_428 rfl (by decide) hk0 h_r0 (fun x hx => t_X12_by h_r0 x hx) hC (zdk dk_X12_readsBits 18 rfl) (q := 33) rfl rfl (Nat.le_of_ble_eq_true rfl) (fun z18 => ?_)
  refine x_icmp_le (tgt := 46) hC (zdk dk_X12_readsBits 19 rfl) (q := 36) rfl rfl (fun _ => ?_) (fun _ => ?_)
  · refine x_iconst (i := 0) c_iconst_0 hC (zdk dk_X12_readsBits 26 rfl) (q := 47) rfl ?_
    refine x_istore_n (i := 3) (L' := [.ref r0, .long y1, .null, .int 0]) (by decide) rfl hC (zdk dk_X12_readsBits 27 rfl) (q := 48) rfl ?_
    refine x_weak (L' := [.ref r0, .null, .null, .int 0]) ⟨Or.inr rfl, Or.inl rfl, Or.inl rfl, Or.inr rfl, trivial⟩ ?_
    exact x_X12_readsBits_48 hC hE hk0 h_r0 _ _ _
  · refine x_aload_n (i := 0) rfl hC (zdk dk_X12_readsBits 20 rfl) (q := 37) rfl ?_
    refine x_iconst (i := 1) c_iconst_1 hC (zdk dk_X12_readsBits 21 rfl) (q := 38) rfl ?_
    refine x_putI fl_RX12_165 ⟨rfl, rfl⟩ (by decide) (Or.inl rfl) h_r0 hC (zdk dk_X12_readsBits 22 rfl) (q := 41) rfl ?_
    refine x_nmM (fun M19 => ?_)
    refine x_aload_n (i := 0) rfl hC (zdk dk_X12_readsBits 23 rfl) (q := 42) rfl ?_
    refine x_getI fl_RX12_165 (by decide) h_r0 hC (zdk dk_X12_readsBits 24 rfl) (q := 45) rfl ?_
    exact x_iret (ty := .int) rfl hE hC (zdk dk_X12_readsBits 25 rfl)
set_option maxRecDepth 100000 in
set_option maxHeartbeats 4000000 in
theorem t_X12_readsBits {n : Nat} {r0 : Nat} {y1 : Int64} {M : Mem} (h_r0 : zO n r0 12) (x : (Int32 × Mem)) (hx : f_X12_readsBits r0 y1 M = some x) (l : Launch) (dC : Nat → ClassId) (dI : Nat → Nat → Nat) (b : zSg) : MT l dC dI b yX12_readsBits cX12_readsBits 4 (some .int) 3 0 0 n n [.ref r0, .long y1] M (emI x).1 (emI x).2 :=
  MT.ofX (by decide +kernel) rfl (Nat.le_of_ble_eq_true rfl) (fun κ hC hF _ => x_X12_readsBits hC (zEnd_of hF (Nat.le_refl _) (Nat.le_refl _)) (zRk_of hF (Nat.le_refl _) (Nat.le_refl _)) _ _ _ h_r0) x hx
set_option maxRecDepth 100000 in
def dt_X12_counts : List (Nat × Instr × Nat) := [(0, .aload_n 0, 1), (1, .lload_n 1, 1), (2, .invokevirtual 470, 3), (5, .istore_n 3, 1), (6, .aload_n 0, 1), (7, .getfield 177, 3), (10, .iload_n 3, 1), (11, .ifCond .le 7, 3), (14, .iconst 2, 1), (15, .goto 17, 3), (18, .aload_n 0, 1), (19, .getfield 174, 3), (22, .lconst 0, 1), (23, .lcmp, 1), (24, .ifCond .ne 7, 3), (27, .iconst 0, 1), (28, .goto 4, 3), (31, .iconst 1, 1), (32, .dup2, 1), (33, .iaload, 1), (34, .iconst 1, 1), (35, .iadd, 1), (36, .iastore, 1), (37, .return_, 1)]
set_option maxRecDepth 100000 in
theorem dk_X12_counts : dt_X12_counts.all (fun q => decide (decode cX12_counts q.1 = .ok q.2)) = true := by decide +kernel
set_option maxRecDepth 100000 in
def f_X12_counts_32  (r0 : Nat) (y1 : Int64) (s0 : Nat) (s1 : Int32) (M : Mem) : Option Mem := Option.bind (zld s0 s1) fun k1 => Option.bind (zld s0 s1) fun k2 => Option.bind (some (zsI M s0 k2 ((zI M s0 k1) + 1))) fun M3 => some M3
set_option maxRecDepth 100000 in
set_option maxHeartbeats 4000000 in
theorem x_X12_counts_32 {κ : KX} {n : Nat} (hC : CX κ cX12_counts RX12 4 none 4) (hE : zEnd κ n (0, 0)) (hk0 : zRk κ (0, 0)) {r0 : Nat} {y1 : Int64} (h_r0 : zO n r0 12) (s0 : Nat) (s1 : Int32) (M : Mem) (h_s0 : zO n s0 20) : X κ 4 emV n (0, 0) 32 [.null, .null, .null, .null] [.int s1, .ref s0] M (f_X12_counts_32 r0 y1 s0 s1 M) := by
  unfold f_X12_counts_32
  refine x_dup2 rfl rfl hC (zdk dk_X12_counts 18 rfl) (q := 33) rfl ?_
  refine x_iald h_s0 hC (zdk dk_X12_counts 19 rfl) (q := 34) rfl (fun k1 _ => ?_)
  refine x_iconst (i := 1) c_iconst_1 hC (zdk dk_X12_counts 20 rfl) (q := 35) rfl ?_
  refine x_iadd hC (zdk dk_X12_counts 21 rfl) (q := 36) rfl ?_
  refine x_iast h_s0 hC (zdk dk_X12_counts 22 rfl) (q := 37) rfl (fun k2 _ => ?_)
  refine x_nmM (fun M3 => ?_)
  exact x_vret hE hC (zdk dk_X12_counts 23 rfl)
set_option maxRecDepth 100000 in
def f_X12_counts (r0 : Nat) (y1 : Int64) (M : Mem) : Option Mem := Option.bind (f_X12_readsBits r0 y1 M) fun z4 => Option.bind (zrf z4.2 r0 54) fun q5 => (if z4.1 ≤ 0 then (if lg_cmp (zL z4.2 r0 53) 0 = 0 then f_X12_counts_32 r0 y1 q5 0 z4.2 else f_X12_counts_32 r0 y1 q5 1 z4.2) else f_X12_counts_32 r0 y1 q5 2 z4.2)
set_option maxRecDepth 100000 in
set_option maxHeartbeats 4000000 in
theorem x_X12_counts {κ : KX} {n : Nat} (hC : CX κ cX12_counts RX12 4 none 4) (hE : zEnd κ n (0, 0)) (hk0 : zRk κ (0, 0)) (r0 : Nat) (y1 : Int64) (M : Mem) (h_r0 : zO n r0 12) : X κ 4 emV n (0, 0) 0 [.ref r0, .long y1, .null, .null] [] M (f_X12_counts r0 y1 M) := by
  unfold f_X12_counts
  refine x_aload_n (i := 0) rfl hC (zdk dk_X12_counts 0 rfl) (q := 1) rfl ?_
  refine x_lload_n (i := 1) rfl hC (zdk dk_X12_counts 1 rfl) (q := 2) rfl ?_
  refine x_callVi (as := [.long y1]) cb_RX12_470 rfl (by decide) hk0 h_r0 (fun x hx => t_X12_readsBits h_r0 x hx) hC (zdk dk_X12_counts 2 rfl) (q := 5) rfl rfl (Nat.le_of_ble_eq_true rfl) (fun z4 => ?_)
  refine x_istore_n (i := 3) (L' := [.ref r0, .long y1, .null, .int z4.1]) (by decide) rfl hC (zdk dk_X12_counts 3 rfl) (q := 6) rfl ?_
  refine x_aload_n (i := 0) rfl hC (zdk dk_X12_counts 4 rfl) (q := 7) rfl ?_
  refine x_getR (k := 20) fl_RX12_177 rfl h_r0 hC (zdk dk_X12_counts 5 rfl) (q := 10) rfl (fun q5 hq5 => ?_)
  refine x_iload_n (i := 3) rfl hC (zdk dk_X12_counts 6 rfl) (q := 11) rfl ?_
  refine x_if_le (tgt := 18) hC (zdk dk_X12_counts 7 rfl) (q := 14) rfl rfl (fun _ => ?_) (fun _ => ?_)
  · refine x_aload_n (i := 0) rfl hC (zdk dk_X12_counts 10 rfl) (q := 19) rfl ?_
    refine x_getL fl_RX12_174 h_r0 hC (zdk dk_X12_counts 11 rfl) (q := 22) rfl ?_
    refine x_lconst (i := 0) c_lconst_0 hC (zdk dk_X12_counts 12 rfl) (q := 23) rfl ?_
    refine x_lcmp hC (zdk dk_X12_counts 13 rfl) (q := 24) rfl ?_
    refine x_if_ne (tgt := 31) hC (zdk dk_X12_counts 14 rfl) (q := 27) rfl rfl (fun _ => ?_) (fun _ => ?_)
    · refine x_iconst (i := 1) c_iconst_1 hC (zdk dk_X12_counts 17 rfl) (q := 32) rfl ?_
      refine x_weak (L' := [.null, .null, .null, .null]) ⟨Or.inl rfl, Or.inl rfl, Or.inl rfl, Or.inl rfl, trivial⟩ ?_
      exact x_X12_counts_32 hC hE hk0 h_r0 _ _ _ hq5
    · refine x_iconst (i := 0) c_iconst_0 hC (zdk dk_X12_counts 15 rfl) (q := 28) rfl ?_
      refine x_goto (tgt := 32) hC (zdk dk_X12_counts 16 rfl) rfl ?_
      refine x_weak (L' := [.null, .null, .null, .null]) ⟨Or.inl rfl, Or.inl rfl, Or.inl rfl, Or.inl rfl, trivial⟩ ?_
      exact x_X12_counts_32 hC hE hk0 h_r0 _ _ _ hq5
  · refine x_iconst (i := 2) c_iconst_2 hC (zdk dk_X12_counts 8 rfl) (q := 15) rfl ?_
    refine x_goto (tgt := 32) hC (zdk dk_X12_counts 9 rfl) rfl ?_
    refine x_weak (L' := [.null, .null, .null, .null]) ⟨Or.inl rfl, Or.inl rfl, Or.inl rfl, Or.inl rfl, trivial⟩ ?_
    exact x_X12_counts_32 hC hE hk0 h_r0 _ _ _ hq5
set_option maxRecDepth 100000 in
set_option maxHeartbeats 4000000 in
theorem t_X12_counts {n : Nat} {r0 : Nat} {y1 : Int64} {M : Mem} (h_r0 : zO n r0 12) (x : Mem) (hx : f_X12_counts r0 y1 M = some x) (l : Launch) (dC : Nat → ClassId) (dI : Nat → Nat → Nat) (b : zSg) : MT l dC dI b yX12_counts cX12_counts 4 none 4 0 0 n n [.ref r0, .long y1] M (emV x).1 (emV x).2 :=
  MT.ofX (by decide +kernel) rfl (Nat.le_of_ble_eq_true rfl) (fun κ hC hF _ => x_X12_counts hC (zEnd_of hF (Nat.le_refl _) (Nat.le_refl _)) (zRk_of hF (Nat.le_refl _) (Nat.le_refl _)) _ _ _ h_r0) x hx
set_option maxRecDepth 100000 in
def dt_X12_patterns : List (Nat × Instr × Nat) := [(0, .aload_n 0, 1), (1, .getfield 120, 3), (4, .ifCond .eq 29, 3), (7, .iload_n 1, 1), (8, .iconst 1, 1), (9, .iconst 3, 1), (10, .invokestatic 325, 3), (13, .ifCond .eq 20, 3), (16, .iload_n 1, 1), (17, .aload_n 0, 1), (18, .getfield 132, 3), (21, .if_icmp .gt 12, 3), (24, .iload_n 2, 1), (25, .iconst 0, 1), (26, .iconst 2, 1), (27, .invokestatic 325, 3), (30, .ifCond .ne 5, 3), (33, .iconst (-1), 1), (34, .ireturn, 1), (35, .iconst 0, 1), (36, .istore_n 3, 1), (37, .iload_n 3, 1), (38, .iconst 3, 1), (39, .if_icmp .ge 16, 3), (42, .aload_n 0, 1), (43, .getfield 177, 3), (46, .iload_n 3, 1), (47, .iconst 0, 1), (48, .iastore, 1), (49, .iinc 3 1, 3), (52, .goto (-15), 3), (55, .iconst 0, 1), (56, .istore_n 3, 1), (57, .iload_n 3, 1), (58, .aload_n 0, 1), (59, .getfield 132, 3), (62, .if_icmp .ge 106, 3), (65, .iload_n 1, 1), (66, .iconst 1, 1), (67, .if_icmp .ne 10, 3), (70, .aload_n 0, 1), (71, .lconst 1, 1), (72, .iload_n 3, 1), (73, .lshl, 1), (74, .invokevirtual 473, 3), (77, .iload_n 3, 1), (78, .iconst 1, 1), (79, .iadd, 1), (80, .istore 4, 2), (82, .iload 4, 2), (84, .aload_n 0, 1), (85, .getfield 132, 3), (88, .if_icmp .ge 74, 3), (91, .iload_n 1, 1), (92, .iconst 1, 1), (93, .if_icmp .le 69, 3), (96, .iload_n 1, 1), (97, .iconst 2, 1), (98, .if_icmp .ne 15, 3), (101, .aload_n 0, 1), (102, .lconst 1, 1), (103, .iload_n 3, 1), (104, .lshl, 1), (105, .lconst 1, 1), (106, .iload 4, 2), (108, .lshl, 1), (109, .lor, 1), (110, .invokevirtual 473, 3), (113, .iload 4, 2), (115, .iconst 1, 1), (116, .iadd, 1), (117, .istore 5, 2), (119, .iload 5, 2), (121, .aload_n 0, 1), (122, .getfield 132, 3), (125, .if_icmp .ge 31, 3), (128, .iload_n 1, 1), (129, .iconst 2, 1), (130, .if_icmp .le 26, 3), (133, .aload_n 0, 1), (134, .lconst 1, 1), (135, .iload_n 3, 1), (136, .lshl, 1), (137, .lconst 1, 1), (138, .iload 4, 2), (140, .lshl, 1), (141, .lor, 1), (142, .lconst 1, 1), (143, .iload 5, 2), (145, .lshl, 1), (146, .lor, 1), (147, .invokevirtual 473, 3), (150, .iinc 5 1, 3), (153, .goto (-34), 3), (156, .iinc 4 1, 3), (159, .goto (-77), 3), (162, .iinc 3 1, 3), (165, .goto (-108), 3), (168, .aload_n 0, 1), (169, .getfield 177, 3), (172, .iload_n 2, 1), (173, .iaload, 1), (174, .ireturn, 1)]
set_option maxRecDepth 100000 in
theorem dk_X12_patterns : dt_X12_patterns.all (fun q => decide (decode cX12_patterns q.1 = .ok q.2)) = true := by decide +kernel
set_option maxRecDepth 100000 in
def f_X12_patterns_33  (r0 : Nat) (x1 : Int32) (x2 : Int32)  (M : Mem) : Option (Int32 × Mem) := some ((-1), M)
set_option maxRecDepth 100000 in
set_option maxHeartbeats 4000000 in
theorem x_X12_patterns_33 {κ : KX} {n : Nat} (hC : CX κ cX12_patterns RX12 6 (some .int) 5) (hE : zEnd κ n (0, 0)) (hk0 : zRk κ (0, 0)) {r0 : Nat} {x1 : Int32} {x2 : Int32} (h_r0 : zO n r0 12) (M : Mem) : X κ 6 emI n (0, 0) 33 [.null, .null, .null, .null, .null, .null] [] M (f_X12_patterns_33 r0 x1 x2 M) := by
  unfold f_X12_patterns_33
  refine x_iconst (i := (-1)) c_iconst_m1 hC (zdk dk_X12_patterns 17 rfl) (q := 34) rfl ?_
  exact x_iret (ty := .int) rfl hE hC (zdk dk_X12_patterns 18 rfl)
set_option maxRecDepth 100000 in
def f_X12_patterns_156 (k57 : Int32 → Mem → Option (Int32 × Mem)) (k82 : Int32 → Int32 → Mem → Option (Int32 × Mem)) (r0 : Nat) (x1 : Int32) (x2 : Int32) (x3 : Int32) (x4 : Int32) (M : Mem) : Option (Int32 × Mem) := k82 x3 (x4 + 1) M
set_option maxRecDepth 100000 in
set_option maxHeartbeats 4000000 in
theorem x_X12_patterns_156 {κ : KX} {n : Nat} (hC : CX κ cX12_patterns RX12 6 (some .int) 5) (hE : zEnd κ n (0, 0)) (hk0 : zRk κ (0, 0)) {r0 : Nat} {x1 : Int32} {x2 : Int32} (h_r0 : zO n r0 12) (k57 : Int32 → Mem → Option (Int32 × Mem)) (hk57 : ∀ (x3 : Int32) (M : Mem), X κ 6 emI n (0, 0) 57 [.ref r0, .int x1, .int x2, .int x3, .null, .null] [] M (k57 x3 M)) (k82 : Int32 → Int32 → Mem → Option (Int32 × Mem)) (hk82 : ∀ (x3 : Int32) (x4 : Int32) (M : Mem), X κ 6 emI n (0, 0) 82 [.ref r0, .int x1, .int x2, .int x3, .int x4, .null] [] M (k82 x3 x4 M)) (x3 : Int32) (x4 : Int32) (M : Mem) : X κ 6 emI n (0, 0) 156 [.ref r0, .int x1, .int x2, .int x3, .int x4, .null] [] M (f_X12_patterns_156 k57 k82 r0 x1 x2 x3 x4 M) := by
  unfold f_X12_patterns_156
  refine x_iinc (i := 4) c_iconst_1 rfl (by decide) (L' := [.ref r0, .int x1, .int x2, .int x3, .int (x4 + 1), .null]) rfl hC (zdk dk_X12_patterns 94 rfl) (q := 159) rfl ?_
  refine x_goto (tgt := 82) hC (zdk dk_X12_patterns 95 rfl) rfl ?_
  refine x_weak (L' := [.ref r0, .int x1, .int x2, .int x3, .int (x4 + 1), .null]) ⟨Or.inr rfl, Or.inr rfl, Or.inr rfl, Or.inr rfl, Or.inr rfl, Or.inl rfl, trivial⟩ ?_
  exact hk82 _ _ _
set_option maxRecDepth 100000 in
def f_X12_patterns_119 (k57 : Int32 → Mem → Option (Int32 × Mem)) (k82 : Int32 → Int32 → Mem → Option (Int32 × Mem)) (r0 : Nat) (x1 : Int32) (x2 : Int32) : Nat → Int32 → Int32 → Int32 → Mem → Option (Int32 × Mem)
  | 0, _, _, _, _ => none
  | f + 1, x3, x4, x5, M => (if zI M r0 39 ≤ x5 then f_X12_patterns_156 k57 k82 r0 x1 x2 x3 x4 M else (if x1 ≤ 2 then f_X12_patterns_156 k57 k82 r0 x1 x2 x3 x4 M else Option.bind (f_X12_counts r0 ((((1 : Int64) <<< (x3.toInt64 &&& 63)) ||| ((1 : Int64) <<< (x4.toInt64 &&& 63))) ||| ((1 : Int64) <<< (x5.toInt64 &&& 63))) M) fun M1 => (f_X12_patterns_119 k57 k82 r0 x1 x2 f) x3 x4 (x5 + 1) M1))
set_option maxRecDepth 100000 in
set_option maxHeartbeats 4000000 in
theorem x_X12_patterns_119 {κ : KX} {n : Nat} (hC : CX κ cX12_patterns RX12 6 (some .int) 5) (hE : zEnd κ n (0, 0)) (hk0 : zRk κ (0, 0)) {r0 : Nat} {x1 : Int32} {x2 : Int32} (h_r0 : zO n r0 12) (k57 : Int32 → Mem → Option (Int32 × Mem)) (hk57 : ∀ (x3 : Int32) (M : Mem), X κ 6 emI n (0, 0) 57 [.ref r0, .int x1, .int x2, .int x3, .null, .null] [] M (k57 x3 M)) (k82 : Int32 → Int32 → Mem → Option (Int32 × Mem)) (hk82 : ∀ (x3 : Int32) (x4 : Int32) (M : Mem), X κ 6 emI n (0, 0) 82 [.ref r0, .int x1, .int x2, .int x3, .int x4, .null] [] M (k82 x3 x4 M)) : ∀ (f : Nat) (x3 : Int32) (x4 : Int32) (x5 : Int32) (M : Mem), X κ 6 emI n (0, 0) 119 [.ref r0, .int x1, .int x2, .int x3, .int x4, .int x5] [] M (f_X12_patterns_119 k57 k82 r0 x1 x2 f x3 x4 x5 M) := by
  intro f
  induction f with
  | zero => intros; exact x_none
  | succ f ih =>
    intro x3 x4 x5 M 
    rw [f_X12_patterns_119]
    refine x_iload (i := 5) rfl hC (zdk dk_X12_patterns 72 rfl) (q := 121) rfl ?_
    refine x_aload_n (i := 0) rfl hC (zdk dk_X12_patterns 73 rfl) (q := 122) rfl ?_
    refine x_getI fl_RX12_132 (by decide) h_r0 hC (zdk dk_X12_patterns 74 rfl) (q := 125) rfl ?_
    refine x_icmp_ge (tgt := 156) hC (zdk dk_X12_patterns 75 rfl) (q := 128) rfl rfl (fun _ => ?_) (fun _ => ?_)
    · refine x_weak (L' := [.ref r0, .int x1, .int x2, .int x3, .int x4, .null]) ⟨Or.inr rfl, Or.inr rfl, Or.inr rfl, Or.inr rfl, Or.inr rfl, Or.inl rfl, trivial⟩ ?_
      exact x_X12_patterns_156 hC hE hk0 h_r0 k57 hk57 k82 hk82 _ _ _
    · refine x_iload_n (i := 1) rfl hC (zdk dk_X12_patterns 76 rfl) (q := 129) rfl ?_
      refine x_iconst (i := 2) c_iconst_2 hC (zdk dk_X12_patterns 77 rfl) (q := 130) rfl ?_
      refine x_icmp_le (tgt := 156) hC (zdk dk_X12_patterns 78 rfl) (q := 133) rfl rfl (fun _ => ?_) (fun _ => ?_)
      · refine x_weak (L' := [.ref r0, .int x1, .int x2, .int x3, .int x4, .null]) ⟨Or.inr rfl, Or.inr rfl, Or.inr rfl, Or.inr rfl, Or.inr rfl, Or.inl rfl, trivial⟩ ?_
        exact x_X12_patterns_156 hC hE hk0 h_r0 k57 hk57 k82 hk82 _ _ _
      · refine x_aload_n (i := 0) rfl hC (zdk dk_X12_patterns 79 rfl) (q := 134) rfl ?_
        refine x_lconst (i := 1) c_lconst_1 hC (zdk dk_X12_patterns 80 rfl) (q := 135) rfl ?_
        refine x_iload_n (i := 3) rfl hC (zdk dk_X12_patterns 81 rfl) (q := 136) rfl ?_
        refine x_lshl hC (zdk dk_X12_patterns 82 rfl) (q := 137) rfl ?_
        refine x_lconst (i := 1) c_lconst_1 hC (zdk dk_X12_patterns 83 rfl) (q := 138) rfl ?_
        refine x_iload (i := 4) rfl hC (zdk dk_X12_patterns 84 rfl) (q := 140) rfl ?_
        refine x_lshl hC (zdk dk_X12_patterns 85 rfl) (q := 141) rfl ?_
        refine x_lor hC (zdk dk_X12_patterns 86 rfl) (q := 142) rfl ?_
        refine x_lconst (i := 1) c_lconst_1 hC (zdk dk_X12_patterns 87 rfl) (q := 143) rfl ?_
        refine x_iload (i := 5) rfl hC (zdk dk_X12_patterns 88 rfl) (q := 145) rfl ?_
        refine x_lshl hC (zdk dk_X12_patterns 89 rfl) (q := 146) rfl ?_
        refine x_lor hC (zdk dk_X12_patterns 90 rfl) (q := 147) rfl ?_
        refine x_callVv (as := [.long ((((1 : Int64) <<< (x3.toInt64 &&& 63)) ||| ((1 : Int64) <<< (x4.toInt64 &&& 63))) ||| ((1 : Int64) <<< (x5.toInt64 &&& 63)))]) cb_RX12_473 rfl (by decide) hk0 h_r0 (fun x hx => t_X12_counts h_r0 x hx) hC (zdk dk_X12_patterns 91 rfl) (q := 150) rfl rfl (Nat.le_of_ble_eq_true rfl) (fun M1 => ?_)
        refine x_iinc (i := 5) c_iconst_1 rfl (by decide) (L' := [.ref r0, .int x1, .int x2, .int x3, .int x4, .int (x5 + 1)]) rfl hC (zdk dk_X12_patterns 92 rfl) (q := 153) rfl ?_
        refine x_goto (tgt := 119) hC (zdk dk_X12_patterns 93 rfl) rfl ?_
        refine x_weak (L' := [.ref r0, .int x1, .int x2, .int x3, .int x4, .int (x5 + 1)]) ⟨Or.inr rfl, Or.inr rfl, Or.inr rfl, Or.inr rfl, Or.inr rfl, Or.inr rfl, trivial⟩ ?_
        exact ih _ _ _ _
set_option maxRecDepth 100000 in
def f_X12_patterns_113 (k57 : Int32 → Mem → Option (Int32 × Mem)) (k82 : Int32 → Int32 → Mem → Option (Int32 × Mem)) (r0 : Nat) (x1 : Int32) (x2 : Int32) (x3 : Int32) (x4 : Int32) (M : Mem) : Option (Int32 × Mem) := f_X12_patterns_119 k57 k82 r0 x1 x2 1000000 x3 x4 (x4 + 1) M
set_option maxRecDepth 100000 in
set_option maxHeartbeats 4000000 in
theorem x_X12_patterns_113 {κ : KX} {n : Nat} (hC : CX κ cX12_patterns RX12 6 (some .int) 5) (hE : zEnd κ n (0, 0)) (hk0 : zRk κ (0, 0)) {r0 : Nat} {x1 : Int32} {x2 : Int32} (h_r0 : zO n r0 12) (k57 : Int32 → Mem → Option (Int32 × Mem)) (hk57 : ∀ (x3 : Int32) (M : Mem), X κ 6 emI n (0, 0) 57 [.ref r0, .int x1, .int x2, .int x3, .null, .null] [] M (k57 x3 M)) (k82 : Int32 → Int32 → Mem → Option (Int32 × Mem)) (hk82 : ∀ (x3 : Int32) (x4 : Int32) (M : Mem), X κ 6 emI n (0, 0) 82 [.ref r0, .int x1, .int x2, .int x3, .int x4, .null] [] M (k82 x3 x4 M)) (x3 : Int32) (x4 : Int32) (M : Mem) : X κ 6 emI n (0, 0) 113 [.ref r0, .int x1, .int x2, .int x3, .int x4, .null] [] M (f_X12_patterns_113 k57 k82 r0 x1 x2 x3 x4 M) := by
  unfold f_X12_patterns_113
  refine x_iload (i := 4) rfl hC (zdk dk_X12_patterns 68 rfl) (q := 115) rfl ?_
  refine x_iconst (i := 1) c_iconst_1 hC (zdk dk_X12_patterns 69 rfl) (q := 116) rfl ?_
  refine x_iadd hC (zdk dk_X12_patterns 70 rfl) (q := 117) rfl ?_
  refine x_istore (i := 5) (L' := [.ref r0, .int x1, .int x2, .int x3, .int x4, .int (x4 + 1)]) (by decide) rfl hC (zdk dk_X12_patterns 71 rfl) (q := 119) rfl ?_
  refine x_weak (L' := [.ref r0, .int x1, .int x2, .int x3, .int x4, .int (x4 + 1)]) ⟨Or.inr rfl, Or.inr rfl, Or.inr rfl, Or.inr rfl, Or.inr rfl, Or.inr rfl, trivial⟩ ?_
  exact x_X12_patterns_119 hC hE hk0 h_r0 k57 hk57 k82 hk82 _ _ _ _ _
set_option maxRecDepth 100000 in
def f_X12_patterns_162 (k57 : Int32 → Mem → Option (Int32 × Mem)) (r0 : Nat) (x1 : Int32) (x2 : Int32) (x3 : Int32) (M : Mem) : Option (Int32 × Mem) := k57 (x3 + 1) M
set_option maxRecDepth 100000 in
set_option maxHeartbeats 4000000 in
theorem x_X12_patterns_162 {κ : KX} {n : Nat} (hC : CX κ cX12_patterns RX12 6 (some .int) 5) (hE : zEnd κ n (0, 0)) (hk0 : zRk κ (0, 0)) {r0 : Nat} {x1 : Int32} {x2 : Int32} (h_r0 : zO n r0 12) (k57 : Int32 → Mem → Option (Int32 × Mem)) (hk57 : ∀ (x3 : Int32) (M : Mem), X κ 6 emI n (0, 0) 57 [.ref r0, .int x1, .int x2, .int x3, .null, .null] [] M (k57 x3 M)) (x3 : Int32) (M : Mem) : X κ 6 emI n (0, 0) 162 [.ref r0, .int x1, .int x2, .int x3, .null, .null] [] M (f_X12_patterns_162 k57 r0 x1 x2 x3 M) := by
  unfold f_X12_patterns_162
  refine x_iinc (i := 3) c_iconst_1 rfl (by decide) (L' := [.ref r0, .int x1, .int x2, .int (x3 + 1), .null, .null]) rfl hC (zdk dk_X12_patterns 96 rfl) (q := 165) rfl ?_
  refine x_goto (tgt := 57) hC (zdk dk_X12_patterns 97 rfl) rfl ?_
  refine x_weak (L' := [.ref r0, .int x1, .int x2, .int (x3 + 1), .null, .null]) ⟨Or.inr rfl, Or.inr rfl, Or.inr rfl, Or.inr rfl, Or.inl rfl, Or.inl rfl, trivial⟩ ?_
  exact hk57 _ _
set_option maxRecDepth 100000 in
def f_X12_patterns_82 (k57 : Int32 → Mem → Option (Int32 × Mem)) (r0 : Nat) (x1 : Int32) (x2 : Int32) : Nat → Int32 → Int32 → Mem → Option (Int32 × Mem)
  | 0, _, _, _ => none
  | f + 1, x3, x4, M => (if zI M r0 39 ≤ x4 then f_X12_patterns_162 k57 r0 x1 x2 x3 M else (if x1 ≤ 1 then f_X12_patterns_162 k57 r0 x1 x2 x3 M else (if x1 = 2 then Option.bind (f_X12_counts r0 (((1 : Int64) <<< (x3.toInt64 &&& 63)) ||| ((1 : Int64) <<< (x4.toInt64 &&& 63))) M) fun M2 => f_X12_patterns_113 k57 (f_X12_patterns_82 k57 r0 x1 x2 f) r0 x1 x2 x3 x4 M2 else f_X12_patterns_113 k57 (f_X12_patterns_82 k57 r0 x1 x2 f) r0 x1 x2 x3 x4 M)))
set_option maxRecDepth 100000 in
set_option maxHeartbeats 4000000 in
theorem x_X12_patterns_82 {κ : KX} {n : Nat} (hC : CX κ cX12_patterns RX12 6 (some .int) 5) (hE : zEnd κ n (0, 0)) (hk0 : zRk κ (0, 0)) {r0 : Nat} {x1 : Int32} {x2 : Int32} (h_r0 : zO n r0 12) (k57 : Int32 → Mem → Option (Int32 × Mem)) (hk57 : ∀ (x3 : Int32) (M : Mem), X κ 6 emI n (0, 0) 57 [.ref r0, .int x1, .int x2, .int x3, .null, .null] [] M (k57 x3 M)) : ∀ (f : Nat) (x3 : Int32) (x4 : Int32) (M : Mem), X κ 6 emI n (0, 0) 82 [.ref r0, .int x1, .int x2, .int x3, .int x4, .null] [] M (f_X12_patterns_82 k57 r0 x1 x2 f x3 x4 M) := by
  intro f
  induction f with
  | zero => intros; exact x_none
  | succ f ih =>
    intro x3 x4 M 
    rw [f_X12_patterns_82]
    refine x_iload (i := 4) rfl hC (zdk dk_X12_patterns 49 rfl) (q := 84) rfl ?_
    refine x_aload_n (i := 0) rfl hC (zdk dk_X12_patterns 50 rfl) (q := 85) rfl ?_
    refine x_getI fl_RX12_132 (by decide) h_r0 hC (zdk dk_X12_patterns 51 rfl) (q := 88) rfl ?_
    refine x_icmp_ge (tgt := 162) hC (zdk dk_X12_patterns 52 rfl) (q := 91) rfl rfl (fun _ => ?_) (fun _ => ?_)
    · refine x_weak (L' := [.ref r0, .int x1, .int x2, .int x3, .null, .null]) ⟨Or.inr rfl, Or.inr rfl, Or.inr rfl, Or.inr rfl, Or.inl rfl, Or.inl rfl, trivial⟩ ?_
      exact x_X12_patterns_162 hC hE hk0 h_r0 k57 hk57 _ _
    · refine x_iload_n (i := 1) rfl hC (zdk dk_X12_patterns 53 rfl) (q := 92) rfl ?_
      refine x_iconst (i := 1) c_iconst_1 hC (zdk dk_X12_patterns 54 rfl) (q := 93) rfl ?_
      refine x_icmp_le (tgt := 162) hC (zdk dk_X12_patterns 55 rfl) (q := 96) rfl rfl (fun _ => ?_) (fun _ => ?_)
      · refine x_weak (L' := [.ref r0, .int x1, .int x2, .int x3, .null, .null]) ⟨Or.inr rfl, Or.inr rfl, Or.inr rfl, Or.inr rfl, Or.inl rfl, Or.inl rfl, trivial⟩ ?_
        exact x_X12_patterns_162 hC hE hk0 h_r0 k57 hk57 _ _
      · refine x_iload_n (i := 1) rfl hC (zdk dk_X12_patterns 56 rfl) (q := 97) rfl ?_
        refine x_iconst (i := 2) c_iconst_2 hC (zdk dk_X12_patterns 57 rfl) (q := 98) rfl ?_
        refine x_icmp_ne (tgt := 113) hC (zdk dk_X12_patterns 58 rfl) (q := 101) rfl rfl (fun _ => ?_) (fun _ => ?_)
        · refine x_weak (L' := [.ref r0, .int x1, .int x2, .int x3, .int x4, .null]) ⟨Or.inr rfl, Or.inr rfl, Or.inr rfl, Or.inr rfl, Or.inr rfl, Or.inl rfl, trivial⟩ ?_
          exact x_X12_patterns_113 hC hE hk0 h_r0 k57 hk57 (f_X12_patterns_82 k57 r0 x1 x2 f) ih _ _ _
        · refine x_aload_n (i := 0) rfl hC (zdk dk_X12_patterns 59 rfl) (q := 102) rfl ?_
          refine x_lconst (i := 1) c_lconst_1 hC (zdk dk_X12_patterns 60 rfl) (q := 103) rfl ?_
          refine x_iload_n (i := 3) rfl hC (zdk dk_X12_patterns 61 rfl) (q := 104) rfl ?_
          refine x_lshl hC (zdk dk_X12_patterns 62 rfl) (q := 105) rfl ?_
          refine x_lconst (i := 1) c_lconst_1 hC (zdk dk_X12_patterns 63 rfl) (q := 106) rfl ?_
          refine x_iload (i := 4) rfl hC (zdk dk_X12_patterns 64 rfl) (q := 108) rfl ?_
          refine x_lshl hC (zdk dk_X12_patterns 65 rfl) (q := 109) rfl ?_
          refine x_lor hC (zdk dk_X12_patterns 66 rfl) (q := 110) rfl ?_
          refine x_callVv (as := [.long (((1 : Int64) <<< (x3.toInt64 &&& 63)) ||| ((1 : Int64) <<< (x4.toInt64 &&& 63)))]) cb_RX12_473 rfl (by decide) hk0 h_r0 (fun x hx => t_X12_counts h_r0 x hx) hC (zdk dk_X12_patterns 67 rfl) (q := 113) rfl rfl (Nat.le_of_ble_eq_true rfl) (fun M2 => ?_)
          refine x_weak (L' := [.ref r0, .int x1, .int x2, .int x3, .int x4, .null]) ⟨Or.inr rfl, Or.inr rfl, Or.inr rfl, Or.inr rfl, Or.inr rfl, Or.inl rfl, trivial⟩ ?_
          exact x_X12_patterns_113 hC hE hk0 h_r0 k57 hk57 (f_X12_patterns_82 k57 r0 x1 x2 f) ih _ _ _
set_option maxRecDepth 100000 in
def f_X12_patterns_77 (k57 : Int32 → Mem → Option (Int32 × Mem)) (r0 : Nat) (x1 : Int32) (x2 : Int32) (x3 : Int32) (M : Mem) : Option (Int32 × Mem) := f_X12_patterns_82 k57 r0 x1 x2 1000000 x3 (x3 + 1) M
set_option maxRecDepth 100000 in
set_option maxHeartbeats 4000000 in
theorem x_X12_patterns_77 {κ : KX} {n : Nat} (hC : CX κ cX12_patterns RX12 6 (some .int) 5) (hE : zEnd κ n (0, 0)) (hk0 : zRk κ (0, 0)) {r0 : Nat} {x1 : Int32} {x2 : Int32} (h_r0 : zO n r0 12) (k57 : Int32 → Mem → Option (Int32 × Mem)) (hk57 : ∀ (x3 : Int32) (M : Mem), X κ 6 emI n (0, 0) 57 [.ref r0, .int x1, .int x2, .int x3, .null, .null] [] M (k57 x3 M)) (x3 : Int32) (M : Mem) : X κ 6 emI n (0, 0) 77 [.ref r0, .int x1, .int x2, .int x3, .null, .null] [] M (f_X12_patterns_77 k57 r0 x1 x2 x3 M) := by
  unfold f_X12_patterns_77
  refine x_iload_n (i := 3) rfl hC (zdk dk_X12_patterns 45 rfl) (q := 78) rfl ?_
  refine x_iconst (i := 1) c_iconst_1 hC (zdk dk_X12_patterns 46 rfl) (q := 79) rfl ?_
  refine x_iadd hC (zdk dk_X12_patterns 47 rfl) (q := 80) rfl ?_
  refine x_istore (i := 4) (L' := [.ref r0, .int x1, .int x2, .int x3, .int (x3 + 1), .null]) (by decide) rfl hC (zdk dk_X12_patterns 48 rfl) (q := 82) rfl ?_
  refine x_weak (L' := [.ref r0, .int x1, .int x2, .int x3, .int (x3 + 1), .null]) ⟨Or.inr rfl, Or.inr rfl, Or.inr rfl, Or.inr rfl, Or.inr rfl, Or.inl rfl, trivial⟩ ?_
  exact x_X12_patterns_82 hC hE hk0 h_r0 k57 hk57 _ _ _ _
set_option maxRecDepth 100000 in
def f_X12_patterns_57  (r0 : Nat) (x1 : Int32) (x2 : Int32) : Nat → Int32 → Mem → Option (Int32 × Mem)
  | 0, _, _ => none
  | f + 1, x3, M => (if zI M r0 39 ≤ x3 then Option.bind (zrf M r0 54) fun q3 => Option.bind (zld q3 x2) fun k4 => some (zI M q3 k4, M) else (if x1 = 1 then Option.bind (f_X12_counts r0 ((1 : Int64) <<< (x3.toInt64 &&& 63)) M) fun M5 => f_X12_patterns_77 (f_X12_patterns_57 r0 x1 x2 f) r0 x1 x2 x3 M5 else f_X12_patterns_77 (f_X12_patterns_57 r0 x1 x2 f) r0 x1 x2 x3 M))
set_option maxRecDepth 100000 in
set_option maxHeartbeats 4000000 in
theorem x_X12_patterns_57 {κ : KX} {n : Nat} (hC : CX κ cX12_patterns RX12 6 (some .int) 5) (hE : zEnd κ n (0, 0)) (hk0 : zRk κ (0, 0)) {r0 : Nat} {x1 : Int32} {x2 : Int32} (h_r0 : zO n r0 12) : ∀ (f : Nat) (x3 : Int32) (M : Mem), X κ 6 emI n (0, 0) 57 [.ref r0, .int x1, .int x2, .int x3, .null, .null] [] M (f_X12_patterns_57 r0 x1 x2 f x3 M) := by
  intro f
  induction f with
  | zero => intros; exact x_none
  | succ f ih =>
    intro x3 M 
    rw [f_X12_patterns_57]
    refine x_iload_n (i := 3) rfl hC (zdk dk_X12_patterns 33 rfl) (q := 58) rfl ?_
    refine x_aload_n (i := 0) rfl hC (zdk dk_X12_patterns 34 rfl) (q := 59) rfl ?_
    refine x_getI fl_RX12_132 (by decide) h_r0 hC (zdk dk_X12_patterns 35 rfl) (q := 62) rfl ?_
    refine x_icmp_ge (tgt := 168) hC (zdk dk_X12_patterns 36 rfl) (q := 65) rfl rfl (fun _ => ?_) (fun _ => ?_)
    · refine x_aload_n (i := 0) rfl hC (zdk dk_X12_patterns 98 rfl) (q := 169) rfl ?_
      refine x_getR (k := 20) fl_RX12_177 rfl h_r0 hC (zdk dk_X12_patterns 99 rfl) (q := 172) rfl (fun q3 hq3 => ?_)
      refine x_iload_n (i := 2) rfl hC (zdk dk_X12_patterns 100 rfl) (q := 173) rfl ?_
      refine x_iald hq3 hC (zdk dk_X12_patterns 101 rfl) (q := 174) rfl (fun k4 _ => ?_)
      exact x_iret (ty := .int) rfl hE hC (zdk dk_X12_patterns 102 rfl)
    · refine x_iload_n (i := 1) rfl hC (zdk dk_X12_patterns 37 rfl) (q := 66) rfl ?_
      refine x_iconst (i := 1) c_iconst_1 hC (zdk dk_X12_patterns 38 rfl) (q := 67) rfl ?_
      refine x_icmp_ne (tgt := 77) hC (zdk dk_X12_patterns 39 rfl) (q := 70) rfl rfl (fun _ => ?_) (fun _ => ?_)
      · refine x_weak (L' := [.ref r0, .int x1, .int x2, .int x3, .null, .null]) ⟨Or.inr rfl, Or.inr rfl, Or.inr rfl, Or.inr rfl, Or.inl rfl, Or.inl rfl, trivial⟩ ?_
        exact x_X12_patterns_77 hC hE hk0 h_r0 (f_X12_patterns_57 r0 x1 x2 f) ih _ _
      · refine x_aload_n (i := 0) rfl hC (zdk dk_X12_patterns 40 rfl) (q := 71) rfl ?_
        refine x_lconst (i := 1) c_lconst_1 hC (zdk dk_X12_patterns 41 rfl) (q := 72) rfl ?_
        refine x_iload_n (i := 3) rfl hC (zdk dk_X12_patterns 42 rfl) (q := 73) rfl ?_
        refine x_lshl hC (zdk dk_X12_patterns 43 rfl) (q := 74) rfl ?_
        refine x_callVv (as := [.long ((1 : Int64) <<< (x3.toInt64 &&& 63))]) cb_RX12_473 rfl (by decide) hk0 h_r0 (fun x hx => t_X12_counts h_r0 x hx) hC (zdk dk_X12_patterns 44 rfl) (q := 77) rfl rfl (Nat.le_of_ble_eq_true rfl) (fun M5 => ?_)
        refine x_weak (L' := [.ref r0, .int x1, .int x2, .int x3, .null, .null]) ⟨Or.inr rfl, Or.inr rfl, Or.inr rfl, Or.inr rfl, Or.inl rfl, Or.inl rfl, trivial⟩ ?_
        exact x_X12_patterns_77 hC hE hk0 h_r0 (f_X12_patterns_57 r0 x1 x2 f) ih _ _
set_option maxRecDepth 100000 in
def f_X12_patterns_37  (r0 : Nat) (x1 : Int32) (x2 : Int32) : Nat → Int32 → Mem → Option (Int32 × Mem)
  | 0, _, _ => none
  | f + 1, x3, M => (if 3 ≤ x3 then f_X12_patterns_57 r0 x1 x2 1000000 0 M else Option.bind (zrf M r0 54) fun q6 => Option.bind (zld q6 x3) fun k7 => Option.bind (some (zsI M q6 k7 0)) fun M8 => (f_X12_patterns_37 r0 x1 x2 f) (x3 + 1) M8)
set_option maxRecDepth 100000 in
set_option maxHeartbeats 4000000 in
theorem x_X12_patterns_37 {κ : KX} {n : Nat} (hC : CX κ cX12_patterns RX12 6 (some .int) 5) (hE : zEnd κ n (0, 0)) (hk0 : zRk κ (0, 0)) {r0 : Nat} {x1 : Int32} {x2 : Int32} (h_r0 : zO n r0 12) : ∀ (f : Nat) (x3 : Int32) (M : Mem), X κ 6 emI n (0, 0) 37 [.ref r0, .int x1, .int x2, .int x3, .null, .null] [] M (f_X12_patterns_37 r0 x1 x2 f x3 M) := by
  intro f
  induction f with
  | zero => intros; exact x_none
  | succ f ih =>
    intro x3 M 
    rw [f_X12_patterns_37]
    refine x_iload_n (i := 3) rfl hC (zdk dk_X12_patterns 21 rfl) (q := 38) rfl ?_
    refine x_iconst (i := 3) c_iconst_3 hC (zdk dk_X12_patterns 22 rfl) (q := 39) rfl ?_
    refine x_icmp_ge (tgt := 55) hC (zdk dk_X12_patterns 23 rfl) (q := 42) rfl rfl (fun _ => ?_) (fun _ => ?_)
    · refine x_iconst (i := 0) c_iconst_0 hC (zdk dk_X12_patterns 31 rfl) (q := 56) rfl ?_
      refine x_istore_n (i := 3) (L' := [.ref r0, .int x1, .int x2, .int 0, .null, .null]) (by decide) rfl hC (zdk dk_X12_patterns 32 rfl) (q := 57) rfl ?_
      refine x_weak (L' := [.ref r0, .int x1, .int x2, .int 0, .null, .null]) ⟨Or.inr rfl, Or.inr rfl, Or.inr rfl, Or.inr rfl, Or.inl rfl, Or.inl rfl, trivial⟩ ?_
      exact x_X12_patterns_57 hC hE hk0 h_r0 _ _ _
    · refine x_aload_n (i := 0) rfl hC (zdk dk_X12_patterns 24 rfl) (q := 43) rfl ?_
      refine x_getR (k := 20) fl_RX12_177 rfl h_r0 hC (zdk dk_X12_patterns 25 rfl) (q := 46) rfl (fun q6 hq6 => ?_)
      refine x_iload_n (i := 3) rfl hC (zdk dk_X12_patterns 26 rfl) (q := 47) rfl ?_
      refine x_iconst (i := 0) c_iconst_0 hC (zdk dk_X12_patterns 27 rfl) (q := 48) rfl ?_
      refine x_iast hq6 hC (zdk dk_X12_patterns 28 rfl) (q := 49) rfl (fun k7 _ => ?_)
      refine x_nmM (fun M8 => ?_)
      refine x_iinc (i := 3) c_iconst_1 rfl (by decide) (L' := [.ref r0, .int x1, .int x2, .int (x3 + 1), .null, .null]) rfl hC (zdk dk_X12_patterns 29 rfl) (q := 52) rfl ?_
      refine x_goto (tgt := 37) hC (zdk dk_X12_patterns 30 rfl) rfl ?_
      refine x_weak (L' := [.ref r0, .int x1, .int x2, .int (x3 + 1), .null, .null]) ⟨Or.inr rfl, Or.inr rfl, Or.inr rfl, Or.inr rfl, Or.inl rfl, Or.inl rfl, trivial⟩ ?_
      exact ih _ _
set_option maxRecDepth 100000 in
def f_X12_patterns (r0 : Nat) (x1 : Int32) (x2 : Int32) (M : Mem) : Option (Int32 × Mem) := (if zI M r0 35 = 0 then f_X12_patterns_33 r0 x1 x2 M else Option.bind (f_X12_is x1 1 3 M) fun z9 => (if z9.1 = 0 then f_X12_patterns_33 r0 x1 x2 z9.2 else (if zI z9.2 r0 39 < x1 then f_X12_patterns_33 r0 x1 x2 z9.2 else Option.bind (f_X12_is x2 0 2 z9.2) fun z10 => (if z10.1 = 0 then f_X12_patterns_33 r0 x1 x2 z10.2 else f_X12_patterns_37 r0 x1 x2 1000000 0 z10.2))))
set_option maxRecDepth 100000 in
set_option maxHeartbeats 4000000 in
theorem x_X12_patterns {κ : KX} {n : Nat} (hC : CX κ cX12_patterns RX12 6 (some .int) 5) (hE : zEnd κ n (0, 0)) (hk0 : zRk κ (0, 0)) (r0 : Nat) (x1 : Int32) (x2 : Int32) (M : Mem) (h_r0 : zO n r0 12) : X κ 6 emI n (0, 0) 0 [.ref r0, .int x1, .int x2, .null, .null, .null] [] M (f_X12_patterns r0 x1 x2 M) := by
  unfold f_X12_patterns
  refine x_aload_n (i := 0) rfl hC (zdk dk_X12_patterns 0 rfl) (q := 1) rfl ?_
  refine x_getI fl_RX12_120 (by decide) h_r0 hC (zdk dk_X12_patterns 1 rfl) (q := 4) rfl ?_
  refine x_if_eq (tgt := 33) hC (zdk dk_X12_patterns 2 rfl) (q := 7) rfl rfl (fun _ => ?_) (fun _ => ?_)
  · refine x_weak (L' := [.null, .null, .null, .null, .null, .null]) ⟨Or.inl rfl, Or.inl rfl, Or.inl rfl, Or.inl rfl, Or.inl rfl, Or.inl rfl, trivial⟩ ?_
    exact x_X12_patterns_33 hC hE hk0 h_r0 _
  · refine x_iload_n (i := 1) rfl hC (zdk dk_X12_patterns 3 rfl) (q := 8) rfl ?_
    refine x_iconst (i := 1) c_iconst_1 hC (zdk dk_X12_patterns 4 rfl) (q := 9) rfl ?_
    refine x_iconst (i := 3) c_iconst_3 hC (zdk dk_X12_patterns 5 rfl) (q := 10) rfl ?_
    refine x_callSi (as := [.int x1, .int 1, .int 3]) cb_RX12_325 rfl (by decide) hk0 (fun x hx => t_X12_is  x hx) hC (zdk dk_X12_patterns 6 rfl) (q := 13) rfl rfl (Nat.le_of_ble_eq_true rfl) (fun z9 => ?_)
    refine x_if_eq (tgt := 33) hC (zdk dk_X12_patterns 7 rfl) (q := 16) rfl rfl (fun _ => ?_) (fun _ => ?_)
    · refine x_weak (L' := [.null, .null, .null, .null, .null, .null]) ⟨Or.inl rfl, Or.inl rfl, Or.inl rfl, Or.inl rfl, Or.inl rfl, Or.inl rfl, trivial⟩ ?_
      exact x_X12_patterns_33 hC hE hk0 h_r0 _
    · refine x_iload_n (i := 1) rfl hC (zdk dk_X12_patterns 8 rfl) (q := 17) rfl ?_
      refine x_aload_n (i := 0) rfl hC (zdk dk_X12_patterns 9 rfl) (q := 18) rfl ?_
      refine x_getI fl_RX12_132 (by decide) h_r0 hC (zdk dk_X12_patterns 10 rfl) (q := 21) rfl ?_
      refine x_icmp_gt (tgt := 33) hC (zdk dk_X12_patterns 11 rfl) (q := 24) rfl rfl (fun _ => ?_) (fun _ => ?_)
      · refine x_weak (L' := [.null, .null, .null, .null, .null, .null]) ⟨Or.inl rfl, Or.inl rfl, Or.inl rfl, Or.inl rfl, Or.inl rfl, Or.inl rfl, trivial⟩ ?_
        exact x_X12_patterns_33 hC hE hk0 h_r0 _
      · refine x_iload_n (i := 2) rfl hC (zdk dk_X12_patterns 12 rfl) (q := 25) rfl ?_
        refine x_iconst (i := 0) c_iconst_0 hC (zdk dk_X12_patterns 13 rfl) (q := 26) rfl ?_
        refine x_iconst (i := 2) c_iconst_2 hC (zdk dk_X12_patterns 14 rfl) (q := 27) rfl ?_
        refine x_callSi (as := [.int x2, .int 0, .int 2]) cb_RX12_325 rfl (by decide) hk0 (fun x hx => t_X12_is  x hx) hC (zdk dk_X12_patterns 15 rfl) (q := 30) rfl rfl (Nat.le_of_ble_eq_true rfl) (fun z10 => ?_)
        refine x_if_ne (tgt := 35) hC (zdk dk_X12_patterns 16 rfl) (q := 33) rfl rfl (fun _ => ?_) (fun _ => ?_)
        · refine x_iconst (i := 0) c_iconst_0 hC (zdk dk_X12_patterns 19 rfl) (q := 36) rfl ?_
          refine x_istore_n (i := 3) (L' := [.ref r0, .int x1, .int x2, .int 0, .null, .null]) (by decide) rfl hC (zdk dk_X12_patterns 20 rfl) (q := 37) rfl ?_
          refine x_weak (L' := [.ref r0, .int x1, .int x2, .int 0, .null, .null]) ⟨Or.inr rfl, Or.inr rfl, Or.inr rfl, Or.inr rfl, Or.inl rfl, Or.inl rfl, trivial⟩ ?_
          exact x_X12_patterns_37 hC hE hk0 h_r0 _ _ _
        · refine x_weak (L' := [.null, .null, .null, .null, .null, .null]) ⟨Or.inl rfl, Or.inl rfl, Or.inl rfl, Or.inl rfl, Or.inl rfl, Or.inl rfl, trivial⟩ ?_
          exact x_X12_patterns_33 hC hE hk0 h_r0 _
set_option maxRecDepth 100000 in
set_option maxHeartbeats 4000000 in
theorem t_X12_patterns {n : Nat} {r0 : Nat} {x1 : Int32} {x2 : Int32} {M : Mem} (h_r0 : zO n r0 12) (x : (Int32 × Mem)) (hx : f_X12_patterns r0 x1 x2 M = some x) (l : Launch) (dC : Nat → ClassId) (dI : Nat → Nat → Nat) (b : zSg) : MT l dC dI b yX12_patterns cX12_patterns 6 (some .int) 5 0 0 n n [.ref r0, .int x1, .int x2] M (emI x).1 (emI x).2 :=
  MT.ofX (by decide +kernel) rfl (Nat.le_of_ble_eq_true rfl) (fun κ hC hF _ => x_X12_patterns hC (zEnd_of hF (Nat.le_refl _) (Nat.le_refl _)) (zRk_of hF (Nat.le_refl _) (Nat.le_refl _)) _ _ _ _ h_r0) x hx
set_option maxRecDepth 100000 in
def dt_X12_copies : List (Nat × Instr × Nat) := [(0, .aload_n 0, 1), (1, .getfield 180, 3), (4, .iload_n 1, 1), (5, .aload_n 0, 1), (6, .getfield 180, 3), (9, .iload_n 2, 1), (10, .iaload, 1), (11, .iastore, 1), (12, .iconst 0, 1), (13, .istore_n 3, 1), (14, .iload_n 3, 1), (15, .bipush 6, 2), (17, .if_icmp .ge 125, 3), (20, .aload_n 0, 1), (21, .getfield 183, 3), (24, .bipush 6, 2), (26, .iload_n 1, 1), (27, .imul, 1), (28, .iload_n 3, 1), (29, .iadd, 1), (30, .aload_n 0, 1), (31, .getfield 183, 3), (34, .bipush 6, 2), (36, .iload_n 2, 1), (37, .imul, 1), (38, .iload_n 3, 1), (39, .iadd, 1), (40, .iaload, 1), (41, .iastore, 1), (42, .aload_n 0, 1), (43, .getfield 186, 3), (46, .bipush 6, 2), (48, .iload_n 1, 1), (49, .imul, 1), (50, .iload_n 3, 1), (51, .iadd, 1), (52, .aload_n 0, 1), (53, .getfield 186, 3), (56, .bipush 6, 2), (58, .iload_n 2, 1), (59, .imul, 1), (60, .iload_n 3, 1), (61, .iadd, 1), (62, .iaload, 1), (63, .iastore, 1), (64, .aload_n 0, 1), (65, .getfield 189, 3), (68, .bipush 6, 2), (70, .iload_n 1, 1), (71, .imul, 1), (72, .iload_n 3, 1), (73, .iadd, 1), (74, .aload_n 0, 1), (75, .getfield 189, 3), (78, .bipush 6, 2), (80, .iload_n 2, 1), (81, .imul, 1), (82, .iload_n 3, 1), (83, .iadd, 1), (84, .laload, 1), (85, .lastore, 1), (86, .iconst 0, 1), (87, .istore 4, 2), (89, .iload 4, 2), (91, .bipush 64, 2), (93, .if_icmp .ge 43, 3), (96, .aload_n 0, 1), (97, .getfield 192, 3), (100, .bipush 64, 2), (102, .bipush 6, 2), (104, .iload_n 1, 1), (105, .imul, 1), (106, .iload_n 3, 1), (107, .iadd, 1), (108, .imul, 1), (109, .iload 4, 2), (111, .iadd, 1), (112, .aload_n 0, 1), (113, .getfield 192, 3), (116, .bipush 64, 2), (118, .bipush 6, 2), (120, .iload_n 2, 1), (121, .imul, 1), (122, .iload_n 3, 1), (123, .iadd, 1), (124, .imul, 1), (125, .iload 4, 2), (127, .iadd, 1), (128, .iaload, 1), (129, .iastore, 1), (130, .iinc 4 1, 3), (133, .goto (-44), 3), (136, .iinc 3 1, 3), (139, .goto (-125), 3), (142, .aload_n 0, 1), (143, .getfield 195, 3), (146, .iload_n 1, 1), (147, .aload_n 0, 1), (148, .getfield 195, 3), (151, .iload_n 2, 1), (152, .iaload, 1), (153, .iastore, 1), (154, .iconst 0, 1), (155, .istore_n 3, 1), (156, .iload_n 3, 1), (157, .iconst 3, 1), (158, .aload_n 0, 1), (159, .getfield 195, 3), (162, .iload_n 2, 1), (163, .iaload, 1), (164, .imul, 1), (165, .if_icmp .ge 31, 3), (168, .aload_n 0, 1), (169, .getfield 198, 3), (172, .bipush 120, 2), (174, .iload_n 1, 1), (175, .imul, 1), (176, .iload_n 3, 1), (177, .iadd, 1), (178, .aload_n 0, 1), (179, .getfield 198, 3), (182, .bipush 120, 2), (184, .iload_n 2, 1), (185, .imul, 1), (186, .iload_n 3, 1), (187, .iadd, 1), (188, .iaload, 1), (189, .iastore, 1), (190, .iinc 3 1, 3), (193, .goto (-37), 3), (196, .return_, 1)]
set_option maxRecDepth 100000 in
theorem dk_X12_copies : dt_X12_copies.all (fun q => decide (decode cX12_copies q.1 = .ok q.2)) = true := by decide +kernel
set_option maxRecDepth 100000 in
def f_X12_copies_89 (k14 : Int32 → Mem → Option Mem) (r0 : Nat) (x1 : Int32) (x2 : Int32) : Nat → Int32 → Int32 → Mem → Option Mem
  | 0, _, _, _ => none
  | f + 1, x3, x4, M => (if 64 ≤ x4 then k14 (x3 + 1) M else Option.bind (zrf M r0 59) fun q1 => Option.bind (zrf M r0 59) fun q2 => Option.bind (zld q2 ((64 * ((6 * x2) + x3)) + x4)) fun k3 => Option.bind (zld q1 ((64 * ((6 * x1) + x3)) + x4)) fun k4 => Option.bind (some (zsI M q1 k4 (zI M q2 k3))) fun M5 => (f_X12_copies_89 k14 r0 x1 x2 f) x3 (x4 + 1) M5)
set_option maxRecDepth 100000 in
set_option maxHeartbeats 4000000 in
theorem x_X12_copies_89 {κ : KX} {n : Nat} (hC : CX κ cX12_copies RX12 5 none 0) (hE : zEnd κ n (0, 0)) (hk0 : zRk κ (0, 0)) {r0 : Nat} {x1 : Int32} {x2 : Int32} (h_r0 : zO n r0 12) (k14 : Int32 → Mem → Option Mem) (hk14 : ∀ (x3 : Int32) (M : Mem), X κ 5 emV n (0, 0) 14 [.ref r0, .int x1, .int x2, .int x3, .null] [] M (k14 x3 M)) : ∀ (f : Nat) (x3 : Int32) (x4 : Int32) (M : Mem), X κ 5 emV n (0, 0) 89 [.ref r0, .int x1, .int x2, .int x3, .int x4] [] M (f_X12_copies_89 k14 r0 x1 x2 f x3 x4 M) := by
  intro f
  induction f with
  | zero => intros; exact x_none
  | succ f ih =>
    intro x3 x4 M 
    rw [f_X12_copies_89]
    refine x_iload (i := 4) rfl hC (zdk dk_X12_copies 63 rfl) (q := 91) rfl ?_
    refine x_bipush (i := 64) c_bipush_64 hC (zdk dk_X12_copies 64 rfl) (q := 93) rfl ?_
    refine x_icmp_ge (tgt := 136) hC (zdk dk_X12_copies 65 rfl) (q := 96) rfl rfl (fun _ => ?_) (fun _ => ?_)
    · refine x_iinc (i := 3) c_iconst_1 rfl (by decide) (L' := [.ref r0, .int x1, .int x2, .int (x3 + 1), .int x4]) rfl hC (zdk dk_X12_copies 92 rfl) (q := 139) rfl ?_
      refine x_goto (tgt := 14) hC (zdk dk_X12_copies 93 rfl) rfl ?_
      refine x_weak (L' := [.ref r0, .int x1, .int x2, .int (x3 + 1), .null]) ⟨Or.inr rfl, Or.inr rfl, Or.inr rfl, Or.inr rfl, Or.inl rfl, trivial⟩ ?_
      exact hk14 _ _
    · refine x_aload_n (i := 0) rfl hC (zdk dk_X12_copies 66 rfl) (q := 97) rfl ?_
      refine x_getR (k := 20) fl_RX12_192 rfl h_r0 hC (zdk dk_X12_copies 67 rfl) (q := 100) rfl (fun q1 hq1 => ?_)
      refine x_bipush (i := 64) c_bipush_64 hC (zdk dk_X12_copies 68 rfl) (q := 102) rfl ?_
      refine x_bipush (i := 6) c_bipush_6 hC (zdk dk_X12_copies 69 rfl) (q := 104) rfl ?_
      refine x_iload_n (i := 1) rfl hC (zdk dk_X12_copies 70 rfl) (q := 105) rfl ?_
      refine x_imul hC (zdk dk_X12_copies 71 rfl) (q := 106) rfl ?_
      refine x_iload_n (i := 3) rfl hC (zdk dk_X12_copies 72 rfl) (q := 107) rfl ?_
      refine x_iadd hC (zdk dk_X12_copies 73 rfl) (q := 108) rfl ?_
      refine x_imul hC (zdk dk_X12_copies 74 rfl) (q := 109) rfl ?_
      refine x_iload (i := 4) rfl hC (zdk dk_X12_copies 75 rfl) (q := 111) rfl ?_
      refine x_iadd hC (zdk dk_X12_copies 76 rfl) (q := 112) rfl ?_
      refine x_aload_n (i := 0) rfl hC (zdk dk_X12_copies 77 rfl) (q := 113) rfl ?_
      refine x_getR (k := 20) fl_RX12_192 rfl h_r0 hC (zdk dk_X12_copies 78 rfl) (q := 116) rfl (fun q2 hq2 => ?_)
      refine x_bipush (i := 64) c_bipush_64 hC (zdk dk_X12_copies 79 rfl) (q := 118) rfl ?_
      refine x_bipush (i := 6) c_bipush_6 hC (zdk dk_X12_copies 80 rfl) (q := 120) rfl ?_
      refine x_iload_n (i := 2) rfl hC (zdk dk_X12_copies 81 rfl) (q := 121) rfl ?_
      refine x_imul hC (zdk dk_X12_copies 82 rfl) (q := 122) rfl ?_
      refine x_iload_n (i := 3) rfl hC (zdk dk_X12_copies 83 rfl) (q := 123) rfl ?_
      refine x_iadd hC (zdk dk_X12_copies 84 rfl) (q := 124) rfl ?_
      refine x_imul hC (zdk dk_X12_copies 85 rfl) (q := 125) rfl ?_
      refine x_iload (i := 4) rfl hC (zdk dk_X12_copies 86 rfl) (q := 127) rfl ?_
      refine x_iadd hC (zdk dk_X12_copies 87 rfl) (q := 128) rfl ?_
      refine x_iald hq2 hC (zdk dk_X12_copies 88 rfl) (q := 129) rfl (fun k3 _ => ?_)
      refine x_iast hq1 hC (zdk dk_X12_copies 89 rfl) (q := 130) rfl (fun k4 _ => ?_)
      refine x_nmM (fun M5 => ?_)
      refine x_iinc (i := 4) c_iconst_1 rfl (by decide) (L' := [.ref r0, .int x1, .int x2, .int x3, .int (x4 + 1)]) rfl hC (zdk dk_X12_copies 90 rfl) (q := 133) rfl ?_
      refine x_goto (tgt := 89) hC (zdk dk_X12_copies 91 rfl) rfl ?_
      refine x_weak (L' := [.ref r0, .int x1, .int x2, .int x3, .int (x4 + 1)]) ⟨Or.inr rfl, Or.inr rfl, Or.inr rfl, Or.inr rfl, Or.inr rfl, trivial⟩ ?_
      exact ih _ _ _
set_option maxRecDepth 100000 in
def f_X12_copies_156  (r0 : Nat) (x1 : Int32) (x2 : Int32) : Nat → Int32 → Mem → Option Mem
  | 0, _, _ => none
  | f + 1, x3, M => Option.bind (zrf M r0 60) fun q6 => Option.bind (zld q6 x2) fun k7 => (if 3 * (zI M q6 k7) ≤ x3 then some M else Option.bind (zrf M r0 61) fun q8 => Option.bind (zrf M r0 61) fun q9 => Option.bind (zld q9 ((120 * x2) + x3)) fun k10 => Option.bind (zld q8 ((120 * x1) + x3)) fun k11 => Option.bind (some (zsI M q8 k11 (zI M q9 k10))) fun M12 => (f_X12_copies_156 r0 x1 x2 f) (x3 + 1) M12)
set_option maxRecDepth 100000 in
set_option maxHeartbeats 4000000 in
theorem x_X12_copies_156 {κ : KX} {n : Nat} (hC : CX κ cX12_copies RX12 5 none 0) (hE : zEnd κ n (0, 0)) (hk0 : zRk κ (0, 0)) {r0 : Nat} {x1 : Int32} {x2 : Int32} (h_r0 : zO n r0 12) : ∀ (f : Nat) (x3 : Int32) (M : Mem), X κ 5 emV n (0, 0) 156 [.ref r0, .int x1, .int x2, .int x3, .null] [] M (f_X12_copies_156 r0 x1 x2 f x3 M) := by
  intro f
  induction f with
  | zero => intros; exact x_none
  | succ f ih =>
    intro x3 M 
    rw [f_X12_copies_156]
    refine x_iload_n (i := 3) rfl hC (zdk dk_X12_copies 104 rfl) (q := 157) rfl ?_
    refine x_iconst (i := 3) c_iconst_3 hC (zdk dk_X12_copies 105 rfl) (q := 158) rfl ?_
    refine x_aload_n (i := 0) rfl hC (zdk dk_X12_copies 106 rfl) (q := 159) rfl ?_
    refine x_getR (k := 20) fl_RX12_195 rfl h_r0 hC (zdk dk_X12_copies 107 rfl) (q := 162) rfl (fun q6 hq6 => ?_)
    refine x_iload_n (i := 2) rfl hC (zdk dk_X12_copies 108 rfl) (q := 163) rfl ?_
    refine x_iald hq6 hC (zdk dk_X12_copies 109 rfl) (q := 164) rfl (fun k7 _ => ?_)
    refine x_imul hC (zdk dk_X12_copies 110 rfl) (q := 165) rfl ?_
    refine x_icmp_ge (tgt := 196) hC (zdk dk_X12_copies 111 rfl) (q := 168) rfl rfl (fun _ => ?_) (fun _ => ?_)
    · exact x_vret hE hC (zdk dk_X12_copies 130 rfl)
    · refine x_aload_n (i := 0) rfl hC (zdk dk_X12_copies 112 rfl) (q := 169) rfl ?_
      refine x_getR (k := 20) fl_RX12_198 rfl h_r0 hC (zdk dk_X12_copies 113 rfl) (q := 172) rfl (fun q8 hq8 => ?_)
      refine x_bipush (i := 120) c_bipush_120 hC (zdk dk_X12_copies 114 rfl) (q := 174) rfl ?_
      refine x_iload_n (i := 1) rfl hC (zdk dk_X12_copies 115 rfl) (q := 175) rfl ?_
      refine x_imul hC (zdk dk_X12_copies 116 rfl) (q := 176) rfl ?_
      refine x_iload_n (i := 3) rfl hC (zdk dk_X12_copies 117 rfl) (q := 177) rfl ?_
      refine x_iadd hC (zdk dk_X12_copies 118 rfl) (q := 178) rfl ?_
      refine x_aload_n (i := 0) rfl hC (zdk dk_X12_copies 119 rfl) (q := 179) rfl ?_
      refine x_getR (k := 20) fl_RX12_198 rfl h_r0 hC (zdk dk_X12_copies 120 rfl) (q := 182) rfl (fun q9 hq9 => ?_)
      refine x_bipush (i := 120) c_bipush_120 hC (zdk dk_X12_copies 121 rfl) (q := 184) rfl ?_
      refine x_iload_n (i := 2) rfl hC (zdk dk_X12_copies 122 rfl) (q := 185) rfl ?_
      refine x_imul hC (zdk dk_X12_copies 123 rfl) (q := 186) rfl ?_
      refine x_iload_n (i := 3) rfl hC (zdk dk_X12_copies 124 rfl) (q := 187) rfl ?_
      refine x_iadd hC (zdk dk_X12_copies 125 rfl) (q := 188) rfl ?_
      refine x_iald hq9 hC (zdk dk_X12_copies 126 rfl) (q := 189) rfl (fun k10 _ => ?_)
      refine x_iast hq8 hC (zdk dk_X12_copies 127 rfl) (q := 190) rfl (fun k11 _ => ?_)
      refine x_nmM (fun M12 => ?_)
      refine x_iinc (i := 3) c_iconst_1 rfl (by decide) (L' := [.ref r0, .int x1, .int x2, .int (x3 + 1), .null]) rfl hC (zdk dk_X12_copies 128 rfl) (q := 193) rfl ?_
      refine x_goto (tgt := 156) hC (zdk dk_X12_copies 129 rfl) rfl ?_
      refine x_weak (L' := [.ref r0, .int x1, .int x2, .int (x3 + 1), .null]) ⟨Or.inr rfl, Or.inr rfl, Or.inr rfl, Or.inr rfl, Or.inl rfl, trivial⟩ ?_
      exact ih _ _
set_option maxRecDepth 100000 in
def f_X12_copies_14  (r0 : Nat) (x1 : Int32) (x2 : Int32) : Nat → Int32 → Mem → Option Mem
  | 0, _, _ => none
  | f + 1, x3, M => (if 6 ≤ x3 then Option.bind (zrf M r0 60) fun q13 => Option.bind (zrf M r0 60) fun q14 => Option.bind (zld q14 x2) fun k15 => Option.bind (zld q13 x1) fun k16 => Option.bind (some (zsI M q13 k16 (zI M q14 k15))) fun M17 => f_X12_copies_156 r0 x1 x2 1000000 0 M17 else Option.bind (zrf M r0 56) fun q18 => Option.bind (zrf M r0 56) fun q19 => Option.bind (zld q19 ((6 * x2) + x3)) fun k20 => Option.bind (zld q18 ((6 * x1) + x3)) fun k21 => Option.bind (some (zsI M q18 k21 (zI M q19 k20))) fun M22 => Option.bind (zrf M22 r0 57) fun q23 => Option.bind (zrf M22 r0 57) fun q24 => Option.bind (zld q24 ((6 * x2) + x3)) fun k25 => Option.bind (zld q23 ((6 * x1) + x3)) fun k26 => Option.bind (some (zsI M22 q23 k26 (zI M22 q24 k25))) fun M27 => Option.bind (zrf M27 r0 58) fun q28 => Option.bind (zrf M27 r0 58) fun q29 => Option.bind (zld q29 ((6 * x2) + x3)) fun k30 => Option.bind (zld q28 ((6 * x1) + x3)) fun k31 => Option.bind (some (zsL M27 q28 k31 (zL M27 q29 k30))) fun M32 => f_X12_copies_89 (f_X12_copies_14 r0 x1 x2 f) r0 x1 x2 1000000 x3 0 M32)
set_option maxRecDepth 100000 in
set_option maxHeartbeats 4000000 in
theorem x_X12_copies_14 {κ : KX} {n : Nat} (hC : CX κ cX12_copies RX12 5 none 0) (hE : zEnd κ n (0, 0)) (hk0 : zRk κ (0, 0)) {r0 : Nat} {x1 : Int32} {x2 : Int32} (h_r0 : zO n r0 12) : ∀ (f : Nat) (x3 : Int32) (M : Mem), X κ 5 emV n (0, 0) 14 [.ref r0, .int x1, .int x2, .int x3, .null] [] M (f_X12_copies_14 r0 x1 x2 f x3 M) := by
  intro f
  induction f with
  | zero => intros; exact x_none
  | succ f ih =>
    intro x3 M 
    rw [f_X12_copies_14]
    refine x_iload_n (i := 3) rfl hC (zdk dk_X12_copies 10 rfl) (q := 15) rfl ?_
    refine x_bipush (i := 6) c_bipush_6 hC (zdk dk_X12_copies 11 rfl) (q := 17) rfl ?_
    refine x_icmp_ge (tgt := 142) hC (zdk dk_X12_copies 12 rfl) (q := 20) rfl rfl (fun _ => ?_) (fun _ => ?_)
    · refine x_aload_n (i := 0) rfl hC (zdk dk_X12_copies 94 rfl) (q := 143) rfl ?_
      refine x_getR (k := 20) fl_RX12_195 rfl h_r0 hC (zdk dk_X12_copies 95 rfl) (q := 146) rfl (fun q13 hq13 => ?_)
      refine x_iload_n (i := 1) rfl hC (zdk dk_X12_copies 96 rfl) (q := 147) rfl ?_
      refine x_aload_n (i := 0) rfl hC (zdk dk_X12_copies 97 rfl) (q := 148) rfl ?_
      refine x_getR (k := 20) fl_RX12_195 rfl h_r0 hC (zdk dk_X12_copies 98 rfl) (q := 151) rfl (fun q14 hq14 => ?_)
      refine x_iload_n (i := 2) rfl hC (zdk dk_X12_copies 99 rfl) (q := 152) rfl ?_
      refine x_iald hq14 hC (zdk dk_X12_copies 100 rfl) (q := 153) rfl (fun k15 _ => ?_)
      refine x_iast hq13 hC (zdk dk_X12_copies 101 rfl) (q := 154) rfl (fun k16 _ => ?_)
      refine x_nmM (fun M17 => ?_)
      refine x_iconst (i := 0) c_iconst_0 hC (zdk dk_X12_copies 102 rfl) (q := 155) rfl ?_
      refine x_istore_n (i := 3) (L' := [.ref r0, .int x1, .int x2, .int 0, .null]) (by decide) rfl hC (zdk dk_X12_copies 103 rfl) (q := 156) rfl ?_
      refine x_weak (L' := [.ref r0, .int x1, .int x2, .int 0, .null]) ⟨Or.inr rfl, Or.inr rfl, Or.inr rfl, Or.inr rfl, Or.inl rfl, trivial⟩ ?_
      exact x_X12_copies_156 hC hE hk0 h_r0 _ _ _
    · refine x_aload_n (i := 0) rfl hC (zdk dk_X12_copies 13 rfl) (q := 21) rfl ?_
      refine x_getR (k := 20) fl_RX12_183 rfl h_r0 hC (zdk dk_X12_copies 14 rfl) (q := 24) rfl (fun q18 hq18 => ?_)
      refine x_bipush (i := 6) c_bipush_6 hC (zdk dk_X12_copies 15 rfl) (q := 26) rfl ?_
      refine x_iload_n (i := 1) rfl hC (zdk dk_X12_copies 16 rfl) (q := 27) rfl ?_
      refine x_imul hC (zdk dk_X12_copies 17 rfl) (q := 28) rfl ?_
      refine x_iload_n (i := 3) rfl hC (zdk dk_X12_copies 18 rfl) (q := 29) rfl ?_
      refine x_iadd hC (zdk dk_X12_copies 19 rfl) (q := 30) rfl ?_
      refine x_aload_n (i := 0) rfl hC (zdk dk_X12_copies 20 rfl) (q := 31) rfl ?_
      refine x_getR (k := 20) fl_RX12_183 rfl h_r0 hC (zdk dk_X12_copies 21 rfl) (q := 34) rfl (fun q19 hq19 => ?_)
      refine x_bipush (i := 6) c_bipush_6 hC (zdk dk_X12_copies 22 rfl) (q := 36) rfl ?_
      refine x_iload_n (i := 2) rfl hC (zdk dk_X12_copies 23 rfl) (q := 37) rfl ?_
      refine x_imul hC (zdk dk_X12_copies 24 rfl) (q := 38) rfl ?_
      refine x_iload_n (i := 3) rfl hC (zdk dk_X12_copies 25 rfl) (q := 39) rfl ?_
      refine x_iadd hC (zdk dk_X12_copies 26 rfl) (q := 40) rfl ?_
      refine x_iald hq19 hC (zdk dk_X12_copies 27 rfl) (q := 41) rfl (fun k20 _ => ?_)
      refine x_iast hq18 hC (zdk dk_X12_copies 28 rfl) (q := 42) rfl (fun k21 _ => ?_)
      refine x_nmM (fun M22 => ?_)
      refine x_aload_n (i := 0) rfl hC (zdk dk_X12_copies 29 rfl) (q := 43) rfl ?_
      refine x_getR (k := 20) fl_RX12_186 rfl h_r0 hC (zdk dk_X12_copies 30 rfl) (q := 46) rfl (fun q23 hq23 => ?_)
      refine x_bipush (i := 6) c_bipush_6 hC (zdk dk_X12_copies 31 rfl) (q := 48) rfl ?_
      refine x_iload_n (i := 1) rfl hC (zdk dk_X12_copies 32 rfl) (q := 49) rfl ?_
      refine x_imul hC (zdk dk_X12_copies 33 rfl) (q := 50) rfl ?_
      refine x_iload_n (i := 3) rfl hC (zdk dk_X12_copies 34 rfl) (q := 51) rfl ?_
      refine x_iadd hC (zdk dk_X12_copies 35 rfl) (q := 52) rfl ?_
      refine x_aload_n (i := 0) rfl hC (zdk dk_X12_copies 36 rfl) (q := 53) rfl ?_
      refine x_getR (k := 20) fl_RX12_186 rfl h_r0 hC (zdk dk_X12_copies 37 rfl) (q := 56) rfl (fun q24 hq24 => ?_)
      refine x_bipush (i := 6) c_bipush_6 hC (zdk dk_X12_copies 38 rfl) (q := 58) rfl ?_
      refine x_iload_n (i := 2) rfl hC (zdk dk_X12_copies 39 rfl) (q := 59) rfl ?_
      refine x_imul hC (zdk dk_X12_copies 40 rfl) (q := 60) rfl ?_
      refine x_iload_n (i := 3) rfl hC (zdk dk_X12_copies 41 rfl) (q := 61) rfl ?_
      refine x_iadd hC (zdk dk_X12_copies 42 rfl) (q := 62) rfl ?_
      refine x_iald hq24 hC (zdk dk_X12_copies 43 rfl) (q := 63) rfl (fun k25 _ => ?_)
      refine x_iast hq23 hC (zdk dk_X12_copies 44 rfl) (q := 64) rfl (fun k26 _ => ?_)
      refine x_nmM (fun M27 => ?_)
      refine x_aload_n (i := 0) rfl hC (zdk dk_X12_copies 45 rfl) (q := 65) rfl ?_
      refine x_getR (k := 21) fl_RX12_189 rfl h_r0 hC (zdk dk_X12_copies 46 rfl) (q := 68) rfl (fun q28 hq28 => ?_)
      refine x_bipush (i := 6) c_bipush_6 hC (zdk dk_X12_copies 47 rfl) (q := 70) rfl ?_
      refine x_iload_n (i := 1) rfl hC (zdk dk_X12_copies 48 rfl) (q := 71) rfl ?_
      refine x_imul hC (zdk dk_X12_copies 49 rfl) (q := 72) rfl ?_
      refine x_iload_n (i := 3) rfl hC (zdk dk_X12_copies 50 rfl) (q := 73) rfl ?_
      refine x_iadd hC (zdk dk_X12_copies 51 rfl) (q := 74) rfl ?_
      refine x_aload_n (i := 0) rfl hC (zdk dk_X12_copies 52 rfl) (q := 75) rfl ?_
      refine x_getR (k := 21) fl_RX12_189 rfl h_r0 hC (zdk dk_X12_copies 53 rfl) (q := 78) rfl (fun q29 hq29 => ?_)
      refine x_bipush (i := 6) c_bipush_6 hC (zdk dk_X12_copies 54 rfl) (q := 80) rfl ?_
      refine x_iload_n (i := 2) rfl hC (zdk dk_X12_copies 55 rfl) (q := 81) rfl ?_
      refine x_imul hC (zdk dk_X12_copies 56 rfl) (q := 82) rfl ?_
      refine x_iload_n (i := 3) rfl hC (zdk dk_X12_copies 57 rfl) (q := 83) rfl ?_
      refine x_iadd hC (zdk dk_X12_copies 58 rfl) (q := 84) rfl ?_
      refine x_lald hq29 hC (zdk dk_X12_copies 59 rfl) (q := 85) rfl (fun k30 _ => ?_)
      refine x_last hq28 hC (zdk dk_X12_copies 60 rfl) (q := 86) rfl (fun k31 _ => ?_)
      refine x_nmM (fun M32 => ?_)
      refine x_iconst (i := 0) c_iconst_0 hC (zdk dk_X12_copies 61 rfl) (q := 87) rfl ?_
      refine x_istore (i := 4) (L' := [.ref r0, .int x1, .int x2, .int x3, .int 0]) (by decide) rfl hC (zdk dk_X12_copies 62 rfl) (q := 89) rfl ?_
      refine x_weak (L' := [.ref r0, .int x1, .int x2, .int x3, .int 0]) ⟨Or.inr rfl, Or.inr rfl, Or.inr rfl, Or.inr rfl, Or.inr rfl, trivial⟩ ?_
      exact x_X12_copies_89 hC hE hk0 h_r0 (f_X12_copies_14 r0 x1 x2 f) ih _ _ _ _
set_option maxRecDepth 100000 in
def f_X12_copies (r0 : Nat) (x1 : Int32) (x2 : Int32) (M : Mem) : Option Mem := Option.bind (zrf M r0 55) fun q33 => Option.bind (zrf M r0 55) fun q34 => Option.bind (zld q34 x2) fun k35 => Option.bind (zld q33 x1) fun k36 => Option.bind (some (zsI M q33 k36 (zI M q34 k35))) fun M37 => f_X12_copies_14 r0 x1 x2 1000000 0 M37
set_option maxRecDepth 100000 in
set_option maxHeartbeats 4000000 in
theorem x_X12_copies {κ : KX} {n : Nat} (hC : CX κ cX12_copies RX12 5 none 0) (hE : zEnd κ n (0, 0)) (hk0 : zRk κ (0, 0)) (r0 : Nat) (x1 : Int32) (x2 : Int32) (M : Mem) (h_r0 : zO n r0 12) : X κ 5 emV n (0, 0) 0 [.ref r0, .int x1, .int x2, .null, .null] [] M (f_X12_copies r0 x1 x2 M) := by
  unfold f_X12_copies
  refine x_aload_n (i := 0) rfl hC (zdk dk_X12_copies 0 rfl) (q := 1) rfl ?_
  refine x_getR (k := 20) fl_RX12_180 rfl h_r0 hC (zdk dk_X12_copies 1 rfl) (q := 4) rfl (fun q33 hq33 => ?_)
  refine x_iload_n (i := 1) rfl hC (zdk dk_X12_copies 2 rfl) (q := 5) rfl ?_
  refine x_aload_n (i := 0) rfl hC (zdk dk_X12_copies 3 rfl) (q := 6) rfl ?_
  refine x_getR (k := 20) fl_RX12_180 rfl h_r0 hC (zdk dk_X12_copies 4 rfl) (q := 9) rfl (fun q34 hq34 => ?_)
  refine x_iload_n (i := 2) rfl hC (zdk dk_X12_copies 5 rfl) (q := 10) rfl ?_
  refine x_iald hq34 hC (zdk dk_X12_copies 6 rfl) (q := 11) rfl (fun k35 _ => ?_)
  refine x_iast hq33 hC (zdk dk_X12_copies 7 rfl) (q := 12) rfl (fun k36 _ => ?_)
  refine x_nmM (fun M37 => ?_)
  refine x_iconst (i := 0) c_iconst_0 hC (zdk dk_X12_copies 8 rfl) (q := 13) rfl ?_
  refine x_istore_n (i := 3) (L' := [.ref r0, .int x1, .int x2, .int 0, .null]) (by decide) rfl hC (zdk dk_X12_copies 9 rfl) (q := 14) rfl ?_
  refine x_weak (L' := [.ref r0, .int x1, .int x2, .int 0, .null]) ⟨Or.inr rfl, Or.inr rfl, Or.inr rfl, Or.inr rfl, Or.inl rfl, trivial⟩ ?_
  exact x_X12_copies_14 hC hE hk0 h_r0 _ _ _
set_option maxRecDepth 100000 in
set_option maxHeartbeats 4000000 in
theorem t_X12_copies {n : Nat} {r0 : Nat} {x1 : Int32} {x2 : Int32} {M : Mem} (h_r0 : zO n r0 12) (x : Mem) (hx : f_X12_copies r0 x1 x2 M = some x) (l : Launch) (dC : Nat → ClassId) (dI : Nat → Nat → Nat) (b : zSg) : MT l dC dI b yX12_copies cX12_copies 5 none 0 0 0 n n [.ref r0, .int x1, .int x2] M (emV x).1 (emV x).2 :=
  MT.ofX (by decide +kernel) rfl (Nat.le_of_ble_eq_true rfl) (fun κ hC hF _ => x_X12_copies hC (zEnd_of hF (Nat.le_refl _) (Nat.le_refl _)) (zRk_of hF (Nat.le_refl _) (Nat.le_refl _)) _ _ _ _ h_r0) x hx
set_option maxRecDepth 100000 in
def dt_X12_slot : List (Nat × Instr × Nat) := [(0, .iconst 2, 1), (1, .aload_n 0, 1), (2, .getfield 201, 3), (5, .iload_n 1, 1), (6, .iadd, 1), (7, .bipush 20, 2), (9, .irem, 1), (10, .iadd, 1), (11, .ireturn, 1)]
set_option maxRecDepth 100000 in
theorem dk_X12_slot : dt_X12_slot.all (fun q => decide (decode cX12_slot q.1 = .ok q.2)) = true := by decide +kernel
set_option maxRecDepth 100000 in
def f_X12_slot (r0 : Nat) (x1 : Int32) (M : Mem) : Option (Int32 × Mem) := some (2 + (zrem ((zI M r0 62) + x1) 20), M)
set_option maxRecDepth 100000 in
set_option maxHeartbeats 4000000 in
theorem x_X12_slot {κ : KX} {n : Nat} (hC : CX κ cX12_slot RX12 2 (some .int) 0) (hE : zEnd κ n (0, 0)) (hk0 : zRk κ (0, 0)) (r0 : Nat) (x1 : Int32) (M : Mem) (h_r0 : zO n r0 12) : X κ 2 emI n (0, 0) 0 [.ref r0, .int x1] [] M (f_X12_slot r0 x1 M) := by
  unfold f_X12_slot
  refine x_iconst (i := 2) c_iconst_2 hC (zdk dk_X12_slot 0 rfl) (q := 1) rfl ?_
  refine x_aload_n (i := 0) rfl hC (zdk dk_X12_slot 1 rfl) (q := 2) rfl ?_
  refine x_getI fl_RX12_201 (by decide) h_r0 hC (zdk dk_X12_slot 2 rfl) (q := 5) rfl ?_
  refine x_iload_n (i := 1) rfl hC (zdk dk_X12_slot 3 rfl) (q := 6) rfl ?_
  refine x_iadd hC (zdk dk_X12_slot 4 rfl) (q := 7) rfl ?_
  refine x_bipush (i := 20) c_bipush_20 hC (zdk dk_X12_slot 5 rfl) (q := 9) rfl ?_
  refine x_irem (by decide) hC (zdk dk_X12_slot 6 rfl) (q := 10) rfl ?_
  refine x_iadd hC (zdk dk_X12_slot 7 rfl) (q := 11) rfl ?_
  exact x_iret (ty := .int) rfl hE hC (zdk dk_X12_slot 8 rfl)
set_option maxRecDepth 100000 in
set_option maxHeartbeats 4000000 in
theorem t_X12_slot {n : Nat} {r0 : Nat} {x1 : Int32} {M : Mem} (h_r0 : zO n r0 12) (x : (Int32 × Mem)) (hx : f_X12_slot r0 x1 M = some x) (l : Launch) (dC : Nat → ClassId) (dI : Nat → Nat → Nat) (b : zSg) : MT l dC dI b yX12_slot cX12_slot 2 (some .int) 0 0 0 n n [.ref r0, .int x1] M (emI x).1 (emI x).2 :=
  MT.ofX (by decide +kernel) rfl (Nat.le_of_ble_eq_true rfl) (fun κ hC hF _ => x_X12_slot hC (zEnd_of hF (Nat.le_refl _) (Nat.le_refl _)) (zRk_of hF (Nat.le_refl _) (Nat.le_refl _)) _ _ _ h_r0) x hx
set_option maxRecDepth 100000 in
def dt_X12_keeps : List (Nat × Instr × Nat) := [(0, .aload_n 0, 1), (1, .getfield 204, 3), (4, .bipush 20, 2), (6, .if_icmp .ne 26, 3), (9, .aload_n 0, 1), (10, .aload_n 0, 1), (11, .getfield 201, 3), (14, .iconst 1, 1), (15, .iadd, 1), (16, .bipush 20, 2), (18, .irem, 1), (19, .putfield 201, 3), (22, .aload_n 0, 1), (23, .dup, 1), (24, .getfield 204, 3), (27, .iconst 1, 1), (28, .isub, 1), (29, .putfield 204, 3), (32, .aload_n 0, 1), (33, .aload_n 0, 1), (34, .aload_n 0, 1), (35, .getfield 204, 3), (38, .invokevirtual 476, 3), (41, .iconst 0, 1), (42, .invokevirtual 479, 3), (45, .aload_n 0, 1), (46, .dup, 1), (47, .getfield 204, 3), (50, .iconst 1, 1), (51, .iadd, 1), (52, .putfield 204, 3), (55, .return_, 1)]
set_option maxRecDepth 100000 in
theorem dk_X12_keeps : dt_X12_keeps.all (fun q => decide (decode cX12_keeps q.1 = .ok q.2)) = true := by decide +kernel
set_option maxRecDepth 100000 in
def f_X12_keeps_32  (r0 : Nat)  (M : Mem) : Option Mem := Option.bind (f_X12_slot r0 (zI M r0 63) M) fun z1 => Option.bind (f_X12_copies r0 z1.1 0 z1.2) fun M2 => Option.bind (some (zsI M2 r0 63 ((zI M2 r0 63) + 1))) fun M3 => some M3
set_option maxRecDepth 100000 in
set_option maxHeartbeats 4000000 in
theorem x_X12_keeps_32 {κ : KX} {n : Nat} (hC : CX κ cX12_keeps RX12 1 none 1) (hE : zEnd κ n (0, 0)) (hk0 : zRk κ (0, 0)) {r0 : Nat} (h_r0 : zO n r0 12) (M : Mem) : X κ 1 emV n (0, 0) 32 [.ref r0] [] M (f_X12_keeps_32 r0 M) := by
  unfold f_X12_keeps_32
  refine x_aload_n (i := 0) rfl hC (zdk dk_X12_keeps 18 rfl) (q := 33) rfl ?_
  refine x_aload_n (i := 0) rfl hC (zdk dk_X12_keeps 19 rfl) (q := 34) rfl ?_
  refine x_aload_n (i := 0) rfl hC (zdk dk_X12_keeps 20 rfl) (q := 35) rfl ?_
  refine x_getI fl_RX12_204 (by decide) h_r0 hC (zdk dk_X12_keeps 21 rfl) (q := 38) rfl ?_
  refine x_callVi (as := [.int (zI M r0 63)]) cb_RX12_476 rfl (by decide) hk0 h_r0 (fun x hx => t_X12_slot h_r0 x hx) hC (zdk dk_X12_keeps 22 rfl) (q := 41) rfl rfl (Nat.le_of_ble_eq_true rfl) (fun z1 => ?_)
  refine x_iconst (i := 0) c_iconst_0 hC (zdk dk_X12_keeps 23 rfl) (q := 42) rfl ?_
  refine x_callVv (as := [.int z1.1, .int 0]) cb_RX12_479 rfl (by decide) hk0 h_r0 (fun x hx => t_X12_copies h_r0 x hx) hC (zdk dk_X12_keeps 24 rfl) (q := 45) rfl rfl (Nat.le_of_ble_eq_true rfl) (fun M2 => ?_)
  refine x_aload_n (i := 0) rfl hC (zdk dk_X12_keeps 25 rfl) (q := 46) rfl ?_
  refine x_dup rfl hC (zdk dk_X12_keeps 26 rfl) (q := 47) rfl ?_
  refine x_getI fl_RX12_204 (by decide) h_r0 hC (zdk dk_X12_keeps 27 rfl) (q := 50) rfl ?_
  refine x_iconst (i := 1) c_iconst_1 hC (zdk dk_X12_keeps 28 rfl) (q := 51) rfl ?_
  refine x_iadd hC (zdk dk_X12_keeps 29 rfl) (q := 52) rfl ?_
  refine x_putI fl_RX12_204 ⟨rfl, rfl⟩ (by decide) (Or.inl rfl) h_r0 hC (zdk dk_X12_keeps 30 rfl) (q := 55) rfl ?_
  refine x_nmM (fun M3 => ?_)
  exact x_vret hE hC (zdk dk_X12_keeps 31 rfl)
set_option maxRecDepth 100000 in
def f_X12_keeps (r0 : Nat) (M : Mem) : Option Mem := (if zI M r0 63 = 20 then Option.bind (some (zsI M r0 62 (zrem ((zI M r0 62) + 1) 20))) fun M4 => Option.bind (some (zsI M4 r0 63 ((zI M4 r0 63) - 1))) fun M5 => f_X12_keeps_32 r0 M5 else f_X12_keeps_32 r0 M)
set_option maxRecDepth 100000 in
set_option maxHeartbeats 4000000 in
theorem x_X12_keeps {κ : KX} {n : Nat} (hC : CX κ cX12_keeps RX12 1 none 1) (hE : zEnd κ n (0, 0)) (hk0 : zRk κ (0, 0)) (r0 : Nat) (M : Mem) (h_r0 : zO n r0 12) : X κ 1 emV n (0, 0) 0 [.ref r0] [] M (f_X12_keeps r0 M) := by
  unfold f_X12_keeps
  refine x_aload_n (i := 0) rfl hC (zdk dk_X12_keeps 0 rfl) (q := 1) rfl ?_
  refine x_getI fl_RX12_204 (by decide) h_r0 hC (zdk dk_X12_keeps 1 rfl) (q := 4) rfl ?_
  refine x_bipush (i := 20) c_bipush_20 hC (zdk dk_X12_keeps 2 rfl) (q := 6) rfl ?_
  refine x_icmp_ne (tgt := 32) hC (zdk dk_X12_keeps 3 rfl) (q := 9) rfl rfl (fun _ => ?_) (fun _ => ?_)
  · refine x_weak (L' := [.ref r0]) ⟨Or.inr rfl, trivial⟩ ?_
    exact x_X12_keeps_32 hC hE hk0 h_r0 _
  · refine x_aload_n (i := 0) rfl hC (zdk dk_X12_keeps 4 rfl) (q := 10) rfl ?_
    refine x_aload_n (i := 0) rfl hC (zdk dk_X12_keeps 5 rfl) (q := 11) rfl ?_
    refine x_getI fl_RX12_201 (by decide) h_r0 hC (zdk dk_X12_keeps 6 rfl) (q := 14) rfl ?_
    refine x_iconst (i := 1) c_iconst_1 hC (zdk dk_X12_keeps 7 rfl) (q := 15) rfl ?_
    refine x_iadd hC (zdk dk_X12_keeps 8 rfl) (q := 16) rfl ?_
    refine x_bipush (i := 20) c_bipush_20 hC (zdk dk_X12_keeps 9 rfl) (q := 18) rfl ?_
    refine x_irem (by decide) hC (zdk dk_X12_keeps 10 rfl) (q := 19) rfl ?_
    refine x_putI fl_RX12_201 ⟨rfl, rfl⟩ (by decide) (Or.inl rfl) h_r0 hC (zdk dk_X12_keeps 11 rfl) (q := 22) rfl ?_
    refine x_nmM (fun M4 => ?_)
    refine x_aload_n (i := 0) rfl hC (zdk dk_X12_keeps 12 rfl) (q := 23) rfl ?_
    refine x_dup rfl hC (zdk dk_X12_keeps 13 rfl) (q := 24) rfl ?_
    refine x_getI fl_RX12_204 (by decide) h_r0 hC (zdk dk_X12_keeps 14 rfl) (q := 27) rfl ?_
    refine x_iconst (i := 1) c_iconst_1 hC (zdk dk_X12_keeps 15 rfl) (q := 28) rfl ?_
    refine x_isub hC (zdk dk_X12_keeps 16 rfl) (q := 29) rfl ?_
    refine x_putI fl_RX12_204 ⟨rfl, rfl⟩ (by decide) (Or.inl rfl) h_r0 hC (zdk dk_X12_keeps 17 rfl) (q := 32) rfl ?_
    refine x_nmM (fun M5 => ?_)
    refine x_weak (L' := [.ref r0]) ⟨Or.inr rfl, trivial⟩ ?_
    exact x_X12_keeps_32 hC hE hk0 h_r0 _
set_option maxRecDepth 100000 in
set_option maxHeartbeats 4000000 in
theorem t_X12_keeps {n : Nat} {r0 : Nat} {M : Mem} (h_r0 : zO n r0 12) (x : Mem) (hx : f_X12_keeps r0 M = some x) (l : Launch) (dC : Nat → ClassId) (dI : Nat → Nat → Nat) (b : zSg) : MT l dC dI b yX12_keeps cX12_keeps 1 none 1 0 0 n n [.ref r0] M (emV x).1 (emV x).2 :=
  MT.ofX (by decide +kernel) rfl (Nat.le_of_ble_eq_true rfl) (fun κ hC hF _ => x_X12_keeps hC (zEnd_of hF (Nat.le_refl _) (Nat.le_refl _)) (zRk_of hF (Nat.le_refl _) (Nat.le_refl _)) _ _ h_r0) x hx
set_option maxRecDepth 100000 in
def dt_X12_undo : List (Nat × Instr × Nat) := [(0, .aload_n 0, 1), (1, .getfield 204, 3), (4, .ifCond .ne 17, 3), (7, .aload_n 0, 1), (8, .iconst 4, 1), (9, .invokevirtual 243, 3), (12, .ifCond .lt 7, 3), (15, .iconst 1, 1), (16, .goto 4, 3), (19, .iconst 0, 1), (20, .ireturn, 1), (21, .aload_n 0, 1), (22, .dup, 1), (23, .getfield 204, 3), (26, .iconst 1, 1), (27, .isub, 1), (28, .putfield 204, 3), (31, .aload_n 0, 1), (32, .iconst 0, 1), (33, .aload_n 0, 1), (34, .aload_n 0, 1), (35, .getfield 204, 3), (38, .invokevirtual 476, 3), (41, .invokevirtual 479, 3), (44, .iconst 1, 1), (45, .ireturn, 1)]
set_option maxRecDepth 100000 in
theorem dk_X12_undo : dt_X12_undo.all (fun q => decide (decode cX12_undo q.1 = .ok q.2)) = true := by decide +kernel
set_option maxRecDepth 100000 in
def f_X12_undo_20  (r0 : Nat) (s0 : Int32) (M : Mem) : Option (Int32 × Mem) := zbz s0 (some (s0, M))
set_option maxRecDepth 100000 in
set_option maxHeartbeats 4000000 in
theorem x_X12_undo_20 {κ : KX} {n : Nat} (hC : CX κ cX12_undo RX12 1 (some .boolean) 1) (hE : zEnd κ n (0, 0)) (hk0 : zRk κ (0, 0)) {r0 : Nat} (h_r0 : zO n r0 12) (s0 : Int32) (M : Mem) : X κ 1 emI n (0, 0) 20 [.null] [.int s0] M (f_X12_undo_20 r0 s0 M) := by
  unfold f_X12_undo_20
  refine x_bz (fun hb1 => ?_)
  exact x_iret (ty := .boolean) hb1.1 hE hC (zdk dk_X12_undo 10 rfl)
set_option maxRecDepth 100000 in
def f_X12_undo (r0 : Nat) (M : Mem) : Option (Int32 × Mem) := (if zI M r0 63 = 0 then Option.bind (f_X12_refuses r0 4 M) fun z5 => (if z5.1 < 0 then f_X12_undo_20 r0 0 z5.2 else f_X12_undo_20 r0 1 z5.2) else Option.bind (some (zsI M r0 63 ((zI M r0 63) - 1))) fun M2 => Option.bind (f_X12_slot r0 (zI M2 r0 63) M2) fun z3 => Option.bind (f_X12_copies r0 0 z3.1 z3.2) fun M4 => some (1, M4))
set_option maxRecDepth 100000 in
set_option maxHeartbeats 4000000 in
theorem x_X12_undo {κ : KX} {n : Nat} (hC : CX κ cX12_undo RX12 1 (some .boolean) 1) (hE : zEnd κ n (0, 0)) (hk0 : zRk κ (0, 0)) (r0 : Nat) (M : Mem) (h_r0 : zO n r0 12) : X κ 1 emI n (0, 0) 0 [.ref r0] [] M (f_X12_undo r0 M) := by
  unfold f_X12_undo
  refine x_aload_n (i := 0) rfl hC (zdk dk_X12_undo 0 rfl) (q := 1) rfl ?_
  refine x_getI fl_RX12_204 (by decide) h_r0 hC (zdk dk_X12_undo 1 rfl) (q := 4) rfl ?_
  refine x_if_ne (tgt := 21) hC (zdk dk_X12_undo 2 rfl) (q := 7) rfl rfl (fun _ => ?_) (fun _ => ?_)
  · refine x_aload_n (i := 0) rfl hC (zdk dk_X12_undo 11 rfl) (q := 22) rfl ?_
    refine x_dup rfl hC (zdk dk_X12_undo 12 rfl) (q := 23) rfl ?_
    refine x_getI fl_RX12_204 (by decide) h_r0 hC (zdk dk_X12_undo 13 rfl) (q := 26) rfl ?_
    refine x_iconst (i := 1) c_iconst_1 hC (zdk dk_X12_undo 14 rfl) (q := 27) rfl ?_
    refine x_isub hC (zdk dk_X12_undo 15 rfl) (q := 28) rfl ?_
    refine x_putI fl_RX12_204 ⟨rfl, rfl⟩ (by decide) (Or.inl rfl) h_r0 hC (zdk dk_X12_undo 16 rfl) (q := 31) rfl ?_
    refine x_nmM (fun M2 => ?_)
    refine x_aload_n (i := 0) rfl hC (zdk dk_X12_undo 17 rfl) (q := 32) rfl ?_
    refine x_iconst (i := 0) c_iconst_0 hC (zdk dk_X12_undo 18 rfl) (q := 33) rfl ?_
    refine x_aload_n (i := 0) rfl hC (zdk dk_X12_undo 19 rfl) (q := 34) rfl ?_
    refine x_aload_n (i := 0) rfl hC (zdk dk_X12_undo 20 rfl) (q := 35) rfl ?_
    refine x_getI fl_RX12_204 (by decide) h_r0 hC (zdk dk_X12_undo 21 rfl) (q := 38) rfl ?_
    refine x_callVi (as := [.int (zI M2 r0 63)]) cb_RX12_476 rfl (by decide) hk0 h_r0 (fun x hx => t_X12_slot h_r0 x hx) hC (zdk dk_X12_undo 22 rfl) (q := 41) rfl rfl (Nat.le_of_ble_eq_true rfl) (fun z3 => ?_)
    refine x_callVv (as := [.int 0, .int z3.1]) cb_RX12_479 rfl (by decide) hk0 h_r0 (fun x hx => t_X12_copies h_r0 x hx) hC (zdk dk_X12_undo 23 rfl) (q := 44) rfl rfl (Nat.le_of_ble_eq_true rfl) (fun M4 => ?_)
    refine x_iconst (i := 1) c_iconst_1 hC (zdk dk_X12_undo 24 rfl) (q := 45) rfl ?_
    exact x_iret (ty := .boolean) rfl hE hC (zdk dk_X12_undo 25 rfl)
  · refine x_aload_n (i := 0) rfl hC (zdk dk_X12_undo 3 rfl) (q := 8) rfl ?_
    refine x_iconst (i := 4) c_iconst_4 hC (zdk dk_X12_undo 4 rfl) (q := 9) rfl ?_
    refine x_callVi (as := [.int 4]) cb_RX12_243 rfl (by decide) hk0 h_r0 (fun x hx => t_X12_refuses h_r0 x hx) hC (zdk dk_X12_undo 5 rfl) (q := 12) rfl rfl (Nat.le_of_ble_eq_true rfl) (fun z5 => ?_)
    refine x_if_lt (tgt := 19) hC (zdk dk_X12_undo 6 rfl) (q := 15) rfl rfl (fun _ => ?_) (fun _ => ?_)
    · refine x_iconst (i := 0) c_iconst_0 hC (zdk dk_X12_undo 9 rfl) (q := 20) rfl ?_
      refine x_weak (L' := [.null]) ⟨Or.inl rfl, trivial⟩ ?_
      exact x_X12_undo_20 hC hE hk0 h_r0 _ _
    · refine x_iconst (i := 1) c_iconst_1 hC (zdk dk_X12_undo 7 rfl) (q := 16) rfl ?_
      refine x_goto (tgt := 20) hC (zdk dk_X12_undo 8 rfl) rfl ?_
      refine x_weak (L' := [.null]) ⟨Or.inl rfl, trivial⟩ ?_
      exact x_X12_undo_20 hC hE hk0 h_r0 _ _
set_option maxRecDepth 100000 in
set_option maxHeartbeats 4000000 in
theorem t_X12_undo {n : Nat} {r0 : Nat} {M : Mem} (h_r0 : zO n r0 12) (x : (Int32 × Mem)) (hx : f_X12_undo r0 M = some x) (l : Launch) (dC : Nat → ClassId) (dI : Nat → Nat → Nat) (b : zSg) : MT l dC dI b yX12_undo cX12_undo 1 (some .boolean) 1 0 0 n n [.ref r0] M (emI x).1 (emI x).2 :=
  MT.ofX (by decide +kernel) rfl (Nat.le_of_ble_eq_true rfl) (fun κ hC hF _ => x_X12_undo hC (zEnd_of hF (Nat.le_refl _) (Nat.le_refl _)) (zRk_of hF (Nat.le_refl _) (Nat.le_refl _)) _ _ h_r0) x hx
set_option maxRecDepth 100000 in
def dt_X12_within : List (Nat × Instr × Nat) := [(0, .lload_n 0, 1), (1, .ldc2_w 482, 3), (4, .lcmp, 1), (5, .ifCond .le 9, 3), (8, .ldc2_w 482, 3), (11, .goto 18, 3), (14, .lload_n 0, 1), (15, .ldc2_w 484, 3), (18, .lcmp, 1), (19, .ifCond .ge 9, 3), (22, .ldc2_w 484, 3), (25, .goto 4, 3), (28, .lload_n 0, 1), (29, .lreturn, 1)]
set_option maxRecDepth 100000 in
theorem dk_X12_within : dt_X12_within.all (fun q => decide (decode cX12_within q.1 = .ok q.2)) = true := by decide +kernel
set_option maxRecDepth 100000 in
def f_X12_within_29  (y0 : Int64) (s0 : Int64) (M : Mem) : Option (Int64 × Mem) := some (s0, M)
set_option maxRecDepth 100000 in
set_option maxHeartbeats 4000000 in
theorem x_X12_within_29 {κ : KX} {n : Nat} (hC : CX κ cX12_within RX12 2 (some .long) 0) (hE : zEnd κ n (0, 0)) (hk0 : zRk κ (0, 0)) {y0 : Int64} (s0 : Int64) (M : Mem) : X κ 2 emL n (0, 0) 29 [.null, .null] [.long s0] M (f_X12_within_29 y0 s0 M) := by
  unfold f_X12_within_29
  exact x_lret hE hC (zdk dk_X12_within 13 rfl)
set_option maxRecDepth 100000 in
def f_X12_within (y0 : Int64) (M : Mem) : Option (Int64 × Mem) := (if lg_cmp y0 1000000 ≤ 0 then (if 0 ≤ lg_cmp y0 ((-1000000)) then f_X12_within_29 y0 y0 M else f_X12_within_29 y0 ((-1000000)) M) else f_X12_within_29 y0 1000000 M)
set_option maxRecDepth 100000 in
set_option maxHeartbeats 4000000 in
theorem x_X12_within {κ : KX} {n : Nat} (hC : CX κ cX12_within RX12 2 (some .long) 0) (hE : zEnd κ n (0, 0)) (hk0 : zRk κ (0, 0)) (y0 : Int64) (M : Mem) : X κ 2 emL n (0, 0) 0 [.long y0, .null] [] M (f_X12_within y0 M) := by
  unfold f_X12_within
  refine x_lload_n (i := 0) rfl hC (zdk dk_X12_within 0 rfl) (q := 1) rfl ?_
  refine x_ldc2 k_RX12_482 hC (zdk dk_X12_within 1 rfl) (q := 4) rfl ?_
  refine x_lcmp hC (zdk dk_X12_within 2 rfl) (q := 5) rfl ?_
  refine x_if_le (tgt := 14) hC (zdk dk_X12_within 3 rfl) (q := 8) rfl rfl (fun _ => ?_) (fun _ => ?_)
  · refine x_lload_n (i := 0) rfl hC (zdk dk_X12_within 6 rfl) (q := 15) rfl ?_
    refine x_ldc2 k_RX12_484 hC (zdk dk_X12_within 7 rfl) (q := 18) rfl ?_
    refine x_lcmp hC (zdk dk_X12_within 8 rfl) (q := 19) rfl ?_
    refine x_if_ge (tgt := 28) hC (zdk dk_X12_within 9 rfl) (q := 22) rfl rfl (fun _ => ?_) (fun _ => ?_)
    · refine x_lload_n (i := 0) rfl hC (zdk dk_X12_within 12 rfl) (q := 29) rfl ?_
      refine x_weak (L' := [.null, .null]) ⟨Or.inl rfl, Or.inl rfl, trivial⟩ ?_
      exact x_X12_within_29 hC hE hk0 _ _
    · refine x_ldc2 k_RX12_484 hC (zdk dk_X12_within 10 rfl) (q := 25) rfl ?_
      refine x_goto (tgt := 29) hC (zdk dk_X12_within 11 rfl) rfl ?_
      refine x_weak (L' := [.null, .null]) ⟨Or.inl rfl, Or.inl rfl, trivial⟩ ?_
      exact x_X12_within_29 hC hE hk0 _ _
  · refine x_ldc2 k_RX12_482 hC (zdk dk_X12_within 4 rfl) (q := 11) rfl ?_
    refine x_goto (tgt := 29) hC (zdk dk_X12_within 5 rfl) rfl ?_
    refine x_weak (L' := [.null, .null]) ⟨Or.inl rfl, Or.inl rfl, trivial⟩ ?_
    exact x_X12_within_29 hC hE hk0 _ _
set_option maxRecDepth 100000 in
set_option maxHeartbeats 4000000 in
theorem t_X12_within {n : Nat} {y0 : Int64} {M : Mem}  (x : (Int64 × Mem)) (hx : f_X12_within y0 M = some x) (l : Launch) (dC : Nat → ClassId) (dI : Nat → Nat → Nat) (b : zSg) : MT l dC dI b yX12_within cX12_within 2 (some .long) 0 0 0 n n [.long y0] M (emL x).1 (emL x).2 :=
  MT.ofX (by decide +kernel) rfl (Nat.le_of_ble_eq_true rfl) (fun κ hC hF _ => x_X12_within hC (zEnd_of hF (Nat.le_refl _) (Nat.le_refl _)) (zRk_of hF (Nat.le_refl _) (Nat.le_refl _)) _ _ ) x hx
set_option maxRecDepth 100000 in
def dt_X12_floor : List (Nat × Instr × Nat) := [(0, .lload_n 2, 1), (1, .lconst 0, 1), (2, .lcmp, 1), (3, .ifCond .ne 5, 3), (6, .lconst 0, 1), (7, .lreturn, 1), (8, .lload_n 0, 1), (9, .lload_n 2, 1), (10, .ldiv, 1), (11, .lstore 4, 2), (13, .lload_n 0, 1), (14, .lload_n 2, 1), (15, .lrem, 1), (16, .lconst 0, 1), (17, .lcmp, 1), (18, .ifCond .eq 35, 3), (21, .lload_n 0, 1), (22, .lconst 0, 1), (23, .lcmp, 1), (24, .ifCond .ge 7, 3), (27, .iconst 1, 1), (28, .goto 4, 3), (31, .iconst 0, 1), (32, .lload_n 2, 1), (33, .lconst 0, 1), (34, .lcmp, 1), (35, .ifCond .ge 7, 3), (38, .iconst 1, 1), (39, .goto 4, 3), (42, .iconst 0, 1), (43, .if_icmp .eq 10, 3), (46, .lload 4, 2), (48, .lconst 1, 1), (49, .lsub, 1), (50, .goto 5, 3), (53, .lload 4, 2), (55, .lreturn, 1)]
set_option maxRecDepth 100000 in
theorem dk_X12_floor : dt_X12_floor.all (fun q => decide (decode cX12_floor q.1 = .ok q.2)) = true := by decide +kernel
set_option maxRecDepth 100000 in
def f_X12_floor_55  (y0 : Int64) (y2 : Int64) (s0 : Int64) (M : Mem) : Option (Int64 × Mem) := some (s0, M)
set_option maxRecDepth 100000 in
set_option maxHeartbeats 4000000 in
theorem x_X12_floor_55 {κ : KX} {n : Nat} (hC : CX κ cX12_floor RX12 6 (some .long) 0) (hE : zEnd κ n (0, 0)) (hk0 : zRk κ (0, 0)) {y0 : Int64} {y2 : Int64} (s0 : Int64) (M : Mem) : X κ 6 emL n (0, 0) 55 [.null, .null, .null, .null, .null, .null] [.long s0] M (f_X12_floor_55 y0 y2 s0 M) := by
  unfold f_X12_floor_55
  exact x_lret hE hC (zdk dk_X12_floor 36 rfl)
set_option maxRecDepth 100000 in
def f_X12_floor_53  (y0 : Int64) (y2 : Int64) (y4 : Int64) (M : Mem) : Option (Int64 × Mem) := f_X12_floor_55 y0 y2 y4 M
set_option maxRecDepth 100000 in
set_option maxHeartbeats 4000000 in
theorem x_X12_floor_53 {κ : KX} {n : Nat} (hC : CX κ cX12_floor RX12 6 (some .long) 0) (hE : zEnd κ n (0, 0)) (hk0 : zRk κ (0, 0)) {y0 : Int64} {y2 : Int64} (y4 : Int64) (M : Mem) : X κ 6 emL n (0, 0) 53 [.null, .null, .null, .null, .long y4, .null] [] M (f_X12_floor_53 y0 y2 y4 M) := by
  unfold f_X12_floor_53
  refine x_lload (i := 4) rfl hC (zdk dk_X12_floor 35 rfl) (q := 55) rfl ?_
  refine x_weak (L' := [.null, .null, .null, .null, .null, .null]) ⟨Or.inl rfl, Or.inl rfl, Or.inl rfl, Or.inl rfl, Or.inl rfl, Or.inl rfl, trivial⟩ ?_
  exact x_X12_floor_55 hC hE hk0 _ _
set_option maxRecDepth 100000 in
def f_X12_floor_43  (y0 : Int64) (y2 : Int64) (y4 : Int64) (s0 : Int32) (s1 : Int32) (M : Mem) : Option (Int64 × Mem) := (if s0 = s1 then f_X12_floor_53 y0 y2 y4 M else f_X12_floor_55 y0 y2 (y4 - 1) M)
set_option maxRecDepth 100000 in
set_option maxHeartbeats 4000000 in
theorem x_X12_floor_43 {κ : KX} {n : Nat} (hC : CX κ cX12_floor RX12 6 (some .long) 0) (hE : zEnd κ n (0, 0)) (hk0 : zRk κ (0, 0)) {y0 : Int64} {y2 : Int64} (y4 : Int64) (s0 : Int32) (s1 : Int32) (M : Mem) : X κ 6 emL n (0, 0) 43 [.null, .null, .null, .null, .long y4, .null] [.int s1, .int s0] M (f_X12_floor_43 y0 y2 y4 s0 s1 M) := by
  unfold f_X12_floor_43
  refine x_icmp_eq (tgt := 53) hC (zdk dk_X12_floor 30 rfl) (q := 46) rfl rfl (fun _ => ?_) (fun _ => ?_)
  · refine x_weak (L' := [.null, .null, .null, .null, .long y4, .null]) ⟨Or.inl rfl, Or.inl rfl, Or.inl rfl, Or.inl rfl, Or.inr rfl, Or.inl rfl, trivial⟩ ?_
    exact x_X12_floor_53 hC hE hk0 _ _
  · refine x_lload (i := 4) rfl hC (zdk dk_X12_floor 31 rfl) (q := 48) rfl ?_
    refine x_lconst (i := 1) c_lconst_1 hC (zdk dk_X12_floor 32 rfl) (q := 49) rfl ?_
    refine x_lsub hC (zdk dk_X12_floor 33 rfl) (q := 50) rfl ?_
    refine x_goto (tgt := 55) hC (zdk dk_X12_floor 34 rfl) rfl ?_
    refine x_weak (L' := [.null, .null, .null, .null, .null, .null]) ⟨Or.inl rfl, Or.inl rfl, Or.inl rfl, Or.inl rfl, Or.inl rfl, Or.inl rfl, trivial⟩ ?_
    exact x_X12_floor_55 hC hE hk0 _ _
set_option maxRecDepth 100000 in
def f_X12_floor_32  (y0 : Int64) (y2 : Int64) (y4 : Int64) (s0 : Int32) (M : Mem) : Option (Int64 × Mem) := (if 0 ≤ lg_cmp y2 0 then f_X12_floor_43 y0 y2 y4 s0 0 M else f_X12_floor_43 y0 y2 y4 s0 1 M)
set_option maxRecDepth 100000 in
set_option maxHeartbeats 4000000 in
theorem x_X12_floor_32 {κ : KX} {n : Nat} (hC : CX κ cX12_floor RX12 6 (some .long) 0) (hE : zEnd κ n (0, 0)) (hk0 : zRk κ (0, 0)) {y0 : Int64} {y2 : Int64} (y4 : Int64) (s0 : Int32) (M : Mem) : X κ 6 emL n (0, 0) 32 [.null, .null, .long y2, .null, .long y4, .null] [.int s0] M (f_X12_floor_32 y0 y2 y4 s0 M) := by
  unfold f_X12_floor_32
  refine x_lload_n (i := 2) rfl hC (zdk dk_X12_floor 23 rfl) (q := 33) rfl ?_
  refine x_lconst (i := 0) c_lconst_0 hC (zdk dk_X12_floor 24 rfl) (q := 34) rfl ?_
  refine x_lcmp hC (zdk dk_X12_floor 25 rfl) (q := 35) rfl ?_
  refine x_if_ge (tgt := 42) hC (zdk dk_X12_floor 26 rfl) (q := 38) rfl rfl (fun _ => ?_) (fun _ => ?_)
  · refine x_iconst (i := 0) c_iconst_0 hC (zdk dk_X12_floor 29 rfl) (q := 43) rfl ?_
    refine x_weak (L' := [.null, .null, .null, .null, .long y4, .null]) ⟨Or.inl rfl, Or.inl rfl, Or.inl rfl, Or.inl rfl, Or.inr rfl, Or.inl rfl, trivial⟩ ?_
    exact x_X12_floor_43 hC hE hk0 _ _ _ _
  · refine x_iconst (i := 1) c_iconst_1 hC (zdk dk_X12_floor 27 rfl) (q := 39) rfl ?_
    refine x_goto (tgt := 43) hC (zdk dk_X12_floor 28 rfl) rfl ?_
    refine x_weak (L' := [.null, .null, .null, .null, .long y4, .null]) ⟨Or.inl rfl, Or.inl rfl, Or.inl rfl, Or.inl rfl, Or.inr rfl, Or.inl rfl, trivial⟩ ?_
    exact x_X12_floor_43 hC hE hk0 _ _ _ _
set_option maxRecDepth 100000 in
def f_X12_floor (y0 : Int64) (y2 : Int64) (M : Mem) : Option (Int64 × Mem) := (if lg_cmp y2 0 = 0 then some (0, M) else if y2 = 0 then none else if y2 = 0 then none else (if lg_cmp (zlrem y0 y2) 0 = 0 then f_X12_floor_53 y0 y2 (y0 / y2) M else (if 0 ≤ lg_cmp y0 0 then f_X12_floor_32 y0 y2 (y0 / y2) 0 M else f_X12_floor_32 y0 y2 (y0 / y2) 1 M)))
set_option maxRecDepth 100000 in
set_option maxHeartbeats 4000000 in
theorem x_X12_floor {κ : KX} {n : Nat} (hC : CX κ cX12_floor RX12 6 (some .long) 0) (hE : zEnd κ n (0, 0)) (hk0 : zRk κ (0, 0)) (y0 : Int64) (y2 : Int64) (M : Mem) : X κ 6 emL n (0, 0) 0 [.long y0, .null, .long y2, .null, .null, .null] [] M (f_X12_floor y0 y2 M) := by
  unfold f_X12_floor
  refine x_lload_n (i := 2) rfl hC (zdk dk_X12_floor 0 rfl) (q := 1) rfl ?_
  refine x_lconst (i := 0) c_lconst_0 hC (zdk dk_X12_floor 1 rfl) (q := 2) rfl ?_
  refine x_lcmp hC (zdk dk_X12_floor 2 rfl) (q := 3) rfl ?_
  refine x_if_ne (tgt := 8) hC (zdk dk_X12_floor 3 rfl) (q := 6) rfl rfl (fun _ => ?_) (fun _ => ?_)
  · refine x_lload_n (i := 0) rfl hC (zdk dk_X12_floor 6 rfl) (q := 9) rfl ?_
    refine x_lload_n (i := 2) rfl hC (zdk dk_X12_floor 7 rfl) (q := 10) rfl ?_
    refine x_ldivG hC (zdk dk_X12_floor 8 rfl) (q := 11) rfl ?_
    refine x_lstore (i := 4) (L' := [.long y0, .null, .long y2, .null, .long (y0 / y2), .null]) (by decide) rfl hC (zdk dk_X12_floor 9 rfl) (q := 13) rfl ?_
    refine x_lload_n (i := 0) rfl hC (zdk dk_X12_floor 10 rfl) (q := 14) rfl ?_
    refine x_lload_n (i := 2) rfl hC (zdk dk_X12_floor 11 rfl) (q := 15) rfl ?_
    refine x_lremG hC (zdk dk_X12_floor 12 rfl) (q := 16) rfl ?_
    refine x_lconst (i := 0) c_lconst_0 hC (zdk dk_X12_floor 13 rfl) (q := 17) rfl ?_
    refine x_lcmp hC (zdk dk_X12_floor 14 rfl) (q := 18) rfl ?_
    refine x_if_eq (tgt := 53) hC (zdk dk_X12_floor 15 rfl) (q := 21) rfl rfl (fun _ => ?_) (fun _ => ?_)
    · refine x_weak (L' := [.null, .null, .null, .null, .long (y0 / y2), .null]) ⟨Or.inl rfl, Or.inl rfl, Or.inl rfl, Or.inl rfl, Or.inr rfl, Or.inl rfl, trivial⟩ ?_
      exact x_X12_floor_53 hC hE hk0 _ _
    · refine x_lload_n (i := 0) rfl hC (zdk dk_X12_floor 16 rfl) (q := 22) rfl ?_
      refine x_lconst (i := 0) c_lconst_0 hC (zdk dk_X12_floor 17 rfl) (q := 23) rfl ?_
      refine x_lcmp hC (zdk dk_X12_floor 18 rfl) (q := 24) rfl ?_
      refine x_if_ge (tgt := 31) hC (zdk dk_X12_floor 19 rfl) (q := 27) rfl rfl (fun _ => ?_) (fun _ => ?_)
      · refine x_iconst (i := 0) c_iconst_0 hC (zdk dk_X12_floor 22 rfl) (q := 32) rfl ?_
        refine x_weak (L' := [.null, .null, .long y2, .null, .long (y0 / y2), .null]) ⟨Or.inl rfl, Or.inl rfl, Or.inr rfl, Or.inl rfl, Or.inr rfl, Or.inl rfl, trivial⟩ ?_
        exact x_X12_floor_32 hC hE hk0 _ _ _
      · refine x_iconst (i := 1) c_iconst_1 hC (zdk dk_X12_floor 20 rfl) (q := 28) rfl ?_
        refine x_goto (tgt := 32) hC (zdk dk_X12_floor 21 rfl) rfl ?_
        refine x_weak (L' := [.null, .null, .long y2, .null, .long (y0 / y2), .null]) ⟨Or.inl rfl, Or.inl rfl, Or.inr rfl, Or.inl rfl, Or.inr rfl, Or.inl rfl, trivial⟩ ?_
        exact x_X12_floor_32 hC hE hk0 _ _ _
  · refine x_lconst (i := 0) c_lconst_0 hC (zdk dk_X12_floor 4 rfl) (q := 7) rfl ?_
    exact x_lret hE hC (zdk dk_X12_floor 5 rfl)
set_option maxRecDepth 100000 in
set_option maxHeartbeats 4000000 in
theorem t_X12_floor {n : Nat} {y0 : Int64} {y2 : Int64} {M : Mem}  (x : (Int64 × Mem)) (hx : f_X12_floor y0 y2 M = some x) (l : Launch) (dC : Nat → ClassId) (dI : Nat → Nat → Nat) (b : zSg) : MT l dC dI b yX12_floor cX12_floor 6 (some .long) 0 0 0 n n [.long y0, .long y2] M (emL x).1 (emL x).2 :=
  MT.ofX (by decide +kernel) rfl (Nat.le_of_ble_eq_true rfl) (fun κ hC hF _ => x_X12_floor hC (zEnd_of hF (Nat.le_refl _) (Nat.le_refl _)) (zRk_of hF (Nat.le_refl _) (Nat.le_refl _)) _ _ _ ) x hx
