set_option maxRecDepth 100000 in
def dt_X12_got : List (Nat × Instr × Nat) := [(0, .aload_n 0, 1), (1, .iload_n 1, 1), (2, .invokevirtual 536, 3), (5, .ifCond .ne 5, 3), (8, .iconst (-1), 1), (9, .ireturn, 1), (10, .aload_n 0, 1), (11, .iconst 0, 1), (12, .iload_n 1, 1), (13, .invokevirtual 519, 3), (16, .istore_n 3, 1), (17, .aload_n 0, 1), (18, .getfield 174, 3), (21, .aload_n 0, 1), (22, .getfield 129, 3), (25, .lshr, 1), (26, .lstore 4, 2), (28, .iload_n 2, 1), (29, .tableswitch 123 0 6 #[43, 56, 61, 66, 90, 92, 108], 43), (72, .iload_n 3, 1), (73, .ifCond .le 7, 3), (76, .iconst (-1), 1), (77, .goto 7, 3), (80, .aload_n 0, 1), (81, .getfield 171, 3), (84, .ireturn, 1), (85, .aload_n 0, 1), (86, .getfield 216, 3), (89, .ireturn, 1), (90, .aload_n 0, 1), (91, .getfield 219, 3), (94, .ireturn, 1), (95, .iload_n 3, 1), (96, .ifCond .ne 21, 3), (99, .aload_n 0, 1), (100, .getfield 174, 3), (103, .aload_n 0, 1), (104, .getfield 189, 3), (107, .iload_n 1, 1), (108, .laload, 1), (109, .lcmp, 1), (110, .ifCond .ne 7, 3), (113, .iconst 1, 1), (114, .goto 4, 3), (117, .iconst 0, 1), (118, .ireturn, 1), (119, .iload_n 3, 1), (120, .ireturn, 1), (121, .iload_n 3, 1), (122, .ifCond .le 7, 3), (125, .iconst (-1), 1), (126, .goto 10, 3), (129, .lload 4, 2), (131, .ldc2_w 548, 3), (134, .land, 1), (135, .l2i, 1), (136, .ireturn, 1), (137, .iload_n 3, 1), (138, .ifCond .le 7, 3), (141, .iconst (-1), 1), (142, .goto 9, 3), (145, .lload 4, 2), (147, .bipush 30, 2), (149, .lshr, 1), (150, .l2i, 1), (151, .ireturn, 1), (152, .iconst (-1), 1), (153, .ireturn, 1)]
set_option maxRecDepth 100000 in
theorem dk_X12_got : dt_X12_got.all (fun q => decide (decode cX12_got q.1 = .ok q.2)) = true := by decide +kernel
set_option maxRecDepth 100000 in
def f_X12_got_151  (r0 : Nat) (x1 : Int32) (x2 : Int32) (s0 : Int32) (M : Mem) : Option (Int32 × Mem) := some (s0, M)
set_option maxRecDepth 100000 in
set_option maxHeartbeats 4000000 in
theorem x_X12_got_151 {κ : KX} {n : Nat} (hC : CX κ cX12_got RX12 6 (some .int) 5) (hE : zEnd κ n (0, 0)) (hk0 : zRk κ (0, 0)) {r0 : Nat} {x1 : Int32} {x2 : Int32} (h_r0 : zO n r0 12) (s0 : Int32) (M : Mem) : X κ 6 emI n (0, 0) 151 [.null, .null, .null, .null, .null, .null] [.int s0] M (f_X12_got_151 r0 x1 x2 s0 M) := by
  unfold f_X12_got_151
  exact x_iret (ty := .int) rfl hE hC (zdk dk_X12_got 65 rfl)
set_option maxRecDepth 100000 in
def f_X12_got_136  (r0 : Nat) (x1 : Int32) (x2 : Int32) (s0 : Int32) (M : Mem) : Option (Int32 × Mem) := some (s0, M)
set_option maxRecDepth 100000 in
set_option maxHeartbeats 4000000 in
theorem x_X12_got_136 {κ : KX} {n : Nat} (hC : CX κ cX12_got RX12 6 (some .int) 5) (hE : zEnd κ n (0, 0)) (hk0 : zRk κ (0, 0)) {r0 : Nat} {x1 : Int32} {x2 : Int32} (h_r0 : zO n r0 12) (s0 : Int32) (M : Mem) : X κ 6 emI n (0, 0) 136 [.null, .null, .null, .null, .null, .null] [.int s0] M (f_X12_got_136 r0 x1 x2 s0 M) := by
  unfold f_X12_got_136
  exact x_iret (ty := .int) rfl hE hC (zdk dk_X12_got 56 rfl)
set_option maxRecDepth 100000 in
def f_X12_got_118  (r0 : Nat) (x1 : Int32) (x2 : Int32) (s0 : Int32) (M : Mem) : Option (Int32 × Mem) := some (s0, M)
set_option maxRecDepth 100000 in
set_option maxHeartbeats 4000000 in
theorem x_X12_got_118 {κ : KX} {n : Nat} (hC : CX κ cX12_got RX12 6 (some .int) 5) (hE : zEnd κ n (0, 0)) (hk0 : zRk κ (0, 0)) {r0 : Nat} {x1 : Int32} {x2 : Int32} (h_r0 : zO n r0 12) (s0 : Int32) (M : Mem) : X κ 6 emI n (0, 0) 118 [.null, .null, .null, .null, .null, .null] [.int s0] M (f_X12_got_118 r0 x1 x2 s0 M) := by
  unfold f_X12_got_118
  exact x_iret (ty := .int) rfl hE hC (zdk dk_X12_got 45 rfl)
set_option maxRecDepth 100000 in
def f_X12_got_117  (r0 : Nat) (x1 : Int32) (x2 : Int32)  (M : Mem) : Option (Int32 × Mem) := f_X12_got_118 r0 x1 x2 0 M
set_option maxRecDepth 100000 in
set_option maxHeartbeats 4000000 in
theorem x_X12_got_117 {κ : KX} {n : Nat} (hC : CX κ cX12_got RX12 6 (some .int) 5) (hE : zEnd κ n (0, 0)) (hk0 : zRk κ (0, 0)) {r0 : Nat} {x1 : Int32} {x2 : Int32} (h_r0 : zO n r0 12) (M : Mem) : X κ 6 emI n (0, 0) 117 [.null, .null, .null, .null, .null, .null] [] M (f_X12_got_117 r0 x1 x2 M) := by
  unfold f_X12_got_117
  refine x_iconst (i := 0) c_iconst_0 hC (zdk dk_X12_got 44 rfl) (q := 118) rfl ?_
  refine x_weak (L' := [.null, .null, .null, .null, .null, .null]) ⟨Or.inl rfl, Or.inl rfl, Or.inl rfl, Or.inl rfl, Or.inl rfl, Or.inl rfl, trivial⟩ ?_
  exact x_X12_got_118 hC hE hk0 h_r0 _ _
set_option maxRecDepth 100000 in
def f_X12_got_84  (r0 : Nat) (x1 : Int32) (x2 : Int32) (s0 : Int32) (M : Mem) : Option (Int32 × Mem) := some (s0, M)
set_option maxRecDepth 100000 in
set_option maxHeartbeats 4000000 in
theorem x_X12_got_84 {κ : KX} {n : Nat} (hC : CX κ cX12_got RX12 6 (some .int) 5) (hE : zEnd κ n (0, 0)) (hk0 : zRk κ (0, 0)) {r0 : Nat} {x1 : Int32} {x2 : Int32} (h_r0 : zO n r0 12) (s0 : Int32) (M : Mem) : X κ 6 emI n (0, 0) 84 [.null, .null, .null, .null, .null, .null] [.int s0] M (f_X12_got_84 r0 x1 x2 s0 M) := by
  unfold f_X12_got_84
  exact x_iret (ty := .int) rfl hE hC (zdk dk_X12_got 25 rfl)
set_option maxRecDepth 100000 in
def f_X12_got (r0 : Nat) (x1 : Int32) (x2 : Int32) (M : Mem) : Option (Int32 × Mem) := Option.bind (f_X12_isThere r0 x1 M) fun z1 => (if z1.1 = 0 then some ((-1), z1.2) else Option.bind (f_X12_gets r0 0 x1 z1.2) fun z2 => Option.bind (some ((zL z2.2 r0 53) >>> ((zI z2.2 r0 38).toInt64 &&& 63))) fun (v3 : Int64) => (if x2 = 0 then (if z2.1 ≤ 0 then f_X12_got_84 r0 x1 x2 (zI z2.2 r0 52) z2.2 else f_X12_got_84 r0 x1 x2 ((-1)) z2.2) else if x2 = 1 then some (zI z2.2 r0 67, z2.2) else if x2 = 2 then some (zI z2.2 r0 68, z2.2) else if x2 = 3 then (if z2.1 = 0 then Option.bind (zrf z2.2 r0 58) fun q8 => Option.bind (zld q8 x1) fun k9 => (if lg_cmp (zL z2.2 r0 53) (zL z2.2 q8 k9) = 0 then f_X12_got_118 r0 x1 x2 1 z2.2 else f_X12_got_117 r0 x1 x2 z2.2) else f_X12_got_117 r0 x1 x2 z2.2) else if x2 = 4 then some (z2.1, z2.2) else if x2 = 5 then (if z2.1 ≤ 0 then f_X12_got_136 r0 x1 x2 ((v3 &&& 1073741823).toInt32) z2.2 else f_X12_got_136 r0 x1 x2 ((-1)) z2.2) else if x2 = 6 then (if z2.1 ≤ 0 then f_X12_got_151 r0 x1 x2 ((v3 >>> ((30 : Int32).toInt64 &&& 63)).toInt32) z2.2 else f_X12_got_151 r0 x1 x2 ((-1)) z2.2) else some ((-1), z2.2)))
set_option maxRecDepth 100000 in
set_option maxHeartbeats 4000000 in
theorem x_X12_got {κ : KX} {n : Nat} (hC : CX κ cX12_got RX12 6 (some .int) 5) (hE : zEnd κ n (0, 0)) (hk0 : zRk κ (0, 0)) (r0 : Nat) (x1 : Int32) (x2 : Int32) (M : Mem) (h_r0 : zO n r0 12) : X κ 6 emI n (0, 0) 0 [.ref r0, .int x1, .int x2, .null, .null, .null] [] M (f_X12_got r0 x1 x2 M) := by
  unfold f_X12_got
  refine x_aload_n (i := 0) rfl hC (zdk dk_X12_got 0 rfl) (q := 1) rfl ?_
  refine x_iload_n (i := 1) rfl hC (zdk dk_X12_got 1 rfl) (q := 2) rfl ?_
  refine x_callVi (as := [.int x1]) cb_RX12_536 rfl (by decide) hk0 h_r0 (fun x hx => t_X12_isThere h_r0 x hx) hC (zdk dk_X12_got 2 rfl) (q := 5) rfl rfl (Nat.le_of_ble_eq_true rfl) (fun z1 => ?_)
  refine x_if_ne (tgt := 10) hC (zdk dk_X12_got 3 rfl) (q := 8) rfl rfl (fun _ => ?_) (fun _ => ?_)
  · refine x_aload_n (i := 0) rfl hC (zdk dk_X12_got 6 rfl) (q := 11) rfl ?_
    refine x_iconst (i := 0) c_iconst_0 hC (zdk dk_X12_got 7 rfl) (q := 12) rfl ?_
    refine x_iload_n (i := 1) rfl hC (zdk dk_X12_got 8 rfl) (q := 13) rfl ?_
    refine x_callVi (as := [.int 0, .int x1]) cb_RX12_519 rfl (by decide) hk0 h_r0 (fun x hx => t_X12_gets h_r0 x hx) hC (zdk dk_X12_got 9 rfl) (q := 16) rfl rfl (Nat.le_of_ble_eq_true rfl) (fun z2 => ?_)
    refine x_istore_n (i := 3) (L' := [.ref r0, .int x1, .int x2, .int z2.1, .null, .null]) (by decide) rfl hC (zdk dk_X12_got 10 rfl) (q := 17) rfl ?_
    refine x_aload_n (i := 0) rfl hC (zdk dk_X12_got 11 rfl) (q := 18) rfl ?_
    refine x_getL fl_RX12_174 h_r0 hC (zdk dk_X12_got 12 rfl) (q := 21) rfl ?_
    refine x_aload_n (i := 0) rfl hC (zdk dk_X12_got 13 rfl) (q := 22) rfl ?_
    refine x_getI fl_RX12_129 (by decide) h_r0 hC (zdk dk_X12_got 14 rfl) (q := 25) rfl ?_
    refine x_lshr hC (zdk dk_X12_got 15 rfl) (q := 26) rfl ?_
    refine x_lstore (i := 4) (L' := [.ref r0, .int x1, .int x2, .int z2.1, .long ((zL z2.2 r0 53) >>> ((zI z2.2 r0 38).toInt64 &&& 63)), .null]) (by decide) rfl hC (zdk dk_X12_got 16 rfl) (q := 28) rfl ?_
    refine x_nmJ (fun v3 => [.ref r0, .int x1, .int x2, .int z2.1, .long v3, .null]) rfl (fun v3 => ?_)
    refine x_iload_n (i := 2) rfl hC (zdk dk_X12_got 17 rfl) (q := 29) rfl ?_
    refine x_tsIn (v := 0) (off := 43) (tgt := 72) hC (zdk dk_X12_got 18 rfl) (by decide) ?_ (fun ht4 => ?_)
    · refine x_iload_n (i := 3) rfl hC (zdk dk_X12_got 19 rfl) (q := 73) rfl ?_
      refine x_if_le (tgt := 80) hC (zdk dk_X12_got 20 rfl) (q := 76) rfl rfl (fun _ => ?_) (fun _ => ?_)
      · refine x_aload_n (i := 0) rfl hC (zdk dk_X12_got 23 rfl) (q := 81) rfl ?_
        refine x_getI fl_RX12_171 (by decide) h_r0 hC (zdk dk_X12_got 24 rfl) (q := 84) rfl ?_
        refine x_weak (L' := [.null, .null, .null, .null, .null, .null]) ⟨Or.inl rfl, Or.inl rfl, Or.inl rfl, Or.inl rfl, Or.inl rfl, Or.inl rfl, trivial⟩ ?_
        exact x_X12_got_84 hC hE hk0 h_r0 _ _
      · refine x_iconst (i := (-1)) c_iconst_m1 hC (zdk dk_X12_got 21 rfl) (q := 77) rfl ?_
        refine x_goto (tgt := 84) hC (zdk dk_X12_got 22 rfl) rfl ?_
        refine x_weak (L' := [.null, .null, .null, .null, .null, .null]) ⟨Or.inl rfl, Or.inl rfl, Or.inl rfl, Or.inl rfl, Or.inl rfl, Or.inl rfl, trivial⟩ ?_
        exact x_X12_got_84 hC hE hk0 h_r0 _ _
    refine x_tsIn (v := 1) (off := 56) (tgt := 85) hC (zdk dk_X12_got 18 rfl) (by decide) ?_ (fun ht5 => ?_)
    · refine x_aload_n (i := 0) rfl hC (zdk dk_X12_got 26 rfl) (q := 86) rfl ?_
      refine x_getI fl_RX12_216 (by decide) h_r0 hC (zdk dk_X12_got 27 rfl) (q := 89) rfl ?_
      exact x_iret (ty := .int) rfl hE hC (zdk dk_X12_got 28 rfl)
    refine x_tsIn (v := 2) (off := 61) (tgt := 90) hC (zdk dk_X12_got 18 rfl) (by decide) ?_ (fun ht6 => ?_)
    · refine x_aload_n (i := 0) rfl hC (zdk dk_X12_got 29 rfl) (q := 91) rfl ?_
      refine x_getI fl_RX12_219 (by decide) h_r0 hC (zdk dk_X12_got 30 rfl) (q := 94) rfl ?_
      exact x_iret (ty := .int) rfl hE hC (zdk dk_X12_got 31 rfl)
    refine x_tsIn (v := 3) (off := 66) (tgt := 95) hC (zdk dk_X12_got 18 rfl) (by decide) ?_ (fun ht7 => ?_)
    · refine x_iload_n (i := 3) rfl hC (zdk dk_X12_got 32 rfl) (q := 96) rfl ?_
      refine x_if_ne (tgt := 117) hC (zdk dk_X12_got 33 rfl) (q := 99) rfl rfl (fun _ => ?_) (fun _ => ?_)
      · refine x_weak (L' := [.null, .null, .null, .null, .null, .null]) ⟨Or.inl rfl, Or.inl rfl, Or.inl rfl, Or.inl rfl, Or.inl rfl, Or.inl rfl, trivial⟩ ?_
        exact x_X12_got_117 hC hE hk0 h_r0 _
      · refine x_aload_n (i := 0) rfl hC (zdk dk_X12_got 34 rfl) (q := 100) rfl ?_
        refine x_getL fl_RX12_174 h_r0 hC (zdk dk_X12_got 35 rfl) (q := 103) rfl ?_
        refine x_aload_n (i := 0) rfl hC (zdk dk_X12_got 36 rfl) (q := 104) rfl ?_
        refine x_getR (k := 21) fl_RX12_189 rfl h_r0 hC (zdk dk_X12_got 37 rfl) (q := 107) rfl (fun q8 hq8 => ?_)
        refine x_iload_n (i := 1) rfl hC (zdk dk_X12_got 38 rfl) (q := 108) rfl ?_
        refine x_lald hq8 hC (zdk dk_X12_got 39 rfl) (q := 109) rfl (fun k9 _ => ?_)
        refine x_lcmp hC (zdk dk_X12_got 40 rfl) (q := 110) rfl ?_
        refine x_if_ne (tgt := 117) hC (zdk dk_X12_got 41 rfl) (q := 113) rfl rfl (fun _ => ?_) (fun _ => ?_)
        · refine x_weak (L' := [.null, .null, .null, .null, .null, .null]) ⟨Or.inl rfl, Or.inl rfl, Or.inl rfl, Or.inl rfl, Or.inl rfl, Or.inl rfl, trivial⟩ ?_
          exact x_X12_got_117 hC hE hk0 h_r0 _
        · refine x_iconst (i := 1) c_iconst_1 hC (zdk dk_X12_got 42 rfl) (q := 114) rfl ?_
          refine x_goto (tgt := 118) hC (zdk dk_X12_got 43 rfl) rfl ?_
          refine x_weak (L' := [.null, .null, .null, .null, .null, .null]) ⟨Or.inl rfl, Or.inl rfl, Or.inl rfl, Or.inl rfl, Or.inl rfl, Or.inl rfl, trivial⟩ ?_
          exact x_X12_got_118 hC hE hk0 h_r0 _ _
    refine x_tsIn (v := 4) (off := 90) (tgt := 119) hC (zdk dk_X12_got 18 rfl) (by decide) ?_ (fun ht10 => ?_)
    · refine x_iload_n (i := 3) rfl hC (zdk dk_X12_got 46 rfl) (q := 120) rfl ?_
      exact x_iret (ty := .int) rfl hE hC (zdk dk_X12_got 47 rfl)
    refine x_tsIn (v := 5) (off := 92) (tgt := 121) hC (zdk dk_X12_got 18 rfl) (by decide) ?_ (fun ht11 => ?_)
    · refine x_iload_n (i := 3) rfl hC (zdk dk_X12_got 48 rfl) (q := 122) rfl ?_
      refine x_if_le (tgt := 129) hC (zdk dk_X12_got 49 rfl) (q := 125) rfl rfl (fun _ => ?_) (fun _ => ?_)
      · refine x_lload (i := 4) rfl hC (zdk dk_X12_got 52 rfl) (q := 131) rfl ?_
        refine x_ldc2 k_RX12_548 hC (zdk dk_X12_got 53 rfl) (q := 134) rfl ?_
        refine x_land hC (zdk dk_X12_got 54 rfl) (q := 135) rfl ?_
        refine x_l2i hC (zdk dk_X12_got 55 rfl) (q := 136) rfl ?_
        refine x_weak (L' := [.null, .null, .null, .null, .null, .null]) ⟨Or.inl rfl, Or.inl rfl, Or.inl rfl, Or.inl rfl, Or.inl rfl, Or.inl rfl, trivial⟩ ?_
        exact x_X12_got_136 hC hE hk0 h_r0 _ _
      · refine x_iconst (i := (-1)) c_iconst_m1 hC (zdk dk_X12_got 50 rfl) (q := 126) rfl ?_
        refine x_goto (tgt := 136) hC (zdk dk_X12_got 51 rfl) rfl ?_
        refine x_weak (L' := [.null, .null, .null, .null, .null, .null]) ⟨Or.inl rfl, Or.inl rfl, Or.inl rfl, Or.inl rfl, Or.inl rfl, Or.inl rfl, trivial⟩ ?_
        exact x_X12_got_136 hC hE hk0 h_r0 _ _
    refine x_tsIn (v := 6) (off := 108) (tgt := 137) hC (zdk dk_X12_got 18 rfl) (by decide) ?_ (fun ht12 => ?_)
    · refine x_iload_n (i := 3) rfl hC (zdk dk_X12_got 57 rfl) (q := 138) rfl ?_
      refine x_if_le (tgt := 145) hC (zdk dk_X12_got 58 rfl) (q := 141) rfl rfl (fun _ => ?_) (fun _ => ?_)
      · refine x_lload (i := 4) rfl hC (zdk dk_X12_got 61 rfl) (q := 147) rfl ?_
        refine x_bipush (i := 30) c_bipush_30 hC (zdk dk_X12_got 62 rfl) (q := 149) rfl ?_
        refine x_lshr hC (zdk dk_X12_got 63 rfl) (q := 150) rfl ?_
        refine x_l2i hC (zdk dk_X12_got 64 rfl) (q := 151) rfl ?_
        refine x_weak (L' := [.null, .null, .null, .null, .null, .null]) ⟨Or.inl rfl, Or.inl rfl, Or.inl rfl, Or.inl rfl, Or.inl rfl, Or.inl rfl, trivial⟩ ?_
        exact x_X12_got_151 hC hE hk0 h_r0 _ _
      · refine x_iconst (i := (-1)) c_iconst_m1 hC (zdk dk_X12_got 59 rfl) (q := 142) rfl ?_
        refine x_goto (tgt := 151) hC (zdk dk_X12_got 60 rfl) rfl ?_
        refine x_weak (L' := [.null, .null, .null, .null, .null, .null]) ⟨Or.inl rfl, Or.inl rfl, Or.inl rfl, Or.inl rfl, Or.inl rfl, Or.inl rfl, trivial⟩ ?_
        exact x_X12_got_151 hC hE hk0 h_r0 _ _
    refine x_tsOut (tgt := 152) [0, 1, 2, 3, 4, 5, 6] hC (zdk dk_X12_got 18 rfl) (List.forall_mem_cons.2 ⟨ht4, (List.forall_mem_cons.2 ⟨ht5, (List.forall_mem_cons.2 ⟨ht6, (List.forall_mem_cons.2 ⟨ht7, (List.forall_mem_cons.2 ⟨ht10, (List.forall_mem_cons.2 ⟨ht11, (List.forall_mem_cons.2 ⟨ht12, (fun _ h => absurd h List.not_mem_nil)⟩)⟩)⟩)⟩)⟩)⟩)⟩) (by decide) rfl ?_
    refine x_iconst (i := (-1)) c_iconst_m1 hC (zdk dk_X12_got 66 rfl) (q := 153) rfl ?_
    exact x_iret (ty := .int) rfl hE hC (zdk dk_X12_got 67 rfl)
  · refine x_iconst (i := (-1)) c_iconst_m1 hC (zdk dk_X12_got 4 rfl) (q := 9) rfl ?_
    exact x_iret (ty := .int) rfl hE hC (zdk dk_X12_got 5 rfl)
set_option maxRecDepth 100000 in
set_option maxHeartbeats 4000000 in
theorem t_X12_got {n : Nat} {r0 : Nat} {x1 : Int32} {x2 : Int32} {M : Mem} (h_r0 : zO n r0 12) (x : (Int32 × Mem)) (hx : f_X12_got r0 x1 x2 M = some x) (l : Launch) (dC : Nat → ClassId) (dI : Nat → Nat → Nat) (b : zSg) : MT l dC dI b yX12_got cX12_got 6 (some .int) 5 0 0 n n [.ref r0, .int x1, .int x2] M (emI x).1 (emI x).2 :=
  MT.ofX (by decide +kernel) rfl (Nat.le_of_ble_eq_true rfl) (fun κ hC hF _ => x_X12_got hC (zEnd_of hF (Nat.le_refl _) (Nat.le_refl _)) (zRk_of hF (Nat.le_refl _) (Nat.le_refl _)) _ _ _ _ h_r0) x hx
set_option maxRecDepth 100000 in
def dt_X12_span : List (Nat × Instr × Nat) := [(0, .aload_n 0, 1), (1, .iload_n 1, 1), (2, .invokevirtual 536, 3), (5, .ifCond .eq 12, 3), (8, .iload_n 2, 1), (9, .iconst 0, 1), (10, .iconst 1, 1), (11, .invokestatic 325, 3), (14, .ifCond .ne 5, 3), (17, .iconst (-1), 1), (18, .ireturn, 1), (19, .iconst 1, 1), (20, .istore_n 3, 1), (21, .iload_n 3, 1), (22, .bipush 99, 2), (24, .if_icmp .gt 56, 3), (27, .iload_n 2, 1), (28, .ifCond .ne 7, 3), (31, .iload_n 3, 1), (32, .goto 7, 3), (35, .bipush 100, 2), (37, .iload_n 3, 1), (38, .isub, 1), (39, .istore 4, 2), (41, .aload_n 0, 1), (42, .aload_n 0, 1), (43, .iconst 0, 1), (44, .iload_n 1, 1), (45, .iload 4, 2), (47, .iconst 0, 1), (48, .invokevirtual 512, 3), (51, .invokevirtual 470, 3), (54, .ifCond .ne 20, 3), (57, .aload_n 0, 1), (58, .getfield 174, 3), (61, .aload_n 0, 1), (62, .getfield 189, 3), (65, .iload_n 1, 1), (66, .laload, 1), (67, .lcmp, 1), (68, .ifCond .ne 6, 3), (71, .iload 4, 2), (73, .ireturn, 1), (74, .iinc 3 1, 3), (77, .goto (-56), 3), (80, .iconst (-1), 1), (81, .ireturn, 1)]
set_option maxRecDepth 100000 in
theorem dk_X12_span : dt_X12_span.all (fun q => decide (decode cX12_span q.1 = .ok q.2)) = true := by decide +kernel
set_option maxRecDepth 100000 in
def f_X12_span_17  (r0 : Nat) (x1 : Int32) (x2 : Int32)  (M : Mem) : Option (Int32 × Mem) := some ((-1), M)
set_option maxRecDepth 100000 in
set_option maxHeartbeats 4000000 in
theorem x_X12_span_17 {κ : KX} {n : Nat} (hC : CX κ cX12_span RX12 5 (some .int) 4) (hE : zEnd κ n (0, 0)) (hk0 : zRk κ (0, 0)) {r0 : Nat} {x1 : Int32} {x2 : Int32} (h_r0 : zO n r0 12) (M : Mem) : X κ 5 emI n (0, 0) 17 [.null, .null, .null, .null, .null] [] M (f_X12_span_17 r0 x1 x2 M) := by
  unfold f_X12_span_17
  refine x_iconst (i := (-1)) c_iconst_m1 hC (zdk dk_X12_span 9 rfl) (q := 18) rfl ?_
  exact x_iret (ty := .int) rfl hE hC (zdk dk_X12_span 10 rfl)
set_option maxRecDepth 100000 in
def f_X12_span_74 (k21 : Int32 → Mem → Option (Int32 × Mem)) (r0 : Nat) (x1 : Int32) (x2 : Int32) (x3 : Int32) (M : Mem) : Option (Int32 × Mem) := k21 (x3 + 1) M
set_option maxRecDepth 100000 in
set_option maxHeartbeats 4000000 in
theorem x_X12_span_74 {κ : KX} {n : Nat} (hC : CX κ cX12_span RX12 5 (some .int) 4) (hE : zEnd κ n (0, 0)) (hk0 : zRk κ (0, 0)) {r0 : Nat} {x1 : Int32} {x2 : Int32} (h_r0 : zO n r0 12) (k21 : Int32 → Mem → Option (Int32 × Mem)) (hk21 : ∀ (x3 : Int32) (M : Mem), X κ 5 emI n (0, 0) 21 [.ref r0, .int x1, .int x2, .int x3, .null] [] M (k21 x3 M)) (x3 : Int32) (M : Mem) : X κ 5 emI n (0, 0) 74 [.ref r0, .int x1, .int x2, .int x3, .null] [] M (f_X12_span_74 k21 r0 x1 x2 x3 M) := by
  unfold f_X12_span_74
  refine x_iinc (i := 3) c_iconst_1 rfl (by decide) (L' := [.ref r0, .int x1, .int x2, .int (x3 + 1), .null]) rfl hC (zdk dk_X12_span 43 rfl) (q := 77) rfl ?_
  refine x_goto (tgt := 21) hC (zdk dk_X12_span 44 rfl) rfl ?_
  refine x_weak (L' := [.ref r0, .int x1, .int x2, .int (x3 + 1), .null]) ⟨Or.inr rfl, Or.inr rfl, Or.inr rfl, Or.inr rfl, Or.inl rfl, trivial⟩ ?_
  exact hk21 _ _
set_option maxRecDepth 100000 in
def f_X12_span_39 (k21 : Int32 → Mem → Option (Int32 × Mem)) (r0 : Nat) (x1 : Int32) (x2 : Int32) (x3 : Int32) (s0 : Int32) (M : Mem) : Option (Int32 × Mem) := Option.bind (f_X12_bitsBy r0 0 x1 s0 0 M) fun z1 => Option.bind (f_X12_readsBits r0 z1.1 z1.2) fun z2 => (if z2.1 = 0 then Option.bind (zrf z2.2 r0 58) fun q3 => Option.bind (zld q3 x1) fun k4 => (if lg_cmp (zL z2.2 r0 53) (zL z2.2 q3 k4) = 0 then some (s0, z2.2) else f_X12_span_74 k21 r0 x1 x2 x3 z2.2) else f_X12_span_74 k21 r0 x1 x2 x3 z2.2)
set_option maxRecDepth 100000 in
set_option maxHeartbeats 4000000 in
theorem x_X12_span_39 {κ : KX} {n : Nat} (hC : CX κ cX12_span RX12 5 (some .int) 4) (hE : zEnd κ n (0, 0)) (hk0 : zRk κ (0, 0)) {r0 : Nat} {x1 : Int32} {x2 : Int32} (h_r0 : zO n r0 12) (k21 : Int32 → Mem → Option (Int32 × Mem)) (hk21 : ∀ (x3 : Int32) (M : Mem), X κ 5 emI n (0, 0) 21 [.ref r0, .int x1, .int x2, .int x3, .null] [] M (k21 x3 M)) (x3 : Int32) (s0 : Int32) (M : Mem) : X κ 5 emI n (0, 0) 39 [.ref r0, .int x1, .int x2, .int x3, .null] [.int s0] M (f_X12_span_39 k21 r0 x1 x2 x3 s0 M) := by
  unfold f_X12_span_39
  refine x_istore (i := 4) (L' := [.ref r0, .int x1, .int x2, .int x3, .int s0]) (by decide) rfl hC (zdk dk_X12_span 23 rfl) (q := 41) rfl ?_
  refine x_aload_n (i := 0) rfl hC (zdk dk_X12_span 24 rfl) (q := 42) rfl ?_
  refine x_aload_n (i := 0) rfl hC (zdk dk_X12_span 25 rfl) (q := 43) rfl ?_
  refine x_iconst (i := 0) c_iconst_0 hC (zdk dk_X12_span 26 rfl) (q := 44) rfl ?_
  refine x_iload_n (i := 1) rfl hC (zdk dk_X12_span 27 rfl) (q := 45) rfl ?_
  refine x_iload (i := 4) rfl hC (zdk dk_X12_span 28 rfl) (q := 47) rfl ?_
  refine x_iconst (i := 0) c_iconst_0 hC (zdk dk_X12_span 29 rfl) (q := 48) rfl ?_
  refine x_callVl (as := [.int 0, .int x1, .int s0, .int 0]) cb_RX12_512 rfl (by decide) hk0 h_r0 (fun x hx => t_X12_bitsBy h_r0 x hx) hC (zdk dk_X12_span 30 rfl) (q := 51) rfl rfl (Nat.le_of_ble_eq_true rfl) (fun z1 => ?_)
  refine x_callVi (as := [.long z1.1]) cb_RX12_470 rfl (by decide) hk0 h_r0 (fun x hx => t_X12_readsBits h_r0 x hx) hC (zdk dk_X12_span 31 rfl) (q := 54) rfl rfl (Nat.le_of_ble_eq_true rfl) (fun z2 => ?_)
  refine x_if_ne (tgt := 74) hC (zdk dk_X12_span 32 rfl) (q := 57) rfl rfl (fun _ => ?_) (fun _ => ?_)
  · refine x_weak (L' := [.ref r0, .int x1, .int x2, .int x3, .null]) ⟨Or.inr rfl, Or.inr rfl, Or.inr rfl, Or.inr rfl, Or.inl rfl, trivial⟩ ?_
    exact x_X12_span_74 hC hE hk0 h_r0 k21 hk21 _ _
  · refine x_aload_n (i := 0) rfl hC (zdk dk_X12_span 33 rfl) (q := 58) rfl ?_
    refine x_getL fl_RX12_174 h_r0 hC (zdk dk_X12_span 34 rfl) (q := 61) rfl ?_
    refine x_aload_n (i := 0) rfl hC (zdk dk_X12_span 35 rfl) (q := 62) rfl ?_
    refine x_getR (k := 21) fl_RX12_189 rfl h_r0 hC (zdk dk_X12_span 36 rfl) (q := 65) rfl (fun q3 hq3 => ?_)
    refine x_iload_n (i := 1) rfl hC (zdk dk_X12_span 37 rfl) (q := 66) rfl ?_
    refine x_lald hq3 hC (zdk dk_X12_span 38 rfl) (q := 67) rfl (fun k4 _ => ?_)
    refine x_lcmp hC (zdk dk_X12_span 39 rfl) (q := 68) rfl ?_
    refine x_if_ne (tgt := 74) hC (zdk dk_X12_span 40 rfl) (q := 71) rfl rfl (fun _ => ?_) (fun _ => ?_)
    · refine x_weak (L' := [.ref r0, .int x1, .int x2, .int x3, .null]) ⟨Or.inr rfl, Or.inr rfl, Or.inr rfl, Or.inr rfl, Or.inl rfl, trivial⟩ ?_
      exact x_X12_span_74 hC hE hk0 h_r0 k21 hk21 _ _
    · refine x_iload (i := 4) rfl hC (zdk dk_X12_span 41 rfl) (q := 73) rfl ?_
      exact x_iret (ty := .int) rfl hE hC (zdk dk_X12_span 42 rfl)
set_option maxRecDepth 100000 in
def f_X12_span_21  (r0 : Nat) (x1 : Int32) (x2 : Int32) : Nat → Int32 → Mem → Option (Int32 × Mem)
  | 0, _, _ => none
  | f + 1, x3, M => (if 99 < x3 then some ((-1), M) else (if x2 = 0 then f_X12_span_39 (f_X12_span_21 r0 x1 x2 f) r0 x1 x2 x3 x3 M else f_X12_span_39 (f_X12_span_21 r0 x1 x2 f) r0 x1 x2 x3 (100 - x3) M))
set_option maxRecDepth 100000 in
set_option maxHeartbeats 4000000 in
theorem x_X12_span_21 {κ : KX} {n : Nat} (hC : CX κ cX12_span RX12 5 (some .int) 4) (hE : zEnd κ n (0, 0)) (hk0 : zRk κ (0, 0)) {r0 : Nat} {x1 : Int32} {x2 : Int32} (h_r0 : zO n r0 12) : ∀ (f : Nat) (x3 : Int32) (M : Mem), X κ 5 emI n (0, 0) 21 [.ref r0, .int x1, .int x2, .int x3, .null] [] M (f_X12_span_21 r0 x1 x2 f x3 M) := by
  intro f
  induction f with
  | zero => intros; exact x_none
  | succ f ih =>
    intro x3 M 
    rw [f_X12_span_21]
    refine x_iload_n (i := 3) rfl hC (zdk dk_X12_span 13 rfl) (q := 22) rfl ?_
    refine x_bipush (i := 99) c_bipush_99 hC (zdk dk_X12_span 14 rfl) (q := 24) rfl ?_
    refine x_icmp_gt (tgt := 80) hC (zdk dk_X12_span 15 rfl) (q := 27) rfl rfl (fun _ => ?_) (fun _ => ?_)
    · refine x_iconst (i := (-1)) c_iconst_m1 hC (zdk dk_X12_span 45 rfl) (q := 81) rfl ?_
      exact x_iret (ty := .int) rfl hE hC (zdk dk_X12_span 46 rfl)
    · refine x_iload_n (i := 2) rfl hC (zdk dk_X12_span 16 rfl) (q := 28) rfl ?_
      refine x_if_ne (tgt := 35) hC (zdk dk_X12_span 17 rfl) (q := 31) rfl rfl (fun _ => ?_) (fun _ => ?_)
      · refine x_bipush (i := 100) c_bipush_100 hC (zdk dk_X12_span 20 rfl) (q := 37) rfl ?_
        refine x_iload_n (i := 3) rfl hC (zdk dk_X12_span 21 rfl) (q := 38) rfl ?_
        refine x_isub hC (zdk dk_X12_span 22 rfl) (q := 39) rfl ?_
        refine x_weak (L' := [.ref r0, .int x1, .int x2, .int x3, .null]) ⟨Or.inr rfl, Or.inr rfl, Or.inr rfl, Or.inr rfl, Or.inl rfl, trivial⟩ ?_
        exact x_X12_span_39 hC hE hk0 h_r0 (f_X12_span_21 r0 x1 x2 f) ih _ _ _
      · refine x_iload_n (i := 3) rfl hC (zdk dk_X12_span 18 rfl) (q := 32) rfl ?_
        refine x_goto (tgt := 39) hC (zdk dk_X12_span 19 rfl) rfl ?_
        refine x_weak (L' := [.ref r0, .int x1, .int x2, .int x3, .null]) ⟨Or.inr rfl, Or.inr rfl, Or.inr rfl, Or.inr rfl, Or.inl rfl, trivial⟩ ?_
        exact x_X12_span_39 hC hE hk0 h_r0 (f_X12_span_21 r0 x1 x2 f) ih _ _ _
set_option maxRecDepth 100000 in
def f_X12_span (r0 : Nat) (x1 : Int32) (x2 : Int32) (M : Mem) : Option (Int32 × Mem) := Option.bind (f_X12_isThere r0 x1 M) fun z5 => (if z5.1 = 0 then f_X12_span_17 r0 x1 x2 z5.2 else Option.bind (f_X12_is x2 0 1 z5.2) fun z6 => (if z6.1 = 0 then f_X12_span_17 r0 x1 x2 z6.2 else f_X12_span_21 r0 x1 x2 1000000 1 z6.2))
set_option maxRecDepth 100000 in
set_option maxHeartbeats 4000000 in
theorem x_X12_span {κ : KX} {n : Nat} (hC : CX κ cX12_span RX12 5 (some .int) 4) (hE : zEnd κ n (0, 0)) (hk0 : zRk κ (0, 0)) (r0 : Nat) (x1 : Int32) (x2 : Int32) (M : Mem) (h_r0 : zO n r0 12) : X κ 5 emI n (0, 0) 0 [.ref r0, .int x1, .int x2, .null, .null] [] M (f_X12_span r0 x1 x2 M) := by
  unfold f_X12_span
  refine x_aload_n (i := 0) rfl hC (zdk dk_X12_span 0 rfl) (q := 1) rfl ?_
  refine x_iload_n (i := 1) rfl hC (zdk dk_X12_span 1 rfl) (q := 2) rfl ?_
  refine x_callVi (as := [.int x1]) cb_RX12_536 rfl (by decide) hk0 h_r0 (fun x hx => t_X12_isThere h_r0 x hx) hC (zdk dk_X12_span 2 rfl) (q := 5) rfl rfl (Nat.le_of_ble_eq_true rfl) (fun z5 => ?_)
  refine x_if_eq (tgt := 17) hC (zdk dk_X12_span 3 rfl) (q := 8) rfl rfl (fun _ => ?_) (fun _ => ?_)
  · refine x_weak (L' := [.null, .null, .null, .null, .null]) ⟨Or.inl rfl, Or.inl rfl, Or.inl rfl, Or.inl rfl, Or.inl rfl, trivial⟩ ?_
    exact x_X12_span_17 hC hE hk0 h_r0 _
  · refine x_iload_n (i := 2) rfl hC (zdk dk_X12_span 4 rfl) (q := 9) rfl ?_
    refine x_iconst (i := 0) c_iconst_0 hC (zdk dk_X12_span 5 rfl) (q := 10) rfl ?_
    refine x_iconst (i := 1) c_iconst_1 hC (zdk dk_X12_span 6 rfl) (q := 11) rfl ?_
    refine x_callSi (as := [.int x2, .int 0, .int 1]) cb_RX12_325 rfl (by decide) hk0 (fun x hx => t_X12_is  x hx) hC (zdk dk_X12_span 7 rfl) (q := 14) rfl rfl (Nat.le_of_ble_eq_true rfl) (fun z6 => ?_)
    refine x_if_ne (tgt := 19) hC (zdk dk_X12_span 8 rfl) (q := 17) rfl rfl (fun _ => ?_) (fun _ => ?_)
    · refine x_iconst (i := 1) c_iconst_1 hC (zdk dk_X12_span 11 rfl) (q := 20) rfl ?_
      refine x_istore_n (i := 3) (L' := [.ref r0, .int x1, .int x2, .int 1, .null]) (by decide) rfl hC (zdk dk_X12_span 12 rfl) (q := 21) rfl ?_
      refine x_weak (L' := [.ref r0, .int x1, .int x2, .int 1, .null]) ⟨Or.inr rfl, Or.inr rfl, Or.inr rfl, Or.inr rfl, Or.inl rfl, trivial⟩ ?_
      exact x_X12_span_21 hC hE hk0 h_r0 _ _ _
    · refine x_weak (L' := [.null, .null, .null, .null, .null]) ⟨Or.inl rfl, Or.inl rfl, Or.inl rfl, Or.inl rfl, Or.inl rfl, trivial⟩ ?_
      exact x_X12_span_17 hC hE hk0 h_r0 _
set_option maxRecDepth 100000 in
set_option maxHeartbeats 4000000 in
theorem t_X12_span {n : Nat} {r0 : Nat} {x1 : Int32} {x2 : Int32} {M : Mem} (h_r0 : zO n r0 12) (x : (Int32 × Mem)) (hx : f_X12_span r0 x1 x2 M = some x) (l : Launch) (dC : Nat → ClassId) (dI : Nat → Nat → Nat) (b : zSg) : MT l dC dI b yX12_span cX12_span 5 (some .int) 4 0 0 n n [.ref r0, .int x1, .int x2] M (emI x).1 (emI x).2 :=
  MT.ofX (by decide +kernel) rfl (Nat.le_of_ble_eq_true rfl) (fun κ hC hF _ => x_X12_span hC (zEnd_of hF (Nat.le_refl _) (Nat.le_refl _)) (zRk_of hF (Nat.le_refl _) (Nat.le_refl _)) _ _ _ _ h_r0) x hx
set_option maxRecDepth 100000 in
def dt_X12_lost : List (Nat × Instr × Nat) := [(0, .aload_n 0, 1), (1, .iload_n 1, 1), (2, .invokevirtual 536, 3), (5, .ifCond .ne 5, 3), (8, .iconst (-1), 1), (9, .ireturn, 1), (10, .aload_n 0, 1), (11, .iconst 1, 1), (12, .iconst 0, 1), (13, .invokevirtual 479, 3), (16, .iconst 0, 1), (17, .istore_n 2, 1), (18, .aload_n 0, 1), (19, .iload_n 2, 1), (20, .iconst 0, 1), (21, .bipush 40, 2), (23, .invokevirtual 539, 3), (26, .ifCond .eq 25, 3), (29, .aload_n 0, 1), (30, .iconst 1, 1), (31, .iload_n 1, 1), (32, .invokevirtual 531, 3), (35, .ifCond .ne 5, 3), (38, .iload_n 2, 1), (39, .ireturn, 1), (40, .aload_n 0, 1), (41, .iconst 1, 1), (42, .invokevirtual 542, 3), (45, .iinc 2 1, 3), (48, .goto (-30), 3), (51, .iconst (-1), 1), (52, .ireturn, 1)]
set_option maxRecDepth 100000 in
theorem dk_X12_lost : dt_X12_lost.all (fun q => decide (decode cX12_lost q.1 = .ok q.2)) = true := by decide +kernel
set_option maxRecDepth 100000 in
def f_X12_lost_18  (r0 : Nat) (x1 : Int32) : Nat → Int32 → Mem → Option (Int32 × Mem)
  | 0, _, _ => none
  | f + 1, x2, M => Option.bind (f_X12_isAhead r0 x2 0 40 M) fun z1 => (if z1.1 = 0 then some ((-1), z1.2) else Option.bind (f_X12_isTrue r0 1 x1 z1.2) fun z2 => (if z2.1 = 0 then some (x2, z2.2) else Option.bind (f_X12_passes r0 1 z2.2) fun M3 => (f_X12_lost_18 r0 x1 f) (x2 + 1) M3))
set_option maxRecDepth 100000 in
set_option maxHeartbeats 4000000 in
theorem x_X12_lost_18 {κ : KX} {n : Nat} (hC : CX κ cX12_lost RX12 3 (some .int) 6) (hE : zEnd κ n (0, 0)) (hk0 : zRk κ (0, 0)) {r0 : Nat} {x1 : Int32} (h_r0 : zO n r0 12) : ∀ (f : Nat) (x2 : Int32) (M : Mem), X κ 3 emI n (0, 0) 18 [.ref r0, .int x1, .int x2] [] M (f_X12_lost_18 r0 x1 f x2 M) := by
  intro f
  induction f with
  | zero => intros; exact x_none
  | succ f ih =>
    intro x2 M 
    rw [f_X12_lost_18]
    refine x_aload_n (i := 0) rfl hC (zdk dk_X12_lost 12 rfl) (q := 19) rfl ?_
    refine x_iload_n (i := 2) rfl hC (zdk dk_X12_lost 13 rfl) (q := 20) rfl ?_
    refine x_iconst (i := 0) c_iconst_0 hC (zdk dk_X12_lost 14 rfl) (q := 21) rfl ?_
    refine x_bipush (i := 40) c_bipush_40 hC (zdk dk_X12_lost 15 rfl) (q := 23) rfl ?_
    refine x_callVi (as := [.int x2, .int 0, .int 40]) cb_RX12_539 rfl (by decide) hk0 h_r0 (fun x hx => t_X12_isAhead h_r0 x hx) hC (zdk dk_X12_lost 16 rfl) (q := 26) rfl rfl (Nat.le_of_ble_eq_true rfl) (fun z1 => ?_)
    refine x_if_eq (tgt := 51) hC (zdk dk_X12_lost 17 rfl) (q := 29) rfl rfl (fun _ => ?_) (fun _ => ?_)
    · refine x_iconst (i := (-1)) c_iconst_m1 hC (zdk dk_X12_lost 30 rfl) (q := 52) rfl ?_
      exact x_iret (ty := .int) rfl hE hC (zdk dk_X12_lost 31 rfl)
    · refine x_aload_n (i := 0) rfl hC (zdk dk_X12_lost 18 rfl) (q := 30) rfl ?_
      refine x_iconst (i := 1) c_iconst_1 hC (zdk dk_X12_lost 19 rfl) (q := 31) rfl ?_
      refine x_iload_n (i := 1) rfl hC (zdk dk_X12_lost 20 rfl) (q := 32) rfl ?_
      refine x_callVi (as := [.int 1, .int x1]) cb_RX12_531 rfl (by decide) hk0 h_r0 (fun x hx => t_X12_isTrue h_r0 x hx) hC (zdk dk_X12_lost 21 rfl) (q := 35) rfl rfl (Nat.le_of_ble_eq_true rfl) (fun z2 => ?_)
      refine x_if_ne (tgt := 40) hC (zdk dk_X12_lost 22 rfl) (q := 38) rfl rfl (fun _ => ?_) (fun _ => ?_)
      · refine x_aload_n (i := 0) rfl hC (zdk dk_X12_lost 25 rfl) (q := 41) rfl ?_
        refine x_iconst (i := 1) c_iconst_1 hC (zdk dk_X12_lost 26 rfl) (q := 42) rfl ?_
        refine x_callVv (as := [.int 1]) cb_RX12_542 rfl (by decide) hk0 h_r0 (fun x hx => t_X12_passes h_r0 x hx) hC (zdk dk_X12_lost 27 rfl) (q := 45) rfl rfl (Nat.le_of_ble_eq_true rfl) (fun M3 => ?_)
        refine x_iinc (i := 2) c_iconst_1 rfl (by decide) (L' := [.ref r0, .int x1, .int (x2 + 1)]) rfl hC (zdk dk_X12_lost 28 rfl) (q := 48) rfl ?_
        refine x_goto (tgt := 18) hC (zdk dk_X12_lost 29 rfl) rfl ?_
        refine x_weak (L' := [.ref r0, .int x1, .int (x2 + 1)]) ⟨Or.inr rfl, Or.inr rfl, Or.inr rfl, trivial⟩ ?_
        exact ih _ _
      · refine x_iload_n (i := 2) rfl hC (zdk dk_X12_lost 23 rfl) (q := 39) rfl ?_
        exact x_iret (ty := .int) rfl hE hC (zdk dk_X12_lost 24 rfl)
set_option maxRecDepth 100000 in
def f_X12_lost (r0 : Nat) (x1 : Int32) (M : Mem) : Option (Int32 × Mem) := Option.bind (f_X12_isThere r0 x1 M) fun z4 => (if z4.1 = 0 then some ((-1), z4.2) else Option.bind (f_X12_copies r0 1 0 z4.2) fun M5 => f_X12_lost_18 r0 x1 1000000 0 M5)
set_option maxRecDepth 100000 in
set_option maxHeartbeats 4000000 in
theorem x_X12_lost {κ : KX} {n : Nat} (hC : CX κ cX12_lost RX12 3 (some .int) 6) (hE : zEnd κ n (0, 0)) (hk0 : zRk κ (0, 0)) (r0 : Nat) (x1 : Int32) (M : Mem) (h_r0 : zO n r0 12) : X κ 3 emI n (0, 0) 0 [.ref r0, .int x1, .null] [] M (f_X12_lost r0 x1 M) := by
  unfold f_X12_lost
  refine x_aload_n (i := 0) rfl hC (zdk dk_X12_lost 0 rfl) (q := 1) rfl ?_
  refine x_iload_n (i := 1) rfl hC (zdk dk_X12_lost 1 rfl) (q := 2) rfl ?_
  refine x_callVi (as := [.int x1]) cb_RX12_536 rfl (by decide) hk0 h_r0 (fun x hx => t_X12_isThere h_r0 x hx) hC (zdk dk_X12_lost 2 rfl) (q := 5) rfl rfl (Nat.le_of_ble_eq_true rfl) (fun z4 => ?_)
  refine x_if_ne (tgt := 10) hC (zdk dk_X12_lost 3 rfl) (q := 8) rfl rfl (fun _ => ?_) (fun _ => ?_)
  · refine x_aload_n (i := 0) rfl hC (zdk dk_X12_lost 6 rfl) (q := 11) rfl ?_
    refine x_iconst (i := 1) c_iconst_1 hC (zdk dk_X12_lost 7 rfl) (q := 12) rfl ?_
    refine x_iconst (i := 0) c_iconst_0 hC (zdk dk_X12_lost 8 rfl) (q := 13) rfl ?_
    refine x_callVv (as := [.int 1, .int 0]) cb_RX12_479 rfl (by decide) hk0 h_r0 (fun x hx => t_X12_copies h_r0 x hx) hC (zdk dk_X12_lost 9 rfl) (q := 16) rfl rfl (Nat.le_of_ble_eq_true rfl) (fun M5 => ?_)
    refine x_iconst (i := 0) c_iconst_0 hC (zdk dk_X12_lost 10 rfl) (q := 17) rfl ?_
    refine x_istore_n (i := 2) (L' := [.ref r0, .int x1, .int 0]) (by decide) rfl hC (zdk dk_X12_lost 11 rfl) (q := 18) rfl ?_
    refine x_weak (L' := [.ref r0, .int x1, .int 0]) ⟨Or.inr rfl, Or.inr rfl, Or.inr rfl, trivial⟩ ?_
    exact x_X12_lost_18 hC hE hk0 h_r0 _ _ _
  · refine x_iconst (i := (-1)) c_iconst_m1 hC (zdk dk_X12_lost 4 rfl) (q := 9) rfl ?_
    exact x_iret (ty := .int) rfl hE hC (zdk dk_X12_lost 5 rfl)
set_option maxRecDepth 100000 in
set_option maxHeartbeats 4000000 in
theorem t_X12_lost {n : Nat} {r0 : Nat} {x1 : Int32} {M : Mem} (h_r0 : zO n r0 12) (x : (Int32 × Mem)) (hx : f_X12_lost r0 x1 M = some x) (l : Launch) (dC : Nat → ClassId) (dI : Nat → Nat → Nat) (b : zSg) : MT l dC dI b yX12_lost cX12_lost 3 (some .int) 6 0 0 n n [.ref r0, .int x1] M (emI x).1 (emI x).2 :=
  MT.ofX (by decide +kernel) rfl (Nat.le_of_ble_eq_true rfl) (fun κ hC hF _ => x_X12_lost hC (zEnd_of hF (Nat.le_refl _) (Nat.le_refl _)) (zRk_of hF (Nat.le_refl _) (Nat.le_refl _)) _ _ _ h_r0) x hx
set_option maxRecDepth 100000 in
def dt_X12_odds : List (Nat × Instr × Nat) := [(0, .aload_n 0, 1), (1, .iconst 1, 1), (2, .iconst 1, 1), (3, .iconst 1, 1), (4, .invokevirtual 539, 3), (7, .ifCond .eq 16, 3), (10, .iload_n 1, 1), (11, .iconst (-1), 1), (12, .if_icmp .eq 13, 3), (15, .aload_n 0, 1), (16, .iload_n 1, 1), (17, .invokevirtual 536, 3), (20, .ifCond .ne 5, 3), (23, .iconst (-1), 1), (24, .ireturn, 1), (25, .iload_n 1, 1), (26, .iconst (-1), 1), (27, .if_icmp .ne 11, 3), (30, .bipush 100, 2), (32, .aload_n 0, 1), (33, .getfield 132, 3), (36, .imul, 1), (37, .ireturn, 1), (38, .aload_n 0, 1), (39, .iconst 1, 1), (40, .iconst 0, 1), (41, .invokevirtual 479, 3), (44, .aload_n 0, 1), (45, .iconst 1, 1), (46, .invokevirtual 542, 3), (49, .aload_n 0, 1), (50, .iconst 1, 1), (51, .iload_n 1, 1), (52, .invokevirtual 531, 3), (55, .ifCond .eq 20, 3), (58, .bipush 100, 2), (60, .aload_n 0, 1), (61, .bipush 8, 2), (63, .invokevirtual 428, 3), (66, .isub, 1), (67, .aload_n 0, 1), (68, .getfield 132, 3), (71, .imul, 1), (72, .goto 4, 3), (75, .iconst 0, 1), (76, .istore_n 2, 1), (77, .iconst 0, 1), (78, .istore_n 3, 1), (79, .iload_n 3, 1), (80, .aload_n 0, 1), (81, .getfield 132, 3), (84, .if_icmp .ge 61, 3), (87, .aload_n 0, 1), (88, .iconst 1, 1), (89, .iload_n 1, 1), (90, .iload_n 3, 1), (91, .invokevirtual 500, 3), (94, .istore 4, 2), (96, .aload_n 0, 1), (97, .iconst 1, 1), (98, .iload_n 1, 1), (99, .iload_n 3, 1), (100, .bipush 99, 2), (102, .iload 4, 2), (104, .isub, 1), (105, .invokevirtual 522, 3), (108, .iload_n 2, 1), (109, .aload_n 0, 1), (110, .iconst 1, 1), (111, .iload_n 1, 1), (112, .invokevirtual 531, 3), (115, .ifCond .eq 12, 3), (118, .aload_n 0, 1), (119, .bipush 8, 2), (121, .invokevirtual 428, 3), (124, .goto 4, 3), (127, .iconst 0, 1), (128, .iadd, 1), (129, .istore_n 2, 1), (130, .aload_n 0, 1), (131, .iconst 1, 1), (132, .iload_n 1, 1), (133, .iload_n 3, 1), (134, .iload 4, 2), (136, .invokevirtual 522, 3), (139, .iinc 3 1, 3), (142, .goto (-63), 3), (145, .iload_n 2, 1), (146, .ireturn, 1)]
set_option maxRecDepth 100000 in
theorem dk_X12_odds : dt_X12_odds.all (fun q => decide (decode cX12_odds q.1 = .ok q.2)) = true := by decide +kernel
set_option maxRecDepth 100000 in
def f_X12_odds_23  (r0 : Nat) (x1 : Int32)  (M : Mem) : Option (Int32 × Mem) := some ((-1), M)
set_option maxRecDepth 100000 in
set_option maxHeartbeats 4000000 in
theorem x_X12_odds_23 {κ : KX} {n : Nat} (hC : CX κ cX12_odds RX12 5 (some .int) 6) (hE : zEnd κ n (0, 0)) (hk0 : zRk κ (0, 0)) {r0 : Nat} {x1 : Int32} (h_r0 : zO n r0 12) (M : Mem) : X κ 5 emI n (0, 0) 23 [.null, .null, .null, .null, .null] [] M (f_X12_odds_23 r0 x1 M) := by
  unfold f_X12_odds_23
  refine x_iconst (i := (-1)) c_iconst_m1 hC (zdk dk_X12_odds 13 rfl) (q := 24) rfl ?_
  exact x_iret (ty := .int) rfl hE hC (zdk dk_X12_odds 14 rfl)
set_option maxRecDepth 100000 in
def f_X12_odds_128 (k79 : Int32 → Int32 → Mem → Option (Int32 × Mem)) (r0 : Nat) (x1 : Int32) (x3 : Int32) (x4 : Int32) (s0 : Int32) (s1 : Int32) (M : Mem) : Option (Int32 × Mem) := Option.bind (f_X12_puts r0 1 x1 x3 x4 M) fun M1 => k79 (s0 + s1) (x3 + 1) M1
set_option maxRecDepth 100000 in
set_option maxHeartbeats 4000000 in
theorem x_X12_odds_128 {κ : KX} {n : Nat} (hC : CX κ cX12_odds RX12 5 (some .int) 6) (hE : zEnd κ n (0, 0)) (hk0 : zRk κ (0, 0)) {r0 : Nat} {x1 : Int32} (h_r0 : zO n r0 12) (k79 : Int32 → Int32 → Mem → Option (Int32 × Mem)) (hk79 : ∀ (x2 : Int32) (x3 : Int32) (M : Mem), X κ 5 emI n (0, 0) 79 [.ref r0, .int x1, .int x2, .int x3, .null] [] M (k79 x2 x3 M)) (x3 : Int32) (x4 : Int32) (s0 : Int32) (s1 : Int32) (M : Mem) : X κ 5 emI n (0, 0) 128 [.ref r0, .int x1, .null, .int x3, .int x4] [.int s1, .int s0] M (f_X12_odds_128 k79 r0 x1 x3 x4 s0 s1 M) := by
  unfold f_X12_odds_128
  refine x_iadd hC (zdk dk_X12_odds 77 rfl) (q := 129) rfl ?_
  refine x_istore_n (i := 2) (L' := [.ref r0, .int x1, .int (s0 + s1), .int x3, .int x4]) (by decide) rfl hC (zdk dk_X12_odds 78 rfl) (q := 130) rfl ?_
  refine x_aload_n (i := 0) rfl hC (zdk dk_X12_odds 79 rfl) (q := 131) rfl ?_
  refine x_iconst (i := 1) c_iconst_1 hC (zdk dk_X12_odds 80 rfl) (q := 132) rfl ?_
  refine x_iload_n (i := 1) rfl hC (zdk dk_X12_odds 81 rfl) (q := 133) rfl ?_
  refine x_iload_n (i := 3) rfl hC (zdk dk_X12_odds 82 rfl) (q := 134) rfl ?_
  refine x_iload (i := 4) rfl hC (zdk dk_X12_odds 83 rfl) (q := 136) rfl ?_
  refine x_callVv (as := [.int 1, .int x1, .int x3, .int x4]) cb_RX12_522 rfl (by decide) hk0 h_r0 (fun x hx => t_X12_puts h_r0 x hx) hC (zdk dk_X12_odds 84 rfl) (q := 139) rfl rfl (Nat.le_of_ble_eq_true rfl) (fun M1 => ?_)
  refine x_iinc (i := 3) c_iconst_1 rfl (by decide) (L' := [.ref r0, .int x1, .int (s0 + s1), .int (x3 + 1), .int x4]) rfl hC (zdk dk_X12_odds 85 rfl) (q := 142) rfl ?_
  refine x_goto (tgt := 79) hC (zdk dk_X12_odds 86 rfl) rfl ?_
  refine x_weak (L' := [.ref r0, .int x1, .int (s0 + s1), .int (x3 + 1), .null]) ⟨Or.inr rfl, Or.inr rfl, Or.inr rfl, Or.inr rfl, Or.inl rfl, trivial⟩ ?_
  exact hk79 _ _ _
set_option maxRecDepth 100000 in
def f_X12_odds_79  (r0 : Nat) (x1 : Int32) : Nat → Int32 → Int32 → Mem → Option (Int32 × Mem)
  | 0, _, _, _ => none
  | f + 1, x2, x3, M => (if zI M r0 39 ≤ x3 then some (x2, M) else Option.bind (f_X12_levelAt r0 1 x1 x3 M) fun z2 => Option.bind (f_X12_puts r0 1 x1 x3 (99 - z2.1) z2.2) fun M3 => Option.bind (f_X12_isTrue r0 1 x1 M3) fun z4 => (if z4.1 = 0 then f_X12_odds_128 (f_X12_odds_79 r0 x1 f) r0 x1 x3 z2.1 x2 0 z4.2 else Option.bind (f_X12_by r0 8 z4.2) fun z5 => f_X12_odds_128 (f_X12_odds_79 r0 x1 f) r0 x1 x3 z2.1 x2 z5.1 z5.2))
set_option maxRecDepth 100000 in
set_option maxHeartbeats 4000000 in
theorem x_X12_odds_79 {κ : KX} {n : Nat} (hC : CX κ cX12_odds RX12 5 (some .int) 6) (hE : zEnd κ n (0, 0)) (hk0 : zRk κ (0, 0)) {r0 : Nat} {x1 : Int32} (h_r0 : zO n r0 12) : ∀ (f : Nat) (x2 : Int32) (x3 : Int32) (M : Mem), X κ 5 emI n (0, 0) 79 [.ref r0, .int x1, .int x2, .int x3, .null] [] M (f_X12_odds_79 r0 x1 f x2 x3 M) := by
  intro f
  induction f with
  | zero => intros; exact x_none
  | succ f ih =>
    intro x2 x3 M 
    rw [f_X12_odds_79]
    refine x_iload_n (i := 3) rfl hC (zdk dk_X12_odds 48 rfl) (q := 80) rfl ?_
    refine x_aload_n (i := 0) rfl hC (zdk dk_X12_odds 49 rfl) (q := 81) rfl ?_
    refine x_getI fl_RX12_132 (by decide) h_r0 hC (zdk dk_X12_odds 50 rfl) (q := 84) rfl ?_
    refine x_icmp_ge (tgt := 145) hC (zdk dk_X12_odds 51 rfl) (q := 87) rfl rfl (fun _ => ?_) (fun _ => ?_)
    · refine x_iload_n (i := 2) rfl hC (zdk dk_X12_odds 87 rfl) (q := 146) rfl ?_
      exact x_iret (ty := .int) rfl hE hC (zdk dk_X12_odds 88 rfl)
    · refine x_aload_n (i := 0) rfl hC (zdk dk_X12_odds 52 rfl) (q := 88) rfl ?_
      refine x_iconst (i := 1) c_iconst_1 hC (zdk dk_X12_odds 53 rfl) (q := 89) rfl ?_
      refine x_iload_n (i := 1) rfl hC (zdk dk_X12_odds 54 rfl) (q := 90) rfl ?_
      refine x_iload_n (i := 3) rfl hC (zdk dk_X12_odds 55 rfl) (q := 91) rfl ?_
      refine x_callVi (as := [.int 1, .int x1, .int x3]) cb_RX12_500 rfl (by decide) hk0 h_r0 (fun x hx => t_X12_levelAt h_r0 x hx) hC (zdk dk_X12_odds 56 rfl) (q := 94) rfl rfl (Nat.le_of_ble_eq_true rfl) (fun z2 => ?_)
      refine x_istore (i := 4) (L' := [.ref r0, .int x1, .int x2, .int x3, .int z2.1]) (by decide) rfl hC (zdk dk_X12_odds 57 rfl) (q := 96) rfl ?_
      refine x_aload_n (i := 0) rfl hC (zdk dk_X12_odds 58 rfl) (q := 97) rfl ?_
      refine x_iconst (i := 1) c_iconst_1 hC (zdk dk_X12_odds 59 rfl) (q := 98) rfl ?_
      refine x_iload_n (i := 1) rfl hC (zdk dk_X12_odds 60 rfl) (q := 99) rfl ?_
      refine x_iload_n (i := 3) rfl hC (zdk dk_X12_odds 61 rfl) (q := 100) rfl ?_
      refine x_bipush (i := 99) c_bipush_99 hC (zdk dk_X12_odds 62 rfl) (q := 102) rfl ?_
      refine x_iload (i := 4) rfl hC (zdk dk_X12_odds 63 rfl) (q := 104) rfl ?_
      refine x_isub hC (zdk dk_X12_odds 64 rfl) (q := 105) rfl ?_
      refine x_callVv (as := [.int 1, .int x1, .int x3, .int (99 - z2.1)]) cb_RX12_522 rfl (by decide) hk0 h_r0 (fun x hx => t_X12_puts h_r0 x hx) hC (zdk dk_X12_odds 65 rfl) (q := 108) rfl rfl (Nat.le_of_ble_eq_true rfl) (fun M3 => ?_)
      refine x_iload_n (i := 2) rfl hC (zdk dk_X12_odds 66 rfl) (q := 109) rfl ?_
      refine x_aload_n (i := 0) rfl hC (zdk dk_X12_odds 67 rfl) (q := 110) rfl ?_
      refine x_iconst (i := 1) c_iconst_1 hC (zdk dk_X12_odds 68 rfl) (q := 111) rfl ?_
      refine x_iload_n (i := 1) rfl hC (zdk dk_X12_odds 69 rfl) (q := 112) rfl ?_
      refine x_callVi (as := [.int 1, .int x1]) cb_RX12_531 rfl (by decide) hk0 h_r0 (fun x hx => t_X12_isTrue h_r0 x hx) hC (zdk dk_X12_odds 70 rfl) (q := 115) rfl rfl (Nat.le_of_ble_eq_true rfl) (fun z4 => ?_)
      refine x_if_eq (tgt := 127) hC (zdk dk_X12_odds 71 rfl) (q := 118) rfl rfl (fun _ => ?_) (fun _ => ?_)
      · refine x_iconst (i := 0) c_iconst_0 hC (zdk dk_X12_odds 76 rfl) (q := 128) rfl ?_
        refine x_weak (L' := [.ref r0, .int x1, .null, .int x3, .int z2.1]) ⟨Or.inr rfl, Or.inr rfl, Or.inl rfl, Or.inr rfl, Or.inr rfl, trivial⟩ ?_
        exact x_X12_odds_128 hC hE hk0 h_r0 (f_X12_odds_79 r0 x1 f) ih _ _ _ _ _
      · refine x_aload_n (i := 0) rfl hC (zdk dk_X12_odds 72 rfl) (q := 119) rfl ?_
        refine x_bipush (i := 8) c_bipush_8 hC (zdk dk_X12_odds 73 rfl) (q := 121) rfl ?_
        refine x_callVi (as := [.int 8]) cb_RX12_428 rfl (by decide) hk0 h_r0 (fun x hx => t_X12_by h_r0 x hx) hC (zdk dk_X12_odds 74 rfl) (q := 124) rfl rfl (Nat.le_of_ble_eq_true rfl) (fun z5 => ?_)
        refine x_goto (tgt := 128) hC (zdk dk_X12_odds 75 rfl) rfl ?_
        refine x_weak (L' := [.ref r0, .int x1, .null, .int x3, .int z2.1]) ⟨Or.inr rfl, Or.inr rfl, Or.inl rfl, Or.inr rfl, Or.inr rfl, trivial⟩ ?_
        exact x_X12_odds_128 hC hE hk0 h_r0 (f_X12_odds_79 r0 x1 f) ih _ _ _ _ _
set_option maxRecDepth 100000 in
def f_X12_odds_76  (r0 : Nat) (x1 : Int32) (s0 : Int32) (M : Mem) : Option (Int32 × Mem) := f_X12_odds_79 r0 x1 1000000 s0 0 M
set_option maxRecDepth 100000 in
set_option maxHeartbeats 4000000 in
theorem x_X12_odds_76 {κ : KX} {n : Nat} (hC : CX κ cX12_odds RX12 5 (some .int) 6) (hE : zEnd κ n (0, 0)) (hk0 : zRk κ (0, 0)) {r0 : Nat} {x1 : Int32} (h_r0 : zO n r0 12) (s0 : Int32) (M : Mem) : X κ 5 emI n (0, 0) 76 [.ref r0, .int x1, .null, .null, .null] [.int s0] M (f_X12_odds_76 r0 x1 s0 M) := by
  unfold f_X12_odds_76
  refine x_istore_n (i := 2) (L' := [.ref r0, .int x1, .int s0, .null, .null]) (by decide) rfl hC (zdk dk_X12_odds 45 rfl) (q := 77) rfl ?_
  refine x_iconst (i := 0) c_iconst_0 hC (zdk dk_X12_odds 46 rfl) (q := 78) rfl ?_
  refine x_istore_n (i := 3) (L' := [.ref r0, .int x1, .int s0, .int 0, .null]) (by decide) rfl hC (zdk dk_X12_odds 47 rfl) (q := 79) rfl ?_
  refine x_weak (L' := [.ref r0, .int x1, .int s0, .int 0, .null]) ⟨Or.inr rfl, Or.inr rfl, Or.inr rfl, Or.inr rfl, Or.inl rfl, trivial⟩ ?_
  exact x_X12_odds_79 hC hE hk0 h_r0 _ _ _ _
set_option maxRecDepth 100000 in
def f_X12_odds_25  (r0 : Nat) (x1 : Int32)  (M : Mem) : Option (Int32 × Mem) := (if x1 = (-1) then some (100 * (zI M r0 39), M) else Option.bind (f_X12_copies r0 1 0 M) fun M6 => Option.bind (f_X12_passes r0 1 M6) fun M7 => Option.bind (f_X12_isTrue r0 1 x1 M7) fun z8 => (if z8.1 = 0 then f_X12_odds_76 r0 x1 0 z8.2 else Option.bind (f_X12_by r0 8 z8.2) fun z9 => f_X12_odds_76 r0 x1 ((100 - z9.1) * (zI z9.2 r0 39)) z9.2))
set_option maxRecDepth 100000 in
set_option maxHeartbeats 4000000 in
theorem x_X12_odds_25 {κ : KX} {n : Nat} (hC : CX κ cX12_odds RX12 5 (some .int) 6) (hE : zEnd κ n (0, 0)) (hk0 : zRk κ (0, 0)) {r0 : Nat} {x1 : Int32} (h_r0 : zO n r0 12) (M : Mem) : X κ 5 emI n (0, 0) 25 [.ref r0, .int x1, .null, .null, .null] [] M (f_X12_odds_25 r0 x1 M) := by
  unfold f_X12_odds_25
  refine x_iload_n (i := 1) rfl hC (zdk dk_X12_odds 15 rfl) (q := 26) rfl ?_
  refine x_iconst (i := (-1)) c_iconst_m1 hC (zdk dk_X12_odds 16 rfl) (q := 27) rfl ?_
  refine x_icmp_ne (tgt := 38) hC (zdk dk_X12_odds 17 rfl) (q := 30) rfl rfl (fun _ => ?_) (fun _ => ?_)
  · refine x_aload_n (i := 0) rfl hC (zdk dk_X12_odds 23 rfl) (q := 39) rfl ?_
    refine x_iconst (i := 1) c_iconst_1 hC (zdk dk_X12_odds 24 rfl) (q := 40) rfl ?_
    refine x_iconst (i := 0) c_iconst_0 hC (zdk dk_X12_odds 25 rfl) (q := 41) rfl ?_
    refine x_callVv (as := [.int 1, .int 0]) cb_RX12_479 rfl (by decide) hk0 h_r0 (fun x hx => t_X12_copies h_r0 x hx) hC (zdk dk_X12_odds 26 rfl) (q := 44) rfl rfl (Nat.le_of_ble_eq_true rfl) (fun M6 => ?_)
    refine x_aload_n (i := 0) rfl hC (zdk dk_X12_odds 27 rfl) (q := 45) rfl ?_
    refine x_iconst (i := 1) c_iconst_1 hC (zdk dk_X12_odds 28 rfl) (q := 46) rfl ?_
    refine x_callVv (as := [.int 1]) cb_RX12_542 rfl (by decide) hk0 h_r0 (fun x hx => t_X12_passes h_r0 x hx) hC (zdk dk_X12_odds 29 rfl) (q := 49) rfl rfl (Nat.le_of_ble_eq_true rfl) (fun M7 => ?_)
    refine x_aload_n (i := 0) rfl hC (zdk dk_X12_odds 30 rfl) (q := 50) rfl ?_
    refine x_iconst (i := 1) c_iconst_1 hC (zdk dk_X12_odds 31 rfl) (q := 51) rfl ?_
    refine x_iload_n (i := 1) rfl hC (zdk dk_X12_odds 32 rfl) (q := 52) rfl ?_
    refine x_callVi (as := [.int 1, .int x1]) cb_RX12_531 rfl (by decide) hk0 h_r0 (fun x hx => t_X12_isTrue h_r0 x hx) hC (zdk dk_X12_odds 33 rfl) (q := 55) rfl rfl (Nat.le_of_ble_eq_true rfl) (fun z8 => ?_)
    refine x_if_eq (tgt := 75) hC (zdk dk_X12_odds 34 rfl) (q := 58) rfl rfl (fun _ => ?_) (fun _ => ?_)
    · refine x_iconst (i := 0) c_iconst_0 hC (zdk dk_X12_odds 44 rfl) (q := 76) rfl ?_
      refine x_weak (L' := [.ref r0, .int x1, .null, .null, .null]) ⟨Or.inr rfl, Or.inr rfl, Or.inl rfl, Or.inl rfl, Or.inl rfl, trivial⟩ ?_
      exact x_X12_odds_76 hC hE hk0 h_r0 _ _
    · refine x_bipush (i := 100) c_bipush_100 hC (zdk dk_X12_odds 35 rfl) (q := 60) rfl ?_
      refine x_aload_n (i := 0) rfl hC (zdk dk_X12_odds 36 rfl) (q := 61) rfl ?_
      refine x_bipush (i := 8) c_bipush_8 hC (zdk dk_X12_odds 37 rfl) (q := 63) rfl ?_
      refine x_callVi (as := [.int 8]) cb_RX12_428 rfl (by decide) hk0 h_r0 (fun x hx => t_X12_by h_r0 x hx) hC (zdk dk_X12_odds 38 rfl) (q := 66) rfl rfl (Nat.le_of_ble_eq_true rfl) (fun z9 => ?_)
      refine x_isub hC (zdk dk_X12_odds 39 rfl) (q := 67) rfl ?_
      refine x_aload_n (i := 0) rfl hC (zdk dk_X12_odds 40 rfl) (q := 68) rfl ?_
      refine x_getI fl_RX12_132 (by decide) h_r0 hC (zdk dk_X12_odds 41 rfl) (q := 71) rfl ?_
      refine x_imul hC (zdk dk_X12_odds 42 rfl) (q := 72) rfl ?_
      refine x_goto (tgt := 76) hC (zdk dk_X12_odds 43 rfl) rfl ?_
      refine x_weak (L' := [.ref r0, .int x1, .null, .null, .null]) ⟨Or.inr rfl, Or.inr rfl, Or.inl rfl, Or.inl rfl, Or.inl rfl, trivial⟩ ?_
      exact x_X12_odds_76 hC hE hk0 h_r0 _ _
  · refine x_bipush (i := 100) c_bipush_100 hC (zdk dk_X12_odds 18 rfl) (q := 32) rfl ?_
    refine x_aload_n (i := 0) rfl hC (zdk dk_X12_odds 19 rfl) (q := 33) rfl ?_
    refine x_getI fl_RX12_132 (by decide) h_r0 hC (zdk dk_X12_odds 20 rfl) (q := 36) rfl ?_
    refine x_imul hC (zdk dk_X12_odds 21 rfl) (q := 37) rfl ?_
    exact x_iret (ty := .int) rfl hE hC (zdk dk_X12_odds 22 rfl)
set_option maxRecDepth 100000 in
def f_X12_odds (r0 : Nat) (x1 : Int32) (M : Mem) : Option (Int32 × Mem) := Option.bind (f_X12_isAhead r0 1 1 1 M) fun z10 => (if z10.1 = 0 then f_X12_odds_23 r0 x1 z10.2 else (if x1 = (-1) then f_X12_odds_25 r0 x1 z10.2 else Option.bind (f_X12_isThere r0 x1 z10.2) fun z11 => (if z11.1 = 0 then f_X12_odds_23 r0 x1 z11.2 else f_X12_odds_25 r0 x1 z11.2)))
set_option maxRecDepth 100000 in
set_option maxHeartbeats 4000000 in
theorem x_X12_odds {κ : KX} {n : Nat} (hC : CX κ cX12_odds RX12 5 (some .int) 6) (hE : zEnd κ n (0, 0)) (hk0 : zRk κ (0, 0)) (r0 : Nat) (x1 : Int32) (M : Mem) (h_r0 : zO n r0 12) : X κ 5 emI n (0, 0) 0 [.ref r0, .int x1, .null, .null, .null] [] M (f_X12_odds r0 x1 M) := by
  unfold f_X12_odds
  refine x_aload_n (i := 0) rfl hC (zdk dk_X12_odds 0 rfl) (q := 1) rfl ?_
  refine x_iconst (i := 1) c_iconst_1 hC (zdk dk_X12_odds 1 rfl) (q := 2) rfl ?_
  refine x_iconst (i := 1) c_iconst_1 hC (zdk dk_X12_odds 2 rfl) (q := 3) rfl ?_
  refine x_iconst (i := 1) c_iconst_1 hC (zdk dk_X12_odds 3 rfl) (q := 4) rfl ?_
  refine x_callVi (as := [.int 1, .int 1, .int 1]) cb_RX12_539 rfl (by decide) hk0 h_r0 (fun x hx => t_X12_isAhead h_r0 x hx) hC (zdk dk_X12_odds 4 rfl) (q := 7) rfl rfl (Nat.le_of_ble_eq_true rfl) (fun z10 => ?_)
  refine x_if_eq (tgt := 23) hC (zdk dk_X12_odds 5 rfl) (q := 10) rfl rfl (fun _ => ?_) (fun _ => ?_)
  · refine x_weak (L' := [.null, .null, .null, .null, .null]) ⟨Or.inl rfl, Or.inl rfl, Or.inl rfl, Or.inl rfl, Or.inl rfl, trivial⟩ ?_
    exact x_X12_odds_23 hC hE hk0 h_r0 _
  · refine x_iload_n (i := 1) rfl hC (zdk dk_X12_odds 6 rfl) (q := 11) rfl ?_
    refine x_iconst (i := (-1)) c_iconst_m1 hC (zdk dk_X12_odds 7 rfl) (q := 12) rfl ?_
    refine x_icmp_eq (tgt := 25) hC (zdk dk_X12_odds 8 rfl) (q := 15) rfl rfl (fun _ => ?_) (fun _ => ?_)
    · refine x_weak (L' := [.ref r0, .int x1, .null, .null, .null]) ⟨Or.inr rfl, Or.inr rfl, Or.inl rfl, Or.inl rfl, Or.inl rfl, trivial⟩ ?_
      exact x_X12_odds_25 hC hE hk0 h_r0 _
    · refine x_aload_n (i := 0) rfl hC (zdk dk_X12_odds 9 rfl) (q := 16) rfl ?_
      refine x_iload_n (i := 1) rfl hC (zdk dk_X12_odds 10 rfl) (q := 17) rfl ?_
      refine x_callVi (as := [.int x1]) cb_RX12_536 rfl (by decide) hk0 h_r0 (fun x hx => t_X12_isThere h_r0 x hx) hC (zdk dk_X12_odds 11 rfl) (q := 20) rfl rfl (Nat.le_of_ble_eq_true rfl) (fun z11 => ?_)
      refine x_if_ne (tgt := 25) hC (zdk dk_X12_odds 12 rfl) (q := 23) rfl rfl (fun _ => ?_) (fun _ => ?_)
      · refine x_weak (L' := [.ref r0, .int x1, .null, .null, .null]) ⟨Or.inr rfl, Or.inr rfl, Or.inl rfl, Or.inl rfl, Or.inl rfl, trivial⟩ ?_
        exact x_X12_odds_25 hC hE hk0 h_r0 _
      · refine x_weak (L' := [.null, .null, .null, .null, .null]) ⟨Or.inl rfl, Or.inl rfl, Or.inl rfl, Or.inl rfl, Or.inl rfl, trivial⟩ ?_
        exact x_X12_odds_23 hC hE hk0 h_r0 _
set_option maxRecDepth 100000 in
set_option maxHeartbeats 4000000 in
theorem t_X12_odds {n : Nat} {r0 : Nat} {x1 : Int32} {M : Mem} (h_r0 : zO n r0 12) (x : (Int32 × Mem)) (hx : f_X12_odds r0 x1 M = some x) (l : Launch) (dC : Nat → ClassId) (dI : Nat → Nat → Nat) (b : zSg) : MT l dC dI b yX12_odds cX12_odds 5 (some .int) 6 0 0 n n [.ref r0, .int x1] M (emI x).1 (emI x).2 :=
  MT.ofX (by decide +kernel) rfl (Nat.le_of_ble_eq_true rfl) (fun κ hC hF _ => x_X12_odds hC (zEnd_of hF (Nat.le_refl _) (Nat.le_refl _)) (zRk_of hF (Nat.le_refl _) (Nat.le_refl _)) _ _ _ h_r0) x hx
set_option maxRecDepth 100000 in
def dt_X12_meet : List (Nat × Instr × Nat) := [(0, .aload_n 0, 1), (1, .getfield 13, 3), (4, .istore_n 1, 1), (5, .aload_n 0, 1), (6, .iconst 0, 1), (7, .putfield 13, 3), (10, .aload_n 0, 1), (11, .getfield 120, 3), (14, .ifCond .eq 23, 3), (17, .iload_n 1, 1), (18, .ifCond .le 19, 3), (21, .iload_n 1, 1), (22, .iconst 2, 1), (23, .irem, 1), (24, .ifCond .ne 13, 3), (27, .iload_n 1, 1), (28, .bipush 32, 2), (30, .if_icmp .gt 7, 3), (33, .iconst 1, 1), (34, .goto 4, 3), (37, .iconst 0, 1), (38, .istore_n 2, 1), (39, .iconst 0, 1), (40, .istore_n 3, 1), (41, .iload_n 3, 1), (42, .iload_n 1, 1), (43, .if_icmp .ge 43, 3), (46, .iload_n 2, 1), (47, .ifCond .eq 39, 3), (50, .aload_n 0, 1), (51, .getfield 7, 3), (54, .iload_n 3, 1), (55, .iaload, 1), (56, .bipush 100, 2), (58, .if_icmp .gt 20, 3), (61, .aload_n 0, 1), (62, .getfield 7, 3), (65, .iload_n 3, 1), (66, .iconst 1, 1), (67, .iadd, 1), (68, .iaload, 1), (69, .bipush 64, 2), (71, .if_icmp .ge 7, 3), (74, .iconst 1, 1), (75, .goto 4, 3), (78, .iconst 0, 1), (79, .istore_n 2, 1), (80, .iinc 3 2, 3), (83, .goto (-42), 3), (86, .iload_n 2, 1), (87, .ifCond .ne 9, 3), (90, .aload_n 0, 1), (91, .iconst 5, 1), (92, .invokevirtual 243, 3), (95, .ireturn, 1), (96, .aload_n 0, 1), (97, .iload_n 1, 1), (98, .iconst 2, 1), (99, .idiv, 1), (100, .putfield 222, 3), (103, .iconst 0, 1), (104, .istore_n 3, 1), (105, .iload_n 3, 1), (106, .aload_n 0, 1), (107, .getfield 222, 3), (110, .if_icmp .ge 39, 3), (113, .aload_n 0, 1), (114, .getfield 225, 3), (117, .iload_n 3, 1), (118, .aload_n 0, 1), (119, .getfield 7, 3), (122, .iconst 2, 1), (123, .iload_n 3, 1), (124, .imul, 1), (125, .iaload, 1), (126, .iastore, 1), (127, .aload_n 0, 1), (128, .getfield 228, 3), (131, .iload_n 3, 1), (132, .aload_n 0, 1), (133, .getfield 7, 3), (136, .iconst 2, 1), (137, .iload_n 3, 1), (138, .imul, 1), (139, .iconst 1, 1), (140, .iadd, 1), (141, .iaload, 1), (142, .iastore, 1), (143, .iinc 3 1, 3), (146, .goto (-41), 3), (149, .aload_n 0, 1), (150, .getfield 222, 3), (153, .ireturn, 1)]
set_option maxRecDepth 100000 in
theorem dk_X12_meet : dt_X12_meet.all (fun q => decide (decode cX12_meet q.1 = .ok q.2)) = true := by decide +kernel
set_option maxRecDepth 100000 in
def f_X12_meet_79 (k41 : Int32 → Int32 → Int32 → Mem → Option (Int32 × Mem)) (r0 : Nat) (x1 : Int32) (x3 : Int32) (s0 : Int32) (M : Mem) : Option (Int32 × Mem) := k41 x1 s0 (x3 + 2) M
set_option maxRecDepth 100000 in
set_option maxHeartbeats 4000000 in
theorem x_X12_meet_79 {κ : KX} {n : Nat} (hC : CX κ cX12_meet RX12 4 (some .int) 1) (hE : zEnd κ n (0, 0)) (hk0 : zRk κ (0, 0)) {r0 : Nat} (h_r0 : zO n r0 12) (k41 : Int32 → Int32 → Int32 → Mem → Option (Int32 × Mem)) (hk41 : ∀ (x1 : Int32) (x2 : Int32) (x3 : Int32) (M : Mem), X κ 4 emI n (0, 0) 41 [.ref r0, .int x1, .int x2, .int x3] [] M (k41 x1 x2 x3 M)) (x1 : Int32) (x3 : Int32) (s0 : Int32) (M : Mem) : X κ 4 emI n (0, 0) 79 [.ref r0, .int x1, .null, .int x3] [.int s0] M (f_X12_meet_79 k41 r0 x1 x3 s0 M) := by
  unfold f_X12_meet_79
  refine x_istore_n (i := 2) (L' := [.ref r0, .int x1, .int s0, .int x3]) (by decide) rfl hC (zdk dk_X12_meet 46 rfl) (q := 80) rfl ?_
  refine x_iinc (i := 3) c_iconst_2 rfl (by decide) (L' := [.ref r0, .int x1, .int s0, .int (x3 + 2)]) rfl hC (zdk dk_X12_meet 47 rfl) (q := 83) rfl ?_
  refine x_goto (tgt := 41) hC (zdk dk_X12_meet 48 rfl) rfl ?_
  refine x_weak (L' := [.ref r0, .int x1, .int s0, .int (x3 + 2)]) ⟨Or.inr rfl, Or.inr rfl, Or.inr rfl, Or.inr rfl, trivial⟩ ?_
  exact hk41 _ _ _ _
set_option maxRecDepth 100000 in
def f_X12_meet_78 (k41 : Int32 → Int32 → Int32 → Mem → Option (Int32 × Mem)) (r0 : Nat) (x1 : Int32) (x3 : Int32) (M : Mem) : Option (Int32 × Mem) := f_X12_meet_79 k41 r0 x1 x3 0 M
set_option maxRecDepth 100000 in
set_option maxHeartbeats 4000000 in
theorem x_X12_meet_78 {κ : KX} {n : Nat} (hC : CX κ cX12_meet RX12 4 (some .int) 1) (hE : zEnd κ n (0, 0)) (hk0 : zRk κ (0, 0)) {r0 : Nat} (h_r0 : zO n r0 12) (k41 : Int32 → Int32 → Int32 → Mem → Option (Int32 × Mem)) (hk41 : ∀ (x1 : Int32) (x2 : Int32) (x3 : Int32) (M : Mem), X κ 4 emI n (0, 0) 41 [.ref r0, .int x1, .int x2, .int x3] [] M (k41 x1 x2 x3 M)) (x1 : Int32) (x3 : Int32) (M : Mem) : X κ 4 emI n (0, 0) 78 [.ref r0, .int x1, .null, .int x3] [] M (f_X12_meet_78 k41 r0 x1 x3 M) := by
  unfold f_X12_meet_78
  refine x_iconst (i := 0) c_iconst_0 hC (zdk dk_X12_meet 45 rfl) (q := 79) rfl ?_
  refine x_weak (L' := [.ref r0, .int x1, .null, .int x3]) ⟨Or.inr rfl, Or.inr rfl, Or.inl rfl, Or.inr rfl, trivial⟩ ?_
  exact x_X12_meet_79 hC hE hk0 h_r0 k41 hk41 _ _ _ _
set_option maxRecDepth 100000 in
def f_X12_meet_105  (r0 : Nat) : Nat → Int32 → Mem → Option (Int32 × Mem)
  | 0, _, _ => none
  | f + 1, x3, M => (if zI M r0 69 ≤ x3 then some (zI M r0 69, M) else Option.bind (zrf M r0 70) fun q1 => Option.bind (zrf M r0 0) fun q2 => Option.bind (zld q2 (2 * x3)) fun k3 => Option.bind (zld q1 x3) fun k4 => Option.bind (some (zsI M q1 k4 (zI M q2 k3))) fun M5 => Option.bind (zrf M5 r0 71) fun q6 => Option.bind (zrf M5 r0 0) fun q7 => Option.bind (zld q7 ((2 * x3) + 1)) fun k8 => Option.bind (zld q6 x3) fun k9 => Option.bind (some (zsI M5 q6 k9 (zI M5 q7 k8))) fun M10 => (f_X12_meet_105 r0 f) (x3 + 1) M10)
set_option maxRecDepth 100000 in
set_option maxHeartbeats 4000000 in
theorem x_X12_meet_105 {κ : KX} {n : Nat} (hC : CX κ cX12_meet RX12 4 (some .int) 1) (hE : zEnd κ n (0, 0)) (hk0 : zRk κ (0, 0)) {r0 : Nat} (h_r0 : zO n r0 12) : ∀ (f : Nat) (x3 : Int32) (M : Mem), X κ 4 emI n (0, 0) 105 [.ref r0, .null, .null, .int x3] [] M (f_X12_meet_105 r0 f x3 M) := by
  intro f
  induction f with
  | zero => intros; exact x_none
  | succ f ih =>
    intro x3 M 
    rw [f_X12_meet_105]
    refine x_iload_n (i := 3) rfl hC (zdk dk_X12_meet 62 rfl) (q := 106) rfl ?_
    refine x_aload_n (i := 0) rfl hC (zdk dk_X12_meet 63 rfl) (q := 107) rfl ?_
    refine x_getI fl_RX12_222 (by decide) h_r0 hC (zdk dk_X12_meet 64 rfl) (q := 110) rfl ?_
    refine x_icmp_ge (tgt := 149) hC (zdk dk_X12_meet 65 rfl) (q := 113) rfl rfl (fun _ => ?_) (fun _ => ?_)
    · refine x_aload_n (i := 0) rfl hC (zdk dk_X12_meet 90 rfl) (q := 150) rfl ?_
      refine x_getI fl_RX12_222 (by decide) h_r0 hC (zdk dk_X12_meet 91 rfl) (q := 153) rfl ?_
      exact x_iret (ty := .int) rfl hE hC (zdk dk_X12_meet 92 rfl)
    · refine x_aload_n (i := 0) rfl hC (zdk dk_X12_meet 66 rfl) (q := 114) rfl ?_
      refine x_getR (k := 20) fl_RX12_225 rfl h_r0 hC (zdk dk_X12_meet 67 rfl) (q := 117) rfl (fun q1 hq1 => ?_)
      refine x_iload_n (i := 3) rfl hC (zdk dk_X12_meet 68 rfl) (q := 118) rfl ?_
      refine x_aload_n (i := 0) rfl hC (zdk dk_X12_meet 69 rfl) (q := 119) rfl ?_
      refine x_getR (k := 20) fl_RX12_7 rfl h_r0 hC (zdk dk_X12_meet 70 rfl) (q := 122) rfl (fun q2 hq2 => ?_)
      refine x_iconst (i := 2) c_iconst_2 hC (zdk dk_X12_meet 71 rfl) (q := 123) rfl ?_
      refine x_iload_n (i := 3) rfl hC (zdk dk_X12_meet 72 rfl) (q := 124) rfl ?_
      refine x_imul hC (zdk dk_X12_meet 73 rfl) (q := 125) rfl ?_
      refine x_iald hq2 hC (zdk dk_X12_meet 74 rfl) (q := 126) rfl (fun k3 _ => ?_)
      refine x_iast hq1 hC (zdk dk_X12_meet 75 rfl) (q := 127) rfl (fun k4 _ => ?_)
      refine x_nmM (fun M5 => ?_)
      refine x_aload_n (i := 0) rfl hC (zdk dk_X12_meet 76 rfl) (q := 128) rfl ?_
      refine x_getR (k := 20) fl_RX12_228 rfl h_r0 hC (zdk dk_X12_meet 77 rfl) (q := 131) rfl (fun q6 hq6 => ?_)
      refine x_iload_n (i := 3) rfl hC (zdk dk_X12_meet 78 rfl) (q := 132) rfl ?_
      refine x_aload_n (i := 0) rfl hC (zdk dk_X12_meet 79 rfl) (q := 133) rfl ?_
      refine x_getR (k := 20) fl_RX12_7 rfl h_r0 hC (zdk dk_X12_meet 80 rfl) (q := 136) rfl (fun q7 hq7 => ?_)
      refine x_iconst (i := 2) c_iconst_2 hC (zdk dk_X12_meet 81 rfl) (q := 137) rfl ?_
      refine x_iload_n (i := 3) rfl hC (zdk dk_X12_meet 82 rfl) (q := 138) rfl ?_
      refine x_imul hC (zdk dk_X12_meet 83 rfl) (q := 139) rfl ?_
      refine x_iconst (i := 1) c_iconst_1 hC (zdk dk_X12_meet 84 rfl) (q := 140) rfl ?_
      refine x_iadd hC (zdk dk_X12_meet 85 rfl) (q := 141) rfl ?_
      refine x_iald hq7 hC (zdk dk_X12_meet 86 rfl) (q := 142) rfl (fun k8 _ => ?_)
      refine x_iast hq6 hC (zdk dk_X12_meet 87 rfl) (q := 143) rfl (fun k9 _ => ?_)
      refine x_nmM (fun M10 => ?_)
      refine x_iinc (i := 3) c_iconst_1 rfl (by decide) (L' := [.ref r0, .null, .null, .int (x3 + 1)]) rfl hC (zdk dk_X12_meet 88 rfl) (q := 146) rfl ?_
      refine x_goto (tgt := 105) hC (zdk dk_X12_meet 89 rfl) rfl ?_
      refine x_weak (L' := [.ref r0, .null, .null, .int (x3 + 1)]) ⟨Or.inr rfl, Or.inl rfl, Or.inl rfl, Or.inr rfl, trivial⟩ ?_
      exact ih _ _
set_option maxRecDepth 100000 in
def f_X12_meet_86  (r0 : Nat) (x1 : Int32) (x2 : Int32) (M : Mem) : Option (Int32 × Mem) := (if x2 = 0 then Option.bind (f_X12_refuses r0 5 M) fun z12 => some (z12.1, z12.2) else Option.bind (some (zsI M r0 69 (x1 / 2))) fun M11 => f_X12_meet_105 r0 1000000 0 M11)
set_option maxRecDepth 100000 in
set_option maxHeartbeats 4000000 in
theorem x_X12_meet_86 {κ : KX} {n : Nat} (hC : CX κ cX12_meet RX12 4 (some .int) 1) (hE : zEnd κ n (0, 0)) (hk0 : zRk κ (0, 0)) {r0 : Nat} (h_r0 : zO n r0 12) (x1 : Int32) (x2 : Int32) (M : Mem) : X κ 4 emI n (0, 0) 86 [.ref r0, .int x1, .int x2, .null] [] M (f_X12_meet_86 r0 x1 x2 M) := by
  unfold f_X12_meet_86
  refine x_iload_n (i := 2) rfl hC (zdk dk_X12_meet 49 rfl) (q := 87) rfl ?_
  refine x_if_ne (tgt := 96) hC (zdk dk_X12_meet 50 rfl) (q := 90) rfl rfl (fun _ => ?_) (fun _ => ?_)
  · refine x_aload_n (i := 0) rfl hC (zdk dk_X12_meet 55 rfl) (q := 97) rfl ?_
    refine x_iload_n (i := 1) rfl hC (zdk dk_X12_meet 56 rfl) (q := 98) rfl ?_
    refine x_iconst (i := 2) c_iconst_2 hC (zdk dk_X12_meet 57 rfl) (q := 99) rfl ?_
    refine x_idiv (by decide) hC (zdk dk_X12_meet 58 rfl) (q := 100) rfl ?_
    refine x_putI fl_RX12_222 ⟨rfl, rfl⟩ (by decide) (Or.inl rfl) h_r0 hC (zdk dk_X12_meet 59 rfl) (q := 103) rfl ?_
    refine x_nmM (fun M11 => ?_)
    refine x_iconst (i := 0) c_iconst_0 hC (zdk dk_X12_meet 60 rfl) (q := 104) rfl ?_
    refine x_istore_n (i := 3) (L' := [.ref r0, .int x1, .int x2, .int 0]) (by decide) rfl hC (zdk dk_X12_meet 61 rfl) (q := 105) rfl ?_
    refine x_weak (L' := [.ref r0, .null, .null, .int 0]) ⟨Or.inr rfl, Or.inl rfl, Or.inl rfl, Or.inr rfl, trivial⟩ ?_
    exact x_X12_meet_105 hC hE hk0 h_r0 _ _ _
  · refine x_aload_n (i := 0) rfl hC (zdk dk_X12_meet 51 rfl) (q := 91) rfl ?_
    refine x_iconst (i := 5) c_iconst_5 hC (zdk dk_X12_meet 52 rfl) (q := 92) rfl ?_
    refine x_callVi (as := [.int 5]) cb_RX12_243 rfl (by decide) hk0 h_r0 (fun x hx => t_X12_refuses h_r0 x hx) hC (zdk dk_X12_meet 53 rfl) (q := 95) rfl rfl (Nat.le_of_ble_eq_true rfl) (fun z12 => ?_)
    exact x_iret (ty := .int) rfl hE hC (zdk dk_X12_meet 54 rfl)
set_option maxRecDepth 100000 in
def f_X12_meet_41  (r0 : Nat) : Nat → Int32 → Int32 → Int32 → Mem → Option (Int32 × Mem)
  | 0, _, _, _, _ => none
  | f + 1, x1, x2, x3, M => (if x1 ≤ x3 then f_X12_meet_86 r0 x1 x2 M else (if x2 = 0 then f_X12_meet_86 r0 x1 x2 M else Option.bind (zrf M r0 0) fun q13 => Option.bind (zld q13 x3) fun k14 => (if 100 < zI M q13 k14 then f_X12_meet_78 (f_X12_meet_41 r0 f) r0 x1 x3 M else Option.bind (zrf M r0 0) fun q15 => Option.bind (zld q15 (x3 + 1)) fun k16 => (if 64 ≤ zI M q15 k16 then f_X12_meet_78 (f_X12_meet_41 r0 f) r0 x1 x3 M else f_X12_meet_79 (f_X12_meet_41 r0 f) r0 x1 x3 1 M))))
set_option maxRecDepth 100000 in
set_option maxHeartbeats 4000000 in
theorem x_X12_meet_41 {κ : KX} {n : Nat} (hC : CX κ cX12_meet RX12 4 (some .int) 1) (hE : zEnd κ n (0, 0)) (hk0 : zRk κ (0, 0)) {r0 : Nat} (h_r0 : zO n r0 12) : ∀ (f : Nat) (x1 : Int32) (x2 : Int32) (x3 : Int32) (M : Mem), X κ 4 emI n (0, 0) 41 [.ref r0, .int x1, .int x2, .int x3] [] M (f_X12_meet_41 r0 f x1 x2 x3 M) := by
  intro f
  induction f with
  | zero => intros; exact x_none
  | succ f ih =>
    intro x1 x2 x3 M 
    rw [f_X12_meet_41]
    refine x_iload_n (i := 3) rfl hC (zdk dk_X12_meet 24 rfl) (q := 42) rfl ?_
    refine x_iload_n (i := 1) rfl hC (zdk dk_X12_meet 25 rfl) (q := 43) rfl ?_
    refine x_icmp_ge (tgt := 86) hC (zdk dk_X12_meet 26 rfl) (q := 46) rfl rfl (fun _ => ?_) (fun _ => ?_)
    · refine x_weak (L' := [.ref r0, .int x1, .int x2, .null]) ⟨Or.inr rfl, Or.inr rfl, Or.inr rfl, Or.inl rfl, trivial⟩ ?_
      exact x_X12_meet_86 hC hE hk0 h_r0 _ _ _
    · refine x_iload_n (i := 2) rfl hC (zdk dk_X12_meet 27 rfl) (q := 47) rfl ?_
      refine x_if_eq (tgt := 86) hC (zdk dk_X12_meet 28 rfl) (q := 50) rfl rfl (fun _ => ?_) (fun _ => ?_)
      · refine x_weak (L' := [.ref r0, .int x1, .int x2, .null]) ⟨Or.inr rfl, Or.inr rfl, Or.inr rfl, Or.inl rfl, trivial⟩ ?_
        exact x_X12_meet_86 hC hE hk0 h_r0 _ _ _
      · refine x_aload_n (i := 0) rfl hC (zdk dk_X12_meet 29 rfl) (q := 51) rfl ?_
        refine x_getR (k := 20) fl_RX12_7 rfl h_r0 hC (zdk dk_X12_meet 30 rfl) (q := 54) rfl (fun q13 hq13 => ?_)
        refine x_iload_n (i := 3) rfl hC (zdk dk_X12_meet 31 rfl) (q := 55) rfl ?_
        refine x_iald hq13 hC (zdk dk_X12_meet 32 rfl) (q := 56) rfl (fun k14 _ => ?_)
        refine x_bipush (i := 100) c_bipush_100 hC (zdk dk_X12_meet 33 rfl) (q := 58) rfl ?_
        refine x_icmp_gt (tgt := 78) hC (zdk dk_X12_meet 34 rfl) (q := 61) rfl rfl (fun _ => ?_) (fun _ => ?_)
        · refine x_weak (L' := [.ref r0, .int x1, .null, .int x3]) ⟨Or.inr rfl, Or.inr rfl, Or.inl rfl, Or.inr rfl, trivial⟩ ?_
          exact x_X12_meet_78 hC hE hk0 h_r0 (f_X12_meet_41 r0 f) ih _ _ _
        · refine x_aload_n (i := 0) rfl hC (zdk dk_X12_meet 35 rfl) (q := 62) rfl ?_
          refine x_getR (k := 20) fl_RX12_7 rfl h_r0 hC (zdk dk_X12_meet 36 rfl) (q := 65) rfl (fun q15 hq15 => ?_)
          refine x_iload_n (i := 3) rfl hC (zdk dk_X12_meet 37 rfl) (q := 66) rfl ?_
          refine x_iconst (i := 1) c_iconst_1 hC (zdk dk_X12_meet 38 rfl) (q := 67) rfl ?_
          refine x_iadd hC (zdk dk_X12_meet 39 rfl) (q := 68) rfl ?_
          refine x_iald hq15 hC (zdk dk_X12_meet 40 rfl) (q := 69) rfl (fun k16 _ => ?_)
          refine x_bipush (i := 64) c_bipush_64 hC (zdk dk_X12_meet 41 rfl) (q := 71) rfl ?_
          refine x_icmp_ge (tgt := 78) hC (zdk dk_X12_meet 42 rfl) (q := 74) rfl rfl (fun _ => ?_) (fun _ => ?_)
          · refine x_weak (L' := [.ref r0, .int x1, .null, .int x3]) ⟨Or.inr rfl, Or.inr rfl, Or.inl rfl, Or.inr rfl, trivial⟩ ?_
            exact x_X12_meet_78 hC hE hk0 h_r0 (f_X12_meet_41 r0 f) ih _ _ _
          · refine x_iconst (i := 1) c_iconst_1 hC (zdk dk_X12_meet 43 rfl) (q := 75) rfl ?_
            refine x_goto (tgt := 79) hC (zdk dk_X12_meet 44 rfl) rfl ?_
            refine x_weak (L' := [.ref r0, .int x1, .null, .int x3]) ⟨Or.inr rfl, Or.inr rfl, Or.inl rfl, Or.inr rfl, trivial⟩ ?_
            exact x_X12_meet_79 hC hE hk0 h_r0 (f_X12_meet_41 r0 f) ih _ _ _ _
set_option maxRecDepth 100000 in
def f_X12_meet_38  (r0 : Nat) (x1 : Int32) (s0 : Int32) (M : Mem) : Option (Int32 × Mem) := f_X12_meet_41 r0 1000000 x1 s0 0 M
set_option maxRecDepth 100000 in
set_option maxHeartbeats 4000000 in
theorem x_X12_meet_38 {κ : KX} {n : Nat} (hC : CX κ cX12_meet RX12 4 (some .int) 1) (hE : zEnd κ n (0, 0)) (hk0 : zRk κ (0, 0)) {r0 : Nat} (h_r0 : zO n r0 12) (x1 : Int32) (s0 : Int32) (M : Mem) : X κ 4 emI n (0, 0) 38 [.ref r0, .int x1, .null, .null] [.int s0] M (f_X12_meet_38 r0 x1 s0 M) := by
  unfold f_X12_meet_38
  refine x_istore_n (i := 2) (L' := [.ref r0, .int x1, .int s0, .null]) (by decide) rfl hC (zdk dk_X12_meet 21 rfl) (q := 39) rfl ?_
  refine x_iconst (i := 0) c_iconst_0 hC (zdk dk_X12_meet 22 rfl) (q := 40) rfl ?_
  refine x_istore_n (i := 3) (L' := [.ref r0, .int x1, .int s0, .int 0]) (by decide) rfl hC (zdk dk_X12_meet 23 rfl) (q := 41) rfl ?_
  refine x_weak (L' := [.ref r0, .int x1, .int s0, .int 0]) ⟨Or.inr rfl, Or.inr rfl, Or.inr rfl, Or.inr rfl, trivial⟩ ?_
  exact x_X12_meet_41 hC hE hk0 h_r0 _ _ _ _ _
set_option maxRecDepth 100000 in
def f_X12_meet_37  (r0 : Nat) (x1 : Int32) (M : Mem) : Option (Int32 × Mem) := f_X12_meet_38 r0 x1 0 M
set_option maxRecDepth 100000 in
set_option maxHeartbeats 4000000 in
theorem x_X12_meet_37 {κ : KX} {n : Nat} (hC : CX κ cX12_meet RX12 4 (some .int) 1) (hE : zEnd κ n (0, 0)) (hk0 : zRk κ (0, 0)) {r0 : Nat} (h_r0 : zO n r0 12) (x1 : Int32) (M : Mem) : X κ 4 emI n (0, 0) 37 [.ref r0, .int x1, .null, .null] [] M (f_X12_meet_37 r0 x1 M) := by
  unfold f_X12_meet_37
  refine x_iconst (i := 0) c_iconst_0 hC (zdk dk_X12_meet 20 rfl) (q := 38) rfl ?_
  refine x_weak (L' := [.ref r0, .int x1, .null, .null]) ⟨Or.inr rfl, Or.inr rfl, Or.inl rfl, Or.inl rfl, trivial⟩ ?_
  exact x_X12_meet_38 hC hE hk0 h_r0 _ _ _
set_option maxRecDepth 100000 in
def f_X12_meet (r0 : Nat) (M : Mem) : Option (Int32 × Mem) := Option.bind (some (zsI M r0 1 0)) fun M17 => (if zI M17 r0 35 = 0 then f_X12_meet_37 r0 (zI M r0 1) M17 else (if zI M r0 1 ≤ 0 then f_X12_meet_37 r0 (zI M r0 1) M17 else (if zrem (zI M r0 1) 2 = 0 then (if 32 < zI M r0 1 then f_X12_meet_37 r0 (zI M r0 1) M17 else f_X12_meet_38 r0 (zI M r0 1) 1 M17) else f_X12_meet_37 r0 (zI M r0 1) M17)))
set_option maxRecDepth 100000 in
set_option maxHeartbeats 4000000 in
theorem x_X12_meet {κ : KX} {n : Nat} (hC : CX κ cX12_meet RX12 4 (some .int) 1) (hE : zEnd κ n (0, 0)) (hk0 : zRk κ (0, 0)) (r0 : Nat) (M : Mem) (h_r0 : zO n r0 12) : X κ 4 emI n (0, 0) 0 [.ref r0, .null, .null, .null] [] M (f_X12_meet r0 M) := by
  unfold f_X12_meet
  refine x_aload_n (i := 0) rfl hC (zdk dk_X12_meet 0 rfl) (q := 1) rfl ?_
  refine x_getI fl_RX12_13 (by decide) h_r0 hC (zdk dk_X12_meet 1 rfl) (q := 4) rfl ?_
  refine x_istore_n (i := 1) (L' := [.ref r0, .int (zI M r0 1), .null, .null]) (by decide) rfl hC (zdk dk_X12_meet 2 rfl) (q := 5) rfl ?_
  refine x_aload_n (i := 0) rfl hC (zdk dk_X12_meet 3 rfl) (q := 6) rfl ?_
  refine x_iconst (i := 0) c_iconst_0 hC (zdk dk_X12_meet 4 rfl) (q := 7) rfl ?_
  refine x_putI fl_RX12_13 ⟨rfl, rfl⟩ (by decide) (Or.inl rfl) h_r0 hC (zdk dk_X12_meet 5 rfl) (q := 10) rfl ?_
  refine x_nmM (fun M17 => ?_)
  refine x_aload_n (i := 0) rfl hC (zdk dk_X12_meet 6 rfl) (q := 11) rfl ?_
  refine x_getI fl_RX12_120 (by decide) h_r0 hC (zdk dk_X12_meet 7 rfl) (q := 14) rfl ?_
  refine x_if_eq (tgt := 37) hC (zdk dk_X12_meet 8 rfl) (q := 17) rfl rfl (fun _ => ?_) (fun _ => ?_)
  · refine x_weak (L' := [.ref r0, .int (zI M r0 1), .null, .null]) ⟨Or.inr rfl, Or.inr rfl, Or.inl rfl, Or.inl rfl, trivial⟩ ?_
    exact x_X12_meet_37 hC hE hk0 h_r0 _ _
  · refine x_iload_n (i := 1) rfl hC (zdk dk_X12_meet 9 rfl) (q := 18) rfl ?_
    refine x_if_le (tgt := 37) hC (zdk dk_X12_meet 10 rfl) (q := 21) rfl rfl (fun _ => ?_) (fun _ => ?_)
    · refine x_weak (L' := [.ref r0, .int (zI M r0 1), .null, .null]) ⟨Or.inr rfl, Or.inr rfl, Or.inl rfl, Or.inl rfl, trivial⟩ ?_
      exact x_X12_meet_37 hC hE hk0 h_r0 _ _
    · refine x_iload_n (i := 1) rfl hC (zdk dk_X12_meet 11 rfl) (q := 22) rfl ?_
      refine x_iconst (i := 2) c_iconst_2 hC (zdk dk_X12_meet 12 rfl) (q := 23) rfl ?_
      refine x_irem (by decide) hC (zdk dk_X12_meet 13 rfl) (q := 24) rfl ?_
      refine x_if_ne (tgt := 37) hC (zdk dk_X12_meet 14 rfl) (q := 27) rfl rfl (fun _ => ?_) (fun _ => ?_)
      · refine x_weak (L' := [.ref r0, .int (zI M r0 1), .null, .null]) ⟨Or.inr rfl, Or.inr rfl, Or.inl rfl, Or.inl rfl, trivial⟩ ?_
        exact x_X12_meet_37 hC hE hk0 h_r0 _ _
      · refine x_iload_n (i := 1) rfl hC (zdk dk_X12_meet 15 rfl) (q := 28) rfl ?_
        refine x_bipush (i := 32) c_bipush_32 hC (zdk dk_X12_meet 16 rfl) (q := 30) rfl ?_
        refine x_icmp_gt (tgt := 37) hC (zdk dk_X12_meet 17 rfl) (q := 33) rfl rfl (fun _ => ?_) (fun _ => ?_)
        · refine x_weak (L' := [.ref r0, .int (zI M r0 1), .null, .null]) ⟨Or.inr rfl, Or.inr rfl, Or.inl rfl, Or.inl rfl, trivial⟩ ?_
          exact x_X12_meet_37 hC hE hk0 h_r0 _ _
        · refine x_iconst (i := 1) c_iconst_1 hC (zdk dk_X12_meet 18 rfl) (q := 34) rfl ?_
          refine x_goto (tgt := 38) hC (zdk dk_X12_meet 19 rfl) rfl ?_
          refine x_weak (L' := [.ref r0, .int (zI M r0 1), .null, .null]) ⟨Or.inr rfl, Or.inr rfl, Or.inl rfl, Or.inl rfl, trivial⟩ ?_
          exact x_X12_meet_38 hC hE hk0 h_r0 _ _ _
set_option maxRecDepth 100000 in
set_option maxHeartbeats 4000000 in
theorem t_X12_meet {n : Nat} {r0 : Nat} {M : Mem} (h_r0 : zO n r0 12) (x : (Int32 × Mem)) (hx : f_X12_meet r0 M = some x) (l : Launch) (dC : Nat → ClassId) (dI : Nat → Nat → Nat) (b : zSg) : MT l dC dI b yX12_meet cX12_meet 4 (some .int) 1 0 0 n n [.ref r0] M (emI x).1 (emI x).2 :=
  MT.ofX (by decide +kernel) rfl (Nat.le_of_ble_eq_true rfl) (fun κ hC hF _ => x_X12_meet hC (zEnd_of hF (Nat.le_refl _) (Nat.le_refl _)) (zRk_of hF (Nat.le_refl _) (Nat.le_refl _)) _ _ h_r0) x hx
set_option maxRecDepth 100000 in
def dt_X12_leaves : List (Nat × Instr × Nat) := [(0, .iconst 0, 1), (1, .istore_n 2, 1), (2, .iconst 0, 1), (3, .istore_n 3, 1), (4, .iload_n 3, 1), (5, .bipush 19, 2), (7, .if_icmp .ge 80, 3), (10, .aload_n 0, 1), (11, .getfield 231, 3), (14, .iload_n 3, 1), (15, .iconst 1, 1), (16, .iastore, 1), (17, .iconst 0, 1), (18, .istore 4, 2), (20, .iload 4, 2), (22, .aload_n 0, 1), (23, .getfield 222, 3), (26, .if_icmp .ge 46, 3), (29, .aload_n 0, 1), (30, .iconst 0, 1), (31, .iload_n 1, 1), (32, .aload_n 0, 1), (33, .getfield 225, 3), (36, .iload 4, 2), (38, .iaload, 1), (39, .iload_n 3, 1), (40, .bipush 9, 2), (42, .isub, 1), (43, .invokevirtual 512, 3), (46, .invokestatic 452, 3), (49, .aload_n 0, 1), (50, .getfield 228, 3), (53, .iload 4, 2), (55, .iaload, 1), (56, .if_icmp .eq 10, 3), (59, .aload_n 0, 1), (60, .getfield 231, 3), (63, .iload_n 3, 1), (64, .iconst 0, 1), (65, .iastore, 1), (66, .iinc 4 1, 3), (69, .goto (-49), 3), (72, .iload_n 2, 1), (73, .aload_n 0, 1), (74, .getfield 231, 3), (77, .iload_n 3, 1), (78, .iaload, 1), (79, .iadd, 1), (80, .istore_n 2, 1), (81, .iinc 3 1, 3), (84, .goto (-80), 3), (87, .iload_n 2, 1), (88, .ireturn, 1)]
set_option maxRecDepth 100000 in
theorem dk_X12_leaves : dt_X12_leaves.all (fun q => decide (decode cX12_leaves q.1 = .ok q.2)) = true := by decide +kernel
set_option maxRecDepth 100000 in
def f_X12_leaves_66 (k4 : Int32 → Int32 → Mem → Option (Int32 × Mem)) (k20 : Int32 → Int32 → Int32 → Mem → Option (Int32 × Mem)) (r0 : Nat) (x1 : Int32) (x2 : Int32) (x3 : Int32) (x4 : Int32) (M : Mem) : Option (Int32 × Mem) := k20 x2 x3 (x4 + 1) M
set_option maxRecDepth 100000 in
set_option maxHeartbeats 4000000 in
theorem x_X12_leaves_66 {κ : KX} {n : Nat} (hC : CX κ cX12_leaves RX12 5 (some .int) 2) (hE : zEnd κ n (0, 0)) (hk0 : zRk κ (0, 0)) {r0 : Nat} {x1 : Int32} (h_r0 : zO n r0 12) (k4 : Int32 → Int32 → Mem → Option (Int32 × Mem)) (hk4 : ∀ (x2 : Int32) (x3 : Int32) (M : Mem), X κ 5 emI n (0, 0) 4 [.ref r0, .int x1, .int x2, .int x3, .null] [] M (k4 x2 x3 M)) (k20 : Int32 → Int32 → Int32 → Mem → Option (Int32 × Mem)) (hk20 : ∀ (x2 : Int32) (x3 : Int32) (x4 : Int32) (M : Mem), X κ 5 emI n (0, 0) 20 [.ref r0, .int x1, .int x2, .int x3, .int x4] [] M (k20 x2 x3 x4 M)) (x2 : Int32) (x3 : Int32) (x4 : Int32) (M : Mem) : X κ 5 emI n (0, 0) 66 [.ref r0, .int x1, .int x2, .int x3, .int x4] [] M (f_X12_leaves_66 k4 k20 r0 x1 x2 x3 x4 M) := by
  unfold f_X12_leaves_66
  refine x_iinc (i := 4) c_iconst_1 rfl (by decide) (L' := [.ref r0, .int x1, .int x2, .int x3, .int (x4 + 1)]) rfl hC (zdk dk_X12_leaves 40 rfl) (q := 69) rfl ?_
  refine x_goto (tgt := 20) hC (zdk dk_X12_leaves 41 rfl) rfl ?_
  refine x_weak (L' := [.ref r0, .int x1, .int x2, .int x3, .int (x4 + 1)]) ⟨Or.inr rfl, Or.inr rfl, Or.inr rfl, Or.inr rfl, Or.inr rfl, trivial⟩ ?_
  exact hk20 _ _ _ _
set_option maxRecDepth 100000 in
def f_X12_leaves_20 (k4 : Int32 → Int32 → Mem → Option (Int32 × Mem)) (r0 : Nat) (x1 : Int32) : Nat → Int32 → Int32 → Int32 → Mem → Option (Int32 × Mem)
  | 0, _, _, _, _ => none
  | f + 1, x2, x3, x4, M => (if zI M r0 69 ≤ x4 then Option.bind (zrf M r0 72) fun q1 => Option.bind (zld q1 x3) fun k2 => k4 (x2 + (zI M q1 k2)) (x3 + 1) M else Option.bind (zrf M r0 70) fun q3 => Option.bind (zld q3 x4) fun k5 => Option.bind (f_X12_bitsBy r0 0 x1 (zI M q3 k5) (x3 - 9) M) fun z6 => Option.bind (f_X12_onesOf z6.1 z6.2) fun z7 => Option.bind (zrf z7.2 r0 71) fun q8 => Option.bind (zld q8 x4) fun k9 => (if z7.1 = zI z7.2 q8 k9 then f_X12_leaves_66 k4 (f_X12_leaves_20 k4 r0 x1 f) r0 x1 x2 x3 x4 z7.2 else Option.bind (zrf z7.2 r0 72) fun q10 => Option.bind (zld q10 x3) fun k11 => Option.bind (some (zsI z7.2 q10 k11 0)) fun M12 => f_X12_leaves_66 k4 (f_X12_leaves_20 k4 r0 x1 f) r0 x1 x2 x3 x4 M12))
set_option maxRecDepth 100000 in
set_option maxHeartbeats 4000000 in
theorem x_X12_leaves_20 {κ : KX} {n : Nat} (hC : CX κ cX12_leaves RX12 5 (some .int) 2) (hE : zEnd κ n (0, 0)) (hk0 : zRk κ (0, 0)) {r0 : Nat} {x1 : Int32} (h_r0 : zO n r0 12) (k4 : Int32 → Int32 → Mem → Option (Int32 × Mem)) (hk4 : ∀ (x2 : Int32) (x3 : Int32) (M : Mem), X κ 5 emI n (0, 0) 4 [.ref r0, .int x1, .int x2, .int x3, .null] [] M (k4 x2 x3 M)) : ∀ (f : Nat) (x2 : Int32) (x3 : Int32) (x4 : Int32) (M : Mem), X κ 5 emI n (0, 0) 20 [.ref r0, .int x1, .int x2, .int x3, .int x4] [] M (f_X12_leaves_20 k4 r0 x1 f x2 x3 x4 M) := by
  intro f
  induction f with
  | zero => intros; exact x_none
  | succ f ih =>
    intro x2 x3 x4 M 
    rw [f_X12_leaves_20]
    refine x_iload (i := 4) rfl hC (zdk dk_X12_leaves 14 rfl) (q := 22) rfl ?_
    refine x_aload_n (i := 0) rfl hC (zdk dk_X12_leaves 15 rfl) (q := 23) rfl ?_
    refine x_getI fl_RX12_222 (by decide) h_r0 hC (zdk dk_X12_leaves 16 rfl) (q := 26) rfl ?_
    refine x_icmp_ge (tgt := 72) hC (zdk dk_X12_leaves 17 rfl) (q := 29) rfl rfl (fun _ => ?_) (fun _ => ?_)
    · refine x_iload_n (i := 2) rfl hC (zdk dk_X12_leaves 42 rfl) (q := 73) rfl ?_
      refine x_aload_n (i := 0) rfl hC (zdk dk_X12_leaves 43 rfl) (q := 74) rfl ?_
      refine x_getR (k := 20) fl_RX12_231 rfl h_r0 hC (zdk dk_X12_leaves 44 rfl) (q := 77) rfl (fun q1 hq1 => ?_)
      refine x_iload_n (i := 3) rfl hC (zdk dk_X12_leaves 45 rfl) (q := 78) rfl ?_
      refine x_iald hq1 hC (zdk dk_X12_leaves 46 rfl) (q := 79) rfl (fun k2 _ => ?_)
      refine x_iadd hC (zdk dk_X12_leaves 47 rfl) (q := 80) rfl ?_
      refine x_istore_n (i := 2) (L' := [.ref r0, .int x1, .int (x2 + (zI M q1 k2)), .int x3, .int x4]) (by decide) rfl hC (zdk dk_X12_leaves 48 rfl) (q := 81) rfl ?_
      refine x_iinc (i := 3) c_iconst_1 rfl (by decide) (L' := [.ref r0, .int x1, .int (x2 + (zI M q1 k2)), .int (x3 + 1), .int x4]) rfl hC (zdk dk_X12_leaves 49 rfl) (q := 84) rfl ?_
      refine x_goto (tgt := 4) hC (zdk dk_X12_leaves 50 rfl) rfl ?_
      refine x_weak (L' := [.ref r0, .int x1, .int (x2 + (zI M q1 k2)), .int (x3 + 1), .null]) ⟨Or.inr rfl, Or.inr rfl, Or.inr rfl, Or.inr rfl, Or.inl rfl, trivial⟩ ?_
      exact hk4 _ _ _
    · refine x_aload_n (i := 0) rfl hC (zdk dk_X12_leaves 18 rfl) (q := 30) rfl ?_
      refine x_iconst (i := 0) c_iconst_0 hC (zdk dk_X12_leaves 19 rfl) (q := 31) rfl ?_
      refine x_iload_n (i := 1) rfl hC (zdk dk_X12_leaves 20 rfl) (q := 32) rfl ?_
      refine x_aload_n (i := 0) rfl hC (zdk dk_X12_leaves 21 rfl) (q := 33) rfl ?_
      refine x_getR (k := 20) fl_RX12_225 rfl h_r0 hC (zdk dk_X12_leaves 22 rfl) (q := 36) rfl (fun q3 hq3 => ?_)
      refine x_iload (i := 4) rfl hC (zdk dk_X12_leaves 23 rfl) (q := 38) rfl ?_
      refine x_iald hq3 hC (zdk dk_X12_leaves 24 rfl) (q := 39) rfl (fun k5 _ => ?_)
      refine x_iload_n (i := 3) rfl hC (zdk dk_X12_leaves 25 rfl) (q := 40) rfl ?_
      refine x_bipush (i := 9) c_bipush_9 hC (zdk dk_X12_leaves 26 rfl) (q := 42) rfl ?_
      refine x_isub hC (zdk dk_X12_leaves 27 rfl) (q := 43) rfl ?_
      refine x_callVl (as := [.int 0, .int x1, .int (zI M q3 k5), .int (x3 - 9)]) cb_RX12_512 rfl (by decide) hk0 h_r0 (fun x hx => t_X12_bitsBy h_r0 x hx) hC (zdk dk_X12_leaves 28 rfl) (q := 46) rfl rfl (Nat.le_of_ble_eq_true rfl) (fun z6 => ?_)
      refine x_callSi (as := [.long z6.1]) cb_RX12_452 rfl (by decide) hk0 (fun x hx => t_X12_onesOf  x hx) hC (zdk dk_X12_leaves 29 rfl) (q := 49) rfl rfl (Nat.le_of_ble_eq_true rfl) (fun z7 => ?_)
      refine x_aload_n (i := 0) rfl hC (zdk dk_X12_leaves 30 rfl) (q := 50) rfl ?_
      refine x_getR (k := 20) fl_RX12_228 rfl h_r0 hC (zdk dk_X12_leaves 31 rfl) (q := 53) rfl (fun q8 hq8 => ?_)
      refine x_iload (i := 4) rfl hC (zdk dk_X12_leaves 32 rfl) (q := 55) rfl ?_
      refine x_iald hq8 hC (zdk dk_X12_leaves 33 rfl) (q := 56) rfl (fun k9 _ => ?_)
      refine x_icmp_eq (tgt := 66) hC (zdk dk_X12_leaves 34 rfl) (q := 59) rfl rfl (fun _ => ?_) (fun _ => ?_)
      · refine x_weak (L' := [.ref r0, .int x1, .int x2, .int x3, .int x4]) ⟨Or.inr rfl, Or.inr rfl, Or.inr rfl, Or.inr rfl, Or.inr rfl, trivial⟩ ?_
        exact x_X12_leaves_66 hC hE hk0 h_r0 k4 hk4 (f_X12_leaves_20 k4 r0 x1 f) ih _ _ _ _
      · refine x_aload_n (i := 0) rfl hC (zdk dk_X12_leaves 35 rfl) (q := 60) rfl ?_
        refine x_getR (k := 20) fl_RX12_231 rfl h_r0 hC (zdk dk_X12_leaves 36 rfl) (q := 63) rfl (fun q10 hq10 => ?_)
        refine x_iload_n (i := 3) rfl hC (zdk dk_X12_leaves 37 rfl) (q := 64) rfl ?_
        refine x_iconst (i := 0) c_iconst_0 hC (zdk dk_X12_leaves 38 rfl) (q := 65) rfl ?_
        refine x_iast hq10 hC (zdk dk_X12_leaves 39 rfl) (q := 66) rfl (fun k11 _ => ?_)
        refine x_nmM (fun M12 => ?_)
        refine x_weak (L' := [.ref r0, .int x1, .int x2, .int x3, .int x4]) ⟨Or.inr rfl, Or.inr rfl, Or.inr rfl, Or.inr rfl, Or.inr rfl, trivial⟩ ?_
        exact x_X12_leaves_66 hC hE hk0 h_r0 k4 hk4 (f_X12_leaves_20 k4 r0 x1 f) ih _ _ _ _
set_option maxRecDepth 100000 in
def f_X12_leaves_4  (r0 : Nat) (x1 : Int32) : Nat → Int32 → Int32 → Mem → Option (Int32 × Mem)
  | 0, _, _, _ => none
  | f + 1, x2, x3, M => (if 19 ≤ x3 then some (x2, M) else Option.bind (zrf M r0 72) fun q13 => Option.bind (zld q13 x3) fun k14 => Option.bind (some (zsI M q13 k14 1)) fun M15 => f_X12_leaves_20 (f_X12_leaves_4 r0 x1 f) r0 x1 1000000 x2 x3 0 M15)
set_option maxRecDepth 100000 in
set_option maxHeartbeats 4000000 in
theorem x_X12_leaves_4 {κ : KX} {n : Nat} (hC : CX κ cX12_leaves RX12 5 (some .int) 2) (hE : zEnd κ n (0, 0)) (hk0 : zRk κ (0, 0)) {r0 : Nat} {x1 : Int32} (h_r0 : zO n r0 12) : ∀ (f : Nat) (x2 : Int32) (x3 : Int32) (M : Mem), X κ 5 emI n (0, 0) 4 [.ref r0, .int x1, .int x2, .int x3, .null] [] M (f_X12_leaves_4 r0 x1 f x2 x3 M) := by
  intro f
  induction f with
  | zero => intros; exact x_none
  | succ f ih =>
    intro x2 x3 M 
    rw [f_X12_leaves_4]
    refine x_iload_n (i := 3) rfl hC (zdk dk_X12_leaves 4 rfl) (q := 5) rfl ?_
    refine x_bipush (i := 19) c_bipush_19 hC (zdk dk_X12_leaves 5 rfl) (q := 7) rfl ?_
    refine x_icmp_ge (tgt := 87) hC (zdk dk_X12_leaves 6 rfl) (q := 10) rfl rfl (fun _ => ?_) (fun _ => ?_)
    · refine x_iload_n (i := 2) rfl hC (zdk dk_X12_leaves 51 rfl) (q := 88) rfl ?_
      exact x_iret (ty := .int) rfl hE hC (zdk dk_X12_leaves 52 rfl)
    · refine x_aload_n (i := 0) rfl hC (zdk dk_X12_leaves 7 rfl) (q := 11) rfl ?_
      refine x_getR (k := 20) fl_RX12_231 rfl h_r0 hC (zdk dk_X12_leaves 8 rfl) (q := 14) rfl (fun q13 hq13 => ?_)
      refine x_iload_n (i := 3) rfl hC (zdk dk_X12_leaves 9 rfl) (q := 15) rfl ?_
      refine x_iconst (i := 1) c_iconst_1 hC (zdk dk_X12_leaves 10 rfl) (q := 16) rfl ?_
      refine x_iast hq13 hC (zdk dk_X12_leaves 11 rfl) (q := 17) rfl (fun k14 _ => ?_)
      refine x_nmM (fun M15 => ?_)
      refine x_iconst (i := 0) c_iconst_0 hC (zdk dk_X12_leaves 12 rfl) (q := 18) rfl ?_
      refine x_istore (i := 4) (L' := [.ref r0, .int x1, .int x2, .int x3, .int 0]) (by decide) rfl hC (zdk dk_X12_leaves 13 rfl) (q := 20) rfl ?_
      refine x_weak (L' := [.ref r0, .int x1, .int x2, .int x3, .int 0]) ⟨Or.inr rfl, Or.inr rfl, Or.inr rfl, Or.inr rfl, Or.inr rfl, trivial⟩ ?_
      exact x_X12_leaves_20 hC hE hk0 h_r0 (f_X12_leaves_4 r0 x1 f) ih _ _ _ _ _
set_option maxRecDepth 100000 in
def f_X12_leaves (r0 : Nat) (x1 : Int32) (M : Mem) : Option (Int32 × Mem) := f_X12_leaves_4 r0 x1 1000000 0 0 M
set_option maxRecDepth 100000 in
set_option maxHeartbeats 4000000 in
theorem x_X12_leaves {κ : KX} {n : Nat} (hC : CX κ cX12_leaves RX12 5 (some .int) 2) (hE : zEnd κ n (0, 0)) (hk0 : zRk κ (0, 0)) (r0 : Nat) (x1 : Int32) (M : Mem) (h_r0 : zO n r0 12) : X κ 5 emI n (0, 0) 0 [.ref r0, .int x1, .null, .null, .null] [] M (f_X12_leaves r0 x1 M) := by
  unfold f_X12_leaves
  refine x_iconst (i := 0) c_iconst_0 hC (zdk dk_X12_leaves 0 rfl) (q := 1) rfl ?_
  refine x_istore_n (i := 2) (L' := [.ref r0, .int x1, .int 0, .null, .null]) (by decide) rfl hC (zdk dk_X12_leaves 1 rfl) (q := 2) rfl ?_
  refine x_iconst (i := 0) c_iconst_0 hC (zdk dk_X12_leaves 2 rfl) (q := 3) rfl ?_
  refine x_istore_n (i := 3) (L' := [.ref r0, .int x1, .int 0, .int 0, .null]) (by decide) rfl hC (zdk dk_X12_leaves 3 rfl) (q := 4) rfl ?_
  refine x_weak (L' := [.ref r0, .int x1, .int 0, .int 0, .null]) ⟨Or.inr rfl, Or.inr rfl, Or.inr rfl, Or.inr rfl, Or.inl rfl, trivial⟩ ?_
  exact x_X12_leaves_4 hC hE hk0 h_r0 _ _ _ _
set_option maxRecDepth 100000 in
set_option maxHeartbeats 4000000 in
theorem t_X12_leaves {n : Nat} {r0 : Nat} {x1 : Int32} {M : Mem} (h_r0 : zO n r0 12) (x : (Int32 × Mem)) (hx : f_X12_leaves r0 x1 M = some x) (l : Launch) (dC : Nat → ClassId) (dI : Nat → Nat → Nat) (b : zSg) : MT l dC dI b yX12_leaves cX12_leaves 5 (some .int) 2 0 0 n n [.ref r0, .int x1] M (emI x).1 (emI x).2 :=
  MT.ofX (by decide +kernel) rfl (Nat.le_of_ble_eq_true rfl) (fun κ hC hF _ => x_X12_leaves hC (zEnd_of hF (Nat.le_refl _) (Nat.le_refl _)) (zRk_of hF (Nat.le_refl _) (Nat.le_refl _)) _ _ _ h_r0) x hx
set_option maxRecDepth 100000 in
def dt_X12_shifts : List (Nat × Instr × Nat) := [(0, .aload_n 0, 1), (1, .iload_n 1, 1), (2, .invokevirtual 536, 3), (5, .ifCond .eq 8, 3), (8, .iload_n 2, 1), (9, .iconst (-1), 1), (10, .if_icmp .ge 7, 3), (13, .sipush (-1000), 3), (16, .ireturn, 1), (17, .aload_n 0, 1), (18, .iload_n 1, 1), (19, .invokevirtual 550, 3), (22, .istore_n 3, 1), (23, .iload_n 2, 1), (24, .iconst (-1), 1), (25, .if_icmp .ne 5, 3), (28, .iload_n 3, 1), (29, .ireturn, 1), (30, .iconst 0, 1), (31, .istore 4, 2), (33, .iconst 0, 1), (34, .istore 5, 2), (36, .iload 5, 2), (38, .bipush 19, 2), (40, .if_icmp .ge 44, 3), (43, .aload_n 0, 1), (44, .getfield 231, 3), (47, .iload 5, 2), (49, .iaload, 1), (50, .iconst 1, 1), (51, .if_icmp .ne 15, 3), (54, .iload 4, 2), (56, .iload_n 2, 1), (57, .if_icmp .ne 9, 3), (60, .iload 5, 2), (62, .bipush 9, 2), (64, .isub, 1), (65, .ireturn, 1), (66, .iload 4, 2), (68, .aload_n 0, 1), (69, .getfield 231, 3), (72, .iload 5, 2), (74, .iaload, 1), (75, .iadd, 1), (76, .istore 4, 2), (78, .iinc 5 1, 3), (81, .goto (-45), 3), (84, .sipush (-1000), 3), (87, .ireturn, 1)]
set_option maxRecDepth 100000 in
theorem dk_X12_shifts : dt_X12_shifts.all (fun q => decide (decode cX12_shifts q.1 = .ok q.2)) = true := by decide +kernel
set_option maxRecDepth 100000 in
def f_X12_shifts_13  (r0 : Nat) (x1 : Int32) (x2 : Int32)  (M : Mem) : Option (Int32 × Mem) := some ((-1000), M)
set_option maxRecDepth 100000 in
set_option maxHeartbeats 4000000 in
theorem x_X12_shifts_13 {κ : KX} {n : Nat} (hC : CX κ cX12_shifts RX12 6 (some .int) 3) (hE : zEnd κ n (0, 0)) (hk0 : zRk κ (0, 0)) {r0 : Nat} {x1 : Int32} {x2 : Int32} (h_r0 : zO n r0 12) (M : Mem) : X κ 6 emI n (0, 0) 13 [.null, .null, .null, .null, .null, .null] [] M (f_X12_shifts_13 r0 x1 x2 M) := by
  unfold f_X12_shifts_13
  refine x_sipush (i := (-1000)) c_sipush_m1000 hC (zdk dk_X12_shifts 7 rfl) (q := 16) rfl ?_
  exact x_iret (ty := .int) rfl hE hC (zdk dk_X12_shifts 8 rfl)
set_option maxRecDepth 100000 in
def f_X12_shifts_66 (k36 : Int32 → Int32 → Mem → Option (Int32 × Mem)) (r0 : Nat) (x1 : Int32) (x2 : Int32) (x4 : Int32) (x5 : Int32) (M : Mem) : Option (Int32 × Mem) := Option.bind (zrf M r0 72) fun q1 => Option.bind (zld q1 x5) fun k2 => k36 (x4 + (zI M q1 k2)) (x5 + 1) M
set_option maxRecDepth 100000 in
set_option maxHeartbeats 4000000 in
theorem x_X12_shifts_66 {κ : KX} {n : Nat} (hC : CX κ cX12_shifts RX12 6 (some .int) 3) (hE : zEnd κ n (0, 0)) (hk0 : zRk κ (0, 0)) {r0 : Nat} {x1 : Int32} {x2 : Int32} (h_r0 : zO n r0 12) (k36 : Int32 → Int32 → Mem → Option (Int32 × Mem)) (hk36 : ∀ (x4 : Int32) (x5 : Int32) (M : Mem), X κ 6 emI n (0, 0) 36 [.ref r0, .null, .int x2, .null, .int x4, .int x5] [] M (k36 x4 x5 M)) (x4 : Int32) (x5 : Int32) (M : Mem) : X κ 6 emI n (0, 0) 66 [.ref r0, .null, .int x2, .null, .int x4, .int x5] [] M (f_X12_shifts_66 k36 r0 x1 x2 x4 x5 M) := by
  unfold f_X12_shifts_66
  refine x_iload (i := 4) rfl hC (zdk dk_X12_shifts 38 rfl) (q := 68) rfl ?_
  refine x_aload_n (i := 0) rfl hC (zdk dk_X12_shifts 39 rfl) (q := 69) rfl ?_
  refine x_getR (k := 20) fl_RX12_231 rfl h_r0 hC (zdk dk_X12_shifts 40 rfl) (q := 72) rfl (fun q1 hq1 => ?_)
  refine x_iload (i := 5) rfl hC (zdk dk_X12_shifts 41 rfl) (q := 74) rfl ?_
  refine x_iald hq1 hC (zdk dk_X12_shifts 42 rfl) (q := 75) rfl (fun k2 _ => ?_)
  refine x_iadd hC (zdk dk_X12_shifts 43 rfl) (q := 76) rfl ?_
  refine x_istore (i := 4) (L' := [.ref r0, .null, .int x2, .null, .int (x4 + (zI M q1 k2)), .int x5]) (by decide) rfl hC (zdk dk_X12_shifts 44 rfl) (q := 78) rfl ?_
  refine x_iinc (i := 5) c_iconst_1 rfl (by decide) (L' := [.ref r0, .null, .int x2, .null, .int (x4 + (zI M q1 k2)), .int (x5 + 1)]) rfl hC (zdk dk_X12_shifts 45 rfl) (q := 81) rfl ?_
  refine x_goto (tgt := 36) hC (zdk dk_X12_shifts 46 rfl) rfl ?_
  refine x_weak (L' := [.ref r0, .null, .int x2, .null, .int (x4 + (zI M q1 k2)), .int (x5 + 1)]) ⟨Or.inr rfl, Or.inl rfl, Or.inr rfl, Or.inl rfl, Or.inr rfl, Or.inr rfl, trivial⟩ ?_
  exact hk36 _ _ _
set_option maxRecDepth 100000 in
def f_X12_shifts_36  (r0 : Nat) (x1 : Int32) (x2 : Int32) : Nat → Int32 → Int32 → Mem → Option (Int32 × Mem)
  | 0, _, _, _ => none
  | f + 1, x4, x5, M => (if 19 ≤ x5 then some ((-1000), M) else Option.bind (zrf M r0 72) fun q3 => Option.bind (zld q3 x5) fun k4 => (if zI M q3 k4 = 1 then (if x4 = x2 then some (x5 - 9, M) else f_X12_shifts_66 (f_X12_shifts_36 r0 x1 x2 f) r0 x1 x2 x4 x5 M) else f_X12_shifts_66 (f_X12_shifts_36 r0 x1 x2 f) r0 x1 x2 x4 x5 M))
set_option maxRecDepth 100000 in
set_option maxHeartbeats 4000000 in
theorem x_X12_shifts_36 {κ : KX} {n : Nat} (hC : CX κ cX12_shifts RX12 6 (some .int) 3) (hE : zEnd κ n (0, 0)) (hk0 : zRk κ (0, 0)) {r0 : Nat} {x1 : Int32} {x2 : Int32} (h_r0 : zO n r0 12) : ∀ (f : Nat) (x4 : Int32) (x5 : Int32) (M : Mem), X κ 6 emI n (0, 0) 36 [.ref r0, .null, .int x2, .null, .int x4, .int x5] [] M (f_X12_shifts_36 r0 x1 x2 f x4 x5 M) := by
  intro f
  induction f with
  | zero => intros; exact x_none
  | succ f ih =>
    intro x4 x5 M 
    rw [f_X12_shifts_36]
    refine x_iload (i := 5) rfl hC (zdk dk_X12_shifts 22 rfl) (q := 38) rfl ?_
    refine x_bipush (i := 19) c_bipush_19 hC (zdk dk_X12_shifts 23 rfl) (q := 40) rfl ?_
    refine x_icmp_ge (tgt := 84) hC (zdk dk_X12_shifts 24 rfl) (q := 43) rfl rfl (fun _ => ?_) (fun _ => ?_)
    · refine x_sipush (i := (-1000)) c_sipush_m1000 hC (zdk dk_X12_shifts 47 rfl) (q := 87) rfl ?_
      exact x_iret (ty := .int) rfl hE hC (zdk dk_X12_shifts 48 rfl)
    · refine x_aload_n (i := 0) rfl hC (zdk dk_X12_shifts 25 rfl) (q := 44) rfl ?_
      refine x_getR (k := 20) fl_RX12_231 rfl h_r0 hC (zdk dk_X12_shifts 26 rfl) (q := 47) rfl (fun q3 hq3 => ?_)
      refine x_iload (i := 5) rfl hC (zdk dk_X12_shifts 27 rfl) (q := 49) rfl ?_
      refine x_iald hq3 hC (zdk dk_X12_shifts 28 rfl) (q := 50) rfl (fun k4 _ => ?_)
      refine x_iconst (i := 1) c_iconst_1 hC (zdk dk_X12_shifts 29 rfl) (q := 51) rfl ?_
      refine x_icmp_ne (tgt := 66) hC (zdk dk_X12_shifts 30 rfl) (q := 54) rfl rfl (fun _ => ?_) (fun _ => ?_)
      · refine x_weak (L' := [.ref r0, .null, .int x2, .null, .int x4, .int x5]) ⟨Or.inr rfl, Or.inl rfl, Or.inr rfl, Or.inl rfl, Or.inr rfl, Or.inr rfl, trivial⟩ ?_
        exact x_X12_shifts_66 hC hE hk0 h_r0 (f_X12_shifts_36 r0 x1 x2 f) ih _ _ _
      · refine x_iload (i := 4) rfl hC (zdk dk_X12_shifts 31 rfl) (q := 56) rfl ?_
        refine x_iload_n (i := 2) rfl hC (zdk dk_X12_shifts 32 rfl) (q := 57) rfl ?_
        refine x_icmp_ne (tgt := 66) hC (zdk dk_X12_shifts 33 rfl) (q := 60) rfl rfl (fun _ => ?_) (fun _ => ?_)
        · refine x_weak (L' := [.ref r0, .null, .int x2, .null, .int x4, .int x5]) ⟨Or.inr rfl, Or.inl rfl, Or.inr rfl, Or.inl rfl, Or.inr rfl, Or.inr rfl, trivial⟩ ?_
          exact x_X12_shifts_66 hC hE hk0 h_r0 (f_X12_shifts_36 r0 x1 x2 f) ih _ _ _
        · refine x_iload (i := 5) rfl hC (zdk dk_X12_shifts 34 rfl) (q := 62) rfl ?_
          refine x_bipush (i := 9) c_bipush_9 hC (zdk dk_X12_shifts 35 rfl) (q := 64) rfl ?_
          refine x_isub hC (zdk dk_X12_shifts 36 rfl) (q := 65) rfl ?_
          exact x_iret (ty := .int) rfl hE hC (zdk dk_X12_shifts 37 rfl)
set_option maxRecDepth 100000 in
def f_X12_shifts (r0 : Nat) (x1 : Int32) (x2 : Int32) (M : Mem) : Option (Int32 × Mem) := Option.bind (f_X12_isThere r0 x1 M) fun z5 => (if z5.1 = 0 then f_X12_shifts_13 r0 x1 x2 z5.2 else (if (-1) ≤ x2 then Option.bind (f_X12_leaves r0 x1 z5.2) fun z6 => (if x2 = (-1) then some (z6.1, z6.2) else f_X12_shifts_36 r0 x1 x2 1000000 0 0 z6.2) else f_X12_shifts_13 r0 x1 x2 z5.2))
set_option maxRecDepth 100000 in
set_option maxHeartbeats 4000000 in
theorem x_X12_shifts {κ : KX} {n : Nat} (hC : CX κ cX12_shifts RX12 6 (some .int) 3) (hE : zEnd κ n (0, 0)) (hk0 : zRk κ (0, 0)) (r0 : Nat) (x1 : Int32) (x2 : Int32) (M : Mem) (h_r0 : zO n r0 12) : X κ 6 emI n (0, 0) 0 [.ref r0, .int x1, .int x2, .null, .null, .null] [] M (f_X12_shifts r0 x1 x2 M) := by
  unfold f_X12_shifts
  refine x_aload_n (i := 0) rfl hC (zdk dk_X12_shifts 0 rfl) (q := 1) rfl ?_
  refine x_iload_n (i := 1) rfl hC (zdk dk_X12_shifts 1 rfl) (q := 2) rfl ?_
  refine x_callVi (as := [.int x1]) cb_RX12_536 rfl (by decide) hk0 h_r0 (fun x hx => t_X12_isThere h_r0 x hx) hC (zdk dk_X12_shifts 2 rfl) (q := 5) rfl rfl (Nat.le_of_ble_eq_true rfl) (fun z5 => ?_)
  refine x_if_eq (tgt := 13) hC (zdk dk_X12_shifts 3 rfl) (q := 8) rfl rfl (fun _ => ?_) (fun _ => ?_)
  · refine x_weak (L' := [.null, .null, .null, .null, .null, .null]) ⟨Or.inl rfl, Or.inl rfl, Or.inl rfl, Or.inl rfl, Or.inl rfl, Or.inl rfl, trivial⟩ ?_
    exact x_X12_shifts_13 hC hE hk0 h_r0 _
  · refine x_iload_n (i := 2) rfl hC (zdk dk_X12_shifts 4 rfl) (q := 9) rfl ?_
    refine x_iconst (i := (-1)) c_iconst_m1 hC (zdk dk_X12_shifts 5 rfl) (q := 10) rfl ?_
    refine x_icmp_ge (tgt := 17) hC (zdk dk_X12_shifts 6 rfl) (q := 13) rfl rfl (fun _ => ?_) (fun _ => ?_)
    · refine x_aload_n (i := 0) rfl hC (zdk dk_X12_shifts 9 rfl) (q := 18) rfl ?_
      refine x_iload_n (i := 1) rfl hC (zdk dk_X12_shifts 10 rfl) (q := 19) rfl ?_
      refine x_callVi (as := [.int x1]) cb_RX12_550 rfl (by decide) hk0 h_r0 (fun x hx => t_X12_leaves h_r0 x hx) hC (zdk dk_X12_shifts 11 rfl) (q := 22) rfl rfl (Nat.le_of_ble_eq_true rfl) (fun z6 => ?_)
      refine x_istore_n (i := 3) (L' := [.ref r0, .int x1, .int x2, .int z6.1, .null, .null]) (by decide) rfl hC (zdk dk_X12_shifts 12 rfl) (q := 23) rfl ?_
      refine x_iload_n (i := 2) rfl hC (zdk dk_X12_shifts 13 rfl) (q := 24) rfl ?_
      refine x_iconst (i := (-1)) c_iconst_m1 hC (zdk dk_X12_shifts 14 rfl) (q := 25) rfl ?_
      refine x_icmp_ne (tgt := 30) hC (zdk dk_X12_shifts 15 rfl) (q := 28) rfl rfl (fun _ => ?_) (fun _ => ?_)
      · refine x_iconst (i := 0) c_iconst_0 hC (zdk dk_X12_shifts 18 rfl) (q := 31) rfl ?_
        refine x_istore (i := 4) (L' := [.ref r0, .int x1, .int x2, .int z6.1, .int 0, .null]) (by decide) rfl hC (zdk dk_X12_shifts 19 rfl) (q := 33) rfl ?_
        refine x_iconst (i := 0) c_iconst_0 hC (zdk dk_X12_shifts 20 rfl) (q := 34) rfl ?_
        refine x_istore (i := 5) (L' := [.ref r0, .int x1, .int x2, .int z6.1, .int 0, .int 0]) (by decide) rfl hC (zdk dk_X12_shifts 21 rfl) (q := 36) rfl ?_
        refine x_weak (L' := [.ref r0, .null, .int x2, .null, .int 0, .int 0]) ⟨Or.inr rfl, Or.inl rfl, Or.inr rfl, Or.inl rfl, Or.inr rfl, Or.inr rfl, trivial⟩ ?_
        exact x_X12_shifts_36 hC hE hk0 h_r0 _ _ _ _
      · refine x_iload_n (i := 3) rfl hC (zdk dk_X12_shifts 16 rfl) (q := 29) rfl ?_
        exact x_iret (ty := .int) rfl hE hC (zdk dk_X12_shifts 17 rfl)
    · refine x_weak (L' := [.null, .null, .null, .null, .null, .null]) ⟨Or.inl rfl, Or.inl rfl, Or.inl rfl, Or.inl rfl, Or.inl rfl, Or.inl rfl, trivial⟩ ?_
      exact x_X12_shifts_13 hC hE hk0 h_r0 _
set_option maxRecDepth 100000 in
set_option maxHeartbeats 4000000 in
theorem t_X12_shifts {n : Nat} {r0 : Nat} {x1 : Int32} {x2 : Int32} {M : Mem} (h_r0 : zO n r0 12) (x : (Int32 × Mem)) (hx : f_X12_shifts r0 x1 x2 M = some x) (l : Launch) (dC : Nat → ClassId) (dI : Nat → Nat → Nat) (b : zSg) : MT l dC dI b yX12_shifts cX12_shifts 6 (some .int) 3 0 0 n n [.ref r0, .int x1, .int x2] M (emI x).1 (emI x).2 :=
  MT.ofX (by decide +kernel) rfl (Nat.le_of_ble_eq_true rfl) (fun κ hC hF _ => x_X12_shifts hC (zEnd_of hF (Nat.le_refl _) (Nat.le_refl _)) (zRk_of hF (Nat.le_refl _) (Nat.le_refl _)) _ _ _ _ h_r0) x hx
set_option maxRecDepth 100000 in
def dt_X12_mostBy : List (Nat × Instr × Nat) := [(0, .iconst 0, 1), (1, .istore_n 3, 1), (2, .iload_n 3, 1), (3, .bipush 64, 2), (5, .if_icmp .ge 16, 3), (8, .aload_n 0, 1), (9, .getfield 234, 3), (12, .iload_n 3, 1), (13, .iconst 0, 1), (14, .iastore, 1), (15, .iinc 3 1, 3), (18, .goto (-16), 3), (21, .iconst 0, 1), (22, .istore_n 3, 1), (23, .iconst 0, 1), (24, .istore 4, 2), (26, .iload 4, 2), (28, .bipush 19, 2), (30, .if_icmp .ge 73, 3), (33, .aload_n 0, 1), (34, .getfield 231, 3), (37, .iload 4, 2), (39, .iaload, 1), (40, .ifCond .ne 6, 3), (43, .goto 54, 3), (46, .aload_n 0, 1), (47, .iconst 0, 1), (48, .iload_n 1, 1), (49, .iload_n 2, 1), (50, .iload 4, 2), (52, .bipush 9, 2), (54, .isub, 1), (55, .invokevirtual 512, 3), (58, .invokestatic 452, 3), (61, .istore 5, 2), (63, .aload_n 0, 1), (64, .getfield 234, 3), (67, .iload 5, 2), (69, .dup2, 1), (70, .iaload, 1), (71, .iconst 1, 1), (72, .iadd, 1), (73, .iastore, 1), (74, .aload_n 0, 1), (75, .getfield 234, 3), (78, .iload 5, 2), (80, .iaload, 1), (81, .iload_n 3, 1), (82, .if_icmp .le 13, 3), (85, .aload_n 0, 1), (86, .getfield 234, 3), (89, .iload 5, 2), (91, .iaload, 1), (92, .goto 4, 3), (95, .iload_n 3, 1), (96, .istore_n 3, 1), (97, .iinc 4 1, 3), (100, .goto (-74), 3), (103, .iload_n 3, 1), (104, .ireturn, 1)]
set_option maxRecDepth 100000 in
theorem dk_X12_mostBy : dt_X12_mostBy.all (fun q => decide (decode cX12_mostBy q.1 = .ok q.2)) = true := by decide +kernel
set_option maxRecDepth 100000 in
def f_X12_mostBy_97 (k26 : Int32 → Int32 → Mem → Option (Int32 × Mem)) (r0 : Nat) (x1 : Int32) (x2 : Int32) (x3 : Int32) (x4 : Int32) (M : Mem) : Option (Int32 × Mem) := k26 x3 (x4 + 1) M
set_option maxRecDepth 100000 in
set_option maxHeartbeats 4000000 in
theorem x_X12_mostBy_97 {κ : KX} {n : Nat} (hC : CX κ cX12_mostBy RX12 6 (some .int) 2) (hE : zEnd κ n (0, 0)) (hk0 : zRk κ (0, 0)) {r0 : Nat} {x1 : Int32} {x2 : Int32} (h_r0 : zO n r0 12) (k26 : Int32 → Int32 → Mem → Option (Int32 × Mem)) (hk26 : ∀ (x3 : Int32) (x4 : Int32) (M : Mem), X κ 6 emI n (0, 0) 26 [.ref r0, .int x1, .int x2, .int x3, .int x4, .null] [] M (k26 x3 x4 M)) (x3 : Int32) (x4 : Int32) (M : Mem) : X κ 6 emI n (0, 0) 97 [.ref r0, .int x1, .int x2, .int x3, .int x4, .null] [] M (f_X12_mostBy_97 k26 r0 x1 x2 x3 x4 M) := by
  unfold f_X12_mostBy_97
  refine x_iinc (i := 4) c_iconst_1 rfl (by decide) (L' := [.ref r0, .int x1, .int x2, .int x3, .int (x4 + 1), .null]) rfl hC (zdk dk_X12_mostBy 56 rfl) (q := 100) rfl ?_
  refine x_goto (tgt := 26) hC (zdk dk_X12_mostBy 57 rfl) rfl ?_
  refine x_weak (L' := [.ref r0, .int x1, .int x2, .int x3, .int (x4 + 1), .null]) ⟨Or.inr rfl, Or.inr rfl, Or.inr rfl, Or.inr rfl, Or.inr rfl, Or.inl rfl, trivial⟩ ?_
  exact hk26 _ _ _
set_option maxRecDepth 100000 in
def f_X12_mostBy_96 (k26 : Int32 → Int32 → Mem → Option (Int32 × Mem)) (r0 : Nat) (x1 : Int32) (x2 : Int32) (x4 : Int32) (s0 : Int32) (M : Mem) : Option (Int32 × Mem) := f_X12_mostBy_97 k26 r0 x1 x2 s0 x4 M
set_option maxRecDepth 100000 in
set_option maxHeartbeats 4000000 in
theorem x_X12_mostBy_96 {κ : KX} {n : Nat} (hC : CX κ cX12_mostBy RX12 6 (some .int) 2) (hE : zEnd κ n (0, 0)) (hk0 : zRk κ (0, 0)) {r0 : Nat} {x1 : Int32} {x2 : Int32} (h_r0 : zO n r0 12) (k26 : Int32 → Int32 → Mem → Option (Int32 × Mem)) (hk26 : ∀ (x3 : Int32) (x4 : Int32) (M : Mem), X κ 6 emI n (0, 0) 26 [.ref r0, .int x1, .int x2, .int x3, .int x4, .null] [] M (k26 x3 x4 M)) (x4 : Int32) (s0 : Int32) (M : Mem) : X κ 6 emI n (0, 0) 96 [.ref r0, .int x1, .int x2, .null, .int x4, .null] [.int s0] M (f_X12_mostBy_96 k26 r0 x1 x2 x4 s0 M) := by
  unfold f_X12_mostBy_96
  refine x_istore_n (i := 3) (L' := [.ref r0, .int x1, .int x2, .int s0, .int x4, .null]) (by decide) rfl hC (zdk dk_X12_mostBy 55 rfl) (q := 97) rfl ?_
  refine x_weak (L' := [.ref r0, .int x1, .int x2, .int s0, .int x4, .null]) ⟨Or.inr rfl, Or.inr rfl, Or.inr rfl, Or.inr rfl, Or.inr rfl, Or.inl rfl, trivial⟩ ?_
  exact x_X12_mostBy_97 hC hE hk0 h_r0 k26 hk26 _ _ _
set_option maxRecDepth 100000 in
def f_X12_mostBy_26  (r0 : Nat) (x1 : Int32) (x2 : Int32) : Nat → Int32 → Int32 → Mem → Option (Int32 × Mem)
  | 0, _, _, _ => none
  | f + 1, x3, x4, M => (if 19 ≤ x4 then some (x3, M) else Option.bind (zrf M r0 72) fun q1 => Option.bind (zld q1 x4) fun k2 => (if zI M q1 k2 = 0 then f_X12_mostBy_97 (f_X12_mostBy_26 r0 x1 x2 f) r0 x1 x2 x3 x4 M else Option.bind (f_X12_bitsBy r0 0 x1 x2 (x4 - 9) M) fun z3 => Option.bind (f_X12_onesOf z3.1 z3.2) fun z4 => Option.bind (zrf z4.2 r0 73) fun q5 => Option.bind (zld q5 z4.1) fun k6 => Option.bind (zld q5 z4.1) fun k7 => Option.bind (some (zsI z4.2 q5 k7 ((zI z4.2 q5 k6) + 1))) fun M8 => Option.bind (zrf M8 r0 73) fun q9 => Option.bind (zld q9 z4.1) fun k10 => (if zI M8 q9 k10 ≤ x3 then f_X12_mostBy_96 (f_X12_mostBy_26 r0 x1 x2 f) r0 x1 x2 x4 x3 M8 else Option.bind (zrf M8 r0 73) fun q11 => Option.bind (zld q11 z4.1) fun k12 => f_X12_mostBy_96 (f_X12_mostBy_26 r0 x1 x2 f) r0 x1 x2 x4 (zI M8 q11 k12) M8)))
set_option maxRecDepth 100000 in
set_option maxHeartbeats 4000000 in
theorem x_X12_mostBy_26 {κ : KX} {n : Nat} (hC : CX κ cX12_mostBy RX12 6 (some .int) 2) (hE : zEnd κ n (0, 0)) (hk0 : zRk κ (0, 0)) {r0 : Nat} {x1 : Int32} {x2 : Int32} (h_r0 : zO n r0 12) : ∀ (f : Nat) (x3 : Int32) (x4 : Int32) (M : Mem), X κ 6 emI n (0, 0) 26 [.ref r0, .int x1, .int x2, .int x3, .int x4, .null] [] M (f_X12_mostBy_26 r0 x1 x2 f x3 x4 M) := by
  intro f
  induction f with
  | zero => intros; exact x_none
  | succ f ih =>
    intro x3 x4 M 
    rw [f_X12_mostBy_26]
    refine x_iload (i := 4) rfl hC (zdk dk_X12_mostBy 16 rfl) (q := 28) rfl ?_
    refine x_bipush (i := 19) c_bipush_19 hC (zdk dk_X12_mostBy 17 rfl) (q := 30) rfl ?_
    refine x_icmp_ge (tgt := 103) hC (zdk dk_X12_mostBy 18 rfl) (q := 33) rfl rfl (fun _ => ?_) (fun _ => ?_)
    · refine x_iload_n (i := 3) rfl hC (zdk dk_X12_mostBy 58 rfl) (q := 104) rfl ?_
      exact x_iret (ty := .int) rfl hE hC (zdk dk_X12_mostBy 59 rfl)
    · refine x_aload_n (i := 0) rfl hC (zdk dk_X12_mostBy 19 rfl) (q := 34) rfl ?_
      refine x_getR (k := 20) fl_RX12_231 rfl h_r0 hC (zdk dk_X12_mostBy 20 rfl) (q := 37) rfl (fun q1 hq1 => ?_)
      refine x_iload (i := 4) rfl hC (zdk dk_X12_mostBy 21 rfl) (q := 39) rfl ?_
      refine x_iald hq1 hC (zdk dk_X12_mostBy 22 rfl) (q := 40) rfl (fun k2 _ => ?_)
      refine x_if_ne (tgt := 46) hC (zdk dk_X12_mostBy 23 rfl) (q := 43) rfl rfl (fun _ => ?_) (fun _ => ?_)
      · refine x_aload_n (i := 0) rfl hC (zdk dk_X12_mostBy 25 rfl) (q := 47) rfl ?_
        refine x_iconst (i := 0) c_iconst_0 hC (zdk dk_X12_mostBy 26 rfl) (q := 48) rfl ?_
        refine x_iload_n (i := 1) rfl hC (zdk dk_X12_mostBy 27 rfl) (q := 49) rfl ?_
        refine x_iload_n (i := 2) rfl hC (zdk dk_X12_mostBy 28 rfl) (q := 50) rfl ?_
        refine x_iload (i := 4) rfl hC (zdk dk_X12_mostBy 29 rfl) (q := 52) rfl ?_
        refine x_bipush (i := 9) c_bipush_9 hC (zdk dk_X12_mostBy 30 rfl) (q := 54) rfl ?_
        refine x_isub hC (zdk dk_X12_mostBy 31 rfl) (q := 55) rfl ?_
        refine x_callVl (as := [.int 0, .int x1, .int x2, .int (x4 - 9)]) cb_RX12_512 rfl (by decide) hk0 h_r0 (fun x hx => t_X12_bitsBy h_r0 x hx) hC (zdk dk_X12_mostBy 32 rfl) (q := 58) rfl rfl (Nat.le_of_ble_eq_true rfl) (fun z3 => ?_)
        refine x_callSi (as := [.long z3.1]) cb_RX12_452 rfl (by decide) hk0 (fun x hx => t_X12_onesOf  x hx) hC (zdk dk_X12_mostBy 33 rfl) (q := 61) rfl rfl (Nat.le_of_ble_eq_true rfl) (fun z4 => ?_)
        refine x_istore (i := 5) (L' := [.ref r0, .int x1, .int x2, .int x3, .int x4, .int z4.1]) (by decide) rfl hC (zdk dk_X12_mostBy 34 rfl) (q := 63) rfl ?_
        refine x_aload_n (i := 0) rfl hC (zdk dk_X12_mostBy 35 rfl) (q := 64) rfl ?_
        refine x_getR (k := 20) fl_RX12_234 rfl h_r0 hC (zdk dk_X12_mostBy 36 rfl) (q := 67) rfl (fun q5 hq5 => ?_)
        refine x_iload (i := 5) rfl hC (zdk dk_X12_mostBy 37 rfl) (q := 69) rfl ?_
        refine x_dup2 rfl rfl hC (zdk dk_X12_mostBy 38 rfl) (q := 70) rfl ?_
        refine x_iald hq5 hC (zdk dk_X12_mostBy 39 rfl) (q := 71) rfl (fun k6 _ => ?_)
        refine x_iconst (i := 1) c_iconst_1 hC (zdk dk_X12_mostBy 40 rfl) (q := 72) rfl ?_
        refine x_iadd hC (zdk dk_X12_mostBy 41 rfl) (q := 73) rfl ?_
        refine x_iast hq5 hC (zdk dk_X12_mostBy 42 rfl) (q := 74) rfl (fun k7 _ => ?_)
        refine x_nmM (fun M8 => ?_)
        refine x_aload_n (i := 0) rfl hC (zdk dk_X12_mostBy 43 rfl) (q := 75) rfl ?_
        refine x_getR (k := 20) fl_RX12_234 rfl h_r0 hC (zdk dk_X12_mostBy 44 rfl) (q := 78) rfl (fun q9 hq9 => ?_)
        refine x_iload (i := 5) rfl hC (zdk dk_X12_mostBy 45 rfl) (q := 80) rfl ?_
        refine x_iald hq9 hC (zdk dk_X12_mostBy 46 rfl) (q := 81) rfl (fun k10 _ => ?_)
        refine x_iload_n (i := 3) rfl hC (zdk dk_X12_mostBy 47 rfl) (q := 82) rfl ?_
        refine x_icmp_le (tgt := 95) hC (zdk dk_X12_mostBy 48 rfl) (q := 85) rfl rfl (fun _ => ?_) (fun _ => ?_)
        · refine x_iload_n (i := 3) rfl hC (zdk dk_X12_mostBy 54 rfl) (q := 96) rfl ?_
          refine x_weak (L' := [.ref r0, .int x1, .int x2, .null, .int x4, .null]) ⟨Or.inr rfl, Or.inr rfl, Or.inr rfl, Or.inl rfl, Or.inr rfl, Or.inl rfl, trivial⟩ ?_
          exact x_X12_mostBy_96 hC hE hk0 h_r0 (f_X12_mostBy_26 r0 x1 x2 f) ih _ _ _
        · refine x_aload_n (i := 0) rfl hC (zdk dk_X12_mostBy 49 rfl) (q := 86) rfl ?_
          refine x_getR (k := 20) fl_RX12_234 rfl h_r0 hC (zdk dk_X12_mostBy 50 rfl) (q := 89) rfl (fun q11 hq11 => ?_)
          refine x_iload (i := 5) rfl hC (zdk dk_X12_mostBy 51 rfl) (q := 91) rfl ?_
          refine x_iald hq11 hC (zdk dk_X12_mostBy 52 rfl) (q := 92) rfl (fun k12 _ => ?_)
          refine x_goto (tgt := 96) hC (zdk dk_X12_mostBy 53 rfl) rfl ?_
          refine x_weak (L' := [.ref r0, .int x1, .int x2, .null, .int x4, .null]) ⟨Or.inr rfl, Or.inr rfl, Or.inr rfl, Or.inl rfl, Or.inr rfl, Or.inl rfl, trivial⟩ ?_
          exact x_X12_mostBy_96 hC hE hk0 h_r0 (f_X12_mostBy_26 r0 x1 x2 f) ih _ _ _
      · refine x_goto (tgt := 97) hC (zdk dk_X12_mostBy 24 rfl) rfl ?_
        refine x_weak (L' := [.ref r0, .int x1, .int x2, .int x3, .int x4, .null]) ⟨Or.inr rfl, Or.inr rfl, Or.inr rfl, Or.inr rfl, Or.inr rfl, Or.inl rfl, trivial⟩ ?_
        exact x_X12_mostBy_97 hC hE hk0 h_r0 (f_X12_mostBy_26 r0 x1 x2 f) ih _ _ _
set_option maxRecDepth 100000 in
def f_X12_mostBy_2  (r0 : Nat) (x1 : Int32) (x2 : Int32) : Nat → Int32 → Mem → Option (Int32 × Mem)
  | 0, _, _ => none
  | f + 1, x3, M => (if 64 ≤ x3 then f_X12_mostBy_26 r0 x1 x2 1000000 0 0 M else Option.bind (zrf M r0 73) fun q13 => Option.bind (zld q13 x3) fun k14 => Option.bind (some (zsI M q13 k14 0)) fun M15 => (f_X12_mostBy_2 r0 x1 x2 f) (x3 + 1) M15)
set_option maxRecDepth 100000 in
set_option maxHeartbeats 4000000 in
theorem x_X12_mostBy_2 {κ : KX} {n : Nat} (hC : CX κ cX12_mostBy RX12 6 (some .int) 2) (hE : zEnd κ n (0, 0)) (hk0 : zRk κ (0, 0)) {r0 : Nat} {x1 : Int32} {x2 : Int32} (h_r0 : zO n r0 12) : ∀ (f : Nat) (x3 : Int32) (M : Mem), X κ 6 emI n (0, 0) 2 [.ref r0, .int x1, .int x2, .int x3, .null, .null] [] M (f_X12_mostBy_2 r0 x1 x2 f x3 M) := by
  intro f
  induction f with
  | zero => intros; exact x_none
  | succ f ih =>
    intro x3 M 
    rw [f_X12_mostBy_2]
    refine x_iload_n (i := 3) rfl hC (zdk dk_X12_mostBy 2 rfl) (q := 3) rfl ?_
    refine x_bipush (i := 64) c_bipush_64 hC (zdk dk_X12_mostBy 3 rfl) (q := 5) rfl ?_
    refine x_icmp_ge (tgt := 21) hC (zdk dk_X12_mostBy 4 rfl) (q := 8) rfl rfl (fun _ => ?_) (fun _ => ?_)
    · refine x_iconst (i := 0) c_iconst_0 hC (zdk dk_X12_mostBy 12 rfl) (q := 22) rfl ?_
      refine x_istore_n (i := 3) (L' := [.ref r0, .int x1, .int x2, .int 0, .null, .null]) (by decide) rfl hC (zdk dk_X12_mostBy 13 rfl) (q := 23) rfl ?_
      refine x_iconst (i := 0) c_iconst_0 hC (zdk dk_X12_mostBy 14 rfl) (q := 24) rfl ?_
      refine x_istore (i := 4) (L' := [.ref r0, .int x1, .int x2, .int 0, .int 0, .null]) (by decide) rfl hC (zdk dk_X12_mostBy 15 rfl) (q := 26) rfl ?_
      refine x_weak (L' := [.ref r0, .int x1, .int x2, .int 0, .int 0, .null]) ⟨Or.inr rfl, Or.inr rfl, Or.inr rfl, Or.inr rfl, Or.inr rfl, Or.inl rfl, trivial⟩ ?_
      exact x_X12_mostBy_26 hC hE hk0 h_r0 _ _ _ _
    · refine x_aload_n (i := 0) rfl hC (zdk dk_X12_mostBy 5 rfl) (q := 9) rfl ?_
      refine x_getR (k := 20) fl_RX12_234 rfl h_r0 hC (zdk dk_X12_mostBy 6 rfl) (q := 12) rfl (fun q13 hq13 => ?_)
      refine x_iload_n (i := 3) rfl hC (zdk dk_X12_mostBy 7 rfl) (q := 13) rfl ?_
      refine x_iconst (i := 0) c_iconst_0 hC (zdk dk_X12_mostBy 8 rfl) (q := 14) rfl ?_
      refine x_iast hq13 hC (zdk dk_X12_mostBy 9 rfl) (q := 15) rfl (fun k14 _ => ?_)
      refine x_nmM (fun M15 => ?_)
      refine x_iinc (i := 3) c_iconst_1 rfl (by decide) (L' := [.ref r0, .int x1, .int x2, .int (x3 + 1), .null, .null]) rfl hC (zdk dk_X12_mostBy 10 rfl) (q := 18) rfl ?_
      refine x_goto (tgt := 2) hC (zdk dk_X12_mostBy 11 rfl) rfl ?_
      refine x_weak (L' := [.ref r0, .int x1, .int x2, .int (x3 + 1), .null, .null]) ⟨Or.inr rfl, Or.inr rfl, Or.inr rfl, Or.inr rfl, Or.inl rfl, Or.inl rfl, trivial⟩ ?_
      exact ih _ _
set_option maxRecDepth 100000 in
def f_X12_mostBy (r0 : Nat) (x1 : Int32) (x2 : Int32) (M : Mem) : Option (Int32 × Mem) := f_X12_mostBy_2 r0 x1 x2 1000000 0 M
set_option maxRecDepth 100000 in
set_option maxHeartbeats 4000000 in
theorem x_X12_mostBy {κ : KX} {n : Nat} (hC : CX κ cX12_mostBy RX12 6 (some .int) 2) (hE : zEnd κ n (0, 0)) (hk0 : zRk κ (0, 0)) (r0 : Nat) (x1 : Int32) (x2 : Int32) (M : Mem) (h_r0 : zO n r0 12) : X κ 6 emI n (0, 0) 0 [.ref r0, .int x1, .int x2, .null, .null, .null] [] M (f_X12_mostBy r0 x1 x2 M) := by
  unfold f_X12_mostBy
  refine x_iconst (i := 0) c_iconst_0 hC (zdk dk_X12_mostBy 0 rfl) (q := 1) rfl ?_
  refine x_istore_n (i := 3) (L' := [.ref r0, .int x1, .int x2, .int 0, .null, .null]) (by decide) rfl hC (zdk dk_X12_mostBy 1 rfl) (q := 2) rfl ?_
  refine x_weak (L' := [.ref r0, .int x1, .int x2, .int 0, .null, .null]) ⟨Or.inr rfl, Or.inr rfl, Or.inr rfl, Or.inr rfl, Or.inl rfl, Or.inl rfl, trivial⟩ ?_
  exact x_X12_mostBy_2 hC hE hk0 h_r0 _ _ _
set_option maxRecDepth 100000 in
set_option maxHeartbeats 4000000 in
theorem t_X12_mostBy {n : Nat} {r0 : Nat} {x1 : Int32} {x2 : Int32} {M : Mem} (h_r0 : zO n r0 12) (x : (Int32 × Mem)) (hx : f_X12_mostBy r0 x1 x2 M = some x) (l : Launch) (dC : Nat → ClassId) (dI : Nat → Nat → Nat) (b : zSg) : MT l dC dI b yX12_mostBy cX12_mostBy 6 (some .int) 2 0 0 n n [.ref r0, .int x1, .int x2] M (emI x).1 (emI x).2 :=
  MT.ofX (by decide +kernel) rfl (Nat.le_of_ble_eq_true rfl) (fun κ hC hF _ => x_X12_mostBy hC (zEnd_of hF (Nat.le_refl _) (Nat.le_refl _)) (zRk_of hF (Nat.le_refl _) (Nat.le_refl _)) _ _ _ _ h_r0) x hx
set_option maxRecDepth 100000 in
def dt_X12_tells : List (Nat × Instr × Nat) := [(0, .aload_n 0, 1), (1, .iload_n 1, 1), (2, .invokevirtual 536, 3), (5, .ifCond .eq 12, 3), (8, .iload_n 2, 1), (9, .iconst 0, 1), (10, .iconst 1, 1), (11, .invokestatic 325, 3), (14, .ifCond .ne 5, 3), (17, .iconst (-1), 1), (18, .ireturn, 1), (19, .aload_n 0, 1), (20, .iload_n 1, 1), (21, .invokevirtual 550, 3), (24, .istore_n 3, 1), (25, .iconst (-1), 1), (26, .istore 4, 2), (28, .ldc_w 553, 3), (31, .istore 5, 2), (33, .iconst 0, 1), (34, .istore 6, 2), (36, .iload 6, 2), (38, .bipush 100, 2), (40, .if_icmp .gt 40, 3), (43, .iload_n 3, 1), (44, .ifCond .le 36, 3), (47, .aload_n 0, 1), (48, .iload_n 1, 1), (49, .iload 6, 2), (51, .invokevirtual 554, 3), (54, .istore 7, 2), (56, .iload 7, 2), (58, .iload 5, 2), (60, .if_icmp .lt 6, 3), (63, .goto 11, 3), (66, .iload 7, 2), (68, .istore 5, 2), (70, .iload 6, 2), (72, .istore 4, 2), (74, .iinc 6 1, 3), (77, .goto (-41), 3), (80, .iload 4, 2), (82, .iconst (-1), 1), (83, .if_icmp .eq 7, 3), (86, .iload_n 2, 1), (87, .ifCond .ne 8, 3), (90, .iload 4, 2), (92, .goto 5, 3), (95, .iload 5, 2), (97, .ireturn, 1)]
set_option maxRecDepth 100000 in
theorem dk_X12_tells : dt_X12_tells.all (fun q => decide (decode cX12_tells q.1 = .ok q.2)) = true := by decide +kernel
set_option maxRecDepth 100000 in
def f_X12_tells_17  (r0 : Nat) (x1 : Int32) (x2 : Int32)  (M : Mem) : Option (Int32 × Mem) := some ((-1), M)
set_option maxRecDepth 100000 in
set_option maxHeartbeats 4000000 in
theorem x_X12_tells_17 {κ : KX} {n : Nat} (hC : CX κ cX12_tells RX12 8 (some .int) 3) (hE : zEnd κ n (0, 0)) (hk0 : zRk κ (0, 0)) {r0 : Nat} {x1 : Int32} {x2 : Int32} (h_r0 : zO n r0 12) (M : Mem) : X κ 8 emI n (0, 0) 17 [.null, .null, .null, .null, .null, .null, .null, .null] [] M (f_X12_tells_17 r0 x1 x2 M) := by
  unfold f_X12_tells_17
  refine x_iconst (i := (-1)) c_iconst_m1 hC (zdk dk_X12_tells 9 rfl) (q := 18) rfl ?_
  exact x_iret (ty := .int) rfl hE hC (zdk dk_X12_tells 10 rfl)
set_option maxRecDepth 100000 in
def f_X12_tells_74 (k36 : Int32 → Int32 → Int32 → Int32 → Mem → Option (Int32 × Mem)) (r0 : Nat) (x1 : Int32) (x2 : Int32) (x3 : Int32) (x4 : Int32) (x5 : Int32) (x6 : Int32) (M : Mem) : Option (Int32 × Mem) := k36 x3 x4 x5 (x6 + 1) M
set_option maxRecDepth 100000 in
set_option maxHeartbeats 4000000 in
theorem x_X12_tells_74 {κ : KX} {n : Nat} (hC : CX κ cX12_tells RX12 8 (some .int) 3) (hE : zEnd κ n (0, 0)) (hk0 : zRk κ (0, 0)) {r0 : Nat} {x1 : Int32} {x2 : Int32} (h_r0 : zO n r0 12) (k36 : Int32 → Int32 → Int32 → Int32 → Mem → Option (Int32 × Mem)) (hk36 : ∀ (x3 : Int32) (x4 : Int32) (x5 : Int32) (x6 : Int32) (M : Mem), X κ 8 emI n (0, 0) 36 [.ref r0, .int x1, .int x2, .int x3, .int x4, .int x5, .int x6, .null] [] M (k36 x3 x4 x5 x6 M)) (x3 : Int32) (x4 : Int32) (x5 : Int32) (x6 : Int32) (M : Mem) : X κ 8 emI n (0, 0) 74 [.ref r0, .int x1, .int x2, .int x3, .int x4, .int x5, .int x6, .null] [] M (f_X12_tells_74 k36 r0 x1 x2 x3 x4 x5 x6 M) := by
  unfold f_X12_tells_74
  refine x_iinc (i := 6) c_iconst_1 rfl (by decide) (L' := [.ref r0, .int x1, .int x2, .int x3, .int x4, .int x5, .int (x6 + 1), .null]) rfl hC (zdk dk_X12_tells 39 rfl) (q := 77) rfl ?_
  refine x_goto (tgt := 36) hC (zdk dk_X12_tells 40 rfl) rfl ?_
  refine x_weak (L' := [.ref r0, .int x1, .int x2, .int x3, .int x4, .int x5, .int (x6 + 1), .null]) ⟨Or.inr rfl, Or.inr rfl, Or.inr rfl, Or.inr rfl, Or.inr rfl, Or.inr rfl, Or.inr rfl, Or.inl rfl, trivial⟩ ?_
  exact hk36 _ _ _ _ _
set_option maxRecDepth 100000 in
def f_X12_tells_97  (r0 : Nat) (x1 : Int32) (x2 : Int32) (s0 : Int32) (M : Mem) : Option (Int32 × Mem) := some (s0, M)
set_option maxRecDepth 100000 in
set_option maxHeartbeats 4000000 in
theorem x_X12_tells_97 {κ : KX} {n : Nat} (hC : CX κ cX12_tells RX12 8 (some .int) 3) (hE : zEnd κ n (0, 0)) (hk0 : zRk κ (0, 0)) {r0 : Nat} {x1 : Int32} {x2 : Int32} (h_r0 : zO n r0 12) (s0 : Int32) (M : Mem) : X κ 8 emI n (0, 0) 97 [.null, .null, .null, .null, .null, .null, .null, .null] [.int s0] M (f_X12_tells_97 r0 x1 x2 s0 M) := by
  unfold f_X12_tells_97
  exact x_iret (ty := .int) rfl hE hC (zdk dk_X12_tells 49 rfl)
set_option maxRecDepth 100000 in
def f_X12_tells_90  (r0 : Nat) (x1 : Int32) (x2 : Int32) (x4 : Int32) (M : Mem) : Option (Int32 × Mem) := f_X12_tells_97 r0 x1 x2 x4 M
set_option maxRecDepth 100000 in
set_option maxHeartbeats 4000000 in
theorem x_X12_tells_90 {κ : KX} {n : Nat} (hC : CX κ cX12_tells RX12 8 (some .int) 3) (hE : zEnd κ n (0, 0)) (hk0 : zRk κ (0, 0)) {r0 : Nat} {x1 : Int32} {x2 : Int32} (h_r0 : zO n r0 12) (x4 : Int32) (M : Mem) : X κ 8 emI n (0, 0) 90 [.null, .null, .null, .null, .int x4, .null, .null, .null] [] M (f_X12_tells_90 r0 x1 x2 x4 M) := by
  unfold f_X12_tells_90
  refine x_iload (i := 4) rfl hC (zdk dk_X12_tells 46 rfl) (q := 92) rfl ?_
  refine x_goto (tgt := 97) hC (zdk dk_X12_tells 47 rfl) rfl ?_
  refine x_weak (L' := [.null, .null, .null, .null, .null, .null, .null, .null]) ⟨Or.inl rfl, Or.inl rfl, Or.inl rfl, Or.inl rfl, Or.inl rfl, Or.inl rfl, Or.inl rfl, Or.inl rfl, trivial⟩ ?_
  exact x_X12_tells_97 hC hE hk0 h_r0 _ _
set_option maxRecDepth 100000 in
def f_X12_tells_80  (r0 : Nat) (x1 : Int32) (x2 : Int32) (x4 : Int32) (x5 : Int32) (M : Mem) : Option (Int32 × Mem) := (if x4 = (-1) then f_X12_tells_90 r0 x1 x2 x4 M else (if x2 = 0 then f_X12_tells_90 r0 x1 x2 x4 M else f_X12_tells_97 r0 x1 x2 x5 M))
set_option maxRecDepth 100000 in
set_option maxHeartbeats 4000000 in
theorem x_X12_tells_80 {κ : KX} {n : Nat} (hC : CX κ cX12_tells RX12 8 (some .int) 3) (hE : zEnd κ n (0, 0)) (hk0 : zRk κ (0, 0)) {r0 : Nat} {x1 : Int32} {x2 : Int32} (h_r0 : zO n r0 12) (x4 : Int32) (x5 : Int32) (M : Mem) : X κ 8 emI n (0, 0) 80 [.null, .null, .int x2, .null, .int x4, .int x5, .null, .null] [] M (f_X12_tells_80 r0 x1 x2 x4 x5 M) := by
  unfold f_X12_tells_80
  refine x_iload (i := 4) rfl hC (zdk dk_X12_tells 41 rfl) (q := 82) rfl ?_
  refine x_iconst (i := (-1)) c_iconst_m1 hC (zdk dk_X12_tells 42 rfl) (q := 83) rfl ?_
  refine x_icmp_eq (tgt := 90) hC (zdk dk_X12_tells 43 rfl) (q := 86) rfl rfl (fun _ => ?_) (fun _ => ?_)
  · refine x_weak (L' := [.null, .null, .null, .null, .int x4, .null, .null, .null]) ⟨Or.inl rfl, Or.inl rfl, Or.inl rfl, Or.inl rfl, Or.inr rfl, Or.inl rfl, Or.inl rfl, Or.inl rfl, trivial⟩ ?_
    exact x_X12_tells_90 hC hE hk0 h_r0 _ _
  · refine x_iload_n (i := 2) rfl hC (zdk dk_X12_tells 44 rfl) (q := 87) rfl ?_
    refine x_if_ne (tgt := 95) hC (zdk dk_X12_tells 45 rfl) (q := 90) rfl rfl (fun _ => ?_) (fun _ => ?_)
    · refine x_iload (i := 5) rfl hC (zdk dk_X12_tells 48 rfl) (q := 97) rfl ?_
      refine x_weak (L' := [.null, .null, .null, .null, .null, .null, .null, .null]) ⟨Or.inl rfl, Or.inl rfl, Or.inl rfl, Or.inl rfl, Or.inl rfl, Or.inl rfl, Or.inl rfl, Or.inl rfl, trivial⟩ ?_
      exact x_X12_tells_97 hC hE hk0 h_r0 _ _
    · refine x_weak (L' := [.null, .null, .null, .null, .int x4, .null, .null, .null]) ⟨Or.inl rfl, Or.inl rfl, Or.inl rfl, Or.inl rfl, Or.inr rfl, Or.inl rfl, Or.inl rfl, Or.inl rfl, trivial⟩ ?_
      exact x_X12_tells_90 hC hE hk0 h_r0 _ _
set_option maxRecDepth 100000 in
def f_X12_tells_36  (r0 : Nat) (x1 : Int32) (x2 : Int32) : Nat → Int32 → Int32 → Int32 → Int32 → Mem → Option (Int32 × Mem)
  | 0, _, _, _, _, _ => none
  | f + 1, x3, x4, x5, x6, M => (if 100 < x6 then f_X12_tells_80 r0 x1 x2 x4 x5 M else (if x3 ≤ 0 then f_X12_tells_80 r0 x1 x2 x4 x5 M else Option.bind (f_X12_mostBy r0 x1 x6 M) fun z1 => (if z1.1 < x5 then f_X12_tells_74 (f_X12_tells_36 r0 x1 x2 f) r0 x1 x2 x3 x6 z1.1 x6 z1.2 else f_X12_tells_74 (f_X12_tells_36 r0 x1 x2 f) r0 x1 x2 x3 x4 x5 x6 z1.2)))
set_option maxRecDepth 100000 in
set_option maxHeartbeats 4000000 in
theorem x_X12_tells_36 {κ : KX} {n : Nat} (hC : CX κ cX12_tells RX12 8 (some .int) 3) (hE : zEnd κ n (0, 0)) (hk0 : zRk κ (0, 0)) {r0 : Nat} {x1 : Int32} {x2 : Int32} (h_r0 : zO n r0 12) : ∀ (f : Nat) (x3 : Int32) (x4 : Int32) (x5 : Int32) (x6 : Int32) (M : Mem), X κ 8 emI n (0, 0) 36 [.ref r0, .int x1, .int x2, .int x3, .int x4, .int x5, .int x6, .null] [] M (f_X12_tells_36 r0 x1 x2 f x3 x4 x5 x6 M) := by
  intro f
  induction f with
  | zero => intros; exact x_none
  | succ f ih =>
    intro x3 x4 x5 x6 M 
    rw [f_X12_tells_36]
    refine x_iload (i := 6) rfl hC (zdk dk_X12_tells 21 rfl) (q := 38) rfl ?_
    refine x_bipush (i := 100) c_bipush_100 hC (zdk dk_X12_tells 22 rfl) (q := 40) rfl ?_
    refine x_icmp_gt (tgt := 80) hC (zdk dk_X12_tells 23 rfl) (q := 43) rfl rfl (fun _ => ?_) (fun _ => ?_)
    · refine x_weak (L' := [.null, .null, .int x2, .null, .int x4, .int x5, .null, .null]) ⟨Or.inl rfl, Or.inl rfl, Or.inr rfl, Or.inl rfl, Or.inr rfl, Or.inr rfl, Or.inl rfl, Or.inl rfl, trivial⟩ ?_
      exact x_X12_tells_80 hC hE hk0 h_r0 _ _ _
    · refine x_iload_n (i := 3) rfl hC (zdk dk_X12_tells 24 rfl) (q := 44) rfl ?_
      refine x_if_le (tgt := 80) hC (zdk dk_X12_tells 25 rfl) (q := 47) rfl rfl (fun _ => ?_) (fun _ => ?_)
      · refine x_weak (L' := [.null, .null, .int x2, .null, .int x4, .int x5, .null, .null]) ⟨Or.inl rfl, Or.inl rfl, Or.inr rfl, Or.inl rfl, Or.inr rfl, Or.inr rfl, Or.inl rfl, Or.inl rfl, trivial⟩ ?_
        exact x_X12_tells_80 hC hE hk0 h_r0 _ _ _
      · refine x_aload_n (i := 0) rfl hC (zdk dk_X12_tells 26 rfl) (q := 48) rfl ?_
        refine x_iload_n (i := 1) rfl hC (zdk dk_X12_tells 27 rfl) (q := 49) rfl ?_
        refine x_iload (i := 6) rfl hC (zdk dk_X12_tells 28 rfl) (q := 51) rfl ?_
        refine x_callVi (as := [.int x1, .int x6]) cb_RX12_554 rfl (by decide) hk0 h_r0 (fun x hx => t_X12_mostBy h_r0 x hx) hC (zdk dk_X12_tells 29 rfl) (q := 54) rfl rfl (Nat.le_of_ble_eq_true rfl) (fun z1 => ?_)
        refine x_istore (i := 7) (L' := [.ref r0, .int x1, .int x2, .int x3, .int x4, .int x5, .int x6, .int z1.1]) (by decide) rfl hC (zdk dk_X12_tells 30 rfl) (q := 56) rfl ?_
        refine x_iload (i := 7) rfl hC (zdk dk_X12_tells 31 rfl) (q := 58) rfl ?_
        refine x_iload (i := 5) rfl hC (zdk dk_X12_tells 32 rfl) (q := 60) rfl ?_
        refine x_icmp_lt (tgt := 66) hC (zdk dk_X12_tells 33 rfl) (q := 63) rfl rfl (fun _ => ?_) (fun _ => ?_)
        · refine x_iload (i := 7) rfl hC (zdk dk_X12_tells 35 rfl) (q := 68) rfl ?_
          refine x_istore (i := 5) (L' := [.ref r0, .int x1, .int x2, .int x3, .int x4, .int z1.1, .int x6, .int z1.1]) (by decide) rfl hC (zdk dk_X12_tells 36 rfl) (q := 70) rfl ?_
          refine x_iload (i := 6) rfl hC (zdk dk_X12_tells 37 rfl) (q := 72) rfl ?_
          refine x_istore (i := 4) (L' := [.ref r0, .int x1, .int x2, .int x3, .int x6, .int z1.1, .int x6, .int z1.1]) (by decide) rfl hC (zdk dk_X12_tells 38 rfl) (q := 74) rfl ?_
          refine x_weak (L' := [.ref r0, .int x1, .int x2, .int x3, .int x6, .int z1.1, .int x6, .null]) ⟨Or.inr rfl, Or.inr rfl, Or.inr rfl, Or.inr rfl, Or.inr rfl, Or.inr rfl, Or.inr rfl, Or.inl rfl, trivial⟩ ?_
          exact x_X12_tells_74 hC hE hk0 h_r0 (f_X12_tells_36 r0 x1 x2 f) ih _ _ _ _ _
        · refine x_goto (tgt := 74) hC (zdk dk_X12_tells 34 rfl) rfl ?_
          refine x_weak (L' := [.ref r0, .int x1, .int x2, .int x3, .int x4, .int x5, .int x6, .null]) ⟨Or.inr rfl, Or.inr rfl, Or.inr rfl, Or.inr rfl, Or.inr rfl, Or.inr rfl, Or.inr rfl, Or.inl rfl, trivial⟩ ?_
          exact x_X12_tells_74 hC hE hk0 h_r0 (f_X12_tells_36 r0 x1 x2 f) ih _ _ _ _ _
set_option maxRecDepth 100000 in
def f_X12_tells (r0 : Nat) (x1 : Int32) (x2 : Int32) (M : Mem) : Option (Int32 × Mem) := Option.bind (f_X12_isThere r0 x1 M) fun z2 => (if z2.1 = 0 then f_X12_tells_17 r0 x1 x2 z2.2 else Option.bind (f_X12_is x2 0 1 z2.2) fun z3 => (if z3.1 = 0 then f_X12_tells_17 r0 x1 x2 z3.2 else Option.bind (f_X12_leaves r0 x1 z3.2) fun z4 => f_X12_tells_36 r0 x1 x2 1000000 z4.1 ((-1)) 100000000 0 z4.2))
set_option maxRecDepth 100000 in
set_option maxHeartbeats 4000000 in
theorem x_X12_tells {κ : KX} {n : Nat} (hC : CX κ cX12_tells RX12 8 (some .int) 3) (hE : zEnd κ n (0, 0)) (hk0 : zRk κ (0, 0)) (r0 : Nat) (x1 : Int32) (x2 : Int32) (M : Mem) (h_r0 : zO n r0 12) : X κ 8 emI n (0, 0) 0 [.ref r0, .int x1, .int x2, .null, .null, .null, .null, .null] [] M (f_X12_tells r0 x1 x2 M) := by
  unfold f_X12_tells
  refine x_aload_n (i := 0) rfl hC (zdk dk_X12_tells 0 rfl) (q := 1) rfl ?_
  refine x_iload_n (i := 1) rfl hC (zdk dk_X12_tells 1 rfl) (q := 2) rfl ?_
  refine x_callVi (as := [.int x1]) cb_RX12_536 rfl (by decide) hk0 h_r0 (fun x hx => t_X12_isThere h_r0 x hx) hC (zdk dk_X12_tells 2 rfl) (q := 5) rfl rfl (Nat.le_of_ble_eq_true rfl) (fun z2 => ?_)
  refine x_if_eq (tgt := 17) hC (zdk dk_X12_tells 3 rfl) (q := 8) rfl rfl (fun _ => ?_) (fun _ => ?_)
  · refine x_weak (L' := [.null, .null, .null, .null, .null, .null, .null, .null]) ⟨Or.inl rfl, Or.inl rfl, Or.inl rfl, Or.inl rfl, Or.inl rfl, Or.inl rfl, Or.inl rfl, Or.inl rfl, trivial⟩ ?_
    exact x_X12_tells_17 hC hE hk0 h_r0 _
  · refine x_iload_n (i := 2) rfl hC (zdk dk_X12_tells 4 rfl) (q := 9) rfl ?_
    refine x_iconst (i := 0) c_iconst_0 hC (zdk dk_X12_tells 5 rfl) (q := 10) rfl ?_
    refine x_iconst (i := 1) c_iconst_1 hC (zdk dk_X12_tells 6 rfl) (q := 11) rfl ?_
    refine x_callSi (as := [.int x2, .int 0, .int 1]) cb_RX12_325 rfl (by decide) hk0 (fun x hx => t_X12_is  x hx) hC (zdk dk_X12_tells 7 rfl) (q := 14) rfl rfl (Nat.le_of_ble_eq_true rfl) (fun z3 => ?_)
    refine x_if_ne (tgt := 19) hC (zdk dk_X12_tells 8 rfl) (q := 17) rfl rfl (fun _ => ?_) (fun _ => ?_)
    · refine x_aload_n (i := 0) rfl hC (zdk dk_X12_tells 11 rfl) (q := 20) rfl ?_
      refine x_iload_n (i := 1) rfl hC (zdk dk_X12_tells 12 rfl) (q := 21) rfl ?_
      refine x_callVi (as := [.int x1]) cb_RX12_550 rfl (by decide) hk0 h_r0 (fun x hx => t_X12_leaves h_r0 x hx) hC (zdk dk_X12_tells 13 rfl) (q := 24) rfl rfl (Nat.le_of_ble_eq_true rfl) (fun z4 => ?_)
      refine x_istore_n (i := 3) (L' := [.ref r0, .int x1, .int x2, .int z4.1, .null, .null, .null, .null]) (by decide) rfl hC (zdk dk_X12_tells 14 rfl) (q := 25) rfl ?_
      refine x_iconst (i := (-1)) c_iconst_m1 hC (zdk dk_X12_tells 15 rfl) (q := 26) rfl ?_
      refine x_istore (i := 4) (L' := [.ref r0, .int x1, .int x2, .int z4.1, .int ((-1)), .null, .null, .null]) (by decide) rfl hC (zdk dk_X12_tells 16 rfl) (q := 28) rfl ?_
      refine x_ldcw k_RX12_553 hC (zdk dk_X12_tells 17 rfl) (q := 31) rfl ?_
      refine x_istore (i := 5) (L' := [.ref r0, .int x1, .int x2, .int z4.1, .int ((-1)), .int 100000000, .null, .null]) (by decide) rfl hC (zdk dk_X12_tells 18 rfl) (q := 33) rfl ?_
      refine x_iconst (i := 0) c_iconst_0 hC (zdk dk_X12_tells 19 rfl) (q := 34) rfl ?_
      refine x_istore (i := 6) (L' := [.ref r0, .int x1, .int x2, .int z4.1, .int ((-1)), .int 100000000, .int 0, .null]) (by decide) rfl hC (zdk dk_X12_tells 20 rfl) (q := 36) rfl ?_
      refine x_weak (L' := [.ref r0, .int x1, .int x2, .int z4.1, .int ((-1)), .int 100000000, .int 0, .null]) ⟨Or.inr rfl, Or.inr rfl, Or.inr rfl, Or.inr rfl, Or.inr rfl, Or.inr rfl, Or.inr rfl, Or.inl rfl, trivial⟩ ?_
      exact x_X12_tells_36 hC hE hk0 h_r0 _ _ _ _ _ _
    · refine x_weak (L' := [.null, .null, .null, .null, .null, .null, .null, .null]) ⟨Or.inl rfl, Or.inl rfl, Or.inl rfl, Or.inl rfl, Or.inl rfl, Or.inl rfl, Or.inl rfl, Or.inl rfl, trivial⟩ ?_
      exact x_X12_tells_17 hC hE hk0 h_r0 _
set_option maxRecDepth 100000 in
set_option maxHeartbeats 4000000 in
theorem t_X12_tells {n : Nat} {r0 : Nat} {x1 : Int32} {x2 : Int32} {M : Mem} (h_r0 : zO n r0 12) (x : (Int32 × Mem)) (hx : f_X12_tells r0 x1 x2 M = some x) (l : Launch) (dC : Nat → ClassId) (dI : Nat → Nat → Nat) (b : zSg) : MT l dC dI b yX12_tells cX12_tells 8 (some .int) 3 0 0 n n [.ref r0, .int x1, .int x2] M (emI x).1 (emI x).2 :=
  MT.ofX (by decide +kernel) rfl (Nat.le_of_ble_eq_true rfl) (fun κ hC hF _ => x_X12_tells hC (zEnd_of hF (Nat.le_refl _) (Nat.le_refl _)) (zRk_of hF (Nat.le_refl _) (Nat.le_refl _)) _ _ _ _ h_r0) x hx
set_option maxRecDepth 100000 in
def dt_X12_write : List (Nat × Instr × Nat) := [(0, .aload_n 0, 1), (1, .iload_n 1, 1), (2, .invokevirtual 497, 3), (5, .ifCond .eq 12, 3), (8, .aload_n 0, 1), (9, .iload_n 2, 1), (10, .iload_n 3, 1), (11, .invokevirtual 446, 3), (14, .ifCond .ne 17, 3), (17, .aload_n 0, 1), (18, .iconst 3, 1), (19, .invokevirtual 243, 3), (22, .ifCond .lt 7, 3), (25, .iconst 1, 1), (26, .goto 4, 3), (29, .iconst 0, 1), (30, .ireturn, 1), (31, .aload_n 0, 1), (32, .invokevirtual 557, 3), (35, .aload_n 0, 1), (36, .iload_n 1, 1), (37, .aload_n 0, 1), (38, .iload_n 2, 1), (39, .i2l, 1), (40, .bipush 30, 2), (42, .lshl, 1), (43, .iload_n 3, 1), (44, .i2l, 1), (45, .lor, 1), (46, .invokevirtual 449, 3), (49, .invokevirtual 560, 3), (52, .aload_n 0, 1), (53, .iload_n 1, 1), (54, .iconst 0, 1), (55, .invokevirtual 564, 3), (58, .iconst 1, 1), (59, .ireturn, 1)]
set_option maxRecDepth 100000 in
theorem dk_X12_write : dt_X12_write.all (fun q => decide (decode cX12_write q.1 = .ok q.2)) = true := by decide +kernel
set_option maxRecDepth 100000 in
def f_X12_write_30  (r0 : Nat) (x1 : Int32) (x2 : Int32) (x3 : Int32) (s0 : Int32) (M : Mem) : Option (Int32 × Mem) := zbz s0 (some (s0, M))
set_option maxRecDepth 100000 in
set_option maxHeartbeats 4000000 in
theorem x_X12_write_30 {κ : KX} {n : Nat} (hC : CX κ cX12_write RX12 4 (some .boolean) 2) (hE : zEnd κ n (0, 0)) (hk0 : zRk κ (0, 0)) {r0 : Nat} {x1 : Int32} {x2 : Int32} {x3 : Int32} (h_r0 : zO n r0 12) (s0 : Int32) (M : Mem) : X κ 4 emI n (0, 0) 30 [.null, .null, .null, .null] [.int s0] M (f_X12_write_30 r0 x1 x2 x3 s0 M) := by
  unfold f_X12_write_30
  refine x_bz (fun hb1 => ?_)
  exact x_iret (ty := .boolean) hb1.1 hE hC (zdk dk_X12_write 16 rfl)
set_option maxRecDepth 100000 in
def f_X12_write_17  (r0 : Nat) (x1 : Int32) (x2 : Int32) (x3 : Int32)  (M : Mem) : Option (Int32 × Mem) := Option.bind (f_X12_refuses r0 3 M) fun z2 => (if z2.1 < 0 then f_X12_write_30 r0 x1 x2 x3 0 z2.2 else f_X12_write_30 r0 x1 x2 x3 1 z2.2)
set_option maxRecDepth 100000 in
set_option maxHeartbeats 4000000 in
theorem x_X12_write_17 {κ : KX} {n : Nat} (hC : CX κ cX12_write RX12 4 (some .boolean) 2) (hE : zEnd κ n (0, 0)) (hk0 : zRk κ (0, 0)) {r0 : Nat} {x1 : Int32} {x2 : Int32} {x3 : Int32} (h_r0 : zO n r0 12) (M : Mem) : X κ 4 emI n (0, 0) 17 [.ref r0, .null, .null, .null] [] M (f_X12_write_17 r0 x1 x2 x3 M) := by
  unfold f_X12_write_17
  refine x_aload_n (i := 0) rfl hC (zdk dk_X12_write 9 rfl) (q := 18) rfl ?_
  refine x_iconst (i := 3) c_iconst_3 hC (zdk dk_X12_write 10 rfl) (q := 19) rfl ?_
  refine x_callVi (as := [.int 3]) cb_RX12_243 rfl (by decide) hk0 h_r0 (fun x hx => t_X12_refuses h_r0 x hx) hC (zdk dk_X12_write 11 rfl) (q := 22) rfl rfl (Nat.le_of_ble_eq_true rfl) (fun z2 => ?_)
  refine x_if_lt (tgt := 29) hC (zdk dk_X12_write 12 rfl) (q := 25) rfl rfl (fun _ => ?_) (fun _ => ?_)
  · refine x_iconst (i := 0) c_iconst_0 hC (zdk dk_X12_write 15 rfl) (q := 30) rfl ?_
    refine x_weak (L' := [.null, .null, .null, .null]) ⟨Or.inl rfl, Or.inl rfl, Or.inl rfl, Or.inl rfl, trivial⟩ ?_
    exact x_X12_write_30 hC hE hk0 h_r0 _ _
  · refine x_iconst (i := 1) c_iconst_1 hC (zdk dk_X12_write 13 rfl) (q := 26) rfl ?_
    refine x_goto (tgt := 30) hC (zdk dk_X12_write 14 rfl) rfl ?_
    refine x_weak (L' := [.null, .null, .null, .null]) ⟨Or.inl rfl, Or.inl rfl, Or.inl rfl, Or.inl rfl, trivial⟩ ?_
    exact x_X12_write_30 hC hE hk0 h_r0 _ _
set_option maxRecDepth 100000 in
def f_X12_write (r0 : Nat) (x1 : Int32) (x2 : Int32) (x3 : Int32) (M : Mem) : Option (Int32 × Mem) := Option.bind (f_X12_isPage r0 x1 M) fun z3 => (if z3.1 = 0 then f_X12_write_17 r0 x1 x2 x3 z3.2 else Option.bind (f_X12_isData r0 x2 x3 z3.2) fun z4 => (if z4.1 = 0 then f_X12_write_17 r0 x1 x2 x3 z4.2 else Option.bind (f_X12_keeps r0 z4.2) fun M5 => Option.bind (f_X12_wordOf r0 ((x2.toInt64 <<< ((30 : Int32).toInt64 &&& 63)) ||| x3.toInt64) M5) fun z6 => Option.bind (f_X12_writesWord r0 x1 z6.1 z6.2) fun M7 => Option.bind (f_X12_writesDown r0 x1 0 M7) fun M8 => some (1, M8)))
set_option maxRecDepth 100000 in
set_option maxHeartbeats 4000000 in
theorem x_X12_write {κ : KX} {n : Nat} (hC : CX κ cX12_write RX12 4 (some .boolean) 2) (hE : zEnd κ n (0, 0)) (hk0 : zRk κ (0, 0)) (r0 : Nat) (x1 : Int32) (x2 : Int32) (x3 : Int32) (M : Mem) (h_r0 : zO n r0 12) : X κ 4 emI n (0, 0) 0 [.ref r0, .int x1, .int x2, .int x3] [] M (f_X12_write r0 x1 x2 x3 M) := by
  unfold f_X12_write
  refine x_aload_n (i := 0) rfl hC (zdk dk_X12_write 0 rfl) (q := 1) rfl ?_
  refine x_iload_n (i := 1) rfl hC (zdk dk_X12_write 1 rfl) (q := 2) rfl ?_
  refine x_callVi (as := [.int x1]) cb_RX12_497 rfl (by decide) hk0 h_r0 (fun x hx => t_X12_isPage h_r0 x hx) hC (zdk dk_X12_write 2 rfl) (q := 5) rfl rfl (Nat.le_of_ble_eq_true rfl) (fun z3 => ?_)
  refine x_if_eq (tgt := 17) hC (zdk dk_X12_write 3 rfl) (q := 8) rfl rfl (fun _ => ?_) (fun _ => ?_)
  · refine x_weak (L' := [.ref r0, .null, .null, .null]) ⟨Or.inr rfl, Or.inl rfl, Or.inl rfl, Or.inl rfl, trivial⟩ ?_
    exact x_X12_write_17 hC hE hk0 h_r0 _
  · refine x_aload_n (i := 0) rfl hC (zdk dk_X12_write 4 rfl) (q := 9) rfl ?_
    refine x_iload_n (i := 2) rfl hC (zdk dk_X12_write 5 rfl) (q := 10) rfl ?_
    refine x_iload_n (i := 3) rfl hC (zdk dk_X12_write 6 rfl) (q := 11) rfl ?_
    refine x_callVi (as := [.int x2, .int x3]) cb_RX12_446 rfl (by decide) hk0 h_r0 (fun x hx => t_X12_isData h_r0 x hx) hC (zdk dk_X12_write 7 rfl) (q := 14) rfl rfl (Nat.le_of_ble_eq_true rfl) (fun z4 => ?_)
    refine x_if_ne (tgt := 31) hC (zdk dk_X12_write 8 rfl) (q := 17) rfl rfl (fun _ => ?_) (fun _ => ?_)
    · refine x_aload_n (i := 0) rfl hC (zdk dk_X12_write 17 rfl) (q := 32) rfl ?_
      refine x_callVv (as := []) cb_RX12_557 rfl (by decide) hk0 h_r0 (fun x hx => t_X12_keeps h_r0 x hx) hC (zdk dk_X12_write 18 rfl) (q := 35) rfl rfl (Nat.le_of_ble_eq_true rfl) (fun M5 => ?_)
      refine x_aload_n (i := 0) rfl hC (zdk dk_X12_write 19 rfl) (q := 36) rfl ?_
      refine x_iload_n (i := 1) rfl hC (zdk dk_X12_write 20 rfl) (q := 37) rfl ?_
      refine x_aload_n (i := 0) rfl hC (zdk dk_X12_write 21 rfl) (q := 38) rfl ?_
      refine x_iload_n (i := 2) rfl hC (zdk dk_X12_write 22 rfl) (q := 39) rfl ?_
      refine x_i2l hC (zdk dk_X12_write 23 rfl) (q := 40) rfl ?_
      refine x_bipush (i := 30) c_bipush_30 hC (zdk dk_X12_write 24 rfl) (q := 42) rfl ?_
      refine x_lshl hC (zdk dk_X12_write 25 rfl) (q := 43) rfl ?_
      refine x_iload_n (i := 3) rfl hC (zdk dk_X12_write 26 rfl) (q := 44) rfl ?_
      refine x_i2l hC (zdk dk_X12_write 27 rfl) (q := 45) rfl ?_
      refine x_lor hC (zdk dk_X12_write 28 rfl) (q := 46) rfl ?_
      refine x_callVl (as := [.long ((x2.toInt64 <<< ((30 : Int32).toInt64 &&& 63)) ||| x3.toInt64)]) cb_RX12_449 rfl (by decide) hk0 h_r0 (fun x hx => t_X12_wordOf h_r0 x hx) hC (zdk dk_X12_write 29 rfl) (q := 49) rfl rfl (Nat.le_of_ble_eq_true rfl) (fun z6 => ?_)
      refine x_callVv (as := [.int x1, .long z6.1]) cb_RX12_560 rfl (by decide) hk0 h_r0 (fun x hx => t_X12_writesWord h_r0 x hx) hC (zdk dk_X12_write 30 rfl) (q := 52) rfl rfl (Nat.le_of_ble_eq_true rfl) (fun M7 => ?_)
      refine x_aload_n (i := 0) rfl hC (zdk dk_X12_write 31 rfl) (q := 53) rfl ?_
      refine x_iload_n (i := 1) rfl hC (zdk dk_X12_write 32 rfl) (q := 54) rfl ?_
      refine x_iconst (i := 0) c_iconst_0 hC (zdk dk_X12_write 33 rfl) (q := 55) rfl ?_
      refine x_callVv (as := [.int x1, .int 0]) cb_RX12_564 rfl (by decide) hk0 h_r0 (fun x hx => t_X12_writesDown h_r0 x hx) hC (zdk dk_X12_write 34 rfl) (q := 58) rfl rfl (Nat.le_of_ble_eq_true rfl) (fun M8 => ?_)
      refine x_iconst (i := 1) c_iconst_1 hC (zdk dk_X12_write 35 rfl) (q := 59) rfl ?_
      exact x_iret (ty := .boolean) rfl hE hC (zdk dk_X12_write 36 rfl)
    · refine x_weak (L' := [.ref r0, .null, .null, .null]) ⟨Or.inr rfl, Or.inl rfl, Or.inl rfl, Or.inl rfl, trivial⟩ ?_
      exact x_X12_write_17 hC hE hk0 h_r0 _
set_option maxRecDepth 100000 in
set_option maxHeartbeats 4000000 in
theorem t_X12_write {n : Nat} {r0 : Nat} {x1 : Int32} {x2 : Int32} {x3 : Int32} {M : Mem} (h_r0 : zO n r0 12) (x : (Int32 × Mem)) (hx : f_X12_write r0 x1 x2 x3 M = some x) (l : Launch) (dC : Nat → ClassId) (dI : Nat → Nat → Nat) (b : zSg) : MT l dC dI b yX12_write cX12_write 4 (some .boolean) 2 0 0 n n [.ref r0, .int x1, .int x2, .int x3] M (emI x).1 (emI x).2 :=
  MT.ofX (by decide +kernel) rfl (Nat.le_of_ble_eq_true rfl) (fun κ hC hF _ => x_X12_write hC (zEnd_of hF (Nat.le_refl _) (Nat.le_refl _)) (zRk_of hF (Nat.le_refl _) (Nat.le_refl _)) _ _ _ _ _ h_r0) x hx
set_option maxRecDepth 100000 in
def dt_X12_erase : List (Nat × Instr × Nat) := [(0, .aload_n 0, 1), (1, .iload_n 1, 1), (2, .invokevirtual 536, 3), (5, .ifCond .ne 17, 3), (8, .aload_n 0, 1), (9, .iconst 3, 1), (10, .invokevirtual 243, 3), (13, .ifCond .lt 7, 3), (16, .iconst 1, 1), (17, .goto 4, 3), (20, .iconst 0, 1), (21, .ireturn, 1), (22, .aload_n 0, 1), (23, .invokevirtual 557, 3), (26, .aload_n 0, 1), (27, .getfield 183, 3), (30, .iload_n 1, 1), (31, .iconst 0, 1), (32, .iastore, 1), (33, .iconst 1, 1), (34, .ireturn, 1)]
set_option maxRecDepth 100000 in
theorem dk_X12_erase : dt_X12_erase.all (fun q => decide (decode cX12_erase q.1 = .ok q.2)) = true := by decide +kernel
set_option maxRecDepth 100000 in
def f_X12_erase_21  (r0 : Nat) (x1 : Int32) (s0 : Int32) (M : Mem) : Option (Int32 × Mem) := zbz s0 (some (s0, M))
set_option maxRecDepth 100000 in
set_option maxHeartbeats 4000000 in
theorem x_X12_erase_21 {κ : KX} {n : Nat} (hC : CX κ cX12_erase RX12 2 (some .boolean) 2) (hE : zEnd κ n (0, 0)) (hk0 : zRk κ (0, 0)) {r0 : Nat} {x1 : Int32} (h_r0 : zO n r0 12) (s0 : Int32) (M : Mem) : X κ 2 emI n (0, 0) 21 [.null, .null] [.int s0] M (f_X12_erase_21 r0 x1 s0 M) := by
  unfold f_X12_erase_21
  refine x_bz (fun hb1 => ?_)
  exact x_iret (ty := .boolean) hb1.1 hE hC (zdk dk_X12_erase 11 rfl)
set_option maxRecDepth 100000 in
def f_X12_erase (r0 : Nat) (x1 : Int32) (M : Mem) : Option (Int32 × Mem) := Option.bind (f_X12_isThere r0 x1 M) fun z2 => (if z2.1 = 0 then Option.bind (f_X12_refuses r0 3 z2.2) fun z7 => (if z7.1 < 0 then f_X12_erase_21 r0 x1 0 z7.2 else f_X12_erase_21 r0 x1 1 z7.2) else Option.bind (f_X12_keeps r0 z2.2) fun M3 => Option.bind (zrf M3 r0 56) fun q4 => Option.bind (zld q4 x1) fun k5 => Option.bind (some (zsI M3 q4 k5 0)) fun M6 => some (1, M6))
set_option maxRecDepth 100000 in
set_option maxHeartbeats 4000000 in
theorem x_X12_erase {κ : KX} {n : Nat} (hC : CX κ cX12_erase RX12 2 (some .boolean) 2) (hE : zEnd κ n (0, 0)) (hk0 : zRk κ (0, 0)) (r0 : Nat) (x1 : Int32) (M : Mem) (h_r0 : zO n r0 12) : X κ 2 emI n (0, 0) 0 [.ref r0, .int x1] [] M (f_X12_erase r0 x1 M) := by
  unfold f_X12_erase
  refine x_aload_n (i := 0) rfl hC (zdk dk_X12_erase 0 rfl) (q := 1) rfl ?_
  refine x_iload_n (i := 1) rfl hC (zdk dk_X12_erase 1 rfl) (q := 2) rfl ?_
  refine x_callVi (as := [.int x1]) cb_RX12_536 rfl (by decide) hk0 h_r0 (fun x hx => t_X12_isThere h_r0 x hx) hC (zdk dk_X12_erase 2 rfl) (q := 5) rfl rfl (Nat.le_of_ble_eq_true rfl) (fun z2 => ?_)
  refine x_if_ne (tgt := 22) hC (zdk dk_X12_erase 3 rfl) (q := 8) rfl rfl (fun _ => ?_) (fun _ => ?_)
  · refine x_aload_n (i := 0) rfl hC (zdk dk_X12_erase 12 rfl) (q := 23) rfl ?_
    refine x_callVv (as := []) cb_RX12_557 rfl (by decide) hk0 h_r0 (fun x hx => t_X12_keeps h_r0 x hx) hC (zdk dk_X12_erase 13 rfl) (q := 26) rfl rfl (Nat.le_of_ble_eq_true rfl) (fun M3 => ?_)
    refine x_aload_n (i := 0) rfl hC (zdk dk_X12_erase 14 rfl) (q := 27) rfl ?_
    refine x_getR (k := 20) fl_RX12_183 rfl h_r0 hC (zdk dk_X12_erase 15 rfl) (q := 30) rfl (fun q4 hq4 => ?_)
    refine x_iload_n (i := 1) rfl hC (zdk dk_X12_erase 16 rfl) (q := 31) rfl ?_
    refine x_iconst (i := 0) c_iconst_0 hC (zdk dk_X12_erase 17 rfl) (q := 32) rfl ?_
    refine x_iast hq4 hC (zdk dk_X12_erase 18 rfl) (q := 33) rfl (fun k5 _ => ?_)
    refine x_nmM (fun M6 => ?_)
    refine x_iconst (i := 1) c_iconst_1 hC (zdk dk_X12_erase 19 rfl) (q := 34) rfl ?_
    exact x_iret (ty := .boolean) rfl hE hC (zdk dk_X12_erase 20 rfl)
  · refine x_aload_n (i := 0) rfl hC (zdk dk_X12_erase 4 rfl) (q := 9) rfl ?_
    refine x_iconst (i := 3) c_iconst_3 hC (zdk dk_X12_erase 5 rfl) (q := 10) rfl ?_
    refine x_callVi (as := [.int 3]) cb_RX12_243 rfl (by decide) hk0 h_r0 (fun x hx => t_X12_refuses h_r0 x hx) hC (zdk dk_X12_erase 6 rfl) (q := 13) rfl rfl (Nat.le_of_ble_eq_true rfl) (fun z7 => ?_)
    refine x_if_lt (tgt := 20) hC (zdk dk_X12_erase 7 rfl) (q := 16) rfl rfl (fun _ => ?_) (fun _ => ?_)
    · refine x_iconst (i := 0) c_iconst_0 hC (zdk dk_X12_erase 10 rfl) (q := 21) rfl ?_
      refine x_weak (L' := [.null, .null]) ⟨Or.inl rfl, Or.inl rfl, trivial⟩ ?_
      exact x_X12_erase_21 hC hE hk0 h_r0 _ _
    · refine x_iconst (i := 1) c_iconst_1 hC (zdk dk_X12_erase 8 rfl) (q := 17) rfl ?_
      refine x_goto (tgt := 21) hC (zdk dk_X12_erase 9 rfl) rfl ?_
      refine x_weak (L' := [.null, .null]) ⟨Or.inl rfl, Or.inl rfl, trivial⟩ ?_
      exact x_X12_erase_21 hC hE hk0 h_r0 _ _
set_option maxRecDepth 100000 in
set_option maxHeartbeats 4000000 in
theorem t_X12_erase {n : Nat} {r0 : Nat} {x1 : Int32} {M : Mem} (h_r0 : zO n r0 12) (x : (Int32 × Mem)) (hx : f_X12_erase r0 x1 M = some x) (l : Launch) (dC : Nat → ClassId) (dI : Nat → Nat → Nat) (b : zSg) : MT l dC dI b yX12_erase cX12_erase 2 (some .boolean) 2 0 0 n n [.ref r0, .int x1] M (emI x).1 (emI x).2 :=
  MT.ofX (by decide +kernel) rfl (Nat.le_of_ble_eq_true rfl) (fun κ hC hF _ => x_X12_erase hC (zEnd_of hF (Nat.le_refl _) (Nat.le_refl _)) (zRk_of hF (Nat.le_refl _) (Nat.le_refl _)) _ _ _ h_r0) x hx
set_option maxRecDepth 100000 in
def dt_X12_flip : List (Nat × Instr × Nat) := [(0, .aload_n 0, 1), (1, .iload_n 1, 1), (2, .invokevirtual 536, 3), (5, .ifCond .eq 17, 3), (8, .iload_n 2, 1), (9, .iconst 0, 1), (10, .aload_n 0, 1), (11, .getfield 132, 3), (14, .iconst 1, 1), (15, .isub, 1), (16, .invokestatic 325, 3), (19, .ifCond .ne 17, 3), (22, .aload_n 0, 1), (23, .iconst 3, 1), (24, .invokevirtual 243, 3), (27, .ifCond .lt 7, 3), (30, .iconst 1, 1), (31, .goto 4, 3), (34, .iconst 0, 1), (35, .ireturn, 1), (36, .aload_n 0, 1), (37, .invokevirtual 557, 3), (40, .aload_n 0, 1), (41, .iconst 0, 1), (42, .iload_n 1, 1), (43, .iload_n 2, 1), (44, .bipush 99, 2), (46, .aload_n 0, 1), (47, .iconst 0, 1), (48, .iload_n 1, 1), (49, .iload_n 2, 1), (50, .invokevirtual 500, 3), (53, .isub, 1), (54, .invokevirtual 522, 3), (57, .iconst 1, 1), (58, .ireturn, 1)]
set_option maxRecDepth 100000 in
theorem dk_X12_flip : dt_X12_flip.all (fun q => decide (decode cX12_flip q.1 = .ok q.2)) = true := by decide +kernel
set_option maxRecDepth 100000 in
def f_X12_flip_35  (r0 : Nat) (x1 : Int32) (x2 : Int32) (s0 : Int32) (M : Mem) : Option (Int32 × Mem) := zbz s0 (some (s0, M))
set_option maxRecDepth 100000 in
set_option maxHeartbeats 4000000 in
theorem x_X12_flip_35 {κ : KX} {n : Nat} (hC : CX κ cX12_flip RX12 3 (some .boolean) 2) (hE : zEnd κ n (0, 0)) (hk0 : zRk κ (0, 0)) {r0 : Nat} {x1 : Int32} {x2 : Int32} (h_r0 : zO n r0 12) (s0 : Int32) (M : Mem) : X κ 3 emI n (0, 0) 35 [.null, .null, .null] [.int s0] M (f_X12_flip_35 r0 x1 x2 s0 M) := by
  unfold f_X12_flip_35
  refine x_bz (fun hb1 => ?_)
  exact x_iret (ty := .boolean) hb1.1 hE hC (zdk dk_X12_flip 19 rfl)
set_option maxRecDepth 100000 in
def f_X12_flip_22  (r0 : Nat) (x1 : Int32) (x2 : Int32)  (M : Mem) : Option (Int32 × Mem) := Option.bind (f_X12_refuses r0 3 M) fun z2 => (if z2.1 < 0 then f_X12_flip_35 r0 x1 x2 0 z2.2 else f_X12_flip_35 r0 x1 x2 1 z2.2)
set_option maxRecDepth 100000 in
set_option maxHeartbeats 4000000 in
theorem x_X12_flip_22 {κ : KX} {n : Nat} (hC : CX κ cX12_flip RX12 3 (some .boolean) 2) (hE : zEnd κ n (0, 0)) (hk0 : zRk κ (0, 0)) {r0 : Nat} {x1 : Int32} {x2 : Int32} (h_r0 : zO n r0 12) (M : Mem) : X κ 3 emI n (0, 0) 22 [.ref r0, .null, .null] [] M (f_X12_flip_22 r0 x1 x2 M) := by
  unfold f_X12_flip_22
  refine x_aload_n (i := 0) rfl hC (zdk dk_X12_flip 12 rfl) (q := 23) rfl ?_
  refine x_iconst (i := 3) c_iconst_3 hC (zdk dk_X12_flip 13 rfl) (q := 24) rfl ?_
  refine x_callVi (as := [.int 3]) cb_RX12_243 rfl (by decide) hk0 h_r0 (fun x hx => t_X12_refuses h_r0 x hx) hC (zdk dk_X12_flip 14 rfl) (q := 27) rfl rfl (Nat.le_of_ble_eq_true rfl) (fun z2 => ?_)
  refine x_if_lt (tgt := 34) hC (zdk dk_X12_flip 15 rfl) (q := 30) rfl rfl (fun _ => ?_) (fun _ => ?_)
  · refine x_iconst (i := 0) c_iconst_0 hC (zdk dk_X12_flip 18 rfl) (q := 35) rfl ?_
    refine x_weak (L' := [.null, .null, .null]) ⟨Or.inl rfl, Or.inl rfl, Or.inl rfl, trivial⟩ ?_
    exact x_X12_flip_35 hC hE hk0 h_r0 _ _
  · refine x_iconst (i := 1) c_iconst_1 hC (zdk dk_X12_flip 16 rfl) (q := 31) rfl ?_
    refine x_goto (tgt := 35) hC (zdk dk_X12_flip 17 rfl) rfl ?_
    refine x_weak (L' := [.null, .null, .null]) ⟨Or.inl rfl, Or.inl rfl, Or.inl rfl, trivial⟩ ?_
    exact x_X12_flip_35 hC hE hk0 h_r0 _ _
set_option maxRecDepth 100000 in
def f_X12_flip (r0 : Nat) (x1 : Int32) (x2 : Int32) (M : Mem) : Option (Int32 × Mem) := Option.bind (f_X12_isThere r0 x1 M) fun z3 => (if z3.1 = 0 then f_X12_flip_22 r0 x1 x2 z3.2 else Option.bind (f_X12_is x2 0 ((zI z3.2 r0 39) - 1) z3.2) fun z4 => (if z4.1 = 0 then f_X12_flip_22 r0 x1 x2 z4.2 else Option.bind (f_X12_keeps r0 z4.2) fun M5 => Option.bind (f_X12_levelAt r0 0 x1 x2 M5) fun z6 => Option.bind (f_X12_puts r0 0 x1 x2 (99 - z6.1) z6.2) fun M7 => some (1, M7)))
set_option maxRecDepth 100000 in
set_option maxHeartbeats 4000000 in
theorem x_X12_flip {κ : KX} {n : Nat} (hC : CX κ cX12_flip RX12 3 (some .boolean) 2) (hE : zEnd κ n (0, 0)) (hk0 : zRk κ (0, 0)) (r0 : Nat) (x1 : Int32) (x2 : Int32) (M : Mem) (h_r0 : zO n r0 12) : X κ 3 emI n (0, 0) 0 [.ref r0, .int x1, .int x2] [] M (f_X12_flip r0 x1 x2 M) := by
  unfold f_X12_flip
  refine x_aload_n (i := 0) rfl hC (zdk dk_X12_flip 0 rfl) (q := 1) rfl ?_
  refine x_iload_n (i := 1) rfl hC (zdk dk_X12_flip 1 rfl) (q := 2) rfl ?_
  refine x_callVi (as := [.int x1]) cb_RX12_536 rfl (by decide) hk0 h_r0 (fun x hx => t_X12_isThere h_r0 x hx) hC (zdk dk_X12_flip 2 rfl) (q := 5) rfl rfl (Nat.le_of_ble_eq_true rfl) (fun z3 => ?_)
  refine x_if_eq (tgt := 22) hC (zdk dk_X12_flip 3 rfl) (q := 8) rfl rfl (fun _ => ?_) (fun _ => ?_)
  · refine x_weak (L' := [.ref r0, .null, .null]) ⟨Or.inr rfl, Or.inl rfl, Or.inl rfl, trivial⟩ ?_
    exact x_X12_flip_22 hC hE hk0 h_r0 _
  · refine x_iload_n (i := 2) rfl hC (zdk dk_X12_flip 4 rfl) (q := 9) rfl ?_
    refine x_iconst (i := 0) c_iconst_0 hC (zdk dk_X12_flip 5 rfl) (q := 10) rfl ?_
    refine x_aload_n (i := 0) rfl hC (zdk dk_X12_flip 6 rfl) (q := 11) rfl ?_
    refine x_getI fl_RX12_132 (by decide) h_r0 hC (zdk dk_X12_flip 7 rfl) (q := 14) rfl ?_
    refine x_iconst (i := 1) c_iconst_1 hC (zdk dk_X12_flip 8 rfl) (q := 15) rfl ?_
    refine x_isub hC (zdk dk_X12_flip 9 rfl) (q := 16) rfl ?_
    refine x_callSi (as := [.int x2, .int 0, .int ((zI z3.2 r0 39) - 1)]) cb_RX12_325 rfl (by decide) hk0 (fun x hx => t_X12_is  x hx) hC (zdk dk_X12_flip 10 rfl) (q := 19) rfl rfl (Nat.le_of_ble_eq_true rfl) (fun z4 => ?_)
    refine x_if_ne (tgt := 36) hC (zdk dk_X12_flip 11 rfl) (q := 22) rfl rfl (fun _ => ?_) (fun _ => ?_)
    · refine x_aload_n (i := 0) rfl hC (zdk dk_X12_flip 20 rfl) (q := 37) rfl ?_
      refine x_callVv (as := []) cb_RX12_557 rfl (by decide) hk0 h_r0 (fun x hx => t_X12_keeps h_r0 x hx) hC (zdk dk_X12_flip 21 rfl) (q := 40) rfl rfl (Nat.le_of_ble_eq_true rfl) (fun M5 => ?_)
      refine x_aload_n (i := 0) rfl hC (zdk dk_X12_flip 22 rfl) (q := 41) rfl ?_
      refine x_iconst (i := 0) c_iconst_0 hC (zdk dk_X12_flip 23 rfl) (q := 42) rfl ?_
      refine x_iload_n (i := 1) rfl hC (zdk dk_X12_flip 24 rfl) (q := 43) rfl ?_
      refine x_iload_n (i := 2) rfl hC (zdk dk_X12_flip 25 rfl) (q := 44) rfl ?_
      refine x_bipush (i := 99) c_bipush_99 hC (zdk dk_X12_flip 26 rfl) (q := 46) rfl ?_
      refine x_aload_n (i := 0) rfl hC (zdk dk_X12_flip 27 rfl) (q := 47) rfl ?_
      refine x_iconst (i := 0) c_iconst_0 hC (zdk dk_X12_flip 28 rfl) (q := 48) rfl ?_
      refine x_iload_n (i := 1) rfl hC (zdk dk_X12_flip 29 rfl) (q := 49) rfl ?_
      refine x_iload_n (i := 2) rfl hC (zdk dk_X12_flip 30 rfl) (q := 50) rfl ?_
      refine x_callVi (as := [.int 0, .int x1, .int x2]) cb_RX12_500 rfl (by decide) hk0 h_r0 (fun x hx => t_X12_levelAt h_r0 x hx) hC (zdk dk_X12_flip 31 rfl) (q := 53) rfl rfl (Nat.le_of_ble_eq_true rfl) (fun z6 => ?_)
      refine x_isub hC (zdk dk_X12_flip 32 rfl) (q := 54) rfl ?_
      refine x_callVv (as := [.int 0, .int x1, .int x2, .int (99 - z6.1)]) cb_RX12_522 rfl (by decide) hk0 h_r0 (fun x hx => t_X12_puts h_r0 x hx) hC (zdk dk_X12_flip 33 rfl) (q := 57) rfl rfl (Nat.le_of_ble_eq_true rfl) (fun M7 => ?_)
      refine x_iconst (i := 1) c_iconst_1 hC (zdk dk_X12_flip 34 rfl) (q := 58) rfl ?_
      exact x_iret (ty := .boolean) rfl hE hC (zdk dk_X12_flip 35 rfl)
    · refine x_weak (L' := [.ref r0, .null, .null]) ⟨Or.inr rfl, Or.inl rfl, Or.inl rfl, trivial⟩ ?_
      exact x_X12_flip_22 hC hE hk0 h_r0 _
set_option maxRecDepth 100000 in
set_option maxHeartbeats 4000000 in
theorem t_X12_flip {n : Nat} {r0 : Nat} {x1 : Int32} {x2 : Int32} {M : Mem} (h_r0 : zO n r0 12) (x : (Int32 × Mem)) (hx : f_X12_flip r0 x1 x2 M = some x) (l : Launch) (dC : Nat → ClassId) (dI : Nat → Nat → Nat) (b : zSg) : MT l dC dI b yX12_flip cX12_flip 3 (some .boolean) 2 0 0 n n [.ref r0, .int x1, .int x2] M (emI x).1 (emI x).2 :=
  MT.ofX (by decide +kernel) rfl (Nat.le_of_ble_eq_true rfl) (fun κ hC hF _ => x_X12_flip hC (zEnd_of hF (Nat.le_refl _) (Nat.le_refl _)) (zRk_of hF (Nat.le_refl _) (Nat.le_refl _)) _ _ _ _ h_r0) x hx
set_option maxRecDepth 100000 in
def dt_X12_refresh : List (Nat × Instr × Nat) := [(0, .aload_n 0, 1), (1, .iload_n 1, 1), (2, .invokevirtual 536, 3), (5, .ifCond .eq 12, 3), (8, .aload_n 0, 1), (9, .iconst 0, 1), (10, .iload_n 1, 1), (11, .invokevirtual 519, 3), (14, .ifCond .le 9, 3), (17, .aload_n 0, 1), (18, .iconst 3, 1), (19, .invokevirtual 243, 3), (22, .ireturn, 1), (23, .aload_n 0, 1), (24, .getfield 171, 3), (27, .istore_n 2, 1), (28, .aload_n 0, 1), (29, .getfield 174, 3), (32, .lstore_n 3, 1), (33, .aload_n 0, 1), (34, .invokevirtual 557, 3), (37, .aload_n 0, 1), (38, .iload_n 1, 1), (39, .lload_n 3, 1), (40, .invokevirtual 560, 3), (43, .aload_n 0, 1), (44, .iload_n 1, 1), (45, .iload_n 2, 1), (46, .invokevirtual 564, 3), (49, .iload_n 2, 1), (50, .ireturn, 1)]
set_option maxRecDepth 100000 in
theorem dk_X12_refresh : dt_X12_refresh.all (fun q => decide (decode cX12_refresh q.1 = .ok q.2)) = true := by decide +kernel
set_option maxRecDepth 100000 in
def f_X12_refresh_17  (r0 : Nat) (x1 : Int32)  (M : Mem) : Option (Int32 × Mem) := Option.bind (f_X12_refuses r0 3 M) fun z1 => some (z1.1, z1.2)
set_option maxRecDepth 100000 in
set_option maxHeartbeats 4000000 in
theorem x_X12_refresh_17 {κ : KX} {n : Nat} (hC : CX κ cX12_refresh RX12 5 (some .int) 5) (hE : zEnd κ n (0, 0)) (hk0 : zRk κ (0, 0)) {r0 : Nat} {x1 : Int32} (h_r0 : zO n r0 12) (M : Mem) : X κ 5 emI n (0, 0) 17 [.ref r0, .null, .null, .null, .null] [] M (f_X12_refresh_17 r0 x1 M) := by
  unfold f_X12_refresh_17
  refine x_aload_n (i := 0) rfl hC (zdk dk_X12_refresh 9 rfl) (q := 18) rfl ?_
  refine x_iconst (i := 3) c_iconst_3 hC (zdk dk_X12_refresh 10 rfl) (q := 19) rfl ?_
  refine x_callVi (as := [.int 3]) cb_RX12_243 rfl (by decide) hk0 h_r0 (fun x hx => t_X12_refuses h_r0 x hx) hC (zdk dk_X12_refresh 11 rfl) (q := 22) rfl rfl (Nat.le_of_ble_eq_true rfl) (fun z1 => ?_)
  exact x_iret (ty := .int) rfl hE hC (zdk dk_X12_refresh 12 rfl)
set_option maxRecDepth 100000 in
def f_X12_refresh (r0 : Nat) (x1 : Int32) (M : Mem) : Option (Int32 × Mem) := Option.bind (f_X12_isThere r0 x1 M) fun z2 => (if z2.1 = 0 then f_X12_refresh_17 r0 x1 z2.2 else Option.bind (f_X12_gets r0 0 x1 z2.2) fun z3 => (if z3.1 ≤ 0 then Option.bind (f_X12_keeps r0 z3.2) fun M4 => Option.bind (f_X12_writesWord r0 x1 (zL z3.2 r0 53) M4) fun M5 => Option.bind (f_X12_writesDown r0 x1 (zI z3.2 r0 52) M5) fun M6 => some (zI z3.2 r0 52, M6) else f_X12_refresh_17 r0 x1 z3.2))
set_option maxRecDepth 100000 in
set_option maxHeartbeats 4000000 in
theorem x_X12_refresh {κ : KX} {n : Nat} (hC : CX κ cX12_refresh RX12 5 (some .int) 5) (hE : zEnd κ n (0, 0)) (hk0 : zRk κ (0, 0)) (r0 : Nat) (x1 : Int32) (M : Mem) (h_r0 : zO n r0 12) : X κ 5 emI n (0, 0) 0 [.ref r0, .int x1, .null, .null, .null] [] M (f_X12_refresh r0 x1 M) := by
  unfold f_X12_refresh
  refine x_aload_n (i := 0) rfl hC (zdk dk_X12_refresh 0 rfl) (q := 1) rfl ?_
  refine x_iload_n (i := 1) rfl hC (zdk dk_X12_refresh 1 rfl) (q := 2) rfl ?_
  refine x_callVi (as := [.int x1]) cb_RX12_536 rfl (by decide) hk0 h_r0 (fun x hx => t_X12_isThere h_r0 x hx) hC (zdk dk_X12_refresh 2 rfl) (q := 5) rfl rfl (Nat.le_of_ble_eq_true rfl) (fun z2 => ?_)
  refine x_if_eq (tgt := 17) hC (zdk dk_X12_refresh 3 rfl) (q := 8) rfl rfl (fun _ => ?_) (fun _ => ?_)
  · refine x_weak (L' := [.ref r0, .null, .null, .null, .null]) ⟨Or.inr rfl, Or.inl rfl, Or.inl rfl, Or.inl rfl, Or.inl rfl, trivial⟩ ?_
    exact x_X12_refresh_17 hC hE hk0 h_r0 _
  · refine x_aload_n (i := 0) rfl hC (zdk dk_X12_refresh 4 rfl) (q := 9) rfl ?_
    refine x_iconst (i := 0) c_iconst_0 hC (zdk dk_X12_refresh 5 rfl) (q := 10) rfl ?_
    refine x_iload_n (i := 1) rfl hC (zdk dk_X12_refresh 6 rfl) (q := 11) rfl ?_
    refine x_callVi (as := [.int 0, .int x1]) cb_RX12_519 rfl (by decide) hk0 h_r0 (fun x hx => t_X12_gets h_r0 x hx) hC (zdk dk_X12_refresh 7 rfl) (q := 14) rfl rfl (Nat.le_of_ble_eq_true rfl) (fun z3 => ?_)
    refine x_if_le (tgt := 23) hC (zdk dk_X12_refresh 8 rfl) (q := 17) rfl rfl (fun _ => ?_) (fun _ => ?_)
    · refine x_aload_n (i := 0) rfl hC (zdk dk_X12_refresh 13 rfl) (q := 24) rfl ?_
      refine x_getI fl_RX12_171 (by decide) h_r0 hC (zdk dk_X12_refresh 14 rfl) (q := 27) rfl ?_
      refine x_istore_n (i := 2) (L' := [.ref r0, .int x1, .int (zI z3.2 r0 52), .null, .null]) (by decide) rfl hC (zdk dk_X12_refresh 15 rfl) (q := 28) rfl ?_
      refine x_aload_n (i := 0) rfl hC (zdk dk_X12_refresh 16 rfl) (q := 29) rfl ?_
      refine x_getL fl_RX12_174 h_r0 hC (zdk dk_X12_refresh 17 rfl) (q := 32) rfl ?_
      refine x_lstore_n (i := 3) (L' := [.ref r0, .int x1, .int (zI z3.2 r0 52), .long (zL z3.2 r0 53), .null]) (by decide) rfl hC (zdk dk_X12_refresh 18 rfl) (q := 33) rfl ?_
      refine x_aload_n (i := 0) rfl hC (zdk dk_X12_refresh 19 rfl) (q := 34) rfl ?_
      refine x_callVv (as := []) cb_RX12_557 rfl (by decide) hk0 h_r0 (fun x hx => t_X12_keeps h_r0 x hx) hC (zdk dk_X12_refresh 20 rfl) (q := 37) rfl rfl (Nat.le_of_ble_eq_true rfl) (fun M4 => ?_)
      refine x_aload_n (i := 0) rfl hC (zdk dk_X12_refresh 21 rfl) (q := 38) rfl ?_
      refine x_iload_n (i := 1) rfl hC (zdk dk_X12_refresh 22 rfl) (q := 39) rfl ?_
      refine x_lload_n (i := 3) rfl hC (zdk dk_X12_refresh 23 rfl) (q := 40) rfl ?_
      refine x_callVv (as := [.int x1, .long (zL z3.2 r0 53)]) cb_RX12_560 rfl (by decide) hk0 h_r0 (fun x hx => t_X12_writesWord h_r0 x hx) hC (zdk dk_X12_refresh 24 rfl) (q := 43) rfl rfl (Nat.le_of_ble_eq_true rfl) (fun M5 => ?_)
      refine x_aload_n (i := 0) rfl hC (zdk dk_X12_refresh 25 rfl) (q := 44) rfl ?_
      refine x_iload_n (i := 1) rfl hC (zdk dk_X12_refresh 26 rfl) (q := 45) rfl ?_
      refine x_iload_n (i := 2) rfl hC (zdk dk_X12_refresh 27 rfl) (q := 46) rfl ?_
      refine x_callVv (as := [.int x1, .int (zI z3.2 r0 52)]) cb_RX12_564 rfl (by decide) hk0 h_r0 (fun x hx => t_X12_writesDown h_r0 x hx) hC (zdk dk_X12_refresh 28 rfl) (q := 49) rfl rfl (Nat.le_of_ble_eq_true rfl) (fun M6 => ?_)
      refine x_iload_n (i := 2) rfl hC (zdk dk_X12_refresh 29 rfl) (q := 50) rfl ?_
      exact x_iret (ty := .int) rfl hE hC (zdk dk_X12_refresh 30 rfl)
    · refine x_weak (L' := [.ref r0, .null, .null, .null, .null]) ⟨Or.inr rfl, Or.inl rfl, Or.inl rfl, Or.inl rfl, Or.inl rfl, trivial⟩ ?_
      exact x_X12_refresh_17 hC hE hk0 h_r0 _
set_option maxRecDepth 100000 in
set_option maxHeartbeats 4000000 in
theorem t_X12_refresh {n : Nat} {r0 : Nat} {x1 : Int32} {M : Mem} (h_r0 : zO n r0 12) (x : (Int32 × Mem)) (hx : f_X12_refresh r0 x1 M = some x) (l : Launch) (dC : Nat → ClassId) (dI : Nat → Nat → Nat) (b : zSg) : MT l dC dI b yX12_refresh cX12_refresh 5 (some .int) 5 0 0 n n [.ref r0, .int x1] M (emI x).1 (emI x).2 :=
  MT.ofX (by decide +kernel) rfl (Nat.le_of_ble_eq_true rfl) (fun κ hC hF _ => x_X12_refresh hC (zEnd_of hF (Nat.le_refl _) (Nat.le_refl _)) (zRk_of hF (Nat.le_refl _) (Nat.le_refl _)) _ _ _ h_r0) x hx
