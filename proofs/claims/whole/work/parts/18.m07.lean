set_option maxRecDepth 100000 in
def dt_X11_why : List (Nat × Instr × Nat) := [(0, .aload_n 0, 1), (1, .iload_n 1, 1), (2, .iload_n 2, 1), (3, .invokevirtual 266, 3), (6, .ifCond .ne 5, 3), (9, .iconst (-1), 1), (10, .ireturn, 1), (11, .aload_n 0, 1), (12, .iload_n 1, 1), (13, .iload_n 2, 1), (14, .invokevirtual 272, 3), (17, .aload_n 0, 1), (18, .getfield 26, 3), (21, .getfield 282, 3), (24, .ireturn, 1)]
set_option maxRecDepth 100000 in
theorem dk_X11_why : dt_X11_why.all (fun q => decide (decode cX11_why q.1 = .ok q.2)) = true := by decide +kernel
set_option maxRecDepth 100000 in
def f_X11_why (r0 : Nat) (x1 : Int32) (x2 : Int32) (M : Mem) : Option (Int32 × Mem) := Option.bind (f_X11_isRead r0 x1 x2 M) fun z1 => (if z1.1 = 0 then some ((-1), z1.2) else Option.bind (f_X11_decode r0 x1 x2 z1.2) fun M2 => Option.bind (zrf M2 r0 3) fun q3 => some (zI M2 q3 9, M2))
set_option maxRecDepth 100000 in
set_option maxHeartbeats 4000000 in
theorem x_X11_why {κ : KX} {n : Nat} (hC : CX κ cX11_why RX11 3 (some .int) 5) (hE : zEnd κ n (0, 0)) (hk0 : zRk κ (0, 0)) (r0 : Nat) (x1 : Int32) (x2 : Int32) (M : Mem) (h_r0 : zO n r0 11) : X κ 3 emI n (0, 0) 0 [.ref r0, .int x1, .int x2] [] M (f_X11_why r0 x1 x2 M) := by
  unfold f_X11_why
  refine x_aload_n (i := 0) rfl hC (zdk dk_X11_why 0 rfl) (q := 1) rfl ?_
  refine x_iload_n (i := 1) rfl hC (zdk dk_X11_why 1 rfl) (q := 2) rfl ?_
  refine x_iload_n (i := 2) rfl hC (zdk dk_X11_why 2 rfl) (q := 3) rfl ?_
  refine x_callVi (as := [.int x1, .int x2]) cb_RX11_266 rfl (by decide) hk0 h_r0 (fun x hx => t_X11_isRead h_r0 x hx) hC (zdk dk_X11_why 3 rfl) (q := 6) rfl rfl (Nat.le_of_ble_eq_true rfl) (fun z1 => ?_)
  refine x_if_ne (tgt := 11) hC (zdk dk_X11_why 4 rfl) (q := 9) rfl rfl (fun _ => ?_) (fun _ => ?_)
  · refine x_aload_n (i := 0) rfl hC (zdk dk_X11_why 7 rfl) (q := 12) rfl ?_
    refine x_iload_n (i := 1) rfl hC (zdk dk_X11_why 8 rfl) (q := 13) rfl ?_
    refine x_iload_n (i := 2) rfl hC (zdk dk_X11_why 9 rfl) (q := 14) rfl ?_
    refine x_callVv (as := [.int x1, .int x2]) cb_RX11_272 rfl (by decide) hk0 h_r0 (fun x hx => t_X11_decode h_r0 x hx) hC (zdk dk_X11_why 10 rfl) (q := 17) rfl rfl (Nat.le_of_ble_eq_true rfl) (fun M2 => ?_)
    refine x_aload_n (i := 0) rfl hC (zdk dk_X11_why 11 rfl) (q := 18) rfl ?_
    refine x_getR (k := 2) fl_RX11_26 rfl h_r0 hC (zdk dk_X11_why 12 rfl) (q := 21) rfl (fun q3 hq3 => ?_)
    refine x_getI fl_RX11_282 (by decide) hq3 hC (zdk dk_X11_why 13 rfl) (q := 24) rfl ?_
    exact x_iret (ty := .int) rfl hE hC (zdk dk_X11_why 14 rfl)
  · refine x_iconst (i := (-1)) c_iconst_m1 hC (zdk dk_X11_why 5 rfl) (q := 10) rfl ?_
    exact x_iret (ty := .int) rfl hE hC (zdk dk_X11_why 6 rfl)
set_option maxRecDepth 100000 in
set_option maxHeartbeats 4000000 in
theorem t_X11_why {n : Nat} {r0 : Nat} {x1 : Int32} {x2 : Int32} {M : Mem} (h_r0 : zO n r0 11) (x : (Int32 × Mem)) (hx : f_X11_why r0 x1 x2 M = some x) (l : Launch) (dC : Nat → ClassId) (dI : Nat → Nat → Nat) (b : zSg) : MT l dC dI b yX11_why cX11_why 3 (some .int) 5 0 0 n n [.ref r0, .int x1, .int x2] M (emI x).1 (emI x).2 :=
  MT.ofX (by decide +kernel) rfl (Nat.le_of_ble_eq_true rfl) (fun κ hC hF _ => x_X11_why hC (zEnd_of hF (Nat.le_refl _) (Nat.le_refl _)) (zRk_of hF (Nat.le_refl _) (Nat.le_refl _)) _ _ _ _ h_r0) x hx
set_option maxRecDepth 100000 in
def dt_X11_got : List (Nat × Instr × Nat) := [(0, .aload_n 0, 1), (1, .iload_n 1, 1), (2, .invokevirtual 242, 3), (5, .ifCond .eq 13, 3), (8, .iload_n 2, 1), (9, .ifCond .lt 9, 3), (12, .iload_n 2, 1), (13, .bipush 6, 2), (15, .if_icmp .le 5, 3), (18, .iconst (-1), 1), (19, .ireturn, 1), (20, .aload_n 0, 1), (21, .getfield 42, 3), (24, .getfield 224, 3), (27, .iload_n 1, 1), (28, .aaload, 1), (29, .astore_n 3, 1), (30, .aload_n 0, 1), (31, .getfield 35, 3), (34, .aload_n 0, 1), (35, .getfield 82, 3), (38, .aload_n 3, 1), (39, .invokevirtual 291, 3), (42, .aload_n 0, 1), (43, .getfield 35, 3), (46, .getfield 295, 3), (49, .ifCond .eq 7, 3), (52, .iconst 1, 1), (53, .goto 4, 3), (56, .iconst 0, 1), (57, .istore 4, 2), (59, .aload_n 0, 1), (60, .getfield 35, 3), (63, .getfield 296, 3), (66, .aload_n 0, 1), (67, .getfield 82, 3), (70, .getfield 141, 3), (73, .getfield 150, 3), (76, .lushr, 1), (77, .lstore 5, 2), (79, .iload_n 2, 1), (80, .tableswitch 114 0 5 #[40, 57, 65, 73, 89, 97], 40), (120, .iload 4, 2), (122, .ifCond .eq 7, 3), (125, .iconst (-1), 1), (126, .goto 10, 3), (129, .aload_n 0, 1), (130, .getfield 35, 3), (133, .getfield 299, 3), (136, .ireturn, 1), (137, .aload_n 0, 1), (138, .getfield 35, 3), (141, .getfield 302, 3), (144, .ireturn, 1), (145, .aload_n 0, 1), (146, .getfield 35, 3), (149, .getfield 304, 3), (152, .ireturn, 1), (153, .aload_n 0, 1), (154, .getfield 35, 3), (157, .getfield 307, 3), (160, .ifCond .eq 7, 3), (163, .iconst 1, 1), (164, .goto 4, 3), (167, .iconst 0, 1), (168, .ireturn, 1), (169, .aload_n 0, 1), (170, .getfield 35, 3), (173, .getfield 295, 3), (176, .ireturn, 1), (177, .iload 4, 2), (179, .ifCond .eq 7, 3), (182, .iconst (-1), 1), (183, .goto 10, 3), (186, .lload 5, 2), (188, .ldc2_w 310, 3), (191, .land, 1), (192, .l2i, 1), (193, .ireturn, 1), (194, .iload 4, 2), (196, .ifCond .eq 7, 3), (199, .iconst (-1), 1), (200, .goto 9, 3), (203, .lload 5, 2), (205, .bipush 30, 2), (207, .lushr, 1), (208, .l2i, 1), (209, .ireturn, 1)]
set_option maxRecDepth 100000 in
theorem dk_X11_got : dt_X11_got.all (fun q => decide (decode cX11_got q.1 = .ok q.2)) = true := by decide +kernel
set_option maxRecDepth 100000 in
def f_X11_got_18  (r0 : Nat) (x1 : Int32) (x2 : Int32)  (M : Mem) : Option (Int32 × Mem) := some ((-1), M)
set_option maxRecDepth 100000 in
set_option maxHeartbeats 4000000 in
theorem x_X11_got_18 {κ : KX} {n : Nat} (hC : CX κ cX11_got RX11 7 (some .int) 7) (hE : zEnd κ n (0, 0)) (hk0 : zRk κ (0, 0)) {r0 : Nat} {x1 : Int32} {x2 : Int32} (h_r0 : zO n r0 11) (M : Mem) : X κ 7 emI n (0, 0) 18 [.null, .null, .null, .null, .null, .null, .null] [] M (f_X11_got_18 r0 x1 x2 M) := by
  unfold f_X11_got_18
  refine x_iconst (i := (-1)) c_iconst_m1 hC (zdk dk_X11_got 9 rfl) (q := 19) rfl ?_
  exact x_iret (ty := .int) rfl hE hC (zdk dk_X11_got 10 rfl)
set_option maxRecDepth 100000 in
def f_X11_got_193  (r0 : Nat) (x1 : Int32) (x2 : Int32) (s0 : Int32) (M : Mem) : Option (Int32 × Mem) := some (s0, M)
set_option maxRecDepth 100000 in
set_option maxHeartbeats 4000000 in
theorem x_X11_got_193 {κ : KX} {n : Nat} (hC : CX κ cX11_got RX11 7 (some .int) 7) (hE : zEnd κ n (0, 0)) (hk0 : zRk κ (0, 0)) {r0 : Nat} {x1 : Int32} {x2 : Int32} (h_r0 : zO n r0 11) (s0 : Int32) (M : Mem) : X κ 7 emI n (0, 0) 193 [.null, .null, .null, .null, .null, .null, .null] [.int s0] M (f_X11_got_193 r0 x1 x2 s0 M) := by
  unfold f_X11_got_193
  exact x_iret (ty := .int) rfl hE hC (zdk dk_X11_got 78 rfl)
set_option maxRecDepth 100000 in
def f_X11_got_168  (r0 : Nat) (x1 : Int32) (x2 : Int32) (s0 : Int32) (M : Mem) : Option (Int32 × Mem) := some (s0, M)
set_option maxRecDepth 100000 in
set_option maxHeartbeats 4000000 in
theorem x_X11_got_168 {κ : KX} {n : Nat} (hC : CX κ cX11_got RX11 7 (some .int) 7) (hE : zEnd κ n (0, 0)) (hk0 : zRk κ (0, 0)) {r0 : Nat} {x1 : Int32} {x2 : Int32} (h_r0 : zO n r0 11) (s0 : Int32) (M : Mem) : X κ 7 emI n (0, 0) 168 [.null, .null, .null, .null, .null, .null, .null] [.int s0] M (f_X11_got_168 r0 x1 x2 s0 M) := by
  unfold f_X11_got_168
  exact x_iret (ty := .int) rfl hE hC (zdk dk_X11_got 65 rfl)
set_option maxRecDepth 100000 in
def f_X11_got_136  (r0 : Nat) (x1 : Int32) (x2 : Int32) (s0 : Int32) (M : Mem) : Option (Int32 × Mem) := some (s0, M)
set_option maxRecDepth 100000 in
set_option maxHeartbeats 4000000 in
theorem x_X11_got_136 {κ : KX} {n : Nat} (hC : CX κ cX11_got RX11 7 (some .int) 7) (hE : zEnd κ n (0, 0)) (hk0 : zRk κ (0, 0)) {r0 : Nat} {x1 : Int32} {x2 : Int32} (h_r0 : zO n r0 11) (s0 : Int32) (M : Mem) : X κ 7 emI n (0, 0) 136 [.null, .null, .null, .null, .null, .null, .null] [.int s0] M (f_X11_got_136 r0 x1 x2 s0 M) := by
  unfold f_X11_got_136
  exact x_iret (ty := .int) rfl hE hC (zdk dk_X11_got 49 rfl)
set_option maxRecDepth 100000 in
def f_X11_got_209  (r0 : Nat) (x1 : Int32) (x2 : Int32) (s0 : Int32) (M : Mem) : Option (Int32 × Mem) := some (s0, M)
set_option maxRecDepth 100000 in
set_option maxHeartbeats 4000000 in
theorem x_X11_got_209 {κ : KX} {n : Nat} (hC : CX κ cX11_got RX11 7 (some .int) 7) (hE : zEnd κ n (0, 0)) (hk0 : zRk κ (0, 0)) {r0 : Nat} {x1 : Int32} {x2 : Int32} (h_r0 : zO n r0 11) (s0 : Int32) (M : Mem) : X κ 7 emI n (0, 0) 209 [.null, .null, .null, .null, .null, .null, .null] [.int s0] M (f_X11_got_209 r0 x1 x2 s0 M) := by
  unfold f_X11_got_209
  exact x_iret (ty := .int) rfl hE hC (zdk dk_X11_got 87 rfl)
set_option maxRecDepth 100000 in
def f_X11_got_57  (r0 : Nat) (x1 : Int32) (x2 : Int32) (s0 : Int32) (M : Mem) : Option (Int32 × Mem) := Option.bind (zrf M r0 4) fun q1 => Option.bind (zrf M r0 11) fun q2 => Option.bind (zrf M q2 0) fun q3 => (if x2 = 0 then (if s0 = 0 then Option.bind (zrf M r0 4) fun q5 => f_X11_got_136 r0 x1 x2 (zI M q5 5) M else f_X11_got_136 r0 x1 x2 ((-1)) M) else if x2 = 1 then Option.bind (zrf M r0 4) fun q7 => some (zI M q7 2, M) else if x2 = 2 then Option.bind (zrf M r0 4) fun q9 => some (zI M q9 3, M) else if x2 = 3 then Option.bind (zrf M r0 4) fun q11 => (if zI M q11 7 = 0 then f_X11_got_168 r0 x1 x2 0 M else f_X11_got_168 r0 x1 x2 1 M) else if x2 = 4 then Option.bind (zrf M r0 4) fun q13 => some (zI M q13 4, M) else if x2 = 5 then (if s0 = 0 then f_X11_got_193 r0 x1 x2 (((zlush (zL M q1 6) (zI M q3 9)) &&& 1073741823).toInt32) M else f_X11_got_193 r0 x1 x2 ((-1)) M) else (if s0 = 0 then f_X11_got_209 r0 x1 x2 ((zlush (zlush (zL M q1 6) (zI M q3 9)) 30).toInt32) M else f_X11_got_209 r0 x1 x2 ((-1)) M))
set_option maxRecDepth 100000 in
set_option maxHeartbeats 4000000 in
theorem x_X11_got_57 {κ : KX} {n : Nat} (hC : CX κ cX11_got RX11 7 (some .int) 7) (hE : zEnd κ n (0, 0)) (hk0 : zRk κ (0, 0)) {r0 : Nat} {x1 : Int32} {x2 : Int32} (h_r0 : zO n r0 11) (s0 : Int32) (M : Mem) : X κ 7 emI n (0, 0) 57 [.ref r0, .null, .int x2, .null, .null, .null, .null] [.int s0] M (f_X11_got_57 r0 x1 x2 s0 M) := by
  unfold f_X11_got_57
  refine x_istore (i := 4) (L' := [.ref r0, .null, .int x2, .null, .int s0, .null, .null]) (by decide) rfl hC (zdk dk_X11_got 30 rfl) (q := 59) rfl ?_
  refine x_aload_n (i := 0) rfl hC (zdk dk_X11_got 31 rfl) (q := 60) rfl ?_
  refine x_getR (k := 3) fl_RX11_35 rfl h_r0 hC (zdk dk_X11_got 32 rfl) (q := 63) rfl (fun q1 hq1 => ?_)
  refine x_getL fl_RX11_296 hq1 hC (zdk dk_X11_got 33 rfl) (q := 66) rfl ?_
  refine x_aload_n (i := 0) rfl hC (zdk dk_X11_got 34 rfl) (q := 67) rfl ?_
  refine x_getR (k := 0) fl_RX11_82 rfl h_r0 hC (zdk dk_X11_got 35 rfl) (q := 70) rfl (fun q2 hq2 => ?_)
  refine x_getR (k := 1) fl_RX11_141 rfl hq2 hC (zdk dk_X11_got 36 rfl) (q := 73) rfl (fun q3 hq3 => ?_)
  refine x_getI fl_RX11_150 (by decide) hq3 hC (zdk dk_X11_got 37 rfl) (q := 76) rfl ?_
  refine x_lushr hC (zdk dk_X11_got 38 rfl) (q := 77) rfl ?_
  refine x_lstore (i := 5) (L' := [.ref r0, .null, .int x2, .null, .int s0, .long (zlush (zL M q1 6) (zI M q3 9)), .null]) (by decide) rfl hC (zdk dk_X11_got 39 rfl) (q := 79) rfl ?_
  refine x_iload_n (i := 2) rfl hC (zdk dk_X11_got 40 rfl) (q := 80) rfl ?_
  refine x_tsIn (v := 0) (off := 40) (tgt := 120) hC (zdk dk_X11_got 41 rfl) (by decide) ?_ (fun ht4 => ?_)
  · refine x_iload (i := 4) rfl hC (zdk dk_X11_got 42 rfl) (q := 122) rfl ?_
    refine x_if_eq (tgt := 129) hC (zdk dk_X11_got 43 rfl) (q := 125) rfl rfl (fun _ => ?_) (fun _ => ?_)
    · refine x_aload_n (i := 0) rfl hC (zdk dk_X11_got 46 rfl) (q := 130) rfl ?_
      refine x_getR (k := 3) fl_RX11_35 rfl h_r0 hC (zdk dk_X11_got 47 rfl) (q := 133) rfl (fun q5 hq5 => ?_)
      refine x_getI fl_RX11_299 (by decide) hq5 hC (zdk dk_X11_got 48 rfl) (q := 136) rfl ?_
      refine x_weak (L' := [.null, .null, .null, .null, .null, .null, .null]) ⟨Or.inl rfl, Or.inl rfl, Or.inl rfl, Or.inl rfl, Or.inl rfl, Or.inl rfl, Or.inl rfl, trivial⟩ ?_
      exact x_X11_got_136 hC hE hk0 h_r0 _ _
    · refine x_iconst (i := (-1)) c_iconst_m1 hC (zdk dk_X11_got 44 rfl) (q := 126) rfl ?_
      refine x_goto (tgt := 136) hC (zdk dk_X11_got 45 rfl) rfl ?_
      refine x_weak (L' := [.null, .null, .null, .null, .null, .null, .null]) ⟨Or.inl rfl, Or.inl rfl, Or.inl rfl, Or.inl rfl, Or.inl rfl, Or.inl rfl, Or.inl rfl, trivial⟩ ?_
      exact x_X11_got_136 hC hE hk0 h_r0 _ _
  refine x_tsIn (v := 1) (off := 57) (tgt := 137) hC (zdk dk_X11_got 41 rfl) (by decide) ?_ (fun ht6 => ?_)
  · refine x_aload_n (i := 0) rfl hC (zdk dk_X11_got 50 rfl) (q := 138) rfl ?_
    refine x_getR (k := 3) fl_RX11_35 rfl h_r0 hC (zdk dk_X11_got 51 rfl) (q := 141) rfl (fun q7 hq7 => ?_)
    refine x_getI fl_RX11_302 (by decide) hq7 hC (zdk dk_X11_got 52 rfl) (q := 144) rfl ?_
    exact x_iret (ty := .int) rfl hE hC (zdk dk_X11_got 53 rfl)
  refine x_tsIn (v := 2) (off := 65) (tgt := 145) hC (zdk dk_X11_got 41 rfl) (by decide) ?_ (fun ht8 => ?_)
  · refine x_aload_n (i := 0) rfl hC (zdk dk_X11_got 54 rfl) (q := 146) rfl ?_
    refine x_getR (k := 3) fl_RX11_35 rfl h_r0 hC (zdk dk_X11_got 55 rfl) (q := 149) rfl (fun q9 hq9 => ?_)
    refine x_getI fl_RX11_304 (by decide) hq9 hC (zdk dk_X11_got 56 rfl) (q := 152) rfl ?_
    exact x_iret (ty := .int) rfl hE hC (zdk dk_X11_got 57 rfl)
  refine x_tsIn (v := 3) (off := 73) (tgt := 153) hC (zdk dk_X11_got 41 rfl) (by decide) ?_ (fun ht10 => ?_)
  · refine x_aload_n (i := 0) rfl hC (zdk dk_X11_got 58 rfl) (q := 154) rfl ?_
    refine x_getR (k := 3) fl_RX11_35 rfl h_r0 hC (zdk dk_X11_got 59 rfl) (q := 157) rfl (fun q11 hq11 => ?_)
    refine x_getI fl_RX11_307 (by decide) hq11 hC (zdk dk_X11_got 60 rfl) (q := 160) rfl ?_
    refine x_if_eq (tgt := 167) hC (zdk dk_X11_got 61 rfl) (q := 163) rfl rfl (fun _ => ?_) (fun _ => ?_)
    · refine x_iconst (i := 0) c_iconst_0 hC (zdk dk_X11_got 64 rfl) (q := 168) rfl ?_
      refine x_weak (L' := [.null, .null, .null, .null, .null, .null, .null]) ⟨Or.inl rfl, Or.inl rfl, Or.inl rfl, Or.inl rfl, Or.inl rfl, Or.inl rfl, Or.inl rfl, trivial⟩ ?_
      exact x_X11_got_168 hC hE hk0 h_r0 _ _
    · refine x_iconst (i := 1) c_iconst_1 hC (zdk dk_X11_got 62 rfl) (q := 164) rfl ?_
      refine x_goto (tgt := 168) hC (zdk dk_X11_got 63 rfl) rfl ?_
      refine x_weak (L' := [.null, .null, .null, .null, .null, .null, .null]) ⟨Or.inl rfl, Or.inl rfl, Or.inl rfl, Or.inl rfl, Or.inl rfl, Or.inl rfl, Or.inl rfl, trivial⟩ ?_
      exact x_X11_got_168 hC hE hk0 h_r0 _ _
  refine x_tsIn (v := 4) (off := 89) (tgt := 169) hC (zdk dk_X11_got 41 rfl) (by decide) ?_ (fun ht12 => ?_)
  · refine x_aload_n (i := 0) rfl hC (zdk dk_X11_got 66 rfl) (q := 170) rfl ?_
    refine x_getR (k := 3) fl_RX11_35 rfl h_r0 hC (zdk dk_X11_got 67 rfl) (q := 173) rfl (fun q13 hq13 => ?_)
    refine x_getI fl_RX11_295 (by decide) hq13 hC (zdk dk_X11_got 68 rfl) (q := 176) rfl ?_
    exact x_iret (ty := .int) rfl hE hC (zdk dk_X11_got 69 rfl)
  refine x_tsIn (v := 5) (off := 97) (tgt := 177) hC (zdk dk_X11_got 41 rfl) (by decide) ?_ (fun ht14 => ?_)
  · refine x_iload (i := 4) rfl hC (zdk dk_X11_got 70 rfl) (q := 179) rfl ?_
    refine x_if_eq (tgt := 186) hC (zdk dk_X11_got 71 rfl) (q := 182) rfl rfl (fun _ => ?_) (fun _ => ?_)
    · refine x_lload (i := 5) rfl hC (zdk dk_X11_got 74 rfl) (q := 188) rfl ?_
      refine x_ldc2 k_RX11_310 hC (zdk dk_X11_got 75 rfl) (q := 191) rfl ?_
      refine x_land hC (zdk dk_X11_got 76 rfl) (q := 192) rfl ?_
      refine x_l2i hC (zdk dk_X11_got 77 rfl) (q := 193) rfl ?_
      refine x_weak (L' := [.null, .null, .null, .null, .null, .null, .null]) ⟨Or.inl rfl, Or.inl rfl, Or.inl rfl, Or.inl rfl, Or.inl rfl, Or.inl rfl, Or.inl rfl, trivial⟩ ?_
      exact x_X11_got_193 hC hE hk0 h_r0 _ _
    · refine x_iconst (i := (-1)) c_iconst_m1 hC (zdk dk_X11_got 72 rfl) (q := 183) rfl ?_
      refine x_goto (tgt := 193) hC (zdk dk_X11_got 73 rfl) rfl ?_
      refine x_weak (L' := [.null, .null, .null, .null, .null, .null, .null]) ⟨Or.inl rfl, Or.inl rfl, Or.inl rfl, Or.inl rfl, Or.inl rfl, Or.inl rfl, Or.inl rfl, trivial⟩ ?_
      exact x_X11_got_193 hC hE hk0 h_r0 _ _
  refine x_tsOut (tgt := 194) [0, 1, 2, 3, 4, 5] hC (zdk dk_X11_got 41 rfl) (List.forall_mem_cons.2 ⟨ht4, (List.forall_mem_cons.2 ⟨ht6, (List.forall_mem_cons.2 ⟨ht8, (List.forall_mem_cons.2 ⟨ht10, (List.forall_mem_cons.2 ⟨ht12, (List.forall_mem_cons.2 ⟨ht14, (fun _ h => absurd h List.not_mem_nil)⟩)⟩)⟩)⟩)⟩)⟩) (by decide) rfl ?_
  refine x_iload (i := 4) rfl hC (zdk dk_X11_got 79 rfl) (q := 196) rfl ?_
  refine x_if_eq (tgt := 203) hC (zdk dk_X11_got 80 rfl) (q := 199) rfl rfl (fun _ => ?_) (fun _ => ?_)
  · refine x_lload (i := 5) rfl hC (zdk dk_X11_got 83 rfl) (q := 205) rfl ?_
    refine x_bipush (i := 30) c_bipush_30 hC (zdk dk_X11_got 84 rfl) (q := 207) rfl ?_
    refine x_lushr hC (zdk dk_X11_got 85 rfl) (q := 208) rfl ?_
    refine x_l2i hC (zdk dk_X11_got 86 rfl) (q := 209) rfl ?_
    refine x_weak (L' := [.null, .null, .null, .null, .null, .null, .null]) ⟨Or.inl rfl, Or.inl rfl, Or.inl rfl, Or.inl rfl, Or.inl rfl, Or.inl rfl, Or.inl rfl, trivial⟩ ?_
    exact x_X11_got_209 hC hE hk0 h_r0 _ _
  · refine x_iconst (i := (-1)) c_iconst_m1 hC (zdk dk_X11_got 81 rfl) (q := 200) rfl ?_
    refine x_goto (tgt := 209) hC (zdk dk_X11_got 82 rfl) rfl ?_
    refine x_weak (L' := [.null, .null, .null, .null, .null, .null, .null]) ⟨Or.inl rfl, Or.inl rfl, Or.inl rfl, Or.inl rfl, Or.inl rfl, Or.inl rfl, Or.inl rfl, trivial⟩ ?_
    exact x_X11_got_209 hC hE hk0 h_r0 _ _
set_option maxRecDepth 100000 in
def f_X11_got (r0 : Nat) (x1 : Int32) (x2 : Int32) (M : Mem) : Option (Int32 × Mem) := Option.bind (f_X11_isWritten r0 x1 M) fun z15 => (if z15.1 = 0 then f_X11_got_18 r0 x1 x2 z15.2 else (if x2 < 0 then f_X11_got_18 r0 x1 x2 z15.2 else (if x2 ≤ 6 then Option.bind (zrf z15.2 r0 5) fun q16 => Option.bind (zrf z15.2 q16 0) fun q17 => Option.bind (zld q17 x1) fun k18 => Option.bind (zrf z15.2 q17 k18) fun q19 => Option.bind (zrf z15.2 r0 4) fun q20 => Option.bind (zrf z15.2 r0 11) fun q21 => Option.bind (f_X3_get q20 q21 q19 z15.2) fun M22 => Option.bind (zrf M22 r0 4) fun q23 => (if zI M22 q23 4 = 0 then f_X11_got_57 r0 x1 x2 0 M22 else f_X11_got_57 r0 x1 x2 1 M22) else f_X11_got_18 r0 x1 x2 z15.2)))
set_option maxRecDepth 100000 in
set_option maxHeartbeats 4000000 in
theorem x_X11_got {κ : KX} {n : Nat} (hC : CX κ cX11_got RX11 7 (some .int) 7) (hE : zEnd κ n (0, 0)) (hk0 : zRk κ (0, 0)) (r0 : Nat) (x1 : Int32) (x2 : Int32) (M : Mem) (h_r0 : zO n r0 11) : X κ 7 emI n (0, 0) 0 [.ref r0, .int x1, .int x2, .null, .null, .null, .null] [] M (f_X11_got r0 x1 x2 M) := by
  unfold f_X11_got
  refine x_aload_n (i := 0) rfl hC (zdk dk_X11_got 0 rfl) (q := 1) rfl ?_
  refine x_iload_n (i := 1) rfl hC (zdk dk_X11_got 1 rfl) (q := 2) rfl ?_
  refine x_callVi (as := [.int x1]) cb_RX11_242 rfl (by decide) hk0 h_r0 (fun x hx => t_X11_isWritten h_r0 x hx) hC (zdk dk_X11_got 2 rfl) (q := 5) rfl rfl (Nat.le_of_ble_eq_true rfl) (fun z15 => ?_)
  refine x_if_eq (tgt := 18) hC (zdk dk_X11_got 3 rfl) (q := 8) rfl rfl (fun _ => ?_) (fun _ => ?_)
  · refine x_weak (L' := [.null, .null, .null, .null, .null, .null, .null]) ⟨Or.inl rfl, Or.inl rfl, Or.inl rfl, Or.inl rfl, Or.inl rfl, Or.inl rfl, Or.inl rfl, trivial⟩ ?_
    exact x_X11_got_18 hC hE hk0 h_r0 _
  · refine x_iload_n (i := 2) rfl hC (zdk dk_X11_got 4 rfl) (q := 9) rfl ?_
    refine x_if_lt (tgt := 18) hC (zdk dk_X11_got 5 rfl) (q := 12) rfl rfl (fun _ => ?_) (fun _ => ?_)
    · refine x_weak (L' := [.null, .null, .null, .null, .null, .null, .null]) ⟨Or.inl rfl, Or.inl rfl, Or.inl rfl, Or.inl rfl, Or.inl rfl, Or.inl rfl, Or.inl rfl, trivial⟩ ?_
      exact x_X11_got_18 hC hE hk0 h_r0 _
    · refine x_iload_n (i := 2) rfl hC (zdk dk_X11_got 6 rfl) (q := 13) rfl ?_
      refine x_bipush (i := 6) c_bipush_6 hC (zdk dk_X11_got 7 rfl) (q := 15) rfl ?_
      refine x_icmp_le (tgt := 20) hC (zdk dk_X11_got 8 rfl) (q := 18) rfl rfl (fun _ => ?_) (fun _ => ?_)
      · refine x_aload_n (i := 0) rfl hC (zdk dk_X11_got 11 rfl) (q := 21) rfl ?_
        refine x_getR (k := 5) fl_RX11_42 rfl h_r0 hC (zdk dk_X11_got 12 rfl) (q := 24) rfl (fun q16 hq16 => ?_)
        refine x_getR (k := 23) fl_RX11_224 rfl hq16 hC (zdk dk_X11_got 13 rfl) (q := 27) rfl (fun q17 hq17 => ?_)
        refine x_iload_n (i := 1) rfl hC (zdk dk_X11_got 14 rfl) (q := 28) rfl ?_
        refine x_aald (kd := 23) (ke := 8) hq17 (by decide) rfl hC (zdk dk_X11_got 15 rfl) (q := 29) rfl (fun k18 _ q19 hq19 => ?_)
        refine x_astore_n (i := 3) (L' := [.ref r0, .int x1, .int x2, .ref q19, .null, .null, .null]) (by decide) rfl hC (zdk dk_X11_got 16 rfl) (q := 30) rfl ?_
        refine x_aload_n (i := 0) rfl hC (zdk dk_X11_got 17 rfl) (q := 31) rfl ?_
        refine x_getR (k := 3) fl_RX11_35 rfl h_r0 hC (zdk dk_X11_got 18 rfl) (q := 34) rfl (fun q20 hq20 => ?_)
        refine x_aload_n (i := 0) rfl hC (zdk dk_X11_got 19 rfl) (q := 35) rfl ?_
        refine x_getR (k := 0) fl_RX11_82 rfl h_r0 hC (zdk dk_X11_got 20 rfl) (q := 38) rfl (fun q21 hq21 => ?_)
        refine x_aload_n (i := 3) rfl hC (zdk dk_X11_got 21 rfl) (q := 39) rfl ?_
        refine x_callVv (as := [.ref q21, .ref q19]) cb_RX11_291 rfl (by decide) hk0 hq20 (fun x hx => t_X3_get hq20 hq21 hq19 x hx) hC (zdk dk_X11_got 22 rfl) (q := 42) rfl rfl (Nat.le_of_ble_eq_true rfl) (fun M22 => ?_)
        refine x_aload_n (i := 0) rfl hC (zdk dk_X11_got 23 rfl) (q := 43) rfl ?_
        refine x_getR (k := 3) fl_RX11_35 rfl h_r0 hC (zdk dk_X11_got 24 rfl) (q := 46) rfl (fun q23 hq23 => ?_)
        refine x_getI fl_RX11_295 (by decide) hq23 hC (zdk dk_X11_got 25 rfl) (q := 49) rfl ?_
        refine x_if_eq (tgt := 56) hC (zdk dk_X11_got 26 rfl) (q := 52) rfl rfl (fun _ => ?_) (fun _ => ?_)
        · refine x_iconst (i := 0) c_iconst_0 hC (zdk dk_X11_got 29 rfl) (q := 57) rfl ?_
          refine x_weak (L' := [.ref r0, .null, .int x2, .null, .null, .null, .null]) ⟨Or.inr rfl, Or.inl rfl, Or.inr rfl, Or.inl rfl, Or.inl rfl, Or.inl rfl, Or.inl rfl, trivial⟩ ?_
          exact x_X11_got_57 hC hE hk0 h_r0 _ _
        · refine x_iconst (i := 1) c_iconst_1 hC (zdk dk_X11_got 27 rfl) (q := 53) rfl ?_
          refine x_goto (tgt := 57) hC (zdk dk_X11_got 28 rfl) rfl ?_
          refine x_weak (L' := [.ref r0, .null, .int x2, .null, .null, .null, .null]) ⟨Or.inr rfl, Or.inl rfl, Or.inr rfl, Or.inl rfl, Or.inl rfl, Or.inl rfl, Or.inl rfl, trivial⟩ ?_
          exact x_X11_got_57 hC hE hk0 h_r0 _ _
      · refine x_weak (L' := [.null, .null, .null, .null, .null, .null, .null]) ⟨Or.inl rfl, Or.inl rfl, Or.inl rfl, Or.inl rfl, Or.inl rfl, Or.inl rfl, Or.inl rfl, trivial⟩ ?_
        exact x_X11_got_18 hC hE hk0 h_r0 _
set_option maxRecDepth 100000 in
set_option maxHeartbeats 4000000 in
theorem t_X11_got {n : Nat} {r0 : Nat} {x1 : Int32} {x2 : Int32} {M : Mem} (h_r0 : zO n r0 11) (x : (Int32 × Mem)) (hx : f_X11_got r0 x1 x2 M = some x) (l : Launch) (dC : Nat → ClassId) (dI : Nat → Nat → Nat) (b : zSg) : MT l dC dI b yX11_got cX11_got 7 (some .int) 7 0 0 n n [.ref r0, .int x1, .int x2] M (emI x).1 (emI x).2 :=
  MT.ofX (by decide +kernel) rfl (Nat.le_of_ble_eq_true rfl) (fun κ hC hF _ => x_X11_got hC (zEnd_of hF (Nat.le_refl _) (Nat.le_refl _)) (zRk_of hF (Nat.le_refl _) (Nat.le_refl _)) _ _ _ _ h_r0) x hx
set_option maxRecDepth 100000 in
def dt_X11_span : List (Nat × Instr × Nat) := [(0, .aload_n 0, 1), (1, .iload_n 1, 1), (2, .invokevirtual 242, 3), (5, .ifCond .eq 12, 3), (8, .iload_n 2, 1), (9, .ifCond .lt 8, 3), (12, .iload_n 2, 1), (13, .iconst 1, 1), (14, .if_icmp .le 5, 3), (17, .iconst (-1), 1), (18, .ireturn, 1), (19, .aload_n 0, 1), (20, .getfield 42, 3), (23, .getfield 224, 3), (26, .iload_n 1, 1), (27, .aaload, 1), (28, .astore_n 3, 1), (29, .aload_n 0, 1), (30, .getfield 82, 3), (33, .getfield 141, 3), (36, .astore 4, 2), (38, .iconst (-1), 1), (39, .istore 5, 2), (41, .iconst 1, 1), (42, .istore 6, 2), (44, .iload 6, 2), (46, .bipush 100, 2), (48, .if_icmp .ge 43, 3), (51, .aload_n 3, 1), (52, .aload_n 3, 1), (53, .iload 6, 2), (55, .aload 4, 2), (57, .getfield 153, 3), (60, .invokevirtual 269, 3), (63, .aload 4, 2), (65, .getfield 218, 3), (68, .invokevirtual 312, 3), (71, .ifCond .eq 14, 3), (74, .iload_n 2, 1), (75, .ifCond .ne 6, 3), (78, .iload 6, 2), (80, .ireturn, 1), (81, .iload 6, 2), (83, .istore 5, 2), (85, .iinc 6 1, 3), (88, .goto (-44), 3), (91, .iload 5, 2), (93, .ireturn, 1)]
set_option maxRecDepth 100000 in
theorem dk_X11_span : dt_X11_span.all (fun q => decide (decode cX11_span q.1 = .ok q.2)) = true := by decide +kernel
set_option maxRecDepth 100000 in
def f_X11_span_17  (r0 : Nat) (x1 : Int32) (x2 : Int32)  (M : Mem) : Option (Int32 × Mem) := some ((-1), M)
set_option maxRecDepth 100000 in
set_option maxHeartbeats 4000000 in
theorem x_X11_span_17 {κ : KX} {n : Nat} (hC : CX κ cX11_span RX11 7 (some .int) 2) (hE : zEnd κ n (0, 0)) (hk0 : zRk κ (0, 0)) {r0 : Nat} {x1 : Int32} {x2 : Int32} (h_r0 : zO n r0 11) (M : Mem) : X κ 7 emI n (0, 0) 17 [.null, .null, .null, .null, .null, .null, .null] [] M (f_X11_span_17 r0 x1 x2 M) := by
  unfold f_X11_span_17
  refine x_iconst (i := (-1)) c_iconst_m1 hC (zdk dk_X11_span 9 rfl) (q := 18) rfl ?_
  exact x_iret (ty := .int) rfl hE hC (zdk dk_X11_span 10 rfl)
set_option maxRecDepth 100000 in
def f_X11_span_85 (k44 : Nat → Nat → Int32 → Int32 → Mem → Option (Int32 × Mem)) (r0 : Nat) (x1 : Int32) (x2 : Int32) (r3 : Nat) (r4 : Nat) (x5 : Int32) (x6 : Int32) (M : Mem) : Option (Int32 × Mem) := k44 r3 r4 x5 (x6 + 1) M
set_option maxRecDepth 100000 in
set_option maxHeartbeats 4000000 in
theorem x_X11_span_85 {κ : KX} {n : Nat} (hC : CX κ cX11_span RX11 7 (some .int) 2) (hE : zEnd κ n (0, 0)) (hk0 : zRk κ (0, 0)) {r0 : Nat} {x1 : Int32} {x2 : Int32} (h_r0 : zO n r0 11) (k44 : Nat → Nat → Int32 → Int32 → Mem → Option (Int32 × Mem)) (hk44 : ∀ (r3 : Nat) (r4 : Nat) (x5 : Int32) (x6 : Int32) (M : Mem), zO n r3 8 → zO n r4 1 → X κ 7 emI n (0, 0) 44 [.null, .null, .int x2, .ref r3, .ref r4, .int x5, .int x6] [] M (k44 r3 r4 x5 x6 M)) (r3 : Nat) (r4 : Nat) (x5 : Int32) (x6 : Int32) (M : Mem) (h_r3 : zO n r3 8) (h_r4 : zO n r4 1) : X κ 7 emI n (0, 0) 85 [.null, .null, .int x2, .ref r3, .ref r4, .int x5, .int x6] [] M (f_X11_span_85 k44 r0 x1 x2 r3 r4 x5 x6 M) := by
  unfold f_X11_span_85
  refine x_iinc (i := 6) c_iconst_1 rfl (by decide) (L' := [.null, .null, .int x2, .ref r3, .ref r4, .int x5, .int (x6 + 1)]) rfl hC (zdk dk_X11_span 44 rfl) (q := 88) rfl ?_
  refine x_goto (tgt := 44) hC (zdk dk_X11_span 45 rfl) rfl ?_
  refine x_weak (L' := [.null, .null, .int x2, .ref r3, .ref r4, .int x5, .int (x6 + 1)]) ⟨Or.inl rfl, Or.inl rfl, Or.inr rfl, Or.inr rfl, Or.inr rfl, Or.inr rfl, Or.inr rfl, trivial⟩ ?_
  exact hk44 _ _ _ _ _ h_r3 h_r4
set_option maxRecDepth 100000 in
def f_X11_span_44  (r0 : Nat) (x1 : Int32) (x2 : Int32) : Nat → Nat → Nat → Int32 → Int32 → Mem → Option (Int32 × Mem)
  | 0, _, _, _, _, _ => none
  | f + 1, r3, r4, x5, x6, M => (if 100 ≤ x6 then some (x5, M) else Option.bind (f_X8_readBy r3 x6 (zI M r4 10) M) fun z1 => Option.bind (f_X8_isTrueRead r3 z1.1 (zI z1.2 r4 8) z1.2) fun z2 => (if z2.1 = 0 then f_X11_span_85 (f_X11_span_44 r0 x1 x2 f) r0 x1 x2 r3 r4 x5 x6 z2.2 else (if x2 = 0 then some (x6, z2.2) else f_X11_span_85 (f_X11_span_44 r0 x1 x2 f) r0 x1 x2 r3 r4 x6 x6 z2.2)))
set_option maxRecDepth 100000 in
set_option maxHeartbeats 4000000 in
theorem x_X11_span_44 {κ : KX} {n : Nat} (hC : CX κ cX11_span RX11 7 (some .int) 2) (hE : zEnd κ n (0, 0)) (hk0 : zRk κ (0, 0)) {r0 : Nat} {x1 : Int32} {x2 : Int32} (h_r0 : zO n r0 11) : ∀ (f : Nat) (r3 : Nat) (r4 : Nat) (x5 : Int32) (x6 : Int32) (M : Mem), zO n r3 8 → zO n r4 1 → X κ 7 emI n (0, 0) 44 [.null, .null, .int x2, .ref r3, .ref r4, .int x5, .int x6] [] M (f_X11_span_44 r0 x1 x2 f r3 r4 x5 x6 M) := by
  intro f
  induction f with
  | zero => intros; exact x_none
  | succ f ih =>
    intro r3 r4 x5 x6 M h_r3 h_r4
    rw [f_X11_span_44]
    refine x_iload (i := 6) rfl hC (zdk dk_X11_span 25 rfl) (q := 46) rfl ?_
    refine x_bipush (i := 100) c_bipush_100 hC (zdk dk_X11_span 26 rfl) (q := 48) rfl ?_
    refine x_icmp_ge (tgt := 91) hC (zdk dk_X11_span 27 rfl) (q := 51) rfl rfl (fun _ => ?_) (fun _ => ?_)
    · refine x_iload (i := 5) rfl hC (zdk dk_X11_span 46 rfl) (q := 93) rfl ?_
      exact x_iret (ty := .int) rfl hE hC (zdk dk_X11_span 47 rfl)
    · refine x_aload_n (i := 3) rfl hC (zdk dk_X11_span 28 rfl) (q := 52) rfl ?_
      refine x_aload_n (i := 3) rfl hC (zdk dk_X11_span 29 rfl) (q := 53) rfl ?_
      refine x_iload (i := 6) rfl hC (zdk dk_X11_span 30 rfl) (q := 55) rfl ?_
      refine x_aload (i := 4) rfl hC (zdk dk_X11_span 31 rfl) (q := 57) rfl ?_
      refine x_getI fl_RX11_153 (by decide) h_r4 hC (zdk dk_X11_span 32 rfl) (q := 60) rfl ?_
      refine x_callVl (as := [.int x6, .int (zI M r4 10)]) cb_RX11_269 rfl (by decide) hk0 h_r3 (fun x hx => t_X8_readBy h_r3 x hx) hC (zdk dk_X11_span 33 rfl) (q := 63) rfl rfl (Nat.le_of_ble_eq_true rfl) (fun z1 => ?_)
      refine x_aload (i := 4) rfl hC (zdk dk_X11_span 34 rfl) (q := 65) rfl ?_
      refine x_getI fl_RX11_218 (by decide) h_r4 hC (zdk dk_X11_span 35 rfl) (q := 68) rfl ?_
      refine x_callVi (as := [.long z1.1, .int (zI z1.2 r4 8)]) cb_RX11_312 rfl (by decide) hk0 h_r3 (fun x hx => t_X8_isTrueRead h_r3 x hx) hC (zdk dk_X11_span 36 rfl) (q := 71) rfl rfl (Nat.le_of_ble_eq_true rfl) (fun z2 => ?_)
      refine x_if_eq (tgt := 85) hC (zdk dk_X11_span 37 rfl) (q := 74) rfl rfl (fun _ => ?_) (fun _ => ?_)
      · refine x_weak (L' := [.null, .null, .int x2, .ref r3, .ref r4, .int x5, .int x6]) ⟨Or.inl rfl, Or.inl rfl, Or.inr rfl, Or.inr rfl, Or.inr rfl, Or.inr rfl, Or.inr rfl, trivial⟩ ?_
        exact x_X11_span_85 hC hE hk0 h_r0 (f_X11_span_44 r0 x1 x2 f) ih _ _ _ _ _ h_r3 h_r4
      · refine x_iload_n (i := 2) rfl hC (zdk dk_X11_span 38 rfl) (q := 75) rfl ?_
        refine x_if_ne (tgt := 81) hC (zdk dk_X11_span 39 rfl) (q := 78) rfl rfl (fun _ => ?_) (fun _ => ?_)
        · refine x_iload (i := 6) rfl hC (zdk dk_X11_span 42 rfl) (q := 83) rfl ?_
          refine x_istore (i := 5) (L' := [.null, .null, .int x2, .ref r3, .ref r4, .int x6, .int x6]) (by decide) rfl hC (zdk dk_X11_span 43 rfl) (q := 85) rfl ?_
          refine x_weak (L' := [.null, .null, .int x2, .ref r3, .ref r4, .int x6, .int x6]) ⟨Or.inl rfl, Or.inl rfl, Or.inr rfl, Or.inr rfl, Or.inr rfl, Or.inr rfl, Or.inr rfl, trivial⟩ ?_
          exact x_X11_span_85 hC hE hk0 h_r0 (f_X11_span_44 r0 x1 x2 f) ih _ _ _ _ _ h_r3 h_r4
        · refine x_iload (i := 6) rfl hC (zdk dk_X11_span 40 rfl) (q := 80) rfl ?_
          exact x_iret (ty := .int) rfl hE hC (zdk dk_X11_span 41 rfl)
set_option maxRecDepth 100000 in
def f_X11_span (r0 : Nat) (x1 : Int32) (x2 : Int32) (M : Mem) : Option (Int32 × Mem) := Option.bind (f_X11_isWritten r0 x1 M) fun z3 => (if z3.1 = 0 then f_X11_span_17 r0 x1 x2 z3.2 else (if x2 < 0 then f_X11_span_17 r0 x1 x2 z3.2 else (if x2 ≤ 1 then Option.bind (zrf z3.2 r0 5) fun q4 => Option.bind (zrf z3.2 q4 0) fun q5 => Option.bind (zld q5 x1) fun k6 => Option.bind (zrf z3.2 q5 k6) fun q7 => Option.bind (zrf z3.2 r0 11) fun q8 => Option.bind (zrf z3.2 q8 0) fun q9 => f_X11_span_44 r0 x1 x2 1000000 q7 q9 ((-1)) 1 z3.2 else f_X11_span_17 r0 x1 x2 z3.2)))
set_option maxRecDepth 100000 in
set_option maxHeartbeats 4000000 in
theorem x_X11_span {κ : KX} {n : Nat} (hC : CX κ cX11_span RX11 7 (some .int) 2) (hE : zEnd κ n (0, 0)) (hk0 : zRk κ (0, 0)) (r0 : Nat) (x1 : Int32) (x2 : Int32) (M : Mem) (h_r0 : zO n r0 11) : X κ 7 emI n (0, 0) 0 [.ref r0, .int x1, .int x2, .null, .null, .null, .null] [] M (f_X11_span r0 x1 x2 M) := by
  unfold f_X11_span
  refine x_aload_n (i := 0) rfl hC (zdk dk_X11_span 0 rfl) (q := 1) rfl ?_
  refine x_iload_n (i := 1) rfl hC (zdk dk_X11_span 1 rfl) (q := 2) rfl ?_
  refine x_callVi (as := [.int x1]) cb_RX11_242 rfl (by decide) hk0 h_r0 (fun x hx => t_X11_isWritten h_r0 x hx) hC (zdk dk_X11_span 2 rfl) (q := 5) rfl rfl (Nat.le_of_ble_eq_true rfl) (fun z3 => ?_)
  refine x_if_eq (tgt := 17) hC (zdk dk_X11_span 3 rfl) (q := 8) rfl rfl (fun _ => ?_) (fun _ => ?_)
  · refine x_weak (L' := [.null, .null, .null, .null, .null, .null, .null]) ⟨Or.inl rfl, Or.inl rfl, Or.inl rfl, Or.inl rfl, Or.inl rfl, Or.inl rfl, Or.inl rfl, trivial⟩ ?_
    exact x_X11_span_17 hC hE hk0 h_r0 _
  · refine x_iload_n (i := 2) rfl hC (zdk dk_X11_span 4 rfl) (q := 9) rfl ?_
    refine x_if_lt (tgt := 17) hC (zdk dk_X11_span 5 rfl) (q := 12) rfl rfl (fun _ => ?_) (fun _ => ?_)
    · refine x_weak (L' := [.null, .null, .null, .null, .null, .null, .null]) ⟨Or.inl rfl, Or.inl rfl, Or.inl rfl, Or.inl rfl, Or.inl rfl, Or.inl rfl, Or.inl rfl, trivial⟩ ?_
      exact x_X11_span_17 hC hE hk0 h_r0 _
    · refine x_iload_n (i := 2) rfl hC (zdk dk_X11_span 6 rfl) (q := 13) rfl ?_
      refine x_iconst (i := 1) c_iconst_1 hC (zdk dk_X11_span 7 rfl) (q := 14) rfl ?_
      refine x_icmp_le (tgt := 19) hC (zdk dk_X11_span 8 rfl) (q := 17) rfl rfl (fun _ => ?_) (fun _ => ?_)
      · refine x_aload_n (i := 0) rfl hC (zdk dk_X11_span 11 rfl) (q := 20) rfl ?_
        refine x_getR (k := 5) fl_RX11_42 rfl h_r0 hC (zdk dk_X11_span 12 rfl) (q := 23) rfl (fun q4 hq4 => ?_)
        refine x_getR (k := 23) fl_RX11_224 rfl hq4 hC (zdk dk_X11_span 13 rfl) (q := 26) rfl (fun q5 hq5 => ?_)
        refine x_iload_n (i := 1) rfl hC (zdk dk_X11_span 14 rfl) (q := 27) rfl ?_
        refine x_aald (kd := 23) (ke := 8) hq5 (by decide) rfl hC (zdk dk_X11_span 15 rfl) (q := 28) rfl (fun k6 _ q7 hq7 => ?_)
        refine x_astore_n (i := 3) (L' := [.ref r0, .int x1, .int x2, .ref q7, .null, .null, .null]) (by decide) rfl hC (zdk dk_X11_span 16 rfl) (q := 29) rfl ?_
        refine x_aload_n (i := 0) rfl hC (zdk dk_X11_span 17 rfl) (q := 30) rfl ?_
        refine x_getR (k := 0) fl_RX11_82 rfl h_r0 hC (zdk dk_X11_span 18 rfl) (q := 33) rfl (fun q8 hq8 => ?_)
        refine x_getR (k := 1) fl_RX11_141 rfl hq8 hC (zdk dk_X11_span 19 rfl) (q := 36) rfl (fun q9 hq9 => ?_)
        refine x_astore (i := 4) (L' := [.ref r0, .int x1, .int x2, .ref q7, .ref q9, .null, .null]) (by decide) rfl hC (zdk dk_X11_span 20 rfl) (q := 38) rfl ?_
        refine x_iconst (i := (-1)) c_iconst_m1 hC (zdk dk_X11_span 21 rfl) (q := 39) rfl ?_
        refine x_istore (i := 5) (L' := [.ref r0, .int x1, .int x2, .ref q7, .ref q9, .int ((-1)), .null]) (by decide) rfl hC (zdk dk_X11_span 22 rfl) (q := 41) rfl ?_
        refine x_iconst (i := 1) c_iconst_1 hC (zdk dk_X11_span 23 rfl) (q := 42) rfl ?_
        refine x_istore (i := 6) (L' := [.ref r0, .int x1, .int x2, .ref q7, .ref q9, .int ((-1)), .int 1]) (by decide) rfl hC (zdk dk_X11_span 24 rfl) (q := 44) rfl ?_
        refine x_weak (L' := [.null, .null, .int x2, .ref q7, .ref q9, .int ((-1)), .int 1]) ⟨Or.inl rfl, Or.inl rfl, Or.inr rfl, Or.inr rfl, Or.inr rfl, Or.inr rfl, Or.inr rfl, trivial⟩ ?_
        exact x_X11_span_44 hC hE hk0 h_r0 _ _ _ _ _ _ hq7 hq9
      · refine x_weak (L' := [.null, .null, .null, .null, .null, .null, .null]) ⟨Or.inl rfl, Or.inl rfl, Or.inl rfl, Or.inl rfl, Or.inl rfl, Or.inl rfl, Or.inl rfl, trivial⟩ ?_
        exact x_X11_span_17 hC hE hk0 h_r0 _
set_option maxRecDepth 100000 in
set_option maxHeartbeats 4000000 in
theorem t_X11_span {n : Nat} {r0 : Nat} {x1 : Int32} {x2 : Int32} {M : Mem} (h_r0 : zO n r0 11) (x : (Int32 × Mem)) (hx : f_X11_span r0 x1 x2 M = some x) (l : Launch) (dC : Nat → ClassId) (dI : Nat → Nat → Nat) (b : zSg) : MT l dC dI b yX11_span cX11_span 7 (some .int) 2 0 0 n n [.ref r0, .int x1, .int x2] M (emI x).1 (emI x).2 :=
  MT.ofX (by decide +kernel) rfl (Nat.le_of_ble_eq_true rfl) (fun κ hC hF _ => x_X11_span hC (zEnd_of hF (Nat.le_refl _) (Nat.le_refl _)) (zRk_of hF (Nat.le_refl _) (Nat.le_refl _)) _ _ _ _ h_r0) x hx
set_option maxRecDepth 100000 in
def dt_X11_lost : List (Nat × Instr × Nat) := [(0, .aload_n 0, 1), (1, .iload_n 1, 1), (2, .invokevirtual 242, 3), (5, .ifCond .ne 5, 3), (8, .iconst (-1), 1), (9, .ireturn, 1), (10, .aload_n 0, 1), (11, .getfield 54, 3), (14, .aload_n 0, 1), (15, .getfield 42, 3), (18, .getfield 224, 3), (21, .iload_n 1, 1), (22, .aaload, 1), (23, .invokevirtual 316, 3), (26, .iconst 0, 1), (27, .istore_n 2, 1), (28, .iload_n 2, 1), (29, .bipush 40, 2), (31, .if_icmp .gt 75, 3), (34, .aload_n 0, 1), (35, .getfield 42, 3), (38, .getfield 164, 3), (41, .iload_n 2, 1), (42, .iadd, 1), (43, .sipush 999, 3), (46, .if_icmp .gt 60, 3), (49, .aload_n 0, 1), (50, .getfield 35, 3), (53, .aload_n 0, 1), (54, .getfield 82, 3), (57, .aload_n 0, 1), (58, .getfield 54, 3), (61, .invokevirtual 291, 3), (64, .aload_n 0, 1), (65, .getfield 35, 3), (68, .getfield 307, 3), (71, .ifCond .ne 5, 3), (74, .iload_n 2, 1), (75, .ireturn, 1), (76, .aload_n 0, 1), (77, .getfield 19, 3), (80, .aload_n 0, 1), (81, .getfield 82, 3), (84, .aload_n 0, 1), (85, .getfield 54, 3), (88, .aload_n 0, 1), (89, .getfield 42, 3), (92, .getfield 164, 3), (95, .iload_n 2, 1), (96, .iadd, 1), (97, .invokevirtual 320, 3), (100, .iinc 2 1, 3), (103, .goto (-75), 3), (106, .iconst (-1), 1), (107, .ireturn, 1)]
set_option maxRecDepth 100000 in
theorem dk_X11_lost : dt_X11_lost.all (fun q => decide (decode cX11_lost q.1 = .ok q.2)) = true := by decide +kernel
set_option maxRecDepth 100000 in
def f_X11_lost_106  (r0 : Nat) (x1 : Int32)  (M : Mem) : Option (Int32 × Mem) := some ((-1), M)
set_option maxRecDepth 100000 in
set_option maxHeartbeats 4000000 in
theorem x_X11_lost_106 {κ : KX} {n : Nat} (hC : CX κ cX11_lost RX11 3 (some .int) 7) (hE : zEnd κ n (0, 0)) (hk0 : zRk κ (0, 0)) {r0 : Nat} {x1 : Int32} (h_r0 : zO n r0 11) (M : Mem) : X κ 3 emI n (0, 0) 106 [.null, .null, .null] [] M (f_X11_lost_106 r0 x1 M) := by
  unfold f_X11_lost_106
  refine x_iconst (i := (-1)) c_iconst_m1 hC (zdk dk_X11_lost 53 rfl) (q := 107) rfl ?_
  exact x_iret (ty := .int) rfl hE hC (zdk dk_X11_lost 54 rfl)
set_option maxRecDepth 100000 in
def f_X11_lost_28  (r0 : Nat) (x1 : Int32) : Nat → Int32 → Mem → Option (Int32 × Mem)
  | 0, _, _ => none
  | f + 1, x2, M => (if 40 < x2 then f_X11_lost_106 r0 x1 M else Option.bind (zrf M r0 5) fun q1 => (if 999 < (zI M q1 1) + x2 then f_X11_lost_106 r0 x1 M else Option.bind (zrf M r0 4) fun q2 => Option.bind (zrf M r0 11) fun q3 => Option.bind (zrf M r0 7) fun q4 => Option.bind (f_X3_get q2 q3 q4 M) fun M5 => Option.bind (zrf M5 r0 4) fun q6 => (if zI M5 q6 7 = 0 then some (x2, M5) else Option.bind (zrf M5 r0 2) fun q7 => Option.bind (zrf M5 r0 11) fun q8 => Option.bind (zrf M5 r0 7) fun q9 => Option.bind (zrf M5 r0 5) fun q10 => Option.bind (f_X10_passDay q7 q8 q9 ((zI M5 q10 1) + x2) M5) fun M11 => (f_X11_lost_28 r0 x1 f) (x2 + 1) M11)))
set_option maxRecDepth 100000 in
set_option maxHeartbeats 4000000 in
theorem x_X11_lost_28 {κ : KX} {n : Nat} (hC : CX κ cX11_lost RX11 3 (some .int) 7) (hE : zEnd κ n (0, 0)) (hk0 : zRk κ (0, 0)) {r0 : Nat} {x1 : Int32} (h_r0 : zO n r0 11) : ∀ (f : Nat) (x2 : Int32) (M : Mem), X κ 3 emI n (0, 0) 28 [.ref r0, .null, .int x2] [] M (f_X11_lost_28 r0 x1 f x2 M) := by
  intro f
  induction f with
  | zero => intros; exact x_none
  | succ f ih =>
    intro x2 M 
    rw [f_X11_lost_28]
    refine x_iload_n (i := 2) rfl hC (zdk dk_X11_lost 16 rfl) (q := 29) rfl ?_
    refine x_bipush (i := 40) c_bipush_40 hC (zdk dk_X11_lost 17 rfl) (q := 31) rfl ?_
    refine x_icmp_gt (tgt := 106) hC (zdk dk_X11_lost 18 rfl) (q := 34) rfl rfl (fun _ => ?_) (fun _ => ?_)
    · refine x_weak (L' := [.null, .null, .null]) ⟨Or.inl rfl, Or.inl rfl, Or.inl rfl, trivial⟩ ?_
      exact x_X11_lost_106 hC hE hk0 h_r0 _
    · refine x_aload_n (i := 0) rfl hC (zdk dk_X11_lost 19 rfl) (q := 35) rfl ?_
      refine x_getR (k := 5) fl_RX11_42 rfl h_r0 hC (zdk dk_X11_lost 20 rfl) (q := 38) rfl (fun q1 hq1 => ?_)
      refine x_getI fl_RX11_164 (by decide) hq1 hC (zdk dk_X11_lost 21 rfl) (q := 41) rfl ?_
      refine x_iload_n (i := 2) rfl hC (zdk dk_X11_lost 22 rfl) (q := 42) rfl ?_
      refine x_iadd hC (zdk dk_X11_lost 23 rfl) (q := 43) rfl ?_
      refine x_sipush (i := 999) c_sipush_999 hC (zdk dk_X11_lost 24 rfl) (q := 46) rfl ?_
      refine x_icmp_gt (tgt := 106) hC (zdk dk_X11_lost 25 rfl) (q := 49) rfl rfl (fun _ => ?_) (fun _ => ?_)
      · refine x_weak (L' := [.null, .null, .null]) ⟨Or.inl rfl, Or.inl rfl, Or.inl rfl, trivial⟩ ?_
        exact x_X11_lost_106 hC hE hk0 h_r0 _
      · refine x_aload_n (i := 0) rfl hC (zdk dk_X11_lost 26 rfl) (q := 50) rfl ?_
        refine x_getR (k := 3) fl_RX11_35 rfl h_r0 hC (zdk dk_X11_lost 27 rfl) (q := 53) rfl (fun q2 hq2 => ?_)
        refine x_aload_n (i := 0) rfl hC (zdk dk_X11_lost 28 rfl) (q := 54) rfl ?_
        refine x_getR (k := 0) fl_RX11_82 rfl h_r0 hC (zdk dk_X11_lost 29 rfl) (q := 57) rfl (fun q3 hq3 => ?_)
        refine x_aload_n (i := 0) rfl hC (zdk dk_X11_lost 30 rfl) (q := 58) rfl ?_
        refine x_getR (k := 8) fl_RX11_54 rfl h_r0 hC (zdk dk_X11_lost 31 rfl) (q := 61) rfl (fun q4 hq4 => ?_)
        refine x_callVv (as := [.ref q3, .ref q4]) cb_RX11_291 rfl (by decide) hk0 hq2 (fun x hx => t_X3_get hq2 hq3 hq4 x hx) hC (zdk dk_X11_lost 32 rfl) (q := 64) rfl rfl (Nat.le_of_ble_eq_true rfl) (fun M5 => ?_)
        refine x_aload_n (i := 0) rfl hC (zdk dk_X11_lost 33 rfl) (q := 65) rfl ?_
        refine x_getR (k := 3) fl_RX11_35 rfl h_r0 hC (zdk dk_X11_lost 34 rfl) (q := 68) rfl (fun q6 hq6 => ?_)
        refine x_getI fl_RX11_307 (by decide) hq6 hC (zdk dk_X11_lost 35 rfl) (q := 71) rfl ?_
        refine x_if_ne (tgt := 76) hC (zdk dk_X11_lost 36 rfl) (q := 74) rfl rfl (fun _ => ?_) (fun _ => ?_)
        · refine x_aload_n (i := 0) rfl hC (zdk dk_X11_lost 39 rfl) (q := 77) rfl ?_
          refine x_getR (k := 10) fl_RX11_19 rfl h_r0 hC (zdk dk_X11_lost 40 rfl) (q := 80) rfl (fun q7 hq7 => ?_)
          refine x_aload_n (i := 0) rfl hC (zdk dk_X11_lost 41 rfl) (q := 81) rfl ?_
          refine x_getR (k := 0) fl_RX11_82 rfl h_r0 hC (zdk dk_X11_lost 42 rfl) (q := 84) rfl (fun q8 hq8 => ?_)
          refine x_aload_n (i := 0) rfl hC (zdk dk_X11_lost 43 rfl) (q := 85) rfl ?_
          refine x_getR (k := 8) fl_RX11_54 rfl h_r0 hC (zdk dk_X11_lost 44 rfl) (q := 88) rfl (fun q9 hq9 => ?_)
          refine x_aload_n (i := 0) rfl hC (zdk dk_X11_lost 45 rfl) (q := 89) rfl ?_
          refine x_getR (k := 5) fl_RX11_42 rfl h_r0 hC (zdk dk_X11_lost 46 rfl) (q := 92) rfl (fun q10 hq10 => ?_)
          refine x_getI fl_RX11_164 (by decide) hq10 hC (zdk dk_X11_lost 47 rfl) (q := 95) rfl ?_
          refine x_iload_n (i := 2) rfl hC (zdk dk_X11_lost 48 rfl) (q := 96) rfl ?_
          refine x_iadd hC (zdk dk_X11_lost 49 rfl) (q := 97) rfl ?_
          refine x_callVv (as := [.ref q8, .ref q9, .int ((zI M5 q10 1) + x2)]) cb_RX11_320 rfl (by decide) hk0 hq7 (fun x hx => t_X10_passDay hq7 hq8 hq9 x hx) hC (zdk dk_X11_lost 50 rfl) (q := 100) rfl rfl (Nat.le_of_ble_eq_true rfl) (fun M11 => ?_)
          refine x_iinc (i := 2) c_iconst_1 rfl (by decide) (L' := [.ref r0, .null, .int (x2 + 1)]) rfl hC (zdk dk_X11_lost 51 rfl) (q := 103) rfl ?_
          refine x_goto (tgt := 28) hC (zdk dk_X11_lost 52 rfl) rfl ?_
          refine x_weak (L' := [.ref r0, .null, .int (x2 + 1)]) ⟨Or.inr rfl, Or.inl rfl, Or.inr rfl, trivial⟩ ?_
          exact ih _ _
        · refine x_iload_n (i := 2) rfl hC (zdk dk_X11_lost 37 rfl) (q := 75) rfl ?_
          exact x_iret (ty := .int) rfl hE hC (zdk dk_X11_lost 38 rfl)
set_option maxRecDepth 100000 in
def f_X11_lost (r0 : Nat) (x1 : Int32) (M : Mem) : Option (Int32 × Mem) := Option.bind (f_X11_isWritten r0 x1 M) fun z12 => (if z12.1 = 0 then some ((-1), z12.2) else Option.bind (zrf z12.2 r0 7) fun q13 => Option.bind (zrf z12.2 r0 5) fun q14 => Option.bind (zrf z12.2 q14 0) fun q15 => Option.bind (zld q15 x1) fun k16 => Option.bind (zrf z12.2 q15 k16) fun q17 => Option.bind (f_X8_copy q13 q17 z12.2) fun M18 => f_X11_lost_28 r0 x1 1000000 0 M18)
set_option maxRecDepth 100000 in
set_option maxHeartbeats 4000000 in
theorem x_X11_lost {κ : KX} {n : Nat} (hC : CX κ cX11_lost RX11 3 (some .int) 7) (hE : zEnd κ n (0, 0)) (hk0 : zRk κ (0, 0)) (r0 : Nat) (x1 : Int32) (M : Mem) (h_r0 : zO n r0 11) : X κ 3 emI n (0, 0) 0 [.ref r0, .int x1, .null] [] M (f_X11_lost r0 x1 M) := by
  unfold f_X11_lost
  refine x_aload_n (i := 0) rfl hC (zdk dk_X11_lost 0 rfl) (q := 1) rfl ?_
  refine x_iload_n (i := 1) rfl hC (zdk dk_X11_lost 1 rfl) (q := 2) rfl ?_
  refine x_callVi (as := [.int x1]) cb_RX11_242 rfl (by decide) hk0 h_r0 (fun x hx => t_X11_isWritten h_r0 x hx) hC (zdk dk_X11_lost 2 rfl) (q := 5) rfl rfl (Nat.le_of_ble_eq_true rfl) (fun z12 => ?_)
  refine x_if_ne (tgt := 10) hC (zdk dk_X11_lost 3 rfl) (q := 8) rfl rfl (fun _ => ?_) (fun _ => ?_)
  · refine x_aload_n (i := 0) rfl hC (zdk dk_X11_lost 6 rfl) (q := 11) rfl ?_
    refine x_getR (k := 8) fl_RX11_54 rfl h_r0 hC (zdk dk_X11_lost 7 rfl) (q := 14) rfl (fun q13 hq13 => ?_)
    refine x_aload_n (i := 0) rfl hC (zdk dk_X11_lost 8 rfl) (q := 15) rfl ?_
    refine x_getR (k := 5) fl_RX11_42 rfl h_r0 hC (zdk dk_X11_lost 9 rfl) (q := 18) rfl (fun q14 hq14 => ?_)
    refine x_getR (k := 23) fl_RX11_224 rfl hq14 hC (zdk dk_X11_lost 10 rfl) (q := 21) rfl (fun q15 hq15 => ?_)
    refine x_iload_n (i := 1) rfl hC (zdk dk_X11_lost 11 rfl) (q := 22) rfl ?_
    refine x_aald (kd := 23) (ke := 8) hq15 (by decide) rfl hC (zdk dk_X11_lost 12 rfl) (q := 23) rfl (fun k16 _ q17 hq17 => ?_)
    refine x_callVv (as := [.ref q17]) cb_RX11_316 rfl (by decide) hk0 hq13 (fun x hx => t_X8_copy hq13 hq17 x hx) hC (zdk dk_X11_lost 13 rfl) (q := 26) rfl rfl (Nat.le_of_ble_eq_true rfl) (fun M18 => ?_)
    refine x_iconst (i := 0) c_iconst_0 hC (zdk dk_X11_lost 14 rfl) (q := 27) rfl ?_
    refine x_istore_n (i := 2) (L' := [.ref r0, .int x1, .int 0]) (by decide) rfl hC (zdk dk_X11_lost 15 rfl) (q := 28) rfl ?_
    refine x_weak (L' := [.ref r0, .null, .int 0]) ⟨Or.inr rfl, Or.inl rfl, Or.inr rfl, trivial⟩ ?_
    exact x_X11_lost_28 hC hE hk0 h_r0 _ _ _
  · refine x_iconst (i := (-1)) c_iconst_m1 hC (zdk dk_X11_lost 4 rfl) (q := 9) rfl ?_
    exact x_iret (ty := .int) rfl hE hC (zdk dk_X11_lost 5 rfl)
set_option maxRecDepth 100000 in
set_option maxHeartbeats 4000000 in
theorem t_X11_lost {n : Nat} {r0 : Nat} {x1 : Int32} {M : Mem} (h_r0 : zO n r0 11) (x : (Int32 × Mem)) (hx : f_X11_lost r0 x1 M = some x) (l : Launch) (dC : Nat → ClassId) (dI : Nat → Nat → Nat) (b : zSg) : MT l dC dI b yX11_lost cX11_lost 3 (some .int) 7 0 0 n n [.ref r0, .int x1] M (emI x).1 (emI x).2 :=
  MT.ofX (by decide +kernel) rfl (Nat.le_of_ble_eq_true rfl) (fun κ hC hF _ => x_X11_lost hC (zEnd_of hF (Nat.le_refl _) (Nat.le_refl _)) (zRk_of hF (Nat.le_refl _) (Nat.le_refl _)) _ _ _ h_r0) x hx
set_option maxRecDepth 100000 in
def dt_X11_odds : List (Nat × Instr × Nat) := [(0, .aload_n 0, 1), (1, .getfield 120, 3), (4, .ifCond .eq 16, 3), (7, .aload_n 0, 1), (8, .getfield 42, 3), (11, .getfield 164, 3), (14, .sipush 999, 3), (17, .if_icmp .lt 5, 3), (20, .iconst (-1), 1), (21, .ireturn, 1), (22, .aload_n 0, 1), (23, .getfield 82, 3), (26, .getfield 141, 3), (29, .getfield 153, 3), (32, .istore_n 2, 1), (33, .iload_n 1, 1), (34, .iconst (-1), 1), (35, .if_icmp .ne 8, 3), (38, .bipush 100, 2), (40, .iload_n 2, 1), (41, .imul, 1), (42, .ireturn, 1), (43, .aload_n 0, 1), (44, .iload_n 1, 1), (45, .invokevirtual 242, 3), (48, .ifCond .ne 5, 3), (51, .iconst (-1), 1), (52, .ireturn, 1), (53, .aload_n 0, 1), (54, .getfield 54, 3), (57, .aload_n 0, 1), (58, .getfield 42, 3), (61, .getfield 224, 3), (64, .iload_n 1, 1), (65, .aaload, 1), (66, .invokevirtual 316, 3), (69, .aload_n 0, 1), (70, .getfield 19, 3), (73, .aload_n 0, 1), (74, .getfield 82, 3), (77, .aload_n 0, 1), (78, .getfield 54, 3), (81, .aload_n 0, 1), (82, .getfield 42, 3), (85, .getfield 164, 3), (88, .invokevirtual 320, 3), (91, .aload_n 0, 1), (92, .getfield 35, 3), (95, .aload_n 0, 1), (96, .getfield 82, 3), (99, .aload_n 0, 1), (100, .getfield 54, 3), (103, .invokevirtual 291, 3), (106, .aload_n 0, 1), (107, .getfield 35, 3), (110, .getfield 307, 3), (113, .ifCond .eq 7, 3), (116, .iload_n 2, 1), (117, .goto 4, 3), (120, .iconst 0, 1), (121, .istore_n 3, 1), (122, .iconst 0, 1), (123, .istore 4, 2), (125, .iconst 0, 1), (126, .istore 5, 2), (128, .iload 5, 2), (130, .iload_n 2, 1), (131, .if_icmp .ge 62, 3), (134, .aload_n 0, 1), (135, .getfield 54, 3), (138, .iload 5, 2), (140, .invokevirtual 324, 3), (143, .aload_n 0, 1), (144, .getfield 35, 3), (147, .aload_n 0, 1), (148, .getfield 82, 3), (151, .aload_n 0, 1), (152, .getfield 54, 3), (155, .invokevirtual 291, 3), (158, .iload 4, 2), (160, .aload_n 0, 1), (161, .getfield 35, 3), (164, .getfield 307, 3), (167, .ifCond .eq 7, 3), (170, .iconst 1, 1), (171, .goto 4, 3), (174, .iconst 0, 1), (175, .iadd, 1), (176, .istore 4, 2), (178, .aload_n 0, 1), (179, .getfield 54, 3), (182, .iload 5, 2), (184, .invokevirtual 324, 3), (187, .iinc 5 1, 3), (190, .goto (-62), 3), (193, .bipush 100, 2), (195, .aload_n 0, 1), (196, .getfield 82, 3), (199, .getfield 327, 3), (202, .isub, 1), (203, .iload_n 3, 1), (204, .imul, 1), (205, .aload_n 0, 1), (206, .getfield 82, 3), (209, .getfield 327, 3), (212, .iload 4, 2), (214, .imul, 1), (215, .iadd, 1), (216, .ireturn, 1)]
set_option maxRecDepth 100000 in
theorem dk_X11_odds : dt_X11_odds.all (fun q => decide (decode cX11_odds q.1 = .ok q.2)) = true := by decide +kernel
set_option maxRecDepth 100000 in
def f_X11_odds_20  (r0 : Nat) (x1 : Int32)  (M : Mem) : Option (Int32 × Mem) := some ((-1), M)
set_option maxRecDepth 100000 in
set_option maxHeartbeats 4000000 in
theorem x_X11_odds_20 {κ : KX} {n : Nat} (hC : CX κ cX11_odds RX11 6 (some .int) 7) (hE : zEnd κ n (0, 0)) (hk0 : zRk κ (0, 0)) {r0 : Nat} {x1 : Int32} (h_r0 : zO n r0 11) (M : Mem) : X κ 6 emI n (0, 0) 20 [.null, .null, .null, .null, .null, .null] [] M (f_X11_odds_20 r0 x1 M) := by
  unfold f_X11_odds_20
  refine x_iconst (i := (-1)) c_iconst_m1 hC (zdk dk_X11_odds 8 rfl) (q := 21) rfl ?_
  exact x_iret (ty := .int) rfl hE hC (zdk dk_X11_odds 9 rfl)
set_option maxRecDepth 100000 in
def f_X11_odds_175 (k128 : Int32 → Int32 → Int32 → Int32 → Mem → Option (Int32 × Mem)) (r0 : Nat) (x1 : Int32) (x2 : Int32) (x3 : Int32) (x5 : Int32) (s0 : Int32) (s1 : Int32) (M : Mem) : Option (Int32 × Mem) := Option.bind (zrf M r0 7) fun q1 => Option.bind (f_X8_turn q1 x5 M) fun M2 => k128 x2 x3 (s0 + s1) (x5 + 1) M2
set_option maxRecDepth 100000 in
set_option maxHeartbeats 4000000 in
theorem x_X11_odds_175 {κ : KX} {n : Nat} (hC : CX κ cX11_odds RX11 6 (some .int) 7) (hE : zEnd κ n (0, 0)) (hk0 : zRk κ (0, 0)) {r0 : Nat} {x1 : Int32} (h_r0 : zO n r0 11) (k128 : Int32 → Int32 → Int32 → Int32 → Mem → Option (Int32 × Mem)) (hk128 : ∀ (x2 : Int32) (x3 : Int32) (x4 : Int32) (x5 : Int32) (M : Mem), X κ 6 emI n (0, 0) 128 [.ref r0, .null, .int x2, .int x3, .int x4, .int x5] [] M (k128 x2 x3 x4 x5 M)) (x2 : Int32) (x3 : Int32) (x5 : Int32) (s0 : Int32) (s1 : Int32) (M : Mem) : X κ 6 emI n (0, 0) 175 [.ref r0, .null, .int x2, .int x3, .null, .int x5] [.int s1, .int s0] M (f_X11_odds_175 k128 r0 x1 x2 x3 x5 s0 s1 M) := by
  unfold f_X11_odds_175
  refine x_iadd hC (zdk dk_X11_odds 87 rfl) (q := 176) rfl ?_
  refine x_istore (i := 4) (L' := [.ref r0, .null, .int x2, .int x3, .int (s0 + s1), .int x5]) (by decide) rfl hC (zdk dk_X11_odds 88 rfl) (q := 178) rfl ?_
  refine x_aload_n (i := 0) rfl hC (zdk dk_X11_odds 89 rfl) (q := 179) rfl ?_
  refine x_getR (k := 8) fl_RX11_54 rfl h_r0 hC (zdk dk_X11_odds 90 rfl) (q := 182) rfl (fun q1 hq1 => ?_)
  refine x_iload (i := 5) rfl hC (zdk dk_X11_odds 91 rfl) (q := 184) rfl ?_
  refine x_callVv (as := [.int x5]) cb_RX11_324 rfl (by decide) hk0 hq1 (fun x hx => t_X8_turn hq1 x hx) hC (zdk dk_X11_odds 92 rfl) (q := 187) rfl rfl (Nat.le_of_ble_eq_true rfl) (fun M2 => ?_)
  refine x_iinc (i := 5) c_iconst_1 rfl (by decide) (L' := [.ref r0, .null, .int x2, .int x3, .int (s0 + s1), .int (x5 + 1)]) rfl hC (zdk dk_X11_odds 93 rfl) (q := 190) rfl ?_
  refine x_goto (tgt := 128) hC (zdk dk_X11_odds 94 rfl) rfl ?_
  refine x_weak (L' := [.ref r0, .null, .int x2, .int x3, .int (s0 + s1), .int (x5 + 1)]) ⟨Or.inr rfl, Or.inl rfl, Or.inr rfl, Or.inr rfl, Or.inr rfl, Or.inr rfl, trivial⟩ ?_
  exact hk128 _ _ _ _ _
set_option maxRecDepth 100000 in
def f_X11_odds_128  (r0 : Nat) (x1 : Int32) : Nat → Int32 → Int32 → Int32 → Int32 → Mem → Option (Int32 × Mem)
  | 0, _, _, _, _, _ => none
  | f + 1, x2, x3, x4, x5, M => (if x2 ≤ x5 then Option.bind (zrf M r0 11) fun q3 => Option.bind (zrf M r0 11) fun q4 => some (((100 - (zI M q3 14)) * x3) + ((zI M q4 14) * x4), M) else Option.bind (zrf M r0 7) fun q5 => Option.bind (f_X8_turn q5 x5 M) fun M6 => Option.bind (zrf M6 r0 4) fun q7 => Option.bind (zrf M6 r0 11) fun q8 => Option.bind (zrf M6 r0 7) fun q9 => Option.bind (f_X3_get q7 q8 q9 M6) fun M10 => Option.bind (zrf M10 r0 4) fun q11 => (if zI M10 q11 7 = 0 then f_X11_odds_175 (f_X11_odds_128 r0 x1 f) r0 x1 x2 x3 x5 x4 0 M10 else f_X11_odds_175 (f_X11_odds_128 r0 x1 f) r0 x1 x2 x3 x5 x4 1 M10))
set_option maxRecDepth 100000 in
set_option maxHeartbeats 4000000 in
theorem x_X11_odds_128 {κ : KX} {n : Nat} (hC : CX κ cX11_odds RX11 6 (some .int) 7) (hE : zEnd κ n (0, 0)) (hk0 : zRk κ (0, 0)) {r0 : Nat} {x1 : Int32} (h_r0 : zO n r0 11) : ∀ (f : Nat) (x2 : Int32) (x3 : Int32) (x4 : Int32) (x5 : Int32) (M : Mem), X κ 6 emI n (0, 0) 128 [.ref r0, .null, .int x2, .int x3, .int x4, .int x5] [] M (f_X11_odds_128 r0 x1 f x2 x3 x4 x5 M) := by
  intro f
  induction f with
  | zero => intros; exact x_none
  | succ f ih =>
    intro x2 x3 x4 x5 M 
    rw [f_X11_odds_128]
    refine x_iload (i := 5) rfl hC (zdk dk_X11_odds 65 rfl) (q := 130) rfl ?_
    refine x_iload_n (i := 2) rfl hC (zdk dk_X11_odds 66 rfl) (q := 131) rfl ?_
    refine x_icmp_ge (tgt := 193) hC (zdk dk_X11_odds 67 rfl) (q := 134) rfl rfl (fun _ => ?_) (fun _ => ?_)
    · refine x_bipush (i := 100) c_bipush_100 hC (zdk dk_X11_odds 95 rfl) (q := 195) rfl ?_
      refine x_aload_n (i := 0) rfl hC (zdk dk_X11_odds 96 rfl) (q := 196) rfl ?_
      refine x_getR (k := 0) fl_RX11_82 rfl h_r0 hC (zdk dk_X11_odds 97 rfl) (q := 199) rfl (fun q3 hq3 => ?_)
      refine x_getI fl_RX11_327 (by decide) hq3 hC (zdk dk_X11_odds 98 rfl) (q := 202) rfl ?_
      refine x_isub hC (zdk dk_X11_odds 99 rfl) (q := 203) rfl ?_
      refine x_iload_n (i := 3) rfl hC (zdk dk_X11_odds 100 rfl) (q := 204) rfl ?_
      refine x_imul hC (zdk dk_X11_odds 101 rfl) (q := 205) rfl ?_
      refine x_aload_n (i := 0) rfl hC (zdk dk_X11_odds 102 rfl) (q := 206) rfl ?_
      refine x_getR (k := 0) fl_RX11_82 rfl h_r0 hC (zdk dk_X11_odds 103 rfl) (q := 209) rfl (fun q4 hq4 => ?_)
      refine x_getI fl_RX11_327 (by decide) hq4 hC (zdk dk_X11_odds 104 rfl) (q := 212) rfl ?_
      refine x_iload (i := 4) rfl hC (zdk dk_X11_odds 105 rfl) (q := 214) rfl ?_
      refine x_imul hC (zdk dk_X11_odds 106 rfl) (q := 215) rfl ?_
      refine x_iadd hC (zdk dk_X11_odds 107 rfl) (q := 216) rfl ?_
      exact x_iret (ty := .int) rfl hE hC (zdk dk_X11_odds 108 rfl)
    · refine x_aload_n (i := 0) rfl hC (zdk dk_X11_odds 68 rfl) (q := 135) rfl ?_
      refine x_getR (k := 8) fl_RX11_54 rfl h_r0 hC (zdk dk_X11_odds 69 rfl) (q := 138) rfl (fun q5 hq5 => ?_)
      refine x_iload (i := 5) rfl hC (zdk dk_X11_odds 70 rfl) (q := 140) rfl ?_
      refine x_callVv (as := [.int x5]) cb_RX11_324 rfl (by decide) hk0 hq5 (fun x hx => t_X8_turn hq5 x hx) hC (zdk dk_X11_odds 71 rfl) (q := 143) rfl rfl (Nat.le_of_ble_eq_true rfl) (fun M6 => ?_)
      refine x_aload_n (i := 0) rfl hC (zdk dk_X11_odds 72 rfl) (q := 144) rfl ?_
      refine x_getR (k := 3) fl_RX11_35 rfl h_r0 hC (zdk dk_X11_odds 73 rfl) (q := 147) rfl (fun q7 hq7 => ?_)
      refine x_aload_n (i := 0) rfl hC (zdk dk_X11_odds 74 rfl) (q := 148) rfl ?_
      refine x_getR (k := 0) fl_RX11_82 rfl h_r0 hC (zdk dk_X11_odds 75 rfl) (q := 151) rfl (fun q8 hq8 => ?_)
      refine x_aload_n (i := 0) rfl hC (zdk dk_X11_odds 76 rfl) (q := 152) rfl ?_
      refine x_getR (k := 8) fl_RX11_54 rfl h_r0 hC (zdk dk_X11_odds 77 rfl) (q := 155) rfl (fun q9 hq9 => ?_)
      refine x_callVv (as := [.ref q8, .ref q9]) cb_RX11_291 rfl (by decide) hk0 hq7 (fun x hx => t_X3_get hq7 hq8 hq9 x hx) hC (zdk dk_X11_odds 78 rfl) (q := 158) rfl rfl (Nat.le_of_ble_eq_true rfl) (fun M10 => ?_)
      refine x_iload (i := 4) rfl hC (zdk dk_X11_odds 79 rfl) (q := 160) rfl ?_
      refine x_aload_n (i := 0) rfl hC (zdk dk_X11_odds 80 rfl) (q := 161) rfl ?_
      refine x_getR (k := 3) fl_RX11_35 rfl h_r0 hC (zdk dk_X11_odds 81 rfl) (q := 164) rfl (fun q11 hq11 => ?_)
      refine x_getI fl_RX11_307 (by decide) hq11 hC (zdk dk_X11_odds 82 rfl) (q := 167) rfl ?_
      refine x_if_eq (tgt := 174) hC (zdk dk_X11_odds 83 rfl) (q := 170) rfl rfl (fun _ => ?_) (fun _ => ?_)
      · refine x_iconst (i := 0) c_iconst_0 hC (zdk dk_X11_odds 86 rfl) (q := 175) rfl ?_
        refine x_weak (L' := [.ref r0, .null, .int x2, .int x3, .null, .int x5]) ⟨Or.inr rfl, Or.inl rfl, Or.inr rfl, Or.inr rfl, Or.inl rfl, Or.inr rfl, trivial⟩ ?_
        exact x_X11_odds_175 hC hE hk0 h_r0 (f_X11_odds_128 r0 x1 f) ih _ _ _ _ _ _
      · refine x_iconst (i := 1) c_iconst_1 hC (zdk dk_X11_odds 84 rfl) (q := 171) rfl ?_
        refine x_goto (tgt := 175) hC (zdk dk_X11_odds 85 rfl) rfl ?_
        refine x_weak (L' := [.ref r0, .null, .int x2, .int x3, .null, .int x5]) ⟨Or.inr rfl, Or.inl rfl, Or.inr rfl, Or.inr rfl, Or.inl rfl, Or.inr rfl, trivial⟩ ?_
        exact x_X11_odds_175 hC hE hk0 h_r0 (f_X11_odds_128 r0 x1 f) ih _ _ _ _ _ _
set_option maxRecDepth 100000 in
def f_X11_odds_121  (r0 : Nat) (x1 : Int32) (x2 : Int32) (s0 : Int32) (M : Mem) : Option (Int32 × Mem) := f_X11_odds_128 r0 x1 1000000 x2 s0 0 0 M
set_option maxRecDepth 100000 in
set_option maxHeartbeats 4000000 in
theorem x_X11_odds_121 {κ : KX} {n : Nat} (hC : CX κ cX11_odds RX11 6 (some .int) 7) (hE : zEnd κ n (0, 0)) (hk0 : zRk κ (0, 0)) {r0 : Nat} {x1 : Int32} (h_r0 : zO n r0 11) (x2 : Int32) (s0 : Int32) (M : Mem) : X κ 6 emI n (0, 0) 121 [.ref r0, .null, .int x2, .null, .null, .null] [.int s0] M (f_X11_odds_121 r0 x1 x2 s0 M) := by
  unfold f_X11_odds_121
  refine x_istore_n (i := 3) (L' := [.ref r0, .null, .int x2, .int s0, .null, .null]) (by decide) rfl hC (zdk dk_X11_odds 60 rfl) (q := 122) rfl ?_
  refine x_iconst (i := 0) c_iconst_0 hC (zdk dk_X11_odds 61 rfl) (q := 123) rfl ?_
  refine x_istore (i := 4) (L' := [.ref r0, .null, .int x2, .int s0, .int 0, .null]) (by decide) rfl hC (zdk dk_X11_odds 62 rfl) (q := 125) rfl ?_
  refine x_iconst (i := 0) c_iconst_0 hC (zdk dk_X11_odds 63 rfl) (q := 126) rfl ?_
  refine x_istore (i := 5) (L' := [.ref r0, .null, .int x2, .int s0, .int 0, .int 0]) (by decide) rfl hC (zdk dk_X11_odds 64 rfl) (q := 128) rfl ?_
  refine x_weak (L' := [.ref r0, .null, .int x2, .int s0, .int 0, .int 0]) ⟨Or.inr rfl, Or.inl rfl, Or.inr rfl, Or.inr rfl, Or.inr rfl, Or.inr rfl, trivial⟩ ?_
  exact x_X11_odds_128 hC hE hk0 h_r0 _ _ _ _ _ _
set_option maxRecDepth 100000 in
def f_X11_odds (r0 : Nat) (x1 : Int32) (M : Mem) : Option (Int32 × Mem) := (if zI M r0 14 = 0 then f_X11_odds_20 r0 x1 M else Option.bind (zrf M r0 5) fun q12 => (if zI M q12 1 < 999 then Option.bind (zrf M r0 11) fun q13 => Option.bind (zrf M q13 0) fun q14 => (if x1 = (-1) then some (100 * (zI M q14 10), M) else Option.bind (f_X11_isWritten r0 x1 M) fun z15 => (if z15.1 = 0 then some ((-1), z15.2) else Option.bind (zrf z15.2 r0 7) fun q16 => Option.bind (zrf z15.2 r0 5) fun q17 => Option.bind (zrf z15.2 q17 0) fun q18 => Option.bind (zld q18 x1) fun k19 => Option.bind (zrf z15.2 q18 k19) fun q20 => Option.bind (f_X8_copy q16 q20 z15.2) fun M21 => Option.bind (zrf M21 r0 2) fun q22 => Option.bind (zrf M21 r0 11) fun q23 => Option.bind (zrf M21 r0 7) fun q24 => Option.bind (zrf M21 r0 5) fun q25 => Option.bind (f_X10_passDay q22 q23 q24 (zI M21 q25 1) M21) fun M26 => Option.bind (zrf M26 r0 4) fun q27 => Option.bind (zrf M26 r0 11) fun q28 => Option.bind (zrf M26 r0 7) fun q29 => Option.bind (f_X3_get q27 q28 q29 M26) fun M30 => Option.bind (zrf M30 r0 4) fun q31 => (if zI M30 q31 7 = 0 then f_X11_odds_121 r0 x1 (zI M q14 10) 0 M30 else f_X11_odds_121 r0 x1 (zI M q14 10) (zI M q14 10) M30))) else f_X11_odds_20 r0 x1 M))
set_option maxRecDepth 100000 in
set_option maxHeartbeats 4000000 in
theorem x_X11_odds {κ : KX} {n : Nat} (hC : CX κ cX11_odds RX11 6 (some .int) 7) (hE : zEnd κ n (0, 0)) (hk0 : zRk κ (0, 0)) (r0 : Nat) (x1 : Int32) (M : Mem) (h_r0 : zO n r0 11) : X κ 6 emI n (0, 0) 0 [.ref r0, .int x1, .null, .null, .null, .null] [] M (f_X11_odds r0 x1 M) := by
  unfold f_X11_odds
  refine x_aload_n (i := 0) rfl hC (zdk dk_X11_odds 0 rfl) (q := 1) rfl ?_
  refine x_getI fl_RX11_120 (by decide) h_r0 hC (zdk dk_X11_odds 1 rfl) (q := 4) rfl ?_
  refine x_if_eq (tgt := 20) hC (zdk dk_X11_odds 2 rfl) (q := 7) rfl rfl (fun _ => ?_) (fun _ => ?_)
  · refine x_weak (L' := [.null, .null, .null, .null, .null, .null]) ⟨Or.inl rfl, Or.inl rfl, Or.inl rfl, Or.inl rfl, Or.inl rfl, Or.inl rfl, trivial⟩ ?_
    exact x_X11_odds_20 hC hE hk0 h_r0 _
  · refine x_aload_n (i := 0) rfl hC (zdk dk_X11_odds 3 rfl) (q := 8) rfl ?_
    refine x_getR (k := 5) fl_RX11_42 rfl h_r0 hC (zdk dk_X11_odds 4 rfl) (q := 11) rfl (fun q12 hq12 => ?_)
    refine x_getI fl_RX11_164 (by decide) hq12 hC (zdk dk_X11_odds 5 rfl) (q := 14) rfl ?_
    refine x_sipush (i := 999) c_sipush_999 hC (zdk dk_X11_odds 6 rfl) (q := 17) rfl ?_
    refine x_icmp_lt (tgt := 22) hC (zdk dk_X11_odds 7 rfl) (q := 20) rfl rfl (fun _ => ?_) (fun _ => ?_)
    · refine x_aload_n (i := 0) rfl hC (zdk dk_X11_odds 10 rfl) (q := 23) rfl ?_
      refine x_getR (k := 0) fl_RX11_82 rfl h_r0 hC (zdk dk_X11_odds 11 rfl) (q := 26) rfl (fun q13 hq13 => ?_)
      refine x_getR (k := 1) fl_RX11_141 rfl hq13 hC (zdk dk_X11_odds 12 rfl) (q := 29) rfl (fun q14 hq14 => ?_)
      refine x_getI fl_RX11_153 (by decide) hq14 hC (zdk dk_X11_odds 13 rfl) (q := 32) rfl ?_
      refine x_istore_n (i := 2) (L' := [.ref r0, .int x1, .int (zI M q14 10), .null, .null, .null]) (by decide) rfl hC (zdk dk_X11_odds 14 rfl) (q := 33) rfl ?_
      refine x_iload_n (i := 1) rfl hC (zdk dk_X11_odds 15 rfl) (q := 34) rfl ?_
      refine x_iconst (i := (-1)) c_iconst_m1 hC (zdk dk_X11_odds 16 rfl) (q := 35) rfl ?_
      refine x_icmp_ne (tgt := 43) hC (zdk dk_X11_odds 17 rfl) (q := 38) rfl rfl (fun _ => ?_) (fun _ => ?_)
      · refine x_aload_n (i := 0) rfl hC (zdk dk_X11_odds 22 rfl) (q := 44) rfl ?_
        refine x_iload_n (i := 1) rfl hC (zdk dk_X11_odds 23 rfl) (q := 45) rfl ?_
        refine x_callVi (as := [.int x1]) cb_RX11_242 rfl (by decide) hk0 h_r0 (fun x hx => t_X11_isWritten h_r0 x hx) hC (zdk dk_X11_odds 24 rfl) (q := 48) rfl rfl (Nat.le_of_ble_eq_true rfl) (fun z15 => ?_)
        refine x_if_ne (tgt := 53) hC (zdk dk_X11_odds 25 rfl) (q := 51) rfl rfl (fun _ => ?_) (fun _ => ?_)
        · refine x_aload_n (i := 0) rfl hC (zdk dk_X11_odds 28 rfl) (q := 54) rfl ?_
          refine x_getR (k := 8) fl_RX11_54 rfl h_r0 hC (zdk dk_X11_odds 29 rfl) (q := 57) rfl (fun q16 hq16 => ?_)
          refine x_aload_n (i := 0) rfl hC (zdk dk_X11_odds 30 rfl) (q := 58) rfl ?_
          refine x_getR (k := 5) fl_RX11_42 rfl h_r0 hC (zdk dk_X11_odds 31 rfl) (q := 61) rfl (fun q17 hq17 => ?_)
          refine x_getR (k := 23) fl_RX11_224 rfl hq17 hC (zdk dk_X11_odds 32 rfl) (q := 64) rfl (fun q18 hq18 => ?_)
          refine x_iload_n (i := 1) rfl hC (zdk dk_X11_odds 33 rfl) (q := 65) rfl ?_
          refine x_aald (kd := 23) (ke := 8) hq18 (by decide) rfl hC (zdk dk_X11_odds 34 rfl) (q := 66) rfl (fun k19 _ q20 hq20 => ?_)
          refine x_callVv (as := [.ref q20]) cb_RX11_316 rfl (by decide) hk0 hq16 (fun x hx => t_X8_copy hq16 hq20 x hx) hC (zdk dk_X11_odds 35 rfl) (q := 69) rfl rfl (Nat.le_of_ble_eq_true rfl) (fun M21 => ?_)
          refine x_aload_n (i := 0) rfl hC (zdk dk_X11_odds 36 rfl) (q := 70) rfl ?_
          refine x_getR (k := 10) fl_RX11_19 rfl h_r0 hC (zdk dk_X11_odds 37 rfl) (q := 73) rfl (fun q22 hq22 => ?_)
          refine x_aload_n (i := 0) rfl hC (zdk dk_X11_odds 38 rfl) (q := 74) rfl ?_
          refine x_getR (k := 0) fl_RX11_82 rfl h_r0 hC (zdk dk_X11_odds 39 rfl) (q := 77) rfl (fun q23 hq23 => ?_)
          refine x_aload_n (i := 0) rfl hC (zdk dk_X11_odds 40 rfl) (q := 78) rfl ?_
          refine x_getR (k := 8) fl_RX11_54 rfl h_r0 hC (zdk dk_X11_odds 41 rfl) (q := 81) rfl (fun q24 hq24 => ?_)
          refine x_aload_n (i := 0) rfl hC (zdk dk_X11_odds 42 rfl) (q := 82) rfl ?_
          refine x_getR (k := 5) fl_RX11_42 rfl h_r0 hC (zdk dk_X11_odds 43 rfl) (q := 85) rfl (fun q25 hq25 => ?_)
          refine x_getI fl_RX11_164 (by decide) hq25 hC (zdk dk_X11_odds 44 rfl) (q := 88) rfl ?_
          refine x_callVv (as := [.ref q23, .ref q24, .int (zI M21 q25 1)]) cb_RX11_320 rfl (by decide) hk0 hq22 (fun x hx => t_X10_passDay hq22 hq23 hq24 x hx) hC (zdk dk_X11_odds 45 rfl) (q := 91) rfl rfl (Nat.le_of_ble_eq_true rfl) (fun M26 => ?_)
          refine x_aload_n (i := 0) rfl hC (zdk dk_X11_odds 46 rfl) (q := 92) rfl ?_
          refine x_getR (k := 3) fl_RX11_35 rfl h_r0 hC (zdk dk_X11_odds 47 rfl) (q := 95) rfl (fun q27 hq27 => ?_)
          refine x_aload_n (i := 0) rfl hC (zdk dk_X11_odds 48 rfl) (q := 96) rfl ?_
          refine x_getR (k := 0) fl_RX11_82 rfl h_r0 hC (zdk dk_X11_odds 49 rfl) (q := 99) rfl (fun q28 hq28 => ?_)
          refine x_aload_n (i := 0) rfl hC (zdk dk_X11_odds 50 rfl) (q := 100) rfl ?_
          refine x_getR (k := 8) fl_RX11_54 rfl h_r0 hC (zdk dk_X11_odds 51 rfl) (q := 103) rfl (fun q29 hq29 => ?_)
          refine x_callVv (as := [.ref q28, .ref q29]) cb_RX11_291 rfl (by decide) hk0 hq27 (fun x hx => t_X3_get hq27 hq28 hq29 x hx) hC (zdk dk_X11_odds 52 rfl) (q := 106) rfl rfl (Nat.le_of_ble_eq_true rfl) (fun M30 => ?_)
          refine x_aload_n (i := 0) rfl hC (zdk dk_X11_odds 53 rfl) (q := 107) rfl ?_
          refine x_getR (k := 3) fl_RX11_35 rfl h_r0 hC (zdk dk_X11_odds 54 rfl) (q := 110) rfl (fun q31 hq31 => ?_)
          refine x_getI fl_RX11_307 (by decide) hq31 hC (zdk dk_X11_odds 55 rfl) (q := 113) rfl ?_
          refine x_if_eq (tgt := 120) hC (zdk dk_X11_odds 56 rfl) (q := 116) rfl rfl (fun _ => ?_) (fun _ => ?_)
          · refine x_iconst (i := 0) c_iconst_0 hC (zdk dk_X11_odds 59 rfl) (q := 121) rfl ?_
            refine x_weak (L' := [.ref r0, .null, .int (zI M q14 10), .null, .null, .null]) ⟨Or.inr rfl, Or.inl rfl, Or.inr rfl, Or.inl rfl, Or.inl rfl, Or.inl rfl, trivial⟩ ?_
            exact x_X11_odds_121 hC hE hk0 h_r0 _ _ _
          · refine x_iload_n (i := 2) rfl hC (zdk dk_X11_odds 57 rfl) (q := 117) rfl ?_
            refine x_goto (tgt := 121) hC (zdk dk_X11_odds 58 rfl) rfl ?_
            refine x_weak (L' := [.ref r0, .null, .int (zI M q14 10), .null, .null, .null]) ⟨Or.inr rfl, Or.inl rfl, Or.inr rfl, Or.inl rfl, Or.inl rfl, Or.inl rfl, trivial⟩ ?_
            exact x_X11_odds_121 hC hE hk0 h_r0 _ _ _
        · refine x_iconst (i := (-1)) c_iconst_m1 hC (zdk dk_X11_odds 26 rfl) (q := 52) rfl ?_
          exact x_iret (ty := .int) rfl hE hC (zdk dk_X11_odds 27 rfl)
      · refine x_bipush (i := 100) c_bipush_100 hC (zdk dk_X11_odds 18 rfl) (q := 40) rfl ?_
        refine x_iload_n (i := 2) rfl hC (zdk dk_X11_odds 19 rfl) (q := 41) rfl ?_
        refine x_imul hC (zdk dk_X11_odds 20 rfl) (q := 42) rfl ?_
        exact x_iret (ty := .int) rfl hE hC (zdk dk_X11_odds 21 rfl)
    · refine x_weak (L' := [.null, .null, .null, .null, .null, .null]) ⟨Or.inl rfl, Or.inl rfl, Or.inl rfl, Or.inl rfl, Or.inl rfl, Or.inl rfl, trivial⟩ ?_
      exact x_X11_odds_20 hC hE hk0 h_r0 _
set_option maxRecDepth 100000 in
set_option maxHeartbeats 4000000 in
theorem t_X11_odds {n : Nat} {r0 : Nat} {x1 : Int32} {M : Mem} (h_r0 : zO n r0 11) (x : (Int32 × Mem)) (hx : f_X11_odds r0 x1 M = some x) (l : Launch) (dC : Nat → ClassId) (dI : Nat → Nat → Nat) (b : zSg) : MT l dC dI b yX11_odds cX11_odds 6 (some .int) 7 0 0 n n [.ref r0, .int x1] M (emI x).1 (emI x).2 :=
  MT.ofX (by decide +kernel) rfl (Nat.le_of_ble_eq_true rfl) (fun κ hC hF _ => x_X11_odds hC (zEnd_of hF (Nat.le_refl _) (Nat.le_refl _)) (zRk_of hF (Nat.le_refl _) (Nat.le_refl _)) _ _ _ h_r0) x hx
set_option maxRecDepth 100000 in
def dt_X11_meet : List (Nat × Instr × Nat) := [(0, .aload_n 0, 1), (1, .invokevirtual 112, 3), (4, .istore_n 1, 1), (5, .aload_n 0, 1), (6, .getfield 120, 3), (9, .ifCond .eq 18, 3), (12, .aload_n 0, 1), (13, .getfield 68, 3), (16, .aload_n 0, 1), (17, .getfield 9, 3), (20, .iload_n 1, 1), (21, .invokevirtual 330, 3), (24, .ifCond .ne 9, 3), (27, .aload_n 0, 1), (28, .iconst 5, 1), (29, .invokevirtual 105, 3), (32, .ireturn, 1), (33, .aload_n 0, 1), (34, .getfield 68, 3), (37, .getfield 170, 3), (40, .ireturn, 1)]
set_option maxRecDepth 100000 in
theorem dk_X11_meet : dt_X11_meet.all (fun q => decide (decode cX11_meet q.1 = .ok q.2)) = true := by decide +kernel
set_option maxRecDepth 100000 in
def f_X11_meet_27  (r0 : Nat)  (M : Mem) : Option (Int32 × Mem) := Option.bind (f_X11_refuse r0 5 M) fun z1 => some (z1.1, z1.2)
set_option maxRecDepth 100000 in
set_option maxHeartbeats 4000000 in
theorem x_X11_meet_27 {κ : KX} {n : Nat} (hC : CX κ cX11_meet RX11 2 (some .int) 1) (hE : zEnd κ n (0, 0)) (hk0 : zRk κ (0, 0)) {r0 : Nat} (h_r0 : zO n r0 11) (M : Mem) : X κ 2 emI n (0, 0) 27 [.ref r0, .null] [] M (f_X11_meet_27 r0 M) := by
  unfold f_X11_meet_27
  refine x_aload_n (i := 0) rfl hC (zdk dk_X11_meet 13 rfl) (q := 28) rfl ?_
  refine x_iconst (i := 5) c_iconst_5 hC (zdk dk_X11_meet 14 rfl) (q := 29) rfl ?_
  refine x_callVi (as := [.int 5]) cb_RX11_105 rfl (by decide) hk0 h_r0 (fun x hx => t_X11_refuse h_r0 x hx) hC (zdk dk_X11_meet 15 rfl) (q := 32) rfl rfl (Nat.le_of_ble_eq_true rfl) (fun z1 => ?_)
  exact x_iret (ty := .int) rfl hE hC (zdk dk_X11_meet 16 rfl)
set_option maxRecDepth 100000 in
def f_X11_meet (r0 : Nat) (M : Mem) : Option (Int32 × Mem) := Option.bind (f_X11_takeTape r0 M) fun z2 => (if zI z2.2 r0 14 = 0 then f_X11_meet_27 r0 z2.2 else Option.bind (zrf z2.2 r0 9) fun q3 => Option.bind (zrf z2.2 r0 0) fun q4 => Option.bind (f_X9_takes q3 q4 z2.1 z2.2) fun z5 => (if z5.1 = 0 then f_X11_meet_27 r0 z5.2 else Option.bind (zrf z5.2 r0 9) fun q6 => some (zI z5.2 q6 5, z5.2)))
set_option maxRecDepth 100000 in
set_option maxHeartbeats 4000000 in
theorem x_X11_meet {κ : KX} {n : Nat} (hC : CX κ cX11_meet RX11 2 (some .int) 1) (hE : zEnd κ n (0, 0)) (hk0 : zRk κ (0, 0)) (r0 : Nat) (M : Mem) (h_r0 : zO n r0 11) : X κ 2 emI n (0, 0) 0 [.ref r0, .null] [] M (f_X11_meet r0 M) := by
  unfold f_X11_meet
  refine x_aload_n (i := 0) rfl hC (zdk dk_X11_meet 0 rfl) (q := 1) rfl ?_
  refine x_callVi (as := []) cb_RX11_112 rfl (by decide) hk0 h_r0 (fun x hx => t_X11_takeTape h_r0 x hx) hC (zdk dk_X11_meet 1 rfl) (q := 4) rfl rfl (Nat.le_of_ble_eq_true rfl) (fun z2 => ?_)
  refine x_istore_n (i := 1) (L' := [.ref r0, .int z2.1]) (by decide) rfl hC (zdk dk_X11_meet 2 rfl) (q := 5) rfl ?_
  refine x_aload_n (i := 0) rfl hC (zdk dk_X11_meet 3 rfl) (q := 6) rfl ?_
  refine x_getI fl_RX11_120 (by decide) h_r0 hC (zdk dk_X11_meet 4 rfl) (q := 9) rfl ?_
  refine x_if_eq (tgt := 27) hC (zdk dk_X11_meet 5 rfl) (q := 12) rfl rfl (fun _ => ?_) (fun _ => ?_)
  · refine x_weak (L' := [.ref r0, .null]) ⟨Or.inr rfl, Or.inl rfl, trivial⟩ ?_
    exact x_X11_meet_27 hC hE hk0 h_r0 _
  · refine x_aload_n (i := 0) rfl hC (zdk dk_X11_meet 6 rfl) (q := 13) rfl ?_
    refine x_getR (k := 9) fl_RX11_68 rfl h_r0 hC (zdk dk_X11_meet 7 rfl) (q := 16) rfl (fun q3 hq3 => ?_)
    refine x_aload_n (i := 0) rfl hC (zdk dk_X11_meet 8 rfl) (q := 17) rfl ?_
    refine x_getR (k := 20) fl_RX11_9 rfl h_r0 hC (zdk dk_X11_meet 9 rfl) (q := 20) rfl (fun q4 hq4 => ?_)
    refine x_iload_n (i := 1) rfl hC (zdk dk_X11_meet 10 rfl) (q := 21) rfl ?_
    refine x_callVi (as := [.ref q4, .int z2.1]) cb_RX11_330 rfl (by decide) hk0 hq3 (fun x hx => t_X9_takes hq3 hq4 x hx) hC (zdk dk_X11_meet 11 rfl) (q := 24) rfl rfl (Nat.le_of_ble_eq_true rfl) (fun z5 => ?_)
    refine x_if_ne (tgt := 33) hC (zdk dk_X11_meet 12 rfl) (q := 27) rfl rfl (fun _ => ?_) (fun _ => ?_)
    · refine x_aload_n (i := 0) rfl hC (zdk dk_X11_meet 17 rfl) (q := 34) rfl ?_
      refine x_getR (k := 9) fl_RX11_68 rfl h_r0 hC (zdk dk_X11_meet 18 rfl) (q := 37) rfl (fun q6 hq6 => ?_)
      refine x_getI fl_RX11_170 (by decide) hq6 hC (zdk dk_X11_meet 19 rfl) (q := 40) rfl ?_
      exact x_iret (ty := .int) rfl hE hC (zdk dk_X11_meet 20 rfl)
    · refine x_weak (L' := [.ref r0, .null]) ⟨Or.inr rfl, Or.inl rfl, trivial⟩ ?_
      exact x_X11_meet_27 hC hE hk0 h_r0 _
set_option maxRecDepth 100000 in
set_option maxHeartbeats 4000000 in
theorem t_X11_meet {n : Nat} {r0 : Nat} {M : Mem} (h_r0 : zO n r0 11) (x : (Int32 × Mem)) (hx : f_X11_meet r0 M = some x) (l : Launch) (dC : Nat → ClassId) (dI : Nat → Nat → Nat) (b : zSg) : MT l dC dI b yX11_meet cX11_meet 2 (some .int) 1 0 0 n n [.ref r0] M (emI x).1 (emI x).2 :=
  MT.ofX (by decide +kernel) rfl (Nat.le_of_ble_eq_true rfl) (fun κ hC hF _ => x_X11_meet hC (zEnd_of hF (Nat.le_refl _) (Nat.le_refl _)) (zRk_of hF (Nat.le_refl _) (Nat.le_refl _)) _ _ h_r0) x hx
set_option maxRecDepth 100000 in
def dt_X11_shifts : List (Nat × Instr × Nat) := [(0, .aload_n 0, 1), (1, .iload_n 1, 1), (2, .invokevirtual 242, 3), (5, .ifCond .eq 8, 3), (8, .iload_n 2, 1), (9, .iconst (-1), 1), (10, .if_icmp .ge 7, 3), (13, .sipush (-1000), 3), (16, .ireturn, 1), (17, .aload_n 0, 1), (18, .getfield 68, 3), (21, .aload_n 0, 1), (22, .getfield 42, 3), (25, .getfield 224, 3), (28, .iload_n 1, 1), (29, .aaload, 1), (30, .aload_n 0, 1), (31, .getfield 82, 3), (34, .getfield 141, 3), (37, .getfield 153, 3), (40, .invokevirtual 334, 3), (43, .iload_n 2, 1), (44, .iconst (-1), 1), (45, .if_icmp .ne 11, 3), (48, .aload_n 0, 1), (49, .getfield 68, 3), (52, .getfield 338, 3), (55, .ireturn, 1), (56, .iload_n 2, 1), (57, .aload_n 0, 1), (58, .getfield 68, 3), (61, .getfield 338, 3), (64, .if_icmp .ge 15, 3), (67, .aload_n 0, 1), (68, .getfield 68, 3), (71, .getfield 341, 3), (74, .iload_n 2, 1), (75, .iaload, 1), (76, .goto 6, 3), (79, .sipush (-1000), 3), (82, .ireturn, 1)]
set_option maxRecDepth 100000 in
theorem dk_X11_shifts : dt_X11_shifts.all (fun q => decide (decode cX11_shifts q.1 = .ok q.2)) = true := by decide +kernel
set_option maxRecDepth 100000 in
def f_X11_shifts_13  (r0 : Nat) (x1 : Int32) (x2 : Int32)  (M : Mem) : Option (Int32 × Mem) := some ((-1000), M)
set_option maxRecDepth 100000 in
set_option maxHeartbeats 4000000 in
theorem x_X11_shifts_13 {κ : KX} {n : Nat} (hC : CX κ cX11_shifts RX11 3 (some .int) 3) (hE : zEnd κ n (0, 0)) (hk0 : zRk κ (0, 0)) {r0 : Nat} {x1 : Int32} {x2 : Int32} (h_r0 : zO n r0 11) (M : Mem) : X κ 3 emI n (0, 0) 13 [.null, .null, .null] [] M (f_X11_shifts_13 r0 x1 x2 M) := by
  unfold f_X11_shifts_13
  refine x_sipush (i := (-1000)) c_sipush_m1000 hC (zdk dk_X11_shifts 7 rfl) (q := 16) rfl ?_
  exact x_iret (ty := .int) rfl hE hC (zdk dk_X11_shifts 8 rfl)
set_option maxRecDepth 100000 in
def f_X11_shifts_82  (r0 : Nat) (x1 : Int32) (x2 : Int32) (s0 : Int32) (M : Mem) : Option (Int32 × Mem) := some (s0, M)
set_option maxRecDepth 100000 in
set_option maxHeartbeats 4000000 in
theorem x_X11_shifts_82 {κ : KX} {n : Nat} (hC : CX κ cX11_shifts RX11 3 (some .int) 3) (hE : zEnd κ n (0, 0)) (hk0 : zRk κ (0, 0)) {r0 : Nat} {x1 : Int32} {x2 : Int32} (h_r0 : zO n r0 11) (s0 : Int32) (M : Mem) : X κ 3 emI n (0, 0) 82 [.null, .null, .null] [.int s0] M (f_X11_shifts_82 r0 x1 x2 s0 M) := by
  unfold f_X11_shifts_82
  exact x_iret (ty := .int) rfl hE hC (zdk dk_X11_shifts 40 rfl)
set_option maxRecDepth 100000 in
def f_X11_shifts (r0 : Nat) (x1 : Int32) (x2 : Int32) (M : Mem) : Option (Int32 × Mem) := Option.bind (f_X11_isWritten r0 x1 M) fun z1 => (if z1.1 = 0 then f_X11_shifts_13 r0 x1 x2 z1.2 else (if (-1) ≤ x2 then Option.bind (zrf z1.2 r0 9) fun q2 => Option.bind (zrf z1.2 r0 5) fun q3 => Option.bind (zrf z1.2 q3 0) fun q4 => Option.bind (zld q4 x1) fun k5 => Option.bind (zrf z1.2 q4 k5) fun q6 => Option.bind (zrf z1.2 r0 11) fun q7 => Option.bind (zrf z1.2 q7 0) fun q8 => Option.bind (f_X9_find q2 q6 (zI z1.2 q8 10) z1.2) fun M9 => (if x2 = (-1) then Option.bind (zrf M9 r0 9) fun q14 => some (zI M9 q14 6, M9) else Option.bind (zrf M9 r0 9) fun q10 => (if zI M9 q10 6 ≤ x2 then f_X11_shifts_82 r0 x1 x2 ((-1000)) M9 else Option.bind (zrf M9 r0 9) fun q11 => Option.bind (zrf M9 q11 2) fun q12 => Option.bind (zld q12 x2) fun k13 => f_X11_shifts_82 r0 x1 x2 (zI M9 q12 k13) M9)) else f_X11_shifts_13 r0 x1 x2 z1.2))
set_option maxRecDepth 100000 in
set_option maxHeartbeats 4000000 in
theorem x_X11_shifts {κ : KX} {n : Nat} (hC : CX κ cX11_shifts RX11 3 (some .int) 3) (hE : zEnd κ n (0, 0)) (hk0 : zRk κ (0, 0)) (r0 : Nat) (x1 : Int32) (x2 : Int32) (M : Mem) (h_r0 : zO n r0 11) : X κ 3 emI n (0, 0) 0 [.ref r0, .int x1, .int x2] [] M (f_X11_shifts r0 x1 x2 M) := by
  unfold f_X11_shifts
  refine x_aload_n (i := 0) rfl hC (zdk dk_X11_shifts 0 rfl) (q := 1) rfl ?_
  refine x_iload_n (i := 1) rfl hC (zdk dk_X11_shifts 1 rfl) (q := 2) rfl ?_
  refine x_callVi (as := [.int x1]) cb_RX11_242 rfl (by decide) hk0 h_r0 (fun x hx => t_X11_isWritten h_r0 x hx) hC (zdk dk_X11_shifts 2 rfl) (q := 5) rfl rfl (Nat.le_of_ble_eq_true rfl) (fun z1 => ?_)
  refine x_if_eq (tgt := 13) hC (zdk dk_X11_shifts 3 rfl) (q := 8) rfl rfl (fun _ => ?_) (fun _ => ?_)
  · refine x_weak (L' := [.null, .null, .null]) ⟨Or.inl rfl, Or.inl rfl, Or.inl rfl, trivial⟩ ?_
    exact x_X11_shifts_13 hC hE hk0 h_r0 _
  · refine x_iload_n (i := 2) rfl hC (zdk dk_X11_shifts 4 rfl) (q := 9) rfl ?_
    refine x_iconst (i := (-1)) c_iconst_m1 hC (zdk dk_X11_shifts 5 rfl) (q := 10) rfl ?_
    refine x_icmp_ge (tgt := 17) hC (zdk dk_X11_shifts 6 rfl) (q := 13) rfl rfl (fun _ => ?_) (fun _ => ?_)
    · refine x_aload_n (i := 0) rfl hC (zdk dk_X11_shifts 9 rfl) (q := 18) rfl ?_
      refine x_getR (k := 9) fl_RX11_68 rfl h_r0 hC (zdk dk_X11_shifts 10 rfl) (q := 21) rfl (fun q2 hq2 => ?_)
      refine x_aload_n (i := 0) rfl hC (zdk dk_X11_shifts 11 rfl) (q := 22) rfl ?_
      refine x_getR (k := 5) fl_RX11_42 rfl h_r0 hC (zdk dk_X11_shifts 12 rfl) (q := 25) rfl (fun q3 hq3 => ?_)
      refine x_getR (k := 23) fl_RX11_224 rfl hq3 hC (zdk dk_X11_shifts 13 rfl) (q := 28) rfl (fun q4 hq4 => ?_)
      refine x_iload_n (i := 1) rfl hC (zdk dk_X11_shifts 14 rfl) (q := 29) rfl ?_
      refine x_aald (kd := 23) (ke := 8) hq4 (by decide) rfl hC (zdk dk_X11_shifts 15 rfl) (q := 30) rfl (fun k5 _ q6 hq6 => ?_)
      refine x_aload_n (i := 0) rfl hC (zdk dk_X11_shifts 16 rfl) (q := 31) rfl ?_
      refine x_getR (k := 0) fl_RX11_82 rfl h_r0 hC (zdk dk_X11_shifts 17 rfl) (q := 34) rfl (fun q7 hq7 => ?_)
      refine x_getR (k := 1) fl_RX11_141 rfl hq7 hC (zdk dk_X11_shifts 18 rfl) (q := 37) rfl (fun q8 hq8 => ?_)
      refine x_getI fl_RX11_153 (by decide) hq8 hC (zdk dk_X11_shifts 19 rfl) (q := 40) rfl ?_
      refine x_callVv (as := [.ref q6, .int (zI z1.2 q8 10)]) cb_RX11_334 rfl (by decide) hk0 hq2 (fun x hx => t_X9_find hq2 hq6 x hx) hC (zdk dk_X11_shifts 20 rfl) (q := 43) rfl rfl (Nat.le_of_ble_eq_true rfl) (fun M9 => ?_)
      refine x_iload_n (i := 2) rfl hC (zdk dk_X11_shifts 21 rfl) (q := 44) rfl ?_
      refine x_iconst (i := (-1)) c_iconst_m1 hC (zdk dk_X11_shifts 22 rfl) (q := 45) rfl ?_
      refine x_icmp_ne (tgt := 56) hC (zdk dk_X11_shifts 23 rfl) (q := 48) rfl rfl (fun _ => ?_) (fun _ => ?_)
      · refine x_iload_n (i := 2) rfl hC (zdk dk_X11_shifts 28 rfl) (q := 57) rfl ?_
        refine x_aload_n (i := 0) rfl hC (zdk dk_X11_shifts 29 rfl) (q := 58) rfl ?_
        refine x_getR (k := 9) fl_RX11_68 rfl h_r0 hC (zdk dk_X11_shifts 30 rfl) (q := 61) rfl (fun q10 hq10 => ?_)
        refine x_getI fl_RX11_338 (by decide) hq10 hC (zdk dk_X11_shifts 31 rfl) (q := 64) rfl ?_
        refine x_icmp_ge (tgt := 79) hC (zdk dk_X11_shifts 32 rfl) (q := 67) rfl rfl (fun _ => ?_) (fun _ => ?_)
        · refine x_sipush (i := (-1000)) c_sipush_m1000 hC (zdk dk_X11_shifts 39 rfl) (q := 82) rfl ?_
          refine x_weak (L' := [.null, .null, .null]) ⟨Or.inl rfl, Or.inl rfl, Or.inl rfl, trivial⟩ ?_
          exact x_X11_shifts_82 hC hE hk0 h_r0 _ _
        · refine x_aload_n (i := 0) rfl hC (zdk dk_X11_shifts 33 rfl) (q := 68) rfl ?_
          refine x_getR (k := 9) fl_RX11_68 rfl h_r0 hC (zdk dk_X11_shifts 34 rfl) (q := 71) rfl (fun q11 hq11 => ?_)
          refine x_getR (k := 20) fl_RX11_341 rfl hq11 hC (zdk dk_X11_shifts 35 rfl) (q := 74) rfl (fun q12 hq12 => ?_)
          refine x_iload_n (i := 2) rfl hC (zdk dk_X11_shifts 36 rfl) (q := 75) rfl ?_
          refine x_iald hq12 hC (zdk dk_X11_shifts 37 rfl) (q := 76) rfl (fun k13 _ => ?_)
          refine x_goto (tgt := 82) hC (zdk dk_X11_shifts 38 rfl) rfl ?_
          refine x_weak (L' := [.null, .null, .null]) ⟨Or.inl rfl, Or.inl rfl, Or.inl rfl, trivial⟩ ?_
          exact x_X11_shifts_82 hC hE hk0 h_r0 _ _
      · refine x_aload_n (i := 0) rfl hC (zdk dk_X11_shifts 24 rfl) (q := 49) rfl ?_
        refine x_getR (k := 9) fl_RX11_68 rfl h_r0 hC (zdk dk_X11_shifts 25 rfl) (q := 52) rfl (fun q14 hq14 => ?_)
        refine x_getI fl_RX11_338 (by decide) hq14 hC (zdk dk_X11_shifts 26 rfl) (q := 55) rfl ?_
        exact x_iret (ty := .int) rfl hE hC (zdk dk_X11_shifts 27 rfl)
    · refine x_weak (L' := [.null, .null, .null]) ⟨Or.inl rfl, Or.inl rfl, Or.inl rfl, trivial⟩ ?_
      exact x_X11_shifts_13 hC hE hk0 h_r0 _
set_option maxRecDepth 100000 in
set_option maxHeartbeats 4000000 in
theorem t_X11_shifts {n : Nat} {r0 : Nat} {x1 : Int32} {x2 : Int32} {M : Mem} (h_r0 : zO n r0 11) (x : (Int32 × Mem)) (hx : f_X11_shifts r0 x1 x2 M = some x) (l : Launch) (dC : Nat → ClassId) (dI : Nat → Nat → Nat) (b : zSg) : MT l dC dI b yX11_shifts cX11_shifts 3 (some .int) 3 0 0 n n [.ref r0, .int x1, .int x2] M (emI x).1 (emI x).2 :=
  MT.ofX (by decide +kernel) rfl (Nat.le_of_ble_eq_true rfl) (fun κ hC hF _ => x_X11_shifts hC (zEnd_of hF (Nat.le_refl _) (Nat.le_refl _)) (zRk_of hF (Nat.le_refl _) (Nat.le_refl _)) _ _ _ _ h_r0) x hx
set_option maxRecDepth 100000 in
def dt_X11_tells : List (Nat × Instr × Nat) := [(0, .aload_n 0, 1), (1, .iload_n 1, 1), (2, .invokevirtual 242, 3), (5, .ifCond .eq 12, 3), (8, .iload_n 2, 1), (9, .ifCond .lt 8, 3), (12, .iload_n 2, 1), (13, .iconst 1, 1), (14, .if_icmp .le 5, 3), (17, .iconst (-1), 1), (18, .ireturn, 1), (19, .aload_n 0, 1), (20, .getfield 68, 3), (23, .aload_n 0, 1), (24, .getfield 42, 3), (27, .getfield 224, 3), (30, .iload_n 1, 1), (31, .aaload, 1), (32, .aload_n 0, 1), (33, .getfield 82, 3), (36, .getfield 141, 3), (39, .getfield 153, 3), (42, .invokevirtual 334, 3), (45, .aload_n 0, 1), (46, .getfield 68, 3), (49, .getfield 338, 3), (52, .ifCond .ne 5, 3), (55, .iconst (-1), 1), (56, .ireturn, 1), (57, .aload_n 0, 1), (58, .getfield 68, 3), (61, .invokevirtual 344, 3), (64, .iload_n 2, 1), (65, .ifCond .ne 13, 3), (68, .aload_n 0, 1), (69, .getfield 68, 3), (72, .getfield 347, 3), (75, .goto 10, 3), (78, .aload_n 0, 1), (79, .getfield 68, 3), (82, .getfield 350, 3), (85, .ireturn, 1)]
set_option maxRecDepth 100000 in
theorem dk_X11_tells : dt_X11_tells.all (fun q => decide (decode cX11_tells q.1 = .ok q.2)) = true := by decide +kernel
set_option maxRecDepth 100000 in
def f_X11_tells_17  (r0 : Nat) (x1 : Int32) (x2 : Int32)  (M : Mem) : Option (Int32 × Mem) := some ((-1), M)
set_option maxRecDepth 100000 in
set_option maxHeartbeats 4000000 in
theorem x_X11_tells_17 {κ : KX} {n : Nat} (hC : CX κ cX11_tells RX11 3 (some .int) 3) (hE : zEnd κ n (0, 0)) (hk0 : zRk κ (0, 0)) {r0 : Nat} {x1 : Int32} {x2 : Int32} (h_r0 : zO n r0 11) (M : Mem) : X κ 3 emI n (0, 0) 17 [.null, .null, .null] [] M (f_X11_tells_17 r0 x1 x2 M) := by
  unfold f_X11_tells_17
  refine x_iconst (i := (-1)) c_iconst_m1 hC (zdk dk_X11_tells 9 rfl) (q := 18) rfl ?_
  exact x_iret (ty := .int) rfl hE hC (zdk dk_X11_tells 10 rfl)
set_option maxRecDepth 100000 in
def f_X11_tells_85  (r0 : Nat) (x1 : Int32) (x2 : Int32) (s0 : Int32) (M : Mem) : Option (Int32 × Mem) := some (s0, M)
set_option maxRecDepth 100000 in
set_option maxHeartbeats 4000000 in
theorem x_X11_tells_85 {κ : KX} {n : Nat} (hC : CX κ cX11_tells RX11 3 (some .int) 3) (hE : zEnd κ n (0, 0)) (hk0 : zRk κ (0, 0)) {r0 : Nat} {x1 : Int32} {x2 : Int32} (h_r0 : zO n r0 11) (s0 : Int32) (M : Mem) : X κ 3 emI n (0, 0) 85 [.null, .null, .null] [.int s0] M (f_X11_tells_85 r0 x1 x2 s0 M) := by
  unfold f_X11_tells_85
  exact x_iret (ty := .int) rfl hE hC (zdk dk_X11_tells 41 rfl)
set_option maxRecDepth 100000 in
def f_X11_tells (r0 : Nat) (x1 : Int32) (x2 : Int32) (M : Mem) : Option (Int32 × Mem) := Option.bind (f_X11_isWritten r0 x1 M) fun z1 => (if z1.1 = 0 then f_X11_tells_17 r0 x1 x2 z1.2 else (if x2 < 0 then f_X11_tells_17 r0 x1 x2 z1.2 else (if x2 ≤ 1 then Option.bind (zrf z1.2 r0 9) fun q2 => Option.bind (zrf z1.2 r0 5) fun q3 => Option.bind (zrf z1.2 q3 0) fun q4 => Option.bind (zld q4 x1) fun k5 => Option.bind (zrf z1.2 q4 k5) fun q6 => Option.bind (zrf z1.2 r0 11) fun q7 => Option.bind (zrf z1.2 q7 0) fun q8 => Option.bind (f_X9_find q2 q6 (zI z1.2 q8 10) z1.2) fun M9 => Option.bind (zrf M9 r0 9) fun q10 => (if zI M9 q10 6 = 0 then some ((-1), M9) else Option.bind (zrf M9 r0 9) fun q11 => Option.bind (f_X9_findTelling q11 M9) fun M12 => (if x2 = 0 then Option.bind (zrf M12 r0 9) fun q14 => f_X11_tells_85 r0 x1 x2 (zI M12 q14 7) M12 else Option.bind (zrf M12 r0 9) fun q13 => f_X11_tells_85 r0 x1 x2 (zI M12 q13 8) M12)) else f_X11_tells_17 r0 x1 x2 z1.2)))
set_option maxRecDepth 100000 in
set_option maxHeartbeats 4000000 in
theorem x_X11_tells {κ : KX} {n : Nat} (hC : CX κ cX11_tells RX11 3 (some .int) 3) (hE : zEnd κ n (0, 0)) (hk0 : zRk κ (0, 0)) (r0 : Nat) (x1 : Int32) (x2 : Int32) (M : Mem) (h_r0 : zO n r0 11) : X κ 3 emI n (0, 0) 0 [.ref r0, .int x1, .int x2] [] M (f_X11_tells r0 x1 x2 M) := by
  unfold f_X11_tells
  refine x_aload_n (i := 0) rfl hC (zdk dk_X11_tells 0 rfl) (q := 1) rfl ?_
  refine x_iload_n (i := 1) rfl hC (zdk dk_X11_tells 1 rfl) (q := 2) rfl ?_
  refine x_callVi (as := [.int x1]) cb_RX11_242 rfl (by decide) hk0 h_r0 (fun x hx => t_X11_isWritten h_r0 x hx) hC (zdk dk_X11_tells 2 rfl) (q := 5) rfl rfl (Nat.le_of_ble_eq_true rfl) (fun z1 => ?_)
  refine x_if_eq (tgt := 17) hC (zdk dk_X11_tells 3 rfl) (q := 8) rfl rfl (fun _ => ?_) (fun _ => ?_)
  · refine x_weak (L' := [.null, .null, .null]) ⟨Or.inl rfl, Or.inl rfl, Or.inl rfl, trivial⟩ ?_
    exact x_X11_tells_17 hC hE hk0 h_r0 _
  · refine x_iload_n (i := 2) rfl hC (zdk dk_X11_tells 4 rfl) (q := 9) rfl ?_
    refine x_if_lt (tgt := 17) hC (zdk dk_X11_tells 5 rfl) (q := 12) rfl rfl (fun _ => ?_) (fun _ => ?_)
    · refine x_weak (L' := [.null, .null, .null]) ⟨Or.inl rfl, Or.inl rfl, Or.inl rfl, trivial⟩ ?_
      exact x_X11_tells_17 hC hE hk0 h_r0 _
    · refine x_iload_n (i := 2) rfl hC (zdk dk_X11_tells 6 rfl) (q := 13) rfl ?_
      refine x_iconst (i := 1) c_iconst_1 hC (zdk dk_X11_tells 7 rfl) (q := 14) rfl ?_
      refine x_icmp_le (tgt := 19) hC (zdk dk_X11_tells 8 rfl) (q := 17) rfl rfl (fun _ => ?_) (fun _ => ?_)
      · refine x_aload_n (i := 0) rfl hC (zdk dk_X11_tells 11 rfl) (q := 20) rfl ?_
        refine x_getR (k := 9) fl_RX11_68 rfl h_r0 hC (zdk dk_X11_tells 12 rfl) (q := 23) rfl (fun q2 hq2 => ?_)
        refine x_aload_n (i := 0) rfl hC (zdk dk_X11_tells 13 rfl) (q := 24) rfl ?_
        refine x_getR (k := 5) fl_RX11_42 rfl h_r0 hC (zdk dk_X11_tells 14 rfl) (q := 27) rfl (fun q3 hq3 => ?_)
        refine x_getR (k := 23) fl_RX11_224 rfl hq3 hC (zdk dk_X11_tells 15 rfl) (q := 30) rfl (fun q4 hq4 => ?_)
        refine x_iload_n (i := 1) rfl hC (zdk dk_X11_tells 16 rfl) (q := 31) rfl ?_
        refine x_aald (kd := 23) (ke := 8) hq4 (by decide) rfl hC (zdk dk_X11_tells 17 rfl) (q := 32) rfl (fun k5 _ q6 hq6 => ?_)
        refine x_aload_n (i := 0) rfl hC (zdk dk_X11_tells 18 rfl) (q := 33) rfl ?_
        refine x_getR (k := 0) fl_RX11_82 rfl h_r0 hC (zdk dk_X11_tells 19 rfl) (q := 36) rfl (fun q7 hq7 => ?_)
        refine x_getR (k := 1) fl_RX11_141 rfl hq7 hC (zdk dk_X11_tells 20 rfl) (q := 39) rfl (fun q8 hq8 => ?_)
        refine x_getI fl_RX11_153 (by decide) hq8 hC (zdk dk_X11_tells 21 rfl) (q := 42) rfl ?_
        refine x_callVv (as := [.ref q6, .int (zI z1.2 q8 10)]) cb_RX11_334 rfl (by decide) hk0 hq2 (fun x hx => t_X9_find hq2 hq6 x hx) hC (zdk dk_X11_tells 22 rfl) (q := 45) rfl rfl (Nat.le_of_ble_eq_true rfl) (fun M9 => ?_)
        refine x_aload_n (i := 0) rfl hC (zdk dk_X11_tells 23 rfl) (q := 46) rfl ?_
        refine x_getR (k := 9) fl_RX11_68 rfl h_r0 hC (zdk dk_X11_tells 24 rfl) (q := 49) rfl (fun q10 hq10 => ?_)
        refine x_getI fl_RX11_338 (by decide) hq10 hC (zdk dk_X11_tells 25 rfl) (q := 52) rfl ?_
        refine x_if_ne (tgt := 57) hC (zdk dk_X11_tells 26 rfl) (q := 55) rfl rfl (fun _ => ?_) (fun _ => ?_)
        · refine x_aload_n (i := 0) rfl hC (zdk dk_X11_tells 29 rfl) (q := 58) rfl ?_
          refine x_getR (k := 9) fl_RX11_68 rfl h_r0 hC (zdk dk_X11_tells 30 rfl) (q := 61) rfl (fun q11 hq11 => ?_)
          refine x_callVv (as := []) cb_RX11_344 rfl (by decide) hk0 hq11 (fun x hx => t_X9_findTelling hq11 x hx) hC (zdk dk_X11_tells 31 rfl) (q := 64) rfl rfl (Nat.le_of_ble_eq_true rfl) (fun M12 => ?_)
          refine x_iload_n (i := 2) rfl hC (zdk dk_X11_tells 32 rfl) (q := 65) rfl ?_
          refine x_if_ne (tgt := 78) hC (zdk dk_X11_tells 33 rfl) (q := 68) rfl rfl (fun _ => ?_) (fun _ => ?_)
          · refine x_aload_n (i := 0) rfl hC (zdk dk_X11_tells 38 rfl) (q := 79) rfl ?_
            refine x_getR (k := 9) fl_RX11_68 rfl h_r0 hC (zdk dk_X11_tells 39 rfl) (q := 82) rfl (fun q13 hq13 => ?_)
            refine x_getI fl_RX11_350 (by decide) hq13 hC (zdk dk_X11_tells 40 rfl) (q := 85) rfl ?_
            refine x_weak (L' := [.null, .null, .null]) ⟨Or.inl rfl, Or.inl rfl, Or.inl rfl, trivial⟩ ?_
            exact x_X11_tells_85 hC hE hk0 h_r0 _ _
          · refine x_aload_n (i := 0) rfl hC (zdk dk_X11_tells 34 rfl) (q := 69) rfl ?_
            refine x_getR (k := 9) fl_RX11_68 rfl h_r0 hC (zdk dk_X11_tells 35 rfl) (q := 72) rfl (fun q14 hq14 => ?_)
            refine x_getI fl_RX11_347 (by decide) hq14 hC (zdk dk_X11_tells 36 rfl) (q := 75) rfl ?_
            refine x_goto (tgt := 85) hC (zdk dk_X11_tells 37 rfl) rfl ?_
            refine x_weak (L' := [.null, .null, .null]) ⟨Or.inl rfl, Or.inl rfl, Or.inl rfl, trivial⟩ ?_
            exact x_X11_tells_85 hC hE hk0 h_r0 _ _
        · refine x_iconst (i := (-1)) c_iconst_m1 hC (zdk dk_X11_tells 27 rfl) (q := 56) rfl ?_
          exact x_iret (ty := .int) rfl hE hC (zdk dk_X11_tells 28 rfl)
      · refine x_weak (L' := [.null, .null, .null]) ⟨Or.inl rfl, Or.inl rfl, Or.inl rfl, trivial⟩ ?_
        exact x_X11_tells_17 hC hE hk0 h_r0 _
set_option maxRecDepth 100000 in
set_option maxHeartbeats 4000000 in
theorem t_X11_tells {n : Nat} {r0 : Nat} {x1 : Int32} {x2 : Int32} {M : Mem} (h_r0 : zO n r0 11) (x : (Int32 × Mem)) (hx : f_X11_tells r0 x1 x2 M = some x) (l : Launch) (dC : Nat → ClassId) (dI : Nat → Nat → Nat) (b : zSg) : MT l dC dI b yX11_tells cX11_tells 3 (some .int) 3 0 0 n n [.ref r0, .int x1, .int x2] M (emI x).1 (emI x).2 :=
  MT.ofX (by decide +kernel) rfl (Nat.le_of_ble_eq_true rfl) (fun κ hC hF _ => x_X11_tells hC (zEnd_of hF (Nat.le_refl _) (Nat.le_refl _)) (zRk_of hF (Nat.le_refl _) (Nat.le_refl _)) _ _ _ _ h_r0) x hx
set_option maxRecDepth 100000 in
def dt_X11_write : List (Nat × Instr × Nat) := [(0, .aload_n 0, 1), (1, .iload_n 1, 1), (2, .invokevirtual 176, 3), (5, .ifCond .eq 12, 3), (8, .aload_n 0, 1), (9, .iload_n 2, 1), (10, .iload_n 3, 1), (11, .invokevirtual 200, 3), (14, .ifCond .ne 11, 3), (17, .aload_n 0, 1), (18, .iconst 3, 1), (19, .invokevirtual 105, 3), (22, .pop, 1), (23, .iconst 0, 1), (24, .ireturn, 1), (25, .aload_n 0, 1), (26, .getfield 61, 3), (29, .aload_n 0, 1), (30, .getfield 42, 3), (33, .invokevirtual 353, 3), (36, .aload_n 0, 1), (37, .getfield 42, 3), (40, .getfield 224, 3), (43, .iload_n 1, 1), (44, .aaload, 1), (45, .aload_n 0, 1), (46, .getfield 82, 3), (49, .aload_n 0, 1), (50, .getfield 82, 3), (53, .getfield 141, 3), (56, .iload_n 2, 1), (57, .iload_n 3, 1), (58, .invokestatic 204, 3), (61, .invokevirtual 208, 3), (64, .invokevirtual 357, 3), (67, .aload_n 0, 1), (68, .getfield 61, 3), (71, .aload_n 0, 1), (72, .getfield 42, 3), (75, .getfield 164, 3), (78, .iload_n 1, 1), (79, .iconst 0, 1), (80, .invokevirtual 361, 3), (83, .iconst 1, 1), (84, .ireturn, 1)]
set_option maxRecDepth 100000 in
theorem dk_X11_write : dt_X11_write.all (fun q => decide (decode cX11_write q.1 = .ok q.2)) = true := by decide +kernel
set_option maxRecDepth 100000 in
def f_X11_write_17  (r0 : Nat) (x1 : Int32) (x2 : Int32) (x3 : Int32)  (M : Mem) : Option (Int32 × Mem) := Option.bind (f_X11_refuse r0 3 M) fun z1 => some (0, z1.2)
set_option maxRecDepth 100000 in
set_option maxHeartbeats 4000000 in
theorem x_X11_write_17 {κ : KX} {n : Nat} (hC : CX κ cX11_write RX11 4 (some .boolean) 4) (hE : zEnd κ n (0, 0)) (hk0 : zRk κ (0, 0)) {r0 : Nat} {x1 : Int32} {x2 : Int32} {x3 : Int32} (h_r0 : zO n r0 11) (M : Mem) : X κ 4 emI n (0, 0) 17 [.ref r0, .null, .null, .null] [] M (f_X11_write_17 r0 x1 x2 x3 M) := by
  unfold f_X11_write_17
  refine x_aload_n (i := 0) rfl hC (zdk dk_X11_write 9 rfl) (q := 18) rfl ?_
  refine x_iconst (i := 3) c_iconst_3 hC (zdk dk_X11_write 10 rfl) (q := 19) rfl ?_
  refine x_callVi (as := [.int 3]) cb_RX11_105 rfl (by decide) hk0 h_r0 (fun x hx => t_X11_refuse h_r0 x hx) hC (zdk dk_X11_write 11 rfl) (q := 22) rfl rfl (Nat.le_of_ble_eq_true rfl) (fun z1 => ?_)
  refine x_pop rfl hC (zdk dk_X11_write 12 rfl) (q := 23) rfl ?_
  refine x_iconst (i := 0) c_iconst_0 hC (zdk dk_X11_write 13 rfl) (q := 24) rfl ?_
  exact x_iret (ty := .boolean) rfl hE hC (zdk dk_X11_write 14 rfl)
set_option maxRecDepth 100000 in
def f_X11_write (r0 : Nat) (x1 : Int32) (x2 : Int32) (x3 : Int32) (M : Mem) : Option (Int32 × Mem) := Option.bind (f_X11_isPage r0 x1 M) fun z2 => (if z2.1 = 0 then f_X11_write_17 r0 x1 x2 x3 z2.2 else Option.bind (f_X11_isData r0 x2 x3 z2.2) fun z3 => (if z3.1 = 0 then f_X11_write_17 r0 x1 x2 x3 z3.2 else Option.bind (zrf z3.2 r0 8) fun q4 => Option.bind (zrf z3.2 r0 5) fun q5 => Option.bind (f_X7_save q4 q5 z3.2) fun M6 => Option.bind (zrf M6 r0 5) fun q7 => Option.bind (zrf M6 q7 0) fun q8 => Option.bind (zld q8 x1) fun k9 => Option.bind (zrf M6 q8 k9) fun q10 => Option.bind (zrf M6 r0 11) fun q11 => Option.bind (zrf M6 r0 11) fun q12 => Option.bind (zrf M6 q12 0) fun q13 => Option.bind (f_X11_dataOf x2 x3 M6) fun z14 => Option.bind (f_X1_encode q13 z14.1 z14.2) fun z15 => Option.bind (f_X8_fill q10 q11 z15.1 z15.2) fun M16 => Option.bind (zrf M16 r0 8) fun q17 => Option.bind (zrf M16 r0 5) fun q18 => Option.bind (f_X7_add q17 (zI M16 q18 1) x1 0 M16) fun M19 => some (1, M19)))
set_option maxRecDepth 100000 in
set_option maxHeartbeats 4000000 in
theorem x_X11_write {κ : KX} {n : Nat} (hC : CX κ cX11_write RX11 4 (some .boolean) 4) (hE : zEnd κ n (0, 0)) (hk0 : zRk κ (0, 0)) (r0 : Nat) (x1 : Int32) (x2 : Int32) (x3 : Int32) (M : Mem) (h_r0 : zO n r0 11) : X κ 4 emI n (0, 0) 0 [.ref r0, .int x1, .int x2, .int x3] [] M (f_X11_write r0 x1 x2 x3 M) := by
  unfold f_X11_write
  refine x_aload_n (i := 0) rfl hC (zdk dk_X11_write 0 rfl) (q := 1) rfl ?_
  refine x_iload_n (i := 1) rfl hC (zdk dk_X11_write 1 rfl) (q := 2) rfl ?_
  refine x_callVi (as := [.int x1]) cb_RX11_176 rfl (by decide) hk0 h_r0 (fun x hx => t_X11_isPage h_r0 x hx) hC (zdk dk_X11_write 2 rfl) (q := 5) rfl rfl (Nat.le_of_ble_eq_true rfl) (fun z2 => ?_)
  refine x_if_eq (tgt := 17) hC (zdk dk_X11_write 3 rfl) (q := 8) rfl rfl (fun _ => ?_) (fun _ => ?_)
  · refine x_weak (L' := [.ref r0, .null, .null, .null]) ⟨Or.inr rfl, Or.inl rfl, Or.inl rfl, Or.inl rfl, trivial⟩ ?_
    exact x_X11_write_17 hC hE hk0 h_r0 _
  · refine x_aload_n (i := 0) rfl hC (zdk dk_X11_write 4 rfl) (q := 9) rfl ?_
    refine x_iload_n (i := 2) rfl hC (zdk dk_X11_write 5 rfl) (q := 10) rfl ?_
    refine x_iload_n (i := 3) rfl hC (zdk dk_X11_write 6 rfl) (q := 11) rfl ?_
    refine x_callVi (as := [.int x2, .int x3]) cb_RX11_200 rfl (by decide) hk0 h_r0 (fun x hx => t_X11_isData h_r0 x hx) hC (zdk dk_X11_write 7 rfl) (q := 14) rfl rfl (Nat.le_of_ble_eq_true rfl) (fun z3 => ?_)
    refine x_if_ne (tgt := 25) hC (zdk dk_X11_write 8 rfl) (q := 17) rfl rfl (fun _ => ?_) (fun _ => ?_)
    · refine x_aload_n (i := 0) rfl hC (zdk dk_X11_write 15 rfl) (q := 26) rfl ?_
      refine x_getR (k := 7) fl_RX11_61 rfl h_r0 hC (zdk dk_X11_write 16 rfl) (q := 29) rfl (fun q4 hq4 => ?_)
      refine x_aload_n (i := 0) rfl hC (zdk dk_X11_write 17 rfl) (q := 30) rfl ?_
      refine x_getR (k := 5) fl_RX11_42 rfl h_r0 hC (zdk dk_X11_write 18 rfl) (q := 33) rfl (fun q5 hq5 => ?_)
      refine x_callVv (as := [.ref q5]) cb_RX11_353 rfl (by decide) hk0 hq4 (fun x hx => t_X7_save hq4 hq5 x hx) hC (zdk dk_X11_write 19 rfl) (q := 36) rfl rfl (Nat.le_of_ble_eq_true rfl) (fun M6 => ?_)
      refine x_aload_n (i := 0) rfl hC (zdk dk_X11_write 20 rfl) (q := 37) rfl ?_
      refine x_getR (k := 5) fl_RX11_42 rfl h_r0 hC (zdk dk_X11_write 21 rfl) (q := 40) rfl (fun q7 hq7 => ?_)
      refine x_getR (k := 23) fl_RX11_224 rfl hq7 hC (zdk dk_X11_write 22 rfl) (q := 43) rfl (fun q8 hq8 => ?_)
      refine x_iload_n (i := 1) rfl hC (zdk dk_X11_write 23 rfl) (q := 44) rfl ?_
      refine x_aald (kd := 23) (ke := 8) hq8 (by decide) rfl hC (zdk dk_X11_write 24 rfl) (q := 45) rfl (fun k9 _ q10 hq10 => ?_)
      refine x_aload_n (i := 0) rfl hC (zdk dk_X11_write 25 rfl) (q := 46) rfl ?_
      refine x_getR (k := 0) fl_RX11_82 rfl h_r0 hC (zdk dk_X11_write 26 rfl) (q := 49) rfl (fun q11 hq11 => ?_)
      refine x_aload_n (i := 0) rfl hC (zdk dk_X11_write 27 rfl) (q := 50) rfl ?_
      refine x_getR (k := 0) fl_RX11_82 rfl h_r0 hC (zdk dk_X11_write 28 rfl) (q := 53) rfl (fun q12 hq12 => ?_)
      refine x_getR (k := 1) fl_RX11_141 rfl hq12 hC (zdk dk_X11_write 29 rfl) (q := 56) rfl (fun q13 hq13 => ?_)
      refine x_iload_n (i := 2) rfl hC (zdk dk_X11_write 30 rfl) (q := 57) rfl ?_
      refine x_iload_n (i := 3) rfl hC (zdk dk_X11_write 31 rfl) (q := 58) rfl ?_
      refine x_callSl (as := [.int x2, .int x3]) cb_RX11_204 rfl (by decide) hk0 (fun x hx => t_X11_dataOf  x hx) hC (zdk dk_X11_write 32 rfl) (q := 61) rfl rfl (Nat.le_of_ble_eq_true rfl) (fun z14 => ?_)
      refine x_callVl (as := [.long z14.1]) cb_RX11_208 rfl (by decide) hk0 hq13 (fun x hx => t_X1_encode hq13 x hx) hC (zdk dk_X11_write 33 rfl) (q := 64) rfl rfl (Nat.le_of_ble_eq_true rfl) (fun z15 => ?_)
      refine x_callVv (as := [.ref q11, .long z15.1]) cb_RX11_357 rfl (by decide) hk0 hq10 (fun x hx => t_X8_fill hq10 hq11 x hx) hC (zdk dk_X11_write 34 rfl) (q := 67) rfl rfl (Nat.le_of_ble_eq_true rfl) (fun M16 => ?_)
      refine x_aload_n (i := 0) rfl hC (zdk dk_X11_write 35 rfl) (q := 68) rfl ?_
      refine x_getR (k := 7) fl_RX11_61 rfl h_r0 hC (zdk dk_X11_write 36 rfl) (q := 71) rfl (fun q17 hq17 => ?_)
      refine x_aload_n (i := 0) rfl hC (zdk dk_X11_write 37 rfl) (q := 72) rfl ?_
      refine x_getR (k := 5) fl_RX11_42 rfl h_r0 hC (zdk dk_X11_write 38 rfl) (q := 75) rfl (fun q18 hq18 => ?_)
      refine x_getI fl_RX11_164 (by decide) hq18 hC (zdk dk_X11_write 39 rfl) (q := 78) rfl ?_
      refine x_iload_n (i := 1) rfl hC (zdk dk_X11_write 40 rfl) (q := 79) rfl ?_
      refine x_iconst (i := 0) c_iconst_0 hC (zdk dk_X11_write 41 rfl) (q := 80) rfl ?_
      refine x_callVv (as := [.int (zI M16 q18 1), .int x1, .int 0]) cb_RX11_361 rfl (by decide) hk0 hq17 (fun x hx => t_X7_add hq17 x hx) hC (zdk dk_X11_write 42 rfl) (q := 83) rfl rfl (Nat.le_of_ble_eq_true rfl) (fun M19 => ?_)
      refine x_iconst (i := 1) c_iconst_1 hC (zdk dk_X11_write 43 rfl) (q := 84) rfl ?_
      exact x_iret (ty := .boolean) rfl hE hC (zdk dk_X11_write 44 rfl)
    · refine x_weak (L' := [.ref r0, .null, .null, .null]) ⟨Or.inr rfl, Or.inl rfl, Or.inl rfl, Or.inl rfl, trivial⟩ ?_
      exact x_X11_write_17 hC hE hk0 h_r0 _
set_option maxRecDepth 100000 in
set_option maxHeartbeats 4000000 in
theorem t_X11_write {n : Nat} {r0 : Nat} {x1 : Int32} {x2 : Int32} {x3 : Int32} {M : Mem} (h_r0 : zO n r0 11) (x : (Int32 × Mem)) (hx : f_X11_write r0 x1 x2 x3 M = some x) (l : Launch) (dC : Nat → ClassId) (dI : Nat → Nat → Nat) (b : zSg) : MT l dC dI b yX11_write cX11_write 4 (some .boolean) 4 0 0 n n [.ref r0, .int x1, .int x2, .int x3] M (emI x).1 (emI x).2 :=
  MT.ofX (by decide +kernel) rfl (Nat.le_of_ble_eq_true rfl) (fun κ hC hF _ => x_X11_write hC (zEnd_of hF (Nat.le_refl _) (Nat.le_refl _)) (zRk_of hF (Nat.le_refl _) (Nat.le_refl _)) _ _ _ _ _ h_r0) x hx
set_option maxRecDepth 100000 in
def dt_X11_erase : List (Nat × Instr × Nat) := [(0, .aload_n 0, 1), (1, .iload_n 1, 1), (2, .invokevirtual 242, 3), (5, .ifCond .ne 11, 3), (8, .aload_n 0, 1), (9, .iconst 3, 1), (10, .invokevirtual 105, 3), (13, .pop, 1), (14, .iconst 0, 1), (15, .ireturn, 1), (16, .aload_n 0, 1), (17, .getfield 61, 3), (20, .aload_n 0, 1), (21, .getfield 42, 3), (24, .invokevirtual 353, 3), (27, .aload_n 0, 1), (28, .getfield 42, 3), (31, .getfield 224, 3), (34, .iload_n 1, 1), (35, .aaload, 1), (36, .invokevirtual 365, 3), (39, .iconst 1, 1), (40, .ireturn, 1)]
set_option maxRecDepth 100000 in
theorem dk_X11_erase : dt_X11_erase.all (fun q => decide (decode cX11_erase q.1 = .ok q.2)) = true := by decide +kernel
set_option maxRecDepth 100000 in
def f_X11_erase (r0 : Nat) (x1 : Int32) (M : Mem) : Option (Int32 × Mem) := Option.bind (f_X11_isWritten r0 x1 M) fun z1 => (if z1.1 = 0 then Option.bind (f_X11_refuse r0 3 z1.2) fun z10 => some (0, z10.2) else Option.bind (zrf z1.2 r0 8) fun q2 => Option.bind (zrf z1.2 r0 5) fun q3 => Option.bind (f_X7_save q2 q3 z1.2) fun M4 => Option.bind (zrf M4 r0 5) fun q5 => Option.bind (zrf M4 q5 0) fun q6 => Option.bind (zld q6 x1) fun k7 => Option.bind (zrf M4 q6 k7) fun q8 => Option.bind (f_X8_clear q8 M4) fun M9 => some (1, M9))
set_option maxRecDepth 100000 in
set_option maxHeartbeats 4000000 in
theorem x_X11_erase {κ : KX} {n : Nat} (hC : CX κ cX11_erase RX11 2 (some .boolean) 4) (hE : zEnd κ n (0, 0)) (hk0 : zRk κ (0, 0)) (r0 : Nat) (x1 : Int32) (M : Mem) (h_r0 : zO n r0 11) : X κ 2 emI n (0, 0) 0 [.ref r0, .int x1] [] M (f_X11_erase r0 x1 M) := by
  unfold f_X11_erase
  refine x_aload_n (i := 0) rfl hC (zdk dk_X11_erase 0 rfl) (q := 1) rfl ?_
  refine x_iload_n (i := 1) rfl hC (zdk dk_X11_erase 1 rfl) (q := 2) rfl ?_
  refine x_callVi (as := [.int x1]) cb_RX11_242 rfl (by decide) hk0 h_r0 (fun x hx => t_X11_isWritten h_r0 x hx) hC (zdk dk_X11_erase 2 rfl) (q := 5) rfl rfl (Nat.le_of_ble_eq_true rfl) (fun z1 => ?_)
  refine x_if_ne (tgt := 16) hC (zdk dk_X11_erase 3 rfl) (q := 8) rfl rfl (fun _ => ?_) (fun _ => ?_)
  · refine x_aload_n (i := 0) rfl hC (zdk dk_X11_erase 10 rfl) (q := 17) rfl ?_
    refine x_getR (k := 7) fl_RX11_61 rfl h_r0 hC (zdk dk_X11_erase 11 rfl) (q := 20) rfl (fun q2 hq2 => ?_)
    refine x_aload_n (i := 0) rfl hC (zdk dk_X11_erase 12 rfl) (q := 21) rfl ?_
    refine x_getR (k := 5) fl_RX11_42 rfl h_r0 hC (zdk dk_X11_erase 13 rfl) (q := 24) rfl (fun q3 hq3 => ?_)
    refine x_callVv (as := [.ref q3]) cb_RX11_353 rfl (by decide) hk0 hq2 (fun x hx => t_X7_save hq2 hq3 x hx) hC (zdk dk_X11_erase 14 rfl) (q := 27) rfl rfl (Nat.le_of_ble_eq_true rfl) (fun M4 => ?_)
    refine x_aload_n (i := 0) rfl hC (zdk dk_X11_erase 15 rfl) (q := 28) rfl ?_
    refine x_getR (k := 5) fl_RX11_42 rfl h_r0 hC (zdk dk_X11_erase 16 rfl) (q := 31) rfl (fun q5 hq5 => ?_)
    refine x_getR (k := 23) fl_RX11_224 rfl hq5 hC (zdk dk_X11_erase 17 rfl) (q := 34) rfl (fun q6 hq6 => ?_)
    refine x_iload_n (i := 1) rfl hC (zdk dk_X11_erase 18 rfl) (q := 35) rfl ?_
    refine x_aald (kd := 23) (ke := 8) hq6 (by decide) rfl hC (zdk dk_X11_erase 19 rfl) (q := 36) rfl (fun k7 _ q8 hq8 => ?_)
    refine x_callVv (as := []) cb_RX11_365 rfl (by decide) hk0 hq8 (fun x hx => t_X8_clear hq8 x hx) hC (zdk dk_X11_erase 20 rfl) (q := 39) rfl rfl (Nat.le_of_ble_eq_true rfl) (fun M9 => ?_)
    refine x_iconst (i := 1) c_iconst_1 hC (zdk dk_X11_erase 21 rfl) (q := 40) rfl ?_
    exact x_iret (ty := .boolean) rfl hE hC (zdk dk_X11_erase 22 rfl)
  · refine x_aload_n (i := 0) rfl hC (zdk dk_X11_erase 4 rfl) (q := 9) rfl ?_
    refine x_iconst (i := 3) c_iconst_3 hC (zdk dk_X11_erase 5 rfl) (q := 10) rfl ?_
    refine x_callVi (as := [.int 3]) cb_RX11_105 rfl (by decide) hk0 h_r0 (fun x hx => t_X11_refuse h_r0 x hx) hC (zdk dk_X11_erase 6 rfl) (q := 13) rfl rfl (Nat.le_of_ble_eq_true rfl) (fun z10 => ?_)
    refine x_pop rfl hC (zdk dk_X11_erase 7 rfl) (q := 14) rfl ?_
    refine x_iconst (i := 0) c_iconst_0 hC (zdk dk_X11_erase 8 rfl) (q := 15) rfl ?_
    exact x_iret (ty := .boolean) rfl hE hC (zdk dk_X11_erase 9 rfl)
set_option maxRecDepth 100000 in
set_option maxHeartbeats 4000000 in
theorem t_X11_erase {n : Nat} {r0 : Nat} {x1 : Int32} {M : Mem} (h_r0 : zO n r0 11) (x : (Int32 × Mem)) (hx : f_X11_erase r0 x1 M = some x) (l : Launch) (dC : Nat → ClassId) (dI : Nat → Nat → Nat) (b : zSg) : MT l dC dI b yX11_erase cX11_erase 2 (some .boolean) 4 0 0 n n [.ref r0, .int x1] M (emI x).1 (emI x).2 :=
  MT.ofX (by decide +kernel) rfl (Nat.le_of_ble_eq_true rfl) (fun κ hC hF _ => x_X11_erase hC (zEnd_of hF (Nat.le_refl _) (Nat.le_refl _)) (zRk_of hF (Nat.le_refl _) (Nat.le_refl _)) _ _ _ h_r0) x hx
set_option maxRecDepth 100000 in
def dt_X11_flip : List (Nat × Instr × Nat) := [(0, .aload_n 0, 1), (1, .iload_n 1, 1), (2, .invokevirtual 242, 3), (5, .ifCond .eq 11, 3), (8, .aload_n 0, 1), (9, .iload_n 2, 1), (10, .invokevirtual 245, 3), (13, .ifCond .ne 11, 3), (16, .aload_n 0, 1), (17, .iconst 3, 1), (18, .invokevirtual 105, 3), (21, .pop, 1), (22, .iconst 0, 1), (23, .ireturn, 1), (24, .aload_n 0, 1), (25, .getfield 61, 3), (28, .aload_n 0, 1), (29, .getfield 42, 3), (32, .invokevirtual 353, 3), (35, .aload_n 0, 1), (36, .getfield 42, 3), (39, .getfield 224, 3), (42, .iload_n 1, 1), (43, .aaload, 1), (44, .iload_n 2, 1), (45, .invokevirtual 324, 3), (48, .iconst 1, 1), (49, .ireturn, 1)]
set_option maxRecDepth 100000 in
theorem dk_X11_flip : dt_X11_flip.all (fun q => decide (decode cX11_flip q.1 = .ok q.2)) = true := by decide +kernel
set_option maxRecDepth 100000 in
def f_X11_flip_16  (r0 : Nat) (x1 : Int32) (x2 : Int32)  (M : Mem) : Option (Int32 × Mem) := Option.bind (f_X11_refuse r0 3 M) fun z1 => some (0, z1.2)
set_option maxRecDepth 100000 in
set_option maxHeartbeats 4000000 in
theorem x_X11_flip_16 {κ : KX} {n : Nat} (hC : CX κ cX11_flip RX11 3 (some .boolean) 4) (hE : zEnd κ n (0, 0)) (hk0 : zRk κ (0, 0)) {r0 : Nat} {x1 : Int32} {x2 : Int32} (h_r0 : zO n r0 11) (M : Mem) : X κ 3 emI n (0, 0) 16 [.ref r0, .null, .null] [] M (f_X11_flip_16 r0 x1 x2 M) := by
  unfold f_X11_flip_16
  refine x_aload_n (i := 0) rfl hC (zdk dk_X11_flip 8 rfl) (q := 17) rfl ?_
  refine x_iconst (i := 3) c_iconst_3 hC (zdk dk_X11_flip 9 rfl) (q := 18) rfl ?_
  refine x_callVi (as := [.int 3]) cb_RX11_105 rfl (by decide) hk0 h_r0 (fun x hx => t_X11_refuse h_r0 x hx) hC (zdk dk_X11_flip 10 rfl) (q := 21) rfl rfl (Nat.le_of_ble_eq_true rfl) (fun z1 => ?_)
  refine x_pop rfl hC (zdk dk_X11_flip 11 rfl) (q := 22) rfl ?_
  refine x_iconst (i := 0) c_iconst_0 hC (zdk dk_X11_flip 12 rfl) (q := 23) rfl ?_
  exact x_iret (ty := .boolean) rfl hE hC (zdk dk_X11_flip 13 rfl)
set_option maxRecDepth 100000 in
def f_X11_flip (r0 : Nat) (x1 : Int32) (x2 : Int32) (M : Mem) : Option (Int32 × Mem) := Option.bind (f_X11_isWritten r0 x1 M) fun z2 => (if z2.1 = 0 then f_X11_flip_16 r0 x1 x2 z2.2 else Option.bind (f_X11_isCell r0 x2 z2.2) fun z3 => (if z3.1 = 0 then f_X11_flip_16 r0 x1 x2 z3.2 else Option.bind (zrf z3.2 r0 8) fun q4 => Option.bind (zrf z3.2 r0 5) fun q5 => Option.bind (f_X7_save q4 q5 z3.2) fun M6 => Option.bind (zrf M6 r0 5) fun q7 => Option.bind (zrf M6 q7 0) fun q8 => Option.bind (zld q8 x1) fun k9 => Option.bind (zrf M6 q8 k9) fun q10 => Option.bind (f_X8_turn q10 x2 M6) fun M11 => some (1, M11)))
set_option maxRecDepth 100000 in
set_option maxHeartbeats 4000000 in
theorem x_X11_flip {κ : KX} {n : Nat} (hC : CX κ cX11_flip RX11 3 (some .boolean) 4) (hE : zEnd κ n (0, 0)) (hk0 : zRk κ (0, 0)) (r0 : Nat) (x1 : Int32) (x2 : Int32) (M : Mem) (h_r0 : zO n r0 11) : X κ 3 emI n (0, 0) 0 [.ref r0, .int x1, .int x2] [] M (f_X11_flip r0 x1 x2 M) := by
  unfold f_X11_flip
  refine x_aload_n (i := 0) rfl hC (zdk dk_X11_flip 0 rfl) (q := 1) rfl ?_
  refine x_iload_n (i := 1) rfl hC (zdk dk_X11_flip 1 rfl) (q := 2) rfl ?_
  refine x_callVi (as := [.int x1]) cb_RX11_242 rfl (by decide) hk0 h_r0 (fun x hx => t_X11_isWritten h_r0 x hx) hC (zdk dk_X11_flip 2 rfl) (q := 5) rfl rfl (Nat.le_of_ble_eq_true rfl) (fun z2 => ?_)
  refine x_if_eq (tgt := 16) hC (zdk dk_X11_flip 3 rfl) (q := 8) rfl rfl (fun _ => ?_) (fun _ => ?_)
  · refine x_weak (L' := [.ref r0, .null, .null]) ⟨Or.inr rfl, Or.inl rfl, Or.inl rfl, trivial⟩ ?_
    exact x_X11_flip_16 hC hE hk0 h_r0 _
  · refine x_aload_n (i := 0) rfl hC (zdk dk_X11_flip 4 rfl) (q := 9) rfl ?_
    refine x_iload_n (i := 2) rfl hC (zdk dk_X11_flip 5 rfl) (q := 10) rfl ?_
    refine x_callVi (as := [.int x2]) cb_RX11_245 rfl (by decide) hk0 h_r0 (fun x hx => t_X11_isCell h_r0 x hx) hC (zdk dk_X11_flip 6 rfl) (q := 13) rfl rfl (Nat.le_of_ble_eq_true rfl) (fun z3 => ?_)
    refine x_if_ne (tgt := 24) hC (zdk dk_X11_flip 7 rfl) (q := 16) rfl rfl (fun _ => ?_) (fun _ => ?_)
    · refine x_aload_n (i := 0) rfl hC (zdk dk_X11_flip 14 rfl) (q := 25) rfl ?_
      refine x_getR (k := 7) fl_RX11_61 rfl h_r0 hC (zdk dk_X11_flip 15 rfl) (q := 28) rfl (fun q4 hq4 => ?_)
      refine x_aload_n (i := 0) rfl hC (zdk dk_X11_flip 16 rfl) (q := 29) rfl ?_
      refine x_getR (k := 5) fl_RX11_42 rfl h_r0 hC (zdk dk_X11_flip 17 rfl) (q := 32) rfl (fun q5 hq5 => ?_)
      refine x_callVv (as := [.ref q5]) cb_RX11_353 rfl (by decide) hk0 hq4 (fun x hx => t_X7_save hq4 hq5 x hx) hC (zdk dk_X11_flip 18 rfl) (q := 35) rfl rfl (Nat.le_of_ble_eq_true rfl) (fun M6 => ?_)
      refine x_aload_n (i := 0) rfl hC (zdk dk_X11_flip 19 rfl) (q := 36) rfl ?_
      refine x_getR (k := 5) fl_RX11_42 rfl h_r0 hC (zdk dk_X11_flip 20 rfl) (q := 39) rfl (fun q7 hq7 => ?_)
      refine x_getR (k := 23) fl_RX11_224 rfl hq7 hC (zdk dk_X11_flip 21 rfl) (q := 42) rfl (fun q8 hq8 => ?_)
      refine x_iload_n (i := 1) rfl hC (zdk dk_X11_flip 22 rfl) (q := 43) rfl ?_
      refine x_aald (kd := 23) (ke := 8) hq8 (by decide) rfl hC (zdk dk_X11_flip 23 rfl) (q := 44) rfl (fun k9 _ q10 hq10 => ?_)
      refine x_iload_n (i := 2) rfl hC (zdk dk_X11_flip 24 rfl) (q := 45) rfl ?_
      refine x_callVv (as := [.int x2]) cb_RX11_324 rfl (by decide) hk0 hq10 (fun x hx => t_X8_turn hq10 x hx) hC (zdk dk_X11_flip 25 rfl) (q := 48) rfl rfl (Nat.le_of_ble_eq_true rfl) (fun M11 => ?_)
      refine x_iconst (i := 1) c_iconst_1 hC (zdk dk_X11_flip 26 rfl) (q := 49) rfl ?_
      exact x_iret (ty := .boolean) rfl hE hC (zdk dk_X11_flip 27 rfl)
    · refine x_weak (L' := [.ref r0, .null, .null]) ⟨Or.inr rfl, Or.inl rfl, Or.inl rfl, trivial⟩ ?_
      exact x_X11_flip_16 hC hE hk0 h_r0 _
set_option maxRecDepth 100000 in
set_option maxHeartbeats 4000000 in
theorem t_X11_flip {n : Nat} {r0 : Nat} {x1 : Int32} {x2 : Int32} {M : Mem} (h_r0 : zO n r0 11) (x : (Int32 × Mem)) (hx : f_X11_flip r0 x1 x2 M = some x) (l : Launch) (dC : Nat → ClassId) (dI : Nat → Nat → Nat) (b : zSg) : MT l dC dI b yX11_flip cX11_flip 3 (some .boolean) 4 0 0 n n [.ref r0, .int x1, .int x2] M (emI x).1 (emI x).2 :=
  MT.ofX (by decide +kernel) rfl (Nat.le_of_ble_eq_true rfl) (fun κ hC hF _ => x_X11_flip hC (zEnd_of hF (Nat.le_refl _) (Nat.le_refl _)) (zRk_of hF (Nat.le_refl _) (Nat.le_refl _)) _ _ _ _ h_r0) x hx
set_option maxRecDepth 100000 in
def dt_X11_refresh : List (Nat × Instr × Nat) := [(0, .aload_n 0, 1), (1, .iload_n 1, 1), (2, .invokevirtual 242, 3), (5, .ifCond .ne 9, 3), (8, .aload_n 0, 1), (9, .iconst 3, 1), (10, .invokevirtual 105, 3), (13, .ireturn, 1), (14, .aload_n 0, 1), (15, .getfield 42, 3), (18, .getfield 224, 3), (21, .iload_n 1, 1), (22, .aaload, 1), (23, .astore_n 2, 1), (24, .aload_n 0, 1), (25, .getfield 35, 3), (28, .aload_n 0, 1), (29, .getfield 82, 3), (32, .aload_n 2, 1), (33, .invokevirtual 291, 3), (36, .aload_n 0, 1), (37, .getfield 35, 3), (40, .getfield 295, 3), (43, .ifCond .eq 9, 3), (46, .aload_n 0, 1), (47, .iconst 3, 1), (48, .invokevirtual 105, 3), (51, .ireturn, 1), (52, .aload_n 0, 1), (53, .getfield 61, 3), (56, .aload_n 0, 1), (57, .getfield 42, 3), (60, .invokevirtual 353, 3), (63, .aload_n 2, 1), (64, .aload_n 0, 1), (65, .getfield 82, 3), (68, .aload_n 0, 1), (69, .getfield 35, 3), (72, .getfield 296, 3), (75, .invokevirtual 357, 3), (78, .aload_n 0, 1), (79, .getfield 61, 3), (82, .aload_n 0, 1), (83, .getfield 42, 3), (86, .getfield 164, 3), (89, .iload_n 1, 1), (90, .aload_n 0, 1), (91, .getfield 35, 3), (94, .getfield 299, 3), (97, .invokevirtual 361, 3), (100, .aload_n 0, 1), (101, .getfield 35, 3), (104, .getfield 299, 3), (107, .ireturn, 1)]
set_option maxRecDepth 100000 in
theorem dk_X11_refresh : dt_X11_refresh.all (fun q => decide (decode cX11_refresh q.1 = .ok q.2)) = true := by decide +kernel
set_option maxRecDepth 100000 in
def f_X11_refresh (r0 : Nat) (x1 : Int32) (M : Mem) : Option (Int32 × Mem) := Option.bind (f_X11_isWritten r0 x1 M) fun z1 => (if z1.1 = 0 then Option.bind (f_X11_refuse r0 3 z1.2) fun z22 => some (z22.1, z22.2) else Option.bind (zrf z1.2 r0 5) fun q2 => Option.bind (zrf z1.2 q2 0) fun q3 => Option.bind (zld q3 x1) fun k4 => Option.bind (zrf z1.2 q3 k4) fun q5 => Option.bind (zrf z1.2 r0 4) fun q6 => Option.bind (zrf z1.2 r0 11) fun q7 => Option.bind (f_X3_get q6 q7 q5 z1.2) fun M8 => Option.bind (zrf M8 r0 4) fun q9 => (if zI M8 q9 4 = 0 then Option.bind (zrf M8 r0 8) fun q10 => Option.bind (zrf M8 r0 5) fun q11 => Option.bind (f_X7_save q10 q11 M8) fun M12 => Option.bind (zrf M12 r0 11) fun q13 => Option.bind (zrf M12 r0 4) fun q14 => Option.bind (f_X8_fill q5 q13 (zL M12 q14 6) M12) fun M15 => Option.bind (zrf M15 r0 8) fun q16 => Option.bind (zrf M15 r0 5) fun q17 => Option.bind (zrf M15 r0 4) fun q18 => Option.bind (f_X7_add q16 (zI M15 q17 1) x1 (zI M15 q18 5) M15) fun M19 => Option.bind (zrf M19 r0 4) fun q20 => some (zI M19 q20 5, M19) else Option.bind (f_X11_refuse r0 3 M8) fun z21 => some (z21.1, z21.2)))
set_option maxRecDepth 100000 in
set_option maxHeartbeats 4000000 in
theorem x_X11_refresh {κ : KX} {n : Nat} (hC : CX κ cX11_refresh RX11 3 (some .int) 7) (hE : zEnd κ n (0, 0)) (hk0 : zRk κ (0, 0)) (r0 : Nat) (x1 : Int32) (M : Mem) (h_r0 : zO n r0 11) : X κ 3 emI n (0, 0) 0 [.ref r0, .int x1, .null] [] M (f_X11_refresh r0 x1 M) := by
  unfold f_X11_refresh
  refine x_aload_n (i := 0) rfl hC (zdk dk_X11_refresh 0 rfl) (q := 1) rfl ?_
  refine x_iload_n (i := 1) rfl hC (zdk dk_X11_refresh 1 rfl) (q := 2) rfl ?_
  refine x_callVi (as := [.int x1]) cb_RX11_242 rfl (by decide) hk0 h_r0 (fun x hx => t_X11_isWritten h_r0 x hx) hC (zdk dk_X11_refresh 2 rfl) (q := 5) rfl rfl (Nat.le_of_ble_eq_true rfl) (fun z1 => ?_)
  refine x_if_ne (tgt := 14) hC (zdk dk_X11_refresh 3 rfl) (q := 8) rfl rfl (fun _ => ?_) (fun _ => ?_)
  · refine x_aload_n (i := 0) rfl hC (zdk dk_X11_refresh 8 rfl) (q := 15) rfl ?_
    refine x_getR (k := 5) fl_RX11_42 rfl h_r0 hC (zdk dk_X11_refresh 9 rfl) (q := 18) rfl (fun q2 hq2 => ?_)
    refine x_getR (k := 23) fl_RX11_224 rfl hq2 hC (zdk dk_X11_refresh 10 rfl) (q := 21) rfl (fun q3 hq3 => ?_)
    refine x_iload_n (i := 1) rfl hC (zdk dk_X11_refresh 11 rfl) (q := 22) rfl ?_
    refine x_aald (kd := 23) (ke := 8) hq3 (by decide) rfl hC (zdk dk_X11_refresh 12 rfl) (q := 23) rfl (fun k4 _ q5 hq5 => ?_)
    refine x_astore_n (i := 2) (L' := [.ref r0, .int x1, .ref q5]) (by decide) rfl hC (zdk dk_X11_refresh 13 rfl) (q := 24) rfl ?_
    refine x_aload_n (i := 0) rfl hC (zdk dk_X11_refresh 14 rfl) (q := 25) rfl ?_
    refine x_getR (k := 3) fl_RX11_35 rfl h_r0 hC (zdk dk_X11_refresh 15 rfl) (q := 28) rfl (fun q6 hq6 => ?_)
    refine x_aload_n (i := 0) rfl hC (zdk dk_X11_refresh 16 rfl) (q := 29) rfl ?_
    refine x_getR (k := 0) fl_RX11_82 rfl h_r0 hC (zdk dk_X11_refresh 17 rfl) (q := 32) rfl (fun q7 hq7 => ?_)
    refine x_aload_n (i := 2) rfl hC (zdk dk_X11_refresh 18 rfl) (q := 33) rfl ?_
    refine x_callVv (as := [.ref q7, .ref q5]) cb_RX11_291 rfl (by decide) hk0 hq6 (fun x hx => t_X3_get hq6 hq7 hq5 x hx) hC (zdk dk_X11_refresh 19 rfl) (q := 36) rfl rfl (Nat.le_of_ble_eq_true rfl) (fun M8 => ?_)
    refine x_aload_n (i := 0) rfl hC (zdk dk_X11_refresh 20 rfl) (q := 37) rfl ?_
    refine x_getR (k := 3) fl_RX11_35 rfl h_r0 hC (zdk dk_X11_refresh 21 rfl) (q := 40) rfl (fun q9 hq9 => ?_)
    refine x_getI fl_RX11_295 (by decide) hq9 hC (zdk dk_X11_refresh 22 rfl) (q := 43) rfl ?_
    refine x_if_eq (tgt := 52) hC (zdk dk_X11_refresh 23 rfl) (q := 46) rfl rfl (fun _ => ?_) (fun _ => ?_)
    · refine x_aload_n (i := 0) rfl hC (zdk dk_X11_refresh 28 rfl) (q := 53) rfl ?_
      refine x_getR (k := 7) fl_RX11_61 rfl h_r0 hC (zdk dk_X11_refresh 29 rfl) (q := 56) rfl (fun q10 hq10 => ?_)
      refine x_aload_n (i := 0) rfl hC (zdk dk_X11_refresh 30 rfl) (q := 57) rfl ?_
      refine x_getR (k := 5) fl_RX11_42 rfl h_r0 hC (zdk dk_X11_refresh 31 rfl) (q := 60) rfl (fun q11 hq11 => ?_)
      refine x_callVv (as := [.ref q11]) cb_RX11_353 rfl (by decide) hk0 hq10 (fun x hx => t_X7_save hq10 hq11 x hx) hC (zdk dk_X11_refresh 32 rfl) (q := 63) rfl rfl (Nat.le_of_ble_eq_true rfl) (fun M12 => ?_)
      refine x_aload_n (i := 2) rfl hC (zdk dk_X11_refresh 33 rfl) (q := 64) rfl ?_
      refine x_aload_n (i := 0) rfl hC (zdk dk_X11_refresh 34 rfl) (q := 65) rfl ?_
      refine x_getR (k := 0) fl_RX11_82 rfl h_r0 hC (zdk dk_X11_refresh 35 rfl) (q := 68) rfl (fun q13 hq13 => ?_)
      refine x_aload_n (i := 0) rfl hC (zdk dk_X11_refresh 36 rfl) (q := 69) rfl ?_
      refine x_getR (k := 3) fl_RX11_35 rfl h_r0 hC (zdk dk_X11_refresh 37 rfl) (q := 72) rfl (fun q14 hq14 => ?_)
      refine x_getL fl_RX11_296 hq14 hC (zdk dk_X11_refresh 38 rfl) (q := 75) rfl ?_
      refine x_callVv (as := [.ref q13, .long (zL M12 q14 6)]) cb_RX11_357 rfl (by decide) hk0 hq5 (fun x hx => t_X8_fill hq5 hq13 x hx) hC (zdk dk_X11_refresh 39 rfl) (q := 78) rfl rfl (Nat.le_of_ble_eq_true rfl) (fun M15 => ?_)
      refine x_aload_n (i := 0) rfl hC (zdk dk_X11_refresh 40 rfl) (q := 79) rfl ?_
      refine x_getR (k := 7) fl_RX11_61 rfl h_r0 hC (zdk dk_X11_refresh 41 rfl) (q := 82) rfl (fun q16 hq16 => ?_)
      refine x_aload_n (i := 0) rfl hC (zdk dk_X11_refresh 42 rfl) (q := 83) rfl ?_
      refine x_getR (k := 5) fl_RX11_42 rfl h_r0 hC (zdk dk_X11_refresh 43 rfl) (q := 86) rfl (fun q17 hq17 => ?_)
      refine x_getI fl_RX11_164 (by decide) hq17 hC (zdk dk_X11_refresh 44 rfl) (q := 89) rfl ?_
      refine x_iload_n (i := 1) rfl hC (zdk dk_X11_refresh 45 rfl) (q := 90) rfl ?_
      refine x_aload_n (i := 0) rfl hC (zdk dk_X11_refresh 46 rfl) (q := 91) rfl ?_
      refine x_getR (k := 3) fl_RX11_35 rfl h_r0 hC (zdk dk_X11_refresh 47 rfl) (q := 94) rfl (fun q18 hq18 => ?_)
      refine x_getI fl_RX11_299 (by decide) hq18 hC (zdk dk_X11_refresh 48 rfl) (q := 97) rfl ?_
      refine x_callVv (as := [.int (zI M15 q17 1), .int x1, .int (zI M15 q18 5)]) cb_RX11_361 rfl (by decide) hk0 hq16 (fun x hx => t_X7_add hq16 x hx) hC (zdk dk_X11_refresh 49 rfl) (q := 100) rfl rfl (Nat.le_of_ble_eq_true rfl) (fun M19 => ?_)
      refine x_aload_n (i := 0) rfl hC (zdk dk_X11_refresh 50 rfl) (q := 101) rfl ?_
      refine x_getR (k := 3) fl_RX11_35 rfl h_r0 hC (zdk dk_X11_refresh 51 rfl) (q := 104) rfl (fun q20 hq20 => ?_)
      refine x_getI fl_RX11_299 (by decide) hq20 hC (zdk dk_X11_refresh 52 rfl) (q := 107) rfl ?_
      exact x_iret (ty := .int) rfl hE hC (zdk dk_X11_refresh 53 rfl)
    · refine x_aload_n (i := 0) rfl hC (zdk dk_X11_refresh 24 rfl) (q := 47) rfl ?_
      refine x_iconst (i := 3) c_iconst_3 hC (zdk dk_X11_refresh 25 rfl) (q := 48) rfl ?_
      refine x_callVi (as := [.int 3]) cb_RX11_105 rfl (by decide) hk0 h_r0 (fun x hx => t_X11_refuse h_r0 x hx) hC (zdk dk_X11_refresh 26 rfl) (q := 51) rfl rfl (Nat.le_of_ble_eq_true rfl) (fun z21 => ?_)
      exact x_iret (ty := .int) rfl hE hC (zdk dk_X11_refresh 27 rfl)
  · refine x_aload_n (i := 0) rfl hC (zdk dk_X11_refresh 4 rfl) (q := 9) rfl ?_
    refine x_iconst (i := 3) c_iconst_3 hC (zdk dk_X11_refresh 5 rfl) (q := 10) rfl ?_
    refine x_callVi (as := [.int 3]) cb_RX11_105 rfl (by decide) hk0 h_r0 (fun x hx => t_X11_refuse h_r0 x hx) hC (zdk dk_X11_refresh 6 rfl) (q := 13) rfl rfl (Nat.le_of_ble_eq_true rfl) (fun z22 => ?_)
    exact x_iret (ty := .int) rfl hE hC (zdk dk_X11_refresh 7 rfl)
set_option maxRecDepth 100000 in
set_option maxHeartbeats 4000000 in
theorem t_X11_refresh {n : Nat} {r0 : Nat} {x1 : Int32} {M : Mem} (h_r0 : zO n r0 11) (x : (Int32 × Mem)) (hx : f_X11_refresh r0 x1 M = some x) (l : Launch) (dC : Nat → ClassId) (dI : Nat → Nat → Nat) (b : zSg) : MT l dC dI b yX11_refresh cX11_refresh 3 (some .int) 7 0 0 n n [.ref r0, .int x1] M (emI x).1 (emI x).2 :=
  MT.ofX (by decide +kernel) rfl (Nat.le_of_ble_eq_true rfl) (fun κ hC hF _ => x_X11_refresh hC (zEnd_of hF (Nat.le_refl _) (Nat.le_refl _)) (zRk_of hF (Nat.le_refl _) (Nat.le_refl _)) _ _ _ h_r0) x hx
set_option maxRecDepth 100000 in
def dt_X11_passDay : List (Nat × Instr × Nat) := [(0, .iconst 0, 1), (1, .istore_n 1, 1), (2, .iload_n 1, 1), (3, .aload_n 0, 1), (4, .getfield 82, 3), (7, .getfield 159, 3), (10, .if_icmp .ge 51, 3), (13, .aload_n 0, 1), (14, .getfield 42, 3), (17, .getfield 224, 3), (20, .iload_n 1, 1), (21, .aaload, 1), (22, .getfield 227, 3), (25, .ifCond .eq 30, 3), (28, .aload_n 0, 1), (29, .getfield 19, 3), (32, .aload_n 0, 1), (33, .getfield 82, 3), (36, .aload_n 0, 1), (37, .getfield 42, 3), (40, .getfield 224, 3), (43, .iload_n 1, 1), (44, .aaload, 1), (45, .aload_n 0, 1), (46, .getfield 42, 3), (49, .getfield 164, 3), (52, .invokevirtual 320, 3), (55, .iinc 1 1, 3), (58, .goto (-56), 3), (61, .aload_n 0, 1), (62, .getfield 42, 3), (65, .dup, 1), (66, .getfield 164, 3), (69, .iconst 1, 1), (70, .iadd, 1), (71, .putfield 164, 3), (74, .return_, 1)]
set_option maxRecDepth 100000 in
theorem dk_X11_passDay : dt_X11_passDay.all (fun q => decide (decode cX11_passDay q.1 = .ok q.2)) = true := by decide +kernel
set_option maxRecDepth 100000 in
def f_X11_passDay_55 (k2 : Int32 → Mem → Option Mem) (r0 : Nat) (x1 : Int32) (M : Mem) : Option Mem := k2 (x1 + 1) M
set_option maxRecDepth 100000 in
set_option maxHeartbeats 4000000 in
theorem x_X11_passDay_55 {κ : KX} {n : Nat} (hC : CX κ cX11_passDay RX11 2 none 6) (hE : zEnd κ n (0, 0)) (hk0 : zRk κ (0, 0)) {r0 : Nat} (h_r0 : zO n r0 11) (k2 : Int32 → Mem → Option Mem) (hk2 : ∀ (x1 : Int32) (M : Mem), X κ 2 emV n (0, 0) 2 [.ref r0, .int x1] [] M (k2 x1 M)) (x1 : Int32) (M : Mem) : X κ 2 emV n (0, 0) 55 [.ref r0, .int x1] [] M (f_X11_passDay_55 k2 r0 x1 M) := by
  unfold f_X11_passDay_55
  refine x_iinc (i := 1) c_iconst_1 rfl (by decide) (L' := [.ref r0, .int (x1 + 1)]) rfl hC (zdk dk_X11_passDay 27 rfl) (q := 58) rfl ?_
  refine x_goto (tgt := 2) hC (zdk dk_X11_passDay 28 rfl) rfl ?_
  refine x_weak (L' := [.ref r0, .int (x1 + 1)]) ⟨Or.inr rfl, Or.inr rfl, trivial⟩ ?_
  exact hk2 _ _
set_option maxRecDepth 100000 in
def f_X11_passDay_2  (r0 : Nat) : Nat → Int32 → Mem → Option Mem
  | 0, _, _ => none
  | f + 1, x1, M => Option.bind (zrf M r0 11) fun q1 => (if zI M q1 9 ≤ x1 then Option.bind (zrf M r0 5) fun q2 => Option.bind (some (zsI M q2 1 ((zI M q2 1) + 1))) fun M3 => some M3 else Option.bind (zrf M r0 5) fun q4 => Option.bind (zrf M q4 0) fun q5 => Option.bind (zld q5 x1) fun k6 => Option.bind (zrf M q5 k6) fun q7 => (if zI M q7 2 = 0 then f_X11_passDay_55 (f_X11_passDay_2 r0 f) r0 x1 M else Option.bind (zrf M r0 2) fun q8 => Option.bind (zrf M r0 11) fun q9 => Option.bind (zrf M r0 5) fun q10 => Option.bind (zrf M q10 0) fun q11 => Option.bind (zld q11 x1) fun k12 => Option.bind (zrf M q11 k12) fun q13 => Option.bind (zrf M r0 5) fun q14 => Option.bind (f_X10_passDay q8 q9 q13 (zI M q14 1) M) fun M15 => f_X11_passDay_55 (f_X11_passDay_2 r0 f) r0 x1 M15))
set_option maxRecDepth 100000 in
set_option maxHeartbeats 4000000 in
theorem x_X11_passDay_2 {κ : KX} {n : Nat} (hC : CX κ cX11_passDay RX11 2 none 6) (hE : zEnd κ n (0, 0)) (hk0 : zRk κ (0, 0)) {r0 : Nat} (h_r0 : zO n r0 11) : ∀ (f : Nat) (x1 : Int32) (M : Mem), X κ 2 emV n (0, 0) 2 [.ref r0, .int x1] [] M (f_X11_passDay_2 r0 f x1 M) := by
  intro f
  induction f with
  | zero => intros; exact x_none
  | succ f ih =>
    intro x1 M 
    rw [f_X11_passDay_2]
    refine x_iload_n (i := 1) rfl hC (zdk dk_X11_passDay 2 rfl) (q := 3) rfl ?_
    refine x_aload_n (i := 0) rfl hC (zdk dk_X11_passDay 3 rfl) (q := 4) rfl ?_
    refine x_getR (k := 0) fl_RX11_82 rfl h_r0 hC (zdk dk_X11_passDay 4 rfl) (q := 7) rfl (fun q1 hq1 => ?_)
    refine x_getI fl_RX11_159 (by decide) hq1 hC (zdk dk_X11_passDay 5 rfl) (q := 10) rfl ?_
    refine x_icmp_ge (tgt := 61) hC (zdk dk_X11_passDay 6 rfl) (q := 13) rfl rfl (fun _ => ?_) (fun _ => ?_)
    · refine x_aload_n (i := 0) rfl hC (zdk dk_X11_passDay 29 rfl) (q := 62) rfl ?_
      refine x_getR (k := 5) fl_RX11_42 rfl h_r0 hC (zdk dk_X11_passDay 30 rfl) (q := 65) rfl (fun q2 hq2 => ?_)
      refine x_dup rfl hC (zdk dk_X11_passDay 31 rfl) (q := 66) rfl ?_
      refine x_getI fl_RX11_164 (by decide) hq2 hC (zdk dk_X11_passDay 32 rfl) (q := 69) rfl ?_
      refine x_iconst (i := 1) c_iconst_1 hC (zdk dk_X11_passDay 33 rfl) (q := 70) rfl ?_
      refine x_iadd hC (zdk dk_X11_passDay 34 rfl) (q := 71) rfl ?_
      refine x_putI fl_RX11_164 ⟨rfl, rfl⟩ (by decide) (Or.inl rfl) hq2 hC (zdk dk_X11_passDay 35 rfl) (q := 74) rfl ?_
      refine x_nmM (fun M3 => ?_)
      exact x_vret hE hC (zdk dk_X11_passDay 36 rfl)
    · refine x_aload_n (i := 0) rfl hC (zdk dk_X11_passDay 7 rfl) (q := 14) rfl ?_
      refine x_getR (k := 5) fl_RX11_42 rfl h_r0 hC (zdk dk_X11_passDay 8 rfl) (q := 17) rfl (fun q4 hq4 => ?_)
      refine x_getR (k := 23) fl_RX11_224 rfl hq4 hC (zdk dk_X11_passDay 9 rfl) (q := 20) rfl (fun q5 hq5 => ?_)
      refine x_iload_n (i := 1) rfl hC (zdk dk_X11_passDay 10 rfl) (q := 21) rfl ?_
      refine x_aald (kd := 23) (ke := 8) hq5 (by decide) rfl hC (zdk dk_X11_passDay 11 rfl) (q := 22) rfl (fun k6 _ q7 hq7 => ?_)
      refine x_getI fl_RX11_227 (by decide) hq7 hC (zdk dk_X11_passDay 12 rfl) (q := 25) rfl ?_
      refine x_if_eq (tgt := 55) hC (zdk dk_X11_passDay 13 rfl) (q := 28) rfl rfl (fun _ => ?_) (fun _ => ?_)
      · refine x_weak (L' := [.ref r0, .int x1]) ⟨Or.inr rfl, Or.inr rfl, trivial⟩ ?_
        exact x_X11_passDay_55 hC hE hk0 h_r0 (f_X11_passDay_2 r0 f) ih _ _
      · refine x_aload_n (i := 0) rfl hC (zdk dk_X11_passDay 14 rfl) (q := 29) rfl ?_
        refine x_getR (k := 10) fl_RX11_19 rfl h_r0 hC (zdk dk_X11_passDay 15 rfl) (q := 32) rfl (fun q8 hq8 => ?_)
        refine x_aload_n (i := 0) rfl hC (zdk dk_X11_passDay 16 rfl) (q := 33) rfl ?_
        refine x_getR (k := 0) fl_RX11_82 rfl h_r0 hC (zdk dk_X11_passDay 17 rfl) (q := 36) rfl (fun q9 hq9 => ?_)
        refine x_aload_n (i := 0) rfl hC (zdk dk_X11_passDay 18 rfl) (q := 37) rfl ?_
        refine x_getR (k := 5) fl_RX11_42 rfl h_r0 hC (zdk dk_X11_passDay 19 rfl) (q := 40) rfl (fun q10 hq10 => ?_)
        refine x_getR (k := 23) fl_RX11_224 rfl hq10 hC (zdk dk_X11_passDay 20 rfl) (q := 43) rfl (fun q11 hq11 => ?_)
        refine x_iload_n (i := 1) rfl hC (zdk dk_X11_passDay 21 rfl) (q := 44) rfl ?_
        refine x_aald (kd := 23) (ke := 8) hq11 (by decide) rfl hC (zdk dk_X11_passDay 22 rfl) (q := 45) rfl (fun k12 _ q13 hq13 => ?_)
        refine x_aload_n (i := 0) rfl hC (zdk dk_X11_passDay 23 rfl) (q := 46) rfl ?_
        refine x_getR (k := 5) fl_RX11_42 rfl h_r0 hC (zdk dk_X11_passDay 24 rfl) (q := 49) rfl (fun q14 hq14 => ?_)
        refine x_getI fl_RX11_164 (by decide) hq14 hC (zdk dk_X11_passDay 25 rfl) (q := 52) rfl ?_
        refine x_callVv (as := [.ref q9, .ref q13, .int (zI M q14 1)]) cb_RX11_320 rfl (by decide) hk0 hq8 (fun x hx => t_X10_passDay hq8 hq9 hq13 x hx) hC (zdk dk_X11_passDay 26 rfl) (q := 55) rfl rfl (Nat.le_of_ble_eq_true rfl) (fun M15 => ?_)
        refine x_weak (L' := [.ref r0, .int x1]) ⟨Or.inr rfl, Or.inr rfl, trivial⟩ ?_
        exact x_X11_passDay_55 hC hE hk0 h_r0 (f_X11_passDay_2 r0 f) ih _ _
set_option maxRecDepth 100000 in
def f_X11_passDay (r0 : Nat) (M : Mem) : Option Mem := f_X11_passDay_2 r0 1000000 0 M
set_option maxRecDepth 100000 in
set_option maxHeartbeats 4000000 in
theorem x_X11_passDay {κ : KX} {n : Nat} (hC : CX κ cX11_passDay RX11 2 none 6) (hE : zEnd κ n (0, 0)) (hk0 : zRk κ (0, 0)) (r0 : Nat) (M : Mem) (h_r0 : zO n r0 11) : X κ 2 emV n (0, 0) 0 [.ref r0, .null] [] M (f_X11_passDay r0 M) := by
  unfold f_X11_passDay
  refine x_iconst (i := 0) c_iconst_0 hC (zdk dk_X11_passDay 0 rfl) (q := 1) rfl ?_
  refine x_istore_n (i := 1) (L' := [.ref r0, .int 0]) (by decide) rfl hC (zdk dk_X11_passDay 1 rfl) (q := 2) rfl ?_
  refine x_weak (L' := [.ref r0, .int 0]) ⟨Or.inr rfl, Or.inr rfl, trivial⟩ ?_
  exact x_X11_passDay_2 hC hE hk0 h_r0 _ _ _
set_option maxRecDepth 100000 in
set_option maxHeartbeats 4000000 in
theorem t_X11_passDay {n : Nat} {r0 : Nat} {M : Mem} (h_r0 : zO n r0 11) (x : Mem) (hx : f_X11_passDay r0 M = some x) (l : Launch) (dC : Nat → ClassId) (dI : Nat → Nat → Nat) (b : zSg) : MT l dC dI b yX11_passDay cX11_passDay 2 none 6 0 0 n n [.ref r0] M (emV x).1 (emV x).2 :=
  MT.ofX (by decide +kernel) rfl (Nat.le_of_ble_eq_true rfl) (fun κ hC hF _ => x_X11_passDay hC (zEnd_of hF (Nat.le_refl _) (Nat.le_refl _)) (zRk_of hF (Nat.le_refl _) (Nat.le_refl _)) _ _ h_r0) x hx
set_option maxRecDepth 100000 in
def dt_X11_days : List (Nat × Instr × Nat) := [(0, .aload_n 0, 1), (1, .getfield 120, 3), (4, .ifCond .eq 16, 3), (7, .iload_n 1, 1), (8, .iconst 1, 1), (9, .if_icmp .lt 11, 3), (12, .aload_n 0, 1), (13, .iload_n 1, 1), (14, .invokevirtual 248, 3), (17, .ifCond .ne 9, 3), (20, .aload_n 0, 1), (21, .iconst 2, 1), (22, .invokevirtual 105, 3), (25, .ireturn, 1), (26, .aload_n 0, 1), (27, .getfield 61, 3), (30, .aload_n 0, 1), (31, .getfield 42, 3), (34, .invokevirtual 353, 3), (37, .iconst 0, 1), (38, .istore_n 2, 1), (39, .iload_n 2, 1), (40, .iload_n 1, 1), (41, .if_icmp .ge 13, 3), (44, .aload_n 0, 1), (45, .invokevirtual 366, 3), (48, .iinc 2 1, 3), (51, .goto (-12), 3), (54, .iconst 0, 1), (55, .istore_n 2, 1), (56, .iconst 0, 1), (57, .istore_n 3, 1), (58, .iload_n 3, 1), (59, .aload_n 0, 1), (60, .getfield 82, 3), (63, .getfield 159, 3), (66, .if_icmp .ge 62, 3), (69, .aload_n 0, 1), (70, .getfield 42, 3), (73, .getfield 224, 3), (76, .iload_n 3, 1), (77, .aaload, 1), (78, .getfield 227, 3), (81, .ifCond .eq 41, 3), (84, .aload_n 0, 1), (85, .getfield 35, 3), (88, .aload_n 0, 1), (89, .getfield 82, 3), (92, .aload_n 0, 1), (93, .getfield 42, 3), (96, .getfield 224, 3), (99, .iload_n 3, 1), (100, .aaload, 1), (101, .invokevirtual 291, 3), (104, .iload_n 2, 1), (105, .aload_n 0, 1), (106, .getfield 35, 3), (109, .getfield 307, 3), (112, .ifCond .eq 7, 3), (115, .iconst 1, 1), (116, .goto 4, 3), (119, .iconst 0, 1), (120, .iadd, 1), (121, .istore_n 2, 1), (122, .iinc 3 1, 3), (125, .goto (-67), 3), (128, .iload_n 2, 1), (129, .ireturn, 1)]
set_option maxRecDepth 100000 in
theorem dk_X11_days : dt_X11_days.all (fun q => decide (decode cX11_days q.1 = .ok q.2)) = true := by decide +kernel
set_option maxRecDepth 100000 in
def f_X11_days_20  (r0 : Nat) (x1 : Int32)  (M : Mem) : Option (Int32 × Mem) := Option.bind (f_X11_refuse r0 2 M) fun z1 => some (z1.1, z1.2)
set_option maxRecDepth 100000 in
set_option maxHeartbeats 4000000 in
theorem x_X11_days_20 {κ : KX} {n : Nat} (hC : CX κ cX11_days RX11 4 (some .int) 7) (hE : zEnd κ n (0, 0)) (hk0 : zRk κ (0, 0)) {r0 : Nat} {x1 : Int32} (h_r0 : zO n r0 11) (M : Mem) : X κ 4 emI n (0, 0) 20 [.ref r0, .null, .null, .null] [] M (f_X11_days_20 r0 x1 M) := by
  unfold f_X11_days_20
  refine x_aload_n (i := 0) rfl hC (zdk dk_X11_days 10 rfl) (q := 21) rfl ?_
  refine x_iconst (i := 2) c_iconst_2 hC (zdk dk_X11_days 11 rfl) (q := 22) rfl ?_
  refine x_callVi (as := [.int 2]) cb_RX11_105 rfl (by decide) hk0 h_r0 (fun x hx => t_X11_refuse h_r0 x hx) hC (zdk dk_X11_days 12 rfl) (q := 25) rfl rfl (Nat.le_of_ble_eq_true rfl) (fun z1 => ?_)
  exact x_iret (ty := .int) rfl hE hC (zdk dk_X11_days 13 rfl)
set_option maxRecDepth 100000 in
def f_X11_days_122 (k58 : Int32 → Int32 → Mem → Option (Int32 × Mem)) (r0 : Nat) (x1 : Int32) (x2 : Int32) (x3 : Int32) (M : Mem) : Option (Int32 × Mem) := k58 x2 (x3 + 1) M
set_option maxRecDepth 100000 in
set_option maxHeartbeats 4000000 in
theorem x_X11_days_122 {κ : KX} {n : Nat} (hC : CX κ cX11_days RX11 4 (some .int) 7) (hE : zEnd κ n (0, 0)) (hk0 : zRk κ (0, 0)) {r0 : Nat} {x1 : Int32} (h_r0 : zO n r0 11) (k58 : Int32 → Int32 → Mem → Option (Int32 × Mem)) (hk58 : ∀ (x2 : Int32) (x3 : Int32) (M : Mem), X κ 4 emI n (0, 0) 58 [.ref r0, .null, .int x2, .int x3] [] M (k58 x2 x3 M)) (x2 : Int32) (x3 : Int32) (M : Mem) : X κ 4 emI n (0, 0) 122 [.ref r0, .null, .int x2, .int x3] [] M (f_X11_days_122 k58 r0 x1 x2 x3 M) := by
  unfold f_X11_days_122
  refine x_iinc (i := 3) c_iconst_1 rfl (by decide) (L' := [.ref r0, .null, .int x2, .int (x3 + 1)]) rfl hC (zdk dk_X11_days 64 rfl) (q := 125) rfl ?_
  refine x_goto (tgt := 58) hC (zdk dk_X11_days 65 rfl) rfl ?_
  refine x_weak (L' := [.ref r0, .null, .int x2, .int (x3 + 1)]) ⟨Or.inr rfl, Or.inl rfl, Or.inr rfl, Or.inr rfl, trivial⟩ ?_
  exact hk58 _ _ _
set_option maxRecDepth 100000 in
def f_X11_days_120 (k58 : Int32 → Int32 → Mem → Option (Int32 × Mem)) (r0 : Nat) (x1 : Int32) (x3 : Int32) (s0 : Int32) (s1 : Int32) (M : Mem) : Option (Int32 × Mem) := f_X11_days_122 k58 r0 x1 (s0 + s1) x3 M
set_option maxRecDepth 100000 in
set_option maxHeartbeats 4000000 in
theorem x_X11_days_120 {κ : KX} {n : Nat} (hC : CX κ cX11_days RX11 4 (some .int) 7) (hE : zEnd κ n (0, 0)) (hk0 : zRk κ (0, 0)) {r0 : Nat} {x1 : Int32} (h_r0 : zO n r0 11) (k58 : Int32 → Int32 → Mem → Option (Int32 × Mem)) (hk58 : ∀ (x2 : Int32) (x3 : Int32) (M : Mem), X κ 4 emI n (0, 0) 58 [.ref r0, .null, .int x2, .int x3] [] M (k58 x2 x3 M)) (x3 : Int32) (s0 : Int32) (s1 : Int32) (M : Mem) : X κ 4 emI n (0, 0) 120 [.ref r0, .null, .null, .int x3] [.int s1, .int s0] M (f_X11_days_120 k58 r0 x1 x3 s0 s1 M) := by
  unfold f_X11_days_120
  refine x_iadd hC (zdk dk_X11_days 62 rfl) (q := 121) rfl ?_
  refine x_istore_n (i := 2) (L' := [.ref r0, .null, .int (s0 + s1), .int x3]) (by decide) rfl hC (zdk dk_X11_days 63 rfl) (q := 122) rfl ?_
  refine x_weak (L' := [.ref r0, .null, .int (s0 + s1), .int x3]) ⟨Or.inr rfl, Or.inl rfl, Or.inr rfl, Or.inr rfl, trivial⟩ ?_
  exact x_X11_days_122 hC hE hk0 h_r0 k58 hk58 _ _ _
set_option maxRecDepth 100000 in
def f_X11_days_58  (r0 : Nat) (x1 : Int32) : Nat → Int32 → Int32 → Mem → Option (Int32 × Mem)
  | 0, _, _, _ => none
  | f + 1, x2, x3, M => Option.bind (zrf M r0 11) fun q2 => (if zI M q2 9 ≤ x3 then some (x2, M) else Option.bind (zrf M r0 5) fun q3 => Option.bind (zrf M q3 0) fun q4 => Option.bind (zld q4 x3) fun k5 => Option.bind (zrf M q4 k5) fun q6 => (if zI M q6 2 = 0 then f_X11_days_122 (f_X11_days_58 r0 x1 f) r0 x1 x2 x3 M else Option.bind (zrf M r0 4) fun q7 => Option.bind (zrf M r0 11) fun q8 => Option.bind (zrf M r0 5) fun q9 => Option.bind (zrf M q9 0) fun q10 => Option.bind (zld q10 x3) fun k11 => Option.bind (zrf M q10 k11) fun q12 => Option.bind (f_X3_get q7 q8 q12 M) fun M13 => Option.bind (zrf M13 r0 4) fun q14 => (if zI M13 q14 7 = 0 then f_X11_days_120 (f_X11_days_58 r0 x1 f) r0 x1 x3 x2 0 M13 else f_X11_days_120 (f_X11_days_58 r0 x1 f) r0 x1 x3 x2 1 M13)))
set_option maxRecDepth 100000 in
set_option maxHeartbeats 4000000 in
theorem x_X11_days_58 {κ : KX} {n : Nat} (hC : CX κ cX11_days RX11 4 (some .int) 7) (hE : zEnd κ n (0, 0)) (hk0 : zRk κ (0, 0)) {r0 : Nat} {x1 : Int32} (h_r0 : zO n r0 11) : ∀ (f : Nat) (x2 : Int32) (x3 : Int32) (M : Mem), X κ 4 emI n (0, 0) 58 [.ref r0, .null, .int x2, .int x3] [] M (f_X11_days_58 r0 x1 f x2 x3 M) := by
  intro f
  induction f with
  | zero => intros; exact x_none
  | succ f ih =>
    intro x2 x3 M 
    rw [f_X11_days_58]
    refine x_iload_n (i := 3) rfl hC (zdk dk_X11_days 32 rfl) (q := 59) rfl ?_
    refine x_aload_n (i := 0) rfl hC (zdk dk_X11_days 33 rfl) (q := 60) rfl ?_
    refine x_getR (k := 0) fl_RX11_82 rfl h_r0 hC (zdk dk_X11_days 34 rfl) (q := 63) rfl (fun q2 hq2 => ?_)
    refine x_getI fl_RX11_159 (by decide) hq2 hC (zdk dk_X11_days 35 rfl) (q := 66) rfl ?_
    refine x_icmp_ge (tgt := 128) hC (zdk dk_X11_days 36 rfl) (q := 69) rfl rfl (fun _ => ?_) (fun _ => ?_)
    · refine x_iload_n (i := 2) rfl hC (zdk dk_X11_days 66 rfl) (q := 129) rfl ?_
      exact x_iret (ty := .int) rfl hE hC (zdk dk_X11_days 67 rfl)
    · refine x_aload_n (i := 0) rfl hC (zdk dk_X11_days 37 rfl) (q := 70) rfl ?_
      refine x_getR (k := 5) fl_RX11_42 rfl h_r0 hC (zdk dk_X11_days 38 rfl) (q := 73) rfl (fun q3 hq3 => ?_)
      refine x_getR (k := 23) fl_RX11_224 rfl hq3 hC (zdk dk_X11_days 39 rfl) (q := 76) rfl (fun q4 hq4 => ?_)
      refine x_iload_n (i := 3) rfl hC (zdk dk_X11_days 40 rfl) (q := 77) rfl ?_
      refine x_aald (kd := 23) (ke := 8) hq4 (by decide) rfl hC (zdk dk_X11_days 41 rfl) (q := 78) rfl (fun k5 _ q6 hq6 => ?_)
      refine x_getI fl_RX11_227 (by decide) hq6 hC (zdk dk_X11_days 42 rfl) (q := 81) rfl ?_
      refine x_if_eq (tgt := 122) hC (zdk dk_X11_days 43 rfl) (q := 84) rfl rfl (fun _ => ?_) (fun _ => ?_)
      · refine x_weak (L' := [.ref r0, .null, .int x2, .int x3]) ⟨Or.inr rfl, Or.inl rfl, Or.inr rfl, Or.inr rfl, trivial⟩ ?_
        exact x_X11_days_122 hC hE hk0 h_r0 (f_X11_days_58 r0 x1 f) ih _ _ _
      · refine x_aload_n (i := 0) rfl hC (zdk dk_X11_days 44 rfl) (q := 85) rfl ?_
        refine x_getR (k := 3) fl_RX11_35 rfl h_r0 hC (zdk dk_X11_days 45 rfl) (q := 88) rfl (fun q7 hq7 => ?_)
        refine x_aload_n (i := 0) rfl hC (zdk dk_X11_days 46 rfl) (q := 89) rfl ?_
        refine x_getR (k := 0) fl_RX11_82 rfl h_r0 hC (zdk dk_X11_days 47 rfl) (q := 92) rfl (fun q8 hq8 => ?_)
        refine x_aload_n (i := 0) rfl hC (zdk dk_X11_days 48 rfl) (q := 93) rfl ?_
        refine x_getR (k := 5) fl_RX11_42 rfl h_r0 hC (zdk dk_X11_days 49 rfl) (q := 96) rfl (fun q9 hq9 => ?_)
        refine x_getR (k := 23) fl_RX11_224 rfl hq9 hC (zdk dk_X11_days 50 rfl) (q := 99) rfl (fun q10 hq10 => ?_)
        refine x_iload_n (i := 3) rfl hC (zdk dk_X11_days 51 rfl) (q := 100) rfl ?_
        refine x_aald (kd := 23) (ke := 8) hq10 (by decide) rfl hC (zdk dk_X11_days 52 rfl) (q := 101) rfl (fun k11 _ q12 hq12 => ?_)
        refine x_callVv (as := [.ref q8, .ref q12]) cb_RX11_291 rfl (by decide) hk0 hq7 (fun x hx => t_X3_get hq7 hq8 hq12 x hx) hC (zdk dk_X11_days 53 rfl) (q := 104) rfl rfl (Nat.le_of_ble_eq_true rfl) (fun M13 => ?_)
        refine x_iload_n (i := 2) rfl hC (zdk dk_X11_days 54 rfl) (q := 105) rfl ?_
        refine x_aload_n (i := 0) rfl hC (zdk dk_X11_days 55 rfl) (q := 106) rfl ?_
        refine x_getR (k := 3) fl_RX11_35 rfl h_r0 hC (zdk dk_X11_days 56 rfl) (q := 109) rfl (fun q14 hq14 => ?_)
        refine x_getI fl_RX11_307 (by decide) hq14 hC (zdk dk_X11_days 57 rfl) (q := 112) rfl ?_
        refine x_if_eq (tgt := 119) hC (zdk dk_X11_days 58 rfl) (q := 115) rfl rfl (fun _ => ?_) (fun _ => ?_)
        · refine x_iconst (i := 0) c_iconst_0 hC (zdk dk_X11_days 61 rfl) (q := 120) rfl ?_
          refine x_weak (L' := [.ref r0, .null, .null, .int x3]) ⟨Or.inr rfl, Or.inl rfl, Or.inl rfl, Or.inr rfl, trivial⟩ ?_
          exact x_X11_days_120 hC hE hk0 h_r0 (f_X11_days_58 r0 x1 f) ih _ _ _ _
        · refine x_iconst (i := 1) c_iconst_1 hC (zdk dk_X11_days 59 rfl) (q := 116) rfl ?_
          refine x_goto (tgt := 120) hC (zdk dk_X11_days 60 rfl) rfl ?_
          refine x_weak (L' := [.ref r0, .null, .null, .int x3]) ⟨Or.inr rfl, Or.inl rfl, Or.inl rfl, Or.inr rfl, trivial⟩ ?_
          exact x_X11_days_120 hC hE hk0 h_r0 (f_X11_days_58 r0 x1 f) ih _ _ _ _
set_option maxRecDepth 100000 in
def f_X11_days_39  (r0 : Nat) (x1 : Int32) : Nat → Int32 → Mem → Option (Int32 × Mem)
  | 0, _, _ => none
  | f + 1, x2, M => (if x1 ≤ x2 then f_X11_days_58 r0 x1 1000000 0 0 M else Option.bind (f_X11_passDay r0 M) fun M15 => (f_X11_days_39 r0 x1 f) (x2 + 1) M15)
set_option maxRecDepth 100000 in
set_option maxHeartbeats 4000000 in
theorem x_X11_days_39 {κ : KX} {n : Nat} (hC : CX κ cX11_days RX11 4 (some .int) 7) (hE : zEnd κ n (0, 0)) (hk0 : zRk κ (0, 0)) {r0 : Nat} {x1 : Int32} (h_r0 : zO n r0 11) : ∀ (f : Nat) (x2 : Int32) (M : Mem), X κ 4 emI n (0, 0) 39 [.ref r0, .int x1, .int x2, .null] [] M (f_X11_days_39 r0 x1 f x2 M) := by
  intro f
  induction f with
  | zero => intros; exact x_none
  | succ f ih =>
    intro x2 M 
    rw [f_X11_days_39]
    refine x_iload_n (i := 2) rfl hC (zdk dk_X11_days 21 rfl) (q := 40) rfl ?_
    refine x_iload_n (i := 1) rfl hC (zdk dk_X11_days 22 rfl) (q := 41) rfl ?_
    refine x_icmp_ge (tgt := 54) hC (zdk dk_X11_days 23 rfl) (q := 44) rfl rfl (fun _ => ?_) (fun _ => ?_)
    · refine x_iconst (i := 0) c_iconst_0 hC (zdk dk_X11_days 28 rfl) (q := 55) rfl ?_
      refine x_istore_n (i := 2) (L' := [.ref r0, .int x1, .int 0, .null]) (by decide) rfl hC (zdk dk_X11_days 29 rfl) (q := 56) rfl ?_
      refine x_iconst (i := 0) c_iconst_0 hC (zdk dk_X11_days 30 rfl) (q := 57) rfl ?_
      refine x_istore_n (i := 3) (L' := [.ref r0, .int x1, .int 0, .int 0]) (by decide) rfl hC (zdk dk_X11_days 31 rfl) (q := 58) rfl ?_
      refine x_weak (L' := [.ref r0, .null, .int 0, .int 0]) ⟨Or.inr rfl, Or.inl rfl, Or.inr rfl, Or.inr rfl, trivial⟩ ?_
      exact x_X11_days_58 hC hE hk0 h_r0 _ _ _ _
    · refine x_aload_n (i := 0) rfl hC (zdk dk_X11_days 24 rfl) (q := 45) rfl ?_
      refine x_callVv (as := []) cb_RX11_366 rfl (by decide) hk0 h_r0 (fun x hx => t_X11_passDay h_r0 x hx) hC (zdk dk_X11_days 25 rfl) (q := 48) rfl rfl (Nat.le_of_ble_eq_true rfl) (fun M15 => ?_)
      refine x_iinc (i := 2) c_iconst_1 rfl (by decide) (L' := [.ref r0, .int x1, .int (x2 + 1), .null]) rfl hC (zdk dk_X11_days 26 rfl) (q := 51) rfl ?_
      refine x_goto (tgt := 39) hC (zdk dk_X11_days 27 rfl) rfl ?_
      refine x_weak (L' := [.ref r0, .int x1, .int (x2 + 1), .null]) ⟨Or.inr rfl, Or.inr rfl, Or.inr rfl, Or.inl rfl, trivial⟩ ?_
      exact ih _ _
set_option maxRecDepth 100000 in
def f_X11_days (r0 : Nat) (x1 : Int32) (M : Mem) : Option (Int32 × Mem) := (if zI M r0 14 = 0 then f_X11_days_20 r0 x1 M else (if x1 < 1 then f_X11_days_20 r0 x1 M else Option.bind (f_X11_daysFit r0 x1 M) fun z16 => (if z16.1 = 0 then f_X11_days_20 r0 x1 z16.2 else Option.bind (zrf z16.2 r0 8) fun q17 => Option.bind (zrf z16.2 r0 5) fun q18 => Option.bind (f_X7_save q17 q18 z16.2) fun M19 => f_X11_days_39 r0 x1 1000000 0 M19)))
set_option maxRecDepth 100000 in
set_option maxHeartbeats 4000000 in
theorem x_X11_days {κ : KX} {n : Nat} (hC : CX κ cX11_days RX11 4 (some .int) 7) (hE : zEnd κ n (0, 0)) (hk0 : zRk κ (0, 0)) (r0 : Nat) (x1 : Int32) (M : Mem) (h_r0 : zO n r0 11) : X κ 4 emI n (0, 0) 0 [.ref r0, .int x1, .null, .null] [] M (f_X11_days r0 x1 M) := by
  unfold f_X11_days
  refine x_aload_n (i := 0) rfl hC (zdk dk_X11_days 0 rfl) (q := 1) rfl ?_
  refine x_getI fl_RX11_120 (by decide) h_r0 hC (zdk dk_X11_days 1 rfl) (q := 4) rfl ?_
  refine x_if_eq (tgt := 20) hC (zdk dk_X11_days 2 rfl) (q := 7) rfl rfl (fun _ => ?_) (fun _ => ?_)
  · refine x_weak (L' := [.ref r0, .null, .null, .null]) ⟨Or.inr rfl, Or.inl rfl, Or.inl rfl, Or.inl rfl, trivial⟩ ?_
    exact x_X11_days_20 hC hE hk0 h_r0 _
  · refine x_iload_n (i := 1) rfl hC (zdk dk_X11_days 3 rfl) (q := 8) rfl ?_
    refine x_iconst (i := 1) c_iconst_1 hC (zdk dk_X11_days 4 rfl) (q := 9) rfl ?_
    refine x_icmp_lt (tgt := 20) hC (zdk dk_X11_days 5 rfl) (q := 12) rfl rfl (fun _ => ?_) (fun _ => ?_)
    · refine x_weak (L' := [.ref r0, .null, .null, .null]) ⟨Or.inr rfl, Or.inl rfl, Or.inl rfl, Or.inl rfl, trivial⟩ ?_
      exact x_X11_days_20 hC hE hk0 h_r0 _
    · refine x_aload_n (i := 0) rfl hC (zdk dk_X11_days 6 rfl) (q := 13) rfl ?_
      refine x_iload_n (i := 1) rfl hC (zdk dk_X11_days 7 rfl) (q := 14) rfl ?_
      refine x_callVi (as := [.int x1]) cb_RX11_248 rfl (by decide) hk0 h_r0 (fun x hx => t_X11_daysFit h_r0 x hx) hC (zdk dk_X11_days 8 rfl) (q := 17) rfl rfl (Nat.le_of_ble_eq_true rfl) (fun z16 => ?_)
      refine x_if_ne (tgt := 26) hC (zdk dk_X11_days 9 rfl) (q := 20) rfl rfl (fun _ => ?_) (fun _ => ?_)
      · refine x_aload_n (i := 0) rfl hC (zdk dk_X11_days 14 rfl) (q := 27) rfl ?_
        refine x_getR (k := 7) fl_RX11_61 rfl h_r0 hC (zdk dk_X11_days 15 rfl) (q := 30) rfl (fun q17 hq17 => ?_)
        refine x_aload_n (i := 0) rfl hC (zdk dk_X11_days 16 rfl) (q := 31) rfl ?_
        refine x_getR (k := 5) fl_RX11_42 rfl h_r0 hC (zdk dk_X11_days 17 rfl) (q := 34) rfl (fun q18 hq18 => ?_)
        refine x_callVv (as := [.ref q18]) cb_RX11_353 rfl (by decide) hk0 hq17 (fun x hx => t_X7_save hq17 hq18 x hx) hC (zdk dk_X11_days 18 rfl) (q := 37) rfl rfl (Nat.le_of_ble_eq_true rfl) (fun M19 => ?_)
        refine x_iconst (i := 0) c_iconst_0 hC (zdk dk_X11_days 19 rfl) (q := 38) rfl ?_
        refine x_istore_n (i := 2) (L' := [.ref r0, .int x1, .int 0, .null]) (by decide) rfl hC (zdk dk_X11_days 20 rfl) (q := 39) rfl ?_
        refine x_weak (L' := [.ref r0, .int x1, .int 0, .null]) ⟨Or.inr rfl, Or.inr rfl, Or.inr rfl, Or.inl rfl, trivial⟩ ?_
        exact x_X11_days_39 hC hE hk0 h_r0 _ _ _
      · refine x_weak (L' := [.ref r0, .null, .null, .null]) ⟨Or.inr rfl, Or.inl rfl, Or.inl rfl, Or.inl rfl, trivial⟩ ?_
        exact x_X11_days_20 hC hE hk0 h_r0 _
set_option maxRecDepth 100000 in
set_option maxHeartbeats 4000000 in
theorem t_X11_days {n : Nat} {r0 : Nat} {x1 : Int32} {M : Mem} (h_r0 : zO n r0 11) (x : (Int32 × Mem)) (hx : f_X11_days r0 x1 M = some x) (l : Launch) (dC : Nat → ClassId) (dI : Nat → Nat → Nat) (b : zSg) : MT l dC dI b yX11_days cX11_days 4 (some .int) 7 0 0 n n [.ref r0, .int x1] M (emI x).1 (emI x).2 :=
  MT.ofX (by decide +kernel) rfl (Nat.le_of_ble_eq_true rfl) (fun κ hC hF _ => x_X11_days hC (zEnd_of hF (Nat.le_refl _) (Nat.le_refl _)) (zRk_of hF (Nat.le_refl _) (Nat.le_refl _)) _ _ _ h_r0) x hx
set_option maxRecDepth 100000 in
def dt_X11_draw : List (Nat × Instr × Nat) := [(0, .aload_n 0, 1), (1, .ldc2_w 397, 3), (4, .aload_n 0, 1), (5, .getfield 98, 3), (8, .i2l, 1), (9, .lmul, 1), (10, .ldc2_w 399, 3), (13, .ladd, 1), (14, .ldc2_w 401, 3), (17, .lrem, 1), (18, .l2i, 1), (19, .putfield 98, 3), (22, .iload_n 1, 1), (23, .ifCond .le 15, 3), (26, .aload_n 0, 1), (27, .getfield 98, 3), (30, .bipush 64, 2), (32, .idiv, 1), (33, .iload_n 1, 1), (34, .irem, 1), (35, .goto 4, 3), (38, .iconst 0, 1), (39, .ireturn, 1)]
set_option maxRecDepth 100000 in
theorem dk_X11_draw : dt_X11_draw.all (fun q => decide (decode cX11_draw q.1 = .ok q.2)) = true := by decide +kernel
set_option maxRecDepth 100000 in
def f_X11_draw_39  (r0 : Nat) (x1 : Int32) (s0 : Int32) (M : Mem) : Option (Int32 × Mem) := some (s0, M)
set_option maxRecDepth 100000 in
set_option maxHeartbeats 4000000 in
theorem x_X11_draw_39 {κ : KX} {n : Nat} (hC : CX κ cX11_draw RX11 2 (some .int) 0) (hE : zEnd κ n (0, 0)) (hk0 : zRk κ (0, 0)) {r0 : Nat} {x1 : Int32} (h_r0 : zO n r0 11) (s0 : Int32) (M : Mem) : X κ 2 emI n (0, 0) 39 [.null, .null] [.int s0] M (f_X11_draw_39 r0 x1 s0 M) := by
  unfold f_X11_draw_39
  exact x_iret (ty := .int) rfl hE hC (zdk dk_X11_draw 22 rfl)
set_option maxRecDepth 100000 in
def f_X11_draw (r0 : Nat) (x1 : Int32) (M : Mem) : Option (Int32 × Mem) := Option.bind (some (zsI M r0 16 ((zlrem ((1103515245 * ((zI M r0 16).toInt64)) + 12345) 2147483648).toInt32))) fun M1 => (if x1 ≤ 0 then f_X11_draw_39 r0 x1 0 M1 else if x1 = 0 then none else f_X11_draw_39 r0 x1 (zrem ((zI M1 r0 16) / 64) x1) M1)
set_option maxRecDepth 100000 in
set_option maxHeartbeats 4000000 in
theorem x_X11_draw {κ : KX} {n : Nat} (hC : CX κ cX11_draw RX11 2 (some .int) 0) (hE : zEnd κ n (0, 0)) (hk0 : zRk κ (0, 0)) (r0 : Nat) (x1 : Int32) (M : Mem) (h_r0 : zO n r0 11) : X κ 2 emI n (0, 0) 0 [.ref r0, .int x1] [] M (f_X11_draw r0 x1 M) := by
  unfold f_X11_draw
  refine x_aload_n (i := 0) rfl hC (zdk dk_X11_draw 0 rfl) (q := 1) rfl ?_
  refine x_ldc2 k_RX11_397 hC (zdk dk_X11_draw 1 rfl) (q := 4) rfl ?_
  refine x_aload_n (i := 0) rfl hC (zdk dk_X11_draw 2 rfl) (q := 5) rfl ?_
  refine x_getI fl_RX11_98 (by decide) h_r0 hC (zdk dk_X11_draw 3 rfl) (q := 8) rfl ?_
  refine x_i2l hC (zdk dk_X11_draw 4 rfl) (q := 9) rfl ?_
  refine x_lmul hC (zdk dk_X11_draw 5 rfl) (q := 10) rfl ?_
  refine x_ldc2 k_RX11_399 hC (zdk dk_X11_draw 6 rfl) (q := 13) rfl ?_
  refine x_ladd hC (zdk dk_X11_draw 7 rfl) (q := 14) rfl ?_
  refine x_ldc2 k_RX11_401 hC (zdk dk_X11_draw 8 rfl) (q := 17) rfl ?_
  refine x_lrem (by decide) hC (zdk dk_X11_draw 9 rfl) (q := 18) rfl ?_
  refine x_l2i hC (zdk dk_X11_draw 10 rfl) (q := 19) rfl ?_
  refine x_putI fl_RX11_98 ⟨rfl, rfl⟩ (by decide) (Or.inl rfl) h_r0 hC (zdk dk_X11_draw 11 rfl) (q := 22) rfl ?_
  refine x_nmM (fun M1 => ?_)
  refine x_iload_n (i := 1) rfl hC (zdk dk_X11_draw 12 rfl) (q := 23) rfl ?_
  refine x_if_le (tgt := 38) hC (zdk dk_X11_draw 13 rfl) (q := 26) rfl rfl (fun _ => ?_) (fun _ => ?_)
  · refine x_iconst (i := 0) c_iconst_0 hC (zdk dk_X11_draw 21 rfl) (q := 39) rfl ?_
    refine x_weak (L' := [.null, .null]) ⟨Or.inl rfl, Or.inl rfl, trivial⟩ ?_
    exact x_X11_draw_39 hC hE hk0 h_r0 _ _
  · refine x_aload_n (i := 0) rfl hC (zdk dk_X11_draw 14 rfl) (q := 27) rfl ?_
    refine x_getI fl_RX11_98 (by decide) h_r0 hC (zdk dk_X11_draw 15 rfl) (q := 30) rfl ?_
    refine x_bipush (i := 64) c_bipush_64 hC (zdk dk_X11_draw 16 rfl) (q := 32) rfl ?_
    refine x_idiv (by decide) hC (zdk dk_X11_draw 17 rfl) (q := 33) rfl ?_
    refine x_iload_n (i := 1) rfl hC (zdk dk_X11_draw 18 rfl) (q := 34) rfl ?_
    refine x_iremG hC (zdk dk_X11_draw 19 rfl) (q := 35) rfl ?_
    refine x_goto (tgt := 39) hC (zdk dk_X11_draw 20 rfl) rfl ?_
    refine x_weak (L' := [.null, .null]) ⟨Or.inl rfl, Or.inl rfl, trivial⟩ ?_
    exact x_X11_draw_39 hC hE hk0 h_r0 _ _
set_option maxRecDepth 100000 in
set_option maxHeartbeats 4000000 in
theorem t_X11_draw {n : Nat} {r0 : Nat} {x1 : Int32} {M : Mem} (h_r0 : zO n r0 11) (x : (Int32 × Mem)) (hx : f_X11_draw r0 x1 M = some x) (l : Launch) (dC : Nat → ClassId) (dI : Nat → Nat → Nat) (b : zSg) : MT l dC dI b yX11_draw cX11_draw 2 (some .int) 0 0 0 n n [.ref r0, .int x1] M (emI x).1 (emI x).2 :=
  MT.ofX (by decide +kernel) rfl (Nat.le_of_ble_eq_true rfl) (fun κ hC hF _ => x_X11_draw hC (zEnd_of hF (Nat.le_refl _) (Nat.le_refl _)) (zRk_of hF (Nat.le_refl _) (Nat.le_refl _)) _ _ _ h_r0) x hx
