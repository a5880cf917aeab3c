set_option maxRecDepth 100000 in
def dt_J9_max_f86c9 : List (Nat × Instr × Nat) := [(0, .lload_n 0, 1), (1, .lload_n 2, 1), (2, .lcmp, 1), (3, .ifCond .lt 7, 3), (6, .lload_n 0, 1), (7, .goto 4, 3), (10, .lload_n 2, 1), (11, .lreturn, 1)]
set_option maxRecDepth 100000 in
theorem dk_J9_max_f86c9 : dt_J9_max_f86c9.all (fun q => decide (decode cJ9_max_f86c9 q.1 = .ok q.2)) = true := by decide +kernel
set_option maxRecDepth 100000 in
def f_J9_max_f86c9_11  (y0 : Int64) (y2 : Int64) (s0 : Int64) (M : Mem) : Option (Int64 × Mem) := some (s0, M)
set_option maxRecDepth 100000 in
set_option maxHeartbeats 4000000 in
theorem x_J9_max_f86c9_11 {κ : KX} {n : Nat} (hC : CX κ cJ9_max_f86c9 RJ9 4 (some .long) 0) (hE : zEnd κ n (0, 0)) (hk0 : zRk κ (0, 0)) {y0 : Int64} {y2 : Int64} (s0 : Int64) (M : Mem) : X κ 4 emL n (0, 0) 11 [.null, .null, .null, .null] [.long s0] M (f_J9_max_f86c9_11 y0 y2 s0 M) := by
  unfold f_J9_max_f86c9_11
  exact x_lret hE hC (zdk dk_J9_max_f86c9 7 rfl)
set_option maxRecDepth 100000 in
def f_J9_max_f86c9 (y0 : Int64) (y2 : Int64) (M : Mem) : Option (Int64 × Mem) := (if lg_cmp y0 y2 < 0 then f_J9_max_f86c9_11 y0 y2 y2 M else f_J9_max_f86c9_11 y0 y2 y0 M)
set_option maxRecDepth 100000 in
set_option maxHeartbeats 4000000 in
theorem x_J9_max_f86c9 {κ : KX} {n : Nat} (hC : CX κ cJ9_max_f86c9 RJ9 4 (some .long) 0) (hE : zEnd κ n (0, 0)) (hk0 : zRk κ (0, 0)) (y0 : Int64) (y2 : Int64) (M : Mem) : X κ 4 emL n (0, 0) 0 [.long y0, .null, .long y2, .null] [] M (f_J9_max_f86c9 y0 y2 M) := by
  unfold f_J9_max_f86c9
  refine x_lload_n (i := 0) rfl hC (zdk dk_J9_max_f86c9 0 rfl) (q := 1) rfl ?_
  refine x_lload_n (i := 2) rfl hC (zdk dk_J9_max_f86c9 1 rfl) (q := 2) rfl ?_
  refine x_lcmp hC (zdk dk_J9_max_f86c9 2 rfl) (q := 3) rfl ?_
  refine x_if_lt (tgt := 10) hC (zdk dk_J9_max_f86c9 3 rfl) (q := 6) rfl rfl (fun _ => ?_) (fun _ => ?_)
  · refine x_lload_n (i := 2) rfl hC (zdk dk_J9_max_f86c9 6 rfl) (q := 11) rfl ?_
    refine x_weak (L' := [.null, .null, .null, .null]) ⟨Or.inl rfl, Or.inl rfl, Or.inl rfl, Or.inl rfl, trivial⟩ ?_
    exact x_J9_max_f86c9_11 hC hE hk0 _ _
  · refine x_lload_n (i := 0) rfl hC (zdk dk_J9_max_f86c9 4 rfl) (q := 7) rfl ?_
    refine x_goto (tgt := 11) hC (zdk dk_J9_max_f86c9 5 rfl) rfl ?_
    refine x_weak (L' := [.null, .null, .null, .null]) ⟨Or.inl rfl, Or.inl rfl, Or.inl rfl, Or.inl rfl, trivial⟩ ?_
    exact x_J9_max_f86c9_11 hC hE hk0 _ _
set_option maxRecDepth 100000 in
set_option maxHeartbeats 4000000 in
theorem t_J9_max_f86c9 {n : Nat} {y0 : Int64} {y2 : Int64} {M : Mem}  (x : (Int64 × Mem)) (hx : f_J9_max_f86c9 y0 y2 M = some x) (l : Launch) (dC : Nat → ClassId) (dI : Nat → Nat → Nat) (b : zSg) : MT l dC dI b yJ9_max_f86c9 cJ9_max_f86c9 4 (some .long) 0 0 0 n n [.long y0, .long y2] M (emL x).1 (emL x).2 :=
  MT.ofX (by decide +kernel) rfl (Nat.le_of_ble_eq_true rfl) (fun κ hC hF _ => x_J9_max_f86c9 hC (zEnd_of hF (Nat.le_refl _) (Nat.le_refl _)) (zRk_of hF (Nat.le_refl _) (Nat.le_refl _)) _ _ _ ) x hx
set_option maxRecDepth 100000 in
def dt_J9_min_f86c9 : List (Nat × Instr × Nat) := [(0, .lload_n 0, 1), (1, .lload_n 2, 1), (2, .lcmp, 1), (3, .ifCond .gt 7, 3), (6, .lload_n 0, 1), (7, .goto 4, 3), (10, .lload_n 2, 1), (11, .lreturn, 1)]
set_option maxRecDepth 100000 in
theorem dk_J9_min_f86c9 : dt_J9_min_f86c9.all (fun q => decide (decode cJ9_min_f86c9 q.1 = .ok q.2)) = true := by decide +kernel
set_option maxRecDepth 100000 in
def f_J9_min_f86c9_11  (y0 : Int64) (y2 : Int64) (s0 : Int64) (M : Mem) : Option (Int64 × Mem) := some (s0, M)
set_option maxRecDepth 100000 in
set_option maxHeartbeats 4000000 in
theorem x_J9_min_f86c9_11 {κ : KX} {n : Nat} (hC : CX κ cJ9_min_f86c9 RJ9 4 (some .long) 0) (hE : zEnd κ n (0, 0)) (hk0 : zRk κ (0, 0)) {y0 : Int64} {y2 : Int64} (s0 : Int64) (M : Mem) : X κ 4 emL n (0, 0) 11 [.null, .null, .null, .null] [.long s0] M (f_J9_min_f86c9_11 y0 y2 s0 M) := by
  unfold f_J9_min_f86c9_11
  exact x_lret hE hC (zdk dk_J9_min_f86c9 7 rfl)
set_option maxRecDepth 100000 in
def f_J9_min_f86c9 (y0 : Int64) (y2 : Int64) (M : Mem) : Option (Int64 × Mem) := (if 0 < lg_cmp y0 y2 then f_J9_min_f86c9_11 y0 y2 y2 M else f_J9_min_f86c9_11 y0 y2 y0 M)
set_option maxRecDepth 100000 in
set_option maxHeartbeats 4000000 in
theorem x_J9_min_f86c9 {κ : KX} {n : Nat} (hC : CX κ cJ9_min_f86c9 RJ9 4 (some .long) 0) (hE : zEnd κ n (0, 0)) (hk0 : zRk κ (0, 0)) (y0 : Int64) (y2 : Int64) (M : Mem) : X κ 4 emL n (0, 0) 0 [.long y0, .null, .long y2, .null] [] M (f_J9_min_f86c9 y0 y2 M) := by
  unfold f_J9_min_f86c9
  refine x_lload_n (i := 0) rfl hC (zdk dk_J9_min_f86c9 0 rfl) (q := 1) rfl ?_
  refine x_lload_n (i := 2) rfl hC (zdk dk_J9_min_f86c9 1 rfl) (q := 2) rfl ?_
  refine x_lcmp hC (zdk dk_J9_min_f86c9 2 rfl) (q := 3) rfl ?_
  refine x_if_gt (tgt := 10) hC (zdk dk_J9_min_f86c9 3 rfl) (q := 6) rfl rfl (fun _ => ?_) (fun _ => ?_)
  · refine x_lload_n (i := 2) rfl hC (zdk dk_J9_min_f86c9 6 rfl) (q := 11) rfl ?_
    refine x_weak (L' := [.null, .null, .null, .null]) ⟨Or.inl rfl, Or.inl rfl, Or.inl rfl, Or.inl rfl, trivial⟩ ?_
    exact x_J9_min_f86c9_11 hC hE hk0 _ _
  · refine x_lload_n (i := 0) rfl hC (zdk dk_J9_min_f86c9 4 rfl) (q := 7) rfl ?_
    refine x_goto (tgt := 11) hC (zdk dk_J9_min_f86c9 5 rfl) rfl ?_
    refine x_weak (L' := [.null, .null, .null, .null]) ⟨Or.inl rfl, Or.inl rfl, Or.inl rfl, Or.inl rfl, trivial⟩ ?_
    exact x_J9_min_f86c9_11 hC hE hk0 _ _
set_option maxRecDepth 100000 in
set_option maxHeartbeats 4000000 in
theorem t_J9_min_f86c9 {n : Nat} {y0 : Int64} {y2 : Int64} {M : Mem}  (x : (Int64 × Mem)) (hx : f_J9_min_f86c9 y0 y2 M = some x) (l : Launch) (dC : Nat → ClassId) (dI : Nat → Nat → Nat) (b : zSg) : MT l dC dI b yJ9_min_f86c9 cJ9_min_f86c9 4 (some .long) 0 0 0 n n [.long y0, .long y2] M (emL x).1 (emL x).2 :=
  MT.ofX (by decide +kernel) rfl (Nat.le_of_ble_eq_true rfl) (fun κ hC hF _ => x_J9_min_f86c9 hC (zEnd_of hF (Nat.le_refl _) (Nat.le_refl _)) (zRk_of hF (Nat.le_refl _) (Nat.le_refl _)) _ _ _ ) x hx
set_option maxRecDepth 100000 in
def dt_X10_bounded : List (Nat × Instr × Nat) := [(0, .ldc2_w 125, 3), (3, .ldc2_w 127, 3), (6, .lload_n 0, 1), (7, .invokestatic 129, 3), (10, .invokestatic 131, 3), (13, .l2i, 1), (14, .ireturn, 1)]
set_option maxRecDepth 100000 in
theorem dk_X10_bounded : dt_X10_bounded.all (fun q => decide (decode cX10_bounded q.1 = .ok q.2)) = true := by decide +kernel
set_option maxRecDepth 100000 in
def f_X10_bounded (y0 : Int64) (M : Mem) : Option (Int32 × Mem) := Option.bind (f_J9_min_f86c9 1000000 y0 M) fun z1 => Option.bind (f_J9_max_f86c9 ((-1000000)) z1.1 z1.2) fun z2 => some (z2.1.toInt32, z2.2)
set_option maxRecDepth 100000 in
set_option maxHeartbeats 4000000 in
theorem x_X10_bounded {κ : KX} {n : Nat} (hC : CX κ cX10_bounded RX10 2 (some .int) 1) (hE : zEnd κ n (0, 0)) (hk0 : zRk κ (0, 0)) (y0 : Int64) (M : Mem) : X κ 2 emI n (0, 0) 0 [.long y0, .null] [] M (f_X10_bounded y0 M) := by
  unfold f_X10_bounded
  refine x_ldc2 k_RX10_125 hC (zdk dk_X10_bounded 0 rfl) (q := 3) rfl ?_
  refine x_ldc2 k_RX10_127 hC (zdk dk_X10_bounded 1 rfl) (q := 6) rfl ?_
  refine x_lload_n (i := 0) rfl hC (zdk dk_X10_bounded 2 rfl) (q := 7) rfl ?_
  refine x_callSl (as := [.long 1000000, .long y0]) cb_RX10_129 rfl (by decide) hk0 (fun x hx => t_J9_min_f86c9  x hx) hC (zdk dk_X10_bounded 3 rfl) (q := 10) rfl rfl (Nat.le_of_ble_eq_true rfl) (fun z1 => ?_)
  refine x_callSl (as := [.long ((-1000000)), .long z1.1]) cb_RX10_131 rfl (by decide) hk0 (fun x hx => t_J9_max_f86c9  x hx) hC (zdk dk_X10_bounded 4 rfl) (q := 13) rfl rfl (Nat.le_of_ble_eq_true rfl) (fun z2 => ?_)
  refine x_l2i hC (zdk dk_X10_bounded 5 rfl) (q := 14) rfl ?_
  exact x_iret (ty := .int) rfl hE hC (zdk dk_X10_bounded 6 rfl)
set_option maxRecDepth 100000 in
set_option maxHeartbeats 4000000 in
theorem t_X10_bounded {n : Nat} {y0 : Int64} {M : Mem}  (x : (Int32 × Mem)) (hx : f_X10_bounded y0 M = some x) (l : Launch) (dC : Nat → ClassId) (dI : Nat → Nat → Nat) (b : zSg) : MT l dC dI b yX10_bounded cX10_bounded 2 (some .int) 1 0 0 n n [.long y0] M (emI x).1 (emI x).2 :=
  MT.ofX (by decide +kernel) rfl (Nat.le_of_ble_eq_true rfl) (fun κ hC hF _ => x_X10_bounded hC (zEnd_of hF (Nat.le_refl _) (Nat.le_refl _)) (zRk_of hF (Nat.le_refl _) (Nat.le_refl _)) _ _ ) x hx
set_option maxRecDepth 100000 in
def dt_X10_joined : List (Nat × Instr × Nat) := [(0, .iload_n 0, 1), (1, .tableswitch 173 (-11) (-1) #[169, 158, 147, 136, 130, 124, 105, 86, 77, 68, 59], 59), (60, .iload_n 1, 1), (61, .i2l, 1), (62, .iload_n 2, 1), (63, .i2l, 1), (64, .ladd, 1), (65, .invokestatic 114, 3), (68, .ireturn, 1), (69, .iload_n 1, 1), (70, .i2l, 1), (71, .iload_n 2, 1), (72, .i2l, 1), (73, .lsub, 1), (74, .invokestatic 114, 3), (77, .ireturn, 1), (78, .iload_n 1, 1), (79, .i2l, 1), (80, .iload_n 2, 1), (81, .i2l, 1), (82, .lmul, 1), (83, .invokestatic 114, 3), (86, .ireturn, 1), (87, .iload_n 2, 1), (88, .ifCond .ne 7, 3), (91, .iconst 0, 1), (92, .goto 13, 3), (95, .iload_n 1, 1), (96, .i2l, 1), (97, .iload_n 2, 1), (98, .i2l, 1), (99, .invokestatic 118, 3), (102, .invokestatic 114, 3), (105, .ireturn, 1), (106, .iload_n 2, 1), (107, .ifCond .ne 7, 3), (110, .iconst 0, 1), (111, .goto 13, 3), (114, .iload_n 1, 1), (115, .i2l, 1), (116, .iload_n 2, 1), (117, .i2l, 1), (118, .invokestatic 122, 3), (121, .invokestatic 114, 3), (124, .ireturn, 1), (125, .iload_n 1, 1), (126, .iload_n 2, 1), (127, .invokestatic 44, 3), (130, .ireturn, 1), (131, .iload_n 1, 1), (132, .iload_n 2, 1), (133, .invokestatic 50, 3), (136, .ireturn, 1), (137, .iload_n 1, 1), (138, .iload_n 2, 1), (139, .if_icmp .ge 7, 3), (142, .iconst 1, 1), (143, .goto 4, 3), (146, .iconst 0, 1), (147, .ireturn, 1), (148, .iload_n 1, 1), (149, .iload_n 2, 1), (150, .if_icmp .le 7, 3), (153, .iconst 1, 1), (154, .goto 4, 3), (157, .iconst 0, 1), (158, .ireturn, 1), (159, .iload_n 1, 1), (160, .iload_n 2, 1), (161, .if_icmp .ne 7, 3), (164, .iconst 1, 1), (165, .goto 4, 3), (168, .iconst 0, 1), (169, .ireturn, 1), (170, .iload_n 1, 1), (171, .iload_n 2, 1), (172, .iand, 1), (173, .ireturn, 1), (174, .iload_n 1, 1), (175, .iload_n 2, 1), (176, .ior, 1), (177, .ireturn, 1)]
set_option maxRecDepth 100000 in
theorem dk_X10_joined : dt_X10_joined.all (fun q => decide (decode cX10_joined q.1 = .ok q.2)) = true := by decide +kernel
set_option maxRecDepth 100000 in
def f_X10_joined_105  (x0 : Int32) (x1 : Int32) (x2 : Int32) (s0 : Int32) (M : Mem) : Option (Int32 × Mem) := some (s0, M)
set_option maxRecDepth 100000 in
set_option maxHeartbeats 4000000 in
theorem x_X10_joined_105 {κ : KX} {n : Nat} (hC : CX κ cX10_joined RX10 3 (some .int) 2) (hE : zEnd κ n (0, 0)) (hk0 : zRk κ (0, 0)) {x0 : Int32} {x1 : Int32} {x2 : Int32} (s0 : Int32) (M : Mem) : X κ 3 emI n (0, 0) 105 [.null, .null, .null] [.int s0] M (f_X10_joined_105 x0 x1 x2 s0 M) := by
  unfold f_X10_joined_105
  exact x_iret (ty := .int) rfl hE hC (zdk dk_X10_joined 33 rfl)
set_option maxRecDepth 100000 in
def f_X10_joined_124  (x0 : Int32) (x1 : Int32) (x2 : Int32) (s0 : Int32) (M : Mem) : Option (Int32 × Mem) := some (s0, M)
set_option maxRecDepth 100000 in
set_option maxHeartbeats 4000000 in
theorem x_X10_joined_124 {κ : KX} {n : Nat} (hC : CX κ cX10_joined RX10 3 (some .int) 2) (hE : zEnd κ n (0, 0)) (hk0 : zRk κ (0, 0)) {x0 : Int32} {x1 : Int32} {x2 : Int32} (s0 : Int32) (M : Mem) : X κ 3 emI n (0, 0) 124 [.null, .null, .null] [.int s0] M (f_X10_joined_124 x0 x1 x2 s0 M) := by
  unfold f_X10_joined_124
  exact x_iret (ty := .int) rfl hE hC (zdk dk_X10_joined 44 rfl)
set_option maxRecDepth 100000 in
def f_X10_joined_147  (x0 : Int32) (x1 : Int32) (x2 : Int32) (s0 : Int32) (M : Mem) : Option (Int32 × Mem) := some (s0, M)
set_option maxRecDepth 100000 in
set_option maxHeartbeats 4000000 in
theorem x_X10_joined_147 {κ : KX} {n : Nat} (hC : CX κ cX10_joined RX10 3 (some .int) 2) (hE : zEnd κ n (0, 0)) (hk0 : zRk κ (0, 0)) {x0 : Int32} {x1 : Int32} {x2 : Int32} (s0 : Int32) (M : Mem) : X κ 3 emI n (0, 0) 147 [.null, .null, .null] [.int s0] M (f_X10_joined_147 x0 x1 x2 s0 M) := by
  unfold f_X10_joined_147
  exact x_iret (ty := .int) rfl hE hC (zdk dk_X10_joined 59 rfl)
set_option maxRecDepth 100000 in
def f_X10_joined_158  (x0 : Int32) (x1 : Int32) (x2 : Int32) (s0 : Int32) (M : Mem) : Option (Int32 × Mem) := some (s0, M)
set_option maxRecDepth 100000 in
set_option maxHeartbeats 4000000 in
theorem x_X10_joined_158 {κ : KX} {n : Nat} (hC : CX κ cX10_joined RX10 3 (some .int) 2) (hE : zEnd κ n (0, 0)) (hk0 : zRk κ (0, 0)) {x0 : Int32} {x1 : Int32} {x2 : Int32} (s0 : Int32) (M : Mem) : X κ 3 emI n (0, 0) 158 [.null, .null, .null] [.int s0] M (f_X10_joined_158 x0 x1 x2 s0 M) := by
  unfold f_X10_joined_158
  exact x_iret (ty := .int) rfl hE hC (zdk dk_X10_joined 66 rfl)
set_option maxRecDepth 100000 in
def f_X10_joined_169  (x0 : Int32) (x1 : Int32) (x2 : Int32) (s0 : Int32) (M : Mem) : Option (Int32 × Mem) := some (s0, M)
set_option maxRecDepth 100000 in
set_option maxHeartbeats 4000000 in
theorem x_X10_joined_169 {κ : KX} {n : Nat} (hC : CX κ cX10_joined RX10 3 (some .int) 2) (hE : zEnd κ n (0, 0)) (hk0 : zRk κ (0, 0)) {x0 : Int32} {x1 : Int32} {x2 : Int32} (s0 : Int32) (M : Mem) : X κ 3 emI n (0, 0) 169 [.null, .null, .null] [.int s0] M (f_X10_joined_169 x0 x1 x2 s0 M) := by
  unfold f_X10_joined_169
  exact x_iret (ty := .int) rfl hE hC (zdk dk_X10_joined 73 rfl)
set_option maxRecDepth 100000 in
def f_X10_joined (x0 : Int32) (x1 : Int32) (x2 : Int32) (M : Mem) : Option (Int32 × Mem) := (if x0 = (-11) then some (x1 &&& x2, M) else if x0 = (-10) then (if x1 = x2 then f_X10_joined_169 x0 x1 x2 1 M else f_X10_joined_169 x0 x1 x2 0 M) else if x0 = (-9) then (if x1 ≤ x2 then f_X10_joined_158 x0 x1 x2 0 M else f_X10_joined_158 x0 x1 x2 1 M) else if x0 = (-8) then (if x2 ≤ x1 then f_X10_joined_147 x0 x1 x2 0 M else f_X10_joined_147 x0 x1 x2 1 M) else if x0 = (-7) then Option.bind (f_J9_max_7cf53 x1 x2 M) fun z6 => some (z6.1, z6.2) else if x0 = (-6) then Option.bind (f_J9_min_7cf53 x1 x2 M) fun z8 => some (z8.1, z8.2) else if x0 = (-5) then (if x2 = 0 then f_X10_joined_124 x0 x1 x2 0 M else Option.bind (f_J9_floorMod_f86c9 x1.toInt64 x2.toInt64 M) fun z10 => Option.bind (f_X10_bounded z10.1 z10.2) fun z11 => f_X10_joined_124 x0 x1 x2 z11.1 z11.2) else if x0 = (-4) then (if x2 = 0 then f_X10_joined_105 x0 x1 x2 0 M else Option.bind (f_J9_floorDiv_f86c9 x1.toInt64 x2.toInt64 M) fun z13 => Option.bind (f_X10_bounded z13.1 z13.2) fun z14 => f_X10_joined_105 x0 x1 x2 z14.1 z14.2) else if x0 = (-3) then Option.bind (f_X10_bounded (x1.toInt64 * x2.toInt64) M) fun z16 => some (z16.1, z16.2) else if x0 = (-2) then Option.bind (f_X10_bounded (x1.toInt64 - x2.toInt64) M) fun z18 => some (z18.1, z18.2) else if x0 = (-1) then Option.bind (f_X10_bounded (x1.toInt64 + x2.toInt64) M) fun z20 => some (z20.1, z20.2) else some (x1 ||| x2, M))
set_option maxRecDepth 100000 in
set_option maxHeartbeats 4000000 in
theorem x_X10_joined {κ : KX} {n : Nat} (hC : CX κ cX10_joined RX10 3 (some .int) 2) (hE : zEnd κ n (0, 0)) (hk0 : zRk κ (0, 0)) (x0 : Int32) (x1 : Int32) (x2 : Int32) (M : Mem) : X κ 3 emI n (0, 0) 0 [.int x0, .int x1, .int x2] [] M (f_X10_joined x0 x1 x2 M) := by
  unfold f_X10_joined
  refine x_iload_n (i := 0) rfl hC (zdk dk_X10_joined 0 rfl) (q := 1) rfl ?_
  refine x_tsIn (v := (-11)) (off := 169) (tgt := 170) hC (zdk dk_X10_joined 1 rfl) (by decide) ?_ (fun ht1 => ?_)
  · refine x_iload_n (i := 1) rfl hC (zdk dk_X10_joined 74 rfl) (q := 171) rfl ?_
    refine x_iload_n (i := 2) rfl hC (zdk dk_X10_joined 75 rfl) (q := 172) rfl ?_
    refine x_iand hC (zdk dk_X10_joined 76 rfl) (q := 173) rfl ?_
    exact x_iret (ty := .int) rfl hE hC (zdk dk_X10_joined 77 rfl)
  refine x_tsIn (v := (-10)) (off := 158) (tgt := 159) hC (zdk dk_X10_joined 1 rfl) (by decide) ?_ (fun ht2 => ?_)
  · refine x_iload_n (i := 1) rfl hC (zdk dk_X10_joined 67 rfl) (q := 160) rfl ?_
    refine x_iload_n (i := 2) rfl hC (zdk dk_X10_joined 68 rfl) (q := 161) rfl ?_
    refine x_icmp_ne (tgt := 168) hC (zdk dk_X10_joined 69 rfl) (q := 164) rfl rfl (fun _ => ?_) (fun _ => ?_)
    · refine x_iconst (i := 0) c_iconst_0 hC (zdk dk_X10_joined 72 rfl) (q := 169) rfl ?_
      refine x_weak (L' := [.null, .null, .null]) ⟨Or.inl rfl, Or.inl rfl, Or.inl rfl, trivial⟩ ?_
      exact x_X10_joined_169 hC hE hk0 _ _
    · refine x_iconst (i := 1) c_iconst_1 hC (zdk dk_X10_joined 70 rfl) (q := 165) rfl ?_
      refine x_goto (tgt := 169) hC (zdk dk_X10_joined 71 rfl) rfl ?_
      refine x_weak (L' := [.null, .null, .null]) ⟨Or.inl rfl, Or.inl rfl, Or.inl rfl, trivial⟩ ?_
      exact x_X10_joined_169 hC hE hk0 _ _
  refine x_tsIn (v := (-9)) (off := 147) (tgt := 148) hC (zdk dk_X10_joined 1 rfl) (by decide) ?_ (fun ht3 => ?_)
  · refine x_iload_n (i := 1) rfl hC (zdk dk_X10_joined 60 rfl) (q := 149) rfl ?_
    refine x_iload_n (i := 2) rfl hC (zdk dk_X10_joined 61 rfl) (q := 150) rfl ?_
    refine x_icmp_le (tgt := 157) hC (zdk dk_X10_joined 62 rfl) (q := 153) rfl rfl (fun _ => ?_) (fun _ => ?_)
    · refine x_iconst (i := 0) c_iconst_0 hC (zdk dk_X10_joined 65 rfl) (q := 158) rfl ?_
      refine x_weak (L' := [.null, .null, .null]) ⟨Or.inl rfl, Or.inl rfl, Or.inl rfl, trivial⟩ ?_
      exact x_X10_joined_158 hC hE hk0 _ _
    · refine x_iconst (i := 1) c_iconst_1 hC (zdk dk_X10_joined 63 rfl) (q := 154) rfl ?_
      refine x_goto (tgt := 158) hC (zdk dk_X10_joined 64 rfl) rfl ?_
      refine x_weak (L' := [.null, .null, .null]) ⟨Or.inl rfl, Or.inl rfl, Or.inl rfl, trivial⟩ ?_
      exact x_X10_joined_158 hC hE hk0 _ _
  refine x_tsIn (v := (-8)) (off := 136) (tgt := 137) hC (zdk dk_X10_joined 1 rfl) (by decide) ?_ (fun ht4 => ?_)
  · refine x_iload_n (i := 1) rfl hC (zdk dk_X10_joined 53 rfl) (q := 138) rfl ?_
    refine x_iload_n (i := 2) rfl hC (zdk dk_X10_joined 54 rfl) (q := 139) rfl ?_
    refine x_icmp_ge (tgt := 146) hC (zdk dk_X10_joined 55 rfl) (q := 142) rfl rfl (fun _ => ?_) (fun _ => ?_)
    · refine x_iconst (i := 0) c_iconst_0 hC (zdk dk_X10_joined 58 rfl) (q := 147) rfl ?_
      refine x_weak (L' := [.null, .null, .null]) ⟨Or.inl rfl, Or.inl rfl, Or.inl rfl, trivial⟩ ?_
      exact x_X10_joined_147 hC hE hk0 _ _
    · refine x_iconst (i := 1) c_iconst_1 hC (zdk dk_X10_joined 56 rfl) (q := 143) rfl ?_
      refine x_goto (tgt := 147) hC (zdk dk_X10_joined 57 rfl) rfl ?_
      refine x_weak (L' := [.null, .null, .null]) ⟨Or.inl rfl, Or.inl rfl, Or.inl rfl, trivial⟩ ?_
      exact x_X10_joined_147 hC hE hk0 _ _
  refine x_tsIn (v := (-7)) (off := 130) (tgt := 131) hC (zdk dk_X10_joined 1 rfl) (by decide) ?_ (fun ht5 => ?_)
  · refine x_iload_n (i := 1) rfl hC (zdk dk_X10_joined 49 rfl) (q := 132) rfl ?_
    refine x_iload_n (i := 2) rfl hC (zdk dk_X10_joined 50 rfl) (q := 133) rfl ?_
    refine x_callSi (as := [.int x1, .int x2]) cb_RX10_50 rfl (by decide) hk0 (fun x hx => t_J9_max_7cf53  x hx) hC (zdk dk_X10_joined 51 rfl) (q := 136) rfl rfl (Nat.le_of_ble_eq_true rfl) (fun z6 => ?_)
    exact x_iret (ty := .int) rfl hE hC (zdk dk_X10_joined 52 rfl)
  refine x_tsIn (v := (-6)) (off := 124) (tgt := 125) hC (zdk dk_X10_joined 1 rfl) (by decide) ?_ (fun ht7 => ?_)
  · refine x_iload_n (i := 1) rfl hC (zdk dk_X10_joined 45 rfl) (q := 126) rfl ?_
    refine x_iload_n (i := 2) rfl hC (zdk dk_X10_joined 46 rfl) (q := 127) rfl ?_
    refine x_callSi (as := [.int x1, .int x2]) cb_RX10_44 rfl (by decide) hk0 (fun x hx => t_J9_min_7cf53  x hx) hC (zdk dk_X10_joined 47 rfl) (q := 130) rfl rfl (Nat.le_of_ble_eq_true rfl) (fun z8 => ?_)
    exact x_iret (ty := .int) rfl hE hC (zdk dk_X10_joined 48 rfl)
  refine x_tsIn (v := (-5)) (off := 105) (tgt := 106) hC (zdk dk_X10_joined 1 rfl) (by decide) ?_ (fun ht9 => ?_)
  · refine x_iload_n (i := 2) rfl hC (zdk dk_X10_joined 34 rfl) (q := 107) rfl ?_
    refine x_if_ne (tgt := 114) hC (zdk dk_X10_joined 35 rfl) (q := 110) rfl rfl (fun _ => ?_) (fun _ => ?_)
    · refine x_iload_n (i := 1) rfl hC (zdk dk_X10_joined 38 rfl) (q := 115) rfl ?_
      refine x_i2l hC (zdk dk_X10_joined 39 rfl) (q := 116) rfl ?_
      refine x_iload_n (i := 2) rfl hC (zdk dk_X10_joined 40 rfl) (q := 117) rfl ?_
      refine x_i2l hC (zdk dk_X10_joined 41 rfl) (q := 118) rfl ?_
      refine x_callSl (as := [.long x1.toInt64, .long x2.toInt64]) cb_RX10_122 rfl (by decide) hk0 (fun x hx => t_J9_floorMod_f86c9  x hx) hC (zdk dk_X10_joined 42 rfl) (q := 121) rfl rfl (Nat.le_of_ble_eq_true rfl) (fun z10 => ?_)
      refine x_callSi (as := [.long z10.1]) cb_RX10_114 rfl (by decide) hk0 (fun x hx => t_X10_bounded  x hx) hC (zdk dk_X10_joined 43 rfl) (q := 124) rfl rfl (Nat.le_of_ble_eq_true rfl) (fun z11 => ?_)
      refine x_weak (L' := [.null, .null, .null]) ⟨Or.inl rfl, Or.inl rfl, Or.inl rfl, trivial⟩ ?_
      exact x_X10_joined_124 hC hE hk0 _ _
    · refine x_iconst (i := 0) c_iconst_0 hC (zdk dk_X10_joined 36 rfl) (q := 111) rfl ?_
      refine x_goto (tgt := 124) hC (zdk dk_X10_joined 37 rfl) rfl ?_
      refine x_weak (L' := [.null, .null, .null]) ⟨Or.inl rfl, Or.inl rfl, Or.inl rfl, trivial⟩ ?_
      exact x_X10_joined_124 hC hE hk0 _ _
  refine x_tsIn (v := (-4)) (off := 86) (tgt := 87) hC (zdk dk_X10_joined 1 rfl) (by decide) ?_ (fun ht12 => ?_)
  · refine x_iload_n (i := 2) rfl hC (zdk dk_X10_joined 23 rfl) (q := 88) rfl ?_
    refine x_if_ne (tgt := 95) hC (zdk dk_X10_joined 24 rfl) (q := 91) rfl rfl (fun _ => ?_) (fun _ => ?_)
    · refine x_iload_n (i := 1) rfl hC (zdk dk_X10_joined 27 rfl) (q := 96) rfl ?_
      refine x_i2l hC (zdk dk_X10_joined 28 rfl) (q := 97) rfl ?_
      refine x_iload_n (i := 2) rfl hC (zdk dk_X10_joined 29 rfl) (q := 98) rfl ?_
      refine x_i2l hC (zdk dk_X10_joined 30 rfl) (q := 99) rfl ?_
      refine x_callSl (as := [.long x1.toInt64, .long x2.toInt64]) cb_RX10_118 rfl (by decide) hk0 (fun x hx => t_J9_floorDiv_f86c9  x hx) hC (zdk dk_X10_joined 31 rfl) (q := 102) rfl rfl (Nat.le_of_ble_eq_true rfl) (fun z13 => ?_)
      refine x_callSi (as := [.long z13.1]) cb_RX10_114 rfl (by decide) hk0 (fun x hx => t_X10_bounded  x hx) hC (zdk dk_X10_joined 32 rfl) (q := 105) rfl rfl (Nat.le_of_ble_eq_true rfl) (fun z14 => ?_)
      refine x_weak (L' := [.null, .null, .null]) ⟨Or.inl rfl, Or.inl rfl, Or.inl rfl, trivial⟩ ?_
      exact x_X10_joined_105 hC hE hk0 _ _
    · refine x_iconst (i := 0) c_iconst_0 hC (zdk dk_X10_joined 25 rfl) (q := 92) rfl ?_
      refine x_goto (tgt := 105) hC (zdk dk_X10_joined 26 rfl) rfl ?_
      refine x_weak (L' := [.null, .null, .null]) ⟨Or.inl rfl, Or.inl rfl, Or.inl rfl, trivial⟩ ?_
      exact x_X10_joined_105 hC hE hk0 _ _
  refine x_tsIn (v := (-3)) (off := 77) (tgt := 78) hC (zdk dk_X10_joined 1 rfl) (by decide) ?_ (fun ht15 => ?_)
  · refine x_iload_n (i := 1) rfl hC (zdk dk_X10_joined 16 rfl) (q := 79) rfl ?_
    refine x_i2l hC (zdk dk_X10_joined 17 rfl) (q := 80) rfl ?_
    refine x_iload_n (i := 2) rfl hC (zdk dk_X10_joined 18 rfl) (q := 81) rfl ?_
    refine x_i2l hC (zdk dk_X10_joined 19 rfl) (q := 82) rfl ?_
    refine x_lmul hC (zdk dk_X10_joined 20 rfl) (q := 83) rfl ?_
    refine x_callSi (as := [.long (x1.toInt64 * x2.toInt64)]) cb_RX10_114 rfl (by decide) hk0 (fun x hx => t_X10_bounded  x hx) hC (zdk dk_X10_joined 21 rfl) (q := 86) rfl rfl (Nat.le_of_ble_eq_true rfl) (fun z16 => ?_)
    exact x_iret (ty := .int) rfl hE hC (zdk dk_X10_joined 22 rfl)
  refine x_tsIn (v := (-2)) (off := 68) (tgt := 69) hC (zdk dk_X10_joined 1 rfl) (by decide) ?_ (fun ht17 => ?_)
  · refine x_iload_n (i := 1) rfl hC (zdk dk_X10_joined 9 rfl) (q := 70) rfl ?_
    refine x_i2l hC (zdk dk_X10_joined 10 rfl) (q := 71) rfl ?_
    refine x_iload_n (i := 2) rfl hC (zdk dk_X10_joined 11 rfl) (q := 72) rfl ?_
    refine x_i2l hC (zdk dk_X10_joined 12 rfl) (q := 73) rfl ?_
    refine x_lsub hC (zdk dk_X10_joined 13 rfl) (q := 74) rfl ?_
    refine x_callSi (as := [.long (x1.toInt64 - x2.toInt64)]) cb_RX10_114 rfl (by decide) hk0 (fun x hx => t_X10_bounded  x hx) hC (zdk dk_X10_joined 14 rfl) (q := 77) rfl rfl (Nat.le_of_ble_eq_true rfl) (fun z18 => ?_)
    exact x_iret (ty := .int) rfl hE hC (zdk dk_X10_joined 15 rfl)
  refine x_tsIn (v := (-1)) (off := 59) (tgt := 60) hC (zdk dk_X10_joined 1 rfl) (by decide) ?_ (fun ht19 => ?_)
  · refine x_iload_n (i := 1) rfl hC (zdk dk_X10_joined 2 rfl) (q := 61) rfl ?_
    refine x_i2l hC (zdk dk_X10_joined 3 rfl) (q := 62) rfl ?_
    refine x_iload_n (i := 2) rfl hC (zdk dk_X10_joined 4 rfl) (q := 63) rfl ?_
    refine x_i2l hC (zdk dk_X10_joined 5 rfl) (q := 64) rfl ?_
    refine x_ladd hC (zdk dk_X10_joined 6 rfl) (q := 65) rfl ?_
    refine x_callSi (as := [.long (x1.toInt64 + x2.toInt64)]) cb_RX10_114 rfl (by decide) hk0 (fun x hx => t_X10_bounded  x hx) hC (zdk dk_X10_joined 7 rfl) (q := 68) rfl rfl (Nat.le_of_ble_eq_true rfl) (fun z20 => ?_)
    exact x_iret (ty := .int) rfl hE hC (zdk dk_X10_joined 8 rfl)
  refine x_tsOut (tgt := 174) [(-11), (-10), (-9), (-8), (-7), (-6), (-5), (-4), (-3), (-2), (-1)] hC (zdk dk_X10_joined 1 rfl) (List.forall_mem_cons.2 ⟨ht1, (List.forall_mem_cons.2 ⟨ht2, (List.forall_mem_cons.2 ⟨ht3, (List.forall_mem_cons.2 ⟨ht4, (List.forall_mem_cons.2 ⟨ht5, (List.forall_mem_cons.2 ⟨ht7, (List.forall_mem_cons.2 ⟨ht9, (List.forall_mem_cons.2 ⟨ht12, (List.forall_mem_cons.2 ⟨ht15, (List.forall_mem_cons.2 ⟨ht17, (List.forall_mem_cons.2 ⟨ht19, (fun _ h => absurd h List.not_mem_nil)⟩)⟩)⟩)⟩)⟩)⟩)⟩)⟩)⟩)⟩)⟩) (by decide) rfl ?_
  refine x_iload_n (i := 1) rfl hC (zdk dk_X10_joined 78 rfl) (q := 175) rfl ?_
  refine x_iload_n (i := 2) rfl hC (zdk dk_X10_joined 79 rfl) (q := 176) rfl ?_
  refine x_ior hC (zdk dk_X10_joined 80 rfl) (q := 177) rfl ?_
  exact x_iret (ty := .int) rfl hE hC (zdk dk_X10_joined 81 rfl)
set_option maxRecDepth 100000 in
set_option maxHeartbeats 4000000 in
theorem t_X10_joined {n : Nat} {x0 : Int32} {x1 : Int32} {x2 : Int32} {M : Mem}  (x : (Int32 × Mem)) (hx : f_X10_joined x0 x1 x2 M = some x) (l : Launch) (dC : Nat → ClassId) (dI : Nat → Nat → Nat) (b : zSg) : MT l dC dI b yX10_joined cX10_joined 3 (some .int) 2 0 0 n n [.int x0, .int x1, .int x2] M (emI x).1 (emI x).2 :=
  MT.ofX (by decide +kernel) rfl (Nat.le_of_ble_eq_true rfl) (fun κ hC hF _ => x_X10_joined hC (zEnd_of hF (Nat.le_refl _) (Nat.le_refl _)) (zRk_of hF (Nat.le_refl _) (Nat.le_refl _)) _ _ _ _ ) x hx
set_option maxRecDepth 100000 in
def dt_X10_pop : List (Nat × Instr × Nat) := [(0, .aload_n 0, 1), (1, .getfield 92, 3), (4, .ifCond .le 15, 3), (7, .aload_n 0, 1), (8, .getfield 92, 3), (11, .aload_n 0, 1), (12, .getfield 15, 3), (15, .arraylength, 1), (16, .if_icmp .le 5, 3), (19, .iconst 0, 1), (20, .ireturn, 1), (21, .aload_n 0, 1), (22, .dup, 1), (23, .getfield 92, 3), (26, .iconst 1, 1), (27, .isub, 1), (28, .putfield 92, 3), (31, .aload_n 0, 1), (32, .getfield 15, 3), (35, .aload_n 0, 1), (36, .getfield 92, 3), (39, .iaload, 1), (40, .ireturn, 1)]
set_option maxRecDepth 100000 in
theorem dk_X10_pop : dt_X10_pop.all (fun q => decide (decode cX10_pop q.1 = .ok q.2)) = true := by decide +kernel
set_option maxRecDepth 100000 in
def f_X10_pop_19  (r0 : Nat)  (M : Mem) : Option (Int32 × Mem) := some (0, M)
set_option maxRecDepth 100000 in
set_option maxHeartbeats 4000000 in
theorem x_X10_pop_19 {κ : KX} {n : Nat} (hC : CX κ cX10_pop RX10 1 (some .int) 0) (hE : zEnd κ n (0, 0)) (hk0 : zRk κ (0, 0)) {r0 : Nat} (h_r0 : zO n r0 10) (M : Mem) : X κ 1 emI n (0, 0) 19 [.null] [] M (f_X10_pop_19 r0 M) := by
  unfold f_X10_pop_19
  refine x_iconst (i := 0) c_iconst_0 hC (zdk dk_X10_pop 9 rfl) (q := 20) rfl ?_
  exact x_iret (ty := .int) rfl hE hC (zdk dk_X10_pop 10 rfl)
set_option maxRecDepth 100000 in
def f_X10_pop (r0 : Nat) (M : Mem) : Option (Int32 × Mem) := (if zI M r0 2 ≤ 0 then f_X10_pop_19 r0 M else Option.bind (zrf M r0 1) fun q1 => (if zI M r0 2 ≤ zlen q1 then Option.bind (some (zsI M r0 2 ((zI M r0 2) - 1))) fun M2 => Option.bind (zrf M2 r0 1) fun q3 => Option.bind (zld q3 (zI M2 r0 2)) fun k4 => some (zI M2 q3 k4, M2) else f_X10_pop_19 r0 M))
set_option maxRecDepth 100000 in
set_option maxHeartbeats 4000000 in
theorem x_X10_pop {κ : KX} {n : Nat} (hC : CX κ cX10_pop RX10 1 (some .int) 0) (hE : zEnd κ n (0, 0)) (hk0 : zRk κ (0, 0)) (r0 : Nat) (M : Mem) (h_r0 : zO n r0 10) : X κ 1 emI n (0, 0) 0 [.ref r0] [] M (f_X10_pop r0 M) := by
  unfold f_X10_pop
  refine x_aload_n (i := 0) rfl hC (zdk dk_X10_pop 0 rfl) (q := 1) rfl ?_
  refine x_getI fl_RX10_92 (by decide) h_r0 hC (zdk dk_X10_pop 1 rfl) (q := 4) rfl ?_
  refine x_if_le (tgt := 19) hC (zdk dk_X10_pop 2 rfl) (q := 7) rfl rfl (fun _ => ?_) (fun _ => ?_)
  · refine x_weak (L' := [.null]) ⟨Or.inl rfl, trivial⟩ ?_
    exact x_X10_pop_19 hC hE hk0 h_r0 _
  · refine x_aload_n (i := 0) rfl hC (zdk dk_X10_pop 3 rfl) (q := 8) rfl ?_
    refine x_getI fl_RX10_92 (by decide) h_r0 hC (zdk dk_X10_pop 4 rfl) (q := 11) rfl ?_
    refine x_aload_n (i := 0) rfl hC (zdk dk_X10_pop 5 rfl) (q := 12) rfl ?_
    refine x_getR (k := 20) fl_RX10_15 rfl h_r0 hC (zdk dk_X10_pop 6 rfl) (q := 15) rfl (fun q1 hq1 => ?_)
    refine x_alen hq1 (by decide) hC (zdk dk_X10_pop 7 rfl) (q := 16) rfl ?_
    refine x_icmp_le (tgt := 21) hC (zdk dk_X10_pop 8 rfl) (q := 19) rfl rfl (fun _ => ?_) (fun _ => ?_)
    · refine x_aload_n (i := 0) rfl hC (zdk dk_X10_pop 11 rfl) (q := 22) rfl ?_
      refine x_dup rfl hC (zdk dk_X10_pop 12 rfl) (q := 23) rfl ?_
      refine x_getI fl_RX10_92 (by decide) h_r0 hC (zdk dk_X10_pop 13 rfl) (q := 26) rfl ?_
      refine x_iconst (i := 1) c_iconst_1 hC (zdk dk_X10_pop 14 rfl) (q := 27) rfl ?_
      refine x_isub hC (zdk dk_X10_pop 15 rfl) (q := 28) rfl ?_
      refine x_putI fl_RX10_92 ⟨rfl, rfl⟩ (by decide) (Or.inl rfl) h_r0 hC (zdk dk_X10_pop 16 rfl) (q := 31) rfl ?_
      refine x_nmM (fun M2 => ?_)
      refine x_aload_n (i := 0) rfl hC (zdk dk_X10_pop 17 rfl) (q := 32) rfl ?_
      refine x_getR (k := 20) fl_RX10_15 rfl h_r0 hC (zdk dk_X10_pop 18 rfl) (q := 35) rfl (fun q3 hq3 => ?_)
      refine x_aload_n (i := 0) rfl hC (zdk dk_X10_pop 19 rfl) (q := 36) rfl ?_
      refine x_getI fl_RX10_92 (by decide) h_r0 hC (zdk dk_X10_pop 20 rfl) (q := 39) rfl ?_
      refine x_iald hq3 hC (zdk dk_X10_pop 21 rfl) (q := 40) rfl (fun k4 _ => ?_)
      exact x_iret (ty := .int) rfl hE hC (zdk dk_X10_pop 22 rfl)
    · refine x_weak (L' := [.null]) ⟨Or.inl rfl, trivial⟩ ?_
      exact x_X10_pop_19 hC hE hk0 h_r0 _
set_option maxRecDepth 100000 in
set_option maxHeartbeats 4000000 in
theorem t_X10_pop {n : Nat} {r0 : Nat} {M : Mem} (h_r0 : zO n r0 10) (x : (Int32 × Mem)) (hx : f_X10_pop r0 M = some x) (l : Launch) (dC : Nat → ClassId) (dI : Nat → Nat → Nat) (b : zSg) : MT l dC dI b yX10_pop cX10_pop 1 (some .int) 0 0 0 n n [.ref r0] M (emI x).1 (emI x).2 :=
  MT.ofX (by decide +kernel) rfl (Nat.le_of_ble_eq_true rfl) (fun κ hC hF _ => x_X10_pop hC (zEnd_of hF (Nat.le_refl _) (Nat.le_refl _)) (zRk_of hF (Nat.le_refl _) (Nat.le_refl _)) _ _ h_r0) x hx
set_option maxRecDepth 100000 in
def dt_X10_push : List (Nat × Instr × Nat) := [(0, .aload_n 0, 1), (1, .getfield 92, 3), (4, .ifCond .lt 35, 3), (7, .aload_n 0, 1), (8, .getfield 92, 3), (11, .aload_n 0, 1), (12, .getfield 15, 3), (15, .arraylength, 1), (16, .if_icmp .ge 23, 3), (19, .aload_n 0, 1), (20, .getfield 15, 3), (23, .aload_n 0, 1), (24, .getfield 92, 3), (27, .iload_n 1, 1), (28, .iastore, 1), (29, .aload_n 0, 1), (30, .dup, 1), (31, .getfield 92, 3), (34, .iconst 1, 1), (35, .iadd, 1), (36, .putfield 92, 3), (39, .return_, 1)]
set_option maxRecDepth 100000 in
theorem dk_X10_push : dt_X10_push.all (fun q => decide (decode cX10_push q.1 = .ok q.2)) = true := by decide +kernel
set_option maxRecDepth 100000 in
def f_X10_push_39  (r0 : Nat) (x1 : Int32)  (M : Mem) : Option Mem := some M
set_option maxRecDepth 100000 in
set_option maxHeartbeats 4000000 in
theorem x_X10_push_39 {κ : KX} {n : Nat} (hC : CX κ cX10_push RX10 2 none 0) (hE : zEnd κ n (0, 0)) (hk0 : zRk κ (0, 0)) {r0 : Nat} {x1 : Int32} (h_r0 : zO n r0 10) (M : Mem) : X κ 2 emV n (0, 0) 39 [.null, .null] [] M (f_X10_push_39 r0 x1 M) := by
  unfold f_X10_push_39
  exact x_vret hE hC (zdk dk_X10_push 21 rfl)
set_option maxRecDepth 100000 in
def f_X10_push (r0 : Nat) (x1 : Int32) (M : Mem) : Option Mem := (if zI M r0 2 < 0 then f_X10_push_39 r0 x1 M else Option.bind (zrf M r0 1) fun q1 => (if zlen q1 ≤ zI M r0 2 then f_X10_push_39 r0 x1 M else Option.bind (zrf M r0 1) fun q2 => Option.bind (zld q2 (zI M r0 2)) fun k3 => Option.bind (some (zsI M q2 k3 x1)) fun M4 => Option.bind (some (zsI M4 r0 2 ((zI M4 r0 2) + 1))) fun M5 => f_X10_push_39 r0 x1 M5))
set_option maxRecDepth 100000 in
set_option maxHeartbeats 4000000 in
theorem x_X10_push {κ : KX} {n : Nat} (hC : CX κ cX10_push RX10 2 none 0) (hE : zEnd κ n (0, 0)) (hk0 : zRk κ (0, 0)) (r0 : Nat) (x1 : Int32) (M : Mem) (h_r0 : zO n r0 10) : X κ 2 emV n (0, 0) 0 [.ref r0, .int x1] [] M (f_X10_push r0 x1 M) := by
  unfold f_X10_push
  refine x_aload_n (i := 0) rfl hC (zdk dk_X10_push 0 rfl) (q := 1) rfl ?_
  refine x_getI fl_RX10_92 (by decide) h_r0 hC (zdk dk_X10_push 1 rfl) (q := 4) rfl ?_
  refine x_if_lt (tgt := 39) hC (zdk dk_X10_push 2 rfl) (q := 7) rfl rfl (fun _ => ?_) (fun _ => ?_)
  · refine x_weak (L' := [.null, .null]) ⟨Or.inl rfl, Or.inl rfl, trivial⟩ ?_
    exact x_X10_push_39 hC hE hk0 h_r0 _
  · refine x_aload_n (i := 0) rfl hC (zdk dk_X10_push 3 rfl) (q := 8) rfl ?_
    refine x_getI fl_RX10_92 (by decide) h_r0 hC (zdk dk_X10_push 4 rfl) (q := 11) rfl ?_
    refine x_aload_n (i := 0) rfl hC (zdk dk_X10_push 5 rfl) (q := 12) rfl ?_
    refine x_getR (k := 20) fl_RX10_15 rfl h_r0 hC (zdk dk_X10_push 6 rfl) (q := 15) rfl (fun q1 hq1 => ?_)
    refine x_alen hq1 (by decide) hC (zdk dk_X10_push 7 rfl) (q := 16) rfl ?_
    refine x_icmp_ge (tgt := 39) hC (zdk dk_X10_push 8 rfl) (q := 19) rfl rfl (fun _ => ?_) (fun _ => ?_)
    · refine x_weak (L' := [.null, .null]) ⟨Or.inl rfl, Or.inl rfl, trivial⟩ ?_
      exact x_X10_push_39 hC hE hk0 h_r0 _
    · refine x_aload_n (i := 0) rfl hC (zdk dk_X10_push 9 rfl) (q := 20) rfl ?_
      refine x_getR (k := 20) fl_RX10_15 rfl h_r0 hC (zdk dk_X10_push 10 rfl) (q := 23) rfl (fun q2 hq2 => ?_)
      refine x_aload_n (i := 0) rfl hC (zdk dk_X10_push 11 rfl) (q := 24) rfl ?_
      refine x_getI fl_RX10_92 (by decide) h_r0 hC (zdk dk_X10_push 12 rfl) (q := 27) rfl ?_
      refine x_iload_n (i := 1) rfl hC (zdk dk_X10_push 13 rfl) (q := 28) rfl ?_
      refine x_iast hq2 hC (zdk dk_X10_push 14 rfl) (q := 29) rfl (fun k3 _ => ?_)
      refine x_nmM (fun M4 => ?_)
      refine x_aload_n (i := 0) rfl hC (zdk dk_X10_push 15 rfl) (q := 30) rfl ?_
      refine x_dup rfl hC (zdk dk_X10_push 16 rfl) (q := 31) rfl ?_
      refine x_getI fl_RX10_92 (by decide) h_r0 hC (zdk dk_X10_push 17 rfl) (q := 34) rfl ?_
      refine x_iconst (i := 1) c_iconst_1 hC (zdk dk_X10_push 18 rfl) (q := 35) rfl ?_
      refine x_iadd hC (zdk dk_X10_push 19 rfl) (q := 36) rfl ?_
      refine x_putI fl_RX10_92 ⟨rfl, rfl⟩ (by decide) (Or.inl rfl) h_r0 hC (zdk dk_X10_push 20 rfl) (q := 39) rfl ?_
      refine x_nmM (fun M5 => ?_)
      refine x_weak (L' := [.null, .null]) ⟨Or.inl rfl, Or.inl rfl, trivial⟩ ?_
      exact x_X10_push_39 hC hE hk0 h_r0 _
set_option maxRecDepth 100000 in
set_option maxHeartbeats 4000000 in
theorem t_X10_push {n : Nat} {r0 : Nat} {x1 : Int32} {M : Mem} (h_r0 : zO n r0 10) (x : Mem) (hx : f_X10_push r0 x1 M = some x) (l : Launch) (dC : Nat → ClassId) (dI : Nat → Nat → Nat) (b : zSg) : MT l dC dI b yX10_push cX10_push 2 none 0 0 0 n n [.ref r0, .int x1] M (emV x).1 (emV x).2 :=
  MT.ofX (by decide +kernel) rfl (Nat.le_of_ble_eq_true rfl) (fun κ hC hF _ => x_X10_push hC (zEnd_of hF (Nat.le_refl _) (Nat.le_refl _)) (zRk_of hF (Nat.le_refl _) (Nat.le_refl _)) _ _ _ h_r0) x hx
set_option maxRecDepth 100000 in
def dt_X10_valueOf : List (Nat × Instr × Nat) := [(0, .iload_n 1, 1), (1, .ifCond .lt 21, 3), (4, .iload_n 1, 1), (5, .aload_n 0, 1), (6, .getfield 9, 3), (9, .arraylength, 1), (10, .if_icmp .ge 12, 3), (13, .aload_n 0, 1), (14, .getfield 9, 3), (17, .iload_n 1, 1), (18, .iaload, 1), (19, .goto 4, 3), (22, .iconst 0, 1), (23, .ireturn, 1)]
set_option maxRecDepth 100000 in
theorem dk_X10_valueOf : dt_X10_valueOf.all (fun q => decide (decode cX10_valueOf q.1 = .ok q.2)) = true := by decide +kernel
set_option maxRecDepth 100000 in
def f_X10_valueOf_23  (r0 : Nat) (x1 : Int32) (s0 : Int32) (M : Mem) : Option (Int32 × Mem) := some (s0, M)
set_option maxRecDepth 100000 in
set_option maxHeartbeats 4000000 in
theorem x_X10_valueOf_23 {κ : KX} {n : Nat} (hC : CX κ cX10_valueOf RX10 2 (some .int) 0) (hE : zEnd κ n (0, 0)) (hk0 : zRk κ (0, 0)) {r0 : Nat} {x1 : Int32} (h_r0 : zO n r0 10) (s0 : Int32) (M : Mem) : X κ 2 emI n (0, 0) 23 [.null, .null] [.int s0] M (f_X10_valueOf_23 r0 x1 s0 M) := by
  unfold f_X10_valueOf_23
  exact x_iret (ty := .int) rfl hE hC (zdk dk_X10_valueOf 13 rfl)
set_option maxRecDepth 100000 in
def f_X10_valueOf_22  (r0 : Nat) (x1 : Int32)  (M : Mem) : Option (Int32 × Mem) := f_X10_valueOf_23 r0 x1 0 M
set_option maxRecDepth 100000 in
set_option maxHeartbeats 4000000 in
theorem x_X10_valueOf_22 {κ : KX} {n : Nat} (hC : CX κ cX10_valueOf RX10 2 (some .int) 0) (hE : zEnd κ n (0, 0)) (hk0 : zRk κ (0, 0)) {r0 : Nat} {x1 : Int32} (h_r0 : zO n r0 10) (M : Mem) : X κ 2 emI n (0, 0) 22 [.null, .null] [] M (f_X10_valueOf_22 r0 x1 M) := by
  unfold f_X10_valueOf_22
  refine x_iconst (i := 0) c_iconst_0 hC (zdk dk_X10_valueOf 12 rfl) (q := 23) rfl ?_
  refine x_weak (L' := [.null, .null]) ⟨Or.inl rfl, Or.inl rfl, trivial⟩ ?_
  exact x_X10_valueOf_23 hC hE hk0 h_r0 _ _
set_option maxRecDepth 100000 in
def f_X10_valueOf (r0 : Nat) (x1 : Int32) (M : Mem) : Option (Int32 × Mem) := (if x1 < 0 then f_X10_valueOf_22 r0 x1 M else Option.bind (zrf M r0 0) fun q1 => (if zlen q1 ≤ x1 then f_X10_valueOf_22 r0 x1 M else Option.bind (zrf M r0 0) fun q2 => Option.bind (zld q2 x1) fun k3 => f_X10_valueOf_23 r0 x1 (zI M q2 k3) M))
set_option maxRecDepth 100000 in
set_option maxHeartbeats 4000000 in
theorem x_X10_valueOf {κ : KX} {n : Nat} (hC : CX κ cX10_valueOf RX10 2 (some .int) 0) (hE : zEnd κ n (0, 0)) (hk0 : zRk κ (0, 0)) (r0 : Nat) (x1 : Int32) (M : Mem) (h_r0 : zO n r0 10) : X κ 2 emI n (0, 0) 0 [.ref r0, .int x1] [] M (f_X10_valueOf r0 x1 M) := by
  unfold f_X10_valueOf
  refine x_iload_n (i := 1) rfl hC (zdk dk_X10_valueOf 0 rfl) (q := 1) rfl ?_
  refine x_if_lt (tgt := 22) hC (zdk dk_X10_valueOf 1 rfl) (q := 4) rfl rfl (fun _ => ?_) (fun _ => ?_)
  · refine x_weak (L' := [.null, .null]) ⟨Or.inl rfl, Or.inl rfl, trivial⟩ ?_
    exact x_X10_valueOf_22 hC hE hk0 h_r0 _
  · refine x_iload_n (i := 1) rfl hC (zdk dk_X10_valueOf 2 rfl) (q := 5) rfl ?_
    refine x_aload_n (i := 0) rfl hC (zdk dk_X10_valueOf 3 rfl) (q := 6) rfl ?_
    refine x_getR (k := 20) fl_RX10_9 rfl h_r0 hC (zdk dk_X10_valueOf 4 rfl) (q := 9) rfl (fun q1 hq1 => ?_)
    refine x_alen hq1 (by decide) hC (zdk dk_X10_valueOf 5 rfl) (q := 10) rfl ?_
    refine x_icmp_ge (tgt := 22) hC (zdk dk_X10_valueOf 6 rfl) (q := 13) rfl rfl (fun _ => ?_) (fun _ => ?_)
    · refine x_weak (L' := [.null, .null]) ⟨Or.inl rfl, Or.inl rfl, trivial⟩ ?_
      exact x_X10_valueOf_22 hC hE hk0 h_r0 _
    · refine x_aload_n (i := 0) rfl hC (zdk dk_X10_valueOf 7 rfl) (q := 14) rfl ?_
      refine x_getR (k := 20) fl_RX10_9 rfl h_r0 hC (zdk dk_X10_valueOf 8 rfl) (q := 17) rfl (fun q2 hq2 => ?_)
      refine x_iload_n (i := 1) rfl hC (zdk dk_X10_valueOf 9 rfl) (q := 18) rfl ?_
      refine x_iald hq2 hC (zdk dk_X10_valueOf 10 rfl) (q := 19) rfl (fun k3 _ => ?_)
      refine x_goto (tgt := 23) hC (zdk dk_X10_valueOf 11 rfl) rfl ?_
      refine x_weak (L' := [.null, .null]) ⟨Or.inl rfl, Or.inl rfl, trivial⟩ ?_
      exact x_X10_valueOf_23 hC hE hk0 h_r0 _ _
set_option maxRecDepth 100000 in
set_option maxHeartbeats 4000000 in
theorem t_X10_valueOf {n : Nat} {r0 : Nat} {x1 : Int32} {M : Mem} (h_r0 : zO n r0 10) (x : (Int32 × Mem)) (hx : f_X10_valueOf r0 x1 M = some x) (l : Launch) (dC : Nat → ClassId) (dI : Nat → Nat → Nat) (b : zSg) : MT l dC dI b yX10_valueOf cX10_valueOf 2 (some .int) 0 0 0 n n [.ref r0, .int x1] M (emI x).1 (emI x).2 :=
  MT.ofX (by decide +kernel) rfl (Nat.le_of_ble_eq_true rfl) (fun κ hC hF _ => x_X10_valueOf hC (zEnd_of hF (Nat.le_refl _) (Nat.le_refl _)) (zRk_of hF (Nat.le_refl _) (Nat.le_refl _)) _ _ _ h_r0) x hx
set_option maxRecDepth 100000 in
def dt_X10_run : List (Nat × Instr × Nat) := [(0, .aload_n 0, 1), (1, .iconst 0, 1), (2, .putfield 92, 3), (5, .iload_n 2, 1), (6, .istore 4, 2), (8, .iload 4, 2), (10, .iload_n 3, 1), (11, .if_icmp .ge 150, 3), (14, .iload 4, 2), (16, .aload_n 1, 1), (17, .getfield 95, 3), (20, .arraylength, 1), (21, .if_icmp .ge 140, 3), (24, .aload_n 1, 1), (25, .getfield 95, 3), (28, .iload 4, 2), (30, .iaload, 1), (31, .istore 5, 2), (33, .iload 5, 2), (35, .ifCond .lt 12, 3), (38, .aload_n 0, 1), (39, .iload 5, 2), (41, .invokevirtual 98, 3), (44, .goto 111, 3), (47, .iload 5, 2), (49, .bipush (-100), 2), (51, .if_icmp .gt 19, 3), (54, .aload_n 0, 1), (55, .aload_n 0, 1), (56, .bipush (-100), 2), (58, .iload 5, 2), (60, .isub, 1), (61, .invokevirtual 102, 3), (64, .invokevirtual 98, 3), (67, .goto 88, 3), (70, .iload 5, 2), (72, .bipush (-13), 2), (74, .if_icmp .ne 16, 3), (77, .aload_n 0, 1), (78, .iconst 1, 1), (79, .aload_n 0, 1), (80, .invokevirtual 106, 3), (83, .isub, 1), (84, .invokevirtual 98, 3), (87, .goto 68, 3), (90, .iload 5, 2), (92, .bipush (-14), 2), (94, .if_icmp .ne 36, 3), (97, .aload_n 0, 1), (98, .invokevirtual 106, 3), (101, .istore 6, 2), (103, .aload_n 0, 1), (104, .invokevirtual 106, 3), (107, .istore 7, 2), (109, .aload_n 0, 1), (110, .aload_n 0, 1), (111, .invokevirtual 106, 3), (114, .ifCond .eq 8, 3), (117, .iload 7, 2), (119, .goto 5, 3), (122, .iload 6, 2), (124, .invokevirtual 98, 3), (127, .goto 28, 3), (130, .aload_n 0, 1), (131, .invokevirtual 106, 3), (134, .istore 6, 2), (136, .aload_n 0, 1), (137, .invokevirtual 106, 3), (140, .istore 7, 2), (142, .aload_n 0, 1), (143, .iload 5, 2), (145, .iload 7, 2), (147, .iload 6, 2), (149, .invokestatic 110, 3), (152, .invokevirtual 98, 3), (155, .iinc 4 1, 3), (158, .goto (-150), 3), (161, .aload_n 0, 1), (162, .invokevirtual 106, 3), (165, .ireturn, 1)]
set_option maxRecDepth 100000 in
theorem dk_X10_run : dt_X10_run.all (fun q => decide (decode cX10_run q.1 = .ok q.2)) = true := by decide +kernel
set_option maxRecDepth 100000 in
def f_X10_run_155 (k8 : Int32 → Mem → Option (Int32 × Mem)) (r0 : Nat) (r1 : Nat) (x2 : Int32) (x3 : Int32) (x4 : Int32) (M : Mem) : Option (Int32 × Mem) := k8 (x4 + 1) M
set_option maxRecDepth 100000 in
set_option maxHeartbeats 4000000 in
theorem x_X10_run_155 {κ : KX} {n : Nat} (hC : CX κ cX10_run RX10 8 (some .int) 3) (hE : zEnd κ n (0, 0)) (hk0 : zRk κ (0, 0)) {r0 : Nat} {r1 : Nat} {x2 : Int32} {x3 : Int32} (h_r0 : zO n r0 10) (h_r1 : zO n r1 0) (k8 : Int32 → Mem → Option (Int32 × Mem)) (hk8 : ∀ (x4 : Int32) (M : Mem), X κ 8 emI n (0, 0) 8 [.ref r0, .ref r1, .null, .int x3, .int x4, .null, .null, .null] [] M (k8 x4 M)) (x4 : Int32) (M : Mem) : X κ 8 emI n (0, 0) 155 [.ref r0, .ref r1, .null, .int x3, .int x4, .null, .null, .null] [] M (f_X10_run_155 k8 r0 r1 x2 x3 x4 M) := by
  unfold f_X10_run_155
  refine x_iinc (i := 4) c_iconst_1 rfl (by decide) (L' := [.ref r0, .ref r1, .null, .int x3, .int (x4 + 1), .null, .null, .null]) rfl hC (zdk dk_X10_run 75 rfl) (q := 158) rfl ?_
  refine x_goto (tgt := 8) hC (zdk dk_X10_run 76 rfl) rfl ?_
  refine x_weak (L' := [.ref r0, .ref r1, .null, .int x3, .int (x4 + 1), .null, .null, .null]) ⟨Or.inr rfl, Or.inr rfl, Or.inl rfl, Or.inr rfl, Or.inr rfl, Or.inl rfl, Or.inl rfl, Or.inl rfl, trivial⟩ ?_
  exact hk8 _ _
set_option maxRecDepth 100000 in
def f_X10_run_124 (k8 : Int32 → Mem → Option (Int32 × Mem)) (r0 : Nat) (r1 : Nat) (x2 : Int32) (x3 : Int32) (x4 : Int32) (s0 : Nat) (s1 : Int32) (M : Mem) : Option (Int32 × Mem) := Option.bind (f_X10_push s0 s1 M) fun M1 => f_X10_run_155 k8 r0 r1 x2 x3 x4 M1
set_option maxRecDepth 100000 in
set_option maxHeartbeats 4000000 in
theorem x_X10_run_124 {κ : KX} {n : Nat} (hC : CX κ cX10_run RX10 8 (some .int) 3) (hE : zEnd κ n (0, 0)) (hk0 : zRk κ (0, 0)) {r0 : Nat} {r1 : Nat} {x2 : Int32} {x3 : Int32} (h_r0 : zO n r0 10) (h_r1 : zO n r1 0) (k8 : Int32 → Mem → Option (Int32 × Mem)) (hk8 : ∀ (x4 : Int32) (M : Mem), X κ 8 emI n (0, 0) 8 [.ref r0, .ref r1, .null, .int x3, .int x4, .null, .null, .null] [] M (k8 x4 M)) (x4 : Int32) (s0 : Nat) (s1 : Int32) (M : Mem) (h_s0 : zO n s0 10) : X κ 8 emI n (0, 0) 124 [.ref r0, .ref r1, .null, .int x3, .int x4, .null, .null, .null] [.int s1, .ref s0] M (f_X10_run_124 k8 r0 r1 x2 x3 x4 s0 s1 M) := by
  unfold f_X10_run_124
  refine x_callVv (as := [.int s1]) cb_RX10_98 rfl (by decide) hk0 h_s0 (fun x hx => t_X10_push h_s0 x hx) hC (zdk dk_X10_run 61 rfl) (q := 127) rfl rfl (Nat.le_of_ble_eq_true rfl) (fun M1 => ?_)
  refine x_goto (tgt := 155) hC (zdk dk_X10_run 62 rfl) rfl ?_
  refine x_weak (L' := [.ref r0, .ref r1, .null, .int x3, .int x4, .null, .null, .null]) ⟨Or.inr rfl, Or.inr rfl, Or.inl rfl, Or.inr rfl, Or.inr rfl, Or.inl rfl, Or.inl rfl, Or.inl rfl, trivial⟩ ?_
  exact x_X10_run_155 hC hE hk0 h_r0 h_r1 k8 hk8 _ _
set_option maxRecDepth 100000 in
def f_X10_run_161  (r0 : Nat) (r1 : Nat) (x2 : Int32) (x3 : Int32)  (M : Mem) : Option (Int32 × Mem) := Option.bind (f_X10_pop r0 M) fun z2 => some (z2.1, z2.2)
set_option maxRecDepth 100000 in
set_option maxHeartbeats 4000000 in
theorem x_X10_run_161 {κ : KX} {n : Nat} (hC : CX κ cX10_run RX10 8 (some .int) 3) (hE : zEnd κ n (0, 0)) (hk0 : zRk κ (0, 0)) {r0 : Nat} {r1 : Nat} {x2 : Int32} {x3 : Int32} (h_r0 : zO n r0 10) (h_r1 : zO n r1 0) (M : Mem) : X κ 8 emI n (0, 0) 161 [.ref r0, .null, .null, .null, .null, .null, .null, .null] [] M (f_X10_run_161 r0 r1 x2 x3 M) := by
  unfold f_X10_run_161
  refine x_aload_n (i := 0) rfl hC (zdk dk_X10_run 77 rfl) (q := 162) rfl ?_
  refine x_callVi (as := []) cb_RX10_106 rfl (by decide) hk0 h_r0 (fun x hx => t_X10_pop h_r0 x hx) hC (zdk dk_X10_run 78 rfl) (q := 165) rfl rfl (Nat.le_of_ble_eq_true rfl) (fun z2 => ?_)
  exact x_iret (ty := .int) rfl hE hC (zdk dk_X10_run 79 rfl)
set_option maxRecDepth 100000 in
def f_X10_run_8  (r0 : Nat) (r1 : Nat) (x2 : Int32) (x3 : Int32) : Nat → Int32 → Mem → Option (Int32 × Mem)
  | 0, _, _ => none
  | f + 1, x4, M => (if x3 ≤ x4 then f_X10_run_161 r0 r1 x2 x3 M else Option.bind (zrf M r1 2) fun q3 => (if zlen q3 ≤ x4 then f_X10_run_161 r0 r1 x2 x3 M else Option.bind (zrf M r1 2) fun q4 => Option.bind (zld q4 x4) fun k5 => (if zI M q4 k5 < 0 then (if (-100) < zI M q4 k5 then (if zI M q4 k5 = (-13) then Option.bind (f_X10_pop r0 M) fun z13 => Option.bind (f_X10_push r0 (1 - z13.1) z13.2) fun M14 => f_X10_run_155 (f_X10_run_8 r0 r1 x2 x3 f) r0 r1 x2 x3 x4 M14 else (if zI M q4 k5 = (-14) then Option.bind (f_X10_pop r0 M) fun z10 => Option.bind (f_X10_pop r0 z10.2) fun z11 => Option.bind (f_X10_pop r0 z11.2) fun z12 => (if z12.1 = 0 then f_X10_run_124 (f_X10_run_8 r0 r1 x2 x3 f) r0 r1 x2 x3 x4 r0 z10.1 z12.2 else f_X10_run_124 (f_X10_run_8 r0 r1 x2 x3 f) r0 r1 x2 x3 x4 r0 z11.1 z12.2) else Option.bind (f_X10_pop r0 M) fun z6 => Option.bind (f_X10_pop r0 z6.2) fun z7 => Option.bind (f_X10_joined (zI M q4 k5) z7.1 z6.1 z7.2) fun z8 => Option.bind (f_X10_push r0 z8.1 z8.2) fun M9 => f_X10_run_155 (f_X10_run_8 r0 r1 x2 x3 f) r0 r1 x2 x3 x4 M9)) else Option.bind (f_X10_valueOf r0 (((-100)) - (zI M q4 k5)) M) fun z15 => Option.bind (f_X10_push r0 z15.1 z15.2) fun M16 => f_X10_run_155 (f_X10_run_8 r0 r1 x2 x3 f) r0 r1 x2 x3 x4 M16) else Option.bind (f_X10_push r0 (zI M q4 k5) M) fun M17 => f_X10_run_155 (f_X10_run_8 r0 r1 x2 x3 f) r0 r1 x2 x3 x4 M17)))
set_option maxRecDepth 100000 in
set_option maxHeartbeats 4000000 in
theorem x_X10_run_8 {κ : KX} {n : Nat} (hC : CX κ cX10_run RX10 8 (some .int) 3) (hE : zEnd κ n (0, 0)) (hk0 : zRk κ (0, 0)) {r0 : Nat} {r1 : Nat} {x2 : Int32} {x3 : Int32} (h_r0 : zO n r0 10) (h_r1 : zO n r1 0) : ∀ (f : Nat) (x4 : Int32) (M : Mem), X κ 8 emI n (0, 0) 8 [.ref r0, .ref r1, .null, .int x3, .int x4, .null, .null, .null] [] M (f_X10_run_8 r0 r1 x2 x3 f x4 M) := by
  intro f
  induction f with
  | zero => intros; exact x_none
  | succ f ih =>
    intro x4 M 
    rw [f_X10_run_8]
    refine x_iload (i := 4) rfl hC (zdk dk_X10_run 5 rfl) (q := 10) rfl ?_
    refine x_iload_n (i := 3) rfl hC (zdk dk_X10_run 6 rfl) (q := 11) rfl ?_
    refine x_icmp_ge (tgt := 161) hC (zdk dk_X10_run 7 rfl) (q := 14) rfl rfl (fun _ => ?_) (fun _ => ?_)
    · refine x_weak (L' := [.ref r0, .null, .null, .null, .null, .null, .null, .null]) ⟨Or.inr rfl, Or.inl rfl, Or.inl rfl, Or.inl rfl, Or.inl rfl, Or.inl rfl, Or.inl rfl, Or.inl rfl, trivial⟩ ?_
      exact x_X10_run_161 hC hE hk0 h_r0 h_r1 _
    · refine x_iload (i := 4) rfl hC (zdk dk_X10_run 8 rfl) (q := 16) rfl ?_
      refine x_aload_n (i := 1) rfl hC (zdk dk_X10_run 9 rfl) (q := 17) rfl ?_
      refine x_getR (k := 20) fl_RX10_95 rfl h_r1 hC (zdk dk_X10_run 10 rfl) (q := 20) rfl (fun q3 hq3 => ?_)
      refine x_alen hq3 (by decide) hC (zdk dk_X10_run 11 rfl) (q := 21) rfl ?_
      refine x_icmp_ge (tgt := 161) hC (zdk dk_X10_run 12 rfl) (q := 24) rfl rfl (fun _ => ?_) (fun _ => ?_)
      · refine x_weak (L' := [.ref r0, .null, .null, .null, .null, .null, .null, .null]) ⟨Or.inr rfl, Or.inl rfl, Or.inl rfl, Or.inl rfl, Or.inl rfl, Or.inl rfl, Or.inl rfl, Or.inl rfl, trivial⟩ ?_
        exact x_X10_run_161 hC hE hk0 h_r0 h_r1 _
      · refine x_aload_n (i := 1) rfl hC (zdk dk_X10_run 13 rfl) (q := 25) rfl ?_
        refine x_getR (k := 20) fl_RX10_95 rfl h_r1 hC (zdk dk_X10_run 14 rfl) (q := 28) rfl (fun q4 hq4 => ?_)
        refine x_iload (i := 4) rfl hC (zdk dk_X10_run 15 rfl) (q := 30) rfl ?_
        refine x_iald hq4 hC (zdk dk_X10_run 16 rfl) (q := 31) rfl (fun k5 _ => ?_)
        refine x_istore (i := 5) (L' := [.ref r0, .ref r1, .null, .int x3, .int x4, .int (zI M q4 k5), .null, .null]) (by decide) rfl hC (zdk dk_X10_run 17 rfl) (q := 33) rfl ?_
        refine x_iload (i := 5) rfl hC (zdk dk_X10_run 18 rfl) (q := 35) rfl ?_
        refine x_if_lt (tgt := 47) hC (zdk dk_X10_run 19 rfl) (q := 38) rfl rfl (fun _ => ?_) (fun _ => ?_)
        · refine x_iload (i := 5) rfl hC (zdk dk_X10_run 24 rfl) (q := 49) rfl ?_
          refine x_bipush (i := (-100)) c_bipush_m100 hC (zdk dk_X10_run 25 rfl) (q := 51) rfl ?_
          refine x_icmp_gt (tgt := 70) hC (zdk dk_X10_run 26 rfl) (q := 54) rfl rfl (fun _ => ?_) (fun _ => ?_)
          · refine x_iload (i := 5) rfl hC (zdk dk_X10_run 35 rfl) (q := 72) rfl ?_
            refine x_bipush (i := (-13)) c_bipush_m13 hC (zdk dk_X10_run 36 rfl) (q := 74) rfl ?_
            refine x_icmp_ne (tgt := 90) hC (zdk dk_X10_run 37 rfl) (q := 77) rfl rfl (fun _ => ?_) (fun _ => ?_)
            · refine x_iload (i := 5) rfl hC (zdk dk_X10_run 45 rfl) (q := 92) rfl ?_
              refine x_bipush (i := (-14)) c_bipush_m14 hC (zdk dk_X10_run 46 rfl) (q := 94) rfl ?_
              refine x_icmp_ne (tgt := 130) hC (zdk dk_X10_run 47 rfl) (q := 97) rfl rfl (fun _ => ?_) (fun _ => ?_)
              · refine x_aload_n (i := 0) rfl hC (zdk dk_X10_run 63 rfl) (q := 131) rfl ?_
                refine x_callVi (as := []) cb_RX10_106 rfl (by decide) hk0 h_r0 (fun x hx => t_X10_pop h_r0 x hx) hC (zdk dk_X10_run 64 rfl) (q := 134) rfl rfl (Nat.le_of_ble_eq_true rfl) (fun z6 => ?_)
                refine x_istore (i := 6) (L' := [.ref r0, .ref r1, .null, .int x3, .int x4, .int (zI M q4 k5), .int z6.1, .null]) (by decide) rfl hC (zdk dk_X10_run 65 rfl) (q := 136) rfl ?_
                refine x_aload_n (i := 0) rfl hC (zdk dk_X10_run 66 rfl) (q := 137) rfl ?_
                refine x_callVi (as := []) cb_RX10_106 rfl (by decide) hk0 h_r0 (fun x hx => t_X10_pop h_r0 x hx) hC (zdk dk_X10_run 67 rfl) (q := 140) rfl rfl (Nat.le_of_ble_eq_true rfl) (fun z7 => ?_)
                refine x_istore (i := 7) (L' := [.ref r0, .ref r1, .null, .int x3, .int x4, .int (zI M q4 k5), .int z6.1, .int z7.1]) (by decide) rfl hC (zdk dk_X10_run 68 rfl) (q := 142) rfl ?_
                refine x_aload_n (i := 0) rfl hC (zdk dk_X10_run 69 rfl) (q := 143) rfl ?_
                refine x_iload (i := 5) rfl hC (zdk dk_X10_run 70 rfl) (q := 145) rfl ?_
                refine x_iload (i := 7) rfl hC (zdk dk_X10_run 71 rfl) (q := 147) rfl ?_
                refine x_iload (i := 6) rfl hC (zdk dk_X10_run 72 rfl) (q := 149) rfl ?_
                refine x_callSi (as := [.int (zI M q4 k5), .int z7.1, .int z6.1]) cb_RX10_110 rfl (by decide) hk0 (fun x hx => t_X10_joined  x hx) hC (zdk dk_X10_run 73 rfl) (q := 152) rfl rfl (Nat.le_of_ble_eq_true rfl) (fun z8 => ?_)
                refine x_callVv (as := [.int z8.1]) cb_RX10_98 rfl (by decide) hk0 h_r0 (fun x hx => t_X10_push h_r0 x hx) hC (zdk dk_X10_run 74 rfl) (q := 155) rfl rfl (Nat.le_of_ble_eq_true rfl) (fun M9 => ?_)
                refine x_weak (L' := [.ref r0, .ref r1, .null, .int x3, .int x4, .null, .null, .null]) ⟨Or.inr rfl, Or.inr rfl, Or.inl rfl, Or.inr rfl, Or.inr rfl, Or.inl rfl, Or.inl rfl, Or.inl rfl, trivial⟩ ?_
                exact x_X10_run_155 hC hE hk0 h_r0 h_r1 (f_X10_run_8 r0 r1 x2 x3 f) ih _ _
              · refine x_aload_n (i := 0) rfl hC (zdk dk_X10_run 48 rfl) (q := 98) rfl ?_
                refine x_callVi (as := []) cb_RX10_106 rfl (by decide) hk0 h_r0 (fun x hx => t_X10_pop h_r0 x hx) hC (zdk dk_X10_run 49 rfl) (q := 101) rfl rfl (Nat.le_of_ble_eq_true rfl) (fun z10 => ?_)
                refine x_istore (i := 6) (L' := [.ref r0, .ref r1, .null, .int x3, .int x4, .int (zI M q4 k5), .int z10.1, .null]) (by decide) rfl hC (zdk dk_X10_run 50 rfl) (q := 103) rfl ?_
                refine x_aload_n (i := 0) rfl hC (zdk dk_X10_run 51 rfl) (q := 104) rfl ?_
                refine x_callVi (as := []) cb_RX10_106 rfl (by decide) hk0 h_r0 (fun x hx => t_X10_pop h_r0 x hx) hC (zdk dk_X10_run 52 rfl) (q := 107) rfl rfl (Nat.le_of_ble_eq_true rfl) (fun z11 => ?_)
                refine x_istore (i := 7) (L' := [.ref r0, .ref r1, .null, .int x3, .int x4, .int (zI M q4 k5), .int z10.1, .int z11.1]) (by decide) rfl hC (zdk dk_X10_run 53 rfl) (q := 109) rfl ?_
                refine x_aload_n (i := 0) rfl hC (zdk dk_X10_run 54 rfl) (q := 110) rfl ?_
                refine x_aload_n (i := 0) rfl hC (zdk dk_X10_run 55 rfl) (q := 111) rfl ?_
                refine x_callVi (as := []) cb_RX10_106 rfl (by decide) hk0 h_r0 (fun x hx => t_X10_pop h_r0 x hx) hC (zdk dk_X10_run 56 rfl) (q := 114) rfl rfl (Nat.le_of_ble_eq_true rfl) (fun z12 => ?_)
                refine x_if_eq (tgt := 122) hC (zdk dk_X10_run 57 rfl) (q := 117) rfl rfl (fun _ => ?_) (fun _ => ?_)
                · refine x_iload (i := 6) rfl hC (zdk dk_X10_run 60 rfl) (q := 124) rfl ?_
                  refine x_weak (L' := [.ref r0, .ref r1, .null, .int x3, .int x4, .null, .null, .null]) ⟨Or.inr rfl, Or.inr rfl, Or.inl rfl, Or.inr rfl, Or.inr rfl, Or.inl rfl, Or.inl rfl, Or.inl rfl, trivial⟩ ?_
                  exact x_X10_run_124 hC hE hk0 h_r0 h_r1 (f_X10_run_8 r0 r1 x2 x3 f) ih _ _ _ _ h_r0
                · refine x_iload (i := 7) rfl hC (zdk dk_X10_run 58 rfl) (q := 119) rfl ?_
                  refine x_goto (tgt := 124) hC (zdk dk_X10_run 59 rfl) rfl ?_
                  refine x_weak (L' := [.ref r0, .ref r1, .null, .int x3, .int x4, .null, .null, .null]) ⟨Or.inr rfl, Or.inr rfl, Or.inl rfl, Or.inr rfl, Or.inr rfl, Or.inl rfl, Or.inl rfl, Or.inl rfl, trivial⟩ ?_
                  exact x_X10_run_124 hC hE hk0 h_r0 h_r1 (f_X10_run_8 r0 r1 x2 x3 f) ih _ _ _ _ h_r0
            · refine x_aload_n (i := 0) rfl hC (zdk dk_X10_run 38 rfl) (q := 78) rfl ?_
              refine x_iconst (i := 1) c_iconst_1 hC (zdk dk_X10_run 39 rfl) (q := 79) rfl ?_
              refine x_aload_n (i := 0) rfl hC (zdk dk_X10_run 40 rfl) (q := 80) rfl ?_
              refine x_callVi (as := []) cb_RX10_106 rfl (by decide) hk0 h_r0 (fun x hx => t_X10_pop h_r0 x hx) hC (zdk dk_X10_run 41 rfl) (q := 83) rfl rfl (Nat.le_of_ble_eq_true rfl) (fun z13 => ?_)
              refine x_isub hC (zdk dk_X10_run 42 rfl) (q := 84) rfl ?_
              refine x_callVv (as := [.int (1 - z13.1)]) cb_RX10_98 rfl (by decide) hk0 h_r0 (fun x hx => t_X10_push h_r0 x hx) hC (zdk dk_X10_run 43 rfl) (q := 87) rfl rfl (Nat.le_of_ble_eq_true rfl) (fun M14 => ?_)
              refine x_goto (tgt := 155) hC (zdk dk_X10_run 44 rfl) rfl ?_
              refine x_weak (L' := [.ref r0, .ref r1, .null, .int x3, .int x4, .null, .null, .null]) ⟨Or.inr rfl, Or.inr rfl, Or.inl rfl, Or.inr rfl, Or.inr rfl, Or.inl rfl, Or.inl rfl, Or.inl rfl, trivial⟩ ?_
              exact x_X10_run_155 hC hE hk0 h_r0 h_r1 (f_X10_run_8 r0 r1 x2 x3 f) ih _ _
          · refine x_aload_n (i := 0) rfl hC (zdk dk_X10_run 27 rfl) (q := 55) rfl ?_
            refine x_aload_n (i := 0) rfl hC (zdk dk_X10_run 28 rfl) (q := 56) rfl ?_
            refine x_bipush (i := (-100)) c_bipush_m100 hC (zdk dk_X10_run 29 rfl) (q := 58) rfl ?_
            refine x_iload (i := 5) rfl hC (zdk dk_X10_run 30 rfl) (q := 60) rfl ?_
            refine x_isub hC (zdk dk_X10_run 31 rfl) (q := 61) rfl ?_
            refine x_callVi (as := [.int (((-100)) - (zI M q4 k5))]) cb_RX10_102 rfl (by decide) hk0 h_r0 (fun x hx => t_X10_valueOf h_r0 x hx) hC (zdk dk_X10_run 32 rfl) (q := 64) rfl rfl (Nat.le_of_ble_eq_true rfl) (fun z15 => ?_)
            refine x_callVv (as := [.int z15.1]) cb_RX10_98 rfl (by decide) hk0 h_r0 (fun x hx => t_X10_push h_r0 x hx) hC (zdk dk_X10_run 33 rfl) (q := 67) rfl rfl (Nat.le_of_ble_eq_true rfl) (fun M16 => ?_)
            refine x_goto (tgt := 155) hC (zdk dk_X10_run 34 rfl) rfl ?_
            refine x_weak (L' := [.ref r0, .ref r1, .null, .int x3, .int x4, .null, .null, .null]) ⟨Or.inr rfl, Or.inr rfl, Or.inl rfl, Or.inr rfl, Or.inr rfl, Or.inl rfl, Or.inl rfl, Or.inl rfl, trivial⟩ ?_
            exact x_X10_run_155 hC hE hk0 h_r0 h_r1 (f_X10_run_8 r0 r1 x2 x3 f) ih _ _
        · refine x_aload_n (i := 0) rfl hC (zdk dk_X10_run 20 rfl) (q := 39) rfl ?_
          refine x_iload (i := 5) rfl hC (zdk dk_X10_run 21 rfl) (q := 41) rfl ?_
          refine x_callVv (as := [.int (zI M q4 k5)]) cb_RX10_98 rfl (by decide) hk0 h_r0 (fun x hx => t_X10_push h_r0 x hx) hC (zdk dk_X10_run 22 rfl) (q := 44) rfl rfl (Nat.le_of_ble_eq_true rfl) (fun M17 => ?_)
          refine x_goto (tgt := 155) hC (zdk dk_X10_run 23 rfl) rfl ?_
          refine x_weak (L' := [.ref r0, .ref r1, .null, .int x3, .int x4, .null, .null, .null]) ⟨Or.inr rfl, Or.inr rfl, Or.inl rfl, Or.inr rfl, Or.inr rfl, Or.inl rfl, Or.inl rfl, Or.inl rfl, trivial⟩ ?_
          exact x_X10_run_155 hC hE hk0 h_r0 h_r1 (f_X10_run_8 r0 r1 x2 x3 f) ih _ _
set_option maxRecDepth 100000 in
def f_X10_run (r0 : Nat) (r1 : Nat) (x2 : Int32) (x3 : Int32) (M : Mem) : Option (Int32 × Mem) := Option.bind (some (zsI M r0 2 0)) fun M18 => f_X10_run_8 r0 r1 x2 x3 1000000 x2 M18
set_option maxRecDepth 100000 in
set_option maxHeartbeats 4000000 in
theorem x_X10_run {κ : KX} {n : Nat} (hC : CX κ cX10_run RX10 8 (some .int) 3) (hE : zEnd κ n (0, 0)) (hk0 : zRk κ (0, 0)) (r0 : Nat) (r1 : Nat) (x2 : Int32) (x3 : Int32) (M : Mem) (h_r0 : zO n r0 10) (h_r1 : zO n r1 0) : X κ 8 emI n (0, 0) 0 [.ref r0, .ref r1, .int x2, .int x3, .null, .null, .null, .null] [] M (f_X10_run r0 r1 x2 x3 M) := by
  unfold f_X10_run
  refine x_aload_n (i := 0) rfl hC (zdk dk_X10_run 0 rfl) (q := 1) rfl ?_
  refine x_iconst (i := 0) c_iconst_0 hC (zdk dk_X10_run 1 rfl) (q := 2) rfl ?_
  refine x_putI fl_RX10_92 ⟨rfl, rfl⟩ (by decide) (Or.inl rfl) h_r0 hC (zdk dk_X10_run 2 rfl) (q := 5) rfl ?_
  refine x_nmM (fun M18 => ?_)
  refine x_iload_n (i := 2) rfl hC (zdk dk_X10_run 3 rfl) (q := 6) rfl ?_
  refine x_istore (i := 4) (L' := [.ref r0, .ref r1, .int x2, .int x3, .int x2, .null, .null, .null]) (by decide) rfl hC (zdk dk_X10_run 4 rfl) (q := 8) rfl ?_
  refine x_weak (L' := [.ref r0, .ref r1, .null, .int x3, .int x2, .null, .null, .null]) ⟨Or.inr rfl, Or.inr rfl, Or.inl rfl, Or.inr rfl, Or.inr rfl, Or.inl rfl, Or.inl rfl, Or.inl rfl, trivial⟩ ?_
  exact x_X10_run_8 hC hE hk0 h_r0 h_r1 _ _ _
set_option maxRecDepth 100000 in
set_option maxHeartbeats 4000000 in
theorem t_X10_run {n : Nat} {r0 : Nat} {r1 : Nat} {x2 : Int32} {x3 : Int32} {M : Mem} (h_r0 : zO n r0 10) (h_r1 : zO n r1 0) (x : (Int32 × Mem)) (hx : f_X10_run r0 r1 x2 x3 M = some x) (l : Launch) (dC : Nat → ClassId) (dI : Nat → Nat → Nat) (b : zSg) : MT l dC dI b yX10_run cX10_run 8 (some .int) 3 0 0 n n [.ref r0, .ref r1, .int x2, .int x3] M (emI x).1 (emI x).2 :=
  MT.ofX (by decide +kernel) rfl (Nat.le_of_ble_eq_true rfl) (fun κ hC hF _ => x_X10_run hC (zEnd_of hF (Nat.le_refl _) (Nat.le_refl _)) (zRk_of hF (Nat.le_refl _) (Nat.le_refl _)) _ _ _ _ _ h_r0 h_r1) x hx
set_option maxRecDepth 100000 in
def dt_X10_triesAgain : List (Nat × Instr × Nat) := [(0, .aload_n 1, 1), (1, .invokevirtual 83, 3), (4, .ifCond .ne 15, 3), (7, .iload_n 2, 1), (8, .bipush 8, 2), (10, .if_icmp .ge 7, 3), (13, .iconst 1, 1), (14, .goto 4, 3), (17, .iconst 0, 1), (18, .ireturn, 1), (19, .aload_n 0, 1), (20, .getfield 9, 3), (23, .bipush 17, 2), (25, .iload_n 2, 1), (26, .iastore, 1), (27, .aload_n 0, 1), (28, .getfield 9, 3), (31, .bipush 18, 2), (33, .iload_n 3, 1), (34, .iastore, 1), (35, .aload_n 0, 1), (36, .getfield 9, 3), (39, .bipush 19, 2), (41, .iload 4, 2), (43, .iastore, 1), (44, .aload_n 0, 1), (45, .aload_n 1, 1), (46, .aload_n 1, 1), (47, .getfield 86, 3), (50, .aload_n 1, 1), (51, .getfield 89, 3), (54, .invokevirtual 40, 3), (57, .ifCond .eq 7, 3), (60, .iconst 1, 1), (61, .goto 4, 3), (64, .iconst 0, 1), (65, .ireturn, 1)]
set_option maxRecDepth 100000 in
theorem dk_X10_triesAgain : dt_X10_triesAgain.all (fun q => decide (decode cX10_triesAgain q.1 = .ok q.2)) = true := by decide +kernel
set_option maxRecDepth 100000 in
def f_X10_triesAgain_18  (r0 : Nat) (r1 : Nat) (x2 : Int32) (x3 : Int32) (x4 : Int32) (s0 : Int32) (M : Mem) : Option (Int32 × Mem) := zbz s0 (some (s0, M))
set_option maxRecDepth 100000 in
set_option maxHeartbeats 4000000 in
theorem x_X10_triesAgain_18 {κ : KX} {n : Nat} (hC : CX κ cX10_triesAgain RX10 5 (some .boolean) 4) (hE : zEnd κ n (0, 0)) (hk0 : zRk κ (0, 0)) {r0 : Nat} {r1 : Nat} {x2 : Int32} {x3 : Int32} {x4 : Int32} (h_r0 : zO n r0 10) (h_r1 : zO n r1 0) (s0 : Int32) (M : Mem) : X κ 5 emI n (0, 0) 18 [.null, .null, .null, .null, .null] [.int s0] M (f_X10_triesAgain_18 r0 r1 x2 x3 x4 s0 M) := by
  unfold f_X10_triesAgain_18
  refine x_bz (fun hb1 => ?_)
  exact x_iret (ty := .boolean) hb1.1 hE hC (zdk dk_X10_triesAgain 9 rfl)
set_option maxRecDepth 100000 in
def f_X10_triesAgain_65  (r0 : Nat) (r1 : Nat) (x2 : Int32) (x3 : Int32) (x4 : Int32) (s0 : Int32) (M : Mem) : Option (Int32 × Mem) := zbz s0 (some (s0, M))
set_option maxRecDepth 100000 in
set_option maxHeartbeats 4000000 in
theorem x_X10_triesAgain_65 {κ : KX} {n : Nat} (hC : CX κ cX10_triesAgain RX10 5 (some .boolean) 4) (hE : zEnd κ n (0, 0)) (hk0 : zRk κ (0, 0)) {r0 : Nat} {r1 : Nat} {x2 : Int32} {x3 : Int32} {x4 : Int32} (h_r0 : zO n r0 10) (h_r1 : zO n r1 0) (s0 : Int32) (M : Mem) : X κ 5 emI n (0, 0) 65 [.null, .null, .null, .null, .null] [.int s0] M (f_X10_triesAgain_65 r0 r1 x2 x3 x4 s0 M) := by
  unfold f_X10_triesAgain_65
  refine x_bz (fun hb2 => ?_)
  exact x_iret (ty := .boolean) hb2.1 hE hC (zdk dk_X10_triesAgain 36 rfl)
set_option maxRecDepth 100000 in
def f_X10_triesAgain (r0 : Nat) (r1 : Nat) (x2 : Int32) (x3 : Int32) (x4 : Int32) (M : Mem) : Option (Int32 × Mem) := Option.bind (f_X0_hasTries r1 M) fun z3 => (if z3.1 = 0 then (if 8 ≤ x2 then f_X10_triesAgain_18 r0 r1 x2 x3 x4 0 z3.2 else f_X10_triesAgain_18 r0 r1 x2 x3 x4 1 z3.2) else Option.bind (zrf z3.2 r0 0) fun q4 => Option.bind (zld q4 17) fun k5 => Option.bind (some (zsI z3.2 q4 k5 x2)) fun M6 => Option.bind (zrf M6 r0 0) fun q7 => Option.bind (zld q7 18) fun k8 => Option.bind (some (zsI M6 q7 k8 x3)) fun M9 => Option.bind (zrf M9 r0 0) fun q10 => Option.bind (zld q10 19) fun k11 => Option.bind (some (zsI M9 q10 k11 x4)) fun M12 => Option.bind (f_X10_run r0 r1 (zI M12 r1 6) (zI M12 r1 7) M12) fun z13 => (if z13.1 = 0 then f_X10_triesAgain_65 r0 r1 x2 x3 x4 0 z13.2 else f_X10_triesAgain_65 r0 r1 x2 x3 x4 1 z13.2))
set_option maxRecDepth 100000 in
set_option maxHeartbeats 4000000 in
theorem x_X10_triesAgain {κ : KX} {n : Nat} (hC : CX κ cX10_triesAgain RX10 5 (some .boolean) 4) (hE : zEnd κ n (0, 0)) (hk0 : zRk κ (0, 0)) (r0 : Nat) (r1 : Nat) (x2 : Int32) (x3 : Int32) (x4 : Int32) (M : Mem) (h_r0 : zO n r0 10) (h_r1 : zO n r1 0) : X κ 5 emI n (0, 0) 0 [.ref r0, .ref r1, .int x2, .int x3, .int x4] [] M (f_X10_triesAgain r0 r1 x2 x3 x4 M) := by
  unfold f_X10_triesAgain
  refine x_aload_n (i := 1) rfl hC (zdk dk_X10_triesAgain 0 rfl) (q := 1) rfl ?_
  refine x_callVi (as := []) cb_RX10_83 rfl (by decide) hk0 h_r1 (fun x hx => t_X0_hasTries h_r1 x hx) hC (zdk dk_X10_triesAgain 1 rfl) (q := 4) rfl rfl (Nat.le_of_ble_eq_true rfl) (fun z3 => ?_)
  refine x_if_ne (tgt := 19) hC (zdk dk_X10_triesAgain 2 rfl) (q := 7) rfl rfl (fun _ => ?_) (fun _ => ?_)
  · refine x_aload_n (i := 0) rfl hC (zdk dk_X10_triesAgain 10 rfl) (q := 20) rfl ?_
    refine x_getR (k := 20) fl_RX10_9 rfl h_r0 hC (zdk dk_X10_triesAgain 11 rfl) (q := 23) rfl (fun q4 hq4 => ?_)
    refine x_bipush (i := 17) c_bipush_17 hC (zdk dk_X10_triesAgain 12 rfl) (q := 25) rfl ?_
    refine x_iload_n (i := 2) rfl hC (zdk dk_X10_triesAgain 13 rfl) (q := 26) rfl ?_
    refine x_iast hq4 hC (zdk dk_X10_triesAgain 14 rfl) (q := 27) rfl (fun k5 _ => ?_)
    refine x_nmM (fun M6 => ?_)
    refine x_aload_n (i := 0) rfl hC (zdk dk_X10_triesAgain 15 rfl) (q := 28) rfl ?_
    refine x_getR (k := 20) fl_RX10_9 rfl h_r0 hC (zdk dk_X10_triesAgain 16 rfl) (q := 31) rfl (fun q7 hq7 => ?_)
    refine x_bipush (i := 18) c_bipush_18 hC (zdk dk_X10_triesAgain 17 rfl) (q := 33) rfl ?_
    refine x_iload_n (i := 3) rfl hC (zdk dk_X10_triesAgain 18 rfl) (q := 34) rfl ?_
    refine x_iast hq7 hC (zdk dk_X10_triesAgain 19 rfl) (q := 35) rfl (fun k8 _ => ?_)
    refine x_nmM (fun M9 => ?_)
    refine x_aload_n (i := 0) rfl hC (zdk dk_X10_triesAgain 20 rfl) (q := 36) rfl ?_
    refine x_getR (k := 20) fl_RX10_9 rfl h_r0 hC (zdk dk_X10_triesAgain 21 rfl) (q := 39) rfl (fun q10 hq10 => ?_)
    refine x_bipush (i := 19) c_bipush_19 hC (zdk dk_X10_triesAgain 22 rfl) (q := 41) rfl ?_
    refine x_iload (i := 4) rfl hC (zdk dk_X10_triesAgain 23 rfl) (q := 43) rfl ?_
    refine x_iast hq10 hC (zdk dk_X10_triesAgain 24 rfl) (q := 44) rfl (fun k11 _ => ?_)
    refine x_nmM (fun M12 => ?_)
    refine x_aload_n (i := 0) rfl hC (zdk dk_X10_triesAgain 25 rfl) (q := 45) rfl ?_
    refine x_aload_n (i := 1) rfl hC (zdk dk_X10_triesAgain 26 rfl) (q := 46) rfl ?_
    refine x_aload_n (i := 1) rfl hC (zdk dk_X10_triesAgain 27 rfl) (q := 47) rfl ?_
    refine x_getI fl_RX10_86 (by decide) h_r1 hC (zdk dk_X10_triesAgain 28 rfl) (q := 50) rfl ?_
    refine x_aload_n (i := 1) rfl hC (zdk dk_X10_triesAgain 29 rfl) (q := 51) rfl ?_
    refine x_getI fl_RX10_89 (by decide) h_r1 hC (zdk dk_X10_triesAgain 30 rfl) (q := 54) rfl ?_
    refine x_callVi (as := [.ref r1, .int (zI M12 r1 6), .int (zI M12 r1 7)]) cb_RX10_40 rfl (by decide) hk0 h_r0 (fun x hx => t_X10_run h_r0 h_r1 x hx) hC (zdk dk_X10_triesAgain 31 rfl) (q := 57) rfl rfl (Nat.le_of_ble_eq_true rfl) (fun z13 => ?_)
    refine x_if_eq (tgt := 64) hC (zdk dk_X10_triesAgain 32 rfl) (q := 60) rfl rfl (fun _ => ?_) (fun _ => ?_)
    · refine x_iconst (i := 0) c_iconst_0 hC (zdk dk_X10_triesAgain 35 rfl) (q := 65) rfl ?_
      refine x_weak (L' := [.null, .null, .null, .null, .null]) ⟨Or.inl rfl, Or.inl rfl, Or.inl rfl, Or.inl rfl, Or.inl rfl, trivial⟩ ?_
      exact x_X10_triesAgain_65 hC hE hk0 h_r0 h_r1 _ _
    · refine x_iconst (i := 1) c_iconst_1 hC (zdk dk_X10_triesAgain 33 rfl) (q := 61) rfl ?_
      refine x_goto (tgt := 65) hC (zdk dk_X10_triesAgain 34 rfl) rfl ?_
      refine x_weak (L' := [.null, .null, .null, .null, .null]) ⟨Or.inl rfl, Or.inl rfl, Or.inl rfl, Or.inl rfl, Or.inl rfl, trivial⟩ ?_
      exact x_X10_triesAgain_65 hC hE hk0 h_r0 h_r1 _ _
  · refine x_iload_n (i := 2) rfl hC (zdk dk_X10_triesAgain 3 rfl) (q := 8) rfl ?_
    refine x_bipush (i := 8) c_bipush_8 hC (zdk dk_X10_triesAgain 4 rfl) (q := 10) rfl ?_
    refine x_icmp_ge (tgt := 17) hC (zdk dk_X10_triesAgain 5 rfl) (q := 13) rfl rfl (fun _ => ?_) (fun _ => ?_)
    · refine x_iconst (i := 0) c_iconst_0 hC (zdk dk_X10_triesAgain 8 rfl) (q := 18) rfl ?_
      refine x_weak (L' := [.null, .null, .null, .null, .null]) ⟨Or.inl rfl, Or.inl rfl, Or.inl rfl, Or.inl rfl, Or.inl rfl, trivial⟩ ?_
      exact x_X10_triesAgain_18 hC hE hk0 h_r0 h_r1 _ _
    · refine x_iconst (i := 1) c_iconst_1 hC (zdk dk_X10_triesAgain 6 rfl) (q := 14) rfl ?_
      refine x_goto (tgt := 18) hC (zdk dk_X10_triesAgain 7 rfl) rfl ?_
      refine x_weak (L' := [.null, .null, .null, .null, .null]) ⟨Or.inl rfl, Or.inl rfl, Or.inl rfl, Or.inl rfl, Or.inl rfl, trivial⟩ ?_
      exact x_X10_triesAgain_18 hC hE hk0 h_r0 h_r1 _ _
set_option maxRecDepth 100000 in
set_option maxHeartbeats 4000000 in
theorem t_X10_triesAgain {n : Nat} {r0 : Nat} {r1 : Nat} {x2 : Int32} {x3 : Int32} {x4 : Int32} {M : Mem} (h_r0 : zO n r0 10) (h_r1 : zO n r1 0) (x : (Int32 × Mem)) (hx : f_X10_triesAgain r0 r1 x2 x3 x4 M = some x) (l : Launch) (dC : Nat → ClassId) (dI : Nat → Nat → Nat) (b : zSg) : MT l dC dI b yX10_triesAgain cX10_triesAgain 5 (some .boolean) 4 0 0 n n [.ref r0, .ref r1, .int x2, .int x3, .int x4] M (emI x).1 (emI x).2 :=
  MT.ofX (by decide +kernel) rfl (Nat.le_of_ble_eq_true rfl) (fun κ hC hF _ => x_X10_triesAgain hC (zEnd_of hF (Nat.le_refl _) (Nat.le_refl _)) (zRk_of hF (Nat.le_refl _) (Nat.le_refl _)) _ _ _ _ _ _ h_r0 h_r1) x hx
set_option maxRecDepth 100000 in
def dt_X3_nextThreshold : List (Nat × Instr × Nat) := [(0, .iload_n 2, 1), (1, .ifCond .eq 26, 3), (4, .aload_n 0, 1), (5, .getfield 15, 3), (8, .aload_n 1, 1), (9, .aload_n 0, 1), (10, .getfield 37, 3), (13, .iload_n 2, 1), (14, .invokestatic 95, 3), (17, .aload_n 0, 1), (18, .getfield 40, 3), (21, .invokevirtual 101, 3), (24, .ifCond .ne 5, 3), (27, .iconst (-1), 1), (28, .ireturn, 1), (29, .iload_n 2, 1), (30, .ifCond .le 15, 3), (33, .aload_n 0, 1), (34, .getfield 40, 3), (37, .aload_n 1, 1), (38, .getfield 107, 3), (41, .iadd, 1), (42, .goto 12, 3), (45, .aload_n 0, 1), (46, .getfield 40, 3), (49, .aload_n 1, 1), (50, .getfield 107, 3), (53, .isub, 1), (54, .istore_n 3, 1), (55, .iload_n 3, 1), (56, .iconst 1, 1), (57, .if_icmp .lt 13, 3), (60, .iload_n 3, 1), (61, .bipush 99, 2), (63, .if_icmp .gt 7, 3), (66, .iload_n 3, 1), (67, .goto 4, 3), (70, .iconst (-1), 1), (71, .ireturn, 1)]
set_option maxRecDepth 100000 in
theorem dk_X3_nextThreshold : dt_X3_nextThreshold.all (fun q => decide (decode cX3_nextThreshold q.1 = .ok q.2)) = true := by decide +kernel
set_option maxRecDepth 100000 in
def f_X3_nextThreshold_27  (r0 : Nat) (r1 : Nat) (x2 : Int32)  (M : Mem) : Option (Int32 × Mem) := some ((-1), M)
set_option maxRecDepth 100000 in
set_option maxHeartbeats 4000000 in
theorem x_X3_nextThreshold_27 {κ : KX} {n : Nat} (hC : CX κ cX3_nextThreshold RX3 4 (some .int) 5) (hE : zEnd κ n (0, 0)) (hk0 : zRk κ (0, 0)) {r0 : Nat} {r1 : Nat} {x2 : Int32} (h_r0 : zO n r0 3) (h_r1 : zO n r1 0) (M : Mem) : X κ 4 emI n (0, 0) 27 [.null, .null, .null, .null] [] M (f_X3_nextThreshold_27 r0 r1 x2 M) := by
  unfold f_X3_nextThreshold_27
  refine x_iconst (i := (-1)) c_iconst_m1 hC (zdk dk_X3_nextThreshold 13 rfl) (q := 28) rfl ?_
  exact x_iret (ty := .int) rfl hE hC (zdk dk_X3_nextThreshold 14 rfl)
set_option maxRecDepth 100000 in
def f_X3_nextThreshold_71  (r0 : Nat) (r1 : Nat) (x2 : Int32) (s0 : Int32) (M : Mem) : Option (Int32 × Mem) := some (s0, M)
set_option maxRecDepth 100000 in
set_option maxHeartbeats 4000000 in
theorem x_X3_nextThreshold_71 {κ : KX} {n : Nat} (hC : CX κ cX3_nextThreshold RX3 4 (some .int) 5) (hE : zEnd κ n (0, 0)) (hk0 : zRk κ (0, 0)) {r0 : Nat} {r1 : Nat} {x2 : Int32} (h_r0 : zO n r0 3) (h_r1 : zO n r1 0) (s0 : Int32) (M : Mem) : X κ 4 emI n (0, 0) 71 [.null, .null, .null, .null] [.int s0] M (f_X3_nextThreshold_71 r0 r1 x2 s0 M) := by
  unfold f_X3_nextThreshold_71
  exact x_iret (ty := .int) rfl hE hC (zdk dk_X3_nextThreshold 38 rfl)
set_option maxRecDepth 100000 in
def f_X3_nextThreshold_70  (r0 : Nat) (r1 : Nat) (x2 : Int32)  (M : Mem) : Option (Int32 × Mem) := f_X3_nextThreshold_71 r0 r1 x2 ((-1)) M
set_option maxRecDepth 100000 in
set_option maxHeartbeats 4000000 in
theorem x_X3_nextThreshold_70 {κ : KX} {n : Nat} (hC : CX κ cX3_nextThreshold RX3 4 (some .int) 5) (hE : zEnd κ n (0, 0)) (hk0 : zRk κ (0, 0)) {r0 : Nat} {r1 : Nat} {x2 : Int32} (h_r0 : zO n r0 3) (h_r1 : zO n r1 0) (M : Mem) : X κ 4 emI n (0, 0) 70 [.null, .null, .null, .null] [] M (f_X3_nextThreshold_70 r0 r1 x2 M) := by
  unfold f_X3_nextThreshold_70
  refine x_iconst (i := (-1)) c_iconst_m1 hC (zdk dk_X3_nextThreshold 37 rfl) (q := 71) rfl ?_
  refine x_weak (L' := [.null, .null, .null, .null]) ⟨Or.inl rfl, Or.inl rfl, Or.inl rfl, Or.inl rfl, trivial⟩ ?_
  exact x_X3_nextThreshold_71 hC hE hk0 h_r0 h_r1 _ _
set_option maxRecDepth 100000 in
def f_X3_nextThreshold_54  (r0 : Nat) (r1 : Nat) (x2 : Int32) (s0 : Int32) (M : Mem) : Option (Int32 × Mem) := (if s0 < 1 then f_X3_nextThreshold_70 r0 r1 x2 M else (if 99 < s0 then f_X3_nextThreshold_70 r0 r1 x2 M else f_X3_nextThreshold_71 r0 r1 x2 s0 M))
set_option maxRecDepth 100000 in
set_option maxHeartbeats 4000000 in
theorem x_X3_nextThreshold_54 {κ : KX} {n : Nat} (hC : CX κ cX3_nextThreshold RX3 4 (some .int) 5) (hE : zEnd κ n (0, 0)) (hk0 : zRk κ (0, 0)) {r0 : Nat} {r1 : Nat} {x2 : Int32} (h_r0 : zO n r0 3) (h_r1 : zO n r1 0) (s0 : Int32) (M : Mem) : X κ 4 emI n (0, 0) 54 [.null, .null, .null, .null] [.int s0] M (f_X3_nextThreshold_54 r0 r1 x2 s0 M) := by
  unfold f_X3_nextThreshold_54
  refine x_istore_n (i := 3) (L' := [.null, .null, .null, .int s0]) (by decide) rfl hC (zdk dk_X3_nextThreshold 28 rfl) (q := 55) rfl ?_
  refine x_iload_n (i := 3) rfl hC (zdk dk_X3_nextThreshold 29 rfl) (q := 56) rfl ?_
  refine x_iconst (i := 1) c_iconst_1 hC (zdk dk_X3_nextThreshold 30 rfl) (q := 57) rfl ?_
  refine x_icmp_lt (tgt := 70) hC (zdk dk_X3_nextThreshold 31 rfl) (q := 60) rfl rfl (fun _ => ?_) (fun _ => ?_)
  · refine x_weak (L' := [.null, .null, .null, .null]) ⟨Or.inl rfl, Or.inl rfl, Or.inl rfl, Or.inl rfl, trivial⟩ ?_
    exact x_X3_nextThreshold_70 hC hE hk0 h_r0 h_r1 _
  · refine x_iload_n (i := 3) rfl hC (zdk dk_X3_nextThreshold 32 rfl) (q := 61) rfl ?_
    refine x_bipush (i := 99) c_bipush_99 hC (zdk dk_X3_nextThreshold 33 rfl) (q := 63) rfl ?_
    refine x_icmp_gt (tgt := 70) hC (zdk dk_X3_nextThreshold 34 rfl) (q := 66) rfl rfl (fun _ => ?_) (fun _ => ?_)
    · refine x_weak (L' := [.null, .null, .null, .null]) ⟨Or.inl rfl, Or.inl rfl, Or.inl rfl, Or.inl rfl, trivial⟩ ?_
      exact x_X3_nextThreshold_70 hC hE hk0 h_r0 h_r1 _
    · refine x_iload_n (i := 3) rfl hC (zdk dk_X3_nextThreshold 35 rfl) (q := 67) rfl ?_
      refine x_goto (tgt := 71) hC (zdk dk_X3_nextThreshold 36 rfl) rfl ?_
      refine x_weak (L' := [.null, .null, .null, .null]) ⟨Or.inl rfl, Or.inl rfl, Or.inl rfl, Or.inl rfl, trivial⟩ ?_
      exact x_X3_nextThreshold_71 hC hE hk0 h_r0 h_r1 _ _
set_option maxRecDepth 100000 in
def f_X3_nextThreshold (r0 : Nat) (r1 : Nat) (x2 : Int32) (M : Mem) : Option (Int32 × Mem) := (if x2 = 0 then f_X3_nextThreshold_27 r0 r1 x2 M else Option.bind (zrf M r0 1) fun q1 => Option.bind (f_J9_abs_0f7a4 x2 M) fun z2 => Option.bind (f_X10_triesAgain q1 r1 (zI M r0 2) z2.1 (zI z2.2 r0 3) z2.2) fun z3 => (if z3.1 = 0 then f_X3_nextThreshold_27 r0 r1 x2 z3.2 else (if x2 ≤ 0 then f_X3_nextThreshold_54 r0 r1 x2 ((zI z3.2 r0 3) - (zI z3.2 r1 13)) z3.2 else f_X3_nextThreshold_54 r0 r1 x2 ((zI z3.2 r0 3) + (zI z3.2 r1 13)) z3.2)))
set_option maxRecDepth 100000 in
set_option maxHeartbeats 4000000 in
theorem x_X3_nextThreshold {κ : KX} {n : Nat} (hC : CX κ cX3_nextThreshold RX3 4 (some .int) 5) (hE : zEnd κ n (0, 0)) (hk0 : zRk κ (0, 0)) (r0 : Nat) (r1 : Nat) (x2 : Int32) (M : Mem) (h_r0 : zO n r0 3) (h_r1 : zO n r1 0) : X κ 4 emI n (0, 0) 0 [.ref r0, .ref r1, .int x2, .null] [] M (f_X3_nextThreshold r0 r1 x2 M) := by
  unfold f_X3_nextThreshold
  refine x_iload_n (i := 2) rfl hC (zdk dk_X3_nextThreshold 0 rfl) (q := 1) rfl ?_
  refine x_if_eq (tgt := 27) hC (zdk dk_X3_nextThreshold 1 rfl) (q := 4) rfl rfl (fun _ => ?_) (fun _ => ?_)
  · refine x_weak (L' := [.null, .null, .null, .null]) ⟨Or.inl rfl, Or.inl rfl, Or.inl rfl, Or.inl rfl, trivial⟩ ?_
    exact x_X3_nextThreshold_27 hC hE hk0 h_r0 h_r1 _
  · refine x_aload_n (i := 0) rfl hC (zdk dk_X3_nextThreshold 2 rfl) (q := 5) rfl ?_
    refine x_getR (k := 10) fl_RX3_15 rfl h_r0 hC (zdk dk_X3_nextThreshold 3 rfl) (q := 8) rfl (fun q1 hq1 => ?_)
    refine x_aload_n (i := 1) rfl hC (zdk dk_X3_nextThreshold 4 rfl) (q := 9) rfl ?_
    refine x_aload_n (i := 0) rfl hC (zdk dk_X3_nextThreshold 5 rfl) (q := 10) rfl ?_
    refine x_getI fl_RX3_37 (by decide) h_r0 hC (zdk dk_X3_nextThreshold 6 rfl) (q := 13) rfl ?_
    refine x_iload_n (i := 2) rfl hC (zdk dk_X3_nextThreshold 7 rfl) (q := 14) rfl ?_
    refine x_callSi (as := [.int x2]) cb_RX3_95 rfl (by decide) hk0 (fun x hx => t_J9_abs_0f7a4  x hx) hC (zdk dk_X3_nextThreshold 8 rfl) (q := 17) rfl rfl (Nat.le_of_ble_eq_true rfl) (fun z2 => ?_)
    refine x_aload_n (i := 0) rfl hC (zdk dk_X3_nextThreshold 9 rfl) (q := 18) rfl ?_
    refine x_getI fl_RX3_40 (by decide) h_r0 hC (zdk dk_X3_nextThreshold 10 rfl) (q := 21) rfl ?_
    refine x_callVi (as := [.ref r1, .int (zI M r0 2), .int z2.1, .int (zI z2.2 r0 3)]) cb_RX3_101 rfl (by decide) hk0 hq1 (fun x hx => t_X10_triesAgain hq1 h_r1 x hx) hC (zdk dk_X3_nextThreshold 11 rfl) (q := 24) rfl rfl (Nat.le_of_ble_eq_true rfl) (fun z3 => ?_)
    refine x_if_ne (tgt := 29) hC (zdk dk_X3_nextThreshold 12 rfl) (q := 27) rfl rfl (fun _ => ?_) (fun _ => ?_)
    · refine x_iload_n (i := 2) rfl hC (zdk dk_X3_nextThreshold 15 rfl) (q := 30) rfl ?_
      refine x_if_le (tgt := 45) hC (zdk dk_X3_nextThreshold 16 rfl) (q := 33) rfl rfl (fun _ => ?_) (fun _ => ?_)
      · refine x_aload_n (i := 0) rfl hC (zdk dk_X3_nextThreshold 23 rfl) (q := 46) rfl ?_
        refine x_getI fl_RX3_40 (by decide) h_r0 hC (zdk dk_X3_nextThreshold 24 rfl) (q := 49) rfl ?_
        refine x_aload_n (i := 1) rfl hC (zdk dk_X3_nextThreshold 25 rfl) (q := 50) rfl ?_
        refine x_getI fl_RX3_107 (by decide) h_r1 hC (zdk dk_X3_nextThreshold 26 rfl) (q := 53) rfl ?_
        refine x_isub hC (zdk dk_X3_nextThreshold 27 rfl) (q := 54) rfl ?_
        refine x_weak (L' := [.null, .null, .null, .null]) ⟨Or.inl rfl, Or.inl rfl, Or.inl rfl, Or.inl rfl, trivial⟩ ?_
        exact x_X3_nextThreshold_54 hC hE hk0 h_r0 h_r1 _ _
      · refine x_aload_n (i := 0) rfl hC (zdk dk_X3_nextThreshold 17 rfl) (q := 34) rfl ?_
        refine x_getI fl_RX3_40 (by decide) h_r0 hC (zdk dk_X3_nextThreshold 18 rfl) (q := 37) rfl ?_
        refine x_aload_n (i := 1) rfl hC (zdk dk_X3_nextThreshold 19 rfl) (q := 38) rfl ?_
        refine x_getI fl_RX3_107 (by decide) h_r1 hC (zdk dk_X3_nextThreshold 20 rfl) (q := 41) rfl ?_
        refine x_iadd hC (zdk dk_X3_nextThreshold 21 rfl) (q := 42) rfl ?_
        refine x_goto (tgt := 54) hC (zdk dk_X3_nextThreshold 22 rfl) rfl ?_
        refine x_weak (L' := [.null, .null, .null, .null]) ⟨Or.inl rfl, Or.inl rfl, Or.inl rfl, Or.inl rfl, trivial⟩ ?_
        exact x_X3_nextThreshold_54 hC hE hk0 h_r0 h_r1 _ _
    · refine x_weak (L' := [.null, .null, .null, .null]) ⟨Or.inl rfl, Or.inl rfl, Or.inl rfl, Or.inl rfl, trivial⟩ ?_
      exact x_X3_nextThreshold_27 hC hE hk0 h_r0 h_r1 _
set_option maxRecDepth 100000 in
set_option maxHeartbeats 4000000 in
theorem t_X3_nextThreshold {n : Nat} {r0 : Nat} {r1 : Nat} {x2 : Int32} {M : Mem} (h_r0 : zO n r0 3) (h_r1 : zO n r1 0) (x : (Int32 × Mem)) (hx : f_X3_nextThreshold r0 r1 x2 M = some x) (l : Launch) (dC : Nat → ClassId) (dI : Nat → Nat → Nat) (b : zSg) : MT l dC dI b yX3_nextThreshold cX3_nextThreshold 4 (some .int) 5 0 0 n n [.ref r0, .ref r1, .int x2] M (emI x).1 (emI x).2 :=
  MT.ofX (by decide +kernel) rfl (Nat.le_of_ble_eq_true rfl) (fun κ hC hF _ => x_X3_nextThreshold hC (zEnd_of hF (Nat.le_refl _) (Nat.le_refl _)) (zRk_of hF (Nat.le_refl _) (Nat.le_refl _)) _ _ _ _ h_r0 h_r1) x hx
set_option maxRecDepth 100000 in
def dt_X8_readBy : List (Nat × Instr × Nat) := [(0, .lconst 0, 1), (1, .lstore_n 3, 1), (2, .iconst 0, 1), (3, .istore 5, 2), (5, .iload 5, 2), (7, .iload_n 2, 1), (8, .if_icmp .ge 27, 3), (11, .aload_n 0, 1), (12, .getfield 9, 3), (15, .iload 5, 2), (17, .iaload, 1), (18, .iload_n 1, 1), (19, .if_icmp .lt 10, 3), (22, .lload_n 3, 1), (23, .lconst 1, 1), (24, .iload 5, 2), (26, .lshl, 1), (27, .lor, 1), (28, .lstore_n 3, 1), (29, .iinc 5 1, 3), (32, .goto (-27), 3), (35, .lload_n 3, 1), (36, .lreturn, 1)]
set_option maxRecDepth 100000 in
theorem dk_X8_readBy : dt_X8_readBy.all (fun q => decide (decode cX8_readBy q.1 = .ok q.2)) = true := by decide +kernel
set_option maxRecDepth 100000 in
def f_X8_readBy_29 (k5 : Int64 → Int32 → Mem → Option (Int64 × Mem)) (r0 : Nat) (x1 : Int32) (x2 : Int32) (y3 : Int64) (x5 : Int32) (M : Mem) : Option (Int64 × Mem) := k5 y3 (x5 + 1) M
set_option maxRecDepth 100000 in
set_option maxHeartbeats 4000000 in
theorem x_X8_readBy_29 {κ : KX} {n : Nat} (hC : CX κ cX8_readBy RX8 6 (some .long) 0) (hE : zEnd κ n (0, 0)) (hk0 : zRk κ (0, 0)) {r0 : Nat} {x1 : Int32} {x2 : Int32} (h_r0 : zO n r0 8) (k5 : Int64 → Int32 → Mem → Option (Int64 × Mem)) (hk5 : ∀ (y3 : Int64) (x5 : Int32) (M : Mem), X κ 6 emL n (0, 0) 5 [.ref r0, .int x1, .int x2, .long y3, .null, .int x5] [] M (k5 y3 x5 M)) (y3 : Int64) (x5 : Int32) (M : Mem) : X κ 6 emL n (0, 0) 29 [.ref r0, .int x1, .int x2, .long y3, .null, .int x5] [] M (f_X8_readBy_29 k5 r0 x1 x2 y3 x5 M) := by
  unfold f_X8_readBy_29
  refine x_iinc (i := 5) c_iconst_1 rfl (by decide) (L' := [.ref r0, .int x1, .int x2, .long y3, .null, .int (x5 + 1)]) rfl hC (zdk dk_X8_readBy 19 rfl) (q := 32) rfl ?_
  refine x_goto (tgt := 5) hC (zdk dk_X8_readBy 20 rfl) rfl ?_
  refine x_weak (L' := [.ref r0, .int x1, .int x2, .long y3, .null, .int (x5 + 1)]) ⟨Or.inr rfl, Or.inr rfl, Or.inr rfl, Or.inr rfl, Or.inl rfl, Or.inr rfl, trivial⟩ ?_
  exact hk5 _ _ _
set_option maxRecDepth 100000 in
def f_X8_readBy_5  (r0 : Nat) (x1 : Int32) (x2 : Int32) : Nat → Int64 → Int32 → Mem → Option (Int64 × Mem)
  | 0, _, _, _ => none
  | f + 1, y3, x5, M => (if x2 ≤ x5 then some (y3, M) else Option.bind (zrf M r0 0) fun q1 => Option.bind (zld q1 x5) fun k2 => (if zI M q1 k2 < x1 then f_X8_readBy_29 (f_X8_readBy_5 r0 x1 x2 f) r0 x1 x2 y3 x5 M else Option.bind (some (y3 ||| ((1 : Int64) <<< (x5.toInt64 &&& 63)))) fun (v3 : Int64) => f_X8_readBy_29 (f_X8_readBy_5 r0 x1 x2 f) r0 x1 x2 v3 x5 M))
set_option maxRecDepth 100000 in
set_option maxHeartbeats 4000000 in
theorem x_X8_readBy_5 {κ : KX} {n : Nat} (hC : CX κ cX8_readBy RX8 6 (some .long) 0) (hE : zEnd κ n (0, 0)) (hk0 : zRk κ (0, 0)) {r0 : Nat} {x1 : Int32} {x2 : Int32} (h_r0 : zO n r0 8) : ∀ (f : Nat) (y3 : Int64) (x5 : Int32) (M : Mem), X κ 6 emL n (0, 0) 5 [.ref r0, .int x1, .int x2, .long y3, .null, .int x5] [] M (f_X8_readBy_5 r0 x1 x2 f y3 x5 M) := by
  intro f
  induction f with
  | zero => intros; exact x_none
  | succ f ih =>
    intro y3 x5 M 
    rw [f_X8_readBy_5]
    refine x_iload (i := 5) rfl hC (zdk dk_X8_readBy 4 rfl) (q := 7) rfl ?_
    refine x_iload_n (i := 2) rfl hC (zdk dk_X8_readBy 5 rfl) (q := 8) rfl ?_
    refine x_icmp_ge (tgt := 35) hC (zdk dk_X8_readBy 6 rfl) (q := 11) rfl rfl (fun _ => ?_) (fun _ => ?_)
    · refine x_lload_n (i := 3) rfl hC (zdk dk_X8_readBy 21 rfl) (q := 36) rfl ?_
      exact x_lret hE hC (zdk dk_X8_readBy 22 rfl)
    · refine x_aload_n (i := 0) rfl hC (zdk dk_X8_readBy 7 rfl) (q := 12) rfl ?_
      refine x_getR (k := 20) fl_RX8_9 rfl h_r0 hC (zdk dk_X8_readBy 8 rfl) (q := 15) rfl (fun q1 hq1 => ?_)
      refine x_iload (i := 5) rfl hC (zdk dk_X8_readBy 9 rfl) (q := 17) rfl ?_
      refine x_iald hq1 hC (zdk dk_X8_readBy 10 rfl) (q := 18) rfl (fun k2 _ => ?_)
      refine x_iload_n (i := 1) rfl hC (zdk dk_X8_readBy 11 rfl) (q := 19) rfl ?_
      refine x_icmp_lt (tgt := 29) hC (zdk dk_X8_readBy 12 rfl) (q := 22) rfl rfl (fun _ => ?_) (fun _ => ?_)
      · refine x_weak (L' := [.ref r0, .int x1, .int x2, .long y3, .null, .int x5]) ⟨Or.inr rfl, Or.inr rfl, Or.inr rfl, Or.inr rfl, Or.inl rfl, Or.inr rfl, trivial⟩ ?_
        exact x_X8_readBy_29 hC hE hk0 h_r0 (f_X8_readBy_5 r0 x1 x2 f) ih _ _ _
      · refine x_lload_n (i := 3) rfl hC (zdk dk_X8_readBy 13 rfl) (q := 23) rfl ?_
        refine x_lconst (i := 1) c_lconst_1 hC (zdk dk_X8_readBy 14 rfl) (q := 24) rfl ?_
        refine x_iload (i := 5) rfl hC (zdk dk_X8_readBy 15 rfl) (q := 26) rfl ?_
        refine x_lshl hC (zdk dk_X8_readBy 16 rfl) (q := 27) rfl ?_
        refine x_lor hC (zdk dk_X8_readBy 17 rfl) (q := 28) rfl ?_
        refine x_lstore_n (i := 3) (L' := [.ref r0, .int x1, .int x2, .long (y3 ||| ((1 : Int64) <<< (x5.toInt64 &&& 63))), .null, .int x5]) (by decide) rfl hC (zdk dk_X8_readBy 18 rfl) (q := 29) rfl ?_
        refine x_nmJ (fun v3 => [.ref r0, .int x1, .int x2, .long v3, .null, .int x5]) rfl (fun v3 => ?_)
        refine x_weak (L' := [.ref r0, .int x1, .int x2, .long v3, .null, .int x5]) ⟨Or.inr rfl, Or.inr rfl, Or.inr rfl, Or.inr rfl, Or.inl rfl, Or.inr rfl, trivial⟩ ?_
        exact x_X8_readBy_29 hC hE hk0 h_r0 (f_X8_readBy_5 r0 x1 x2 f) ih _ _ _
set_option maxRecDepth 100000 in
def f_X8_readBy (r0 : Nat) (x1 : Int32) (x2 : Int32) (M : Mem) : Option (Int64 × Mem) := f_X8_readBy_5 r0 x1 x2 1000000 0 0 M
set_option maxRecDepth 100000 in
set_option maxHeartbeats 4000000 in
theorem x_X8_readBy {κ : KX} {n : Nat} (hC : CX κ cX8_readBy RX8 6 (some .long) 0) (hE : zEnd κ n (0, 0)) (hk0 : zRk κ (0, 0)) (r0 : Nat) (x1 : Int32) (x2 : Int32) (M : Mem) (h_r0 : zO n r0 8) : X κ 6 emL n (0, 0) 0 [.ref r0, .int x1, .int x2, .null, .null, .null] [] M (f_X8_readBy r0 x1 x2 M) := by
  unfold f_X8_readBy
  refine x_lconst (i := 0) c_lconst_0 hC (zdk dk_X8_readBy 0 rfl) (q := 1) rfl ?_
  refine x_lstore_n (i := 3) (L' := [.ref r0, .int x1, .int x2, .long 0, .null, .null]) (by decide) rfl hC (zdk dk_X8_readBy 1 rfl) (q := 2) rfl ?_
  refine x_iconst (i := 0) c_iconst_0 hC (zdk dk_X8_readBy 2 rfl) (q := 3) rfl ?_
  refine x_istore (i := 5) (L' := [.ref r0, .int x1, .int x2, .long 0, .null, .int 0]) (by decide) rfl hC (zdk dk_X8_readBy 3 rfl) (q := 5) rfl ?_
  refine x_weak (L' := [.ref r0, .int x1, .int x2, .long 0, .null, .int 0]) ⟨Or.inr rfl, Or.inr rfl, Or.inr rfl, Or.inr rfl, Or.inl rfl, Or.inr rfl, trivial⟩ ?_
  exact x_X8_readBy_5 hC hE hk0 h_r0 _ _ _ _
set_option maxRecDepth 100000 in
set_option maxHeartbeats 4000000 in
theorem t_X8_readBy {n : Nat} {r0 : Nat} {x1 : Int32} {x2 : Int32} {M : Mem} (h_r0 : zO n r0 8) (x : (Int64 × Mem)) (hx : f_X8_readBy r0 x1 x2 M = some x) (l : Launch) (dC : Nat → ClassId) (dI : Nat → Nat → Nat) (b : zSg) : MT l dC dI b yX8_readBy cX8_readBy 6 (some .long) 0 0 0 n n [.ref r0, .int x1, .int x2] M (emL x).1 (emL x).2 :=
  MT.ofX (by decide +kernel) rfl (Nat.le_of_ble_eq_true rfl) (fun κ hC hF _ => x_X8_readBy hC (zEnd_of hF (Nat.le_refl _) (Nat.le_refl _)) (zRk_of hF (Nat.le_refl _) (Nat.le_refl _)) _ _ _ _ h_r0) x hx
set_option maxRecDepth 100000 in
def dt_X3_get : List (Nat × Instr × Nat) := [(0, .aload_n 2, 1), (1, .getfield 19, 3), (4, .invokestatic 25, 3), (7, .istore_n 3, 1), (8, .aload_n 1, 1), (9, .getfield 31, 3), (12, .istore 4, 2), (14, .aload_n 0, 1), (15, .iconst 0, 1), (16, .putfield 37, 3), (19, .iconst 0, 1), (20, .istore 5, 2), (22, .iload 5, 2), (24, .bipush 40, 2), (26, .if_icmp .ge 81, 3), (29, .iload 4, 2), (31, .iconst (-1), 1), (32, .if_icmp .eq 75, 3), (35, .aload_n 0, 1), (36, .iload 4, 2), (38, .putfield 40, 3), (41, .aload_n 2, 1), (42, .aload_n 0, 1), (43, .getfield 40, 3), (46, .aload_n 1, 1), (47, .getfield 43, 3), (50, .getfield 47, 3), (53, .invokevirtual 52, 3), (56, .lstore 6, 2), (58, .aload_n 0, 1), (59, .aload_n 1, 1), (60, .aload_n 2, 1), (61, .lload 6, 2), (63, .invokevirtual 56, 3), (66, .aload_n 0, 1), (67, .dup, 1), (68, .getfield 37, 3), (71, .iconst 1, 1), (72, .iadd, 1), (73, .putfield 37, 3), (76, .aload_n 0, 1), (77, .getfield 60, 3), (80, .ifCond .ne 7, 3), (83, .iconst (-1), 1), (84, .goto 15, 3), (87, .aload_n 0, 1), (88, .aload_n 1, 1), (89, .lload 6, 2), (91, .invokestatic 25, 3), (94, .iload_n 3, 1), (95, .isub, 1), (96, .invokevirtual 63, 3), (99, .istore 4, 2), (101, .iinc 5 1, 3), (104, .goto (-82), 3), (107, .aload_n 0, 1), (108, .aload_n 0, 1), (109, .getfield 60, 3), (112, .ifCond .ne 19, 3), (115, .aload_n 0, 1), (116, .getfield 67, 3), (119, .aload_n 2, 1), (120, .getfield 19, 3), (123, .lcmp, 1), (124, .ifCond .ne 7, 3), (127, .iconst 1, 1), (128, .goto 4, 3), (131, .iconst 0, 1), (132, .putfield 70, 3), (135, .return_, 1)]
set_option maxRecDepth 100000 in
theorem dk_X3_get : dt_X3_get.all (fun q => decide (decode cX3_get q.1 = .ok q.2)) = true := by decide +kernel
set_option maxRecDepth 100000 in
def f_X3_get_99 (k22 : Int32 → Int32 → Int32 → Mem → Option Mem) (r0 : Nat) (r1 : Nat) (r2 : Nat) (x3 : Int32) (x5 : Int32) (s0 : Int32) (M : Mem) : Option Mem := k22 x3 s0 (x5 + 1) M
set_option maxRecDepth 100000 in
set_option maxHeartbeats 4000000 in
theorem x_X3_get_99 {κ : KX} {n : Nat} (hC : CX κ cX3_get RX3 8 none 6) (hE : zEnd κ n (0, 0)) (hk0 : zRk κ (0, 0)) {r0 : Nat} {r1 : Nat} {r2 : Nat} (h_r0 : zO n r0 3) (h_r1 : zO n r1 0) (h_r2 : zO n r2 8) (k22 : Int32 → Int32 → Int32 → Mem → Option Mem) (hk22 : ∀ (x3 : Int32) (x4 : Int32) (x5 : Int32) (M : Mem), X κ 8 emV n (0, 0) 22 [.ref r0, .ref r1, .ref r2, .int x3, .int x4, .int x5, .null, .null] [] M (k22 x3 x4 x5 M)) (x3 : Int32) (x5 : Int32) (s0 : Int32) (M : Mem) : X κ 8 emV n (0, 0) 99 [.ref r0, .ref r1, .ref r2, .int x3, .null, .int x5, .null, .null] [.int s0] M (f_X3_get_99 k22 r0 r1 r2 x3 x5 s0 M) := by
  unfold f_X3_get_99
  refine x_istore (i := 4) (L' := [.ref r0, .ref r1, .ref r2, .int x3, .int s0, .int x5, .null, .null]) (by decide) rfl hC (zdk dk_X3_get 52 rfl) (q := 101) rfl ?_
  refine x_iinc (i := 5) c_iconst_1 rfl (by decide) (L' := [.ref r0, .ref r1, .ref r2, .int x3, .int s0, .int (x5 + 1), .null, .null]) rfl hC (zdk dk_X3_get 53 rfl) (q := 104) rfl ?_
  refine x_goto (tgt := 22) hC (zdk dk_X3_get 54 rfl) rfl ?_
  refine x_weak (L' := [.ref r0, .ref r1, .ref r2, .int x3, .int s0, .int (x5 + 1), .null, .null]) ⟨Or.inr rfl, Or.inr rfl, Or.inr rfl, Or.inr rfl, Or.inr rfl, Or.inr rfl, Or.inl rfl, Or.inl rfl, trivial⟩ ?_
  exact hk22 _ _ _ _
set_option maxRecDepth 100000 in
def f_X3_get_132  (r0 : Nat) (r1 : Nat) (r2 : Nat) (s0 : Nat) (s1 : Int32) (M : Mem) : Option Mem := zbz s1 <| Option.bind (some (zsI M s0 7 s1)) fun M1 => some M1
set_option maxRecDepth 100000 in
set_option maxHeartbeats 4000000 in
theorem x_X3_get_132 {κ : KX} {n : Nat} (hC : CX κ cX3_get RX3 8 none 6) (hE : zEnd κ n (0, 0)) (hk0 : zRk κ (0, 0)) {r0 : Nat} {r1 : Nat} {r2 : Nat} (h_r0 : zO n r0 3) (h_r1 : zO n r1 0) (h_r2 : zO n r2 8) (s0 : Nat) (s1 : Int32) (M : Mem) (h_s0 : zO n s0 3) : X κ 8 emV n (0, 0) 132 [.null, .null, .null, .null, .null, .null, .null, .null] [.int s1, .ref s0] M (f_X3_get_132 r0 r1 r2 s0 s1 M) := by
  unfold f_X3_get_132
  refine x_bz (fun hb2 => ?_)
  refine x_putI fl_RX3_70 hb2 (by decide) (Or.inl rfl) h_s0 hC (zdk dk_X3_get 68 rfl) (q := 135) rfl ?_
  refine x_nmM (fun M1 => ?_)
  exact x_vret hE hC (zdk dk_X3_get 69 rfl)
set_option maxRecDepth 100000 in
def f_X3_get_131  (r0 : Nat) (r1 : Nat) (r2 : Nat) (s0 : Nat) (M : Mem) : Option Mem := f_X3_get_132 r0 r1 r2 s0 0 M
set_option maxRecDepth 100000 in
set_option maxHeartbeats 4000000 in
theorem x_X3_get_131 {κ : KX} {n : Nat} (hC : CX κ cX3_get RX3 8 none 6) (hE : zEnd κ n (0, 0)) (hk0 : zRk κ (0, 0)) {r0 : Nat} {r1 : Nat} {r2 : Nat} (h_r0 : zO n r0 3) (h_r1 : zO n r1 0) (h_r2 : zO n r2 8) (s0 : Nat) (M : Mem) (h_s0 : zO n s0 3) : X κ 8 emV n (0, 0) 131 [.null, .null, .null, .null, .null, .null, .null, .null] [.ref s0] M (f_X3_get_131 r0 r1 r2 s0 M) := by
  unfold f_X3_get_131
  refine x_iconst (i := 0) c_iconst_0 hC (zdk dk_X3_get 67 rfl) (q := 132) rfl ?_
  refine x_weak (L' := [.null, .null, .null, .null, .null, .null, .null, .null]) ⟨Or.inl rfl, Or.inl rfl, Or.inl rfl, Or.inl rfl, Or.inl rfl, Or.inl rfl, Or.inl rfl, Or.inl rfl, trivial⟩ ?_
  exact x_X3_get_132 hC hE hk0 h_r0 h_r1 h_r2 _ _ _ h_s0
set_option maxRecDepth 100000 in
def f_X3_get_107  (r0 : Nat) (r1 : Nat) (r2 : Nat)  (M : Mem) : Option Mem := (if zI M r0 4 = 0 then (if lg_cmp (zL M r0 6) (zL M r2 4) = 0 then f_X3_get_132 r0 r1 r2 r0 1 M else f_X3_get_131 r0 r1 r2 r0 M) else f_X3_get_131 r0 r1 r2 r0 M)
set_option maxRecDepth 100000 in
set_option maxHeartbeats 4000000 in
theorem x_X3_get_107 {κ : KX} {n : Nat} (hC : CX κ cX3_get RX3 8 none 6) (hE : zEnd κ n (0, 0)) (hk0 : zRk κ (0, 0)) {r0 : Nat} {r1 : Nat} {r2 : Nat} (h_r0 : zO n r0 3) (h_r1 : zO n r1 0) (h_r2 : zO n r2 8) (M : Mem) : X κ 8 emV n (0, 0) 107 [.ref r0, .null, .ref r2, .null, .null, .null, .null, .null] [] M (f_X3_get_107 r0 r1 r2 M) := by
  unfold f_X3_get_107
  refine x_aload_n (i := 0) rfl hC (zdk dk_X3_get 55 rfl) (q := 108) rfl ?_
  refine x_aload_n (i := 0) rfl hC (zdk dk_X3_get 56 rfl) (q := 109) rfl ?_
  refine x_getI fl_RX3_60 (by decide) h_r0 hC (zdk dk_X3_get 57 rfl) (q := 112) rfl ?_
  refine x_if_ne (tgt := 131) hC (zdk dk_X3_get 58 rfl) (q := 115) rfl rfl (fun _ => ?_) (fun _ => ?_)
  · refine x_weak (L' := [.null, .null, .null, .null, .null, .null, .null, .null]) ⟨Or.inl rfl, Or.inl rfl, Or.inl rfl, Or.inl rfl, Or.inl rfl, Or.inl rfl, Or.inl rfl, Or.inl rfl, trivial⟩ ?_
    exact x_X3_get_131 hC hE hk0 h_r0 h_r1 h_r2 _ _ h_r0
  · refine x_aload_n (i := 0) rfl hC (zdk dk_X3_get 59 rfl) (q := 116) rfl ?_
    refine x_getL fl_RX3_67 h_r0 hC (zdk dk_X3_get 60 rfl) (q := 119) rfl ?_
    refine x_aload_n (i := 2) rfl hC (zdk dk_X3_get 61 rfl) (q := 120) rfl ?_
    refine x_getL fl_RX3_19 h_r2 hC (zdk dk_X3_get 62 rfl) (q := 123) rfl ?_
    refine x_lcmp hC (zdk dk_X3_get 63 rfl) (q := 124) rfl ?_
    refine x_if_ne (tgt := 131) hC (zdk dk_X3_get 64 rfl) (q := 127) rfl rfl (fun _ => ?_) (fun _ => ?_)
    · refine x_weak (L' := [.null, .null, .null, .null, .null, .null, .null, .null]) ⟨Or.inl rfl, Or.inl rfl, Or.inl rfl, Or.inl rfl, Or.inl rfl, Or.inl rfl, Or.inl rfl, Or.inl rfl, trivial⟩ ?_
      exact x_X3_get_131 hC hE hk0 h_r0 h_r1 h_r2 _ _ h_r0
    · refine x_iconst (i := 1) c_iconst_1 hC (zdk dk_X3_get 65 rfl) (q := 128) rfl ?_
      refine x_goto (tgt := 132) hC (zdk dk_X3_get 66 rfl) rfl ?_
      refine x_weak (L' := [.null, .null, .null, .null, .null, .null, .null, .null]) ⟨Or.inl rfl, Or.inl rfl, Or.inl rfl, Or.inl rfl, Or.inl rfl, Or.inl rfl, Or.inl rfl, Or.inl rfl, trivial⟩ ?_
      exact x_X3_get_132 hC hE hk0 h_r0 h_r1 h_r2 _ _ _ h_r0
set_option maxRecDepth 100000 in
def f_X3_get_22  (r0 : Nat) (r1 : Nat) (r2 : Nat) : Nat → Int32 → Int32 → Int32 → Mem → Option Mem
  | 0, _, _, _, _ => none
  | f + 1, x3, x4, x5, M => (if 40 ≤ x5 then f_X3_get_107 r0 r1 r2 M else (if x4 = (-1) then f_X3_get_107 r0 r1 r2 M else Option.bind (some (zsI M r0 3 x4)) fun M3 => Option.bind (zrf M3 r1 0) fun q4 => Option.bind (f_X8_readBy r2 (zI M3 r0 3) (zI M3 q4 10) M3) fun z5 => Option.bind (f_X3_mend r0 r1 r2 z5.1 z5.2) fun M6 => Option.bind (some (zsI M6 r0 2 ((zI M6 r0 2) + 1))) fun M7 => (if zI M7 r0 4 = 0 then f_X3_get_99 (f_X3_get_22 r0 r1 r2 f) r0 r1 r2 x3 x5 ((-1)) M7 else Option.bind (f_J13_bitCount_95d88 z5.1 M7) fun z8 => Option.bind (f_X3_nextThreshold r0 r1 (z8.1 - x3) z8.2) fun z9 => f_X3_get_99 (f_X3_get_22 r0 r1 r2 f) r0 r1 r2 x3 x5 z9.1 z9.2)))
set_option maxRecDepth 100000 in
set_option maxHeartbeats 4000000 in
theorem x_X3_get_22 {κ : KX} {n : Nat} (hC : CX κ cX3_get RX3 8 none 6) (hE : zEnd κ n (0, 0)) (hk0 : zRk κ (0, 0)) {r0 : Nat} {r1 : Nat} {r2 : Nat} (h_r0 : zO n r0 3) (h_r1 : zO n r1 0) (h_r2 : zO n r2 8) : ∀ (f : Nat) (x3 : Int32) (x4 : Int32) (x5 : Int32) (M : Mem), X κ 8 emV n (0, 0) 22 [.ref r0, .ref r1, .ref r2, .int x3, .int x4, .int x5, .null, .null] [] M (f_X3_get_22 r0 r1 r2 f x3 x4 x5 M) := by
  intro f
  induction f with
  | zero => intros; exact x_none
  | succ f ih =>
    intro x3 x4 x5 M 
    rw [f_X3_get_22]
    refine x_iload (i := 5) rfl hC (zdk dk_X3_get 12 rfl) (q := 24) rfl ?_
    refine x_bipush (i := 40) c_bipush_40 hC (zdk dk_X3_get 13 rfl) (q := 26) rfl ?_
    refine x_icmp_ge (tgt := 107) hC (zdk dk_X3_get 14 rfl) (q := 29) rfl rfl (fun _ => ?_) (fun _ => ?_)
    · refine x_weak (L' := [.ref r0, .null, .ref r2, .null, .null, .null, .null, .null]) ⟨Or.inr rfl, Or.inl rfl, Or.inr rfl, Or.inl rfl, Or.inl rfl, Or.inl rfl, Or.inl rfl, Or.inl rfl, trivial⟩ ?_
      exact x_X3_get_107 hC hE hk0 h_r0 h_r1 h_r2 _
    · refine x_iload (i := 4) rfl hC (zdk dk_X3_get 15 rfl) (q := 31) rfl ?_
      refine x_iconst (i := (-1)) c_iconst_m1 hC (zdk dk_X3_get 16 rfl) (q := 32) rfl ?_
      refine x_icmp_eq (tgt := 107) hC (zdk dk_X3_get 17 rfl) (q := 35) rfl rfl (fun _ => ?_) (fun _ => ?_)
      · refine x_weak (L' := [.ref r0, .null, .ref r2, .null, .null, .null, .null, .null]) ⟨Or.inr rfl, Or.inl rfl, Or.inr rfl, Or.inl rfl, Or.inl rfl, Or.inl rfl, Or.inl rfl, Or.inl rfl, trivial⟩ ?_
        exact x_X3_get_107 hC hE hk0 h_r0 h_r1 h_r2 _
      · refine x_aload_n (i := 0) rfl hC (zdk dk_X3_get 18 rfl) (q := 36) rfl ?_
        refine x_iload (i := 4) rfl hC (zdk dk_X3_get 19 rfl) (q := 38) rfl ?_
        refine x_putI fl_RX3_40 ⟨rfl, rfl⟩ (by decide) (Or.inl rfl) h_r0 hC (zdk dk_X3_get 20 rfl) (q := 41) rfl ?_
        refine x_nmM (fun M3 => ?_)
        refine x_aload_n (i := 2) rfl hC (zdk dk_X3_get 21 rfl) (q := 42) rfl ?_
        refine x_aload_n (i := 0) rfl hC (zdk dk_X3_get 22 rfl) (q := 43) rfl ?_
        refine x_getI fl_RX3_40 (by decide) h_r0 hC (zdk dk_X3_get 23 rfl) (q := 46) rfl ?_
        refine x_aload_n (i := 1) rfl hC (zdk dk_X3_get 24 rfl) (q := 47) rfl ?_
        refine x_getR (k := 1) fl_RX3_43 rfl h_r1 hC (zdk dk_X3_get 25 rfl) (q := 50) rfl (fun q4 hq4 => ?_)
        refine x_getI fl_RX3_47 (by decide) hq4 hC (zdk dk_X3_get 26 rfl) (q := 53) rfl ?_
        refine x_callVl (as := [.int (zI M3 r0 3), .int (zI M3 q4 10)]) cb_RX3_52 rfl (by decide) hk0 h_r2 (fun x hx => t_X8_readBy h_r2 x hx) hC (zdk dk_X3_get 27 rfl) (q := 56) rfl rfl (Nat.le_of_ble_eq_true rfl) (fun z5 => ?_)
        refine x_lstore (i := 6) (L' := [.ref r0, .ref r1, .ref r2, .int x3, .int x4, .int x5, .long z5.1, .null]) (by decide) rfl hC (zdk dk_X3_get 28 rfl) (q := 58) rfl ?_
        refine x_aload_n (i := 0) rfl hC (zdk dk_X3_get 29 rfl) (q := 59) rfl ?_
        refine x_aload_n (i := 1) rfl hC (zdk dk_X3_get 30 rfl) (q := 60) rfl ?_
        refine x_aload_n (i := 2) rfl hC (zdk dk_X3_get 31 rfl) (q := 61) rfl ?_
        refine x_lload (i := 6) rfl hC (zdk dk_X3_get 32 rfl) (q := 63) rfl ?_
        refine x_callVv (as := [.ref r1, .ref r2, .long z5.1]) cb_RX3_56 rfl (by decide) hk0 h_r0 (fun x hx => t_X3_mend h_r0 h_r1 h_r2 x hx) hC (zdk dk_X3_get 33 rfl) (q := 66) rfl rfl (Nat.le_of_ble_eq_true rfl) (fun M6 => ?_)
        refine x_aload_n (i := 0) rfl hC (zdk dk_X3_get 34 rfl) (q := 67) rfl ?_
        refine x_dup rfl hC (zdk dk_X3_get 35 rfl) (q := 68) rfl ?_
        refine x_getI fl_RX3_37 (by decide) h_r0 hC (zdk dk_X3_get 36 rfl) (q := 71) rfl ?_
        refine x_iconst (i := 1) c_iconst_1 hC (zdk dk_X3_get 37 rfl) (q := 72) rfl ?_
        refine x_iadd hC (zdk dk_X3_get 38 rfl) (q := 73) rfl ?_
        refine x_putI fl_RX3_37 ⟨rfl, rfl⟩ (by decide) (Or.inl rfl) h_r0 hC (zdk dk_X3_get 39 rfl) (q := 76) rfl ?_
        refine x_nmM (fun M7 => ?_)
        refine x_aload_n (i := 0) rfl hC (zdk dk_X3_get 40 rfl) (q := 77) rfl ?_
        refine x_getI fl_RX3_60 (by decide) h_r0 hC (zdk dk_X3_get 41 rfl) (q := 80) rfl ?_
        refine x_if_ne (tgt := 87) hC (zdk dk_X3_get 42 rfl) (q := 83) rfl rfl (fun _ => ?_) (fun _ => ?_)
        · refine x_aload_n (i := 0) rfl hC (zdk dk_X3_get 45 rfl) (q := 88) rfl ?_
          refine x_aload_n (i := 1) rfl hC (zdk dk_X3_get 46 rfl) (q := 89) rfl ?_
          refine x_lload (i := 6) rfl hC (zdk dk_X3_get 47 rfl) (q := 91) rfl ?_
          refine x_callSi (as := [.long z5.1]) cb_RX3_25 rfl (by decide) hk0 (fun x hx => t_J13_bitCount_95d88  x hx) hC (zdk dk_X3_get 48 rfl) (q := 94) rfl rfl (Nat.le_of_ble_eq_true rfl) (fun z8 => ?_)
          refine x_iload_n (i := 3) rfl hC (zdk dk_X3_get 49 rfl) (q := 95) rfl ?_
          refine x_isub hC (zdk dk_X3_get 50 rfl) (q := 96) rfl ?_
          refine x_callVi (as := [.ref r1, .int (z8.1 - x3)]) cb_RX3_63 rfl (by decide) hk0 h_r0 (fun x hx => t_X3_nextThreshold h_r0 h_r1 x hx) hC (zdk dk_X3_get 51 rfl) (q := 99) rfl rfl (Nat.le_of_ble_eq_true rfl) (fun z9 => ?_)
          refine x_weak (L' := [.ref r0, .ref r1, .ref r2, .int x3, .null, .int x5, .null, .null]) ⟨Or.inr rfl, Or.inr rfl, Or.inr rfl, Or.inr rfl, Or.inl rfl, Or.inr rfl, Or.inl rfl, Or.inl rfl, trivial⟩ ?_
          exact x_X3_get_99 hC hE hk0 h_r0 h_r1 h_r2 (f_X3_get_22 r0 r1 r2 f) ih _ _ _ _
        · refine x_iconst (i := (-1)) c_iconst_m1 hC (zdk dk_X3_get 43 rfl) (q := 84) rfl ?_
          refine x_goto (tgt := 99) hC (zdk dk_X3_get 44 rfl) rfl ?_
          refine x_weak (L' := [.ref r0, .ref r1, .ref r2, .int x3, .null, .int x5, .null, .null]) ⟨Or.inr rfl, Or.inr rfl, Or.inr rfl, Or.inr rfl, Or.inl rfl, Or.inr rfl, Or.inl rfl, Or.inl rfl, trivial⟩ ?_
          exact x_X3_get_99 hC hE hk0 h_r0 h_r1 h_r2 (f_X3_get_22 r0 r1 r2 f) ih _ _ _ _
set_option maxRecDepth 100000 in
def f_X3_get (r0 : Nat) (r1 : Nat) (r2 : Nat) (M : Mem) : Option Mem := Option.bind (f_J13_bitCount_95d88 (zL M r2 4) M) fun z10 => Option.bind (some (zsI z10.2 r0 2 0)) fun M11 => f_X3_get_22 r0 r1 r2 1000000 z10.1 (zI z10.2 r1 12) 0 M11
set_option maxRecDepth 100000 in
set_option maxHeartbeats 4000000 in
theorem x_X3_get {κ : KX} {n : Nat} (hC : CX κ cX3_get RX3 8 none 6) (hE : zEnd κ n (0, 0)) (hk0 : zRk κ (0, 0)) (r0 : Nat) (r1 : Nat) (r2 : Nat) (M : Mem) (h_r0 : zO n r0 3) (h_r1 : zO n r1 0) (h_r2 : zO n r2 8) : X κ 8 emV n (0, 0) 0 [.ref r0, .ref r1, .ref r2, .null, .null, .null, .null, .null] [] M (f_X3_get r0 r1 r2 M) := by
  unfold f_X3_get
  refine x_aload_n (i := 2) rfl hC (zdk dk_X3_get 0 rfl) (q := 1) rfl ?_
  refine x_getL fl_RX3_19 h_r2 hC (zdk dk_X3_get 1 rfl) (q := 4) rfl ?_
  refine x_callSi (as := [.long (zL M r2 4)]) cb_RX3_25 rfl (by decide) hk0 (fun x hx => t_J13_bitCount_95d88  x hx) hC (zdk dk_X3_get 2 rfl) (q := 7) rfl rfl (Nat.le_of_ble_eq_true rfl) (fun z10 => ?_)
  refine x_istore_n (i := 3) (L' := [.ref r0, .ref r1, .ref r2, .int z10.1, .null, .null, .null, .null]) (by decide) rfl hC (zdk dk_X3_get 3 rfl) (q := 8) rfl ?_
  refine x_aload_n (i := 1) rfl hC (zdk dk_X3_get 4 rfl) (q := 9) rfl ?_
  refine x_getI fl_RX3_31 (by decide) h_r1 hC (zdk dk_X3_get 5 rfl) (q := 12) rfl ?_
  refine x_istore (i := 4) (L' := [.ref r0, .ref r1, .ref r2, .int z10.1, .int (zI z10.2 r1 12), .null, .null, .null]) (by decide) rfl hC (zdk dk_X3_get 6 rfl) (q := 14) rfl ?_
  refine x_aload_n (i := 0) rfl hC (zdk dk_X3_get 7 rfl) (q := 15) rfl ?_
  refine x_iconst (i := 0) c_iconst_0 hC (zdk dk_X3_get 8 rfl) (q := 16) rfl ?_
  refine x_putI fl_RX3_37 ⟨rfl, rfl⟩ (by decide) (Or.inl rfl) h_r0 hC (zdk dk_X3_get 9 rfl) (q := 19) rfl ?_
  refine x_nmM (fun M11 => ?_)
  refine x_iconst (i := 0) c_iconst_0 hC (zdk dk_X3_get 10 rfl) (q := 20) rfl ?_
  refine x_istore (i := 5) (L' := [.ref r0, .ref r1, .ref r2, .int z10.1, .int (zI z10.2 r1 12), .int 0, .null, .null]) (by decide) rfl hC (zdk dk_X3_get 11 rfl) (q := 22) rfl ?_
  refine x_weak (L' := [.ref r0, .ref r1, .ref r2, .int z10.1, .int (zI z10.2 r1 12), .int 0, .null, .null]) ⟨Or.inr rfl, Or.inr rfl, Or.inr rfl, Or.inr rfl, Or.inr rfl, Or.inr rfl, Or.inl rfl, Or.inl rfl, trivial⟩ ?_
  exact x_X3_get_22 hC hE hk0 h_r0 h_r1 h_r2 _ _ _ _ _
set_option maxRecDepth 100000 in
set_option maxHeartbeats 4000000 in
theorem t_X3_get {n : Nat} {r0 : Nat} {r1 : Nat} {r2 : Nat} {M : Mem} (h_r0 : zO n r0 3) (h_r1 : zO n r1 0) (h_r2 : zO n r2 8) (x : Mem) (hx : f_X3_get r0 r1 r2 M = some x) (l : Launch) (dC : Nat → ClassId) (dI : Nat → Nat → Nat) (b : zSg) : MT l dC dI b yX3_get cX3_get 8 none 6 0 0 n n [.ref r0, .ref r1, .ref r2] M (emV x).1 (emV x).2 :=
  MT.ofX (by decide +kernel) rfl (Nat.le_of_ble_eq_true rfl) (fun κ hC hF _ => x_X3_get hC (zEnd_of hF (Nat.le_refl _) (Nat.le_refl _)) (zRk_of hF (Nat.le_refl _) (Nat.le_refl _)) _ _ _ _ h_r0 h_r1 h_r2) x hx
set_option maxRecDepth 100000 in
def dt_X4_put : List (Nat × Instr × Nat) := [(0, .aload_n 0, 1), (1, .getfield 15, 3), (4, .aload_n 0, 1), (5, .getfield 9, 3), (8, .arraylength, 1), (9, .if_icmp .ge 23, 3), (12, .aload_n 0, 1), (13, .getfield 9, 3), (16, .aload_n 0, 1), (17, .getfield 15, 3), (20, .iload_n 1, 1), (21, .iastore, 1), (22, .aload_n 0, 1), (23, .dup, 1), (24, .getfield 15, 3), (27, .iconst 1, 1), (28, .iadd, 1), (29, .putfield 15, 3), (32, .return_, 1)]
set_option maxRecDepth 100000 in
theorem dk_X4_put : dt_X4_put.all (fun q => decide (decode cX4_put q.1 = .ok q.2)) = true := by decide +kernel
set_option maxRecDepth 100000 in
def f_X4_put_32  (r0 : Nat) (x1 : Int32)  (M : Mem) : Option Mem := some M
set_option maxRecDepth 100000 in
set_option maxHeartbeats 4000000 in
theorem x_X4_put_32 {κ : KX} {n : Nat} (hC : CX κ cX4_put RX4 2 none 0) (hE : zEnd κ n (0, 0)) (hk0 : zRk κ (0, 0)) {r0 : Nat} {x1 : Int32} (h_r0 : zO n r0 4) (M : Mem) : X κ 2 emV n (0, 0) 32 [.null, .null] [] M (f_X4_put_32 r0 x1 M) := by
  unfold f_X4_put_32
  exact x_vret hE hC (zdk dk_X4_put 18 rfl)
set_option maxRecDepth 100000 in
def f_X4_put (r0 : Nat) (x1 : Int32) (M : Mem) : Option Mem := Option.bind (zrf M r0 0) fun q1 => (if zlen q1 ≤ zI M r0 1 then f_X4_put_32 r0 x1 M else Option.bind (zrf M r0 0) fun q2 => Option.bind (zld q2 (zI M r0 1)) fun k3 => Option.bind (some (zsI M q2 k3 x1)) fun M4 => Option.bind (some (zsI M4 r0 1 ((zI M4 r0 1) + 1))) fun M5 => f_X4_put_32 r0 x1 M5)
set_option maxRecDepth 100000 in
set_option maxHeartbeats 4000000 in
theorem x_X4_put {κ : KX} {n : Nat} (hC : CX κ cX4_put RX4 2 none 0) (hE : zEnd κ n (0, 0)) (hk0 : zRk κ (0, 0)) (r0 : Nat) (x1 : Int32) (M : Mem) (h_r0 : zO n r0 4) : X κ 2 emV n (0, 0) 0 [.ref r0, .int x1] [] M (f_X4_put r0 x1 M) := by
  unfold f_X4_put
  refine x_aload_n (i := 0) rfl hC (zdk dk_X4_put 0 rfl) (q := 1) rfl ?_
  refine x_getI fl_RX4_15 (by decide) h_r0 hC (zdk dk_X4_put 1 rfl) (q := 4) rfl ?_
  refine x_aload_n (i := 0) rfl hC (zdk dk_X4_put 2 rfl) (q := 5) rfl ?_
  refine x_getR (k := 20) fl_RX4_9 rfl h_r0 hC (zdk dk_X4_put 3 rfl) (q := 8) rfl (fun q1 hq1 => ?_)
  refine x_alen hq1 (by decide) hC (zdk dk_X4_put 4 rfl) (q := 9) rfl ?_
  refine x_icmp_ge (tgt := 32) hC (zdk dk_X4_put 5 rfl) (q := 12) rfl rfl (fun _ => ?_) (fun _ => ?_)
  · refine x_weak (L' := [.null, .null]) ⟨Or.inl rfl, Or.inl rfl, trivial⟩ ?_
    exact x_X4_put_32 hC hE hk0 h_r0 _
  · refine x_aload_n (i := 0) rfl hC (zdk dk_X4_put 6 rfl) (q := 13) rfl ?_
    refine x_getR (k := 20) fl_RX4_9 rfl h_r0 hC (zdk dk_X4_put 7 rfl) (q := 16) rfl (fun q2 hq2 => ?_)
    refine x_aload_n (i := 0) rfl hC (zdk dk_X4_put 8 rfl) (q := 17) rfl ?_
    refine x_getI fl_RX4_15 (by decide) h_r0 hC (zdk dk_X4_put 9 rfl) (q := 20) rfl ?_
    refine x_iload_n (i := 1) rfl hC (zdk dk_X4_put 10 rfl) (q := 21) rfl ?_
    refine x_iast hq2 hC (zdk dk_X4_put 11 rfl) (q := 22) rfl (fun k3 _ => ?_)
    refine x_nmM (fun M4 => ?_)
    refine x_aload_n (i := 0) rfl hC (zdk dk_X4_put 12 rfl) (q := 23) rfl ?_
    refine x_dup rfl hC (zdk dk_X4_put 13 rfl) (q := 24) rfl ?_
    refine x_getI fl_RX4_15 (by decide) h_r0 hC (zdk dk_X4_put 14 rfl) (q := 27) rfl ?_
    refine x_iconst (i := 1) c_iconst_1 hC (zdk dk_X4_put 15 rfl) (q := 28) rfl ?_
    refine x_iadd hC (zdk dk_X4_put 16 rfl) (q := 29) rfl ?_
    refine x_putI fl_RX4_15 ⟨rfl, rfl⟩ (by decide) (Or.inl rfl) h_r0 hC (zdk dk_X4_put 17 rfl) (q := 32) rfl ?_
    refine x_nmM (fun M5 => ?_)
    refine x_weak (L' := [.null, .null]) ⟨Or.inl rfl, Or.inl rfl, trivial⟩ ?_
    exact x_X4_put_32 hC hE hk0 h_r0 _
set_option maxRecDepth 100000 in
set_option maxHeartbeats 4000000 in
theorem t_X4_put {n : Nat} {r0 : Nat} {x1 : Int32} {M : Mem} (h_r0 : zO n r0 4) (x : Mem) (hx : f_X4_put r0 x1 M = some x) (l : Launch) (dC : Nat → ClassId) (dI : Nat → Nat → Nat) (b : zSg) : MT l dC dI b yX4_put cX4_put 2 none 0 0 0 n n [.ref r0, .int x1] M (emV x).1 (emV x).2 :=
  MT.ofX (by decide +kernel) rfl (Nat.le_of_ble_eq_true rfl) (fun κ hC hF _ => x_X4_put hC (zEnd_of hF (Nat.le_refl _) (Nat.le_refl _)) (zRk_of hF (Nat.le_refl _) (Nat.le_refl _)) _ _ _ h_r0) x hx
set_option maxRecDepth 100000 in
def dt_X4_putRow : List (Nat × Instr × Nat) := [(0, .aload_n 0, 1), (1, .aload_n 1, 1), (2, .getfield 51, 3), (5, .ifCond .eq 7, 3), (8, .iconst 1, 1), (9, .goto 4, 3), (12, .iconst 0, 1), (13, .invokevirtual 24, 3), (16, .aload_n 1, 1), (17, .getfield 51, 3), (20, .ifCond .ne 4, 3), (23, .return_, 1), (24, .aload_n 0, 1), (25, .aload_n 1, 1), (26, .getfield 57, 3), (29, .invokevirtual 24, 3), (32, .bipush 56, 2), (34, .istore_n 3, 1), (35, .iload_n 3, 1), (36, .ifCond .lt 24, 3), (39, .aload_n 0, 1), (40, .aload_n 1, 1), (41, .getfield 60, 3), (44, .iload_n 3, 1), (45, .lushr, 1), (46, .ldc2_w 64, 3), (49, .land, 1), (50, .l2i, 1), (51, .invokevirtual 24, 3), (54, .iinc 3 (-8), 3), (57, .goto (-22), 3), (60, .iconst 0, 1), (61, .istore_n 3, 1), (62, .iload_n 3, 1), (63, .iload_n 2, 1), (64, .if_icmp .ge 19, 3), (67, .aload_n 0, 1), (68, .aload_n 1, 1), (69, .getfield 66, 3), (72, .iload_n 3, 1), (73, .iaload, 1), (74, .invokevirtual 24, 3), (77, .iinc 3 1, 3), (80, .goto (-18), 3), (83, .return_, 1)]
set_option maxRecDepth 100000 in
theorem dk_X4_putRow : dt_X4_putRow.all (fun q => decide (decode cX4_putRow q.1 = .ok q.2)) = true := by decide +kernel
set_option maxRecDepth 100000 in
def f_X4_putRow_62  (r0 : Nat) (r1 : Nat) (x2 : Int32) : Nat → Int32 → Mem → Option Mem
  | 0, _, _ => none
  | f + 1, x3, M => (if x2 ≤ x3 then some M else Option.bind (zrf M r1 0) fun q1 => Option.bind (zld q1 x3) fun k2 => Option.bind (f_X4_put r0 (zI M q1 k2) M) fun M3 => (f_X4_putRow_62 r0 r1 x2 f) (x3 + 1) M3)
set_option maxRecDepth 100000 in
set_option maxHeartbeats 4000000 in
theorem x_X4_putRow_62 {κ : KX} {n : Nat} (hC : CX κ cX4_putRow RX4 4 none 1) (hE : zEnd κ n (0, 0)) (hk0 : zRk κ (0, 0)) {r0 : Nat} {r1 : Nat} {x2 : Int32} (h_r0 : zO n r0 4) (h_r1 : zO n r1 8) : ∀ (f : Nat) (x3 : Int32) (M : Mem), X κ 4 emV n (0, 0) 62 [.ref r0, .ref r1, .int x2, .int x3] [] M (f_X4_putRow_62 r0 r1 x2 f x3 M) := by
  intro f
  induction f with
  | zero => intros; exact x_none
  | succ f ih =>
    intro x3 M 
    rw [f_X4_putRow_62]
    refine x_iload_n (i := 3) rfl hC (zdk dk_X4_putRow 33 rfl) (q := 63) rfl ?_
    refine x_iload_n (i := 2) rfl hC (zdk dk_X4_putRow 34 rfl) (q := 64) rfl ?_
    refine x_icmp_ge (tgt := 83) hC (zdk dk_X4_putRow 35 rfl) (q := 67) rfl rfl (fun _ => ?_) (fun _ => ?_)
    · exact x_vret hE hC (zdk dk_X4_putRow 44 rfl)
    · refine x_aload_n (i := 0) rfl hC (zdk dk_X4_putRow 36 rfl) (q := 68) rfl ?_
      refine x_aload_n (i := 1) rfl hC (zdk dk_X4_putRow 37 rfl) (q := 69) rfl ?_
      refine x_getR (k := 20) fl_RX4_66 rfl h_r1 hC (zdk dk_X4_putRow 38 rfl) (q := 72) rfl (fun q1 hq1 => ?_)
      refine x_iload_n (i := 3) rfl hC (zdk dk_X4_putRow 39 rfl) (q := 73) rfl ?_
      refine x_iald hq1 hC (zdk dk_X4_putRow 40 rfl) (q := 74) rfl (fun k2 _ => ?_)
      refine x_callVv (as := [.int (zI M q1 k2)]) cb_RX4_24 rfl (by decide) hk0 h_r0 (fun x hx => t_X4_put h_r0 x hx) hC (zdk dk_X4_putRow 41 rfl) (q := 77) rfl rfl (Nat.le_of_ble_eq_true rfl) (fun M3 => ?_)
      refine x_iinc (i := 3) c_iconst_1 rfl (by decide) (L' := [.ref r0, .ref r1, .int x2, .int (x3 + 1)]) rfl hC (zdk dk_X4_putRow 42 rfl) (q := 80) rfl ?_
      refine x_goto (tgt := 62) hC (zdk dk_X4_putRow 43 rfl) rfl ?_
      refine x_weak (L' := [.ref r0, .ref r1, .int x2, .int (x3 + 1)]) ⟨Or.inr rfl, Or.inr rfl, Or.inr rfl, Or.inr rfl, trivial⟩ ?_
      exact ih _ _
set_option maxRecDepth 100000 in
def f_X4_putRow_35  (r0 : Nat) (r1 : Nat) (x2 : Int32) : Nat → Int32 → Mem → Option Mem
  | 0, _, _ => none
  | f + 1, x3, M => (if x3 < 0 then f_X4_putRow_62 r0 r1 x2 1000000 0 M else Option.bind (f_X4_put r0 (((zlush (zL M r1 4) x3) &&& 255).toInt32) M) fun M4 => (f_X4_putRow_35 r0 r1 x2 f) (x3 + (-8)) M4)
set_option maxRecDepth 100000 in
set_option maxHeartbeats 4000000 in
theorem x_X4_putRow_35 {κ : KX} {n : Nat} (hC : CX κ cX4_putRow RX4 4 none 1) (hE : zEnd κ n (0, 0)) (hk0 : zRk κ (0, 0)) {r0 : Nat} {r1 : Nat} {x2 : Int32} (h_r0 : zO n r0 4) (h_r1 : zO n r1 8) : ∀ (f : Nat) (x3 : Int32) (M : Mem), X κ 4 emV n (0, 0) 35 [.ref r0, .ref r1, .int x2, .int x3] [] M (f_X4_putRow_35 r0 r1 x2 f x3 M) := by
  intro f
  induction f with
  | zero => intros; exact x_none
  | succ f ih =>
    intro x3 M 
    rw [f_X4_putRow_35]
    refine x_iload_n (i := 3) rfl hC (zdk dk_X4_putRow 18 rfl) (q := 36) rfl ?_
    refine x_if_lt (tgt := 60) hC (zdk dk_X4_putRow 19 rfl) (q := 39) rfl rfl (fun _ => ?_) (fun _ => ?_)
    · refine x_iconst (i := 0) c_iconst_0 hC (zdk dk_X4_putRow 31 rfl) (q := 61) rfl ?_
      refine x_istore_n (i := 3) (L' := [.ref r0, .ref r1, .int x2, .int 0]) (by decide) rfl hC (zdk dk_X4_putRow 32 rfl) (q := 62) rfl ?_
      refine x_weak (L' := [.ref r0, .ref r1, .int x2, .int 0]) ⟨Or.inr rfl, Or.inr rfl, Or.inr rfl, Or.inr rfl, trivial⟩ ?_
      exact x_X4_putRow_62 hC hE hk0 h_r0 h_r1 _ _ _
    · refine x_aload_n (i := 0) rfl hC (zdk dk_X4_putRow 20 rfl) (q := 40) rfl ?_
      refine x_aload_n (i := 1) rfl hC (zdk dk_X4_putRow 21 rfl) (q := 41) rfl ?_
      refine x_getL fl_RX4_60 h_r1 hC (zdk dk_X4_putRow 22 rfl) (q := 44) rfl ?_
      refine x_iload_n (i := 3) rfl hC (zdk dk_X4_putRow 23 rfl) (q := 45) rfl ?_
      refine x_lushr hC (zdk dk_X4_putRow 24 rfl) (q := 46) rfl ?_
      refine x_ldc2 k_RX4_64 hC (zdk dk_X4_putRow 25 rfl) (q := 49) rfl ?_
      refine x_land hC (zdk dk_X4_putRow 26 rfl) (q := 50) rfl ?_
      refine x_l2i hC (zdk dk_X4_putRow 27 rfl) (q := 51) rfl ?_
      refine x_callVv (as := [.int (((zlush (zL M r1 4) x3) &&& 255).toInt32)]) cb_RX4_24 rfl (by decide) hk0 h_r0 (fun x hx => t_X4_put h_r0 x hx) hC (zdk dk_X4_putRow 28 rfl) (q := 54) rfl rfl (Nat.le_of_ble_eq_true rfl) (fun M4 => ?_)
      refine x_iinc (i := 3) c_iconst_m8 rfl (by decide) (L' := [.ref r0, .ref r1, .int x2, .int (x3 + (-8))]) rfl hC (zdk dk_X4_putRow 29 rfl) (q := 57) rfl ?_
      refine x_goto (tgt := 35) hC (zdk dk_X4_putRow 30 rfl) rfl ?_
      refine x_weak (L' := [.ref r0, .ref r1, .int x2, .int (x3 + (-8))]) ⟨Or.inr rfl, Or.inr rfl, Or.inr rfl, Or.inr rfl, trivial⟩ ?_
      exact ih _ _
set_option maxRecDepth 100000 in
def f_X4_putRow_13  (r0 : Nat) (r1 : Nat) (x2 : Int32) (s0 : Nat) (s1 : Int32) (M : Mem) : Option Mem := Option.bind (f_X4_put s0 s1 M) fun M5 => (if zI M5 r1 2 = 0 then some M5 else Option.bind (f_X4_put r0 (zI M5 r1 3) M5) fun M6 => f_X4_putRow_35 r0 r1 x2 1000000 56 M6)
set_option maxRecDepth 100000 in
set_option maxHeartbeats 4000000 in
theorem x_X4_putRow_13 {κ : KX} {n : Nat} (hC : CX κ cX4_putRow RX4 4 none 1) (hE : zEnd κ n (0, 0)) (hk0 : zRk κ (0, 0)) {r0 : Nat} {r1 : Nat} {x2 : Int32} (h_r0 : zO n r0 4) (h_r1 : zO n r1 8) (s0 : Nat) (s1 : Int32) (M : Mem) (h_s0 : zO n s0 4) : X κ 4 emV n (0, 0) 13 [.ref r0, .ref r1, .int x2, .null] [.int s1, .ref s0] M (f_X4_putRow_13 r0 r1 x2 s0 s1 M) := by
  unfold f_X4_putRow_13
  refine x_callVv (as := [.int s1]) cb_RX4_24 rfl (by decide) hk0 h_s0 (fun x hx => t_X4_put h_s0 x hx) hC (zdk dk_X4_putRow 7 rfl) (q := 16) rfl rfl (Nat.le_of_ble_eq_true rfl) (fun M5 => ?_)
  refine x_aload_n (i := 1) rfl hC (zdk dk_X4_putRow 8 rfl) (q := 17) rfl ?_
  refine x_getI fl_RX4_51 (by decide) h_r1 hC (zdk dk_X4_putRow 9 rfl) (q := 20) rfl ?_
  refine x_if_ne (tgt := 24) hC (zdk dk_X4_putRow 10 rfl) (q := 23) rfl rfl (fun _ => ?_) (fun _ => ?_)
  · refine x_aload_n (i := 0) rfl hC (zdk dk_X4_putRow 12 rfl) (q := 25) rfl ?_
    refine x_aload_n (i := 1) rfl hC (zdk dk_X4_putRow 13 rfl) (q := 26) rfl ?_
    refine x_getI fl_RX4_57 (by decide) h_r1 hC (zdk dk_X4_putRow 14 rfl) (q := 29) rfl ?_
    refine x_callVv (as := [.int (zI M5 r1 3)]) cb_RX4_24 rfl (by decide) hk0 h_r0 (fun x hx => t_X4_put h_r0 x hx) hC (zdk dk_X4_putRow 15 rfl) (q := 32) rfl rfl (Nat.le_of_ble_eq_true rfl) (fun M6 => ?_)
    refine x_bipush (i := 56) c_bipush_56 hC (zdk dk_X4_putRow 16 rfl) (q := 34) rfl ?_
    refine x_istore_n (i := 3) (L' := [.ref r0, .ref r1, .int x2, .int 56]) (by decide) rfl hC (zdk dk_X4_putRow 17 rfl) (q := 35) rfl ?_
    refine x_weak (L' := [.ref r0, .ref r1, .int x2, .int 56]) ⟨Or.inr rfl, Or.inr rfl, Or.inr rfl, Or.inr rfl, trivial⟩ ?_
    exact x_X4_putRow_35 hC hE hk0 h_r0 h_r1 _ _ _
  · exact x_vret hE hC (zdk dk_X4_putRow 11 rfl)
set_option maxRecDepth 100000 in
def f_X4_putRow (r0 : Nat) (r1 : Nat) (x2 : Int32) (M : Mem) : Option Mem := (if zI M r1 2 = 0 then f_X4_putRow_13 r0 r1 x2 r0 0 M else f_X4_putRow_13 r0 r1 x2 r0 1 M)
set_option maxRecDepth 100000 in
set_option maxHeartbeats 4000000 in
theorem x_X4_putRow {κ : KX} {n : Nat} (hC : CX κ cX4_putRow RX4 4 none 1) (hE : zEnd κ n (0, 0)) (hk0 : zRk κ (0, 0)) (r0 : Nat) (r1 : Nat) (x2 : Int32) (M : Mem) (h_r0 : zO n r0 4) (h_r1 : zO n r1 8) : X κ 4 emV n (0, 0) 0 [.ref r0, .ref r1, .int x2, .null] [] M (f_X4_putRow r0 r1 x2 M) := by
  unfold f_X4_putRow
  refine x_aload_n (i := 0) rfl hC (zdk dk_X4_putRow 0 rfl) (q := 1) rfl ?_
  refine x_aload_n (i := 1) rfl hC (zdk dk_X4_putRow 1 rfl) (q := 2) rfl ?_
  refine x_getI fl_RX4_51 (by decide) h_r1 hC (zdk dk_X4_putRow 2 rfl) (q := 5) rfl ?_
  refine x_if_eq (tgt := 12) hC (zdk dk_X4_putRow 3 rfl) (q := 8) rfl rfl (fun _ => ?_) (fun _ => ?_)
  · refine x_iconst (i := 0) c_iconst_0 hC (zdk dk_X4_putRow 6 rfl) (q := 13) rfl ?_
    refine x_weak (L' := [.ref r0, .ref r1, .int x2, .null]) ⟨Or.inr rfl, Or.inr rfl, Or.inr rfl, Or.inl rfl, trivial⟩ ?_
    exact x_X4_putRow_13 hC hE hk0 h_r0 h_r1 _ _ _ h_r0
  · refine x_iconst (i := 1) c_iconst_1 hC (zdk dk_X4_putRow 4 rfl) (q := 9) rfl ?_
    refine x_goto (tgt := 13) hC (zdk dk_X4_putRow 5 rfl) rfl ?_
    refine x_weak (L' := [.ref r0, .ref r1, .int x2, .null]) ⟨Or.inr rfl, Or.inr rfl, Or.inr rfl, Or.inl rfl, trivial⟩ ?_
    exact x_X4_putRow_13 hC hE hk0 h_r0 h_r1 _ _ _ h_r0
set_option maxRecDepth 100000 in
set_option maxHeartbeats 4000000 in
theorem t_X4_putRow {n : Nat} {r0 : Nat} {r1 : Nat} {x2 : Int32} {M : Mem} (h_r0 : zO n r0 4) (h_r1 : zO n r1 8) (x : Mem) (hx : f_X4_putRow r0 r1 x2 M = some x) (l : Launch) (dC : Nat → ClassId) (dI : Nat → Nat → Nat) (b : zSg) : MT l dC dI b yX4_putRow cX4_putRow 4 none 1 0 0 n n [.ref r0, .ref r1, .int x2] M (emV x).1 (emV x).2 :=
  MT.ofX (by decide +kernel) rfl (Nat.le_of_ble_eq_true rfl) (fun κ hC hF _ => x_X4_putRow hC (zEnd_of hF (Nat.le_refl _) (Nat.le_refl _)) (zRk_of hF (Nat.le_refl _) (Nat.le_refl _)) _ _ _ _ h_r0 h_r1) x hx
set_option maxRecDepth 100000 in
def dt_X4_sumOf : List (Nat × Instr × Nat) := [(0, .sipush 211, 3), (3, .istore_n 2, 1), (4, .iconst 0, 1), (5, .istore_n 3, 1), (6, .iload_n 3, 1), (7, .iload_n 1, 1), (8, .if_icmp .ge 27, 3), (11, .iload_n 3, 1), (12, .aload_n 0, 1), (13, .arraylength, 1), (14, .if_icmp .ge 21, 3), (17, .iconst 5, 1), (18, .iload_n 2, 1), (19, .imul, 1), (20, .aload_n 0, 1), (21, .iload_n 3, 1), (22, .iaload, 1), (23, .iadd, 1), (24, .sipush 251, 3), (27, .irem, 1), (28, .istore_n 2, 1), (29, .iinc 3 1, 3), (32, .goto (-26), 3), (35, .iload_n 2, 1), (36, .ireturn, 1)]
set_option maxRecDepth 100000 in
theorem dk_X4_sumOf : dt_X4_sumOf.all (fun q => decide (decode cX4_sumOf q.1 = .ok q.2)) = true := by decide +kernel
set_option maxRecDepth 100000 in
def f_X4_sumOf_35  (r0 : Nat) (x1 : Int32) (x2 : Int32) (M : Mem) : Option (Int32 × Mem) := some (x2, M)
set_option maxRecDepth 100000 in
set_option maxHeartbeats 4000000 in
theorem x_X4_sumOf_35 {κ : KX} {n : Nat} (hC : CX κ cX4_sumOf RX4 4 (some .int) 0) (hE : zEnd κ n (0, 0)) (hk0 : zRk κ (0, 0)) {r0 : Nat} {x1 : Int32} (h_r0 : zO n r0 20) (x2 : Int32) (M : Mem) : X κ 4 emI n (0, 0) 35 [.null, .null, .int x2, .null] [] M (f_X4_sumOf_35 r0 x1 x2 M) := by
  unfold f_X4_sumOf_35
  refine x_iload_n (i := 2) rfl hC (zdk dk_X4_sumOf 23 rfl) (q := 36) rfl ?_
  exact x_iret (ty := .int) rfl hE hC (zdk dk_X4_sumOf 24 rfl)
set_option maxRecDepth 100000 in
def f_X4_sumOf_6  (r0 : Nat) (x1 : Int32) : Nat → Int32 → Int32 → Mem → Option (Int32 × Mem)
  | 0, _, _, _ => none
  | f + 1, x2, x3, M => (if x1 ≤ x3 then f_X4_sumOf_35 r0 x1 x2 M else (if zlen r0 ≤ x3 then f_X4_sumOf_35 r0 x1 x2 M else Option.bind (zld r0 x3) fun k1 => (f_X4_sumOf_6 r0 x1 f) (zrem ((5 * x2) + (zI M r0 k1)) 251) (x3 + 1) M))
set_option maxRecDepth 100000 in
set_option maxHeartbeats 4000000 in
theorem x_X4_sumOf_6 {κ : KX} {n : Nat} (hC : CX κ cX4_sumOf RX4 4 (some .int) 0) (hE : zEnd κ n (0, 0)) (hk0 : zRk κ (0, 0)) {r0 : Nat} {x1 : Int32} (h_r0 : zO n r0 20) : ∀ (f : Nat) (x2 : Int32) (x3 : Int32) (M : Mem), X κ 4 emI n (0, 0) 6 [.ref r0, .int x1, .int x2, .int x3] [] M (f_X4_sumOf_6 r0 x1 f x2 x3 M) := by
  intro f
  induction f with
  | zero => intros; exact x_none
  | succ f ih =>
    intro x2 x3 M 
    rw [f_X4_sumOf_6]
    refine x_iload_n (i := 3) rfl hC (zdk dk_X4_sumOf 4 rfl) (q := 7) rfl ?_
    refine x_iload_n (i := 1) rfl hC (zdk dk_X4_sumOf 5 rfl) (q := 8) rfl ?_
    refine x_icmp_ge (tgt := 35) hC (zdk dk_X4_sumOf 6 rfl) (q := 11) rfl rfl (fun _ => ?_) (fun _ => ?_)
    · refine x_weak (L' := [.null, .null, .int x2, .null]) ⟨Or.inl rfl, Or.inl rfl, Or.inr rfl, Or.inl rfl, trivial⟩ ?_
      exact x_X4_sumOf_35 hC hE hk0 h_r0 _ _
    · refine x_iload_n (i := 3) rfl hC (zdk dk_X4_sumOf 7 rfl) (q := 12) rfl ?_
      refine x_aload_n (i := 0) rfl hC (zdk dk_X4_sumOf 8 rfl) (q := 13) rfl ?_
      refine x_alen h_r0 (by decide) hC (zdk dk_X4_sumOf 9 rfl) (q := 14) rfl ?_
      refine x_icmp_ge (tgt := 35) hC (zdk dk_X4_sumOf 10 rfl) (q := 17) rfl rfl (fun _ => ?_) (fun _ => ?_)
      · refine x_weak (L' := [.null, .null, .int x2, .null]) ⟨Or.inl rfl, Or.inl rfl, Or.inr rfl, Or.inl rfl, trivial⟩ ?_
        exact x_X4_sumOf_35 hC hE hk0 h_r0 _ _
      · refine x_iconst (i := 5) c_iconst_5 hC (zdk dk_X4_sumOf 11 rfl) (q := 18) rfl ?_
        refine x_iload_n (i := 2) rfl hC (zdk dk_X4_sumOf 12 rfl) (q := 19) rfl ?_
        refine x_imul hC (zdk dk_X4_sumOf 13 rfl) (q := 20) rfl ?_
        refine x_aload_n (i := 0) rfl hC (zdk dk_X4_sumOf 14 rfl) (q := 21) rfl ?_
        refine x_iload_n (i := 3) rfl hC (zdk dk_X4_sumOf 15 rfl) (q := 22) rfl ?_
        refine x_iald h_r0 hC (zdk dk_X4_sumOf 16 rfl) (q := 23) rfl (fun k1 _ => ?_)
        refine x_iadd hC (zdk dk_X4_sumOf 17 rfl) (q := 24) rfl ?_
        refine x_sipush (i := 251) c_sipush_251 hC (zdk dk_X4_sumOf 18 rfl) (q := 27) rfl ?_
        refine x_irem (by decide) hC (zdk dk_X4_sumOf 19 rfl) (q := 28) rfl ?_
        refine x_istore_n (i := 2) (L' := [.ref r0, .int x1, .int (zrem ((5 * x2) + (zI M r0 k1)) 251), .int x3]) (by decide) rfl hC (zdk dk_X4_sumOf 20 rfl) (q := 29) rfl ?_
        refine x_iinc (i := 3) c_iconst_1 rfl (by decide) (L' := [.ref r0, .int x1, .int (zrem ((5 * x2) + (zI M r0 k1)) 251), .int (x3 + 1)]) rfl hC (zdk dk_X4_sumOf 21 rfl) (q := 32) rfl ?_
        refine x_goto (tgt := 6) hC (zdk dk_X4_sumOf 22 rfl) rfl ?_
        refine x_weak (L' := [.ref r0, .int x1, .int (zrem ((5 * x2) + (zI M r0 k1)) 251), .int (x3 + 1)]) ⟨Or.inr rfl, Or.inr rfl, Or.inr rfl, Or.inr rfl, trivial⟩ ?_
        exact ih _ _ _
set_option maxRecDepth 100000 in
def f_X4_sumOf (r0 : Nat) (x1 : Int32) (M : Mem) : Option (Int32 × Mem) := f_X4_sumOf_6 r0 x1 1000000 211 0 M
set_option maxRecDepth 100000 in
set_option maxHeartbeats 4000000 in
theorem x_X4_sumOf {κ : KX} {n : Nat} (hC : CX κ cX4_sumOf RX4 4 (some .int) 0) (hE : zEnd κ n (0, 0)) (hk0 : zRk κ (0, 0)) (r0 : Nat) (x1 : Int32) (M : Mem) (h_r0 : zO n r0 20) : X κ 4 emI n (0, 0) 0 [.ref r0, .int x1, .null, .null] [] M (f_X4_sumOf r0 x1 M) := by
  unfold f_X4_sumOf
  refine x_sipush (i := 211) c_sipush_211 hC (zdk dk_X4_sumOf 0 rfl) (q := 3) rfl ?_
  refine x_istore_n (i := 2) (L' := [.ref r0, .int x1, .int 211, .null]) (by decide) rfl hC (zdk dk_X4_sumOf 1 rfl) (q := 4) rfl ?_
  refine x_iconst (i := 0) c_iconst_0 hC (zdk dk_X4_sumOf 2 rfl) (q := 5) rfl ?_
  refine x_istore_n (i := 3) (L' := [.ref r0, .int x1, .int 211, .int 0]) (by decide) rfl hC (zdk dk_X4_sumOf 3 rfl) (q := 6) rfl ?_
  refine x_weak (L' := [.ref r0, .int x1, .int 211, .int 0]) ⟨Or.inr rfl, Or.inr rfl, Or.inr rfl, Or.inr rfl, trivial⟩ ?_
  exact x_X4_sumOf_6 hC hE hk0 h_r0 _ _ _ _
set_option maxRecDepth 100000 in
set_option maxHeartbeats 4000000 in
theorem t_X4_sumOf {n : Nat} {r0 : Nat} {x1 : Int32} {M : Mem} (h_r0 : zO n r0 20) (x : (Int32 × Mem)) (hx : f_X4_sumOf r0 x1 M = some x) (l : Launch) (dC : Nat → ClassId) (dI : Nat → Nat → Nat) (b : zSg) : MT l dC dI b yX4_sumOf cX4_sumOf 4 (some .int) 0 0 0 n n [.ref r0, .int x1] M (emI x).1 (emI x).2 :=
  MT.ofX (by decide +kernel) rfl (Nat.le_of_ble_eq_true rfl) (fun κ hC hF _ => x_X4_sumOf hC (zEnd_of hF (Nat.le_refl _) (Nat.le_refl _)) (zRk_of hF (Nat.le_refl _) (Nat.le_refl _)) _ _ _ h_r0) x hx
set_option maxRecDepth 100000 in
def dt_X4_build : List (Nat × Instr × Nat) := [(0, .aload_n 0, 1), (1, .iconst 0, 1), (2, .putfield 15, 3), (5, .aload_n 0, 1), (6, .aload_n 1, 1), (7, .getfield 19, 3), (10, .bipush 8, 2), (12, .ishr, 1), (13, .invokevirtual 24, 3), (16, .aload_n 0, 1), (17, .aload_n 1, 1), (18, .getfield 19, 3), (21, .sipush 255, 3), (24, .iand, 1), (25, .invokevirtual 24, 3), (28, .iconst 0, 1), (29, .istore 4, 2), (31, .iload 4, 2), (33, .iload_n 3, 1), (34, .if_icmp .ge 27, 3), (37, .aload_n 0, 1), (38, .aload_n 1, 1), (39, .getfield 28, 3), (42, .iload 4, 2), (44, .aaload, 1), (45, .aload_n 2, 1), (46, .getfield 32, 3), (49, .getfield 38, 3), (52, .invokevirtual 43, 3), (55, .iinc 4 1, 3), (58, .goto (-27), 3), (61, .aload_n 0, 1), (62, .aload_n 0, 1), (63, .getfield 9, 3), (66, .aload_n 0, 1), (67, .getfield 15, 3), (70, .invokestatic 47, 3), (73, .invokevirtual 24, 3), (76, .return_, 1)]
set_option maxRecDepth 100000 in
theorem dk_X4_build : dt_X4_build.all (fun q => decide (decode cX4_build q.1 = .ok q.2)) = true := by decide +kernel
set_option maxRecDepth 100000 in
def f_X4_build_31  (r0 : Nat) (r1 : Nat) (r2 : Nat) (x3 : Int32) : Nat → Int32 → Mem → Option Mem
  | 0, _, _ => none
  | f + 1, x4, M => (if x3 ≤ x4 then Option.bind (zrf M r0 0) fun q1 => Option.bind (f_X4_sumOf q1 (zI M r0 1) M) fun z2 => Option.bind (f_X4_put r0 z2.1 z2.2) fun M3 => some M3 else Option.bind (zrf M r1 0) fun q4 => Option.bind (zld q4 x4) fun k5 => Option.bind (zrf M q4 k5) fun q6 => Option.bind (zrf M r2 0) fun q7 => Option.bind (f_X4_putRow r0 q6 (zI M q7 10) M) fun M8 => (f_X4_build_31 r0 r1 r2 x3 f) (x4 + 1) M8)
set_option maxRecDepth 100000 in
set_option maxHeartbeats 4000000 in
theorem x_X4_build_31 {κ : KX} {n : Nat} (hC : CX κ cX4_build RX4 5 none 2) (hE : zEnd κ n (0, 0)) (hk0 : zRk κ (0, 0)) {r0 : Nat} {r1 : Nat} {r2 : Nat} {x3 : Int32} (h_r0 : zO n r0 4) (h_r1 : zO n r1 5) (h_r2 : zO n r2 0) : ∀ (f : Nat) (x4 : Int32) (M : Mem), X κ 5 emV n (0, 0) 31 [.ref r0, .ref r1, .ref r2, .int x3, .int x4] [] M (f_X4_build_31 r0 r1 r2 x3 f x4 M) := by
  intro f
  induction f with
  | zero => intros; exact x_none
  | succ f ih =>
    intro x4 M 
    rw [f_X4_build_31]
    refine x_iload (i := 4) rfl hC (zdk dk_X4_build 17 rfl) (q := 33) rfl ?_
    refine x_iload_n (i := 3) rfl hC (zdk dk_X4_build 18 rfl) (q := 34) rfl ?_
    refine x_icmp_ge (tgt := 61) hC (zdk dk_X4_build 19 rfl) (q := 37) rfl rfl (fun _ => ?_) (fun _ => ?_)
    · refine x_aload_n (i := 0) rfl hC (zdk dk_X4_build 31 rfl) (q := 62) rfl ?_
      refine x_aload_n (i := 0) rfl hC (zdk dk_X4_build 32 rfl) (q := 63) rfl ?_
      refine x_getR (k := 20) fl_RX4_9 rfl h_r0 hC (zdk dk_X4_build 33 rfl) (q := 66) rfl (fun q1 hq1 => ?_)
      refine x_aload_n (i := 0) rfl hC (zdk dk_X4_build 34 rfl) (q := 67) rfl ?_
      refine x_getI fl_RX4_15 (by decide) h_r0 hC (zdk dk_X4_build 35 rfl) (q := 70) rfl ?_
      refine x_callSi (as := [.ref q1, .int (zI M r0 1)]) cb_RX4_47 rfl (by decide) hk0 (fun x hx => t_X4_sumOf hq1 x hx) hC (zdk dk_X4_build 36 rfl) (q := 73) rfl rfl (Nat.le_of_ble_eq_true rfl) (fun z2 => ?_)
      refine x_callVv (as := [.int z2.1]) cb_RX4_24 rfl (by decide) hk0 h_r0 (fun x hx => t_X4_put h_r0 x hx) hC (zdk dk_X4_build 37 rfl) (q := 76) rfl rfl (Nat.le_of_ble_eq_true rfl) (fun M3 => ?_)
      exact x_vret hE hC (zdk dk_X4_build 38 rfl)
    · refine x_aload_n (i := 0) rfl hC (zdk dk_X4_build 20 rfl) (q := 38) rfl ?_
      refine x_aload_n (i := 1) rfl hC (zdk dk_X4_build 21 rfl) (q := 39) rfl ?_
      refine x_getR (k := 23) fl_RX4_28 rfl h_r1 hC (zdk dk_X4_build 22 rfl) (q := 42) rfl (fun q4 hq4 => ?_)
      refine x_iload (i := 4) rfl hC (zdk dk_X4_build 23 rfl) (q := 44) rfl ?_
      refine x_aald (kd := 23) (ke := 8) hq4 (by decide) rfl hC (zdk dk_X4_build 24 rfl) (q := 45) rfl (fun k5 _ q6 hq6 => ?_)
      refine x_aload_n (i := 2) rfl hC (zdk dk_X4_build 25 rfl) (q := 46) rfl ?_
      refine x_getR (k := 1) fl_RX4_32 rfl h_r2 hC (zdk dk_X4_build 26 rfl) (q := 49) rfl (fun q7 hq7 => ?_)
      refine x_getI fl_RX4_38 (by decide) hq7 hC (zdk dk_X4_build 27 rfl) (q := 52) rfl ?_
      refine x_callVv (as := [.ref q6, .int (zI M q7 10)]) cb_RX4_43 rfl (by decide) hk0 h_r0 (fun x hx => t_X4_putRow h_r0 hq6 x hx) hC (zdk dk_X4_build 28 rfl) (q := 55) rfl rfl (Nat.le_of_ble_eq_true rfl) (fun M8 => ?_)
      refine x_iinc (i := 4) c_iconst_1 rfl (by decide) (L' := [.ref r0, .ref r1, .ref r2, .int x3, .int (x4 + 1)]) rfl hC (zdk dk_X4_build 29 rfl) (q := 58) rfl ?_
      refine x_goto (tgt := 31) hC (zdk dk_X4_build 30 rfl) rfl ?_
      refine x_weak (L' := [.ref r0, .ref r1, .ref r2, .int x3, .int (x4 + 1)]) ⟨Or.inr rfl, Or.inr rfl, Or.inr rfl, Or.inr rfl, Or.inr rfl, trivial⟩ ?_
      exact ih _ _
set_option maxRecDepth 100000 in
def f_X4_build (r0 : Nat) (r1 : Nat) (r2 : Nat) (x3 : Int32) (M : Mem) : Option Mem := Option.bind (some (zsI M r0 1 0)) fun M9 => Option.bind (f_X4_put r0 ((zI M9 r1 1) >>> (8 &&& 31)) M9) fun M10 => Option.bind (f_X4_put r0 ((zI M10 r1 1) &&& 255) M10) fun M11 => f_X4_build_31 r0 r1 r2 x3 1000000 0 M11
set_option maxRecDepth 100000 in
set_option maxHeartbeats 4000000 in
theorem x_X4_build {κ : KX} {n : Nat} (hC : CX κ cX4_build RX4 5 none 2) (hE : zEnd κ n (0, 0)) (hk0 : zRk κ (0, 0)) (r0 : Nat) (r1 : Nat) (r2 : Nat) (x3 : Int32) (M : Mem) (h_r0 : zO n r0 4) (h_r1 : zO n r1 5) (h_r2 : zO n r2 0) : X κ 5 emV n (0, 0) 0 [.ref r0, .ref r1, .ref r2, .int x3, .null] [] M (f_X4_build r0 r1 r2 x3 M) := by
  unfold f_X4_build
  refine x_aload_n (i := 0) rfl hC (zdk dk_X4_build 0 rfl) (q := 1) rfl ?_
  refine x_iconst (i := 0) c_iconst_0 hC (zdk dk_X4_build 1 rfl) (q := 2) rfl ?_
  refine x_putI fl_RX4_15 ⟨rfl, rfl⟩ (by decide) (Or.inl rfl) h_r0 hC (zdk dk_X4_build 2 rfl) (q := 5) rfl ?_
  refine x_nmM (fun M9 => ?_)
  refine x_aload_n (i := 0) rfl hC (zdk dk_X4_build 3 rfl) (q := 6) rfl ?_
  refine x_aload_n (i := 1) rfl hC (zdk dk_X4_build 4 rfl) (q := 7) rfl ?_
  refine x_getI fl_RX4_19 (by decide) h_r1 hC (zdk dk_X4_build 5 rfl) (q := 10) rfl ?_
  refine x_bipush (i := 8) c_bipush_8 hC (zdk dk_X4_build 6 rfl) (q := 12) rfl ?_
  refine x_ishr hC (zdk dk_X4_build 7 rfl) (q := 13) rfl ?_
  refine x_callVv (as := [.int ((zI M9 r1 1) >>> (8 &&& 31))]) cb_RX4_24 rfl (by decide) hk0 h_r0 (fun x hx => t_X4_put h_r0 x hx) hC (zdk dk_X4_build 8 rfl) (q := 16) rfl rfl (Nat.le_of_ble_eq_true rfl) (fun M10 => ?_)
  refine x_aload_n (i := 0) rfl hC (zdk dk_X4_build 9 rfl) (q := 17) rfl ?_
  refine x_aload_n (i := 1) rfl hC (zdk dk_X4_build 10 rfl) (q := 18) rfl ?_
  refine x_getI fl_RX4_19 (by decide) h_r1 hC (zdk dk_X4_build 11 rfl) (q := 21) rfl ?_
  refine x_sipush (i := 255) c_sipush_255 hC (zdk dk_X4_build 12 rfl) (q := 24) rfl ?_
  refine x_iand hC (zdk dk_X4_build 13 rfl) (q := 25) rfl ?_
  refine x_callVv (as := [.int ((zI M10 r1 1) &&& 255)]) cb_RX4_24 rfl (by decide) hk0 h_r0 (fun x hx => t_X4_put h_r0 x hx) hC (zdk dk_X4_build 14 rfl) (q := 28) rfl rfl (Nat.le_of_ble_eq_true rfl) (fun M11 => ?_)
  refine x_iconst (i := 0) c_iconst_0 hC (zdk dk_X4_build 15 rfl) (q := 29) rfl ?_
  refine x_istore (i := 4) (L' := [.ref r0, .ref r1, .ref r2, .int x3, .int 0]) (by decide) rfl hC (zdk dk_X4_build 16 rfl) (q := 31) rfl ?_
  refine x_weak (L' := [.ref r0, .ref r1, .ref r2, .int x3, .int 0]) ⟨Or.inr rfl, Or.inr rfl, Or.inr rfl, Or.inr rfl, Or.inr rfl, trivial⟩ ?_
  exact x_X4_build_31 hC hE hk0 h_r0 h_r1 h_r2 _ _ _
set_option maxRecDepth 100000 in
set_option maxHeartbeats 4000000 in
theorem t_X4_build {n : Nat} {r0 : Nat} {r1 : Nat} {r2 : Nat} {x3 : Int32} {M : Mem} (h_r0 : zO n r0 4) (h_r1 : zO n r1 5) (h_r2 : zO n r2 0) (x : Mem) (hx : f_X4_build r0 r1 r2 x3 M = some x) (l : Launch) (dC : Nat → ClassId) (dI : Nat → Nat → Nat) (b : zSg) : MT l dC dI b yX4_build cX4_build 5 none 2 0 0 n n [.ref r0, .ref r1, .ref r2, .int x3] M (emV x).1 (emV x).2 :=
  MT.ofX (by decide +kernel) rfl (Nat.le_of_ble_eq_true rfl) (fun κ hC hF _ => x_X4_build hC (zEnd_of hF (Nat.le_refl _) (Nat.le_refl _)) (zRk_of hF (Nat.le_refl _) (Nat.le_refl _)) _ _ _ _ _ h_r0 h_r1 h_r2) x hx
set_option maxRecDepth 100000 in
def dt_X8_clear : List (Nat × Instr × Nat) := [(0, .aload_n 0, 1), (1, .iconst 0, 1), (2, .putfield 19, 3), (5, .aload_n 0, 1), (6, .iconst 0, 1), (7, .putfield 23, 3), (10, .aload_n 0, 1), (11, .lconst 0, 1), (12, .putfield 26, 3), (15, .return_, 1)]
set_option maxRecDepth 100000 in
theorem dk_X8_clear : dt_X8_clear.all (fun q => decide (decode cX8_clear q.1 = .ok q.2)) = true := by decide +kernel
set_option maxRecDepth 100000 in
def f_X8_clear (r0 : Nat) (M : Mem) : Option Mem := Option.bind (some (zsI M r0 2 0)) fun M1 => Option.bind (some (zsI M1 r0 3 0)) fun M2 => Option.bind (some (zsL M2 r0 4 0)) fun M3 => some M3
set_option maxRecDepth 100000 in
set_option maxHeartbeats 4000000 in
theorem x_X8_clear {κ : KX} {n : Nat} (hC : CX κ cX8_clear RX8 1 none 0) (hE : zEnd κ n (0, 0)) (hk0 : zRk κ (0, 0)) (r0 : Nat) (M : Mem) (h_r0 : zO n r0 8) : X κ 1 emV n (0, 0) 0 [.ref r0] [] M (f_X8_clear r0 M) := by
  unfold f_X8_clear
  refine x_aload_n (i := 0) rfl hC (zdk dk_X8_clear 0 rfl) (q := 1) rfl ?_
  refine x_iconst (i := 0) c_iconst_0 hC (zdk dk_X8_clear 1 rfl) (q := 2) rfl ?_
  refine x_putI fl_RX8_19 ⟨rfl, rfl⟩ (by decide) (Or.inl rfl) h_r0 hC (zdk dk_X8_clear 2 rfl) (q := 5) rfl ?_
  refine x_nmM (fun M1 => ?_)
  refine x_aload_n (i := 0) rfl hC (zdk dk_X8_clear 3 rfl) (q := 6) rfl ?_
  refine x_iconst (i := 0) c_iconst_0 hC (zdk dk_X8_clear 4 rfl) (q := 7) rfl ?_
  refine x_putI fl_RX8_23 ⟨rfl, rfl⟩ (by decide) (Or.inl rfl) h_r0 hC (zdk dk_X8_clear 5 rfl) (q := 10) rfl ?_
  refine x_nmM (fun M2 => ?_)
  refine x_aload_n (i := 0) rfl hC (zdk dk_X8_clear 6 rfl) (q := 11) rfl ?_
  refine x_lconst (i := 0) c_lconst_0 hC (zdk dk_X8_clear 7 rfl) (q := 12) rfl ?_
  refine x_putL fl_RX8_26 ⟨rfl, rfl⟩ (Or.inl rfl) h_r0 hC (zdk dk_X8_clear 8 rfl) (q := 15) rfl ?_
  refine x_nmM (fun M3 => ?_)
  exact x_vret hE hC (zdk dk_X8_clear 9 rfl)
set_option maxRecDepth 100000 in
set_option maxHeartbeats 4000000 in
theorem t_X8_clear {n : Nat} {r0 : Nat} {M : Mem} (h_r0 : zO n r0 8) (x : Mem) (hx : f_X8_clear r0 M = some x) (l : Launch) (dC : Nat → ClassId) (dI : Nat → Nat → Nat) (b : zSg) : MT l dC dI b yX8_clear cX8_clear 1 none 0 0 0 n n [.ref r0] M (emV x).1 (emV x).2 :=
  MT.ofX (by decide +kernel) rfl (Nat.le_of_ble_eq_true rfl) (fun κ hC hF _ => x_X8_clear hC (zEnd_of hF (Nat.le_refl _) (Nat.le_refl _)) (zRk_of hF (Nat.le_refl _) (Nat.le_refl _)) _ _ h_r0) x hx
set_option maxRecDepth 100000 in
def dt_X5_clear : List (Nat × Instr × Nat) := [(0, .aload_n 0, 1), (1, .iconst 0, 1), (2, .putfield 20, 3), (5, .iconst 0, 1), (6, .istore_n 1, 1), (7, .iload_n 1, 1), (8, .bipush 6, 2), (10, .if_icmp .ge 18, 3), (13, .aload_n 0, 1), (14, .getfield 11, 3), (17, .iload_n 1, 1), (18, .aaload, 1), (19, .invokevirtual 24, 3), (22, .iinc 1 1, 3), (25, .goto (-18), 3), (28, .return_, 1)]
set_option maxRecDepth 100000 in
theorem dk_X5_clear : dt_X5_clear.all (fun q => decide (decode cX5_clear q.1 = .ok q.2)) = true := by decide +kernel
set_option maxRecDepth 100000 in
def f_X5_clear_7  (r0 : Nat) : Nat → Int32 → Mem → Option Mem
  | 0, _, _ => none
  | f + 1, x1, M => (if 6 ≤ x1 then some M else Option.bind (zrf M r0 0) fun q1 => Option.bind (zld q1 x1) fun k2 => Option.bind (zrf M q1 k2) fun q3 => Option.bind (f_X8_clear q3 M) fun M4 => (f_X5_clear_7 r0 f) (x1 + 1) M4)
set_option maxRecDepth 100000 in
set_option maxHeartbeats 4000000 in
theorem x_X5_clear_7 {κ : KX} {n : Nat} (hC : CX κ cX5_clear RX5 2 none 1) (hE : zEnd κ n (0, 0)) (hk0 : zRk κ (0, 0)) {r0 : Nat} (h_r0 : zO n r0 5) : ∀ (f : Nat) (x1 : Int32) (M : Mem), X κ 2 emV n (0, 0) 7 [.ref r0, .int x1] [] M (f_X5_clear_7 r0 f x1 M) := by
  intro f
  induction f with
  | zero => intros; exact x_none
  | succ f ih =>
    intro x1 M 
    rw [f_X5_clear_7]
    refine x_iload_n (i := 1) rfl hC (zdk dk_X5_clear 5 rfl) (q := 8) rfl ?_
    refine x_bipush (i := 6) c_bipush_6 hC (zdk dk_X5_clear 6 rfl) (q := 10) rfl ?_
    refine x_icmp_ge (tgt := 28) hC (zdk dk_X5_clear 7 rfl) (q := 13) rfl rfl (fun _ => ?_) (fun _ => ?_)
    · exact x_vret hE hC (zdk dk_X5_clear 15 rfl)
    · refine x_aload_n (i := 0) rfl hC (zdk dk_X5_clear 8 rfl) (q := 14) rfl ?_
      refine x_getR (k := 23) fl_RX5_11 rfl h_r0 hC (zdk dk_X5_clear 9 rfl) (q := 17) rfl (fun q1 hq1 => ?_)
      refine x_iload_n (i := 1) rfl hC (zdk dk_X5_clear 10 rfl) (q := 18) rfl ?_
      refine x_aald (kd := 23) (ke := 8) hq1 (by decide) rfl hC (zdk dk_X5_clear 11 rfl) (q := 19) rfl (fun k2 _ q3 hq3 => ?_)
      refine x_callVv (as := []) cb_RX5_24 rfl (by decide) hk0 hq3 (fun x hx => t_X8_clear hq3 x hx) hC (zdk dk_X5_clear 12 rfl) (q := 22) rfl rfl (Nat.le_of_ble_eq_true rfl) (fun M4 => ?_)
      refine x_iinc (i := 1) c_iconst_1 rfl (by decide) (L' := [.ref r0, .int (x1 + 1)]) rfl hC (zdk dk_X5_clear 13 rfl) (q := 25) rfl ?_
      refine x_goto (tgt := 7) hC (zdk dk_X5_clear 14 rfl) rfl ?_
      refine x_weak (L' := [.ref r0, .int (x1 + 1)]) ⟨Or.inr rfl, Or.inr rfl, trivial⟩ ?_
      exact ih _ _
set_option maxRecDepth 100000 in
def f_X5_clear (r0 : Nat) (M : Mem) : Option Mem := Option.bind (some (zsI M r0 1 0)) fun M5 => f_X5_clear_7 r0 1000000 0 M5
set_option maxRecDepth 100000 in
set_option maxHeartbeats 4000000 in
theorem x_X5_clear {κ : KX} {n : Nat} (hC : CX κ cX5_clear RX5 2 none 1) (hE : zEnd κ n (0, 0)) (hk0 : zRk κ (0, 0)) (r0 : Nat) (M : Mem) (h_r0 : zO n r0 5) : X κ 2 emV n (0, 0) 0 [.ref r0, .null] [] M (f_X5_clear r0 M) := by
  unfold f_X5_clear
  refine x_aload_n (i := 0) rfl hC (zdk dk_X5_clear 0 rfl) (q := 1) rfl ?_
  refine x_iconst (i := 0) c_iconst_0 hC (zdk dk_X5_clear 1 rfl) (q := 2) rfl ?_
  refine x_putI fl_RX5_20 ⟨rfl, rfl⟩ (by decide) (Or.inl rfl) h_r0 hC (zdk dk_X5_clear 2 rfl) (q := 5) rfl ?_
  refine x_nmM (fun M5 => ?_)
  refine x_iconst (i := 0) c_iconst_0 hC (zdk dk_X5_clear 3 rfl) (q := 6) rfl ?_
  refine x_istore_n (i := 1) (L' := [.ref r0, .int 0]) (by decide) rfl hC (zdk dk_X5_clear 4 rfl) (q := 7) rfl ?_
  refine x_weak (L' := [.ref r0, .int 0]) ⟨Or.inr rfl, Or.inr rfl, trivial⟩ ?_
  exact x_X5_clear_7 hC hE hk0 h_r0 _ _ _
set_option maxRecDepth 100000 in
set_option maxHeartbeats 4000000 in
theorem t_X5_clear {n : Nat} {r0 : Nat} {M : Mem} (h_r0 : zO n r0 5) (x : Mem) (hx : f_X5_clear r0 M = some x) (l : Launch) (dC : Nat → ClassId) (dI : Nat → Nat → Nat) (b : zSg) : MT l dC dI b yX5_clear cX5_clear 2 none 1 0 0 n n [.ref r0] M (emV x).1 (emV x).2 :=
  MT.ofX (by decide +kernel) rfl (Nat.le_of_ble_eq_true rfl) (fun κ hC hF _ => x_X5_clear hC (zEnd_of hF (Nat.le_refl _) (Nat.le_refl _)) (zRk_of hF (Nat.le_refl _) (Nat.le_refl _)) _ _ h_r0) x hx
set_option maxRecDepth 100000 in
def dt_X8_copy : List (Nat × Instr × Nat) := [(0, .aload_n 0, 1), (1, .aload_n 1, 1), (2, .getfield 15, 3), (5, .putfield 15, 3), (8, .aload_n 0, 1), (9, .aload_n 1, 1), (10, .getfield 19, 3), (13, .putfield 19, 3), (16, .aload_n 0, 1), (17, .aload_n 1, 1), (18, .getfield 23, 3), (21, .putfield 23, 3), (24, .aload_n 0, 1), (25, .aload_n 1, 1), (26, .getfield 26, 3), (29, .putfield 26, 3), (32, .aload_n 1, 1), (33, .getfield 9, 3), (36, .iconst 0, 1), (37, .aload_n 0, 1), (38, .getfield 9, 3), (41, .iconst 0, 1), (42, .aload_n 0, 1), (43, .getfield 9, 3), (46, .arraylength, 1), (47, .invokestatic 30, 3), (50, .return_, 1)]
set_option maxRecDepth 100000 in
theorem dk_X8_copy : dt_X8_copy.all (fun q => decide (decode cX8_copy q.1 = .ok q.2)) = true := by decide +kernel
set_option maxRecDepth 100000 in
def f_X8_copy (r0 : Nat) (r1 : Nat) (M : Mem) : Option Mem := Option.bind (some (zsI M r0 1 (zI M r1 1))) fun M1 => zbz (zI M1 r1 2) <| Option.bind (some (zsI M1 r0 2 (zI M1 r1 2))) fun M2 => Option.bind (some (zsI M2 r0 3 (zI M2 r1 3))) fun M4 => Option.bind (some (zsL M4 r0 4 (zL M4 r1 4))) fun M5 => Option.bind (zrf M5 r1 0) fun q6 => Option.bind (zrf M5 r0 0) fun q7 => Option.bind (zrf M5 r0 0) fun q8 => Option.bind (zcopy M5 q6 0 q7 0 (zlen q8)) fun M9 => some M9
set_option maxRecDepth 100000 in
set_option maxHeartbeats 4000000 in
theorem x_X8_copy {κ : KX} {n : Nat} (hC : CX κ cX8_copy RX8 2 none 1) (hE : zEnd κ n (0, 0)) (hk0 : zRk κ (0, 0)) (r0 : Nat) (r1 : Nat) (M : Mem) (h_r0 : zO n r0 8) (h_r1 : zO n r1 8) : X κ 2 emV n (0, 0) 0 [.ref r0, .ref r1] [] M (f_X8_copy r0 r1 M) := by
  unfold f_X8_copy
  refine x_aload_n (i := 0) rfl hC (zdk dk_X8_copy 0 rfl) (q := 1) rfl ?_
  refine x_aload_n (i := 1) rfl hC (zdk dk_X8_copy 1 rfl) (q := 2) rfl ?_
  refine x_getI fl_RX8_15 (by decide) h_r1 hC (zdk dk_X8_copy 2 rfl) (q := 5) rfl ?_
  refine x_putI fl_RX8_15 ⟨rfl, rfl⟩ (by decide) (Or.inl rfl) h_r0 hC (zdk dk_X8_copy 3 rfl) (q := 8) rfl ?_
  refine x_nmM (fun M1 => ?_)
  refine x_aload_n (i := 0) rfl hC (zdk dk_X8_copy 4 rfl) (q := 9) rfl ?_
  refine x_aload_n (i := 1) rfl hC (zdk dk_X8_copy 5 rfl) (q := 10) rfl ?_
  refine x_getI fl_RX8_19 (by decide) h_r1 hC (zdk dk_X8_copy 6 rfl) (q := 13) rfl ?_
  refine x_bz (fun hb3 => ?_)
  refine x_putI fl_RX8_19 hb3 (by decide) (Or.inl rfl) h_r0 hC (zdk dk_X8_copy 7 rfl) (q := 16) rfl ?_
  refine x_nmM (fun M2 => ?_)
  refine x_aload_n (i := 0) rfl hC (zdk dk_X8_copy 8 rfl) (q := 17) rfl ?_
  refine x_aload_n (i := 1) rfl hC (zdk dk_X8_copy 9 rfl) (q := 18) rfl ?_
  refine x_getI fl_RX8_23 (by decide) h_r1 hC (zdk dk_X8_copy 10 rfl) (q := 21) rfl ?_
  refine x_putI fl_RX8_23 ⟨rfl, rfl⟩ (by decide) (Or.inl rfl) h_r0 hC (zdk dk_X8_copy 11 rfl) (q := 24) rfl ?_
  refine x_nmM (fun M4 => ?_)
  refine x_aload_n (i := 0) rfl hC (zdk dk_X8_copy 12 rfl) (q := 25) rfl ?_
  refine x_aload_n (i := 1) rfl hC (zdk dk_X8_copy 13 rfl) (q := 26) rfl ?_
  refine x_getL fl_RX8_26 h_r1 hC (zdk dk_X8_copy 14 rfl) (q := 29) rfl ?_
  refine x_putL fl_RX8_26 ⟨rfl, rfl⟩ (Or.inl rfl) h_r0 hC (zdk dk_X8_copy 15 rfl) (q := 32) rfl ?_
  refine x_nmM (fun M5 => ?_)
  refine x_aload_n (i := 1) rfl hC (zdk dk_X8_copy 16 rfl) (q := 33) rfl ?_
  refine x_getR (k := 20) fl_RX8_9 rfl h_r1 hC (zdk dk_X8_copy 17 rfl) (q := 36) rfl (fun q6 hq6 => ?_)
  refine x_iconst (i := 0) c_iconst_0 hC (zdk dk_X8_copy 18 rfl) (q := 37) rfl ?_
  refine x_aload_n (i := 0) rfl hC (zdk dk_X8_copy 19 rfl) (q := 38) rfl ?_
  refine x_getR (k := 20) fl_RX8_9 rfl h_r0 hC (zdk dk_X8_copy 20 rfl) (q := 41) rfl (fun q7 hq7 => ?_)
  refine x_iconst (i := 0) c_iconst_0 hC (zdk dk_X8_copy 21 rfl) (q := 42) rfl ?_
  refine x_aload_n (i := 0) rfl hC (zdk dk_X8_copy 22 rfl) (q := 43) rfl ?_
  refine x_getR (k := 20) fl_RX8_9 rfl h_r0 hC (zdk dk_X8_copy 23 rfl) (q := 46) rfl (fun q8 hq8 => ?_)
  refine x_alen hq8 (by decide) hC (zdk dk_X8_copy 24 rfl) (q := 47) rfl ?_
  refine x_acopy ac_RX8_30 hq6 hq7 hC (zdk dk_X8_copy 25 rfl) (q := 50) rfl (Nat.le_of_ble_eq_true rfl) (fun M9 => ?_)
  exact x_vret hE hC (zdk dk_X8_copy 26 rfl)
set_option maxRecDepth 100000 in
set_option maxHeartbeats 4000000 in
theorem t_X8_copy {n : Nat} {r0 : Nat} {r1 : Nat} {M : Mem} (h_r0 : zO n r0 8) (h_r1 : zO n r1 8) (x : Mem) (hx : f_X8_copy r0 r1 M = some x) (l : Launch) (dC : Nat → ClassId) (dI : Nat → Nat → Nat) (b : zSg) : MT l dC dI b yX8_copy cX8_copy 2 none 1 0 0 n n [.ref r0, .ref r1] M (emV x).1 (emV x).2 :=
  MT.ofX (by decide +kernel) rfl (Nat.le_of_ble_eq_true rfl) (fun κ hC hF _ => x_X8_copy hC (zEnd_of hF (Nat.le_refl _) (Nat.le_refl _)) (zRk_of hF (Nat.le_refl _) (Nat.le_refl _)) _ _ _ h_r0 h_r1) x hx
set_option maxRecDepth 100000 in
def dt_X5_copy : List (Nat × Instr × Nat) := [(0, .aload_n 0, 1), (1, .aload_n 1, 1), (2, .getfield 20, 3), (5, .putfield 20, 3), (8, .iconst 0, 1), (9, .istore_n 2, 1), (10, .iload_n 2, 1), (11, .bipush 6, 2), (13, .if_icmp .ge 24, 3), (16, .aload_n 0, 1), (17, .getfield 11, 3), (20, .iload_n 2, 1), (21, .aaload, 1), (22, .aload_n 1, 1), (23, .getfield 11, 3), (26, .iload_n 2, 1), (27, .aaload, 1), (28, .invokevirtual 27, 3), (31, .iinc 2 1, 3), (34, .goto (-24), 3), (37, .return_, 1)]
set_option maxRecDepth 100000 in
theorem dk_X5_copy : dt_X5_copy.all (fun q => decide (decode cX5_copy q.1 = .ok q.2)) = true := by decide +kernel
set_option maxRecDepth 100000 in
def f_X5_copy_10  (r0 : Nat) (r1 : Nat) : Nat → Int32 → Mem → Option Mem
  | 0, _, _ => none
  | f + 1, x2, M => (if 6 ≤ x2 then some M else Option.bind (zrf M r0 0) fun q1 => Option.bind (zld q1 x2) fun k2 => Option.bind (zrf M q1 k2) fun q3 => Option.bind (zrf M r1 0) fun q4 => Option.bind (zld q4 x2) fun k5 => Option.bind (zrf M q4 k5) fun q6 => Option.bind (f_X8_copy q3 q6 M) fun M7 => (f_X5_copy_10 r0 r1 f) (x2 + 1) M7)
set_option maxRecDepth 100000 in
set_option maxHeartbeats 4000000 in
theorem x_X5_copy_10 {κ : KX} {n : Nat} (hC : CX κ cX5_copy RX5 3 none 2) (hE : zEnd κ n (0, 0)) (hk0 : zRk κ (0, 0)) {r0 : Nat} {r1 : Nat} (h_r0 : zO n r0 5) (h_r1 : zO n r1 5) : ∀ (f : Nat) (x2 : Int32) (M : Mem), X κ 3 emV n (0, 0) 10 [.ref r0, .ref r1, .int x2] [] M (f_X5_copy_10 r0 r1 f x2 M) := by
  intro f
  induction f with
  | zero => intros; exact x_none
  | succ f ih =>
    intro x2 M 
    rw [f_X5_copy_10]
    refine x_iload_n (i := 2) rfl hC (zdk dk_X5_copy 6 rfl) (q := 11) rfl ?_
    refine x_bipush (i := 6) c_bipush_6 hC (zdk dk_X5_copy 7 rfl) (q := 13) rfl ?_
    refine x_icmp_ge (tgt := 37) hC (zdk dk_X5_copy 8 rfl) (q := 16) rfl rfl (fun _ => ?_) (fun _ => ?_)
    · exact x_vret hE hC (zdk dk_X5_copy 20 rfl)
    · refine x_aload_n (i := 0) rfl hC (zdk dk_X5_copy 9 rfl) (q := 17) rfl ?_
      refine x_getR (k := 23) fl_RX5_11 rfl h_r0 hC (zdk dk_X5_copy 10 rfl) (q := 20) rfl (fun q1 hq1 => ?_)
      refine x_iload_n (i := 2) rfl hC (zdk dk_X5_copy 11 rfl) (q := 21) rfl ?_
      refine x_aald (kd := 23) (ke := 8) hq1 (by decide) rfl hC (zdk dk_X5_copy 12 rfl) (q := 22) rfl (fun k2 _ q3 hq3 => ?_)
      refine x_aload_n (i := 1) rfl hC (zdk dk_X5_copy 13 rfl) (q := 23) rfl ?_
      refine x_getR (k := 23) fl_RX5_11 rfl h_r1 hC (zdk dk_X5_copy 14 rfl) (q := 26) rfl (fun q4 hq4 => ?_)
      refine x_iload_n (i := 2) rfl hC (zdk dk_X5_copy 15 rfl) (q := 27) rfl ?_
      refine x_aald (kd := 23) (ke := 8) hq4 (by decide) rfl hC (zdk dk_X5_copy 16 rfl) (q := 28) rfl (fun k5 _ q6 hq6 => ?_)
      refine x_callVv (as := [.ref q6]) cb_RX5_27 rfl (by decide) hk0 hq3 (fun x hx => t_X8_copy hq3 hq6 x hx) hC (zdk dk_X5_copy 17 rfl) (q := 31) rfl rfl (Nat.le_of_ble_eq_true rfl) (fun M7 => ?_)
      refine x_iinc (i := 2) c_iconst_1 rfl (by decide) (L' := [.ref r0, .ref r1, .int (x2 + 1)]) rfl hC (zdk dk_X5_copy 18 rfl) (q := 34) rfl ?_
      refine x_goto (tgt := 10) hC (zdk dk_X5_copy 19 rfl) rfl ?_
      refine x_weak (L' := [.ref r0, .ref r1, .int (x2 + 1)]) ⟨Or.inr rfl, Or.inr rfl, Or.inr rfl, trivial⟩ ?_
      exact ih _ _
set_option maxRecDepth 100000 in
def f_X5_copy (r0 : Nat) (r1 : Nat) (M : Mem) : Option Mem := Option.bind (some (zsI M r0 1 (zI M r1 1))) fun M8 => f_X5_copy_10 r0 r1 1000000 0 M8
set_option maxRecDepth 100000 in
set_option maxHeartbeats 4000000 in
theorem x_X5_copy {κ : KX} {n : Nat} (hC : CX κ cX5_copy RX5 3 none 2) (hE : zEnd κ n (0, 0)) (hk0 : zRk κ (0, 0)) (r0 : Nat) (r1 : Nat) (M : Mem) (h_r0 : zO n r0 5) (h_r1 : zO n r1 5) : X κ 3 emV n (0, 0) 0 [.ref r0, .ref r1, .null] [] M (f_X5_copy r0 r1 M) := by
  unfold f_X5_copy
  refine x_aload_n (i := 0) rfl hC (zdk dk_X5_copy 0 rfl) (q := 1) rfl ?_
  refine x_aload_n (i := 1) rfl hC (zdk dk_X5_copy 1 rfl) (q := 2) rfl ?_
  refine x_getI fl_RX5_20 (by decide) h_r1 hC (zdk dk_X5_copy 2 rfl) (q := 5) rfl ?_
  refine x_putI fl_RX5_20 ⟨rfl, rfl⟩ (by decide) (Or.inl rfl) h_r0 hC (zdk dk_X5_copy 3 rfl) (q := 8) rfl ?_
  refine x_nmM (fun M8 => ?_)
  refine x_iconst (i := 0) c_iconst_0 hC (zdk dk_X5_copy 4 rfl) (q := 9) rfl ?_
  refine x_istore_n (i := 2) (L' := [.ref r0, .ref r1, .int 0]) (by decide) rfl hC (zdk dk_X5_copy 5 rfl) (q := 10) rfl ?_
  refine x_weak (L' := [.ref r0, .ref r1, .int 0]) ⟨Or.inr rfl, Or.inr rfl, Or.inr rfl, trivial⟩ ?_
  exact x_X5_copy_10 hC hE hk0 h_r0 h_r1 _ _ _
set_option maxRecDepth 100000 in
set_option maxHeartbeats 4000000 in
theorem t_X5_copy {n : Nat} {r0 : Nat} {r1 : Nat} {M : Mem} (h_r0 : zO n r0 5) (h_r1 : zO n r1 5) (x : Mem) (hx : f_X5_copy r0 r1 M = some x) (l : Launch) (dC : Nat → ClassId) (dI : Nat → Nat → Nat) (b : zSg) : MT l dC dI b yX5_copy cX5_copy 3 none 2 0 0 n n [.ref r0, .ref r1] M (emV x).1 (emV x).2 :=
  MT.ofX (by decide +kernel) rfl (Nat.le_of_ble_eq_true rfl) (fun κ hC hF _ => x_X5_copy hC (zEnd_of hF (Nat.le_refl _) (Nat.le_refl _)) (zRk_of hF (Nat.le_refl _) (Nat.le_refl _)) _ _ _ h_r0 h_r1) x hx
set_option maxRecDepth 100000 in
def dt_X5_writtenCount : List (Nat × Instr × Nat) := [(0, .iconst 0, 1), (1, .istore_n 1, 1), (2, .iconst 0, 1), (3, .istore_n 2, 1), (4, .iload_n 2, 1), (5, .bipush 6, 2), (7, .if_icmp .ge 29, 3), (10, .iload_n 1, 1), (11, .aload_n 0, 1), (12, .getfield 11, 3), (15, .iload_n 2, 1), (16, .aaload, 1), (17, .getfield 31, 3), (20, .ifCond .eq 7, 3), (23, .iconst 1, 1), (24, .goto 4, 3), (27, .iconst 0, 1), (28, .iadd, 1), (29, .istore_n 1, 1), (30, .iinc 2 1, 3), (33, .goto (-29), 3), (36, .iload_n 1, 1), (37, .ireturn, 1)]
set_option maxRecDepth 100000 in
theorem dk_X5_writtenCount : dt_X5_writtenCount.all (fun q => decide (decode cX5_writtenCount q.1 = .ok q.2)) = true := by decide +kernel
set_option maxRecDepth 100000 in
def f_X5_writtenCount_28 (k4 : Int32 → Int32 → Mem → Option (Int32 × Mem)) (r0 : Nat) (x2 : Int32) (s0 : Int32) (s1 : Int32) (M : Mem) : Option (Int32 × Mem) := k4 (s0 + s1) (x2 + 1) M
set_option maxRecDepth 100000 in
set_option maxHeartbeats 4000000 in
theorem x_X5_writtenCount_28 {κ : KX} {n : Nat} (hC : CX κ cX5_writtenCount RX5 3 (some .int) 0) (hE : zEnd κ n (0, 0)) (hk0 : zRk κ (0, 0)) {r0 : Nat} (h_r0 : zO n r0 5) (k4 : Int32 → Int32 → Mem → Option (Int32 × Mem)) (hk4 : ∀ (x1 : Int32) (x2 : Int32) (M : Mem), X κ 3 emI n (0, 0) 4 [.ref r0, .int x1, .int x2] [] M (k4 x1 x2 M)) (x2 : Int32) (s0 : Int32) (s1 : Int32) (M : Mem) : X κ 3 emI n (0, 0) 28 [.ref r0, .null, .int x2] [.int s1, .int s0] M (f_X5_writtenCount_28 k4 r0 x2 s0 s1 M) := by
  unfold f_X5_writtenCount_28
  refine x_iadd hC (zdk dk_X5_writtenCount 17 rfl) (q := 29) rfl ?_
  refine x_istore_n (i := 1) (L' := [.ref r0, .int (s0 + s1), .int x2]) (by decide) rfl hC (zdk dk_X5_writtenCount 18 rfl) (q := 30) rfl ?_
  refine x_iinc (i := 2) c_iconst_1 rfl (by decide) (L' := [.ref r0, .int (s0 + s1), .int (x2 + 1)]) rfl hC (zdk dk_X5_writtenCount 19 rfl) (q := 33) rfl ?_
  refine x_goto (tgt := 4) hC (zdk dk_X5_writtenCount 20 rfl) rfl ?_
  refine x_weak (L' := [.ref r0, .int (s0 + s1), .int (x2 + 1)]) ⟨Or.inr rfl, Or.inr rfl, Or.inr rfl, trivial⟩ ?_
  exact hk4 _ _ _
set_option maxRecDepth 100000 in
def f_X5_writtenCount_4  (r0 : Nat) : Nat → Int32 → Int32 → Mem → Option (Int32 × Mem)
  | 0, _, _, _ => none
  | f + 1, x1, x2, M => (if 6 ≤ x2 then some (x1, M) else Option.bind (zrf M r0 0) fun q1 => Option.bind (zld q1 x2) fun k2 => Option.bind (zrf M q1 k2) fun q3 => (if zI M q3 2 = 0 then f_X5_writtenCount_28 (f_X5_writtenCount_4 r0 f) r0 x2 x1 0 M else f_X5_writtenCount_28 (f_X5_writtenCount_4 r0 f) r0 x2 x1 1 M))
set_option maxRecDepth 100000 in
set_option maxHeartbeats 4000000 in
theorem x_X5_writtenCount_4 {κ : KX} {n : Nat} (hC : CX κ cX5_writtenCount RX5 3 (some .int) 0) (hE : zEnd κ n (0, 0)) (hk0 : zRk κ (0, 0)) {r0 : Nat} (h_r0 : zO n r0 5) : ∀ (f : Nat) (x1 : Int32) (x2 : Int32) (M : Mem), X κ 3 emI n (0, 0) 4 [.ref r0, .int x1, .int x2] [] M (f_X5_writtenCount_4 r0 f x1 x2 M) := by
  intro f
  induction f with
  | zero => intros; exact x_none
  | succ f ih =>
    intro x1 x2 M 
    rw [f_X5_writtenCount_4]
    refine x_iload_n (i := 2) rfl hC (zdk dk_X5_writtenCount 4 rfl) (q := 5) rfl ?_
    refine x_bipush (i := 6) c_bipush_6 hC (zdk dk_X5_writtenCount 5 rfl) (q := 7) rfl ?_
    refine x_icmp_ge (tgt := 36) hC (zdk dk_X5_writtenCount 6 rfl) (q := 10) rfl rfl (fun _ => ?_) (fun _ => ?_)
    · refine x_iload_n (i := 1) rfl hC (zdk dk_X5_writtenCount 21 rfl) (q := 37) rfl ?_
      exact x_iret (ty := .int) rfl hE hC (zdk dk_X5_writtenCount 22 rfl)
    · refine x_iload_n (i := 1) rfl hC (zdk dk_X5_writtenCount 7 rfl) (q := 11) rfl ?_
      refine x_aload_n (i := 0) rfl hC (zdk dk_X5_writtenCount 8 rfl) (q := 12) rfl ?_
      refine x_getR (k := 23) fl_RX5_11 rfl h_r0 hC (zdk dk_X5_writtenCount 9 rfl) (q := 15) rfl (fun q1 hq1 => ?_)
      refine x_iload_n (i := 2) rfl hC (zdk dk_X5_writtenCount 10 rfl) (q := 16) rfl ?_
      refine x_aald (kd := 23) (ke := 8) hq1 (by decide) rfl hC (zdk dk_X5_writtenCount 11 rfl) (q := 17) rfl (fun k2 _ q3 hq3 => ?_)
      refine x_getI fl_RX5_31 (by decide) hq3 hC (zdk dk_X5_writtenCount 12 rfl) (q := 20) rfl ?_
      refine x_if_eq (tgt := 27) hC (zdk dk_X5_writtenCount 13 rfl) (q := 23) rfl rfl (fun _ => ?_) (fun _ => ?_)
      · refine x_iconst (i := 0) c_iconst_0 hC (zdk dk_X5_writtenCount 16 rfl) (q := 28) rfl ?_
        refine x_weak (L' := [.ref r0, .null, .int x2]) ⟨Or.inr rfl, Or.inl rfl, Or.inr rfl, trivial⟩ ?_
        exact x_X5_writtenCount_28 hC hE hk0 h_r0 (f_X5_writtenCount_4 r0 f) ih _ _ _ _
      · refine x_iconst (i := 1) c_iconst_1 hC (zdk dk_X5_writtenCount 14 rfl) (q := 24) rfl ?_
        refine x_goto (tgt := 28) hC (zdk dk_X5_writtenCount 15 rfl) rfl ?_
        refine x_weak (L' := [.ref r0, .null, .int x2]) ⟨Or.inr rfl, Or.inl rfl, Or.inr rfl, trivial⟩ ?_
        exact x_X5_writtenCount_28 hC hE hk0 h_r0 (f_X5_writtenCount_4 r0 f) ih _ _ _ _
set_option maxRecDepth 100000 in
def f_X5_writtenCount (r0 : Nat) (M : Mem) : Option (Int32 × Mem) := f_X5_writtenCount_4 r0 1000000 0 0 M
set_option maxRecDepth 100000 in
set_option maxHeartbeats 4000000 in
theorem x_X5_writtenCount {κ : KX} {n : Nat} (hC : CX κ cX5_writtenCount RX5 3 (some .int) 0) (hE : zEnd κ n (0, 0)) (hk0 : zRk κ (0, 0)) (r0 : Nat) (M : Mem) (h_r0 : zO n r0 5) : X κ 3 emI n (0, 0) 0 [.ref r0, .null, .null] [] M (f_X5_writtenCount r0 M) := by
  unfold f_X5_writtenCount
  refine x_iconst (i := 0) c_iconst_0 hC (zdk dk_X5_writtenCount 0 rfl) (q := 1) rfl ?_
  refine x_istore_n (i := 1) (L' := [.ref r0, .int 0, .null]) (by decide) rfl hC (zdk dk_X5_writtenCount 1 rfl) (q := 2) rfl ?_
  refine x_iconst (i := 0) c_iconst_0 hC (zdk dk_X5_writtenCount 2 rfl) (q := 3) rfl ?_
  refine x_istore_n (i := 2) (L' := [.ref r0, .int 0, .int 0]) (by decide) rfl hC (zdk dk_X5_writtenCount 3 rfl) (q := 4) rfl ?_
  refine x_weak (L' := [.ref r0, .int 0, .int 0]) ⟨Or.inr rfl, Or.inr rfl, Or.inr rfl, trivial⟩ ?_
  exact x_X5_writtenCount_4 hC hE hk0 h_r0 _ _ _ _
set_option maxRecDepth 100000 in
set_option maxHeartbeats 4000000 in
theorem t_X5_writtenCount {n : Nat} {r0 : Nat} {M : Mem} (h_r0 : zO n r0 5) (x : (Int32 × Mem)) (hx : f_X5_writtenCount r0 M = some x) (l : Launch) (dC : Nat → ClassId) (dI : Nat → Nat → Nat) (b : zSg) : MT l dC dI b yX5_writtenCount cX5_writtenCount 3 (some .int) 0 0 0 n n [.ref r0] M (emI x).1 (emI x).2 :=
  MT.ofX (by decide +kernel) rfl (Nat.le_of_ble_eq_true rfl) (fun κ hC hF _ => x_X5_writtenCount hC (zEnd_of hF (Nat.le_refl _) (Nat.le_refl _)) (zRk_of hF (Nat.le_refl _) (Nat.le_refl _)) _ _ h_r0) x hx
