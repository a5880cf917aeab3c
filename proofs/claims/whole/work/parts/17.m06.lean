set_option maxRecDepth 100000 in
def dt_X11_chip : List (Nat × Instr × Nat) := [(0, .aload_n 0, 1), (1, .invokevirtual 112, 3), (4, .istore_n 1, 1), (5, .aload_n 0, 1), (6, .getfield 94, 3), (9, .iload_n 1, 1), (10, .aload_n 0, 1), (11, .getfield 86, 3), (14, .invokevirtual 116, 3), (17, .ifCond .ne 9, 3), (20, .aload_n 0, 1), (21, .iconst 1, 1), (22, .invokevirtual 105, 3), (25, .ireturn, 1), (26, .aload_n 0, 1), (27, .getfield 82, 3), (30, .astore_n 2, 1), (31, .aload_n 0, 1), (32, .aload_n 0, 1), (33, .getfield 86, 3), (36, .putfield 82, 3), (39, .aload_n 0, 1), (40, .aload_n 2, 1), (41, .putfield 86, 3), (44, .aload_n 0, 1), (45, .iconst 1, 1), (46, .putfield 120, 3), (49, .aload_n 0, 1), (50, .getfield 42, 3), (53, .invokevirtual 124, 3), (56, .aload_n 0, 1), (57, .getfield 61, 3), (60, .invokevirtual 127, 3), (63, .aload_n 0, 1), (64, .getfield 68, 3), (67, .invokevirtual 128, 3), (70, .aload_n 0, 1), (71, .getfield 26, 3), (74, .invokevirtual 129, 3), (77, .aload_n 0, 1), (78, .getfield 82, 3), (81, .getfield 132, 3), (84, .ireturn, 1)]
set_option maxRecDepth 100000 in
theorem dk_X11_chip : dt_X11_chip.all (fun q => decide (decode cX11_chip q.1 = .ok q.2)) = true := by decide +kernel
set_option maxRecDepth 100000 in
def f_X11_chip (r0 : Nat) (M : Mem) : Option (Int32 × Mem) := Option.bind (f_X11_takeTape r0 M) fun z1 => Option.bind (zrf z1.2 r0 13) fun q2 => Option.bind (zrf z1.2 r0 12) fun q3 => Option.bind (f_X6_reads q2 z1.1 q3 z1.2) fun z4 => (if z4.1 = 0 then Option.bind (f_X11_refuse r0 1 z4.2) fun z19 => some (z19.1, z19.2) else Option.bind (zrf z4.2 r0 11) fun q5 => Option.bind (zrf z4.2 r0 12) fun q6 => Option.bind (some (zsR z4.2 r0 11 (q6 + 1))) fun M7 => Option.bind (some (zsR M7 r0 12 (q5 + 1))) fun M8 => Option.bind (some (zsI M8 r0 14 1)) fun M9 => Option.bind (zrf M9 r0 5) fun q10 => Option.bind (f_X5_clear q10 M9) fun M11 => Option.bind (zrf M11 r0 8) fun q12 => Option.bind (f_X7_clear q12 M11) fun M13 => Option.bind (zrf M13 r0 9) fun q14 => Option.bind (f_X9_clear q14 M13) fun M15 => Option.bind (zrf M15 r0 3) fun q16 => Option.bind (f_X2_forget q16 M15) fun M17 => Option.bind (zrf M17 r0 11) fun q18 => some (zI M17 q18 8, M17))
set_option maxRecDepth 100000 in
set_option maxHeartbeats 4000000 in
theorem x_X11_chip {κ : KX} {n : Nat} (hC : CX κ cX11_chip RX11 3 (some .int) 127) (hE : zEnd κ n (0, 0)) (hk0 : zRk κ (0, 0)) (r0 : Nat) (M : Mem) (h_r0 : zO n r0 11) : X κ 3 emI n (0, 0) 0 [.ref r0, .null, .null] [] M (f_X11_chip r0 M) := by
  unfold f_X11_chip
  refine x_aload_n (i := 0) rfl hC (zdk dk_X11_chip 0 rfl) (q := 1) rfl ?_
  refine x_callVi (as := []) cb_RX11_112 rfl (by decide) hk0 h_r0 (fun x hx => t_X11_takeTape h_r0 x hx) hC (zdk dk_X11_chip 1 rfl) (q := 4) rfl rfl (Nat.le_of_ble_eq_true rfl) (fun z1 => ?_)
  refine x_istore_n (i := 1) (L' := [.ref r0, .int z1.1, .null]) (by decide) rfl hC (zdk dk_X11_chip 2 rfl) (q := 5) rfl ?_
  refine x_aload_n (i := 0) rfl hC (zdk dk_X11_chip 3 rfl) (q := 6) rfl ?_
  refine x_getR (k := 6) fl_RX11_94 rfl h_r0 hC (zdk dk_X11_chip 4 rfl) (q := 9) rfl (fun q2 hq2 => ?_)
  refine x_iload_n (i := 1) rfl hC (zdk dk_X11_chip 5 rfl) (q := 10) rfl ?_
  refine x_aload_n (i := 0) rfl hC (zdk dk_X11_chip 6 rfl) (q := 11) rfl ?_
  refine x_getR (k := 0) fl_RX11_86 rfl h_r0 hC (zdk dk_X11_chip 7 rfl) (q := 14) rfl (fun q3 hq3 => ?_)
  refine x_callVi (as := [.int z1.1, .ref q3]) cb_RX11_116 rfl (by decide) hk0 hq2 (fun x hx => t_X6_reads hq2 hq3 x hx) hC (zdk dk_X11_chip 8 rfl) (q := 17) rfl rfl (Nat.le_of_ble_eq_true rfl) (fun z4 => ?_)
  refine x_if_ne (tgt := 26) hC (zdk dk_X11_chip 9 rfl) (q := 20) rfl rfl (fun _ => ?_) (fun _ => ?_)
  · refine x_aload_n (i := 0) rfl hC (zdk dk_X11_chip 14 rfl) (q := 27) rfl ?_
    refine x_getR (k := 0) fl_RX11_82 rfl h_r0 hC (zdk dk_X11_chip 15 rfl) (q := 30) rfl (fun q5 hq5 => ?_)
    refine x_astore_n (i := 2) (L' := [.ref r0, .int z1.1, .ref q5]) (by decide) rfl hC (zdk dk_X11_chip 16 rfl) (q := 31) rfl ?_
    refine x_aload_n (i := 0) rfl hC (zdk dk_X11_chip 17 rfl) (q := 32) rfl ?_
    refine x_aload_n (i := 0) rfl hC (zdk dk_X11_chip 18 rfl) (q := 33) rfl ?_
    refine x_getR (k := 0) fl_RX11_86 rfl h_r0 hC (zdk dk_X11_chip 19 rfl) (q := 36) rfl (fun q6 hq6 => ?_)
    refine x_putR (k := 0) fl_RX11_82 (fun _ => ⟨rfl, rfl⟩) rfl hq6 (Or.inl rfl) h_r0 hC (zdk dk_X11_chip 20 rfl) (q := 39) rfl ?_
    refine x_nmM (fun M7 => ?_)
    refine x_aload_n (i := 0) rfl hC (zdk dk_X11_chip 21 rfl) (q := 40) rfl ?_
    refine x_aload_n (i := 2) rfl hC (zdk dk_X11_chip 22 rfl) (q := 41) rfl ?_
    refine x_putR (k := 0) fl_RX11_86 (fun _ => ⟨rfl, rfl⟩) rfl hq5 (Or.inl rfl) h_r0 hC (zdk dk_X11_chip 23 rfl) (q := 44) rfl ?_
    refine x_nmM (fun M8 => ?_)
    refine x_aload_n (i := 0) rfl hC (zdk dk_X11_chip 24 rfl) (q := 45) rfl ?_
    refine x_iconst (i := 1) c_iconst_1 hC (zdk dk_X11_chip 25 rfl) (q := 46) rfl ?_
    refine x_putI fl_RX11_120 ⟨rfl, rfl⟩ (by decide) (Or.inl rfl) h_r0 hC (zdk dk_X11_chip 26 rfl) (q := 49) rfl ?_
    refine x_nmM (fun M9 => ?_)
    refine x_aload_n (i := 0) rfl hC (zdk dk_X11_chip 27 rfl) (q := 50) rfl ?_
    refine x_getR (k := 5) fl_RX11_42 rfl h_r0 hC (zdk dk_X11_chip 28 rfl) (q := 53) rfl (fun q10 hq10 => ?_)
    refine x_callVv (as := []) cb_RX11_124 rfl (by decide) hk0 hq10 (fun x hx => t_X5_clear hq10 x hx) hC (zdk dk_X11_chip 29 rfl) (q := 56) rfl rfl (Nat.le_of_ble_eq_true rfl) (fun M11 => ?_)
    refine x_aload_n (i := 0) rfl hC (zdk dk_X11_chip 30 rfl) (q := 57) rfl ?_
    refine x_getR (k := 7) fl_RX11_61 rfl h_r0 hC (zdk dk_X11_chip 31 rfl) (q := 60) rfl (fun q12 hq12 => ?_)
    refine x_callVv (as := []) cb_RX11_127 rfl (by decide) hk0 hq12 (fun x hx => t_X7_clear hq12 x hx) hC (zdk dk_X11_chip 32 rfl) (q := 63) rfl rfl (Nat.le_of_ble_eq_true rfl) (fun M13 => ?_)
    refine x_aload_n (i := 0) rfl hC (zdk dk_X11_chip 33 rfl) (q := 64) rfl ?_
    refine x_getR (k := 9) fl_RX11_68 rfl h_r0 hC (zdk dk_X11_chip 34 rfl) (q := 67) rfl (fun q14 hq14 => ?_)
    refine x_callVv (as := []) cb_RX11_128 rfl (by decide) hk0 hq14 (fun x hx => t_X9_clear hq14 x hx) hC (zdk dk_X11_chip 35 rfl) (q := 70) rfl rfl (Nat.le_of_ble_eq_true rfl) (fun M15 => ?_)
    refine x_aload_n (i := 0) rfl hC (zdk dk_X11_chip 36 rfl) (q := 71) rfl ?_
    refine x_getR (k := 2) fl_RX11_26 rfl h_r0 hC (zdk dk_X11_chip 37 rfl) (q := 74) rfl (fun q16 hq16 => ?_)
    refine x_callVv (as := []) cb_RX11_129 rfl (by decide) hk0 hq16 (fun x hx => t_X2_forget hq16 x hx) hC (zdk dk_X11_chip 38 rfl) (q := 77) rfl rfl (Nat.le_of_ble_eq_true rfl) (fun M17 => ?_)
    refine x_aload_n (i := 0) rfl hC (zdk dk_X11_chip 39 rfl) (q := 78) rfl ?_
    refine x_getR (k := 0) fl_RX11_82 rfl h_r0 hC (zdk dk_X11_chip 40 rfl) (q := 81) rfl (fun q18 hq18 => ?_)
    refine x_getI fl_RX11_132 (by decide) hq18 hC (zdk dk_X11_chip 41 rfl) (q := 84) rfl ?_
    exact x_iret (ty := .int) rfl hE hC (zdk dk_X11_chip 42 rfl)
  · refine x_aload_n (i := 0) rfl hC (zdk dk_X11_chip 10 rfl) (q := 21) rfl ?_
    refine x_iconst (i := 1) c_iconst_1 hC (zdk dk_X11_chip 11 rfl) (q := 22) rfl ?_
    refine x_callVi (as := [.int 1]) cb_RX11_105 rfl (by decide) hk0 h_r0 (fun x hx => t_X11_refuse h_r0 x hx) hC (zdk dk_X11_chip 12 rfl) (q := 25) rfl rfl (Nat.le_of_ble_eq_true rfl) (fun z19 => ?_)
    exact x_iret (ty := .int) rfl hE hC (zdk dk_X11_chip 13 rfl)
set_option maxRecDepth 100000 in
set_option maxHeartbeats 4000000 in
theorem t_X11_chip {n : Nat} {r0 : Nat} {M : Mem} (h_r0 : zO n r0 11) (x : (Int32 × Mem)) (hx : f_X11_chip r0 M = some x) (l : Launch) (dC : Nat → ClassId) (dI : Nat → Nat → Nat) (b : zSg) : MT l dC dI b yX11_chip cX11_chip 3 (some .int) 127 0 0 n n [.ref r0] M (emI x).1 (emI x).2 :=
  MT.ofX (by decide +kernel) rfl (Nat.le_of_ble_eq_true rfl) (fun κ hC hF _ => x_X11_chip hC (zEnd_of hF (Nat.le_refl _) (Nat.le_refl _)) (zRk_of hF (Nat.le_refl _) (Nat.le_refl _)) _ _ h_r0) x hx
set_option maxRecDepth 100000 in
def dt_X11_fault : List (Nat × Instr × Nat) := [(0, .iload_n 1, 1), (1, .ifCond .ne 11, 3), (4, .aload_n 0, 1), (5, .getfield 94, 3), (8, .getfield 135, 3), (11, .ireturn, 1), (12, .iload_n 1, 1), (13, .iconst 1, 1), (14, .if_icmp .ne 23, 3), (17, .aload_n 0, 1), (18, .getfield 94, 3), (21, .getfield 135, 3), (24, .ifCond .eq 13, 3), (27, .aload_n 0, 1), (28, .getfield 94, 3), (31, .getfield 138, 3), (34, .goto 4, 3), (37, .iconst (-1), 1), (38, .ireturn, 1)]
set_option maxRecDepth 100000 in
theorem dk_X11_fault : dt_X11_fault.all (fun q => decide (decode cX11_fault q.1 = .ok q.2)) = true := by decide +kernel
set_option maxRecDepth 100000 in
def f_X11_fault_38  (r0 : Nat) (x1 : Int32) (s0 : Int32) (M : Mem) : Option (Int32 × Mem) := some (s0, M)
set_option maxRecDepth 100000 in
set_option maxHeartbeats 4000000 in
theorem x_X11_fault_38 {κ : KX} {n : Nat} (hC : CX κ cX11_fault RX11 2 (some .int) 0) (hE : zEnd κ n (0, 0)) (hk0 : zRk κ (0, 0)) {r0 : Nat} {x1 : Int32} (h_r0 : zO n r0 11) (s0 : Int32) (M : Mem) : X κ 2 emI n (0, 0) 38 [.null, .null] [.int s0] M (f_X11_fault_38 r0 x1 s0 M) := by
  unfold f_X11_fault_38
  exact x_iret (ty := .int) rfl hE hC (zdk dk_X11_fault 18 rfl)
set_option maxRecDepth 100000 in
def f_X11_fault_37  (r0 : Nat) (x1 : Int32)  (M : Mem) : Option (Int32 × Mem) := f_X11_fault_38 r0 x1 ((-1)) M
set_option maxRecDepth 100000 in
set_option maxHeartbeats 4000000 in
theorem x_X11_fault_37 {κ : KX} {n : Nat} (hC : CX κ cX11_fault RX11 2 (some .int) 0) (hE : zEnd κ n (0, 0)) (hk0 : zRk κ (0, 0)) {r0 : Nat} {x1 : Int32} (h_r0 : zO n r0 11) (M : Mem) : X κ 2 emI n (0, 0) 37 [.null, .null] [] M (f_X11_fault_37 r0 x1 M) := by
  unfold f_X11_fault_37
  refine x_iconst (i := (-1)) c_iconst_m1 hC (zdk dk_X11_fault 17 rfl) (q := 38) rfl ?_
  refine x_weak (L' := [.null, .null]) ⟨Or.inl rfl, Or.inl rfl, trivial⟩ ?_
  exact x_X11_fault_38 hC hE hk0 h_r0 _ _
set_option maxRecDepth 100000 in
def f_X11_fault (r0 : Nat) (x1 : Int32) (M : Mem) : Option (Int32 × Mem) := (if x1 = 0 then Option.bind (zrf M r0 13) fun q3 => some (zI M q3 4, M) else (if x1 = 1 then Option.bind (zrf M r0 13) fun q1 => (if zI M q1 4 = 0 then f_X11_fault_37 r0 x1 M else Option.bind (zrf M r0 13) fun q2 => f_X11_fault_38 r0 x1 (zI M q2 5) M) else f_X11_fault_37 r0 x1 M))
set_option maxRecDepth 100000 in
set_option maxHeartbeats 4000000 in
theorem x_X11_fault {κ : KX} {n : Nat} (hC : CX κ cX11_fault RX11 2 (some .int) 0) (hE : zEnd κ n (0, 0)) (hk0 : zRk κ (0, 0)) (r0 : Nat) (x1 : Int32) (M : Mem) (h_r0 : zO n r0 11) : X κ 2 emI n (0, 0) 0 [.ref r0, .int x1] [] M (f_X11_fault r0 x1 M) := by
  unfold f_X11_fault
  refine x_iload_n (i := 1) rfl hC (zdk dk_X11_fault 0 rfl) (q := 1) rfl ?_
  refine x_if_ne (tgt := 12) hC (zdk dk_X11_fault 1 rfl) (q := 4) rfl rfl (fun _ => ?_) (fun _ => ?_)
  · refine x_iload_n (i := 1) rfl hC (zdk dk_X11_fault 6 rfl) (q := 13) rfl ?_
    refine x_iconst (i := 1) c_iconst_1 hC (zdk dk_X11_fault 7 rfl) (q := 14) rfl ?_
    refine x_icmp_ne (tgt := 37) hC (zdk dk_X11_fault 8 rfl) (q := 17) rfl rfl (fun _ => ?_) (fun _ => ?_)
    · refine x_weak (L' := [.null, .null]) ⟨Or.inl rfl, Or.inl rfl, trivial⟩ ?_
      exact x_X11_fault_37 hC hE hk0 h_r0 _
    · refine x_aload_n (i := 0) rfl hC (zdk dk_X11_fault 9 rfl) (q := 18) rfl ?_
      refine x_getR (k := 6) fl_RX11_94 rfl h_r0 hC (zdk dk_X11_fault 10 rfl) (q := 21) rfl (fun q1 hq1 => ?_)
      refine x_getI fl_RX11_135 (by decide) hq1 hC (zdk dk_X11_fault 11 rfl) (q := 24) rfl ?_
      refine x_if_eq (tgt := 37) hC (zdk dk_X11_fault 12 rfl) (q := 27) rfl rfl (fun _ => ?_) (fun _ => ?_)
      · refine x_weak (L' := [.null, .null]) ⟨Or.inl rfl, Or.inl rfl, trivial⟩ ?_
        exact x_X11_fault_37 hC hE hk0 h_r0 _
      · refine x_aload_n (i := 0) rfl hC (zdk dk_X11_fault 13 rfl) (q := 28) rfl ?_
        refine x_getR (k := 6) fl_RX11_94 rfl h_r0 hC (zdk dk_X11_fault 14 rfl) (q := 31) rfl (fun q2 hq2 => ?_)
        refine x_getI fl_RX11_138 (by decide) hq2 hC (zdk dk_X11_fault 15 rfl) (q := 34) rfl ?_
        refine x_goto (tgt := 38) hC (zdk dk_X11_fault 16 rfl) rfl ?_
        refine x_weak (L' := [.null, .null]) ⟨Or.inl rfl, Or.inl rfl, trivial⟩ ?_
        exact x_X11_fault_38 hC hE hk0 h_r0 _ _
  · refine x_aload_n (i := 0) rfl hC (zdk dk_X11_fault 2 rfl) (q := 5) rfl ?_
    refine x_getR (k := 6) fl_RX11_94 rfl h_r0 hC (zdk dk_X11_fault 3 rfl) (q := 8) rfl (fun q3 hq3 => ?_)
    refine x_getI fl_RX11_135 (by decide) hq3 hC (zdk dk_X11_fault 4 rfl) (q := 11) rfl ?_
    exact x_iret (ty := .int) rfl hE hC (zdk dk_X11_fault 5 rfl)
set_option maxRecDepth 100000 in
set_option maxHeartbeats 4000000 in
theorem t_X11_fault {n : Nat} {r0 : Nat} {x1 : Int32} {M : Mem} (h_r0 : zO n r0 11) (x : (Int32 × Mem)) (hx : f_X11_fault r0 x1 M = some x) (l : Launch) (dC : Nat → ClassId) (dI : Nat → Nat → Nat) (b : zSg) : MT l dC dI b yX11_fault cX11_fault 2 (some .int) 0 0 0 n n [.ref r0, .int x1] M (emI x).1 (emI x).2 :=
  MT.ofX (by decide +kernel) rfl (Nat.le_of_ble_eq_true rfl) (fun κ hC hF _ => x_X11_fault hC (zEnd_of hF (Nat.le_refl _) (Nat.le_refl _)) (zRk_of hF (Nat.le_refl _) (Nat.le_refl _)) _ _ _ h_r0) x hx
set_option maxRecDepth 100000 in
def dt_X11_has : List (Nat × Instr × Nat) := [(0, .iload_n 1, 1), (1, .ifCond .lt 9, 3), (4, .iload_n 1, 1), (5, .bipush 10, 2), (7, .if_icmp .le 5, 3), (10, .iconst (-1), 1), (11, .ireturn, 1), (12, .iload_n 1, 1), (13, .bipush 10, 2), (15, .if_icmp .ne 8, 3), (18, .aload_n 0, 1), (19, .getfield 98, 3), (22, .ireturn, 1), (23, .aload_n 0, 1), (24, .getfield 120, 3), (27, .ifCond .ne 5, 3), (30, .iconst 0, 1), (31, .ireturn, 1), (32, .aload_n 0, 1), (33, .getfield 82, 3), (36, .getfield 141, 3), (39, .astore_n 2, 1), (40, .iload_n 1, 1), (41, .tableswitch 111 0 8 #[51, 56, 61, 66, 71, 79, 87, 95, 103], 51), (92, .aload_n 2, 1), (93, .getfield 145, 3), (96, .ireturn, 1), (97, .aload_n 2, 1), (98, .getfield 150, 3), (101, .ireturn, 1), (102, .aload_n 2, 1), (103, .getfield 153, 3), (106, .ireturn, 1), (107, .aload_n 2, 1), (108, .getfield 156, 3), (111, .ireturn, 1), (112, .aload_n 0, 1), (113, .getfield 82, 3), (116, .getfield 159, 3), (119, .ireturn, 1), (120, .aload_n 0, 1), (121, .getfield 42, 3), (124, .invokevirtual 161, 3), (127, .ireturn, 1), (128, .aload_n 0, 1), (129, .getfield 42, 3), (132, .getfield 164, 3), (135, .ireturn, 1), (136, .aload_n 0, 1), (137, .getfield 61, 3), (140, .invokevirtual 167, 3), (143, .ireturn, 1), (144, .aload_n 0, 1), (145, .getfield 68, 3), (148, .getfield 170, 3), (151, .ireturn, 1), (152, .aload_n 0, 1), (153, .getfield 61, 3), (156, .getfield 173, 3), (159, .ireturn, 1)]
set_option maxRecDepth 100000 in
theorem dk_X11_has : dt_X11_has.all (fun q => decide (decode cX11_has q.1 = .ok q.2)) = true := by decide +kernel
set_option maxRecDepth 100000 in
def f_X11_has_10  (r0 : Nat) (x1 : Int32)  (M : Mem) : Option (Int32 × Mem) := some ((-1), M)
set_option maxRecDepth 100000 in
set_option maxHeartbeats 4000000 in
theorem x_X11_has_10 {κ : KX} {n : Nat} (hC : CX κ cX11_has RX11 3 (some .int) 2) (hE : zEnd κ n (0, 0)) (hk0 : zRk κ (0, 0)) {r0 : Nat} {x1 : Int32} (h_r0 : zO n r0 11) (M : Mem) : X κ 3 emI n (0, 0) 10 [.null, .null, .null] [] M (f_X11_has_10 r0 x1 M) := by
  unfold f_X11_has_10
  refine x_iconst (i := (-1)) c_iconst_m1 hC (zdk dk_X11_has 5 rfl) (q := 11) rfl ?_
  exact x_iret (ty := .int) rfl hE hC (zdk dk_X11_has 6 rfl)
set_option maxRecDepth 100000 in
def f_X11_has (r0 : Nat) (x1 : Int32) (M : Mem) : Option (Int32 × Mem) := (if x1 < 0 then f_X11_has_10 r0 x1 M else (if x1 ≤ 10 then (if x1 = 10 then some (zI M r0 16, M) else (if zI M r0 14 = 0 then some (0, M) else Option.bind (zrf M r0 11) fun q1 => Option.bind (zrf M q1 0) fun q2 => (if x1 = 0 then some (zI M q2 7, M) else if x1 = 1 then some (zI M q2 9, M) else if x1 = 2 then some (zI M q2 10, M) else if x1 = 3 then some (zI M q2 11, M) else if x1 = 4 then Option.bind (zrf M r0 11) fun q8 => some (zI M q8 9, M) else if x1 = 5 then Option.bind (zrf M r0 5) fun q10 => Option.bind (f_X5_writtenCount q10 M) fun z11 => some (z11.1, z11.2) else if x1 = 6 then Option.bind (zrf M r0 5) fun q13 => some (zI M q13 1, M) else if x1 = 7 then Option.bind (zrf M r0 8) fun q15 => Option.bind (f_X7_told q15 M) fun z16 => some (z16.1, z16.2) else if x1 = 8 then Option.bind (zrf M r0 9) fun q18 => some (zI M q18 5, M) else Option.bind (zrf M r0 8) fun q19 => some (zI M q19 3, M)))) else f_X11_has_10 r0 x1 M))
set_option maxRecDepth 100000 in
set_option maxHeartbeats 4000000 in
theorem x_X11_has {κ : KX} {n : Nat} (hC : CX κ cX11_has RX11 3 (some .int) 2) (hE : zEnd κ n (0, 0)) (hk0 : zRk κ (0, 0)) (r0 : Nat) (x1 : Int32) (M : Mem) (h_r0 : zO n r0 11) : X κ 3 emI n (0, 0) 0 [.ref r0, .int x1, .null] [] M (f_X11_has r0 x1 M) := by
  unfold f_X11_has
  refine x_iload_n (i := 1) rfl hC (zdk dk_X11_has 0 rfl) (q := 1) rfl ?_
  refine x_if_lt (tgt := 10) hC (zdk dk_X11_has 1 rfl) (q := 4) rfl rfl (fun _ => ?_) (fun _ => ?_)
  · refine x_weak (L' := [.null, .null, .null]) ⟨Or.inl rfl, Or.inl rfl, Or.inl rfl, trivial⟩ ?_
    exact x_X11_has_10 hC hE hk0 h_r0 _
  · refine x_iload_n (i := 1) rfl hC (zdk dk_X11_has 2 rfl) (q := 5) rfl ?_
    refine x_bipush (i := 10) c_bipush_10 hC (zdk dk_X11_has 3 rfl) (q := 7) rfl ?_
    refine x_icmp_le (tgt := 12) hC (zdk dk_X11_has 4 rfl) (q := 10) rfl rfl (fun _ => ?_) (fun _ => ?_)
    · refine x_iload_n (i := 1) rfl hC (zdk dk_X11_has 7 rfl) (q := 13) rfl ?_
      refine x_bipush (i := 10) c_bipush_10 hC (zdk dk_X11_has 8 rfl) (q := 15) rfl ?_
      refine x_icmp_ne (tgt := 23) hC (zdk dk_X11_has 9 rfl) (q := 18) rfl rfl (fun _ => ?_) (fun _ => ?_)
      · refine x_aload_n (i := 0) rfl hC (zdk dk_X11_has 13 rfl) (q := 24) rfl ?_
        refine x_getI fl_RX11_120 (by decide) h_r0 hC (zdk dk_X11_has 14 rfl) (q := 27) rfl ?_
        refine x_if_ne (tgt := 32) hC (zdk dk_X11_has 15 rfl) (q := 30) rfl rfl (fun _ => ?_) (fun _ => ?_)
        · refine x_aload_n (i := 0) rfl hC (zdk dk_X11_has 18 rfl) (q := 33) rfl ?_
          refine x_getR (k := 0) fl_RX11_82 rfl h_r0 hC (zdk dk_X11_has 19 rfl) (q := 36) rfl (fun q1 hq1 => ?_)
          refine x_getR (k := 1) fl_RX11_141 rfl hq1 hC (zdk dk_X11_has 20 rfl) (q := 39) rfl (fun q2 hq2 => ?_)
          refine x_astore_n (i := 2) (L' := [.ref r0, .int x1, .ref q2]) (by decide) rfl hC (zdk dk_X11_has 21 rfl) (q := 40) rfl ?_
          refine x_iload_n (i := 1) rfl hC (zdk dk_X11_has 22 rfl) (q := 41) rfl ?_
          refine x_tsIn (v := 0) (off := 51) (tgt := 92) hC (zdk dk_X11_has 23 rfl) (by decide) ?_ (fun ht3 => ?_)
          · refine x_aload_n (i := 2) rfl hC (zdk dk_X11_has 24 rfl) (q := 93) rfl ?_
            refine x_getI fl_RX11_145 (by decide) hq2 hC (zdk dk_X11_has 25 rfl) (q := 96) rfl ?_
            exact x_iret (ty := .int) rfl hE hC (zdk dk_X11_has 26 rfl)
          refine x_tsIn (v := 1) (off := 56) (tgt := 97) hC (zdk dk_X11_has 23 rfl) (by decide) ?_ (fun ht4 => ?_)
          · refine x_aload_n (i := 2) rfl hC (zdk dk_X11_has 27 rfl) (q := 98) rfl ?_
            refine x_getI fl_RX11_150 (by decide) hq2 hC (zdk dk_X11_has 28 rfl) (q := 101) rfl ?_
            exact x_iret (ty := .int) rfl hE hC (zdk dk_X11_has 29 rfl)
          refine x_tsIn (v := 2) (off := 61) (tgt := 102) hC (zdk dk_X11_has 23 rfl) (by decide) ?_ (fun ht5 => ?_)
          · refine x_aload_n (i := 2) rfl hC (zdk dk_X11_has 30 rfl) (q := 103) rfl ?_
            refine x_getI fl_RX11_153 (by decide) hq2 hC (zdk dk_X11_has 31 rfl) (q := 106) rfl ?_
            exact x_iret (ty := .int) rfl hE hC (zdk dk_X11_has 32 rfl)
          refine x_tsIn (v := 3) (off := 66) (tgt := 107) hC (zdk dk_X11_has 23 rfl) (by decide) ?_ (fun ht6 => ?_)
          · refine x_aload_n (i := 2) rfl hC (zdk dk_X11_has 33 rfl) (q := 108) rfl ?_
            refine x_getI fl_RX11_156 (by decide) hq2 hC (zdk dk_X11_has 34 rfl) (q := 111) rfl ?_
            exact x_iret (ty := .int) rfl hE hC (zdk dk_X11_has 35 rfl)
          refine x_tsIn (v := 4) (off := 71) (tgt := 112) hC (zdk dk_X11_has 23 rfl) (by decide) ?_ (fun ht7 => ?_)
          · refine x_aload_n (i := 0) rfl hC (zdk dk_X11_has 36 rfl) (q := 113) rfl ?_
            refine x_getR (k := 0) fl_RX11_82 rfl h_r0 hC (zdk dk_X11_has 37 rfl) (q := 116) rfl (fun q8 hq8 => ?_)
            refine x_getI fl_RX11_159 (by decide) hq8 hC (zdk dk_X11_has 38 rfl) (q := 119) rfl ?_
            exact x_iret (ty := .int) rfl hE hC (zdk dk_X11_has 39 rfl)
          refine x_tsIn (v := 5) (off := 79) (tgt := 120) hC (zdk dk_X11_has 23 rfl) (by decide) ?_ (fun ht9 => ?_)
          · refine x_aload_n (i := 0) rfl hC (zdk dk_X11_has 40 rfl) (q := 121) rfl ?_
            refine x_getR (k := 5) fl_RX11_42 rfl h_r0 hC (zdk dk_X11_has 41 rfl) (q := 124) rfl (fun q10 hq10 => ?_)
            refine x_callVi (as := []) cb_RX11_161 rfl (by decide) hk0 hq10 (fun x hx => t_X5_writtenCount hq10 x hx) hC (zdk dk_X11_has 42 rfl) (q := 127) rfl rfl (Nat.le_of_ble_eq_true rfl) (fun z11 => ?_)
            exact x_iret (ty := .int) rfl hE hC (zdk dk_X11_has 43 rfl)
          refine x_tsIn (v := 6) (off := 87) (tgt := 128) hC (zdk dk_X11_has 23 rfl) (by decide) ?_ (fun ht12 => ?_)
          · refine x_aload_n (i := 0) rfl hC (zdk dk_X11_has 44 rfl) (q := 129) rfl ?_
            refine x_getR (k := 5) fl_RX11_42 rfl h_r0 hC (zdk dk_X11_has 45 rfl) (q := 132) rfl (fun q13 hq13 => ?_)
            refine x_getI fl_RX11_164 (by decide) hq13 hC (zdk dk_X11_has 46 rfl) (q := 135) rfl ?_
            exact x_iret (ty := .int) rfl hE hC (zdk dk_X11_has 47 rfl)
          refine x_tsIn (v := 7) (off := 95) (tgt := 136) hC (zdk dk_X11_has 23 rfl) (by decide) ?_ (fun ht14 => ?_)
          · refine x_aload_n (i := 0) rfl hC (zdk dk_X11_has 48 rfl) (q := 137) rfl ?_
            refine x_getR (k := 7) fl_RX11_61 rfl h_r0 hC (zdk dk_X11_has 49 rfl) (q := 140) rfl (fun q15 hq15 => ?_)
            refine x_callVi (as := []) cb_RX11_167 rfl (by decide) hk0 hq15 (fun x hx => t_X7_told hq15 x hx) hC (zdk dk_X11_has 50 rfl) (q := 143) rfl rfl (Nat.le_of_ble_eq_true rfl) (fun z16 => ?_)
            exact x_iret (ty := .int) rfl hE hC (zdk dk_X11_has 51 rfl)
          refine x_tsIn (v := 8) (off := 103) (tgt := 144) hC (zdk dk_X11_has 23 rfl) (by decide) ?_ (fun ht17 => ?_)
          · refine x_aload_n (i := 0) rfl hC (zdk dk_X11_has 52 rfl) (q := 145) rfl ?_
            refine x_getR (k := 9) fl_RX11_68 rfl h_r0 hC (zdk dk_X11_has 53 rfl) (q := 148) rfl (fun q18 hq18 => ?_)
            refine x_getI fl_RX11_170 (by decide) hq18 hC (zdk dk_X11_has 54 rfl) (q := 151) rfl ?_
            exact x_iret (ty := .int) rfl hE hC (zdk dk_X11_has 55 rfl)
          refine x_tsOut (tgt := 152) [0, 1, 2, 3, 4, 5, 6, 7, 8] hC (zdk dk_X11_has 23 rfl) (List.forall_mem_cons.2 ⟨ht3, (List.forall_mem_cons.2 ⟨ht4, (List.forall_mem_cons.2 ⟨ht5, (List.forall_mem_cons.2 ⟨ht6, (List.forall_mem_cons.2 ⟨ht7, (List.forall_mem_cons.2 ⟨ht9, (List.forall_mem_cons.2 ⟨ht12, (List.forall_mem_cons.2 ⟨ht14, (List.forall_mem_cons.2 ⟨ht17, (fun _ h => absurd h List.not_mem_nil)⟩)⟩)⟩)⟩)⟩)⟩)⟩)⟩)⟩) (by decide) rfl ?_
          refine x_aload_n (i := 0) rfl hC (zdk dk_X11_has 56 rfl) (q := 153) rfl ?_
          refine x_getR (k := 7) fl_RX11_61 rfl h_r0 hC (zdk dk_X11_has 57 rfl) (q := 156) rfl (fun q19 hq19 => ?_)
          refine x_getI fl_RX11_173 (by decide) hq19 hC (zdk dk_X11_has 58 rfl) (q := 159) rfl ?_
          exact x_iret (ty := .int) rfl hE hC (zdk dk_X11_has 59 rfl)
        · refine x_iconst (i := 0) c_iconst_0 hC (zdk dk_X11_has 16 rfl) (q := 31) rfl ?_
          exact x_iret (ty := .int) rfl hE hC (zdk dk_X11_has 17 rfl)
      · refine x_aload_n (i := 0) rfl hC (zdk dk_X11_has 10 rfl) (q := 19) rfl ?_
        refine x_getI fl_RX11_98 (by decide) h_r0 hC (zdk dk_X11_has 11 rfl) (q := 22) rfl ?_
        exact x_iret (ty := .int) rfl hE hC (zdk dk_X11_has 12 rfl)
    · refine x_weak (L' := [.null, .null, .null]) ⟨Or.inl rfl, Or.inl rfl, Or.inl rfl, trivial⟩ ?_
      exact x_X11_has_10 hC hE hk0 h_r0 _
set_option maxRecDepth 100000 in
set_option maxHeartbeats 4000000 in
theorem t_X11_has {n : Nat} {r0 : Nat} {x1 : Int32} {M : Mem} (h_r0 : zO n r0 11) (x : (Int32 × Mem)) (hx : f_X11_has r0 x1 M = some x) (l : Launch) (dC : Nat → ClassId) (dI : Nat → Nat → Nat) (b : zSg) : MT l dC dI b yX11_has cX11_has 3 (some .int) 2 0 0 n n [.ref r0, .int x1] M (emI x).1 (emI x).2 :=
  MT.ofX (by decide +kernel) rfl (Nat.le_of_ble_eq_true rfl) (fun κ hC hF _ => x_X11_has hC (zEnd_of hF (Nat.le_refl _) (Nat.le_refl _)) (zRk_of hF (Nat.le_refl _) (Nat.le_refl _)) _ _ _ h_r0) x hx
set_option maxRecDepth 100000 in
def dt_X11_isPage : List (Nat × Instr × Nat) := [(0, .aload_n 0, 1), (1, .getfield 120, 3), (4, .ifCond .eq 22, 3), (7, .iload_n 1, 1), (8, .ifCond .lt 18, 3), (11, .iload_n 1, 1), (12, .aload_n 0, 1), (13, .getfield 82, 3), (16, .getfield 159, 3), (19, .if_icmp .ge 7, 3), (22, .iconst 1, 1), (23, .goto 4, 3), (26, .iconst 0, 1), (27, .ireturn, 1)]
set_option maxRecDepth 100000 in
theorem dk_X11_isPage : dt_X11_isPage.all (fun q => decide (decode cX11_isPage q.1 = .ok q.2)) = true := by decide +kernel
set_option maxRecDepth 100000 in
def f_X11_isPage_27  (r0 : Nat) (x1 : Int32) (s0 : Int32) (M : Mem) : Option (Int32 × Mem) := zbz s0 (some (s0, M))
set_option maxRecDepth 100000 in
set_option maxHeartbeats 4000000 in
theorem x_X11_isPage_27 {κ : KX} {n : Nat} (hC : CX κ cX11_isPage RX11 2 (some .boolean) 0) (hE : zEnd κ n (0, 0)) (hk0 : zRk κ (0, 0)) {r0 : Nat} {x1 : Int32} (h_r0 : zO n r0 11) (s0 : Int32) (M : Mem) : X κ 2 emI n (0, 0) 27 [.null, .null] [.int s0] M (f_X11_isPage_27 r0 x1 s0 M) := by
  unfold f_X11_isPage_27
  refine x_bz (fun hb1 => ?_)
  exact x_iret (ty := .boolean) hb1.1 hE hC (zdk dk_X11_isPage 13 rfl)
set_option maxRecDepth 100000 in
def f_X11_isPage_26  (r0 : Nat) (x1 : Int32)  (M : Mem) : Option (Int32 × Mem) := f_X11_isPage_27 r0 x1 0 M
set_option maxRecDepth 100000 in
set_option maxHeartbeats 4000000 in
theorem x_X11_isPage_26 {κ : KX} {n : Nat} (hC : CX κ cX11_isPage RX11 2 (some .boolean) 0) (hE : zEnd κ n (0, 0)) (hk0 : zRk κ (0, 0)) {r0 : Nat} {x1 : Int32} (h_r0 : zO n r0 11) (M : Mem) : X κ 2 emI n (0, 0) 26 [.null, .null] [] M (f_X11_isPage_26 r0 x1 M) := by
  unfold f_X11_isPage_26
  refine x_iconst (i := 0) c_iconst_0 hC (zdk dk_X11_isPage 12 rfl) (q := 27) rfl ?_
  refine x_weak (L' := [.null, .null]) ⟨Or.inl rfl, Or.inl rfl, trivial⟩ ?_
  exact x_X11_isPage_27 hC hE hk0 h_r0 _ _
set_option maxRecDepth 100000 in
def f_X11_isPage (r0 : Nat) (x1 : Int32) (M : Mem) : Option (Int32 × Mem) := (if zI M r0 14 = 0 then f_X11_isPage_26 r0 x1 M else (if x1 < 0 then f_X11_isPage_26 r0 x1 M else Option.bind (zrf M r0 11) fun q2 => (if zI M q2 9 ≤ x1 then f_X11_isPage_26 r0 x1 M else f_X11_isPage_27 r0 x1 1 M)))
set_option maxRecDepth 100000 in
set_option maxHeartbeats 4000000 in
theorem x_X11_isPage {κ : KX} {n : Nat} (hC : CX κ cX11_isPage RX11 2 (some .boolean) 0) (hE : zEnd κ n (0, 0)) (hk0 : zRk κ (0, 0)) (r0 : Nat) (x1 : Int32) (M : Mem) (h_r0 : zO n r0 11) : X κ 2 emI n (0, 0) 0 [.ref r0, .int x1] [] M (f_X11_isPage r0 x1 M) := by
  unfold f_X11_isPage
  refine x_aload_n (i := 0) rfl hC (zdk dk_X11_isPage 0 rfl) (q := 1) rfl ?_
  refine x_getI fl_RX11_120 (by decide) h_r0 hC (zdk dk_X11_isPage 1 rfl) (q := 4) rfl ?_
  refine x_if_eq (tgt := 26) hC (zdk dk_X11_isPage 2 rfl) (q := 7) rfl rfl (fun _ => ?_) (fun _ => ?_)
  · refine x_weak (L' := [.null, .null]) ⟨Or.inl rfl, Or.inl rfl, trivial⟩ ?_
    exact x_X11_isPage_26 hC hE hk0 h_r0 _
  · refine x_iload_n (i := 1) rfl hC (zdk dk_X11_isPage 3 rfl) (q := 8) rfl ?_
    refine x_if_lt (tgt := 26) hC (zdk dk_X11_isPage 4 rfl) (q := 11) rfl rfl (fun _ => ?_) (fun _ => ?_)
    · refine x_weak (L' := [.null, .null]) ⟨Or.inl rfl, Or.inl rfl, trivial⟩ ?_
      exact x_X11_isPage_26 hC hE hk0 h_r0 _
    · refine x_iload_n (i := 1) rfl hC (zdk dk_X11_isPage 5 rfl) (q := 12) rfl ?_
      refine x_aload_n (i := 0) rfl hC (zdk dk_X11_isPage 6 rfl) (q := 13) rfl ?_
      refine x_getR (k := 0) fl_RX11_82 rfl h_r0 hC (zdk dk_X11_isPage 7 rfl) (q := 16) rfl (fun q2 hq2 => ?_)
      refine x_getI fl_RX11_159 (by decide) hq2 hC (zdk dk_X11_isPage 8 rfl) (q := 19) rfl ?_
      refine x_icmp_ge (tgt := 26) hC (zdk dk_X11_isPage 9 rfl) (q := 22) rfl rfl (fun _ => ?_) (fun _ => ?_)
      · refine x_weak (L' := [.null, .null]) ⟨Or.inl rfl, Or.inl rfl, trivial⟩ ?_
        exact x_X11_isPage_26 hC hE hk0 h_r0 _
      · refine x_iconst (i := 1) c_iconst_1 hC (zdk dk_X11_isPage 10 rfl) (q := 23) rfl ?_
        refine x_goto (tgt := 27) hC (zdk dk_X11_isPage 11 rfl) rfl ?_
        refine x_weak (L' := [.null, .null]) ⟨Or.inl rfl, Or.inl rfl, trivial⟩ ?_
        exact x_X11_isPage_27 hC hE hk0 h_r0 _ _
set_option maxRecDepth 100000 in
set_option maxHeartbeats 4000000 in
theorem t_X11_isPage {n : Nat} {r0 : Nat} {x1 : Int32} {M : Mem} (h_r0 : zO n r0 11) (x : (Int32 × Mem)) (hx : f_X11_isPage r0 x1 M = some x) (l : Launch) (dC : Nat → ClassId) (dI : Nat → Nat → Nat) (b : zSg) : MT l dC dI b yX11_isPage cX11_isPage 2 (some .boolean) 0 0 0 n n [.ref r0, .int x1] M (emI x).1 (emI x).2 :=
  MT.ofX (by decide +kernel) rfl (Nat.le_of_ble_eq_true rfl) (fun κ hC hF _ => x_X11_isPage hC (zEnd_of hF (Nat.le_refl _) (Nat.le_refl _)) (zRk_of hF (Nat.le_refl _) (Nat.le_refl _)) _ _ _ h_r0) x hx
set_option maxRecDepth 100000 in
def dt_X11_letter : List (Nat × Instr × Nat) := [(0, .aload_n 0, 1), (1, .iload_n 1, 1), (2, .invokevirtual 176, 3), (5, .ifCond .eq 13, 3), (8, .iload_n 2, 1), (9, .ifCond .lt 9, 3), (12, .iload_n 2, 1), (13, .bipush 6, 2), (15, .if_icmp .lt 5, 3), (18, .iconst (-1), 1), (19, .ireturn, 1), (20, .aload_n 0, 1), (21, .getfield 82, 3), (24, .getfield 180, 3), (27, .iload_n 1, 1), (28, .iaload, 1), (29, .iconst 5, 1), (30, .iconst 5, 1), (31, .iload_n 2, 1), (32, .isub, 1), (33, .imul, 1), (34, .ishr, 1), (35, .bipush 31, 2), (37, .iand, 1), (38, .ireturn, 1)]
set_option maxRecDepth 100000 in
theorem dk_X11_letter : dt_X11_letter.all (fun q => decide (decode cX11_letter q.1 = .ok q.2)) = true := by decide +kernel
set_option maxRecDepth 100000 in
def f_X11_letter_18  (r0 : Nat) (x1 : Int32) (x2 : Int32)  (M : Mem) : Option (Int32 × Mem) := some ((-1), M)
set_option maxRecDepth 100000 in
set_option maxHeartbeats 4000000 in
theorem x_X11_letter_18 {κ : KX} {n : Nat} (hC : CX κ cX11_letter RX11 3 (some .int) 1) (hE : zEnd κ n (0, 0)) (hk0 : zRk κ (0, 0)) {r0 : Nat} {x1 : Int32} {x2 : Int32} (h_r0 : zO n r0 11) (M : Mem) : X κ 3 emI n (0, 0) 18 [.null, .null, .null] [] M (f_X11_letter_18 r0 x1 x2 M) := by
  unfold f_X11_letter_18
  refine x_iconst (i := (-1)) c_iconst_m1 hC (zdk dk_X11_letter 9 rfl) (q := 19) rfl ?_
  exact x_iret (ty := .int) rfl hE hC (zdk dk_X11_letter 10 rfl)
set_option maxRecDepth 100000 in
def f_X11_letter (r0 : Nat) (x1 : Int32) (x2 : Int32) (M : Mem) : Option (Int32 × Mem) := Option.bind (f_X11_isPage r0 x1 M) fun z1 => (if z1.1 = 0 then f_X11_letter_18 r0 x1 x2 z1.2 else (if x2 < 0 then f_X11_letter_18 r0 x1 x2 z1.2 else (if x2 < 6 then Option.bind (zrf z1.2 r0 11) fun q2 => Option.bind (zrf z1.2 q2 1) fun q3 => Option.bind (zld q3 x1) fun k4 => some (((zI z1.2 q3 k4) >>> (((5 * (5 - x2) : Int32)) &&& 31)) &&& 31, z1.2) else f_X11_letter_18 r0 x1 x2 z1.2)))
set_option maxRecDepth 100000 in
set_option maxHeartbeats 4000000 in
theorem x_X11_letter {κ : KX} {n : Nat} (hC : CX κ cX11_letter RX11 3 (some .int) 1) (hE : zEnd κ n (0, 0)) (hk0 : zRk κ (0, 0)) (r0 : Nat) (x1 : Int32) (x2 : Int32) (M : Mem) (h_r0 : zO n r0 11) : X κ 3 emI n (0, 0) 0 [.ref r0, .int x1, .int x2] [] M (f_X11_letter r0 x1 x2 M) := by
  unfold f_X11_letter
  refine x_aload_n (i := 0) rfl hC (zdk dk_X11_letter 0 rfl) (q := 1) rfl ?_
  refine x_iload_n (i := 1) rfl hC (zdk dk_X11_letter 1 rfl) (q := 2) rfl ?_
  refine x_callVi (as := [.int x1]) cb_RX11_176 rfl (by decide) hk0 h_r0 (fun x hx => t_X11_isPage h_r0 x hx) hC (zdk dk_X11_letter 2 rfl) (q := 5) rfl rfl (Nat.le_of_ble_eq_true rfl) (fun z1 => ?_)
  refine x_if_eq (tgt := 18) hC (zdk dk_X11_letter 3 rfl) (q := 8) rfl rfl (fun _ => ?_) (fun _ => ?_)
  · refine x_weak (L' := [.null, .null, .null]) ⟨Or.inl rfl, Or.inl rfl, Or.inl rfl, trivial⟩ ?_
    exact x_X11_letter_18 hC hE hk0 h_r0 _
  · refine x_iload_n (i := 2) rfl hC (zdk dk_X11_letter 4 rfl) (q := 9) rfl ?_
    refine x_if_lt (tgt := 18) hC (zdk dk_X11_letter 5 rfl) (q := 12) rfl rfl (fun _ => ?_) (fun _ => ?_)
    · refine x_weak (L' := [.null, .null, .null]) ⟨Or.inl rfl, Or.inl rfl, Or.inl rfl, trivial⟩ ?_
      exact x_X11_letter_18 hC hE hk0 h_r0 _
    · refine x_iload_n (i := 2) rfl hC (zdk dk_X11_letter 6 rfl) (q := 13) rfl ?_
      refine x_bipush (i := 6) c_bipush_6 hC (zdk dk_X11_letter 7 rfl) (q := 15) rfl ?_
      refine x_icmp_lt (tgt := 20) hC (zdk dk_X11_letter 8 rfl) (q := 18) rfl rfl (fun _ => ?_) (fun _ => ?_)
      · refine x_aload_n (i := 0) rfl hC (zdk dk_X11_letter 11 rfl) (q := 21) rfl ?_
        refine x_getR (k := 0) fl_RX11_82 rfl h_r0 hC (zdk dk_X11_letter 12 rfl) (q := 24) rfl (fun q2 hq2 => ?_)
        refine x_getR (k := 20) fl_RX11_180 rfl hq2 hC (zdk dk_X11_letter 13 rfl) (q := 27) rfl (fun q3 hq3 => ?_)
        refine x_iload_n (i := 1) rfl hC (zdk dk_X11_letter 14 rfl) (q := 28) rfl ?_
        refine x_iald hq3 hC (zdk dk_X11_letter 15 rfl) (q := 29) rfl (fun k4 _ => ?_)
        refine x_iconst (i := 5) c_iconst_5 hC (zdk dk_X11_letter 16 rfl) (q := 30) rfl ?_
        refine x_iconst (i := 5) c_iconst_5 hC (zdk dk_X11_letter 17 rfl) (q := 31) rfl ?_
        refine x_iload_n (i := 2) rfl hC (zdk dk_X11_letter 18 rfl) (q := 32) rfl ?_
        refine x_isub hC (zdk dk_X11_letter 19 rfl) (q := 33) rfl ?_
        refine x_imul hC (zdk dk_X11_letter 20 rfl) (q := 34) rfl ?_
        refine x_ishr hC (zdk dk_X11_letter 21 rfl) (q := 35) rfl ?_
        refine x_bipush (i := 31) c_bipush_31 hC (zdk dk_X11_letter 22 rfl) (q := 37) rfl ?_
        refine x_iand hC (zdk dk_X11_letter 23 rfl) (q := 38) rfl ?_
        exact x_iret (ty := .int) rfl hE hC (zdk dk_X11_letter 24 rfl)
      · refine x_weak (L' := [.null, .null, .null]) ⟨Or.inl rfl, Or.inl rfl, Or.inl rfl, trivial⟩ ?_
        exact x_X11_letter_18 hC hE hk0 h_r0 _
set_option maxRecDepth 100000 in
set_option maxHeartbeats 4000000 in
theorem t_X11_letter {n : Nat} {r0 : Nat} {x1 : Int32} {x2 : Int32} {M : Mem} (h_r0 : zO n r0 11) (x : (Int32 × Mem)) (hx : f_X11_letter r0 x1 x2 M = some x) (l : Launch) (dC : Nat → ClassId) (dI : Nat → Nat → Nat) (b : zSg) : MT l dC dI b yX11_letter cX11_letter 3 (some .int) 1 0 0 n n [.ref r0, .int x1, .int x2] M (emI x).1 (emI x).2 :=
  MT.ofX (by decide +kernel) rfl (Nat.le_of_ble_eq_true rfl) (fun κ hC hF _ => x_X11_letter hC (zEnd_of hF (Nat.le_refl _) (Nat.le_refl _)) (zRk_of hF (Nat.le_refl _) (Nat.le_refl _)) _ _ _ _ h_r0) x hx
set_option maxRecDepth 100000 in
def dt_X11_field : List (Nat × Instr × Nat) := [(0, .aload_n 0, 1), (1, .getfield 120, 3), (4, .ifCond .ne 5, 3), (7, .iconst (-1), 1), (8, .ireturn, 1), (9, .aload_n 0, 1), (10, .getfield 82, 3), (13, .getfield 141, 3), (16, .astore_n 3, 1), (17, .iload_n 2, 1), (18, .iconst 1, 1), (19, .if_icmp .ne 27, 3), (22, .iload_n 1, 1), (23, .iconst 1, 1), (24, .if_icmp .lt 20, 3), (27, .iload_n 1, 1), (28, .aload_n 3, 1), (29, .getfield 145, 3), (32, .if_icmp .gt 12, 3), (35, .aload_n 3, 1), (36, .getfield 183, 3), (39, .iload_n 1, 1), (40, .iaload, 1), (41, .goto 4, 3), (44, .iconst (-1), 1), (45, .ireturn, 1), (46, .iload_n 1, 1), (47, .ifCond .lt 11, 3), (50, .iload_n 1, 1), (51, .aload_n 3, 1), (52, .getfield 145, 3), (55, .if_icmp .lt 5, 3), (58, .iconst (-1), 1), (59, .ireturn, 1), (60, .iload_n 2, 1), (61, .ifCond .ne 10, 3), (64, .aload_n 3, 1), (65, .getfield 186, 3), (68, .iload_n 1, 1), (69, .iaload, 1), (70, .ireturn, 1), (71, .iload_n 2, 1), (72, .iconst 2, 1), (73, .if_icmp .ne 11, 3), (76, .aload_n 3, 1), (77, .iload_n 1, 1), (78, .invokevirtual 189, 3), (81, .goto 4, 3), (84, .iconst (-1), 1), (85, .ireturn, 1)]
set_option maxRecDepth 100000 in
theorem dk_X11_field : dt_X11_field.all (fun q => decide (decode cX11_field q.1 = .ok q.2)) = true := by decide +kernel
set_option maxRecDepth 100000 in
def f_X11_field_45  (r0 : Nat) (x1 : Int32) (x2 : Int32) (s0 : Int32) (M : Mem) : Option (Int32 × Mem) := some (s0, M)
set_option maxRecDepth 100000 in
set_option maxHeartbeats 4000000 in
theorem x_X11_field_45 {κ : KX} {n : Nat} (hC : CX κ cX11_field RX11 4 (some .int) 3) (hE : zEnd κ n (0, 0)) (hk0 : zRk κ (0, 0)) {r0 : Nat} {x1 : Int32} {x2 : Int32} (h_r0 : zO n r0 11) (s0 : Int32) (M : Mem) : X κ 4 emI n (0, 0) 45 [.null, .null, .null, .null] [.int s0] M (f_X11_field_45 r0 x1 x2 s0 M) := by
  unfold f_X11_field_45
  exact x_iret (ty := .int) rfl hE hC (zdk dk_X11_field 25 rfl)
set_option maxRecDepth 100000 in
def f_X11_field_44  (r0 : Nat) (x1 : Int32) (x2 : Int32)  (M : Mem) : Option (Int32 × Mem) := f_X11_field_45 r0 x1 x2 ((-1)) M
set_option maxRecDepth 100000 in
set_option maxHeartbeats 4000000 in
theorem x_X11_field_44 {κ : KX} {n : Nat} (hC : CX κ cX11_field RX11 4 (some .int) 3) (hE : zEnd κ n (0, 0)) (hk0 : zRk κ (0, 0)) {r0 : Nat} {x1 : Int32} {x2 : Int32} (h_r0 : zO n r0 11) (M : Mem) : X κ 4 emI n (0, 0) 44 [.null, .null, .null, .null] [] M (f_X11_field_44 r0 x1 x2 M) := by
  unfold f_X11_field_44
  refine x_iconst (i := (-1)) c_iconst_m1 hC (zdk dk_X11_field 24 rfl) (q := 45) rfl ?_
  refine x_weak (L' := [.null, .null, .null, .null]) ⟨Or.inl rfl, Or.inl rfl, Or.inl rfl, Or.inl rfl, trivial⟩ ?_
  exact x_X11_field_45 hC hE hk0 h_r0 _ _
set_option maxRecDepth 100000 in
def f_X11_field_58  (r0 : Nat) (x1 : Int32) (x2 : Int32)  (M : Mem) : Option (Int32 × Mem) := some ((-1), M)
set_option maxRecDepth 100000 in
set_option maxHeartbeats 4000000 in
theorem x_X11_field_58 {κ : KX} {n : Nat} (hC : CX κ cX11_field RX11 4 (some .int) 3) (hE : zEnd κ n (0, 0)) (hk0 : zRk κ (0, 0)) {r0 : Nat} {x1 : Int32} {x2 : Int32} (h_r0 : zO n r0 11) (M : Mem) : X κ 4 emI n (0, 0) 58 [.null, .null, .null, .null] [] M (f_X11_field_58 r0 x1 x2 M) := by
  unfold f_X11_field_58
  refine x_iconst (i := (-1)) c_iconst_m1 hC (zdk dk_X11_field 32 rfl) (q := 59) rfl ?_
  exact x_iret (ty := .int) rfl hE hC (zdk dk_X11_field 33 rfl)
set_option maxRecDepth 100000 in
def f_X11_field_85  (r0 : Nat) (x1 : Int32) (x2 : Int32) (s0 : Int32) (M : Mem) : Option (Int32 × Mem) := some (s0, M)
set_option maxRecDepth 100000 in
set_option maxHeartbeats 4000000 in
theorem x_X11_field_85 {κ : KX} {n : Nat} (hC : CX κ cX11_field RX11 4 (some .int) 3) (hE : zEnd κ n (0, 0)) (hk0 : zRk κ (0, 0)) {r0 : Nat} {x1 : Int32} {x2 : Int32} (h_r0 : zO n r0 11) (s0 : Int32) (M : Mem) : X κ 4 emI n (0, 0) 85 [.null, .null, .null, .null] [.int s0] M (f_X11_field_85 r0 x1 x2 s0 M) := by
  unfold f_X11_field_85
  exact x_iret (ty := .int) rfl hE hC (zdk dk_X11_field 49 rfl)
set_option maxRecDepth 100000 in
def f_X11_field (r0 : Nat) (x1 : Int32) (x2 : Int32) (M : Mem) : Option (Int32 × Mem) := (if zI M r0 14 = 0 then some ((-1), M) else Option.bind (zrf M r0 11) fun q1 => Option.bind (zrf M q1 0) fun q2 => (if x2 = 1 then (if x1 < 1 then f_X11_field_44 r0 x1 x2 M else (if zI M q2 7 < x1 then f_X11_field_44 r0 x1 x2 M else Option.bind (zrf M q2 1) fun q6 => Option.bind (zld q6 x1) fun k7 => f_X11_field_45 r0 x1 x2 (zI M q6 k7) M)) else (if x1 < 0 then f_X11_field_58 r0 x1 x2 M else (if x1 < zI M q2 7 then (if x2 = 0 then Option.bind (zrf M q2 0) fun q4 => Option.bind (zld q4 x1) fun k5 => some (zI M q4 k5, M) else (if x2 = 2 then Option.bind (f_X1_leastPolynomial q2 x1 M) fun z3 => f_X11_field_85 r0 x1 x2 z3.1 z3.2 else f_X11_field_85 r0 x1 x2 ((-1)) M)) else f_X11_field_58 r0 x1 x2 M))))
set_option maxRecDepth 100000 in
set_option maxHeartbeats 4000000 in
theorem x_X11_field {κ : KX} {n : Nat} (hC : CX κ cX11_field RX11 4 (some .int) 3) (hE : zEnd κ n (0, 0)) (hk0 : zRk κ (0, 0)) (r0 : Nat) (x1 : Int32) (x2 : Int32) (M : Mem) (h_r0 : zO n r0 11) : X κ 4 emI n (0, 0) 0 [.ref r0, .int x1, .int x2, .null] [] M (f_X11_field r0 x1 x2 M) := by
  unfold f_X11_field
  refine x_aload_n (i := 0) rfl hC (zdk dk_X11_field 0 rfl) (q := 1) rfl ?_
  refine x_getI fl_RX11_120 (by decide) h_r0 hC (zdk dk_X11_field 1 rfl) (q := 4) rfl ?_
  refine x_if_ne (tgt := 9) hC (zdk dk_X11_field 2 rfl) (q := 7) rfl rfl (fun _ => ?_) (fun _ => ?_)
  · refine x_aload_n (i := 0) rfl hC (zdk dk_X11_field 5 rfl) (q := 10) rfl ?_
    refine x_getR (k := 0) fl_RX11_82 rfl h_r0 hC (zdk dk_X11_field 6 rfl) (q := 13) rfl (fun q1 hq1 => ?_)
    refine x_getR (k := 1) fl_RX11_141 rfl hq1 hC (zdk dk_X11_field 7 rfl) (q := 16) rfl (fun q2 hq2 => ?_)
    refine x_astore_n (i := 3) (L' := [.ref r0, .int x1, .int x2, .ref q2]) (by decide) rfl hC (zdk dk_X11_field 8 rfl) (q := 17) rfl ?_
    refine x_iload_n (i := 2) rfl hC (zdk dk_X11_field 9 rfl) (q := 18) rfl ?_
    refine x_iconst (i := 1) c_iconst_1 hC (zdk dk_X11_field 10 rfl) (q := 19) rfl ?_
    refine x_icmp_ne (tgt := 46) hC (zdk dk_X11_field 11 rfl) (q := 22) rfl rfl (fun _ => ?_) (fun _ => ?_)
    · refine x_iload_n (i := 1) rfl hC (zdk dk_X11_field 26 rfl) (q := 47) rfl ?_
      refine x_if_lt (tgt := 58) hC (zdk dk_X11_field 27 rfl) (q := 50) rfl rfl (fun _ => ?_) (fun _ => ?_)
      · refine x_weak (L' := [.null, .null, .null, .null]) ⟨Or.inl rfl, Or.inl rfl, Or.inl rfl, Or.inl rfl, trivial⟩ ?_
        exact x_X11_field_58 hC hE hk0 h_r0 _
      · refine x_iload_n (i := 1) rfl hC (zdk dk_X11_field 28 rfl) (q := 51) rfl ?_
        refine x_aload_n (i := 3) rfl hC (zdk dk_X11_field 29 rfl) (q := 52) rfl ?_
        refine x_getI fl_RX11_145 (by decide) hq2 hC (zdk dk_X11_field 30 rfl) (q := 55) rfl ?_
        refine x_icmp_lt (tgt := 60) hC (zdk dk_X11_field 31 rfl) (q := 58) rfl rfl (fun _ => ?_) (fun _ => ?_)
        · refine x_iload_n (i := 2) rfl hC (zdk dk_X11_field 34 rfl) (q := 61) rfl ?_
          refine x_if_ne (tgt := 71) hC (zdk dk_X11_field 35 rfl) (q := 64) rfl rfl (fun _ => ?_) (fun _ => ?_)
          · refine x_iload_n (i := 2) rfl hC (zdk dk_X11_field 41 rfl) (q := 72) rfl ?_
            refine x_iconst (i := 2) c_iconst_2 hC (zdk dk_X11_field 42 rfl) (q := 73) rfl ?_
            refine x_icmp_ne (tgt := 84) hC (zdk dk_X11_field 43 rfl) (q := 76) rfl rfl (fun _ => ?_) (fun _ => ?_)
            · refine x_iconst (i := (-1)) c_iconst_m1 hC (zdk dk_X11_field 48 rfl) (q := 85) rfl ?_
              refine x_weak (L' := [.null, .null, .null, .null]) ⟨Or.inl rfl, Or.inl rfl, Or.inl rfl, Or.inl rfl, trivial⟩ ?_
              exact x_X11_field_85 hC hE hk0 h_r0 _ _
            · refine x_aload_n (i := 3) rfl hC (zdk dk_X11_field 44 rfl) (q := 77) rfl ?_
              refine x_iload_n (i := 1) rfl hC (zdk dk_X11_field 45 rfl) (q := 78) rfl ?_
              refine x_callVi (as := [.int x1]) cb_RX11_189 rfl (by decide) hk0 hq2 (fun x hx => t_X1_leastPolynomial hq2 x hx) hC (zdk dk_X11_field 46 rfl) (q := 81) rfl rfl (Nat.le_of_ble_eq_true rfl) (fun z3 => ?_)
              refine x_goto (tgt := 85) hC (zdk dk_X11_field 47 rfl) rfl ?_
              refine x_weak (L' := [.null, .null, .null, .null]) ⟨Or.inl rfl, Or.inl rfl, Or.inl rfl, Or.inl rfl, trivial⟩ ?_
              exact x_X11_field_85 hC hE hk0 h_r0 _ _
          · refine x_aload_n (i := 3) rfl hC (zdk dk_X11_field 36 rfl) (q := 65) rfl ?_
            refine x_getR (k := 20) fl_RX11_186 rfl hq2 hC (zdk dk_X11_field 37 rfl) (q := 68) rfl (fun q4 hq4 => ?_)
            refine x_iload_n (i := 1) rfl hC (zdk dk_X11_field 38 rfl) (q := 69) rfl ?_
            refine x_iald hq4 hC (zdk dk_X11_field 39 rfl) (q := 70) rfl (fun k5 _ => ?_)
            exact x_iret (ty := .int) rfl hE hC (zdk dk_X11_field 40 rfl)
        · refine x_weak (L' := [.null, .null, .null, .null]) ⟨Or.inl rfl, Or.inl rfl, Or.inl rfl, Or.inl rfl, trivial⟩ ?_
          exact x_X11_field_58 hC hE hk0 h_r0 _
    · refine x_iload_n (i := 1) rfl hC (zdk dk_X11_field 12 rfl) (q := 23) rfl ?_
      refine x_iconst (i := 1) c_iconst_1 hC (zdk dk_X11_field 13 rfl) (q := 24) rfl ?_
      refine x_icmp_lt (tgt := 44) hC (zdk dk_X11_field 14 rfl) (q := 27) rfl rfl (fun _ => ?_) (fun _ => ?_)
      · refine x_weak (L' := [.null, .null, .null, .null]) ⟨Or.inl rfl, Or.inl rfl, Or.inl rfl, Or.inl rfl, trivial⟩ ?_
        exact x_X11_field_44 hC hE hk0 h_r0 _
      · refine x_iload_n (i := 1) rfl hC (zdk dk_X11_field 15 rfl) (q := 28) rfl ?_
        refine x_aload_n (i := 3) rfl hC (zdk dk_X11_field 16 rfl) (q := 29) rfl ?_
        refine x_getI fl_RX11_145 (by decide) hq2 hC (zdk dk_X11_field 17 rfl) (q := 32) rfl ?_
        refine x_icmp_gt (tgt := 44) hC (zdk dk_X11_field 18 rfl) (q := 35) rfl rfl (fun _ => ?_) (fun _ => ?_)
        · refine x_weak (L' := [.null, .null, .null, .null]) ⟨Or.inl rfl, Or.inl rfl, Or.inl rfl, Or.inl rfl, trivial⟩ ?_
          exact x_X11_field_44 hC hE hk0 h_r0 _
        · refine x_aload_n (i := 3) rfl hC (zdk dk_X11_field 19 rfl) (q := 36) rfl ?_
          refine x_getR (k := 20) fl_RX11_183 rfl hq2 hC (zdk dk_X11_field 20 rfl) (q := 39) rfl (fun q6 hq6 => ?_)
          refine x_iload_n (i := 1) rfl hC (zdk dk_X11_field 21 rfl) (q := 40) rfl ?_
          refine x_iald hq6 hC (zdk dk_X11_field 22 rfl) (q := 41) rfl (fun k7 _ => ?_)
          refine x_goto (tgt := 45) hC (zdk dk_X11_field 23 rfl) rfl ?_
          refine x_weak (L' := [.null, .null, .null, .null]) ⟨Or.inl rfl, Or.inl rfl, Or.inl rfl, Or.inl rfl, trivial⟩ ?_
          exact x_X11_field_45 hC hE hk0 h_r0 _ _
  · refine x_iconst (i := (-1)) c_iconst_m1 hC (zdk dk_X11_field 3 rfl) (q := 8) rfl ?_
    exact x_iret (ty := .int) rfl hE hC (zdk dk_X11_field 4 rfl)
set_option maxRecDepth 100000 in
set_option maxHeartbeats 4000000 in
theorem t_X11_field {n : Nat} {r0 : Nat} {x1 : Int32} {x2 : Int32} {M : Mem} (h_r0 : zO n r0 11) (x : (Int32 × Mem)) (hx : f_X11_field r0 x1 x2 M = some x) (l : Launch) (dC : Nat → ClassId) (dI : Nat → Nat → Nat) (b : zSg) : MT l dC dI b yX11_field cX11_field 4 (some .int) 3 0 0 n n [.ref r0, .int x1, .int x2] M (emI x).1 (emI x).2 :=
  MT.ofX (by decide +kernel) rfl (Nat.le_of_ble_eq_true rfl) (fun κ hC hF _ => x_X11_field hC (zEnd_of hF (Nat.le_refl _) (Nat.le_refl _)) (zRk_of hF (Nat.le_refl _) (Nat.le_refl _)) _ _ _ _ h_r0) x hx
set_option maxRecDepth 100000 in
def dt_X11_generator : List (Nat × Instr × Nat) := [(0, .aload_n 0, 1), (1, .getfield 120, 3), (4, .ifCond .eq 13, 3), (7, .iload_n 1, 1), (8, .ifCond .lt 9, 3), (11, .iload_n 1, 1), (12, .bipush 63, 2), (14, .if_icmp .lt 5, 3), (17, .iconst (-1), 1), (18, .ireturn, 1), (19, .aload_n 0, 1), (20, .getfield 82, 3), (23, .getfield 141, 3), (26, .getfield 192, 3), (29, .iload_n 1, 1), (30, .invokestatic 196, 3), (33, .ireturn, 1)]
set_option maxRecDepth 100000 in
theorem dk_X11_generator : dt_X11_generator.all (fun q => decide (decode cX11_generator q.1 = .ok q.2)) = true := by decide +kernel
set_option maxRecDepth 100000 in
def f_X11_generator_17  (r0 : Nat) (x1 : Int32)  (M : Mem) : Option (Int32 × Mem) := some ((-1), M)
set_option maxRecDepth 100000 in
set_option maxHeartbeats 4000000 in
theorem x_X11_generator_17 {κ : KX} {n : Nat} (hC : CX κ cX11_generator RX11 2 (some .int) 1) (hE : zEnd κ n (0, 0)) (hk0 : zRk κ (0, 0)) {r0 : Nat} {x1 : Int32} (h_r0 : zO n r0 11) (M : Mem) : X κ 2 emI n (0, 0) 17 [.null, .null] [] M (f_X11_generator_17 r0 x1 M) := by
  unfold f_X11_generator_17
  refine x_iconst (i := (-1)) c_iconst_m1 hC (zdk dk_X11_generator 8 rfl) (q := 18) rfl ?_
  exact x_iret (ty := .int) rfl hE hC (zdk dk_X11_generator 9 rfl)
set_option maxRecDepth 100000 in
def f_X11_generator (r0 : Nat) (x1 : Int32) (M : Mem) : Option (Int32 × Mem) := (if zI M r0 14 = 0 then f_X11_generator_17 r0 x1 M else (if x1 < 0 then f_X11_generator_17 r0 x1 M else (if x1 < 63 then Option.bind (zrf M r0 11) fun q1 => Option.bind (zrf M q1 0) fun q2 => Option.bind (f_X11_bitOf (zL M q2 12) x1 M) fun z3 => some (z3.1, z3.2) else f_X11_generator_17 r0 x1 M)))
set_option maxRecDepth 100000 in
set_option maxHeartbeats 4000000 in
theorem x_X11_generator {κ : KX} {n : Nat} (hC : CX κ cX11_generator RX11 2 (some .int) 1) (hE : zEnd κ n (0, 0)) (hk0 : zRk κ (0, 0)) (r0 : Nat) (x1 : Int32) (M : Mem) (h_r0 : zO n r0 11) : X κ 2 emI n (0, 0) 0 [.ref r0, .int x1] [] M (f_X11_generator r0 x1 M) := by
  unfold f_X11_generator
  refine x_aload_n (i := 0) rfl hC (zdk dk_X11_generator 0 rfl) (q := 1) rfl ?_
  refine x_getI fl_RX11_120 (by decide) h_r0 hC (zdk dk_X11_generator 1 rfl) (q := 4) rfl ?_
  refine x_if_eq (tgt := 17) hC (zdk dk_X11_generator 2 rfl) (q := 7) rfl rfl (fun _ => ?_) (fun _ => ?_)
  · refine x_weak (L' := [.null, .null]) ⟨Or.inl rfl, Or.inl rfl, trivial⟩ ?_
    exact x_X11_generator_17 hC hE hk0 h_r0 _
  · refine x_iload_n (i := 1) rfl hC (zdk dk_X11_generator 3 rfl) (q := 8) rfl ?_
    refine x_if_lt (tgt := 17) hC (zdk dk_X11_generator 4 rfl) (q := 11) rfl rfl (fun _ => ?_) (fun _ => ?_)
    · refine x_weak (L' := [.null, .null]) ⟨Or.inl rfl, Or.inl rfl, trivial⟩ ?_
      exact x_X11_generator_17 hC hE hk0 h_r0 _
    · refine x_iload_n (i := 1) rfl hC (zdk dk_X11_generator 5 rfl) (q := 12) rfl ?_
      refine x_bipush (i := 63) c_bipush_63 hC (zdk dk_X11_generator 6 rfl) (q := 14) rfl ?_
      refine x_icmp_lt (tgt := 19) hC (zdk dk_X11_generator 7 rfl) (q := 17) rfl rfl (fun _ => ?_) (fun _ => ?_)
      · refine x_aload_n (i := 0) rfl hC (zdk dk_X11_generator 10 rfl) (q := 20) rfl ?_
        refine x_getR (k := 0) fl_RX11_82 rfl h_r0 hC (zdk dk_X11_generator 11 rfl) (q := 23) rfl (fun q1 hq1 => ?_)
        refine x_getR (k := 1) fl_RX11_141 rfl hq1 hC (zdk dk_X11_generator 12 rfl) (q := 26) rfl (fun q2 hq2 => ?_)
        refine x_getL fl_RX11_192 hq2 hC (zdk dk_X11_generator 13 rfl) (q := 29) rfl ?_
        refine x_iload_n (i := 1) rfl hC (zdk dk_X11_generator 14 rfl) (q := 30) rfl ?_
        refine x_callSi (as := [.long (zL M q2 12), .int x1]) cb_RX11_196 rfl (by decide) hk0 (fun x hx => t_X11_bitOf  x hx) hC (zdk dk_X11_generator 15 rfl) (q := 33) rfl rfl (Nat.le_of_ble_eq_true rfl) (fun z3 => ?_)
        exact x_iret (ty := .int) rfl hE hC (zdk dk_X11_generator 16 rfl)
      · refine x_weak (L' := [.null, .null]) ⟨Or.inl rfl, Or.inl rfl, trivial⟩ ?_
        exact x_X11_generator_17 hC hE hk0 h_r0 _
set_option maxRecDepth 100000 in
set_option maxHeartbeats 4000000 in
theorem t_X11_generator {n : Nat} {r0 : Nat} {x1 : Int32} {M : Mem} (h_r0 : zO n r0 11) (x : (Int32 × Mem)) (hx : f_X11_generator r0 x1 M = some x) (l : Launch) (dC : Nat → ClassId) (dI : Nat → Nat → Nat) (b : zSg) : MT l dC dI b yX11_generator cX11_generator 2 (some .int) 1 0 0 n n [.ref r0, .int x1] M (emI x).1 (emI x).2 :=
  MT.ofX (by decide +kernel) rfl (Nat.le_of_ble_eq_true rfl) (fun κ hC hF _ => x_X11_generator hC (zEnd_of hF (Nat.le_refl _) (Nat.le_refl _)) (zRk_of hF (Nat.le_refl _) (Nat.le_refl _)) _ _ _ h_r0) x hx
set_option maxRecDepth 100000 in
def dt_X11_dataOf : List (Nat × Instr × Nat) := [(0, .iload_n 0, 1), (1, .i2l, 1), (2, .bipush 30, 2), (4, .lshl, 1), (5, .iload_n 1, 1), (6, .i2l, 1), (7, .lor, 1), (8, .lreturn, 1)]
set_option maxRecDepth 100000 in
theorem dk_X11_dataOf : dt_X11_dataOf.all (fun q => decide (decode cX11_dataOf q.1 = .ok q.2)) = true := by decide +kernel
set_option maxRecDepth 100000 in
def f_X11_dataOf (x0 : Int32) (x1 : Int32) (M : Mem) : Option (Int64 × Mem) := some ((x0.toInt64 <<< ((30 : Int32).toInt64 &&& 63)) ||| x1.toInt64, M)
set_option maxRecDepth 100000 in
set_option maxHeartbeats 4000000 in
theorem x_X11_dataOf {κ : KX} {n : Nat} (hC : CX κ cX11_dataOf RX11 2 (some .long) 0) (hE : zEnd κ n (0, 0)) (hk0 : zRk κ (0, 0)) (x0 : Int32) (x1 : Int32) (M : Mem) : X κ 2 emL n (0, 0) 0 [.int x0, .int x1] [] M (f_X11_dataOf x0 x1 M) := by
  unfold f_X11_dataOf
  refine x_iload_n (i := 0) rfl hC (zdk dk_X11_dataOf 0 rfl) (q := 1) rfl ?_
  refine x_i2l hC (zdk dk_X11_dataOf 1 rfl) (q := 2) rfl ?_
  refine x_bipush (i := 30) c_bipush_30 hC (zdk dk_X11_dataOf 2 rfl) (q := 4) rfl ?_
  refine x_lshl hC (zdk dk_X11_dataOf 3 rfl) (q := 5) rfl ?_
  refine x_iload_n (i := 1) rfl hC (zdk dk_X11_dataOf 4 rfl) (q := 6) rfl ?_
  refine x_i2l hC (zdk dk_X11_dataOf 5 rfl) (q := 7) rfl ?_
  refine x_lor hC (zdk dk_X11_dataOf 6 rfl) (q := 8) rfl ?_
  exact x_lret hE hC (zdk dk_X11_dataOf 7 rfl)
set_option maxRecDepth 100000 in
set_option maxHeartbeats 4000000 in
theorem t_X11_dataOf {n : Nat} {x0 : Int32} {x1 : Int32} {M : Mem}  (x : (Int64 × Mem)) (hx : f_X11_dataOf x0 x1 M = some x) (l : Launch) (dC : Nat → ClassId) (dI : Nat → Nat → Nat) (b : zSg) : MT l dC dI b yX11_dataOf cX11_dataOf 2 (some .long) 0 0 0 n n [.int x0, .int x1] M (emL x).1 (emL x).2 :=
  MT.ofX (by decide +kernel) rfl (Nat.le_of_ble_eq_true rfl) (fun κ hC hF _ => x_X11_dataOf hC (zEnd_of hF (Nat.le_refl _) (Nat.le_refl _)) (zRk_of hF (Nat.le_refl _) (Nat.le_refl _)) _ _ _ ) x hx
set_option maxRecDepth 100000 in
def dt_X11_isData : List (Nat × Instr × Nat) := [(0, .aload_n 0, 1), (1, .getfield 120, 3), (4, .ifCond .eq 18, 3), (7, .iload_n 1, 1), (8, .ifCond .lt 14, 3), (11, .iload_n 2, 1), (12, .ifCond .lt 10, 3), (15, .iload_n 2, 1), (16, .ldc_w 390, 3), (19, .if_icmp .lt 5, 3), (22, .iconst 0, 1), (23, .ireturn, 1), (24, .iload_n 1, 1), (25, .iload_n 2, 1), (26, .invokestatic 204, 3), (29, .aload_n 0, 1), (30, .getfield 82, 3), (33, .getfield 141, 3), (36, .getfield 156, 3), (39, .lushr, 1), (40, .lconst 0, 1), (41, .lcmp, 1), (42, .ifCond .ne 7, 3), (45, .iconst 1, 1), (46, .goto 4, 3), (49, .iconst 0, 1), (50, .ireturn, 1)]
set_option maxRecDepth 100000 in
theorem dk_X11_isData : dt_X11_isData.all (fun q => decide (decode cX11_isData q.1 = .ok q.2)) = true := by decide +kernel
set_option maxRecDepth 100000 in
def f_X11_isData_22  (r0 : Nat) (x1 : Int32) (x2 : Int32)  (M : Mem) : Option (Int32 × Mem) := some (0, M)
set_option maxRecDepth 100000 in
set_option maxHeartbeats 4000000 in
theorem x_X11_isData_22 {κ : KX} {n : Nat} (hC : CX κ cX11_isData RX11 3 (some .boolean) 1) (hE : zEnd κ n (0, 0)) (hk0 : zRk κ (0, 0)) {r0 : Nat} {x1 : Int32} {x2 : Int32} (h_r0 : zO n r0 11) (M : Mem) : X κ 3 emI n (0, 0) 22 [.null, .null, .null] [] M (f_X11_isData_22 r0 x1 x2 M) := by
  unfold f_X11_isData_22
  refine x_iconst (i := 0) c_iconst_0 hC (zdk dk_X11_isData 10 rfl) (q := 23) rfl ?_
  exact x_iret (ty := .boolean) rfl hE hC (zdk dk_X11_isData 11 rfl)
set_option maxRecDepth 100000 in
def f_X11_isData_50  (r0 : Nat) (x1 : Int32) (x2 : Int32) (s0 : Int32) (M : Mem) : Option (Int32 × Mem) := zbz s0 (some (s0, M))
set_option maxRecDepth 100000 in
set_option maxHeartbeats 4000000 in
theorem x_X11_isData_50 {κ : KX} {n : Nat} (hC : CX κ cX11_isData RX11 3 (some .boolean) 1) (hE : zEnd κ n (0, 0)) (hk0 : zRk κ (0, 0)) {r0 : Nat} {x1 : Int32} {x2 : Int32} (h_r0 : zO n r0 11) (s0 : Int32) (M : Mem) : X κ 3 emI n (0, 0) 50 [.null, .null, .null] [.int s0] M (f_X11_isData_50 r0 x1 x2 s0 M) := by
  unfold f_X11_isData_50
  refine x_bz (fun hb1 => ?_)
  exact x_iret (ty := .boolean) hb1.1 hE hC (zdk dk_X11_isData 26 rfl)
set_option maxRecDepth 100000 in
def f_X11_isData (r0 : Nat) (x1 : Int32) (x2 : Int32) (M : Mem) : Option (Int32 × Mem) := (if zI M r0 14 = 0 then f_X11_isData_22 r0 x1 x2 M else (if x1 < 0 then f_X11_isData_22 r0 x1 x2 M else (if x2 < 0 then f_X11_isData_22 r0 x1 x2 M else (if x2 < 1073741824 then Option.bind (f_X11_dataOf x1 x2 M) fun z2 => Option.bind (zrf z2.2 r0 11) fun q3 => Option.bind (zrf z2.2 q3 0) fun q4 => (if lg_cmp (zlush z2.1 (zI z2.2 q4 11)) 0 = 0 then f_X11_isData_50 r0 x1 x2 1 z2.2 else f_X11_isData_50 r0 x1 x2 0 z2.2) else f_X11_isData_22 r0 x1 x2 M))))
set_option maxRecDepth 100000 in
set_option maxHeartbeats 4000000 in
theorem x_X11_isData {κ : KX} {n : Nat} (hC : CX κ cX11_isData RX11 3 (some .boolean) 1) (hE : zEnd κ n (0, 0)) (hk0 : zRk κ (0, 0)) (r0 : Nat) (x1 : Int32) (x2 : Int32) (M : Mem) (h_r0 : zO n r0 11) : X κ 3 emI n (0, 0) 0 [.ref r0, .int x1, .int x2] [] M (f_X11_isData r0 x1 x2 M) := by
  unfold f_X11_isData
  refine x_aload_n (i := 0) rfl hC (zdk dk_X11_isData 0 rfl) (q := 1) rfl ?_
  refine x_getI fl_RX11_120 (by decide) h_r0 hC (zdk dk_X11_isData 1 rfl) (q := 4) rfl ?_
  refine x_if_eq (tgt := 22) hC (zdk dk_X11_isData 2 rfl) (q := 7) rfl rfl (fun _ => ?_) (fun _ => ?_)
  · refine x_weak (L' := [.null, .null, .null]) ⟨Or.inl rfl, Or.inl rfl, Or.inl rfl, trivial⟩ ?_
    exact x_X11_isData_22 hC hE hk0 h_r0 _
  · refine x_iload_n (i := 1) rfl hC (zdk dk_X11_isData 3 rfl) (q := 8) rfl ?_
    refine x_if_lt (tgt := 22) hC (zdk dk_X11_isData 4 rfl) (q := 11) rfl rfl (fun _ => ?_) (fun _ => ?_)
    · refine x_weak (L' := [.null, .null, .null]) ⟨Or.inl rfl, Or.inl rfl, Or.inl rfl, trivial⟩ ?_
      exact x_X11_isData_22 hC hE hk0 h_r0 _
    · refine x_iload_n (i := 2) rfl hC (zdk dk_X11_isData 5 rfl) (q := 12) rfl ?_
      refine x_if_lt (tgt := 22) hC (zdk dk_X11_isData 6 rfl) (q := 15) rfl rfl (fun _ => ?_) (fun _ => ?_)
      · refine x_weak (L' := [.null, .null, .null]) ⟨Or.inl rfl, Or.inl rfl, Or.inl rfl, trivial⟩ ?_
        exact x_X11_isData_22 hC hE hk0 h_r0 _
      · refine x_iload_n (i := 2) rfl hC (zdk dk_X11_isData 7 rfl) (q := 16) rfl ?_
        refine x_ldcw k_RX11_390 hC (zdk dk_X11_isData 8 rfl) (q := 19) rfl ?_
        refine x_icmp_lt (tgt := 24) hC (zdk dk_X11_isData 9 rfl) (q := 22) rfl rfl (fun _ => ?_) (fun _ => ?_)
        · refine x_iload_n (i := 1) rfl hC (zdk dk_X11_isData 12 rfl) (q := 25) rfl ?_
          refine x_iload_n (i := 2) rfl hC (zdk dk_X11_isData 13 rfl) (q := 26) rfl ?_
          refine x_callSl (as := [.int x1, .int x2]) cb_RX11_204 rfl (by decide) hk0 (fun x hx => t_X11_dataOf  x hx) hC (zdk dk_X11_isData 14 rfl) (q := 29) rfl rfl (Nat.le_of_ble_eq_true rfl) (fun z2 => ?_)
          refine x_aload_n (i := 0) rfl hC (zdk dk_X11_isData 15 rfl) (q := 30) rfl ?_
          refine x_getR (k := 0) fl_RX11_82 rfl h_r0 hC (zdk dk_X11_isData 16 rfl) (q := 33) rfl (fun q3 hq3 => ?_)
          refine x_getR (k := 1) fl_RX11_141 rfl hq3 hC (zdk dk_X11_isData 17 rfl) (q := 36) rfl (fun q4 hq4 => ?_)
          refine x_getI fl_RX11_156 (by decide) hq4 hC (zdk dk_X11_isData 18 rfl) (q := 39) rfl ?_
          refine x_lushr hC (zdk dk_X11_isData 19 rfl) (q := 40) rfl ?_
          refine x_lconst (i := 0) c_lconst_0 hC (zdk dk_X11_isData 20 rfl) (q := 41) rfl ?_
          refine x_lcmp hC (zdk dk_X11_isData 21 rfl) (q := 42) rfl ?_
          refine x_if_ne (tgt := 49) hC (zdk dk_X11_isData 22 rfl) (q := 45) rfl rfl (fun _ => ?_) (fun _ => ?_)
          · refine x_iconst (i := 0) c_iconst_0 hC (zdk dk_X11_isData 25 rfl) (q := 50) rfl ?_
            refine x_weak (L' := [.null, .null, .null]) ⟨Or.inl rfl, Or.inl rfl, Or.inl rfl, trivial⟩ ?_
            exact x_X11_isData_50 hC hE hk0 h_r0 _ _
          · refine x_iconst (i := 1) c_iconst_1 hC (zdk dk_X11_isData 23 rfl) (q := 46) rfl ?_
            refine x_goto (tgt := 50) hC (zdk dk_X11_isData 24 rfl) rfl ?_
            refine x_weak (L' := [.null, .null, .null]) ⟨Or.inl rfl, Or.inl rfl, Or.inl rfl, trivial⟩ ?_
            exact x_X11_isData_50 hC hE hk0 h_r0 _ _
        · refine x_weak (L' := [.null, .null, .null]) ⟨Or.inl rfl, Or.inl rfl, Or.inl rfl, trivial⟩ ?_
          exact x_X11_isData_22 hC hE hk0 h_r0 _
set_option maxRecDepth 100000 in
set_option maxHeartbeats 4000000 in
theorem t_X11_isData {n : Nat} {r0 : Nat} {x1 : Int32} {x2 : Int32} {M : Mem} (h_r0 : zO n r0 11) (x : (Int32 × Mem)) (hx : f_X11_isData r0 x1 x2 M = some x) (l : Launch) (dC : Nat → ClassId) (dI : Nat → Nat → Nat) (b : zSg) : MT l dC dI b yX11_isData cX11_isData 3 (some .boolean) 1 0 0 n n [.ref r0, .int x1, .int x2] M (emI x).1 (emI x).2 :=
  MT.ofX (by decide +kernel) rfl (Nat.le_of_ble_eq_true rfl) (fun κ hC hF _ => x_X11_isData hC (zEnd_of hF (Nat.le_refl _) (Nat.le_refl _)) (zRk_of hF (Nat.le_refl _) (Nat.le_refl _)) _ _ _ _ h_r0) x hx
set_option maxRecDepth 100000 in
def dt_X11_word : List (Nat × Instr × Nat) := [(0, .aload_n 0, 1), (1, .iload_n 1, 1), (2, .iload_n 2, 1), (3, .invokevirtual 200, 3), (6, .ifCond .eq 21, 3), (9, .iload_n 3, 1), (10, .ifCond .lt 17, 3), (13, .iload_n 3, 1), (14, .aload_n 0, 1), (15, .getfield 82, 3), (18, .getfield 141, 3), (21, .getfield 153, 3), (24, .if_icmp .lt 5, 3), (27, .iconst (-1), 1), (28, .ireturn, 1), (29, .aload_n 0, 1), (30, .getfield 82, 3), (33, .getfield 141, 3), (36, .iload_n 1, 1), (37, .iload_n 2, 1), (38, .invokestatic 204, 3), (41, .invokevirtual 208, 3), (44, .iload_n 3, 1), (45, .invokestatic 196, 3), (48, .ireturn, 1)]
set_option maxRecDepth 100000 in
theorem dk_X11_word : dt_X11_word.all (fun q => decide (decode cX11_word q.1 = .ok q.2)) = true := by decide +kernel
set_option maxRecDepth 100000 in
def f_X11_word_27  (r0 : Nat) (x1 : Int32) (x2 : Int32) (x3 : Int32)  (M : Mem) : Option (Int32 × Mem) := some ((-1), M)
set_option maxRecDepth 100000 in
set_option maxHeartbeats 4000000 in
theorem x_X11_word_27 {κ : KX} {n : Nat} (hC : CX κ cX11_word RX11 4 (some .int) 2) (hE : zEnd κ n (0, 0)) (hk0 : zRk κ (0, 0)) {r0 : Nat} {x1 : Int32} {x2 : Int32} {x3 : Int32} (h_r0 : zO n r0 11) (M : Mem) : X κ 4 emI n (0, 0) 27 [.null, .null, .null, .null] [] M (f_X11_word_27 r0 x1 x2 x3 M) := by
  unfold f_X11_word_27
  refine x_iconst (i := (-1)) c_iconst_m1 hC (zdk dk_X11_word 13 rfl) (q := 28) rfl ?_
  exact x_iret (ty := .int) rfl hE hC (zdk dk_X11_word 14 rfl)
set_option maxRecDepth 100000 in
def f_X11_word (r0 : Nat) (x1 : Int32) (x2 : Int32) (x3 : Int32) (M : Mem) : Option (Int32 × Mem) := Option.bind (f_X11_isData r0 x1 x2 M) fun z1 => (if z1.1 = 0 then f_X11_word_27 r0 x1 x2 x3 z1.2 else (if x3 < 0 then f_X11_word_27 r0 x1 x2 x3 z1.2 else Option.bind (zrf z1.2 r0 11) fun q2 => Option.bind (zrf z1.2 q2 0) fun q3 => (if x3 < zI z1.2 q3 10 then Option.bind (zrf z1.2 r0 11) fun q4 => Option.bind (zrf z1.2 q4 0) fun q5 => Option.bind (f_X11_dataOf x1 x2 z1.2) fun z6 => Option.bind (f_X1_encode q5 z6.1 z6.2) fun z7 => Option.bind (f_X11_bitOf z7.1 x3 z7.2) fun z8 => some (z8.1, z8.2) else f_X11_word_27 r0 x1 x2 x3 z1.2)))
set_option maxRecDepth 100000 in
set_option maxHeartbeats 4000000 in
theorem x_X11_word {κ : KX} {n : Nat} (hC : CX κ cX11_word RX11 4 (some .int) 2) (hE : zEnd κ n (0, 0)) (hk0 : zRk κ (0, 0)) (r0 : Nat) (x1 : Int32) (x2 : Int32) (x3 : Int32) (M : Mem) (h_r0 : zO n r0 11) : X κ 4 emI n (0, 0) 0 [.ref r0, .int x1, .int x2, .int x3] [] M (f_X11_word r0 x1 x2 x3 M) := by
  unfold f_X11_word
  refine x_aload_n (i := 0) rfl hC (zdk dk_X11_word 0 rfl) (q := 1) rfl ?_
  refine x_iload_n (i := 1) rfl hC (zdk dk_X11_word 1 rfl) (q := 2) rfl ?_
  refine x_iload_n (i := 2) rfl hC (zdk dk_X11_word 2 rfl) (q := 3) rfl ?_
  refine x_callVi (as := [.int x1, .int x2]) cb_RX11_200 rfl (by decide) hk0 h_r0 (fun x hx => t_X11_isData h_r0 x hx) hC (zdk dk_X11_word 3 rfl) (q := 6) rfl rfl (Nat.le_of_ble_eq_true rfl) (fun z1 => ?_)
  refine x_if_eq (tgt := 27) hC (zdk dk_X11_word 4 rfl) (q := 9) rfl rfl (fun _ => ?_) (fun _ => ?_)
  · refine x_weak (L' := [.null, .null, .null, .null]) ⟨Or.inl rfl, Or.inl rfl, Or.inl rfl, Or.inl rfl, trivial⟩ ?_
    exact x_X11_word_27 hC hE hk0 h_r0 _
  · refine x_iload_n (i := 3) rfl hC (zdk dk_X11_word 5 rfl) (q := 10) rfl ?_
    refine x_if_lt (tgt := 27) hC (zdk dk_X11_word 6 rfl) (q := 13) rfl rfl (fun _ => ?_) (fun _ => ?_)
    · refine x_weak (L' := [.null, .null, .null, .null]) ⟨Or.inl rfl, Or.inl rfl, Or.inl rfl, Or.inl rfl, trivial⟩ ?_
      exact x_X11_word_27 hC hE hk0 h_r0 _
    · refine x_iload_n (i := 3) rfl hC (zdk dk_X11_word 7 rfl) (q := 14) rfl ?_
      refine x_aload_n (i := 0) rfl hC (zdk dk_X11_word 8 rfl) (q := 15) rfl ?_
      refine x_getR (k := 0) fl_RX11_82 rfl h_r0 hC (zdk dk_X11_word 9 rfl) (q := 18) rfl (fun q2 hq2 => ?_)
      refine x_getR (k := 1) fl_RX11_141 rfl hq2 hC (zdk dk_X11_word 10 rfl) (q := 21) rfl (fun q3 hq3 => ?_)
      refine x_getI fl_RX11_153 (by decide) hq3 hC (zdk dk_X11_word 11 rfl) (q := 24) rfl ?_
      refine x_icmp_lt (tgt := 29) hC (zdk dk_X11_word 12 rfl) (q := 27) rfl rfl (fun _ => ?_) (fun _ => ?_)
      · refine x_aload_n (i := 0) rfl hC (zdk dk_X11_word 15 rfl) (q := 30) rfl ?_
        refine x_getR (k := 0) fl_RX11_82 rfl h_r0 hC (zdk dk_X11_word 16 rfl) (q := 33) rfl (fun q4 hq4 => ?_)
        refine x_getR (k := 1) fl_RX11_141 rfl hq4 hC (zdk dk_X11_word 17 rfl) (q := 36) rfl (fun q5 hq5 => ?_)
        refine x_iload_n (i := 1) rfl hC (zdk dk_X11_word 18 rfl) (q := 37) rfl ?_
        refine x_iload_n (i := 2) rfl hC (zdk dk_X11_word 19 rfl) (q := 38) rfl ?_
        refine x_callSl (as := [.int x1, .int x2]) cb_RX11_204 rfl (by decide) hk0 (fun x hx => t_X11_dataOf  x hx) hC (zdk dk_X11_word 20 rfl) (q := 41) rfl rfl (Nat.le_of_ble_eq_true rfl) (fun z6 => ?_)
        refine x_callVl (as := [.long z6.1]) cb_RX11_208 rfl (by decide) hk0 hq5 (fun x hx => t_X1_encode hq5 x hx) hC (zdk dk_X11_word 21 rfl) (q := 44) rfl rfl (Nat.le_of_ble_eq_true rfl) (fun z7 => ?_)
        refine x_iload_n (i := 3) rfl hC (zdk dk_X11_word 22 rfl) (q := 45) rfl ?_
        refine x_callSi (as := [.long z7.1, .int x3]) cb_RX11_196 rfl (by decide) hk0 (fun x hx => t_X11_bitOf  x hx) hC (zdk dk_X11_word 23 rfl) (q := 48) rfl rfl (Nat.le_of_ble_eq_true rfl) (fun z8 => ?_)
        exact x_iret (ty := .int) rfl hE hC (zdk dk_X11_word 24 rfl)
      · refine x_weak (L' := [.null, .null, .null, .null]) ⟨Or.inl rfl, Or.inl rfl, Or.inl rfl, Or.inl rfl, trivial⟩ ?_
        exact x_X11_word_27 hC hE hk0 h_r0 _
set_option maxRecDepth 100000 in
set_option maxHeartbeats 4000000 in
theorem t_X11_word {n : Nat} {r0 : Nat} {x1 : Int32} {x2 : Int32} {x3 : Int32} {M : Mem} (h_r0 : zO n r0 11) (x : (Int32 × Mem)) (hx : f_X11_word r0 x1 x2 x3 M = some x) (l : Launch) (dC : Nat → ClassId) (dI : Nat → Nat → Nat) (b : zSg) : MT l dC dI b yX11_word cX11_word 4 (some .int) 2 0 0 n n [.ref r0, .int x1, .int x2, .int x3] M (emI x).1 (emI x).2 :=
  MT.ofX (by decide +kernel) rfl (Nat.le_of_ble_eq_true rfl) (fun κ hC hF _ => x_X11_word hC (zEnd_of hF (Nat.le_refl _) (Nat.le_refl _)) (zRk_of hF (Nat.le_refl _) (Nat.le_refl _)) _ _ _ _ _ h_r0) x hx
set_option maxRecDepth 100000 in
def dt_X11_weight : List (Nat × Instr × Nat) := [(0, .aload_n 0, 1), (1, .getfield 120, 3), (4, .ifCond .eq 28, 3), (7, .iload_n 1, 1), (8, .ifCond .lt 24, 3), (11, .iload_n 1, 1), (12, .bipush 63, 2), (14, .if_icmp .gt 18, 3), (17, .aload_n 0, 1), (18, .getfield 82, 3), (21, .getfield 141, 3), (24, .getfield 156, 3), (27, .bipush 12, 2), (29, .if_icmp .le 5, 3), (32, .iconst (-1), 1), (33, .ireturn, 1), (34, .aload_n 0, 1), (35, .getfield 82, 3), (38, .getfield 141, 3), (41, .iload_n 1, 1), (42, .invokevirtual 212, 3), (45, .ireturn, 1)]
set_option maxRecDepth 100000 in
theorem dk_X11_weight : dt_X11_weight.all (fun q => decide (decode cX11_weight q.1 = .ok q.2)) = true := by decide +kernel
set_option maxRecDepth 100000 in
def f_X11_weight_32  (r0 : Nat) (x1 : Int32)  (M : Mem) : Option (Int32 × Mem) := some ((-1), M)
set_option maxRecDepth 100000 in
set_option maxHeartbeats 4000000 in
theorem x_X11_weight_32 {κ : KX} {n : Nat} (hC : CX κ cX11_weight RX11 2 (some .int) 2) (hE : zEnd κ n (0, 0)) (hk0 : zRk κ (0, 0)) {r0 : Nat} {x1 : Int32} (h_r0 : zO n r0 11) (M : Mem) : X κ 2 emI n (0, 0) 32 [.null, .null] [] M (f_X11_weight_32 r0 x1 M) := by
  unfold f_X11_weight_32
  refine x_iconst (i := (-1)) c_iconst_m1 hC (zdk dk_X11_weight 14 rfl) (q := 33) rfl ?_
  exact x_iret (ty := .int) rfl hE hC (zdk dk_X11_weight 15 rfl)
set_option maxRecDepth 100000 in
def f_X11_weight (r0 : Nat) (x1 : Int32) (M : Mem) : Option (Int32 × Mem) := (if zI M r0 14 = 0 then f_X11_weight_32 r0 x1 M else (if x1 < 0 then f_X11_weight_32 r0 x1 M else (if 63 < x1 then f_X11_weight_32 r0 x1 M else Option.bind (zrf M r0 11) fun q1 => Option.bind (zrf M q1 0) fun q2 => (if zI M q2 11 ≤ 12 then Option.bind (zrf M r0 11) fun q3 => Option.bind (zrf M q3 0) fun q4 => Option.bind (f_X1_wordsOfWeight q4 x1 M) fun z5 => some (z5.1, z5.2) else f_X11_weight_32 r0 x1 M))))
set_option maxRecDepth 100000 in
set_option maxHeartbeats 4000000 in
theorem x_X11_weight {κ : KX} {n : Nat} (hC : CX κ cX11_weight RX11 2 (some .int) 2) (hE : zEnd κ n (0, 0)) (hk0 : zRk κ (0, 0)) (r0 : Nat) (x1 : Int32) (M : Mem) (h_r0 : zO n r0 11) : X κ 2 emI n (0, 0) 0 [.ref r0, .int x1] [] M (f_X11_weight r0 x1 M) := by
  unfold f_X11_weight
  refine x_aload_n (i := 0) rfl hC (zdk dk_X11_weight 0 rfl) (q := 1) rfl ?_
  refine x_getI fl_RX11_120 (by decide) h_r0 hC (zdk dk_X11_weight 1 rfl) (q := 4) rfl ?_
  refine x_if_eq (tgt := 32) hC (zdk dk_X11_weight 2 rfl) (q := 7) rfl rfl (fun _ => ?_) (fun _ => ?_)
  · refine x_weak (L' := [.null, .null]) ⟨Or.inl rfl, Or.inl rfl, trivial⟩ ?_
    exact x_X11_weight_32 hC hE hk0 h_r0 _
  · refine x_iload_n (i := 1) rfl hC (zdk dk_X11_weight 3 rfl) (q := 8) rfl ?_
    refine x_if_lt (tgt := 32) hC (zdk dk_X11_weight 4 rfl) (q := 11) rfl rfl (fun _ => ?_) (fun _ => ?_)
    · refine x_weak (L' := [.null, .null]) ⟨Or.inl rfl, Or.inl rfl, trivial⟩ ?_
      exact x_X11_weight_32 hC hE hk0 h_r0 _
    · refine x_iload_n (i := 1) rfl hC (zdk dk_X11_weight 5 rfl) (q := 12) rfl ?_
      refine x_bipush (i := 63) c_bipush_63 hC (zdk dk_X11_weight 6 rfl) (q := 14) rfl ?_
      refine x_icmp_gt (tgt := 32) hC (zdk dk_X11_weight 7 rfl) (q := 17) rfl rfl (fun _ => ?_) (fun _ => ?_)
      · refine x_weak (L' := [.null, .null]) ⟨Or.inl rfl, Or.inl rfl, trivial⟩ ?_
        exact x_X11_weight_32 hC hE hk0 h_r0 _
      · refine x_aload_n (i := 0) rfl hC (zdk dk_X11_weight 8 rfl) (q := 18) rfl ?_
        refine x_getR (k := 0) fl_RX11_82 rfl h_r0 hC (zdk dk_X11_weight 9 rfl) (q := 21) rfl (fun q1 hq1 => ?_)
        refine x_getR (k := 1) fl_RX11_141 rfl hq1 hC (zdk dk_X11_weight 10 rfl) (q := 24) rfl (fun q2 hq2 => ?_)
        refine x_getI fl_RX11_156 (by decide) hq2 hC (zdk dk_X11_weight 11 rfl) (q := 27) rfl ?_
        refine x_bipush (i := 12) c_bipush_12 hC (zdk dk_X11_weight 12 rfl) (q := 29) rfl ?_
        refine x_icmp_le (tgt := 34) hC (zdk dk_X11_weight 13 rfl) (q := 32) rfl rfl (fun _ => ?_) (fun _ => ?_)
        · refine x_aload_n (i := 0) rfl hC (zdk dk_X11_weight 16 rfl) (q := 35) rfl ?_
          refine x_getR (k := 0) fl_RX11_82 rfl h_r0 hC (zdk dk_X11_weight 17 rfl) (q := 38) rfl (fun q3 hq3 => ?_)
          refine x_getR (k := 1) fl_RX11_141 rfl hq3 hC (zdk dk_X11_weight 18 rfl) (q := 41) rfl (fun q4 hq4 => ?_)
          refine x_iload_n (i := 1) rfl hC (zdk dk_X11_weight 19 rfl) (q := 42) rfl ?_
          refine x_callVi (as := [.int x1]) cb_RX11_212 rfl (by decide) hk0 hq4 (fun x hx => t_X1_wordsOfWeight hq4 x hx) hC (zdk dk_X11_weight 20 rfl) (q := 45) rfl rfl (Nat.le_of_ble_eq_true rfl) (fun z5 => ?_)
          exact x_iret (ty := .int) rfl hE hC (zdk dk_X11_weight 21 rfl)
        · refine x_weak (L' := [.null, .null]) ⟨Or.inl rfl, Or.inl rfl, trivial⟩ ?_
          exact x_X11_weight_32 hC hE hk0 h_r0 _
set_option maxRecDepth 100000 in
set_option maxHeartbeats 4000000 in
theorem t_X11_weight {n : Nat} {r0 : Nat} {x1 : Int32} {M : Mem} (h_r0 : zO n r0 11) (x : (Int32 × Mem)) (hx : f_X11_weight r0 x1 M = some x) (l : Launch) (dC : Nat → ClassId) (dI : Nat → Nat → Nat) (b : zSg) : MT l dC dI b yX11_weight cX11_weight 2 (some .int) 2 0 0 n n [.ref r0, .int x1] M (emI x).1 (emI x).2 :=
  MT.ofX (by decide +kernel) rfl (Nat.le_of_ble_eq_true rfl) (fun κ hC hF _ => x_X11_weight hC (zEnd_of hF (Nat.le_refl _) (Nat.le_refl _)) (zRk_of hF (Nat.le_refl _) (Nat.le_refl _)) _ _ _ h_r0) x hx
set_option maxRecDepth 100000 in
def dt_X11_patterns : List (Nat × Instr × Nat) := [(0, .aload_n 0, 1), (1, .getfield 120, 3), (4, .ifCond .eq 36, 3), (7, .iload_n 1, 1), (8, .iconst 1, 1), (9, .if_icmp .lt 31, 3), (12, .iload_n 1, 1), (13, .iconst 3, 1), (14, .if_icmp .gt 26, 3), (17, .iload_n 1, 1), (18, .aload_n 0, 1), (19, .getfield 82, 3), (22, .getfield 141, 3), (25, .getfield 153, 3), (28, .if_icmp .gt 12, 3), (31, .iload_n 2, 1), (32, .ifCond .lt 8, 3), (35, .iload_n 2, 1), (36, .iconst 2, 1), (37, .if_icmp .le 5, 3), (40, .iconst (-1), 1), (41, .ireturn, 1), (42, .aload_n 0, 1), (43, .getfield 82, 3), (46, .getfield 141, 3), (49, .astore_n 3, 1), (50, .aload_n 3, 1), (51, .iload_n 1, 1), (52, .invokevirtual 215, 3), (55, .istore 4, 2), (57, .iload_n 1, 1), (58, .aload_n 3, 1), (59, .getfield 218, 3), (62, .if_icmp .gt 14, 3), (65, .iload_n 2, 1), (66, .ifCond .ne 8, 3), (69, .iload 4, 2), (71, .goto 4, 3), (74, .iconst 0, 1), (75, .ireturn, 1), (76, .iload_n 2, 1), (77, .ifCond .ne 5, 3), (80, .iconst 0, 1), (81, .ireturn, 1), (82, .aload_n 3, 1), (83, .iload_n 1, 1), (84, .invokevirtual 221, 3), (87, .istore 5, 2), (89, .iload_n 2, 1), (90, .iconst 1, 1), (91, .if_icmp .ne 8, 3), (94, .iload 5, 2), (96, .goto 8, 3), (99, .iload 4, 2), (101, .iload 5, 2), (103, .isub, 1), (104, .ireturn, 1)]
set_option maxRecDepth 100000 in
theorem dk_X11_patterns : dt_X11_patterns.all (fun q => decide (decode cX11_patterns q.1 = .ok q.2)) = true := by decide +kernel
set_option maxRecDepth 100000 in
def f_X11_patterns_40  (r0 : Nat) (x1 : Int32) (x2 : Int32)  (M : Mem) : Option (Int32 × Mem) := some ((-1), M)
set_option maxRecDepth 100000 in
set_option maxHeartbeats 4000000 in
theorem x_X11_patterns_40 {κ : KX} {n : Nat} (hC : CX κ cX11_patterns RX11 6 (some .int) 3) (hE : zEnd κ n (0, 0)) (hk0 : zRk κ (0, 0)) {r0 : Nat} {x1 : Int32} {x2 : Int32} (h_r0 : zO n r0 11) (M : Mem) : X κ 6 emI n (0, 0) 40 [.null, .null, .null, .null, .null, .null] [] M (f_X11_patterns_40 r0 x1 x2 M) := by
  unfold f_X11_patterns_40
  refine x_iconst (i := (-1)) c_iconst_m1 hC (zdk dk_X11_patterns 20 rfl) (q := 41) rfl ?_
  exact x_iret (ty := .int) rfl hE hC (zdk dk_X11_patterns 21 rfl)
set_option maxRecDepth 100000 in
def f_X11_patterns_75  (r0 : Nat) (x1 : Int32) (x2 : Int32) (s0 : Int32) (M : Mem) : Option (Int32 × Mem) := some (s0, M)
set_option maxRecDepth 100000 in
set_option maxHeartbeats 4000000 in
theorem x_X11_patterns_75 {κ : KX} {n : Nat} (hC : CX κ cX11_patterns RX11 6 (some .int) 3) (hE : zEnd κ n (0, 0)) (hk0 : zRk κ (0, 0)) {r0 : Nat} {x1 : Int32} {x2 : Int32} (h_r0 : zO n r0 11) (s0 : Int32) (M : Mem) : X κ 6 emI n (0, 0) 75 [.null, .null, .null, .null, .null, .null] [.int s0] M (f_X11_patterns_75 r0 x1 x2 s0 M) := by
  unfold f_X11_patterns_75
  exact x_iret (ty := .int) rfl hE hC (zdk dk_X11_patterns 39 rfl)
set_option maxRecDepth 100000 in
def f_X11_patterns_104  (r0 : Nat) (x1 : Int32) (x2 : Int32) (s0 : Int32) (M : Mem) : Option (Int32 × Mem) := some (s0, M)
set_option maxRecDepth 100000 in
set_option maxHeartbeats 4000000 in
theorem x_X11_patterns_104 {κ : KX} {n : Nat} (hC : CX κ cX11_patterns RX11 6 (some .int) 3) (hE : zEnd κ n (0, 0)) (hk0 : zRk κ (0, 0)) {r0 : Nat} {x1 : Int32} {x2 : Int32} (h_r0 : zO n r0 11) (s0 : Int32) (M : Mem) : X κ 6 emI n (0, 0) 104 [.null, .null, .null, .null, .null, .null] [.int s0] M (f_X11_patterns_104 r0 x1 x2 s0 M) := by
  unfold f_X11_patterns_104
  exact x_iret (ty := .int) rfl hE hC (zdk dk_X11_patterns 56 rfl)
set_option maxRecDepth 100000 in
def f_X11_patterns (r0 : Nat) (x1 : Int32) (x2 : Int32) (M : Mem) : Option (Int32 × Mem) := (if zI M r0 14 = 0 then f_X11_patterns_40 r0 x1 x2 M else (if x1 < 1 then f_X11_patterns_40 r0 x1 x2 M else (if 3 < x1 then f_X11_patterns_40 r0 x1 x2 M else Option.bind (zrf M r0 11) fun q1 => Option.bind (zrf M q1 0) fun q2 => (if zI M q2 10 < x1 then f_X11_patterns_40 r0 x1 x2 M else (if x2 < 0 then f_X11_patterns_40 r0 x1 x2 M else (if x2 ≤ 2 then Option.bind (zrf M r0 11) fun q3 => Option.bind (zrf M q3 0) fun q4 => Option.bind (f_X1_patternCount q4 x1 M) fun z5 => (if zI z5.2 q4 8 < x1 then (if x2 = 0 then some (0, z5.2) else Option.bind (f_X1_missedCount q4 x1 z5.2) fun z6 => (if x2 = 1 then f_X11_patterns_104 r0 x1 x2 z6.1 z6.2 else f_X11_patterns_104 r0 x1 x2 (z5.1 - z6.1) z6.2)) else (if x2 = 0 then f_X11_patterns_75 r0 x1 x2 z5.1 z5.2 else f_X11_patterns_75 r0 x1 x2 0 z5.2)) else f_X11_patterns_40 r0 x1 x2 M))))))
set_option maxRecDepth 100000 in
set_option maxHeartbeats 4000000 in
theorem x_X11_patterns {κ : KX} {n : Nat} (hC : CX κ cX11_patterns RX11 6 (some .int) 3) (hE : zEnd κ n (0, 0)) (hk0 : zRk κ (0, 0)) (r0 : Nat) (x1 : Int32) (x2 : Int32) (M : Mem) (h_r0 : zO n r0 11) : X κ 6 emI n (0, 0) 0 [.ref r0, .int x1, .int x2, .null, .null, .null] [] M (f_X11_patterns r0 x1 x2 M) := by
  unfold f_X11_patterns
  refine x_aload_n (i := 0) rfl hC (zdk dk_X11_patterns 0 rfl) (q := 1) rfl ?_
  refine x_getI fl_RX11_120 (by decide) h_r0 hC (zdk dk_X11_patterns 1 rfl) (q := 4) rfl ?_
  refine x_if_eq (tgt := 40) hC (zdk dk_X11_patterns 2 rfl) (q := 7) rfl rfl (fun _ => ?_) (fun _ => ?_)
  · refine x_weak (L' := [.null, .null, .null, .null, .null, .null]) ⟨Or.inl rfl, Or.inl rfl, Or.inl rfl, Or.inl rfl, Or.inl rfl, Or.inl rfl, trivial⟩ ?_
    exact x_X11_patterns_40 hC hE hk0 h_r0 _
  · refine x_iload_n (i := 1) rfl hC (zdk dk_X11_patterns 3 rfl) (q := 8) rfl ?_
    refine x_iconst (i := 1) c_iconst_1 hC (zdk dk_X11_patterns 4 rfl) (q := 9) rfl ?_
    refine x_icmp_lt (tgt := 40) hC (zdk dk_X11_patterns 5 rfl) (q := 12) rfl rfl (fun _ => ?_) (fun _ => ?_)
    · refine x_weak (L' := [.null, .null, .null, .null, .null, .null]) ⟨Or.inl rfl, Or.inl rfl, Or.inl rfl, Or.inl rfl, Or.inl rfl, Or.inl rfl, trivial⟩ ?_
      exact x_X11_patterns_40 hC hE hk0 h_r0 _
    · refine x_iload_n (i := 1) rfl hC (zdk dk_X11_patterns 6 rfl) (q := 13) rfl ?_
      refine x_iconst (i := 3) c_iconst_3 hC (zdk dk_X11_patterns 7 rfl) (q := 14) rfl ?_
      refine x_icmp_gt (tgt := 40) hC (zdk dk_X11_patterns 8 rfl) (q := 17) rfl rfl (fun _ => ?_) (fun _ => ?_)
      · refine x_weak (L' := [.null, .null, .null, .null, .null, .null]) ⟨Or.inl rfl, Or.inl rfl, Or.inl rfl, Or.inl rfl, Or.inl rfl, Or.inl rfl, trivial⟩ ?_
        exact x_X11_patterns_40 hC hE hk0 h_r0 _
      · refine x_iload_n (i := 1) rfl hC (zdk dk_X11_patterns 9 rfl) (q := 18) rfl ?_
        refine x_aload_n (i := 0) rfl hC (zdk dk_X11_patterns 10 rfl) (q := 19) rfl ?_
        refine x_getR (k := 0) fl_RX11_82 rfl h_r0 hC (zdk dk_X11_patterns 11 rfl) (q := 22) rfl (fun q1 hq1 => ?_)
        refine x_getR (k := 1) fl_RX11_141 rfl hq1 hC (zdk dk_X11_patterns 12 rfl) (q := 25) rfl (fun q2 hq2 => ?_)
        refine x_getI fl_RX11_153 (by decide) hq2 hC (zdk dk_X11_patterns 13 rfl) (q := 28) rfl ?_
        refine x_icmp_gt (tgt := 40) hC (zdk dk_X11_patterns 14 rfl) (q := 31) rfl rfl (fun _ => ?_) (fun _ => ?_)
        · refine x_weak (L' := [.null, .null, .null, .null, .null, .null]) ⟨Or.inl rfl, Or.inl rfl, Or.inl rfl, Or.inl rfl, Or.inl rfl, Or.inl rfl, trivial⟩ ?_
          exact x_X11_patterns_40 hC hE hk0 h_r0 _
        · refine x_iload_n (i := 2) rfl hC (zdk dk_X11_patterns 15 rfl) (q := 32) rfl ?_
          refine x_if_lt (tgt := 40) hC (zdk dk_X11_patterns 16 rfl) (q := 35) rfl rfl (fun _ => ?_) (fun _ => ?_)
          · refine x_weak (L' := [.null, .null, .null, .null, .null, .null]) ⟨Or.inl rfl, Or.inl rfl, Or.inl rfl, Or.inl rfl, Or.inl rfl, Or.inl rfl, trivial⟩ ?_
            exact x_X11_patterns_40 hC hE hk0 h_r0 _
          · refine x_iload_n (i := 2) rfl hC (zdk dk_X11_patterns 17 rfl) (q := 36) rfl ?_
            refine x_iconst (i := 2) c_iconst_2 hC (zdk dk_X11_patterns 18 rfl) (q := 37) rfl ?_
            refine x_icmp_le (tgt := 42) hC (zdk dk_X11_patterns 19 rfl) (q := 40) rfl rfl (fun _ => ?_) (fun _ => ?_)
            · refine x_aload_n (i := 0) rfl hC (zdk dk_X11_patterns 22 rfl) (q := 43) rfl ?_
              refine x_getR (k := 0) fl_RX11_82 rfl h_r0 hC (zdk dk_X11_patterns 23 rfl) (q := 46) rfl (fun q3 hq3 => ?_)
              refine x_getR (k := 1) fl_RX11_141 rfl hq3 hC (zdk dk_X11_patterns 24 rfl) (q := 49) rfl (fun q4 hq4 => ?_)
              refine x_astore_n (i := 3) (L' := [.ref r0, .int x1, .int x2, .ref q4, .null, .null]) (by decide) rfl hC (zdk dk_X11_patterns 25 rfl) (q := 50) rfl ?_
              refine x_aload_n (i := 3) rfl hC (zdk dk_X11_patterns 26 rfl) (q := 51) rfl ?_
              refine x_iload_n (i := 1) rfl hC (zdk dk_X11_patterns 27 rfl) (q := 52) rfl ?_
              refine x_callVi (as := [.int x1]) cb_RX11_215 rfl (by decide) hk0 hq4 (fun x hx => t_X1_patternCount hq4 x hx) hC (zdk dk_X11_patterns 28 rfl) (q := 55) rfl rfl (Nat.le_of_ble_eq_true rfl) (fun z5 => ?_)
              refine x_istore (i := 4) (L' := [.ref r0, .int x1, .int x2, .ref q4, .int z5.1, .null]) (by decide) rfl hC (zdk dk_X11_patterns 29 rfl) (q := 57) rfl ?_
              refine x_iload_n (i := 1) rfl hC (zdk dk_X11_patterns 30 rfl) (q := 58) rfl ?_
              refine x_aload_n (i := 3) rfl hC (zdk dk_X11_patterns 31 rfl) (q := 59) rfl ?_
              refine x_getI fl_RX11_218 (by decide) hq4 hC (zdk dk_X11_patterns 32 rfl) (q := 62) rfl ?_
              refine x_icmp_gt (tgt := 76) hC (zdk dk_X11_patterns 33 rfl) (q := 65) rfl rfl (fun _ => ?_) (fun _ => ?_)
              · refine x_iload_n (i := 2) rfl hC (zdk dk_X11_patterns 40 rfl) (q := 77) rfl ?_
                refine x_if_ne (tgt := 82) hC (zdk dk_X11_patterns 41 rfl) (q := 80) rfl rfl (fun _ => ?_) (fun _ => ?_)
                · refine x_aload_n (i := 3) rfl hC (zdk dk_X11_patterns 44 rfl) (q := 83) rfl ?_
                  refine x_iload_n (i := 1) rfl hC (zdk dk_X11_patterns 45 rfl) (q := 84) rfl ?_
                  refine x_callVi (as := [.int x1]) cb_RX11_221 rfl (by decide) hk0 hq4 (fun x hx => t_X1_missedCount hq4 x hx) hC (zdk dk_X11_patterns 46 rfl) (q := 87) rfl rfl (Nat.le_of_ble_eq_true rfl) (fun z6 => ?_)
                  refine x_istore (i := 5) (L' := [.ref r0, .int x1, .int x2, .ref q4, .int z5.1, .int z6.1]) (by decide) rfl hC (zdk dk_X11_patterns 47 rfl) (q := 89) rfl ?_
                  refine x_iload_n (i := 2) rfl hC (zdk dk_X11_patterns 48 rfl) (q := 90) rfl ?_
                  refine x_iconst (i := 1) c_iconst_1 hC (zdk dk_X11_patterns 49 rfl) (q := 91) rfl ?_
                  refine x_icmp_ne (tgt := 99) hC (zdk dk_X11_patterns 50 rfl) (q := 94) rfl rfl (fun _ => ?_) (fun _ => ?_)
                  · refine x_iload (i := 4) rfl hC (zdk dk_X11_patterns 53 rfl) (q := 101) rfl ?_
                    refine x_iload (i := 5) rfl hC (zdk dk_X11_patterns 54 rfl) (q := 103) rfl ?_
                    refine x_isub hC (zdk dk_X11_patterns 55 rfl) (q := 104) rfl ?_
                    refine x_weak (L' := [.null, .null, .null, .null, .null, .null]) ⟨Or.inl rfl, Or.inl rfl, Or.inl rfl, Or.inl rfl, Or.inl rfl, Or.inl rfl, trivial⟩ ?_
                    exact x_X11_patterns_104 hC hE hk0 h_r0 _ _
                  · refine x_iload (i := 5) rfl hC (zdk dk_X11_patterns 51 rfl) (q := 96) rfl ?_
                    refine x_goto (tgt := 104) hC (zdk dk_X11_patterns 52 rfl) rfl ?_
                    refine x_weak (L' := [.null, .null, .null, .null, .null, .null]) ⟨Or.inl rfl, Or.inl rfl, Or.inl rfl, Or.inl rfl, Or.inl rfl, Or.inl rfl, trivial⟩ ?_
                    exact x_X11_patterns_104 hC hE hk0 h_r0 _ _
                · refine x_iconst (i := 0) c_iconst_0 hC (zdk dk_X11_patterns 42 rfl) (q := 81) rfl ?_
                  exact x_iret (ty := .int) rfl hE hC (zdk dk_X11_patterns 43 rfl)
              · refine x_iload_n (i := 2) rfl hC (zdk dk_X11_patterns 34 rfl) (q := 66) rfl ?_
                refine x_if_ne (tgt := 74) hC (zdk dk_X11_patterns 35 rfl) (q := 69) rfl rfl (fun _ => ?_) (fun _ => ?_)
                · refine x_iconst (i := 0) c_iconst_0 hC (zdk dk_X11_patterns 38 rfl) (q := 75) rfl ?_
                  refine x_weak (L' := [.null, .null, .null, .null, .null, .null]) ⟨Or.inl rfl, Or.inl rfl, Or.inl rfl, Or.inl rfl, Or.inl rfl, Or.inl rfl, trivial⟩ ?_
                  exact x_X11_patterns_75 hC hE hk0 h_r0 _ _
                · refine x_iload (i := 4) rfl hC (zdk dk_X11_patterns 36 rfl) (q := 71) rfl ?_
                  refine x_goto (tgt := 75) hC (zdk dk_X11_patterns 37 rfl) rfl ?_
                  refine x_weak (L' := [.null, .null, .null, .null, .null, .null]) ⟨Or.inl rfl, Or.inl rfl, Or.inl rfl, Or.inl rfl, Or.inl rfl, Or.inl rfl, trivial⟩ ?_
                  exact x_X11_patterns_75 hC hE hk0 h_r0 _ _
            · refine x_weak (L' := [.null, .null, .null, .null, .null, .null]) ⟨Or.inl rfl, Or.inl rfl, Or.inl rfl, Or.inl rfl, Or.inl rfl, Or.inl rfl, trivial⟩ ?_
              exact x_X11_patterns_40 hC hE hk0 h_r0 _
set_option maxRecDepth 100000 in
set_option maxHeartbeats 4000000 in
theorem t_X11_patterns {n : Nat} {r0 : Nat} {x1 : Int32} {x2 : Int32} {M : Mem} (h_r0 : zO n r0 11) (x : (Int32 × Mem)) (hx : f_X11_patterns r0 x1 x2 M = some x) (l : Launch) (dC : Nat → ClassId) (dI : Nat → Nat → Nat) (b : zSg) : MT l dC dI b yX11_patterns cX11_patterns 6 (some .int) 3 0 0 n n [.ref r0, .int x1, .int x2] M (emI x).1 (emI x).2 :=
  MT.ofX (by decide +kernel) rfl (Nat.le_of_ble_eq_true rfl) (fun κ hC hF _ => x_X11_patterns hC (zEnd_of hF (Nat.le_refl _) (Nat.le_refl _)) (zRk_of hF (Nat.le_refl _) (Nat.le_refl _)) _ _ _ _ h_r0) x hx
set_option maxRecDepth 100000 in
def dt_X11_page : List (Nat × Instr × Nat) := [(0, .aload_n 0, 1), (1, .iload_n 1, 1), (2, .invokevirtual 176, 3), (5, .ifCond .eq 12, 3), (8, .iload_n 2, 1), (9, .ifCond .lt 8, 3), (12, .iload_n 2, 1), (13, .iconst 2, 1), (14, .if_icmp .le 5, 3), (17, .iconst (-1), 1), (18, .ireturn, 1), (19, .aload_n 0, 1), (20, .getfield 42, 3), (23, .getfield 224, 3), (26, .iload_n 1, 1), (27, .aaload, 1), (28, .astore_n 3, 1), (29, .aload_n 3, 1), (30, .getfield 227, 3), (33, .ifCond .ne 5, 3), (36, .iconst 0, 1), (37, .ireturn, 1), (38, .iload_n 2, 1), (39, .ifCond .ne 5, 3), (42, .iconst 1, 1), (43, .ireturn, 1), (44, .iload_n 2, 1), (45, .iconst 1, 1), (46, .if_icmp .ne 10, 3), (49, .aload_n 3, 1), (50, .getfield 230, 3), (53, .goto 10, 3), (56, .aload_n 3, 1), (57, .getfield 233, 3), (60, .invokestatic 236, 3), (63, .ireturn, 1)]
set_option maxRecDepth 100000 in
theorem dk_X11_page : dt_X11_page.all (fun q => decide (decode cX11_page q.1 = .ok q.2)) = true := by decide +kernel
set_option maxRecDepth 100000 in
def f_X11_page_17  (r0 : Nat) (x1 : Int32) (x2 : Int32)  (M : Mem) : Option (Int32 × Mem) := some ((-1), M)
set_option maxRecDepth 100000 in
set_option maxHeartbeats 4000000 in
theorem x_X11_page_17 {κ : KX} {n : Nat} (hC : CX κ cX11_page RX11 4 (some .int) 1) (hE : zEnd κ n (0, 0)) (hk0 : zRk κ (0, 0)) {r0 : Nat} {x1 : Int32} {x2 : Int32} (h_r0 : zO n r0 11) (M : Mem) : X κ 4 emI n (0, 0) 17 [.null, .null, .null, .null] [] M (f_X11_page_17 r0 x1 x2 M) := by
  unfold f_X11_page_17
  refine x_iconst (i := (-1)) c_iconst_m1 hC (zdk dk_X11_page 9 rfl) (q := 18) rfl ?_
  exact x_iret (ty := .int) rfl hE hC (zdk dk_X11_page 10 rfl)
set_option maxRecDepth 100000 in
def f_X11_page_63  (r0 : Nat) (x1 : Int32) (x2 : Int32) (s0 : Int32) (M : Mem) : Option (Int32 × Mem) := some (s0, M)
set_option maxRecDepth 100000 in
set_option maxHeartbeats 4000000 in
theorem x_X11_page_63 {κ : KX} {n : Nat} (hC : CX κ cX11_page RX11 4 (some .int) 1) (hE : zEnd κ n (0, 0)) (hk0 : zRk κ (0, 0)) {r0 : Nat} {x1 : Int32} {x2 : Int32} (h_r0 : zO n r0 11) (s0 : Int32) (M : Mem) : X κ 4 emI n (0, 0) 63 [.null, .null, .null, .null] [.int s0] M (f_X11_page_63 r0 x1 x2 s0 M) := by
  unfold f_X11_page_63
  exact x_iret (ty := .int) rfl hE hC (zdk dk_X11_page 35 rfl)
set_option maxRecDepth 100000 in
def f_X11_page (r0 : Nat) (x1 : Int32) (x2 : Int32) (M : Mem) : Option (Int32 × Mem) := Option.bind (f_X11_isPage r0 x1 M) fun z1 => (if z1.1 = 0 then f_X11_page_17 r0 x1 x2 z1.2 else (if x2 < 0 then f_X11_page_17 r0 x1 x2 z1.2 else (if x2 ≤ 2 then Option.bind (zrf z1.2 r0 5) fun q2 => Option.bind (zrf z1.2 q2 0) fun q3 => Option.bind (zld q3 x1) fun k4 => Option.bind (zrf z1.2 q3 k4) fun q5 => (if zI z1.2 q5 2 = 0 then some (0, z1.2) else (if x2 = 0 then some (1, z1.2) else (if x2 = 1 then f_X11_page_63 r0 x1 x2 (zI z1.2 q5 3) z1.2 else Option.bind (f_J13_bitCount_95d88 (zL z1.2 q5 4) z1.2) fun z6 => f_X11_page_63 r0 x1 x2 z6.1 z6.2))) else f_X11_page_17 r0 x1 x2 z1.2)))
set_option maxRecDepth 100000 in
set_option maxHeartbeats 4000000 in
theorem x_X11_page {κ : KX} {n : Nat} (hC : CX κ cX11_page RX11 4 (some .int) 1) (hE : zEnd κ n (0, 0)) (hk0 : zRk κ (0, 0)) (r0 : Nat) (x1 : Int32) (x2 : Int32) (M : Mem) (h_r0 : zO n r0 11) : X κ 4 emI n (0, 0) 0 [.ref r0, .int x1, .int x2, .null] [] M (f_X11_page r0 x1 x2 M) := by
  unfold f_X11_page
  refine x_aload_n (i := 0) rfl hC (zdk dk_X11_page 0 rfl) (q := 1) rfl ?_
  refine x_iload_n (i := 1) rfl hC (zdk dk_X11_page 1 rfl) (q := 2) rfl ?_
  refine x_callVi (as := [.int x1]) cb_RX11_176 rfl (by decide) hk0 h_r0 (fun x hx => t_X11_isPage h_r0 x hx) hC (zdk dk_X11_page 2 rfl) (q := 5) rfl rfl (Nat.le_of_ble_eq_true rfl) (fun z1 => ?_)
  refine x_if_eq (tgt := 17) hC (zdk dk_X11_page 3 rfl) (q := 8) rfl rfl (fun _ => ?_) (fun _ => ?_)
  · refine x_weak (L' := [.null, .null, .null, .null]) ⟨Or.inl rfl, Or.inl rfl, Or.inl rfl, Or.inl rfl, trivial⟩ ?_
    exact x_X11_page_17 hC hE hk0 h_r0 _
  · refine x_iload_n (i := 2) rfl hC (zdk dk_X11_page 4 rfl) (q := 9) rfl ?_
    refine x_if_lt (tgt := 17) hC (zdk dk_X11_page 5 rfl) (q := 12) rfl rfl (fun _ => ?_) (fun _ => ?_)
    · refine x_weak (L' := [.null, .null, .null, .null]) ⟨Or.inl rfl, Or.inl rfl, Or.inl rfl, Or.inl rfl, trivial⟩ ?_
      exact x_X11_page_17 hC hE hk0 h_r0 _
    · refine x_iload_n (i := 2) rfl hC (zdk dk_X11_page 6 rfl) (q := 13) rfl ?_
      refine x_iconst (i := 2) c_iconst_2 hC (zdk dk_X11_page 7 rfl) (q := 14) rfl ?_
      refine x_icmp_le (tgt := 19) hC (zdk dk_X11_page 8 rfl) (q := 17) rfl rfl (fun _ => ?_) (fun _ => ?_)
      · refine x_aload_n (i := 0) rfl hC (zdk dk_X11_page 11 rfl) (q := 20) rfl ?_
        refine x_getR (k := 5) fl_RX11_42 rfl h_r0 hC (zdk dk_X11_page 12 rfl) (q := 23) rfl (fun q2 hq2 => ?_)
        refine x_getR (k := 23) fl_RX11_224 rfl hq2 hC (zdk dk_X11_page 13 rfl) (q := 26) rfl (fun q3 hq3 => ?_)
        refine x_iload_n (i := 1) rfl hC (zdk dk_X11_page 14 rfl) (q := 27) rfl ?_
        refine x_aald (kd := 23) (ke := 8) hq3 (by decide) rfl hC (zdk dk_X11_page 15 rfl) (q := 28) rfl (fun k4 _ q5 hq5 => ?_)
        refine x_astore_n (i := 3) (L' := [.ref r0, .int x1, .int x2, .ref q5]) (by decide) rfl hC (zdk dk_X11_page 16 rfl) (q := 29) rfl ?_
        refine x_aload_n (i := 3) rfl hC (zdk dk_X11_page 17 rfl) (q := 30) rfl ?_
        refine x_getI fl_RX11_227 (by decide) hq5 hC (zdk dk_X11_page 18 rfl) (q := 33) rfl ?_
        refine x_if_ne (tgt := 38) hC (zdk dk_X11_page 19 rfl) (q := 36) rfl rfl (fun _ => ?_) (fun _ => ?_)
        · refine x_iload_n (i := 2) rfl hC (zdk dk_X11_page 22 rfl) (q := 39) rfl ?_
          refine x_if_ne (tgt := 44) hC (zdk dk_X11_page 23 rfl) (q := 42) rfl rfl (fun _ => ?_) (fun _ => ?_)
          · refine x_iload_n (i := 2) rfl hC (zdk dk_X11_page 26 rfl) (q := 45) rfl ?_
            refine x_iconst (i := 1) c_iconst_1 hC (zdk dk_X11_page 27 rfl) (q := 46) rfl ?_
            refine x_icmp_ne (tgt := 56) hC (zdk dk_X11_page 28 rfl) (q := 49) rfl rfl (fun _ => ?_) (fun _ => ?_)
            · refine x_aload_n (i := 3) rfl hC (zdk dk_X11_page 32 rfl) (q := 57) rfl ?_
              refine x_getL fl_RX11_233 hq5 hC (zdk dk_X11_page 33 rfl) (q := 60) rfl ?_
              refine x_callSi (as := [.long (zL z1.2 q5 4)]) cb_RX11_236 rfl (by decide) hk0 (fun x hx => t_J13_bitCount_95d88  x hx) hC (zdk dk_X11_page 34 rfl) (q := 63) rfl rfl (Nat.le_of_ble_eq_true rfl) (fun z6 => ?_)
              refine x_weak (L' := [.null, .null, .null, .null]) ⟨Or.inl rfl, Or.inl rfl, Or.inl rfl, Or.inl rfl, trivial⟩ ?_
              exact x_X11_page_63 hC hE hk0 h_r0 _ _
            · refine x_aload_n (i := 3) rfl hC (zdk dk_X11_page 29 rfl) (q := 50) rfl ?_
              refine x_getI fl_RX11_230 (by decide) hq5 hC (zdk dk_X11_page 30 rfl) (q := 53) rfl ?_
              refine x_goto (tgt := 63) hC (zdk dk_X11_page 31 rfl) rfl ?_
              refine x_weak (L' := [.null, .null, .null, .null]) ⟨Or.inl rfl, Or.inl rfl, Or.inl rfl, Or.inl rfl, trivial⟩ ?_
              exact x_X11_page_63 hC hE hk0 h_r0 _ _
          · refine x_iconst (i := 1) c_iconst_1 hC (zdk dk_X11_page 24 rfl) (q := 43) rfl ?_
            exact x_iret (ty := .int) rfl hE hC (zdk dk_X11_page 25 rfl)
        · refine x_iconst (i := 0) c_iconst_0 hC (zdk dk_X11_page 20 rfl) (q := 37) rfl ?_
          exact x_iret (ty := .int) rfl hE hC (zdk dk_X11_page 21 rfl)
      · refine x_weak (L' := [.null, .null, .null, .null]) ⟨Or.inl rfl, Or.inl rfl, Or.inl rfl, Or.inl rfl, trivial⟩ ?_
        exact x_X11_page_17 hC hE hk0 h_r0 _
set_option maxRecDepth 100000 in
set_option maxHeartbeats 4000000 in
theorem t_X11_page {n : Nat} {r0 : Nat} {x1 : Int32} {x2 : Int32} {M : Mem} (h_r0 : zO n r0 11) (x : (Int32 × Mem)) (hx : f_X11_page r0 x1 x2 M = some x) (l : Launch) (dC : Nat → ClassId) (dI : Nat → Nat → Nat) (b : zSg) : MT l dC dI b yX11_page cX11_page 4 (some .int) 1 0 0 n n [.ref r0, .int x1, .int x2] M (emI x).1 (emI x).2 :=
  MT.ofX (by decide +kernel) rfl (Nat.le_of_ble_eq_true rfl) (fun κ hC hF _ => x_X11_page hC (zEnd_of hF (Nat.le_refl _) (Nat.le_refl _)) (zRk_of hF (Nat.le_refl _) (Nat.le_refl _)) _ _ _ _ h_r0) x hx
set_option maxRecDepth 100000 in
def dt_X11_daysFit : List (Nat × Instr × Nat) := [(0, .iload_n 1, 1), (1, .bipush 40, 2), (3, .if_icmp .gt 22, 3), (6, .aload_n 0, 1), (7, .getfield 42, 3), (10, .getfield 164, 3), (13, .iload_n 1, 1), (14, .iadd, 1), (15, .sipush 999, 3), (18, .if_icmp .gt 7, 3), (21, .iconst 1, 1), (22, .goto 4, 3), (25, .iconst 0, 1), (26, .ireturn, 1)]
set_option maxRecDepth 100000 in
theorem dk_X11_daysFit : dt_X11_daysFit.all (fun q => decide (decode cX11_daysFit q.1 = .ok q.2)) = true := by decide +kernel
set_option maxRecDepth 100000 in
def f_X11_daysFit_26  (r0 : Nat) (x1 : Int32) (s0 : Int32) (M : Mem) : Option (Int32 × Mem) := zbz s0 (some (s0, M))
set_option maxRecDepth 100000 in
set_option maxHeartbeats 4000000 in
theorem x_X11_daysFit_26 {κ : KX} {n : Nat} (hC : CX κ cX11_daysFit RX11 2 (some .boolean) 0) (hE : zEnd κ n (0, 0)) (hk0 : zRk κ (0, 0)) {r0 : Nat} {x1 : Int32} (h_r0 : zO n r0 11) (s0 : Int32) (M : Mem) : X κ 2 emI n (0, 0) 26 [.null, .null] [.int s0] M (f_X11_daysFit_26 r0 x1 s0 M) := by
  unfold f_X11_daysFit_26
  refine x_bz (fun hb1 => ?_)
  exact x_iret (ty := .boolean) hb1.1 hE hC (zdk dk_X11_daysFit 13 rfl)
set_option maxRecDepth 100000 in
def f_X11_daysFit_25  (r0 : Nat) (x1 : Int32)  (M : Mem) : Option (Int32 × Mem) := f_X11_daysFit_26 r0 x1 0 M
set_option maxRecDepth 100000 in
set_option maxHeartbeats 4000000 in
theorem x_X11_daysFit_25 {κ : KX} {n : Nat} (hC : CX κ cX11_daysFit RX11 2 (some .boolean) 0) (hE : zEnd κ n (0, 0)) (hk0 : zRk κ (0, 0)) {r0 : Nat} {x1 : Int32} (h_r0 : zO n r0 11) (M : Mem) : X κ 2 emI n (0, 0) 25 [.null, .null] [] M (f_X11_daysFit_25 r0 x1 M) := by
  unfold f_X11_daysFit_25
  refine x_iconst (i := 0) c_iconst_0 hC (zdk dk_X11_daysFit 12 rfl) (q := 26) rfl ?_
  refine x_weak (L' := [.null, .null]) ⟨Or.inl rfl, Or.inl rfl, trivial⟩ ?_
  exact x_X11_daysFit_26 hC hE hk0 h_r0 _ _
set_option maxRecDepth 100000 in
def f_X11_daysFit (r0 : Nat) (x1 : Int32) (M : Mem) : Option (Int32 × Mem) := (if 40 < x1 then f_X11_daysFit_25 r0 x1 M else Option.bind (zrf M r0 5) fun q2 => (if 999 < (zI M q2 1) + x1 then f_X11_daysFit_25 r0 x1 M else f_X11_daysFit_26 r0 x1 1 M))
set_option maxRecDepth 100000 in
set_option maxHeartbeats 4000000 in
theorem x_X11_daysFit {κ : KX} {n : Nat} (hC : CX κ cX11_daysFit RX11 2 (some .boolean) 0) (hE : zEnd κ n (0, 0)) (hk0 : zRk κ (0, 0)) (r0 : Nat) (x1 : Int32) (M : Mem) (h_r0 : zO n r0 11) : X κ 2 emI n (0, 0) 0 [.ref r0, .int x1] [] M (f_X11_daysFit r0 x1 M) := by
  unfold f_X11_daysFit
  refine x_iload_n (i := 1) rfl hC (zdk dk_X11_daysFit 0 rfl) (q := 1) rfl ?_
  refine x_bipush (i := 40) c_bipush_40 hC (zdk dk_X11_daysFit 1 rfl) (q := 3) rfl ?_
  refine x_icmp_gt (tgt := 25) hC (zdk dk_X11_daysFit 2 rfl) (q := 6) rfl rfl (fun _ => ?_) (fun _ => ?_)
  · refine x_weak (L' := [.null, .null]) ⟨Or.inl rfl, Or.inl rfl, trivial⟩ ?_
    exact x_X11_daysFit_25 hC hE hk0 h_r0 _
  · refine x_aload_n (i := 0) rfl hC (zdk dk_X11_daysFit 3 rfl) (q := 7) rfl ?_
    refine x_getR (k := 5) fl_RX11_42 rfl h_r0 hC (zdk dk_X11_daysFit 4 rfl) (q := 10) rfl (fun q2 hq2 => ?_)
    refine x_getI fl_RX11_164 (by decide) hq2 hC (zdk dk_X11_daysFit 5 rfl) (q := 13) rfl ?_
    refine x_iload_n (i := 1) rfl hC (zdk dk_X11_daysFit 6 rfl) (q := 14) rfl ?_
    refine x_iadd hC (zdk dk_X11_daysFit 7 rfl) (q := 15) rfl ?_
    refine x_sipush (i := 999) c_sipush_999 hC (zdk dk_X11_daysFit 8 rfl) (q := 18) rfl ?_
    refine x_icmp_gt (tgt := 25) hC (zdk dk_X11_daysFit 9 rfl) (q := 21) rfl rfl (fun _ => ?_) (fun _ => ?_)
    · refine x_weak (L' := [.null, .null]) ⟨Or.inl rfl, Or.inl rfl, trivial⟩ ?_
      exact x_X11_daysFit_25 hC hE hk0 h_r0 _
    · refine x_iconst (i := 1) c_iconst_1 hC (zdk dk_X11_daysFit 10 rfl) (q := 22) rfl ?_
      refine x_goto (tgt := 26) hC (zdk dk_X11_daysFit 11 rfl) rfl ?_
      refine x_weak (L' := [.null, .null]) ⟨Or.inl rfl, Or.inl rfl, trivial⟩ ?_
      exact x_X11_daysFit_26 hC hE hk0 h_r0 _ _
set_option maxRecDepth 100000 in
set_option maxHeartbeats 4000000 in
theorem t_X11_daysFit {n : Nat} {r0 : Nat} {x1 : Int32} {M : Mem} (h_r0 : zO n r0 11) (x : (Int32 × Mem)) (hx : f_X11_daysFit r0 x1 M = some x) (l : Launch) (dC : Nat → ClassId) (dI : Nat → Nat → Nat) (b : zSg) : MT l dC dI b yX11_daysFit cX11_daysFit 2 (some .boolean) 0 0 0 n n [.ref r0, .int x1] M (emI x).1 (emI x).2 :=
  MT.ofX (by decide +kernel) rfl (Nat.le_of_ble_eq_true rfl) (fun κ hC hF _ => x_X11_daysFit hC (zEnd_of hF (Nat.le_refl _) (Nat.le_refl _)) (zRk_of hF (Nat.le_refl _) (Nat.le_refl _)) _ _ _ h_r0) x hx
set_option maxRecDepth 100000 in
def dt_X11_isCell : List (Nat × Instr × Nat) := [(0, .aload_n 0, 1), (1, .getfield 120, 3), (4, .ifCond .eq 25, 3), (7, .iload_n 1, 1), (8, .ifCond .lt 21, 3), (11, .iload_n 1, 1), (12, .aload_n 0, 1), (13, .getfield 82, 3), (16, .getfield 141, 3), (19, .getfield 153, 3), (22, .if_icmp .ge 7, 3), (25, .iconst 1, 1), (26, .goto 4, 3), (29, .iconst 0, 1), (30, .ireturn, 1)]
set_option maxRecDepth 100000 in
theorem dk_X11_isCell : dt_X11_isCell.all (fun q => decide (decode cX11_isCell q.1 = .ok q.2)) = true := by decide +kernel
set_option maxRecDepth 100000 in
def f_X11_isCell_30  (r0 : Nat) (x1 : Int32) (s0 : Int32) (M : Mem) : Option (Int32 × Mem) := zbz s0 (some (s0, M))
set_option maxRecDepth 100000 in
set_option maxHeartbeats 4000000 in
theorem x_X11_isCell_30 {κ : KX} {n : Nat} (hC : CX κ cX11_isCell RX11 2 (some .boolean) 0) (hE : zEnd κ n (0, 0)) (hk0 : zRk κ (0, 0)) {r0 : Nat} {x1 : Int32} (h_r0 : zO n r0 11) (s0 : Int32) (M : Mem) : X κ 2 emI n (0, 0) 30 [.null, .null] [.int s0] M (f_X11_isCell_30 r0 x1 s0 M) := by
  unfold f_X11_isCell_30
  refine x_bz (fun hb1 => ?_)
  exact x_iret (ty := .boolean) hb1.1 hE hC (zdk dk_X11_isCell 14 rfl)
set_option maxRecDepth 100000 in
def f_X11_isCell_29  (r0 : Nat) (x1 : Int32)  (M : Mem) : Option (Int32 × Mem) := f_X11_isCell_30 r0 x1 0 M
set_option maxRecDepth 100000 in
set_option maxHeartbeats 4000000 in
theorem x_X11_isCell_29 {κ : KX} {n : Nat} (hC : CX κ cX11_isCell RX11 2 (some .boolean) 0) (hE : zEnd κ n (0, 0)) (hk0 : zRk κ (0, 0)) {r0 : Nat} {x1 : Int32} (h_r0 : zO n r0 11) (M : Mem) : X κ 2 emI n (0, 0) 29 [.null, .null] [] M (f_X11_isCell_29 r0 x1 M) := by
  unfold f_X11_isCell_29
  refine x_iconst (i := 0) c_iconst_0 hC (zdk dk_X11_isCell 13 rfl) (q := 30) rfl ?_
  refine x_weak (L' := [.null, .null]) ⟨Or.inl rfl, Or.inl rfl, trivial⟩ ?_
  exact x_X11_isCell_30 hC hE hk0 h_r0 _ _
set_option maxRecDepth 100000 in
def f_X11_isCell (r0 : Nat) (x1 : Int32) (M : Mem) : Option (Int32 × Mem) := (if zI M r0 14 = 0 then f_X11_isCell_29 r0 x1 M else (if x1 < 0 then f_X11_isCell_29 r0 x1 M else Option.bind (zrf M r0 11) fun q2 => Option.bind (zrf M q2 0) fun q3 => (if zI M q3 10 ≤ x1 then f_X11_isCell_29 r0 x1 M else f_X11_isCell_30 r0 x1 1 M)))
set_option maxRecDepth 100000 in
set_option maxHeartbeats 4000000 in
theorem x_X11_isCell {κ : KX} {n : Nat} (hC : CX κ cX11_isCell RX11 2 (some .boolean) 0) (hE : zEnd κ n (0, 0)) (hk0 : zRk κ (0, 0)) (r0 : Nat) (x1 : Int32) (M : Mem) (h_r0 : zO n r0 11) : X κ 2 emI n (0, 0) 0 [.ref r0, .int x1] [] M (f_X11_isCell r0 x1 M) := by
  unfold f_X11_isCell
  refine x_aload_n (i := 0) rfl hC (zdk dk_X11_isCell 0 rfl) (q := 1) rfl ?_
  refine x_getI fl_RX11_120 (by decide) h_r0 hC (zdk dk_X11_isCell 1 rfl) (q := 4) rfl ?_
  refine x_if_eq (tgt := 29) hC (zdk dk_X11_isCell 2 rfl) (q := 7) rfl rfl (fun _ => ?_) (fun _ => ?_)
  · refine x_weak (L' := [.null, .null]) ⟨Or.inl rfl, Or.inl rfl, trivial⟩ ?_
    exact x_X11_isCell_29 hC hE hk0 h_r0 _
  · refine x_iload_n (i := 1) rfl hC (zdk dk_X11_isCell 3 rfl) (q := 8) rfl ?_
    refine x_if_lt (tgt := 29) hC (zdk dk_X11_isCell 4 rfl) (q := 11) rfl rfl (fun _ => ?_) (fun _ => ?_)
    · refine x_weak (L' := [.null, .null]) ⟨Or.inl rfl, Or.inl rfl, trivial⟩ ?_
      exact x_X11_isCell_29 hC hE hk0 h_r0 _
    · refine x_iload_n (i := 1) rfl hC (zdk dk_X11_isCell 5 rfl) (q := 12) rfl ?_
      refine x_aload_n (i := 0) rfl hC (zdk dk_X11_isCell 6 rfl) (q := 13) rfl ?_
      refine x_getR (k := 0) fl_RX11_82 rfl h_r0 hC (zdk dk_X11_isCell 7 rfl) (q := 16) rfl (fun q2 hq2 => ?_)
      refine x_getR (k := 1) fl_RX11_141 rfl hq2 hC (zdk dk_X11_isCell 8 rfl) (q := 19) rfl (fun q3 hq3 => ?_)
      refine x_getI fl_RX11_153 (by decide) hq3 hC (zdk dk_X11_isCell 9 rfl) (q := 22) rfl ?_
      refine x_icmp_ge (tgt := 29) hC (zdk dk_X11_isCell 10 rfl) (q := 25) rfl rfl (fun _ => ?_) (fun _ => ?_)
      · refine x_weak (L' := [.null, .null]) ⟨Or.inl rfl, Or.inl rfl, trivial⟩ ?_
        exact x_X11_isCell_29 hC hE hk0 h_r0 _
      · refine x_iconst (i := 1) c_iconst_1 hC (zdk dk_X11_isCell 11 rfl) (q := 26) rfl ?_
        refine x_goto (tgt := 30) hC (zdk dk_X11_isCell 12 rfl) rfl ?_
        refine x_weak (L' := [.null, .null]) ⟨Or.inl rfl, Or.inl rfl, trivial⟩ ?_
        exact x_X11_isCell_30 hC hE hk0 h_r0 _ _
set_option maxRecDepth 100000 in
set_option maxHeartbeats 4000000 in
theorem t_X11_isCell {n : Nat} {r0 : Nat} {x1 : Int32} {M : Mem} (h_r0 : zO n r0 11) (x : (Int32 × Mem)) (hx : f_X11_isCell r0 x1 M = some x) (l : Launch) (dC : Nat → ClassId) (dI : Nat → Nat → Nat) (b : zSg) : MT l dC dI b yX11_isCell cX11_isCell 2 (some .boolean) 0 0 0 n n [.ref r0, .int x1] M (emI x).1 (emI x).2 :=
  MT.ofX (by decide +kernel) rfl (Nat.le_of_ble_eq_true rfl) (fun κ hC hF _ => x_X11_isCell hC (zEnd_of hF (Nat.le_refl _) (Nat.le_refl _)) (zRk_of hF (Nat.le_refl _) (Nat.le_refl _)) _ _ _ h_r0) x hx
set_option maxRecDepth 100000 in
def dt_X11_isWritten : List (Nat × Instr × Nat) := [(0, .aload_n 0, 1), (1, .iload_n 1, 1), (2, .invokevirtual 176, 3), (5, .ifCond .eq 22, 3), (8, .aload_n 0, 1), (9, .getfield 42, 3), (12, .getfield 224, 3), (15, .iload_n 1, 1), (16, .aaload, 1), (17, .getfield 227, 3), (20, .ifCond .eq 7, 3), (23, .iconst 1, 1), (24, .goto 4, 3), (27, .iconst 0, 1), (28, .ireturn, 1)]
set_option maxRecDepth 100000 in
theorem dk_X11_isWritten : dt_X11_isWritten.all (fun q => decide (decode cX11_isWritten q.1 = .ok q.2)) = true := by decide +kernel
set_option maxRecDepth 100000 in
def f_X11_isWritten_28  (r0 : Nat) (x1 : Int32) (s0 : Int32) (M : Mem) : Option (Int32 × Mem) := zbz s0 (some (s0, M))
set_option maxRecDepth 100000 in
set_option maxHeartbeats 4000000 in
theorem x_X11_isWritten_28 {κ : KX} {n : Nat} (hC : CX κ cX11_isWritten RX11 2 (some .boolean) 1) (hE : zEnd κ n (0, 0)) (hk0 : zRk κ (0, 0)) {r0 : Nat} {x1 : Int32} (h_r0 : zO n r0 11) (s0 : Int32) (M : Mem) : X κ 2 emI n (0, 0) 28 [.null, .null] [.int s0] M (f_X11_isWritten_28 r0 x1 s0 M) := by
  unfold f_X11_isWritten_28
  refine x_bz (fun hb1 => ?_)
  exact x_iret (ty := .boolean) hb1.1 hE hC (zdk dk_X11_isWritten 14 rfl)
set_option maxRecDepth 100000 in
def f_X11_isWritten_27  (r0 : Nat) (x1 : Int32)  (M : Mem) : Option (Int32 × Mem) := f_X11_isWritten_28 r0 x1 0 M
set_option maxRecDepth 100000 in
set_option maxHeartbeats 4000000 in
theorem x_X11_isWritten_27 {κ : KX} {n : Nat} (hC : CX κ cX11_isWritten RX11 2 (some .boolean) 1) (hE : zEnd κ n (0, 0)) (hk0 : zRk κ (0, 0)) {r0 : Nat} {x1 : Int32} (h_r0 : zO n r0 11) (M : Mem) : X κ 2 emI n (0, 0) 27 [.null, .null] [] M (f_X11_isWritten_27 r0 x1 M) := by
  unfold f_X11_isWritten_27
  refine x_iconst (i := 0) c_iconst_0 hC (zdk dk_X11_isWritten 13 rfl) (q := 28) rfl ?_
  refine x_weak (L' := [.null, .null]) ⟨Or.inl rfl, Or.inl rfl, trivial⟩ ?_
  exact x_X11_isWritten_28 hC hE hk0 h_r0 _ _
set_option maxRecDepth 100000 in
def f_X11_isWritten (r0 : Nat) (x1 : Int32) (M : Mem) : Option (Int32 × Mem) := Option.bind (f_X11_isPage r0 x1 M) fun z2 => (if z2.1 = 0 then f_X11_isWritten_27 r0 x1 z2.2 else Option.bind (zrf z2.2 r0 5) fun q3 => Option.bind (zrf z2.2 q3 0) fun q4 => Option.bind (zld q4 x1) fun k5 => Option.bind (zrf z2.2 q4 k5) fun q6 => (if zI z2.2 q6 2 = 0 then f_X11_isWritten_27 r0 x1 z2.2 else f_X11_isWritten_28 r0 x1 1 z2.2))
set_option maxRecDepth 100000 in
set_option maxHeartbeats 4000000 in
theorem x_X11_isWritten {κ : KX} {n : Nat} (hC : CX κ cX11_isWritten RX11 2 (some .boolean) 1) (hE : zEnd κ n (0, 0)) (hk0 : zRk κ (0, 0)) (r0 : Nat) (x1 : Int32) (M : Mem) (h_r0 : zO n r0 11) : X κ 2 emI n (0, 0) 0 [.ref r0, .int x1] [] M (f_X11_isWritten r0 x1 M) := by
  unfold f_X11_isWritten
  refine x_aload_n (i := 0) rfl hC (zdk dk_X11_isWritten 0 rfl) (q := 1) rfl ?_
  refine x_iload_n (i := 1) rfl hC (zdk dk_X11_isWritten 1 rfl) (q := 2) rfl ?_
  refine x_callVi (as := [.int x1]) cb_RX11_176 rfl (by decide) hk0 h_r0 (fun x hx => t_X11_isPage h_r0 x hx) hC (zdk dk_X11_isWritten 2 rfl) (q := 5) rfl rfl (Nat.le_of_ble_eq_true rfl) (fun z2 => ?_)
  refine x_if_eq (tgt := 27) hC (zdk dk_X11_isWritten 3 rfl) (q := 8) rfl rfl (fun _ => ?_) (fun _ => ?_)
  · refine x_weak (L' := [.null, .null]) ⟨Or.inl rfl, Or.inl rfl, trivial⟩ ?_
    exact x_X11_isWritten_27 hC hE hk0 h_r0 _
  · refine x_aload_n (i := 0) rfl hC (zdk dk_X11_isWritten 4 rfl) (q := 9) rfl ?_
    refine x_getR (k := 5) fl_RX11_42 rfl h_r0 hC (zdk dk_X11_isWritten 5 rfl) (q := 12) rfl (fun q3 hq3 => ?_)
    refine x_getR (k := 23) fl_RX11_224 rfl hq3 hC (zdk dk_X11_isWritten 6 rfl) (q := 15) rfl (fun q4 hq4 => ?_)
    refine x_iload_n (i := 1) rfl hC (zdk dk_X11_isWritten 7 rfl) (q := 16) rfl ?_
    refine x_aald (kd := 23) (ke := 8) hq4 (by decide) rfl hC (zdk dk_X11_isWritten 8 rfl) (q := 17) rfl (fun k5 _ q6 hq6 => ?_)
    refine x_getI fl_RX11_227 (by decide) hq6 hC (zdk dk_X11_isWritten 9 rfl) (q := 20) rfl ?_
    refine x_if_eq (tgt := 27) hC (zdk dk_X11_isWritten 10 rfl) (q := 23) rfl rfl (fun _ => ?_) (fun _ => ?_)
    · refine x_weak (L' := [.null, .null]) ⟨Or.inl rfl, Or.inl rfl, trivial⟩ ?_
      exact x_X11_isWritten_27 hC hE hk0 h_r0 _
    · refine x_iconst (i := 1) c_iconst_1 hC (zdk dk_X11_isWritten 11 rfl) (q := 24) rfl ?_
      refine x_goto (tgt := 28) hC (zdk dk_X11_isWritten 12 rfl) rfl ?_
      refine x_weak (L' := [.null, .null]) ⟨Or.inl rfl, Or.inl rfl, trivial⟩ ?_
      exact x_X11_isWritten_28 hC hE hk0 h_r0 _ _
set_option maxRecDepth 100000 in
set_option maxHeartbeats 4000000 in
theorem t_X11_isWritten {n : Nat} {r0 : Nat} {x1 : Int32} {M : Mem} (h_r0 : zO n r0 11) (x : (Int32 × Mem)) (hx : f_X11_isWritten r0 x1 M = some x) (l : Launch) (dC : Nat → ClassId) (dI : Nat → Nat → Nat) (b : zSg) : MT l dC dI b yX11_isWritten cX11_isWritten 2 (some .boolean) 1 0 0 n n [.ref r0, .int x1] M (emI x).1 (emI x).2 :=
  MT.ofX (by decide +kernel) rfl (Nat.le_of_ble_eq_true rfl) (fun κ hC hF _ => x_X11_isWritten hC (zEnd_of hF (Nat.le_refl _) (Nat.le_refl _)) (zRk_of hF (Nat.le_refl _) (Nat.le_refl _)) _ _ _ h_r0) x hx
set_option maxRecDepth 100000 in
def dt_X11_level : List (Nat × Instr × Nat) := [(0, .aload_n 0, 1), (1, .iload_n 1, 1), (2, .invokevirtual 242, 3), (5, .ifCond .eq 23, 3), (8, .aload_n 0, 1), (9, .iload_n 2, 1), (10, .invokevirtual 245, 3), (13, .ifCond .eq 15, 3), (16, .iload_n 3, 1), (17, .ifCond .lt 11, 3), (20, .aload_n 0, 1), (21, .iload_n 3, 1), (22, .invokevirtual 248, 3), (25, .ifCond .ne 5, 3), (28, .iconst (-1), 1), (29, .ireturn, 1), (30, .aload_n 0, 1), (31, .getfield 42, 3), (34, .getfield 224, 3), (37, .iload_n 1, 1), (38, .aaload, 1), (39, .astore 4, 2), (41, .aload 4, 2), (43, .getfield 251, 3), (46, .iload_n 2, 1), (47, .iaload, 1), (48, .istore 5, 2), (50, .iconst 0, 1), (51, .istore 6, 2), (53, .iload 6, 2), (55, .iload_n 3, 1), (56, .if_icmp .ge 59, 3), (59, .aload_n 0, 1), (60, .getfield 19, 3), (63, .aload 4, 2), (65, .aload_n 0, 1), (66, .getfield 42, 3), (69, .getfield 164, 3), (72, .iload 6, 2), (74, .iadd, 1), (75, .aload 4, 2), (77, .getfield 230, 3), (80, .iload 6, 2), (82, .invokestatic 254, 3), (85, .invokevirtual 258, 3), (88, .aload_n 0, 1), (89, .getfield 19, 3), (92, .aload_n 0, 1), (93, .getfield 82, 3), (96, .aload 4, 2), (98, .getfield 233, 3), (101, .iload_n 2, 1), (102, .iload 5, 2), (104, .invokevirtual 262, 3), (107, .istore 5, 2), (109, .iinc 6 1, 3), (112, .goto (-59), 3), (115, .iload 5, 2), (117, .ireturn, 1)]
set_option maxRecDepth 100000 in
theorem dk_X11_level : dt_X11_level.all (fun q => decide (decode cX11_level q.1 = .ok q.2)) = true := by decide +kernel
set_option maxRecDepth 100000 in
def f_X11_level_28  (r0 : Nat) (x1 : Int32) (x2 : Int32) (x3 : Int32)  (M : Mem) : Option (Int32 × Mem) := some ((-1), M)
set_option maxRecDepth 100000 in
set_option maxHeartbeats 4000000 in
theorem x_X11_level_28 {κ : KX} {n : Nat} (hC : CX κ cX11_level RX11 7 (some .int) 5) (hE : zEnd κ n (0, 0)) (hk0 : zRk κ (0, 0)) {r0 : Nat} {x1 : Int32} {x2 : Int32} {x3 : Int32} (h_r0 : zO n r0 11) (M : Mem) : X κ 7 emI n (0, 0) 28 [.null, .null, .null, .null, .null, .null, .null] [] M (f_X11_level_28 r0 x1 x2 x3 M) := by
  unfold f_X11_level_28
  refine x_iconst (i := (-1)) c_iconst_m1 hC (zdk dk_X11_level 14 rfl) (q := 29) rfl ?_
  exact x_iret (ty := .int) rfl hE hC (zdk dk_X11_level 15 rfl)
set_option maxRecDepth 100000 in
def f_X11_level_53  (r0 : Nat) (x1 : Int32) (x2 : Int32) (x3 : Int32) : Nat → Nat → Int32 → Int32 → Mem → Option (Int32 × Mem)
  | 0, _, _, _, _ => none
  | f + 1, r4, x5, x6, M => (if x3 ≤ x6 then some (x5, M) else Option.bind (zrf M r0 2) fun q1 => Option.bind (zrf M r0 5) fun q2 => Option.bind (f_X11_older (zI M r4 3) x6 M) fun z3 => Option.bind (f_X10_setDay q1 r4 ((zI M q2 1) + x6) z3.1 z3.2) fun M4 => Option.bind (zrf M4 r0 2) fun q5 => Option.bind (zrf M4 r0 11) fun q6 => Option.bind (f_X10_drifted q5 q6 (zL M4 r4 4) x2 x5 M4) fun z7 => (f_X11_level_53 r0 x1 x2 x3 f) r4 z7.1 (x6 + 1) z7.2)
set_option maxRecDepth 100000 in
set_option maxHeartbeats 4000000 in
theorem x_X11_level_53 {κ : KX} {n : Nat} (hC : CX κ cX11_level RX11 7 (some .int) 5) (hE : zEnd κ n (0, 0)) (hk0 : zRk κ (0, 0)) {r0 : Nat} {x1 : Int32} {x2 : Int32} {x3 : Int32} (h_r0 : zO n r0 11) : ∀ (f : Nat) (r4 : Nat) (x5 : Int32) (x6 : Int32) (M : Mem), zO n r4 8 → X κ 7 emI n (0, 0) 53 [.ref r0, .null, .int x2, .int x3, .ref r4, .int x5, .int x6] [] M (f_X11_level_53 r0 x1 x2 x3 f r4 x5 x6 M) := by
  intro f
  induction f with
  | zero => intros; exact x_none
  | succ f ih =>
    intro r4 x5 x6 M h_r4
    rw [f_X11_level_53]
    refine x_iload (i := 6) rfl hC (zdk dk_X11_level 29 rfl) (q := 55) rfl ?_
    refine x_iload_n (i := 3) rfl hC (zdk dk_X11_level 30 rfl) (q := 56) rfl ?_
    refine x_icmp_ge (tgt := 115) hC (zdk dk_X11_level 31 rfl) (q := 59) rfl rfl (fun _ => ?_) (fun _ => ?_)
    · refine x_iload (i := 5) rfl hC (zdk dk_X11_level 57 rfl) (q := 117) rfl ?_
      exact x_iret (ty := .int) rfl hE hC (zdk dk_X11_level 58 rfl)
    · refine x_aload_n (i := 0) rfl hC (zdk dk_X11_level 32 rfl) (q := 60) rfl ?_
      refine x_getR (k := 10) fl_RX11_19 rfl h_r0 hC (zdk dk_X11_level 33 rfl) (q := 63) rfl (fun q1 hq1 => ?_)
      refine x_aload (i := 4) rfl hC (zdk dk_X11_level 34 rfl) (q := 65) rfl ?_
      refine x_aload_n (i := 0) rfl hC (zdk dk_X11_level 35 rfl) (q := 66) rfl ?_
      refine x_getR (k := 5) fl_RX11_42 rfl h_r0 hC (zdk dk_X11_level 36 rfl) (q := 69) rfl (fun q2 hq2 => ?_)
      refine x_getI fl_RX11_164 (by decide) hq2 hC (zdk dk_X11_level 37 rfl) (q := 72) rfl ?_
      refine x_iload (i := 6) rfl hC (zdk dk_X11_level 38 rfl) (q := 74) rfl ?_
      refine x_iadd hC (zdk dk_X11_level 39 rfl) (q := 75) rfl ?_
      refine x_aload (i := 4) rfl hC (zdk dk_X11_level 40 rfl) (q := 77) rfl ?_
      refine x_getI fl_RX11_230 (by decide) h_r4 hC (zdk dk_X11_level 41 rfl) (q := 80) rfl ?_
      refine x_iload (i := 6) rfl hC (zdk dk_X11_level 42 rfl) (q := 82) rfl ?_
      refine x_callSi (as := [.int (zI M r4 3), .int x6]) cb_RX11_254 rfl (by decide) hk0 (fun x hx => t_X11_older  x hx) hC (zdk dk_X11_level 43 rfl) (q := 85) rfl rfl (Nat.le_of_ble_eq_true rfl) (fun z3 => ?_)
      refine x_callVv (as := [.ref r4, .int ((zI M q2 1) + x6), .int z3.1]) cb_RX11_258 rfl (by decide) hk0 hq1 (fun x hx => t_X10_setDay hq1 h_r4 x hx) hC (zdk dk_X11_level 44 rfl) (q := 88) rfl rfl (Nat.le_of_ble_eq_true rfl) (fun M4 => ?_)
      refine x_aload_n (i := 0) rfl hC (zdk dk_X11_level 45 rfl) (q := 89) rfl ?_
      refine x_getR (k := 10) fl_RX11_19 rfl h_r0 hC (zdk dk_X11_level 46 rfl) (q := 92) rfl (fun q5 hq5 => ?_)
      refine x_aload_n (i := 0) rfl hC (zdk dk_X11_level 47 rfl) (q := 93) rfl ?_
      refine x_getR (k := 0) fl_RX11_82 rfl h_r0 hC (zdk dk_X11_level 48 rfl) (q := 96) rfl (fun q6 hq6 => ?_)
      refine x_aload (i := 4) rfl hC (zdk dk_X11_level 49 rfl) (q := 98) rfl ?_
      refine x_getL fl_RX11_233 h_r4 hC (zdk dk_X11_level 50 rfl) (q := 101) rfl ?_
      refine x_iload_n (i := 2) rfl hC (zdk dk_X11_level 51 rfl) (q := 102) rfl ?_
      refine x_iload (i := 5) rfl hC (zdk dk_X11_level 52 rfl) (q := 104) rfl ?_
      refine x_callVi (as := [.ref q6, .long (zL M4 r4 4), .int x2, .int x5]) cb_RX11_262 rfl (by decide) hk0 hq5 (fun x hx => t_X10_drifted hq5 hq6 x hx) hC (zdk dk_X11_level 53 rfl) (q := 107) rfl rfl (Nat.le_of_ble_eq_true rfl) (fun z7 => ?_)
      refine x_istore (i := 5) (L' := [.ref r0, .null, .int x2, .int x3, .ref r4, .int z7.1, .int x6]) (by decide) rfl hC (zdk dk_X11_level 54 rfl) (q := 109) rfl ?_
      refine x_iinc (i := 6) c_iconst_1 rfl (by decide) (L' := [.ref r0, .null, .int x2, .int x3, .ref r4, .int z7.1, .int (x6 + 1)]) rfl hC (zdk dk_X11_level 55 rfl) (q := 112) rfl ?_
      refine x_goto (tgt := 53) hC (zdk dk_X11_level 56 rfl) rfl ?_
      refine x_weak (L' := [.ref r0, .null, .int x2, .int x3, .ref r4, .int z7.1, .int (x6 + 1)]) ⟨Or.inr rfl, Or.inl rfl, Or.inr rfl, Or.inr rfl, Or.inr rfl, Or.inr rfl, Or.inr rfl, trivial⟩ ?_
      exact ih _ _ _ _ h_r4
set_option maxRecDepth 100000 in
def f_X11_level (r0 : Nat) (x1 : Int32) (x2 : Int32) (x3 : Int32) (M : Mem) : Option (Int32 × Mem) := Option.bind (f_X11_isWritten r0 x1 M) fun z8 => (if z8.1 = 0 then f_X11_level_28 r0 x1 x2 x3 z8.2 else Option.bind (f_X11_isCell r0 x2 z8.2) fun z9 => (if z9.1 = 0 then f_X11_level_28 r0 x1 x2 x3 z9.2 else (if x3 < 0 then f_X11_level_28 r0 x1 x2 x3 z9.2 else Option.bind (f_X11_daysFit r0 x3 z9.2) fun z10 => (if z10.1 = 0 then f_X11_level_28 r0 x1 x2 x3 z10.2 else Option.bind (zrf z10.2 r0 5) fun q11 => Option.bind (zrf z10.2 q11 0) fun q12 => Option.bind (zld q12 x1) fun k13 => Option.bind (zrf z10.2 q12 k13) fun q14 => Option.bind (zrf z10.2 q14 0) fun q15 => Option.bind (zld q15 x2) fun k16 => f_X11_level_53 r0 x1 x2 x3 1000000 q14 (zI z10.2 q15 k16) 0 z10.2))))
set_option maxRecDepth 100000 in
set_option maxHeartbeats 4000000 in
theorem x_X11_level {κ : KX} {n : Nat} (hC : CX κ cX11_level RX11 7 (some .int) 5) (hE : zEnd κ n (0, 0)) (hk0 : zRk κ (0, 0)) (r0 : Nat) (x1 : Int32) (x2 : Int32) (x3 : Int32) (M : Mem) (h_r0 : zO n r0 11) : X κ 7 emI n (0, 0) 0 [.ref r0, .int x1, .int x2, .int x3, .null, .null, .null] [] M (f_X11_level r0 x1 x2 x3 M) := by
  unfold f_X11_level
  refine x_aload_n (i := 0) rfl hC (zdk dk_X11_level 0 rfl) (q := 1) rfl ?_
  refine x_iload_n (i := 1) rfl hC (zdk dk_X11_level 1 rfl) (q := 2) rfl ?_
  refine x_callVi (as := [.int x1]) cb_RX11_242 rfl (by decide) hk0 h_r0 (fun x hx => t_X11_isWritten h_r0 x hx) hC (zdk dk_X11_level 2 rfl) (q := 5) rfl rfl (Nat.le_of_ble_eq_true rfl) (fun z8 => ?_)
  refine x_if_eq (tgt := 28) hC (zdk dk_X11_level 3 rfl) (q := 8) rfl rfl (fun _ => ?_) (fun _ => ?_)
  · refine x_weak (L' := [.null, .null, .null, .null, .null, .null, .null]) ⟨Or.inl rfl, Or.inl rfl, Or.inl rfl, Or.inl rfl, Or.inl rfl, Or.inl rfl, Or.inl rfl, trivial⟩ ?_
    exact x_X11_level_28 hC hE hk0 h_r0 _
  · refine x_aload_n (i := 0) rfl hC (zdk dk_X11_level 4 rfl) (q := 9) rfl ?_
    refine x_iload_n (i := 2) rfl hC (zdk dk_X11_level 5 rfl) (q := 10) rfl ?_
    refine x_callVi (as := [.int x2]) cb_RX11_245 rfl (by decide) hk0 h_r0 (fun x hx => t_X11_isCell h_r0 x hx) hC (zdk dk_X11_level 6 rfl) (q := 13) rfl rfl (Nat.le_of_ble_eq_true rfl) (fun z9 => ?_)
    refine x_if_eq (tgt := 28) hC (zdk dk_X11_level 7 rfl) (q := 16) rfl rfl (fun _ => ?_) (fun _ => ?_)
    · refine x_weak (L' := [.null, .null, .null, .null, .null, .null, .null]) ⟨Or.inl rfl, Or.inl rfl, Or.inl rfl, Or.inl rfl, Or.inl rfl, Or.inl rfl, Or.inl rfl, trivial⟩ ?_
      exact x_X11_level_28 hC hE hk0 h_r0 _
    · refine x_iload_n (i := 3) rfl hC (zdk dk_X11_level 8 rfl) (q := 17) rfl ?_
      refine x_if_lt (tgt := 28) hC (zdk dk_X11_level 9 rfl) (q := 20) rfl rfl (fun _ => ?_) (fun _ => ?_)
      · refine x_weak (L' := [.null, .null, .null, .null, .null, .null, .null]) ⟨Or.inl rfl, Or.inl rfl, Or.inl rfl, Or.inl rfl, Or.inl rfl, Or.inl rfl, Or.inl rfl, trivial⟩ ?_
        exact x_X11_level_28 hC hE hk0 h_r0 _
      · refine x_aload_n (i := 0) rfl hC (zdk dk_X11_level 10 rfl) (q := 21) rfl ?_
        refine x_iload_n (i := 3) rfl hC (zdk dk_X11_level 11 rfl) (q := 22) rfl ?_
        refine x_callVi (as := [.int x3]) cb_RX11_248 rfl (by decide) hk0 h_r0 (fun x hx => t_X11_daysFit h_r0 x hx) hC (zdk dk_X11_level 12 rfl) (q := 25) rfl rfl (Nat.le_of_ble_eq_true rfl) (fun z10 => ?_)
        refine x_if_ne (tgt := 30) hC (zdk dk_X11_level 13 rfl) (q := 28) rfl rfl (fun _ => ?_) (fun _ => ?_)
        · refine x_aload_n (i := 0) rfl hC (zdk dk_X11_level 16 rfl) (q := 31) rfl ?_
          refine x_getR (k := 5) fl_RX11_42 rfl h_r0 hC (zdk dk_X11_level 17 rfl) (q := 34) rfl (fun q11 hq11 => ?_)
          refine x_getR (k := 23) fl_RX11_224 rfl hq11 hC (zdk dk_X11_level 18 rfl) (q := 37) rfl (fun q12 hq12 => ?_)
          refine x_iload_n (i := 1) rfl hC (zdk dk_X11_level 19 rfl) (q := 38) rfl ?_
          refine x_aald (kd := 23) (ke := 8) hq12 (by decide) rfl hC (zdk dk_X11_level 20 rfl) (q := 39) rfl (fun k13 _ q14 hq14 => ?_)
          refine x_astore (i := 4) (L' := [.ref r0, .int x1, .int x2, .int x3, .ref q14, .null, .null]) (by decide) rfl hC (zdk dk_X11_level 21 rfl) (q := 41) rfl ?_
          refine x_aload (i := 4) rfl hC (zdk dk_X11_level 22 rfl) (q := 43) rfl ?_
          refine x_getR (k := 20) fl_RX11_251 rfl hq14 hC (zdk dk_X11_level 23 rfl) (q := 46) rfl (fun q15 hq15 => ?_)
          refine x_iload_n (i := 2) rfl hC (zdk dk_X11_level 24 rfl) (q := 47) rfl ?_
          refine x_iald hq15 hC (zdk dk_X11_level 25 rfl) (q := 48) rfl (fun k16 _ => ?_)
          refine x_istore (i := 5) (L' := [.ref r0, .int x1, .int x2, .int x3, .ref q14, .int (zI z10.2 q15 k16), .null]) (by decide) rfl hC (zdk dk_X11_level 26 rfl) (q := 50) rfl ?_
          refine x_iconst (i := 0) c_iconst_0 hC (zdk dk_X11_level 27 rfl) (q := 51) rfl ?_
          refine x_istore (i := 6) (L' := [.ref r0, .int x1, .int x2, .int x3, .ref q14, .int (zI z10.2 q15 k16), .int 0]) (by decide) rfl hC (zdk dk_X11_level 28 rfl) (q := 53) rfl ?_
          refine x_weak (L' := [.ref r0, .null, .int x2, .int x3, .ref q14, .int (zI z10.2 q15 k16), .int 0]) ⟨Or.inr rfl, Or.inl rfl, Or.inr rfl, Or.inr rfl, Or.inr rfl, Or.inr rfl, Or.inr rfl, trivial⟩ ?_
          exact x_X11_level_53 hC hE hk0 h_r0 _ _ _ _ _ hq14
        · refine x_weak (L' := [.null, .null, .null, .null, .null, .null, .null]) ⟨Or.inl rfl, Or.inl rfl, Or.inl rfl, Or.inl rfl, Or.inl rfl, Or.inl rfl, Or.inl rfl, trivial⟩ ?_
          exact x_X11_level_28 hC hE hk0 h_r0 _
set_option maxRecDepth 100000 in
set_option maxHeartbeats 4000000 in
theorem t_X11_level {n : Nat} {r0 : Nat} {x1 : Int32} {x2 : Int32} {x3 : Int32} {M : Mem} (h_r0 : zO n r0 11) (x : (Int32 × Mem)) (hx : f_X11_level r0 x1 x2 x3 M = some x) (l : Launch) (dC : Nat → ClassId) (dI : Nat → Nat → Nat) (b : zSg) : MT l dC dI b yX11_level cX11_level 7 (some .int) 5 0 0 n n [.ref r0, .int x1, .int x2, .int x3] M (emI x).1 (emI x).2 :=
  MT.ofX (by decide +kernel) rfl (Nat.le_of_ble_eq_true rfl) (fun κ hC hF _ => x_X11_level hC (zEnd_of hF (Nat.le_refl _) (Nat.le_refl _)) (zRk_of hF (Nat.le_refl _) (Nat.le_refl _)) _ _ _ _ _ h_r0) x hx
set_option maxRecDepth 100000 in
def dt_X11_isRead : List (Nat × Instr × Nat) := [(0, .aload_n 0, 1), (1, .iload_n 1, 1), (2, .invokevirtual 242, 3), (5, .ifCond .eq 17, 3), (8, .iload_n 2, 1), (9, .ifCond .lt 13, 3), (12, .iload_n 2, 1), (13, .bipush 100, 2), (15, .if_icmp .gt 7, 3), (18, .iconst 1, 1), (19, .goto 4, 3), (22, .iconst 0, 1), (23, .ireturn, 1)]
set_option maxRecDepth 100000 in
theorem dk_X11_isRead : dt_X11_isRead.all (fun q => decide (decode cX11_isRead q.1 = .ok q.2)) = true := by decide +kernel
set_option maxRecDepth 100000 in
def f_X11_isRead_23  (r0 : Nat) (x1 : Int32) (x2 : Int32) (s0 : Int32) (M : Mem) : Option (Int32 × Mem) := zbz s0 (some (s0, M))
set_option maxRecDepth 100000 in
set_option maxHeartbeats 4000000 in
theorem x_X11_isRead_23 {κ : KX} {n : Nat} (hC : CX κ cX11_isRead RX11 3 (some .boolean) 2) (hE : zEnd κ n (0, 0)) (hk0 : zRk κ (0, 0)) {r0 : Nat} {x1 : Int32} {x2 : Int32} (h_r0 : zO n r0 11) (s0 : Int32) (M : Mem) : X κ 3 emI n (0, 0) 23 [.null, .null, .null] [.int s0] M (f_X11_isRead_23 r0 x1 x2 s0 M) := by
  unfold f_X11_isRead_23
  refine x_bz (fun hb1 => ?_)
  exact x_iret (ty := .boolean) hb1.1 hE hC (zdk dk_X11_isRead 12 rfl)
set_option maxRecDepth 100000 in
def f_X11_isRead_22  (r0 : Nat) (x1 : Int32) (x2 : Int32)  (M : Mem) : Option (Int32 × Mem) := f_X11_isRead_23 r0 x1 x2 0 M
set_option maxRecDepth 100000 in
set_option maxHeartbeats 4000000 in
theorem x_X11_isRead_22 {κ : KX} {n : Nat} (hC : CX κ cX11_isRead RX11 3 (some .boolean) 2) (hE : zEnd κ n (0, 0)) (hk0 : zRk κ (0, 0)) {r0 : Nat} {x1 : Int32} {x2 : Int32} (h_r0 : zO n r0 11) (M : Mem) : X κ 3 emI n (0, 0) 22 [.null, .null, .null] [] M (f_X11_isRead_22 r0 x1 x2 M) := by
  unfold f_X11_isRead_22
  refine x_iconst (i := 0) c_iconst_0 hC (zdk dk_X11_isRead 11 rfl) (q := 23) rfl ?_
  refine x_weak (L' := [.null, .null, .null]) ⟨Or.inl rfl, Or.inl rfl, Or.inl rfl, trivial⟩ ?_
  exact x_X11_isRead_23 hC hE hk0 h_r0 _ _
set_option maxRecDepth 100000 in
def f_X11_isRead (r0 : Nat) (x1 : Int32) (x2 : Int32) (M : Mem) : Option (Int32 × Mem) := Option.bind (f_X11_isWritten r0 x1 M) fun z2 => (if z2.1 = 0 then f_X11_isRead_22 r0 x1 x2 z2.2 else (if x2 < 0 then f_X11_isRead_22 r0 x1 x2 z2.2 else (if 100 < x2 then f_X11_isRead_22 r0 x1 x2 z2.2 else f_X11_isRead_23 r0 x1 x2 1 z2.2)))
set_option maxRecDepth 100000 in
set_option maxHeartbeats 4000000 in
theorem x_X11_isRead {κ : KX} {n : Nat} (hC : CX κ cX11_isRead RX11 3 (some .boolean) 2) (hE : zEnd κ n (0, 0)) (hk0 : zRk κ (0, 0)) (r0 : Nat) (x1 : Int32) (x2 : Int32) (M : Mem) (h_r0 : zO n r0 11) : X κ 3 emI n (0, 0) 0 [.ref r0, .int x1, .int x2] [] M (f_X11_isRead r0 x1 x2 M) := by
  unfold f_X11_isRead
  refine x_aload_n (i := 0) rfl hC (zdk dk_X11_isRead 0 rfl) (q := 1) rfl ?_
  refine x_iload_n (i := 1) rfl hC (zdk dk_X11_isRead 1 rfl) (q := 2) rfl ?_
  refine x_callVi (as := [.int x1]) cb_RX11_242 rfl (by decide) hk0 h_r0 (fun x hx => t_X11_isWritten h_r0 x hx) hC (zdk dk_X11_isRead 2 rfl) (q := 5) rfl rfl (Nat.le_of_ble_eq_true rfl) (fun z2 => ?_)
  refine x_if_eq (tgt := 22) hC (zdk dk_X11_isRead 3 rfl) (q := 8) rfl rfl (fun _ => ?_) (fun _ => ?_)
  · refine x_weak (L' := [.null, .null, .null]) ⟨Or.inl rfl, Or.inl rfl, Or.inl rfl, trivial⟩ ?_
    exact x_X11_isRead_22 hC hE hk0 h_r0 _
  · refine x_iload_n (i := 2) rfl hC (zdk dk_X11_isRead 4 rfl) (q := 9) rfl ?_
    refine x_if_lt (tgt := 22) hC (zdk dk_X11_isRead 5 rfl) (q := 12) rfl rfl (fun _ => ?_) (fun _ => ?_)
    · refine x_weak (L' := [.null, .null, .null]) ⟨Or.inl rfl, Or.inl rfl, Or.inl rfl, trivial⟩ ?_
      exact x_X11_isRead_22 hC hE hk0 h_r0 _
    · refine x_iload_n (i := 2) rfl hC (zdk dk_X11_isRead 6 rfl) (q := 13) rfl ?_
      refine x_bipush (i := 100) c_bipush_100 hC (zdk dk_X11_isRead 7 rfl) (q := 15) rfl ?_
      refine x_icmp_gt (tgt := 22) hC (zdk dk_X11_isRead 8 rfl) (q := 18) rfl rfl (fun _ => ?_) (fun _ => ?_)
      · refine x_weak (L' := [.null, .null, .null]) ⟨Or.inl rfl, Or.inl rfl, Or.inl rfl, trivial⟩ ?_
        exact x_X11_isRead_22 hC hE hk0 h_r0 _
      · refine x_iconst (i := 1) c_iconst_1 hC (zdk dk_X11_isRead 9 rfl) (q := 19) rfl ?_
        refine x_goto (tgt := 23) hC (zdk dk_X11_isRead 10 rfl) rfl ?_
        refine x_weak (L' := [.null, .null, .null]) ⟨Or.inl rfl, Or.inl rfl, Or.inl rfl, trivial⟩ ?_
        exact x_X11_isRead_23 hC hE hk0 h_r0 _ _
set_option maxRecDepth 100000 in
set_option maxHeartbeats 4000000 in
theorem t_X11_isRead {n : Nat} {r0 : Nat} {x1 : Int32} {x2 : Int32} {M : Mem} (h_r0 : zO n r0 11) (x : (Int32 × Mem)) (hx : f_X11_isRead r0 x1 x2 M = some x) (l : Launch) (dC : Nat → ClassId) (dI : Nat → Nat → Nat) (b : zSg) : MT l dC dI b yX11_isRead cX11_isRead 3 (some .boolean) 2 0 0 n n [.ref r0, .int x1, .int x2] M (emI x).1 (emI x).2 :=
  MT.ofX (by decide +kernel) rfl (Nat.le_of_ble_eq_true rfl) (fun κ hC hF _ => x_X11_isRead hC (zEnd_of hF (Nat.le_refl _) (Nat.le_refl _)) (zRk_of hF (Nat.le_refl _) (Nat.le_refl _)) _ _ _ _ h_r0) x hx
set_option maxRecDepth 100000 in
def dt_X11_ones : List (Nat × Instr × Nat) := [(0, .aload_n 0, 1), (1, .iload_n 1, 1), (2, .iload_n 2, 1), (3, .invokevirtual 266, 3), (6, .ifCond .ne 5, 3), (9, .iconst (-1), 1), (10, .ireturn, 1), (11, .aload_n 0, 1), (12, .getfield 42, 3), (15, .getfield 224, 3), (18, .iload_n 1, 1), (19, .aaload, 1), (20, .iload_n 2, 1), (21, .aload_n 0, 1), (22, .getfield 82, 3), (25, .getfield 141, 3), (28, .getfield 153, 3), (31, .invokevirtual 269, 3), (34, .invokestatic 236, 3), (37, .ireturn, 1)]
set_option maxRecDepth 100000 in
theorem dk_X11_ones : dt_X11_ones.all (fun q => decide (decode cX11_ones q.1 = .ok q.2)) = true := by decide +kernel
set_option maxRecDepth 100000 in
def f_X11_ones (r0 : Nat) (x1 : Int32) (x2 : Int32) (M : Mem) : Option (Int32 × Mem) := Option.bind (f_X11_isRead r0 x1 x2 M) fun z1 => (if z1.1 = 0 then some ((-1), z1.2) else Option.bind (zrf z1.2 r0 5) fun q2 => Option.bind (zrf z1.2 q2 0) fun q3 => Option.bind (zld q3 x1) fun k4 => Option.bind (zrf z1.2 q3 k4) fun q5 => Option.bind (zrf z1.2 r0 11) fun q6 => Option.bind (zrf z1.2 q6 0) fun q7 => Option.bind (f_X8_readBy q5 x2 (zI z1.2 q7 10) z1.2) fun z8 => Option.bind (f_J13_bitCount_95d88 z8.1 z8.2) fun z9 => some (z9.1, z9.2))
set_option maxRecDepth 100000 in
set_option maxHeartbeats 4000000 in
theorem x_X11_ones {κ : KX} {n : Nat} (hC : CX κ cX11_ones RX11 3 (some .int) 3) (hE : zEnd κ n (0, 0)) (hk0 : zRk κ (0, 0)) (r0 : Nat) (x1 : Int32) (x2 : Int32) (M : Mem) (h_r0 : zO n r0 11) : X κ 3 emI n (0, 0) 0 [.ref r0, .int x1, .int x2] [] M (f_X11_ones r0 x1 x2 M) := by
  unfold f_X11_ones
  refine x_aload_n (i := 0) rfl hC (zdk dk_X11_ones 0 rfl) (q := 1) rfl ?_
  refine x_iload_n (i := 1) rfl hC (zdk dk_X11_ones 1 rfl) (q := 2) rfl ?_
  refine x_iload_n (i := 2) rfl hC (zdk dk_X11_ones 2 rfl) (q := 3) rfl ?_
  refine x_callVi (as := [.int x1, .int x2]) cb_RX11_266 rfl (by decide) hk0 h_r0 (fun x hx => t_X11_isRead h_r0 x hx) hC (zdk dk_X11_ones 3 rfl) (q := 6) rfl rfl (Nat.le_of_ble_eq_true rfl) (fun z1 => ?_)
  refine x_if_ne (tgt := 11) hC (zdk dk_X11_ones 4 rfl) (q := 9) rfl rfl (fun _ => ?_) (fun _ => ?_)
  · refine x_aload_n (i := 0) rfl hC (zdk dk_X11_ones 7 rfl) (q := 12) rfl ?_
    refine x_getR (k := 5) fl_RX11_42 rfl h_r0 hC (zdk dk_X11_ones 8 rfl) (q := 15) rfl (fun q2 hq2 => ?_)
    refine x_getR (k := 23) fl_RX11_224 rfl hq2 hC (zdk dk_X11_ones 9 rfl) (q := 18) rfl (fun q3 hq3 => ?_)
    refine x_iload_n (i := 1) rfl hC (zdk dk_X11_ones 10 rfl) (q := 19) rfl ?_
    refine x_aald (kd := 23) (ke := 8) hq3 (by decide) rfl hC (zdk dk_X11_ones 11 rfl) (q := 20) rfl (fun k4 _ q5 hq5 => ?_)
    refine x_iload_n (i := 2) rfl hC (zdk dk_X11_ones 12 rfl) (q := 21) rfl ?_
    refine x_aload_n (i := 0) rfl hC (zdk dk_X11_ones 13 rfl) (q := 22) rfl ?_
    refine x_getR (k := 0) fl_RX11_82 rfl h_r0 hC (zdk dk_X11_ones 14 rfl) (q := 25) rfl (fun q6 hq6 => ?_)
    refine x_getR (k := 1) fl_RX11_141 rfl hq6 hC (zdk dk_X11_ones 15 rfl) (q := 28) rfl (fun q7 hq7 => ?_)
    refine x_getI fl_RX11_153 (by decide) hq7 hC (zdk dk_X11_ones 16 rfl) (q := 31) rfl ?_
    refine x_callVl (as := [.int x2, .int (zI z1.2 q7 10)]) cb_RX11_269 rfl (by decide) hk0 hq5 (fun x hx => t_X8_readBy hq5 x hx) hC (zdk dk_X11_ones 17 rfl) (q := 34) rfl rfl (Nat.le_of_ble_eq_true rfl) (fun z8 => ?_)
    refine x_callSi (as := [.long z8.1]) cb_RX11_236 rfl (by decide) hk0 (fun x hx => t_J13_bitCount_95d88  x hx) hC (zdk dk_X11_ones 18 rfl) (q := 37) rfl rfl (Nat.le_of_ble_eq_true rfl) (fun z9 => ?_)
    exact x_iret (ty := .int) rfl hE hC (zdk dk_X11_ones 19 rfl)
  · refine x_iconst (i := (-1)) c_iconst_m1 hC (zdk dk_X11_ones 5 rfl) (q := 10) rfl ?_
    exact x_iret (ty := .int) rfl hE hC (zdk dk_X11_ones 6 rfl)
set_option maxRecDepth 100000 in
set_option maxHeartbeats 4000000 in
theorem t_X11_ones {n : Nat} {r0 : Nat} {x1 : Int32} {x2 : Int32} {M : Mem} (h_r0 : zO n r0 11) (x : (Int32 × Mem)) (hx : f_X11_ones r0 x1 x2 M = some x) (l : Launch) (dC : Nat → ClassId) (dI : Nat → Nat → Nat) (b : zSg) : MT l dC dI b yX11_ones cX11_ones 3 (some .int) 3 0 0 n n [.ref r0, .int x1, .int x2] M (emI x).1 (emI x).2 :=
  MT.ofX (by decide +kernel) rfl (Nat.le_of_ble_eq_true rfl) (fun κ hC hF _ => x_X11_ones hC (zEnd_of hF (Nat.le_refl _) (Nat.le_refl _)) (zRk_of hF (Nat.le_refl _) (Nat.le_refl _)) _ _ _ _ h_r0) x hx
set_option maxRecDepth 100000 in
def dt_X11_decode : List (Nat × Instr × Nat) := [(0, .aload_n 0, 1), (1, .getfield 26, 3), (4, .aload_n 0, 1), (5, .getfield 82, 3), (8, .getfield 141, 3), (11, .aload_n 0, 1), (12, .getfield 42, 3), (15, .getfield 224, 3), (18, .iload_n 1, 1), (19, .aaload, 1), (20, .iload_n 2, 1), (21, .aload_n 0, 1), (22, .getfield 82, 3), (25, .getfield 141, 3), (28, .getfield 153, 3), (31, .invokevirtual 269, 3), (34, .invokevirtual 391, 3), (37, .return_, 1)]
set_option maxRecDepth 100000 in
theorem dk_X11_decode : dt_X11_decode.all (fun q => decide (decode cX11_decode q.1 = .ok q.2)) = true := by decide +kernel
set_option maxRecDepth 100000 in
def f_X11_decode (r0 : Nat) (x1 : Int32) (x2 : Int32) (M : Mem) : Option Mem := Option.bind (zrf M r0 3) fun q1 => Option.bind (zrf M r0 11) fun q2 => Option.bind (zrf M q2 0) fun q3 => Option.bind (zrf M r0 5) fun q4 => Option.bind (zrf M q4 0) fun q5 => Option.bind (zld q5 x1) fun k6 => Option.bind (zrf M q5 k6) fun q7 => Option.bind (zrf M r0 11) fun q8 => Option.bind (zrf M q8 0) fun q9 => Option.bind (f_X8_readBy q7 x2 (zI M q9 10) M) fun z10 => Option.bind (f_X2_decode q1 q3 z10.1 z10.2) fun M11 => some M11
set_option maxRecDepth 100000 in
set_option maxHeartbeats 4000000 in
theorem x_X11_decode {κ : KX} {n : Nat} (hC : CX κ cX11_decode RX11 3 none 4) (hE : zEnd κ n (0, 0)) (hk0 : zRk κ (0, 0)) (r0 : Nat) (x1 : Int32) (x2 : Int32) (M : Mem) (h_r0 : zO n r0 11) : X κ 3 emV n (0, 0) 0 [.ref r0, .int x1, .int x2] [] M (f_X11_decode r0 x1 x2 M) := by
  unfold f_X11_decode
  refine x_aload_n (i := 0) rfl hC (zdk dk_X11_decode 0 rfl) (q := 1) rfl ?_
  refine x_getR (k := 2) fl_RX11_26 rfl h_r0 hC (zdk dk_X11_decode 1 rfl) (q := 4) rfl (fun q1 hq1 => ?_)
  refine x_aload_n (i := 0) rfl hC (zdk dk_X11_decode 2 rfl) (q := 5) rfl ?_
  refine x_getR (k := 0) fl_RX11_82 rfl h_r0 hC (zdk dk_X11_decode 3 rfl) (q := 8) rfl (fun q2 hq2 => ?_)
  refine x_getR (k := 1) fl_RX11_141 rfl hq2 hC (zdk dk_X11_decode 4 rfl) (q := 11) rfl (fun q3 hq3 => ?_)
  refine x_aload_n (i := 0) rfl hC (zdk dk_X11_decode 5 rfl) (q := 12) rfl ?_
  refine x_getR (k := 5) fl_RX11_42 rfl h_r0 hC (zdk dk_X11_decode 6 rfl) (q := 15) rfl (fun q4 hq4 => ?_)
  refine x_getR (k := 23) fl_RX11_224 rfl hq4 hC (zdk dk_X11_decode 7 rfl) (q := 18) rfl (fun q5 hq5 => ?_)
  refine x_iload_n (i := 1) rfl hC (zdk dk_X11_decode 8 rfl) (q := 19) rfl ?_
  refine x_aald (kd := 23) (ke := 8) hq5 (by decide) rfl hC (zdk dk_X11_decode 9 rfl) (q := 20) rfl (fun k6 _ q7 hq7 => ?_)
  refine x_iload_n (i := 2) rfl hC (zdk dk_X11_decode 10 rfl) (q := 21) rfl ?_
  refine x_aload_n (i := 0) rfl hC (zdk dk_X11_decode 11 rfl) (q := 22) rfl ?_
  refine x_getR (k := 0) fl_RX11_82 rfl h_r0 hC (zdk dk_X11_decode 12 rfl) (q := 25) rfl (fun q8 hq8 => ?_)
  refine x_getR (k := 1) fl_RX11_141 rfl hq8 hC (zdk dk_X11_decode 13 rfl) (q := 28) rfl (fun q9 hq9 => ?_)
  refine x_getI fl_RX11_153 (by decide) hq9 hC (zdk dk_X11_decode 14 rfl) (q := 31) rfl ?_
  refine x_callVl (as := [.int x2, .int (zI M q9 10)]) cb_RX11_269 rfl (by decide) hk0 hq7 (fun x hx => t_X8_readBy hq7 x hx) hC (zdk dk_X11_decode 15 rfl) (q := 34) rfl rfl (Nat.le_of_ble_eq_true rfl) (fun z10 => ?_)
  refine x_callVv (as := [.ref q3, .long z10.1]) cb_RX11_391 rfl (by decide) hk0 hq1 (fun x hx => t_X2_decode hq1 hq3 x hx) hC (zdk dk_X11_decode 16 rfl) (q := 37) rfl rfl (Nat.le_of_ble_eq_true rfl) (fun M11 => ?_)
  exact x_vret hE hC (zdk dk_X11_decode 17 rfl)
set_option maxRecDepth 100000 in
set_option maxHeartbeats 4000000 in
theorem t_X11_decode {n : Nat} {r0 : Nat} {x1 : Int32} {x2 : Int32} {M : Mem} (h_r0 : zO n r0 11) (x : Mem) (hx : f_X11_decode r0 x1 x2 M = some x) (l : Launch) (dC : Nat → ClassId) (dI : Nat → Nat → Nat) (b : zSg) : MT l dC dI b yX11_decode cX11_decode 3 none 4 0 0 n n [.ref r0, .int x1, .int x2] M (emV x).1 (emV x).2 :=
  MT.ofX (by decide +kernel) rfl (Nat.le_of_ble_eq_true rfl) (fun κ hC hF _ => x_X11_decode hC (zEnd_of hF (Nat.le_refl _) (Nat.le_refl _)) (zRk_of hF (Nat.le_refl _) (Nat.le_refl _)) _ _ _ _ h_r0) x hx
set_option maxRecDepth 100000 in
def dt_X11_syndrome : List (Nat × Instr × Nat) := [(0, .aload_n 0, 1), (1, .iload_n 1, 1), (2, .iload_n 2, 1), (3, .invokevirtual 266, 3), (6, .ifCond .eq 24, 3), (9, .iload_n 3, 1), (10, .iconst 1, 1), (11, .if_icmp .lt 19, 3), (14, .iload_n 3, 1), (15, .iconst 2, 1), (16, .aload_n 0, 1), (17, .getfield 82, 3), (20, .getfield 141, 3), (23, .getfield 218, 3), (26, .imul, 1), (27, .if_icmp .le 5, 3), (30, .iconst (-1), 1), (31, .ireturn, 1), (32, .aload_n 0, 1), (33, .iload_n 1, 1), (34, .iload_n 2, 1), (35, .invokevirtual 272, 3), (38, .aload_n 0, 1), (39, .getfield 26, 3), (42, .getfield 276, 3), (45, .iload_n 3, 1), (46, .iaload, 1), (47, .ireturn, 1)]
set_option maxRecDepth 100000 in
theorem dk_X11_syndrome : dt_X11_syndrome.all (fun q => decide (decode cX11_syndrome q.1 = .ok q.2)) = true := by decide +kernel
set_option maxRecDepth 100000 in
def f_X11_syndrome_30  (r0 : Nat) (x1 : Int32) (x2 : Int32) (x3 : Int32)  (M : Mem) : Option (Int32 × Mem) := some ((-1), M)
set_option maxRecDepth 100000 in
set_option maxHeartbeats 4000000 in
theorem x_X11_syndrome_30 {κ : KX} {n : Nat} (hC : CX κ cX11_syndrome RX11 4 (some .int) 5) (hE : zEnd κ n (0, 0)) (hk0 : zRk κ (0, 0)) {r0 : Nat} {x1 : Int32} {x2 : Int32} {x3 : Int32} (h_r0 : zO n r0 11) (M : Mem) : X κ 4 emI n (0, 0) 30 [.null, .null, .null, .null] [] M (f_X11_syndrome_30 r0 x1 x2 x3 M) := by
  unfold f_X11_syndrome_30
  refine x_iconst (i := (-1)) c_iconst_m1 hC (zdk dk_X11_syndrome 16 rfl) (q := 31) rfl ?_
  exact x_iret (ty := .int) rfl hE hC (zdk dk_X11_syndrome 17 rfl)
set_option maxRecDepth 100000 in
def f_X11_syndrome (r0 : Nat) (x1 : Int32) (x2 : Int32) (x3 : Int32) (M : Mem) : Option (Int32 × Mem) := Option.bind (f_X11_isRead r0 x1 x2 M) fun z1 => (if z1.1 = 0 then f_X11_syndrome_30 r0 x1 x2 x3 z1.2 else (if x3 < 1 then f_X11_syndrome_30 r0 x1 x2 x3 z1.2 else Option.bind (zrf z1.2 r0 11) fun q2 => Option.bind (zrf z1.2 q2 0) fun q3 => (if x3 ≤ 2 * (zI z1.2 q3 8) then Option.bind (f_X11_decode r0 x1 x2 z1.2) fun M4 => Option.bind (zrf M4 r0 3) fun q5 => Option.bind (zrf M4 q5 0) fun q6 => Option.bind (zld q6 x3) fun k7 => some (zI M4 q6 k7, M4) else f_X11_syndrome_30 r0 x1 x2 x3 z1.2)))
set_option maxRecDepth 100000 in
set_option maxHeartbeats 4000000 in
theorem x_X11_syndrome {κ : KX} {n : Nat} (hC : CX κ cX11_syndrome RX11 4 (some .int) 5) (hE : zEnd κ n (0, 0)) (hk0 : zRk κ (0, 0)) (r0 : Nat) (x1 : Int32) (x2 : Int32) (x3 : Int32) (M : Mem) (h_r0 : zO n r0 11) : X κ 4 emI n (0, 0) 0 [.ref r0, .int x1, .int x2, .int x3] [] M (f_X11_syndrome r0 x1 x2 x3 M) := by
  unfold f_X11_syndrome
  refine x_aload_n (i := 0) rfl hC (zdk dk_X11_syndrome 0 rfl) (q := 1) rfl ?_
  refine x_iload_n (i := 1) rfl hC (zdk dk_X11_syndrome 1 rfl) (q := 2) rfl ?_
  refine x_iload_n (i := 2) rfl hC (zdk dk_X11_syndrome 2 rfl) (q := 3) rfl ?_
  refine x_callVi (as := [.int x1, .int x2]) cb_RX11_266 rfl (by decide) hk0 h_r0 (fun x hx => t_X11_isRead h_r0 x hx) hC (zdk dk_X11_syndrome 3 rfl) (q := 6) rfl rfl (Nat.le_of_ble_eq_true rfl) (fun z1 => ?_)
  refine x_if_eq (tgt := 30) hC (zdk dk_X11_syndrome 4 rfl) (q := 9) rfl rfl (fun _ => ?_) (fun _ => ?_)
  · refine x_weak (L' := [.null, .null, .null, .null]) ⟨Or.inl rfl, Or.inl rfl, Or.inl rfl, Or.inl rfl, trivial⟩ ?_
    exact x_X11_syndrome_30 hC hE hk0 h_r0 _
  · refine x_iload_n (i := 3) rfl hC (zdk dk_X11_syndrome 5 rfl) (q := 10) rfl ?_
    refine x_iconst (i := 1) c_iconst_1 hC (zdk dk_X11_syndrome 6 rfl) (q := 11) rfl ?_
    refine x_icmp_lt (tgt := 30) hC (zdk dk_X11_syndrome 7 rfl) (q := 14) rfl rfl (fun _ => ?_) (fun _ => ?_)
    · refine x_weak (L' := [.null, .null, .null, .null]) ⟨Or.inl rfl, Or.inl rfl, Or.inl rfl, Or.inl rfl, trivial⟩ ?_
      exact x_X11_syndrome_30 hC hE hk0 h_r0 _
    · refine x_iload_n (i := 3) rfl hC (zdk dk_X11_syndrome 8 rfl) (q := 15) rfl ?_
      refine x_iconst (i := 2) c_iconst_2 hC (zdk dk_X11_syndrome 9 rfl) (q := 16) rfl ?_
      refine x_aload_n (i := 0) rfl hC (zdk dk_X11_syndrome 10 rfl) (q := 17) rfl ?_
      refine x_getR (k := 0) fl_RX11_82 rfl h_r0 hC (zdk dk_X11_syndrome 11 rfl) (q := 20) rfl (fun q2 hq2 => ?_)
      refine x_getR (k := 1) fl_RX11_141 rfl hq2 hC (zdk dk_X11_syndrome 12 rfl) (q := 23) rfl (fun q3 hq3 => ?_)
      refine x_getI fl_RX11_218 (by decide) hq3 hC (zdk dk_X11_syndrome 13 rfl) (q := 26) rfl ?_
      refine x_imul hC (zdk dk_X11_syndrome 14 rfl) (q := 27) rfl ?_
      refine x_icmp_le (tgt := 32) hC (zdk dk_X11_syndrome 15 rfl) (q := 30) rfl rfl (fun _ => ?_) (fun _ => ?_)
      · refine x_aload_n (i := 0) rfl hC (zdk dk_X11_syndrome 18 rfl) (q := 33) rfl ?_
        refine x_iload_n (i := 1) rfl hC (zdk dk_X11_syndrome 19 rfl) (q := 34) rfl ?_
        refine x_iload_n (i := 2) rfl hC (zdk dk_X11_syndrome 20 rfl) (q := 35) rfl ?_
        refine x_callVv (as := [.int x1, .int x2]) cb_RX11_272 rfl (by decide) hk0 h_r0 (fun x hx => t_X11_decode h_r0 x hx) hC (zdk dk_X11_syndrome 21 rfl) (q := 38) rfl rfl (Nat.le_of_ble_eq_true rfl) (fun M4 => ?_)
        refine x_aload_n (i := 0) rfl hC (zdk dk_X11_syndrome 22 rfl) (q := 39) rfl ?_
        refine x_getR (k := 2) fl_RX11_26 rfl h_r0 hC (zdk dk_X11_syndrome 23 rfl) (q := 42) rfl (fun q5 hq5 => ?_)
        refine x_getR (k := 20) fl_RX11_276 rfl hq5 hC (zdk dk_X11_syndrome 24 rfl) (q := 45) rfl (fun q6 hq6 => ?_)
        refine x_iload_n (i := 3) rfl hC (zdk dk_X11_syndrome 25 rfl) (q := 46) rfl ?_
        refine x_iald hq6 hC (zdk dk_X11_syndrome 26 rfl) (q := 47) rfl (fun k7 _ => ?_)
        exact x_iret (ty := .int) rfl hE hC (zdk dk_X11_syndrome 27 rfl)
      · refine x_weak (L' := [.null, .null, .null, .null]) ⟨Or.inl rfl, Or.inl rfl, Or.inl rfl, Or.inl rfl, trivial⟩ ?_
        exact x_X11_syndrome_30 hC hE hk0 h_r0 _
set_option maxRecDepth 100000 in
set_option maxHeartbeats 4000000 in
theorem t_X11_syndrome {n : Nat} {r0 : Nat} {x1 : Int32} {x2 : Int32} {x3 : Int32} {M : Mem} (h_r0 : zO n r0 11) (x : (Int32 × Mem)) (hx : f_X11_syndrome r0 x1 x2 x3 M = some x) (l : Launch) (dC : Nat → ClassId) (dI : Nat → Nat → Nat) (b : zSg) : MT l dC dI b yX11_syndrome cX11_syndrome 4 (some .int) 5 0 0 n n [.ref r0, .int x1, .int x2, .int x3] M (emI x).1 (emI x).2 :=
  MT.ofX (by decide +kernel) rfl (Nat.le_of_ble_eq_true rfl) (fun κ hC hF _ => x_X11_syndrome hC (zEnd_of hF (Nat.le_refl _) (Nat.le_refl _)) (zRk_of hF (Nat.le_refl _) (Nat.le_refl _)) _ _ _ _ _ h_r0) x hx
set_option maxRecDepth 100000 in
def dt_X11_locator : List (Nat × Instr × Nat) := [(0, .aload_n 0, 1), (1, .iload_n 1, 1), (2, .iload_n 2, 1), (3, .invokevirtual 266, 3), (6, .ifCond .eq 7, 3), (9, .iload_n 3, 1), (10, .ifCond .ge 5, 3), (13, .iconst (-1), 1), (14, .ireturn, 1), (15, .aload_n 0, 1), (16, .iload_n 1, 1), (17, .iload_n 2, 1), (18, .invokevirtual 272, 3), (21, .iload_n 3, 1), (22, .ifCond .ne 11, 3), (25, .aload_n 0, 1), (26, .getfield 26, 3), (29, .getfield 279, 3), (32, .ireturn, 1), (33, .aload_n 0, 1), (34, .getfield 26, 3), (37, .getfield 282, 3), (40, .iconst 1, 1), (41, .if_icmp .eq 14, 3), (44, .iload_n 3, 1), (45, .aload_n 0, 1), (46, .getfield 26, 3), (49, .getfield 279, 3), (52, .if_icmp .le 7, 3), (55, .iconst (-1), 1), (56, .goto 12, 3), (59, .aload_n 0, 1), (60, .getfield 26, 3), (63, .getfield 285, 3), (66, .iload_n 3, 1), (67, .iaload, 1), (68, .ireturn, 1)]
set_option maxRecDepth 100000 in
theorem dk_X11_locator : dt_X11_locator.all (fun q => decide (decode cX11_locator q.1 = .ok q.2)) = true := by decide +kernel
set_option maxRecDepth 100000 in
def f_X11_locator_13  (r0 : Nat) (x1 : Int32) (x2 : Int32) (x3 : Int32)  (M : Mem) : Option (Int32 × Mem) := some ((-1), M)
set_option maxRecDepth 100000 in
set_option maxHeartbeats 4000000 in
theorem x_X11_locator_13 {κ : KX} {n : Nat} (hC : CX κ cX11_locator RX11 4 (some .int) 5) (hE : zEnd κ n (0, 0)) (hk0 : zRk κ (0, 0)) {r0 : Nat} {x1 : Int32} {x2 : Int32} {x3 : Int32} (h_r0 : zO n r0 11) (M : Mem) : X κ 4 emI n (0, 0) 13 [.null, .null, .null, .null] [] M (f_X11_locator_13 r0 x1 x2 x3 M) := by
  unfold f_X11_locator_13
  refine x_iconst (i := (-1)) c_iconst_m1 hC (zdk dk_X11_locator 7 rfl) (q := 14) rfl ?_
  exact x_iret (ty := .int) rfl hE hC (zdk dk_X11_locator 8 rfl)
set_option maxRecDepth 100000 in
def f_X11_locator_68  (r0 : Nat) (x1 : Int32) (x2 : Int32) (x3 : Int32) (s0 : Int32) (M : Mem) : Option (Int32 × Mem) := some (s0, M)
set_option maxRecDepth 100000 in
set_option maxHeartbeats 4000000 in
theorem x_X11_locator_68 {κ : KX} {n : Nat} (hC : CX κ cX11_locator RX11 4 (some .int) 5) (hE : zEnd κ n (0, 0)) (hk0 : zRk κ (0, 0)) {r0 : Nat} {x1 : Int32} {x2 : Int32} {x3 : Int32} (h_r0 : zO n r0 11) (s0 : Int32) (M : Mem) : X κ 4 emI n (0, 0) 68 [.null, .null, .null, .null] [.int s0] M (f_X11_locator_68 r0 x1 x2 x3 s0 M) := by
  unfold f_X11_locator_68
  exact x_iret (ty := .int) rfl hE hC (zdk dk_X11_locator 36 rfl)
set_option maxRecDepth 100000 in
def f_X11_locator_55  (r0 : Nat) (x1 : Int32) (x2 : Int32) (x3 : Int32)  (M : Mem) : Option (Int32 × Mem) := f_X11_locator_68 r0 x1 x2 x3 ((-1)) M
set_option maxRecDepth 100000 in
set_option maxHeartbeats 4000000 in
theorem x_X11_locator_55 {κ : KX} {n : Nat} (hC : CX κ cX11_locator RX11 4 (some .int) 5) (hE : zEnd κ n (0, 0)) (hk0 : zRk κ (0, 0)) {r0 : Nat} {x1 : Int32} {x2 : Int32} {x3 : Int32} (h_r0 : zO n r0 11) (M : Mem) : X κ 4 emI n (0, 0) 55 [.null, .null, .null, .null] [] M (f_X11_locator_55 r0 x1 x2 x3 M) := by
  unfold f_X11_locator_55
  refine x_iconst (i := (-1)) c_iconst_m1 hC (zdk dk_X11_locator 29 rfl) (q := 56) rfl ?_
  refine x_goto (tgt := 68) hC (zdk dk_X11_locator 30 rfl) rfl ?_
  refine x_weak (L' := [.null, .null, .null, .null]) ⟨Or.inl rfl, Or.inl rfl, Or.inl rfl, Or.inl rfl, trivial⟩ ?_
  exact x_X11_locator_68 hC hE hk0 h_r0 _ _
set_option maxRecDepth 100000 in
def f_X11_locator (r0 : Nat) (x1 : Int32) (x2 : Int32) (x3 : Int32) (M : Mem) : Option (Int32 × Mem) := Option.bind (f_X11_isRead r0 x1 x2 M) fun z1 => (if z1.1 = 0 then f_X11_locator_13 r0 x1 x2 x3 z1.2 else (if 0 ≤ x3 then Option.bind (f_X11_decode r0 x1 x2 z1.2) fun M2 => (if x3 = 0 then Option.bind (zrf M2 r0 3) fun q8 => some (zI M2 q8 8, M2) else Option.bind (zrf M2 r0 3) fun q3 => (if zI M2 q3 9 = 1 then f_X11_locator_55 r0 x1 x2 x3 M2 else Option.bind (zrf M2 r0 3) fun q4 => (if x3 ≤ zI M2 q4 8 then Option.bind (zrf M2 r0 3) fun q5 => Option.bind (zrf M2 q5 1) fun q6 => Option.bind (zld q6 x3) fun k7 => f_X11_locator_68 r0 x1 x2 x3 (zI M2 q6 k7) M2 else f_X11_locator_55 r0 x1 x2 x3 M2))) else f_X11_locator_13 r0 x1 x2 x3 z1.2))
set_option maxRecDepth 100000 in
set_option maxHeartbeats 4000000 in
theorem x_X11_locator {κ : KX} {n : Nat} (hC : CX κ cX11_locator RX11 4 (some .int) 5) (hE : zEnd κ n (0, 0)) (hk0 : zRk κ (0, 0)) (r0 : Nat) (x1 : Int32) (x2 : Int32) (x3 : Int32) (M : Mem) (h_r0 : zO n r0 11) : X κ 4 emI n (0, 0) 0 [.ref r0, .int x1, .int x2, .int x3] [] M (f_X11_locator r0 x1 x2 x3 M) := by
  unfold f_X11_locator
  refine x_aload_n (i := 0) rfl hC (zdk dk_X11_locator 0 rfl) (q := 1) rfl ?_
  refine x_iload_n (i := 1) rfl hC (zdk dk_X11_locator 1 rfl) (q := 2) rfl ?_
  refine x_iload_n (i := 2) rfl hC (zdk dk_X11_locator 2 rfl) (q := 3) rfl ?_
  refine x_callVi (as := [.int x1, .int x2]) cb_RX11_266 rfl (by decide) hk0 h_r0 (fun x hx => t_X11_isRead h_r0 x hx) hC (zdk dk_X11_locator 3 rfl) (q := 6) rfl rfl (Nat.le_of_ble_eq_true rfl) (fun z1 => ?_)
  refine x_if_eq (tgt := 13) hC (zdk dk_X11_locator 4 rfl) (q := 9) rfl rfl (fun _ => ?_) (fun _ => ?_)
  · refine x_weak (L' := [.null, .null, .null, .null]) ⟨Or.inl rfl, Or.inl rfl, Or.inl rfl, Or.inl rfl, trivial⟩ ?_
    exact x_X11_locator_13 hC hE hk0 h_r0 _
  · refine x_iload_n (i := 3) rfl hC (zdk dk_X11_locator 5 rfl) (q := 10) rfl ?_
    refine x_if_ge (tgt := 15) hC (zdk dk_X11_locator 6 rfl) (q := 13) rfl rfl (fun _ => ?_) (fun _ => ?_)
    · refine x_aload_n (i := 0) rfl hC (zdk dk_X11_locator 9 rfl) (q := 16) rfl ?_
      refine x_iload_n (i := 1) rfl hC (zdk dk_X11_locator 10 rfl) (q := 17) rfl ?_
      refine x_iload_n (i := 2) rfl hC (zdk dk_X11_locator 11 rfl) (q := 18) rfl ?_
      refine x_callVv (as := [.int x1, .int x2]) cb_RX11_272 rfl (by decide) hk0 h_r0 (fun x hx => t_X11_decode h_r0 x hx) hC (zdk dk_X11_locator 12 rfl) (q := 21) rfl rfl (Nat.le_of_ble_eq_true rfl) (fun M2 => ?_)
      refine x_iload_n (i := 3) rfl hC (zdk dk_X11_locator 13 rfl) (q := 22) rfl ?_
      refine x_if_ne (tgt := 33) hC (zdk dk_X11_locator 14 rfl) (q := 25) rfl rfl (fun _ => ?_) (fun _ => ?_)
      · refine x_aload_n (i := 0) rfl hC (zdk dk_X11_locator 19 rfl) (q := 34) rfl ?_
        refine x_getR (k := 2) fl_RX11_26 rfl h_r0 hC (zdk dk_X11_locator 20 rfl) (q := 37) rfl (fun q3 hq3 => ?_)
        refine x_getI fl_RX11_282 (by decide) hq3 hC (zdk dk_X11_locator 21 rfl) (q := 40) rfl ?_
        refine x_iconst (i := 1) c_iconst_1 hC (zdk dk_X11_locator 22 rfl) (q := 41) rfl ?_
        refine x_icmp_eq (tgt := 55) hC (zdk dk_X11_locator 23 rfl) (q := 44) rfl rfl (fun _ => ?_) (fun _ => ?_)
        · refine x_weak (L' := [.null, .null, .null, .null]) ⟨Or.inl rfl, Or.inl rfl, Or.inl rfl, Or.inl rfl, trivial⟩ ?_
          exact x_X11_locator_55 hC hE hk0 h_r0 _
        · refine x_iload_n (i := 3) rfl hC (zdk dk_X11_locator 24 rfl) (q := 45) rfl ?_
          refine x_aload_n (i := 0) rfl hC (zdk dk_X11_locator 25 rfl) (q := 46) rfl ?_
          refine x_getR (k := 2) fl_RX11_26 rfl h_r0 hC (zdk dk_X11_locator 26 rfl) (q := 49) rfl (fun q4 hq4 => ?_)
          refine x_getI fl_RX11_279 (by decide) hq4 hC (zdk dk_X11_locator 27 rfl) (q := 52) rfl ?_
          refine x_icmp_le (tgt := 59) hC (zdk dk_X11_locator 28 rfl) (q := 55) rfl rfl (fun _ => ?_) (fun _ => ?_)
          · refine x_aload_n (i := 0) rfl hC (zdk dk_X11_locator 31 rfl) (q := 60) rfl ?_
            refine x_getR (k := 2) fl_RX11_26 rfl h_r0 hC (zdk dk_X11_locator 32 rfl) (q := 63) rfl (fun q5 hq5 => ?_)
            refine x_getR (k := 20) fl_RX11_285 rfl hq5 hC (zdk dk_X11_locator 33 rfl) (q := 66) rfl (fun q6 hq6 => ?_)
            refine x_iload_n (i := 3) rfl hC (zdk dk_X11_locator 34 rfl) (q := 67) rfl ?_
            refine x_iald hq6 hC (zdk dk_X11_locator 35 rfl) (q := 68) rfl (fun k7 _ => ?_)
            refine x_weak (L' := [.null, .null, .null, .null]) ⟨Or.inl rfl, Or.inl rfl, Or.inl rfl, Or.inl rfl, trivial⟩ ?_
            exact x_X11_locator_68 hC hE hk0 h_r0 _ _
          · refine x_weak (L' := [.null, .null, .null, .null]) ⟨Or.inl rfl, Or.inl rfl, Or.inl rfl, Or.inl rfl, trivial⟩ ?_
            exact x_X11_locator_55 hC hE hk0 h_r0 _
      · refine x_aload_n (i := 0) rfl hC (zdk dk_X11_locator 15 rfl) (q := 26) rfl ?_
        refine x_getR (k := 2) fl_RX11_26 rfl h_r0 hC (zdk dk_X11_locator 16 rfl) (q := 29) rfl (fun q8 hq8 => ?_)
        refine x_getI fl_RX11_279 (by decide) hq8 hC (zdk dk_X11_locator 17 rfl) (q := 32) rfl ?_
        exact x_iret (ty := .int) rfl hE hC (zdk dk_X11_locator 18 rfl)
    · refine x_weak (L' := [.null, .null, .null, .null]) ⟨Or.inl rfl, Or.inl rfl, Or.inl rfl, Or.inl rfl, trivial⟩ ?_
      exact x_X11_locator_13 hC hE hk0 h_r0 _
set_option maxRecDepth 100000 in
set_option maxHeartbeats 4000000 in
theorem t_X11_locator {n : Nat} {r0 : Nat} {x1 : Int32} {x2 : Int32} {x3 : Int32} {M : Mem} (h_r0 : zO n r0 11) (x : (Int32 × Mem)) (hx : f_X11_locator r0 x1 x2 x3 M = some x) (l : Launch) (dC : Nat → ClassId) (dI : Nat → Nat → Nat) (b : zSg) : MT l dC dI b yX11_locator cX11_locator 4 (some .int) 5 0 0 n n [.ref r0, .int x1, .int x2, .int x3] M (emI x).1 (emI x).2 :=
  MT.ofX (by decide +kernel) rfl (Nat.le_of_ble_eq_true rfl) (fun κ hC hF _ => x_X11_locator hC (zEnd_of hF (Nat.le_refl _) (Nat.le_refl _)) (zRk_of hF (Nat.le_refl _) (Nat.le_refl _)) _ _ _ _ _ h_r0) x hx
set_option maxRecDepth 100000 in
def dt_X11_wrong : List (Nat × Instr × Nat) := [(0, .aload_n 0, 1), (1, .iload_n 1, 1), (2, .iload_n 2, 1), (3, .invokevirtual 266, 3), (6, .ifCond .eq 8, 3), (9, .iload_n 3, 1), (10, .iconst (-1), 1), (11, .if_icmp .ge 5, 3), (14, .iconst (-1), 1), (15, .ireturn, 1), (16, .aload_n 0, 1), (17, .iload_n 1, 1), (18, .iload_n 2, 1), (19, .invokevirtual 272, 3), (22, .aload_n 0, 1), (23, .getfield 26, 3), (26, .getfield 282, 3), (29, .ifCond .ne 14, 3), (32, .iload_n 3, 1), (33, .aload_n 0, 1), (34, .getfield 26, 3), (37, .getfield 279, 3), (40, .if_icmp .lt 5, 3), (43, .iconst (-1), 1), (44, .ireturn, 1), (45, .iload_n 3, 1), (46, .iconst (-1), 1), (47, .if_icmp .ne 13, 3), (50, .aload_n 0, 1), (51, .getfield 26, 3), (54, .getfield 279, 3), (57, .goto 12, 3), (60, .aload_n 0, 1), (61, .getfield 26, 3), (64, .getfield 288, 3), (67, .iload_n 3, 1), (68, .iaload, 1), (69, .ireturn, 1)]
set_option maxRecDepth 100000 in
theorem dk_X11_wrong : dt_X11_wrong.all (fun q => decide (decode cX11_wrong q.1 = .ok q.2)) = true := by decide +kernel
set_option maxRecDepth 100000 in
def f_X11_wrong_14  (r0 : Nat) (x1 : Int32) (x2 : Int32) (x3 : Int32)  (M : Mem) : Option (Int32 × Mem) := some ((-1), M)
set_option maxRecDepth 100000 in
set_option maxHeartbeats 4000000 in
theorem x_X11_wrong_14 {κ : KX} {n : Nat} (hC : CX κ cX11_wrong RX11 4 (some .int) 5) (hE : zEnd κ n (0, 0)) (hk0 : zRk κ (0, 0)) {r0 : Nat} {x1 : Int32} {x2 : Int32} {x3 : Int32} (h_r0 : zO n r0 11) (M : Mem) : X κ 4 emI n (0, 0) 14 [.null, .null, .null, .null] [] M (f_X11_wrong_14 r0 x1 x2 x3 M) := by
  unfold f_X11_wrong_14
  refine x_iconst (i := (-1)) c_iconst_m1 hC (zdk dk_X11_wrong 8 rfl) (q := 15) rfl ?_
  exact x_iret (ty := .int) rfl hE hC (zdk dk_X11_wrong 9 rfl)
set_option maxRecDepth 100000 in
def f_X11_wrong_43  (r0 : Nat) (x1 : Int32) (x2 : Int32) (x3 : Int32)  (M : Mem) : Option (Int32 × Mem) := some ((-1), M)
set_option maxRecDepth 100000 in
set_option maxHeartbeats 4000000 in
theorem x_X11_wrong_43 {κ : KX} {n : Nat} (hC : CX κ cX11_wrong RX11 4 (some .int) 5) (hE : zEnd κ n (0, 0)) (hk0 : zRk κ (0, 0)) {r0 : Nat} {x1 : Int32} {x2 : Int32} {x3 : Int32} (h_r0 : zO n r0 11) (M : Mem) : X κ 4 emI n (0, 0) 43 [.null, .null, .null, .null] [] M (f_X11_wrong_43 r0 x1 x2 x3 M) := by
  unfold f_X11_wrong_43
  refine x_iconst (i := (-1)) c_iconst_m1 hC (zdk dk_X11_wrong 23 rfl) (q := 44) rfl ?_
  exact x_iret (ty := .int) rfl hE hC (zdk dk_X11_wrong 24 rfl)
set_option maxRecDepth 100000 in
def f_X11_wrong_69  (r0 : Nat) (x1 : Int32) (x2 : Int32) (x3 : Int32) (s0 : Int32) (M : Mem) : Option (Int32 × Mem) := some (s0, M)
set_option maxRecDepth 100000 in
set_option maxHeartbeats 4000000 in
theorem x_X11_wrong_69 {κ : KX} {n : Nat} (hC : CX κ cX11_wrong RX11 4 (some .int) 5) (hE : zEnd κ n (0, 0)) (hk0 : zRk κ (0, 0)) {r0 : Nat} {x1 : Int32} {x2 : Int32} {x3 : Int32} (h_r0 : zO n r0 11) (s0 : Int32) (M : Mem) : X κ 4 emI n (0, 0) 69 [.null, .null, .null, .null] [.int s0] M (f_X11_wrong_69 r0 x1 x2 x3 s0 M) := by
  unfold f_X11_wrong_69
  exact x_iret (ty := .int) rfl hE hC (zdk dk_X11_wrong 37 rfl)
set_option maxRecDepth 100000 in
def f_X11_wrong (r0 : Nat) (x1 : Int32) (x2 : Int32) (x3 : Int32) (M : Mem) : Option (Int32 × Mem) := Option.bind (f_X11_isRead r0 x1 x2 M) fun z1 => (if z1.1 = 0 then f_X11_wrong_14 r0 x1 x2 x3 z1.2 else (if (-1) ≤ x3 then Option.bind (f_X11_decode r0 x1 x2 z1.2) fun M2 => Option.bind (zrf M2 r0 3) fun q3 => (if zI M2 q3 9 = 0 then Option.bind (zrf M2 r0 3) fun q4 => (if x3 < zI M2 q4 8 then (if x3 = (-1) then Option.bind (zrf M2 r0 3) fun q8 => f_X11_wrong_69 r0 x1 x2 x3 (zI M2 q8 8) M2 else Option.bind (zrf M2 r0 3) fun q5 => Option.bind (zrf M2 q5 4) fun q6 => Option.bind (zld q6 x3) fun k7 => f_X11_wrong_69 r0 x1 x2 x3 (zI M2 q6 k7) M2) else f_X11_wrong_43 r0 x1 x2 x3 M2) else f_X11_wrong_43 r0 x1 x2 x3 M2) else f_X11_wrong_14 r0 x1 x2 x3 z1.2))
set_option maxRecDepth 100000 in
set_option maxHeartbeats 4000000 in
theorem x_X11_wrong {κ : KX} {n : Nat} (hC : CX κ cX11_wrong RX11 4 (some .int) 5) (hE : zEnd κ n (0, 0)) (hk0 : zRk κ (0, 0)) (r0 : Nat) (x1 : Int32) (x2 : Int32) (x3 : Int32) (M : Mem) (h_r0 : zO n r0 11) : X κ 4 emI n (0, 0) 0 [.ref r0, .int x1, .int x2, .int x3] [] M (f_X11_wrong r0 x1 x2 x3 M) := by
  unfold f_X11_wrong
  refine x_aload_n (i := 0) rfl hC (zdk dk_X11_wrong 0 rfl) (q := 1) rfl ?_
  refine x_iload_n (i := 1) rfl hC (zdk dk_X11_wrong 1 rfl) (q := 2) rfl ?_
  refine x_iload_n (i := 2) rfl hC (zdk dk_X11_wrong 2 rfl) (q := 3) rfl ?_
  refine x_callVi (as := [.int x1, .int x2]) cb_RX11_266 rfl (by decide) hk0 h_r0 (fun x hx => t_X11_isRead h_r0 x hx) hC (zdk dk_X11_wrong 3 rfl) (q := 6) rfl rfl (Nat.le_of_ble_eq_true rfl) (fun z1 => ?_)
  refine x_if_eq (tgt := 14) hC (zdk dk_X11_wrong 4 rfl) (q := 9) rfl rfl (fun _ => ?_) (fun _ => ?_)
  · refine x_weak (L' := [.null, .null, .null, .null]) ⟨Or.inl rfl, Or.inl rfl, Or.inl rfl, Or.inl rfl, trivial⟩ ?_
    exact x_X11_wrong_14 hC hE hk0 h_r0 _
  · refine x_iload_n (i := 3) rfl hC (zdk dk_X11_wrong 5 rfl) (q := 10) rfl ?_
    refine x_iconst (i := (-1)) c_iconst_m1 hC (zdk dk_X11_wrong 6 rfl) (q := 11) rfl ?_
    refine x_icmp_ge (tgt := 16) hC (zdk dk_X11_wrong 7 rfl) (q := 14) rfl rfl (fun _ => ?_) (fun _ => ?_)
    · refine x_aload_n (i := 0) rfl hC (zdk dk_X11_wrong 10 rfl) (q := 17) rfl ?_
      refine x_iload_n (i := 1) rfl hC (zdk dk_X11_wrong 11 rfl) (q := 18) rfl ?_
      refine x_iload_n (i := 2) rfl hC (zdk dk_X11_wrong 12 rfl) (q := 19) rfl ?_
      refine x_callVv (as := [.int x1, .int x2]) cb_RX11_272 rfl (by decide) hk0 h_r0 (fun x hx => t_X11_decode h_r0 x hx) hC (zdk dk_X11_wrong 13 rfl) (q := 22) rfl rfl (Nat.le_of_ble_eq_true rfl) (fun M2 => ?_)
      refine x_aload_n (i := 0) rfl hC (zdk dk_X11_wrong 14 rfl) (q := 23) rfl ?_
      refine x_getR (k := 2) fl_RX11_26 rfl h_r0 hC (zdk dk_X11_wrong 15 rfl) (q := 26) rfl (fun q3 hq3 => ?_)
      refine x_getI fl_RX11_282 (by decide) hq3 hC (zdk dk_X11_wrong 16 rfl) (q := 29) rfl ?_
      refine x_if_ne (tgt := 43) hC (zdk dk_X11_wrong 17 rfl) (q := 32) rfl rfl (fun _ => ?_) (fun _ => ?_)
      · refine x_weak (L' := [.null, .null, .null, .null]) ⟨Or.inl rfl, Or.inl rfl, Or.inl rfl, Or.inl rfl, trivial⟩ ?_
        exact x_X11_wrong_43 hC hE hk0 h_r0 _
      · refine x_iload_n (i := 3) rfl hC (zdk dk_X11_wrong 18 rfl) (q := 33) rfl ?_
        refine x_aload_n (i := 0) rfl hC (zdk dk_X11_wrong 19 rfl) (q := 34) rfl ?_
        refine x_getR (k := 2) fl_RX11_26 rfl h_r0 hC (zdk dk_X11_wrong 20 rfl) (q := 37) rfl (fun q4 hq4 => ?_)
        refine x_getI fl_RX11_279 (by decide) hq4 hC (zdk dk_X11_wrong 21 rfl) (q := 40) rfl ?_
        refine x_icmp_lt (tgt := 45) hC (zdk dk_X11_wrong 22 rfl) (q := 43) rfl rfl (fun _ => ?_) (fun _ => ?_)
        · refine x_iload_n (i := 3) rfl hC (zdk dk_X11_wrong 25 rfl) (q := 46) rfl ?_
          refine x_iconst (i := (-1)) c_iconst_m1 hC (zdk dk_X11_wrong 26 rfl) (q := 47) rfl ?_
          refine x_icmp_ne (tgt := 60) hC (zdk dk_X11_wrong 27 rfl) (q := 50) rfl rfl (fun _ => ?_) (fun _ => ?_)
          · refine x_aload_n (i := 0) rfl hC (zdk dk_X11_wrong 32 rfl) (q := 61) rfl ?_
            refine x_getR (k := 2) fl_RX11_26 rfl h_r0 hC (zdk dk_X11_wrong 33 rfl) (q := 64) rfl (fun q5 hq5 => ?_)
            refine x_getR (k := 20) fl_RX11_288 rfl hq5 hC (zdk dk_X11_wrong 34 rfl) (q := 67) rfl (fun q6 hq6 => ?_)
            refine x_iload_n (i := 3) rfl hC (zdk dk_X11_wrong 35 rfl) (q := 68) rfl ?_
            refine x_iald hq6 hC (zdk dk_X11_wrong 36 rfl) (q := 69) rfl (fun k7 _ => ?_)
            refine x_weak (L' := [.null, .null, .null, .null]) ⟨Or.inl rfl, Or.inl rfl, Or.inl rfl, Or.inl rfl, trivial⟩ ?_
            exact x_X11_wrong_69 hC hE hk0 h_r0 _ _
          · refine x_aload_n (i := 0) rfl hC (zdk dk_X11_wrong 28 rfl) (q := 51) rfl ?_
            refine x_getR (k := 2) fl_RX11_26 rfl h_r0 hC (zdk dk_X11_wrong 29 rfl) (q := 54) rfl (fun q8 hq8 => ?_)
            refine x_getI fl_RX11_279 (by decide) hq8 hC (zdk dk_X11_wrong 30 rfl) (q := 57) rfl ?_
            refine x_goto (tgt := 69) hC (zdk dk_X11_wrong 31 rfl) rfl ?_
            refine x_weak (L' := [.null, .null, .null, .null]) ⟨Or.inl rfl, Or.inl rfl, Or.inl rfl, Or.inl rfl, trivial⟩ ?_
            exact x_X11_wrong_69 hC hE hk0 h_r0 _ _
        · refine x_weak (L' := [.null, .null, .null, .null]) ⟨Or.inl rfl, Or.inl rfl, Or.inl rfl, Or.inl rfl, trivial⟩ ?_
          exact x_X11_wrong_43 hC hE hk0 h_r0 _
    · refine x_weak (L' := [.null, .null, .null, .null]) ⟨Or.inl rfl, Or.inl rfl, Or.inl rfl, Or.inl rfl, trivial⟩ ?_
      exact x_X11_wrong_14 hC hE hk0 h_r0 _
set_option maxRecDepth 100000 in
set_option maxHeartbeats 4000000 in
theorem t_X11_wrong {n : Nat} {r0 : Nat} {x1 : Int32} {x2 : Int32} {x3 : Int32} {M : Mem} (h_r0 : zO n r0 11) (x : (Int32 × Mem)) (hx : f_X11_wrong r0 x1 x2 x3 M = some x) (l : Launch) (dC : Nat → ClassId) (dI : Nat → Nat → Nat) (b : zSg) : MT l dC dI b yX11_wrong cX11_wrong 4 (some .int) 5 0 0 n n [.ref r0, .int x1, .int x2, .int x3] M (emI x).1 (emI x).2 :=
  MT.ofX (by decide +kernel) rfl (Nat.le_of_ble_eq_true rfl) (fun κ hC hF _ => x_X11_wrong hC (zEnd_of hF (Nat.le_refl _) (Nat.le_refl _)) (zRk_of hF (Nat.le_refl _) (Nat.le_refl _)) _ _ _ _ _ h_r0) x hx
