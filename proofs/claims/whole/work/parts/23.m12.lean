set_option maxRecDepth 100000 in
def dt_X12_lays : List (Nat × Instr × Nat) := [(0, .aload_n 0, 1), (1, .iconst 1, 1), (2, .aload_n 0, 1), (3, .iconst 0, 1), (4, .invokevirtual 428, 3), (7, .ishl, 1), (8, .iconst 1, 1), (9, .isub, 1), (10, .putfield 126, 3), (13, .iconst 1, 1), (14, .istore_n 1, 1), (15, .iconst 0, 1), (16, .istore_n 2, 1), (17, .iload_n 2, 1), (18, .aload_n 0, 1), (19, .getfield 126, 3), (22, .if_icmp .ge 38, 3), (25, .aload_n 0, 1), (26, .getfield 141, 3), (29, .iload_n 2, 1), (30, .iload_n 1, 1), (31, .iastore, 1), (32, .aload_n 0, 1), (33, .getfield 144, 3), (36, .iload_n 1, 1), (37, .iload_n 2, 1), (38, .iastore, 1), (39, .iload_n 1, 1), (40, .aload_n 0, 1), (41, .iconst 0, 1), (42, .invokevirtual 428, 3), (45, .aload_n 0, 1), (46, .iconst 1, 1), (47, .invokevirtual 428, 3), (50, .invokestatic 360, 3), (53, .istore_n 1, 1), (54, .iinc 2 1, 3), (57, .goto (-40), 3), (60, .aload_n 0, 1), (61, .aload_n 0, 1), (62, .aload_n 0, 1), (63, .iconst 0, 1), (64, .invokevirtual 428, 3), (67, .aload_n 0, 1), (68, .iconst 2, 1), (69, .invokevirtual 428, 3), (72, .invokevirtual 376, 3), (75, .putfield 129, 3), (78, .aload_n 0, 1), (79, .aload_n 0, 1), (80, .getfield 126, 3), (83, .aload_n 0, 1), (84, .getfield 129, 3), (87, .isub, 1), (88, .aload_n 0, 1), (89, .iconst 3, 1), (90, .invokevirtual 428, 3), (93, .isub, 1), (94, .putfield 135, 3), (97, .aload_n 0, 1), (98, .aload_n 0, 1), (99, .getfield 126, 3), (102, .aload_n 0, 1), (103, .iconst 3, 1), (104, .invokevirtual 428, 3), (107, .isub, 1), (108, .putfield 132, 3), (111, .aload_n 0, 1), (112, .getfield 147, 3), (115, .iconst 0, 1), (116, .iconst 1, 1), (117, .iastore, 1), (118, .iconst 0, 1), (119, .istore_n 2, 1), (120, .iconst 0, 1), (121, .istore_n 3, 1), (122, .iload_n 3, 1), (123, .aload_n 0, 1), (124, .getfield 126, 3), (127, .if_icmp .ge 30, 3), (130, .aload_n 0, 1), (131, .getfield 117, 3), (134, .iload_n 3, 1), (135, .iaload, 1), (136, .ifCond .ne 6, 3), (139, .goto 12, 3), (142, .aload_n 0, 1), (143, .iload_n 2, 1), (144, .iload_n 3, 1), (145, .invokevirtual 431, 3), (148, .iinc 2 1, 3), (151, .iinc 3 1, 3), (154, .goto (-32), 3), (157, .aload_n 0, 1), (158, .aload_n 0, 1), (159, .iload_n 2, 1), (160, .invokevirtual 434, 3), (163, .putfield 138, 3), (166, .return_, 1)]
set_option maxRecDepth 100000 in
theorem dk_X12_lays : dt_X12_lays.all (fun q => decide (decode cX12_lays q.1 = .ok q.2)) = true := by decide +kernel
set_option maxRecDepth 100000 in
def f_X12_lays_151 (k122 : Int32 → Int32 → Mem → Option Mem) (r0 : Nat) (x2 : Int32) (x3 : Int32) (M : Mem) : Option Mem := k122 x2 (x3 + 1) M
set_option maxRecDepth 100000 in
set_option maxHeartbeats 4000000 in
theorem x_X12_lays_151 {κ : KX} {n : Nat} (hC : CX κ cX12_lays RX12 4 none 2) (hE : zEnd κ n (0, 0)) (hk0 : zRk κ (0, 0)) {r0 : Nat} (h_r0 : zO n r0 12) (k122 : Int32 → Int32 → Mem → Option Mem) (hk122 : ∀ (x2 : Int32) (x3 : Int32) (M : Mem), X κ 4 emV n (0, 0) 122 [.ref r0, .null, .int x2, .int x3] [] M (k122 x2 x3 M)) (x2 : Int32) (x3 : Int32) (M : Mem) : X κ 4 emV n (0, 0) 151 [.ref r0, .null, .int x2, .int x3] [] M (f_X12_lays_151 k122 r0 x2 x3 M) := by
  unfold f_X12_lays_151
  refine x_iinc (i := 3) c_iconst_1 rfl (by decide) (L' := [.ref r0, .null, .int x2, .int (x3 + 1)]) rfl hC (zdk dk_X12_lays 91 rfl) (q := 154) rfl ?_
  refine x_goto (tgt := 122) hC (zdk dk_X12_lays 92 rfl) rfl ?_
  refine x_weak (L' := [.ref r0, .null, .int x2, .int (x3 + 1)]) ⟨Or.inr rfl, Or.inl rfl, Or.inr rfl, Or.inr rfl, trivial⟩ ?_
  exact hk122 _ _ _
set_option maxRecDepth 100000 in
def f_X12_lays_122  (r0 : Nat) : Nat → Int32 → Int32 → Mem → Option Mem
  | 0, _, _, _ => none
  | f + 1, x2, x3, M => (if zI M r0 37 ≤ x3 then Option.bind (f_X12_twoElements r0 x2 M) fun z1 => Option.bind (some (zsL z1.2 r0 41 z1.1)) fun M2 => some M2 else Option.bind (zrf M r0 34) fun q3 => Option.bind (zld q3 x3) fun k4 => (if zI M q3 k4 = 0 then f_X12_lays_151 (f_X12_lays_122 r0 f) r0 x2 x3 M else Option.bind (f_X12_multiplies r0 x2 x3 M) fun M5 => f_X12_lays_151 (f_X12_lays_122 r0 f) r0 (x2 + 1) x3 M5))
set_option maxRecDepth 100000 in
set_option maxHeartbeats 4000000 in
theorem x_X12_lays_122 {κ : KX} {n : Nat} (hC : CX κ cX12_lays RX12 4 none 2) (hE : zEnd κ n (0, 0)) (hk0 : zRk κ (0, 0)) {r0 : Nat} (h_r0 : zO n r0 12) : ∀ (f : Nat) (x2 : Int32) (x3 : Int32) (M : Mem), X κ 4 emV n (0, 0) 122 [.ref r0, .null, .int x2, .int x3] [] M (f_X12_lays_122 r0 f x2 x3 M) := by
  intro f
  induction f with
  | zero => intros; exact x_none
  | succ f ih =>
    intro x2 x3 M 
    rw [f_X12_lays_122]
    refine x_iload_n (i := 3) rfl hC (zdk dk_X12_lays 76 rfl) (q := 123) rfl ?_
    refine x_aload_n (i := 0) rfl hC (zdk dk_X12_lays 77 rfl) (q := 124) rfl ?_
    refine x_getI fl_RX12_126 (by decide) h_r0 hC (zdk dk_X12_lays 78 rfl) (q := 127) rfl ?_
    refine x_icmp_ge (tgt := 157) hC (zdk dk_X12_lays 79 rfl) (q := 130) rfl rfl (fun _ => ?_) (fun _ => ?_)
    · refine x_aload_n (i := 0) rfl hC (zdk dk_X12_lays 93 rfl) (q := 158) rfl ?_
      refine x_aload_n (i := 0) rfl hC (zdk dk_X12_lays 94 rfl) (q := 159) rfl ?_
      refine x_iload_n (i := 2) rfl hC (zdk dk_X12_lays 95 rfl) (q := 160) rfl ?_
      refine x_callVl (as := [.int x2]) cb_RX12_434 rfl (by decide) hk0 h_r0 (fun x hx => t_X12_twoElements h_r0 x hx) hC (zdk dk_X12_lays 96 rfl) (q := 163) rfl rfl (Nat.le_of_ble_eq_true rfl) (fun z1 => ?_)
      refine x_putL fl_RX12_138 ⟨rfl, rfl⟩ (Or.inl rfl) h_r0 hC (zdk dk_X12_lays 97 rfl) (q := 166) rfl ?_
      refine x_nmM (fun M2 => ?_)
      exact x_vret hE hC (zdk dk_X12_lays 98 rfl)
    · refine x_aload_n (i := 0) rfl hC (zdk dk_X12_lays 80 rfl) (q := 131) rfl ?_
      refine x_getR (k := 20) fl_RX12_117 rfl h_r0 hC (zdk dk_X12_lays 81 rfl) (q := 134) rfl (fun q3 hq3 => ?_)
      refine x_iload_n (i := 3) rfl hC (zdk dk_X12_lays 82 rfl) (q := 135) rfl ?_
      refine x_iald hq3 hC (zdk dk_X12_lays 83 rfl) (q := 136) rfl (fun k4 _ => ?_)
      refine x_if_ne (tgt := 142) hC (zdk dk_X12_lays 84 rfl) (q := 139) rfl rfl (fun _ => ?_) (fun _ => ?_)
      · refine x_aload_n (i := 0) rfl hC (zdk dk_X12_lays 86 rfl) (q := 143) rfl ?_
        refine x_iload_n (i := 2) rfl hC (zdk dk_X12_lays 87 rfl) (q := 144) rfl ?_
        refine x_iload_n (i := 3) rfl hC (zdk dk_X12_lays 88 rfl) (q := 145) rfl ?_
        refine x_callVv (as := [.int x2, .int x3]) cb_RX12_431 rfl (by decide) hk0 h_r0 (fun x hx => t_X12_multiplies h_r0 x hx) hC (zdk dk_X12_lays 89 rfl) (q := 148) rfl rfl (Nat.le_of_ble_eq_true rfl) (fun M5 => ?_)
        refine x_iinc (i := 2) c_iconst_1 rfl (by decide) (L' := [.ref r0, .null, .int (x2 + 1), .int x3]) rfl hC (zdk dk_X12_lays 90 rfl) (q := 151) rfl ?_
        refine x_weak (L' := [.ref r0, .null, .int (x2 + 1), .int x3]) ⟨Or.inr rfl, Or.inl rfl, Or.inr rfl, Or.inr rfl, trivial⟩ ?_
        exact x_X12_lays_151 hC hE hk0 h_r0 (f_X12_lays_122 r0 f) ih _ _ _
      · refine x_goto (tgt := 151) hC (zdk dk_X12_lays 85 rfl) rfl ?_
        refine x_weak (L' := [.ref r0, .null, .int x2, .int x3]) ⟨Or.inr rfl, Or.inl rfl, Or.inr rfl, Or.inr rfl, trivial⟩ ?_
        exact x_X12_lays_151 hC hE hk0 h_r0 (f_X12_lays_122 r0 f) ih _ _ _
set_option maxRecDepth 100000 in
def f_X12_lays_17  (r0 : Nat) : Nat → Int32 → Int32 → Mem → Option Mem
  | 0, _, _, _ => none
  | f + 1, x1, x2, M => (if zI M r0 37 ≤ x2 then Option.bind (f_X12_by r0 0 M) fun z6 => Option.bind (f_X12_by r0 2 z6.2) fun z7 => Option.bind (f_X12_rootsFor r0 z6.1 z7.1 z7.2) fun z8 => Option.bind (some (zsI z8.2 r0 38 z8.1)) fun M9 => Option.bind (f_X12_by r0 3 M9) fun z10 => Option.bind (some (zsI z10.2 r0 40 (((zI M9 r0 37) - (zI M9 r0 38)) - z10.1))) fun M11 => Option.bind (f_X12_by r0 3 M11) fun z12 => Option.bind (some (zsI z12.2 r0 39 ((zI M11 r0 37) - z12.1))) fun M13 => Option.bind (zrf M13 r0 44) fun q14 => Option.bind (zld q14 0) fun k15 => Option.bind (some (zsI M13 q14 k15 1)) fun M16 => f_X12_lays_122 r0 1000000 0 0 M16 else Option.bind (zrf M r0 42) fun q17 => Option.bind (zld q17 x2) fun k18 => Option.bind (some (zsI M q17 k18 x1)) fun M19 => Option.bind (zrf M19 r0 43) fun q20 => Option.bind (zld q20 x1) fun k21 => Option.bind (some (zsI M19 q20 k21 x2)) fun M22 => Option.bind (f_X12_by r0 0 M22) fun z23 => Option.bind (f_X12_by r0 1 z23.2) fun z24 => Option.bind (f_X12_timesA x1 z23.1 z24.1 z24.2) fun z25 => (f_X12_lays_17 r0 f) z25.1 (x2 + 1) z25.2)
set_option maxRecDepth 100000 in
set_option maxHeartbeats 4000000 in
theorem x_X12_lays_17 {κ : KX} {n : Nat} (hC : CX κ cX12_lays RX12 4 none 2) (hE : zEnd κ n (0, 0)) (hk0 : zRk κ (0, 0)) {r0 : Nat} (h_r0 : zO n r0 12) : ∀ (f : Nat) (x1 : Int32) (x2 : Int32) (M : Mem), X κ 4 emV n (0, 0) 17 [.ref r0, .int x1, .int x2, .null] [] M (f_X12_lays_17 r0 f x1 x2 M) := by
  intro f
  induction f with
  | zero => intros; exact x_none
  | succ f ih =>
    intro x1 x2 M 
    rw [f_X12_lays_17]
    refine x_iload_n (i := 2) rfl hC (zdk dk_X12_lays 13 rfl) (q := 18) rfl ?_
    refine x_aload_n (i := 0) rfl hC (zdk dk_X12_lays 14 rfl) (q := 19) rfl ?_
    refine x_getI fl_RX12_126 (by decide) h_r0 hC (zdk dk_X12_lays 15 rfl) (q := 22) rfl ?_
    refine x_icmp_ge (tgt := 60) hC (zdk dk_X12_lays 16 rfl) (q := 25) rfl rfl (fun _ => ?_) (fun _ => ?_)
    · refine x_aload_n (i := 0) rfl hC (zdk dk_X12_lays 38 rfl) (q := 61) rfl ?_
      refine x_aload_n (i := 0) rfl hC (zdk dk_X12_lays 39 rfl) (q := 62) rfl ?_
      refine x_aload_n (i := 0) rfl hC (zdk dk_X12_lays 40 rfl) (q := 63) rfl ?_
      refine x_iconst (i := 0) c_iconst_0 hC (zdk dk_X12_lays 41 rfl) (q := 64) rfl ?_
      refine x_callVi (as := [.int 0]) cb_RX12_428 rfl (by decide) hk0 h_r0 (fun x hx => t_X12_by h_r0 x hx) hC (zdk dk_X12_lays 42 rfl) (q := 67) rfl rfl (Nat.le_of_ble_eq_true rfl) (fun z6 => ?_)
      refine x_aload_n (i := 0) rfl hC (zdk dk_X12_lays 43 rfl) (q := 68) rfl ?_
      refine x_iconst (i := 2) c_iconst_2 hC (zdk dk_X12_lays 44 rfl) (q := 69) rfl ?_
      refine x_callVi (as := [.int 2]) cb_RX12_428 rfl (by decide) hk0 h_r0 (fun x hx => t_X12_by h_r0 x hx) hC (zdk dk_X12_lays 45 rfl) (q := 72) rfl rfl (Nat.le_of_ble_eq_true rfl) (fun z7 => ?_)
      refine x_callVi (as := [.int z6.1, .int z7.1]) cb_RX12_376 rfl (by decide) hk0 h_r0 (fun x hx => t_X12_rootsFor h_r0 x hx) hC (zdk dk_X12_lays 46 rfl) (q := 75) rfl rfl (Nat.le_of_ble_eq_true rfl) (fun z8 => ?_)
      refine x_putI fl_RX12_129 ⟨rfl, rfl⟩ (by decide) (Or.inl rfl) h_r0 hC (zdk dk_X12_lays 47 rfl) (q := 78) rfl ?_
      refine x_nmM (fun M9 => ?_)
      refine x_aload_n (i := 0) rfl hC (zdk dk_X12_lays 48 rfl) (q := 79) rfl ?_
      refine x_aload_n (i := 0) rfl hC (zdk dk_X12_lays 49 rfl) (q := 80) rfl ?_
      refine x_getI fl_RX12_126 (by decide) h_r0 hC (zdk dk_X12_lays 50 rfl) (q := 83) rfl ?_
      refine x_aload_n (i := 0) rfl hC (zdk dk_X12_lays 51 rfl) (q := 84) rfl ?_
      refine x_getI fl_RX12_129 (by decide) h_r0 hC (zdk dk_X12_lays 52 rfl) (q := 87) rfl ?_
      refine x_isub hC (zdk dk_X12_lays 53 rfl) (q := 88) rfl ?_
      refine x_aload_n (i := 0) rfl hC (zdk dk_X12_lays 54 rfl) (q := 89) rfl ?_
      refine x_iconst (i := 3) c_iconst_3 hC (zdk dk_X12_lays 55 rfl) (q := 90) rfl ?_
      refine x_callVi (as := [.int 3]) cb_RX12_428 rfl (by decide) hk0 h_r0 (fun x hx => t_X12_by h_r0 x hx) hC (zdk dk_X12_lays 56 rfl) (q := 93) rfl rfl (Nat.le_of_ble_eq_true rfl) (fun z10 => ?_)
      refine x_isub hC (zdk dk_X12_lays 57 rfl) (q := 94) rfl ?_
      refine x_putI fl_RX12_135 ⟨rfl, rfl⟩ (by decide) (Or.inl rfl) h_r0 hC (zdk dk_X12_lays 58 rfl) (q := 97) rfl ?_
      refine x_nmM (fun M11 => ?_)
      refine x_aload_n (i := 0) rfl hC (zdk dk_X12_lays 59 rfl) (q := 98) rfl ?_
      refine x_aload_n (i := 0) rfl hC (zdk dk_X12_lays 60 rfl) (q := 99) rfl ?_
      refine x_getI fl_RX12_126 (by decide) h_r0 hC (zdk dk_X12_lays 61 rfl) (q := 102) rfl ?_
      refine x_aload_n (i := 0) rfl hC (zdk dk_X12_lays 62 rfl) (q := 103) rfl ?_
      refine x_iconst (i := 3) c_iconst_3 hC (zdk dk_X12_lays 63 rfl) (q := 104) rfl ?_
      refine x_callVi (as := [.int 3]) cb_RX12_428 rfl (by decide) hk0 h_r0 (fun x hx => t_X12_by h_r0 x hx) hC (zdk dk_X12_lays 64 rfl) (q := 107) rfl rfl (Nat.le_of_ble_eq_true rfl) (fun z12 => ?_)
      refine x_isub hC (zdk dk_X12_lays 65 rfl) (q := 108) rfl ?_
      refine x_putI fl_RX12_132 ⟨rfl, rfl⟩ (by decide) (Or.inl rfl) h_r0 hC (zdk dk_X12_lays 66 rfl) (q := 111) rfl ?_
      refine x_nmM (fun M13 => ?_)
      refine x_aload_n (i := 0) rfl hC (zdk dk_X12_lays 67 rfl) (q := 112) rfl ?_
      refine x_getR (k := 20) fl_RX12_147 rfl h_r0 hC (zdk dk_X12_lays 68 rfl) (q := 115) rfl (fun q14 hq14 => ?_)
      refine x_iconst (i := 0) c_iconst_0 hC (zdk dk_X12_lays 69 rfl) (q := 116) rfl ?_
      refine x_iconst (i := 1) c_iconst_1 hC (zdk dk_X12_lays 70 rfl) (q := 117) rfl ?_
      refine x_iast hq14 hC (zdk dk_X12_lays 71 rfl) (q := 118) rfl (fun k15 _ => ?_)
      refine x_nmM (fun M16 => ?_)
      refine x_iconst (i := 0) c_iconst_0 hC (zdk dk_X12_lays 72 rfl) (q := 119) rfl ?_
      refine x_istore_n (i := 2) (L' := [.ref r0, .int x1, .int 0, .null]) (by decide) rfl hC (zdk dk_X12_lays 73 rfl) (q := 120) rfl ?_
      refine x_iconst (i := 0) c_iconst_0 hC (zdk dk_X12_lays 74 rfl) (q := 121) rfl ?_
      refine x_istore_n (i := 3) (L' := [.ref r0, .int x1, .int 0, .int 0]) (by decide) rfl hC (zdk dk_X12_lays 75 rfl) (q := 122) rfl ?_
      refine x_weak (L' := [.ref r0, .null, .int 0, .int 0]) ⟨Or.inr rfl, Or.inl rfl, Or.inr rfl, Or.inr rfl, trivial⟩ ?_
      exact x_X12_lays_122 hC hE hk0 h_r0 _ _ _ _
    · refine x_aload_n (i := 0) rfl hC (zdk dk_X12_lays 17 rfl) (q := 26) rfl ?_
      refine x_getR (k := 20) fl_RX12_141 rfl h_r0 hC (zdk dk_X12_lays 18 rfl) (q := 29) rfl (fun q17 hq17 => ?_)
      refine x_iload_n (i := 2) rfl hC (zdk dk_X12_lays 19 rfl) (q := 30) rfl ?_
      refine x_iload_n (i := 1) rfl hC (zdk dk_X12_lays 20 rfl) (q := 31) rfl ?_
      refine x_iast hq17 hC (zdk dk_X12_lays 21 rfl) (q := 32) rfl (fun k18 _ => ?_)
      refine x_nmM (fun M19 => ?_)
      refine x_aload_n (i := 0) rfl hC (zdk dk_X12_lays 22 rfl) (q := 33) rfl ?_
      refine x_getR (k := 20) fl_RX12_144 rfl h_r0 hC (zdk dk_X12_lays 23 rfl) (q := 36) rfl (fun q20 hq20 => ?_)
      refine x_iload_n (i := 1) rfl hC (zdk dk_X12_lays 24 rfl) (q := 37) rfl ?_
      refine x_iload_n (i := 2) rfl hC (zdk dk_X12_lays 25 rfl) (q := 38) rfl ?_
      refine x_iast hq20 hC (zdk dk_X12_lays 26 rfl) (q := 39) rfl (fun k21 _ => ?_)
      refine x_nmM (fun M22 => ?_)
      refine x_iload_n (i := 1) rfl hC (zdk dk_X12_lays 27 rfl) (q := 40) rfl ?_
      refine x_aload_n (i := 0) rfl hC (zdk dk_X12_lays 28 rfl) (q := 41) rfl ?_
      refine x_iconst (i := 0) c_iconst_0 hC (zdk dk_X12_lays 29 rfl) (q := 42) rfl ?_
      refine x_callVi (as := [.int 0]) cb_RX12_428 rfl (by decide) hk0 h_r0 (fun x hx => t_X12_by h_r0 x hx) hC (zdk dk_X12_lays 30 rfl) (q := 45) rfl rfl (Nat.le_of_ble_eq_true rfl) (fun z23 => ?_)
      refine x_aload_n (i := 0) rfl hC (zdk dk_X12_lays 31 rfl) (q := 46) rfl ?_
      refine x_iconst (i := 1) c_iconst_1 hC (zdk dk_X12_lays 32 rfl) (q := 47) rfl ?_
      refine x_callVi (as := [.int 1]) cb_RX12_428 rfl (by decide) hk0 h_r0 (fun x hx => t_X12_by h_r0 x hx) hC (zdk dk_X12_lays 33 rfl) (q := 50) rfl rfl (Nat.le_of_ble_eq_true rfl) (fun z24 => ?_)
      refine x_callSi (as := [.int x1, .int z23.1, .int z24.1]) cb_RX12_360 rfl (by decide) hk0 (fun x hx => t_X12_timesA  x hx) hC (zdk dk_X12_lays 34 rfl) (q := 53) rfl rfl (Nat.le_of_ble_eq_true rfl) (fun z25 => ?_)
      refine x_istore_n (i := 1) (L' := [.ref r0, .int z25.1, .int x2, .null]) (by decide) rfl hC (zdk dk_X12_lays 35 rfl) (q := 54) rfl ?_
      refine x_iinc (i := 2) c_iconst_1 rfl (by decide) (L' := [.ref r0, .int z25.1, .int (x2 + 1), .null]) rfl hC (zdk dk_X12_lays 36 rfl) (q := 57) rfl ?_
      refine x_goto (tgt := 17) hC (zdk dk_X12_lays 37 rfl) rfl ?_
      refine x_weak (L' := [.ref r0, .int z25.1, .int (x2 + 1), .null]) ⟨Or.inr rfl, Or.inr rfl, Or.inr rfl, Or.inl rfl, trivial⟩ ?_
      exact ih _ _ _
set_option maxRecDepth 100000 in
def f_X12_lays (r0 : Nat) (M : Mem) : Option Mem := Option.bind (f_X12_by r0 0 M) fun z26 => Option.bind (some (zsI z26.2 r0 37 (((1 : Int32) <<< (z26.1 &&& 31)) - 1))) fun M27 => f_X12_lays_17 r0 1000000 1 0 M27
set_option maxRecDepth 100000 in
set_option maxHeartbeats 4000000 in
theorem x_X12_lays {κ : KX} {n : Nat} (hC : CX κ cX12_lays RX12 4 none 2) (hE : zEnd κ n (0, 0)) (hk0 : zRk κ (0, 0)) (r0 : Nat) (M : Mem) (h_r0 : zO n r0 12) : X κ 4 emV n (0, 0) 0 [.ref r0, .null, .null, .null] [] M (f_X12_lays r0 M) := by
  unfold f_X12_lays
  refine x_aload_n (i := 0) rfl hC (zdk dk_X12_lays 0 rfl) (q := 1) rfl ?_
  refine x_iconst (i := 1) c_iconst_1 hC (zdk dk_X12_lays 1 rfl) (q := 2) rfl ?_
  refine x_aload_n (i := 0) rfl hC (zdk dk_X12_lays 2 rfl) (q := 3) rfl ?_
  refine x_iconst (i := 0) c_iconst_0 hC (zdk dk_X12_lays 3 rfl) (q := 4) rfl ?_
  refine x_callVi (as := [.int 0]) cb_RX12_428 rfl (by decide) hk0 h_r0 (fun x hx => t_X12_by h_r0 x hx) hC (zdk dk_X12_lays 4 rfl) (q := 7) rfl rfl (Nat.le_of_ble_eq_true rfl) (fun z26 => ?_)
  refine x_ishl hC (zdk dk_X12_lays 5 rfl) (q := 8) rfl ?_
  refine x_iconst (i := 1) c_iconst_1 hC (zdk dk_X12_lays 6 rfl) (q := 9) rfl ?_
  refine x_isub hC (zdk dk_X12_lays 7 rfl) (q := 10) rfl ?_
  refine x_putI fl_RX12_126 ⟨rfl, rfl⟩ (by decide) (Or.inl rfl) h_r0 hC (zdk dk_X12_lays 8 rfl) (q := 13) rfl ?_
  refine x_nmM (fun M27 => ?_)
  refine x_iconst (i := 1) c_iconst_1 hC (zdk dk_X12_lays 9 rfl) (q := 14) rfl ?_
  refine x_istore_n (i := 1) (L' := [.ref r0, .int 1, .null, .null]) (by decide) rfl hC (zdk dk_X12_lays 10 rfl) (q := 15) rfl ?_
  refine x_iconst (i := 0) c_iconst_0 hC (zdk dk_X12_lays 11 rfl) (q := 16) rfl ?_
  refine x_istore_n (i := 2) (L' := [.ref r0, .int 1, .int 0, .null]) (by decide) rfl hC (zdk dk_X12_lays 12 rfl) (q := 17) rfl ?_
  refine x_weak (L' := [.ref r0, .int 1, .int 0, .null]) ⟨Or.inr rfl, Or.inr rfl, Or.inr rfl, Or.inl rfl, trivial⟩ ?_
  exact x_X12_lays_17 hC hE hk0 h_r0 _ _ _ _
set_option maxRecDepth 100000 in
set_option maxHeartbeats 4000000 in
theorem t_X12_lays {n : Nat} {r0 : Nat} {M : Mem} (h_r0 : zO n r0 12) (x : Mem) (hx : f_X12_lays r0 M = some x) (l : Launch) (dC : Nat → ClassId) (dI : Nat → Nat → Nat) (b : zSg) : MT l dC dI b yX12_lays cX12_lays 4 none 2 0 0 n n [.ref r0] M (emV x).1 (emV x).2 :=
  MT.ofX (by decide +kernel) rfl (Nat.le_of_ble_eq_true rfl) (fun κ hC hF _ => x_X12_lays hC (zEnd_of hF (Nat.le_refl _) (Nat.le_refl _)) (zRk_of hF (Nat.le_refl _) (Nat.le_refl _)) _ _ h_r0) x hx
set_option maxRecDepth 100000 in
def dt_X12_chip : List (Nat × Instr × Nat) := [(0, .aload_n 0, 1), (1, .aload_n 0, 1), (2, .getfield 13, 3), (5, .putfield 17, 3), (8, .aload_n 0, 1), (9, .iconst 0, 1), (10, .putfield 13, 3), (13, .aload_n 0, 1), (14, .iconst 0, 1), (15, .putfield 26, 3), (18, .aload_n 0, 1), (19, .iconst 0, 1), (20, .putfield 36, 3), (23, .aload_n 0, 1), (24, .iconst (-1), 1), (25, .putfield 39, 3), (28, .aload_n 0, 1), (29, .iconst 1, 1), (30, .aload_n 0, 1), (31, .getfield 51, 3), (34, .isub, 1), (35, .putfield 79, 3), (38, .aload_n 0, 1), (39, .getfield 57, 3), (42, .aload_n 0, 1), (43, .getfield 79, 3), (46, .iconst 0, 1), (47, .iastore, 1), (48, .aload_n 0, 1), (49, .iconst 4, 1), (50, .bipush 70, 2), (52, .invokevirtual 379, 3), (55, .aload_n 0, 1), (56, .iconst 5, 1), (57, .bipush 30, 2), (59, .invokevirtual 379, 3), (62, .aload_n 0, 1), (63, .bipush 6, 2), (65, .bipush 50, 2), (67, .invokevirtual 379, 3), (70, .aload_n 0, 1), (71, .bipush 7, 2), (73, .iconst 3, 1), (74, .invokevirtual 379, 3), (77, .aload_n 0, 1), (78, .bipush 8, 2), (80, .iconst 0, 1), (81, .invokevirtual 379, 3), (84, .iconst 2, 1), (85, .aload_n 0, 1), (86, .getfield 79, 3), (89, .imul, 1), (90, .istore_n 1, 1), (91, .iload_n 1, 1), (92, .iconst 2, 1), (93, .aload_n 0, 1), (94, .getfield 79, 3), (97, .imul, 1), (98, .iconst 2, 1), (99, .iadd, 1), (100, .if_icmp .ge 16, 3), (103, .aload_n 0, 1), (104, .getfield 60, 3), (107, .iload_n 1, 1), (108, .iconst (-1), 1), (109, .iastore, 1), (110, .iinc 1 1, 3), (113, .goto (-22), 3), (116, .aload_n 0, 1), (117, .iconst 0, 1), (118, .putfield 76, 3), (121, .iconst 1, 1), (122, .istore_n 1, 1), (123, .aload_n 0, 1), (124, .invokevirtual 268, 3), (127, .aload_n 0, 1), (128, .invokevirtual 410, 3), (131, .aload_n 0, 1), (132, .iload_n 1, 1), (133, .invokevirtual 413, 3), (136, .aload_n 0, 1), (137, .getfield 36, 3), (140, .ifCond .ne 25, 3), (143, .aload_n 0, 1), (144, .getfield 20, 3), (147, .ifCond .eq 18, 3), (150, .aload_n 0, 1), (151, .invokevirtual 416, 3), (154, .iinc 1 1, 3), (157, .aload_n 0, 1), (158, .iload_n 1, 1), (159, .invokevirtual 413, 3), (162, .goto (-26), 3), (165, .aload_n 0, 1), (166, .aload_n 0, 1), (167, .getfield 36, 3), (170, .putfield 42, 3), (173, .aload_n 0, 1), (174, .aload_n 0, 1), (175, .getfield 39, 3), (178, .putfield 45, 3), (181, .aload_n 0, 1), (182, .getfield 36, 3), (185, .ifCond .le 9, 3), (188, .aload_n 0, 1), (189, .iconst 1, 1), (190, .invokevirtual 243, 3), (193, .ireturn, 1), (194, .aload_n 0, 1), (195, .aload_n 0, 1), (196, .getfield 79, 3), (199, .putfield 51, 3), (202, .aload_n 0, 1), (203, .iconst 1, 1), (204, .putfield 120, 3), (207, .aload_n 0, 1), (208, .invokevirtual 419, 3), (211, .aload_n 0, 1), (212, .invokevirtual 422, 3), (215, .iload_n 1, 1), (216, .ireturn, 1)]
set_option maxRecDepth 100000 in
theorem dk_X12_chip : dt_X12_chip.all (fun q => decide (decode cX12_chip q.1 = .ok q.2)) = true := by decide +kernel
set_option maxRecDepth 100000 in
def f_X12_chip_165  (r0 : Nat) (x1 : Int32) (M : Mem) : Option (Int32 × Mem) := Option.bind (some (zsI M r0 10 (zI M r0 8))) fun M1 => Option.bind (some (zsI M1 r0 11 (zI M1 r0 9))) fun M2 => (if zI M2 r0 8 ≤ 0 then Option.bind (some (zsI M2 r0 13 (zI M2 r0 22))) fun M3 => Option.bind (some (zsI M3 r0 35 1)) fun M4 => Option.bind (f_X12_lays r0 M4) fun M5 => Option.bind (f_X12_begin r0 M5) fun M6 => some (x1, M6) else Option.bind (f_X12_refuses r0 1 M2) fun z7 => some (z7.1, z7.2))
set_option maxRecDepth 100000 in
set_option maxHeartbeats 4000000 in
theorem x_X12_chip_165 {κ : KX} {n : Nat} (hC : CX κ cX12_chip RX12 2 (some .int) 7) (hE : zEnd κ n (0, 0)) (hk0 : zRk κ (0, 0)) {r0 : Nat} (h_r0 : zO n r0 12) (x1 : Int32) (M : Mem) : X κ 2 emI n (0, 0) 165 [.ref r0, .int x1] [] M (f_X12_chip_165 r0 x1 M) := by
  unfold f_X12_chip_165
  refine x_aload_n (i := 0) rfl hC (zdk dk_X12_chip 93 rfl) (q := 166) rfl ?_
  refine x_aload_n (i := 0) rfl hC (zdk dk_X12_chip 94 rfl) (q := 167) rfl ?_
  refine x_getI fl_RX12_36 (by decide) h_r0 hC (zdk dk_X12_chip 95 rfl) (q := 170) rfl ?_
  refine x_putI fl_RX12_42 ⟨rfl, rfl⟩ (by decide) (Or.inl rfl) h_r0 hC (zdk dk_X12_chip 96 rfl) (q := 173) rfl ?_
  refine x_nmM (fun M1 => ?_)
  refine x_aload_n (i := 0) rfl hC (zdk dk_X12_chip 97 rfl) (q := 174) rfl ?_
  refine x_aload_n (i := 0) rfl hC (zdk dk_X12_chip 98 rfl) (q := 175) rfl ?_
  refine x_getI fl_RX12_39 (by decide) h_r0 hC (zdk dk_X12_chip 99 rfl) (q := 178) rfl ?_
  refine x_putI fl_RX12_45 ⟨rfl, rfl⟩ (by decide) (Or.inl rfl) h_r0 hC (zdk dk_X12_chip 100 rfl) (q := 181) rfl ?_
  refine x_nmM (fun M2 => ?_)
  refine x_aload_n (i := 0) rfl hC (zdk dk_X12_chip 101 rfl) (q := 182) rfl ?_
  refine x_getI fl_RX12_36 (by decide) h_r0 hC (zdk dk_X12_chip 102 rfl) (q := 185) rfl ?_
  refine x_if_le (tgt := 194) hC (zdk dk_X12_chip 103 rfl) (q := 188) rfl rfl (fun _ => ?_) (fun _ => ?_)
  · refine x_aload_n (i := 0) rfl hC (zdk dk_X12_chip 108 rfl) (q := 195) rfl ?_
    refine x_aload_n (i := 0) rfl hC (zdk dk_X12_chip 109 rfl) (q := 196) rfl ?_
    refine x_getI fl_RX12_79 (by decide) h_r0 hC (zdk dk_X12_chip 110 rfl) (q := 199) rfl ?_
    refine x_putI fl_RX12_51 ⟨rfl, rfl⟩ (by decide) (Or.inl rfl) h_r0 hC (zdk dk_X12_chip 111 rfl) (q := 202) rfl ?_
    refine x_nmM (fun M3 => ?_)
    refine x_aload_n (i := 0) rfl hC (zdk dk_X12_chip 112 rfl) (q := 203) rfl ?_
    refine x_iconst (i := 1) c_iconst_1 hC (zdk dk_X12_chip 113 rfl) (q := 204) rfl ?_
    refine x_putI fl_RX12_120 ⟨rfl, rfl⟩ (by decide) (Or.inl rfl) h_r0 hC (zdk dk_X12_chip 114 rfl) (q := 207) rfl ?_
    refine x_nmM (fun M4 => ?_)
    refine x_aload_n (i := 0) rfl hC (zdk dk_X12_chip 115 rfl) (q := 208) rfl ?_
    refine x_callVv (as := []) cb_RX12_419 rfl (by decide) hk0 h_r0 (fun x hx => t_X12_lays h_r0 x hx) hC (zdk dk_X12_chip 116 rfl) (q := 211) rfl rfl (Nat.le_of_ble_eq_true rfl) (fun M5 => ?_)
    refine x_aload_n (i := 0) rfl hC (zdk dk_X12_chip 117 rfl) (q := 212) rfl ?_
    refine x_callVv (as := []) cb_RX12_422 rfl (by decide) hk0 h_r0 (fun x hx => t_X12_begin h_r0 x hx) hC (zdk dk_X12_chip 118 rfl) (q := 215) rfl rfl (Nat.le_of_ble_eq_true rfl) (fun M6 => ?_)
    refine x_iload_n (i := 1) rfl hC (zdk dk_X12_chip 119 rfl) (q := 216) rfl ?_
    exact x_iret (ty := .int) rfl hE hC (zdk dk_X12_chip 120 rfl)
  · refine x_aload_n (i := 0) rfl hC (zdk dk_X12_chip 104 rfl) (q := 189) rfl ?_
    refine x_iconst (i := 1) c_iconst_1 hC (zdk dk_X12_chip 105 rfl) (q := 190) rfl ?_
    refine x_callVi (as := [.int 1]) cb_RX12_243 rfl (by decide) hk0 h_r0 (fun x hx => t_X12_refuses h_r0 x hx) hC (zdk dk_X12_chip 106 rfl) (q := 193) rfl rfl (Nat.le_of_ble_eq_true rfl) (fun z7 => ?_)
    exact x_iret (ty := .int) rfl hE hC (zdk dk_X12_chip 107 rfl)
set_option maxRecDepth 100000 in
def f_X12_chip_136  (r0 : Nat) : Nat → Int32 → Mem → Option (Int32 × Mem)
  | 0, _, _ => none
  | f + 1, x1, M => (if zI M r0 8 = 0 then (if zI M r0 3 = 0 then f_X12_chip_165 r0 x1 M else Option.bind (f_X12_statement r0 M) fun M8 => Option.bind (f_X12_finishes r0 (x1 + 1) M8) fun M9 => (f_X12_chip_136 r0 f) (x1 + 1) M9) else f_X12_chip_165 r0 x1 M)
set_option maxRecDepth 100000 in
set_option maxHeartbeats 4000000 in
theorem x_X12_chip_136 {κ : KX} {n : Nat} (hC : CX κ cX12_chip RX12 2 (some .int) 7) (hE : zEnd κ n (0, 0)) (hk0 : zRk κ (0, 0)) {r0 : Nat} (h_r0 : zO n r0 12) : ∀ (f : Nat) (x1 : Int32) (M : Mem), X κ 2 emI n (0, 0) 136 [.ref r0, .int x1] [] M (f_X12_chip_136 r0 f x1 M) := by
  intro f
  induction f with
  | zero => intros; exact x_none
  | succ f ih =>
    intro x1 M 
    rw [f_X12_chip_136]
    refine x_aload_n (i := 0) rfl hC (zdk dk_X12_chip 80 rfl) (q := 137) rfl ?_
    refine x_getI fl_RX12_36 (by decide) h_r0 hC (zdk dk_X12_chip 81 rfl) (q := 140) rfl ?_
    refine x_if_ne (tgt := 165) hC (zdk dk_X12_chip 82 rfl) (q := 143) rfl rfl (fun _ => ?_) (fun _ => ?_)
    · refine x_weak (L' := [.ref r0, .int x1]) ⟨Or.inr rfl, Or.inr rfl, trivial⟩ ?_
      exact x_X12_chip_165 hC hE hk0 h_r0 _ _
    · refine x_aload_n (i := 0) rfl hC (zdk dk_X12_chip 83 rfl) (q := 144) rfl ?_
      refine x_getI fl_RX12_20 (by decide) h_r0 hC (zdk dk_X12_chip 84 rfl) (q := 147) rfl ?_
      refine x_if_eq (tgt := 165) hC (zdk dk_X12_chip 85 rfl) (q := 150) rfl rfl (fun _ => ?_) (fun _ => ?_)
      · refine x_weak (L' := [.ref r0, .int x1]) ⟨Or.inr rfl, Or.inr rfl, trivial⟩ ?_
        exact x_X12_chip_165 hC hE hk0 h_r0 _ _
      · refine x_aload_n (i := 0) rfl hC (zdk dk_X12_chip 86 rfl) (q := 151) rfl ?_
        refine x_callVv (as := []) cb_RX12_416 rfl (by decide) hk0 h_r0 (fun x hx => t_X12_statement h_r0 x hx) hC (zdk dk_X12_chip 87 rfl) (q := 154) rfl rfl (Nat.le_of_ble_eq_true rfl) (fun M8 => ?_)
        refine x_iinc (i := 1) c_iconst_1 rfl (by decide) (L' := [.ref r0, .int (x1 + 1)]) rfl hC (zdk dk_X12_chip 88 rfl) (q := 157) rfl ?_
        refine x_aload_n (i := 0) rfl hC (zdk dk_X12_chip 89 rfl) (q := 158) rfl ?_
        refine x_iload_n (i := 1) rfl hC (zdk dk_X12_chip 90 rfl) (q := 159) rfl ?_
        refine x_callVv (as := [.int (x1 + 1)]) cb_RX12_413 rfl (by decide) hk0 h_r0 (fun x hx => t_X12_finishes h_r0 x hx) hC (zdk dk_X12_chip 91 rfl) (q := 162) rfl rfl (Nat.le_of_ble_eq_true rfl) (fun M9 => ?_)
        refine x_goto (tgt := 136) hC (zdk dk_X12_chip 92 rfl) rfl ?_
        refine x_weak (L' := [.ref r0, .int (x1 + 1)]) ⟨Or.inr rfl, Or.inr rfl, trivial⟩ ?_
        exact ih _ _
set_option maxRecDepth 100000 in
def f_X12_chip_91  (r0 : Nat) : Nat → Int32 → Mem → Option (Int32 × Mem)
  | 0, _, _ => none
  | f + 1, x1, M => (if (2 * (zI M r0 22)) + 2 ≤ x1 then Option.bind (some (zsI M r0 21 0)) fun M10 => Option.bind (f_X12_ahead r0 M10) fun M11 => Option.bind (f_X12_chipIs r0 M11) fun M12 => Option.bind (f_X12_finishes r0 1 M12) fun M13 => f_X12_chip_136 r0 1000000 1 M13 else Option.bind (zrf M r0 16) fun q14 => Option.bind (zld q14 x1) fun k15 => Option.bind (some (zsI M q14 k15 ((-1)))) fun M16 => (f_X12_chip_91 r0 f) (x1 + 1) M16)
set_option maxRecDepth 100000 in
set_option maxHeartbeats 4000000 in
theorem x_X12_chip_91 {κ : KX} {n : Nat} (hC : CX κ cX12_chip RX12 2 (some .int) 7) (hE : zEnd κ n (0, 0)) (hk0 : zRk κ (0, 0)) {r0 : Nat} (h_r0 : zO n r0 12) : ∀ (f : Nat) (x1 : Int32) (M : Mem), X κ 2 emI n (0, 0) 91 [.ref r0, .int x1] [] M (f_X12_chip_91 r0 f x1 M) := by
  intro f
  induction f with
  | zero => intros; exact x_none
  | succ f ih =>
    intro x1 M 
    rw [f_X12_chip_91]
    refine x_iload_n (i := 1) rfl hC (zdk dk_X12_chip 53 rfl) (q := 92) rfl ?_
    refine x_iconst (i := 2) c_iconst_2 hC (zdk dk_X12_chip 54 rfl) (q := 93) rfl ?_
    refine x_aload_n (i := 0) rfl hC (zdk dk_X12_chip 55 rfl) (q := 94) rfl ?_
    refine x_getI fl_RX12_79 (by decide) h_r0 hC (zdk dk_X12_chip 56 rfl) (q := 97) rfl ?_
    refine x_imul hC (zdk dk_X12_chip 57 rfl) (q := 98) rfl ?_
    refine x_iconst (i := 2) c_iconst_2 hC (zdk dk_X12_chip 58 rfl) (q := 99) rfl ?_
    refine x_iadd hC (zdk dk_X12_chip 59 rfl) (q := 100) rfl ?_
    refine x_icmp_ge (tgt := 116) hC (zdk dk_X12_chip 60 rfl) (q := 103) rfl rfl (fun _ => ?_) (fun _ => ?_)
    · refine x_aload_n (i := 0) rfl hC (zdk dk_X12_chip 68 rfl) (q := 117) rfl ?_
      refine x_iconst (i := 0) c_iconst_0 hC (zdk dk_X12_chip 69 rfl) (q := 118) rfl ?_
      refine x_putI fl_RX12_76 ⟨rfl, rfl⟩ (by decide) (Or.inl rfl) h_r0 hC (zdk dk_X12_chip 70 rfl) (q := 121) rfl ?_
      refine x_nmM (fun M10 => ?_)
      refine x_iconst (i := 1) c_iconst_1 hC (zdk dk_X12_chip 71 rfl) (q := 122) rfl ?_
      refine x_istore_n (i := 1) (L' := [.ref r0, .int 1]) (by decide) rfl hC (zdk dk_X12_chip 72 rfl) (q := 123) rfl ?_
      refine x_aload_n (i := 0) rfl hC (zdk dk_X12_chip 73 rfl) (q := 124) rfl ?_
      refine x_callVv (as := []) cb_RX12_268 rfl (by decide) hk0 h_r0 (fun x hx => t_X12_ahead h_r0 x hx) hC (zdk dk_X12_chip 74 rfl) (q := 127) rfl rfl (Nat.le_of_ble_eq_true rfl) (fun M11 => ?_)
      refine x_aload_n (i := 0) rfl hC (zdk dk_X12_chip 75 rfl) (q := 128) rfl ?_
      refine x_callVv (as := []) cb_RX12_410 rfl (by decide) hk0 h_r0 (fun x hx => t_X12_chipIs h_r0 x hx) hC (zdk dk_X12_chip 76 rfl) (q := 131) rfl rfl (Nat.le_of_ble_eq_true rfl) (fun M12 => ?_)
      refine x_aload_n (i := 0) rfl hC (zdk dk_X12_chip 77 rfl) (q := 132) rfl ?_
      refine x_iload_n (i := 1) rfl hC (zdk dk_X12_chip 78 rfl) (q := 133) rfl ?_
      refine x_callVv (as := [.int 1]) cb_RX12_413 rfl (by decide) hk0 h_r0 (fun x hx => t_X12_finishes h_r0 x hx) hC (zdk dk_X12_chip 79 rfl) (q := 136) rfl rfl (Nat.le_of_ble_eq_true rfl) (fun M13 => ?_)
      refine x_weak (L' := [.ref r0, .int 1]) ⟨Or.inr rfl, Or.inr rfl, trivial⟩ ?_
      exact x_X12_chip_136 hC hE hk0 h_r0 _ _ _
    · refine x_aload_n (i := 0) rfl hC (zdk dk_X12_chip 61 rfl) (q := 104) rfl ?_
      refine x_getR (k := 20) fl_RX12_60 rfl h_r0 hC (zdk dk_X12_chip 62 rfl) (q := 107) rfl (fun q14 hq14 => ?_)
      refine x_iload_n (i := 1) rfl hC (zdk dk_X12_chip 63 rfl) (q := 108) rfl ?_
      refine x_iconst (i := (-1)) c_iconst_m1 hC (zdk dk_X12_chip 64 rfl) (q := 109) rfl ?_
      refine x_iast hq14 hC (zdk dk_X12_chip 65 rfl) (q := 110) rfl (fun k15 _ => ?_)
      refine x_nmM (fun M16 => ?_)
      refine x_iinc (i := 1) c_iconst_1 rfl (by decide) (L' := [.ref r0, .int (x1 + 1)]) rfl hC (zdk dk_X12_chip 66 rfl) (q := 113) rfl ?_
      refine x_goto (tgt := 91) hC (zdk dk_X12_chip 67 rfl) rfl ?_
      refine x_weak (L' := [.ref r0, .int (x1 + 1)]) ⟨Or.inr rfl, Or.inr rfl, trivial⟩ ?_
      exact ih _ _
set_option maxRecDepth 100000 in
def f_X12_chip (r0 : Nat) (M : Mem) : Option (Int32 × Mem) := Option.bind (some (zsI M r0 2 (zI M r0 1))) fun M17 => Option.bind (some (zsI M17 r0 1 0)) fun M18 => Option.bind (some (zsI M18 r0 5 0)) fun M19 => Option.bind (some (zsI M19 r0 8 0)) fun M20 => Option.bind (some (zsI M20 r0 9 ((-1)))) fun M21 => Option.bind (some (zsI M21 r0 22 (1 - (zI M21 r0 13)))) fun M22 => Option.bind (zrf M22 r0 15) fun q23 => Option.bind (zld q23 (zI M22 r0 22)) fun k24 => Option.bind (some (zsI M22 q23 k24 0)) fun M25 => Option.bind (f_X12_tellsAt r0 4 70 M25) fun M26 => Option.bind (f_X12_tellsAt r0 5 30 M26) fun M27 => Option.bind (f_X12_tellsAt r0 6 50 M27) fun M28 => Option.bind (f_X12_tellsAt r0 7 3 M28) fun M29 => Option.bind (f_X12_tellsAt r0 8 0 M29) fun M30 => f_X12_chip_91 r0 1000000 (2 * (zI M30 r0 22)) M30
set_option maxRecDepth 100000 in
set_option maxHeartbeats 4000000 in
theorem x_X12_chip {κ : KX} {n : Nat} (hC : CX κ cX12_chip RX12 2 (some .int) 7) (hE : zEnd κ n (0, 0)) (hk0 : zRk κ (0, 0)) (r0 : Nat) (M : Mem) (h_r0 : zO n r0 12) : X κ 2 emI n (0, 0) 0 [.ref r0, .null] [] M (f_X12_chip r0 M) := by
  unfold f_X12_chip
  refine x_aload_n (i := 0) rfl hC (zdk dk_X12_chip 0 rfl) (q := 1) rfl ?_
  refine x_aload_n (i := 0) rfl hC (zdk dk_X12_chip 1 rfl) (q := 2) rfl ?_
  refine x_getI fl_RX12_13 (by decide) h_r0 hC (zdk dk_X12_chip 2 rfl) (q := 5) rfl ?_
  refine x_putI fl_RX12_17 ⟨rfl, rfl⟩ (by decide) (Or.inl rfl) h_r0 hC (zdk dk_X12_chip 3 rfl) (q := 8) rfl ?_
  refine x_nmM (fun M17 => ?_)
  refine x_aload_n (i := 0) rfl hC (zdk dk_X12_chip 4 rfl) (q := 9) rfl ?_
  refine x_iconst (i := 0) c_iconst_0 hC (zdk dk_X12_chip 5 rfl) (q := 10) rfl ?_
  refine x_putI fl_RX12_13 ⟨rfl, rfl⟩ (by decide) (Or.inl rfl) h_r0 hC (zdk dk_X12_chip 6 rfl) (q := 13) rfl ?_
  refine x_nmM (fun M18 => ?_)
  refine x_aload_n (i := 0) rfl hC (zdk dk_X12_chip 7 rfl) (q := 14) rfl ?_
  refine x_iconst (i := 0) c_iconst_0 hC (zdk dk_X12_chip 8 rfl) (q := 15) rfl ?_
  refine x_putI fl_RX12_26 ⟨rfl, rfl⟩ (by decide) (Or.inl rfl) h_r0 hC (zdk dk_X12_chip 9 rfl) (q := 18) rfl ?_
  refine x_nmM (fun M19 => ?_)
  refine x_aload_n (i := 0) rfl hC (zdk dk_X12_chip 10 rfl) (q := 19) rfl ?_
  refine x_iconst (i := 0) c_iconst_0 hC (zdk dk_X12_chip 11 rfl) (q := 20) rfl ?_
  refine x_putI fl_RX12_36 ⟨rfl, rfl⟩ (by decide) (Or.inl rfl) h_r0 hC (zdk dk_X12_chip 12 rfl) (q := 23) rfl ?_
  refine x_nmM (fun M20 => ?_)
  refine x_aload_n (i := 0) rfl hC (zdk dk_X12_chip 13 rfl) (q := 24) rfl ?_
  refine x_iconst (i := (-1)) c_iconst_m1 hC (zdk dk_X12_chip 14 rfl) (q := 25) rfl ?_
  refine x_putI fl_RX12_39 ⟨rfl, rfl⟩ (by decide) (Or.inl rfl) h_r0 hC (zdk dk_X12_chip 15 rfl) (q := 28) rfl ?_
  refine x_nmM (fun M21 => ?_)
  refine x_aload_n (i := 0) rfl hC (zdk dk_X12_chip 16 rfl) (q := 29) rfl ?_
  refine x_iconst (i := 1) c_iconst_1 hC (zdk dk_X12_chip 17 rfl) (q := 30) rfl ?_
  refine x_aload_n (i := 0) rfl hC (zdk dk_X12_chip 18 rfl) (q := 31) rfl ?_
  refine x_getI fl_RX12_51 (by decide) h_r0 hC (zdk dk_X12_chip 19 rfl) (q := 34) rfl ?_
  refine x_isub hC (zdk dk_X12_chip 20 rfl) (q := 35) rfl ?_
  refine x_putI fl_RX12_79 ⟨rfl, rfl⟩ (by decide) (Or.inl rfl) h_r0 hC (zdk dk_X12_chip 21 rfl) (q := 38) rfl ?_
  refine x_nmM (fun M22 => ?_)
  refine x_aload_n (i := 0) rfl hC (zdk dk_X12_chip 22 rfl) (q := 39) rfl ?_
  refine x_getR (k := 20) fl_RX12_57 rfl h_r0 hC (zdk dk_X12_chip 23 rfl) (q := 42) rfl (fun q23 hq23 => ?_)
  refine x_aload_n (i := 0) rfl hC (zdk dk_X12_chip 24 rfl) (q := 43) rfl ?_
  refine x_getI fl_RX12_79 (by decide) h_r0 hC (zdk dk_X12_chip 25 rfl) (q := 46) rfl ?_
  refine x_iconst (i := 0) c_iconst_0 hC (zdk dk_X12_chip 26 rfl) (q := 47) rfl ?_
  refine x_iast hq23 hC (zdk dk_X12_chip 27 rfl) (q := 48) rfl (fun k24 _ => ?_)
  refine x_nmM (fun M25 => ?_)
  refine x_aload_n (i := 0) rfl hC (zdk dk_X12_chip 28 rfl) (q := 49) rfl ?_
  refine x_iconst (i := 4) c_iconst_4 hC (zdk dk_X12_chip 29 rfl) (q := 50) rfl ?_
  refine x_bipush (i := 70) c_bipush_70 hC (zdk dk_X12_chip 30 rfl) (q := 52) rfl ?_
  refine x_callVv (as := [.int 4, .int 70]) cb_RX12_379 rfl (by decide) hk0 h_r0 (fun x hx => t_X12_tellsAt h_r0 x hx) hC (zdk dk_X12_chip 31 rfl) (q := 55) rfl rfl (Nat.le_of_ble_eq_true rfl) (fun M26 => ?_)
  refine x_aload_n (i := 0) rfl hC (zdk dk_X12_chip 32 rfl) (q := 56) rfl ?_
  refine x_iconst (i := 5) c_iconst_5 hC (zdk dk_X12_chip 33 rfl) (q := 57) rfl ?_
  refine x_bipush (i := 30) c_bipush_30 hC (zdk dk_X12_chip 34 rfl) (q := 59) rfl ?_
  refine x_callVv (as := [.int 5, .int 30]) cb_RX12_379 rfl (by decide) hk0 h_r0 (fun x hx => t_X12_tellsAt h_r0 x hx) hC (zdk dk_X12_chip 35 rfl) (q := 62) rfl rfl (Nat.le_of_ble_eq_true rfl) (fun M27 => ?_)
  refine x_aload_n (i := 0) rfl hC (zdk dk_X12_chip 36 rfl) (q := 63) rfl ?_
  refine x_bipush (i := 6) c_bipush_6 hC (zdk dk_X12_chip 37 rfl) (q := 65) rfl ?_
  refine x_bipush (i := 50) c_bipush_50 hC (zdk dk_X12_chip 38 rfl) (q := 67) rfl ?_
  refine x_callVv (as := [.int 6, .int 50]) cb_RX12_379 rfl (by decide) hk0 h_r0 (fun x hx => t_X12_tellsAt h_r0 x hx) hC (zdk dk_X12_chip 39 rfl) (q := 70) rfl rfl (Nat.le_of_ble_eq_true rfl) (fun M28 => ?_)
  refine x_aload_n (i := 0) rfl hC (zdk dk_X12_chip 40 rfl) (q := 71) rfl ?_
  refine x_bipush (i := 7) c_bipush_7 hC (zdk dk_X12_chip 41 rfl) (q := 73) rfl ?_
  refine x_iconst (i := 3) c_iconst_3 hC (zdk dk_X12_chip 42 rfl) (q := 74) rfl ?_
  refine x_callVv (as := [.int 7, .int 3]) cb_RX12_379 rfl (by decide) hk0 h_r0 (fun x hx => t_X12_tellsAt h_r0 x hx) hC (zdk dk_X12_chip 43 rfl) (q := 77) rfl rfl (Nat.le_of_ble_eq_true rfl) (fun M29 => ?_)
  refine x_aload_n (i := 0) rfl hC (zdk dk_X12_chip 44 rfl) (q := 78) rfl ?_
  refine x_bipush (i := 8) c_bipush_8 hC (zdk dk_X12_chip 45 rfl) (q := 80) rfl ?_
  refine x_iconst (i := 0) c_iconst_0 hC (zdk dk_X12_chip 46 rfl) (q := 81) rfl ?_
  refine x_callVv (as := [.int 8, .int 0]) cb_RX12_379 rfl (by decide) hk0 h_r0 (fun x hx => t_X12_tellsAt h_r0 x hx) hC (zdk dk_X12_chip 47 rfl) (q := 84) rfl rfl (Nat.le_of_ble_eq_true rfl) (fun M30 => ?_)
  refine x_iconst (i := 2) c_iconst_2 hC (zdk dk_X12_chip 48 rfl) (q := 85) rfl ?_
  refine x_aload_n (i := 0) rfl hC (zdk dk_X12_chip 49 rfl) (q := 86) rfl ?_
  refine x_getI fl_RX12_79 (by decide) h_r0 hC (zdk dk_X12_chip 50 rfl) (q := 89) rfl ?_
  refine x_imul hC (zdk dk_X12_chip 51 rfl) (q := 90) rfl ?_
  refine x_istore_n (i := 1) (L' := [.ref r0, .int (2 * (zI M30 r0 22))]) (by decide) rfl hC (zdk dk_X12_chip 52 rfl) (q := 91) rfl ?_
  refine x_weak (L' := [.ref r0, .int (2 * (zI M30 r0 22))]) ⟨Or.inr rfl, Or.inr rfl, trivial⟩ ?_
  exact x_X12_chip_91 hC hE hk0 h_r0 _ _ _
set_option maxRecDepth 100000 in
set_option maxHeartbeats 4000000 in
theorem t_X12_chip {n : Nat} {r0 : Nat} {M : Mem} (h_r0 : zO n r0 12) (x : (Int32 × Mem)) (hx : f_X12_chip r0 M = some x) (l : Launch) (dC : Nat → ClassId) (dI : Nat → Nat → Nat) (b : zSg) : MT l dC dI b yX12_chip cX12_chip 2 (some .int) 7 0 0 n n [.ref r0] M (emI x).1 (emI x).2 :=
  MT.ofX (by decide +kernel) rfl (Nat.le_of_ble_eq_true rfl) (fun κ hC hF _ => x_X12_chip hC (zEnd_of hF (Nat.le_refl _) (Nat.le_refl _)) (zRk_of hF (Nat.le_refl _) (Nat.le_refl _)) _ _ h_r0) x hx
set_option maxRecDepth 100000 in
def dt_X12_fault : List (Nat × Instr × Nat) := [(0, .iload_n 1, 1), (1, .ifCond .ne 10, 3), (4, .aload_n 0, 1), (5, .getfield 42, 3), (8, .goto 16, 3), (11, .iload_n 1, 1), (12, .iconst 1, 1), (13, .if_icmp .ne 10, 3), (16, .aload_n 0, 1), (17, .getfield 45, 3), (20, .goto 4, 3), (23, .iconst (-1), 1), (24, .ireturn, 1)]
set_option maxRecDepth 100000 in
theorem dk_X12_fault : dt_X12_fault.all (fun q => decide (decode cX12_fault q.1 = .ok q.2)) = true := by decide +kernel
set_option maxRecDepth 100000 in
def f_X12_fault_24  (r0 : Nat) (x1 : Int32) (s0 : Int32) (M : Mem) : Option (Int32 × Mem) := some (s0, M)
set_option maxRecDepth 100000 in
set_option maxHeartbeats 4000000 in
theorem x_X12_fault_24 {κ : KX} {n : Nat} (hC : CX κ cX12_fault RX12 2 (some .int) 0) (hE : zEnd κ n (0, 0)) (hk0 : zRk κ (0, 0)) {r0 : Nat} {x1 : Int32} (h_r0 : zO n r0 12) (s0 : Int32) (M : Mem) : X κ 2 emI n (0, 0) 24 [.null, .null] [.int s0] M (f_X12_fault_24 r0 x1 s0 M) := by
  unfold f_X12_fault_24
  exact x_iret (ty := .int) rfl hE hC (zdk dk_X12_fault 12 rfl)
set_option maxRecDepth 100000 in
def f_X12_fault (r0 : Nat) (x1 : Int32) (M : Mem) : Option (Int32 × Mem) := (if x1 = 0 then f_X12_fault_24 r0 x1 (zI M r0 10) M else (if x1 = 1 then f_X12_fault_24 r0 x1 (zI M r0 11) M else f_X12_fault_24 r0 x1 ((-1)) M))
set_option maxRecDepth 100000 in
set_option maxHeartbeats 4000000 in
theorem x_X12_fault {κ : KX} {n : Nat} (hC : CX κ cX12_fault RX12 2 (some .int) 0) (hE : zEnd κ n (0, 0)) (hk0 : zRk κ (0, 0)) (r0 : Nat) (x1 : Int32) (M : Mem) (h_r0 : zO n r0 12) : X κ 2 emI n (0, 0) 0 [.ref r0, .int x1] [] M (f_X12_fault r0 x1 M) := by
  unfold f_X12_fault
  refine x_iload_n (i := 1) rfl hC (zdk dk_X12_fault 0 rfl) (q := 1) rfl ?_
  refine x_if_ne (tgt := 11) hC (zdk dk_X12_fault 1 rfl) (q := 4) rfl rfl (fun _ => ?_) (fun _ => ?_)
  · refine x_iload_n (i := 1) rfl hC (zdk dk_X12_fault 5 rfl) (q := 12) rfl ?_
    refine x_iconst (i := 1) c_iconst_1 hC (zdk dk_X12_fault 6 rfl) (q := 13) rfl ?_
    refine x_icmp_ne (tgt := 23) hC (zdk dk_X12_fault 7 rfl) (q := 16) rfl rfl (fun _ => ?_) (fun _ => ?_)
    · refine x_iconst (i := (-1)) c_iconst_m1 hC (zdk dk_X12_fault 11 rfl) (q := 24) rfl ?_
      refine x_weak (L' := [.null, .null]) ⟨Or.inl rfl, Or.inl rfl, trivial⟩ ?_
      exact x_X12_fault_24 hC hE hk0 h_r0 _ _
    · refine x_aload_n (i := 0) rfl hC (zdk dk_X12_fault 8 rfl) (q := 17) rfl ?_
      refine x_getI fl_RX12_45 (by decide) h_r0 hC (zdk dk_X12_fault 9 rfl) (q := 20) rfl ?_
      refine x_goto (tgt := 24) hC (zdk dk_X12_fault 10 rfl) rfl ?_
      refine x_weak (L' := [.null, .null]) ⟨Or.inl rfl, Or.inl rfl, trivial⟩ ?_
      exact x_X12_fault_24 hC hE hk0 h_r0 _ _
  · refine x_aload_n (i := 0) rfl hC (zdk dk_X12_fault 2 rfl) (q := 5) rfl ?_
    refine x_getI fl_RX12_42 (by decide) h_r0 hC (zdk dk_X12_fault 3 rfl) (q := 8) rfl ?_
    refine x_goto (tgt := 24) hC (zdk dk_X12_fault 4 rfl) rfl ?_
    refine x_weak (L' := [.null, .null]) ⟨Or.inl rfl, Or.inl rfl, trivial⟩ ?_
    exact x_X12_fault_24 hC hE hk0 h_r0 _ _
set_option maxRecDepth 100000 in
set_option maxHeartbeats 4000000 in
theorem t_X12_fault {n : Nat} {r0 : Nat} {x1 : Int32} {M : Mem} (h_r0 : zO n r0 12) (x : (Int32 × Mem)) (hx : f_X12_fault r0 x1 M = some x) (l : Launch) (dC : Nat → ClassId) (dI : Nat → Nat → Nat) (b : zSg) : MT l dC dI b yX12_fault cX12_fault 2 (some .int) 0 0 0 n n [.ref r0, .int x1] M (emI x).1 (emI x).2 :=
  MT.ofX (by decide +kernel) rfl (Nat.le_of_ble_eq_true rfl) (fun κ hC hF _ => x_X12_fault hC (zEnd_of hF (Nat.le_refl _) (Nat.le_refl _)) (zRk_of hF (Nat.le_refl _) (Nat.le_refl _)) _ _ _ h_r0) x hx
set_option maxRecDepth 100000 in
def dt_X12_status : List (Nat × Instr × Nat) := [(0, .iload_n 1, 1), (1, .iconst 0, 1), (2, .iconst 5, 1), (3, .invokestatic 325, 3), (6, .ifCond .eq 12, 3), (9, .aload_n 0, 1), (10, .getfield 123, 3), (13, .iload_n 1, 1), (14, .iaload, 1), (15, .goto 4, 3), (18, .iconst (-1), 1), (19, .ireturn, 1)]
set_option maxRecDepth 100000 in
theorem dk_X12_status : dt_X12_status.all (fun q => decide (decode cX12_status q.1 = .ok q.2)) = true := by decide +kernel
set_option maxRecDepth 100000 in
def f_X12_status_19  (r0 : Nat) (x1 : Int32) (s0 : Int32) (M : Mem) : Option (Int32 × Mem) := some (s0, M)
set_option maxRecDepth 100000 in
set_option maxHeartbeats 4000000 in
theorem x_X12_status_19 {κ : KX} {n : Nat} (hC : CX κ cX12_status RX12 2 (some .int) 1) (hE : zEnd κ n (0, 0)) (hk0 : zRk κ (0, 0)) {r0 : Nat} {x1 : Int32} (h_r0 : zO n r0 12) (s0 : Int32) (M : Mem) : X κ 2 emI n (0, 0) 19 [.null, .null] [.int s0] M (f_X12_status_19 r0 x1 s0 M) := by
  unfold f_X12_status_19
  exact x_iret (ty := .int) rfl hE hC (zdk dk_X12_status 11 rfl)
set_option maxRecDepth 100000 in
def f_X12_status (r0 : Nat) (x1 : Int32) (M : Mem) : Option (Int32 × Mem) := Option.bind (f_X12_is x1 0 5 M) fun z1 => (if z1.1 = 0 then f_X12_status_19 r0 x1 ((-1)) z1.2 else Option.bind (zrf z1.2 r0 36) fun q2 => Option.bind (zld q2 x1) fun k3 => f_X12_status_19 r0 x1 (zI z1.2 q2 k3) z1.2)
set_option maxRecDepth 100000 in
set_option maxHeartbeats 4000000 in
theorem x_X12_status {κ : KX} {n : Nat} (hC : CX κ cX12_status RX12 2 (some .int) 1) (hE : zEnd κ n (0, 0)) (hk0 : zRk κ (0, 0)) (r0 : Nat) (x1 : Int32) (M : Mem) (h_r0 : zO n r0 12) : X κ 2 emI n (0, 0) 0 [.ref r0, .int x1] [] M (f_X12_status r0 x1 M) := by
  unfold f_X12_status
  refine x_iload_n (i := 1) rfl hC (zdk dk_X12_status 0 rfl) (q := 1) rfl ?_
  refine x_iconst (i := 0) c_iconst_0 hC (zdk dk_X12_status 1 rfl) (q := 2) rfl ?_
  refine x_iconst (i := 5) c_iconst_5 hC (zdk dk_X12_status 2 rfl) (q := 3) rfl ?_
  refine x_callSi (as := [.int x1, .int 0, .int 5]) cb_RX12_325 rfl (by decide) hk0 (fun x hx => t_X12_is  x hx) hC (zdk dk_X12_status 3 rfl) (q := 6) rfl rfl (Nat.le_of_ble_eq_true rfl) (fun z1 => ?_)
  refine x_if_eq (tgt := 18) hC (zdk dk_X12_status 4 rfl) (q := 9) rfl rfl (fun _ => ?_) (fun _ => ?_)
  · refine x_iconst (i := (-1)) c_iconst_m1 hC (zdk dk_X12_status 10 rfl) (q := 19) rfl ?_
    refine x_weak (L' := [.null, .null]) ⟨Or.inl rfl, Or.inl rfl, trivial⟩ ?_
    exact x_X12_status_19 hC hE hk0 h_r0 _ _
  · refine x_aload_n (i := 0) rfl hC (zdk dk_X12_status 5 rfl) (q := 10) rfl ?_
    refine x_getR (k := 20) fl_RX12_123 rfl h_r0 hC (zdk dk_X12_status 6 rfl) (q := 13) rfl (fun q2 hq2 => ?_)
    refine x_iload_n (i := 1) rfl hC (zdk dk_X12_status 7 rfl) (q := 14) rfl ?_
    refine x_iald hq2 hC (zdk dk_X12_status 8 rfl) (q := 15) rfl (fun k3 _ => ?_)
    refine x_goto (tgt := 19) hC (zdk dk_X12_status 9 rfl) rfl ?_
    refine x_weak (L' := [.null, .null]) ⟨Or.inl rfl, Or.inl rfl, trivial⟩ ?_
    exact x_X12_status_19 hC hE hk0 h_r0 _ _
set_option maxRecDepth 100000 in
set_option maxHeartbeats 4000000 in
theorem t_X12_status {n : Nat} {r0 : Nat} {x1 : Int32} {M : Mem} (h_r0 : zO n r0 12) (x : (Int32 × Mem)) (hx : f_X12_status r0 x1 M = some x) (l : Launch) (dC : Nat → ClassId) (dI : Nat → Nat → Nat) (b : zSg) : MT l dC dI b yX12_status cX12_status 2 (some .int) 1 0 0 n n [.ref r0, .int x1] M (emI x).1 (emI x).2 :=
  MT.ofX (by decide +kernel) rfl (Nat.le_of_ble_eq_true rfl) (fun κ hC hF _ => x_X12_status hC (zEnd_of hF (Nat.le_refl _) (Nat.le_refl _)) (zRk_of hF (Nat.le_refl _) (Nat.le_refl _)) _ _ _ h_r0) x hx
set_option maxRecDepth 100000 in
def dt_X12_inverse : List (Nat × Instr × Nat) := [(0, .aload_n 0, 1), (1, .getfield 141, 3), (4, .aload_n 0, 1), (5, .getfield 126, 3), (8, .aload_n 0, 1), (9, .getfield 144, 3), (12, .iload_n 1, 1), (13, .iaload, 1), (14, .isub, 1), (15, .aload_n 0, 1), (16, .getfield 126, 3), (19, .irem, 1), (20, .iaload, 1), (21, .ireturn, 1)]
set_option maxRecDepth 100000 in
theorem dk_X12_inverse : dt_X12_inverse.all (fun q => decide (decode cX12_inverse q.1 = .ok q.2)) = true := by decide +kernel
set_option maxRecDepth 100000 in
def f_X12_inverse (r0 : Nat) (x1 : Int32) (M : Mem) : Option (Int32 × Mem) := Option.bind (zrf M r0 42) fun q1 => Option.bind (zrf M r0 43) fun q2 => Option.bind (zld q2 x1) fun k3 => if zI M r0 37 = 0 then none else Option.bind (zld q1 (zrem ((zI M r0 37) - (zI M q2 k3)) (zI M r0 37))) fun k4 => some (zI M q1 k4, M)
set_option maxRecDepth 100000 in
set_option maxHeartbeats 4000000 in
theorem x_X12_inverse {κ : KX} {n : Nat} (hC : CX κ cX12_inverse RX12 2 (some .int) 0) (hE : zEnd κ n (0, 0)) (hk0 : zRk κ (0, 0)) (r0 : Nat) (x1 : Int32) (M : Mem) (h_r0 : zO n r0 12) : X κ 2 emI n (0, 0) 0 [.ref r0, .int x1] [] M (f_X12_inverse r0 x1 M) := by
  unfold f_X12_inverse
  refine x_aload_n (i := 0) rfl hC (zdk dk_X12_inverse 0 rfl) (q := 1) rfl ?_
  refine x_getR (k := 20) fl_RX12_141 rfl h_r0 hC (zdk dk_X12_inverse 1 rfl) (q := 4) rfl (fun q1 hq1 => ?_)
  refine x_aload_n (i := 0) rfl hC (zdk dk_X12_inverse 2 rfl) (q := 5) rfl ?_
  refine x_getI fl_RX12_126 (by decide) h_r0 hC (zdk dk_X12_inverse 3 rfl) (q := 8) rfl ?_
  refine x_aload_n (i := 0) rfl hC (zdk dk_X12_inverse 4 rfl) (q := 9) rfl ?_
  refine x_getR (k := 20) fl_RX12_144 rfl h_r0 hC (zdk dk_X12_inverse 5 rfl) (q := 12) rfl (fun q2 hq2 => ?_)
  refine x_iload_n (i := 1) rfl hC (zdk dk_X12_inverse 6 rfl) (q := 13) rfl ?_
  refine x_iald hq2 hC (zdk dk_X12_inverse 7 rfl) (q := 14) rfl (fun k3 _ => ?_)
  refine x_isub hC (zdk dk_X12_inverse 8 rfl) (q := 15) rfl ?_
  refine x_aload_n (i := 0) rfl hC (zdk dk_X12_inverse 9 rfl) (q := 16) rfl ?_
  refine x_getI fl_RX12_126 (by decide) h_r0 hC (zdk dk_X12_inverse 10 rfl) (q := 19) rfl ?_
  refine x_iremG hC (zdk dk_X12_inverse 11 rfl) (q := 20) rfl ?_
  refine x_iald hq1 hC (zdk dk_X12_inverse 12 rfl) (q := 21) rfl (fun k4 _ => ?_)
  exact x_iret (ty := .int) rfl hE hC (zdk dk_X12_inverse 13 rfl)
set_option maxRecDepth 100000 in
set_option maxHeartbeats 4000000 in
theorem t_X12_inverse {n : Nat} {r0 : Nat} {x1 : Int32} {M : Mem} (h_r0 : zO n r0 12) (x : (Int32 × Mem)) (hx : f_X12_inverse r0 x1 M = some x) (l : Launch) (dC : Nat → ClassId) (dI : Nat → Nat → Nat) (b : zSg) : MT l dC dI b yX12_inverse cX12_inverse 2 (some .int) 0 0 0 n n [.ref r0, .int x1] M (emI x).1 (emI x).2 :=
  MT.ofX (by decide +kernel) rfl (Nat.le_of_ble_eq_true rfl) (fun κ hC hF _ => x_X12_inverse hC (zEnd_of hF (Nat.le_refl _) (Nat.le_refl _)) (zRk_of hF (Nat.le_refl _) (Nat.le_refl _)) _ _ _ h_r0) x hx
set_option maxRecDepth 100000 in
def dt_X12_minimal : List (Nat × Instr × Nat) := [(0, .aload_n 0, 1), (1, .getfield 147, 3), (4, .iconst 0, 1), (5, .iconst 1, 1), (6, .iastore, 1), (7, .iconst 0, 1), (8, .istore_n 2, 1), (9, .iload_n 1, 1), (10, .istore_n 3, 1), (11, .iconst 1, 1), (12, .istore 4, 2), (14, .iload 4, 2), (16, .ifCond .eq 36, 3), (19, .aload_n 0, 1), (20, .iload_n 2, 1), (21, .iload_n 3, 1), (22, .invokevirtual 431, 3), (25, .iinc 2 1, 3), (28, .iconst 2, 1), (29, .iload_n 3, 1), (30, .imul, 1), (31, .aload_n 0, 1), (32, .getfield 126, 3), (35, .irem, 1), (36, .istore_n 3, 1), (37, .iload_n 3, 1), (38, .iload_n 1, 1), (39, .if_icmp .eq 7, 3), (42, .iconst 1, 1), (43, .goto 4, 3), (46, .iconst 0, 1), (47, .istore 4, 2), (49, .goto (-35), 3), (52, .aload_n 0, 1), (53, .iload_n 2, 1), (54, .invokevirtual 434, 3), (57, .l2i, 1), (58, .ireturn, 1)]
set_option maxRecDepth 100000 in
theorem dk_X12_minimal : dt_X12_minimal.all (fun q => decide (decode cX12_minimal q.1 = .ok q.2)) = true := by decide +kernel
set_option maxRecDepth 100000 in
def f_X12_minimal_47 (k14 : Int32 → Int32 → Int32 → Mem → Option (Int32 × Mem)) (r0 : Nat) (x1 : Int32) (x2 : Int32) (x3 : Int32) (s0 : Int32) (M : Mem) : Option (Int32 × Mem) := k14 x2 x3 s0 M
set_option maxRecDepth 100000 in
set_option maxHeartbeats 4000000 in
theorem x_X12_minimal_47 {κ : KX} {n : Nat} (hC : CX κ cX12_minimal RX12 5 (some .int) 2) (hE : zEnd κ n (0, 0)) (hk0 : zRk κ (0, 0)) {r0 : Nat} {x1 : Int32} (h_r0 : zO n r0 12) (k14 : Int32 → Int32 → Int32 → Mem → Option (Int32 × Mem)) (hk14 : ∀ (x2 : Int32) (x3 : Int32) (x4 : Int32) (M : Mem), X κ 5 emI n (0, 0) 14 [.ref r0, .int x1, .int x2, .int x3, .int x4] [] M (k14 x2 x3 x4 M)) (x2 : Int32) (x3 : Int32) (s0 : Int32) (M : Mem) : X κ 5 emI n (0, 0) 47 [.ref r0, .int x1, .int x2, .int x3, .null] [.int s0] M (f_X12_minimal_47 k14 r0 x1 x2 x3 s0 M) := by
  unfold f_X12_minimal_47
  refine x_istore (i := 4) (L' := [.ref r0, .int x1, .int x2, .int x3, .int s0]) (by decide) rfl hC (zdk dk_X12_minimal 31 rfl) (q := 49) rfl ?_
  refine x_goto (tgt := 14) hC (zdk dk_X12_minimal 32 rfl) rfl ?_
  refine x_weak (L' := [.ref r0, .int x1, .int x2, .int x3, .int s0]) ⟨Or.inr rfl, Or.inr rfl, Or.inr rfl, Or.inr rfl, Or.inr rfl, trivial⟩ ?_
  exact hk14 _ _ _ _
set_option maxRecDepth 100000 in
def f_X12_minimal_14  (r0 : Nat) (x1 : Int32) : Nat → Int32 → Int32 → Int32 → Mem → Option (Int32 × Mem)
  | 0, _, _, _, _ => none
  | f + 1, x2, x3, x4, M => (if x4 = 0 then Option.bind (f_X12_twoElements r0 x2 M) fun z1 => some (z1.1.toInt32, z1.2) else Option.bind (f_X12_multiplies r0 x2 x3 M) fun M2 => if zI M2 r0 37 = 0 then none else (if zrem (2 * x3) (zI M2 r0 37) = x1 then f_X12_minimal_47 (f_X12_minimal_14 r0 x1 f) r0 x1 (x2 + 1) (zrem (2 * x3) (zI M2 r0 37)) 0 M2 else f_X12_minimal_47 (f_X12_minimal_14 r0 x1 f) r0 x1 (x2 + 1) (zrem (2 * x3) (zI M2 r0 37)) 1 M2))
set_option maxRecDepth 100000 in
set_option maxHeartbeats 4000000 in
theorem x_X12_minimal_14 {κ : KX} {n : Nat} (hC : CX κ cX12_minimal RX12 5 (some .int) 2) (hE : zEnd κ n (0, 0)) (hk0 : zRk κ (0, 0)) {r0 : Nat} {x1 : Int32} (h_r0 : zO n r0 12) : ∀ (f : Nat) (x2 : Int32) (x3 : Int32) (x4 : Int32) (M : Mem), X κ 5 emI n (0, 0) 14 [.ref r0, .int x1, .int x2, .int x3, .int x4] [] M (f_X12_minimal_14 r0 x1 f x2 x3 x4 M) := by
  intro f
  induction f with
  | zero => intros; exact x_none
  | succ f ih =>
    intro x2 x3 x4 M 
    rw [f_X12_minimal_14]
    refine x_iload (i := 4) rfl hC (zdk dk_X12_minimal 11 rfl) (q := 16) rfl ?_
    refine x_if_eq (tgt := 52) hC (zdk dk_X12_minimal 12 rfl) (q := 19) rfl rfl (fun _ => ?_) (fun _ => ?_)
    · refine x_aload_n (i := 0) rfl hC (zdk dk_X12_minimal 33 rfl) (q := 53) rfl ?_
      refine x_iload_n (i := 2) rfl hC (zdk dk_X12_minimal 34 rfl) (q := 54) rfl ?_
      refine x_callVl (as := [.int x2]) cb_RX12_434 rfl (by decide) hk0 h_r0 (fun x hx => t_X12_twoElements h_r0 x hx) hC (zdk dk_X12_minimal 35 rfl) (q := 57) rfl rfl (Nat.le_of_ble_eq_true rfl) (fun z1 => ?_)
      refine x_l2i hC (zdk dk_X12_minimal 36 rfl) (q := 58) rfl ?_
      exact x_iret (ty := .int) rfl hE hC (zdk dk_X12_minimal 37 rfl)
    · refine x_aload_n (i := 0) rfl hC (zdk dk_X12_minimal 13 rfl) (q := 20) rfl ?_
      refine x_iload_n (i := 2) rfl hC (zdk dk_X12_minimal 14 rfl) (q := 21) rfl ?_
      refine x_iload_n (i := 3) rfl hC (zdk dk_X12_minimal 15 rfl) (q := 22) rfl ?_
      refine x_callVv (as := [.int x2, .int x3]) cb_RX12_431 rfl (by decide) hk0 h_r0 (fun x hx => t_X12_multiplies h_r0 x hx) hC (zdk dk_X12_minimal 16 rfl) (q := 25) rfl rfl (Nat.le_of_ble_eq_true rfl) (fun M2 => ?_)
      refine x_iinc (i := 2) c_iconst_1 rfl (by decide) (L' := [.ref r0, .int x1, .int (x2 + 1), .int x3, .int x4]) rfl hC (zdk dk_X12_minimal 17 rfl) (q := 28) rfl ?_
      refine x_iconst (i := 2) c_iconst_2 hC (zdk dk_X12_minimal 18 rfl) (q := 29) rfl ?_
      refine x_iload_n (i := 3) rfl hC (zdk dk_X12_minimal 19 rfl) (q := 30) rfl ?_
      refine x_imul hC (zdk dk_X12_minimal 20 rfl) (q := 31) rfl ?_
      refine x_aload_n (i := 0) rfl hC (zdk dk_X12_minimal 21 rfl) (q := 32) rfl ?_
      refine x_getI fl_RX12_126 (by decide) h_r0 hC (zdk dk_X12_minimal 22 rfl) (q := 35) rfl ?_
      refine x_iremG hC (zdk dk_X12_minimal 23 rfl) (q := 36) rfl ?_
      refine x_istore_n (i := 3) (L' := [.ref r0, .int x1, .int (x2 + 1), .int (zrem (2 * x3) (zI M2 r0 37)), .int x4]) (by decide) rfl hC (zdk dk_X12_minimal 24 rfl) (q := 37) rfl ?_
      refine x_iload_n (i := 3) rfl hC (zdk dk_X12_minimal 25 rfl) (q := 38) rfl ?_
      refine x_iload_n (i := 1) rfl hC (zdk dk_X12_minimal 26 rfl) (q := 39) rfl ?_
      refine x_icmp_eq (tgt := 46) hC (zdk dk_X12_minimal 27 rfl) (q := 42) rfl rfl (fun _ => ?_) (fun _ => ?_)
      · refine x_iconst (i := 0) c_iconst_0 hC (zdk dk_X12_minimal 30 rfl) (q := 47) rfl ?_
        refine x_weak (L' := [.ref r0, .int x1, .int (x2 + 1), .int (zrem (2 * x3) (zI M2 r0 37)), .null]) ⟨Or.inr rfl, Or.inr rfl, Or.inr rfl, Or.inr rfl, Or.inl rfl, trivial⟩ ?_
        exact x_X12_minimal_47 hC hE hk0 h_r0 (f_X12_minimal_14 r0 x1 f) ih _ _ _ _
      · refine x_iconst (i := 1) c_iconst_1 hC (zdk dk_X12_minimal 28 rfl) (q := 43) rfl ?_
        refine x_goto (tgt := 47) hC (zdk dk_X12_minimal 29 rfl) rfl ?_
        refine x_weak (L' := [.ref r0, .int x1, .int (x2 + 1), .int (zrem (2 * x3) (zI M2 r0 37)), .null]) ⟨Or.inr rfl, Or.inr rfl, Or.inr rfl, Or.inr rfl, Or.inl rfl, trivial⟩ ?_
        exact x_X12_minimal_47 hC hE hk0 h_r0 (f_X12_minimal_14 r0 x1 f) ih _ _ _ _
set_option maxRecDepth 100000 in
def f_X12_minimal (r0 : Nat) (x1 : Int32) (M : Mem) : Option (Int32 × Mem) := Option.bind (zrf M r0 44) fun q3 => Option.bind (zld q3 0) fun k4 => Option.bind (some (zsI M q3 k4 1)) fun M5 => f_X12_minimal_14 r0 x1 1000000 0 x1 1 M5
set_option maxRecDepth 100000 in
set_option maxHeartbeats 4000000 in
theorem x_X12_minimal {κ : KX} {n : Nat} (hC : CX κ cX12_minimal RX12 5 (some .int) 2) (hE : zEnd κ n (0, 0)) (hk0 : zRk κ (0, 0)) (r0 : Nat) (x1 : Int32) (M : Mem) (h_r0 : zO n r0 12) : X κ 5 emI n (0, 0) 0 [.ref r0, .int x1, .null, .null, .null] [] M (f_X12_minimal r0 x1 M) := by
  unfold f_X12_minimal
  refine x_aload_n (i := 0) rfl hC (zdk dk_X12_minimal 0 rfl) (q := 1) rfl ?_
  refine x_getR (k := 20) fl_RX12_147 rfl h_r0 hC (zdk dk_X12_minimal 1 rfl) (q := 4) rfl (fun q3 hq3 => ?_)
  refine x_iconst (i := 0) c_iconst_0 hC (zdk dk_X12_minimal 2 rfl) (q := 5) rfl ?_
  refine x_iconst (i := 1) c_iconst_1 hC (zdk dk_X12_minimal 3 rfl) (q := 6) rfl ?_
  refine x_iast hq3 hC (zdk dk_X12_minimal 4 rfl) (q := 7) rfl (fun k4 _ => ?_)
  refine x_nmM (fun M5 => ?_)
  refine x_iconst (i := 0) c_iconst_0 hC (zdk dk_X12_minimal 5 rfl) (q := 8) rfl ?_
  refine x_istore_n (i := 2) (L' := [.ref r0, .int x1, .int 0, .null, .null]) (by decide) rfl hC (zdk dk_X12_minimal 6 rfl) (q := 9) rfl ?_
  refine x_iload_n (i := 1) rfl hC (zdk dk_X12_minimal 7 rfl) (q := 10) rfl ?_
  refine x_istore_n (i := 3) (L' := [.ref r0, .int x1, .int 0, .int x1, .null]) (by decide) rfl hC (zdk dk_X12_minimal 8 rfl) (q := 11) rfl ?_
  refine x_iconst (i := 1) c_iconst_1 hC (zdk dk_X12_minimal 9 rfl) (q := 12) rfl ?_
  refine x_istore (i := 4) (L' := [.ref r0, .int x1, .int 0, .int x1, .int 1]) (by decide) rfl hC (zdk dk_X12_minimal 10 rfl) (q := 14) rfl ?_
  refine x_weak (L' := [.ref r0, .int x1, .int 0, .int x1, .int 1]) ⟨Or.inr rfl, Or.inr rfl, Or.inr rfl, Or.inr rfl, Or.inr rfl, trivial⟩ ?_
  exact x_X12_minimal_14 hC hE hk0 h_r0 _ _ _ _ _
set_option maxRecDepth 100000 in
set_option maxHeartbeats 4000000 in
theorem t_X12_minimal {n : Nat} {r0 : Nat} {x1 : Int32} {M : Mem} (h_r0 : zO n r0 12) (x : (Int32 × Mem)) (hx : f_X12_minimal r0 x1 M = some x) (l : Launch) (dC : Nat → ClassId) (dI : Nat → Nat → Nat) (b : zSg) : MT l dC dI b yX12_minimal cX12_minimal 5 (some .int) 2 0 0 n n [.ref r0, .int x1] M (emI x).1 (emI x).2 :=
  MT.ofX (by decide +kernel) rfl (Nat.le_of_ble_eq_true rfl) (fun κ hC hF _ => x_X12_minimal hC (zEnd_of hF (Nat.le_refl _) (Nat.le_refl _)) (zRk_of hF (Nat.le_refl _) (Nat.le_refl _)) _ _ _ h_r0) x hx
set_option maxRecDepth 100000 in
def dt_X12_field : List (Nat × Instr × Nat) := [(0, .aload_n 0, 1), (1, .getfield 120, 3), (4, .ifCond .ne 5, 3), (7, .iconst (-1), 1), (8, .ireturn, 1), (9, .iload_n 2, 1), (10, .iconst 1, 1), (11, .if_icmp .ne 26, 3), (14, .iload_n 1, 1), (15, .iconst 1, 1), (16, .aload_n 0, 1), (17, .getfield 126, 3), (20, .invokestatic 325, 3), (23, .ifCond .eq 12, 3), (26, .aload_n 0, 1), (27, .getfield 144, 3), (30, .iload_n 1, 1), (31, .iaload, 1), (32, .goto 4, 3), (35, .iconst (-1), 1), (36, .ireturn, 1), (37, .iload_n 1, 1), (38, .iconst 0, 1), (39, .aload_n 0, 1), (40, .getfield 126, 3), (43, .iconst 1, 1), (44, .isub, 1), (45, .invokestatic 325, 3), (48, .ifCond .ne 5, 3), (51, .iconst (-1), 1), (52, .ireturn, 1), (53, .iload_n 2, 1), (54, .ifCond .ne 12, 3), (57, .aload_n 0, 1), (58, .getfield 141, 3), (61, .iload_n 1, 1), (62, .iaload, 1), (63, .goto 17, 3), (66, .iload_n 2, 1), (67, .iconst 2, 1), (68, .if_icmp .ne 11, 3), (71, .aload_n 0, 1), (72, .iload_n 1, 1), (73, .invokevirtual 438, 3), (76, .goto 4, 3), (79, .iconst (-1), 1), (80, .ireturn, 1)]
set_option maxRecDepth 100000 in
theorem dk_X12_field : dt_X12_field.all (fun q => decide (decode cX12_field q.1 = .ok q.2)) = true := by decide +kernel
set_option maxRecDepth 100000 in
def f_X12_field_36  (r0 : Nat) (x1 : Int32) (x2 : Int32) (s0 : Int32) (M : Mem) : Option (Int32 × Mem) := some (s0, M)
set_option maxRecDepth 100000 in
set_option maxHeartbeats 4000000 in
theorem x_X12_field_36 {κ : KX} {n : Nat} (hC : CX κ cX12_field RX12 3 (some .int) 3) (hE : zEnd κ n (0, 0)) (hk0 : zRk κ (0, 0)) {r0 : Nat} {x1 : Int32} {x2 : Int32} (h_r0 : zO n r0 12) (s0 : Int32) (M : Mem) : X κ 3 emI n (0, 0) 36 [.null, .null, .null] [.int s0] M (f_X12_field_36 r0 x1 x2 s0 M) := by
  unfold f_X12_field_36
  exact x_iret (ty := .int) rfl hE hC (zdk dk_X12_field 20 rfl)
set_option maxRecDepth 100000 in
def f_X12_field_80  (r0 : Nat) (x1 : Int32) (x2 : Int32) (s0 : Int32) (M : Mem) : Option (Int32 × Mem) := some (s0, M)
set_option maxRecDepth 100000 in
set_option maxHeartbeats 4000000 in
theorem x_X12_field_80 {κ : KX} {n : Nat} (hC : CX κ cX12_field RX12 3 (some .int) 3) (hE : zEnd κ n (0, 0)) (hk0 : zRk κ (0, 0)) {r0 : Nat} {x1 : Int32} {x2 : Int32} (h_r0 : zO n r0 12) (s0 : Int32) (M : Mem) : X κ 3 emI n (0, 0) 80 [.null, .null, .null] [.int s0] M (f_X12_field_80 r0 x1 x2 s0 M) := by
  unfold f_X12_field_80
  exact x_iret (ty := .int) rfl hE hC (zdk dk_X12_field 46 rfl)
set_option maxRecDepth 100000 in
def f_X12_field (r0 : Nat) (x1 : Int32) (x2 : Int32) (M : Mem) : Option (Int32 × Mem) := (if zI M r0 35 = 0 then some ((-1), M) else (if x2 = 1 then Option.bind (f_X12_is x1 1 (zI M r0 37) M) fun z5 => (if z5.1 = 0 then f_X12_field_36 r0 x1 x2 ((-1)) z5.2 else Option.bind (zrf z5.2 r0 43) fun q6 => Option.bind (zld q6 x1) fun k7 => f_X12_field_36 r0 x1 x2 (zI z5.2 q6 k7) z5.2) else Option.bind (f_X12_is x1 0 ((zI M r0 37) - 1) M) fun z1 => (if z1.1 = 0 then some ((-1), z1.2) else (if x2 = 0 then Option.bind (zrf z1.2 r0 42) fun q3 => Option.bind (zld q3 x1) fun k4 => f_X12_field_80 r0 x1 x2 (zI z1.2 q3 k4) z1.2 else (if x2 = 2 then Option.bind (f_X12_minimal r0 x1 z1.2) fun z2 => f_X12_field_80 r0 x1 x2 z2.1 z2.2 else f_X12_field_80 r0 x1 x2 ((-1)) z1.2)))))
set_option maxRecDepth 100000 in
set_option maxHeartbeats 4000000 in
theorem x_X12_field {κ : KX} {n : Nat} (hC : CX κ cX12_field RX12 3 (some .int) 3) (hE : zEnd κ n (0, 0)) (hk0 : zRk κ (0, 0)) (r0 : Nat) (x1 : Int32) (x2 : Int32) (M : Mem) (h_r0 : zO n r0 12) : X κ 3 emI n (0, 0) 0 [.ref r0, .int x1, .int x2] [] M (f_X12_field r0 x1 x2 M) := by
  unfold f_X12_field
  refine x_aload_n (i := 0) rfl hC (zdk dk_X12_field 0 rfl) (q := 1) rfl ?_
  refine x_getI fl_RX12_120 (by decide) h_r0 hC (zdk dk_X12_field 1 rfl) (q := 4) rfl ?_
  refine x_if_ne (tgt := 9) hC (zdk dk_X12_field 2 rfl) (q := 7) rfl rfl (fun _ => ?_) (fun _ => ?_)
  · refine x_iload_n (i := 2) rfl hC (zdk dk_X12_field 5 rfl) (q := 10) rfl ?_
    refine x_iconst (i := 1) c_iconst_1 hC (zdk dk_X12_field 6 rfl) (q := 11) rfl ?_
    refine x_icmp_ne (tgt := 37) hC (zdk dk_X12_field 7 rfl) (q := 14) rfl rfl (fun _ => ?_) (fun _ => ?_)
    · refine x_iload_n (i := 1) rfl hC (zdk dk_X12_field 21 rfl) (q := 38) rfl ?_
      refine x_iconst (i := 0) c_iconst_0 hC (zdk dk_X12_field 22 rfl) (q := 39) rfl ?_
      refine x_aload_n (i := 0) rfl hC (zdk dk_X12_field 23 rfl) (q := 40) rfl ?_
      refine x_getI fl_RX12_126 (by decide) h_r0 hC (zdk dk_X12_field 24 rfl) (q := 43) rfl ?_
      refine x_iconst (i := 1) c_iconst_1 hC (zdk dk_X12_field 25 rfl) (q := 44) rfl ?_
      refine x_isub hC (zdk dk_X12_field 26 rfl) (q := 45) rfl ?_
      refine x_callSi (as := [.int x1, .int 0, .int ((zI M r0 37) - 1)]) cb_RX12_325 rfl (by decide) hk0 (fun x hx => t_X12_is  x hx) hC (zdk dk_X12_field 27 rfl) (q := 48) rfl rfl (Nat.le_of_ble_eq_true rfl) (fun z1 => ?_)
      refine x_if_ne (tgt := 53) hC (zdk dk_X12_field 28 rfl) (q := 51) rfl rfl (fun _ => ?_) (fun _ => ?_)
      · refine x_iload_n (i := 2) rfl hC (zdk dk_X12_field 31 rfl) (q := 54) rfl ?_
        refine x_if_ne (tgt := 66) hC (zdk dk_X12_field 32 rfl) (q := 57) rfl rfl (fun _ => ?_) (fun _ => ?_)
        · refine x_iload_n (i := 2) rfl hC (zdk dk_X12_field 38 rfl) (q := 67) rfl ?_
          refine x_iconst (i := 2) c_iconst_2 hC (zdk dk_X12_field 39 rfl) (q := 68) rfl ?_
          refine x_icmp_ne (tgt := 79) hC (zdk dk_X12_field 40 rfl) (q := 71) rfl rfl (fun _ => ?_) (fun _ => ?_)
          · refine x_iconst (i := (-1)) c_iconst_m1 hC (zdk dk_X12_field 45 rfl) (q := 80) rfl ?_
            refine x_weak (L' := [.null, .null, .null]) ⟨Or.inl rfl, Or.inl rfl, Or.inl rfl, trivial⟩ ?_
            exact x_X12_field_80 hC hE hk0 h_r0 _ _
          · refine x_aload_n (i := 0) rfl hC (zdk dk_X12_field 41 rfl) (q := 72) rfl ?_
            refine x_iload_n (i := 1) rfl hC (zdk dk_X12_field 42 rfl) (q := 73) rfl ?_
            refine x_callVi (as := [.int x1]) cb_RX12_438 rfl (by decide) hk0 h_r0 (fun x hx => t_X12_minimal h_r0 x hx) hC (zdk dk_X12_field 43 rfl) (q := 76) rfl rfl (Nat.le_of_ble_eq_true rfl) (fun z2 => ?_)
            refine x_goto (tgt := 80) hC (zdk dk_X12_field 44 rfl) rfl ?_
            refine x_weak (L' := [.null, .null, .null]) ⟨Or.inl rfl, Or.inl rfl, Or.inl rfl, trivial⟩ ?_
            exact x_X12_field_80 hC hE hk0 h_r0 _ _
        · refine x_aload_n (i := 0) rfl hC (zdk dk_X12_field 33 rfl) (q := 58) rfl ?_
          refine x_getR (k := 20) fl_RX12_141 rfl h_r0 hC (zdk dk_X12_field 34 rfl) (q := 61) rfl (fun q3 hq3 => ?_)
          refine x_iload_n (i := 1) rfl hC (zdk dk_X12_field 35 rfl) (q := 62) rfl ?_
          refine x_iald hq3 hC (zdk dk_X12_field 36 rfl) (q := 63) rfl (fun k4 _ => ?_)
          refine x_goto (tgt := 80) hC (zdk dk_X12_field 37 rfl) rfl ?_
          refine x_weak (L' := [.null, .null, .null]) ⟨Or.inl rfl, Or.inl rfl, Or.inl rfl, trivial⟩ ?_
          exact x_X12_field_80 hC hE hk0 h_r0 _ _
      · refine x_iconst (i := (-1)) c_iconst_m1 hC (zdk dk_X12_field 29 rfl) (q := 52) rfl ?_
        exact x_iret (ty := .int) rfl hE hC (zdk dk_X12_field 30 rfl)
    · refine x_iload_n (i := 1) rfl hC (zdk dk_X12_field 8 rfl) (q := 15) rfl ?_
      refine x_iconst (i := 1) c_iconst_1 hC (zdk dk_X12_field 9 rfl) (q := 16) rfl ?_
      refine x_aload_n (i := 0) rfl hC (zdk dk_X12_field 10 rfl) (q := 17) rfl ?_
      refine x_getI fl_RX12_126 (by decide) h_r0 hC (zdk dk_X12_field 11 rfl) (q := 20) rfl ?_
      refine x_callSi (as := [.int x1, .int 1, .int (zI M r0 37)]) cb_RX12_325 rfl (by decide) hk0 (fun x hx => t_X12_is  x hx) hC (zdk dk_X12_field 12 rfl) (q := 23) rfl rfl (Nat.le_of_ble_eq_true rfl) (fun z5 => ?_)
      refine x_if_eq (tgt := 35) hC (zdk dk_X12_field 13 rfl) (q := 26) rfl rfl (fun _ => ?_) (fun _ => ?_)
      · refine x_iconst (i := (-1)) c_iconst_m1 hC (zdk dk_X12_field 19 rfl) (q := 36) rfl ?_
        refine x_weak (L' := [.null, .null, .null]) ⟨Or.inl rfl, Or.inl rfl, Or.inl rfl, trivial⟩ ?_
        exact x_X12_field_36 hC hE hk0 h_r0 _ _
      · refine x_aload_n (i := 0) rfl hC (zdk dk_X12_field 14 rfl) (q := 27) rfl ?_
        refine x_getR (k := 20) fl_RX12_144 rfl h_r0 hC (zdk dk_X12_field 15 rfl) (q := 30) rfl (fun q6 hq6 => ?_)
        refine x_iload_n (i := 1) rfl hC (zdk dk_X12_field 16 rfl) (q := 31) rfl ?_
        refine x_iald hq6 hC (zdk dk_X12_field 17 rfl) (q := 32) rfl (fun k7 _ => ?_)
        refine x_goto (tgt := 36) hC (zdk dk_X12_field 18 rfl) rfl ?_
        refine x_weak (L' := [.null, .null, .null]) ⟨Or.inl rfl, Or.inl rfl, Or.inl rfl, trivial⟩ ?_
        exact x_X12_field_36 hC hE hk0 h_r0 _ _
  · refine x_iconst (i := (-1)) c_iconst_m1 hC (zdk dk_X12_field 3 rfl) (q := 8) rfl ?_
    exact x_iret (ty := .int) rfl hE hC (zdk dk_X12_field 4 rfl)
set_option maxRecDepth 100000 in
set_option maxHeartbeats 4000000 in
theorem t_X12_field {n : Nat} {r0 : Nat} {x1 : Int32} {x2 : Int32} {M : Mem} (h_r0 : zO n r0 12) (x : (Int32 × Mem)) (hx : f_X12_field r0 x1 x2 M = some x) (l : Launch) (dC : Nat → ClassId) (dI : Nat → Nat → Nat) (b : zSg) : MT l dC dI b yX12_field cX12_field 3 (some .int) 3 0 0 n n [.ref r0, .int x1, .int x2] M (emI x).1 (emI x).2 :=
  MT.ofX (by decide +kernel) rfl (Nat.le_of_ble_eq_true rfl) (fun κ hC hF _ => x_X12_field hC (zEnd_of hF (Nat.le_refl _) (Nat.le_refl _)) (zRk_of hF (Nat.le_refl _) (Nat.le_refl _)) _ _ _ _ h_r0) x hx
set_option maxRecDepth 100000 in
def dt_X12_generator : List (Nat × Instr × Nat) := [(0, .aload_n 0, 1), (1, .getfield 120, 3), (4, .ifCond .eq 25, 3), (7, .iload_n 1, 1), (8, .iconst 0, 1), (9, .bipush 62, 2), (11, .invokestatic 325, 3), (14, .ifCond .eq 15, 3), (17, .aload_n 0, 1), (18, .getfield 138, 3), (21, .iload_n 1, 1), (22, .lshr, 1), (23, .lconst 1, 1), (24, .land, 1), (25, .l2i, 1), (26, .goto 4, 3), (29, .iconst (-1), 1), (30, .ireturn, 1)]
set_option maxRecDepth 100000 in
theorem dk_X12_generator : dt_X12_generator.all (fun q => decide (decode cX12_generator q.1 = .ok q.2)) = true := by decide +kernel
set_option maxRecDepth 100000 in
def f_X12_generator_30  (r0 : Nat) (x1 : Int32) (s0 : Int32) (M : Mem) : Option (Int32 × Mem) := some (s0, M)
set_option maxRecDepth 100000 in
set_option maxHeartbeats 4000000 in
theorem x_X12_generator_30 {κ : KX} {n : Nat} (hC : CX κ cX12_generator RX12 2 (some .int) 1) (hE : zEnd κ n (0, 0)) (hk0 : zRk κ (0, 0)) {r0 : Nat} {x1 : Int32} (h_r0 : zO n r0 12) (s0 : Int32) (M : Mem) : X κ 2 emI n (0, 0) 30 [.null, .null] [.int s0] M (f_X12_generator_30 r0 x1 s0 M) := by
  unfold f_X12_generator_30
  exact x_iret (ty := .int) rfl hE hC (zdk dk_X12_generator 17 rfl)
set_option maxRecDepth 100000 in
def f_X12_generator_29  (r0 : Nat) (x1 : Int32)  (M : Mem) : Option (Int32 × Mem) := f_X12_generator_30 r0 x1 ((-1)) M
set_option maxRecDepth 100000 in
set_option maxHeartbeats 4000000 in
theorem x_X12_generator_29 {κ : KX} {n : Nat} (hC : CX κ cX12_generator RX12 2 (some .int) 1) (hE : zEnd κ n (0, 0)) (hk0 : zRk κ (0, 0)) {r0 : Nat} {x1 : Int32} (h_r0 : zO n r0 12) (M : Mem) : X κ 2 emI n (0, 0) 29 [.null, .null] [] M (f_X12_generator_29 r0 x1 M) := by
  unfold f_X12_generator_29
  refine x_iconst (i := (-1)) c_iconst_m1 hC (zdk dk_X12_generator 16 rfl) (q := 30) rfl ?_
  refine x_weak (L' := [.null, .null]) ⟨Or.inl rfl, Or.inl rfl, trivial⟩ ?_
  exact x_X12_generator_30 hC hE hk0 h_r0 _ _
set_option maxRecDepth 100000 in
def f_X12_generator (r0 : Nat) (x1 : Int32) (M : Mem) : Option (Int32 × Mem) := (if zI M r0 35 = 0 then f_X12_generator_29 r0 x1 M else Option.bind (f_X12_is x1 0 62 M) fun z1 => (if z1.1 = 0 then f_X12_generator_29 r0 x1 z1.2 else f_X12_generator_30 r0 x1 ((((zL z1.2 r0 41) >>> (x1.toInt64 &&& 63)) &&& 1).toInt32) z1.2))
set_option maxRecDepth 100000 in
set_option maxHeartbeats 4000000 in
theorem x_X12_generator {κ : KX} {n : Nat} (hC : CX κ cX12_generator RX12 2 (some .int) 1) (hE : zEnd κ n (0, 0)) (hk0 : zRk κ (0, 0)) (r0 : Nat) (x1 : Int32) (M : Mem) (h_r0 : zO n r0 12) : X κ 2 emI n (0, 0) 0 [.ref r0, .int x1] [] M (f_X12_generator r0 x1 M) := by
  unfold f_X12_generator
  refine x_aload_n (i := 0) rfl hC (zdk dk_X12_generator 0 rfl) (q := 1) rfl ?_
  refine x_getI fl_RX12_120 (by decide) h_r0 hC (zdk dk_X12_generator 1 rfl) (q := 4) rfl ?_
  refine x_if_eq (tgt := 29) hC (zdk dk_X12_generator 2 rfl) (q := 7) rfl rfl (fun _ => ?_) (fun _ => ?_)
  · refine x_weak (L' := [.null, .null]) ⟨Or.inl rfl, Or.inl rfl, trivial⟩ ?_
    exact x_X12_generator_29 hC hE hk0 h_r0 _
  · refine x_iload_n (i := 1) rfl hC (zdk dk_X12_generator 3 rfl) (q := 8) rfl ?_
    refine x_iconst (i := 0) c_iconst_0 hC (zdk dk_X12_generator 4 rfl) (q := 9) rfl ?_
    refine x_bipush (i := 62) c_bipush_62 hC (zdk dk_X12_generator 5 rfl) (q := 11) rfl ?_
    refine x_callSi (as := [.int x1, .int 0, .int 62]) cb_RX12_325 rfl (by decide) hk0 (fun x hx => t_X12_is  x hx) hC (zdk dk_X12_generator 6 rfl) (q := 14) rfl rfl (Nat.le_of_ble_eq_true rfl) (fun z1 => ?_)
    refine x_if_eq (tgt := 29) hC (zdk dk_X12_generator 7 rfl) (q := 17) rfl rfl (fun _ => ?_) (fun _ => ?_)
    · refine x_weak (L' := [.null, .null]) ⟨Or.inl rfl, Or.inl rfl, trivial⟩ ?_
      exact x_X12_generator_29 hC hE hk0 h_r0 _
    · refine x_aload_n (i := 0) rfl hC (zdk dk_X12_generator 8 rfl) (q := 18) rfl ?_
      refine x_getL fl_RX12_138 h_r0 hC (zdk dk_X12_generator 9 rfl) (q := 21) rfl ?_
      refine x_iload_n (i := 1) rfl hC (zdk dk_X12_generator 10 rfl) (q := 22) rfl ?_
      refine x_lshr hC (zdk dk_X12_generator 11 rfl) (q := 23) rfl ?_
      refine x_lconst (i := 1) c_lconst_1 hC (zdk dk_X12_generator 12 rfl) (q := 24) rfl ?_
      refine x_land hC (zdk dk_X12_generator 13 rfl) (q := 25) rfl ?_
      refine x_l2i hC (zdk dk_X12_generator 14 rfl) (q := 26) rfl ?_
      refine x_goto (tgt := 30) hC (zdk dk_X12_generator 15 rfl) rfl ?_
      refine x_weak (L' := [.null, .null]) ⟨Or.inl rfl, Or.inl rfl, trivial⟩ ?_
      exact x_X12_generator_30 hC hE hk0 h_r0 _ _
set_option maxRecDepth 100000 in
set_option maxHeartbeats 4000000 in
theorem t_X12_generator {n : Nat} {r0 : Nat} {x1 : Int32} {M : Mem} (h_r0 : zO n r0 12) (x : (Int32 × Mem)) (hx : f_X12_generator r0 x1 M = some x) (l : Launch) (dC : Nat → ClassId) (dI : Nat → Nat → Nat) (b : zSg) : MT l dC dI b yX12_generator cX12_generator 2 (some .int) 1 0 0 n n [.ref r0, .int x1] M (emI x).1 (emI x).2 :=
  MT.ofX (by decide +kernel) rfl (Nat.le_of_ble_eq_true rfl) (fun κ hC hF _ => x_X12_generator hC (zEnd_of hF (Nat.le_refl _) (Nat.le_refl _)) (zRk_of hF (Nat.le_refl _) (Nat.le_refl _)) _ _ _ h_r0) x hx
set_option maxRecDepth 100000 in
def dt_X12_left : List (Nat × Instr × Nat) := [(0, .lload_n 1, 1), (1, .lstore_n 3, 1), (2, .bipush 62, 2), (4, .istore 5, 2), (6, .iload 5, 2), (8, .aload_n 0, 1), (9, .getfield 129, 3), (12, .if_icmp .lt 35, 3), (15, .lload_n 3, 1), (16, .iload 5, 2), (18, .lshr, 1), (19, .lconst 1, 1), (20, .land, 1), (21, .lconst 1, 1), (22, .lcmp, 1), (23, .ifCond .ne 18, 3), (26, .lload_n 3, 1), (27, .aload_n 0, 1), (28, .getfield 138, 3), (31, .iload 5, 2), (33, .aload_n 0, 1), (34, .getfield 129, 3), (37, .isub, 1), (38, .lshl, 1), (39, .lxor, 1), (40, .lstore_n 3, 1), (41, .iinc 5 (-1), 3), (44, .goto (-38), 3), (47, .lload_n 3, 1), (48, .lreturn, 1)]
set_option maxRecDepth 100000 in
theorem dk_X12_left : dt_X12_left.all (fun q => decide (decode cX12_left q.1 = .ok q.2)) = true := by decide +kernel
set_option maxRecDepth 100000 in
def f_X12_left_41 (k6 : Int64 → Int32 → Mem → Option (Int64 × Mem)) (r0 : Nat) (y1 : Int64) (y3 : Int64) (x5 : Int32) (M : Mem) : Option (Int64 × Mem) := k6 y3 (x5 + (-1)) M
set_option maxRecDepth 100000 in
set_option maxHeartbeats 4000000 in
theorem x_X12_left_41 {κ : KX} {n : Nat} (hC : CX κ cX12_left RX12 6 (some .long) 0) (hE : zEnd κ n (0, 0)) (hk0 : zRk κ (0, 0)) {r0 : Nat} {y1 : Int64} (h_r0 : zO n r0 12) (k6 : Int64 → Int32 → Mem → Option (Int64 × Mem)) (hk6 : ∀ (y3 : Int64) (x5 : Int32) (M : Mem), X κ 6 emL n (0, 0) 6 [.ref r0, .null, .null, .long y3, .null, .int x5] [] M (k6 y3 x5 M)) (y3 : Int64) (x5 : Int32) (M : Mem) : X κ 6 emL n (0, 0) 41 [.ref r0, .null, .null, .long y3, .null, .int x5] [] M (f_X12_left_41 k6 r0 y1 y3 x5 M) := by
  unfold f_X12_left_41
  refine x_iinc (i := 5) c_iconst_m1 rfl (by decide) (L' := [.ref r0, .null, .null, .long y3, .null, .int (x5 + (-1))]) rfl hC (zdk dk_X12_left 26 rfl) (q := 44) rfl ?_
  refine x_goto (tgt := 6) hC (zdk dk_X12_left 27 rfl) rfl ?_
  refine x_weak (L' := [.ref r0, .null, .null, .long y3, .null, .int (x5 + (-1))]) ⟨Or.inr rfl, Or.inl rfl, Or.inl rfl, Or.inr rfl, Or.inl rfl, Or.inr rfl, trivial⟩ ?_
  exact hk6 _ _ _
set_option maxRecDepth 100000 in
def f_X12_left_6  (r0 : Nat) (y1 : Int64) : Nat → Int64 → Int32 → Mem → Option (Int64 × Mem)
  | 0, _, _, _ => none
  | f + 1, y3, x5, M => (if x5 < zI M r0 38 then some (y3, M) else (if lg_cmp ((y3 >>> (x5.toInt64 &&& 63)) &&& 1) 1 = 0 then Option.bind (some (y3 ^^^ ((zL M r0 41) <<< ((x5 - (zI M r0 38)).toInt64 &&& 63)))) fun (v1 : Int64) => f_X12_left_41 (f_X12_left_6 r0 y1 f) r0 y1 v1 x5 M else f_X12_left_41 (f_X12_left_6 r0 y1 f) r0 y1 y3 x5 M))
set_option maxRecDepth 100000 in
set_option maxHeartbeats 4000000 in
theorem x_X12_left_6 {κ : KX} {n : Nat} (hC : CX κ cX12_left RX12 6 (some .long) 0) (hE : zEnd κ n (0, 0)) (hk0 : zRk κ (0, 0)) {r0 : Nat} {y1 : Int64} (h_r0 : zO n r0 12) : ∀ (f : Nat) (y3 : Int64) (x5 : Int32) (M : Mem), X κ 6 emL n (0, 0) 6 [.ref r0, .null, .null, .long y3, .null, .int x5] [] M (f_X12_left_6 r0 y1 f y3 x5 M) := by
  intro f
  induction f with
  | zero => intros; exact x_none
  | succ f ih =>
    intro y3 x5 M 
    rw [f_X12_left_6]
    refine x_iload (i := 5) rfl hC (zdk dk_X12_left 4 rfl) (q := 8) rfl ?_
    refine x_aload_n (i := 0) rfl hC (zdk dk_X12_left 5 rfl) (q := 9) rfl ?_
    refine x_getI fl_RX12_129 (by decide) h_r0 hC (zdk dk_X12_left 6 rfl) (q := 12) rfl ?_
    refine x_icmp_lt (tgt := 47) hC (zdk dk_X12_left 7 rfl) (q := 15) rfl rfl (fun _ => ?_) (fun _ => ?_)
    · refine x_lload_n (i := 3) rfl hC (zdk dk_X12_left 28 rfl) (q := 48) rfl ?_
      exact x_lret hE hC (zdk dk_X12_left 29 rfl)
    · refine x_lload_n (i := 3) rfl hC (zdk dk_X12_left 8 rfl) (q := 16) rfl ?_
      refine x_iload (i := 5) rfl hC (zdk dk_X12_left 9 rfl) (q := 18) rfl ?_
      refine x_lshr hC (zdk dk_X12_left 10 rfl) (q := 19) rfl ?_
      refine x_lconst (i := 1) c_lconst_1 hC (zdk dk_X12_left 11 rfl) (q := 20) rfl ?_
      refine x_land hC (zdk dk_X12_left 12 rfl) (q := 21) rfl ?_
      refine x_lconst (i := 1) c_lconst_1 hC (zdk dk_X12_left 13 rfl) (q := 22) rfl ?_
      refine x_lcmp hC (zdk dk_X12_left 14 rfl) (q := 23) rfl ?_
      refine x_if_ne (tgt := 41) hC (zdk dk_X12_left 15 rfl) (q := 26) rfl rfl (fun _ => ?_) (fun _ => ?_)
      · refine x_weak (L' := [.ref r0, .null, .null, .long y3, .null, .int x5]) ⟨Or.inr rfl, Or.inl rfl, Or.inl rfl, Or.inr rfl, Or.inl rfl, Or.inr rfl, trivial⟩ ?_
        exact x_X12_left_41 hC hE hk0 h_r0 (f_X12_left_6 r0 y1 f) ih _ _ _
      · refine x_lload_n (i := 3) rfl hC (zdk dk_X12_left 16 rfl) (q := 27) rfl ?_
        refine x_aload_n (i := 0) rfl hC (zdk dk_X12_left 17 rfl) (q := 28) rfl ?_
        refine x_getL fl_RX12_138 h_r0 hC (zdk dk_X12_left 18 rfl) (q := 31) rfl ?_
        refine x_iload (i := 5) rfl hC (zdk dk_X12_left 19 rfl) (q := 33) rfl ?_
        refine x_aload_n (i := 0) rfl hC (zdk dk_X12_left 20 rfl) (q := 34) rfl ?_
        refine x_getI fl_RX12_129 (by decide) h_r0 hC (zdk dk_X12_left 21 rfl) (q := 37) rfl ?_
        refine x_isub hC (zdk dk_X12_left 22 rfl) (q := 38) rfl ?_
        refine x_lshl hC (zdk dk_X12_left 23 rfl) (q := 39) rfl ?_
        refine x_lxor hC (zdk dk_X12_left 24 rfl) (q := 40) rfl ?_
        refine x_lstore_n (i := 3) (L' := [.ref r0, .null, .null, .long (y3 ^^^ ((zL M r0 41) <<< ((x5 - (zI M r0 38)).toInt64 &&& 63))), .null, .int x5]) (by decide) rfl hC (zdk dk_X12_left 25 rfl) (q := 41) rfl ?_
        refine x_nmJ (fun v1 => [.ref r0, .null, .null, .long v1, .null, .int x5]) rfl (fun v1 => ?_)
        refine x_weak (L' := [.ref r0, .null, .null, .long v1, .null, .int x5]) ⟨Or.inr rfl, Or.inl rfl, Or.inl rfl, Or.inr rfl, Or.inl rfl, Or.inr rfl, trivial⟩ ?_
        exact x_X12_left_41 hC hE hk0 h_r0 (f_X12_left_6 r0 y1 f) ih _ _ _
set_option maxRecDepth 100000 in
def f_X12_left (r0 : Nat) (y1 : Int64) (M : Mem) : Option (Int64 × Mem) := f_X12_left_6 r0 y1 1000000 y1 62 M
set_option maxRecDepth 100000 in
set_option maxHeartbeats 4000000 in
theorem x_X12_left {κ : KX} {n : Nat} (hC : CX κ cX12_left RX12 6 (some .long) 0) (hE : zEnd κ n (0, 0)) (hk0 : zRk κ (0, 0)) (r0 : Nat) (y1 : Int64) (M : Mem) (h_r0 : zO n r0 12) : X κ 6 emL n (0, 0) 0 [.ref r0, .long y1, .null, .null, .null, .null] [] M (f_X12_left r0 y1 M) := by
  unfold f_X12_left
  refine x_lload_n (i := 1) rfl hC (zdk dk_X12_left 0 rfl) (q := 1) rfl ?_
  refine x_lstore_n (i := 3) (L' := [.ref r0, .long y1, .null, .long y1, .null, .null]) (by decide) rfl hC (zdk dk_X12_left 1 rfl) (q := 2) rfl ?_
  refine x_bipush (i := 62) c_bipush_62 hC (zdk dk_X12_left 2 rfl) (q := 4) rfl ?_
  refine x_istore (i := 5) (L' := [.ref r0, .long y1, .null, .long y1, .null, .int 62]) (by decide) rfl hC (zdk dk_X12_left 3 rfl) (q := 6) rfl ?_
  refine x_weak (L' := [.ref r0, .null, .null, .long y1, .null, .int 62]) ⟨Or.inr rfl, Or.inl rfl, Or.inl rfl, Or.inr rfl, Or.inl rfl, Or.inr rfl, trivial⟩ ?_
  exact x_X12_left_6 hC hE hk0 h_r0 _ _ _ _
set_option maxRecDepth 100000 in
set_option maxHeartbeats 4000000 in
theorem t_X12_left {n : Nat} {r0 : Nat} {y1 : Int64} {M : Mem} (h_r0 : zO n r0 12) (x : (Int64 × Mem)) (hx : f_X12_left r0 y1 M = some x) (l : Launch) (dC : Nat → ClassId) (dI : Nat → Nat → Nat) (b : zSg) : MT l dC dI b yX12_left cX12_left 6 (some .long) 0 0 0 n n [.ref r0, .long y1] M (emL x).1 (emL x).2 :=
  MT.ofX (by decide +kernel) rfl (Nat.le_of_ble_eq_true rfl) (fun κ hC hF _ => x_X12_left hC (zEnd_of hF (Nat.le_refl _) (Nat.le_refl _)) (zRk_of hF (Nat.le_refl _) (Nat.le_refl _)) _ _ _ h_r0) x hx
set_option maxRecDepth 100000 in
def dt_X12_wordOf : List (Nat × Instr × Nat) := [(0, .lload_n 1, 1), (1, .aload_n 0, 1), (2, .getfield 129, 3), (5, .lshl, 1), (6, .lstore_n 3, 1), (7, .lload_n 3, 1), (8, .aload_n 0, 1), (9, .lload_n 3, 1), (10, .invokevirtual 441, 3), (13, .lor, 1), (14, .lreturn, 1)]
set_option maxRecDepth 100000 in
theorem dk_X12_wordOf : dt_X12_wordOf.all (fun q => decide (decode cX12_wordOf q.1 = .ok q.2)) = true := by decide +kernel
set_option maxRecDepth 100000 in
def f_X12_wordOf (r0 : Nat) (y1 : Int64) (M : Mem) : Option (Int64 × Mem) := Option.bind (f_X12_left r0 (y1 <<< ((zI M r0 38).toInt64 &&& 63)) M) fun z1 => some ((y1 <<< ((zI M r0 38).toInt64 &&& 63)) ||| z1.1, z1.2)
set_option maxRecDepth 100000 in
set_option maxHeartbeats 4000000 in
theorem x_X12_wordOf {κ : KX} {n : Nat} (hC : CX κ cX12_wordOf RX12 5 (some .long) 1) (hE : zEnd κ n (0, 0)) (hk0 : zRk κ (0, 0)) (r0 : Nat) (y1 : Int64) (M : Mem) (h_r0 : zO n r0 12) : X κ 5 emL n (0, 0) 0 [.ref r0, .long y1, .null, .null, .null] [] M (f_X12_wordOf r0 y1 M) := by
  unfold f_X12_wordOf
  refine x_lload_n (i := 1) rfl hC (zdk dk_X12_wordOf 0 rfl) (q := 1) rfl ?_
  refine x_aload_n (i := 0) rfl hC (zdk dk_X12_wordOf 1 rfl) (q := 2) rfl ?_
  refine x_getI fl_RX12_129 (by decide) h_r0 hC (zdk dk_X12_wordOf 2 rfl) (q := 5) rfl ?_
  refine x_lshl hC (zdk dk_X12_wordOf 3 rfl) (q := 6) rfl ?_
  refine x_lstore_n (i := 3) (L' := [.ref r0, .long y1, .null, .long (y1 <<< ((zI M r0 38).toInt64 &&& 63)), .null]) (by decide) rfl hC (zdk dk_X12_wordOf 4 rfl) (q := 7) rfl ?_
  refine x_lload_n (i := 3) rfl hC (zdk dk_X12_wordOf 5 rfl) (q := 8) rfl ?_
  refine x_aload_n (i := 0) rfl hC (zdk dk_X12_wordOf 6 rfl) (q := 9) rfl ?_
  refine x_lload_n (i := 3) rfl hC (zdk dk_X12_wordOf 7 rfl) (q := 10) rfl ?_
  refine x_callVl (as := [.long (y1 <<< ((zI M r0 38).toInt64 &&& 63))]) cb_RX12_441 rfl (by decide) hk0 h_r0 (fun x hx => t_X12_left h_r0 x hx) hC (zdk dk_X12_wordOf 8 rfl) (q := 13) rfl rfl (Nat.le_of_ble_eq_true rfl) (fun z1 => ?_)
  refine x_lor hC (zdk dk_X12_wordOf 9 rfl) (q := 14) rfl ?_
  exact x_lret hE hC (zdk dk_X12_wordOf 10 rfl)
set_option maxRecDepth 100000 in
set_option maxHeartbeats 4000000 in
theorem t_X12_wordOf {n : Nat} {r0 : Nat} {y1 : Int64} {M : Mem} (h_r0 : zO n r0 12) (x : (Int64 × Mem)) (hx : f_X12_wordOf r0 y1 M = some x) (l : Launch) (dC : Nat → ClassId) (dI : Nat → Nat → Nat) (b : zSg) : MT l dC dI b yX12_wordOf cX12_wordOf 5 (some .long) 1 0 0 n n [.ref r0, .long y1] M (emL x).1 (emL x).2 :=
  MT.ofX (by decide +kernel) rfl (Nat.le_of_ble_eq_true rfl) (fun κ hC hF _ => x_X12_wordOf hC (zEnd_of hF (Nat.le_refl _) (Nat.le_refl _)) (zRk_of hF (Nat.le_refl _) (Nat.le_refl _)) _ _ _ h_r0) x hx
set_option maxRecDepth 100000 in
def dt_X12_isData : List (Nat × Instr × Nat) := [(0, .aload_n 0, 1), (1, .getfield 120, 3), (4, .ifCond .eq 40, 3), (7, .iload_n 1, 1), (8, .ifCond .lt 36, 3), (11, .iload_n 2, 1), (12, .iconst 0, 1), (13, .ldc_w 445, 3), (16, .invokestatic 325, 3), (19, .ifCond .eq 25, 3), (22, .iload_n 1, 1), (23, .i2l, 1), (24, .bipush 30, 2), (26, .lshl, 1), (27, .iload_n 2, 1), (28, .i2l, 1), (29, .lor, 1), (30, .aload_n 0, 1), (31, .getfield 135, 3), (34, .lshr, 1), (35, .lconst 0, 1), (36, .lcmp, 1), (37, .ifCond .ne 7, 3), (40, .iconst 1, 1), (41, .goto 4, 3), (44, .iconst 0, 1), (45, .ireturn, 1)]
set_option maxRecDepth 100000 in
theorem dk_X12_isData : dt_X12_isData.all (fun q => decide (decode cX12_isData q.1 = .ok q.2)) = true := by decide +kernel
set_option maxRecDepth 100000 in
def f_X12_isData_45  (r0 : Nat) (x1 : Int32) (x2 : Int32) (s0 : Int32) (M : Mem) : Option (Int32 × Mem) := zbz s0 (some (s0, M))
set_option maxRecDepth 100000 in
set_option maxHeartbeats 4000000 in
theorem x_X12_isData_45 {κ : KX} {n : Nat} (hC : CX κ cX12_isData RX12 3 (some .boolean) 1) (hE : zEnd κ n (0, 0)) (hk0 : zRk κ (0, 0)) {r0 : Nat} {x1 : Int32} {x2 : Int32} (h_r0 : zO n r0 12) (s0 : Int32) (M : Mem) : X κ 3 emI n (0, 0) 45 [.null, .null, .null] [.int s0] M (f_X12_isData_45 r0 x1 x2 s0 M) := by
  unfold f_X12_isData_45
  refine x_bz (fun hb1 => ?_)
  exact x_iret (ty := .boolean) hb1.1 hE hC (zdk dk_X12_isData 26 rfl)
set_option maxRecDepth 100000 in
def f_X12_isData_44  (r0 : Nat) (x1 : Int32) (x2 : Int32)  (M : Mem) : Option (Int32 × Mem) := f_X12_isData_45 r0 x1 x2 0 M
set_option maxRecDepth 100000 in
set_option maxHeartbeats 4000000 in
theorem x_X12_isData_44 {κ : KX} {n : Nat} (hC : CX κ cX12_isData RX12 3 (some .boolean) 1) (hE : zEnd κ n (0, 0)) (hk0 : zRk κ (0, 0)) {r0 : Nat} {x1 : Int32} {x2 : Int32} (h_r0 : zO n r0 12) (M : Mem) : X κ 3 emI n (0, 0) 44 [.null, .null, .null] [] M (f_X12_isData_44 r0 x1 x2 M) := by
  unfold f_X12_isData_44
  refine x_iconst (i := 0) c_iconst_0 hC (zdk dk_X12_isData 25 rfl) (q := 45) rfl ?_
  refine x_weak (L' := [.null, .null, .null]) ⟨Or.inl rfl, Or.inl rfl, Or.inl rfl, trivial⟩ ?_
  exact x_X12_isData_45 hC hE hk0 h_r0 _ _
set_option maxRecDepth 100000 in
def f_X12_isData (r0 : Nat) (x1 : Int32) (x2 : Int32) (M : Mem) : Option (Int32 × Mem) := (if zI M r0 35 = 0 then f_X12_isData_44 r0 x1 x2 M else (if x1 < 0 then f_X12_isData_44 r0 x1 x2 M else Option.bind (f_X12_is x2 0 1073741823 M) fun z2 => (if z2.1 = 0 then f_X12_isData_44 r0 x1 x2 z2.2 else (if lg_cmp (((x1.toInt64 <<< ((30 : Int32).toInt64 &&& 63)) ||| x2.toInt64) >>> ((zI z2.2 r0 40).toInt64 &&& 63)) 0 = 0 then f_X12_isData_45 r0 x1 x2 1 z2.2 else f_X12_isData_44 r0 x1 x2 z2.2))))
set_option maxRecDepth 100000 in
set_option maxHeartbeats 4000000 in
theorem x_X12_isData {κ : KX} {n : Nat} (hC : CX κ cX12_isData RX12 3 (some .boolean) 1) (hE : zEnd κ n (0, 0)) (hk0 : zRk κ (0, 0)) (r0 : Nat) (x1 : Int32) (x2 : Int32) (M : Mem) (h_r0 : zO n r0 12) : X κ 3 emI n (0, 0) 0 [.ref r0, .int x1, .int x2] [] M (f_X12_isData r0 x1 x2 M) := by
  unfold f_X12_isData
  refine x_aload_n (i := 0) rfl hC (zdk dk_X12_isData 0 rfl) (q := 1) rfl ?_
  refine x_getI fl_RX12_120 (by decide) h_r0 hC (zdk dk_X12_isData 1 rfl) (q := 4) rfl ?_
  refine x_if_eq (tgt := 44) hC (zdk dk_X12_isData 2 rfl) (q := 7) rfl rfl (fun _ => ?_) (fun _ => ?_)
  · refine x_weak (L' := [.null, .null, .null]) ⟨Or.inl rfl, Or.inl rfl, Or.inl rfl, trivial⟩ ?_
    exact x_X12_isData_44 hC hE hk0 h_r0 _
  · refine x_iload_n (i := 1) rfl hC (zdk dk_X12_isData 3 rfl) (q := 8) rfl ?_
    refine x_if_lt (tgt := 44) hC (zdk dk_X12_isData 4 rfl) (q := 11) rfl rfl (fun _ => ?_) (fun _ => ?_)
    · refine x_weak (L' := [.null, .null, .null]) ⟨Or.inl rfl, Or.inl rfl, Or.inl rfl, trivial⟩ ?_
      exact x_X12_isData_44 hC hE hk0 h_r0 _
    · refine x_iload_n (i := 2) rfl hC (zdk dk_X12_isData 5 rfl) (q := 12) rfl ?_
      refine x_iconst (i := 0) c_iconst_0 hC (zdk dk_X12_isData 6 rfl) (q := 13) rfl ?_
      refine x_ldcw k_RX12_445 hC (zdk dk_X12_isData 7 rfl) (q := 16) rfl ?_
      refine x_callSi (as := [.int x2, .int 0, .int 1073741823]) cb_RX12_325 rfl (by decide) hk0 (fun x hx => t_X12_is  x hx) hC (zdk dk_X12_isData 8 rfl) (q := 19) rfl rfl (Nat.le_of_ble_eq_true rfl) (fun z2 => ?_)
      refine x_if_eq (tgt := 44) hC (zdk dk_X12_isData 9 rfl) (q := 22) rfl rfl (fun _ => ?_) (fun _ => ?_)
      · refine x_weak (L' := [.null, .null, .null]) ⟨Or.inl rfl, Or.inl rfl, Or.inl rfl, trivial⟩ ?_
        exact x_X12_isData_44 hC hE hk0 h_r0 _
      · refine x_iload_n (i := 1) rfl hC (zdk dk_X12_isData 10 rfl) (q := 23) rfl ?_
        refine x_i2l hC (zdk dk_X12_isData 11 rfl) (q := 24) rfl ?_
        refine x_bipush (i := 30) c_bipush_30 hC (zdk dk_X12_isData 12 rfl) (q := 26) rfl ?_
        refine x_lshl hC (zdk dk_X12_isData 13 rfl) (q := 27) rfl ?_
        refine x_iload_n (i := 2) rfl hC (zdk dk_X12_isData 14 rfl) (q := 28) rfl ?_
        refine x_i2l hC (zdk dk_X12_isData 15 rfl) (q := 29) rfl ?_
        refine x_lor hC (zdk dk_X12_isData 16 rfl) (q := 30) rfl ?_
        refine x_aload_n (i := 0) rfl hC (zdk dk_X12_isData 17 rfl) (q := 31) rfl ?_
        refine x_getI fl_RX12_135 (by decide) h_r0 hC (zdk dk_X12_isData 18 rfl) (q := 34) rfl ?_
        refine x_lshr hC (zdk dk_X12_isData 19 rfl) (q := 35) rfl ?_
        refine x_lconst (i := 0) c_lconst_0 hC (zdk dk_X12_isData 20 rfl) (q := 36) rfl ?_
        refine x_lcmp hC (zdk dk_X12_isData 21 rfl) (q := 37) rfl ?_
        refine x_if_ne (tgt := 44) hC (zdk dk_X12_isData 22 rfl) (q := 40) rfl rfl (fun _ => ?_) (fun _ => ?_)
        · refine x_weak (L' := [.null, .null, .null]) ⟨Or.inl rfl, Or.inl rfl, Or.inl rfl, trivial⟩ ?_
          exact x_X12_isData_44 hC hE hk0 h_r0 _
        · refine x_iconst (i := 1) c_iconst_1 hC (zdk dk_X12_isData 23 rfl) (q := 41) rfl ?_
          refine x_goto (tgt := 45) hC (zdk dk_X12_isData 24 rfl) rfl ?_
          refine x_weak (L' := [.null, .null, .null]) ⟨Or.inl rfl, Or.inl rfl, Or.inl rfl, trivial⟩ ?_
          exact x_X12_isData_45 hC hE hk0 h_r0 _ _
set_option maxRecDepth 100000 in
set_option maxHeartbeats 4000000 in
theorem t_X12_isData {n : Nat} {r0 : Nat} {x1 : Int32} {x2 : Int32} {M : Mem} (h_r0 : zO n r0 12) (x : (Int32 × Mem)) (hx : f_X12_isData r0 x1 x2 M = some x) (l : Launch) (dC : Nat → ClassId) (dI : Nat → Nat → Nat) (b : zSg) : MT l dC dI b yX12_isData cX12_isData 3 (some .boolean) 1 0 0 n n [.ref r0, .int x1, .int x2] M (emI x).1 (emI x).2 :=
  MT.ofX (by decide +kernel) rfl (Nat.le_of_ble_eq_true rfl) (fun κ hC hF _ => x_X12_isData hC (zEnd_of hF (Nat.le_refl _) (Nat.le_refl _)) (zRk_of hF (Nat.le_refl _) (Nat.le_refl _)) _ _ _ _ h_r0) x hx
set_option maxRecDepth 100000 in
def dt_X12_word : List (Nat × Instr × Nat) := [(0, .aload_n 0, 1), (1, .iload_n 1, 1), (2, .iload_n 2, 1), (3, .invokevirtual 446, 3), (6, .ifCond .eq 37, 3), (9, .iload_n 3, 1), (10, .iconst 0, 1), (11, .aload_n 0, 1), (12, .getfield 132, 3), (15, .iconst 1, 1), (16, .isub, 1), (17, .invokestatic 325, 3), (20, .ifCond .eq 23, 3), (23, .aload_n 0, 1), (24, .iload_n 1, 1), (25, .i2l, 1), (26, .bipush 30, 2), (28, .lshl, 1), (29, .iload_n 2, 1), (30, .i2l, 1), (31, .lor, 1), (32, .invokevirtual 449, 3), (35, .iload_n 3, 1), (36, .lshr, 1), (37, .lconst 1, 1), (38, .land, 1), (39, .l2i, 1), (40, .goto 4, 3), (43, .iconst (-1), 1), (44, .ireturn, 1)]
set_option maxRecDepth 100000 in
theorem dk_X12_word : dt_X12_word.all (fun q => decide (decode cX12_word q.1 = .ok q.2)) = true := by decide +kernel
set_option maxRecDepth 100000 in
def f_X12_word_44  (r0 : Nat) (x1 : Int32) (x2 : Int32) (x3 : Int32) (s0 : Int32) (M : Mem) : Option (Int32 × Mem) := some (s0, M)
set_option maxRecDepth 100000 in
set_option maxHeartbeats 4000000 in
theorem x_X12_word_44 {κ : KX} {n : Nat} (hC : CX κ cX12_word RX12 4 (some .int) 2) (hE : zEnd κ n (0, 0)) (hk0 : zRk κ (0, 0)) {r0 : Nat} {x1 : Int32} {x2 : Int32} {x3 : Int32} (h_r0 : zO n r0 12) (s0 : Int32) (M : Mem) : X κ 4 emI n (0, 0) 44 [.null, .null, .null, .null] [.int s0] M (f_X12_word_44 r0 x1 x2 x3 s0 M) := by
  unfold f_X12_word_44
  exact x_iret (ty := .int) rfl hE hC (zdk dk_X12_word 29 rfl)
set_option maxRecDepth 100000 in
def f_X12_word_43  (r0 : Nat) (x1 : Int32) (x2 : Int32) (x3 : Int32)  (M : Mem) : Option (Int32 × Mem) := f_X12_word_44 r0 x1 x2 x3 ((-1)) M
set_option maxRecDepth 100000 in
set_option maxHeartbeats 4000000 in
theorem x_X12_word_43 {κ : KX} {n : Nat} (hC : CX κ cX12_word RX12 4 (some .int) 2) (hE : zEnd κ n (0, 0)) (hk0 : zRk κ (0, 0)) {r0 : Nat} {x1 : Int32} {x2 : Int32} {x3 : Int32} (h_r0 : zO n r0 12) (M : Mem) : X κ 4 emI n (0, 0) 43 [.null, .null, .null, .null] [] M (f_X12_word_43 r0 x1 x2 x3 M) := by
  unfold f_X12_word_43
  refine x_iconst (i := (-1)) c_iconst_m1 hC (zdk dk_X12_word 28 rfl) (q := 44) rfl ?_
  refine x_weak (L' := [.null, .null, .null, .null]) ⟨Or.inl rfl, Or.inl rfl, Or.inl rfl, Or.inl rfl, trivial⟩ ?_
  exact x_X12_word_44 hC hE hk0 h_r0 _ _
set_option maxRecDepth 100000 in
def f_X12_word (r0 : Nat) (x1 : Int32) (x2 : Int32) (x3 : Int32) (M : Mem) : Option (Int32 × Mem) := Option.bind (f_X12_isData r0 x1 x2 M) fun z1 => (if z1.1 = 0 then f_X12_word_43 r0 x1 x2 x3 z1.2 else Option.bind (f_X12_is x3 0 ((zI z1.2 r0 39) - 1) z1.2) fun z2 => (if z2.1 = 0 then f_X12_word_43 r0 x1 x2 x3 z2.2 else Option.bind (f_X12_wordOf r0 ((x1.toInt64 <<< ((30 : Int32).toInt64 &&& 63)) ||| x2.toInt64) z2.2) fun z3 => f_X12_word_44 r0 x1 x2 x3 (((z3.1 >>> (x3.toInt64 &&& 63)) &&& 1).toInt32) z3.2))
set_option maxRecDepth 100000 in
set_option maxHeartbeats 4000000 in
theorem x_X12_word {κ : KX} {n : Nat} (hC : CX κ cX12_word RX12 4 (some .int) 2) (hE : zEnd κ n (0, 0)) (hk0 : zRk κ (0, 0)) (r0 : Nat) (x1 : Int32) (x2 : Int32) (x3 : Int32) (M : Mem) (h_r0 : zO n r0 12) : X κ 4 emI n (0, 0) 0 [.ref r0, .int x1, .int x2, .int x3] [] M (f_X12_word r0 x1 x2 x3 M) := by
  unfold f_X12_word
  refine x_aload_n (i := 0) rfl hC (zdk dk_X12_word 0 rfl) (q := 1) rfl ?_
  refine x_iload_n (i := 1) rfl hC (zdk dk_X12_word 1 rfl) (q := 2) rfl ?_
  refine x_iload_n (i := 2) rfl hC (zdk dk_X12_word 2 rfl) (q := 3) rfl ?_
  refine x_callVi (as := [.int x1, .int x2]) cb_RX12_446 rfl (by decide) hk0 h_r0 (fun x hx => t_X12_isData h_r0 x hx) hC (zdk dk_X12_word 3 rfl) (q := 6) rfl rfl (Nat.le_of_ble_eq_true rfl) (fun z1 => ?_)
  refine x_if_eq (tgt := 43) hC (zdk dk_X12_word 4 rfl) (q := 9) rfl rfl (fun _ => ?_) (fun _ => ?_)
  · refine x_weak (L' := [.null, .null, .null, .null]) ⟨Or.inl rfl, Or.inl rfl, Or.inl rfl, Or.inl rfl, trivial⟩ ?_
    exact x_X12_word_43 hC hE hk0 h_r0 _
  · refine x_iload_n (i := 3) rfl hC (zdk dk_X12_word 5 rfl) (q := 10) rfl ?_
    refine x_iconst (i := 0) c_iconst_0 hC (zdk dk_X12_word 6 rfl) (q := 11) rfl ?_
    refine x_aload_n (i := 0) rfl hC (zdk dk_X12_word 7 rfl) (q := 12) rfl ?_
    refine x_getI fl_RX12_132 (by decide) h_r0 hC (zdk dk_X12_word 8 rfl) (q := 15) rfl ?_
    refine x_iconst (i := 1) c_iconst_1 hC (zdk dk_X12_word 9 rfl) (q := 16) rfl ?_
    refine x_isub hC (zdk dk_X12_word 10 rfl) (q := 17) rfl ?_
    refine x_callSi (as := [.int x3, .int 0, .int ((zI z1.2 r0 39) - 1)]) cb_RX12_325 rfl (by decide) hk0 (fun x hx => t_X12_is  x hx) hC (zdk dk_X12_word 11 rfl) (q := 20) rfl rfl (Nat.le_of_ble_eq_true rfl) (fun z2 => ?_)
    refine x_if_eq (tgt := 43) hC (zdk dk_X12_word 12 rfl) (q := 23) rfl rfl (fun _ => ?_) (fun _ => ?_)
    · refine x_weak (L' := [.null, .null, .null, .null]) ⟨Or.inl rfl, Or.inl rfl, Or.inl rfl, Or.inl rfl, trivial⟩ ?_
      exact x_X12_word_43 hC hE hk0 h_r0 _
    · refine x_aload_n (i := 0) rfl hC (zdk dk_X12_word 13 rfl) (q := 24) rfl ?_
      refine x_iload_n (i := 1) rfl hC (zdk dk_X12_word 14 rfl) (q := 25) rfl ?_
      refine x_i2l hC (zdk dk_X12_word 15 rfl) (q := 26) rfl ?_
      refine x_bipush (i := 30) c_bipush_30 hC (zdk dk_X12_word 16 rfl) (q := 28) rfl ?_
      refine x_lshl hC (zdk dk_X12_word 17 rfl) (q := 29) rfl ?_
      refine x_iload_n (i := 2) rfl hC (zdk dk_X12_word 18 rfl) (q := 30) rfl ?_
      refine x_i2l hC (zdk dk_X12_word 19 rfl) (q := 31) rfl ?_
      refine x_lor hC (zdk dk_X12_word 20 rfl) (q := 32) rfl ?_
      refine x_callVl (as := [.long ((x1.toInt64 <<< ((30 : Int32).toInt64 &&& 63)) ||| x2.toInt64)]) cb_RX12_449 rfl (by decide) hk0 h_r0 (fun x hx => t_X12_wordOf h_r0 x hx) hC (zdk dk_X12_word 21 rfl) (q := 35) rfl rfl (Nat.le_of_ble_eq_true rfl) (fun z3 => ?_)
      refine x_iload_n (i := 3) rfl hC (zdk dk_X12_word 22 rfl) (q := 36) rfl ?_
      refine x_lshr hC (zdk dk_X12_word 23 rfl) (q := 37) rfl ?_
      refine x_lconst (i := 1) c_lconst_1 hC (zdk dk_X12_word 24 rfl) (q := 38) rfl ?_
      refine x_land hC (zdk dk_X12_word 25 rfl) (q := 39) rfl ?_
      refine x_l2i hC (zdk dk_X12_word 26 rfl) (q := 40) rfl ?_
      refine x_goto (tgt := 44) hC (zdk dk_X12_word 27 rfl) rfl ?_
      refine x_weak (L' := [.null, .null, .null, .null]) ⟨Or.inl rfl, Or.inl rfl, Or.inl rfl, Or.inl rfl, trivial⟩ ?_
      exact x_X12_word_44 hC hE hk0 h_r0 _ _
set_option maxRecDepth 100000 in
set_option maxHeartbeats 4000000 in
theorem t_X12_word {n : Nat} {r0 : Nat} {x1 : Int32} {x2 : Int32} {x3 : Int32} {M : Mem} (h_r0 : zO n r0 12) (x : (Int32 × Mem)) (hx : f_X12_word r0 x1 x2 x3 M = some x) (l : Launch) (dC : Nat → ClassId) (dI : Nat → Nat → Nat) (b : zSg) : MT l dC dI b yX12_word cX12_word 4 (some .int) 2 0 0 n n [.ref r0, .int x1, .int x2, .int x3] M (emI x).1 (emI x).2 :=
  MT.ofX (by decide +kernel) rfl (Nat.le_of_ble_eq_true rfl) (fun κ hC hF _ => x_X12_word hC (zEnd_of hF (Nat.le_refl _) (Nat.le_refl _)) (zRk_of hF (Nat.le_refl _) (Nat.le_refl _)) _ _ _ _ _ h_r0) x hx
set_option maxRecDepth 100000 in
def dt_X12_onesOf : List (Nat × Instr × Nat) := [(0, .iconst 0, 1), (1, .istore_n 2, 1), (2, .lload_n 0, 1), (3, .lstore_n 3, 1), (4, .lload_n 3, 1), (5, .lconst 0, 1), (6, .lcmp, 1), (7, .ifCond .le 17, 3), (10, .iload_n 2, 1), (11, .lload_n 3, 1), (12, .lconst 1, 1), (13, .land, 1), (14, .l2i, 1), (15, .iadd, 1), (16, .istore_n 2, 1), (17, .lload_n 3, 1), (18, .iconst 1, 1), (19, .lshr, 1), (20, .lstore_n 3, 1), (21, .goto (-17), 3), (24, .iload_n 2, 1), (25, .ireturn, 1)]
set_option maxRecDepth 100000 in
theorem dk_X12_onesOf : dt_X12_onesOf.all (fun q => decide (decode cX12_onesOf q.1 = .ok q.2)) = true := by decide +kernel
set_option maxRecDepth 100000 in
def f_X12_onesOf_4  (y0 : Int64) : Nat → Int32 → Int64 → Mem → Option (Int32 × Mem)
  | 0, _, _, _ => none
  | f + 1, x2, y3, M => (if lg_cmp y3 0 ≤ 0 then some (x2, M) else (f_X12_onesOf_4 y0 f) (x2 + ((y3 &&& 1).toInt32)) (y3 >>> ((1 : Int32).toInt64 &&& 63)) M)
set_option maxRecDepth 100000 in
set_option maxHeartbeats 4000000 in
theorem x_X12_onesOf_4 {κ : KX} {n : Nat} (hC : CX κ cX12_onesOf RX12 5 (some .int) 0) (hE : zEnd κ n (0, 0)) (hk0 : zRk κ (0, 0)) {y0 : Int64} : ∀ (f : Nat) (x2 : Int32) (y3 : Int64) (M : Mem), X κ 5 emI n (0, 0) 4 [.null, .null, .int x2, .long y3, .null] [] M (f_X12_onesOf_4 y0 f x2 y3 M) := by
  intro f
  induction f with
  | zero => intros; exact x_none
  | succ f ih =>
    intro x2 y3 M 
    rw [f_X12_onesOf_4]
    refine x_lload_n (i := 3) rfl hC (zdk dk_X12_onesOf 4 rfl) (q := 5) rfl ?_
    refine x_lconst (i := 0) c_lconst_0 hC (zdk dk_X12_onesOf 5 rfl) (q := 6) rfl ?_
    refine x_lcmp hC (zdk dk_X12_onesOf 6 rfl) (q := 7) rfl ?_
    refine x_if_le (tgt := 24) hC (zdk dk_X12_onesOf 7 rfl) (q := 10) rfl rfl (fun _ => ?_) (fun _ => ?_)
    · refine x_iload_n (i := 2) rfl hC (zdk dk_X12_onesOf 20 rfl) (q := 25) rfl ?_
      exact x_iret (ty := .int) rfl hE hC (zdk dk_X12_onesOf 21 rfl)
    · refine x_iload_n (i := 2) rfl hC (zdk dk_X12_onesOf 8 rfl) (q := 11) rfl ?_
      refine x_lload_n (i := 3) rfl hC (zdk dk_X12_onesOf 9 rfl) (q := 12) rfl ?_
      refine x_lconst (i := 1) c_lconst_1 hC (zdk dk_X12_onesOf 10 rfl) (q := 13) rfl ?_
      refine x_land hC (zdk dk_X12_onesOf 11 rfl) (q := 14) rfl ?_
      refine x_l2i hC (zdk dk_X12_onesOf 12 rfl) (q := 15) rfl ?_
      refine x_iadd hC (zdk dk_X12_onesOf 13 rfl) (q := 16) rfl ?_
      refine x_istore_n (i := 2) (L' := [.null, .null, .int (x2 + ((y3 &&& 1).toInt32)), .long y3, .null]) (by decide) rfl hC (zdk dk_X12_onesOf 14 rfl) (q := 17) rfl ?_
      refine x_lload_n (i := 3) rfl hC (zdk dk_X12_onesOf 15 rfl) (q := 18) rfl ?_
      refine x_iconst (i := 1) c_iconst_1 hC (zdk dk_X12_onesOf 16 rfl) (q := 19) rfl ?_
      refine x_lshr hC (zdk dk_X12_onesOf 17 rfl) (q := 20) rfl ?_
      refine x_lstore_n (i := 3) (L' := [.null, .null, .int (x2 + ((y3 &&& 1).toInt32)), .long (y3 >>> ((1 : Int32).toInt64 &&& 63)), .null]) (by decide) rfl hC (zdk dk_X12_onesOf 18 rfl) (q := 21) rfl ?_
      refine x_goto (tgt := 4) hC (zdk dk_X12_onesOf 19 rfl) rfl ?_
      refine x_weak (L' := [.null, .null, .int (x2 + ((y3 &&& 1).toInt32)), .long (y3 >>> ((1 : Int32).toInt64 &&& 63)), .null]) ⟨Or.inl rfl, Or.inl rfl, Or.inr rfl, Or.inr rfl, Or.inl rfl, trivial⟩ ?_
      exact ih _ _ _
set_option maxRecDepth 100000 in
def f_X12_onesOf (y0 : Int64) (M : Mem) : Option (Int32 × Mem) := f_X12_onesOf_4 y0 1000000 0 y0 M
set_option maxRecDepth 100000 in
set_option maxHeartbeats 4000000 in
theorem x_X12_onesOf {κ : KX} {n : Nat} (hC : CX κ cX12_onesOf RX12 5 (some .int) 0) (hE : zEnd κ n (0, 0)) (hk0 : zRk κ (0, 0)) (y0 : Int64) (M : Mem) : X κ 5 emI n (0, 0) 0 [.long y0, .null, .null, .null, .null] [] M (f_X12_onesOf y0 M) := by
  unfold f_X12_onesOf
  refine x_iconst (i := 0) c_iconst_0 hC (zdk dk_X12_onesOf 0 rfl) (q := 1) rfl ?_
  refine x_istore_n (i := 2) (L' := [.long y0, .null, .int 0, .null, .null]) (by decide) rfl hC (zdk dk_X12_onesOf 1 rfl) (q := 2) rfl ?_
  refine x_lload_n (i := 0) rfl hC (zdk dk_X12_onesOf 2 rfl) (q := 3) rfl ?_
  refine x_lstore_n (i := 3) (L' := [.long y0, .null, .int 0, .long y0, .null]) (by decide) rfl hC (zdk dk_X12_onesOf 3 rfl) (q := 4) rfl ?_
  refine x_weak (L' := [.null, .null, .int 0, .long y0, .null]) ⟨Or.inl rfl, Or.inl rfl, Or.inr rfl, Or.inr rfl, Or.inl rfl, trivial⟩ ?_
  exact x_X12_onesOf_4 hC hE hk0 _ _ _ _
set_option maxRecDepth 100000 in
set_option maxHeartbeats 4000000 in
theorem t_X12_onesOf {n : Nat} {y0 : Int64} {M : Mem}  (x : (Int32 × Mem)) (hx : f_X12_onesOf y0 M = some x) (l : Launch) (dC : Nat → ClassId) (dI : Nat → Nat → Nat) (b : zSg) : MT l dC dI b yX12_onesOf cX12_onesOf 5 (some .int) 0 0 0 n n [.long y0] M (emI x).1 (emI x).2 :=
  MT.ofX (by decide +kernel) rfl (Nat.le_of_ble_eq_true rfl) (fun κ hC hF _ => x_X12_onesOf hC (zEnd_of hF (Nat.le_refl _) (Nat.le_refl _)) (zRk_of hF (Nat.le_refl _) (Nat.le_refl _)) _ _ ) x hx
set_option maxRecDepth 100000 in
def dt_X12_weight : List (Nat × Instr × Nat) := [(0, .aload_n 0, 1), (1, .getfield 120, 3), (4, .ifCond .eq 22, 3), (7, .aload_n 0, 1), (8, .getfield 135, 3), (11, .bipush 12, 2), (13, .if_icmp .gt 13, 3), (16, .iload_n 1, 1), (17, .iconst 0, 1), (18, .bipush 63, 2), (20, .invokestatic 325, 3), (23, .ifCond .ne 5, 3), (26, .iconst (-1), 1), (27, .ireturn, 1), (28, .iconst 0, 1), (29, .istore_n 2, 1), (30, .lconst 0, 1), (31, .lstore_n 3, 1), (32, .lload_n 3, 1), (33, .lconst 1, 1), (34, .aload_n 0, 1), (35, .getfield 135, 3), (38, .lshl, 1), (39, .lcmp, 1), (40, .ifCond .ge 30, 3), (43, .iload_n 2, 1), (44, .aload_n 0, 1), (45, .lload_n 3, 1), (46, .invokevirtual 449, 3), (49, .invokestatic 452, 3), (52, .iload_n 1, 1), (53, .if_icmp .ne 7, 3), (56, .iconst 1, 1), (57, .goto 4, 3), (60, .iconst 0, 1), (61, .iadd, 1), (62, .istore_n 2, 1), (63, .lload_n 3, 1), (64, .lconst 1, 1), (65, .ladd, 1), (66, .lstore_n 3, 1), (67, .goto (-35), 3), (70, .iload_n 2, 1), (71, .ireturn, 1)]
set_option maxRecDepth 100000 in
theorem dk_X12_weight : dt_X12_weight.all (fun q => decide (decode cX12_weight q.1 = .ok q.2)) = true := by decide +kernel
set_option maxRecDepth 100000 in
def f_X12_weight_26  (r0 : Nat) (x1 : Int32)  (M : Mem) : Option (Int32 × Mem) := some ((-1), M)
set_option maxRecDepth 100000 in
set_option maxHeartbeats 4000000 in
theorem x_X12_weight_26 {κ : KX} {n : Nat} (hC : CX κ cX12_weight RX12 5 (some .int) 2) (hE : zEnd κ n (0, 0)) (hk0 : zRk κ (0, 0)) {r0 : Nat} {x1 : Int32} (h_r0 : zO n r0 12) (M : Mem) : X κ 5 emI n (0, 0) 26 [.null, .null, .null, .null, .null] [] M (f_X12_weight_26 r0 x1 M) := by
  unfold f_X12_weight_26
  refine x_iconst (i := (-1)) c_iconst_m1 hC (zdk dk_X12_weight 12 rfl) (q := 27) rfl ?_
  exact x_iret (ty := .int) rfl hE hC (zdk dk_X12_weight 13 rfl)
set_option maxRecDepth 100000 in
def f_X12_weight_61 (k32 : Int32 → Int64 → Mem → Option (Int32 × Mem)) (r0 : Nat) (x1 : Int32) (y3 : Int64) (s0 : Int32) (s1 : Int32) (M : Mem) : Option (Int32 × Mem) := k32 (s0 + s1) (y3 + 1) M
set_option maxRecDepth 100000 in
set_option maxHeartbeats 4000000 in
theorem x_X12_weight_61 {κ : KX} {n : Nat} (hC : CX κ cX12_weight RX12 5 (some .int) 2) (hE : zEnd κ n (0, 0)) (hk0 : zRk κ (0, 0)) {r0 : Nat} {x1 : Int32} (h_r0 : zO n r0 12) (k32 : Int32 → Int64 → Mem → Option (Int32 × Mem)) (hk32 : ∀ (x2 : Int32) (y3 : Int64) (M : Mem), X κ 5 emI n (0, 0) 32 [.ref r0, .int x1, .int x2, .long y3, .null] [] M (k32 x2 y3 M)) (y3 : Int64) (s0 : Int32) (s1 : Int32) (M : Mem) : X κ 5 emI n (0, 0) 61 [.ref r0, .int x1, .null, .long y3, .null] [.int s1, .int s0] M (f_X12_weight_61 k32 r0 x1 y3 s0 s1 M) := by
  unfold f_X12_weight_61
  refine x_iadd hC (zdk dk_X12_weight 35 rfl) (q := 62) rfl ?_
  refine x_istore_n (i := 2) (L' := [.ref r0, .int x1, .int (s0 + s1), .long y3, .null]) (by decide) rfl hC (zdk dk_X12_weight 36 rfl) (q := 63) rfl ?_
  refine x_lload_n (i := 3) rfl hC (zdk dk_X12_weight 37 rfl) (q := 64) rfl ?_
  refine x_lconst (i := 1) c_lconst_1 hC (zdk dk_X12_weight 38 rfl) (q := 65) rfl ?_
  refine x_ladd hC (zdk dk_X12_weight 39 rfl) (q := 66) rfl ?_
  refine x_lstore_n (i := 3) (L' := [.ref r0, .int x1, .int (s0 + s1), .long (y3 + 1), .null]) (by decide) rfl hC (zdk dk_X12_weight 40 rfl) (q := 67) rfl ?_
  refine x_goto (tgt := 32) hC (zdk dk_X12_weight 41 rfl) rfl ?_
  refine x_weak (L' := [.ref r0, .int x1, .int (s0 + s1), .long (y3 + 1), .null]) ⟨Or.inr rfl, Or.inr rfl, Or.inr rfl, Or.inr rfl, Or.inl rfl, trivial⟩ ?_
  exact hk32 _ _ _
set_option maxRecDepth 100000 in
def f_X12_weight_32  (r0 : Nat) (x1 : Int32) : Nat → Int32 → Int64 → Mem → Option (Int32 × Mem)
  | 0, _, _, _ => none
  | f + 1, x2, y3, M => (if 0 ≤ lg_cmp y3 ((1 : Int64) <<< ((zI M r0 40).toInt64 &&& 63)) then some (x2, M) else Option.bind (f_X12_wordOf r0 y3 M) fun z1 => Option.bind (f_X12_onesOf z1.1 z1.2) fun z2 => (if z2.1 = x1 then f_X12_weight_61 (f_X12_weight_32 r0 x1 f) r0 x1 y3 x2 1 z2.2 else f_X12_weight_61 (f_X12_weight_32 r0 x1 f) r0 x1 y3 x2 0 z2.2))
set_option maxRecDepth 100000 in
set_option maxHeartbeats 4000000 in
theorem x_X12_weight_32 {κ : KX} {n : Nat} (hC : CX κ cX12_weight RX12 5 (some .int) 2) (hE : zEnd κ n (0, 0)) (hk0 : zRk κ (0, 0)) {r0 : Nat} {x1 : Int32} (h_r0 : zO n r0 12) : ∀ (f : Nat) (x2 : Int32) (y3 : Int64) (M : Mem), X κ 5 emI n (0, 0) 32 [.ref r0, .int x1, .int x2, .long y3, .null] [] M (f_X12_weight_32 r0 x1 f x2 y3 M) := by
  intro f
  induction f with
  | zero => intros; exact x_none
  | succ f ih =>
    intro x2 y3 M 
    rw [f_X12_weight_32]
    refine x_lload_n (i := 3) rfl hC (zdk dk_X12_weight 18 rfl) (q := 33) rfl ?_
    refine x_lconst (i := 1) c_lconst_1 hC (zdk dk_X12_weight 19 rfl) (q := 34) rfl ?_
    refine x_aload_n (i := 0) rfl hC (zdk dk_X12_weight 20 rfl) (q := 35) rfl ?_
    refine x_getI fl_RX12_135 (by decide) h_r0 hC (zdk dk_X12_weight 21 rfl) (q := 38) rfl ?_
    refine x_lshl hC (zdk dk_X12_weight 22 rfl) (q := 39) rfl ?_
    refine x_lcmp hC (zdk dk_X12_weight 23 rfl) (q := 40) rfl ?_
    refine x_if_ge (tgt := 70) hC (zdk dk_X12_weight 24 rfl) (q := 43) rfl rfl (fun _ => ?_) (fun _ => ?_)
    · refine x_iload_n (i := 2) rfl hC (zdk dk_X12_weight 42 rfl) (q := 71) rfl ?_
      exact x_iret (ty := .int) rfl hE hC (zdk dk_X12_weight 43 rfl)
    · refine x_iload_n (i := 2) rfl hC (zdk dk_X12_weight 25 rfl) (q := 44) rfl ?_
      refine x_aload_n (i := 0) rfl hC (zdk dk_X12_weight 26 rfl) (q := 45) rfl ?_
      refine x_lload_n (i := 3) rfl hC (zdk dk_X12_weight 27 rfl) (q := 46) rfl ?_
      refine x_callVl (as := [.long y3]) cb_RX12_449 rfl (by decide) hk0 h_r0 (fun x hx => t_X12_wordOf h_r0 x hx) hC (zdk dk_X12_weight 28 rfl) (q := 49) rfl rfl (Nat.le_of_ble_eq_true rfl) (fun z1 => ?_)
      refine x_callSi (as := [.long z1.1]) cb_RX12_452 rfl (by decide) hk0 (fun x hx => t_X12_onesOf  x hx) hC (zdk dk_X12_weight 29 rfl) (q := 52) rfl rfl (Nat.le_of_ble_eq_true rfl) (fun z2 => ?_)
      refine x_iload_n (i := 1) rfl hC (zdk dk_X12_weight 30 rfl) (q := 53) rfl ?_
      refine x_icmp_ne (tgt := 60) hC (zdk dk_X12_weight 31 rfl) (q := 56) rfl rfl (fun _ => ?_) (fun _ => ?_)
      · refine x_iconst (i := 0) c_iconst_0 hC (zdk dk_X12_weight 34 rfl) (q := 61) rfl ?_
        refine x_weak (L' := [.ref r0, .int x1, .null, .long y3, .null]) ⟨Or.inr rfl, Or.inr rfl, Or.inl rfl, Or.inr rfl, Or.inl rfl, trivial⟩ ?_
        exact x_X12_weight_61 hC hE hk0 h_r0 (f_X12_weight_32 r0 x1 f) ih _ _ _ _
      · refine x_iconst (i := 1) c_iconst_1 hC (zdk dk_X12_weight 32 rfl) (q := 57) rfl ?_
        refine x_goto (tgt := 61) hC (zdk dk_X12_weight 33 rfl) rfl ?_
        refine x_weak (L' := [.ref r0, .int x1, .null, .long y3, .null]) ⟨Or.inr rfl, Or.inr rfl, Or.inl rfl, Or.inr rfl, Or.inl rfl, trivial⟩ ?_
        exact x_X12_weight_61 hC hE hk0 h_r0 (f_X12_weight_32 r0 x1 f) ih _ _ _ _
set_option maxRecDepth 100000 in
def f_X12_weight (r0 : Nat) (x1 : Int32) (M : Mem) : Option (Int32 × Mem) := (if zI M r0 35 = 0 then f_X12_weight_26 r0 x1 M else (if 12 < zI M r0 40 then f_X12_weight_26 r0 x1 M else Option.bind (f_X12_is x1 0 63 M) fun z3 => (if z3.1 = 0 then f_X12_weight_26 r0 x1 z3.2 else f_X12_weight_32 r0 x1 1000000 0 0 z3.2)))
set_option maxRecDepth 100000 in
set_option maxHeartbeats 4000000 in
theorem x_X12_weight {κ : KX} {n : Nat} (hC : CX κ cX12_weight RX12 5 (some .int) 2) (hE : zEnd κ n (0, 0)) (hk0 : zRk κ (0, 0)) (r0 : Nat) (x1 : Int32) (M : Mem) (h_r0 : zO n r0 12) : X κ 5 emI n (0, 0) 0 [.ref r0, .int x1, .null, .null, .null] [] M (f_X12_weight r0 x1 M) := by
  unfold f_X12_weight
  refine x_aload_n (i := 0) rfl hC (zdk dk_X12_weight 0 rfl) (q := 1) rfl ?_
  refine x_getI fl_RX12_120 (by decide) h_r0 hC (zdk dk_X12_weight 1 rfl) (q := 4) rfl ?_
  refine x_if_eq (tgt := 26) hC (zdk dk_X12_weight 2 rfl) (q := 7) rfl rfl (fun _ => ?_) (fun _ => ?_)
  · refine x_weak (L' := [.null, .null, .null, .null, .null]) ⟨Or.inl rfl, Or.inl rfl, Or.inl rfl, Or.inl rfl, Or.inl rfl, trivial⟩ ?_
    exact x_X12_weight_26 hC hE hk0 h_r0 _
  · refine x_aload_n (i := 0) rfl hC (zdk dk_X12_weight 3 rfl) (q := 8) rfl ?_
    refine x_getI fl_RX12_135 (by decide) h_r0 hC (zdk dk_X12_weight 4 rfl) (q := 11) rfl ?_
    refine x_bipush (i := 12) c_bipush_12 hC (zdk dk_X12_weight 5 rfl) (q := 13) rfl ?_
    refine x_icmp_gt (tgt := 26) hC (zdk dk_X12_weight 6 rfl) (q := 16) rfl rfl (fun _ => ?_) (fun _ => ?_)
    · refine x_weak (L' := [.null, .null, .null, .null, .null]) ⟨Or.inl rfl, Or.inl rfl, Or.inl rfl, Or.inl rfl, Or.inl rfl, trivial⟩ ?_
      exact x_X12_weight_26 hC hE hk0 h_r0 _
    · refine x_iload_n (i := 1) rfl hC (zdk dk_X12_weight 7 rfl) (q := 17) rfl ?_
      refine x_iconst (i := 0) c_iconst_0 hC (zdk dk_X12_weight 8 rfl) (q := 18) rfl ?_
      refine x_bipush (i := 63) c_bipush_63 hC (zdk dk_X12_weight 9 rfl) (q := 20) rfl ?_
      refine x_callSi (as := [.int x1, .int 0, .int 63]) cb_RX12_325 rfl (by decide) hk0 (fun x hx => t_X12_is  x hx) hC (zdk dk_X12_weight 10 rfl) (q := 23) rfl rfl (Nat.le_of_ble_eq_true rfl) (fun z3 => ?_)
      refine x_if_ne (tgt := 28) hC (zdk dk_X12_weight 11 rfl) (q := 26) rfl rfl (fun _ => ?_) (fun _ => ?_)
      · refine x_iconst (i := 0) c_iconst_0 hC (zdk dk_X12_weight 14 rfl) (q := 29) rfl ?_
        refine x_istore_n (i := 2) (L' := [.ref r0, .int x1, .int 0, .null, .null]) (by decide) rfl hC (zdk dk_X12_weight 15 rfl) (q := 30) rfl ?_
        refine x_lconst (i := 0) c_lconst_0 hC (zdk dk_X12_weight 16 rfl) (q := 31) rfl ?_
        refine x_lstore_n (i := 3) (L' := [.ref r0, .int x1, .int 0, .long 0, .null]) (by decide) rfl hC (zdk dk_X12_weight 17 rfl) (q := 32) rfl ?_
        refine x_weak (L' := [.ref r0, .int x1, .int 0, .long 0, .null]) ⟨Or.inr rfl, Or.inr rfl, Or.inr rfl, Or.inr rfl, Or.inl rfl, trivial⟩ ?_
        exact x_X12_weight_32 hC hE hk0 h_r0 _ _ _ _
      · refine x_weak (L' := [.null, .null, .null, .null, .null]) ⟨Or.inl rfl, Or.inl rfl, Or.inl rfl, Or.inl rfl, Or.inl rfl, trivial⟩ ?_
        exact x_X12_weight_26 hC hE hk0 h_r0 _
set_option maxRecDepth 100000 in
set_option maxHeartbeats 4000000 in
theorem t_X12_weight {n : Nat} {r0 : Nat} {x1 : Int32} {M : Mem} (h_r0 : zO n r0 12) (x : (Int32 × Mem)) (hx : f_X12_weight r0 x1 M = some x) (l : Launch) (dC : Nat → ClassId) (dI : Nat → Nat → Nat) (b : zSg) : MT l dC dI b yX12_weight cX12_weight 5 (some .int) 2 0 0 n n [.ref r0, .int x1] M (emI x).1 (emI x).2 :=
  MT.ofX (by decide +kernel) rfl (Nat.le_of_ble_eq_true rfl) (fun κ hC hF _ => x_X12_weight hC (zEnd_of hF (Nat.le_refl _) (Nat.le_refl _)) (zRk_of hF (Nat.le_refl _) (Nat.le_refl _)) _ _ _ h_r0) x hx
set_option maxRecDepth 100000 in
def dt_X12_syndromesOf : List (Nat × Instr × Nat) := [(0, .iconst 1, 1), (1, .istore_n 3, 1), (2, .iload_n 3, 1), (3, .iconst 2, 1), (4, .aload_n 0, 1), (5, .iconst 2, 1), (6, .invokevirtual 428, 3), (9, .imul, 1), (10, .if_icmp .gt 68, 3), (13, .iconst 0, 1), (14, .istore 4, 2), (16, .iconst 0, 1), (17, .istore 5, 2), (19, .iload 5, 2), (21, .aload_n 0, 1), (22, .getfield 132, 3), (25, .if_icmp .ge 39, 3), (28, .lload_n 1, 1), (29, .iload 5, 2), (31, .lshr, 1), (32, .lconst 1, 1), (33, .land, 1), (34, .lconst 1, 1), (35, .lcmp, 1), (36, .ifCond .ne 22, 3), (39, .iload 4, 2), (41, .aload_n 0, 1), (42, .getfield 141, 3), (45, .iload_n 3, 1), (46, .iload 5, 2), (48, .imul, 1), (49, .aload_n 0, 1), (50, .getfield 126, 3), (53, .irem, 1), (54, .iaload, 1), (55, .ixor, 1), (56, .istore 4, 2), (58, .iinc 5 1, 3), (61, .goto (-42), 3), (64, .aload_n 0, 1), (65, .getfield 150, 3), (68, .iload_n 3, 1), (69, .iload 4, 2), (71, .iastore, 1), (72, .iinc 3 1, 3), (75, .goto (-73), 3), (78, .return_, 1)]
set_option maxRecDepth 100000 in
theorem dk_X12_syndromesOf : dt_X12_syndromesOf.all (fun q => decide (decode cX12_syndromesOf q.1 = .ok q.2)) = true := by decide +kernel
set_option maxRecDepth 100000 in
def f_X12_syndromesOf_58 (k2 : Int32 → Mem → Option Mem) (k19 : Int32 → Int32 → Int32 → Mem → Option Mem) (r0 : Nat) (y1 : Int64) (x3 : Int32) (x4 : Int32) (x5 : Int32) (M : Mem) : Option Mem := k19 x3 x4 (x5 + 1) M
set_option maxRecDepth 100000 in
set_option maxHeartbeats 4000000 in
theorem x_X12_syndromesOf_58 {κ : KX} {n : Nat} (hC : CX κ cX12_syndromesOf RX12 6 none 1) (hE : zEnd κ n (0, 0)) (hk0 : zRk κ (0, 0)) {r0 : Nat} {y1 : Int64} (h_r0 : zO n r0 12) (k2 : Int32 → Mem → Option Mem) (hk2 : ∀ (x3 : Int32) (M : Mem), X κ 6 emV n (0, 0) 2 [.ref r0, .long y1, .null, .int x3, .null, .null] [] M (k2 x3 M)) (k19 : Int32 → Int32 → Int32 → Mem → Option Mem) (hk19 : ∀ (x3 : Int32) (x4 : Int32) (x5 : Int32) (M : Mem), X κ 6 emV n (0, 0) 19 [.ref r0, .long y1, .null, .int x3, .int x4, .int x5] [] M (k19 x3 x4 x5 M)) (x3 : Int32) (x4 : Int32) (x5 : Int32) (M : Mem) : X κ 6 emV n (0, 0) 58 [.ref r0, .long y1, .null, .int x3, .int x4, .int x5] [] M (f_X12_syndromesOf_58 k2 k19 r0 y1 x3 x4 x5 M) := by
  unfold f_X12_syndromesOf_58
  refine x_iinc (i := 5) c_iconst_1 rfl (by decide) (L' := [.ref r0, .long y1, .null, .int x3, .int x4, .int (x5 + 1)]) rfl hC (zdk dk_X12_syndromesOf 37 rfl) (q := 61) rfl ?_
  refine x_goto (tgt := 19) hC (zdk dk_X12_syndromesOf 38 rfl) rfl ?_
  refine x_weak (L' := [.ref r0, .long y1, .null, .int x3, .int x4, .int (x5 + 1)]) ⟨Or.inr rfl, Or.inr rfl, Or.inl rfl, Or.inr rfl, Or.inr rfl, Or.inr rfl, trivial⟩ ?_
  exact hk19 _ _ _ _
set_option maxRecDepth 100000 in
def f_X12_syndromesOf_19 (k2 : Int32 → Mem → Option Mem) (r0 : Nat) (y1 : Int64) : Nat → Int32 → Int32 → Int32 → Mem → Option Mem
  | 0, _, _, _, _ => none
  | f + 1, x3, x4, x5, M => (if zI M r0 39 ≤ x5 then Option.bind (zrf M r0 45) fun q1 => Option.bind (zld q1 x3) fun k3 => Option.bind (some (zsI M q1 k3 x4)) fun M4 => k2 (x3 + 1) M4 else (if lg_cmp ((y1 >>> (x5.toInt64 &&& 63)) &&& 1) 1 = 0 then Option.bind (zrf M r0 42) fun q5 => if zI M r0 37 = 0 then none else Option.bind (zld q5 (zrem (x3 * x5) (zI M r0 37))) fun k6 => f_X12_syndromesOf_58 k2 (f_X12_syndromesOf_19 k2 r0 y1 f) r0 y1 x3 (x4 ^^^ (zI M q5 k6)) x5 M else f_X12_syndromesOf_58 k2 (f_X12_syndromesOf_19 k2 r0 y1 f) r0 y1 x3 x4 x5 M))
set_option maxRecDepth 100000 in
set_option maxHeartbeats 4000000 in
theorem x_X12_syndromesOf_19 {κ : KX} {n : Nat} (hC : CX κ cX12_syndromesOf RX12 6 none 1) (hE : zEnd κ n (0, 0)) (hk0 : zRk κ (0, 0)) {r0 : Nat} {y1 : Int64} (h_r0 : zO n r0 12) (k2 : Int32 → Mem → Option Mem) (hk2 : ∀ (x3 : Int32) (M : Mem), X κ 6 emV n (0, 0) 2 [.ref r0, .long y1, .null, .int x3, .null, .null] [] M (k2 x3 M)) : ∀ (f : Nat) (x3 : Int32) (x4 : Int32) (x5 : Int32) (M : Mem), X κ 6 emV n (0, 0) 19 [.ref r0, .long y1, .null, .int x3, .int x4, .int x5] [] M (f_X12_syndromesOf_19 k2 r0 y1 f x3 x4 x5 M) := by
  intro f
  induction f with
  | zero => intros; exact x_none
  | succ f ih =>
    intro x3 x4 x5 M 
    rw [f_X12_syndromesOf_19]
    refine x_iload (i := 5) rfl hC (zdk dk_X12_syndromesOf 13 rfl) (q := 21) rfl ?_
    refine x_aload_n (i := 0) rfl hC (zdk dk_X12_syndromesOf 14 rfl) (q := 22) rfl ?_
    refine x_getI fl_RX12_132 (by decide) h_r0 hC (zdk dk_X12_syndromesOf 15 rfl) (q := 25) rfl ?_
    refine x_icmp_ge (tgt := 64) hC (zdk dk_X12_syndromesOf 16 rfl) (q := 28) rfl rfl (fun _ => ?_) (fun _ => ?_)
    · refine x_aload_n (i := 0) rfl hC (zdk dk_X12_syndromesOf 39 rfl) (q := 65) rfl ?_
      refine x_getR (k := 20) fl_RX12_150 rfl h_r0 hC (zdk dk_X12_syndromesOf 40 rfl) (q := 68) rfl (fun q1 hq1 => ?_)
      refine x_iload_n (i := 3) rfl hC (zdk dk_X12_syndromesOf 41 rfl) (q := 69) rfl ?_
      refine x_iload (i := 4) rfl hC (zdk dk_X12_syndromesOf 42 rfl) (q := 71) rfl ?_
      refine x_iast hq1 hC (zdk dk_X12_syndromesOf 43 rfl) (q := 72) rfl (fun k3 _ => ?_)
      refine x_nmM (fun M4 => ?_)
      refine x_iinc (i := 3) c_iconst_1 rfl (by decide) (L' := [.ref r0, .long y1, .null, .int (x3 + 1), .int x4, .int x5]) rfl hC (zdk dk_X12_syndromesOf 44 rfl) (q := 75) rfl ?_
      refine x_goto (tgt := 2) hC (zdk dk_X12_syndromesOf 45 rfl) rfl ?_
      refine x_weak (L' := [.ref r0, .long y1, .null, .int (x3 + 1), .null, .null]) ⟨Or.inr rfl, Or.inr rfl, Or.inl rfl, Or.inr rfl, Or.inl rfl, Or.inl rfl, trivial⟩ ?_
      exact hk2 _ _
    · refine x_lload_n (i := 1) rfl hC (zdk dk_X12_syndromesOf 17 rfl) (q := 29) rfl ?_
      refine x_iload (i := 5) rfl hC (zdk dk_X12_syndromesOf 18 rfl) (q := 31) rfl ?_
      refine x_lshr hC (zdk dk_X12_syndromesOf 19 rfl) (q := 32) rfl ?_
      refine x_lconst (i := 1) c_lconst_1 hC (zdk dk_X12_syndromesOf 20 rfl) (q := 33) rfl ?_
      refine x_land hC (zdk dk_X12_syndromesOf 21 rfl) (q := 34) rfl ?_
      refine x_lconst (i := 1) c_lconst_1 hC (zdk dk_X12_syndromesOf 22 rfl) (q := 35) rfl ?_
      refine x_lcmp hC (zdk dk_X12_syndromesOf 23 rfl) (q := 36) rfl ?_
      refine x_if_ne (tgt := 58) hC (zdk dk_X12_syndromesOf 24 rfl) (q := 39) rfl rfl (fun _ => ?_) (fun _ => ?_)
      · refine x_weak (L' := [.ref r0, .long y1, .null, .int x3, .int x4, .int x5]) ⟨Or.inr rfl, Or.inr rfl, Or.inl rfl, Or.inr rfl, Or.inr rfl, Or.inr rfl, trivial⟩ ?_
        exact x_X12_syndromesOf_58 hC hE hk0 h_r0 k2 hk2 (f_X12_syndromesOf_19 k2 r0 y1 f) ih _ _ _ _
      · refine x_iload (i := 4) rfl hC (zdk dk_X12_syndromesOf 25 rfl) (q := 41) rfl ?_
        refine x_aload_n (i := 0) rfl hC (zdk dk_X12_syndromesOf 26 rfl) (q := 42) rfl ?_
        refine x_getR (k := 20) fl_RX12_141 rfl h_r0 hC (zdk dk_X12_syndromesOf 27 rfl) (q := 45) rfl (fun q5 hq5 => ?_)
        refine x_iload_n (i := 3) rfl hC (zdk dk_X12_syndromesOf 28 rfl) (q := 46) rfl ?_
        refine x_iload (i := 5) rfl hC (zdk dk_X12_syndromesOf 29 rfl) (q := 48) rfl ?_
        refine x_imul hC (zdk dk_X12_syndromesOf 30 rfl) (q := 49) rfl ?_
        refine x_aload_n (i := 0) rfl hC (zdk dk_X12_syndromesOf 31 rfl) (q := 50) rfl ?_
        refine x_getI fl_RX12_126 (by decide) h_r0 hC (zdk dk_X12_syndromesOf 32 rfl) (q := 53) rfl ?_
        refine x_iremG hC (zdk dk_X12_syndromesOf 33 rfl) (q := 54) rfl ?_
        refine x_iald hq5 hC (zdk dk_X12_syndromesOf 34 rfl) (q := 55) rfl (fun k6 _ => ?_)
        refine x_ixor hC (zdk dk_X12_syndromesOf 35 rfl) (q := 56) rfl ?_
        refine x_istore (i := 4) (L' := [.ref r0, .long y1, .null, .int x3, .int (x4 ^^^ (zI M q5 k6)), .int x5]) (by decide) rfl hC (zdk dk_X12_syndromesOf 36 rfl) (q := 58) rfl ?_
        refine x_weak (L' := [.ref r0, .long y1, .null, .int x3, .int (x4 ^^^ (zI M q5 k6)), .int x5]) ⟨Or.inr rfl, Or.inr rfl, Or.inl rfl, Or.inr rfl, Or.inr rfl, Or.inr rfl, trivial⟩ ?_
        exact x_X12_syndromesOf_58 hC hE hk0 h_r0 k2 hk2 (f_X12_syndromesOf_19 k2 r0 y1 f) ih _ _ _ _
set_option maxRecDepth 100000 in
def f_X12_syndromesOf_2  (r0 : Nat) (y1 : Int64) : Nat → Int32 → Mem → Option Mem
  | 0, _, _ => none
  | f + 1, x3, M => Option.bind (f_X12_by r0 2 M) fun z7 => (if 2 * z7.1 < x3 then some z7.2 else f_X12_syndromesOf_19 (f_X12_syndromesOf_2 r0 y1 f) r0 y1 1000000 x3 0 0 z7.2)
set_option maxRecDepth 100000 in
set_option maxHeartbeats 4000000 in
theorem x_X12_syndromesOf_2 {κ : KX} {n : Nat} (hC : CX κ cX12_syndromesOf RX12 6 none 1) (hE : zEnd κ n (0, 0)) (hk0 : zRk κ (0, 0)) {r0 : Nat} {y1 : Int64} (h_r0 : zO n r0 12) : ∀ (f : Nat) (x3 : Int32) (M : Mem), X κ 6 emV n (0, 0) 2 [.ref r0, .long y1, .null, .int x3, .null, .null] [] M (f_X12_syndromesOf_2 r0 y1 f x3 M) := by
  intro f
  induction f with
  | zero => intros; exact x_none
  | succ f ih =>
    intro x3 M 
    rw [f_X12_syndromesOf_2]
    refine x_iload_n (i := 3) rfl hC (zdk dk_X12_syndromesOf 2 rfl) (q := 3) rfl ?_
    refine x_iconst (i := 2) c_iconst_2 hC (zdk dk_X12_syndromesOf 3 rfl) (q := 4) rfl ?_
    refine x_aload_n (i := 0) rfl hC (zdk dk_X12_syndromesOf 4 rfl) (q := 5) rfl ?_
    refine x_iconst (i := 2) c_iconst_2 hC (zdk dk_X12_syndromesOf 5 rfl) (q := 6) rfl ?_
    refine x_callVi (as := [.int 2]) cb_RX12_428 rfl (by decide) hk0 h_r0 (fun x hx => t_X12_by h_r0 x hx) hC (zdk dk_X12_syndromesOf 6 rfl) (q := 9) rfl rfl (Nat.le_of_ble_eq_true rfl) (fun z7 => ?_)
    refine x_imul hC (zdk dk_X12_syndromesOf 7 rfl) (q := 10) rfl ?_
    refine x_icmp_gt (tgt := 78) hC (zdk dk_X12_syndromesOf 8 rfl) (q := 13) rfl rfl (fun _ => ?_) (fun _ => ?_)
    · exact x_vret hE hC (zdk dk_X12_syndromesOf 46 rfl)
    · refine x_iconst (i := 0) c_iconst_0 hC (zdk dk_X12_syndromesOf 9 rfl) (q := 14) rfl ?_
      refine x_istore (i := 4) (L' := [.ref r0, .long y1, .null, .int x3, .int 0, .null]) (by decide) rfl hC (zdk dk_X12_syndromesOf 10 rfl) (q := 16) rfl ?_
      refine x_iconst (i := 0) c_iconst_0 hC (zdk dk_X12_syndromesOf 11 rfl) (q := 17) rfl ?_
      refine x_istore (i := 5) (L' := [.ref r0, .long y1, .null, .int x3, .int 0, .int 0]) (by decide) rfl hC (zdk dk_X12_syndromesOf 12 rfl) (q := 19) rfl ?_
      refine x_weak (L' := [.ref r0, .long y1, .null, .int x3, .int 0, .int 0]) ⟨Or.inr rfl, Or.inr rfl, Or.inl rfl, Or.inr rfl, Or.inr rfl, Or.inr rfl, trivial⟩ ?_
      exact x_X12_syndromesOf_19 hC hE hk0 h_r0 (f_X12_syndromesOf_2 r0 y1 f) ih _ _ _ _ _
set_option maxRecDepth 100000 in
def f_X12_syndromesOf (r0 : Nat) (y1 : Int64) (M : Mem) : Option Mem := f_X12_syndromesOf_2 r0 y1 1000000 1 M
set_option maxRecDepth 100000 in
set_option maxHeartbeats 4000000 in
theorem x_X12_syndromesOf {κ : KX} {n : Nat} (hC : CX κ cX12_syndromesOf RX12 6 none 1) (hE : zEnd κ n (0, 0)) (hk0 : zRk κ (0, 0)) (r0 : Nat) (y1 : Int64) (M : Mem) (h_r0 : zO n r0 12) : X κ 6 emV n (0, 0) 0 [.ref r0, .long y1, .null, .null, .null, .null] [] M (f_X12_syndromesOf r0 y1 M) := by
  unfold f_X12_syndromesOf
  refine x_iconst (i := 1) c_iconst_1 hC (zdk dk_X12_syndromesOf 0 rfl) (q := 1) rfl ?_
  refine x_istore_n (i := 3) (L' := [.ref r0, .long y1, .null, .int 1, .null, .null]) (by decide) rfl hC (zdk dk_X12_syndromesOf 1 rfl) (q := 2) rfl ?_
  refine x_weak (L' := [.ref r0, .long y1, .null, .int 1, .null, .null]) ⟨Or.inr rfl, Or.inr rfl, Or.inl rfl, Or.inr rfl, Or.inl rfl, Or.inl rfl, trivial⟩ ?_
  exact x_X12_syndromesOf_2 hC hE hk0 h_r0 _ _ _
set_option maxRecDepth 100000 in
set_option maxHeartbeats 4000000 in
theorem t_X12_syndromesOf {n : Nat} {r0 : Nat} {y1 : Int64} {M : Mem} (h_r0 : zO n r0 12) (x : Mem) (hx : f_X12_syndromesOf r0 y1 M = some x) (l : Launch) (dC : Nat → ClassId) (dI : Nat → Nat → Nat) (b : zSg) : MT l dC dI b yX12_syndromesOf cX12_syndromesOf 6 none 1 0 0 n n [.ref r0, .long y1] M (emV x).1 (emV x).2 :=
  MT.ofX (by decide +kernel) rfl (Nat.le_of_ble_eq_true rfl) (fun κ hC hF _ => x_X12_syndromesOf hC (zEnd_of hF (Nat.le_refl _) (Nat.le_refl _)) (zRk_of hF (Nat.le_refl _) (Nat.le_refl _)) _ _ _ h_r0) x hx
set_option maxRecDepth 100000 in
def dt_X12_missing : List (Nat × Instr × Nat) := [(0, .aload_n 0, 1), (1, .getfield 150, 3), (4, .iload_n 1, 1), (5, .iaload, 1), (6, .istore_n 2, 1), (7, .iconst 1, 1), (8, .istore_n 3, 1), (9, .iload_n 3, 1), (10, .aload_n 0, 1), (11, .getfield 162, 3), (14, .if_icmp .gt 30, 3), (17, .iload_n 2, 1), (18, .aload_n 0, 1), (19, .aload_n 0, 1), (20, .getfield 153, 3), (23, .iload_n 3, 1), (24, .iaload, 1), (25, .aload_n 0, 1), (26, .getfield 150, 3), (29, .iload_n 1, 1), (30, .iload_n 3, 1), (31, .isub, 1), (32, .iaload, 1), (33, .invokevirtual 425, 3), (36, .ixor, 1), (37, .istore_n 2, 1), (38, .iinc 3 1, 3), (41, .goto (-32), 3), (44, .iload_n 2, 1), (45, .ireturn, 1)]
set_option maxRecDepth 100000 in
theorem dk_X12_missing : dt_X12_missing.all (fun q => decide (decode cX12_missing q.1 = .ok q.2)) = true := by decide +kernel
set_option maxRecDepth 100000 in
def f_X12_missing_9  (r0 : Nat) (x1 : Int32) : Nat → Int32 → Int32 → Mem → Option (Int32 × Mem)
  | 0, _, _, _ => none
  | f + 1, x2, x3, M => (if zI M r0 49 < x3 then some (x2, M) else Option.bind (zrf M r0 46) fun q1 => Option.bind (zld q1 x3) fun k2 => Option.bind (zrf M r0 45) fun q3 => Option.bind (zld q3 (x1 - x3)) fun k4 => Option.bind (f_X12_times r0 (zI M q1 k2) (zI M q3 k4) M) fun z5 => (f_X12_missing_9 r0 x1 f) (x2 ^^^ z5.1) (x3 + 1) z5.2)
set_option maxRecDepth 100000 in
set_option maxHeartbeats 4000000 in
theorem x_X12_missing_9 {κ : KX} {n : Nat} (hC : CX κ cX12_missing RX12 4 (some .int) 1) (hE : zEnd κ n (0, 0)) (hk0 : zRk κ (0, 0)) {r0 : Nat} {x1 : Int32} (h_r0 : zO n r0 12) : ∀ (f : Nat) (x2 : Int32) (x3 : Int32) (M : Mem), X κ 4 emI n (0, 0) 9 [.ref r0, .int x1, .int x2, .int x3] [] M (f_X12_missing_9 r0 x1 f x2 x3 M) := by
  intro f
  induction f with
  | zero => intros; exact x_none
  | succ f ih =>
    intro x2 x3 M 
    rw [f_X12_missing_9]
    refine x_iload_n (i := 3) rfl hC (zdk dk_X12_missing 7 rfl) (q := 10) rfl ?_
    refine x_aload_n (i := 0) rfl hC (zdk dk_X12_missing 8 rfl) (q := 11) rfl ?_
    refine x_getI fl_RX12_162 (by decide) h_r0 hC (zdk dk_X12_missing 9 rfl) (q := 14) rfl ?_
    refine x_icmp_gt (tgt := 44) hC (zdk dk_X12_missing 10 rfl) (q := 17) rfl rfl (fun _ => ?_) (fun _ => ?_)
    · refine x_iload_n (i := 2) rfl hC (zdk dk_X12_missing 28 rfl) (q := 45) rfl ?_
      exact x_iret (ty := .int) rfl hE hC (zdk dk_X12_missing 29 rfl)
    · refine x_iload_n (i := 2) rfl hC (zdk dk_X12_missing 11 rfl) (q := 18) rfl ?_
      refine x_aload_n (i := 0) rfl hC (zdk dk_X12_missing 12 rfl) (q := 19) rfl ?_
      refine x_aload_n (i := 0) rfl hC (zdk dk_X12_missing 13 rfl) (q := 20) rfl ?_
      refine x_getR (k := 20) fl_RX12_153 rfl h_r0 hC (zdk dk_X12_missing 14 rfl) (q := 23) rfl (fun q1 hq1 => ?_)
      refine x_iload_n (i := 3) rfl hC (zdk dk_X12_missing 15 rfl) (q := 24) rfl ?_
      refine x_iald hq1 hC (zdk dk_X12_missing 16 rfl) (q := 25) rfl (fun k2 _ => ?_)
      refine x_aload_n (i := 0) rfl hC (zdk dk_X12_missing 17 rfl) (q := 26) rfl ?_
      refine x_getR (k := 20) fl_RX12_150 rfl h_r0 hC (zdk dk_X12_missing 18 rfl) (q := 29) rfl (fun q3 hq3 => ?_)
      refine x_iload_n (i := 1) rfl hC (zdk dk_X12_missing 19 rfl) (q := 30) rfl ?_
      refine x_iload_n (i := 3) rfl hC (zdk dk_X12_missing 20 rfl) (q := 31) rfl ?_
      refine x_isub hC (zdk dk_X12_missing 21 rfl) (q := 32) rfl ?_
      refine x_iald hq3 hC (zdk dk_X12_missing 22 rfl) (q := 33) rfl (fun k4 _ => ?_)
      refine x_callVi (as := [.int (zI M q1 k2), .int (zI M q3 k4)]) cb_RX12_425 rfl (by decide) hk0 h_r0 (fun x hx => t_X12_times h_r0 x hx) hC (zdk dk_X12_missing 23 rfl) (q := 36) rfl rfl (Nat.le_of_ble_eq_true rfl) (fun z5 => ?_)
      refine x_ixor hC (zdk dk_X12_missing 24 rfl) (q := 37) rfl ?_
      refine x_istore_n (i := 2) (L' := [.ref r0, .int x1, .int (x2 ^^^ z5.1), .int x3]) (by decide) rfl hC (zdk dk_X12_missing 25 rfl) (q := 38) rfl ?_
      refine x_iinc (i := 3) c_iconst_1 rfl (by decide) (L' := [.ref r0, .int x1, .int (x2 ^^^ z5.1), .int (x3 + 1)]) rfl hC (zdk dk_X12_missing 26 rfl) (q := 41) rfl ?_
      refine x_goto (tgt := 9) hC (zdk dk_X12_missing 27 rfl) rfl ?_
      refine x_weak (L' := [.ref r0, .int x1, .int (x2 ^^^ z5.1), .int (x3 + 1)]) ⟨Or.inr rfl, Or.inr rfl, Or.inr rfl, Or.inr rfl, trivial⟩ ?_
      exact ih _ _ _
set_option maxRecDepth 100000 in
def f_X12_missing (r0 : Nat) (x1 : Int32) (M : Mem) : Option (Int32 × Mem) := Option.bind (zrf M r0 45) fun q6 => Option.bind (zld q6 x1) fun k7 => f_X12_missing_9 r0 x1 1000000 (zI M q6 k7) 1 M
set_option maxRecDepth 100000 in
set_option maxHeartbeats 4000000 in
theorem x_X12_missing {κ : KX} {n : Nat} (hC : CX κ cX12_missing RX12 4 (some .int) 1) (hE : zEnd κ n (0, 0)) (hk0 : zRk κ (0, 0)) (r0 : Nat) (x1 : Int32) (M : Mem) (h_r0 : zO n r0 12) : X κ 4 emI n (0, 0) 0 [.ref r0, .int x1, .null, .null] [] M (f_X12_missing r0 x1 M) := by
  unfold f_X12_missing
  refine x_aload_n (i := 0) rfl hC (zdk dk_X12_missing 0 rfl) (q := 1) rfl ?_
  refine x_getR (k := 20) fl_RX12_150 rfl h_r0 hC (zdk dk_X12_missing 1 rfl) (q := 4) rfl (fun q6 hq6 => ?_)
  refine x_iload_n (i := 1) rfl hC (zdk dk_X12_missing 2 rfl) (q := 5) rfl ?_
  refine x_iald hq6 hC (zdk dk_X12_missing 3 rfl) (q := 6) rfl (fun k7 _ => ?_)
  refine x_istore_n (i := 2) (L' := [.ref r0, .int x1, .int (zI M q6 k7), .null]) (by decide) rfl hC (zdk dk_X12_missing 4 rfl) (q := 7) rfl ?_
  refine x_iconst (i := 1) c_iconst_1 hC (zdk dk_X12_missing 5 rfl) (q := 8) rfl ?_
  refine x_istore_n (i := 3) (L' := [.ref r0, .int x1, .int (zI M q6 k7), .int 1]) (by decide) rfl hC (zdk dk_X12_missing 6 rfl) (q := 9) rfl ?_
  refine x_weak (L' := [.ref r0, .int x1, .int (zI M q6 k7), .int 1]) ⟨Or.inr rfl, Or.inr rfl, Or.inr rfl, Or.inr rfl, trivial⟩ ?_
  exact x_X12_missing_9 hC hE hk0 h_r0 _ _ _ _
set_option maxRecDepth 100000 in
set_option maxHeartbeats 4000000 in
theorem t_X12_missing {n : Nat} {r0 : Nat} {x1 : Int32} {M : Mem} (h_r0 : zO n r0 12) (x : (Int32 × Mem)) (hx : f_X12_missing r0 x1 M = some x) (l : Launch) (dC : Nat → ClassId) (dI : Nat → Nat → Nat) (b : zSg) : MT l dC dI b yX12_missing cX12_missing 4 (some .int) 1 0 0 n n [.ref r0, .int x1] M (emI x).1 (emI x).2 :=
  MT.ofX (by decide +kernel) rfl (Nat.le_of_ble_eq_true rfl) (fun κ hC hF _ => x_X12_missing hC (zEnd_of hF (Nat.le_refl _) (Nat.le_refl _)) (zRk_of hF (Nat.le_refl _) (Nat.le_refl _)) _ _ _ h_r0) x hx
