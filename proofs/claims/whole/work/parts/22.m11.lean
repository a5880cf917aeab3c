set_option maxRecDepth 100000 in
def dt_X12_pageIs : List (Nat × Instr × Nat) := [(0, .aload_n 0, 1), (1, .aload_n 0, 1), (2, .getfield 57, 3), (5, .aload_n 0, 1), (6, .getfield 79, 3), (9, .iaload, 1), (10, .bipush 6, 2), (12, .if_icmp .ne 7, 3), (15, .iconst 1, 1), (16, .goto 4, 3), (19, .iconst 0, 1), (20, .invokevirtual 382, 3), (23, .ifCond .ne 4, 3), (26, .return_, 1), (27, .aload_n 0, 1), (28, .invokevirtual 262, 3), (31, .aload_n 0, 1), (32, .getfield 36, 3), (35, .ifCond .le 4, 3), (38, .return_, 1), (39, .aload_n 0, 1), (40, .getfield 20, 3), (43, .iconst 1, 1), (44, .if_icmp .ne 14, 3), (47, .aload_n 0, 1), (48, .aload_n 0, 1), (49, .getfield 32, 3), (52, .invokevirtual 386, 3), (55, .ifCond .eq 12, 3), (58, .aload_n 0, 1), (59, .iconst 1, 1), (60, .aload_n 0, 1), (61, .getfield 23, 3), (64, .invokevirtual 251, 3), (67, .aload_n 0, 1), (68, .getfield 36, 3), (71, .ifCond .ne 24, 3), (74, .aload_n 0, 1), (75, .aload_n 0, 1), (76, .getfield 32, 3), (79, .invokevirtual 389, 3), (82, .iconst (-1), 1), (83, .if_icmp .eq 12, 3), (86, .aload_n 0, 1), (87, .iconst 2, 1), (88, .aload_n 0, 1), (89, .getfield 23, 3), (92, .invokevirtual 251, 3), (95, .aload_n 0, 1), (96, .getfield 36, 3), (99, .ifCond .le 4, 3), (102, .return_, 1), (103, .aload_n 0, 1), (104, .getfield 72, 3), (107, .bipush 6, 2), (109, .aload_n 0, 1), (110, .getfield 79, 3), (113, .imul, 1), (114, .aload_n 0, 1), (115, .getfield 57, 3), (118, .aload_n 0, 1), (119, .getfield 79, 3), (122, .iaload, 1), (123, .iadd, 1), (124, .aload_n 0, 1), (125, .getfield 32, 3), (128, .lastore, 1), (129, .aload_n 0, 1), (130, .invokevirtual 268, 3), (133, .aload_n 0, 1), (134, .getfield 57, 3), (137, .aload_n 0, 1), (138, .getfield 79, 3), (141, .dup2, 1), (142, .iaload, 1), (143, .iconst 1, 1), (144, .iadd, 1), (145, .iastore, 1), (146, .return_, 1)]
set_option maxRecDepth 100000 in
theorem dk_X12_pageIs : dt_X12_pageIs.all (fun q => decide (decode cX12_pageIs q.1 = .ok q.2)) = true := by decide +kernel
set_option maxRecDepth 100000 in
def f_X12_pageIs_95  (r0 : Nat)  (M : Mem) : Option Mem := (if zI M r0 8 ≤ 0 then Option.bind (zrf M r0 20) fun q1 => Option.bind (zrf M r0 15) fun q2 => Option.bind (zld q2 (zI M r0 22)) fun k3 => Option.bind (zld q1 ((6 * (zI M r0 22)) + (zI M q2 k3))) fun k4 => Option.bind (some (zsL M q1 k4 (zL M r0 7))) fun M5 => Option.bind (f_X12_ahead r0 M5) fun M6 => Option.bind (zrf M6 r0 15) fun q7 => Option.bind (zld q7 (zI M6 r0 22)) fun k8 => Option.bind (zld q7 (zI M6 r0 22)) fun k9 => Option.bind (some (zsI M6 q7 k9 ((zI M6 q7 k8) + 1))) fun M10 => some M10 else some M)
set_option maxRecDepth 100000 in
set_option maxHeartbeats 4000000 in
theorem x_X12_pageIs_95 {κ : KX} {n : Nat} (hC : CX κ cX12_pageIs RX12 1 none 3) (hE : zEnd κ n (0, 0)) (hk0 : zRk κ (0, 0)) {r0 : Nat} (h_r0 : zO n r0 12) (M : Mem) : X κ 1 emV n (0, 0) 95 [.ref r0] [] M (f_X12_pageIs_95 r0 M) := by
  unfold f_X12_pageIs_95
  refine x_aload_n (i := 0) rfl hC (zdk dk_X12_pageIs 48 rfl) (q := 96) rfl ?_
  refine x_getI fl_RX12_36 (by decide) h_r0 hC (zdk dk_X12_pageIs 49 rfl) (q := 99) rfl ?_
  refine x_if_le (tgt := 103) hC (zdk dk_X12_pageIs 50 rfl) (q := 102) rfl rfl (fun _ => ?_) (fun _ => ?_)
  · refine x_aload_n (i := 0) rfl hC (zdk dk_X12_pageIs 52 rfl) (q := 104) rfl ?_
    refine x_getR (k := 21) fl_RX12_72 rfl h_r0 hC (zdk dk_X12_pageIs 53 rfl) (q := 107) rfl (fun q1 hq1 => ?_)
    refine x_bipush (i := 6) c_bipush_6 hC (zdk dk_X12_pageIs 54 rfl) (q := 109) rfl ?_
    refine x_aload_n (i := 0) rfl hC (zdk dk_X12_pageIs 55 rfl) (q := 110) rfl ?_
    refine x_getI fl_RX12_79 (by decide) h_r0 hC (zdk dk_X12_pageIs 56 rfl) (q := 113) rfl ?_
    refine x_imul hC (zdk dk_X12_pageIs 57 rfl) (q := 114) rfl ?_
    refine x_aload_n (i := 0) rfl hC (zdk dk_X12_pageIs 58 rfl) (q := 115) rfl ?_
    refine x_getR (k := 20) fl_RX12_57 rfl h_r0 hC (zdk dk_X12_pageIs 59 rfl) (q := 118) rfl (fun q2 hq2 => ?_)
    refine x_aload_n (i := 0) rfl hC (zdk dk_X12_pageIs 60 rfl) (q := 119) rfl ?_
    refine x_getI fl_RX12_79 (by decide) h_r0 hC (zdk dk_X12_pageIs 61 rfl) (q := 122) rfl ?_
    refine x_iald hq2 hC (zdk dk_X12_pageIs 62 rfl) (q := 123) rfl (fun k3 _ => ?_)
    refine x_iadd hC (zdk dk_X12_pageIs 63 rfl) (q := 124) rfl ?_
    refine x_aload_n (i := 0) rfl hC (zdk dk_X12_pageIs 64 rfl) (q := 125) rfl ?_
    refine x_getL fl_RX12_32 h_r0 hC (zdk dk_X12_pageIs 65 rfl) (q := 128) rfl ?_
    refine x_last hq1 hC (zdk dk_X12_pageIs 66 rfl) (q := 129) rfl (fun k4 _ => ?_)
    refine x_nmM (fun M5 => ?_)
    refine x_aload_n (i := 0) rfl hC (zdk dk_X12_pageIs 67 rfl) (q := 130) rfl ?_
    refine x_callVv (as := []) cb_RX12_268 rfl (by decide) hk0 h_r0 (fun x hx => t_X12_ahead h_r0 x hx) hC (zdk dk_X12_pageIs 68 rfl) (q := 133) rfl rfl (Nat.le_of_ble_eq_true rfl) (fun M6 => ?_)
    refine x_aload_n (i := 0) rfl hC (zdk dk_X12_pageIs 69 rfl) (q := 134) rfl ?_
    refine x_getR (k := 20) fl_RX12_57 rfl h_r0 hC (zdk dk_X12_pageIs 70 rfl) (q := 137) rfl (fun q7 hq7 => ?_)
    refine x_aload_n (i := 0) rfl hC (zdk dk_X12_pageIs 71 rfl) (q := 138) rfl ?_
    refine x_getI fl_RX12_79 (by decide) h_r0 hC (zdk dk_X12_pageIs 72 rfl) (q := 141) rfl ?_
    refine x_dup2 rfl rfl hC (zdk dk_X12_pageIs 73 rfl) (q := 142) rfl ?_
    refine x_iald hq7 hC (zdk dk_X12_pageIs 74 rfl) (q := 143) rfl (fun k8 _ => ?_)
    refine x_iconst (i := 1) c_iconst_1 hC (zdk dk_X12_pageIs 75 rfl) (q := 144) rfl ?_
    refine x_iadd hC (zdk dk_X12_pageIs 76 rfl) (q := 145) rfl ?_
    refine x_iast hq7 hC (zdk dk_X12_pageIs 77 rfl) (q := 146) rfl (fun k9 _ => ?_)
    refine x_nmM (fun M10 => ?_)
    exact x_vret hE hC (zdk dk_X12_pageIs 78 rfl)
  · exact x_vret hE hC (zdk dk_X12_pageIs 51 rfl)
set_option maxRecDepth 100000 in
def f_X12_pageIs_67  (r0 : Nat)  (M : Mem) : Option Mem := (if zI M r0 8 = 0 then Option.bind (f_X12_pageNamed r0 (zL M r0 7) M) fun z11 => (if z11.1 = (-1) then f_X12_pageIs_95 r0 z11.2 else Option.bind (f_X12_blame r0 2 (zI z11.2 r0 4) z11.2) fun M12 => f_X12_pageIs_95 r0 M12) else f_X12_pageIs_95 r0 M)
set_option maxRecDepth 100000 in
set_option maxHeartbeats 4000000 in
theorem x_X12_pageIs_67 {κ : KX} {n : Nat} (hC : CX κ cX12_pageIs RX12 1 none 3) (hE : zEnd κ n (0, 0)) (hk0 : zRk κ (0, 0)) {r0 : Nat} (h_r0 : zO n r0 12) (M : Mem) : X κ 1 emV n (0, 0) 67 [.ref r0] [] M (f_X12_pageIs_67 r0 M) := by
  unfold f_X12_pageIs_67
  refine x_aload_n (i := 0) rfl hC (zdk dk_X12_pageIs 34 rfl) (q := 68) rfl ?_
  refine x_getI fl_RX12_36 (by decide) h_r0 hC (zdk dk_X12_pageIs 35 rfl) (q := 71) rfl ?_
  refine x_if_ne (tgt := 95) hC (zdk dk_X12_pageIs 36 rfl) (q := 74) rfl rfl (fun _ => ?_) (fun _ => ?_)
  · refine x_weak (L' := [.ref r0]) ⟨Or.inr rfl, trivial⟩ ?_
    exact x_X12_pageIs_95 hC hE hk0 h_r0 _
  · refine x_aload_n (i := 0) rfl hC (zdk dk_X12_pageIs 37 rfl) (q := 75) rfl ?_
    refine x_aload_n (i := 0) rfl hC (zdk dk_X12_pageIs 38 rfl) (q := 76) rfl ?_
    refine x_getL fl_RX12_32 h_r0 hC (zdk dk_X12_pageIs 39 rfl) (q := 79) rfl ?_
    refine x_callVi (as := [.long (zL M r0 7)]) cb_RX12_389 rfl (by decide) hk0 h_r0 (fun x hx => t_X12_pageNamed h_r0 x hx) hC (zdk dk_X12_pageIs 40 rfl) (q := 82) rfl rfl (Nat.le_of_ble_eq_true rfl) (fun z11 => ?_)
    refine x_iconst (i := (-1)) c_iconst_m1 hC (zdk dk_X12_pageIs 41 rfl) (q := 83) rfl ?_
    refine x_icmp_eq (tgt := 95) hC (zdk dk_X12_pageIs 42 rfl) (q := 86) rfl rfl (fun _ => ?_) (fun _ => ?_)
    · refine x_weak (L' := [.ref r0]) ⟨Or.inr rfl, trivial⟩ ?_
      exact x_X12_pageIs_95 hC hE hk0 h_r0 _
    · refine x_aload_n (i := 0) rfl hC (zdk dk_X12_pageIs 43 rfl) (q := 87) rfl ?_
      refine x_iconst (i := 2) c_iconst_2 hC (zdk dk_X12_pageIs 44 rfl) (q := 88) rfl ?_
      refine x_aload_n (i := 0) rfl hC (zdk dk_X12_pageIs 45 rfl) (q := 89) rfl ?_
      refine x_getI fl_RX12_23 (by decide) h_r0 hC (zdk dk_X12_pageIs 46 rfl) (q := 92) rfl ?_
      refine x_callVv (as := [.int 2, .int (zI z11.2 r0 4)]) cb_RX12_251 rfl (by decide) hk0 h_r0 (fun x hx => t_X12_blame h_r0 x hx) hC (zdk dk_X12_pageIs 47 rfl) (q := 95) rfl rfl (Nat.le_of_ble_eq_true rfl) (fun M12 => ?_)
      refine x_weak (L' := [.ref r0]) ⟨Or.inr rfl, trivial⟩ ?_
      exact x_X12_pageIs_95 hC hE hk0 h_r0 _
set_option maxRecDepth 100000 in
def f_X12_pageIs_58  (r0 : Nat)  (M : Mem) : Option Mem := Option.bind (f_X12_blame r0 1 (zI M r0 4) M) fun M13 => f_X12_pageIs_67 r0 M13
set_option maxRecDepth 100000 in
set_option maxHeartbeats 4000000 in
theorem x_X12_pageIs_58 {κ : KX} {n : Nat} (hC : CX κ cX12_pageIs RX12 1 none 3) (hE : zEnd κ n (0, 0)) (hk0 : zRk κ (0, 0)) {r0 : Nat} (h_r0 : zO n r0 12) (M : Mem) : X κ 1 emV n (0, 0) 58 [.ref r0] [] M (f_X12_pageIs_58 r0 M) := by
  unfold f_X12_pageIs_58
  refine x_aload_n (i := 0) rfl hC (zdk dk_X12_pageIs 29 rfl) (q := 59) rfl ?_
  refine x_iconst (i := 1) c_iconst_1 hC (zdk dk_X12_pageIs 30 rfl) (q := 60) rfl ?_
  refine x_aload_n (i := 0) rfl hC (zdk dk_X12_pageIs 31 rfl) (q := 61) rfl ?_
  refine x_getI fl_RX12_23 (by decide) h_r0 hC (zdk dk_X12_pageIs 32 rfl) (q := 64) rfl ?_
  refine x_callVv (as := [.int 1, .int (zI M r0 4)]) cb_RX12_251 rfl (by decide) hk0 h_r0 (fun x hx => t_X12_blame h_r0 x hx) hC (zdk dk_X12_pageIs 33 rfl) (q := 67) rfl rfl (Nat.le_of_ble_eq_true rfl) (fun M13 => ?_)
  refine x_weak (L' := [.ref r0]) ⟨Or.inr rfl, trivial⟩ ?_
  exact x_X12_pageIs_67 hC hE hk0 h_r0 _
set_option maxRecDepth 100000 in
def f_X12_pageIs_20  (r0 : Nat) (s0 : Nat) (s1 : Int32) (M : Mem) : Option Mem := Option.bind (f_X12_isCounted s0 s1 M) fun z14 => (if z14.1 = 0 then some z14.2 else Option.bind (f_X12_lex r0 z14.2) fun M15 => (if zI M15 r0 8 ≤ 0 then (if zI M15 r0 3 = 1 then Option.bind (f_X12_isOwn r0 (zL M15 r0 7) M15) fun z16 => (if z16.1 = 0 then f_X12_pageIs_67 r0 z16.2 else f_X12_pageIs_58 r0 z16.2) else f_X12_pageIs_58 r0 M15) else some M15))
set_option maxRecDepth 100000 in
set_option maxHeartbeats 4000000 in
theorem x_X12_pageIs_20 {κ : KX} {n : Nat} (hC : CX κ cX12_pageIs RX12 1 none 3) (hE : zEnd κ n (0, 0)) (hk0 : zRk κ (0, 0)) {r0 : Nat} (h_r0 : zO n r0 12) (s0 : Nat) (s1 : Int32) (M : Mem) (h_s0 : zO n s0 12) : X κ 1 emV n (0, 0) 20 [.ref r0] [.int s1, .ref s0] M (f_X12_pageIs_20 r0 s0 s1 M) := by
  unfold f_X12_pageIs_20
  refine x_callVi (as := [.int s1]) cb_RX12_382 rfl (by decide) hk0 h_s0 (fun x hx => t_X12_isCounted h_s0 x hx) hC (zdk dk_X12_pageIs 11 rfl) (q := 23) rfl rfl (Nat.le_of_ble_eq_true rfl) (fun z14 => ?_)
  refine x_if_ne (tgt := 27) hC (zdk dk_X12_pageIs 12 rfl) (q := 26) rfl rfl (fun _ => ?_) (fun _ => ?_)
  · refine x_aload_n (i := 0) rfl hC (zdk dk_X12_pageIs 14 rfl) (q := 28) rfl ?_
    refine x_callVv (as := []) cb_RX12_262 rfl (by decide) hk0 h_r0 (fun x hx => t_X12_lex h_r0 x hx) hC (zdk dk_X12_pageIs 15 rfl) (q := 31) rfl rfl (Nat.le_of_ble_eq_true rfl) (fun M15 => ?_)
    refine x_aload_n (i := 0) rfl hC (zdk dk_X12_pageIs 16 rfl) (q := 32) rfl ?_
    refine x_getI fl_RX12_36 (by decide) h_r0 hC (zdk dk_X12_pageIs 17 rfl) (q := 35) rfl ?_
    refine x_if_le (tgt := 39) hC (zdk dk_X12_pageIs 18 rfl) (q := 38) rfl rfl (fun _ => ?_) (fun _ => ?_)
    · refine x_aload_n (i := 0) rfl hC (zdk dk_X12_pageIs 20 rfl) (q := 40) rfl ?_
      refine x_getI fl_RX12_20 (by decide) h_r0 hC (zdk dk_X12_pageIs 21 rfl) (q := 43) rfl ?_
      refine x_iconst (i := 1) c_iconst_1 hC (zdk dk_X12_pageIs 22 rfl) (q := 44) rfl ?_
      refine x_icmp_ne (tgt := 58) hC (zdk dk_X12_pageIs 23 rfl) (q := 47) rfl rfl (fun _ => ?_) (fun _ => ?_)
      · refine x_weak (L' := [.ref r0]) ⟨Or.inr rfl, trivial⟩ ?_
        exact x_X12_pageIs_58 hC hE hk0 h_r0 _
      · refine x_aload_n (i := 0) rfl hC (zdk dk_X12_pageIs 24 rfl) (q := 48) rfl ?_
        refine x_aload_n (i := 0) rfl hC (zdk dk_X12_pageIs 25 rfl) (q := 49) rfl ?_
        refine x_getL fl_RX12_32 h_r0 hC (zdk dk_X12_pageIs 26 rfl) (q := 52) rfl ?_
        refine x_callVi (as := [.long (zL M15 r0 7)]) cb_RX12_386 rfl (by decide) hk0 h_r0 (fun x hx => t_X12_isOwn h_r0 x hx) hC (zdk dk_X12_pageIs 27 rfl) (q := 55) rfl rfl (Nat.le_of_ble_eq_true rfl) (fun z16 => ?_)
        refine x_if_eq (tgt := 67) hC (zdk dk_X12_pageIs 28 rfl) (q := 58) rfl rfl (fun _ => ?_) (fun _ => ?_)
        · refine x_weak (L' := [.ref r0]) ⟨Or.inr rfl, trivial⟩ ?_
          exact x_X12_pageIs_67 hC hE hk0 h_r0 _
        · refine x_weak (L' := [.ref r0]) ⟨Or.inr rfl, trivial⟩ ?_
          exact x_X12_pageIs_58 hC hE hk0 h_r0 _
    · exact x_vret hE hC (zdk dk_X12_pageIs 19 rfl)
  · exact x_vret hE hC (zdk dk_X12_pageIs 13 rfl)
set_option maxRecDepth 100000 in
def f_X12_pageIs (r0 : Nat) (M : Mem) : Option Mem := Option.bind (zrf M r0 15) fun q17 => Option.bind (zld q17 (zI M r0 22)) fun k18 => (if zI M q17 k18 = 6 then f_X12_pageIs_20 r0 r0 1 M else f_X12_pageIs_20 r0 r0 0 M)
set_option maxRecDepth 100000 in
set_option maxHeartbeats 4000000 in
theorem x_X12_pageIs {κ : KX} {n : Nat} (hC : CX κ cX12_pageIs RX12 1 none 3) (hE : zEnd κ n (0, 0)) (hk0 : zRk κ (0, 0)) (r0 : Nat) (M : Mem) (h_r0 : zO n r0 12) : X κ 1 emV n (0, 0) 0 [.ref r0] [] M (f_X12_pageIs r0 M) := by
  unfold f_X12_pageIs
  refine x_aload_n (i := 0) rfl hC (zdk dk_X12_pageIs 0 rfl) (q := 1) rfl ?_
  refine x_aload_n (i := 0) rfl hC (zdk dk_X12_pageIs 1 rfl) (q := 2) rfl ?_
  refine x_getR (k := 20) fl_RX12_57 rfl h_r0 hC (zdk dk_X12_pageIs 2 rfl) (q := 5) rfl (fun q17 hq17 => ?_)
  refine x_aload_n (i := 0) rfl hC (zdk dk_X12_pageIs 3 rfl) (q := 6) rfl ?_
  refine x_getI fl_RX12_79 (by decide) h_r0 hC (zdk dk_X12_pageIs 4 rfl) (q := 9) rfl ?_
  refine x_iald hq17 hC (zdk dk_X12_pageIs 5 rfl) (q := 10) rfl (fun k18 _ => ?_)
  refine x_bipush (i := 6) c_bipush_6 hC (zdk dk_X12_pageIs 6 rfl) (q := 12) rfl ?_
  refine x_icmp_ne (tgt := 19) hC (zdk dk_X12_pageIs 7 rfl) (q := 15) rfl rfl (fun _ => ?_) (fun _ => ?_)
  · refine x_iconst (i := 0) c_iconst_0 hC (zdk dk_X12_pageIs 10 rfl) (q := 20) rfl ?_
    refine x_weak (L' := [.ref r0]) ⟨Or.inr rfl, trivial⟩ ?_
    exact x_X12_pageIs_20 hC hE hk0 h_r0 _ _ _ h_r0
  · refine x_iconst (i := 1) c_iconst_1 hC (zdk dk_X12_pageIs 8 rfl) (q := 16) rfl ?_
    refine x_goto (tgt := 20) hC (zdk dk_X12_pageIs 9 rfl) rfl ?_
    refine x_weak (L' := [.ref r0]) ⟨Or.inr rfl, trivial⟩ ?_
    exact x_X12_pageIs_20 hC hE hk0 h_r0 _ _ _ h_r0
set_option maxRecDepth 100000 in
set_option maxHeartbeats 4000000 in
theorem t_X12_pageIs {n : Nat} {r0 : Nat} {M : Mem} (h_r0 : zO n r0 12) (x : Mem) (hx : f_X12_pageIs r0 M = some x) (l : Launch) (dC : Nat → ClassId) (dI : Nat → Nat → Nat) (b : zSg) : MT l dC dI b yX12_pageIs cX12_pageIs 1 none 3 0 0 n n [.ref r0] M (emV x).1 (emV x).2 :=
  MT.ofX (by decide +kernel) rfl (Nat.le_of_ble_eq_true rfl) (fun κ hC hF _ => x_X12_pageIs hC (zEnd_of hF (Nat.le_refl _) (Nat.le_refl _)) (zRk_of hF (Nat.le_refl _) (Nat.le_refl _)) _ _ h_r0) x hx
set_option maxRecDepth 100000 in
def dt_X12_telling : List (Nat × Instr × Nat) := [(0, .aload_n 0, 1), (1, .iconst 0, 1), (2, .invokevirtual 382, 3), (5, .ifCond .ne 4, 3), (8, .return_, 1), (9, .aload_n 0, 1), (10, .iload_n 2, 1), (11, .iload_n 3, 1), (12, .invokevirtual 368, 3), (15, .istore 4, 2), (17, .aload_n 0, 1), (18, .getfield 36, 3), (21, .ifCond .ne 10, 3), (24, .aload_n 0, 1), (25, .iload_n 1, 1), (26, .iload 4, 2), (28, .invokevirtual 379, 3), (31, .return_, 1)]
set_option maxRecDepth 100000 in
theorem dk_X12_telling : dt_X12_telling.all (fun q => decide (decode cX12_telling q.1 = .ok q.2)) = true := by decide +kernel
set_option maxRecDepth 100000 in
def f_X12_telling_31  (r0 : Nat) (x1 : Int32) (x2 : Int32) (x3 : Int32)  (M : Mem) : Option Mem := some M
set_option maxRecDepth 100000 in
set_option maxHeartbeats 4000000 in
theorem x_X12_telling_31 {κ : KX} {n : Nat} (hC : CX κ cX12_telling RX12 5 none 3) (hE : zEnd κ n (0, 0)) (hk0 : zRk κ (0, 0)) {r0 : Nat} {x1 : Int32} {x2 : Int32} {x3 : Int32} (h_r0 : zO n r0 12) (M : Mem) : X κ 5 emV n (0, 0) 31 [.null, .null, .null, .null, .null] [] M (f_X12_telling_31 r0 x1 x2 x3 M) := by
  unfold f_X12_telling_31
  exact x_vret hE hC (zdk dk_X12_telling 17 rfl)
set_option maxRecDepth 100000 in
def f_X12_telling (r0 : Nat) (x1 : Int32) (x2 : Int32) (x3 : Int32) (M : Mem) : Option Mem := Option.bind (f_X12_isCounted r0 0 M) fun z1 => (if z1.1 = 0 then some z1.2 else Option.bind (f_X12_number r0 x2 x3 z1.2) fun z2 => (if zI z2.2 r0 8 = 0 then Option.bind (f_X12_tellsAt r0 x1 z2.1 z2.2) fun M3 => f_X12_telling_31 r0 x1 x2 x3 M3 else f_X12_telling_31 r0 x1 x2 x3 z2.2))
set_option maxRecDepth 100000 in
set_option maxHeartbeats 4000000 in
theorem x_X12_telling {κ : KX} {n : Nat} (hC : CX κ cX12_telling RX12 5 none 3) (hE : zEnd κ n (0, 0)) (hk0 : zRk κ (0, 0)) (r0 : Nat) (x1 : Int32) (x2 : Int32) (x3 : Int32) (M : Mem) (h_r0 : zO n r0 12) : X κ 5 emV n (0, 0) 0 [.ref r0, .int x1, .int x2, .int x3, .null] [] M (f_X12_telling r0 x1 x2 x3 M) := by
  unfold f_X12_telling
  refine x_aload_n (i := 0) rfl hC (zdk dk_X12_telling 0 rfl) (q := 1) rfl ?_
  refine x_iconst (i := 0) c_iconst_0 hC (zdk dk_X12_telling 1 rfl) (q := 2) rfl ?_
  refine x_callVi (as := [.int 0]) cb_RX12_382 rfl (by decide) hk0 h_r0 (fun x hx => t_X12_isCounted h_r0 x hx) hC (zdk dk_X12_telling 2 rfl) (q := 5) rfl rfl (Nat.le_of_ble_eq_true rfl) (fun z1 => ?_)
  refine x_if_ne (tgt := 9) hC (zdk dk_X12_telling 3 rfl) (q := 8) rfl rfl (fun _ => ?_) (fun _ => ?_)
  · refine x_aload_n (i := 0) rfl hC (zdk dk_X12_telling 5 rfl) (q := 10) rfl ?_
    refine x_iload_n (i := 2) rfl hC (zdk dk_X12_telling 6 rfl) (q := 11) rfl ?_
    refine x_iload_n (i := 3) rfl hC (zdk dk_X12_telling 7 rfl) (q := 12) rfl ?_
    refine x_callVi (as := [.int x2, .int x3]) cb_RX12_368 rfl (by decide) hk0 h_r0 (fun x hx => t_X12_number h_r0 x hx) hC (zdk dk_X12_telling 8 rfl) (q := 15) rfl rfl (Nat.le_of_ble_eq_true rfl) (fun z2 => ?_)
    refine x_istore (i := 4) (L' := [.ref r0, .int x1, .int x2, .int x3, .int z2.1]) (by decide) rfl hC (zdk dk_X12_telling 9 rfl) (q := 17) rfl ?_
    refine x_aload_n (i := 0) rfl hC (zdk dk_X12_telling 10 rfl) (q := 18) rfl ?_
    refine x_getI fl_RX12_36 (by decide) h_r0 hC (zdk dk_X12_telling 11 rfl) (q := 21) rfl ?_
    refine x_if_ne (tgt := 31) hC (zdk dk_X12_telling 12 rfl) (q := 24) rfl rfl (fun _ => ?_) (fun _ => ?_)
    · refine x_weak (L' := [.null, .null, .null, .null, .null]) ⟨Or.inl rfl, Or.inl rfl, Or.inl rfl, Or.inl rfl, Or.inl rfl, trivial⟩ ?_
      exact x_X12_telling_31 hC hE hk0 h_r0 _
    · refine x_aload_n (i := 0) rfl hC (zdk dk_X12_telling 13 rfl) (q := 25) rfl ?_
      refine x_iload_n (i := 1) rfl hC (zdk dk_X12_telling 14 rfl) (q := 26) rfl ?_
      refine x_iload (i := 4) rfl hC (zdk dk_X12_telling 15 rfl) (q := 28) rfl ?_
      refine x_callVv (as := [.int x1, .int z2.1]) cb_RX12_379 rfl (by decide) hk0 h_r0 (fun x hx => t_X12_tellsAt h_r0 x hx) hC (zdk dk_X12_telling 16 rfl) (q := 31) rfl rfl (Nat.le_of_ble_eq_true rfl) (fun M3 => ?_)
      refine x_weak (L' := [.null, .null, .null, .null, .null]) ⟨Or.inl rfl, Or.inl rfl, Or.inl rfl, Or.inl rfl, Or.inl rfl, trivial⟩ ?_
      exact x_X12_telling_31 hC hE hk0 h_r0 _
  · exact x_vret hE hC (zdk dk_X12_telling 4 rfl)
set_option maxRecDepth 100000 in
set_option maxHeartbeats 4000000 in
theorem t_X12_telling {n : Nat} {r0 : Nat} {x1 : Int32} {x2 : Int32} {x3 : Int32} {M : Mem} (h_r0 : zO n r0 12) (x : Mem) (hx : f_X12_telling r0 x1 x2 x3 M = some x) (l : Launch) (dC : Nat → ClassId) (dI : Nat → Nat → Nat) (b : zSg) : MT l dC dI b yX12_telling cX12_telling 5 none 3 0 0 n n [.ref r0, .int x1, .int x2, .int x3] M (emV x).1 (emV x).2 :=
  MT.ofX (by decide +kernel) rfl (Nat.le_of_ble_eq_true rfl) (fun κ hC hF _ => x_X12_telling hC (zEnd_of hF (Nat.le_refl _) (Nat.le_refl _)) (zRk_of hF (Nat.le_refl _) (Nat.le_refl _)) _ _ _ _ _ h_r0) x hx
set_option maxRecDepth 100000 in
def dt_X12_reading : List (Nat × Instr × Nat) := [(0, .iconst 2, 1), (1, .aload_n 0, 1), (2, .getfield 79, 3), (5, .imul, 1), (6, .iload_n 1, 1), (7, .iadd, 1), (8, .istore_n 2, 1), (9, .aload_n 0, 1), (10, .aload_n 0, 1), (11, .getfield 60, 3), (14, .iload_n 2, 1), (15, .iaload, 1), (16, .iconst (-1), 1), (17, .if_icmp .eq 7, 3), (20, .iconst 1, 1), (21, .goto 4, 3), (24, .iconst 0, 1), (25, .invokevirtual 382, 3), (28, .ifCond .ne 4, 3), (31, .return_, 1), (32, .aload_n 0, 1), (33, .iload_n 1, 1), (34, .putfield 82, 3), (37, .aload_n 0, 1), (38, .getfield 60, 3), (41, .iload_n 2, 1), (42, .aload_n 0, 1), (43, .getfield 76, 3), (46, .iastore, 1), (47, .aload_n 0, 1), (48, .iload_n 1, 1), (49, .iconst 1, 1), (50, .if_icmp .ne 7, 3), (53, .iconst 1, 1), (54, .goto 4, 3), (57, .iconst 0, 1), (58, .invokevirtual 393, 3), (61, .aload_n 0, 1), (62, .getfield 63, 3), (65, .iload_n 2, 1), (66, .aload_n 0, 1), (67, .getfield 76, 3), (70, .iastore, 1), (71, .return_, 1)]
set_option maxRecDepth 100000 in
theorem dk_X12_reading : dt_X12_reading.all (fun q => decide (decode cX12_reading q.1 = .ok q.2)) = true := by decide +kernel
set_option maxRecDepth 100000 in
def f_X12_reading_58  (r0 : Nat) (x1 : Int32) (x2 : Int32) (s0 : Nat) (s1 : Int32) (M : Mem) : Option Mem := Option.bind (f_X12_reads s0 s1 M) fun M1 => Option.bind (zrf M1 r0 17) fun q2 => Option.bind (zld q2 x2) fun k3 => Option.bind (some (zsI M1 q2 k3 (zI M1 r0 21))) fun M4 => some M4
set_option maxRecDepth 100000 in
set_option maxHeartbeats 4000000 in
theorem x_X12_reading_58 {κ : KX} {n : Nat} (hC : CX κ cX12_reading RX12 3 none 5) (hE : zEnd κ n (0, 0)) (hk0 : zRk κ (0, 0)) {r0 : Nat} {x1 : Int32} (h_r0 : zO n r0 12) (x2 : Int32) (s0 : Nat) (s1 : Int32) (M : Mem) (h_s0 : zO n s0 12) : X κ 3 emV n (0, 0) 58 [.ref r0, .null, .int x2] [.int s1, .ref s0] M (f_X12_reading_58 r0 x1 x2 s0 s1 M) := by
  unfold f_X12_reading_58
  refine x_callVv (as := [.int s1]) cb_RX12_393 rfl (by decide) hk0 h_s0 (fun x hx => t_X12_reads h_s0 x hx) hC (zdk dk_X12_reading 36 rfl) (q := 61) rfl rfl (Nat.le_of_ble_eq_true rfl) (fun M1 => ?_)
  refine x_aload_n (i := 0) rfl hC (zdk dk_X12_reading 37 rfl) (q := 62) rfl ?_
  refine x_getR (k := 20) fl_RX12_63 rfl h_r0 hC (zdk dk_X12_reading 38 rfl) (q := 65) rfl (fun q2 hq2 => ?_)
  refine x_iload_n (i := 2) rfl hC (zdk dk_X12_reading 39 rfl) (q := 66) rfl ?_
  refine x_aload_n (i := 0) rfl hC (zdk dk_X12_reading 40 rfl) (q := 67) rfl ?_
  refine x_getI fl_RX12_76 (by decide) h_r0 hC (zdk dk_X12_reading 41 rfl) (q := 70) rfl ?_
  refine x_iast hq2 hC (zdk dk_X12_reading 42 rfl) (q := 71) rfl (fun k3 _ => ?_)
  refine x_nmM (fun M4 => ?_)
  exact x_vret hE hC (zdk dk_X12_reading 43 rfl)
set_option maxRecDepth 100000 in
def f_X12_reading_25  (r0 : Nat) (x1 : Int32) (x2 : Int32) (s0 : Nat) (s1 : Int32) (M : Mem) : Option Mem := Option.bind (f_X12_isCounted s0 s1 M) fun z5 => (if z5.1 = 0 then some z5.2 else Option.bind (some (zsI z5.2 r0 23 x1)) fun M6 => Option.bind (zrf M6 r0 16) fun q7 => Option.bind (zld q7 x2) fun k8 => Option.bind (some (zsI M6 q7 k8 (zI M6 r0 21))) fun M9 => (if x1 = 1 then f_X12_reading_58 r0 x1 x2 r0 1 M9 else f_X12_reading_58 r0 x1 x2 r0 0 M9))
set_option maxRecDepth 100000 in
set_option maxHeartbeats 4000000 in
theorem x_X12_reading_25 {κ : KX} {n : Nat} (hC : CX κ cX12_reading RX12 3 none 5) (hE : zEnd κ n (0, 0)) (hk0 : zRk κ (0, 0)) {r0 : Nat} {x1 : Int32} (h_r0 : zO n r0 12) (x2 : Int32) (s0 : Nat) (s1 : Int32) (M : Mem) (h_s0 : zO n s0 12) : X κ 3 emV n (0, 0) 25 [.ref r0, .int x1, .int x2] [.int s1, .ref s0] M (f_X12_reading_25 r0 x1 x2 s0 s1 M) := by
  unfold f_X12_reading_25
  refine x_callVi (as := [.int s1]) cb_RX12_382 rfl (by decide) hk0 h_s0 (fun x hx => t_X12_isCounted h_s0 x hx) hC (zdk dk_X12_reading 17 rfl) (q := 28) rfl rfl (Nat.le_of_ble_eq_true rfl) (fun z5 => ?_)
  refine x_if_ne (tgt := 32) hC (zdk dk_X12_reading 18 rfl) (q := 31) rfl rfl (fun _ => ?_) (fun _ => ?_)
  · refine x_aload_n (i := 0) rfl hC (zdk dk_X12_reading 20 rfl) (q := 33) rfl ?_
    refine x_iload_n (i := 1) rfl hC (zdk dk_X12_reading 21 rfl) (q := 34) rfl ?_
    refine x_putI fl_RX12_82 ⟨rfl, rfl⟩ (by decide) (Or.inl rfl) h_r0 hC (zdk dk_X12_reading 22 rfl) (q := 37) rfl ?_
    refine x_nmM (fun M6 => ?_)
    refine x_aload_n (i := 0) rfl hC (zdk dk_X12_reading 23 rfl) (q := 38) rfl ?_
    refine x_getR (k := 20) fl_RX12_60 rfl h_r0 hC (zdk dk_X12_reading 24 rfl) (q := 41) rfl (fun q7 hq7 => ?_)
    refine x_iload_n (i := 2) rfl hC (zdk dk_X12_reading 25 rfl) (q := 42) rfl ?_
    refine x_aload_n (i := 0) rfl hC (zdk dk_X12_reading 26 rfl) (q := 43) rfl ?_
    refine x_getI fl_RX12_76 (by decide) h_r0 hC (zdk dk_X12_reading 27 rfl) (q := 46) rfl ?_
    refine x_iast hq7 hC (zdk dk_X12_reading 28 rfl) (q := 47) rfl (fun k8 _ => ?_)
    refine x_nmM (fun M9 => ?_)
    refine x_aload_n (i := 0) rfl hC (zdk dk_X12_reading 29 rfl) (q := 48) rfl ?_
    refine x_iload_n (i := 1) rfl hC (zdk dk_X12_reading 30 rfl) (q := 49) rfl ?_
    refine x_iconst (i := 1) c_iconst_1 hC (zdk dk_X12_reading 31 rfl) (q := 50) rfl ?_
    refine x_icmp_ne (tgt := 57) hC (zdk dk_X12_reading 32 rfl) (q := 53) rfl rfl (fun _ => ?_) (fun _ => ?_)
    · refine x_iconst (i := 0) c_iconst_0 hC (zdk dk_X12_reading 35 rfl) (q := 58) rfl ?_
      refine x_weak (L' := [.ref r0, .null, .int x2]) ⟨Or.inr rfl, Or.inl rfl, Or.inr rfl, trivial⟩ ?_
      exact x_X12_reading_58 hC hE hk0 h_r0 _ _ _ _ h_r0
    · refine x_iconst (i := 1) c_iconst_1 hC (zdk dk_X12_reading 33 rfl) (q := 54) rfl ?_
      refine x_goto (tgt := 58) hC (zdk dk_X12_reading 34 rfl) rfl ?_
      refine x_weak (L' := [.ref r0, .null, .int x2]) ⟨Or.inr rfl, Or.inl rfl, Or.inr rfl, trivial⟩ ?_
      exact x_X12_reading_58 hC hE hk0 h_r0 _ _ _ _ h_r0
  · exact x_vret hE hC (zdk dk_X12_reading 19 rfl)
set_option maxRecDepth 100000 in
def f_X12_reading (r0 : Nat) (x1 : Int32) (M : Mem) : Option Mem := Option.bind (zrf M r0 16) fun q10 => Option.bind (zld q10 ((2 * (zI M r0 22)) + x1)) fun k11 => (if zI M q10 k11 = (-1) then f_X12_reading_25 r0 x1 ((2 * (zI M r0 22)) + x1) r0 0 M else f_X12_reading_25 r0 x1 ((2 * (zI M r0 22)) + x1) r0 1 M)
set_option maxRecDepth 100000 in
set_option maxHeartbeats 4000000 in
theorem x_X12_reading {κ : KX} {n : Nat} (hC : CX κ cX12_reading RX12 3 none 5) (hE : zEnd κ n (0, 0)) (hk0 : zRk κ (0, 0)) (r0 : Nat) (x1 : Int32) (M : Mem) (h_r0 : zO n r0 12) : X κ 3 emV n (0, 0) 0 [.ref r0, .int x1, .null] [] M (f_X12_reading r0 x1 M) := by
  unfold f_X12_reading
  refine x_iconst (i := 2) c_iconst_2 hC (zdk dk_X12_reading 0 rfl) (q := 1) rfl ?_
  refine x_aload_n (i := 0) rfl hC (zdk dk_X12_reading 1 rfl) (q := 2) rfl ?_
  refine x_getI fl_RX12_79 (by decide) h_r0 hC (zdk dk_X12_reading 2 rfl) (q := 5) rfl ?_
  refine x_imul hC (zdk dk_X12_reading 3 rfl) (q := 6) rfl ?_
  refine x_iload_n (i := 1) rfl hC (zdk dk_X12_reading 4 rfl) (q := 7) rfl ?_
  refine x_iadd hC (zdk dk_X12_reading 5 rfl) (q := 8) rfl ?_
  refine x_istore_n (i := 2) (L' := [.ref r0, .int x1, .int ((2 * (zI M r0 22)) + x1)]) (by decide) rfl hC (zdk dk_X12_reading 6 rfl) (q := 9) rfl ?_
  refine x_aload_n (i := 0) rfl hC (zdk dk_X12_reading 7 rfl) (q := 10) rfl ?_
  refine x_aload_n (i := 0) rfl hC (zdk dk_X12_reading 8 rfl) (q := 11) rfl ?_
  refine x_getR (k := 20) fl_RX12_60 rfl h_r0 hC (zdk dk_X12_reading 9 rfl) (q := 14) rfl (fun q10 hq10 => ?_)
  refine x_iload_n (i := 2) rfl hC (zdk dk_X12_reading 10 rfl) (q := 15) rfl ?_
  refine x_iald hq10 hC (zdk dk_X12_reading 11 rfl) (q := 16) rfl (fun k11 _ => ?_)
  refine x_iconst (i := (-1)) c_iconst_m1 hC (zdk dk_X12_reading 12 rfl) (q := 17) rfl ?_
  refine x_icmp_eq (tgt := 24) hC (zdk dk_X12_reading 13 rfl) (q := 20) rfl rfl (fun _ => ?_) (fun _ => ?_)
  · refine x_iconst (i := 0) c_iconst_0 hC (zdk dk_X12_reading 16 rfl) (q := 25) rfl ?_
    refine x_weak (L' := [.ref r0, .int x1, .int ((2 * (zI M r0 22)) + x1)]) ⟨Or.inr rfl, Or.inr rfl, Or.inr rfl, trivial⟩ ?_
    exact x_X12_reading_25 hC hE hk0 h_r0 _ _ _ _ h_r0
  · refine x_iconst (i := 1) c_iconst_1 hC (zdk dk_X12_reading 14 rfl) (q := 21) rfl ?_
    refine x_goto (tgt := 25) hC (zdk dk_X12_reading 15 rfl) rfl ?_
    refine x_weak (L' := [.ref r0, .int x1, .int ((2 * (zI M r0 22)) + x1)]) ⟨Or.inr rfl, Or.inr rfl, Or.inr rfl, trivial⟩ ?_
    exact x_X12_reading_25 hC hE hk0 h_r0 _ _ _ _ h_r0
set_option maxRecDepth 100000 in
set_option maxHeartbeats 4000000 in
theorem t_X12_reading {n : Nat} {r0 : Nat} {x1 : Int32} {M : Mem} (h_r0 : zO n r0 12) (x : Mem) (hx : f_X12_reading r0 x1 M = some x) (l : Launch) (dC : Nat → ClassId) (dI : Nat → Nat → Nat) (b : zSg) : MT l dC dI b yX12_reading cX12_reading 3 none 5 0 0 n n [.ref r0, .int x1] M (emV x).1 (emV x).2 :=
  MT.ofX (by decide +kernel) rfl (Nat.le_of_ble_eq_true rfl) (fun κ hC hF _ => x_X12_reading hC (zEnd_of hF (Nat.le_refl _) (Nat.le_refl _)) (zRk_of hF (Nat.le_refl _) (Nat.le_refl _)) _ _ _ h_r0) x hx
set_option maxRecDepth 100000 in
def dt_X12_statement : List (Nat × Instr × Nat) := [(0, .aload_n 0, 1), (1, .invokevirtual 262, 3), (4, .aload_n 0, 1), (5, .getfield 36, 3), (8, .ifCond .le 4, 3), (11, .return_, 1), (12, .aload_n 0, 1), (13, .ldc2_w 279, 3), (16, .invokevirtual 341, 3), (19, .ifCond .eq 10, 3), (22, .aload_n 0, 1), (23, .invokevirtual 397, 3), (26, .goto 157, 3), (29, .aload_n 0, 1), (30, .ldc2_w 281, 3), (33, .invokevirtual 341, 3), (36, .ifCond .eq 15, 3), (39, .aload_n 0, 1), (40, .iconst 4, 1), (41, .bipush 51, 2), (43, .bipush 99, 2), (45, .invokevirtual 400, 3), (48, .goto 135, 3), (51, .aload_n 0, 1), (52, .ldc2_w 283, 3), (55, .invokevirtual 341, 3), (58, .ifCond .eq 14, 3), (61, .aload_n 0, 1), (62, .iconst 5, 1), (63, .iconst 0, 1), (64, .bipush 49, 2), (66, .invokevirtual 400, 3), (69, .goto 114, 3), (72, .aload_n 0, 1), (73, .ldc2_w 285, 3), (76, .invokevirtual 341, 3), (79, .ifCond .eq 15, 3), (82, .aload_n 0, 1), (83, .bipush 6, 2), (85, .iconst 1, 1), (86, .bipush 99, 2), (88, .invokevirtual 400, 3), (91, .goto 92, 3), (94, .aload_n 0, 1), (95, .ldc2_w 287, 3), (98, .invokevirtual 341, 3), (101, .ifCond .eq 15, 3), (104, .aload_n 0, 1), (105, .bipush 7, 2), (107, .iconst 1, 1), (108, .bipush 20, 2), (110, .invokevirtual 400, 3), (113, .goto 70, 3), (116, .aload_n 0, 1), (117, .ldc2_w 289, 3), (120, .invokevirtual 341, 3), (123, .ifCond .eq 15, 3), (126, .aload_n 0, 1), (127, .bipush 8, 2), (129, .iconst 0, 1), (130, .bipush 100, 2), (132, .invokevirtual 400, 3), (135, .goto 48, 3), (138, .aload_n 0, 1), (139, .ldc2_w 291, 3), (142, .invokevirtual 341, 3), (145, .ifCond .eq 11, 3), (148, .aload_n 0, 1), (149, .iconst 0, 1), (150, .invokevirtual 404, 3), (153, .goto 30, 3), (156, .aload_n 0, 1), (157, .ldc2_w 293, 3), (160, .invokevirtual 341, 3), (163, .ifCond .eq 11, 3), (166, .aload_n 0, 1), (167, .iconst 1, 1), (168, .invokevirtual 404, 3), (171, .goto 12, 3), (174, .aload_n 0, 1), (175, .iconst 1, 1), (176, .aload_n 0, 1), (177, .getfield 23, 3), (180, .invokevirtual 251, 3), (183, .return_, 1)]
set_option maxRecDepth 100000 in
theorem dk_X12_statement : dt_X12_statement.all (fun q => decide (decode cX12_statement q.1 = .ok q.2)) = true := by decide +kernel
set_option maxRecDepth 100000 in
def f_X12_statement_183  (r0 : Nat)  (M : Mem) : Option Mem := some M
set_option maxRecDepth 100000 in
set_option maxHeartbeats 4000000 in
theorem x_X12_statement_183 {κ : KX} {n : Nat} (hC : CX κ cX12_statement RX12 1 none 6) (hE : zEnd κ n (0, 0)) (hk0 : zRk κ (0, 0)) {r0 : Nat} (h_r0 : zO n r0 12) (M : Mem) : X κ 1 emV n (0, 0) 183 [.null] [] M (f_X12_statement_183 r0 M) := by
  unfold f_X12_statement_183
  exact x_vret hE hC (zdk dk_X12_statement 84 rfl)
set_option maxRecDepth 100000 in
def f_X12_statement (r0 : Nat) (M : Mem) : Option Mem := Option.bind (f_X12_lex r0 M) fun M1 => (if zI M1 r0 8 ≤ 0 then Option.bind (f_X12_isWord r0 1885431653 M1) fun z2 => (if z2.1 = 0 then Option.bind (f_X12_isWord r0 1751738216 z2.2) fun z3 => (if z3.1 = 0 then Option.bind (f_X12_isWord r0 7106423 z3.2) fun z4 => (if z4.1 = 0 then Option.bind (f_X12_isWord r0 7170404 z4.2) fun z5 => (if z5.1 = 0 then Option.bind (f_X12_isWord r0 1937007984 z5.2) fun z6 => (if z6.1 = 0 then Option.bind (f_X12_isWord r0 474315584357 z6.2) fun z7 => (if z7.1 = 0 then Option.bind (f_X12_isWord r0 110442557371507 z7.2) fun z8 => (if z8.1 = 0 then Option.bind (f_X12_isWord r0 500135716211 z8.2) fun z9 => (if z9.1 = 0 then Option.bind (f_X12_blame r0 1 (zI z9.2 r0 4) z9.2) fun M10 => f_X12_statement_183 r0 M10 else Option.bind (f_X12_reading r0 1 z9.2) fun M11 => f_X12_statement_183 r0 M11) else Option.bind (f_X12_reading r0 0 z8.2) fun M12 => f_X12_statement_183 r0 M12) else Option.bind (f_X12_telling r0 8 0 100 z7.2) fun M13 => f_X12_statement_183 r0 M13) else Option.bind (f_X12_telling r0 7 1 20 z6.2) fun M14 => f_X12_statement_183 r0 M14) else Option.bind (f_X12_telling r0 6 1 99 z5.2) fun M15 => f_X12_statement_183 r0 M15) else Option.bind (f_X12_telling r0 5 0 49 z4.2) fun M16 => f_X12_statement_183 r0 M16) else Option.bind (f_X12_telling r0 4 51 99 z3.2) fun M17 => f_X12_statement_183 r0 M17) else Option.bind (f_X12_pageIs r0 z2.2) fun M18 => f_X12_statement_183 r0 M18) else some M1)
set_option maxRecDepth 100000 in
set_option maxHeartbeats 4000000 in
theorem x_X12_statement {κ : KX} {n : Nat} (hC : CX κ cX12_statement RX12 1 none 6) (hE : zEnd κ n (0, 0)) (hk0 : zRk κ (0, 0)) (r0 : Nat) (M : Mem) (h_r0 : zO n r0 12) : X κ 1 emV n (0, 0) 0 [.ref r0] [] M (f_X12_statement r0 M) := by
  unfold f_X12_statement
  refine x_aload_n (i := 0) rfl hC (zdk dk_X12_statement 0 rfl) (q := 1) rfl ?_
  refine x_callVv (as := []) cb_RX12_262 rfl (by decide) hk0 h_r0 (fun x hx => t_X12_lex h_r0 x hx) hC (zdk dk_X12_statement 1 rfl) (q := 4) rfl rfl (Nat.le_of_ble_eq_true rfl) (fun M1 => ?_)
  refine x_aload_n (i := 0) rfl hC (zdk dk_X12_statement 2 rfl) (q := 5) rfl ?_
  refine x_getI fl_RX12_36 (by decide) h_r0 hC (zdk dk_X12_statement 3 rfl) (q := 8) rfl ?_
  refine x_if_le (tgt := 12) hC (zdk dk_X12_statement 4 rfl) (q := 11) rfl rfl (fun _ => ?_) (fun _ => ?_)
  · refine x_aload_n (i := 0) rfl hC (zdk dk_X12_statement 6 rfl) (q := 13) rfl ?_
    refine x_ldc2 k_RX12_279 hC (zdk dk_X12_statement 7 rfl) (q := 16) rfl ?_
    refine x_callVi (as := [.long 1885431653]) cb_RX12_341 rfl (by decide) hk0 h_r0 (fun x hx => t_X12_isWord h_r0 x hx) hC (zdk dk_X12_statement 8 rfl) (q := 19) rfl rfl (Nat.le_of_ble_eq_true rfl) (fun z2 => ?_)
    refine x_if_eq (tgt := 29) hC (zdk dk_X12_statement 9 rfl) (q := 22) rfl rfl (fun _ => ?_) (fun _ => ?_)
    · refine x_aload_n (i := 0) rfl hC (zdk dk_X12_statement 13 rfl) (q := 30) rfl ?_
      refine x_ldc2 k_RX12_281 hC (zdk dk_X12_statement 14 rfl) (q := 33) rfl ?_
      refine x_callVi (as := [.long 1751738216]) cb_RX12_341 rfl (by decide) hk0 h_r0 (fun x hx => t_X12_isWord h_r0 x hx) hC (zdk dk_X12_statement 15 rfl) (q := 36) rfl rfl (Nat.le_of_ble_eq_true rfl) (fun z3 => ?_)
      refine x_if_eq (tgt := 51) hC (zdk dk_X12_statement 16 rfl) (q := 39) rfl rfl (fun _ => ?_) (fun _ => ?_)
      · refine x_aload_n (i := 0) rfl hC (zdk dk_X12_statement 23 rfl) (q := 52) rfl ?_
        refine x_ldc2 k_RX12_283 hC (zdk dk_X12_statement 24 rfl) (q := 55) rfl ?_
        refine x_callVi (as := [.long 7106423]) cb_RX12_341 rfl (by decide) hk0 h_r0 (fun x hx => t_X12_isWord h_r0 x hx) hC (zdk dk_X12_statement 25 rfl) (q := 58) rfl rfl (Nat.le_of_ble_eq_true rfl) (fun z4 => ?_)
        refine x_if_eq (tgt := 72) hC (zdk dk_X12_statement 26 rfl) (q := 61) rfl rfl (fun _ => ?_) (fun _ => ?_)
        · refine x_aload_n (i := 0) rfl hC (zdk dk_X12_statement 33 rfl) (q := 73) rfl ?_
          refine x_ldc2 k_RX12_285 hC (zdk dk_X12_statement 34 rfl) (q := 76) rfl ?_
          refine x_callVi (as := [.long 7170404]) cb_RX12_341 rfl (by decide) hk0 h_r0 (fun x hx => t_X12_isWord h_r0 x hx) hC (zdk dk_X12_statement 35 rfl) (q := 79) rfl rfl (Nat.le_of_ble_eq_true rfl) (fun z5 => ?_)
          refine x_if_eq (tgt := 94) hC (zdk dk_X12_statement 36 rfl) (q := 82) rfl rfl (fun _ => ?_) (fun _ => ?_)
          · refine x_aload_n (i := 0) rfl hC (zdk dk_X12_statement 43 rfl) (q := 95) rfl ?_
            refine x_ldc2 k_RX12_287 hC (zdk dk_X12_statement 44 rfl) (q := 98) rfl ?_
            refine x_callVi (as := [.long 1937007984]) cb_RX12_341 rfl (by decide) hk0 h_r0 (fun x hx => t_X12_isWord h_r0 x hx) hC (zdk dk_X12_statement 45 rfl) (q := 101) rfl rfl (Nat.le_of_ble_eq_true rfl) (fun z6 => ?_)
            refine x_if_eq (tgt := 116) hC (zdk dk_X12_statement 46 rfl) (q := 104) rfl rfl (fun _ => ?_) (fun _ => ?_)
            · refine x_aload_n (i := 0) rfl hC (zdk dk_X12_statement 53 rfl) (q := 117) rfl ?_
              refine x_ldc2 k_RX12_289 hC (zdk dk_X12_statement 54 rfl) (q := 120) rfl ?_
              refine x_callVi (as := [.long 474315584357]) cb_RX12_341 rfl (by decide) hk0 h_r0 (fun x hx => t_X12_isWord h_r0 x hx) hC (zdk dk_X12_statement 55 rfl) (q := 123) rfl rfl (Nat.le_of_ble_eq_true rfl) (fun z7 => ?_)
              refine x_if_eq (tgt := 138) hC (zdk dk_X12_statement 56 rfl) (q := 126) rfl rfl (fun _ => ?_) (fun _ => ?_)
              · refine x_aload_n (i := 0) rfl hC (zdk dk_X12_statement 63 rfl) (q := 139) rfl ?_
                refine x_ldc2 k_RX12_291 hC (zdk dk_X12_statement 64 rfl) (q := 142) rfl ?_
                refine x_callVi (as := [.long 110442557371507]) cb_RX12_341 rfl (by decide) hk0 h_r0 (fun x hx => t_X12_isWord h_r0 x hx) hC (zdk dk_X12_statement 65 rfl) (q := 145) rfl rfl (Nat.le_of_ble_eq_true rfl) (fun z8 => ?_)
                refine x_if_eq (tgt := 156) hC (zdk dk_X12_statement 66 rfl) (q := 148) rfl rfl (fun _ => ?_) (fun _ => ?_)
                · refine x_aload_n (i := 0) rfl hC (zdk dk_X12_statement 71 rfl) (q := 157) rfl ?_
                  refine x_ldc2 k_RX12_293 hC (zdk dk_X12_statement 72 rfl) (q := 160) rfl ?_
                  refine x_callVi (as := [.long 500135716211]) cb_RX12_341 rfl (by decide) hk0 h_r0 (fun x hx => t_X12_isWord h_r0 x hx) hC (zdk dk_X12_statement 73 rfl) (q := 163) rfl rfl (Nat.le_of_ble_eq_true rfl) (fun z9 => ?_)
                  refine x_if_eq (tgt := 174) hC (zdk dk_X12_statement 74 rfl) (q := 166) rfl rfl (fun _ => ?_) (fun _ => ?_)
                  · refine x_aload_n (i := 0) rfl hC (zdk dk_X12_statement 79 rfl) (q := 175) rfl ?_
                    refine x_iconst (i := 1) c_iconst_1 hC (zdk dk_X12_statement 80 rfl) (q := 176) rfl ?_
                    refine x_aload_n (i := 0) rfl hC (zdk dk_X12_statement 81 rfl) (q := 177) rfl ?_
                    refine x_getI fl_RX12_23 (by decide) h_r0 hC (zdk dk_X12_statement 82 rfl) (q := 180) rfl ?_
                    refine x_callVv (as := [.int 1, .int (zI z9.2 r0 4)]) cb_RX12_251 rfl (by decide) hk0 h_r0 (fun x hx => t_X12_blame h_r0 x hx) hC (zdk dk_X12_statement 83 rfl) (q := 183) rfl rfl (Nat.le_of_ble_eq_true rfl) (fun M10 => ?_)
                    refine x_weak (L' := [.null]) ⟨Or.inl rfl, trivial⟩ ?_
                    exact x_X12_statement_183 hC hE hk0 h_r0 _
                  · refine x_aload_n (i := 0) rfl hC (zdk dk_X12_statement 75 rfl) (q := 167) rfl ?_
                    refine x_iconst (i := 1) c_iconst_1 hC (zdk dk_X12_statement 76 rfl) (q := 168) rfl ?_
                    refine x_callVv (as := [.int 1]) cb_RX12_404 rfl (by decide) hk0 h_r0 (fun x hx => t_X12_reading h_r0 x hx) hC (zdk dk_X12_statement 77 rfl) (q := 171) rfl rfl (Nat.le_of_ble_eq_true rfl) (fun M11 => ?_)
                    refine x_goto (tgt := 183) hC (zdk dk_X12_statement 78 rfl) rfl ?_
                    refine x_weak (L' := [.null]) ⟨Or.inl rfl, trivial⟩ ?_
                    exact x_X12_statement_183 hC hE hk0 h_r0 _
                · refine x_aload_n (i := 0) rfl hC (zdk dk_X12_statement 67 rfl) (q := 149) rfl ?_
                  refine x_iconst (i := 0) c_iconst_0 hC (zdk dk_X12_statement 68 rfl) (q := 150) rfl ?_
                  refine x_callVv (as := [.int 0]) cb_RX12_404 rfl (by decide) hk0 h_r0 (fun x hx => t_X12_reading h_r0 x hx) hC (zdk dk_X12_statement 69 rfl) (q := 153) rfl rfl (Nat.le_of_ble_eq_true rfl) (fun M12 => ?_)
                  refine x_goto (tgt := 183) hC (zdk dk_X12_statement 70 rfl) rfl ?_
                  refine x_weak (L' := [.null]) ⟨Or.inl rfl, trivial⟩ ?_
                  exact x_X12_statement_183 hC hE hk0 h_r0 _
              · refine x_aload_n (i := 0) rfl hC (zdk dk_X12_statement 57 rfl) (q := 127) rfl ?_
                refine x_bipush (i := 8) c_bipush_8 hC (zdk dk_X12_statement 58 rfl) (q := 129) rfl ?_
                refine x_iconst (i := 0) c_iconst_0 hC (zdk dk_X12_statement 59 rfl) (q := 130) rfl ?_
                refine x_bipush (i := 100) c_bipush_100 hC (zdk dk_X12_statement 60 rfl) (q := 132) rfl ?_
                refine x_callVv (as := [.int 8, .int 0, .int 100]) cb_RX12_400 rfl (by decide) hk0 h_r0 (fun x hx => t_X12_telling h_r0 x hx) hC (zdk dk_X12_statement 61 rfl) (q := 135) rfl rfl (Nat.le_of_ble_eq_true rfl) (fun M13 => ?_)
                refine x_goto (tgt := 183) hC (zdk dk_X12_statement 62 rfl) rfl ?_
                refine x_weak (L' := [.null]) ⟨Or.inl rfl, trivial⟩ ?_
                exact x_X12_statement_183 hC hE hk0 h_r0 _
            · refine x_aload_n (i := 0) rfl hC (zdk dk_X12_statement 47 rfl) (q := 105) rfl ?_
              refine x_bipush (i := 7) c_bipush_7 hC (zdk dk_X12_statement 48 rfl) (q := 107) rfl ?_
              refine x_iconst (i := 1) c_iconst_1 hC (zdk dk_X12_statement 49 rfl) (q := 108) rfl ?_
              refine x_bipush (i := 20) c_bipush_20 hC (zdk dk_X12_statement 50 rfl) (q := 110) rfl ?_
              refine x_callVv (as := [.int 7, .int 1, .int 20]) cb_RX12_400 rfl (by decide) hk0 h_r0 (fun x hx => t_X12_telling h_r0 x hx) hC (zdk dk_X12_statement 51 rfl) (q := 113) rfl rfl (Nat.le_of_ble_eq_true rfl) (fun M14 => ?_)
              refine x_goto (tgt := 183) hC (zdk dk_X12_statement 52 rfl) rfl ?_
              refine x_weak (L' := [.null]) ⟨Or.inl rfl, trivial⟩ ?_
              exact x_X12_statement_183 hC hE hk0 h_r0 _
          · refine x_aload_n (i := 0) rfl hC (zdk dk_X12_statement 37 rfl) (q := 83) rfl ?_
            refine x_bipush (i := 6) c_bipush_6 hC (zdk dk_X12_statement 38 rfl) (q := 85) rfl ?_
            refine x_iconst (i := 1) c_iconst_1 hC (zdk dk_X12_statement 39 rfl) (q := 86) rfl ?_
            refine x_bipush (i := 99) c_bipush_99 hC (zdk dk_X12_statement 40 rfl) (q := 88) rfl ?_
            refine x_callVv (as := [.int 6, .int 1, .int 99]) cb_RX12_400 rfl (by decide) hk0 h_r0 (fun x hx => t_X12_telling h_r0 x hx) hC (zdk dk_X12_statement 41 rfl) (q := 91) rfl rfl (Nat.le_of_ble_eq_true rfl) (fun M15 => ?_)
            refine x_goto (tgt := 183) hC (zdk dk_X12_statement 42 rfl) rfl ?_
            refine x_weak (L' := [.null]) ⟨Or.inl rfl, trivial⟩ ?_
            exact x_X12_statement_183 hC hE hk0 h_r0 _
        · refine x_aload_n (i := 0) rfl hC (zdk dk_X12_statement 27 rfl) (q := 62) rfl ?_
          refine x_iconst (i := 5) c_iconst_5 hC (zdk dk_X12_statement 28 rfl) (q := 63) rfl ?_
          refine x_iconst (i := 0) c_iconst_0 hC (zdk dk_X12_statement 29 rfl) (q := 64) rfl ?_
          refine x_bipush (i := 49) c_bipush_49 hC (zdk dk_X12_statement 30 rfl) (q := 66) rfl ?_
          refine x_callVv (as := [.int 5, .int 0, .int 49]) cb_RX12_400 rfl (by decide) hk0 h_r0 (fun x hx => t_X12_telling h_r0 x hx) hC (zdk dk_X12_statement 31 rfl) (q := 69) rfl rfl (Nat.le_of_ble_eq_true rfl) (fun M16 => ?_)
          refine x_goto (tgt := 183) hC (zdk dk_X12_statement 32 rfl) rfl ?_
          refine x_weak (L' := [.null]) ⟨Or.inl rfl, trivial⟩ ?_
          exact x_X12_statement_183 hC hE hk0 h_r0 _
      · refine x_aload_n (i := 0) rfl hC (zdk dk_X12_statement 17 rfl) (q := 40) rfl ?_
        refine x_iconst (i := 4) c_iconst_4 hC (zdk dk_X12_statement 18 rfl) (q := 41) rfl ?_
        refine x_bipush (i := 51) c_bipush_51 hC (zdk dk_X12_statement 19 rfl) (q := 43) rfl ?_
        refine x_bipush (i := 99) c_bipush_99 hC (zdk dk_X12_statement 20 rfl) (q := 45) rfl ?_
        refine x_callVv (as := [.int 4, .int 51, .int 99]) cb_RX12_400 rfl (by decide) hk0 h_r0 (fun x hx => t_X12_telling h_r0 x hx) hC (zdk dk_X12_statement 21 rfl) (q := 48) rfl rfl (Nat.le_of_ble_eq_true rfl) (fun M17 => ?_)
        refine x_goto (tgt := 183) hC (zdk dk_X12_statement 22 rfl) rfl ?_
        refine x_weak (L' := [.null]) ⟨Or.inl rfl, trivial⟩ ?_
        exact x_X12_statement_183 hC hE hk0 h_r0 _
    · refine x_aload_n (i := 0) rfl hC (zdk dk_X12_statement 10 rfl) (q := 23) rfl ?_
      refine x_callVv (as := []) cb_RX12_397 rfl (by decide) hk0 h_r0 (fun x hx => t_X12_pageIs h_r0 x hx) hC (zdk dk_X12_statement 11 rfl) (q := 26) rfl rfl (Nat.le_of_ble_eq_true rfl) (fun M18 => ?_)
      refine x_goto (tgt := 183) hC (zdk dk_X12_statement 12 rfl) rfl ?_
      refine x_weak (L' := [.null]) ⟨Or.inl rfl, trivial⟩ ?_
      exact x_X12_statement_183 hC hE hk0 h_r0 _
  · exact x_vret hE hC (zdk dk_X12_statement 5 rfl)
set_option maxRecDepth 100000 in
set_option maxHeartbeats 4000000 in
theorem t_X12_statement {n : Nat} {r0 : Nat} {M : Mem} (h_r0 : zO n r0 12) (x : Mem) (hx : f_X12_statement r0 M = some x) (l : Launch) (dC : Nat → ClassId) (dI : Nat → Nat → Nat) (b : zSg) : MT l dC dI b yX12_statement cX12_statement 1 none 6 0 0 n n [.ref r0] M (emV x).1 (emV x).2 :=
  MT.ofX (by decide +kernel) rfl (Nat.le_of_ble_eq_true rfl) (fun κ hC hF _ => x_X12_statement hC (zEnd_of hF (Nat.le_refl _) (Nat.le_refl _)) (zRk_of hF (Nat.le_refl _) (Nat.le_refl _)) _ _ h_r0) x hx
set_option maxRecDepth 100000 in
def dt_X12_finishes : List (Nat × Instr × Nat) := [(0, .aload_n 0, 1), (1, .invokevirtual 262, 3), (4, .aload_n 0, 1), (5, .getfield 36, 3), (8, .ifCond .le 4, 3), (11, .return_, 1), (12, .aload_n 0, 1), (13, .getfield 26, 3), (16, .istore_n 2, 1), (17, .iload_n 2, 1), (18, .aload_n 0, 1), (19, .getfield 17, 3), (22, .if_icmp .ge 31, 3), (25, .aload_n 0, 1), (26, .getfield 7, 3), (29, .iload_n 2, 1), (30, .iaload, 1), (31, .bipush 32, 2), (33, .if_icmp .eq 14, 3), (36, .aload_n 0, 1), (37, .getfield 7, 3), (40, .iload_n 2, 1), (41, .iaload, 1), (42, .bipush 10, 2), (44, .if_icmp .ne 9, 3), (47, .iinc 2 1, 3), (50, .goto (-33), 3), (53, .aload_n 0, 1), (54, .bipush 59, 2), (56, .invokevirtual 265, 3), (59, .ifCond .eq 24, 3), (62, .iload_n 1, 1), (63, .bipush 40, 2), (65, .if_icmp .ne 18, 3), (68, .iload_n 2, 1), (69, .aload_n 0, 1), (70, .getfield 17, 3), (73, .if_icmp .ge 10, 3), (76, .aload_n 0, 1), (77, .bipush 6, 2), (79, .iload_n 2, 1), (80, .invokevirtual 251, 3), (83, .aload_n 0, 1), (84, .bipush 59, 2), (86, .invokevirtual 407, 3), (89, .return_, 1)]
set_option maxRecDepth 100000 in
theorem dk_X12_finishes : dt_X12_finishes.all (fun q => decide (decode cX12_finishes q.1 = .ok q.2)) = true := by decide +kernel
set_option maxRecDepth 100000 in
def f_X12_finishes_47 (k17 : Int32 → Mem → Option Mem) (r0 : Nat) (x1 : Int32) (x2 : Int32) (M : Mem) : Option Mem := k17 (x2 + 1) M
set_option maxRecDepth 100000 in
set_option maxHeartbeats 4000000 in
theorem x_X12_finishes_47 {κ : KX} {n : Nat} (hC : CX κ cX12_finishes RX12 3 none 3) (hE : zEnd κ n (0, 0)) (hk0 : zRk κ (0, 0)) {r0 : Nat} {x1 : Int32} (h_r0 : zO n r0 12) (k17 : Int32 → Mem → Option Mem) (hk17 : ∀ (x2 : Int32) (M : Mem), X κ 3 emV n (0, 0) 17 [.ref r0, .int x1, .int x2] [] M (k17 x2 M)) (x2 : Int32) (M : Mem) : X κ 3 emV n (0, 0) 47 [.ref r0, .int x1, .int x2] [] M (f_X12_finishes_47 k17 r0 x1 x2 M) := by
  unfold f_X12_finishes_47
  refine x_iinc (i := 2) c_iconst_1 rfl (by decide) (L' := [.ref r0, .int x1, .int (x2 + 1)]) rfl hC (zdk dk_X12_finishes 25 rfl) (q := 50) rfl ?_
  refine x_goto (tgt := 17) hC (zdk dk_X12_finishes 26 rfl) rfl ?_
  refine x_weak (L' := [.ref r0, .int x1, .int (x2 + 1)]) ⟨Or.inr rfl, Or.inr rfl, Or.inr rfl, trivial⟩ ?_
  exact hk17 _ _
set_option maxRecDepth 100000 in
def f_X12_finishes_83  (r0 : Nat) (x1 : Int32)  (M : Mem) : Option Mem := Option.bind (f_X12_must r0 59 M) fun M1 => some M1
set_option maxRecDepth 100000 in
set_option maxHeartbeats 4000000 in
theorem x_X12_finishes_83 {κ : KX} {n : Nat} (hC : CX κ cX12_finishes RX12 3 none 3) (hE : zEnd κ n (0, 0)) (hk0 : zRk κ (0, 0)) {r0 : Nat} {x1 : Int32} (h_r0 : zO n r0 12) (M : Mem) : X κ 3 emV n (0, 0) 83 [.ref r0, .null, .null] [] M (f_X12_finishes_83 r0 x1 M) := by
  unfold f_X12_finishes_83
  refine x_aload_n (i := 0) rfl hC (zdk dk_X12_finishes 42 rfl) (q := 84) rfl ?_
  refine x_bipush (i := 59) c_bipush_59 hC (zdk dk_X12_finishes 43 rfl) (q := 86) rfl ?_
  refine x_callVv (as := [.int 59]) cb_RX12_407 rfl (by decide) hk0 h_r0 (fun x hx => t_X12_must h_r0 x hx) hC (zdk dk_X12_finishes 44 rfl) (q := 89) rfl rfl (Nat.le_of_ble_eq_true rfl) (fun M1 => ?_)
  exact x_vret hE hC (zdk dk_X12_finishes 45 rfl)
set_option maxRecDepth 100000 in
def f_X12_finishes_53  (r0 : Nat) (x1 : Int32) (x2 : Int32) (M : Mem) : Option Mem := Option.bind (f_X12_isSign r0 59 M) fun z2 => (if z2.1 = 0 then f_X12_finishes_83 r0 x1 z2.2 else (if x1 = 40 then (if zI z2.2 r0 2 ≤ x2 then f_X12_finishes_83 r0 x1 z2.2 else Option.bind (f_X12_blame r0 6 x2 z2.2) fun M3 => f_X12_finishes_83 r0 x1 M3) else f_X12_finishes_83 r0 x1 z2.2))
set_option maxRecDepth 100000 in
set_option maxHeartbeats 4000000 in
theorem x_X12_finishes_53 {κ : KX} {n : Nat} (hC : CX κ cX12_finishes RX12 3 none 3) (hE : zEnd κ n (0, 0)) (hk0 : zRk κ (0, 0)) {r0 : Nat} {x1 : Int32} (h_r0 : zO n r0 12) (x2 : Int32) (M : Mem) : X κ 3 emV n (0, 0) 53 [.ref r0, .int x1, .int x2] [] M (f_X12_finishes_53 r0 x1 x2 M) := by
  unfold f_X12_finishes_53
  refine x_aload_n (i := 0) rfl hC (zdk dk_X12_finishes 27 rfl) (q := 54) rfl ?_
  refine x_bipush (i := 59) c_bipush_59 hC (zdk dk_X12_finishes 28 rfl) (q := 56) rfl ?_
  refine x_callVi (as := [.int 59]) cb_RX12_265 rfl (by decide) hk0 h_r0 (fun x hx => t_X12_isSign h_r0 x hx) hC (zdk dk_X12_finishes 29 rfl) (q := 59) rfl rfl (Nat.le_of_ble_eq_true rfl) (fun z2 => ?_)
  refine x_if_eq (tgt := 83) hC (zdk dk_X12_finishes 30 rfl) (q := 62) rfl rfl (fun _ => ?_) (fun _ => ?_)
  · refine x_weak (L' := [.ref r0, .null, .null]) ⟨Or.inr rfl, Or.inl rfl, Or.inl rfl, trivial⟩ ?_
    exact x_X12_finishes_83 hC hE hk0 h_r0 _
  · refine x_iload_n (i := 1) rfl hC (zdk dk_X12_finishes 31 rfl) (q := 63) rfl ?_
    refine x_bipush (i := 40) c_bipush_40 hC (zdk dk_X12_finishes 32 rfl) (q := 65) rfl ?_
    refine x_icmp_ne (tgt := 83) hC (zdk dk_X12_finishes 33 rfl) (q := 68) rfl rfl (fun _ => ?_) (fun _ => ?_)
    · refine x_weak (L' := [.ref r0, .null, .null]) ⟨Or.inr rfl, Or.inl rfl, Or.inl rfl, trivial⟩ ?_
      exact x_X12_finishes_83 hC hE hk0 h_r0 _
    · refine x_iload_n (i := 2) rfl hC (zdk dk_X12_finishes 34 rfl) (q := 69) rfl ?_
      refine x_aload_n (i := 0) rfl hC (zdk dk_X12_finishes 35 rfl) (q := 70) rfl ?_
      refine x_getI fl_RX12_17 (by decide) h_r0 hC (zdk dk_X12_finishes 36 rfl) (q := 73) rfl ?_
      refine x_icmp_ge (tgt := 83) hC (zdk dk_X12_finishes 37 rfl) (q := 76) rfl rfl (fun _ => ?_) (fun _ => ?_)
      · refine x_weak (L' := [.ref r0, .null, .null]) ⟨Or.inr rfl, Or.inl rfl, Or.inl rfl, trivial⟩ ?_
        exact x_X12_finishes_83 hC hE hk0 h_r0 _
      · refine x_aload_n (i := 0) rfl hC (zdk dk_X12_finishes 38 rfl) (q := 77) rfl ?_
        refine x_bipush (i := 6) c_bipush_6 hC (zdk dk_X12_finishes 39 rfl) (q := 79) rfl ?_
        refine x_iload_n (i := 2) rfl hC (zdk dk_X12_finishes 40 rfl) (q := 80) rfl ?_
        refine x_callVv (as := [.int 6, .int x2]) cb_RX12_251 rfl (by decide) hk0 h_r0 (fun x hx => t_X12_blame h_r0 x hx) hC (zdk dk_X12_finishes 41 rfl) (q := 83) rfl rfl (Nat.le_of_ble_eq_true rfl) (fun M3 => ?_)
        refine x_weak (L' := [.ref r0, .null, .null]) ⟨Or.inr rfl, Or.inl rfl, Or.inl rfl, trivial⟩ ?_
        exact x_X12_finishes_83 hC hE hk0 h_r0 _
set_option maxRecDepth 100000 in
def f_X12_finishes_17  (r0 : Nat) (x1 : Int32) : Nat → Int32 → Mem → Option Mem
  | 0, _, _ => none
  | f + 1, x2, M => (if zI M r0 2 ≤ x2 then f_X12_finishes_53 r0 x1 x2 M else Option.bind (zrf M r0 0) fun q4 => Option.bind (zld q4 x2) fun k5 => (if zI M q4 k5 = 32 then f_X12_finishes_47 (f_X12_finishes_17 r0 x1 f) r0 x1 x2 M else Option.bind (zrf M r0 0) fun q6 => Option.bind (zld q6 x2) fun k7 => (if zI M q6 k7 = 10 then f_X12_finishes_47 (f_X12_finishes_17 r0 x1 f) r0 x1 x2 M else f_X12_finishes_53 r0 x1 x2 M)))
set_option maxRecDepth 100000 in
set_option maxHeartbeats 4000000 in
theorem x_X12_finishes_17 {κ : KX} {n : Nat} (hC : CX κ cX12_finishes RX12 3 none 3) (hE : zEnd κ n (0, 0)) (hk0 : zRk κ (0, 0)) {r0 : Nat} {x1 : Int32} (h_r0 : zO n r0 12) : ∀ (f : Nat) (x2 : Int32) (M : Mem), X κ 3 emV n (0, 0) 17 [.ref r0, .int x1, .int x2] [] M (f_X12_finishes_17 r0 x1 f x2 M) := by
  intro f
  induction f with
  | zero => intros; exact x_none
  | succ f ih =>
    intro x2 M 
    rw [f_X12_finishes_17]
    refine x_iload_n (i := 2) rfl hC (zdk dk_X12_finishes 9 rfl) (q := 18) rfl ?_
    refine x_aload_n (i := 0) rfl hC (zdk dk_X12_finishes 10 rfl) (q := 19) rfl ?_
    refine x_getI fl_RX12_17 (by decide) h_r0 hC (zdk dk_X12_finishes 11 rfl) (q := 22) rfl ?_
    refine x_icmp_ge (tgt := 53) hC (zdk dk_X12_finishes 12 rfl) (q := 25) rfl rfl (fun _ => ?_) (fun _ => ?_)
    · refine x_weak (L' := [.ref r0, .int x1, .int x2]) ⟨Or.inr rfl, Or.inr rfl, Or.inr rfl, trivial⟩ ?_
      exact x_X12_finishes_53 hC hE hk0 h_r0 _ _
    · refine x_aload_n (i := 0) rfl hC (zdk dk_X12_finishes 13 rfl) (q := 26) rfl ?_
      refine x_getR (k := 20) fl_RX12_7 rfl h_r0 hC (zdk dk_X12_finishes 14 rfl) (q := 29) rfl (fun q4 hq4 => ?_)
      refine x_iload_n (i := 2) rfl hC (zdk dk_X12_finishes 15 rfl) (q := 30) rfl ?_
      refine x_iald hq4 hC (zdk dk_X12_finishes 16 rfl) (q := 31) rfl (fun k5 _ => ?_)
      refine x_bipush (i := 32) c_bipush_32 hC (zdk dk_X12_finishes 17 rfl) (q := 33) rfl ?_
      refine x_icmp_eq (tgt := 47) hC (zdk dk_X12_finishes 18 rfl) (q := 36) rfl rfl (fun _ => ?_) (fun _ => ?_)
      · refine x_weak (L' := [.ref r0, .int x1, .int x2]) ⟨Or.inr rfl, Or.inr rfl, Or.inr rfl, trivial⟩ ?_
        exact x_X12_finishes_47 hC hE hk0 h_r0 (f_X12_finishes_17 r0 x1 f) ih _ _
      · refine x_aload_n (i := 0) rfl hC (zdk dk_X12_finishes 19 rfl) (q := 37) rfl ?_
        refine x_getR (k := 20) fl_RX12_7 rfl h_r0 hC (zdk dk_X12_finishes 20 rfl) (q := 40) rfl (fun q6 hq6 => ?_)
        refine x_iload_n (i := 2) rfl hC (zdk dk_X12_finishes 21 rfl) (q := 41) rfl ?_
        refine x_iald hq6 hC (zdk dk_X12_finishes 22 rfl) (q := 42) rfl (fun k7 _ => ?_)
        refine x_bipush (i := 10) c_bipush_10 hC (zdk dk_X12_finishes 23 rfl) (q := 44) rfl ?_
        refine x_icmp_ne (tgt := 53) hC (zdk dk_X12_finishes 24 rfl) (q := 47) rfl rfl (fun _ => ?_) (fun _ => ?_)
        · refine x_weak (L' := [.ref r0, .int x1, .int x2]) ⟨Or.inr rfl, Or.inr rfl, Or.inr rfl, trivial⟩ ?_
          exact x_X12_finishes_53 hC hE hk0 h_r0 _ _
        · refine x_weak (L' := [.ref r0, .int x1, .int x2]) ⟨Or.inr rfl, Or.inr rfl, Or.inr rfl, trivial⟩ ?_
          exact x_X12_finishes_47 hC hE hk0 h_r0 (f_X12_finishes_17 r0 x1 f) ih _ _
set_option maxRecDepth 100000 in
def f_X12_finishes (r0 : Nat) (x1 : Int32) (M : Mem) : Option Mem := Option.bind (f_X12_lex r0 M) fun M8 => (if zI M8 r0 8 ≤ 0 then f_X12_finishes_17 r0 x1 1000000 (zI M8 r0 5) M8 else some M8)
set_option maxRecDepth 100000 in
set_option maxHeartbeats 4000000 in
theorem x_X12_finishes {κ : KX} {n : Nat} (hC : CX κ cX12_finishes RX12 3 none 3) (hE : zEnd κ n (0, 0)) (hk0 : zRk κ (0, 0)) (r0 : Nat) (x1 : Int32) (M : Mem) (h_r0 : zO n r0 12) : X κ 3 emV n (0, 0) 0 [.ref r0, .int x1, .null] [] M (f_X12_finishes r0 x1 M) := by
  unfold f_X12_finishes
  refine x_aload_n (i := 0) rfl hC (zdk dk_X12_finishes 0 rfl) (q := 1) rfl ?_
  refine x_callVv (as := []) cb_RX12_262 rfl (by decide) hk0 h_r0 (fun x hx => t_X12_lex h_r0 x hx) hC (zdk dk_X12_finishes 1 rfl) (q := 4) rfl rfl (Nat.le_of_ble_eq_true rfl) (fun M8 => ?_)
  refine x_aload_n (i := 0) rfl hC (zdk dk_X12_finishes 2 rfl) (q := 5) rfl ?_
  refine x_getI fl_RX12_36 (by decide) h_r0 hC (zdk dk_X12_finishes 3 rfl) (q := 8) rfl ?_
  refine x_if_le (tgt := 12) hC (zdk dk_X12_finishes 4 rfl) (q := 11) rfl rfl (fun _ => ?_) (fun _ => ?_)
  · refine x_aload_n (i := 0) rfl hC (zdk dk_X12_finishes 6 rfl) (q := 13) rfl ?_
    refine x_getI fl_RX12_26 (by decide) h_r0 hC (zdk dk_X12_finishes 7 rfl) (q := 16) rfl ?_
    refine x_istore_n (i := 2) (L' := [.ref r0, .int x1, .int (zI M8 r0 5)]) (by decide) rfl hC (zdk dk_X12_finishes 8 rfl) (q := 17) rfl ?_
    refine x_weak (L' := [.ref r0, .int x1, .int (zI M8 r0 5)]) ⟨Or.inr rfl, Or.inr rfl, Or.inr rfl, trivial⟩ ?_
    exact x_X12_finishes_17 hC hE hk0 h_r0 _ _ _
  · exact x_vret hE hC (zdk dk_X12_finishes 5 rfl)
set_option maxRecDepth 100000 in
set_option maxHeartbeats 4000000 in
theorem t_X12_finishes {n : Nat} {r0 : Nat} {x1 : Int32} {M : Mem} (h_r0 : zO n r0 12) (x : Mem) (hx : f_X12_finishes r0 x1 M = some x) (l : Launch) (dC : Nat → ClassId) (dI : Nat → Nat → Nat) (b : zSg) : MT l dC dI b yX12_finishes cX12_finishes 3 none 3 0 0 n n [.ref r0, .int x1] M (emV x).1 (emV x).2 :=
  MT.ofX (by decide +kernel) rfl (Nat.le_of_ble_eq_true rfl) (fun κ hC hF _ => x_X12_finishes hC (zEnd_of hF (Nat.le_refl _) (Nat.le_refl _)) (zRk_of hF (Nat.le_refl _) (Nat.le_refl _)) _ _ _ h_r0) x hx
set_option maxRecDepth 100000 in
def dt_X12_begin : List (Nat × Instr × Nat) := [(0, .aload_n 0, 1), (1, .getfield 180, 3), (4, .iconst 0, 1), (5, .iconst 0, 1), (6, .iastore, 1), (7, .iconst 0, 1), (8, .istore_n 1, 1), (9, .iload_n 1, 1), (10, .bipush 6, 2), (12, .if_icmp .ge 16, 3), (15, .aload_n 0, 1), (16, .getfield 183, 3), (19, .iload_n 1, 1), (20, .iconst 0, 1), (21, .iastore, 1), (22, .iinc 1 1, 3), (25, .goto (-16), 3), (28, .aload_n 0, 1), (29, .getfield 195, 3), (32, .iconst 0, 1), (33, .iconst 0, 1), (34, .iastore, 1), (35, .aload_n 0, 1), (36, .iconst 0, 1), (37, .putfield 204, 3), (40, .aload_n 0, 1), (41, .iconst 0, 1), (42, .putfield 222, 3), (45, .return_, 1)]
set_option maxRecDepth 100000 in
theorem dk_X12_begin : dt_X12_begin.all (fun q => decide (decode cX12_begin q.1 = .ok q.2)) = true := by decide +kernel
set_option maxRecDepth 100000 in
def f_X12_begin_9  (r0 : Nat) : Nat → Int32 → Mem → Option Mem
  | 0, _, _ => none
  | f + 1, x1, M => (if 6 ≤ x1 then Option.bind (zrf M r0 60) fun q1 => Option.bind (zld q1 0) fun k2 => Option.bind (some (zsI M q1 k2 0)) fun M3 => Option.bind (some (zsI M3 r0 63 0)) fun M4 => Option.bind (some (zsI M4 r0 69 0)) fun M5 => some M5 else Option.bind (zrf M r0 56) fun q6 => Option.bind (zld q6 x1) fun k7 => Option.bind (some (zsI M q6 k7 0)) fun M8 => (f_X12_begin_9 r0 f) (x1 + 1) M8)
set_option maxRecDepth 100000 in
set_option maxHeartbeats 4000000 in
theorem x_X12_begin_9 {κ : KX} {n : Nat} (hC : CX κ cX12_begin RX12 2 none 0) (hE : zEnd κ n (0, 0)) (hk0 : zRk κ (0, 0)) {r0 : Nat} (h_r0 : zO n r0 12) : ∀ (f : Nat) (x1 : Int32) (M : Mem), X κ 2 emV n (0, 0) 9 [.ref r0, .int x1] [] M (f_X12_begin_9 r0 f x1 M) := by
  intro f
  induction f with
  | zero => intros; exact x_none
  | succ f ih =>
    intro x1 M 
    rw [f_X12_begin_9]
    refine x_iload_n (i := 1) rfl hC (zdk dk_X12_begin 7 rfl) (q := 10) rfl ?_
    refine x_bipush (i := 6) c_bipush_6 hC (zdk dk_X12_begin 8 rfl) (q := 12) rfl ?_
    refine x_icmp_ge (tgt := 28) hC (zdk dk_X12_begin 9 rfl) (q := 15) rfl rfl (fun _ => ?_) (fun _ => ?_)
    · refine x_aload_n (i := 0) rfl hC (zdk dk_X12_begin 17 rfl) (q := 29) rfl ?_
      refine x_getR (k := 20) fl_RX12_195 rfl h_r0 hC (zdk dk_X12_begin 18 rfl) (q := 32) rfl (fun q1 hq1 => ?_)
      refine x_iconst (i := 0) c_iconst_0 hC (zdk dk_X12_begin 19 rfl) (q := 33) rfl ?_
      refine x_iconst (i := 0) c_iconst_0 hC (zdk dk_X12_begin 20 rfl) (q := 34) rfl ?_
      refine x_iast hq1 hC (zdk dk_X12_begin 21 rfl) (q := 35) rfl (fun k2 _ => ?_)
      refine x_nmM (fun M3 => ?_)
      refine x_aload_n (i := 0) rfl hC (zdk dk_X12_begin 22 rfl) (q := 36) rfl ?_
      refine x_iconst (i := 0) c_iconst_0 hC (zdk dk_X12_begin 23 rfl) (q := 37) rfl ?_
      refine x_putI fl_RX12_204 ⟨rfl, rfl⟩ (by decide) (Or.inl rfl) h_r0 hC (zdk dk_X12_begin 24 rfl) (q := 40) rfl ?_
      refine x_nmM (fun M4 => ?_)
      refine x_aload_n (i := 0) rfl hC (zdk dk_X12_begin 25 rfl) (q := 41) rfl ?_
      refine x_iconst (i := 0) c_iconst_0 hC (zdk dk_X12_begin 26 rfl) (q := 42) rfl ?_
      refine x_putI fl_RX12_222 ⟨rfl, rfl⟩ (by decide) (Or.inl rfl) h_r0 hC (zdk dk_X12_begin 27 rfl) (q := 45) rfl ?_
      refine x_nmM (fun M5 => ?_)
      exact x_vret hE hC (zdk dk_X12_begin 28 rfl)
    · refine x_aload_n (i := 0) rfl hC (zdk dk_X12_begin 10 rfl) (q := 16) rfl ?_
      refine x_getR (k := 20) fl_RX12_183 rfl h_r0 hC (zdk dk_X12_begin 11 rfl) (q := 19) rfl (fun q6 hq6 => ?_)
      refine x_iload_n (i := 1) rfl hC (zdk dk_X12_begin 12 rfl) (q := 20) rfl ?_
      refine x_iconst (i := 0) c_iconst_0 hC (zdk dk_X12_begin 13 rfl) (q := 21) rfl ?_
      refine x_iast hq6 hC (zdk dk_X12_begin 14 rfl) (q := 22) rfl (fun k7 _ => ?_)
      refine x_nmM (fun M8 => ?_)
      refine x_iinc (i := 1) c_iconst_1 rfl (by decide) (L' := [.ref r0, .int (x1 + 1)]) rfl hC (zdk dk_X12_begin 15 rfl) (q := 25) rfl ?_
      refine x_goto (tgt := 9) hC (zdk dk_X12_begin 16 rfl) rfl ?_
      refine x_weak (L' := [.ref r0, .int (x1 + 1)]) ⟨Or.inr rfl, Or.inr rfl, trivial⟩ ?_
      exact ih _ _
set_option maxRecDepth 100000 in
def f_X12_begin (r0 : Nat) (M : Mem) : Option Mem := Option.bind (zrf M r0 55) fun q9 => Option.bind (zld q9 0) fun k10 => Option.bind (some (zsI M q9 k10 0)) fun M11 => f_X12_begin_9 r0 1000000 0 M11
set_option maxRecDepth 100000 in
set_option maxHeartbeats 4000000 in
theorem x_X12_begin {κ : KX} {n : Nat} (hC : CX κ cX12_begin RX12 2 none 0) (hE : zEnd κ n (0, 0)) (hk0 : zRk κ (0, 0)) (r0 : Nat) (M : Mem) (h_r0 : zO n r0 12) : X κ 2 emV n (0, 0) 0 [.ref r0, .null] [] M (f_X12_begin r0 M) := by
  unfold f_X12_begin
  refine x_aload_n (i := 0) rfl hC (zdk dk_X12_begin 0 rfl) (q := 1) rfl ?_
  refine x_getR (k := 20) fl_RX12_180 rfl h_r0 hC (zdk dk_X12_begin 1 rfl) (q := 4) rfl (fun q9 hq9 => ?_)
  refine x_iconst (i := 0) c_iconst_0 hC (zdk dk_X12_begin 2 rfl) (q := 5) rfl ?_
  refine x_iconst (i := 0) c_iconst_0 hC (zdk dk_X12_begin 3 rfl) (q := 6) rfl ?_
  refine x_iast hq9 hC (zdk dk_X12_begin 4 rfl) (q := 7) rfl (fun k10 _ => ?_)
  refine x_nmM (fun M11 => ?_)
  refine x_iconst (i := 0) c_iconst_0 hC (zdk dk_X12_begin 5 rfl) (q := 8) rfl ?_
  refine x_istore_n (i := 1) (L' := [.ref r0, .int 0]) (by decide) rfl hC (zdk dk_X12_begin 6 rfl) (q := 9) rfl ?_
  refine x_weak (L' := [.ref r0, .int 0]) ⟨Or.inr rfl, Or.inr rfl, trivial⟩ ?_
  exact x_X12_begin_9 hC hE hk0 h_r0 _ _ _
set_option maxRecDepth 100000 in
set_option maxHeartbeats 4000000 in
theorem t_X12_begin {n : Nat} {r0 : Nat} {M : Mem} (h_r0 : zO n r0 12) (x : Mem) (hx : f_X12_begin r0 M = some x) (l : Launch) (dC : Nat → ClassId) (dI : Nat → Nat → Nat) (b : zSg) : MT l dC dI b yX12_begin cX12_begin 2 none 0 0 0 n n [.ref r0] M (emV x).1 (emV x).2 :=
  MT.ofX (by decide +kernel) rfl (Nat.le_of_ble_eq_true rfl) (fun κ hC hF _ => x_X12_begin hC (zEnd_of hF (Nat.le_refl _) (Nat.le_refl _)) (zRk_of hF (Nat.le_refl _) (Nat.le_refl _)) _ _ h_r0) x hx
set_option maxRecDepth 100000 in
def dt_X12_by : List (Nat × Instr × Nat) := [(0, .aload_n 0, 1), (1, .getfield 54, 3), (4, .bipush 10, 2), (6, .aload_n 0, 1), (7, .getfield 51, 3), (10, .imul, 1), (11, .iload_n 1, 1), (12, .iadd, 1), (13, .iaload, 1), (14, .ireturn, 1)]
set_option maxRecDepth 100000 in
theorem dk_X12_by : dt_X12_by.all (fun q => decide (decode cX12_by q.1 = .ok q.2)) = true := by decide +kernel
set_option maxRecDepth 100000 in
def f_X12_by (r0 : Nat) (x1 : Int32) (M : Mem) : Option (Int32 × Mem) := Option.bind (zrf M r0 14) fun q1 => Option.bind (zld q1 ((10 * (zI M r0 13)) + x1)) fun k2 => some (zI M q1 k2, M)
set_option maxRecDepth 100000 in
set_option maxHeartbeats 4000000 in
theorem x_X12_by {κ : KX} {n : Nat} (hC : CX κ cX12_by RX12 2 (some .int) 0) (hE : zEnd κ n (0, 0)) (hk0 : zRk κ (0, 0)) (r0 : Nat) (x1 : Int32) (M : Mem) (h_r0 : zO n r0 12) : X κ 2 emI n (0, 0) 0 [.ref r0, .int x1] [] M (f_X12_by r0 x1 M) := by
  unfold f_X12_by
  refine x_aload_n (i := 0) rfl hC (zdk dk_X12_by 0 rfl) (q := 1) rfl ?_
  refine x_getR (k := 20) fl_RX12_54 rfl h_r0 hC (zdk dk_X12_by 1 rfl) (q := 4) rfl (fun q1 hq1 => ?_)
  refine x_bipush (i := 10) c_bipush_10 hC (zdk dk_X12_by 2 rfl) (q := 6) rfl ?_
  refine x_aload_n (i := 0) rfl hC (zdk dk_X12_by 3 rfl) (q := 7) rfl ?_
  refine x_getI fl_RX12_51 (by decide) h_r0 hC (zdk dk_X12_by 4 rfl) (q := 10) rfl ?_
  refine x_imul hC (zdk dk_X12_by 5 rfl) (q := 11) rfl ?_
  refine x_iload_n (i := 1) rfl hC (zdk dk_X12_by 6 rfl) (q := 12) rfl ?_
  refine x_iadd hC (zdk dk_X12_by 7 rfl) (q := 13) rfl ?_
  refine x_iald hq1 hC (zdk dk_X12_by 8 rfl) (q := 14) rfl (fun k2 _ => ?_)
  exact x_iret (ty := .int) rfl hE hC (zdk dk_X12_by 9 rfl)
set_option maxRecDepth 100000 in
set_option maxHeartbeats 4000000 in
theorem t_X12_by {n : Nat} {r0 : Nat} {x1 : Int32} {M : Mem} (h_r0 : zO n r0 12) (x : (Int32 × Mem)) (hx : f_X12_by r0 x1 M = some x) (l : Launch) (dC : Nat → ClassId) (dI : Nat → Nat → Nat) (b : zSg) : MT l dC dI b yX12_by cX12_by 2 (some .int) 0 0 0 n n [.ref r0, .int x1] M (emI x).1 (emI x).2 :=
  MT.ofX (by decide +kernel) rfl (Nat.le_of_ble_eq_true rfl) (fun κ hC hF _ => x_X12_by hC (zEnd_of hF (Nat.le_refl _) (Nat.le_refl _)) (zRk_of hF (Nat.le_refl _) (Nat.le_refl _)) _ _ _ h_r0) x hx
set_option maxRecDepth 100000 in
def dt_X12_times : List (Nat × Instr × Nat) := [(0, .iload_n 1, 1), (1, .ifCond .eq 7, 3), (4, .iload_n 2, 1), (5, .ifCond .ne 7, 3), (8, .iconst 0, 1), (9, .goto 26, 3), (12, .aload_n 0, 1), (13, .getfield 141, 3), (16, .aload_n 0, 1), (17, .getfield 144, 3), (20, .iload_n 1, 1), (21, .iaload, 1), (22, .aload_n 0, 1), (23, .getfield 144, 3), (26, .iload_n 2, 1), (27, .iaload, 1), (28, .iadd, 1), (29, .aload_n 0, 1), (30, .getfield 126, 3), (33, .irem, 1), (34, .iaload, 1), (35, .ireturn, 1)]
set_option maxRecDepth 100000 in
theorem dk_X12_times : dt_X12_times.all (fun q => decide (decode cX12_times q.1 = .ok q.2)) = true := by decide +kernel
set_option maxRecDepth 100000 in
def f_X12_times_35  (r0 : Nat) (x1 : Int32) (x2 : Int32) (s0 : Int32) (M : Mem) : Option (Int32 × Mem) := some (s0, M)
set_option maxRecDepth 100000 in
set_option maxHeartbeats 4000000 in
theorem x_X12_times_35 {κ : KX} {n : Nat} (hC : CX κ cX12_times RX12 3 (some .int) 0) (hE : zEnd κ n (0, 0)) (hk0 : zRk κ (0, 0)) {r0 : Nat} {x1 : Int32} {x2 : Int32} (h_r0 : zO n r0 12) (s0 : Int32) (M : Mem) : X κ 3 emI n (0, 0) 35 [.null, .null, .null] [.int s0] M (f_X12_times_35 r0 x1 x2 s0 M) := by
  unfold f_X12_times_35
  exact x_iret (ty := .int) rfl hE hC (zdk dk_X12_times 21 rfl)
set_option maxRecDepth 100000 in
def f_X12_times_8  (r0 : Nat) (x1 : Int32) (x2 : Int32)  (M : Mem) : Option (Int32 × Mem) := f_X12_times_35 r0 x1 x2 0 M
set_option maxRecDepth 100000 in
set_option maxHeartbeats 4000000 in
theorem x_X12_times_8 {κ : KX} {n : Nat} (hC : CX κ cX12_times RX12 3 (some .int) 0) (hE : zEnd κ n (0, 0)) (hk0 : zRk κ (0, 0)) {r0 : Nat} {x1 : Int32} {x2 : Int32} (h_r0 : zO n r0 12) (M : Mem) : X κ 3 emI n (0, 0) 8 [.null, .null, .null] [] M (f_X12_times_8 r0 x1 x2 M) := by
  unfold f_X12_times_8
  refine x_iconst (i := 0) c_iconst_0 hC (zdk dk_X12_times 4 rfl) (q := 9) rfl ?_
  refine x_goto (tgt := 35) hC (zdk dk_X12_times 5 rfl) rfl ?_
  refine x_weak (L' := [.null, .null, .null]) ⟨Or.inl rfl, Or.inl rfl, Or.inl rfl, trivial⟩ ?_
  exact x_X12_times_35 hC hE hk0 h_r0 _ _
set_option maxRecDepth 100000 in
def f_X12_times (r0 : Nat) (x1 : Int32) (x2 : Int32) (M : Mem) : Option (Int32 × Mem) := (if x1 = 0 then f_X12_times_8 r0 x1 x2 M else (if x2 = 0 then f_X12_times_8 r0 x1 x2 M else Option.bind (zrf M r0 42) fun q1 => Option.bind (zrf M r0 43) fun q2 => Option.bind (zld q2 x1) fun k3 => Option.bind (zrf M r0 43) fun q4 => Option.bind (zld q4 x2) fun k5 => if zI M r0 37 = 0 then none else Option.bind (zld q1 (zrem ((zI M q2 k3) + (zI M q4 k5)) (zI M r0 37))) fun k6 => f_X12_times_35 r0 x1 x2 (zI M q1 k6) M))
set_option maxRecDepth 100000 in
set_option maxHeartbeats 4000000 in
theorem x_X12_times {κ : KX} {n : Nat} (hC : CX κ cX12_times RX12 3 (some .int) 0) (hE : zEnd κ n (0, 0)) (hk0 : zRk κ (0, 0)) (r0 : Nat) (x1 : Int32) (x2 : Int32) (M : Mem) (h_r0 : zO n r0 12) : X κ 3 emI n (0, 0) 0 [.ref r0, .int x1, .int x2] [] M (f_X12_times r0 x1 x2 M) := by
  unfold f_X12_times
  refine x_iload_n (i := 1) rfl hC (zdk dk_X12_times 0 rfl) (q := 1) rfl ?_
  refine x_if_eq (tgt := 8) hC (zdk dk_X12_times 1 rfl) (q := 4) rfl rfl (fun _ => ?_) (fun _ => ?_)
  · refine x_weak (L' := [.null, .null, .null]) ⟨Or.inl rfl, Or.inl rfl, Or.inl rfl, trivial⟩ ?_
    exact x_X12_times_8 hC hE hk0 h_r0 _
  · refine x_iload_n (i := 2) rfl hC (zdk dk_X12_times 2 rfl) (q := 5) rfl ?_
    refine x_if_ne (tgt := 12) hC (zdk dk_X12_times 3 rfl) (q := 8) rfl rfl (fun _ => ?_) (fun _ => ?_)
    · refine x_aload_n (i := 0) rfl hC (zdk dk_X12_times 6 rfl) (q := 13) rfl ?_
      refine x_getR (k := 20) fl_RX12_141 rfl h_r0 hC (zdk dk_X12_times 7 rfl) (q := 16) rfl (fun q1 hq1 => ?_)
      refine x_aload_n (i := 0) rfl hC (zdk dk_X12_times 8 rfl) (q := 17) rfl ?_
      refine x_getR (k := 20) fl_RX12_144 rfl h_r0 hC (zdk dk_X12_times 9 rfl) (q := 20) rfl (fun q2 hq2 => ?_)
      refine x_iload_n (i := 1) rfl hC (zdk dk_X12_times 10 rfl) (q := 21) rfl ?_
      refine x_iald hq2 hC (zdk dk_X12_times 11 rfl) (q := 22) rfl (fun k3 _ => ?_)
      refine x_aload_n (i := 0) rfl hC (zdk dk_X12_times 12 rfl) (q := 23) rfl ?_
      refine x_getR (k := 20) fl_RX12_144 rfl h_r0 hC (zdk dk_X12_times 13 rfl) (q := 26) rfl (fun q4 hq4 => ?_)
      refine x_iload_n (i := 2) rfl hC (zdk dk_X12_times 14 rfl) (q := 27) rfl ?_
      refine x_iald hq4 hC (zdk dk_X12_times 15 rfl) (q := 28) rfl (fun k5 _ => ?_)
      refine x_iadd hC (zdk dk_X12_times 16 rfl) (q := 29) rfl ?_
      refine x_aload_n (i := 0) rfl hC (zdk dk_X12_times 17 rfl) (q := 30) rfl ?_
      refine x_getI fl_RX12_126 (by decide) h_r0 hC (zdk dk_X12_times 18 rfl) (q := 33) rfl ?_
      refine x_iremG hC (zdk dk_X12_times 19 rfl) (q := 34) rfl ?_
      refine x_iald hq1 hC (zdk dk_X12_times 20 rfl) (q := 35) rfl (fun k6 _ => ?_)
      refine x_weak (L' := [.null, .null, .null]) ⟨Or.inl rfl, Or.inl rfl, Or.inl rfl, trivial⟩ ?_
      exact x_X12_times_35 hC hE hk0 h_r0 _ _
    · refine x_weak (L' := [.null, .null, .null]) ⟨Or.inl rfl, Or.inl rfl, Or.inl rfl, trivial⟩ ?_
      exact x_X12_times_8 hC hE hk0 h_r0 _
set_option maxRecDepth 100000 in
set_option maxHeartbeats 4000000 in
theorem t_X12_times {n : Nat} {r0 : Nat} {x1 : Int32} {x2 : Int32} {M : Mem} (h_r0 : zO n r0 12) (x : (Int32 × Mem)) (hx : f_X12_times r0 x1 x2 M = some x) (l : Launch) (dC : Nat → ClassId) (dI : Nat → Nat → Nat) (b : zSg) : MT l dC dI b yX12_times cX12_times 3 (some .int) 0 0 0 n n [.ref r0, .int x1, .int x2] M (emI x).1 (emI x).2 :=
  MT.ofX (by decide +kernel) rfl (Nat.le_of_ble_eq_true rfl) (fun κ hC hF _ => x_X12_times hC (zEnd_of hF (Nat.le_refl _) (Nat.le_refl _)) (zRk_of hF (Nat.le_refl _) (Nat.le_refl _)) _ _ _ _ h_r0) x hx
set_option maxRecDepth 100000 in
def dt_X12_multiplies : List (Nat × Instr × Nat) := [(0, .aload_n 0, 1), (1, .getfield 147, 3), (4, .iload_n 1, 1), (5, .iconst 1, 1), (6, .iadd, 1), (7, .iconst 0, 1), (8, .iastore, 1), (9, .iload_n 1, 1), (10, .iconst 1, 1), (11, .iadd, 1), (12, .istore_n 3, 1), (13, .iload_n 3, 1), (14, .ifCond .lt 48, 3), (17, .aload_n 0, 1), (18, .getfield 147, 3), (21, .iload_n 3, 1), (22, .iload_n 3, 1), (23, .ifCond .le 14, 3), (26, .aload_n 0, 1), (27, .getfield 147, 3), (30, .iload_n 3, 1), (31, .iconst 1, 1), (32, .isub, 1), (33, .iaload, 1), (34, .goto 4, 3), (37, .iconst 0, 1), (38, .aload_n 0, 1), (39, .aload_n 0, 1), (40, .getfield 147, 3), (43, .iload_n 3, 1), (44, .iaload, 1), (45, .aload_n 0, 1), (46, .getfield 141, 3), (49, .iload_n 2, 1), (50, .iaload, 1), (51, .invokevirtual 425, 3), (54, .ixor, 1), (55, .iastore, 1), (56, .iinc 3 (-1), 3), (59, .goto (-46), 3), (62, .return_, 1)]
set_option maxRecDepth 100000 in
theorem dk_X12_multiplies : dt_X12_multiplies.all (fun q => decide (decode cX12_multiplies q.1 = .ok q.2)) = true := by decide +kernel
set_option maxRecDepth 100000 in
def f_X12_multiplies_38 (k13 : Int32 → Mem → Option Mem) (r0 : Nat) (x1 : Int32) (x2 : Int32) (x3 : Int32) (s0 : Nat) (s1 : Int32) (s2 : Int32) (M : Mem) : Option Mem := Option.bind (zrf M r0 44) fun q1 => Option.bind (zld q1 x3) fun k2 => Option.bind (zrf M r0 42) fun q3 => Option.bind (zld q3 x2) fun k4 => Option.bind (f_X12_times r0 (zI M q1 k2) (zI M q3 k4) M) fun z5 => Option.bind (zld s0 s1) fun k6 => Option.bind (some (zsI z5.2 s0 k6 (s2 ^^^ z5.1))) fun M7 => k13 (x3 + (-1)) M7
set_option maxRecDepth 100000 in
set_option maxHeartbeats 4000000 in
theorem x_X12_multiplies_38 {κ : KX} {n : Nat} (hC : CX κ cX12_multiplies RX12 4 none 1) (hE : zEnd κ n (0, 0)) (hk0 : zRk κ (0, 0)) {r0 : Nat} {x1 : Int32} {x2 : Int32} (h_r0 : zO n r0 12) (k13 : Int32 → Mem → Option Mem) (hk13 : ∀ (x3 : Int32) (M : Mem), X κ 4 emV n (0, 0) 13 [.ref r0, .null, .int x2, .int x3] [] M (k13 x3 M)) (x3 : Int32) (s0 : Nat) (s1 : Int32) (s2 : Int32) (M : Mem) (h_s0 : zO n s0 20) : X κ 4 emV n (0, 0) 38 [.ref r0, .null, .int x2, .int x3] [.int s2, .int s1, .ref s0] M (f_X12_multiplies_38 k13 r0 x1 x2 x3 s0 s1 s2 M) := by
  unfold f_X12_multiplies_38
  refine x_aload_n (i := 0) rfl hC (zdk dk_X12_multiplies 26 rfl) (q := 39) rfl ?_
  refine x_aload_n (i := 0) rfl hC (zdk dk_X12_multiplies 27 rfl) (q := 40) rfl ?_
  refine x_getR (k := 20) fl_RX12_147 rfl h_r0 hC (zdk dk_X12_multiplies 28 rfl) (q := 43) rfl (fun q1 hq1 => ?_)
  refine x_iload_n (i := 3) rfl hC (zdk dk_X12_multiplies 29 rfl) (q := 44) rfl ?_
  refine x_iald hq1 hC (zdk dk_X12_multiplies 30 rfl) (q := 45) rfl (fun k2 _ => ?_)
  refine x_aload_n (i := 0) rfl hC (zdk dk_X12_multiplies 31 rfl) (q := 46) rfl ?_
  refine x_getR (k := 20) fl_RX12_141 rfl h_r0 hC (zdk dk_X12_multiplies 32 rfl) (q := 49) rfl (fun q3 hq3 => ?_)
  refine x_iload_n (i := 2) rfl hC (zdk dk_X12_multiplies 33 rfl) (q := 50) rfl ?_
  refine x_iald hq3 hC (zdk dk_X12_multiplies 34 rfl) (q := 51) rfl (fun k4 _ => ?_)
  refine x_callVi (as := [.int (zI M q1 k2), .int (zI M q3 k4)]) cb_RX12_425 rfl (by decide) hk0 h_r0 (fun x hx => t_X12_times h_r0 x hx) hC (zdk dk_X12_multiplies 35 rfl) (q := 54) rfl rfl (Nat.le_of_ble_eq_true rfl) (fun z5 => ?_)
  refine x_ixor hC (zdk dk_X12_multiplies 36 rfl) (q := 55) rfl ?_
  refine x_iast h_s0 hC (zdk dk_X12_multiplies 37 rfl) (q := 56) rfl (fun k6 _ => ?_)
  refine x_nmM (fun M7 => ?_)
  refine x_iinc (i := 3) c_iconst_m1 rfl (by decide) (L' := [.ref r0, .null, .int x2, .int (x3 + (-1))]) rfl hC (zdk dk_X12_multiplies 38 rfl) (q := 59) rfl ?_
  refine x_goto (tgt := 13) hC (zdk dk_X12_multiplies 39 rfl) rfl ?_
  refine x_weak (L' := [.ref r0, .null, .int x2, .int (x3 + (-1))]) ⟨Or.inr rfl, Or.inl rfl, Or.inr rfl, Or.inr rfl, trivial⟩ ?_
  exact hk13 _ _
set_option maxRecDepth 100000 in
def f_X12_multiplies_13  (r0 : Nat) (x1 : Int32) (x2 : Int32) : Nat → Int32 → Mem → Option Mem
  | 0, _, _ => none
  | f + 1, x3, M => (if x3 < 0 then some M else Option.bind (zrf M r0 44) fun q8 => (if x3 ≤ 0 then f_X12_multiplies_38 (f_X12_multiplies_13 r0 x1 x2 f) r0 x1 x2 x3 q8 x3 0 M else Option.bind (zrf M r0 44) fun q9 => Option.bind (zld q9 (x3 - 1)) fun k10 => f_X12_multiplies_38 (f_X12_multiplies_13 r0 x1 x2 f) r0 x1 x2 x3 q8 x3 (zI M q9 k10) M))
set_option maxRecDepth 100000 in
set_option maxHeartbeats 4000000 in
theorem x_X12_multiplies_13 {κ : KX} {n : Nat} (hC : CX κ cX12_multiplies RX12 4 none 1) (hE : zEnd κ n (0, 0)) (hk0 : zRk κ (0, 0)) {r0 : Nat} {x1 : Int32} {x2 : Int32} (h_r0 : zO n r0 12) : ∀ (f : Nat) (x3 : Int32) (M : Mem), X κ 4 emV n (0, 0) 13 [.ref r0, .null, .int x2, .int x3] [] M (f_X12_multiplies_13 r0 x1 x2 f x3 M) := by
  intro f
  induction f with
  | zero => intros; exact x_none
  | succ f ih =>
    intro x3 M 
    rw [f_X12_multiplies_13]
    refine x_iload_n (i := 3) rfl hC (zdk dk_X12_multiplies 11 rfl) (q := 14) rfl ?_
    refine x_if_lt (tgt := 62) hC (zdk dk_X12_multiplies 12 rfl) (q := 17) rfl rfl (fun _ => ?_) (fun _ => ?_)
    · exact x_vret hE hC (zdk dk_X12_multiplies 40 rfl)
    · refine x_aload_n (i := 0) rfl hC (zdk dk_X12_multiplies 13 rfl) (q := 18) rfl ?_
      refine x_getR (k := 20) fl_RX12_147 rfl h_r0 hC (zdk dk_X12_multiplies 14 rfl) (q := 21) rfl (fun q8 hq8 => ?_)
      refine x_iload_n (i := 3) rfl hC (zdk dk_X12_multiplies 15 rfl) (q := 22) rfl ?_
      refine x_iload_n (i := 3) rfl hC (zdk dk_X12_multiplies 16 rfl) (q := 23) rfl ?_
      refine x_if_le (tgt := 37) hC (zdk dk_X12_multiplies 17 rfl) (q := 26) rfl rfl (fun _ => ?_) (fun _ => ?_)
      · refine x_iconst (i := 0) c_iconst_0 hC (zdk dk_X12_multiplies 25 rfl) (q := 38) rfl ?_
        refine x_weak (L' := [.ref r0, .null, .int x2, .int x3]) ⟨Or.inr rfl, Or.inl rfl, Or.inr rfl, Or.inr rfl, trivial⟩ ?_
        exact x_X12_multiplies_38 hC hE hk0 h_r0 (f_X12_multiplies_13 r0 x1 x2 f) ih _ _ _ _ _ hq8
      · refine x_aload_n (i := 0) rfl hC (zdk dk_X12_multiplies 18 rfl) (q := 27) rfl ?_
        refine x_getR (k := 20) fl_RX12_147 rfl h_r0 hC (zdk dk_X12_multiplies 19 rfl) (q := 30) rfl (fun q9 hq9 => ?_)
        refine x_iload_n (i := 3) rfl hC (zdk dk_X12_multiplies 20 rfl) (q := 31) rfl ?_
        refine x_iconst (i := 1) c_iconst_1 hC (zdk dk_X12_multiplies 21 rfl) (q := 32) rfl ?_
        refine x_isub hC (zdk dk_X12_multiplies 22 rfl) (q := 33) rfl ?_
        refine x_iald hq9 hC (zdk dk_X12_multiplies 23 rfl) (q := 34) rfl (fun k10 _ => ?_)
        refine x_goto (tgt := 38) hC (zdk dk_X12_multiplies 24 rfl) rfl ?_
        refine x_weak (L' := [.ref r0, .null, .int x2, .int x3]) ⟨Or.inr rfl, Or.inl rfl, Or.inr rfl, Or.inr rfl, trivial⟩ ?_
        exact x_X12_multiplies_38 hC hE hk0 h_r0 (f_X12_multiplies_13 r0 x1 x2 f) ih _ _ _ _ _ hq8
set_option maxRecDepth 100000 in
def f_X12_multiplies (r0 : Nat) (x1 : Int32) (x2 : Int32) (M : Mem) : Option Mem := Option.bind (zrf M r0 44) fun q11 => Option.bind (zld q11 (x1 + 1)) fun k12 => Option.bind (some (zsI M q11 k12 0)) fun M13 => f_X12_multiplies_13 r0 x1 x2 1000000 (x1 + 1) M13
set_option maxRecDepth 100000 in
set_option maxHeartbeats 4000000 in
theorem x_X12_multiplies {κ : KX} {n : Nat} (hC : CX κ cX12_multiplies RX12 4 none 1) (hE : zEnd κ n (0, 0)) (hk0 : zRk κ (0, 0)) (r0 : Nat) (x1 : Int32) (x2 : Int32) (M : Mem) (h_r0 : zO n r0 12) : X κ 4 emV n (0, 0) 0 [.ref r0, .int x1, .int x2, .null] [] M (f_X12_multiplies r0 x1 x2 M) := by
  unfold f_X12_multiplies
  refine x_aload_n (i := 0) rfl hC (zdk dk_X12_multiplies 0 rfl) (q := 1) rfl ?_
  refine x_getR (k := 20) fl_RX12_147 rfl h_r0 hC (zdk dk_X12_multiplies 1 rfl) (q := 4) rfl (fun q11 hq11 => ?_)
  refine x_iload_n (i := 1) rfl hC (zdk dk_X12_multiplies 2 rfl) (q := 5) rfl ?_
  refine x_iconst (i := 1) c_iconst_1 hC (zdk dk_X12_multiplies 3 rfl) (q := 6) rfl ?_
  refine x_iadd hC (zdk dk_X12_multiplies 4 rfl) (q := 7) rfl ?_
  refine x_iconst (i := 0) c_iconst_0 hC (zdk dk_X12_multiplies 5 rfl) (q := 8) rfl ?_
  refine x_iast hq11 hC (zdk dk_X12_multiplies 6 rfl) (q := 9) rfl (fun k12 _ => ?_)
  refine x_nmM (fun M13 => ?_)
  refine x_iload_n (i := 1) rfl hC (zdk dk_X12_multiplies 7 rfl) (q := 10) rfl ?_
  refine x_iconst (i := 1) c_iconst_1 hC (zdk dk_X12_multiplies 8 rfl) (q := 11) rfl ?_
  refine x_iadd hC (zdk dk_X12_multiplies 9 rfl) (q := 12) rfl ?_
  refine x_istore_n (i := 3) (L' := [.ref r0, .int x1, .int x2, .int (x1 + 1)]) (by decide) rfl hC (zdk dk_X12_multiplies 10 rfl) (q := 13) rfl ?_
  refine x_weak (L' := [.ref r0, .null, .int x2, .int (x1 + 1)]) ⟨Or.inr rfl, Or.inl rfl, Or.inr rfl, Or.inr rfl, trivial⟩ ?_
  exact x_X12_multiplies_13 hC hE hk0 h_r0 _ _ _
set_option maxRecDepth 100000 in
set_option maxHeartbeats 4000000 in
theorem t_X12_multiplies {n : Nat} {r0 : Nat} {x1 : Int32} {x2 : Int32} {M : Mem} (h_r0 : zO n r0 12) (x : Mem) (hx : f_X12_multiplies r0 x1 x2 M = some x) (l : Launch) (dC : Nat → ClassId) (dI : Nat → Nat → Nat) (b : zSg) : MT l dC dI b yX12_multiplies cX12_multiplies 4 none 1 0 0 n n [.ref r0, .int x1, .int x2] M (emV x).1 (emV x).2 :=
  MT.ofX (by decide +kernel) rfl (Nat.le_of_ble_eq_true rfl) (fun κ hC hF _ => x_X12_multiplies hC (zEnd_of hF (Nat.le_refl _) (Nat.le_refl _)) (zRk_of hF (Nat.le_refl _) (Nat.le_refl _)) _ _ _ _ h_r0) x hx
set_option maxRecDepth 100000 in
def dt_X12_twoElements : List (Nat × Instr × Nat) := [(0, .lconst 0, 1), (1, .lstore_n 2, 1), (2, .iconst 0, 1), (3, .istore 4, 2), (5, .iload 4, 2), (7, .iload_n 1, 1), (8, .if_icmp .gt 31, 3), (11, .lload_n 2, 1), (12, .aload_n 0, 1), (13, .getfield 147, 3), (16, .iload 4, 2), (18, .iaload, 1), (19, .iconst 1, 1), (20, .if_icmp .ne 10, 3), (23, .lconst 1, 1), (24, .iload 4, 2), (26, .lshl, 1), (27, .goto 4, 3), (30, .lconst 0, 1), (31, .lor, 1), (32, .lstore_n 2, 1), (33, .iinc 4 1, 3), (36, .goto (-31), 3), (39, .lload_n 2, 1), (40, .lreturn, 1)]
set_option maxRecDepth 100000 in
theorem dk_X12_twoElements : dt_X12_twoElements.all (fun q => decide (decode cX12_twoElements q.1 = .ok q.2)) = true := by decide +kernel
set_option maxRecDepth 100000 in
def f_X12_twoElements_31 (k5 : Int64 → Int32 → Mem → Option (Int64 × Mem)) (r0 : Nat) (x1 : Int32) (x4 : Int32) (s0 : Int64) (s1 : Int64) (M : Mem) : Option (Int64 × Mem) := k5 (s0 ||| s1) (x4 + 1) M
set_option maxRecDepth 100000 in
set_option maxHeartbeats 4000000 in
theorem x_X12_twoElements_31 {κ : KX} {n : Nat} (hC : CX κ cX12_twoElements RX12 5 (some .long) 0) (hE : zEnd κ n (0, 0)) (hk0 : zRk κ (0, 0)) {r0 : Nat} {x1 : Int32} (h_r0 : zO n r0 12) (k5 : Int64 → Int32 → Mem → Option (Int64 × Mem)) (hk5 : ∀ (y2 : Int64) (x4 : Int32) (M : Mem), X κ 5 emL n (0, 0) 5 [.ref r0, .int x1, .long y2, .null, .int x4] [] M (k5 y2 x4 M)) (x4 : Int32) (s0 : Int64) (s1 : Int64) (M : Mem) : X κ 5 emL n (0, 0) 31 [.ref r0, .int x1, .null, .null, .int x4] [.long s1, .long s0] M (f_X12_twoElements_31 k5 r0 x1 x4 s0 s1 M) := by
  unfold f_X12_twoElements_31
  refine x_lor hC (zdk dk_X12_twoElements 19 rfl) (q := 32) rfl ?_
  refine x_lstore_n (i := 2) (L' := [.ref r0, .int x1, .long (s0 ||| s1), .null, .int x4]) (by decide) rfl hC (zdk dk_X12_twoElements 20 rfl) (q := 33) rfl ?_
  refine x_iinc (i := 4) c_iconst_1 rfl (by decide) (L' := [.ref r0, .int x1, .long (s0 ||| s1), .null, .int (x4 + 1)]) rfl hC (zdk dk_X12_twoElements 21 rfl) (q := 36) rfl ?_
  refine x_goto (tgt := 5) hC (zdk dk_X12_twoElements 22 rfl) rfl ?_
  refine x_weak (L' := [.ref r0, .int x1, .long (s0 ||| s1), .null, .int (x4 + 1)]) ⟨Or.inr rfl, Or.inr rfl, Or.inr rfl, Or.inl rfl, Or.inr rfl, trivial⟩ ?_
  exact hk5 _ _ _
set_option maxRecDepth 100000 in
def f_X12_twoElements_5  (r0 : Nat) (x1 : Int32) : Nat → Int64 → Int32 → Mem → Option (Int64 × Mem)
  | 0, _, _, _ => none
  | f + 1, y2, x4, M => (if x1 < x4 then some (y2, M) else Option.bind (zrf M r0 44) fun q1 => Option.bind (zld q1 x4) fun k2 => (if zI M q1 k2 = 1 then f_X12_twoElements_31 (f_X12_twoElements_5 r0 x1 f) r0 x1 x4 y2 ((1 : Int64) <<< (x4.toInt64 &&& 63)) M else f_X12_twoElements_31 (f_X12_twoElements_5 r0 x1 f) r0 x1 x4 y2 0 M))
set_option maxRecDepth 100000 in
set_option maxHeartbeats 4000000 in
theorem x_X12_twoElements_5 {κ : KX} {n : Nat} (hC : CX κ cX12_twoElements RX12 5 (some .long) 0) (hE : zEnd κ n (0, 0)) (hk0 : zRk κ (0, 0)) {r0 : Nat} {x1 : Int32} (h_r0 : zO n r0 12) : ∀ (f : Nat) (y2 : Int64) (x4 : Int32) (M : Mem), X κ 5 emL n (0, 0) 5 [.ref r0, .int x1, .long y2, .null, .int x4] [] M (f_X12_twoElements_5 r0 x1 f y2 x4 M) := by
  intro f
  induction f with
  | zero => intros; exact x_none
  | succ f ih =>
    intro y2 x4 M 
    rw [f_X12_twoElements_5]
    refine x_iload (i := 4) rfl hC (zdk dk_X12_twoElements 4 rfl) (q := 7) rfl ?_
    refine x_iload_n (i := 1) rfl hC (zdk dk_X12_twoElements 5 rfl) (q := 8) rfl ?_
    refine x_icmp_gt (tgt := 39) hC (zdk dk_X12_twoElements 6 rfl) (q := 11) rfl rfl (fun _ => ?_) (fun _ => ?_)
    · refine x_lload_n (i := 2) rfl hC (zdk dk_X12_twoElements 23 rfl) (q := 40) rfl ?_
      exact x_lret hE hC (zdk dk_X12_twoElements 24 rfl)
    · refine x_lload_n (i := 2) rfl hC (zdk dk_X12_twoElements 7 rfl) (q := 12) rfl ?_
      refine x_aload_n (i := 0) rfl hC (zdk dk_X12_twoElements 8 rfl) (q := 13) rfl ?_
      refine x_getR (k := 20) fl_RX12_147 rfl h_r0 hC (zdk dk_X12_twoElements 9 rfl) (q := 16) rfl (fun q1 hq1 => ?_)
      refine x_iload (i := 4) rfl hC (zdk dk_X12_twoElements 10 rfl) (q := 18) rfl ?_
      refine x_iald hq1 hC (zdk dk_X12_twoElements 11 rfl) (q := 19) rfl (fun k2 _ => ?_)
      refine x_iconst (i := 1) c_iconst_1 hC (zdk dk_X12_twoElements 12 rfl) (q := 20) rfl ?_
      refine x_icmp_ne (tgt := 30) hC (zdk dk_X12_twoElements 13 rfl) (q := 23) rfl rfl (fun _ => ?_) (fun _ => ?_)
      · refine x_lconst (i := 0) c_lconst_0 hC (zdk dk_X12_twoElements 18 rfl) (q := 31) rfl ?_
        refine x_weak (L' := [.ref r0, .int x1, .null, .null, .int x4]) ⟨Or.inr rfl, Or.inr rfl, Or.inl rfl, Or.inl rfl, Or.inr rfl, trivial⟩ ?_
        exact x_X12_twoElements_31 hC hE hk0 h_r0 (f_X12_twoElements_5 r0 x1 f) ih _ _ _ _
      · refine x_lconst (i := 1) c_lconst_1 hC (zdk dk_X12_twoElements 14 rfl) (q := 24) rfl ?_
        refine x_iload (i := 4) rfl hC (zdk dk_X12_twoElements 15 rfl) (q := 26) rfl ?_
        refine x_lshl hC (zdk dk_X12_twoElements 16 rfl) (q := 27) rfl ?_
        refine x_goto (tgt := 31) hC (zdk dk_X12_twoElements 17 rfl) rfl ?_
        refine x_weak (L' := [.ref r0, .int x1, .null, .null, .int x4]) ⟨Or.inr rfl, Or.inr rfl, Or.inl rfl, Or.inl rfl, Or.inr rfl, trivial⟩ ?_
        exact x_X12_twoElements_31 hC hE hk0 h_r0 (f_X12_twoElements_5 r0 x1 f) ih _ _ _ _
set_option maxRecDepth 100000 in
def f_X12_twoElements (r0 : Nat) (x1 : Int32) (M : Mem) : Option (Int64 × Mem) := f_X12_twoElements_5 r0 x1 1000000 0 0 M
set_option maxRecDepth 100000 in
set_option maxHeartbeats 4000000 in
theorem x_X12_twoElements {κ : KX} {n : Nat} (hC : CX κ cX12_twoElements RX12 5 (some .long) 0) (hE : zEnd κ n (0, 0)) (hk0 : zRk κ (0, 0)) (r0 : Nat) (x1 : Int32) (M : Mem) (h_r0 : zO n r0 12) : X κ 5 emL n (0, 0) 0 [.ref r0, .int x1, .null, .null, .null] [] M (f_X12_twoElements r0 x1 M) := by
  unfold f_X12_twoElements
  refine x_lconst (i := 0) c_lconst_0 hC (zdk dk_X12_twoElements 0 rfl) (q := 1) rfl ?_
  refine x_lstore_n (i := 2) (L' := [.ref r0, .int x1, .long 0, .null, .null]) (by decide) rfl hC (zdk dk_X12_twoElements 1 rfl) (q := 2) rfl ?_
  refine x_iconst (i := 0) c_iconst_0 hC (zdk dk_X12_twoElements 2 rfl) (q := 3) rfl ?_
  refine x_istore (i := 4) (L' := [.ref r0, .int x1, .long 0, .null, .int 0]) (by decide) rfl hC (zdk dk_X12_twoElements 3 rfl) (q := 5) rfl ?_
  refine x_weak (L' := [.ref r0, .int x1, .long 0, .null, .int 0]) ⟨Or.inr rfl, Or.inr rfl, Or.inr rfl, Or.inl rfl, Or.inr rfl, trivial⟩ ?_
  exact x_X12_twoElements_5 hC hE hk0 h_r0 _ _ _ _
set_option maxRecDepth 100000 in
set_option maxHeartbeats 4000000 in
theorem t_X12_twoElements {n : Nat} {r0 : Nat} {x1 : Int32} {M : Mem} (h_r0 : zO n r0 12) (x : (Int64 × Mem)) (hx : f_X12_twoElements r0 x1 M = some x) (l : Launch) (dC : Nat → ClassId) (dI : Nat → Nat → Nat) (b : zSg) : MT l dC dI b yX12_twoElements cX12_twoElements 5 (some .long) 0 0 0 n n [.ref r0, .int x1] M (emL x).1 (emL x).2 :=
  MT.ofX (by decide +kernel) rfl (Nat.le_of_ble_eq_true rfl) (fun κ hC hF _ => x_X12_twoElements hC (zEnd_of hF (Nat.le_refl _) (Nat.le_refl _)) (zRk_of hF (Nat.le_refl _) (Nat.le_refl _)) _ _ _ h_r0) x hx
set_option maxRecDepth 100000 in
def dt_X12_lays : List (Nat × Instr × Nat) := [(0, .aload_n 0, 1), (1, .iconst 1, 1), (2, .aload_n 0, 1), (3, .iconst 0, 1), (4, .invokevirtual 428, 3), (7, .ishl, 1), (8, .iconst 1, 1), (9, .isub, 1), (10, .putfield 126, 3), (13, .iconst 1, 1), (14, .istore_n 1, 1), (15, .iconst 0, 1), (16, .istore_n 2, 1), (17, .iload_n 2, 1), (18, .aload_n 0, 1), (19, .getfield 126, 3), (22, .if_icmp .ge 38, 3), (25, .aload_n 0, 1), (26, .getfield 141, 3), (29, .iload_n 2, 1), (30, .iload_n 1, 1), (31, .iastore, 1), (32, .aload_n 0, 1), (33, .getfield 144, 3), (36, .iload_n 1, 1), (37, .iload_n 2, 1), (38, .iastore, 1), (39, .iload_n 1, 1), (40, .aload_n 0, 1), (41, .iconst 0, 1), (42, .invokevirtual 428, 3), (45, .aload_n 0, 1), (46, .iconst 1, 1), (47, .invokevirtual 428, 3), (50, .invokestatic 360, 3), (53, .istore_n 1, 1), (54, .iinc 2 1, 3), (57, .goto (-40), 3), (60, .aload_n 0, 1), (61, .aload_n 0, 1), (62, .aload_n 0, 1), (63, .iconst 0, 1), (64, .invokevirtual 428, 3), (67, .aload_n 0, 1), (68, .iconst 2, 1), (69, .invokevirtual 428, 3), (72, .invokevirtual 376, 3), (75, .putfield 129, 3), (78, .aload_n 0, 1), (79, .aload_n 0, 1), (80, .getfield 126, 3), (83, .aload_n 0, 1), (84, .getfield 129, 3), (87, .isub, 1), (88, .aload_n 0, 1), (89, .iconst 3, 1), (90, .invokevirtual 428, 3), (93, .isub, 1), (94, .putfield 135, 3), (97, .aload_n 0, 1), (98, .aload_n 0, 1), (99, .getfield 126, 3), (102, .aload_n 0, 1), (103, .iconst 3, 1), (104, .invokevirtual 428, 3), (107, .isub, 1), (108, .putfield 132, 3), (111, .aload_n 0, 1), (112, .getfield 147, 3), (115, .iconst 0, 1), (116, .iconst 1, 1), (117, .iastore, 1), (118, .iconst 0, 1), (119, .istore_n 2, 1), (120, .iconst 0, 1), (121, .istore_n 3, 1), (122, .iload_n 3, 1), (123, .aload_n 0, 1), (124, .getfield 126, 3), (127, .if_icmp .ge 30, 3), (130, .aload_n 0, 1), (131, .getfield 117, 3), (134, .iload_n 3, 1), (135, .iaload, 1), (136, .ifCond .ne 6, 3), (139, .goto 12, 3), (142, .aload_n 0, 1), (143, .iload_n 2, 1), (144, .iload_n 3, 1), (145, .invokevirtual 431, 3), (148, .iinc 2 1, 3), (151, .iinc 3 1, 3), (154, .goto (-32), 3), (157, .aload_n 0, 1), (158, .aload_n 0, 1), (159, .iload_n 2, 1), (160, .invokevirtual 434, 3), (163, .putfield 138, 3), (166, .return_, 1)]
set_option maxRecDepth 100000 in
theorem dk_X12_lays : dt_X12_lays.all (fun q => decide (decode cX12_lays q.1 = .ok q.2)) = true := by decide +kernel
set_option maxRecDepth 100000 in
def f_X12_lays_151 (k122 : Int32 → Int32 → Mem → Option Mem) (r0 : Nat) (x2 : Int32) (x3 : Int32) (M : Mem) : Option Mem := k122 x2 (x3 + 1) M
set_option maxRecDepth 100000 in
set_option maxHeartbeats 4000000 in
theorem x_X12_lays_151 {κ : KX} {n : Nat} (hC : CX κ cX12_lays RX12 4 none 2) (hE : zEnd κ n (0, 0)) (hk0 : zRk κ (0, 0)) {r0 : Nat} (h_r0 : zO n r0 12) (k122 : Int32 → Int32 → Mem → Option Mem) (hk122 : ∀ (x2 : Int32) (x3 : Int32) (M : Mem), X κ 4 emV n (0, 0) 122 [.ref r0, .null, .int x2, .int x3] [] M (k122 x2 x3 M)) (x2 : Int32) (x3 : Int32) (M : Mem) : X κ 4 emV n (0, 0) 151 [.ref r0, .null, .int x2, .int x3] [] M (f_X12_lays_151 k122 r0 x2 x3 M) := by
  unfold f_X12_lays_151
  refine x_iinc (i := 3) c_iconst_1 rfl (by decide) (L' := [.ref r0, .null, .int x2, .int (x3 + 1)]) rfl hC (zdk dk_X12_lays 91 rfl) (q := 154) rfl ?_
  refine x_goto (tgt := 122) hC (zdk dk_X12_lays 92 rfl) rfl ?_
  refine x_weak (L' := [.ref r0, .null, .int x2, .int (x3 + 1)]) ⟨Or.inr rfl, Or.inl rfl, Or.inr rfl, Or.inr rfl, trivial⟩ ?_
  exact hk122 _ _ _
set_option maxRecDepth 100000 in
def f_X12_lays_122  (r0 : Nat) : Nat → Int32 → Int32 → Mem → Option Mem
  | 0, _, _, _ => none
  | f + 1, x2, x3, M => (if zI M r0 37 ≤ x3 then Option.bind (f_X12_twoElements r0 x2 M) fun z1 => Option.bind (some (zsL z1.2 r0 41 z1.1)) fun M2 => some M2 else Option.bind (zrf M r0 34) fun q3 => Option.bind (zld q3 x3) fun k4 => (if zI M q3 k4 = 0 then f_X12_lays_151 (f_X12_lays_122 r0 f) r0 x2 x3 M else Option.bind (f_X12_multiplies r0 x2 x3 M) fun M5 => f_X12_lays_151 (f_X12_lays_122 r0 f) r0 (x2 + 1) x3 M5))
set_option maxRecDepth 100000 in
set_option maxHeartbeats 4000000 in
theorem x_X12_lays_122 {κ : KX} {n : Nat} (hC : CX κ cX12_lays RX12 4 none 2) (hE : zEnd κ n (0, 0)) (hk0 : zRk κ (0, 0)) {r0 : Nat} (h_r0 : zO n r0 12) : ∀ (f : Nat) (x2 : Int32) (x3 : Int32) (M : Mem), X κ 4 emV n (0, 0) 122 [.ref r0, .null, .int x2, .int x3] [] M (f_X12_lays_122 r0 f x2 x3 M) := by
  intro f
  induction f with
  | zero => intros; exact x_none
  | succ f ih =>
    intro x2 x3 M 
    rw [f_X12_lays_122]
    refine x_iload_n (i := 3) rfl hC (zdk dk_X12_lays 76 rfl) (q := 123) rfl ?_
    refine x_aload_n (i := 0) rfl hC (zdk dk_X12_lays 77 rfl) (q := 124) rfl ?_
    refine x_getI fl_RX12_126 (by decide) h_r0 hC (zdk dk_X12_lays 78 rfl) (q := 127) rfl ?_
    refine x_icmp_ge (tgt := 157) hC (zdk dk_X12_lays 79 rfl) (q := 130) rfl rfl (fun _ => ?_) (fun _ => ?_)
    · refine x_aload_n (i := 0) rfl hC (zdk dk_X12_lays 93 rfl) (q := 158) rfl ?_
      refine x_aload_n (i := 0) rfl hC (zdk dk_X12_lays 94 rfl) (q := 159) rfl ?_
      refine x_iload_n (i := 2) rfl hC (zdk dk_X12_lays 95 rfl) (q := 160) rfl ?_
      refine x_callVl (as := [.int x2]) cb_RX12_434 rfl (by decide) hk0 h_r0 (fun x hx => t_X12_twoElements h_r0 x hx) hC (zdk dk_X12_lays 96 rfl) (q := 163) rfl rfl (Nat.le_of_ble_eq_true rfl) (fun z1 => ?_)
      refine x_putL fl_RX12_138 ⟨rfl, rfl⟩ (Or.inl rfl) h_r0 hC (zdk dk_X12_lays 97 rfl) (q := 166) rfl ?_
      refine x_nmM (fun M2 => ?_)
      exact x_vret hE hC (zdk dk_X12_lays 98 rfl)
    · refine x_aload_n (i := 0) rfl hC (zdk dk_X12_lays 80 rfl) (q := 131) rfl ?_
      refine x_getR (k := 20) fl_RX12_117 rfl h_r0 hC (zdk dk_X12_lays 81 rfl) (q := 134) rfl (fun q3 hq3 => ?_)
      refine x_iload_n (i := 3) rfl hC (zdk dk_X12_lays 82 rfl) (q := 135) rfl ?_
      refine x_iald hq3 hC (zdk dk_X12_lays 83 rfl) (q := 136) rfl (fun k4 _ => ?_)
      refine x_if_ne (tgt := 142) hC (zdk dk_X12_lays 84 rfl) (q := 139) rfl rfl (fun _ => ?_) (fun _ => ?_)
      · refine x_aload_n (i := 0) rfl hC (zdk dk_X12_lays 86 rfl) (q := 143) rfl ?_
        refine x_iload_n (i := 2) rfl hC (zdk dk_X12_lays 87 rfl) (q := 144) rfl ?_
        refine x_iload_n (i := 3) rfl hC (zdk dk_X12_lays 88 rfl) (q := 145) rfl ?_
        refine x_callVv (as := [.int x2, .int x3]) cb_RX12_431 rfl (by decide) hk0 h_r0 (fun x hx => t_X12_multiplies h_r0 x hx) hC (zdk dk_X12_lays 89 rfl) (q := 148) rfl rfl (Nat.le_of_ble_eq_true rfl) (fun M5 => ?_)
        refine x_iinc (i := 2) c_iconst_1 rfl (by decide) (L' := [.ref r0, .null, .int (x2 + 1), .int x3]) rfl hC (zdk dk_X12_lays 90 rfl) (q := 151) rfl ?_
        refine x_weak (L' := [.ref r0, .null, .int (x2 + 1), .int x3]) ⟨Or.inr rfl, Or.inl rfl, Or.inr rfl, Or.inr rfl, trivial⟩ ?_
        exact x_X12_lays_151 hC hE hk0 h_r0 (f_X12_lays_122 r0 f) ih _ _ _
      · refine x_goto (tgt := 151) hC (zdk dk_X12_lays 85 rfl) rfl ?_
        refine x_weak (L' := [.ref r0, .null, .int x2, .int x3]) ⟨Or.inr rfl, Or.inl rfl, Or.inr rfl, Or.inr rfl, trivial⟩ ?_
        exact x_X12_lays_151 hC hE hk0 h_r0 (f_X12_lays_122 r0 f) ih _ _ _
set_option maxRecDepth 100000 in
def f_X12_lays_17  (r0 : Nat) : Nat → Int32 → Int32 → Mem → Option Mem
  | 0, _, _, _ => none
  | f + 1, x1, x2, M => (if zI M r0 37 ≤ x2 then Option.bind (f_X12_by r0 0 M) fun z6 => Option.bind (f_X12_by r0 2 z6.2) fun z7 => Option.bind (f_X12_rootsFor r0 z6.1 z7.1 z7.2) fun z8 => Option.bind (some (zsI z8.2 r0 38 z8.1)) fun M9 => Option.bind (f_X12_by r0 3 M9) fun z10 => Option.bind (some (zsI z10.2 r0 40 (((zI M9 r0 37) - (zI M9 r0 38)) - z10.1))) fun M11 => Option.bind (f_X12_by r0 3 M11) fun z12 => Option.bind (some (zsI z12.2 r0 39 ((zI M11 r0 37) - z12.1))) fun M13 => Option.bind (zrf M13 r0 44) fun q14 => Option.bind (zld q14 0) fun k15 => Option.bind (some (zsI M13 q14 k15 1)) fun M16 => f_X12_lays_122 r0 1000000 0 0 M16 else Option.bind (zrf M r0 42) fun q17 => Option.bind (zld q17 x2) fun k18 => Option.bind (some (zsI M q17 k18 x1)) fun M19 => Option.bind (zrf M19 r0 43) fun q20 => Option.bind (zld q20 x1) fun k21 => Option.bind (some (zsI M19 q20 k21 x2)) fun M22 => Option.bind (f_X12_by r0 0 M22) fun z23 => Option.bind (f_X12_by r0 1 z23.2) fun z24 => Option.bind (f_X12_timesA x1 z23.1 z24.1 z24.2) fun z25 => (f_X12_lays_17 r0 f) z25.1 (x2 + 1) z25.2)
set_option maxRecDepth 100000 in
set_option maxHeartbeats 4000000 in
theorem x_X12_lays_17 {κ : KX} {n : Nat} (hC : CX κ cX12_lays RX12 4 none 2) (hE : zEnd κ n (0, 0)) (hk0 : zRk κ (0, 0)) {r0 : Nat} (h_r0 : zO n r0 12) : ∀ (f : Nat) (x1 : Int32) (x2 : Int32) (M : Mem), X κ 4 emV n (0, 0) 17 [.ref r0, .int x1, .int x2, .null] [] M (f_X12_lays_17 r0 f x1 x2 M) := by
  intro f
  induction f with
  | zero => intros; exact x_none
  | succ f ih =>
    intro x1 x2 M 
    rw [f_X12_lays_17]
    refine x_iload_n (i := 2) rfl hC (zdk dk_X12_lays 13 rfl) (q := 18) rfl ?_
    refine x_aload_n (i := 0) rfl hC (zdk dk_X12_lays 14 rfl) (q := 19) rfl ?_
    refine x_getI fl_RX12_126 (by decide) h_r0 hC (zdk dk_X12_lays 15 rfl) (q := 22) rfl ?_
    refine x_icmp_ge (tgt := 60) hC (zdk dk_X12_lays 16 rfl) (q := 25) rfl rfl (fun _ => ?_) (fun _ => ?_)
    · refine x_aload_n (i := 0) rfl hC (zdk dk_X12_lays 38 rfl) (q := 61) rfl ?_
      refine x_aload_n (i := 0) rfl hC (zdk dk_X12_lays 39 rfl) (q := 62) rfl ?_
      refine x_aload_n (i := 0) rfl hC (zdk dk_X12_lays 40 rfl) (q := 63) rfl ?_
      refine x_iconst (i := 0) c_iconst_0 hC (zdk dk_X12_lays 41 rfl) (q := 64) rfl ?_
      refine x_callVi (as := [.int 0]) cb_RX12_428 rfl (by decide) hk0 h_r0 (fun x hx => t_X12_by h_r0 x hx) hC (zdk dk_X12_lays 42 rfl) (q := 67) rfl rfl (Nat.le_of_ble_eq_true rfl) (fun z6 => ?_)
      refine x_aload_n (i := 0) rfl hC (zdk dk_X12_lays 43 rfl) (q := 68) rfl ?_
      refine x_iconst (i := 2) c_iconst_2 hC (zdk dk_X12_lays 44 rfl) (q := 69) rfl ?_
      refine x_callVi (as := [.int 2]) cb_RX12_428 rfl (by decide) hk0 h_r0 (fun x hx => t_X12_by h_r0 x hx) hC (zdk dk_X12_lays 45 rfl) (q := 72) rfl rfl (Nat.le_of_ble_eq_true rfl) (fun z7 => ?_)
      refine x_callVi (as := [.int z6.1, .int z7.1]) cb_RX12_376 rfl (by decide) hk0 h_r0 (fun x hx => t_X12_rootsFor h_r0 x hx) hC (zdk dk_X12_lays 46 rfl) (q := 75) rfl rfl (Nat.le_of_ble_eq_true rfl) (fun z8 => ?_)
      refine x_putI fl_RX12_129 ⟨rfl, rfl⟩ (by decide) (Or.inl rfl) h_r0 hC (zdk dk_X12_lays 47 rfl) (q := 78) rfl ?_
      refine x_nmM (fun M9 => ?_)
      refine x_aload_n (i := 0) rfl hC (zdk dk_X12_lays 48 rfl) (q := 79) rfl ?_
      refine x_aload_n (i := 0) rfl hC (zdk dk_X12_lays 49 rfl) (q := 80) rfl ?_
      refine x_getI fl_RX12_126 (by decide) h_r0 hC (zdk dk_X12_lays 50 rfl) (q := 83) rfl ?_
      refine x_aload_n (i := 0) rfl hC (zdk dk_X12_lays 51 rfl) (q := 84) rfl ?_
      refine x_getI fl_RX12_129 (by decide) h_r0 hC (zdk dk_X12_lays 52 rfl) (q := 87) rfl ?_
      refine x_isub hC (zdk dk_X12_lays 53 rfl) (q := 88) rfl ?_
      refine x_aload_n (i := 0) rfl hC (zdk dk_X12_lays 54 rfl) (q := 89) rfl ?_
      refine x_iconst (i := 3) c_iconst_3 hC (zdk dk_X12_lays 55 rfl) (q := 90) rfl ?_
      refine x_callVi (as := [.int 3]) cb_RX12_428 rfl (by decide) hk0 h_r0 (fun x hx => t_X12_by h_r0 x hx) hC (zdk dk_X12_lays 56 rfl) (q := 93) rfl rfl (Nat.le_of_ble_eq_true rfl) (fun z10 => ?_)
      refine x_isub hC (zdk dk_X12_lays 57 rfl) (q := 94) rfl ?_
      refine x_putI fl_RX12_135 ⟨rfl, rfl⟩ (by decide) (Or.inl rfl) h_r0 hC (zdk dk_X12_lays 58 rfl) (q := 97) rfl ?_
      refine x_nmM (fun M11 => ?_)
      refine x_aload_n (i := 0) rfl hC (zdk dk_X12_lays 59 rfl) (q := 98) rfl ?_
      refine x_aload_n (i := 0) rfl hC (zdk dk_X12_lays 60 rfl) (q := 99) rfl ?_
      refine x_getI fl_RX12_126 (by decide) h_r0 hC (zdk dk_X12_lays 61 rfl) (q := 102) rfl ?_
      refine x_aload_n (i := 0) rfl hC (zdk dk_X12_lays 62 rfl) (q := 103) rfl ?_
      refine x_iconst (i := 3) c_iconst_3 hC (zdk dk_X12_lays 63 rfl) (q := 104) rfl ?_
      refine x_callVi (as := [.int 3]) cb_RX12_428 rfl (by decide) hk0 h_r0 (fun x hx => t_X12_by h_r0 x hx) hC (zdk dk_X12_lays 64 rfl) (q := 107) rfl rfl (Nat.le_of_ble_eq_true rfl) (fun z12 => ?_)
      refine x_isub hC (zdk dk_X12_lays 65 rfl) (q := 108) rfl ?_
      refine x_putI fl_RX12_132 ⟨rfl, rfl⟩ (by decide) (Or.inl rfl) h_r0 hC (zdk dk_X12_lays 66 rfl) (q := 111) rfl ?_
      refine x_nmM (fun M13 => ?_)
      refine x_aload_n (i := 0) rfl hC (zdk dk_X12_lays 67 rfl) (q := 112) rfl ?_
      refine x_getR (k := 20) fl_RX12_147 rfl h_r0 hC (zdk dk_X12_lays 68 rfl) (q := 115) rfl (fun q14 hq14 => ?_)
      refine x_iconst (i := 0) c_iconst_0 hC (zdk dk_X12_lays 69 rfl) (q := 116) rfl ?_
      refine x_iconst (i := 1) c_iconst_1 hC (zdk dk_X12_lays 70 rfl) (q := 117) rfl ?_
      refine x_iast hq14 hC (zdk dk_X12_lays 71 rfl) (q := 118) rfl (fun k15 _ => ?_)
      refine x_nmM (fun M16 => ?_)
      refine x_iconst (i := 0) c_iconst_0 hC (zdk dk_X12_lays 72 rfl) (q := 119) rfl ?_
      refine x_istore_n (i := 2) (L' := [.ref r0, .int x1, .int 0, .null]) (by decide) rfl hC (zdk dk_X12_lays 73 rfl) (q := 120) rfl ?_
      refine x_iconst (i := 0) c_iconst_0 hC (zdk dk_X12_lays 74 rfl) (q := 121) rfl ?_
      refine x_istore_n (i := 3) (L' := [.ref r0, .int x1, .int 0, .int 0]) (by decide) rfl hC (zdk dk_X12_lays 75 rfl) (q := 122) rfl ?_
      refine x_weak (L' := [.ref r0, .null, .int 0, .int 0]) ⟨Or.inr rfl, Or.inl rfl, Or.inr rfl, Or.inr rfl, trivial⟩ ?_
      exact x_X12_lays_122 hC hE hk0 h_r0 _ _ _ _
    · refine x_aload_n (i := 0) rfl hC (zdk dk_X12_lays 17 rfl) (q := 26) rfl ?_
      refine x_getR (k := 20) fl_RX12_141 rfl h_r0 hC (zdk dk_X12_lays 18 rfl) (q := 29) rfl (fun q17 hq17 => ?_)
      refine x_iload_n (i := 2) rfl hC (zdk dk_X12_lays 19 rfl) (q := 30) rfl ?_
      refine x_iload_n (i := 1) rfl hC (zdk dk_X12_lays 20 rfl) (q := 31) rfl ?_
      refine x_iast hq17 hC (zdk dk_X12_lays 21 rfl) (q := 32) rfl (fun k18 _ => ?_)
      refine x_nmM (fun M19 => ?_)
      refine x_aload_n (i := 0) rfl hC (zdk dk_X12_lays 22 rfl) (q := 33) rfl ?_
      refine x_getR (k := 20) fl_RX12_144 rfl h_r0 hC (zdk dk_X12_lays 23 rfl) (q := 36) rfl (fun q20 hq20 => ?_)
      refine x_iload_n (i := 1) rfl hC (zdk dk_X12_lays 24 rfl) (q := 37) rfl ?_
      refine x_iload_n (i := 2) rfl hC (zdk dk_X12_lays 25 rfl) (q := 38) rfl ?_
      refine x_iast hq20 hC (zdk dk_X12_lays 26 rfl) (q := 39) rfl (fun k21 _ => ?_)
      refine x_nmM (fun M22 => ?_)
      refine x_iload_n (i := 1) rfl hC (zdk dk_X12_lays 27 rfl) (q := 40) rfl ?_
      refine x_aload_n (i := 0) rfl hC (zdk dk_X12_lays 28 rfl) (q := 41) rfl ?_
      refine x_iconst (i := 0) c_iconst_0 hC (zdk dk_X12_lays 29 rfl) (q := 42) rfl ?_
      refine x_callVi (as := [.int 0]) cb_RX12_428 rfl (by decide) hk0 h_r0 (fun x hx => t_X12_by h_r0 x hx) hC (zdk dk_X12_lays 30 rfl) (q := 45) rfl rfl (Nat.le_of_ble_eq_true rfl) (fun z23 => ?_)
      refine x_aload_n (i := 0) rfl hC (zdk dk_X12_lays 31 rfl) (q := 46) rfl ?_
      refine x_iconst (i := 1) c_iconst_1 hC (zdk dk_X12_lays 32 rfl) (q := 47) rfl ?_
      refine x_callVi (as := [.int 1]) cb_RX12_428 rfl (by decide) hk0 h_r0 (fun x hx => t_X12_by h_r0 x hx) hC (zdk dk_X12_lays 33 rfl) (q := 50) rfl rfl (Nat.le_of_ble_eq_true rfl) (fun z24 => ?_)
      refine x_callSi (as := [.int x1, .int z23.1, .int z24.1]) cb_RX12_360 rfl (by decide) hk0 (fun x hx => t_X12_timesA  x hx) hC (zdk dk_X12_lays 34 rfl) (q := 53) rfl rfl (Nat.le_of_ble_eq_true rfl) (fun z25 => ?_)
      refine x_istore_n (i := 1) (L' := [.ref r0, .int z25.1, .int x2, .null]) (by decide) rfl hC (zdk dk_X12_lays 35 rfl) (q := 54) rfl ?_
      refine x_iinc (i := 2) c_iconst_1 rfl (by decide) (L' := [.ref r0, .int z25.1, .int (x2 + 1), .null]) rfl hC (zdk dk_X12_lays 36 rfl) (q := 57) rfl ?_
      refine x_goto (tgt := 17) hC (zdk dk_X12_lays 37 rfl) rfl ?_
      refine x_weak (L' := [.ref r0, .int z25.1, .int (x2 + 1), .null]) ⟨Or.inr rfl, Or.inr rfl, Or.inr rfl, Or.inl rfl, trivial⟩ ?_
      exact ih _ _ _
set_option maxRecDepth 100000 in
def f_X12_lays (r0 : Nat) (M : Mem) : Option Mem := Option.bind (f_X12_by r0 0 M) fun z26 => Option.bind (some (zsI z26.2 r0 37 (((1 : Int32) <<< (z26.1 &&& 31)) - 1))) fun M27 => f_X12_lays_17 r0 1000000 1 0 M27
set_option maxRecDepth 100000 in
set_option maxHeartbeats 4000000 in
theorem x_X12_lays {κ : KX} {n : Nat} (hC : CX κ cX12_lays RX12 4 none 2) (hE : zEnd κ n (0, 0)) (hk0 : zRk κ (0, 0)) (r0 : Nat) (M : Mem) (h_r0 : zO n r0 12) : X κ 4 emV n (0, 0) 0 [.ref r0, .null, .null, .null] [] M (f_X12_lays r0 M) := by
  unfold f_X12_lays
  refine x_aload_n (i := 0) rfl hC (zdk dk_X12_lays 0 rfl) (q := 1) rfl ?_
  refine x_iconst (i := 1) c_iconst_1 hC (zdk dk_X12_lays 1 rfl) (q := 2) rfl ?_
  refine x_aload_n (i := 0) rfl hC (zdk dk_X12_lays 2 rfl) (q := 3) rfl ?_
  refine x_iconst (i := 0) c_iconst_0 hC (zdk dk_X12_lays 3 rfl) (q := 4) rfl ?_
  refine x_callVi (as := [.int 0]) cb_RX12_428 rfl (by decide) hk0 h_r0 (fun x hx => t_X12_by h_r0 x hx) hC (zdk dk_X12_lays 4 rfl) (q := 7) rfl rfl (Nat.le_of_ble_eq_true rfl) (fun z26 => ?_)
  refine x_ishl hC (zdk dk_X12_lays 5 rfl) (q := 8) rfl ?_
  refine x_iconst (i := 1) c_iconst_1 hC (zdk dk_X12_lays 6 rfl) (q := 9) rfl ?_
  refine x_isub hC (zdk dk_X12_lays 7 rfl) (q := 10) rfl ?_
  refine x_putI fl_RX12_126 ⟨rfl, rfl⟩ (by decide) (Or.inl rfl) h_r0 hC (zdk dk_X12_lays 8 rfl) (q := 13) rfl ?_
  refine x_nmM (fun M27 => ?_)
  refine x_iconst (i := 1) c_iconst_1 hC (zdk dk_X12_lays 9 rfl) (q := 14) rfl ?_
  refine x_istore_n (i := 1) (L' := [.ref r0, .int 1, .null, .null]) (by decide) rfl hC (zdk dk_X12_lays 10 rfl) (q := 15) rfl ?_
  refine x_iconst (i := 0) c_iconst_0 hC (zdk dk_X12_lays 11 rfl) (q := 16) rfl ?_
  refine x_istore_n (i := 2) (L' := [.ref r0, .int 1, .int 0, .null]) (by decide) rfl hC (zdk dk_X12_lays 12 rfl) (q := 17) rfl ?_
  refine x_weak (L' := [.ref r0, .int 1, .int 0, .null]) ⟨Or.inr rfl, Or.inr rfl, Or.inr rfl, Or.inl rfl, trivial⟩ ?_
  exact x_X12_lays_17 hC hE hk0 h_r0 _ _ _ _
set_option maxRecDepth 100000 in
set_option maxHeartbeats 4000000 in
theorem t_X12_lays {n : Nat} {r0 : Nat} {M : Mem} (h_r0 : zO n r0 12) (x : Mem) (hx : f_X12_lays r0 M = some x) (l : Launch) (dC : Nat → ClassId) (dI : Nat → Nat → Nat) (b : zSg) : MT l dC dI b yX12_lays cX12_lays 4 none 2 0 0 n n [.ref r0] M (emV x).1 (emV x).2 :=
  MT.ofX (by decide +kernel) rfl (Nat.le_of_ble_eq_true rfl) (fun κ hC hF _ => x_X12_lays hC (zEnd_of hF (Nat.le_refl _) (Nat.le_refl _)) (zRk_of hF (Nat.le_refl _) (Nat.le_refl _)) _ _ h_r0) x hx
set_option maxRecDepth 100000 in
def dt_X12_chip : List (Nat × Instr × Nat) := [(0, .aload_n 0, 1), (1, .aload_n 0, 1), (2, .getfield 13, 3), (5, .putfield 17, 3), (8, .aload_n 0, 1), (9, .iconst 0, 1), (10, .putfield 13, 3), (13, .aload_n 0, 1), (14, .iconst 0, 1), (15, .putfield 26, 3), (18, .aload_n 0, 1), (19, .iconst 0, 1), (20, .putfield 36, 3), (23, .aload_n 0, 1), (24, .iconst (-1), 1), (25, .putfield 39, 3), (28, .aload_n 0, 1), (29, .iconst 1, 1), (30, .aload_n 0, 1), (31, .getfield 51, 3), (34, .isub, 1), (35, .putfield 79, 3), (38, .aload_n 0, 1), (39, .getfield 57, 3), (42, .aload_n 0, 1), (43, .getfield 79, 3), (46, .iconst 0, 1), (47, .iastore, 1), (48, .aload_n 0, 1), (49, .iconst 4, 1), (50, .bipush 70, 2), (52, .invokevirtual 379, 3), (55, .aload_n 0, 1), (56, .iconst 5, 1), (57, .bipush 30, 2), (59, .invokevirtual 379, 3), (62, .aload_n 0, 1), (63, .bipush 6, 2), (65, .bipush 50, 2), (67, .invokevirtual 379, 3), (70, .aload_n 0, 1), (71, .bipush 7, 2), (73, .iconst 3, 1), (74, .invokevirtual 379, 3), (77, .aload_n 0, 1), (78, .bipush 8, 2), (80, .iconst 0, 1), (81, .invokevirtual 379, 3), (84, .iconst 2, 1), (85, .aload_n 0, 1), (86, .getfield 79, 3), (89, .imul, 1), (90, .istore_n 1, 1), (91, .iload_n 1, 1), (92, .iconst 2, 1), (93, .aload_n 0, 1), (94, .getfield 79, 3), (97, .imul, 1), (98, .iconst 2, 1), (99, .iadd, 1), (100, .if_icmp .ge 16, 3), (103, .aload_n 0, 1), (104, .getfield 60, 3), (107, .iload_n 1, 1), (108, .iconst (-1), 1), (109, .iastore, 1), (110, .iinc 1 1, 3), (113, .goto (-22), 3), (116, .aload_n 0, 1), (117, .iconst 0, 1), (118, .putfield 76, 3), (121, .iconst 1, 1), (122, .istore_n 1, 1), (123, .aload_n 0, 1), (124, .invokevirtual 268, 3), (127, .aload_n 0, 1), (128, .invokevirtual 410, 3), (131, .aload_n 0, 1), (132, .iload_n 1, 1), (133, .invokevirtual 413, 3), (136, .aload_n 0, 1), (137, .getfield 36, 3), (140, .ifCond .ne 25, 3), (143, .aload_n 0, 1), (144, .getfield 20, 3), (147, .ifCond .eq 18, 3), (150, .aload_n 0, 1), (151, .invokevirtual 416, 3), (154, .iinc 1 1, 3), (157, .aload_n 0, 1), (158, .iload_n 1, 1), (159, .invokevirtual 413, 3), (162, .goto (-26), 3), (165, .aload_n 0, 1), (166, .aload_n 0, 1), (167, .getfield 36, 3), (170, .putfield 42, 3), (173, .aload_n 0, 1), (174, .aload_n 0, 1), (175, .getfield 39, 3), (178, .putfield 45, 3), (181, .aload_n 0, 1), (182, .getfield 36, 3), (185, .ifCond .le 9, 3), (188, .aload_n 0, 1), (189, .iconst 1, 1), (190, .invokevirtual 243, 3), (193, .ireturn, 1), (194, .aload_n 0, 1), (195, .aload_n 0, 1), (196, .getfield 79, 3), (199, .putfield 51, 3), (202, .aload_n 0, 1), (203, .iconst 1, 1), (204, .putfield 120, 3), (207, .aload_n 0, 1), (208, .invokevirtual 419, 3), (211, .aload_n 0, 1), (212, .invokevirtual 422, 3), (215, .iload_n 1, 1), (216, .ireturn, 1)]
set_option maxRecDepth 100000 in
theorem dk_X12_chip : dt_X12_chip.all (fun q => decide (decode cX12_chip q.1 = .ok q.2)) = true := by decide +kernel
set_option maxRecDepth 100000 in
def f_X12_chip_165  (r0 : Nat) (x1 : Int32) (M : Mem) : Option (Int32 × Mem) := Option.bind (some (zsI M r0 10 (zI M r0 8))) fun M1 => Option.bind (some (zsI M1 r0 11 (zI M1 r0 9))) fun M2 => (if zI M2 r0 8 ≤ 0 then Option.bind (some (zsI M2 r0 13 (zI M2 r0 22))) fun M3 => Option.bind (some (zsI M3 r0 35 1)) fun M4 => Option.bind (f_X12_lays r0 M4) fun M5 => Option.bind (f_X12_begin r0 M5) fun M6 => some (x1, M6) else Option.bind (f_X12_refuses r0 1 M2) fun z7 => some (z7.1, z7.2))
set_option maxRecDepth 100000 in
set_option maxHeartbeats 4000000 in
theorem x_X12_chip_165 {κ : KX} {n : Nat} (hC : CX κ cX12_chip RX12 2 (some .int) 7) (hE : zEnd κ n (0, 0)) (hk0 : zRk κ (0, 0)) {r0 : Nat} (h_r0 : zO n r0 12) (x1 : Int32) (M : Mem) : X κ 2 emI n (0, 0) 165 [.ref r0, .int x1] [] M (f_X12_chip_165 r0 x1 M) := by
  unfold f_X12_chip_165
  refine x_aload_n (i := 0) rfl hC (zdk dk_X12_chip 93 rfl) (q := 166) rfl ?_
  refine x_aload_n (i := 0) rfl hC (zdk dk_X12_chip 94 rfl) (q := 167) rfl ?_
  refine x_getI fl_RX12_36 (by decide) h_r0 hC (zdk dk_X12_chip 95 rfl) (q := 170) rfl ?_
  refine x_putI fl_RX12_42 ⟨rfl, rfl⟩ (by decide) (Or.inl rfl) h_r0 hC (zdk dk_X12_chip 96 rfl) (q := 173) rfl ?_
  refine x_nmM (fun M1 => ?_)
  refine x_aload_n (i := 0) rfl hC (zdk dk_X12_chip 97 rfl) (q := 174) rfl ?_
  refine x_aload_n (i := 0) rfl hC (zdk dk_X12_chip 98 rfl) (q := 175) rfl ?_
  refine x_getI fl_RX12_39 (by decide) h_r0 hC (zdk dk_X12_chip 99 rfl) (q := 178) rfl ?_
  refine x_putI fl_RX12_45 ⟨rfl, rfl⟩ (by decide) (Or.inl rfl) h_r0 hC (zdk dk_X12_chip 100 rfl) (q := 181) rfl ?_
  refine x_nmM (fun M2 => ?_)
  refine x_aload_n (i := 0) rfl hC (zdk dk_X12_chip 101 rfl) (q := 182) rfl ?_
  refine x_getI fl_RX12_36 (by decide) h_r0 hC (zdk dk_X12_chip 102 rfl) (q := 185) rfl ?_
  refine x_if_le (tgt := 194) hC (zdk dk_X12_chip 103 rfl) (q := 188) rfl rfl (fun _ => ?_) (fun _ => ?_)
  · refine x_aload_n (i := 0) rfl hC (zdk dk_X12_chip 108 rfl) (q := 195) rfl ?_
    refine x_aload_n (i := 0) rfl hC (zdk dk_X12_chip 109 rfl) (q := 196) rfl ?_
    refine x_getI fl_RX12_79 (by decide) h_r0 hC (zdk dk_X12_chip 110 rfl) (q := 199) rfl ?_
    refine x_putI fl_RX12_51 ⟨rfl, rfl⟩ (by decide) (Or.inl rfl) h_r0 hC (zdk dk_X12_chip 111 rfl) (q := 202) rfl ?_
    refine x_nmM (fun M3 => ?_)
    refine x_aload_n (i := 0) rfl hC (zdk dk_X12_chip 112 rfl) (q := 203) rfl ?_
    refine x_iconst (i := 1) c_iconst_1 hC (zdk dk_X12_chip 113 rfl) (q := 204) rfl ?_
    refine x_putI fl_RX12_120 ⟨rfl, rfl⟩ (by decide) (Or.inl rfl) h_r0 hC (zdk dk_X12_chip 114 rfl) (q := 207) rfl ?_
    refine x_nmM (fun M4 => ?_)
    refine x_aload_n (i := 0) rfl hC (zdk dk_X12_chip 115 rfl) (q := 208) rfl ?_
    refine x_callVv (as := []) cb_RX12_419 rfl (by decide) hk0 h_r0 (fun x hx => t_X12_lays h_r0 x hx) hC (zdk dk_X12_chip 116 rfl) (q := 211) rfl rfl (Nat.le_of_ble_eq_true rfl) (fun M5 => ?_)
    refine x_aload_n (i := 0) rfl hC (zdk dk_X12_chip 117 rfl) (q := 212) rfl ?_
    refine x_callVv (as := []) cb_RX12_422 rfl (by decide) hk0 h_r0 (fun x hx => t_X12_begin h_r0 x hx) hC (zdk dk_X12_chip 118 rfl) (q := 215) rfl rfl (Nat.le_of_ble_eq_true rfl) (fun M6 => ?_)
    refine x_iload_n (i := 1) rfl hC (zdk dk_X12_chip 119 rfl) (q := 216) rfl ?_
    exact x_iret (ty := .int) rfl hE hC (zdk dk_X12_chip 120 rfl)
  · refine x_aload_n (i := 0) rfl hC (zdk dk_X12_chip 104 rfl) (q := 189) rfl ?_
    refine x_iconst (i := 1) c_iconst_1 hC (zdk dk_X12_chip 105 rfl) (q := 190) rfl ?_
    refine x_callVi (as := [.int 1]) cb_RX12_243 rfl (by decide) hk0 h_r0 (fun x hx => t_X12_refuses h_r0 x hx) hC (zdk dk_X12_chip 106 rfl) (q := 193) rfl rfl (Nat.le_of_ble_eq_true rfl) (fun z7 => ?_)
    exact x_iret (ty := .int) rfl hE hC (zdk dk_X12_chip 107 rfl)
set_option maxRecDepth 100000 in
def f_X12_chip_136  (r0 : Nat) : Nat → Int32 → Mem → Option (Int32 × Mem)
  | 0, _, _ => none
  | f + 1, x1, M => (if zI M r0 8 = 0 then (if zI M r0 3 = 0 then f_X12_chip_165 r0 x1 M else Option.bind (f_X12_statement r0 M) fun M8 => Option.bind (f_X12_finishes r0 (x1 + 1) M8) fun M9 => (f_X12_chip_136 r0 f) (x1 + 1) M9) else f_X12_chip_165 r0 x1 M)
set_option maxRecDepth 100000 in
set_option maxHeartbeats 4000000 in
theorem x_X12_chip_136 {κ : KX} {n : Nat} (hC : CX κ cX12_chip RX12 2 (some .int) 7) (hE : zEnd κ n (0, 0)) (hk0 : zRk κ (0, 0)) {r0 : Nat} (h_r0 : zO n r0 12) : ∀ (f : Nat) (x1 : Int32) (M : Mem), X κ 2 emI n (0, 0) 136 [.ref r0, .int x1] [] M (f_X12_chip_136 r0 f x1 M) := by
  intro f
  induction f with
  | zero => intros; exact x_none
  | succ f ih =>
    intro x1 M 
    rw [f_X12_chip_136]
    refine x_aload_n (i := 0) rfl hC (zdk dk_X12_chip 80 rfl) (q := 137) rfl ?_
    refine x_getI fl_RX12_36 (by decide) h_r0 hC (zdk dk_X12_chip 81 rfl) (q := 140) rfl ?_
    refine x_if_ne (tgt := 165) hC (zdk dk_X12_chip 82 rfl) (q := 143) rfl rfl (fun _ => ?_) (fun _ => ?_)
    · refine x_weak (L' := [.ref r0, .int x1]) ⟨Or.inr rfl, Or.inr rfl, trivial⟩ ?_
      exact x_X12_chip_165 hC hE hk0 h_r0 _ _
    · refine x_aload_n (i := 0) rfl hC (zdk dk_X12_chip 83 rfl) (q := 144) rfl ?_
      refine x_getI fl_RX12_20 (by decide) h_r0 hC (zdk dk_X12_chip 84 rfl) (q := 147) rfl ?_
      refine x_if_eq (tgt := 165) hC (zdk dk_X12_chip 85 rfl) (q := 150) rfl rfl (fun _ => ?_) (fun _ => ?_)
      · refine x_weak (L' := [.ref r0, .int x1]) ⟨Or.inr rfl, Or.inr rfl, trivial⟩ ?_
        exact x_X12_chip_165 hC hE hk0 h_r0 _ _
      · refine x_aload_n (i := 0) rfl hC (zdk dk_X12_chip 86 rfl) (q := 151) rfl ?_
        refine x_callVv (as := []) cb_RX12_416 rfl (by decide) hk0 h_r0 (fun x hx => t_X12_statement h_r0 x hx) hC (zdk dk_X12_chip 87 rfl) (q := 154) rfl rfl (Nat.le_of_ble_eq_true rfl) (fun M8 => ?_)
        refine x_iinc (i := 1) c_iconst_1 rfl (by decide) (L' := [.ref r0, .int (x1 + 1)]) rfl hC (zdk dk_X12_chip 88 rfl) (q := 157) rfl ?_
        refine x_aload_n (i := 0) rfl hC (zdk dk_X12_chip 89 rfl) (q := 158) rfl ?_
        refine x_iload_n (i := 1) rfl hC (zdk dk_X12_chip 90 rfl) (q := 159) rfl ?_
        refine x_callVv (as := [.int (x1 + 1)]) cb_RX12_413 rfl (by decide) hk0 h_r0 (fun x hx => t_X12_finishes h_r0 x hx) hC (zdk dk_X12_chip 91 rfl) (q := 162) rfl rfl (Nat.le_of_ble_eq_true rfl) (fun M9 => ?_)
        refine x_goto (tgt := 136) hC (zdk dk_X12_chip 92 rfl) rfl ?_
        refine x_weak (L' := [.ref r0, .int (x1 + 1)]) ⟨Or.inr rfl, Or.inr rfl, trivial⟩ ?_
        exact ih _ _
set_option maxRecDepth 100000 in
def f_X12_chip_91  (r0 : Nat) : Nat → Int32 → Mem → Option (Int32 × Mem)
  | 0, _, _ => none
  | f + 1, x1, M => (if (2 * (zI M r0 22)) + 2 ≤ x1 then Option.bind (some (zsI M r0 21 0)) fun M10 => Option.bind (f_X12_ahead r0 M10) fun M11 => Option.bind (f_X12_chipIs r0 M11) fun M12 => Option.bind (f_X12_finishes r0 1 M12) fun M13 => f_X12_chip_136 r0 1000000 1 M13 else Option.bind (zrf M r0 16) fun q14 => Option.bind (zld q14 x1) fun k15 => Option.bind (some (zsI M q14 k15 ((-1)))) fun M16 => (f_X12_chip_91 r0 f) (x1 + 1) M16)
set_option maxRecDepth 100000 in
set_option maxHeartbeats 4000000 in
theorem x_X12_chip_91 {κ : KX} {n : Nat} (hC : CX κ cX12_chip RX12 2 (some .int) 7) (hE : zEnd κ n (0, 0)) (hk0 : zRk κ (0, 0)) {r0 : Nat} (h_r0 : zO n r0 12) : ∀ (f : Nat) (x1 : Int32) (M : Mem), X κ 2 emI n (0, 0) 91 [.ref r0, .int x1] [] M (f_X12_chip_91 r0 f x1 M) := by
  intro f
  induction f with
  | zero => intros; exact x_none
  | succ f ih =>
    intro x1 M 
    rw [f_X12_chip_91]
    refine x_iload_n (i := 1) rfl hC (zdk dk_X12_chip 53 rfl) (q := 92) rfl ?_
    refine x_iconst (i := 2) c_iconst_2 hC (zdk dk_X12_chip 54 rfl) (q := 93) rfl ?_
    refine x_aload_n (i := 0) rfl hC (zdk dk_X12_chip 55 rfl) (q := 94) rfl ?_
    refine x_getI fl_RX12_79 (by decide) h_r0 hC (zdk dk_X12_chip 56 rfl) (q := 97) rfl ?_
    refine x_imul hC (zdk dk_X12_chip 57 rfl) (q := 98) rfl ?_
    refine x_iconst (i := 2) c_iconst_2 hC (zdk dk_X12_chip 58 rfl) (q := 99) rfl ?_
    refine x_iadd hC (zdk dk_X12_chip 59 rfl) (q := 100) rfl ?_
    refine x_icmp_ge (tgt := 116) hC (zdk dk_X12_chip 60 rfl) (q := 103) rfl rfl (fun _ => ?_) (fun _ => ?_)
    · refine x_aload_n (i := 0) rfl hC (zdk dk_X12_chip 68 rfl) (q := 117) rfl ?_
      refine x_iconst (i := 0) c_iconst_0 hC (zdk dk_X12_chip 69 rfl) (q := 118) rfl ?_
      refine x_putI fl_RX12_76 ⟨rfl, rfl⟩ (by decide) (Or.inl rfl) h_r0 hC (zdk dk_X12_chip 70 rfl) (q := 121) rfl ?_
      refine x_nmM (fun M10 => ?_)
      refine x_iconst (i := 1) c_iconst_1 hC (zdk dk_X12_chip 71 rfl) (q := 122) rfl ?_
      refine x_istore_n (i := 1) (L' := [.ref r0, .int 1]) (by decide) rfl hC (zdk dk_X12_chip 72 rfl) (q := 123) rfl ?_
      refine x_aload_n (i := 0) rfl hC (zdk dk_X12_chip 73 rfl) (q := 124) rfl ?_
      refine x_callVv (as := []) cb_RX12_268 rfl (by decide) hk0 h_r0 (fun x hx => t_X12_ahead h_r0 x hx) hC (zdk dk_X12_chip 74 rfl) (q := 127) rfl rfl (Nat.le_of_ble_eq_true rfl) (fun M11 => ?_)
      refine x_aload_n (i := 0) rfl hC (zdk dk_X12_chip 75 rfl) (q := 128) rfl ?_
      refine x_callVv (as := []) cb_RX12_410 rfl (by decide) hk0 h_r0 (fun x hx => t_X12_chipIs h_r0 x hx) hC (zdk dk_X12_chip 76 rfl) (q := 131) rfl rfl (Nat.le_of_ble_eq_true rfl) (fun M12 => ?_)
      refine x_aload_n (i := 0) rfl hC (zdk dk_X12_chip 77 rfl) (q := 132) rfl ?_
      refine x_iload_n (i := 1) rfl hC (zdk dk_X12_chip 78 rfl) (q := 133) rfl ?_
      refine x_callVv (as := [.int 1]) cb_RX12_413 rfl (by decide) hk0 h_r0 (fun x hx => t_X12_finishes h_r0 x hx) hC (zdk dk_X12_chip 79 rfl) (q := 136) rfl rfl (Nat.le_of_ble_eq_true rfl) (fun M13 => ?_)
      refine x_weak (L' := [.ref r0, .int 1]) ⟨Or.inr rfl, Or.inr rfl, trivial⟩ ?_
      exact x_X12_chip_136 hC hE hk0 h_r0 _ _ _
    · refine x_aload_n (i := 0) rfl hC (zdk dk_X12_chip 61 rfl) (q := 104) rfl ?_
      refine x_getR (k := 20) fl_RX12_60 rfl h_r0 hC (zdk dk_X12_chip 62 rfl) (q := 107) rfl (fun q14 hq14 => ?_)
      refine x_iload_n (i := 1) rfl hC (zdk dk_X12_chip 63 rfl) (q := 108) rfl ?_
      refine x_iconst (i := (-1)) c_iconst_m1 hC (zdk dk_X12_chip 64 rfl) (q := 109) rfl ?_
      refine x_iast hq14 hC (zdk dk_X12_chip 65 rfl) (q := 110) rfl (fun k15 _ => ?_)
      refine x_nmM (fun M16 => ?_)
      refine x_iinc (i := 1) c_iconst_1 rfl (by decide) (L' := [.ref r0, .int (x1 + 1)]) rfl hC (zdk dk_X12_chip 66 rfl) (q := 113) rfl ?_
      refine x_goto (tgt := 91) hC (zdk dk_X12_chip 67 rfl) rfl ?_
      refine x_weak (L' := [.ref r0, .int (x1 + 1)]) ⟨Or.inr rfl, Or.inr rfl, trivial⟩ ?_
      exact ih _ _
set_option maxRecDepth 100000 in
def f_X12_chip (r0 : Nat) (M : Mem) : Option (Int32 × Mem) := Option.bind (some (zsI M r0 2 (zI M r0 1))) fun M17 => Option.bind (some (zsI M17 r0 1 0)) fun M18 => Option.bind (some (zsI M18 r0 5 0)) fun M19 => Option.bind (some (zsI M19 r0 8 0)) fun M20 => Option.bind (some (zsI M20 r0 9 ((-1)))) fun M21 => Option.bind (some (zsI M21 r0 22 (1 - (zI M21 r0 13)))) fun M22 => Option.bind (zrf M22 r0 15) fun q23 => Option.bind (zld q23 (zI M22 r0 22)) fun k24 => Option.bind (some (zsI M22 q23 k24 0)) fun M25 => Option.bind (f_X12_tellsAt r0 4 70 M25) fun M26 => Option.bind (f_X12_tellsAt r0 5 30 M26) fun M27 => Option.bind (f_X12_tellsAt r0 6 50 M27) fun M28 => Option.bind (f_X12_tellsAt r0 7 3 M28) fun M29 => Option.bind (f_X12_tellsAt r0 8 0 M29) fun M30 => f_X12_chip_91 r0 1000000 (2 * (zI M30 r0 22)) M30
set_option maxRecDepth 100000 in
set_option maxHeartbeats 4000000 in
theorem x_X12_chip {κ : KX} {n : Nat} (hC : CX κ cX12_chip RX12 2 (some .int) 7) (hE : zEnd κ n (0, 0)) (hk0 : zRk κ (0, 0)) (r0 : Nat) (M : Mem) (h_r0 : zO n r0 12) : X κ 2 emI n (0, 0) 0 [.ref r0, .null] [] M (f_X12_chip r0 M) := by
  unfold f_X12_chip
  refine x_aload_n (i := 0) rfl hC (zdk dk_X12_chip 0 rfl) (q := 1) rfl ?_
  refine x_aload_n (i := 0) rfl hC (zdk dk_X12_chip 1 rfl) (q := 2) rfl ?_
  refine x_getI fl_RX12_13 (by decide) h_r0 hC (zdk dk_X12_chip 2 rfl) (q := 5) rfl ?_
  refine x_putI fl_RX12_17 ⟨rfl, rfl⟩ (by decide) (Or.inl rfl) h_r0 hC (zdk dk_X12_chip 3 rfl) (q := 8) rfl ?_
  refine x_nmM (fun M17 => ?_)
  refine x_aload_n (i := 0) rfl hC (zdk dk_X12_chip 4 rfl) (q := 9) rfl ?_
  refine x_iconst (i := 0) c_iconst_0 hC (zdk dk_X12_chip 5 rfl) (q := 10) rfl ?_
  refine x_putI fl_RX12_13 ⟨rfl, rfl⟩ (by decide) (Or.inl rfl) h_r0 hC (zdk dk_X12_chip 6 rfl) (q := 13) rfl ?_
  refine x_nmM (fun M18 => ?_)
  refine x_aload_n (i := 0) rfl hC (zdk dk_X12_chip 7 rfl) (q := 14) rfl ?_
  refine x_iconst (i := 0) c_iconst_0 hC (zdk dk_X12_chip 8 rfl) (q := 15) rfl ?_
  refine x_putI fl_RX12_26 ⟨rfl, rfl⟩ (by decide) (Or.inl rfl) h_r0 hC (zdk dk_X12_chip 9 rfl) (q := 18) rfl ?_
  refine x_nmM (fun M19 => ?_)
  refine x_aload_n (i := 0) rfl hC (zdk dk_X12_chip 10 rfl) (q := 19) rfl ?_
  refine x_iconst (i := 0) c_iconst_0 hC (zdk dk_X12_chip 11 rfl) (q := 20) rfl ?_
  refine x_putI fl_RX12_36 ⟨rfl, rfl⟩ (by decide) (Or.inl rfl) h_r0 hC (zdk dk_X12_chip 12 rfl) (q := 23) rfl ?_
  refine x_nmM (fun M20 => ?_)
  refine x_aload_n (i := 0) rfl hC (zdk dk_X12_chip 13 rfl) (q := 24) rfl ?_
  refine x_iconst (i := (-1)) c_iconst_m1 hC (zdk dk_X12_chip 14 rfl) (q := 25) rfl ?_
  refine x_putI fl_RX12_39 ⟨rfl, rfl⟩ (by decide) (Or.inl rfl) h_r0 hC (zdk dk_X12_chip 15 rfl) (q := 28) rfl ?_
  refine x_nmM (fun M21 => ?_)
  refine x_aload_n (i := 0) rfl hC (zdk dk_X12_chip 16 rfl) (q := 29) rfl ?_
  refine x_iconst (i := 1) c_iconst_1 hC (zdk dk_X12_chip 17 rfl) (q := 30) rfl ?_
  refine x_aload_n (i := 0) rfl hC (zdk dk_X12_chip 18 rfl) (q := 31) rfl ?_
  refine x_getI fl_RX12_51 (by decide) h_r0 hC (zdk dk_X12_chip 19 rfl) (q := 34) rfl ?_
  refine x_isub hC (zdk dk_X12_chip 20 rfl) (q := 35) rfl ?_
  refine x_putI fl_RX12_79 ⟨rfl, rfl⟩ (by decide) (Or.inl rfl) h_r0 hC (zdk dk_X12_chip 21 rfl) (q := 38) rfl ?_
  refine x_nmM (fun M22 => ?_)
  refine x_aload_n (i := 0) rfl hC (zdk dk_X12_chip 22 rfl) (q := 39) rfl ?_
  refine x_getR (k := 20) fl_RX12_57 rfl h_r0 hC (zdk dk_X12_chip 23 rfl) (q := 42) rfl (fun q23 hq23 => ?_)
  refine x_aload_n (i := 0) rfl hC (zdk dk_X12_chip 24 rfl) (q := 43) rfl ?_
  refine x_getI fl_RX12_79 (by decide) h_r0 hC (zdk dk_X12_chip 25 rfl) (q := 46) rfl ?_
  refine x_iconst (i := 0) c_iconst_0 hC (zdk dk_X12_chip 26 rfl) (q := 47) rfl ?_
  refine x_iast hq23 hC (zdk dk_X12_chip 27 rfl) (q := 48) rfl (fun k24 _ => ?_)
  refine x_nmM (fun M25 => ?_)
  refine x_aload_n (i := 0) rfl hC (zdk dk_X12_chip 28 rfl) (q := 49) rfl ?_
  refine x_iconst (i := 4) c_iconst_4 hC (zdk dk_X12_chip 29 rfl) (q := 50) rfl ?_
  refine x_bipush (i := 70) c_bipush_70 hC (zdk dk_X12_chip 30 rfl) (q := 52) rfl ?_
  refine x_callVv (as := [.int 4, .int 70]) cb_RX12_379 rfl (by decide) hk0 h_r0 (fun x hx => t_X12_tellsAt h_r0 x hx) hC (zdk dk_X12_chip 31 rfl) (q := 55) rfl rfl (Nat.le_of_ble_eq_true rfl) (fun M26 => ?_)
  refine x_aload_n (i := 0) rfl hC (zdk dk_X12_chip 32 rfl) (q := 56) rfl ?_
  refine x_iconst (i := 5) c_iconst_5 hC (zdk dk_X12_chip 33 rfl) (q := 57) rfl ?_
  refine x_bipush (i := 30) c_bipush_30 hC (zdk dk_X12_chip 34 rfl) (q := 59) rfl ?_
  refine x_callVv (as := [.int 5, .int 30]) cb_RX12_379 rfl (by decide) hk0 h_r0 (fun x hx => t_X12_tellsAt h_r0 x hx) hC (zdk dk_X12_chip 35 rfl) (q := 62) rfl rfl (Nat.le_of_ble_eq_true rfl) (fun M27 => ?_)
  refine x_aload_n (i := 0) rfl hC (zdk dk_X12_chip 36 rfl) (q := 63) rfl ?_
  refine x_bipush (i := 6) c_bipush_6 hC (zdk dk_X12_chip 37 rfl) (q := 65) rfl ?_
  refine x_bipush (i := 50) c_bipush_50 hC (zdk dk_X12_chip 38 rfl) (q := 67) rfl ?_
  refine x_callVv (as := [.int 6, .int 50]) cb_RX12_379 rfl (by decide) hk0 h_r0 (fun x hx => t_X12_tellsAt h_r0 x hx) hC (zdk dk_X12_chip 39 rfl) (q := 70) rfl rfl (Nat.le_of_ble_eq_true rfl) (fun M28 => ?_)
  refine x_aload_n (i := 0) rfl hC (zdk dk_X12_chip 40 rfl) (q := 71) rfl ?_
  refine x_bipush (i := 7) c_bipush_7 hC (zdk dk_X12_chip 41 rfl) (q := 73) rfl ?_
  refine x_iconst (i := 3) c_iconst_3 hC (zdk dk_X12_chip 42 rfl) (q := 74) rfl ?_
  refine x_callVv (as := [.int 7, .int 3]) cb_RX12_379 rfl (by decide) hk0 h_r0 (fun x hx => t_X12_tellsAt h_r0 x hx) hC (zdk dk_X12_chip 43 rfl) (q := 77) rfl rfl (Nat.le_of_ble_eq_true rfl) (fun M29 => ?_)
  refine x_aload_n (i := 0) rfl hC (zdk dk_X12_chip 44 rfl) (q := 78) rfl ?_
  refine x_bipush (i := 8) c_bipush_8 hC (zdk dk_X12_chip 45 rfl) (q := 80) rfl ?_
  refine x_iconst (i := 0) c_iconst_0 hC (zdk dk_X12_chip 46 rfl) (q := 81) rfl ?_
  refine x_callVv (as := [.int 8, .int 0]) cb_RX12_379 rfl (by decide) hk0 h_r0 (fun x hx => t_X12_tellsAt h_r0 x hx) hC (zdk dk_X12_chip 47 rfl) (q := 84) rfl rfl (Nat.le_of_ble_eq_true rfl) (fun M30 => ?_)
  refine x_iconst (i := 2) c_iconst_2 hC (zdk dk_X12_chip 48 rfl) (q := 85) rfl ?_
  refine x_aload_n (i := 0) rfl hC (zdk dk_X12_chip 49 rfl) (q := 86) rfl ?_
  refine x_getI fl_RX12_79 (by decide) h_r0 hC (zdk dk_X12_chip 50 rfl) (q := 89) rfl ?_
  refine x_imul hC (zdk dk_X12_chip 51 rfl) (q := 90) rfl ?_
  refine x_istore_n (i := 1) (L' := [.ref r0, .int (2 * (zI M30 r0 22))]) (by decide) rfl hC (zdk dk_X12_chip 52 rfl) (q := 91) rfl ?_
  refine x_weak (L' := [.ref r0, .int (2 * (zI M30 r0 22))]) ⟨Or.inr rfl, Or.inr rfl, trivial⟩ ?_
  exact x_X12_chip_91 hC hE hk0 h_r0 _ _ _
set_option maxRecDepth 100000 in
set_option maxHeartbeats 4000000 in
theorem t_X12_chip {n : Nat} {r0 : Nat} {M : Mem} (h_r0 : zO n r0 12) (x : (Int32 × Mem)) (hx : f_X12_chip r0 M = some x) (l : Launch) (dC : Nat → ClassId) (dI : Nat → Nat → Nat) (b : zSg) : MT l dC dI b yX12_chip cX12_chip 2 (some .int) 7 0 0 n n [.ref r0] M (emI x).1 (emI x).2 :=
  MT.ofX (by decide +kernel) rfl (Nat.le_of_ble_eq_true rfl) (fun κ hC hF _ => x_X12_chip hC (zEnd_of hF (Nat.le_refl _) (Nat.le_refl _)) (zRk_of hF (Nat.le_refl _) (Nat.le_refl _)) _ _ h_r0) x hx
set_option maxRecDepth 100000 in
def dt_X12_fault : List (Nat × Instr × Nat) := [(0, .iload_n 1, 1), (1, .ifCond .ne 10, 3), (4, .aload_n 0, 1), (5, .getfield 42, 3), (8, .goto 16, 3), (11, .iload_n 1, 1), (12, .iconst 1, 1), (13, .if_icmp .ne 10, 3), (16, .aload_n 0, 1), (17, .getfield 45, 3), (20, .goto 4, 3), (23, .iconst (-1), 1), (24, .ireturn, 1)]
set_option maxRecDepth 100000 in
theorem dk_X12_fault : dt_X12_fault.all (fun q => decide (decode cX12_fault q.1 = .ok q.2)) = true := by decide +kernel
set_option maxRecDepth 100000 in
def f_X12_fault_24  (r0 : Nat) (x1 : Int32) (s0 : Int32) (M : Mem) : Option (Int32 × Mem) := some (s0, M)
set_option maxRecDepth 100000 in
set_option maxHeartbeats 4000000 in
theorem x_X12_fault_24 {κ : KX} {n : Nat} (hC : CX κ cX12_fault RX12 2 (some .int) 0) (hE : zEnd κ n (0, 0)) (hk0 : zRk κ (0, 0)) {r0 : Nat} {x1 : Int32} (h_r0 : zO n r0 12) (s0 : Int32) (M : Mem) : X κ 2 emI n (0, 0) 24 [.null, .null] [.int s0] M (f_X12_fault_24 r0 x1 s0 M) := by
  unfold f_X12_fault_24
  exact x_iret (ty := .int) rfl hE hC (zdk dk_X12_fault 12 rfl)
set_option maxRecDepth 100000 in
def f_X12_fault (r0 : Nat) (x1 : Int32) (M : Mem) : Option (Int32 × Mem) := (if x1 = 0 then f_X12_fault_24 r0 x1 (zI M r0 10) M else (if x1 = 1 then f_X12_fault_24 r0 x1 (zI M r0 11) M else f_X12_fault_24 r0 x1 ((-1)) M))
set_option maxRecDepth 100000 in
set_option maxHeartbeats 4000000 in
theorem x_X12_fault {κ : KX} {n : Nat} (hC : CX κ cX12_fault RX12 2 (some .int) 0) (hE : zEnd κ n (0, 0)) (hk0 : zRk κ (0, 0)) (r0 : Nat) (x1 : Int32) (M : Mem) (h_r0 : zO n r0 12) : X κ 2 emI n (0, 0) 0 [.ref r0, .int x1] [] M (f_X12_fault r0 x1 M) := by
  unfold f_X12_fault
  refine x_iload_n (i := 1) rfl hC (zdk dk_X12_fault 0 rfl) (q := 1) rfl ?_
  refine x_if_ne (tgt := 11) hC (zdk dk_X12_fault 1 rfl) (q := 4) rfl rfl (fun _ => ?_) (fun _ => ?_)
  · refine x_iload_n (i := 1) rfl hC (zdk dk_X12_fault 5 rfl) (q := 12) rfl ?_
    refine x_iconst (i := 1) c_iconst_1 hC (zdk dk_X12_fault 6 rfl) (q := 13) rfl ?_
    refine x_icmp_ne (tgt := 23) hC (zdk dk_X12_fault 7 rfl) (q := 16) rfl rfl (fun _ => ?_) (fun _ => ?_)
    · refine x_iconst (i := (-1)) c_iconst_m1 hC (zdk dk_X12_fault 11 rfl) (q := 24) rfl ?_
      refine x_weak (L' := [.null, .null]) ⟨Or.inl rfl, Or.inl rfl, trivial⟩ ?_
      exact x_X12_fault_24 hC hE hk0 h_r0 _ _
    · refine x_aload_n (i := 0) rfl hC (zdk dk_X12_fault 8 rfl) (q := 17) rfl ?_
      refine x_getI fl_RX12_45 (by decide) h_r0 hC (zdk dk_X12_fault 9 rfl) (q := 20) rfl ?_
      refine x_goto (tgt := 24) hC (zdk dk_X12_fault 10 rfl) rfl ?_
      refine x_weak (L' := [.null, .null]) ⟨Or.inl rfl, Or.inl rfl, trivial⟩ ?_
      exact x_X12_fault_24 hC hE hk0 h_r0 _ _
  · refine x_aload_n (i := 0) rfl hC (zdk dk_X12_fault 2 rfl) (q := 5) rfl ?_
    refine x_getI fl_RX12_42 (by decide) h_r0 hC (zdk dk_X12_fault 3 rfl) (q := 8) rfl ?_
    refine x_goto (tgt := 24) hC (zdk dk_X12_fault 4 rfl) rfl ?_
    refine x_weak (L' := [.null, .null]) ⟨Or.inl rfl, Or.inl rfl, trivial⟩ ?_
    exact x_X12_fault_24 hC hE hk0 h_r0 _ _
set_option maxRecDepth 100000 in
set_option maxHeartbeats 4000000 in
theorem t_X12_fault {n : Nat} {r0 : Nat} {x1 : Int32} {M : Mem} (h_r0 : zO n r0 12) (x : (Int32 × Mem)) (hx : f_X12_fault r0 x1 M = some x) (l : Launch) (dC : Nat → ClassId) (dI : Nat → Nat → Nat) (b : zSg) : MT l dC dI b yX12_fault cX12_fault 2 (some .int) 0 0 0 n n [.ref r0, .int x1] M (emI x).1 (emI x).2 :=
  MT.ofX (by decide +kernel) rfl (Nat.le_of_ble_eq_true rfl) (fun κ hC hF _ => x_X12_fault hC (zEnd_of hF (Nat.le_refl _) (Nat.le_refl _)) (zRk_of hF (Nat.le_refl _) (Nat.le_refl _)) _ _ _ h_r0) x hx
set_option maxRecDepth 100000 in
def dt_X12_status : List (Nat × Instr × Nat) := [(0, .iload_n 1, 1), (1, .iconst 0, 1), (2, .iconst 5, 1), (3, .invokestatic 325, 3), (6, .ifCond .eq 12, 3), (9, .aload_n 0, 1), (10, .getfield 123, 3), (13, .iload_n 1, 1), (14, .iaload, 1), (15, .goto 4, 3), (18, .iconst (-1), 1), (19, .ireturn, 1)]
set_option maxRecDepth 100000 in
theorem dk_X12_status : dt_X12_status.all (fun q => decide (decode cX12_status q.1 = .ok q.2)) = true := by decide +kernel
set_option maxRecDepth 100000 in
def f_X12_status_19  (r0 : Nat) (x1 : Int32) (s0 : Int32) (M : Mem) : Option (Int32 × Mem) := some (s0, M)
set_option maxRecDepth 100000 in
set_option maxHeartbeats 4000000 in
theorem x_X12_status_19 {κ : KX} {n : Nat} (hC : CX κ cX12_status RX12 2 (some .int) 1) (hE : zEnd κ n (0, 0)) (hk0 : zRk κ (0, 0)) {r0 : Nat} {x1 : Int32} (h_r0 : zO n r0 12) (s0 : Int32) (M : Mem) : X κ 2 emI n (0, 0) 19 [.null, .null] [.int s0] M (f_X12_status_19 r0 x1 s0 M) := by
  unfold f_X12_status_19
  exact x_iret (ty := .int) rfl hE hC (zdk dk_X12_status 11 rfl)
set_option maxRecDepth 100000 in
def f_X12_status (r0 : Nat) (x1 : Int32) (M : Mem) : Option (Int32 × Mem) := Option.bind (f_X12_is x1 0 5 M) fun z1 => (if z1.1 = 0 then f_X12_status_19 r0 x1 ((-1)) z1.2 else Option.bind (zrf z1.2 r0 36) fun q2 => Option.bind (zld q2 x1) fun k3 => f_X12_status_19 r0 x1 (zI z1.2 q2 k3) z1.2)
set_option maxRecDepth 100000 in
set_option maxHeartbeats 4000000 in
theorem x_X12_status {κ : KX} {n : Nat} (hC : CX κ cX12_status RX12 2 (some .int) 1) (hE : zEnd κ n (0, 0)) (hk0 : zRk κ (0, 0)) (r0 : Nat) (x1 : Int32) (M : Mem) (h_r0 : zO n r0 12) : X κ 2 emI n (0, 0) 0 [.ref r0, .int x1] [] M (f_X12_status r0 x1 M) := by
  unfold f_X12_status
  refine x_iload_n (i := 1) rfl hC (zdk dk_X12_status 0 rfl) (q := 1) rfl ?_
  refine x_iconst (i := 0) c_iconst_0 hC (zdk dk_X12_status 1 rfl) (q := 2) rfl ?_
  refine x_iconst (i := 5) c_iconst_5 hC (zdk dk_X12_status 2 rfl) (q := 3) rfl ?_
  refine x_callSi (as := [.int x1, .int 0, .int 5]) cb_RX12_325 rfl (by decide) hk0 (fun x hx => t_X12_is  x hx) hC (zdk dk_X12_status 3 rfl) (q := 6) rfl rfl (Nat.le_of_ble_eq_true rfl) (fun z1 => ?_)
  refine x_if_eq (tgt := 18) hC (zdk dk_X12_status 4 rfl) (q := 9) rfl rfl (fun _ => ?_) (fun _ => ?_)
  · refine x_iconst (i := (-1)) c_iconst_m1 hC (zdk dk_X12_status 10 rfl) (q := 19) rfl ?_
    refine x_weak (L' := [.null, .null]) ⟨Or.inl rfl, Or.inl rfl, trivial⟩ ?_
    exact x_X12_status_19 hC hE hk0 h_r0 _ _
  · refine x_aload_n (i := 0) rfl hC (zdk dk_X12_status 5 rfl) (q := 10) rfl ?_
    refine x_getR (k := 20) fl_RX12_123 rfl h_r0 hC (zdk dk_X12_status 6 rfl) (q := 13) rfl (fun q2 hq2 => ?_)
    refine x_iload_n (i := 1) rfl hC (zdk dk_X12_status 7 rfl) (q := 14) rfl ?_
    refine x_iald hq2 hC (zdk dk_X12_status 8 rfl) (q := 15) rfl (fun k3 _ => ?_)
    refine x_goto (tgt := 19) hC (zdk dk_X12_status 9 rfl) rfl ?_
    refine x_weak (L' := [.null, .null]) ⟨Or.inl rfl, Or.inl rfl, trivial⟩ ?_
    exact x_X12_status_19 hC hE hk0 h_r0 _ _
set_option maxRecDepth 100000 in
set_option maxHeartbeats 4000000 in
theorem t_X12_status {n : Nat} {r0 : Nat} {x1 : Int32} {M : Mem} (h_r0 : zO n r0 12) (x : (Int32 × Mem)) (hx : f_X12_status r0 x1 M = some x) (l : Launch) (dC : Nat → ClassId) (dI : Nat → Nat → Nat) (b : zSg) : MT l dC dI b yX12_status cX12_status 2 (some .int) 1 0 0 n n [.ref r0, .int x1] M (emI x).1 (emI x).2 :=
  MT.ofX (by decide +kernel) rfl (Nat.le_of_ble_eq_true rfl) (fun κ hC hF _ => x_X12_status hC (zEnd_of hF (Nat.le_refl _) (Nat.le_refl _)) (zRk_of hF (Nat.le_refl _) (Nat.le_refl _)) _ _ _ h_r0) x hx
set_option maxRecDepth 100000 in
def dt_X12_inverse : List (Nat × Instr × Nat) := [(0, .aload_n 0, 1), (1, .getfield 141, 3), (4, .aload_n 0, 1), (5, .getfield 126, 3), (8, .aload_n 0, 1), (9, .getfield 144, 3), (12, .iload_n 1, 1), (13, .iaload, 1), (14, .isub, 1), (15, .aload_n 0, 1), (16, .getfield 126, 3), (19, .irem, 1), (20, .iaload, 1), (21, .ireturn, 1)]
set_option maxRecDepth 100000 in
theorem dk_X12_inverse : dt_X12_inverse.all (fun q => decide (decode cX12_inverse q.1 = .ok q.2)) = true := by decide +kernel
set_option maxRecDepth 100000 in
def f_X12_inverse (r0 : Nat) (x1 : Int32) (M : Mem) : Option (Int32 × Mem) := Option.bind (zrf M r0 42) fun q1 => Option.bind (zrf M r0 43) fun q2 => Option.bind (zld q2 x1) fun k3 => if zI M r0 37 = 0 then none else Option.bind (zld q1 (zrem ((zI M r0 37) - (zI M q2 k3)) (zI M r0 37))) fun k4 => some (zI M q1 k4, M)
set_option maxRecDepth 100000 in
set_option maxHeartbeats 4000000 in
theorem x_X12_inverse {κ : KX} {n : Nat} (hC : CX κ cX12_inverse RX12 2 (some .int) 0) (hE : zEnd κ n (0, 0)) (hk0 : zRk κ (0, 0)) (r0 : Nat) (x1 : Int32) (M : Mem) (h_r0 : zO n r0 12) : X κ 2 emI n (0, 0) 0 [.ref r0, .int x1] [] M (f_X12_inverse r0 x1 M) := by
  unfold f_X12_inverse
  refine x_aload_n (i := 0) rfl hC (zdk dk_X12_inverse 0 rfl) (q := 1) rfl ?_
  refine x_getR (k := 20) fl_RX12_141 rfl h_r0 hC (zdk dk_X12_inverse 1 rfl) (q := 4) rfl (fun q1 hq1 => ?_)
  refine x_aload_n (i := 0) rfl hC (zdk dk_X12_inverse 2 rfl) (q := 5) rfl ?_
  refine x_getI fl_RX12_126 (by decide) h_r0 hC (zdk dk_X12_inverse 3 rfl) (q := 8) rfl ?_
  refine x_aload_n (i := 0) rfl hC (zdk dk_X12_inverse 4 rfl) (q := 9) rfl ?_
  refine x_getR (k := 20) fl_RX12_144 rfl h_r0 hC (zdk dk_X12_inverse 5 rfl) (q := 12) rfl (fun q2 hq2 => ?_)
  refine x_iload_n (i := 1) rfl hC (zdk dk_X12_inverse 6 rfl) (q := 13) rfl ?_
  refine x_iald hq2 hC (zdk dk_X12_inverse 7 rfl) (q := 14) rfl (fun k3 _ => ?_)
  refine x_isub hC (zdk dk_X12_inverse 8 rfl) (q := 15) rfl ?_
  refine x_aload_n (i := 0) rfl hC (zdk dk_X12_inverse 9 rfl) (q := 16) rfl ?_
  refine x_getI fl_RX12_126 (by decide) h_r0 hC (zdk dk_X12_inverse 10 rfl) (q := 19) rfl ?_
  refine x_iremG hC (zdk dk_X12_inverse 11 rfl) (q := 20) rfl ?_
  refine x_iald hq1 hC (zdk dk_X12_inverse 12 rfl) (q := 21) rfl (fun k4 _ => ?_)
  exact x_iret (ty := .int) rfl hE hC (zdk dk_X12_inverse 13 rfl)
set_option maxRecDepth 100000 in
set_option maxHeartbeats 4000000 in
theorem t_X12_inverse {n : Nat} {r0 : Nat} {x1 : Int32} {M : Mem} (h_r0 : zO n r0 12) (x : (Int32 × Mem)) (hx : f_X12_inverse r0 x1 M = some x) (l : Launch) (dC : Nat → ClassId) (dI : Nat → Nat → Nat) (b : zSg) : MT l dC dI b yX12_inverse cX12_inverse 2 (some .int) 0 0 0 n n [.ref r0, .int x1] M (emI x).1 (emI x).2 :=
  MT.ofX (by decide +kernel) rfl (Nat.le_of_ble_eq_true rfl) (fun κ hC hF _ => x_X12_inverse hC (zEnd_of hF (Nat.le_refl _) (Nat.le_refl _)) (zRk_of hF (Nat.le_refl _) (Nat.le_refl _)) _ _ _ h_r0) x hx
set_option maxRecDepth 100000 in
def dt_X12_minimal : List (Nat × Instr × Nat) := [(0, .aload_n 0, 1), (1, .getfield 147, 3), (4, .iconst 0, 1), (5, .iconst 1, 1), (6, .iastore, 1), (7, .iconst 0, 1), (8, .istore_n 2, 1), (9, .iload_n 1, 1), (10, .istore_n 3, 1), (11, .iconst 1, 1), (12, .istore 4, 2), (14, .iload 4, 2), (16, .ifCond .eq 36, 3), (19, .aload_n 0, 1), (20, .iload_n 2, 1), (21, .iload_n 3, 1), (22, .invokevirtual 431, 3), (25, .iinc 2 1, 3), (28, .iconst 2, 1), (29, .iload_n 3, 1), (30, .imul, 1), (31, .aload_n 0, 1), (32, .getfield 126, 3), (35, .irem, 1), (36, .istore_n 3, 1), (37, .iload_n 3, 1), (38, .iload_n 1, 1), (39, .if_icmp .eq 7, 3), (42, .iconst 1, 1), (43, .goto 4, 3), (46, .iconst 0, 1), (47, .istore 4, 2), (49, .goto (-35), 3), (52, .aload_n 0, 1), (53, .iload_n 2, 1), (54, .invokevirtual 434, 3), (57, .l2i, 1), (58, .ireturn, 1)]
set_option maxRecDepth 100000 in
theorem dk_X12_minimal : dt_X12_minimal.all (fun q => decide (decode cX12_minimal q.1 = .ok q.2)) = true := by decide +kernel
set_option maxRecDepth 100000 in
def f_X12_minimal_47 (k14 : Int32 → Int32 → Int32 → Mem → Option (Int32 × Mem)) (r0 : Nat) (x1 : Int32) (x2 : Int32) (x3 : Int32) (s0 : Int32) (M : Mem) : Option (Int32 × Mem) := k14 x2 x3 s0 M
set_option maxRecDepth 100000 in
set_option maxHeartbeats 4000000 in
theorem x_X12_minimal_47 {κ : KX} {n : Nat} (hC : CX κ cX12_minimal RX12 5 (some .int) 2) (hE : zEnd κ n (0, 0)) (hk0 : zRk κ (0, 0)) {r0 : Nat} {x1 : Int32} (h_r0 : zO n r0 12) (k14 : Int32 → Int32 → Int32 → Mem → Option (Int32 × Mem)) (hk14 : ∀ (x2 : Int32) (x3 : Int32) (x4 : Int32) (M : Mem), X κ 5 emI n (0, 0) 14 [.ref r0, .int x1, .int x2, .int x3, .int x4] [] M (k14 x2 x3 x4 M)) (x2 : Int32) (x3 : Int32) (s0 : Int32) (M : Mem) : X κ 5 emI n (0, 0) 47 [.ref r0, .int x1, .int x2, .int x3, .null] [.int s0] M (f_X12_minimal_47 k14 r0 x1 x2 x3 s0 M) := by
  unfold f_X12_minimal_47
  refine x_istore (i := 4) (L' := [.ref r0, .int x1, .int x2, .int x3, .int s0]) (by decide) rfl hC (zdk dk_X12_minimal 31 rfl) (q := 49) rfl ?_
  refine x_goto (tgt := 14) hC (zdk dk_X12_minimal 32 rfl) rfl ?_
  refine x_weak (L' := [.ref r0, .int x1, .int x2, .int x3, .int s0]) ⟨Or.inr rfl, Or.inr rfl, Or.inr rfl, Or.inr rfl, Or.inr rfl, trivial⟩ ?_
  exact hk14 _ _ _ _
set_option maxRecDepth 100000 in
def f_X12_minimal_14  (r0 : Nat) (x1 : Int32) : Nat → Int32 → Int32 → Int32 → Mem → Option (Int32 × Mem)
  | 0, _, _, _, _ => none
  | f + 1, x2, x3, x4, M => (if x4 = 0 then Option.bind (f_X12_twoElements r0 x2 M) fun z1 => some (z1.1.toInt32, z1.2) else Option.bind (f_X12_multiplies r0 x2 x3 M) fun M2 => if zI M2 r0 37 = 0 then none else (if zrem (2 * x3) (zI M2 r0 37) = x1 then f_X12_minimal_47 (f_X12_minimal_14 r0 x1 f) r0 x1 (x2 + 1) (zrem (2 * x3) (zI M2 r0 37)) 0 M2 else f_X12_minimal_47 (f_X12_minimal_14 r0 x1 f) r0 x1 (x2 + 1) (zrem (2 * x3) (zI M2 r0 37)) 1 M2))
set_option maxRecDepth 100000 in
set_option maxHeartbeats 4000000 in
theorem x_X12_minimal_14 {κ : KX} {n : Nat} (hC : CX κ cX12_minimal RX12 5 (some .int) 2) (hE : zEnd κ n (0, 0)) (hk0 : zRk κ (0, 0)) {r0 : Nat} {x1 : Int32} (h_r0 : zO n r0 12) : ∀ (f : Nat) (x2 : Int32) (x3 : Int32) (x4 : Int32) (M : Mem), X κ 5 emI n (0, 0) 14 [.ref r0, .int x1, .int x2, .int x3, .int x4] [] M (f_X12_minimal_14 r0 x1 f x2 x3 x4 M) := by
  intro f
  induction f with
  | zero => intros; exact x_none
  | succ f ih =>
    intro x2 x3 x4 M 
    rw [f_X12_minimal_14]
    refine x_iload (i := 4) rfl hC (zdk dk_X12_minimal 11 rfl) (q := 16) rfl ?_
    refine x_if_eq (tgt := 52) hC (zdk dk_X12_minimal 12 rfl) (q := 19) rfl rfl (fun _ => ?_) (fun _ => ?_)
    · refine x_aload_n (i := 0) rfl hC (zdk dk_X12_minimal 33 rfl) (q := 53) rfl ?_
      refine x_iload_n (i := 2) rfl hC (zdk dk_X12_minimal 34 rfl) (q := 54) rfl ?_
      refine x_callVl (as := [.int x2]) cb_RX12_434 rfl (by decide) hk0 h_r0 (fun x hx => t_X12_twoElements h_r0 x hx) hC (zdk dk_X12_minimal 35 rfl) (q := 57) rfl rfl (Nat.le_of_ble_eq_true rfl) (fun z1 => ?_)
      refine x_l2i hC (zdk dk_X12_minimal 36 rfl) (q := 58) rfl ?_
      exact x_iret (ty := .int) rfl hE hC (zdk dk_X12_minimal 37 rfl)
    · refine x_aload_n (i := 0) rfl hC (zdk dk_X12_minimal 13 rfl) (q := 20) rfl ?_
      refine x_iload_n (i := 2) rfl hC (zdk dk_X12_minimal 14 rfl) (q := 21) rfl ?_
      refine x_iload_n (i := 3) rfl hC (zdk dk_X12_minimal 15 rfl) (q := 22) rfl ?_
      refine x_callVv (as := [.int x2, .int x3]) cb_RX12_431 rfl (by decide) hk0 h_r0 (fun x hx => t_X12_multiplies h_r0 x hx) hC (zdk dk_X12_minimal 16 rfl) (q := 25) rfl rfl (Nat.le_of_ble_eq_true rfl) (fun M2 => ?_)
      refine x_iinc (i := 2) c_iconst_1 rfl (by decide) (L' := [.ref r0, .int x1, .int (x2 + 1), .int x3, .int x4]) rfl hC (zdk dk_X12_minimal 17 rfl) (q := 28) rfl ?_
      refine x_iconst (i := 2) c_iconst_2 hC (zdk dk_X12_minimal 18 rfl) (q := 29) rfl ?_
      refine x_iload_n (i := 3) rfl hC (zdk dk_X12_minimal 19 rfl) (q := 30) rfl ?_
      refine x_imul hC (zdk dk_X12_minimal 20 rfl) (q := 31) rfl ?_
      refine x_aload_n (i := 0) rfl hC (zdk dk_X12_minimal 21 rfl) (q := 32) rfl ?_
      refine x_getI fl_RX12_126 (by decide) h_r0 hC (zdk dk_X12_minimal 22 rfl) (q := 35) rfl ?_
      refine x_iremG hC (zdk dk_X12_minimal 23 rfl) (q := 36) rfl ?_
      refine x_istore_n (i := 3) (L' := [.ref r0, .int x1, .int (x2 + 1), .int (zrem (2 * x3) (zI M2 r0 37)), .int x4]) (by decide) rfl hC (zdk dk_X12_minimal 24 rfl) (q := 37) rfl ?_
      refine x_iload_n (i := 3) rfl hC (zdk dk_X12_minimal 25 rfl) (q := 38) rfl ?_
      refine x_iload_n (i := 1) rfl hC (zdk dk_X12_minimal 26 rfl) (q := 39) rfl ?_
      refine x_icmp_eq (tgt := 46) hC (zdk dk_X12_minimal 27 rfl) (q := 42) rfl rfl (fun _ => ?_) (fun _ => ?_)
      · refine x_iconst (i := 0) c_iconst_0 hC (zdk dk_X12_minimal 30 rfl) (q := 47) rfl ?_
        refine x_weak (L' := [.ref r0, .int x1, .int (x2 + 1), .int (zrem (2 * x3) (zI M2 r0 37)), .null]) ⟨Or.inr rfl, Or.inr rfl, Or.inr rfl, Or.inr rfl, Or.inl rfl, trivial⟩ ?_
        exact x_X12_minimal_47 hC hE hk0 h_r0 (f_X12_minimal_14 r0 x1 f) ih _ _ _ _
      · refine x_iconst (i := 1) c_iconst_1 hC (zdk dk_X12_minimal 28 rfl) (q := 43) rfl ?_
        refine x_goto (tgt := 47) hC (zdk dk_X12_minimal 29 rfl) rfl ?_
        refine x_weak (L' := [.ref r0, .int x1, .int (x2 + 1), .int (zrem (2 * x3) (zI M2 r0 37)), .null]) ⟨Or.inr rfl, Or.inr rfl, Or.inr rfl, Or.inr rfl, Or.inl rfl, trivial⟩ ?_
        exact x_X12_minimal_47 hC hE hk0 h_r0 (f_X12_minimal_14 r0 x1 f) ih _ _ _ _
set_option maxRecDepth 100000 in
def f_X12_minimal (r0 : Nat) (x1 : Int32) (M : Mem) : Option (Int32 × Mem) := Option.bind (zrf M r0 44) fun q3 => Option.bind (zld q3 0) fun k4 => Option.bind (some (zsI M q3 k4 1)) fun M5 => f_X12_minimal_14 r0 x1 1000000 0 x1 1 M5
set_option maxRecDepth 100000 in
set_option maxHeartbeats 4000000 in
theorem x_X12_minimal {κ : KX} {n : Nat} (hC : CX κ cX12_minimal RX12 5 (some .int) 2) (hE : zEnd κ n (0, 0)) (hk0 : zRk κ (0, 0)) (r0 : Nat) (x1 : Int32) (M : Mem) (h_r0 : zO n r0 12) : X κ 5 emI n (0, 0) 0 [.ref r0, .int x1, .null, .null, .null] [] M (f_X12_minimal r0 x1 M) := by
  unfold f_X12_minimal
  refine x_aload_n (i := 0) rfl hC (zdk dk_X12_minimal 0 rfl) (q := 1) rfl ?_
  refine x_getR (k := 20) fl_RX12_147 rfl h_r0 hC (zdk dk_X12_minimal 1 rfl) (q := 4) rfl (fun q3 hq3 => ?_)
  refine x_iconst (i := 0) c_iconst_0 hC (zdk dk_X12_minimal 2 rfl) (q := 5) rfl ?_
  refine x_iconst (i := 1) c_iconst_1 hC (zdk dk_X12_minimal 3 rfl) (q := 6) rfl ?_
  refine x_iast hq3 hC (zdk dk_X12_minimal 4 rfl) (q := 7) rfl (fun k4 _ => ?_)
  refine x_nmM (fun M5 => ?_)
  refine x_iconst (i := 0) c_iconst_0 hC (zdk dk_X12_minimal 5 rfl) (q := 8) rfl ?_
  refine x_istore_n (i := 2) (L' := [.ref r0, .int x1, .int 0, .null, .null]) (by decide) rfl hC (zdk dk_X12_minimal 6 rfl) (q := 9) rfl ?_
  refine x_iload_n (i := 1) rfl hC (zdk dk_X12_minimal 7 rfl) (q := 10) rfl ?_
  refine x_istore_n (i := 3) (L' := [.ref r0, .int x1, .int 0, .int x1, .null]) (by decide) rfl hC (zdk dk_X12_minimal 8 rfl) (q := 11) rfl ?_
  refine x_iconst (i := 1) c_iconst_1 hC (zdk dk_X12_minimal 9 rfl) (q := 12) rfl ?_
  refine x_istore (i := 4) (L' := [.ref r0, .int x1, .int 0, .int x1, .int 1]) (by decide) rfl hC (zdk dk_X12_minimal 10 rfl) (q := 14) rfl ?_
  refine x_weak (L' := [.ref r0, .int x1, .int 0, .int x1, .int 1]) ⟨Or.inr rfl, Or.inr rfl, Or.inr rfl, Or.inr rfl, Or.inr rfl, trivial⟩ ?_
  exact x_X12_minimal_14 hC hE hk0 h_r0 _ _ _ _ _
set_option maxRecDepth 100000 in
set_option maxHeartbeats 4000000 in
theorem t_X12_minimal {n : Nat} {r0 : Nat} {x1 : Int32} {M : Mem} (h_r0 : zO n r0 12) (x : (Int32 × Mem)) (hx : f_X12_minimal r0 x1 M = some x) (l : Launch) (dC : Nat → ClassId) (dI : Nat → Nat → Nat) (b : zSg) : MT l dC dI b yX12_minimal cX12_minimal 5 (some .int) 2 0 0 n n [.ref r0, .int x1] M (emI x).1 (emI x).2 :=
  MT.ofX (by decide +kernel) rfl (Nat.le_of_ble_eq_true rfl) (fun κ hC hF _ => x_X12_minimal hC (zEnd_of hF (Nat.le_refl _) (Nat.le_refl _)) (zRk_of hF (Nat.le_refl _) (Nat.le_refl _)) _ _ _ h_r0) x hx
set_option maxRecDepth 100000 in
def dt_X12_field : List (Nat × Instr × Nat) := [(0, .aload_n 0, 1), (1, .getfield 120, 3), (4, .ifCond .ne 5, 3), (7, .iconst (-1), 1), (8, .ireturn, 1), (9, .iload_n 2, 1), (10, .iconst 1, 1), (11, .if_icmp .ne 26, 3), (14, .iload_n 1, 1), (15, .iconst 1, 1), (16, .aload_n 0, 1), (17, .getfield 126, 3), (20, .invokestatic 325, 3), (23, .ifCond .eq 12, 3), (26, .aload_n 0, 1), (27, .getfield 144, 3), (30, .iload_n 1, 1), (31, .iaload, 1), (32, .goto 4, 3), (35, .iconst (-1), 1), (36, .ireturn, 1), (37, .iload_n 1, 1), (38, .iconst 0, 1), (39, .aload_n 0, 1), (40, .getfield 126, 3), (43, .iconst 1, 1), (44, .isub, 1), (45, .invokestatic 325, 3), (48, .ifCond .ne 5, 3), (51, .iconst (-1), 1), (52, .ireturn, 1), (53, .iload_n 2, 1), (54, .ifCond .ne 12, 3), (57, .aload_n 0, 1), (58, .getfield 141, 3), (61, .iload_n 1, 1), (62, .iaload, 1), (63, .goto 17, 3), (66, .iload_n 2, 1), (67, .iconst 2, 1), (68, .if_icmp .ne 11, 3), (71, .aload_n 0, 1), (72, .iload_n 1, 1), (73, .invokevirtual 438, 3), (76, .goto 4, 3), (79, .iconst (-1), 1), (80, .ireturn, 1)]
set_option maxRecDepth 100000 in
theorem dk_X12_field : dt_X12_field.all (fun q => decide (decode cX12_field q.1 = .ok q.2)) = true := by decide +kernel
set_option maxRecDepth 100000 in
def f_X12_field_36  (r0 : Nat) (x1 : Int32) (x2 : Int32) (s0 : Int32) (M : Mem) : Option (Int32 × Mem) := some (s0, M)
set_option maxRecDepth 100000 in
set_option maxHeartbeats 4000000 in
theorem x_X12_field_36 {κ : KX} {n : Nat} (hC : CX κ cX12_field RX12 3 (some .int) 3) (hE : zEnd κ n (0, 0)) (hk0 : zRk κ (0, 0)) {r0 : Nat} {x1 : Int32} {x2 : Int32} (h_r0 : zO n r0 12) (s0 : Int32) (M : Mem) : X κ 3 emI n (0, 0) 36 [.null, .null, .null] [.int s0] M (f_X12_field_36 r0 x1 x2 s0 M) := by
  unfold f_X12_field_36
  exact x_iret (ty := .int) rfl hE hC (zdk dk_X12_field 20 rfl)
set_option maxRecDepth 100000 in
def f_X12_field_80  (r0 : Nat) (x1 : Int32) (x2 : Int32) (s0 : Int32) (M : Mem) : Option (Int32 × Mem) := some (s0, M)
set_option maxRecDepth 100000 in
set_option maxHeartbeats 4000000 in
theorem x_X12_field_80 {κ : KX} {n : Nat} (hC : CX κ cX12_field RX12 3 (some .int) 3) (hE : zEnd κ n (0, 0)) (hk0 : zRk κ (0, 0)) {r0 : Nat} {x1 : Int32} {x2 : Int32} (h_r0 : zO n r0 12) (s0 : Int32) (M : Mem) : X κ 3 emI n (0, 0) 80 [.null, .null, .null] [.int s0] M (f_X12_field_80 r0 x1 x2 s0 M) := by
  unfold f_X12_field_80
  exact x_iret (ty := .int) rfl hE hC (zdk dk_X12_field 46 rfl)
set_option maxRecDepth 100000 in
def f_X12_field (r0 : Nat) (x1 : Int32) (x2 : Int32) (M : Mem) : Option (Int32 × Mem) := (if zI M r0 35 = 0 then some ((-1), M) else (if x2 = 1 then Option.bind (f_X12_is x1 1 (zI M r0 37) M) fun z5 => (if z5.1 = 0 then f_X12_field_36 r0 x1 x2 ((-1)) z5.2 else Option.bind (zrf z5.2 r0 43) fun q6 => Option.bind (zld q6 x1) fun k7 => f_X12_field_36 r0 x1 x2 (zI z5.2 q6 k7) z5.2) else Option.bind (f_X12_is x1 0 ((zI M r0 37) - 1) M) fun z1 => (if z1.1 = 0 then some ((-1), z1.2) else (if x2 = 0 then Option.bind (zrf z1.2 r0 42) fun q3 => Option.bind (zld q3 x1) fun k4 => f_X12_field_80 r0 x1 x2 (zI z1.2 q3 k4) z1.2 else (if x2 = 2 then Option.bind (f_X12_minimal r0 x1 z1.2) fun z2 => f_X12_field_80 r0 x1 x2 z2.1 z2.2 else f_X12_field_80 r0 x1 x2 ((-1)) z1.2)))))
set_option maxRecDepth 100000 in
set_option maxHeartbeats 4000000 in
theorem x_X12_field {κ : KX} {n : Nat} (hC : CX κ cX12_field RX12 3 (some .int) 3) (hE : zEnd κ n (0, 0)) (hk0 : zRk κ (0, 0)) (r0 : Nat) (x1 : Int32) (x2 : Int32) (M : Mem) (h_r0 : zO n r0 12) : X κ 3 emI n (0, 0) 0 [.ref r0, .int x1, .int x2] [] M (f_X12_field r0 x1 x2 M) := by
  unfold f_X12_field
  refine x_aload_n (i := 0) rfl hC (zdk dk_X12_field 0 rfl) (q := 1) rfl ?_
  refine x_getI fl_RX12_120 (by decide) h_r0 hC (zdk dk_X12_field 1 rfl) (q := 4) rfl ?_
  refine x_if_ne (tgt := 9) hC (zdk dk_X12_field 2 rfl) (q := 7) rfl rfl (fun _ => ?_) (fun _ => ?_)
  · refine x_iload_n (i := 2) rfl hC (zdk dk_X12_field 5 rfl) (q := 10) rfl ?_
    refine x_iconst (i := 1) c_iconst_1 hC (zdk dk_X12_field 6 rfl) (q := 11) rfl ?_
    refine x_icmp_ne (tgt := 37) hC (zdk dk_X12_field 7 rfl) (q := 14) rfl rfl (fun _ => ?_) (fun _ => ?_)
    · refine x_iload_n (i := 1) rfl hC (zdk dk_X12_field 21 rfl) (q := 38) rfl ?_
      refine x_iconst (i := 0) c_iconst_0 hC (zdk dk_X12_field 22 rfl) (q := 39) rfl ?_
      refine x_aload_n (i := 0) rfl hC (zdk dk_X12_field 23 rfl) (q := 40) rfl ?_
      refine x_getI fl_RX12_126 (by decide) h_r0 hC (zdk dk_X12_field 24 rfl) (q := 43) rfl ?_
      refine x_iconst (i := 1) c_iconst_1 hC (zdk dk_X12_field 25 rfl) (q := 44) rfl ?_
      refine x_isub hC (zdk dk_X12_field 26 rfl) (q := 45) rfl ?_
      refine x_callSi (as := [.int x1, .int 0, .int ((zI M r0 37) - 1)]) cb_RX12_325 rfl (by decide) hk0 (fun x hx => t_X12_is  x hx) hC (zdk dk_X12_field 27 rfl) (q := 48) rfl rfl (Nat.le_of_ble_eq_true rfl) (fun z1 => ?_)
      refine x_if_ne (tgt := 53) hC (zdk dk_X12_field 28 rfl) (q := 51) rfl rfl (fun _ => ?_) (fun _ => ?_)
      · refine x_iload_n (i := 2) rfl hC (zdk dk_X12_field 31 rfl) (q := 54) rfl ?_
        refine x_if_ne (tgt := 66) hC (zdk dk_X12_field 32 rfl) (q := 57) rfl rfl (fun _ => ?_) (fun _ => ?_)
        · refine x_iload_n (i := 2) rfl hC (zdk dk_X12_field 38 rfl) (q := 67) rfl ?_
          refine x_iconst (i := 2) c_iconst_2 hC (zdk dk_X12_field 39 rfl) (q := 68) rfl ?_
          refine x_icmp_ne (tgt := 79) hC (zdk dk_X12_field 40 rfl) (q := 71) rfl rfl (fun _ => ?_) (fun _ => ?_)
          · refine x_iconst (i := (-1)) c_iconst_m1 hC (zdk dk_X12_field 45 rfl) (q := 80) rfl ?_
            refine x_weak (L' := [.null, .null, .null]) ⟨Or.inl rfl, Or.inl rfl, Or.inl rfl, trivial⟩ ?_
            exact x_X12_field_80 hC hE hk0 h_r0 _ _
          · refine x_aload_n (i := 0) rfl hC (zdk dk_X12_field 41 rfl) (q := 72) rfl ?_
            refine x_iload_n (i := 1) rfl hC (zdk dk_X12_field 42 rfl) (q := 73) rfl ?_
            refine x_callVi (as := [.int x1]) cb_RX12_438 rfl (by decide) hk0 h_r0 (fun x hx => t_X12_minimal h_r0 x hx) hC (zdk dk_X12_field 43 rfl) (q := 76) rfl rfl (Nat.le_of_ble_eq_true rfl) (fun z2 => ?_)
            refine x_goto (tgt := 80) hC (zdk dk_X12_field 44 rfl) rfl ?_
            refine x_weak (L' := [.null, .null, .null]) ⟨Or.inl rfl, Or.inl rfl, Or.inl rfl, trivial⟩ ?_
            exact x_X12_field_80 hC hE hk0 h_r0 _ _
        · refine x_aload_n (i := 0) rfl hC (zdk dk_X12_field 33 rfl) (q := 58) rfl ?_
          refine x_getR (k := 20) fl_RX12_141 rfl h_r0 hC (zdk dk_X12_field 34 rfl) (q := 61) rfl (fun q3 hq3 => ?_)
          refine x_iload_n (i := 1) rfl hC (zdk dk_X12_field 35 rfl) (q := 62) rfl ?_
          refine x_iald hq3 hC (zdk dk_X12_field 36 rfl) (q := 63) rfl (fun k4 _ => ?_)
          refine x_goto (tgt := 80) hC (zdk dk_X12_field 37 rfl) rfl ?_
          refine x_weak (L' := [.null, .null, .null]) ⟨Or.inl rfl, Or.inl rfl, Or.inl rfl, trivial⟩ ?_
          exact x_X12_field_80 hC hE hk0 h_r0 _ _
      · refine x_iconst (i := (-1)) c_iconst_m1 hC (zdk dk_X12_field 29 rfl) (q := 52) rfl ?_
        exact x_iret (ty := .int) rfl hE hC (zdk dk_X12_field 30 rfl)
    · refine x_iload_n (i := 1) rfl hC (zdk dk_X12_field 8 rfl) (q := 15) rfl ?_
      refine x_iconst (i := 1) c_iconst_1 hC (zdk dk_X12_field 9 rfl) (q := 16) rfl ?_
      refine x_aload_n (i := 0) rfl hC (zdk dk_X12_field 10 rfl) (q := 17) rfl ?_
      refine x_getI fl_RX12_126 (by decide) h_r0 hC (zdk dk_X12_field 11 rfl) (q := 20) rfl ?_
      refine x_callSi (as := [.int x1, .int 1, .int (zI M r0 37)]) cb_RX12_325 rfl (by decide) hk0 (fun x hx => t_X12_is  x hx) hC (zdk dk_X12_field 12 rfl) (q := 23) rfl rfl (Nat.le_of_ble_eq_true rfl) (fun z5 => ?_)
      refine x_if_eq (tgt := 35) hC (zdk dk_X12_field 13 rfl) (q := 26) rfl rfl (fun _ => ?_) (fun _ => ?_)
      · refine x_iconst (i := (-1)) c_iconst_m1 hC (zdk dk_X12_field 19 rfl) (q := 36) rfl ?_
        refine x_weak (L' := [.null, .null, .null]) ⟨Or.inl rfl, Or.inl rfl, Or.inl rfl, trivial⟩ ?_
        exact x_X12_field_36 hC hE hk0 h_r0 _ _
      · refine x_aload_n (i := 0) rfl hC (zdk dk_X12_field 14 rfl) (q := 27) rfl ?_
        refine x_getR (k := 20) fl_RX12_144 rfl h_r0 hC (zdk dk_X12_field 15 rfl) (q := 30) rfl (fun q6 hq6 => ?_)
        refine x_iload_n (i := 1) rfl hC (zdk dk_X12_field 16 rfl) (q := 31) rfl ?_
        refine x_iald hq6 hC (zdk dk_X12_field 17 rfl) (q := 32) rfl (fun k7 _ => ?_)
        refine x_goto (tgt := 36) hC (zdk dk_X12_field 18 rfl) rfl ?_
        refine x_weak (L' := [.null, .null, .null]) ⟨Or.inl rfl, Or.inl rfl, Or.inl rfl, trivial⟩ ?_
        exact x_X12_field_36 hC hE hk0 h_r0 _ _
  · refine x_iconst (i := (-1)) c_iconst_m1 hC (zdk dk_X12_field 3 rfl) (q := 8) rfl ?_
    exact x_iret (ty := .int) rfl hE hC (zdk dk_X12_field 4 rfl)
set_option maxRecDepth 100000 in
set_option maxHeartbeats 4000000 in
theorem t_X12_field {n : Nat} {r0 : Nat} {x1 : Int32} {x2 : Int32} {M : Mem} (h_r0 : zO n r0 12) (x : (Int32 × Mem)) (hx : f_X12_field r0 x1 x2 M = some x) (l : Launch) (dC : Nat → ClassId) (dI : Nat → Nat → Nat) (b : zSg) : MT l dC dI b yX12_field cX12_field 3 (some .int) 3 0 0 n n [.ref r0, .int x1, .int x2] M (emI x).1 (emI x).2 :=
  MT.ofX (by decide +kernel) rfl (Nat.le_of_ble_eq_true rfl) (fun κ hC hF _ => x_X12_field hC (zEnd_of hF (Nat.le_refl _) (Nat.le_refl _)) (zRk_of hF (Nat.le_refl _) (Nat.le_refl _)) _ _ _ _ h_r0) x hx
