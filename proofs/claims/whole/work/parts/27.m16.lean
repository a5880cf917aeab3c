set_option maxRecDepth 100000 in
def dt_X12_meet : List (Nat × Instr × Nat) := [(0, .aload_n 0, 1), (1, .getfield 13, 3), (4, .istore_n 1, 1), (5, .aload_n 0, 1), (6, .iconst 0, 1), (7, .putfield 13, 3), (10, .aload_n 0, 1), (11, .getfield 120, 3), (14, .ifCond .eq 23, 3), (17, .iload_n 1, 1), (18, .ifCond .le 19, 3), (21, .iload_n 1, 1), (22, .iconst 2, 1), (23, .irem, 1), (24, .ifCond .ne 13, 3), (27, .iload_n 1, 1), (28, .bipush 32, 2), (30, .if_icmp .gt 7, 3), (33, .iconst 1, 1), (34, .goto 4, 3), (37, .iconst 0, 1), (38, .istore_n 2, 1), (39, .iconst 0, 1), (40, .istore_n 3, 1), (41, .iload_n 3, 1), (42, .iload_n 1, 1), (43, .if_icmp .ge 43, 3), (46, .iload_n 2, 1), (47, .ifCond .eq 39, 3), (50, .aload_n 0, 1), (51, .getfield 7, 3), (54, .iload_n 3, 1), (55, .iaload, 1), (56, .bipush 100, 2), (58, .if_icmp .gt 20, 3), (61, .aload_n 0, 1), (62, .getfield 7, 3), (65, .iload_n 3, 1), (66, .iconst 1, 1), (67, .iadd, 1), (68, .iaload, 1), (69, .bipush 64, 2), (71, .if_icmp .ge 7, 3), (74, .iconst 1, 1), (75, .goto 4, 3), (78, .iconst 0, 1), (79, .istore_n 2, 1), (80, .iinc 3 2, 3), (83, .goto (-42), 3), (86, .iload_n 2, 1), (87, .ifCond .ne 9, 3), (90, .aload_n 0, 1), (91, .iconst 5, 1), (92, .invokevirtual 243, 3), (95, .ireturn, 1), (96, .aload_n 0, 1), (97, .iload_n 1, 1), (98, .iconst 2, 1), (99, .idiv, 1), (100, .putfield 222, 3), (103, .iconst 0, 1), (104, .istore_n 3, 1), (105, .iload_n 3, 1), (106, .aload_n 0, 1), (107, .getfield 222, 3), (110, .if_icmp .ge 39, 3), (113, .aload_n 0, 1), (114, .getfield 225, 3), (117, .iload_n 3, 1), (118, .aload_n 0, 1), (119, .getfield 7, 3), (122, .iconst 2, 1), (123, .iload_n 3, 1), (124, .imul, 1), (125, .iaload, 1), (126, .iastore, 1), (127, .aload_n 0, 1), (128, .getfield 228, 3), (131, .iload_n 3, 1), (132, .aload_n 0, 1), (133, .getfield 7, 3), (136, .iconst 2, 1), (137, .iload_n 3, 1), (138, .imul, 1), (139, .iconst 1, 1), (140, .iadd, 1), (141, .iaload, 1), (142, .iastore, 1), (143, .iinc 3 1, 3), (146, .goto (-41), 3), (149, .aload_n 0, 1), (150, .getfield 222, 3), (153, .ireturn, 1)]
set_option maxRecDepth 100000 in
theorem dk_X12_meet : dt_X12_meet.all (fun q => decide (decode cX12_meet q.1 = .ok q.2)) = true := by decide +kernel
set_option maxRecDepth 100000 in
def f_X12_meet_79 (k41 : Int32 → Int32 → Int32 → Mem → Option (Int32 × Mem)) (r0 : Nat) (x1 : Int32) (x3 : Int32) (s0 : Int32) (M : Mem) : Option (Int32 × Mem) := k41 x1 s0 (x3 + 2) M
set_option maxRecDepth 100000 in
set_option maxHeartbeats 4000000 in
theorem x_X12_meet_79 {κ : KX} {n : Nat} (hC : CX κ cX12_meet RX12 4 (some .int) 1) (hE : zEnd κ n (0, 0)) (hk0 : zRk κ (0, 0)) {r0 : Nat} (h_r0 : zO n r0 12) (k41 : Int32 → Int32 → Int32 → Mem → Option (Int32 × Mem)) (hk41 : ∀ (x1 : Int32) (x2 : Int32) (x3 : Int32) (M : Mem), X κ 4 emI n (0, 0) 41 [.ref r0, .int x1, .int x2, .int x3] [] M (k41 x1 x2 x3 M)) (x1 : Int32) (x3 : Int32) (s0 : Int32) (M : Mem) : X κ 4 emI n (0, 0) 79 [.ref r0, .int x1, .null, .int x3] [.int s0] M (f_X12_meet_79 k41 r0 x1 x3 s0 M) := by
  unfold f_X12_meet_79
  refine x_istore_n (i := 2) (L' := [.ref r0, .int x1, .int s0, .int x3]) (by decide) rfl hC (zdk dk_X12_meet 46 rfl) (q := 80) rfl ?_
  refine x_iinc (i := 3) c_iconst_2 rfl (by decide) (L' := [.ref r0, .int x1, .int s0, .int (x3 + 2)]) rfl hC (zdk dk_X12_meet 47 rfl) (q := 83) rfl ?_
  refine x_goto (tgt := 41) hC (zdk dk_X12_meet 48 rfl) rfl ?_
  refine x_weak (L' := [.ref r0, .int x1, .int s0, .int (x3 + 2)]) ⟨Or.inr rfl, Or.inr rfl, Or.inr rfl, Or.inr rfl, trivial⟩ ?_
  exact hk41 _ _ _ _
set_option maxRecDepth 100000 in
def f_X12_meet_78 (k41 : Int32 → Int32 → Int32 → Mem → Option (Int32 × Mem)) (r0 : Nat) (x1 : Int32) (x3 : Int32) (M : Mem) : Option (Int32 × Mem) := f_X12_meet_79 k41 r0 x1 x3 0 M
set_option maxRecDepth 100000 in
set_option maxHeartbeats 4000000 in
theorem x_X12_meet_78 {κ : KX} {n : Nat} (hC : CX κ cX12_meet RX12 4 (some .int) 1) (hE : zEnd κ n (0, 0)) (hk0 : zRk κ (0, 0)) {r0 : Nat} (h_r0 : zO n r0 12) (k41 : Int32 → Int32 → Int32 → Mem → Option (Int32 × Mem)) (hk41 : ∀ (x1 : Int32) (x2 : Int32) (x3 : Int32) (M : Mem), X κ 4 emI n (0, 0) 41 [.ref r0, .int x1, .int x2, .int x3] [] M (k41 x1 x2 x3 M)) (x1 : Int32) (x3 : Int32) (M : Mem) : X κ 4 emI n (0, 0) 78 [.ref r0, .int x1, .null, .int x3] [] M (f_X12_meet_78 k41 r0 x1 x3 M) := by
  unfold f_X12_meet_78
  refine x_iconst (i := 0) c_iconst_0 hC (zdk dk_X12_meet 45 rfl) (q := 79) rfl ?_
  refine x_weak (L' := [.ref r0, .int x1, .null, .int x3]) ⟨Or.inr rfl, Or.inr rfl, Or.inl rfl, Or.inr rfl, trivial⟩ ?_
  exact x_X12_meet_79 hC hE hk0 h_r0 k41 hk41 _ _ _ _
set_option maxRecDepth 100000 in
def f_X12_meet_105  (r0 : Nat) : Nat → Int32 → Mem → Option (Int32 × Mem)
  | 0, _, _ => none
  | f + 1, x3, M => (if zI M r0 69 ≤ x3 then some (zI M r0 69, M) else Option.bind (zrf M r0 70) fun q1 => Option.bind (zrf M r0 0) fun q2 => Option.bind (zld q2 (2 * x3)) fun k3 => Option.bind (zld q1 x3) fun k4 => Option.bind (some (zsI M q1 k4 (zI M q2 k3))) fun M5 => Option.bind (zrf M5 r0 71) fun q6 => Option.bind (zrf M5 r0 0) fun q7 => Option.bind (zld q7 ((2 * x3) + 1)) fun k8 => Option.bind (zld q6 x3) fun k9 => Option.bind (some (zsI M5 q6 k9 (zI M5 q7 k8))) fun M10 => (f_X12_meet_105 r0 f) (x3 + 1) M10)
set_option maxRecDepth 100000 in
set_option maxHeartbeats 4000000 in
theorem x_X12_meet_105 {κ : KX} {n : Nat} (hC : CX κ cX12_meet RX12 4 (some .int) 1) (hE : zEnd κ n (0, 0)) (hk0 : zRk κ (0, 0)) {r0 : Nat} (h_r0 : zO n r0 12) : ∀ (f : Nat) (x3 : Int32) (M : Mem), X κ 4 emI n (0, 0) 105 [.ref r0, .null, .null, .int x3] [] M (f_X12_meet_105 r0 f x3 M) := by
  intro f
  induction f with
  | zero => intros; exact x_none
  | succ f ih =>
    intro x3 M 
    rw [f_X12_meet_105]
    refine x_iload_n (i := 3) rfl hC (zdk dk_X12_meet 62 rfl) (q := 106) rfl ?_
    refine x_aload_n (i := 0) rfl hC (zdk dk_X12_meet 63 rfl) (q := 107) rfl ?_
    refine x_getI fl_RX12_222 (by decide) h_r0 hC (zdk dk_X12_meet 64 rfl) (q := 110) rfl ?_
    refine x_icmp_ge (tgt := 149) hC (zdk dk_X12_meet 65 rfl) (q := 113) rfl rfl (fun _ => ?_) (fun _ => ?_)
    · refine x_aload_n (i := 0) rfl hC (zdk dk_X12_meet 90 rfl) (q := 150) rfl ?_
      refine x_getI fl_RX12_222 (by decide) h_r0 hC (zdk dk_X12_meet 91 rfl) (q := 153) rfl ?_
      exact x_iret (ty := .int) rfl hE hC (zdk dk_X12_meet 92 rfl)
    · refine x_aload_n (i := 0) rfl hC (zdk dk_X12_meet 66 rfl) (q := 114) rfl ?_
      refine x_getR (k := 20) fl_RX12_225 rfl h_r0 hC (zdk dk_X12_meet 67 rfl) (q := 117) rfl (fun q1 hq1 => ?_)
      refine x_iload_n (i := 3) rfl hC (zdk dk_X12_meet 68 rfl) (q := 118) rfl ?_
      refine x_aload_n (i := 0) rfl hC (zdk dk_X12_meet 69 rfl) (q := 119) rfl ?_
      refine x_getR (k := 20) fl_RX12_7 rfl h_r0 hC (zdk dk_X12_meet 70 rfl) (q := 122) rfl (fun q2 hq2 => ?_)
      refine x_iconst (i := 2) c_iconst_2 hC (zdk dk_X12_meet 71 rfl) (q := 123) rfl ?_
      refine x_iload_n (i := 3) rfl hC (zdk dk_X12_meet 72 rfl) (q := 124) rfl ?_
      refine x_imul hC (zdk dk_X12_meet 73 rfl) (q := 125) rfl ?_
      refine x_iald hq2 hC (zdk dk_X12_meet 74 rfl) (q := 126) rfl (fun k3 _ => ?_)
      refine x_iast hq1 hC (zdk dk_X12_meet 75 rfl) (q := 127) rfl (fun k4 _ => ?_)
      refine x_nmM (fun M5 => ?_)
      refine x_aload_n (i := 0) rfl hC (zdk dk_X12_meet 76 rfl) (q := 128) rfl ?_
      refine x_getR (k := 20) fl_RX12_228 rfl h_r0 hC (zdk dk_X12_meet 77 rfl) (q := 131) rfl (fun q6 hq6 => ?_)
      refine x_iload_n (i := 3) rfl hC (zdk dk_X12_meet 78 rfl) (q := 132) rfl ?_
      refine x_aload_n (i := 0) rfl hC (zdk dk_X12_meet 79 rfl) (q := 133) rfl ?_
      refine x_getR (k := 20) fl_RX12_7 rfl h_r0 hC (zdk dk_X12_meet 80 rfl) (q := 136) rfl (fun q7 hq7 => ?_)
      refine x_iconst (i := 2) c_iconst_2 hC (zdk dk_X12_meet 81 rfl) (q := 137) rfl ?_
      refine x_iload_n (i := 3) rfl hC (zdk dk_X12_meet 82 rfl) (q := 138) rfl ?_
      refine x_imul hC (zdk dk_X12_meet 83 rfl) (q := 139) rfl ?_
      refine x_iconst (i := 1) c_iconst_1 hC (zdk dk_X12_meet 84 rfl) (q := 140) rfl ?_
      refine x_iadd hC (zdk dk_X12_meet 85 rfl) (q := 141) rfl ?_
      refine x_iald hq7 hC (zdk dk_X12_meet 86 rfl) (q := 142) rfl (fun k8 _ => ?_)
      refine x_iast hq6 hC (zdk dk_X12_meet 87 rfl) (q := 143) rfl (fun k9 _ => ?_)
      refine x_nmM (fun M10 => ?_)
      refine x_iinc (i := 3) c_iconst_1 rfl (by decide) (L' := [.ref r0, .null, .null, .int (x3 + 1)]) rfl hC (zdk dk_X12_meet 88 rfl) (q := 146) rfl ?_
      refine x_goto (tgt := 105) hC (zdk dk_X12_meet 89 rfl) rfl ?_
      refine x_weak (L' := [.ref r0, .null, .null, .int (x3 + 1)]) ⟨Or.inr rfl, Or.inl rfl, Or.inl rfl, Or.inr rfl, trivial⟩ ?_
      exact ih _ _
set_option maxRecDepth 100000 in
def f_X12_meet_86  (r0 : Nat) (x1 : Int32) (x2 : Int32) (M : Mem) : Option (Int32 × Mem) := (if x2 = 0 then Option.bind (f_X12_refuses r0 5 M) fun z12 => some (z12.1, z12.2) else Option.bind (some (zsI M r0 69 (x1 / 2))) fun M11 => f_X12_meet_105 r0 1000000 0 M11)
set_option maxRecDepth 100000 in
set_option maxHeartbeats 4000000 in
theorem x_X12_meet_86 {κ : KX} {n : Nat} (hC : CX κ cX12_meet RX12 4 (some .int) 1) (hE : zEnd κ n (0, 0)) (hk0 : zRk κ (0, 0)) {r0 : Nat} (h_r0 : zO n r0 12) (x1 : Int32) (x2 : Int32) (M : Mem) : X κ 4 emI n (0, 0) 86 [.ref r0, .int x1, .int x2, .null] [] M (f_X12_meet_86 r0 x1 x2 M) := by
  unfold f_X12_meet_86
  refine x_iload_n (i := 2) rfl hC (zdk dk_X12_meet 49 rfl) (q := 87) rfl ?_
  refine x_if_ne (tgt := 96) hC (zdk dk_X12_meet 50 rfl) (q := 90) rfl rfl (fun _ => ?_) (fun _ => ?_)
  · refine x_aload_n (i := 0) rfl hC (zdk dk_X12_meet 55 rfl) (q := 97) rfl ?_
    refine x_iload_n (i := 1) rfl hC (zdk dk_X12_meet 56 rfl) (q := 98) rfl ?_
    refine x_iconst (i := 2) c_iconst_2 hC (zdk dk_X12_meet 57 rfl) (q := 99) rfl ?_
    refine x_idiv (by decide) hC (zdk dk_X12_meet 58 rfl) (q := 100) rfl ?_
    refine x_putI fl_RX12_222 ⟨rfl, rfl⟩ (by decide) (Or.inl rfl) h_r0 hC (zdk dk_X12_meet 59 rfl) (q := 103) rfl ?_
    refine x_nmM (fun M11 => ?_)
    refine x_iconst (i := 0) c_iconst_0 hC (zdk dk_X12_meet 60 rfl) (q := 104) rfl ?_
    refine x_istore_n (i := 3) (L' := [.ref r0, .int x1, .int x2, .int 0]) (by decide) rfl hC (zdk dk_X12_meet 61 rfl) (q := 105) rfl ?_
    refine x_weak (L' := [.ref r0, .null, .null, .int 0]) ⟨Or.inr rfl, Or.inl rfl, Or.inl rfl, Or.inr rfl, trivial⟩ ?_
    exact x_X12_meet_105 hC hE hk0 h_r0 _ _ _
  · refine x_aload_n (i := 0) rfl hC (zdk dk_X12_meet 51 rfl) (q := 91) rfl ?_
    refine x_iconst (i := 5) c_iconst_5 hC (zdk dk_X12_meet 52 rfl) (q := 92) rfl ?_
    refine x_callVi (as := [.int 5]) cb_RX12_243 rfl (by decide) hk0 h_r0 (fun x hx => t_X12_refuses h_r0 x hx) hC (zdk dk_X12_meet 53 rfl) (q := 95) rfl rfl (Nat.le_of_ble_eq_true rfl) (fun z12 => ?_)
    exact x_iret (ty := .int) rfl hE hC (zdk dk_X12_meet 54 rfl)
set_option maxRecDepth 100000 in
def f_X12_meet_41  (r0 : Nat) : Nat → Int32 → Int32 → Int32 → Mem → Option (Int32 × Mem)
  | 0, _, _, _, _ => none
  | f + 1, x1, x2, x3, M => (if x1 ≤ x3 then f_X12_meet_86 r0 x1 x2 M else (if x2 = 0 then f_X12_meet_86 r0 x1 x2 M else Option.bind (zrf M r0 0) fun q13 => Option.bind (zld q13 x3) fun k14 => (if 100 < zI M q13 k14 then f_X12_meet_78 (f_X12_meet_41 r0 f) r0 x1 x3 M else Option.bind (zrf M r0 0) fun q15 => Option.bind (zld q15 (x3 + 1)) fun k16 => (if 64 ≤ zI M q15 k16 then f_X12_meet_78 (f_X12_meet_41 r0 f) r0 x1 x3 M else f_X12_meet_79 (f_X12_meet_41 r0 f) r0 x1 x3 1 M))))
set_option maxRecDepth 100000 in
set_option maxHeartbeats 4000000 in
theorem x_X12_meet_41 {κ : KX} {n : Nat} (hC : CX κ cX12_meet RX12 4 (some .int) 1) (hE : zEnd κ n (0, 0)) (hk0 : zRk κ (0, 0)) {r0 : Nat} (h_r0 : zO n r0 12) : ∀ (f : Nat) (x1 : Int32) (x2 : Int32) (x3 : Int32) (M : Mem), X κ 4 emI n (0, 0) 41 [.ref r0, .int x1, .int x2, .int x3] [] M (f_X12_meet_41 r0 f x1 x2 x3 M) := by
  intro f
  induction f with
  | zero => intros; exact x_none
  | succ f ih =>
    intro x1 x2 x3 M 
    rw [f_X12_meet_41]
    refine x_iload_n (i := 3) rfl hC (zdk dk_X12_meet 24 rfl) (q := 42) rfl ?_
    refine x_iload_n (i := 1) rfl hC (zdk dk_X12_meet 25 rfl) (q := 43) rfl ?_
    refine x_icmp_ge (tgt := 86) hC (zdk dk_X12_meet 26 rfl) (q := 46) rfl rfl (fun _ => ?_) (fun _ => ?_)
    · refine x_weak (L' := [.ref r0, .int x1, .int x2, .null]) ⟨Or.inr rfl, Or.inr rfl, Or.inr rfl, Or.inl rfl, trivial⟩ ?_
      exact x_X12_meet_86 hC hE hk0 h_r0 _ _ _
    · refine x_iload_n (i := 2) rfl hC (zdk dk_X12_meet 27 rfl) (q := 47) rfl ?_
      refine x_if_eq (tgt := 86) hC (zdk dk_X12_meet 28 rfl) (q := 50) rfl rfl (fun _ => ?_) (fun _ => ?_)
      · refine x_weak (L' := [.ref r0, .int x1, .int x2, .null]) ⟨Or.inr rfl, Or.inr rfl, Or.inr rfl, Or.inl rfl, trivial⟩ ?_
        exact x_X12_meet_86 hC hE hk0 h_r0 _ _ _
      · refine x_aload_n (i := 0) rfl hC (zdk dk_X12_meet 29 rfl) (q := 51) rfl ?_
        refine x_getR (k := 20) fl_RX12_7 rfl h_r0 hC (zdk dk_X12_meet 30 rfl) (q := 54) rfl (fun q13 hq13 => ?_)
        refine x_iload_n (i := 3) rfl hC (zdk dk_X12_meet 31 rfl) (q := 55) rfl ?_
        refine x_iald hq13 hC (zdk dk_X12_meet 32 rfl) (q := 56) rfl (fun k14 _ => ?_)
        refine x_bipush (i := 100) c_bipush_100 hC (zdk dk_X12_meet 33 rfl) (q := 58) rfl ?_
        refine x_icmp_gt (tgt := 78) hC (zdk dk_X12_meet 34 rfl) (q := 61) rfl rfl (fun _ => ?_) (fun _ => ?_)
        · refine x_weak (L' := [.ref r0, .int x1, .null, .int x3]) ⟨Or.inr rfl, Or.inr rfl, Or.inl rfl, Or.inr rfl, trivial⟩ ?_
          exact x_X12_meet_78 hC hE hk0 h_r0 (f_X12_meet_41 r0 f) ih _ _ _
        · refine x_aload_n (i := 0) rfl hC (zdk dk_X12_meet 35 rfl) (q := 62) rfl ?_
          refine x_getR (k := 20) fl_RX12_7 rfl h_r0 hC (zdk dk_X12_meet 36 rfl) (q := 65) rfl (fun q15 hq15 => ?_)
          refine x_iload_n (i := 3) rfl hC (zdk dk_X12_meet 37 rfl) (q := 66) rfl ?_
          refine x_iconst (i := 1) c_iconst_1 hC (zdk dk_X12_meet 38 rfl) (q := 67) rfl ?_
          refine x_iadd hC (zdk dk_X12_meet 39 rfl) (q := 68) rfl ?_
          refine x_iald hq15 hC (zdk dk_X12_meet 40 rfl) (q := 69) rfl (fun k16 _ => ?_)
          refine x_bipush (i := 64) c_bipush_64 hC (zdk dk_X12_meet 41 rfl) (q := 71) rfl ?_
          refine x_icmp_ge (tgt := 78) hC (zdk dk_X12_meet 42 rfl) (q := 74) rfl rfl (fun _ => ?_) (fun _ => ?_)
          · refine x_weak (L' := [.ref r0, .int x1, .null, .int x3]) ⟨Or.inr rfl, Or.inr rfl, Or.inl rfl, Or.inr rfl, trivial⟩ ?_
            exact x_X12_meet_78 hC hE hk0 h_r0 (f_X12_meet_41 r0 f) ih _ _ _
          · refine x_iconst (i := 1) c_iconst_1 hC (zdk dk_X12_meet 43 rfl) (q := 75) rfl ?_
            refine x_goto (tgt := 79) hC (zdk dk_X12_meet 44 rfl) rfl ?_
            refine x_weak (L' := [.ref r0, .int x1, .null, .int x3]) ⟨Or.inr rfl, Or.inr rfl, Or.inl rfl, Or.inr rfl, trivial⟩ ?_
            exact x_X12_meet_79 hC hE hk0 h_r0 (f_X12_meet_41 r0 f) ih _ _ _ _
set_option maxRecDepth 100000 in
def f_X12_meet_38  (r0 : Nat) (x1 : Int32) (s0 : Int32) (M : Mem) : Option (Int32 × Mem) := f_X12_meet_41 r0 1000000 x1 s0 0 M
set_option maxRecDepth 100000 in
set_option maxHeartbeats 4000000 in
theorem x_X12_meet_38 {κ : KX} {n : Nat} (hC : CX κ cX12_meet RX12 4 (some .int) 1) (hE : zEnd κ n (0, 0)) (hk0 : zRk κ (0, 0)) {r0 : Nat} (h_r0 : zO n r0 12) (x1 : Int32) (s0 : Int32) (M : Mem) : X κ 4 emI n (0, 0) 38 [.ref r0, .int x1, .null, .null] [.int s0] M (f_X12_meet_38 r0 x1 s0 M) := by
  unfold f_X12_meet_38
  refine x_istore_n (i := 2) (L' := [.ref r0, .int x1, .int s0, .null]) (by decide) rfl hC (zdk dk_X12_meet 21 rfl) (q := 39) rfl ?_
  refine x_iconst (i := 0) c_iconst_0 hC (zdk dk_X12_meet 22 rfl) (q := 40) rfl ?_
  refine x_istore_n (i := 3) (L' := [.ref r0, .int x1, .int s0, .int 0]) (by decide) rfl hC (zdk dk_X12_meet 23 rfl) (q := 41) rfl ?_
  refine x_weak (L' := [.ref r0, .int x1, .int s0, .int 0]) ⟨Or.inr rfl, Or.inr rfl, Or.inr rfl, Or.inr rfl, trivial⟩ ?_
  exact x_X12_meet_41 hC hE hk0 h_r0 _ _ _ _ _
set_option maxRecDepth 100000 in
def f_X12_meet_37  (r0 : Nat) (x1 : Int32) (M : Mem) : Option (Int32 × Mem) := f_X12_meet_38 r0 x1 0 M
set_option maxRecDepth 100000 in
set_option maxHeartbeats 4000000 in
theorem x_X12_meet_37 {κ : KX} {n : Nat} (hC : CX κ cX12_meet RX12 4 (some .int) 1) (hE : zEnd κ n (0, 0)) (hk0 : zRk κ (0, 0)) {r0 : Nat} (h_r0 : zO n r0 12) (x1 : Int32) (M : Mem) : X κ 4 emI n (0, 0) 37 [.ref r0, .int x1, .null, .null] [] M (f_X12_meet_37 r0 x1 M) := by
  unfold f_X12_meet_37
  refine x_iconst (i := 0) c_iconst_0 hC (zdk dk_X12_meet 20 rfl) (q := 38) rfl ?_
  refine x_weak (L' := [.ref r0, .int x1, .null, .null]) ⟨Or.inr rfl, Or.inr rfl, Or.inl rfl, Or.inl rfl, trivial⟩ ?_
  exact x_X12_meet_38 hC hE hk0 h_r0 _ _ _
set_option maxRecDepth 100000 in
def f_X12_meet (r0 : Nat) (M : Mem) : Option (Int32 × Mem) := Option.bind (some (zsI M r0 1 0)) fun M17 => (if zI M17 r0 35 = 0 then f_X12_meet_37 r0 (zI M r0 1) M17 else (if zI M r0 1 ≤ 0 then f_X12_meet_37 r0 (zI M r0 1) M17 else (if zrem (zI M r0 1) 2 = 0 then (if 32 < zI M r0 1 then f_X12_meet_37 r0 (zI M r0 1) M17 else f_X12_meet_38 r0 (zI M r0 1) 1 M17) else f_X12_meet_37 r0 (zI M r0 1) M17)))
set_option maxRecDepth 100000 in
set_option maxHeartbeats 4000000 in
theorem x_X12_meet {κ : KX} {n : Nat} (hC : CX κ cX12_meet RX12 4 (some .int) 1) (hE : zEnd κ n (0, 0)) (hk0 : zRk κ (0, 0)) (r0 : Nat) (M : Mem) (h_r0 : zO n r0 12) : X κ 4 emI n (0, 0) 0 [.ref r0, .null, .null, .null] [] M (f_X12_meet r0 M) := by
  unfold f_X12_meet
  refine x_aload_n (i := 0) rfl hC (zdk dk_X12_meet 0 rfl) (q := 1) rfl ?_
  refine x_getI fl_RX12_13 (by decide) h_r0 hC (zdk dk_X12_meet 1 rfl) (q := 4) rfl ?_
  refine x_istore_n (i := 1) (L' := [.ref r0, .int (zI M r0 1), .null, .null]) (by decide) rfl hC (zdk dk_X12_meet 2 rfl) (q := 5) rfl ?_
  refine x_aload_n (i := 0) rfl hC (zdk dk_X12_meet 3 rfl) (q := 6) rfl ?_
  refine x_iconst (i := 0) c_iconst_0 hC (zdk dk_X12_meet 4 rfl) (q := 7) rfl ?_
  refine x_putI fl_RX12_13 ⟨rfl, rfl⟩ (by decide) (Or.inl rfl) h_r0 hC (zdk dk_X12_meet 5 rfl) (q := 10) rfl ?_
  refine x_nmM (fun M17 => ?_)
  refine x_aload_n (i := 0) rfl hC (zdk dk_X12_meet 6 rfl) (q := 11) rfl ?_
  refine x_getI fl_RX12_120 (by decide) h_r0 hC (zdk dk_X12_meet 7 rfl) (q := 14) rfl ?_
  refine x_if_eq (tgt := 37) hC (zdk dk_X12_meet 8 rfl) (q := 17) rfl rfl (fun _ => ?_) (fun _ => ?_)
  · refine x_weak (L' := [.ref r0, .int (zI M r0 1), .null, .null]) ⟨Or.inr rfl, Or.inr rfl, Or.inl rfl, Or.inl rfl, trivial⟩ ?_
    exact x_X12_meet_37 hC hE hk0 h_r0 _ _
  · refine x_iload_n (i := 1) rfl hC (zdk dk_X12_meet 9 rfl) (q := 18) rfl ?_
    refine x_if_le (tgt := 37) hC (zdk dk_X12_meet 10 rfl) (q := 21) rfl rfl (fun _ => ?_) (fun _ => ?_)
    · refine x_weak (L' := [.ref r0, .int (zI M r0 1), .null, .null]) ⟨Or.inr rfl, Or.inr rfl, Or.inl rfl, Or.inl rfl, trivial⟩ ?_
      exact x_X12_meet_37 hC hE hk0 h_r0 _ _
    · refine x_iload_n (i := 1) rfl hC (zdk dk_X12_meet 11 rfl) (q := 22) rfl ?_
      refine x_iconst (i := 2) c_iconst_2 hC (zdk dk_X12_meet 12 rfl) (q := 23) rfl ?_
      refine x_irem (by decide) hC (zdk dk_X12_meet 13 rfl) (q := 24) rfl ?_
      refine x_if_ne (tgt := 37) hC (zdk dk_X12_meet 14 rfl) (q := 27) rfl rfl (fun _ => ?_) (fun _ => ?_)
      · refine x_weak (L' := [.ref r0, .int (zI M r0 1), .null, .null]) ⟨Or.inr rfl, Or.inr rfl, Or.inl rfl, Or.inl rfl, trivial⟩ ?_
        exact x_X12_meet_37 hC hE hk0 h_r0 _ _
      · refine x_iload_n (i := 1) rfl hC (zdk dk_X12_meet 15 rfl) (q := 28) rfl ?_
        refine x_bipush (i := 32) c_bipush_32 hC (zdk dk_X12_meet 16 rfl) (q := 30) rfl ?_
        refine x_icmp_gt (tgt := 37) hC (zdk dk_X12_meet 17 rfl) (q := 33) rfl rfl (fun _ => ?_) (fun _ => ?_)
        · refine x_weak (L' := [.ref r0, .int (zI M r0 1), .null, .null]) ⟨Or.inr rfl, Or.inr rfl, Or.inl rfl, Or.inl rfl, trivial⟩ ?_
          exact x_X12_meet_37 hC hE hk0 h_r0 _ _
        · refine x_iconst (i := 1) c_iconst_1 hC (zdk dk_X12_meet 18 rfl) (q := 34) rfl ?_
          refine x_goto (tgt := 38) hC (zdk dk_X12_meet 19 rfl) rfl ?_
          refine x_weak (L' := [.ref r0, .int (zI M r0 1), .null, .null]) ⟨Or.inr rfl, Or.inr rfl, Or.inl rfl, Or.inl rfl, trivial⟩ ?_
          exact x_X12_meet_38 hC hE hk0 h_r0 _ _ _
set_option maxRecDepth 100000 in
set_option maxHeartbeats 4000000 in
theorem t_X12_meet {n : Nat} {r0 : Nat} {M : Mem} (h_r0 : zO n r0 12) (x : (Int32 × Mem)) (hx : f_X12_meet r0 M = some x) (l : Launch) (dC : Nat → ClassId) (dI : Nat → Nat → Nat) (b : zSg) : MT l dC dI b yX12_meet cX12_meet 4 (some .int) 1 0 0 n n [.ref r0] M (emI x).1 (emI x).2 :=
  MT.ofX (by decide +kernel) rfl (Nat.le_of_ble_eq_true rfl) (fun κ hC hF _ => x_X12_meet hC (zEnd_of hF (Nat.le_refl _) (Nat.le_refl _)) (zRk_of hF (Nat.le_refl _) (Nat.le_refl _)) _ _ h_r0) x hx
set_option maxRecDepth 100000 in
def dt_X12_leaves : List (Nat × Instr × Nat) := [(0, .iconst 0, 1), (1, .istore_n 2, 1), (2, .iconst 0, 1), (3, .istore_n 3, 1), (4, .iload_n 3, 1), (5, .bipush 19, 2), (7, .if_icmp .ge 80, 3), (10, .aload_n 0, 1), (11, .getfield 231, 3), (14, .iload_n 3, 1), (15, .iconst 1, 1), (16, .iastore, 1), (17, .iconst 0, 1), (18, .istore 4, 2), (20, .iload 4, 2), (22, .aload_n 0, 1), (23, .getfield 222, 3), (26, .if_icmp .ge 46, 3), (29, .aload_n 0, 1), (30, .iconst 0, 1), (31, .iload_n 1, 1), (32, .aload_n 0, 1), (33, .getfield 225, 3), (36, .iload 4, 2), (38, .iaload, 1), (39, .iload_n 3, 1), (40, .bipush 9, 2), (42, .isub, 1), (43, .invokevirtual 512, 3), (46, .invokestatic 452, 3), (49, .aload_n 0, 1), (50, .getfield 228, 3), (53, .iload 4, 2), (55, .iaload, 1), (56, .if_icmp .eq 10, 3), (59, .aload_n 0, 1), (60, .getfield 231, 3), (63, .iload_n 3, 1), (64, .iconst 0, 1), (65, .iastore, 1), (66, .iinc 4 1, 3), (69, .goto (-49), 3), (72, .iload_n 2, 1), (73, .aload_n 0, 1), (74, .getfield 231, 3), (77, .iload_n 3, 1), (78, .iaload, 1), (79, .iadd, 1), (80, .istore_n 2, 1), (81, .iinc 3 1, 3), (84, .goto (-80), 3), (87, .iload_n 2, 1), (88, .ireturn, 1)]
set_option maxRecDepth 100000 in
theorem dk_X12_leaves : dt_X12_leaves.all (fun q => decide (decode cX12_leaves q.1 = .ok q.2)) = true := by decide +kernel
set_option maxRecDepth 100000 in
def f_X12_leaves_66 (k4 : Int32 → Int32 → Mem → Option (Int32 × Mem)) (k20 : Int32 → Int32 → Int32 → Mem → Option (Int32 × Mem)) (r0 : Nat) (x1 : Int32) (x2 : Int32) (x3 : Int32) (x4 : Int32) (M : Mem) : Option (Int32 × Mem) := k20 x2 x3 (x4 + 1) M
set_option maxRecDepth 100000 in
set_option maxHeartbeats 4000000 in
theorem x_X12_leaves_66 {κ : KX} {n : Nat} (hC : CX κ cX12_leaves RX12 5 (some .int) 2) (hE : zEnd κ n (0, 0)) (hk0 : zRk κ (0, 0)) {r0 : Nat} {x1 : Int32} (h_r0 : zO n r0 12) (k4 : Int32 → Int32 → Mem → Option (Int32 × Mem)) (hk4 : ∀ (x2 : Int32) (x3 : Int32) (M : Mem), X κ 5 emI n (0, 0) 4 [.ref r0, .int x1, .int x2, .int x3, .null] [] M (k4 x2 x3 M)) (k20 : Int32 → Int32 → Int32 → Mem → Option (Int32 × Mem)) (hk20 : ∀ (x2 : Int32) (x3 : Int32) (x4 : Int32) (M : Mem), X κ 5 emI n (0, 0) 20 [.ref r0, .int x1, .int x2, .int x3, .int x4] [] M (k20 x2 x3 x4 M)) (x2 : Int32) (x3 : Int32) (x4 : Int32) (M : Mem) : X κ 5 emI n (0, 0) 66 [.ref r0, .int x1, .int x2, .int x3, .int x4] [] M (f_X12_leaves_66 k4 k20 r0 x1 x2 x3 x4 M) := by
  unfold f_X12_leaves_66
  refine x_iinc (i := 4) c_iconst_1 rfl (by decide) (L' := [.ref r0, .int x1, .int x2, .int x3, .int (x4 + 1)]) rfl hC (zdk dk_X12_leaves 40 rfl) (q := 69) rfl ?_
  refine x_goto (tgt := 20) hC (zdk dk_X12_leaves 41 rfl) rfl ?_
  refine x_weak (L' := [.ref r0, .int x1, .int x2, .int x3, .int (x4 + 1)]) ⟨Or.inr rfl, Or.inr rfl, Or.inr rfl, Or.inr rfl, Or.inr rfl, trivial⟩ ?_
  exact hk20 _ _ _ _
set_option maxRecDepth 100000 in
def f_X12_leaves_20 (k4 : Int32 → Int32 → Mem → Option (Int32 × Mem)) (r0 : Nat) (x1 : Int32) : Nat → Int32 → Int32 → Int32 → Mem → Option (Int32 × Mem)
  | 0, _, _, _, _ => none
  | f + 1, x2, x3, x4, M => (if zI M r0 69 ≤ x4 then Option.bind (zrf M r0 72) fun q1 => Option.bind (zld q1 x3) fun k2 => k4 (x2 + (zI M q1 k2)) (x3 + 1) M else Option.bind (zrf M r0 70) fun q3 => Option.bind (zld q3 x4) fun k5 => Option.bind (f_X12_bitsBy r0 0 x1 (zI M q3 k5) (x3 - 9) M) fun z6 => Option.bind (f_X12_onesOf z6.1 z6.2) fun z7 => Option.bind (zrf z7.2 r0 71) fun q8 => Option.bind (zld q8 x4) fun k9 => (if z7.1 = zI z7.2 q8 k9 then f_X12_leaves_66 k4 (f_X12_leaves_20 k4 r0 x1 f) r0 x1 x2 x3 x4 z7.2 else Option.bind (zrf z7.2 r0 72) fun q10 => Option.bind (zld q10 x3) fun k11 => Option.bind (some (zsI z7.2 q10 k11 0)) fun M12 => f_X12_leaves_66 k4 (f_X12_leaves_20 k4 r0 x1 f) r0 x1 x2 x3 x4 M12))
set_option maxRecDepth 100000 in
set_option maxHeartbeats 4000000 in
theorem x_X12_leaves_20 {κ : KX} {n : Nat} (hC : CX κ cX12_leaves RX12 5 (some .int) 2) (hE : zEnd κ n (0, 0)) (hk0 : zRk κ (0, 0)) {r0 : Nat} {x1 : Int32} (h_r0 : zO n r0 12) (k4 : Int32 → Int32 → Mem → Option (Int32 × Mem)) (hk4 : ∀ (x2 : Int32) (x3 : Int32) (M : Mem), X κ 5 emI n (0, 0) 4 [.ref r0, .int x1, .int x2, .int x3, .null] [] M (k4 x2 x3 M)) : ∀ (f : Nat) (x2 : Int32) (x3 : Int32) (x4 : Int32) (M : Mem), X κ 5 emI n (0, 0) 20 [.ref r0, .int x1, .int x2, .int x3, .int x4] [] M (f_X12_leaves_20 k4 r0 x1 f x2 x3 x4 M) := by
  intro f
  induction f with
  | zero => intros; exact x_none
  | succ f ih =>
    intro x2 x3 x4 M 
    rw [f_X12_leaves_20]
    refine x_iload (i := 4) rfl hC (zdk dk_X12_leaves 14 rfl) (q := 22) rfl ?_
    refine x_aload_n (i := 0) rfl hC (zdk dk_X12_leaves 15 rfl) (q := 23) rfl ?_
    refine x_getI fl_RX12_222 (by decide) h_r0 hC (zdk dk_X12_leaves 16 rfl) (q := 26) rfl ?_
    refine x_icmp_ge (tgt := 72) hC (zdk dk_X12_leaves 17 rfl) (q := 29) rfl rfl (fun _ => ?_) (fun _ => ?_)
    · refine x_iload_n (i := 2) rfl hC (zdk dk_X12_leaves 42 rfl) (q := 73) rfl ?_
      refine x_aload_n (i := 0) rfl hC (zdk dk_X12_leaves 43 rfl) (q := 74) rfl ?_
      refine x_getR (k := 20) fl_RX12_231 rfl h_r0 hC (zdk dk_X12_leaves 44 rfl) (q := 77) rfl (fun q1 hq1 => ?_)
      refine x_iload_n (i := 3) rfl hC (zdk dk_X12_leaves 45 rfl) (q := 78) rfl ?_
      refine x_iald hq1 hC (zdk dk_X12_leaves 46 rfl) (q := 79) rfl (fun k2 _ => ?_)
      refine x_iadd hC (zdk dk_X12_leaves 47 rfl) (q := 80) rfl ?_
      refine x_istore_n (i := 2) (L' := [.ref r0, .int x1, .int (x2 + (zI M q1 k2)), .int x3, .int x4]) (by decide) rfl hC (zdk dk_X12_leaves 48 rfl) (q := 81) rfl ?_
      refine x_iinc (i := 3) c_iconst_1 rfl (by decide) (L' := [.ref r0, .int x1, .int (x2 + (zI M q1 k2)), .int (x3 + 1), .int x4]) rfl hC (zdk dk_X12_leaves 49 rfl) (q := 84) rfl ?_
      refine x_goto (tgt := 4) hC (zdk dk_X12_leaves 50 rfl) rfl ?_
      refine x_weak (L' := [.ref r0, .int x1, .int (x2 + (zI M q1 k2)), .int (x3 + 1), .null]) ⟨Or.inr rfl, Or.inr rfl, Or.inr rfl, Or.inr rfl, Or.inl rfl, trivial⟩ ?_
      exact hk4 _ _ _
    · refine x_aload_n (i := 0) rfl hC (zdk dk_X12_leaves 18 rfl) (q := 30) rfl ?_
      refine x_iconst (i := 0) c_iconst_0 hC (zdk dk_X12_leaves 19 rfl) (q := 31) rfl ?_
      refine x_iload_n (i := 1) rfl hC (zdk dk_X12_leaves 20 rfl) (q := 32) rfl ?_
      refine x_aload_n (i := 0) rfl hC (zdk dk_X12_leaves 21 rfl) (q := 33) rfl ?_
      refine x_getR (k := 20) fl_RX12_225 rfl h_r0 hC (zdk dk_X12_leaves 22 rfl) (q := 36) rfl (fun q3 hq3 => ?_)
      refine x_iload (i := 4) rfl hC (zdk dk_X12_leaves 23 rfl) (q := 38) rfl ?_
      refine x_iald hq3 hC (zdk dk_X12_leaves 24 rfl) (q := 39) rfl (fun k5 _ => ?_)
      refine x_iload_n (i := 3) rfl hC (zdk dk_X12_leaves 25 rfl) (q := 40) rfl ?_
      refine x_bipush (i := 9) c_bipush_9 hC (zdk dk_X12_leaves 26 rfl) (q := 42) rfl ?_
      refine x_isub hC (zdk dk_X12_leaves 27 rfl) (q := 43) rfl ?_
      refine x_callVl (as := [.int 0, .int x1, .int (zI M q3 k5), .int (x3 - 9)]) cb_RX12_512 rfl (by decide) hk0 h_r0 (fun x hx => t_X12_bitsBy h_r0 x hx) hC (zdk dk_X12_leaves 28 rfl) (q := 46) rfl rfl (Nat.le_of_ble_eq_true rfl) (fun z6 => ?_)
      refine x_callSi (as := [.long z6.1]) cb_RX12_452 rfl (by decide) hk0 (fun x hx => t_X12_onesOf  x hx) hC (zdk dk_X12_leaves 29 rfl) (q := 49) rfl rfl (Nat.le_of_ble_eq_true rfl) (fun z7 => ?_)
      refine x_aload_n (i := 0) rfl hC (zdk dk_X12_leaves 30 rfl) (q := 50) rfl ?_
      refine x_getR (k := 20) fl_RX12_228 rfl h_r0 hC (zdk dk_X12_leaves 31 rfl) (q := 53) rfl (fun q8 hq8 => ?_)
      refine x_iload (i := 4) rfl hC (zdk dk_X12_leaves 32 rfl) (q := 55) rfl ?_
      refine x_iald hq8 hC (zdk dk_X12_leaves 33 rfl) (q := 56) rfl (fun k9 _ => ?_)
      refine x_icmp_eq (tgt := 66) hC (zdk dk_X12_leaves 34 rfl) (q := 59) rfl rfl (fun _ => ?_) (fun _ => ?_)
      · refine x_weak (L' := [.ref r0, .int x1, .int x2, .int x3, .int x4]) ⟨Or.inr rfl, Or.inr rfl, Or.inr rfl, Or.inr rfl, Or.inr rfl, trivial⟩ ?_
        exact x_X12_leaves_66 hC hE hk0 h_r0 k4 hk4 (f_X12_leaves_20 k4 r0 x1 f) ih _ _ _ _
      · refine x_aload_n (i := 0) rfl hC (zdk dk_X12_leaves 35 rfl) (q := 60) rfl ?_
        refine x_getR (k := 20) fl_RX12_231 rfl h_r0 hC (zdk dk_X12_leaves 36 rfl) (q := 63) rfl (fun q10 hq10 => ?_)
        refine x_iload_n (i := 3) rfl hC (zdk dk_X12_leaves 37 rfl) (q := 64) rfl ?_
        refine x_iconst (i := 0) c_iconst_0 hC (zdk dk_X12_leaves 38 rfl) (q := 65) rfl ?_
        refine x_iast hq10 hC (zdk dk_X12_leaves 39 rfl) (q := 66) rfl (fun k11 _ => ?_)
        refine x_nmM (fun M12 => ?_)
        refine x_weak (L' := [.ref r0, .int x1, .int x2, .int x3, .int x4]) ⟨Or.inr rfl, Or.inr rfl, Or.inr rfl, Or.inr rfl, Or.inr rfl, trivial⟩ ?_
        exact x_X12_leaves_66 hC hE hk0 h_r0 k4 hk4 (f_X12_leaves_20 k4 r0 x1 f) ih _ _ _ _
set_option maxRecDepth 100000 in
def f_X12_leaves_4  (r0 : Nat) (x1 : Int32) : Nat → Int32 → Int32 → Mem → Option (Int32 × Mem)
  | 0, _, _, _ => none
  | f + 1, x2, x3, M => (if 19 ≤ x3 then some (x2, M) else Option.bind (zrf M r0 72) fun q13 => Option.bind (zld q13 x3) fun k14 => Option.bind (some (zsI M q13 k14 1)) fun M15 => f_X12_leaves_20 (f_X12_leaves_4 r0 x1 f) r0 x1 1000000 x2 x3 0 M15)
set_option maxRecDepth 100000 in
set_option maxHeartbeats 4000000 in
theorem x_X12_leaves_4 {κ : KX} {n : Nat} (hC : CX κ cX12_leaves RX12 5 (some .int) 2) (hE : zEnd κ n (0, 0)) (hk0 : zRk κ (0, 0)) {r0 : Nat} {x1 : Int32} (h_r0 : zO n r0 12) : ∀ (f : Nat) (x2 : Int32) (x3 : Int32) (M : Mem), X κ 5 emI n (0, 0) 4 [.ref r0, .int x1, .int x2, .int x3, .null] [] M (f_X12_leaves_4 r0 x1 f x2 x3 M) := by
  intro f
  induction f with
  | zero => intros; exact x_none
  | succ f ih =>
    intro x2 x3 M 
    rw [f_X12_leaves_4]
    refine x_iload_n (i := 3) rfl hC (zdk dk_X12_leaves 4 rfl) (q := 5) rfl ?_
    refine x_bipush (i := 19) c_bipush_19 hC (zdk dk_X12_leaves 5 rfl) (q := 7) rfl ?_
    refine x_icmp_ge (tgt := 87) hC (zdk dk_X12_leaves 6 rfl) (q := 10) rfl rfl (fun _ => ?_) (fun _ => ?_)
    · refine x_iload_n (i := 2) rfl hC (zdk dk_X12_leaves 51 rfl) (q := 88) rfl ?_
      exact x_iret (ty := .int) rfl hE hC (zdk dk_X12_leaves 52 rfl)
    · refine x_aload_n (i := 0) rfl hC (zdk dk_X12_leaves 7 rfl) (q := 11) rfl ?_
      refine x_getR (k := 20) fl_RX12_231 rfl h_r0 hC (zdk dk_X12_leaves 8 rfl) (q := 14) rfl (fun q13 hq13 => ?_)
      refine x_iload_n (i := 3) rfl hC (zdk dk_X12_leaves 9 rfl) (q := 15) rfl ?_
      refine x_iconst (i := 1) c_iconst_1 hC (zdk dk_X12_leaves 10 rfl) (q := 16) rfl ?_
      refine x_iast hq13 hC (zdk dk_X12_leaves 11 rfl) (q := 17) rfl (fun k14 _ => ?_)
      refine x_nmM (fun M15 => ?_)
      refine x_iconst (i := 0) c_iconst_0 hC (zdk dk_X12_leaves 12 rfl) (q := 18) rfl ?_
      refine x_istore (i := 4) (L' := [.ref r0, .int x1, .int x2, .int x3, .int 0]) (by decide) rfl hC (zdk dk_X12_leaves 13 rfl) (q := 20) rfl ?_
      refine x_weak (L' := [.ref r0, .int x1, .int x2, .int x3, .int 0]) ⟨Or.inr rfl, Or.inr rfl, Or.inr rfl, Or.inr rfl, Or.inr rfl, trivial⟩ ?_
      exact x_X12_leaves_20 hC hE hk0 h_r0 (f_X12_leaves_4 r0 x1 f) ih _ _ _ _ _
set_option maxRecDepth 100000 in
def f_X12_leaves (r0 : Nat) (x1 : Int32) (M : Mem) : Option (Int32 × Mem) := f_X12_leaves_4 r0 x1 1000000 0 0 M
set_option maxRecDepth 100000 in
set_option maxHeartbeats 4000000 in
theorem x_X12_leaves {κ : KX} {n : Nat} (hC : CX κ cX12_leaves RX12 5 (some .int) 2) (hE : zEnd κ n (0, 0)) (hk0 : zRk κ (0, 0)) (r0 : Nat) (x1 : Int32) (M : Mem) (h_r0 : zO n r0 12) : X κ 5 emI n (0, 0) 0 [.ref r0, .int x1, .null, .null, .null] [] M (f_X12_leaves r0 x1 M) := by
  unfold f_X12_leaves
  refine x_iconst (i := 0) c_iconst_0 hC (zdk dk_X12_leaves 0 rfl) (q := 1) rfl ?_
  refine x_istore_n (i := 2) (L' := [.ref r0, .int x1, .int 0, .null, .null]) (by decide) rfl hC (zdk dk_X12_leaves 1 rfl) (q := 2) rfl ?_
  refine x_iconst (i := 0) c_iconst_0 hC (zdk dk_X12_leaves 2 rfl) (q := 3) rfl ?_
  refine x_istore_n (i := 3) (L' := [.ref r0, .int x1, .int 0, .int 0, .null]) (by decide) rfl hC (zdk dk_X12_leaves 3 rfl) (q := 4) rfl ?_
  refine x_weak (L' := [.ref r0, .int x1, .int 0, .int 0, .null]) ⟨Or.inr rfl, Or.inr rfl, Or.inr rfl, Or.inr rfl, Or.inl rfl, trivial⟩ ?_
  exact x_X12_leaves_4 hC hE hk0 h_r0 _ _ _ _
set_option maxRecDepth 100000 in
set_option maxHeartbeats 4000000 in
theorem t_X12_leaves {n : Nat} {r0 : Nat} {x1 : Int32} {M : Mem} (h_r0 : zO n r0 12) (x : (Int32 × Mem)) (hx : f_X12_leaves r0 x1 M = some x) (l : Launch) (dC : Nat → ClassId) (dI : Nat → Nat → Nat) (b : zSg) : MT l dC dI b yX12_leaves cX12_leaves 5 (some .int) 2 0 0 n n [.ref r0, .int x1] M (emI x).1 (emI x).2 :=
  MT.ofX (by decide +kernel) rfl (Nat.le_of_ble_eq_true rfl) (fun κ hC hF _ => x_X12_leaves hC (zEnd_of hF (Nat.le_refl _) (Nat.le_refl _)) (zRk_of hF (Nat.le_refl _) (Nat.le_refl _)) _ _ _ h_r0) x hx
set_option maxRecDepth 100000 in
def dt_X12_shifts : List (Nat × Instr × Nat) := [(0, .aload_n 0, 1), (1, .iload_n 1, 1), (2, .invokevirtual 536, 3), (5, .ifCond .eq 8, 3), (8, .iload_n 2, 1), (9, .iconst (-1), 1), (10, .if_icmp .ge 7, 3), (13, .sipush (-1000), 3), (16, .ireturn, 1), (17, .aload_n 0, 1), (18, .iload_n 1, 1), (19, .invokevirtual 550, 3), (22, .istore_n 3, 1), (23, .iload_n 2, 1), (24, .iconst (-1), 1), (25, .if_icmp .ne 5, 3), (28, .iload_n 3, 1), (29, .ireturn, 1), (30, .iconst 0, 1), (31, .istore 4, 2), (33, .iconst 0, 1), (34, .istore 5, 2), (36, .iload 5, 2), (38, .bipush 19, 2), (40, .if_icmp .ge 44, 3), (43, .aload_n 0, 1), (44, .getfield 231, 3), (47, .iload 5, 2), (49, .iaload, 1), (50, .iconst 1, 1), (51, .if_icmp .ne 15, 3), (54, .iload 4, 2), (56, .iload_n 2, 1), (57, .if_icmp .ne 9, 3), (60, .iload 5, 2), (62, .bipush 9, 2), (64, .isub, 1), (65, .ireturn, 1), (66, .iload 4, 2), (68, .aload_n 0, 1), (69, .getfield 231, 3), (72, .iload 5, 2), (74, .iaload, 1), (75, .iadd, 1), (76, .istore 4, 2), (78, .iinc 5 1, 3), (81, .goto (-45), 3), (84, .sipush (-1000), 3), (87, .ireturn, 1)]
set_option maxRecDepth 100000 in
theorem dk_X12_shifts : dt_X12_shifts.all (fun q => decide (decode cX12_shifts q.1 = .ok q.2)) = true := by decide +kernel
set_option maxRecDepth 100000 in
def f_X12_shifts_13  (r0 : Nat) (x1 : Int32) (x2 : Int32)  (M : Mem) : Option (Int32 × Mem) := some ((-1000), M)
set_option maxRecDepth 100000 in
set_option maxHeartbeats 4000000 in
theorem x_X12_shifts_13 {κ : KX} {n : Nat} (hC : CX κ cX12_shifts RX12 6 (some .int) 3) (hE : zEnd κ n (0, 0)) (hk0 : zRk κ (0, 0)) {r0 : Nat} {x1 : Int32} {x2 : Int32} (h_r0 : zO n r0 12) (M : Mem) : X κ 6 emI n (0, 0) 13 [.null, .null, .null, .null, .null, .null] [] M (f_X12_shifts_13 r0 x1 x2 M) := by
  unfold f_X12_shifts_13
  refine x_sipush (i := (-1000)) c_sipush_m1000 hC (zdk dk_X12_shifts 7 rfl) (q := 16) rfl ?_
  exact x_iret (ty := .int) rfl hE hC (zdk dk_X12_shifts 8 rfl)
set_option maxRecDepth 100000 in
def f_X12_shifts_66 (k36 : Int32 → Int32 → Mem → Option (Int32 × Mem)) (r0 : Nat) (x1 : Int32) (x2 : Int32) (x4 : Int32) (x5 : Int32) (M : Mem) : Option (Int32 × Mem) := Option.bind (zrf M r0 72) fun q1 => Option.bind (zld q1 x5) fun k2 => k36 (x4 + (zI M q1 k2)) (x5 + 1) M
set_option maxRecDepth 100000 in
set_option maxHeartbeats 4000000 in
theorem x_X12_shifts_66 {κ : KX} {n : Nat} (hC : CX κ cX12_shifts RX12 6 (some .int) 3) (hE : zEnd κ n (0, 0)) (hk0 : zRk κ (0, 0)) {r0 : Nat} {x1 : Int32} {x2 : Int32} (h_r0 : zO n r0 12) (k36 : Int32 → Int32 → Mem → Option (Int32 × Mem)) (hk36 : ∀ (x4 : Int32) (x5 : Int32) (M : Mem), X κ 6 emI n (0, 0) 36 [.ref r0, .null, .int x2, .null, .int x4, .int x5] [] M (k36 x4 x5 M)) (x4 : Int32) (x5 : Int32) (M : Mem) : X κ 6 emI n (0, 0) 66 [.ref r0, .null, .int x2, .null, .int x4, .int x5] [] M (f_X12_shifts_66 k36 r0 x1 x2 x4 x5 M) := by
  unfold f_X12_shifts_66
  refine x_iload (i := 4) rfl hC (zdk dk_X12_shifts 38 rfl) (q := 68) rfl ?_
  refine x_aload_n (i := 0) rfl hC (zdk dk_X12_shifts 39 rfl) (q := 69) rfl ?_
  refine x_getR (k := 20) fl_RX12_231 rfl h_r0 hC (zdk dk_X12_shifts 40 rfl) (q := 72) rfl (fun q1 hq1 => ?_)
  refine x_iload (i := 5) rfl hC (zdk dk_X12_shifts 41 rfl) (q := 74) rfl ?_
  refine x_iald hq1 hC (zdk dk_X12_shifts 42 rfl) (q := 75) rfl (fun k2 _ => ?_)
  refine x_iadd hC (zdk dk_X12_shifts 43 rfl) (q := 76) rfl ?_
  refine x_istore (i := 4) (L' := [.ref r0, .null, .int x2, .null, .int (x4 + (zI M q1 k2)), .int x5]) (by decide) rfl hC (zdk dk_X12_shifts 44 rfl) (q := 78) rfl ?_
  refine x_iinc (i := 5) c_iconst_1 rfl (by decide) (L' := [.ref r0, .null, .int x2, .null, .int (x4 + (zI M q1 k2)), .int (x5 + 1)]) rfl hC (zdk dk_X12_shifts 45 rfl) (q := 81) rfl ?_
  refine x_goto (tgt := 36) hC (zdk dk_X12_shifts 46 rfl) rfl ?_
  refine x_weak (L' := [.ref r0, .null, .int x2, .null, .int (x4 + (zI M q1 k2)), .int (x5 + 1)]) ⟨Or.inr rfl, Or.inl rfl, Or.inr rfl, Or.inl rfl, Or.inr rfl, Or.inr rfl, trivial⟩ ?_
  exact hk36 _ _ _
set_option maxRecDepth 100000 in
def f_X12_shifts_36  (r0 : Nat) (x1 : Int32) (x2 : Int32) : Nat → Int32 → Int32 → Mem → Option (Int32 × Mem)
  | 0, _, _, _ => none
  | f + 1, x4, x5, M => (if 19 ≤ x5 then some ((-1000), M) else Option.bind (zrf M r0 72) fun q3 => Option.bind (zld q3 x5) fun k4 => (if zI M q3 k4 = 1 then (if x4 = x2 then some (x5 - 9, M) else f_X12_shifts_66 (f_X12_shifts_36 r0 x1 x2 f) r0 x1 x2 x4 x5 M) else f_X12_shifts_66 (f_X12_shifts_36 r0 x1 x2 f) r0 x1 x2 x4 x5 M))
set_option maxRecDepth 100000 in
set_option maxHeartbeats 4000000 in
theorem x_X12_shifts_36 {κ : KX} {n : Nat} (hC : CX κ cX12_shifts RX12 6 (some .int) 3) (hE : zEnd κ n (0, 0)) (hk0 : zRk κ (0, 0)) {r0 : Nat} {x1 : Int32} {x2 : Int32} (h_r0 : zO n r0 12) : ∀ (f : Nat) (x4 : Int32) (x5 : Int32) (M : Mem), X κ 6 emI n (0, 0) 36 [.ref r0, .null, .int x2, .null, .int x4, .int x5] [] M (f_X12_shifts_36 r0 x1 x2 f x4 x5 M) := by
  intro f
  induction f with
  | zero => intros; exact x_none
  | succ f ih =>
    intro x4 x5 M 
    rw [f_X12_shifts_36]
    refine x_iload (i := 5) rfl hC (zdk dk_X12_shifts 22 rfl) (q := 38) rfl ?_
    refine x_bipush (i := 19) c_bipush_19 hC (zdk dk_X12_shifts 23 rfl) (q := 40) rfl ?_
    refine x_icmp_ge (tgt := 84) hC (zdk dk_X12_shifts 24 rfl) (q := 43) rfl rfl (fun _ => ?_) (fun _ => ?_)
    · refine x_sipush (i := (-1000)) c_sipush_m1000 hC (zdk dk_X12_shifts 47 rfl) (q := 87) rfl ?_
      exact x_iret (ty := .int) rfl hE hC (zdk dk_X12_shifts 48 rfl)
    · refine x_aload_n (i := 0) rfl hC (zdk dk_X12_shifts 25 rfl) (q := 44) rfl ?_
      refine x_getR (k := 20) fl_RX12_231 rfl h_r0 hC (zdk dk_X12_shifts 26 rfl) (q := 47) rfl (fun q3 hq3 => ?_)
      refine x_iload (i := 5) rfl hC (zdk dk_X12_shifts 27 rfl) (q := 49) rfl ?_
      refine x_iald hq3 hC (zdk dk_X12_shifts 28 rfl) (q := 50) rfl (fun k4 _ => ?_)
      refine x_iconst (i := 1) c_iconst_1 hC (zdk dk_X12_shifts 29 rfl) (q := 51) rfl ?_
      refine x_icmp_ne (tgt := 66) hC (zdk dk_X12_shifts 30 rfl) (q := 54) rfl rfl (fun _ => ?_) (fun _ => ?_)
      · refine x_weak (L' := [.ref r0, .null, .int x2, .null, .int x4, .int x5]) ⟨Or.inr rfl, Or.inl rfl, Or.inr rfl, Or.inl rfl, Or.inr rfl, Or.inr rfl, trivial⟩ ?_
        exact x_X12_shifts_66 hC hE hk0 h_r0 (f_X12_shifts_36 r0 x1 x2 f) ih _ _ _
      · refine x_iload (i := 4) rfl hC (zdk dk_X12_shifts 31 rfl) (q := 56) rfl ?_
        refine x_iload_n (i := 2) rfl hC (zdk dk_X12_shifts 32 rfl) (q := 57) rfl ?_
        refine x_icmp_ne (tgt := 66) hC (zdk dk_X12_shifts 33 rfl) (q := 60) rfl rfl (fun _ => ?_) (fun _ => ?_)
        · refine x_weak (L' := [.ref r0, .null, .int x2, .null, .int x4, .int x5]) ⟨Or.inr rfl, Or.inl rfl, Or.inr rfl, Or.inl rfl, Or.inr rfl, Or.inr rfl, trivial⟩ ?_
          exact x_X12_shifts_66 hC hE hk0 h_r0 (f_X12_shifts_36 r0 x1 x2 f) ih _ _ _
        · refine x_iload (i := 5) rfl hC (zdk dk_X12_shifts 34 rfl) (q := 62) rfl ?_
          refine x_bipush (i := 9) c_bipush_9 hC (zdk dk_X12_shifts 35 rfl) (q := 64) rfl ?_
          refine x_isub hC (zdk dk_X12_shifts 36 rfl) (q := 65) rfl ?_
          exact x_iret (ty := .int) rfl hE hC (zdk dk_X12_shifts 37 rfl)
set_option maxRecDepth 100000 in
def f_X12_shifts (r0 : Nat) (x1 : Int32) (x2 : Int32) (M : Mem) : Option (Int32 × Mem) := Option.bind (f_X12_isThere r0 x1 M) fun z5 => (if z5.1 = 0 then f_X12_shifts_13 r0 x1 x2 z5.2 else (if (-1) ≤ x2 then Option.bind (f_X12_leaves r0 x1 z5.2) fun z6 => (if x2 = (-1) then some (z6.1, z6.2) else f_X12_shifts_36 r0 x1 x2 1000000 0 0 z6.2) else f_X12_shifts_13 r0 x1 x2 z5.2))
set_option maxRecDepth 100000 in
set_option maxHeartbeats 4000000 in
theorem x_X12_shifts {κ : KX} {n : Nat} (hC : CX κ cX12_shifts RX12 6 (some .int) 3) (hE : zEnd κ n (0, 0)) (hk0 : zRk κ (0, 0)) (r0 : Nat) (x1 : Int32) (x2 : Int32) (M : Mem) (h_r0 : zO n r0 12) : X κ 6 emI n (0, 0) 0 [.ref r0, .int x1, .int x2, .null, .null, .null] [] M (f_X12_shifts r0 x1 x2 M) := by
  unfold f_X12_shifts
  refine x_aload_n (i := 0) rfl hC (zdk dk_X12_shifts 0 rfl) (q := 1) rfl ?_
  refine x_iload_n (i := 1) rfl hC (zdk dk_X12_shifts 1 rfl) (q := 2) rfl ?_
  refine x_callVi (as := [.int x1]) cb_RX12_536 rfl (by decide) hk0 h_r0 (fun x hx => t_X12_isThere h_r0 x hx) hC (zdk dk_X12_shifts 2 rfl) (q := 5) rfl rfl (Nat.le_of_ble_eq_true rfl) (fun z5 => ?_)
  refine x_if_eq (tgt := 13) hC (zdk dk_X12_shifts 3 rfl) (q := 8) rfl rfl (fun _ => ?_) (fun _ => ?_)
  · refine x_weak (L' := [.null, .null, .null, .null, .null, .null]) ⟨Or.inl rfl, Or.inl rfl, Or.inl rfl, Or.inl rfl, Or.inl rfl, Or.inl rfl, trivial⟩ ?_
    exact x_X12_shifts_13 hC hE hk0 h_r0 _
  · refine x_iload_n (i := 2) rfl hC (zdk dk_X12_shifts 4 rfl) (q := 9) rfl ?_
    refine x_iconst (i := (-1)) c_iconst_m1 hC (zdk dk_X12_shifts 5 rfl) (q := 10) rfl ?_
    refine x_icmp_ge (tgt := 17) hC (zdk dk_X12_shifts 6 rfl) (q := 13) rfl rfl (fun _ => ?_) (fun _ => ?_)
    · refine x_aload_n (i := 0) rfl hC (zdk dk_X12_shifts 9 rfl) (q := 18) rfl ?_
      refine x_iload_n (i := 1) rfl hC (zdk dk_X12_shifts 10 rfl) (q := 19) rfl ?_
      refine x_callVi (as := [.int x1]) cb_RX12_550 rfl (by decide) hk0 h_r0 (fun x hx => t_X12_leaves h_r0 x hx) hC (zdk dk_X12_shifts 11 rfl) (q := 22) rfl rfl (Nat.le_of_ble_eq_true rfl) (fun z6 => ?_)
      refine x_istore_n (i := 3) (L' := [.ref r0, .int x1, .int x2, .int z6.1, .null, .null]) (by decide) rfl hC (zdk dk_X12_shifts 12 rfl) (q := 23) rfl ?_
      refine x_iload_n (i := 2) rfl hC (zdk dk_X12_shifts 13 rfl) (q := 24) rfl ?_
      refine x_iconst (i := (-1)) c_iconst_m1 hC (zdk dk_X12_shifts 14 rfl) (q := 25) rfl ?_
      refine x_icmp_ne (tgt := 30) hC (zdk dk_X12_shifts 15 rfl) (q := 28) rfl rfl (fun _ => ?_) (fun _ => ?_)
      · refine x_iconst (i := 0) c_iconst_0 hC (zdk dk_X12_shifts 18 rfl) (q := 31) rfl ?_
        refine x_istore (i := 4) (L' := [.ref r0, .int x1, .int x2, .int z6.1, .int 0, .null]) (by decide) rfl hC (zdk dk_X12_shifts 19 rfl) (q := 33) rfl ?_
        refine x_iconst (i := 0) c_iconst_0 hC (zdk dk_X12_shifts 20 rfl) (q := 34) rfl ?_
        refine x_istore (i := 5) (L' := [.ref r0, .int x1, .int x2, .int z6.1, .int 0, .int 0]) (by decide) rfl hC (zdk dk_X12_shifts 21 rfl) (q := 36) rfl ?_
        refine x_weak (L' := [.ref r0, .null, .int x2, .null, .int 0, .int 0]) ⟨Or.inr rfl, Or.inl rfl, Or.inr rfl, Or.inl rfl, Or.inr rfl, Or.inr rfl, trivial⟩ ?_
        exact x_X12_shifts_36 hC hE hk0 h_r0 _ _ _ _
      · refine x_iload_n (i := 3) rfl hC (zdk dk_X12_shifts 16 rfl) (q := 29) rfl ?_
        exact x_iret (ty := .int) rfl hE hC (zdk dk_X12_shifts 17 rfl)
    · refine x_weak (L' := [.null, .null, .null, .null, .null, .null]) ⟨Or.inl rfl, Or.inl rfl, Or.inl rfl, Or.inl rfl, Or.inl rfl, Or.inl rfl, trivial⟩ ?_
      exact x_X12_shifts_13 hC hE hk0 h_r0 _
set_option maxRecDepth 100000 in
set_option maxHeartbeats 4000000 in
theorem t_X12_shifts {n : Nat} {r0 : Nat} {x1 : Int32} {x2 : Int32} {M : Mem} (h_r0 : zO n r0 12) (x : (Int32 × Mem)) (hx : f_X12_shifts r0 x1 x2 M = some x) (l : Launch) (dC : Nat → ClassId) (dI : Nat → Nat → Nat) (b : zSg) : MT l dC dI b yX12_shifts cX12_shifts 6 (some .int) 3 0 0 n n [.ref r0, .int x1, .int x2] M (emI x).1 (emI x).2 :=
  MT.ofX (by decide +kernel) rfl (Nat.le_of_ble_eq_true rfl) (fun κ hC hF _ => x_X12_shifts hC (zEnd_of hF (Nat.le_refl _) (Nat.le_refl _)) (zRk_of hF (Nat.le_refl _) (Nat.le_refl _)) _ _ _ _ h_r0) x hx
set_option maxRecDepth 100000 in
def dt_X12_mostBy : List (Nat × Instr × Nat) := [(0, .iconst 0, 1), (1, .istore_n 3, 1), (2, .iload_n 3, 1), (3, .bipush 64, 2), (5, .if_icmp .ge 16, 3), (8, .aload_n 0, 1), (9, .getfield 234, 3), (12, .iload_n 3, 1), (13, .iconst 0, 1), (14, .iastore, 1), (15, .iinc 3 1, 3), (18, .goto (-16), 3), (21, .iconst 0, 1), (22, .istore_n 3, 1), (23, .iconst 0, 1), (24, .istore 4, 2), (26, .iload 4, 2), (28, .bipush 19, 2), (30, .if_icmp .ge 73, 3), (33, .aload_n 0, 1), (34, .getfield 231, 3), (37, .iload 4, 2), (39, .iaload, 1), (40, .ifCond .ne 6, 3), (43, .goto 54, 3), (46, .aload_n 0, 1), (47, .iconst 0, 1), (48, .iload_n 1, 1), (49, .iload_n 2, 1), (50, .iload 4, 2), (52, .bipush 9, 2), (54, .isub, 1), (55, .invokevirtual 512, 3), (58, .invokestatic 452, 3), (61, .istore 5, 2), (63, .aload_n 0, 1), (64, .getfield 234, 3), (67, .iload 5, 2), (69, .dup2, 1), (70, .iaload, 1), (71, .iconst 1, 1), (72, .iadd, 1), (73, .iastore, 1), (74, .aload_n 0, 1), (75, .getfield 234, 3), (78, .iload 5, 2), (80, .iaload, 1), (81, .iload_n 3, 1), (82, .if_icmp .le 13, 3), (85, .aload_n 0, 1), (86, .getfield 234, 3), (89, .iload 5, 2), (91, .iaload, 1), (92, .goto 4, 3), (95, .iload_n 3, 1), (96, .istore_n 3, 1), (97, .iinc 4 1, 3), (100, .goto (-74), 3), (103, .iload_n 3, 1), (104, .ireturn, 1)]
set_option maxRecDepth 100000 in
theorem dk_X12_mostBy : dt_X12_mostBy.all (fun q => decide (decode cX12_mostBy q.1 = .ok q.2)) = true := by decide +kernel
set_option maxRecDepth 100000 in
def f_X12_mostBy_97 (k26 : Int32 → Int32 → Mem → Option (Int32 × Mem)) (r0 : Nat) (x1 : Int32) (x2 : Int32) (x3 : Int32) (x4 : Int32) (M : Mem) : Option (Int32 × Mem) := k26 x3 (x4 + 1) M
set_option maxRecDepth 100000 in
set_option maxHeartbeats 4000000 in
theorem x_X12_mostBy_97 {κ : KX} {n : Nat} (hC : CX κ cX12_mostBy RX12 6 (some .int) 2) (hE : zEnd κ n (0, 0)) (hk0 : zRk κ (0, 0)) {r0 : Nat} {x1 : Int32} {x2 : Int32} (h_r0 : zO n r0 12) (k26 : Int32 → Int32 → Mem → Option (Int32 × Mem)) (hk26 : ∀ (x3 : Int32) (x4 : Int32) (M : Mem), X κ 6 emI n (0, 0) 26 [.ref r0, .int x1, .int x2, .int x3, .int x4, .null] [] M (k26 x3 x4 M)) (x3 : Int32) (x4 : Int32) (M : Mem) : X κ 6 emI n (0, 0) 97 [.ref r0, .int x1, .int x2, .int x3, .int x4, .null] [] M (f_X12_mostBy_97 k26 r0 x1 x2 x3 x4 M) := by
  unfold f_X12_mostBy_97
  refine x_iinc (i := 4) c_iconst_1 rfl (by decide) (L' := [.ref r0, .int x1, .int x2, .int x3, .int (x4 + 1), .null]) rfl hC (zdk dk_X12_mostBy 56 rfl) (q := 100) rfl ?_
  refine x_goto (tgt := 26) hC (zdk dk_X12_mostBy 57 rfl) rfl ?_
  refine x_weak (L' := [.ref r0, .int x1, .int x2, .int x3, .int (x4 + 1), .null]) ⟨Or.inr rfl, Or.inr rfl, Or.inr rfl, Or.inr rfl, Or.inr rfl, Or.inl rfl, trivial⟩ ?_
  exact hk26 _ _ _
set_option maxRecDepth 100000 in
def f_X12_mostBy_96 (k26 : Int32 → Int32 → Mem → Option (Int32 × Mem)) (r0 : Nat) (x1 : Int32) (x2 : Int32) (x4 : Int32) (s0 : Int32) (M : Mem) : Option (Int32 × Mem) := f_X12_mostBy_97 k26 r0 x1 x2 s0 x4 M
set_option maxRecDepth 100000 in
set_option maxHeartbeats 4000000 in
theorem x_X12_mostBy_96 {κ : KX} {n : Nat} (hC : CX κ cX12_mostBy RX12 6 (some .int) 2) (hE : zEnd κ n (0, 0)) (hk0 : zRk κ (0, 0)) {r0 : Nat} {x1 : Int32} {x2 : Int32} (h_r0 : zO n r0 12) (k26 : Int32 → Int32 → Mem → Option (Int32 × Mem)) (hk26 : ∀ (x3 : Int32) (x4 : Int32) (M : Mem), X κ 6 emI n (0, 0) 26 [.ref r0, .int x1, .int x2, .int x3, .int x4, .null] [] M (k26 x3 x4 M)) (x4 : Int32) (s0 : Int32) (M : Mem) : X κ 6 emI n (0, 0) 96 [.ref r0, .int x1, .int x2, .null, .int x4, .null] [.int s0] M (f_X12_mostBy_96 k26 r0 x1 x2 x4 s0 M) := by
  unfold f_X12_mostBy_96
  refine x_istore_n (i := 3) (L' := [.ref r0, .int x1, .int x2, .int s0, .int x4, .null]) (by decide) rfl hC (zdk dk_X12_mostBy 55 rfl) (q := 97) rfl ?_
  refine x_weak (L' := [.ref r0, .int x1, .int x2, .int s0, .int x4, .null]) ⟨Or.inr rfl, Or.inr rfl, Or.inr rfl, Or.inr rfl, Or.inr rfl, Or.inl rfl, trivial⟩ ?_
  exact x_X12_mostBy_97 hC hE hk0 h_r0 k26 hk26 _ _ _
set_option maxRecDepth 100000 in
def f_X12_mostBy_26  (r0 : Nat) (x1 : Int32) (x2 : Int32) : Nat → Int32 → Int32 → Mem → Option (Int32 × Mem)
  | 0, _, _, _ => none
  | f + 1, x3, x4, M => (if 19 ≤ x4 then some (x3, M) else Option.bind (zrf M r0 72) fun q1 => Option.bind (zld q1 x4) fun k2 => (if zI M q1 k2 = 0 then f_X12_mostBy_97 (f_X12_mostBy_26 r0 x1 x2 f) r0 x1 x2 x3 x4 M else Option.bind (f_X12_bitsBy r0 0 x1 x2 (x4 - 9) M) fun z3 => Option.bind (f_X12_onesOf z3.1 z3.2) fun z4 => Option.bind (zrf z4.2 r0 73) fun q5 => Option.bind (zld q5 z4.1) fun k6 => Option.bind (zld q5 z4.1) fun k7 => Option.bind (some (zsI z4.2 q5 k7 ((zI z4.2 q5 k6) + 1))) fun M8 => Option.bind (zrf M8 r0 73) fun q9 => Option.bind (zld q9 z4.1) fun k10 => (if zI M8 q9 k10 ≤ x3 then f_X12_mostBy_96 (f_X12_mostBy_26 r0 x1 x2 f) r0 x1 x2 x4 x3 M8 else Option.bind (zrf M8 r0 73) fun q11 => Option.bind (zld q11 z4.1) fun k12 => f_X12_mostBy_96 (f_X12_mostBy_26 r0 x1 x2 f) r0 x1 x2 x4 (zI M8 q11 k12) M8)))
set_option maxRecDepth 100000 in
set_option maxHeartbeats 4000000 in
theorem x_X12_mostBy_26 {κ : KX} {n : Nat} (hC : CX κ cX12_mostBy RX12 6 (some .int) 2) (hE : zEnd κ n (0, 0)) (hk0 : zRk κ (0, 0)) {r0 : Nat} {x1 : Int32} {x2 : Int32} (h_r0 : zO n r0 12) : ∀ (f : Nat) (x3 : Int32) (x4 : Int32) (M : Mem), X κ 6 emI n (0, 0) 26 [.ref r0, .int x1, .int x2, .int x3, .int x4, .null] [] M (f_X12_mostBy_26 r0 x1 x2 f x3 x4 M) := by
  intro f
  induction f with
  | zero => intros; exact x_none
  | succ f ih =>
    intro x3 x4 M 
    rw [f_X12_mostBy_26]
    refine x_iload (i := 4) rfl hC (zdk dk_X12_mostBy 16 rfl) (q := 28) rfl ?_
    refine x_bipush (i := 19) c_bipush_19 hC (zdk dk_X12_mostBy 17 rfl) (q := 30) rfl ?_
    refine x_icmp_ge (tgt := 103) hC (zdk dk_X12_mostBy 18 rfl) (q := 33) rfl rfl (fun _ => ?_) (fun _ => ?_)
    · refine x_iload_n (i := 3) rfl hC (zdk dk_X12_mostBy 58 rfl) (q := 104) rfl ?_
      exact x_iret (ty := .int) rfl hE hC (zdk dk_X12_mostBy 59 rfl)
    · refine x_aload_n (i := 0) rfl hC (zdk dk_X12_mostBy 19 rfl) (q := 34) rfl ?_
      refine x_getR (k := 20) fl_RX12_231 rfl h_r0 hC (zdk dk_X12_mostBy 20 rfl) (q := 37) rfl (fun q1 hq1 => ?_)
      refine x_iload (i := 4) rfl hC (zdk dk_X12_mostBy 21 rfl) (q := 39) rfl ?_
      refine x_iald hq1 hC (zdk dk_X12_mostBy 22 rfl) (q := 40) rfl (fun k2 _ => ?_)
      refine x_if_ne (tgt := 46) hC (zdk dk_X12_mostBy 23 rfl) (q := 43) rfl rfl (fun _ => ?_) (fun _ => ?_)
      · refine x_aload_n (i := 0) rfl hC (zdk dk_X12_mostBy 25 rfl) (q := 47) rfl ?_
        refine x_iconst (i := 0) c_iconst_0 hC (zdk dk_X12_mostBy 26 rfl) (q := 48) rfl ?_
        refine x_iload_n (i := 1) rfl hC (zdk dk_X12_mostBy 27 rfl) (q := 49) rfl ?_
        refine x_iload_n (i := 2) rfl hC (zdk dk_X12_mostBy 28 rfl) (q := 50) rfl ?_
        refine x_iload (i := 4) rfl hC (zdk dk_X12_mostBy 29 rfl) (q := 52) rfl ?_
        refine x_bipush (i := 9) c_bipush_9 hC (zdk dk_X12_mostBy 30 rfl) (q := 54) rfl ?_
        refine x_isub hC (zdk dk_X12_mostBy 31 rfl) (q := 55) rfl ?_
        refine x_callVl (as := [.int 0, .int x1, .int x2, .int (x4 - 9)]) cb_RX12_512 rfl (by decide) hk0 h_r0 (fun x hx => t_X12_bitsBy h_r0 x hx) hC (zdk dk_X12_mostBy 32 rfl) (q := 58) rfl rfl (Nat.le_of_ble_eq_true rfl) (fun z3 => ?_)
        refine x_callSi (as := [.long z3.1]) cb_RX12_452 rfl (by decide) hk0 (fun x hx => t_X12_onesOf  x hx) hC (zdk dk_X12_mostBy 33 rfl) (q := 61) rfl rfl (Nat.le_of_ble_eq_true rfl) (fun z4 => ?_)
        refine x_istore (i := 5) (L' := [.ref r0, .int x1, .int x2, .int x3, .int x4, .int z4.1]) (by decide) rfl hC (zdk dk_X12_mostBy 34 rfl) (q := 63) rfl ?_
        refine x_aload_n (i := 0) rfl hC (zdk dk_X12_mostBy 35 rfl) (q := 64) rfl ?_
        refine x_getR (k := 20) fl_RX12_234 rfl h_r0 hC (zdk dk_X12_mostBy 36 rfl) (q := 67) rfl (fun q5 hq5 => ?_)
        refine x_iload (i := 5) rfl hC (zdk dk_X12_mostBy 37 rfl) (q := 69) rfl ?_
        refine x_dup2 rfl rfl hC (zdk dk_X12_mostBy 38 rfl) (q := 70) rfl ?_
        refine x_iald hq5 hC (zdk dk_X12_mostBy 39 rfl) (q := 71) rfl (fun k6 _ => ?_)
        refine x_iconst (i := 1) c_iconst_1 hC (zdk dk_X12_mostBy 40 rfl) (q := 72) rfl ?_
        refine x_iadd hC (zdk dk_X12_mostBy 41 rfl) (q := 73) rfl ?_
        refine x_iast hq5 hC (zdk dk_X12_mostBy 42 rfl) (q := 74) rfl (fun k7 _ => ?_)
        refine x_nmM (fun M8 => ?_)
        refine x_aload_n (i := 0) rfl hC (zdk dk_X12_mostBy 43 rfl) (q := 75) rfl ?_
        refine x_getR (k := 20) fl_RX12_234 rfl h_r0 hC (zdk dk_X12_mostBy 44 rfl) (q := 78) rfl (fun q9 hq9 => ?_)
        refine x_iload (i := 5) rfl hC (zdk dk_X12_mostBy 45 rfl) (q := 80) rfl ?_
        refine x_iald hq9 hC (zdk dk_X12_mostBy 46 rfl) (q := 81) rfl (fun k10 _ => ?_)
        refine x_iload_n (i := 3) rfl hC (zdk dk_X12_mostBy 47 rfl) (q := 82) rfl ?_
        refine x_icmp_le (tgt := 95) hC (zdk dk_X12_mostBy 48 rfl) (q := 85) rfl rfl (fun _ => ?_) (fun _ => ?_)
        · refine x_iload_n (i := 3) rfl hC (zdk dk_X12_mostBy 54 rfl) (q := 96) rfl ?_
          refine x_weak (L' := [.ref r0, .int x1, .int x2, .null, .int x4, .null]) ⟨Or.inr rfl, Or.inr rfl, Or.inr rfl, Or.inl rfl, Or.inr rfl, Or.inl rfl, trivial⟩ ?_
          exact x_X12_mostBy_96 hC hE hk0 h_r0 (f_X12_mostBy_26 r0 x1 x2 f) ih _ _ _
        · refine x_aload_n (i := 0) rfl hC (zdk dk_X12_mostBy 49 rfl) (q := 86) rfl ?_
          refine x_getR (k := 20) fl_RX12_234 rfl h_r0 hC (zdk dk_X12_mostBy 50 rfl) (q := 89) rfl (fun q11 hq11 => ?_)
          refine x_iload (i := 5) rfl hC (zdk dk_X12_mostBy 51 rfl) (q := 91) rfl ?_
          refine x_iald hq11 hC (zdk dk_X12_mostBy 52 rfl) (q := 92) rfl (fun k12 _ => ?_)
          refine x_goto (tgt := 96) hC (zdk dk_X12_mostBy 53 rfl) rfl ?_
          refine x_weak (L' := [.ref r0, .int x1, .int x2, .null, .int x4, .null]) ⟨Or.inr rfl, Or.inr rfl, Or.inr rfl, Or.inl rfl, Or.inr rfl, Or.inl rfl, trivial⟩ ?_
          exact x_X12_mostBy_96 hC hE hk0 h_r0 (f_X12_mostBy_26 r0 x1 x2 f) ih _ _ _
      · refine x_goto (tgt := 97) hC (zdk dk_X12_mostBy 24 rfl) rfl ?_
        refine x_weak (L' := [.ref r0, .int x1, .int x2, .int x3, .int x4, .null]) ⟨Or.inr rfl, Or.inr rfl, Or.inr rfl, Or.inr rfl, Or.inr rfl, Or.inl rfl, trivial⟩ ?_
        exact x_X12_mostBy_97 hC hE hk0 h_r0 (f_X12_mostBy_26 r0 x1 x2 f) ih _ _ _
set_option maxRecDepth 100000 in
def f_X12_mostBy_2  (r0 : Nat) (x1 : Int32) (x2 : Int32) : Nat → Int32 → Mem → Option (Int32 × Mem)
  | 0, _, _ => none
  | f + 1, x3, M => (if 64 ≤ x3 then f_X12_mostBy_26 r0 x1 x2 1000000 0 0 M else Option.bind (zrf M r0 73) fun q13 => Option.bind (zld q13 x3) fun k14 => Option.bind (some (zsI M q13 k14 0)) fun M15 => (f_X12_mostBy_2 r0 x1 x2 f) (x3 + 1) M15)
set_option maxRecDepth 100000 in
set_option maxHeartbeats 4000000 in
theorem x_X12_mostBy_2 {κ : KX} {n : Nat} (hC : CX κ cX12_mostBy RX12 6 (some .int) 2) (hE : zEnd κ n (0, 0)) (hk0 : zRk κ (0, 0)) {r0 : Nat} {x1 : Int32} {x2 : Int32} (h_r0 : zO n r0 12) : ∀ (f : Nat) (x3 : Int32) (M : Mem), X κ 6 emI n (0, 0) 2 [.ref r0, .int x1, .int x2, .int x3, .null, .null] [] M (f_X12_mostBy_2 r0 x1 x2 f x3 M) := by
  intro f
  induction f with
  | zero => intros; exact x_none
  | succ f ih =>
    intro x3 M 
    rw [f_X12_mostBy_2]
    refine x_iload_n (i := 3) rfl hC (zdk dk_X12_mostBy 2 rfl) (q := 3) rfl ?_
    refine x_bipush (i := 64) c_bipush_64 hC (zdk dk_X12_mostBy 3 rfl) (q := 5) rfl ?_
    refine x_icmp_ge (tgt := 21) hC (zdk dk_X12_mostBy 4 rfl) (q := 8) rfl rfl (fun _ => ?_) (fun _ => ?_)
    · refine x_iconst (i := 0) c_iconst_0 hC (zdk dk_X12_mostBy 12 rfl) (q := 22) rfl ?_
      refine x_istore_n (i := 3) (L' := [.ref r0, .int x1, .int x2, .int 0, .null, .null]) (by decide) rfl hC (zdk dk_X12_mostBy 13 rfl) (q := 23) rfl ?_
      refine x_iconst (i := 0) c_iconst_0 hC (zdk dk_X12_mostBy 14 rfl) (q := 24) rfl ?_
      refine x_istore (i := 4) (L' := [.ref r0, .int x1, .int x2, .int 0, .int 0, .null]) (by decide) rfl hC (zdk dk_X12_mostBy 15 rfl) (q := 26) rfl ?_
      refine x_weak (L' := [.ref r0, .int x1, .int x2, .int 0, .int 0, .null]) ⟨Or.inr rfl, Or.inr rfl, Or.inr rfl, Or.inr rfl, Or.inr rfl, Or.inl rfl, trivial⟩ ?_
      exact x_X12_mostBy_26 hC hE hk0 h_r0 _ _ _ _
    · refine x_aload_n (i := 0) rfl hC (zdk dk_X12_mostBy 5 rfl) (q := 9) rfl ?_
      refine x_getR (k := 20) fl_RX12_234 rfl h_r0 hC (zdk dk_X12_mostBy 6 rfl) (q := 12) rfl (fun q13 hq13 => ?_)
      refine x_iload_n (i := 3) rfl hC (zdk dk_X12_mostBy 7 rfl) (q := 13) rfl ?_
      refine x_iconst (i := 0) c_iconst_0 hC (zdk dk_X12_mostBy 8 rfl) (q := 14) rfl ?_
      refine x_iast hq13 hC (zdk dk_X12_mostBy 9 rfl) (q := 15) rfl (fun k14 _ => ?_)
      refine x_nmM (fun M15 => ?_)
      refine x_iinc (i := 3) c_iconst_1 rfl (by decide) (L' := [.ref r0, .int x1, .int x2, .int (x3 + 1), .null, .null]) rfl hC (zdk dk_X12_mostBy 10 rfl) (q := 18) rfl ?_
      refine x_goto (tgt := 2) hC (zdk dk_X12_mostBy 11 rfl) rfl ?_
      refine x_weak (L' := [.ref r0, .int x1, .int x2, .int (x3 + 1), .null, .null]) ⟨Or.inr rfl, Or.inr rfl, Or.inr rfl, Or.inr rfl, Or.inl rfl, Or.inl rfl, trivial⟩ ?_
      exact ih _ _
set_option maxRecDepth 100000 in
def f_X12_mostBy (r0 : Nat) (x1 : Int32) (x2 : Int32) (M : Mem) : Option (Int32 × Mem) := f_X12_mostBy_2 r0 x1 x2 1000000 0 M
set_option maxRecDepth 100000 in
set_option maxHeartbeats 4000000 in
theorem x_X12_mostBy {κ : KX} {n : Nat} (hC : CX κ cX12_mostBy RX12 6 (some .int) 2) (hE : zEnd κ n (0, 0)) (hk0 : zRk κ (0, 0)) (r0 : Nat) (x1 : Int32) (x2 : Int32) (M : Mem) (h_r0 : zO n r0 12) : X κ 6 emI n (0, 0) 0 [.ref r0, .int x1, .int x2, .null, .null, .null] [] M (f_X12_mostBy r0 x1 x2 M) := by
  unfold f_X12_mostBy
  refine x_iconst (i := 0) c_iconst_0 hC (zdk dk_X12_mostBy 0 rfl) (q := 1) rfl ?_
  refine x_istore_n (i := 3) (L' := [.ref r0, .int x1, .int x2, .int 0, .null, .null]) (by decide) rfl hC (zdk dk_X12_mostBy 1 rfl) (q := 2) rfl ?_
  refine x_weak (L' := [.ref r0, .int x1, .int x2, .int 0, .null, .null]) ⟨Or.inr rfl, Or.inr rfl, Or.inr rfl, Or.inr rfl, Or.inl rfl, Or.inl rfl, trivial⟩ ?_
  exact x_X12_mostBy_2 hC hE hk0 h_r0 _ _ _
set_option maxRecDepth 100000 in
set_option maxHeartbeats 4000000 in
theorem t_X12_mostBy {n : Nat} {r0 : Nat} {x1 : Int32} {x2 : Int32} {M : Mem} (h_r0 : zO n r0 12) (x : (Int32 × Mem)) (hx : f_X12_mostBy r0 x1 x2 M = some x) (l : Launch) (dC : Nat → ClassId) (dI : Nat → Nat → Nat) (b : zSg) : MT l dC dI b yX12_mostBy cX12_mostBy 6 (some .int) 2 0 0 n n [.ref r0, .int x1, .int x2] M (emI x).1 (emI x).2 :=
  MT.ofX (by decide +kernel) rfl (Nat.le_of_ble_eq_true rfl) (fun κ hC hF _ => x_X12_mostBy hC (zEnd_of hF (Nat.le_refl _) (Nat.le_refl _)) (zRk_of hF (Nat.le_refl _) (Nat.le_refl _)) _ _ _ _ h_r0) x hx
set_option maxRecDepth 100000 in
def dt_X12_tells : List (Nat × Instr × Nat) := [(0, .aload_n 0, 1), (1, .iload_n 1, 1), (2, .invokevirtual 536, 3), (5, .ifCond .eq 12, 3), (8, .iload_n 2, 1), (9, .iconst 0, 1), (10, .iconst 1, 1), (11, .invokestatic 325, 3), (14, .ifCond .ne 5, 3), (17, .iconst (-1), 1), (18, .ireturn, 1), (19, .aload_n 0, 1), (20, .iload_n 1, 1), (21, .invokevirtual 550, 3), (24, .istore_n 3, 1), (25, .iconst (-1), 1), (26, .istore 4, 2), (28, .ldc_w 553, 3), (31, .istore 5, 2), (33, .iconst 0, 1), (34, .istore 6, 2), (36, .iload 6, 2), (38, .bipush 100, 2), (40, .if_icmp .gt 40, 3), (43, .iload_n 3, 1), (44, .ifCond .le 36, 3), (47, .aload_n 0, 1), (48, .iload_n 1, 1), (49, .iload 6, 2), (51, .invokevirtual 554, 3), (54, .istore 7, 2), (56, .iload 7, 2), (58, .iload 5, 2), (60, .if_icmp .lt 6, 3), (63, .goto 11, 3), (66, .iload 7, 2), (68, .istore 5, 2), (70, .iload 6, 2), (72, .istore 4, 2), (74, .iinc 6 1, 3), (77, .goto (-41), 3), (80, .iload 4, 2), (82, .iconst (-1), 1), (83, .if_icmp .eq 7, 3), (86, .iload_n 2, 1), (87, .ifCond .ne 8, 3), (90, .iload 4, 2), (92, .goto 5, 3), (95, .iload 5, 2), (97, .ireturn, 1)]
set_option maxRecDepth 100000 in
theorem dk_X12_tells : dt_X12_tells.all (fun q => decide (decode cX12_tells q.1 = .ok q.2)) = true := by decide +kernel
set_option maxRecDepth 100000 in
def f_X12_tells_17  (r0 : Nat) (x1 : Int32) (x2 : Int32)  (M : Mem) : Option (Int32 × Mem) := some ((-1), M)
set_option maxRecDepth 100000 in
set_option maxHeartbeats 4000000 in
theorem x_X12_tells_17 {κ : KX} {n : Nat} (hC : CX κ cX12_tells RX12 8 (some .int) 3) (hE : zEnd κ n (0, 0)) (hk0 : zRk κ (0, 0)) {r0 : Nat} {x1 : Int32} {x2 : Int32} (h_r0 : zO n r0 12) (M : Mem) : X κ 8 emI n (0, 0) 17 [.null, .null, .null, .null, .null, .null, .null, .null] [] M (f_X12_tells_17 r0 x1 x2 M) := by
  unfold f_X12_tells_17
  refine x_iconst (i := (-1)) c_iconst_m1 hC (zdk dk_X12_tells 9 rfl) (q := 18) rfl ?_
  exact x_iret (ty := .int) rfl hE hC (zdk dk_X12_tells 10 rfl)
set_option maxRecDepth 100000 in
def f_X12_tells_74 (k36 : Int32 → Int32 → Int32 → Int32 → Mem → Option (Int32 × Mem)) (r0 : Nat) (x1 : Int32) (x2 : Int32) (x3 : Int32) (x4 : Int32) (x5 : Int32) (x6 : Int32) (M : Mem) : Option (Int32 × Mem) := k36 x3 x4 x5 (x6 + 1) M
set_option maxRecDepth 100000 in
set_option maxHeartbeats 4000000 in
theorem x_X12_tells_74 {κ : KX} {n : Nat} (hC : CX κ cX12_tells RX12 8 (some .int) 3) (hE : zEnd κ n (0, 0)) (hk0 : zRk κ (0, 0)) {r0 : Nat} {x1 : Int32} {x2 : Int32} (h_r0 : zO n r0 12) (k36 : Int32 → Int32 → Int32 → Int32 → Mem → Option (Int32 × Mem)) (hk36 : ∀ (x3 : Int32) (x4 : Int32) (x5 : Int32) (x6 : Int32) (M : Mem), X κ 8 emI n (0, 0) 36 [.ref r0, .int x1, .int x2, .int x3, .int x4, .int x5, .int x6, .null] [] M (k36 x3 x4 x5 x6 M)) (x3 : Int32) (x4 : Int32) (x5 : Int32) (x6 : Int32) (M : Mem) : X κ 8 emI n (0, 0) 74 [.ref r0, .int x1, .int x2, .int x3, .int x4, .int x5, .int x6, .null] [] M (f_X12_tells_74 k36 r0 x1 x2 x3 x4 x5 x6 M) := by
  unfold f_X12_tells_74
  refine x_iinc (i := 6) c_iconst_1 rfl (by decide) (L' := [.ref r0, .int x1, .int x2, .int x3, .int x4, .int x5, .int (x6 + 1), .null]) rfl hC (zdk dk_X12_tells 39 rfl) (q := 77) rfl ?_
  refine x_goto (tgt := 36) hC (zdk dk_X12_tells 40 rfl) rfl ?_
  refine x_weak (L' := [.ref r0, .int x1, .int x2, .int x3, .int x4, .int x5, .int (x6 + 1), .null]) ⟨Or.inr rfl, Or.inr rfl, Or.inr rfl, Or.inr rfl, Or.inr rfl, Or.inr rfl, Or.inr rfl, Or.inl rfl, trivial⟩ ?_
  exact hk36 _ _ _ _ _
set_option maxRecDepth 100000 in
def f_X12_tells_97  (r0 : Nat) (x1 : Int32) (x2 : Int32) (s0 : Int32) (M : Mem) : Option (Int32 × Mem) := some (s0, M)
set_option maxRecDepth 100000 in
set_option maxHeartbeats 4000000 in
theorem x_X12_tells_97 {κ : KX} {n : Nat} (hC : CX κ cX12_tells RX12 8 (some .int) 3) (hE : zEnd κ n (0, 0)) (hk0 : zRk κ (0, 0)) {r0 : Nat} {x1 : Int32} {x2 : Int32} (h_r0 : zO n r0 12) (s0 : Int32) (M : Mem) : X κ 8 emI n (0, 0) 97 [.null, .null, .null, .null, .null, .null, .null, .null] [.int s0] M (f_X12_tells_97 r0 x1 x2 s0 M) := by
  unfold f_X12_tells_97
  exact x_iret (ty := .int) rfl hE hC (zdk dk_X12_tells 49 rfl)
set_option maxRecDepth 100000 in
def f_X12_tells_90  (r0 : Nat) (x1 : Int32) (x2 : Int32) (x4 : Int32) (M : Mem) : Option (Int32 × Mem) := f_X12_tells_97 r0 x1 x2 x4 M
set_option maxRecDepth 100000 in
set_option maxHeartbeats 4000000 in
theorem x_X12_tells_90 {κ : KX} {n : Nat} (hC : CX κ cX12_tells RX12 8 (some .int) 3) (hE : zEnd κ n (0, 0)) (hk0 : zRk κ (0, 0)) {r0 : Nat} {x1 : Int32} {x2 : Int32} (h_r0 : zO n r0 12) (x4 : Int32) (M : Mem) : X κ 8 emI n (0, 0) 90 [.null, .null, .null, .null, .int x4, .null, .null, .null] [] M (f_X12_tells_90 r0 x1 x2 x4 M) := by
  unfold f_X12_tells_90
  refine x_iload (i := 4) rfl hC (zdk dk_X12_tells 46 rfl) (q := 92) rfl ?_
  refine x_goto (tgt := 97) hC (zdk dk_X12_tells 47 rfl) rfl ?_
  refine x_weak (L' := [.null, .null, .null, .null, .null, .null, .null, .null]) ⟨Or.inl rfl, Or.inl rfl, Or.inl rfl, Or.inl rfl, Or.inl rfl, Or.inl rfl, Or.inl rfl, Or.inl rfl, trivial⟩ ?_
  exact x_X12_tells_97 hC hE hk0 h_r0 _ _
set_option maxRecDepth 100000 in
def f_X12_tells_80  (r0 : Nat) (x1 : Int32) (x2 : Int32) (x4 : Int32) (x5 : Int32) (M : Mem) : Option (Int32 × Mem) := (if x4 = (-1) then f_X12_tells_90 r0 x1 x2 x4 M else (if x2 = 0 then f_X12_tells_90 r0 x1 x2 x4 M else f_X12_tells_97 r0 x1 x2 x5 M))
set_option maxRecDepth 100000 in
set_option maxHeartbeats 4000000 in
theorem x_X12_tells_80 {κ : KX} {n : Nat} (hC : CX κ cX12_tells RX12 8 (some .int) 3) (hE : zEnd κ n (0, 0)) (hk0 : zRk κ (0, 0)) {r0 : Nat} {x1 : Int32} {x2 : Int32} (h_r0 : zO n r0 12) (x4 : Int32) (x5 : Int32) (M : Mem) : X κ 8 emI n (0, 0) 80 [.null, .null, .int x2, .null, .int x4, .int x5, .null, .null] [] M (f_X12_tells_80 r0 x1 x2 x4 x5 M) := by
  unfold f_X12_tells_80
  refine x_iload (i := 4) rfl hC (zdk dk_X12_tells 41 rfl) (q := 82) rfl ?_
  refine x_iconst (i := (-1)) c_iconst_m1 hC (zdk dk_X12_tells 42 rfl) (q := 83) rfl ?_
  refine x_icmp_eq (tgt := 90) hC (zdk dk_X12_tells 43 rfl) (q := 86) rfl rfl (fun _ => ?_) (fun _ => ?_)
  · refine x_weak (L' := [.null, .null, .null, .null, .int x4, .null, .null, .null]) ⟨Or.inl rfl, Or.inl rfl, Or.inl rfl, Or.inl rfl, Or.inr rfl, Or.inl rfl, Or.inl rfl, Or.inl rfl, trivial⟩ ?_
    exact x_X12_tells_90 hC hE hk0 h_r0 _ _
  · refine x_iload_n (i := 2) rfl hC (zdk dk_X12_tells 44 rfl) (q := 87) rfl ?_
    refine x_if_ne (tgt := 95) hC (zdk dk_X12_tells 45 rfl) (q := 90) rfl rfl (fun _ => ?_) (fun _ => ?_)
    · refine x_iload (i := 5) rfl hC (zdk dk_X12_tells 48 rfl) (q := 97) rfl ?_
      refine x_weak (L' := [.null, .null, .null, .null, .null, .null, .null, .null]) ⟨Or.inl rfl, Or.inl rfl, Or.inl rfl, Or.inl rfl, Or.inl rfl, Or.inl rfl, Or.inl rfl, Or.inl rfl, trivial⟩ ?_
      exact x_X12_tells_97 hC hE hk0 h_r0 _ _
    · refine x_weak (L' := [.null, .null, .null, .null, .int x4, .null, .null, .null]) ⟨Or.inl rfl, Or.inl rfl, Or.inl rfl, Or.inl rfl, Or.inr rfl, Or.inl rfl, Or.inl rfl, Or.inl rfl, trivial⟩ ?_
      exact x_X12_tells_90 hC hE hk0 h_r0 _ _
set_option maxRecDepth 100000 in
def f_X12_tells_36  (r0 : Nat) (x1 : Int32) (x2 : Int32) : Nat → Int32 → Int32 → Int32 → Int32 → Mem → Option (Int32 × Mem)
  | 0, _, _, _, _, _ => none
  | f + 1, x3, x4, x5, x6, M => (if 100 < x6 then f_X12_tells_80 r0 x1 x2 x4 x5 M else (if x3 ≤ 0 then f_X12_tells_80 r0 x1 x2 x4 x5 M else Option.bind (f_X12_mostBy r0 x1 x6 M) fun z1 => (if z1.1 < x5 then f_X12_tells_74 (f_X12_tells_36 r0 x1 x2 f) r0 x1 x2 x3 x6 z1.1 x6 z1.2 else f_X12_tells_74 (f_X12_tells_36 r0 x1 x2 f) r0 x1 x2 x3 x4 x5 x6 z1.2)))
set_option maxRecDepth 100000 in
set_option maxHeartbeats 4000000 in
theorem x_X12_tells_36 {κ : KX} {n : Nat} (hC : CX κ cX12_tells RX12 8 (some .int) 3) (hE : zEnd κ n (0, 0)) (hk0 : zRk κ (0, 0)) {r0 : Nat} {x1 : Int32} {x2 : Int32} (h_r0 : zO n r0 12) : ∀ (f : Nat) (x3 : Int32) (x4 : Int32) (x5 : Int32) (x6 : Int32) (M : Mem), X κ 8 emI n (0, 0) 36 [.ref r0, .int x1, .int x2, .int x3, .int x4, .int x5, .int x6, .null] [] M (f_X12_tells_36 r0 x1 x2 f x3 x4 x5 x6 M) := by
  intro f
  induction f with
  | zero => intros; exact x_none
  | succ f ih =>
    intro x3 x4 x5 x6 M 
    rw [f_X12_tells_36]
    refine x_iload (i := 6) rfl hC (zdk dk_X12_tells 21 rfl) (q := 38) rfl ?_
    refine x_bipush (i := 100) c_bipush_100 hC (zdk dk_X12_tells 22 rfl) (q := 40) rfl ?_
    refine x_icmp_gt (tgt := 80) hC (zdk dk_X12_tells 23 rfl) (q := 43) rfl rfl (fun _ => ?_) (fun _ => ?_)
    · refine x_weak (L' := [.null, .null, .int x2, .null, .int x4, .int x5, .null, .null]) ⟨Or.inl rfl, Or.inl rfl, Or.inr rfl, Or.inl rfl, Or.inr rfl, Or.inr rfl, Or.inl rfl, Or.inl rfl, trivial⟩ ?_
      exact x_X12_tells_80 hC hE hk0 h_r0 _ _ _
    · refine x_iload_n (i := 3) rfl hC (zdk dk_X12_tells 24 rfl) (q := 44) rfl ?_
      refine x_if_le (tgt := 80) hC (zdk dk_X12_tells 25 rfl) (q := 47) rfl rfl (fun _ => ?_) (fun _ => ?_)
      · refine x_weak (L' := [.null, .null, .int x2, .null, .int x4, .int x5, .null, .null]) ⟨Or.inl rfl, Or.inl rfl, Or.inr rfl, Or.inl rfl, Or.inr rfl, Or.inr rfl, Or.inl rfl, Or.inl rfl, trivial⟩ ?_
        exact x_X12_tells_80 hC hE hk0 h_r0 _ _ _
      · refine x_aload_n (i := 0) rfl hC (zdk dk_X12_tells 26 rfl) (q := 48) rfl ?_
        refine x_iload_n (i := 1) rfl hC (zdk dk_X12_tells 27 rfl) (q := 49) rfl ?_
        refine x_iload (i := 6) rfl hC (zdk dk_X12_tells 28 rfl) (q := 51) rfl ?_
        refine x_callVi (as := [.int x1, .int x6]) cb_RX12_554 rfl (by decide) hk0 h_r0 (fun x hx => t_X12_mostBy h_r0 x hx) hC (zdk dk_X12_tells 29 rfl) (q := 54) rfl rfl (Nat.le_of_ble_eq_true rfl) (fun z1 => ?_)
        refine x_istore (i := 7) (L' := [.ref r0, .int x1, .int x2, .int x3, .int x4, .int x5, .int x6, .int z1.1]) (by decide) rfl hC (zdk dk_X12_tells 30 rfl) (q := 56) rfl ?_
        refine x_iload (i := 7) rfl hC (zdk dk_X12_tells 31 rfl) (q := 58) rfl ?_
        refine x_iload (i := 5) rfl hC (zdk dk_X12_tells 32 rfl) (q := 60) rfl ?_
        refine x_icmp_lt (tgt := 66) hC (zdk dk_X12_tells 33 rfl) (q := 63) rfl rfl (fun _ => ?_) (fun _ => ?_)
        · refine x_iload (i := 7) rfl hC (zdk dk_X12_tells 35 rfl) (q := 68) rfl ?_
          refine x_istore (i := 5) (L' := [.ref r0, .int x1, .int x2, .int x3, .int x4, .int z1.1, .int x6, .int z1.1]) (by decide) rfl hC (zdk dk_X12_tells 36 rfl) (q := 70) rfl ?_
          refine x_iload (i := 6) rfl hC (zdk dk_X12_tells 37 rfl) (q := 72) rfl ?_
          refine x_istore (i := 4) (L' := [.ref r0, .int x1, .int x2, .int x3, .int x6, .int z1.1, .int x6, .int z1.1]) (by decide) rfl hC (zdk dk_X12_tells 38 rfl) (q := 74) rfl ?_
          refine x_weak (L' := [.ref r0, .int x1, .int x2, .int x3, .int x6, .int z1.1, .int x6, .null]) ⟨Or.inr rfl, Or.inr rfl, Or.inr rfl, Or.inr rfl, Or.inr rfl, Or.inr rfl, Or.inr rfl, Or.inl rfl, trivial⟩ ?_
          exact x_X12_tells_74 hC hE hk0 h_r0 (f_X12_tells_36 r0 x1 x2 f) ih _ _ _ _ _
        · refine x_goto (tgt := 74) hC (zdk dk_X12_tells 34 rfl) rfl ?_
          refine x_weak (L' := [.ref r0, .int x1, .int x2, .int x3, .int x4, .int x5, .int x6, .null]) ⟨Or.inr rfl, Or.inr rfl, Or.inr rfl, Or.inr rfl, Or.inr rfl, Or.inr rfl, Or.inr rfl, Or.inl rfl, trivial⟩ ?_
          exact x_X12_tells_74 hC hE hk0 h_r0 (f_X12_tells_36 r0 x1 x2 f) ih _ _ _ _ _
set_option maxRecDepth 100000 in
def f_X12_tells (r0 : Nat) (x1 : Int32) (x2 : Int32) (M : Mem) : Option (Int32 × Mem) := Option.bind (f_X12_isThere r0 x1 M) fun z2 => (if z2.1 = 0 then f_X12_tells_17 r0 x1 x2 z2.2 else Option.bind (f_X12_is x2 0 1 z2.2) fun z3 => (if z3.1 = 0 then f_X12_tells_17 r0 x1 x2 z3.2 else Option.bind (f_X12_leaves r0 x1 z3.2) fun z4 => f_X12_tells_36 r0 x1 x2 1000000 z4.1 ((-1)) 100000000 0 z4.2))
set_option maxRecDepth 100000 in
set_option maxHeartbeats 4000000 in
theorem x_X12_tells {κ : KX} {n : Nat} (hC : CX κ cX12_tells RX12 8 (some .int) 3) (hE : zEnd κ n (0, 0)) (hk0 : zRk κ (0, 0)) (r0 : Nat) (x1 : Int32) (x2 : Int32) (M : Mem) (h_r0 : zO n r0 12) : X κ 8 emI n (0, 0) 0 [.ref r0, .int x1, .int x2, .null, .null, .null, .null, .null] [] M (f_X12_tells r0 x1 x2 M) := by
  unfold f_X12_tells
  refine x_aload_n (i := 0) rfl hC (zdk dk_X12_tells 0 rfl) (q := 1) rfl ?_
  refine x_iload_n (i := 1) rfl hC (zdk dk_X12_tells 1 rfl) (q := 2) rfl ?_
  refine x_callVi (as := [.int x1]) cb_RX12_536 rfl (by decide) hk0 h_r0 (fun x hx => t_X12_isThere h_r0 x hx) hC (zdk dk_X12_tells 2 rfl) (q := 5) rfl rfl (Nat.le_of_ble_eq_true rfl) (fun z2 => ?_)
  refine x_if_eq (tgt := 17) hC (zdk dk_X12_tells 3 rfl) (q := 8) rfl rfl (fun _ => ?_) (fun _ => ?_)
  · refine x_weak (L' := [.null, .null, .null, .null, .null, .null, .null, .null]) ⟨Or.inl rfl, Or.inl rfl, Or.inl rfl, Or.inl rfl, Or.inl rfl, Or.inl rfl, Or.inl rfl, Or.inl rfl, trivial⟩ ?_
    exact x_X12_tells_17 hC hE hk0 h_r0 _
  · refine x_iload_n (i := 2) rfl hC (zdk dk_X12_tells 4 rfl) (q := 9) rfl ?_
    refine x_iconst (i := 0) c_iconst_0 hC (zdk dk_X12_tells 5 rfl) (q := 10) rfl ?_
    refine x_iconst (i := 1) c_iconst_1 hC (zdk dk_X12_tells 6 rfl) (q := 11) rfl ?_
    refine x_callSi (as := [.int x2, .int 0, .int 1]) cb_RX12_325 rfl (by decide) hk0 (fun x hx => t_X12_is  x hx) hC (zdk dk_X12_tells 7 rfl) (q := 14) rfl rfl (Nat.le_of_ble_eq_true rfl) (fun z3 => ?_)
    refine x_if_ne (tgt := 19) hC (zdk dk_X12_tells 8 rfl) (q := 17) rfl rfl (fun _ => ?_) (fun _ => ?_)
    · refine x_aload_n (i := 0) rfl hC (zdk dk_X12_tells 11 rfl) (q := 20) rfl ?_
      refine x_iload_n (i := 1) rfl hC (zdk dk_X12_tells 12 rfl) (q := 21) rfl ?_
      refine x_callVi (as := [.int x1]) cb_RX12_550 rfl (by decide) hk0 h_r0 (fun x hx => t_X12_leaves h_r0 x hx) hC (zdk dk_X12_tells 13 rfl) (q := 24) rfl rfl (Nat.le_of_ble_eq_true rfl) (fun z4 => ?_)
      refine x_istore_n (i := 3) (L' := [.ref r0, .int x1, .int x2, .int z4.1, .null, .null, .null, .null]) (by decide) rfl hC (zdk dk_X12_tells 14 rfl) (q := 25) rfl ?_
      refine x_iconst (i := (-1)) c_iconst_m1 hC (zdk dk_X12_tells 15 rfl) (q := 26) rfl ?_
      refine x_istore (i := 4) (L' := [.ref r0, .int x1, .int x2, .int z4.1, .int ((-1)), .null, .null, .null]) (by decide) rfl hC (zdk dk_X12_tells 16 rfl) (q := 28) rfl ?_
      refine x_ldcw k_RX12_553 hC (zdk dk_X12_tells 17 rfl) (q := 31) rfl ?_
      refine x_istore (i := 5) (L' := [.ref r0, .int x1, .int x2, .int z4.1, .int ((-1)), .int 100000000, .null, .null]) (by decide) rfl hC (zdk dk_X12_tells 18 rfl) (q := 33) rfl ?_
      refine x_iconst (i := 0) c_iconst_0 hC (zdk dk_X12_tells 19 rfl) (q := 34) rfl ?_
      refine x_istore (i := 6) (L' := [.ref r0, .int x1, .int x2, .int z4.1, .int ((-1)), .int 100000000, .int 0, .null]) (by decide) rfl hC (zdk dk_X12_tells 20 rfl) (q := 36) rfl ?_
      refine x_weak (L' := [.ref r0, .int x1, .int x2, .int z4.1, .int ((-1)), .int 100000000, .int 0, .null]) ⟨Or.inr rfl, Or.inr rfl, Or.inr rfl, Or.inr rfl, Or.inr rfl, Or.inr rfl, Or.inr rfl, Or.inl rfl, trivial⟩ ?_
      exact x_X12_tells_36 hC hE hk0 h_r0 _ _ _ _ _ _
    · refine x_weak (L' := [.null, .null, .null, .null, .null, .null, .null, .null]) ⟨Or.inl rfl, Or.inl rfl, Or.inl rfl, Or.inl rfl, Or.inl rfl, Or.inl rfl, Or.inl rfl, Or.inl rfl, trivial⟩ ?_
      exact x_X12_tells_17 hC hE hk0 h_r0 _
set_option maxRecDepth 100000 in
set_option maxHeartbeats 4000000 in
theorem t_X12_tells {n : Nat} {r0 : Nat} {x1 : Int32} {x2 : Int32} {M : Mem} (h_r0 : zO n r0 12) (x : (Int32 × Mem)) (hx : f_X12_tells r0 x1 x2 M = some x) (l : Launch) (dC : Nat → ClassId) (dI : Nat → Nat → Nat) (b : zSg) : MT l dC dI b yX12_tells cX12_tells 8 (some .int) 3 0 0 n n [.ref r0, .int x1, .int x2] M (emI x).1 (emI x).2 :=
  MT.ofX (by decide +kernel) rfl (Nat.le_of_ble_eq_true rfl) (fun κ hC hF _ => x_X12_tells hC (zEnd_of hF (Nat.le_refl _) (Nat.le_refl _)) (zRk_of hF (Nat.le_refl _) (Nat.le_refl _)) _ _ _ _ h_r0) x hx
set_option maxRecDepth 100000 in
def dt_X12_write : List (Nat × Instr × Nat) := [(0, .aload_n 0, 1), (1, .iload_n 1, 1), (2, .invokevirtual 497, 3), (5, .ifCond .eq 12, 3), (8, .aload_n 0, 1), (9, .iload_n 2, 1), (10, .iload_n 3, 1), (11, .invokevirtual 446, 3), (14, .ifCond .ne 17, 3), (17, .aload_n 0, 1), (18, .iconst 3, 1), (19, .invokevirtual 243, 3), (22, .ifCond .lt 7, 3), (25, .iconst 1, 1), (26, .goto 4, 3), (29, .iconst 0, 1), (30, .ireturn, 1), (31, .aload_n 0, 1), (32, .invokevirtual 557, 3), (35, .aload_n 0, 1), (36, .iload_n 1, 1), (37, .aload_n 0, 1), (38, .iload_n 2, 1), (39, .i2l, 1), (40, .bipush 30, 2), (42, .lshl, 1), (43, .iload_n 3, 1), (44, .i2l, 1), (45, .lor, 1), (46, .invokevirtual 449, 3), (49, .invokevirtual 560, 3), (52, .aload_n 0, 1), (53, .iload_n 1, 1), (54, .iconst 0, 1), (55, .invokevirtual 564, 3), (58, .iconst 1, 1), (59, .ireturn, 1)]
set_option maxRecDepth 100000 in
theorem dk_X12_write : dt_X12_write.all (fun q => decide (decode cX12_write q.1 = .ok q.2)) = true := by decide +kernel
set_option maxRecDepth 100000 in
def f_X12_write_30  (r0 : Nat) (x1 : Int32) (x2 : Int32) (x3 : Int32) (s0 : Int32) (M : Mem) : Option (Int32 × Mem) := zbz s0 (some (s0, M))
set_option maxRecDepth 100000 in
set_option maxHeartbeats 4000000 in
theorem x_X12_write_30 {κ : KX} {n : Nat} (hC : CX κ cX12_write RX12 4 (some .boolean) 2) (hE : zEnd κ n (0, 0)) (hk0 : zRk κ (0, 0)) {r0 : Nat} {x1 : Int32} {x2 : Int32} {x3 : Int32} (h_r0 : zO n r0 12) (s0 : Int32) (M : Mem) : X κ 4 emI n (0, 0) 30 [.null, .null, .null, .null] [.int s0] M (f_X12_write_30 r0 x1 x2 x3 s0 M) := by
  unfold f_X12_write_30
  refine x_bz (fun hb1 => ?_)
  exact x_iret (ty := .boolean) hb1.1 hE hC (zdk dk_X12_write 16 rfl)
set_option maxRecDepth 100000 in
def f_X12_write_17  (r0 : Nat) (x1 : Int32) (x2 : Int32) (x3 : Int32)  (M : Mem) : Option (Int32 × Mem) := Option.bind (f_X12_refuses r0 3 M) fun z2 => (if z2.1 < 0 then f_X12_write_30 r0 x1 x2 x3 0 z2.2 else f_X12_write_30 r0 x1 x2 x3 1 z2.2)
set_option maxRecDepth 100000 in
set_option maxHeartbeats 4000000 in
theorem x_X12_write_17 {κ : KX} {n : Nat} (hC : CX κ cX12_write RX12 4 (some .boolean) 2) (hE : zEnd κ n (0, 0)) (hk0 : zRk κ (0, 0)) {r0 : Nat} {x1 : Int32} {x2 : Int32} {x3 : Int32} (h_r0 : zO n r0 12) (M : Mem) : X κ 4 emI n (0, 0) 17 [.ref r0, .null, .null, .null] [] M (f_X12_write_17 r0 x1 x2 x3 M) := by
  unfold f_X12_write_17
  refine x_aload_n (i := 0) rfl hC (zdk dk_X12_write 9 rfl) (q := 18) rfl ?_
  refine x_iconst (i := 3) c_iconst_3 hC (zdk dk_X12_write 10 rfl) (q := 19) rfl ?_
  refine x_callVi (as := [.int 3]) cb_RX12_243 rfl (by decide) hk0 h_r0 (fun x hx => t_X12_refuses h_r0 x hx) hC (zdk dk_X12_write 11 rfl) (q := 22) rfl rfl (Nat.le_of_ble_eq_true rfl) (fun z2 => ?_)
  refine x_if_lt (tgt := 29) hC (zdk dk_X12_write 12 rfl) (q := 25) rfl rfl (fun _ => ?_) (fun _ => ?_)
  · refine x_iconst (i := 0) c_iconst_0 hC (zdk dk_X12_write 15 rfl) (q := 30) rfl ?_
    refine x_weak (L' := [.null, .null, .null, .null]) ⟨Or.inl rfl, Or.inl rfl, Or.inl rfl, Or.inl rfl, trivial⟩ ?_
    exact x_X12_write_30 hC hE hk0 h_r0 _ _
  · refine x_iconst (i := 1) c_iconst_1 hC (zdk dk_X12_write 13 rfl) (q := 26) rfl ?_
    refine x_goto (tgt := 30) hC (zdk dk_X12_write 14 rfl) rfl ?_
    refine x_weak (L' := [.null, .null, .null, .null]) ⟨Or.inl rfl, Or.inl rfl, Or.inl rfl, Or.inl rfl, trivial⟩ ?_
    exact x_X12_write_30 hC hE hk0 h_r0 _ _
set_option maxRecDepth 100000 in
def f_X12_write (r0 : Nat) (x1 : Int32) (x2 : Int32) (x3 : Int32) (M : Mem) : Option (Int32 × Mem) := Option.bind (f_X12_isPage r0 x1 M) fun z3 => (if z3.1 = 0 then f_X12_write_17 r0 x1 x2 x3 z3.2 else Option.bind (f_X12_isData r0 x2 x3 z3.2) fun z4 => (if z4.1 = 0 then f_X12_write_17 r0 x1 x2 x3 z4.2 else Option.bind (f_X12_keeps r0 z4.2) fun M5 => Option.bind (f_X12_wordOf r0 ((x2.toInt64 <<< ((30 : Int32).toInt64 &&& 63)) ||| x3.toInt64) M5) fun z6 => Option.bind (f_X12_writesWord r0 x1 z6.1 z6.2) fun M7 => Option.bind (f_X12_writesDown r0 x1 0 M7) fun M8 => some (1, M8)))
set_option maxRecDepth 100000 in
set_option maxHeartbeats 4000000 in
theorem x_X12_write {κ : KX} {n : Nat} (hC : CX κ cX12_write RX12 4 (some .boolean) 2) (hE : zEnd κ n (0, 0)) (hk0 : zRk κ (0, 0)) (r0 : Nat) (x1 : Int32) (x2 : Int32) (x3 : Int32) (M : Mem) (h_r0 : zO n r0 12) : X κ 4 emI n (0, 0) 0 [.ref r0, .int x1, .int x2, .int x3] [] M (f_X12_write r0 x1 x2 x3 M) := by
  unfold f_X12_write
  refine x_aload_n (i := 0) rfl hC (zdk dk_X12_write 0 rfl) (q := 1) rfl ?_
  refine x_iload_n (i := 1) rfl hC (zdk dk_X12_write 1 rfl) (q := 2) rfl ?_
  refine x_callVi (as := [.int x1]) cb_RX12_497 rfl (by decide) hk0 h_r0 (fun x hx => t_X12_isPage h_r0 x hx) hC (zdk dk_X12_write 2 rfl) (q := 5) rfl rfl (Nat.le_of_ble_eq_true rfl) (fun z3 => ?_)
  refine x_if_eq (tgt := 17) hC (zdk dk_X12_write 3 rfl) (q := 8) rfl rfl (fun _ => ?_) (fun _ => ?_)
  · refine x_weak (L' := [.ref r0, .null, .null, .null]) ⟨Or.inr rfl, Or.inl rfl, Or.inl rfl, Or.inl rfl, trivial⟩ ?_
    exact x_X12_write_17 hC hE hk0 h_r0 _
  · refine x_aload_n (i := 0) rfl hC (zdk dk_X12_write 4 rfl) (q := 9) rfl ?_
    refine x_iload_n (i := 2) rfl hC (zdk dk_X12_write 5 rfl) (q := 10) rfl ?_
    refine x_iload_n (i := 3) rfl hC (zdk dk_X12_write 6 rfl) (q := 11) rfl ?_
    refine x_callVi (as := [.int x2, .int x3]) cb_RX12_446 rfl (by decide) hk0 h_r0 (fun x hx => t_X12_isData h_r0 x hx) hC (zdk dk_X12_write 7 rfl) (q := 14) rfl rfl (Nat.le_of_ble_eq_true rfl) (fun z4 => ?_)
    refine x_if_ne (tgt := 31) hC (zdk dk_X12_write 8 rfl) (q := 17) rfl rfl (fun _ => ?_) (fun _ => ?_)
    · refine x_aload_n (i := 0) rfl hC (zdk dk_X12_write 17 rfl) (q := 32) rfl ?_
      refine x_callVv (as := []) cb_RX12_557 rfl (by decide) hk0 h_r0 (fun x hx => t_X12_keeps h_r0 x hx) hC (zdk dk_X12_write 18 rfl) (q := 35) rfl rfl (Nat.le_of_ble_eq_true rfl) (fun M5 => ?_)
      refine x_aload_n (i := 0) rfl hC (zdk dk_X12_write 19 rfl) (q := 36) rfl ?_
      refine x_iload_n (i := 1) rfl hC (zdk dk_X12_write 20 rfl) (q := 37) rfl ?_
      refine x_aload_n (i := 0) rfl hC (zdk dk_X12_write 21 rfl) (q := 38) rfl ?_
      refine x_iload_n (i := 2) rfl hC (zdk dk_X12_write 22 rfl) (q := 39) rfl ?_
      refine x_i2l hC (zdk dk_X12_write 23 rfl) (q := 40) rfl ?_
      refine x_bipush (i := 30) c_bipush_30 hC (zdk dk_X12_write 24 rfl) (q := 42) rfl ?_
      refine x_lshl hC (zdk dk_X12_write 25 rfl) (q := 43) rfl ?_
      refine x_iload_n (i := 3) rfl hC (zdk dk_X12_write 26 rfl) (q := 44) rfl ?_
      refine x_i2l hC (zdk dk_X12_write 27 rfl) (q := 45) rfl ?_
      refine x_lor hC (zdk dk_X12_write 28 rfl) (q := 46) rfl ?_
      refine x_callVl (as := [.long ((x2.toInt64 <<< ((30 : Int32).toInt64 &&& 63)) ||| x3.toInt64)]) cb_RX12_449 rfl (by decide) hk0 h_r0 (fun x hx => t_X12_wordOf h_r0 x hx) hC (zdk dk_X12_write 29 rfl) (q := 49) rfl rfl (Nat.le_of_ble_eq_true rfl) (fun z6 => ?_)
      refine x_callVv (as := [.int x1, .long z6.1]) cb_RX12_560 rfl (by decide) hk0 h_r0 (fun x hx => t_X12_writesWord h_r0 x hx) hC (zdk dk_X12_write 30 rfl) (q := 52) rfl rfl (Nat.le_of_ble_eq_true rfl) (fun M7 => ?_)
      refine x_aload_n (i := 0) rfl hC (zdk dk_X12_write 31 rfl) (q := 53) rfl ?_
      refine x_iload_n (i := 1) rfl hC (zdk dk_X12_write 32 rfl) (q := 54) rfl ?_
      refine x_iconst (i := 0) c_iconst_0 hC (zdk dk_X12_write 33 rfl) (q := 55) rfl ?_
      refine x_callVv (as := [.int x1, .int 0]) cb_RX12_564 rfl (by decide) hk0 h_r0 (fun x hx => t_X12_writesDown h_r0 x hx) hC (zdk dk_X12_write 34 rfl) (q := 58) rfl rfl (Nat.le_of_ble_eq_true rfl) (fun M8 => ?_)
      refine x_iconst (i := 1) c_iconst_1 hC (zdk dk_X12_write 35 rfl) (q := 59) rfl ?_
      exact x_iret (ty := .boolean) rfl hE hC (zdk dk_X12_write 36 rfl)
    · refine x_weak (L' := [.ref r0, .null, .null, .null]) ⟨Or.inr rfl, Or.inl rfl, Or.inl rfl, Or.inl rfl, trivial⟩ ?_
      exact x_X12_write_17 hC hE hk0 h_r0 _
set_option maxRecDepth 100000 in
set_option maxHeartbeats 4000000 in
theorem t_X12_write {n : Nat} {r0 : Nat} {x1 : Int32} {x2 : Int32} {x3 : Int32} {M : Mem} (h_r0 : zO n r0 12) (x : (Int32 × Mem)) (hx : f_X12_write r0 x1 x2 x3 M = some x) (l : Launch) (dC : Nat → ClassId) (dI : Nat → Nat → Nat) (b : zSg) : MT l dC dI b yX12_write cX12_write 4 (some .boolean) 2 0 0 n n [.ref r0, .int x1, .int x2, .int x3] M (emI x).1 (emI x).2 :=
  MT.ofX (by decide +kernel) rfl (Nat.le_of_ble_eq_true rfl) (fun κ hC hF _ => x_X12_write hC (zEnd_of hF (Nat.le_refl _) (Nat.le_refl _)) (zRk_of hF (Nat.le_refl _) (Nat.le_refl _)) _ _ _ _ _ h_r0) x hx
set_option maxRecDepth 100000 in
def dt_X12_erase : List (Nat × Instr × Nat) := [(0, .aload_n 0, 1), (1, .iload_n 1, 1), (2, .invokevirtual 536, 3), (5, .ifCond .ne 17, 3), (8, .aload_n 0, 1), (9, .iconst 3, 1), (10, .invokevirtual 243, 3), (13, .ifCond .lt 7, 3), (16, .iconst 1, 1), (17, .goto 4, 3), (20, .iconst 0, 1), (21, .ireturn, 1), (22, .aload_n 0, 1), (23, .invokevirtual 557, 3), (26, .aload_n 0, 1), (27, .getfield 183, 3), (30, .iload_n 1, 1), (31, .iconst 0, 1), (32, .iastore, 1), (33, .iconst 1, 1), (34, .ireturn, 1)]
set_option maxRecDepth 100000 in
theorem dk_X12_erase : dt_X12_erase.all (fun q => decide (decode cX12_erase q.1 = .ok q.2)) = true := by decide +kernel
set_option maxRecDepth 100000 in
def f_X12_erase_21  (r0 : Nat) (x1 : Int32) (s0 : Int32) (M : Mem) : Option (Int32 × Mem) := zbz s0 (some (s0, M))
set_option maxRecDepth 100000 in
set_option maxHeartbeats 4000000 in
theorem x_X12_erase_21 {κ : KX} {n : Nat} (hC : CX κ cX12_erase RX12 2 (some .boolean) 2) (hE : zEnd κ n (0, 0)) (hk0 : zRk κ (0, 0)) {r0 : Nat} {x1 : Int32} (h_r0 : zO n r0 12) (s0 : Int32) (M : Mem) : X κ 2 emI n (0, 0) 21 [.null, .null] [.int s0] M (f_X12_erase_21 r0 x1 s0 M) := by
  unfold f_X12_erase_21
  refine x_bz (fun hb1 => ?_)
  exact x_iret (ty := .boolean) hb1.1 hE hC (zdk dk_X12_erase 11 rfl)
set_option maxRecDepth 100000 in
def f_X12_erase (r0 : Nat) (x1 : Int32) (M : Mem) : Option (Int32 × Mem) := Option.bind (f_X12_isThere r0 x1 M) fun z2 => (if z2.1 = 0 then Option.bind (f_X12_refuses r0 3 z2.2) fun z7 => (if z7.1 < 0 then f_X12_erase_21 r0 x1 0 z7.2 else f_X12_erase_21 r0 x1 1 z7.2) else Option.bind (f_X12_keeps r0 z2.2) fun M3 => Option.bind (zrf M3 r0 56) fun q4 => Option.bind (zld q4 x1) fun k5 => Option.bind (some (zsI M3 q4 k5 0)) fun M6 => some (1, M6))
set_option maxRecDepth 100000 in
set_option maxHeartbeats 4000000 in
theorem x_X12_erase {κ : KX} {n : Nat} (hC : CX κ cX12_erase RX12 2 (some .boolean) 2) (hE : zEnd κ n (0, 0)) (hk0 : zRk κ (0, 0)) (r0 : Nat) (x1 : Int32) (M : Mem) (h_r0 : zO n r0 12) : X κ 2 emI n (0, 0) 0 [.ref r0, .int x1] [] M (f_X12_erase r0 x1 M) := by
  unfold f_X12_erase
  refine x_aload_n (i := 0) rfl hC (zdk dk_X12_erase 0 rfl) (q := 1) rfl ?_
  refine x_iload_n (i := 1) rfl hC (zdk dk_X12_erase 1 rfl) (q := 2) rfl ?_
  refine x_callVi (as := [.int x1]) cb_RX12_536 rfl (by decide) hk0 h_r0 (fun x hx => t_X12_isThere h_r0 x hx) hC (zdk dk_X12_erase 2 rfl) (q := 5) rfl rfl (Nat.le_of_ble_eq_true rfl) (fun z2 => ?_)
  refine x_if_ne (tgt := 22) hC (zdk dk_X12_erase 3 rfl) (q := 8) rfl rfl (fun _ => ?_) (fun _ => ?_)
  · refine x_aload_n (i := 0) rfl hC (zdk dk_X12_erase 12 rfl) (q := 23) rfl ?_
    refine x_callVv (as := []) cb_RX12_557 rfl (by decide) hk0 h_r0 (fun x hx => t_X12_keeps h_r0 x hx) hC (zdk dk_X12_erase 13 rfl) (q := 26) rfl rfl (Nat.le_of_ble_eq_true rfl) (fun M3 => ?_)
    refine x_aload_n (i := 0) rfl hC (zdk dk_X12_erase 14 rfl) (q := 27) rfl ?_
    refine x_getR (k := 20) fl_RX12_183 rfl h_r0 hC (zdk dk_X12_erase 15 rfl) (q := 30) rfl (fun q4 hq4 => ?_)
    refine x_iload_n (i := 1) rfl hC (zdk dk_X12_erase 16 rfl) (q := 31) rfl ?_
    refine x_iconst (i := 0) c_iconst_0 hC (zdk dk_X12_erase 17 rfl) (q := 32) rfl ?_
    refine x_iast hq4 hC (zdk dk_X12_erase 18 rfl) (q := 33) rfl (fun k5 _ => ?_)
    refine x_nmM (fun M6 => ?_)
    refine x_iconst (i := 1) c_iconst_1 hC (zdk dk_X12_erase 19 rfl) (q := 34) rfl ?_
    exact x_iret (ty := .boolean) rfl hE hC (zdk dk_X12_erase 20 rfl)
  · refine x_aload_n (i := 0) rfl hC (zdk dk_X12_erase 4 rfl) (q := 9) rfl ?_
    refine x_iconst (i := 3) c_iconst_3 hC (zdk dk_X12_erase 5 rfl) (q := 10) rfl ?_
    refine x_callVi (as := [.int 3]) cb_RX12_243 rfl (by decide) hk0 h_r0 (fun x hx => t_X12_refuses h_r0 x hx) hC (zdk dk_X12_erase 6 rfl) (q := 13) rfl rfl (Nat.le_of_ble_eq_true rfl) (fun z7 => ?_)
    refine x_if_lt (tgt := 20) hC (zdk dk_X12_erase 7 rfl) (q := 16) rfl rfl (fun _ => ?_) (fun _ => ?_)
    · refine x_iconst (i := 0) c_iconst_0 hC (zdk dk_X12_erase 10 rfl) (q := 21) rfl ?_
      refine x_weak (L' := [.null, .null]) ⟨Or.inl rfl, Or.inl rfl, trivial⟩ ?_
      exact x_X12_erase_21 hC hE hk0 h_r0 _ _
    · refine x_iconst (i := 1) c_iconst_1 hC (zdk dk_X12_erase 8 rfl) (q := 17) rfl ?_
      refine x_goto (tgt := 21) hC (zdk dk_X12_erase 9 rfl) rfl ?_
      refine x_weak (L' := [.null, .null]) ⟨Or.inl rfl, Or.inl rfl, trivial⟩ ?_
      exact x_X12_erase_21 hC hE hk0 h_r0 _ _
set_option maxRecDepth 100000 in
set_option maxHeartbeats 4000000 in
theorem t_X12_erase {n : Nat} {r0 : Nat} {x1 : Int32} {M : Mem} (h_r0 : zO n r0 12) (x : (Int32 × Mem)) (hx : f_X12_erase r0 x1 M = some x) (l : Launch) (dC : Nat → ClassId) (dI : Nat → Nat → Nat) (b : zSg) : MT l dC dI b yX12_erase cX12_erase 2 (some .boolean) 2 0 0 n n [.ref r0, .int x1] M (emI x).1 (emI x).2 :=
  MT.ofX (by decide +kernel) rfl (Nat.le_of_ble_eq_true rfl) (fun κ hC hF _ => x_X12_erase hC (zEnd_of hF (Nat.le_refl _) (Nat.le_refl _)) (zRk_of hF (Nat.le_refl _) (Nat.le_refl _)) _ _ _ h_r0) x hx
set_option maxRecDepth 100000 in
def dt_X12_flip : List (Nat × Instr × Nat) := [(0, .aload_n 0, 1), (1, .iload_n 1, 1), (2, .invokevirtual 536, 3), (5, .ifCond .eq 17, 3), (8, .iload_n 2, 1), (9, .iconst 0, 1), (10, .aload_n 0, 1), (11, .getfield 132, 3), (14, .iconst 1, 1), (15, .isub, 1), (16, .invokestatic 325, 3), (19, .ifCond .ne 17, 3), (22, .aload_n 0, 1), (23, .iconst 3, 1), (24, .invokevirtual 243, 3), (27, .ifCond .lt 7, 3), (30, .iconst 1, 1), (31, .goto 4, 3), (34, .iconst 0, 1), (35, .ireturn, 1), (36, .aload_n 0, 1), (37, .invokevirtual 557, 3), (40, .aload_n 0, 1), (41, .iconst 0, 1), (42, .iload_n 1, 1), (43, .iload_n 2, 1), (44, .bipush 99, 2), (46, .aload_n 0, 1), (47, .iconst 0, 1), (48, .iload_n 1, 1), (49, .iload_n 2, 1), (50, .invokevirtual 500, 3), (53, .isub, 1), (54, .invokevirtual 522, 3), (57, .iconst 1, 1), (58, .ireturn, 1)]
set_option maxRecDepth 100000 in
theorem dk_X12_flip : dt_X12_flip.all (fun q => decide (decode cX12_flip q.1 = .ok q.2)) = true := by decide +kernel
set_option maxRecDepth 100000 in
def f_X12_flip_35  (r0 : Nat) (x1 : Int32) (x2 : Int32) (s0 : Int32) (M : Mem) : Option (Int32 × Mem) := zbz s0 (some (s0, M))
set_option maxRecDepth 100000 in
set_option maxHeartbeats 4000000 in
theorem x_X12_flip_35 {κ : KX} {n : Nat} (hC : CX κ cX12_flip RX12 3 (some .boolean) 2) (hE : zEnd κ n (0, 0)) (hk0 : zRk κ (0, 0)) {r0 : Nat} {x1 : Int32} {x2 : Int32} (h_r0 : zO n r0 12) (s0 : Int32) (M : Mem) : X κ 3 emI n (0, 0) 35 [.null, .null, .null] [.int s0] M (f_X12_flip_35 r0 x1 x2 s0 M) := by
  unfold f_X12_flip_35
  refine x_bz (fun hb1 => ?_)
  exact x_iret (ty := .boolean) hb1.1 hE hC (zdk dk_X12_flip 19 rfl)
set_option maxRecDepth 100000 in
def f_X12_flip_22  (r0 : Nat) (x1 : Int32) (x2 : Int32)  (M : Mem) : Option (Int32 × Mem) := Option.bind (f_X12_refuses r0 3 M) fun z2 => (if z2.1 < 0 then f_X12_flip_35 r0 x1 x2 0 z2.2 else f_X12_flip_35 r0 x1 x2 1 z2.2)
set_option maxRecDepth 100000 in
set_option maxHeartbeats 4000000 in
theorem x_X12_flip_22 {κ : KX} {n : Nat} (hC : CX κ cX12_flip RX12 3 (some .boolean) 2) (hE : zEnd κ n (0, 0)) (hk0 : zRk κ (0, 0)) {r0 : Nat} {x1 : Int32} {x2 : Int32} (h_r0 : zO n r0 12) (M : Mem) : X κ 3 emI n (0, 0) 22 [.ref r0, .null, .null] [] M (f_X12_flip_22 r0 x1 x2 M) := by
  unfold f_X12_flip_22
  refine x_aload_n (i := 0) rfl hC (zdk dk_X12_flip 12 rfl) (q := 23) rfl ?_
  refine x_iconst (i := 3) c_iconst_3 hC (zdk dk_X12_flip 13 rfl) (q := 24) rfl ?_
  refine x_callVi (as := [.int 3]) cb_RX12_243 rfl (by decide) hk0 h_r0 (fun x hx => t_X12_refuses h_r0 x hx) hC (zdk dk_X12_flip 14 rfl) (q := 27) rfl rfl (Nat.le_of_ble_eq_true rfl) (fun z2 => ?_)
  refine x_if_lt (tgt := 34) hC (zdk dk_X12_flip 15 rfl) (q := 30) rfl rfl (fun _ => ?_) (fun _ => ?_)
  · refine x_iconst (i := 0) c_iconst_0 hC (zdk dk_X12_flip 18 rfl) (q := 35) rfl ?_
    refine x_weak (L' := [.null, .null, .null]) ⟨Or.inl rfl, Or.inl rfl, Or.inl rfl, trivial⟩ ?_
    exact x_X12_flip_35 hC hE hk0 h_r0 _ _
  · refine x_iconst (i := 1) c_iconst_1 hC (zdk dk_X12_flip 16 rfl) (q := 31) rfl ?_
    refine x_goto (tgt := 35) hC (zdk dk_X12_flip 17 rfl) rfl ?_
    refine x_weak (L' := [.null, .null, .null]) ⟨Or.inl rfl, Or.inl rfl, Or.inl rfl, trivial⟩ ?_
    exact x_X12_flip_35 hC hE hk0 h_r0 _ _
set_option maxRecDepth 100000 in
def f_X12_flip (r0 : Nat) (x1 : Int32) (x2 : Int32) (M : Mem) : Option (Int32 × Mem) := Option.bind (f_X12_isThere r0 x1 M) fun z3 => (if z3.1 = 0 then f_X12_flip_22 r0 x1 x2 z3.2 else Option.bind (f_X12_is x2 0 ((zI z3.2 r0 39) - 1) z3.2) fun z4 => (if z4.1 = 0 then f_X12_flip_22 r0 x1 x2 z4.2 else Option.bind (f_X12_keeps r0 z4.2) fun M5 => Option.bind (f_X12_levelAt r0 0 x1 x2 M5) fun z6 => Option.bind (f_X12_puts r0 0 x1 x2 (99 - z6.1) z6.2) fun M7 => some (1, M7)))
set_option maxRecDepth 100000 in
set_option maxHeartbeats 4000000 in
theorem x_X12_flip {κ : KX} {n : Nat} (hC : CX κ cX12_flip RX12 3 (some .boolean) 2) (hE : zEnd κ n (0, 0)) (hk0 : zRk κ (0, 0)) (r0 : Nat) (x1 : Int32) (x2 : Int32) (M : Mem) (h_r0 : zO n r0 12) : X κ 3 emI n (0, 0) 0 [.ref r0, .int x1, .int x2] [] M (f_X12_flip r0 x1 x2 M) := by
  unfold f_X12_flip
  refine x_aload_n (i := 0) rfl hC (zdk dk_X12_flip 0 rfl) (q := 1) rfl ?_
  refine x_iload_n (i := 1) rfl hC (zdk dk_X12_flip 1 rfl) (q := 2) rfl ?_
  refine x_callVi (as := [.int x1]) cb_RX12_536 rfl (by decide) hk0 h_r0 (fun x hx => t_X12_isThere h_r0 x hx) hC (zdk dk_X12_flip 2 rfl) (q := 5) rfl rfl (Nat.le_of_ble_eq_true rfl) (fun z3 => ?_)
  refine x_if_eq (tgt := 22) hC (zdk dk_X12_flip 3 rfl) (q := 8) rfl rfl (fun _ => ?_) (fun _ => ?_)
  · refine x_weak (L' := [.ref r0, .null, .null]) ⟨Or.inr rfl, Or.inl rfl, Or.inl rfl, trivial⟩ ?_
    exact x_X12_flip_22 hC hE hk0 h_r0 _
  · refine x_iload_n (i := 2) rfl hC (zdk dk_X12_flip 4 rfl) (q := 9) rfl ?_
    refine x_iconst (i := 0) c_iconst_0 hC (zdk dk_X12_flip 5 rfl) (q := 10) rfl ?_
    refine x_aload_n (i := 0) rfl hC (zdk dk_X12_flip 6 rfl) (q := 11) rfl ?_
    refine x_getI fl_RX12_132 (by decide) h_r0 hC (zdk dk_X12_flip 7 rfl) (q := 14) rfl ?_
    refine x_iconst (i := 1) c_iconst_1 hC (zdk dk_X12_flip 8 rfl) (q := 15) rfl ?_
    refine x_isub hC (zdk dk_X12_flip 9 rfl) (q := 16) rfl ?_
    refine x_callSi (as := [.int x2, .int 0, .int ((zI z3.2 r0 39) - 1)]) cb_RX12_325 rfl (by decide) hk0 (fun x hx => t_X12_is  x hx) hC (zdk dk_X12_flip 10 rfl) (q := 19) rfl rfl (Nat.le_of_ble_eq_true rfl) (fun z4 => ?_)
    refine x_if_ne (tgt := 36) hC (zdk dk_X12_flip 11 rfl) (q := 22) rfl rfl (fun _ => ?_) (fun _ => ?_)
    · refine x_aload_n (i := 0) rfl hC (zdk dk_X12_flip 20 rfl) (q := 37) rfl ?_
      refine x_callVv (as := []) cb_RX12_557 rfl (by decide) hk0 h_r0 (fun x hx => t_X12_keeps h_r0 x hx) hC (zdk dk_X12_flip 21 rfl) (q := 40) rfl rfl (Nat.le_of_ble_eq_true rfl) (fun M5 => ?_)
      refine x_aload_n (i := 0) rfl hC (zdk dk_X12_flip 22 rfl) (q := 41) rfl ?_
      refine x_iconst (i := 0) c_iconst_0 hC (zdk dk_X12_flip 23 rfl) (q := 42) rfl ?_
      refine x_iload_n (i := 1) rfl hC (zdk dk_X12_flip 24 rfl) (q := 43) rfl ?_
      refine x_iload_n (i := 2) rfl hC (zdk dk_X12_flip 25 rfl) (q := 44) rfl ?_
      refine x_bipush (i := 99) c_bipush_99 hC (zdk dk_X12_flip 26 rfl) (q := 46) rfl ?_
      refine x_aload_n (i := 0) rfl hC (zdk dk_X12_flip 27 rfl) (q := 47) rfl ?_
      refine x_iconst (i := 0) c_iconst_0 hC (zdk dk_X12_flip 28 rfl) (q := 48) rfl ?_
      refine x_iload_n (i := 1) rfl hC (zdk dk_X12_flip 29 rfl) (q := 49) rfl ?_
      refine x_iload_n (i := 2) rfl hC (zdk dk_X12_flip 30 rfl) (q := 50) rfl ?_
      refine x_callVi (as := [.int 0, .int x1, .int x2]) cb_RX12_500 rfl (by decide) hk0 h_r0 (fun x hx => t_X12_levelAt h_r0 x hx) hC (zdk dk_X12_flip 31 rfl) (q := 53) rfl rfl (Nat.le_of_ble_eq_true rfl) (fun z6 => ?_)
      refine x_isub hC (zdk dk_X12_flip 32 rfl) (q := 54) rfl ?_
      refine x_callVv (as := [.int 0, .int x1, .int x2, .int (99 - z6.1)]) cb_RX12_522 rfl (by decide) hk0 h_r0 (fun x hx => t_X12_puts h_r0 x hx) hC (zdk dk_X12_flip 33 rfl) (q := 57) rfl rfl (Nat.le_of_ble_eq_true rfl) (fun M7 => ?_)
      refine x_iconst (i := 1) c_iconst_1 hC (zdk dk_X12_flip 34 rfl) (q := 58) rfl ?_
      exact x_iret (ty := .boolean) rfl hE hC (zdk dk_X12_flip 35 rfl)
    · refine x_weak (L' := [.ref r0, .null, .null]) ⟨Or.inr rfl, Or.inl rfl, Or.inl rfl, trivial⟩ ?_
      exact x_X12_flip_22 hC hE hk0 h_r0 _
set_option maxRecDepth 100000 in
set_option maxHeartbeats 4000000 in
theorem t_X12_flip {n : Nat} {r0 : Nat} {x1 : Int32} {x2 : Int32} {M : Mem} (h_r0 : zO n r0 12) (x : (Int32 × Mem)) (hx : f_X12_flip r0 x1 x2 M = some x) (l : Launch) (dC : Nat → ClassId) (dI : Nat → Nat → Nat) (b : zSg) : MT l dC dI b yX12_flip cX12_flip 3 (some .boolean) 2 0 0 n n [.ref r0, .int x1, .int x2] M (emI x).1 (emI x).2 :=
  MT.ofX (by decide +kernel) rfl (Nat.le_of_ble_eq_true rfl) (fun κ hC hF _ => x_X12_flip hC (zEnd_of hF (Nat.le_refl _) (Nat.le_refl _)) (zRk_of hF (Nat.le_refl _) (Nat.le_refl _)) _ _ _ _ h_r0) x hx
set_option maxRecDepth 100000 in
def dt_X12_refresh : List (Nat × Instr × Nat) := [(0, .aload_n 0, 1), (1, .iload_n 1, 1), (2, .invokevirtual 536, 3), (5, .ifCond .eq 12, 3), (8, .aload_n 0, 1), (9, .iconst 0, 1), (10, .iload_n 1, 1), (11, .invokevirtual 519, 3), (14, .ifCond .le 9, 3), (17, .aload_n 0, 1), (18, .iconst 3, 1), (19, .invokevirtual 243, 3), (22, .ireturn, 1), (23, .aload_n 0, 1), (24, .getfield 171, 3), (27, .istore_n 2, 1), (28, .aload_n 0, 1), (29, .getfield 174, 3), (32, .lstore_n 3, 1), (33, .aload_n 0, 1), (34, .invokevirtual 557, 3), (37, .aload_n 0, 1), (38, .iload_n 1, 1), (39, .lload_n 3, 1), (40, .invokevirtual 560, 3), (43, .aload_n 0, 1), (44, .iload_n 1, 1), (45, .iload_n 2, 1), (46, .invokevirtual 564, 3), (49, .iload_n 2, 1), (50, .ireturn, 1)]
set_option maxRecDepth 100000 in
theorem dk_X12_refresh : dt_X12_refresh.all (fun q => decide (decode cX12_refresh q.1 = .ok q.2)) = true := by decide +kernel
set_option maxRecDepth 100000 in
def f_X12_refresh_17  (r0 : Nat) (x1 : Int32)  (M : Mem) : Option (Int32 × Mem) := Option.bind (f_X12_refuses r0 3 M) fun z1 => some (z1.1, z1.2)
set_option maxRecDepth 100000 in
set_option maxHeartbeats 4000000 in
theorem x_X12_refresh_17 {κ : KX} {n : Nat} (hC : CX κ cX12_refresh RX12 5 (some .int) 5) (hE : zEnd κ n (0, 0)) (hk0 : zRk κ (0, 0)) {r0 : Nat} {x1 : Int32} (h_r0 : zO n r0 12) (M : Mem) : X κ 5 emI n (0, 0) 17 [.ref r0, .null, .null, .null, .null] [] M (f_X12_refresh_17 r0 x1 M) := by
  unfold f_X12_refresh_17
  refine x_aload_n (i := 0) rfl hC (zdk dk_X12_refresh 9 rfl) (q := 18) rfl ?_
  refine x_iconst (i := 3) c_iconst_3 hC (zdk dk_X12_refresh 10 rfl) (q := 19) rfl ?_
  refine x_callVi (as := [.int 3]) cb_RX12_243 rfl (by decide) hk0 h_r0 (fun x hx => t_X12_refuses h_r0 x hx) hC (zdk dk_X12_refresh 11 rfl) (q := 22) rfl rfl (Nat.le_of_ble_eq_true rfl) (fun z1 => ?_)
  exact x_iret (ty := .int) rfl hE hC (zdk dk_X12_refresh 12 rfl)
set_option maxRecDepth 100000 in
def f_X12_refresh (r0 : Nat) (x1 : Int32) (M : Mem) : Option (Int32 × Mem) := Option.bind (f_X12_isThere r0 x1 M) fun z2 => (if z2.1 = 0 then f_X12_refresh_17 r0 x1 z2.2 else Option.bind (f_X12_gets r0 0 x1 z2.2) fun z3 => (if z3.1 ≤ 0 then Option.bind (f_X12_keeps r0 z3.2) fun M4 => Option.bind (f_X12_writesWord r0 x1 (zL z3.2 r0 53) M4) fun M5 => Option.bind (f_X12_writesDown r0 x1 (zI z3.2 r0 52) M5) fun M6 => some (zI z3.2 r0 52, M6) else f_X12_refresh_17 r0 x1 z3.2))
set_option maxRecDepth 100000 in
set_option maxHeartbeats 4000000 in
theorem x_X12_refresh {κ : KX} {n : Nat} (hC : CX κ cX12_refresh RX12 5 (some .int) 5) (hE : zEnd κ n (0, 0)) (hk0 : zRk κ (0, 0)) (r0 : Nat) (x1 : Int32) (M : Mem) (h_r0 : zO n r0 12) : X κ 5 emI n (0, 0) 0 [.ref r0, .int x1, .null, .null, .null] [] M (f_X12_refresh r0 x1 M) := by
  unfold f_X12_refresh
  refine x_aload_n (i := 0) rfl hC (zdk dk_X12_refresh 0 rfl) (q := 1) rfl ?_
  refine x_iload_n (i := 1) rfl hC (zdk dk_X12_refresh 1 rfl) (q := 2) rfl ?_
  refine x_callVi (as := [.int x1]) cb_RX12_536 rfl (by decide) hk0 h_r0 (fun x hx => t_X12_isThere h_r0 x hx) hC (zdk dk_X12_refresh 2 rfl) (q := 5) rfl rfl (Nat.le_of_ble_eq_true rfl) (fun z2 => ?_)
  refine x_if_eq (tgt := 17) hC (zdk dk_X12_refresh 3 rfl) (q := 8) rfl rfl (fun _ => ?_) (fun _ => ?_)
  · refine x_weak (L' := [.ref r0, .null, .null, .null, .null]) ⟨Or.inr rfl, Or.inl rfl, Or.inl rfl, Or.inl rfl, Or.inl rfl, trivial⟩ ?_
    exact x_X12_refresh_17 hC hE hk0 h_r0 _
  · refine x_aload_n (i := 0) rfl hC (zdk dk_X12_refresh 4 rfl) (q := 9) rfl ?_
    refine x_iconst (i := 0) c_iconst_0 hC (zdk dk_X12_refresh 5 rfl) (q := 10) rfl ?_
    refine x_iload_n (i := 1) rfl hC (zdk dk_X12_refresh 6 rfl) (q := 11) rfl ?_
    refine x_callVi (as := [.int 0, .int x1]) cb_RX12_519 rfl (by decide) hk0 h_r0 (fun x hx => t_X12_gets h_r0 x hx) hC (zdk dk_X12_refresh 7 rfl) (q := 14) rfl rfl (Nat.le_of_ble_eq_true rfl) (fun z3 => ?_)
    refine x_if_le (tgt := 23) hC (zdk dk_X12_refresh 8 rfl) (q := 17) rfl rfl (fun _ => ?_) (fun _ => ?_)
    · refine x_aload_n (i := 0) rfl hC (zdk dk_X12_refresh 13 rfl) (q := 24) rfl ?_
      refine x_getI fl_RX12_171 (by decide) h_r0 hC (zdk dk_X12_refresh 14 rfl) (q := 27) rfl ?_
      refine x_istore_n (i := 2) (L' := [.ref r0, .int x1, .int (zI z3.2 r0 52), .null, .null]) (by decide) rfl hC (zdk dk_X12_refresh 15 rfl) (q := 28) rfl ?_
      refine x_aload_n (i := 0) rfl hC (zdk dk_X12_refresh 16 rfl) (q := 29) rfl ?_
      refine x_getL fl_RX12_174 h_r0 hC (zdk dk_X12_refresh 17 rfl) (q := 32) rfl ?_
      refine x_lstore_n (i := 3) (L' := [.ref r0, .int x1, .int (zI z3.2 r0 52), .long (zL z3.2 r0 53), .null]) (by decide) rfl hC (zdk dk_X12_refresh 18 rfl) (q := 33) rfl ?_
      refine x_aload_n (i := 0) rfl hC (zdk dk_X12_refresh 19 rfl) (q := 34) rfl ?_
      refine x_callVv (as := []) cb_RX12_557 rfl (by decide) hk0 h_r0 (fun x hx => t_X12_keeps h_r0 x hx) hC (zdk dk_X12_refresh 20 rfl) (q := 37) rfl rfl (Nat.le_of_ble_eq_true rfl) (fun M4 => ?_)
      refine x_aload_n (i := 0) rfl hC (zdk dk_X12_refresh 21 rfl) (q := 38) rfl ?_
      refine x_iload_n (i := 1) rfl hC (zdk dk_X12_refresh 22 rfl) (q := 39) rfl ?_
      refine x_lload_n (i := 3) rfl hC (zdk dk_X12_refresh 23 rfl) (q := 40) rfl ?_
      refine x_callVv (as := [.int x1, .long (zL z3.2 r0 53)]) cb_RX12_560 rfl (by decide) hk0 h_r0 (fun x hx => t_X12_writesWord h_r0 x hx) hC (zdk dk_X12_refresh 24 rfl) (q := 43) rfl rfl (Nat.le_of_ble_eq_true rfl) (fun M5 => ?_)
      refine x_aload_n (i := 0) rfl hC (zdk dk_X12_refresh 25 rfl) (q := 44) rfl ?_
      refine x_iload_n (i := 1) rfl hC (zdk dk_X12_refresh 26 rfl) (q := 45) rfl ?_
      refine x_iload_n (i := 2) rfl hC (zdk dk_X12_refresh 27 rfl) (q := 46) rfl ?_
      refine x_callVv (as := [.int x1, .int (zI z3.2 r0 52)]) cb_RX12_564 rfl (by decide) hk0 h_r0 (fun x hx => t_X12_writesDown h_r0 x hx) hC (zdk dk_X12_refresh 28 rfl) (q := 49) rfl rfl (Nat.le_of_ble_eq_true rfl) (fun M6 => ?_)
      refine x_iload_n (i := 2) rfl hC (zdk dk_X12_refresh 29 rfl) (q := 50) rfl ?_
      exact x_iret (ty := .int) rfl hE hC (zdk dk_X12_refresh 30 rfl)
    · refine x_weak (L' := [.ref r0, .null, .null, .null, .null]) ⟨Or.inr rfl, Or.inl rfl, Or.inl rfl, Or.inl rfl, Or.inl rfl, trivial⟩ ?_
      exact x_X12_refresh_17 hC hE hk0 h_r0 _
set_option maxRecDepth 100000 in
set_option maxHeartbeats 4000000 in
theorem t_X12_refresh {n : Nat} {r0 : Nat} {x1 : Int32} {M : Mem} (h_r0 : zO n r0 12) (x : (Int32 × Mem)) (hx : f_X12_refresh r0 x1 M = some x) (l : Launch) (dC : Nat → ClassId) (dI : Nat → Nat → Nat) (b : zSg) : MT l dC dI b yX12_refresh cX12_refresh 5 (some .int) 5 0 0 n n [.ref r0, .int x1] M (emI x).1 (emI x).2 :=
  MT.ofX (by decide +kernel) rfl (Nat.le_of_ble_eq_true rfl) (fun κ hC hF _ => x_X12_refresh hC (zEnd_of hF (Nat.le_refl _) (Nat.le_refl _)) (zRk_of hF (Nat.le_refl _) (Nat.le_refl _)) _ _ _ h_r0) x hx
set_option maxRecDepth 100000 in
def dt_X12_days : List (Nat × Instr × Nat) := [(0, .aload_n 0, 1), (1, .iload_n 1, 1), (2, .iconst 1, 1), (3, .bipush 40, 2), (5, .invokevirtual 539, 3), (8, .ifCond .ne 9, 3), (11, .aload_n 0, 1), (12, .iconst 2, 1), (13, .invokevirtual 243, 3), (16, .ireturn, 1), (17, .aload_n 0, 1), (18, .invokevirtual 557, 3), (21, .iconst 0, 1), (22, .istore_n 2, 1), (23, .iload_n 2, 1), (24, .iload_n 1, 1), (25, .if_icmp .ge 14, 3), (28, .aload_n 0, 1), (29, .iconst 0, 1), (30, .invokevirtual 542, 3), (33, .iinc 2 1, 3), (36, .goto (-13), 3), (39, .aload_n 0, 1), (40, .invokevirtual 567, 3), (43, .ireturn, 1)]
set_option maxRecDepth 100000 in
theorem dk_X12_days : dt_X12_days.all (fun q => decide (decode cX12_days q.1 = .ok q.2)) = true := by decide +kernel
set_option maxRecDepth 100000 in
def f_X12_days_23  (r0 : Nat) (x1 : Int32) : Nat → Int32 → Mem → Option (Int32 × Mem)
  | 0, _, _ => none
  | f + 1, x2, M => (if x1 ≤ x2 then Option.bind (f_X12_trueOnes r0 M) fun z1 => some (z1.1, z1.2) else Option.bind (f_X12_passes r0 0 M) fun M2 => (f_X12_days_23 r0 x1 f) (x2 + 1) M2)
set_option maxRecDepth 100000 in
set_option maxHeartbeats 4000000 in
theorem x_X12_days_23 {κ : KX} {n : Nat} (hC : CX κ cX12_days RX12 3 (some .int) 7) (hE : zEnd κ n (0, 0)) (hk0 : zRk κ (0, 0)) {r0 : Nat} {x1 : Int32} (h_r0 : zO n r0 12) : ∀ (f : Nat) (x2 : Int32) (M : Mem), X κ 3 emI n (0, 0) 23 [.ref r0, .int x1, .int x2] [] M (f_X12_days_23 r0 x1 f x2 M) := by
  intro f
  induction f with
  | zero => intros; exact x_none
  | succ f ih =>
    intro x2 M 
    rw [f_X12_days_23]
    refine x_iload_n (i := 2) rfl hC (zdk dk_X12_days 14 rfl) (q := 24) rfl ?_
    refine x_iload_n (i := 1) rfl hC (zdk dk_X12_days 15 rfl) (q := 25) rfl ?_
    refine x_icmp_ge (tgt := 39) hC (zdk dk_X12_days 16 rfl) (q := 28) rfl rfl (fun _ => ?_) (fun _ => ?_)
    · refine x_aload_n (i := 0) rfl hC (zdk dk_X12_days 22 rfl) (q := 40) rfl ?_
      refine x_callVi (as := []) cb_RX12_567 rfl (by decide) hk0 h_r0 (fun x hx => t_X12_trueOnes h_r0 x hx) hC (zdk dk_X12_days 23 rfl) (q := 43) rfl rfl (Nat.le_of_ble_eq_true rfl) (fun z1 => ?_)
      exact x_iret (ty := .int) rfl hE hC (zdk dk_X12_days 24 rfl)
    · refine x_aload_n (i := 0) rfl hC (zdk dk_X12_days 17 rfl) (q := 29) rfl ?_
      refine x_iconst (i := 0) c_iconst_0 hC (zdk dk_X12_days 18 rfl) (q := 30) rfl ?_
      refine x_callVv (as := [.int 0]) cb_RX12_542 rfl (by decide) hk0 h_r0 (fun x hx => t_X12_passes h_r0 x hx) hC (zdk dk_X12_days 19 rfl) (q := 33) rfl rfl (Nat.le_of_ble_eq_true rfl) (fun M2 => ?_)
      refine x_iinc (i := 2) c_iconst_1 rfl (by decide) (L' := [.ref r0, .int x1, .int (x2 + 1)]) rfl hC (zdk dk_X12_days 20 rfl) (q := 36) rfl ?_
      refine x_goto (tgt := 23) hC (zdk dk_X12_days 21 rfl) rfl ?_
      refine x_weak (L' := [.ref r0, .int x1, .int (x2 + 1)]) ⟨Or.inr rfl, Or.inr rfl, Or.inr rfl, trivial⟩ ?_
      exact ih _ _
set_option maxRecDepth 100000 in
def f_X12_days (r0 : Nat) (x1 : Int32) (M : Mem) : Option (Int32 × Mem) := Option.bind (f_X12_isAhead r0 x1 1 40 M) fun z3 => (if z3.1 = 0 then Option.bind (f_X12_refuses r0 2 z3.2) fun z5 => some (z5.1, z5.2) else Option.bind (f_X12_keeps r0 z3.2) fun M4 => f_X12_days_23 r0 x1 1000000 0 M4)
set_option maxRecDepth 100000 in
set_option maxHeartbeats 4000000 in
theorem x_X12_days {κ : KX} {n : Nat} (hC : CX κ cX12_days RX12 3 (some .int) 7) (hE : zEnd κ n (0, 0)) (hk0 : zRk κ (0, 0)) (r0 : Nat) (x1 : Int32) (M : Mem) (h_r0 : zO n r0 12) : X κ 3 emI n (0, 0) 0 [.ref r0, .int x1, .null] [] M (f_X12_days r0 x1 M) := by
  unfold f_X12_days
  refine x_aload_n (i := 0) rfl hC (zdk dk_X12_days 0 rfl) (q := 1) rfl ?_
  refine x_iload_n (i := 1) rfl hC (zdk dk_X12_days 1 rfl) (q := 2) rfl ?_
  refine x_iconst (i := 1) c_iconst_1 hC (zdk dk_X12_days 2 rfl) (q := 3) rfl ?_
  refine x_bipush (i := 40) c_bipush_40 hC (zdk dk_X12_days 3 rfl) (q := 5) rfl ?_
  refine x_callVi (as := [.int x1, .int 1, .int 40]) cb_RX12_539 rfl (by decide) hk0 h_r0 (fun x hx => t_X12_isAhead h_r0 x hx) hC (zdk dk_X12_days 4 rfl) (q := 8) rfl rfl (Nat.le_of_ble_eq_true rfl) (fun z3 => ?_)
  refine x_if_ne (tgt := 17) hC (zdk dk_X12_days 5 rfl) (q := 11) rfl rfl (fun _ => ?_) (fun _ => ?_)
  · refine x_aload_n (i := 0) rfl hC (zdk dk_X12_days 10 rfl) (q := 18) rfl ?_
    refine x_callVv (as := []) cb_RX12_557 rfl (by decide) hk0 h_r0 (fun x hx => t_X12_keeps h_r0 x hx) hC (zdk dk_X12_days 11 rfl) (q := 21) rfl rfl (Nat.le_of_ble_eq_true rfl) (fun M4 => ?_)
    refine x_iconst (i := 0) c_iconst_0 hC (zdk dk_X12_days 12 rfl) (q := 22) rfl ?_
    refine x_istore_n (i := 2) (L' := [.ref r0, .int x1, .int 0]) (by decide) rfl hC (zdk dk_X12_days 13 rfl) (q := 23) rfl ?_
    refine x_weak (L' := [.ref r0, .int x1, .int 0]) ⟨Or.inr rfl, Or.inr rfl, Or.inr rfl, trivial⟩ ?_
    exact x_X12_days_23 hC hE hk0 h_r0 _ _ _
  · refine x_aload_n (i := 0) rfl hC (zdk dk_X12_days 6 rfl) (q := 12) rfl ?_
    refine x_iconst (i := 2) c_iconst_2 hC (zdk dk_X12_days 7 rfl) (q := 13) rfl ?_
    refine x_callVi (as := [.int 2]) cb_RX12_243 rfl (by decide) hk0 h_r0 (fun x hx => t_X12_refuses h_r0 x hx) hC (zdk dk_X12_days 8 rfl) (q := 16) rfl rfl (Nat.le_of_ble_eq_true rfl) (fun z5 => ?_)
    exact x_iret (ty := .int) rfl hE hC (zdk dk_X12_days 9 rfl)
set_option maxRecDepth 100000 in
set_option maxHeartbeats 4000000 in
theorem t_X12_days {n : Nat} {r0 : Nat} {x1 : Int32} {M : Mem} (h_r0 : zO n r0 12) (x : (Int32 × Mem)) (hx : f_X12_days r0 x1 M = some x) (l : Launch) (dC : Nat → ClassId) (dI : Nat → Nat → Nat) (b : zSg) : MT l dC dI b yX12_days cX12_days 3 (some .int) 7 0 0 n n [.ref r0, .int x1] M (emI x).1 (emI x).2 :=
  MT.ofX (by decide +kernel) rfl (Nat.le_of_ble_eq_true rfl) (fun κ hC hF _ => x_X12_days hC (zEnd_of hF (Nat.le_refl _) (Nat.le_refl _)) (zRk_of hF (Nat.le_refl _) (Nat.le_refl _)) _ _ _ h_r0) x hx
set_option maxRecDepth 100000 in
def dt_X12_draw : List (Nat × Instr × Nat) := [(0, .aload_n 0, 1), (1, .ldc2_w 571, 3), (4, .aload_n 0, 1), (5, .getfield 207, 3), (8, .lmul, 1), (9, .ldc2_w 573, 3), (12, .ladd, 1), (13, .ldc2_w 575, 3), (16, .lrem, 1), (17, .putfield 207, 3), (20, .aload_n 0, 1), (21, .getfield 207, 3), (24, .ldc2_w 577, 3), (27, .ldiv, 1), (28, .iload_n 1, 1), (29, .i2l, 1), (30, .lrem, 1), (31, .l2i, 1), (32, .ireturn, 1)]
set_option maxRecDepth 100000 in
theorem dk_X12_draw : dt_X12_draw.all (fun q => decide (decode cX12_draw q.1 = .ok q.2)) = true := by decide +kernel
set_option maxRecDepth 100000 in
def f_X12_draw (r0 : Nat) (x1 : Int32) (M : Mem) : Option (Int32 × Mem) := Option.bind (some (zsL M r0 64 (zlrem ((1103515245 * (zL M r0 64)) + 12345) 2147483648))) fun M1 => if x1.toInt64 = 0 then none else some ((zlrem ((zL M1 r0 64) / 64) x1.toInt64).toInt32, M1)
set_option maxRecDepth 100000 in
set_option maxHeartbeats 4000000 in
theorem x_X12_draw {κ : KX} {n : Nat} (hC : CX κ cX12_draw RX12 2 (some .int) 0) (hE : zEnd κ n (0, 0)) (hk0 : zRk κ (0, 0)) (r0 : Nat) (x1 : Int32) (M : Mem) (h_r0 : zO n r0 12) : X κ 2 emI n (0, 0) 0 [.ref r0, .int x1] [] M (f_X12_draw r0 x1 M) := by
  unfold f_X12_draw
  refine x_aload_n (i := 0) rfl hC (zdk dk_X12_draw 0 rfl) (q := 1) rfl ?_
  refine x_ldc2 k_RX12_571 hC (zdk dk_X12_draw 1 rfl) (q := 4) rfl ?_
  refine x_aload_n (i := 0) rfl hC (zdk dk_X12_draw 2 rfl) (q := 5) rfl ?_
  refine x_getL fl_RX12_207 h_r0 hC (zdk dk_X12_draw 3 rfl) (q := 8) rfl ?_
  refine x_lmul hC (zdk dk_X12_draw 4 rfl) (q := 9) rfl ?_
  refine x_ldc2 k_RX12_573 hC (zdk dk_X12_draw 5 rfl) (q := 12) rfl ?_
  refine x_ladd hC (zdk dk_X12_draw 6 rfl) (q := 13) rfl ?_
  refine x_ldc2 k_RX12_575 hC (zdk dk_X12_draw 7 rfl) (q := 16) rfl ?_
  refine x_lrem (by decide) hC (zdk dk_X12_draw 8 rfl) (q := 17) rfl ?_
  refine x_putL fl_RX12_207 ⟨rfl, rfl⟩ (Or.inl rfl) h_r0 hC (zdk dk_X12_draw 9 rfl) (q := 20) rfl ?_
  refine x_nmM (fun M1 => ?_)
  refine x_aload_n (i := 0) rfl hC (zdk dk_X12_draw 10 rfl) (q := 21) rfl ?_
  refine x_getL fl_RX12_207 h_r0 hC (zdk dk_X12_draw 11 rfl) (q := 24) rfl ?_
  refine x_ldc2 k_RX12_577 hC (zdk dk_X12_draw 12 rfl) (q := 27) rfl ?_
  refine x_ldiv (by decide) hC (zdk dk_X12_draw 13 rfl) (q := 28) rfl ?_
  refine x_iload_n (i := 1) rfl hC (zdk dk_X12_draw 14 rfl) (q := 29) rfl ?_
  refine x_i2l hC (zdk dk_X12_draw 15 rfl) (q := 30) rfl ?_
  refine x_lremG hC (zdk dk_X12_draw 16 rfl) (q := 31) rfl ?_
  refine x_l2i hC (zdk dk_X12_draw 17 rfl) (q := 32) rfl ?_
  exact x_iret (ty := .int) rfl hE hC (zdk dk_X12_draw 18 rfl)
set_option maxRecDepth 100000 in
set_option maxHeartbeats 4000000 in
theorem t_X12_draw {n : Nat} {r0 : Nat} {x1 : Int32} {M : Mem} (h_r0 : zO n r0 12) (x : (Int32 × Mem)) (hx : f_X12_draw r0 x1 M = some x) (l : Launch) (dC : Nat → ClassId) (dI : Nat → Nat → Nat) (b : zSg) : MT l dC dI b yX12_draw cX12_draw 2 (some .int) 0 0 0 n n [.ref r0, .int x1] M (emI x).1 (emI x).2 :=
  MT.ofX (by decide +kernel) rfl (Nat.le_of_ble_eq_true rfl) (fun κ hC hF _ => x_X12_draw hC (zEnd_of hF (Nat.le_refl _) (Nat.le_refl _)) (zRk_of hF (Nat.le_refl _) (Nat.le_refl _)) _ _ _ h_r0) x hx
set_option maxRecDepth 100000 in
def dt_X12_chance : List (Nat × Instr × Nat) := [(0, .aload_n 0, 1), (1, .iload_n 1, 1), (2, .iconst 1, 1), (3, .bipush 40, 2), (5, .invokevirtual 539, 3), (8, .ifCond .ne 9, 3), (11, .aload_n 0, 1), (12, .iconst 2, 1), (13, .invokevirtual 243, 3), (16, .ireturn, 1), (17, .aload_n 0, 1), (18, .invokevirtual 557, 3), (21, .iconst 0, 1), (22, .istore_n 2, 1), (23, .iconst 0, 1), (24, .istore_n 3, 1), (25, .iload_n 3, 1), (26, .iload_n 1, 1), (27, .if_icmp .ge 99, 3), (30, .aload_n 0, 1), (31, .iconst 0, 1), (32, .invokevirtual 542, 3), (35, .iconst 0, 1), (36, .istore 4, 2), (38, .iload 4, 2), (40, .aload_n 0, 1), (41, .getfield 57, 3), (44, .aload_n 0, 1), (45, .getfield 51, 3), (48, .iaload, 1), (49, .if_icmp .ge 71, 3), (52, .aload_n 0, 1), (53, .getfield 183, 3), (56, .iload 4, 2), (58, .iaload, 1), (59, .ifCond .eq 55, 3), (62, .aload_n 0, 1), (63, .bipush 100, 2), (65, .invokevirtual 579, 3), (68, .aload_n 0, 1), (69, .bipush 8, 2), (71, .invokevirtual 428, 3), (74, .if_icmp .lt 6, 3), (77, .goto 37, 3), (80, .aload_n 0, 1), (81, .aload_n 0, 1), (82, .getfield 132, 3), (85, .invokevirtual 579, 3), (88, .istore 5, 2), (90, .aload_n 0, 1), (91, .iconst 0, 1), (92, .iload 4, 2), (94, .iload 5, 2), (96, .bipush 99, 2), (98, .aload_n 0, 1), (99, .iconst 0, 1), (100, .iload 4, 2), (102, .iload 5, 2), (104, .invokevirtual 500, 3), (107, .isub, 1), (108, .invokevirtual 522, 3), (111, .iinc 2 1, 3), (114, .iinc 4 1, 3), (117, .goto (-79), 3), (120, .iinc 3 1, 3), (123, .goto (-98), 3), (126, .iload_n 2, 1), (127, .ireturn, 1)]
set_option maxRecDepth 100000 in
theorem dk_X12_chance : dt_X12_chance.all (fun q => decide (decode cX12_chance q.1 = .ok q.2)) = true := by decide +kernel
set_option maxRecDepth 100000 in
def f_X12_chance_114 (k25 : Int32 → Int32 → Mem → Option (Int32 × Mem)) (k38 : Int32 → Int32 → Int32 → Mem → Option (Int32 × Mem)) (r0 : Nat) (x1 : Int32) (x2 : Int32) (x3 : Int32) (x4 : Int32) (M : Mem) : Option (Int32 × Mem) := k38 x2 x3 (x4 + 1) M
set_option maxRecDepth 100000 in
set_option maxHeartbeats 4000000 in
theorem x_X12_chance_114 {κ : KX} {n : Nat} (hC : CX κ cX12_chance RX12 6 (some .int) 5) (hE : zEnd κ n (0, 0)) (hk0 : zRk κ (0, 0)) {r0 : Nat} {x1 : Int32} (h_r0 : zO n r0 12) (k25 : Int32 → Int32 → Mem → Option (Int32 × Mem)) (hk25 : ∀ (x2 : Int32) (x3 : Int32) (M : Mem), X κ 6 emI n (0, 0) 25 [.ref r0, .int x1, .int x2, .int x3, .null, .null] [] M (k25 x2 x3 M)) (k38 : Int32 → Int32 → Int32 → Mem → Option (Int32 × Mem)) (hk38 : ∀ (x2 : Int32) (x3 : Int32) (x4 : Int32) (M : Mem), X κ 6 emI n (0, 0) 38 [.ref r0, .int x1, .int x2, .int x3, .int x4, .null] [] M (k38 x2 x3 x4 M)) (x2 : Int32) (x3 : Int32) (x4 : Int32) (M : Mem) : X κ 6 emI n (0, 0) 114 [.ref r0, .int x1, .int x2, .int x3, .int x4, .null] [] M (f_X12_chance_114 k25 k38 r0 x1 x2 x3 x4 M) := by
  unfold f_X12_chance_114
  refine x_iinc (i := 4) c_iconst_1 rfl (by decide) (L' := [.ref r0, .int x1, .int x2, .int x3, .int (x4 + 1), .null]) rfl hC (zdk dk_X12_chance 62 rfl) (q := 117) rfl ?_
  refine x_goto (tgt := 38) hC (zdk dk_X12_chance 63 rfl) rfl ?_
  refine x_weak (L' := [.ref r0, .int x1, .int x2, .int x3, .int (x4 + 1), .null]) ⟨Or.inr rfl, Or.inr rfl, Or.inr rfl, Or.inr rfl, Or.inr rfl, Or.inl rfl, trivial⟩ ?_
  exact hk38 _ _ _ _
set_option maxRecDepth 100000 in
def f_X12_chance_38 (k25 : Int32 → Int32 → Mem → Option (Int32 × Mem)) (r0 : Nat) (x1 : Int32) : Nat → Int32 → Int32 → Int32 → Mem → Option (Int32 × Mem)
  | 0, _, _, _, _ => none
  | f + 1, x2, x3, x4, M => Option.bind (zrf M r0 15) fun q1 => Option.bind (zld q1 (zI M r0 13)) fun k2 => (if zI M q1 k2 ≤ x4 then k25 x2 (x3 + 1) M else Option.bind (zrf M r0 56) fun q3 => Option.bind (zld q3 x4) fun k4 => (if zI M q3 k4 = 0 then f_X12_chance_114 k25 (f_X12_chance_38 k25 r0 x1 f) r0 x1 x2 x3 x4 M else Option.bind (f_X12_draw r0 100 M) fun z5 => Option.bind (f_X12_by r0 8 z5.2) fun z6 => (if z5.1 < z6.1 then Option.bind (f_X12_draw r0 (zI z6.2 r0 39) z6.2) fun z7 => Option.bind (f_X12_levelAt r0 0 x4 z7.1 z7.2) fun z8 => Option.bind (f_X12_puts r0 0 x4 z7.1 (99 - z8.1) z8.2) fun M9 => f_X12_chance_114 k25 (f_X12_chance_38 k25 r0 x1 f) r0 x1 (x2 + 1) x3 x4 M9 else f_X12_chance_114 k25 (f_X12_chance_38 k25 r0 x1 f) r0 x1 x2 x3 x4 z6.2)))
set_option maxRecDepth 100000 in
set_option maxHeartbeats 4000000 in
theorem x_X12_chance_38 {κ : KX} {n : Nat} (hC : CX κ cX12_chance RX12 6 (some .int) 5) (hE : zEnd κ n (0, 0)) (hk0 : zRk κ (0, 0)) {r0 : Nat} {x1 : Int32} (h_r0 : zO n r0 12) (k25 : Int32 → Int32 → Mem → Option (Int32 × Mem)) (hk25 : ∀ (x2 : Int32) (x3 : Int32) (M : Mem), X κ 6 emI n (0, 0) 25 [.ref r0, .int x1, .int x2, .int x3, .null, .null] [] M (k25 x2 x3 M)) : ∀ (f : Nat) (x2 : Int32) (x3 : Int32) (x4 : Int32) (M : Mem), X κ 6 emI n (0, 0) 38 [.ref r0, .int x1, .int x2, .int x3, .int x4, .null] [] M (f_X12_chance_38 k25 r0 x1 f x2 x3 x4 M) := by
  intro f
  induction f with
  | zero => intros; exact x_none
  | succ f ih =>
    intro x2 x3 x4 M 
    rw [f_X12_chance_38]
    refine x_iload (i := 4) rfl hC (zdk dk_X12_chance 24 rfl) (q := 40) rfl ?_
    refine x_aload_n (i := 0) rfl hC (zdk dk_X12_chance 25 rfl) (q := 41) rfl ?_
    refine x_getR (k := 20) fl_RX12_57 rfl h_r0 hC (zdk dk_X12_chance 26 rfl) (q := 44) rfl (fun q1 hq1 => ?_)
    refine x_aload_n (i := 0) rfl hC (zdk dk_X12_chance 27 rfl) (q := 45) rfl ?_
    refine x_getI fl_RX12_51 (by decide) h_r0 hC (zdk dk_X12_chance 28 rfl) (q := 48) rfl ?_
    refine x_iald hq1 hC (zdk dk_X12_chance 29 rfl) (q := 49) rfl (fun k2 _ => ?_)
    refine x_icmp_ge (tgt := 120) hC (zdk dk_X12_chance 30 rfl) (q := 52) rfl rfl (fun _ => ?_) (fun _ => ?_)
    · refine x_iinc (i := 3) c_iconst_1 rfl (by decide) (L' := [.ref r0, .int x1, .int x2, .int (x3 + 1), .int x4, .null]) rfl hC (zdk dk_X12_chance 64 rfl) (q := 123) rfl ?_
      refine x_goto (tgt := 25) hC (zdk dk_X12_chance 65 rfl) rfl ?_
      refine x_weak (L' := [.ref r0, .int x1, .int x2, .int (x3 + 1), .null, .null]) ⟨Or.inr rfl, Or.inr rfl, Or.inr rfl, Or.inr rfl, Or.inl rfl, Or.inl rfl, trivial⟩ ?_
      exact hk25 _ _ _
    · refine x_aload_n (i := 0) rfl hC (zdk dk_X12_chance 31 rfl) (q := 53) rfl ?_
      refine x_getR (k := 20) fl_RX12_183 rfl h_r0 hC (zdk dk_X12_chance 32 rfl) (q := 56) rfl (fun q3 hq3 => ?_)
      refine x_iload (i := 4) rfl hC (zdk dk_X12_chance 33 rfl) (q := 58) rfl ?_
      refine x_iald hq3 hC (zdk dk_X12_chance 34 rfl) (q := 59) rfl (fun k4 _ => ?_)
      refine x_if_eq (tgt := 114) hC (zdk dk_X12_chance 35 rfl) (q := 62) rfl rfl (fun _ => ?_) (fun _ => ?_)
      · refine x_weak (L' := [.ref r0, .int x1, .int x2, .int x3, .int x4, .null]) ⟨Or.inr rfl, Or.inr rfl, Or.inr rfl, Or.inr rfl, Or.inr rfl, Or.inl rfl, trivial⟩ ?_
        exact x_X12_chance_114 hC hE hk0 h_r0 k25 hk25 (f_X12_chance_38 k25 r0 x1 f) ih _ _ _ _
      · refine x_aload_n (i := 0) rfl hC (zdk dk_X12_chance 36 rfl) (q := 63) rfl ?_
        refine x_bipush (i := 100) c_bipush_100 hC (zdk dk_X12_chance 37 rfl) (q := 65) rfl ?_
        refine x_callVi (as := [.int 100]) cb_RX12_579 rfl (by decide) hk0 h_r0 (fun x hx => t_X12_draw h_r0 x hx) hC (zdk dk_X12_chance 38 rfl) (q := 68) rfl rfl (Nat.le_of_ble_eq_true rfl) (fun z5 => ?_)
        refine x_aload_n (i := 0) rfl hC (zdk dk_X12_chance 39 rfl) (q := 69) rfl ?_
        refine x_bipush (i := 8) c_bipush_8 hC (zdk dk_X12_chance 40 rfl) (q := 71) rfl ?_
        refine x_callVi (as := [.int 8]) cb_RX12_428 rfl (by decide) hk0 h_r0 (fun x hx => t_X12_by h_r0 x hx) hC (zdk dk_X12_chance 41 rfl) (q := 74) rfl rfl (Nat.le_of_ble_eq_true rfl) (fun z6 => ?_)
        refine x_icmp_lt (tgt := 80) hC (zdk dk_X12_chance 42 rfl) (q := 77) rfl rfl (fun _ => ?_) (fun _ => ?_)
        · refine x_aload_n (i := 0) rfl hC (zdk dk_X12_chance 44 rfl) (q := 81) rfl ?_
          refine x_aload_n (i := 0) rfl hC (zdk dk_X12_chance 45 rfl) (q := 82) rfl ?_
          refine x_getI fl_RX12_132 (by decide) h_r0 hC (zdk dk_X12_chance 46 rfl) (q := 85) rfl ?_
          refine x_callVi (as := [.int (zI z6.2 r0 39)]) cb_RX12_579 rfl (by decide) hk0 h_r0 (fun x hx => t_X12_draw h_r0 x hx) hC (zdk dk_X12_chance 47 rfl) (q := 88) rfl rfl (Nat.le_of_ble_eq_true rfl) (fun z7 => ?_)
          refine x_istore (i := 5) (L' := [.ref r0, .int x1, .int x2, .int x3, .int x4, .int z7.1]) (by decide) rfl hC (zdk dk_X12_chance 48 rfl) (q := 90) rfl ?_
          refine x_aload_n (i := 0) rfl hC (zdk dk_X12_chance 49 rfl) (q := 91) rfl ?_
          refine x_iconst (i := 0) c_iconst_0 hC (zdk dk_X12_chance 50 rfl) (q := 92) rfl ?_
          refine x_iload (i := 4) rfl hC (zdk dk_X12_chance 51 rfl) (q := 94) rfl ?_
          refine x_iload (i := 5) rfl hC (zdk dk_X12_chance 52 rfl) (q := 96) rfl ?_
          refine x_bipush (i := 99) c_bipush_99 hC (zdk dk_X12_chance 53 rfl) (q := 98) rfl ?_
          refine x_aload_n (i := 0) rfl hC (zdk dk_X12_chance 54 rfl) (q := 99) rfl ?_
          refine x_iconst (i := 0) c_iconst_0 hC (zdk dk_X12_chance 55 rfl) (q := 100) rfl ?_
          refine x_iload (i := 4) rfl hC (zdk dk_X12_chance 56 rfl) (q := 102) rfl ?_
          refine x_iload (i := 5) rfl hC (zdk dk_X12_chance 57 rfl) (q := 104) rfl ?_
          refine x_callVi (as := [.int 0, .int x4, .int z7.1]) cb_RX12_500 rfl (by decide) hk0 h_r0 (fun x hx => t_X12_levelAt h_r0 x hx) hC (zdk dk_X12_chance 58 rfl) (q := 107) rfl rfl (Nat.le_of_ble_eq_true rfl) (fun z8 => ?_)
          refine x_isub hC (zdk dk_X12_chance 59 rfl) (q := 108) rfl ?_
          refine x_callVv (as := [.int 0, .int x4, .int z7.1, .int (99 - z8.1)]) cb_RX12_522 rfl (by decide) hk0 h_r0 (fun x hx => t_X12_puts h_r0 x hx) hC (zdk dk_X12_chance 60 rfl) (q := 111) rfl rfl (Nat.le_of_ble_eq_true rfl) (fun M9 => ?_)
          refine x_iinc (i := 2) c_iconst_1 rfl (by decide) (L' := [.ref r0, .int x1, .int (x2 + 1), .int x3, .int x4, .int z7.1]) rfl hC (zdk dk_X12_chance 61 rfl) (q := 114) rfl ?_
          refine x_weak (L' := [.ref r0, .int x1, .int (x2 + 1), .int x3, .int x4, .null]) ⟨Or.inr rfl, Or.inr rfl, Or.inr rfl, Or.inr rfl, Or.inr rfl, Or.inl rfl, trivial⟩ ?_
          exact x_X12_chance_114 hC hE hk0 h_r0 k25 hk25 (f_X12_chance_38 k25 r0 x1 f) ih _ _ _ _
        · refine x_goto (tgt := 114) hC (zdk dk_X12_chance 43 rfl) rfl ?_
          refine x_weak (L' := [.ref r0, .int x1, .int x2, .int x3, .int x4, .null]) ⟨Or.inr rfl, Or.inr rfl, Or.inr rfl, Or.inr rfl, Or.inr rfl, Or.inl rfl, trivial⟩ ?_
          exact x_X12_chance_114 hC hE hk0 h_r0 k25 hk25 (f_X12_chance_38 k25 r0 x1 f) ih _ _ _ _
set_option maxRecDepth 100000 in
def f_X12_chance_25  (r0 : Nat) (x1 : Int32) : Nat → Int32 → Int32 → Mem → Option (Int32 × Mem)
  | 0, _, _, _ => none
  | f + 1, x2, x3, M => (if x1 ≤ x3 then some (x2, M) else Option.bind (f_X12_passes r0 0 M) fun M10 => f_X12_chance_38 (f_X12_chance_25 r0 x1 f) r0 x1 1000000 x2 x3 0 M10)
set_option maxRecDepth 100000 in
set_option maxHeartbeats 4000000 in
theorem x_X12_chance_25 {κ : KX} {n : Nat} (hC : CX κ cX12_chance RX12 6 (some .int) 5) (hE : zEnd κ n (0, 0)) (hk0 : zRk κ (0, 0)) {r0 : Nat} {x1 : Int32} (h_r0 : zO n r0 12) : ∀ (f : Nat) (x2 : Int32) (x3 : Int32) (M : Mem), X κ 6 emI n (0, 0) 25 [.ref r0, .int x1, .int x2, .int x3, .null, .null] [] M (f_X12_chance_25 r0 x1 f x2 x3 M) := by
  intro f
  induction f with
  | zero => intros; exact x_none
  | succ f ih =>
    intro x2 x3 M 
    rw [f_X12_chance_25]
    refine x_iload_n (i := 3) rfl hC (zdk dk_X12_chance 16 rfl) (q := 26) rfl ?_
    refine x_iload_n (i := 1) rfl hC (zdk dk_X12_chance 17 rfl) (q := 27) rfl ?_
    refine x_icmp_ge (tgt := 126) hC (zdk dk_X12_chance 18 rfl) (q := 30) rfl rfl (fun _ => ?_) (fun _ => ?_)
    · refine x_iload_n (i := 2) rfl hC (zdk dk_X12_chance 66 rfl) (q := 127) rfl ?_
      exact x_iret (ty := .int) rfl hE hC (zdk dk_X12_chance 67 rfl)
    · refine x_aload_n (i := 0) rfl hC (zdk dk_X12_chance 19 rfl) (q := 31) rfl ?_
      refine x_iconst (i := 0) c_iconst_0 hC (zdk dk_X12_chance 20 rfl) (q := 32) rfl ?_
      refine x_callVv (as := [.int 0]) cb_RX12_542 rfl (by decide) hk0 h_r0 (fun x hx => t_X12_passes h_r0 x hx) hC (zdk dk_X12_chance 21 rfl) (q := 35) rfl rfl (Nat.le_of_ble_eq_true rfl) (fun M10 => ?_)
      refine x_iconst (i := 0) c_iconst_0 hC (zdk dk_X12_chance 22 rfl) (q := 36) rfl ?_
      refine x_istore (i := 4) (L' := [.ref r0, .int x1, .int x2, .int x3, .int 0, .null]) (by decide) rfl hC (zdk dk_X12_chance 23 rfl) (q := 38) rfl ?_
      refine x_weak (L' := [.ref r0, .int x1, .int x2, .int x3, .int 0, .null]) ⟨Or.inr rfl, Or.inr rfl, Or.inr rfl, Or.inr rfl, Or.inr rfl, Or.inl rfl, trivial⟩ ?_
      exact x_X12_chance_38 hC hE hk0 h_r0 (f_X12_chance_25 r0 x1 f) ih _ _ _ _ _
set_option maxRecDepth 100000 in
def f_X12_chance (r0 : Nat) (x1 : Int32) (M : Mem) : Option (Int32 × Mem) := Option.bind (f_X12_isAhead r0 x1 1 40 M) fun z11 => (if z11.1 = 0 then Option.bind (f_X12_refuses r0 2 z11.2) fun z13 => some (z13.1, z13.2) else Option.bind (f_X12_keeps r0 z11.2) fun M12 => f_X12_chance_25 r0 x1 1000000 0 0 M12)
set_option maxRecDepth 100000 in
set_option maxHeartbeats 4000000 in
theorem x_X12_chance {κ : KX} {n : Nat} (hC : CX κ cX12_chance RX12 6 (some .int) 5) (hE : zEnd κ n (0, 0)) (hk0 : zRk κ (0, 0)) (r0 : Nat) (x1 : Int32) (M : Mem) (h_r0 : zO n r0 12) : X κ 6 emI n (0, 0) 0 [.ref r0, .int x1, .null, .null, .null, .null] [] M (f_X12_chance r0 x1 M) := by
  unfold f_X12_chance
  refine x_aload_n (i := 0) rfl hC (zdk dk_X12_chance 0 rfl) (q := 1) rfl ?_
  refine x_iload_n (i := 1) rfl hC (zdk dk_X12_chance 1 rfl) (q := 2) rfl ?_
  refine x_iconst (i := 1) c_iconst_1 hC (zdk dk_X12_chance 2 rfl) (q := 3) rfl ?_
  refine x_bipush (i := 40) c_bipush_40 hC (zdk dk_X12_chance 3 rfl) (q := 5) rfl ?_
  refine x_callVi (as := [.int x1, .int 1, .int 40]) cb_RX12_539 rfl (by decide) hk0 h_r0 (fun x hx => t_X12_isAhead h_r0 x hx) hC (zdk dk_X12_chance 4 rfl) (q := 8) rfl rfl (Nat.le_of_ble_eq_true rfl) (fun z11 => ?_)
  refine x_if_ne (tgt := 17) hC (zdk dk_X12_chance 5 rfl) (q := 11) rfl rfl (fun _ => ?_) (fun _ => ?_)
  · refine x_aload_n (i := 0) rfl hC (zdk dk_X12_chance 10 rfl) (q := 18) rfl ?_
    refine x_callVv (as := []) cb_RX12_557 rfl (by decide) hk0 h_r0 (fun x hx => t_X12_keeps h_r0 x hx) hC (zdk dk_X12_chance 11 rfl) (q := 21) rfl rfl (Nat.le_of_ble_eq_true rfl) (fun M12 => ?_)
    refine x_iconst (i := 0) c_iconst_0 hC (zdk dk_X12_chance 12 rfl) (q := 22) rfl ?_
    refine x_istore_n (i := 2) (L' := [.ref r0, .int x1, .int 0, .null, .null, .null]) (by decide) rfl hC (zdk dk_X12_chance 13 rfl) (q := 23) rfl ?_
    refine x_iconst (i := 0) c_iconst_0 hC (zdk dk_X12_chance 14 rfl) (q := 24) rfl ?_
    refine x_istore_n (i := 3) (L' := [.ref r0, .int x1, .int 0, .int 0, .null, .null]) (by decide) rfl hC (zdk dk_X12_chance 15 rfl) (q := 25) rfl ?_
    refine x_weak (L' := [.ref r0, .int x1, .int 0, .int 0, .null, .null]) ⟨Or.inr rfl, Or.inr rfl, Or.inr rfl, Or.inr rfl, Or.inl rfl, Or.inl rfl, trivial⟩ ?_
    exact x_X12_chance_25 hC hE hk0 h_r0 _ _ _ _
  · refine x_aload_n (i := 0) rfl hC (zdk dk_X12_chance 6 rfl) (q := 12) rfl ?_
    refine x_iconst (i := 2) c_iconst_2 hC (zdk dk_X12_chance 7 rfl) (q := 13) rfl ?_
    refine x_callVi (as := [.int 2]) cb_RX12_243 rfl (by decide) hk0 h_r0 (fun x hx => t_X12_refuses h_r0 x hx) hC (zdk dk_X12_chance 8 rfl) (q := 16) rfl rfl (Nat.le_of_ble_eq_true rfl) (fun z13 => ?_)
    exact x_iret (ty := .int) rfl hE hC (zdk dk_X12_chance 9 rfl)
set_option maxRecDepth 100000 in
set_option maxHeartbeats 4000000 in
theorem t_X12_chance {n : Nat} {r0 : Nat} {x1 : Int32} {M : Mem} (h_r0 : zO n r0 12) (x : (Int32 × Mem)) (hx : f_X12_chance r0 x1 M = some x) (l : Launch) (dC : Nat → ClassId) (dI : Nat → Nat → Nat) (b : zSg) : MT l dC dI b yX12_chance cX12_chance 6 (some .int) 5 0 0 n n [.ref r0, .int x1] M (emI x).1 (emI x).2 :=
  MT.ofX (by decide +kernel) rfl (Nat.le_of_ble_eq_true rfl) (fun κ hC hF _ => x_X12_chance hC (zEnd_of hF (Nat.le_refl _) (Nat.le_refl _)) (zRk_of hF (Nat.le_refl _) (Nat.le_refl _)) _ _ _ h_r0) x hx
set_option maxRecDepth 100000 in
def dt_X12_seed : List (Nat × Instr × Nat) := [(0, .iload_n 1, 1), (1, .ifCond .ge 17, 3), (4, .aload_n 0, 1), (5, .iconst 5, 1), (6, .invokevirtual 243, 3), (9, .ifCond .lt 7, 3), (12, .iconst 1, 1), (13, .goto 4, 3), (16, .iconst 0, 1), (17, .ireturn, 1), (18, .aload_n 0, 1), (19, .iload_n 1, 1), (20, .i2l, 1), (21, .putfield 207, 3), (24, .iconst 1, 1), (25, .ireturn, 1)]
set_option maxRecDepth 100000 in
theorem dk_X12_seed : dt_X12_seed.all (fun q => decide (decode cX12_seed q.1 = .ok q.2)) = true := by decide +kernel
set_option maxRecDepth 100000 in
def f_X12_seed_17  (r0 : Nat) (x1 : Int32) (s0 : Int32) (M : Mem) : Option (Int32 × Mem) := zbz s0 (some (s0, M))
set_option maxRecDepth 100000 in
set_option maxHeartbeats 4000000 in
theorem x_X12_seed_17 {κ : KX} {n : Nat} (hC : CX κ cX12_seed RX12 2 (some .boolean) 1) (hE : zEnd κ n (0, 0)) (hk0 : zRk κ (0, 0)) {r0 : Nat} {x1 : Int32} (h_r0 : zO n r0 12) (s0 : Int32) (M : Mem) : X κ 2 emI n (0, 0) 17 [.null, .null] [.int s0] M (f_X12_seed_17 r0 x1 s0 M) := by
  unfold f_X12_seed_17
  refine x_bz (fun hb1 => ?_)
  exact x_iret (ty := .boolean) hb1.1 hE hC (zdk dk_X12_seed 9 rfl)
set_option maxRecDepth 100000 in
def f_X12_seed (r0 : Nat) (x1 : Int32) (M : Mem) : Option (Int32 × Mem) := (if 0 ≤ x1 then Option.bind (some (zsL M r0 64 x1.toInt64)) fun M2 => some (1, M2) else Option.bind (f_X12_refuses r0 5 M) fun z3 => (if z3.1 < 0 then f_X12_seed_17 r0 x1 0 z3.2 else f_X12_seed_17 r0 x1 1 z3.2))
set_option maxRecDepth 100000 in
set_option maxHeartbeats 4000000 in
theorem x_X12_seed {κ : KX} {n : Nat} (hC : CX κ cX12_seed RX12 2 (some .boolean) 1) (hE : zEnd κ n (0, 0)) (hk0 : zRk κ (0, 0)) (r0 : Nat) (x1 : Int32) (M : Mem) (h_r0 : zO n r0 12) : X κ 2 emI n (0, 0) 0 [.ref r0, .int x1] [] M (f_X12_seed r0 x1 M) := by
  unfold f_X12_seed
  refine x_iload_n (i := 1) rfl hC (zdk dk_X12_seed 0 rfl) (q := 1) rfl ?_
  refine x_if_ge (tgt := 18) hC (zdk dk_X12_seed 1 rfl) (q := 4) rfl rfl (fun _ => ?_) (fun _ => ?_)
  · refine x_aload_n (i := 0) rfl hC (zdk dk_X12_seed 10 rfl) (q := 19) rfl ?_
    refine x_iload_n (i := 1) rfl hC (zdk dk_X12_seed 11 rfl) (q := 20) rfl ?_
    refine x_i2l hC (zdk dk_X12_seed 12 rfl) (q := 21) rfl ?_
    refine x_putL fl_RX12_207 ⟨rfl, rfl⟩ (Or.inl rfl) h_r0 hC (zdk dk_X12_seed 13 rfl) (q := 24) rfl ?_
    refine x_nmM (fun M2 => ?_)
    refine x_iconst (i := 1) c_iconst_1 hC (zdk dk_X12_seed 14 rfl) (q := 25) rfl ?_
    exact x_iret (ty := .boolean) rfl hE hC (zdk dk_X12_seed 15 rfl)
  · refine x_aload_n (i := 0) rfl hC (zdk dk_X12_seed 2 rfl) (q := 5) rfl ?_
    refine x_iconst (i := 5) c_iconst_5 hC (zdk dk_X12_seed 3 rfl) (q := 6) rfl ?_
    refine x_callVi (as := [.int 5]) cb_RX12_243 rfl (by decide) hk0 h_r0 (fun x hx => t_X12_refuses h_r0 x hx) hC (zdk dk_X12_seed 4 rfl) (q := 9) rfl rfl (Nat.le_of_ble_eq_true rfl) (fun z3 => ?_)
    refine x_if_lt (tgt := 16) hC (zdk dk_X12_seed 5 rfl) (q := 12) rfl rfl (fun _ => ?_) (fun _ => ?_)
    · refine x_iconst (i := 0) c_iconst_0 hC (zdk dk_X12_seed 8 rfl) (q := 17) rfl ?_
      refine x_weak (L' := [.null, .null]) ⟨Or.inl rfl, Or.inl rfl, trivial⟩ ?_
      exact x_X12_seed_17 hC hE hk0 h_r0 _ _
    · refine x_iconst (i := 1) c_iconst_1 hC (zdk dk_X12_seed 6 rfl) (q := 13) rfl ?_
      refine x_goto (tgt := 17) hC (zdk dk_X12_seed 7 rfl) rfl ?_
      refine x_weak (L' := [.null, .null]) ⟨Or.inl rfl, Or.inl rfl, trivial⟩ ?_
      exact x_X12_seed_17 hC hE hk0 h_r0 _ _
set_option maxRecDepth 100000 in
set_option maxHeartbeats 4000000 in
theorem t_X12_seed {n : Nat} {r0 : Nat} {x1 : Int32} {M : Mem} (h_r0 : zO n r0 12) (x : (Int32 × Mem)) (hx : f_X12_seed r0 x1 M = some x) (l : Launch) (dC : Nat → ClassId) (dI : Nat → Nat → Nat) (b : zSg) : MT l dC dI b yX12_seed cX12_seed 2 (some .boolean) 1 0 0 n n [.ref r0, .int x1] M (emI x).1 (emI x).2 :=
  MT.ofX (by decide +kernel) rfl (Nat.le_of_ble_eq_true rfl) (fun κ hC hF _ => x_X12_seed hC (zEnd_of hF (Nat.le_refl _) (Nat.le_refl _)) (zRk_of hF (Nat.le_refl _) (Nat.le_refl _)) _ _ _ h_r0) x hx
set_option maxRecDepth 100000 in
def dt_X12_kept : List (Nat × Instr × Nat) := [(0, .iload_n 1, 1), (1, .iconst 0, 1), (2, .aload_n 0, 1), (3, .getfield 195, 3), (6, .iconst 0, 1), (7, .iaload, 1), (8, .iconst 1, 1), (9, .isub, 1), (10, .invokestatic 325, 3), (13, .ifCond .eq 25, 3), (16, .iload_n 2, 1), (17, .iconst 0, 1), (18, .iconst 2, 1), (19, .invokestatic 325, 3), (22, .ifCond .eq 16, 3), (25, .aload_n 0, 1), (26, .getfield 198, 3), (29, .iconst 3, 1), (30, .iload_n 1, 1), (31, .imul, 1), (32, .iload_n 2, 1), (33, .iadd, 1), (34, .iaload, 1), (35, .goto 4, 3), (38, .iconst (-1), 1), (39, .ireturn, 1)]
set_option maxRecDepth 100000 in
theorem dk_X12_kept : dt_X12_kept.all (fun q => decide (decode cX12_kept q.1 = .ok q.2)) = true := by decide +kernel
set_option maxRecDepth 100000 in
def f_X12_kept_39  (r0 : Nat) (x1 : Int32) (x2 : Int32) (s0 : Int32) (M : Mem) : Option (Int32 × Mem) := some (s0, M)
set_option maxRecDepth 100000 in
set_option maxHeartbeats 4000000 in
theorem x_X12_kept_39 {κ : KX} {n : Nat} (hC : CX κ cX12_kept RX12 3 (some .int) 1) (hE : zEnd κ n (0, 0)) (hk0 : zRk κ (0, 0)) {r0 : Nat} {x1 : Int32} {x2 : Int32} (h_r0 : zO n r0 12) (s0 : Int32) (M : Mem) : X κ 3 emI n (0, 0) 39 [.null, .null, .null] [.int s0] M (f_X12_kept_39 r0 x1 x2 s0 M) := by
  unfold f_X12_kept_39
  exact x_iret (ty := .int) rfl hE hC (zdk dk_X12_kept 25 rfl)
set_option maxRecDepth 100000 in
def f_X12_kept_38  (r0 : Nat) (x1 : Int32) (x2 : Int32)  (M : Mem) : Option (Int32 × Mem) := f_X12_kept_39 r0 x1 x2 ((-1)) M
set_option maxRecDepth 100000 in
set_option maxHeartbeats 4000000 in
theorem x_X12_kept_38 {κ : KX} {n : Nat} (hC : CX κ cX12_kept RX12 3 (some .int) 1) (hE : zEnd κ n (0, 0)) (hk0 : zRk κ (0, 0)) {r0 : Nat} {x1 : Int32} {x2 : Int32} (h_r0 : zO n r0 12) (M : Mem) : X κ 3 emI n (0, 0) 38 [.null, .null, .null] [] M (f_X12_kept_38 r0 x1 x2 M) := by
  unfold f_X12_kept_38
  refine x_iconst (i := (-1)) c_iconst_m1 hC (zdk dk_X12_kept 24 rfl) (q := 39) rfl ?_
  refine x_weak (L' := [.null, .null, .null]) ⟨Or.inl rfl, Or.inl rfl, Or.inl rfl, trivial⟩ ?_
  exact x_X12_kept_39 hC hE hk0 h_r0 _ _
set_option maxRecDepth 100000 in
def f_X12_kept (r0 : Nat) (x1 : Int32) (x2 : Int32) (M : Mem) : Option (Int32 × Mem) := Option.bind (zrf M r0 60) fun q1 => Option.bind (zld q1 0) fun k2 => Option.bind (f_X12_is x1 0 ((zI M q1 k2) - 1) M) fun z3 => (if z3.1 = 0 then f_X12_kept_38 r0 x1 x2 z3.2 else Option.bind (f_X12_is x2 0 2 z3.2) fun z4 => (if z4.1 = 0 then f_X12_kept_38 r0 x1 x2 z4.2 else Option.bind (zrf z4.2 r0 61) fun q5 => Option.bind (zld q5 ((3 * x1) + x2)) fun k6 => f_X12_kept_39 r0 x1 x2 (zI z4.2 q5 k6) z4.2))
set_option maxRecDepth 100000 in
set_option maxHeartbeats 4000000 in
theorem x_X12_kept {κ : KX} {n : Nat} (hC : CX κ cX12_kept RX12 3 (some .int) 1) (hE : zEnd κ n (0, 0)) (hk0 : zRk κ (0, 0)) (r0 : Nat) (x1 : Int32) (x2 : Int32) (M : Mem) (h_r0 : zO n r0 12) : X κ 3 emI n (0, 0) 0 [.ref r0, .int x1, .int x2] [] M (f_X12_kept r0 x1 x2 M) := by
  unfold f_X12_kept
  refine x_iload_n (i := 1) rfl hC (zdk dk_X12_kept 0 rfl) (q := 1) rfl ?_
  refine x_iconst (i := 0) c_iconst_0 hC (zdk dk_X12_kept 1 rfl) (q := 2) rfl ?_
  refine x_aload_n (i := 0) rfl hC (zdk dk_X12_kept 2 rfl) (q := 3) rfl ?_
  refine x_getR (k := 20) fl_RX12_195 rfl h_r0 hC (zdk dk_X12_kept 3 rfl) (q := 6) rfl (fun q1 hq1 => ?_)
  refine x_iconst (i := 0) c_iconst_0 hC (zdk dk_X12_kept 4 rfl) (q := 7) rfl ?_
  refine x_iald hq1 hC (zdk dk_X12_kept 5 rfl) (q := 8) rfl (fun k2 _ => ?_)
  refine x_iconst (i := 1) c_iconst_1 hC (zdk dk_X12_kept 6 rfl) (q := 9) rfl ?_
  refine x_isub hC (zdk dk_X12_kept 7 rfl) (q := 10) rfl ?_
  refine x_callSi (as := [.int x1, .int 0, .int ((zI M q1 k2) - 1)]) cb_RX12_325 rfl (by decide) hk0 (fun x hx => t_X12_is  x hx) hC (zdk dk_X12_kept 8 rfl) (q := 13) rfl rfl (Nat.le_of_ble_eq_true rfl) (fun z3 => ?_)
  refine x_if_eq (tgt := 38) hC (zdk dk_X12_kept 9 rfl) (q := 16) rfl rfl (fun _ => ?_) (fun _ => ?_)
  · refine x_weak (L' := [.null, .null, .null]) ⟨Or.inl rfl, Or.inl rfl, Or.inl rfl, trivial⟩ ?_
    exact x_X12_kept_38 hC hE hk0 h_r0 _
  · refine x_iload_n (i := 2) rfl hC (zdk dk_X12_kept 10 rfl) (q := 17) rfl ?_
    refine x_iconst (i := 0) c_iconst_0 hC (zdk dk_X12_kept 11 rfl) (q := 18) rfl ?_
    refine x_iconst (i := 2) c_iconst_2 hC (zdk dk_X12_kept 12 rfl) (q := 19) rfl ?_
    refine x_callSi (as := [.int x2, .int 0, .int 2]) cb_RX12_325 rfl (by decide) hk0 (fun x hx => t_X12_is  x hx) hC (zdk dk_X12_kept 13 rfl) (q := 22) rfl rfl (Nat.le_of_ble_eq_true rfl) (fun z4 => ?_)
    refine x_if_eq (tgt := 38) hC (zdk dk_X12_kept 14 rfl) (q := 25) rfl rfl (fun _ => ?_) (fun _ => ?_)
    · refine x_weak (L' := [.null, .null, .null]) ⟨Or.inl rfl, Or.inl rfl, Or.inl rfl, trivial⟩ ?_
      exact x_X12_kept_38 hC hE hk0 h_r0 _
    · refine x_aload_n (i := 0) rfl hC (zdk dk_X12_kept 15 rfl) (q := 26) rfl ?_
      refine x_getR (k := 20) fl_RX12_198 rfl h_r0 hC (zdk dk_X12_kept 16 rfl) (q := 29) rfl (fun q5 hq5 => ?_)
      refine x_iconst (i := 3) c_iconst_3 hC (zdk dk_X12_kept 17 rfl) (q := 30) rfl ?_
      refine x_iload_n (i := 1) rfl hC (zdk dk_X12_kept 18 rfl) (q := 31) rfl ?_
      refine x_imul hC (zdk dk_X12_kept 19 rfl) (q := 32) rfl ?_
      refine x_iload_n (i := 2) rfl hC (zdk dk_X12_kept 20 rfl) (q := 33) rfl ?_
      refine x_iadd hC (zdk dk_X12_kept 21 rfl) (q := 34) rfl ?_
      refine x_iald hq5 hC (zdk dk_X12_kept 22 rfl) (q := 35) rfl (fun k6 _ => ?_)
      refine x_goto (tgt := 39) hC (zdk dk_X12_kept 23 rfl) rfl ?_
      refine x_weak (L' := [.null, .null, .null]) ⟨Or.inl rfl, Or.inl rfl, Or.inl rfl, trivial⟩ ?_
      exact x_X12_kept_39 hC hE hk0 h_r0 _ _
set_option maxRecDepth 100000 in
set_option maxHeartbeats 4000000 in
theorem t_X12_kept {n : Nat} {r0 : Nat} {x1 : Int32} {x2 : Int32} {M : Mem} (h_r0 : zO n r0 12) (x : (Int32 × Mem)) (hx : f_X12_kept r0 x1 x2 M = some x) (l : Launch) (dC : Nat → ClassId) (dI : Nat → Nat → Nat) (b : zSg) : MT l dC dI b yX12_kept cX12_kept 3 (some .int) 1 0 0 n n [.ref r0, .int x1, .int x2] M (emI x).1 (emI x).2 :=
  MT.ofX (by decide +kernel) rfl (Nat.le_of_ble_eq_true rfl) (fun κ hC hF _ => x_X12_kept hC (zEnd_of hF (Nat.le_refl _) (Nat.le_refl _)) (zRk_of hF (Nat.le_refl _) (Nat.le_refl _)) _ _ _ _ h_r0) x hx
set_option maxRecDepth 100000 in
def dt_X12_writes : List (Nat × Instr × Nat) := [(0, .aload_n 0, 1), (1, .getfield 237, 3), (4, .aload_n 0, 1), (5, .getfield 240, 3), (8, .iload_n 1, 1), (9, .sipush 255, 3), (12, .iand, 1), (13, .iastore, 1), (14, .aload_n 0, 1), (15, .dup, 1), (16, .getfield 240, 3), (19, .iconst 1, 1), (20, .iadd, 1), (21, .putfield 240, 3), (24, .return_, 1)]
set_option maxRecDepth 100000 in
theorem dk_X12_writes : dt_X12_writes.all (fun q => decide (decode cX12_writes q.1 = .ok q.2)) = true := by decide +kernel
set_option maxRecDepth 100000 in
def f_X12_writes (r0 : Nat) (x1 : Int32) (M : Mem) : Option Mem := Option.bind (zrf M r0 74) fun q1 => Option.bind (zld q1 (zI M r0 75)) fun k2 => Option.bind (some (zsI M q1 k2 (x1 &&& 255))) fun M3 => Option.bind (some (zsI M3 r0 75 ((zI M3 r0 75) + 1))) fun M4 => some M4
set_option maxRecDepth 100000 in
set_option maxHeartbeats 4000000 in
theorem x_X12_writes {κ : KX} {n : Nat} (hC : CX κ cX12_writes RX12 2 none 0) (hE : zEnd κ n (0, 0)) (hk0 : zRk κ (0, 0)) (r0 : Nat) (x1 : Int32) (M : Mem) (h_r0 : zO n r0 12) : X κ 2 emV n (0, 0) 0 [.ref r0, .int x1] [] M (f_X12_writes r0 x1 M) := by
  unfold f_X12_writes
  refine x_aload_n (i := 0) rfl hC (zdk dk_X12_writes 0 rfl) (q := 1) rfl ?_
  refine x_getR (k := 20) fl_RX12_237 rfl h_r0 hC (zdk dk_X12_writes 1 rfl) (q := 4) rfl (fun q1 hq1 => ?_)
  refine x_aload_n (i := 0) rfl hC (zdk dk_X12_writes 2 rfl) (q := 5) rfl ?_
  refine x_getI fl_RX12_240 (by decide) h_r0 hC (zdk dk_X12_writes 3 rfl) (q := 8) rfl ?_
  refine x_iload_n (i := 1) rfl hC (zdk dk_X12_writes 4 rfl) (q := 9) rfl ?_
  refine x_sipush (i := 255) c_sipush_255 hC (zdk dk_X12_writes 5 rfl) (q := 12) rfl ?_
  refine x_iand hC (zdk dk_X12_writes 6 rfl) (q := 13) rfl ?_
  refine x_iast hq1 hC (zdk dk_X12_writes 7 rfl) (q := 14) rfl (fun k2 _ => ?_)
  refine x_nmM (fun M3 => ?_)
  refine x_aload_n (i := 0) rfl hC (zdk dk_X12_writes 8 rfl) (q := 15) rfl ?_
  refine x_dup rfl hC (zdk dk_X12_writes 9 rfl) (q := 16) rfl ?_
  refine x_getI fl_RX12_240 (by decide) h_r0 hC (zdk dk_X12_writes 10 rfl) (q := 19) rfl ?_
  refine x_iconst (i := 1) c_iconst_1 hC (zdk dk_X12_writes 11 rfl) (q := 20) rfl ?_
  refine x_iadd hC (zdk dk_X12_writes 12 rfl) (q := 21) rfl ?_
  refine x_putI fl_RX12_240 ⟨rfl, rfl⟩ (by decide) (Or.inl rfl) h_r0 hC (zdk dk_X12_writes 13 rfl) (q := 24) rfl ?_
  refine x_nmM (fun M4 => ?_)
  exact x_vret hE hC (zdk dk_X12_writes 14 rfl)
set_option maxRecDepth 100000 in
set_option maxHeartbeats 4000000 in
theorem t_X12_writes {n : Nat} {r0 : Nat} {x1 : Int32} {M : Mem} (h_r0 : zO n r0 12) (x : Mem) (hx : f_X12_writes r0 x1 M = some x) (l : Launch) (dC : Nat → ClassId) (dI : Nat → Nat → Nat) (b : zSg) : MT l dC dI b yX12_writes cX12_writes 2 none 0 0 0 n n [.ref r0, .int x1] M (emV x).1 (emV x).2 :=
  MT.ofX (by decide +kernel) rfl (Nat.le_of_ble_eq_true rfl) (fun κ hC hF _ => x_X12_writes hC (zEnd_of hF (Nat.le_refl _) (Nat.le_refl _)) (zRk_of hF (Nat.le_refl _) (Nat.le_refl _)) _ _ _ h_r0) x hx
