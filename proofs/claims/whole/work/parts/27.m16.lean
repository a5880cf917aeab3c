set_option maxRecDepth 100000 in
def dt_X12_days : List (Nat × Instr × Nat) := [(0, .aload_n 0, 1), (1, .iload_n 1, 1), (2, .iconst 1, 1), (3, .bipush 40, 2), (5, .invokevirtual 539, 3), (8, .ifCond .ne 9, 3), (11, .aload_n 0, 1), (12, .iconst 2, 1), (13, .invokevirtual 243, 3), (16, .ireturn, 1), (17, .aload_n 0, 1), (18, .invokevirtual 557, 3), (21, .iconst 0, 1), (22, .istore_n 2, 1), (23, .iload_n 2, 1), (24, .iload_n 1, 1), (25, .if_icmp .ge 14, 3), (28, .aload_n 0, 1), (29, .iconst 0, 1), (30, .invokevirtual 542, 3), (33, .iinc 2 1, 3), (36, .goto (-13), 3), (39, .aload_n 0, 1), (40, .invokevirtual 567, 3), (43, .ireturn, 1)]
set_option maxRecDepth 100000 in
theorem dk_X12_days : dt_X12_days.all (fun q => decide (decode cX12_days q.1 = .ok q.2)) = true := by decide +kernel
set_option maxRecDepth 100000 in
def f_X12_days_23  (r0 : Nat) (x1 : Int32) : Nat → Int32 → Mem → Option (Int32 × Mem)
  | 0, _, _ => none
  | f + 1, x2, M => (if x1 ≤ x2 then Option.bind (f_X12_trueOnes r0 M) fun z1 => some (z1.1, z1.2) else Option.bind (f_X12_passes r0 0 M) fun M2 => (f_X12_days_23 r0 x1 f) (x2 + 1) M2)
set_option maxRecDepth 100000 in
set_option maxHeartbeats 4000000 in
theorem x_X12_days_23 {κ : KX} {n : Nat} (hC : CX κ cX12_days RX12 3 (some .int) 7) (hE : zEnd κ n (0, 0)) (hk0 : zRk κ (0, 0)) {r0 : Nat} {x1 : Int32} (h_r0 : zO n r0 12) : ∀ (f : Nat) (x2 : Int32) (M : Mem), X κ 3 emI n (0, 0) 23 [.ref r0, .int x1, .int x2] [] M (f_X12_days_23 r0 x1 f x2 M) := by
  intro f
  induction f with
  | zero => intros; exact x_none
  | succ f ih =>
    intro x2 M 
    rw [f_X12_days_23]
    refine x_iload_n (i := 2) rfl hC (zdk dk_X12_days 14 rfl) (q := 24) rfl ?_
    refine x_iload_n (i := 1) rfl hC (zdk dk_X12_days 15 rfl) (q := 25) rfl ?_
    refine x_icmp_ge (tgt := 39) hC (zdk dk_X12_days 16 rfl) (q := 28) rfl rfl (fun _ => ?_) (fun _ => ?_)
    · refine x_aload_n (i := 0) rfl hC (zdk dk_X12_days 22 rfl) (q := 40) rfl ?_
      refine x_callVi (as := []) cb_RX12_567 rfl (by decide) hk0 h_r0 (fun x hx => t_X12_trueOnes h_r0 x hx) hC (zdk dk_X12_days 23 rfl) (q := 43) rfl rfl (Nat.le_of_ble_eq_true rfl) (fun z1 => ?_)
      exact x_iret (ty := .int) rfl hE hC (zdk dk_X12_days 24 rfl)
    · refine x_aload_n (i := 0) rfl hC (zdk dk_X12_days 17 rfl) (q := 29) rfl ?_
      refine x_iconst (i := 0) c_iconst_0 hC (zdk dk_X12_days 18 rfl) (q := 30) rfl ?_
      refine x_callVv (as := [.int 0]) cb_RX12_542 rfl (by decide) hk0 h_r0 (fun x hx => t_X12_passes h_r0 x hx) hC (zdk dk_X12_days 19 rfl) (q := 33) rfl rfl (Nat.le_of_ble_eq_true rfl) (fun M2 => ?_)
      refine x_iinc (i := 2) c_iconst_1 rfl (by decide) (L' := [.ref r0, .int x1, .int (x2 + 1)]) rfl hC (zdk dk_X12_days 20 rfl) (q := 36) rfl ?_
      refine x_goto (tgt := 23) hC (zdk dk_X12_days 21 rfl) rfl ?_
      refine x_weak (L' := [.ref r0, .int x1, .int (x2 + 1)]) ⟨Or.inr rfl, Or.inr rfl, Or.inr rfl, trivial⟩ ?_
      exact ih _ _
set_option maxRecDepth 100000 in
def f_X12_days (r0 : Nat) (x1 : Int32) (M : Mem) : Option (Int32 × Mem) := Option.bind (f_X12_isAhead r0 x1 1 40 M) fun z3 => (if z3.1 = 0 then Option.bind (f_X12_refuses r0 2 z3.2) fun z5 => some (z5.1, z5.2) else Option.bind (f_X12_keeps r0 z3.2) fun M4 => f_X12_days_23 r0 x1 1000000 0 M4)
set_option maxRecDepth 100000 in
set_option maxHeartbeats 4000000 in
theorem x_X12_days {κ : KX} {n : Nat} (hC : CX κ cX12_days RX12 3 (some .int) 7) (hE : zEnd κ n (0, 0)) (hk0 : zRk κ (0, 0)) (r0 : Nat) (x1 : Int32) (M : Mem) (h_r0 : zO n r0 12) : X κ 3 emI n (0, 0) 0 [.ref r0, .int x1, .null] [] M (f_X12_days r0 x1 M) := by
  unfold f_X12_days
  refine x_aload_n (i := 0) rfl hC (zdk dk_X12_days 0 rfl) (q := 1) rfl ?_
  refine x_iload_n (i := 1) rfl hC (zdk dk_X12_days 1 rfl) (q := 2) rfl ?_
  refine x_iconst (i := 1) c_iconst_1 hC (zdk dk_X12_days 2 rfl) (q := 3) rfl ?_
  refine x_bipush (i := 40) c_bipush_40 hC (zdk dk_X12_days 3 rfl) (q := 5) rfl ?_
  refine x_callVi (as := [.int x1, .int 1, .int 40]) cb_RX12_539 rfl (by decide) hk0 h_r0 (fun x hx => t_X12_isAhead h_r0 x hx) hC (zdk dk_X12_days 4 rfl) (q := 8) rfl rfl (Nat.le_of_ble_eq_true rfl) (fun z3 => ?_)
  refine x_if_ne (tgt := 17) hC (zdk dk_X12_days 5 rfl) (q := 11) rfl rfl (fun _ => ?_) (fun _ => ?_)
  · refine x_aload_n (i := 0) rfl hC (zdk dk_X12_days 10 rfl) (q := 18) rfl ?_
    refine x_callVv (as := []) cb_RX12_557 rfl (by decide) hk0 h_r0 (fun x hx => t_X12_keeps h_r0 x hx) hC (zdk dk_X12_days 11 rfl) (q := 21) rfl rfl (Nat.le_of_ble_eq_true rfl) (fun M4 => ?_)
    refine x_iconst (i := 0) c_iconst_0 hC (zdk dk_X12_days 12 rfl) (q := 22) rfl ?_
    refine x_istore_n (i := 2) (L' := [.ref r0, .int x1, .int 0]) (by decide) rfl hC (zdk dk_X12_days 13 rfl) (q := 23) rfl ?_
    refine x_weak (L' := [.ref r0, .int x1, .int 0]) ⟨Or.inr rfl, Or.inr rfl, Or.inr rfl, trivial⟩ ?_
    exact x_X12_days_23 hC hE hk0 h_r0 _ _ _
  · refine x_aload_n (i := 0) rfl hC (zdk dk_X12_days 6 rfl) (q := 12) rfl ?_
    refine x_iconst (i := 2) c_iconst_2 hC (zdk dk_X12_days 7 rfl) (q := 13) rfl ?_
    refine x_callVi (as := [.int 2]) cb_RX12_243 rfl (by decide) hk0 h_r0 (fun x hx => t_X12_refuses h_r0 x hx) hC (zdk dk_X12_days 8 rfl) (q := 16) rfl rfl (Nat.le_of_ble_eq_true rfl) (fun z5 => ?_)
    exact x_iret (ty := .int) rfl hE hC (zdk dk_X12_days 9 rfl)
set_option maxRecDepth 100000 in
set_option maxHeartbeats 4000000 in
theorem t_X12_days {n : Nat} {r0 : Nat} {x1 : Int32} {M : Mem} (h_r0 : zO n r0 12) (x : (Int32 × Mem)) (hx : f_X12_days r0 x1 M = some x) (l : Launch) (dC : Nat → ClassId) (dI : Nat → Nat → Nat) (b : zSg) : MT l dC dI b yX12_days cX12_days 3 (some .int) 7 0 0 n n [.ref r0, .int x1] M (emI x).1 (emI x).2 :=
  MT.ofX (by decide +kernel) rfl (Nat.le_of_ble_eq_true rfl) (fun κ hC hF _ => x_X12_days hC (zEnd_of hF (Nat.le_refl _) (Nat.le_refl _)) (zRk_of hF (Nat.le_refl _) (Nat.le_refl _)) _ _ _ h_r0) x hx
set_option maxRecDepth 100000 in
def dt_X12_draw : List (Nat × Instr × Nat) := [(0, .aload_n 0, 1), (1, .ldc2_w 571, 3), (4, .aload_n 0, 1), (5, .getfield 207, 3), (8, .lmul, 1), (9, .ldc2_w 573, 3), (12, .ladd, 1), (13, .ldc2_w 575, 3), (16, .lrem, 1), (17, .putfield 207, 3), (20, .aload_n 0, 1), (21, .getfield 207, 3), (24, .ldc2_w 577, 3), (27, .ldiv, 1), (28, .iload_n 1, 1), (29, .i2l, 1), (30, .lrem, 1), (31, .l2i, 1), (32, .ireturn, 1)]
set_option maxRecDepth 100000 in
theorem dk_X12_draw : dt_X12_draw.all (fun q => decide (decode cX12_draw q.1 = .ok q.2)) = true := by decide +kernel
set_option maxRecDepth 100000 in
def f_X12_draw (r0 : Nat) (x1 : Int32) (M : Mem) : Option (Int32 × Mem) := Option.bind (some (zsL M r0 64 (zlrem ((1103515245 * (zL M r0 64)) + 12345) 2147483648))) fun M1 => if x1.toInt64 = 0 then none else some ((zlrem ((zL M1 r0 64) / 64) x1.toInt64).toInt32, M1)
set_option maxRecDepth 100000 in
set_option maxHeartbeats 4000000 in
theorem x_X12_draw {κ : KX} {n : Nat} (hC : CX κ cX12_draw RX12 2 (some .int) 0) (hE : zEnd κ n (0, 0)) (hk0 : zRk κ (0, 0)) (r0 : Nat) (x1 : Int32) (M : Mem) (h_r0 : zO n r0 12) : X κ 2 emI n (0, 0) 0 [.ref r0, .int x1] [] M (f_X12_draw r0 x1 M) := by
  unfold f_X12_draw
  refine x_aload_n (i := 0) rfl hC (zdk dk_X12_draw 0 rfl) (q := 1) rfl ?_
  refine x_ldc2 k_RX12_571 hC (zdk dk_X12_draw 1 rfl) (q := 4) rfl ?_
  refine x_aload_n (i := 0) rfl hC (zdk dk_X12_draw 2 rfl) (q := 5) rfl ?_
  refine x_getL fl_RX12_207 h_r0 hC (zdk dk_X12_draw 3 rfl) (q := 8) rfl ?_
  refine x_lmul hC (zdk dk_X12_draw 4 rfl) (q := 9) rfl ?_
  refine x_ldc2 k_RX12_573 hC (zdk dk_X12_draw 5 rfl) (q := 12) rfl ?_
  refine x_ladd hC (zdk dk_X12_draw 6 rfl) (q := 13) rfl ?_
  refine x_ldc2 k_RX12_575 hC (zdk dk_X12_draw 7 rfl) (q := 16) rfl ?_
  refine x_lrem (by decide) hC (zdk dk_X12_draw 8 rfl) (q := 17) rfl ?_
  refine x_putL fl_RX12_207 ⟨rfl, rfl⟩ (Or.inl rfl) h_r0 hC (zdk dk_X12_draw 9 rfl) (q := 20) rfl ?_
  refine x_nmM (fun M1 => ?_)
  refine x_aload_n (i := 0) rfl hC (zdk dk_X12_draw 10 rfl) (q := 21) rfl ?_
  refine x_getL fl_RX12_207 h_r0 hC (zdk dk_X12_draw 11 rfl) (q := 24) rfl ?_
  refine x_ldc2 k_RX12_577 hC (zdk dk_X12_draw 12 rfl) (q := 27) rfl ?_
  refine x_ldiv (by decide) hC (zdk dk_X12_draw 13 rfl) (q := 28) rfl ?_
  refine x_iload_n (i := 1) rfl hC (zdk dk_X12_draw 14 rfl) (q := 29) rfl ?_
  refine x_i2l hC (zdk dk_X12_draw 15 rfl) (q := 30) rfl ?_
  refine x_lremG hC (zdk dk_X12_draw 16 rfl) (q := 31) rfl ?_
  refine x_l2i hC (zdk dk_X12_draw 17 rfl) (q := 32) rfl ?_
  exact x_iret (ty := .int) rfl hE hC (zdk dk_X12_draw 18 rfl)
set_option maxRecDepth 100000 in
set_option maxHeartbeats 4000000 in
theorem t_X12_draw {n : Nat} {r0 : Nat} {x1 : Int32} {M : Mem} (h_r0 : zO n r0 12) (x : (Int32 × Mem)) (hx : f_X12_draw r0 x1 M = some x) (l : Launch) (dC : Nat → ClassId) (dI : Nat → Nat → Nat) (b : zSg) : MT l dC dI b yX12_draw cX12_draw 2 (some .int) 0 0 0 n n [.ref r0, .int x1] M (emI x).1 (emI x).2 :=
  MT.ofX (by decide +kernel) rfl (Nat.le_of_ble_eq_true rfl) (fun κ hC hF _ => x_X12_draw hC (zEnd_of hF (Nat.le_refl _) (Nat.le_refl _)) (zRk_of hF (Nat.le_refl _) (Nat.le_refl _)) _ _ _ h_r0) x hx
set_option maxRecDepth 100000 in
def dt_X12_chance : List (Nat × Instr × Nat) := [(0, .aload_n 0, 1), (1, .iload_n 1, 1), (2, .iconst 1, 1), (3, .bipush 40, 2), (5, .invokevirtual 539, 3), (8, .ifCond .ne 9, 3), (11, .aload_n 0, 1), (12, .iconst 2, 1), (13, .invokevirtual 243, 3), (16, .ireturn, 1), (17, .aload_n 0, 1), (18, .invokevirtual 557, 3), (21, .iconst 0, 1), (22, .istore_n 2, 1), (23, .iconst 0, 1), (24, .istore_n 3, 1), (25, .iload_n 3, 1), (26, .iload_n 1, 1), (27, .if_icmp .ge 99, 3), (30, .aload_n 0, 1), (31, .iconst 0, 1), (32, .invokevirtual 542, 3), (35, .iconst 0, 1), (36, .istore 4, 2), (38, .iload 4, 2), (40, .aload_n 0, 1), (41, .getfield 57, 3), (44, .aload_n 0, 1), (45, .getfield 51, 3), (48, .iaload, 1), (49, .if_icmp .ge 71, 3), (52, .aload_n 0, 1), (53, .getfield 183, 3), (56, .iload 4, 2), (58, .iaload, 1), (59, .ifCond .eq 55, 3), (62, .aload_n 0, 1), (63, .bipush 100, 2), (65, .invokevirtual 579, 3), (68, .aload_n 0, 1), (69, .bipush 8, 2), (71, .invokevirtual 428, 3), (74, .if_icmp .lt 6, 3), (77, .goto 37, 3), (80, .aload_n 0, 1), (81, .aload_n 0, 1), (82, .getfield 132, 3), (85, .invokevirtual 579, 3), (88, .istore 5, 2), (90, .aload_n 0, 1), (91, .iconst 0, 1), (92, .iload 4, 2), (94, .iload 5, 2), (96, .bipush 99, 2), (98, .aload_n 0, 1), (99, .iconst 0, 1), (100, .iload 4, 2), (102, .iload 5, 2), (104, .invokevirtual 500, 3), (107, .isub, 1), (108, .invokevirtual 522, 3), (111, .iinc 2 1, 3), (114, .iinc 4 1, 3), (117, .goto (-79), 3), (120, .iinc 3 1, 3), (123, .goto (-98), 3), (126, .iload_n 2, 1), (127, .ireturn, 1)]
set_option maxRecDepth 100000 in
theorem dk_X12_chance : dt_X12_chance.all (fun q => decide (decode cX12_chance q.1 = .ok q.2)) = true := by decide +kernel
set_option maxRecDepth 100000 in
def f_X12_chance_114 (k25 : Int32 → Int32 → Mem → Option (Int32 × Mem)) (k38 : Int32 → Int32 → Int32 → Mem → Option (Int32 × Mem)) (r0 : Nat) (x1 : Int32) (x2 : Int32) (x3 : Int32) (x4 : Int32) (M : Mem) : Option (Int32 × Mem) := k38 x2 x3 (x4 + 1) M
set_option maxRecDepth 100000 in
set_option maxHeartbeats 4000000 in
theorem x_X12_chance_114 {κ : KX} {n : Nat} (hC : CX κ cX12_chance RX12 6 (some .int) 5) (hE : zEnd κ n (0, 0)) (hk0 : zRk κ (0, 0)) {r0 : Nat} {x1 : Int32} (h_r0 : zO n r0 12) (k25 : Int32 → Int32 → Mem → Option (Int32 × Mem)) (hk25 : ∀ (x2 : Int32) (x3 : Int32) (M : Mem), X κ 6 emI n (0, 0) 25 [.ref r0, .int x1, .int x2, .int x3, .null, .null] [] M (k25 x2 x3 M)) (k38 : Int32 → Int32 → Int32 → Mem → Option (Int32 × Mem)) (hk38 : ∀ (x2 : Int32) (x3 : Int32) (x4 : Int32) (M : Mem), X κ 6 emI n (0, 0) 38 [.ref r0, .int x1, .int x2, .int x3, .int x4, .null] [] M (k38 x2 x3 x4 M)) (x2 : Int32) (x3 : Int32) (x4 : Int32) (M : Mem) : X κ 6 emI n (0, 0) 114 [.ref r0, .int x1, .int x2, .int x3, .int x4, .null] [] M (f_X12_chance_114 k25 k38 r0 x1 x2 x3 x4 M) := by
  unfold f_X12_chance_114
  refine x_iinc (i := 4) c_iconst_1 rfl (by decide) (L' := [.ref r0, .int x1, .int x2, .int x3, .int (x4 + 1), .null]) rfl hC (zdk dk_X12_chance 62 rfl) (q := 117) rfl ?_
  refine x_goto (tgt := 38) hC (zdk dk_X12_chance 63 rfl) rfl ?_
  refine x_weak (L' := [.ref r0, .int x1, .int x2, .int x3, .int (x4 + 1), .null]) ⟨Or.inr rfl, Or.inr rfl, Or.inr rfl, Or.inr rfl, Or.inr rfl, Or.inl rfl, trivial⟩ ?_
  exact hk38 _ _ _ _
set_option maxRecDepth 100000 in
def f_X12_chance_38 (k25 : Int32 → Int32 → Mem → Option (Int32 × Mem)) (r0 : Nat) (x1 : Int32) : Nat → Int32 → Int32 → Int32 → Mem → Option (Int32 × Mem)
  | 0, _, _, _, _ => none
  | f + 1, x2, x3, x4, M => Option.bind (zrf M r0 15) fun q1 => Option.bind (zld q1 (zI M r0 13)) fun k2 => (if zI M q1 k2 ≤ x4 then k25 x2 (x3 + 1) M else Option.bind (zrf M r0 56) fun q3 => Option.bind (zld q3 x4) fun k4 => (if zI M q3 k4 = 0 then f_X12_chance_114 k25 (f_X12_chance_38 k25 r0 x1 f) r0 x1 x2 x3 x4 M else Option.bind (f_X12_draw r0 100 M) fun z5 => Option.bind (f_X12_by r0 8 z5.2) fun z6 => (if z5.1 < z6.1 then Option.bind (f_X12_draw r0 (zI z6.2 r0 39) z6.2) fun z7 => Option.bind (f_X12_levelAt r0 0 x4 z7.1 z7.2) fun z8 => Option.bind (f_X12_puts r0 0 x4 z7.1 (99 - z8.1) z8.2) fun M9 => f_X12_chance_114 k25 (f_X12_chance_38 k25 r0 x1 f) r0 x1 (x2 + 1) x3 x4 M9 else f_X12_chance_114 k25 (f_X12_chance_38 k25 r0 x1 f) r0 x1 x2 x3 x4 z6.2)))
set_option maxRecDepth 100000 in
set_option maxHeartbeats 4000000 in
theorem x_X12_chance_38 {κ : KX} {n : Nat} (hC : CX κ cX12_chance RX12 6 (some .int) 5) (hE : zEnd κ n (0, 0)) (hk0 : zRk κ (0, 0)) {r0 : Nat} {x1 : Int32} (h_r0 : zO n r0 12) (k25 : Int32 → Int32 → Mem → Option (Int32 × Mem)) (hk25 : ∀ (x2 : Int32) (x3 : Int32) (M : Mem), X κ 6 emI n (0, 0) 25 [.ref r0, .int x1, .int x2, .int x3, .null, .null] [] M (k25 x2 x3 M)) : ∀ (f : Nat) (x2 : Int32) (x3 : Int32) (x4 : Int32) (M : Mem), X κ 6 emI n (0, 0) 38 [.ref r0, .int x1, .int x2, .int x3, .int x4, .null] [] M (f_X12_chance_38 k25 r0 x1 f x2 x3 x4 M) := by
  intro f
  induction f with
  | zero => intros; exact x_none
  | succ f ih =>
    intro x2 x3 x4 M 
    rw [f_X12_chance_38]
    refine x_iload (i := 4) rfl hC (zdk dk_X12_chance 24 rfl) (q := 40) rfl ?_
    refine x_aload_n (i := 0) rfl hC (zdk dk_X12_chance 25 rfl) (q := 41) rfl ?_
    refine x_getR (k := 20) fl_RX12_57 rfl h_r0 hC (zdk dk_X12_chance 26 rfl) (q := 44) rfl (fun q1 hq1 => ?_)
    refine x_aload_n (i := 0) rfl hC (zdk dk_X12_chance 27 rfl) (q := 45) rfl ?_
    refine x_getI fl_RX12_51 (by decide) h_r0 hC (zdk dk_X12_chance 28 rfl) (q := 48) rfl ?_
    refine x_iald hq1 hC (zdk dk_X12_chance 29 rfl) (q := 49) rfl (fun k2 _ => ?_)
    refine x_icmp_ge (tgt := 120) hC (zdk dk_X12_chance 30 rfl) (q := 52) rfl rfl (fun _ => ?_) (fun _ => ?_)
    · refine x_iinc (i := 3) c_iconst_1 rfl (by decide) (L' := [.ref r0, .int x1, .int x2, .int (x3 + 1), .int x4, .null]) rfl hC (zdk dk_X12_chance 64 rfl) (q := 123) rfl ?_
      refine x_goto (tgt := 25) hC (zdk dk_X12_chance 65 rfl) rfl ?_
      refine x_weak (L' := [.ref r0, .int x1, .int x2, .int (x3 + 1), .null, .null]) ⟨Or.inr rfl, Or.inr rfl, Or.inr rfl, Or.inr rfl, Or.inl rfl, Or.inl rfl, trivial⟩ ?_
      exact hk25 _ _ _
    · refine x_aload_n (i := 0) rfl hC (zdk dk_X12_chance 31 rfl) (q := 53) rfl ?_
      refine x_getR (k := 20) fl_RX12_183 rfl h_r0 hC (zdk dk_X12_chance 32 rfl) (q := 56) rfl (fun q3 hq3 => ?_)
      refine x_iload (i := 4) rfl hC (zdk dk_X12_chance 33 rfl) (q := 58) rfl ?_
      refine x_iald hq3 hC (zdk dk_X12_chance 34 rfl) (q := 59) rfl (fun k4 _ => ?_)
      refine x_if_eq (tgt := 114) hC (zdk dk_X12_chance 35 rfl) (q := 62) rfl rfl (fun _ => ?_) (fun _ => ?_)
      · refine x_weak (L' := [.ref r0, .int x1, .int x2, .int x3, .int x4, .null]) ⟨Or.inr rfl, Or.inr rfl, Or.inr rfl, Or.inr rfl, Or.inr rfl, Or.inl rfl, trivial⟩ ?_
        exact x_X12_chance_114 hC hE hk0 h_r0 k25 hk25 (f_X12_chance_38 k25 r0 x1 f) ih _ _ _ _
      · refine x_aload_n (i := 0) rfl hC (zdk dk_X12_chance 36 rfl) (q := 63) rfl ?_
        refine x_bipush (i := 100) c_bipush_100 hC (zdk dk_X12_chance 37 rfl) (q := 65) rfl ?_
        refine x_callVi (as := [.int 100]) cb_RX12_579 rfl (by decide) hk0 h_r0 (fun x hx => t_X12_draw h_r0 x hx) hC (zdk dk_X12_chance 38 rfl) (q := 68) rfl rfl (Nat.le_of_ble_eq_true rfl) (fun z5 => ?_)
        refine x_aload_n (i := 0) rfl hC (zdk dk_X12_chance 39 rfl) (q := 69) rfl ?_
        refine x_bipush (i := 8) c_bipush_8 hC (zdk dk_X12_chance 40 rfl) (q := 71) rfl ?_
        refine x_callVi (as := [.int 8]) cb_RX12_428 rfl (by decide) hk0 h_r0 (fun x hx => t_X12_by h_r0 x hx) hC (zdk dk_X12_chance 41 rfl) (q := 74) rfl rfl (Nat.le_of_ble_eq_true rfl) (fun z6 => ?_)
        refine x_icmp_lt (tgt := 80) hC (zdk dk_X12_chance 42 rfl) (q := 77) rfl rfl (fun _ => ?_) (fun _ => ?_)
        · refine x_aload_n (i := 0) rfl hC (zdk dk_X12_chance 44 rfl) (q := 81) rfl ?_
          refine x_aload_n (i := 0) rfl hC (zdk dk_X12_chance 45 rfl) (q := 82) rfl ?_
          refine x_getI fl_RX12_132 (by decide) h_r0 hC (zdk dk_X12_chance 46 rfl) (q := 85) rfl ?_
          refine x_callVi (as := [.int (zI z6.2 r0 39)]) cb_RX12_579 rfl (by decide) hk0 h_r0 (fun x hx => t_X12_draw h_r0 x hx) hC (zdk dk_X12_chance 47 rfl) (q := 88) rfl rfl (Nat.le_of_ble_eq_true rfl) (fun z7 => ?_)
          refine x_istore (i := 5) (L' := [.ref r0, .int x1, .int x2, .int x3, .int x4, .int z7.1]) (by decide) rfl hC (zdk dk_X12_chance 48 rfl) (q := 90) rfl ?_
          refine x_aload_n (i := 0) rfl hC (zdk dk_X12_chance 49 rfl) (q := 91) rfl ?_
          refine x_iconst (i := 0) c_iconst_0 hC (zdk dk_X12_chance 50 rfl) (q := 92) rfl ?_
          refine x_iload (i := 4) rfl hC (zdk dk_X12_chance 51 rfl) (q := 94) rfl ?_
          refine x_iload (i := 5) rfl hC (zdk dk_X12_chance 52 rfl) (q := 96) rfl ?_
          refine x_bipush (i := 99) c_bipush_99 hC (zdk dk_X12_chance 53 rfl) (q := 98) rfl ?_
          refine x_aload_n (i := 0) rfl hC (zdk dk_X12_chance 54 rfl) (q := 99) rfl ?_
          refine x_iconst (i := 0) c_iconst_0 hC (zdk dk_X12_chance 55 rfl) (q := 100) rfl ?_
          refine x_iload (i := 4) rfl hC (zdk dk_X12_chance 56 rfl) (q := 102) rfl ?_
          refine x_iload (i := 5) rfl hC (zdk dk_X12_chance 57 rfl) (q := 104) rfl ?_
          refine x_callVi (as := [.int 0, .int x4, .int z7.1]) cb_RX12_500 rfl (by decide) hk0 h_r0 (fun x hx => t_X12_levelAt h_r0 x hx) hC (zdk dk_X12_chance 58 rfl) (q := 107) rfl rfl (Nat.le_of_ble_eq_true rfl) (fun z8 => ?_)
          refine x_isub hC (zdk dk_X12_chance 59 rfl) (q := 108) rfl ?_
          refine x_callVv (as := [.int 0, .int x4, .int z7.1, .int (99 - z8.1)]) cb_RX12_522 rfl (by decide) hk0 h_r0 (fun x hx => t_X12_puts h_r0 x hx) hC (zdk dk_X12_chance 60 rfl) (q := 111) rfl rfl (Nat.le_of_ble_eq_true rfl) (fun M9 => ?_)
          refine x_iinc (i := 2) c_iconst_1 rfl (by decide) (L' := [.ref r0, .int x1, .int (x2 + 1), .int x3, .int x4, .int z7.1]) rfl hC (zdk dk_X12_chance 61 rfl) (q := 114) rfl ?_
          refine x_weak (L' := [.ref r0, .int x1, .int (x2 + 1), .int x3, .int x4, .null]) ⟨Or.inr rfl, Or.inr rfl, Or.inr rfl, Or.inr rfl, Or.inr rfl, Or.inl rfl, trivial⟩ ?_
          exact x_X12_chance_114 hC hE hk0 h_r0 k25 hk25 (f_X12_chance_38 k25 r0 x1 f) ih _ _ _ _
        · refine x_goto (tgt := 114) hC (zdk dk_X12_chance 43 rfl) rfl ?_
          refine x_weak (L' := [.ref r0, .int x1, .int x2, .int x3, .int x4, .null]) ⟨Or.inr rfl, Or.inr rfl, Or.inr rfl, Or.inr rfl, Or.inr rfl, Or.inl rfl, trivial⟩ ?_
          exact x_X12_chance_114 hC hE hk0 h_r0 k25 hk25 (f_X12_chance_38 k25 r0 x1 f) ih _ _ _ _
set_option maxRecDepth 100000 in
def f_X12_chance_25  (r0 : Nat) (x1 : Int32) : Nat → Int32 → Int32 → Mem → Option (Int32 × Mem)
  | 0, _, _, _ => none
  | f + 1, x2, x3, M => (if x1 ≤ x3 then some (x2, M) else Option.bind (f_X12_passes r0 0 M) fun M10 => f_X12_chance_38 (f_X12_chance_25 r0 x1 f) r0 x1 1000000 x2 x3 0 M10)
set_option maxRecDepth 100000 in
set_option maxHeartbeats 4000000 in
theorem x_X12_chance_25 {κ : KX} {n : Nat} (hC : CX κ cX12_chance RX12 6 (some .int) 5) (hE : zEnd κ n (0, 0)) (hk0 : zRk κ (0, 0)) {r0 : Nat} {x1 : Int32} (h_r0 : zO n r0 12) : ∀ (f : Nat) (x2 : Int32) (x3 : Int32) (M : Mem), X κ 6 emI n (0, 0) 25 [.ref r0, .int x1, .int x2, .int x3, .null, .null] [] M (f_X12_chance_25 r0 x1 f x2 x3 M) := by
  intro f
  induction f with
  | zero => intros; exact x_none
  | succ f ih =>
    intro x2 x3 M 
    rw [f_X12_chance_25]
    refine x_iload_n (i := 3) rfl hC (zdk dk_X12_chance 16 rfl) (q := 26) rfl ?_
    refine x_iload_n (i := 1) rfl hC (zdk dk_X12_chance 17 rfl) (q := 27) rfl ?_
    refine x_icmp_ge (tgt := 126) hC (zdk dk_X12_chance 18 rfl) (q := 30) rfl rfl (fun _ => ?_) (fun _ => ?_)
    · refine x_iload_n (i := 2) rfl hC (zdk dk_X12_chance 66 rfl) (q := 127) rfl ?_
      exact x_iret (ty := .int) rfl hE hC (zdk dk_X12_chance 67 rfl)
    · refine x_aload_n (i := 0) rfl hC (zdk dk_X12_chance 19 rfl) (q := 31) rfl ?_
      refine x_iconst (i := 0) c_iconst_0 hC (zdk dk_X12_chance 20 rfl) (q := 32) rfl ?_
      refine x_callVv (as := [.int 0]) cb_RX12_542 rfl (by decide) hk0 h_r0 (fun x hx => t_X12_passes h_r0 x hx) hC (zdk dk_X12_chance 21 rfl) (q := 35) rfl rfl (Nat.le_of_ble_eq_true rfl) (fun M10 => ?_)
      refine x_iconst (i := 0) c_iconst_0 hC (zdk dk_X12_chance 22 rfl) (q := 36) rfl ?_
      refine x_istore (i := 4) (L' := [.ref r0, .int x1, .int x2, .int x3, .int 0, .null]) (by decide) rfl hC (zdk dk_X12_chance 23 rfl) (q := 38) rfl ?_
      refine x_weak (L' := [.ref r0, .int x1, .int x2, .int x3, .int 0, .null]) ⟨Or.inr rfl, Or.inr rfl, Or.inr rfl, Or.inr rfl, Or.inr rfl, Or.inl rfl, trivial⟩ ?_
      exact x_X12_chance_38 hC hE hk0 h_r0 (f_X12_chance_25 r0 x1 f) ih _ _ _ _ _
set_option maxRecDepth 100000 in
def f_X12_chance (r0 : Nat) (x1 : Int32) (M : Mem) : Option (Int32 × Mem) := Option.bind (f_X12_isAhead r0 x1 1 40 M) fun z11 => (if z11.1 = 0 then Option.bind (f_X12_refuses r0 2 z11.2) fun z13 => some (z13.1, z13.2) else Option.bind (f_X12_keeps r0 z11.2) fun M12 => f_X12_chance_25 r0 x1 1000000 0 0 M12)
set_option maxRecDepth 100000 in
set_option maxHeartbeats 4000000 in
theorem x_X12_chance {κ : KX} {n : Nat} (hC : CX κ cX12_chance RX12 6 (some .int) 5) (hE : zEnd κ n (0, 0)) (hk0 : zRk κ (0, 0)) (r0 : Nat) (x1 : Int32) (M : Mem) (h_r0 : zO n r0 12) : X κ 6 emI n (0, 0) 0 [.ref r0, .int x1, .null, .null, .null, .null] [] M (f_X12_chance r0 x1 M) := by
  unfold f_X12_chance
  refine x_aload_n (i := 0) rfl hC (zdk dk_X12_chance 0 rfl) (q := 1) rfl ?_
  refine x_iload_n (i := 1) rfl hC (zdk dk_X12_chance 1 rfl) (q := 2) rfl ?_
  refine x_iconst (i := 1) c_iconst_1 hC (zdk dk_X12_chance 2 rfl) (q := 3) rfl ?_
  refine x_bipush (i := 40) c_bipush_40 hC (zdk dk_X12_chance 3 rfl) (q := 5) rfl ?_
  refine x_callVi (as := [.int x1, .int 1, .int 40]) cb_RX12_539 rfl (by decide) hk0 h_r0 (fun x hx => t_X12_isAhead h_r0 x hx) hC (zdk dk_X12_chance 4 rfl) (q := 8) rfl rfl (Nat.le_of_ble_eq_true rfl) (fun z11 => ?_)
  refine x_if_ne (tgt := 17) hC (zdk dk_X12_chance 5 rfl) (q := 11) rfl rfl (fun _ => ?_) (fun _ => ?_)
  · refine x_aload_n (i := 0) rfl hC (zdk dk_X12_chance 10 rfl) (q := 18) rfl ?_
    refine x_callVv (as := []) cb_RX12_557 rfl (by decide) hk0 h_r0 (fun x hx => t_X12_keeps h_r0 x hx) hC (zdk dk_X12_chance 11 rfl) (q := 21) rfl rfl (Nat.le_of_ble_eq_true rfl) (fun M12 => ?_)
    refine x_iconst (i := 0) c_iconst_0 hC (zdk dk_X12_chance 12 rfl) (q := 22) rfl ?_
    refine x_istore_n (i := 2) (L' := [.ref r0, .int x1, .int 0, .null, .null, .null]) (by decide) rfl hC (zdk dk_X12_chance 13 rfl) (q := 23) rfl ?_
    refine x_iconst (i := 0) c_iconst_0 hC (zdk dk_X12_chance 14 rfl) (q := 24) rfl ?_
    refine x_istore_n (i := 3) (L' := [.ref r0, .int x1, .int 0, .int 0, .null, .null]) (by decide) rfl hC (zdk dk_X12_chance 15 rfl) (q := 25) rfl ?_
    refine x_weak (L' := [.ref r0, .int x1, .int 0, .int 0, .null, .null]) ⟨Or.inr rfl, Or.inr rfl, Or.inr rfl, Or.inr rfl, Or.inl rfl, Or.inl rfl, trivial⟩ ?_
    exact x_X12_chance_25 hC hE hk0 h_r0 _ _ _ _
  · refine x_aload_n (i := 0) rfl hC (zdk dk_X12_chance 6 rfl) (q := 12) rfl ?_
    refine x_iconst (i := 2) c_iconst_2 hC (zdk dk_X12_chance 7 rfl) (q := 13) rfl ?_
    refine x_callVi (as := [.int 2]) cb_RX12_243 rfl (by decide) hk0 h_r0 (fun x hx => t_X12_refuses h_r0 x hx) hC (zdk dk_X12_chance 8 rfl) (q := 16) rfl rfl (Nat.le_of_ble_eq_true rfl) (fun z13 => ?_)
    exact x_iret (ty := .int) rfl hE hC (zdk dk_X12_chance 9 rfl)
set_option maxRecDepth 100000 in
set_option maxHeartbeats 4000000 in
theorem t_X12_chance {n : Nat} {r0 : Nat} {x1 : Int32} {M : Mem} (h_r0 : zO n r0 12) (x : (Int32 × Mem)) (hx : f_X12_chance r0 x1 M = some x) (l : Launch) (dC : Nat → ClassId) (dI : Nat → Nat → Nat) (b : zSg) : MT l dC dI b yX12_chance cX12_chance 6 (some .int) 5 0 0 n n [.ref r0, .int x1] M (emI x).1 (emI x).2 :=
  MT.ofX (by decide +kernel) rfl (Nat.le_of_ble_eq_true rfl) (fun κ hC hF _ => x_X12_chance hC (zEnd_of hF (Nat.le_refl _) (Nat.le_refl _)) (zRk_of hF (Nat.le_refl _) (Nat.le_refl _)) _ _ _ h_r0) x hx
set_option maxRecDepth 100000 in
def dt_X12_seed : List (Nat × Instr × Nat) := [(0, .iload_n 1, 1), (1, .ifCond .ge 17, 3), (4, .aload_n 0, 1), (5, .iconst 5, 1), (6, .invokevirtual 243, 3), (9, .ifCond .lt 7, 3), (12, .iconst 1, 1), (13, .goto 4, 3), (16, .iconst 0, 1), (17, .ireturn, 1), (18, .aload_n 0, 1), (19, .iload_n 1, 1), (20, .i2l, 1), (21, .putfield 207, 3), (24, .iconst 1, 1), (25, .ireturn, 1)]
set_option maxRecDepth 100000 in
theorem dk_X12_seed : dt_X12_seed.all (fun q => decide (decode cX12_seed q.1 = .ok q.2)) = true := by decide +kernel
set_option maxRecDepth 100000 in
def f_X12_seed_17  (r0 : Nat) (x1 : Int32) (s0 : Int32) (M : Mem) : Option (Int32 × Mem) := zbz s0 (some (s0, M))
set_option maxRecDepth 100000 in
set_option maxHeartbeats 4000000 in
theorem x_X12_seed_17 {κ : KX} {n : Nat} (hC : CX κ cX12_seed RX12 2 (some .boolean) 1) (hE : zEnd κ n (0, 0)) (hk0 : zRk κ (0, 0)) {r0 : Nat} {x1 : Int32} (h_r0 : zO n r0 12) (s0 : Int32) (M : Mem) : X κ 2 emI n (0, 0) 17 [.null, .null] [.int s0] M (f_X12_seed_17 r0 x1 s0 M) := by
  unfold f_X12_seed_17
  refine x_bz (fun hb1 => ?_)
  exact x_iret (ty := .boolean) hb1.1 hE hC (zdk dk_X12_seed 9 rfl)
set_option maxRecDepth 100000 in
def f_X12_seed (r0 : Nat) (x1 : Int32) (M : Mem) : Option (Int32 × Mem) := (if 0 ≤ x1 then Option.bind (some (zsL M r0 64 x1.toInt64)) fun M2 => some (1, M2) else Option.bind (f_X12_refuses r0 5 M) fun z3 => (if z3.1 < 0 then f_X12_seed_17 r0 x1 0 z3.2 else f_X12_seed_17 r0 x1 1 z3.2))
set_option maxRecDepth 100000 in
set_option maxHeartbeats 4000000 in
theorem x_X12_seed {κ : KX} {n : Nat} (hC : CX κ cX12_seed RX12 2 (some .boolean) 1) (hE : zEnd κ n (0, 0)) (hk0 : zRk κ (0, 0)) (r0 : Nat) (x1 : Int32) (M : Mem) (h_r0 : zO n r0 12) : X κ 2 emI n (0, 0) 0 [.ref r0, .int x1] [] M (f_X12_seed r0 x1 M) := by
  unfold f_X12_seed
  refine x_iload_n (i := 1) rfl hC (zdk dk_X12_seed 0 rfl) (q := 1) rfl ?_
  refine x_if_ge (tgt := 18) hC (zdk dk_X12_seed 1 rfl) (q := 4) rfl rfl (fun _ => ?_) (fun _ => ?_)
  · refine x_aload_n (i := 0) rfl hC (zdk dk_X12_seed 10 rfl) (q := 19) rfl ?_
    refine x_iload_n (i := 1) rfl hC (zdk dk_X12_seed 11 rfl) (q := 20) rfl ?_
    refine x_i2l hC (zdk dk_X12_seed 12 rfl) (q := 21) rfl ?_
    refine x_putL fl_RX12_207 ⟨rfl, rfl⟩ (Or.inl rfl) h_r0 hC (zdk dk_X12_seed 13 rfl) (q := 24) rfl ?_
    refine x_nmM (fun M2 => ?_)
    refine x_iconst (i := 1) c_iconst_1 hC (zdk dk_X12_seed 14 rfl) (q := 25) rfl ?_
    exact x_iret (ty := .boolean) rfl hE hC (zdk dk_X12_seed 15 rfl)
  · refine x_aload_n (i := 0) rfl hC (zdk dk_X12_seed 2 rfl) (q := 5) rfl ?_
    refine x_iconst (i := 5) c_iconst_5 hC (zdk dk_X12_seed 3 rfl) (q := 6) rfl ?_
    refine x_callVi (as := [.int 5]) cb_RX12_243 rfl (by decide) hk0 h_r0 (fun x hx => t_X12_refuses h_r0 x hx) hC (zdk dk_X12_seed 4 rfl) (q := 9) rfl rfl (Nat.le_of_ble_eq_true rfl) (fun z3 => ?_)
    refine x_if_lt (tgt := 16) hC (zdk dk_X12_seed 5 rfl) (q := 12) rfl rfl (fun _ => ?_) (fun _ => ?_)
    · refine x_iconst (i := 0) c_iconst_0 hC (zdk dk_X12_seed 8 rfl) (q := 17) rfl ?_
      refine x_weak (L' := [.null, .null]) ⟨Or.inl rfl, Or.inl rfl, trivial⟩ ?_
      exact x_X12_seed_17 hC hE hk0 h_r0 _ _
    · refine x_iconst (i := 1) c_iconst_1 hC (zdk dk_X12_seed 6 rfl) (q := 13) rfl ?_
      refine x_goto (tgt := 17) hC (zdk dk_X12_seed 7 rfl) rfl ?_
      refine x_weak (L' := [.null, .null]) ⟨Or.inl rfl, Or.inl rfl, trivial⟩ ?_
      exact x_X12_seed_17 hC hE hk0 h_r0 _ _
set_option maxRecDepth 100000 in
set_option maxHeartbeats 4000000 in
theorem t_X12_seed {n : Nat} {r0 : Nat} {x1 : Int32} {M : Mem} (h_r0 : zO n r0 12) (x : (Int32 × Mem)) (hx : f_X12_seed r0 x1 M = some x) (l : Launch) (dC : Nat → ClassId) (dI : Nat → Nat → Nat) (b : zSg) : MT l dC dI b yX12_seed cX12_seed 2 (some .boolean) 1 0 0 n n [.ref r0, .int x1] M (emI x).1 (emI x).2 :=
  MT.ofX (by decide +kernel) rfl (Nat.le_of_ble_eq_true rfl) (fun κ hC hF _ => x_X12_seed hC (zEnd_of hF (Nat.le_refl _) (Nat.le_refl _)) (zRk_of hF (Nat.le_refl _) (Nat.le_refl _)) _ _ _ h_r0) x hx
set_option maxRecDepth 100000 in
def dt_X12_kept : List (Nat × Instr × Nat) := [(0, .iload_n 1, 1), (1, .iconst 0, 1), (2, .aload_n 0, 1), (3, .getfield 195, 3), (6, .iconst 0, 1), (7, .iaload, 1), (8, .iconst 1, 1), (9, .isub, 1), (10, .invokestatic 325, 3), (13, .ifCond .eq 25, 3), (16, .iload_n 2, 1), (17, .iconst 0, 1), (18, .iconst 2, 1), (19, .invokestatic 325, 3), (22, .ifCond .eq 16, 3), (25, .aload_n 0, 1), (26, .getfield 198, 3), (29, .iconst 3, 1), (30, .iload_n 1, 1), (31, .imul, 1), (32, .iload_n 2, 1), (33, .iadd, 1), (34, .iaload, 1), (35, .goto 4, 3), (38, .iconst (-1), 1), (39, .ireturn, 1)]
set_option maxRecDepth 100000 in
theorem dk_X12_kept : dt_X12_kept.all (fun q => decide (decode cX12_kept q.1 = .ok q.2)) = true := by decide +kernel
set_option maxRecDepth 100000 in
def f_X12_kept_39  (r0 : Nat) (x1 : Int32) (x2 : Int32) (s0 : Int32) (M : Mem) : Option (Int32 × Mem) := some (s0, M)
set_option maxRecDepth 100000 in
set_option maxHeartbeats 4000000 in
theorem x_X12_kept_39 {κ : KX} {n : Nat} (hC : CX κ cX12_kept RX12 3 (some .int) 1) (hE : zEnd κ n (0, 0)) (hk0 : zRk κ (0, 0)) {r0 : Nat} {x1 : Int32} {x2 : Int32} (h_r0 : zO n r0 12) (s0 : Int32) (M : Mem) : X κ 3 emI n (0, 0) 39 [.null, .null, .null] [.int s0] M (f_X12_kept_39 r0 x1 x2 s0 M) := by
  unfold f_X12_kept_39
  exact x_iret (ty := .int) rfl hE hC (zdk dk_X12_kept 25 rfl)
set_option maxRecDepth 100000 in
def f_X12_kept_38  (r0 : Nat) (x1 : Int32) (x2 : Int32)  (M : Mem) : Option (Int32 × Mem) := f_X12_kept_39 r0 x1 x2 ((-1)) M
set_option maxRecDepth 100000 in
set_option maxHeartbeats 4000000 in
theorem x_X12_kept_38 {κ : KX} {n : Nat} (hC : CX κ cX12_kept RX12 3 (some .int) 1) (hE : zEnd κ n (0, 0)) (hk0 : zRk κ (0, 0)) {r0 : Nat} {x1 : Int32} {x2 : Int32} (h_r0 : zO n r0 12) (M : Mem) : X κ 3 emI n (0, 0) 38 [.null, .null, .null] [] M (f_X12_kept_38 r0 x1 x2 M) := by
  unfold f_X12_kept_38
  refine x_iconst (i := (-1)) c_iconst_m1 hC (zdk dk_X12_kept 24 rfl) (q := 39) rfl ?_
  refine x_weak (L' := [.null, .null, .null]) ⟨Or.inl rfl, Or.inl rfl, Or.inl rfl, trivial⟩ ?_
  exact x_X12_kept_39 hC hE hk0 h_r0 _ _
set_option maxRecDepth 100000 in
def f_X12_kept (r0 : Nat) (x1 : Int32) (x2 : Int32) (M : Mem) : Option (Int32 × Mem) := Option.bind (zrf M r0 60) fun q1 => Option.bind (zld q1 0) fun k2 => Option.bind (f_X12_is x1 0 ((zI M q1 k2) - 1) M) fun z3 => (if z3.1 = 0 then f_X12_kept_38 r0 x1 x2 z3.2 else Option.bind (f_X12_is x2 0 2 z3.2) fun z4 => (if z4.1 = 0 then f_X12_kept_38 r0 x1 x2 z4.2 else Option.bind (zrf z4.2 r0 61) fun q5 => Option.bind (zld q5 ((3 * x1) + x2)) fun k6 => f_X12_kept_39 r0 x1 x2 (zI z4.2 q5 k6) z4.2))
set_option maxRecDepth 100000 in
set_option maxHeartbeats 4000000 in
theorem x_X12_kept {κ : KX} {n : Nat} (hC : CX κ cX12_kept RX12 3 (some .int) 1) (hE : zEnd κ n (0, 0)) (hk0 : zRk κ (0, 0)) (r0 : Nat) (x1 : Int32) (x2 : Int32) (M : Mem) (h_r0 : zO n r0 12) : X κ 3 emI n (0, 0) 0 [.ref r0, .int x1, .int x2] [] M (f_X12_kept r0 x1 x2 M) := by
  unfold f_X12_kept
  refine x_iload_n (i := 1) rfl hC (zdk dk_X12_kept 0 rfl) (q := 1) rfl ?_
  refine x_iconst (i := 0) c_iconst_0 hC (zdk dk_X12_kept 1 rfl) (q := 2) rfl ?_
  refine x_aload_n (i := 0) rfl hC (zdk dk_X12_kept 2 rfl) (q := 3) rfl ?_
  refine x_getR (k := 20) fl_RX12_195 rfl h_r0 hC (zdk dk_X12_kept 3 rfl) (q := 6) rfl (fun q1 hq1 => ?_)
  refine x_iconst (i := 0) c_iconst_0 hC (zdk dk_X12_kept 4 rfl) (q := 7) rfl ?_
  refine x_iald hq1 hC (zdk dk_X12_kept 5 rfl) (q := 8) rfl (fun k2 _ => ?_)
  refine x_iconst (i := 1) c_iconst_1 hC (zdk dk_X12_kept 6 rfl) (q := 9) rfl ?_
  refine x_isub hC (zdk dk_X12_kept 7 rfl) (q := 10) rfl ?_
  refine x_callSi (as := [.int x1, .int 0, .int ((zI M q1 k2) - 1)]) cb_RX12_325 rfl (by decide) hk0 (fun x hx => t_X12_is  x hx) hC (zdk dk_X12_kept 8 rfl) (q := 13) rfl rfl (Nat.le_of_ble_eq_true rfl) (fun z3 => ?_)
  refine x_if_eq (tgt := 38) hC (zdk dk_X12_kept 9 rfl) (q := 16) rfl rfl (fun _ => ?_) (fun _ => ?_)
  · refine x_weak (L' := [.null, .null, .null]) ⟨Or.inl rfl, Or.inl rfl, Or.inl rfl, trivial⟩ ?_
    exact x_X12_kept_38 hC hE hk0 h_r0 _
  · refine x_iload_n (i := 2) rfl hC (zdk dk_X12_kept 10 rfl) (q := 17) rfl ?_
    refine x_iconst (i := 0) c_iconst_0 hC (zdk dk_X12_kept 11 rfl) (q := 18) rfl ?_
    refine x_iconst (i := 2) c_iconst_2 hC (zdk dk_X12_kept 12 rfl) (q := 19) rfl ?_
    refine x_callSi (as := [.int x2, .int 0, .int 2]) cb_RX12_325 rfl (by decide) hk0 (fun x hx => t_X12_is  x hx) hC (zdk dk_X12_kept 13 rfl) (q := 22) rfl rfl (Nat.le_of_ble_eq_true rfl) (fun z4 => ?_)
    refine x_if_eq (tgt := 38) hC (zdk dk_X12_kept 14 rfl) (q := 25) rfl rfl (fun _ => ?_) (fun _ => ?_)
    · refine x_weak (L' := [.null, .null, .null]) ⟨Or.inl rfl, Or.inl rfl, Or.inl rfl, trivial⟩ ?_
      exact x_X12_kept_38 hC hE hk0 h_r0 _
    · refine x_aload_n (i := 0) rfl hC (zdk dk_X12_kept 15 rfl) (q := 26) rfl ?_
      refine x_getR (k := 20) fl_RX12_198 rfl h_r0 hC (zdk dk_X12_kept 16 rfl) (q := 29) rfl (fun q5 hq5 => ?_)
      refine x_iconst (i := 3) c_iconst_3 hC (zdk dk_X12_kept 17 rfl) (q := 30) rfl ?_
      refine x_iload_n (i := 1) rfl hC (zdk dk_X12_kept 18 rfl) (q := 31) rfl ?_
      refine x_imul hC (zdk dk_X12_kept 19 rfl) (q := 32) rfl ?_
      refine x_iload_n (i := 2) rfl hC (zdk dk_X12_kept 20 rfl) (q := 33) rfl ?_
      refine x_iadd hC (zdk dk_X12_kept 21 rfl) (q := 34) rfl ?_
      refine x_iald hq5 hC (zdk dk_X12_kept 22 rfl) (q := 35) rfl (fun k6 _ => ?_)
      refine x_goto (tgt := 39) hC (zdk dk_X12_kept 23 rfl) rfl ?_
      refine x_weak (L' := [.null, .null, .null]) ⟨Or.inl rfl, Or.inl rfl, Or.inl rfl, trivial⟩ ?_
      exact x_X12_kept_39 hC hE hk0 h_r0 _ _
set_option maxRecDepth 100000 in
set_option maxHeartbeats 4000000 in
theorem t_X12_kept {n : Nat} {r0 : Nat} {x1 : Int32} {x2 : Int32} {M : Mem} (h_r0 : zO n r0 12) (x : (Int32 × Mem)) (hx : f_X12_kept r0 x1 x2 M = some x) (l : Launch) (dC : Nat → ClassId) (dI : Nat → Nat → Nat) (b : zSg) : MT l dC dI b yX12_kept cX12_kept 3 (some .int) 1 0 0 n n [.ref r0, .int x1, .int x2] M (emI x).1 (emI x).2 :=
  MT.ofX (by decide +kernel) rfl (Nat.le_of_ble_eq_true rfl) (fun κ hC hF _ => x_X12_kept hC (zEnd_of hF (Nat.le_refl _) (Nat.le_refl _)) (zRk_of hF (Nat.le_refl _) (Nat.le_refl _)) _ _ _ _ h_r0) x hx
set_option maxRecDepth 100000 in
def dt_X12_writes : List (Nat × Instr × Nat) := [(0, .aload_n 0, 1), (1, .getfield 237, 3), (4, .aload_n 0, 1), (5, .getfield 240, 3), (8, .iload_n 1, 1), (9, .sipush 255, 3), (12, .iand, 1), (13, .iastore, 1), (14, .aload_n 0, 1), (15, .dup, 1), (16, .getfield 240, 3), (19, .iconst 1, 1), (20, .iadd, 1), (21, .putfield 240, 3), (24, .return_, 1)]
set_option maxRecDepth 100000 in
theorem dk_X12_writes : dt_X12_writes.all (fun q => decide (decode cX12_writes q.1 = .ok q.2)) = true := by decide +kernel
set_option maxRecDepth 100000 in
def f_X12_writes (r0 : Nat) (x1 : Int32) (M : Mem) : Option Mem := Option.bind (zrf M r0 74) fun q1 => Option.bind (zld q1 (zI M r0 75)) fun k2 => Option.bind (some (zsI M q1 k2 (x1 &&& 255))) fun M3 => Option.bind (some (zsI M3 r0 75 ((zI M3 r0 75) + 1))) fun M4 => some M4
set_option maxRecDepth 100000 in
set_option maxHeartbeats 4000000 in
theorem x_X12_writes {κ : KX} {n : Nat} (hC : CX κ cX12_writes RX12 2 none 0) (hE : zEnd κ n (0, 0)) (hk0 : zRk κ (0, 0)) (r0 : Nat) (x1 : Int32) (M : Mem) (h_r0 : zO n r0 12) : X κ 2 emV n (0, 0) 0 [.ref r0, .int x1] [] M (f_X12_writes r0 x1 M) := by
  unfold f_X12_writes
  refine x_aload_n (i := 0) rfl hC (zdk dk_X12_writes 0 rfl) (q := 1) rfl ?_
  refine x_getR (k := 20) fl_RX12_237 rfl h_r0 hC (zdk dk_X12_writes 1 rfl) (q := 4) rfl (fun q1 hq1 => ?_)
  refine x_aload_n (i := 0) rfl hC (zdk dk_X12_writes 2 rfl) (q := 5) rfl ?_
  refine x_getI fl_RX12_240 (by decide) h_r0 hC (zdk dk_X12_writes 3 rfl) (q := 8) rfl ?_
  refine x_iload_n (i := 1) rfl hC (zdk dk_X12_writes 4 rfl) (q := 9) rfl ?_
  refine x_sipush (i := 255) c_sipush_255 hC (zdk dk_X12_writes 5 rfl) (q := 12) rfl ?_
  refine x_iand hC (zdk dk_X12_writes 6 rfl) (q := 13) rfl ?_
  refine x_iast hq1 hC (zdk dk_X12_writes 7 rfl) (q := 14) rfl (fun k2 _ => ?_)
  refine x_nmM (fun M3 => ?_)
  refine x_aload_n (i := 0) rfl hC (zdk dk_X12_writes 8 rfl) (q := 15) rfl ?_
  refine x_dup rfl hC (zdk dk_X12_writes 9 rfl) (q := 16) rfl ?_
  refine x_getI fl_RX12_240 (by decide) h_r0 hC (zdk dk_X12_writes 10 rfl) (q := 19) rfl ?_
  refine x_iconst (i := 1) c_iconst_1 hC (zdk dk_X12_writes 11 rfl) (q := 20) rfl ?_
  refine x_iadd hC (zdk dk_X12_writes 12 rfl) (q := 21) rfl ?_
  refine x_putI fl_RX12_240 ⟨rfl, rfl⟩ (by decide) (Or.inl rfl) h_r0 hC (zdk dk_X12_writes 13 rfl) (q := 24) rfl ?_
  refine x_nmM (fun M4 => ?_)
  exact x_vret hE hC (zdk dk_X12_writes 14 rfl)
set_option maxRecDepth 100000 in
set_option maxHeartbeats 4000000 in
theorem t_X12_writes {n : Nat} {r0 : Nat} {x1 : Int32} {M : Mem} (h_r0 : zO n r0 12) (x : Mem) (hx : f_X12_writes r0 x1 M = some x) (l : Launch) (dC : Nat → ClassId) (dI : Nat → Nat → Nat) (b : zSg) : MT l dC dI b yX12_writes cX12_writes 2 none 0 0 0 n n [.ref r0, .int x1] M (emV x).1 (emV x).2 :=
  MT.ofX (by decide +kernel) rfl (Nat.le_of_ble_eq_true rfl) (fun κ hC hF _ => x_X12_writes hC (zEnd_of hF (Nat.le_refl _) (Nat.le_refl _)) (zRk_of hF (Nat.le_refl _) (Nat.le_refl _)) _ _ _ h_r0) x hx
set_option maxRecDepth 100000 in
def dt_X12_image : List (Nat × Instr × Nat) := [(0, .aload_n 0, 1), (1, .iconst 0, 1), (2, .putfield 240, 3), (5, .aload_n 0, 1), (6, .aload_n 0, 1), (7, .getfield 180, 3), (10, .iconst 0, 1), (11, .iaload, 1), (12, .bipush 8, 2), (14, .ishr, 1), (15, .invokevirtual 582, 3), (18, .aload_n 0, 1), (19, .aload_n 0, 1), (20, .getfield 180, 3), (23, .iconst 0, 1), (24, .iaload, 1), (25, .invokevirtual 582, 3), (28, .iconst 0, 1), (29, .istore_n 1, 1), (30, .iload_n 1, 1), (31, .aload_n 0, 1), (32, .getfield 57, 3), (35, .aload_n 0, 1), (36, .getfield 51, 3), (39, .iaload, 1), (40, .if_icmp .ge 98, 3), (43, .aload_n 0, 1), (44, .aload_n 0, 1), (45, .getfield 183, 3), (48, .iload_n 1, 1), (49, .iaload, 1), (50, .invokevirtual 582, 3), (53, .aload_n 0, 1), (54, .getfield 183, 3), (57, .iload_n 1, 1), (58, .iaload, 1), (59, .ifCond .ne 6, 3), (62, .goto 70, 3), (65, .aload_n 0, 1), (66, .aload_n 0, 1), (67, .getfield 186, 3), (70, .iload_n 1, 1), (71, .iaload, 1), (72, .invokevirtual 582, 3), (75, .bipush 56, 2), (77, .istore_n 2, 1), (78, .iload_n 2, 1), (79, .ifCond .lt 26, 3), (82, .aload_n 0, 1), (83, .aload_n 0, 1), (84, .getfield 189, 3), (87, .iload_n 1, 1), (88, .laload, 1), (89, .iload_n 2, 1), (90, .lshr, 1), (91, .ldc2_w 534, 3), (94, .land, 1), (95, .l2i, 1), (96, .invokevirtual 582, 3), (99, .iinc 2 (-8), 3), (102, .goto (-24), 3), (105, .iconst 0, 1), (106, .istore_n 2, 1), (107, .iload_n 2, 1), (108, .aload_n 0, 1), (109, .getfield 132, 3), (112, .if_icmp .ge 20, 3), (115, .aload_n 0, 1), (116, .aload_n 0, 1), (117, .iconst 0, 1), (118, .iload_n 1, 1), (119, .iload_n 2, 1), (120, .invokevirtual 500, 3), (123, .invokevirtual 582, 3), (126, .iinc 2 1, 3), (129, .goto (-22), 3), (132, .iinc 1 1, 3), (135, .goto (-105), 3), (138, .sipush 211, 3), (141, .istore_n 1, 1), (142, .iconst 0, 1), (143, .istore_n 2, 1), (144, .iload_n 2, 1), (145, .aload_n 0, 1), (146, .getfield 240, 3), (149, .if_icmp .ge 24, 3), (152, .iconst 5, 1), (153, .iload_n 1, 1), (154, .imul, 1), (155, .aload_n 0, 1), (156, .getfield 237, 3), (159, .iload_n 2, 1), (160, .iaload, 1), (161, .iadd, 1), (162, .sipush 251, 3), (165, .irem, 1), (166, .istore_n 1, 1), (167, .iinc 2 1, 3), (170, .goto (-26), 3), (173, .aload_n 0, 1), (174, .iload_n 1, 1), (175, .invokevirtual 582, 3), (178, .aload_n 0, 1), (179, .getfield 240, 3), (182, .ireturn, 1)]
set_option maxRecDepth 100000 in
theorem dk_X12_image : dt_X12_image.all (fun q => decide (decode cX12_image q.1 = .ok q.2)) = true := by decide +kernel
set_option maxRecDepth 100000 in
def f_X12_image_132 (k30 : Int32 → Mem → Option (Int32 × Mem)) (r0 : Nat) (x1 : Int32) (M : Mem) : Option (Int32 × Mem) := k30 (x1 + 1) M
set_option maxRecDepth 100000 in
set_option maxHeartbeats 4000000 in
theorem x_X12_image_132 {κ : KX} {n : Nat} (hC : CX κ cX12_image RX12 3 (some .int) 1) (hE : zEnd κ n (0, 0)) (hk0 : zRk κ (0, 0)) {r0 : Nat} (h_r0 : zO n r0 12) (k30 : Int32 → Mem → Option (Int32 × Mem)) (hk30 : ∀ (x1 : Int32) (M : Mem), X κ 3 emI n (0, 0) 30 [.ref r0, .int x1, .null] [] M (k30 x1 M)) (x1 : Int32) (M : Mem) : X κ 3 emI n (0, 0) 132 [.ref r0, .int x1, .null] [] M (f_X12_image_132 k30 r0 x1 M) := by
  unfold f_X12_image_132
  refine x_iinc (i := 1) c_iconst_1 rfl (by decide) (L' := [.ref r0, .int (x1 + 1), .null]) rfl hC (zdk dk_X12_image 76 rfl) (q := 135) rfl ?_
  refine x_goto (tgt := 30) hC (zdk dk_X12_image 77 rfl) rfl ?_
  refine x_weak (L' := [.ref r0, .int (x1 + 1), .null]) ⟨Or.inr rfl, Or.inr rfl, Or.inl rfl, trivial⟩ ?_
  exact hk30 _ _
set_option maxRecDepth 100000 in
def f_X12_image_107 (k30 : Int32 → Mem → Option (Int32 × Mem)) (r0 : Nat) : Nat → Int32 → Int32 → Mem → Option (Int32 × Mem)
  | 0, _, _, _ => none
  | f + 1, x1, x2, M => (if zI M r0 39 ≤ x2 then f_X12_image_132 k30 r0 x1 M else Option.bind (f_X12_levelAt r0 0 x1 x2 M) fun z1 => Option.bind (f_X12_writes r0 z1.1 z1.2) fun M2 => (f_X12_image_107 k30 r0 f) x1 (x2 + 1) M2)
set_option maxRecDepth 100000 in
set_option maxHeartbeats 4000000 in
theorem x_X12_image_107 {κ : KX} {n : Nat} (hC : CX κ cX12_image RX12 3 (some .int) 1) (hE : zEnd κ n (0, 0)) (hk0 : zRk κ (0, 0)) {r0 : Nat} (h_r0 : zO n r0 12) (k30 : Int32 → Mem → Option (Int32 × Mem)) (hk30 : ∀ (x1 : Int32) (M : Mem), X κ 3 emI n (0, 0) 30 [.ref r0, .int x1, .null] [] M (k30 x1 M)) : ∀ (f : Nat) (x1 : Int32) (x2 : Int32) (M : Mem), X κ 3 emI n (0, 0) 107 [.ref r0, .int x1, .int x2] [] M (f_X12_image_107 k30 r0 f x1 x2 M) := by
  intro f
  induction f with
  | zero => intros; exact x_none
  | succ f ih =>
    intro x1 x2 M 
    rw [f_X12_image_107]
    refine x_iload_n (i := 2) rfl hC (zdk dk_X12_image 63 rfl) (q := 108) rfl ?_
    refine x_aload_n (i := 0) rfl hC (zdk dk_X12_image 64 rfl) (q := 109) rfl ?_
    refine x_getI fl_RX12_132 (by decide) h_r0 hC (zdk dk_X12_image 65 rfl) (q := 112) rfl ?_
    refine x_icmp_ge (tgt := 132) hC (zdk dk_X12_image 66 rfl) (q := 115) rfl rfl (fun _ => ?_) (fun _ => ?_)
    · refine x_weak (L' := [.ref r0, .int x1, .null]) ⟨Or.inr rfl, Or.inr rfl, Or.inl rfl, trivial⟩ ?_
      exact x_X12_image_132 hC hE hk0 h_r0 k30 hk30 _ _
    · refine x_aload_n (i := 0) rfl hC (zdk dk_X12_image 67 rfl) (q := 116) rfl ?_
      refine x_aload_n (i := 0) rfl hC (zdk dk_X12_image 68 rfl) (q := 117) rfl ?_
      refine x_iconst (i := 0) c_iconst_0 hC (zdk dk_X12_image 69 rfl) (q := 118) rfl ?_
      refine x_iload_n (i := 1) rfl hC (zdk dk_X12_image 70 rfl) (q := 119) rfl ?_
      refine x_iload_n (i := 2) rfl hC (zdk dk_X12_image 71 rfl) (q := 120) rfl ?_
      refine x_callVi (as := [.int 0, .int x1, .int x2]) cb_RX12_500 rfl (by decide) hk0 h_r0 (fun x hx => t_X12_levelAt h_r0 x hx) hC (zdk dk_X12_image 72 rfl) (q := 123) rfl rfl (Nat.le_of_ble_eq_true rfl) (fun z1 => ?_)
      refine x_callVv (as := [.int z1.1]) cb_RX12_582 rfl (by decide) hk0 h_r0 (fun x hx => t_X12_writes h_r0 x hx) hC (zdk dk_X12_image 73 rfl) (q := 126) rfl rfl (Nat.le_of_ble_eq_true rfl) (fun M2 => ?_)
      refine x_iinc (i := 2) c_iconst_1 rfl (by decide) (L' := [.ref r0, .int x1, .int (x2 + 1)]) rfl hC (zdk dk_X12_image 74 rfl) (q := 129) rfl ?_
      refine x_goto (tgt := 107) hC (zdk dk_X12_image 75 rfl) rfl ?_
      refine x_weak (L' := [.ref r0, .int x1, .int (x2 + 1)]) ⟨Or.inr rfl, Or.inr rfl, Or.inr rfl, trivial⟩ ?_
      exact ih _ _ _
set_option maxRecDepth 100000 in
def f_X12_image_78 (k30 : Int32 → Mem → Option (Int32 × Mem)) (r0 : Nat) : Nat → Int32 → Int32 → Mem → Option (Int32 × Mem)
  | 0, _, _, _ => none
  | f + 1, x1, x2, M => (if x2 < 0 then f_X12_image_107 k30 r0 1000000 x1 0 M else Option.bind (zrf M r0 58) fun q3 => Option.bind (zld q3 x1) fun k4 => Option.bind (f_X12_writes r0 ((((zL M q3 k4) >>> (x2.toInt64 &&& 63)) &&& 255).toInt32) M) fun M5 => (f_X12_image_78 k30 r0 f) x1 (x2 + (-8)) M5)
set_option maxRecDepth 100000 in
set_option maxHeartbeats 4000000 in
theorem x_X12_image_78 {κ : KX} {n : Nat} (hC : CX κ cX12_image RX12 3 (some .int) 1) (hE : zEnd κ n (0, 0)) (hk0 : zRk κ (0, 0)) {r0 : Nat} (h_r0 : zO n r0 12) (k30 : Int32 → Mem → Option (Int32 × Mem)) (hk30 : ∀ (x1 : Int32) (M : Mem), X κ 3 emI n (0, 0) 30 [.ref r0, .int x1, .null] [] M (k30 x1 M)) : ∀ (f : Nat) (x1 : Int32) (x2 : Int32) (M : Mem), X κ 3 emI n (0, 0) 78 [.ref r0, .int x1, .int x2] [] M (f_X12_image_78 k30 r0 f x1 x2 M) := by
  intro f
  induction f with
  | zero => intros; exact x_none
  | succ f ih =>
    intro x1 x2 M 
    rw [f_X12_image_78]
    refine x_iload_n (i := 2) rfl hC (zdk dk_X12_image 46 rfl) (q := 79) rfl ?_
    refine x_if_lt (tgt := 105) hC (zdk dk_X12_image 47 rfl) (q := 82) rfl rfl (fun _ => ?_) (fun _ => ?_)
    · refine x_iconst (i := 0) c_iconst_0 hC (zdk dk_X12_image 61 rfl) (q := 106) rfl ?_
      refine x_istore_n (i := 2) (L' := [.ref r0, .int x1, .int 0]) (by decide) rfl hC (zdk dk_X12_image 62 rfl) (q := 107) rfl ?_
      refine x_weak (L' := [.ref r0, .int x1, .int 0]) ⟨Or.inr rfl, Or.inr rfl, Or.inr rfl, trivial⟩ ?_
      exact x_X12_image_107 hC hE hk0 h_r0 k30 hk30 _ _ _ _
    · refine x_aload_n (i := 0) rfl hC (zdk dk_X12_image 48 rfl) (q := 83) rfl ?_
      refine x_aload_n (i := 0) rfl hC (zdk dk_X12_image 49 rfl) (q := 84) rfl ?_
      refine x_getR (k := 21) fl_RX12_189 rfl h_r0 hC (zdk dk_X12_image 50 rfl) (q := 87) rfl (fun q3 hq3 => ?_)
      refine x_iload_n (i := 1) rfl hC (zdk dk_X12_image 51 rfl) (q := 88) rfl ?_
      refine x_lald hq3 hC (zdk dk_X12_image 52 rfl) (q := 89) rfl (fun k4 _ => ?_)
      refine x_iload_n (i := 2) rfl hC (zdk dk_X12_image 53 rfl) (q := 90) rfl ?_
      refine x_lshr hC (zdk dk_X12_image 54 rfl) (q := 91) rfl ?_
      refine x_ldc2 k_RX12_534 hC (zdk dk_X12_image 55 rfl) (q := 94) rfl ?_
      refine x_land hC (zdk dk_X12_image 56 rfl) (q := 95) rfl ?_
      refine x_l2i hC (zdk dk_X12_image 57 rfl) (q := 96) rfl ?_
      refine x_callVv (as := [.int ((((zL M q3 k4) >>> (x2.toInt64 &&& 63)) &&& 255).toInt32)]) cb_RX12_582 rfl (by decide) hk0 h_r0 (fun x hx => t_X12_writes h_r0 x hx) hC (zdk dk_X12_image 58 rfl) (q := 99) rfl rfl (Nat.le_of_ble_eq_true rfl) (fun M5 => ?_)
      refine x_iinc (i := 2) c_iconst_m8 rfl (by decide) (L' := [.ref r0, .int x1, .int (x2 + (-8))]) rfl hC (zdk dk_X12_image 59 rfl) (q := 102) rfl ?_
      refine x_goto (tgt := 78) hC (zdk dk_X12_image 60 rfl) rfl ?_
      refine x_weak (L' := [.ref r0, .int x1, .int (x2 + (-8))]) ⟨Or.inr rfl, Or.inr rfl, Or.inr rfl, trivial⟩ ?_
      exact ih _ _ _
set_option maxRecDepth 100000 in
def f_X12_image_144  (r0 : Nat) : Nat → Int32 → Int32 → Mem → Option (Int32 × Mem)
  | 0, _, _, _ => none
  | f + 1, x1, x2, M => (if zI M r0 75 ≤ x2 then Option.bind (f_X12_writes r0 x1 M) fun M6 => some (zI M6 r0 75, M6) else Option.bind (zrf M r0 74) fun q7 => Option.bind (zld q7 x2) fun k8 => (f_X12_image_144 r0 f) (zrem ((5 * x1) + (zI M q7 k8)) 251) (x2 + 1) M)
set_option maxRecDepth 100000 in
set_option maxHeartbeats 4000000 in
theorem x_X12_image_144 {κ : KX} {n : Nat} (hC : CX κ cX12_image RX12 3 (some .int) 1) (hE : zEnd κ n (0, 0)) (hk0 : zRk κ (0, 0)) {r0 : Nat} (h_r0 : zO n r0 12) : ∀ (f : Nat) (x1 : Int32) (x2 : Int32) (M : Mem), X κ 3 emI n (0, 0) 144 [.ref r0, .int x1, .int x2] [] M (f_X12_image_144 r0 f x1 x2 M) := by
  intro f
  induction f with
  | zero => intros; exact x_none
  | succ f ih =>
    intro x1 x2 M 
    rw [f_X12_image_144]
    refine x_iload_n (i := 2) rfl hC (zdk dk_X12_image 82 rfl) (q := 145) rfl ?_
    refine x_aload_n (i := 0) rfl hC (zdk dk_X12_image 83 rfl) (q := 146) rfl ?_
    refine x_getI fl_RX12_240 (by decide) h_r0 hC (zdk dk_X12_image 84 rfl) (q := 149) rfl ?_
    refine x_icmp_ge (tgt := 173) hC (zdk dk_X12_image 85 rfl) (q := 152) rfl rfl (fun _ => ?_) (fun _ => ?_)
    · refine x_aload_n (i := 0) rfl hC (zdk dk_X12_image 99 rfl) (q := 174) rfl ?_
      refine x_iload_n (i := 1) rfl hC (zdk dk_X12_image 100 rfl) (q := 175) rfl ?_
      refine x_callVv (as := [.int x1]) cb_RX12_582 rfl (by decide) hk0 h_r0 (fun x hx => t_X12_writes h_r0 x hx) hC (zdk dk_X12_image 101 rfl) (q := 178) rfl rfl (Nat.le_of_ble_eq_true rfl) (fun M6 => ?_)
      refine x_aload_n (i := 0) rfl hC (zdk dk_X12_image 102 rfl) (q := 179) rfl ?_
      refine x_getI fl_RX12_240 (by decide) h_r0 hC (zdk dk_X12_image 103 rfl) (q := 182) rfl ?_
      exact x_iret (ty := .int) rfl hE hC (zdk dk_X12_image 104 rfl)
    · refine x_iconst (i := 5) c_iconst_5 hC (zdk dk_X12_image 86 rfl) (q := 153) rfl ?_
      refine x_iload_n (i := 1) rfl hC (zdk dk_X12_image 87 rfl) (q := 154) rfl ?_
      refine x_imul hC (zdk dk_X12_image 88 rfl) (q := 155) rfl ?_
      refine x_aload_n (i := 0) rfl hC (zdk dk_X12_image 89 rfl) (q := 156) rfl ?_
      refine x_getR (k := 20) fl_RX12_237 rfl h_r0 hC (zdk dk_X12_image 90 rfl) (q := 159) rfl (fun q7 hq7 => ?_)
      refine x_iload_n (i := 2) rfl hC (zdk dk_X12_image 91 rfl) (q := 160) rfl ?_
      refine x_iald hq7 hC (zdk dk_X12_image 92 rfl) (q := 161) rfl (fun k8 _ => ?_)
      refine x_iadd hC (zdk dk_X12_image 93 rfl) (q := 162) rfl ?_
      refine x_sipush (i := 251) c_sipush_251 hC (zdk dk_X12_image 94 rfl) (q := 165) rfl ?_
      refine x_irem (by decide) hC (zdk dk_X12_image 95 rfl) (q := 166) rfl ?_
      refine x_istore_n (i := 1) (L' := [.ref r0, .int (zrem ((5 * x1) + (zI M q7 k8)) 251), .int x2]) (by decide) rfl hC (zdk dk_X12_image 96 rfl) (q := 167) rfl ?_
      refine x_iinc (i := 2) c_iconst_1 rfl (by decide) (L' := [.ref r0, .int (zrem ((5 * x1) + (zI M q7 k8)) 251), .int (x2 + 1)]) rfl hC (zdk dk_X12_image 97 rfl) (q := 170) rfl ?_
      refine x_goto (tgt := 144) hC (zdk dk_X12_image 98 rfl) rfl ?_
      refine x_weak (L' := [.ref r0, .int (zrem ((5 * x1) + (zI M q7 k8)) 251), .int (x2 + 1)]) ⟨Or.inr rfl, Or.inr rfl, Or.inr rfl, trivial⟩ ?_
      exact ih _ _ _
set_option maxRecDepth 100000 in
def f_X12_image_30  (r0 : Nat) : Nat → Int32 → Mem → Option (Int32 × Mem)
  | 0, _, _ => none
  | f + 1, x1, M => Option.bind (zrf M r0 15) fun q9 => Option.bind (zld q9 (zI M r0 13)) fun k10 => (if zI M q9 k10 ≤ x1 then f_X12_image_144 r0 1000000 211 0 M else Option.bind (zrf M r0 56) fun q11 => Option.bind (zld q11 x1) fun k12 => Option.bind (f_X12_writes r0 (zI M q11 k12) M) fun M13 => Option.bind (zrf M13 r0 56) fun q14 => Option.bind (zld q14 x1) fun k15 => (if zI M13 q14 k15 = 0 then f_X12_image_132 (f_X12_image_30 r0 f) r0 x1 M13 else Option.bind (zrf M13 r0 57) fun q16 => Option.bind (zld q16 x1) fun k17 => Option.bind (f_X12_writes r0 (zI M13 q16 k17) M13) fun M18 => f_X12_image_78 (f_X12_image_30 r0 f) r0 1000000 x1 56 M18))
set_option maxRecDepth 100000 in
set_option maxHeartbeats 4000000 in
theorem x_X12_image_30 {κ : KX} {n : Nat} (hC : CX κ cX12_image RX12 3 (some .int) 1) (hE : zEnd κ n (0, 0)) (hk0 : zRk κ (0, 0)) {r0 : Nat} (h_r0 : zO n r0 12) : ∀ (f : Nat) (x1 : Int32) (M : Mem), X κ 3 emI n (0, 0) 30 [.ref r0, .int x1, .null] [] M (f_X12_image_30 r0 f x1 M) := by
  intro f
  induction f with
  | zero => intros; exact x_none
  | succ f ih =>
    intro x1 M 
    rw [f_X12_image_30]
    refine x_iload_n (i := 1) rfl hC (zdk dk_X12_image 19 rfl) (q := 31) rfl ?_
    refine x_aload_n (i := 0) rfl hC (zdk dk_X12_image 20 rfl) (q := 32) rfl ?_
    refine x_getR (k := 20) fl_RX12_57 rfl h_r0 hC (zdk dk_X12_image 21 rfl) (q := 35) rfl (fun q9 hq9 => ?_)
    refine x_aload_n (i := 0) rfl hC (zdk dk_X12_image 22 rfl) (q := 36) rfl ?_
    refine x_getI fl_RX12_51 (by decide) h_r0 hC (zdk dk_X12_image 23 rfl) (q := 39) rfl ?_
    refine x_iald hq9 hC (zdk dk_X12_image 24 rfl) (q := 40) rfl (fun k10 _ => ?_)
    refine x_icmp_ge (tgt := 138) hC (zdk dk_X12_image 25 rfl) (q := 43) rfl rfl (fun _ => ?_) (fun _ => ?_)
    · refine x_sipush (i := 211) c_sipush_211 hC (zdk dk_X12_image 78 rfl) (q := 141) rfl ?_
      refine x_istore_n (i := 1) (L' := [.ref r0, .int 211, .null]) (by decide) rfl hC (zdk dk_X12_image 79 rfl) (q := 142) rfl ?_
      refine x_iconst (i := 0) c_iconst_0 hC (zdk dk_X12_image 80 rfl) (q := 143) rfl ?_
      refine x_istore_n (i := 2) (L' := [.ref r0, .int 211, .int 0]) (by decide) rfl hC (zdk dk_X12_image 81 rfl) (q := 144) rfl ?_
      refine x_weak (L' := [.ref r0, .int 211, .int 0]) ⟨Or.inr rfl, Or.inr rfl, Or.inr rfl, trivial⟩ ?_
      exact x_X12_image_144 hC hE hk0 h_r0 _ _ _ _
    · refine x_aload_n (i := 0) rfl hC (zdk dk_X12_image 26 rfl) (q := 44) rfl ?_
      refine x_aload_n (i := 0) rfl hC (zdk dk_X12_image 27 rfl) (q := 45) rfl ?_
      refine x_getR (k := 20) fl_RX12_183 rfl h_r0 hC (zdk dk_X12_image 28 rfl) (q := 48) rfl (fun q11 hq11 => ?_)
      refine x_iload_n (i := 1) rfl hC (zdk dk_X12_image 29 rfl) (q := 49) rfl ?_
      refine x_iald hq11 hC (zdk dk_X12_image 30 rfl) (q := 50) rfl (fun k12 _ => ?_)
      refine x_callVv (as := [.int (zI M q11 k12)]) cb_RX12_582 rfl (by decide) hk0 h_r0 (fun x hx => t_X12_writes h_r0 x hx) hC (zdk dk_X12_image 31 rfl) (q := 53) rfl rfl (Nat.le_of_ble_eq_true rfl) (fun M13 => ?_)
      refine x_aload_n (i := 0) rfl hC (zdk dk_X12_image 32 rfl) (q := 54) rfl ?_
      refine x_getR (k := 20) fl_RX12_183 rfl h_r0 hC (zdk dk_X12_image 33 rfl) (q := 57) rfl (fun q14 hq14 => ?_)
      refine x_iload_n (i := 1) rfl hC (zdk dk_X12_image 34 rfl) (q := 58) rfl ?_
      refine x_iald hq14 hC (zdk dk_X12_image 35 rfl) (q := 59) rfl (fun k15 _ => ?_)
      refine x_if_ne (tgt := 65) hC (zdk dk_X12_image 36 rfl) (q := 62) rfl rfl (fun _ => ?_) (fun _ => ?_)
      · refine x_aload_n (i := 0) rfl hC (zdk dk_X12_image 38 rfl) (q := 66) rfl ?_
        refine x_aload_n (i := 0) rfl hC (zdk dk_X12_image 39 rfl) (q := 67) rfl ?_
        refine x_getR (k := 20) fl_RX12_186 rfl h_r0 hC (zdk dk_X12_image 40 rfl) (q := 70) rfl (fun q16 hq16 => ?_)
        refine x_iload_n (i := 1) rfl hC (zdk dk_X12_image 41 rfl) (q := 71) rfl ?_
        refine x_iald hq16 hC (zdk dk_X12_image 42 rfl) (q := 72) rfl (fun k17 _ => ?_)
        refine x_callVv (as := [.int (zI M13 q16 k17)]) cb_RX12_582 rfl (by decide) hk0 h_r0 (fun x hx => t_X12_writes h_r0 x hx) hC (zdk dk_X12_image 43 rfl) (q := 75) rfl rfl (Nat.le_of_ble_eq_true rfl) (fun M18 => ?_)
        refine x_bipush (i := 56) c_bipush_56 hC (zdk dk_X12_image 44 rfl) (q := 77) rfl ?_
        refine x_istore_n (i := 2) (L' := [.ref r0, .int x1, .int 56]) (by decide) rfl hC (zdk dk_X12_image 45 rfl) (q := 78) rfl ?_
        refine x_weak (L' := [.ref r0, .int x1, .int 56]) ⟨Or.inr rfl, Or.inr rfl, Or.inr rfl, trivial⟩ ?_
        exact x_X12_image_78 hC hE hk0 h_r0 (f_X12_image_30 r0 f) ih _ _ _ _
      · refine x_goto (tgt := 132) hC (zdk dk_X12_image 37 rfl) rfl ?_
        refine x_weak (L' := [.ref r0, .int x1, .null]) ⟨Or.inr rfl, Or.inr rfl, Or.inl rfl, trivial⟩ ?_
        exact x_X12_image_132 hC hE hk0 h_r0 (f_X12_image_30 r0 f) ih _ _
set_option maxRecDepth 100000 in
def f_X12_image (r0 : Nat) (M : Mem) : Option (Int32 × Mem) := Option.bind (some (zsI M r0 75 0)) fun M19 => Option.bind (zrf M19 r0 55) fun q20 => Option.bind (zld q20 0) fun k21 => Option.bind (f_X12_writes r0 ((zI M19 q20 k21) >>> (8 &&& 31)) M19) fun M22 => Option.bind (zrf M22 r0 55) fun q23 => Option.bind (zld q23 0) fun k24 => Option.bind (f_X12_writes r0 (zI M22 q23 k24) M22) fun M25 => f_X12_image_30 r0 1000000 0 M25
set_option maxRecDepth 100000 in
set_option maxHeartbeats 4000000 in
theorem x_X12_image {κ : KX} {n : Nat} (hC : CX κ cX12_image RX12 3 (some .int) 1) (hE : zEnd κ n (0, 0)) (hk0 : zRk κ (0, 0)) (r0 : Nat) (M : Mem) (h_r0 : zO n r0 12) : X κ 3 emI n (0, 0) 0 [.ref r0, .null, .null] [] M (f_X12_image r0 M) := by
  unfold f_X12_image
  refine x_aload_n (i := 0) rfl hC (zdk dk_X12_image 0 rfl) (q := 1) rfl ?_
  refine x_iconst (i := 0) c_iconst_0 hC (zdk dk_X12_image 1 rfl) (q := 2) rfl ?_
  refine x_putI fl_RX12_240 ⟨rfl, rfl⟩ (by decide) (Or.inl rfl) h_r0 hC (zdk dk_X12_image 2 rfl) (q := 5) rfl ?_
  refine x_nmM (fun M19 => ?_)
  refine x_aload_n (i := 0) rfl hC (zdk dk_X12_image 3 rfl) (q := 6) rfl ?_
  refine x_aload_n (i := 0) rfl hC (zdk dk_X12_image 4 rfl) (q := 7) rfl ?_
  refine x_getR (k := 20) fl_RX12_180 rfl h_r0 hC (zdk dk_X12_image 5 rfl) (q := 10) rfl (fun q20 hq20 => ?_)
  refine x_iconst (i := 0) c_iconst_0 hC (zdk dk_X12_image 6 rfl) (q := 11) rfl ?_
  refine x_iald hq20 hC (zdk dk_X12_image 7 rfl) (q := 12) rfl (fun k21 _ => ?_)
  refine x_bipush (i := 8) c_bipush_8 hC (zdk dk_X12_image 8 rfl) (q := 14) rfl ?_
  refine x_ishr hC (zdk dk_X12_image 9 rfl) (q := 15) rfl ?_
  refine x_callVv (as := [.int ((zI M19 q20 k21) >>> (8 &&& 31))]) cb_RX12_582 rfl (by decide) hk0 h_r0 (fun x hx => t_X12_writes h_r0 x hx) hC (zdk dk_X12_image 10 rfl) (q := 18) rfl rfl (Nat.le_of_ble_eq_true rfl) (fun M22 => ?_)
  refine x_aload_n (i := 0) rfl hC (zdk dk_X12_image 11 rfl) (q := 19) rfl ?_
  refine x_aload_n (i := 0) rfl hC (zdk dk_X12_image 12 rfl) (q := 20) rfl ?_
  refine x_getR (k := 20) fl_RX12_180 rfl h_r0 hC (zdk dk_X12_image 13 rfl) (q := 23) rfl (fun q23 hq23 => ?_)
  refine x_iconst (i := 0) c_iconst_0 hC (zdk dk_X12_image 14 rfl) (q := 24) rfl ?_
  refine x_iald hq23 hC (zdk dk_X12_image 15 rfl) (q := 25) rfl (fun k24 _ => ?_)
  refine x_callVv (as := [.int (zI M22 q23 k24)]) cb_RX12_582 rfl (by decide) hk0 h_r0 (fun x hx => t_X12_writes h_r0 x hx) hC (zdk dk_X12_image 16 rfl) (q := 28) rfl rfl (Nat.le_of_ble_eq_true rfl) (fun M25 => ?_)
  refine x_iconst (i := 0) c_iconst_0 hC (zdk dk_X12_image 17 rfl) (q := 29) rfl ?_
  refine x_istore_n (i := 1) (L' := [.ref r0, .int 0, .null]) (by decide) rfl hC (zdk dk_X12_image 18 rfl) (q := 30) rfl ?_
  refine x_weak (L' := [.ref r0, .int 0, .null]) ⟨Or.inr rfl, Or.inr rfl, Or.inl rfl, trivial⟩ ?_
  exact x_X12_image_30 hC hE hk0 h_r0 _ _ _
set_option maxRecDepth 100000 in
set_option maxHeartbeats 4000000 in
theorem t_X12_image {n : Nat} {r0 : Nat} {M : Mem} (h_r0 : zO n r0 12) (x : (Int32 × Mem)) (hx : f_X12_image r0 M = some x) (l : Launch) (dC : Nat → ClassId) (dI : Nat → Nat → Nat) (b : zSg) : MT l dC dI b yX12_image cX12_image 3 (some .int) 1 0 0 n n [.ref r0] M (emI x).1 (emI x).2 :=
  MT.ofX (by decide +kernel) rfl (Nat.le_of_ble_eq_true rfl) (fun κ hC hF _ => x_X12_image hC (zEnd_of hF (Nat.le_refl _) (Nat.le_refl _)) (zRk_of hF (Nat.le_refl _) (Nat.le_refl _)) _ _ h_r0) x hx
set_option maxRecDepth 100000 in
def dt_X12_octet : List (Nat × Instr × Nat) := [(0, .iload_n 1, 1), (1, .iconst 0, 1), (2, .aload_n 0, 1), (3, .getfield 240, 3), (6, .iconst 1, 1), (7, .isub, 1), (8, .invokestatic 325, 3), (11, .ifCond .eq 12, 3), (14, .aload_n 0, 1), (15, .getfield 237, 3), (18, .iload_n 1, 1), (19, .iaload, 1), (20, .goto 4, 3), (23, .iconst (-1), 1), (24, .ireturn, 1)]
set_option maxRecDepth 100000 in
theorem dk_X12_octet : dt_X12_octet.all (fun q => decide (decode cX12_octet q.1 = .ok q.2)) = true := by decide +kernel
set_option maxRecDepth 100000 in
def f_X12_octet_24  (r0 : Nat) (x1 : Int32) (s0 : Int32) (M : Mem) : Option (Int32 × Mem) := some (s0, M)
set_option maxRecDepth 100000 in
set_option maxHeartbeats 4000000 in
theorem x_X12_octet_24 {κ : KX} {n : Nat} (hC : CX κ cX12_octet RX12 2 (some .int) 1) (hE : zEnd κ n (0, 0)) (hk0 : zRk κ (0, 0)) {r0 : Nat} {x1 : Int32} (h_r0 : zO n r0 12) (s0 : Int32) (M : Mem) : X κ 2 emI n (0, 0) 24 [.null, .null] [.int s0] M (f_X12_octet_24 r0 x1 s0 M) := by
  unfold f_X12_octet_24
  exact x_iret (ty := .int) rfl hE hC (zdk dk_X12_octet 14 rfl)
set_option maxRecDepth 100000 in
def f_X12_octet (r0 : Nat) (x1 : Int32) (M : Mem) : Option (Int32 × Mem) := Option.bind (f_X12_is x1 0 ((zI M r0 75) - 1) M) fun z1 => (if z1.1 = 0 then f_X12_octet_24 r0 x1 ((-1)) z1.2 else Option.bind (zrf z1.2 r0 74) fun q2 => Option.bind (zld q2 x1) fun k3 => f_X12_octet_24 r0 x1 (zI z1.2 q2 k3) z1.2)
set_option maxRecDepth 100000 in
set_option maxHeartbeats 4000000 in
theorem x_X12_octet {κ : KX} {n : Nat} (hC : CX κ cX12_octet RX12 2 (some .int) 1) (hE : zEnd κ n (0, 0)) (hk0 : zRk κ (0, 0)) (r0 : Nat) (x1 : Int32) (M : Mem) (h_r0 : zO n r0 12) : X κ 2 emI n (0, 0) 0 [.ref r0, .int x1] [] M (f_X12_octet r0 x1 M) := by
  unfold f_X12_octet
  refine x_iload_n (i := 1) rfl hC (zdk dk_X12_octet 0 rfl) (q := 1) rfl ?_
  refine x_iconst (i := 0) c_iconst_0 hC (zdk dk_X12_octet 1 rfl) (q := 2) rfl ?_
  refine x_aload_n (i := 0) rfl hC (zdk dk_X12_octet 2 rfl) (q := 3) rfl ?_
  refine x_getI fl_RX12_240 (by decide) h_r0 hC (zdk dk_X12_octet 3 rfl) (q := 6) rfl ?_
  refine x_iconst (i := 1) c_iconst_1 hC (zdk dk_X12_octet 4 rfl) (q := 7) rfl ?_
  refine x_isub hC (zdk dk_X12_octet 5 rfl) (q := 8) rfl ?_
  refine x_callSi (as := [.int x1, .int 0, .int ((zI M r0 75) - 1)]) cb_RX12_325 rfl (by decide) hk0 (fun x hx => t_X12_is  x hx) hC (zdk dk_X12_octet 6 rfl) (q := 11) rfl rfl (Nat.le_of_ble_eq_true rfl) (fun z1 => ?_)
  refine x_if_eq (tgt := 23) hC (zdk dk_X12_octet 7 rfl) (q := 14) rfl rfl (fun _ => ?_) (fun _ => ?_)
  · refine x_iconst (i := (-1)) c_iconst_m1 hC (zdk dk_X12_octet 13 rfl) (q := 24) rfl ?_
    refine x_weak (L' := [.null, .null]) ⟨Or.inl rfl, Or.inl rfl, trivial⟩ ?_
    exact x_X12_octet_24 hC hE hk0 h_r0 _ _
  · refine x_aload_n (i := 0) rfl hC (zdk dk_X12_octet 8 rfl) (q := 15) rfl ?_
    refine x_getR (k := 20) fl_RX12_237 rfl h_r0 hC (zdk dk_X12_octet 9 rfl) (q := 18) rfl (fun q2 hq2 => ?_)
    refine x_iload_n (i := 1) rfl hC (zdk dk_X12_octet 10 rfl) (q := 19) rfl ?_
    refine x_iald hq2 hC (zdk dk_X12_octet 11 rfl) (q := 20) rfl (fun k3 _ => ?_)
    refine x_goto (tgt := 24) hC (zdk dk_X12_octet 12 rfl) rfl ?_
    refine x_weak (L' := [.null, .null]) ⟨Or.inl rfl, Or.inl rfl, trivial⟩ ?_
    exact x_X12_octet_24 hC hE hk0 h_r0 _ _
set_option maxRecDepth 100000 in
set_option maxHeartbeats 4000000 in
theorem t_X12_octet {n : Nat} {r0 : Nat} {x1 : Int32} {M : Mem} (h_r0 : zO n r0 12) (x : (Int32 × Mem)) (hx : f_X12_octet r0 x1 M = some x) (l : Launch) (dC : Nat → ClassId) (dI : Nat → Nat → Nat) (b : zSg) : MT l dC dI b yX12_octet cX12_octet 2 (some .int) 1 0 0 n n [.ref r0, .int x1] M (emI x).1 (emI x).2 :=
  MT.ofX (by decide +kernel) rfl (Nat.le_of_ble_eq_true rfl) (fun κ hC hF _ => x_X12_octet hC (zEnd_of hF (Nat.le_refl _) (Nat.le_refl _)) (zRk_of hF (Nat.le_refl _) (Nat.le_refl _)) _ _ _ h_r0) x hx
set_option maxRecDepth 100000 in
def dt_X12_pageOn : List (Nat × Instr × Nat) := [(0, .bipush 6, 2), (2, .iload_n 1, 1), (3, .iadd, 1), (4, .istore 4, 2), (6, .iload_n 2, 1), (7, .iload_n 3, 1), (8, .if_icmp .ge 13, 3), (11, .aload_n 0, 1), (12, .getfield 7, 3), (15, .iload_n 2, 1), (16, .iaload, 1), (17, .iconst 1, 1), (18, .if_icmp .le 5, 3), (21, .iconst (-1), 1), (22, .ireturn, 1), (23, .aload_n 0, 1), (24, .getfield 183, 3), (27, .iload 4, 2), (29, .aload_n 0, 1), (30, .getfield 7, 3), (33, .iload_n 2, 1), (34, .iaload, 1), (35, .iastore, 1), (36, .aload_n 0, 1), (37, .getfield 7, 3), (40, .iload_n 2, 1), (41, .iaload, 1), (42, .ifCond .ne 7, 3), (45, .iload_n 2, 1), (46, .iconst 1, 1), (47, .iadd, 1), (48, .ireturn, 1), (49, .iload_n 2, 1), (50, .bipush 10, 2), (52, .iadd, 1), (53, .aload_n 0, 1), (54, .getfield 132, 3), (57, .iadd, 1), (58, .iload_n 3, 1), (59, .if_icmp .gt 29, 3), (62, .aload_n 0, 1), (63, .getfield 7, 3), (66, .iload_n 2, 1), (67, .iconst 1, 1), (68, .iadd, 1), (69, .iaload, 1), (70, .bipush 99, 2), (72, .if_icmp .gt 16, 3), (75, .aload_n 0, 1), (76, .getfield 7, 3), (79, .iload_n 2, 1), (80, .iconst 2, 1), (81, .iadd, 1), (82, .iaload, 1), (83, .bipush 127, 2), (85, .if_icmp .le 5, 3), (88, .iconst (-1), 1), (89, .ireturn, 1), (90, .aload_n 0, 1), (91, .getfield 186, 3), (94, .iload 4, 2), (96, .aload_n 0, 1), (97, .getfield 7, 3), (100, .iload_n 2, 1), (101, .iconst 1, 1), (102, .iadd, 1), (103, .iaload, 1), (104, .iastore, 1), (105, .lconst 0, 1), (106, .lstore 5, 2), (108, .iconst 0, 1), (109, .istore 7, 2), (111, .iload 7, 2), (113, .bipush 8, 2), (115, .if_icmp .ge 29, 3), (118, .lload 5, 2), (120, .bipush 8, 2), (122, .lshl, 1), (123, .aload_n 0, 1), (124, .getfield 7, 3), (127, .iload_n 2, 1), (128, .iconst 2, 1), (129, .iadd, 1), (130, .iload 7, 2), (132, .iadd, 1), (133, .iaload, 1), (134, .i2l, 1), (135, .lor, 1), (136, .lstore 5, 2), (138, .iinc 7 1, 3), (141, .goto (-30), 3), (144, .aload_n 0, 1), (145, .getfield 189, 3), (148, .iload 4, 2), (150, .lload 5, 2), (152, .lastore, 1), (153, .lload 5, 2), (155, .aload_n 0, 1), (156, .getfield 132, 3), (159, .lshr, 1), (160, .lconst 0, 1), (161, .lcmp, 1), (162, .ifCond .gt 14, 3), (165, .aload_n 0, 1), (166, .lload 5, 2), (168, .invokevirtual 441, 3), (171, .lconst 0, 1), (172, .lcmp, 1), (173, .ifCond .le 5, 3), (176, .iconst (-1), 1), (177, .ireturn, 1), (178, .iconst 0, 1), (179, .istore 7, 2), (181, .iload 7, 2), (183, .aload_n 0, 1), (184, .getfield 132, 3), (187, .if_icmp .ge 48, 3), (190, .aload_n 0, 1), (191, .iconst 1, 1), (192, .iload_n 1, 1), (193, .iload 7, 2), (195, .aload_n 0, 1), (196, .getfield 7, 3), (199, .iload_n 2, 1), (200, .bipush 10, 2), (202, .iadd, 1), (203, .iload 7, 2), (205, .iadd, 1), (206, .iaload, 1), (207, .invokevirtual 522, 3), (210, .aload_n 0, 1), (211, .getfield 7, 3), (214, .iload_n 2, 1), (215, .bipush 10, 2), (217, .iadd, 1), (218, .iload 7, 2), (220, .iadd, 1), (221, .iaload, 1), (222, .bipush 99, 2), (224, .if_icmp .le 5, 3), (227, .iconst (-1), 1), (228, .ireturn, 1), (229, .iinc 7 1, 3), (232, .goto (-51), 3), (235, .iload_n 2, 1), (236, .bipush 10, 2), (238, .iadd, 1), (239, .aload_n 0, 1), (240, .getfield 132, 3), (243, .iadd, 1), (244, .ireturn, 1)]
set_option maxRecDepth 100000 in
theorem dk_X12_pageOn : dt_X12_pageOn.all (fun q => decide (decode cX12_pageOn q.1 = .ok q.2)) = true := by decide +kernel
set_option maxRecDepth 100000 in
def f_X12_pageOn_21  (r0 : Nat) (x1 : Int32) (x2 : Int32) (x3 : Int32)  (M : Mem) : Option (Int32 × Mem) := some ((-1), M)
set_option maxRecDepth 100000 in
set_option maxHeartbeats 4000000 in
theorem x_X12_pageOn_21 {κ : KX} {n : Nat} (hC : CX κ cX12_pageOn RX12 8 (some .int) 1) (hE : zEnd κ n (0, 0)) (hk0 : zRk κ (0, 0)) {r0 : Nat} {x1 : Int32} {x2 : Int32} {x3 : Int32} (h_r0 : zO n r0 12) (M : Mem) : X κ 8 emI n (0, 0) 21 [.null, .null, .null, .null, .null, .null, .null, .null] [] M (f_X12_pageOn_21 r0 x1 x2 x3 M) := by
  unfold f_X12_pageOn_21
  refine x_iconst (i := (-1)) c_iconst_m1 hC (zdk dk_X12_pageOn 13 rfl) (q := 22) rfl ?_
  exact x_iret (ty := .int) rfl hE hC (zdk dk_X12_pageOn 14 rfl)
set_option maxRecDepth 100000 in
def f_X12_pageOn_88  (r0 : Nat) (x1 : Int32) (x2 : Int32) (x3 : Int32)  (M : Mem) : Option (Int32 × Mem) := some ((-1), M)
set_option maxRecDepth 100000 in
set_option maxHeartbeats 4000000 in
theorem x_X12_pageOn_88 {κ : KX} {n : Nat} (hC : CX κ cX12_pageOn RX12 8 (some .int) 1) (hE : zEnd κ n (0, 0)) (hk0 : zRk κ (0, 0)) {r0 : Nat} {x1 : Int32} {x2 : Int32} {x3 : Int32} (h_r0 : zO n r0 12) (M : Mem) : X κ 8 emI n (0, 0) 88 [.null, .null, .null, .null, .null, .null, .null, .null] [] M (f_X12_pageOn_88 r0 x1 x2 x3 M) := by
  unfold f_X12_pageOn_88
  refine x_iconst (i := (-1)) c_iconst_m1 hC (zdk dk_X12_pageOn 56 rfl) (q := 89) rfl ?_
  exact x_iret (ty := .int) rfl hE hC (zdk dk_X12_pageOn 57 rfl)
set_option maxRecDepth 100000 in
def f_X12_pageOn_176  (r0 : Nat) (x1 : Int32) (x2 : Int32) (x3 : Int32)  (M : Mem) : Option (Int32 × Mem) := some ((-1), M)
set_option maxRecDepth 100000 in
set_option maxHeartbeats 4000000 in
theorem x_X12_pageOn_176 {κ : KX} {n : Nat} (hC : CX κ cX12_pageOn RX12 8 (some .int) 1) (hE : zEnd κ n (0, 0)) (hk0 : zRk κ (0, 0)) {r0 : Nat} {x1 : Int32} {x2 : Int32} {x3 : Int32} (h_r0 : zO n r0 12) (M : Mem) : X κ 8 emI n (0, 0) 176 [.null, .null, .null, .null, .null, .null, .null, .null] [] M (f_X12_pageOn_176 r0 x1 x2 x3 M) := by
  unfold f_X12_pageOn_176
  refine x_iconst (i := (-1)) c_iconst_m1 hC (zdk dk_X12_pageOn 109 rfl) (q := 177) rfl ?_
  exact x_iret (ty := .int) rfl hE hC (zdk dk_X12_pageOn 110 rfl)
set_option maxRecDepth 100000 in
def f_X12_pageOn_181  (r0 : Nat) (x1 : Int32) (x2 : Int32) (x3 : Int32) : Nat → Int32 → Mem → Option (Int32 × Mem)
  | 0, _, _ => none
  | f + 1, x7, M => (if zI M r0 39 ≤ x7 then some ((x2 + 10) + (zI M r0 39), M) else Option.bind (zrf M r0 0) fun q1 => Option.bind (zld q1 ((x2 + 10) + x7)) fun k2 => Option.bind (f_X12_puts r0 1 x1 x7 (zI M q1 k2) M) fun M3 => Option.bind (zrf M3 r0 0) fun q4 => Option.bind (zld q4 ((x2 + 10) + x7)) fun k5 => (if zI M3 q4 k5 ≤ 99 then (f_X12_pageOn_181 r0 x1 x2 x3 f) (x7 + 1) M3 else some ((-1), M3)))
set_option maxRecDepth 100000 in
set_option maxHeartbeats 4000000 in
theorem x_X12_pageOn_181 {κ : KX} {n : Nat} (hC : CX κ cX12_pageOn RX12 8 (some .int) 1) (hE : zEnd κ n (0, 0)) (hk0 : zRk κ (0, 0)) {r0 : Nat} {x1 : Int32} {x2 : Int32} {x3 : Int32} (h_r0 : zO n r0 12) : ∀ (f : Nat) (x7 : Int32) (M : Mem), X κ 8 emI n (0, 0) 181 [.ref r0, .int x1, .int x2, .null, .null, .null, .null, .int x7] [] M (f_X12_pageOn_181 r0 x1 x2 x3 f x7 M) := by
  intro f
  induction f with
  | zero => intros; exact x_none
  | succ f ih =>
    intro x7 M 
    rw [f_X12_pageOn_181]
    refine x_iload (i := 7) rfl hC (zdk dk_X12_pageOn 113 rfl) (q := 183) rfl ?_
    refine x_aload_n (i := 0) rfl hC (zdk dk_X12_pageOn 114 rfl) (q := 184) rfl ?_
    refine x_getI fl_RX12_132 (by decide) h_r0 hC (zdk dk_X12_pageOn 115 rfl) (q := 187) rfl ?_
    refine x_icmp_ge (tgt := 235) hC (zdk dk_X12_pageOn 116 rfl) (q := 190) rfl rfl (fun _ => ?_) (fun _ => ?_)
    · refine x_iload_n (i := 2) rfl hC (zdk dk_X12_pageOn 144 rfl) (q := 236) rfl ?_
      refine x_bipush (i := 10) c_bipush_10 hC (zdk dk_X12_pageOn 145 rfl) (q := 238) rfl ?_
      refine x_iadd hC (zdk dk_X12_pageOn 146 rfl) (q := 239) rfl ?_
      refine x_aload_n (i := 0) rfl hC (zdk dk_X12_pageOn 147 rfl) (q := 240) rfl ?_
      refine x_getI fl_RX12_132 (by decide) h_r0 hC (zdk dk_X12_pageOn 148 rfl) (q := 243) rfl ?_
      refine x_iadd hC (zdk dk_X12_pageOn 149 rfl) (q := 244) rfl ?_
      exact x_iret (ty := .int) rfl hE hC (zdk dk_X12_pageOn 150 rfl)
    · refine x_aload_n (i := 0) rfl hC (zdk dk_X12_pageOn 117 rfl) (q := 191) rfl ?_
      refine x_iconst (i := 1) c_iconst_1 hC (zdk dk_X12_pageOn 118 rfl) (q := 192) rfl ?_
      refine x_iload_n (i := 1) rfl hC (zdk dk_X12_pageOn 119 rfl) (q := 193) rfl ?_
      refine x_iload (i := 7) rfl hC (zdk dk_X12_pageOn 120 rfl) (q := 195) rfl ?_
      refine x_aload_n (i := 0) rfl hC (zdk dk_X12_pageOn 121 rfl) (q := 196) rfl ?_
      refine x_getR (k := 20) fl_RX12_7 rfl h_r0 hC (zdk dk_X12_pageOn 122 rfl) (q := 199) rfl (fun q1 hq1 => ?_)
      refine x_iload_n (i := 2) rfl hC (zdk dk_X12_pageOn 123 rfl) (q := 200) rfl ?_
      refine x_bipush (i := 10) c_bipush_10 hC (zdk dk_X12_pageOn 124 rfl) (q := 202) rfl ?_
      refine x_iadd hC (zdk dk_X12_pageOn 125 rfl) (q := 203) rfl ?_
      refine x_iload (i := 7) rfl hC (zdk dk_X12_pageOn 126 rfl) (q := 205) rfl ?_
      refine x_iadd hC (zdk dk_X12_pageOn 127 rfl) (q := 206) rfl ?_
      refine x_iald hq1 hC (zdk dk_X12_pageOn 128 rfl) (q := 207) rfl (fun k2 _ => ?_)
      refine x_callVv (as := [.int 1, .int x1, .int x7, .int (zI M q1 k2)]) cb_RX12_522 rfl (by decide) hk0 h_r0 (fun x hx => t_X12_puts h_r0 x hx) hC (zdk dk_X12_pageOn 129 rfl) (q := 210) rfl rfl (Nat.le_of_ble_eq_true rfl) (fun M3 => ?_)
      refine x_aload_n (i := 0) rfl hC (zdk dk_X12_pageOn 130 rfl) (q := 211) rfl ?_
      refine x_getR (k := 20) fl_RX12_7 rfl h_r0 hC (zdk dk_X12_pageOn 131 rfl) (q := 214) rfl (fun q4 hq4 => ?_)
      refine x_iload_n (i := 2) rfl hC (zdk dk_X12_pageOn 132 rfl) (q := 215) rfl ?_
      refine x_bipush (i := 10) c_bipush_10 hC (zdk dk_X12_pageOn 133 rfl) (q := 217) rfl ?_
      refine x_iadd hC (zdk dk_X12_pageOn 134 rfl) (q := 218) rfl ?_
      refine x_iload (i := 7) rfl hC (zdk dk_X12_pageOn 135 rfl) (q := 220) rfl ?_
      refine x_iadd hC (zdk dk_X12_pageOn 136 rfl) (q := 221) rfl ?_
      refine x_iald hq4 hC (zdk dk_X12_pageOn 137 rfl) (q := 222) rfl (fun k5 _ => ?_)
      refine x_bipush (i := 99) c_bipush_99 hC (zdk dk_X12_pageOn 138 rfl) (q := 224) rfl ?_
      refine x_icmp_le (tgt := 229) hC (zdk dk_X12_pageOn 139 rfl) (q := 227) rfl rfl (fun _ => ?_) (fun _ => ?_)
      · refine x_iinc (i := 7) c_iconst_1 rfl (by decide) (L' := [.ref r0, .int x1, .int x2, .null, .null, .null, .null, .int (x7 + 1)]) rfl hC (zdk dk_X12_pageOn 142 rfl) (q := 232) rfl ?_
        refine x_goto (tgt := 181) hC (zdk dk_X12_pageOn 143 rfl) rfl ?_
        refine x_weak (L' := [.ref r0, .int x1, .int x2, .null, .null, .null, .null, .int (x7 + 1)]) ⟨Or.inr rfl, Or.inr rfl, Or.inr rfl, Or.inl rfl, Or.inl rfl, Or.inl rfl, Or.inl rfl, Or.inr rfl, trivial⟩ ?_
        exact ih _ _
      · refine x_iconst (i := (-1)) c_iconst_m1 hC (zdk dk_X12_pageOn 140 rfl) (q := 228) rfl ?_
        exact x_iret (ty := .int) rfl hE hC (zdk dk_X12_pageOn 141 rfl)
set_option maxRecDepth 100000 in
def f_X12_pageOn_111  (r0 : Nat) (x1 : Int32) (x2 : Int32) (x3 : Int32) : Nat → Int32 → Int64 → Int32 → Mem → Option (Int32 × Mem)
  | 0, _, _, _, _ => none
  | f + 1, x4, y5, x7, M => (if 8 ≤ x7 then Option.bind (zrf M r0 58) fun q6 => Option.bind (zld q6 x4) fun k7 => Option.bind (some (zsL M q6 k7 y5)) fun M8 => (if 0 < lg_cmp (y5 >>> ((zI M8 r0 39).toInt64 &&& 63)) 0 then f_X12_pageOn_176 r0 x1 x2 x3 M8 else Option.bind (f_X12_left r0 y5 M8) fun z9 => (if lg_cmp z9.1 0 ≤ 0 then f_X12_pageOn_181 r0 x1 x2 x3 1000000 0 z9.2 else f_X12_pageOn_176 r0 x1 x2 x3 z9.2)) else Option.bind (zrf M r0 0) fun q10 => Option.bind (zld q10 ((x2 + 2) + x7)) fun k11 => Option.bind (some ((y5 <<< ((8 : Int32).toInt64 &&& 63)) ||| ((zI M q10 k11).toInt64))) fun (v12 : Int64) => (f_X12_pageOn_111 r0 x1 x2 x3 f) x4 v12 (x7 + 1) M)
set_option maxRecDepth 100000 in
set_option maxHeartbeats 4000000 in
theorem x_X12_pageOn_111 {κ : KX} {n : Nat} (hC : CX κ cX12_pageOn RX12 8 (some .int) 1) (hE : zEnd κ n (0, 0)) (hk0 : zRk κ (0, 0)) {r0 : Nat} {x1 : Int32} {x2 : Int32} {x3 : Int32} (h_r0 : zO n r0 12) : ∀ (f : Nat) (x4 : Int32) (y5 : Int64) (x7 : Int32) (M : Mem), X κ 8 emI n (0, 0) 111 [.ref r0, .int x1, .int x2, .null, .int x4, .long y5, .null, .int x7] [] M (f_X12_pageOn_111 r0 x1 x2 x3 f x4 y5 x7 M) := by
  intro f
  induction f with
  | zero => intros; exact x_none
  | succ f ih =>
    intro x4 y5 x7 M 
    rw [f_X12_pageOn_111]
    refine x_iload (i := 7) rfl hC (zdk dk_X12_pageOn 72 rfl) (q := 113) rfl ?_
    refine x_bipush (i := 8) c_bipush_8 hC (zdk dk_X12_pageOn 73 rfl) (q := 115) rfl ?_
    refine x_icmp_ge (tgt := 144) hC (zdk dk_X12_pageOn 74 rfl) (q := 118) rfl rfl (fun _ => ?_) (fun _ => ?_)
    · refine x_aload_n (i := 0) rfl hC (zdk dk_X12_pageOn 91 rfl) (q := 145) rfl ?_
      refine x_getR (k := 21) fl_RX12_189 rfl h_r0 hC (zdk dk_X12_pageOn 92 rfl) (q := 148) rfl (fun q6 hq6 => ?_)
      refine x_iload (i := 4) rfl hC (zdk dk_X12_pageOn 93 rfl) (q := 150) rfl ?_
      refine x_lload (i := 5) rfl hC (zdk dk_X12_pageOn 94 rfl) (q := 152) rfl ?_
      refine x_last hq6 hC (zdk dk_X12_pageOn 95 rfl) (q := 153) rfl (fun k7 _ => ?_)
      refine x_nmM (fun M8 => ?_)
      refine x_lload (i := 5) rfl hC (zdk dk_X12_pageOn 96 rfl) (q := 155) rfl ?_
      refine x_aload_n (i := 0) rfl hC (zdk dk_X12_pageOn 97 rfl) (q := 156) rfl ?_
      refine x_getI fl_RX12_132 (by decide) h_r0 hC (zdk dk_X12_pageOn 98 rfl) (q := 159) rfl ?_
      refine x_lshr hC (zdk dk_X12_pageOn 99 rfl) (q := 160) rfl ?_
      refine x_lconst (i := 0) c_lconst_0 hC (zdk dk_X12_pageOn 100 rfl) (q := 161) rfl ?_
      refine x_lcmp hC (zdk dk_X12_pageOn 101 rfl) (q := 162) rfl ?_
      refine x_if_gt (tgt := 176) hC (zdk dk_X12_pageOn 102 rfl) (q := 165) rfl rfl (fun _ => ?_) (fun _ => ?_)
      · refine x_weak (L' := [.null, .null, .null, .null, .null, .null, .null, .null]) ⟨Or.inl rfl, Or.inl rfl, Or.inl rfl, Or.inl rfl, Or.inl rfl, Or.inl rfl, Or.inl rfl, Or.inl rfl, trivial⟩ ?_
        exact x_X12_pageOn_176 hC hE hk0 h_r0 _
      · refine x_aload_n (i := 0) rfl hC (zdk dk_X12_pageOn 103 rfl) (q := 166) rfl ?_
        refine x_lload (i := 5) rfl hC (zdk dk_X12_pageOn 104 rfl) (q := 168) rfl ?_
        refine x_callVl (as := [.long y5]) cb_RX12_441 rfl (by decide) hk0 h_r0 (fun x hx => t_X12_left h_r0 x hx) hC (zdk dk_X12_pageOn 105 rfl) (q := 171) rfl rfl (Nat.le_of_ble_eq_true rfl) (fun z9 => ?_)
        refine x_lconst (i := 0) c_lconst_0 hC (zdk dk_X12_pageOn 106 rfl) (q := 172) rfl ?_
        refine x_lcmp hC (zdk dk_X12_pageOn 107 rfl) (q := 173) rfl ?_
        refine x_if_le (tgt := 178) hC (zdk dk_X12_pageOn 108 rfl) (q := 176) rfl rfl (fun _ => ?_) (fun _ => ?_)
        · refine x_iconst (i := 0) c_iconst_0 hC (zdk dk_X12_pageOn 111 rfl) (q := 179) rfl ?_
          refine x_istore (i := 7) (L' := [.ref r0, .int x1, .int x2, .null, .int x4, .long y5, .null, .int 0]) (by decide) rfl hC (zdk dk_X12_pageOn 112 rfl) (q := 181) rfl ?_
          refine x_weak (L' := [.ref r0, .int x1, .int x2, .null, .null, .null, .null, .int 0]) ⟨Or.inr rfl, Or.inr rfl, Or.inr rfl, Or.inl rfl, Or.inl rfl, Or.inl rfl, Or.inl rfl, Or.inr rfl, trivial⟩ ?_
          exact x_X12_pageOn_181 hC hE hk0 h_r0 _ _ _
        · refine x_weak (L' := [.null, .null, .null, .null, .null, .null, .null, .null]) ⟨Or.inl rfl, Or.inl rfl, Or.inl rfl, Or.inl rfl, Or.inl rfl, Or.inl rfl, Or.inl rfl, Or.inl rfl, trivial⟩ ?_
          exact x_X12_pageOn_176 hC hE hk0 h_r0 _
    · refine x_lload (i := 5) rfl hC (zdk dk_X12_pageOn 75 rfl) (q := 120) rfl ?_
      refine x_bipush (i := 8) c_bipush_8 hC (zdk dk_X12_pageOn 76 rfl) (q := 122) rfl ?_
      refine x_lshl hC (zdk dk_X12_pageOn 77 rfl) (q := 123) rfl ?_
      refine x_aload_n (i := 0) rfl hC (zdk dk_X12_pageOn 78 rfl) (q := 124) rfl ?_
      refine x_getR (k := 20) fl_RX12_7 rfl h_r0 hC (zdk dk_X12_pageOn 79 rfl) (q := 127) rfl (fun q10 hq10 => ?_)
      refine x_iload_n (i := 2) rfl hC (zdk dk_X12_pageOn 80 rfl) (q := 128) rfl ?_
      refine x_iconst (i := 2) c_iconst_2 hC (zdk dk_X12_pageOn 81 rfl) (q := 129) rfl ?_
      refine x_iadd hC (zdk dk_X12_pageOn 82 rfl) (q := 130) rfl ?_
      refine x_iload (i := 7) rfl hC (zdk dk_X12_pageOn 83 rfl) (q := 132) rfl ?_
      refine x_iadd hC (zdk dk_X12_pageOn 84 rfl) (q := 133) rfl ?_
      refine x_iald hq10 hC (zdk dk_X12_pageOn 85 rfl) (q := 134) rfl (fun k11 _ => ?_)
      refine x_i2l hC (zdk dk_X12_pageOn 86 rfl) (q := 135) rfl ?_
      refine x_lor hC (zdk dk_X12_pageOn 87 rfl) (q := 136) rfl ?_
      refine x_lstore (i := 5) (L' := [.ref r0, .int x1, .int x2, .null, .int x4, .long ((y5 <<< ((8 : Int32).toInt64 &&& 63)) ||| ((zI M q10 k11).toInt64)), .null, .int x7]) (by decide) rfl hC (zdk dk_X12_pageOn 88 rfl) (q := 138) rfl ?_
      refine x_nmJ (fun v12 => [.ref r0, .int x1, .int x2, .null, .int x4, .long v12, .null, .int x7]) rfl (fun v12 => ?_)
      refine x_iinc (i := 7) c_iconst_1 rfl (by decide) (L' := [.ref r0, .int x1, .int x2, .null, .int x4, .long v12, .null, .int (x7 + 1)]) rfl hC (zdk dk_X12_pageOn 89 rfl) (q := 141) rfl ?_
      refine x_goto (tgt := 111) hC (zdk dk_X12_pageOn 90 rfl) rfl ?_
      refine x_weak (L' := [.ref r0, .int x1, .int x2, .null, .int x4, .long v12, .null, .int (x7 + 1)]) ⟨Or.inr rfl, Or.inr rfl, Or.inr rfl, Or.inl rfl, Or.inr rfl, Or.inr rfl, Or.inl rfl, Or.inr rfl, trivial⟩ ?_
      exact ih _ _ _ _
set_option maxRecDepth 100000 in
def f_X12_pageOn (r0 : Nat) (x1 : Int32) (x2 : Int32) (x3 : Int32) (M : Mem) : Option (Int32 × Mem) := (if x3 ≤ x2 then f_X12_pageOn_21 r0 x1 x2 x3 M else Option.bind (zrf M r0 0) fun q13 => Option.bind (zld q13 x2) fun k14 => (if zI M q13 k14 ≤ 1 then Option.bind (zrf M r0 56) fun q15 => Option.bind (zrf M r0 0) fun q16 => Option.bind (zld q16 x2) fun k17 => Option.bind (zld q15 (6 + x1)) fun k18 => Option.bind (some (zsI M q15 k18 (zI M q16 k17))) fun M19 => Option.bind (zrf M19 r0 0) fun q20 => Option.bind (zld q20 x2) fun k21 => (if zI M19 q20 k21 = 0 then some (x2 + 1, M19) else (if x3 < (x2 + 10) + (zI M19 r0 39) then f_X12_pageOn_88 r0 x1 x2 x3 M19 else Option.bind (zrf M19 r0 0) fun q22 => Option.bind (zld q22 (x2 + 1)) fun k23 => (if 99 < zI M19 q22 k23 then f_X12_pageOn_88 r0 x1 x2 x3 M19 else Option.bind (zrf M19 r0 0) fun q24 => Option.bind (zld q24 (x2 + 2)) fun k25 => (if zI M19 q24 k25 ≤ 127 then Option.bind (zrf M19 r0 57) fun q26 => Option.bind (zrf M19 r0 0) fun q27 => Option.bind (zld q27 (x2 + 1)) fun k28 => Option.bind (zld q26 (6 + x1)) fun k29 => Option.bind (some (zsI M19 q26 k29 (zI M19 q27 k28))) fun M30 => f_X12_pageOn_111 r0 x1 x2 x3 1000000 (6 + x1) 0 0 M30 else f_X12_pageOn_88 r0 x1 x2 x3 M19)))) else f_X12_pageOn_21 r0 x1 x2 x3 M))
set_option maxRecDepth 100000 in
set_option maxHeartbeats 4000000 in
theorem x_X12_pageOn {κ : KX} {n : Nat} (hC : CX κ cX12_pageOn RX12 8 (some .int) 1) (hE : zEnd κ n (0, 0)) (hk0 : zRk κ (0, 0)) (r0 : Nat) (x1 : Int32) (x2 : Int32) (x3 : Int32) (M : Mem) (h_r0 : zO n r0 12) : X κ 8 emI n (0, 0) 0 [.ref r0, .int x1, .int x2, .int x3, .null, .null, .null, .null] [] M (f_X12_pageOn r0 x1 x2 x3 M) := by
  unfold f_X12_pageOn
  refine x_bipush (i := 6) c_bipush_6 hC (zdk dk_X12_pageOn 0 rfl) (q := 2) rfl ?_
  refine x_iload_n (i := 1) rfl hC (zdk dk_X12_pageOn 1 rfl) (q := 3) rfl ?_
  refine x_iadd hC (zdk dk_X12_pageOn 2 rfl) (q := 4) rfl ?_
  refine x_istore (i := 4) (L' := [.ref r0, .int x1, .int x2, .int x3, .int (6 + x1), .null, .null, .null]) (by decide) rfl hC (zdk dk_X12_pageOn 3 rfl) (q := 6) rfl ?_
  refine x_iload_n (i := 2) rfl hC (zdk dk_X12_pageOn 4 rfl) (q := 7) rfl ?_
  refine x_iload_n (i := 3) rfl hC (zdk dk_X12_pageOn 5 rfl) (q := 8) rfl ?_
  refine x_icmp_ge (tgt := 21) hC (zdk dk_X12_pageOn 6 rfl) (q := 11) rfl rfl (fun _ => ?_) (fun _ => ?_)
  · refine x_weak (L' := [.null, .null, .null, .null, .null, .null, .null, .null]) ⟨Or.inl rfl, Or.inl rfl, Or.inl rfl, Or.inl rfl, Or.inl rfl, Or.inl rfl, Or.inl rfl, Or.inl rfl, trivial⟩ ?_
    exact x_X12_pageOn_21 hC hE hk0 h_r0 _
  · refine x_aload_n (i := 0) rfl hC (zdk dk_X12_pageOn 7 rfl) (q := 12) rfl ?_
    refine x_getR (k := 20) fl_RX12_7 rfl h_r0 hC (zdk dk_X12_pageOn 8 rfl) (q := 15) rfl (fun q13 hq13 => ?_)
    refine x_iload_n (i := 2) rfl hC (zdk dk_X12_pageOn 9 rfl) (q := 16) rfl ?_
    refine x_iald hq13 hC (zdk dk_X12_pageOn 10 rfl) (q := 17) rfl (fun k14 _ => ?_)
    refine x_iconst (i := 1) c_iconst_1 hC (zdk dk_X12_pageOn 11 rfl) (q := 18) rfl ?_
    refine x_icmp_le (tgt := 23) hC (zdk dk_X12_pageOn 12 rfl) (q := 21) rfl rfl (fun _ => ?_) (fun _ => ?_)
    · refine x_aload_n (i := 0) rfl hC (zdk dk_X12_pageOn 15 rfl) (q := 24) rfl ?_
      refine x_getR (k := 20) fl_RX12_183 rfl h_r0 hC (zdk dk_X12_pageOn 16 rfl) (q := 27) rfl (fun q15 hq15 => ?_)
      refine x_iload (i := 4) rfl hC (zdk dk_X12_pageOn 17 rfl) (q := 29) rfl ?_
      refine x_aload_n (i := 0) rfl hC (zdk dk_X12_pageOn 18 rfl) (q := 30) rfl ?_
      refine x_getR (k := 20) fl_RX12_7 rfl h_r0 hC (zdk dk_X12_pageOn 19 rfl) (q := 33) rfl (fun q16 hq16 => ?_)
      refine x_iload_n (i := 2) rfl hC (zdk dk_X12_pageOn 20 rfl) (q := 34) rfl ?_
      refine x_iald hq16 hC (zdk dk_X12_pageOn 21 rfl) (q := 35) rfl (fun k17 _ => ?_)
      refine x_iast hq15 hC (zdk dk_X12_pageOn 22 rfl) (q := 36) rfl (fun k18 _ => ?_)
      refine x_nmM (fun M19 => ?_)
      refine x_aload_n (i := 0) rfl hC (zdk dk_X12_pageOn 23 rfl) (q := 37) rfl ?_
      refine x_getR (k := 20) fl_RX12_7 rfl h_r0 hC (zdk dk_X12_pageOn 24 rfl) (q := 40) rfl (fun q20 hq20 => ?_)
      refine x_iload_n (i := 2) rfl hC (zdk dk_X12_pageOn 25 rfl) (q := 41) rfl ?_
      refine x_iald hq20 hC (zdk dk_X12_pageOn 26 rfl) (q := 42) rfl (fun k21 _ => ?_)
      refine x_if_ne (tgt := 49) hC (zdk dk_X12_pageOn 27 rfl) (q := 45) rfl rfl (fun _ => ?_) (fun _ => ?_)
      · refine x_iload_n (i := 2) rfl hC (zdk dk_X12_pageOn 32 rfl) (q := 50) rfl ?_
        refine x_bipush (i := 10) c_bipush_10 hC (zdk dk_X12_pageOn 33 rfl) (q := 52) rfl ?_
        refine x_iadd hC (zdk dk_X12_pageOn 34 rfl) (q := 53) rfl ?_
        refine x_aload_n (i := 0) rfl hC (zdk dk_X12_pageOn 35 rfl) (q := 54) rfl ?_
        refine x_getI fl_RX12_132 (by decide) h_r0 hC (zdk dk_X12_pageOn 36 rfl) (q := 57) rfl ?_
        refine x_iadd hC (zdk dk_X12_pageOn 37 rfl) (q := 58) rfl ?_
        refine x_iload_n (i := 3) rfl hC (zdk dk_X12_pageOn 38 rfl) (q := 59) rfl ?_
        refine x_icmp_gt (tgt := 88) hC (zdk dk_X12_pageOn 39 rfl) (q := 62) rfl rfl (fun _ => ?_) (fun _ => ?_)
        · refine x_weak (L' := [.null, .null, .null, .null, .null, .null, .null, .null]) ⟨Or.inl rfl, Or.inl rfl, Or.inl rfl, Or.inl rfl, Or.inl rfl, Or.inl rfl, Or.inl rfl, Or.inl rfl, trivial⟩ ?_
          exact x_X12_pageOn_88 hC hE hk0 h_r0 _
        · refine x_aload_n (i := 0) rfl hC (zdk dk_X12_pageOn 40 rfl) (q := 63) rfl ?_
          refine x_getR (k := 20) fl_RX12_7 rfl h_r0 hC (zdk dk_X12_pageOn 41 rfl) (q := 66) rfl (fun q22 hq22 => ?_)
          refine x_iload_n (i := 2) rfl hC (zdk dk_X12_pageOn 42 rfl) (q := 67) rfl ?_
          refine x_iconst (i := 1) c_iconst_1 hC (zdk dk_X12_pageOn 43 rfl) (q := 68) rfl ?_
          refine x_iadd hC (zdk dk_X12_pageOn 44 rfl) (q := 69) rfl ?_
          refine x_iald hq22 hC (zdk dk_X12_pageOn 45 rfl) (q := 70) rfl (fun k23 _ => ?_)
          refine x_bipush (i := 99) c_bipush_99 hC (zdk dk_X12_pageOn 46 rfl) (q := 72) rfl ?_
          refine x_icmp_gt (tgt := 88) hC (zdk dk_X12_pageOn 47 rfl) (q := 75) rfl rfl (fun _ => ?_) (fun _ => ?_)
          · refine x_weak (L' := [.null, .null, .null, .null, .null, .null, .null, .null]) ⟨Or.inl rfl, Or.inl rfl, Or.inl rfl, Or.inl rfl, Or.inl rfl, Or.inl rfl, Or.inl rfl, Or.inl rfl, trivial⟩ ?_
            exact x_X12_pageOn_88 hC hE hk0 h_r0 _
          · refine x_aload_n (i := 0) rfl hC (zdk dk_X12_pageOn 48 rfl) (q := 76) rfl ?_
            refine x_getR (k := 20) fl_RX12_7 rfl h_r0 hC (zdk dk_X12_pageOn 49 rfl) (q := 79) rfl (fun q24 hq24 => ?_)
            refine x_iload_n (i := 2) rfl hC (zdk dk_X12_pageOn 50 rfl) (q := 80) rfl ?_
            refine x_iconst (i := 2) c_iconst_2 hC (zdk dk_X12_pageOn 51 rfl) (q := 81) rfl ?_
            refine x_iadd hC (zdk dk_X12_pageOn 52 rfl) (q := 82) rfl ?_
            refine x_iald hq24 hC (zdk dk_X12_pageOn 53 rfl) (q := 83) rfl (fun k25 _ => ?_)
            refine x_bipush (i := 127) c_bipush_127 hC (zdk dk_X12_pageOn 54 rfl) (q := 85) rfl ?_
            refine x_icmp_le (tgt := 90) hC (zdk dk_X12_pageOn 55 rfl) (q := 88) rfl rfl (fun _ => ?_) (fun _ => ?_)
            · refine x_aload_n (i := 0) rfl hC (zdk dk_X12_pageOn 58 rfl) (q := 91) rfl ?_
              refine x_getR (k := 20) fl_RX12_186 rfl h_r0 hC (zdk dk_X12_pageOn 59 rfl) (q := 94) rfl (fun q26 hq26 => ?_)
              refine x_iload (i := 4) rfl hC (zdk dk_X12_pageOn 60 rfl) (q := 96) rfl ?_
              refine x_aload_n (i := 0) rfl hC (zdk dk_X12_pageOn 61 rfl) (q := 97) rfl ?_
              refine x_getR (k := 20) fl_RX12_7 rfl h_r0 hC (zdk dk_X12_pageOn 62 rfl) (q := 100) rfl (fun q27 hq27 => ?_)
              refine x_iload_n (i := 2) rfl hC (zdk dk_X12_pageOn 63 rfl) (q := 101) rfl ?_
              refine x_iconst (i := 1) c_iconst_1 hC (zdk dk_X12_pageOn 64 rfl) (q := 102) rfl ?_
              refine x_iadd hC (zdk dk_X12_pageOn 65 rfl) (q := 103) rfl ?_
              refine x_iald hq27 hC (zdk dk_X12_pageOn 66 rfl) (q := 104) rfl (fun k28 _ => ?_)
              refine x_iast hq26 hC (zdk dk_X12_pageOn 67 rfl) (q := 105) rfl (fun k29 _ => ?_)
              refine x_nmM (fun M30 => ?_)
              refine x_lconst (i := 0) c_lconst_0 hC (zdk dk_X12_pageOn 68 rfl) (q := 106) rfl ?_
              refine x_lstore (i := 5) (L' := [.ref r0, .int x1, .int x2, .int x3, .int (6 + x1), .long 0, .null, .null]) (by decide) rfl hC (zdk dk_X12_pageOn 69 rfl) (q := 108) rfl ?_
              refine x_iconst (i := 0) c_iconst_0 hC (zdk dk_X12_pageOn 70 rfl) (q := 109) rfl ?_
              refine x_istore (i := 7) (L' := [.ref r0, .int x1, .int x2, .int x3, .int (6 + x1), .long 0, .null, .int 0]) (by decide) rfl hC (zdk dk_X12_pageOn 71 rfl) (q := 111) rfl ?_
              refine x_weak (L' := [.ref r0, .int x1, .int x2, .null, .int (6 + x1), .long 0, .null, .int 0]) ⟨Or.inr rfl, Or.inr rfl, Or.inr rfl, Or.inl rfl, Or.inr rfl, Or.inr rfl, Or.inl rfl, Or.inr rfl, trivial⟩ ?_
              exact x_X12_pageOn_111 hC hE hk0 h_r0 _ _ _ _ _
            · refine x_weak (L' := [.null, .null, .null, .null, .null, .null, .null, .null]) ⟨Or.inl rfl, Or.inl rfl, Or.inl rfl, Or.inl rfl, Or.inl rfl, Or.inl rfl, Or.inl rfl, Or.inl rfl, trivial⟩ ?_
              exact x_X12_pageOn_88 hC hE hk0 h_r0 _
      · refine x_iload_n (i := 2) rfl hC (zdk dk_X12_pageOn 28 rfl) (q := 46) rfl ?_
        refine x_iconst (i := 1) c_iconst_1 hC (zdk dk_X12_pageOn 29 rfl) (q := 47) rfl ?_
        refine x_iadd hC (zdk dk_X12_pageOn 30 rfl) (q := 48) rfl ?_
        exact x_iret (ty := .int) rfl hE hC (zdk dk_X12_pageOn 31 rfl)
    · refine x_weak (L' := [.null, .null, .null, .null, .null, .null, .null, .null]) ⟨Or.inl rfl, Or.inl rfl, Or.inl rfl, Or.inl rfl, Or.inl rfl, Or.inl rfl, Or.inl rfl, Or.inl rfl, trivial⟩ ?_
      exact x_X12_pageOn_21 hC hE hk0 h_r0 _
set_option maxRecDepth 100000 in
set_option maxHeartbeats 4000000 in
theorem t_X12_pageOn {n : Nat} {r0 : Nat} {x1 : Int32} {x2 : Int32} {x3 : Int32} {M : Mem} (h_r0 : zO n r0 12) (x : (Int32 × Mem)) (hx : f_X12_pageOn r0 x1 x2 x3 M = some x) (l : Launch) (dC : Nat → ClassId) (dI : Nat → Nat → Nat) (b : zSg) : MT l dC dI b yX12_pageOn cX12_pageOn 8 (some .int) 1 0 0 n n [.ref r0, .int x1, .int x2, .int x3] M (emI x).1 (emI x).2 :=
  MT.ofX (by decide +kernel) rfl (Nat.le_of_ble_eq_true rfl) (fun κ hC hF _ => x_X12_pageOn hC (zEnd_of hF (Nat.le_refl _) (Nat.le_refl _)) (zRk_of hF (Nat.le_refl _) (Nat.le_refl _)) _ _ _ _ _ h_r0) x hx
set_option maxRecDepth 100000 in
def dt_X12_comesOn : List (Nat × Instr × Nat) := [(0, .aload_n 0, 1), (1, .getfield 120, 3), (4, .ifCond .eq 30, 3), (7, .iload_n 1, 1), (8, .iconst 3, 1), (9, .if_icmp .lt 25, 3), (12, .aload_n 0, 1), (13, .getfield 7, 3), (16, .iconst 0, 1), (17, .iaload, 1), (18, .bipush 8, 2), (20, .ishl, 1), (21, .aload_n 0, 1), (22, .getfield 7, 3), (25, .iconst 1, 1), (26, .iaload, 1), (27, .ior, 1), (28, .sipush 999, 3), (31, .if_icmp .le 5, 3), (34, .iconst 0, 1), (35, .ireturn, 1), (36, .sipush 211, 3), (39, .istore_n 2, 1), (40, .iconst 0, 1), (41, .istore_n 3, 1), (42, .iload_n 3, 1), (43, .iload_n 1, 1), (44, .iconst 1, 1), (45, .isub, 1), (46, .if_icmp .ge 24, 3), (49, .iconst 5, 1), (50, .iload_n 2, 1), (51, .imul, 1), (52, .aload_n 0, 1), (53, .getfield 7, 3), (56, .iload_n 3, 1), (57, .iaload, 1), (58, .iadd, 1), (59, .sipush 251, 3), (62, .irem, 1), (63, .istore_n 2, 1), (64, .iinc 3 1, 3), (67, .goto (-25), 3), (70, .aload_n 0, 1), (71, .getfield 7, 3), (74, .iload_n 1, 1), (75, .iconst 1, 1), (76, .isub, 1), (77, .iaload, 1), (78, .iload_n 2, 1), (79, .if_icmp .eq 5, 3), (82, .iconst 0, 1), (83, .ireturn, 1), (84, .aload_n 0, 1), (85, .iconst 1, 1), (86, .iconst 0, 1), (87, .invokevirtual 479, 3), (90, .aload_n 0, 1), (91, .getfield 180, 3), (94, .iconst 1, 1), (95, .aload_n 0, 1), (96, .getfield 7, 3), (99, .iconst 0, 1), (100, .iaload, 1), (101, .bipush 8, 2), (103, .ishl, 1), (104, .aload_n 0, 1), (105, .getfield 7, 3), (108, .iconst 1, 1), (109, .iaload, 1), (110, .ior, 1), (111, .iastore, 1), (112, .aload_n 0, 1), (113, .getfield 195, 3), (116, .iconst 1, 1), (117, .iconst 0, 1), (118, .iastore, 1), (119, .iconst 2, 1), (120, .istore_n 3, 1), (121, .iconst 0, 1), (122, .istore 4, 2), (124, .iload 4, 2), (126, .aload_n 0, 1), (127, .getfield 57, 3), (130, .aload_n 0, 1), (131, .getfield 51, 3), (134, .iaload, 1), (135, .if_icmp .ge 27, 3), (138, .aload_n 0, 1), (139, .iload 4, 2), (141, .iload_n 3, 1), (142, .iload_n 1, 1), (143, .iconst 1, 1), (144, .isub, 1), (145, .invokevirtual 585, 3), (148, .istore_n 3, 1), (149, .iload_n 3, 1), (150, .iconst (-1), 1), (151, .if_icmp .ne 5, 3), (154, .iconst 0, 1), (155, .ireturn, 1), (156, .iinc 4 1, 3), (159, .goto (-35), 3), (162, .iload_n 3, 1), (163, .iload_n 1, 1), (164, .iconst 1, 1), (165, .isub, 1), (166, .if_icmp .ne 7, 3), (169, .iconst 1, 1), (170, .goto 4, 3), (173, .iconst 0, 1), (174, .ireturn, 1)]
set_option maxRecDepth 100000 in
theorem dk_X12_comesOn : dt_X12_comesOn.all (fun q => decide (decode cX12_comesOn q.1 = .ok q.2)) = true := by decide +kernel
set_option maxRecDepth 100000 in
def f_X12_comesOn_34  (r0 : Nat) (x1 : Int32)  (M : Mem) : Option (Int32 × Mem) := some (0, M)
set_option maxRecDepth 100000 in
set_option maxHeartbeats 4000000 in
theorem x_X12_comesOn_34 {κ : KX} {n : Nat} (hC : CX κ cX12_comesOn RX12 5 (some .boolean) 2) (hE : zEnd κ n (0, 0)) (hk0 : zRk κ (0, 0)) {r0 : Nat} {x1 : Int32} (h_r0 : zO n r0 12) (M : Mem) : X κ 5 emI n (0, 0) 34 [.null, .null, .null, .null, .null] [] M (f_X12_comesOn_34 r0 x1 M) := by
  unfold f_X12_comesOn_34
  refine x_iconst (i := 0) c_iconst_0 hC (zdk dk_X12_comesOn 19 rfl) (q := 35) rfl ?_
  exact x_iret (ty := .boolean) rfl hE hC (zdk dk_X12_comesOn 20 rfl)
set_option maxRecDepth 100000 in
def f_X12_comesOn_174  (r0 : Nat) (x1 : Int32) (s0 : Int32) (M : Mem) : Option (Int32 × Mem) := zbz s0 (some (s0, M))
set_option maxRecDepth 100000 in
set_option maxHeartbeats 4000000 in
theorem x_X12_comesOn_174 {κ : KX} {n : Nat} (hC : CX κ cX12_comesOn RX12 5 (some .boolean) 2) (hE : zEnd κ n (0, 0)) (hk0 : zRk κ (0, 0)) {r0 : Nat} {x1 : Int32} (h_r0 : zO n r0 12) (s0 : Int32) (M : Mem) : X κ 5 emI n (0, 0) 174 [.null, .null, .null, .null, .null] [.int s0] M (f_X12_comesOn_174 r0 x1 s0 M) := by
  unfold f_X12_comesOn_174
  refine x_bz (fun hb1 => ?_)
  exact x_iret (ty := .boolean) hb1.1 hE hC (zdk dk_X12_comesOn 111 rfl)
set_option maxRecDepth 100000 in
def f_X12_comesOn_124  (r0 : Nat) (x1 : Int32) : Nat → Int32 → Int32 → Mem → Option (Int32 × Mem)
  | 0, _, _, _ => none
  | f + 1, x3, x4, M => Option.bind (zrf M r0 15) fun q2 => Option.bind (zld q2 (zI M r0 13)) fun k3 => (if zI M q2 k3 ≤ x4 then (if x3 = x1 - 1 then f_X12_comesOn_174 r0 x1 1 M else f_X12_comesOn_174 r0 x1 0 M) else Option.bind (f_X12_pageOn r0 x4 x3 (x1 - 1) M) fun z4 => (if z4.1 = (-1) then some (0, z4.2) else (f_X12_comesOn_124 r0 x1 f) z4.1 (x4 + 1) z4.2))
set_option maxRecDepth 100000 in
set_option maxHeartbeats 4000000 in
theorem x_X12_comesOn_124 {κ : KX} {n : Nat} (hC : CX κ cX12_comesOn RX12 5 (some .boolean) 2) (hE : zEnd κ n (0, 0)) (hk0 : zRk κ (0, 0)) {r0 : Nat} {x1 : Int32} (h_r0 : zO n r0 12) : ∀ (f : Nat) (x3 : Int32) (x4 : Int32) (M : Mem), X κ 5 emI n (0, 0) 124 [.ref r0, .int x1, .null, .int x3, .int x4] [] M (f_X12_comesOn_124 r0 x1 f x3 x4 M) := by
  intro f
  induction f with
  | zero => intros; exact x_none
  | succ f ih =>
    intro x3 x4 M 
    rw [f_X12_comesOn_124]
    refine x_iload (i := 4) rfl hC (zdk dk_X12_comesOn 81 rfl) (q := 126) rfl ?_
    refine x_aload_n (i := 0) rfl hC (zdk dk_X12_comesOn 82 rfl) (q := 127) rfl ?_
    refine x_getR (k := 20) fl_RX12_57 rfl h_r0 hC (zdk dk_X12_comesOn 83 rfl) (q := 130) rfl (fun q2 hq2 => ?_)
    refine x_aload_n (i := 0) rfl hC (zdk dk_X12_comesOn 84 rfl) (q := 131) rfl ?_
    refine x_getI fl_RX12_51 (by decide) h_r0 hC (zdk dk_X12_comesOn 85 rfl) (q := 134) rfl ?_
    refine x_iald hq2 hC (zdk dk_X12_comesOn 86 rfl) (q := 135) rfl (fun k3 _ => ?_)
    refine x_icmp_ge (tgt := 162) hC (zdk dk_X12_comesOn 87 rfl) (q := 138) rfl rfl (fun _ => ?_) (fun _ => ?_)
    · refine x_iload_n (i := 3) rfl hC (zdk dk_X12_comesOn 103 rfl) (q := 163) rfl ?_
      refine x_iload_n (i := 1) rfl hC (zdk dk_X12_comesOn 104 rfl) (q := 164) rfl ?_
      refine x_iconst (i := 1) c_iconst_1 hC (zdk dk_X12_comesOn 105 rfl) (q := 165) rfl ?_
      refine x_isub hC (zdk dk_X12_comesOn 106 rfl) (q := 166) rfl ?_
      refine x_icmp_ne (tgt := 173) hC (zdk dk_X12_comesOn 107 rfl) (q := 169) rfl rfl (fun _ => ?_) (fun _ => ?_)
      · refine x_iconst (i := 0) c_iconst_0 hC (zdk dk_X12_comesOn 110 rfl) (q := 174) rfl ?_
        refine x_weak (L' := [.null, .null, .null, .null, .null]) ⟨Or.inl rfl, Or.inl rfl, Or.inl rfl, Or.inl rfl, Or.inl rfl, trivial⟩ ?_
        exact x_X12_comesOn_174 hC hE hk0 h_r0 _ _
      · refine x_iconst (i := 1) c_iconst_1 hC (zdk dk_X12_comesOn 108 rfl) (q := 170) rfl ?_
        refine x_goto (tgt := 174) hC (zdk dk_X12_comesOn 109 rfl) rfl ?_
        refine x_weak (L' := [.null, .null, .null, .null, .null]) ⟨Or.inl rfl, Or.inl rfl, Or.inl rfl, Or.inl rfl, Or.inl rfl, trivial⟩ ?_
        exact x_X12_comesOn_174 hC hE hk0 h_r0 _ _
    · refine x_aload_n (i := 0) rfl hC (zdk dk_X12_comesOn 88 rfl) (q := 139) rfl ?_
      refine x_iload (i := 4) rfl hC (zdk dk_X12_comesOn 89 rfl) (q := 141) rfl ?_
      refine x_iload_n (i := 3) rfl hC (zdk dk_X12_comesOn 90 rfl) (q := 142) rfl ?_
      refine x_iload_n (i := 1) rfl hC (zdk dk_X12_comesOn 91 rfl) (q := 143) rfl ?_
      refine x_iconst (i := 1) c_iconst_1 hC (zdk dk_X12_comesOn 92 rfl) (q := 144) rfl ?_
      refine x_isub hC (zdk dk_X12_comesOn 93 rfl) (q := 145) rfl ?_
      refine x_callVi (as := [.int x4, .int x3, .int (x1 - 1)]) cb_RX12_585 rfl (by decide) hk0 h_r0 (fun x hx => t_X12_pageOn h_r0 x hx) hC (zdk dk_X12_comesOn 94 rfl) (q := 148) rfl rfl (Nat.le_of_ble_eq_true rfl) (fun z4 => ?_)
      refine x_istore_n (i := 3) (L' := [.ref r0, .int x1, .null, .int z4.1, .int x4]) (by decide) rfl hC (zdk dk_X12_comesOn 95 rfl) (q := 149) rfl ?_
      refine x_iload_n (i := 3) rfl hC (zdk dk_X12_comesOn 96 rfl) (q := 150) rfl ?_
      refine x_iconst (i := (-1)) c_iconst_m1 hC (zdk dk_X12_comesOn 97 rfl) (q := 151) rfl ?_
      refine x_icmp_ne (tgt := 156) hC (zdk dk_X12_comesOn 98 rfl) (q := 154) rfl rfl (fun _ => ?_) (fun _ => ?_)
      · refine x_iinc (i := 4) c_iconst_1 rfl (by decide) (L' := [.ref r0, .int x1, .null, .int z4.1, .int (x4 + 1)]) rfl hC (zdk dk_X12_comesOn 101 rfl) (q := 159) rfl ?_
        refine x_goto (tgt := 124) hC (zdk dk_X12_comesOn 102 rfl) rfl ?_
        refine x_weak (L' := [.ref r0, .int x1, .null, .int z4.1, .int (x4 + 1)]) ⟨Or.inr rfl, Or.inr rfl, Or.inl rfl, Or.inr rfl, Or.inr rfl, trivial⟩ ?_
        exact ih _ _ _
      · refine x_iconst (i := 0) c_iconst_0 hC (zdk dk_X12_comesOn 99 rfl) (q := 155) rfl ?_
        exact x_iret (ty := .boolean) rfl hE hC (zdk dk_X12_comesOn 100 rfl)
set_option maxRecDepth 100000 in
def f_X12_comesOn_42  (r0 : Nat) (x1 : Int32) : Nat → Int32 → Int32 → Mem → Option (Int32 × Mem)
  | 0, _, _, _ => none
  | f + 1, x2, x3, M => (if x1 - 1 ≤ x3 then Option.bind (zrf M r0 0) fun q5 => Option.bind (zld q5 (x1 - 1)) fun k6 => (if zI M q5 k6 = x2 then Option.bind (f_X12_copies r0 1 0 M) fun M7 => Option.bind (zrf M7 r0 55) fun q8 => Option.bind (zrf M7 r0 0) fun q9 => Option.bind (zld q9 0) fun k10 => Option.bind (zrf M7 r0 0) fun q11 => Option.bind (zld q11 1) fun k12 => Option.bind (zld q8 1) fun k13 => Option.bind (some (zsI M7 q8 k13 (((zI M7 q9 k10) <<< (8 &&& 31)) ||| (zI M7 q11 k12)))) fun M14 => Option.bind (zrf M14 r0 60) fun q15 => Option.bind (zld q15 1) fun k16 => Option.bind (some (zsI M14 q15 k16 0)) fun M17 => f_X12_comesOn_124 r0 x1 1000000 2 0 M17 else some (0, M)) else Option.bind (zrf M r0 0) fun q18 => Option.bind (zld q18 x3) fun k19 => (f_X12_comesOn_42 r0 x1 f) (zrem ((5 * x2) + (zI M q18 k19)) 251) (x3 + 1) M)
set_option maxRecDepth 100000 in
set_option maxHeartbeats 4000000 in
theorem x_X12_comesOn_42 {κ : KX} {n : Nat} (hC : CX κ cX12_comesOn RX12 5 (some .boolean) 2) (hE : zEnd κ n (0, 0)) (hk0 : zRk κ (0, 0)) {r0 : Nat} {x1 : Int32} (h_r0 : zO n r0 12) : ∀ (f : Nat) (x2 : Int32) (x3 : Int32) (M : Mem), X κ 5 emI n (0, 0) 42 [.ref r0, .int x1, .int x2, .int x3, .null] [] M (f_X12_comesOn_42 r0 x1 f x2 x3 M) := by
  intro f
  induction f with
  | zero => intros; exact x_none
  | succ f ih =>
    intro x2 x3 M 
    rw [f_X12_comesOn_42]
    refine x_iload_n (i := 3) rfl hC (zdk dk_X12_comesOn 25 rfl) (q := 43) rfl ?_
    refine x_iload_n (i := 1) rfl hC (zdk dk_X12_comesOn 26 rfl) (q := 44) rfl ?_
    refine x_iconst (i := 1) c_iconst_1 hC (zdk dk_X12_comesOn 27 rfl) (q := 45) rfl ?_
    refine x_isub hC (zdk dk_X12_comesOn 28 rfl) (q := 46) rfl ?_
    refine x_icmp_ge (tgt := 70) hC (zdk dk_X12_comesOn 29 rfl) (q := 49) rfl rfl (fun _ => ?_) (fun _ => ?_)
    · refine x_aload_n (i := 0) rfl hC (zdk dk_X12_comesOn 43 rfl) (q := 71) rfl ?_
      refine x_getR (k := 20) fl_RX12_7 rfl h_r0 hC (zdk dk_X12_comesOn 44 rfl) (q := 74) rfl (fun q5 hq5 => ?_)
      refine x_iload_n (i := 1) rfl hC (zdk dk_X12_comesOn 45 rfl) (q := 75) rfl ?_
      refine x_iconst (i := 1) c_iconst_1 hC (zdk dk_X12_comesOn 46 rfl) (q := 76) rfl ?_
      refine x_isub hC (zdk dk_X12_comesOn 47 rfl) (q := 77) rfl ?_
      refine x_iald hq5 hC (zdk dk_X12_comesOn 48 rfl) (q := 78) rfl (fun k6 _ => ?_)
      refine x_iload_n (i := 2) rfl hC (zdk dk_X12_comesOn 49 rfl) (q := 79) rfl ?_
      refine x_icmp_eq (tgt := 84) hC (zdk dk_X12_comesOn 50 rfl) (q := 82) rfl rfl (fun _ => ?_) (fun _ => ?_)
      · refine x_aload_n (i := 0) rfl hC (zdk dk_X12_comesOn 53 rfl) (q := 85) rfl ?_
        refine x_iconst (i := 1) c_iconst_1 hC (zdk dk_X12_comesOn 54 rfl) (q := 86) rfl ?_
        refine x_iconst (i := 0) c_iconst_0 hC (zdk dk_X12_comesOn 55 rfl) (q := 87) rfl ?_
        refine x_callVv (as := [.int 1, .int 0]) cb_RX12_479 rfl (by decide) hk0 h_r0 (fun x hx => t_X12_copies h_r0 x hx) hC (zdk dk_X12_comesOn 56 rfl) (q := 90) rfl rfl (Nat.le_of_ble_eq_true rfl) (fun M7 => ?_)
        refine x_aload_n (i := 0) rfl hC (zdk dk_X12_comesOn 57 rfl) (q := 91) rfl ?_
        refine x_getR (k := 20) fl_RX12_180 rfl h_r0 hC (zdk dk_X12_comesOn 58 rfl) (q := 94) rfl (fun q8 hq8 => ?_)
        refine x_iconst (i := 1) c_iconst_1 hC (zdk dk_X12_comesOn 59 rfl) (q := 95) rfl ?_
        refine x_aload_n (i := 0) rfl hC (zdk dk_X12_comesOn 60 rfl) (q := 96) rfl ?_
        refine x_getR (k := 20) fl_RX12_7 rfl h_r0 hC (zdk dk_X12_comesOn 61 rfl) (q := 99) rfl (fun q9 hq9 => ?_)
        refine x_iconst (i := 0) c_iconst_0 hC (zdk dk_X12_comesOn 62 rfl) (q := 100) rfl ?_
        refine x_iald hq9 hC (zdk dk_X12_comesOn 63 rfl) (q := 101) rfl (fun k10 _ => ?_)
        refine x_bipush (i := 8) c_bipush_8 hC (zdk dk_X12_comesOn 64 rfl) (q := 103) rfl ?_
        refine x_ishl hC (zdk dk_X12_comesOn 65 rfl) (q := 104) rfl ?_
        refine x_aload_n (i := 0) rfl hC (zdk dk_X12_comesOn 66 rfl) (q := 105) rfl ?_
        refine x_getR (k := 20) fl_RX12_7 rfl h_r0 hC (zdk dk_X12_comesOn 67 rfl) (q := 108) rfl (fun q11 hq11 => ?_)
        refine x_iconst (i := 1) c_iconst_1 hC (zdk dk_X12_comesOn 68 rfl) (q := 109) rfl ?_
        refine x_iald hq11 hC (zdk dk_X12_comesOn 69 rfl) (q := 110) rfl (fun k12 _ => ?_)
        refine x_ior hC (zdk dk_X12_comesOn 70 rfl) (q := 111) rfl ?_
        refine x_iast hq8 hC (zdk dk_X12_comesOn 71 rfl) (q := 112) rfl (fun k13 _ => ?_)
        refine x_nmM (fun M14 => ?_)
        refine x_aload_n (i := 0) rfl hC (zdk dk_X12_comesOn 72 rfl) (q := 113) rfl ?_
        refine x_getR (k := 20) fl_RX12_195 rfl h_r0 hC (zdk dk_X12_comesOn 73 rfl) (q := 116) rfl (fun q15 hq15 => ?_)
        refine x_iconst (i := 1) c_iconst_1 hC (zdk dk_X12_comesOn 74 rfl) (q := 117) rfl ?_
        refine x_iconst (i := 0) c_iconst_0 hC (zdk dk_X12_comesOn 75 rfl) (q := 118) rfl ?_
        refine x_iast hq15 hC (zdk dk_X12_comesOn 76 rfl) (q := 119) rfl (fun k16 _ => ?_)
        refine x_nmM (fun M17 => ?_)
        refine x_iconst (i := 2) c_iconst_2 hC (zdk dk_X12_comesOn 77 rfl) (q := 120) rfl ?_
        refine x_istore_n (i := 3) (L' := [.ref r0, .int x1, .int x2, .int 2, .null]) (by decide) rfl hC (zdk dk_X12_comesOn 78 rfl) (q := 121) rfl ?_
        refine x_iconst (i := 0) c_iconst_0 hC (zdk dk_X12_comesOn 79 rfl) (q := 122) rfl ?_
        refine x_istore (i := 4) (L' := [.ref r0, .int x1, .int x2, .int 2, .int 0]) (by decide) rfl hC (zdk dk_X12_comesOn 80 rfl) (q := 124) rfl ?_
        refine x_weak (L' := [.ref r0, .int x1, .null, .int 2, .int 0]) ⟨Or.inr rfl, Or.inr rfl, Or.inl rfl, Or.inr rfl, Or.inr rfl, trivial⟩ ?_
        exact x_X12_comesOn_124 hC hE hk0 h_r0 _ _ _ _
      · refine x_iconst (i := 0) c_iconst_0 hC (zdk dk_X12_comesOn 51 rfl) (q := 83) rfl ?_
        exact x_iret (ty := .boolean) rfl hE hC (zdk dk_X12_comesOn 52 rfl)
    · refine x_iconst (i := 5) c_iconst_5 hC (zdk dk_X12_comesOn 30 rfl) (q := 50) rfl ?_
      refine x_iload_n (i := 2) rfl hC (zdk dk_X12_comesOn 31 rfl) (q := 51) rfl ?_
      refine x_imul hC (zdk dk_X12_comesOn 32 rfl) (q := 52) rfl ?_
      refine x_aload_n (i := 0) rfl hC (zdk dk_X12_comesOn 33 rfl) (q := 53) rfl ?_
      refine x_getR (k := 20) fl_RX12_7 rfl h_r0 hC (zdk dk_X12_comesOn 34 rfl) (q := 56) rfl (fun q18 hq18 => ?_)
      refine x_iload_n (i := 3) rfl hC (zdk dk_X12_comesOn 35 rfl) (q := 57) rfl ?_
      refine x_iald hq18 hC (zdk dk_X12_comesOn 36 rfl) (q := 58) rfl (fun k19 _ => ?_)
      refine x_iadd hC (zdk dk_X12_comesOn 37 rfl) (q := 59) rfl ?_
      refine x_sipush (i := 251) c_sipush_251 hC (zdk dk_X12_comesOn 38 rfl) (q := 62) rfl ?_
      refine x_irem (by decide) hC (zdk dk_X12_comesOn 39 rfl) (q := 63) rfl ?_
      refine x_istore_n (i := 2) (L' := [.ref r0, .int x1, .int (zrem ((5 * x2) + (zI M q18 k19)) 251), .int x3, .null]) (by decide) rfl hC (zdk dk_X12_comesOn 40 rfl) (q := 64) rfl ?_
      refine x_iinc (i := 3) c_iconst_1 rfl (by decide) (L' := [.ref r0, .int x1, .int (zrem ((5 * x2) + (zI M q18 k19)) 251), .int (x3 + 1), .null]) rfl hC (zdk dk_X12_comesOn 41 rfl) (q := 67) rfl ?_
      refine x_goto (tgt := 42) hC (zdk dk_X12_comesOn 42 rfl) rfl ?_
      refine x_weak (L' := [.ref r0, .int x1, .int (zrem ((5 * x2) + (zI M q18 k19)) 251), .int (x3 + 1), .null]) ⟨Or.inr rfl, Or.inr rfl, Or.inr rfl, Or.inr rfl, Or.inl rfl, trivial⟩ ?_
      exact ih _ _ _
set_option maxRecDepth 100000 in
def f_X12_comesOn (r0 : Nat) (x1 : Int32) (M : Mem) : Option (Int32 × Mem) := (if zI M r0 35 = 0 then f_X12_comesOn_34 r0 x1 M else (if x1 < 3 then f_X12_comesOn_34 r0 x1 M else Option.bind (zrf M r0 0) fun q20 => Option.bind (zld q20 0) fun k21 => Option.bind (zrf M r0 0) fun q22 => Option.bind (zld q22 1) fun k23 => (if ((zI M q20 k21) <<< (8 &&& 31)) ||| (zI M q22 k23) ≤ 999 then f_X12_comesOn_42 r0 x1 1000000 211 0 M else f_X12_comesOn_34 r0 x1 M)))
set_option maxRecDepth 100000 in
set_option maxHeartbeats 4000000 in
theorem x_X12_comesOn {κ : KX} {n : Nat} (hC : CX κ cX12_comesOn RX12 5 (some .boolean) 2) (hE : zEnd κ n (0, 0)) (hk0 : zRk κ (0, 0)) (r0 : Nat) (x1 : Int32) (M : Mem) (h_r0 : zO n r0 12) : X κ 5 emI n (0, 0) 0 [.ref r0, .int x1, .null, .null, .null] [] M (f_X12_comesOn r0 x1 M) := by
  unfold f_X12_comesOn
  refine x_aload_n (i := 0) rfl hC (zdk dk_X12_comesOn 0 rfl) (q := 1) rfl ?_
  refine x_getI fl_RX12_120 (by decide) h_r0 hC (zdk dk_X12_comesOn 1 rfl) (q := 4) rfl ?_
  refine x_if_eq (tgt := 34) hC (zdk dk_X12_comesOn 2 rfl) (q := 7) rfl rfl (fun _ => ?_) (fun _ => ?_)
  · refine x_weak (L' := [.null, .null, .null, .null, .null]) ⟨Or.inl rfl, Or.inl rfl, Or.inl rfl, Or.inl rfl, Or.inl rfl, trivial⟩ ?_
    exact x_X12_comesOn_34 hC hE hk0 h_r0 _
  · refine x_iload_n (i := 1) rfl hC (zdk dk_X12_comesOn 3 rfl) (q := 8) rfl ?_
    refine x_iconst (i := 3) c_iconst_3 hC (zdk dk_X12_comesOn 4 rfl) (q := 9) rfl ?_
    refine x_icmp_lt (tgt := 34) hC (zdk dk_X12_comesOn 5 rfl) (q := 12) rfl rfl (fun _ => ?_) (fun _ => ?_)
    · refine x_weak (L' := [.null, .null, .null, .null, .null]) ⟨Or.inl rfl, Or.inl rfl, Or.inl rfl, Or.inl rfl, Or.inl rfl, trivial⟩ ?_
      exact x_X12_comesOn_34 hC hE hk0 h_r0 _
    · refine x_aload_n (i := 0) rfl hC (zdk dk_X12_comesOn 6 rfl) (q := 13) rfl ?_
      refine x_getR (k := 20) fl_RX12_7 rfl h_r0 hC (zdk dk_X12_comesOn 7 rfl) (q := 16) rfl (fun q20 hq20 => ?_)
      refine x_iconst (i := 0) c_iconst_0 hC (zdk dk_X12_comesOn 8 rfl) (q := 17) rfl ?_
      refine x_iald hq20 hC (zdk dk_X12_comesOn 9 rfl) (q := 18) rfl (fun k21 _ => ?_)
      refine x_bipush (i := 8) c_bipush_8 hC (zdk dk_X12_comesOn 10 rfl) (q := 20) rfl ?_
      refine x_ishl hC (zdk dk_X12_comesOn 11 rfl) (q := 21) rfl ?_
      refine x_aload_n (i := 0) rfl hC (zdk dk_X12_comesOn 12 rfl) (q := 22) rfl ?_
      refine x_getR (k := 20) fl_RX12_7 rfl h_r0 hC (zdk dk_X12_comesOn 13 rfl) (q := 25) rfl (fun q22 hq22 => ?_)
      refine x_iconst (i := 1) c_iconst_1 hC (zdk dk_X12_comesOn 14 rfl) (q := 26) rfl ?_
      refine x_iald hq22 hC (zdk dk_X12_comesOn 15 rfl) (q := 27) rfl (fun k23 _ => ?_)
      refine x_ior hC (zdk dk_X12_comesOn 16 rfl) (q := 28) rfl ?_
      refine x_sipush (i := 999) c_sipush_999 hC (zdk dk_X12_comesOn 17 rfl) (q := 31) rfl ?_
      refine x_icmp_le (tgt := 36) hC (zdk dk_X12_comesOn 18 rfl) (q := 34) rfl rfl (fun _ => ?_) (fun _ => ?_)
      · refine x_sipush (i := 211) c_sipush_211 hC (zdk dk_X12_comesOn 21 rfl) (q := 39) rfl ?_
        refine x_istore_n (i := 2) (L' := [.ref r0, .int x1, .int 211, .null, .null]) (by decide) rfl hC (zdk dk_X12_comesOn 22 rfl) (q := 40) rfl ?_
        refine x_iconst (i := 0) c_iconst_0 hC (zdk dk_X12_comesOn 23 rfl) (q := 41) rfl ?_
        refine x_istore_n (i := 3) (L' := [.ref r0, .int x1, .int 211, .int 0, .null]) (by decide) rfl hC (zdk dk_X12_comesOn 24 rfl) (q := 42) rfl ?_
        refine x_weak (L' := [.ref r0, .int x1, .int 211, .int 0, .null]) ⟨Or.inr rfl, Or.inr rfl, Or.inr rfl, Or.inr rfl, Or.inl rfl, trivial⟩ ?_
        exact x_X12_comesOn_42 hC hE hk0 h_r0 _ _ _ _
      · refine x_weak (L' := [.null, .null, .null, .null, .null]) ⟨Or.inl rfl, Or.inl rfl, Or.inl rfl, Or.inl rfl, Or.inl rfl, trivial⟩ ?_
        exact x_X12_comesOn_34 hC hE hk0 h_r0 _
set_option maxRecDepth 100000 in
set_option maxHeartbeats 4000000 in
theorem t_X12_comesOn {n : Nat} {r0 : Nat} {x1 : Int32} {M : Mem} (h_r0 : zO n r0 12) (x : (Int32 × Mem)) (hx : f_X12_comesOn r0 x1 M = some x) (l : Launch) (dC : Nat → ClassId) (dI : Nat → Nat → Nat) (b : zSg) : MT l dC dI b yX12_comesOn cX12_comesOn 5 (some .boolean) 2 0 0 n n [.ref r0, .int x1] M (emI x).1 (emI x).2 :=
  MT.ofX (by decide +kernel) rfl (Nat.le_of_ble_eq_true rfl) (fun κ hC hF _ => x_X12_comesOn hC (zEnd_of hF (Nat.le_refl _) (Nat.le_refl _)) (zRk_of hF (Nat.le_refl _) (Nat.le_refl _)) _ _ _ h_r0) x hx
set_option maxRecDepth 100000 in
def dt_X12_on : List (Nat × Instr × Nat) := [(0, .aload_n 0, 1), (1, .getfield 13, 3), (4, .istore_n 1, 1), (5, .aload_n 0, 1), (6, .iconst 0, 1), (7, .putfield 13, 3), (10, .aload_n 0, 1), (11, .iload_n 1, 1), (12, .invokevirtual 588, 3), (15, .ifCond .ne 17, 3), (18, .aload_n 0, 1), (19, .iconst 5, 1), (20, .invokevirtual 243, 3), (23, .ifCond .lt 7, 3), (26, .iconst 1, 1), (27, .goto 4, 3), (30, .iconst 0, 1), (31, .ireturn, 1), (32, .aload_n 0, 1), (33, .iconst 0, 1), (34, .iconst 1, 1), (35, .invokevirtual 479, 3), (38, .aload_n 0, 1), (39, .iconst 0, 1), (40, .putfield 204, 3), (43, .iconst 1, 1), (44, .ireturn, 1)]
set_option maxRecDepth 100000 in
theorem dk_X12_on : dt_X12_on.all (fun q => decide (decode cX12_on q.1 = .ok q.2)) = true := by decide +kernel
set_option maxRecDepth 100000 in
def f_X12_on_31  (r0 : Nat) (s0 : Int32) (M : Mem) : Option (Int32 × Mem) := zbz s0 (some (s0, M))
set_option maxRecDepth 100000 in
set_option maxHeartbeats 4000000 in
theorem x_X12_on_31 {κ : KX} {n : Nat} (hC : CX κ cX12_on RX12 2 (some .boolean) 3) (hE : zEnd κ n (0, 0)) (hk0 : zRk κ (0, 0)) {r0 : Nat} (h_r0 : zO n r0 12) (s0 : Int32) (M : Mem) : X κ 2 emI n (0, 0) 31 [.null, .null] [.int s0] M (f_X12_on_31 r0 s0 M) := by
  unfold f_X12_on_31
  refine x_bz (fun hb1 => ?_)
  exact x_iret (ty := .boolean) hb1.1 hE hC (zdk dk_X12_on 17 rfl)
set_option maxRecDepth 100000 in
def f_X12_on (r0 : Nat) (M : Mem) : Option (Int32 × Mem) := Option.bind (some (zsI M r0 1 0)) fun M2 => Option.bind (f_X12_comesOn r0 (zI M r0 1) M2) fun z3 => (if z3.1 = 0 then Option.bind (f_X12_refuses r0 5 z3.2) fun z6 => (if z6.1 < 0 then f_X12_on_31 r0 0 z6.2 else f_X12_on_31 r0 1 z6.2) else Option.bind (f_X12_copies r0 0 1 z3.2) fun M4 => Option.bind (some (zsI M4 r0 63 0)) fun M5 => some (1, M5))
set_option maxRecDepth 100000 in
set_option maxHeartbeats 4000000 in
theorem x_X12_on {κ : KX} {n : Nat} (hC : CX κ cX12_on RX12 2 (some .boolean) 3) (hE : zEnd κ n (0, 0)) (hk0 : zRk κ (0, 0)) (r0 : Nat) (M : Mem) (h_r0 : zO n r0 12) : X κ 2 emI n (0, 0) 0 [.ref r0, .null] [] M (f_X12_on r0 M) := by
  unfold f_X12_on
  refine x_aload_n (i := 0) rfl hC (zdk dk_X12_on 0 rfl) (q := 1) rfl ?_
  refine x_getI fl_RX12_13 (by decide) h_r0 hC (zdk dk_X12_on 1 rfl) (q := 4) rfl ?_
  refine x_istore_n (i := 1) (L' := [.ref r0, .int (zI M r0 1)]) (by decide) rfl hC (zdk dk_X12_on 2 rfl) (q := 5) rfl ?_
  refine x_aload_n (i := 0) rfl hC (zdk dk_X12_on 3 rfl) (q := 6) rfl ?_
  refine x_iconst (i := 0) c_iconst_0 hC (zdk dk_X12_on 4 rfl) (q := 7) rfl ?_
  refine x_putI fl_RX12_13 ⟨rfl, rfl⟩ (by decide) (Or.inl rfl) h_r0 hC (zdk dk_X12_on 5 rfl) (q := 10) rfl ?_
  refine x_nmM (fun M2 => ?_)
  refine x_aload_n (i := 0) rfl hC (zdk dk_X12_on 6 rfl) (q := 11) rfl ?_
  refine x_iload_n (i := 1) rfl hC (zdk dk_X12_on 7 rfl) (q := 12) rfl ?_
  refine x_callVi (as := [.int (zI M r0 1)]) cb_RX12_588 rfl (by decide) hk0 h_r0 (fun x hx => t_X12_comesOn h_r0 x hx) hC (zdk dk_X12_on 8 rfl) (q := 15) rfl rfl (Nat.le_of_ble_eq_true rfl) (fun z3 => ?_)
  refine x_if_ne (tgt := 32) hC (zdk dk_X12_on 9 rfl) (q := 18) rfl rfl (fun _ => ?_) (fun _ => ?_)
  · refine x_aload_n (i := 0) rfl hC (zdk dk_X12_on 18 rfl) (q := 33) rfl ?_
    refine x_iconst (i := 0) c_iconst_0 hC (zdk dk_X12_on 19 rfl) (q := 34) rfl ?_
    refine x_iconst (i := 1) c_iconst_1 hC (zdk dk_X12_on 20 rfl) (q := 35) rfl ?_
    refine x_callVv (as := [.int 0, .int 1]) cb_RX12_479 rfl (by decide) hk0 h_r0 (fun x hx => t_X12_copies h_r0 x hx) hC (zdk dk_X12_on 21 rfl) (q := 38) rfl rfl (Nat.le_of_ble_eq_true rfl) (fun M4 => ?_)
    refine x_aload_n (i := 0) rfl hC (zdk dk_X12_on 22 rfl) (q := 39) rfl ?_
    refine x_iconst (i := 0) c_iconst_0 hC (zdk dk_X12_on 23 rfl) (q := 40) rfl ?_
    refine x_putI fl_RX12_204 ⟨rfl, rfl⟩ (by decide) (Or.inl rfl) h_r0 hC (zdk dk_X12_on 24 rfl) (q := 43) rfl ?_
    refine x_nmM (fun M5 => ?_)
    refine x_iconst (i := 1) c_iconst_1 hC (zdk dk_X12_on 25 rfl) (q := 44) rfl ?_
    exact x_iret (ty := .boolean) rfl hE hC (zdk dk_X12_on 26 rfl)
  · refine x_aload_n (i := 0) rfl hC (zdk dk_X12_on 10 rfl) (q := 19) rfl ?_
    refine x_iconst (i := 5) c_iconst_5 hC (zdk dk_X12_on 11 rfl) (q := 20) rfl ?_
    refine x_callVi (as := [.int 5]) cb_RX12_243 rfl (by decide) hk0 h_r0 (fun x hx => t_X12_refuses h_r0 x hx) hC (zdk dk_X12_on 12 rfl) (q := 23) rfl rfl (Nat.le_of_ble_eq_true rfl) (fun z6 => ?_)
    refine x_if_lt (tgt := 30) hC (zdk dk_X12_on 13 rfl) (q := 26) rfl rfl (fun _ => ?_) (fun _ => ?_)
    · refine x_iconst (i := 0) c_iconst_0 hC (zdk dk_X12_on 16 rfl) (q := 31) rfl ?_
      refine x_weak (L' := [.null, .null]) ⟨Or.inl rfl, Or.inl rfl, trivial⟩ ?_
      exact x_X12_on_31 hC hE hk0 h_r0 _ _
    · refine x_iconst (i := 1) c_iconst_1 hC (zdk dk_X12_on 14 rfl) (q := 27) rfl ?_
      refine x_goto (tgt := 31) hC (zdk dk_X12_on 15 rfl) rfl ?_
      refine x_weak (L' := [.null, .null]) ⟨Or.inl rfl, Or.inl rfl, trivial⟩ ?_
      exact x_X12_on_31 hC hE hk0 h_r0 _ _
set_option maxRecDepth 100000 in
set_option maxHeartbeats 4000000 in
theorem t_X12_on {n : Nat} {r0 : Nat} {M : Mem} (h_r0 : zO n r0 12) (x : (Int32 × Mem)) (hx : f_X12_on r0 M = some x) (l : Launch) (dC : Nat → ClassId) (dI : Nat → Nat → Nat) (b : zSg) : MT l dC dI b yX12_on cX12_on 2 (some .boolean) 3 0 0 n n [.ref r0] M (emI x).1 (emI x).2 :=
  MT.ofX (by decide +kernel) rfl (Nat.le_of_ble_eq_true rfl) (fun κ hC hF _ => x_X12_on hC (zEnd_of hF (Nat.le_refl _) (Nat.le_refl _)) (zRk_of hF (Nat.le_refl _) (Nat.le_refl _)) _ _ h_r0) x hx
