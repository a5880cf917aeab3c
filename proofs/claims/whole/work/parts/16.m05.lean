set_option maxRecDepth 100000 in
def dt_X6_readTries : List (Nat × Instr × Nat) := [(0, .aload_n 0, 1), (1, .getfield 18, 3), (4, .invokevirtual 194, 3), (7, .ifCond .eq 14, 3), (10, .aload_n 0, 1), (11, .bipush 6, 2), (13, .aload_n 0, 1), (14, .getfield 81, 3), (17, .invokevirtual 84, 3), (20, .ireturn, 1), (21, .aload_n 0, 1), (22, .invokevirtual 64, 3), (25, .aload_n 0, 1), (26, .iconst 0, 1), (27, .putfield 178, 3), (30, .aload_n 0, 1), (31, .getfield 18, 3), (34, .aload_n 0, 1), (35, .getfield 18, 3), (38, .getfield 182, 3), (41, .putfield 197, 3), (44, .aload_n 0, 1), (45, .iconst 0, 1), (46, .invokevirtual 200, 3), (49, .ifCond .ne 5, 3), (52, .iconst 0, 1), (53, .ireturn, 1), (54, .aload_n 0, 1), (55, .getfield 18, 3), (58, .aload_n 0, 1), (59, .getfield 18, 3), (62, .getfield 182, 3), (65, .putfield 203, 3), (68, .iconst 1, 1), (69, .ireturn, 1)]
set_option maxRecDepth 100000 in
theorem dk_X6_readTries : dt_X6_readTries.all (fun q => decide (decode cX6_readTries q.1 = .ok q.2)) = true := by decide +kernel
set_option maxRecDepth 100000 in
def f_X6_readTries (r0 : Nat) (M : Mem) : Option (Int32 × Mem) := Option.bind (zrf M r0 2) fun q1 => Option.bind (f_X0_hasTries q1 M) fun z2 => (if z2.1 = 0 then Option.bind (f_X6_look r0 z2.2) fun M3 => Option.bind (some (zsI M3 r0 12 0)) fun M4 => Option.bind (zrf M4 r0 2) fun q5 => Option.bind (zrf M4 r0 2) fun q6 => Option.bind (some (zsI M4 q5 6 (zI M4 q6 3))) fun M7 => Option.bind (f_rd 120 5 r0 0 0 M7) fun z8 => (if z8.1 = 0 then some (0, z8.2) else Option.bind (zrf z8.2 r0 2) fun q9 => Option.bind (zrf z8.2 r0 2) fun q10 => Option.bind (some (zsI z8.2 q9 7 (zI z8.2 q10 3))) fun M11 => some (1, M11)) else Option.bind (f_X6_failBy r0 6 (zI z2.2 r0 7) z2.2) fun z12 => zbz z12.1 (some (z12.1, z12.2)))
set_option maxRecDepth 100000 in
set_option maxHeartbeats 4000000 in
theorem x_X6_readTries {κ : KX} {n : Nat} (hC : CX κ cX6_readTries RX6 1 (some .boolean) 124) (hE : zEnd κ n (0, 0)) (hk0 : zRk κ (0, 0)) (r0 : Nat) (M : Mem) (h_r0 : zO n r0 6) : X κ 1 emI n (0, 0) 0 [.ref r0] [] M (f_X6_readTries r0 M) := by
  unfold f_X6_readTries
  refine x_aload_n (i := 0) rfl hC (zdk dk_X6_readTries 0 rfl) (q := 1) rfl ?_
  refine x_getR (k := 0) fl_RX6_18 rfl h_r0 hC (zdk dk_X6_readTries 1 rfl) (q := 4) rfl (fun q1 hq1 => ?_)
  refine x_callVi (as := []) cb_RX6_194 rfl (by decide) hk0 hq1 (fun x hx => t_X0_hasTries hq1 x hx) hC (zdk dk_X6_readTries 2 rfl) (q := 7) rfl rfl (Nat.le_of_ble_eq_true rfl) (fun z2 => ?_)
  refine x_if_eq (tgt := 21) hC (zdk dk_X6_readTries 3 rfl) (q := 10) rfl rfl (fun _ => ?_) (fun _ => ?_)
  · refine x_aload_n (i := 0) rfl hC (zdk dk_X6_readTries 10 rfl) (q := 22) rfl ?_
    refine x_callVv (as := []) cb_RX6_64 rfl (by decide) hk0 h_r0 (fun x hx => t_X6_look h_r0 x hx) hC (zdk dk_X6_readTries 11 rfl) (q := 25) rfl rfl (Nat.le_of_ble_eq_true rfl) (fun M3 => ?_)
    refine x_aload_n (i := 0) rfl hC (zdk dk_X6_readTries 12 rfl) (q := 26) rfl ?_
    refine x_iconst (i := 0) c_iconst_0 hC (zdk dk_X6_readTries 13 rfl) (q := 27) rfl ?_
    refine x_putI fl_RX6_178 ⟨rfl, rfl⟩ (by decide) (Or.inl rfl) h_r0 hC (zdk dk_X6_readTries 14 rfl) (q := 30) rfl ?_
    refine x_nmM (fun M4 => ?_)
    refine x_aload_n (i := 0) rfl hC (zdk dk_X6_readTries 15 rfl) (q := 31) rfl ?_
    refine x_getR (k := 0) fl_RX6_18 rfl h_r0 hC (zdk dk_X6_readTries 16 rfl) (q := 34) rfl (fun q5 hq5 => ?_)
    refine x_aload_n (i := 0) rfl hC (zdk dk_X6_readTries 17 rfl) (q := 35) rfl ?_
    refine x_getR (k := 0) fl_RX6_18 rfl h_r0 hC (zdk dk_X6_readTries 18 rfl) (q := 38) rfl (fun q6 hq6 => ?_)
    refine x_getI fl_RX6_182 (by decide) hq6 hC (zdk dk_X6_readTries 19 rfl) (q := 41) rfl ?_
    refine x_putI fl_RX6_197 ⟨rfl, rfl⟩ (by decide) (Or.inl rfl) hq5 hC (zdk dk_X6_readTries 20 rfl) (q := 44) rfl ?_
    refine x_nmM (fun M7 => ?_)
    refine x_aload_n (i := 0) rfl hC (zdk dk_X6_readTries 21 rfl) (q := 45) rfl ?_
    refine x_iconst (i := 0) c_iconst_0 hC (zdk dk_X6_readTries 22 rfl) (q := 46) rfl ?_
    refine x_callVi (as := [.int 0]) cb_RX6_200 rfl (by decide) hk0 h_r0 (fun x hx => ((zt_rd 120).2.2.2.2.2.1) _ _ _ h_r0 x hx) hC (zdk dk_X6_readTries 23 rfl) (q := 49) rfl rfl (Nat.le_of_ble_eq_true rfl) (fun z8 => ?_)
    refine x_if_ne (tgt := 54) hC (zdk dk_X6_readTries 24 rfl) (q := 52) rfl rfl (fun _ => ?_) (fun _ => ?_)
    · refine x_aload_n (i := 0) rfl hC (zdk dk_X6_readTries 27 rfl) (q := 55) rfl ?_
      refine x_getR (k := 0) fl_RX6_18 rfl h_r0 hC (zdk dk_X6_readTries 28 rfl) (q := 58) rfl (fun q9 hq9 => ?_)
      refine x_aload_n (i := 0) rfl hC (zdk dk_X6_readTries 29 rfl) (q := 59) rfl ?_
      refine x_getR (k := 0) fl_RX6_18 rfl h_r0 hC (zdk dk_X6_readTries 30 rfl) (q := 62) rfl (fun q10 hq10 => ?_)
      refine x_getI fl_RX6_182 (by decide) hq10 hC (zdk dk_X6_readTries 31 rfl) (q := 65) rfl ?_
      refine x_putI fl_RX6_203 ⟨rfl, rfl⟩ (by decide) (Or.inl rfl) hq9 hC (zdk dk_X6_readTries 32 rfl) (q := 68) rfl ?_
      refine x_nmM (fun M11 => ?_)
      refine x_iconst (i := 1) c_iconst_1 hC (zdk dk_X6_readTries 33 rfl) (q := 69) rfl ?_
      exact x_iret (ty := .boolean) rfl hE hC (zdk dk_X6_readTries 34 rfl)
    · refine x_iconst (i := 0) c_iconst_0 hC (zdk dk_X6_readTries 25 rfl) (q := 53) rfl ?_
      exact x_iret (ty := .boolean) rfl hE hC (zdk dk_X6_readTries 26 rfl)
  · refine x_aload_n (i := 0) rfl hC (zdk dk_X6_readTries 4 rfl) (q := 11) rfl ?_
    refine x_bipush (i := 6) c_bipush_6 hC (zdk dk_X6_readTries 5 rfl) (q := 13) rfl ?_
    refine x_aload_n (i := 0) rfl hC (zdk dk_X6_readTries 6 rfl) (q := 14) rfl ?_
    refine x_getI fl_RX6_81 (by decide) h_r0 hC (zdk dk_X6_readTries 7 rfl) (q := 17) rfl ?_
    refine x_callVi (as := [.int 6, .int (zI z2.2 r0 7)]) cb_RX6_84 rfl (by decide) hk0 h_r0 (fun x hx => t_X6_failBy h_r0 x hx) hC (zdk dk_X6_readTries 8 rfl) (q := 20) rfl rfl (Nat.le_of_ble_eq_true rfl) (fun z12 => ?_)
    refine x_bz (fun hb13 => ?_)
    exact x_iret (ty := .boolean) hb13.1 hE hC (zdk dk_X6_readTries 9 rfl)
set_option maxRecDepth 100000 in
set_option maxHeartbeats 4000000 in
theorem t_X6_readTries {n : Nat} {r0 : Nat} {M : Mem} (h_r0 : zO n r0 6) (x : (Int32 × Mem)) (hx : f_X6_readTries r0 M = some x) (l : Launch) (dC : Nat → ClassId) (dI : Nat → Nat → Nat) (b : zSg) : MT l dC dI b yX6_readTries cX6_readTries 1 (some .boolean) 124 0 0 n n [.ref r0] M (emI x).1 (emI x).2 :=
  MT.ofX (by decide +kernel) rfl (Nat.le_of_ble_eq_true rfl) (fun κ hC hF _ => x_X6_readTries hC (zEnd_of hF (Nat.le_refl _) (Nat.le_refl _)) (zRk_of hF (Nat.le_refl _) (Nat.le_refl _)) _ _ h_r0) x hx
set_option maxRecDepth 100000 in
def dt_X6_readStatement : List (Nat × Instr × Nat) := [(0, .aload_n 0, 1), (1, .getfield 78, 3), (4, .bipush (-2), 2), (6, .if_icmp .eq 8, 3), (9, .aload_n 0, 1), (10, .invokevirtual 115, 3), (13, .ireturn, 1), (14, .aload_n 0, 1), (15, .getfield 94, 3), (18, .lookupswitch 49 #[(4, 34), (10, 39), (11, 44)], 34), (52, .aload_n 0, 1), (53, .invokevirtual 139, 3), (56, .ireturn, 1), (57, .aload_n 0, 1), (58, .invokevirtual 142, 3), (61, .ireturn, 1), (62, .aload_n 0, 1), (63, .invokevirtual 145, 3), (66, .ireturn, 1), (67, .aload_n 0, 1), (68, .invokevirtual 148, 3), (71, .ireturn, 1)]
set_option maxRecDepth 100000 in
theorem dk_X6_readStatement : dt_X6_readStatement.all (fun q => decide (decode cX6_readStatement q.1 = .ok q.2)) = true := by decide +kernel
theorem zlkD_X6_readStatement {x : Int32} (h0 : ¬ x = 4) (h1 : ¬ x = 10) (h2 : ¬ x = 11) : ((#[(4, 34), (10, 39), (11, 44)] : Array (Int × Int)).toList.zip ((#[(4, 34), (10, 39), (11, 44)] : Array (Int × Int)).toList.drop 1)).all (fun (a, next) => a.1 < next.1) = true ∧ Op.lookupswitch.offset (#[(4, 34), (10, 39), (11, 44)] : Array (Int × Int)).toList 49 x.toInt = 49 := by
  have g0 : ¬ x.toInt = 4 := fun h => h0 (Int32.toInt_inj.mp h)
  have g1 : ¬ x.toInt = 10 := fun h => h1 (Int32.toInt_inj.mp h)
  have g2 : ¬ x.toInt = 11 := fun h => h2 (Int32.toInt_inj.mp h)
  refine ⟨by decide, ?_⟩
  simp only [Op.lookupswitch.offset]
  rw [if_neg (fun h => g0 h.symm), if_neg (fun h => g1 h.symm), if_neg (fun h => g2 h.symm)]
set_option maxRecDepth 100000 in
def f_X6_readStatement (r0 : Nat) (M : Mem) : Option (Int32 × Mem) := (if zI M r0 6 = (-2) then (if zI M r0 11 = 4 then Option.bind (f_X6_readPage r0 M) fun z2 => zbz z2.1 (some (z2.1, z2.2)) else if zI M r0 11 = 10 then Option.bind (f_X6_readDrifts r0 M) fun z5 => zbz z5.1 (some (z5.1, z5.2)) else if zI M r0 11 = 11 then Option.bind (f_X6_readTries r0 M) fun z8 => zbz z8.1 (some (z8.1, z8.2)) else Option.bind (f_X6_readSetting r0 M) fun z10 => zbz z10.1 (some (z10.1, z10.2))) else Option.bind (f_X6_failHere r0 M) fun z12 => zbz z12.1 (some (z12.1, z12.2)))
set_option maxRecDepth 100000 in
set_option maxHeartbeats 4000000 in
theorem x_X6_readStatement {κ : KX} {n : Nat} (hC : CX κ cX6_readStatement RX6 1 (some .boolean) 125) (hE : zEnd κ n (0, 0)) (hk0 : zRk κ (0, 0)) (r0 : Nat) (M : Mem) (h_r0 : zO n r0 6) : X κ 1 emI n (0, 0) 0 [.ref r0] [] M (f_X6_readStatement r0 M) := by
  unfold f_X6_readStatement
  refine x_aload_n (i := 0) rfl hC (zdk dk_X6_readStatement 0 rfl) (q := 1) rfl ?_
  refine x_getI fl_RX6_78 (by decide) h_r0 hC (zdk dk_X6_readStatement 1 rfl) (q := 4) rfl ?_
  refine x_bipush (i := (-2)) c_bipush_m2 hC (zdk dk_X6_readStatement 2 rfl) (q := 6) rfl ?_
  refine x_icmp_eq (tgt := 14) hC (zdk dk_X6_readStatement 3 rfl) (q := 9) rfl rfl (fun _ => ?_) (fun _ => ?_)
  · refine x_aload_n (i := 0) rfl hC (zdk dk_X6_readStatement 7 rfl) (q := 15) rfl ?_
    refine x_getI fl_RX6_94 (by decide) h_r0 hC (zdk dk_X6_readStatement 8 rfl) (q := 18) rfl ?_
    refine x_lookup (v := 4) (off := 34) (tgt := 52) hC (zdk dk_X6_readStatement 9 rfl) (by decide) ?_ (fun ht1 => ?_)
    · refine x_aload_n (i := 0) rfl hC (zdk dk_X6_readStatement 10 rfl) (q := 53) rfl ?_
      refine x_callVi (as := []) cb_RX6_139 rfl (by decide) hk0 h_r0 (fun x hx => t_X6_readPage h_r0 x hx) hC (zdk dk_X6_readStatement 11 rfl) (q := 56) rfl rfl (Nat.le_of_ble_eq_true rfl) (fun z2 => ?_)
      refine x_bz (fun hb3 => ?_)
      exact x_iret (ty := .boolean) hb3.1 hE hC (zdk dk_X6_readStatement 12 rfl)
    refine x_lookup (v := 10) (off := 39) (tgt := 57) hC (zdk dk_X6_readStatement 9 rfl) (by decide) ?_ (fun ht4 => ?_)
    · refine x_aload_n (i := 0) rfl hC (zdk dk_X6_readStatement 13 rfl) (q := 58) rfl ?_
      refine x_callVi (as := []) cb_RX6_142 rfl (by decide) hk0 h_r0 (fun x hx => t_X6_readDrifts h_r0 x hx) hC (zdk dk_X6_readStatement 14 rfl) (q := 61) rfl rfl (Nat.le_of_ble_eq_true rfl) (fun z5 => ?_)
      refine x_bz (fun hb6 => ?_)
      exact x_iret (ty := .boolean) hb6.1 hE hC (zdk dk_X6_readStatement 15 rfl)
    refine x_lookup (v := 11) (off := 44) (tgt := 62) hC (zdk dk_X6_readStatement 9 rfl) (by decide) ?_ (fun ht7 => ?_)
    · refine x_aload_n (i := 0) rfl hC (zdk dk_X6_readStatement 16 rfl) (q := 63) rfl ?_
      refine x_callVi (as := []) cb_RX6_145 rfl (by decide) hk0 h_r0 (fun x hx => t_X6_readTries h_r0 x hx) hC (zdk dk_X6_readStatement 17 rfl) (q := 66) rfl rfl (Nat.le_of_ble_eq_true rfl) (fun z8 => ?_)
      refine x_bz (fun hb9 => ?_)
      exact x_iret (ty := .boolean) hb9.1 hE hC (zdk dk_X6_readStatement 18 rfl)
    refine x_lookupD (tgt := 67) hC (zdk dk_X6_readStatement 9 rfl) (zlkD_X6_readStatement ht1 ht4 ht7) rfl ?_
    refine x_aload_n (i := 0) rfl hC (zdk dk_X6_readStatement 19 rfl) (q := 68) rfl ?_
    refine x_callVi (as := []) cb_RX6_148 rfl (by decide) hk0 h_r0 (fun x hx => t_X6_readSetting h_r0 x hx) hC (zdk dk_X6_readStatement 20 rfl) (q := 71) rfl rfl (Nat.le_of_ble_eq_true rfl) (fun z10 => ?_)
    refine x_bz (fun hb11 => ?_)
    exact x_iret (ty := .boolean) hb11.1 hE hC (zdk dk_X6_readStatement 21 rfl)
  · refine x_aload_n (i := 0) rfl hC (zdk dk_X6_readStatement 4 rfl) (q := 10) rfl ?_
    refine x_callVi (as := []) cb_RX6_115 rfl (by decide) hk0 h_r0 (fun x hx => t_X6_failHere h_r0 x hx) hC (zdk dk_X6_readStatement 5 rfl) (q := 13) rfl rfl (Nat.le_of_ble_eq_true rfl) (fun z12 => ?_)
    refine x_bz (fun hb13 => ?_)
    exact x_iret (ty := .boolean) hb13.1 hE hC (zdk dk_X6_readStatement 6 rfl)
set_option maxRecDepth 100000 in
set_option maxHeartbeats 4000000 in
theorem t_X6_readStatement {n : Nat} {r0 : Nat} {M : Mem} (h_r0 : zO n r0 6) (x : (Int32 × Mem)) (hx : f_X6_readStatement r0 M = some x) (l : Launch) (dC : Nat → ClassId) (dI : Nat → Nat → Nat) (b : zSg) : MT l dC dI b yX6_readStatement cX6_readStatement 1 (some .boolean) 125 0 0 n n [.ref r0] M (emI x).1 (emI x).2 :=
  MT.ofX (by decide +kernel) rfl (Nat.le_of_ble_eq_true rfl) (fun κ hC hF _ => x_X6_readStatement hC (zEnd_of hF (Nat.le_refl _) (Nat.le_refl _)) (zRk_of hF (Nat.le_refl _) (Nat.le_refl _)) _ _ h_r0) x hx
set_option maxRecDepth 100000 in
def dt_X6_reads : List (Nat × Instr × Nat) := [(0, .aload_n 0, 1), (1, .iload_n 1, 1), (2, .aload_n 0, 1), (3, .getfield 15, 3), (6, .arraylength, 1), (7, .invokestatic 40, 3), (10, .putfield 46, 3), (13, .aload_n 0, 1), (14, .aload_n 2, 1), (15, .putfield 18, 3), (18, .aload_n 0, 1), (19, .getfield 18, 3), (22, .invokevirtual 50, 3), (25, .aload_n 0, 1), (26, .iconst 0, 1), (27, .putfield 55, 3), (30, .aload_n 0, 1), (31, .iconst (-1), 1), (32, .putfield 58, 3), (35, .aload_n 0, 1), (36, .iconst 0, 1), (37, .putfield 61, 3), (40, .aload_n 0, 1), (41, .invokevirtual 64, 3), (44, .aload_n 0, 1), (45, .invokevirtual 67, 3), (48, .ifCond .eq 12, 3), (51, .aload_n 0, 1), (52, .bipush 59, 2), (54, .invokevirtual 71, 3), (57, .ifCond .ne 5, 3), (60, .iconst 0, 1), (61, .ireturn, 1), (62, .aload_n 0, 1), (63, .getfield 18, 3), (66, .iconst 1, 1), (67, .putfield 75, 3), (70, .iconst 0, 1), (71, .istore_n 3, 1), (72, .iload_n 3, 1), (73, .bipush 40, 2), (75, .if_icmp .ge 71, 3), (78, .aload_n 0, 1), (79, .getfield 78, 3), (82, .iconst (-1), 1), (83, .if_icmp .eq 63, 3), (86, .aload_n 0, 1), (87, .getfield 18, 3), (90, .getfield 75, 3), (93, .bipush 40, 2), (95, .if_icmp .ne 14, 3), (98, .aload_n 0, 1), (99, .bipush 6, 2), (101, .aload_n 0, 1), (102, .getfield 81, 3), (105, .invokevirtual 84, 3), (108, .ireturn, 1), (109, .aload_n 0, 1), (110, .invokevirtual 88, 3), (113, .ifCond .eq 12, 3), (116, .aload_n 0, 1), (117, .bipush 59, 2), (119, .invokevirtual 71, 3), (122, .ifCond .ne 5, 3), (125, .iconst 0, 1), (126, .ireturn, 1), (127, .aload_n 0, 1), (128, .getfield 18, 3), (131, .dup, 1), (132, .getfield 75, 3), (135, .iconst 1, 1), (136, .iadd, 1), (137, .putfield 75, 3), (140, .iinc 3 1, 3), (143, .goto (-71), 3), (146, .iconst 1, 1), (147, .ireturn, 1)]
set_option maxRecDepth 100000 in
theorem dk_X6_reads : dt_X6_reads.all (fun q => decide (decode cX6_reads q.1 = .ok q.2)) = true := by decide +kernel
set_option maxRecDepth 100000 in
def f_X6_reads_60  (r0 : Nat) (x1 : Int32) (r2 : Nat)  (M : Mem) : Option (Int32 × Mem) := some (0, M)
set_option maxRecDepth 100000 in
set_option maxHeartbeats 4000000 in
theorem x_X6_reads_60 {κ : KX} {n : Nat} (hC : CX κ cX6_reads RX6 4 (some .boolean) 126) (hE : zEnd κ n (0, 0)) (hk0 : zRk κ (0, 0)) {r0 : Nat} {x1 : Int32} {r2 : Nat} (h_r0 : zO n r0 6) (h_r2 : zO n r2 0) (M : Mem) : X κ 4 emI n (0, 0) 60 [.null, .null, .null, .null] [] M (f_X6_reads_60 r0 x1 r2 M) := by
  unfold f_X6_reads_60
  refine x_iconst (i := 0) c_iconst_0 hC (zdk dk_X6_reads 31 rfl) (q := 61) rfl ?_
  exact x_iret (ty := .boolean) rfl hE hC (zdk dk_X6_reads 32 rfl)
set_option maxRecDepth 100000 in
def f_X6_reads_125  (r0 : Nat) (x1 : Int32) (r2 : Nat)  (M : Mem) : Option (Int32 × Mem) := some (0, M)
set_option maxRecDepth 100000 in
set_option maxHeartbeats 4000000 in
theorem x_X6_reads_125 {κ : KX} {n : Nat} (hC : CX κ cX6_reads RX6 4 (some .boolean) 126) (hE : zEnd κ n (0, 0)) (hk0 : zRk κ (0, 0)) {r0 : Nat} {x1 : Int32} {r2 : Nat} (h_r0 : zO n r0 6) (h_r2 : zO n r2 0) (M : Mem) : X κ 4 emI n (0, 0) 125 [.null, .null, .null, .null] [] M (f_X6_reads_125 r0 x1 r2 M) := by
  unfold f_X6_reads_125
  refine x_iconst (i := 0) c_iconst_0 hC (zdk dk_X6_reads 64 rfl) (q := 126) rfl ?_
  exact x_iret (ty := .boolean) rfl hE hC (zdk dk_X6_reads 65 rfl)
set_option maxRecDepth 100000 in
def f_X6_reads_146  (r0 : Nat) (x1 : Int32) (r2 : Nat)  (M : Mem) : Option (Int32 × Mem) := some (1, M)
set_option maxRecDepth 100000 in
set_option maxHeartbeats 4000000 in
theorem x_X6_reads_146 {κ : KX} {n : Nat} (hC : CX κ cX6_reads RX6 4 (some .boolean) 126) (hE : zEnd κ n (0, 0)) (hk0 : zRk κ (0, 0)) {r0 : Nat} {x1 : Int32} {r2 : Nat} (h_r0 : zO n r0 6) (h_r2 : zO n r2 0) (M : Mem) : X κ 4 emI n (0, 0) 146 [.null, .null, .null, .null] [] M (f_X6_reads_146 r0 x1 r2 M) := by
  unfold f_X6_reads_146
  refine x_iconst (i := 1) c_iconst_1 hC (zdk dk_X6_reads 75 rfl) (q := 147) rfl ?_
  exact x_iret (ty := .boolean) rfl hE hC (zdk dk_X6_reads 76 rfl)
set_option maxRecDepth 100000 in
def f_X6_reads_72  (r0 : Nat) (x1 : Int32) (r2 : Nat) : Nat → Int32 → Mem → Option (Int32 × Mem)
  | 0, _, _ => none
  | f + 1, x3, M => (if 40 ≤ x3 then f_X6_reads_146 r0 x1 r2 M else (if zI M r0 6 = (-1) then f_X6_reads_146 r0 x1 r2 M else Option.bind (zrf M r0 2) fun q1 => (if zI M q1 8 = 40 then Option.bind (f_X6_failBy r0 6 (zI M r0 7) M) fun z6 => zbz z6.1 (some (z6.1, z6.2)) else Option.bind (f_X6_readStatement r0 M) fun z2 => (if z2.1 = 0 then f_X6_reads_125 r0 x1 r2 z2.2 else Option.bind (f_X6_readSign r0 59 z2.2) fun z3 => (if z3.1 = 0 then f_X6_reads_125 r0 x1 r2 z3.2 else Option.bind (zrf z3.2 r0 2) fun q4 => Option.bind (some (zsI z3.2 q4 8 ((zI z3.2 q4 8) + 1))) fun M5 => (f_X6_reads_72 r0 x1 r2 f) (x3 + 1) M5)))))
set_option maxRecDepth 100000 in
set_option maxHeartbeats 4000000 in
theorem x_X6_reads_72 {κ : KX} {n : Nat} (hC : CX κ cX6_reads RX6 4 (some .boolean) 126) (hE : zEnd κ n (0, 0)) (hk0 : zRk κ (0, 0)) {r0 : Nat} {x1 : Int32} {r2 : Nat} (h_r0 : zO n r0 6) (h_r2 : zO n r2 0) : ∀ (f : Nat) (x3 : Int32) (M : Mem), X κ 4 emI n (0, 0) 72 [.ref r0, .null, .null, .int x3] [] M (f_X6_reads_72 r0 x1 r2 f x3 M) := by
  intro f
  induction f with
  | zero => intros; exact x_none
  | succ f ih =>
    intro x3 M 
    rw [f_X6_reads_72]
    refine x_iload_n (i := 3) rfl hC (zdk dk_X6_reads 39 rfl) (q := 73) rfl ?_
    refine x_bipush (i := 40) c_bipush_40 hC (zdk dk_X6_reads 40 rfl) (q := 75) rfl ?_
    refine x_icmp_ge (tgt := 146) hC (zdk dk_X6_reads 41 rfl) (q := 78) rfl rfl (fun _ => ?_) (fun _ => ?_)
    · refine x_weak (L' := [.null, .null, .null, .null]) ⟨Or.inl rfl, Or.inl rfl, Or.inl rfl, Or.inl rfl, trivial⟩ ?_
      exact x_X6_reads_146 hC hE hk0 h_r0 h_r2 _
    · refine x_aload_n (i := 0) rfl hC (zdk dk_X6_reads 42 rfl) (q := 79) rfl ?_
      refine x_getI fl_RX6_78 (by decide) h_r0 hC (zdk dk_X6_reads 43 rfl) (q := 82) rfl ?_
      refine x_iconst (i := (-1)) c_iconst_m1 hC (zdk dk_X6_reads 44 rfl) (q := 83) rfl ?_
      refine x_icmp_eq (tgt := 146) hC (zdk dk_X6_reads 45 rfl) (q := 86) rfl rfl (fun _ => ?_) (fun _ => ?_)
      · refine x_weak (L' := [.null, .null, .null, .null]) ⟨Or.inl rfl, Or.inl rfl, Or.inl rfl, Or.inl rfl, trivial⟩ ?_
        exact x_X6_reads_146 hC hE hk0 h_r0 h_r2 _
      · refine x_aload_n (i := 0) rfl hC (zdk dk_X6_reads 46 rfl) (q := 87) rfl ?_
        refine x_getR (k := 0) fl_RX6_18 rfl h_r0 hC (zdk dk_X6_reads 47 rfl) (q := 90) rfl (fun q1 hq1 => ?_)
        refine x_getI fl_RX6_75 (by decide) hq1 hC (zdk dk_X6_reads 48 rfl) (q := 93) rfl ?_
        refine x_bipush (i := 40) c_bipush_40 hC (zdk dk_X6_reads 49 rfl) (q := 95) rfl ?_
        refine x_icmp_ne (tgt := 109) hC (zdk dk_X6_reads 50 rfl) (q := 98) rfl rfl (fun _ => ?_) (fun _ => ?_)
        · refine x_aload_n (i := 0) rfl hC (zdk dk_X6_reads 57 rfl) (q := 110) rfl ?_
          refine x_callVi (as := []) cb_RX6_88 rfl (by decide) hk0 h_r0 (fun x hx => t_X6_readStatement h_r0 x hx) hC (zdk dk_X6_reads 58 rfl) (q := 113) rfl rfl (Nat.le_of_ble_eq_true rfl) (fun z2 => ?_)
          refine x_if_eq (tgt := 125) hC (zdk dk_X6_reads 59 rfl) (q := 116) rfl rfl (fun _ => ?_) (fun _ => ?_)
          · refine x_weak (L' := [.null, .null, .null, .null]) ⟨Or.inl rfl, Or.inl rfl, Or.inl rfl, Or.inl rfl, trivial⟩ ?_
            exact x_X6_reads_125 hC hE hk0 h_r0 h_r2 _
          · refine x_aload_n (i := 0) rfl hC (zdk dk_X6_reads 60 rfl) (q := 117) rfl ?_
            refine x_bipush (i := 59) c_bipush_59 hC (zdk dk_X6_reads 61 rfl) (q := 119) rfl ?_
            refine x_callVi (as := [.int 59]) cb_RX6_71 rfl (by decide) hk0 h_r0 (fun x hx => t_X6_readSign h_r0 x hx) hC (zdk dk_X6_reads 62 rfl) (q := 122) rfl rfl (Nat.le_of_ble_eq_true rfl) (fun z3 => ?_)
            refine x_if_ne (tgt := 127) hC (zdk dk_X6_reads 63 rfl) (q := 125) rfl rfl (fun _ => ?_) (fun _ => ?_)
            · refine x_aload_n (i := 0) rfl hC (zdk dk_X6_reads 66 rfl) (q := 128) rfl ?_
              refine x_getR (k := 0) fl_RX6_18 rfl h_r0 hC (zdk dk_X6_reads 67 rfl) (q := 131) rfl (fun q4 hq4 => ?_)
              refine x_dup rfl hC (zdk dk_X6_reads 68 rfl) (q := 132) rfl ?_
              refine x_getI fl_RX6_75 (by decide) hq4 hC (zdk dk_X6_reads 69 rfl) (q := 135) rfl ?_
              refine x_iconst (i := 1) c_iconst_1 hC (zdk dk_X6_reads 70 rfl) (q := 136) rfl ?_
              refine x_iadd hC (zdk dk_X6_reads 71 rfl) (q := 137) rfl ?_
              refine x_putI fl_RX6_75 ⟨rfl, rfl⟩ (by decide) (Or.inl rfl) hq4 hC (zdk dk_X6_reads 72 rfl) (q := 140) rfl ?_
              refine x_nmM (fun M5 => ?_)
              refine x_iinc (i := 3) c_iconst_1 rfl (by decide) (L' := [.ref r0, .null, .null, .int (x3 + 1)]) rfl hC (zdk dk_X6_reads 73 rfl) (q := 143) rfl ?_
              refine x_goto (tgt := 72) hC (zdk dk_X6_reads 74 rfl) rfl ?_
              refine x_weak (L' := [.ref r0, .null, .null, .int (x3 + 1)]) ⟨Or.inr rfl, Or.inl rfl, Or.inl rfl, Or.inr rfl, trivial⟩ ?_
              exact ih _ _
            · refine x_weak (L' := [.null, .null, .null, .null]) ⟨Or.inl rfl, Or.inl rfl, Or.inl rfl, Or.inl rfl, trivial⟩ ?_
              exact x_X6_reads_125 hC hE hk0 h_r0 h_r2 _
        · refine x_aload_n (i := 0) rfl hC (zdk dk_X6_reads 51 rfl) (q := 99) rfl ?_
          refine x_bipush (i := 6) c_bipush_6 hC (zdk dk_X6_reads 52 rfl) (q := 101) rfl ?_
          refine x_aload_n (i := 0) rfl hC (zdk dk_X6_reads 53 rfl) (q := 102) rfl ?_
          refine x_getI fl_RX6_81 (by decide) h_r0 hC (zdk dk_X6_reads 54 rfl) (q := 105) rfl ?_
          refine x_callVi (as := [.int 6, .int (zI M r0 7)]) cb_RX6_84 rfl (by decide) hk0 h_r0 (fun x hx => t_X6_failBy h_r0 x hx) hC (zdk dk_X6_reads 55 rfl) (q := 108) rfl rfl (Nat.le_of_ble_eq_true rfl) (fun z6 => ?_)
          refine x_bz (fun hb7 => ?_)
          exact x_iret (ty := .boolean) hb7.1 hE hC (zdk dk_X6_reads 56 rfl)
set_option maxRecDepth 100000 in
def f_X6_reads (r0 : Nat) (x1 : Int32) (r2 : Nat) (M : Mem) : Option (Int32 × Mem) := Option.bind (zrf M r0 1) fun q8 => Option.bind (f_J9_min_7cf53 x1 (zlen q8) M) fun z9 => Option.bind (some (zsI z9.2 r0 3 z9.1)) fun M10 => Option.bind (some (zsR M10 r0 2 (r2 + 1))) fun M11 => Option.bind (zrf M11 r0 2) fun q12 => Option.bind (f_X0_clear q12 M11) fun M13 => Option.bind (some (zsI M13 r0 4 0)) fun M14 => Option.bind (some (zsI M14 r0 5 ((-1)))) fun M15 => Option.bind (some (zsI M15 r0 9 0)) fun M16 => Option.bind (f_X6_look r0 M16) fun M17 => Option.bind (f_X6_readField r0 M17) fun z18 => (if z18.1 = 0 then f_X6_reads_60 r0 x1 r2 z18.2 else Option.bind (f_X6_readSign r0 59 z18.2) fun z19 => (if z19.1 = 0 then f_X6_reads_60 r0 x1 r2 z19.2 else Option.bind (zrf z19.2 r0 2) fun q20 => Option.bind (some (zsI z19.2 q20 8 1)) fun M21 => f_X6_reads_72 r0 x1 r2 1000000 0 M21))
set_option maxRecDepth 100000 in
set_option maxHeartbeats 4000000 in
theorem x_X6_reads {κ : KX} {n : Nat} (hC : CX κ cX6_reads RX6 4 (some .boolean) 126) (hE : zEnd κ n (0, 0)) (hk0 : zRk κ (0, 0)) (r0 : Nat) (x1 : Int32) (r2 : Nat) (M : Mem) (h_r0 : zO n r0 6) (h_r2 : zO n r2 0) : X κ 4 emI n (0, 0) 0 [.ref r0, .int x1, .ref r2, .null] [] M (f_X6_reads r0 x1 r2 M) := by
  unfold f_X6_reads
  refine x_aload_n (i := 0) rfl hC (zdk dk_X6_reads 0 rfl) (q := 1) rfl ?_
  refine x_iload_n (i := 1) rfl hC (zdk dk_X6_reads 1 rfl) (q := 2) rfl ?_
  refine x_aload_n (i := 0) rfl hC (zdk dk_X6_reads 2 rfl) (q := 3) rfl ?_
  refine x_getR (k := 20) fl_RX6_15 rfl h_r0 hC (zdk dk_X6_reads 3 rfl) (q := 6) rfl (fun q8 hq8 => ?_)
  refine x_alen hq8 (by decide) hC (zdk dk_X6_reads 4 rfl) (q := 7) rfl ?_
  refine x_callSi (as := [.int x1, .int (zlen q8)]) cb_RX6_40 rfl (by decide) hk0 (fun x hx => t_J9_min_7cf53  x hx) hC (zdk dk_X6_reads 5 rfl) (q := 10) rfl rfl (Nat.le_of_ble_eq_true rfl) (fun z9 => ?_)
  refine x_putI fl_RX6_46 ⟨rfl, rfl⟩ (by decide) (Or.inl rfl) h_r0 hC (zdk dk_X6_reads 6 rfl) (q := 13) rfl ?_
  refine x_nmM (fun M10 => ?_)
  refine x_aload_n (i := 0) rfl hC (zdk dk_X6_reads 7 rfl) (q := 14) rfl ?_
  refine x_aload_n (i := 2) rfl hC (zdk dk_X6_reads 8 rfl) (q := 15) rfl ?_
  refine x_putR (k := 0) fl_RX6_18 (fun _ => ⟨rfl, rfl⟩) rfl h_r2 (Or.inl rfl) h_r0 hC (zdk dk_X6_reads 9 rfl) (q := 18) rfl ?_
  refine x_nmM (fun M11 => ?_)
  refine x_aload_n (i := 0) rfl hC (zdk dk_X6_reads 10 rfl) (q := 19) rfl ?_
  refine x_getR (k := 0) fl_RX6_18 rfl h_r0 hC (zdk dk_X6_reads 11 rfl) (q := 22) rfl (fun q12 hq12 => ?_)
  refine x_callVv (as := []) cb_RX6_50 rfl (by decide) hk0 hq12 (fun x hx => t_X0_clear hq12 x hx) hC (zdk dk_X6_reads 12 rfl) (q := 25) rfl rfl (Nat.le_of_ble_eq_true rfl) (fun M13 => ?_)
  refine x_aload_n (i := 0) rfl hC (zdk dk_X6_reads 13 rfl) (q := 26) rfl ?_
  refine x_iconst (i := 0) c_iconst_0 hC (zdk dk_X6_reads 14 rfl) (q := 27) rfl ?_
  refine x_putI fl_RX6_55 ⟨rfl, rfl⟩ (by decide) (Or.inl rfl) h_r0 hC (zdk dk_X6_reads 15 rfl) (q := 30) rfl ?_
  refine x_nmM (fun M14 => ?_)
  refine x_aload_n (i := 0) rfl hC (zdk dk_X6_reads 16 rfl) (q := 31) rfl ?_
  refine x_iconst (i := (-1)) c_iconst_m1 hC (zdk dk_X6_reads 17 rfl) (q := 32) rfl ?_
  refine x_putI fl_RX6_58 ⟨rfl, rfl⟩ (by decide) (Or.inl rfl) h_r0 hC (zdk dk_X6_reads 18 rfl) (q := 35) rfl ?_
  refine x_nmM (fun M15 => ?_)
  refine x_aload_n (i := 0) rfl hC (zdk dk_X6_reads 19 rfl) (q := 36) rfl ?_
  refine x_iconst (i := 0) c_iconst_0 hC (zdk dk_X6_reads 20 rfl) (q := 37) rfl ?_
  refine x_putI fl_RX6_61 ⟨rfl, rfl⟩ (by decide) (Or.inl rfl) h_r0 hC (zdk dk_X6_reads 21 rfl) (q := 40) rfl ?_
  refine x_nmM (fun M16 => ?_)
  refine x_aload_n (i := 0) rfl hC (zdk dk_X6_reads 22 rfl) (q := 41) rfl ?_
  refine x_callVv (as := []) cb_RX6_64 rfl (by decide) hk0 h_r0 (fun x hx => t_X6_look h_r0 x hx) hC (zdk dk_X6_reads 23 rfl) (q := 44) rfl rfl (Nat.le_of_ble_eq_true rfl) (fun M17 => ?_)
  refine x_aload_n (i := 0) rfl hC (zdk dk_X6_reads 24 rfl) (q := 45) rfl ?_
  refine x_callVi (as := []) cb_RX6_67 rfl (by decide) hk0 h_r0 (fun x hx => t_X6_readField h_r0 x hx) hC (zdk dk_X6_reads 25 rfl) (q := 48) rfl rfl (Nat.le_of_ble_eq_true rfl) (fun z18 => ?_)
  refine x_if_eq (tgt := 60) hC (zdk dk_X6_reads 26 rfl) (q := 51) rfl rfl (fun _ => ?_) (fun _ => ?_)
  · refine x_weak (L' := [.null, .null, .null, .null]) ⟨Or.inl rfl, Or.inl rfl, Or.inl rfl, Or.inl rfl, trivial⟩ ?_
    exact x_X6_reads_60 hC hE hk0 h_r0 h_r2 _
  · refine x_aload_n (i := 0) rfl hC (zdk dk_X6_reads 27 rfl) (q := 52) rfl ?_
    refine x_bipush (i := 59) c_bipush_59 hC (zdk dk_X6_reads 28 rfl) (q := 54) rfl ?_
    refine x_callVi (as := [.int 59]) cb_RX6_71 rfl (by decide) hk0 h_r0 (fun x hx => t_X6_readSign h_r0 x hx) hC (zdk dk_X6_reads 29 rfl) (q := 57) rfl rfl (Nat.le_of_ble_eq_true rfl) (fun z19 => ?_)
    refine x_if_ne (tgt := 62) hC (zdk dk_X6_reads 30 rfl) (q := 60) rfl rfl (fun _ => ?_) (fun _ => ?_)
    · refine x_aload_n (i := 0) rfl hC (zdk dk_X6_reads 33 rfl) (q := 63) rfl ?_
      refine x_getR (k := 0) fl_RX6_18 rfl h_r0 hC (zdk dk_X6_reads 34 rfl) (q := 66) rfl (fun q20 hq20 => ?_)
      refine x_iconst (i := 1) c_iconst_1 hC (zdk dk_X6_reads 35 rfl) (q := 67) rfl ?_
      refine x_putI fl_RX6_75 ⟨rfl, rfl⟩ (by decide) (Or.inl rfl) hq20 hC (zdk dk_X6_reads 36 rfl) (q := 70) rfl ?_
      refine x_nmM (fun M21 => ?_)
      refine x_iconst (i := 0) c_iconst_0 hC (zdk dk_X6_reads 37 rfl) (q := 71) rfl ?_
      refine x_istore_n (i := 3) (L' := [.ref r0, .int x1, .ref r2, .int 0]) (by decide) rfl hC (zdk dk_X6_reads 38 rfl) (q := 72) rfl ?_
      refine x_weak (L' := [.ref r0, .null, .null, .int 0]) ⟨Or.inr rfl, Or.inl rfl, Or.inl rfl, Or.inr rfl, trivial⟩ ?_
      exact x_X6_reads_72 hC hE hk0 h_r0 h_r2 _ _ _
    · refine x_weak (L' := [.null, .null, .null, .null]) ⟨Or.inl rfl, Or.inl rfl, Or.inl rfl, Or.inl rfl, trivial⟩ ?_
      exact x_X6_reads_60 hC hE hk0 h_r0 h_r2 _
set_option maxRecDepth 100000 in
set_option maxHeartbeats 4000000 in
theorem t_X6_reads {n : Nat} {r0 : Nat} {x1 : Int32} {r2 : Nat} {M : Mem} (h_r0 : zO n r0 6) (h_r2 : zO n r2 0) (x : (Int32 × Mem)) (hx : f_X6_reads r0 x1 r2 M = some x) (l : Launch) (dC : Nat → ClassId) (dI : Nat → Nat → Nat) (b : zSg) : MT l dC dI b yX6_reads cX6_reads 4 (some .boolean) 126 0 0 n n [.ref r0, .int x1, .ref r2] M (emI x).1 (emI x).2 :=
  MT.ofX (by decide +kernel) rfl (Nat.le_of_ble_eq_true rfl) (fun κ hC hF _ => x_X6_reads hC (zEnd_of hF (Nat.le_refl _) (Nat.le_refl _)) (zRk_of hF (Nat.le_refl _) (Nat.le_refl _)) _ _ _ _ h_r0 h_r2) x hx
set_option maxRecDepth 100000 in
def dt_X7_clear : List (Nat × Instr × Nat) := [(0, .aload_n 0, 1), (1, .iconst 0, 1), (2, .putfield 25, 3), (5, .aload_n 0, 1), (6, .iconst 0, 1), (7, .putfield 29, 3), (10, .aload_n 0, 1), (11, .iconst 0, 1), (12, .putfield 32, 3), (15, .return_, 1)]
set_option maxRecDepth 100000 in
theorem dk_X7_clear : dt_X7_clear.all (fun q => decide (decode cX7_clear q.1 = .ok q.2)) = true := by decide +kernel
set_option maxRecDepth 100000 in
def f_X7_clear (r0 : Nat) (M : Mem) : Option Mem := Option.bind (some (zsI M r0 3 0)) fun M1 => Option.bind (some (zsI M1 r0 4 0)) fun M2 => Option.bind (some (zsI M2 r0 5 0)) fun M3 => some M3
set_option maxRecDepth 100000 in
set_option maxHeartbeats 4000000 in
theorem x_X7_clear {κ : KX} {n : Nat} (hC : CX κ cX7_clear RX7 1 none 0) (hE : zEnd κ n (0, 0)) (hk0 : zRk κ (0, 0)) (r0 : Nat) (M : Mem) (h_r0 : zO n r0 7) : X κ 1 emV n (0, 0) 0 [.ref r0] [] M (f_X7_clear r0 M) := by
  unfold f_X7_clear
  refine x_aload_n (i := 0) rfl hC (zdk dk_X7_clear 0 rfl) (q := 1) rfl ?_
  refine x_iconst (i := 0) c_iconst_0 hC (zdk dk_X7_clear 1 rfl) (q := 2) rfl ?_
  refine x_putI fl_RX7_25 ⟨rfl, rfl⟩ (by decide) (Or.inl rfl) h_r0 hC (zdk dk_X7_clear 2 rfl) (q := 5) rfl ?_
  refine x_nmM (fun M1 => ?_)
  refine x_aload_n (i := 0) rfl hC (zdk dk_X7_clear 3 rfl) (q := 6) rfl ?_
  refine x_iconst (i := 0) c_iconst_0 hC (zdk dk_X7_clear 4 rfl) (q := 7) rfl ?_
  refine x_putI fl_RX7_29 ⟨rfl, rfl⟩ (by decide) (Or.inl rfl) h_r0 hC (zdk dk_X7_clear 5 rfl) (q := 10) rfl ?_
  refine x_nmM (fun M2 => ?_)
  refine x_aload_n (i := 0) rfl hC (zdk dk_X7_clear 6 rfl) (q := 11) rfl ?_
  refine x_iconst (i := 0) c_iconst_0 hC (zdk dk_X7_clear 7 rfl) (q := 12) rfl ?_
  refine x_putI fl_RX7_32 ⟨rfl, rfl⟩ (by decide) (Or.inl rfl) h_r0 hC (zdk dk_X7_clear 8 rfl) (q := 15) rfl ?_
  refine x_nmM (fun M3 => ?_)
  exact x_vret hE hC (zdk dk_X7_clear 9 rfl)
set_option maxRecDepth 100000 in
set_option maxHeartbeats 4000000 in
theorem t_X7_clear {n : Nat} {r0 : Nat} {M : Mem} (h_r0 : zO n r0 7) (x : Mem) (hx : f_X7_clear r0 M = some x) (l : Launch) (dC : Nat → ClassId) (dI : Nat → Nat → Nat) (b : zSg) : MT l dC dI b yX7_clear cX7_clear 1 none 0 0 0 n n [.ref r0] M (emV x).1 (emV x).2 :=
  MT.ofX (by decide +kernel) rfl (Nat.le_of_ble_eq_true rfl) (fun κ hC hF _ => x_X7_clear hC (zEnd_of hF (Nat.le_refl _) (Nat.le_refl _)) (zRk_of hF (Nat.le_refl _) (Nat.le_refl _)) _ _ h_r0) x hx
set_option maxRecDepth 100000 in
def dt_X7_save : List (Nat × Instr × Nat) := [(0, .aload_n 0, 1), (1, .aload_n 0, 1), (2, .getfield 29, 3), (5, .iconst 1, 1), (6, .iadd, 1), (7, .bipush 20, 2), (9, .if_icmp .ge 12, 3), (12, .aload_n 0, 1), (13, .getfield 29, 3), (16, .iconst 1, 1), (17, .iadd, 1), (18, .goto 4, 3), (21, .iconst 0, 1), (22, .putfield 29, 3), (25, .aload_n 0, 1), (26, .getfield 11, 3), (29, .aload_n 0, 1), (30, .getfield 29, 3), (33, .aaload, 1), (34, .aload_n 1, 1), (35, .invokevirtual 35, 3), (38, .aload_n 0, 1), (39, .getfield 17, 3), (42, .aload_n 0, 1), (43, .getfield 29, 3), (46, .aload_n 0, 1), (47, .getfield 32, 3), (50, .iastore, 1), (51, .aload_n 0, 1), (52, .aload_n 0, 1), (53, .getfield 25, 3), (56, .iconst 1, 1), (57, .iadd, 1), (58, .bipush 20, 2), (60, .invokestatic 39, 3), (63, .putfield 25, 3), (66, .return_, 1)]
set_option maxRecDepth 100000 in
theorem dk_X7_save : dt_X7_save.all (fun q => decide (decode cX7_save q.1 = .ok q.2)) = true := by decide +kernel
set_option maxRecDepth 100000 in
def f_X7_save_22  (r0 : Nat) (r1 : Nat) (s0 : Nat) (s1 : Int32) (M : Mem) : Option Mem := Option.bind (some (zsI M s0 4 s1)) fun M1 => Option.bind (zrf M1 r0 0) fun q2 => Option.bind (zld q2 (zI M1 r0 4)) fun k3 => Option.bind (zrf M1 q2 k3) fun q4 => Option.bind (f_X5_copy q4 r1 M1) fun M5 => Option.bind (zrf M5 r0 1) fun q6 => Option.bind (zld q6 (zI M5 r0 4)) fun k7 => Option.bind (some (zsI M5 q6 k7 (zI M5 r0 5))) fun M8 => Option.bind (f_J9_min_7cf53 ((zI M8 r0 3) + 1) 20 M8) fun z9 => Option.bind (some (zsI z9.2 r0 3 z9.1)) fun M10 => some M10
set_option maxRecDepth 100000 in
set_option maxHeartbeats 4000000 in
theorem x_X7_save_22 {κ : KX} {n : Nat} (hC : CX κ cX7_save RX7 2 none 3) (hE : zEnd κ n (0, 0)) (hk0 : zRk κ (0, 0)) {r0 : Nat} {r1 : Nat} (h_r0 : zO n r0 7) (h_r1 : zO n r1 5) (s0 : Nat) (s1 : Int32) (M : Mem) (h_s0 : zO n s0 7) : X κ 2 emV n (0, 0) 22 [.ref r0, .ref r1] [.int s1, .ref s0] M (f_X7_save_22 r0 r1 s0 s1 M) := by
  unfold f_X7_save_22
  refine x_putI fl_RX7_29 ⟨rfl, rfl⟩ (by decide) (Or.inl rfl) h_s0 hC (zdk dk_X7_save 13 rfl) (q := 25) rfl ?_
  refine x_nmM (fun M1 => ?_)
  refine x_aload_n (i := 0) rfl hC (zdk dk_X7_save 14 rfl) (q := 26) rfl ?_
  refine x_getR (k := 24) fl_RX7_11 rfl h_r0 hC (zdk dk_X7_save 15 rfl) (q := 29) rfl (fun q2 hq2 => ?_)
  refine x_aload_n (i := 0) rfl hC (zdk dk_X7_save 16 rfl) (q := 30) rfl ?_
  refine x_getI fl_RX7_29 (by decide) h_r0 hC (zdk dk_X7_save 17 rfl) (q := 33) rfl ?_
  refine x_aald (kd := 24) (ke := 5) hq2 (by decide) rfl hC (zdk dk_X7_save 18 rfl) (q := 34) rfl (fun k3 _ q4 hq4 => ?_)
  refine x_aload_n (i := 1) rfl hC (zdk dk_X7_save 19 rfl) (q := 35) rfl ?_
  refine x_callVv (as := [.ref r1]) cb_RX7_35 rfl (by decide) hk0 hq4 (fun x hx => t_X5_copy hq4 h_r1 x hx) hC (zdk dk_X7_save 20 rfl) (q := 38) rfl rfl (Nat.le_of_ble_eq_true rfl) (fun M5 => ?_)
  refine x_aload_n (i := 0) rfl hC (zdk dk_X7_save 21 rfl) (q := 39) rfl ?_
  refine x_getR (k := 20) fl_RX7_17 rfl h_r0 hC (zdk dk_X7_save 22 rfl) (q := 42) rfl (fun q6 hq6 => ?_)
  refine x_aload_n (i := 0) rfl hC (zdk dk_X7_save 23 rfl) (q := 43) rfl ?_
  refine x_getI fl_RX7_29 (by decide) h_r0 hC (zdk dk_X7_save 24 rfl) (q := 46) rfl ?_
  refine x_aload_n (i := 0) rfl hC (zdk dk_X7_save 25 rfl) (q := 47) rfl ?_
  refine x_getI fl_RX7_32 (by decide) h_r0 hC (zdk dk_X7_save 26 rfl) (q := 50) rfl ?_
  refine x_iast hq6 hC (zdk dk_X7_save 27 rfl) (q := 51) rfl (fun k7 _ => ?_)
  refine x_nmM (fun M8 => ?_)
  refine x_aload_n (i := 0) rfl hC (zdk dk_X7_save 28 rfl) (q := 52) rfl ?_
  refine x_aload_n (i := 0) rfl hC (zdk dk_X7_save 29 rfl) (q := 53) rfl ?_
  refine x_getI fl_RX7_25 (by decide) h_r0 hC (zdk dk_X7_save 30 rfl) (q := 56) rfl ?_
  refine x_iconst (i := 1) c_iconst_1 hC (zdk dk_X7_save 31 rfl) (q := 57) rfl ?_
  refine x_iadd hC (zdk dk_X7_save 32 rfl) (q := 58) rfl ?_
  refine x_bipush (i := 20) c_bipush_20 hC (zdk dk_X7_save 33 rfl) (q := 60) rfl ?_
  refine x_callSi (as := [.int ((zI M8 r0 3) + 1), .int 20]) cb_RX7_39 rfl (by decide) hk0 (fun x hx => t_J9_min_7cf53  x hx) hC (zdk dk_X7_save 34 rfl) (q := 63) rfl rfl (Nat.le_of_ble_eq_true rfl) (fun z9 => ?_)
  refine x_putI fl_RX7_25 ⟨rfl, rfl⟩ (by decide) (Or.inl rfl) h_r0 hC (zdk dk_X7_save 35 rfl) (q := 66) rfl ?_
  refine x_nmM (fun M10 => ?_)
  exact x_vret hE hC (zdk dk_X7_save 36 rfl)
set_option maxRecDepth 100000 in
def f_X7_save (r0 : Nat) (r1 : Nat) (M : Mem) : Option Mem := (if 20 ≤ (zI M r0 4) + 1 then f_X7_save_22 r0 r1 r0 0 M else f_X7_save_22 r0 r1 r0 ((zI M r0 4) + 1) M)
set_option maxRecDepth 100000 in
set_option maxHeartbeats 4000000 in
theorem x_X7_save {κ : KX} {n : Nat} (hC : CX κ cX7_save RX7 2 none 3) (hE : zEnd κ n (0, 0)) (hk0 : zRk κ (0, 0)) (r0 : Nat) (r1 : Nat) (M : Mem) (h_r0 : zO n r0 7) (h_r1 : zO n r1 5) : X κ 2 emV n (0, 0) 0 [.ref r0, .ref r1] [] M (f_X7_save r0 r1 M) := by
  unfold f_X7_save
  refine x_aload_n (i := 0) rfl hC (zdk dk_X7_save 0 rfl) (q := 1) rfl ?_
  refine x_aload_n (i := 0) rfl hC (zdk dk_X7_save 1 rfl) (q := 2) rfl ?_
  refine x_getI fl_RX7_29 (by decide) h_r0 hC (zdk dk_X7_save 2 rfl) (q := 5) rfl ?_
  refine x_iconst (i := 1) c_iconst_1 hC (zdk dk_X7_save 3 rfl) (q := 6) rfl ?_
  refine x_iadd hC (zdk dk_X7_save 4 rfl) (q := 7) rfl ?_
  refine x_bipush (i := 20) c_bipush_20 hC (zdk dk_X7_save 5 rfl) (q := 9) rfl ?_
  refine x_icmp_ge (tgt := 21) hC (zdk dk_X7_save 6 rfl) (q := 12) rfl rfl (fun _ => ?_) (fun _ => ?_)
  · refine x_iconst (i := 0) c_iconst_0 hC (zdk dk_X7_save 12 rfl) (q := 22) rfl ?_
    refine x_weak (L' := [.ref r0, .ref r1]) ⟨Or.inr rfl, Or.inr rfl, trivial⟩ ?_
    exact x_X7_save_22 hC hE hk0 h_r0 h_r1 _ _ _ h_r0
  · refine x_aload_n (i := 0) rfl hC (zdk dk_X7_save 7 rfl) (q := 13) rfl ?_
    refine x_getI fl_RX7_29 (by decide) h_r0 hC (zdk dk_X7_save 8 rfl) (q := 16) rfl ?_
    refine x_iconst (i := 1) c_iconst_1 hC (zdk dk_X7_save 9 rfl) (q := 17) rfl ?_
    refine x_iadd hC (zdk dk_X7_save 10 rfl) (q := 18) rfl ?_
    refine x_goto (tgt := 22) hC (zdk dk_X7_save 11 rfl) rfl ?_
    refine x_weak (L' := [.ref r0, .ref r1]) ⟨Or.inr rfl, Or.inr rfl, trivial⟩ ?_
    exact x_X7_save_22 hC hE hk0 h_r0 h_r1 _ _ _ h_r0
set_option maxRecDepth 100000 in
set_option maxHeartbeats 4000000 in
theorem t_X7_save {n : Nat} {r0 : Nat} {r1 : Nat} {M : Mem} (h_r0 : zO n r0 7) (h_r1 : zO n r1 5) (x : Mem) (hx : f_X7_save r0 r1 M = some x) (l : Launch) (dC : Nat → ClassId) (dI : Nat → Nat → Nat) (b : zSg) : MT l dC dI b yX7_save cX7_save 2 none 3 0 0 n n [.ref r0, .ref r1] M (emV x).1 (emV x).2 :=
  MT.ofX (by decide +kernel) rfl (Nat.le_of_ble_eq_true rfl) (fun κ hC hF _ => x_X7_save hC (zEnd_of hF (Nat.le_refl _) (Nat.le_refl _)) (zRk_of hF (Nat.le_refl _) (Nat.le_refl _)) _ _ _ h_r0 h_r1) x hx
set_option maxRecDepth 100000 in
def dt_X7_restore : List (Nat × Instr × Nat) := [(0, .aload_n 0, 1), (1, .getfield 25, 3), (4, .ifCond .le 61, 3), (7, .aload_n 1, 1), (8, .aload_n 0, 1), (9, .getfield 11, 3), (12, .aload_n 0, 1), (13, .getfield 29, 3), (16, .aaload, 1), (17, .invokevirtual 35, 3), (20, .aload_n 0, 1), (21, .aload_n 0, 1), (22, .getfield 17, 3), (25, .aload_n 0, 1), (26, .getfield 29, 3), (29, .iaload, 1), (30, .putfield 32, 3), (33, .aload_n 0, 1), (34, .aload_n 0, 1), (35, .getfield 29, 3), (38, .ifCond .le 12, 3), (41, .aload_n 0, 1), (42, .getfield 29, 3), (45, .iconst 1, 1), (46, .isub, 1), (47, .goto 5, 3), (50, .bipush 19, 2), (52, .putfield 29, 3), (55, .aload_n 0, 1), (56, .dup, 1), (57, .getfield 25, 3), (60, .iconst 1, 1), (61, .isub, 1), (62, .putfield 25, 3), (65, .return_, 1)]
set_option maxRecDepth 100000 in
theorem dk_X7_restore : dt_X7_restore.all (fun q => decide (decode cX7_restore q.1 = .ok q.2)) = true := by decide +kernel
set_option maxRecDepth 100000 in
def f_X7_restore_65  (r0 : Nat) (r1 : Nat)  (M : Mem) : Option Mem := some M
set_option maxRecDepth 100000 in
set_option maxHeartbeats 4000000 in
theorem x_X7_restore_65 {κ : KX} {n : Nat} (hC : CX κ cX7_restore RX7 2 none 3) (hE : zEnd κ n (0, 0)) (hk0 : zRk κ (0, 0)) {r0 : Nat} {r1 : Nat} (h_r0 : zO n r0 7) (h_r1 : zO n r1 5) (M : Mem) : X κ 2 emV n (0, 0) 65 [.null, .null] [] M (f_X7_restore_65 r0 r1 M) := by
  unfold f_X7_restore_65
  exact x_vret hE hC (zdk dk_X7_restore 34 rfl)
set_option maxRecDepth 100000 in
def f_X7_restore_52  (r0 : Nat) (r1 : Nat) (s0 : Nat) (s1 : Int32) (M : Mem) : Option Mem := Option.bind (some (zsI M s0 4 s1)) fun M1 => Option.bind (some (zsI M1 r0 3 ((zI M1 r0 3) - 1))) fun M2 => f_X7_restore_65 r0 r1 M2
set_option maxRecDepth 100000 in
set_option maxHeartbeats 4000000 in
theorem x_X7_restore_52 {κ : KX} {n : Nat} (hC : CX κ cX7_restore RX7 2 none 3) (hE : zEnd κ n (0, 0)) (hk0 : zRk κ (0, 0)) {r0 : Nat} {r1 : Nat} (h_r0 : zO n r0 7) (h_r1 : zO n r1 5) (s0 : Nat) (s1 : Int32) (M : Mem) (h_s0 : zO n s0 7) : X κ 2 emV n (0, 0) 52 [.ref r0, .null] [.int s1, .ref s0] M (f_X7_restore_52 r0 r1 s0 s1 M) := by
  unfold f_X7_restore_52
  refine x_putI fl_RX7_29 ⟨rfl, rfl⟩ (by decide) (Or.inl rfl) h_s0 hC (zdk dk_X7_restore 27 rfl) (q := 55) rfl ?_
  refine x_nmM (fun M1 => ?_)
  refine x_aload_n (i := 0) rfl hC (zdk dk_X7_restore 28 rfl) (q := 56) rfl ?_
  refine x_dup rfl hC (zdk dk_X7_restore 29 rfl) (q := 57) rfl ?_
  refine x_getI fl_RX7_25 (by decide) h_r0 hC (zdk dk_X7_restore 30 rfl) (q := 60) rfl ?_
  refine x_iconst (i := 1) c_iconst_1 hC (zdk dk_X7_restore 31 rfl) (q := 61) rfl ?_
  refine x_isub hC (zdk dk_X7_restore 32 rfl) (q := 62) rfl ?_
  refine x_putI fl_RX7_25 ⟨rfl, rfl⟩ (by decide) (Or.inl rfl) h_r0 hC (zdk dk_X7_restore 33 rfl) (q := 65) rfl ?_
  refine x_nmM (fun M2 => ?_)
  refine x_weak (L' := [.null, .null]) ⟨Or.inl rfl, Or.inl rfl, trivial⟩ ?_
  exact x_X7_restore_65 hC hE hk0 h_r0 h_r1 _
set_option maxRecDepth 100000 in
def f_X7_restore (r0 : Nat) (r1 : Nat) (M : Mem) : Option Mem := (if zI M r0 3 ≤ 0 then f_X7_restore_65 r0 r1 M else Option.bind (zrf M r0 0) fun q3 => Option.bind (zld q3 (zI M r0 4)) fun k4 => Option.bind (zrf M q3 k4) fun q5 => Option.bind (f_X5_copy r1 q5 M) fun M6 => Option.bind (zrf M6 r0 1) fun q7 => Option.bind (zld q7 (zI M6 r0 4)) fun k8 => Option.bind (some (zsI M6 r0 5 (zI M6 q7 k8))) fun M9 => (if zI M9 r0 4 ≤ 0 then f_X7_restore_52 r0 r1 r0 19 M9 else f_X7_restore_52 r0 r1 r0 ((zI M9 r0 4) - 1) M9))
set_option maxRecDepth 100000 in
set_option maxHeartbeats 4000000 in
theorem x_X7_restore {κ : KX} {n : Nat} (hC : CX κ cX7_restore RX7 2 none 3) (hE : zEnd κ n (0, 0)) (hk0 : zRk κ (0, 0)) (r0 : Nat) (r1 : Nat) (M : Mem) (h_r0 : zO n r0 7) (h_r1 : zO n r1 5) : X κ 2 emV n (0, 0) 0 [.ref r0, .ref r1] [] M (f_X7_restore r0 r1 M) := by
  unfold f_X7_restore
  refine x_aload_n (i := 0) rfl hC (zdk dk_X7_restore 0 rfl) (q := 1) rfl ?_
  refine x_getI fl_RX7_25 (by decide) h_r0 hC (zdk dk_X7_restore 1 rfl) (q := 4) rfl ?_
  refine x_if_le (tgt := 65) hC (zdk dk_X7_restore 2 rfl) (q := 7) rfl rfl (fun _ => ?_) (fun _ => ?_)
  · refine x_weak (L' := [.null, .null]) ⟨Or.inl rfl, Or.inl rfl, trivial⟩ ?_
    exact x_X7_restore_65 hC hE hk0 h_r0 h_r1 _
  · refine x_aload_n (i := 1) rfl hC (zdk dk_X7_restore 3 rfl) (q := 8) rfl ?_
    refine x_aload_n (i := 0) rfl hC (zdk dk_X7_restore 4 rfl) (q := 9) rfl ?_
    refine x_getR (k := 24) fl_RX7_11 rfl h_r0 hC (zdk dk_X7_restore 5 rfl) (q := 12) rfl (fun q3 hq3 => ?_)
    refine x_aload_n (i := 0) rfl hC (zdk dk_X7_restore 6 rfl) (q := 13) rfl ?_
    refine x_getI fl_RX7_29 (by decide) h_r0 hC (zdk dk_X7_restore 7 rfl) (q := 16) rfl ?_
    refine x_aald (kd := 24) (ke := 5) hq3 (by decide) rfl hC (zdk dk_X7_restore 8 rfl) (q := 17) rfl (fun k4 _ q5 hq5 => ?_)
    refine x_callVv (as := [.ref q5]) cb_RX7_35 rfl (by decide) hk0 h_r1 (fun x hx => t_X5_copy h_r1 hq5 x hx) hC (zdk dk_X7_restore 9 rfl) (q := 20) rfl rfl (Nat.le_of_ble_eq_true rfl) (fun M6 => ?_)
    refine x_aload_n (i := 0) rfl hC (zdk dk_X7_restore 10 rfl) (q := 21) rfl ?_
    refine x_aload_n (i := 0) rfl hC (zdk dk_X7_restore 11 rfl) (q := 22) rfl ?_
    refine x_getR (k := 20) fl_RX7_17 rfl h_r0 hC (zdk dk_X7_restore 12 rfl) (q := 25) rfl (fun q7 hq7 => ?_)
    refine x_aload_n (i := 0) rfl hC (zdk dk_X7_restore 13 rfl) (q := 26) rfl ?_
    refine x_getI fl_RX7_29 (by decide) h_r0 hC (zdk dk_X7_restore 14 rfl) (q := 29) rfl ?_
    refine x_iald hq7 hC (zdk dk_X7_restore 15 rfl) (q := 30) rfl (fun k8 _ => ?_)
    refine x_putI fl_RX7_32 ⟨rfl, rfl⟩ (by decide) (Or.inl rfl) h_r0 hC (zdk dk_X7_restore 16 rfl) (q := 33) rfl ?_
    refine x_nmM (fun M9 => ?_)
    refine x_aload_n (i := 0) rfl hC (zdk dk_X7_restore 17 rfl) (q := 34) rfl ?_
    refine x_aload_n (i := 0) rfl hC (zdk dk_X7_restore 18 rfl) (q := 35) rfl ?_
    refine x_getI fl_RX7_29 (by decide) h_r0 hC (zdk dk_X7_restore 19 rfl) (q := 38) rfl ?_
    refine x_if_le (tgt := 50) hC (zdk dk_X7_restore 20 rfl) (q := 41) rfl rfl (fun _ => ?_) (fun _ => ?_)
    · refine x_bipush (i := 19) c_bipush_19 hC (zdk dk_X7_restore 26 rfl) (q := 52) rfl ?_
      refine x_weak (L' := [.ref r0, .null]) ⟨Or.inr rfl, Or.inl rfl, trivial⟩ ?_
      exact x_X7_restore_52 hC hE hk0 h_r0 h_r1 _ _ _ h_r0
    · refine x_aload_n (i := 0) rfl hC (zdk dk_X7_restore 21 rfl) (q := 42) rfl ?_
      refine x_getI fl_RX7_29 (by decide) h_r0 hC (zdk dk_X7_restore 22 rfl) (q := 45) rfl ?_
      refine x_iconst (i := 1) c_iconst_1 hC (zdk dk_X7_restore 23 rfl) (q := 46) rfl ?_
      refine x_isub hC (zdk dk_X7_restore 24 rfl) (q := 47) rfl ?_
      refine x_goto (tgt := 52) hC (zdk dk_X7_restore 25 rfl) rfl ?_
      refine x_weak (L' := [.ref r0, .null]) ⟨Or.inr rfl, Or.inl rfl, trivial⟩ ?_
      exact x_X7_restore_52 hC hE hk0 h_r0 h_r1 _ _ _ h_r0
set_option maxRecDepth 100000 in
set_option maxHeartbeats 4000000 in
theorem t_X7_restore {n : Nat} {r0 : Nat} {r1 : Nat} {M : Mem} (h_r0 : zO n r0 7) (h_r1 : zO n r1 5) (x : Mem) (hx : f_X7_restore r0 r1 M = some x) (l : Launch) (dC : Nat → ClassId) (dI : Nat → Nat → Nat) (b : zSg) : MT l dC dI b yX7_restore cX7_restore 2 none 3 0 0 n n [.ref r0, .ref r1] M (emV x).1 (emV x).2 :=
  MT.ofX (by decide +kernel) rfl (Nat.le_of_ble_eq_true rfl) (fun κ hC hF _ => x_X7_restore hC (zEnd_of hF (Nat.le_refl _) (Nat.le_refl _)) (zRk_of hF (Nat.le_refl _) (Nat.le_refl _)) _ _ _ h_r0 h_r1) x hx
set_option maxRecDepth 100000 in
def dt_X7_told : List (Nat × Instr × Nat) := [(0, .aload_n 0, 1), (1, .getfield 32, 3), (4, .bipush 40, 2), (6, .invokestatic 39, 3), (9, .ireturn, 1)]
set_option maxRecDepth 100000 in
theorem dk_X7_told : dt_X7_told.all (fun q => decide (decode cX7_told q.1 = .ok q.2)) = true := by decide +kernel
set_option maxRecDepth 100000 in
def f_X7_told (r0 : Nat) (M : Mem) : Option (Int32 × Mem) := Option.bind (f_J9_min_7cf53 (zI M r0 5) 40 M) fun z1 => some (z1.1, z1.2)
set_option maxRecDepth 100000 in
set_option maxHeartbeats 4000000 in
theorem x_X7_told {κ : KX} {n : Nat} (hC : CX κ cX7_told RX7 1 (some .int) 1) (hE : zEnd κ n (0, 0)) (hk0 : zRk κ (0, 0)) (r0 : Nat) (M : Mem) (h_r0 : zO n r0 7) : X κ 1 emI n (0, 0) 0 [.ref r0] [] M (f_X7_told r0 M) := by
  unfold f_X7_told
  refine x_aload_n (i := 0) rfl hC (zdk dk_X7_told 0 rfl) (q := 1) rfl ?_
  refine x_getI fl_RX7_32 (by decide) h_r0 hC (zdk dk_X7_told 1 rfl) (q := 4) rfl ?_
  refine x_bipush (i := 40) c_bipush_40 hC (zdk dk_X7_told 2 rfl) (q := 6) rfl ?_
  refine x_callSi (as := [.int (zI M r0 5), .int 40]) cb_RX7_39 rfl (by decide) hk0 (fun x hx => t_J9_min_7cf53  x hx) hC (zdk dk_X7_told 3 rfl) (q := 9) rfl rfl (Nat.le_of_ble_eq_true rfl) (fun z1 => ?_)
  exact x_iret (ty := .int) rfl hE hC (zdk dk_X7_told 4 rfl)
set_option maxRecDepth 100000 in
set_option maxHeartbeats 4000000 in
theorem t_X7_told {n : Nat} {r0 : Nat} {M : Mem} (h_r0 : zO n r0 7) (x : (Int32 × Mem)) (hx : f_X7_told r0 M = some x) (l : Launch) (dC : Nat → ClassId) (dI : Nat → Nat → Nat) (b : zSg) : MT l dC dI b yX7_told cX7_told 1 (some .int) 1 0 0 n n [.ref r0] M (emI x).1 (emI x).2 :=
  MT.ofX (by decide +kernel) rfl (Nat.le_of_ble_eq_true rfl) (fun κ hC hF _ => x_X7_told hC (zEnd_of hF (Nat.le_refl _) (Nat.le_refl _)) (zRk_of hF (Nat.le_refl _) (Nat.le_refl _)) _ _ h_r0) x hx
set_option maxRecDepth 100000 in
def dt_X7_add : List (Nat × Instr × Nat) := [(0, .iconst 3, 1), (1, .aload_n 0, 1), (2, .getfield 32, 3), (5, .bipush 60, 2), (7, .irem, 1), (8, .imul, 1), (9, .istore 4, 2), (11, .aload_n 0, 1), (12, .getfield 21, 3), (15, .iload 4, 2), (17, .iload_n 1, 1), (18, .iastore, 1), (19, .aload_n 0, 1), (20, .getfield 21, 3), (23, .iload 4, 2), (25, .iconst 1, 1), (26, .iadd, 1), (27, .iload_n 2, 1), (28, .iastore, 1), (29, .aload_n 0, 1), (30, .getfield 21, 3), (33, .iload 4, 2), (35, .iconst 2, 1), (36, .iadd, 1), (37, .iload_n 3, 1), (38, .iastore, 1), (39, .aload_n 0, 1), (40, .dup, 1), (41, .getfield 32, 3), (44, .iconst 1, 1), (45, .iadd, 1), (46, .putfield 32, 3), (49, .return_, 1)]
set_option maxRecDepth 100000 in
theorem dk_X7_add : dt_X7_add.all (fun q => decide (decode cX7_add q.1 = .ok q.2)) = true := by decide +kernel
set_option maxRecDepth 100000 in
def f_X7_add (r0 : Nat) (x1 : Int32) (x2 : Int32) (x3 : Int32) (M : Mem) : Option Mem := Option.bind (zrf M r0 2) fun q1 => Option.bind (zld q1 (3 * (zrem (zI M r0 5) 60))) fun k2 => Option.bind (some (zsI M q1 k2 x1)) fun M3 => Option.bind (zrf M3 r0 2) fun q4 => Option.bind (zld q4 ((3 * (zrem (zI M r0 5) 60)) + 1)) fun k5 => Option.bind (some (zsI M3 q4 k5 x2)) fun M6 => Option.bind (zrf M6 r0 2) fun q7 => Option.bind (zld q7 ((3 * (zrem (zI M r0 5) 60)) + 2)) fun k8 => Option.bind (some (zsI M6 q7 k8 x3)) fun M9 => Option.bind (some (zsI M9 r0 5 ((zI M9 r0 5) + 1))) fun M10 => some M10
set_option maxRecDepth 100000 in
set_option maxHeartbeats 4000000 in
theorem x_X7_add {κ : KX} {n : Nat} (hC : CX κ cX7_add RX7 5 none 0) (hE : zEnd κ n (0, 0)) (hk0 : zRk κ (0, 0)) (r0 : Nat) (x1 : Int32) (x2 : Int32) (x3 : Int32) (M : Mem) (h_r0 : zO n r0 7) : X κ 5 emV n (0, 0) 0 [.ref r0, .int x1, .int x2, .int x3, .null] [] M (f_X7_add r0 x1 x2 x3 M) := by
  unfold f_X7_add
  refine x_iconst (i := 3) c_iconst_3 hC (zdk dk_X7_add 0 rfl) (q := 1) rfl ?_
  refine x_aload_n (i := 0) rfl hC (zdk dk_X7_add 1 rfl) (q := 2) rfl ?_
  refine x_getI fl_RX7_32 (by decide) h_r0 hC (zdk dk_X7_add 2 rfl) (q := 5) rfl ?_
  refine x_bipush (i := 60) c_bipush_60 hC (zdk dk_X7_add 3 rfl) (q := 7) rfl ?_
  refine x_irem (by decide) hC (zdk dk_X7_add 4 rfl) (q := 8) rfl ?_
  refine x_imul hC (zdk dk_X7_add 5 rfl) (q := 9) rfl ?_
  refine x_istore (i := 4) (L' := [.ref r0, .int x1, .int x2, .int x3, .int (3 * (zrem (zI M r0 5) 60))]) (by decide) rfl hC (zdk dk_X7_add 6 rfl) (q := 11) rfl ?_
  refine x_aload_n (i := 0) rfl hC (zdk dk_X7_add 7 rfl) (q := 12) rfl ?_
  refine x_getR (k := 20) fl_RX7_21 rfl h_r0 hC (zdk dk_X7_add 8 rfl) (q := 15) rfl (fun q1 hq1 => ?_)
  refine x_iload (i := 4) rfl hC (zdk dk_X7_add 9 rfl) (q := 17) rfl ?_
  refine x_iload_n (i := 1) rfl hC (zdk dk_X7_add 10 rfl) (q := 18) rfl ?_
  refine x_iast hq1 hC (zdk dk_X7_add 11 rfl) (q := 19) rfl (fun k2 _ => ?_)
  refine x_nmM (fun M3 => ?_)
  refine x_aload_n (i := 0) rfl hC (zdk dk_X7_add 12 rfl) (q := 20) rfl ?_
  refine x_getR (k := 20) fl_RX7_21 rfl h_r0 hC (zdk dk_X7_add 13 rfl) (q := 23) rfl (fun q4 hq4 => ?_)
  refine x_iload (i := 4) rfl hC (zdk dk_X7_add 14 rfl) (q := 25) rfl ?_
  refine x_iconst (i := 1) c_iconst_1 hC (zdk dk_X7_add 15 rfl) (q := 26) rfl ?_
  refine x_iadd hC (zdk dk_X7_add 16 rfl) (q := 27) rfl ?_
  refine x_iload_n (i := 2) rfl hC (zdk dk_X7_add 17 rfl) (q := 28) rfl ?_
  refine x_iast hq4 hC (zdk dk_X7_add 18 rfl) (q := 29) rfl (fun k5 _ => ?_)
  refine x_nmM (fun M6 => ?_)
  refine x_aload_n (i := 0) rfl hC (zdk dk_X7_add 19 rfl) (q := 30) rfl ?_
  refine x_getR (k := 20) fl_RX7_21 rfl h_r0 hC (zdk dk_X7_add 20 rfl) (q := 33) rfl (fun q7 hq7 => ?_)
  refine x_iload (i := 4) rfl hC (zdk dk_X7_add 21 rfl) (q := 35) rfl ?_
  refine x_iconst (i := 2) c_iconst_2 hC (zdk dk_X7_add 22 rfl) (q := 36) rfl ?_
  refine x_iadd hC (zdk dk_X7_add 23 rfl) (q := 37) rfl ?_
  refine x_iload_n (i := 3) rfl hC (zdk dk_X7_add 24 rfl) (q := 38) rfl ?_
  refine x_iast hq7 hC (zdk dk_X7_add 25 rfl) (q := 39) rfl (fun k8 _ => ?_)
  refine x_nmM (fun M9 => ?_)
  refine x_aload_n (i := 0) rfl hC (zdk dk_X7_add 26 rfl) (q := 40) rfl ?_
  refine x_dup rfl hC (zdk dk_X7_add 27 rfl) (q := 41) rfl ?_
  refine x_getI fl_RX7_32 (by decide) h_r0 hC (zdk dk_X7_add 28 rfl) (q := 44) rfl ?_
  refine x_iconst (i := 1) c_iconst_1 hC (zdk dk_X7_add 29 rfl) (q := 45) rfl ?_
  refine x_iadd hC (zdk dk_X7_add 30 rfl) (q := 46) rfl ?_
  refine x_putI fl_RX7_32 ⟨rfl, rfl⟩ (by decide) (Or.inl rfl) h_r0 hC (zdk dk_X7_add 31 rfl) (q := 49) rfl ?_
  refine x_nmM (fun M10 => ?_)
  exact x_vret hE hC (zdk dk_X7_add 32 rfl)
set_option maxRecDepth 100000 in
set_option maxHeartbeats 4000000 in
theorem t_X7_add {n : Nat} {r0 : Nat} {x1 : Int32} {x2 : Int32} {x3 : Int32} {M : Mem} (h_r0 : zO n r0 7) (x : Mem) (hx : f_X7_add r0 x1 x2 x3 M = some x) (l : Launch) (dC : Nat → ClassId) (dI : Nat → Nat → Nat) (b : zSg) : MT l dC dI b yX7_add cX7_add 5 none 0 0 0 n n [.ref r0, .int x1, .int x2, .int x3] M (emV x).1 (emV x).2 :=
  MT.ofX (by decide +kernel) rfl (Nat.le_of_ble_eq_true rfl) (fun κ hC hF _ => x_X7_add hC (zEnd_of hF (Nat.le_refl _) (Nat.le_refl _)) (zRk_of hF (Nat.le_refl _) (Nat.le_refl _)) _ _ _ _ _ h_r0) x hx
set_option maxRecDepth 100000 in
def dt_X7_entry : List (Nat × Instr × Nat) := [(0, .aload_n 0, 1), (1, .getfield 21, 3), (4, .iconst 3, 1), (5, .aload_n 0, 1), (6, .getfield 32, 3), (9, .aload_n 0, 1), (10, .invokevirtual 45, 3), (13, .isub, 1), (14, .iload_n 1, 1), (15, .iadd, 1), (16, .bipush 60, 2), (18, .irem, 1), (19, .imul, 1), (20, .iload_n 2, 1), (21, .iadd, 1), (22, .iaload, 1), (23, .ireturn, 1)]
set_option maxRecDepth 100000 in
theorem dk_X7_entry : dt_X7_entry.all (fun q => decide (decode cX7_entry q.1 = .ok q.2)) = true := by decide +kernel
set_option maxRecDepth 100000 in
def f_X7_entry (r0 : Nat) (x1 : Int32) (x2 : Int32) (M : Mem) : Option (Int32 × Mem) := Option.bind (zrf M r0 2) fun q1 => Option.bind (f_X7_told r0 M) fun z2 => Option.bind (zld q1 ((3 * (zrem (((zI M r0 5) - z2.1) + x1) 60)) + x2)) fun k3 => some (zI z2.2 q1 k3, z2.2)
set_option maxRecDepth 100000 in
set_option maxHeartbeats 4000000 in
theorem x_X7_entry {κ : KX} {n : Nat} (hC : CX κ cX7_entry RX7 3 (some .int) 2) (hE : zEnd κ n (0, 0)) (hk0 : zRk κ (0, 0)) (r0 : Nat) (x1 : Int32) (x2 : Int32) (M : Mem) (h_r0 : zO n r0 7) : X κ 3 emI n (0, 0) 0 [.ref r0, .int x1, .int x2] [] M (f_X7_entry r0 x1 x2 M) := by
  unfold f_X7_entry
  refine x_aload_n (i := 0) rfl hC (zdk dk_X7_entry 0 rfl) (q := 1) rfl ?_
  refine x_getR (k := 20) fl_RX7_21 rfl h_r0 hC (zdk dk_X7_entry 1 rfl) (q := 4) rfl (fun q1 hq1 => ?_)
  refine x_iconst (i := 3) c_iconst_3 hC (zdk dk_X7_entry 2 rfl) (q := 5) rfl ?_
  refine x_aload_n (i := 0) rfl hC (zdk dk_X7_entry 3 rfl) (q := 6) rfl ?_
  refine x_getI fl_RX7_32 (by decide) h_r0 hC (zdk dk_X7_entry 4 rfl) (q := 9) rfl ?_
  refine x_aload_n (i := 0) rfl hC (zdk dk_X7_entry 5 rfl) (q := 10) rfl ?_
  refine x_callVi (as := []) cb_RX7_45 rfl (by decide) hk0 h_r0 (fun x hx => t_X7_told h_r0 x hx) hC (zdk dk_X7_entry 6 rfl) (q := 13) rfl rfl (Nat.le_of_ble_eq_true rfl) (fun z2 => ?_)
  refine x_isub hC (zdk dk_X7_entry 7 rfl) (q := 14) rfl ?_
  refine x_iload_n (i := 1) rfl hC (zdk dk_X7_entry 8 rfl) (q := 15) rfl ?_
  refine x_iadd hC (zdk dk_X7_entry 9 rfl) (q := 16) rfl ?_
  refine x_bipush (i := 60) c_bipush_60 hC (zdk dk_X7_entry 10 rfl) (q := 18) rfl ?_
  refine x_irem (by decide) hC (zdk dk_X7_entry 11 rfl) (q := 19) rfl ?_
  refine x_imul hC (zdk dk_X7_entry 12 rfl) (q := 20) rfl ?_
  refine x_iload_n (i := 2) rfl hC (zdk dk_X7_entry 13 rfl) (q := 21) rfl ?_
  refine x_iadd hC (zdk dk_X7_entry 14 rfl) (q := 22) rfl ?_
  refine x_iald hq1 hC (zdk dk_X7_entry 15 rfl) (q := 23) rfl (fun k3 _ => ?_)
  exact x_iret (ty := .int) rfl hE hC (zdk dk_X7_entry 16 rfl)
set_option maxRecDepth 100000 in
set_option maxHeartbeats 4000000 in
theorem t_X7_entry {n : Nat} {r0 : Nat} {x1 : Int32} {x2 : Int32} {M : Mem} (h_r0 : zO n r0 7) (x : (Int32 × Mem)) (hx : f_X7_entry r0 x1 x2 M = some x) (l : Launch) (dC : Nat → ClassId) (dI : Nat → Nat → Nat) (b : zSg) : MT l dC dI b yX7_entry cX7_entry 3 (some .int) 2 0 0 n n [.ref r0, .int x1, .int x2] M (emI x).1 (emI x).2 :=
  MT.ofX (by decide +kernel) rfl (Nat.le_of_ble_eq_true rfl) (fun κ hC hF _ => x_X7_entry hC (zEnd_of hF (Nat.le_refl _) (Nat.le_refl _)) (zRk_of hF (Nat.le_refl _) (Nat.le_refl _)) _ _ _ _ h_r0) x hx
set_option maxRecDepth 100000 in
def dt_X8_fill : List (Nat × Instr × Nat) := [(0, .aload_n 0, 1), (1, .iconst 1, 1), (2, .putfield 19, 3), (5, .aload_n 0, 1), (6, .iconst 0, 1), (7, .putfield 23, 3), (10, .aload_n 0, 1), (11, .lload_n 2, 1), (12, .putfield 26, 3), (15, .iconst 0, 1), (16, .istore 4, 2), (18, .iload 4, 2), (20, .aload_n 1, 1), (21, .getfield 36, 3), (24, .getfield 42, 3), (27, .if_icmp .ge 37, 3), (30, .aload_n 0, 1), (31, .getfield 9, 3), (34, .iload 4, 2), (36, .lload_n 2, 1), (37, .iload 4, 2), (39, .invokestatic 47, 3), (42, .iconst 1, 1), (43, .if_icmp .ne 10, 3), (46, .aload_n 1, 1), (47, .getfield 51, 3), (50, .goto 7, 3), (53, .aload_n 1, 1), (54, .getfield 54, 3), (57, .iastore, 1), (58, .iinc 4 1, 3), (61, .goto (-43), 3), (64, .return_, 1)]
set_option maxRecDepth 100000 in
theorem dk_X8_fill : dt_X8_fill.all (fun q => decide (decode cX8_fill q.1 = .ok q.2)) = true := by decide +kernel
set_option maxRecDepth 100000 in
def f_X8_fill_57 (k18 : Int32 → Mem → Option Mem) (r0 : Nat) (r1 : Nat) (y2 : Int64) (x4 : Int32) (s0 : Nat) (s1 : Int32) (s2 : Int32) (M : Mem) : Option Mem := Option.bind (zld s0 s1) fun k1 => Option.bind (some (zsI M s0 k1 s2)) fun M2 => k18 (x4 + 1) M2
set_option maxRecDepth 100000 in
set_option maxHeartbeats 4000000 in
theorem x_X8_fill_57 {κ : KX} {n : Nat} (hC : CX κ cX8_fill RX8 5 none 1) (hE : zEnd κ n (0, 0)) (hk0 : zRk κ (0, 0)) {r0 : Nat} {r1 : Nat} {y2 : Int64} (h_r0 : zO n r0 8) (h_r1 : zO n r1 0) (k18 : Int32 → Mem → Option Mem) (hk18 : ∀ (x4 : Int32) (M : Mem), X κ 5 emV n (0, 0) 18 [.ref r0, .ref r1, .long y2, .null, .int x4] [] M (k18 x4 M)) (x4 : Int32) (s0 : Nat) (s1 : Int32) (s2 : Int32) (M : Mem) (h_s0 : zO n s0 20) : X κ 5 emV n (0, 0) 57 [.ref r0, .ref r1, .long y2, .null, .int x4] [.int s2, .int s1, .ref s0] M (f_X8_fill_57 k18 r0 r1 y2 x4 s0 s1 s2 M) := by
  unfold f_X8_fill_57
  refine x_iast h_s0 hC (zdk dk_X8_fill 29 rfl) (q := 58) rfl (fun k1 _ => ?_)
  refine x_nmM (fun M2 => ?_)
  refine x_iinc (i := 4) c_iconst_1 rfl (by decide) (L' := [.ref r0, .ref r1, .long y2, .null, .int (x4 + 1)]) rfl hC (zdk dk_X8_fill 30 rfl) (q := 61) rfl ?_
  refine x_goto (tgt := 18) hC (zdk dk_X8_fill 31 rfl) rfl ?_
  refine x_weak (L' := [.ref r0, .ref r1, .long y2, .null, .int (x4 + 1)]) ⟨Or.inr rfl, Or.inr rfl, Or.inr rfl, Or.inl rfl, Or.inr rfl, trivial⟩ ?_
  exact hk18 _ _
set_option maxRecDepth 100000 in
def f_X8_fill_18  (r0 : Nat) (r1 : Nat) (y2 : Int64) : Nat → Int32 → Mem → Option Mem
  | 0, _, _ => none
  | f + 1, x4, M => Option.bind (zrf M r1 0) fun q3 => (if zI M q3 10 ≤ x4 then some M else Option.bind (zrf M r0 0) fun q4 => Option.bind (f_X11_bitOf y2 x4 M) fun z5 => (if z5.1 = 1 then f_X8_fill_57 (f_X8_fill_18 r0 r1 y2 f) r0 r1 y2 x4 q4 x4 (zI z5.2 r1 10) z5.2 else f_X8_fill_57 (f_X8_fill_18 r0 r1 y2 f) r0 r1 y2 x4 q4 x4 (zI z5.2 r1 11) z5.2))
set_option maxRecDepth 100000 in
set_option maxHeartbeats 4000000 in
theorem x_X8_fill_18 {κ : KX} {n : Nat} (hC : CX κ cX8_fill RX8 5 none 1) (hE : zEnd κ n (0, 0)) (hk0 : zRk κ (0, 0)) {r0 : Nat} {r1 : Nat} {y2 : Int64} (h_r0 : zO n r0 8) (h_r1 : zO n r1 0) : ∀ (f : Nat) (x4 : Int32) (M : Mem), X κ 5 emV n (0, 0) 18 [.ref r0, .ref r1, .long y2, .null, .int x4] [] M (f_X8_fill_18 r0 r1 y2 f x4 M) := by
  intro f
  induction f with
  | zero => intros; exact x_none
  | succ f ih =>
    intro x4 M 
    rw [f_X8_fill_18]
    refine x_iload (i := 4) rfl hC (zdk dk_X8_fill 11 rfl) (q := 20) rfl ?_
    refine x_aload_n (i := 1) rfl hC (zdk dk_X8_fill 12 rfl) (q := 21) rfl ?_
    refine x_getR (k := 1) fl_RX8_36 rfl h_r1 hC (zdk dk_X8_fill 13 rfl) (q := 24) rfl (fun q3 hq3 => ?_)
    refine x_getI fl_RX8_42 (by decide) hq3 hC (zdk dk_X8_fill 14 rfl) (q := 27) rfl ?_
    refine x_icmp_ge (tgt := 64) hC (zdk dk_X8_fill 15 rfl) (q := 30) rfl rfl (fun _ => ?_) (fun _ => ?_)
    · exact x_vret hE hC (zdk dk_X8_fill 32 rfl)
    · refine x_aload_n (i := 0) rfl hC (zdk dk_X8_fill 16 rfl) (q := 31) rfl ?_
      refine x_getR (k := 20) fl_RX8_9 rfl h_r0 hC (zdk dk_X8_fill 17 rfl) (q := 34) rfl (fun q4 hq4 => ?_)
      refine x_iload (i := 4) rfl hC (zdk dk_X8_fill 18 rfl) (q := 36) rfl ?_
      refine x_lload_n (i := 2) rfl hC (zdk dk_X8_fill 19 rfl) (q := 37) rfl ?_
      refine x_iload (i := 4) rfl hC (zdk dk_X8_fill 20 rfl) (q := 39) rfl ?_
      refine x_callSNi (as := [.long y2, .int x4]) cb_RX8_47 rfl (by decide) hk0 (fun x hx => t_X11_bitOf  x hx) hC (zdk dk_X8_fill 21 rfl) (q := 42) rfl rfl (Nat.le_of_ble_eq_true rfl) (fun z5 => ?_)
      refine x_iconst (i := 1) c_iconst_1 hC (zdk dk_X8_fill 22 rfl) (q := 43) rfl ?_
      refine x_icmp_ne (tgt := 53) hC (zdk dk_X8_fill 23 rfl) (q := 46) rfl rfl (fun _ => ?_) (fun _ => ?_)
      · refine x_aload_n (i := 1) rfl hC (zdk dk_X8_fill 27 rfl) (q := 54) rfl ?_
        refine x_getI fl_RX8_54 (by decide) h_r1 hC (zdk dk_X8_fill 28 rfl) (q := 57) rfl ?_
        refine x_weak (L' := [.ref r0, .ref r1, .long y2, .null, .int x4]) ⟨Or.inr rfl, Or.inr rfl, Or.inr rfl, Or.inl rfl, Or.inr rfl, trivial⟩ ?_
        exact x_X8_fill_57 hC hE hk0 h_r0 h_r1 (f_X8_fill_18 r0 r1 y2 f) ih _ _ _ _ _ hq4
      · refine x_aload_n (i := 1) rfl hC (zdk dk_X8_fill 24 rfl) (q := 47) rfl ?_
        refine x_getI fl_RX8_51 (by decide) h_r1 hC (zdk dk_X8_fill 25 rfl) (q := 50) rfl ?_
        refine x_goto (tgt := 57) hC (zdk dk_X8_fill 26 rfl) rfl ?_
        refine x_weak (L' := [.ref r0, .ref r1, .long y2, .null, .int x4]) ⟨Or.inr rfl, Or.inr rfl, Or.inr rfl, Or.inl rfl, Or.inr rfl, trivial⟩ ?_
        exact x_X8_fill_57 hC hE hk0 h_r0 h_r1 (f_X8_fill_18 r0 r1 y2 f) ih _ _ _ _ _ hq4
set_option maxRecDepth 100000 in
def f_X8_fill (r0 : Nat) (r1 : Nat) (y2 : Int64) (M : Mem) : Option Mem := Option.bind (some (zsI M r0 2 1)) fun M6 => Option.bind (some (zsI M6 r0 3 0)) fun M7 => Option.bind (some (zsL M7 r0 4 y2)) fun M8 => f_X8_fill_18 r0 r1 y2 1000000 0 M8
set_option maxRecDepth 100000 in
set_option maxHeartbeats 4000000 in
theorem x_X8_fill {κ : KX} {n : Nat} (hC : CX κ cX8_fill RX8 5 none 1) (hE : zEnd κ n (0, 0)) (hk0 : zRk κ (0, 0)) (r0 : Nat) (r1 : Nat) (y2 : Int64) (M : Mem) (h_r0 : zO n r0 8) (h_r1 : zO n r1 0) : X κ 5 emV n (0, 0) 0 [.ref r0, .ref r1, .long y2, .null, .null] [] M (f_X8_fill r0 r1 y2 M) := by
  unfold f_X8_fill
  refine x_aload_n (i := 0) rfl hC (zdk dk_X8_fill 0 rfl) (q := 1) rfl ?_
  refine x_iconst (i := 1) c_iconst_1 hC (zdk dk_X8_fill 1 rfl) (q := 2) rfl ?_
  refine x_putI fl_RX8_19 ⟨rfl, rfl⟩ (by decide) (Or.inl rfl) h_r0 hC (zdk dk_X8_fill 2 rfl) (q := 5) rfl ?_
  refine x_nmM (fun M6 => ?_)
  refine x_aload_n (i := 0) rfl hC (zdk dk_X8_fill 3 rfl) (q := 6) rfl ?_
  refine x_iconst (i := 0) c_iconst_0 hC (zdk dk_X8_fill 4 rfl) (q := 7) rfl ?_
  refine x_putI fl_RX8_23 ⟨rfl, rfl⟩ (by decide) (Or.inl rfl) h_r0 hC (zdk dk_X8_fill 5 rfl) (q := 10) rfl ?_
  refine x_nmM (fun M7 => ?_)
  refine x_aload_n (i := 0) rfl hC (zdk dk_X8_fill 6 rfl) (q := 11) rfl ?_
  refine x_lload_n (i := 2) rfl hC (zdk dk_X8_fill 7 rfl) (q := 12) rfl ?_
  refine x_putL fl_RX8_26 ⟨rfl, rfl⟩ (Or.inl rfl) h_r0 hC (zdk dk_X8_fill 8 rfl) (q := 15) rfl ?_
  refine x_nmM (fun M8 => ?_)
  refine x_iconst (i := 0) c_iconst_0 hC (zdk dk_X8_fill 9 rfl) (q := 16) rfl ?_
  refine x_istore (i := 4) (L' := [.ref r0, .ref r1, .long y2, .null, .int 0]) (by decide) rfl hC (zdk dk_X8_fill 10 rfl) (q := 18) rfl ?_
  refine x_weak (L' := [.ref r0, .ref r1, .long y2, .null, .int 0]) ⟨Or.inr rfl, Or.inr rfl, Or.inr rfl, Or.inl rfl, Or.inr rfl, trivial⟩ ?_
  exact x_X8_fill_18 hC hE hk0 h_r0 h_r1 _ _ _
set_option maxRecDepth 100000 in
set_option maxHeartbeats 4000000 in
theorem t_X8_fill {n : Nat} {r0 : Nat} {r1 : Nat} {y2 : Int64} {M : Mem} (h_r0 : zO n r0 8) (h_r1 : zO n r1 0) (x : Mem) (hx : f_X8_fill r0 r1 y2 M = some x) (l : Launch) (dC : Nat → ClassId) (dI : Nat → Nat → Nat) (b : zSg) : MT l dC dI b yX8_fill cX8_fill 5 none 1 0 0 n n [.ref r0, .ref r1, .long y2] M (emV x).1 (emV x).2 :=
  MT.ofX (by decide +kernel) rfl (Nat.le_of_ble_eq_true rfl) (fun κ hC hF _ => x_X8_fill hC (zEnd_of hF (Nat.le_refl _) (Nat.le_refl _)) (zRk_of hF (Nat.le_refl _) (Nat.le_refl _)) _ _ _ _ h_r0 h_r1) x hx
set_option maxRecDepth 100000 in
def dt_X8_turn : List (Nat × Instr × Nat) := [(0, .aload_n 0, 1), (1, .getfield 9, 3), (4, .iload_n 1, 1), (5, .bipush 99, 2), (7, .aload_n 0, 1), (8, .getfield 9, 3), (11, .iload_n 1, 1), (12, .iaload, 1), (13, .isub, 1), (14, .iastore, 1), (15, .return_, 1)]
set_option maxRecDepth 100000 in
theorem dk_X8_turn : dt_X8_turn.all (fun q => decide (decode cX8_turn q.1 = .ok q.2)) = true := by decide +kernel
set_option maxRecDepth 100000 in
def f_X8_turn (r0 : Nat) (x1 : Int32) (M : Mem) : Option Mem := Option.bind (zrf M r0 0) fun q1 => Option.bind (zrf M r0 0) fun q2 => Option.bind (zld q2 x1) fun k3 => Option.bind (zld q1 x1) fun k4 => Option.bind (some (zsI M q1 k4 (99 - (zI M q2 k3)))) fun M5 => some M5
set_option maxRecDepth 100000 in
set_option maxHeartbeats 4000000 in
theorem x_X8_turn {κ : KX} {n : Nat} (hC : CX κ cX8_turn RX8 2 none 0) (hE : zEnd κ n (0, 0)) (hk0 : zRk κ (0, 0)) (r0 : Nat) (x1 : Int32) (M : Mem) (h_r0 : zO n r0 8) : X κ 2 emV n (0, 0) 0 [.ref r0, .int x1] [] M (f_X8_turn r0 x1 M) := by
  unfold f_X8_turn
  refine x_aload_n (i := 0) rfl hC (zdk dk_X8_turn 0 rfl) (q := 1) rfl ?_
  refine x_getR (k := 20) fl_RX8_9 rfl h_r0 hC (zdk dk_X8_turn 1 rfl) (q := 4) rfl (fun q1 hq1 => ?_)
  refine x_iload_n (i := 1) rfl hC (zdk dk_X8_turn 2 rfl) (q := 5) rfl ?_
  refine x_bipush (i := 99) c_bipush_99 hC (zdk dk_X8_turn 3 rfl) (q := 7) rfl ?_
  refine x_aload_n (i := 0) rfl hC (zdk dk_X8_turn 4 rfl) (q := 8) rfl ?_
  refine x_getR (k := 20) fl_RX8_9 rfl h_r0 hC (zdk dk_X8_turn 5 rfl) (q := 11) rfl (fun q2 hq2 => ?_)
  refine x_iload_n (i := 1) rfl hC (zdk dk_X8_turn 6 rfl) (q := 12) rfl ?_
  refine x_iald hq2 hC (zdk dk_X8_turn 7 rfl) (q := 13) rfl (fun k3 _ => ?_)
  refine x_isub hC (zdk dk_X8_turn 8 rfl) (q := 14) rfl ?_
  refine x_iast hq1 hC (zdk dk_X8_turn 9 rfl) (q := 15) rfl (fun k4 _ => ?_)
  refine x_nmM (fun M5 => ?_)
  exact x_vret hE hC (zdk dk_X8_turn 10 rfl)
set_option maxRecDepth 100000 in
set_option maxHeartbeats 4000000 in
theorem t_X8_turn {n : Nat} {r0 : Nat} {x1 : Int32} {M : Mem} (h_r0 : zO n r0 8) (x : Mem) (hx : f_X8_turn r0 x1 M = some x) (l : Launch) (dC : Nat → ClassId) (dI : Nat → Nat → Nat) (b : zSg) : MT l dC dI b yX8_turn cX8_turn 2 none 0 0 0 n n [.ref r0, .int x1] M (emV x).1 (emV x).2 :=
  MT.ofX (by decide +kernel) rfl (Nat.le_of_ble_eq_true rfl) (fun κ hC hF _ => x_X8_turn hC (zEnd_of hF (Nat.le_refl _) (Nat.le_refl _)) (zRk_of hF (Nat.le_refl _) (Nat.le_refl _)) _ _ _ h_r0) x hx
set_option maxRecDepth 100000 in
def dt_X9_clear : List (Nat × Instr × Nat) := [(0, .aload_n 0, 1), (1, .iconst 0, 1), (2, .putfield 27, 3), (5, .return_, 1)]
set_option maxRecDepth 100000 in
theorem dk_X9_clear : dt_X9_clear.all (fun q => decide (decode cX9_clear q.1 = .ok q.2)) = true := by decide +kernel
set_option maxRecDepth 100000 in
def f_X9_clear (r0 : Nat) (M : Mem) : Option Mem := Option.bind (some (zsI M r0 5 0)) fun M1 => some M1
set_option maxRecDepth 100000 in
set_option maxHeartbeats 4000000 in
theorem x_X9_clear {κ : KX} {n : Nat} (hC : CX κ cX9_clear RX9 1 none 0) (hE : zEnd κ n (0, 0)) (hk0 : zRk κ (0, 0)) (r0 : Nat) (M : Mem) (h_r0 : zO n r0 9) : X κ 1 emV n (0, 0) 0 [.ref r0] [] M (f_X9_clear r0 M) := by
  unfold f_X9_clear
  refine x_aload_n (i := 0) rfl hC (zdk dk_X9_clear 0 rfl) (q := 1) rfl ?_
  refine x_iconst (i := 0) c_iconst_0 hC (zdk dk_X9_clear 1 rfl) (q := 2) rfl ?_
  refine x_putI fl_RX9_27 ⟨rfl, rfl⟩ (by decide) (Or.inl rfl) h_r0 hC (zdk dk_X9_clear 2 rfl) (q := 5) rfl ?_
  refine x_nmM (fun M1 => ?_)
  exact x_vret hE hC (zdk dk_X9_clear 3 rfl)
set_option maxRecDepth 100000 in
set_option maxHeartbeats 4000000 in
theorem t_X9_clear {n : Nat} {r0 : Nat} {M : Mem} (h_r0 : zO n r0 9) (x : Mem) (hx : f_X9_clear r0 M = some x) (l : Launch) (dC : Nat → ClassId) (dI : Nat → Nat → Nat) (b : zSg) : MT l dC dI b yX9_clear cX9_clear 1 none 0 0 0 n n [.ref r0] M (emV x).1 (emV x).2 :=
  MT.ofX (by decide +kernel) rfl (Nat.le_of_ble_eq_true rfl) (fun κ hC hF _ => x_X9_clear hC (zEnd_of hF (Nat.le_refl _) (Nat.le_refl _)) (zRk_of hF (Nat.le_refl _) (Nat.le_refl _)) _ _ h_r0) x hx
set_option maxRecDepth 100000 in
def dt_X9_takes : List (Nat × Instr × Nat) := [(0, .iload_n 2, 1), (1, .iconst 2, 1), (2, .if_icmp .lt 21, 3), (5, .iload_n 2, 1), (6, .bipush 32, 2), (8, .if_icmp .gt 15, 3), (11, .iload_n 2, 1), (12, .iconst 2, 1), (13, .irem, 1), (14, .ifCond .ne 9, 3), (17, .iload_n 2, 1), (18, .aload_n 1, 1), (19, .arraylength, 1), (20, .if_icmp .le 5, 3), (23, .iconst 0, 1), (24, .ireturn, 1), (25, .iconst 0, 1), (26, .istore_n 3, 1), (27, .iload_n 3, 1), (28, .iload_n 2, 1), (29, .if_icmp .ge 29, 3), (32, .aload_n 1, 1), (33, .iload_n 3, 1), (34, .iaload, 1), (35, .bipush 100, 2), (37, .if_icmp .gt 13, 3), (40, .aload_n 1, 1), (41, .iload_n 3, 1), (42, .iconst 1, 1), (43, .iadd, 1), (44, .iaload, 1), (45, .bipush 63, 2), (47, .if_icmp .le 5, 3), (50, .iconst 0, 1), (51, .ireturn, 1), (52, .iinc 3 2, 3), (55, .goto (-28), 3), (58, .aload_n 0, 1), (59, .iload_n 2, 1), (60, .iconst 2, 1), (61, .idiv, 1), (62, .putfield 27, 3), (65, .iconst 0, 1), (66, .istore_n 3, 1), (67, .iload_n 3, 1), (68, .aload_n 0, 1), (69, .getfield 27, 3), (72, .if_icmp .ge 33, 3), (75, .aload_n 0, 1), (76, .getfield 9, 3), (79, .iload_n 3, 1), (80, .aload_n 1, 1), (81, .iconst 2, 1), (82, .iload_n 3, 1), (83, .imul, 1), (84, .iaload, 1), (85, .iastore, 1), (86, .aload_n 0, 1), (87, .getfield 15, 3), (90, .iload_n 3, 1), (91, .aload_n 1, 1), (92, .iconst 2, 1), (93, .iload_n 3, 1), (94, .imul, 1), (95, .iconst 1, 1), (96, .iadd, 1), (97, .iaload, 1), (98, .iastore, 1), (99, .iinc 3 1, 3), (102, .goto (-35), 3), (105, .iconst 1, 1), (106, .ireturn, 1)]
set_option maxRecDepth 100000 in
theorem dk_X9_takes : dt_X9_takes.all (fun q => decide (decode cX9_takes q.1 = .ok q.2)) = true := by decide +kernel
set_option maxRecDepth 100000 in
def f_X9_takes_23  (r0 : Nat) (r1 : Nat) (x2 : Int32)  (M : Mem) : Option (Int32 × Mem) := some (0, M)
set_option maxRecDepth 100000 in
set_option maxHeartbeats 4000000 in
theorem x_X9_takes_23 {κ : KX} {n : Nat} (hC : CX κ cX9_takes RX9 4 (some .boolean) 0) (hE : zEnd κ n (0, 0)) (hk0 : zRk κ (0, 0)) {r0 : Nat} {r1 : Nat} {x2 : Int32} (h_r0 : zO n r0 9) (h_r1 : zO n r1 20) (M : Mem) : X κ 4 emI n (0, 0) 23 [.null, .null, .null, .null] [] M (f_X9_takes_23 r0 r1 x2 M) := by
  unfold f_X9_takes_23
  refine x_iconst (i := 0) c_iconst_0 hC (zdk dk_X9_takes 14 rfl) (q := 24) rfl ?_
  exact x_iret (ty := .boolean) rfl hE hC (zdk dk_X9_takes 15 rfl)
set_option maxRecDepth 100000 in
def f_X9_takes_50  (r0 : Nat) (r1 : Nat) (x2 : Int32)  (M : Mem) : Option (Int32 × Mem) := some (0, M)
set_option maxRecDepth 100000 in
set_option maxHeartbeats 4000000 in
theorem x_X9_takes_50 {κ : KX} {n : Nat} (hC : CX κ cX9_takes RX9 4 (some .boolean) 0) (hE : zEnd κ n (0, 0)) (hk0 : zRk κ (0, 0)) {r0 : Nat} {r1 : Nat} {x2 : Int32} (h_r0 : zO n r0 9) (h_r1 : zO n r1 20) (M : Mem) : X κ 4 emI n (0, 0) 50 [.null, .null, .null, .null] [] M (f_X9_takes_50 r0 r1 x2 M) := by
  unfold f_X9_takes_50
  refine x_iconst (i := 0) c_iconst_0 hC (zdk dk_X9_takes 33 rfl) (q := 51) rfl ?_
  exact x_iret (ty := .boolean) rfl hE hC (zdk dk_X9_takes 34 rfl)
set_option maxRecDepth 100000 in
def f_X9_takes_67  (r0 : Nat) (r1 : Nat) (x2 : Int32) : Nat → Int32 → Mem → Option (Int32 × Mem)
  | 0, _, _ => none
  | f + 1, x3, M => (if zI M r0 5 ≤ x3 then some (1, M) else Option.bind (zrf M r0 0) fun q1 => Option.bind (zld r1 (2 * x3)) fun k2 => Option.bind (zld q1 x3) fun k3 => Option.bind (some (zsI M q1 k3 (zI M r1 k2))) fun M4 => Option.bind (zrf M4 r0 1) fun q5 => Option.bind (zld r1 ((2 * x3) + 1)) fun k6 => Option.bind (zld q5 x3) fun k7 => Option.bind (some (zsI M4 q5 k7 (zI M4 r1 k6))) fun M8 => (f_X9_takes_67 r0 r1 x2 f) (x3 + 1) M8)
set_option maxRecDepth 100000 in
set_option maxHeartbeats 4000000 in
theorem x_X9_takes_67 {κ : KX} {n : Nat} (hC : CX κ cX9_takes RX9 4 (some .boolean) 0) (hE : zEnd κ n (0, 0)) (hk0 : zRk κ (0, 0)) {r0 : Nat} {r1 : Nat} {x2 : Int32} (h_r0 : zO n r0 9) (h_r1 : zO n r1 20) : ∀ (f : Nat) (x3 : Int32) (M : Mem), X κ 4 emI n (0, 0) 67 [.ref r0, .ref r1, .null, .int x3] [] M (f_X9_takes_67 r0 r1 x2 f x3 M) := by
  intro f
  induction f with
  | zero => intros; exact x_none
  | succ f ih =>
    intro x3 M 
    rw [f_X9_takes_67]
    refine x_iload_n (i := 3) rfl hC (zdk dk_X9_takes 44 rfl) (q := 68) rfl ?_
    refine x_aload_n (i := 0) rfl hC (zdk dk_X9_takes 45 rfl) (q := 69) rfl ?_
    refine x_getI fl_RX9_27 (by decide) h_r0 hC (zdk dk_X9_takes 46 rfl) (q := 72) rfl ?_
    refine x_icmp_ge (tgt := 105) hC (zdk dk_X9_takes 47 rfl) (q := 75) rfl rfl (fun _ => ?_) (fun _ => ?_)
    · refine x_iconst (i := 1) c_iconst_1 hC (zdk dk_X9_takes 70 rfl) (q := 106) rfl ?_
      exact x_iret (ty := .boolean) rfl hE hC (zdk dk_X9_takes 71 rfl)
    · refine x_aload_n (i := 0) rfl hC (zdk dk_X9_takes 48 rfl) (q := 76) rfl ?_
      refine x_getR (k := 20) fl_RX9_9 rfl h_r0 hC (zdk dk_X9_takes 49 rfl) (q := 79) rfl (fun q1 hq1 => ?_)
      refine x_iload_n (i := 3) rfl hC (zdk dk_X9_takes 50 rfl) (q := 80) rfl ?_
      refine x_aload_n (i := 1) rfl hC (zdk dk_X9_takes 51 rfl) (q := 81) rfl ?_
      refine x_iconst (i := 2) c_iconst_2 hC (zdk dk_X9_takes 52 rfl) (q := 82) rfl ?_
      refine x_iload_n (i := 3) rfl hC (zdk dk_X9_takes 53 rfl) (q := 83) rfl ?_
      refine x_imul hC (zdk dk_X9_takes 54 rfl) (q := 84) rfl ?_
      refine x_iald h_r1 hC (zdk dk_X9_takes 55 rfl) (q := 85) rfl (fun k2 _ => ?_)
      refine x_iast hq1 hC (zdk dk_X9_takes 56 rfl) (q := 86) rfl (fun k3 _ => ?_)
      refine x_nmM (fun M4 => ?_)
      refine x_aload_n (i := 0) rfl hC (zdk dk_X9_takes 57 rfl) (q := 87) rfl ?_
      refine x_getR (k := 20) fl_RX9_15 rfl h_r0 hC (zdk dk_X9_takes 58 rfl) (q := 90) rfl (fun q5 hq5 => ?_)
      refine x_iload_n (i := 3) rfl hC (zdk dk_X9_takes 59 rfl) (q := 91) rfl ?_
      refine x_aload_n (i := 1) rfl hC (zdk dk_X9_takes 60 rfl) (q := 92) rfl ?_
      refine x_iconst (i := 2) c_iconst_2 hC (zdk dk_X9_takes 61 rfl) (q := 93) rfl ?_
      refine x_iload_n (i := 3) rfl hC (zdk dk_X9_takes 62 rfl) (q := 94) rfl ?_
      refine x_imul hC (zdk dk_X9_takes 63 rfl) (q := 95) rfl ?_
      refine x_iconst (i := 1) c_iconst_1 hC (zdk dk_X9_takes 64 rfl) (q := 96) rfl ?_
      refine x_iadd hC (zdk dk_X9_takes 65 rfl) (q := 97) rfl ?_
      refine x_iald h_r1 hC (zdk dk_X9_takes 66 rfl) (q := 98) rfl (fun k6 _ => ?_)
      refine x_iast hq5 hC (zdk dk_X9_takes 67 rfl) (q := 99) rfl (fun k7 _ => ?_)
      refine x_nmM (fun M8 => ?_)
      refine x_iinc (i := 3) c_iconst_1 rfl (by decide) (L' := [.ref r0, .ref r1, .null, .int (x3 + 1)]) rfl hC (zdk dk_X9_takes 68 rfl) (q := 102) rfl ?_
      refine x_goto (tgt := 67) hC (zdk dk_X9_takes 69 rfl) rfl ?_
      refine x_weak (L' := [.ref r0, .ref r1, .null, .int (x3 + 1)]) ⟨Or.inr rfl, Or.inr rfl, Or.inl rfl, Or.inr rfl, trivial⟩ ?_
      exact ih _ _
set_option maxRecDepth 100000 in
def f_X9_takes_27  (r0 : Nat) (r1 : Nat) (x2 : Int32) : Nat → Int32 → Mem → Option (Int32 × Mem)
  | 0, _, _ => none
  | f + 1, x3, M => (if x2 ≤ x3 then Option.bind (some (zsI M r0 5 (x2 / 2))) fun M9 => f_X9_takes_67 r0 r1 x2 1000000 0 M9 else Option.bind (zld r1 x3) fun k10 => (if 100 < zI M r1 k10 then f_X9_takes_50 r0 r1 x2 M else Option.bind (zld r1 (x3 + 1)) fun k11 => (if zI M r1 k11 ≤ 63 then (f_X9_takes_27 r0 r1 x2 f) (x3 + 2) M else f_X9_takes_50 r0 r1 x2 M)))
set_option maxRecDepth 100000 in
set_option maxHeartbeats 4000000 in
theorem x_X9_takes_27 {κ : KX} {n : Nat} (hC : CX κ cX9_takes RX9 4 (some .boolean) 0) (hE : zEnd κ n (0, 0)) (hk0 : zRk κ (0, 0)) {r0 : Nat} {r1 : Nat} {x2 : Int32} (h_r0 : zO n r0 9) (h_r1 : zO n r1 20) : ∀ (f : Nat) (x3 : Int32) (M : Mem), X κ 4 emI n (0, 0) 27 [.ref r0, .ref r1, .int x2, .int x3] [] M (f_X9_takes_27 r0 r1 x2 f x3 M) := by
  intro f
  induction f with
  | zero => intros; exact x_none
  | succ f ih =>
    intro x3 M 
    rw [f_X9_takes_27]
    refine x_iload_n (i := 3) rfl hC (zdk dk_X9_takes 18 rfl) (q := 28) rfl ?_
    refine x_iload_n (i := 2) rfl hC (zdk dk_X9_takes 19 rfl) (q := 29) rfl ?_
    refine x_icmp_ge (tgt := 58) hC (zdk dk_X9_takes 20 rfl) (q := 32) rfl rfl (fun _ => ?_) (fun _ => ?_)
    · refine x_aload_n (i := 0) rfl hC (zdk dk_X9_takes 37 rfl) (q := 59) rfl ?_
      refine x_iload_n (i := 2) rfl hC (zdk dk_X9_takes 38 rfl) (q := 60) rfl ?_
      refine x_iconst (i := 2) c_iconst_2 hC (zdk dk_X9_takes 39 rfl) (q := 61) rfl ?_
      refine x_idiv (by decide) hC (zdk dk_X9_takes 40 rfl) (q := 62) rfl ?_
      refine x_putI fl_RX9_27 ⟨rfl, rfl⟩ (by decide) (Or.inl rfl) h_r0 hC (zdk dk_X9_takes 41 rfl) (q := 65) rfl ?_
      refine x_nmM (fun M9 => ?_)
      refine x_iconst (i := 0) c_iconst_0 hC (zdk dk_X9_takes 42 rfl) (q := 66) rfl ?_
      refine x_istore_n (i := 3) (L' := [.ref r0, .ref r1, .int x2, .int 0]) (by decide) rfl hC (zdk dk_X9_takes 43 rfl) (q := 67) rfl ?_
      refine x_weak (L' := [.ref r0, .ref r1, .null, .int 0]) ⟨Or.inr rfl, Or.inr rfl, Or.inl rfl, Or.inr rfl, trivial⟩ ?_
      exact x_X9_takes_67 hC hE hk0 h_r0 h_r1 _ _ _
    · refine x_aload_n (i := 1) rfl hC (zdk dk_X9_takes 21 rfl) (q := 33) rfl ?_
      refine x_iload_n (i := 3) rfl hC (zdk dk_X9_takes 22 rfl) (q := 34) rfl ?_
      refine x_iald h_r1 hC (zdk dk_X9_takes 23 rfl) (q := 35) rfl (fun k10 _ => ?_)
      refine x_bipush (i := 100) c_bipush_100 hC (zdk dk_X9_takes 24 rfl) (q := 37) rfl ?_
      refine x_icmp_gt (tgt := 50) hC (zdk dk_X9_takes 25 rfl) (q := 40) rfl rfl (fun _ => ?_) (fun _ => ?_)
      · refine x_weak (L' := [.null, .null, .null, .null]) ⟨Or.inl rfl, Or.inl rfl, Or.inl rfl, Or.inl rfl, trivial⟩ ?_
        exact x_X9_takes_50 hC hE hk0 h_r0 h_r1 _
      · refine x_aload_n (i := 1) rfl hC (zdk dk_X9_takes 26 rfl) (q := 41) rfl ?_
        refine x_iload_n (i := 3) rfl hC (zdk dk_X9_takes 27 rfl) (q := 42) rfl ?_
        refine x_iconst (i := 1) c_iconst_1 hC (zdk dk_X9_takes 28 rfl) (q := 43) rfl ?_
        refine x_iadd hC (zdk dk_X9_takes 29 rfl) (q := 44) rfl ?_
        refine x_iald h_r1 hC (zdk dk_X9_takes 30 rfl) (q := 45) rfl (fun k11 _ => ?_)
        refine x_bipush (i := 63) c_bipush_63 hC (zdk dk_X9_takes 31 rfl) (q := 47) rfl ?_
        refine x_icmp_le (tgt := 52) hC (zdk dk_X9_takes 32 rfl) (q := 50) rfl rfl (fun _ => ?_) (fun _ => ?_)
        · refine x_iinc (i := 3) c_iconst_2 rfl (by decide) (L' := [.ref r0, .ref r1, .int x2, .int (x3 + 2)]) rfl hC (zdk dk_X9_takes 35 rfl) (q := 55) rfl ?_
          refine x_goto (tgt := 27) hC (zdk dk_X9_takes 36 rfl) rfl ?_
          refine x_weak (L' := [.ref r0, .ref r1, .int x2, .int (x3 + 2)]) ⟨Or.inr rfl, Or.inr rfl, Or.inr rfl, Or.inr rfl, trivial⟩ ?_
          exact ih _ _
        · refine x_weak (L' := [.null, .null, .null, .null]) ⟨Or.inl rfl, Or.inl rfl, Or.inl rfl, Or.inl rfl, trivial⟩ ?_
          exact x_X9_takes_50 hC hE hk0 h_r0 h_r1 _
set_option maxRecDepth 100000 in
def f_X9_takes (r0 : Nat) (r1 : Nat) (x2 : Int32) (M : Mem) : Option (Int32 × Mem) := (if x2 < 2 then f_X9_takes_23 r0 r1 x2 M else (if 32 < x2 then f_X9_takes_23 r0 r1 x2 M else (if zrem x2 2 = 0 then (if x2 ≤ zlen r1 then f_X9_takes_27 r0 r1 x2 1000000 0 M else f_X9_takes_23 r0 r1 x2 M) else f_X9_takes_23 r0 r1 x2 M)))
set_option maxRecDepth 100000 in
set_option maxHeartbeats 4000000 in
theorem x_X9_takes {κ : KX} {n : Nat} (hC : CX κ cX9_takes RX9 4 (some .boolean) 0) (hE : zEnd κ n (0, 0)) (hk0 : zRk κ (0, 0)) (r0 : Nat) (r1 : Nat) (x2 : Int32) (M : Mem) (h_r0 : zO n r0 9) (h_r1 : zO n r1 20) : X κ 4 emI n (0, 0) 0 [.ref r0, .ref r1, .int x2, .null] [] M (f_X9_takes r0 r1 x2 M) := by
  unfold f_X9_takes
  refine x_iload_n (i := 2) rfl hC (zdk dk_X9_takes 0 rfl) (q := 1) rfl ?_
  refine x_iconst (i := 2) c_iconst_2 hC (zdk dk_X9_takes 1 rfl) (q := 2) rfl ?_
  refine x_icmp_lt (tgt := 23) hC (zdk dk_X9_takes 2 rfl) (q := 5) rfl rfl (fun _ => ?_) (fun _ => ?_)
  · refine x_weak (L' := [.null, .null, .null, .null]) ⟨Or.inl rfl, Or.inl rfl, Or.inl rfl, Or.inl rfl, trivial⟩ ?_
    exact x_X9_takes_23 hC hE hk0 h_r0 h_r1 _
  · refine x_iload_n (i := 2) rfl hC (zdk dk_X9_takes 3 rfl) (q := 6) rfl ?_
    refine x_bipush (i := 32) c_bipush_32 hC (zdk dk_X9_takes 4 rfl) (q := 8) rfl ?_
    refine x_icmp_gt (tgt := 23) hC (zdk dk_X9_takes 5 rfl) (q := 11) rfl rfl (fun _ => ?_) (fun _ => ?_)
    · refine x_weak (L' := [.null, .null, .null, .null]) ⟨Or.inl rfl, Or.inl rfl, Or.inl rfl, Or.inl rfl, trivial⟩ ?_
      exact x_X9_takes_23 hC hE hk0 h_r0 h_r1 _
    · refine x_iload_n (i := 2) rfl hC (zdk dk_X9_takes 6 rfl) (q := 12) rfl ?_
      refine x_iconst (i := 2) c_iconst_2 hC (zdk dk_X9_takes 7 rfl) (q := 13) rfl ?_
      refine x_irem (by decide) hC (zdk dk_X9_takes 8 rfl) (q := 14) rfl ?_
      refine x_if_ne (tgt := 23) hC (zdk dk_X9_takes 9 rfl) (q := 17) rfl rfl (fun _ => ?_) (fun _ => ?_)
      · refine x_weak (L' := [.null, .null, .null, .null]) ⟨Or.inl rfl, Or.inl rfl, Or.inl rfl, Or.inl rfl, trivial⟩ ?_
        exact x_X9_takes_23 hC hE hk0 h_r0 h_r1 _
      · refine x_iload_n (i := 2) rfl hC (zdk dk_X9_takes 10 rfl) (q := 18) rfl ?_
        refine x_aload_n (i := 1) rfl hC (zdk dk_X9_takes 11 rfl) (q := 19) rfl ?_
        refine x_alen h_r1 (by decide) hC (zdk dk_X9_takes 12 rfl) (q := 20) rfl ?_
        refine x_icmp_le (tgt := 25) hC (zdk dk_X9_takes 13 rfl) (q := 23) rfl rfl (fun _ => ?_) (fun _ => ?_)
        · refine x_iconst (i := 0) c_iconst_0 hC (zdk dk_X9_takes 16 rfl) (q := 26) rfl ?_
          refine x_istore_n (i := 3) (L' := [.ref r0, .ref r1, .int x2, .int 0]) (by decide) rfl hC (zdk dk_X9_takes 17 rfl) (q := 27) rfl ?_
          refine x_weak (L' := [.ref r0, .ref r1, .int x2, .int 0]) ⟨Or.inr rfl, Or.inr rfl, Or.inr rfl, Or.inr rfl, trivial⟩ ?_
          exact x_X9_takes_27 hC hE hk0 h_r0 h_r1 _ _ _
        · refine x_weak (L' := [.null, .null, .null, .null]) ⟨Or.inl rfl, Or.inl rfl, Or.inl rfl, Or.inl rfl, trivial⟩ ?_
          exact x_X9_takes_23 hC hE hk0 h_r0 h_r1 _
set_option maxRecDepth 100000 in
set_option maxHeartbeats 4000000 in
theorem t_X9_takes {n : Nat} {r0 : Nat} {r1 : Nat} {x2 : Int32} {M : Mem} (h_r0 : zO n r0 9) (h_r1 : zO n r1 20) (x : (Int32 × Mem)) (hx : f_X9_takes r0 r1 x2 M = some x) (l : Launch) (dC : Nat → ClassId) (dI : Nat → Nat → Nat) (b : zSg) : MT l dC dI b yX9_takes cX9_takes 4 (some .boolean) 0 0 0 n n [.ref r0, .ref r1, .int x2] M (emI x).1 (emI x).2 :=
  MT.ofX (by decide +kernel) rfl (Nat.le_of_ble_eq_true rfl) (fun κ hC hF _ => x_X9_takes hC (zEnd_of hF (Nat.le_refl _) (Nat.le_refl _)) (zRk_of hF (Nat.le_refl _) (Nat.le_refl _)) _ _ _ _ h_r0 h_r1) x hx
set_option maxRecDepth 100000 in
def dt_X9_onesBy : List (Nat × Instr × Nat) := [(0, .aload_n 0, 1), (1, .getfield 21, 3), (4, .iload_n 1, 1), (5, .iload_n 2, 1), (6, .isub, 1), (7, .bipush 9, 2), (9, .iadd, 1), (10, .iaload, 1), (11, .ireturn, 1)]
set_option maxRecDepth 100000 in
theorem dk_X9_onesBy : dt_X9_onesBy.all (fun q => decide (decode cX9_onesBy q.1 = .ok q.2)) = true := by decide +kernel
set_option maxRecDepth 100000 in
def f_X9_onesBy (r0 : Nat) (x1 : Int32) (x2 : Int32) (M : Mem) : Option (Int32 × Mem) := Option.bind (zrf M r0 3) fun q1 => Option.bind (zld q1 ((x1 - x2) + 9)) fun k2 => some (zI M q1 k2, M)
set_option maxRecDepth 100000 in
set_option maxHeartbeats 4000000 in
theorem x_X9_onesBy {κ : KX} {n : Nat} (hC : CX κ cX9_onesBy RX9 3 (some .int) 0) (hE : zEnd κ n (0, 0)) (hk0 : zRk κ (0, 0)) (r0 : Nat) (x1 : Int32) (x2 : Int32) (M : Mem) (h_r0 : zO n r0 9) : X κ 3 emI n (0, 0) 0 [.ref r0, .int x1, .int x2] [] M (f_X9_onesBy r0 x1 x2 M) := by
  unfold f_X9_onesBy
  refine x_aload_n (i := 0) rfl hC (zdk dk_X9_onesBy 0 rfl) (q := 1) rfl ?_
  refine x_getR (k := 20) fl_RX9_21 rfl h_r0 hC (zdk dk_X9_onesBy 1 rfl) (q := 4) rfl (fun q1 hq1 => ?_)
  refine x_iload_n (i := 1) rfl hC (zdk dk_X9_onesBy 2 rfl) (q := 5) rfl ?_
  refine x_iload_n (i := 2) rfl hC (zdk dk_X9_onesBy 3 rfl) (q := 6) rfl ?_
  refine x_isub hC (zdk dk_X9_onesBy 4 rfl) (q := 7) rfl ?_
  refine x_bipush (i := 9) c_bipush_9 hC (zdk dk_X9_onesBy 5 rfl) (q := 9) rfl ?_
  refine x_iadd hC (zdk dk_X9_onesBy 6 rfl) (q := 10) rfl ?_
  refine x_iald hq1 hC (zdk dk_X9_onesBy 7 rfl) (q := 11) rfl (fun k2 _ => ?_)
  exact x_iret (ty := .int) rfl hE hC (zdk dk_X9_onesBy 8 rfl)
set_option maxRecDepth 100000 in
set_option maxHeartbeats 4000000 in
theorem t_X9_onesBy {n : Nat} {r0 : Nat} {x1 : Int32} {x2 : Int32} {M : Mem} (h_r0 : zO n r0 9) (x : (Int32 × Mem)) (hx : f_X9_onesBy r0 x1 x2 M = some x) (l : Launch) (dC : Nat → ClassId) (dI : Nat → Nat → Nat) (b : zSg) : MT l dC dI b yX9_onesBy cX9_onesBy 3 (some .int) 0 0 0 n n [.ref r0, .int x1, .int x2] M (emI x).1 (emI x).2 :=
  MT.ofX (by decide +kernel) rfl (Nat.le_of_ble_eq_true rfl) (fun κ hC hF _ => x_X9_onesBy hC (zEnd_of hF (Nat.le_refl _) (Nat.le_refl _)) (zRk_of hF (Nat.le_refl _) (Nat.le_refl _)) _ _ _ _ h_r0) x hx
set_option maxRecDepth 100000 in
def dt_X9_isLeft : List (Nat × Instr × Nat) := [(0, .iconst 0, 1), (1, .istore_n 2, 1), (2, .iload_n 2, 1), (3, .aload_n 0, 1), (4, .getfield 27, 3), (7, .if_icmp .ge 31, 3), (10, .aload_n 0, 1), (11, .aload_n 0, 1), (12, .getfield 9, 3), (15, .iload_n 2, 1), (16, .iaload, 1), (17, .iload_n 1, 1), (18, .invokevirtual 50, 3), (21, .aload_n 0, 1), (22, .getfield 15, 3), (25, .iload_n 2, 1), (26, .iaload, 1), (27, .if_icmp .eq 5, 3), (30, .iconst 0, 1), (31, .ireturn, 1), (32, .iinc 2 1, 3), (35, .goto (-33), 3), (38, .iconst 1, 1), (39, .ireturn, 1)]
set_option maxRecDepth 100000 in
theorem dk_X9_isLeft : dt_X9_isLeft.all (fun q => decide (decode cX9_isLeft q.1 = .ok q.2)) = true := by decide +kernel
set_option maxRecDepth 100000 in
def f_X9_isLeft_2  (r0 : Nat) (x1 : Int32) : Nat → Int32 → Mem → Option (Int32 × Mem)
  | 0, _, _ => none
  | f + 1, x2, M => (if zI M r0 5 ≤ x2 then some (1, M) else Option.bind (zrf M r0 0) fun q1 => Option.bind (zld q1 x2) fun k2 => Option.bind (f_X9_onesBy r0 (zI M q1 k2) x1 M) fun z3 => Option.bind (zrf z3.2 r0 1) fun q4 => Option.bind (zld q4 x2) fun k5 => (if z3.1 = zI z3.2 q4 k5 then (f_X9_isLeft_2 r0 x1 f) (x2 + 1) z3.2 else some (0, z3.2)))
set_option maxRecDepth 100000 in
set_option maxHeartbeats 4000000 in
theorem x_X9_isLeft_2 {κ : KX} {n : Nat} (hC : CX κ cX9_isLeft RX9 3 (some .boolean) 1) (hE : zEnd κ n (0, 0)) (hk0 : zRk κ (0, 0)) {r0 : Nat} {x1 : Int32} (h_r0 : zO n r0 9) : ∀ (f : Nat) (x2 : Int32) (M : Mem), X κ 3 emI n (0, 0) 2 [.ref r0, .int x1, .int x2] [] M (f_X9_isLeft_2 r0 x1 f x2 M) := by
  intro f
  induction f with
  | zero => intros; exact x_none
  | succ f ih =>
    intro x2 M 
    rw [f_X9_isLeft_2]
    refine x_iload_n (i := 2) rfl hC (zdk dk_X9_isLeft 2 rfl) (q := 3) rfl ?_
    refine x_aload_n (i := 0) rfl hC (zdk dk_X9_isLeft 3 rfl) (q := 4) rfl ?_
    refine x_getI fl_RX9_27 (by decide) h_r0 hC (zdk dk_X9_isLeft 4 rfl) (q := 7) rfl ?_
    refine x_icmp_ge (tgt := 38) hC (zdk dk_X9_isLeft 5 rfl) (q := 10) rfl rfl (fun _ => ?_) (fun _ => ?_)
    · refine x_iconst (i := 1) c_iconst_1 hC (zdk dk_X9_isLeft 22 rfl) (q := 39) rfl ?_
      exact x_iret (ty := .boolean) rfl hE hC (zdk dk_X9_isLeft 23 rfl)
    · refine x_aload_n (i := 0) rfl hC (zdk dk_X9_isLeft 6 rfl) (q := 11) rfl ?_
      refine x_aload_n (i := 0) rfl hC (zdk dk_X9_isLeft 7 rfl) (q := 12) rfl ?_
      refine x_getR (k := 20) fl_RX9_9 rfl h_r0 hC (zdk dk_X9_isLeft 8 rfl) (q := 15) rfl (fun q1 hq1 => ?_)
      refine x_iload_n (i := 2) rfl hC (zdk dk_X9_isLeft 9 rfl) (q := 16) rfl ?_
      refine x_iald hq1 hC (zdk dk_X9_isLeft 10 rfl) (q := 17) rfl (fun k2 _ => ?_)
      refine x_iload_n (i := 1) rfl hC (zdk dk_X9_isLeft 11 rfl) (q := 18) rfl ?_
      refine x_callVi (as := [.int (zI M q1 k2), .int x1]) cb_RX9_50 rfl (by decide) hk0 h_r0 (fun x hx => t_X9_onesBy h_r0 x hx) hC (zdk dk_X9_isLeft 12 rfl) (q := 21) rfl rfl (Nat.le_of_ble_eq_true rfl) (fun z3 => ?_)
      refine x_aload_n (i := 0) rfl hC (zdk dk_X9_isLeft 13 rfl) (q := 22) rfl ?_
      refine x_getR (k := 20) fl_RX9_15 rfl h_r0 hC (zdk dk_X9_isLeft 14 rfl) (q := 25) rfl (fun q4 hq4 => ?_)
      refine x_iload_n (i := 2) rfl hC (zdk dk_X9_isLeft 15 rfl) (q := 26) rfl ?_
      refine x_iald hq4 hC (zdk dk_X9_isLeft 16 rfl) (q := 27) rfl (fun k5 _ => ?_)
      refine x_icmp_eq (tgt := 32) hC (zdk dk_X9_isLeft 17 rfl) (q := 30) rfl rfl (fun _ => ?_) (fun _ => ?_)
      · refine x_iinc (i := 2) c_iconst_1 rfl (by decide) (L' := [.ref r0, .int x1, .int (x2 + 1)]) rfl hC (zdk dk_X9_isLeft 20 rfl) (q := 35) rfl ?_
        refine x_goto (tgt := 2) hC (zdk dk_X9_isLeft 21 rfl) rfl ?_
        refine x_weak (L' := [.ref r0, .int x1, .int (x2 + 1)]) ⟨Or.inr rfl, Or.inr rfl, Or.inr rfl, trivial⟩ ?_
        exact ih _ _
      · refine x_iconst (i := 0) c_iconst_0 hC (zdk dk_X9_isLeft 18 rfl) (q := 31) rfl ?_
        exact x_iret (ty := .boolean) rfl hE hC (zdk dk_X9_isLeft 19 rfl)
set_option maxRecDepth 100000 in
def f_X9_isLeft (r0 : Nat) (x1 : Int32) (M : Mem) : Option (Int32 × Mem) := f_X9_isLeft_2 r0 x1 1000000 0 M
set_option maxRecDepth 100000 in
set_option maxHeartbeats 4000000 in
theorem x_X9_isLeft {κ : KX} {n : Nat} (hC : CX κ cX9_isLeft RX9 3 (some .boolean) 1) (hE : zEnd κ n (0, 0)) (hk0 : zRk κ (0, 0)) (r0 : Nat) (x1 : Int32) (M : Mem) (h_r0 : zO n r0 9) : X κ 3 emI n (0, 0) 0 [.ref r0, .int x1, .null] [] M (f_X9_isLeft r0 x1 M) := by
  unfold f_X9_isLeft
  refine x_iconst (i := 0) c_iconst_0 hC (zdk dk_X9_isLeft 0 rfl) (q := 1) rfl ?_
  refine x_istore_n (i := 2) (L' := [.ref r0, .int x1, .int 0]) (by decide) rfl hC (zdk dk_X9_isLeft 1 rfl) (q := 2) rfl ?_
  refine x_weak (L' := [.ref r0, .int x1, .int 0]) ⟨Or.inr rfl, Or.inr rfl, Or.inr rfl, trivial⟩ ?_
  exact x_X9_isLeft_2 hC hE hk0 h_r0 _ _ _
set_option maxRecDepth 100000 in
set_option maxHeartbeats 4000000 in
theorem t_X9_isLeft {n : Nat} {r0 : Nat} {x1 : Int32} {M : Mem} (h_r0 : zO n r0 9) (x : (Int32 × Mem)) (hx : f_X9_isLeft r0 x1 M = some x) (l : Launch) (dC : Nat → ClassId) (dI : Nat → Nat → Nat) (b : zSg) : MT l dC dI b yX9_isLeft cX9_isLeft 3 (some .boolean) 1 0 0 n n [.ref r0, .int x1] M (emI x).1 (emI x).2 :=
  MT.ofX (by decide +kernel) rfl (Nat.le_of_ble_eq_true rfl) (fun κ hC hF _ => x_X9_isLeft hC (zEnd_of hF (Nat.le_refl _) (Nat.le_refl _)) (zRk_of hF (Nat.le_refl _) (Nat.le_refl _)) _ _ _ h_r0) x hx
set_option maxRecDepth 100000 in
def dt_X9_find : List (Nat × Instr × Nat) := [(0, .iconst 0, 1), (1, .istore_n 3, 1), (2, .iload_n 3, 1), (3, .aload_n 0, 1), (4, .getfield 21, 3), (7, .arraylength, 1), (8, .if_icmp .ge 27, 3), (11, .aload_n 0, 1), (12, .getfield 21, 3), (15, .iload_n 3, 1), (16, .aload_n 1, 1), (17, .iload_n 3, 1), (18, .bipush 9, 2), (20, .isub, 1), (21, .iload_n 2, 1), (22, .invokevirtual 31, 3), (25, .invokestatic 37, 3), (28, .iastore, 1), (29, .iinc 3 1, 3), (32, .goto (-30), 3), (35, .aload_n 0, 1), (36, .iconst 0, 1), (37, .putfield 43, 3), (40, .bipush (-9), 2), (42, .istore_n 3, 1), (43, .iload_n 3, 1), (44, .bipush 9, 2), (46, .if_icmp .gt 37, 3), (49, .aload_n 0, 1), (50, .iload_n 3, 1), (51, .invokevirtual 46, 3), (54, .ifCond .eq 23, 3), (57, .aload_n 0, 1), (58, .getfield 18, 3), (61, .aload_n 0, 1), (62, .getfield 43, 3), (65, .iload_n 3, 1), (66, .iastore, 1), (67, .aload_n 0, 1), (68, .dup, 1), (69, .getfield 43, 3), (72, .iconst 1, 1), (73, .iadd, 1), (74, .putfield 43, 3), (77, .iinc 3 1, 3), (80, .goto (-37), 3), (83, .return_, 1)]
set_option maxRecDepth 100000 in
theorem dk_X9_find : dt_X9_find.all (fun q => decide (decode cX9_find q.1 = .ok q.2)) = true := by decide +kernel
set_option maxRecDepth 100000 in
def f_X9_find_77 (k43 : Int32 → Mem → Option Mem) (r0 : Nat) (r1 : Nat) (x2 : Int32) (x3 : Int32) (M : Mem) : Option Mem := k43 (x3 + 1) M
set_option maxRecDepth 100000 in
set_option maxHeartbeats 4000000 in
theorem x_X9_find_77 {κ : KX} {n : Nat} (hC : CX κ cX9_find RX9 4 none 2) (hE : zEnd κ n (0, 0)) (hk0 : zRk κ (0, 0)) {r0 : Nat} {r1 : Nat} {x2 : Int32} (h_r0 : zO n r0 9) (h_r1 : zO n r1 8) (k43 : Int32 → Mem → Option Mem) (hk43 : ∀ (x3 : Int32) (M : Mem), X κ 4 emV n (0, 0) 43 [.ref r0, .null, .null, .int x3] [] M (k43 x3 M)) (x3 : Int32) (M : Mem) : X κ 4 emV n (0, 0) 77 [.ref r0, .null, .null, .int x3] [] M (f_X9_find_77 k43 r0 r1 x2 x3 M) := by
  unfold f_X9_find_77
  refine x_iinc (i := 3) c_iconst_1 rfl (by decide) (L' := [.ref r0, .null, .null, .int (x3 + 1)]) rfl hC (zdk dk_X9_find 44 rfl) (q := 80) rfl ?_
  refine x_goto (tgt := 43) hC (zdk dk_X9_find 45 rfl) rfl ?_
  refine x_weak (L' := [.ref r0, .null, .null, .int (x3 + 1)]) ⟨Or.inr rfl, Or.inl rfl, Or.inl rfl, Or.inr rfl, trivial⟩ ?_
  exact hk43 _ _
set_option maxRecDepth 100000 in
def f_X9_find_43  (r0 : Nat) (r1 : Nat) (x2 : Int32) : Nat → Int32 → Mem → Option Mem
  | 0, _, _ => none
  | f + 1, x3, M => (if 9 < x3 then some M else Option.bind (f_X9_isLeft r0 x3 M) fun z1 => (if z1.1 = 0 then f_X9_find_77 (f_X9_find_43 r0 r1 x2 f) r0 r1 x2 x3 z1.2 else Option.bind (zrf z1.2 r0 2) fun q2 => Option.bind (zld q2 (zI z1.2 r0 6)) fun k3 => Option.bind (some (zsI z1.2 q2 k3 x3)) fun M4 => Option.bind (some (zsI M4 r0 6 ((zI M4 r0 6) + 1))) fun M5 => f_X9_find_77 (f_X9_find_43 r0 r1 x2 f) r0 r1 x2 x3 M5))
set_option maxRecDepth 100000 in
set_option maxHeartbeats 4000000 in
theorem x_X9_find_43 {κ : KX} {n : Nat} (hC : CX κ cX9_find RX9 4 none 2) (hE : zEnd κ n (0, 0)) (hk0 : zRk κ (0, 0)) {r0 : Nat} {r1 : Nat} {x2 : Int32} (h_r0 : zO n r0 9) (h_r1 : zO n r1 8) : ∀ (f : Nat) (x3 : Int32) (M : Mem), X κ 4 emV n (0, 0) 43 [.ref r0, .null, .null, .int x3] [] M (f_X9_find_43 r0 r1 x2 f x3 M) := by
  intro f
  induction f with
  | zero => intros; exact x_none
  | succ f ih =>
    intro x3 M 
    rw [f_X9_find_43]
    refine x_iload_n (i := 3) rfl hC (zdk dk_X9_find 25 rfl) (q := 44) rfl ?_
    refine x_bipush (i := 9) c_bipush_9 hC (zdk dk_X9_find 26 rfl) (q := 46) rfl ?_
    refine x_icmp_gt (tgt := 83) hC (zdk dk_X9_find 27 rfl) (q := 49) rfl rfl (fun _ => ?_) (fun _ => ?_)
    · exact x_vret hE hC (zdk dk_X9_find 46 rfl)
    · refine x_aload_n (i := 0) rfl hC (zdk dk_X9_find 28 rfl) (q := 50) rfl ?_
      refine x_iload_n (i := 3) rfl hC (zdk dk_X9_find 29 rfl) (q := 51) rfl ?_
      refine x_callVi (as := [.int x3]) cb_RX9_46 rfl (by decide) hk0 h_r0 (fun x hx => t_X9_isLeft h_r0 x hx) hC (zdk dk_X9_find 30 rfl) (q := 54) rfl rfl (Nat.le_of_ble_eq_true rfl) (fun z1 => ?_)
      refine x_if_eq (tgt := 77) hC (zdk dk_X9_find 31 rfl) (q := 57) rfl rfl (fun _ => ?_) (fun _ => ?_)
      · refine x_weak (L' := [.ref r0, .null, .null, .int x3]) ⟨Or.inr rfl, Or.inl rfl, Or.inl rfl, Or.inr rfl, trivial⟩ ?_
        exact x_X9_find_77 hC hE hk0 h_r0 h_r1 (f_X9_find_43 r0 r1 x2 f) ih _ _
      · refine x_aload_n (i := 0) rfl hC (zdk dk_X9_find 32 rfl) (q := 58) rfl ?_
        refine x_getR (k := 20) fl_RX9_18 rfl h_r0 hC (zdk dk_X9_find 33 rfl) (q := 61) rfl (fun q2 hq2 => ?_)
        refine x_aload_n (i := 0) rfl hC (zdk dk_X9_find 34 rfl) (q := 62) rfl ?_
        refine x_getI fl_RX9_43 (by decide) h_r0 hC (zdk dk_X9_find 35 rfl) (q := 65) rfl ?_
        refine x_iload_n (i := 3) rfl hC (zdk dk_X9_find 36 rfl) (q := 66) rfl ?_
        refine x_iast hq2 hC (zdk dk_X9_find 37 rfl) (q := 67) rfl (fun k3 _ => ?_)
        refine x_nmM (fun M4 => ?_)
        refine x_aload_n (i := 0) rfl hC (zdk dk_X9_find 38 rfl) (q := 68) rfl ?_
        refine x_dup rfl hC (zdk dk_X9_find 39 rfl) (q := 69) rfl ?_
        refine x_getI fl_RX9_43 (by decide) h_r0 hC (zdk dk_X9_find 40 rfl) (q := 72) rfl ?_
        refine x_iconst (i := 1) c_iconst_1 hC (zdk dk_X9_find 41 rfl) (q := 73) rfl ?_
        refine x_iadd hC (zdk dk_X9_find 42 rfl) (q := 74) rfl ?_
        refine x_putI fl_RX9_43 ⟨rfl, rfl⟩ (by decide) (Or.inl rfl) h_r0 hC (zdk dk_X9_find 43 rfl) (q := 77) rfl ?_
        refine x_nmM (fun M5 => ?_)
        refine x_weak (L' := [.ref r0, .null, .null, .int x3]) ⟨Or.inr rfl, Or.inl rfl, Or.inl rfl, Or.inr rfl, trivial⟩ ?_
        exact x_X9_find_77 hC hE hk0 h_r0 h_r1 (f_X9_find_43 r0 r1 x2 f) ih _ _
set_option maxRecDepth 100000 in
def f_X9_find_2  (r0 : Nat) (r1 : Nat) (x2 : Int32) : Nat → Int32 → Mem → Option Mem
  | 0, _, _ => none
  | f + 1, x3, M => Option.bind (zrf M r0 3) fun q6 => (if zlen q6 ≤ x3 then Option.bind (some (zsI M r0 6 0)) fun M7 => f_X9_find_43 r0 r1 x2 1000000 ((-9)) M7 else Option.bind (zrf M r0 3) fun q8 => Option.bind (f_X8_readBy r1 (x3 - 9) x2 M) fun z9 => Option.bind (f_J13_bitCount_95d88 z9.1 z9.2) fun z10 => Option.bind (zld q8 x3) fun k11 => Option.bind (some (zsI z10.2 q8 k11 z10.1)) fun M12 => (f_X9_find_2 r0 r1 x2 f) (x3 + 1) M12)
set_option maxRecDepth 100000 in
set_option maxHeartbeats 4000000 in
theorem x_X9_find_2 {κ : KX} {n : Nat} (hC : CX κ cX9_find RX9 4 none 2) (hE : zEnd κ n (0, 0)) (hk0 : zRk κ (0, 0)) {r0 : Nat} {r1 : Nat} {x2 : Int32} (h_r0 : zO n r0 9) (h_r1 : zO n r1 8) : ∀ (f : Nat) (x3 : Int32) (M : Mem), X κ 4 emV n (0, 0) 2 [.ref r0, .ref r1, .int x2, .int x3] [] M (f_X9_find_2 r0 r1 x2 f x3 M) := by
  intro f
  induction f with
  | zero => intros; exact x_none
  | succ f ih =>
    intro x3 M 
    rw [f_X9_find_2]
    refine x_iload_n (i := 3) rfl hC (zdk dk_X9_find 2 rfl) (q := 3) rfl ?_
    refine x_aload_n (i := 0) rfl hC (zdk dk_X9_find 3 rfl) (q := 4) rfl ?_
    refine x_getR (k := 20) fl_RX9_21 rfl h_r0 hC (zdk dk_X9_find 4 rfl) (q := 7) rfl (fun q6 hq6 => ?_)
    refine x_alen hq6 (by decide) hC (zdk dk_X9_find 5 rfl) (q := 8) rfl ?_
    refine x_icmp_ge (tgt := 35) hC (zdk dk_X9_find 6 rfl) (q := 11) rfl rfl (fun _ => ?_) (fun _ => ?_)
    · refine x_aload_n (i := 0) rfl hC (zdk dk_X9_find 20 rfl) (q := 36) rfl ?_
      refine x_iconst (i := 0) c_iconst_0 hC (zdk dk_X9_find 21 rfl) (q := 37) rfl ?_
      refine x_putI fl_RX9_43 ⟨rfl, rfl⟩ (by decide) (Or.inl rfl) h_r0 hC (zdk dk_X9_find 22 rfl) (q := 40) rfl ?_
      refine x_nmM (fun M7 => ?_)
      refine x_bipush (i := (-9)) c_bipush_m9 hC (zdk dk_X9_find 23 rfl) (q := 42) rfl ?_
      refine x_istore_n (i := 3) (L' := [.ref r0, .ref r1, .int x2, .int ((-9))]) (by decide) rfl hC (zdk dk_X9_find 24 rfl) (q := 43) rfl ?_
      refine x_weak (L' := [.ref r0, .null, .null, .int ((-9))]) ⟨Or.inr rfl, Or.inl rfl, Or.inl rfl, Or.inr rfl, trivial⟩ ?_
      exact x_X9_find_43 hC hE hk0 h_r0 h_r1 _ _ _
    · refine x_aload_n (i := 0) rfl hC (zdk dk_X9_find 7 rfl) (q := 12) rfl ?_
      refine x_getR (k := 20) fl_RX9_21 rfl h_r0 hC (zdk dk_X9_find 8 rfl) (q := 15) rfl (fun q8 hq8 => ?_)
      refine x_iload_n (i := 3) rfl hC (zdk dk_X9_find 9 rfl) (q := 16) rfl ?_
      refine x_aload_n (i := 1) rfl hC (zdk dk_X9_find 10 rfl) (q := 17) rfl ?_
      refine x_iload_n (i := 3) rfl hC (zdk dk_X9_find 11 rfl) (q := 18) rfl ?_
      refine x_bipush (i := 9) c_bipush_9 hC (zdk dk_X9_find 12 rfl) (q := 20) rfl ?_
      refine x_isub hC (zdk dk_X9_find 13 rfl) (q := 21) rfl ?_
      refine x_iload_n (i := 2) rfl hC (zdk dk_X9_find 14 rfl) (q := 22) rfl ?_
      refine x_callVl (as := [.int (x3 - 9), .int x2]) cb_RX9_31 rfl (by decide) hk0 h_r1 (fun x hx => t_X8_readBy h_r1 x hx) hC (zdk dk_X9_find 15 rfl) (q := 25) rfl rfl (Nat.le_of_ble_eq_true rfl) (fun z9 => ?_)
      refine x_callSi (as := [.long z9.1]) cb_RX9_37 rfl (by decide) hk0 (fun x hx => t_J13_bitCount_95d88  x hx) hC (zdk dk_X9_find 16 rfl) (q := 28) rfl rfl (Nat.le_of_ble_eq_true rfl) (fun z10 => ?_)
      refine x_iast hq8 hC (zdk dk_X9_find 17 rfl) (q := 29) rfl (fun k11 _ => ?_)
      refine x_nmM (fun M12 => ?_)
      refine x_iinc (i := 3) c_iconst_1 rfl (by decide) (L' := [.ref r0, .ref r1, .int x2, .int (x3 + 1)]) rfl hC (zdk dk_X9_find 18 rfl) (q := 32) rfl ?_
      refine x_goto (tgt := 2) hC (zdk dk_X9_find 19 rfl) rfl ?_
      refine x_weak (L' := [.ref r0, .ref r1, .int x2, .int (x3 + 1)]) ⟨Or.inr rfl, Or.inr rfl, Or.inr rfl, Or.inr rfl, trivial⟩ ?_
      exact ih _ _
set_option maxRecDepth 100000 in
def f_X9_find (r0 : Nat) (r1 : Nat) (x2 : Int32) (M : Mem) : Option Mem := f_X9_find_2 r0 r1 x2 1000000 0 M
set_option maxRecDepth 100000 in
set_option maxHeartbeats 4000000 in
theorem x_X9_find {κ : KX} {n : Nat} (hC : CX κ cX9_find RX9 4 none 2) (hE : zEnd κ n (0, 0)) (hk0 : zRk κ (0, 0)) (r0 : Nat) (r1 : Nat) (x2 : Int32) (M : Mem) (h_r0 : zO n r0 9) (h_r1 : zO n r1 8) : X κ 4 emV n (0, 0) 0 [.ref r0, .ref r1, .int x2, .null] [] M (f_X9_find r0 r1 x2 M) := by
  unfold f_X9_find
  refine x_iconst (i := 0) c_iconst_0 hC (zdk dk_X9_find 0 rfl) (q := 1) rfl ?_
  refine x_istore_n (i := 3) (L' := [.ref r0, .ref r1, .int x2, .int 0]) (by decide) rfl hC (zdk dk_X9_find 1 rfl) (q := 2) rfl ?_
  refine x_weak (L' := [.ref r0, .ref r1, .int x2, .int 0]) ⟨Or.inr rfl, Or.inr rfl, Or.inr rfl, Or.inr rfl, trivial⟩ ?_
  exact x_X9_find_2 hC hE hk0 h_r0 h_r1 _ _ _
set_option maxRecDepth 100000 in
set_option maxHeartbeats 4000000 in
theorem t_X9_find {n : Nat} {r0 : Nat} {r1 : Nat} {x2 : Int32} {M : Mem} (h_r0 : zO n r0 9) (h_r1 : zO n r1 8) (x : Mem) (hx : f_X9_find r0 r1 x2 M = some x) (l : Launch) (dC : Nat → ClassId) (dI : Nat → Nat → Nat) (b : zSg) : MT l dC dI b yX9_find cX9_find 4 none 2 0 0 n n [.ref r0, .ref r1, .int x2] M (emV x).1 (emV x).2 :=
  MT.ofX (by decide +kernel) rfl (Nat.le_of_ble_eq_true rfl) (fun κ hC hF _ => x_X9_find hC (zEnd_of hF (Nat.le_refl _) (Nat.le_refl _)) (zRk_of hF (Nat.le_refl _) (Nat.le_refl _)) _ _ _ _ h_r0 h_r1) x hx
set_option maxRecDepth 100000 in
def dt_X9_mostLeft : List (Nat × Instr × Nat) := [(0, .aload_n 0, 1), (1, .getfield 24, 3), (4, .iconst 0, 1), (5, .invokestatic 64, 3), (8, .iconst 0, 1), (9, .istore_n 2, 1), (10, .iconst 0, 1), (11, .istore_n 3, 1), (12, .iload_n 3, 1), (13, .aload_n 0, 1), (14, .getfield 43, 3), (17, .if_icmp .ge 45, 3), (20, .aload_n 0, 1), (21, .iload_n 1, 1), (22, .aload_n 0, 1), (23, .getfield 18, 3), (26, .iload_n 3, 1), (27, .iaload, 1), (28, .invokevirtual 50, 3), (31, .istore 4, 2), (33, .aload_n 0, 1), (34, .getfield 24, 3), (37, .iload 4, 2), (39, .dup2, 1), (40, .iaload, 1), (41, .iconst 1, 1), (42, .iadd, 1), (43, .iastore, 1), (44, .iload_n 2, 1), (45, .aload_n 0, 1), (46, .getfield 24, 3), (49, .iload 4, 2), (51, .iaload, 1), (52, .invokestatic 70, 3), (55, .istore_n 2, 1), (56, .iinc 3 1, 3), (59, .goto (-47), 3), (62, .iload_n 2, 1), (63, .ireturn, 1)]
set_option maxRecDepth 100000 in
theorem dk_X9_mostLeft : dt_X9_mostLeft.all (fun q => decide (decode cX9_mostLeft q.1 = .ok q.2)) = true := by decide +kernel
set_option maxRecDepth 100000 in
def f_X9_mostLeft_12  (r0 : Nat) (x1 : Int32) : Nat → Int32 → Int32 → Mem → Option (Int32 × Mem)
  | 0, _, _, _ => none
  | f + 1, x2, x3, M => (if zI M r0 6 ≤ x3 then some (x2, M) else Option.bind (zrf M r0 2) fun q1 => Option.bind (zld q1 x3) fun k2 => Option.bind (f_X9_onesBy r0 x1 (zI M q1 k2) M) fun z3 => Option.bind (zrf z3.2 r0 4) fun q4 => Option.bind (zld q4 z3.1) fun k5 => Option.bind (zld q4 z3.1) fun k6 => Option.bind (some (zsI z3.2 q4 k6 ((zI z3.2 q4 k5) + 1))) fun M7 => Option.bind (zrf M7 r0 4) fun q8 => Option.bind (zld q8 z3.1) fun k9 => Option.bind (f_J9_max_7cf53 x2 (zI M7 q8 k9) M7) fun z10 => (f_X9_mostLeft_12 r0 x1 f) z10.1 (x3 + 1) z10.2)
set_option maxRecDepth 100000 in
set_option maxHeartbeats 4000000 in
theorem x_X9_mostLeft_12 {κ : KX} {n : Nat} (hC : CX κ cX9_mostLeft RX9 5 (some .int) 1) (hE : zEnd κ n (0, 0)) (hk0 : zRk κ (0, 0)) {r0 : Nat} {x1 : Int32} (h_r0 : zO n r0 9) : ∀ (f : Nat) (x2 : Int32) (x3 : Int32) (M : Mem), X κ 5 emI n (0, 0) 12 [.ref r0, .int x1, .int x2, .int x3, .null] [] M (f_X9_mostLeft_12 r0 x1 f x2 x3 M) := by
  intro f
  induction f with
  | zero => intros; exact x_none
  | succ f ih =>
    intro x2 x3 M 
    rw [f_X9_mostLeft_12]
    refine x_iload_n (i := 3) rfl hC (zdk dk_X9_mostLeft 8 rfl) (q := 13) rfl ?_
    refine x_aload_n (i := 0) rfl hC (zdk dk_X9_mostLeft 9 rfl) (q := 14) rfl ?_
    refine x_getI fl_RX9_43 (by decide) h_r0 hC (zdk dk_X9_mostLeft 10 rfl) (q := 17) rfl ?_
    refine x_icmp_ge (tgt := 62) hC (zdk dk_X9_mostLeft 11 rfl) (q := 20) rfl rfl (fun _ => ?_) (fun _ => ?_)
    · refine x_iload_n (i := 2) rfl hC (zdk dk_X9_mostLeft 37 rfl) (q := 63) rfl ?_
      exact x_iret (ty := .int) rfl hE hC (zdk dk_X9_mostLeft 38 rfl)
    · refine x_aload_n (i := 0) rfl hC (zdk dk_X9_mostLeft 12 rfl) (q := 21) rfl ?_
      refine x_iload_n (i := 1) rfl hC (zdk dk_X9_mostLeft 13 rfl) (q := 22) rfl ?_
      refine x_aload_n (i := 0) rfl hC (zdk dk_X9_mostLeft 14 rfl) (q := 23) rfl ?_
      refine x_getR (k := 20) fl_RX9_18 rfl h_r0 hC (zdk dk_X9_mostLeft 15 rfl) (q := 26) rfl (fun q1 hq1 => ?_)
      refine x_iload_n (i := 3) rfl hC (zdk dk_X9_mostLeft 16 rfl) (q := 27) rfl ?_
      refine x_iald hq1 hC (zdk dk_X9_mostLeft 17 rfl) (q := 28) rfl (fun k2 _ => ?_)
      refine x_callVi (as := [.int x1, .int (zI M q1 k2)]) cb_RX9_50 rfl (by decide) hk0 h_r0 (fun x hx => t_X9_onesBy h_r0 x hx) hC (zdk dk_X9_mostLeft 18 rfl) (q := 31) rfl rfl (Nat.le_of_ble_eq_true rfl) (fun z3 => ?_)
      refine x_istore (i := 4) (L' := [.ref r0, .int x1, .int x2, .int x3, .int z3.1]) (by decide) rfl hC (zdk dk_X9_mostLeft 19 rfl) (q := 33) rfl ?_
      refine x_aload_n (i := 0) rfl hC (zdk dk_X9_mostLeft 20 rfl) (q := 34) rfl ?_
      refine x_getR (k := 20) fl_RX9_24 rfl h_r0 hC (zdk dk_X9_mostLeft 21 rfl) (q := 37) rfl (fun q4 hq4 => ?_)
      refine x_iload (i := 4) rfl hC (zdk dk_X9_mostLeft 22 rfl) (q := 39) rfl ?_
      refine x_dup2 rfl rfl hC (zdk dk_X9_mostLeft 23 rfl) (q := 40) rfl ?_
      refine x_iald hq4 hC (zdk dk_X9_mostLeft 24 rfl) (q := 41) rfl (fun k5 _ => ?_)
      refine x_iconst (i := 1) c_iconst_1 hC (zdk dk_X9_mostLeft 25 rfl) (q := 42) rfl ?_
      refine x_iadd hC (zdk dk_X9_mostLeft 26 rfl) (q := 43) rfl ?_
      refine x_iast hq4 hC (zdk dk_X9_mostLeft 27 rfl) (q := 44) rfl (fun k6 _ => ?_)
      refine x_nmM (fun M7 => ?_)
      refine x_iload_n (i := 2) rfl hC (zdk dk_X9_mostLeft 28 rfl) (q := 45) rfl ?_
      refine x_aload_n (i := 0) rfl hC (zdk dk_X9_mostLeft 29 rfl) (q := 46) rfl ?_
      refine x_getR (k := 20) fl_RX9_24 rfl h_r0 hC (zdk dk_X9_mostLeft 30 rfl) (q := 49) rfl (fun q8 hq8 => ?_)
      refine x_iload (i := 4) rfl hC (zdk dk_X9_mostLeft 31 rfl) (q := 51) rfl ?_
      refine x_iald hq8 hC (zdk dk_X9_mostLeft 32 rfl) (q := 52) rfl (fun k9 _ => ?_)
      refine x_callSi (as := [.int x2, .int (zI M7 q8 k9)]) cb_RX9_70 rfl (by decide) hk0 (fun x hx => t_J9_max_7cf53  x hx) hC (zdk dk_X9_mostLeft 33 rfl) (q := 55) rfl rfl (Nat.le_of_ble_eq_true rfl) (fun z10 => ?_)
      refine x_istore_n (i := 2) (L' := [.ref r0, .int x1, .int z10.1, .int x3, .int z3.1]) (by decide) rfl hC (zdk dk_X9_mostLeft 34 rfl) (q := 56) rfl ?_
      refine x_iinc (i := 3) c_iconst_1 rfl (by decide) (L' := [.ref r0, .int x1, .int z10.1, .int (x3 + 1), .int z3.1]) rfl hC (zdk dk_X9_mostLeft 35 rfl) (q := 59) rfl ?_
      refine x_goto (tgt := 12) hC (zdk dk_X9_mostLeft 36 rfl) rfl ?_
      refine x_weak (L' := [.ref r0, .int x1, .int z10.1, .int (x3 + 1), .null]) ⟨Or.inr rfl, Or.inr rfl, Or.inr rfl, Or.inr rfl, Or.inl rfl, trivial⟩ ?_
      exact ih _ _ _
set_option maxRecDepth 100000 in
def f_X9_mostLeft (r0 : Nat) (x1 : Int32) (M : Mem) : Option (Int32 × Mem) := Option.bind (zrf M r0 4) fun q11 => Option.bind (f_J7_fill_53178 q11 0 M) fun M12 => f_X9_mostLeft_12 r0 x1 1000000 0 0 M12
set_option maxRecDepth 100000 in
set_option maxHeartbeats 4000000 in
theorem x_X9_mostLeft {κ : KX} {n : Nat} (hC : CX κ cX9_mostLeft RX9 5 (some .int) 1) (hE : zEnd κ n (0, 0)) (hk0 : zRk κ (0, 0)) (r0 : Nat) (x1 : Int32) (M : Mem) (h_r0 : zO n r0 9) : X κ 5 emI n (0, 0) 0 [.ref r0, .int x1, .null, .null, .null] [] M (f_X9_mostLeft r0 x1 M) := by
  unfold f_X9_mostLeft
  refine x_aload_n (i := 0) rfl hC (zdk dk_X9_mostLeft 0 rfl) (q := 1) rfl ?_
  refine x_getR (k := 20) fl_RX9_24 rfl h_r0 hC (zdk dk_X9_mostLeft 1 rfl) (q := 4) rfl (fun q11 hq11 => ?_)
  refine x_iconst (i := 0) c_iconst_0 hC (zdk dk_X9_mostLeft 2 rfl) (q := 5) rfl ?_
  refine x_callSv (as := [.ref q11, .int 0]) cb_RX9_64 rfl (by decide) hk0 (fun x hx => t_J7_fill_53178 hq11 x hx) hC (zdk dk_X9_mostLeft 3 rfl) (q := 8) rfl rfl (Nat.le_of_ble_eq_true rfl) (fun M12 => ?_)
  refine x_iconst (i := 0) c_iconst_0 hC (zdk dk_X9_mostLeft 4 rfl) (q := 9) rfl ?_
  refine x_istore_n (i := 2) (L' := [.ref r0, .int x1, .int 0, .null, .null]) (by decide) rfl hC (zdk dk_X9_mostLeft 5 rfl) (q := 10) rfl ?_
  refine x_iconst (i := 0) c_iconst_0 hC (zdk dk_X9_mostLeft 6 rfl) (q := 11) rfl ?_
  refine x_istore_n (i := 3) (L' := [.ref r0, .int x1, .int 0, .int 0, .null]) (by decide) rfl hC (zdk dk_X9_mostLeft 7 rfl) (q := 12) rfl ?_
  refine x_weak (L' := [.ref r0, .int x1, .int 0, .int 0, .null]) ⟨Or.inr rfl, Or.inr rfl, Or.inr rfl, Or.inr rfl, Or.inl rfl, trivial⟩ ?_
  exact x_X9_mostLeft_12 hC hE hk0 h_r0 _ _ _ _
set_option maxRecDepth 100000 in
set_option maxHeartbeats 4000000 in
theorem t_X9_mostLeft {n : Nat} {r0 : Nat} {x1 : Int32} {M : Mem} (h_r0 : zO n r0 9) (x : (Int32 × Mem)) (hx : f_X9_mostLeft r0 x1 M = some x) (l : Launch) (dC : Nat → ClassId) (dI : Nat → Nat → Nat) (b : zSg) : MT l dC dI b yX9_mostLeft cX9_mostLeft 5 (some .int) 1 0 0 n n [.ref r0, .int x1] M (emI x).1 (emI x).2 :=
  MT.ofX (by decide +kernel) rfl (Nat.le_of_ble_eq_true rfl) (fun κ hC hF _ => x_X9_mostLeft hC (zEnd_of hF (Nat.le_refl _) (Nat.le_refl _)) (zRk_of hF (Nat.le_refl _) (Nat.le_refl _)) _ _ _ h_r0) x hx
set_option maxRecDepth 100000 in
def dt_X9_findTelling : List (Nat × Instr × Nat) := [(0, .aload_n 0, 1), (1, .iconst 0, 1), (2, .putfield 54, 3), (5, .aload_n 0, 1), (6, .bipush 20, 2), (8, .putfield 57, 3), (11, .iconst 0, 1), (12, .istore_n 1, 1), (13, .iload_n 1, 1), (14, .bipush 100, 2), (16, .if_icmp .gt 33, 3), (19, .aload_n 0, 1), (20, .iload_n 1, 1), (21, .invokevirtual 60, 3), (24, .istore_n 2, 1), (25, .iload_n 2, 1), (26, .aload_n 0, 1), (27, .getfield 57, 3), (30, .if_icmp .ge 13, 3), (33, .aload_n 0, 1), (34, .iload_n 2, 1), (35, .putfield 57, 3), (38, .aload_n 0, 1), (39, .iload_n 1, 1), (40, .putfield 54, 3), (43, .iinc 1 1, 3), (46, .goto (-33), 3), (49, .return_, 1)]
set_option maxRecDepth 100000 in
theorem dk_X9_findTelling : dt_X9_findTelling.all (fun q => decide (decode cX9_findTelling q.1 = .ok q.2)) = true := by decide +kernel
set_option maxRecDepth 100000 in
def f_X9_findTelling_43 (k13 : Int32 → Mem → Option Mem) (r0 : Nat) (x1 : Int32) (M : Mem) : Option Mem := k13 (x1 + 1) M
set_option maxRecDepth 100000 in
set_option maxHeartbeats 4000000 in
theorem x_X9_findTelling_43 {κ : KX} {n : Nat} (hC : CX κ cX9_findTelling RX9 3 none 2) (hE : zEnd κ n (0, 0)) (hk0 : zRk κ (0, 0)) {r0 : Nat} (h_r0 : zO n r0 9) (k13 : Int32 → Mem → Option Mem) (hk13 : ∀ (x1 : Int32) (M : Mem), X κ 3 emV n (0, 0) 13 [.ref r0, .int x1, .null] [] M (k13 x1 M)) (x1 : Int32) (M : Mem) : X κ 3 emV n (0, 0) 43 [.ref r0, .int x1, .null] [] M (f_X9_findTelling_43 k13 r0 x1 M) := by
  unfold f_X9_findTelling_43
  refine x_iinc (i := 1) c_iconst_1 rfl (by decide) (L' := [.ref r0, .int (x1 + 1), .null]) rfl hC (zdk dk_X9_findTelling 25 rfl) (q := 46) rfl ?_
  refine x_goto (tgt := 13) hC (zdk dk_X9_findTelling 26 rfl) rfl ?_
  refine x_weak (L' := [.ref r0, .int (x1 + 1), .null]) ⟨Or.inr rfl, Or.inr rfl, Or.inl rfl, trivial⟩ ?_
  exact hk13 _ _
set_option maxRecDepth 100000 in
def f_X9_findTelling_13  (r0 : Nat) : Nat → Int32 → Mem → Option Mem
  | 0, _, _ => none
  | f + 1, x1, M => (if 100 < x1 then some M else Option.bind (f_X9_mostLeft r0 x1 M) fun z1 => (if zI z1.2 r0 8 ≤ z1.1 then f_X9_findTelling_43 (f_X9_findTelling_13 r0 f) r0 x1 z1.2 else Option.bind (some (zsI z1.2 r0 8 z1.1)) fun M2 => Option.bind (some (zsI M2 r0 7 x1)) fun M3 => f_X9_findTelling_43 (f_X9_findTelling_13 r0 f) r0 x1 M3))
set_option maxRecDepth 100000 in
set_option maxHeartbeats 4000000 in
theorem x_X9_findTelling_13 {κ : KX} {n : Nat} (hC : CX κ cX9_findTelling RX9 3 none 2) (hE : zEnd κ n (0, 0)) (hk0 : zRk κ (0, 0)) {r0 : Nat} (h_r0 : zO n r0 9) : ∀ (f : Nat) (x1 : Int32) (M : Mem), X κ 3 emV n (0, 0) 13 [.ref r0, .int x1, .null] [] M (f_X9_findTelling_13 r0 f x1 M) := by
  intro f
  induction f with
  | zero => intros; exact x_none
  | succ f ih =>
    intro x1 M 
    rw [f_X9_findTelling_13]
    refine x_iload_n (i := 1) rfl hC (zdk dk_X9_findTelling 8 rfl) (q := 14) rfl ?_
    refine x_bipush (i := 100) c_bipush_100 hC (zdk dk_X9_findTelling 9 rfl) (q := 16) rfl ?_
    refine x_icmp_gt (tgt := 49) hC (zdk dk_X9_findTelling 10 rfl) (q := 19) rfl rfl (fun _ => ?_) (fun _ => ?_)
    · exact x_vret hE hC (zdk dk_X9_findTelling 27 rfl)
    · refine x_aload_n (i := 0) rfl hC (zdk dk_X9_findTelling 11 rfl) (q := 20) rfl ?_
      refine x_iload_n (i := 1) rfl hC (zdk dk_X9_findTelling 12 rfl) (q := 21) rfl ?_
      refine x_callVi (as := [.int x1]) cb_RX9_60 rfl (by decide) hk0 h_r0 (fun x hx => t_X9_mostLeft h_r0 x hx) hC (zdk dk_X9_findTelling 13 rfl) (q := 24) rfl rfl (Nat.le_of_ble_eq_true rfl) (fun z1 => ?_)
      refine x_istore_n (i := 2) (L' := [.ref r0, .int x1, .int z1.1]) (by decide) rfl hC (zdk dk_X9_findTelling 14 rfl) (q := 25) rfl ?_
      refine x_iload_n (i := 2) rfl hC (zdk dk_X9_findTelling 15 rfl) (q := 26) rfl ?_
      refine x_aload_n (i := 0) rfl hC (zdk dk_X9_findTelling 16 rfl) (q := 27) rfl ?_
      refine x_getI fl_RX9_57 (by decide) h_r0 hC (zdk dk_X9_findTelling 17 rfl) (q := 30) rfl ?_
      refine x_icmp_ge (tgt := 43) hC (zdk dk_X9_findTelling 18 rfl) (q := 33) rfl rfl (fun _ => ?_) (fun _ => ?_)
      · refine x_weak (L' := [.ref r0, .int x1, .null]) ⟨Or.inr rfl, Or.inr rfl, Or.inl rfl, trivial⟩ ?_
        exact x_X9_findTelling_43 hC hE hk0 h_r0 (f_X9_findTelling_13 r0 f) ih _ _
      · refine x_aload_n (i := 0) rfl hC (zdk dk_X9_findTelling 19 rfl) (q := 34) rfl ?_
        refine x_iload_n (i := 2) rfl hC (zdk dk_X9_findTelling 20 rfl) (q := 35) rfl ?_
        refine x_putI fl_RX9_57 ⟨rfl, rfl⟩ (by decide) (Or.inl rfl) h_r0 hC (zdk dk_X9_findTelling 21 rfl) (q := 38) rfl ?_
        refine x_nmM (fun M2 => ?_)
        refine x_aload_n (i := 0) rfl hC (zdk dk_X9_findTelling 22 rfl) (q := 39) rfl ?_
        refine x_iload_n (i := 1) rfl hC (zdk dk_X9_findTelling 23 rfl) (q := 40) rfl ?_
        refine x_putI fl_RX9_54 ⟨rfl, rfl⟩ (by decide) (Or.inl rfl) h_r0 hC (zdk dk_X9_findTelling 24 rfl) (q := 43) rfl ?_
        refine x_nmM (fun M3 => ?_)
        refine x_weak (L' := [.ref r0, .int x1, .null]) ⟨Or.inr rfl, Or.inr rfl, Or.inl rfl, trivial⟩ ?_
        exact x_X9_findTelling_43 hC hE hk0 h_r0 (f_X9_findTelling_13 r0 f) ih _ _
set_option maxRecDepth 100000 in
def f_X9_findTelling (r0 : Nat) (M : Mem) : Option Mem := Option.bind (some (zsI M r0 7 0)) fun M4 => Option.bind (some (zsI M4 r0 8 20)) fun M5 => f_X9_findTelling_13 r0 1000000 0 M5
set_option maxRecDepth 100000 in
set_option maxHeartbeats 4000000 in
theorem x_X9_findTelling {κ : KX} {n : Nat} (hC : CX κ cX9_findTelling RX9 3 none 2) (hE : zEnd κ n (0, 0)) (hk0 : zRk κ (0, 0)) (r0 : Nat) (M : Mem) (h_r0 : zO n r0 9) : X κ 3 emV n (0, 0) 0 [.ref r0, .null, .null] [] M (f_X9_findTelling r0 M) := by
  unfold f_X9_findTelling
  refine x_aload_n (i := 0) rfl hC (zdk dk_X9_findTelling 0 rfl) (q := 1) rfl ?_
  refine x_iconst (i := 0) c_iconst_0 hC (zdk dk_X9_findTelling 1 rfl) (q := 2) rfl ?_
  refine x_putI fl_RX9_54 ⟨rfl, rfl⟩ (by decide) (Or.inl rfl) h_r0 hC (zdk dk_X9_findTelling 2 rfl) (q := 5) rfl ?_
  refine x_nmM (fun M4 => ?_)
  refine x_aload_n (i := 0) rfl hC (zdk dk_X9_findTelling 3 rfl) (q := 6) rfl ?_
  refine x_bipush (i := 20) c_bipush_20 hC (zdk dk_X9_findTelling 4 rfl) (q := 8) rfl ?_
  refine x_putI fl_RX9_57 ⟨rfl, rfl⟩ (by decide) (Or.inl rfl) h_r0 hC (zdk dk_X9_findTelling 5 rfl) (q := 11) rfl ?_
  refine x_nmM (fun M5 => ?_)
  refine x_iconst (i := 0) c_iconst_0 hC (zdk dk_X9_findTelling 6 rfl) (q := 12) rfl ?_
  refine x_istore_n (i := 1) (L' := [.ref r0, .int 0, .null]) (by decide) rfl hC (zdk dk_X9_findTelling 7 rfl) (q := 13) rfl ?_
  refine x_weak (L' := [.ref r0, .int 0, .null]) ⟨Or.inr rfl, Or.inr rfl, Or.inl rfl, trivial⟩ ?_
  exact x_X9_findTelling_13 hC hE hk0 h_r0 _ _ _
set_option maxRecDepth 100000 in
set_option maxHeartbeats 4000000 in
theorem t_X9_findTelling {n : Nat} {r0 : Nat} {M : Mem} (h_r0 : zO n r0 9) (x : Mem) (hx : f_X9_findTelling r0 M = some x) (l : Launch) (dC : Nat → ClassId) (dI : Nat → Nat → Nat) (b : zSg) : MT l dC dI b yX9_findTelling cX9_findTelling 3 none 2 0 0 n n [.ref r0] M (emV x).1 (emV x).2 :=
  MT.ofX (by decide +kernel) rfl (Nat.le_of_ble_eq_true rfl) (fun κ hC hF _ => x_X9_findTelling hC (zEnd_of hF (Nat.le_refl _) (Nat.le_refl _)) (zRk_of hF (Nat.le_refl _) (Nat.le_refl _)) _ _ h_r0) x hx
set_option maxRecDepth 100000 in
def dt_X10_setDay : List (Nat × Instr × Nat) := [(0, .aload_n 0, 1), (1, .getfield 9, 3), (4, .bipush 12, 2), (6, .iload_n 2, 1), (7, .iastore, 1), (8, .aload_n 0, 1), (9, .getfield 9, 3), (12, .iconst 4, 1), (13, .aload_n 1, 1), (14, .getfield 18, 3), (17, .iastore, 1), (18, .aload_n 0, 1), (19, .getfield 9, 3), (22, .bipush 16, 2), (24, .iload_n 3, 1), (25, .iastore, 1), (26, .return_, 1)]
set_option maxRecDepth 100000 in
theorem dk_X10_setDay : dt_X10_setDay.all (fun q => decide (decode cX10_setDay q.1 = .ok q.2)) = true := by decide +kernel
set_option maxRecDepth 100000 in
def f_X10_setDay (r0 : Nat) (r1 : Nat) (x2 : Int32) (x3 : Int32) (M : Mem) : Option Mem := Option.bind (zrf M r0 0) fun q1 => Option.bind (zld q1 12) fun k2 => Option.bind (some (zsI M q1 k2 x2)) fun M3 => Option.bind (zrf M3 r0 0) fun q4 => Option.bind (zld q4 4) fun k5 => Option.bind (some (zsI M3 q4 k5 (zI M3 r1 1))) fun M6 => Option.bind (zrf M6 r0 0) fun q7 => Option.bind (zld q7 16) fun k8 => Option.bind (some (zsI M6 q7 k8 x3)) fun M9 => some M9
set_option maxRecDepth 100000 in
set_option maxHeartbeats 4000000 in
theorem x_X10_setDay {κ : KX} {n : Nat} (hC : CX κ cX10_setDay RX10 4 none 0) (hE : zEnd κ n (0, 0)) (hk0 : zRk κ (0, 0)) (r0 : Nat) (r1 : Nat) (x2 : Int32) (x3 : Int32) (M : Mem) (h_r0 : zO n r0 10) (h_r1 : zO n r1 8) : X κ 4 emV n (0, 0) 0 [.ref r0, .ref r1, .int x2, .int x3] [] M (f_X10_setDay r0 r1 x2 x3 M) := by
  unfold f_X10_setDay
  refine x_aload_n (i := 0) rfl hC (zdk dk_X10_setDay 0 rfl) (q := 1) rfl ?_
  refine x_getR (k := 20) fl_RX10_9 rfl h_r0 hC (zdk dk_X10_setDay 1 rfl) (q := 4) rfl (fun q1 hq1 => ?_)
  refine x_bipush (i := 12) c_bipush_12 hC (zdk dk_X10_setDay 2 rfl) (q := 6) rfl ?_
  refine x_iload_n (i := 2) rfl hC (zdk dk_X10_setDay 3 rfl) (q := 7) rfl ?_
  refine x_iast hq1 hC (zdk dk_X10_setDay 4 rfl) (q := 8) rfl (fun k2 _ => ?_)
  refine x_nmM (fun M3 => ?_)
  refine x_aload_n (i := 0) rfl hC (zdk dk_X10_setDay 5 rfl) (q := 9) rfl ?_
  refine x_getR (k := 20) fl_RX10_9 rfl h_r0 hC (zdk dk_X10_setDay 6 rfl) (q := 12) rfl (fun q4 hq4 => ?_)
  refine x_iconst (i := 4) c_iconst_4 hC (zdk dk_X10_setDay 7 rfl) (q := 13) rfl ?_
  refine x_aload_n (i := 1) rfl hC (zdk dk_X10_setDay 8 rfl) (q := 14) rfl ?_
  refine x_getI fl_RX10_18 (by decide) h_r1 hC (zdk dk_X10_setDay 9 rfl) (q := 17) rfl ?_
  refine x_iast hq4 hC (zdk dk_X10_setDay 10 rfl) (q := 18) rfl (fun k5 _ => ?_)
  refine x_nmM (fun M6 => ?_)
  refine x_aload_n (i := 0) rfl hC (zdk dk_X10_setDay 11 rfl) (q := 19) rfl ?_
  refine x_getR (k := 20) fl_RX10_9 rfl h_r0 hC (zdk dk_X10_setDay 12 rfl) (q := 22) rfl (fun q7 hq7 => ?_)
  refine x_bipush (i := 16) c_bipush_16 hC (zdk dk_X10_setDay 13 rfl) (q := 24) rfl ?_
  refine x_iload_n (i := 3) rfl hC (zdk dk_X10_setDay 14 rfl) (q := 25) rfl ?_
  refine x_iast hq7 hC (zdk dk_X10_setDay 15 rfl) (q := 26) rfl (fun k8 _ => ?_)
  refine x_nmM (fun M9 => ?_)
  exact x_vret hE hC (zdk dk_X10_setDay 16 rfl)
set_option maxRecDepth 100000 in
set_option maxHeartbeats 4000000 in
theorem t_X10_setDay {n : Nat} {r0 : Nat} {r1 : Nat} {x2 : Int32} {x3 : Int32} {M : Mem} (h_r0 : zO n r0 10) (h_r1 : zO n r1 8) (x : Mem) (hx : f_X10_setDay r0 r1 x2 x3 M = some x) (l : Launch) (dC : Nat → ClassId) (dI : Nat → Nat → Nat) (b : zSg) : MT l dC dI b yX10_setDay cX10_setDay 4 none 0 0 0 n n [.ref r0, .ref r1, .int x2, .int x3] M (emV x).1 (emV x).2 :=
  MT.ofX (by decide +kernel) rfl (Nat.le_of_ble_eq_true rfl) (fun κ hC hF _ => x_X10_setDay hC (zEnd_of hF (Nat.le_refl _) (Nat.le_refl _)) (zRk_of hF (Nat.le_refl _) (Nat.le_refl _)) _ _ _ _ _ h_r0 h_r1) x hx
set_option maxRecDepth 100000 in
def dt_X10_drifted : List (Nat × Instr × Nat) := [(0, .aload_n 1, 1), (1, .invokevirtual 24, 3), (4, .ifCond .ne 6, 3), (7, .iload 5, 2), (9, .ireturn, 1), (10, .aload_n 0, 1), (11, .getfield 9, 3), (14, .bipush 13, 2), (16, .iload 4, 2), (18, .iastore, 1), (19, .aload_n 0, 1), (20, .getfield 9, 3), (23, .bipush 14, 2), (25, .iload 5, 2), (27, .iastore, 1), (28, .aload_n 0, 1), (29, .getfield 9, 3), (32, .bipush 15, 2), (34, .lload_n 2, 1), (35, .iload 4, 2), (37, .invokestatic 30, 3), (40, .iastore, 1), (41, .iload 5, 2), (43, .aload_n 0, 1), (44, .aload_n 1, 1), (45, .aload_n 1, 1), (46, .getfield 34, 3), (49, .aload_n 1, 1), (50, .getfield 37, 3), (53, .invokevirtual 40, 3), (56, .iadd, 1), (57, .istore 6, 2), (59, .iconst 0, 1), (60, .bipush 99, 2), (62, .iload 6, 2), (64, .invokestatic 44, 3), (67, .invokestatic 50, 3), (70, .ireturn, 1)]
set_option maxRecDepth 100000 in
theorem dk_X10_drifted : dt_X10_drifted.all (fun q => decide (decode cX10_drifted q.1 = .ok q.2)) = true := by decide +kernel
set_option maxRecDepth 100000 in
def f_X10_drifted (r0 : Nat) (r1 : Nat) (y2 : Int64) (x4 : Int32) (x5 : Int32) (M : Mem) : Option (Int32 × Mem) := Option.bind (f_X0_hasDrifts r1 M) fun z1 => (if z1.1 = 0 then some (x5, z1.2) else Option.bind (zrf z1.2 r0 0) fun q2 => Option.bind (zld q2 13) fun k3 => Option.bind (some (zsI z1.2 q2 k3 x4)) fun M4 => Option.bind (zrf M4 r0 0) fun q5 => Option.bind (zld q5 14) fun k6 => Option.bind (some (zsI M4 q5 k6 x5)) fun M7 => Option.bind (zrf M7 r0 0) fun q8 => Option.bind (f_X11_bitOf y2 x4 M7) fun z9 => Option.bind (zld q8 15) fun k10 => Option.bind (some (zsI z9.2 q8 k10 z9.1)) fun M11 => Option.bind (f_X10_run r0 r1 (zI M11 r1 4) (zI M11 r1 5) M11) fun z12 => Option.bind (f_J9_min_7cf53 99 (x5 + z12.1) z12.2) fun z13 => Option.bind (f_J9_max_7cf53 0 z13.1 z13.2) fun z14 => some (z14.1, z14.2))
set_option maxRecDepth 100000 in
set_option maxHeartbeats 4000000 in
theorem x_X10_drifted {κ : KX} {n : Nat} (hC : CX κ cX10_drifted RX10 7 (some .int) 4) (hE : zEnd κ n (0, 0)) (hk0 : zRk κ (0, 0)) (r0 : Nat) (r1 : Nat) (y2 : Int64) (x4 : Int32) (x5 : Int32) (M : Mem) (h_r0 : zO n r0 10) (h_r1 : zO n r1 0) : X κ 7 emI n (0, 0) 0 [.ref r0, .ref r1, .long y2, .null, .int x4, .int x5, .null] [] M (f_X10_drifted r0 r1 y2 x4 x5 M) := by
  unfold f_X10_drifted
  refine x_aload_n (i := 1) rfl hC (zdk dk_X10_drifted 0 rfl) (q := 1) rfl ?_
  refine x_callVi (as := []) cb_RX10_24 rfl (by decide) hk0 h_r1 (fun x hx => t_X0_hasDrifts h_r1 x hx) hC (zdk dk_X10_drifted 1 rfl) (q := 4) rfl rfl (Nat.le_of_ble_eq_true rfl) (fun z1 => ?_)
  refine x_if_ne (tgt := 10) hC (zdk dk_X10_drifted 2 rfl) (q := 7) rfl rfl (fun _ => ?_) (fun _ => ?_)
  · refine x_aload_n (i := 0) rfl hC (zdk dk_X10_drifted 5 rfl) (q := 11) rfl ?_
    refine x_getR (k := 20) fl_RX10_9 rfl h_r0 hC (zdk dk_X10_drifted 6 rfl) (q := 14) rfl (fun q2 hq2 => ?_)
    refine x_bipush (i := 13) c_bipush_13 hC (zdk dk_X10_drifted 7 rfl) (q := 16) rfl ?_
    refine x_iload (i := 4) rfl hC (zdk dk_X10_drifted 8 rfl) (q := 18) rfl ?_
    refine x_iast hq2 hC (zdk dk_X10_drifted 9 rfl) (q := 19) rfl (fun k3 _ => ?_)
    refine x_nmM (fun M4 => ?_)
    refine x_aload_n (i := 0) rfl hC (zdk dk_X10_drifted 10 rfl) (q := 20) rfl ?_
    refine x_getR (k := 20) fl_RX10_9 rfl h_r0 hC (zdk dk_X10_drifted 11 rfl) (q := 23) rfl (fun q5 hq5 => ?_)
    refine x_bipush (i := 14) c_bipush_14 hC (zdk dk_X10_drifted 12 rfl) (q := 25) rfl ?_
    refine x_iload (i := 5) rfl hC (zdk dk_X10_drifted 13 rfl) (q := 27) rfl ?_
    refine x_iast hq5 hC (zdk dk_X10_drifted 14 rfl) (q := 28) rfl (fun k6 _ => ?_)
    refine x_nmM (fun M7 => ?_)
    refine x_aload_n (i := 0) rfl hC (zdk dk_X10_drifted 15 rfl) (q := 29) rfl ?_
    refine x_getR (k := 20) fl_RX10_9 rfl h_r0 hC (zdk dk_X10_drifted 16 rfl) (q := 32) rfl (fun q8 hq8 => ?_)
    refine x_bipush (i := 15) c_bipush_15 hC (zdk dk_X10_drifted 17 rfl) (q := 34) rfl ?_
    refine x_lload_n (i := 2) rfl hC (zdk dk_X10_drifted 18 rfl) (q := 35) rfl ?_
    refine x_iload (i := 4) rfl hC (zdk dk_X10_drifted 19 rfl) (q := 37) rfl ?_
    refine x_callSNi (as := [.long y2, .int x4]) cb_RX10_30 rfl (by decide) hk0 (fun x hx => t_X11_bitOf  x hx) hC (zdk dk_X10_drifted 20 rfl) (q := 40) rfl rfl (Nat.le_of_ble_eq_true rfl) (fun z9 => ?_)
    refine x_iast hq8 hC (zdk dk_X10_drifted 21 rfl) (q := 41) rfl (fun k10 _ => ?_)
    refine x_nmM (fun M11 => ?_)
    refine x_iload (i := 5) rfl hC (zdk dk_X10_drifted 22 rfl) (q := 43) rfl ?_
    refine x_aload_n (i := 0) rfl hC (zdk dk_X10_drifted 23 rfl) (q := 44) rfl ?_
    refine x_aload_n (i := 1) rfl hC (zdk dk_X10_drifted 24 rfl) (q := 45) rfl ?_
    refine x_aload_n (i := 1) rfl hC (zdk dk_X10_drifted 25 rfl) (q := 46) rfl ?_
    refine x_getI fl_RX10_34 (by decide) h_r1 hC (zdk dk_X10_drifted 26 rfl) (q := 49) rfl ?_
    refine x_aload_n (i := 1) rfl hC (zdk dk_X10_drifted 27 rfl) (q := 50) rfl ?_
    refine x_getI fl_RX10_37 (by decide) h_r1 hC (zdk dk_X10_drifted 28 rfl) (q := 53) rfl ?_
    refine x_callVi (as := [.ref r1, .int (zI M11 r1 4), .int (zI M11 r1 5)]) cb_RX10_40 rfl (by decide) hk0 h_r0 (fun x hx => t_X10_run h_r0 h_r1 x hx) hC (zdk dk_X10_drifted 29 rfl) (q := 56) rfl rfl (Nat.le_of_ble_eq_true rfl) (fun z12 => ?_)
    refine x_iadd hC (zdk dk_X10_drifted 30 rfl) (q := 57) rfl ?_
    refine x_istore (i := 6) (L' := [.ref r0, .ref r1, .long y2, .null, .int x4, .int x5, .int (x5 + z12.1)]) (by decide) rfl hC (zdk dk_X10_drifted 31 rfl) (q := 59) rfl ?_
    refine x_iconst (i := 0) c_iconst_0 hC (zdk dk_X10_drifted 32 rfl) (q := 60) rfl ?_
    refine x_bipush (i := 99) c_bipush_99 hC (zdk dk_X10_drifted 33 rfl) (q := 62) rfl ?_
    refine x_iload (i := 6) rfl hC (zdk dk_X10_drifted 34 rfl) (q := 64) rfl ?_
    refine x_callSi (as := [.int 99, .int (x5 + z12.1)]) cb_RX10_44 rfl (by decide) hk0 (fun x hx => t_J9_min_7cf53  x hx) hC (zdk dk_X10_drifted 35 rfl) (q := 67) rfl rfl (Nat.le_of_ble_eq_true rfl) (fun z13 => ?_)
    refine x_callSi (as := [.int 0, .int z13.1]) cb_RX10_50 rfl (by decide) hk0 (fun x hx => t_J9_max_7cf53  x hx) hC (zdk dk_X10_drifted 36 rfl) (q := 70) rfl rfl (Nat.le_of_ble_eq_true rfl) (fun z14 => ?_)
    exact x_iret (ty := .int) rfl hE hC (zdk dk_X10_drifted 37 rfl)
  · refine x_iload (i := 5) rfl hC (zdk dk_X10_drifted 3 rfl) (q := 9) rfl ?_
    exact x_iret (ty := .int) rfl hE hC (zdk dk_X10_drifted 4 rfl)
set_option maxRecDepth 100000 in
set_option maxHeartbeats 4000000 in
theorem t_X10_drifted {n : Nat} {r0 : Nat} {r1 : Nat} {y2 : Int64} {x4 : Int32} {x5 : Int32} {M : Mem} (h_r0 : zO n r0 10) (h_r1 : zO n r1 0) (x : (Int32 × Mem)) (hx : f_X10_drifted r0 r1 y2 x4 x5 M = some x) (l : Launch) (dC : Nat → ClassId) (dI : Nat → Nat → Nat) (b : zSg) : MT l dC dI b yX10_drifted cX10_drifted 7 (some .int) 4 0 0 n n [.ref r0, .ref r1, .long y2, .int x4, .int x5] M (emI x).1 (emI x).2 :=
  MT.ofX (by decide +kernel) rfl (Nat.le_of_ble_eq_true rfl) (fun κ hC hF _ => x_X10_drifted hC (zEnd_of hF (Nat.le_refl _) (Nat.le_refl _)) (zRk_of hF (Nat.le_refl _) (Nat.le_refl _)) _ _ _ _ _ _ h_r0 h_r1) x hx
set_option maxRecDepth 100000 in
def dt_X11_older : List (Nat × Instr × Nat) := [(0, .iload_n 0, 1), (1, .iload_n 1, 1), (2, .iadd, 1), (3, .bipush 99, 2), (5, .invokestatic 403, 3), (8, .ireturn, 1)]
set_option maxRecDepth 100000 in
theorem dk_X11_older : dt_X11_older.all (fun q => decide (decode cX11_older q.1 = .ok q.2)) = true := by decide +kernel
set_option maxRecDepth 100000 in
def f_X11_older (x0 : Int32) (x1 : Int32) (M : Mem) : Option (Int32 × Mem) := Option.bind (f_J9_min_7cf53 (x0 + x1) 99 M) fun z1 => some (z1.1, z1.2)
set_option maxRecDepth 100000 in
set_option maxHeartbeats 4000000 in
theorem x_X11_older {κ : KX} {n : Nat} (hC : CX κ cX11_older RX11 2 (some .int) 1) (hE : zEnd κ n (0, 0)) (hk0 : zRk κ (0, 0)) (x0 : Int32) (x1 : Int32) (M : Mem) : X κ 2 emI n (0, 0) 0 [.int x0, .int x1] [] M (f_X11_older x0 x1 M) := by
  unfold f_X11_older
  refine x_iload_n (i := 0) rfl hC (zdk dk_X11_older 0 rfl) (q := 1) rfl ?_
  refine x_iload_n (i := 1) rfl hC (zdk dk_X11_older 1 rfl) (q := 2) rfl ?_
  refine x_iadd hC (zdk dk_X11_older 2 rfl) (q := 3) rfl ?_
  refine x_bipush (i := 99) c_bipush_99 hC (zdk dk_X11_older 3 rfl) (q := 5) rfl ?_
  refine x_callSi (as := [.int (x0 + x1), .int 99]) cb_RX11_403 rfl (by decide) hk0 (fun x hx => t_J9_min_7cf53  x hx) hC (zdk dk_X11_older 4 rfl) (q := 8) rfl rfl (Nat.le_of_ble_eq_true rfl) (fun z1 => ?_)
  exact x_iret (ty := .int) rfl hE hC (zdk dk_X11_older 5 rfl)
set_option maxRecDepth 100000 in
set_option maxHeartbeats 4000000 in
theorem t_X11_older {n : Nat} {x0 : Int32} {x1 : Int32} {M : Mem}  (x : (Int32 × Mem)) (hx : f_X11_older x0 x1 M = some x) (l : Launch) (dC : Nat → ClassId) (dI : Nat → Nat → Nat) (b : zSg) : MT l dC dI b yX11_older cX11_older 2 (some .int) 1 0 0 n n [.int x0, .int x1] M (emI x).1 (emI x).2 :=
  MT.ofX (by decide +kernel) rfl (Nat.le_of_ble_eq_true rfl) (fun κ hC hF _ => x_X11_older hC (zEnd_of hF (Nat.le_refl _) (Nat.le_refl _)) (zRk_of hF (Nat.le_refl _) (Nat.le_refl _)) _ _ _ ) x hx
set_option maxRecDepth 100000 in
def dt_X10_passDay : List (Nat × Instr × Nat) := [(0, .aload_n 0, 1), (1, .aload_n 2, 1), (2, .iload_n 3, 1), (3, .aload_n 2, 1), (4, .getfield 53, 3), (7, .invokevirtual 56, 3), (10, .iconst 0, 1), (11, .istore 4, 2), (13, .iload 4, 2), (15, .aload_n 1, 1), (16, .getfield 60, 3), (19, .getfield 64, 3), (22, .if_icmp .ge 34, 3), (25, .aload_n 2, 1), (26, .getfield 69, 3), (29, .iload 4, 2), (31, .aload_n 0, 1), (32, .aload_n 1, 1), (33, .aload_n 2, 1), (34, .getfield 72, 3), (37, .iload 4, 2), (39, .aload_n 2, 1), (40, .getfield 69, 3), (43, .iload 4, 2), (45, .iaload, 1), (46, .invokevirtual 76, 3), (49, .iastore, 1), (50, .iinc 4 1, 3), (53, .goto (-40), 3), (56, .aload_n 2, 1), (57, .aload_n 2, 1), (58, .getfield 53, 3), (61, .iconst 1, 1), (62, .invokestatic 80, 3), (65, .putfield 53, 3), (68, .return_, 1)]
set_option maxRecDepth 100000 in
theorem dk_X10_passDay : dt_X10_passDay.all (fun q => decide (decode cX10_passDay q.1 = .ok q.2)) = true := by decide +kernel
set_option maxRecDepth 100000 in
def f_X10_passDay_13  (r0 : Nat) (r1 : Nat) (r2 : Nat) (x3 : Int32) : Nat → Int32 → Mem → Option Mem
  | 0, _, _ => none
  | f + 1, x4, M => Option.bind (zrf M r1 0) fun q1 => (if zI M q1 10 ≤ x4 then Option.bind (f_X11_older (zI M r2 3) 1 M) fun z2 => Option.bind (some (zsI z2.2 r2 3 z2.1)) fun M3 => some M3 else Option.bind (zrf M r2 0) fun q4 => Option.bind (zrf M r2 0) fun q5 => Option.bind (zld q5 x4) fun k6 => Option.bind (f_X10_drifted r0 r1 (zL M r2 4) x4 (zI M q5 k6) M) fun z7 => Option.bind (zld q4 x4) fun k8 => Option.bind (some (zsI z7.2 q4 k8 z7.1)) fun M9 => (f_X10_passDay_13 r0 r1 r2 x3 f) (x4 + 1) M9)
set_option maxRecDepth 100000 in
set_option maxHeartbeats 4000000 in
theorem x_X10_passDay_13 {κ : KX} {n : Nat} (hC : CX κ cX10_passDay RX10 5 none 5) (hE : zEnd κ n (0, 0)) (hk0 : zRk κ (0, 0)) {r0 : Nat} {r1 : Nat} {r2 : Nat} {x3 : Int32} (h_r0 : zO n r0 10) (h_r1 : zO n r1 0) (h_r2 : zO n r2 8) : ∀ (f : Nat) (x4 : Int32) (M : Mem), X κ 5 emV n (0, 0) 13 [.ref r0, .ref r1, .ref r2, .null, .int x4] [] M (f_X10_passDay_13 r0 r1 r2 x3 f x4 M) := by
  intro f
  induction f with
  | zero => intros; exact x_none
  | succ f ih =>
    intro x4 M 
    rw [f_X10_passDay_13]
    refine x_iload (i := 4) rfl hC (zdk dk_X10_passDay 8 rfl) (q := 15) rfl ?_
    refine x_aload_n (i := 1) rfl hC (zdk dk_X10_passDay 9 rfl) (q := 16) rfl ?_
    refine x_getR (k := 1) fl_RX10_60 rfl h_r1 hC (zdk dk_X10_passDay 10 rfl) (q := 19) rfl (fun q1 hq1 => ?_)
    refine x_getI fl_RX10_64 (by decide) hq1 hC (zdk dk_X10_passDay 11 rfl) (q := 22) rfl ?_
    refine x_icmp_ge (tgt := 56) hC (zdk dk_X10_passDay 12 rfl) (q := 25) rfl rfl (fun _ => ?_) (fun _ => ?_)
    · refine x_aload_n (i := 2) rfl hC (zdk dk_X10_passDay 29 rfl) (q := 57) rfl ?_
      refine x_aload_n (i := 2) rfl hC (zdk dk_X10_passDay 30 rfl) (q := 58) rfl ?_
      refine x_getI fl_RX10_53 (by decide) h_r2 hC (zdk dk_X10_passDay 31 rfl) (q := 61) rfl ?_
      refine x_iconst (i := 1) c_iconst_1 hC (zdk dk_X10_passDay 32 rfl) (q := 62) rfl ?_
      refine x_callSNi (as := [.int (zI M r2 3), .int 1]) cb_RX10_80 rfl (by decide) hk0 (fun x hx => t_X11_older  x hx) hC (zdk dk_X10_passDay 33 rfl) (q := 65) rfl rfl (Nat.le_of_ble_eq_true rfl) (fun z2 => ?_)
      refine x_putI fl_RX10_53 ⟨rfl, rfl⟩ (by decide) (Or.inl rfl) h_r2 hC (zdk dk_X10_passDay 34 rfl) (q := 68) rfl ?_
      refine x_nmM (fun M3 => ?_)
      exact x_vret hE hC (zdk dk_X10_passDay 35 rfl)
    · refine x_aload_n (i := 2) rfl hC (zdk dk_X10_passDay 13 rfl) (q := 26) rfl ?_
      refine x_getR (k := 20) fl_RX10_69 rfl h_r2 hC (zdk dk_X10_passDay 14 rfl) (q := 29) rfl (fun q4 hq4 => ?_)
      refine x_iload (i := 4) rfl hC (zdk dk_X10_passDay 15 rfl) (q := 31) rfl ?_
      refine x_aload_n (i := 0) rfl hC (zdk dk_X10_passDay 16 rfl) (q := 32) rfl ?_
      refine x_aload_n (i := 1) rfl hC (zdk dk_X10_passDay 17 rfl) (q := 33) rfl ?_
      refine x_aload_n (i := 2) rfl hC (zdk dk_X10_passDay 18 rfl) (q := 34) rfl ?_
      refine x_getL fl_RX10_72 h_r2 hC (zdk dk_X10_passDay 19 rfl) (q := 37) rfl ?_
      refine x_iload (i := 4) rfl hC (zdk dk_X10_passDay 20 rfl) (q := 39) rfl ?_
      refine x_aload_n (i := 2) rfl hC (zdk dk_X10_passDay 21 rfl) (q := 40) rfl ?_
      refine x_getR (k := 20) fl_RX10_69 rfl h_r2 hC (zdk dk_X10_passDay 22 rfl) (q := 43) rfl (fun q5 hq5 => ?_)
      refine x_iload (i := 4) rfl hC (zdk dk_X10_passDay 23 rfl) (q := 45) rfl ?_
      refine x_iald hq5 hC (zdk dk_X10_passDay 24 rfl) (q := 46) rfl (fun k6 _ => ?_)
      refine x_callVi (as := [.ref r1, .long (zL M r2 4), .int x4, .int (zI M q5 k6)]) cb_RX10_76 rfl (by decide) hk0 h_r0 (fun x hx => t_X10_drifted h_r0 h_r1 x hx) hC (zdk dk_X10_passDay 25 rfl) (q := 49) rfl rfl (Nat.le_of_ble_eq_true rfl) (fun z7 => ?_)
      refine x_iast hq4 hC (zdk dk_X10_passDay 26 rfl) (q := 50) rfl (fun k8 _ => ?_)
      refine x_nmM (fun M9 => ?_)
      refine x_iinc (i := 4) c_iconst_1 rfl (by decide) (L' := [.ref r0, .ref r1, .ref r2, .null, .int (x4 + 1)]) rfl hC (zdk dk_X10_passDay 27 rfl) (q := 53) rfl ?_
      refine x_goto (tgt := 13) hC (zdk dk_X10_passDay 28 rfl) rfl ?_
      refine x_weak (L' := [.ref r0, .ref r1, .ref r2, .null, .int (x4 + 1)]) ⟨Or.inr rfl, Or.inr rfl, Or.inr rfl, Or.inl rfl, Or.inr rfl, trivial⟩ ?_
      exact ih _ _
set_option maxRecDepth 100000 in
def f_X10_passDay (r0 : Nat) (r1 : Nat) (r2 : Nat) (x3 : Int32) (M : Mem) : Option Mem := Option.bind (f_X10_setDay r0 r2 x3 (zI M r2 3) M) fun M10 => f_X10_passDay_13 r0 r1 r2 x3 1000000 0 M10
set_option maxRecDepth 100000 in
set_option maxHeartbeats 4000000 in
theorem x_X10_passDay {κ : KX} {n : Nat} (hC : CX κ cX10_passDay RX10 5 none 5) (hE : zEnd κ n (0, 0)) (hk0 : zRk κ (0, 0)) (r0 : Nat) (r1 : Nat) (r2 : Nat) (x3 : Int32) (M : Mem) (h_r0 : zO n r0 10) (h_r1 : zO n r1 0) (h_r2 : zO n r2 8) : X κ 5 emV n (0, 0) 0 [.ref r0, .ref r1, .ref r2, .int x3, .null] [] M (f_X10_passDay r0 r1 r2 x3 M) := by
  unfold f_X10_passDay
  refine x_aload_n (i := 0) rfl hC (zdk dk_X10_passDay 0 rfl) (q := 1) rfl ?_
  refine x_aload_n (i := 2) rfl hC (zdk dk_X10_passDay 1 rfl) (q := 2) rfl ?_
  refine x_iload_n (i := 3) rfl hC (zdk dk_X10_passDay 2 rfl) (q := 3) rfl ?_
  refine x_aload_n (i := 2) rfl hC (zdk dk_X10_passDay 3 rfl) (q := 4) rfl ?_
  refine x_getI fl_RX10_53 (by decide) h_r2 hC (zdk dk_X10_passDay 4 rfl) (q := 7) rfl ?_
  refine x_callVv (as := [.ref r2, .int x3, .int (zI M r2 3)]) cb_RX10_56 rfl (by decide) hk0 h_r0 (fun x hx => t_X10_setDay h_r0 h_r2 x hx) hC (zdk dk_X10_passDay 5 rfl) (q := 10) rfl rfl (Nat.le_of_ble_eq_true rfl) (fun M10 => ?_)
  refine x_iconst (i := 0) c_iconst_0 hC (zdk dk_X10_passDay 6 rfl) (q := 11) rfl ?_
  refine x_istore (i := 4) (L' := [.ref r0, .ref r1, .ref r2, .int x3, .int 0]) (by decide) rfl hC (zdk dk_X10_passDay 7 rfl) (q := 13) rfl ?_
  refine x_weak (L' := [.ref r0, .ref r1, .ref r2, .null, .int 0]) ⟨Or.inr rfl, Or.inr rfl, Or.inr rfl, Or.inl rfl, Or.inr rfl, trivial⟩ ?_
  exact x_X10_passDay_13 hC hE hk0 h_r0 h_r1 h_r2 _ _ _
set_option maxRecDepth 100000 in
set_option maxHeartbeats 4000000 in
theorem t_X10_passDay {n : Nat} {r0 : Nat} {r1 : Nat} {r2 : Nat} {x3 : Int32} {M : Mem} (h_r0 : zO n r0 10) (h_r1 : zO n r1 0) (h_r2 : zO n r2 8) (x : Mem) (hx : f_X10_passDay r0 r1 r2 x3 M = some x) (l : Launch) (dC : Nat → ClassId) (dI : Nat → Nat → Nat) (b : zSg) : MT l dC dI b yX10_passDay cX10_passDay 5 none 5 0 0 n n [.ref r0, .ref r1, .ref r2, .int x3] M (emV x).1 (emV x).2 :=
  MT.ofX (by decide +kernel) rfl (Nat.le_of_ble_eq_true rfl) (fun κ hC hF _ => x_X10_passDay hC (zEnd_of hF (Nat.le_refl _) (Nat.le_refl _)) (zRk_of hF (Nat.le_refl _) (Nat.le_refl _)) _ _ _ _ _ h_r0 h_r1 h_r2) x hx
set_option maxRecDepth 100000 in
def dt_X11_putNumber : List (Nat × Instr × Nat) := [(0, .bipush 24, 2), (2, .istore_n 2, 1), (3, .iload_n 2, 1), (4, .ifCond .lt 45, 3), (7, .aload_n 0, 1), (8, .getfield 102, 3), (11, .sipush 1600, 3), (14, .if_icmp .ge 29, 3), (17, .aload_n 0, 1), (18, .getfield 9, 3), (21, .aload_n 0, 1), (22, .getfield 102, 3), (25, .iload_n 1, 1), (26, .iload_n 2, 1), (27, .ishr, 1), (28, .sipush 255, 3), (31, .iand, 1), (32, .iastore, 1), (33, .aload_n 0, 1), (34, .dup, 1), (35, .getfield 102, 3), (38, .iconst 1, 1), (39, .iadd, 1), (40, .putfield 102, 3), (43, .iinc 2 (-8), 3), (46, .goto (-43), 3), (49, .return_, 1)]
set_option maxRecDepth 100000 in
theorem dk_X11_putNumber : dt_X11_putNumber.all (fun q => decide (decode cX11_putNumber q.1 = .ok q.2)) = true := by decide +kernel
set_option maxRecDepth 100000 in
def f_X11_putNumber_43 (k3 : Int32 → Mem → Option Mem) (r0 : Nat) (x1 : Int32) (x2 : Int32) (M : Mem) : Option Mem := k3 (x2 + (-8)) M
set_option maxRecDepth 100000 in
set_option maxHeartbeats 4000000 in
theorem x_X11_putNumber_43 {κ : KX} {n : Nat} (hC : CX κ cX11_putNumber RX11 3 none 0) (hE : zEnd κ n (0, 0)) (hk0 : zRk κ (0, 0)) {r0 : Nat} {x1 : Int32} (h_r0 : zO n r0 11) (k3 : Int32 → Mem → Option Mem) (hk3 : ∀ (x2 : Int32) (M : Mem), X κ 3 emV n (0, 0) 3 [.ref r0, .int x1, .int x2] [] M (k3 x2 M)) (x2 : Int32) (M : Mem) : X κ 3 emV n (0, 0) 43 [.ref r0, .int x1, .int x2] [] M (f_X11_putNumber_43 k3 r0 x1 x2 M) := by
  unfold f_X11_putNumber_43
  refine x_iinc (i := 2) c_iconst_m8 rfl (by decide) (L' := [.ref r0, .int x1, .int (x2 + (-8))]) rfl hC (zdk dk_X11_putNumber 24 rfl) (q := 46) rfl ?_
  refine x_goto (tgt := 3) hC (zdk dk_X11_putNumber 25 rfl) rfl ?_
  refine x_weak (L' := [.ref r0, .int x1, .int (x2 + (-8))]) ⟨Or.inr rfl, Or.inr rfl, Or.inr rfl, trivial⟩ ?_
  exact hk3 _ _
set_option maxRecDepth 100000 in
def f_X11_putNumber_3  (r0 : Nat) (x1 : Int32) : Nat → Int32 → Mem → Option Mem
  | 0, _, _ => none
  | f + 1, x2, M => (if x2 < 0 then some M else (if 1600 ≤ zI M r0 15 then f_X11_putNumber_43 (f_X11_putNumber_3 r0 x1 f) r0 x1 x2 M else Option.bind (zrf M r0 0) fun q1 => Option.bind (zld q1 (zI M r0 15)) fun k2 => Option.bind (some (zsI M q1 k2 ((x1 >>> (x2 &&& 31)) &&& 255))) fun M3 => Option.bind (some (zsI M3 r0 15 ((zI M3 r0 15) + 1))) fun M4 => f_X11_putNumber_43 (f_X11_putNumber_3 r0 x1 f) r0 x1 x2 M4))
set_option maxRecDepth 100000 in
set_option maxHeartbeats 4000000 in
theorem x_X11_putNumber_3 {κ : KX} {n : Nat} (hC : CX κ cX11_putNumber RX11 3 none 0) (hE : zEnd κ n (0, 0)) (hk0 : zRk κ (0, 0)) {r0 : Nat} {x1 : Int32} (h_r0 : zO n r0 11) : ∀ (f : Nat) (x2 : Int32) (M : Mem), X κ 3 emV n (0, 0) 3 [.ref r0, .int x1, .int x2] [] M (f_X11_putNumber_3 r0 x1 f x2 M) := by
  intro f
  induction f with
  | zero => intros; exact x_none
  | succ f ih =>
    intro x2 M 
    rw [f_X11_putNumber_3]
    refine x_iload_n (i := 2) rfl hC (zdk dk_X11_putNumber 2 rfl) (q := 4) rfl ?_
    refine x_if_lt (tgt := 49) hC (zdk dk_X11_putNumber 3 rfl) (q := 7) rfl rfl (fun _ => ?_) (fun _ => ?_)
    · exact x_vret hE hC (zdk dk_X11_putNumber 26 rfl)
    · refine x_aload_n (i := 0) rfl hC (zdk dk_X11_putNumber 4 rfl) (q := 8) rfl ?_
      refine x_getI fl_RX11_102 (by decide) h_r0 hC (zdk dk_X11_putNumber 5 rfl) (q := 11) rfl ?_
      refine x_sipush (i := 1600) c_sipush_1600 hC (zdk dk_X11_putNumber 6 rfl) (q := 14) rfl ?_
      refine x_icmp_ge (tgt := 43) hC (zdk dk_X11_putNumber 7 rfl) (q := 17) rfl rfl (fun _ => ?_) (fun _ => ?_)
      · refine x_weak (L' := [.ref r0, .int x1, .int x2]) ⟨Or.inr rfl, Or.inr rfl, Or.inr rfl, trivial⟩ ?_
        exact x_X11_putNumber_43 hC hE hk0 h_r0 (f_X11_putNumber_3 r0 x1 f) ih _ _
      · refine x_aload_n (i := 0) rfl hC (zdk dk_X11_putNumber 8 rfl) (q := 18) rfl ?_
        refine x_getR (k := 20) fl_RX11_9 rfl h_r0 hC (zdk dk_X11_putNumber 9 rfl) (q := 21) rfl (fun q1 hq1 => ?_)
        refine x_aload_n (i := 0) rfl hC (zdk dk_X11_putNumber 10 rfl) (q := 22) rfl ?_
        refine x_getI fl_RX11_102 (by decide) h_r0 hC (zdk dk_X11_putNumber 11 rfl) (q := 25) rfl ?_
        refine x_iload_n (i := 1) rfl hC (zdk dk_X11_putNumber 12 rfl) (q := 26) rfl ?_
        refine x_iload_n (i := 2) rfl hC (zdk dk_X11_putNumber 13 rfl) (q := 27) rfl ?_
        refine x_ishr hC (zdk dk_X11_putNumber 14 rfl) (q := 28) rfl ?_
        refine x_sipush (i := 255) c_sipush_255 hC (zdk dk_X11_putNumber 15 rfl) (q := 31) rfl ?_
        refine x_iand hC (zdk dk_X11_putNumber 16 rfl) (q := 32) rfl ?_
        refine x_iast hq1 hC (zdk dk_X11_putNumber 17 rfl) (q := 33) rfl (fun k2 _ => ?_)
        refine x_nmM (fun M3 => ?_)
        refine x_aload_n (i := 0) rfl hC (zdk dk_X11_putNumber 18 rfl) (q := 34) rfl ?_
        refine x_dup rfl hC (zdk dk_X11_putNumber 19 rfl) (q := 35) rfl ?_
        refine x_getI fl_RX11_102 (by decide) h_r0 hC (zdk dk_X11_putNumber 20 rfl) (q := 38) rfl ?_
        refine x_iconst (i := 1) c_iconst_1 hC (zdk dk_X11_putNumber 21 rfl) (q := 39) rfl ?_
        refine x_iadd hC (zdk dk_X11_putNumber 22 rfl) (q := 40) rfl ?_
        refine x_putI fl_RX11_102 ⟨rfl, rfl⟩ (by decide) (Or.inl rfl) h_r0 hC (zdk dk_X11_putNumber 23 rfl) (q := 43) rfl ?_
        refine x_nmM (fun M4 => ?_)
        refine x_weak (L' := [.ref r0, .int x1, .int x2]) ⟨Or.inr rfl, Or.inr rfl, Or.inr rfl, trivial⟩ ?_
        exact x_X11_putNumber_43 hC hE hk0 h_r0 (f_X11_putNumber_3 r0 x1 f) ih _ _
set_option maxRecDepth 100000 in
def f_X11_putNumber (r0 : Nat) (x1 : Int32) (M : Mem) : Option Mem := f_X11_putNumber_3 r0 x1 1000000 24 M
set_option maxRecDepth 100000 in
set_option maxHeartbeats 4000000 in
theorem x_X11_putNumber {κ : KX} {n : Nat} (hC : CX κ cX11_putNumber RX11 3 none 0) (hE : zEnd κ n (0, 0)) (hk0 : zRk κ (0, 0)) (r0 : Nat) (x1 : Int32) (M : Mem) (h_r0 : zO n r0 11) : X κ 3 emV n (0, 0) 0 [.ref r0, .int x1, .null] [] M (f_X11_putNumber r0 x1 M) := by
  unfold f_X11_putNumber
  refine x_bipush (i := 24) c_bipush_24 hC (zdk dk_X11_putNumber 0 rfl) (q := 2) rfl ?_
  refine x_istore_n (i := 2) (L' := [.ref r0, .int x1, .int 24]) (by decide) rfl hC (zdk dk_X11_putNumber 1 rfl) (q := 3) rfl ?_
  refine x_weak (L' := [.ref r0, .int x1, .int 24]) ⟨Or.inr rfl, Or.inr rfl, Or.inr rfl, trivial⟩ ?_
  exact x_X11_putNumber_3 hC hE hk0 h_r0 _ _ _
set_option maxRecDepth 100000 in
set_option maxHeartbeats 4000000 in
theorem t_X11_putNumber {n : Nat} {r0 : Nat} {x1 : Int32} {M : Mem} (h_r0 : zO n r0 11) (x : Mem) (hx : f_X11_putNumber r0 x1 M = some x) (l : Launch) (dC : Nat → ClassId) (dI : Nat → Nat → Nat) (b : zSg) : MT l dC dI b yX11_putNumber cX11_putNumber 3 none 0 0 0 n n [.ref r0, .int x1] M (emV x).1 (emV x).2 :=
  MT.ofX (by decide +kernel) rfl (Nat.le_of_ble_eq_true rfl) (fun κ hC hF _ => x_X11_putNumber hC (zEnd_of hF (Nat.le_refl _) (Nat.le_refl _)) (zRk_of hF (Nat.le_refl _) (Nat.le_refl _)) _ _ _ h_r0) x hx
set_option maxRecDepth 100000 in
def dt_X11_refuse : List (Nat × Instr × Nat) := [(0, .aload_n 0, 1), (1, .getfield 13, 3), (4, .iload_n 1, 1), (5, .dup2, 1), (6, .iaload, 1), (7, .iconst 1, 1), (8, .iadd, 1), (9, .iastore, 1), (10, .iconst (-1), 1), (11, .ireturn, 1)]
set_option maxRecDepth 100000 in
theorem dk_X11_refuse : dt_X11_refuse.all (fun q => decide (decode cX11_refuse q.1 = .ok q.2)) = true := by decide +kernel
set_option maxRecDepth 100000 in
def f_X11_refuse (r0 : Nat) (x1 : Int32) (M : Mem) : Option (Int32 × Mem) := Option.bind (zrf M r0 1) fun q1 => Option.bind (zld q1 x1) fun k2 => Option.bind (zld q1 x1) fun k3 => Option.bind (some (zsI M q1 k3 ((zI M q1 k2) + 1))) fun M4 => some ((-1), M4)
set_option maxRecDepth 100000 in
set_option maxHeartbeats 4000000 in
theorem x_X11_refuse {κ : KX} {n : Nat} (hC : CX κ cX11_refuse RX11 2 (some .int) 0) (hE : zEnd κ n (0, 0)) (hk0 : zRk κ (0, 0)) (r0 : Nat) (x1 : Int32) (M : Mem) (h_r0 : zO n r0 11) : X κ 2 emI n (0, 0) 0 [.ref r0, .int x1] [] M (f_X11_refuse r0 x1 M) := by
  unfold f_X11_refuse
  refine x_aload_n (i := 0) rfl hC (zdk dk_X11_refuse 0 rfl) (q := 1) rfl ?_
  refine x_getR (k := 20) fl_RX11_13 rfl h_r0 hC (zdk dk_X11_refuse 1 rfl) (q := 4) rfl (fun q1 hq1 => ?_)
  refine x_iload_n (i := 1) rfl hC (zdk dk_X11_refuse 2 rfl) (q := 5) rfl ?_
  refine x_dup2 rfl rfl hC (zdk dk_X11_refuse 3 rfl) (q := 6) rfl ?_
  refine x_iald hq1 hC (zdk dk_X11_refuse 4 rfl) (q := 7) rfl (fun k2 _ => ?_)
  refine x_iconst (i := 1) c_iconst_1 hC (zdk dk_X11_refuse 5 rfl) (q := 8) rfl ?_
  refine x_iadd hC (zdk dk_X11_refuse 6 rfl) (q := 9) rfl ?_
  refine x_iast hq1 hC (zdk dk_X11_refuse 7 rfl) (q := 10) rfl (fun k3 _ => ?_)
  refine x_nmM (fun M4 => ?_)
  refine x_iconst (i := (-1)) c_iconst_m1 hC (zdk dk_X11_refuse 8 rfl) (q := 11) rfl ?_
  exact x_iret (ty := .int) rfl hE hC (zdk dk_X11_refuse 9 rfl)
set_option maxRecDepth 100000 in
set_option maxHeartbeats 4000000 in
theorem t_X11_refuse {n : Nat} {r0 : Nat} {x1 : Int32} {M : Mem} (h_r0 : zO n r0 11) (x : (Int32 × Mem)) (hx : f_X11_refuse r0 x1 M = some x) (l : Launch) (dC : Nat → ClassId) (dI : Nat → Nat → Nat) (b : zSg) : MT l dC dI b yX11_refuse cX11_refuse 2 (some .int) 0 0 0 n n [.ref r0, .int x1] M (emI x).1 (emI x).2 :=
  MT.ofX (by decide +kernel) rfl (Nat.le_of_ble_eq_true rfl) (fun κ hC hF _ => x_X11_refuse hC (zEnd_of hF (Nat.le_refl _) (Nat.le_refl _)) (zRk_of hF (Nat.le_refl _) (Nat.le_refl _)) _ _ _ h_r0) x hx
set_option maxRecDepth 100000 in
def dt_X11_feed : List (Nat × Instr × Nat) := [(0, .aload_n 0, 1), (1, .getfield 102, 3), (4, .sipush 1580, 3), (7, .if_icmp .le 9, 3), (10, .aload_n 0, 1), (11, .iconst 0, 1), (12, .invokevirtual 105, 3), (15, .ireturn, 1), (16, .aload_n 0, 1), (17, .iload_n 1, 1), (18, .invokevirtual 109, 3), (21, .aload_n 0, 1), (22, .iload_n 2, 1), (23, .invokevirtual 109, 3), (26, .aload_n 0, 1), (27, .iload_n 3, 1), (28, .invokevirtual 109, 3), (31, .aload_n 0, 1), (32, .iload 4, 2), (34, .invokevirtual 109, 3), (37, .aload_n 0, 1), (38, .iload 5, 2), (40, .invokevirtual 109, 3), (43, .aload_n 0, 1), (44, .getfield 102, 3), (47, .ireturn, 1)]
set_option maxRecDepth 100000 in
theorem dk_X11_feed : dt_X11_feed.all (fun q => decide (decode cX11_feed q.1 = .ok q.2)) = true := by decide +kernel
set_option maxRecDepth 100000 in
def f_X11_feed (r0 : Nat) (x1 : Int32) (x2 : Int32) (x3 : Int32) (x4 : Int32) (x5 : Int32) (M : Mem) : Option (Int32 × Mem) := (if zI M r0 15 ≤ 1580 then Option.bind (f_X11_putNumber r0 x1 M) fun M1 => Option.bind (f_X11_putNumber r0 x2 M1) fun M2 => Option.bind (f_X11_putNumber r0 x3 M2) fun M3 => Option.bind (f_X11_putNumber r0 x4 M3) fun M4 => Option.bind (f_X11_putNumber r0 x5 M4) fun M5 => some (zI M5 r0 15, M5) else Option.bind (f_X11_refuse r0 0 M) fun z6 => some (z6.1, z6.2))
set_option maxRecDepth 100000 in
set_option maxHeartbeats 4000000 in
theorem x_X11_feed {κ : KX} {n : Nat} (hC : CX κ cX11_feed RX11 6 (some .int) 1) (hE : zEnd κ n (0, 0)) (hk0 : zRk κ (0, 0)) (r0 : Nat) (x1 : Int32) (x2 : Int32) (x3 : Int32) (x4 : Int32) (x5 : Int32) (M : Mem) (h_r0 : zO n r0 11) : X κ 6 emI n (0, 0) 0 [.ref r0, .int x1, .int x2, .int x3, .int x4, .int x5] [] M (f_X11_feed r0 x1 x2 x3 x4 x5 M) := by
  unfold f_X11_feed
  refine x_aload_n (i := 0) rfl hC (zdk dk_X11_feed 0 rfl) (q := 1) rfl ?_
  refine x_getI fl_RX11_102 (by decide) h_r0 hC (zdk dk_X11_feed 1 rfl) (q := 4) rfl ?_
  refine x_sipush (i := 1580) c_sipush_1580 hC (zdk dk_X11_feed 2 rfl) (q := 7) rfl ?_
  refine x_icmp_le (tgt := 16) hC (zdk dk_X11_feed 3 rfl) (q := 10) rfl rfl (fun _ => ?_) (fun _ => ?_)
  · refine x_aload_n (i := 0) rfl hC (zdk dk_X11_feed 8 rfl) (q := 17) rfl ?_
    refine x_iload_n (i := 1) rfl hC (zdk dk_X11_feed 9 rfl) (q := 18) rfl ?_
    refine x_callVv (as := [.int x1]) cb_RX11_109 rfl (by decide) hk0 h_r0 (fun x hx => t_X11_putNumber h_r0 x hx) hC (zdk dk_X11_feed 10 rfl) (q := 21) rfl rfl (Nat.le_of_ble_eq_true rfl) (fun M1 => ?_)
    refine x_aload_n (i := 0) rfl hC (zdk dk_X11_feed 11 rfl) (q := 22) rfl ?_
    refine x_iload_n (i := 2) rfl hC (zdk dk_X11_feed 12 rfl) (q := 23) rfl ?_
    refine x_callVv (as := [.int x2]) cb_RX11_109 rfl (by decide) hk0 h_r0 (fun x hx => t_X11_putNumber h_r0 x hx) hC (zdk dk_X11_feed 13 rfl) (q := 26) rfl rfl (Nat.le_of_ble_eq_true rfl) (fun M2 => ?_)
    refine x_aload_n (i := 0) rfl hC (zdk dk_X11_feed 14 rfl) (q := 27) rfl ?_
    refine x_iload_n (i := 3) rfl hC (zdk dk_X11_feed 15 rfl) (q := 28) rfl ?_
    refine x_callVv (as := [.int x3]) cb_RX11_109 rfl (by decide) hk0 h_r0 (fun x hx => t_X11_putNumber h_r0 x hx) hC (zdk dk_X11_feed 16 rfl) (q := 31) rfl rfl (Nat.le_of_ble_eq_true rfl) (fun M3 => ?_)
    refine x_aload_n (i := 0) rfl hC (zdk dk_X11_feed 17 rfl) (q := 32) rfl ?_
    refine x_iload (i := 4) rfl hC (zdk dk_X11_feed 18 rfl) (q := 34) rfl ?_
    refine x_callVv (as := [.int x4]) cb_RX11_109 rfl (by decide) hk0 h_r0 (fun x hx => t_X11_putNumber h_r0 x hx) hC (zdk dk_X11_feed 19 rfl) (q := 37) rfl rfl (Nat.le_of_ble_eq_true rfl) (fun M4 => ?_)
    refine x_aload_n (i := 0) rfl hC (zdk dk_X11_feed 20 rfl) (q := 38) rfl ?_
    refine x_iload (i := 5) rfl hC (zdk dk_X11_feed 21 rfl) (q := 40) rfl ?_
    refine x_callVv (as := [.int x5]) cb_RX11_109 rfl (by decide) hk0 h_r0 (fun x hx => t_X11_putNumber h_r0 x hx) hC (zdk dk_X11_feed 22 rfl) (q := 43) rfl rfl (Nat.le_of_ble_eq_true rfl) (fun M5 => ?_)
    refine x_aload_n (i := 0) rfl hC (zdk dk_X11_feed 23 rfl) (q := 44) rfl ?_
    refine x_getI fl_RX11_102 (by decide) h_r0 hC (zdk dk_X11_feed 24 rfl) (q := 47) rfl ?_
    exact x_iret (ty := .int) rfl hE hC (zdk dk_X11_feed 25 rfl)
  · refine x_aload_n (i := 0) rfl hC (zdk dk_X11_feed 4 rfl) (q := 11) rfl ?_
    refine x_iconst (i := 0) c_iconst_0 hC (zdk dk_X11_feed 5 rfl) (q := 12) rfl ?_
    refine x_callVi (as := [.int 0]) cb_RX11_105 rfl (by decide) hk0 h_r0 (fun x hx => t_X11_refuse h_r0 x hx) hC (zdk dk_X11_feed 6 rfl) (q := 15) rfl rfl (Nat.le_of_ble_eq_true rfl) (fun z6 => ?_)
    exact x_iret (ty := .int) rfl hE hC (zdk dk_X11_feed 7 rfl)
set_option maxRecDepth 100000 in
set_option maxHeartbeats 4000000 in
theorem t_X11_feed {n : Nat} {r0 : Nat} {x1 : Int32} {x2 : Int32} {x3 : Int32} {x4 : Int32} {x5 : Int32} {M : Mem} (h_r0 : zO n r0 11) (x : (Int32 × Mem)) (hx : f_X11_feed r0 x1 x2 x3 x4 x5 M = some x) (l : Launch) (dC : Nat → ClassId) (dI : Nat → Nat → Nat) (b : zSg) : MT l dC dI b yX11_feed cX11_feed 6 (some .int) 1 0 0 n n [.ref r0, .int x1, .int x2, .int x3, .int x4, .int x5] M (emI x).1 (emI x).2 :=
  MT.ofX (by decide +kernel) rfl (Nat.le_of_ble_eq_true rfl) (fun κ hC hF _ => x_X11_feed hC (zEnd_of hF (Nat.le_refl _) (Nat.le_refl _)) (zRk_of hF (Nat.le_refl _) (Nat.le_refl _)) _ _ _ _ _ _ _ h_r0) x hx
set_option maxRecDepth 100000 in
def dt_X11_end : List (Nat × Instr × Nat) := [(0, .iload_n 1, 1), (1, .ifCond .lt 11, 3), (4, .iload_n 1, 1), (5, .aload_n 0, 1), (6, .getfield 102, 3), (9, .if_icmp .le 11, 3), (12, .aload_n 0, 1), (13, .iconst 0, 1), (14, .invokevirtual 105, 3), (17, .pop, 1), (18, .iconst 0, 1), (19, .ireturn, 1), (20, .aload_n 0, 1), (21, .iload_n 1, 1), (22, .putfield 102, 3), (25, .iconst 1, 1), (26, .ireturn, 1)]
set_option maxRecDepth 100000 in
theorem dk_X11_end : dt_X11_end.all (fun q => decide (decode cX11_end q.1 = .ok q.2)) = true := by decide +kernel
set_option maxRecDepth 100000 in
def f_X11_end_12  (r0 : Nat) (x1 : Int32)  (M : Mem) : Option (Int32 × Mem) := Option.bind (f_X11_refuse r0 0 M) fun z1 => some (0, z1.2)
set_option maxRecDepth 100000 in
set_option maxHeartbeats 4000000 in
theorem x_X11_end_12 {κ : KX} {n : Nat} (hC : CX κ cX11_end RX11 2 (some .boolean) 1) (hE : zEnd κ n (0, 0)) (hk0 : zRk κ (0, 0)) {r0 : Nat} {x1 : Int32} (h_r0 : zO n r0 11) (M : Mem) : X κ 2 emI n (0, 0) 12 [.ref r0, .null] [] M (f_X11_end_12 r0 x1 M) := by
  unfold f_X11_end_12
  refine x_aload_n (i := 0) rfl hC (zdk dk_X11_end 6 rfl) (q := 13) rfl ?_
  refine x_iconst (i := 0) c_iconst_0 hC (zdk dk_X11_end 7 rfl) (q := 14) rfl ?_
  refine x_callVi (as := [.int 0]) cb_RX11_105 rfl (by decide) hk0 h_r0 (fun x hx => t_X11_refuse h_r0 x hx) hC (zdk dk_X11_end 8 rfl) (q := 17) rfl rfl (Nat.le_of_ble_eq_true rfl) (fun z1 => ?_)
  refine x_pop rfl hC (zdk dk_X11_end 9 rfl) (q := 18) rfl ?_
  refine x_iconst (i := 0) c_iconst_0 hC (zdk dk_X11_end 10 rfl) (q := 19) rfl ?_
  exact x_iret (ty := .boolean) rfl hE hC (zdk dk_X11_end 11 rfl)
set_option maxRecDepth 100000 in
def f_X11_end (r0 : Nat) (x1 : Int32) (M : Mem) : Option (Int32 × Mem) := (if x1 < 0 then f_X11_end_12 r0 x1 M else (if x1 ≤ zI M r0 15 then Option.bind (some (zsI M r0 15 x1)) fun M2 => some (1, M2) else f_X11_end_12 r0 x1 M))
set_option maxRecDepth 100000 in
set_option maxHeartbeats 4000000 in
theorem x_X11_end {κ : KX} {n : Nat} (hC : CX κ cX11_end RX11 2 (some .boolean) 1) (hE : zEnd κ n (0, 0)) (hk0 : zRk κ (0, 0)) (r0 : Nat) (x1 : Int32) (M : Mem) (h_r0 : zO n r0 11) : X κ 2 emI n (0, 0) 0 [.ref r0, .int x1] [] M (f_X11_end r0 x1 M) := by
  unfold f_X11_end
  refine x_iload_n (i := 1) rfl hC (zdk dk_X11_end 0 rfl) (q := 1) rfl ?_
  refine x_if_lt (tgt := 12) hC (zdk dk_X11_end 1 rfl) (q := 4) rfl rfl (fun _ => ?_) (fun _ => ?_)
  · refine x_weak (L' := [.ref r0, .null]) ⟨Or.inr rfl, Or.inl rfl, trivial⟩ ?_
    exact x_X11_end_12 hC hE hk0 h_r0 _
  · refine x_iload_n (i := 1) rfl hC (zdk dk_X11_end 2 rfl) (q := 5) rfl ?_
    refine x_aload_n (i := 0) rfl hC (zdk dk_X11_end 3 rfl) (q := 6) rfl ?_
    refine x_getI fl_RX11_102 (by decide) h_r0 hC (zdk dk_X11_end 4 rfl) (q := 9) rfl ?_
    refine x_icmp_le (tgt := 20) hC (zdk dk_X11_end 5 rfl) (q := 12) rfl rfl (fun _ => ?_) (fun _ => ?_)
    · refine x_aload_n (i := 0) rfl hC (zdk dk_X11_end 12 rfl) (q := 21) rfl ?_
      refine x_iload_n (i := 1) rfl hC (zdk dk_X11_end 13 rfl) (q := 22) rfl ?_
      refine x_putI fl_RX11_102 ⟨rfl, rfl⟩ (by decide) (Or.inl rfl) h_r0 hC (zdk dk_X11_end 14 rfl) (q := 25) rfl ?_
      refine x_nmM (fun M2 => ?_)
      refine x_iconst (i := 1) c_iconst_1 hC (zdk dk_X11_end 15 rfl) (q := 26) rfl ?_
      exact x_iret (ty := .boolean) rfl hE hC (zdk dk_X11_end 16 rfl)
    · refine x_weak (L' := [.ref r0, .null]) ⟨Or.inr rfl, Or.inl rfl, trivial⟩ ?_
      exact x_X11_end_12 hC hE hk0 h_r0 _
set_option maxRecDepth 100000 in
set_option maxHeartbeats 4000000 in
theorem t_X11_end {n : Nat} {r0 : Nat} {x1 : Int32} {M : Mem} (h_r0 : zO n r0 11) (x : (Int32 × Mem)) (hx : f_X11_end r0 x1 M = some x) (l : Launch) (dC : Nat → ClassId) (dI : Nat → Nat → Nat) (b : zSg) : MT l dC dI b yX11_end cX11_end 2 (some .boolean) 1 0 0 n n [.ref r0, .int x1] M (emI x).1 (emI x).2 :=
  MT.ofX (by decide +kernel) rfl (Nat.le_of_ble_eq_true rfl) (fun κ hC hF _ => x_X11_end hC (zEnd_of hF (Nat.le_refl _) (Nat.le_refl _)) (zRk_of hF (Nat.le_refl _) (Nat.le_refl _)) _ _ _ h_r0) x hx
set_option maxRecDepth 100000 in
def dt_X11_takeTape : List (Nat × Instr × Nat) := [(0, .aload_n 0, 1), (1, .getfield 102, 3), (4, .istore_n 1, 1), (5, .aload_n 0, 1), (6, .iconst 0, 1), (7, .putfield 102, 3), (10, .iload_n 1, 1), (11, .ireturn, 1)]
set_option maxRecDepth 100000 in
theorem dk_X11_takeTape : dt_X11_takeTape.all (fun q => decide (decode cX11_takeTape q.1 = .ok q.2)) = true := by decide +kernel
set_option maxRecDepth 100000 in
def f_X11_takeTape (r0 : Nat) (M : Mem) : Option (Int32 × Mem) := Option.bind (some (zsI M r0 15 0)) fun M1 => some (zI M r0 15, M1)
set_option maxRecDepth 100000 in
set_option maxHeartbeats 4000000 in
theorem x_X11_takeTape {κ : KX} {n : Nat} (hC : CX κ cX11_takeTape RX11 2 (some .int) 0) (hE : zEnd κ n (0, 0)) (hk0 : zRk κ (0, 0)) (r0 : Nat) (M : Mem) (h_r0 : zO n r0 11) : X κ 2 emI n (0, 0) 0 [.ref r0, .null] [] M (f_X11_takeTape r0 M) := by
  unfold f_X11_takeTape
  refine x_aload_n (i := 0) rfl hC (zdk dk_X11_takeTape 0 rfl) (q := 1) rfl ?_
  refine x_getI fl_RX11_102 (by decide) h_r0 hC (zdk dk_X11_takeTape 1 rfl) (q := 4) rfl ?_
  refine x_istore_n (i := 1) (L' := [.ref r0, .int (zI M r0 15)]) (by decide) rfl hC (zdk dk_X11_takeTape 2 rfl) (q := 5) rfl ?_
  refine x_aload_n (i := 0) rfl hC (zdk dk_X11_takeTape 3 rfl) (q := 6) rfl ?_
  refine x_iconst (i := 0) c_iconst_0 hC (zdk dk_X11_takeTape 4 rfl) (q := 7) rfl ?_
  refine x_putI fl_RX11_102 ⟨rfl, rfl⟩ (by decide) (Or.inl rfl) h_r0 hC (zdk dk_X11_takeTape 5 rfl) (q := 10) rfl ?_
  refine x_nmM (fun M1 => ?_)
  refine x_iload_n (i := 1) rfl hC (zdk dk_X11_takeTape 6 rfl) (q := 11) rfl ?_
  exact x_iret (ty := .int) rfl hE hC (zdk dk_X11_takeTape 7 rfl)
set_option maxRecDepth 100000 in
set_option maxHeartbeats 4000000 in
theorem t_X11_takeTape {n : Nat} {r0 : Nat} {M : Mem} (h_r0 : zO n r0 11) (x : (Int32 × Mem)) (hx : f_X11_takeTape r0 M = some x) (l : Launch) (dC : Nat → ClassId) (dI : Nat → Nat → Nat) (b : zSg) : MT l dC dI b yX11_takeTape cX11_takeTape 2 (some .int) 0 0 0 n n [.ref r0] M (emI x).1 (emI x).2 :=
  MT.ofX (by decide +kernel) rfl (Nat.le_of_ble_eq_true rfl) (fun κ hC hF _ => x_X11_takeTape hC (zEnd_of hF (Nat.le_refl _) (Nat.le_refl _)) (zRk_of hF (Nat.le_refl _) (Nat.le_refl _)) _ _ h_r0) x hx
