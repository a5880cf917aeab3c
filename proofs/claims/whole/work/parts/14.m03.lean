set_option maxRecDepth 100000 in
def dt_X5_takesRow : List (Nat × Instr × Nat) := [(0, .aload_n 1, 1), (1, .iconst 1, 1), (2, .putfield 31, 3), (5, .aload_n 1, 1), (6, .aload_n 2, 1), (7, .iload_n 3, 1), (8, .iaload, 1), (9, .putfield 60, 3), (12, .aload_n 1, 1), (13, .lconst 0, 1), (14, .putfield 63, 3), (17, .iconst 1, 1), (18, .istore 5, 2), (20, .iload 5, 2), (22, .bipush 9, 2), (24, .if_icmp .ge 28, 3), (27, .aload_n 1, 1), (28, .aload_n 1, 1), (29, .getfield 63, 3), (32, .bipush 8, 2), (34, .lshl, 1), (35, .aload_n 2, 1), (36, .iload_n 3, 1), (37, .iload 5, 2), (39, .iadd, 1), (40, .iaload, 1), (41, .i2l, 1), (42, .lor, 1), (43, .putfield 63, 3), (46, .iinc 5 1, 3), (49, .goto (-29), 3), (52, .iconst 0, 1), (53, .istore 5, 2), (55, .iload 5, 2), (57, .aload 4, 2), (59, .getfield 47, 3), (62, .getfield 51, 3), (65, .if_icmp .ge 39, 3), (68, .aload_n 1, 1), (69, .getfield 67, 3), (72, .iload 5, 2), (74, .aload_n 2, 1), (75, .iload_n 3, 1), (76, .bipush 9, 2), (78, .iadd, 1), (79, .iload 5, 2), (81, .iadd, 1), (82, .iaload, 1), (83, .iastore, 1), (84, .aload_n 1, 1), (85, .getfield 67, 3), (88, .iload 5, 2), (90, .iaload, 1), (91, .bipush 99, 2), (93, .if_icmp .le 5, 3), (96, .iconst 0, 1), (97, .ireturn, 1), (98, .iinc 5 1, 3), (101, .goto (-46), 3), (104, .aload_n 1, 1), (105, .getfield 60, 3), (108, .bipush 99, 2), (110, .if_icmp .gt 22, 3), (113, .aload 4, 2), (115, .getfield 47, 3), (118, .aload_n 1, 1), (119, .getfield 63, 3), (122, .invokevirtual 71, 3), (125, .ifCond .eq 7, 3), (128, .iconst 1, 1), (129, .goto 4, 3), (132, .iconst 0, 1), (133, .ireturn, 1)]
set_option maxRecDepth 100000 in
theorem dk_X5_takesRow : dt_X5_takesRow.all (fun q => decide (decode cX5_takesRow q.1 = .ok q.2)) = true := by decide +kernel
set_option maxRecDepth 100000 in
def f_X5_takesRow_133  (r0 : Nat) (r1 : Nat) (r2 : Nat) (x3 : Int32) (r4 : Nat) (s0 : Int32) (M : Mem) : Option (Int32 × Mem) := zbz s0 (some (s0, M))
set_option maxRecDepth 100000 in
set_option maxHeartbeats 4000000 in
theorem x_X5_takesRow_133 {κ : KX} {n : Nat} (hC : CX κ cX5_takesRow RX5 6 (some .boolean) 2) (hE : zEnd κ n (0, 0)) (hk0 : zRk κ (0, 0)) {r0 : Nat} {r1 : Nat} {r2 : Nat} {x3 : Int32} {r4 : Nat} (h_r0 : zO n r0 5) (h_r1 : zO n r1 8) (h_r2 : zO n r2 20) (h_r4 : zO n r4 0) (s0 : Int32) (M : Mem) : X κ 6 emI n (0, 0) 133 [.null, .null, .null, .null, .null, .null] [.int s0] M (f_X5_takesRow_133 r0 r1 r2 x3 r4 s0 M) := by
  unfold f_X5_takesRow_133
  refine x_bz (fun hb1 => ?_)
  exact x_iret (ty := .boolean) hb1.1 hE hC (zdk dk_X5_takesRow 72 rfl)
set_option maxRecDepth 100000 in
def f_X5_takesRow_132  (r0 : Nat) (r1 : Nat) (r2 : Nat) (x3 : Int32) (r4 : Nat)  (M : Mem) : Option (Int32 × Mem) := f_X5_takesRow_133 r0 r1 r2 x3 r4 0 M
set_option maxRecDepth 100000 in
set_option maxHeartbeats 4000000 in
theorem x_X5_takesRow_132 {κ : KX} {n : Nat} (hC : CX κ cX5_takesRow RX5 6 (some .boolean) 2) (hE : zEnd κ n (0, 0)) (hk0 : zRk κ (0, 0)) {r0 : Nat} {r1 : Nat} {r2 : Nat} {x3 : Int32} {r4 : Nat} (h_r0 : zO n r0 5) (h_r1 : zO n r1 8) (h_r2 : zO n r2 20) (h_r4 : zO n r4 0) (M : Mem) : X κ 6 emI n (0, 0) 132 [.null, .null, .null, .null, .null, .null] [] M (f_X5_takesRow_132 r0 r1 r2 x3 r4 M) := by
  unfold f_X5_takesRow_132
  refine x_iconst (i := 0) c_iconst_0 hC (zdk dk_X5_takesRow 71 rfl) (q := 133) rfl ?_
  refine x_weak (L' := [.null, .null, .null, .null, .null, .null]) ⟨Or.inl rfl, Or.inl rfl, Or.inl rfl, Or.inl rfl, Or.inl rfl, Or.inl rfl, trivial⟩ ?_
  exact x_X5_takesRow_133 hC hE hk0 h_r0 h_r1 h_r2 h_r4 _ _
set_option maxRecDepth 100000 in
def f_X5_takesRow_55  (r0 : Nat) (r1 : Nat) (r2 : Nat) (x3 : Int32) (r4 : Nat) : Nat → Int32 → Mem → Option (Int32 × Mem)
  | 0, _, _ => none
  | f + 1, x5, M => Option.bind (zrf M r4 0) fun q2 => (if zI M q2 10 ≤ x5 then (if 99 < zI M r1 3 then f_X5_takesRow_132 r0 r1 r2 x3 r4 M else Option.bind (zrf M r4 0) fun q3 => Option.bind (f_X1_isCodeWord q3 (zL M r1 4) M) fun z4 => (if z4.1 = 0 then f_X5_takesRow_132 r0 r1 r2 x3 r4 z4.2 else f_X5_takesRow_133 r0 r1 r2 x3 r4 1 z4.2)) else Option.bind (zrf M r1 0) fun q5 => Option.bind (zld r2 ((x3 + 9) + x5)) fun k6 => Option.bind (zld q5 x5) fun k7 => Option.bind (some (zsI M q5 k7 (zI M r2 k6))) fun M8 => Option.bind (zrf M8 r1 0) fun q9 => Option.bind (zld q9 x5) fun k10 => (if zI M8 q9 k10 ≤ 99 then (f_X5_takesRow_55 r0 r1 r2 x3 r4 f) (x5 + 1) M8 else some (0, M8)))
set_option maxRecDepth 100000 in
set_option maxHeartbeats 4000000 in
theorem x_X5_takesRow_55 {κ : KX} {n : Nat} (hC : CX κ cX5_takesRow RX5 6 (some .boolean) 2) (hE : zEnd κ n (0, 0)) (hk0 : zRk κ (0, 0)) {r0 : Nat} {r1 : Nat} {r2 : Nat} {x3 : Int32} {r4 : Nat} (h_r0 : zO n r0 5) (h_r1 : zO n r1 8) (h_r2 : zO n r2 20) (h_r4 : zO n r4 0) : ∀ (f : Nat) (x5 : Int32) (M : Mem), X κ 6 emI n (0, 0) 55 [.null, .ref r1, .ref r2, .int x3, .ref r4, .int x5] [] M (f_X5_takesRow_55 r0 r1 r2 x3 r4 f x5 M) := by
  intro f
  induction f with
  | zero => intros; exact x_none
  | succ f ih =>
    intro x5 M 
    rw [f_X5_takesRow_55]
    refine x_iload (i := 5) rfl hC (zdk dk_X5_takesRow 33 rfl) (q := 57) rfl ?_
    refine x_aload (i := 4) rfl hC (zdk dk_X5_takesRow 34 rfl) (q := 59) rfl ?_
    refine x_getR (k := 1) fl_RX5_47 rfl h_r4 hC (zdk dk_X5_takesRow 35 rfl) (q := 62) rfl (fun q2 hq2 => ?_)
    refine x_getI fl_RX5_51 (by decide) hq2 hC (zdk dk_X5_takesRow 36 rfl) (q := 65) rfl ?_
    refine x_icmp_ge (tgt := 104) hC (zdk dk_X5_takesRow 37 rfl) (q := 68) rfl rfl (fun _ => ?_) (fun _ => ?_)
    · refine x_aload_n (i := 1) rfl hC (zdk dk_X5_takesRow 59 rfl) (q := 105) rfl ?_
      refine x_getI fl_RX5_60 (by decide) h_r1 hC (zdk dk_X5_takesRow 60 rfl) (q := 108) rfl ?_
      refine x_bipush (i := 99) c_bipush_99 hC (zdk dk_X5_takesRow 61 rfl) (q := 110) rfl ?_
      refine x_icmp_gt (tgt := 132) hC (zdk dk_X5_takesRow 62 rfl) (q := 113) rfl rfl (fun _ => ?_) (fun _ => ?_)
      · refine x_weak (L' := [.null, .null, .null, .null, .null, .null]) ⟨Or.inl rfl, Or.inl rfl, Or.inl rfl, Or.inl rfl, Or.inl rfl, Or.inl rfl, trivial⟩ ?_
        exact x_X5_takesRow_132 hC hE hk0 h_r0 h_r1 h_r2 h_r4 _
      · refine x_aload (i := 4) rfl hC (zdk dk_X5_takesRow 63 rfl) (q := 115) rfl ?_
        refine x_getR (k := 1) fl_RX5_47 rfl h_r4 hC (zdk dk_X5_takesRow 64 rfl) (q := 118) rfl (fun q3 hq3 => ?_)
        refine x_aload_n (i := 1) rfl hC (zdk dk_X5_takesRow 65 rfl) (q := 119) rfl ?_
        refine x_getL fl_RX5_63 h_r1 hC (zdk dk_X5_takesRow 66 rfl) (q := 122) rfl ?_
        refine x_callVi (as := [.long (zL M r1 4)]) cb_RX5_71 rfl (by decide) hk0 hq3 (fun x hx => t_X1_isCodeWord hq3 x hx) hC (zdk dk_X5_takesRow 67 rfl) (q := 125) rfl rfl (Nat.le_of_ble_eq_true rfl) (fun z4 => ?_)
        refine x_if_eq (tgt := 132) hC (zdk dk_X5_takesRow 68 rfl) (q := 128) rfl rfl (fun _ => ?_) (fun _ => ?_)
        · refine x_weak (L' := [.null, .null, .null, .null, .null, .null]) ⟨Or.inl rfl, Or.inl rfl, Or.inl rfl, Or.inl rfl, Or.inl rfl, Or.inl rfl, trivial⟩ ?_
          exact x_X5_takesRow_132 hC hE hk0 h_r0 h_r1 h_r2 h_r4 _
        · refine x_iconst (i := 1) c_iconst_1 hC (zdk dk_X5_takesRow 69 rfl) (q := 129) rfl ?_
          refine x_goto (tgt := 133) hC (zdk dk_X5_takesRow 70 rfl) rfl ?_
          refine x_weak (L' := [.null, .null, .null, .null, .null, .null]) ⟨Or.inl rfl, Or.inl rfl, Or.inl rfl, Or.inl rfl, Or.inl rfl, Or.inl rfl, trivial⟩ ?_
          exact x_X5_takesRow_133 hC hE hk0 h_r0 h_r1 h_r2 h_r4 _ _
    · refine x_aload_n (i := 1) rfl hC (zdk dk_X5_takesRow 38 rfl) (q := 69) rfl ?_
      refine x_getR (k := 20) fl_RX5_67 rfl h_r1 hC (zdk dk_X5_takesRow 39 rfl) (q := 72) rfl (fun q5 hq5 => ?_)
      refine x_iload (i := 5) rfl hC (zdk dk_X5_takesRow 40 rfl) (q := 74) rfl ?_
      refine x_aload_n (i := 2) rfl hC (zdk dk_X5_takesRow 41 rfl) (q := 75) rfl ?_
      refine x_iload_n (i := 3) rfl hC (zdk dk_X5_takesRow 42 rfl) (q := 76) rfl ?_
      refine x_bipush (i := 9) c_bipush_9 hC (zdk dk_X5_takesRow 43 rfl) (q := 78) rfl ?_
      refine x_iadd hC (zdk dk_X5_takesRow 44 rfl) (q := 79) rfl ?_
      refine x_iload (i := 5) rfl hC (zdk dk_X5_takesRow 45 rfl) (q := 81) rfl ?_
      refine x_iadd hC (zdk dk_X5_takesRow 46 rfl) (q := 82) rfl ?_
      refine x_iald h_r2 hC (zdk dk_X5_takesRow 47 rfl) (q := 83) rfl (fun k6 _ => ?_)
      refine x_iast hq5 hC (zdk dk_X5_takesRow 48 rfl) (q := 84) rfl (fun k7 _ => ?_)
      refine x_nmM (fun M8 => ?_)
      refine x_aload_n (i := 1) rfl hC (zdk dk_X5_takesRow 49 rfl) (q := 85) rfl ?_
      refine x_getR (k := 20) fl_RX5_67 rfl h_r1 hC (zdk dk_X5_takesRow 50 rfl) (q := 88) rfl (fun q9 hq9 => ?_)
      refine x_iload (i := 5) rfl hC (zdk dk_X5_takesRow 51 rfl) (q := 90) rfl ?_
      refine x_iald hq9 hC (zdk dk_X5_takesRow 52 rfl) (q := 91) rfl (fun k10 _ => ?_)
      refine x_bipush (i := 99) c_bipush_99 hC (zdk dk_X5_takesRow 53 rfl) (q := 93) rfl ?_
      refine x_icmp_le (tgt := 98) hC (zdk dk_X5_takesRow 54 rfl) (q := 96) rfl rfl (fun _ => ?_) (fun _ => ?_)
      · refine x_iinc (i := 5) c_iconst_1 rfl (by decide) (L' := [.null, .ref r1, .ref r2, .int x3, .ref r4, .int (x5 + 1)]) rfl hC (zdk dk_X5_takesRow 57 rfl) (q := 101) rfl ?_
        refine x_goto (tgt := 55) hC (zdk dk_X5_takesRow 58 rfl) rfl ?_
        refine x_weak (L' := [.null, .ref r1, .ref r2, .int x3, .ref r4, .int (x5 + 1)]) ⟨Or.inl rfl, Or.inr rfl, Or.inr rfl, Or.inr rfl, Or.inr rfl, Or.inr rfl, trivial⟩ ?_
        exact ih _ _
      · refine x_iconst (i := 0) c_iconst_0 hC (zdk dk_X5_takesRow 55 rfl) (q := 97) rfl ?_
        exact x_iret (ty := .boolean) rfl hE hC (zdk dk_X5_takesRow 56 rfl)
set_option maxRecDepth 100000 in
def f_X5_takesRow_20  (r0 : Nat) (r1 : Nat) (r2 : Nat) (x3 : Int32) (r4 : Nat) : Nat → Int32 → Mem → Option (Int32 × Mem)
  | 0, _, _ => none
  | f + 1, x5, M => (if 9 ≤ x5 then f_X5_takesRow_55 r0 r1 r2 x3 r4 1000000 0 M else Option.bind (zld r2 (x3 + x5)) fun k11 => Option.bind (some (zsL M r1 4 (((zL M r1 4) <<< ((8 : Int32).toInt64 &&& 63)) ||| ((zI M r2 k11).toInt64)))) fun M12 => (f_X5_takesRow_20 r0 r1 r2 x3 r4 f) (x5 + 1) M12)
set_option maxRecDepth 100000 in
set_option maxHeartbeats 4000000 in
theorem x_X5_takesRow_20 {κ : KX} {n : Nat} (hC : CX κ cX5_takesRow RX5 6 (some .boolean) 2) (hE : zEnd κ n (0, 0)) (hk0 : zRk κ (0, 0)) {r0 : Nat} {r1 : Nat} {r2 : Nat} {x3 : Int32} {r4 : Nat} (h_r0 : zO n r0 5) (h_r1 : zO n r1 8) (h_r2 : zO n r2 20) (h_r4 : zO n r4 0) : ∀ (f : Nat) (x5 : Int32) (M : Mem), X κ 6 emI n (0, 0) 20 [.null, .ref r1, .ref r2, .int x3, .ref r4, .int x5] [] M (f_X5_takesRow_20 r0 r1 r2 x3 r4 f x5 M) := by
  intro f
  induction f with
  | zero => intros; exact x_none
  | succ f ih =>
    intro x5 M 
    rw [f_X5_takesRow_20]
    refine x_iload (i := 5) rfl hC (zdk dk_X5_takesRow 13 rfl) (q := 22) rfl ?_
    refine x_bipush (i := 9) c_bipush_9 hC (zdk dk_X5_takesRow 14 rfl) (q := 24) rfl ?_
    refine x_icmp_ge (tgt := 52) hC (zdk dk_X5_takesRow 15 rfl) (q := 27) rfl rfl (fun _ => ?_) (fun _ => ?_)
    · refine x_iconst (i := 0) c_iconst_0 hC (zdk dk_X5_takesRow 31 rfl) (q := 53) rfl ?_
      refine x_istore (i := 5) (L' := [.null, .ref r1, .ref r2, .int x3, .ref r4, .int 0]) (by decide) rfl hC (zdk dk_X5_takesRow 32 rfl) (q := 55) rfl ?_
      refine x_weak (L' := [.null, .ref r1, .ref r2, .int x3, .ref r4, .int 0]) ⟨Or.inl rfl, Or.inr rfl, Or.inr rfl, Or.inr rfl, Or.inr rfl, Or.inr rfl, trivial⟩ ?_
      exact x_X5_takesRow_55 hC hE hk0 h_r0 h_r1 h_r2 h_r4 _ _ _
    · refine x_aload_n (i := 1) rfl hC (zdk dk_X5_takesRow 16 rfl) (q := 28) rfl ?_
      refine x_aload_n (i := 1) rfl hC (zdk dk_X5_takesRow 17 rfl) (q := 29) rfl ?_
      refine x_getL fl_RX5_63 h_r1 hC (zdk dk_X5_takesRow 18 rfl) (q := 32) rfl ?_
      refine x_bipush (i := 8) c_bipush_8 hC (zdk dk_X5_takesRow 19 rfl) (q := 34) rfl ?_
      refine x_lshl hC (zdk dk_X5_takesRow 20 rfl) (q := 35) rfl ?_
      refine x_aload_n (i := 2) rfl hC (zdk dk_X5_takesRow 21 rfl) (q := 36) rfl ?_
      refine x_iload_n (i := 3) rfl hC (zdk dk_X5_takesRow 22 rfl) (q := 37) rfl ?_
      refine x_iload (i := 5) rfl hC (zdk dk_X5_takesRow 23 rfl) (q := 39) rfl ?_
      refine x_iadd hC (zdk dk_X5_takesRow 24 rfl) (q := 40) rfl ?_
      refine x_iald h_r2 hC (zdk dk_X5_takesRow 25 rfl) (q := 41) rfl (fun k11 _ => ?_)
      refine x_i2l hC (zdk dk_X5_takesRow 26 rfl) (q := 42) rfl ?_
      refine x_lor hC (zdk dk_X5_takesRow 27 rfl) (q := 43) rfl ?_
      refine x_putL fl_RX5_63 ⟨rfl, rfl⟩ (Or.inl rfl) h_r1 hC (zdk dk_X5_takesRow 28 rfl) (q := 46) rfl ?_
      refine x_nmM (fun M12 => ?_)
      refine x_iinc (i := 5) c_iconst_1 rfl (by decide) (L' := [.null, .ref r1, .ref r2, .int x3, .ref r4, .int (x5 + 1)]) rfl hC (zdk dk_X5_takesRow 29 rfl) (q := 49) rfl ?_
      refine x_goto (tgt := 20) hC (zdk dk_X5_takesRow 30 rfl) rfl ?_
      refine x_weak (L' := [.null, .ref r1, .ref r2, .int x3, .ref r4, .int (x5 + 1)]) ⟨Or.inl rfl, Or.inr rfl, Or.inr rfl, Or.inr rfl, Or.inr rfl, Or.inr rfl, trivial⟩ ?_
      exact ih _ _
set_option maxRecDepth 100000 in
def f_X5_takesRow (r0 : Nat) (r1 : Nat) (r2 : Nat) (x3 : Int32) (r4 : Nat) (M : Mem) : Option (Int32 × Mem) := Option.bind (some (zsI M r1 2 1)) fun M13 => Option.bind (zld r2 x3) fun k14 => Option.bind (some (zsI M13 r1 3 (zI M13 r2 k14))) fun M15 => Option.bind (some (zsL M15 r1 4 0)) fun M16 => f_X5_takesRow_20 r0 r1 r2 x3 r4 1000000 1 M16
set_option maxRecDepth 100000 in
set_option maxHeartbeats 4000000 in
theorem x_X5_takesRow {κ : KX} {n : Nat} (hC : CX κ cX5_takesRow RX5 6 (some .boolean) 2) (hE : zEnd κ n (0, 0)) (hk0 : zRk κ (0, 0)) (r0 : Nat) (r1 : Nat) (r2 : Nat) (x3 : Int32) (r4 : Nat) (M : Mem) (h_r0 : zO n r0 5) (h_r1 : zO n r1 8) (h_r2 : zO n r2 20) (h_r4 : zO n r4 0) : X κ 6 emI n (0, 0) 0 [.ref r0, .ref r1, .ref r2, .int x3, .ref r4, .null] [] M (f_X5_takesRow r0 r1 r2 x3 r4 M) := by
  unfold f_X5_takesRow
  refine x_aload_n (i := 1) rfl hC (zdk dk_X5_takesRow 0 rfl) (q := 1) rfl ?_
  refine x_iconst (i := 1) c_iconst_1 hC (zdk dk_X5_takesRow 1 rfl) (q := 2) rfl ?_
  refine x_putI fl_RX5_31 ⟨rfl, rfl⟩ (by decide) (Or.inl rfl) h_r1 hC (zdk dk_X5_takesRow 2 rfl) (q := 5) rfl ?_
  refine x_nmM (fun M13 => ?_)
  refine x_aload_n (i := 1) rfl hC (zdk dk_X5_takesRow 3 rfl) (q := 6) rfl ?_
  refine x_aload_n (i := 2) rfl hC (zdk dk_X5_takesRow 4 rfl) (q := 7) rfl ?_
  refine x_iload_n (i := 3) rfl hC (zdk dk_X5_takesRow 5 rfl) (q := 8) rfl ?_
  refine x_iald h_r2 hC (zdk dk_X5_takesRow 6 rfl) (q := 9) rfl (fun k14 _ => ?_)
  refine x_putI fl_RX5_60 ⟨rfl, rfl⟩ (by decide) (Or.inl rfl) h_r1 hC (zdk dk_X5_takesRow 7 rfl) (q := 12) rfl ?_
  refine x_nmM (fun M15 => ?_)
  refine x_aload_n (i := 1) rfl hC (zdk dk_X5_takesRow 8 rfl) (q := 13) rfl ?_
  refine x_lconst (i := 0) c_lconst_0 hC (zdk dk_X5_takesRow 9 rfl) (q := 14) rfl ?_
  refine x_putL fl_RX5_63 ⟨rfl, rfl⟩ (Or.inl rfl) h_r1 hC (zdk dk_X5_takesRow 10 rfl) (q := 17) rfl ?_
  refine x_nmM (fun M16 => ?_)
  refine x_iconst (i := 1) c_iconst_1 hC (zdk dk_X5_takesRow 11 rfl) (q := 18) rfl ?_
  refine x_istore (i := 5) (L' := [.ref r0, .ref r1, .ref r2, .int x3, .ref r4, .int 1]) (by decide) rfl hC (zdk dk_X5_takesRow 12 rfl) (q := 20) rfl ?_
  refine x_weak (L' := [.null, .ref r1, .ref r2, .int x3, .ref r4, .int 1]) ⟨Or.inl rfl, Or.inr rfl, Or.inr rfl, Or.inr rfl, Or.inr rfl, Or.inr rfl, trivial⟩ ?_
  exact x_X5_takesRow_20 hC hE hk0 h_r0 h_r1 h_r2 h_r4 _ _ _
set_option maxRecDepth 100000 in
set_option maxHeartbeats 4000000 in
theorem t_X5_takesRow {n : Nat} {r0 : Nat} {r1 : Nat} {r2 : Nat} {x3 : Int32} {r4 : Nat} {M : Mem} (h_r0 : zO n r0 5) (h_r1 : zO n r1 8) (h_r2 : zO n r2 20) (h_r4 : zO n r4 0) (x : (Int32 × Mem)) (hx : f_X5_takesRow r0 r1 r2 x3 r4 M = some x) (l : Launch) (dC : Nat → ClassId) (dI : Nat → Nat → Nat) (b : zSg) : MT l dC dI b yX5_takesRow cX5_takesRow 6 (some .boolean) 2 0 0 n n [.ref r0, .ref r1, .ref r2, .int x3, .ref r4] M (emI x).1 (emI x).2 :=
  MT.ofX (by decide +kernel) rfl (Nat.le_of_ble_eq_true rfl) (fun κ hC hF _ => x_X5_takesRow hC (zEnd_of hF (Nat.le_refl _) (Nat.le_refl _)) (zRk_of hF (Nat.le_refl _) (Nat.le_refl _)) _ _ _ _ _ _ h_r0 h_r1 h_r2 h_r4) x hx
set_option maxRecDepth 100000 in
def dt_X5_takes : List (Nat × Instr × Nat) := [(0, .aload_n 0, 1), (1, .invokevirtual 35, 3), (4, .iload_n 2, 1), (5, .iconst 3, 1), (6, .if_icmp .lt 24, 3), (9, .iload_n 2, 1), (10, .aload_n 1, 1), (11, .arraylength, 1), (12, .if_icmp .gt 18, 3), (15, .aload_n 1, 1), (16, .iload_n 2, 1), (17, .iconst 1, 1), (18, .isub, 1), (19, .invokestatic 36, 3), (22, .aload_n 1, 1), (23, .iload_n 2, 1), (24, .iconst 1, 1), (25, .isub, 1), (26, .iaload, 1), (27, .if_icmp .eq 5, 3), (30, .iconst 0, 1), (31, .ireturn, 1), (32, .aload_n 0, 1), (33, .aload_n 1, 1), (34, .iconst 0, 1), (35, .iaload, 1), (36, .bipush 8, 2), (38, .ishl, 1), (39, .aload_n 1, 1), (40, .iconst 1, 1), (41, .iaload, 1), (42, .ior, 1), (43, .putfield 20, 3), (46, .aload_n 0, 1), (47, .getfield 20, 3), (50, .sipush 999, 3), (53, .if_icmp .le 5, 3), (56, .iconst 0, 1), (57, .ireturn, 1), (58, .iconst 2, 1), (59, .istore 4, 2), (61, .iconst 0, 1), (62, .istore 5, 2), (64, .iload 5, 2), (66, .aload_n 3, 1), (67, .getfield 42, 3), (70, .if_icmp .ge 104, 3), (73, .iload 4, 2), (75, .iload_n 2, 1), (76, .iconst 1, 1), (77, .isub, 1), (78, .if_icmp .ge 11, 3), (81, .aload_n 1, 1), (82, .iload 4, 2), (84, .iaload, 1), (85, .iconst 1, 1), (86, .if_icmp .le 5, 3), (89, .iconst 0, 1), (90, .ireturn, 1), (91, .aload_n 1, 1), (92, .iload 4, 2), (94, .iaload, 1), (95, .iconst 1, 1), (96, .if_icmp .ne 7, 3), (99, .iconst 1, 1), (100, .goto 4, 3), (103, .iconst 0, 1), (104, .istore 6, 2), (106, .iinc 4 1, 3), (109, .iload 6, 2), (111, .ifCond .eq 57, 3), (114, .iload 4, 2), (116, .bipush 9, 2), (118, .iadd, 1), (119, .aload_n 3, 1), (120, .getfield 47, 3), (123, .getfield 51, 3), (126, .iadd, 1), (127, .iload_n 2, 1), (128, .iconst 1, 1), (129, .isub, 1), (130, .if_icmp .gt 21, 3), (133, .aload_n 0, 1), (134, .aload_n 0, 1), (135, .getfield 11, 3), (138, .iload 5, 2), (140, .aaload, 1), (141, .aload_n 1, 1), (142, .iload 4, 2), (144, .aload_n 3, 1), (145, .invokevirtual 56, 3), (148, .ifCond .ne 5, 3), (151, .iconst 0, 1), (152, .ireturn, 1), (153, .iload 4, 2), (155, .bipush 9, 2), (157, .aload_n 3, 1), (158, .getfield 47, 3), (161, .getfield 51, 3), (164, .iadd, 1), (165, .iadd, 1), (166, .istore 4, 2), (168, .iinc 5 1, 3), (171, .goto (-107), 3), (174, .iload 4, 2), (176, .iload_n 2, 1), (177, .iconst 1, 1), (178, .isub, 1), (179, .if_icmp .ne 7, 3), (182, .iconst 1, 1), (183, .goto 4, 3), (186, .iconst 0, 1), (187, .ireturn, 1)]
set_option maxRecDepth 100000 in
theorem dk_X5_takes : dt_X5_takes.all (fun q => decide (decode cX5_takes q.1 = .ok q.2)) = true := by decide +kernel
set_option maxRecDepth 100000 in
def f_X5_takes_30  (r0 : Nat) (r1 : Nat) (x2 : Int32) (r3 : Nat)  (M : Mem) : Option (Int32 × Mem) := some (0, M)
set_option maxRecDepth 100000 in
set_option maxHeartbeats 4000000 in
theorem x_X5_takes_30 {κ : KX} {n : Nat} (hC : CX κ cX5_takes RX5 7 (some .boolean) 3) (hE : zEnd κ n (0, 0)) (hk0 : zRk κ (0, 0)) {r0 : Nat} {r1 : Nat} {x2 : Int32} {r3 : Nat} (h_r0 : zO n r0 5) (h_r1 : zO n r1 20) (h_r3 : zO n r3 0) (M : Mem) : X κ 7 emI n (0, 0) 30 [.null, .null, .null, .null, .null, .null, .null] [] M (f_X5_takes_30 r0 r1 x2 r3 M) := by
  unfold f_X5_takes_30
  refine x_iconst (i := 0) c_iconst_0 hC (zdk dk_X5_takes 20 rfl) (q := 31) rfl ?_
  exact x_iret (ty := .boolean) rfl hE hC (zdk dk_X5_takes 21 rfl)
set_option maxRecDepth 100000 in
def f_X5_takes_89  (r0 : Nat) (r1 : Nat) (x2 : Int32) (r3 : Nat)  (M : Mem) : Option (Int32 × Mem) := some (0, M)
set_option maxRecDepth 100000 in
set_option maxHeartbeats 4000000 in
theorem x_X5_takes_89 {κ : KX} {n : Nat} (hC : CX κ cX5_takes RX5 7 (some .boolean) 3) (hE : zEnd κ n (0, 0)) (hk0 : zRk κ (0, 0)) {r0 : Nat} {r1 : Nat} {x2 : Int32} {r3 : Nat} (h_r0 : zO n r0 5) (h_r1 : zO n r1 20) (h_r3 : zO n r3 0) (M : Mem) : X κ 7 emI n (0, 0) 89 [.null, .null, .null, .null, .null, .null, .null] [] M (f_X5_takes_89 r0 r1 x2 r3 M) := by
  unfold f_X5_takes_89
  refine x_iconst (i := 0) c_iconst_0 hC (zdk dk_X5_takes 57 rfl) (q := 90) rfl ?_
  exact x_iret (ty := .boolean) rfl hE hC (zdk dk_X5_takes 58 rfl)
set_option maxRecDepth 100000 in
def f_X5_takes_151  (r0 : Nat) (r1 : Nat) (x2 : Int32) (r3 : Nat)  (M : Mem) : Option (Int32 × Mem) := some (0, M)
set_option maxRecDepth 100000 in
set_option maxHeartbeats 4000000 in
theorem x_X5_takes_151 {κ : KX} {n : Nat} (hC : CX κ cX5_takes RX5 7 (some .boolean) 3) (hE : zEnd κ n (0, 0)) (hk0 : zRk κ (0, 0)) {r0 : Nat} {r1 : Nat} {x2 : Int32} {r3 : Nat} (h_r0 : zO n r0 5) (h_r1 : zO n r1 20) (h_r3 : zO n r3 0) (M : Mem) : X κ 7 emI n (0, 0) 151 [.null, .null, .null, .null, .null, .null, .null] [] M (f_X5_takes_151 r0 r1 x2 r3 M) := by
  unfold f_X5_takes_151
  refine x_iconst (i := 0) c_iconst_0 hC (zdk dk_X5_takes 92 rfl) (q := 152) rfl ?_
  exact x_iret (ty := .boolean) rfl hE hC (zdk dk_X5_takes 93 rfl)
set_option maxRecDepth 100000 in
def f_X5_takes_168 (k64 : Int32 → Int32 → Mem → Option (Int32 × Mem)) (r0 : Nat) (r1 : Nat) (x2 : Int32) (r3 : Nat) (x4 : Int32) (x5 : Int32) (M : Mem) : Option (Int32 × Mem) := k64 x4 (x5 + 1) M
set_option maxRecDepth 100000 in
set_option maxHeartbeats 4000000 in
theorem x_X5_takes_168 {κ : KX} {n : Nat} (hC : CX κ cX5_takes RX5 7 (some .boolean) 3) (hE : zEnd κ n (0, 0)) (hk0 : zRk κ (0, 0)) {r0 : Nat} {r1 : Nat} {x2 : Int32} {r3 : Nat} (h_r0 : zO n r0 5) (h_r1 : zO n r1 20) (h_r3 : zO n r3 0) (k64 : Int32 → Int32 → Mem → Option (Int32 × Mem)) (hk64 : ∀ (x4 : Int32) (x5 : Int32) (M : Mem), X κ 7 emI n (0, 0) 64 [.ref r0, .ref r1, .int x2, .ref r3, .int x4, .int x5, .null] [] M (k64 x4 x5 M)) (x4 : Int32) (x5 : Int32) (M : Mem) : X κ 7 emI n (0, 0) 168 [.ref r0, .ref r1, .int x2, .ref r3, .int x4, .int x5, .null] [] M (f_X5_takes_168 k64 r0 r1 x2 r3 x4 x5 M) := by
  unfold f_X5_takes_168
  refine x_iinc (i := 5) c_iconst_1 rfl (by decide) (L' := [.ref r0, .ref r1, .int x2, .ref r3, .int x4, .int (x5 + 1), .null]) rfl hC (zdk dk_X5_takes 102 rfl) (q := 171) rfl ?_
  refine x_goto (tgt := 64) hC (zdk dk_X5_takes 103 rfl) rfl ?_
  refine x_weak (L' := [.ref r0, .ref r1, .int x2, .ref r3, .int x4, .int (x5 + 1), .null]) ⟨Or.inr rfl, Or.inr rfl, Or.inr rfl, Or.inr rfl, Or.inr rfl, Or.inr rfl, Or.inl rfl, trivial⟩ ?_
  exact hk64 _ _ _
set_option maxRecDepth 100000 in
def f_X5_takes_104 (k64 : Int32 → Int32 → Mem → Option (Int32 × Mem)) (r0 : Nat) (r1 : Nat) (x2 : Int32) (r3 : Nat) (x4 : Int32) (x5 : Int32) (s0 : Int32) (M : Mem) : Option (Int32 × Mem) := (if s0 = 0 then f_X5_takes_168 k64 r0 r1 x2 r3 (x4 + 1) x5 M else Option.bind (zrf M r3 0) fun q1 => (if x2 - 1 < ((x4 + 1) + 9) + (zI M q1 10) then f_X5_takes_151 r0 r1 x2 r3 M else Option.bind (zrf M r0 0) fun q2 => Option.bind (zld q2 x5) fun k3 => Option.bind (zrf M q2 k3) fun q4 => Option.bind (f_X5_takesRow r0 q4 r1 (x4 + 1) r3 M) fun z5 => (if z5.1 = 0 then f_X5_takes_151 r0 r1 x2 r3 z5.2 else Option.bind (zrf z5.2 r3 0) fun q6 => f_X5_takes_168 k64 r0 r1 x2 r3 ((x4 + 1) + (9 + (zI z5.2 q6 10))) x5 z5.2)))
set_option maxRecDepth 100000 in
set_option maxHeartbeats 4000000 in
theorem x_X5_takes_104 {κ : KX} {n : Nat} (hC : CX κ cX5_takes RX5 7 (some .boolean) 3) (hE : zEnd κ n (0, 0)) (hk0 : zRk κ (0, 0)) {r0 : Nat} {r1 : Nat} {x2 : Int32} {r3 : Nat} (h_r0 : zO n r0 5) (h_r1 : zO n r1 20) (h_r3 : zO n r3 0) (k64 : Int32 → Int32 → Mem → Option (Int32 × Mem)) (hk64 : ∀ (x4 : Int32) (x5 : Int32) (M : Mem), X κ 7 emI n (0, 0) 64 [.ref r0, .ref r1, .int x2, .ref r3, .int x4, .int x5, .null] [] M (k64 x4 x5 M)) (x4 : Int32) (x5 : Int32) (s0 : Int32) (M : Mem) : X κ 7 emI n (0, 0) 104 [.ref r0, .ref r1, .int x2, .ref r3, .int x4, .int x5, .null] [.int s0] M (f_X5_takes_104 k64 r0 r1 x2 r3 x4 x5 s0 M) := by
  unfold f_X5_takes_104
  refine x_istore (i := 6) (L' := [.ref r0, .ref r1, .int x2, .ref r3, .int x4, .int x5, .int s0]) (by decide) rfl hC (zdk dk_X5_takes 67 rfl) (q := 106) rfl ?_
  refine x_iinc (i := 4) c_iconst_1 rfl (by decide) (L' := [.ref r0, .ref r1, .int x2, .ref r3, .int (x4 + 1), .int x5, .int s0]) rfl hC (zdk dk_X5_takes 68 rfl) (q := 109) rfl ?_
  refine x_iload (i := 6) rfl hC (zdk dk_X5_takes 69 rfl) (q := 111) rfl ?_
  refine x_if_eq (tgt := 168) hC (zdk dk_X5_takes 70 rfl) (q := 114) rfl rfl (fun _ => ?_) (fun _ => ?_)
  · refine x_weak (L' := [.ref r0, .ref r1, .int x2, .ref r3, .int (x4 + 1), .int x5, .null]) ⟨Or.inr rfl, Or.inr rfl, Or.inr rfl, Or.inr rfl, Or.inr rfl, Or.inr rfl, Or.inl rfl, trivial⟩ ?_
    exact x_X5_takes_168 hC hE hk0 h_r0 h_r1 h_r3 k64 hk64 _ _ _
  · refine x_iload (i := 4) rfl hC (zdk dk_X5_takes 71 rfl) (q := 116) rfl ?_
    refine x_bipush (i := 9) c_bipush_9 hC (zdk dk_X5_takes 72 rfl) (q := 118) rfl ?_
    refine x_iadd hC (zdk dk_X5_takes 73 rfl) (q := 119) rfl ?_
    refine x_aload_n (i := 3) rfl hC (zdk dk_X5_takes 74 rfl) (q := 120) rfl ?_
    refine x_getR (k := 1) fl_RX5_47 rfl h_r3 hC (zdk dk_X5_takes 75 rfl) (q := 123) rfl (fun q1 hq1 => ?_)
    refine x_getI fl_RX5_51 (by decide) hq1 hC (zdk dk_X5_takes 76 rfl) (q := 126) rfl ?_
    refine x_iadd hC (zdk dk_X5_takes 77 rfl) (q := 127) rfl ?_
    refine x_iload_n (i := 2) rfl hC (zdk dk_X5_takes 78 rfl) (q := 128) rfl ?_
    refine x_iconst (i := 1) c_iconst_1 hC (zdk dk_X5_takes 79 rfl) (q := 129) rfl ?_
    refine x_isub hC (zdk dk_X5_takes 80 rfl) (q := 130) rfl ?_
    refine x_icmp_gt (tgt := 151) hC (zdk dk_X5_takes 81 rfl) (q := 133) rfl rfl (fun _ => ?_) (fun _ => ?_)
    · refine x_weak (L' := [.null, .null, .null, .null, .null, .null, .null]) ⟨Or.inl rfl, Or.inl rfl, Or.inl rfl, Or.inl rfl, Or.inl rfl, Or.inl rfl, Or.inl rfl, trivial⟩ ?_
      exact x_X5_takes_151 hC hE hk0 h_r0 h_r1 h_r3 _
    · refine x_aload_n (i := 0) rfl hC (zdk dk_X5_takes 82 rfl) (q := 134) rfl ?_
      refine x_aload_n (i := 0) rfl hC (zdk dk_X5_takes 83 rfl) (q := 135) rfl ?_
      refine x_getR (k := 23) fl_RX5_11 rfl h_r0 hC (zdk dk_X5_takes 84 rfl) (q := 138) rfl (fun q2 hq2 => ?_)
      refine x_iload (i := 5) rfl hC (zdk dk_X5_takes 85 rfl) (q := 140) rfl ?_
      refine x_aald (kd := 23) (ke := 8) hq2 (by decide) rfl hC (zdk dk_X5_takes 86 rfl) (q := 141) rfl (fun k3 _ q4 hq4 => ?_)
      refine x_aload_n (i := 1) rfl hC (zdk dk_X5_takes 87 rfl) (q := 142) rfl ?_
      refine x_iload (i := 4) rfl hC (zdk dk_X5_takes 88 rfl) (q := 144) rfl ?_
      refine x_aload_n (i := 3) rfl hC (zdk dk_X5_takes 89 rfl) (q := 145) rfl ?_
      refine x_callVi (as := [.ref q4, .ref r1, .int (x4 + 1), .ref r3]) cb_RX5_56 rfl (by decide) hk0 h_r0 (fun x hx => t_X5_takesRow h_r0 hq4 h_r1 h_r3 x hx) hC (zdk dk_X5_takes 90 rfl) (q := 148) rfl rfl (Nat.le_of_ble_eq_true rfl) (fun z5 => ?_)
      refine x_if_ne (tgt := 153) hC (zdk dk_X5_takes 91 rfl) (q := 151) rfl rfl (fun _ => ?_) (fun _ => ?_)
      · refine x_iload (i := 4) rfl hC (zdk dk_X5_takes 94 rfl) (q := 155) rfl ?_
        refine x_bipush (i := 9) c_bipush_9 hC (zdk dk_X5_takes 95 rfl) (q := 157) rfl ?_
        refine x_aload_n (i := 3) rfl hC (zdk dk_X5_takes 96 rfl) (q := 158) rfl ?_
        refine x_getR (k := 1) fl_RX5_47 rfl h_r3 hC (zdk dk_X5_takes 97 rfl) (q := 161) rfl (fun q6 hq6 => ?_)
        refine x_getI fl_RX5_51 (by decide) hq6 hC (zdk dk_X5_takes 98 rfl) (q := 164) rfl ?_
        refine x_iadd hC (zdk dk_X5_takes 99 rfl) (q := 165) rfl ?_
        refine x_iadd hC (zdk dk_X5_takes 100 rfl) (q := 166) rfl ?_
        refine x_istore (i := 4) (L' := [.ref r0, .ref r1, .int x2, .ref r3, .int ((x4 + 1) + (9 + (zI z5.2 q6 10))), .int x5, .int s0]) (by decide) rfl hC (zdk dk_X5_takes 101 rfl) (q := 168) rfl ?_
        refine x_weak (L' := [.ref r0, .ref r1, .int x2, .ref r3, .int ((x4 + 1) + (9 + (zI z5.2 q6 10))), .int x5, .null]) ⟨Or.inr rfl, Or.inr rfl, Or.inr rfl, Or.inr rfl, Or.inr rfl, Or.inr rfl, Or.inl rfl, trivial⟩ ?_
        exact x_X5_takes_168 hC hE hk0 h_r0 h_r1 h_r3 k64 hk64 _ _ _
      · refine x_weak (L' := [.null, .null, .null, .null, .null, .null, .null]) ⟨Or.inl rfl, Or.inl rfl, Or.inl rfl, Or.inl rfl, Or.inl rfl, Or.inl rfl, Or.inl rfl, trivial⟩ ?_
        exact x_X5_takes_151 hC hE hk0 h_r0 h_r1 h_r3 _
set_option maxRecDepth 100000 in
def f_X5_takes_187  (r0 : Nat) (r1 : Nat) (x2 : Int32) (r3 : Nat) (s0 : Int32) (M : Mem) : Option (Int32 × Mem) := zbz s0 (some (s0, M))
set_option maxRecDepth 100000 in
set_option maxHeartbeats 4000000 in
theorem x_X5_takes_187 {κ : KX} {n : Nat} (hC : CX κ cX5_takes RX5 7 (some .boolean) 3) (hE : zEnd κ n (0, 0)) (hk0 : zRk κ (0, 0)) {r0 : Nat} {r1 : Nat} {x2 : Int32} {r3 : Nat} (h_r0 : zO n r0 5) (h_r1 : zO n r1 20) (h_r3 : zO n r3 0) (s0 : Int32) (M : Mem) : X κ 7 emI n (0, 0) 187 [.null, .null, .null, .null, .null, .null, .null] [.int s0] M (f_X5_takes_187 r0 r1 x2 r3 s0 M) := by
  unfold f_X5_takes_187
  refine x_bz (fun hb7 => ?_)
  exact x_iret (ty := .boolean) hb7.1 hE hC (zdk dk_X5_takes 112 rfl)
set_option maxRecDepth 100000 in
def f_X5_takes_64  (r0 : Nat) (r1 : Nat) (x2 : Int32) (r3 : Nat) : Nat → Int32 → Int32 → Mem → Option (Int32 × Mem)
  | 0, _, _, _ => none
  | f + 1, x4, x5, M => (if zI M r3 9 ≤ x5 then (if x4 = x2 - 1 then f_X5_takes_187 r0 r1 x2 r3 1 M else f_X5_takes_187 r0 r1 x2 r3 0 M) else (if x2 - 1 ≤ x4 then f_X5_takes_89 r0 r1 x2 r3 M else Option.bind (zld r1 x4) fun k8 => (if zI M r1 k8 ≤ 1 then Option.bind (zld r1 x4) fun k9 => (if zI M r1 k9 = 1 then f_X5_takes_104 (f_X5_takes_64 r0 r1 x2 r3 f) r0 r1 x2 r3 x4 x5 1 M else f_X5_takes_104 (f_X5_takes_64 r0 r1 x2 r3 f) r0 r1 x2 r3 x4 x5 0 M) else f_X5_takes_89 r0 r1 x2 r3 M)))
set_option maxRecDepth 100000 in
set_option maxHeartbeats 4000000 in
theorem x_X5_takes_64 {κ : KX} {n : Nat} (hC : CX κ cX5_takes RX5 7 (some .boolean) 3) (hE : zEnd κ n (0, 0)) (hk0 : zRk κ (0, 0)) {r0 : Nat} {r1 : Nat} {x2 : Int32} {r3 : Nat} (h_r0 : zO n r0 5) (h_r1 : zO n r1 20) (h_r3 : zO n r3 0) : ∀ (f : Nat) (x4 : Int32) (x5 : Int32) (M : Mem), X κ 7 emI n (0, 0) 64 [.ref r0, .ref r1, .int x2, .ref r3, .int x4, .int x5, .null] [] M (f_X5_takes_64 r0 r1 x2 r3 f x4 x5 M) := by
  intro f
  induction f with
  | zero => intros; exact x_none
  | succ f ih =>
    intro x4 x5 M 
    rw [f_X5_takes_64]
    refine x_iload (i := 5) rfl hC (zdk dk_X5_takes 43 rfl) (q := 66) rfl ?_
    refine x_aload_n (i := 3) rfl hC (zdk dk_X5_takes 44 rfl) (q := 67) rfl ?_
    refine x_getI fl_RX5_42 (by decide) h_r3 hC (zdk dk_X5_takes 45 rfl) (q := 70) rfl ?_
    refine x_icmp_ge (tgt := 174) hC (zdk dk_X5_takes 46 rfl) (q := 73) rfl rfl (fun _ => ?_) (fun _ => ?_)
    · refine x_iload (i := 4) rfl hC (zdk dk_X5_takes 104 rfl) (q := 176) rfl ?_
      refine x_iload_n (i := 2) rfl hC (zdk dk_X5_takes 105 rfl) (q := 177) rfl ?_
      refine x_iconst (i := 1) c_iconst_1 hC (zdk dk_X5_takes 106 rfl) (q := 178) rfl ?_
      refine x_isub hC (zdk dk_X5_takes 107 rfl) (q := 179) rfl ?_
      refine x_icmp_ne (tgt := 186) hC (zdk dk_X5_takes 108 rfl) (q := 182) rfl rfl (fun _ => ?_) (fun _ => ?_)
      · refine x_iconst (i := 0) c_iconst_0 hC (zdk dk_X5_takes 111 rfl) (q := 187) rfl ?_
        refine x_weak (L' := [.null, .null, .null, .null, .null, .null, .null]) ⟨Or.inl rfl, Or.inl rfl, Or.inl rfl, Or.inl rfl, Or.inl rfl, Or.inl rfl, Or.inl rfl, trivial⟩ ?_
        exact x_X5_takes_187 hC hE hk0 h_r0 h_r1 h_r3 _ _
      · refine x_iconst (i := 1) c_iconst_1 hC (zdk dk_X5_takes 109 rfl) (q := 183) rfl ?_
        refine x_goto (tgt := 187) hC (zdk dk_X5_takes 110 rfl) rfl ?_
        refine x_weak (L' := [.null, .null, .null, .null, .null, .null, .null]) ⟨Or.inl rfl, Or.inl rfl, Or.inl rfl, Or.inl rfl, Or.inl rfl, Or.inl rfl, Or.inl rfl, trivial⟩ ?_
        exact x_X5_takes_187 hC hE hk0 h_r0 h_r1 h_r3 _ _
    · refine x_iload (i := 4) rfl hC (zdk dk_X5_takes 47 rfl) (q := 75) rfl ?_
      refine x_iload_n (i := 2) rfl hC (zdk dk_X5_takes 48 rfl) (q := 76) rfl ?_
      refine x_iconst (i := 1) c_iconst_1 hC (zdk dk_X5_takes 49 rfl) (q := 77) rfl ?_
      refine x_isub hC (zdk dk_X5_takes 50 rfl) (q := 78) rfl ?_
      refine x_icmp_ge (tgt := 89) hC (zdk dk_X5_takes 51 rfl) (q := 81) rfl rfl (fun _ => ?_) (fun _ => ?_)
      · refine x_weak (L' := [.null, .null, .null, .null, .null, .null, .null]) ⟨Or.inl rfl, Or.inl rfl, Or.inl rfl, Or.inl rfl, Or.inl rfl, Or.inl rfl, Or.inl rfl, trivial⟩ ?_
        exact x_X5_takes_89 hC hE hk0 h_r0 h_r1 h_r3 _
      · refine x_aload_n (i := 1) rfl hC (zdk dk_X5_takes 52 rfl) (q := 82) rfl ?_
        refine x_iload (i := 4) rfl hC (zdk dk_X5_takes 53 rfl) (q := 84) rfl ?_
        refine x_iald h_r1 hC (zdk dk_X5_takes 54 rfl) (q := 85) rfl (fun k8 _ => ?_)
        refine x_iconst (i := 1) c_iconst_1 hC (zdk dk_X5_takes 55 rfl) (q := 86) rfl ?_
        refine x_icmp_le (tgt := 91) hC (zdk dk_X5_takes 56 rfl) (q := 89) rfl rfl (fun _ => ?_) (fun _ => ?_)
        · refine x_aload_n (i := 1) rfl hC (zdk dk_X5_takes 59 rfl) (q := 92) rfl ?_
          refine x_iload (i := 4) rfl hC (zdk dk_X5_takes 60 rfl) (q := 94) rfl ?_
          refine x_iald h_r1 hC (zdk dk_X5_takes 61 rfl) (q := 95) rfl (fun k9 _ => ?_)
          refine x_iconst (i := 1) c_iconst_1 hC (zdk dk_X5_takes 62 rfl) (q := 96) rfl ?_
          refine x_icmp_ne (tgt := 103) hC (zdk dk_X5_takes 63 rfl) (q := 99) rfl rfl (fun _ => ?_) (fun _ => ?_)
          · refine x_iconst (i := 0) c_iconst_0 hC (zdk dk_X5_takes 66 rfl) (q := 104) rfl ?_
            refine x_weak (L' := [.ref r0, .ref r1, .int x2, .ref r3, .int x4, .int x5, .null]) ⟨Or.inr rfl, Or.inr rfl, Or.inr rfl, Or.inr rfl, Or.inr rfl, Or.inr rfl, Or.inl rfl, trivial⟩ ?_
            exact x_X5_takes_104 hC hE hk0 h_r0 h_r1 h_r3 (f_X5_takes_64 r0 r1 x2 r3 f) ih _ _ _ _
          · refine x_iconst (i := 1) c_iconst_1 hC (zdk dk_X5_takes 64 rfl) (q := 100) rfl ?_
            refine x_goto (tgt := 104) hC (zdk dk_X5_takes 65 rfl) rfl ?_
            refine x_weak (L' := [.ref r0, .ref r1, .int x2, .ref r3, .int x4, .int x5, .null]) ⟨Or.inr rfl, Or.inr rfl, Or.inr rfl, Or.inr rfl, Or.inr rfl, Or.inr rfl, Or.inl rfl, trivial⟩ ?_
            exact x_X5_takes_104 hC hE hk0 h_r0 h_r1 h_r3 (f_X5_takes_64 r0 r1 x2 r3 f) ih _ _ _ _
        · refine x_weak (L' := [.null, .null, .null, .null, .null, .null, .null]) ⟨Or.inl rfl, Or.inl rfl, Or.inl rfl, Or.inl rfl, Or.inl rfl, Or.inl rfl, Or.inl rfl, trivial⟩ ?_
          exact x_X5_takes_89 hC hE hk0 h_r0 h_r1 h_r3 _
set_option maxRecDepth 100000 in
def f_X5_takes (r0 : Nat) (r1 : Nat) (x2 : Int32) (r3 : Nat) (M : Mem) : Option (Int32 × Mem) := Option.bind (f_X5_clear r0 M) fun M10 => (if x2 < 3 then f_X5_takes_30 r0 r1 x2 r3 M10 else (if zlen r1 < x2 then f_X5_takes_30 r0 r1 x2 r3 M10 else Option.bind (f_X4_sumOf r1 (x2 - 1) M10) fun z11 => Option.bind (zld r1 (x2 - 1)) fun k12 => (if z11.1 = zI z11.2 r1 k12 then Option.bind (zld r1 0) fun k13 => Option.bind (zld r1 1) fun k14 => Option.bind (some (zsI z11.2 r0 1 (((zI z11.2 r1 k13) <<< (8 &&& 31)) ||| (zI z11.2 r1 k14)))) fun M15 => (if zI M15 r0 1 ≤ 999 then f_X5_takes_64 r0 r1 x2 r3 1000000 2 0 M15 else some (0, M15)) else f_X5_takes_30 r0 r1 x2 r3 z11.2)))
set_option maxRecDepth 100000 in
set_option maxHeartbeats 4000000 in
theorem x_X5_takes {κ : KX} {n : Nat} (hC : CX κ cX5_takes RX5 7 (some .boolean) 3) (hE : zEnd κ n (0, 0)) (hk0 : zRk κ (0, 0)) (r0 : Nat) (r1 : Nat) (x2 : Int32) (r3 : Nat) (M : Mem) (h_r0 : zO n r0 5) (h_r1 : zO n r1 20) (h_r3 : zO n r3 0) : X κ 7 emI n (0, 0) 0 [.ref r0, .ref r1, .int x2, .ref r3, .null, .null, .null] [] M (f_X5_takes r0 r1 x2 r3 M) := by
  unfold f_X5_takes
  refine x_aload_n (i := 0) rfl hC (zdk dk_X5_takes 0 rfl) (q := 1) rfl ?_
  refine x_callVv (as := []) cb_RX5_35 rfl (by decide) hk0 h_r0 (fun x hx => t_X5_clear h_r0 x hx) hC (zdk dk_X5_takes 1 rfl) (q := 4) rfl rfl (Nat.le_of_ble_eq_true rfl) (fun M10 => ?_)
  refine x_iload_n (i := 2) rfl hC (zdk dk_X5_takes 2 rfl) (q := 5) rfl ?_
  refine x_iconst (i := 3) c_iconst_3 hC (zdk dk_X5_takes 3 rfl) (q := 6) rfl ?_
  refine x_icmp_lt (tgt := 30) hC (zdk dk_X5_takes 4 rfl) (q := 9) rfl rfl (fun _ => ?_) (fun _ => ?_)
  · refine x_weak (L' := [.null, .null, .null, .null, .null, .null, .null]) ⟨Or.inl rfl, Or.inl rfl, Or.inl rfl, Or.inl rfl, Or.inl rfl, Or.inl rfl, Or.inl rfl, trivial⟩ ?_
    exact x_X5_takes_30 hC hE hk0 h_r0 h_r1 h_r3 _
  · refine x_iload_n (i := 2) rfl hC (zdk dk_X5_takes 5 rfl) (q := 10) rfl ?_
    refine x_aload_n (i := 1) rfl hC (zdk dk_X5_takes 6 rfl) (q := 11) rfl ?_
    refine x_alen h_r1 (by decide) hC (zdk dk_X5_takes 7 rfl) (q := 12) rfl ?_
    refine x_icmp_gt (tgt := 30) hC (zdk dk_X5_takes 8 rfl) (q := 15) rfl rfl (fun _ => ?_) (fun _ => ?_)
    · refine x_weak (L' := [.null, .null, .null, .null, .null, .null, .null]) ⟨Or.inl rfl, Or.inl rfl, Or.inl rfl, Or.inl rfl, Or.inl rfl, Or.inl rfl, Or.inl rfl, trivial⟩ ?_
      exact x_X5_takes_30 hC hE hk0 h_r0 h_r1 h_r3 _
    · refine x_aload_n (i := 1) rfl hC (zdk dk_X5_takes 9 rfl) (q := 16) rfl ?_
      refine x_iload_n (i := 2) rfl hC (zdk dk_X5_takes 10 rfl) (q := 17) rfl ?_
      refine x_iconst (i := 1) c_iconst_1 hC (zdk dk_X5_takes 11 rfl) (q := 18) rfl ?_
      refine x_isub hC (zdk dk_X5_takes 12 rfl) (q := 19) rfl ?_
      refine x_callSi (as := [.ref r1, .int (x2 - 1)]) cb_RX5_36 rfl (by decide) hk0 (fun x hx => t_X4_sumOf h_r1 x hx) hC (zdk dk_X5_takes 13 rfl) (q := 22) rfl rfl (Nat.le_of_ble_eq_true rfl) (fun z11 => ?_)
      refine x_aload_n (i := 1) rfl hC (zdk dk_X5_takes 14 rfl) (q := 23) rfl ?_
      refine x_iload_n (i := 2) rfl hC (zdk dk_X5_takes 15 rfl) (q := 24) rfl ?_
      refine x_iconst (i := 1) c_iconst_1 hC (zdk dk_X5_takes 16 rfl) (q := 25) rfl ?_
      refine x_isub hC (zdk dk_X5_takes 17 rfl) (q := 26) rfl ?_
      refine x_iald h_r1 hC (zdk dk_X5_takes 18 rfl) (q := 27) rfl (fun k12 _ => ?_)
      refine x_icmp_eq (tgt := 32) hC (zdk dk_X5_takes 19 rfl) (q := 30) rfl rfl (fun _ => ?_) (fun _ => ?_)
      · refine x_aload_n (i := 0) rfl hC (zdk dk_X5_takes 22 rfl) (q := 33) rfl ?_
        refine x_aload_n (i := 1) rfl hC (zdk dk_X5_takes 23 rfl) (q := 34) rfl ?_
        refine x_iconst (i := 0) c_iconst_0 hC (zdk dk_X5_takes 24 rfl) (q := 35) rfl ?_
        refine x_iald h_r1 hC (zdk dk_X5_takes 25 rfl) (q := 36) rfl (fun k13 _ => ?_)
        refine x_bipush (i := 8) c_bipush_8 hC (zdk dk_X5_takes 26 rfl) (q := 38) rfl ?_
        refine x_ishl hC (zdk dk_X5_takes 27 rfl) (q := 39) rfl ?_
        refine x_aload_n (i := 1) rfl hC (zdk dk_X5_takes 28 rfl) (q := 40) rfl ?_
        refine x_iconst (i := 1) c_iconst_1 hC (zdk dk_X5_takes 29 rfl) (q := 41) rfl ?_
        refine x_iald h_r1 hC (zdk dk_X5_takes 30 rfl) (q := 42) rfl (fun k14 _ => ?_)
        refine x_ior hC (zdk dk_X5_takes 31 rfl) (q := 43) rfl ?_
        refine x_putI fl_RX5_20 ⟨rfl, rfl⟩ (by decide) (Or.inl rfl) h_r0 hC (zdk dk_X5_takes 32 rfl) (q := 46) rfl ?_
        refine x_nmM (fun M15 => ?_)
        refine x_aload_n (i := 0) rfl hC (zdk dk_X5_takes 33 rfl) (q := 47) rfl ?_
        refine x_getI fl_RX5_20 (by decide) h_r0 hC (zdk dk_X5_takes 34 rfl) (q := 50) rfl ?_
        refine x_sipush (i := 999) c_sipush_999 hC (zdk dk_X5_takes 35 rfl) (q := 53) rfl ?_
        refine x_icmp_le (tgt := 58) hC (zdk dk_X5_takes 36 rfl) (q := 56) rfl rfl (fun _ => ?_) (fun _ => ?_)
        · refine x_iconst (i := 2) c_iconst_2 hC (zdk dk_X5_takes 39 rfl) (q := 59) rfl ?_
          refine x_istore (i := 4) (L' := [.ref r0, .ref r1, .int x2, .ref r3, .int 2, .null, .null]) (by decide) rfl hC (zdk dk_X5_takes 40 rfl) (q := 61) rfl ?_
          refine x_iconst (i := 0) c_iconst_0 hC (zdk dk_X5_takes 41 rfl) (q := 62) rfl ?_
          refine x_istore (i := 5) (L' := [.ref r0, .ref r1, .int x2, .ref r3, .int 2, .int 0, .null]) (by decide) rfl hC (zdk dk_X5_takes 42 rfl) (q := 64) rfl ?_
          refine x_weak (L' := [.ref r0, .ref r1, .int x2, .ref r3, .int 2, .int 0, .null]) ⟨Or.inr rfl, Or.inr rfl, Or.inr rfl, Or.inr rfl, Or.inr rfl, Or.inr rfl, Or.inl rfl, trivial⟩ ?_
          exact x_X5_takes_64 hC hE hk0 h_r0 h_r1 h_r3 _ _ _ _
        · refine x_iconst (i := 0) c_iconst_0 hC (zdk dk_X5_takes 37 rfl) (q := 57) rfl ?_
          exact x_iret (ty := .boolean) rfl hE hC (zdk dk_X5_takes 38 rfl)
      · refine x_weak (L' := [.null, .null, .null, .null, .null, .null, .null]) ⟨Or.inl rfl, Or.inl rfl, Or.inl rfl, Or.inl rfl, Or.inl rfl, Or.inl rfl, Or.inl rfl, trivial⟩ ?_
        exact x_X5_takes_30 hC hE hk0 h_r0 h_r1 h_r3 _
set_option maxRecDepth 100000 in
set_option maxHeartbeats 4000000 in
theorem t_X5_takes {n : Nat} {r0 : Nat} {r1 : Nat} {x2 : Int32} {r3 : Nat} {M : Mem} (h_r0 : zO n r0 5) (h_r1 : zO n r1 20) (h_r3 : zO n r3 0) (x : (Int32 × Mem)) (hx : f_X5_takes r0 r1 x2 r3 M = some x) (l : Launch) (dC : Nat → ClassId) (dI : Nat → Nat → Nat) (b : zSg) : MT l dC dI b yX5_takes cX5_takes 7 (some .boolean) 3 0 0 n n [.ref r0, .ref r1, .int x2, .ref r3] M (emI x).1 (emI x).2 :=
  MT.ofX (by decide +kernel) rfl (Nat.le_of_ble_eq_true rfl) (fun κ hC hF _ => x_X5_takes hC (zEnd_of hF (Nat.le_refl _) (Nat.le_refl _)) (zRk_of hF (Nat.le_refl _) (Nat.le_refl _)) _ _ _ _ _ h_r0 h_r1 h_r3) x hx
set_option maxRecDepth 100000 in
def dt_X6_failBy : List (Nat × Instr × Nat) := [(0, .aload_n 0, 1), (1, .iload_n 1, 1), (2, .putfield 55, 3), (5, .aload_n 0, 1), (6, .iload_n 2, 1), (7, .putfield 58, 3), (10, .iconst 0, 1), (11, .ireturn, 1)]
set_option maxRecDepth 100000 in
theorem dk_X6_failBy : dt_X6_failBy.all (fun q => decide (decode cX6_failBy q.1 = .ok q.2)) = true := by decide +kernel
set_option maxRecDepth 100000 in
def f_X6_failBy (r0 : Nat) (x1 : Int32) (x2 : Int32) (M : Mem) : Option (Int32 × Mem) := Option.bind (some (zsI M r0 4 x1)) fun M1 => Option.bind (some (zsI M1 r0 5 x2)) fun M2 => some (0, M2)
set_option maxRecDepth 100000 in
set_option maxHeartbeats 4000000 in
theorem x_X6_failBy {κ : KX} {n : Nat} (hC : CX κ cX6_failBy RX6 3 (some .boolean) 0) (hE : zEnd κ n (0, 0)) (hk0 : zRk κ (0, 0)) (r0 : Nat) (x1 : Int32) (x2 : Int32) (M : Mem) (h_r0 : zO n r0 6) : X κ 3 emI n (0, 0) 0 [.ref r0, .int x1, .int x2] [] M (f_X6_failBy r0 x1 x2 M) := by
  unfold f_X6_failBy
  refine x_aload_n (i := 0) rfl hC (zdk dk_X6_failBy 0 rfl) (q := 1) rfl ?_
  refine x_iload_n (i := 1) rfl hC (zdk dk_X6_failBy 1 rfl) (q := 2) rfl ?_
  refine x_putI fl_RX6_55 ⟨rfl, rfl⟩ (by decide) (Or.inl rfl) h_r0 hC (zdk dk_X6_failBy 2 rfl) (q := 5) rfl ?_
  refine x_nmM (fun M1 => ?_)
  refine x_aload_n (i := 0) rfl hC (zdk dk_X6_failBy 3 rfl) (q := 6) rfl ?_
  refine x_iload_n (i := 2) rfl hC (zdk dk_X6_failBy 4 rfl) (q := 7) rfl ?_
  refine x_putI fl_RX6_58 ⟨rfl, rfl⟩ (by decide) (Or.inl rfl) h_r0 hC (zdk dk_X6_failBy 5 rfl) (q := 10) rfl ?_
  refine x_nmM (fun M2 => ?_)
  refine x_iconst (i := 0) c_iconst_0 hC (zdk dk_X6_failBy 6 rfl) (q := 11) rfl ?_
  exact x_iret (ty := .boolean) rfl hE hC (zdk dk_X6_failBy 7 rfl)
set_option maxRecDepth 100000 in
set_option maxHeartbeats 4000000 in
theorem t_X6_failBy {n : Nat} {r0 : Nat} {x1 : Int32} {x2 : Int32} {M : Mem} (h_r0 : zO n r0 6) (x : (Int32 × Mem)) (hx : f_X6_failBy r0 x1 x2 M = some x) (l : Launch) (dC : Nat → ClassId) (dI : Nat → Nat → Nat) (b : zSg) : MT l dC dI b yX6_failBy cX6_failBy 3 (some .boolean) 0 0 0 n n [.ref r0, .int x1, .int x2] M (emI x).1 (emI x).2 :=
  MT.ofX (by decide +kernel) rfl (Nat.le_of_ble_eq_true rfl) (fun κ hC hF _ => x_X6_failBy hC (zEnd_of hF (Nat.le_refl _) (Nat.le_refl _)) (zRk_of hF (Nat.le_refl _) (Nat.le_refl _)) _ _ _ _ h_r0) x hx
set_option maxRecDepth 100000 in
def dt_X6_isDigit : List (Nat × Instr × Nat) := [(0, .iload_n 0, 1), (1, .bipush 48, 2), (3, .if_icmp .lt 13, 3), (6, .iload_n 0, 1), (7, .bipush 57, 2), (9, .if_icmp .gt 7, 3), (12, .iconst 1, 1), (13, .goto 4, 3), (16, .iconst 0, 1), (17, .ireturn, 1)]
set_option maxRecDepth 100000 in
theorem dk_X6_isDigit : dt_X6_isDigit.all (fun q => decide (decode cX6_isDigit q.1 = .ok q.2)) = true := by decide +kernel
set_option maxRecDepth 100000 in
def f_X6_isDigit_17  (x0 : Int32) (s0 : Int32) (M : Mem) : Option (Int32 × Mem) := zbz s0 (some (s0, M))
set_option maxRecDepth 100000 in
set_option maxHeartbeats 4000000 in
theorem x_X6_isDigit_17 {κ : KX} {n : Nat} (hC : CX κ cX6_isDigit RX6 1 (some .boolean) 0) (hE : zEnd κ n (0, 0)) (hk0 : zRk κ (0, 0)) {x0 : Int32} (s0 : Int32) (M : Mem) : X κ 1 emI n (0, 0) 17 [.null] [.int s0] M (f_X6_isDigit_17 x0 s0 M) := by
  unfold f_X6_isDigit_17
  refine x_bz (fun hb1 => ?_)
  exact x_iret (ty := .boolean) hb1.1 hE hC (zdk dk_X6_isDigit 9 rfl)
set_option maxRecDepth 100000 in
def f_X6_isDigit_16  (x0 : Int32)  (M : Mem) : Option (Int32 × Mem) := f_X6_isDigit_17 x0 0 M
set_option maxRecDepth 100000 in
set_option maxHeartbeats 4000000 in
theorem x_X6_isDigit_16 {κ : KX} {n : Nat} (hC : CX κ cX6_isDigit RX6 1 (some .boolean) 0) (hE : zEnd κ n (0, 0)) (hk0 : zRk κ (0, 0)) {x0 : Int32} (M : Mem) : X κ 1 emI n (0, 0) 16 [.null] [] M (f_X6_isDigit_16 x0 M) := by
  unfold f_X6_isDigit_16
  refine x_iconst (i := 0) c_iconst_0 hC (zdk dk_X6_isDigit 8 rfl) (q := 17) rfl ?_
  refine x_weak (L' := [.null]) ⟨Or.inl rfl, trivial⟩ ?_
  exact x_X6_isDigit_17 hC hE hk0 _ _
set_option maxRecDepth 100000 in
def f_X6_isDigit (x0 : Int32) (M : Mem) : Option (Int32 × Mem) := (if x0 < 48 then f_X6_isDigit_16 x0 M else (if 57 < x0 then f_X6_isDigit_16 x0 M else f_X6_isDigit_17 x0 1 M))
set_option maxRecDepth 100000 in
set_option maxHeartbeats 4000000 in
theorem x_X6_isDigit {κ : KX} {n : Nat} (hC : CX κ cX6_isDigit RX6 1 (some .boolean) 0) (hE : zEnd κ n (0, 0)) (hk0 : zRk κ (0, 0)) (x0 : Int32) (M : Mem) : X κ 1 emI n (0, 0) 0 [.int x0] [] M (f_X6_isDigit x0 M) := by
  unfold f_X6_isDigit
  refine x_iload_n (i := 0) rfl hC (zdk dk_X6_isDigit 0 rfl) (q := 1) rfl ?_
  refine x_bipush (i := 48) c_bipush_48 hC (zdk dk_X6_isDigit 1 rfl) (q := 3) rfl ?_
  refine x_icmp_lt (tgt := 16) hC (zdk dk_X6_isDigit 2 rfl) (q := 6) rfl rfl (fun _ => ?_) (fun _ => ?_)
  · refine x_weak (L' := [.null]) ⟨Or.inl rfl, trivial⟩ ?_
    exact x_X6_isDigit_16 hC hE hk0 _
  · refine x_iload_n (i := 0) rfl hC (zdk dk_X6_isDigit 3 rfl) (q := 7) rfl ?_
    refine x_bipush (i := 57) c_bipush_57 hC (zdk dk_X6_isDigit 4 rfl) (q := 9) rfl ?_
    refine x_icmp_gt (tgt := 16) hC (zdk dk_X6_isDigit 5 rfl) (q := 12) rfl rfl (fun _ => ?_) (fun _ => ?_)
    · refine x_weak (L' := [.null]) ⟨Or.inl rfl, trivial⟩ ?_
      exact x_X6_isDigit_16 hC hE hk0 _
    · refine x_iconst (i := 1) c_iconst_1 hC (zdk dk_X6_isDigit 6 rfl) (q := 13) rfl ?_
      refine x_goto (tgt := 17) hC (zdk dk_X6_isDigit 7 rfl) rfl ?_
      refine x_weak (L' := [.null]) ⟨Or.inl rfl, trivial⟩ ?_
      exact x_X6_isDigit_17 hC hE hk0 _ _
set_option maxRecDepth 100000 in
set_option maxHeartbeats 4000000 in
theorem t_X6_isDigit {n : Nat} {x0 : Int32} {M : Mem}  (x : (Int32 × Mem)) (hx : f_X6_isDigit x0 M = some x) (l : Launch) (dC : Nat → ClassId) (dI : Nat → Nat → Nat) (b : zSg) : MT l dC dI b yX6_isDigit cX6_isDigit 1 (some .boolean) 0 0 0 n n [.int x0] M (emI x).1 (emI x).2 :=
  MT.ofX (by decide +kernel) rfl (Nat.le_of_ble_eq_true rfl) (fun κ hC hF _ => x_X6_isDigit hC (zEnd_of hF (Nat.le_refl _) (Nat.le_refl _)) (zRk_of hF (Nat.le_refl _) (Nat.le_refl _)) _ _ ) x hx
set_option maxRecDepth 100000 in
def dt_X6_isLetter : List (Nat × Instr × Nat) := [(0, .iload_n 0, 1), (1, .bipush 97, 2), (3, .if_icmp .lt 13, 3), (6, .iload_n 0, 1), (7, .bipush 122, 2), (9, .if_icmp .gt 7, 3), (12, .iconst 1, 1), (13, .goto 4, 3), (16, .iconst 0, 1), (17, .ireturn, 1)]
set_option maxRecDepth 100000 in
theorem dk_X6_isLetter : dt_X6_isLetter.all (fun q => decide (decode cX6_isLetter q.1 = .ok q.2)) = true := by decide +kernel
set_option maxRecDepth 100000 in
def f_X6_isLetter_17  (x0 : Int32) (s0 : Int32) (M : Mem) : Option (Int32 × Mem) := zbz s0 (some (s0, M))
set_option maxRecDepth 100000 in
set_option maxHeartbeats 4000000 in
theorem x_X6_isLetter_17 {κ : KX} {n : Nat} (hC : CX κ cX6_isLetter RX6 1 (some .boolean) 0) (hE : zEnd κ n (0, 0)) (hk0 : zRk κ (0, 0)) {x0 : Int32} (s0 : Int32) (M : Mem) : X κ 1 emI n (0, 0) 17 [.null] [.int s0] M (f_X6_isLetter_17 x0 s0 M) := by
  unfold f_X6_isLetter_17
  refine x_bz (fun hb1 => ?_)
  exact x_iret (ty := .boolean) hb1.1 hE hC (zdk dk_X6_isLetter 9 rfl)
set_option maxRecDepth 100000 in
def f_X6_isLetter_16  (x0 : Int32)  (M : Mem) : Option (Int32 × Mem) := f_X6_isLetter_17 x0 0 M
set_option maxRecDepth 100000 in
set_option maxHeartbeats 4000000 in
theorem x_X6_isLetter_16 {κ : KX} {n : Nat} (hC : CX κ cX6_isLetter RX6 1 (some .boolean) 0) (hE : zEnd κ n (0, 0)) (hk0 : zRk κ (0, 0)) {x0 : Int32} (M : Mem) : X κ 1 emI n (0, 0) 16 [.null] [] M (f_X6_isLetter_16 x0 M) := by
  unfold f_X6_isLetter_16
  refine x_iconst (i := 0) c_iconst_0 hC (zdk dk_X6_isLetter 8 rfl) (q := 17) rfl ?_
  refine x_weak (L' := [.null]) ⟨Or.inl rfl, trivial⟩ ?_
  exact x_X6_isLetter_17 hC hE hk0 _ _
set_option maxRecDepth 100000 in
def f_X6_isLetter (x0 : Int32) (M : Mem) : Option (Int32 × Mem) := (if x0 < 97 then f_X6_isLetter_16 x0 M else (if 122 < x0 then f_X6_isLetter_16 x0 M else f_X6_isLetter_17 x0 1 M))
set_option maxRecDepth 100000 in
set_option maxHeartbeats 4000000 in
theorem x_X6_isLetter {κ : KX} {n : Nat} (hC : CX κ cX6_isLetter RX6 1 (some .boolean) 0) (hE : zEnd κ n (0, 0)) (hk0 : zRk κ (0, 0)) (x0 : Int32) (M : Mem) : X κ 1 emI n (0, 0) 0 [.int x0] [] M (f_X6_isLetter x0 M) := by
  unfold f_X6_isLetter
  refine x_iload_n (i := 0) rfl hC (zdk dk_X6_isLetter 0 rfl) (q := 1) rfl ?_
  refine x_bipush (i := 97) c_bipush_97 hC (zdk dk_X6_isLetter 1 rfl) (q := 3) rfl ?_
  refine x_icmp_lt (tgt := 16) hC (zdk dk_X6_isLetter 2 rfl) (q := 6) rfl rfl (fun _ => ?_) (fun _ => ?_)
  · refine x_weak (L' := [.null]) ⟨Or.inl rfl, trivial⟩ ?_
    exact x_X6_isLetter_16 hC hE hk0 _
  · refine x_iload_n (i := 0) rfl hC (zdk dk_X6_isLetter 3 rfl) (q := 7) rfl ?_
    refine x_bipush (i := 122) c_bipush_122 hC (zdk dk_X6_isLetter 4 rfl) (q := 9) rfl ?_
    refine x_icmp_gt (tgt := 16) hC (zdk dk_X6_isLetter 5 rfl) (q := 12) rfl rfl (fun _ => ?_) (fun _ => ?_)
    · refine x_weak (L' := [.null]) ⟨Or.inl rfl, trivial⟩ ?_
      exact x_X6_isLetter_16 hC hE hk0 _
    · refine x_iconst (i := 1) c_iconst_1 hC (zdk dk_X6_isLetter 6 rfl) (q := 13) rfl ?_
      refine x_goto (tgt := 17) hC (zdk dk_X6_isLetter 7 rfl) rfl ?_
      refine x_weak (L' := [.null]) ⟨Or.inl rfl, trivial⟩ ?_
      exact x_X6_isLetter_17 hC hE hk0 _ _
set_option maxRecDepth 100000 in
set_option maxHeartbeats 4000000 in
theorem t_X6_isLetter {n : Nat} {x0 : Int32} {M : Mem}  (x : (Int32 × Mem)) (hx : f_X6_isLetter x0 M = some x) (l : Launch) (dC : Nat → ClassId) (dI : Nat → Nat → Nat) (b : zSg) : MT l dC dI b yX6_isLetter cX6_isLetter 1 (some .boolean) 0 0 0 n n [.int x0] M (emI x).1 (emI x).2 :=
  MT.ofX (by decide +kernel) rfl (Nat.le_of_ble_eq_true rfl) (fun κ hC hF _ => x_X6_isLetter hC (zEnd_of hF (Nat.le_refl _) (Nat.le_refl _)) (zRk_of hF (Nat.le_refl _) (Nat.le_refl _)) _ _ ) x hx
set_option maxRecDepth 100000 in
def dt_X6_lookAtNumber : List (Nat × Instr × Nat) := [(0, .iconst 0, 1), (1, .istore_n 1, 1), (2, .aload_n 0, 1), (3, .getfield 81, 3), (6, .istore_n 2, 1), (7, .iload_n 2, 1), (8, .aload_n 0, 1), (9, .getfield 46, 3), (12, .if_icmp .ge 53, 3), (15, .iload_n 1, 1), (16, .iconst 4, 1), (17, .if_icmp .gt 48, 3), (20, .aload_n 0, 1), (21, .getfield 15, 3), (24, .iload_n 2, 1), (25, .iaload, 1), (26, .bipush 48, 2), (28, .isub, 1), (29, .istore_n 3, 1), (30, .iload_n 3, 1), (31, .ifCond .lt 34, 3), (34, .iload_n 3, 1), (35, .bipush 9, 2), (37, .if_icmp .le 6, 3), (40, .goto 25, 3), (43, .aload_n 0, 1), (44, .aload_n 0, 1), (45, .getfield 97, 3), (48, .bipush 10, 2), (50, .imul, 1), (51, .iload_n 3, 1), (52, .iadd, 1), (53, .putfield 97, 3), (56, .iinc 1 1, 3), (59, .iinc 2 1, 3), (62, .goto (-55), 3), (65, .aload_n 0, 1), (66, .aload_n 0, 1), (67, .getfield 81, 3), (70, .iload_n 1, 1), (71, .iadd, 1), (72, .putfield 61, 3), (75, .aload_n 0, 1), (76, .bipush (-3), 2), (78, .putfield 78, 3), (81, .iload_n 1, 1), (82, .iconst 4, 1), (83, .if_icmp .le 19, 3), (86, .aload_n 0, 1), (87, .bipush (-4), 2), (89, .putfield 78, 3), (92, .aload_n 0, 1), (93, .aload_n 0, 1), (94, .getfield 81, 3), (97, .iconst 4, 1), (98, .iadd, 1), (99, .putfield 91, 3), (102, .return_, 1)]
set_option maxRecDepth 100000 in
theorem dk_X6_lookAtNumber : dt_X6_lookAtNumber.all (fun q => decide (decode cX6_lookAtNumber q.1 = .ok q.2)) = true := by decide +kernel
set_option maxRecDepth 100000 in
def f_X6_lookAtNumber_102  (r0 : Nat)  (M : Mem) : Option Mem := some M
set_option maxRecDepth 100000 in
set_option maxHeartbeats 4000000 in
theorem x_X6_lookAtNumber_102 {κ : KX} {n : Nat} (hC : CX κ cX6_lookAtNumber RX6 4 none 0) (hE : zEnd κ n (0, 0)) (hk0 : zRk κ (0, 0)) {r0 : Nat} (h_r0 : zO n r0 6) (M : Mem) : X κ 4 emV n (0, 0) 102 [.null, .null, .null, .null] [] M (f_X6_lookAtNumber_102 r0 M) := by
  unfold f_X6_lookAtNumber_102
  exact x_vret hE hC (zdk dk_X6_lookAtNumber 57 rfl)
set_option maxRecDepth 100000 in
def f_X6_lookAtNumber_65  (r0 : Nat) (x1 : Int32) (M : Mem) : Option Mem := Option.bind (some (zsI M r0 9 ((zI M r0 7) + x1))) fun M1 => Option.bind (some (zsI M1 r0 6 ((-3)))) fun M2 => (if x1 ≤ 4 then f_X6_lookAtNumber_102 r0 M2 else Option.bind (some (zsI M2 r0 6 ((-4)))) fun M3 => Option.bind (some (zsI M3 r0 8 ((zI M3 r0 7) + 4))) fun M4 => f_X6_lookAtNumber_102 r0 M4)
set_option maxRecDepth 100000 in
set_option maxHeartbeats 4000000 in
theorem x_X6_lookAtNumber_65 {κ : KX} {n : Nat} (hC : CX κ cX6_lookAtNumber RX6 4 none 0) (hE : zEnd κ n (0, 0)) (hk0 : zRk κ (0, 0)) {r0 : Nat} (h_r0 : zO n r0 6) (x1 : Int32) (M : Mem) : X κ 4 emV n (0, 0) 65 [.ref r0, .int x1, .null, .null] [] M (f_X6_lookAtNumber_65 r0 x1 M) := by
  unfold f_X6_lookAtNumber_65
  refine x_aload_n (i := 0) rfl hC (zdk dk_X6_lookAtNumber 36 rfl) (q := 66) rfl ?_
  refine x_aload_n (i := 0) rfl hC (zdk dk_X6_lookAtNumber 37 rfl) (q := 67) rfl ?_
  refine x_getI fl_RX6_81 (by decide) h_r0 hC (zdk dk_X6_lookAtNumber 38 rfl) (q := 70) rfl ?_
  refine x_iload_n (i := 1) rfl hC (zdk dk_X6_lookAtNumber 39 rfl) (q := 71) rfl ?_
  refine x_iadd hC (zdk dk_X6_lookAtNumber 40 rfl) (q := 72) rfl ?_
  refine x_putI fl_RX6_61 ⟨rfl, rfl⟩ (by decide) (Or.inl rfl) h_r0 hC (zdk dk_X6_lookAtNumber 41 rfl) (q := 75) rfl ?_
  refine x_nmM (fun M1 => ?_)
  refine x_aload_n (i := 0) rfl hC (zdk dk_X6_lookAtNumber 42 rfl) (q := 76) rfl ?_
  refine x_bipush (i := (-3)) c_bipush_m3 hC (zdk dk_X6_lookAtNumber 43 rfl) (q := 78) rfl ?_
  refine x_putI fl_RX6_78 ⟨rfl, rfl⟩ (by decide) (Or.inl rfl) h_r0 hC (zdk dk_X6_lookAtNumber 44 rfl) (q := 81) rfl ?_
  refine x_nmM (fun M2 => ?_)
  refine x_iload_n (i := 1) rfl hC (zdk dk_X6_lookAtNumber 45 rfl) (q := 82) rfl ?_
  refine x_iconst (i := 4) c_iconst_4 hC (zdk dk_X6_lookAtNumber 46 rfl) (q := 83) rfl ?_
  refine x_icmp_le (tgt := 102) hC (zdk dk_X6_lookAtNumber 47 rfl) (q := 86) rfl rfl (fun _ => ?_) (fun _ => ?_)
  · refine x_weak (L' := [.null, .null, .null, .null]) ⟨Or.inl rfl, Or.inl rfl, Or.inl rfl, Or.inl rfl, trivial⟩ ?_
    exact x_X6_lookAtNumber_102 hC hE hk0 h_r0 _
  · refine x_aload_n (i := 0) rfl hC (zdk dk_X6_lookAtNumber 48 rfl) (q := 87) rfl ?_
    refine x_bipush (i := (-4)) c_bipush_m4 hC (zdk dk_X6_lookAtNumber 49 rfl) (q := 89) rfl ?_
    refine x_putI fl_RX6_78 ⟨rfl, rfl⟩ (by decide) (Or.inl rfl) h_r0 hC (zdk dk_X6_lookAtNumber 50 rfl) (q := 92) rfl ?_
    refine x_nmM (fun M3 => ?_)
    refine x_aload_n (i := 0) rfl hC (zdk dk_X6_lookAtNumber 51 rfl) (q := 93) rfl ?_
    refine x_aload_n (i := 0) rfl hC (zdk dk_X6_lookAtNumber 52 rfl) (q := 94) rfl ?_
    refine x_getI fl_RX6_81 (by decide) h_r0 hC (zdk dk_X6_lookAtNumber 53 rfl) (q := 97) rfl ?_
    refine x_iconst (i := 4) c_iconst_4 hC (zdk dk_X6_lookAtNumber 54 rfl) (q := 98) rfl ?_
    refine x_iadd hC (zdk dk_X6_lookAtNumber 55 rfl) (q := 99) rfl ?_
    refine x_putI fl_RX6_91 ⟨rfl, rfl⟩ (by decide) (Or.inl rfl) h_r0 hC (zdk dk_X6_lookAtNumber 56 rfl) (q := 102) rfl ?_
    refine x_nmM (fun M4 => ?_)
    refine x_weak (L' := [.null, .null, .null, .null]) ⟨Or.inl rfl, Or.inl rfl, Or.inl rfl, Or.inl rfl, trivial⟩ ?_
    exact x_X6_lookAtNumber_102 hC hE hk0 h_r0 _
set_option maxRecDepth 100000 in
def f_X6_lookAtNumber_7  (r0 : Nat) : Nat → Int32 → Int32 → Mem → Option Mem
  | 0, _, _, _ => none
  | f + 1, x1, x2, M => (if zI M r0 3 ≤ x2 then f_X6_lookAtNumber_65 r0 x1 M else (if 4 < x1 then f_X6_lookAtNumber_65 r0 x1 M else Option.bind (zrf M r0 1) fun q5 => Option.bind (zld q5 x2) fun k6 => (if (zI M q5 k6) - 48 < 0 then f_X6_lookAtNumber_65 r0 x1 M else (if (zI M q5 k6) - 48 ≤ 9 then Option.bind (some (zsI M r0 10 (((zI M r0 10) * 10) + ((zI M q5 k6) - 48)))) fun M7 => (f_X6_lookAtNumber_7 r0 f) (x1 + 1) (x2 + 1) M7 else f_X6_lookAtNumber_65 r0 x1 M))))
set_option maxRecDepth 100000 in
set_option maxHeartbeats 4000000 in
theorem x_X6_lookAtNumber_7 {κ : KX} {n : Nat} (hC : CX κ cX6_lookAtNumber RX6 4 none 0) (hE : zEnd κ n (0, 0)) (hk0 : zRk κ (0, 0)) {r0 : Nat} (h_r0 : zO n r0 6) : ∀ (f : Nat) (x1 : Int32) (x2 : Int32) (M : Mem), X κ 4 emV n (0, 0) 7 [.ref r0, .int x1, .int x2, .null] [] M (f_X6_lookAtNumber_7 r0 f x1 x2 M) := by
  intro f
  induction f with
  | zero => intros; exact x_none
  | succ f ih =>
    intro x1 x2 M 
    rw [f_X6_lookAtNumber_7]
    refine x_iload_n (i := 2) rfl hC (zdk dk_X6_lookAtNumber 5 rfl) (q := 8) rfl ?_
    refine x_aload_n (i := 0) rfl hC (zdk dk_X6_lookAtNumber 6 rfl) (q := 9) rfl ?_
    refine x_getI fl_RX6_46 (by decide) h_r0 hC (zdk dk_X6_lookAtNumber 7 rfl) (q := 12) rfl ?_
    refine x_icmp_ge (tgt := 65) hC (zdk dk_X6_lookAtNumber 8 rfl) (q := 15) rfl rfl (fun _ => ?_) (fun _ => ?_)
    · refine x_weak (L' := [.ref r0, .int x1, .null, .null]) ⟨Or.inr rfl, Or.inr rfl, Or.inl rfl, Or.inl rfl, trivial⟩ ?_
      exact x_X6_lookAtNumber_65 hC hE hk0 h_r0 _ _
    · refine x_iload_n (i := 1) rfl hC (zdk dk_X6_lookAtNumber 9 rfl) (q := 16) rfl ?_
      refine x_iconst (i := 4) c_iconst_4 hC (zdk dk_X6_lookAtNumber 10 rfl) (q := 17) rfl ?_
      refine x_icmp_gt (tgt := 65) hC (zdk dk_X6_lookAtNumber 11 rfl) (q := 20) rfl rfl (fun _ => ?_) (fun _ => ?_)
      · refine x_weak (L' := [.ref r0, .int x1, .null, .null]) ⟨Or.inr rfl, Or.inr rfl, Or.inl rfl, Or.inl rfl, trivial⟩ ?_
        exact x_X6_lookAtNumber_65 hC hE hk0 h_r0 _ _
      · refine x_aload_n (i := 0) rfl hC (zdk dk_X6_lookAtNumber 12 rfl) (q := 21) rfl ?_
        refine x_getR (k := 20) fl_RX6_15 rfl h_r0 hC (zdk dk_X6_lookAtNumber 13 rfl) (q := 24) rfl (fun q5 hq5 => ?_)
        refine x_iload_n (i := 2) rfl hC (zdk dk_X6_lookAtNumber 14 rfl) (q := 25) rfl ?_
        refine x_iald hq5 hC (zdk dk_X6_lookAtNumber 15 rfl) (q := 26) rfl (fun k6 _ => ?_)
        refine x_bipush (i := 48) c_bipush_48 hC (zdk dk_X6_lookAtNumber 16 rfl) (q := 28) rfl ?_
        refine x_isub hC (zdk dk_X6_lookAtNumber 17 rfl) (q := 29) rfl ?_
        refine x_istore_n (i := 3) (L' := [.ref r0, .int x1, .int x2, .int ((zI M q5 k6) - 48)]) (by decide) rfl hC (zdk dk_X6_lookAtNumber 18 rfl) (q := 30) rfl ?_
        refine x_iload_n (i := 3) rfl hC (zdk dk_X6_lookAtNumber 19 rfl) (q := 31) rfl ?_
        refine x_if_lt (tgt := 65) hC (zdk dk_X6_lookAtNumber 20 rfl) (q := 34) rfl rfl (fun _ => ?_) (fun _ => ?_)
        · refine x_weak (L' := [.ref r0, .int x1, .null, .null]) ⟨Or.inr rfl, Or.inr rfl, Or.inl rfl, Or.inl rfl, trivial⟩ ?_
          exact x_X6_lookAtNumber_65 hC hE hk0 h_r0 _ _
        · refine x_iload_n (i := 3) rfl hC (zdk dk_X6_lookAtNumber 21 rfl) (q := 35) rfl ?_
          refine x_bipush (i := 9) c_bipush_9 hC (zdk dk_X6_lookAtNumber 22 rfl) (q := 37) rfl ?_
          refine x_icmp_le (tgt := 43) hC (zdk dk_X6_lookAtNumber 23 rfl) (q := 40) rfl rfl (fun _ => ?_) (fun _ => ?_)
          · refine x_aload_n (i := 0) rfl hC (zdk dk_X6_lookAtNumber 25 rfl) (q := 44) rfl ?_
            refine x_aload_n (i := 0) rfl hC (zdk dk_X6_lookAtNumber 26 rfl) (q := 45) rfl ?_
            refine x_getI fl_RX6_97 (by decide) h_r0 hC (zdk dk_X6_lookAtNumber 27 rfl) (q := 48) rfl ?_
            refine x_bipush (i := 10) c_bipush_10 hC (zdk dk_X6_lookAtNumber 28 rfl) (q := 50) rfl ?_
            refine x_imul hC (zdk dk_X6_lookAtNumber 29 rfl) (q := 51) rfl ?_
            refine x_iload_n (i := 3) rfl hC (zdk dk_X6_lookAtNumber 30 rfl) (q := 52) rfl ?_
            refine x_iadd hC (zdk dk_X6_lookAtNumber 31 rfl) (q := 53) rfl ?_
            refine x_putI fl_RX6_97 ⟨rfl, rfl⟩ (by decide) (Or.inl rfl) h_r0 hC (zdk dk_X6_lookAtNumber 32 rfl) (q := 56) rfl ?_
            refine x_nmM (fun M7 => ?_)
            refine x_iinc (i := 1) c_iconst_1 rfl (by decide) (L' := [.ref r0, .int (x1 + 1), .int x2, .int ((zI M q5 k6) - 48)]) rfl hC (zdk dk_X6_lookAtNumber 33 rfl) (q := 59) rfl ?_
            refine x_iinc (i := 2) c_iconst_1 rfl (by decide) (L' := [.ref r0, .int (x1 + 1), .int (x2 + 1), .int ((zI M q5 k6) - 48)]) rfl hC (zdk dk_X6_lookAtNumber 34 rfl) (q := 62) rfl ?_
            refine x_goto (tgt := 7) hC (zdk dk_X6_lookAtNumber 35 rfl) rfl ?_
            refine x_weak (L' := [.ref r0, .int (x1 + 1), .int (x2 + 1), .null]) ⟨Or.inr rfl, Or.inr rfl, Or.inr rfl, Or.inl rfl, trivial⟩ ?_
            exact ih _ _ _
          · refine x_goto (tgt := 65) hC (zdk dk_X6_lookAtNumber 24 rfl) rfl ?_
            refine x_weak (L' := [.ref r0, .int x1, .null, .null]) ⟨Or.inr rfl, Or.inr rfl, Or.inl rfl, Or.inl rfl, trivial⟩ ?_
            exact x_X6_lookAtNumber_65 hC hE hk0 h_r0 _ _
set_option maxRecDepth 100000 in
def f_X6_lookAtNumber (r0 : Nat) (M : Mem) : Option Mem := f_X6_lookAtNumber_7 r0 1000000 0 (zI M r0 7) M
set_option maxRecDepth 100000 in
set_option maxHeartbeats 4000000 in
theorem x_X6_lookAtNumber {κ : KX} {n : Nat} (hC : CX κ cX6_lookAtNumber RX6 4 none 0) (hE : zEnd κ n (0, 0)) (hk0 : zRk κ (0, 0)) (r0 : Nat) (M : Mem) (h_r0 : zO n r0 6) : X κ 4 emV n (0, 0) 0 [.ref r0, .null, .null, .null] [] M (f_X6_lookAtNumber r0 M) := by
  unfold f_X6_lookAtNumber
  refine x_iconst (i := 0) c_iconst_0 hC (zdk dk_X6_lookAtNumber 0 rfl) (q := 1) rfl ?_
  refine x_istore_n (i := 1) (L' := [.ref r0, .int 0, .null, .null]) (by decide) rfl hC (zdk dk_X6_lookAtNumber 1 rfl) (q := 2) rfl ?_
  refine x_aload_n (i := 0) rfl hC (zdk dk_X6_lookAtNumber 2 rfl) (q := 3) rfl ?_
  refine x_getI fl_RX6_81 (by decide) h_r0 hC (zdk dk_X6_lookAtNumber 3 rfl) (q := 6) rfl ?_
  refine x_istore_n (i := 2) (L' := [.ref r0, .int 0, .int (zI M r0 7), .null]) (by decide) rfl hC (zdk dk_X6_lookAtNumber 4 rfl) (q := 7) rfl ?_
  refine x_weak (L' := [.ref r0, .int 0, .int (zI M r0 7), .null]) ⟨Or.inr rfl, Or.inr rfl, Or.inr rfl, Or.inl rfl, trivial⟩ ?_
  exact x_X6_lookAtNumber_7 hC hE hk0 h_r0 _ _ _ _
set_option maxRecDepth 100000 in
set_option maxHeartbeats 4000000 in
theorem t_X6_lookAtNumber {n : Nat} {r0 : Nat} {M : Mem} (h_r0 : zO n r0 6) (x : Mem) (hx : f_X6_lookAtNumber r0 M = some x) (l : Launch) (dC : Nat → ClassId) (dI : Nat → Nat → Nat) (b : zSg) : MT l dC dI b yX6_lookAtNumber cX6_lookAtNumber 4 none 0 0 0 n n [.ref r0] M (emV x).1 (emV x).2 :=
  MT.ofX (by decide +kernel) rfl (Nat.le_of_ble_eq_true rfl) (fun κ hC hF _ => x_X6_lookAtNumber hC (zEnd_of hF (Nat.le_refl _) (Nat.le_refl _)) (zRk_of hF (Nat.le_refl _) (Nat.le_refl _)) _ _ h_r0) x hx
set_option maxRecDepth 100000 in
def dt_X6_lookAtWord : List (Nat × Instr × Nat) := [(0, .iconst 0, 1), (1, .istore_n 1, 1), (2, .aload_n 0, 1), (3, .getfield 81, 3), (6, .istore_n 2, 1), (7, .iload_n 2, 1), (8, .aload_n 0, 1), (9, .getfield 46, 3), (12, .if_icmp .ge 56, 3), (15, .iload_n 1, 1), (16, .bipush 6, 2), (18, .if_icmp .gt 50, 3), (21, .aload_n 0, 1), (22, .getfield 15, 3), (25, .iload_n 2, 1), (26, .iaload, 1), (27, .bipush 97, 2), (29, .isub, 1), (30, .iconst 1, 1), (31, .iadd, 1), (32, .istore_n 3, 1), (33, .iload_n 3, 1), (34, .iconst 1, 1), (35, .if_icmp .lt 33, 3), (38, .iload_n 3, 1), (39, .bipush 26, 2), (41, .if_icmp .le 6, 3), (44, .goto 24, 3), (47, .aload_n 0, 1), (48, .aload_n 0, 1), (49, .getfield 97, 3), (52, .iconst 5, 1), (53, .ishl, 1), (54, .iload_n 3, 1), (55, .ior, 1), (56, .putfield 97, 3), (59, .iinc 1 1, 3), (62, .iinc 2 1, 3), (65, .goto (-58), 3), (68, .aload_n 0, 1), (69, .aload_n 0, 1), (70, .getfield 81, 3), (73, .iload_n 1, 1), (74, .iadd, 1), (75, .putfield 61, 3), (78, .iload_n 1, 1), (79, .bipush 6, 2), (81, .if_icmp .le 21, 3), (84, .aload_n 0, 1), (85, .bipush (-4), 2), (87, .putfield 78, 3), (90, .aload_n 0, 1), (91, .aload_n 0, 1), (92, .getfield 81, 3), (95, .bipush 6, 2), (97, .iadd, 1), (98, .putfield 91, 3), (101, .return_, 1), (102, .aload_n 0, 1), (103, .bipush (-2), 2), (105, .putfield 78, 3), (108, .aload_n 0, 1), (109, .dup, 1), (110, .getfield 97, 3), (113, .iconst 5, 1), (114, .bipush 6, 2), (116, .iload_n 1, 1), (117, .isub, 1), (118, .imul, 1), (119, .ishl, 1), (120, .putfield 97, 3), (123, .iconst 0, 1), (124, .istore_n 2, 1), (125, .iload_n 2, 1), (126, .bipush 27, 2), (128, .if_icmp .ge 27, 3), (131, .aload_n 0, 1), (132, .getfield 9, 3), (135, .iload_n 2, 1), (136, .iaload, 1), (137, .aload_n 0, 1), (138, .getfield 97, 3), (141, .if_icmp .ne 8, 3), (144, .aload_n 0, 1), (145, .iload_n 2, 1), (146, .putfield 94, 3), (149, .iinc 2 1, 3), (152, .goto (-27), 3), (155, .return_, 1)]
set_option maxRecDepth 100000 in
theorem dk_X6_lookAtWord : dt_X6_lookAtWord.all (fun q => decide (decode cX6_lookAtWord q.1 = .ok q.2)) = true := by decide +kernel
set_option maxRecDepth 100000 in
def f_X6_lookAtWord_149 (k125 : Int32 → Mem → Option Mem) (r0 : Nat) (x2 : Int32) (M : Mem) : Option Mem := k125 (x2 + 1) M
set_option maxRecDepth 100000 in
set_option maxHeartbeats 4000000 in
theorem x_X6_lookAtWord_149 {κ : KX} {n : Nat} (hC : CX κ cX6_lookAtWord RX6 4 none 0) (hE : zEnd κ n (0, 0)) (hk0 : zRk κ (0, 0)) {r0 : Nat} (h_r0 : zO n r0 6) (k125 : Int32 → Mem → Option Mem) (hk125 : ∀ (x2 : Int32) (M : Mem), X κ 4 emV n (0, 0) 125 [.ref r0, .null, .int x2, .null] [] M (k125 x2 M)) (x2 : Int32) (M : Mem) : X κ 4 emV n (0, 0) 149 [.ref r0, .null, .int x2, .null] [] M (f_X6_lookAtWord_149 k125 r0 x2 M) := by
  unfold f_X6_lookAtWord_149
  refine x_iinc (i := 2) c_iconst_1 rfl (by decide) (L' := [.ref r0, .null, .int (x2 + 1), .null]) rfl hC (zdk dk_X6_lookAtWord 86 rfl) (q := 152) rfl ?_
  refine x_goto (tgt := 125) hC (zdk dk_X6_lookAtWord 87 rfl) rfl ?_
  refine x_weak (L' := [.ref r0, .null, .int (x2 + 1), .null]) ⟨Or.inr rfl, Or.inl rfl, Or.inr rfl, Or.inl rfl, trivial⟩ ?_
  exact hk125 _ _
set_option maxRecDepth 100000 in
def f_X6_lookAtWord_125  (r0 : Nat) : Nat → Int32 → Mem → Option Mem
  | 0, _, _ => none
  | f + 1, x2, M => (if 27 ≤ x2 then some M else Option.bind (zrf M r0 0) fun q1 => Option.bind (zld q1 x2) fun k2 => (if zI M q1 k2 = zI M r0 10 then Option.bind (some (zsI M r0 11 x2)) fun M3 => f_X6_lookAtWord_149 (f_X6_lookAtWord_125 r0 f) r0 x2 M3 else f_X6_lookAtWord_149 (f_X6_lookAtWord_125 r0 f) r0 x2 M))
set_option maxRecDepth 100000 in
set_option maxHeartbeats 4000000 in
theorem x_X6_lookAtWord_125 {κ : KX} {n : Nat} (hC : CX κ cX6_lookAtWord RX6 4 none 0) (hE : zEnd κ n (0, 0)) (hk0 : zRk κ (0, 0)) {r0 : Nat} (h_r0 : zO n r0 6) : ∀ (f : Nat) (x2 : Int32) (M : Mem), X κ 4 emV n (0, 0) 125 [.ref r0, .null, .int x2, .null] [] M (f_X6_lookAtWord_125 r0 f x2 M) := by
  intro f
  induction f with
  | zero => intros; exact x_none
  | succ f ih =>
    intro x2 M 
    rw [f_X6_lookAtWord_125]
    refine x_iload_n (i := 2) rfl hC (zdk dk_X6_lookAtWord 73 rfl) (q := 126) rfl ?_
    refine x_bipush (i := 27) c_bipush_27 hC (zdk dk_X6_lookAtWord 74 rfl) (q := 128) rfl ?_
    refine x_icmp_ge (tgt := 155) hC (zdk dk_X6_lookAtWord 75 rfl) (q := 131) rfl rfl (fun _ => ?_) (fun _ => ?_)
    · exact x_vret hE hC (zdk dk_X6_lookAtWord 88 rfl)
    · refine x_aload_n (i := 0) rfl hC (zdk dk_X6_lookAtWord 76 rfl) (q := 132) rfl ?_
      refine x_getR (k := 20) fl_RX6_9 rfl h_r0 hC (zdk dk_X6_lookAtWord 77 rfl) (q := 135) rfl (fun q1 hq1 => ?_)
      refine x_iload_n (i := 2) rfl hC (zdk dk_X6_lookAtWord 78 rfl) (q := 136) rfl ?_
      refine x_iald hq1 hC (zdk dk_X6_lookAtWord 79 rfl) (q := 137) rfl (fun k2 _ => ?_)
      refine x_aload_n (i := 0) rfl hC (zdk dk_X6_lookAtWord 80 rfl) (q := 138) rfl ?_
      refine x_getI fl_RX6_97 (by decide) h_r0 hC (zdk dk_X6_lookAtWord 81 rfl) (q := 141) rfl ?_
      refine x_icmp_ne (tgt := 149) hC (zdk dk_X6_lookAtWord 82 rfl) (q := 144) rfl rfl (fun _ => ?_) (fun _ => ?_)
      · refine x_weak (L' := [.ref r0, .null, .int x2, .null]) ⟨Or.inr rfl, Or.inl rfl, Or.inr rfl, Or.inl rfl, trivial⟩ ?_
        exact x_X6_lookAtWord_149 hC hE hk0 h_r0 (f_X6_lookAtWord_125 r0 f) ih _ _
      · refine x_aload_n (i := 0) rfl hC (zdk dk_X6_lookAtWord 83 rfl) (q := 145) rfl ?_
        refine x_iload_n (i := 2) rfl hC (zdk dk_X6_lookAtWord 84 rfl) (q := 146) rfl ?_
        refine x_putI fl_RX6_94 ⟨rfl, rfl⟩ (by decide) (Or.inl rfl) h_r0 hC (zdk dk_X6_lookAtWord 85 rfl) (q := 149) rfl ?_
        refine x_nmM (fun M3 => ?_)
        refine x_weak (L' := [.ref r0, .null, .int x2, .null]) ⟨Or.inr rfl, Or.inl rfl, Or.inr rfl, Or.inl rfl, trivial⟩ ?_
        exact x_X6_lookAtWord_149 hC hE hk0 h_r0 (f_X6_lookAtWord_125 r0 f) ih _ _
set_option maxRecDepth 100000 in
def f_X6_lookAtWord_68  (r0 : Nat) (x1 : Int32) (M : Mem) : Option Mem := Option.bind (some (zsI M r0 9 ((zI M r0 7) + x1))) fun M4 => (if x1 ≤ 6 then Option.bind (some (zsI M4 r0 6 ((-2)))) fun M5 => Option.bind (some (zsI M5 r0 10 ((zI M5 r0 10) <<< (((5 * (6 - x1) : Int32)) &&& 31)))) fun M6 => f_X6_lookAtWord_125 r0 1000000 0 M6 else Option.bind (some (zsI M4 r0 6 ((-4)))) fun M7 => Option.bind (some (zsI M7 r0 8 ((zI M7 r0 7) + 6))) fun M8 => some M8)
set_option maxRecDepth 100000 in
set_option maxHeartbeats 4000000 in
theorem x_X6_lookAtWord_68 {κ : KX} {n : Nat} (hC : CX κ cX6_lookAtWord RX6 4 none 0) (hE : zEnd κ n (0, 0)) (hk0 : zRk κ (0, 0)) {r0 : Nat} (h_r0 : zO n r0 6) (x1 : Int32) (M : Mem) : X κ 4 emV n (0, 0) 68 [.ref r0, .int x1, .null, .null] [] M (f_X6_lookAtWord_68 r0 x1 M) := by
  unfold f_X6_lookAtWord_68
  refine x_aload_n (i := 0) rfl hC (zdk dk_X6_lookAtWord 39 rfl) (q := 69) rfl ?_
  refine x_aload_n (i := 0) rfl hC (zdk dk_X6_lookAtWord 40 rfl) (q := 70) rfl ?_
  refine x_getI fl_RX6_81 (by decide) h_r0 hC (zdk dk_X6_lookAtWord 41 rfl) (q := 73) rfl ?_
  refine x_iload_n (i := 1) rfl hC (zdk dk_X6_lookAtWord 42 rfl) (q := 74) rfl ?_
  refine x_iadd hC (zdk dk_X6_lookAtWord 43 rfl) (q := 75) rfl ?_
  refine x_putI fl_RX6_61 ⟨rfl, rfl⟩ (by decide) (Or.inl rfl) h_r0 hC (zdk dk_X6_lookAtWord 44 rfl) (q := 78) rfl ?_
  refine x_nmM (fun M4 => ?_)
  refine x_iload_n (i := 1) rfl hC (zdk dk_X6_lookAtWord 45 rfl) (q := 79) rfl ?_
  refine x_bipush (i := 6) c_bipush_6 hC (zdk dk_X6_lookAtWord 46 rfl) (q := 81) rfl ?_
  refine x_icmp_le (tgt := 102) hC (zdk dk_X6_lookAtWord 47 rfl) (q := 84) rfl rfl (fun _ => ?_) (fun _ => ?_)
  · refine x_aload_n (i := 0) rfl hC (zdk dk_X6_lookAtWord 58 rfl) (q := 103) rfl ?_
    refine x_bipush (i := (-2)) c_bipush_m2 hC (zdk dk_X6_lookAtWord 59 rfl) (q := 105) rfl ?_
    refine x_putI fl_RX6_78 ⟨rfl, rfl⟩ (by decide) (Or.inl rfl) h_r0 hC (zdk dk_X6_lookAtWord 60 rfl) (q := 108) rfl ?_
    refine x_nmM (fun M5 => ?_)
    refine x_aload_n (i := 0) rfl hC (zdk dk_X6_lookAtWord 61 rfl) (q := 109) rfl ?_
    refine x_dup rfl hC (zdk dk_X6_lookAtWord 62 rfl) (q := 110) rfl ?_
    refine x_getI fl_RX6_97 (by decide) h_r0 hC (zdk dk_X6_lookAtWord 63 rfl) (q := 113) rfl ?_
    refine x_iconst (i := 5) c_iconst_5 hC (zdk dk_X6_lookAtWord 64 rfl) (q := 114) rfl ?_
    refine x_bipush (i := 6) c_bipush_6 hC (zdk dk_X6_lookAtWord 65 rfl) (q := 116) rfl ?_
    refine x_iload_n (i := 1) rfl hC (zdk dk_X6_lookAtWord 66 rfl) (q := 117) rfl ?_
    refine x_isub hC (zdk dk_X6_lookAtWord 67 rfl) (q := 118) rfl ?_
    refine x_imul hC (zdk dk_X6_lookAtWord 68 rfl) (q := 119) rfl ?_
    refine x_ishl hC (zdk dk_X6_lookAtWord 69 rfl) (q := 120) rfl ?_
    refine x_putI fl_RX6_97 ⟨rfl, rfl⟩ (by decide) (Or.inl rfl) h_r0 hC (zdk dk_X6_lookAtWord 70 rfl) (q := 123) rfl ?_
    refine x_nmM (fun M6 => ?_)
    refine x_iconst (i := 0) c_iconst_0 hC (zdk dk_X6_lookAtWord 71 rfl) (q := 124) rfl ?_
    refine x_istore_n (i := 2) (L' := [.ref r0, .int x1, .int 0, .null]) (by decide) rfl hC (zdk dk_X6_lookAtWord 72 rfl) (q := 125) rfl ?_
    refine x_weak (L' := [.ref r0, .null, .int 0, .null]) ⟨Or.inr rfl, Or.inl rfl, Or.inr rfl, Or.inl rfl, trivial⟩ ?_
    exact x_X6_lookAtWord_125 hC hE hk0 h_r0 _ _ _
  · refine x_aload_n (i := 0) rfl hC (zdk dk_X6_lookAtWord 48 rfl) (q := 85) rfl ?_
    refine x_bipush (i := (-4)) c_bipush_m4 hC (zdk dk_X6_lookAtWord 49 rfl) (q := 87) rfl ?_
    refine x_putI fl_RX6_78 ⟨rfl, rfl⟩ (by decide) (Or.inl rfl) h_r0 hC (zdk dk_X6_lookAtWord 50 rfl) (q := 90) rfl ?_
    refine x_nmM (fun M7 => ?_)
    refine x_aload_n (i := 0) rfl hC (zdk dk_X6_lookAtWord 51 rfl) (q := 91) rfl ?_
    refine x_aload_n (i := 0) rfl hC (zdk dk_X6_lookAtWord 52 rfl) (q := 92) rfl ?_
    refine x_getI fl_RX6_81 (by decide) h_r0 hC (zdk dk_X6_lookAtWord 53 rfl) (q := 95) rfl ?_
    refine x_bipush (i := 6) c_bipush_6 hC (zdk dk_X6_lookAtWord 54 rfl) (q := 97) rfl ?_
    refine x_iadd hC (zdk dk_X6_lookAtWord 55 rfl) (q := 98) rfl ?_
    refine x_putI fl_RX6_91 ⟨rfl, rfl⟩ (by decide) (Or.inl rfl) h_r0 hC (zdk dk_X6_lookAtWord 56 rfl) (q := 101) rfl ?_
    refine x_nmM (fun M8 => ?_)
    exact x_vret hE hC (zdk dk_X6_lookAtWord 57 rfl)
set_option maxRecDepth 100000 in
def f_X6_lookAtWord_7  (r0 : Nat) : Nat → Int32 → Int32 → Mem → Option Mem
  | 0, _, _, _ => none
  | f + 1, x1, x2, M => (if zI M r0 3 ≤ x2 then f_X6_lookAtWord_68 r0 x1 M else (if 6 < x1 then f_X6_lookAtWord_68 r0 x1 M else Option.bind (zrf M r0 1) fun q9 => Option.bind (zld q9 x2) fun k10 => (if ((zI M q9 k10) - 97) + 1 < 1 then f_X6_lookAtWord_68 r0 x1 M else (if ((zI M q9 k10) - 97) + 1 ≤ 26 then Option.bind (some (zsI M r0 10 (((zI M r0 10) <<< (5 &&& 31)) ||| (((zI M q9 k10) - 97) + 1)))) fun M11 => (f_X6_lookAtWord_7 r0 f) (x1 + 1) (x2 + 1) M11 else f_X6_lookAtWord_68 r0 x1 M))))
set_option maxRecDepth 100000 in
set_option maxHeartbeats 4000000 in
theorem x_X6_lookAtWord_7 {κ : KX} {n : Nat} (hC : CX κ cX6_lookAtWord RX6 4 none 0) (hE : zEnd κ n (0, 0)) (hk0 : zRk κ (0, 0)) {r0 : Nat} (h_r0 : zO n r0 6) : ∀ (f : Nat) (x1 : Int32) (x2 : Int32) (M : Mem), X κ 4 emV n (0, 0) 7 [.ref r0, .int x1, .int x2, .null] [] M (f_X6_lookAtWord_7 r0 f x1 x2 M) := by
  intro f
  induction f with
  | zero => intros; exact x_none
  | succ f ih =>
    intro x1 x2 M 
    rw [f_X6_lookAtWord_7]
    refine x_iload_n (i := 2) rfl hC (zdk dk_X6_lookAtWord 5 rfl) (q := 8) rfl ?_
    refine x_aload_n (i := 0) rfl hC (zdk dk_X6_lookAtWord 6 rfl) (q := 9) rfl ?_
    refine x_getI fl_RX6_46 (by decide) h_r0 hC (zdk dk_X6_lookAtWord 7 rfl) (q := 12) rfl ?_
    refine x_icmp_ge (tgt := 68) hC (zdk dk_X6_lookAtWord 8 rfl) (q := 15) rfl rfl (fun _ => ?_) (fun _ => ?_)
    · refine x_weak (L' := [.ref r0, .int x1, .null, .null]) ⟨Or.inr rfl, Or.inr rfl, Or.inl rfl, Or.inl rfl, trivial⟩ ?_
      exact x_X6_lookAtWord_68 hC hE hk0 h_r0 _ _
    · refine x_iload_n (i := 1) rfl hC (zdk dk_X6_lookAtWord 9 rfl) (q := 16) rfl ?_
      refine x_bipush (i := 6) c_bipush_6 hC (zdk dk_X6_lookAtWord 10 rfl) (q := 18) rfl ?_
      refine x_icmp_gt (tgt := 68) hC (zdk dk_X6_lookAtWord 11 rfl) (q := 21) rfl rfl (fun _ => ?_) (fun _ => ?_)
      · refine x_weak (L' := [.ref r0, .int x1, .null, .null]) ⟨Or.inr rfl, Or.inr rfl, Or.inl rfl, Or.inl rfl, trivial⟩ ?_
        exact x_X6_lookAtWord_68 hC hE hk0 h_r0 _ _
      · refine x_aload_n (i := 0) rfl hC (zdk dk_X6_lookAtWord 12 rfl) (q := 22) rfl ?_
        refine x_getR (k := 20) fl_RX6_15 rfl h_r0 hC (zdk dk_X6_lookAtWord 13 rfl) (q := 25) rfl (fun q9 hq9 => ?_)
        refine x_iload_n (i := 2) rfl hC (zdk dk_X6_lookAtWord 14 rfl) (q := 26) rfl ?_
        refine x_iald hq9 hC (zdk dk_X6_lookAtWord 15 rfl) (q := 27) rfl (fun k10 _ => ?_)
        refine x_bipush (i := 97) c_bipush_97 hC (zdk dk_X6_lookAtWord 16 rfl) (q := 29) rfl ?_
        refine x_isub hC (zdk dk_X6_lookAtWord 17 rfl) (q := 30) rfl ?_
        refine x_iconst (i := 1) c_iconst_1 hC (zdk dk_X6_lookAtWord 18 rfl) (q := 31) rfl ?_
        refine x_iadd hC (zdk dk_X6_lookAtWord 19 rfl) (q := 32) rfl ?_
        refine x_istore_n (i := 3) (L' := [.ref r0, .int x1, .int x2, .int (((zI M q9 k10) - 97) + 1)]) (by decide) rfl hC (zdk dk_X6_lookAtWord 20 rfl) (q := 33) rfl ?_
        refine x_iload_n (i := 3) rfl hC (zdk dk_X6_lookAtWord 21 rfl) (q := 34) rfl ?_
        refine x_iconst (i := 1) c_iconst_1 hC (zdk dk_X6_lookAtWord 22 rfl) (q := 35) rfl ?_
        refine x_icmp_lt (tgt := 68) hC (zdk dk_X6_lookAtWord 23 rfl) (q := 38) rfl rfl (fun _ => ?_) (fun _ => ?_)
        · refine x_weak (L' := [.ref r0, .int x1, .null, .null]) ⟨Or.inr rfl, Or.inr rfl, Or.inl rfl, Or.inl rfl, trivial⟩ ?_
          exact x_X6_lookAtWord_68 hC hE hk0 h_r0 _ _
        · refine x_iload_n (i := 3) rfl hC (zdk dk_X6_lookAtWord 24 rfl) (q := 39) rfl ?_
          refine x_bipush (i := 26) c_bipush_26 hC (zdk dk_X6_lookAtWord 25 rfl) (q := 41) rfl ?_
          refine x_icmp_le (tgt := 47) hC (zdk dk_X6_lookAtWord 26 rfl) (q := 44) rfl rfl (fun _ => ?_) (fun _ => ?_)
          · refine x_aload_n (i := 0) rfl hC (zdk dk_X6_lookAtWord 28 rfl) (q := 48) rfl ?_
            refine x_aload_n (i := 0) rfl hC (zdk dk_X6_lookAtWord 29 rfl) (q := 49) rfl ?_
            refine x_getI fl_RX6_97 (by decide) h_r0 hC (zdk dk_X6_lookAtWord 30 rfl) (q := 52) rfl ?_
            refine x_iconst (i := 5) c_iconst_5 hC (zdk dk_X6_lookAtWord 31 rfl) (q := 53) rfl ?_
            refine x_ishl hC (zdk dk_X6_lookAtWord 32 rfl) (q := 54) rfl ?_
            refine x_iload_n (i := 3) rfl hC (zdk dk_X6_lookAtWord 33 rfl) (q := 55) rfl ?_
            refine x_ior hC (zdk dk_X6_lookAtWord 34 rfl) (q := 56) rfl ?_
            refine x_putI fl_RX6_97 ⟨rfl, rfl⟩ (by decide) (Or.inl rfl) h_r0 hC (zdk dk_X6_lookAtWord 35 rfl) (q := 59) rfl ?_
            refine x_nmM (fun M11 => ?_)
            refine x_iinc (i := 1) c_iconst_1 rfl (by decide) (L' := [.ref r0, .int (x1 + 1), .int x2, .int (((zI M q9 k10) - 97) + 1)]) rfl hC (zdk dk_X6_lookAtWord 36 rfl) (q := 62) rfl ?_
            refine x_iinc (i := 2) c_iconst_1 rfl (by decide) (L' := [.ref r0, .int (x1 + 1), .int (x2 + 1), .int (((zI M q9 k10) - 97) + 1)]) rfl hC (zdk dk_X6_lookAtWord 37 rfl) (q := 65) rfl ?_
            refine x_goto (tgt := 7) hC (zdk dk_X6_lookAtWord 38 rfl) rfl ?_
            refine x_weak (L' := [.ref r0, .int (x1 + 1), .int (x2 + 1), .null]) ⟨Or.inr rfl, Or.inr rfl, Or.inr rfl, Or.inl rfl, trivial⟩ ?_
            exact ih _ _ _
          · refine x_goto (tgt := 68) hC (zdk dk_X6_lookAtWord 27 rfl) rfl ?_
            refine x_weak (L' := [.ref r0, .int x1, .null, .null]) ⟨Or.inr rfl, Or.inr rfl, Or.inl rfl, Or.inl rfl, trivial⟩ ?_
            exact x_X6_lookAtWord_68 hC hE hk0 h_r0 _ _
set_option maxRecDepth 100000 in
def f_X6_lookAtWord (r0 : Nat) (M : Mem) : Option Mem := f_X6_lookAtWord_7 r0 1000000 0 (zI M r0 7) M
set_option maxRecDepth 100000 in
set_option maxHeartbeats 4000000 in
theorem x_X6_lookAtWord {κ : KX} {n : Nat} (hC : CX κ cX6_lookAtWord RX6 4 none 0) (hE : zEnd κ n (0, 0)) (hk0 : zRk κ (0, 0)) (r0 : Nat) (M : Mem) (h_r0 : zO n r0 6) : X κ 4 emV n (0, 0) 0 [.ref r0, .null, .null, .null] [] M (f_X6_lookAtWord r0 M) := by
  unfold f_X6_lookAtWord
  refine x_iconst (i := 0) c_iconst_0 hC (zdk dk_X6_lookAtWord 0 rfl) (q := 1) rfl ?_
  refine x_istore_n (i := 1) (L' := [.ref r0, .int 0, .null, .null]) (by decide) rfl hC (zdk dk_X6_lookAtWord 1 rfl) (q := 2) rfl ?_
  refine x_aload_n (i := 0) rfl hC (zdk dk_X6_lookAtWord 2 rfl) (q := 3) rfl ?_
  refine x_getI fl_RX6_81 (by decide) h_r0 hC (zdk dk_X6_lookAtWord 3 rfl) (q := 6) rfl ?_
  refine x_istore_n (i := 2) (L' := [.ref r0, .int 0, .int (zI M r0 7), .null]) (by decide) rfl hC (zdk dk_X6_lookAtWord 4 rfl) (q := 7) rfl ?_
  refine x_weak (L' := [.ref r0, .int 0, .int (zI M r0 7), .null]) ⟨Or.inr rfl, Or.inr rfl, Or.inr rfl, Or.inl rfl, trivial⟩ ?_
  exact x_X6_lookAtWord_7 hC hE hk0 h_r0 _ _ _ _
set_option maxRecDepth 100000 in
set_option maxHeartbeats 4000000 in
theorem t_X6_lookAtWord {n : Nat} {r0 : Nat} {M : Mem} (h_r0 : zO n r0 6) (x : Mem) (hx : f_X6_lookAtWord r0 M = some x) (l : Launch) (dC : Nat → ClassId) (dI : Nat → Nat → Nat) (b : zSg) : MT l dC dI b yX6_lookAtWord cX6_lookAtWord 4 none 0 0 0 n n [.ref r0] M (emV x).1 (emV x).2 :=
  MT.ofX (by decide +kernel) rfl (Nat.le_of_ble_eq_true rfl) (fun κ hC hF _ => x_X6_lookAtWord hC (zEnd_of hF (Nat.le_refl _) (Nat.le_refl _)) (zRk_of hF (Nat.le_refl _) (Nat.le_refl _)) _ _ h_r0) x hx
set_option maxRecDepth 100000 in
def dt_X6_look : List (Nat × Instr × Nat) := [(0, .aload_n 0, 1), (1, .getfield 61, 3), (4, .istore_n 1, 1), (5, .iload_n 1, 1), (6, .aload_n 0, 1), (7, .getfield 46, 3), (10, .if_icmp .ge 31, 3), (13, .aload_n 0, 1), (14, .getfield 15, 3), (17, .iload_n 1, 1), (18, .iaload, 1), (19, .bipush 10, 2), (21, .if_icmp .eq 14, 3), (24, .aload_n 0, 1), (25, .getfield 15, 3), (28, .iload_n 1, 1), (29, .iaload, 1), (30, .bipush 32, 2), (32, .if_icmp .ne 9, 3), (35, .iinc 1 1, 3), (38, .goto (-33), 3), (41, .aload_n 0, 1), (42, .iload_n 1, 1), (43, .putfield 81, 3), (46, .aload_n 0, 1), (47, .iload_n 1, 1), (48, .putfield 91, 3), (51, .aload_n 0, 1), (52, .iconst (-1), 1), (53, .putfield 94, 3), (56, .aload_n 0, 1), (57, .iconst 0, 1), (58, .putfield 97, 3), (61, .iload_n 1, 1), (62, .aload_n 0, 1), (63, .getfield 46, 3), (66, .if_icmp .lt 19, 3), (69, .aload_n 0, 1), (70, .iconst (-1), 1), (71, .putfield 78, 3), (74, .aload_n 0, 1), (75, .aload_n 0, 1), (76, .getfield 46, 3), (79, .putfield 61, 3), (82, .goto 119, 3), (85, .aload_n 0, 1), (86, .getfield 15, 3), (89, .iload_n 1, 1), (90, .iaload, 1), (91, .invokestatic 100, 3), (94, .ifCond .ne 35, 3), (97, .aload_n 0, 1), (98, .getfield 15, 3), (101, .iload_n 1, 1), (102, .iaload, 1), (103, .invokestatic 103, 3), (106, .ifCond .ne 23, 3), (109, .aload_n 0, 1), (110, .aload_n 0, 1), (111, .getfield 15, 3), (114, .iload_n 1, 1), (115, .iaload, 1), (116, .putfield 78, 3), (119, .aload_n 0, 1), (120, .iload_n 1, 1), (121, .iconst 1, 1), (122, .iadd, 1), (123, .putfield 61, 3), (126, .goto 75, 3), (129, .iload_n 1, 1), (130, .ifCond .le 48, 3), (133, .iload_n 1, 1), (134, .aload_n 0, 1), (135, .getfield 61, 3), (138, .if_icmp .ne 40, 3), (141, .aload_n 0, 1), (142, .getfield 15, 3), (145, .iload_n 1, 1), (146, .iconst 1, 1), (147, .isub, 1), (148, .iaload, 1), (149, .invokestatic 100, 3), (152, .ifCond .ne 17, 3), (155, .aload_n 0, 1), (156, .getfield 15, 3), (159, .iload_n 1, 1), (160, .iconst 1, 1), (161, .isub, 1), (162, .iaload, 1), (163, .invokestatic 103, 3), (166, .ifCond .eq 12, 3), (169, .aload_n 0, 1), (170, .bipush (-4), 2), (172, .putfield 78, 3), (175, .goto 26, 3), (178, .aload_n 0, 1), (179, .getfield 15, 3), (182, .iload_n 1, 1), (183, .iaload, 1), (184, .invokestatic 100, 3), (187, .ifCond .eq 10, 3), (190, .aload_n 0, 1), (191, .invokevirtual 106, 3), (194, .goto 7, 3), (197, .aload_n 0, 1), (198, .invokevirtual 109, 3), (201, .return_, 1)]
set_option maxRecDepth 100000 in
theorem dk_X6_look : dt_X6_look.all (fun q => decide (decode cX6_look q.1 = .ok q.2)) = true := by decide +kernel
set_option maxRecDepth 100000 in
def f_X6_look_35 (k5 : Int32 → Mem → Option Mem) (r0 : Nat) (x1 : Int32) (M : Mem) : Option Mem := k5 (x1 + 1) M
set_option maxRecDepth 100000 in
set_option maxHeartbeats 4000000 in
theorem x_X6_look_35 {κ : KX} {n : Nat} (hC : CX κ cX6_look RX6 2 none 1) (hE : zEnd κ n (0, 0)) (hk0 : zRk κ (0, 0)) {r0 : Nat} (h_r0 : zO n r0 6) (k5 : Int32 → Mem → Option Mem) (hk5 : ∀ (x1 : Int32) (M : Mem), X κ 2 emV n (0, 0) 5 [.ref r0, .int x1] [] M (k5 x1 M)) (x1 : Int32) (M : Mem) : X κ 2 emV n (0, 0) 35 [.ref r0, .int x1] [] M (f_X6_look_35 k5 r0 x1 M) := by
  unfold f_X6_look_35
  refine x_iinc (i := 1) c_iconst_1 rfl (by decide) (L' := [.ref r0, .int (x1 + 1)]) rfl hC (zdk dk_X6_look 19 rfl) (q := 38) rfl ?_
  refine x_goto (tgt := 5) hC (zdk dk_X6_look 20 rfl) rfl ?_
  refine x_weak (L' := [.ref r0, .int (x1 + 1)]) ⟨Or.inr rfl, Or.inr rfl, trivial⟩ ?_
  exact hk5 _ _
set_option maxRecDepth 100000 in
def f_X6_look_201  (r0 : Nat)  (M : Mem) : Option Mem := some M
set_option maxRecDepth 100000 in
set_option maxHeartbeats 4000000 in
theorem x_X6_look_201 {κ : KX} {n : Nat} (hC : CX κ cX6_look RX6 2 none 1) (hE : zEnd κ n (0, 0)) (hk0 : zRk κ (0, 0)) {r0 : Nat} (h_r0 : zO n r0 6) (M : Mem) : X κ 2 emV n (0, 0) 201 [.null, .null] [] M (f_X6_look_201 r0 M) := by
  unfold f_X6_look_201
  exact x_vret hE hC (zdk dk_X6_look 106 rfl)
set_option maxRecDepth 100000 in
def f_X6_look_169  (r0 : Nat)  (M : Mem) : Option Mem := Option.bind (some (zsI M r0 6 ((-4)))) fun M1 => f_X6_look_201 r0 M1
set_option maxRecDepth 100000 in
set_option maxHeartbeats 4000000 in
theorem x_X6_look_169 {κ : KX} {n : Nat} (hC : CX κ cX6_look RX6 2 none 1) (hE : zEnd κ n (0, 0)) (hk0 : zRk κ (0, 0)) {r0 : Nat} (h_r0 : zO n r0 6) (M : Mem) : X κ 2 emV n (0, 0) 169 [.ref r0, .null] [] M (f_X6_look_169 r0 M) := by
  unfold f_X6_look_169
  refine x_aload_n (i := 0) rfl hC (zdk dk_X6_look 91 rfl) (q := 170) rfl ?_
  refine x_bipush (i := (-4)) c_bipush_m4 hC (zdk dk_X6_look 92 rfl) (q := 172) rfl ?_
  refine x_putI fl_RX6_78 ⟨rfl, rfl⟩ (by decide) (Or.inl rfl) h_r0 hC (zdk dk_X6_look 93 rfl) (q := 175) rfl ?_
  refine x_nmM (fun M1 => ?_)
  refine x_goto (tgt := 201) hC (zdk dk_X6_look 94 rfl) rfl ?_
  refine x_weak (L' := [.null, .null]) ⟨Or.inl rfl, Or.inl rfl, trivial⟩ ?_
  exact x_X6_look_201 hC hE hk0 h_r0 _
set_option maxRecDepth 100000 in
def f_X6_look_178  (r0 : Nat) (x1 : Int32) (M : Mem) : Option Mem := Option.bind (zrf M r0 1) fun q2 => Option.bind (zld q2 x1) fun k3 => Option.bind (f_X6_isLetter (zI M q2 k3) M) fun z4 => (if z4.1 = 0 then Option.bind (f_X6_lookAtNumber r0 z4.2) fun M5 => f_X6_look_201 r0 M5 else Option.bind (f_X6_lookAtWord r0 z4.2) fun M6 => f_X6_look_201 r0 M6)
set_option maxRecDepth 100000 in
set_option maxHeartbeats 4000000 in
theorem x_X6_look_178 {κ : KX} {n : Nat} (hC : CX κ cX6_look RX6 2 none 1) (hE : zEnd κ n (0, 0)) (hk0 : zRk κ (0, 0)) {r0 : Nat} (h_r0 : zO n r0 6) (x1 : Int32) (M : Mem) : X κ 2 emV n (0, 0) 178 [.ref r0, .int x1] [] M (f_X6_look_178 r0 x1 M) := by
  unfold f_X6_look_178
  refine x_aload_n (i := 0) rfl hC (zdk dk_X6_look 95 rfl) (q := 179) rfl ?_
  refine x_getR (k := 20) fl_RX6_15 rfl h_r0 hC (zdk dk_X6_look 96 rfl) (q := 182) rfl (fun q2 hq2 => ?_)
  refine x_iload_n (i := 1) rfl hC (zdk dk_X6_look 97 rfl) (q := 183) rfl ?_
  refine x_iald hq2 hC (zdk dk_X6_look 98 rfl) (q := 184) rfl (fun k3 _ => ?_)
  refine x_callSi (as := [.int (zI M q2 k3)]) cb_RX6_100 rfl (by decide) hk0 (fun x hx => t_X6_isLetter  x hx) hC (zdk dk_X6_look 99 rfl) (q := 187) rfl rfl (Nat.le_of_ble_eq_true rfl) (fun z4 => ?_)
  refine x_if_eq (tgt := 197) hC (zdk dk_X6_look 100 rfl) (q := 190) rfl rfl (fun _ => ?_) (fun _ => ?_)
  · refine x_aload_n (i := 0) rfl hC (zdk dk_X6_look 104 rfl) (q := 198) rfl ?_
    refine x_callVv (as := []) cb_RX6_109 rfl (by decide) hk0 h_r0 (fun x hx => t_X6_lookAtNumber h_r0 x hx) hC (zdk dk_X6_look 105 rfl) (q := 201) rfl rfl (Nat.le_of_ble_eq_true rfl) (fun M5 => ?_)
    refine x_weak (L' := [.null, .null]) ⟨Or.inl rfl, Or.inl rfl, trivial⟩ ?_
    exact x_X6_look_201 hC hE hk0 h_r0 _
  · refine x_aload_n (i := 0) rfl hC (zdk dk_X6_look 101 rfl) (q := 191) rfl ?_
    refine x_callVv (as := []) cb_RX6_106 rfl (by decide) hk0 h_r0 (fun x hx => t_X6_lookAtWord h_r0 x hx) hC (zdk dk_X6_look 102 rfl) (q := 194) rfl rfl (Nat.le_of_ble_eq_true rfl) (fun M6 => ?_)
    refine x_goto (tgt := 201) hC (zdk dk_X6_look 103 rfl) rfl ?_
    refine x_weak (L' := [.null, .null]) ⟨Or.inl rfl, Or.inl rfl, trivial⟩ ?_
    exact x_X6_look_201 hC hE hk0 h_r0 _
set_option maxRecDepth 100000 in
def f_X6_look_129  (r0 : Nat) (x1 : Int32) (M : Mem) : Option Mem := (if x1 ≤ 0 then f_X6_look_178 r0 x1 M else (if x1 = zI M r0 9 then Option.bind (zrf M r0 1) fun q7 => Option.bind (zld q7 (x1 - 1)) fun k8 => Option.bind (f_X6_isLetter (zI M q7 k8) M) fun z9 => (if z9.1 = 0 then Option.bind (zrf z9.2 r0 1) fun q10 => Option.bind (zld q10 (x1 - 1)) fun k11 => Option.bind (f_X6_isDigit (zI z9.2 q10 k11) z9.2) fun z12 => (if z12.1 = 0 then f_X6_look_178 r0 x1 z12.2 else f_X6_look_169 r0 z12.2) else f_X6_look_169 r0 z9.2) else f_X6_look_178 r0 x1 M))
set_option maxRecDepth 100000 in
set_option maxHeartbeats 4000000 in
theorem x_X6_look_129 {κ : KX} {n : Nat} (hC : CX κ cX6_look RX6 2 none 1) (hE : zEnd κ n (0, 0)) (hk0 : zRk κ (0, 0)) {r0 : Nat} (h_r0 : zO n r0 6) (x1 : Int32) (M : Mem) : X κ 2 emV n (0, 0) 129 [.ref r0, .int x1] [] M (f_X6_look_129 r0 x1 M) := by
  unfold f_X6_look_129
  refine x_iload_n (i := 1) rfl hC (zdk dk_X6_look 69 rfl) (q := 130) rfl ?_
  refine x_if_le (tgt := 178) hC (zdk dk_X6_look 70 rfl) (q := 133) rfl rfl (fun _ => ?_) (fun _ => ?_)
  · refine x_weak (L' := [.ref r0, .int x1]) ⟨Or.inr rfl, Or.inr rfl, trivial⟩ ?_
    exact x_X6_look_178 hC hE hk0 h_r0 _ _
  · refine x_iload_n (i := 1) rfl hC (zdk dk_X6_look 71 rfl) (q := 134) rfl ?_
    refine x_aload_n (i := 0) rfl hC (zdk dk_X6_look 72 rfl) (q := 135) rfl ?_
    refine x_getI fl_RX6_61 (by decide) h_r0 hC (zdk dk_X6_look 73 rfl) (q := 138) rfl ?_
    refine x_icmp_ne (tgt := 178) hC (zdk dk_X6_look 74 rfl) (q := 141) rfl rfl (fun _ => ?_) (fun _ => ?_)
    · refine x_weak (L' := [.ref r0, .int x1]) ⟨Or.inr rfl, Or.inr rfl, trivial⟩ ?_
      exact x_X6_look_178 hC hE hk0 h_r0 _ _
    · refine x_aload_n (i := 0) rfl hC (zdk dk_X6_look 75 rfl) (q := 142) rfl ?_
      refine x_getR (k := 20) fl_RX6_15 rfl h_r0 hC (zdk dk_X6_look 76 rfl) (q := 145) rfl (fun q7 hq7 => ?_)
      refine x_iload_n (i := 1) rfl hC (zdk dk_X6_look 77 rfl) (q := 146) rfl ?_
      refine x_iconst (i := 1) c_iconst_1 hC (zdk dk_X6_look 78 rfl) (q := 147) rfl ?_
      refine x_isub hC (zdk dk_X6_look 79 rfl) (q := 148) rfl ?_
      refine x_iald hq7 hC (zdk dk_X6_look 80 rfl) (q := 149) rfl (fun k8 _ => ?_)
      refine x_callSi (as := [.int (zI M q7 k8)]) cb_RX6_100 rfl (by decide) hk0 (fun x hx => t_X6_isLetter  x hx) hC (zdk dk_X6_look 81 rfl) (q := 152) rfl rfl (Nat.le_of_ble_eq_true rfl) (fun z9 => ?_)
      refine x_if_ne (tgt := 169) hC (zdk dk_X6_look 82 rfl) (q := 155) rfl rfl (fun _ => ?_) (fun _ => ?_)
      · refine x_weak (L' := [.ref r0, .null]) ⟨Or.inr rfl, Or.inl rfl, trivial⟩ ?_
        exact x_X6_look_169 hC hE hk0 h_r0 _
      · refine x_aload_n (i := 0) rfl hC (zdk dk_X6_look 83 rfl) (q := 156) rfl ?_
        refine x_getR (k := 20) fl_RX6_15 rfl h_r0 hC (zdk dk_X6_look 84 rfl) (q := 159) rfl (fun q10 hq10 => ?_)
        refine x_iload_n (i := 1) rfl hC (zdk dk_X6_look 85 rfl) (q := 160) rfl ?_
        refine x_iconst (i := 1) c_iconst_1 hC (zdk dk_X6_look 86 rfl) (q := 161) rfl ?_
        refine x_isub hC (zdk dk_X6_look 87 rfl) (q := 162) rfl ?_
        refine x_iald hq10 hC (zdk dk_X6_look 88 rfl) (q := 163) rfl (fun k11 _ => ?_)
        refine x_callSi (as := [.int (zI z9.2 q10 k11)]) cb_RX6_103 rfl (by decide) hk0 (fun x hx => t_X6_isDigit  x hx) hC (zdk dk_X6_look 89 rfl) (q := 166) rfl rfl (Nat.le_of_ble_eq_true rfl) (fun z12 => ?_)
        refine x_if_eq (tgt := 178) hC (zdk dk_X6_look 90 rfl) (q := 169) rfl rfl (fun _ => ?_) (fun _ => ?_)
        · refine x_weak (L' := [.ref r0, .int x1]) ⟨Or.inr rfl, Or.inr rfl, trivial⟩ ?_
          exact x_X6_look_178 hC hE hk0 h_r0 _ _
        · refine x_weak (L' := [.ref r0, .null]) ⟨Or.inr rfl, Or.inl rfl, trivial⟩ ?_
          exact x_X6_look_169 hC hE hk0 h_r0 _
set_option maxRecDepth 100000 in
def f_X6_look_41  (r0 : Nat) (x1 : Int32) (M : Mem) : Option Mem := Option.bind (some (zsI M r0 7 x1)) fun M13 => Option.bind (some (zsI M13 r0 8 x1)) fun M14 => Option.bind (some (zsI M14 r0 11 ((-1)))) fun M15 => Option.bind (some (zsI M15 r0 10 0)) fun M16 => (if x1 < zI M16 r0 3 then Option.bind (zrf M16 r0 1) fun q17 => Option.bind (zld q17 x1) fun k18 => Option.bind (f_X6_isLetter (zI M16 q17 k18) M16) fun z19 => (if z19.1 = 0 then Option.bind (zrf z19.2 r0 1) fun q20 => Option.bind (zld q20 x1) fun k21 => Option.bind (f_X6_isDigit (zI z19.2 q20 k21) z19.2) fun z22 => (if z22.1 = 0 then Option.bind (zrf z22.2 r0 1) fun q23 => Option.bind (zld q23 x1) fun k24 => Option.bind (some (zsI z22.2 r0 6 (zI z22.2 q23 k24))) fun M25 => Option.bind (some (zsI M25 r0 9 (x1 + 1))) fun M26 => f_X6_look_201 r0 M26 else f_X6_look_129 r0 x1 z22.2) else f_X6_look_129 r0 x1 z19.2) else Option.bind (some (zsI M16 r0 6 ((-1)))) fun M27 => Option.bind (some (zsI M27 r0 9 (zI M27 r0 3))) fun M28 => f_X6_look_201 r0 M28)
set_option maxRecDepth 100000 in
set_option maxHeartbeats 4000000 in
theorem x_X6_look_41 {κ : KX} {n : Nat} (hC : CX κ cX6_look RX6 2 none 1) (hE : zEnd κ n (0, 0)) (hk0 : zRk κ (0, 0)) {r0 : Nat} (h_r0 : zO n r0 6) (x1 : Int32) (M : Mem) : X κ 2 emV n (0, 0) 41 [.ref r0, .int x1] [] M (f_X6_look_41 r0 x1 M) := by
  unfold f_X6_look_41
  refine x_aload_n (i := 0) rfl hC (zdk dk_X6_look 21 rfl) (q := 42) rfl ?_
  refine x_iload_n (i := 1) rfl hC (zdk dk_X6_look 22 rfl) (q := 43) rfl ?_
  refine x_putI fl_RX6_81 ⟨rfl, rfl⟩ (by decide) (Or.inl rfl) h_r0 hC (zdk dk_X6_look 23 rfl) (q := 46) rfl ?_
  refine x_nmM (fun M13 => ?_)
  refine x_aload_n (i := 0) rfl hC (zdk dk_X6_look 24 rfl) (q := 47) rfl ?_
  refine x_iload_n (i := 1) rfl hC (zdk dk_X6_look 25 rfl) (q := 48) rfl ?_
  refine x_putI fl_RX6_91 ⟨rfl, rfl⟩ (by decide) (Or.inl rfl) h_r0 hC (zdk dk_X6_look 26 rfl) (q := 51) rfl ?_
  refine x_nmM (fun M14 => ?_)
  refine x_aload_n (i := 0) rfl hC (zdk dk_X6_look 27 rfl) (q := 52) rfl ?_
  refine x_iconst (i := (-1)) c_iconst_m1 hC (zdk dk_X6_look 28 rfl) (q := 53) rfl ?_
  refine x_putI fl_RX6_94 ⟨rfl, rfl⟩ (by decide) (Or.inl rfl) h_r0 hC (zdk dk_X6_look 29 rfl) (q := 56) rfl ?_
  refine x_nmM (fun M15 => ?_)
  refine x_aload_n (i := 0) rfl hC (zdk dk_X6_look 30 rfl) (q := 57) rfl ?_
  refine x_iconst (i := 0) c_iconst_0 hC (zdk dk_X6_look 31 rfl) (q := 58) rfl ?_
  refine x_putI fl_RX6_97 ⟨rfl, rfl⟩ (by decide) (Or.inl rfl) h_r0 hC (zdk dk_X6_look 32 rfl) (q := 61) rfl ?_
  refine x_nmM (fun M16 => ?_)
  refine x_iload_n (i := 1) rfl hC (zdk dk_X6_look 33 rfl) (q := 62) rfl ?_
  refine x_aload_n (i := 0) rfl hC (zdk dk_X6_look 34 rfl) (q := 63) rfl ?_
  refine x_getI fl_RX6_46 (by decide) h_r0 hC (zdk dk_X6_look 35 rfl) (q := 66) rfl ?_
  refine x_icmp_lt (tgt := 85) hC (zdk dk_X6_look 36 rfl) (q := 69) rfl rfl (fun _ => ?_) (fun _ => ?_)
  · refine x_aload_n (i := 0) rfl hC (zdk dk_X6_look 45 rfl) (q := 86) rfl ?_
    refine x_getR (k := 20) fl_RX6_15 rfl h_r0 hC (zdk dk_X6_look 46 rfl) (q := 89) rfl (fun q17 hq17 => ?_)
    refine x_iload_n (i := 1) rfl hC (zdk dk_X6_look 47 rfl) (q := 90) rfl ?_
    refine x_iald hq17 hC (zdk dk_X6_look 48 rfl) (q := 91) rfl (fun k18 _ => ?_)
    refine x_callSi (as := [.int (zI M16 q17 k18)]) cb_RX6_100 rfl (by decide) hk0 (fun x hx => t_X6_isLetter  x hx) hC (zdk dk_X6_look 49 rfl) (q := 94) rfl rfl (Nat.le_of_ble_eq_true rfl) (fun z19 => ?_)
    refine x_if_ne (tgt := 129) hC (zdk dk_X6_look 50 rfl) (q := 97) rfl rfl (fun _ => ?_) (fun _ => ?_)
    · refine x_weak (L' := [.ref r0, .int x1]) ⟨Or.inr rfl, Or.inr rfl, trivial⟩ ?_
      exact x_X6_look_129 hC hE hk0 h_r0 _ _
    · refine x_aload_n (i := 0) rfl hC (zdk dk_X6_look 51 rfl) (q := 98) rfl ?_
      refine x_getR (k := 20) fl_RX6_15 rfl h_r0 hC (zdk dk_X6_look 52 rfl) (q := 101) rfl (fun q20 hq20 => ?_)
      refine x_iload_n (i := 1) rfl hC (zdk dk_X6_look 53 rfl) (q := 102) rfl ?_
      refine x_iald hq20 hC (zdk dk_X6_look 54 rfl) (q := 103) rfl (fun k21 _ => ?_)
      refine x_callSi (as := [.int (zI z19.2 q20 k21)]) cb_RX6_103 rfl (by decide) hk0 (fun x hx => t_X6_isDigit  x hx) hC (zdk dk_X6_look 55 rfl) (q := 106) rfl rfl (Nat.le_of_ble_eq_true rfl) (fun z22 => ?_)
      refine x_if_ne (tgt := 129) hC (zdk dk_X6_look 56 rfl) (q := 109) rfl rfl (fun _ => ?_) (fun _ => ?_)
      · refine x_weak (L' := [.ref r0, .int x1]) ⟨Or.inr rfl, Or.inr rfl, trivial⟩ ?_
        exact x_X6_look_129 hC hE hk0 h_r0 _ _
      · refine x_aload_n (i := 0) rfl hC (zdk dk_X6_look 57 rfl) (q := 110) rfl ?_
        refine x_aload_n (i := 0) rfl hC (zdk dk_X6_look 58 rfl) (q := 111) rfl ?_
        refine x_getR (k := 20) fl_RX6_15 rfl h_r0 hC (zdk dk_X6_look 59 rfl) (q := 114) rfl (fun q23 hq23 => ?_)
        refine x_iload_n (i := 1) rfl hC (zdk dk_X6_look 60 rfl) (q := 115) rfl ?_
        refine x_iald hq23 hC (zdk dk_X6_look 61 rfl) (q := 116) rfl (fun k24 _ => ?_)
        refine x_putI fl_RX6_78 ⟨rfl, rfl⟩ (by decide) (Or.inl rfl) h_r0 hC (zdk dk_X6_look 62 rfl) (q := 119) rfl ?_
        refine x_nmM (fun M25 => ?_)
        refine x_aload_n (i := 0) rfl hC (zdk dk_X6_look 63 rfl) (q := 120) rfl ?_
        refine x_iload_n (i := 1) rfl hC (zdk dk_X6_look 64 rfl) (q := 121) rfl ?_
        refine x_iconst (i := 1) c_iconst_1 hC (zdk dk_X6_look 65 rfl) (q := 122) rfl ?_
        refine x_iadd hC (zdk dk_X6_look 66 rfl) (q := 123) rfl ?_
        refine x_putI fl_RX6_61 ⟨rfl, rfl⟩ (by decide) (Or.inl rfl) h_r0 hC (zdk dk_X6_look 67 rfl) (q := 126) rfl ?_
        refine x_nmM (fun M26 => ?_)
        refine x_goto (tgt := 201) hC (zdk dk_X6_look 68 rfl) rfl ?_
        refine x_weak (L' := [.null, .null]) ⟨Or.inl rfl, Or.inl rfl, trivial⟩ ?_
        exact x_X6_look_201 hC hE hk0 h_r0 _
  · refine x_aload_n (i := 0) rfl hC (zdk dk_X6_look 37 rfl) (q := 70) rfl ?_
    refine x_iconst (i := (-1)) c_iconst_m1 hC (zdk dk_X6_look 38 rfl) (q := 71) rfl ?_
    refine x_putI fl_RX6_78 ⟨rfl, rfl⟩ (by decide) (Or.inl rfl) h_r0 hC (zdk dk_X6_look 39 rfl) (q := 74) rfl ?_
    refine x_nmM (fun M27 => ?_)
    refine x_aload_n (i := 0) rfl hC (zdk dk_X6_look 40 rfl) (q := 75) rfl ?_
    refine x_aload_n (i := 0) rfl hC (zdk dk_X6_look 41 rfl) (q := 76) rfl ?_
    refine x_getI fl_RX6_46 (by decide) h_r0 hC (zdk dk_X6_look 42 rfl) (q := 79) rfl ?_
    refine x_putI fl_RX6_61 ⟨rfl, rfl⟩ (by decide) (Or.inl rfl) h_r0 hC (zdk dk_X6_look 43 rfl) (q := 82) rfl ?_
    refine x_nmM (fun M28 => ?_)
    refine x_goto (tgt := 201) hC (zdk dk_X6_look 44 rfl) rfl ?_
    refine x_weak (L' := [.null, .null]) ⟨Or.inl rfl, Or.inl rfl, trivial⟩ ?_
    exact x_X6_look_201 hC hE hk0 h_r0 _
set_option maxRecDepth 100000 in
def f_X6_look_5  (r0 : Nat) : Nat → Int32 → Mem → Option Mem
  | 0, _, _ => none
  | f + 1, x1, M => (if zI M r0 3 ≤ x1 then f_X6_look_41 r0 x1 M else Option.bind (zrf M r0 1) fun q29 => Option.bind (zld q29 x1) fun k30 => (if zI M q29 k30 = 10 then f_X6_look_35 (f_X6_look_5 r0 f) r0 x1 M else Option.bind (zrf M r0 1) fun q31 => Option.bind (zld q31 x1) fun k32 => (if zI M q31 k32 = 32 then f_X6_look_35 (f_X6_look_5 r0 f) r0 x1 M else f_X6_look_41 r0 x1 M)))
set_option maxRecDepth 100000 in
set_option maxHeartbeats 4000000 in
theorem x_X6_look_5 {κ : KX} {n : Nat} (hC : CX κ cX6_look RX6 2 none 1) (hE : zEnd κ n (0, 0)) (hk0 : zRk κ (0, 0)) {r0 : Nat} (h_r0 : zO n r0 6) : ∀ (f : Nat) (x1 : Int32) (M : Mem), X κ 2 emV n (0, 0) 5 [.ref r0, .int x1] [] M (f_X6_look_5 r0 f x1 M) := by
  intro f
  induction f with
  | zero => intros; exact x_none
  | succ f ih =>
    intro x1 M 
    rw [f_X6_look_5]
    refine x_iload_n (i := 1) rfl hC (zdk dk_X6_look 3 rfl) (q := 6) rfl ?_
    refine x_aload_n (i := 0) rfl hC (zdk dk_X6_look 4 rfl) (q := 7) rfl ?_
    refine x_getI fl_RX6_46 (by decide) h_r0 hC (zdk dk_X6_look 5 rfl) (q := 10) rfl ?_
    refine x_icmp_ge (tgt := 41) hC (zdk dk_X6_look 6 rfl) (q := 13) rfl rfl (fun _ => ?_) (fun _ => ?_)
    · refine x_weak (L' := [.ref r0, .int x1]) ⟨Or.inr rfl, Or.inr rfl, trivial⟩ ?_
      exact x_X6_look_41 hC hE hk0 h_r0 _ _
    · refine x_aload_n (i := 0) rfl hC (zdk dk_X6_look 7 rfl) (q := 14) rfl ?_
      refine x_getR (k := 20) fl_RX6_15 rfl h_r0 hC (zdk dk_X6_look 8 rfl) (q := 17) rfl (fun q29 hq29 => ?_)
      refine x_iload_n (i := 1) rfl hC (zdk dk_X6_look 9 rfl) (q := 18) rfl ?_
      refine x_iald hq29 hC (zdk dk_X6_look 10 rfl) (q := 19) rfl (fun k30 _ => ?_)
      refine x_bipush (i := 10) c_bipush_10 hC (zdk dk_X6_look 11 rfl) (q := 21) rfl ?_
      refine x_icmp_eq (tgt := 35) hC (zdk dk_X6_look 12 rfl) (q := 24) rfl rfl (fun _ => ?_) (fun _ => ?_)
      · refine x_weak (L' := [.ref r0, .int x1]) ⟨Or.inr rfl, Or.inr rfl, trivial⟩ ?_
        exact x_X6_look_35 hC hE hk0 h_r0 (f_X6_look_5 r0 f) ih _ _
      · refine x_aload_n (i := 0) rfl hC (zdk dk_X6_look 13 rfl) (q := 25) rfl ?_
        refine x_getR (k := 20) fl_RX6_15 rfl h_r0 hC (zdk dk_X6_look 14 rfl) (q := 28) rfl (fun q31 hq31 => ?_)
        refine x_iload_n (i := 1) rfl hC (zdk dk_X6_look 15 rfl) (q := 29) rfl ?_
        refine x_iald hq31 hC (zdk dk_X6_look 16 rfl) (q := 30) rfl (fun k32 _ => ?_)
        refine x_bipush (i := 32) c_bipush_32 hC (zdk dk_X6_look 17 rfl) (q := 32) rfl ?_
        refine x_icmp_ne (tgt := 41) hC (zdk dk_X6_look 18 rfl) (q := 35) rfl rfl (fun _ => ?_) (fun _ => ?_)
        · refine x_weak (L' := [.ref r0, .int x1]) ⟨Or.inr rfl, Or.inr rfl, trivial⟩ ?_
          exact x_X6_look_41 hC hE hk0 h_r0 _ _
        · refine x_weak (L' := [.ref r0, .int x1]) ⟨Or.inr rfl, Or.inr rfl, trivial⟩ ?_
          exact x_X6_look_35 hC hE hk0 h_r0 (f_X6_look_5 r0 f) ih _ _
set_option maxRecDepth 100000 in
def f_X6_look (r0 : Nat) (M : Mem) : Option Mem := f_X6_look_5 r0 1000000 (zI M r0 9) M
set_option maxRecDepth 100000 in
set_option maxHeartbeats 4000000 in
theorem x_X6_look {κ : KX} {n : Nat} (hC : CX κ cX6_look RX6 2 none 1) (hE : zEnd κ n (0, 0)) (hk0 : zRk κ (0, 0)) (r0 : Nat) (M : Mem) (h_r0 : zO n r0 6) : X κ 2 emV n (0, 0) 0 [.ref r0, .null] [] M (f_X6_look r0 M) := by
  unfold f_X6_look
  refine x_aload_n (i := 0) rfl hC (zdk dk_X6_look 0 rfl) (q := 1) rfl ?_
  refine x_getI fl_RX6_61 (by decide) h_r0 hC (zdk dk_X6_look 1 rfl) (q := 4) rfl ?_
  refine x_istore_n (i := 1) (L' := [.ref r0, .int (zI M r0 9)]) (by decide) rfl hC (zdk dk_X6_look 2 rfl) (q := 5) rfl ?_
  refine x_weak (L' := [.ref r0, .int (zI M r0 9)]) ⟨Or.inr rfl, Or.inr rfl, trivial⟩ ?_
  exact x_X6_look_5 hC hE hk0 h_r0 _ _ _
set_option maxRecDepth 100000 in
set_option maxHeartbeats 4000000 in
theorem t_X6_look {n : Nat} {r0 : Nat} {M : Mem} (h_r0 : zO n r0 6) (x : Mem) (hx : f_X6_look r0 M = some x) (l : Launch) (dC : Nat → ClassId) (dI : Nat → Nat → Nat) (b : zSg) : MT l dC dI b yX6_look cX6_look 2 none 1 0 0 n n [.ref r0] M (emV x).1 (emV x).2 :=
  MT.ofX (by decide +kernel) rfl (Nat.le_of_ble_eq_true rfl) (fun κ hC hF _ => x_X6_look hC (zEnd_of hF (Nat.le_refl _) (Nat.le_refl _)) (zRk_of hF (Nat.le_refl _) (Nat.le_refl _)) _ _ h_r0) x hx
set_option maxRecDepth 100000 in
def dt_X6_failHere : List (Nat × Instr × Nat) := [(0, .aload_n 0, 1), (1, .iconst 1, 1), (2, .aload_n 0, 1), (3, .getfield 91, 3), (6, .invokevirtual 84, 3), (9, .ireturn, 1)]
set_option maxRecDepth 100000 in
theorem dk_X6_failHere : dt_X6_failHere.all (fun q => decide (decode cX6_failHere q.1 = .ok q.2)) = true := by decide +kernel
set_option maxRecDepth 100000 in
def f_X6_failHere (r0 : Nat) (M : Mem) : Option (Int32 × Mem) := Option.bind (f_X6_failBy r0 1 (zI M r0 8) M) fun z1 => zbz z1.1 (some (z1.1, z1.2))
set_option maxRecDepth 100000 in
set_option maxHeartbeats 4000000 in
theorem x_X6_failHere {κ : KX} {n : Nat} (hC : CX κ cX6_failHere RX6 1 (some .boolean) 1) (hE : zEnd κ n (0, 0)) (hk0 : zRk κ (0, 0)) (r0 : Nat) (M : Mem) (h_r0 : zO n r0 6) : X κ 1 emI n (0, 0) 0 [.ref r0] [] M (f_X6_failHere r0 M) := by
  unfold f_X6_failHere
  refine x_aload_n (i := 0) rfl hC (zdk dk_X6_failHere 0 rfl) (q := 1) rfl ?_
  refine x_iconst (i := 1) c_iconst_1 hC (zdk dk_X6_failHere 1 rfl) (q := 2) rfl ?_
  refine x_aload_n (i := 0) rfl hC (zdk dk_X6_failHere 2 rfl) (q := 3) rfl ?_
  refine x_getI fl_RX6_91 (by decide) h_r0 hC (zdk dk_X6_failHere 3 rfl) (q := 6) rfl ?_
  refine x_callVi (as := [.int 1, .int (zI M r0 8)]) cb_RX6_84 rfl (by decide) hk0 h_r0 (fun x hx => t_X6_failBy h_r0 x hx) hC (zdk dk_X6_failHere 4 rfl) (q := 9) rfl rfl (Nat.le_of_ble_eq_true rfl) (fun z1 => ?_)
  refine x_bz (fun hb2 => ?_)
  exact x_iret (ty := .boolean) hb2.1 hE hC (zdk dk_X6_failHere 5 rfl)
set_option maxRecDepth 100000 in
set_option maxHeartbeats 4000000 in
theorem t_X6_failHere {n : Nat} {r0 : Nat} {M : Mem} (h_r0 : zO n r0 6) (x : (Int32 × Mem)) (hx : f_X6_failHere r0 M = some x) (l : Launch) (dC : Nat → ClassId) (dI : Nat → Nat → Nat) (b : zSg) : MT l dC dI b yX6_failHere cX6_failHere 1 (some .boolean) 1 0 0 n n [.ref r0] M (emI x).1 (emI x).2 :=
  MT.ofX (by decide +kernel) rfl (Nat.le_of_ble_eq_true rfl) (fun κ hC hF _ => x_X6_failHere hC (zEnd_of hF (Nat.le_refl _) (Nat.le_refl _)) (zRk_of hF (Nat.le_refl _) (Nat.le_refl _)) _ _ h_r0) x hx
set_option maxRecDepth 100000 in
def dt_X6_readNumber : List (Nat × Instr × Nat) := [(0, .aload_n 0, 1), (1, .getfield 78, 3), (4, .bipush (-3), 2), (6, .if_icmp .eq 10, 3), (9, .aload_n 0, 1), (10, .invokevirtual 115, 3), (13, .pop, 1), (14, .iconst (-1), 1), (15, .ireturn, 1), (16, .aload_n 0, 1), (17, .getfield 97, 3), (20, .iload_n 1, 1), (21, .if_icmp .lt 11, 3), (24, .aload_n 0, 1), (25, .getfield 97, 3), (28, .iload_n 2, 1), (29, .if_icmp .le 15, 3), (32, .aload_n 0, 1), (33, .iconst 4, 1), (34, .aload_n 0, 1), (35, .getfield 81, 3), (38, .invokevirtual 84, 3), (41, .pop, 1), (42, .iconst (-1), 1), (43, .ireturn, 1), (44, .aload_n 0, 1), (45, .getfield 97, 3), (48, .istore_n 3, 1), (49, .aload_n 0, 1), (50, .invokevirtual 64, 3), (53, .iload_n 3, 1), (54, .ireturn, 1)]
set_option maxRecDepth 100000 in
theorem dk_X6_readNumber : dt_X6_readNumber.all (fun q => decide (decode cX6_readNumber q.1 = .ok q.2)) = true := by decide +kernel
set_option maxRecDepth 100000 in
def f_X6_readNumber_32  (r0 : Nat) (x1 : Int32) (x2 : Int32)  (M : Mem) : Option (Int32 × Mem) := Option.bind (f_X6_failBy r0 4 (zI M r0 7) M) fun z1 => some ((-1), z1.2)
set_option maxRecDepth 100000 in
set_option maxHeartbeats 4000000 in
theorem x_X6_readNumber_32 {κ : KX} {n : Nat} (hC : CX κ cX6_readNumber RX6 4 (some .int) 2) (hE : zEnd κ n (0, 0)) (hk0 : zRk κ (0, 0)) {r0 : Nat} {x1 : Int32} {x2 : Int32} (h_r0 : zO n r0 6) (M : Mem) : X κ 4 emI n (0, 0) 32 [.ref r0, .null, .null, .null] [] M (f_X6_readNumber_32 r0 x1 x2 M) := by
  unfold f_X6_readNumber_32
  refine x_aload_n (i := 0) rfl hC (zdk dk_X6_readNumber 17 rfl) (q := 33) rfl ?_
  refine x_iconst (i := 4) c_iconst_4 hC (zdk dk_X6_readNumber 18 rfl) (q := 34) rfl ?_
  refine x_aload_n (i := 0) rfl hC (zdk dk_X6_readNumber 19 rfl) (q := 35) rfl ?_
  refine x_getI fl_RX6_81 (by decide) h_r0 hC (zdk dk_X6_readNumber 20 rfl) (q := 38) rfl ?_
  refine x_callVi (as := [.int 4, .int (zI M r0 7)]) cb_RX6_84 rfl (by decide) hk0 h_r0 (fun x hx => t_X6_failBy h_r0 x hx) hC (zdk dk_X6_readNumber 21 rfl) (q := 41) rfl rfl (Nat.le_of_ble_eq_true rfl) (fun z1 => ?_)
  refine x_pop rfl hC (zdk dk_X6_readNumber 22 rfl) (q := 42) rfl ?_
  refine x_iconst (i := (-1)) c_iconst_m1 hC (zdk dk_X6_readNumber 23 rfl) (q := 43) rfl ?_
  exact x_iret (ty := .int) rfl hE hC (zdk dk_X6_readNumber 24 rfl)
set_option maxRecDepth 100000 in
def f_X6_readNumber (r0 : Nat) (x1 : Int32) (x2 : Int32) (M : Mem) : Option (Int32 × Mem) := (if zI M r0 6 = (-3) then (if zI M r0 10 < x1 then f_X6_readNumber_32 r0 x1 x2 M else (if zI M r0 10 ≤ x2 then Option.bind (f_X6_look r0 M) fun M2 => some (zI M r0 10, M2) else f_X6_readNumber_32 r0 x1 x2 M)) else Option.bind (f_X6_failHere r0 M) fun z3 => some ((-1), z3.2))
set_option maxRecDepth 100000 in
set_option maxHeartbeats 4000000 in
theorem x_X6_readNumber {κ : KX} {n : Nat} (hC : CX κ cX6_readNumber RX6 4 (some .int) 2) (hE : zEnd κ n (0, 0)) (hk0 : zRk κ (0, 0)) (r0 : Nat) (x1 : Int32) (x2 : Int32) (M : Mem) (h_r0 : zO n r0 6) : X κ 4 emI n (0, 0) 0 [.ref r0, .int x1, .int x2, .null] [] M (f_X6_readNumber r0 x1 x2 M) := by
  unfold f_X6_readNumber
  refine x_aload_n (i := 0) rfl hC (zdk dk_X6_readNumber 0 rfl) (q := 1) rfl ?_
  refine x_getI fl_RX6_78 (by decide) h_r0 hC (zdk dk_X6_readNumber 1 rfl) (q := 4) rfl ?_
  refine x_bipush (i := (-3)) c_bipush_m3 hC (zdk dk_X6_readNumber 2 rfl) (q := 6) rfl ?_
  refine x_icmp_eq (tgt := 16) hC (zdk dk_X6_readNumber 3 rfl) (q := 9) rfl rfl (fun _ => ?_) (fun _ => ?_)
  · refine x_aload_n (i := 0) rfl hC (zdk dk_X6_readNumber 9 rfl) (q := 17) rfl ?_
    refine x_getI fl_RX6_97 (by decide) h_r0 hC (zdk dk_X6_readNumber 10 rfl) (q := 20) rfl ?_
    refine x_iload_n (i := 1) rfl hC (zdk dk_X6_readNumber 11 rfl) (q := 21) rfl ?_
    refine x_icmp_lt (tgt := 32) hC (zdk dk_X6_readNumber 12 rfl) (q := 24) rfl rfl (fun _ => ?_) (fun _ => ?_)
    · refine x_weak (L' := [.ref r0, .null, .null, .null]) ⟨Or.inr rfl, Or.inl rfl, Or.inl rfl, Or.inl rfl, trivial⟩ ?_
      exact x_X6_readNumber_32 hC hE hk0 h_r0 _
    · refine x_aload_n (i := 0) rfl hC (zdk dk_X6_readNumber 13 rfl) (q := 25) rfl ?_
      refine x_getI fl_RX6_97 (by decide) h_r0 hC (zdk dk_X6_readNumber 14 rfl) (q := 28) rfl ?_
      refine x_iload_n (i := 2) rfl hC (zdk dk_X6_readNumber 15 rfl) (q := 29) rfl ?_
      refine x_icmp_le (tgt := 44) hC (zdk dk_X6_readNumber 16 rfl) (q := 32) rfl rfl (fun _ => ?_) (fun _ => ?_)
      · refine x_aload_n (i := 0) rfl hC (zdk dk_X6_readNumber 25 rfl) (q := 45) rfl ?_
        refine x_getI fl_RX6_97 (by decide) h_r0 hC (zdk dk_X6_readNumber 26 rfl) (q := 48) rfl ?_
        refine x_istore_n (i := 3) (L' := [.ref r0, .int x1, .int x2, .int (zI M r0 10)]) (by decide) rfl hC (zdk dk_X6_readNumber 27 rfl) (q := 49) rfl ?_
        refine x_aload_n (i := 0) rfl hC (zdk dk_X6_readNumber 28 rfl) (q := 50) rfl ?_
        refine x_callVv (as := []) cb_RX6_64 rfl (by decide) hk0 h_r0 (fun x hx => t_X6_look h_r0 x hx) hC (zdk dk_X6_readNumber 29 rfl) (q := 53) rfl rfl (Nat.le_of_ble_eq_true rfl) (fun M2 => ?_)
        refine x_iload_n (i := 3) rfl hC (zdk dk_X6_readNumber 30 rfl) (q := 54) rfl ?_
        exact x_iret (ty := .int) rfl hE hC (zdk dk_X6_readNumber 31 rfl)
      · refine x_weak (L' := [.ref r0, .null, .null, .null]) ⟨Or.inr rfl, Or.inl rfl, Or.inl rfl, Or.inl rfl, trivial⟩ ?_
        exact x_X6_readNumber_32 hC hE hk0 h_r0 _
  · refine x_aload_n (i := 0) rfl hC (zdk dk_X6_readNumber 4 rfl) (q := 10) rfl ?_
    refine x_callVi (as := []) cb_RX6_115 rfl (by decide) hk0 h_r0 (fun x hx => t_X6_failHere h_r0 x hx) hC (zdk dk_X6_readNumber 5 rfl) (q := 13) rfl rfl (Nat.le_of_ble_eq_true rfl) (fun z3 => ?_)
    refine x_pop rfl hC (zdk dk_X6_readNumber 6 rfl) (q := 14) rfl ?_
    refine x_iconst (i := (-1)) c_iconst_m1 hC (zdk dk_X6_readNumber 7 rfl) (q := 15) rfl ?_
    exact x_iret (ty := .int) rfl hE hC (zdk dk_X6_readNumber 8 rfl)
set_option maxRecDepth 100000 in
set_option maxHeartbeats 4000000 in
theorem t_X6_readNumber {n : Nat} {r0 : Nat} {x1 : Int32} {x2 : Int32} {M : Mem} (h_r0 : zO n r0 6) (x : (Int32 × Mem)) (hx : f_X6_readNumber r0 x1 x2 M = some x) (l : Launch) (dC : Nat → ClassId) (dI : Nat → Nat → Nat) (b : zSg) : MT l dC dI b yX6_readNumber cX6_readNumber 4 (some .int) 2 0 0 n n [.ref r0, .int x1, .int x2] M (emI x).1 (emI x).2 :=
  MT.ofX (by decide +kernel) rfl (Nat.le_of_ble_eq_true rfl) (fun κ hC hF _ => x_X6_readNumber hC (zEnd_of hF (Nat.le_refl _) (Nat.le_refl _)) (zRk_of hF (Nat.le_refl _) (Nat.le_refl _)) _ _ _ _ h_r0) x hx
set_option maxRecDepth 100000 in
def dt_X6_isOwn : List (Nat × Instr × Nat) := [(0, .aload_n 0, 1), (1, .getfield 78, 3), (4, .bipush (-2), 2), (6, .if_icmp .ne 15, 3), (9, .aload_n 0, 1), (10, .getfield 94, 3), (13, .iload_n 1, 1), (14, .if_icmp .ne 7, 3), (17, .iconst 1, 1), (18, .goto 4, 3), (21, .iconst 0, 1), (22, .ireturn, 1)]
set_option maxRecDepth 100000 in
theorem dk_X6_isOwn : dt_X6_isOwn.all (fun q => decide (decode cX6_isOwn q.1 = .ok q.2)) = true := by decide +kernel
set_option maxRecDepth 100000 in
def f_X6_isOwn_22  (r0 : Nat) (x1 : Int32) (s0 : Int32) (M : Mem) : Option (Int32 × Mem) := zbz s0 (some (s0, M))
set_option maxRecDepth 100000 in
set_option maxHeartbeats 4000000 in
theorem x_X6_isOwn_22 {κ : KX} {n : Nat} (hC : CX κ cX6_isOwn RX6 2 (some .boolean) 0) (hE : zEnd κ n (0, 0)) (hk0 : zRk κ (0, 0)) {r0 : Nat} {x1 : Int32} (h_r0 : zO n r0 6) (s0 : Int32) (M : Mem) : X κ 2 emI n (0, 0) 22 [.null, .null] [.int s0] M (f_X6_isOwn_22 r0 x1 s0 M) := by
  unfold f_X6_isOwn_22
  refine x_bz (fun hb1 => ?_)
  exact x_iret (ty := .boolean) hb1.1 hE hC (zdk dk_X6_isOwn 11 rfl)
set_option maxRecDepth 100000 in
def f_X6_isOwn_21  (r0 : Nat) (x1 : Int32)  (M : Mem) : Option (Int32 × Mem) := f_X6_isOwn_22 r0 x1 0 M
set_option maxRecDepth 100000 in
set_option maxHeartbeats 4000000 in
theorem x_X6_isOwn_21 {κ : KX} {n : Nat} (hC : CX κ cX6_isOwn RX6 2 (some .boolean) 0) (hE : zEnd κ n (0, 0)) (hk0 : zRk κ (0, 0)) {r0 : Nat} {x1 : Int32} (h_r0 : zO n r0 6) (M : Mem) : X κ 2 emI n (0, 0) 21 [.null, .null] [] M (f_X6_isOwn_21 r0 x1 M) := by
  unfold f_X6_isOwn_21
  refine x_iconst (i := 0) c_iconst_0 hC (zdk dk_X6_isOwn 10 rfl) (q := 22) rfl ?_
  refine x_weak (L' := [.null, .null]) ⟨Or.inl rfl, Or.inl rfl, trivial⟩ ?_
  exact x_X6_isOwn_22 hC hE hk0 h_r0 _ _
set_option maxRecDepth 100000 in
def f_X6_isOwn (r0 : Nat) (x1 : Int32) (M : Mem) : Option (Int32 × Mem) := (if zI M r0 6 = (-2) then (if zI M r0 11 = x1 then f_X6_isOwn_22 r0 x1 1 M else f_X6_isOwn_21 r0 x1 M) else f_X6_isOwn_21 r0 x1 M)
set_option maxRecDepth 100000 in
set_option maxHeartbeats 4000000 in
theorem x_X6_isOwn {κ : KX} {n : Nat} (hC : CX κ cX6_isOwn RX6 2 (some .boolean) 0) (hE : zEnd κ n (0, 0)) (hk0 : zRk κ (0, 0)) (r0 : Nat) (x1 : Int32) (M : Mem) (h_r0 : zO n r0 6) : X κ 2 emI n (0, 0) 0 [.ref r0, .int x1] [] M (f_X6_isOwn r0 x1 M) := by
  unfold f_X6_isOwn
  refine x_aload_n (i := 0) rfl hC (zdk dk_X6_isOwn 0 rfl) (q := 1) rfl ?_
  refine x_getI fl_RX6_78 (by decide) h_r0 hC (zdk dk_X6_isOwn 1 rfl) (q := 4) rfl ?_
  refine x_bipush (i := (-2)) c_bipush_m2 hC (zdk dk_X6_isOwn 2 rfl) (q := 6) rfl ?_
  refine x_icmp_ne (tgt := 21) hC (zdk dk_X6_isOwn 3 rfl) (q := 9) rfl rfl (fun _ => ?_) (fun _ => ?_)
  · refine x_weak (L' := [.null, .null]) ⟨Or.inl rfl, Or.inl rfl, trivial⟩ ?_
    exact x_X6_isOwn_21 hC hE hk0 h_r0 _
  · refine x_aload_n (i := 0) rfl hC (zdk dk_X6_isOwn 4 rfl) (q := 10) rfl ?_
    refine x_getI fl_RX6_94 (by decide) h_r0 hC (zdk dk_X6_isOwn 5 rfl) (q := 13) rfl ?_
    refine x_iload_n (i := 1) rfl hC (zdk dk_X6_isOwn 6 rfl) (q := 14) rfl ?_
    refine x_icmp_ne (tgt := 21) hC (zdk dk_X6_isOwn 7 rfl) (q := 17) rfl rfl (fun _ => ?_) (fun _ => ?_)
    · refine x_weak (L' := [.null, .null]) ⟨Or.inl rfl, Or.inl rfl, trivial⟩ ?_
      exact x_X6_isOwn_21 hC hE hk0 h_r0 _
    · refine x_iconst (i := 1) c_iconst_1 hC (zdk dk_X6_isOwn 8 rfl) (q := 18) rfl ?_
      refine x_goto (tgt := 22) hC (zdk dk_X6_isOwn 9 rfl) rfl ?_
      refine x_weak (L' := [.null, .null]) ⟨Or.inl rfl, Or.inl rfl, trivial⟩ ?_
      exact x_X6_isOwn_22 hC hE hk0 h_r0 _ _
set_option maxRecDepth 100000 in
set_option maxHeartbeats 4000000 in
theorem t_X6_isOwn {n : Nat} {r0 : Nat} {x1 : Int32} {M : Mem} (h_r0 : zO n r0 6) (x : (Int32 × Mem)) (hx : f_X6_isOwn r0 x1 M = some x) (l : Launch) (dC : Nat → ClassId) (dI : Nat → Nat → Nat) (b : zSg) : MT l dC dI b yX6_isOwn cX6_isOwn 2 (some .boolean) 0 0 0 n n [.ref r0, .int x1] M (emI x).1 (emI x).2 :=
  MT.ofX (by decide +kernel) rfl (Nat.le_of_ble_eq_true rfl) (fun κ hC hF _ => x_X6_isOwn hC (zEnd_of hF (Nat.le_refl _) (Nat.le_refl _)) (zRk_of hF (Nat.le_refl _) (Nat.le_refl _)) _ _ _ h_r0) x hx
set_option maxRecDepth 100000 in
def dt_X6_readOwn : List (Nat × Instr × Nat) := [(0, .aload_n 0, 1), (1, .iload_n 1, 1), (2, .invokevirtual 112, 3), (5, .ifCond .ne 8, 3), (8, .aload_n 0, 1), (9, .invokevirtual 115, 3), (12, .ireturn, 1), (13, .aload_n 0, 1), (14, .invokevirtual 64, 3), (17, .iconst 1, 1), (18, .ireturn, 1)]
set_option maxRecDepth 100000 in
theorem dk_X6_readOwn : dt_X6_readOwn.all (fun q => decide (decode cX6_readOwn q.1 = .ok q.2)) = true := by decide +kernel
set_option maxRecDepth 100000 in
def f_X6_readOwn (r0 : Nat) (x1 : Int32) (M : Mem) : Option (Int32 × Mem) := Option.bind (f_X6_isOwn r0 x1 M) fun z1 => (if z1.1 = 0 then Option.bind (f_X6_failHere r0 z1.2) fun z3 => zbz z3.1 (some (z3.1, z3.2)) else Option.bind (f_X6_look r0 z1.2) fun M2 => some (1, M2))
set_option maxRecDepth 100000 in
set_option maxHeartbeats 4000000 in
theorem x_X6_readOwn {κ : KX} {n : Nat} (hC : CX κ cX6_readOwn RX6 2 (some .boolean) 2) (hE : zEnd κ n (0, 0)) (hk0 : zRk κ (0, 0)) (r0 : Nat) (x1 : Int32) (M : Mem) (h_r0 : zO n r0 6) : X κ 2 emI n (0, 0) 0 [.ref r0, .int x1] [] M (f_X6_readOwn r0 x1 M) := by
  unfold f_X6_readOwn
  refine x_aload_n (i := 0) rfl hC (zdk dk_X6_readOwn 0 rfl) (q := 1) rfl ?_
  refine x_iload_n (i := 1) rfl hC (zdk dk_X6_readOwn 1 rfl) (q := 2) rfl ?_
  refine x_callVi (as := [.int x1]) cb_RX6_112 rfl (by decide) hk0 h_r0 (fun x hx => t_X6_isOwn h_r0 x hx) hC (zdk dk_X6_readOwn 2 rfl) (q := 5) rfl rfl (Nat.le_of_ble_eq_true rfl) (fun z1 => ?_)
  refine x_if_ne (tgt := 13) hC (zdk dk_X6_readOwn 3 rfl) (q := 8) rfl rfl (fun _ => ?_) (fun _ => ?_)
  · refine x_aload_n (i := 0) rfl hC (zdk dk_X6_readOwn 7 rfl) (q := 14) rfl ?_
    refine x_callVv (as := []) cb_RX6_64 rfl (by decide) hk0 h_r0 (fun x hx => t_X6_look h_r0 x hx) hC (zdk dk_X6_readOwn 8 rfl) (q := 17) rfl rfl (Nat.le_of_ble_eq_true rfl) (fun M2 => ?_)
    refine x_iconst (i := 1) c_iconst_1 hC (zdk dk_X6_readOwn 9 rfl) (q := 18) rfl ?_
    exact x_iret (ty := .boolean) rfl hE hC (zdk dk_X6_readOwn 10 rfl)
  · refine x_aload_n (i := 0) rfl hC (zdk dk_X6_readOwn 4 rfl) (q := 9) rfl ?_
    refine x_callVi (as := []) cb_RX6_115 rfl (by decide) hk0 h_r0 (fun x hx => t_X6_failHere h_r0 x hx) hC (zdk dk_X6_readOwn 5 rfl) (q := 12) rfl rfl (Nat.le_of_ble_eq_true rfl) (fun z3 => ?_)
    refine x_bz (fun hb4 => ?_)
    exact x_iret (ty := .boolean) hb4.1 hE hC (zdk dk_X6_readOwn 6 rfl)
set_option maxRecDepth 100000 in
set_option maxHeartbeats 4000000 in
theorem t_X6_readOwn {n : Nat} {r0 : Nat} {x1 : Int32} {M : Mem} (h_r0 : zO n r0 6) (x : (Int32 × Mem)) (hx : f_X6_readOwn r0 x1 M = some x) (l : Launch) (dC : Nat → ClassId) (dI : Nat → Nat → Nat) (b : zSg) : MT l dC dI b yX6_readOwn cX6_readOwn 2 (some .boolean) 2 0 0 n n [.ref r0, .int x1] M (emI x).1 (emI x).2 :=
  MT.ofX (by decide +kernel) rfl (Nat.le_of_ble_eq_true rfl) (fun κ hC hF _ => x_X6_readOwn hC (zEnd_of hF (Nat.le_refl _) (Nat.le_refl _)) (zRk_of hF (Nat.le_refl _) (Nat.le_refl _)) _ _ _ h_r0) x hx
set_option maxRecDepth 100000 in
def dt_X6_readField : List (Nat × Instr × Nat) := [(0, .aload_n 0, 1), (1, .iconst 0, 1), (2, .invokevirtual 118, 3), (5, .ifCond .ne 5, 3), (8, .iconst 0, 1), (9, .ireturn, 1), (10, .aload_n 0, 1), (11, .iconst 3, 1), (12, .bipush 6, 2), (14, .invokevirtual 121, 3), (17, .istore_n 1, 1), (18, .iload_n 1, 1), (19, .iconst (-1), 1), (20, .if_icmp .eq 11, 3), (23, .aload_n 0, 1), (24, .iconst 1, 1), (25, .invokevirtual 118, 3), (28, .ifCond .ne 5, 3), (31, .iconst 0, 1), (32, .ireturn, 1), (33, .aload_n 0, 1), (34, .getfield 78, 3), (37, .bipush (-3), 2), (39, .if_icmp .ne 31, 3), (42, .aload_n 0, 1), (43, .getfield 18, 3), (46, .getfield 124, 3), (49, .iload_n 1, 1), (50, .aload_n 0, 1), (51, .getfield 97, 3), (54, .invokevirtual 128, 3), (57, .ifCond .ne 13, 3), (60, .aload_n 0, 1), (61, .iconst 4, 1), (62, .aload_n 0, 1), (63, .getfield 81, 3), (66, .invokevirtual 84, 3), (69, .ireturn, 1), (70, .aload_n 0, 1), (71, .iconst 0, 1), (72, .sipush 9999, 3), (75, .invokevirtual 121, 3), (78, .iconst (-1), 1), (79, .if_icmp .eq 11, 3), (82, .aload_n 0, 1), (83, .iconst 2, 1), (84, .invokevirtual 118, 3), (87, .ifCond .ne 5, 3), (90, .iconst 0, 1), (91, .ireturn, 1), (92, .aload_n 0, 1), (93, .getfield 81, 3), (96, .istore_n 2, 1), (97, .aload_n 0, 1), (98, .iconst 1, 1), (99, .iconst 5, 1), (100, .invokevirtual 121, 3), (103, .istore_n 3, 1), (104, .iload_n 3, 1), (105, .iconst (-1), 1), (106, .if_icmp .ne 5, 3), (109, .iconst 0, 1), (110, .ireturn, 1), (111, .aload_n 0, 1), (112, .getfield 18, 3), (115, .getfield 124, 3), (118, .iload_n 3, 1), (119, .invokevirtual 133, 3), (122, .ifCond .ne 10, 3), (125, .aload_n 0, 1), (126, .iconst 4, 1), (127, .iload_n 2, 1), (128, .invokevirtual 84, 3), (131, .ireturn, 1), (132, .aload_n 0, 1), (133, .iconst 3, 1), (134, .invokevirtual 118, 3), (137, .ifCond .ne 5, 3), (140, .iconst 0, 1), (141, .ireturn, 1), (142, .aload_n 0, 1), (143, .getfield 78, 3), (146, .bipush (-3), 2), (148, .if_icmp .ne 30, 3), (151, .aload_n 0, 1), (152, .getfield 18, 3), (155, .getfield 124, 3), (158, .aload_n 0, 1), (159, .getfield 97, 3), (162, .invokevirtual 136, 3), (165, .ifCond .ne 13, 3), (168, .aload_n 0, 1), (169, .iconst 4, 1), (170, .aload_n 0, 1), (171, .getfield 81, 3), (174, .invokevirtual 84, 3), (177, .ireturn, 1), (178, .aload_n 0, 1), (179, .iconst 0, 1), (180, .sipush 9999, 3), (183, .invokevirtual 121, 3), (186, .iconst (-1), 1), (187, .if_icmp .eq 7, 3), (190, .iconst 1, 1), (191, .goto 4, 3), (194, .iconst 0, 1), (195, .ireturn, 1)]
set_option maxRecDepth 100000 in
theorem dk_X6_readField : dt_X6_readField.all (fun q => decide (decode cX6_readField q.1 = .ok q.2)) = true := by decide +kernel
set_option maxRecDepth 100000 in
def f_X6_readField_31  (r0 : Nat)  (M : Mem) : Option (Int32 × Mem) := some (0, M)
set_option maxRecDepth 100000 in
set_option maxHeartbeats 4000000 in
theorem x_X6_readField_31 {κ : KX} {n : Nat} (hC : CX κ cX6_readField RX6 4 (some .boolean) 4) (hE : zEnd κ n (0, 0)) (hk0 : zRk κ (0, 0)) {r0 : Nat} (h_r0 : zO n r0 6) (M : Mem) : X κ 4 emI n (0, 0) 31 [.null, .null, .null, .null] [] M (f_X6_readField_31 r0 M) := by
  unfold f_X6_readField_31
  refine x_iconst (i := 0) c_iconst_0 hC (zdk dk_X6_readField 18 rfl) (q := 32) rfl ?_
  exact x_iret (ty := .boolean) rfl hE hC (zdk dk_X6_readField 19 rfl)
set_option maxRecDepth 100000 in
def f_X6_readField_90  (r0 : Nat)  (M : Mem) : Option (Int32 × Mem) := some (0, M)
set_option maxRecDepth 100000 in
set_option maxHeartbeats 4000000 in
theorem x_X6_readField_90 {κ : KX} {n : Nat} (hC : CX κ cX6_readField RX6 4 (some .boolean) 4) (hE : zEnd κ n (0, 0)) (hk0 : zRk κ (0, 0)) {r0 : Nat} (h_r0 : zO n r0 6) (M : Mem) : X κ 4 emI n (0, 0) 90 [.null, .null, .null, .null] [] M (f_X6_readField_90 r0 M) := by
  unfold f_X6_readField_90
  refine x_iconst (i := 0) c_iconst_0 hC (zdk dk_X6_readField 48 rfl) (q := 91) rfl ?_
  exact x_iret (ty := .boolean) rfl hE hC (zdk dk_X6_readField 49 rfl)
set_option maxRecDepth 100000 in
def f_X6_readField_195  (r0 : Nat) (s0 : Int32) (M : Mem) : Option (Int32 × Mem) := zbz s0 (some (s0, M))
set_option maxRecDepth 100000 in
set_option maxHeartbeats 4000000 in
theorem x_X6_readField_195 {κ : KX} {n : Nat} (hC : CX κ cX6_readField RX6 4 (some .boolean) 4) (hE : zEnd κ n (0, 0)) (hk0 : zRk κ (0, 0)) {r0 : Nat} (h_r0 : zO n r0 6) (s0 : Int32) (M : Mem) : X κ 4 emI n (0, 0) 195 [.null, .null, .null, .null] [.int s0] M (f_X6_readField_195 r0 s0 M) := by
  unfold f_X6_readField_195
  refine x_bz (fun hb1 => ?_)
  exact x_iret (ty := .boolean) hb1.1 hE hC (zdk dk_X6_readField 106 rfl)
set_option maxRecDepth 100000 in
def f_X6_readField_178  (r0 : Nat)  (M : Mem) : Option (Int32 × Mem) := Option.bind (f_X6_readNumber r0 0 9999 M) fun z2 => (if z2.1 = (-1) then f_X6_readField_195 r0 0 z2.2 else f_X6_readField_195 r0 1 z2.2)
set_option maxRecDepth 100000 in
set_option maxHeartbeats 4000000 in
theorem x_X6_readField_178 {κ : KX} {n : Nat} (hC : CX κ cX6_readField RX6 4 (some .boolean) 4) (hE : zEnd κ n (0, 0)) (hk0 : zRk κ (0, 0)) {r0 : Nat} (h_r0 : zO n r0 6) (M : Mem) : X κ 4 emI n (0, 0) 178 [.ref r0, .null, .null, .null] [] M (f_X6_readField_178 r0 M) := by
  unfold f_X6_readField_178
  refine x_aload_n (i := 0) rfl hC (zdk dk_X6_readField 97 rfl) (q := 179) rfl ?_
  refine x_iconst (i := 0) c_iconst_0 hC (zdk dk_X6_readField 98 rfl) (q := 180) rfl ?_
  refine x_sipush (i := 9999) c_sipush_9999 hC (zdk dk_X6_readField 99 rfl) (q := 183) rfl ?_
  refine x_callVi (as := [.int 0, .int 9999]) cb_RX6_121 rfl (by decide) hk0 h_r0 (fun x hx => t_X6_readNumber h_r0 x hx) hC (zdk dk_X6_readField 100 rfl) (q := 186) rfl rfl (Nat.le_of_ble_eq_true rfl) (fun z2 => ?_)
  refine x_iconst (i := (-1)) c_iconst_m1 hC (zdk dk_X6_readField 101 rfl) (q := 187) rfl ?_
  refine x_icmp_eq (tgt := 194) hC (zdk dk_X6_readField 102 rfl) (q := 190) rfl rfl (fun _ => ?_) (fun _ => ?_)
  · refine x_iconst (i := 0) c_iconst_0 hC (zdk dk_X6_readField 105 rfl) (q := 195) rfl ?_
    refine x_weak (L' := [.null, .null, .null, .null]) ⟨Or.inl rfl, Or.inl rfl, Or.inl rfl, Or.inl rfl, trivial⟩ ?_
    exact x_X6_readField_195 hC hE hk0 h_r0 _ _
  · refine x_iconst (i := 1) c_iconst_1 hC (zdk dk_X6_readField 103 rfl) (q := 191) rfl ?_
    refine x_goto (tgt := 195) hC (zdk dk_X6_readField 104 rfl) rfl ?_
    refine x_weak (L' := [.null, .null, .null, .null]) ⟨Or.inl rfl, Or.inl rfl, Or.inl rfl, Or.inl rfl, trivial⟩ ?_
    exact x_X6_readField_195 hC hE hk0 h_r0 _ _
set_option maxRecDepth 100000 in
def f_X6_readField_70  (r0 : Nat)  (M : Mem) : Option (Int32 × Mem) := Option.bind (f_X6_readNumber r0 0 9999 M) fun z3 => (if z3.1 = (-1) then f_X6_readField_90 r0 z3.2 else Option.bind (f_X6_readOwn r0 2 z3.2) fun z4 => (if z4.1 = 0 then f_X6_readField_90 r0 z4.2 else Option.bind (f_X6_readNumber r0 1 5 z4.2) fun z5 => (if z5.1 = (-1) then some (0, z5.2) else Option.bind (zrf z5.2 r0 2) fun q6 => Option.bind (zrf z5.2 q6 0) fun q7 => Option.bind (f_X1_takesMends q7 z5.1 z5.2) fun z8 => (if z8.1 = 0 then Option.bind (f_X6_failBy r0 4 (zI z4.2 r0 7) z8.2) fun z15 => zbz z15.1 (some (z15.1, z15.2)) else Option.bind (f_X6_readOwn r0 3 z8.2) fun z9 => (if z9.1 = 0 then some (0, z9.2) else (if zI z9.2 r0 6 = (-3) then Option.bind (zrf z9.2 r0 2) fun q10 => Option.bind (zrf z9.2 q10 0) fun q11 => Option.bind (f_X1_takesShort q11 (zI z9.2 r0 10) z9.2) fun z12 => (if z12.1 = 0 then Option.bind (f_X6_failBy r0 4 (zI z12.2 r0 7) z12.2) fun z13 => zbz z13.1 (some (z13.1, z13.2)) else f_X6_readField_178 r0 z12.2) else f_X6_readField_178 r0 z9.2))))))
set_option maxRecDepth 100000 in
set_option maxHeartbeats 4000000 in
theorem x_X6_readField_70 {κ : KX} {n : Nat} (hC : CX κ cX6_readField RX6 4 (some .boolean) 4) (hE : zEnd κ n (0, 0)) (hk0 : zRk κ (0, 0)) {r0 : Nat} (h_r0 : zO n r0 6) (M : Mem) : X κ 4 emI n (0, 0) 70 [.ref r0, .null, .null, .null] [] M (f_X6_readField_70 r0 M) := by
  unfold f_X6_readField_70
  refine x_aload_n (i := 0) rfl hC (zdk dk_X6_readField 38 rfl) (q := 71) rfl ?_
  refine x_iconst (i := 0) c_iconst_0 hC (zdk dk_X6_readField 39 rfl) (q := 72) rfl ?_
  refine x_sipush (i := 9999) c_sipush_9999 hC (zdk dk_X6_readField 40 rfl) (q := 75) rfl ?_
  refine x_callVi (as := [.int 0, .int 9999]) cb_RX6_121 rfl (by decide) hk0 h_r0 (fun x hx => t_X6_readNumber h_r0 x hx) hC (zdk dk_X6_readField 41 rfl) (q := 78) rfl rfl (Nat.le_of_ble_eq_true rfl) (fun z3 => ?_)
  refine x_iconst (i := (-1)) c_iconst_m1 hC (zdk dk_X6_readField 42 rfl) (q := 79) rfl ?_
  refine x_icmp_eq (tgt := 90) hC (zdk dk_X6_readField 43 rfl) (q := 82) rfl rfl (fun _ => ?_) (fun _ => ?_)
  · refine x_weak (L' := [.null, .null, .null, .null]) ⟨Or.inl rfl, Or.inl rfl, Or.inl rfl, Or.inl rfl, trivial⟩ ?_
    exact x_X6_readField_90 hC hE hk0 h_r0 _
  · refine x_aload_n (i := 0) rfl hC (zdk dk_X6_readField 44 rfl) (q := 83) rfl ?_
    refine x_iconst (i := 2) c_iconst_2 hC (zdk dk_X6_readField 45 rfl) (q := 84) rfl ?_
    refine x_callVi (as := [.int 2]) cb_RX6_118 rfl (by decide) hk0 h_r0 (fun x hx => t_X6_readOwn h_r0 x hx) hC (zdk dk_X6_readField 46 rfl) (q := 87) rfl rfl (Nat.le_of_ble_eq_true rfl) (fun z4 => ?_)
    refine x_if_ne (tgt := 92) hC (zdk dk_X6_readField 47 rfl) (q := 90) rfl rfl (fun _ => ?_) (fun _ => ?_)
    · refine x_aload_n (i := 0) rfl hC (zdk dk_X6_readField 50 rfl) (q := 93) rfl ?_
      refine x_getI fl_RX6_81 (by decide) h_r0 hC (zdk dk_X6_readField 51 rfl) (q := 96) rfl ?_
      refine x_istore_n (i := 2) (L' := [.ref r0, .null, .int (zI z4.2 r0 7), .null]) (by decide) rfl hC (zdk dk_X6_readField 52 rfl) (q := 97) rfl ?_
      refine x_aload_n (i := 0) rfl hC (zdk dk_X6_readField 53 rfl) (q := 98) rfl ?_
      refine x_iconst (i := 1) c_iconst_1 hC (zdk dk_X6_readField 54 rfl) (q := 99) rfl ?_
      refine x_iconst (i := 5) c_iconst_5 hC (zdk dk_X6_readField 55 rfl) (q := 100) rfl ?_
      refine x_callVi (as := [.int 1, .int 5]) cb_RX6_121 rfl (by decide) hk0 h_r0 (fun x hx => t_X6_readNumber h_r0 x hx) hC (zdk dk_X6_readField 56 rfl) (q := 103) rfl rfl (Nat.le_of_ble_eq_true rfl) (fun z5 => ?_)
      refine x_istore_n (i := 3) (L' := [.ref r0, .null, .int (zI z4.2 r0 7), .int z5.1]) (by decide) rfl hC (zdk dk_X6_readField 57 rfl) (q := 104) rfl ?_
      refine x_iload_n (i := 3) rfl hC (zdk dk_X6_readField 58 rfl) (q := 105) rfl ?_
      refine x_iconst (i := (-1)) c_iconst_m1 hC (zdk dk_X6_readField 59 rfl) (q := 106) rfl ?_
      refine x_icmp_ne (tgt := 111) hC (zdk dk_X6_readField 60 rfl) (q := 109) rfl rfl (fun _ => ?_) (fun _ => ?_)
      · refine x_aload_n (i := 0) rfl hC (zdk dk_X6_readField 63 rfl) (q := 112) rfl ?_
        refine x_getR (k := 0) fl_RX6_18 rfl h_r0 hC (zdk dk_X6_readField 64 rfl) (q := 115) rfl (fun q6 hq6 => ?_)
        refine x_getR (k := 1) fl_RX6_124 rfl hq6 hC (zdk dk_X6_readField 65 rfl) (q := 118) rfl (fun q7 hq7 => ?_)
        refine x_iload_n (i := 3) rfl hC (zdk dk_X6_readField 66 rfl) (q := 119) rfl ?_
        refine x_callVi (as := [.int z5.1]) cb_RX6_133 rfl (by decide) hk0 hq7 (fun x hx => t_X1_takesMends hq7 x hx) hC (zdk dk_X6_readField 67 rfl) (q := 122) rfl rfl (Nat.le_of_ble_eq_true rfl) (fun z8 => ?_)
        refine x_if_ne (tgt := 132) hC (zdk dk_X6_readField 68 rfl) (q := 125) rfl rfl (fun _ => ?_) (fun _ => ?_)
        · refine x_aload_n (i := 0) rfl hC (zdk dk_X6_readField 74 rfl) (q := 133) rfl ?_
          refine x_iconst (i := 3) c_iconst_3 hC (zdk dk_X6_readField 75 rfl) (q := 134) rfl ?_
          refine x_callVi (as := [.int 3]) cb_RX6_118 rfl (by decide) hk0 h_r0 (fun x hx => t_X6_readOwn h_r0 x hx) hC (zdk dk_X6_readField 76 rfl) (q := 137) rfl rfl (Nat.le_of_ble_eq_true rfl) (fun z9 => ?_)
          refine x_if_ne (tgt := 142) hC (zdk dk_X6_readField 77 rfl) (q := 140) rfl rfl (fun _ => ?_) (fun _ => ?_)
          · refine x_aload_n (i := 0) rfl hC (zdk dk_X6_readField 80 rfl) (q := 143) rfl ?_
            refine x_getI fl_RX6_78 (by decide) h_r0 hC (zdk dk_X6_readField 81 rfl) (q := 146) rfl ?_
            refine x_bipush (i := (-3)) c_bipush_m3 hC (zdk dk_X6_readField 82 rfl) (q := 148) rfl ?_
            refine x_icmp_ne (tgt := 178) hC (zdk dk_X6_readField 83 rfl) (q := 151) rfl rfl (fun _ => ?_) (fun _ => ?_)
            · refine x_weak (L' := [.ref r0, .null, .null, .null]) ⟨Or.inr rfl, Or.inl rfl, Or.inl rfl, Or.inl rfl, trivial⟩ ?_
              exact x_X6_readField_178 hC hE hk0 h_r0 _
            · refine x_aload_n (i := 0) rfl hC (zdk dk_X6_readField 84 rfl) (q := 152) rfl ?_
              refine x_getR (k := 0) fl_RX6_18 rfl h_r0 hC (zdk dk_X6_readField 85 rfl) (q := 155) rfl (fun q10 hq10 => ?_)
              refine x_getR (k := 1) fl_RX6_124 rfl hq10 hC (zdk dk_X6_readField 86 rfl) (q := 158) rfl (fun q11 hq11 => ?_)
              refine x_aload_n (i := 0) rfl hC (zdk dk_X6_readField 87 rfl) (q := 159) rfl ?_
              refine x_getI fl_RX6_97 (by decide) h_r0 hC (zdk dk_X6_readField 88 rfl) (q := 162) rfl ?_
              refine x_callVi (as := [.int (zI z9.2 r0 10)]) cb_RX6_136 rfl (by decide) hk0 hq11 (fun x hx => t_X1_takesShort hq11 x hx) hC (zdk dk_X6_readField 89 rfl) (q := 165) rfl rfl (Nat.le_of_ble_eq_true rfl) (fun z12 => ?_)
              refine x_if_ne (tgt := 178) hC (zdk dk_X6_readField 90 rfl) (q := 168) rfl rfl (fun _ => ?_) (fun _ => ?_)
              · refine x_weak (L' := [.ref r0, .null, .null, .null]) ⟨Or.inr rfl, Or.inl rfl, Or.inl rfl, Or.inl rfl, trivial⟩ ?_
                exact x_X6_readField_178 hC hE hk0 h_r0 _
              · refine x_aload_n (i := 0) rfl hC (zdk dk_X6_readField 91 rfl) (q := 169) rfl ?_
                refine x_iconst (i := 4) c_iconst_4 hC (zdk dk_X6_readField 92 rfl) (q := 170) rfl ?_
                refine x_aload_n (i := 0) rfl hC (zdk dk_X6_readField 93 rfl) (q := 171) rfl ?_
                refine x_getI fl_RX6_81 (by decide) h_r0 hC (zdk dk_X6_readField 94 rfl) (q := 174) rfl ?_
                refine x_callVi (as := [.int 4, .int (zI z12.2 r0 7)]) cb_RX6_84 rfl (by decide) hk0 h_r0 (fun x hx => t_X6_failBy h_r0 x hx) hC (zdk dk_X6_readField 95 rfl) (q := 177) rfl rfl (Nat.le_of_ble_eq_true rfl) (fun z13 => ?_)
                refine x_bz (fun hb14 => ?_)
                exact x_iret (ty := .boolean) hb14.1 hE hC (zdk dk_X6_readField 96 rfl)
          · refine x_iconst (i := 0) c_iconst_0 hC (zdk dk_X6_readField 78 rfl) (q := 141) rfl ?_
            exact x_iret (ty := .boolean) rfl hE hC (zdk dk_X6_readField 79 rfl)
        · refine x_aload_n (i := 0) rfl hC (zdk dk_X6_readField 69 rfl) (q := 126) rfl ?_
          refine x_iconst (i := 4) c_iconst_4 hC (zdk dk_X6_readField 70 rfl) (q := 127) rfl ?_
          refine x_iload_n (i := 2) rfl hC (zdk dk_X6_readField 71 rfl) (q := 128) rfl ?_
          refine x_callVi (as := [.int 4, .int (zI z4.2 r0 7)]) cb_RX6_84 rfl (by decide) hk0 h_r0 (fun x hx => t_X6_failBy h_r0 x hx) hC (zdk dk_X6_readField 72 rfl) (q := 131) rfl rfl (Nat.le_of_ble_eq_true rfl) (fun z15 => ?_)
          refine x_bz (fun hb16 => ?_)
          exact x_iret (ty := .boolean) hb16.1 hE hC (zdk dk_X6_readField 73 rfl)
      · refine x_iconst (i := 0) c_iconst_0 hC (zdk dk_X6_readField 61 rfl) (q := 110) rfl ?_
        exact x_iret (ty := .boolean) rfl hE hC (zdk dk_X6_readField 62 rfl)
    · refine x_weak (L' := [.null, .null, .null, .null]) ⟨Or.inl rfl, Or.inl rfl, Or.inl rfl, Or.inl rfl, trivial⟩ ?_
      exact x_X6_readField_90 hC hE hk0 h_r0 _
set_option maxRecDepth 100000 in
def f_X6_readField (r0 : Nat) (M : Mem) : Option (Int32 × Mem) := Option.bind (f_X6_readOwn r0 0 M) fun z17 => (if z17.1 = 0 then some (0, z17.2) else Option.bind (f_X6_readNumber r0 3 6 z17.2) fun z18 => (if z18.1 = (-1) then f_X6_readField_31 r0 z18.2 else Option.bind (f_X6_readOwn r0 1 z18.2) fun z19 => (if z19.1 = 0 then f_X6_readField_31 r0 z19.2 else (if zI z19.2 r0 6 = (-3) then Option.bind (zrf z19.2 r0 2) fun q20 => Option.bind (zrf z19.2 q20 0) fun q21 => Option.bind (f_X1_takesPoly q21 z18.1 (zI z19.2 r0 10) z19.2) fun z22 => (if z22.1 = 0 then Option.bind (f_X6_failBy r0 4 (zI z22.2 r0 7) z22.2) fun z23 => zbz z23.1 (some (z23.1, z23.2)) else f_X6_readField_70 r0 z22.2) else f_X6_readField_70 r0 z19.2))))
set_option maxRecDepth 100000 in
set_option maxHeartbeats 4000000 in
theorem x_X6_readField {κ : KX} {n : Nat} (hC : CX κ cX6_readField RX6 4 (some .boolean) 4) (hE : zEnd κ n (0, 0)) (hk0 : zRk κ (0, 0)) (r0 : Nat) (M : Mem) (h_r0 : zO n r0 6) : X κ 4 emI n (0, 0) 0 [.ref r0, .null, .null, .null] [] M (f_X6_readField r0 M) := by
  unfold f_X6_readField
  refine x_aload_n (i := 0) rfl hC (zdk dk_X6_readField 0 rfl) (q := 1) rfl ?_
  refine x_iconst (i := 0) c_iconst_0 hC (zdk dk_X6_readField 1 rfl) (q := 2) rfl ?_
  refine x_callVi (as := [.int 0]) cb_RX6_118 rfl (by decide) hk0 h_r0 (fun x hx => t_X6_readOwn h_r0 x hx) hC (zdk dk_X6_readField 2 rfl) (q := 5) rfl rfl (Nat.le_of_ble_eq_true rfl) (fun z17 => ?_)
  refine x_if_ne (tgt := 10) hC (zdk dk_X6_readField 3 rfl) (q := 8) rfl rfl (fun _ => ?_) (fun _ => ?_)
  · refine x_aload_n (i := 0) rfl hC (zdk dk_X6_readField 6 rfl) (q := 11) rfl ?_
    refine x_iconst (i := 3) c_iconst_3 hC (zdk dk_X6_readField 7 rfl) (q := 12) rfl ?_
    refine x_bipush (i := 6) c_bipush_6 hC (zdk dk_X6_readField 8 rfl) (q := 14) rfl ?_
    refine x_callVi (as := [.int 3, .int 6]) cb_RX6_121 rfl (by decide) hk0 h_r0 (fun x hx => t_X6_readNumber h_r0 x hx) hC (zdk dk_X6_readField 9 rfl) (q := 17) rfl rfl (Nat.le_of_ble_eq_true rfl) (fun z18 => ?_)
    refine x_istore_n (i := 1) (L' := [.ref r0, .int z18.1, .null, .null]) (by decide) rfl hC (zdk dk_X6_readField 10 rfl) (q := 18) rfl ?_
    refine x_iload_n (i := 1) rfl hC (zdk dk_X6_readField 11 rfl) (q := 19) rfl ?_
    refine x_iconst (i := (-1)) c_iconst_m1 hC (zdk dk_X6_readField 12 rfl) (q := 20) rfl ?_
    refine x_icmp_eq (tgt := 31) hC (zdk dk_X6_readField 13 rfl) (q := 23) rfl rfl (fun _ => ?_) (fun _ => ?_)
    · refine x_weak (L' := [.null, .null, .null, .null]) ⟨Or.inl rfl, Or.inl rfl, Or.inl rfl, Or.inl rfl, trivial⟩ ?_
      exact x_X6_readField_31 hC hE hk0 h_r0 _
    · refine x_aload_n (i := 0) rfl hC (zdk dk_X6_readField 14 rfl) (q := 24) rfl ?_
      refine x_iconst (i := 1) c_iconst_1 hC (zdk dk_X6_readField 15 rfl) (q := 25) rfl ?_
      refine x_callVi (as := [.int 1]) cb_RX6_118 rfl (by decide) hk0 h_r0 (fun x hx => t_X6_readOwn h_r0 x hx) hC (zdk dk_X6_readField 16 rfl) (q := 28) rfl rfl (Nat.le_of_ble_eq_true rfl) (fun z19 => ?_)
      refine x_if_ne (tgt := 33) hC (zdk dk_X6_readField 17 rfl) (q := 31) rfl rfl (fun _ => ?_) (fun _ => ?_)
      · refine x_aload_n (i := 0) rfl hC (zdk dk_X6_readField 20 rfl) (q := 34) rfl ?_
        refine x_getI fl_RX6_78 (by decide) h_r0 hC (zdk dk_X6_readField 21 rfl) (q := 37) rfl ?_
        refine x_bipush (i := (-3)) c_bipush_m3 hC (zdk dk_X6_readField 22 rfl) (q := 39) rfl ?_
        refine x_icmp_ne (tgt := 70) hC (zdk dk_X6_readField 23 rfl) (q := 42) rfl rfl (fun _ => ?_) (fun _ => ?_)
        · refine x_weak (L' := [.ref r0, .null, .null, .null]) ⟨Or.inr rfl, Or.inl rfl, Or.inl rfl, Or.inl rfl, trivial⟩ ?_
          exact x_X6_readField_70 hC hE hk0 h_r0 _
        · refine x_aload_n (i := 0) rfl hC (zdk dk_X6_readField 24 rfl) (q := 43) rfl ?_
          refine x_getR (k := 0) fl_RX6_18 rfl h_r0 hC (zdk dk_X6_readField 25 rfl) (q := 46) rfl (fun q20 hq20 => ?_)
          refine x_getR (k := 1) fl_RX6_124 rfl hq20 hC (zdk dk_X6_readField 26 rfl) (q := 49) rfl (fun q21 hq21 => ?_)
          refine x_iload_n (i := 1) rfl hC (zdk dk_X6_readField 27 rfl) (q := 50) rfl ?_
          refine x_aload_n (i := 0) rfl hC (zdk dk_X6_readField 28 rfl) (q := 51) rfl ?_
          refine x_getI fl_RX6_97 (by decide) h_r0 hC (zdk dk_X6_readField 29 rfl) (q := 54) rfl ?_
          refine x_callVi (as := [.int z18.1, .int (zI z19.2 r0 10)]) cb_RX6_128 rfl (by decide) hk0 hq21 (fun x hx => t_X1_takesPoly hq21 x hx) hC (zdk dk_X6_readField 30 rfl) (q := 57) rfl rfl (Nat.le_of_ble_eq_true rfl) (fun z22 => ?_)
          refine x_if_ne (tgt := 70) hC (zdk dk_X6_readField 31 rfl) (q := 60) rfl rfl (fun _ => ?_) (fun _ => ?_)
          · refine x_weak (L' := [.ref r0, .null, .null, .null]) ⟨Or.inr rfl, Or.inl rfl, Or.inl rfl, Or.inl rfl, trivial⟩ ?_
            exact x_X6_readField_70 hC hE hk0 h_r0 _
          · refine x_aload_n (i := 0) rfl hC (zdk dk_X6_readField 32 rfl) (q := 61) rfl ?_
            refine x_iconst (i := 4) c_iconst_4 hC (zdk dk_X6_readField 33 rfl) (q := 62) rfl ?_
            refine x_aload_n (i := 0) rfl hC (zdk dk_X6_readField 34 rfl) (q := 63) rfl ?_
            refine x_getI fl_RX6_81 (by decide) h_r0 hC (zdk dk_X6_readField 35 rfl) (q := 66) rfl ?_
            refine x_callVi (as := [.int 4, .int (zI z22.2 r0 7)]) cb_RX6_84 rfl (by decide) hk0 h_r0 (fun x hx => t_X6_failBy h_r0 x hx) hC (zdk dk_X6_readField 36 rfl) (q := 69) rfl rfl (Nat.le_of_ble_eq_true rfl) (fun z23 => ?_)
            refine x_bz (fun hb24 => ?_)
            exact x_iret (ty := .boolean) hb24.1 hE hC (zdk dk_X6_readField 37 rfl)
      · refine x_weak (L' := [.null, .null, .null, .null]) ⟨Or.inl rfl, Or.inl rfl, Or.inl rfl, Or.inl rfl, trivial⟩ ?_
        exact x_X6_readField_31 hC hE hk0 h_r0 _
  · refine x_iconst (i := 0) c_iconst_0 hC (zdk dk_X6_readField 4 rfl) (q := 9) rfl ?_
    exact x_iret (ty := .boolean) rfl hE hC (zdk dk_X6_readField 5 rfl)
set_option maxRecDepth 100000 in
set_option maxHeartbeats 4000000 in
theorem t_X6_readField {n : Nat} {r0 : Nat} {M : Mem} (h_r0 : zO n r0 6) (x : (Int32 × Mem)) (hx : f_X6_readField r0 M = some x) (l : Launch) (dC : Nat → ClassId) (dI : Nat → Nat → Nat) (b : zSg) : MT l dC dI b yX6_readField cX6_readField 4 (some .boolean) 4 0 0 n n [.ref r0] M (emI x).1 (emI x).2 :=
  MT.ofX (by decide +kernel) rfl (Nat.le_of_ble_eq_true rfl) (fun κ hC hF _ => x_X6_readField hC (zEnd_of hF (Nat.le_refl _) (Nat.le_refl _)) (zRk_of hF (Nat.le_refl _) (Nat.le_refl _)) _ _ h_r0) x hx
set_option maxRecDepth 100000 in
def dt_X6_readSign : List (Nat × Instr × Nat) := [(0, .aload_n 0, 1), (1, .getfield 78, 3), (4, .iload_n 1, 1), (5, .if_icmp .eq 8, 3), (8, .aload_n 0, 1), (9, .invokevirtual 115, 3), (12, .ireturn, 1), (13, .aload_n 0, 1), (14, .invokevirtual 64, 3), (17, .iconst 1, 1), (18, .ireturn, 1)]
set_option maxRecDepth 100000 in
theorem dk_X6_readSign : dt_X6_readSign.all (fun q => decide (decode cX6_readSign q.1 = .ok q.2)) = true := by decide +kernel
set_option maxRecDepth 100000 in
def f_X6_readSign (r0 : Nat) (x1 : Int32) (M : Mem) : Option (Int32 × Mem) := (if zI M r0 6 = x1 then Option.bind (f_X6_look r0 M) fun M1 => some (1, M1) else Option.bind (f_X6_failHere r0 M) fun z2 => zbz z2.1 (some (z2.1, z2.2)))
set_option maxRecDepth 100000 in
set_option maxHeartbeats 4000000 in
theorem x_X6_readSign {κ : KX} {n : Nat} (hC : CX κ cX6_readSign RX6 2 (some .boolean) 2) (hE : zEnd κ n (0, 0)) (hk0 : zRk κ (0, 0)) (r0 : Nat) (x1 : Int32) (M : Mem) (h_r0 : zO n r0 6) : X κ 2 emI n (0, 0) 0 [.ref r0, .int x1] [] M (f_X6_readSign r0 x1 M) := by
  unfold f_X6_readSign
  refine x_aload_n (i := 0) rfl hC (zdk dk_X6_readSign 0 rfl) (q := 1) rfl ?_
  refine x_getI fl_RX6_78 (by decide) h_r0 hC (zdk dk_X6_readSign 1 rfl) (q := 4) rfl ?_
  refine x_iload_n (i := 1) rfl hC (zdk dk_X6_readSign 2 rfl) (q := 5) rfl ?_
  refine x_icmp_eq (tgt := 13) hC (zdk dk_X6_readSign 3 rfl) (q := 8) rfl rfl (fun _ => ?_) (fun _ => ?_)
  · refine x_aload_n (i := 0) rfl hC (zdk dk_X6_readSign 7 rfl) (q := 14) rfl ?_
    refine x_callVv (as := []) cb_RX6_64 rfl (by decide) hk0 h_r0 (fun x hx => t_X6_look h_r0 x hx) hC (zdk dk_X6_readSign 8 rfl) (q := 17) rfl rfl (Nat.le_of_ble_eq_true rfl) (fun M1 => ?_)
    refine x_iconst (i := 1) c_iconst_1 hC (zdk dk_X6_readSign 9 rfl) (q := 18) rfl ?_
    exact x_iret (ty := .boolean) rfl hE hC (zdk dk_X6_readSign 10 rfl)
  · refine x_aload_n (i := 0) rfl hC (zdk dk_X6_readSign 4 rfl) (q := 9) rfl ?_
    refine x_callVi (as := []) cb_RX6_115 rfl (by decide) hk0 h_r0 (fun x hx => t_X6_failHere h_r0 x hx) hC (zdk dk_X6_readSign 5 rfl) (q := 12) rfl rfl (Nat.le_of_ble_eq_true rfl) (fun z2 => ?_)
    refine x_bz (fun hb3 => ?_)
    exact x_iret (ty := .boolean) hb3.1 hE hC (zdk dk_X6_readSign 6 rfl)
set_option maxRecDepth 100000 in
set_option maxHeartbeats 4000000 in
theorem t_X6_readSign {n : Nat} {r0 : Nat} {x1 : Int32} {M : Mem} (h_r0 : zO n r0 6) (x : (Int32 × Mem)) (hx : f_X6_readSign r0 x1 M = some x) (l : Launch) (dC : Nat → ClassId) (dI : Nat → Nat → Nat) (b : zSg) : MT l dC dI b yX6_readSign cX6_readSign 2 (some .boolean) 2 0 0 n n [.ref r0, .int x1] M (emI x).1 (emI x).2 :=
  MT.ofX (by decide +kernel) rfl (Nat.le_of_ble_eq_true rfl) (fun κ hC hF _ => x_X6_readSign hC (zEnd_of hF (Nat.le_refl _) (Nat.le_refl _)) (zRk_of hF (Nat.le_refl _) (Nat.le_refl _)) _ _ _ h_r0) x hx
set_option maxRecDepth 100000 in
def dt_X6_isValue : List (Nat × Instr × Nat) := [(0, .aload_n 0, 1), (1, .getfield 178, 3), (4, .ifCond .eq 26, 3), (7, .iload_n 1, 1), (8, .iconst 4, 1), (9, .if_icmp .eq 15, 3), (12, .iload_n 1, 1), (13, .bipush 12, 2), (15, .if_icmp .lt 13, 3), (18, .iload_n 1, 1), (19, .bipush 16, 2), (21, .if_icmp .gt 7, 3), (24, .iconst 1, 1), (25, .goto 4, 3), (28, .iconst 0, 1), (29, .ireturn, 1), (30, .iload_n 1, 1), (31, .bipush 17, 2), (33, .if_icmp .lt 13, 3), (36, .iload_n 1, 1), (37, .bipush 19, 2), (39, .if_icmp .gt 7, 3), (42, .iconst 1, 1), (43, .goto 4, 3), (46, .iconst 0, 1), (47, .ireturn, 1)]
set_option maxRecDepth 100000 in
theorem dk_X6_isValue : dt_X6_isValue.all (fun q => decide (decode cX6_isValue q.1 = .ok q.2)) = true := by decide +kernel
set_option maxRecDepth 100000 in
def f_X6_isValue_29  (r0 : Nat) (x1 : Int32) (s0 : Int32) (M : Mem) : Option (Int32 × Mem) := zbz s0 (some (s0, M))
set_option maxRecDepth 100000 in
set_option maxHeartbeats 4000000 in
theorem x_X6_isValue_29 {κ : KX} {n : Nat} (hC : CX κ cX6_isValue RX6 2 (some .boolean) 0) (hE : zEnd κ n (0, 0)) (hk0 : zRk κ (0, 0)) {r0 : Nat} {x1 : Int32} (h_r0 : zO n r0 6) (s0 : Int32) (M : Mem) : X κ 2 emI n (0, 0) 29 [.null, .null] [.int s0] M (f_X6_isValue_29 r0 x1 s0 M) := by
  unfold f_X6_isValue_29
  refine x_bz (fun hb1 => ?_)
  exact x_iret (ty := .boolean) hb1.1 hE hC (zdk dk_X6_isValue 15 rfl)
set_option maxRecDepth 100000 in
def f_X6_isValue_24  (r0 : Nat) (x1 : Int32)  (M : Mem) : Option (Int32 × Mem) := f_X6_isValue_29 r0 x1 1 M
set_option maxRecDepth 100000 in
set_option maxHeartbeats 4000000 in
theorem x_X6_isValue_24 {κ : KX} {n : Nat} (hC : CX κ cX6_isValue RX6 2 (some .boolean) 0) (hE : zEnd κ n (0, 0)) (hk0 : zRk κ (0, 0)) {r0 : Nat} {x1 : Int32} (h_r0 : zO n r0 6) (M : Mem) : X κ 2 emI n (0, 0) 24 [.null, .null] [] M (f_X6_isValue_24 r0 x1 M) := by
  unfold f_X6_isValue_24
  refine x_iconst (i := 1) c_iconst_1 hC (zdk dk_X6_isValue 12 rfl) (q := 25) rfl ?_
  refine x_goto (tgt := 29) hC (zdk dk_X6_isValue 13 rfl) rfl ?_
  refine x_weak (L' := [.null, .null]) ⟨Or.inl rfl, Or.inl rfl, trivial⟩ ?_
  exact x_X6_isValue_29 hC hE hk0 h_r0 _ _
set_option maxRecDepth 100000 in
def f_X6_isValue_28  (r0 : Nat) (x1 : Int32)  (M : Mem) : Option (Int32 × Mem) := f_X6_isValue_29 r0 x1 0 M
set_option maxRecDepth 100000 in
set_option maxHeartbeats 4000000 in
theorem x_X6_isValue_28 {κ : KX} {n : Nat} (hC : CX κ cX6_isValue RX6 2 (some .boolean) 0) (hE : zEnd κ n (0, 0)) (hk0 : zRk κ (0, 0)) {r0 : Nat} {x1 : Int32} (h_r0 : zO n r0 6) (M : Mem) : X κ 2 emI n (0, 0) 28 [.null, .null] [] M (f_X6_isValue_28 r0 x1 M) := by
  unfold f_X6_isValue_28
  refine x_iconst (i := 0) c_iconst_0 hC (zdk dk_X6_isValue 14 rfl) (q := 29) rfl ?_
  refine x_weak (L' := [.null, .null]) ⟨Or.inl rfl, Or.inl rfl, trivial⟩ ?_
  exact x_X6_isValue_29 hC hE hk0 h_r0 _ _
set_option maxRecDepth 100000 in
def f_X6_isValue_47  (r0 : Nat) (x1 : Int32) (s0 : Int32) (M : Mem) : Option (Int32 × Mem) := zbz s0 (some (s0, M))
set_option maxRecDepth 100000 in
set_option maxHeartbeats 4000000 in
theorem x_X6_isValue_47 {κ : KX} {n : Nat} (hC : CX κ cX6_isValue RX6 2 (some .boolean) 0) (hE : zEnd κ n (0, 0)) (hk0 : zRk κ (0, 0)) {r0 : Nat} {x1 : Int32} (h_r0 : zO n r0 6) (s0 : Int32) (M : Mem) : X κ 2 emI n (0, 0) 47 [.null, .null] [.int s0] M (f_X6_isValue_47 r0 x1 s0 M) := by
  unfold f_X6_isValue_47
  refine x_bz (fun hb2 => ?_)
  exact x_iret (ty := .boolean) hb2.1 hE hC (zdk dk_X6_isValue 25 rfl)
set_option maxRecDepth 100000 in
def f_X6_isValue_46  (r0 : Nat) (x1 : Int32)  (M : Mem) : Option (Int32 × Mem) := f_X6_isValue_47 r0 x1 0 M
set_option maxRecDepth 100000 in
set_option maxHeartbeats 4000000 in
theorem x_X6_isValue_46 {κ : KX} {n : Nat} (hC : CX κ cX6_isValue RX6 2 (some .boolean) 0) (hE : zEnd κ n (0, 0)) (hk0 : zRk κ (0, 0)) {r0 : Nat} {x1 : Int32} (h_r0 : zO n r0 6) (M : Mem) : X κ 2 emI n (0, 0) 46 [.null, .null] [] M (f_X6_isValue_46 r0 x1 M) := by
  unfold f_X6_isValue_46
  refine x_iconst (i := 0) c_iconst_0 hC (zdk dk_X6_isValue 24 rfl) (q := 47) rfl ?_
  refine x_weak (L' := [.null, .null]) ⟨Or.inl rfl, Or.inl rfl, trivial⟩ ?_
  exact x_X6_isValue_47 hC hE hk0 h_r0 _ _
set_option maxRecDepth 100000 in
def f_X6_isValue (r0 : Nat) (x1 : Int32) (M : Mem) : Option (Int32 × Mem) := (if zI M r0 12 = 0 then (if x1 < 17 then f_X6_isValue_46 r0 x1 M else (if 19 < x1 then f_X6_isValue_46 r0 x1 M else f_X6_isValue_47 r0 x1 1 M)) else (if x1 = 4 then f_X6_isValue_24 r0 x1 M else (if x1 < 12 then f_X6_isValue_28 r0 x1 M else (if 16 < x1 then f_X6_isValue_28 r0 x1 M else f_X6_isValue_24 r0 x1 M))))
set_option maxRecDepth 100000 in
set_option maxHeartbeats 4000000 in
theorem x_X6_isValue {κ : KX} {n : Nat} (hC : CX κ cX6_isValue RX6 2 (some .boolean) 0) (hE : zEnd κ n (0, 0)) (hk0 : zRk κ (0, 0)) (r0 : Nat) (x1 : Int32) (M : Mem) (h_r0 : zO n r0 6) : X κ 2 emI n (0, 0) 0 [.ref r0, .int x1] [] M (f_X6_isValue r0 x1 M) := by
  unfold f_X6_isValue
  refine x_aload_n (i := 0) rfl hC (zdk dk_X6_isValue 0 rfl) (q := 1) rfl ?_
  refine x_getI fl_RX6_178 (by decide) h_r0 hC (zdk dk_X6_isValue 1 rfl) (q := 4) rfl ?_
  refine x_if_eq (tgt := 30) hC (zdk dk_X6_isValue 2 rfl) (q := 7) rfl rfl (fun _ => ?_) (fun _ => ?_)
  · refine x_iload_n (i := 1) rfl hC (zdk dk_X6_isValue 16 rfl) (q := 31) rfl ?_
    refine x_bipush (i := 17) c_bipush_17 hC (zdk dk_X6_isValue 17 rfl) (q := 33) rfl ?_
    refine x_icmp_lt (tgt := 46) hC (zdk dk_X6_isValue 18 rfl) (q := 36) rfl rfl (fun _ => ?_) (fun _ => ?_)
    · refine x_weak (L' := [.null, .null]) ⟨Or.inl rfl, Or.inl rfl, trivial⟩ ?_
      exact x_X6_isValue_46 hC hE hk0 h_r0 _
    · refine x_iload_n (i := 1) rfl hC (zdk dk_X6_isValue 19 rfl) (q := 37) rfl ?_
      refine x_bipush (i := 19) c_bipush_19 hC (zdk dk_X6_isValue 20 rfl) (q := 39) rfl ?_
      refine x_icmp_gt (tgt := 46) hC (zdk dk_X6_isValue 21 rfl) (q := 42) rfl rfl (fun _ => ?_) (fun _ => ?_)
      · refine x_weak (L' := [.null, .null]) ⟨Or.inl rfl, Or.inl rfl, trivial⟩ ?_
        exact x_X6_isValue_46 hC hE hk0 h_r0 _
      · refine x_iconst (i := 1) c_iconst_1 hC (zdk dk_X6_isValue 22 rfl) (q := 43) rfl ?_
        refine x_goto (tgt := 47) hC (zdk dk_X6_isValue 23 rfl) rfl ?_
        refine x_weak (L' := [.null, .null]) ⟨Or.inl rfl, Or.inl rfl, trivial⟩ ?_
        exact x_X6_isValue_47 hC hE hk0 h_r0 _ _
  · refine x_iload_n (i := 1) rfl hC (zdk dk_X6_isValue 3 rfl) (q := 8) rfl ?_
    refine x_iconst (i := 4) c_iconst_4 hC (zdk dk_X6_isValue 4 rfl) (q := 9) rfl ?_
    refine x_icmp_eq (tgt := 24) hC (zdk dk_X6_isValue 5 rfl) (q := 12) rfl rfl (fun _ => ?_) (fun _ => ?_)
    · refine x_weak (L' := [.null, .null]) ⟨Or.inl rfl, Or.inl rfl, trivial⟩ ?_
      exact x_X6_isValue_24 hC hE hk0 h_r0 _
    · refine x_iload_n (i := 1) rfl hC (zdk dk_X6_isValue 6 rfl) (q := 13) rfl ?_
      refine x_bipush (i := 12) c_bipush_12 hC (zdk dk_X6_isValue 7 rfl) (q := 15) rfl ?_
      refine x_icmp_lt (tgt := 28) hC (zdk dk_X6_isValue 8 rfl) (q := 18) rfl rfl (fun _ => ?_) (fun _ => ?_)
      · refine x_weak (L' := [.null, .null]) ⟨Or.inl rfl, Or.inl rfl, trivial⟩ ?_
        exact x_X6_isValue_28 hC hE hk0 h_r0 _
      · refine x_iload_n (i := 1) rfl hC (zdk dk_X6_isValue 9 rfl) (q := 19) rfl ?_
        refine x_bipush (i := 16) c_bipush_16 hC (zdk dk_X6_isValue 10 rfl) (q := 21) rfl ?_
        refine x_icmp_gt (tgt := 28) hC (zdk dk_X6_isValue 11 rfl) (q := 24) rfl rfl (fun _ => ?_) (fun _ => ?_)
        · refine x_weak (L' := [.null, .null]) ⟨Or.inl rfl, Or.inl rfl, trivial⟩ ?_
          exact x_X6_isValue_28 hC hE hk0 h_r0 _
        · refine x_weak (L' := [.null, .null]) ⟨Or.inl rfl, Or.inl rfl, trivial⟩ ?_
          exact x_X6_isValue_24 hC hE hk0 h_r0 _
set_option maxRecDepth 100000 in
set_option maxHeartbeats 4000000 in
theorem t_X6_isValue {n : Nat} {r0 : Nat} {x1 : Int32} {M : Mem} (h_r0 : zO n r0 6) (x : (Int32 × Mem)) (hx : f_X6_isValue r0 x1 M = some x) (l : Launch) (dC : Nat → ClassId) (dI : Nat → Nat → Nat) (b : zSg) : MT l dC dI b yX6_isValue cX6_isValue 2 (some .boolean) 0 0 0 n n [.ref r0, .int x1] M (emI x).1 (emI x).2 :=
  MT.ofX (by decide +kernel) rfl (Nat.le_of_ble_eq_true rfl) (fun κ hC hF _ => x_X6_isValue hC (zEnd_of hF (Nat.le_refl _) (Nat.le_refl _)) (zRk_of hF (Nat.le_refl _) (Nat.le_refl _)) _ _ _ h_r0) x hx
set_option maxRecDepth 100000 in
def dt_X6_readOpening : List (Nat × Instr × Nat) := [(0, .aload_n 0, 1), (1, .getfield 78, 3), (4, .iload_n 1, 1), (5, .if_icmp .eq 8, 3), (8, .aload_n 0, 1), (9, .invokevirtual 115, 3), (12, .ireturn, 1), (13, .iload_n 2, 1), (14, .bipush 7, 2), (16, .if_icmp .lt 13, 3), (19, .aload_n 0, 1), (20, .iconst 5, 1), (21, .aload_n 0, 1), (22, .getfield 81, 3), (25, .invokevirtual 84, 3), (28, .ireturn, 1), (29, .aload_n 0, 1), (30, .invokevirtual 64, 3), (33, .iconst 1, 1), (34, .ireturn, 1)]
set_option maxRecDepth 100000 in
theorem dk_X6_readOpening : dt_X6_readOpening.all (fun q => decide (decode cX6_readOpening q.1 = .ok q.2)) = true := by decide +kernel
set_option maxRecDepth 100000 in
def f_X6_readOpening (r0 : Nat) (x1 : Int32) (x2 : Int32) (M : Mem) : Option (Int32 × Mem) := (if zI M r0 6 = x1 then (if x2 < 7 then Option.bind (f_X6_look r0 M) fun M1 => some (1, M1) else Option.bind (f_X6_failBy r0 5 (zI M r0 7) M) fun z2 => zbz z2.1 (some (z2.1, z2.2))) else Option.bind (f_X6_failHere r0 M) fun z4 => zbz z4.1 (some (z4.1, z4.2)))
set_option maxRecDepth 100000 in
set_option maxHeartbeats 4000000 in
theorem x_X6_readOpening {κ : KX} {n : Nat} (hC : CX κ cX6_readOpening RX6 3 (some .boolean) 2) (hE : zEnd κ n (0, 0)) (hk0 : zRk κ (0, 0)) (r0 : Nat) (x1 : Int32) (x2 : Int32) (M : Mem) (h_r0 : zO n r0 6) : X κ 3 emI n (0, 0) 0 [.ref r0, .int x1, .int x2] [] M (f_X6_readOpening r0 x1 x2 M) := by
  unfold f_X6_readOpening
  refine x_aload_n (i := 0) rfl hC (zdk dk_X6_readOpening 0 rfl) (q := 1) rfl ?_
  refine x_getI fl_RX6_78 (by decide) h_r0 hC (zdk dk_X6_readOpening 1 rfl) (q := 4) rfl ?_
  refine x_iload_n (i := 1) rfl hC (zdk dk_X6_readOpening 2 rfl) (q := 5) rfl ?_
  refine x_icmp_eq (tgt := 13) hC (zdk dk_X6_readOpening 3 rfl) (q := 8) rfl rfl (fun _ => ?_) (fun _ => ?_)
  · refine x_iload_n (i := 2) rfl hC (zdk dk_X6_readOpening 7 rfl) (q := 14) rfl ?_
    refine x_bipush (i := 7) c_bipush_7 hC (zdk dk_X6_readOpening 8 rfl) (q := 16) rfl ?_
    refine x_icmp_lt (tgt := 29) hC (zdk dk_X6_readOpening 9 rfl) (q := 19) rfl rfl (fun _ => ?_) (fun _ => ?_)
    · refine x_aload_n (i := 0) rfl hC (zdk dk_X6_readOpening 16 rfl) (q := 30) rfl ?_
      refine x_callVv (as := []) cb_RX6_64 rfl (by decide) hk0 h_r0 (fun x hx => t_X6_look h_r0 x hx) hC (zdk dk_X6_readOpening 17 rfl) (q := 33) rfl rfl (Nat.le_of_ble_eq_true rfl) (fun M1 => ?_)
      refine x_iconst (i := 1) c_iconst_1 hC (zdk dk_X6_readOpening 18 rfl) (q := 34) rfl ?_
      exact x_iret (ty := .boolean) rfl hE hC (zdk dk_X6_readOpening 19 rfl)
    · refine x_aload_n (i := 0) rfl hC (zdk dk_X6_readOpening 10 rfl) (q := 20) rfl ?_
      refine x_iconst (i := 5) c_iconst_5 hC (zdk dk_X6_readOpening 11 rfl) (q := 21) rfl ?_
      refine x_aload_n (i := 0) rfl hC (zdk dk_X6_readOpening 12 rfl) (q := 22) rfl ?_
      refine x_getI fl_RX6_81 (by decide) h_r0 hC (zdk dk_X6_readOpening 13 rfl) (q := 25) rfl ?_
      refine x_callVi (as := [.int 5, .int (zI M r0 7)]) cb_RX6_84 rfl (by decide) hk0 h_r0 (fun x hx => t_X6_failBy h_r0 x hx) hC (zdk dk_X6_readOpening 14 rfl) (q := 28) rfl rfl (Nat.le_of_ble_eq_true rfl) (fun z2 => ?_)
      refine x_bz (fun hb3 => ?_)
      exact x_iret (ty := .boolean) hb3.1 hE hC (zdk dk_X6_readOpening 15 rfl)
  · refine x_aload_n (i := 0) rfl hC (zdk dk_X6_readOpening 4 rfl) (q := 9) rfl ?_
    refine x_callVi (as := []) cb_RX6_115 rfl (by decide) hk0 h_r0 (fun x hx => t_X6_failHere h_r0 x hx) hC (zdk dk_X6_readOpening 5 rfl) (q := 12) rfl rfl (Nat.le_of_ble_eq_true rfl) (fun z4 => ?_)
    refine x_bz (fun hb5 => ?_)
    exact x_iret (ty := .boolean) hb5.1 hE hC (zdk dk_X6_readOpening 6 rfl)
set_option maxRecDepth 100000 in
set_option maxHeartbeats 4000000 in
theorem t_X6_readOpening {n : Nat} {r0 : Nat} {x1 : Int32} {x2 : Int32} {M : Mem} (h_r0 : zO n r0 6) (x : (Int32 × Mem)) (hx : f_X6_readOpening r0 x1 x2 M = some x) (l : Launch) (dC : Nat → ClassId) (dI : Nat → Nat → Nat) (b : zSg) : MT l dC dI b yX6_readOpening cX6_readOpening 3 (some .boolean) 2 0 0 n n [.ref r0, .int x1, .int x2] M (emI x).1 (emI x).2 :=
  MT.ofX (by decide +kernel) rfl (Nat.le_of_ble_eq_true rfl) (fun κ hC hF _ => x_X6_readOpening hC (zEnd_of hF (Nat.le_refl _) (Nat.le_refl _)) (zRk_of hF (Nat.le_refl _) (Nat.le_refl _)) _ _ _ _ h_r0) x hx
