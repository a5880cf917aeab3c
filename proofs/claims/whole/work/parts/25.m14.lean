set_option maxRecDepth 100000 in
def dt_X12_writesDown : List (Nat × Instr × Nat) := [(0, .aload_n 0, 1), (1, .getfield 195, 3), (4, .iconst 0, 1), (5, .iaload, 1), (6, .bipush 40, 2), (8, .if_icmp .ne 41, 3), (11, .iconst 0, 1), (12, .istore_n 3, 1), (13, .iload_n 3, 1), (14, .bipush 117, 2), (16, .if_icmp .ge 23, 3), (19, .aload_n 0, 1), (20, .getfield 198, 3), (23, .iload_n 3, 1), (24, .aload_n 0, 1), (25, .getfield 198, 3), (28, .iload_n 3, 1), (29, .iconst 3, 1), (30, .iadd, 1), (31, .iaload, 1), (32, .iastore, 1), (33, .iinc 3 1, 3), (36, .goto (-23), 3), (39, .aload_n 0, 1), (40, .getfield 195, 3), (43, .iconst 0, 1), (44, .dup2, 1), (45, .iaload, 1), (46, .iconst 1, 1), (47, .isub, 1), (48, .iastore, 1), (49, .iconst 3, 1), (50, .aload_n 0, 1), (51, .getfield 195, 3), (54, .iconst 0, 1), (55, .iaload, 1), (56, .imul, 1), (57, .istore_n 3, 1), (58, .aload_n 0, 1), (59, .getfield 198, 3), (62, .iload_n 3, 1), (63, .aload_n 0, 1), (64, .getfield 180, 3), (67, .iconst 0, 1), (68, .iaload, 1), (69, .iastore, 1), (70, .aload_n 0, 1), (71, .getfield 198, 3), (74, .iload_n 3, 1), (75, .iconst 1, 1), (76, .iadd, 1), (77, .iload_n 1, 1), (78, .iastore, 1), (79, .aload_n 0, 1), (80, .getfield 198, 3), (83, .iload_n 3, 1), (84, .iconst 2, 1), (85, .iadd, 1), (86, .iload_n 2, 1), (87, .iastore, 1), (88, .aload_n 0, 1), (89, .getfield 195, 3), (92, .iconst 0, 1), (93, .dup2, 1), (94, .iaload, 1), (95, .iconst 1, 1), (96, .iadd, 1), (97, .iastore, 1), (98, .return_, 1)]
set_option maxRecDepth 100000 in
theorem dk_X12_writesDown : dt_X12_writesDown.all (fun q => decide (decode cX12_writesDown q.1 = .ok q.2)) = true := by decide +kernel
set_option maxRecDepth 100000 in
def f_X12_writesDown_49  (r0 : Nat) (x1 : Int32) (x2 : Int32)  (M : Mem) : Option Mem := Option.bind (zrf M r0 60) fun q1 => Option.bind (zld q1 0) fun k2 => Option.bind (zrf M r0 61) fun q3 => Option.bind (zrf M r0 55) fun q4 => Option.bind (zld q4 0) fun k5 => Option.bind (zld q3 (3 * (zI M q1 k2))) fun k6 => Option.bind (some (zsI M q3 k6 (zI M q4 k5))) fun M7 => Option.bind (zrf M7 r0 61) fun q8 => Option.bind (zld q8 ((3 * (zI M q1 k2)) + 1)) fun k9 => Option.bind (some (zsI M7 q8 k9 x1)) fun M10 => Option.bind (zrf M10 r0 61) fun q11 => Option.bind (zld q11 ((3 * (zI M q1 k2)) + 2)) fun k12 => Option.bind (some (zsI M10 q11 k12 x2)) fun M13 => Option.bind (zrf M13 r0 60) fun q14 => Option.bind (zld q14 0) fun k15 => Option.bind (zld q14 0) fun k16 => Option.bind (some (zsI M13 q14 k16 ((zI M13 q14 k15) + 1))) fun M17 => some M17
set_option maxRecDepth 100000 in
set_option maxHeartbeats 4000000 in
theorem x_X12_writesDown_49 {κ : KX} {n : Nat} (hC : CX κ cX12_writesDown RX12 4 none 0) (hE : zEnd κ n (0, 0)) (hk0 : zRk κ (0, 0)) {r0 : Nat} {x1 : Int32} {x2 : Int32} (h_r0 : zO n r0 12) (M : Mem) : X κ 4 emV n (0, 0) 49 [.ref r0, .int x1, .int x2, .null] [] M (f_X12_writesDown_49 r0 x1 x2 M) := by
  unfold f_X12_writesDown_49
  refine x_iconst (i := 3) c_iconst_3 hC (zdk dk_X12_writesDown 31 rfl) (q := 50) rfl ?_
  refine x_aload_n (i := 0) rfl hC (zdk dk_X12_writesDown 32 rfl) (q := 51) rfl ?_
  refine x_getR (k := 20) fl_RX12_195 rfl h_r0 hC (zdk dk_X12_writesDown 33 rfl) (q := 54) rfl (fun q1 hq1 => ?_)
  refine x_iconst (i := 0) c_iconst_0 hC (zdk dk_X12_writesDown 34 rfl) (q := 55) rfl ?_
  refine x_iald hq1 hC (zdk dk_X12_writesDown 35 rfl) (q := 56) rfl (fun k2 _ => ?_)
  refine x_imul hC (zdk dk_X12_writesDown 36 rfl) (q := 57) rfl ?_
  refine x_istore_n (i := 3) (L' := [.ref r0, .int x1, .int x2, .int (3 * (zI M q1 k2))]) (by decide) rfl hC (zdk dk_X12_writesDown 37 rfl) (q := 58) rfl ?_
  refine x_aload_n (i := 0) rfl hC (zdk dk_X12_writesDown 38 rfl) (q := 59) rfl ?_
  refine x_getR (k := 20) fl_RX12_198 rfl h_r0 hC (zdk dk_X12_writesDown 39 rfl) (q := 62) rfl (fun q3 hq3 => ?_)
  refine x_iload_n (i := 3) rfl hC (zdk dk_X12_writesDown 40 rfl) (q := 63) rfl ?_
  refine x_aload_n (i := 0) rfl hC (zdk dk_X12_writesDown 41 rfl) (q := 64) rfl ?_
  refine x_getR (k := 20) fl_RX12_180 rfl h_r0 hC (zdk dk_X12_writesDown 42 rfl) (q := 67) rfl (fun q4 hq4 => ?_)
  refine x_iconst (i := 0) c_iconst_0 hC (zdk dk_X12_writesDown 43 rfl) (q := 68) rfl ?_
  refine x_iald hq4 hC (zdk dk_X12_writesDown 44 rfl) (q := 69) rfl (fun k5 _ => ?_)
  refine x_iast hq3 hC (zdk dk_X12_writesDown 45 rfl) (q := 70) rfl (fun k6 _ => ?_)
  refine x_nmM (fun M7 => ?_)
  refine x_aload_n (i := 0) rfl hC (zdk dk_X12_writesDown 46 rfl) (q := 71) rfl ?_
  refine x_getR (k := 20) fl_RX12_198 rfl h_r0 hC (zdk dk_X12_writesDown 47 rfl) (q := 74) rfl (fun q8 hq8 => ?_)
  refine x_iload_n (i := 3) rfl hC (zdk dk_X12_writesDown 48 rfl) (q := 75) rfl ?_
  refine x_iconst (i := 1) c_iconst_1 hC (zdk dk_X12_writesDown 49 rfl) (q := 76) rfl ?_
  refine x_iadd hC (zdk dk_X12_writesDown 50 rfl) (q := 77) rfl ?_
  refine x_iload_n (i := 1) rfl hC (zdk dk_X12_writesDown 51 rfl) (q := 78) rfl ?_
  refine x_iast hq8 hC (zdk dk_X12_writesDown 52 rfl) (q := 79) rfl (fun k9 _ => ?_)
  refine x_nmM (fun M10 => ?_)
  refine x_aload_n (i := 0) rfl hC (zdk dk_X12_writesDown 53 rfl) (q := 80) rfl ?_
  refine x_getR (k := 20) fl_RX12_198 rfl h_r0 hC (zdk dk_X12_writesDown 54 rfl) (q := 83) rfl (fun q11 hq11 => ?_)
  refine x_iload_n (i := 3) rfl hC (zdk dk_X12_writesDown 55 rfl) (q := 84) rfl ?_
  refine x_iconst (i := 2) c_iconst_2 hC (zdk dk_X12_writesDown 56 rfl) (q := 85) rfl ?_
  refine x_iadd hC (zdk dk_X12_writesDown 57 rfl) (q := 86) rfl ?_
  refine x_iload_n (i := 2) rfl hC (zdk dk_X12_writesDown 58 rfl) (q := 87) rfl ?_
  refine x_iast hq11 hC (zdk dk_X12_writesDown 59 rfl) (q := 88) rfl (fun k12 _ => ?_)
  refine x_nmM (fun M13 => ?_)
  refine x_aload_n (i := 0) rfl hC (zdk dk_X12_writesDown 60 rfl) (q := 89) rfl ?_
  refine x_getR (k := 20) fl_RX12_195 rfl h_r0 hC (zdk dk_X12_writesDown 61 rfl) (q := 92) rfl (fun q14 hq14 => ?_)
  refine x_iconst (i := 0) c_iconst_0 hC (zdk dk_X12_writesDown 62 rfl) (q := 93) rfl ?_
  refine x_dup2 rfl rfl hC (zdk dk_X12_writesDown 63 rfl) (q := 94) rfl ?_
  refine x_iald hq14 hC (zdk dk_X12_writesDown 64 rfl) (q := 95) rfl (fun k15 _ => ?_)
  refine x_iconst (i := 1) c_iconst_1 hC (zdk dk_X12_writesDown 65 rfl) (q := 96) rfl ?_
  refine x_iadd hC (zdk dk_X12_writesDown 66 rfl) (q := 97) rfl ?_
  refine x_iast hq14 hC (zdk dk_X12_writesDown 67 rfl) (q := 98) rfl (fun k16 _ => ?_)
  refine x_nmM (fun M17 => ?_)
  exact x_vret hE hC (zdk dk_X12_writesDown 68 rfl)
set_option maxRecDepth 100000 in
def f_X12_writesDown_13  (r0 : Nat) (x1 : Int32) (x2 : Int32) : Nat → Int32 → Mem → Option Mem
  | 0, _, _ => none
  | f + 1, x3, M => (if 117 ≤ x3 then Option.bind (zrf M r0 60) fun q18 => Option.bind (zld q18 0) fun k19 => Option.bind (zld q18 0) fun k20 => Option.bind (some (zsI M q18 k20 ((zI M q18 k19) - 1))) fun M21 => f_X12_writesDown_49 r0 x1 x2 M21 else Option.bind (zrf M r0 61) fun q22 => Option.bind (zrf M r0 61) fun q23 => Option.bind (zld q23 (x3 + 3)) fun k24 => Option.bind (zld q22 x3) fun k25 => Option.bind (some (zsI M q22 k25 (zI M q23 k24))) fun M26 => (f_X12_writesDown_13 r0 x1 x2 f) (x3 + 1) M26)
set_option maxRecDepth 100000 in
set_option maxHeartbeats 4000000 in
theorem x_X12_writesDown_13 {κ : KX} {n : Nat} (hC : CX κ cX12_writesDown RX12 4 none 0) (hE : zEnd κ n (0, 0)) (hk0 : zRk κ (0, 0)) {r0 : Nat} {x1 : Int32} {x2 : Int32} (h_r0 : zO n r0 12) : ∀ (f : Nat) (x3 : Int32) (M : Mem), X κ 4 emV n (0, 0) 13 [.ref r0, .int x1, .int x2, .int x3] [] M (f_X12_writesDown_13 r0 x1 x2 f x3 M) := by
  intro f
  induction f with
  | zero => intros; exact x_none
  | succ f ih =>
    intro x3 M 
    rw [f_X12_writesDown_13]
    refine x_iload_n (i := 3) rfl hC (zdk dk_X12_writesDown 8 rfl) (q := 14) rfl ?_
    refine x_bipush (i := 117) c_bipush_117 hC (zdk dk_X12_writesDown 9 rfl) (q := 16) rfl ?_
    refine x_icmp_ge (tgt := 39) hC (zdk dk_X12_writesDown 10 rfl) (q := 19) rfl rfl (fun _ => ?_) (fun _ => ?_)
    · refine x_aload_n (i := 0) rfl hC (zdk dk_X12_writesDown 23 rfl) (q := 40) rfl ?_
      refine x_getR (k := 20) fl_RX12_195 rfl h_r0 hC (zdk dk_X12_writesDown 24 rfl) (q := 43) rfl (fun q18 hq18 => ?_)
      refine x_iconst (i := 0) c_iconst_0 hC (zdk dk_X12_writesDown 25 rfl) (q := 44) rfl ?_
      refine x_dup2 rfl rfl hC (zdk dk_X12_writesDown 26 rfl) (q := 45) rfl ?_
      refine x_iald hq18 hC (zdk dk_X12_writesDown 27 rfl) (q := 46) rfl (fun k19 _ => ?_)
      refine x_iconst (i := 1) c_iconst_1 hC (zdk dk_X12_writesDown 28 rfl) (q := 47) rfl ?_
      refine x_isub hC (zdk dk_X12_writesDown 29 rfl) (q := 48) rfl ?_
      refine x_iast hq18 hC (zdk dk_X12_writesDown 30 rfl) (q := 49) rfl (fun k20 _ => ?_)
      refine x_nmM (fun M21 => ?_)
      refine x_weak (L' := [.ref r0, .int x1, .int x2, .null]) ⟨Or.inr rfl, Or.inr rfl, Or.inr rfl, Or.inl rfl, trivial⟩ ?_
      exact x_X12_writesDown_49 hC hE hk0 h_r0 _
    · refine x_aload_n (i := 0) rfl hC (zdk dk_X12_writesDown 11 rfl) (q := 20) rfl ?_
      refine x_getR (k := 20) fl_RX12_198 rfl h_r0 hC (zdk dk_X12_writesDown 12 rfl) (q := 23) rfl (fun q22 hq22 => ?_)
      refine x_iload_n (i := 3) rfl hC (zdk dk_X12_writesDown 13 rfl) (q := 24) rfl ?_
      refine x_aload_n (i := 0) rfl hC (zdk dk_X12_writesDown 14 rfl) (q := 25) rfl ?_
      refine x_getR (k := 20) fl_RX12_198 rfl h_r0 hC (zdk dk_X12_writesDown 15 rfl) (q := 28) rfl (fun q23 hq23 => ?_)
      refine x_iload_n (i := 3) rfl hC (zdk dk_X12_writesDown 16 rfl) (q := 29) rfl ?_
      refine x_iconst (i := 3) c_iconst_3 hC (zdk dk_X12_writesDown 17 rfl) (q := 30) rfl ?_
      refine x_iadd hC (zdk dk_X12_writesDown 18 rfl) (q := 31) rfl ?_
      refine x_iald hq23 hC (zdk dk_X12_writesDown 19 rfl) (q := 32) rfl (fun k24 _ => ?_)
      refine x_iast hq22 hC (zdk dk_X12_writesDown 20 rfl) (q := 33) rfl (fun k25 _ => ?_)
      refine x_nmM (fun M26 => ?_)
      refine x_iinc (i := 3) c_iconst_1 rfl (by decide) (L' := [.ref r0, .int x1, .int x2, .int (x3 + 1)]) rfl hC (zdk dk_X12_writesDown 21 rfl) (q := 36) rfl ?_
      refine x_goto (tgt := 13) hC (zdk dk_X12_writesDown 22 rfl) rfl ?_
      refine x_weak (L' := [.ref r0, .int x1, .int x2, .int (x3 + 1)]) ⟨Or.inr rfl, Or.inr rfl, Or.inr rfl, Or.inr rfl, trivial⟩ ?_
      exact ih _ _
set_option maxRecDepth 100000 in
def f_X12_writesDown (r0 : Nat) (x1 : Int32) (x2 : Int32) (M : Mem) : Option Mem := Option.bind (zrf M r0 60) fun q27 => Option.bind (zld q27 0) fun k28 => (if zI M q27 k28 = 40 then f_X12_writesDown_13 r0 x1 x2 1000000 0 M else f_X12_writesDown_49 r0 x1 x2 M)
set_option maxRecDepth 100000 in
set_option maxHeartbeats 4000000 in
theorem x_X12_writesDown {κ : KX} {n : Nat} (hC : CX κ cX12_writesDown RX12 4 none 0) (hE : zEnd κ n (0, 0)) (hk0 : zRk κ (0, 0)) (r0 : Nat) (x1 : Int32) (x2 : Int32) (M : Mem) (h_r0 : zO n r0 12) : X κ 4 emV n (0, 0) 0 [.ref r0, .int x1, .int x2, .null] [] M (f_X12_writesDown r0 x1 x2 M) := by
  unfold f_X12_writesDown
  refine x_aload_n (i := 0) rfl hC (zdk dk_X12_writesDown 0 rfl) (q := 1) rfl ?_
  refine x_getR (k := 20) fl_RX12_195 rfl h_r0 hC (zdk dk_X12_writesDown 1 rfl) (q := 4) rfl (fun q27 hq27 => ?_)
  refine x_iconst (i := 0) c_iconst_0 hC (zdk dk_X12_writesDown 2 rfl) (q := 5) rfl ?_
  refine x_iald hq27 hC (zdk dk_X12_writesDown 3 rfl) (q := 6) rfl (fun k28 _ => ?_)
  refine x_bipush (i := 40) c_bipush_40 hC (zdk dk_X12_writesDown 4 rfl) (q := 8) rfl ?_
  refine x_icmp_ne (tgt := 49) hC (zdk dk_X12_writesDown 5 rfl) (q := 11) rfl rfl (fun _ => ?_) (fun _ => ?_)
  · refine x_weak (L' := [.ref r0, .int x1, .int x2, .null]) ⟨Or.inr rfl, Or.inr rfl, Or.inr rfl, Or.inl rfl, trivial⟩ ?_
    exact x_X12_writesDown_49 hC hE hk0 h_r0 _
  · refine x_iconst (i := 0) c_iconst_0 hC (zdk dk_X12_writesDown 6 rfl) (q := 12) rfl ?_
    refine x_istore_n (i := 3) (L' := [.ref r0, .int x1, .int x2, .int 0]) (by decide) rfl hC (zdk dk_X12_writesDown 7 rfl) (q := 13) rfl ?_
    refine x_weak (L' := [.ref r0, .int x1, .int x2, .int 0]) ⟨Or.inr rfl, Or.inr rfl, Or.inr rfl, Or.inr rfl, trivial⟩ ?_
    exact x_X12_writesDown_13 hC hE hk0 h_r0 _ _ _
set_option maxRecDepth 100000 in
set_option maxHeartbeats 4000000 in
theorem t_X12_writesDown {n : Nat} {r0 : Nat} {x1 : Int32} {x2 : Int32} {M : Mem} (h_r0 : zO n r0 12) (x : Mem) (hx : f_X12_writesDown r0 x1 x2 M = some x) (l : Launch) (dC : Nat → ClassId) (dI : Nat → Nat → Nat) (b : zSg) : MT l dC dI b yX12_writesDown cX12_writesDown 4 none 0 0 0 n n [.ref r0, .int x1, .int x2] M (emV x).1 (emV x).2 :=
  MT.ofX (by decide +kernel) rfl (Nat.le_of_ble_eq_true rfl) (fun κ hC hF _ => x_X12_writesDown hC (zEnd_of hF (Nat.le_refl _) (Nat.le_refl _)) (zRk_of hF (Nat.le_refl _) (Nat.le_refl _)) _ _ _ _ h_r0) x hx
set_option maxRecDepth 100000 in
def dt_X12_writesWord : List (Nat × Instr × Nat) := [(0, .aload_n 0, 1), (1, .getfield 183, 3), (4, .iload_n 1, 1), (5, .iconst 1, 1), (6, .iastore, 1), (7, .aload_n 0, 1), (8, .getfield 186, 3), (11, .iload_n 1, 1), (12, .iconst 0, 1), (13, .iastore, 1), (14, .aload_n 0, 1), (15, .getfield 189, 3), (18, .iload_n 1, 1), (19, .lload_n 2, 1), (20, .lastore, 1), (21, .iconst 0, 1), (22, .istore 4, 2), (24, .iload 4, 2), (26, .aload_n 0, 1), (27, .getfield 132, 3), (30, .if_icmp .ge 41, 3), (33, .aload_n 0, 1), (34, .iconst 0, 1), (35, .iload_n 1, 1), (36, .iload 4, 2), (38, .lload_n 2, 1), (39, .iload 4, 2), (41, .lshr, 1), (42, .lconst 1, 1), (43, .land, 1), (44, .lconst 1, 1), (45, .lcmp, 1), (46, .ifCond .ne 11, 3), (49, .aload_n 0, 1), (50, .iconst 4, 1), (51, .invokevirtual 428, 3), (54, .goto 8, 3), (57, .aload_n 0, 1), (58, .iconst 5, 1), (59, .invokevirtual 428, 3), (62, .invokevirtual 522, 3), (65, .iinc 4 1, 3), (68, .goto (-44), 3), (71, .return_, 1)]
set_option maxRecDepth 100000 in
theorem dk_X12_writesWord : dt_X12_writesWord.all (fun q => decide (decode cX12_writesWord q.1 = .ok q.2)) = true := by decide +kernel
set_option maxRecDepth 100000 in
def f_X12_writesWord_62 (k24 : Int32 → Mem → Option Mem) (r0 : Nat) (x1 : Int32) (y2 : Int64) (x4 : Int32) (s0 : Nat) (s1 : Int32) (s2 : Int32) (s3 : Int32) (s4 : Int32) (M : Mem) : Option Mem := Option.bind (f_X12_puts s0 s1 s2 s3 s4 M) fun M1 => k24 (x4 + 1) M1
set_option maxRecDepth 100000 in
set_option maxHeartbeats 4000000 in
theorem x_X12_writesWord_62 {κ : KX} {n : Nat} (hC : CX κ cX12_writesWord RX12 5 none 1) (hE : zEnd κ n (0, 0)) (hk0 : zRk κ (0, 0)) {r0 : Nat} {x1 : Int32} {y2 : Int64} (h_r0 : zO n r0 12) (k24 : Int32 → Mem → Option Mem) (hk24 : ∀ (x4 : Int32) (M : Mem), X κ 5 emV n (0, 0) 24 [.ref r0, .int x1, .long y2, .null, .int x4] [] M (k24 x4 M)) (x4 : Int32) (s0 : Nat) (s1 : Int32) (s2 : Int32) (s3 : Int32) (s4 : Int32) (M : Mem) (h_s0 : zO n s0 12) : X κ 5 emV n (0, 0) 62 [.ref r0, .int x1, .long y2, .null, .int x4] [.int s4, .int s3, .int s2, .int s1, .ref s0] M (f_X12_writesWord_62 k24 r0 x1 y2 x4 s0 s1 s2 s3 s4 M) := by
  unfold f_X12_writesWord_62
  refine x_callVv (as := [.int s1, .int s2, .int s3, .int s4]) cb_RX12_522 rfl (by decide) hk0 h_s0 (fun x hx => t_X12_puts h_s0 x hx) hC (zdk dk_X12_writesWord 40 rfl) (q := 65) rfl rfl (Nat.le_of_ble_eq_true rfl) (fun M1 => ?_)
  refine x_iinc (i := 4) c_iconst_1 rfl (by decide) (L' := [.ref r0, .int x1, .long y2, .null, .int (x4 + 1)]) rfl hC (zdk dk_X12_writesWord 41 rfl) (q := 68) rfl ?_
  refine x_goto (tgt := 24) hC (zdk dk_X12_writesWord 42 rfl) rfl ?_
  refine x_weak (L' := [.ref r0, .int x1, .long y2, .null, .int (x4 + 1)]) ⟨Or.inr rfl, Or.inr rfl, Or.inr rfl, Or.inl rfl, Or.inr rfl, trivial⟩ ?_
  exact hk24 _ _
set_option maxRecDepth 100000 in
def f_X12_writesWord_24  (r0 : Nat) (x1 : Int32) (y2 : Int64) : Nat → Int32 → Mem → Option Mem
  | 0, _, _ => none
  | f + 1, x4, M => (if zI M r0 39 ≤ x4 then some M else (if lg_cmp ((y2 >>> (x4.toInt64 &&& 63)) &&& 1) 1 = 0 then Option.bind (f_X12_by r0 4 M) fun z3 => f_X12_writesWord_62 (f_X12_writesWord_24 r0 x1 y2 f) r0 x1 y2 x4 r0 0 x1 x4 z3.1 z3.2 else Option.bind (f_X12_by r0 5 M) fun z2 => f_X12_writesWord_62 (f_X12_writesWord_24 r0 x1 y2 f) r0 x1 y2 x4 r0 0 x1 x4 z2.1 z2.2))
set_option maxRecDepth 100000 in
set_option maxHeartbeats 4000000 in
theorem x_X12_writesWord_24 {κ : KX} {n : Nat} (hC : CX κ cX12_writesWord RX12 5 none 1) (hE : zEnd κ n (0, 0)) (hk0 : zRk κ (0, 0)) {r0 : Nat} {x1 : Int32} {y2 : Int64} (h_r0 : zO n r0 12) : ∀ (f : Nat) (x4 : Int32) (M : Mem), X κ 5 emV n (0, 0) 24 [.ref r0, .int x1, .long y2, .null, .int x4] [] M (f_X12_writesWord_24 r0 x1 y2 f x4 M) := by
  intro f
  induction f with
  | zero => intros; exact x_none
  | succ f ih =>
    intro x4 M 
    rw [f_X12_writesWord_24]
    refine x_iload (i := 4) rfl hC (zdk dk_X12_writesWord 17 rfl) (q := 26) rfl ?_
    refine x_aload_n (i := 0) rfl hC (zdk dk_X12_writesWord 18 rfl) (q := 27) rfl ?_
    refine x_getI fl_RX12_132 (by decide) h_r0 hC (zdk dk_X12_writesWord 19 rfl) (q := 30) rfl ?_
    refine x_icmp_ge (tgt := 71) hC (zdk dk_X12_writesWord 20 rfl) (q := 33) rfl rfl (fun _ => ?_) (fun _ => ?_)
    · exact x_vret hE hC (zdk dk_X12_writesWord 43 rfl)
    · refine x_aload_n (i := 0) rfl hC (zdk dk_X12_writesWord 21 rfl) (q := 34) rfl ?_
      refine x_iconst (i := 0) c_iconst_0 hC (zdk dk_X12_writesWord 22 rfl) (q := 35) rfl ?_
      refine x_iload_n (i := 1) rfl hC (zdk dk_X12_writesWord 23 rfl) (q := 36) rfl ?_
      refine x_iload (i := 4) rfl hC (zdk dk_X12_writesWord 24 rfl) (q := 38) rfl ?_
      refine x_lload_n (i := 2) rfl hC (zdk dk_X12_writesWord 25 rfl) (q := 39) rfl ?_
      refine x_iload (i := 4) rfl hC (zdk dk_X12_writesWord 26 rfl) (q := 41) rfl ?_
      refine x_lshr hC (zdk dk_X12_writesWord 27 rfl) (q := 42) rfl ?_
      refine x_lconst (i := 1) c_lconst_1 hC (zdk dk_X12_writesWord 28 rfl) (q := 43) rfl ?_
      refine x_land hC (zdk dk_X12_writesWord 29 rfl) (q := 44) rfl ?_
      refine x_lconst (i := 1) c_lconst_1 hC (zdk dk_X12_writesWord 30 rfl) (q := 45) rfl ?_
      refine x_lcmp hC (zdk dk_X12_writesWord 31 rfl) (q := 46) rfl ?_
      refine x_if_ne (tgt := 57) hC (zdk dk_X12_writesWord 32 rfl) (q := 49) rfl rfl (fun _ => ?_) (fun _ => ?_)
      · refine x_aload_n (i := 0) rfl hC (zdk dk_X12_writesWord 37 rfl) (q := 58) rfl ?_
        refine x_iconst (i := 5) c_iconst_5 hC (zdk dk_X12_writesWord 38 rfl) (q := 59) rfl ?_
        refine x_callVi (as := [.int 5]) cb_RX12_428 rfl (by decide) hk0 h_r0 (fun x hx => t_X12_by h_r0 x hx) hC (zdk dk_X12_writesWord 39 rfl) (q := 62) rfl rfl (Nat.le_of_ble_eq_true rfl) (fun z2 => ?_)
        refine x_weak (L' := [.ref r0, .int x1, .long y2, .null, .int x4]) ⟨Or.inr rfl, Or.inr rfl, Or.inr rfl, Or.inl rfl, Or.inr rfl, trivial⟩ ?_
        exact x_X12_writesWord_62 hC hE hk0 h_r0 (f_X12_writesWord_24 r0 x1 y2 f) ih _ _ _ _ _ _ _ h_r0
      · refine x_aload_n (i := 0) rfl hC (zdk dk_X12_writesWord 33 rfl) (q := 50) rfl ?_
        refine x_iconst (i := 4) c_iconst_4 hC (zdk dk_X12_writesWord 34 rfl) (q := 51) rfl ?_
        refine x_callVi (as := [.int 4]) cb_RX12_428 rfl (by decide) hk0 h_r0 (fun x hx => t_X12_by h_r0 x hx) hC (zdk dk_X12_writesWord 35 rfl) (q := 54) rfl rfl (Nat.le_of_ble_eq_true rfl) (fun z3 => ?_)
        refine x_goto (tgt := 62) hC (zdk dk_X12_writesWord 36 rfl) rfl ?_
        refine x_weak (L' := [.ref r0, .int x1, .long y2, .null, .int x4]) ⟨Or.inr rfl, Or.inr rfl, Or.inr rfl, Or.inl rfl, Or.inr rfl, trivial⟩ ?_
        exact x_X12_writesWord_62 hC hE hk0 h_r0 (f_X12_writesWord_24 r0 x1 y2 f) ih _ _ _ _ _ _ _ h_r0
set_option maxRecDepth 100000 in
def f_X12_writesWord (r0 : Nat) (x1 : Int32) (y2 : Int64) (M : Mem) : Option Mem := Option.bind (zrf M r0 56) fun q4 => Option.bind (zld q4 x1) fun k5 => Option.bind (some (zsI M q4 k5 1)) fun M6 => Option.bind (zrf M6 r0 57) fun q7 => Option.bind (zld q7 x1) fun k8 => Option.bind (some (zsI M6 q7 k8 0)) fun M9 => Option.bind (zrf M9 r0 58) fun q10 => Option.bind (zld q10 x1) fun k11 => Option.bind (some (zsL M9 q10 k11 y2)) fun M12 => f_X12_writesWord_24 r0 x1 y2 1000000 0 M12
set_option maxRecDepth 100000 in
set_option maxHeartbeats 4000000 in
theorem x_X12_writesWord {κ : KX} {n : Nat} (hC : CX κ cX12_writesWord RX12 5 none 1) (hE : zEnd κ n (0, 0)) (hk0 : zRk κ (0, 0)) (r0 : Nat) (x1 : Int32) (y2 : Int64) (M : Mem) (h_r0 : zO n r0 12) : X κ 5 emV n (0, 0) 0 [.ref r0, .int x1, .long y2, .null, .null] [] M (f_X12_writesWord r0 x1 y2 M) := by
  unfold f_X12_writesWord
  refine x_aload_n (i := 0) rfl hC (zdk dk_X12_writesWord 0 rfl) (q := 1) rfl ?_
  refine x_getR (k := 20) fl_RX12_183 rfl h_r0 hC (zdk dk_X12_writesWord 1 rfl) (q := 4) rfl (fun q4 hq4 => ?_)
  refine x_iload_n (i := 1) rfl hC (zdk dk_X12_writesWord 2 rfl) (q := 5) rfl ?_
  refine x_iconst (i := 1) c_iconst_1 hC (zdk dk_X12_writesWord 3 rfl) (q := 6) rfl ?_
  refine x_iast hq4 hC (zdk dk_X12_writesWord 4 rfl) (q := 7) rfl (fun k5 _ => ?_)
  refine x_nmM (fun M6 => ?_)
  refine x_aload_n (i := 0) rfl hC (zdk dk_X12_writesWord 5 rfl) (q := 8) rfl ?_
  refine x_getR (k := 20) fl_RX12_186 rfl h_r0 hC (zdk dk_X12_writesWord 6 rfl) (q := 11) rfl (fun q7 hq7 => ?_)
  refine x_iload_n (i := 1) rfl hC (zdk dk_X12_writesWord 7 rfl) (q := 12) rfl ?_
  refine x_iconst (i := 0) c_iconst_0 hC (zdk dk_X12_writesWord 8 rfl) (q := 13) rfl ?_
  refine x_iast hq7 hC (zdk dk_X12_writesWord 9 rfl) (q := 14) rfl (fun k8 _ => ?_)
  refine x_nmM (fun M9 => ?_)
  refine x_aload_n (i := 0) rfl hC (zdk dk_X12_writesWord 10 rfl) (q := 15) rfl ?_
  refine x_getR (k := 21) fl_RX12_189 rfl h_r0 hC (zdk dk_X12_writesWord 11 rfl) (q := 18) rfl (fun q10 hq10 => ?_)
  refine x_iload_n (i := 1) rfl hC (zdk dk_X12_writesWord 12 rfl) (q := 19) rfl ?_
  refine x_lload_n (i := 2) rfl hC (zdk dk_X12_writesWord 13 rfl) (q := 20) rfl ?_
  refine x_last hq10 hC (zdk dk_X12_writesWord 14 rfl) (q := 21) rfl (fun k11 _ => ?_)
  refine x_nmM (fun M12 => ?_)
  refine x_iconst (i := 0) c_iconst_0 hC (zdk dk_X12_writesWord 15 rfl) (q := 22) rfl ?_
  refine x_istore (i := 4) (L' := [.ref r0, .int x1, .long y2, .null, .int 0]) (by decide) rfl hC (zdk dk_X12_writesWord 16 rfl) (q := 24) rfl ?_
  refine x_weak (L' := [.ref r0, .int x1, .long y2, .null, .int 0]) ⟨Or.inr rfl, Or.inr rfl, Or.inr rfl, Or.inl rfl, Or.inr rfl, trivial⟩ ?_
  exact x_X12_writesWord_24 hC hE hk0 h_r0 _ _ _
set_option maxRecDepth 100000 in
set_option maxHeartbeats 4000000 in
theorem t_X12_writesWord {n : Nat} {r0 : Nat} {x1 : Int32} {y2 : Int64} {M : Mem} (h_r0 : zO n r0 12) (x : Mem) (hx : f_X12_writesWord r0 x1 y2 M = some x) (l : Launch) (dC : Nat → ClassId) (dI : Nat → Nat → Nat) (b : zSg) : MT l dC dI b yX12_writesWord cX12_writesWord 5 none 1 0 0 n n [.ref r0, .int x1, .long y2] M (emV x).1 (emV x).2 :=
  MT.ofX (by decide +kernel) rfl (Nat.le_of_ble_eq_true rfl) (fun κ hC hF _ => x_X12_writesWord hC (zEnd_of hF (Nat.le_refl _) (Nat.le_refl _)) (zRk_of hF (Nat.le_refl _) (Nat.le_refl _)) _ _ _ _ h_r0) x hx
set_option maxRecDepth 100000 in
def dt_X12_drifts : List (Nat × Instr × Nat) := [(0, .bipush 6, 2), (2, .iload_n 1, 1), (3, .imul, 1), (4, .iload_n 2, 1), (5, .iadd, 1), (6, .istore_n 3, 1), (7, .iconst 0, 1), (8, .istore 4, 2), (10, .iload 4, 2), (12, .aload_n 0, 1), (13, .getfield 132, 3), (16, .if_icmp .ge 142, 3), (19, .aload_n 0, 1), (20, .iconst 0, 1), (21, .invokevirtual 506, 3), (24, .ifCond .eq 134, 3), (27, .aload_n 0, 1), (28, .getfield 213, 3), (31, .iconst 1, 1), (32, .aload_n 0, 1), (33, .getfield 180, 3), (36, .iload_n 1, 1), (37, .iaload, 1), (38, .iastore, 1), (39, .aload_n 0, 1), (40, .getfield 213, 3), (43, .iconst 2, 1), (44, .iload_n 2, 1), (45, .iastore, 1), (46, .aload_n 0, 1), (47, .getfield 213, 3), (50, .iconst 3, 1), (51, .iload 4, 2), (53, .iastore, 1), (54, .aload_n 0, 1), (55, .getfield 213, 3), (58, .iconst 4, 1), (59, .aload_n 0, 1), (60, .iload_n 1, 1), (61, .iload_n 2, 1), (62, .iload 4, 2), (64, .invokevirtual 500, 3), (67, .iastore, 1), (68, .aload_n 0, 1), (69, .getfield 213, 3), (72, .iconst 5, 1), (73, .aload_n 0, 1), (74, .getfield 189, 3), (77, .iload_n 3, 1), (78, .laload, 1), (79, .iload 4, 2), (81, .lshr, 1), (82, .lconst 1, 1), (83, .land, 1), (84, .l2i, 1), (85, .iastore, 1), (86, .aload_n 0, 1), (87, .getfield 213, 3), (90, .bipush 6, 2), (92, .aload_n 0, 1), (93, .getfield 186, 3), (96, .iload_n 3, 1), (97, .iaload, 1), (98, .iastore, 1), (99, .aload_n 0, 1), (100, .iload_n 1, 1), (101, .iload_n 2, 1), (102, .iload 4, 2), (104, .invokevirtual 500, 3), (107, .i2l, 1), (108, .aload_n 0, 1), (109, .iconst 0, 1), (110, .invokevirtual 509, 3), (113, .ladd, 1), (114, .lstore 5, 2), (116, .aload_n 0, 1), (117, .iload_n 1, 1), (118, .iload_n 2, 1), (119, .iload 4, 2), (121, .lload 5, 2), (123, .lconst 0, 1), (124, .lcmp, 1), (125, .ifCond .ge 7, 3), (128, .iconst 0, 1), (129, .goto 20, 3), (132, .lload 5, 2), (134, .ldc2_w 526, 3), (137, .lcmp, 1), (138, .ifCond .le 8, 3), (141, .bipush 99, 2), (143, .goto 6, 3), (146, .lload 5, 2), (148, .l2i, 1), (149, .invokevirtual 522, 3), (152, .iinc 4 1, 3), (155, .goto (-145), 3), (158, .aload_n 0, 1), (159, .getfield 186, 3), (162, .iload_n 3, 1), (163, .iaload, 1), (164, .bipush 99, 2), (166, .if_icmp .ge 13, 3), (169, .aload_n 0, 1), (170, .getfield 186, 3), (173, .iload_n 3, 1), (174, .dup2, 1), (175, .iaload, 1), (176, .iconst 1, 1), (177, .iadd, 1), (178, .iastore, 1), (179, .return_, 1)]
set_option maxRecDepth 100000 in
theorem dk_X12_drifts : dt_X12_drifts.all (fun q => decide (decode cX12_drifts q.1 = .ok q.2)) = true := by decide +kernel
set_option maxRecDepth 100000 in
def f_X12_drifts_149 (k10 : Int32 → Int32 → Mem → Option Mem) (r0 : Nat) (x1 : Int32) (x2 : Int32) (x3 : Int32) (x4 : Int32) (s0 : Nat) (s1 : Int32) (s2 : Int32) (s3 : Int32) (s4 : Int32) (M : Mem) : Option Mem := Option.bind (f_X12_puts s0 s1 s2 s3 s4 M) fun M1 => k10 x3 (x4 + 1) M1
set_option maxRecDepth 100000 in
set_option maxHeartbeats 4000000 in
theorem x_X12_drifts_149 {κ : KX} {n : Nat} (hC : CX κ cX12_drifts RX12 7 none 3) (hE : zEnd κ n (0, 0)) (hk0 : zRk κ (0, 0)) {r0 : Nat} {x1 : Int32} {x2 : Int32} (h_r0 : zO n r0 12) (k10 : Int32 → Int32 → Mem → Option Mem) (hk10 : ∀ (x3 : Int32) (x4 : Int32) (M : Mem), X κ 7 emV n (0, 0) 10 [.ref r0, .int x1, .int x2, .int x3, .int x4, .null, .null] [] M (k10 x3 x4 M)) (x3 : Int32) (x4 : Int32) (s0 : Nat) (s1 : Int32) (s2 : Int32) (s3 : Int32) (s4 : Int32) (M : Mem) (h_s0 : zO n s0 12) : X κ 7 emV n (0, 0) 149 [.ref r0, .int x1, .int x2, .int x3, .int x4, .null, .null] [.int s4, .int s3, .int s2, .int s1, .ref s0] M (f_X12_drifts_149 k10 r0 x1 x2 x3 x4 s0 s1 s2 s3 s4 M) := by
  unfold f_X12_drifts_149
  refine x_callVv (as := [.int s1, .int s2, .int s3, .int s4]) cb_RX12_522 rfl (by decide) hk0 h_s0 (fun x hx => t_X12_puts h_s0 x hx) hC (zdk dk_X12_drifts 93 rfl) (q := 152) rfl rfl (Nat.le_of_ble_eq_true rfl) (fun M1 => ?_)
  refine x_iinc (i := 4) c_iconst_1 rfl (by decide) (L' := [.ref r0, .int x1, .int x2, .int x3, .int (x4 + 1), .null, .null]) rfl hC (zdk dk_X12_drifts 94 rfl) (q := 155) rfl ?_
  refine x_goto (tgt := 10) hC (zdk dk_X12_drifts 95 rfl) rfl ?_
  refine x_weak (L' := [.ref r0, .int x1, .int x2, .int x3, .int (x4 + 1), .null, .null]) ⟨Or.inr rfl, Or.inr rfl, Or.inr rfl, Or.inr rfl, Or.inr rfl, Or.inl rfl, Or.inl rfl, trivial⟩ ?_
  exact hk10 _ _ _
set_option maxRecDepth 100000 in
def f_X12_drifts_179  (r0 : Nat) (x1 : Int32) (x2 : Int32)  (M : Mem) : Option Mem := some M
set_option maxRecDepth 100000 in
set_option maxHeartbeats 4000000 in
theorem x_X12_drifts_179 {κ : KX} {n : Nat} (hC : CX κ cX12_drifts RX12 7 none 3) (hE : zEnd κ n (0, 0)) (hk0 : zRk κ (0, 0)) {r0 : Nat} {x1 : Int32} {x2 : Int32} (h_r0 : zO n r0 12) (M : Mem) : X κ 7 emV n (0, 0) 179 [.null, .null, .null, .null, .null, .null, .null] [] M (f_X12_drifts_179 r0 x1 x2 M) := by
  unfold f_X12_drifts_179
  exact x_vret hE hC (zdk dk_X12_drifts 110 rfl)
set_option maxRecDepth 100000 in
def f_X12_drifts_158  (r0 : Nat) (x1 : Int32) (x2 : Int32) (x3 : Int32) (M : Mem) : Option Mem := Option.bind (zrf M r0 57) fun q2 => Option.bind (zld q2 x3) fun k3 => (if 99 ≤ zI M q2 k3 then f_X12_drifts_179 r0 x1 x2 M else Option.bind (zrf M r0 57) fun q4 => Option.bind (zld q4 x3) fun k5 => Option.bind (zld q4 x3) fun k6 => Option.bind (some (zsI M q4 k6 ((zI M q4 k5) + 1))) fun M7 => f_X12_drifts_179 r0 x1 x2 M7)
set_option maxRecDepth 100000 in
set_option maxHeartbeats 4000000 in
theorem x_X12_drifts_158 {κ : KX} {n : Nat} (hC : CX κ cX12_drifts RX12 7 none 3) (hE : zEnd κ n (0, 0)) (hk0 : zRk κ (0, 0)) {r0 : Nat} {x1 : Int32} {x2 : Int32} (h_r0 : zO n r0 12) (x3 : Int32) (M : Mem) : X κ 7 emV n (0, 0) 158 [.ref r0, .null, .null, .int x3, .null, .null, .null] [] M (f_X12_drifts_158 r0 x1 x2 x3 M) := by
  unfold f_X12_drifts_158
  refine x_aload_n (i := 0) rfl hC (zdk dk_X12_drifts 96 rfl) (q := 159) rfl ?_
  refine x_getR (k := 20) fl_RX12_186 rfl h_r0 hC (zdk dk_X12_drifts 97 rfl) (q := 162) rfl (fun q2 hq2 => ?_)
  refine x_iload_n (i := 3) rfl hC (zdk dk_X12_drifts 98 rfl) (q := 163) rfl ?_
  refine x_iald hq2 hC (zdk dk_X12_drifts 99 rfl) (q := 164) rfl (fun k3 _ => ?_)
  refine x_bipush (i := 99) c_bipush_99 hC (zdk dk_X12_drifts 100 rfl) (q := 166) rfl ?_
  refine x_icmp_ge (tgt := 179) hC (zdk dk_X12_drifts 101 rfl) (q := 169) rfl rfl (fun _ => ?_) (fun _ => ?_)
  · refine x_weak (L' := [.null, .null, .null, .null, .null, .null, .null]) ⟨Or.inl rfl, Or.inl rfl, Or.inl rfl, Or.inl rfl, Or.inl rfl, Or.inl rfl, Or.inl rfl, trivial⟩ ?_
    exact x_X12_drifts_179 hC hE hk0 h_r0 _
  · refine x_aload_n (i := 0) rfl hC (zdk dk_X12_drifts 102 rfl) (q := 170) rfl ?_
    refine x_getR (k := 20) fl_RX12_186 rfl h_r0 hC (zdk dk_X12_drifts 103 rfl) (q := 173) rfl (fun q4 hq4 => ?_)
    refine x_iload_n (i := 3) rfl hC (zdk dk_X12_drifts 104 rfl) (q := 174) rfl ?_
    refine x_dup2 rfl rfl hC (zdk dk_X12_drifts 105 rfl) (q := 175) rfl ?_
    refine x_iald hq4 hC (zdk dk_X12_drifts 106 rfl) (q := 176) rfl (fun k5 _ => ?_)
    refine x_iconst (i := 1) c_iconst_1 hC (zdk dk_X12_drifts 107 rfl) (q := 177) rfl ?_
    refine x_iadd hC (zdk dk_X12_drifts 108 rfl) (q := 178) rfl ?_
    refine x_iast hq4 hC (zdk dk_X12_drifts 109 rfl) (q := 179) rfl (fun k6 _ => ?_)
    refine x_nmM (fun M7 => ?_)
    refine x_weak (L' := [.null, .null, .null, .null, .null, .null, .null]) ⟨Or.inl rfl, Or.inl rfl, Or.inl rfl, Or.inl rfl, Or.inl rfl, Or.inl rfl, Or.inl rfl, trivial⟩ ?_
    exact x_X12_drifts_179 hC hE hk0 h_r0 _
set_option maxRecDepth 100000 in
def f_X12_drifts_10  (r0 : Nat) (x1 : Int32) (x2 : Int32) : Nat → Int32 → Int32 → Mem → Option Mem
  | 0, _, _, _ => none
  | f + 1, x3, x4, M => (if zI M r0 39 ≤ x4 then f_X12_drifts_158 r0 x1 x2 x3 M else Option.bind (f_X12_isTold r0 0 M) fun z8 => (if z8.1 = 0 then f_X12_drifts_158 r0 x1 x2 x3 z8.2 else Option.bind (zrf z8.2 r0 66) fun q9 => Option.bind (zrf z8.2 r0 55) fun q10 => Option.bind (zld q10 x1) fun k11 => Option.bind (zld q9 1) fun k12 => Option.bind (some (zsI z8.2 q9 k12 (zI z8.2 q10 k11))) fun M13 => Option.bind (zrf M13 r0 66) fun q14 => Option.bind (zld q14 2) fun k15 => Option.bind (some (zsI M13 q14 k15 x2)) fun M16 => Option.bind (zrf M16 r0 66) fun q17 => Option.bind (zld q17 3) fun k18 => Option.bind (some (zsI M16 q17 k18 x4)) fun M19 => Option.bind (zrf M19 r0 66) fun q20 => Option.bind (f_X12_levelAt r0 x1 x2 x4 M19) fun z21 => Option.bind (zld q20 4) fun k22 => Option.bind (some (zsI z21.2 q20 k22 z21.1)) fun M23 => Option.bind (zrf M23 r0 66) fun q24 => Option.bind (zrf M23 r0 58) fun q25 => Option.bind (zld q25 x3) fun k26 => Option.bind (zld q24 5) fun k27 => Option.bind (some (zsI M23 q24 k27 ((((zL M23 q25 k26) >>> (x4.toInt64 &&& 63)) &&& 1).toInt32))) fun M28 => Option.bind (zrf M28 r0 66) fun q29 => Option.bind (zrf M28 r0 57) fun q30 => Option.bind (zld q30 x3) fun k31 => Option.bind (zld q29 6) fun k32 => Option.bind (some (zsI M28 q29 k32 (zI M28 q30 k31))) fun M33 => Option.bind (f_X12_levelAt r0 x1 x2 x4 M33) fun z34 => Option.bind (f_X12_reckons r0 0 z34.2) fun z35 => (if 0 ≤ lg_cmp (z34.1.toInt64 + z35.1) 0 then (if lg_cmp (z34.1.toInt64 + z35.1) 99 ≤ 0 then f_X12_drifts_149 (f_X12_drifts_10 r0 x1 x2 f) r0 x1 x2 x3 x4 r0 x1 x2 x4 ((z34.1.toInt64 + z35.1).toInt32) z35.2 else f_X12_drifts_149 (f_X12_drifts_10 r0 x1 x2 f) r0 x1 x2 x3 x4 r0 x1 x2 x4 99 z35.2) else f_X12_drifts_149 (f_X12_drifts_10 r0 x1 x2 f) r0 x1 x2 x3 x4 r0 x1 x2 x4 0 z35.2)))
set_option maxRecDepth 100000 in
set_option maxHeartbeats 4000000 in
theorem x_X12_drifts_10 {κ : KX} {n : Nat} (hC : CX κ cX12_drifts RX12 7 none 3) (hE : zEnd κ n (0, 0)) (hk0 : zRk κ (0, 0)) {r0 : Nat} {x1 : Int32} {x2 : Int32} (h_r0 : zO n r0 12) : ∀ (f : Nat) (x3 : Int32) (x4 : Int32) (M : Mem), X κ 7 emV n (0, 0) 10 [.ref r0, .int x1, .int x2, .int x3, .int x4, .null, .null] [] M (f_X12_drifts_10 r0 x1 x2 f x3 x4 M) := by
  intro f
  induction f with
  | zero => intros; exact x_none
  | succ f ih =>
    intro x3 x4 M 
    rw [f_X12_drifts_10]
    refine x_iload (i := 4) rfl hC (zdk dk_X12_drifts 8 rfl) (q := 12) rfl ?_
    refine x_aload_n (i := 0) rfl hC (zdk dk_X12_drifts 9 rfl) (q := 13) rfl ?_
    refine x_getI fl_RX12_132 (by decide) h_r0 hC (zdk dk_X12_drifts 10 rfl) (q := 16) rfl ?_
    refine x_icmp_ge (tgt := 158) hC (zdk dk_X12_drifts 11 rfl) (q := 19) rfl rfl (fun _ => ?_) (fun _ => ?_)
    · refine x_weak (L' := [.ref r0, .null, .null, .int x3, .null, .null, .null]) ⟨Or.inr rfl, Or.inl rfl, Or.inl rfl, Or.inr rfl, Or.inl rfl, Or.inl rfl, Or.inl rfl, trivial⟩ ?_
      exact x_X12_drifts_158 hC hE hk0 h_r0 _ _
    · refine x_aload_n (i := 0) rfl hC (zdk dk_X12_drifts 12 rfl) (q := 20) rfl ?_
      refine x_iconst (i := 0) c_iconst_0 hC (zdk dk_X12_drifts 13 rfl) (q := 21) rfl ?_
      refine x_callVi (as := [.int 0]) cb_RX12_506 rfl (by decide) hk0 h_r0 (fun x hx => t_X12_isTold h_r0 x hx) hC (zdk dk_X12_drifts 14 rfl) (q := 24) rfl rfl (Nat.le_of_ble_eq_true rfl) (fun z8 => ?_)
      refine x_if_eq (tgt := 158) hC (zdk dk_X12_drifts 15 rfl) (q := 27) rfl rfl (fun _ => ?_) (fun _ => ?_)
      · refine x_weak (L' := [.ref r0, .null, .null, .int x3, .null, .null, .null]) ⟨Or.inr rfl, Or.inl rfl, Or.inl rfl, Or.inr rfl, Or.inl rfl, Or.inl rfl, Or.inl rfl, trivial⟩ ?_
        exact x_X12_drifts_158 hC hE hk0 h_r0 _ _
      · refine x_aload_n (i := 0) rfl hC (zdk dk_X12_drifts 16 rfl) (q := 28) rfl ?_
        refine x_getR (k := 20) fl_RX12_213 rfl h_r0 hC (zdk dk_X12_drifts 17 rfl) (q := 31) rfl (fun q9 hq9 => ?_)
        refine x_iconst (i := 1) c_iconst_1 hC (zdk dk_X12_drifts 18 rfl) (q := 32) rfl ?_
        refine x_aload_n (i := 0) rfl hC (zdk dk_X12_drifts 19 rfl) (q := 33) rfl ?_
        refine x_getR (k := 20) fl_RX12_180 rfl h_r0 hC (zdk dk_X12_drifts 20 rfl) (q := 36) rfl (fun q10 hq10 => ?_)
        refine x_iload_n (i := 1) rfl hC (zdk dk_X12_drifts 21 rfl) (q := 37) rfl ?_
        refine x_iald hq10 hC (zdk dk_X12_drifts 22 rfl) (q := 38) rfl (fun k11 _ => ?_)
        refine x_iast hq9 hC (zdk dk_X12_drifts 23 rfl) (q := 39) rfl (fun k12 _ => ?_)
        refine x_nmM (fun M13 => ?_)
        refine x_aload_n (i := 0) rfl hC (zdk dk_X12_drifts 24 rfl) (q := 40) rfl ?_
        refine x_getR (k := 20) fl_RX12_213 rfl h_r0 hC (zdk dk_X12_drifts 25 rfl) (q := 43) rfl (fun q14 hq14 => ?_)
        refine x_iconst (i := 2) c_iconst_2 hC (zdk dk_X12_drifts 26 rfl) (q := 44) rfl ?_
        refine x_iload_n (i := 2) rfl hC (zdk dk_X12_drifts 27 rfl) (q := 45) rfl ?_
        refine x_iast hq14 hC (zdk dk_X12_drifts 28 rfl) (q := 46) rfl (fun k15 _ => ?_)
        refine x_nmM (fun M16 => ?_)
        refine x_aload_n (i := 0) rfl hC (zdk dk_X12_drifts 29 rfl) (q := 47) rfl ?_
        refine x_getR (k := 20) fl_RX12_213 rfl h_r0 hC (zdk dk_X12_drifts 30 rfl) (q := 50) rfl (fun q17 hq17 => ?_)
        refine x_iconst (i := 3) c_iconst_3 hC (zdk dk_X12_drifts 31 rfl) (q := 51) rfl ?_
        refine x_iload (i := 4) rfl hC (zdk dk_X12_drifts 32 rfl) (q := 53) rfl ?_
        refine x_iast hq17 hC (zdk dk_X12_drifts 33 rfl) (q := 54) rfl (fun k18 _ => ?_)
        refine x_nmM (fun M19 => ?_)
        refine x_aload_n (i := 0) rfl hC (zdk dk_X12_drifts 34 rfl) (q := 55) rfl ?_
        refine x_getR (k := 20) fl_RX12_213 rfl h_r0 hC (zdk dk_X12_drifts 35 rfl) (q := 58) rfl (fun q20 hq20 => ?_)
        refine x_iconst (i := 4) c_iconst_4 hC (zdk dk_X12_drifts 36 rfl) (q := 59) rfl ?_
        refine x_aload_n (i := 0) rfl hC (zdk dk_X12_drifts 37 rfl) (q := 60) rfl ?_
        refine x_iload_n (i := 1) rfl hC (zdk dk_X12_drifts 38 rfl) (q := 61) rfl ?_
        refine x_iload_n (i := 2) rfl hC (zdk dk_X12_drifts 39 rfl) (q := 62) rfl ?_
        refine x_iload (i := 4) rfl hC (zdk dk_X12_drifts 40 rfl) (q := 64) rfl ?_
        refine x_callVi (as := [.int x1, .int x2, .int x4]) cb_RX12_500 rfl (by decide) hk0 h_r0 (fun x hx => t_X12_levelAt h_r0 x hx) hC (zdk dk_X12_drifts 41 rfl) (q := 67) rfl rfl (Nat.le_of_ble_eq_true rfl) (fun z21 => ?_)
        refine x_iast hq20 hC (zdk dk_X12_drifts 42 rfl) (q := 68) rfl (fun k22 _ => ?_)
        refine x_nmM (fun M23 => ?_)
        refine x_aload_n (i := 0) rfl hC (zdk dk_X12_drifts 43 rfl) (q := 69) rfl ?_
        refine x_getR (k := 20) fl_RX12_213 rfl h_r0 hC (zdk dk_X12_drifts 44 rfl) (q := 72) rfl (fun q24 hq24 => ?_)
        refine x_iconst (i := 5) c_iconst_5 hC (zdk dk_X12_drifts 45 rfl) (q := 73) rfl ?_
        refine x_aload_n (i := 0) rfl hC (zdk dk_X12_drifts 46 rfl) (q := 74) rfl ?_
        refine x_getR (k := 21) fl_RX12_189 rfl h_r0 hC (zdk dk_X12_drifts 47 rfl) (q := 77) rfl (fun q25 hq25 => ?_)
        refine x_iload_n (i := 3) rfl hC (zdk dk_X12_drifts 48 rfl) (q := 78) rfl ?_
        refine x_lald hq25 hC (zdk dk_X12_drifts 49 rfl) (q := 79) rfl (fun k26 _ => ?_)
        refine x_iload (i := 4) rfl hC (zdk dk_X12_drifts 50 rfl) (q := 81) rfl ?_
        refine x_lshr hC (zdk dk_X12_drifts 51 rfl) (q := 82) rfl ?_
        refine x_lconst (i := 1) c_lconst_1 hC (zdk dk_X12_drifts 52 rfl) (q := 83) rfl ?_
        refine x_land hC (zdk dk_X12_drifts 53 rfl) (q := 84) rfl ?_
        refine x_l2i hC (zdk dk_X12_drifts 54 rfl) (q := 85) rfl ?_
        refine x_iast hq24 hC (zdk dk_X12_drifts 55 rfl) (q := 86) rfl (fun k27 _ => ?_)
        refine x_nmM (fun M28 => ?_)
        refine x_aload_n (i := 0) rfl hC (zdk dk_X12_drifts 56 rfl) (q := 87) rfl ?_
        refine x_getR (k := 20) fl_RX12_213 rfl h_r0 hC (zdk dk_X12_drifts 57 rfl) (q := 90) rfl (fun q29 hq29 => ?_)
        refine x_bipush (i := 6) c_bipush_6 hC (zdk dk_X12_drifts 58 rfl) (q := 92) rfl ?_
        refine x_aload_n (i := 0) rfl hC (zdk dk_X12_drifts 59 rfl) (q := 93) rfl ?_
        refine x_getR (k := 20) fl_RX12_186 rfl h_r0 hC (zdk dk_X12_drifts 60 rfl) (q := 96) rfl (fun q30 hq30 => ?_)
        refine x_iload_n (i := 3) rfl hC (zdk dk_X12_drifts 61 rfl) (q := 97) rfl ?_
        refine x_iald hq30 hC (zdk dk_X12_drifts 62 rfl) (q := 98) rfl (fun k31 _ => ?_)
        refine x_iast hq29 hC (zdk dk_X12_drifts 63 rfl) (q := 99) rfl (fun k32 _ => ?_)
        refine x_nmM (fun M33 => ?_)
        refine x_aload_n (i := 0) rfl hC (zdk dk_X12_drifts 64 rfl) (q := 100) rfl ?_
        refine x_iload_n (i := 1) rfl hC (zdk dk_X12_drifts 65 rfl) (q := 101) rfl ?_
        refine x_iload_n (i := 2) rfl hC (zdk dk_X12_drifts 66 rfl) (q := 102) rfl ?_
        refine x_iload (i := 4) rfl hC (zdk dk_X12_drifts 67 rfl) (q := 104) rfl ?_
        refine x_callVi (as := [.int x1, .int x2, .int x4]) cb_RX12_500 rfl (by decide) hk0 h_r0 (fun x hx => t_X12_levelAt h_r0 x hx) hC (zdk dk_X12_drifts 68 rfl) (q := 107) rfl rfl (Nat.le_of_ble_eq_true rfl) (fun z34 => ?_)
        refine x_i2l hC (zdk dk_X12_drifts 69 rfl) (q := 108) rfl ?_
        refine x_aload_n (i := 0) rfl hC (zdk dk_X12_drifts 70 rfl) (q := 109) rfl ?_
        refine x_iconst (i := 0) c_iconst_0 hC (zdk dk_X12_drifts 71 rfl) (q := 110) rfl ?_
        refine x_callVl (as := [.int 0]) cb_RX12_509 rfl (by decide) hk0 h_r0 (fun x hx => t_X12_reckons h_r0 x hx) hC (zdk dk_X12_drifts 72 rfl) (q := 113) rfl rfl (Nat.le_of_ble_eq_true rfl) (fun z35 => ?_)
        refine x_ladd hC (zdk dk_X12_drifts 73 rfl) (q := 114) rfl ?_
        refine x_lstore (i := 5) (L' := [.ref r0, .int x1, .int x2, .int x3, .int x4, .long (z34.1.toInt64 + z35.1), .null]) (by decide) rfl hC (zdk dk_X12_drifts 74 rfl) (q := 116) rfl ?_
        refine x_aload_n (i := 0) rfl hC (zdk dk_X12_drifts 75 rfl) (q := 117) rfl ?_
        refine x_iload_n (i := 1) rfl hC (zdk dk_X12_drifts 76 rfl) (q := 118) rfl ?_
        refine x_iload_n (i := 2) rfl hC (zdk dk_X12_drifts 77 rfl) (q := 119) rfl ?_
        refine x_iload (i := 4) rfl hC (zdk dk_X12_drifts 78 rfl) (q := 121) rfl ?_
        refine x_lload (i := 5) rfl hC (zdk dk_X12_drifts 79 rfl) (q := 123) rfl ?_
        refine x_lconst (i := 0) c_lconst_0 hC (zdk dk_X12_drifts 80 rfl) (q := 124) rfl ?_
        refine x_lcmp hC (zdk dk_X12_drifts 81 rfl) (q := 125) rfl ?_
        refine x_if_ge (tgt := 132) hC (zdk dk_X12_drifts 82 rfl) (q := 128) rfl rfl (fun _ => ?_) (fun _ => ?_)
        · refine x_lload (i := 5) rfl hC (zdk dk_X12_drifts 85 rfl) (q := 134) rfl ?_
          refine x_ldc2 k_RX12_526 hC (zdk dk_X12_drifts 86 rfl) (q := 137) rfl ?_
          refine x_lcmp hC (zdk dk_X12_drifts 87 rfl) (q := 138) rfl ?_
          refine x_if_le (tgt := 146) hC (zdk dk_X12_drifts 88 rfl) (q := 141) rfl rfl (fun _ => ?_) (fun _ => ?_)
          · refine x_lload (i := 5) rfl hC (zdk dk_X12_drifts 91 rfl) (q := 148) rfl ?_
            refine x_l2i hC (zdk dk_X12_drifts 92 rfl) (q := 149) rfl ?_
            refine x_weak (L' := [.ref r0, .int x1, .int x2, .int x3, .int x4, .null, .null]) ⟨Or.inr rfl, Or.inr rfl, Or.inr rfl, Or.inr rfl, Or.inr rfl, Or.inl rfl, Or.inl rfl, trivial⟩ ?_
            exact x_X12_drifts_149 hC hE hk0 h_r0 (f_X12_drifts_10 r0 x1 x2 f) ih _ _ _ _ _ _ _ _ h_r0
          · refine x_bipush (i := 99) c_bipush_99 hC (zdk dk_X12_drifts 89 rfl) (q := 143) rfl ?_
            refine x_goto (tgt := 149) hC (zdk dk_X12_drifts 90 rfl) rfl ?_
            refine x_weak (L' := [.ref r0, .int x1, .int x2, .int x3, .int x4, .null, .null]) ⟨Or.inr rfl, Or.inr rfl, Or.inr rfl, Or.inr rfl, Or.inr rfl, Or.inl rfl, Or.inl rfl, trivial⟩ ?_
            exact x_X12_drifts_149 hC hE hk0 h_r0 (f_X12_drifts_10 r0 x1 x2 f) ih _ _ _ _ _ _ _ _ h_r0
        · refine x_iconst (i := 0) c_iconst_0 hC (zdk dk_X12_drifts 83 rfl) (q := 129) rfl ?_
          refine x_goto (tgt := 149) hC (zdk dk_X12_drifts 84 rfl) rfl ?_
          refine x_weak (L' := [.ref r0, .int x1, .int x2, .int x3, .int x4, .null, .null]) ⟨Or.inr rfl, Or.inr rfl, Or.inr rfl, Or.inr rfl, Or.inr rfl, Or.inl rfl, Or.inl rfl, trivial⟩ ?_
          exact x_X12_drifts_149 hC hE hk0 h_r0 (f_X12_drifts_10 r0 x1 x2 f) ih _ _ _ _ _ _ _ _ h_r0
set_option maxRecDepth 100000 in
def f_X12_drifts (r0 : Nat) (x1 : Int32) (x2 : Int32) (M : Mem) : Option Mem := f_X12_drifts_10 r0 x1 x2 1000000 ((6 * x1) + x2) 0 M
set_option maxRecDepth 100000 in
set_option maxHeartbeats 4000000 in
theorem x_X12_drifts {κ : KX} {n : Nat} (hC : CX κ cX12_drifts RX12 7 none 3) (hE : zEnd κ n (0, 0)) (hk0 : zRk κ (0, 0)) (r0 : Nat) (x1 : Int32) (x2 : Int32) (M : Mem) (h_r0 : zO n r0 12) : X κ 7 emV n (0, 0) 0 [.ref r0, .int x1, .int x2, .null, .null, .null, .null] [] M (f_X12_drifts r0 x1 x2 M) := by
  unfold f_X12_drifts
  refine x_bipush (i := 6) c_bipush_6 hC (zdk dk_X12_drifts 0 rfl) (q := 2) rfl ?_
  refine x_iload_n (i := 1) rfl hC (zdk dk_X12_drifts 1 rfl) (q := 3) rfl ?_
  refine x_imul hC (zdk dk_X12_drifts 2 rfl) (q := 4) rfl ?_
  refine x_iload_n (i := 2) rfl hC (zdk dk_X12_drifts 3 rfl) (q := 5) rfl ?_
  refine x_iadd hC (zdk dk_X12_drifts 4 rfl) (q := 6) rfl ?_
  refine x_istore_n (i := 3) (L' := [.ref r0, .int x1, .int x2, .int ((6 * x1) + x2), .null, .null, .null]) (by decide) rfl hC (zdk dk_X12_drifts 5 rfl) (q := 7) rfl ?_
  refine x_iconst (i := 0) c_iconst_0 hC (zdk dk_X12_drifts 6 rfl) (q := 8) rfl ?_
  refine x_istore (i := 4) (L' := [.ref r0, .int x1, .int x2, .int ((6 * x1) + x2), .int 0, .null, .null]) (by decide) rfl hC (zdk dk_X12_drifts 7 rfl) (q := 10) rfl ?_
  refine x_weak (L' := [.ref r0, .int x1, .int x2, .int ((6 * x1) + x2), .int 0, .null, .null]) ⟨Or.inr rfl, Or.inr rfl, Or.inr rfl, Or.inr rfl, Or.inr rfl, Or.inl rfl, Or.inl rfl, trivial⟩ ?_
  exact x_X12_drifts_10 hC hE hk0 h_r0 _ _ _ _
set_option maxRecDepth 100000 in
set_option maxHeartbeats 4000000 in
theorem t_X12_drifts {n : Nat} {r0 : Nat} {x1 : Int32} {x2 : Int32} {M : Mem} (h_r0 : zO n r0 12) (x : Mem) (hx : f_X12_drifts r0 x1 x2 M = some x) (l : Launch) (dC : Nat → ClassId) (dI : Nat → Nat → Nat) (b : zSg) : MT l dC dI b yX12_drifts cX12_drifts 7 none 3 0 0 n n [.ref r0, .int x1, .int x2] M (emV x).1 (emV x).2 :=
  MT.ofX (by decide +kernel) rfl (Nat.le_of_ble_eq_true rfl) (fun κ hC hF _ => x_X12_drifts hC (zEnd_of hF (Nat.le_refl _) (Nat.le_refl _)) (zRk_of hF (Nat.le_refl _) (Nat.le_refl _)) _ _ _ _ h_r0) x hx
set_option maxRecDepth 100000 in
def dt_X12_passes : List (Nat × Instr × Nat) := [(0, .iconst 0, 1), (1, .istore_n 2, 1), (2, .iload_n 2, 1), (3, .aload_n 0, 1), (4, .getfield 57, 3), (7, .aload_n 0, 1), (8, .getfield 51, 3), (11, .iaload, 1), (12, .if_icmp .ge 30, 3), (15, .aload_n 0, 1), (16, .getfield 183, 3), (19, .bipush 6, 2), (21, .iload_n 1, 1), (22, .imul, 1), (23, .iload_n 2, 1), (24, .iadd, 1), (25, .iaload, 1), (26, .iconst 1, 1), (27, .if_icmp .ne 9, 3), (30, .aload_n 0, 1), (31, .iload_n 1, 1), (32, .iload_n 2, 1), (33, .invokevirtual 528, 3), (36, .iinc 2 1, 3), (39, .goto (-37), 3), (42, .aload_n 0, 1), (43, .getfield 180, 3), (46, .iload_n 1, 1), (47, .dup2, 1), (48, .iaload, 1), (49, .iconst 1, 1), (50, .iadd, 1), (51, .iastore, 1), (52, .return_, 1)]
set_option maxRecDepth 100000 in
theorem dk_X12_passes : dt_X12_passes.all (fun q => decide (decode cX12_passes q.1 = .ok q.2)) = true := by decide +kernel
set_option maxRecDepth 100000 in
def f_X12_passes_36 (k2 : Int32 → Mem → Option Mem) (r0 : Nat) (x1 : Int32) (x2 : Int32) (M : Mem) : Option Mem := k2 (x2 + 1) M
set_option maxRecDepth 100000 in
set_option maxHeartbeats 4000000 in
theorem x_X12_passes_36 {κ : KX} {n : Nat} (hC : CX κ cX12_passes RX12 3 none 4) (hE : zEnd κ n (0, 0)) (hk0 : zRk κ (0, 0)) {r0 : Nat} {x1 : Int32} (h_r0 : zO n r0 12) (k2 : Int32 → Mem → Option Mem) (hk2 : ∀ (x2 : Int32) (M : Mem), X κ 3 emV n (0, 0) 2 [.ref r0, .int x1, .int x2] [] M (k2 x2 M)) (x2 : Int32) (M : Mem) : X κ 3 emV n (0, 0) 36 [.ref r0, .int x1, .int x2] [] M (f_X12_passes_36 k2 r0 x1 x2 M) := by
  unfold f_X12_passes_36
  refine x_iinc (i := 2) c_iconst_1 rfl (by decide) (L' := [.ref r0, .int x1, .int (x2 + 1)]) rfl hC (zdk dk_X12_passes 23 rfl) (q := 39) rfl ?_
  refine x_goto (tgt := 2) hC (zdk dk_X12_passes 24 rfl) rfl ?_
  refine x_weak (L' := [.ref r0, .int x1, .int (x2 + 1)]) ⟨Or.inr rfl, Or.inr rfl, Or.inr rfl, trivial⟩ ?_
  exact hk2 _ _
set_option maxRecDepth 100000 in
def f_X12_passes_2  (r0 : Nat) (x1 : Int32) : Nat → Int32 → Mem → Option Mem
  | 0, _, _ => none
  | f + 1, x2, M => Option.bind (zrf M r0 15) fun q1 => Option.bind (zld q1 (zI M r0 13)) fun k2 => (if zI M q1 k2 ≤ x2 then Option.bind (zrf M r0 55) fun q3 => Option.bind (zld q3 x1) fun k4 => Option.bind (zld q3 x1) fun k5 => Option.bind (some (zsI M q3 k5 ((zI M q3 k4) + 1))) fun M6 => some M6 else Option.bind (zrf M r0 56) fun q7 => Option.bind (zld q7 ((6 * x1) + x2)) fun k8 => (if zI M q7 k8 = 1 then Option.bind (f_X12_drifts r0 x1 x2 M) fun M9 => f_X12_passes_36 (f_X12_passes_2 r0 x1 f) r0 x1 x2 M9 else f_X12_passes_36 (f_X12_passes_2 r0 x1 f) r0 x1 x2 M))
set_option maxRecDepth 100000 in
set_option maxHeartbeats 4000000 in
theorem x_X12_passes_2 {κ : KX} {n : Nat} (hC : CX κ cX12_passes RX12 3 none 4) (hE : zEnd κ n (0, 0)) (hk0 : zRk κ (0, 0)) {r0 : Nat} {x1 : Int32} (h_r0 : zO n r0 12) : ∀ (f : Nat) (x2 : Int32) (M : Mem), X κ 3 emV n (0, 0) 2 [.ref r0, .int x1, .int x2] [] M (f_X12_passes_2 r0 x1 f x2 M) := by
  intro f
  induction f with
  | zero => intros; exact x_none
  | succ f ih =>
    intro x2 M 
    rw [f_X12_passes_2]
    refine x_iload_n (i := 2) rfl hC (zdk dk_X12_passes 2 rfl) (q := 3) rfl ?_
    refine x_aload_n (i := 0) rfl hC (zdk dk_X12_passes 3 rfl) (q := 4) rfl ?_
    refine x_getR (k := 20) fl_RX12_57 rfl h_r0 hC (zdk dk_X12_passes 4 rfl) (q := 7) rfl (fun q1 hq1 => ?_)
    refine x_aload_n (i := 0) rfl hC (zdk dk_X12_passes 5 rfl) (q := 8) rfl ?_
    refine x_getI fl_RX12_51 (by decide) h_r0 hC (zdk dk_X12_passes 6 rfl) (q := 11) rfl ?_
    refine x_iald hq1 hC (zdk dk_X12_passes 7 rfl) (q := 12) rfl (fun k2 _ => ?_)
    refine x_icmp_ge (tgt := 42) hC (zdk dk_X12_passes 8 rfl) (q := 15) rfl rfl (fun _ => ?_) (fun _ => ?_)
    · refine x_aload_n (i := 0) rfl hC (zdk dk_X12_passes 25 rfl) (q := 43) rfl ?_
      refine x_getR (k := 20) fl_RX12_180 rfl h_r0 hC (zdk dk_X12_passes 26 rfl) (q := 46) rfl (fun q3 hq3 => ?_)
      refine x_iload_n (i := 1) rfl hC (zdk dk_X12_passes 27 rfl) (q := 47) rfl ?_
      refine x_dup2 rfl rfl hC (zdk dk_X12_passes 28 rfl) (q := 48) rfl ?_
      refine x_iald hq3 hC (zdk dk_X12_passes 29 rfl) (q := 49) rfl (fun k4 _ => ?_)
      refine x_iconst (i := 1) c_iconst_1 hC (zdk dk_X12_passes 30 rfl) (q := 50) rfl ?_
      refine x_iadd hC (zdk dk_X12_passes 31 rfl) (q := 51) rfl ?_
      refine x_iast hq3 hC (zdk dk_X12_passes 32 rfl) (q := 52) rfl (fun k5 _ => ?_)
      refine x_nmM (fun M6 => ?_)
      exact x_vret hE hC (zdk dk_X12_passes 33 rfl)
    · refine x_aload_n (i := 0) rfl hC (zdk dk_X12_passes 9 rfl) (q := 16) rfl ?_
      refine x_getR (k := 20) fl_RX12_183 rfl h_r0 hC (zdk dk_X12_passes 10 rfl) (q := 19) rfl (fun q7 hq7 => ?_)
      refine x_bipush (i := 6) c_bipush_6 hC (zdk dk_X12_passes 11 rfl) (q := 21) rfl ?_
      refine x_iload_n (i := 1) rfl hC (zdk dk_X12_passes 12 rfl) (q := 22) rfl ?_
      refine x_imul hC (zdk dk_X12_passes 13 rfl) (q := 23) rfl ?_
      refine x_iload_n (i := 2) rfl hC (zdk dk_X12_passes 14 rfl) (q := 24) rfl ?_
      refine x_iadd hC (zdk dk_X12_passes 15 rfl) (q := 25) rfl ?_
      refine x_iald hq7 hC (zdk dk_X12_passes 16 rfl) (q := 26) rfl (fun k8 _ => ?_)
      refine x_iconst (i := 1) c_iconst_1 hC (zdk dk_X12_passes 17 rfl) (q := 27) rfl ?_
      refine x_icmp_ne (tgt := 36) hC (zdk dk_X12_passes 18 rfl) (q := 30) rfl rfl (fun _ => ?_) (fun _ => ?_)
      · refine x_weak (L' := [.ref r0, .int x1, .int x2]) ⟨Or.inr rfl, Or.inr rfl, Or.inr rfl, trivial⟩ ?_
        exact x_X12_passes_36 hC hE hk0 h_r0 (f_X12_passes_2 r0 x1 f) ih _ _
      · refine x_aload_n (i := 0) rfl hC (zdk dk_X12_passes 19 rfl) (q := 31) rfl ?_
        refine x_iload_n (i := 1) rfl hC (zdk dk_X12_passes 20 rfl) (q := 32) rfl ?_
        refine x_iload_n (i := 2) rfl hC (zdk dk_X12_passes 21 rfl) (q := 33) rfl ?_
        refine x_callVv (as := [.int x1, .int x2]) cb_RX12_528 rfl (by decide) hk0 h_r0 (fun x hx => t_X12_drifts h_r0 x hx) hC (zdk dk_X12_passes 22 rfl) (q := 36) rfl rfl (Nat.le_of_ble_eq_true rfl) (fun M9 => ?_)
        refine x_weak (L' := [.ref r0, .int x1, .int x2]) ⟨Or.inr rfl, Or.inr rfl, Or.inr rfl, trivial⟩ ?_
        exact x_X12_passes_36 hC hE hk0 h_r0 (f_X12_passes_2 r0 x1 f) ih _ _
set_option maxRecDepth 100000 in
def f_X12_passes (r0 : Nat) (x1 : Int32) (M : Mem) : Option Mem := f_X12_passes_2 r0 x1 1000000 0 M
set_option maxRecDepth 100000 in
set_option maxHeartbeats 4000000 in
theorem x_X12_passes {κ : KX} {n : Nat} (hC : CX κ cX12_passes RX12 3 none 4) (hE : zEnd κ n (0, 0)) (hk0 : zRk κ (0, 0)) (r0 : Nat) (x1 : Int32) (M : Mem) (h_r0 : zO n r0 12) : X κ 3 emV n (0, 0) 0 [.ref r0, .int x1, .null] [] M (f_X12_passes r0 x1 M) := by
  unfold f_X12_passes
  refine x_iconst (i := 0) c_iconst_0 hC (zdk dk_X12_passes 0 rfl) (q := 1) rfl ?_
  refine x_istore_n (i := 2) (L' := [.ref r0, .int x1, .int 0]) (by decide) rfl hC (zdk dk_X12_passes 1 rfl) (q := 2) rfl ?_
  refine x_weak (L' := [.ref r0, .int x1, .int 0]) ⟨Or.inr rfl, Or.inr rfl, Or.inr rfl, trivial⟩ ?_
  exact x_X12_passes_2 hC hE hk0 h_r0 _ _ _
set_option maxRecDepth 100000 in
set_option maxHeartbeats 4000000 in
theorem t_X12_passes {n : Nat} {r0 : Nat} {x1 : Int32} {M : Mem} (h_r0 : zO n r0 12) (x : Mem) (hx : f_X12_passes r0 x1 M = some x) (l : Launch) (dC : Nat → ClassId) (dI : Nat → Nat → Nat) (b : zSg) : MT l dC dI b yX12_passes cX12_passes 3 none 4 0 0 n n [.ref r0, .int x1] M (emV x).1 (emV x).2 :=
  MT.ofX (by decide +kernel) rfl (Nat.le_of_ble_eq_true rfl) (fun κ hC hF _ => x_X12_passes hC (zEnd_of hF (Nat.le_refl _) (Nat.le_refl _)) (zRk_of hF (Nat.le_refl _) (Nat.le_refl _)) _ _ _ h_r0) x hx
set_option maxRecDepth 100000 in
def dt_X12_trueOnes : List (Nat × Instr × Nat) := [(0, .iconst 0, 1), (1, .istore_n 1, 1), (2, .iconst 0, 1), (3, .istore_n 2, 1), (4, .iload_n 2, 1), (5, .aload_n 0, 1), (6, .getfield 57, 3), (9, .aload_n 0, 1), (10, .getfield 51, 3), (13, .iaload, 1), (14, .if_icmp .ge 36, 3), (17, .iload_n 1, 1), (18, .aload_n 0, 1), (19, .getfield 183, 3), (22, .iload_n 2, 1), (23, .iaload, 1), (24, .iconst 1, 1), (25, .if_icmp .ne 16, 3), (28, .aload_n 0, 1), (29, .iconst 0, 1), (30, .iload_n 2, 1), (31, .invokevirtual 531, 3), (34, .ifCond .eq 7, 3), (37, .iconst 1, 1), (38, .goto 4, 3), (41, .iconst 0, 1), (42, .iadd, 1), (43, .istore_n 1, 1), (44, .iinc 2 1, 3), (47, .goto (-43), 3), (50, .iload_n 1, 1), (51, .ireturn, 1)]
set_option maxRecDepth 100000 in
theorem dk_X12_trueOnes : dt_X12_trueOnes.all (fun q => decide (decode cX12_trueOnes q.1 = .ok q.2)) = true := by decide +kernel
set_option maxRecDepth 100000 in
def f_X12_trueOnes_42 (k4 : Int32 → Int32 → Mem → Option (Int32 × Mem)) (r0 : Nat) (x2 : Int32) (s0 : Int32) (s1 : Int32) (M : Mem) : Option (Int32 × Mem) := k4 (s0 + s1) (x2 + 1) M
set_option maxRecDepth 100000 in
set_option maxHeartbeats 4000000 in
theorem x_X12_trueOnes_42 {κ : KX} {n : Nat} (hC : CX κ cX12_trueOnes RX12 3 (some .int) 6) (hE : zEnd κ n (0, 0)) (hk0 : zRk κ (0, 0)) {r0 : Nat} (h_r0 : zO n r0 12) (k4 : Int32 → Int32 → Mem → Option (Int32 × Mem)) (hk4 : ∀ (x1 : Int32) (x2 : Int32) (M : Mem), X κ 3 emI n (0, 0) 4 [.ref r0, .int x1, .int x2] [] M (k4 x1 x2 M)) (x2 : Int32) (s0 : Int32) (s1 : Int32) (M : Mem) : X κ 3 emI n (0, 0) 42 [.ref r0, .null, .int x2] [.int s1, .int s0] M (f_X12_trueOnes_42 k4 r0 x2 s0 s1 M) := by
  unfold f_X12_trueOnes_42
  refine x_iadd hC (zdk dk_X12_trueOnes 26 rfl) (q := 43) rfl ?_
  refine x_istore_n (i := 1) (L' := [.ref r0, .int (s0 + s1), .int x2]) (by decide) rfl hC (zdk dk_X12_trueOnes 27 rfl) (q := 44) rfl ?_
  refine x_iinc (i := 2) c_iconst_1 rfl (by decide) (L' := [.ref r0, .int (s0 + s1), .int (x2 + 1)]) rfl hC (zdk dk_X12_trueOnes 28 rfl) (q := 47) rfl ?_
  refine x_goto (tgt := 4) hC (zdk dk_X12_trueOnes 29 rfl) rfl ?_
  refine x_weak (L' := [.ref r0, .int (s0 + s1), .int (x2 + 1)]) ⟨Or.inr rfl, Or.inr rfl, Or.inr rfl, trivial⟩ ?_
  exact hk4 _ _ _
set_option maxRecDepth 100000 in
def f_X12_trueOnes_41 (k4 : Int32 → Int32 → Mem → Option (Int32 × Mem)) (r0 : Nat) (x2 : Int32) (s0 : Int32) (M : Mem) : Option (Int32 × Mem) := f_X12_trueOnes_42 k4 r0 x2 s0 0 M
set_option maxRecDepth 100000 in
set_option maxHeartbeats 4000000 in
theorem x_X12_trueOnes_41 {κ : KX} {n : Nat} (hC : CX κ cX12_trueOnes RX12 3 (some .int) 6) (hE : zEnd κ n (0, 0)) (hk0 : zRk κ (0, 0)) {r0 : Nat} (h_r0 : zO n r0 12) (k4 : Int32 → Int32 → Mem → Option (Int32 × Mem)) (hk4 : ∀ (x1 : Int32) (x2 : Int32) (M : Mem), X κ 3 emI n (0, 0) 4 [.ref r0, .int x1, .int x2] [] M (k4 x1 x2 M)) (x2 : Int32) (s0 : Int32) (M : Mem) : X κ 3 emI n (0, 0) 41 [.ref r0, .null, .int x2] [.int s0] M (f_X12_trueOnes_41 k4 r0 x2 s0 M) := by
  unfold f_X12_trueOnes_41
  refine x_iconst (i := 0) c_iconst_0 hC (zdk dk_X12_trueOnes 25 rfl) (q := 42) rfl ?_
  refine x_weak (L' := [.ref r0, .null, .int x2]) ⟨Or.inr rfl, Or.inl rfl, Or.inr rfl, trivial⟩ ?_
  exact x_X12_trueOnes_42 hC hE hk0 h_r0 k4 hk4 _ _ _ _
set_option maxRecDepth 100000 in
def f_X12_trueOnes_4  (r0 : Nat) : Nat → Int32 → Int32 → Mem → Option (Int32 × Mem)
  | 0, _, _, _ => none
  | f + 1, x1, x2, M => Option.bind (zrf M r0 15) fun q1 => Option.bind (zld q1 (zI M r0 13)) fun k2 => (if zI M q1 k2 ≤ x2 then some (x1, M) else Option.bind (zrf M r0 56) fun q3 => Option.bind (zld q3 x2) fun k4 => (if zI M q3 k4 = 1 then Option.bind (f_X12_isTrue r0 0 x2 M) fun z5 => (if z5.1 = 0 then f_X12_trueOnes_41 (f_X12_trueOnes_4 r0 f) r0 x2 x1 z5.2 else f_X12_trueOnes_42 (f_X12_trueOnes_4 r0 f) r0 x2 x1 1 z5.2) else f_X12_trueOnes_41 (f_X12_trueOnes_4 r0 f) r0 x2 x1 M))
set_option maxRecDepth 100000 in
set_option maxHeartbeats 4000000 in
theorem x_X12_trueOnes_4 {κ : KX} {n : Nat} (hC : CX κ cX12_trueOnes RX12 3 (some .int) 6) (hE : zEnd κ n (0, 0)) (hk0 : zRk κ (0, 0)) {r0 : Nat} (h_r0 : zO n r0 12) : ∀ (f : Nat) (x1 : Int32) (x2 : Int32) (M : Mem), X κ 3 emI n (0, 0) 4 [.ref r0, .int x1, .int x2] [] M (f_X12_trueOnes_4 r0 f x1 x2 M) := by
  intro f
  induction f with
  | zero => intros; exact x_none
  | succ f ih =>
    intro x1 x2 M 
    rw [f_X12_trueOnes_4]
    refine x_iload_n (i := 2) rfl hC (zdk dk_X12_trueOnes 4 rfl) (q := 5) rfl ?_
    refine x_aload_n (i := 0) rfl hC (zdk dk_X12_trueOnes 5 rfl) (q := 6) rfl ?_
    refine x_getR (k := 20) fl_RX12_57 rfl h_r0 hC (zdk dk_X12_trueOnes 6 rfl) (q := 9) rfl (fun q1 hq1 => ?_)
    refine x_aload_n (i := 0) rfl hC (zdk dk_X12_trueOnes 7 rfl) (q := 10) rfl ?_
    refine x_getI fl_RX12_51 (by decide) h_r0 hC (zdk dk_X12_trueOnes 8 rfl) (q := 13) rfl ?_
    refine x_iald hq1 hC (zdk dk_X12_trueOnes 9 rfl) (q := 14) rfl (fun k2 _ => ?_)
    refine x_icmp_ge (tgt := 50) hC (zdk dk_X12_trueOnes 10 rfl) (q := 17) rfl rfl (fun _ => ?_) (fun _ => ?_)
    · refine x_iload_n (i := 1) rfl hC (zdk dk_X12_trueOnes 30 rfl) (q := 51) rfl ?_
      exact x_iret (ty := .int) rfl hE hC (zdk dk_X12_trueOnes 31 rfl)
    · refine x_iload_n (i := 1) rfl hC (zdk dk_X12_trueOnes 11 rfl) (q := 18) rfl ?_
      refine x_aload_n (i := 0) rfl hC (zdk dk_X12_trueOnes 12 rfl) (q := 19) rfl ?_
      refine x_getR (k := 20) fl_RX12_183 rfl h_r0 hC (zdk dk_X12_trueOnes 13 rfl) (q := 22) rfl (fun q3 hq3 => ?_)
      refine x_iload_n (i := 2) rfl hC (zdk dk_X12_trueOnes 14 rfl) (q := 23) rfl ?_
      refine x_iald hq3 hC (zdk dk_X12_trueOnes 15 rfl) (q := 24) rfl (fun k4 _ => ?_)
      refine x_iconst (i := 1) c_iconst_1 hC (zdk dk_X12_trueOnes 16 rfl) (q := 25) rfl ?_
      refine x_icmp_ne (tgt := 41) hC (zdk dk_X12_trueOnes 17 rfl) (q := 28) rfl rfl (fun _ => ?_) (fun _ => ?_)
      · refine x_weak (L' := [.ref r0, .null, .int x2]) ⟨Or.inr rfl, Or.inl rfl, Or.inr rfl, trivial⟩ ?_
        exact x_X12_trueOnes_41 hC hE hk0 h_r0 (f_X12_trueOnes_4 r0 f) ih _ _ _
      · refine x_aload_n (i := 0) rfl hC (zdk dk_X12_trueOnes 18 rfl) (q := 29) rfl ?_
        refine x_iconst (i := 0) c_iconst_0 hC (zdk dk_X12_trueOnes 19 rfl) (q := 30) rfl ?_
        refine x_iload_n (i := 2) rfl hC (zdk dk_X12_trueOnes 20 rfl) (q := 31) rfl ?_
        refine x_callVi (as := [.int 0, .int x2]) cb_RX12_531 rfl (by decide) hk0 h_r0 (fun x hx => t_X12_isTrue h_r0 x hx) hC (zdk dk_X12_trueOnes 21 rfl) (q := 34) rfl rfl (Nat.le_of_ble_eq_true rfl) (fun z5 => ?_)
        refine x_if_eq (tgt := 41) hC (zdk dk_X12_trueOnes 22 rfl) (q := 37) rfl rfl (fun _ => ?_) (fun _ => ?_)
        · refine x_weak (L' := [.ref r0, .null, .int x2]) ⟨Or.inr rfl, Or.inl rfl, Or.inr rfl, trivial⟩ ?_
          exact x_X12_trueOnes_41 hC hE hk0 h_r0 (f_X12_trueOnes_4 r0 f) ih _ _ _
        · refine x_iconst (i := 1) c_iconst_1 hC (zdk dk_X12_trueOnes 23 rfl) (q := 38) rfl ?_
          refine x_goto (tgt := 42) hC (zdk dk_X12_trueOnes 24 rfl) rfl ?_
          refine x_weak (L' := [.ref r0, .null, .int x2]) ⟨Or.inr rfl, Or.inl rfl, Or.inr rfl, trivial⟩ ?_
          exact x_X12_trueOnes_42 hC hE hk0 h_r0 (f_X12_trueOnes_4 r0 f) ih _ _ _ _
set_option maxRecDepth 100000 in
def f_X12_trueOnes (r0 : Nat) (M : Mem) : Option (Int32 × Mem) := f_X12_trueOnes_4 r0 1000000 0 0 M
set_option maxRecDepth 100000 in
set_option maxHeartbeats 4000000 in
theorem x_X12_trueOnes {κ : KX} {n : Nat} (hC : CX κ cX12_trueOnes RX12 3 (some .int) 6) (hE : zEnd κ n (0, 0)) (hk0 : zRk κ (0, 0)) (r0 : Nat) (M : Mem) (h_r0 : zO n r0 12) : X κ 3 emI n (0, 0) 0 [.ref r0, .null, .null] [] M (f_X12_trueOnes r0 M) := by
  unfold f_X12_trueOnes
  refine x_iconst (i := 0) c_iconst_0 hC (zdk dk_X12_trueOnes 0 rfl) (q := 1) rfl ?_
  refine x_istore_n (i := 1) (L' := [.ref r0, .int 0, .null]) (by decide) rfl hC (zdk dk_X12_trueOnes 1 rfl) (q := 2) rfl ?_
  refine x_iconst (i := 0) c_iconst_0 hC (zdk dk_X12_trueOnes 2 rfl) (q := 3) rfl ?_
  refine x_istore_n (i := 2) (L' := [.ref r0, .int 0, .int 0]) (by decide) rfl hC (zdk dk_X12_trueOnes 3 rfl) (q := 4) rfl ?_
  refine x_weak (L' := [.ref r0, .int 0, .int 0]) ⟨Or.inr rfl, Or.inr rfl, Or.inr rfl, trivial⟩ ?_
  exact x_X12_trueOnes_4 hC hE hk0 h_r0 _ _ _ _
set_option maxRecDepth 100000 in
set_option maxHeartbeats 4000000 in
theorem t_X12_trueOnes {n : Nat} {r0 : Nat} {M : Mem} (h_r0 : zO n r0 12) (x : (Int32 × Mem)) (hx : f_X12_trueOnes r0 M = some x) (l : Launch) (dC : Nat → ClassId) (dI : Nat → Nat → Nat) (b : zSg) : MT l dC dI b yX12_trueOnes cX12_trueOnes 3 (some .int) 6 0 0 n n [.ref r0] M (emI x).1 (emI x).2 :=
  MT.ofX (by decide +kernel) rfl (Nat.le_of_ble_eq_true rfl) (fun κ hC hF _ => x_X12_trueOnes hC (zEnd_of hF (Nat.le_refl _) (Nat.le_refl _)) (zRk_of hF (Nat.le_refl _) (Nat.le_refl _)) _ _ h_r0) x hx
set_option maxRecDepth 100000 in
def dt_X12_has : List (Nat × Instr × Nat) := [(0, .iconst 0, 1), (1, .istore_n 2, 1), (2, .iload_n 1, 1), (3, .tableswitch 149 0 10 #[57, 62, 67, 72, 77, 87, 119, 126, 133, 138, 143], 57), (60, .aload_n 0, 1), (61, .getfield 126, 3), (64, .ireturn, 1), (65, .aload_n 0, 1), (66, .getfield 129, 3), (69, .ireturn, 1), (70, .aload_n 0, 1), (71, .getfield 132, 3), (74, .ireturn, 1), (75, .aload_n 0, 1), (76, .getfield 135, 3), (79, .ireturn, 1), (80, .aload_n 0, 1), (81, .getfield 57, 3), (84, .aload_n 0, 1), (85, .getfield 51, 3), (88, .iaload, 1), (89, .ireturn, 1), (90, .iconst 0, 1), (91, .istore_n 3, 1), (92, .iload_n 3, 1), (93, .aload_n 0, 1), (94, .getfield 57, 3), (97, .aload_n 0, 1), (98, .getfield 51, 3), (101, .iaload, 1), (102, .if_icmp .ge 18, 3), (105, .iload_n 2, 1), (106, .aload_n 0, 1), (107, .getfield 183, 3), (110, .iload_n 3, 1), (111, .iaload, 1), (112, .iadd, 1), (113, .istore_n 2, 1), (114, .iinc 3 1, 3), (117, .goto (-25), 3), (120, .iload_n 2, 1), (121, .ireturn, 1), (122, .aload_n 0, 1), (123, .getfield 180, 3), (126, .iconst 0, 1), (127, .iaload, 1), (128, .ireturn, 1), (129, .aload_n 0, 1), (130, .getfield 195, 3), (133, .iconst 0, 1), (134, .iaload, 1), (135, .ireturn, 1), (136, .aload_n 0, 1), (137, .getfield 222, 3), (140, .ireturn, 1), (141, .aload_n 0, 1), (142, .getfield 204, 3), (145, .ireturn, 1), (146, .aload_n 0, 1), (147, .getfield 207, 3), (150, .l2i, 1), (151, .ireturn, 1), (152, .iconst (-1), 1), (153, .ireturn, 1)]
set_option maxRecDepth 100000 in
theorem dk_X12_has : dt_X12_has.all (fun q => decide (decode cX12_has q.1 = .ok q.2)) = true := by decide +kernel
set_option maxRecDepth 100000 in
def f_X12_has_92  (r0 : Nat) (x1 : Int32) : Nat → Int32 → Int32 → Mem → Option (Int32 × Mem)
  | 0, _, _, _ => none
  | f + 1, x2, x3, M => Option.bind (zrf M r0 15) fun q1 => Option.bind (zld q1 (zI M r0 13)) fun k2 => (if zI M q1 k2 ≤ x3 then some (x2, M) else Option.bind (zrf M r0 56) fun q3 => Option.bind (zld q3 x3) fun k4 => (f_X12_has_92 r0 x1 f) (x2 + (zI M q3 k4)) (x3 + 1) M)
set_option maxRecDepth 100000 in
set_option maxHeartbeats 4000000 in
theorem x_X12_has_92 {κ : KX} {n : Nat} (hC : CX κ cX12_has RX12 4 (some .int) 0) (hE : zEnd κ n (0, 0)) (hk0 : zRk κ (0, 0)) {r0 : Nat} {x1 : Int32} (h_r0 : zO n r0 12) : ∀ (f : Nat) (x2 : Int32) (x3 : Int32) (M : Mem), X κ 4 emI n (0, 0) 92 [.ref r0, .null, .int x2, .int x3] [] M (f_X12_has_92 r0 x1 f x2 x3 M) := by
  intro f
  induction f with
  | zero => intros; exact x_none
  | succ f ih =>
    intro x2 x3 M 
    rw [f_X12_has_92]
    refine x_iload_n (i := 3) rfl hC (zdk dk_X12_has 24 rfl) (q := 93) rfl ?_
    refine x_aload_n (i := 0) rfl hC (zdk dk_X12_has 25 rfl) (q := 94) rfl ?_
    refine x_getR (k := 20) fl_RX12_57 rfl h_r0 hC (zdk dk_X12_has 26 rfl) (q := 97) rfl (fun q1 hq1 => ?_)
    refine x_aload_n (i := 0) rfl hC (zdk dk_X12_has 27 rfl) (q := 98) rfl ?_
    refine x_getI fl_RX12_51 (by decide) h_r0 hC (zdk dk_X12_has 28 rfl) (q := 101) rfl ?_
    refine x_iald hq1 hC (zdk dk_X12_has 29 rfl) (q := 102) rfl (fun k2 _ => ?_)
    refine x_icmp_ge (tgt := 120) hC (zdk dk_X12_has 30 rfl) (q := 105) rfl rfl (fun _ => ?_) (fun _ => ?_)
    · refine x_iload_n (i := 2) rfl hC (zdk dk_X12_has 40 rfl) (q := 121) rfl ?_
      exact x_iret (ty := .int) rfl hE hC (zdk dk_X12_has 41 rfl)
    · refine x_iload_n (i := 2) rfl hC (zdk dk_X12_has 31 rfl) (q := 106) rfl ?_
      refine x_aload_n (i := 0) rfl hC (zdk dk_X12_has 32 rfl) (q := 107) rfl ?_
      refine x_getR (k := 20) fl_RX12_183 rfl h_r0 hC (zdk dk_X12_has 33 rfl) (q := 110) rfl (fun q3 hq3 => ?_)
      refine x_iload_n (i := 3) rfl hC (zdk dk_X12_has 34 rfl) (q := 111) rfl ?_
      refine x_iald hq3 hC (zdk dk_X12_has 35 rfl) (q := 112) rfl (fun k4 _ => ?_)
      refine x_iadd hC (zdk dk_X12_has 36 rfl) (q := 113) rfl ?_
      refine x_istore_n (i := 2) (L' := [.ref r0, .null, .int (x2 + (zI M q3 k4)), .int x3]) (by decide) rfl hC (zdk dk_X12_has 37 rfl) (q := 114) rfl ?_
      refine x_iinc (i := 3) c_iconst_1 rfl (by decide) (L' := [.ref r0, .null, .int (x2 + (zI M q3 k4)), .int (x3 + 1)]) rfl hC (zdk dk_X12_has 38 rfl) (q := 117) rfl ?_
      refine x_goto (tgt := 92) hC (zdk dk_X12_has 39 rfl) rfl ?_
      refine x_weak (L' := [.ref r0, .null, .int (x2 + (zI M q3 k4)), .int (x3 + 1)]) ⟨Or.inr rfl, Or.inl rfl, Or.inr rfl, Or.inr rfl, trivial⟩ ?_
      exact ih _ _ _
set_option maxRecDepth 100000 in
def f_X12_has (r0 : Nat) (x1 : Int32) (M : Mem) : Option (Int32 × Mem) := (if x1 = 0 then some (zI M r0 37, M) else if x1 = 1 then some (zI M r0 38, M) else if x1 = 2 then some (zI M r0 39, M) else if x1 = 3 then some (zI M r0 40, M) else if x1 = 4 then Option.bind (zrf M r0 15) fun q10 => Option.bind (zld q10 (zI M r0 13)) fun k11 => some (zI M q10 k11, M) else if x1 = 5 then f_X12_has_92 r0 x1 1000000 0 0 M else if x1 = 6 then Option.bind (zrf M r0 55) fun q14 => Option.bind (zld q14 0) fun k15 => some (zI M q14 k15, M) else if x1 = 7 then Option.bind (zrf M r0 60) fun q17 => Option.bind (zld q17 0) fun k18 => some (zI M q17 k18, M) else if x1 = 8 then some (zI M r0 69, M) else if x1 = 9 then some (zI M r0 63, M) else if x1 = 10 then some ((zL M r0 64).toInt32, M) else some ((-1), M))
set_option maxRecDepth 100000 in
set_option maxHeartbeats 4000000 in
theorem x_X12_has {κ : KX} {n : Nat} (hC : CX κ cX12_has RX12 4 (some .int) 0) (hE : zEnd κ n (0, 0)) (hk0 : zRk κ (0, 0)) (r0 : Nat) (x1 : Int32) (M : Mem) (h_r0 : zO n r0 12) : X κ 4 emI n (0, 0) 0 [.ref r0, .int x1, .null, .null] [] M (f_X12_has r0 x1 M) := by
  unfold f_X12_has
  refine x_iconst (i := 0) c_iconst_0 hC (zdk dk_X12_has 0 rfl) (q := 1) rfl ?_
  refine x_istore_n (i := 2) (L' := [.ref r0, .int x1, .int 0, .null]) (by decide) rfl hC (zdk dk_X12_has 1 rfl) (q := 2) rfl ?_
  refine x_iload_n (i := 1) rfl hC (zdk dk_X12_has 2 rfl) (q := 3) rfl ?_
  refine x_tsIn (v := 0) (off := 57) (tgt := 60) hC (zdk dk_X12_has 3 rfl) (by decide) ?_ (fun ht5 => ?_)
  · refine x_aload_n (i := 0) rfl hC (zdk dk_X12_has 4 rfl) (q := 61) rfl ?_
    refine x_getI fl_RX12_126 (by decide) h_r0 hC (zdk dk_X12_has 5 rfl) (q := 64) rfl ?_
    exact x_iret (ty := .int) rfl hE hC (zdk dk_X12_has 6 rfl)
  refine x_tsIn (v := 1) (off := 62) (tgt := 65) hC (zdk dk_X12_has 3 rfl) (by decide) ?_ (fun ht6 => ?_)
  · refine x_aload_n (i := 0) rfl hC (zdk dk_X12_has 7 rfl) (q := 66) rfl ?_
    refine x_getI fl_RX12_129 (by decide) h_r0 hC (zdk dk_X12_has 8 rfl) (q := 69) rfl ?_
    exact x_iret (ty := .int) rfl hE hC (zdk dk_X12_has 9 rfl)
  refine x_tsIn (v := 2) (off := 67) (tgt := 70) hC (zdk dk_X12_has 3 rfl) (by decide) ?_ (fun ht7 => ?_)
  · refine x_aload_n (i := 0) rfl hC (zdk dk_X12_has 10 rfl) (q := 71) rfl ?_
    refine x_getI fl_RX12_132 (by decide) h_r0 hC (zdk dk_X12_has 11 rfl) (q := 74) rfl ?_
    exact x_iret (ty := .int) rfl hE hC (zdk dk_X12_has 12 rfl)
  refine x_tsIn (v := 3) (off := 72) (tgt := 75) hC (zdk dk_X12_has 3 rfl) (by decide) ?_ (fun ht8 => ?_)
  · refine x_aload_n (i := 0) rfl hC (zdk dk_X12_has 13 rfl) (q := 76) rfl ?_
    refine x_getI fl_RX12_135 (by decide) h_r0 hC (zdk dk_X12_has 14 rfl) (q := 79) rfl ?_
    exact x_iret (ty := .int) rfl hE hC (zdk dk_X12_has 15 rfl)
  refine x_tsIn (v := 4) (off := 77) (tgt := 80) hC (zdk dk_X12_has 3 rfl) (by decide) ?_ (fun ht9 => ?_)
  · refine x_aload_n (i := 0) rfl hC (zdk dk_X12_has 16 rfl) (q := 81) rfl ?_
    refine x_getR (k := 20) fl_RX12_57 rfl h_r0 hC (zdk dk_X12_has 17 rfl) (q := 84) rfl (fun q10 hq10 => ?_)
    refine x_aload_n (i := 0) rfl hC (zdk dk_X12_has 18 rfl) (q := 85) rfl ?_
    refine x_getI fl_RX12_51 (by decide) h_r0 hC (zdk dk_X12_has 19 rfl) (q := 88) rfl ?_
    refine x_iald hq10 hC (zdk dk_X12_has 20 rfl) (q := 89) rfl (fun k11 _ => ?_)
    exact x_iret (ty := .int) rfl hE hC (zdk dk_X12_has 21 rfl)
  refine x_tsIn (v := 5) (off := 87) (tgt := 90) hC (zdk dk_X12_has 3 rfl) (by decide) ?_ (fun ht12 => ?_)
  · refine x_iconst (i := 0) c_iconst_0 hC (zdk dk_X12_has 22 rfl) (q := 91) rfl ?_
    refine x_istore_n (i := 3) (L' := [.ref r0, .int x1, .int 0, .int 0]) (by decide) rfl hC (zdk dk_X12_has 23 rfl) (q := 92) rfl ?_
    refine x_weak (L' := [.ref r0, .null, .int 0, .int 0]) ⟨Or.inr rfl, Or.inl rfl, Or.inr rfl, Or.inr rfl, trivial⟩ ?_
    exact x_X12_has_92 hC hE hk0 h_r0 _ _ _ _
  refine x_tsIn (v := 6) (off := 119) (tgt := 122) hC (zdk dk_X12_has 3 rfl) (by decide) ?_ (fun ht13 => ?_)
  · refine x_aload_n (i := 0) rfl hC (zdk dk_X12_has 42 rfl) (q := 123) rfl ?_
    refine x_getR (k := 20) fl_RX12_180 rfl h_r0 hC (zdk dk_X12_has 43 rfl) (q := 126) rfl (fun q14 hq14 => ?_)
    refine x_iconst (i := 0) c_iconst_0 hC (zdk dk_X12_has 44 rfl) (q := 127) rfl ?_
    refine x_iald hq14 hC (zdk dk_X12_has 45 rfl) (q := 128) rfl (fun k15 _ => ?_)
    exact x_iret (ty := .int) rfl hE hC (zdk dk_X12_has 46 rfl)
  refine x_tsIn (v := 7) (off := 126) (tgt := 129) hC (zdk dk_X12_has 3 rfl) (by decide) ?_ (fun ht16 => ?_)
  · refine x_aload_n (i := 0) rfl hC (zdk dk_X12_has 47 rfl) (q := 130) rfl ?_
    refine x_getR (k := 20) fl_RX12_195 rfl h_r0 hC (zdk dk_X12_has 48 rfl) (q := 133) rfl (fun q17 hq17 => ?_)
    refine x_iconst (i := 0) c_iconst_0 hC (zdk dk_X12_has 49 rfl) (q := 134) rfl ?_
    refine x_iald hq17 hC (zdk dk_X12_has 50 rfl) (q := 135) rfl (fun k18 _ => ?_)
    exact x_iret (ty := .int) rfl hE hC (zdk dk_X12_has 51 rfl)
  refine x_tsIn (v := 8) (off := 133) (tgt := 136) hC (zdk dk_X12_has 3 rfl) (by decide) ?_ (fun ht19 => ?_)
  · refine x_aload_n (i := 0) rfl hC (zdk dk_X12_has 52 rfl) (q := 137) rfl ?_
    refine x_getI fl_RX12_222 (by decide) h_r0 hC (zdk dk_X12_has 53 rfl) (q := 140) rfl ?_
    exact x_iret (ty := .int) rfl hE hC (zdk dk_X12_has 54 rfl)
  refine x_tsIn (v := 9) (off := 138) (tgt := 141) hC (zdk dk_X12_has 3 rfl) (by decide) ?_ (fun ht20 => ?_)
  · refine x_aload_n (i := 0) rfl hC (zdk dk_X12_has 55 rfl) (q := 142) rfl ?_
    refine x_getI fl_RX12_204 (by decide) h_r0 hC (zdk dk_X12_has 56 rfl) (q := 145) rfl ?_
    exact x_iret (ty := .int) rfl hE hC (zdk dk_X12_has 57 rfl)
  refine x_tsIn (v := 10) (off := 143) (tgt := 146) hC (zdk dk_X12_has 3 rfl) (by decide) ?_ (fun ht21 => ?_)
  · refine x_aload_n (i := 0) rfl hC (zdk dk_X12_has 58 rfl) (q := 147) rfl ?_
    refine x_getL fl_RX12_207 h_r0 hC (zdk dk_X12_has 59 rfl) (q := 150) rfl ?_
    refine x_l2i hC (zdk dk_X12_has 60 rfl) (q := 151) rfl ?_
    exact x_iret (ty := .int) rfl hE hC (zdk dk_X12_has 61 rfl)
  refine x_tsOut (tgt := 152) [0, 1, 2, 3, 4, 5, 6, 7, 8, 9, 10] hC (zdk dk_X12_has 3 rfl) (List.forall_mem_cons.2 ⟨ht5, (List.forall_mem_cons.2 ⟨ht6, (List.forall_mem_cons.2 ⟨ht7, (List.forall_mem_cons.2 ⟨ht8, (List.forall_mem_cons.2 ⟨ht9, (List.forall_mem_cons.2 ⟨ht12, (List.forall_mem_cons.2 ⟨ht13, (List.forall_mem_cons.2 ⟨ht16, (List.forall_mem_cons.2 ⟨ht19, (List.forall_mem_cons.2 ⟨ht20, (List.forall_mem_cons.2 ⟨ht21, (fun _ h => absurd h List.not_mem_nil)⟩)⟩)⟩)⟩)⟩)⟩)⟩)⟩)⟩)⟩)⟩) (by decide) rfl ?_
  refine x_iconst (i := (-1)) c_iconst_m1 hC (zdk dk_X12_has 62 rfl) (q := 153) rfl ?_
  exact x_iret (ty := .int) rfl hE hC (zdk dk_X12_has 63 rfl)
set_option maxRecDepth 100000 in
set_option maxHeartbeats 4000000 in
theorem t_X12_has {n : Nat} {r0 : Nat} {x1 : Int32} {M : Mem} (h_r0 : zO n r0 12) (x : (Int32 × Mem)) (hx : f_X12_has r0 x1 M = some x) (l : Launch) (dC : Nat → ClassId) (dI : Nat → Nat → Nat) (b : zSg) : MT l dC dI b yX12_has cX12_has 4 (some .int) 0 0 0 n n [.ref r0, .int x1] M (emI x).1 (emI x).2 :=
  MT.ofX (by decide +kernel) rfl (Nat.le_of_ble_eq_true rfl) (fun κ hC hF _ => x_X12_has hC (zEnd_of hF (Nat.le_refl _) (Nat.le_refl _)) (zRk_of hF (Nat.le_refl _) (Nat.le_refl _)) _ _ _ h_r0) x hx
set_option maxRecDepth 100000 in
def dt_X12_letter : List (Nat × Instr × Nat) := [(0, .aload_n 0, 1), (1, .iload_n 1, 1), (2, .invokevirtual 497, 3), (5, .ifCond .eq 12, 3), (8, .iload_n 2, 1), (9, .iconst 0, 1), (10, .iconst 5, 1), (11, .invokestatic 325, 3), (14, .ifCond .ne 5, 3), (17, .iconst (-1), 1), (18, .ireturn, 1), (19, .aload_n 0, 1), (20, .getfield 72, 3), (23, .bipush 6, 2), (25, .aload_n 0, 1), (26, .getfield 51, 3), (29, .imul, 1), (30, .iload_n 1, 1), (31, .iadd, 1), (32, .laload, 1), (33, .lstore_n 3, 1), (34, .iconst 0, 1), (35, .istore 5, 2), (37, .lload_n 3, 1), (38, .lstore 6, 2), (40, .lload 6, 2), (42, .lconst 0, 1), (43, .lcmp, 1), (44, .ifCond .le 16, 3), (47, .iinc 5 1, 3), (50, .lload 6, 2), (52, .bipush 8, 2), (54, .lshr, 1), (55, .lstore 6, 2), (57, .goto (-17), 3), (60, .iload_n 2, 1), (61, .iload 5, 2), (63, .if_icmp .lt 7, 3), (66, .iconst 0, 1), (67, .goto 24, 3), (70, .lload_n 3, 1), (71, .bipush 8, 2), (73, .iload 5, 2), (75, .iconst 1, 1), (76, .isub, 1), (77, .iload_n 2, 1), (78, .isub, 1), (79, .imul, 1), (80, .lshr, 1), (81, .ldc2_w 534, 3), (84, .land, 1), (85, .l2i, 1), (86, .bipush 97, 2), (88, .isub, 1), (89, .iconst 1, 1), (90, .iadd, 1), (91, .ireturn, 1)]
set_option maxRecDepth 100000 in
theorem dk_X12_letter : dt_X12_letter.all (fun q => decide (decode cX12_letter q.1 = .ok q.2)) = true := by decide +kernel
set_option maxRecDepth 100000 in
def f_X12_letter_17  (r0 : Nat) (x1 : Int32) (x2 : Int32)  (M : Mem) : Option (Int32 × Mem) := some ((-1), M)
set_option maxRecDepth 100000 in
set_option maxHeartbeats 4000000 in
theorem x_X12_letter_17 {κ : KX} {n : Nat} (hC : CX κ cX12_letter RX12 8 (some .int) 1) (hE : zEnd κ n (0, 0)) (hk0 : zRk κ (0, 0)) {r0 : Nat} {x1 : Int32} {x2 : Int32} (h_r0 : zO n r0 12) (M : Mem) : X κ 8 emI n (0, 0) 17 [.null, .null, .null, .null, .null, .null, .null, .null] [] M (f_X12_letter_17 r0 x1 x2 M) := by
  unfold f_X12_letter_17
  refine x_iconst (i := (-1)) c_iconst_m1 hC (zdk dk_X12_letter 9 rfl) (q := 18) rfl ?_
  exact x_iret (ty := .int) rfl hE hC (zdk dk_X12_letter 10 rfl)
set_option maxRecDepth 100000 in
def f_X12_letter_91  (r0 : Nat) (x1 : Int32) (x2 : Int32) (s0 : Int32) (M : Mem) : Option (Int32 × Mem) := some (s0, M)
set_option maxRecDepth 100000 in
set_option maxHeartbeats 4000000 in
theorem x_X12_letter_91 {κ : KX} {n : Nat} (hC : CX κ cX12_letter RX12 8 (some .int) 1) (hE : zEnd κ n (0, 0)) (hk0 : zRk κ (0, 0)) {r0 : Nat} {x1 : Int32} {x2 : Int32} (h_r0 : zO n r0 12) (s0 : Int32) (M : Mem) : X κ 8 emI n (0, 0) 91 [.null, .null, .null, .null, .null, .null, .null, .null] [.int s0] M (f_X12_letter_91 r0 x1 x2 s0 M) := by
  unfold f_X12_letter_91
  exact x_iret (ty := .int) rfl hE hC (zdk dk_X12_letter 56 rfl)
set_option maxRecDepth 100000 in
def f_X12_letter_40  (r0 : Nat) (x1 : Int32) (x2 : Int32) : Nat → Int64 → Int32 → Int64 → Mem → Option (Int32 × Mem)
  | 0, _, _, _, _ => none
  | f + 1, y3, x5, y6, M => (if lg_cmp y6 0 ≤ 0 then (if x2 < x5 then f_X12_letter_91 r0 x1 x2 (((((y3 >>> ((8 * ((x5 - 1) - x2)).toInt64 &&& 63)) &&& 255).toInt32) - 97) + 1) M else f_X12_letter_91 r0 x1 x2 0 M) else (f_X12_letter_40 r0 x1 x2 f) y3 (x5 + 1) (y6 >>> ((8 : Int32).toInt64 &&& 63)) M)
set_option maxRecDepth 100000 in
set_option maxHeartbeats 4000000 in
theorem x_X12_letter_40 {κ : KX} {n : Nat} (hC : CX κ cX12_letter RX12 8 (some .int) 1) (hE : zEnd κ n (0, 0)) (hk0 : zRk κ (0, 0)) {r0 : Nat} {x1 : Int32} {x2 : Int32} (h_r0 : zO n r0 12) : ∀ (f : Nat) (y3 : Int64) (x5 : Int32) (y6 : Int64) (M : Mem), X κ 8 emI n (0, 0) 40 [.null, .null, .int x2, .long y3, .null, .int x5, .long y6, .null] [] M (f_X12_letter_40 r0 x1 x2 f y3 x5 y6 M) := by
  intro f
  induction f with
  | zero => intros; exact x_none
  | succ f ih =>
    intro y3 x5 y6 M 
    rw [f_X12_letter_40]
    refine x_lload (i := 6) rfl hC (zdk dk_X12_letter 25 rfl) (q := 42) rfl ?_
    refine x_lconst (i := 0) c_lconst_0 hC (zdk dk_X12_letter 26 rfl) (q := 43) rfl ?_
    refine x_lcmp hC (zdk dk_X12_letter 27 rfl) (q := 44) rfl ?_
    refine x_if_le (tgt := 60) hC (zdk dk_X12_letter 28 rfl) (q := 47) rfl rfl (fun _ => ?_) (fun _ => ?_)
    · refine x_iload_n (i := 2) rfl hC (zdk dk_X12_letter 35 rfl) (q := 61) rfl ?_
      refine x_iload (i := 5) rfl hC (zdk dk_X12_letter 36 rfl) (q := 63) rfl ?_
      refine x_icmp_lt (tgt := 70) hC (zdk dk_X12_letter 37 rfl) (q := 66) rfl rfl (fun _ => ?_) (fun _ => ?_)
      · refine x_lload_n (i := 3) rfl hC (zdk dk_X12_letter 40 rfl) (q := 71) rfl ?_
        refine x_bipush (i := 8) c_bipush_8 hC (zdk dk_X12_letter 41 rfl) (q := 73) rfl ?_
        refine x_iload (i := 5) rfl hC (zdk dk_X12_letter 42 rfl) (q := 75) rfl ?_
        refine x_iconst (i := 1) c_iconst_1 hC (zdk dk_X12_letter 43 rfl) (q := 76) rfl ?_
        refine x_isub hC (zdk dk_X12_letter 44 rfl) (q := 77) rfl ?_
        refine x_iload_n (i := 2) rfl hC (zdk dk_X12_letter 45 rfl) (q := 78) rfl ?_
        refine x_isub hC (zdk dk_X12_letter 46 rfl) (q := 79) rfl ?_
        refine x_imul hC (zdk dk_X12_letter 47 rfl) (q := 80) rfl ?_
        refine x_lshr hC (zdk dk_X12_letter 48 rfl) (q := 81) rfl ?_
        refine x_ldc2 k_RX12_534 hC (zdk dk_X12_letter 49 rfl) (q := 84) rfl ?_
        refine x_land hC (zdk dk_X12_letter 50 rfl) (q := 85) rfl ?_
        refine x_l2i hC (zdk dk_X12_letter 51 rfl) (q := 86) rfl ?_
        refine x_bipush (i := 97) c_bipush_97 hC (zdk dk_X12_letter 52 rfl) (q := 88) rfl ?_
        refine x_isub hC (zdk dk_X12_letter 53 rfl) (q := 89) rfl ?_
        refine x_iconst (i := 1) c_iconst_1 hC (zdk dk_X12_letter 54 rfl) (q := 90) rfl ?_
        refine x_iadd hC (zdk dk_X12_letter 55 rfl) (q := 91) rfl ?_
        refine x_weak (L' := [.null, .null, .null, .null, .null, .null, .null, .null]) ⟨Or.inl rfl, Or.inl rfl, Or.inl rfl, Or.inl rfl, Or.inl rfl, Or.inl rfl, Or.inl rfl, Or.inl rfl, trivial⟩ ?_
        exact x_X12_letter_91 hC hE hk0 h_r0 _ _
      · refine x_iconst (i := 0) c_iconst_0 hC (zdk dk_X12_letter 38 rfl) (q := 67) rfl ?_
        refine x_goto (tgt := 91) hC (zdk dk_X12_letter 39 rfl) rfl ?_
        refine x_weak (L' := [.null, .null, .null, .null, .null, .null, .null, .null]) ⟨Or.inl rfl, Or.inl rfl, Or.inl rfl, Or.inl rfl, Or.inl rfl, Or.inl rfl, Or.inl rfl, Or.inl rfl, trivial⟩ ?_
        exact x_X12_letter_91 hC hE hk0 h_r0 _ _
    · refine x_iinc (i := 5) c_iconst_1 rfl (by decide) (L' := [.null, .null, .int x2, .long y3, .null, .int (x5 + 1), .long y6, .null]) rfl hC (zdk dk_X12_letter 29 rfl) (q := 50) rfl ?_
      refine x_lload (i := 6) rfl hC (zdk dk_X12_letter 30 rfl) (q := 52) rfl ?_
      refine x_bipush (i := 8) c_bipush_8 hC (zdk dk_X12_letter 31 rfl) (q := 54) rfl ?_
      refine x_lshr hC (zdk dk_X12_letter 32 rfl) (q := 55) rfl ?_
      refine x_lstore (i := 6) (L' := [.null, .null, .int x2, .long y3, .null, .int (x5 + 1), .long (y6 >>> ((8 : Int32).toInt64 &&& 63)), .null]) (by decide) rfl hC (zdk dk_X12_letter 33 rfl) (q := 57) rfl ?_
      refine x_goto (tgt := 40) hC (zdk dk_X12_letter 34 rfl) rfl ?_
      refine x_weak (L' := [.null, .null, .int x2, .long y3, .null, .int (x5 + 1), .long (y6 >>> ((8 : Int32).toInt64 &&& 63)), .null]) ⟨Or.inl rfl, Or.inl rfl, Or.inr rfl, Or.inr rfl, Or.inl rfl, Or.inr rfl, Or.inr rfl, Or.inl rfl, trivial⟩ ?_
      exact ih _ _ _ _
set_option maxRecDepth 100000 in
def f_X12_letter (r0 : Nat) (x1 : Int32) (x2 : Int32) (M : Mem) : Option (Int32 × Mem) := Option.bind (f_X12_isPage r0 x1 M) fun z1 => (if z1.1 = 0 then f_X12_letter_17 r0 x1 x2 z1.2 else Option.bind (f_X12_is x2 0 5 z1.2) fun z2 => (if z2.1 = 0 then f_X12_letter_17 r0 x1 x2 z2.2 else Option.bind (zrf z2.2 r0 20) fun q3 => Option.bind (zld q3 ((6 * (zI z2.2 r0 13)) + x1)) fun k4 => f_X12_letter_40 r0 x1 x2 1000000 (zL z2.2 q3 k4) 0 (zL z2.2 q3 k4) z2.2))
set_option maxRecDepth 100000 in
set_option maxHeartbeats 4000000 in
theorem x_X12_letter {κ : KX} {n : Nat} (hC : CX κ cX12_letter RX12 8 (some .int) 1) (hE : zEnd κ n (0, 0)) (hk0 : zRk κ (0, 0)) (r0 : Nat) (x1 : Int32) (x2 : Int32) (M : Mem) (h_r0 : zO n r0 12) : X κ 8 emI n (0, 0) 0 [.ref r0, .int x1, .int x2, .null, .null, .null, .null, .null] [] M (f_X12_letter r0 x1 x2 M) := by
  unfold f_X12_letter
  refine x_aload_n (i := 0) rfl hC (zdk dk_X12_letter 0 rfl) (q := 1) rfl ?_
  refine x_iload_n (i := 1) rfl hC (zdk dk_X12_letter 1 rfl) (q := 2) rfl ?_
  refine x_callVi (as := [.int x1]) cb_RX12_497 rfl (by decide) hk0 h_r0 (fun x hx => t_X12_isPage h_r0 x hx) hC (zdk dk_X12_letter 2 rfl) (q := 5) rfl rfl (Nat.le_of_ble_eq_true rfl) (fun z1 => ?_)
  refine x_if_eq (tgt := 17) hC (zdk dk_X12_letter 3 rfl) (q := 8) rfl rfl (fun _ => ?_) (fun _ => ?_)
  · refine x_weak (L' := [.null, .null, .null, .null, .null, .null, .null, .null]) ⟨Or.inl rfl, Or.inl rfl, Or.inl rfl, Or.inl rfl, Or.inl rfl, Or.inl rfl, Or.inl rfl, Or.inl rfl, trivial⟩ ?_
    exact x_X12_letter_17 hC hE hk0 h_r0 _
  · refine x_iload_n (i := 2) rfl hC (zdk dk_X12_letter 4 rfl) (q := 9) rfl ?_
    refine x_iconst (i := 0) c_iconst_0 hC (zdk dk_X12_letter 5 rfl) (q := 10) rfl ?_
    refine x_iconst (i := 5) c_iconst_5 hC (zdk dk_X12_letter 6 rfl) (q := 11) rfl ?_
    refine x_callSi (as := [.int x2, .int 0, .int 5]) cb_RX12_325 rfl (by decide) hk0 (fun x hx => t_X12_is  x hx) hC (zdk dk_X12_letter 7 rfl) (q := 14) rfl rfl (Nat.le_of_ble_eq_true rfl) (fun z2 => ?_)
    refine x_if_ne (tgt := 19) hC (zdk dk_X12_letter 8 rfl) (q := 17) rfl rfl (fun _ => ?_) (fun _ => ?_)
    · refine x_aload_n (i := 0) rfl hC (zdk dk_X12_letter 11 rfl) (q := 20) rfl ?_
      refine x_getR (k := 21) fl_RX12_72 rfl h_r0 hC (zdk dk_X12_letter 12 rfl) (q := 23) rfl (fun q3 hq3 => ?_)
      refine x_bipush (i := 6) c_bipush_6 hC (zdk dk_X12_letter 13 rfl) (q := 25) rfl ?_
      refine x_aload_n (i := 0) rfl hC (zdk dk_X12_letter 14 rfl) (q := 26) rfl ?_
      refine x_getI fl_RX12_51 (by decide) h_r0 hC (zdk dk_X12_letter 15 rfl) (q := 29) rfl ?_
      refine x_imul hC (zdk dk_X12_letter 16 rfl) (q := 30) rfl ?_
      refine x_iload_n (i := 1) rfl hC (zdk dk_X12_letter 17 rfl) (q := 31) rfl ?_
      refine x_iadd hC (zdk dk_X12_letter 18 rfl) (q := 32) rfl ?_
      refine x_lald hq3 hC (zdk dk_X12_letter 19 rfl) (q := 33) rfl (fun k4 _ => ?_)
      refine x_lstore_n (i := 3) (L' := [.ref r0, .int x1, .int x2, .long (zL z2.2 q3 k4), .null, .null, .null, .null]) (by decide) rfl hC (zdk dk_X12_letter 20 rfl) (q := 34) rfl ?_
      refine x_iconst (i := 0) c_iconst_0 hC (zdk dk_X12_letter 21 rfl) (q := 35) rfl ?_
      refine x_istore (i := 5) (L' := [.ref r0, .int x1, .int x2, .long (zL z2.2 q3 k4), .null, .int 0, .null, .null]) (by decide) rfl hC (zdk dk_X12_letter 22 rfl) (q := 37) rfl ?_
      refine x_lload_n (i := 3) rfl hC (zdk dk_X12_letter 23 rfl) (q := 38) rfl ?_
      refine x_lstore (i := 6) (L' := [.ref r0, .int x1, .int x2, .long (zL z2.2 q3 k4), .null, .int 0, .long (zL z2.2 q3 k4), .null]) (by decide) rfl hC (zdk dk_X12_letter 24 rfl) (q := 40) rfl ?_
      refine x_weak (L' := [.null, .null, .int x2, .long (zL z2.2 q3 k4), .null, .int 0, .long (zL z2.2 q3 k4), .null]) ⟨Or.inl rfl, Or.inl rfl, Or.inr rfl, Or.inr rfl, Or.inl rfl, Or.inr rfl, Or.inr rfl, Or.inl rfl, trivial⟩ ?_
      exact x_X12_letter_40 hC hE hk0 h_r0 _ _ _ _ _
    · refine x_weak (L' := [.null, .null, .null, .null, .null, .null, .null, .null]) ⟨Or.inl rfl, Or.inl rfl, Or.inl rfl, Or.inl rfl, Or.inl rfl, Or.inl rfl, Or.inl rfl, Or.inl rfl, trivial⟩ ?_
      exact x_X12_letter_17 hC hE hk0 h_r0 _
set_option maxRecDepth 100000 in
set_option maxHeartbeats 4000000 in
theorem t_X12_letter {n : Nat} {r0 : Nat} {x1 : Int32} {x2 : Int32} {M : Mem} (h_r0 : zO n r0 12) (x : (Int32 × Mem)) (hx : f_X12_letter r0 x1 x2 M = some x) (l : Launch) (dC : Nat → ClassId) (dI : Nat → Nat → Nat) (b : zSg) : MT l dC dI b yX12_letter cX12_letter 8 (some .int) 1 0 0 n n [.ref r0, .int x1, .int x2] M (emI x).1 (emI x).2 :=
  MT.ofX (by decide +kernel) rfl (Nat.le_of_ble_eq_true rfl) (fun κ hC hF _ => x_X12_letter hC (zEnd_of hF (Nat.le_refl _) (Nat.le_refl _)) (zRk_of hF (Nat.le_refl _) (Nat.le_refl _)) _ _ _ _ h_r0) x hx
set_option maxRecDepth 100000 in
def dt_X12_page : List (Nat × Instr × Nat) := [(0, .aload_n 0, 1), (1, .iload_n 1, 1), (2, .invokevirtual 497, 3), (5, .ifCond .eq 12, 3), (8, .iload_n 2, 1), (9, .iconst 0, 1), (10, .iconst 2, 1), (11, .invokestatic 325, 3), (14, .ifCond .ne 5, 3), (17, .iconst (-1), 1), (18, .ireturn, 1), (19, .iload_n 2, 1), (20, .ifCond .ne 12, 3), (23, .aload_n 0, 1), (24, .getfield 183, 3), (27, .iload_n 1, 1), (28, .iaload, 1), (29, .goto 36, 3), (32, .aload_n 0, 1), (33, .getfield 183, 3), (36, .iload_n 1, 1), (37, .iaload, 1), (38, .ifCond .ne 7, 3), (41, .iconst 0, 1), (42, .goto 23, 3), (45, .iload_n 2, 1), (46, .iconst 1, 1), (47, .if_icmp .ne 12, 3), (50, .aload_n 0, 1), (51, .getfield 186, 3), (54, .iload_n 1, 1), (55, .iaload, 1), (56, .goto 9, 3), (59, .aload_n 0, 1), (60, .iconst 0, 1), (61, .iload_n 1, 1), (62, .invokevirtual 503, 3), (65, .ireturn, 1)]
set_option maxRecDepth 100000 in
theorem dk_X12_page : dt_X12_page.all (fun q => decide (decode cX12_page q.1 = .ok q.2)) = true := by decide +kernel
set_option maxRecDepth 100000 in
def f_X12_page_17  (r0 : Nat) (x1 : Int32) (x2 : Int32)  (M : Mem) : Option (Int32 × Mem) := some ((-1), M)
set_option maxRecDepth 100000 in
set_option maxHeartbeats 4000000 in
theorem x_X12_page_17 {κ : KX} {n : Nat} (hC : CX κ cX12_page RX12 3 (some .int) 2) (hE : zEnd κ n (0, 0)) (hk0 : zRk κ (0, 0)) {r0 : Nat} {x1 : Int32} {x2 : Int32} (h_r0 : zO n r0 12) (M : Mem) : X κ 3 emI n (0, 0) 17 [.null, .null, .null] [] M (f_X12_page_17 r0 x1 x2 M) := by
  unfold f_X12_page_17
  refine x_iconst (i := (-1)) c_iconst_m1 hC (zdk dk_X12_page 9 rfl) (q := 18) rfl ?_
  exact x_iret (ty := .int) rfl hE hC (zdk dk_X12_page 10 rfl)
set_option maxRecDepth 100000 in
def f_X12_page_65  (r0 : Nat) (x1 : Int32) (x2 : Int32) (s0 : Int32) (M : Mem) : Option (Int32 × Mem) := some (s0, M)
set_option maxRecDepth 100000 in
set_option maxHeartbeats 4000000 in
theorem x_X12_page_65 {κ : KX} {n : Nat} (hC : CX κ cX12_page RX12 3 (some .int) 2) (hE : zEnd κ n (0, 0)) (hk0 : zRk κ (0, 0)) {r0 : Nat} {x1 : Int32} {x2 : Int32} (h_r0 : zO n r0 12) (s0 : Int32) (M : Mem) : X κ 3 emI n (0, 0) 65 [.null, .null, .null] [.int s0] M (f_X12_page_65 r0 x1 x2 s0 M) := by
  unfold f_X12_page_65
  exact x_iret (ty := .int) rfl hE hC (zdk dk_X12_page 37 rfl)
set_option maxRecDepth 100000 in
def f_X12_page (r0 : Nat) (x1 : Int32) (x2 : Int32) (M : Mem) : Option (Int32 × Mem) := Option.bind (f_X12_isPage r0 x1 M) fun z1 => (if z1.1 = 0 then f_X12_page_17 r0 x1 x2 z1.2 else Option.bind (f_X12_is x2 0 2 z1.2) fun z2 => (if z2.1 = 0 then f_X12_page_17 r0 x1 x2 z2.2 else (if x2 = 0 then Option.bind (zrf z2.2 r0 56) fun q8 => Option.bind (zld q8 x1) fun k9 => f_X12_page_65 r0 x1 x2 (zI z2.2 q8 k9) z2.2 else Option.bind (zrf z2.2 r0 56) fun q3 => Option.bind (zld q3 x1) fun k4 => (if zI z2.2 q3 k4 = 0 then f_X12_page_65 r0 x1 x2 0 z2.2 else (if x2 = 1 then Option.bind (zrf z2.2 r0 57) fun q6 => Option.bind (zld q6 x1) fun k7 => f_X12_page_65 r0 x1 x2 (zI z2.2 q6 k7) z2.2 else Option.bind (f_X12_wantedOf r0 0 x1 z2.2) fun z5 => f_X12_page_65 r0 x1 x2 z5.1 z5.2)))))
set_option maxRecDepth 100000 in
set_option maxHeartbeats 4000000 in
theorem x_X12_page {κ : KX} {n : Nat} (hC : CX κ cX12_page RX12 3 (some .int) 2) (hE : zEnd κ n (0, 0)) (hk0 : zRk κ (0, 0)) (r0 : Nat) (x1 : Int32) (x2 : Int32) (M : Mem) (h_r0 : zO n r0 12) : X κ 3 emI n (0, 0) 0 [.ref r0, .int x1, .int x2] [] M (f_X12_page r0 x1 x2 M) := by
  unfold f_X12_page
  refine x_aload_n (i := 0) rfl hC (zdk dk_X12_page 0 rfl) (q := 1) rfl ?_
  refine x_iload_n (i := 1) rfl hC (zdk dk_X12_page 1 rfl) (q := 2) rfl ?_
  refine x_callVi (as := [.int x1]) cb_RX12_497 rfl (by decide) hk0 h_r0 (fun x hx => t_X12_isPage h_r0 x hx) hC (zdk dk_X12_page 2 rfl) (q := 5) rfl rfl (Nat.le_of_ble_eq_true rfl) (fun z1 => ?_)
  refine x_if_eq (tgt := 17) hC (zdk dk_X12_page 3 rfl) (q := 8) rfl rfl (fun _ => ?_) (fun _ => ?_)
  · refine x_weak (L' := [.null, .null, .null]) ⟨Or.inl rfl, Or.inl rfl, Or.inl rfl, trivial⟩ ?_
    exact x_X12_page_17 hC hE hk0 h_r0 _
  · refine x_iload_n (i := 2) rfl hC (zdk dk_X12_page 4 rfl) (q := 9) rfl ?_
    refine x_iconst (i := 0) c_iconst_0 hC (zdk dk_X12_page 5 rfl) (q := 10) rfl ?_
    refine x_iconst (i := 2) c_iconst_2 hC (zdk dk_X12_page 6 rfl) (q := 11) rfl ?_
    refine x_callSi (as := [.int x2, .int 0, .int 2]) cb_RX12_325 rfl (by decide) hk0 (fun x hx => t_X12_is  x hx) hC (zdk dk_X12_page 7 rfl) (q := 14) rfl rfl (Nat.le_of_ble_eq_true rfl) (fun z2 => ?_)
    refine x_if_ne (tgt := 19) hC (zdk dk_X12_page 8 rfl) (q := 17) rfl rfl (fun _ => ?_) (fun _ => ?_)
    · refine x_iload_n (i := 2) rfl hC (zdk dk_X12_page 11 rfl) (q := 20) rfl ?_
      refine x_if_ne (tgt := 32) hC (zdk dk_X12_page 12 rfl) (q := 23) rfl rfl (fun _ => ?_) (fun _ => ?_)
      · refine x_aload_n (i := 0) rfl hC (zdk dk_X12_page 18 rfl) (q := 33) rfl ?_
        refine x_getR (k := 20) fl_RX12_183 rfl h_r0 hC (zdk dk_X12_page 19 rfl) (q := 36) rfl (fun q3 hq3 => ?_)
        refine x_iload_n (i := 1) rfl hC (zdk dk_X12_page 20 rfl) (q := 37) rfl ?_
        refine x_iald hq3 hC (zdk dk_X12_page 21 rfl) (q := 38) rfl (fun k4 _ => ?_)
        refine x_if_ne (tgt := 45) hC (zdk dk_X12_page 22 rfl) (q := 41) rfl rfl (fun _ => ?_) (fun _ => ?_)
        · refine x_iload_n (i := 2) rfl hC (zdk dk_X12_page 25 rfl) (q := 46) rfl ?_
          refine x_iconst (i := 1) c_iconst_1 hC (zdk dk_X12_page 26 rfl) (q := 47) rfl ?_
          refine x_icmp_ne (tgt := 59) hC (zdk dk_X12_page 27 rfl) (q := 50) rfl rfl (fun _ => ?_) (fun _ => ?_)
          · refine x_aload_n (i := 0) rfl hC (zdk dk_X12_page 33 rfl) (q := 60) rfl ?_
            refine x_iconst (i := 0) c_iconst_0 hC (zdk dk_X12_page 34 rfl) (q := 61) rfl ?_
            refine x_iload_n (i := 1) rfl hC (zdk dk_X12_page 35 rfl) (q := 62) rfl ?_
            refine x_callVi (as := [.int 0, .int x1]) cb_RX12_503 rfl (by decide) hk0 h_r0 (fun x hx => t_X12_wantedOf h_r0 x hx) hC (zdk dk_X12_page 36 rfl) (q := 65) rfl rfl (Nat.le_of_ble_eq_true rfl) (fun z5 => ?_)
            refine x_weak (L' := [.null, .null, .null]) ⟨Or.inl rfl, Or.inl rfl, Or.inl rfl, trivial⟩ ?_
            exact x_X12_page_65 hC hE hk0 h_r0 _ _
          · refine x_aload_n (i := 0) rfl hC (zdk dk_X12_page 28 rfl) (q := 51) rfl ?_
            refine x_getR (k := 20) fl_RX12_186 rfl h_r0 hC (zdk dk_X12_page 29 rfl) (q := 54) rfl (fun q6 hq6 => ?_)
            refine x_iload_n (i := 1) rfl hC (zdk dk_X12_page 30 rfl) (q := 55) rfl ?_
            refine x_iald hq6 hC (zdk dk_X12_page 31 rfl) (q := 56) rfl (fun k7 _ => ?_)
            refine x_goto (tgt := 65) hC (zdk dk_X12_page 32 rfl) rfl ?_
            refine x_weak (L' := [.null, .null, .null]) ⟨Or.inl rfl, Or.inl rfl, Or.inl rfl, trivial⟩ ?_
            exact x_X12_page_65 hC hE hk0 h_r0 _ _
        · refine x_iconst (i := 0) c_iconst_0 hC (zdk dk_X12_page 23 rfl) (q := 42) rfl ?_
          refine x_goto (tgt := 65) hC (zdk dk_X12_page 24 rfl) rfl ?_
          refine x_weak (L' := [.null, .null, .null]) ⟨Or.inl rfl, Or.inl rfl, Or.inl rfl, trivial⟩ ?_
          exact x_X12_page_65 hC hE hk0 h_r0 _ _
      · refine x_aload_n (i := 0) rfl hC (zdk dk_X12_page 13 rfl) (q := 24) rfl ?_
        refine x_getR (k := 20) fl_RX12_183 rfl h_r0 hC (zdk dk_X12_page 14 rfl) (q := 27) rfl (fun q8 hq8 => ?_)
        refine x_iload_n (i := 1) rfl hC (zdk dk_X12_page 15 rfl) (q := 28) rfl ?_
        refine x_iald hq8 hC (zdk dk_X12_page 16 rfl) (q := 29) rfl (fun k9 _ => ?_)
        refine x_goto (tgt := 65) hC (zdk dk_X12_page 17 rfl) rfl ?_
        refine x_weak (L' := [.null, .null, .null]) ⟨Or.inl rfl, Or.inl rfl, Or.inl rfl, trivial⟩ ?_
        exact x_X12_page_65 hC hE hk0 h_r0 _ _
    · refine x_weak (L' := [.null, .null, .null]) ⟨Or.inl rfl, Or.inl rfl, Or.inl rfl, trivial⟩ ?_
      exact x_X12_page_17 hC hE hk0 h_r0 _
set_option maxRecDepth 100000 in
set_option maxHeartbeats 4000000 in
theorem t_X12_page {n : Nat} {r0 : Nat} {x1 : Int32} {x2 : Int32} {M : Mem} (h_r0 : zO n r0 12) (x : (Int32 × Mem)) (hx : f_X12_page r0 x1 x2 M = some x) (l : Launch) (dC : Nat → ClassId) (dI : Nat → Nat → Nat) (b : zSg) : MT l dC dI b yX12_page cX12_page 3 (some .int) 2 0 0 n n [.ref r0, .int x1, .int x2] M (emI x).1 (emI x).2 :=
  MT.ofX (by decide +kernel) rfl (Nat.le_of_ble_eq_true rfl) (fun κ hC hF _ => x_X12_page hC (zEnd_of hF (Nat.le_refl _) (Nat.le_refl _)) (zRk_of hF (Nat.le_refl _) (Nat.le_refl _)) _ _ _ _ h_r0) x hx
set_option maxRecDepth 100000 in
def dt_X12_isAhead : List (Nat × Instr × Nat) := [(0, .aload_n 0, 1), (1, .getfield 120, 3), (4, .ifCond .eq 30, 3), (7, .iload_n 1, 1), (8, .iload_n 2, 1), (9, .iload_n 3, 1), (10, .invokestatic 325, 3), (13, .ifCond .eq 21, 3), (16, .aload_n 0, 1), (17, .getfield 180, 3), (20, .iconst 0, 1), (21, .iaload, 1), (22, .sipush 999, 3), (25, .iload_n 1, 1), (26, .isub, 1), (27, .if_icmp .gt 7, 3), (30, .iconst 1, 1), (31, .goto 4, 3), (34, .iconst 0, 1), (35, .ireturn, 1)]
set_option maxRecDepth 100000 in
theorem dk_X12_isAhead : dt_X12_isAhead.all (fun q => decide (decode cX12_isAhead q.1 = .ok q.2)) = true := by decide +kernel
set_option maxRecDepth 100000 in
def f_X12_isAhead_35  (r0 : Nat) (x1 : Int32) (x2 : Int32) (x3 : Int32) (s0 : Int32) (M : Mem) : Option (Int32 × Mem) := zbz s0 (some (s0, M))
set_option maxRecDepth 100000 in
set_option maxHeartbeats 4000000 in
theorem x_X12_isAhead_35 {κ : KX} {n : Nat} (hC : CX κ cX12_isAhead RX12 4 (some .boolean) 1) (hE : zEnd κ n (0, 0)) (hk0 : zRk κ (0, 0)) {r0 : Nat} {x1 : Int32} {x2 : Int32} {x3 : Int32} (h_r0 : zO n r0 12) (s0 : Int32) (M : Mem) : X κ 4 emI n (0, 0) 35 [.null, .null, .null, .null] [.int s0] M (f_X12_isAhead_35 r0 x1 x2 x3 s0 M) := by
  unfold f_X12_isAhead_35
  refine x_bz (fun hb1 => ?_)
  exact x_iret (ty := .boolean) hb1.1 hE hC (zdk dk_X12_isAhead 19 rfl)
set_option maxRecDepth 100000 in
def f_X12_isAhead_34  (r0 : Nat) (x1 : Int32) (x2 : Int32) (x3 : Int32)  (M : Mem) : Option (Int32 × Mem) := f_X12_isAhead_35 r0 x1 x2 x3 0 M
set_option maxRecDepth 100000 in
set_option maxHeartbeats 4000000 in
theorem x_X12_isAhead_34 {κ : KX} {n : Nat} (hC : CX κ cX12_isAhead RX12 4 (some .boolean) 1) (hE : zEnd κ n (0, 0)) (hk0 : zRk κ (0, 0)) {r0 : Nat} {x1 : Int32} {x2 : Int32} {x3 : Int32} (h_r0 : zO n r0 12) (M : Mem) : X κ 4 emI n (0, 0) 34 [.null, .null, .null, .null] [] M (f_X12_isAhead_34 r0 x1 x2 x3 M) := by
  unfold f_X12_isAhead_34
  refine x_iconst (i := 0) c_iconst_0 hC (zdk dk_X12_isAhead 18 rfl) (q := 35) rfl ?_
  refine x_weak (L' := [.null, .null, .null, .null]) ⟨Or.inl rfl, Or.inl rfl, Or.inl rfl, Or.inl rfl, trivial⟩ ?_
  exact x_X12_isAhead_35 hC hE hk0 h_r0 _ _
set_option maxRecDepth 100000 in
def f_X12_isAhead (r0 : Nat) (x1 : Int32) (x2 : Int32) (x3 : Int32) (M : Mem) : Option (Int32 × Mem) := (if zI M r0 35 = 0 then f_X12_isAhead_34 r0 x1 x2 x3 M else Option.bind (f_X12_is x1 x2 x3 M) fun z2 => (if z2.1 = 0 then f_X12_isAhead_34 r0 x1 x2 x3 z2.2 else Option.bind (zrf z2.2 r0 55) fun q3 => Option.bind (zld q3 0) fun k4 => (if 999 - x1 < zI z2.2 q3 k4 then f_X12_isAhead_34 r0 x1 x2 x3 z2.2 else f_X12_isAhead_35 r0 x1 x2 x3 1 z2.2)))
set_option maxRecDepth 100000 in
set_option maxHeartbeats 4000000 in
theorem x_X12_isAhead {κ : KX} {n : Nat} (hC : CX κ cX12_isAhead RX12 4 (some .boolean) 1) (hE : zEnd κ n (0, 0)) (hk0 : zRk κ (0, 0)) (r0 : Nat) (x1 : Int32) (x2 : Int32) (x3 : Int32) (M : Mem) (h_r0 : zO n r0 12) : X κ 4 emI n (0, 0) 0 [.ref r0, .int x1, .int x2, .int x3] [] M (f_X12_isAhead r0 x1 x2 x3 M) := by
  unfold f_X12_isAhead
  refine x_aload_n (i := 0) rfl hC (zdk dk_X12_isAhead 0 rfl) (q := 1) rfl ?_
  refine x_getI fl_RX12_120 (by decide) h_r0 hC (zdk dk_X12_isAhead 1 rfl) (q := 4) rfl ?_
  refine x_if_eq (tgt := 34) hC (zdk dk_X12_isAhead 2 rfl) (q := 7) rfl rfl (fun _ => ?_) (fun _ => ?_)
  · refine x_weak (L' := [.null, .null, .null, .null]) ⟨Or.inl rfl, Or.inl rfl, Or.inl rfl, Or.inl rfl, trivial⟩ ?_
    exact x_X12_isAhead_34 hC hE hk0 h_r0 _
  · refine x_iload_n (i := 1) rfl hC (zdk dk_X12_isAhead 3 rfl) (q := 8) rfl ?_
    refine x_iload_n (i := 2) rfl hC (zdk dk_X12_isAhead 4 rfl) (q := 9) rfl ?_
    refine x_iload_n (i := 3) rfl hC (zdk dk_X12_isAhead 5 rfl) (q := 10) rfl ?_
    refine x_callSi (as := [.int x1, .int x2, .int x3]) cb_RX12_325 rfl (by decide) hk0 (fun x hx => t_X12_is  x hx) hC (zdk dk_X12_isAhead 6 rfl) (q := 13) rfl rfl (Nat.le_of_ble_eq_true rfl) (fun z2 => ?_)
    refine x_if_eq (tgt := 34) hC (zdk dk_X12_isAhead 7 rfl) (q := 16) rfl rfl (fun _ => ?_) (fun _ => ?_)
    · refine x_weak (L' := [.null, .null, .null, .null]) ⟨Or.inl rfl, Or.inl rfl, Or.inl rfl, Or.inl rfl, trivial⟩ ?_
      exact x_X12_isAhead_34 hC hE hk0 h_r0 _
    · refine x_aload_n (i := 0) rfl hC (zdk dk_X12_isAhead 8 rfl) (q := 17) rfl ?_
      refine x_getR (k := 20) fl_RX12_180 rfl h_r0 hC (zdk dk_X12_isAhead 9 rfl) (q := 20) rfl (fun q3 hq3 => ?_)
      refine x_iconst (i := 0) c_iconst_0 hC (zdk dk_X12_isAhead 10 rfl) (q := 21) rfl ?_
      refine x_iald hq3 hC (zdk dk_X12_isAhead 11 rfl) (q := 22) rfl (fun k4 _ => ?_)
      refine x_sipush (i := 999) c_sipush_999 hC (zdk dk_X12_isAhead 12 rfl) (q := 25) rfl ?_
      refine x_iload_n (i := 1) rfl hC (zdk dk_X12_isAhead 13 rfl) (q := 26) rfl ?_
      refine x_isub hC (zdk dk_X12_isAhead 14 rfl) (q := 27) rfl ?_
      refine x_icmp_gt (tgt := 34) hC (zdk dk_X12_isAhead 15 rfl) (q := 30) rfl rfl (fun _ => ?_) (fun _ => ?_)
      · refine x_weak (L' := [.null, .null, .null, .null]) ⟨Or.inl rfl, Or.inl rfl, Or.inl rfl, Or.inl rfl, trivial⟩ ?_
        exact x_X12_isAhead_34 hC hE hk0 h_r0 _
      · refine x_iconst (i := 1) c_iconst_1 hC (zdk dk_X12_isAhead 16 rfl) (q := 31) rfl ?_
        refine x_goto (tgt := 35) hC (zdk dk_X12_isAhead 17 rfl) rfl ?_
        refine x_weak (L' := [.null, .null, .null, .null]) ⟨Or.inl rfl, Or.inl rfl, Or.inl rfl, Or.inl rfl, trivial⟩ ?_
        exact x_X12_isAhead_35 hC hE hk0 h_r0 _ _
set_option maxRecDepth 100000 in
set_option maxHeartbeats 4000000 in
theorem t_X12_isAhead {n : Nat} {r0 : Nat} {x1 : Int32} {x2 : Int32} {x3 : Int32} {M : Mem} (h_r0 : zO n r0 12) (x : (Int32 × Mem)) (hx : f_X12_isAhead r0 x1 x2 x3 M = some x) (l : Launch) (dC : Nat → ClassId) (dI : Nat → Nat → Nat) (b : zSg) : MT l dC dI b yX12_isAhead cX12_isAhead 4 (some .boolean) 1 0 0 n n [.ref r0, .int x1, .int x2, .int x3] M (emI x).1 (emI x).2 :=
  MT.ofX (by decide +kernel) rfl (Nat.le_of_ble_eq_true rfl) (fun κ hC hF _ => x_X12_isAhead hC (zEnd_of hF (Nat.le_refl _) (Nat.le_refl _)) (zRk_of hF (Nat.le_refl _) (Nat.le_refl _)) _ _ _ _ _ h_r0) x hx
set_option maxRecDepth 100000 in
def dt_X12_level : List (Nat × Instr × Nat) := [(0, .aload_n 0, 1), (1, .iload_n 1, 1), (2, .invokevirtual 536, 3), (5, .ifCond .eq 28, 3), (8, .iload_n 2, 1), (9, .iconst 0, 1), (10, .aload_n 0, 1), (11, .getfield 132, 3), (14, .iconst 1, 1), (15, .isub, 1), (16, .invokestatic 325, 3), (19, .ifCond .eq 14, 3), (22, .aload_n 0, 1), (23, .iload_n 3, 1), (24, .iconst 0, 1), (25, .bipush 40, 2), (27, .invokevirtual 539, 3), (30, .ifCond .ne 5, 3), (33, .iconst (-1), 1), (34, .ireturn, 1), (35, .aload_n 0, 1), (36, .iconst 1, 1), (37, .iconst 0, 1), (38, .invokevirtual 479, 3), (41, .iconst 0, 1), (42, .istore 4, 2), (44, .iload 4, 2), (46, .iload_n 3, 1), (47, .if_icmp .ge 14, 3), (50, .aload_n 0, 1), (51, .iconst 1, 1), (52, .invokevirtual 542, 3), (55, .iinc 4 1, 3), (58, .goto (-14), 3), (61, .aload_n 0, 1), (62, .iconst 1, 1), (63, .iload_n 1, 1), (64, .iload_n 2, 1), (65, .invokevirtual 500, 3), (68, .ireturn, 1)]
set_option maxRecDepth 100000 in
theorem dk_X12_level : dt_X12_level.all (fun q => decide (decode cX12_level q.1 = .ok q.2)) = true := by decide +kernel
set_option maxRecDepth 100000 in
def f_X12_level_33  (r0 : Nat) (x1 : Int32) (x2 : Int32) (x3 : Int32)  (M : Mem) : Option (Int32 × Mem) := some ((-1), M)
set_option maxRecDepth 100000 in
set_option maxHeartbeats 4000000 in
theorem x_X12_level_33 {κ : KX} {n : Nat} (hC : CX κ cX12_level RX12 5 (some .int) 5) (hE : zEnd κ n (0, 0)) (hk0 : zRk κ (0, 0)) {r0 : Nat} {x1 : Int32} {x2 : Int32} {x3 : Int32} (h_r0 : zO n r0 12) (M : Mem) : X κ 5 emI n (0, 0) 33 [.null, .null, .null, .null, .null] [] M (f_X12_level_33 r0 x1 x2 x3 M) := by
  unfold f_X12_level_33
  refine x_iconst (i := (-1)) c_iconst_m1 hC (zdk dk_X12_level 18 rfl) (q := 34) rfl ?_
  exact x_iret (ty := .int) rfl hE hC (zdk dk_X12_level 19 rfl)
set_option maxRecDepth 100000 in
def f_X12_level_44  (r0 : Nat) (x1 : Int32) (x2 : Int32) (x3 : Int32) : Nat → Int32 → Mem → Option (Int32 × Mem)
  | 0, _, _ => none
  | f + 1, x4, M => (if x3 ≤ x4 then Option.bind (f_X12_levelAt r0 1 x1 x2 M) fun z1 => some (z1.1, z1.2) else Option.bind (f_X12_passes r0 1 M) fun M2 => (f_X12_level_44 r0 x1 x2 x3 f) (x4 + 1) M2)
set_option maxRecDepth 100000 in
set_option maxHeartbeats 4000000 in
theorem x_X12_level_44 {κ : KX} {n : Nat} (hC : CX κ cX12_level RX12 5 (some .int) 5) (hE : zEnd κ n (0, 0)) (hk0 : zRk κ (0, 0)) {r0 : Nat} {x1 : Int32} {x2 : Int32} {x3 : Int32} (h_r0 : zO n r0 12) : ∀ (f : Nat) (x4 : Int32) (M : Mem), X κ 5 emI n (0, 0) 44 [.ref r0, .int x1, .int x2, .int x3, .int x4] [] M (f_X12_level_44 r0 x1 x2 x3 f x4 M) := by
  intro f
  induction f with
  | zero => intros; exact x_none
  | succ f ih =>
    intro x4 M 
    rw [f_X12_level_44]
    refine x_iload (i := 4) rfl hC (zdk dk_X12_level 26 rfl) (q := 46) rfl ?_
    refine x_iload_n (i := 3) rfl hC (zdk dk_X12_level 27 rfl) (q := 47) rfl ?_
    refine x_icmp_ge (tgt := 61) hC (zdk dk_X12_level 28 rfl) (q := 50) rfl rfl (fun _ => ?_) (fun _ => ?_)
    · refine x_aload_n (i := 0) rfl hC (zdk dk_X12_level 34 rfl) (q := 62) rfl ?_
      refine x_iconst (i := 1) c_iconst_1 hC (zdk dk_X12_level 35 rfl) (q := 63) rfl ?_
      refine x_iload_n (i := 1) rfl hC (zdk dk_X12_level 36 rfl) (q := 64) rfl ?_
      refine x_iload_n (i := 2) rfl hC (zdk dk_X12_level 37 rfl) (q := 65) rfl ?_
      refine x_callVi (as := [.int 1, .int x1, .int x2]) cb_RX12_500 rfl (by decide) hk0 h_r0 (fun x hx => t_X12_levelAt h_r0 x hx) hC (zdk dk_X12_level 38 rfl) (q := 68) rfl rfl (Nat.le_of_ble_eq_true rfl) (fun z1 => ?_)
      exact x_iret (ty := .int) rfl hE hC (zdk dk_X12_level 39 rfl)
    · refine x_aload_n (i := 0) rfl hC (zdk dk_X12_level 29 rfl) (q := 51) rfl ?_
      refine x_iconst (i := 1) c_iconst_1 hC (zdk dk_X12_level 30 rfl) (q := 52) rfl ?_
      refine x_callVv (as := [.int 1]) cb_RX12_542 rfl (by decide) hk0 h_r0 (fun x hx => t_X12_passes h_r0 x hx) hC (zdk dk_X12_level 31 rfl) (q := 55) rfl rfl (Nat.le_of_ble_eq_true rfl) (fun M2 => ?_)
      refine x_iinc (i := 4) c_iconst_1 rfl (by decide) (L' := [.ref r0, .int x1, .int x2, .int x3, .int (x4 + 1)]) rfl hC (zdk dk_X12_level 32 rfl) (q := 58) rfl ?_
      refine x_goto (tgt := 44) hC (zdk dk_X12_level 33 rfl) rfl ?_
      refine x_weak (L' := [.ref r0, .int x1, .int x2, .int x3, .int (x4 + 1)]) ⟨Or.inr rfl, Or.inr rfl, Or.inr rfl, Or.inr rfl, Or.inr rfl, trivial⟩ ?_
      exact ih _ _
set_option maxRecDepth 100000 in
def f_X12_level (r0 : Nat) (x1 : Int32) (x2 : Int32) (x3 : Int32) (M : Mem) : Option (Int32 × Mem) := Option.bind (f_X12_isThere r0 x1 M) fun z3 => (if z3.1 = 0 then f_X12_level_33 r0 x1 x2 x3 z3.2 else Option.bind (f_X12_is x2 0 ((zI z3.2 r0 39) - 1) z3.2) fun z4 => (if z4.1 = 0 then f_X12_level_33 r0 x1 x2 x3 z4.2 else Option.bind (f_X12_isAhead r0 x3 0 40 z4.2) fun z5 => (if z5.1 = 0 then f_X12_level_33 r0 x1 x2 x3 z5.2 else Option.bind (f_X12_copies r0 1 0 z5.2) fun M6 => f_X12_level_44 r0 x1 x2 x3 1000000 0 M6)))
set_option maxRecDepth 100000 in
set_option maxHeartbeats 4000000 in
theorem x_X12_level {κ : KX} {n : Nat} (hC : CX κ cX12_level RX12 5 (some .int) 5) (hE : zEnd κ n (0, 0)) (hk0 : zRk κ (0, 0)) (r0 : Nat) (x1 : Int32) (x2 : Int32) (x3 : Int32) (M : Mem) (h_r0 : zO n r0 12) : X κ 5 emI n (0, 0) 0 [.ref r0, .int x1, .int x2, .int x3, .null] [] M (f_X12_level r0 x1 x2 x3 M) := by
  unfold f_X12_level
  refine x_aload_n (i := 0) rfl hC (zdk dk_X12_level 0 rfl) (q := 1) rfl ?_
  refine x_iload_n (i := 1) rfl hC (zdk dk_X12_level 1 rfl) (q := 2) rfl ?_
  refine x_callVi (as := [.int x1]) cb_RX12_536 rfl (by decide) hk0 h_r0 (fun x hx => t_X12_isThere h_r0 x hx) hC (zdk dk_X12_level 2 rfl) (q := 5) rfl rfl (Nat.le_of_ble_eq_true rfl) (fun z3 => ?_)
  refine x_if_eq (tgt := 33) hC (zdk dk_X12_level 3 rfl) (q := 8) rfl rfl (fun _ => ?_) (fun _ => ?_)
  · refine x_weak (L' := [.null, .null, .null, .null, .null]) ⟨Or.inl rfl, Or.inl rfl, Or.inl rfl, Or.inl rfl, Or.inl rfl, trivial⟩ ?_
    exact x_X12_level_33 hC hE hk0 h_r0 _
  · refine x_iload_n (i := 2) rfl hC (zdk dk_X12_level 4 rfl) (q := 9) rfl ?_
    refine x_iconst (i := 0) c_iconst_0 hC (zdk dk_X12_level 5 rfl) (q := 10) rfl ?_
    refine x_aload_n (i := 0) rfl hC (zdk dk_X12_level 6 rfl) (q := 11) rfl ?_
    refine x_getI fl_RX12_132 (by decide) h_r0 hC (zdk dk_X12_level 7 rfl) (q := 14) rfl ?_
    refine x_iconst (i := 1) c_iconst_1 hC (zdk dk_X12_level 8 rfl) (q := 15) rfl ?_
    refine x_isub hC (zdk dk_X12_level 9 rfl) (q := 16) rfl ?_
    refine x_callSi (as := [.int x2, .int 0, .int ((zI z3.2 r0 39) - 1)]) cb_RX12_325 rfl (by decide) hk0 (fun x hx => t_X12_is  x hx) hC (zdk dk_X12_level 10 rfl) (q := 19) rfl rfl (Nat.le_of_ble_eq_true rfl) (fun z4 => ?_)
    refine x_if_eq (tgt := 33) hC (zdk dk_X12_level 11 rfl) (q := 22) rfl rfl (fun _ => ?_) (fun _ => ?_)
    · refine x_weak (L' := [.null, .null, .null, .null, .null]) ⟨Or.inl rfl, Or.inl rfl, Or.inl rfl, Or.inl rfl, Or.inl rfl, trivial⟩ ?_
      exact x_X12_level_33 hC hE hk0 h_r0 _
    · refine x_aload_n (i := 0) rfl hC (zdk dk_X12_level 12 rfl) (q := 23) rfl ?_
      refine x_iload_n (i := 3) rfl hC (zdk dk_X12_level 13 rfl) (q := 24) rfl ?_
      refine x_iconst (i := 0) c_iconst_0 hC (zdk dk_X12_level 14 rfl) (q := 25) rfl ?_
      refine x_bipush (i := 40) c_bipush_40 hC (zdk dk_X12_level 15 rfl) (q := 27) rfl ?_
      refine x_callVi (as := [.int x3, .int 0, .int 40]) cb_RX12_539 rfl (by decide) hk0 h_r0 (fun x hx => t_X12_isAhead h_r0 x hx) hC (zdk dk_X12_level 16 rfl) (q := 30) rfl rfl (Nat.le_of_ble_eq_true rfl) (fun z5 => ?_)
      refine x_if_ne (tgt := 35) hC (zdk dk_X12_level 17 rfl) (q := 33) rfl rfl (fun _ => ?_) (fun _ => ?_)
      · refine x_aload_n (i := 0) rfl hC (zdk dk_X12_level 20 rfl) (q := 36) rfl ?_
        refine x_iconst (i := 1) c_iconst_1 hC (zdk dk_X12_level 21 rfl) (q := 37) rfl ?_
        refine x_iconst (i := 0) c_iconst_0 hC (zdk dk_X12_level 22 rfl) (q := 38) rfl ?_
        refine x_callVv (as := [.int 1, .int 0]) cb_RX12_479 rfl (by decide) hk0 h_r0 (fun x hx => t_X12_copies h_r0 x hx) hC (zdk dk_X12_level 23 rfl) (q := 41) rfl rfl (Nat.le_of_ble_eq_true rfl) (fun M6 => ?_)
        refine x_iconst (i := 0) c_iconst_0 hC (zdk dk_X12_level 24 rfl) (q := 42) rfl ?_
        refine x_istore (i := 4) (L' := [.ref r0, .int x1, .int x2, .int x3, .int 0]) (by decide) rfl hC (zdk dk_X12_level 25 rfl) (q := 44) rfl ?_
        refine x_weak (L' := [.ref r0, .int x1, .int x2, .int x3, .int 0]) ⟨Or.inr rfl, Or.inr rfl, Or.inr rfl, Or.inr rfl, Or.inr rfl, trivial⟩ ?_
        exact x_X12_level_44 hC hE hk0 h_r0 _ _ _
      · refine x_weak (L' := [.null, .null, .null, .null, .null]) ⟨Or.inl rfl, Or.inl rfl, Or.inl rfl, Or.inl rfl, Or.inl rfl, trivial⟩ ?_
        exact x_X12_level_33 hC hE hk0 h_r0 _
set_option maxRecDepth 100000 in
set_option maxHeartbeats 4000000 in
theorem t_X12_level {n : Nat} {r0 : Nat} {x1 : Int32} {x2 : Int32} {x3 : Int32} {M : Mem} (h_r0 : zO n r0 12) (x : (Int32 × Mem)) (hx : f_X12_level r0 x1 x2 x3 M = some x) (l : Launch) (dC : Nat → ClassId) (dI : Nat → Nat → Nat) (b : zSg) : MT l dC dI b yX12_level cX12_level 5 (some .int) 5 0 0 n n [.ref r0, .int x1, .int x2, .int x3] M (emI x).1 (emI x).2 :=
  MT.ofX (by decide +kernel) rfl (Nat.le_of_ble_eq_true rfl) (fun κ hC hF _ => x_X12_level hC (zEnd_of hF (Nat.le_refl _) (Nat.le_refl _)) (zRk_of hF (Nat.le_refl _) (Nat.le_refl _)) _ _ _ _ _ h_r0) x hx
set_option maxRecDepth 100000 in
def dt_X12_isRead : List (Nat × Instr × Nat) := [(0, .aload_n 0, 1), (1, .iload_n 1, 1), (2, .invokevirtual 536, 3), (5, .ifCond .eq 17, 3), (8, .iload_n 2, 1), (9, .iconst 0, 1), (10, .bipush 100, 2), (12, .invokestatic 325, 3), (15, .ifCond .eq 7, 3), (18, .iconst 1, 1), (19, .goto 4, 3), (22, .iconst 0, 1), (23, .ireturn, 1)]
set_option maxRecDepth 100000 in
theorem dk_X12_isRead : dt_X12_isRead.all (fun q => decide (decode cX12_isRead q.1 = .ok q.2)) = true := by decide +kernel
set_option maxRecDepth 100000 in
def f_X12_isRead_23  (r0 : Nat) (x1 : Int32) (x2 : Int32) (s0 : Int32) (M : Mem) : Option (Int32 × Mem) := zbz s0 (some (s0, M))
set_option maxRecDepth 100000 in
set_option maxHeartbeats 4000000 in
theorem x_X12_isRead_23 {κ : KX} {n : Nat} (hC : CX κ cX12_isRead RX12 3 (some .boolean) 2) (hE : zEnd κ n (0, 0)) (hk0 : zRk κ (0, 0)) {r0 : Nat} {x1 : Int32} {x2 : Int32} (h_r0 : zO n r0 12) (s0 : Int32) (M : Mem) : X κ 3 emI n (0, 0) 23 [.null, .null, .null] [.int s0] M (f_X12_isRead_23 r0 x1 x2 s0 M) := by
  unfold f_X12_isRead_23
  refine x_bz (fun hb1 => ?_)
  exact x_iret (ty := .boolean) hb1.1 hE hC (zdk dk_X12_isRead 12 rfl)
set_option maxRecDepth 100000 in
def f_X12_isRead_22  (r0 : Nat) (x1 : Int32) (x2 : Int32)  (M : Mem) : Option (Int32 × Mem) := f_X12_isRead_23 r0 x1 x2 0 M
set_option maxRecDepth 100000 in
set_option maxHeartbeats 4000000 in
theorem x_X12_isRead_22 {κ : KX} {n : Nat} (hC : CX κ cX12_isRead RX12 3 (some .boolean) 2) (hE : zEnd κ n (0, 0)) (hk0 : zRk κ (0, 0)) {r0 : Nat} {x1 : Int32} {x2 : Int32} (h_r0 : zO n r0 12) (M : Mem) : X κ 3 emI n (0, 0) 22 [.null, .null, .null] [] M (f_X12_isRead_22 r0 x1 x2 M) := by
  unfold f_X12_isRead_22
  refine x_iconst (i := 0) c_iconst_0 hC (zdk dk_X12_isRead 11 rfl) (q := 23) rfl ?_
  refine x_weak (L' := [.null, .null, .null]) ⟨Or.inl rfl, Or.inl rfl, Or.inl rfl, trivial⟩ ?_
  exact x_X12_isRead_23 hC hE hk0 h_r0 _ _
set_option maxRecDepth 100000 in
def f_X12_isRead (r0 : Nat) (x1 : Int32) (x2 : Int32) (M : Mem) : Option (Int32 × Mem) := Option.bind (f_X12_isThere r0 x1 M) fun z2 => (if z2.1 = 0 then f_X12_isRead_22 r0 x1 x2 z2.2 else Option.bind (f_X12_is x2 0 100 z2.2) fun z3 => (if z3.1 = 0 then f_X12_isRead_22 r0 x1 x2 z3.2 else f_X12_isRead_23 r0 x1 x2 1 z3.2))
set_option maxRecDepth 100000 in
set_option maxHeartbeats 4000000 in
theorem x_X12_isRead {κ : KX} {n : Nat} (hC : CX κ cX12_isRead RX12 3 (some .boolean) 2) (hE : zEnd κ n (0, 0)) (hk0 : zRk κ (0, 0)) (r0 : Nat) (x1 : Int32) (x2 : Int32) (M : Mem) (h_r0 : zO n r0 12) : X κ 3 emI n (0, 0) 0 [.ref r0, .int x1, .int x2] [] M (f_X12_isRead r0 x1 x2 M) := by
  unfold f_X12_isRead
  refine x_aload_n (i := 0) rfl hC (zdk dk_X12_isRead 0 rfl) (q := 1) rfl ?_
  refine x_iload_n (i := 1) rfl hC (zdk dk_X12_isRead 1 rfl) (q := 2) rfl ?_
  refine x_callVi (as := [.int x1]) cb_RX12_536 rfl (by decide) hk0 h_r0 (fun x hx => t_X12_isThere h_r0 x hx) hC (zdk dk_X12_isRead 2 rfl) (q := 5) rfl rfl (Nat.le_of_ble_eq_true rfl) (fun z2 => ?_)
  refine x_if_eq (tgt := 22) hC (zdk dk_X12_isRead 3 rfl) (q := 8) rfl rfl (fun _ => ?_) (fun _ => ?_)
  · refine x_weak (L' := [.null, .null, .null]) ⟨Or.inl rfl, Or.inl rfl, Or.inl rfl, trivial⟩ ?_
    exact x_X12_isRead_22 hC hE hk0 h_r0 _
  · refine x_iload_n (i := 2) rfl hC (zdk dk_X12_isRead 4 rfl) (q := 9) rfl ?_
    refine x_iconst (i := 0) c_iconst_0 hC (zdk dk_X12_isRead 5 rfl) (q := 10) rfl ?_
    refine x_bipush (i := 100) c_bipush_100 hC (zdk dk_X12_isRead 6 rfl) (q := 12) rfl ?_
    refine x_callSi (as := [.int x2, .int 0, .int 100]) cb_RX12_325 rfl (by decide) hk0 (fun x hx => t_X12_is  x hx) hC (zdk dk_X12_isRead 7 rfl) (q := 15) rfl rfl (Nat.le_of_ble_eq_true rfl) (fun z3 => ?_)
    refine x_if_eq (tgt := 22) hC (zdk dk_X12_isRead 8 rfl) (q := 18) rfl rfl (fun _ => ?_) (fun _ => ?_)
    · refine x_weak (L' := [.null, .null, .null]) ⟨Or.inl rfl, Or.inl rfl, Or.inl rfl, trivial⟩ ?_
      exact x_X12_isRead_22 hC hE hk0 h_r0 _
    · refine x_iconst (i := 1) c_iconst_1 hC (zdk dk_X12_isRead 9 rfl) (q := 19) rfl ?_
      refine x_goto (tgt := 23) hC (zdk dk_X12_isRead 10 rfl) rfl ?_
      refine x_weak (L' := [.null, .null, .null]) ⟨Or.inl rfl, Or.inl rfl, Or.inl rfl, trivial⟩ ?_
      exact x_X12_isRead_23 hC hE hk0 h_r0 _ _
set_option maxRecDepth 100000 in
set_option maxHeartbeats 4000000 in
theorem t_X12_isRead {n : Nat} {r0 : Nat} {x1 : Int32} {x2 : Int32} {M : Mem} (h_r0 : zO n r0 12) (x : (Int32 × Mem)) (hx : f_X12_isRead r0 x1 x2 M = some x) (l : Launch) (dC : Nat → ClassId) (dI : Nat → Nat → Nat) (b : zSg) : MT l dC dI b yX12_isRead cX12_isRead 3 (some .boolean) 2 0 0 n n [.ref r0, .int x1, .int x2] M (emI x).1 (emI x).2 :=
  MT.ofX (by decide +kernel) rfl (Nat.le_of_ble_eq_true rfl) (fun κ hC hF _ => x_X12_isRead hC (zEnd_of hF (Nat.le_refl _) (Nat.le_refl _)) (zRk_of hF (Nat.le_refl _) (Nat.le_refl _)) _ _ _ _ h_r0) x hx
set_option maxRecDepth 100000 in
def dt_X12_ones : List (Nat × Instr × Nat) := [(0, .aload_n 0, 1), (1, .iload_n 1, 1), (2, .iload_n 2, 1), (3, .invokevirtual 545, 3), (6, .ifCond .eq 17, 3), (9, .aload_n 0, 1), (10, .iconst 0, 1), (11, .iload_n 1, 1), (12, .iload_n 2, 1), (13, .iconst 0, 1), (14, .invokevirtual 512, 3), (17, .invokestatic 452, 3), (20, .goto 4, 3), (23, .iconst (-1), 1), (24, .ireturn, 1)]
set_option maxRecDepth 100000 in
theorem dk_X12_ones : dt_X12_ones.all (fun q => decide (decode cX12_ones q.1 = .ok q.2)) = true := by decide +kernel
set_option maxRecDepth 100000 in
def f_X12_ones_24  (r0 : Nat) (x1 : Int32) (x2 : Int32) (s0 : Int32) (M : Mem) : Option (Int32 × Mem) := some (s0, M)
set_option maxRecDepth 100000 in
set_option maxHeartbeats 4000000 in
theorem x_X12_ones_24 {κ : KX} {n : Nat} (hC : CX κ cX12_ones RX12 3 (some .int) 3) (hE : zEnd κ n (0, 0)) (hk0 : zRk κ (0, 0)) {r0 : Nat} {x1 : Int32} {x2 : Int32} (h_r0 : zO n r0 12) (s0 : Int32) (M : Mem) : X κ 3 emI n (0, 0) 24 [.null, .null, .null] [.int s0] M (f_X12_ones_24 r0 x1 x2 s0 M) := by
  unfold f_X12_ones_24
  exact x_iret (ty := .int) rfl hE hC (zdk dk_X12_ones 14 rfl)
set_option maxRecDepth 100000 in
def f_X12_ones (r0 : Nat) (x1 : Int32) (x2 : Int32) (M : Mem) : Option (Int32 × Mem) := Option.bind (f_X12_isRead r0 x1 x2 M) fun z1 => (if z1.1 = 0 then f_X12_ones_24 r0 x1 x2 ((-1)) z1.2 else Option.bind (f_X12_bitsBy r0 0 x1 x2 0 z1.2) fun z2 => Option.bind (f_X12_onesOf z2.1 z2.2) fun z3 => f_X12_ones_24 r0 x1 x2 z3.1 z3.2)
set_option maxRecDepth 100000 in
set_option maxHeartbeats 4000000 in
theorem x_X12_ones {κ : KX} {n : Nat} (hC : CX κ cX12_ones RX12 3 (some .int) 3) (hE : zEnd κ n (0, 0)) (hk0 : zRk κ (0, 0)) (r0 : Nat) (x1 : Int32) (x2 : Int32) (M : Mem) (h_r0 : zO n r0 12) : X κ 3 emI n (0, 0) 0 [.ref r0, .int x1, .int x2] [] M (f_X12_ones r0 x1 x2 M) := by
  unfold f_X12_ones
  refine x_aload_n (i := 0) rfl hC (zdk dk_X12_ones 0 rfl) (q := 1) rfl ?_
  refine x_iload_n (i := 1) rfl hC (zdk dk_X12_ones 1 rfl) (q := 2) rfl ?_
  refine x_iload_n (i := 2) rfl hC (zdk dk_X12_ones 2 rfl) (q := 3) rfl ?_
  refine x_callVi (as := [.int x1, .int x2]) cb_RX12_545 rfl (by decide) hk0 h_r0 (fun x hx => t_X12_isRead h_r0 x hx) hC (zdk dk_X12_ones 3 rfl) (q := 6) rfl rfl (Nat.le_of_ble_eq_true rfl) (fun z1 => ?_)
  refine x_if_eq (tgt := 23) hC (zdk dk_X12_ones 4 rfl) (q := 9) rfl rfl (fun _ => ?_) (fun _ => ?_)
  · refine x_iconst (i := (-1)) c_iconst_m1 hC (zdk dk_X12_ones 13 rfl) (q := 24) rfl ?_
    refine x_weak (L' := [.null, .null, .null]) ⟨Or.inl rfl, Or.inl rfl, Or.inl rfl, trivial⟩ ?_
    exact x_X12_ones_24 hC hE hk0 h_r0 _ _
  · refine x_aload_n (i := 0) rfl hC (zdk dk_X12_ones 5 rfl) (q := 10) rfl ?_
    refine x_iconst (i := 0) c_iconst_0 hC (zdk dk_X12_ones 6 rfl) (q := 11) rfl ?_
    refine x_iload_n (i := 1) rfl hC (zdk dk_X12_ones 7 rfl) (q := 12) rfl ?_
    refine x_iload_n (i := 2) rfl hC (zdk dk_X12_ones 8 rfl) (q := 13) rfl ?_
    refine x_iconst (i := 0) c_iconst_0 hC (zdk dk_X12_ones 9 rfl) (q := 14) rfl ?_
    refine x_callVl (as := [.int 0, .int x1, .int x2, .int 0]) cb_RX12_512 rfl (by decide) hk0 h_r0 (fun x hx => t_X12_bitsBy h_r0 x hx) hC (zdk dk_X12_ones 10 rfl) (q := 17) rfl rfl (Nat.le_of_ble_eq_true rfl) (fun z2 => ?_)
    refine x_callSi (as := [.long z2.1]) cb_RX12_452 rfl (by decide) hk0 (fun x hx => t_X12_onesOf  x hx) hC (zdk dk_X12_ones 11 rfl) (q := 20) rfl rfl (Nat.le_of_ble_eq_true rfl) (fun z3 => ?_)
    refine x_goto (tgt := 24) hC (zdk dk_X12_ones 12 rfl) rfl ?_
    refine x_weak (L' := [.null, .null, .null]) ⟨Or.inl rfl, Or.inl rfl, Or.inl rfl, trivial⟩ ?_
    exact x_X12_ones_24 hC hE hk0 h_r0 _ _
set_option maxRecDepth 100000 in
set_option maxHeartbeats 4000000 in
theorem t_X12_ones {n : Nat} {r0 : Nat} {x1 : Int32} {x2 : Int32} {M : Mem} (h_r0 : zO n r0 12) (x : (Int32 × Mem)) (hx : f_X12_ones r0 x1 x2 M = some x) (l : Launch) (dC : Nat → ClassId) (dI : Nat → Nat → Nat) (b : zSg) : MT l dC dI b yX12_ones cX12_ones 3 (some .int) 3 0 0 n n [.ref r0, .int x1, .int x2] M (emI x).1 (emI x).2 :=
  MT.ofX (by decide +kernel) rfl (Nat.le_of_ble_eq_true rfl) (fun κ hC hF _ => x_X12_ones hC (zEnd_of hF (Nat.le_refl _) (Nat.le_refl _)) (zRk_of hF (Nat.le_refl _) (Nat.le_refl _)) _ _ _ _ h_r0) x hx
set_option maxRecDepth 100000 in
def dt_X12_syndrome : List (Nat × Instr × Nat) := [(0, .aload_n 0, 1), (1, .iload_n 1, 1), (2, .iload_n 2, 1), (3, .invokevirtual 545, 3), (6, .ifCond .eq 18, 3), (9, .iload_n 3, 1), (10, .iconst 1, 1), (11, .iconst 2, 1), (12, .aload_n 0, 1), (13, .iconst 2, 1), (14, .invokevirtual 428, 3), (17, .imul, 1), (18, .invokestatic 325, 3), (21, .ifCond .ne 5, 3), (24, .iconst (-1), 1), (25, .ireturn, 1), (26, .aload_n 0, 1), (27, .aload_n 0, 1), (28, .iconst 0, 1), (29, .iload_n 1, 1), (30, .iload_n 2, 1), (31, .iconst 0, 1), (32, .invokevirtual 512, 3), (35, .invokevirtual 461, 3), (38, .aload_n 0, 1), (39, .getfield 150, 3), (42, .iload_n 3, 1), (43, .iaload, 1), (44, .ireturn, 1)]
set_option maxRecDepth 100000 in
theorem dk_X12_syndrome : dt_X12_syndrome.all (fun q => decide (decode cX12_syndrome q.1 = .ok q.2)) = true := by decide +kernel
set_option maxRecDepth 100000 in
def f_X12_syndrome_24  (r0 : Nat) (x1 : Int32) (x2 : Int32) (x3 : Int32)  (M : Mem) : Option (Int32 × Mem) := some ((-1), M)
set_option maxRecDepth 100000 in
set_option maxHeartbeats 4000000 in
theorem x_X12_syndrome_24 {κ : KX} {n : Nat} (hC : CX κ cX12_syndrome RX12 4 (some .int) 3) (hE : zEnd κ n (0, 0)) (hk0 : zRk κ (0, 0)) {r0 : Nat} {x1 : Int32} {x2 : Int32} {x3 : Int32} (h_r0 : zO n r0 12) (M : Mem) : X κ 4 emI n (0, 0) 24 [.null, .null, .null, .null] [] M (f_X12_syndrome_24 r0 x1 x2 x3 M) := by
  unfold f_X12_syndrome_24
  refine x_iconst (i := (-1)) c_iconst_m1 hC (zdk dk_X12_syndrome 14 rfl) (q := 25) rfl ?_
  exact x_iret (ty := .int) rfl hE hC (zdk dk_X12_syndrome 15 rfl)
set_option maxRecDepth 100000 in
def f_X12_syndrome (r0 : Nat) (x1 : Int32) (x2 : Int32) (x3 : Int32) (M : Mem) : Option (Int32 × Mem) := Option.bind (f_X12_isRead r0 x1 x2 M) fun z1 => (if z1.1 = 0 then f_X12_syndrome_24 r0 x1 x2 x3 z1.2 else Option.bind (f_X12_by r0 2 z1.2) fun z2 => Option.bind (f_X12_is x3 1 (2 * z2.1) z2.2) fun z3 => (if z3.1 = 0 then f_X12_syndrome_24 r0 x1 x2 x3 z3.2 else Option.bind (f_X12_bitsBy r0 0 x1 x2 0 z3.2) fun z4 => Option.bind (f_X12_syndromesOf r0 z4.1 z4.2) fun M5 => Option.bind (zrf M5 r0 45) fun q6 => Option.bind (zld q6 x3) fun k7 => some (zI M5 q6 k7, M5)))
set_option maxRecDepth 100000 in
set_option maxHeartbeats 4000000 in
theorem x_X12_syndrome {κ : KX} {n : Nat} (hC : CX κ cX12_syndrome RX12 4 (some .int) 3) (hE : zEnd κ n (0, 0)) (hk0 : zRk κ (0, 0)) (r0 : Nat) (x1 : Int32) (x2 : Int32) (x3 : Int32) (M : Mem) (h_r0 : zO n r0 12) : X κ 4 emI n (0, 0) 0 [.ref r0, .int x1, .int x2, .int x3] [] M (f_X12_syndrome r0 x1 x2 x3 M) := by
  unfold f_X12_syndrome
  refine x_aload_n (i := 0) rfl hC (zdk dk_X12_syndrome 0 rfl) (q := 1) rfl ?_
  refine x_iload_n (i := 1) rfl hC (zdk dk_X12_syndrome 1 rfl) (q := 2) rfl ?_
  refine x_iload_n (i := 2) rfl hC (zdk dk_X12_syndrome 2 rfl) (q := 3) rfl ?_
  refine x_callVi (as := [.int x1, .int x2]) cb_RX12_545 rfl (by decide) hk0 h_r0 (fun x hx => t_X12_isRead h_r0 x hx) hC (zdk dk_X12_syndrome 3 rfl) (q := 6) rfl rfl (Nat.le_of_ble_eq_true rfl) (fun z1 => ?_)
  refine x_if_eq (tgt := 24) hC (zdk dk_X12_syndrome 4 rfl) (q := 9) rfl rfl (fun _ => ?_) (fun _ => ?_)
  · refine x_weak (L' := [.null, .null, .null, .null]) ⟨Or.inl rfl, Or.inl rfl, Or.inl rfl, Or.inl rfl, trivial⟩ ?_
    exact x_X12_syndrome_24 hC hE hk0 h_r0 _
  · refine x_iload_n (i := 3) rfl hC (zdk dk_X12_syndrome 5 rfl) (q := 10) rfl ?_
    refine x_iconst (i := 1) c_iconst_1 hC (zdk dk_X12_syndrome 6 rfl) (q := 11) rfl ?_
    refine x_iconst (i := 2) c_iconst_2 hC (zdk dk_X12_syndrome 7 rfl) (q := 12) rfl ?_
    refine x_aload_n (i := 0) rfl hC (zdk dk_X12_syndrome 8 rfl) (q := 13) rfl ?_
    refine x_iconst (i := 2) c_iconst_2 hC (zdk dk_X12_syndrome 9 rfl) (q := 14) rfl ?_
    refine x_callVi (as := [.int 2]) cb_RX12_428 rfl (by decide) hk0 h_r0 (fun x hx => t_X12_by h_r0 x hx) hC (zdk dk_X12_syndrome 10 rfl) (q := 17) rfl rfl (Nat.le_of_ble_eq_true rfl) (fun z2 => ?_)
    refine x_imul hC (zdk dk_X12_syndrome 11 rfl) (q := 18) rfl ?_
    refine x_callSi (as := [.int x3, .int 1, .int (2 * z2.1)]) cb_RX12_325 rfl (by decide) hk0 (fun x hx => t_X12_is  x hx) hC (zdk dk_X12_syndrome 12 rfl) (q := 21) rfl rfl (Nat.le_of_ble_eq_true rfl) (fun z3 => ?_)
    refine x_if_ne (tgt := 26) hC (zdk dk_X12_syndrome 13 rfl) (q := 24) rfl rfl (fun _ => ?_) (fun _ => ?_)
    · refine x_aload_n (i := 0) rfl hC (zdk dk_X12_syndrome 16 rfl) (q := 27) rfl ?_
      refine x_aload_n (i := 0) rfl hC (zdk dk_X12_syndrome 17 rfl) (q := 28) rfl ?_
      refine x_iconst (i := 0) c_iconst_0 hC (zdk dk_X12_syndrome 18 rfl) (q := 29) rfl ?_
      refine x_iload_n (i := 1) rfl hC (zdk dk_X12_syndrome 19 rfl) (q := 30) rfl ?_
      refine x_iload_n (i := 2) rfl hC (zdk dk_X12_syndrome 20 rfl) (q := 31) rfl ?_
      refine x_iconst (i := 0) c_iconst_0 hC (zdk dk_X12_syndrome 21 rfl) (q := 32) rfl ?_
      refine x_callVl (as := [.int 0, .int x1, .int x2, .int 0]) cb_RX12_512 rfl (by decide) hk0 h_r0 (fun x hx => t_X12_bitsBy h_r0 x hx) hC (zdk dk_X12_syndrome 22 rfl) (q := 35) rfl rfl (Nat.le_of_ble_eq_true rfl) (fun z4 => ?_)
      refine x_callVv (as := [.long z4.1]) cb_RX12_461 rfl (by decide) hk0 h_r0 (fun x hx => t_X12_syndromesOf h_r0 x hx) hC (zdk dk_X12_syndrome 23 rfl) (q := 38) rfl rfl (Nat.le_of_ble_eq_true rfl) (fun M5 => ?_)
      refine x_aload_n (i := 0) rfl hC (zdk dk_X12_syndrome 24 rfl) (q := 39) rfl ?_
      refine x_getR (k := 20) fl_RX12_150 rfl h_r0 hC (zdk dk_X12_syndrome 25 rfl) (q := 42) rfl (fun q6 hq6 => ?_)
      refine x_iload_n (i := 3) rfl hC (zdk dk_X12_syndrome 26 rfl) (q := 43) rfl ?_
      refine x_iald hq6 hC (zdk dk_X12_syndrome 27 rfl) (q := 44) rfl (fun k7 _ => ?_)
      exact x_iret (ty := .int) rfl hE hC (zdk dk_X12_syndrome 28 rfl)
    · refine x_weak (L' := [.null, .null, .null, .null]) ⟨Or.inl rfl, Or.inl rfl, Or.inl rfl, Or.inl rfl, trivial⟩ ?_
      exact x_X12_syndrome_24 hC hE hk0 h_r0 _
set_option maxRecDepth 100000 in
set_option maxHeartbeats 4000000 in
theorem t_X12_syndrome {n : Nat} {r0 : Nat} {x1 : Int32} {x2 : Int32} {x3 : Int32} {M : Mem} (h_r0 : zO n r0 12) (x : (Int32 × Mem)) (hx : f_X12_syndrome r0 x1 x2 x3 M = some x) (l : Launch) (dC : Nat → ClassId) (dI : Nat → Nat → Nat) (b : zSg) : MT l dC dI b yX12_syndrome cX12_syndrome 4 (some .int) 3 0 0 n n [.ref r0, .int x1, .int x2, .int x3] M (emI x).1 (emI x).2 :=
  MT.ofX (by decide +kernel) rfl (Nat.le_of_ble_eq_true rfl) (fun κ hC hF _ => x_X12_syndrome hC (zEnd_of hF (Nat.le_refl _) (Nat.le_refl _)) (zRk_of hF (Nat.le_refl _) (Nat.le_refl _)) _ _ _ _ _ h_r0) x hx
set_option maxRecDepth 100000 in
def dt_X12_locator : List (Nat × Instr × Nat) := [(0, .aload_n 0, 1), (1, .iload_n 1, 1), (2, .iload_n 2, 1), (3, .invokevirtual 545, 3), (6, .ifCond .eq 7, 3), (9, .iload_n 3, 1), (10, .ifCond .ge 5, 3), (13, .iconst (-1), 1), (14, .ireturn, 1), (15, .aload_n 0, 1), (16, .aload_n 0, 1), (17, .iconst 0, 1), (18, .iload_n 1, 1), (19, .iload_n 2, 1), (20, .iconst 0, 1), (21, .invokevirtual 512, 3), (24, .invokevirtual 470, 3), (27, .istore 4, 2), (29, .iload_n 3, 1), (30, .ifCond .ne 8, 3), (33, .aload_n 0, 1), (34, .getfield 162, 3), (37, .ireturn, 1), (38, .iload 4, 2), (40, .iconst 1, 1), (41, .if_icmp .eq 11, 3), (44, .iload_n 3, 1), (45, .aload_n 0, 1), (46, .getfield 162, 3), (49, .if_icmp .le 7, 3), (52, .iconst (-1), 1), (53, .goto 9, 3), (56, .aload_n 0, 1), (57, .getfield 153, 3), (60, .iload_n 3, 1), (61, .iaload, 1), (62, .ireturn, 1)]
set_option maxRecDepth 100000 in
theorem dk_X12_locator : dt_X12_locator.all (fun q => decide (decode cX12_locator q.1 = .ok q.2)) = true := by decide +kernel
set_option maxRecDepth 100000 in
def f_X12_locator_13  (r0 : Nat) (x1 : Int32) (x2 : Int32) (x3 : Int32)  (M : Mem) : Option (Int32 × Mem) := some ((-1), M)
set_option maxRecDepth 100000 in
set_option maxHeartbeats 4000000 in
theorem x_X12_locator_13 {κ : KX} {n : Nat} (hC : CX κ cX12_locator RX12 5 (some .int) 4) (hE : zEnd κ n (0, 0)) (hk0 : zRk κ (0, 0)) {r0 : Nat} {x1 : Int32} {x2 : Int32} {x3 : Int32} (h_r0 : zO n r0 12) (M : Mem) : X κ 5 emI n (0, 0) 13 [.null, .null, .null, .null, .null] [] M (f_X12_locator_13 r0 x1 x2 x3 M) := by
  unfold f_X12_locator_13
  refine x_iconst (i := (-1)) c_iconst_m1 hC (zdk dk_X12_locator 7 rfl) (q := 14) rfl ?_
  exact x_iret (ty := .int) rfl hE hC (zdk dk_X12_locator 8 rfl)
set_option maxRecDepth 100000 in
def f_X12_locator_62  (r0 : Nat) (x1 : Int32) (x2 : Int32) (x3 : Int32) (s0 : Int32) (M : Mem) : Option (Int32 × Mem) := some (s0, M)
set_option maxRecDepth 100000 in
set_option maxHeartbeats 4000000 in
theorem x_X12_locator_62 {κ : KX} {n : Nat} (hC : CX κ cX12_locator RX12 5 (some .int) 4) (hE : zEnd κ n (0, 0)) (hk0 : zRk κ (0, 0)) {r0 : Nat} {x1 : Int32} {x2 : Int32} {x3 : Int32} (h_r0 : zO n r0 12) (s0 : Int32) (M : Mem) : X κ 5 emI n (0, 0) 62 [.null, .null, .null, .null, .null] [.int s0] M (f_X12_locator_62 r0 x1 x2 x3 s0 M) := by
  unfold f_X12_locator_62
  exact x_iret (ty := .int) rfl hE hC (zdk dk_X12_locator 36 rfl)
set_option maxRecDepth 100000 in
def f_X12_locator_52  (r0 : Nat) (x1 : Int32) (x2 : Int32) (x3 : Int32)  (M : Mem) : Option (Int32 × Mem) := f_X12_locator_62 r0 x1 x2 x3 ((-1)) M
set_option maxRecDepth 100000 in
set_option maxHeartbeats 4000000 in
theorem x_X12_locator_52 {κ : KX} {n : Nat} (hC : CX κ cX12_locator RX12 5 (some .int) 4) (hE : zEnd κ n (0, 0)) (hk0 : zRk κ (0, 0)) {r0 : Nat} {x1 : Int32} {x2 : Int32} {x3 : Int32} (h_r0 : zO n r0 12) (M : Mem) : X κ 5 emI n (0, 0) 52 [.null, .null, .null, .null, .null] [] M (f_X12_locator_52 r0 x1 x2 x3 M) := by
  unfold f_X12_locator_52
  refine x_iconst (i := (-1)) c_iconst_m1 hC (zdk dk_X12_locator 30 rfl) (q := 53) rfl ?_
  refine x_goto (tgt := 62) hC (zdk dk_X12_locator 31 rfl) rfl ?_
  refine x_weak (L' := [.null, .null, .null, .null, .null]) ⟨Or.inl rfl, Or.inl rfl, Or.inl rfl, Or.inl rfl, Or.inl rfl, trivial⟩ ?_
  exact x_X12_locator_62 hC hE hk0 h_r0 _ _
set_option maxRecDepth 100000 in
def f_X12_locator (r0 : Nat) (x1 : Int32) (x2 : Int32) (x3 : Int32) (M : Mem) : Option (Int32 × Mem) := Option.bind (f_X12_isRead r0 x1 x2 M) fun z1 => (if z1.1 = 0 then f_X12_locator_13 r0 x1 x2 x3 z1.2 else (if 0 ≤ x3 then Option.bind (f_X12_bitsBy r0 0 x1 x2 0 z1.2) fun z2 => Option.bind (f_X12_readsBits r0 z2.1 z2.2) fun z3 => (if x3 = 0 then some (zI z3.2 r0 49, z3.2) else (if z3.1 = 1 then f_X12_locator_52 r0 x1 x2 x3 z3.2 else (if x3 ≤ zI z3.2 r0 49 then Option.bind (zrf z3.2 r0 46) fun q4 => Option.bind (zld q4 x3) fun k5 => f_X12_locator_62 r0 x1 x2 x3 (zI z3.2 q4 k5) z3.2 else f_X12_locator_52 r0 x1 x2 x3 z3.2))) else f_X12_locator_13 r0 x1 x2 x3 z1.2))
set_option maxRecDepth 100000 in
set_option maxHeartbeats 4000000 in
theorem x_X12_locator {κ : KX} {n : Nat} (hC : CX κ cX12_locator RX12 5 (some .int) 4) (hE : zEnd κ n (0, 0)) (hk0 : zRk κ (0, 0)) (r0 : Nat) (x1 : Int32) (x2 : Int32) (x3 : Int32) (M : Mem) (h_r0 : zO n r0 12) : X κ 5 emI n (0, 0) 0 [.ref r0, .int x1, .int x2, .int x3, .null] [] M (f_X12_locator r0 x1 x2 x3 M) := by
  unfold f_X12_locator
  refine x_aload_n (i := 0) rfl hC (zdk dk_X12_locator 0 rfl) (q := 1) rfl ?_
  refine x_iload_n (i := 1) rfl hC (zdk dk_X12_locator 1 rfl) (q := 2) rfl ?_
  refine x_iload_n (i := 2) rfl hC (zdk dk_X12_locator 2 rfl) (q := 3) rfl ?_
  refine x_callVi (as := [.int x1, .int x2]) cb_RX12_545 rfl (by decide) hk0 h_r0 (fun x hx => t_X12_isRead h_r0 x hx) hC (zdk dk_X12_locator 3 rfl) (q := 6) rfl rfl (Nat.le_of_ble_eq_true rfl) (fun z1 => ?_)
  refine x_if_eq (tgt := 13) hC (zdk dk_X12_locator 4 rfl) (q := 9) rfl rfl (fun _ => ?_) (fun _ => ?_)
  · refine x_weak (L' := [.null, .null, .null, .null, .null]) ⟨Or.inl rfl, Or.inl rfl, Or.inl rfl, Or.inl rfl, Or.inl rfl, trivial⟩ ?_
    exact x_X12_locator_13 hC hE hk0 h_r0 _
  · refine x_iload_n (i := 3) rfl hC (zdk dk_X12_locator 5 rfl) (q := 10) rfl ?_
    refine x_if_ge (tgt := 15) hC (zdk dk_X12_locator 6 rfl) (q := 13) rfl rfl (fun _ => ?_) (fun _ => ?_)
    · refine x_aload_n (i := 0) rfl hC (zdk dk_X12_locator 9 rfl) (q := 16) rfl ?_
      refine x_aload_n (i := 0) rfl hC (zdk dk_X12_locator 10 rfl) (q := 17) rfl ?_
      refine x_iconst (i := 0) c_iconst_0 hC (zdk dk_X12_locator 11 rfl) (q := 18) rfl ?_
      refine x_iload_n (i := 1) rfl hC (zdk dk_X12_locator 12 rfl) (q := 19) rfl ?_
      refine x_iload_n (i := 2) rfl hC (zdk dk_X12_locator 13 rfl) (q := 20) rfl ?_
      refine x_iconst (i := 0) c_iconst_0 hC (zdk dk_X12_locator 14 rfl) (q := 21) rfl ?_
      refine x_callVl (as := [.int 0, .int x1, .int x2, .int 0]) cb_RX12_512 rfl (by decide) hk0 h_r0 (fun x hx => t_X12_bitsBy h_r0 x hx) hC (zdk dk_X12_locator 15 rfl) (q := 24) rfl rfl (Nat.le_of_ble_eq_true rfl) (fun z2 => ?_)
      refine x_callVi (as := [.long z2.1]) cb_RX12_470 rfl (by decide) hk0 h_r0 (fun x hx => t_X12_readsBits h_r0 x hx) hC (zdk dk_X12_locator 16 rfl) (q := 27) rfl rfl (Nat.le_of_ble_eq_true rfl) (fun z3 => ?_)
      refine x_istore (i := 4) (L' := [.ref r0, .int x1, .int x2, .int x3, .int z3.1]) (by decide) rfl hC (zdk dk_X12_locator 17 rfl) (q := 29) rfl ?_
      refine x_iload_n (i := 3) rfl hC (zdk dk_X12_locator 18 rfl) (q := 30) rfl ?_
      refine x_if_ne (tgt := 38) hC (zdk dk_X12_locator 19 rfl) (q := 33) rfl rfl (fun _ => ?_) (fun _ => ?_)
      · refine x_iload (i := 4) rfl hC (zdk dk_X12_locator 23 rfl) (q := 40) rfl ?_
        refine x_iconst (i := 1) c_iconst_1 hC (zdk dk_X12_locator 24 rfl) (q := 41) rfl ?_
        refine x_icmp_eq (tgt := 52) hC (zdk dk_X12_locator 25 rfl) (q := 44) rfl rfl (fun _ => ?_) (fun _ => ?_)
        · refine x_weak (L' := [.null, .null, .null, .null, .null]) ⟨Or.inl rfl, Or.inl rfl, Or.inl rfl, Or.inl rfl, Or.inl rfl, trivial⟩ ?_
          exact x_X12_locator_52 hC hE hk0 h_r0 _
        · refine x_iload_n (i := 3) rfl hC (zdk dk_X12_locator 26 rfl) (q := 45) rfl ?_
          refine x_aload_n (i := 0) rfl hC (zdk dk_X12_locator 27 rfl) (q := 46) rfl ?_
          refine x_getI fl_RX12_162 (by decide) h_r0 hC (zdk dk_X12_locator 28 rfl) (q := 49) rfl ?_
          refine x_icmp_le (tgt := 56) hC (zdk dk_X12_locator 29 rfl) (q := 52) rfl rfl (fun _ => ?_) (fun _ => ?_)
          · refine x_aload_n (i := 0) rfl hC (zdk dk_X12_locator 32 rfl) (q := 57) rfl ?_
            refine x_getR (k := 20) fl_RX12_153 rfl h_r0 hC (zdk dk_X12_locator 33 rfl) (q := 60) rfl (fun q4 hq4 => ?_)
            refine x_iload_n (i := 3) rfl hC (zdk dk_X12_locator 34 rfl) (q := 61) rfl ?_
            refine x_iald hq4 hC (zdk dk_X12_locator 35 rfl) (q := 62) rfl (fun k5 _ => ?_)
            refine x_weak (L' := [.null, .null, .null, .null, .null]) ⟨Or.inl rfl, Or.inl rfl, Or.inl rfl, Or.inl rfl, Or.inl rfl, trivial⟩ ?_
            exact x_X12_locator_62 hC hE hk0 h_r0 _ _
          · refine x_weak (L' := [.null, .null, .null, .null, .null]) ⟨Or.inl rfl, Or.inl rfl, Or.inl rfl, Or.inl rfl, Or.inl rfl, trivial⟩ ?_
            exact x_X12_locator_52 hC hE hk0 h_r0 _
      · refine x_aload_n (i := 0) rfl hC (zdk dk_X12_locator 20 rfl) (q := 34) rfl ?_
        refine x_getI fl_RX12_162 (by decide) h_r0 hC (zdk dk_X12_locator 21 rfl) (q := 37) rfl ?_
        exact x_iret (ty := .int) rfl hE hC (zdk dk_X12_locator 22 rfl)
    · refine x_weak (L' := [.null, .null, .null, .null, .null]) ⟨Or.inl rfl, Or.inl rfl, Or.inl rfl, Or.inl rfl, Or.inl rfl, trivial⟩ ?_
      exact x_X12_locator_13 hC hE hk0 h_r0 _
set_option maxRecDepth 100000 in
set_option maxHeartbeats 4000000 in
theorem t_X12_locator {n : Nat} {r0 : Nat} {x1 : Int32} {x2 : Int32} {x3 : Int32} {M : Mem} (h_r0 : zO n r0 12) (x : (Int32 × Mem)) (hx : f_X12_locator r0 x1 x2 x3 M = some x) (l : Launch) (dC : Nat → ClassId) (dI : Nat → Nat → Nat) (b : zSg) : MT l dC dI b yX12_locator cX12_locator 5 (some .int) 4 0 0 n n [.ref r0, .int x1, .int x2, .int x3] M (emI x).1 (emI x).2 :=
  MT.ofX (by decide +kernel) rfl (Nat.le_of_ble_eq_true rfl) (fun κ hC hF _ => x_X12_locator hC (zEnd_of hF (Nat.le_refl _) (Nat.le_refl _)) (zRk_of hF (Nat.le_refl _) (Nat.le_refl _)) _ _ _ _ _ h_r0) x hx
set_option maxRecDepth 100000 in
def dt_X12_wrong : List (Nat × Instr × Nat) := [(0, .aload_n 0, 1), (1, .iload_n 1, 1), (2, .iload_n 2, 1), (3, .invokevirtual 545, 3), (6, .ifCond .eq 23, 3), (9, .iload_n 3, 1), (10, .iconst (-1), 1), (11, .if_icmp .lt 18, 3), (14, .aload_n 0, 1), (15, .aload_n 0, 1), (16, .iconst 0, 1), (17, .iload_n 1, 1), (18, .iload_n 2, 1), (19, .iconst 0, 1), (20, .invokevirtual 512, 3), (23, .invokevirtual 470, 3), (26, .ifCond .le 5, 3), (29, .iconst (-1), 1), (30, .ireturn, 1), (31, .iload_n 3, 1), (32, .iconst (-1), 1), (33, .if_icmp .ne 10, 3), (36, .aload_n 0, 1), (37, .getfield 171, 3), (40, .goto 21, 3), (43, .iload_n 3, 1), (44, .aload_n 0, 1), (45, .getfield 171, 3), (48, .if_icmp .ge 12, 3), (51, .aload_n 0, 1), (52, .getfield 168, 3), (55, .iload_n 3, 1), (56, .iaload, 1), (57, .goto 4, 3), (60, .iconst (-1), 1), (61, .ireturn, 1)]
set_option maxRecDepth 100000 in
theorem dk_X12_wrong : dt_X12_wrong.all (fun q => decide (decode cX12_wrong q.1 = .ok q.2)) = true := by decide +kernel
set_option maxRecDepth 100000 in
def f_X12_wrong_29  (r0 : Nat) (x1 : Int32) (x2 : Int32) (x3 : Int32)  (M : Mem) : Option (Int32 × Mem) := some ((-1), M)
set_option maxRecDepth 100000 in
set_option maxHeartbeats 4000000 in
theorem x_X12_wrong_29 {κ : KX} {n : Nat} (hC : CX κ cX12_wrong RX12 4 (some .int) 4) (hE : zEnd κ n (0, 0)) (hk0 : zRk κ (0, 0)) {r0 : Nat} {x1 : Int32} {x2 : Int32} {x3 : Int32} (h_r0 : zO n r0 12) (M : Mem) : X κ 4 emI n (0, 0) 29 [.null, .null, .null, .null] [] M (f_X12_wrong_29 r0 x1 x2 x3 M) := by
  unfold f_X12_wrong_29
  refine x_iconst (i := (-1)) c_iconst_m1 hC (zdk dk_X12_wrong 17 rfl) (q := 30) rfl ?_
  exact x_iret (ty := .int) rfl hE hC (zdk dk_X12_wrong 18 rfl)
set_option maxRecDepth 100000 in
def f_X12_wrong_61  (r0 : Nat) (x1 : Int32) (x2 : Int32) (x3 : Int32) (s0 : Int32) (M : Mem) : Option (Int32 × Mem) := some (s0, M)
set_option maxRecDepth 100000 in
set_option maxHeartbeats 4000000 in
theorem x_X12_wrong_61 {κ : KX} {n : Nat} (hC : CX κ cX12_wrong RX12 4 (some .int) 4) (hE : zEnd κ n (0, 0)) (hk0 : zRk κ (0, 0)) {r0 : Nat} {x1 : Int32} {x2 : Int32} {x3 : Int32} (h_r0 : zO n r0 12) (s0 : Int32) (M : Mem) : X κ 4 emI n (0, 0) 61 [.null, .null, .null, .null] [.int s0] M (f_X12_wrong_61 r0 x1 x2 x3 s0 M) := by
  unfold f_X12_wrong_61
  exact x_iret (ty := .int) rfl hE hC (zdk dk_X12_wrong 35 rfl)
set_option maxRecDepth 100000 in
def f_X12_wrong (r0 : Nat) (x1 : Int32) (x2 : Int32) (x3 : Int32) (M : Mem) : Option (Int32 × Mem) := Option.bind (f_X12_isRead r0 x1 x2 M) fun z1 => (if z1.1 = 0 then f_X12_wrong_29 r0 x1 x2 x3 z1.2 else (if x3 < (-1) then f_X12_wrong_29 r0 x1 x2 x3 z1.2 else Option.bind (f_X12_bitsBy r0 0 x1 x2 0 z1.2) fun z2 => Option.bind (f_X12_readsBits r0 z2.1 z2.2) fun z3 => (if z3.1 ≤ 0 then (if x3 = (-1) then f_X12_wrong_61 r0 x1 x2 x3 (zI z3.2 r0 52) z3.2 else (if zI z3.2 r0 52 ≤ x3 then f_X12_wrong_61 r0 x1 x2 x3 ((-1)) z3.2 else Option.bind (zrf z3.2 r0 51) fun q4 => Option.bind (zld q4 x3) fun k5 => f_X12_wrong_61 r0 x1 x2 x3 (zI z3.2 q4 k5) z3.2)) else f_X12_wrong_29 r0 x1 x2 x3 z3.2)))
set_option maxRecDepth 100000 in
set_option maxHeartbeats 4000000 in
theorem x_X12_wrong {κ : KX} {n : Nat} (hC : CX κ cX12_wrong RX12 4 (some .int) 4) (hE : zEnd κ n (0, 0)) (hk0 : zRk κ (0, 0)) (r0 : Nat) (x1 : Int32) (x2 : Int32) (x3 : Int32) (M : Mem) (h_r0 : zO n r0 12) : X κ 4 emI n (0, 0) 0 [.ref r0, .int x1, .int x2, .int x3] [] M (f_X12_wrong r0 x1 x2 x3 M) := by
  unfold f_X12_wrong
  refine x_aload_n (i := 0) rfl hC (zdk dk_X12_wrong 0 rfl) (q := 1) rfl ?_
  refine x_iload_n (i := 1) rfl hC (zdk dk_X12_wrong 1 rfl) (q := 2) rfl ?_
  refine x_iload_n (i := 2) rfl hC (zdk dk_X12_wrong 2 rfl) (q := 3) rfl ?_
  refine x_callVi (as := [.int x1, .int x2]) cb_RX12_545 rfl (by decide) hk0 h_r0 (fun x hx => t_X12_isRead h_r0 x hx) hC (zdk dk_X12_wrong 3 rfl) (q := 6) rfl rfl (Nat.le_of_ble_eq_true rfl) (fun z1 => ?_)
  refine x_if_eq (tgt := 29) hC (zdk dk_X12_wrong 4 rfl) (q := 9) rfl rfl (fun _ => ?_) (fun _ => ?_)
  · refine x_weak (L' := [.null, .null, .null, .null]) ⟨Or.inl rfl, Or.inl rfl, Or.inl rfl, Or.inl rfl, trivial⟩ ?_
    exact x_X12_wrong_29 hC hE hk0 h_r0 _
  · refine x_iload_n (i := 3) rfl hC (zdk dk_X12_wrong 5 rfl) (q := 10) rfl ?_
    refine x_iconst (i := (-1)) c_iconst_m1 hC (zdk dk_X12_wrong 6 rfl) (q := 11) rfl ?_
    refine x_icmp_lt (tgt := 29) hC (zdk dk_X12_wrong 7 rfl) (q := 14) rfl rfl (fun _ => ?_) (fun _ => ?_)
    · refine x_weak (L' := [.null, .null, .null, .null]) ⟨Or.inl rfl, Or.inl rfl, Or.inl rfl, Or.inl rfl, trivial⟩ ?_
      exact x_X12_wrong_29 hC hE hk0 h_r0 _
    · refine x_aload_n (i := 0) rfl hC (zdk dk_X12_wrong 8 rfl) (q := 15) rfl ?_
      refine x_aload_n (i := 0) rfl hC (zdk dk_X12_wrong 9 rfl) (q := 16) rfl ?_
      refine x_iconst (i := 0) c_iconst_0 hC (zdk dk_X12_wrong 10 rfl) (q := 17) rfl ?_
      refine x_iload_n (i := 1) rfl hC (zdk dk_X12_wrong 11 rfl) (q := 18) rfl ?_
      refine x_iload_n (i := 2) rfl hC (zdk dk_X12_wrong 12 rfl) (q := 19) rfl ?_
      refine x_iconst (i := 0) c_iconst_0 hC (zdk dk_X12_wrong 13 rfl) (q := 20) rfl ?_
      refine x_callVl (as := [.int 0, .int x1, .int x2, .int 0]) cb_RX12_512 rfl (by decide) hk0 h_r0 (fun x hx => t_X12_bitsBy h_r0 x hx) hC (zdk dk_X12_wrong 14 rfl) (q := 23) rfl rfl (Nat.le_of_ble_eq_true rfl) (fun z2 => ?_)
      refine x_callVi (as := [.long z2.1]) cb_RX12_470 rfl (by decide) hk0 h_r0 (fun x hx => t_X12_readsBits h_r0 x hx) hC (zdk dk_X12_wrong 15 rfl) (q := 26) rfl rfl (Nat.le_of_ble_eq_true rfl) (fun z3 => ?_)
      refine x_if_le (tgt := 31) hC (zdk dk_X12_wrong 16 rfl) (q := 29) rfl rfl (fun _ => ?_) (fun _ => ?_)
      · refine x_iload_n (i := 3) rfl hC (zdk dk_X12_wrong 19 rfl) (q := 32) rfl ?_
        refine x_iconst (i := (-1)) c_iconst_m1 hC (zdk dk_X12_wrong 20 rfl) (q := 33) rfl ?_
        refine x_icmp_ne (tgt := 43) hC (zdk dk_X12_wrong 21 rfl) (q := 36) rfl rfl (fun _ => ?_) (fun _ => ?_)
        · refine x_iload_n (i := 3) rfl hC (zdk dk_X12_wrong 25 rfl) (q := 44) rfl ?_
          refine x_aload_n (i := 0) rfl hC (zdk dk_X12_wrong 26 rfl) (q := 45) rfl ?_
          refine x_getI fl_RX12_171 (by decide) h_r0 hC (zdk dk_X12_wrong 27 rfl) (q := 48) rfl ?_
          refine x_icmp_ge (tgt := 60) hC (zdk dk_X12_wrong 28 rfl) (q := 51) rfl rfl (fun _ => ?_) (fun _ => ?_)
          · refine x_iconst (i := (-1)) c_iconst_m1 hC (zdk dk_X12_wrong 34 rfl) (q := 61) rfl ?_
            refine x_weak (L' := [.null, .null, .null, .null]) ⟨Or.inl rfl, Or.inl rfl, Or.inl rfl, Or.inl rfl, trivial⟩ ?_
            exact x_X12_wrong_61 hC hE hk0 h_r0 _ _
          · refine x_aload_n (i := 0) rfl hC (zdk dk_X12_wrong 29 rfl) (q := 52) rfl ?_
            refine x_getR (k := 20) fl_RX12_168 rfl h_r0 hC (zdk dk_X12_wrong 30 rfl) (q := 55) rfl (fun q4 hq4 => ?_)
            refine x_iload_n (i := 3) rfl hC (zdk dk_X12_wrong 31 rfl) (q := 56) rfl ?_
            refine x_iald hq4 hC (zdk dk_X12_wrong 32 rfl) (q := 57) rfl (fun k5 _ => ?_)
            refine x_goto (tgt := 61) hC (zdk dk_X12_wrong 33 rfl) rfl ?_
            refine x_weak (L' := [.null, .null, .null, .null]) ⟨Or.inl rfl, Or.inl rfl, Or.inl rfl, Or.inl rfl, trivial⟩ ?_
            exact x_X12_wrong_61 hC hE hk0 h_r0 _ _
        · refine x_aload_n (i := 0) rfl hC (zdk dk_X12_wrong 22 rfl) (q := 37) rfl ?_
          refine x_getI fl_RX12_171 (by decide) h_r0 hC (zdk dk_X12_wrong 23 rfl) (q := 40) rfl ?_
          refine x_goto (tgt := 61) hC (zdk dk_X12_wrong 24 rfl) rfl ?_
          refine x_weak (L' := [.null, .null, .null, .null]) ⟨Or.inl rfl, Or.inl rfl, Or.inl rfl, Or.inl rfl, trivial⟩ ?_
          exact x_X12_wrong_61 hC hE hk0 h_r0 _ _
      · refine x_weak (L' := [.null, .null, .null, .null]) ⟨Or.inl rfl, Or.inl rfl, Or.inl rfl, Or.inl rfl, trivial⟩ ?_
        exact x_X12_wrong_29 hC hE hk0 h_r0 _
set_option maxRecDepth 100000 in
set_option maxHeartbeats 4000000 in
theorem t_X12_wrong {n : Nat} {r0 : Nat} {x1 : Int32} {x2 : Int32} {x3 : Int32} {M : Mem} (h_r0 : zO n r0 12) (x : (Int32 × Mem)) (hx : f_X12_wrong r0 x1 x2 x3 M = some x) (l : Launch) (dC : Nat → ClassId) (dI : Nat → Nat → Nat) (b : zSg) : MT l dC dI b yX12_wrong cX12_wrong 4 (some .int) 4 0 0 n n [.ref r0, .int x1, .int x2, .int x3] M (emI x).1 (emI x).2 :=
  MT.ofX (by decide +kernel) rfl (Nat.le_of_ble_eq_true rfl) (fun κ hC hF _ => x_X12_wrong hC (zEnd_of hF (Nat.le_refl _) (Nat.le_refl _)) (zRk_of hF (Nat.le_refl _) (Nat.le_refl _)) _ _ _ _ _ h_r0) x hx
set_option maxRecDepth 100000 in
def dt_X12_why : List (Nat × Instr × Nat) := [(0, .aload_n 0, 1), (1, .iload_n 1, 1), (2, .iload_n 2, 1), (3, .invokevirtual 545, 3), (6, .ifCond .eq 18, 3), (9, .aload_n 0, 1), (10, .aload_n 0, 1), (11, .iconst 0, 1), (12, .iload_n 1, 1), (13, .iload_n 2, 1), (14, .iconst 0, 1), (15, .invokevirtual 512, 3), (18, .invokevirtual 470, 3), (21, .goto 4, 3), (24, .iconst (-1), 1), (25, .ireturn, 1)]
set_option maxRecDepth 100000 in
theorem dk_X12_why : dt_X12_why.all (fun q => decide (decode cX12_why q.1 = .ok q.2)) = true := by decide +kernel
set_option maxRecDepth 100000 in
def f_X12_why_25  (r0 : Nat) (x1 : Int32) (x2 : Int32) (s0 : Int32) (M : Mem) : Option (Int32 × Mem) := some (s0, M)
set_option maxRecDepth 100000 in
set_option maxHeartbeats 4000000 in
theorem x_X12_why_25 {κ : KX} {n : Nat} (hC : CX κ cX12_why RX12 3 (some .int) 4) (hE : zEnd κ n (0, 0)) (hk0 : zRk κ (0, 0)) {r0 : Nat} {x1 : Int32} {x2 : Int32} (h_r0 : zO n r0 12) (s0 : Int32) (M : Mem) : X κ 3 emI n (0, 0) 25 [.null, .null, .null] [.int s0] M (f_X12_why_25 r0 x1 x2 s0 M) := by
  unfold f_X12_why_25
  exact x_iret (ty := .int) rfl hE hC (zdk dk_X12_why 15 rfl)
set_option maxRecDepth 100000 in
def f_X12_why (r0 : Nat) (x1 : Int32) (x2 : Int32) (M : Mem) : Option (Int32 × Mem) := Option.bind (f_X12_isRead r0 x1 x2 M) fun z1 => (if z1.1 = 0 then f_X12_why_25 r0 x1 x2 ((-1)) z1.2 else Option.bind (f_X12_bitsBy r0 0 x1 x2 0 z1.2) fun z2 => Option.bind (f_X12_readsBits r0 z2.1 z2.2) fun z3 => f_X12_why_25 r0 x1 x2 z3.1 z3.2)
set_option maxRecDepth 100000 in
set_option maxHeartbeats 4000000 in
theorem x_X12_why {κ : KX} {n : Nat} (hC : CX κ cX12_why RX12 3 (some .int) 4) (hE : zEnd κ n (0, 0)) (hk0 : zRk κ (0, 0)) (r0 : Nat) (x1 : Int32) (x2 : Int32) (M : Mem) (h_r0 : zO n r0 12) : X κ 3 emI n (0, 0) 0 [.ref r0, .int x1, .int x2] [] M (f_X12_why r0 x1 x2 M) := by
  unfold f_X12_why
  refine x_aload_n (i := 0) rfl hC (zdk dk_X12_why 0 rfl) (q := 1) rfl ?_
  refine x_iload_n (i := 1) rfl hC (zdk dk_X12_why 1 rfl) (q := 2) rfl ?_
  refine x_iload_n (i := 2) rfl hC (zdk dk_X12_why 2 rfl) (q := 3) rfl ?_
  refine x_callVi (as := [.int x1, .int x2]) cb_RX12_545 rfl (by decide) hk0 h_r0 (fun x hx => t_X12_isRead h_r0 x hx) hC (zdk dk_X12_why 3 rfl) (q := 6) rfl rfl (Nat.le_of_ble_eq_true rfl) (fun z1 => ?_)
  refine x_if_eq (tgt := 24) hC (zdk dk_X12_why 4 rfl) (q := 9) rfl rfl (fun _ => ?_) (fun _ => ?_)
  · refine x_iconst (i := (-1)) c_iconst_m1 hC (zdk dk_X12_why 14 rfl) (q := 25) rfl ?_
    refine x_weak (L' := [.null, .null, .null]) ⟨Or.inl rfl, Or.inl rfl, Or.inl rfl, trivial⟩ ?_
    exact x_X12_why_25 hC hE hk0 h_r0 _ _
  · refine x_aload_n (i := 0) rfl hC (zdk dk_X12_why 5 rfl) (q := 10) rfl ?_
    refine x_aload_n (i := 0) rfl hC (zdk dk_X12_why 6 rfl) (q := 11) rfl ?_
    refine x_iconst (i := 0) c_iconst_0 hC (zdk dk_X12_why 7 rfl) (q := 12) rfl ?_
    refine x_iload_n (i := 1) rfl hC (zdk dk_X12_why 8 rfl) (q := 13) rfl ?_
    refine x_iload_n (i := 2) rfl hC (zdk dk_X12_why 9 rfl) (q := 14) rfl ?_
    refine x_iconst (i := 0) c_iconst_0 hC (zdk dk_X12_why 10 rfl) (q := 15) rfl ?_
    refine x_callVl (as := [.int 0, .int x1, .int x2, .int 0]) cb_RX12_512 rfl (by decide) hk0 h_r0 (fun x hx => t_X12_bitsBy h_r0 x hx) hC (zdk dk_X12_why 11 rfl) (q := 18) rfl rfl (Nat.le_of_ble_eq_true rfl) (fun z2 => ?_)
    refine x_callVi (as := [.long z2.1]) cb_RX12_470 rfl (by decide) hk0 h_r0 (fun x hx => t_X12_readsBits h_r0 x hx) hC (zdk dk_X12_why 12 rfl) (q := 21) rfl rfl (Nat.le_of_ble_eq_true rfl) (fun z3 => ?_)
    refine x_goto (tgt := 25) hC (zdk dk_X12_why 13 rfl) rfl ?_
    refine x_weak (L' := [.null, .null, .null]) ⟨Or.inl rfl, Or.inl rfl, Or.inl rfl, trivial⟩ ?_
    exact x_X12_why_25 hC hE hk0 h_r0 _ _
set_option maxRecDepth 100000 in
set_option maxHeartbeats 4000000 in
theorem t_X12_why {n : Nat} {r0 : Nat} {x1 : Int32} {x2 : Int32} {M : Mem} (h_r0 : zO n r0 12) (x : (Int32 × Mem)) (hx : f_X12_why r0 x1 x2 M = some x) (l : Launch) (dC : Nat → ClassId) (dI : Nat → Nat → Nat) (b : zSg) : MT l dC dI b yX12_why cX12_why 3 (some .int) 4 0 0 n n [.ref r0, .int x1, .int x2] M (emI x).1 (emI x).2 :=
  MT.ofX (by decide +kernel) rfl (Nat.le_of_ble_eq_true rfl) (fun κ hC hF _ => x_X12_why hC (zEnd_of hF (Nat.le_refl _) (Nat.le_refl _)) (zRk_of hF (Nat.le_refl _) (Nat.le_refl _)) _ _ _ _ h_r0) x hx
