set_option maxRecDepth 100000 in
def dt_X11_passDay : List (Nat × Instr × Nat) := [(0, .iconst 0, 1), (1, .istore_n 1, 1), (2, .iload_n 1, 1), (3, .aload_n 0, 1), (4, .getfield 82, 3), (7, .getfield 159, 3), (10, .if_icmp .ge 51, 3), (13, .aload_n 0, 1), (14, .getfield 42, 3), (17, .getfield 224, 3), (20, .iload_n 1, 1), (21, .aaload, 1), (22, .getfield 227, 3), (25, .ifCond .eq 30, 3), (28, .aload_n 0, 1), (29, .getfield 19, 3), (32, .aload_n 0, 1), (33, .getfield 82, 3), (36, .aload_n 0, 1), (37, .getfield 42, 3), (40, .getfield 224, 3), (43, .iload_n 1, 1), (44, .aaload, 1), (45, .aload_n 0, 1), (46, .getfield 42, 3), (49, .getfield 164, 3), (52, .invokevirtual 320, 3), (55, .iinc 1 1, 3), (58, .goto (-56), 3), (61, .aload_n 0, 1), (62, .getfield 42, 3), (65, .dup, 1), (66, .getfield 164, 3), (69, .iconst 1, 1), (70, .iadd, 1), (71, .putfield 164, 3), (74, .return_, 1)]
set_option maxRecDepth 100000 in
theorem dk_X11_passDay : dt_X11_passDay.all (fun q => decide (decode cX11_passDay q.1 = .ok q.2)) = true := by decide +kernel
set_option maxRecDepth 100000 in
def f_X11_passDay_55 (k2 : Int32 → Mem → Option Mem) (r0 : Nat) (x1 : Int32) (M : Mem) : Option Mem := k2 (x1 + 1) M
set_option maxRecDepth 100000 in
set_option maxHeartbeats 4000000 in
theorem x_X11_passDay_55 {κ : KX} {n : Nat} (hC : CX κ cX11_passDay RX11 2 none 6) (hE : zEnd κ n (0, 0)) (hk0 : zRk κ (0, 0)) {r0 : Nat} (h_r0 : zO n r0 11) (k2 : Int32 → Mem → Option Mem) (hk2 : ∀ (x1 : Int32) (M : Mem), X κ 2 emV n (0, 0) 2 [.ref r0, .int x1] [] M (k2 x1 M)) (x1 : Int32) (M : Mem) : X κ 2 emV n (0, 0) 55 [.ref r0, .int x1] [] M (f_X11_passDay_55 k2 r0 x1 M) := by
  unfold f_X11_passDay_55
  refine x_iinc (i := 1) c_iconst_1 rfl (by decide) (L' := [.ref r0, .int (x1 + 1)]) rfl hC (zdk dk_X11_passDay 27 rfl) (q := 58) rfl ?_
  refine x_goto (tgt := 2) hC (zdk dk_X11_passDay 28 rfl) rfl ?_
  refine x_weak (L' := [.ref r0, .int (x1 + 1)]) ⟨Or.inr rfl, Or.inr rfl, trivial⟩ ?_
  exact hk2 _ _
set_option maxRecDepth 100000 in
def f_X11_passDay_2  (r0 : Nat) : Nat → Int32 → Mem → Option Mem
  | 0, _, _ => none
  | f + 1, x1, M => Option.bind (zrf M r0 11) fun q1 => (if zI M q1 9 ≤ x1 then Option.bind (zrf M r0 5) fun q2 => Option.bind (some (zsI M q2 1 ((zI M q2 1) + 1))) fun M3 => some M3 else Option.bind (zrf M r0 5) fun q4 => Option.bind (zrf M q4 0) fun q5 => Option.bind (zld q5 x1) fun k6 => Option.bind (zrf M q5 k6) fun q7 => (if zI M q7 2 = 0 then f_X11_passDay_55 (f_X11_passDay_2 r0 f) r0 x1 M else Option.bind (zrf M r0 2) fun q8 => Option.bind (zrf M r0 11) fun q9 => Option.bind (zrf M r0 5) fun q10 => Option.bind (zrf M q10 0) fun q11 => Option.bind (zld q11 x1) fun k12 => Option.bind (zrf M q11 k12) fun q13 => Option.bind (zrf M r0 5) fun q14 => Option.bind (f_X10_passDay q8 q9 q13 (zI M q14 1) M) fun M15 => f_X11_passDay_55 (f_X11_passDay_2 r0 f) r0 x1 M15))
set_option maxRecDepth 100000 in
set_option maxHeartbeats 4000000 in
theorem x_X11_passDay_2 {κ : KX} {n : Nat} (hC : CX κ cX11_passDay RX11 2 none 6) (hE : zEnd κ n (0, 0)) (hk0 : zRk κ (0, 0)) {r0 : Nat} (h_r0 : zO n r0 11) : ∀ (f : Nat) (x1 : Int32) (M : Mem), X κ 2 emV n (0, 0) 2 [.ref r0, .int x1] [] M (f_X11_passDay_2 r0 f x1 M) := by
  intro f
  induction f with
  | zero => intros; exact x_none
  | succ f ih =>
    intro x1 M 
    rw [f_X11_passDay_2]
    refine x_iload_n (i := 1) rfl hC (zdk dk_X11_passDay 2 rfl) (q := 3) rfl ?_
    refine x_aload_n (i := 0) rfl hC (zdk dk_X11_passDay 3 rfl) (q := 4) rfl ?_
    refine x_getR (k := 0) fl_RX11_82 rfl h_r0 hC (zdk dk_X11_passDay 4 rfl) (q := 7) rfl (fun q1 hq1 => ?_)
    refine x_getI fl_RX11_159 (by decide) hq1 hC (zdk dk_X11_passDay 5 rfl) (q := 10) rfl ?_
    refine x_icmp_ge (tgt := 61) hC (zdk dk_X11_passDay 6 rfl) (q := 13) rfl rfl (fun _ => ?_) (fun _ => ?_)
    · refine x_aload_n (i := 0) rfl hC (zdk dk_X11_passDay 29 rfl) (q := 62) rfl ?_
      refine x_getR (k := 5) fl_RX11_42 rfl h_r0 hC (zdk dk_X11_passDay 30 rfl) (q := 65) rfl (fun q2 hq2 => ?_)
      refine x_dup rfl hC (zdk dk_X11_passDay 31 rfl) (q := 66) rfl ?_
      refine x_getI fl_RX11_164 (by decide) hq2 hC (zdk dk_X11_passDay 32 rfl) (q := 69) rfl ?_
      refine x_iconst (i := 1) c_iconst_1 hC (zdk dk_X11_passDay 33 rfl) (q := 70) rfl ?_
      refine x_iadd hC (zdk dk_X11_passDay 34 rfl) (q := 71) rfl ?_
      refine x_putI fl_RX11_164 ⟨rfl, rfl⟩ (by decide) (Or.inl rfl) hq2 hC (zdk dk_X11_passDay 35 rfl) (q := 74) rfl ?_
      refine x_nmM (fun M3 => ?_)
      exact x_vret hE hC (zdk dk_X11_passDay 36 rfl)
    · refine x_aload_n (i := 0) rfl hC (zdk dk_X11_passDay 7 rfl) (q := 14) rfl ?_
      refine x_getR (k := 5) fl_RX11_42 rfl h_r0 hC (zdk dk_X11_passDay 8 rfl) (q := 17) rfl (fun q4 hq4 => ?_)
      refine x_getR (k := 23) fl_RX11_224 rfl hq4 hC (zdk dk_X11_passDay 9 rfl) (q := 20) rfl (fun q5 hq5 => ?_)
      refine x_iload_n (i := 1) rfl hC (zdk dk_X11_passDay 10 rfl) (q := 21) rfl ?_
      refine x_aald (kd := 23) (ke := 8) hq5 (by decide) rfl hC (zdk dk_X11_passDay 11 rfl) (q := 22) rfl (fun k6 _ q7 hq7 => ?_)
      refine x_getI fl_RX11_227 (by decide) hq7 hC (zdk dk_X11_passDay 12 rfl) (q := 25) rfl ?_
      refine x_if_eq (tgt := 55) hC (zdk dk_X11_passDay 13 rfl) (q := 28) rfl rfl (fun _ => ?_) (fun _ => ?_)
      · refine x_weak (L' := [.ref r0, .int x1]) ⟨Or.inr rfl, Or.inr rfl, trivial⟩ ?_
        exact x_X11_passDay_55 hC hE hk0 h_r0 (f_X11_passDay_2 r0 f) ih _ _
      · refine x_aload_n (i := 0) rfl hC (zdk dk_X11_passDay 14 rfl) (q := 29) rfl ?_
        refine x_getR (k := 10) fl_RX11_19 rfl h_r0 hC (zdk dk_X11_passDay 15 rfl) (q := 32) rfl (fun q8 hq8 => ?_)
        refine x_aload_n (i := 0) rfl hC (zdk dk_X11_passDay 16 rfl) (q := 33) rfl ?_
        refine x_getR (k := 0) fl_RX11_82 rfl h_r0 hC (zdk dk_X11_passDay 17 rfl) (q := 36) rfl (fun q9 hq9 => ?_)
        refine x_aload_n (i := 0) rfl hC (zdk dk_X11_passDay 18 rfl) (q := 37) rfl ?_
        refine x_getR (k := 5) fl_RX11_42 rfl h_r0 hC (zdk dk_X11_passDay 19 rfl) (q := 40) rfl (fun q10 hq10 => ?_)
        refine x_getR (k := 23) fl_RX11_224 rfl hq10 hC (zdk dk_X11_passDay 20 rfl) (q := 43) rfl (fun q11 hq11 => ?_)
        refine x_iload_n (i := 1) rfl hC (zdk dk_X11_passDay 21 rfl) (q := 44) rfl ?_
        refine x_aald (kd := 23) (ke := 8) hq11 (by decide) rfl hC (zdk dk_X11_passDay 22 rfl) (q := 45) rfl (fun k12 _ q13 hq13 => ?_)
        refine x_aload_n (i := 0) rfl hC (zdk dk_X11_passDay 23 rfl) (q := 46) rfl ?_
        refine x_getR (k := 5) fl_RX11_42 rfl h_r0 hC (zdk dk_X11_passDay 24 rfl) (q := 49) rfl (fun q14 hq14 => ?_)
        refine x_getI fl_RX11_164 (by decide) hq14 hC (zdk dk_X11_passDay 25 rfl) (q := 52) rfl ?_
        refine x_callVv (as := [.ref q9, .ref q13, .int (zI M q14 1)]) cb_RX11_320 rfl (by decide) hk0 hq8 (fun x hx => t_X10_passDay hq8 hq9 hq13 x hx) hC (zdk dk_X11_passDay 26 rfl) (q := 55) rfl rfl (Nat.le_of_ble_eq_true rfl) (fun M15 => ?_)
        refine x_weak (L' := [.ref r0, .int x1]) ⟨Or.inr rfl, Or.inr rfl, trivial⟩ ?_
        exact x_X11_passDay_55 hC hE hk0 h_r0 (f_X11_passDay_2 r0 f) ih _ _
set_option maxRecDepth 100000 in
def f_X11_passDay (r0 : Nat) (M : Mem) : Option Mem := f_X11_passDay_2 r0 1000000 0 M
set_option maxRecDepth 100000 in
set_option maxHeartbeats 4000000 in
theorem x_X11_passDay {κ : KX} {n : Nat} (hC : CX κ cX11_passDay RX11 2 none 6) (hE : zEnd κ n (0, 0)) (hk0 : zRk κ (0, 0)) (r0 : Nat) (M : Mem) (h_r0 : zO n r0 11) : X κ 2 emV n (0, 0) 0 [.ref r0, .null] [] M (f_X11_passDay r0 M) := by
  unfold f_X11_passDay
  refine x_iconst (i := 0) c_iconst_0 hC (zdk dk_X11_passDay 0 rfl) (q := 1) rfl ?_
  refine x_istore_n (i := 1) (L' := [.ref r0, .int 0]) (by decide) rfl hC (zdk dk_X11_passDay 1 rfl) (q := 2) rfl ?_
  refine x_weak (L' := [.ref r0, .int 0]) ⟨Or.inr rfl, Or.inr rfl, trivial⟩ ?_
  exact x_X11_passDay_2 hC hE hk0 h_r0 _ _ _
set_option maxRecDepth 100000 in
set_option maxHeartbeats 4000000 in
theorem t_X11_passDay {n : Nat} {r0 : Nat} {M : Mem} (h_r0 : zO n r0 11) (x : Mem) (hx : f_X11_passDay r0 M = some x) (l : Launch) (dC : Nat → ClassId) (dI : Nat → Nat → Nat) (b : zSg) : MT l dC dI b yX11_passDay cX11_passDay 2 none 6 0 0 n n [.ref r0] M (emV x).1 (emV x).2 :=
  MT.ofX (by decide +kernel) rfl (Nat.le_of_ble_eq_true rfl) (fun κ hC hF _ => x_X11_passDay hC (zEnd_of hF (Nat.le_refl _) (Nat.le_refl _)) (zRk_of hF (Nat.le_refl _) (Nat.le_refl _)) _ _ h_r0) x hx
set_option maxRecDepth 100000 in
def dt_X11_days : List (Nat × Instr × Nat) := [(0, .aload_n 0, 1), (1, .getfield 120, 3), (4, .ifCond .eq 16, 3), (7, .iload_n 1, 1), (8, .iconst 1, 1), (9, .if_icmp .lt 11, 3), (12, .aload_n 0, 1), (13, .iload_n 1, 1), (14, .invokevirtual 248, 3), (17, .ifCond .ne 9, 3), (20, .aload_n 0, 1), (21, .iconst 2, 1), (22, .invokevirtual 105, 3), (25, .ireturn, 1), (26, .aload_n 0, 1), (27, .getfield 61, 3), (30, .aload_n 0, 1), (31, .getfield 42, 3), (34, .invokevirtual 353, 3), (37, .iconst 0, 1), (38, .istore_n 2, 1), (39, .iload_n 2, 1), (40, .iload_n 1, 1), (41, .if_icmp .ge 13, 3), (44, .aload_n 0, 1), (45, .invokevirtual 366, 3), (48, .iinc 2 1, 3), (51, .goto (-12), 3), (54, .iconst 0, 1), (55, .istore_n 2, 1), (56, .iconst 0, 1), (57, .istore_n 3, 1), (58, .iload_n 3, 1), (59, .aload_n 0, 1), (60, .getfield 82, 3), (63, .getfield 159, 3), (66, .if_icmp .ge 62, 3), (69, .aload_n 0, 1), (70, .getfield 42, 3), (73, .getfield 224, 3), (76, .iload_n 3, 1), (77, .aaload, 1), (78, .getfield 227, 3), (81, .ifCond .eq 41, 3), (84, .aload_n 0, 1), (85, .getfield 35, 3), (88, .aload_n 0, 1), (89, .getfield 82, 3), (92, .aload_n 0, 1), (93, .getfield 42, 3), (96, .getfield 224, 3), (99, .iload_n 3, 1), (100, .aaload, 1), (101, .invokevirtual 291, 3), (104, .iload_n 2, 1), (105, .aload_n 0, 1), (106, .getfield 35, 3), (109, .getfield 307, 3), (112, .ifCond .eq 7, 3), (115, .iconst 1, 1), (116, .goto 4, 3), (119, .iconst 0, 1), (120, .iadd, 1), (121, .istore_n 2, 1), (122, .iinc 3 1, 3), (125, .goto (-67), 3), (128, .iload_n 2, 1), (129, .ireturn, 1)]
set_option maxRecDepth 100000 in
theorem dk_X11_days : dt_X11_days.all (fun q => decide (decode cX11_days q.1 = .ok q.2)) = true := by decide +kernel
set_option maxRecDepth 100000 in
def f_X11_days_20  (r0 : Nat) (x1 : Int32)  (M : Mem) : Option (Int32 × Mem) := Option.bind (f_X11_refuse r0 2 M) fun z1 => some (z1.1, z1.2)
set_option maxRecDepth 100000 in
set_option maxHeartbeats 4000000 in
theorem x_X11_days_20 {κ : KX} {n : Nat} (hC : CX κ cX11_days RX11 4 (some .int) 7) (hE : zEnd κ n (0, 0)) (hk0 : zRk κ (0, 0)) {r0 : Nat} {x1 : Int32} (h_r0 : zO n r0 11) (M : Mem) : X κ 4 emI n (0, 0) 20 [.ref r0, .null, .null, .null] [] M (f_X11_days_20 r0 x1 M) := by
  unfold f_X11_days_20
  refine x_aload_n (i := 0) rfl hC (zdk dk_X11_days 10 rfl) (q := 21) rfl ?_
  refine x_iconst (i := 2) c_iconst_2 hC (zdk dk_X11_days 11 rfl) (q := 22) rfl ?_
  refine x_callVi (as := [.int 2]) cb_RX11_105 rfl (by decide) hk0 h_r0 (fun x hx => t_X11_refuse h_r0 x hx) hC (zdk dk_X11_days 12 rfl) (q := 25) rfl rfl (Nat.le_of_ble_eq_true rfl) (fun z1 => ?_)
  exact x_iret (ty := .int) rfl hE hC (zdk dk_X11_days 13 rfl)
set_option maxRecDepth 100000 in
def f_X11_days_122 (k58 : Int32 → Int32 → Mem → Option (Int32 × Mem)) (r0 : Nat) (x1 : Int32) (x2 : Int32) (x3 : Int32) (M : Mem) : Option (Int32 × Mem) := k58 x2 (x3 + 1) M
set_option maxRecDepth 100000 in
set_option maxHeartbeats 4000000 in
theorem x_X11_days_122 {κ : KX} {n : Nat} (hC : CX κ cX11_days RX11 4 (some .int) 7) (hE : zEnd κ n (0, 0)) (hk0 : zRk κ (0, 0)) {r0 : Nat} {x1 : Int32} (h_r0 : zO n r0 11) (k58 : Int32 → Int32 → Mem → Option (Int32 × Mem)) (hk58 : ∀ (x2 : Int32) (x3 : Int32) (M : Mem), X κ 4 emI n (0, 0) 58 [.ref r0, .null, .int x2, .int x3] [] M (k58 x2 x3 M)) (x2 : Int32) (x3 : Int32) (M : Mem) : X κ 4 emI n (0, 0) 122 [.ref r0, .null, .int x2, .int x3] [] M (f_X11_days_122 k58 r0 x1 x2 x3 M) := by
  unfold f_X11_days_122
  refine x_iinc (i := 3) c_iconst_1 rfl (by decide) (L' := [.ref r0, .null, .int x2, .int (x3 + 1)]) rfl hC (zdk dk_X11_days 64 rfl) (q := 125) rfl ?_
  refine x_goto (tgt := 58) hC (zdk dk_X11_days 65 rfl) rfl ?_
  refine x_weak (L' := [.ref r0, .null, .int x2, .int (x3 + 1)]) ⟨Or.inr rfl, Or.inl rfl, Or.inr rfl, Or.inr rfl, trivial⟩ ?_
  exact hk58 _ _ _
set_option maxRecDepth 100000 in
def f_X11_days_120 (k58 : Int32 → Int32 → Mem → Option (Int32 × Mem)) (r0 : Nat) (x1 : Int32) (x3 : Int32) (s0 : Int32) (s1 : Int32) (M : Mem) : Option (Int32 × Mem) := f_X11_days_122 k58 r0 x1 (s0 + s1) x3 M
set_option maxRecDepth 100000 in
set_option maxHeartbeats 4000000 in
theorem x_X11_days_120 {κ : KX} {n : Nat} (hC : CX κ cX11_days RX11 4 (some .int) 7) (hE : zEnd κ n (0, 0)) (hk0 : zRk κ (0, 0)) {r0 : Nat} {x1 : Int32} (h_r0 : zO n r0 11) (k58 : Int32 → Int32 → Mem → Option (Int32 × Mem)) (hk58 : ∀ (x2 : Int32) (x3 : Int32) (M : Mem), X κ 4 emI n (0, 0) 58 [.ref r0, .null, .int x2, .int x3] [] M (k58 x2 x3 M)) (x3 : Int32) (s0 : Int32) (s1 : Int32) (M : Mem) : X κ 4 emI n (0, 0) 120 [.ref r0, .null, .null, .int x3] [.int s1, .int s0] M (f_X11_days_120 k58 r0 x1 x3 s0 s1 M) := by
  unfold f_X11_days_120
  refine x_iadd hC (zdk dk_X11_days 62 rfl) (q := 121) rfl ?_
  refine x_istore_n (i := 2) (L' := [.ref r0, .null, .int (s0 + s1), .int x3]) (by decide) rfl hC (zdk dk_X11_days 63 rfl) (q := 122) rfl ?_
  refine x_weak (L' := [.ref r0, .null, .int (s0 + s1), .int x3]) ⟨Or.inr rfl, Or.inl rfl, Or.inr rfl, Or.inr rfl, trivial⟩ ?_
  exact x_X11_days_122 hC hE hk0 h_r0 k58 hk58 _ _ _
set_option maxRecDepth 100000 in
def f_X11_days_58  (r0 : Nat) (x1 : Int32) : Nat → Int32 → Int32 → Mem → Option (Int32 × Mem)
  | 0, _, _, _ => none
  | f + 1, x2, x3, M => Option.bind (zrf M r0 11) fun q2 => (if zI M q2 9 ≤ x3 then some (x2, M) else Option.bind (zrf M r0 5) fun q3 => Option.bind (zrf M q3 0) fun q4 => Option.bind (zld q4 x3) fun k5 => Option.bind (zrf M q4 k5) fun q6 => (if zI M q6 2 = 0 then f_X11_days_122 (f_X11_days_58 r0 x1 f) r0 x1 x2 x3 M else Option.bind (zrf M r0 4) fun q7 => Option.bind (zrf M r0 11) fun q8 => Option.bind (zrf M r0 5) fun q9 => Option.bind (zrf M q9 0) fun q10 => Option.bind (zld q10 x3) fun k11 => Option.bind (zrf M q10 k11) fun q12 => Option.bind (f_X3_get q7 q8 q12 M) fun M13 => Option.bind (zrf M13 r0 4) fun q14 => (if zI M13 q14 7 = 0 then f_X11_days_120 (f_X11_days_58 r0 x1 f) r0 x1 x3 x2 0 M13 else f_X11_days_120 (f_X11_days_58 r0 x1 f) r0 x1 x3 x2 1 M13)))
set_option maxRecDepth 100000 in
set_option maxHeartbeats 4000000 in
theorem x_X11_days_58 {κ : KX} {n : Nat} (hC : CX κ cX11_days RX11 4 (some .int) 7) (hE : zEnd κ n (0, 0)) (hk0 : zRk κ (0, 0)) {r0 : Nat} {x1 : Int32} (h_r0 : zO n r0 11) : ∀ (f : Nat) (x2 : Int32) (x3 : Int32) (M : Mem), X κ 4 emI n (0, 0) 58 [.ref r0, .null, .int x2, .int x3] [] M (f_X11_days_58 r0 x1 f x2 x3 M) := by
  intro f
  induction f with
  | zero => intros; exact x_none
  | succ f ih =>
    intro x2 x3 M 
    rw [f_X11_days_58]
    refine x_iload_n (i := 3) rfl hC (zdk dk_X11_days 32 rfl) (q := 59) rfl ?_
    refine x_aload_n (i := 0) rfl hC (zdk dk_X11_days 33 rfl) (q := 60) rfl ?_
    refine x_getR (k := 0) fl_RX11_82 rfl h_r0 hC (zdk dk_X11_days 34 rfl) (q := 63) rfl (fun q2 hq2 => ?_)
    refine x_getI fl_RX11_159 (by decide) hq2 hC (zdk dk_X11_days 35 rfl) (q := 66) rfl ?_
    refine x_icmp_ge (tgt := 128) hC (zdk dk_X11_days 36 rfl) (q := 69) rfl rfl (fun _ => ?_) (fun _ => ?_)
    · refine x_iload_n (i := 2) rfl hC (zdk dk_X11_days 66 rfl) (q := 129) rfl ?_
      exact x_iret (ty := .int) rfl hE hC (zdk dk_X11_days 67 rfl)
    · refine x_aload_n (i := 0) rfl hC (zdk dk_X11_days 37 rfl) (q := 70) rfl ?_
      refine x_getR (k := 5) fl_RX11_42 rfl h_r0 hC (zdk dk_X11_days 38 rfl) (q := 73) rfl (fun q3 hq3 => ?_)
      refine x_getR (k := 23) fl_RX11_224 rfl hq3 hC (zdk dk_X11_days 39 rfl) (q := 76) rfl (fun q4 hq4 => ?_)
      refine x_iload_n (i := 3) rfl hC (zdk dk_X11_days 40 rfl) (q := 77) rfl ?_
      refine x_aald (kd := 23) (ke := 8) hq4 (by decide) rfl hC (zdk dk_X11_days 41 rfl) (q := 78) rfl (fun k5 _ q6 hq6 => ?_)
      refine x_getI fl_RX11_227 (by decide) hq6 hC (zdk dk_X11_days 42 rfl) (q := 81) rfl ?_
      refine x_if_eq (tgt := 122) hC (zdk dk_X11_days 43 rfl) (q := 84) rfl rfl (fun _ => ?_) (fun _ => ?_)
      · refine x_weak (L' := [.ref r0, .null, .int x2, .int x3]) ⟨Or.inr rfl, Or.inl rfl, Or.inr rfl, Or.inr rfl, trivial⟩ ?_
        exact x_X11_days_122 hC hE hk0 h_r0 (f_X11_days_58 r0 x1 f) ih _ _ _
      · refine x_aload_n (i := 0) rfl hC (zdk dk_X11_days 44 rfl) (q := 85) rfl ?_
        refine x_getR (k := 3) fl_RX11_35 rfl h_r0 hC (zdk dk_X11_days 45 rfl) (q := 88) rfl (fun q7 hq7 => ?_)
        refine x_aload_n (i := 0) rfl hC (zdk dk_X11_days 46 rfl) (q := 89) rfl ?_
        refine x_getR (k := 0) fl_RX11_82 rfl h_r0 hC (zdk dk_X11_days 47 rfl) (q := 92) rfl (fun q8 hq8 => ?_)
        refine x_aload_n (i := 0) rfl hC (zdk dk_X11_days 48 rfl) (q := 93) rfl ?_
        refine x_getR (k := 5) fl_RX11_42 rfl h_r0 hC (zdk dk_X11_days 49 rfl) (q := 96) rfl (fun q9 hq9 => ?_)
        refine x_getR (k := 23) fl_RX11_224 rfl hq9 hC (zdk dk_X11_days 50 rfl) (q := 99) rfl (fun q10 hq10 => ?_)
        refine x_iload_n (i := 3) rfl hC (zdk dk_X11_days 51 rfl) (q := 100) rfl ?_
        refine x_aald (kd := 23) (ke := 8) hq10 (by decide) rfl hC (zdk dk_X11_days 52 rfl) (q := 101) rfl (fun k11 _ q12 hq12 => ?_)
        refine x_callVv (as := [.ref q8, .ref q12]) cb_RX11_291 rfl (by decide) hk0 hq7 (fun x hx => t_X3_get hq7 hq8 hq12 x hx) hC (zdk dk_X11_days 53 rfl) (q := 104) rfl rfl (Nat.le_of_ble_eq_true rfl) (fun M13 => ?_)
        refine x_iload_n (i := 2) rfl hC (zdk dk_X11_days 54 rfl) (q := 105) rfl ?_
        refine x_aload_n (i := 0) rfl hC (zdk dk_X11_days 55 rfl) (q := 106) rfl ?_
        refine x_getR (k := 3) fl_RX11_35 rfl h_r0 hC (zdk dk_X11_days 56 rfl) (q := 109) rfl (fun q14 hq14 => ?_)
        refine x_getI fl_RX11_307 (by decide) hq14 hC (zdk dk_X11_days 57 rfl) (q := 112) rfl ?_
        refine x_if_eq (tgt := 119) hC (zdk dk_X11_days 58 rfl) (q := 115) rfl rfl (fun _ => ?_) (fun _ => ?_)
        · refine x_iconst (i := 0) c_iconst_0 hC (zdk dk_X11_days 61 rfl) (q := 120) rfl ?_
          refine x_weak (L' := [.ref r0, .null, .null, .int x3]) ⟨Or.inr rfl, Or.inl rfl, Or.inl rfl, Or.inr rfl, trivial⟩ ?_
          exact x_X11_days_120 hC hE hk0 h_r0 (f_X11_days_58 r0 x1 f) ih _ _ _ _
        · refine x_iconst (i := 1) c_iconst_1 hC (zdk dk_X11_days 59 rfl) (q := 116) rfl ?_
          refine x_goto (tgt := 120) hC (zdk dk_X11_days 60 rfl) rfl ?_
          refine x_weak (L' := [.ref r0, .null, .null, .int x3]) ⟨Or.inr rfl, Or.inl rfl, Or.inl rfl, Or.inr rfl, trivial⟩ ?_
          exact x_X11_days_120 hC hE hk0 h_r0 (f_X11_days_58 r0 x1 f) ih _ _ _ _
set_option maxRecDepth 100000 in
def f_X11_days_39  (r0 : Nat) (x1 : Int32) : Nat → Int32 → Mem → Option (Int32 × Mem)
  | 0, _, _ => none
  | f + 1, x2, M => (if x1 ≤ x2 then f_X11_days_58 r0 x1 1000000 0 0 M else Option.bind (f_X11_passDay r0 M) fun M15 => (f_X11_days_39 r0 x1 f) (x2 + 1) M15)
set_option maxRecDepth 100000 in
set_option maxHeartbeats 4000000 in
theorem x_X11_days_39 {κ : KX} {n : Nat} (hC : CX κ cX11_days RX11 4 (some .int) 7) (hE : zEnd κ n (0, 0)) (hk0 : zRk κ (0, 0)) {r0 : Nat} {x1 : Int32} (h_r0 : zO n r0 11) : ∀ (f : Nat) (x2 : Int32) (M : Mem), X κ 4 emI n (0, 0) 39 [.ref r0, .int x1, .int x2, .null] [] M (f_X11_days_39 r0 x1 f x2 M) := by
  intro f
  induction f with
  | zero => intros; exact x_none
  | succ f ih =>
    intro x2 M 
    rw [f_X11_days_39]
    refine x_iload_n (i := 2) rfl hC (zdk dk_X11_days 21 rfl) (q := 40) rfl ?_
    refine x_iload_n (i := 1) rfl hC (zdk dk_X11_days 22 rfl) (q := 41) rfl ?_
    refine x_icmp_ge (tgt := 54) hC (zdk dk_X11_days 23 rfl) (q := 44) rfl rfl (fun _ => ?_) (fun _ => ?_)
    · refine x_iconst (i := 0) c_iconst_0 hC (zdk dk_X11_days 28 rfl) (q := 55) rfl ?_
      refine x_istore_n (i := 2) (L' := [.ref r0, .int x1, .int 0, .null]) (by decide) rfl hC (zdk dk_X11_days 29 rfl) (q := 56) rfl ?_
      refine x_iconst (i := 0) c_iconst_0 hC (zdk dk_X11_days 30 rfl) (q := 57) rfl ?_
      refine x_istore_n (i := 3) (L' := [.ref r0, .int x1, .int 0, .int 0]) (by decide) rfl hC (zdk dk_X11_days 31 rfl) (q := 58) rfl ?_
      refine x_weak (L' := [.ref r0, .null, .int 0, .int 0]) ⟨Or.inr rfl, Or.inl rfl, Or.inr rfl, Or.inr rfl, trivial⟩ ?_
      exact x_X11_days_58 hC hE hk0 h_r0 _ _ _ _
    · refine x_aload_n (i := 0) rfl hC (zdk dk_X11_days 24 rfl) (q := 45) rfl ?_
      refine x_callVv (as := []) cb_RX11_366 rfl (by decide) hk0 h_r0 (fun x hx => t_X11_passDay h_r0 x hx) hC (zdk dk_X11_days 25 rfl) (q := 48) rfl rfl (Nat.le_of_ble_eq_true rfl) (fun M15 => ?_)
      refine x_iinc (i := 2) c_iconst_1 rfl (by decide) (L' := [.ref r0, .int x1, .int (x2 + 1), .null]) rfl hC (zdk dk_X11_days 26 rfl) (q := 51) rfl ?_
      refine x_goto (tgt := 39) hC (zdk dk_X11_days 27 rfl) rfl ?_
      refine x_weak (L' := [.ref r0, .int x1, .int (x2 + 1), .null]) ⟨Or.inr rfl, Or.inr rfl, Or.inr rfl, Or.inl rfl, trivial⟩ ?_
      exact ih _ _
set_option maxRecDepth 100000 in
def f_X11_days (r0 : Nat) (x1 : Int32) (M : Mem) : Option (Int32 × Mem) := (if zI M r0 14 = 0 then f_X11_days_20 r0 x1 M else (if x1 < 1 then f_X11_days_20 r0 x1 M else Option.bind (f_X11_daysFit r0 x1 M) fun z16 => (if z16.1 = 0 then f_X11_days_20 r0 x1 z16.2 else Option.bind (zrf z16.2 r0 8) fun q17 => Option.bind (zrf z16.2 r0 5) fun q18 => Option.bind (f_X7_save q17 q18 z16.2) fun M19 => f_X11_days_39 r0 x1 1000000 0 M19)))
set_option maxRecDepth 100000 in
set_option maxHeartbeats 4000000 in
theorem x_X11_days {κ : KX} {n : Nat} (hC : CX κ cX11_days RX11 4 (some .int) 7) (hE : zEnd κ n (0, 0)) (hk0 : zRk κ (0, 0)) (r0 : Nat) (x1 : Int32) (M : Mem) (h_r0 : zO n r0 11) : X κ 4 emI n (0, 0) 0 [.ref r0, .int x1, .null, .null] [] M (f_X11_days r0 x1 M) := by
  unfold f_X11_days
  refine x_aload_n (i := 0) rfl hC (zdk dk_X11_days 0 rfl) (q := 1) rfl ?_
  refine x_getI fl_RX11_120 (by decide) h_r0 hC (zdk dk_X11_days 1 rfl) (q := 4) rfl ?_
  refine x_if_eq (tgt := 20) hC (zdk dk_X11_days 2 rfl) (q := 7) rfl rfl (fun _ => ?_) (fun _ => ?_)
  · refine x_weak (L' := [.ref r0, .null, .null, .null]) ⟨Or.inr rfl, Or.inl rfl, Or.inl rfl, Or.inl rfl, trivial⟩ ?_
    exact x_X11_days_20 hC hE hk0 h_r0 _
  · refine x_iload_n (i := 1) rfl hC (zdk dk_X11_days 3 rfl) (q := 8) rfl ?_
    refine x_iconst (i := 1) c_iconst_1 hC (zdk dk_X11_days 4 rfl) (q := 9) rfl ?_
    refine x_icmp_lt (tgt := 20) hC (zdk dk_X11_days 5 rfl) (q := 12) rfl rfl (fun _ => ?_) (fun _ => ?_)
    · refine x_weak (L' := [.ref r0, .null, .null, .null]) ⟨Or.inr rfl, Or.inl rfl, Or.inl rfl, Or.inl rfl, trivial⟩ ?_
      exact x_X11_days_20 hC hE hk0 h_r0 _
    · refine x_aload_n (i := 0) rfl hC (zdk dk_X11_days 6 rfl) (q := 13) rfl ?_
      refine x_iload_n (i := 1) rfl hC (zdk dk_X11_days 7 rfl) (q := 14) rfl ?_
      refine x_callVi (as := [.int x1]) cb_RX11_248 rfl (by decide) hk0 h_r0 (fun x hx => t_X11_daysFit h_r0 x hx) hC (zdk dk_X11_days 8 rfl) (q := 17) rfl rfl (Nat.le_of_ble_eq_true rfl) (fun z16 => ?_)
      refine x_if_ne (tgt := 26) hC (zdk dk_X11_days 9 rfl) (q := 20) rfl rfl (fun _ => ?_) (fun _ => ?_)
      · refine x_aload_n (i := 0) rfl hC (zdk dk_X11_days 14 rfl) (q := 27) rfl ?_
        refine x_getR (k := 7) fl_RX11_61 rfl h_r0 hC (zdk dk_X11_days 15 rfl) (q := 30) rfl (fun q17 hq17 => ?_)
        refine x_aload_n (i := 0) rfl hC (zdk dk_X11_days 16 rfl) (q := 31) rfl ?_
        refine x_getR (k := 5) fl_RX11_42 rfl h_r0 hC (zdk dk_X11_days 17 rfl) (q := 34) rfl (fun q18 hq18 => ?_)
        refine x_callVv (as := [.ref q18]) cb_RX11_353 rfl (by decide) hk0 hq17 (fun x hx => t_X7_save hq17 hq18 x hx) hC (zdk dk_X11_days 18 rfl) (q := 37) rfl rfl (Nat.le_of_ble_eq_true rfl) (fun M19 => ?_)
        refine x_iconst (i := 0) c_iconst_0 hC (zdk dk_X11_days 19 rfl) (q := 38) rfl ?_
        refine x_istore_n (i := 2) (L' := [.ref r0, .int x1, .int 0, .null]) (by decide) rfl hC (zdk dk_X11_days 20 rfl) (q := 39) rfl ?_
        refine x_weak (L' := [.ref r0, .int x1, .int 0, .null]) ⟨Or.inr rfl, Or.inr rfl, Or.inr rfl, Or.inl rfl, trivial⟩ ?_
        exact x_X11_days_39 hC hE hk0 h_r0 _ _ _
      · refine x_weak (L' := [.ref r0, .null, .null, .null]) ⟨Or.inr rfl, Or.inl rfl, Or.inl rfl, Or.inl rfl, trivial⟩ ?_
        exact x_X11_days_20 hC hE hk0 h_r0 _
set_option maxRecDepth 100000 in
set_option maxHeartbeats 4000000 in
theorem t_X11_days {n : Nat} {r0 : Nat} {x1 : Int32} {M : Mem} (h_r0 : zO n r0 11) (x : (Int32 × Mem)) (hx : f_X11_days r0 x1 M = some x) (l : Launch) (dC : Nat → ClassId) (dI : Nat → Nat → Nat) (b : zSg) : MT l dC dI b yX11_days cX11_days 4 (some .int) 7 0 0 n n [.ref r0, .int x1] M (emI x).1 (emI x).2 :=
  MT.ofX (by decide +kernel) rfl (Nat.le_of_ble_eq_true rfl) (fun κ hC hF _ => x_X11_days hC (zEnd_of hF (Nat.le_refl _) (Nat.le_refl _)) (zRk_of hF (Nat.le_refl _) (Nat.le_refl _)) _ _ _ h_r0) x hx
set_option maxRecDepth 100000 in
def dt_X11_draw : List (Nat × Instr × Nat) := [(0, .aload_n 0, 1), (1, .ldc2_w 397, 3), (4, .aload_n 0, 1), (5, .getfield 98, 3), (8, .i2l, 1), (9, .lmul, 1), (10, .ldc2_w 399, 3), (13, .ladd, 1), (14, .ldc2_w 401, 3), (17, .lrem, 1), (18, .l2i, 1), (19, .putfield 98, 3), (22, .iload_n 1, 1), (23, .ifCond .le 15, 3), (26, .aload_n 0, 1), (27, .getfield 98, 3), (30, .bipush 64, 2), (32, .idiv, 1), (33, .iload_n 1, 1), (34, .irem, 1), (35, .goto 4, 3), (38, .iconst 0, 1), (39, .ireturn, 1)]
set_option maxRecDepth 100000 in
theorem dk_X11_draw : dt_X11_draw.all (fun q => decide (decode cX11_draw q.1 = .ok q.2)) = true := by decide +kernel
set_option maxRecDepth 100000 in
def f_X11_draw_39  (r0 : Nat) (x1 : Int32) (s0 : Int32) (M : Mem) : Option (Int32 × Mem) := some (s0, M)
set_option maxRecDepth 100000 in
set_option maxHeartbeats 4000000 in
theorem x_X11_draw_39 {κ : KX} {n : Nat} (hC : CX κ cX11_draw RX11 2 (some .int) 0) (hE : zEnd κ n (0, 0)) (hk0 : zRk κ (0, 0)) {r0 : Nat} {x1 : Int32} (h_r0 : zO n r0 11) (s0 : Int32) (M : Mem) : X κ 2 emI n (0, 0) 39 [.null, .null] [.int s0] M (f_X11_draw_39 r0 x1 s0 M) := by
  unfold f_X11_draw_39
  exact x_iret (ty := .int) rfl hE hC (zdk dk_X11_draw 22 rfl)
set_option maxRecDepth 100000 in
def f_X11_draw (r0 : Nat) (x1 : Int32) (M : Mem) : Option (Int32 × Mem) := Option.bind (some (zsI M r0 16 ((zlrem ((1103515245 * ((zI M r0 16).toInt64)) + 12345) 2147483648).toInt32))) fun M1 => (if x1 ≤ 0 then f_X11_draw_39 r0 x1 0 M1 else if x1 = 0 then none else f_X11_draw_39 r0 x1 (zrem ((zI M1 r0 16) / 64) x1) M1)
set_option maxRecDepth 100000 in
set_option maxHeartbeats 4000000 in
theorem x_X11_draw {κ : KX} {n : Nat} (hC : CX κ cX11_draw RX11 2 (some .int) 0) (hE : zEnd κ n (0, 0)) (hk0 : zRk κ (0, 0)) (r0 : Nat) (x1 : Int32) (M : Mem) (h_r0 : zO n r0 11) : X κ 2 emI n (0, 0) 0 [.ref r0, .int x1] [] M (f_X11_draw r0 x1 M) := by
  unfold f_X11_draw
  refine x_aload_n (i := 0) rfl hC (zdk dk_X11_draw 0 rfl) (q := 1) rfl ?_
  refine x_ldc2 k_RX11_397 hC (zdk dk_X11_draw 1 rfl) (q := 4) rfl ?_
  refine x_aload_n (i := 0) rfl hC (zdk dk_X11_draw 2 rfl) (q := 5) rfl ?_
  refine x_getI fl_RX11_98 (by decide) h_r0 hC (zdk dk_X11_draw 3 rfl) (q := 8) rfl ?_
  refine x_i2l hC (zdk dk_X11_draw 4 rfl) (q := 9) rfl ?_
  refine x_lmul hC (zdk dk_X11_draw 5 rfl) (q := 10) rfl ?_
  refine x_ldc2 k_RX11_399 hC (zdk dk_X11_draw 6 rfl) (q := 13) rfl ?_
  refine x_ladd hC (zdk dk_X11_draw 7 rfl) (q := 14) rfl ?_
  refine x_ldc2 k_RX11_401 hC (zdk dk_X11_draw 8 rfl) (q := 17) rfl ?_
  refine x_lrem (by decide) hC (zdk dk_X11_draw 9 rfl) (q := 18) rfl ?_
  refine x_l2i hC (zdk dk_X11_draw 10 rfl) (q := 19) rfl ?_
  refine x_putI fl_RX11_98 ⟨rfl, rfl⟩ (by decide) (Or.inl rfl) h_r0 hC (zdk dk_X11_draw 11 rfl) (q := 22) rfl ?_
  refine x_nmM (fun M1 => ?_)
  refine x_iload_n (i := 1) rfl hC (zdk dk_X11_draw 12 rfl) (q := 23) rfl ?_
  refine x_if_le (tgt := 38) hC (zdk dk_X11_draw 13 rfl) (q := 26) rfl rfl (fun _ => ?_) (fun _ => ?_)
  · refine x_iconst (i := 0) c_iconst_0 hC (zdk dk_X11_draw 21 rfl) (q := 39) rfl ?_
    refine x_weak (L' := [.null, .null]) ⟨Or.inl rfl, Or.inl rfl, trivial⟩ ?_
    exact x_X11_draw_39 hC hE hk0 h_r0 _ _
  · refine x_aload_n (i := 0) rfl hC (zdk dk_X11_draw 14 rfl) (q := 27) rfl ?_
    refine x_getI fl_RX11_98 (by decide) h_r0 hC (zdk dk_X11_draw 15 rfl) (q := 30) rfl ?_
    refine x_bipush (i := 64) c_bipush_64 hC (zdk dk_X11_draw 16 rfl) (q := 32) rfl ?_
    refine x_idiv (by decide) hC (zdk dk_X11_draw 17 rfl) (q := 33) rfl ?_
    refine x_iload_n (i := 1) rfl hC (zdk dk_X11_draw 18 rfl) (q := 34) rfl ?_
    refine x_iremG hC (zdk dk_X11_draw 19 rfl) (q := 35) rfl ?_
    refine x_goto (tgt := 39) hC (zdk dk_X11_draw 20 rfl) rfl ?_
    refine x_weak (L' := [.null, .null]) ⟨Or.inl rfl, Or.inl rfl, trivial⟩ ?_
    exact x_X11_draw_39 hC hE hk0 h_r0 _ _
set_option maxRecDepth 100000 in
set_option maxHeartbeats 4000000 in
theorem t_X11_draw {n : Nat} {r0 : Nat} {x1 : Int32} {M : Mem} (h_r0 : zO n r0 11) (x : (Int32 × Mem)) (hx : f_X11_draw r0 x1 M = some x) (l : Launch) (dC : Nat → ClassId) (dI : Nat → Nat → Nat) (b : zSg) : MT l dC dI b yX11_draw cX11_draw 2 (some .int) 0 0 0 n n [.ref r0, .int x1] M (emI x).1 (emI x).2 :=
  MT.ofX (by decide +kernel) rfl (Nat.le_of_ble_eq_true rfl) (fun κ hC hF _ => x_X11_draw hC (zEnd_of hF (Nat.le_refl _) (Nat.le_refl _)) (zRk_of hF (Nat.le_refl _) (Nat.le_refl _)) _ _ _ h_r0) x hx
set_option maxRecDepth 100000 in
def dt_X11_addNoise : List (Nat × Instr × Nat) := [(0, .iconst 0, 1), (1, .istore_n 1, 1), (2, .iconst 0, 1), (3, .istore_n 2, 1), (4, .iload_n 2, 1), (5, .aload_n 0, 1), (6, .getfield 82, 3), (9, .getfield 159, 3), (12, .if_icmp .ge 69, 3), (15, .aload_n 0, 1), (16, .getfield 42, 3), (19, .getfield 224, 3), (22, .iload_n 2, 1), (23, .aaload, 1), (24, .getfield 227, 3), (27, .ifCond .eq 48, 3), (30, .aload_n 0, 1), (31, .bipush 100, 2), (33, .invokevirtual 394, 3), (36, .aload_n 0, 1), (37, .getfield 82, 3), (40, .getfield 327, 3), (43, .if_icmp .ge 32, 3), (46, .aload_n 0, 1), (47, .getfield 42, 3), (50, .getfield 224, 3), (53, .iload_n 2, 1), (54, .aaload, 1), (55, .aload_n 0, 1), (56, .aload_n 0, 1), (57, .getfield 82, 3), (60, .getfield 141, 3), (63, .getfield 153, 3), (66, .invokevirtual 394, 3), (69, .invokevirtual 324, 3), (72, .iinc 1 1, 3), (75, .iinc 2 1, 3), (78, .goto (-74), 3), (81, .iload_n 1, 1), (82, .ireturn, 1)]
set_option maxRecDepth 100000 in
theorem dk_X11_addNoise : dt_X11_addNoise.all (fun q => decide (decode cX11_addNoise q.1 = .ok q.2)) = true := by decide +kernel
set_option maxRecDepth 100000 in
def f_X11_addNoise_75 (k4 : Int32 → Int32 → Mem → Option (Int32 × Mem)) (r0 : Nat) (x1 : Int32) (x2 : Int32) (M : Mem) : Option (Int32 × Mem) := k4 x1 (x2 + 1) M
set_option maxRecDepth 100000 in
set_option maxHeartbeats 4000000 in
theorem x_X11_addNoise_75 {κ : KX} {n : Nat} (hC : CX κ cX11_addNoise RX11 3 (some .int) 1) (hE : zEnd κ n (0, 0)) (hk0 : zRk κ (0, 0)) {r0 : Nat} (h_r0 : zO n r0 11) (k4 : Int32 → Int32 → Mem → Option (Int32 × Mem)) (hk4 : ∀ (x1 : Int32) (x2 : Int32) (M : Mem), X κ 3 emI n (0, 0) 4 [.ref r0, .int x1, .int x2] [] M (k4 x1 x2 M)) (x1 : Int32) (x2 : Int32) (M : Mem) : X κ 3 emI n (0, 0) 75 [.ref r0, .int x1, .int x2] [] M (f_X11_addNoise_75 k4 r0 x1 x2 M) := by
  unfold f_X11_addNoise_75
  refine x_iinc (i := 2) c_iconst_1 rfl (by decide) (L' := [.ref r0, .int x1, .int (x2 + 1)]) rfl hC (zdk dk_X11_addNoise 36 rfl) (q := 78) rfl ?_
  refine x_goto (tgt := 4) hC (zdk dk_X11_addNoise 37 rfl) rfl ?_
  refine x_weak (L' := [.ref r0, .int x1, .int (x2 + 1)]) ⟨Or.inr rfl, Or.inr rfl, Or.inr rfl, trivial⟩ ?_
  exact hk4 _ _ _
set_option maxRecDepth 100000 in
def f_X11_addNoise_4  (r0 : Nat) : Nat → Int32 → Int32 → Mem → Option (Int32 × Mem)
  | 0, _, _, _ => none
  | f + 1, x1, x2, M => Option.bind (zrf M r0 11) fun q1 => (if zI M q1 9 ≤ x2 then some (x1, M) else Option.bind (zrf M r0 5) fun q2 => Option.bind (zrf M q2 0) fun q3 => Option.bind (zld q3 x2) fun k4 => Option.bind (zrf M q3 k4) fun q5 => (if zI M q5 2 = 0 then f_X11_addNoise_75 (f_X11_addNoise_4 r0 f) r0 x1 x2 M else Option.bind (f_X11_draw r0 100 M) fun z6 => Option.bind (zrf z6.2 r0 11) fun q7 => (if zI z6.2 q7 14 ≤ z6.1 then f_X11_addNoise_75 (f_X11_addNoise_4 r0 f) r0 x1 x2 z6.2 else Option.bind (zrf z6.2 r0 5) fun q8 => Option.bind (zrf z6.2 q8 0) fun q9 => Option.bind (zld q9 x2) fun k10 => Option.bind (zrf z6.2 q9 k10) fun q11 => Option.bind (zrf z6.2 r0 11) fun q12 => Option.bind (zrf z6.2 q12 0) fun q13 => Option.bind (f_X11_draw r0 (zI z6.2 q13 10) z6.2) fun z14 => Option.bind (f_X8_turn q11 z14.1 z14.2) fun M15 => f_X11_addNoise_75 (f_X11_addNoise_4 r0 f) r0 (x1 + 1) x2 M15)))
set_option maxRecDepth 100000 in
set_option maxHeartbeats 4000000 in
theorem x_X11_addNoise_4 {κ : KX} {n : Nat} (hC : CX κ cX11_addNoise RX11 3 (some .int) 1) (hE : zEnd κ n (0, 0)) (hk0 : zRk κ (0, 0)) {r0 : Nat} (h_r0 : zO n r0 11) : ∀ (f : Nat) (x1 : Int32) (x2 : Int32) (M : Mem), X κ 3 emI n (0, 0) 4 [.ref r0, .int x1, .int x2] [] M (f_X11_addNoise_4 r0 f x1 x2 M) := by
  intro f
  induction f with
  | zero => intros; exact x_none
  | succ f ih =>
    intro x1 x2 M 
    rw [f_X11_addNoise_4]
    refine x_iload_n (i := 2) rfl hC (zdk dk_X11_addNoise 4 rfl) (q := 5) rfl ?_
    refine x_aload_n (i := 0) rfl hC (zdk dk_X11_addNoise 5 rfl) (q := 6) rfl ?_
    refine x_getR (k := 0) fl_RX11_82 rfl h_r0 hC (zdk dk_X11_addNoise 6 rfl) (q := 9) rfl (fun q1 hq1 => ?_)
    refine x_getI fl_RX11_159 (by decide) hq1 hC (zdk dk_X11_addNoise 7 rfl) (q := 12) rfl ?_
    refine x_icmp_ge (tgt := 81) hC (zdk dk_X11_addNoise 8 rfl) (q := 15) rfl rfl (fun _ => ?_) (fun _ => ?_)
    · refine x_iload_n (i := 1) rfl hC (zdk dk_X11_addNoise 38 rfl) (q := 82) rfl ?_
      exact x_iret (ty := .int) rfl hE hC (zdk dk_X11_addNoise 39 rfl)
    · refine x_aload_n (i := 0) rfl hC (zdk dk_X11_addNoise 9 rfl) (q := 16) rfl ?_
      refine x_getR (k := 5) fl_RX11_42 rfl h_r0 hC (zdk dk_X11_addNoise 10 rfl) (q := 19) rfl (fun q2 hq2 => ?_)
      refine x_getR (k := 23) fl_RX11_224 rfl hq2 hC (zdk dk_X11_addNoise 11 rfl) (q := 22) rfl (fun q3 hq3 => ?_)
      refine x_iload_n (i := 2) rfl hC (zdk dk_X11_addNoise 12 rfl) (q := 23) rfl ?_
      refine x_aald (kd := 23) (ke := 8) hq3 (by decide) rfl hC (zdk dk_X11_addNoise 13 rfl) (q := 24) rfl (fun k4 _ q5 hq5 => ?_)
      refine x_getI fl_RX11_227 (by decide) hq5 hC (zdk dk_X11_addNoise 14 rfl) (q := 27) rfl ?_
      refine x_if_eq (tgt := 75) hC (zdk dk_X11_addNoise 15 rfl) (q := 30) rfl rfl (fun _ => ?_) (fun _ => ?_)
      · refine x_weak (L' := [.ref r0, .int x1, .int x2]) ⟨Or.inr rfl, Or.inr rfl, Or.inr rfl, trivial⟩ ?_
        exact x_X11_addNoise_75 hC hE hk0 h_r0 (f_X11_addNoise_4 r0 f) ih _ _ _
      · refine x_aload_n (i := 0) rfl hC (zdk dk_X11_addNoise 16 rfl) (q := 31) rfl ?_
        refine x_bipush (i := 100) c_bipush_100 hC (zdk dk_X11_addNoise 17 rfl) (q := 33) rfl ?_
        refine x_callVi (as := [.int 100]) cb_RX11_394 rfl (by decide) hk0 h_r0 (fun x hx => t_X11_draw h_r0 x hx) hC (zdk dk_X11_addNoise 18 rfl) (q := 36) rfl rfl (Nat.le_of_ble_eq_true rfl) (fun z6 => ?_)
        refine x_aload_n (i := 0) rfl hC (zdk dk_X11_addNoise 19 rfl) (q := 37) rfl ?_
        refine x_getR (k := 0) fl_RX11_82 rfl h_r0 hC (zdk dk_X11_addNoise 20 rfl) (q := 40) rfl (fun q7 hq7 => ?_)
        refine x_getI fl_RX11_327 (by decide) hq7 hC (zdk dk_X11_addNoise 21 rfl) (q := 43) rfl ?_
        refine x_icmp_ge (tgt := 75) hC (zdk dk_X11_addNoise 22 rfl) (q := 46) rfl rfl (fun _ => ?_) (fun _ => ?_)
        · refine x_weak (L' := [.ref r0, .int x1, .int x2]) ⟨Or.inr rfl, Or.inr rfl, Or.inr rfl, trivial⟩ ?_
          exact x_X11_addNoise_75 hC hE hk0 h_r0 (f_X11_addNoise_4 r0 f) ih _ _ _
        · refine x_aload_n (i := 0) rfl hC (zdk dk_X11_addNoise 23 rfl) (q := 47) rfl ?_
          refine x_getR (k := 5) fl_RX11_42 rfl h_r0 hC (zdk dk_X11_addNoise 24 rfl) (q := 50) rfl (fun q8 hq8 => ?_)
          refine x_getR (k := 23) fl_RX11_224 rfl hq8 hC (zdk dk_X11_addNoise 25 rfl) (q := 53) rfl (fun q9 hq9 => ?_)
          refine x_iload_n (i := 2) rfl hC (zdk dk_X11_addNoise 26 rfl) (q := 54) rfl ?_
          refine x_aald (kd := 23) (ke := 8) hq9 (by decide) rfl hC (zdk dk_X11_addNoise 27 rfl) (q := 55) rfl (fun k10 _ q11 hq11 => ?_)
          refine x_aload_n (i := 0) rfl hC (zdk dk_X11_addNoise 28 rfl) (q := 56) rfl ?_
          refine x_aload_n (i := 0) rfl hC (zdk dk_X11_addNoise 29 rfl) (q := 57) rfl ?_
          refine x_getR (k := 0) fl_RX11_82 rfl h_r0 hC (zdk dk_X11_addNoise 30 rfl) (q := 60) rfl (fun q12 hq12 => ?_)
          refine x_getR (k := 1) fl_RX11_141 rfl hq12 hC (zdk dk_X11_addNoise 31 rfl) (q := 63) rfl (fun q13 hq13 => ?_)
          refine x_getI fl_RX11_153 (by decide) hq13 hC (zdk dk_X11_addNoise 32 rfl) (q := 66) rfl ?_
          refine x_callVi (as := [.int (zI z6.2 q13 10)]) cb_RX11_394 rfl (by decide) hk0 h_r0 (fun x hx => t_X11_draw h_r0 x hx) hC (zdk dk_X11_addNoise 33 rfl) (q := 69) rfl rfl (Nat.le_of_ble_eq_true rfl) (fun z14 => ?_)
          refine x_callVv (as := [.int z14.1]) cb_RX11_324 rfl (by decide) hk0 hq11 (fun x hx => t_X8_turn hq11 x hx) hC (zdk dk_X11_addNoise 34 rfl) (q := 72) rfl rfl (Nat.le_of_ble_eq_true rfl) (fun M15 => ?_)
          refine x_iinc (i := 1) c_iconst_1 rfl (by decide) (L' := [.ref r0, .int (x1 + 1), .int x2]) rfl hC (zdk dk_X11_addNoise 35 rfl) (q := 75) rfl ?_
          refine x_weak (L' := [.ref r0, .int (x1 + 1), .int x2]) ⟨Or.inr rfl, Or.inr rfl, Or.inr rfl, trivial⟩ ?_
          exact x_X11_addNoise_75 hC hE hk0 h_r0 (f_X11_addNoise_4 r0 f) ih _ _ _
set_option maxRecDepth 100000 in
def f_X11_addNoise (r0 : Nat) (M : Mem) : Option (Int32 × Mem) := f_X11_addNoise_4 r0 1000000 0 0 M
set_option maxRecDepth 100000 in
set_option maxHeartbeats 4000000 in
theorem x_X11_addNoise {κ : KX} {n : Nat} (hC : CX κ cX11_addNoise RX11 3 (some .int) 1) (hE : zEnd κ n (0, 0)) (hk0 : zRk κ (0, 0)) (r0 : Nat) (M : Mem) (h_r0 : zO n r0 11) : X κ 3 emI n (0, 0) 0 [.ref r0, .null, .null] [] M (f_X11_addNoise r0 M) := by
  unfold f_X11_addNoise
  refine x_iconst (i := 0) c_iconst_0 hC (zdk dk_X11_addNoise 0 rfl) (q := 1) rfl ?_
  refine x_istore_n (i := 1) (L' := [.ref r0, .int 0, .null]) (by decide) rfl hC (zdk dk_X11_addNoise 1 rfl) (q := 2) rfl ?_
  refine x_iconst (i := 0) c_iconst_0 hC (zdk dk_X11_addNoise 2 rfl) (q := 3) rfl ?_
  refine x_istore_n (i := 2) (L' := [.ref r0, .int 0, .int 0]) (by decide) rfl hC (zdk dk_X11_addNoise 3 rfl) (q := 4) rfl ?_
  refine x_weak (L' := [.ref r0, .int 0, .int 0]) ⟨Or.inr rfl, Or.inr rfl, Or.inr rfl, trivial⟩ ?_
  exact x_X11_addNoise_4 hC hE hk0 h_r0 _ _ _ _
set_option maxRecDepth 100000 in
set_option maxHeartbeats 4000000 in
theorem t_X11_addNoise {n : Nat} {r0 : Nat} {M : Mem} (h_r0 : zO n r0 11) (x : (Int32 × Mem)) (hx : f_X11_addNoise r0 M = some x) (l : Launch) (dC : Nat → ClassId) (dI : Nat → Nat → Nat) (b : zSg) : MT l dC dI b yX11_addNoise cX11_addNoise 3 (some .int) 1 0 0 n n [.ref r0] M (emI x).1 (emI x).2 :=
  MT.ofX (by decide +kernel) rfl (Nat.le_of_ble_eq_true rfl) (fun κ hC hF _ => x_X11_addNoise hC (zEnd_of hF (Nat.le_refl _) (Nat.le_refl _)) (zRk_of hF (Nat.le_refl _) (Nat.le_refl _)) _ _ h_r0) x hx
set_option maxRecDepth 100000 in
def dt_X11_chance : List (Nat × Instr × Nat) := [(0, .aload_n 0, 1), (1, .getfield 120, 3), (4, .ifCond .eq 16, 3), (7, .iload_n 1, 1), (8, .iconst 1, 1), (9, .if_icmp .lt 11, 3), (12, .aload_n 0, 1), (13, .iload_n 1, 1), (14, .invokevirtual 248, 3), (17, .ifCond .ne 9, 3), (20, .aload_n 0, 1), (21, .iconst 2, 1), (22, .invokevirtual 105, 3), (25, .ireturn, 1), (26, .aload_n 0, 1), (27, .getfield 61, 3), (30, .aload_n 0, 1), (31, .getfield 42, 3), (34, .invokevirtual 353, 3), (37, .iconst 0, 1), (38, .istore_n 2, 1), (39, .iconst 0, 1), (40, .istore_n 3, 1), (41, .iload_n 3, 1), (42, .iload_n 1, 1), (43, .if_icmp .ge 20, 3), (46, .aload_n 0, 1), (47, .invokevirtual 366, 3), (50, .iload_n 2, 1), (51, .aload_n 0, 1), (52, .invokevirtual 368, 3), (55, .iadd, 1), (56, .istore_n 2, 1), (57, .iinc 3 1, 3), (60, .goto (-19), 3), (63, .iload_n 2, 1), (64, .ireturn, 1)]
set_option maxRecDepth 100000 in
theorem dk_X11_chance : dt_X11_chance.all (fun q => decide (decode cX11_chance q.1 = .ok q.2)) = true := by decide +kernel
set_option maxRecDepth 100000 in
def f_X11_chance_20  (r0 : Nat) (x1 : Int32)  (M : Mem) : Option (Int32 × Mem) := Option.bind (f_X11_refuse r0 2 M) fun z1 => some (z1.1, z1.2)
set_option maxRecDepth 100000 in
set_option maxHeartbeats 4000000 in
theorem x_X11_chance_20 {κ : KX} {n : Nat} (hC : CX κ cX11_chance RX11 4 (some .int) 7) (hE : zEnd κ n (0, 0)) (hk0 : zRk κ (0, 0)) {r0 : Nat} {x1 : Int32} (h_r0 : zO n r0 11) (M : Mem) : X κ 4 emI n (0, 0) 20 [.ref r0, .null, .null, .null] [] M (f_X11_chance_20 r0 x1 M) := by
  unfold f_X11_chance_20
  refine x_aload_n (i := 0) rfl hC (zdk dk_X11_chance 10 rfl) (q := 21) rfl ?_
  refine x_iconst (i := 2) c_iconst_2 hC (zdk dk_X11_chance 11 rfl) (q := 22) rfl ?_
  refine x_callVi (as := [.int 2]) cb_RX11_105 rfl (by decide) hk0 h_r0 (fun x hx => t_X11_refuse h_r0 x hx) hC (zdk dk_X11_chance 12 rfl) (q := 25) rfl rfl (Nat.le_of_ble_eq_true rfl) (fun z1 => ?_)
  exact x_iret (ty := .int) rfl hE hC (zdk dk_X11_chance 13 rfl)
set_option maxRecDepth 100000 in
def f_X11_chance_41  (r0 : Nat) (x1 : Int32) : Nat → Int32 → Int32 → Mem → Option (Int32 × Mem)
  | 0, _, _, _ => none
  | f + 1, x2, x3, M => (if x1 ≤ x3 then some (x2, M) else Option.bind (f_X11_passDay r0 M) fun M2 => Option.bind (f_X11_addNoise r0 M2) fun z3 => (f_X11_chance_41 r0 x1 f) (x2 + z3.1) (x3 + 1) z3.2)
set_option maxRecDepth 100000 in
set_option maxHeartbeats 4000000 in
theorem x_X11_chance_41 {κ : KX} {n : Nat} (hC : CX κ cX11_chance RX11 4 (some .int) 7) (hE : zEnd κ n (0, 0)) (hk0 : zRk κ (0, 0)) {r0 : Nat} {x1 : Int32} (h_r0 : zO n r0 11) : ∀ (f : Nat) (x2 : Int32) (x3 : Int32) (M : Mem), X κ 4 emI n (0, 0) 41 [.ref r0, .int x1, .int x2, .int x3] [] M (f_X11_chance_41 r0 x1 f x2 x3 M) := by
  intro f
  induction f with
  | zero => intros; exact x_none
  | succ f ih =>
    intro x2 x3 M 
    rw [f_X11_chance_41]
    refine x_iload_n (i := 3) rfl hC (zdk dk_X11_chance 23 rfl) (q := 42) rfl ?_
    refine x_iload_n (i := 1) rfl hC (zdk dk_X11_chance 24 rfl) (q := 43) rfl ?_
    refine x_icmp_ge (tgt := 63) hC (zdk dk_X11_chance 25 rfl) (q := 46) rfl rfl (fun _ => ?_) (fun _ => ?_)
    · refine x_iload_n (i := 2) rfl hC (zdk dk_X11_chance 35 rfl) (q := 64) rfl ?_
      exact x_iret (ty := .int) rfl hE hC (zdk dk_X11_chance 36 rfl)
    · refine x_aload_n (i := 0) rfl hC (zdk dk_X11_chance 26 rfl) (q := 47) rfl ?_
      refine x_callVv (as := []) cb_RX11_366 rfl (by decide) hk0 h_r0 (fun x hx => t_X11_passDay h_r0 x hx) hC (zdk dk_X11_chance 27 rfl) (q := 50) rfl rfl (Nat.le_of_ble_eq_true rfl) (fun M2 => ?_)
      refine x_iload_n (i := 2) rfl hC (zdk dk_X11_chance 28 rfl) (q := 51) rfl ?_
      refine x_aload_n (i := 0) rfl hC (zdk dk_X11_chance 29 rfl) (q := 52) rfl ?_
      refine x_callVi (as := []) cb_RX11_368 rfl (by decide) hk0 h_r0 (fun x hx => t_X11_addNoise h_r0 x hx) hC (zdk dk_X11_chance 30 rfl) (q := 55) rfl rfl (Nat.le_of_ble_eq_true rfl) (fun z3 => ?_)
      refine x_iadd hC (zdk dk_X11_chance 31 rfl) (q := 56) rfl ?_
      refine x_istore_n (i := 2) (L' := [.ref r0, .int x1, .int (x2 + z3.1), .int x3]) (by decide) rfl hC (zdk dk_X11_chance 32 rfl) (q := 57) rfl ?_
      refine x_iinc (i := 3) c_iconst_1 rfl (by decide) (L' := [.ref r0, .int x1, .int (x2 + z3.1), .int (x3 + 1)]) rfl hC (zdk dk_X11_chance 33 rfl) (q := 60) rfl ?_
      refine x_goto (tgt := 41) hC (zdk dk_X11_chance 34 rfl) rfl ?_
      refine x_weak (L' := [.ref r0, .int x1, .int (x2 + z3.1), .int (x3 + 1)]) ⟨Or.inr rfl, Or.inr rfl, Or.inr rfl, Or.inr rfl, trivial⟩ ?_
      exact ih _ _ _
set_option maxRecDepth 100000 in
def f_X11_chance (r0 : Nat) (x1 : Int32) (M : Mem) : Option (Int32 × Mem) := (if zI M r0 14 = 0 then f_X11_chance_20 r0 x1 M else (if x1 < 1 then f_X11_chance_20 r0 x1 M else Option.bind (f_X11_daysFit r0 x1 M) fun z4 => (if z4.1 = 0 then f_X11_chance_20 r0 x1 z4.2 else Option.bind (zrf z4.2 r0 8) fun q5 => Option.bind (zrf z4.2 r0 5) fun q6 => Option.bind (f_X7_save q5 q6 z4.2) fun M7 => f_X11_chance_41 r0 x1 1000000 0 0 M7)))
set_option maxRecDepth 100000 in
set_option maxHeartbeats 4000000 in
theorem x_X11_chance {κ : KX} {n : Nat} (hC : CX κ cX11_chance RX11 4 (some .int) 7) (hE : zEnd κ n (0, 0)) (hk0 : zRk κ (0, 0)) (r0 : Nat) (x1 : Int32) (M : Mem) (h_r0 : zO n r0 11) : X κ 4 emI n (0, 0) 0 [.ref r0, .int x1, .null, .null] [] M (f_X11_chance r0 x1 M) := by
  unfold f_X11_chance
  refine x_aload_n (i := 0) rfl hC (zdk dk_X11_chance 0 rfl) (q := 1) rfl ?_
  refine x_getI fl_RX11_120 (by decide) h_r0 hC (zdk dk_X11_chance 1 rfl) (q := 4) rfl ?_
  refine x_if_eq (tgt := 20) hC (zdk dk_X11_chance 2 rfl) (q := 7) rfl rfl (fun _ => ?_) (fun _ => ?_)
  · refine x_weak (L' := [.ref r0, .null, .null, .null]) ⟨Or.inr rfl, Or.inl rfl, Or.inl rfl, Or.inl rfl, trivial⟩ ?_
    exact x_X11_chance_20 hC hE hk0 h_r0 _
  · refine x_iload_n (i := 1) rfl hC (zdk dk_X11_chance 3 rfl) (q := 8) rfl ?_
    refine x_iconst (i := 1) c_iconst_1 hC (zdk dk_X11_chance 4 rfl) (q := 9) rfl ?_
    refine x_icmp_lt (tgt := 20) hC (zdk dk_X11_chance 5 rfl) (q := 12) rfl rfl (fun _ => ?_) (fun _ => ?_)
    · refine x_weak (L' := [.ref r0, .null, .null, .null]) ⟨Or.inr rfl, Or.inl rfl, Or.inl rfl, Or.inl rfl, trivial⟩ ?_
      exact x_X11_chance_20 hC hE hk0 h_r0 _
    · refine x_aload_n (i := 0) rfl hC (zdk dk_X11_chance 6 rfl) (q := 13) rfl ?_
      refine x_iload_n (i := 1) rfl hC (zdk dk_X11_chance 7 rfl) (q := 14) rfl ?_
      refine x_callVi (as := [.int x1]) cb_RX11_248 rfl (by decide) hk0 h_r0 (fun x hx => t_X11_daysFit h_r0 x hx) hC (zdk dk_X11_chance 8 rfl) (q := 17) rfl rfl (Nat.le_of_ble_eq_true rfl) (fun z4 => ?_)
      refine x_if_ne (tgt := 26) hC (zdk dk_X11_chance 9 rfl) (q := 20) rfl rfl (fun _ => ?_) (fun _ => ?_)
      · refine x_aload_n (i := 0) rfl hC (zdk dk_X11_chance 14 rfl) (q := 27) rfl ?_
        refine x_getR (k := 7) fl_RX11_61 rfl h_r0 hC (zdk dk_X11_chance 15 rfl) (q := 30) rfl (fun q5 hq5 => ?_)
        refine x_aload_n (i := 0) rfl hC (zdk dk_X11_chance 16 rfl) (q := 31) rfl ?_
        refine x_getR (k := 5) fl_RX11_42 rfl h_r0 hC (zdk dk_X11_chance 17 rfl) (q := 34) rfl (fun q6 hq6 => ?_)
        refine x_callVv (as := [.ref q6]) cb_RX11_353 rfl (by decide) hk0 hq5 (fun x hx => t_X7_save hq5 hq6 x hx) hC (zdk dk_X11_chance 18 rfl) (q := 37) rfl rfl (Nat.le_of_ble_eq_true rfl) (fun M7 => ?_)
        refine x_iconst (i := 0) c_iconst_0 hC (zdk dk_X11_chance 19 rfl) (q := 38) rfl ?_
        refine x_istore_n (i := 2) (L' := [.ref r0, .int x1, .int 0, .null]) (by decide) rfl hC (zdk dk_X11_chance 20 rfl) (q := 39) rfl ?_
        refine x_iconst (i := 0) c_iconst_0 hC (zdk dk_X11_chance 21 rfl) (q := 40) rfl ?_
        refine x_istore_n (i := 3) (L' := [.ref r0, .int x1, .int 0, .int 0]) (by decide) rfl hC (zdk dk_X11_chance 22 rfl) (q := 41) rfl ?_
        refine x_weak (L' := [.ref r0, .int x1, .int 0, .int 0]) ⟨Or.inr rfl, Or.inr rfl, Or.inr rfl, Or.inr rfl, trivial⟩ ?_
        exact x_X11_chance_41 hC hE hk0 h_r0 _ _ _ _
      · refine x_weak (L' := [.ref r0, .null, .null, .null]) ⟨Or.inr rfl, Or.inl rfl, Or.inl rfl, Or.inl rfl, trivial⟩ ?_
        exact x_X11_chance_20 hC hE hk0 h_r0 _
set_option maxRecDepth 100000 in
set_option maxHeartbeats 4000000 in
theorem t_X11_chance {n : Nat} {r0 : Nat} {x1 : Int32} {M : Mem} (h_r0 : zO n r0 11) (x : (Int32 × Mem)) (hx : f_X11_chance r0 x1 M = some x) (l : Launch) (dC : Nat → ClassId) (dI : Nat → Nat → Nat) (b : zSg) : MT l dC dI b yX11_chance cX11_chance 4 (some .int) 7 0 0 n n [.ref r0, .int x1] M (emI x).1 (emI x).2 :=
  MT.ofX (by decide +kernel) rfl (Nat.le_of_ble_eq_true rfl) (fun κ hC hF _ => x_X11_chance hC (zEnd_of hF (Nat.le_refl _) (Nat.le_refl _)) (zRk_of hF (Nat.le_refl _) (Nat.le_refl _)) _ _ _ h_r0) x hx
set_option maxRecDepth 100000 in
def dt_X11_undo : List (Nat × Instr × Nat) := [(0, .aload_n 0, 1), (1, .getfield 61, 3), (4, .getfield 173, 3), (7, .ifCond .ne 11, 3), (10, .aload_n 0, 1), (11, .iconst 4, 1), (12, .invokevirtual 105, 3), (15, .pop, 1), (16, .iconst 0, 1), (17, .ireturn, 1), (18, .aload_n 0, 1), (19, .getfield 61, 3), (22, .aload_n 0, 1), (23, .getfield 42, 3), (26, .invokevirtual 371, 3), (29, .iconst 1, 1), (30, .ireturn, 1)]
set_option maxRecDepth 100000 in
theorem dk_X11_undo : dt_X11_undo.all (fun q => decide (decode cX11_undo q.1 = .ok q.2)) = true := by decide +kernel
set_option maxRecDepth 100000 in
def f_X11_undo (r0 : Nat) (M : Mem) : Option (Int32 × Mem) := Option.bind (zrf M r0 8) fun q1 => (if zI M q1 3 = 0 then Option.bind (f_X11_refuse r0 4 M) fun z5 => some (0, z5.2) else Option.bind (zrf M r0 8) fun q2 => Option.bind (zrf M r0 5) fun q3 => Option.bind (f_X7_restore q2 q3 M) fun M4 => some (1, M4))
set_option maxRecDepth 100000 in
set_option maxHeartbeats 4000000 in
theorem x_X11_undo {κ : KX} {n : Nat} (hC : CX κ cX11_undo RX11 1 (some .boolean) 4) (hE : zEnd κ n (0, 0)) (hk0 : zRk κ (0, 0)) (r0 : Nat) (M : Mem) (h_r0 : zO n r0 11) : X κ 1 emI n (0, 0) 0 [.ref r0] [] M (f_X11_undo r0 M) := by
  unfold f_X11_undo
  refine x_aload_n (i := 0) rfl hC (zdk dk_X11_undo 0 rfl) (q := 1) rfl ?_
  refine x_getR (k := 7) fl_RX11_61 rfl h_r0 hC (zdk dk_X11_undo 1 rfl) (q := 4) rfl (fun q1 hq1 => ?_)
  refine x_getI fl_RX11_173 (by decide) hq1 hC (zdk dk_X11_undo 2 rfl) (q := 7) rfl ?_
  refine x_if_ne (tgt := 18) hC (zdk dk_X11_undo 3 rfl) (q := 10) rfl rfl (fun _ => ?_) (fun _ => ?_)
  · refine x_aload_n (i := 0) rfl hC (zdk dk_X11_undo 10 rfl) (q := 19) rfl ?_
    refine x_getR (k := 7) fl_RX11_61 rfl h_r0 hC (zdk dk_X11_undo 11 rfl) (q := 22) rfl (fun q2 hq2 => ?_)
    refine x_aload_n (i := 0) rfl hC (zdk dk_X11_undo 12 rfl) (q := 23) rfl ?_
    refine x_getR (k := 5) fl_RX11_42 rfl h_r0 hC (zdk dk_X11_undo 13 rfl) (q := 26) rfl (fun q3 hq3 => ?_)
    refine x_callVv (as := [.ref q3]) cb_RX11_371 rfl (by decide) hk0 hq2 (fun x hx => t_X7_restore hq2 hq3 x hx) hC (zdk dk_X11_undo 14 rfl) (q := 29) rfl rfl (Nat.le_of_ble_eq_true rfl) (fun M4 => ?_)
    refine x_iconst (i := 1) c_iconst_1 hC (zdk dk_X11_undo 15 rfl) (q := 30) rfl ?_
    exact x_iret (ty := .boolean) rfl hE hC (zdk dk_X11_undo 16 rfl)
  · refine x_aload_n (i := 0) rfl hC (zdk dk_X11_undo 4 rfl) (q := 11) rfl ?_
    refine x_iconst (i := 4) c_iconst_4 hC (zdk dk_X11_undo 5 rfl) (q := 12) rfl ?_
    refine x_callVi (as := [.int 4]) cb_RX11_105 rfl (by decide) hk0 h_r0 (fun x hx => t_X11_refuse h_r0 x hx) hC (zdk dk_X11_undo 6 rfl) (q := 15) rfl rfl (Nat.le_of_ble_eq_true rfl) (fun z5 => ?_)
    refine x_pop rfl hC (zdk dk_X11_undo 7 rfl) (q := 16) rfl ?_
    refine x_iconst (i := 0) c_iconst_0 hC (zdk dk_X11_undo 8 rfl) (q := 17) rfl ?_
    exact x_iret (ty := .boolean) rfl hE hC (zdk dk_X11_undo 9 rfl)
set_option maxRecDepth 100000 in
set_option maxHeartbeats 4000000 in
theorem t_X11_undo {n : Nat} {r0 : Nat} {M : Mem} (h_r0 : zO n r0 11) (x : (Int32 × Mem)) (hx : f_X11_undo r0 M = some x) (l : Launch) (dC : Nat → ClassId) (dI : Nat → Nat → Nat) (b : zSg) : MT l dC dI b yX11_undo cX11_undo 1 (some .boolean) 4 0 0 n n [.ref r0] M (emI x).1 (emI x).2 :=
  MT.ofX (by decide +kernel) rfl (Nat.le_of_ble_eq_true rfl) (fun κ hC hF _ => x_X11_undo hC (zEnd_of hF (Nat.le_refl _) (Nat.le_refl _)) (zRk_of hF (Nat.le_refl _) (Nat.le_refl _)) _ _ h_r0) x hx
set_option maxRecDepth 100000 in
def dt_X11_seed : List (Nat × Instr × Nat) := [(0, .iload_n 1, 1), (1, .ifCond .ge 11, 3), (4, .aload_n 0, 1), (5, .iconst 5, 1), (6, .invokevirtual 105, 3), (9, .pop, 1), (10, .iconst 0, 1), (11, .ireturn, 1), (12, .aload_n 0, 1), (13, .iload_n 1, 1), (14, .putfield 98, 3), (17, .iconst 1, 1), (18, .ireturn, 1)]
set_option maxRecDepth 100000 in
theorem dk_X11_seed : dt_X11_seed.all (fun q => decide (decode cX11_seed q.1 = .ok q.2)) = true := by decide +kernel
set_option maxRecDepth 100000 in
def f_X11_seed (r0 : Nat) (x1 : Int32) (M : Mem) : Option (Int32 × Mem) := (if 0 ≤ x1 then Option.bind (some (zsI M r0 16 x1)) fun M1 => some (1, M1) else Option.bind (f_X11_refuse r0 5 M) fun z2 => some (0, z2.2))
set_option maxRecDepth 100000 in
set_option maxHeartbeats 4000000 in
theorem x_X11_seed {κ : KX} {n : Nat} (hC : CX κ cX11_seed RX11 2 (some .boolean) 1) (hE : zEnd κ n (0, 0)) (hk0 : zRk κ (0, 0)) (r0 : Nat) (x1 : Int32) (M : Mem) (h_r0 : zO n r0 11) : X κ 2 emI n (0, 0) 0 [.ref r0, .int x1] [] M (f_X11_seed r0 x1 M) := by
  unfold f_X11_seed
  refine x_iload_n (i := 1) rfl hC (zdk dk_X11_seed 0 rfl) (q := 1) rfl ?_
  refine x_if_ge (tgt := 12) hC (zdk dk_X11_seed 1 rfl) (q := 4) rfl rfl (fun _ => ?_) (fun _ => ?_)
  · refine x_aload_n (i := 0) rfl hC (zdk dk_X11_seed 8 rfl) (q := 13) rfl ?_
    refine x_iload_n (i := 1) rfl hC (zdk dk_X11_seed 9 rfl) (q := 14) rfl ?_
    refine x_putI fl_RX11_98 ⟨rfl, rfl⟩ (by decide) (Or.inl rfl) h_r0 hC (zdk dk_X11_seed 10 rfl) (q := 17) rfl ?_
    refine x_nmM (fun M1 => ?_)
    refine x_iconst (i := 1) c_iconst_1 hC (zdk dk_X11_seed 11 rfl) (q := 18) rfl ?_
    exact x_iret (ty := .boolean) rfl hE hC (zdk dk_X11_seed 12 rfl)
  · refine x_aload_n (i := 0) rfl hC (zdk dk_X11_seed 2 rfl) (q := 5) rfl ?_
    refine x_iconst (i := 5) c_iconst_5 hC (zdk dk_X11_seed 3 rfl) (q := 6) rfl ?_
    refine x_callVi (as := [.int 5]) cb_RX11_105 rfl (by decide) hk0 h_r0 (fun x hx => t_X11_refuse h_r0 x hx) hC (zdk dk_X11_seed 4 rfl) (q := 9) rfl rfl (Nat.le_of_ble_eq_true rfl) (fun z2 => ?_)
    refine x_pop rfl hC (zdk dk_X11_seed 5 rfl) (q := 10) rfl ?_
    refine x_iconst (i := 0) c_iconst_0 hC (zdk dk_X11_seed 6 rfl) (q := 11) rfl ?_
    exact x_iret (ty := .boolean) rfl hE hC (zdk dk_X11_seed 7 rfl)
set_option maxRecDepth 100000 in
set_option maxHeartbeats 4000000 in
theorem t_X11_seed {n : Nat} {r0 : Nat} {x1 : Int32} {M : Mem} (h_r0 : zO n r0 11) (x : (Int32 × Mem)) (hx : f_X11_seed r0 x1 M = some x) (l : Launch) (dC : Nat → ClassId) (dI : Nat → Nat → Nat) (b : zSg) : MT l dC dI b yX11_seed cX11_seed 2 (some .boolean) 1 0 0 n n [.ref r0, .int x1] M (emI x).1 (emI x).2 :=
  MT.ofX (by decide +kernel) rfl (Nat.le_of_ble_eq_true rfl) (fun κ hC hF _ => x_X11_seed hC (zEnd_of hF (Nat.le_refl _) (Nat.le_refl _)) (zRk_of hF (Nat.le_refl _) (Nat.le_refl _)) _ _ _ h_r0) x hx
set_option maxRecDepth 100000 in
def dt_X11_kept : List (Nat × Instr × Nat) := [(0, .iload_n 1, 1), (1, .ifCond .lt 23, 3), (4, .iload_n 1, 1), (5, .aload_n 0, 1), (6, .getfield 61, 3), (9, .invokevirtual 167, 3), (12, .if_icmp .ge 12, 3), (15, .iload_n 2, 1), (16, .ifCond .lt 8, 3), (19, .iload_n 2, 1), (20, .iconst 2, 1), (21, .if_icmp .le 5, 3), (24, .iconst (-1), 1), (25, .ireturn, 1), (26, .aload_n 0, 1), (27, .getfield 61, 3), (30, .iload_n 1, 1), (31, .iload_n 2, 1), (32, .invokevirtual 374, 3), (35, .ireturn, 1)]
set_option maxRecDepth 100000 in
theorem dk_X11_kept : dt_X11_kept.all (fun q => decide (decode cX11_kept q.1 = .ok q.2)) = true := by decide +kernel
set_option maxRecDepth 100000 in
def f_X11_kept_24  (r0 : Nat) (x1 : Int32) (x2 : Int32)  (M : Mem) : Option (Int32 × Mem) := some ((-1), M)
set_option maxRecDepth 100000 in
set_option maxHeartbeats 4000000 in
theorem x_X11_kept_24 {κ : KX} {n : Nat} (hC : CX κ cX11_kept RX11 3 (some .int) 3) (hE : zEnd κ n (0, 0)) (hk0 : zRk κ (0, 0)) {r0 : Nat} {x1 : Int32} {x2 : Int32} (h_r0 : zO n r0 11) (M : Mem) : X κ 3 emI n (0, 0) 24 [.null, .null, .null] [] M (f_X11_kept_24 r0 x1 x2 M) := by
  unfold f_X11_kept_24
  refine x_iconst (i := (-1)) c_iconst_m1 hC (zdk dk_X11_kept 12 rfl) (q := 25) rfl ?_
  exact x_iret (ty := .int) rfl hE hC (zdk dk_X11_kept 13 rfl)
set_option maxRecDepth 100000 in
def f_X11_kept (r0 : Nat) (x1 : Int32) (x2 : Int32) (M : Mem) : Option (Int32 × Mem) := (if x1 < 0 then f_X11_kept_24 r0 x1 x2 M else Option.bind (zrf M r0 8) fun q1 => Option.bind (f_X7_told q1 M) fun z2 => (if z2.1 ≤ x1 then f_X11_kept_24 r0 x1 x2 z2.2 else (if x2 < 0 then f_X11_kept_24 r0 x1 x2 z2.2 else (if x2 ≤ 2 then Option.bind (zrf z2.2 r0 8) fun q3 => Option.bind (f_X7_entry q3 x1 x2 z2.2) fun z4 => some (z4.1, z4.2) else f_X11_kept_24 r0 x1 x2 z2.2))))
set_option maxRecDepth 100000 in
set_option maxHeartbeats 4000000 in
theorem x_X11_kept {κ : KX} {n : Nat} (hC : CX κ cX11_kept RX11 3 (some .int) 3) (hE : zEnd κ n (0, 0)) (hk0 : zRk κ (0, 0)) (r0 : Nat) (x1 : Int32) (x2 : Int32) (M : Mem) (h_r0 : zO n r0 11) : X κ 3 emI n (0, 0) 0 [.ref r0, .int x1, .int x2] [] M (f_X11_kept r0 x1 x2 M) := by
  unfold f_X11_kept
  refine x_iload_n (i := 1) rfl hC (zdk dk_X11_kept 0 rfl) (q := 1) rfl ?_
  refine x_if_lt (tgt := 24) hC (zdk dk_X11_kept 1 rfl) (q := 4) rfl rfl (fun _ => ?_) (fun _ => ?_)
  · refine x_weak (L' := [.null, .null, .null]) ⟨Or.inl rfl, Or.inl rfl, Or.inl rfl, trivial⟩ ?_
    exact x_X11_kept_24 hC hE hk0 h_r0 _
  · refine x_iload_n (i := 1) rfl hC (zdk dk_X11_kept 2 rfl) (q := 5) rfl ?_
    refine x_aload_n (i := 0) rfl hC (zdk dk_X11_kept 3 rfl) (q := 6) rfl ?_
    refine x_getR (k := 7) fl_RX11_61 rfl h_r0 hC (zdk dk_X11_kept 4 rfl) (q := 9) rfl (fun q1 hq1 => ?_)
    refine x_callVi (as := []) cb_RX11_167 rfl (by decide) hk0 hq1 (fun x hx => t_X7_told hq1 x hx) hC (zdk dk_X11_kept 5 rfl) (q := 12) rfl rfl (Nat.le_of_ble_eq_true rfl) (fun z2 => ?_)
    refine x_icmp_ge (tgt := 24) hC (zdk dk_X11_kept 6 rfl) (q := 15) rfl rfl (fun _ => ?_) (fun _ => ?_)
    · refine x_weak (L' := [.null, .null, .null]) ⟨Or.inl rfl, Or.inl rfl, Or.inl rfl, trivial⟩ ?_
      exact x_X11_kept_24 hC hE hk0 h_r0 _
    · refine x_iload_n (i := 2) rfl hC (zdk dk_X11_kept 7 rfl) (q := 16) rfl ?_
      refine x_if_lt (tgt := 24) hC (zdk dk_X11_kept 8 rfl) (q := 19) rfl rfl (fun _ => ?_) (fun _ => ?_)
      · refine x_weak (L' := [.null, .null, .null]) ⟨Or.inl rfl, Or.inl rfl, Or.inl rfl, trivial⟩ ?_
        exact x_X11_kept_24 hC hE hk0 h_r0 _
      · refine x_iload_n (i := 2) rfl hC (zdk dk_X11_kept 9 rfl) (q := 20) rfl ?_
        refine x_iconst (i := 2) c_iconst_2 hC (zdk dk_X11_kept 10 rfl) (q := 21) rfl ?_
        refine x_icmp_le (tgt := 26) hC (zdk dk_X11_kept 11 rfl) (q := 24) rfl rfl (fun _ => ?_) (fun _ => ?_)
        · refine x_aload_n (i := 0) rfl hC (zdk dk_X11_kept 14 rfl) (q := 27) rfl ?_
          refine x_getR (k := 7) fl_RX11_61 rfl h_r0 hC (zdk dk_X11_kept 15 rfl) (q := 30) rfl (fun q3 hq3 => ?_)
          refine x_iload_n (i := 1) rfl hC (zdk dk_X11_kept 16 rfl) (q := 31) rfl ?_
          refine x_iload_n (i := 2) rfl hC (zdk dk_X11_kept 17 rfl) (q := 32) rfl ?_
          refine x_callVi (as := [.int x1, .int x2]) cb_RX11_374 rfl (by decide) hk0 hq3 (fun x hx => t_X7_entry hq3 x hx) hC (zdk dk_X11_kept 18 rfl) (q := 35) rfl rfl (Nat.le_of_ble_eq_true rfl) (fun z4 => ?_)
          exact x_iret (ty := .int) rfl hE hC (zdk dk_X11_kept 19 rfl)
        · refine x_weak (L' := [.null, .null, .null]) ⟨Or.inl rfl, Or.inl rfl, Or.inl rfl, trivial⟩ ?_
          exact x_X11_kept_24 hC hE hk0 h_r0 _
set_option maxRecDepth 100000 in
set_option maxHeartbeats 4000000 in
theorem t_X11_kept {n : Nat} {r0 : Nat} {x1 : Int32} {x2 : Int32} {M : Mem} (h_r0 : zO n r0 11) (x : (Int32 × Mem)) (hx : f_X11_kept r0 x1 x2 M = some x) (l : Launch) (dC : Nat → ClassId) (dI : Nat → Nat → Nat) (b : zSg) : MT l dC dI b yX11_kept cX11_kept 3 (some .int) 3 0 0 n n [.ref r0, .int x1, .int x2] M (emI x).1 (emI x).2 :=
  MT.ofX (by decide +kernel) rfl (Nat.le_of_ble_eq_true rfl) (fun κ hC hF _ => x_X11_kept hC (zEnd_of hF (Nat.le_refl _) (Nat.le_refl _)) (zRk_of hF (Nat.le_refl _) (Nat.le_refl _)) _ _ _ _ h_r0) x hx
set_option maxRecDepth 100000 in
def dt_X11_image : List (Nat × Instr × Nat) := [(0, .aload_n 0, 1), (1, .getfield 75, 3), (4, .aload_n 0, 1), (5, .getfield 42, 3), (8, .aload_n 0, 1), (9, .getfield 82, 3), (12, .aload_n 0, 1), (13, .getfield 120, 3), (16, .ifCond .eq 13, 3), (19, .aload_n 0, 1), (20, .getfield 82, 3), (23, .getfield 159, 3), (26, .goto 4, 3), (29, .iconst 0, 1), (30, .invokevirtual 377, 3), (33, .aload_n 0, 1), (34, .getfield 75, 3), (37, .getfield 381, 3), (40, .ireturn, 1)]
set_option maxRecDepth 100000 in
theorem dk_X11_image : dt_X11_image.all (fun q => decide (decode cX11_image q.1 = .ok q.2)) = true := by decide +kernel
set_option maxRecDepth 100000 in
def f_X11_image_30  (r0 : Nat) (s0 : Nat) (s1 : Nat) (s2 : Nat) (s3 : Int32) (M : Mem) : Option (Int32 × Mem) := Option.bind (f_X4_build s0 s1 s2 s3 M) fun M1 => Option.bind (zrf M1 r0 10) fun q2 => some (zI M1 q2 1, M1)
set_option maxRecDepth 100000 in
set_option maxHeartbeats 4000000 in
theorem x_X11_image_30 {κ : KX} {n : Nat} (hC : CX κ cX11_image RX11 1 (some .int) 3) (hE : zEnd κ n (0, 0)) (hk0 : zRk κ (0, 0)) {r0 : Nat} (h_r0 : zO n r0 11) (s0 : Nat) (s1 : Nat) (s2 : Nat) (s3 : Int32) (M : Mem) (h_s0 : zO n s0 4) (h_s1 : zO n s1 5) (h_s2 : zO n s2 0) : X κ 1 emI n (0, 0) 30 [.ref r0] [.int s3, .ref s2, .ref s1, .ref s0] M (f_X11_image_30 r0 s0 s1 s2 s3 M) := by
  unfold f_X11_image_30
  refine x_callVv (as := [.ref s1, .ref s2, .int s3]) cb_RX11_377 rfl (by decide) hk0 h_s0 (fun x hx => t_X4_build h_s0 h_s1 h_s2 x hx) hC (zdk dk_X11_image 14 rfl) (q := 33) rfl rfl (Nat.le_of_ble_eq_true rfl) (fun M1 => ?_)
  refine x_aload_n (i := 0) rfl hC (zdk dk_X11_image 15 rfl) (q := 34) rfl ?_
  refine x_getR (k := 4) fl_RX11_75 rfl h_r0 hC (zdk dk_X11_image 16 rfl) (q := 37) rfl (fun q2 hq2 => ?_)
  refine x_getI fl_RX11_381 (by decide) hq2 hC (zdk dk_X11_image 17 rfl) (q := 40) rfl ?_
  exact x_iret (ty := .int) rfl hE hC (zdk dk_X11_image 18 rfl)
set_option maxRecDepth 100000 in
def f_X11_image (r0 : Nat) (M : Mem) : Option (Int32 × Mem) := Option.bind (zrf M r0 10) fun q3 => Option.bind (zrf M r0 5) fun q4 => Option.bind (zrf M r0 11) fun q5 => (if zI M r0 14 = 0 then f_X11_image_30 r0 q3 q4 q5 0 M else Option.bind (zrf M r0 11) fun q6 => f_X11_image_30 r0 q3 q4 q5 (zI M q6 9) M)
set_option maxRecDepth 100000 in
set_option maxHeartbeats 4000000 in
theorem x_X11_image {κ : KX} {n : Nat} (hC : CX κ cX11_image RX11 1 (some .int) 3) (hE : zEnd κ n (0, 0)) (hk0 : zRk κ (0, 0)) (r0 : Nat) (M : Mem) (h_r0 : zO n r0 11) : X κ 1 emI n (0, 0) 0 [.ref r0] [] M (f_X11_image r0 M) := by
  unfold f_X11_image
  refine x_aload_n (i := 0) rfl hC (zdk dk_X11_image 0 rfl) (q := 1) rfl ?_
  refine x_getR (k := 4) fl_RX11_75 rfl h_r0 hC (zdk dk_X11_image 1 rfl) (q := 4) rfl (fun q3 hq3 => ?_)
  refine x_aload_n (i := 0) rfl hC (zdk dk_X11_image 2 rfl) (q := 5) rfl ?_
  refine x_getR (k := 5) fl_RX11_42 rfl h_r0 hC (zdk dk_X11_image 3 rfl) (q := 8) rfl (fun q4 hq4 => ?_)
  refine x_aload_n (i := 0) rfl hC (zdk dk_X11_image 4 rfl) (q := 9) rfl ?_
  refine x_getR (k := 0) fl_RX11_82 rfl h_r0 hC (zdk dk_X11_image 5 rfl) (q := 12) rfl (fun q5 hq5 => ?_)
  refine x_aload_n (i := 0) rfl hC (zdk dk_X11_image 6 rfl) (q := 13) rfl ?_
  refine x_getI fl_RX11_120 (by decide) h_r0 hC (zdk dk_X11_image 7 rfl) (q := 16) rfl ?_
  refine x_if_eq (tgt := 29) hC (zdk dk_X11_image 8 rfl) (q := 19) rfl rfl (fun _ => ?_) (fun _ => ?_)
  · refine x_iconst (i := 0) c_iconst_0 hC (zdk dk_X11_image 13 rfl) (q := 30) rfl ?_
    refine x_weak (L' := [.ref r0]) ⟨Or.inr rfl, trivial⟩ ?_
    exact x_X11_image_30 hC hE hk0 h_r0 _ _ _ _ _ hq3 hq4 hq5
  · refine x_aload_n (i := 0) rfl hC (zdk dk_X11_image 9 rfl) (q := 20) rfl ?_
    refine x_getR (k := 0) fl_RX11_82 rfl h_r0 hC (zdk dk_X11_image 10 rfl) (q := 23) rfl (fun q6 hq6 => ?_)
    refine x_getI fl_RX11_159 (by decide) hq6 hC (zdk dk_X11_image 11 rfl) (q := 26) rfl ?_
    refine x_goto (tgt := 30) hC (zdk dk_X11_image 12 rfl) rfl ?_
    refine x_weak (L' := [.ref r0]) ⟨Or.inr rfl, trivial⟩ ?_
    exact x_X11_image_30 hC hE hk0 h_r0 _ _ _ _ _ hq3 hq4 hq5
set_option maxRecDepth 100000 in
set_option maxHeartbeats 4000000 in
theorem t_X11_image {n : Nat} {r0 : Nat} {M : Mem} (h_r0 : zO n r0 11) (x : (Int32 × Mem)) (hx : f_X11_image r0 M = some x) (l : Launch) (dC : Nat → ClassId) (dI : Nat → Nat → Nat) (b : zSg) : MT l dC dI b yX11_image cX11_image 1 (some .int) 3 0 0 n n [.ref r0] M (emI x).1 (emI x).2 :=
  MT.ofX (by decide +kernel) rfl (Nat.le_of_ble_eq_true rfl) (fun κ hC hF _ => x_X11_image hC (zEnd_of hF (Nat.le_refl _) (Nat.le_refl _)) (zRk_of hF (Nat.le_refl _) (Nat.le_refl _)) _ _ h_r0) x hx
set_option maxRecDepth 100000 in
def dt_X11_octet : List (Nat × Instr × Nat) := [(0, .iload_n 1, 1), (1, .ifCond .lt 26, 3), (4, .iload_n 1, 1), (5, .aload_n 0, 1), (6, .getfield 75, 3), (9, .getfield 381, 3), (12, .if_icmp .ge 15, 3), (15, .aload_n 0, 1), (16, .getfield 75, 3), (19, .getfield 382, 3), (22, .iload_n 1, 1), (23, .iaload, 1), (24, .goto 4, 3), (27, .iconst (-1), 1), (28, .ireturn, 1)]
set_option maxRecDepth 100000 in
theorem dk_X11_octet : dt_X11_octet.all (fun q => decide (decode cX11_octet q.1 = .ok q.2)) = true := by decide +kernel
set_option maxRecDepth 100000 in
def f_X11_octet_28  (r0 : Nat) (x1 : Int32) (s0 : Int32) (M : Mem) : Option (Int32 × Mem) := some (s0, M)
set_option maxRecDepth 100000 in
set_option maxHeartbeats 4000000 in
theorem x_X11_octet_28 {κ : KX} {n : Nat} (hC : CX κ cX11_octet RX11 2 (some .int) 0) (hE : zEnd κ n (0, 0)) (hk0 : zRk κ (0, 0)) {r0 : Nat} {x1 : Int32} (h_r0 : zO n r0 11) (s0 : Int32) (M : Mem) : X κ 2 emI n (0, 0) 28 [.null, .null] [.int s0] M (f_X11_octet_28 r0 x1 s0 M) := by
  unfold f_X11_octet_28
  exact x_iret (ty := .int) rfl hE hC (zdk dk_X11_octet 14 rfl)
set_option maxRecDepth 100000 in
def f_X11_octet_27  (r0 : Nat) (x1 : Int32)  (M : Mem) : Option (Int32 × Mem) := f_X11_octet_28 r0 x1 ((-1)) M
set_option maxRecDepth 100000 in
set_option maxHeartbeats 4000000 in
theorem x_X11_octet_27 {κ : KX} {n : Nat} (hC : CX κ cX11_octet RX11 2 (some .int) 0) (hE : zEnd κ n (0, 0)) (hk0 : zRk κ (0, 0)) {r0 : Nat} {x1 : Int32} (h_r0 : zO n r0 11) (M : Mem) : X κ 2 emI n (0, 0) 27 [.null, .null] [] M (f_X11_octet_27 r0 x1 M) := by
  unfold f_X11_octet_27
  refine x_iconst (i := (-1)) c_iconst_m1 hC (zdk dk_X11_octet 13 rfl) (q := 28) rfl ?_
  refine x_weak (L' := [.null, .null]) ⟨Or.inl rfl, Or.inl rfl, trivial⟩ ?_
  exact x_X11_octet_28 hC hE hk0 h_r0 _ _
set_option maxRecDepth 100000 in
def f_X11_octet (r0 : Nat) (x1 : Int32) (M : Mem) : Option (Int32 × Mem) := (if x1 < 0 then f_X11_octet_27 r0 x1 M else Option.bind (zrf M r0 10) fun q1 => (if zI M q1 1 ≤ x1 then f_X11_octet_27 r0 x1 M else Option.bind (zrf M r0 10) fun q2 => Option.bind (zrf M q2 0) fun q3 => Option.bind (zld q3 x1) fun k4 => f_X11_octet_28 r0 x1 (zI M q3 k4) M))
set_option maxRecDepth 100000 in
set_option maxHeartbeats 4000000 in
theorem x_X11_octet {κ : KX} {n : Nat} (hC : CX κ cX11_octet RX11 2 (some .int) 0) (hE : zEnd κ n (0, 0)) (hk0 : zRk κ (0, 0)) (r0 : Nat) (x1 : Int32) (M : Mem) (h_r0 : zO n r0 11) : X κ 2 emI n (0, 0) 0 [.ref r0, .int x1] [] M (f_X11_octet r0 x1 M) := by
  unfold f_X11_octet
  refine x_iload_n (i := 1) rfl hC (zdk dk_X11_octet 0 rfl) (q := 1) rfl ?_
  refine x_if_lt (tgt := 27) hC (zdk dk_X11_octet 1 rfl) (q := 4) rfl rfl (fun _ => ?_) (fun _ => ?_)
  · refine x_weak (L' := [.null, .null]) ⟨Or.inl rfl, Or.inl rfl, trivial⟩ ?_
    exact x_X11_octet_27 hC hE hk0 h_r0 _
  · refine x_iload_n (i := 1) rfl hC (zdk dk_X11_octet 2 rfl) (q := 5) rfl ?_
    refine x_aload_n (i := 0) rfl hC (zdk dk_X11_octet 3 rfl) (q := 6) rfl ?_
    refine x_getR (k := 4) fl_RX11_75 rfl h_r0 hC (zdk dk_X11_octet 4 rfl) (q := 9) rfl (fun q1 hq1 => ?_)
    refine x_getI fl_RX11_381 (by decide) hq1 hC (zdk dk_X11_octet 5 rfl) (q := 12) rfl ?_
    refine x_icmp_ge (tgt := 27) hC (zdk dk_X11_octet 6 rfl) (q := 15) rfl rfl (fun _ => ?_) (fun _ => ?_)
    · refine x_weak (L' := [.null, .null]) ⟨Or.inl rfl, Or.inl rfl, trivial⟩ ?_
      exact x_X11_octet_27 hC hE hk0 h_r0 _
    · refine x_aload_n (i := 0) rfl hC (zdk dk_X11_octet 7 rfl) (q := 16) rfl ?_
      refine x_getR (k := 4) fl_RX11_75 rfl h_r0 hC (zdk dk_X11_octet 8 rfl) (q := 19) rfl (fun q2 hq2 => ?_)
      refine x_getR (k := 20) fl_RX11_382 rfl hq2 hC (zdk dk_X11_octet 9 rfl) (q := 22) rfl (fun q3 hq3 => ?_)
      refine x_iload_n (i := 1) rfl hC (zdk dk_X11_octet 10 rfl) (q := 23) rfl ?_
      refine x_iald hq3 hC (zdk dk_X11_octet 11 rfl) (q := 24) rfl (fun k4 _ => ?_)
      refine x_goto (tgt := 28) hC (zdk dk_X11_octet 12 rfl) rfl ?_
      refine x_weak (L' := [.null, .null]) ⟨Or.inl rfl, Or.inl rfl, trivial⟩ ?_
      exact x_X11_octet_28 hC hE hk0 h_r0 _ _
set_option maxRecDepth 100000 in
set_option maxHeartbeats 4000000 in
theorem t_X11_octet {n : Nat} {r0 : Nat} {x1 : Int32} {M : Mem} (h_r0 : zO n r0 11) (x : (Int32 × Mem)) (hx : f_X11_octet r0 x1 M = some x) (l : Launch) (dC : Nat → ClassId) (dI : Nat → Nat → Nat) (b : zSg) : MT l dC dI b yX11_octet cX11_octet 2 (some .int) 0 0 0 n n [.ref r0, .int x1] M (emI x).1 (emI x).2 :=
  MT.ofX (by decide +kernel) rfl (Nat.le_of_ble_eq_true rfl) (fun κ hC hF _ => x_X11_octet hC (zEnd_of hF (Nat.le_refl _) (Nat.le_refl _)) (zRk_of hF (Nat.le_refl _) (Nat.le_refl _)) _ _ _ h_r0) x hx
set_option maxRecDepth 100000 in
def dt_X11_on : List (Nat × Instr × Nat) := [(0, .aload_n 0, 1), (1, .invokevirtual 112, 3), (4, .istore_n 1, 1), (5, .aload_n 0, 1), (6, .getfield 120, 3), (9, .ifCond .eq 22, 3), (12, .aload_n 0, 1), (13, .getfield 46, 3), (16, .aload_n 0, 1), (17, .getfield 9, 3), (20, .iload_n 1, 1), (21, .aload_n 0, 1), (22, .getfield 82, 3), (25, .invokevirtual 385, 3), (28, .ifCond .ne 11, 3), (31, .aload_n 0, 1), (32, .iconst 5, 1), (33, .invokevirtual 105, 3), (36, .pop, 1), (37, .iconst 0, 1), (38, .ireturn, 1), (39, .aload_n 0, 1), (40, .getfield 42, 3), (43, .aload_n 0, 1), (44, .getfield 46, 3), (47, .invokevirtual 388, 3), (50, .aload_n 0, 1), (51, .getfield 61, 3), (54, .invokevirtual 127, 3), (57, .iconst 1, 1), (58, .ireturn, 1)]
set_option maxRecDepth 100000 in
theorem dk_X11_on : dt_X11_on.all (fun q => decide (decode cX11_on q.1 = .ok q.2)) = true := by decide +kernel
set_option maxRecDepth 100000 in
def f_X11_on_31  (r0 : Nat)  (M : Mem) : Option (Int32 × Mem) := Option.bind (f_X11_refuse r0 5 M) fun z1 => some (0, z1.2)
set_option maxRecDepth 100000 in
set_option maxHeartbeats 4000000 in
theorem x_X11_on_31 {κ : KX} {n : Nat} (hC : CX κ cX11_on RX11 2 (some .boolean) 4) (hE : zEnd κ n (0, 0)) (hk0 : zRk κ (0, 0)) {r0 : Nat} (h_r0 : zO n r0 11) (M : Mem) : X κ 2 emI n (0, 0) 31 [.ref r0, .null] [] M (f_X11_on_31 r0 M) := by
  unfold f_X11_on_31
  refine x_aload_n (i := 0) rfl hC (zdk dk_X11_on 15 rfl) (q := 32) rfl ?_
  refine x_iconst (i := 5) c_iconst_5 hC (zdk dk_X11_on 16 rfl) (q := 33) rfl ?_
  refine x_callVi (as := [.int 5]) cb_RX11_105 rfl (by decide) hk0 h_r0 (fun x hx => t_X11_refuse h_r0 x hx) hC (zdk dk_X11_on 17 rfl) (q := 36) rfl rfl (Nat.le_of_ble_eq_true rfl) (fun z1 => ?_)
  refine x_pop rfl hC (zdk dk_X11_on 18 rfl) (q := 37) rfl ?_
  refine x_iconst (i := 0) c_iconst_0 hC (zdk dk_X11_on 19 rfl) (q := 38) rfl ?_
  exact x_iret (ty := .boolean) rfl hE hC (zdk dk_X11_on 20 rfl)
set_option maxRecDepth 100000 in
def f_X11_on (r0 : Nat) (M : Mem) : Option (Int32 × Mem) := Option.bind (f_X11_takeTape r0 M) fun z2 => (if zI z2.2 r0 14 = 0 then f_X11_on_31 r0 z2.2 else Option.bind (zrf z2.2 r0 6) fun q3 => Option.bind (zrf z2.2 r0 0) fun q4 => Option.bind (zrf z2.2 r0 11) fun q5 => Option.bind (f_X5_takes q3 q4 z2.1 q5 z2.2) fun z6 => (if z6.1 = 0 then f_X11_on_31 r0 z6.2 else Option.bind (zrf z6.2 r0 5) fun q7 => Option.bind (zrf z6.2 r0 6) fun q8 => Option.bind (f_X5_copy q7 q8 z6.2) fun M9 => Option.bind (zrf M9 r0 8) fun q10 => Option.bind (f_X7_clear q10 M9) fun M11 => some (1, M11)))
set_option maxRecDepth 100000 in
set_option maxHeartbeats 4000000 in
theorem x_X11_on {κ : KX} {n : Nat} (hC : CX κ cX11_on RX11 2 (some .boolean) 4) (hE : zEnd κ n (0, 0)) (hk0 : zRk κ (0, 0)) (r0 : Nat) (M : Mem) (h_r0 : zO n r0 11) : X κ 2 emI n (0, 0) 0 [.ref r0, .null] [] M (f_X11_on r0 M) := by
  unfold f_X11_on
  refine x_aload_n (i := 0) rfl hC (zdk dk_X11_on 0 rfl) (q := 1) rfl ?_
  refine x_callVi (as := []) cb_RX11_112 rfl (by decide) hk0 h_r0 (fun x hx => t_X11_takeTape h_r0 x hx) hC (zdk dk_X11_on 1 rfl) (q := 4) rfl rfl (Nat.le_of_ble_eq_true rfl) (fun z2 => ?_)
  refine x_istore_n (i := 1) (L' := [.ref r0, .int z2.1]) (by decide) rfl hC (zdk dk_X11_on 2 rfl) (q := 5) rfl ?_
  refine x_aload_n (i := 0) rfl hC (zdk dk_X11_on 3 rfl) (q := 6) rfl ?_
  refine x_getI fl_RX11_120 (by decide) h_r0 hC (zdk dk_X11_on 4 rfl) (q := 9) rfl ?_
  refine x_if_eq (tgt := 31) hC (zdk dk_X11_on 5 rfl) (q := 12) rfl rfl (fun _ => ?_) (fun _ => ?_)
  · refine x_weak (L' := [.ref r0, .null]) ⟨Or.inr rfl, Or.inl rfl, trivial⟩ ?_
    exact x_X11_on_31 hC hE hk0 h_r0 _
  · refine x_aload_n (i := 0) rfl hC (zdk dk_X11_on 6 rfl) (q := 13) rfl ?_
    refine x_getR (k := 5) fl_RX11_46 rfl h_r0 hC (zdk dk_X11_on 7 rfl) (q := 16) rfl (fun q3 hq3 => ?_)
    refine x_aload_n (i := 0) rfl hC (zdk dk_X11_on 8 rfl) (q := 17) rfl ?_
    refine x_getR (k := 20) fl_RX11_9 rfl h_r0 hC (zdk dk_X11_on 9 rfl) (q := 20) rfl (fun q4 hq4 => ?_)
    refine x_iload_n (i := 1) rfl hC (zdk dk_X11_on 10 rfl) (q := 21) rfl ?_
    refine x_aload_n (i := 0) rfl hC (zdk dk_X11_on 11 rfl) (q := 22) rfl ?_
    refine x_getR (k := 0) fl_RX11_82 rfl h_r0 hC (zdk dk_X11_on 12 rfl) (q := 25) rfl (fun q5 hq5 => ?_)
    refine x_callVi (as := [.ref q4, .int z2.1, .ref q5]) cb_RX11_385 rfl (by decide) hk0 hq3 (fun x hx => t_X5_takes hq3 hq4 hq5 x hx) hC (zdk dk_X11_on 13 rfl) (q := 28) rfl rfl (Nat.le_of_ble_eq_true rfl) (fun z6 => ?_)
    refine x_if_ne (tgt := 39) hC (zdk dk_X11_on 14 rfl) (q := 31) rfl rfl (fun _ => ?_) (fun _ => ?_)
    · refine x_aload_n (i := 0) rfl hC (zdk dk_X11_on 21 rfl) (q := 40) rfl ?_
      refine x_getR (k := 5) fl_RX11_42 rfl h_r0 hC (zdk dk_X11_on 22 rfl) (q := 43) rfl (fun q7 hq7 => ?_)
      refine x_aload_n (i := 0) rfl hC (zdk dk_X11_on 23 rfl) (q := 44) rfl ?_
      refine x_getR (k := 5) fl_RX11_46 rfl h_r0 hC (zdk dk_X11_on 24 rfl) (q := 47) rfl (fun q8 hq8 => ?_)
      refine x_callVv (as := [.ref q8]) cb_RX11_388 rfl (by decide) hk0 hq7 (fun x hx => t_X5_copy hq7 hq8 x hx) hC (zdk dk_X11_on 25 rfl) (q := 50) rfl rfl (Nat.le_of_ble_eq_true rfl) (fun M9 => ?_)
      refine x_aload_n (i := 0) rfl hC (zdk dk_X11_on 26 rfl) (q := 51) rfl ?_
      refine x_getR (k := 7) fl_RX11_61 rfl h_r0 hC (zdk dk_X11_on 27 rfl) (q := 54) rfl (fun q10 hq10 => ?_)
      refine x_callVv (as := []) cb_RX11_127 rfl (by decide) hk0 hq10 (fun x hx => t_X7_clear hq10 x hx) hC (zdk dk_X11_on 28 rfl) (q := 57) rfl rfl (Nat.le_of_ble_eq_true rfl) (fun M11 => ?_)
      refine x_iconst (i := 1) c_iconst_1 hC (zdk dk_X11_on 29 rfl) (q := 58) rfl ?_
      exact x_iret (ty := .boolean) rfl hE hC (zdk dk_X11_on 30 rfl)
    · refine x_weak (L' := [.ref r0, .null]) ⟨Or.inr rfl, Or.inl rfl, trivial⟩ ?_
      exact x_X11_on_31 hC hE hk0 h_r0 _
set_option maxRecDepth 100000 in
set_option maxHeartbeats 4000000 in
theorem t_X11_on {n : Nat} {r0 : Nat} {M : Mem} (h_r0 : zO n r0 11) (x : (Int32 × Mem)) (hx : f_X11_on r0 M = some x) (l : Launch) (dC : Nat → ClassId) (dI : Nat → Nat → Nat) (b : zSg) : MT l dC dI b yX11_on cX11_on 2 (some .boolean) 4 0 0 n n [.ref r0] M (emI x).1 (emI x).2 :=
  MT.ofX (by decide +kernel) rfl (Nat.le_of_ble_eq_true rfl) (fun κ hC hF _ => x_X11_on hC (zEnd_of hF (Nat.le_refl _) (Nat.le_refl _)) (zRk_of hF (Nat.le_refl _) (Nat.le_refl _)) _ _ h_r0) x hx
set_option maxRecDepth 100000 in
def dt_X11_status : List (Nat × Instr × Nat) := [(0, .iload_n 1, 1), (1, .ifCond .lt 18, 3), (4, .iload_n 1, 1), (5, .bipush 6, 2), (7, .if_icmp .ge 12, 3), (10, .aload_n 0, 1), (11, .getfield 13, 3), (14, .iload_n 1, 1), (15, .iaload, 1), (16, .goto 4, 3), (19, .iconst (-1), 1), (20, .ireturn, 1)]
set_option maxRecDepth 100000 in
theorem dk_X11_status : dt_X11_status.all (fun q => decide (decode cX11_status q.1 = .ok q.2)) = true := by decide +kernel
set_option maxRecDepth 100000 in
def f_X11_status_20  (r0 : Nat) (x1 : Int32) (s0 : Int32) (M : Mem) : Option (Int32 × Mem) := some (s0, M)
set_option maxRecDepth 100000 in
set_option maxHeartbeats 4000000 in
theorem x_X11_status_20 {κ : KX} {n : Nat} (hC : CX κ cX11_status RX11 2 (some .int) 0) (hE : zEnd κ n (0, 0)) (hk0 : zRk κ (0, 0)) {r0 : Nat} {x1 : Int32} (h_r0 : zO n r0 11) (s0 : Int32) (M : Mem) : X κ 2 emI n (0, 0) 20 [.null, .null] [.int s0] M (f_X11_status_20 r0 x1 s0 M) := by
  unfold f_X11_status_20
  exact x_iret (ty := .int) rfl hE hC (zdk dk_X11_status 11 rfl)
set_option maxRecDepth 100000 in
def f_X11_status_19  (r0 : Nat) (x1 : Int32)  (M : Mem) : Option (Int32 × Mem) := f_X11_status_20 r0 x1 ((-1)) M
set_option maxRecDepth 100000 in
set_option maxHeartbeats 4000000 in
theorem x_X11_status_19 {κ : KX} {n : Nat} (hC : CX κ cX11_status RX11 2 (some .int) 0) (hE : zEnd κ n (0, 0)) (hk0 : zRk κ (0, 0)) {r0 : Nat} {x1 : Int32} (h_r0 : zO n r0 11) (M : Mem) : X κ 2 emI n (0, 0) 19 [.null, .null] [] M (f_X11_status_19 r0 x1 M) := by
  unfold f_X11_status_19
  refine x_iconst (i := (-1)) c_iconst_m1 hC (zdk dk_X11_status 10 rfl) (q := 20) rfl ?_
  refine x_weak (L' := [.null, .null]) ⟨Or.inl rfl, Or.inl rfl, trivial⟩ ?_
  exact x_X11_status_20 hC hE hk0 h_r0 _ _
set_option maxRecDepth 100000 in
def f_X11_status (r0 : Nat) (x1 : Int32) (M : Mem) : Option (Int32 × Mem) := (if x1 < 0 then f_X11_status_19 r0 x1 M else (if 6 ≤ x1 then f_X11_status_19 r0 x1 M else Option.bind (zrf M r0 1) fun q1 => Option.bind (zld q1 x1) fun k2 => f_X11_status_20 r0 x1 (zI M q1 k2) M))
set_option maxRecDepth 100000 in
set_option maxHeartbeats 4000000 in
theorem x_X11_status {κ : KX} {n : Nat} (hC : CX κ cX11_status RX11 2 (some .int) 0) (hE : zEnd κ n (0, 0)) (hk0 : zRk κ (0, 0)) (r0 : Nat) (x1 : Int32) (M : Mem) (h_r0 : zO n r0 11) : X κ 2 emI n (0, 0) 0 [.ref r0, .int x1] [] M (f_X11_status r0 x1 M) := by
  unfold f_X11_status
  refine x_iload_n (i := 1) rfl hC (zdk dk_X11_status 0 rfl) (q := 1) rfl ?_
  refine x_if_lt (tgt := 19) hC (zdk dk_X11_status 1 rfl) (q := 4) rfl rfl (fun _ => ?_) (fun _ => ?_)
  · refine x_weak (L' := [.null, .null]) ⟨Or.inl rfl, Or.inl rfl, trivial⟩ ?_
    exact x_X11_status_19 hC hE hk0 h_r0 _
  · refine x_iload_n (i := 1) rfl hC (zdk dk_X11_status 2 rfl) (q := 5) rfl ?_
    refine x_bipush (i := 6) c_bipush_6 hC (zdk dk_X11_status 3 rfl) (q := 7) rfl ?_
    refine x_icmp_ge (tgt := 19) hC (zdk dk_X11_status 4 rfl) (q := 10) rfl rfl (fun _ => ?_) (fun _ => ?_)
    · refine x_weak (L' := [.null, .null]) ⟨Or.inl rfl, Or.inl rfl, trivial⟩ ?_
      exact x_X11_status_19 hC hE hk0 h_r0 _
    · refine x_aload_n (i := 0) rfl hC (zdk dk_X11_status 5 rfl) (q := 11) rfl ?_
      refine x_getR (k := 20) fl_RX11_13 rfl h_r0 hC (zdk dk_X11_status 6 rfl) (q := 14) rfl (fun q1 hq1 => ?_)
      refine x_iload_n (i := 1) rfl hC (zdk dk_X11_status 7 rfl) (q := 15) rfl ?_
      refine x_iald hq1 hC (zdk dk_X11_status 8 rfl) (q := 16) rfl (fun k2 _ => ?_)
      refine x_goto (tgt := 20) hC (zdk dk_X11_status 9 rfl) rfl ?_
      refine x_weak (L' := [.null, .null]) ⟨Or.inl rfl, Or.inl rfl, trivial⟩ ?_
      exact x_X11_status_20 hC hE hk0 h_r0 _ _
set_option maxRecDepth 100000 in
set_option maxHeartbeats 4000000 in
theorem t_X11_status {n : Nat} {r0 : Nat} {x1 : Int32} {M : Mem} (h_r0 : zO n r0 11) (x : (Int32 × Mem)) (hx : f_X11_status r0 x1 M = some x) (l : Launch) (dC : Nat → ClassId) (dI : Nat → Nat → Nat) (b : zSg) : MT l dC dI b yX11_status cX11_status 2 (some .int) 0 0 0 n n [.ref r0, .int x1] M (emI x).1 (emI x).2 :=
  MT.ofX (by decide +kernel) rfl (Nat.le_of_ble_eq_true rfl) (fun κ hC hF _ => x_X11_status hC (zEnd_of hF (Nat.le_refl _) (Nat.le_refl _)) (zRk_of hF (Nat.le_refl _) (Nat.le_refl _)) _ _ _ h_r0) x hx
set_option maxRecDepth 100000 in
def dt_X12_is : List (Nat × Instr × Nat) := [(0, .iload_n 0, 1), (1, .iload_n 1, 1), (2, .if_icmp .lt 12, 3), (5, .iload_n 0, 1), (6, .iload_n 2, 1), (7, .if_icmp .gt 7, 3), (10, .iconst 1, 1), (11, .goto 4, 3), (14, .iconst 0, 1), (15, .ireturn, 1)]
set_option maxRecDepth 100000 in
theorem dk_X12_is : dt_X12_is.all (fun q => decide (decode cX12_is q.1 = .ok q.2)) = true := by decide +kernel
set_option maxRecDepth 100000 in
def f_X12_is_15  (x0 : Int32) (x1 : Int32) (x2 : Int32) (s0 : Int32) (M : Mem) : Option (Int32 × Mem) := zbz s0 (some (s0, M))
set_option maxRecDepth 100000 in
set_option maxHeartbeats 4000000 in
theorem x_X12_is_15 {κ : KX} {n : Nat} (hC : CX κ cX12_is RX12 3 (some .boolean) 0) (hE : zEnd κ n (0, 0)) (hk0 : zRk κ (0, 0)) {x0 : Int32} {x1 : Int32} {x2 : Int32} (s0 : Int32) (M : Mem) : X κ 3 emI n (0, 0) 15 [.null, .null, .null] [.int s0] M (f_X12_is_15 x0 x1 x2 s0 M) := by
  unfold f_X12_is_15
  refine x_bz (fun hb1 => ?_)
  exact x_iret (ty := .boolean) hb1.1 hE hC (zdk dk_X12_is 9 rfl)
set_option maxRecDepth 100000 in
def f_X12_is_14  (x0 : Int32) (x1 : Int32) (x2 : Int32)  (M : Mem) : Option (Int32 × Mem) := f_X12_is_15 x0 x1 x2 0 M
set_option maxRecDepth 100000 in
set_option maxHeartbeats 4000000 in
theorem x_X12_is_14 {κ : KX} {n : Nat} (hC : CX κ cX12_is RX12 3 (some .boolean) 0) (hE : zEnd κ n (0, 0)) (hk0 : zRk κ (0, 0)) {x0 : Int32} {x1 : Int32} {x2 : Int32} (M : Mem) : X κ 3 emI n (0, 0) 14 [.null, .null, .null] [] M (f_X12_is_14 x0 x1 x2 M) := by
  unfold f_X12_is_14
  refine x_iconst (i := 0) c_iconst_0 hC (zdk dk_X12_is 8 rfl) (q := 15) rfl ?_
  refine x_weak (L' := [.null, .null, .null]) ⟨Or.inl rfl, Or.inl rfl, Or.inl rfl, trivial⟩ ?_
  exact x_X12_is_15 hC hE hk0 _ _
set_option maxRecDepth 100000 in
def f_X12_is (x0 : Int32) (x1 : Int32) (x2 : Int32) (M : Mem) : Option (Int32 × Mem) := (if x0 < x1 then f_X12_is_14 x0 x1 x2 M else (if x2 < x0 then f_X12_is_14 x0 x1 x2 M else f_X12_is_15 x0 x1 x2 1 M))
set_option maxRecDepth 100000 in
set_option maxHeartbeats 4000000 in
theorem x_X12_is {κ : KX} {n : Nat} (hC : CX κ cX12_is RX12 3 (some .boolean) 0) (hE : zEnd κ n (0, 0)) (hk0 : zRk κ (0, 0)) (x0 : Int32) (x1 : Int32) (x2 : Int32) (M : Mem) : X κ 3 emI n (0, 0) 0 [.int x0, .int x1, .int x2] [] M (f_X12_is x0 x1 x2 M) := by
  unfold f_X12_is
  refine x_iload_n (i := 0) rfl hC (zdk dk_X12_is 0 rfl) (q := 1) rfl ?_
  refine x_iload_n (i := 1) rfl hC (zdk dk_X12_is 1 rfl) (q := 2) rfl ?_
  refine x_icmp_lt (tgt := 14) hC (zdk dk_X12_is 2 rfl) (q := 5) rfl rfl (fun _ => ?_) (fun _ => ?_)
  · refine x_weak (L' := [.null, .null, .null]) ⟨Or.inl rfl, Or.inl rfl, Or.inl rfl, trivial⟩ ?_
    exact x_X12_is_14 hC hE hk0 _
  · refine x_iload_n (i := 0) rfl hC (zdk dk_X12_is 3 rfl) (q := 6) rfl ?_
    refine x_iload_n (i := 2) rfl hC (zdk dk_X12_is 4 rfl) (q := 7) rfl ?_
    refine x_icmp_gt (tgt := 14) hC (zdk dk_X12_is 5 rfl) (q := 10) rfl rfl (fun _ => ?_) (fun _ => ?_)
    · refine x_weak (L' := [.null, .null, .null]) ⟨Or.inl rfl, Or.inl rfl, Or.inl rfl, trivial⟩ ?_
      exact x_X12_is_14 hC hE hk0 _
    · refine x_iconst (i := 1) c_iconst_1 hC (zdk dk_X12_is 6 rfl) (q := 11) rfl ?_
      refine x_goto (tgt := 15) hC (zdk dk_X12_is 7 rfl) rfl ?_
      refine x_weak (L' := [.null, .null, .null]) ⟨Or.inl rfl, Or.inl rfl, Or.inl rfl, trivial⟩ ?_
      exact x_X12_is_15 hC hE hk0 _ _
set_option maxRecDepth 100000 in
set_option maxHeartbeats 4000000 in
theorem t_X12_is {n : Nat} {x0 : Int32} {x1 : Int32} {x2 : Int32} {M : Mem}  (x : (Int32 × Mem)) (hx : f_X12_is x0 x1 x2 M = some x) (l : Launch) (dC : Nat → ClassId) (dI : Nat → Nat → Nat) (b : zSg) : MT l dC dI b yX12_is cX12_is 3 (some .boolean) 0 0 0 n n [.int x0, .int x1, .int x2] M (emI x).1 (emI x).2 :=
  MT.ofX (by decide +kernel) rfl (Nat.le_of_ble_eq_true rfl) (fun κ hC hF _ => x_X12_is hC (zEnd_of hF (Nat.le_refl _) (Nat.le_refl _)) (zRk_of hF (Nat.le_refl _) (Nat.le_refl _)) _ _ _ _ ) x hx
set_option maxRecDepth 100000 in
def dt_X12_put : List (Nat × Instr × Nat) := [(0, .bipush 24, 2), (2, .istore_n 2, 1), (3, .iload_n 2, 1), (4, .ifCond .lt 35, 3), (7, .aload_n 0, 1), (8, .getfield 7, 3), (11, .aload_n 0, 1), (12, .getfield 13, 3), (15, .iload_n 1, 1), (16, .iload_n 2, 1), (17, .ishr, 1), (18, .sipush 255, 3), (21, .iand, 1), (22, .iastore, 1), (23, .aload_n 0, 1), (24, .dup, 1), (25, .getfield 13, 3), (28, .iconst 1, 1), (29, .iadd, 1), (30, .putfield 13, 3), (33, .iinc 2 (-8), 3), (36, .goto (-33), 3), (39, .return_, 1)]
set_option maxRecDepth 100000 in
theorem dk_X12_put : dt_X12_put.all (fun q => decide (decode cX12_put q.1 = .ok q.2)) = true := by decide +kernel
set_option maxRecDepth 100000 in
def f_X12_put_3  (r0 : Nat) (x1 : Int32) : Nat → Int32 → Mem → Option Mem
  | 0, _, _ => none
  | f + 1, x2, M => (if x2 < 0 then some M else Option.bind (zrf M r0 0) fun q1 => Option.bind (zld q1 (zI M r0 1)) fun k2 => Option.bind (some (zsI M q1 k2 ((x1 >>> (x2 &&& 31)) &&& 255))) fun M3 => Option.bind (some (zsI M3 r0 1 ((zI M3 r0 1) + 1))) fun M4 => (f_X12_put_3 r0 x1 f) (x2 + (-8)) M4)
set_option maxRecDepth 100000 in
set_option maxHeartbeats 4000000 in
theorem x_X12_put_3 {κ : KX} {n : Nat} (hC : CX κ cX12_put RX12 3 none 0) (hE : zEnd κ n (0, 0)) (hk0 : zRk κ (0, 0)) {r0 : Nat} {x1 : Int32} (h_r0 : zO n r0 12) : ∀ (f : Nat) (x2 : Int32) (M : Mem), X κ 3 emV n (0, 0) 3 [.ref r0, .int x1, .int x2] [] M (f_X12_put_3 r0 x1 f x2 M) := by
  intro f
  induction f with
  | zero => intros; exact x_none
  | succ f ih =>
    intro x2 M 
    rw [f_X12_put_3]
    refine x_iload_n (i := 2) rfl hC (zdk dk_X12_put 2 rfl) (q := 4) rfl ?_
    refine x_if_lt (tgt := 39) hC (zdk dk_X12_put 3 rfl) (q := 7) rfl rfl (fun _ => ?_) (fun _ => ?_)
    · exact x_vret hE hC (zdk dk_X12_put 22 rfl)
    · refine x_aload_n (i := 0) rfl hC (zdk dk_X12_put 4 rfl) (q := 8) rfl ?_
      refine x_getR (k := 20) fl_RX12_7 rfl h_r0 hC (zdk dk_X12_put 5 rfl) (q := 11) rfl (fun q1 hq1 => ?_)
      refine x_aload_n (i := 0) rfl hC (zdk dk_X12_put 6 rfl) (q := 12) rfl ?_
      refine x_getI fl_RX12_13 (by decide) h_r0 hC (zdk dk_X12_put 7 rfl) (q := 15) rfl ?_
      refine x_iload_n (i := 1) rfl hC (zdk dk_X12_put 8 rfl) (q := 16) rfl ?_
      refine x_iload_n (i := 2) rfl hC (zdk dk_X12_put 9 rfl) (q := 17) rfl ?_
      refine x_ishr hC (zdk dk_X12_put 10 rfl) (q := 18) rfl ?_
      refine x_sipush (i := 255) c_sipush_255 hC (zdk dk_X12_put 11 rfl) (q := 21) rfl ?_
      refine x_iand hC (zdk dk_X12_put 12 rfl) (q := 22) rfl ?_
      refine x_iast hq1 hC (zdk dk_X12_put 13 rfl) (q := 23) rfl (fun k2 _ => ?_)
      refine x_nmM (fun M3 => ?_)
      refine x_aload_n (i := 0) rfl hC (zdk dk_X12_put 14 rfl) (q := 24) rfl ?_
      refine x_dup rfl hC (zdk dk_X12_put 15 rfl) (q := 25) rfl ?_
      refine x_getI fl_RX12_13 (by decide) h_r0 hC (zdk dk_X12_put 16 rfl) (q := 28) rfl ?_
      refine x_iconst (i := 1) c_iconst_1 hC (zdk dk_X12_put 17 rfl) (q := 29) rfl ?_
      refine x_iadd hC (zdk dk_X12_put 18 rfl) (q := 30) rfl ?_
      refine x_putI fl_RX12_13 ⟨rfl, rfl⟩ (by decide) (Or.inl rfl) h_r0 hC (zdk dk_X12_put 19 rfl) (q := 33) rfl ?_
      refine x_nmM (fun M4 => ?_)
      refine x_iinc (i := 2) c_iconst_m8 rfl (by decide) (L' := [.ref r0, .int x1, .int (x2 + (-8))]) rfl hC (zdk dk_X12_put 20 rfl) (q := 36) rfl ?_
      refine x_goto (tgt := 3) hC (zdk dk_X12_put 21 rfl) rfl ?_
      refine x_weak (L' := [.ref r0, .int x1, .int (x2 + (-8))]) ⟨Or.inr rfl, Or.inr rfl, Or.inr rfl, trivial⟩ ?_
      exact ih _ _
set_option maxRecDepth 100000 in
def f_X12_put (r0 : Nat) (x1 : Int32) (M : Mem) : Option Mem := f_X12_put_3 r0 x1 1000000 24 M
set_option maxRecDepth 100000 in
set_option maxHeartbeats 4000000 in
theorem x_X12_put {κ : KX} {n : Nat} (hC : CX κ cX12_put RX12 3 none 0) (hE : zEnd κ n (0, 0)) (hk0 : zRk κ (0, 0)) (r0 : Nat) (x1 : Int32) (M : Mem) (h_r0 : zO n r0 12) : X κ 3 emV n (0, 0) 0 [.ref r0, .int x1, .null] [] M (f_X12_put r0 x1 M) := by
  unfold f_X12_put
  refine x_bipush (i := 24) c_bipush_24 hC (zdk dk_X12_put 0 rfl) (q := 2) rfl ?_
  refine x_istore_n (i := 2) (L' := [.ref r0, .int x1, .int 24]) (by decide) rfl hC (zdk dk_X12_put 1 rfl) (q := 3) rfl ?_
  refine x_weak (L' := [.ref r0, .int x1, .int 24]) ⟨Or.inr rfl, Or.inr rfl, Or.inr rfl, trivial⟩ ?_
  exact x_X12_put_3 hC hE hk0 h_r0 _ _ _
set_option maxRecDepth 100000 in
set_option maxHeartbeats 4000000 in
theorem t_X12_put {n : Nat} {r0 : Nat} {x1 : Int32} {M : Mem} (h_r0 : zO n r0 12) (x : Mem) (hx : f_X12_put r0 x1 M = some x) (l : Launch) (dC : Nat → ClassId) (dI : Nat → Nat → Nat) (b : zSg) : MT l dC dI b yX12_put cX12_put 3 none 0 0 0 n n [.ref r0, .int x1] M (emV x).1 (emV x).2 :=
  MT.ofX (by decide +kernel) rfl (Nat.le_of_ble_eq_true rfl) (fun κ hC hF _ => x_X12_put hC (zEnd_of hF (Nat.le_refl _) (Nat.le_refl _)) (zRk_of hF (Nat.le_refl _) (Nat.le_refl _)) _ _ _ h_r0) x hx
set_option maxRecDepth 100000 in
def dt_X12_refuses : List (Nat × Instr × Nat) := [(0, .aload_n 0, 1), (1, .getfield 123, 3), (4, .iload_n 1, 1), (5, .dup2, 1), (6, .iaload, 1), (7, .iconst 1, 1), (8, .iadd, 1), (9, .iastore, 1), (10, .iconst (-1), 1), (11, .ireturn, 1)]
set_option maxRecDepth 100000 in
theorem dk_X12_refuses : dt_X12_refuses.all (fun q => decide (decode cX12_refuses q.1 = .ok q.2)) = true := by decide +kernel
set_option maxRecDepth 100000 in
def f_X12_refuses (r0 : Nat) (x1 : Int32) (M : Mem) : Option (Int32 × Mem) := Option.bind (zrf M r0 36) fun q1 => Option.bind (zld q1 x1) fun k2 => Option.bind (zld q1 x1) fun k3 => Option.bind (some (zsI M q1 k3 ((zI M q1 k2) + 1))) fun M4 => some ((-1), M4)
set_option maxRecDepth 100000 in
set_option maxHeartbeats 4000000 in
theorem x_X12_refuses {κ : KX} {n : Nat} (hC : CX κ cX12_refuses RX12 2 (some .int) 0) (hE : zEnd κ n (0, 0)) (hk0 : zRk κ (0, 0)) (r0 : Nat) (x1 : Int32) (M : Mem) (h_r0 : zO n r0 12) : X κ 2 emI n (0, 0) 0 [.ref r0, .int x1] [] M (f_X12_refuses r0 x1 M) := by
  unfold f_X12_refuses
  refine x_aload_n (i := 0) rfl hC (zdk dk_X12_refuses 0 rfl) (q := 1) rfl ?_
  refine x_getR (k := 20) fl_RX12_123 rfl h_r0 hC (zdk dk_X12_refuses 1 rfl) (q := 4) rfl (fun q1 hq1 => ?_)
  refine x_iload_n (i := 1) rfl hC (zdk dk_X12_refuses 2 rfl) (q := 5) rfl ?_
  refine x_dup2 rfl rfl hC (zdk dk_X12_refuses 3 rfl) (q := 6) rfl ?_
  refine x_iald hq1 hC (zdk dk_X12_refuses 4 rfl) (q := 7) rfl (fun k2 _ => ?_)
  refine x_iconst (i := 1) c_iconst_1 hC (zdk dk_X12_refuses 5 rfl) (q := 8) rfl ?_
  refine x_iadd hC (zdk dk_X12_refuses 6 rfl) (q := 9) rfl ?_
  refine x_iast hq1 hC (zdk dk_X12_refuses 7 rfl) (q := 10) rfl (fun k3 _ => ?_)
  refine x_nmM (fun M4 => ?_)
  refine x_iconst (i := (-1)) c_iconst_m1 hC (zdk dk_X12_refuses 8 rfl) (q := 11) rfl ?_
  exact x_iret (ty := .int) rfl hE hC (zdk dk_X12_refuses 9 rfl)
set_option maxRecDepth 100000 in
set_option maxHeartbeats 4000000 in
theorem t_X12_refuses {n : Nat} {r0 : Nat} {x1 : Int32} {M : Mem} (h_r0 : zO n r0 12) (x : (Int32 × Mem)) (hx : f_X12_refuses r0 x1 M = some x) (l : Launch) (dC : Nat → ClassId) (dI : Nat → Nat → Nat) (b : zSg) : MT l dC dI b yX12_refuses cX12_refuses 2 (some .int) 0 0 0 n n [.ref r0, .int x1] M (emI x).1 (emI x).2 :=
  MT.ofX (by decide +kernel) rfl (Nat.le_of_ble_eq_true rfl) (fun κ hC hF _ => x_X12_refuses hC (zEnd_of hF (Nat.le_refl _) (Nat.le_refl _)) (zRk_of hF (Nat.le_refl _) (Nat.le_refl _)) _ _ _ h_r0) x hx
set_option maxRecDepth 100000 in
def dt_X12_feed : List (Nat × Instr × Nat) := [(0, .aload_n 0, 1), (1, .getfield 13, 3), (4, .bipush 20, 2), (6, .iadd, 1), (7, .sipush 1600, 3), (10, .if_icmp .le 9, 3), (13, .aload_n 0, 1), (14, .iconst 0, 1), (15, .invokevirtual 243, 3), (18, .ireturn, 1), (19, .aload_n 0, 1), (20, .iload_n 1, 1), (21, .invokevirtual 247, 3), (24, .aload_n 0, 1), (25, .iload_n 2, 1), (26, .invokevirtual 247, 3), (29, .aload_n 0, 1), (30, .iload_n 3, 1), (31, .invokevirtual 247, 3), (34, .aload_n 0, 1), (35, .iload 4, 2), (37, .invokevirtual 247, 3), (40, .aload_n 0, 1), (41, .iload 5, 2), (43, .invokevirtual 247, 3), (46, .aload_n 0, 1), (47, .getfield 13, 3), (50, .ireturn, 1)]
set_option maxRecDepth 100000 in
theorem dk_X12_feed : dt_X12_feed.all (fun q => decide (decode cX12_feed q.1 = .ok q.2)) = true := by decide +kernel
set_option maxRecDepth 100000 in
def f_X12_feed (r0 : Nat) (x1 : Int32) (x2 : Int32) (x3 : Int32) (x4 : Int32) (x5 : Int32) (M : Mem) : Option (Int32 × Mem) := (if (zI M r0 1) + 20 ≤ 1600 then Option.bind (f_X12_put r0 x1 M) fun M1 => Option.bind (f_X12_put r0 x2 M1) fun M2 => Option.bind (f_X12_put r0 x3 M2) fun M3 => Option.bind (f_X12_put r0 x4 M3) fun M4 => Option.bind (f_X12_put r0 x5 M4) fun M5 => some (zI M5 r0 1, M5) else Option.bind (f_X12_refuses r0 0 M) fun z6 => some (z6.1, z6.2))
set_option maxRecDepth 100000 in
set_option maxHeartbeats 4000000 in
theorem x_X12_feed {κ : KX} {n : Nat} (hC : CX κ cX12_feed RX12 6 (some .int) 1) (hE : zEnd κ n (0, 0)) (hk0 : zRk κ (0, 0)) (r0 : Nat) (x1 : Int32) (x2 : Int32) (x3 : Int32) (x4 : Int32) (x5 : Int32) (M : Mem) (h_r0 : zO n r0 12) : X κ 6 emI n (0, 0) 0 [.ref r0, .int x1, .int x2, .int x3, .int x4, .int x5] [] M (f_X12_feed r0 x1 x2 x3 x4 x5 M) := by
  unfold f_X12_feed
  refine x_aload_n (i := 0) rfl hC (zdk dk_X12_feed 0 rfl) (q := 1) rfl ?_
  refine x_getI fl_RX12_13 (by decide) h_r0 hC (zdk dk_X12_feed 1 rfl) (q := 4) rfl ?_
  refine x_bipush (i := 20) c_bipush_20 hC (zdk dk_X12_feed 2 rfl) (q := 6) rfl ?_
  refine x_iadd hC (zdk dk_X12_feed 3 rfl) (q := 7) rfl ?_
  refine x_sipush (i := 1600) c_sipush_1600 hC (zdk dk_X12_feed 4 rfl) (q := 10) rfl ?_
  refine x_icmp_le (tgt := 19) hC (zdk dk_X12_feed 5 rfl) (q := 13) rfl rfl (fun _ => ?_) (fun _ => ?_)
  · refine x_aload_n (i := 0) rfl hC (zdk dk_X12_feed 10 rfl) (q := 20) rfl ?_
    refine x_iload_n (i := 1) rfl hC (zdk dk_X12_feed 11 rfl) (q := 21) rfl ?_
    refine x_callVv (as := [.int x1]) cb_RX12_247 rfl (by decide) hk0 h_r0 (fun x hx => t_X12_put h_r0 x hx) hC (zdk dk_X12_feed 12 rfl) (q := 24) rfl rfl (Nat.le_of_ble_eq_true rfl) (fun M1 => ?_)
    refine x_aload_n (i := 0) rfl hC (zdk dk_X12_feed 13 rfl) (q := 25) rfl ?_
    refine x_iload_n (i := 2) rfl hC (zdk dk_X12_feed 14 rfl) (q := 26) rfl ?_
    refine x_callVv (as := [.int x2]) cb_RX12_247 rfl (by decide) hk0 h_r0 (fun x hx => t_X12_put h_r0 x hx) hC (zdk dk_X12_feed 15 rfl) (q := 29) rfl rfl (Nat.le_of_ble_eq_true rfl) (fun M2 => ?_)
    refine x_aload_n (i := 0) rfl hC (zdk dk_X12_feed 16 rfl) (q := 30) rfl ?_
    refine x_iload_n (i := 3) rfl hC (zdk dk_X12_feed 17 rfl) (q := 31) rfl ?_
    refine x_callVv (as := [.int x3]) cb_RX12_247 rfl (by decide) hk0 h_r0 (fun x hx => t_X12_put h_r0 x hx) hC (zdk dk_X12_feed 18 rfl) (q := 34) rfl rfl (Nat.le_of_ble_eq_true rfl) (fun M3 => ?_)
    refine x_aload_n (i := 0) rfl hC (zdk dk_X12_feed 19 rfl) (q := 35) rfl ?_
    refine x_iload (i := 4) rfl hC (zdk dk_X12_feed 20 rfl) (q := 37) rfl ?_
    refine x_callVv (as := [.int x4]) cb_RX12_247 rfl (by decide) hk0 h_r0 (fun x hx => t_X12_put h_r0 x hx) hC (zdk dk_X12_feed 21 rfl) (q := 40) rfl rfl (Nat.le_of_ble_eq_true rfl) (fun M4 => ?_)
    refine x_aload_n (i := 0) rfl hC (zdk dk_X12_feed 22 rfl) (q := 41) rfl ?_
    refine x_iload (i := 5) rfl hC (zdk dk_X12_feed 23 rfl) (q := 43) rfl ?_
    refine x_callVv (as := [.int x5]) cb_RX12_247 rfl (by decide) hk0 h_r0 (fun x hx => t_X12_put h_r0 x hx) hC (zdk dk_X12_feed 24 rfl) (q := 46) rfl rfl (Nat.le_of_ble_eq_true rfl) (fun M5 => ?_)
    refine x_aload_n (i := 0) rfl hC (zdk dk_X12_feed 25 rfl) (q := 47) rfl ?_
    refine x_getI fl_RX12_13 (by decide) h_r0 hC (zdk dk_X12_feed 26 rfl) (q := 50) rfl ?_
    exact x_iret (ty := .int) rfl hE hC (zdk dk_X12_feed 27 rfl)
  · refine x_aload_n (i := 0) rfl hC (zdk dk_X12_feed 6 rfl) (q := 14) rfl ?_
    refine x_iconst (i := 0) c_iconst_0 hC (zdk dk_X12_feed 7 rfl) (q := 15) rfl ?_
    refine x_callVi (as := [.int 0]) cb_RX12_243 rfl (by decide) hk0 h_r0 (fun x hx => t_X12_refuses h_r0 x hx) hC (zdk dk_X12_feed 8 rfl) (q := 18) rfl rfl (Nat.le_of_ble_eq_true rfl) (fun z6 => ?_)
    exact x_iret (ty := .int) rfl hE hC (zdk dk_X12_feed 9 rfl)
set_option maxRecDepth 100000 in
set_option maxHeartbeats 4000000 in
theorem t_X12_feed {n : Nat} {r0 : Nat} {x1 : Int32} {x2 : Int32} {x3 : Int32} {x4 : Int32} {x5 : Int32} {M : Mem} (h_r0 : zO n r0 12) (x : (Int32 × Mem)) (hx : f_X12_feed r0 x1 x2 x3 x4 x5 M = some x) (l : Launch) (dC : Nat → ClassId) (dI : Nat → Nat → Nat) (b : zSg) : MT l dC dI b yX12_feed cX12_feed 6 (some .int) 1 0 0 n n [.ref r0, .int x1, .int x2, .int x3, .int x4, .int x5] M (emI x).1 (emI x).2 :=
  MT.ofX (by decide +kernel) rfl (Nat.le_of_ble_eq_true rfl) (fun κ hC hF _ => x_X12_feed hC (zEnd_of hF (Nat.le_refl _) (Nat.le_refl _)) (zRk_of hF (Nat.le_refl _) (Nat.le_refl _)) _ _ _ _ _ _ _ h_r0) x hx
set_option maxRecDepth 100000 in
def dt_X12_end : List (Nat × Instr × Nat) := [(0, .iload_n 1, 1), (1, .ifCond .lt 11, 3), (4, .iload_n 1, 1), (5, .aload_n 0, 1), (6, .getfield 13, 3), (9, .if_icmp .le 17, 3), (12, .aload_n 0, 1), (13, .iconst 0, 1), (14, .invokevirtual 243, 3), (17, .ifCond .lt 7, 3), (20, .iconst 1, 1), (21, .goto 4, 3), (24, .iconst 0, 1), (25, .ireturn, 1), (26, .aload_n 0, 1), (27, .iload_n 1, 1), (28, .putfield 13, 3), (31, .iconst 1, 1), (32, .ireturn, 1)]
set_option maxRecDepth 100000 in
theorem dk_X12_end : dt_X12_end.all (fun q => decide (decode cX12_end q.1 = .ok q.2)) = true := by decide +kernel
set_option maxRecDepth 100000 in
def f_X12_end_25  (r0 : Nat) (x1 : Int32) (s0 : Int32) (M : Mem) : Option (Int32 × Mem) := zbz s0 (some (s0, M))
set_option maxRecDepth 100000 in
set_option maxHeartbeats 4000000 in
theorem x_X12_end_25 {κ : KX} {n : Nat} (hC : CX κ cX12_end RX12 2 (some .boolean) 1) (hE : zEnd κ n (0, 0)) (hk0 : zRk κ (0, 0)) {r0 : Nat} {x1 : Int32} (h_r0 : zO n r0 12) (s0 : Int32) (M : Mem) : X κ 2 emI n (0, 0) 25 [.null, .null] [.int s0] M (f_X12_end_25 r0 x1 s0 M) := by
  unfold f_X12_end_25
  refine x_bz (fun hb1 => ?_)
  exact x_iret (ty := .boolean) hb1.1 hE hC (zdk dk_X12_end 13 rfl)
set_option maxRecDepth 100000 in
def f_X12_end_12  (r0 : Nat) (x1 : Int32)  (M : Mem) : Option (Int32 × Mem) := Option.bind (f_X12_refuses r0 0 M) fun z2 => (if z2.1 < 0 then f_X12_end_25 r0 x1 0 z2.2 else f_X12_end_25 r0 x1 1 z2.2)
set_option maxRecDepth 100000 in
set_option maxHeartbeats 4000000 in
theorem x_X12_end_12 {κ : KX} {n : Nat} (hC : CX κ cX12_end RX12 2 (some .boolean) 1) (hE : zEnd κ n (0, 0)) (hk0 : zRk κ (0, 0)) {r0 : Nat} {x1 : Int32} (h_r0 : zO n r0 12) (M : Mem) : X κ 2 emI n (0, 0) 12 [.ref r0, .null] [] M (f_X12_end_12 r0 x1 M) := by
  unfold f_X12_end_12
  refine x_aload_n (i := 0) rfl hC (zdk dk_X12_end 6 rfl) (q := 13) rfl ?_
  refine x_iconst (i := 0) c_iconst_0 hC (zdk dk_X12_end 7 rfl) (q := 14) rfl ?_
  refine x_callVi (as := [.int 0]) cb_RX12_243 rfl (by decide) hk0 h_r0 (fun x hx => t_X12_refuses h_r0 x hx) hC (zdk dk_X12_end 8 rfl) (q := 17) rfl rfl (Nat.le_of_ble_eq_true rfl) (fun z2 => ?_)
  refine x_if_lt (tgt := 24) hC (zdk dk_X12_end 9 rfl) (q := 20) rfl rfl (fun _ => ?_) (fun _ => ?_)
  · refine x_iconst (i := 0) c_iconst_0 hC (zdk dk_X12_end 12 rfl) (q := 25) rfl ?_
    refine x_weak (L' := [.null, .null]) ⟨Or.inl rfl, Or.inl rfl, trivial⟩ ?_
    exact x_X12_end_25 hC hE hk0 h_r0 _ _
  · refine x_iconst (i := 1) c_iconst_1 hC (zdk dk_X12_end 10 rfl) (q := 21) rfl ?_
    refine x_goto (tgt := 25) hC (zdk dk_X12_end 11 rfl) rfl ?_
    refine x_weak (L' := [.null, .null]) ⟨Or.inl rfl, Or.inl rfl, trivial⟩ ?_
    exact x_X12_end_25 hC hE hk0 h_r0 _ _
set_option maxRecDepth 100000 in
def f_X12_end (r0 : Nat) (x1 : Int32) (M : Mem) : Option (Int32 × Mem) := (if x1 < 0 then f_X12_end_12 r0 x1 M else (if x1 ≤ zI M r0 1 then Option.bind (some (zsI M r0 1 x1)) fun M3 => some (1, M3) else f_X12_end_12 r0 x1 M))
set_option maxRecDepth 100000 in
set_option maxHeartbeats 4000000 in
theorem x_X12_end {κ : KX} {n : Nat} (hC : CX κ cX12_end RX12 2 (some .boolean) 1) (hE : zEnd κ n (0, 0)) (hk0 : zRk κ (0, 0)) (r0 : Nat) (x1 : Int32) (M : Mem) (h_r0 : zO n r0 12) : X κ 2 emI n (0, 0) 0 [.ref r0, .int x1] [] M (f_X12_end r0 x1 M) := by
  unfold f_X12_end
  refine x_iload_n (i := 1) rfl hC (zdk dk_X12_end 0 rfl) (q := 1) rfl ?_
  refine x_if_lt (tgt := 12) hC (zdk dk_X12_end 1 rfl) (q := 4) rfl rfl (fun _ => ?_) (fun _ => ?_)
  · refine x_weak (L' := [.ref r0, .null]) ⟨Or.inr rfl, Or.inl rfl, trivial⟩ ?_
    exact x_X12_end_12 hC hE hk0 h_r0 _
  · refine x_iload_n (i := 1) rfl hC (zdk dk_X12_end 2 rfl) (q := 5) rfl ?_
    refine x_aload_n (i := 0) rfl hC (zdk dk_X12_end 3 rfl) (q := 6) rfl ?_
    refine x_getI fl_RX12_13 (by decide) h_r0 hC (zdk dk_X12_end 4 rfl) (q := 9) rfl ?_
    refine x_icmp_le (tgt := 26) hC (zdk dk_X12_end 5 rfl) (q := 12) rfl rfl (fun _ => ?_) (fun _ => ?_)
    · refine x_aload_n (i := 0) rfl hC (zdk dk_X12_end 14 rfl) (q := 27) rfl ?_
      refine x_iload_n (i := 1) rfl hC (zdk dk_X12_end 15 rfl) (q := 28) rfl ?_
      refine x_putI fl_RX12_13 ⟨rfl, rfl⟩ (by decide) (Or.inl rfl) h_r0 hC (zdk dk_X12_end 16 rfl) (q := 31) rfl ?_
      refine x_nmM (fun M3 => ?_)
      refine x_iconst (i := 1) c_iconst_1 hC (zdk dk_X12_end 17 rfl) (q := 32) rfl ?_
      exact x_iret (ty := .boolean) rfl hE hC (zdk dk_X12_end 18 rfl)
    · refine x_weak (L' := [.ref r0, .null]) ⟨Or.inr rfl, Or.inl rfl, trivial⟩ ?_
      exact x_X12_end_12 hC hE hk0 h_r0 _
set_option maxRecDepth 100000 in
set_option maxHeartbeats 4000000 in
theorem t_X12_end {n : Nat} {r0 : Nat} {x1 : Int32} {M : Mem} (h_r0 : zO n r0 12) (x : (Int32 × Mem)) (hx : f_X12_end r0 x1 M = some x) (l : Launch) (dC : Nat → ClassId) (dI : Nat → Nat → Nat) (b : zSg) : MT l dC dI b yX12_end cX12_end 2 (some .boolean) 1 0 0 n n [.ref r0, .int x1] M (emI x).1 (emI x).2 :=
  MT.ofX (by decide +kernel) rfl (Nat.le_of_ble_eq_true rfl) (fun κ hC hF _ => x_X12_end hC (zEnd_of hF (Nat.le_refl _) (Nat.le_refl _)) (zRk_of hF (Nat.le_refl _) (Nat.le_refl _)) _ _ _ h_r0) x hx
set_option maxRecDepth 100000 in
def dt_X12_blame : List (Nat × Instr × Nat) := [(0, .aload_n 0, 1), (1, .getfield 36, 3), (4, .ifCond .le 4, 3), (7, .return_, 1), (8, .aload_n 0, 1), (9, .iload_n 1, 1), (10, .putfield 36, 3), (13, .aload_n 0, 1), (14, .iload_n 2, 1), (15, .putfield 39, 3), (18, .return_, 1)]
set_option maxRecDepth 100000 in
theorem dk_X12_blame : dt_X12_blame.all (fun q => decide (decode cX12_blame q.1 = .ok q.2)) = true := by decide +kernel
set_option maxRecDepth 100000 in
def f_X12_blame (r0 : Nat) (x1 : Int32) (x2 : Int32) (M : Mem) : Option Mem := (if zI M r0 8 ≤ 0 then Option.bind (some (zsI M r0 8 x1)) fun M1 => Option.bind (some (zsI M1 r0 9 x2)) fun M2 => some M2 else some M)
set_option maxRecDepth 100000 in
set_option maxHeartbeats 4000000 in
theorem x_X12_blame {κ : KX} {n : Nat} (hC : CX κ cX12_blame RX12 3 none 0) (hE : zEnd κ n (0, 0)) (hk0 : zRk κ (0, 0)) (r0 : Nat) (x1 : Int32) (x2 : Int32) (M : Mem) (h_r0 : zO n r0 12) : X κ 3 emV n (0, 0) 0 [.ref r0, .int x1, .int x2] [] M (f_X12_blame r0 x1 x2 M) := by
  unfold f_X12_blame
  refine x_aload_n (i := 0) rfl hC (zdk dk_X12_blame 0 rfl) (q := 1) rfl ?_
  refine x_getI fl_RX12_36 (by decide) h_r0 hC (zdk dk_X12_blame 1 rfl) (q := 4) rfl ?_
  refine x_if_le (tgt := 8) hC (zdk dk_X12_blame 2 rfl) (q := 7) rfl rfl (fun _ => ?_) (fun _ => ?_)
  · refine x_aload_n (i := 0) rfl hC (zdk dk_X12_blame 4 rfl) (q := 9) rfl ?_
    refine x_iload_n (i := 1) rfl hC (zdk dk_X12_blame 5 rfl) (q := 10) rfl ?_
    refine x_putI fl_RX12_36 ⟨rfl, rfl⟩ (by decide) (Or.inl rfl) h_r0 hC (zdk dk_X12_blame 6 rfl) (q := 13) rfl ?_
    refine x_nmM (fun M1 => ?_)
    refine x_aload_n (i := 0) rfl hC (zdk dk_X12_blame 7 rfl) (q := 14) rfl ?_
    refine x_iload_n (i := 2) rfl hC (zdk dk_X12_blame 8 rfl) (q := 15) rfl ?_
    refine x_putI fl_RX12_39 ⟨rfl, rfl⟩ (by decide) (Or.inl rfl) h_r0 hC (zdk dk_X12_blame 9 rfl) (q := 18) rfl ?_
    refine x_nmM (fun M2 => ?_)
    exact x_vret hE hC (zdk dk_X12_blame 10 rfl)
  · exact x_vret hE hC (zdk dk_X12_blame 3 rfl)
set_option maxRecDepth 100000 in
set_option maxHeartbeats 4000000 in
theorem t_X12_blame {n : Nat} {r0 : Nat} {x1 : Int32} {x2 : Int32} {M : Mem} (h_r0 : zO n r0 12) (x : Mem) (hx : f_X12_blame r0 x1 x2 M = some x) (l : Launch) (dC : Nat → ClassId) (dI : Nat → Nat → Nat) (b : zSg) : MT l dC dI b yX12_blame cX12_blame 3 none 0 0 0 n n [.ref r0, .int x1, .int x2] M (emV x).1 (emV x).2 :=
  MT.ofX (by decide +kernel) rfl (Nat.le_of_ble_eq_true rfl) (fun κ hC hF _ => x_X12_blame hC (zEnd_of hF (Nat.le_refl _) (Nat.le_refl _)) (zRk_of hF (Nat.le_refl _) (Nat.le_refl _)) _ _ _ _ h_r0) x hx
set_option maxRecDepth 100000 in
def dt_X12_isLetter : List (Nat × Instr × Nat) := [(0, .iload_n 0, 1), (1, .bipush 97, 2), (3, .if_icmp .lt 13, 3), (6, .iload_n 0, 1), (7, .bipush 122, 2), (9, .if_icmp .gt 7, 3), (12, .iconst 1, 1), (13, .goto 4, 3), (16, .iconst 0, 1), (17, .ireturn, 1)]
set_option maxRecDepth 100000 in
theorem dk_X12_isLetter : dt_X12_isLetter.all (fun q => decide (decode cX12_isLetter q.1 = .ok q.2)) = true := by decide +kernel
set_option maxRecDepth 100000 in
def f_X12_isLetter_17  (x0 : Int32) (s0 : Int32) (M : Mem) : Option (Int32 × Mem) := zbz s0 (some (s0, M))
set_option maxRecDepth 100000 in
set_option maxHeartbeats 4000000 in
theorem x_X12_isLetter_17 {κ : KX} {n : Nat} (hC : CX κ cX12_isLetter RX12 1 (some .boolean) 0) (hE : zEnd κ n (0, 0)) (hk0 : zRk κ (0, 0)) {x0 : Int32} (s0 : Int32) (M : Mem) : X κ 1 emI n (0, 0) 17 [.null] [.int s0] M (f_X12_isLetter_17 x0 s0 M) := by
  unfold f_X12_isLetter_17
  refine x_bz (fun hb1 => ?_)
  exact x_iret (ty := .boolean) hb1.1 hE hC (zdk dk_X12_isLetter 9 rfl)
set_option maxRecDepth 100000 in
def f_X12_isLetter_16  (x0 : Int32)  (M : Mem) : Option (Int32 × Mem) := f_X12_isLetter_17 x0 0 M
set_option maxRecDepth 100000 in
set_option maxHeartbeats 4000000 in
theorem x_X12_isLetter_16 {κ : KX} {n : Nat} (hC : CX κ cX12_isLetter RX12 1 (some .boolean) 0) (hE : zEnd κ n (0, 0)) (hk0 : zRk κ (0, 0)) {x0 : Int32} (M : Mem) : X κ 1 emI n (0, 0) 16 [.null] [] M (f_X12_isLetter_16 x0 M) := by
  unfold f_X12_isLetter_16
  refine x_iconst (i := 0) c_iconst_0 hC (zdk dk_X12_isLetter 8 rfl) (q := 17) rfl ?_
  refine x_weak (L' := [.null]) ⟨Or.inl rfl, trivial⟩ ?_
  exact x_X12_isLetter_17 hC hE hk0 _ _
set_option maxRecDepth 100000 in
def f_X12_isLetter (x0 : Int32) (M : Mem) : Option (Int32 × Mem) := (if x0 < 97 then f_X12_isLetter_16 x0 M else (if 122 < x0 then f_X12_isLetter_16 x0 M else f_X12_isLetter_17 x0 1 M))
set_option maxRecDepth 100000 in
set_option maxHeartbeats 4000000 in
theorem x_X12_isLetter {κ : KX} {n : Nat} (hC : CX κ cX12_isLetter RX12 1 (some .boolean) 0) (hE : zEnd κ n (0, 0)) (hk0 : zRk κ (0, 0)) (x0 : Int32) (M : Mem) : X κ 1 emI n (0, 0) 0 [.int x0] [] M (f_X12_isLetter x0 M) := by
  unfold f_X12_isLetter
  refine x_iload_n (i := 0) rfl hC (zdk dk_X12_isLetter 0 rfl) (q := 1) rfl ?_
  refine x_bipush (i := 97) c_bipush_97 hC (zdk dk_X12_isLetter 1 rfl) (q := 3) rfl ?_
  refine x_icmp_lt (tgt := 16) hC (zdk dk_X12_isLetter 2 rfl) (q := 6) rfl rfl (fun _ => ?_) (fun _ => ?_)
  · refine x_weak (L' := [.null]) ⟨Or.inl rfl, trivial⟩ ?_
    exact x_X12_isLetter_16 hC hE hk0 _
  · refine x_iload_n (i := 0) rfl hC (zdk dk_X12_isLetter 3 rfl) (q := 7) rfl ?_
    refine x_bipush (i := 122) c_bipush_122 hC (zdk dk_X12_isLetter 4 rfl) (q := 9) rfl ?_
    refine x_icmp_gt (tgt := 16) hC (zdk dk_X12_isLetter 5 rfl) (q := 12) rfl rfl (fun _ => ?_) (fun _ => ?_)
    · refine x_weak (L' := [.null]) ⟨Or.inl rfl, trivial⟩ ?_
      exact x_X12_isLetter_16 hC hE hk0 _
    · refine x_iconst (i := 1) c_iconst_1 hC (zdk dk_X12_isLetter 6 rfl) (q := 13) rfl ?_
      refine x_goto (tgt := 17) hC (zdk dk_X12_isLetter 7 rfl) rfl ?_
      refine x_weak (L' := [.null]) ⟨Or.inl rfl, trivial⟩ ?_
      exact x_X12_isLetter_17 hC hE hk0 _ _
set_option maxRecDepth 100000 in
set_option maxHeartbeats 4000000 in
theorem t_X12_isLetter {n : Nat} {x0 : Int32} {M : Mem}  (x : (Int32 × Mem)) (hx : f_X12_isLetter x0 M = some x) (l : Launch) (dC : Nat → ClassId) (dI : Nat → Nat → Nat) (b : zSg) : MT l dC dI b yX12_isLetter cX12_isLetter 1 (some .boolean) 0 0 0 n n [.int x0] M (emI x).1 (emI x).2 :=
  MT.ofX (by decide +kernel) rfl (Nat.le_of_ble_eq_true rfl) (fun κ hC hF _ => x_X12_isLetter hC (zEnd_of hF (Nat.le_refl _) (Nat.le_refl _)) (zRk_of hF (Nat.le_refl _) (Nat.le_refl _)) _ _ ) x hx
set_option maxRecDepth 100000 in
def dt_X12_isDigit : List (Nat × Instr × Nat) := [(0, .iload_n 0, 1), (1, .bipush 48, 2), (3, .if_icmp .lt 13, 3), (6, .iload_n 0, 1), (7, .bipush 57, 2), (9, .if_icmp .gt 7, 3), (12, .iconst 1, 1), (13, .goto 4, 3), (16, .iconst 0, 1), (17, .ireturn, 1)]
set_option maxRecDepth 100000 in
theorem dk_X12_isDigit : dt_X12_isDigit.all (fun q => decide (decode cX12_isDigit q.1 = .ok q.2)) = true := by decide +kernel
set_option maxRecDepth 100000 in
def f_X12_isDigit_17  (x0 : Int32) (s0 : Int32) (M : Mem) : Option (Int32 × Mem) := zbz s0 (some (s0, M))
set_option maxRecDepth 100000 in
set_option maxHeartbeats 4000000 in
theorem x_X12_isDigit_17 {κ : KX} {n : Nat} (hC : CX κ cX12_isDigit RX12 1 (some .boolean) 0) (hE : zEnd κ n (0, 0)) (hk0 : zRk κ (0, 0)) {x0 : Int32} (s0 : Int32) (M : Mem) : X κ 1 emI n (0, 0) 17 [.null] [.int s0] M (f_X12_isDigit_17 x0 s0 M) := by
  unfold f_X12_isDigit_17
  refine x_bz (fun hb1 => ?_)
  exact x_iret (ty := .boolean) hb1.1 hE hC (zdk dk_X12_isDigit 9 rfl)
set_option maxRecDepth 100000 in
def f_X12_isDigit_16  (x0 : Int32)  (M : Mem) : Option (Int32 × Mem) := f_X12_isDigit_17 x0 0 M
set_option maxRecDepth 100000 in
set_option maxHeartbeats 4000000 in
theorem x_X12_isDigit_16 {κ : KX} {n : Nat} (hC : CX κ cX12_isDigit RX12 1 (some .boolean) 0) (hE : zEnd κ n (0, 0)) (hk0 : zRk κ (0, 0)) {x0 : Int32} (M : Mem) : X κ 1 emI n (0, 0) 16 [.null] [] M (f_X12_isDigit_16 x0 M) := by
  unfold f_X12_isDigit_16
  refine x_iconst (i := 0) c_iconst_0 hC (zdk dk_X12_isDigit 8 rfl) (q := 17) rfl ?_
  refine x_weak (L' := [.null]) ⟨Or.inl rfl, trivial⟩ ?_
  exact x_X12_isDigit_17 hC hE hk0 _ _
set_option maxRecDepth 100000 in
def f_X12_isDigit (x0 : Int32) (M : Mem) : Option (Int32 × Mem) := (if x0 < 48 then f_X12_isDigit_16 x0 M else (if 57 < x0 then f_X12_isDigit_16 x0 M else f_X12_isDigit_17 x0 1 M))
set_option maxRecDepth 100000 in
set_option maxHeartbeats 4000000 in
theorem x_X12_isDigit {κ : KX} {n : Nat} (hC : CX κ cX12_isDigit RX12 1 (some .boolean) 0) (hE : zEnd κ n (0, 0)) (hk0 : zRk κ (0, 0)) (x0 : Int32) (M : Mem) : X κ 1 emI n (0, 0) 0 [.int x0] [] M (f_X12_isDigit x0 M) := by
  unfold f_X12_isDigit
  refine x_iload_n (i := 0) rfl hC (zdk dk_X12_isDigit 0 rfl) (q := 1) rfl ?_
  refine x_bipush (i := 48) c_bipush_48 hC (zdk dk_X12_isDigit 1 rfl) (q := 3) rfl ?_
  refine x_icmp_lt (tgt := 16) hC (zdk dk_X12_isDigit 2 rfl) (q := 6) rfl rfl (fun _ => ?_) (fun _ => ?_)
  · refine x_weak (L' := [.null]) ⟨Or.inl rfl, trivial⟩ ?_
    exact x_X12_isDigit_16 hC hE hk0 _
  · refine x_iload_n (i := 0) rfl hC (zdk dk_X12_isDigit 3 rfl) (q := 7) rfl ?_
    refine x_bipush (i := 57) c_bipush_57 hC (zdk dk_X12_isDigit 4 rfl) (q := 9) rfl ?_
    refine x_icmp_gt (tgt := 16) hC (zdk dk_X12_isDigit 5 rfl) (q := 12) rfl rfl (fun _ => ?_) (fun _ => ?_)
    · refine x_weak (L' := [.null]) ⟨Or.inl rfl, trivial⟩ ?_
      exact x_X12_isDigit_16 hC hE hk0 _
    · refine x_iconst (i := 1) c_iconst_1 hC (zdk dk_X12_isDigit 6 rfl) (q := 13) rfl ?_
      refine x_goto (tgt := 17) hC (zdk dk_X12_isDigit 7 rfl) rfl ?_
      refine x_weak (L' := [.null]) ⟨Or.inl rfl, trivial⟩ ?_
      exact x_X12_isDigit_17 hC hE hk0 _ _
set_option maxRecDepth 100000 in
set_option maxHeartbeats 4000000 in
theorem t_X12_isDigit {n : Nat} {x0 : Int32} {M : Mem}  (x : (Int32 × Mem)) (hx : f_X12_isDigit x0 M = some x) (l : Launch) (dC : Nat → ClassId) (dI : Nat → Nat → Nat) (b : zSg) : MT l dC dI b yX12_isDigit cX12_isDigit 1 (some .boolean) 0 0 0 n n [.int x0] M (emI x).1 (emI x).2 :=
  MT.ofX (by decide +kernel) rfl (Nat.le_of_ble_eq_true rfl) (fun κ hC hF _ => x_X12_isDigit hC (zEnd_of hF (Nat.le_refl _) (Nat.le_refl _)) (zRk_of hF (Nat.le_refl _) (Nat.le_refl _)) _ _ ) x hx
set_option maxRecDepth 100000 in
def dt_X12_lex : List (Nat × Instr × Nat) := [(0, .aload_n 0, 1), (1, .getfield 48, 3), (4, .iconst (-1), 1), (5, .if_icmp .eq 12, 3), (8, .aload_n 0, 1), (9, .iconst 1, 1), (10, .aload_n 0, 1), (11, .getfield 48, 3), (14, .invokevirtual 251, 3), (17, .return_, 1)]
set_option maxRecDepth 100000 in
theorem dk_X12_lex : dt_X12_lex.all (fun q => decide (decode cX12_lex q.1 = .ok q.2)) = true := by decide +kernel
set_option maxRecDepth 100000 in
def f_X12_lex_17  (r0 : Nat)  (M : Mem) : Option Mem := some M
set_option maxRecDepth 100000 in
set_option maxHeartbeats 4000000 in
theorem x_X12_lex_17 {κ : KX} {n : Nat} (hC : CX κ cX12_lex RX12 1 none 1) (hE : zEnd κ n (0, 0)) (hk0 : zRk κ (0, 0)) {r0 : Nat} (h_r0 : zO n r0 12) (M : Mem) : X κ 1 emV n (0, 0) 17 [.null] [] M (f_X12_lex_17 r0 M) := by
  unfold f_X12_lex_17
  exact x_vret hE hC (zdk dk_X12_lex 9 rfl)
set_option maxRecDepth 100000 in
def f_X12_lex (r0 : Nat) (M : Mem) : Option Mem := (if zI M r0 12 = (-1) then f_X12_lex_17 r0 M else Option.bind (f_X12_blame r0 1 (zI M r0 12) M) fun M1 => f_X12_lex_17 r0 M1)
set_option maxRecDepth 100000 in
set_option maxHeartbeats 4000000 in
theorem x_X12_lex {κ : KX} {n : Nat} (hC : CX κ cX12_lex RX12 1 none 1) (hE : zEnd κ n (0, 0)) (hk0 : zRk κ (0, 0)) (r0 : Nat) (M : Mem) (h_r0 : zO n r0 12) : X κ 1 emV n (0, 0) 0 [.ref r0] [] M (f_X12_lex r0 M) := by
  unfold f_X12_lex
  refine x_aload_n (i := 0) rfl hC (zdk dk_X12_lex 0 rfl) (q := 1) rfl ?_
  refine x_getI fl_RX12_48 (by decide) h_r0 hC (zdk dk_X12_lex 1 rfl) (q := 4) rfl ?_
  refine x_iconst (i := (-1)) c_iconst_m1 hC (zdk dk_X12_lex 2 rfl) (q := 5) rfl ?_
  refine x_icmp_eq (tgt := 17) hC (zdk dk_X12_lex 3 rfl) (q := 8) rfl rfl (fun _ => ?_) (fun _ => ?_)
  · refine x_weak (L' := [.null]) ⟨Or.inl rfl, trivial⟩ ?_
    exact x_X12_lex_17 hC hE hk0 h_r0 _
  · refine x_aload_n (i := 0) rfl hC (zdk dk_X12_lex 4 rfl) (q := 9) rfl ?_
    refine x_iconst (i := 1) c_iconst_1 hC (zdk dk_X12_lex 5 rfl) (q := 10) rfl ?_
    refine x_aload_n (i := 0) rfl hC (zdk dk_X12_lex 6 rfl) (q := 11) rfl ?_
    refine x_getI fl_RX12_48 (by decide) h_r0 hC (zdk dk_X12_lex 7 rfl) (q := 14) rfl ?_
    refine x_callVv (as := [.int 1, .int (zI M r0 12)]) cb_RX12_251 rfl (by decide) hk0 h_r0 (fun x hx => t_X12_blame h_r0 x hx) hC (zdk dk_X12_lex 8 rfl) (q := 17) rfl rfl (Nat.le_of_ble_eq_true rfl) (fun M1 => ?_)
    refine x_weak (L' := [.null]) ⟨Or.inl rfl, trivial⟩ ?_
    exact x_X12_lex_17 hC hE hk0 h_r0 _
set_option maxRecDepth 100000 in
set_option maxHeartbeats 4000000 in
theorem t_X12_lex {n : Nat} {r0 : Nat} {M : Mem} (h_r0 : zO n r0 12) (x : Mem) (hx : f_X12_lex r0 M = some x) (l : Launch) (dC : Nat → ClassId) (dI : Nat → Nat → Nat) (b : zSg) : MT l dC dI b yX12_lex cX12_lex 1 none 1 0 0 n n [.ref r0] M (emV x).1 (emV x).2 :=
  MT.ofX (by decide +kernel) rfl (Nat.le_of_ble_eq_true rfl) (fun κ hC hF _ => x_X12_lex hC (zEnd_of hF (Nat.le_refl _) (Nat.le_refl _)) (zRk_of hF (Nat.le_refl _) (Nat.le_refl _)) _ _ h_r0) x hx
