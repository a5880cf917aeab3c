set_option maxRecDepth 100000 in
def dt_X0_clear : List (Nat × Instr × Nat) := [(0, .aload_n 0, 1), (1, .iconst 0, 1), (2, .putfield 25, 3), (5, .aload_n 0, 1), (6, .iconst 0, 1), (7, .putfield 29, 3), (10, .aload_n 0, 1), (11, .iconst 0, 1), (12, .putfield 32, 3), (15, .aload_n 0, 1), (16, .iconst 0, 1), (17, .putfield 35, 3), (20, .aload_n 0, 1), (21, .iconst 0, 1), (22, .putfield 38, 3), (25, .aload_n 0, 1), (26, .iconst 0, 1), (27, .putfield 41, 3), (30, .aload_n 0, 1), (31, .iconst 0, 1), (32, .putfield 44, 3), (35, .aload_n 0, 1), (36, .bipush 70, 2), (38, .putfield 47, 3), (41, .aload_n 0, 1), (42, .bipush 30, 2), (44, .putfield 50, 3), (47, .aload_n 0, 1), (48, .bipush 50, 2), (50, .putfield 53, 3), (53, .aload_n 0, 1), (54, .iconst 3, 1), (55, .putfield 56, 3), (58, .aload_n 0, 1), (59, .iconst 0, 1), (60, .putfield 59, 3), (63, .return_, 1)]
set_option maxRecDepth 100000 in
theorem dk_X0_clear : dt_X0_clear.all (fun q => decide (decode cX0_clear q.1 = .ok q.2)) = true := by decide +kernel
set_option maxRecDepth 100000 in
def f_X0_clear (r0 : Nat) (M : Mem) : Option Mem := Option.bind (some (zsI M r0 3 0)) fun M1 => Option.bind (some (zsI M1 r0 4 0)) fun M2 => Option.bind (some (zsI M2 r0 5 0)) fun M3 => Option.bind (some (zsI M3 r0 6 0)) fun M4 => Option.bind (some (zsI M4 r0 7 0)) fun M5 => Option.bind (some (zsI M5 r0 8 0)) fun M6 => Option.bind (some (zsI M6 r0 9 0)) fun M7 => Option.bind (some (zsI M7 r0 10 70)) fun M8 => Option.bind (some (zsI M8 r0 11 30)) fun M9 => Option.bind (some (zsI M9 r0 12 50)) fun M10 => Option.bind (some (zsI M10 r0 13 3)) fun M11 => Option.bind (some (zsI M11 r0 14 0)) fun M12 => some M12
set_option maxRecDepth 100000 in
set_option maxHeartbeats 4000000 in
theorem x_X0_clear {κ : KX} {n : Nat} (hC : CX κ cX0_clear RX0 1 none 0) (hE : zEnd κ n (0, 0)) (hk0 : zRk κ (0, 0)) (r0 : Nat) (M : Mem) (h_r0 : zO n r0 0) : X κ 1 emV n (0, 0) 0 [.ref r0] [] M (f_X0_clear r0 M) := by
  unfold f_X0_clear
  refine x_aload_n (i := 0) rfl hC (zdk dk_X0_clear 0 rfl) (q := 1) rfl ?_
  refine x_iconst (i := 0) c_iconst_0 hC (zdk dk_X0_clear 1 rfl) (q := 2) rfl ?_
  refine x_putI fl_RX0_25 ⟨rfl, rfl⟩ (by decide) (Or.inl rfl) h_r0 hC (zdk dk_X0_clear 2 rfl) (q := 5) rfl ?_
  refine x_nmM (fun M1 => ?_)
  refine x_aload_n (i := 0) rfl hC (zdk dk_X0_clear 3 rfl) (q := 6) rfl ?_
  refine x_iconst (i := 0) c_iconst_0 hC (zdk dk_X0_clear 4 rfl) (q := 7) rfl ?_
  refine x_putI fl_RX0_29 ⟨rfl, rfl⟩ (by decide) (Or.inl rfl) h_r0 hC (zdk dk_X0_clear 5 rfl) (q := 10) rfl ?_
  refine x_nmM (fun M2 => ?_)
  refine x_aload_n (i := 0) rfl hC (zdk dk_X0_clear 6 rfl) (q := 11) rfl ?_
  refine x_iconst (i := 0) c_iconst_0 hC (zdk dk_X0_clear 7 rfl) (q := 12) rfl ?_
  refine x_putI fl_RX0_32 ⟨rfl, rfl⟩ (by decide) (Or.inl rfl) h_r0 hC (zdk dk_X0_clear 8 rfl) (q := 15) rfl ?_
  refine x_nmM (fun M3 => ?_)
  refine x_aload_n (i := 0) rfl hC (zdk dk_X0_clear 9 rfl) (q := 16) rfl ?_
  refine x_iconst (i := 0) c_iconst_0 hC (zdk dk_X0_clear 10 rfl) (q := 17) rfl ?_
  refine x_putI fl_RX0_35 ⟨rfl, rfl⟩ (by decide) (Or.inl rfl) h_r0 hC (zdk dk_X0_clear 11 rfl) (q := 20) rfl ?_
  refine x_nmM (fun M4 => ?_)
  refine x_aload_n (i := 0) rfl hC (zdk dk_X0_clear 12 rfl) (q := 21) rfl ?_
  refine x_iconst (i := 0) c_iconst_0 hC (zdk dk_X0_clear 13 rfl) (q := 22) rfl ?_
  refine x_putI fl_RX0_38 ⟨rfl, rfl⟩ (by decide) (Or.inl rfl) h_r0 hC (zdk dk_X0_clear 14 rfl) (q := 25) rfl ?_
  refine x_nmM (fun M5 => ?_)
  refine x_aload_n (i := 0) rfl hC (zdk dk_X0_clear 15 rfl) (q := 26) rfl ?_
  refine x_iconst (i := 0) c_iconst_0 hC (zdk dk_X0_clear 16 rfl) (q := 27) rfl ?_
  refine x_putI fl_RX0_41 ⟨rfl, rfl⟩ (by decide) (Or.inl rfl) h_r0 hC (zdk dk_X0_clear 17 rfl) (q := 30) rfl ?_
  refine x_nmM (fun M6 => ?_)
  refine x_aload_n (i := 0) rfl hC (zdk dk_X0_clear 18 rfl) (q := 31) rfl ?_
  refine x_iconst (i := 0) c_iconst_0 hC (zdk dk_X0_clear 19 rfl) (q := 32) rfl ?_
  refine x_putI fl_RX0_44 ⟨rfl, rfl⟩ (by decide) (Or.inl rfl) h_r0 hC (zdk dk_X0_clear 20 rfl) (q := 35) rfl ?_
  refine x_nmM (fun M7 => ?_)
  refine x_aload_n (i := 0) rfl hC (zdk dk_X0_clear 21 rfl) (q := 36) rfl ?_
  refine x_bipush (i := 70) c_bipush_70 hC (zdk dk_X0_clear 22 rfl) (q := 38) rfl ?_
  refine x_putI fl_RX0_47 ⟨rfl, rfl⟩ (by decide) (Or.inl rfl) h_r0 hC (zdk dk_X0_clear 23 rfl) (q := 41) rfl ?_
  refine x_nmM (fun M8 => ?_)
  refine x_aload_n (i := 0) rfl hC (zdk dk_X0_clear 24 rfl) (q := 42) rfl ?_
  refine x_bipush (i := 30) c_bipush_30 hC (zdk dk_X0_clear 25 rfl) (q := 44) rfl ?_
  refine x_putI fl_RX0_50 ⟨rfl, rfl⟩ (by decide) (Or.inl rfl) h_r0 hC (zdk dk_X0_clear 26 rfl) (q := 47) rfl ?_
  refine x_nmM (fun M9 => ?_)
  refine x_aload_n (i := 0) rfl hC (zdk dk_X0_clear 27 rfl) (q := 48) rfl ?_
  refine x_bipush (i := 50) c_bipush_50 hC (zdk dk_X0_clear 28 rfl) (q := 50) rfl ?_
  refine x_putI fl_RX0_53 ⟨rfl, rfl⟩ (by decide) (Or.inl rfl) h_r0 hC (zdk dk_X0_clear 29 rfl) (q := 53) rfl ?_
  refine x_nmM (fun M10 => ?_)
  refine x_aload_n (i := 0) rfl hC (zdk dk_X0_clear 30 rfl) (q := 54) rfl ?_
  refine x_iconst (i := 3) c_iconst_3 hC (zdk dk_X0_clear 31 rfl) (q := 55) rfl ?_
  refine x_putI fl_RX0_56 ⟨rfl, rfl⟩ (by decide) (Or.inl rfl) h_r0 hC (zdk dk_X0_clear 32 rfl) (q := 58) rfl ?_
  refine x_nmM (fun M11 => ?_)
  refine x_aload_n (i := 0) rfl hC (zdk dk_X0_clear 33 rfl) (q := 59) rfl ?_
  refine x_iconst (i := 0) c_iconst_0 hC (zdk dk_X0_clear 34 rfl) (q := 60) rfl ?_
  refine x_putI fl_RX0_59 ⟨rfl, rfl⟩ (by decide) (Or.inl rfl) h_r0 hC (zdk dk_X0_clear 35 rfl) (q := 63) rfl ?_
  refine x_nmM (fun M12 => ?_)
  exact x_vret hE hC (zdk dk_X0_clear 36 rfl)
set_option maxRecDepth 100000 in
set_option maxHeartbeats 4000000 in
theorem t_X0_clear {n : Nat} {r0 : Nat} {M : Mem} (h_r0 : zO n r0 0) (x : Mem) (hx : f_X0_clear r0 M = some x) (l : Launch) (dC : Nat → ClassId) (dI : Nat → Nat → Nat) (b : zSg) : MT l dC dI b yX0_clear cX0_clear 1 none 0 0 0 n n [.ref r0] M (emV x).1 (emV x).2 :=
  MT.ofX (by decide +kernel) rfl (Nat.le_of_ble_eq_true rfl) (fun κ hC hF _ => x_X0_clear hC (zEnd_of hF (Nat.le_refl _) (Nat.le_refl _)) (zRk_of hF (Nat.le_refl _) (Nat.le_refl _)) _ _ h_r0) x hx
set_option maxRecDepth 100000 in
def dt_X0_hasDrifts : List (Nat × Instr × Nat) := [(0, .aload_n 0, 1), (1, .getfield 29, 3), (4, .aload_n 0, 1), (5, .getfield 32, 3), (8, .if_icmp .ge 7, 3), (11, .iconst 1, 1), (12, .goto 4, 3), (15, .iconst 0, 1), (16, .ireturn, 1)]
set_option maxRecDepth 100000 in
theorem dk_X0_hasDrifts : dt_X0_hasDrifts.all (fun q => decide (decode cX0_hasDrifts q.1 = .ok q.2)) = true := by decide +kernel
set_option maxRecDepth 100000 in
def f_X0_hasDrifts_16  (r0 : Nat) (s0 : Int32) (M : Mem) : Option (Int32 × Mem) := zbz s0 (some (s0, M))
set_option maxRecDepth 100000 in
set_option maxHeartbeats 4000000 in
theorem x_X0_hasDrifts_16 {κ : KX} {n : Nat} (hC : CX κ cX0_hasDrifts RX0 1 (some .boolean) 0) (hE : zEnd κ n (0, 0)) (hk0 : zRk κ (0, 0)) {r0 : Nat} (h_r0 : zO n r0 0) (s0 : Int32) (M : Mem) : X κ 1 emI n (0, 0) 16 [.null] [.int s0] M (f_X0_hasDrifts_16 r0 s0 M) := by
  unfold f_X0_hasDrifts_16
  refine x_bz (fun hb1 => ?_)
  exact x_iret (ty := .boolean) hb1.1 hE hC (zdk dk_X0_hasDrifts 8 rfl)
set_option maxRecDepth 100000 in
def f_X0_hasDrifts (r0 : Nat) (M : Mem) : Option (Int32 × Mem) := (if zI M r0 5 ≤ zI M r0 4 then f_X0_hasDrifts_16 r0 0 M else f_X0_hasDrifts_16 r0 1 M)
set_option maxRecDepth 100000 in
set_option maxHeartbeats 4000000 in
theorem x_X0_hasDrifts {κ : KX} {n : Nat} (hC : CX κ cX0_hasDrifts RX0 1 (some .boolean) 0) (hE : zEnd κ n (0, 0)) (hk0 : zRk κ (0, 0)) (r0 : Nat) (M : Mem) (h_r0 : zO n r0 0) : X κ 1 emI n (0, 0) 0 [.ref r0] [] M (f_X0_hasDrifts r0 M) := by
  unfold f_X0_hasDrifts
  refine x_aload_n (i := 0) rfl hC (zdk dk_X0_hasDrifts 0 rfl) (q := 1) rfl ?_
  refine x_getI fl_RX0_29 (by decide) h_r0 hC (zdk dk_X0_hasDrifts 1 rfl) (q := 4) rfl ?_
  refine x_aload_n (i := 0) rfl hC (zdk dk_X0_hasDrifts 2 rfl) (q := 5) rfl ?_
  refine x_getI fl_RX0_32 (by decide) h_r0 hC (zdk dk_X0_hasDrifts 3 rfl) (q := 8) rfl ?_
  refine x_icmp_ge (tgt := 15) hC (zdk dk_X0_hasDrifts 4 rfl) (q := 11) rfl rfl (fun _ => ?_) (fun _ => ?_)
  · refine x_iconst (i := 0) c_iconst_0 hC (zdk dk_X0_hasDrifts 7 rfl) (q := 16) rfl ?_
    refine x_weak (L' := [.null]) ⟨Or.inl rfl, trivial⟩ ?_
    exact x_X0_hasDrifts_16 hC hE hk0 h_r0 _ _
  · refine x_iconst (i := 1) c_iconst_1 hC (zdk dk_X0_hasDrifts 5 rfl) (q := 12) rfl ?_
    refine x_goto (tgt := 16) hC (zdk dk_X0_hasDrifts 6 rfl) rfl ?_
    refine x_weak (L' := [.null]) ⟨Or.inl rfl, trivial⟩ ?_
    exact x_X0_hasDrifts_16 hC hE hk0 h_r0 _ _
set_option maxRecDepth 100000 in
set_option maxHeartbeats 4000000 in
theorem t_X0_hasDrifts {n : Nat} {r0 : Nat} {M : Mem} (h_r0 : zO n r0 0) (x : (Int32 × Mem)) (hx : f_X0_hasDrifts r0 M = some x) (l : Launch) (dC : Nat → ClassId) (dI : Nat → Nat → Nat) (b : zSg) : MT l dC dI b yX0_hasDrifts cX0_hasDrifts 1 (some .boolean) 0 0 0 n n [.ref r0] M (emI x).1 (emI x).2 :=
  MT.ofX (by decide +kernel) rfl (Nat.le_of_ble_eq_true rfl) (fun κ hC hF _ => x_X0_hasDrifts hC (zEnd_of hF (Nat.le_refl _) (Nat.le_refl _)) (zRk_of hF (Nat.le_refl _) (Nat.le_refl _)) _ _ h_r0) x hx
set_option maxRecDepth 100000 in
def dt_X0_hasTries : List (Nat × Instr × Nat) := [(0, .aload_n 0, 1), (1, .getfield 35, 3), (4, .aload_n 0, 1), (5, .getfield 38, 3), (8, .if_icmp .ge 7, 3), (11, .iconst 1, 1), (12, .goto 4, 3), (15, .iconst 0, 1), (16, .ireturn, 1)]
set_option maxRecDepth 100000 in
theorem dk_X0_hasTries : dt_X0_hasTries.all (fun q => decide (decode cX0_hasTries q.1 = .ok q.2)) = true := by decide +kernel
set_option maxRecDepth 100000 in
def f_X0_hasTries_16  (r0 : Nat) (s0 : Int32) (M : Mem) : Option (Int32 × Mem) := zbz s0 (some (s0, M))
set_option maxRecDepth 100000 in
set_option maxHeartbeats 4000000 in
theorem x_X0_hasTries_16 {κ : KX} {n : Nat} (hC : CX κ cX0_hasTries RX0 1 (some .boolean) 0) (hE : zEnd κ n (0, 0)) (hk0 : zRk κ (0, 0)) {r0 : Nat} (h_r0 : zO n r0 0) (s0 : Int32) (M : Mem) : X κ 1 emI n (0, 0) 16 [.null] [.int s0] M (f_X0_hasTries_16 r0 s0 M) := by
  unfold f_X0_hasTries_16
  refine x_bz (fun hb1 => ?_)
  exact x_iret (ty := .boolean) hb1.1 hE hC (zdk dk_X0_hasTries 8 rfl)
set_option maxRecDepth 100000 in
def f_X0_hasTries (r0 : Nat) (M : Mem) : Option (Int32 × Mem) := (if zI M r0 7 ≤ zI M r0 6 then f_X0_hasTries_16 r0 0 M else f_X0_hasTries_16 r0 1 M)
set_option maxRecDepth 100000 in
set_option maxHeartbeats 4000000 in
theorem x_X0_hasTries {κ : KX} {n : Nat} (hC : CX κ cX0_hasTries RX0 1 (some .boolean) 0) (hE : zEnd κ n (0, 0)) (hk0 : zRk κ (0, 0)) (r0 : Nat) (M : Mem) (h_r0 : zO n r0 0) : X κ 1 emI n (0, 0) 0 [.ref r0] [] M (f_X0_hasTries r0 M) := by
  unfold f_X0_hasTries
  refine x_aload_n (i := 0) rfl hC (zdk dk_X0_hasTries 0 rfl) (q := 1) rfl ?_
  refine x_getI fl_RX0_35 (by decide) h_r0 hC (zdk dk_X0_hasTries 1 rfl) (q := 4) rfl ?_
  refine x_aload_n (i := 0) rfl hC (zdk dk_X0_hasTries 2 rfl) (q := 5) rfl ?_
  refine x_getI fl_RX0_38 (by decide) h_r0 hC (zdk dk_X0_hasTries 3 rfl) (q := 8) rfl ?_
  refine x_icmp_ge (tgt := 15) hC (zdk dk_X0_hasTries 4 rfl) (q := 11) rfl rfl (fun _ => ?_) (fun _ => ?_)
  · refine x_iconst (i := 0) c_iconst_0 hC (zdk dk_X0_hasTries 7 rfl) (q := 16) rfl ?_
    refine x_weak (L' := [.null]) ⟨Or.inl rfl, trivial⟩ ?_
    exact x_X0_hasTries_16 hC hE hk0 h_r0 _ _
  · refine x_iconst (i := 1) c_iconst_1 hC (zdk dk_X0_hasTries 5 rfl) (q := 12) rfl ?_
    refine x_goto (tgt := 16) hC (zdk dk_X0_hasTries 6 rfl) rfl ?_
    refine x_weak (L' := [.null]) ⟨Or.inl rfl, trivial⟩ ?_
    exact x_X0_hasTries_16 hC hE hk0 h_r0 _ _
set_option maxRecDepth 100000 in
set_option maxHeartbeats 4000000 in
theorem t_X0_hasTries {n : Nat} {r0 : Nat} {M : Mem} (h_r0 : zO n r0 0) (x : (Int32 × Mem)) (hx : f_X0_hasTries r0 M = some x) (l : Launch) (dC : Nat → ClassId) (dI : Nat → Nat → Nat) (b : zSg) : MT l dC dI b yX0_hasTries cX0_hasTries 1 (some .boolean) 0 0 0 n n [.ref r0] M (emI x).1 (emI x).2 :=
  MT.ofX (by decide +kernel) rfl (Nat.le_of_ble_eq_true rfl) (fun κ hC hF _ => x_X0_hasTries hC (zEnd_of hF (Nat.le_refl _) (Nat.le_refl _)) (zRk_of hF (Nat.le_refl _) (Nat.le_refl _)) _ _ h_r0) x hx
set_option maxRecDepth 100000 in
def dt_X0_hasName : List (Nat × Instr × Nat) := [(0, .iconst 0, 1), (1, .istore_n 2, 1), (2, .iload_n 2, 1), (3, .aload_n 0, 1), (4, .getfield 44, 3), (7, .if_icmp .ge 21, 3), (10, .aload_n 0, 1), (11, .getfield 18, 3), (14, .iload_n 2, 1), (15, .iaload, 1), (16, .iload_n 1, 1), (17, .if_icmp .ne 5, 3), (20, .iconst 1, 1), (21, .ireturn, 1), (22, .iinc 2 1, 3), (25, .goto (-23), 3), (28, .iconst 0, 1), (29, .ireturn, 1)]
set_option maxRecDepth 100000 in
theorem dk_X0_hasName : dt_X0_hasName.all (fun q => decide (decode cX0_hasName q.1 = .ok q.2)) = true := by decide +kernel
set_option maxRecDepth 100000 in
def f_X0_hasName_2  (r0 : Nat) (x1 : Int32) : Nat → Int32 → Mem → Option (Int32 × Mem)
  | 0, _, _ => none
  | f + 1, x2, M => (if zI M r0 9 ≤ x2 then some (0, M) else Option.bind (zrf M r0 1) fun q1 => Option.bind (zld q1 x2) fun k2 => (if zI M q1 k2 = x1 then some (1, M) else (f_X0_hasName_2 r0 x1 f) (x2 + 1) M))
set_option maxRecDepth 100000 in
set_option maxHeartbeats 4000000 in
theorem x_X0_hasName_2 {κ : KX} {n : Nat} (hC : CX κ cX0_hasName RX0 3 (some .boolean) 0) (hE : zEnd κ n (0, 0)) (hk0 : zRk κ (0, 0)) {r0 : Nat} {x1 : Int32} (h_r0 : zO n r0 0) : ∀ (f : Nat) (x2 : Int32) (M : Mem), X κ 3 emI n (0, 0) 2 [.ref r0, .int x1, .int x2] [] M (f_X0_hasName_2 r0 x1 f x2 M) := by
  intro f
  induction f with
  | zero => intros; exact x_none
  | succ f ih =>
    intro x2 M 
    rw [f_X0_hasName_2]
    refine x_iload_n (i := 2) rfl hC (zdk dk_X0_hasName 2 rfl) (q := 3) rfl ?_
    refine x_aload_n (i := 0) rfl hC (zdk dk_X0_hasName 3 rfl) (q := 4) rfl ?_
    refine x_getI fl_RX0_44 (by decide) h_r0 hC (zdk dk_X0_hasName 4 rfl) (q := 7) rfl ?_
    refine x_icmp_ge (tgt := 28) hC (zdk dk_X0_hasName 5 rfl) (q := 10) rfl rfl (fun _ => ?_) (fun _ => ?_)
    · refine x_iconst (i := 0) c_iconst_0 hC (zdk dk_X0_hasName 16 rfl) (q := 29) rfl ?_
      exact x_iret (ty := .boolean) rfl hE hC (zdk dk_X0_hasName 17 rfl)
    · refine x_aload_n (i := 0) rfl hC (zdk dk_X0_hasName 6 rfl) (q := 11) rfl ?_
      refine x_getR (k := 20) fl_RX0_18 rfl h_r0 hC (zdk dk_X0_hasName 7 rfl) (q := 14) rfl (fun q1 hq1 => ?_)
      refine x_iload_n (i := 2) rfl hC (zdk dk_X0_hasName 8 rfl) (q := 15) rfl ?_
      refine x_iald hq1 hC (zdk dk_X0_hasName 9 rfl) (q := 16) rfl (fun k2 _ => ?_)
      refine x_iload_n (i := 1) rfl hC (zdk dk_X0_hasName 10 rfl) (q := 17) rfl ?_
      refine x_icmp_ne (tgt := 22) hC (zdk dk_X0_hasName 11 rfl) (q := 20) rfl rfl (fun _ => ?_) (fun _ => ?_)
      · refine x_iinc (i := 2) c_iconst_1 rfl (by decide) (L' := [.ref r0, .int x1, .int (x2 + 1)]) rfl hC (zdk dk_X0_hasName 14 rfl) (q := 25) rfl ?_
        refine x_goto (tgt := 2) hC (zdk dk_X0_hasName 15 rfl) rfl ?_
        refine x_weak (L' := [.ref r0, .int x1, .int (x2 + 1)]) ⟨Or.inr rfl, Or.inr rfl, Or.inr rfl, trivial⟩ ?_
        exact ih _ _
      · refine x_iconst (i := 1) c_iconst_1 hC (zdk dk_X0_hasName 12 rfl) (q := 21) rfl ?_
        exact x_iret (ty := .boolean) rfl hE hC (zdk dk_X0_hasName 13 rfl)
set_option maxRecDepth 100000 in
def f_X0_hasName (r0 : Nat) (x1 : Int32) (M : Mem) : Option (Int32 × Mem) := f_X0_hasName_2 r0 x1 1000000 0 M
set_option maxRecDepth 100000 in
set_option maxHeartbeats 4000000 in
theorem x_X0_hasName {κ : KX} {n : Nat} (hC : CX κ cX0_hasName RX0 3 (some .boolean) 0) (hE : zEnd κ n (0, 0)) (hk0 : zRk κ (0, 0)) (r0 : Nat) (x1 : Int32) (M : Mem) (h_r0 : zO n r0 0) : X κ 3 emI n (0, 0) 0 [.ref r0, .int x1, .null] [] M (f_X0_hasName r0 x1 M) := by
  unfold f_X0_hasName
  refine x_iconst (i := 0) c_iconst_0 hC (zdk dk_X0_hasName 0 rfl) (q := 1) rfl ?_
  refine x_istore_n (i := 2) (L' := [.ref r0, .int x1, .int 0]) (by decide) rfl hC (zdk dk_X0_hasName 1 rfl) (q := 2) rfl ?_
  refine x_weak (L' := [.ref r0, .int x1, .int 0]) ⟨Or.inr rfl, Or.inr rfl, Or.inr rfl, trivial⟩ ?_
  exact x_X0_hasName_2 hC hE hk0 h_r0 _ _ _
set_option maxRecDepth 100000 in
set_option maxHeartbeats 4000000 in
theorem t_X0_hasName {n : Nat} {r0 : Nat} {x1 : Int32} {M : Mem} (h_r0 : zO n r0 0) (x : (Int32 × Mem)) (hx : f_X0_hasName r0 x1 M = some x) (l : Launch) (dC : Nat → ClassId) (dI : Nat → Nat → Nat) (b : zSg) : MT l dC dI b yX0_hasName cX0_hasName 3 (some .boolean) 0 0 0 n n [.ref r0, .int x1] M (emI x).1 (emI x).2 :=
  MT.ofX (by decide +kernel) rfl (Nat.le_of_ble_eq_true rfl) (fun κ hC hF _ => x_X0_hasName hC (zEnd_of hF (Nat.le_refl _) (Nat.le_refl _)) (zRk_of hF (Nat.le_refl _) (Nat.le_refl _)) _ _ _ h_r0) x hx
set_option maxRecDepth 100000 in
def dt_X0_addStep : List (Nat × Instr × Nat) := [(0, .aload_n 0, 1), (1, .getfield 25, 3), (4, .aload_n 0, 1), (5, .getfield 22, 3), (8, .arraylength, 1), (9, .if_icmp .ge 23, 3), (12, .aload_n 0, 1), (13, .getfield 22, 3), (16, .aload_n 0, 1), (17, .getfield 25, 3), (20, .iload_n 1, 1), (21, .iastore, 1), (22, .aload_n 0, 1), (23, .dup, 1), (24, .getfield 25, 3), (27, .iconst 1, 1), (28, .iadd, 1), (29, .putfield 25, 3), (32, .return_, 1)]
set_option maxRecDepth 100000 in
theorem dk_X0_addStep : dt_X0_addStep.all (fun q => decide (decode cX0_addStep q.1 = .ok q.2)) = true := by decide +kernel
set_option maxRecDepth 100000 in
def f_X0_addStep_32  (r0 : Nat) (x1 : Int32)  (M : Mem) : Option Mem := some M
set_option maxRecDepth 100000 in
set_option maxHeartbeats 4000000 in
theorem x_X0_addStep_32 {κ : KX} {n : Nat} (hC : CX κ cX0_addStep RX0 2 none 0) (hE : zEnd κ n (0, 0)) (hk0 : zRk κ (0, 0)) {r0 : Nat} {x1 : Int32} (h_r0 : zO n r0 0) (M : Mem) : X κ 2 emV n (0, 0) 32 [.null, .null] [] M (f_X0_addStep_32 r0 x1 M) := by
  unfold f_X0_addStep_32
  exact x_vret hE hC (zdk dk_X0_addStep 18 rfl)
set_option maxRecDepth 100000 in
def f_X0_addStep (r0 : Nat) (x1 : Int32) (M : Mem) : Option Mem := Option.bind (zrf M r0 2) fun q1 => (if zlen q1 ≤ zI M r0 3 then f_X0_addStep_32 r0 x1 M else Option.bind (zrf M r0 2) fun q2 => Option.bind (zld q2 (zI M r0 3)) fun k3 => Option.bind (some (zsI M q2 k3 x1)) fun M4 => Option.bind (some (zsI M4 r0 3 ((zI M4 r0 3) + 1))) fun M5 => f_X0_addStep_32 r0 x1 M5)
set_option maxRecDepth 100000 in
set_option maxHeartbeats 4000000 in
theorem x_X0_addStep {κ : KX} {n : Nat} (hC : CX κ cX0_addStep RX0 2 none 0) (hE : zEnd κ n (0, 0)) (hk0 : zRk κ (0, 0)) (r0 : Nat) (x1 : Int32) (M : Mem) (h_r0 : zO n r0 0) : X κ 2 emV n (0, 0) 0 [.ref r0, .int x1] [] M (f_X0_addStep r0 x1 M) := by
  unfold f_X0_addStep
  refine x_aload_n (i := 0) rfl hC (zdk dk_X0_addStep 0 rfl) (q := 1) rfl ?_
  refine x_getI fl_RX0_25 (by decide) h_r0 hC (zdk dk_X0_addStep 1 rfl) (q := 4) rfl ?_
  refine x_aload_n (i := 0) rfl hC (zdk dk_X0_addStep 2 rfl) (q := 5) rfl ?_
  refine x_getR (k := 20) fl_RX0_22 rfl h_r0 hC (zdk dk_X0_addStep 3 rfl) (q := 8) rfl (fun q1 hq1 => ?_)
  refine x_alen hq1 (by decide) hC (zdk dk_X0_addStep 4 rfl) (q := 9) rfl ?_
  refine x_icmp_ge (tgt := 32) hC (zdk dk_X0_addStep 5 rfl) (q := 12) rfl rfl (fun _ => ?_) (fun _ => ?_)
  · refine x_weak (L' := [.null, .null]) ⟨Or.inl rfl, Or.inl rfl, trivial⟩ ?_
    exact x_X0_addStep_32 hC hE hk0 h_r0 _
  · refine x_aload_n (i := 0) rfl hC (zdk dk_X0_addStep 6 rfl) (q := 13) rfl ?_
    refine x_getR (k := 20) fl_RX0_22 rfl h_r0 hC (zdk dk_X0_addStep 7 rfl) (q := 16) rfl (fun q2 hq2 => ?_)
    refine x_aload_n (i := 0) rfl hC (zdk dk_X0_addStep 8 rfl) (q := 17) rfl ?_
    refine x_getI fl_RX0_25 (by decide) h_r0 hC (zdk dk_X0_addStep 9 rfl) (q := 20) rfl ?_
    refine x_iload_n (i := 1) rfl hC (zdk dk_X0_addStep 10 rfl) (q := 21) rfl ?_
    refine x_iast hq2 hC (zdk dk_X0_addStep 11 rfl) (q := 22) rfl (fun k3 _ => ?_)
    refine x_nmM (fun M4 => ?_)
    refine x_aload_n (i := 0) rfl hC (zdk dk_X0_addStep 12 rfl) (q := 23) rfl ?_
    refine x_dup rfl hC (zdk dk_X0_addStep 13 rfl) (q := 24) rfl ?_
    refine x_getI fl_RX0_25 (by decide) h_r0 hC (zdk dk_X0_addStep 14 rfl) (q := 27) rfl ?_
    refine x_iconst (i := 1) c_iconst_1 hC (zdk dk_X0_addStep 15 rfl) (q := 28) rfl ?_
    refine x_iadd hC (zdk dk_X0_addStep 16 rfl) (q := 29) rfl ?_
    refine x_putI fl_RX0_25 ⟨rfl, rfl⟩ (by decide) (Or.inl rfl) h_r0 hC (zdk dk_X0_addStep 17 rfl) (q := 32) rfl ?_
    refine x_nmM (fun M5 => ?_)
    refine x_weak (L' := [.null, .null]) ⟨Or.inl rfl, Or.inl rfl, trivial⟩ ?_
    exact x_X0_addStep_32 hC hE hk0 h_r0 _
set_option maxRecDepth 100000 in
set_option maxHeartbeats 4000000 in
theorem t_X0_addStep {n : Nat} {r0 : Nat} {x1 : Int32} {M : Mem} (h_r0 : zO n r0 0) (x : Mem) (hx : f_X0_addStep r0 x1 M = some x) (l : Launch) (dC : Nat → ClassId) (dI : Nat → Nat → Nat) (b : zSg) : MT l dC dI b yX0_addStep cX0_addStep 2 none 0 0 0 n n [.ref r0, .int x1] M (emV x).1 (emV x).2 :=
  MT.ofX (by decide +kernel) rfl (Nat.le_of_ble_eq_true rfl) (fun κ hC hF _ => x_X0_addStep hC (zEnd_of hF (Nat.le_refl _) (Nat.le_refl _)) (zRk_of hF (Nat.le_refl _) (Nat.le_refl _)) _ _ _ h_r0) x hx
set_option maxRecDepth 100000 in
def dt_X1_takesPoly : List (Nat × Instr × Nat) := [(0, .aload_n 0, 1), (1, .iload_n 1, 1), (2, .putfield 28, 3), (5, .aload_n 0, 1), (6, .iconst 1, 1), (7, .iload_n 1, 1), (8, .ishl, 1), (9, .iconst 1, 1), (10, .isub, 1), (11, .putfield 32, 3), (14, .iload_n 2, 1), (15, .iload_n 1, 1), (16, .ishr, 1), (17, .iconst 1, 1), (18, .if_icmp .eq 5, 3), (21, .iconst 0, 1), (22, .ireturn, 1), (23, .iconst 1, 1), (24, .istore_n 3, 1), (25, .iconst 0, 1), (26, .istore 4, 2), (28, .iload 4, 2), (30, .aload_n 0, 1), (31, .getfield 32, 3), (34, .if_icmp .ge 52, 3), (37, .iload 4, 2), (39, .ifCond .le 10, 3), (42, .iload_n 3, 1), (43, .iconst 1, 1), (44, .if_icmp .ne 5, 3), (47, .iconst 0, 1), (48, .ireturn, 1), (49, .aload_n 0, 1), (50, .getfield 9, 3), (53, .iload 4, 2), (55, .iload_n 3, 1), (56, .iastore, 1), (57, .aload_n 0, 1), (58, .getfield 15, 3), (61, .iload_n 3, 1), (62, .iload 4, 2), (64, .iastore, 1), (65, .iload_n 3, 1), (66, .iconst 1, 1), (67, .ishl, 1), (68, .istore_n 3, 1), (69, .iload_n 3, 1), (70, .iload_n 1, 1), (71, .ishr, 1), (72, .iconst 1, 1), (73, .if_icmp .ne 7, 3), (76, .iload_n 3, 1), (77, .iload_n 2, 1), (78, .ixor, 1), (79, .istore_n 3, 1), (80, .iinc 4 1, 3), (83, .goto (-55), 3), (86, .iload_n 3, 1), (87, .iconst 1, 1), (88, .if_icmp .ne 7, 3), (91, .iconst 1, 1), (92, .goto 4, 3), (95, .iconst 0, 1), (96, .ireturn, 1)]
set_option maxRecDepth 100000 in
theorem dk_X1_takesPoly : dt_X1_takesPoly.all (fun q => decide (decode cX1_takesPoly q.1 = .ok q.2)) = true := by decide +kernel
set_option maxRecDepth 100000 in
def f_X1_takesPoly_80 (k28 : Int32 → Int32 → Mem → Option (Int32 × Mem)) (r0 : Nat) (x1 : Int32) (x2 : Int32) (x3 : Int32) (x4 : Int32) (M : Mem) : Option (Int32 × Mem) := k28 x3 (x4 + 1) M
set_option maxRecDepth 100000 in
set_option maxHeartbeats 4000000 in
theorem x_X1_takesPoly_80 {κ : KX} {n : Nat} (hC : CX κ cX1_takesPoly RX1 5 (some .boolean) 0) (hE : zEnd κ n (0, 0)) (hk0 : zRk κ (0, 0)) {r0 : Nat} {x1 : Int32} {x2 : Int32} (h_r0 : zO n r0 1) (k28 : Int32 → Int32 → Mem → Option (Int32 × Mem)) (hk28 : ∀ (x3 : Int32) (x4 : Int32) (M : Mem), X κ 5 emI n (0, 0) 28 [.ref r0, .int x1, .int x2, .int x3, .int x4] [] M (k28 x3 x4 M)) (x3 : Int32) (x4 : Int32) (M : Mem) : X κ 5 emI n (0, 0) 80 [.ref r0, .int x1, .int x2, .int x3, .int x4] [] M (f_X1_takesPoly_80 k28 r0 x1 x2 x3 x4 M) := by
  unfold f_X1_takesPoly_80
  refine x_iinc (i := 4) c_iconst_1 rfl (by decide) (L' := [.ref r0, .int x1, .int x2, .int x3, .int (x4 + 1)]) rfl hC (zdk dk_X1_takesPoly 55 rfl) (q := 83) rfl ?_
  refine x_goto (tgt := 28) hC (zdk dk_X1_takesPoly 56 rfl) rfl ?_
  refine x_weak (L' := [.ref r0, .int x1, .int x2, .int x3, .int (x4 + 1)]) ⟨Or.inr rfl, Or.inr rfl, Or.inr rfl, Or.inr rfl, Or.inr rfl, trivial⟩ ?_
  exact hk28 _ _ _
set_option maxRecDepth 100000 in
def f_X1_takesPoly_49 (k28 : Int32 → Int32 → Mem → Option (Int32 × Mem)) (r0 : Nat) (x1 : Int32) (x2 : Int32) (x3 : Int32) (x4 : Int32) (M : Mem) : Option (Int32 × Mem) := Option.bind (zrf M r0 0) fun q1 => Option.bind (zld q1 x4) fun k2 => Option.bind (some (zsI M q1 k2 x3)) fun M3 => Option.bind (zrf M3 r0 1) fun q4 => Option.bind (zld q4 x3) fun k5 => Option.bind (some (zsI M3 q4 k5 x4)) fun M6 => (if (x3 <<< (1 &&& 31)) >>> (x1 &&& 31) = 1 then f_X1_takesPoly_80 k28 r0 x1 x2 ((x3 <<< (1 &&& 31)) ^^^ x2) x4 M6 else f_X1_takesPoly_80 k28 r0 x1 x2 (x3 <<< (1 &&& 31)) x4 M6)
set_option maxRecDepth 100000 in
set_option maxHeartbeats 4000000 in
theorem x_X1_takesPoly_49 {κ : KX} {n : Nat} (hC : CX κ cX1_takesPoly RX1 5 (some .boolean) 0) (hE : zEnd κ n (0, 0)) (hk0 : zRk κ (0, 0)) {r0 : Nat} {x1 : Int32} {x2 : Int32} (h_r0 : zO n r0 1) (k28 : Int32 → Int32 → Mem → Option (Int32 × Mem)) (hk28 : ∀ (x3 : Int32) (x4 : Int32) (M : Mem), X κ 5 emI n (0, 0) 28 [.ref r0, .int x1, .int x2, .int x3, .int x4] [] M (k28 x3 x4 M)) (x3 : Int32) (x4 : Int32) (M : Mem) : X κ 5 emI n (0, 0) 49 [.ref r0, .int x1, .int x2, .int x3, .int x4] [] M (f_X1_takesPoly_49 k28 r0 x1 x2 x3 x4 M) := by
  unfold f_X1_takesPoly_49
  refine x_aload_n (i := 0) rfl hC (zdk dk_X1_takesPoly 32 rfl) (q := 50) rfl ?_
  refine x_getR (k := 20) fl_RX1_9 rfl h_r0 hC (zdk dk_X1_takesPoly 33 rfl) (q := 53) rfl (fun q1 hq1 => ?_)
  refine x_iload (i := 4) rfl hC (zdk dk_X1_takesPoly 34 rfl) (q := 55) rfl ?_
  refine x_iload_n (i := 3) rfl hC (zdk dk_X1_takesPoly 35 rfl) (q := 56) rfl ?_
  refine x_iast hq1 hC (zdk dk_X1_takesPoly 36 rfl) (q := 57) rfl (fun k2 _ => ?_)
  refine x_nmM (fun M3 => ?_)
  refine x_aload_n (i := 0) rfl hC (zdk dk_X1_takesPoly 37 rfl) (q := 58) rfl ?_
  refine x_getR (k := 20) fl_RX1_15 rfl h_r0 hC (zdk dk_X1_takesPoly 38 rfl) (q := 61) rfl (fun q4 hq4 => ?_)
  refine x_iload_n (i := 3) rfl hC (zdk dk_X1_takesPoly 39 rfl) (q := 62) rfl ?_
  refine x_iload (i := 4) rfl hC (zdk dk_X1_takesPoly 40 rfl) (q := 64) rfl ?_
  refine x_iast hq4 hC (zdk dk_X1_takesPoly 41 rfl) (q := 65) rfl (fun k5 _ => ?_)
  refine x_nmM (fun M6 => ?_)
  refine x_iload_n (i := 3) rfl hC (zdk dk_X1_takesPoly 42 rfl) (q := 66) rfl ?_
  refine x_iconst (i := 1) c_iconst_1 hC (zdk dk_X1_takesPoly 43 rfl) (q := 67) rfl ?_
  refine x_ishl hC (zdk dk_X1_takesPoly 44 rfl) (q := 68) rfl ?_
  refine x_istore_n (i := 3) (L' := [.ref r0, .int x1, .int x2, .int (x3 <<< (1 &&& 31)), .int x4]) (by decide) rfl hC (zdk dk_X1_takesPoly 45 rfl) (q := 69) rfl ?_
  refine x_iload_n (i := 3) rfl hC (zdk dk_X1_takesPoly 46 rfl) (q := 70) rfl ?_
  refine x_iload_n (i := 1) rfl hC (zdk dk_X1_takesPoly 47 rfl) (q := 71) rfl ?_
  refine x_ishr hC (zdk dk_X1_takesPoly 48 rfl) (q := 72) rfl ?_
  refine x_iconst (i := 1) c_iconst_1 hC (zdk dk_X1_takesPoly 49 rfl) (q := 73) rfl ?_
  refine x_icmp_ne (tgt := 80) hC (zdk dk_X1_takesPoly 50 rfl) (q := 76) rfl rfl (fun _ => ?_) (fun _ => ?_)
  · refine x_weak (L' := [.ref r0, .int x1, .int x2, .int (x3 <<< (1 &&& 31)), .int x4]) ⟨Or.inr rfl, Or.inr rfl, Or.inr rfl, Or.inr rfl, Or.inr rfl, trivial⟩ ?_
    exact x_X1_takesPoly_80 hC hE hk0 h_r0 k28 hk28 _ _ _
  · refine x_iload_n (i := 3) rfl hC (zdk dk_X1_takesPoly 51 rfl) (q := 77) rfl ?_
    refine x_iload_n (i := 2) rfl hC (zdk dk_X1_takesPoly 52 rfl) (q := 78) rfl ?_
    refine x_ixor hC (zdk dk_X1_takesPoly 53 rfl) (q := 79) rfl ?_
    refine x_istore_n (i := 3) (L' := [.ref r0, .int x1, .int x2, .int ((x3 <<< (1 &&& 31)) ^^^ x2), .int x4]) (by decide) rfl hC (zdk dk_X1_takesPoly 54 rfl) (q := 80) rfl ?_
    refine x_weak (L' := [.ref r0, .int x1, .int x2, .int ((x3 <<< (1 &&& 31)) ^^^ x2), .int x4]) ⟨Or.inr rfl, Or.inr rfl, Or.inr rfl, Or.inr rfl, Or.inr rfl, trivial⟩ ?_
    exact x_X1_takesPoly_80 hC hE hk0 h_r0 k28 hk28 _ _ _
set_option maxRecDepth 100000 in
def f_X1_takesPoly_96  (r0 : Nat) (x1 : Int32) (x2 : Int32) (s0 : Int32) (M : Mem) : Option (Int32 × Mem) := zbz s0 (some (s0, M))
set_option maxRecDepth 100000 in
set_option maxHeartbeats 4000000 in
theorem x_X1_takesPoly_96 {κ : KX} {n : Nat} (hC : CX κ cX1_takesPoly RX1 5 (some .boolean) 0) (hE : zEnd κ n (0, 0)) (hk0 : zRk κ (0, 0)) {r0 : Nat} {x1 : Int32} {x2 : Int32} (h_r0 : zO n r0 1) (s0 : Int32) (M : Mem) : X κ 5 emI n (0, 0) 96 [.null, .null, .null, .null, .null] [.int s0] M (f_X1_takesPoly_96 r0 x1 x2 s0 M) := by
  unfold f_X1_takesPoly_96
  refine x_bz (fun hb7 => ?_)
  exact x_iret (ty := .boolean) hb7.1 hE hC (zdk dk_X1_takesPoly 63 rfl)
set_option maxRecDepth 100000 in
def f_X1_takesPoly_28  (r0 : Nat) (x1 : Int32) (x2 : Int32) : Nat → Int32 → Int32 → Mem → Option (Int32 × Mem)
  | 0, _, _, _ => none
  | f + 1, x3, x4, M => (if zI M r0 7 ≤ x4 then (if x3 = 1 then f_X1_takesPoly_96 r0 x1 x2 1 M else f_X1_takesPoly_96 r0 x1 x2 0 M) else (if x4 ≤ 0 then f_X1_takesPoly_49 (f_X1_takesPoly_28 r0 x1 x2 f) r0 x1 x2 x3 x4 M else (if x3 = 1 then some (0, M) else f_X1_takesPoly_49 (f_X1_takesPoly_28 r0 x1 x2 f) r0 x1 x2 x3 x4 M)))
set_option maxRecDepth 100000 in
set_option maxHeartbeats 4000000 in
theorem x_X1_takesPoly_28 {κ : KX} {n : Nat} (hC : CX κ cX1_takesPoly RX1 5 (some .boolean) 0) (hE : zEnd κ n (0, 0)) (hk0 : zRk κ (0, 0)) {r0 : Nat} {x1 : Int32} {x2 : Int32} (h_r0 : zO n r0 1) : ∀ (f : Nat) (x3 : Int32) (x4 : Int32) (M : Mem), X κ 5 emI n (0, 0) 28 [.ref r0, .int x1, .int x2, .int x3, .int x4] [] M (f_X1_takesPoly_28 r0 x1 x2 f x3 x4 M) := by
  intro f
  induction f with
  | zero => intros; exact x_none
  | succ f ih =>
    intro x3 x4 M 
    rw [f_X1_takesPoly_28]
    refine x_iload (i := 4) rfl hC (zdk dk_X1_takesPoly 21 rfl) (q := 30) rfl ?_
    refine x_aload_n (i := 0) rfl hC (zdk dk_X1_takesPoly 22 rfl) (q := 31) rfl ?_
    refine x_getI fl_RX1_32 (by decide) h_r0 hC (zdk dk_X1_takesPoly 23 rfl) (q := 34) rfl ?_
    refine x_icmp_ge (tgt := 86) hC (zdk dk_X1_takesPoly 24 rfl) (q := 37) rfl rfl (fun _ => ?_) (fun _ => ?_)
    · refine x_iload_n (i := 3) rfl hC (zdk dk_X1_takesPoly 57 rfl) (q := 87) rfl ?_
      refine x_iconst (i := 1) c_iconst_1 hC (zdk dk_X1_takesPoly 58 rfl) (q := 88) rfl ?_
      refine x_icmp_ne (tgt := 95) hC (zdk dk_X1_takesPoly 59 rfl) (q := 91) rfl rfl (fun _ => ?_) (fun _ => ?_)
      · refine x_iconst (i := 0) c_iconst_0 hC (zdk dk_X1_takesPoly 62 rfl) (q := 96) rfl ?_
        refine x_weak (L' := [.null, .null, .null, .null, .null]) ⟨Or.inl rfl, Or.inl rfl, Or.inl rfl, Or.inl rfl, Or.inl rfl, trivial⟩ ?_
        exact x_X1_takesPoly_96 hC hE hk0 h_r0 _ _
      · refine x_iconst (i := 1) c_iconst_1 hC (zdk dk_X1_takesPoly 60 rfl) (q := 92) rfl ?_
        refine x_goto (tgt := 96) hC (zdk dk_X1_takesPoly 61 rfl) rfl ?_
        refine x_weak (L' := [.null, .null, .null, .null, .null]) ⟨Or.inl rfl, Or.inl rfl, Or.inl rfl, Or.inl rfl, Or.inl rfl, trivial⟩ ?_
        exact x_X1_takesPoly_96 hC hE hk0 h_r0 _ _
    · refine x_iload (i := 4) rfl hC (zdk dk_X1_takesPoly 25 rfl) (q := 39) rfl ?_
      refine x_if_le (tgt := 49) hC (zdk dk_X1_takesPoly 26 rfl) (q := 42) rfl rfl (fun _ => ?_) (fun _ => ?_)
      · refine x_weak (L' := [.ref r0, .int x1, .int x2, .int x3, .int x4]) ⟨Or.inr rfl, Or.inr rfl, Or.inr rfl, Or.inr rfl, Or.inr rfl, trivial⟩ ?_
        exact x_X1_takesPoly_49 hC hE hk0 h_r0 (f_X1_takesPoly_28 r0 x1 x2 f) ih _ _ _
      · refine x_iload_n (i := 3) rfl hC (zdk dk_X1_takesPoly 27 rfl) (q := 43) rfl ?_
        refine x_iconst (i := 1) c_iconst_1 hC (zdk dk_X1_takesPoly 28 rfl) (q := 44) rfl ?_
        refine x_icmp_ne (tgt := 49) hC (zdk dk_X1_takesPoly 29 rfl) (q := 47) rfl rfl (fun _ => ?_) (fun _ => ?_)
        · refine x_weak (L' := [.ref r0, .int x1, .int x2, .int x3, .int x4]) ⟨Or.inr rfl, Or.inr rfl, Or.inr rfl, Or.inr rfl, Or.inr rfl, trivial⟩ ?_
          exact x_X1_takesPoly_49 hC hE hk0 h_r0 (f_X1_takesPoly_28 r0 x1 x2 f) ih _ _ _
        · refine x_iconst (i := 0) c_iconst_0 hC (zdk dk_X1_takesPoly 30 rfl) (q := 48) rfl ?_
          exact x_iret (ty := .boolean) rfl hE hC (zdk dk_X1_takesPoly 31 rfl)
set_option maxRecDepth 100000 in
def f_X1_takesPoly (r0 : Nat) (x1 : Int32) (x2 : Int32) (M : Mem) : Option (Int32 × Mem) := Option.bind (some (zsI M r0 6 x1)) fun M8 => Option.bind (some (zsI M8 r0 7 (((1 : Int32) <<< (x1 &&& 31)) - 1))) fun M9 => (if x2 >>> (x1 &&& 31) = 1 then f_X1_takesPoly_28 r0 x1 x2 1000000 1 0 M9 else some (0, M9))
set_option maxRecDepth 100000 in
set_option maxHeartbeats 4000000 in
theorem x_X1_takesPoly {κ : KX} {n : Nat} (hC : CX κ cX1_takesPoly RX1 5 (some .boolean) 0) (hE : zEnd κ n (0, 0)) (hk0 : zRk κ (0, 0)) (r0 : Nat) (x1 : Int32) (x2 : Int32) (M : Mem) (h_r0 : zO n r0 1) : X κ 5 emI n (0, 0) 0 [.ref r0, .int x1, .int x2, .null, .null] [] M (f_X1_takesPoly r0 x1 x2 M) := by
  unfold f_X1_takesPoly
  refine x_aload_n (i := 0) rfl hC (zdk dk_X1_takesPoly 0 rfl) (q := 1) rfl ?_
  refine x_iload_n (i := 1) rfl hC (zdk dk_X1_takesPoly 1 rfl) (q := 2) rfl ?_
  refine x_putI fl_RX1_28 ⟨rfl, rfl⟩ (by decide) (Or.inl rfl) h_r0 hC (zdk dk_X1_takesPoly 2 rfl) (q := 5) rfl ?_
  refine x_nmM (fun M8 => ?_)
  refine x_aload_n (i := 0) rfl hC (zdk dk_X1_takesPoly 3 rfl) (q := 6) rfl ?_
  refine x_iconst (i := 1) c_iconst_1 hC (zdk dk_X1_takesPoly 4 rfl) (q := 7) rfl ?_
  refine x_iload_n (i := 1) rfl hC (zdk dk_X1_takesPoly 5 rfl) (q := 8) rfl ?_
  refine x_ishl hC (zdk dk_X1_takesPoly 6 rfl) (q := 9) rfl ?_
  refine x_iconst (i := 1) c_iconst_1 hC (zdk dk_X1_takesPoly 7 rfl) (q := 10) rfl ?_
  refine x_isub hC (zdk dk_X1_takesPoly 8 rfl) (q := 11) rfl ?_
  refine x_putI fl_RX1_32 ⟨rfl, rfl⟩ (by decide) (Or.inl rfl) h_r0 hC (zdk dk_X1_takesPoly 9 rfl) (q := 14) rfl ?_
  refine x_nmM (fun M9 => ?_)
  refine x_iload_n (i := 2) rfl hC (zdk dk_X1_takesPoly 10 rfl) (q := 15) rfl ?_
  refine x_iload_n (i := 1) rfl hC (zdk dk_X1_takesPoly 11 rfl) (q := 16) rfl ?_
  refine x_ishr hC (zdk dk_X1_takesPoly 12 rfl) (q := 17) rfl ?_
  refine x_iconst (i := 1) c_iconst_1 hC (zdk dk_X1_takesPoly 13 rfl) (q := 18) rfl ?_
  refine x_icmp_eq (tgt := 23) hC (zdk dk_X1_takesPoly 14 rfl) (q := 21) rfl rfl (fun _ => ?_) (fun _ => ?_)
  · refine x_iconst (i := 1) c_iconst_1 hC (zdk dk_X1_takesPoly 17 rfl) (q := 24) rfl ?_
    refine x_istore_n (i := 3) (L' := [.ref r0, .int x1, .int x2, .int 1, .null]) (by decide) rfl hC (zdk dk_X1_takesPoly 18 rfl) (q := 25) rfl ?_
    refine x_iconst (i := 0) c_iconst_0 hC (zdk dk_X1_takesPoly 19 rfl) (q := 26) rfl ?_
    refine x_istore (i := 4) (L' := [.ref r0, .int x1, .int x2, .int 1, .int 0]) (by decide) rfl hC (zdk dk_X1_takesPoly 20 rfl) (q := 28) rfl ?_
    refine x_weak (L' := [.ref r0, .int x1, .int x2, .int 1, .int 0]) ⟨Or.inr rfl, Or.inr rfl, Or.inr rfl, Or.inr rfl, Or.inr rfl, trivial⟩ ?_
    exact x_X1_takesPoly_28 hC hE hk0 h_r0 _ _ _ _
  · refine x_iconst (i := 0) c_iconst_0 hC (zdk dk_X1_takesPoly 15 rfl) (q := 22) rfl ?_
    exact x_iret (ty := .boolean) rfl hE hC (zdk dk_X1_takesPoly 16 rfl)
set_option maxRecDepth 100000 in
set_option maxHeartbeats 4000000 in
theorem t_X1_takesPoly {n : Nat} {r0 : Nat} {x1 : Int32} {x2 : Int32} {M : Mem} (h_r0 : zO n r0 1) (x : (Int32 × Mem)) (hx : f_X1_takesPoly r0 x1 x2 M = some x) (l : Launch) (dC : Nat → ClassId) (dI : Nat → Nat → Nat) (b : zSg) : MT l dC dI b yX1_takesPoly cX1_takesPoly 5 (some .boolean) 0 0 0 n n [.ref r0, .int x1, .int x2] M (emI x).1 (emI x).2 :=
  MT.ofX (by decide +kernel) rfl (Nat.le_of_ble_eq_true rfl) (fun κ hC hF _ => x_X1_takesPoly hC (zEnd_of hF (Nat.le_refl _) (Nat.le_refl _)) (zRk_of hF (Nat.le_refl _) (Nat.le_refl _)) _ _ _ _ h_r0) x hx
set_option maxRecDepth 100000 in
def dt_X11_bitOf : List (Nat × Instr × Nat) := [(0, .lload_n 0, 1), (1, .iload_n 2, 1), (2, .lushr, 1), (3, .lconst 1, 1), (4, .land, 1), (5, .l2i, 1), (6, .ireturn, 1)]
set_option maxRecDepth 100000 in
theorem dk_X11_bitOf : dt_X11_bitOf.all (fun q => decide (decode cX11_bitOf q.1 = .ok q.2)) = true := by decide +kernel
set_option maxRecDepth 100000 in
def f_X11_bitOf (y0 : Int64) (x2 : Int32) (M : Mem) : Option (Int32 × Mem) := some (((zlush y0 x2) &&& 1).toInt32, M)
set_option maxRecDepth 100000 in
set_option maxHeartbeats 4000000 in
theorem x_X11_bitOf {κ : KX} {n : Nat} (hC : CX κ cX11_bitOf RX11 3 (some .int) 0) (hE : zEnd κ n (0, 0)) (hk0 : zRk κ (0, 0)) (y0 : Int64) (x2 : Int32) (M : Mem) : X κ 3 emI n (0, 0) 0 [.long y0, .null, .int x2] [] M (f_X11_bitOf y0 x2 M) := by
  unfold f_X11_bitOf
  refine x_lload_n (i := 0) rfl hC (zdk dk_X11_bitOf 0 rfl) (q := 1) rfl ?_
  refine x_iload_n (i := 2) rfl hC (zdk dk_X11_bitOf 1 rfl) (q := 2) rfl ?_
  refine x_lushr hC (zdk dk_X11_bitOf 2 rfl) (q := 3) rfl ?_
  refine x_lconst (i := 1) c_lconst_1 hC (zdk dk_X11_bitOf 3 rfl) (q := 4) rfl ?_
  refine x_land hC (zdk dk_X11_bitOf 4 rfl) (q := 5) rfl ?_
  refine x_l2i hC (zdk dk_X11_bitOf 5 rfl) (q := 6) rfl ?_
  exact x_iret (ty := .int) rfl hE hC (zdk dk_X11_bitOf 6 rfl)
set_option maxRecDepth 100000 in
set_option maxHeartbeats 4000000 in
theorem t_X11_bitOf {n : Nat} {y0 : Int64} {x2 : Int32} {M : Mem}  (x : (Int32 × Mem)) (hx : f_X11_bitOf y0 x2 M = some x) (l : Launch) (dC : Nat → ClassId) (dI : Nat → Nat → Nat) (b : zSg) : MT l dC dI b yX11_bitOf cX11_bitOf 3 (some .int) 0 0 0 n n [.long y0, .int x2] M (emI x).1 (emI x).2 :=
  MT.ofX (by decide +kernel) rfl (Nat.le_of_ble_eq_true rfl) (fun κ hC hF _ => x_X11_bitOf hC (zEnd_of hF (Nat.le_refl _) (Nat.le_refl _)) (zRk_of hF (Nat.le_refl _) (Nat.le_refl _)) _ _ _ ) x hx
set_option maxRecDepth 100000 in
def dt_X1_valueAt : List (Nat × Instr × Nat) := [(0, .iconst 0, 1), (1, .istore 4, 2), (3, .iconst 0, 1), (4, .istore 5, 2), (6, .iconst 0, 1), (7, .istore 6, 2), (9, .iload 6, 2), (11, .bipush 63, 2), (13, .if_icmp .ge 64, 3), (16, .lload_n 1, 1), (17, .iload 6, 2), (19, .lushr, 1), (20, .lconst 0, 1), (21, .lcmp, 1), (22, .ifCond .eq 55, 3), (25, .lload_n 1, 1), (26, .iload 6, 2), (28, .invokestatic 73, 3), (31, .iconst 1, 1), (32, .if_icmp .ne 15, 3), (35, .iload 4, 2), (37, .aload_n 0, 1), (38, .getfield 9, 3), (41, .iload 5, 2), (43, .iaload, 1), (44, .ixor, 1), (45, .istore 4, 2), (47, .iload 5, 2), (49, .iload_n 3, 1), (50, .iadd, 1), (51, .istore 5, 2), (53, .iload 5, 2), (55, .aload_n 0, 1), (56, .getfield 32, 3), (59, .if_icmp .lt 12, 3), (62, .iload 5, 2), (64, .aload_n 0, 1), (65, .getfield 32, 3), (68, .isub, 1), (69, .istore 5, 2), (71, .iinc 6 1, 3), (74, .goto (-65), 3), (77, .iload 4, 2), (79, .ireturn, 1)]
set_option maxRecDepth 100000 in
theorem dk_X1_valueAt : dt_X1_valueAt.all (fun q => decide (decode cX1_valueAt q.1 = .ok q.2)) = true := by decide +kernel
set_option maxRecDepth 100000 in
def f_X1_valueAt_71 (k9 : Int32 → Int32 → Int32 → Mem → Option (Int32 × Mem)) (r0 : Nat) (y1 : Int64) (x3 : Int32) (x4 : Int32) (x5 : Int32) (x6 : Int32) (M : Mem) : Option (Int32 × Mem) := k9 x4 x5 (x6 + 1) M
set_option maxRecDepth 100000 in
set_option maxHeartbeats 4000000 in
theorem x_X1_valueAt_71 {κ : KX} {n : Nat} (hC : CX κ cX1_valueAt RX1 7 (some .int) 1) (hE : zEnd κ n (0, 0)) (hk0 : zRk κ (0, 0)) {r0 : Nat} {y1 : Int64} {x3 : Int32} (h_r0 : zO n r0 1) (k9 : Int32 → Int32 → Int32 → Mem → Option (Int32 × Mem)) (hk9 : ∀ (x4 : Int32) (x5 : Int32) (x6 : Int32) (M : Mem), X κ 7 emI n (0, 0) 9 [.ref r0, .long y1, .null, .int x3, .int x4, .int x5, .int x6] [] M (k9 x4 x5 x6 M)) (x4 : Int32) (x5 : Int32) (x6 : Int32) (M : Mem) : X κ 7 emI n (0, 0) 71 [.ref r0, .long y1, .null, .int x3, .int x4, .int x5, .int x6] [] M (f_X1_valueAt_71 k9 r0 y1 x3 x4 x5 x6 M) := by
  unfold f_X1_valueAt_71
  refine x_iinc (i := 6) c_iconst_1 rfl (by decide) (L' := [.ref r0, .long y1, .null, .int x3, .int x4, .int x5, .int (x6 + 1)]) rfl hC (zdk dk_X1_valueAt 40 rfl) (q := 74) rfl ?_
  refine x_goto (tgt := 9) hC (zdk dk_X1_valueAt 41 rfl) rfl ?_
  refine x_weak (L' := [.ref r0, .long y1, .null, .int x3, .int x4, .int x5, .int (x6 + 1)]) ⟨Or.inr rfl, Or.inr rfl, Or.inl rfl, Or.inr rfl, Or.inr rfl, Or.inr rfl, Or.inr rfl, trivial⟩ ?_
  exact hk9 _ _ _ _
set_option maxRecDepth 100000 in
def f_X1_valueAt_47 (k9 : Int32 → Int32 → Int32 → Mem → Option (Int32 × Mem)) (r0 : Nat) (y1 : Int64) (x3 : Int32) (x4 : Int32) (x5 : Int32) (x6 : Int32) (M : Mem) : Option (Int32 × Mem) := (if x5 + x3 < zI M r0 7 then f_X1_valueAt_71 k9 r0 y1 x3 x4 (x5 + x3) x6 M else f_X1_valueAt_71 k9 r0 y1 x3 x4 ((x5 + x3) - (zI M r0 7)) x6 M)
set_option maxRecDepth 100000 in
set_option maxHeartbeats 4000000 in
theorem x_X1_valueAt_47 {κ : KX} {n : Nat} (hC : CX κ cX1_valueAt RX1 7 (some .int) 1) (hE : zEnd κ n (0, 0)) (hk0 : zRk κ (0, 0)) {r0 : Nat} {y1 : Int64} {x3 : Int32} (h_r0 : zO n r0 1) (k9 : Int32 → Int32 → Int32 → Mem → Option (Int32 × Mem)) (hk9 : ∀ (x4 : Int32) (x5 : Int32) (x6 : Int32) (M : Mem), X κ 7 emI n (0, 0) 9 [.ref r0, .long y1, .null, .int x3, .int x4, .int x5, .int x6] [] M (k9 x4 x5 x6 M)) (x4 : Int32) (x5 : Int32) (x6 : Int32) (M : Mem) : X κ 7 emI n (0, 0) 47 [.ref r0, .long y1, .null, .int x3, .int x4, .int x5, .int x6] [] M (f_X1_valueAt_47 k9 r0 y1 x3 x4 x5 x6 M) := by
  unfold f_X1_valueAt_47
  refine x_iload (i := 5) rfl hC (zdk dk_X1_valueAt 27 rfl) (q := 49) rfl ?_
  refine x_iload_n (i := 3) rfl hC (zdk dk_X1_valueAt 28 rfl) (q := 50) rfl ?_
  refine x_iadd hC (zdk dk_X1_valueAt 29 rfl) (q := 51) rfl ?_
  refine x_istore (i := 5) (L' := [.ref r0, .long y1, .null, .int x3, .int x4, .int (x5 + x3), .int x6]) (by decide) rfl hC (zdk dk_X1_valueAt 30 rfl) (q := 53) rfl ?_
  refine x_iload (i := 5) rfl hC (zdk dk_X1_valueAt 31 rfl) (q := 55) rfl ?_
  refine x_aload_n (i := 0) rfl hC (zdk dk_X1_valueAt 32 rfl) (q := 56) rfl ?_
  refine x_getI fl_RX1_32 (by decide) h_r0 hC (zdk dk_X1_valueAt 33 rfl) (q := 59) rfl ?_
  refine x_icmp_lt (tgt := 71) hC (zdk dk_X1_valueAt 34 rfl) (q := 62) rfl rfl (fun _ => ?_) (fun _ => ?_)
  · refine x_weak (L' := [.ref r0, .long y1, .null, .int x3, .int x4, .int (x5 + x3), .int x6]) ⟨Or.inr rfl, Or.inr rfl, Or.inl rfl, Or.inr rfl, Or.inr rfl, Or.inr rfl, Or.inr rfl, trivial⟩ ?_
    exact x_X1_valueAt_71 hC hE hk0 h_r0 k9 hk9 _ _ _ _
  · refine x_iload (i := 5) rfl hC (zdk dk_X1_valueAt 35 rfl) (q := 64) rfl ?_
    refine x_aload_n (i := 0) rfl hC (zdk dk_X1_valueAt 36 rfl) (q := 65) rfl ?_
    refine x_getI fl_RX1_32 (by decide) h_r0 hC (zdk dk_X1_valueAt 37 rfl) (q := 68) rfl ?_
    refine x_isub hC (zdk dk_X1_valueAt 38 rfl) (q := 69) rfl ?_
    refine x_istore (i := 5) (L' := [.ref r0, .long y1, .null, .int x3, .int x4, .int ((x5 + x3) - (zI M r0 7)), .int x6]) (by decide) rfl hC (zdk dk_X1_valueAt 39 rfl) (q := 71) rfl ?_
    refine x_weak (L' := [.ref r0, .long y1, .null, .int x3, .int x4, .int ((x5 + x3) - (zI M r0 7)), .int x6]) ⟨Or.inr rfl, Or.inr rfl, Or.inl rfl, Or.inr rfl, Or.inr rfl, Or.inr rfl, Or.inr rfl, trivial⟩ ?_
    exact x_X1_valueAt_71 hC hE hk0 h_r0 k9 hk9 _ _ _ _
set_option maxRecDepth 100000 in
def f_X1_valueAt_77  (r0 : Nat) (y1 : Int64) (x3 : Int32) (x4 : Int32) (M : Mem) : Option (Int32 × Mem) := some (x4, M)
set_option maxRecDepth 100000 in
set_option maxHeartbeats 4000000 in
theorem x_X1_valueAt_77 {κ : KX} {n : Nat} (hC : CX κ cX1_valueAt RX1 7 (some .int) 1) (hE : zEnd κ n (0, 0)) (hk0 : zRk κ (0, 0)) {r0 : Nat} {y1 : Int64} {x3 : Int32} (h_r0 : zO n r0 1) (x4 : Int32) (M : Mem) : X κ 7 emI n (0, 0) 77 [.null, .null, .null, .null, .int x4, .null, .null] [] M (f_X1_valueAt_77 r0 y1 x3 x4 M) := by
  unfold f_X1_valueAt_77
  refine x_iload (i := 4) rfl hC (zdk dk_X1_valueAt 42 rfl) (q := 79) rfl ?_
  exact x_iret (ty := .int) rfl hE hC (zdk dk_X1_valueAt 43 rfl)
set_option maxRecDepth 100000 in
def f_X1_valueAt_9  (r0 : Nat) (y1 : Int64) (x3 : Int32) : Nat → Int32 → Int32 → Int32 → Mem → Option (Int32 × Mem)
  | 0, _, _, _, _ => none
  | f + 1, x4, x5, x6, M => (if 63 ≤ x6 then f_X1_valueAt_77 r0 y1 x3 x4 M else (if lg_cmp (zlush y1 x6) 0 = 0 then f_X1_valueAt_77 r0 y1 x3 x4 M else Option.bind (f_X11_bitOf y1 x6 M) fun z1 => (if z1.1 = 1 then Option.bind (zrf z1.2 r0 0) fun q2 => Option.bind (zld q2 x5) fun k3 => f_X1_valueAt_47 (f_X1_valueAt_9 r0 y1 x3 f) r0 y1 x3 (x4 ^^^ (zI z1.2 q2 k3)) x5 x6 z1.2 else f_X1_valueAt_47 (f_X1_valueAt_9 r0 y1 x3 f) r0 y1 x3 x4 x5 x6 z1.2)))
set_option maxRecDepth 100000 in
set_option maxHeartbeats 4000000 in
theorem x_X1_valueAt_9 {κ : KX} {n : Nat} (hC : CX κ cX1_valueAt RX1 7 (some .int) 1) (hE : zEnd κ n (0, 0)) (hk0 : zRk κ (0, 0)) {r0 : Nat} {y1 : Int64} {x3 : Int32} (h_r0 : zO n r0 1) : ∀ (f : Nat) (x4 : Int32) (x5 : Int32) (x6 : Int32) (M : Mem), X κ 7 emI n (0, 0) 9 [.ref r0, .long y1, .null, .int x3, .int x4, .int x5, .int x6] [] M (f_X1_valueAt_9 r0 y1 x3 f x4 x5 x6 M) := by
  intro f
  induction f with
  | zero => intros; exact x_none
  | succ f ih =>
    intro x4 x5 x6 M 
    rw [f_X1_valueAt_9]
    refine x_iload (i := 6) rfl hC (zdk dk_X1_valueAt 6 rfl) (q := 11) rfl ?_
    refine x_bipush (i := 63) c_bipush_63 hC (zdk dk_X1_valueAt 7 rfl) (q := 13) rfl ?_
    refine x_icmp_ge (tgt := 77) hC (zdk dk_X1_valueAt 8 rfl) (q := 16) rfl rfl (fun _ => ?_) (fun _ => ?_)
    · refine x_weak (L' := [.null, .null, .null, .null, .int x4, .null, .null]) ⟨Or.inl rfl, Or.inl rfl, Or.inl rfl, Or.inl rfl, Or.inr rfl, Or.inl rfl, Or.inl rfl, trivial⟩ ?_
      exact x_X1_valueAt_77 hC hE hk0 h_r0 _ _
    · refine x_lload_n (i := 1) rfl hC (zdk dk_X1_valueAt 9 rfl) (q := 17) rfl ?_
      refine x_iload (i := 6) rfl hC (zdk dk_X1_valueAt 10 rfl) (q := 19) rfl ?_
      refine x_lushr hC (zdk dk_X1_valueAt 11 rfl) (q := 20) rfl ?_
      refine x_lconst (i := 0) c_lconst_0 hC (zdk dk_X1_valueAt 12 rfl) (q := 21) rfl ?_
      refine x_lcmp hC (zdk dk_X1_valueAt 13 rfl) (q := 22) rfl ?_
      refine x_if_eq (tgt := 77) hC (zdk dk_X1_valueAt 14 rfl) (q := 25) rfl rfl (fun _ => ?_) (fun _ => ?_)
      · refine x_weak (L' := [.null, .null, .null, .null, .int x4, .null, .null]) ⟨Or.inl rfl, Or.inl rfl, Or.inl rfl, Or.inl rfl, Or.inr rfl, Or.inl rfl, Or.inl rfl, trivial⟩ ?_
        exact x_X1_valueAt_77 hC hE hk0 h_r0 _ _
      · refine x_lload_n (i := 1) rfl hC (zdk dk_X1_valueAt 15 rfl) (q := 26) rfl ?_
        refine x_iload (i := 6) rfl hC (zdk dk_X1_valueAt 16 rfl) (q := 28) rfl ?_
        refine x_callSNi (as := [.long y1, .int x6]) cb_RX1_73 rfl (by decide) hk0 (fun x hx => t_X11_bitOf  x hx) hC (zdk dk_X1_valueAt 17 rfl) (q := 31) rfl rfl (Nat.le_of_ble_eq_true rfl) (fun z1 => ?_)
        refine x_iconst (i := 1) c_iconst_1 hC (zdk dk_X1_valueAt 18 rfl) (q := 32) rfl ?_
        refine x_icmp_ne (tgt := 47) hC (zdk dk_X1_valueAt 19 rfl) (q := 35) rfl rfl (fun _ => ?_) (fun _ => ?_)
        · refine x_weak (L' := [.ref r0, .long y1, .null, .int x3, .int x4, .int x5, .int x6]) ⟨Or.inr rfl, Or.inr rfl, Or.inl rfl, Or.inr rfl, Or.inr rfl, Or.inr rfl, Or.inr rfl, trivial⟩ ?_
          exact x_X1_valueAt_47 hC hE hk0 h_r0 (f_X1_valueAt_9 r0 y1 x3 f) ih _ _ _ _
        · refine x_iload (i := 4) rfl hC (zdk dk_X1_valueAt 20 rfl) (q := 37) rfl ?_
          refine x_aload_n (i := 0) rfl hC (zdk dk_X1_valueAt 21 rfl) (q := 38) rfl ?_
          refine x_getR (k := 20) fl_RX1_9 rfl h_r0 hC (zdk dk_X1_valueAt 22 rfl) (q := 41) rfl (fun q2 hq2 => ?_)
          refine x_iload (i := 5) rfl hC (zdk dk_X1_valueAt 23 rfl) (q := 43) rfl ?_
          refine x_iald hq2 hC (zdk dk_X1_valueAt 24 rfl) (q := 44) rfl (fun k3 _ => ?_)
          refine x_ixor hC (zdk dk_X1_valueAt 25 rfl) (q := 45) rfl ?_
          refine x_istore (i := 4) (L' := [.ref r0, .long y1, .null, .int x3, .int (x4 ^^^ (zI z1.2 q2 k3)), .int x5, .int x6]) (by decide) rfl hC (zdk dk_X1_valueAt 26 rfl) (q := 47) rfl ?_
          refine x_weak (L' := [.ref r0, .long y1, .null, .int x3, .int (x4 ^^^ (zI z1.2 q2 k3)), .int x5, .int x6]) ⟨Or.inr rfl, Or.inr rfl, Or.inl rfl, Or.inr rfl, Or.inr rfl, Or.inr rfl, Or.inr rfl, trivial⟩ ?_
          exact x_X1_valueAt_47 hC hE hk0 h_r0 (f_X1_valueAt_9 r0 y1 x3 f) ih _ _ _ _
set_option maxRecDepth 100000 in
def f_X1_valueAt (r0 : Nat) (y1 : Int64) (x3 : Int32) (M : Mem) : Option (Int32 × Mem) := f_X1_valueAt_9 r0 y1 x3 1000000 0 0 0 M
set_option maxRecDepth 100000 in
set_option maxHeartbeats 4000000 in
theorem x_X1_valueAt {κ : KX} {n : Nat} (hC : CX κ cX1_valueAt RX1 7 (some .int) 1) (hE : zEnd κ n (0, 0)) (hk0 : zRk κ (0, 0)) (r0 : Nat) (y1 : Int64) (x3 : Int32) (M : Mem) (h_r0 : zO n r0 1) : X κ 7 emI n (0, 0) 0 [.ref r0, .long y1, .null, .int x3, .null, .null, .null] [] M (f_X1_valueAt r0 y1 x3 M) := by
  unfold f_X1_valueAt
  refine x_iconst (i := 0) c_iconst_0 hC (zdk dk_X1_valueAt 0 rfl) (q := 1) rfl ?_
  refine x_istore (i := 4) (L' := [.ref r0, .long y1, .null, .int x3, .int 0, .null, .null]) (by decide) rfl hC (zdk dk_X1_valueAt 1 rfl) (q := 3) rfl ?_
  refine x_iconst (i := 0) c_iconst_0 hC (zdk dk_X1_valueAt 2 rfl) (q := 4) rfl ?_
  refine x_istore (i := 5) (L' := [.ref r0, .long y1, .null, .int x3, .int 0, .int 0, .null]) (by decide) rfl hC (zdk dk_X1_valueAt 3 rfl) (q := 6) rfl ?_
  refine x_iconst (i := 0) c_iconst_0 hC (zdk dk_X1_valueAt 4 rfl) (q := 7) rfl ?_
  refine x_istore (i := 6) (L' := [.ref r0, .long y1, .null, .int x3, .int 0, .int 0, .int 0]) (by decide) rfl hC (zdk dk_X1_valueAt 5 rfl) (q := 9) rfl ?_
  refine x_weak (L' := [.ref r0, .long y1, .null, .int x3, .int 0, .int 0, .int 0]) ⟨Or.inr rfl, Or.inr rfl, Or.inl rfl, Or.inr rfl, Or.inr rfl, Or.inr rfl, Or.inr rfl, trivial⟩ ?_
  exact x_X1_valueAt_9 hC hE hk0 h_r0 _ _ _ _ _
set_option maxRecDepth 100000 in
set_option maxHeartbeats 4000000 in
theorem t_X1_valueAt {n : Nat} {r0 : Nat} {y1 : Int64} {x3 : Int32} {M : Mem} (h_r0 : zO n r0 1) (x : (Int32 × Mem)) (hx : f_X1_valueAt r0 y1 x3 M = some x) (l : Launch) (dC : Nat → ClassId) (dI : Nat → Nat → Nat) (b : zSg) : MT l dC dI b yX1_valueAt cX1_valueAt 7 (some .int) 1 0 0 n n [.ref r0, .long y1, .int x3] M (emI x).1 (emI x).2 :=
  MT.ofX (by decide +kernel) rfl (Nat.le_of_ble_eq_true rfl) (fun κ hC hF _ => x_X1_valueAt hC (zEnd_of hF (Nat.le_refl _) (Nat.le_refl _)) (zRk_of hF (Nat.le_refl _) (Nat.le_refl _)) _ _ _ _ h_r0) x hx
set_option maxRecDepth 100000 in
def dt_X1_leastPolynomial : List (Nat × Instr × Nat) := [(0, .iconst 2, 1), (1, .istore_n 2, 1), (2, .iload_n 2, 1), (3, .iconst 2, 1), (4, .aload_n 0, 1), (5, .getfield 28, 3), (8, .ishl, 1), (9, .if_icmp .ge 21, 3), (12, .aload_n 0, 1), (13, .iload_n 2, 1), (14, .i2l, 1), (15, .iload_n 1, 1), (16, .invokevirtual 45, 3), (19, .ifCond .ne 5, 3), (22, .iload_n 2, 1), (23, .ireturn, 1), (24, .iinc 2 1, 3), (27, .goto (-25), 3), (30, .iconst 0, 1), (31, .ireturn, 1)]
set_option maxRecDepth 100000 in
theorem dk_X1_leastPolynomial : dt_X1_leastPolynomial.all (fun q => decide (decode cX1_leastPolynomial q.1 = .ok q.2)) = true := by decide +kernel
set_option maxRecDepth 100000 in
def f_X1_leastPolynomial_2  (r0 : Nat) (x1 : Int32) : Nat → Int32 → Mem → Option (Int32 × Mem)
  | 0, _, _ => none
  | f + 1, x2, M => (if (2 : Int32) <<< ((zI M r0 6) &&& 31) ≤ x2 then some (0, M) else Option.bind (f_X1_valueAt r0 x2.toInt64 x1 M) fun z1 => (if z1.1 = 0 then some (x2, z1.2) else (f_X1_leastPolynomial_2 r0 x1 f) (x2 + 1) z1.2))
set_option maxRecDepth 100000 in
set_option maxHeartbeats 4000000 in
theorem x_X1_leastPolynomial_2 {κ : KX} {n : Nat} (hC : CX κ cX1_leastPolynomial RX1 3 (some .int) 2) (hE : zEnd κ n (0, 0)) (hk0 : zRk κ (0, 0)) {r0 : Nat} {x1 : Int32} (h_r0 : zO n r0 1) : ∀ (f : Nat) (x2 : Int32) (M : Mem), X κ 3 emI n (0, 0) 2 [.ref r0, .int x1, .int x2] [] M (f_X1_leastPolynomial_2 r0 x1 f x2 M) := by
  intro f
  induction f with
  | zero => intros; exact x_none
  | succ f ih =>
    intro x2 M 
    rw [f_X1_leastPolynomial_2]
    refine x_iload_n (i := 2) rfl hC (zdk dk_X1_leastPolynomial 2 rfl) (q := 3) rfl ?_
    refine x_iconst (i := 2) c_iconst_2 hC (zdk dk_X1_leastPolynomial 3 rfl) (q := 4) rfl ?_
    refine x_aload_n (i := 0) rfl hC (zdk dk_X1_leastPolynomial 4 rfl) (q := 5) rfl ?_
    refine x_getI fl_RX1_28 (by decide) h_r0 hC (zdk dk_X1_leastPolynomial 5 rfl) (q := 8) rfl ?_
    refine x_ishl hC (zdk dk_X1_leastPolynomial 6 rfl) (q := 9) rfl ?_
    refine x_icmp_ge (tgt := 30) hC (zdk dk_X1_leastPolynomial 7 rfl) (q := 12) rfl rfl (fun _ => ?_) (fun _ => ?_)
    · refine x_iconst (i := 0) c_iconst_0 hC (zdk dk_X1_leastPolynomial 18 rfl) (q := 31) rfl ?_
      exact x_iret (ty := .int) rfl hE hC (zdk dk_X1_leastPolynomial 19 rfl)
    · refine x_aload_n (i := 0) rfl hC (zdk dk_X1_leastPolynomial 8 rfl) (q := 13) rfl ?_
      refine x_iload_n (i := 2) rfl hC (zdk dk_X1_leastPolynomial 9 rfl) (q := 14) rfl ?_
      refine x_i2l hC (zdk dk_X1_leastPolynomial 10 rfl) (q := 15) rfl ?_
      refine x_iload_n (i := 1) rfl hC (zdk dk_X1_leastPolynomial 11 rfl) (q := 16) rfl ?_
      refine x_callVi (as := [.long x2.toInt64, .int x1]) cb_RX1_45 rfl (by decide) hk0 h_r0 (fun x hx => t_X1_valueAt h_r0 x hx) hC (zdk dk_X1_leastPolynomial 12 rfl) (q := 19) rfl rfl (Nat.le_of_ble_eq_true rfl) (fun z1 => ?_)
      refine x_if_ne (tgt := 24) hC (zdk dk_X1_leastPolynomial 13 rfl) (q := 22) rfl rfl (fun _ => ?_) (fun _ => ?_)
      · refine x_iinc (i := 2) c_iconst_1 rfl (by decide) (L' := [.ref r0, .int x1, .int (x2 + 1)]) rfl hC (zdk dk_X1_leastPolynomial 16 rfl) (q := 27) rfl ?_
        refine x_goto (tgt := 2) hC (zdk dk_X1_leastPolynomial 17 rfl) rfl ?_
        refine x_weak (L' := [.ref r0, .int x1, .int (x2 + 1)]) ⟨Or.inr rfl, Or.inr rfl, Or.inr rfl, trivial⟩ ?_
        exact ih _ _
      · refine x_iload_n (i := 2) rfl hC (zdk dk_X1_leastPolynomial 14 rfl) (q := 23) rfl ?_
        exact x_iret (ty := .int) rfl hE hC (zdk dk_X1_leastPolynomial 15 rfl)
set_option maxRecDepth 100000 in
def f_X1_leastPolynomial (r0 : Nat) (x1 : Int32) (M : Mem) : Option (Int32 × Mem) := f_X1_leastPolynomial_2 r0 x1 1000000 2 M
set_option maxRecDepth 100000 in
set_option maxHeartbeats 4000000 in
theorem x_X1_leastPolynomial {κ : KX} {n : Nat} (hC : CX κ cX1_leastPolynomial RX1 3 (some .int) 2) (hE : zEnd κ n (0, 0)) (hk0 : zRk κ (0, 0)) (r0 : Nat) (x1 : Int32) (M : Mem) (h_r0 : zO n r0 1) : X κ 3 emI n (0, 0) 0 [.ref r0, .int x1, .null] [] M (f_X1_leastPolynomial r0 x1 M) := by
  unfold f_X1_leastPolynomial
  refine x_iconst (i := 2) c_iconst_2 hC (zdk dk_X1_leastPolynomial 0 rfl) (q := 1) rfl ?_
  refine x_istore_n (i := 2) (L' := [.ref r0, .int x1, .int 2]) (by decide) rfl hC (zdk dk_X1_leastPolynomial 1 rfl) (q := 2) rfl ?_
  refine x_weak (L' := [.ref r0, .int x1, .int 2]) ⟨Or.inr rfl, Or.inr rfl, Or.inr rfl, trivial⟩ ?_
  exact x_X1_leastPolynomial_2 hC hE hk0 h_r0 _ _ _
set_option maxRecDepth 100000 in
set_option maxHeartbeats 4000000 in
theorem t_X1_leastPolynomial {n : Nat} {r0 : Nat} {x1 : Int32} {M : Mem} (h_r0 : zO n r0 1) (x : (Int32 × Mem)) (hx : f_X1_leastPolynomial r0 x1 M = some x) (l : Launch) (dC : Nat → ClassId) (dI : Nat → Nat → Nat) (b : zSg) : MT l dC dI b yX1_leastPolynomial cX1_leastPolynomial 3 (some .int) 2 0 0 n n [.ref r0, .int x1] M (emI x).1 (emI x).2 :=
  MT.ofX (by decide +kernel) rfl (Nat.le_of_ble_eq_true rfl) (fun κ hC hF _ => x_X1_leastPolynomial hC (zEnd_of hF (Nat.le_refl _) (Nat.le_refl _)) (zRk_of hF (Nat.le_refl _) (Nat.le_refl _)) _ _ _ h_r0) x hx
set_option maxRecDepth 100000 in
def dt_X1_multiplyDivisor : List (Nat × Instr × Nat) := [(0, .lconst 0, 1), (1, .lstore_n 2, 1), (2, .iconst 0, 1), (3, .istore 4, 2), (5, .iload 4, 2), (7, .aload_n 0, 1), (8, .getfield 28, 3), (11, .if_icmp .gt 29, 3), (14, .iload_n 1, 1), (15, .iload 4, 2), (17, .ishr, 1), (18, .iconst 1, 1), (19, .iand, 1), (20, .iconst 1, 1), (21, .if_icmp .ne 13, 3), (24, .lload_n 2, 1), (25, .aload_n 0, 1), (26, .getfield 38, 3), (29, .iload 4, 2), (31, .lshl, 1), (32, .lxor, 1), (33, .lstore_n 2, 1), (34, .iinc 4 1, 3), (37, .goto (-32), 3), (40, .aload_n 0, 1), (41, .lload_n 2, 1), (42, .putfield 38, 3), (45, .iconst 0, 1), (46, .istore 4, 2), (48, .iload 4, 2), (50, .bipush 63, 2), (52, .if_icmp .ge 25, 3), (55, .lload_n 2, 1), (56, .iload 4, 2), (58, .invokestatic 73, 3), (61, .iconst 1, 1), (62, .if_icmp .ne 9, 3), (65, .aload_n 0, 1), (66, .iload 4, 2), (68, .putfield 42, 3), (71, .iinc 4 1, 3), (74, .goto (-26), 3), (77, .return_, 1)]
set_option maxRecDepth 100000 in
theorem dk_X1_multiplyDivisor : dt_X1_multiplyDivisor.all (fun q => decide (decode cX1_multiplyDivisor q.1 = .ok q.2)) = true := by decide +kernel
set_option maxRecDepth 100000 in
def f_X1_multiplyDivisor_34 (k5 : Int64 → Int32 → Mem → Option Mem) (r0 : Nat) (x1 : Int32) (y2 : Int64) (x4 : Int32) (M : Mem) : Option Mem := k5 y2 (x4 + 1) M
set_option maxRecDepth 100000 in
set_option maxHeartbeats 4000000 in
theorem x_X1_multiplyDivisor_34 {κ : KX} {n : Nat} (hC : CX κ cX1_multiplyDivisor RX1 5 none 1) (hE : zEnd κ n (0, 0)) (hk0 : zRk κ (0, 0)) {r0 : Nat} {x1 : Int32} (h_r0 : zO n r0 1) (k5 : Int64 → Int32 → Mem → Option Mem) (hk5 : ∀ (y2 : Int64) (x4 : Int32) (M : Mem), X κ 5 emV n (0, 0) 5 [.ref r0, .int x1, .long y2, .null, .int x4] [] M (k5 y2 x4 M)) (y2 : Int64) (x4 : Int32) (M : Mem) : X κ 5 emV n (0, 0) 34 [.ref r0, .int x1, .long y2, .null, .int x4] [] M (f_X1_multiplyDivisor_34 k5 r0 x1 y2 x4 M) := by
  unfold f_X1_multiplyDivisor_34
  refine x_iinc (i := 4) c_iconst_1 rfl (by decide) (L' := [.ref r0, .int x1, .long y2, .null, .int (x4 + 1)]) rfl hC (zdk dk_X1_multiplyDivisor 22 rfl) (q := 37) rfl ?_
  refine x_goto (tgt := 5) hC (zdk dk_X1_multiplyDivisor 23 rfl) rfl ?_
  refine x_weak (L' := [.ref r0, .int x1, .long y2, .null, .int (x4 + 1)]) ⟨Or.inr rfl, Or.inr rfl, Or.inr rfl, Or.inl rfl, Or.inr rfl, trivial⟩ ?_
  exact hk5 _ _ _
set_option maxRecDepth 100000 in
def f_X1_multiplyDivisor_71 (k48 : Int64 → Int32 → Mem → Option Mem) (r0 : Nat) (x1 : Int32) (y2 : Int64) (x4 : Int32) (M : Mem) : Option Mem := k48 y2 (x4 + 1) M
set_option maxRecDepth 100000 in
set_option maxHeartbeats 4000000 in
theorem x_X1_multiplyDivisor_71 {κ : KX} {n : Nat} (hC : CX κ cX1_multiplyDivisor RX1 5 none 1) (hE : zEnd κ n (0, 0)) (hk0 : zRk κ (0, 0)) {r0 : Nat} {x1 : Int32} (h_r0 : zO n r0 1) (k48 : Int64 → Int32 → Mem → Option Mem) (hk48 : ∀ (y2 : Int64) (x4 : Int32) (M : Mem), X κ 5 emV n (0, 0) 48 [.ref r0, .null, .long y2, .null, .int x4] [] M (k48 y2 x4 M)) (y2 : Int64) (x4 : Int32) (M : Mem) : X κ 5 emV n (0, 0) 71 [.ref r0, .null, .long y2, .null, .int x4] [] M (f_X1_multiplyDivisor_71 k48 r0 x1 y2 x4 M) := by
  unfold f_X1_multiplyDivisor_71
  refine x_iinc (i := 4) c_iconst_1 rfl (by decide) (L' := [.ref r0, .null, .long y2, .null, .int (x4 + 1)]) rfl hC (zdk dk_X1_multiplyDivisor 40 rfl) (q := 74) rfl ?_
  refine x_goto (tgt := 48) hC (zdk dk_X1_multiplyDivisor 41 rfl) rfl ?_
  refine x_weak (L' := [.ref r0, .null, .long y2, .null, .int (x4 + 1)]) ⟨Or.inr rfl, Or.inl rfl, Or.inr rfl, Or.inl rfl, Or.inr rfl, trivial⟩ ?_
  exact hk48 _ _ _
set_option maxRecDepth 100000 in
def f_X1_multiplyDivisor_48  (r0 : Nat) (x1 : Int32) : Nat → Int64 → Int32 → Mem → Option Mem
  | 0, _, _, _ => none
  | f + 1, y2, x4, M => (if 63 ≤ x4 then some M else Option.bind (f_X11_bitOf y2 x4 M) fun z1 => (if z1.1 = 1 then Option.bind (some (zsI z1.2 r0 9 x4)) fun M2 => f_X1_multiplyDivisor_71 (f_X1_multiplyDivisor_48 r0 x1 f) r0 x1 y2 x4 M2 else f_X1_multiplyDivisor_71 (f_X1_multiplyDivisor_48 r0 x1 f) r0 x1 y2 x4 z1.2))
set_option maxRecDepth 100000 in
set_option maxHeartbeats 4000000 in
theorem x_X1_multiplyDivisor_48 {κ : KX} {n : Nat} (hC : CX κ cX1_multiplyDivisor RX1 5 none 1) (hE : zEnd κ n (0, 0)) (hk0 : zRk κ (0, 0)) {r0 : Nat} {x1 : Int32} (h_r0 : zO n r0 1) : ∀ (f : Nat) (y2 : Int64) (x4 : Int32) (M : Mem), X κ 5 emV n (0, 0) 48 [.ref r0, .null, .long y2, .null, .int x4] [] M (f_X1_multiplyDivisor_48 r0 x1 f y2 x4 M) := by
  intro f
  induction f with
  | zero => intros; exact x_none
  | succ f ih =>
    intro y2 x4 M 
    rw [f_X1_multiplyDivisor_48]
    refine x_iload (i := 4) rfl hC (zdk dk_X1_multiplyDivisor 29 rfl) (q := 50) rfl ?_
    refine x_bipush (i := 63) c_bipush_63 hC (zdk dk_X1_multiplyDivisor 30 rfl) (q := 52) rfl ?_
    refine x_icmp_ge (tgt := 77) hC (zdk dk_X1_multiplyDivisor 31 rfl) (q := 55) rfl rfl (fun _ => ?_) (fun _ => ?_)
    · exact x_vret hE hC (zdk dk_X1_multiplyDivisor 42 rfl)
    · refine x_lload_n (i := 2) rfl hC (zdk dk_X1_multiplyDivisor 32 rfl) (q := 56) rfl ?_
      refine x_iload (i := 4) rfl hC (zdk dk_X1_multiplyDivisor 33 rfl) (q := 58) rfl ?_
      refine x_callSNi (as := [.long y2, .int x4]) cb_RX1_73 rfl (by decide) hk0 (fun x hx => t_X11_bitOf  x hx) hC (zdk dk_X1_multiplyDivisor 34 rfl) (q := 61) rfl rfl (Nat.le_of_ble_eq_true rfl) (fun z1 => ?_)
      refine x_iconst (i := 1) c_iconst_1 hC (zdk dk_X1_multiplyDivisor 35 rfl) (q := 62) rfl ?_
      refine x_icmp_ne (tgt := 71) hC (zdk dk_X1_multiplyDivisor 36 rfl) (q := 65) rfl rfl (fun _ => ?_) (fun _ => ?_)
      · refine x_weak (L' := [.ref r0, .null, .long y2, .null, .int x4]) ⟨Or.inr rfl, Or.inl rfl, Or.inr rfl, Or.inl rfl, Or.inr rfl, trivial⟩ ?_
        exact x_X1_multiplyDivisor_71 hC hE hk0 h_r0 (f_X1_multiplyDivisor_48 r0 x1 f) ih _ _ _
      · refine x_aload_n (i := 0) rfl hC (zdk dk_X1_multiplyDivisor 37 rfl) (q := 66) rfl ?_
        refine x_iload (i := 4) rfl hC (zdk dk_X1_multiplyDivisor 38 rfl) (q := 68) rfl ?_
        refine x_putI fl_RX1_42 ⟨rfl, rfl⟩ (by decide) (Or.inl rfl) h_r0 hC (zdk dk_X1_multiplyDivisor 39 rfl) (q := 71) rfl ?_
        refine x_nmM (fun M2 => ?_)
        refine x_weak (L' := [.ref r0, .null, .long y2, .null, .int x4]) ⟨Or.inr rfl, Or.inl rfl, Or.inr rfl, Or.inl rfl, Or.inr rfl, trivial⟩ ?_
        exact x_X1_multiplyDivisor_71 hC hE hk0 h_r0 (f_X1_multiplyDivisor_48 r0 x1 f) ih _ _ _
set_option maxRecDepth 100000 in
def f_X1_multiplyDivisor_5  (r0 : Nat) (x1 : Int32) : Nat → Int64 → Int32 → Mem → Option Mem
  | 0, _, _, _ => none
  | f + 1, y2, x4, M => (if zI M r0 6 < x4 then Option.bind (some (zsL M r0 12 y2)) fun M3 => f_X1_multiplyDivisor_48 r0 x1 1000000 y2 0 M3 else (if (x1 >>> (x4 &&& 31)) &&& 1 = 1 then Option.bind (some (y2 ^^^ ((zL M r0 12) <<< (x4.toInt64 &&& 63)))) fun (v4 : Int64) => f_X1_multiplyDivisor_34 (f_X1_multiplyDivisor_5 r0 x1 f) r0 x1 v4 x4 M else f_X1_multiplyDivisor_34 (f_X1_multiplyDivisor_5 r0 x1 f) r0 x1 y2 x4 M))
set_option maxRecDepth 100000 in
set_option maxHeartbeats 4000000 in
theorem x_X1_multiplyDivisor_5 {κ : KX} {n : Nat} (hC : CX κ cX1_multiplyDivisor RX1 5 none 1) (hE : zEnd κ n (0, 0)) (hk0 : zRk κ (0, 0)) {r0 : Nat} {x1 : Int32} (h_r0 : zO n r0 1) : ∀ (f : Nat) (y2 : Int64) (x4 : Int32) (M : Mem), X κ 5 emV n (0, 0) 5 [.ref r0, .int x1, .long y2, .null, .int x4] [] M (f_X1_multiplyDivisor_5 r0 x1 f y2 x4 M) := by
  intro f
  induction f with
  | zero => intros; exact x_none
  | succ f ih =>
    intro y2 x4 M 
    rw [f_X1_multiplyDivisor_5]
    refine x_iload (i := 4) rfl hC (zdk dk_X1_multiplyDivisor 4 rfl) (q := 7) rfl ?_
    refine x_aload_n (i := 0) rfl hC (zdk dk_X1_multiplyDivisor 5 rfl) (q := 8) rfl ?_
    refine x_getI fl_RX1_28 (by decide) h_r0 hC (zdk dk_X1_multiplyDivisor 6 rfl) (q := 11) rfl ?_
    refine x_icmp_gt (tgt := 40) hC (zdk dk_X1_multiplyDivisor 7 rfl) (q := 14) rfl rfl (fun _ => ?_) (fun _ => ?_)
    · refine x_aload_n (i := 0) rfl hC (zdk dk_X1_multiplyDivisor 24 rfl) (q := 41) rfl ?_
      refine x_lload_n (i := 2) rfl hC (zdk dk_X1_multiplyDivisor 25 rfl) (q := 42) rfl ?_
      refine x_putL fl_RX1_38 ⟨rfl, rfl⟩ (Or.inl rfl) h_r0 hC (zdk dk_X1_multiplyDivisor 26 rfl) (q := 45) rfl ?_
      refine x_nmM (fun M3 => ?_)
      refine x_iconst (i := 0) c_iconst_0 hC (zdk dk_X1_multiplyDivisor 27 rfl) (q := 46) rfl ?_
      refine x_istore (i := 4) (L' := [.ref r0, .int x1, .long y2, .null, .int 0]) (by decide) rfl hC (zdk dk_X1_multiplyDivisor 28 rfl) (q := 48) rfl ?_
      refine x_weak (L' := [.ref r0, .null, .long y2, .null, .int 0]) ⟨Or.inr rfl, Or.inl rfl, Or.inr rfl, Or.inl rfl, Or.inr rfl, trivial⟩ ?_
      exact x_X1_multiplyDivisor_48 hC hE hk0 h_r0 _ _ _ _
    · refine x_iload_n (i := 1) rfl hC (zdk dk_X1_multiplyDivisor 8 rfl) (q := 15) rfl ?_
      refine x_iload (i := 4) rfl hC (zdk dk_X1_multiplyDivisor 9 rfl) (q := 17) rfl ?_
      refine x_ishr hC (zdk dk_X1_multiplyDivisor 10 rfl) (q := 18) rfl ?_
      refine x_iconst (i := 1) c_iconst_1 hC (zdk dk_X1_multiplyDivisor 11 rfl) (q := 19) rfl ?_
      refine x_iand hC (zdk dk_X1_multiplyDivisor 12 rfl) (q := 20) rfl ?_
      refine x_iconst (i := 1) c_iconst_1 hC (zdk dk_X1_multiplyDivisor 13 rfl) (q := 21) rfl ?_
      refine x_icmp_ne (tgt := 34) hC (zdk dk_X1_multiplyDivisor 14 rfl) (q := 24) rfl rfl (fun _ => ?_) (fun _ => ?_)
      · refine x_weak (L' := [.ref r0, .int x1, .long y2, .null, .int x4]) ⟨Or.inr rfl, Or.inr rfl, Or.inr rfl, Or.inl rfl, Or.inr rfl, trivial⟩ ?_
        exact x_X1_multiplyDivisor_34 hC hE hk0 h_r0 (f_X1_multiplyDivisor_5 r0 x1 f) ih _ _ _
      · refine x_lload_n (i := 2) rfl hC (zdk dk_X1_multiplyDivisor 15 rfl) (q := 25) rfl ?_
        refine x_aload_n (i := 0) rfl hC (zdk dk_X1_multiplyDivisor 16 rfl) (q := 26) rfl ?_
        refine x_getL fl_RX1_38 h_r0 hC (zdk dk_X1_multiplyDivisor 17 rfl) (q := 29) rfl ?_
        refine x_iload (i := 4) rfl hC (zdk dk_X1_multiplyDivisor 18 rfl) (q := 31) rfl ?_
        refine x_lshl hC (zdk dk_X1_multiplyDivisor 19 rfl) (q := 32) rfl ?_
        refine x_lxor hC (zdk dk_X1_multiplyDivisor 20 rfl) (q := 33) rfl ?_
        refine x_lstore_n (i := 2) (L' := [.ref r0, .int x1, .long (y2 ^^^ ((zL M r0 12) <<< (x4.toInt64 &&& 63))), .null, .int x4]) (by decide) rfl hC (zdk dk_X1_multiplyDivisor 21 rfl) (q := 34) rfl ?_
        refine x_nmJ (fun v4 => [.ref r0, .int x1, .long v4, .null, .int x4]) rfl (fun v4 => ?_)
        refine x_weak (L' := [.ref r0, .int x1, .long v4, .null, .int x4]) ⟨Or.inr rfl, Or.inr rfl, Or.inr rfl, Or.inl rfl, Or.inr rfl, trivial⟩ ?_
        exact x_X1_multiplyDivisor_34 hC hE hk0 h_r0 (f_X1_multiplyDivisor_5 r0 x1 f) ih _ _ _
set_option maxRecDepth 100000 in
def f_X1_multiplyDivisor (r0 : Nat) (x1 : Int32) (M : Mem) : Option Mem := f_X1_multiplyDivisor_5 r0 x1 1000000 0 0 M
set_option maxRecDepth 100000 in
set_option maxHeartbeats 4000000 in
theorem x_X1_multiplyDivisor {κ : KX} {n : Nat} (hC : CX κ cX1_multiplyDivisor RX1 5 none 1) (hE : zEnd κ n (0, 0)) (hk0 : zRk κ (0, 0)) (r0 : Nat) (x1 : Int32) (M : Mem) (h_r0 : zO n r0 1) : X κ 5 emV n (0, 0) 0 [.ref r0, .int x1, .null, .null, .null] [] M (f_X1_multiplyDivisor r0 x1 M) := by
  unfold f_X1_multiplyDivisor
  refine x_lconst (i := 0) c_lconst_0 hC (zdk dk_X1_multiplyDivisor 0 rfl) (q := 1) rfl ?_
  refine x_lstore_n (i := 2) (L' := [.ref r0, .int x1, .long 0, .null, .null]) (by decide) rfl hC (zdk dk_X1_multiplyDivisor 1 rfl) (q := 2) rfl ?_
  refine x_iconst (i := 0) c_iconst_0 hC (zdk dk_X1_multiplyDivisor 2 rfl) (q := 3) rfl ?_
  refine x_istore (i := 4) (L' := [.ref r0, .int x1, .long 0, .null, .int 0]) (by decide) rfl hC (zdk dk_X1_multiplyDivisor 3 rfl) (q := 5) rfl ?_
  refine x_weak (L' := [.ref r0, .int x1, .long 0, .null, .int 0]) ⟨Or.inr rfl, Or.inr rfl, Or.inr rfl, Or.inl rfl, Or.inr rfl, trivial⟩ ?_
  exact x_X1_multiplyDivisor_5 hC hE hk0 h_r0 _ _ _ _
set_option maxRecDepth 100000 in
set_option maxHeartbeats 4000000 in
theorem t_X1_multiplyDivisor {n : Nat} {r0 : Nat} {x1 : Int32} {M : Mem} (h_r0 : zO n r0 1) (x : Mem) (hx : f_X1_multiplyDivisor r0 x1 M = some x) (l : Launch) (dC : Nat → ClassId) (dI : Nat → Nat → Nat) (b : zSg) : MT l dC dI b yX1_multiplyDivisor cX1_multiplyDivisor 5 none 1 0 0 n n [.ref r0, .int x1] M (emV x).1 (emV x).2 :=
  MT.ofX (by decide +kernel) rfl (Nat.le_of_ble_eq_true rfl) (fun κ hC hF _ => x_X1_multiplyDivisor hC (zEnd_of hF (Nat.le_refl _) (Nat.le_refl _)) (zRk_of hF (Nat.le_refl _) (Nat.le_refl _)) _ _ _ h_r0) x hx
set_option maxRecDepth 100000 in
def dt_X1_takesMends : List (Nat × Instr × Nat) := [(0, .aload_n 0, 1), (1, .iload_n 1, 1), (2, .putfield 35, 3), (5, .aload_n 0, 1), (6, .lconst 1, 1), (7, .putfield 38, 3), (10, .aload_n 0, 1), (11, .iconst 0, 1), (12, .putfield 42, 3), (15, .iconst 1, 1), (16, .istore_n 2, 1), (17, .iload_n 2, 1), (18, .iconst 2, 1), (19, .iload_n 1, 1), (20, .imul, 1), (21, .if_icmp .gt 49, 3), (24, .iload_n 2, 1), (25, .aload_n 0, 1), (26, .getfield 32, 3), (29, .if_icmp .ge 7, 3), (32, .iload_n 2, 1), (33, .goto 9, 3), (36, .iload_n 2, 1), (37, .aload_n 0, 1), (38, .getfield 32, 3), (41, .isub, 1), (42, .istore_n 3, 1), (43, .aload_n 0, 1), (44, .aload_n 0, 1), (45, .getfield 38, 3), (48, .iload_n 3, 1), (49, .invokevirtual 45, 3), (52, .ifCond .eq 12, 3), (55, .aload_n 0, 1), (56, .aload_n 0, 1), (57, .iload_n 3, 1), (58, .invokevirtual 49, 3), (61, .invokevirtual 53, 3), (64, .iinc 2 1, 3), (67, .goto (-50), 3), (70, .aload_n 0, 1), (71, .getfield 42, 3), (74, .aload_n 0, 1), (75, .getfield 32, 3), (78, .if_icmp .ge 7, 3), (81, .iconst 1, 1), (82, .goto 4, 3), (85, .iconst 0, 1), (86, .ireturn, 1)]
set_option maxRecDepth 100000 in
theorem dk_X1_takesMends : dt_X1_takesMends.all (fun q => decide (decode cX1_takesMends q.1 = .ok q.2)) = true := by decide +kernel
set_option maxRecDepth 100000 in
def f_X1_takesMends_64 (k17 : Int32 → Mem → Option (Int32 × Mem)) (r0 : Nat) (x1 : Int32) (x2 : Int32) (M : Mem) : Option (Int32 × Mem) := k17 (x2 + 1) M
set_option maxRecDepth 100000 in
set_option maxHeartbeats 4000000 in
theorem x_X1_takesMends_64 {κ : KX} {n : Nat} (hC : CX κ cX1_takesMends RX1 4 (some .boolean) 3) (hE : zEnd κ n (0, 0)) (hk0 : zRk κ (0, 0)) {r0 : Nat} {x1 : Int32} (h_r0 : zO n r0 1) (k17 : Int32 → Mem → Option (Int32 × Mem)) (hk17 : ∀ (x2 : Int32) (M : Mem), X κ 4 emI n (0, 0) 17 [.ref r0, .int x1, .int x2, .null] [] M (k17 x2 M)) (x2 : Int32) (M : Mem) : X κ 4 emI n (0, 0) 64 [.ref r0, .int x1, .int x2, .null] [] M (f_X1_takesMends_64 k17 r0 x1 x2 M) := by
  unfold f_X1_takesMends_64
  refine x_iinc (i := 2) c_iconst_1 rfl (by decide) (L' := [.ref r0, .int x1, .int (x2 + 1), .null]) rfl hC (zdk dk_X1_takesMends 38 rfl) (q := 67) rfl ?_
  refine x_goto (tgt := 17) hC (zdk dk_X1_takesMends 39 rfl) rfl ?_
  refine x_weak (L' := [.ref r0, .int x1, .int (x2 + 1), .null]) ⟨Or.inr rfl, Or.inr rfl, Or.inr rfl, Or.inl rfl, trivial⟩ ?_
  exact hk17 _ _
set_option maxRecDepth 100000 in
def f_X1_takesMends_42 (k17 : Int32 → Mem → Option (Int32 × Mem)) (r0 : Nat) (x1 : Int32) (x2 : Int32) (s0 : Int32) (M : Mem) : Option (Int32 × Mem) := Option.bind (f_X1_valueAt r0 (zL M r0 12) s0 M) fun z1 => (if z1.1 = 0 then f_X1_takesMends_64 k17 r0 x1 x2 z1.2 else Option.bind (f_X1_leastPolynomial r0 s0 z1.2) fun z2 => Option.bind (f_X1_multiplyDivisor r0 z2.1 z2.2) fun M3 => f_X1_takesMends_64 k17 r0 x1 x2 M3)
set_option maxRecDepth 100000 in
set_option maxHeartbeats 4000000 in
theorem x_X1_takesMends_42 {κ : KX} {n : Nat} (hC : CX κ cX1_takesMends RX1 4 (some .boolean) 3) (hE : zEnd κ n (0, 0)) (hk0 : zRk κ (0, 0)) {r0 : Nat} {x1 : Int32} (h_r0 : zO n r0 1) (k17 : Int32 → Mem → Option (Int32 × Mem)) (hk17 : ∀ (x2 : Int32) (M : Mem), X κ 4 emI n (0, 0) 17 [.ref r0, .int x1, .int x2, .null] [] M (k17 x2 M)) (x2 : Int32) (s0 : Int32) (M : Mem) : X κ 4 emI n (0, 0) 42 [.ref r0, .int x1, .int x2, .null] [.int s0] M (f_X1_takesMends_42 k17 r0 x1 x2 s0 M) := by
  unfold f_X1_takesMends_42
  refine x_istore_n (i := 3) (L' := [.ref r0, .int x1, .int x2, .int s0]) (by decide) rfl hC (zdk dk_X1_takesMends 26 rfl) (q := 43) rfl ?_
  refine x_aload_n (i := 0) rfl hC (zdk dk_X1_takesMends 27 rfl) (q := 44) rfl ?_
  refine x_aload_n (i := 0) rfl hC (zdk dk_X1_takesMends 28 rfl) (q := 45) rfl ?_
  refine x_getL fl_RX1_38 h_r0 hC (zdk dk_X1_takesMends 29 rfl) (q := 48) rfl ?_
  refine x_iload_n (i := 3) rfl hC (zdk dk_X1_takesMends 30 rfl) (q := 49) rfl ?_
  refine x_callVi (as := [.long (zL M r0 12), .int s0]) cb_RX1_45 rfl (by decide) hk0 h_r0 (fun x hx => t_X1_valueAt h_r0 x hx) hC (zdk dk_X1_takesMends 31 rfl) (q := 52) rfl rfl (Nat.le_of_ble_eq_true rfl) (fun z1 => ?_)
  refine x_if_eq (tgt := 64) hC (zdk dk_X1_takesMends 32 rfl) (q := 55) rfl rfl (fun _ => ?_) (fun _ => ?_)
  · refine x_weak (L' := [.ref r0, .int x1, .int x2, .null]) ⟨Or.inr rfl, Or.inr rfl, Or.inr rfl, Or.inl rfl, trivial⟩ ?_
    exact x_X1_takesMends_64 hC hE hk0 h_r0 k17 hk17 _ _
  · refine x_aload_n (i := 0) rfl hC (zdk dk_X1_takesMends 33 rfl) (q := 56) rfl ?_
    refine x_aload_n (i := 0) rfl hC (zdk dk_X1_takesMends 34 rfl) (q := 57) rfl ?_
    refine x_iload_n (i := 3) rfl hC (zdk dk_X1_takesMends 35 rfl) (q := 58) rfl ?_
    refine x_callVi (as := [.int s0]) cb_RX1_49 rfl (by decide) hk0 h_r0 (fun x hx => t_X1_leastPolynomial h_r0 x hx) hC (zdk dk_X1_takesMends 36 rfl) (q := 61) rfl rfl (Nat.le_of_ble_eq_true rfl) (fun z2 => ?_)
    refine x_callVv (as := [.int z2.1]) cb_RX1_53 rfl (by decide) hk0 h_r0 (fun x hx => t_X1_multiplyDivisor h_r0 x hx) hC (zdk dk_X1_takesMends 37 rfl) (q := 64) rfl rfl (Nat.le_of_ble_eq_true rfl) (fun M3 => ?_)
    refine x_weak (L' := [.ref r0, .int x1, .int x2, .null]) ⟨Or.inr rfl, Or.inr rfl, Or.inr rfl, Or.inl rfl, trivial⟩ ?_
    exact x_X1_takesMends_64 hC hE hk0 h_r0 k17 hk17 _ _
set_option maxRecDepth 100000 in
def f_X1_takesMends_86  (r0 : Nat) (x1 : Int32) (s0 : Int32) (M : Mem) : Option (Int32 × Mem) := zbz s0 (some (s0, M))
set_option maxRecDepth 100000 in
set_option maxHeartbeats 4000000 in
theorem x_X1_takesMends_86 {κ : KX} {n : Nat} (hC : CX κ cX1_takesMends RX1 4 (some .boolean) 3) (hE : zEnd κ n (0, 0)) (hk0 : zRk κ (0, 0)) {r0 : Nat} {x1 : Int32} (h_r0 : zO n r0 1) (s0 : Int32) (M : Mem) : X κ 4 emI n (0, 0) 86 [.null, .null, .null, .null] [.int s0] M (f_X1_takesMends_86 r0 x1 s0 M) := by
  unfold f_X1_takesMends_86
  refine x_bz (fun hb4 => ?_)
  exact x_iret (ty := .boolean) hb4.1 hE hC (zdk dk_X1_takesMends 48 rfl)
set_option maxRecDepth 100000 in
def f_X1_takesMends_17  (r0 : Nat) (x1 : Int32) : Nat → Int32 → Mem → Option (Int32 × Mem)
  | 0, _, _ => none
  | f + 1, x2, M => (if 2 * x1 < x2 then (if zI M r0 7 ≤ zI M r0 9 then f_X1_takesMends_86 r0 x1 0 M else f_X1_takesMends_86 r0 x1 1 M) else (if zI M r0 7 ≤ x2 then f_X1_takesMends_42 (f_X1_takesMends_17 r0 x1 f) r0 x1 x2 (x2 - (zI M r0 7)) M else f_X1_takesMends_42 (f_X1_takesMends_17 r0 x1 f) r0 x1 x2 x2 M))
set_option maxRecDepth 100000 in
set_option maxHeartbeats 4000000 in
theorem x_X1_takesMends_17 {κ : KX} {n : Nat} (hC : CX κ cX1_takesMends RX1 4 (some .boolean) 3) (hE : zEnd κ n (0, 0)) (hk0 : zRk κ (0, 0)) {r0 : Nat} {x1 : Int32} (h_r0 : zO n r0 1) : ∀ (f : Nat) (x2 : Int32) (M : Mem), X κ 4 emI n (0, 0) 17 [.ref r0, .int x1, .int x2, .null] [] M (f_X1_takesMends_17 r0 x1 f x2 M) := by
  intro f
  induction f with
  | zero => intros; exact x_none
  | succ f ih =>
    intro x2 M 
    rw [f_X1_takesMends_17]
    refine x_iload_n (i := 2) rfl hC (zdk dk_X1_takesMends 11 rfl) (q := 18) rfl ?_
    refine x_iconst (i := 2) c_iconst_2 hC (zdk dk_X1_takesMends 12 rfl) (q := 19) rfl ?_
    refine x_iload_n (i := 1) rfl hC (zdk dk_X1_takesMends 13 rfl) (q := 20) rfl ?_
    refine x_imul hC (zdk dk_X1_takesMends 14 rfl) (q := 21) rfl ?_
    refine x_icmp_gt (tgt := 70) hC (zdk dk_X1_takesMends 15 rfl) (q := 24) rfl rfl (fun _ => ?_) (fun _ => ?_)
    · refine x_aload_n (i := 0) rfl hC (zdk dk_X1_takesMends 40 rfl) (q := 71) rfl ?_
      refine x_getI fl_RX1_42 (by decide) h_r0 hC (zdk dk_X1_takesMends 41 rfl) (q := 74) rfl ?_
      refine x_aload_n (i := 0) rfl hC (zdk dk_X1_takesMends 42 rfl) (q := 75) rfl ?_
      refine x_getI fl_RX1_32 (by decide) h_r0 hC (zdk dk_X1_takesMends 43 rfl) (q := 78) rfl ?_
      refine x_icmp_ge (tgt := 85) hC (zdk dk_X1_takesMends 44 rfl) (q := 81) rfl rfl (fun _ => ?_) (fun _ => ?_)
      · refine x_iconst (i := 0) c_iconst_0 hC (zdk dk_X1_takesMends 47 rfl) (q := 86) rfl ?_
        refine x_weak (L' := [.null, .null, .null, .null]) ⟨Or.inl rfl, Or.inl rfl, Or.inl rfl, Or.inl rfl, trivial⟩ ?_
        exact x_X1_takesMends_86 hC hE hk0 h_r0 _ _
      · refine x_iconst (i := 1) c_iconst_1 hC (zdk dk_X1_takesMends 45 rfl) (q := 82) rfl ?_
        refine x_goto (tgt := 86) hC (zdk dk_X1_takesMends 46 rfl) rfl ?_
        refine x_weak (L' := [.null, .null, .null, .null]) ⟨Or.inl rfl, Or.inl rfl, Or.inl rfl, Or.inl rfl, trivial⟩ ?_
        exact x_X1_takesMends_86 hC hE hk0 h_r0 _ _
    · refine x_iload_n (i := 2) rfl hC (zdk dk_X1_takesMends 16 rfl) (q := 25) rfl ?_
      refine x_aload_n (i := 0) rfl hC (zdk dk_X1_takesMends 17 rfl) (q := 26) rfl ?_
      refine x_getI fl_RX1_32 (by decide) h_r0 hC (zdk dk_X1_takesMends 18 rfl) (q := 29) rfl ?_
      refine x_icmp_ge (tgt := 36) hC (zdk dk_X1_takesMends 19 rfl) (q := 32) rfl rfl (fun _ => ?_) (fun _ => ?_)
      · refine x_iload_n (i := 2) rfl hC (zdk dk_X1_takesMends 22 rfl) (q := 37) rfl ?_
        refine x_aload_n (i := 0) rfl hC (zdk dk_X1_takesMends 23 rfl) (q := 38) rfl ?_
        refine x_getI fl_RX1_32 (by decide) h_r0 hC (zdk dk_X1_takesMends 24 rfl) (q := 41) rfl ?_
        refine x_isub hC (zdk dk_X1_takesMends 25 rfl) (q := 42) rfl ?_
        refine x_weak (L' := [.ref r0, .int x1, .int x2, .null]) ⟨Or.inr rfl, Or.inr rfl, Or.inr rfl, Or.inl rfl, trivial⟩ ?_
        exact x_X1_takesMends_42 hC hE hk0 h_r0 (f_X1_takesMends_17 r0 x1 f) ih _ _ _
      · refine x_iload_n (i := 2) rfl hC (zdk dk_X1_takesMends 20 rfl) (q := 33) rfl ?_
        refine x_goto (tgt := 42) hC (zdk dk_X1_takesMends 21 rfl) rfl ?_
        refine x_weak (L' := [.ref r0, .int x1, .int x2, .null]) ⟨Or.inr rfl, Or.inr rfl, Or.inr rfl, Or.inl rfl, trivial⟩ ?_
        exact x_X1_takesMends_42 hC hE hk0 h_r0 (f_X1_takesMends_17 r0 x1 f) ih _ _ _
set_option maxRecDepth 100000 in
def f_X1_takesMends (r0 : Nat) (x1 : Int32) (M : Mem) : Option (Int32 × Mem) := Option.bind (some (zsI M r0 8 x1)) fun M5 => Option.bind (some (zsL M5 r0 12 1)) fun M6 => Option.bind (some (zsI M6 r0 9 0)) fun M7 => f_X1_takesMends_17 r0 x1 1000000 1 M7
set_option maxRecDepth 100000 in
set_option maxHeartbeats 4000000 in
theorem x_X1_takesMends {κ : KX} {n : Nat} (hC : CX κ cX1_takesMends RX1 4 (some .boolean) 3) (hE : zEnd κ n (0, 0)) (hk0 : zRk κ (0, 0)) (r0 : Nat) (x1 : Int32) (M : Mem) (h_r0 : zO n r0 1) : X κ 4 emI n (0, 0) 0 [.ref r0, .int x1, .null, .null] [] M (f_X1_takesMends r0 x1 M) := by
  unfold f_X1_takesMends
  refine x_aload_n (i := 0) rfl hC (zdk dk_X1_takesMends 0 rfl) (q := 1) rfl ?_
  refine x_iload_n (i := 1) rfl hC (zdk dk_X1_takesMends 1 rfl) (q := 2) rfl ?_
  refine x_putI fl_RX1_35 ⟨rfl, rfl⟩ (by decide) (Or.inl rfl) h_r0 hC (zdk dk_X1_takesMends 2 rfl) (q := 5) rfl ?_
  refine x_nmM (fun M5 => ?_)
  refine x_aload_n (i := 0) rfl hC (zdk dk_X1_takesMends 3 rfl) (q := 6) rfl ?_
  refine x_lconst (i := 1) c_lconst_1 hC (zdk dk_X1_takesMends 4 rfl) (q := 7) rfl ?_
  refine x_putL fl_RX1_38 ⟨rfl, rfl⟩ (Or.inl rfl) h_r0 hC (zdk dk_X1_takesMends 5 rfl) (q := 10) rfl ?_
  refine x_nmM (fun M6 => ?_)
  refine x_aload_n (i := 0) rfl hC (zdk dk_X1_takesMends 6 rfl) (q := 11) rfl ?_
  refine x_iconst (i := 0) c_iconst_0 hC (zdk dk_X1_takesMends 7 rfl) (q := 12) rfl ?_
  refine x_putI fl_RX1_42 ⟨rfl, rfl⟩ (by decide) (Or.inl rfl) h_r0 hC (zdk dk_X1_takesMends 8 rfl) (q := 15) rfl ?_
  refine x_nmM (fun M7 => ?_)
  refine x_iconst (i := 1) c_iconst_1 hC (zdk dk_X1_takesMends 9 rfl) (q := 16) rfl ?_
  refine x_istore_n (i := 2) (L' := [.ref r0, .int x1, .int 1, .null]) (by decide) rfl hC (zdk dk_X1_takesMends 10 rfl) (q := 17) rfl ?_
  refine x_weak (L' := [.ref r0, .int x1, .int 1, .null]) ⟨Or.inr rfl, Or.inr rfl, Or.inr rfl, Or.inl rfl, trivial⟩ ?_
  exact x_X1_takesMends_17 hC hE hk0 h_r0 _ _ _
set_option maxRecDepth 100000 in
set_option maxHeartbeats 4000000 in
theorem t_X1_takesMends {n : Nat} {r0 : Nat} {x1 : Int32} {M : Mem} (h_r0 : zO n r0 1) (x : (Int32 × Mem)) (hx : f_X1_takesMends r0 x1 M = some x) (l : Launch) (dC : Nat → ClassId) (dI : Nat → Nat → Nat) (b : zSg) : MT l dC dI b yX1_takesMends cX1_takesMends 4 (some .boolean) 3 0 0 n n [.ref r0, .int x1] M (emI x).1 (emI x).2 :=
  MT.ofX (by decide +kernel) rfl (Nat.le_of_ble_eq_true rfl) (fun κ hC hF _ => x_X1_takesMends hC (zEnd_of hF (Nat.le_refl _) (Nat.le_refl _)) (zRk_of hF (Nat.le_refl _) (Nat.le_refl _)) _ _ _ h_r0) x hx
set_option maxRecDepth 100000 in
def dt_J7_fill_53178 : List (Nat × Instr × Nat) := [(0, .iconst 0, 1), (1, .istore_n 2, 1), (2, .aload_n 0, 1), (3, .arraylength, 1), (4, .istore_n 3, 1), (5, .iload_n 2, 1), (6, .iload_n 3, 1), (7, .if_icmp .ge 13, 3), (10, .aload_n 0, 1), (11, .iload_n 2, 1), (12, .iload_n 1, 1), (13, .iastore, 1), (14, .iinc 2 1, 3), (17, .goto (-12), 3), (20, .return_, 1)]
set_option maxRecDepth 100000 in
theorem dk_J7_fill_53178 : dt_J7_fill_53178.all (fun q => decide (decode cJ7_fill_53178 q.1 = .ok q.2)) = true := by decide +kernel
set_option maxRecDepth 100000 in
def f_J7_fill_53178_5  (r0 : Nat) (x1 : Int32) : Nat → Int32 → Int32 → Mem → Option Mem
  | 0, _, _, _ => none
  | f + 1, x2, x3, M => (if x3 ≤ x2 then some M else Option.bind (zld r0 x2) fun k1 => Option.bind (some (zsI M r0 k1 x1)) fun M2 => (f_J7_fill_53178_5 r0 x1 f) (x2 + 1) x3 M2)
set_option maxRecDepth 100000 in
set_option maxHeartbeats 4000000 in
theorem x_J7_fill_53178_5 {κ : KX} {n : Nat} (hC : CX κ cJ7_fill_53178 RJ7 4 none 0) (hE : zEnd κ n (0, 0)) (hk0 : zRk κ (0, 0)) {r0 : Nat} {x1 : Int32} (h_r0 : zO n r0 20) : ∀ (f : Nat) (x2 : Int32) (x3 : Int32) (M : Mem), X κ 4 emV n (0, 0) 5 [.ref r0, .int x1, .int x2, .int x3] [] M (f_J7_fill_53178_5 r0 x1 f x2 x3 M) := by
  intro f
  induction f with
  | zero => intros; exact x_none
  | succ f ih =>
    intro x2 x3 M 
    rw [f_J7_fill_53178_5]
    refine x_iload_n (i := 2) rfl hC (zdk dk_J7_fill_53178 5 rfl) (q := 6) rfl ?_
    refine x_iload_n (i := 3) rfl hC (zdk dk_J7_fill_53178 6 rfl) (q := 7) rfl ?_
    refine x_icmp_ge (tgt := 20) hC (zdk dk_J7_fill_53178 7 rfl) (q := 10) rfl rfl (fun _ => ?_) (fun _ => ?_)
    · exact x_vret hE hC (zdk dk_J7_fill_53178 14 rfl)
    · refine x_aload_n (i := 0) rfl hC (zdk dk_J7_fill_53178 8 rfl) (q := 11) rfl ?_
      refine x_iload_n (i := 2) rfl hC (zdk dk_J7_fill_53178 9 rfl) (q := 12) rfl ?_
      refine x_iload_n (i := 1) rfl hC (zdk dk_J7_fill_53178 10 rfl) (q := 13) rfl ?_
      refine x_iast h_r0 hC (zdk dk_J7_fill_53178 11 rfl) (q := 14) rfl (fun k1 _ => ?_)
      refine x_nmM (fun M2 => ?_)
      refine x_iinc (i := 2) c_iconst_1 rfl (by decide) (L' := [.ref r0, .int x1, .int (x2 + 1), .int x3]) rfl hC (zdk dk_J7_fill_53178 12 rfl) (q := 17) rfl ?_
      refine x_goto (tgt := 5) hC (zdk dk_J7_fill_53178 13 rfl) rfl ?_
      refine x_weak (L' := [.ref r0, .int x1, .int (x2 + 1), .int x3]) ⟨Or.inr rfl, Or.inr rfl, Or.inr rfl, Or.inr rfl, trivial⟩ ?_
      exact ih _ _ _
set_option maxRecDepth 100000 in
def f_J7_fill_53178 (r0 : Nat) (x1 : Int32) (M : Mem) : Option Mem := f_J7_fill_53178_5 r0 x1 1000000 0 (zlen r0) M
set_option maxRecDepth 100000 in
set_option maxHeartbeats 4000000 in
theorem x_J7_fill_53178 {κ : KX} {n : Nat} (hC : CX κ cJ7_fill_53178 RJ7 4 none 0) (hE : zEnd κ n (0, 0)) (hk0 : zRk κ (0, 0)) (r0 : Nat) (x1 : Int32) (M : Mem) (h_r0 : zO n r0 20) : X κ 4 emV n (0, 0) 0 [.ref r0, .int x1, .null, .null] [] M (f_J7_fill_53178 r0 x1 M) := by
  unfold f_J7_fill_53178
  refine x_iconst (i := 0) c_iconst_0 hC (zdk dk_J7_fill_53178 0 rfl) (q := 1) rfl ?_
  refine x_istore_n (i := 2) (L' := [.ref r0, .int x1, .int 0, .null]) (by decide) rfl hC (zdk dk_J7_fill_53178 1 rfl) (q := 2) rfl ?_
  refine x_aload_n (i := 0) rfl hC (zdk dk_J7_fill_53178 2 rfl) (q := 3) rfl ?_
  refine x_alen h_r0 (by decide) hC (zdk dk_J7_fill_53178 3 rfl) (q := 4) rfl ?_
  refine x_istore_n (i := 3) (L' := [.ref r0, .int x1, .int 0, .int (zlen r0)]) (by decide) rfl hC (zdk dk_J7_fill_53178 4 rfl) (q := 5) rfl ?_
  refine x_weak (L' := [.ref r0, .int x1, .int 0, .int (zlen r0)]) ⟨Or.inr rfl, Or.inr rfl, Or.inr rfl, Or.inr rfl, trivial⟩ ?_
  exact x_J7_fill_53178_5 hC hE hk0 h_r0 _ _ _ _
set_option maxRecDepth 100000 in
set_option maxHeartbeats 4000000 in
theorem t_J7_fill_53178 {n : Nat} {r0 : Nat} {x1 : Int32} {M : Mem} (h_r0 : zO n r0 20) (x : Mem) (hx : f_J7_fill_53178 r0 x1 M = some x) (l : Launch) (dC : Nat → ClassId) (dI : Nat → Nat → Nat) (b : zSg) : MT l dC dI b yJ7_fill_53178 cJ7_fill_53178 4 none 0 0 0 n n [.ref r0, .int x1] M (emV x).1 (emV x).2 :=
  MT.ofX (by decide +kernel) rfl (Nat.le_of_ble_eq_true rfl) (fun κ hC hF _ => x_J7_fill_53178 hC (zEnd_of hF (Nat.le_refl _) (Nat.le_refl _)) (zRk_of hF (Nat.le_refl _) (Nat.le_refl _)) _ _ _ h_r0) x hx
set_option maxRecDepth 100000 in
def dt_X1_takesShort : List (Nat × Instr × Nat) := [(0, .aload_n 0, 1), (1, .aload_n 0, 1), (2, .getfield 32, 3), (5, .iload_n 1, 1), (6, .isub, 1), (7, .putfield 57, 3), (10, .aload_n 0, 1), (11, .aload_n 0, 1), (12, .getfield 57, 3), (15, .aload_n 0, 1), (16, .getfield 42, 3), (19, .isub, 1), (20, .putfield 60, 3), (23, .aload_n 0, 1), (24, .iconst 0, 1), (25, .putfield 63, 3), (28, .aload_n 0, 1), (29, .getfield 25, 3), (32, .iconst (-1), 1), (33, .invokestatic 67, 3), (36, .aload_n 0, 1), (37, .getfield 60, 3), (40, .ifCond .le 7, 3), (43, .iconst 1, 1), (44, .goto 4, 3), (47, .iconst 0, 1), (48, .ireturn, 1)]
set_option maxRecDepth 100000 in
theorem dk_X1_takesShort : dt_X1_takesShort.all (fun q => decide (decode cX1_takesShort q.1 = .ok q.2)) = true := by decide +kernel
set_option maxRecDepth 100000 in
def f_X1_takesShort_48  (r0 : Nat) (x1 : Int32) (s0 : Int32) (M : Mem) : Option (Int32 × Mem) := zbz s0 (some (s0, M))
set_option maxRecDepth 100000 in
set_option maxHeartbeats 4000000 in
theorem x_X1_takesShort_48 {κ : KX} {n : Nat} (hC : CX κ cX1_takesShort RX1 2 (some .boolean) 1) (hE : zEnd κ n (0, 0)) (hk0 : zRk κ (0, 0)) {r0 : Nat} {x1 : Int32} (h_r0 : zO n r0 1) (s0 : Int32) (M : Mem) : X κ 2 emI n (0, 0) 48 [.null, .null] [.int s0] M (f_X1_takesShort_48 r0 x1 s0 M) := by
  unfold f_X1_takesShort_48
  refine x_bz (fun hb1 => ?_)
  exact x_iret (ty := .boolean) hb1.1 hE hC (zdk dk_X1_takesShort 26 rfl)
set_option maxRecDepth 100000 in
def f_X1_takesShort (r0 : Nat) (x1 : Int32) (M : Mem) : Option (Int32 × Mem) := Option.bind (some (zsI M r0 10 ((zI M r0 7) - x1))) fun M2 => Option.bind (some (zsI M2 r0 11 ((zI M2 r0 10) - (zI M2 r0 9)))) fun M3 => Option.bind (some (zsI M3 r0 5 0)) fun M4 => Option.bind (zrf M4 r0 4) fun q5 => Option.bind (f_J7_fill_53178 q5 ((-1)) M4) fun M6 => (if zI M6 r0 11 ≤ 0 then f_X1_takesShort_48 r0 x1 0 M6 else f_X1_takesShort_48 r0 x1 1 M6)
set_option maxRecDepth 100000 in
set_option maxHeartbeats 4000000 in
theorem x_X1_takesShort {κ : KX} {n : Nat} (hC : CX κ cX1_takesShort RX1 2 (some .boolean) 1) (hE : zEnd κ n (0, 0)) (hk0 : zRk κ (0, 0)) (r0 : Nat) (x1 : Int32) (M : Mem) (h_r0 : zO n r0 1) : X κ 2 emI n (0, 0) 0 [.ref r0, .int x1] [] M (f_X1_takesShort r0 x1 M) := by
  unfold f_X1_takesShort
  refine x_aload_n (i := 0) rfl hC (zdk dk_X1_takesShort 0 rfl) (q := 1) rfl ?_
  refine x_aload_n (i := 0) rfl hC (zdk dk_X1_takesShort 1 rfl) (q := 2) rfl ?_
  refine x_getI fl_RX1_32 (by decide) h_r0 hC (zdk dk_X1_takesShort 2 rfl) (q := 5) rfl ?_
  refine x_iload_n (i := 1) rfl hC (zdk dk_X1_takesShort 3 rfl) (q := 6) rfl ?_
  refine x_isub hC (zdk dk_X1_takesShort 4 rfl) (q := 7) rfl ?_
  refine x_putI fl_RX1_57 ⟨rfl, rfl⟩ (by decide) (Or.inl rfl) h_r0 hC (zdk dk_X1_takesShort 5 rfl) (q := 10) rfl ?_
  refine x_nmM (fun M2 => ?_)
  refine x_aload_n (i := 0) rfl hC (zdk dk_X1_takesShort 6 rfl) (q := 11) rfl ?_
  refine x_aload_n (i := 0) rfl hC (zdk dk_X1_takesShort 7 rfl) (q := 12) rfl ?_
  refine x_getI fl_RX1_57 (by decide) h_r0 hC (zdk dk_X1_takesShort 8 rfl) (q := 15) rfl ?_
  refine x_aload_n (i := 0) rfl hC (zdk dk_X1_takesShort 9 rfl) (q := 16) rfl ?_
  refine x_getI fl_RX1_42 (by decide) h_r0 hC (zdk dk_X1_takesShort 10 rfl) (q := 19) rfl ?_
  refine x_isub hC (zdk dk_X1_takesShort 11 rfl) (q := 20) rfl ?_
  refine x_putI fl_RX1_60 ⟨rfl, rfl⟩ (by decide) (Or.inl rfl) h_r0 hC (zdk dk_X1_takesShort 12 rfl) (q := 23) rfl ?_
  refine x_nmM (fun M3 => ?_)
  refine x_aload_n (i := 0) rfl hC (zdk dk_X1_takesShort 13 rfl) (q := 24) rfl ?_
  refine x_iconst (i := 0) c_iconst_0 hC (zdk dk_X1_takesShort 14 rfl) (q := 25) rfl ?_
  refine x_putI fl_RX1_63 ⟨rfl, rfl⟩ (by decide) (Or.inl rfl) h_r0 hC (zdk dk_X1_takesShort 15 rfl) (q := 28) rfl ?_
  refine x_nmM (fun M4 => ?_)
  refine x_aload_n (i := 0) rfl hC (zdk dk_X1_takesShort 16 rfl) (q := 29) rfl ?_
  refine x_getR (k := 20) fl_RX1_25 rfl h_r0 hC (zdk dk_X1_takesShort 17 rfl) (q := 32) rfl (fun q5 hq5 => ?_)
  refine x_iconst (i := (-1)) c_iconst_m1 hC (zdk dk_X1_takesShort 18 rfl) (q := 33) rfl ?_
  refine x_callSv (as := [.ref q5, .int ((-1))]) cb_RX1_67 rfl (by decide) hk0 (fun x hx => t_J7_fill_53178 hq5 x hx) hC (zdk dk_X1_takesShort 19 rfl) (q := 36) rfl rfl (Nat.le_of_ble_eq_true rfl) (fun M6 => ?_)
  refine x_aload_n (i := 0) rfl hC (zdk dk_X1_takesShort 20 rfl) (q := 37) rfl ?_
  refine x_getI fl_RX1_60 (by decide) h_r0 hC (zdk dk_X1_takesShort 21 rfl) (q := 40) rfl ?_
  refine x_if_le (tgt := 47) hC (zdk dk_X1_takesShort 22 rfl) (q := 43) rfl rfl (fun _ => ?_) (fun _ => ?_)
  · refine x_iconst (i := 0) c_iconst_0 hC (zdk dk_X1_takesShort 25 rfl) (q := 48) rfl ?_
    refine x_weak (L' := [.null, .null]) ⟨Or.inl rfl, Or.inl rfl, trivial⟩ ?_
    exact x_X1_takesShort_48 hC hE hk0 h_r0 _ _
  · refine x_iconst (i := 1) c_iconst_1 hC (zdk dk_X1_takesShort 23 rfl) (q := 44) rfl ?_
    refine x_goto (tgt := 48) hC (zdk dk_X1_takesShort 24 rfl) rfl ?_
    refine x_weak (L' := [.null, .null]) ⟨Or.inl rfl, Or.inl rfl, trivial⟩ ?_
    exact x_X1_takesShort_48 hC hE hk0 h_r0 _ _
set_option maxRecDepth 100000 in
set_option maxHeartbeats 4000000 in
theorem t_X1_takesShort {n : Nat} {r0 : Nat} {x1 : Int32} {M : Mem} (h_r0 : zO n r0 1) (x : (Int32 × Mem)) (hx : f_X1_takesShort r0 x1 M = some x) (l : Launch) (dC : Nat → ClassId) (dI : Nat → Nat → Nat) (b : zSg) : MT l dC dI b yX1_takesShort cX1_takesShort 2 (some .boolean) 1 0 0 n n [.ref r0, .int x1] M (emI x).1 (emI x).2 :=
  MT.ofX (by decide +kernel) rfl (Nat.le_of_ble_eq_true rfl) (fun κ hC hF _ => x_X1_takesShort hC (zEnd_of hF (Nat.le_refl _) (Nat.le_refl _)) (zRk_of hF (Nat.le_refl _) (Nat.le_refl _)) _ _ _ h_r0) x hx
set_option maxRecDepth 100000 in
def dt_X1_product : List (Nat × Instr × Nat) := [(0, .iload_n 1, 1), (1, .ifCond .eq 7, 3), (4, .iload_n 2, 1), (5, .ifCond .ne 5, 3), (8, .iconst 0, 1), (9, .ireturn, 1), (10, .aload_n 0, 1), (11, .getfield 15, 3), (14, .iload_n 1, 1), (15, .iaload, 1), (16, .aload_n 0, 1), (17, .getfield 15, 3), (20, .iload_n 2, 1), (21, .iaload, 1), (22, .iadd, 1), (23, .istore_n 3, 1), (24, .aload_n 0, 1), (25, .getfield 9, 3), (28, .iload_n 3, 1), (29, .aload_n 0, 1), (30, .getfield 32, 3), (33, .if_icmp .ge 7, 3), (36, .iload_n 3, 1), (37, .goto 9, 3), (40, .iload_n 3, 1), (41, .aload_n 0, 1), (42, .getfield 32, 3), (45, .isub, 1), (46, .iaload, 1), (47, .ireturn, 1)]
set_option maxRecDepth 100000 in
theorem dk_X1_product : dt_X1_product.all (fun q => decide (decode cX1_product q.1 = .ok q.2)) = true := by decide +kernel
set_option maxRecDepth 100000 in
def f_X1_product_8  (r0 : Nat) (x1 : Int32) (x2 : Int32)  (M : Mem) : Option (Int32 × Mem) := some (0, M)
set_option maxRecDepth 100000 in
set_option maxHeartbeats 4000000 in
theorem x_X1_product_8 {κ : KX} {n : Nat} (hC : CX κ cX1_product RX1 4 (some .int) 0) (hE : zEnd κ n (0, 0)) (hk0 : zRk κ (0, 0)) {r0 : Nat} {x1 : Int32} {x2 : Int32} (h_r0 : zO n r0 1) (M : Mem) : X κ 4 emI n (0, 0) 8 [.null, .null, .null, .null] [] M (f_X1_product_8 r0 x1 x2 M) := by
  unfold f_X1_product_8
  refine x_iconst (i := 0) c_iconst_0 hC (zdk dk_X1_product 4 rfl) (q := 9) rfl ?_
  exact x_iret (ty := .int) rfl hE hC (zdk dk_X1_product 5 rfl)
set_option maxRecDepth 100000 in
def f_X1_product_46  (r0 : Nat) (x1 : Int32) (x2 : Int32) (s0 : Nat) (s1 : Int32) (M : Mem) : Option (Int32 × Mem) := Option.bind (zld s0 s1) fun k1 => some (zI M s0 k1, M)
set_option maxRecDepth 100000 in
set_option maxHeartbeats 4000000 in
theorem x_X1_product_46 {κ : KX} {n : Nat} (hC : CX κ cX1_product RX1 4 (some .int) 0) (hE : zEnd κ n (0, 0)) (hk0 : zRk κ (0, 0)) {r0 : Nat} {x1 : Int32} {x2 : Int32} (h_r0 : zO n r0 1) (s0 : Nat) (s1 : Int32) (M : Mem) (h_s0 : zO n s0 20) : X κ 4 emI n (0, 0) 46 [.null, .null, .null, .null] [.int s1, .ref s0] M (f_X1_product_46 r0 x1 x2 s0 s1 M) := by
  unfold f_X1_product_46
  refine x_iald h_s0 hC (zdk dk_X1_product 28 rfl) (q := 47) rfl (fun k1 _ => ?_)
  exact x_iret (ty := .int) rfl hE hC (zdk dk_X1_product 29 rfl)
set_option maxRecDepth 100000 in
def f_X1_product (r0 : Nat) (x1 : Int32) (x2 : Int32) (M : Mem) : Option (Int32 × Mem) := (if x1 = 0 then f_X1_product_8 r0 x1 x2 M else (if x2 = 0 then f_X1_product_8 r0 x1 x2 M else Option.bind (zrf M r0 1) fun q2 => Option.bind (zld q2 x1) fun k3 => Option.bind (zrf M r0 1) fun q4 => Option.bind (zld q4 x2) fun k5 => Option.bind (zrf M r0 0) fun q6 => (if zI M r0 7 ≤ (zI M q2 k3) + (zI M q4 k5) then f_X1_product_46 r0 x1 x2 q6 (((zI M q2 k3) + (zI M q4 k5)) - (zI M r0 7)) M else f_X1_product_46 r0 x1 x2 q6 ((zI M q2 k3) + (zI M q4 k5)) M)))
set_option maxRecDepth 100000 in
set_option maxHeartbeats 4000000 in
theorem x_X1_product {κ : KX} {n : Nat} (hC : CX κ cX1_product RX1 4 (some .int) 0) (hE : zEnd κ n (0, 0)) (hk0 : zRk κ (0, 0)) (r0 : Nat) (x1 : Int32) (x2 : Int32) (M : Mem) (h_r0 : zO n r0 1) : X κ 4 emI n (0, 0) 0 [.ref r0, .int x1, .int x2, .null] [] M (f_X1_product r0 x1 x2 M) := by
  unfold f_X1_product
  refine x_iload_n (i := 1) rfl hC (zdk dk_X1_product 0 rfl) (q := 1) rfl ?_
  refine x_if_eq (tgt := 8) hC (zdk dk_X1_product 1 rfl) (q := 4) rfl rfl (fun _ => ?_) (fun _ => ?_)
  · refine x_weak (L' := [.null, .null, .null, .null]) ⟨Or.inl rfl, Or.inl rfl, Or.inl rfl, Or.inl rfl, trivial⟩ ?_
    exact x_X1_product_8 hC hE hk0 h_r0 _
  · refine x_iload_n (i := 2) rfl hC (zdk dk_X1_product 2 rfl) (q := 5) rfl ?_
    refine x_if_ne (tgt := 10) hC (zdk dk_X1_product 3 rfl) (q := 8) rfl rfl (fun _ => ?_) (fun _ => ?_)
    · refine x_aload_n (i := 0) rfl hC (zdk dk_X1_product 6 rfl) (q := 11) rfl ?_
      refine x_getR (k := 20) fl_RX1_15 rfl h_r0 hC (zdk dk_X1_product 7 rfl) (q := 14) rfl (fun q2 hq2 => ?_)
      refine x_iload_n (i := 1) rfl hC (zdk dk_X1_product 8 rfl) (q := 15) rfl ?_
      refine x_iald hq2 hC (zdk dk_X1_product 9 rfl) (q := 16) rfl (fun k3 _ => ?_)
      refine x_aload_n (i := 0) rfl hC (zdk dk_X1_product 10 rfl) (q := 17) rfl ?_
      refine x_getR (k := 20) fl_RX1_15 rfl h_r0 hC (zdk dk_X1_product 11 rfl) (q := 20) rfl (fun q4 hq4 => ?_)
      refine x_iload_n (i := 2) rfl hC (zdk dk_X1_product 12 rfl) (q := 21) rfl ?_
      refine x_iald hq4 hC (zdk dk_X1_product 13 rfl) (q := 22) rfl (fun k5 _ => ?_)
      refine x_iadd hC (zdk dk_X1_product 14 rfl) (q := 23) rfl ?_
      refine x_istore_n (i := 3) (L' := [.ref r0, .int x1, .int x2, .int ((zI M q2 k3) + (zI M q4 k5))]) (by decide) rfl hC (zdk dk_X1_product 15 rfl) (q := 24) rfl ?_
      refine x_aload_n (i := 0) rfl hC (zdk dk_X1_product 16 rfl) (q := 25) rfl ?_
      refine x_getR (k := 20) fl_RX1_9 rfl h_r0 hC (zdk dk_X1_product 17 rfl) (q := 28) rfl (fun q6 hq6 => ?_)
      refine x_iload_n (i := 3) rfl hC (zdk dk_X1_product 18 rfl) (q := 29) rfl ?_
      refine x_aload_n (i := 0) rfl hC (zdk dk_X1_product 19 rfl) (q := 30) rfl ?_
      refine x_getI fl_RX1_32 (by decide) h_r0 hC (zdk dk_X1_product 20 rfl) (q := 33) rfl ?_
      refine x_icmp_ge (tgt := 40) hC (zdk dk_X1_product 21 rfl) (q := 36) rfl rfl (fun _ => ?_) (fun _ => ?_)
      · refine x_iload_n (i := 3) rfl hC (zdk dk_X1_product 24 rfl) (q := 41) rfl ?_
        refine x_aload_n (i := 0) rfl hC (zdk dk_X1_product 25 rfl) (q := 42) rfl ?_
        refine x_getI fl_RX1_32 (by decide) h_r0 hC (zdk dk_X1_product 26 rfl) (q := 45) rfl ?_
        refine x_isub hC (zdk dk_X1_product 27 rfl) (q := 46) rfl ?_
        refine x_weak (L' := [.null, .null, .null, .null]) ⟨Or.inl rfl, Or.inl rfl, Or.inl rfl, Or.inl rfl, trivial⟩ ?_
        exact x_X1_product_46 hC hE hk0 h_r0 _ _ _ hq6
      · refine x_iload_n (i := 3) rfl hC (zdk dk_X1_product 22 rfl) (q := 37) rfl ?_
        refine x_goto (tgt := 46) hC (zdk dk_X1_product 23 rfl) rfl ?_
        refine x_weak (L' := [.null, .null, .null, .null]) ⟨Or.inl rfl, Or.inl rfl, Or.inl rfl, Or.inl rfl, trivial⟩ ?_
        exact x_X1_product_46 hC hE hk0 h_r0 _ _ _ hq6
    · refine x_weak (L' := [.null, .null, .null, .null]) ⟨Or.inl rfl, Or.inl rfl, Or.inl rfl, Or.inl rfl, trivial⟩ ?_
      exact x_X1_product_8 hC hE hk0 h_r0 _
set_option maxRecDepth 100000 in
set_option maxHeartbeats 4000000 in
theorem t_X1_product {n : Nat} {r0 : Nat} {x1 : Int32} {x2 : Int32} {M : Mem} (h_r0 : zO n r0 1) (x : (Int32 × Mem)) (hx : f_X1_product r0 x1 x2 M = some x) (l : Launch) (dC : Nat → ClassId) (dI : Nat → Nat → Nat) (b : zSg) : MT l dC dI b yX1_product cX1_product 4 (some .int) 0 0 0 n n [.ref r0, .int x1, .int x2] M (emI x).1 (emI x).2 :=
  MT.ofX (by decide +kernel) rfl (Nat.le_of_ble_eq_true rfl) (fun κ hC hF _ => x_X1_product hC (zEnd_of hF (Nat.le_refl _) (Nat.le_refl _)) (zRk_of hF (Nat.le_refl _) (Nat.le_refl _)) _ _ _ _ h_r0) x hx
set_option maxRecDepth 100000 in
def dt_X1_inverse : List (Nat × Instr × Nat) := [(0, .aload_n 0, 1), (1, .getfield 15, 3), (4, .iload_n 1, 1), (5, .iaload, 1), (6, .istore_n 2, 1), (7, .aload_n 0, 1), (8, .getfield 9, 3), (11, .iload_n 2, 1), (12, .ifCond .ne 7, 3), (15, .iconst 0, 1), (16, .goto 9, 3), (19, .aload_n 0, 1), (20, .getfield 32, 3), (23, .iload_n 2, 1), (24, .isub, 1), (25, .iaload, 1), (26, .ireturn, 1)]
set_option maxRecDepth 100000 in
theorem dk_X1_inverse : dt_X1_inverse.all (fun q => decide (decode cX1_inverse q.1 = .ok q.2)) = true := by decide +kernel
set_option maxRecDepth 100000 in
def f_X1_inverse_25  (r0 : Nat) (x1 : Int32) (s0 : Nat) (s1 : Int32) (M : Mem) : Option (Int32 × Mem) := Option.bind (zld s0 s1) fun k1 => some (zI M s0 k1, M)
set_option maxRecDepth 100000 in
set_option maxHeartbeats 4000000 in
theorem x_X1_inverse_25 {κ : KX} {n : Nat} (hC : CX κ cX1_inverse RX1 3 (some .int) 0) (hE : zEnd κ n (0, 0)) (hk0 : zRk κ (0, 0)) {r0 : Nat} {x1 : Int32} (h_r0 : zO n r0 1) (s0 : Nat) (s1 : Int32) (M : Mem) (h_s0 : zO n s0 20) : X κ 3 emI n (0, 0) 25 [.null, .null, .null] [.int s1, .ref s0] M (f_X1_inverse_25 r0 x1 s0 s1 M) := by
  unfold f_X1_inverse_25
  refine x_iald h_s0 hC (zdk dk_X1_inverse 15 rfl) (q := 26) rfl (fun k1 _ => ?_)
  exact x_iret (ty := .int) rfl hE hC (zdk dk_X1_inverse 16 rfl)
set_option maxRecDepth 100000 in
def f_X1_inverse (r0 : Nat) (x1 : Int32) (M : Mem) : Option (Int32 × Mem) := Option.bind (zrf M r0 1) fun q2 => Option.bind (zld q2 x1) fun k3 => Option.bind (zrf M r0 0) fun q4 => (if zI M q2 k3 = 0 then f_X1_inverse_25 r0 x1 q4 0 M else f_X1_inverse_25 r0 x1 q4 ((zI M r0 7) - (zI M q2 k3)) M)
set_option maxRecDepth 100000 in
set_option maxHeartbeats 4000000 in
theorem x_X1_inverse {κ : KX} {n : Nat} (hC : CX κ cX1_inverse RX1 3 (some .int) 0) (hE : zEnd κ n (0, 0)) (hk0 : zRk κ (0, 0)) (r0 : Nat) (x1 : Int32) (M : Mem) (h_r0 : zO n r0 1) : X κ 3 emI n (0, 0) 0 [.ref r0, .int x1, .null] [] M (f_X1_inverse r0 x1 M) := by
  unfold f_X1_inverse
  refine x_aload_n (i := 0) rfl hC (zdk dk_X1_inverse 0 rfl) (q := 1) rfl ?_
  refine x_getR (k := 20) fl_RX1_15 rfl h_r0 hC (zdk dk_X1_inverse 1 rfl) (q := 4) rfl (fun q2 hq2 => ?_)
  refine x_iload_n (i := 1) rfl hC (zdk dk_X1_inverse 2 rfl) (q := 5) rfl ?_
  refine x_iald hq2 hC (zdk dk_X1_inverse 3 rfl) (q := 6) rfl (fun k3 _ => ?_)
  refine x_istore_n (i := 2) (L' := [.ref r0, .int x1, .int (zI M q2 k3)]) (by decide) rfl hC (zdk dk_X1_inverse 4 rfl) (q := 7) rfl ?_
  refine x_aload_n (i := 0) rfl hC (zdk dk_X1_inverse 5 rfl) (q := 8) rfl ?_
  refine x_getR (k := 20) fl_RX1_9 rfl h_r0 hC (zdk dk_X1_inverse 6 rfl) (q := 11) rfl (fun q4 hq4 => ?_)
  refine x_iload_n (i := 2) rfl hC (zdk dk_X1_inverse 7 rfl) (q := 12) rfl ?_
  refine x_if_ne (tgt := 19) hC (zdk dk_X1_inverse 8 rfl) (q := 15) rfl rfl (fun _ => ?_) (fun _ => ?_)
  · refine x_aload_n (i := 0) rfl hC (zdk dk_X1_inverse 11 rfl) (q := 20) rfl ?_
    refine x_getI fl_RX1_32 (by decide) h_r0 hC (zdk dk_X1_inverse 12 rfl) (q := 23) rfl ?_
    refine x_iload_n (i := 2) rfl hC (zdk dk_X1_inverse 13 rfl) (q := 24) rfl ?_
    refine x_isub hC (zdk dk_X1_inverse 14 rfl) (q := 25) rfl ?_
    refine x_weak (L' := [.null, .null, .null]) ⟨Or.inl rfl, Or.inl rfl, Or.inl rfl, trivial⟩ ?_
    exact x_X1_inverse_25 hC hE hk0 h_r0 _ _ _ hq4
  · refine x_iconst (i := 0) c_iconst_0 hC (zdk dk_X1_inverse 9 rfl) (q := 16) rfl ?_
    refine x_goto (tgt := 25) hC (zdk dk_X1_inverse 10 rfl) rfl ?_
    refine x_weak (L' := [.null, .null, .null]) ⟨Or.inl rfl, Or.inl rfl, Or.inl rfl, trivial⟩ ?_
    exact x_X1_inverse_25 hC hE hk0 h_r0 _ _ _ hq4
set_option maxRecDepth 100000 in
set_option maxHeartbeats 4000000 in
theorem t_X1_inverse {n : Nat} {r0 : Nat} {x1 : Int32} {M : Mem} (h_r0 : zO n r0 1) (x : (Int32 × Mem)) (hx : f_X1_inverse r0 x1 M = some x) (l : Launch) (dC : Nat → ClassId) (dI : Nat → Nat → Nat) (b : zSg) : MT l dC dI b yX1_inverse cX1_inverse 3 (some .int) 0 0 0 n n [.ref r0, .int x1] M (emI x).1 (emI x).2 :=
  MT.ofX (by decide +kernel) rfl (Nat.le_of_ble_eq_true rfl) (fun κ hC hF _ => x_X1_inverse hC (zEnd_of hF (Nat.le_refl _) (Nat.le_refl _)) (zRk_of hF (Nat.le_refl _) (Nat.le_refl _)) _ _ _ h_r0) x hx
set_option maxRecDepth 100000 in
def dt_X1_encode : List (Nat × Instr × Nat) := [(0, .lload_n 1, 1), (1, .aload_n 0, 1), (2, .getfield 42, 3), (5, .lshl, 1), (6, .lstore_n 3, 1), (7, .lload_n 3, 1), (8, .lstore 5, 2), (10, .aload_n 0, 1), (11, .getfield 57, 3), (14, .iconst 1, 1), (15, .isub, 1), (16, .istore 7, 2), (18, .iload 7, 2), (20, .aload_n 0, 1), (21, .getfield 42, 3), (24, .if_icmp .lt 38, 3), (27, .lload 5, 2), (29, .iload 7, 2), (31, .lushr, 1), (32, .lconst 1, 1), (33, .land, 1), (34, .lconst 1, 1), (35, .lcmp, 1), (36, .ifCond .ne 20, 3), (39, .lload 5, 2), (41, .aload_n 0, 1), (42, .getfield 38, 3), (45, .iload 7, 2), (47, .aload_n 0, 1), (48, .getfield 42, 3), (51, .isub, 1), (52, .lshl, 1), (53, .lxor, 1), (54, .lstore 5, 2), (56, .iinc 7 (-1), 3), (59, .goto (-41), 3), (62, .lload_n 3, 1), (63, .lload 5, 2), (65, .lor, 1), (66, .lreturn, 1)]
set_option maxRecDepth 100000 in
theorem dk_X1_encode : dt_X1_encode.all (fun q => decide (decode cX1_encode q.1 = .ok q.2)) = true := by decide +kernel
set_option maxRecDepth 100000 in
def f_X1_encode_56 (k18 : Int64 → Int64 → Int32 → Mem → Option (Int64 × Mem)) (r0 : Nat) (y1 : Int64) (y3 : Int64) (y5 : Int64) (x7 : Int32) (M : Mem) : Option (Int64 × Mem) := k18 y3 y5 (x7 + (-1)) M
set_option maxRecDepth 100000 in
set_option maxHeartbeats 4000000 in
theorem x_X1_encode_56 {κ : KX} {n : Nat} (hC : CX κ cX1_encode RX1 8 (some .long) 0) (hE : zEnd κ n (0, 0)) (hk0 : zRk κ (0, 0)) {r0 : Nat} {y1 : Int64} (h_r0 : zO n r0 1) (k18 : Int64 → Int64 → Int32 → Mem → Option (Int64 × Mem)) (hk18 : ∀ (y3 : Int64) (y5 : Int64) (x7 : Int32) (M : Mem), X κ 8 emL n (0, 0) 18 [.ref r0, .null, .null, .long y3, .null, .long y5, .null, .int x7] [] M (k18 y3 y5 x7 M)) (y3 : Int64) (y5 : Int64) (x7 : Int32) (M : Mem) : X κ 8 emL n (0, 0) 56 [.ref r0, .null, .null, .long y3, .null, .long y5, .null, .int x7] [] M (f_X1_encode_56 k18 r0 y1 y3 y5 x7 M) := by
  unfold f_X1_encode_56
  refine x_iinc (i := 7) c_iconst_m1 rfl (by decide) (L' := [.ref r0, .null, .null, .long y3, .null, .long y5, .null, .int (x7 + (-1))]) rfl hC (zdk dk_X1_encode 34 rfl) (q := 59) rfl ?_
  refine x_goto (tgt := 18) hC (zdk dk_X1_encode 35 rfl) rfl ?_
  refine x_weak (L' := [.ref r0, .null, .null, .long y3, .null, .long y5, .null, .int (x7 + (-1))]) ⟨Or.inr rfl, Or.inl rfl, Or.inl rfl, Or.inr rfl, Or.inl rfl, Or.inr rfl, Or.inl rfl, Or.inr rfl, trivial⟩ ?_
  exact hk18 _ _ _ _
set_option maxRecDepth 100000 in
def f_X1_encode_18  (r0 : Nat) (y1 : Int64) : Nat → Int64 → Int64 → Int32 → Mem → Option (Int64 × Mem)
  | 0, _, _, _, _ => none
  | f + 1, y3, y5, x7, M => (if x7 < zI M r0 9 then some (y3 ||| y5, M) else (if lg_cmp ((zlush y5 x7) &&& 1) 1 = 0 then Option.bind (some (y5 ^^^ ((zL M r0 12) <<< ((x7 - (zI M r0 9)).toInt64 &&& 63)))) fun (v1 : Int64) => f_X1_encode_56 (f_X1_encode_18 r0 y1 f) r0 y1 y3 v1 x7 M else f_X1_encode_56 (f_X1_encode_18 r0 y1 f) r0 y1 y3 y5 x7 M))
set_option maxRecDepth 100000 in
set_option maxHeartbeats 4000000 in
theorem x_X1_encode_18 {κ : KX} {n : Nat} (hC : CX κ cX1_encode RX1 8 (some .long) 0) (hE : zEnd κ n (0, 0)) (hk0 : zRk κ (0, 0)) {r0 : Nat} {y1 : Int64} (h_r0 : zO n r0 1) : ∀ (f : Nat) (y3 : Int64) (y5 : Int64) (x7 : Int32) (M : Mem), X κ 8 emL n (0, 0) 18 [.ref r0, .null, .null, .long y3, .null, .long y5, .null, .int x7] [] M (f_X1_encode_18 r0 y1 f y3 y5 x7 M) := by
  intro f
  induction f with
  | zero => intros; exact x_none
  | succ f ih =>
    intro y3 y5 x7 M 
    rw [f_X1_encode_18]
    refine x_iload (i := 7) rfl hC (zdk dk_X1_encode 12 rfl) (q := 20) rfl ?_
    refine x_aload_n (i := 0) rfl hC (zdk dk_X1_encode 13 rfl) (q := 21) rfl ?_
    refine x_getI fl_RX1_42 (by decide) h_r0 hC (zdk dk_X1_encode 14 rfl) (q := 24) rfl ?_
    refine x_icmp_lt (tgt := 62) hC (zdk dk_X1_encode 15 rfl) (q := 27) rfl rfl (fun _ => ?_) (fun _ => ?_)
    · refine x_lload_n (i := 3) rfl hC (zdk dk_X1_encode 36 rfl) (q := 63) rfl ?_
      refine x_lload (i := 5) rfl hC (zdk dk_X1_encode 37 rfl) (q := 65) rfl ?_
      refine x_lor hC (zdk dk_X1_encode 38 rfl) (q := 66) rfl ?_
      exact x_lret hE hC (zdk dk_X1_encode 39 rfl)
    · refine x_lload (i := 5) rfl hC (zdk dk_X1_encode 16 rfl) (q := 29) rfl ?_
      refine x_iload (i := 7) rfl hC (zdk dk_X1_encode 17 rfl) (q := 31) rfl ?_
      refine x_lushr hC (zdk dk_X1_encode 18 rfl) (q := 32) rfl ?_
      refine x_lconst (i := 1) c_lconst_1 hC (zdk dk_X1_encode 19 rfl) (q := 33) rfl ?_
      refine x_land hC (zdk dk_X1_encode 20 rfl) (q := 34) rfl ?_
      refine x_lconst (i := 1) c_lconst_1 hC (zdk dk_X1_encode 21 rfl) (q := 35) rfl ?_
      refine x_lcmp hC (zdk dk_X1_encode 22 rfl) (q := 36) rfl ?_
      refine x_if_ne (tgt := 56) hC (zdk dk_X1_encode 23 rfl) (q := 39) rfl rfl (fun _ => ?_) (fun _ => ?_)
      · refine x_weak (L' := [.ref r0, .null, .null, .long y3, .null, .long y5, .null, .int x7]) ⟨Or.inr rfl, Or.inl rfl, Or.inl rfl, Or.inr rfl, Or.inl rfl, Or.inr rfl, Or.inl rfl, Or.inr rfl, trivial⟩ ?_
        exact x_X1_encode_56 hC hE hk0 h_r0 (f_X1_encode_18 r0 y1 f) ih _ _ _ _
      · refine x_lload (i := 5) rfl hC (zdk dk_X1_encode 24 rfl) (q := 41) rfl ?_
        refine x_aload_n (i := 0) rfl hC (zdk dk_X1_encode 25 rfl) (q := 42) rfl ?_
        refine x_getL fl_RX1_38 h_r0 hC (zdk dk_X1_encode 26 rfl) (q := 45) rfl ?_
        refine x_iload (i := 7) rfl hC (zdk dk_X1_encode 27 rfl) (q := 47) rfl ?_
        refine x_aload_n (i := 0) rfl hC (zdk dk_X1_encode 28 rfl) (q := 48) rfl ?_
        refine x_getI fl_RX1_42 (by decide) h_r0 hC (zdk dk_X1_encode 29 rfl) (q := 51) rfl ?_
        refine x_isub hC (zdk dk_X1_encode 30 rfl) (q := 52) rfl ?_
        refine x_lshl hC (zdk dk_X1_encode 31 rfl) (q := 53) rfl ?_
        refine x_lxor hC (zdk dk_X1_encode 32 rfl) (q := 54) rfl ?_
        refine x_lstore (i := 5) (L' := [.ref r0, .null, .null, .long y3, .null, .long (y5 ^^^ ((zL M r0 12) <<< ((x7 - (zI M r0 9)).toInt64 &&& 63))), .null, .int x7]) (by decide) rfl hC (zdk dk_X1_encode 33 rfl) (q := 56) rfl ?_
        refine x_nmJ (fun v1 => [.ref r0, .null, .null, .long y3, .null, .long v1, .null, .int x7]) rfl (fun v1 => ?_)
        refine x_weak (L' := [.ref r0, .null, .null, .long y3, .null, .long v1, .null, .int x7]) ⟨Or.inr rfl, Or.inl rfl, Or.inl rfl, Or.inr rfl, Or.inl rfl, Or.inr rfl, Or.inl rfl, Or.inr rfl, trivial⟩ ?_
        exact x_X1_encode_56 hC hE hk0 h_r0 (f_X1_encode_18 r0 y1 f) ih _ _ _ _
set_option maxRecDepth 100000 in
def f_X1_encode (r0 : Nat) (y1 : Int64) (M : Mem) : Option (Int64 × Mem) := f_X1_encode_18 r0 y1 1000000 (y1 <<< ((zI M r0 9).toInt64 &&& 63)) (y1 <<< ((zI M r0 9).toInt64 &&& 63)) ((zI M r0 10) - 1) M
set_option maxRecDepth 100000 in
set_option maxHeartbeats 4000000 in
theorem x_X1_encode {κ : KX} {n : Nat} (hC : CX κ cX1_encode RX1 8 (some .long) 0) (hE : zEnd κ n (0, 0)) (hk0 : zRk κ (0, 0)) (r0 : Nat) (y1 : Int64) (M : Mem) (h_r0 : zO n r0 1) : X κ 8 emL n (0, 0) 0 [.ref r0, .long y1, .null, .null, .null, .null, .null, .null] [] M (f_X1_encode r0 y1 M) := by
  unfold f_X1_encode
  refine x_lload_n (i := 1) rfl hC (zdk dk_X1_encode 0 rfl) (q := 1) rfl ?_
  refine x_aload_n (i := 0) rfl hC (zdk dk_X1_encode 1 rfl) (q := 2) rfl ?_
  refine x_getI fl_RX1_42 (by decide) h_r0 hC (zdk dk_X1_encode 2 rfl) (q := 5) rfl ?_
  refine x_lshl hC (zdk dk_X1_encode 3 rfl) (q := 6) rfl ?_
  refine x_lstore_n (i := 3) (L' := [.ref r0, .long y1, .null, .long (y1 <<< ((zI M r0 9).toInt64 &&& 63)), .null, .null, .null, .null]) (by decide) rfl hC (zdk dk_X1_encode 4 rfl) (q := 7) rfl ?_
  refine x_lload_n (i := 3) rfl hC (zdk dk_X1_encode 5 rfl) (q := 8) rfl ?_
  refine x_lstore (i := 5) (L' := [.ref r0, .long y1, .null, .long (y1 <<< ((zI M r0 9).toInt64 &&& 63)), .null, .long (y1 <<< ((zI M r0 9).toInt64 &&& 63)), .null, .null]) (by decide) rfl hC (zdk dk_X1_encode 6 rfl) (q := 10) rfl ?_
  refine x_aload_n (i := 0) rfl hC (zdk dk_X1_encode 7 rfl) (q := 11) rfl ?_
  refine x_getI fl_RX1_57 (by decide) h_r0 hC (zdk dk_X1_encode 8 rfl) (q := 14) rfl ?_
  refine x_iconst (i := 1) c_iconst_1 hC (zdk dk_X1_encode 9 rfl) (q := 15) rfl ?_
  refine x_isub hC (zdk dk_X1_encode 10 rfl) (q := 16) rfl ?_
  refine x_istore (i := 7) (L' := [.ref r0, .long y1, .null, .long (y1 <<< ((zI M r0 9).toInt64 &&& 63)), .null, .long (y1 <<< ((zI M r0 9).toInt64 &&& 63)), .null, .int ((zI M r0 10) - 1)]) (by decide) rfl hC (zdk dk_X1_encode 11 rfl) (q := 18) rfl ?_
  refine x_weak (L' := [.ref r0, .null, .null, .long (y1 <<< ((zI M r0 9).toInt64 &&& 63)), .null, .long (y1 <<< ((zI M r0 9).toInt64 &&& 63)), .null, .int ((zI M r0 10) - 1)]) ⟨Or.inr rfl, Or.inl rfl, Or.inl rfl, Or.inr rfl, Or.inl rfl, Or.inr rfl, Or.inl rfl, Or.inr rfl, trivial⟩ ?_
  exact x_X1_encode_18 hC hE hk0 h_r0 _ _ _ _ _
set_option maxRecDepth 100000 in
set_option maxHeartbeats 4000000 in
theorem t_X1_encode {n : Nat} {r0 : Nat} {y1 : Int64} {M : Mem} (h_r0 : zO n r0 1) (x : (Int64 × Mem)) (hx : f_X1_encode r0 y1 M = some x) (l : Launch) (dC : Nat → ClassId) (dI : Nat → Nat → Nat) (b : zSg) : MT l dC dI b yX1_encode cX1_encode 8 (some .long) 0 0 0 n n [.ref r0, .long y1] M (emL x).1 (emL x).2 :=
  MT.ofX (by decide +kernel) rfl (Nat.le_of_ble_eq_true rfl) (fun κ hC hF _ => x_X1_encode hC (zEnd_of hF (Nat.le_refl _) (Nat.le_refl _)) (zRk_of hF (Nat.le_refl _) (Nat.le_refl _)) _ _ _ h_r0) x hx
set_option maxRecDepth 100000 in
def dt_X1_isCodeWord : List (Nat × Instr × Nat) := [(0, .lload_n 1, 1), (1, .aload_n 0, 1), (2, .getfield 57, 3), (5, .lushr, 1), (6, .lconst 0, 1), (7, .lcmp, 1), (8, .ifCond .ne 22, 3), (11, .aload_n 0, 1), (12, .lload_n 1, 1), (13, .aload_n 0, 1), (14, .getfield 42, 3), (17, .lushr, 1), (18, .invokevirtual 76, 3), (21, .lload_n 1, 1), (22, .lcmp, 1), (23, .ifCond .ne 7, 3), (26, .iconst 1, 1), (27, .goto 4, 3), (30, .iconst 0, 1), (31, .ireturn, 1)]
set_option maxRecDepth 100000 in
theorem dk_X1_isCodeWord : dt_X1_isCodeWord.all (fun q => decide (decode cX1_isCodeWord q.1 = .ok q.2)) = true := by decide +kernel
set_option maxRecDepth 100000 in
def f_X1_isCodeWord_31  (r0 : Nat) (y1 : Int64) (s0 : Int32) (M : Mem) : Option (Int32 × Mem) := zbz s0 (some (s0, M))
set_option maxRecDepth 100000 in
set_option maxHeartbeats 4000000 in
theorem x_X1_isCodeWord_31 {κ : KX} {n : Nat} (hC : CX κ cX1_isCodeWord RX1 3 (some .boolean) 1) (hE : zEnd κ n (0, 0)) (hk0 : zRk κ (0, 0)) {r0 : Nat} {y1 : Int64} (h_r0 : zO n r0 1) (s0 : Int32) (M : Mem) : X κ 3 emI n (0, 0) 31 [.null, .null, .null] [.int s0] M (f_X1_isCodeWord_31 r0 y1 s0 M) := by
  unfold f_X1_isCodeWord_31
  refine x_bz (fun hb1 => ?_)
  exact x_iret (ty := .boolean) hb1.1 hE hC (zdk dk_X1_isCodeWord 19 rfl)
set_option maxRecDepth 100000 in
def f_X1_isCodeWord_30  (r0 : Nat) (y1 : Int64)  (M : Mem) : Option (Int32 × Mem) := f_X1_isCodeWord_31 r0 y1 0 M
set_option maxRecDepth 100000 in
set_option maxHeartbeats 4000000 in
theorem x_X1_isCodeWord_30 {κ : KX} {n : Nat} (hC : CX κ cX1_isCodeWord RX1 3 (some .boolean) 1) (hE : zEnd κ n (0, 0)) (hk0 : zRk κ (0, 0)) {r0 : Nat} {y1 : Int64} (h_r0 : zO n r0 1) (M : Mem) : X κ 3 emI n (0, 0) 30 [.null, .null, .null] [] M (f_X1_isCodeWord_30 r0 y1 M) := by
  unfold f_X1_isCodeWord_30
  refine x_iconst (i := 0) c_iconst_0 hC (zdk dk_X1_isCodeWord 18 rfl) (q := 31) rfl ?_
  refine x_weak (L' := [.null, .null, .null]) ⟨Or.inl rfl, Or.inl rfl, Or.inl rfl, trivial⟩ ?_
  exact x_X1_isCodeWord_31 hC hE hk0 h_r0 _ _
set_option maxRecDepth 100000 in
def f_X1_isCodeWord (r0 : Nat) (y1 : Int64) (M : Mem) : Option (Int32 × Mem) := (if lg_cmp (zlush y1 (zI M r0 10)) 0 = 0 then Option.bind (f_X1_encode r0 (zlush y1 (zI M r0 9)) M) fun z2 => (if lg_cmp z2.1 y1 = 0 then f_X1_isCodeWord_31 r0 y1 1 z2.2 else f_X1_isCodeWord_30 r0 y1 z2.2) else f_X1_isCodeWord_30 r0 y1 M)
set_option maxRecDepth 100000 in
set_option maxHeartbeats 4000000 in
theorem x_X1_isCodeWord {κ : KX} {n : Nat} (hC : CX κ cX1_isCodeWord RX1 3 (some .boolean) 1) (hE : zEnd κ n (0, 0)) (hk0 : zRk κ (0, 0)) (r0 : Nat) (y1 : Int64) (M : Mem) (h_r0 : zO n r0 1) : X κ 3 emI n (0, 0) 0 [.ref r0, .long y1, .null] [] M (f_X1_isCodeWord r0 y1 M) := by
  unfold f_X1_isCodeWord
  refine x_lload_n (i := 1) rfl hC (zdk dk_X1_isCodeWord 0 rfl) (q := 1) rfl ?_
  refine x_aload_n (i := 0) rfl hC (zdk dk_X1_isCodeWord 1 rfl) (q := 2) rfl ?_
  refine x_getI fl_RX1_57 (by decide) h_r0 hC (zdk dk_X1_isCodeWord 2 rfl) (q := 5) rfl ?_
  refine x_lushr hC (zdk dk_X1_isCodeWord 3 rfl) (q := 6) rfl ?_
  refine x_lconst (i := 0) c_lconst_0 hC (zdk dk_X1_isCodeWord 4 rfl) (q := 7) rfl ?_
  refine x_lcmp hC (zdk dk_X1_isCodeWord 5 rfl) (q := 8) rfl ?_
  refine x_if_ne (tgt := 30) hC (zdk dk_X1_isCodeWord 6 rfl) (q := 11) rfl rfl (fun _ => ?_) (fun _ => ?_)
  · refine x_weak (L' := [.null, .null, .null]) ⟨Or.inl rfl, Or.inl rfl, Or.inl rfl, trivial⟩ ?_
    exact x_X1_isCodeWord_30 hC hE hk0 h_r0 _
  · refine x_aload_n (i := 0) rfl hC (zdk dk_X1_isCodeWord 7 rfl) (q := 12) rfl ?_
    refine x_lload_n (i := 1) rfl hC (zdk dk_X1_isCodeWord 8 rfl) (q := 13) rfl ?_
    refine x_aload_n (i := 0) rfl hC (zdk dk_X1_isCodeWord 9 rfl) (q := 14) rfl ?_
    refine x_getI fl_RX1_42 (by decide) h_r0 hC (zdk dk_X1_isCodeWord 10 rfl) (q := 17) rfl ?_
    refine x_lushr hC (zdk dk_X1_isCodeWord 11 rfl) (q := 18) rfl ?_
    refine x_callVl (as := [.long (zlush y1 (zI M r0 9))]) cb_RX1_76 rfl (by decide) hk0 h_r0 (fun x hx => t_X1_encode h_r0 x hx) hC (zdk dk_X1_isCodeWord 12 rfl) (q := 21) rfl rfl (Nat.le_of_ble_eq_true rfl) (fun z2 => ?_)
    refine x_lload_n (i := 1) rfl hC (zdk dk_X1_isCodeWord 13 rfl) (q := 22) rfl ?_
    refine x_lcmp hC (zdk dk_X1_isCodeWord 14 rfl) (q := 23) rfl ?_
    refine x_if_ne (tgt := 30) hC (zdk dk_X1_isCodeWord 15 rfl) (q := 26) rfl rfl (fun _ => ?_) (fun _ => ?_)
    · refine x_weak (L' := [.null, .null, .null]) ⟨Or.inl rfl, Or.inl rfl, Or.inl rfl, trivial⟩ ?_
      exact x_X1_isCodeWord_30 hC hE hk0 h_r0 _
    · refine x_iconst (i := 1) c_iconst_1 hC (zdk dk_X1_isCodeWord 16 rfl) (q := 27) rfl ?_
      refine x_goto (tgt := 31) hC (zdk dk_X1_isCodeWord 17 rfl) rfl ?_
      refine x_weak (L' := [.null, .null, .null]) ⟨Or.inl rfl, Or.inl rfl, Or.inl rfl, trivial⟩ ?_
      exact x_X1_isCodeWord_31 hC hE hk0 h_r0 _ _
set_option maxRecDepth 100000 in
set_option maxHeartbeats 4000000 in
theorem t_X1_isCodeWord {n : Nat} {r0 : Nat} {y1 : Int64} {M : Mem} (h_r0 : zO n r0 1) (x : (Int32 × Mem)) (hx : f_X1_isCodeWord r0 y1 M = some x) (l : Launch) (dC : Nat → ClassId) (dI : Nat → Nat → Nat) (b : zSg) : MT l dC dI b yX1_isCodeWord cX1_isCodeWord 3 (some .boolean) 1 0 0 n n [.ref r0, .long y1] M (emI x).1 (emI x).2 :=
  MT.ofX (by decide +kernel) rfl (Nat.le_of_ble_eq_true rfl) (fun κ hC hF _ => x_X1_isCodeWord hC (zEnd_of hF (Nat.le_refl _) (Nat.le_refl _)) (zRk_of hF (Nat.le_refl _) (Nat.le_refl _)) _ _ _ h_r0) x hx
set_option maxRecDepth 100000 in
def dt_J13_bitCount_95d88 : List (Nat × Instr × Nat) := [(0, .lload_n 0, 1), (1, .lload_n 0, 1), (2, .iconst 1, 1), (3, .lushr, 1), (4, .ldc2_w 314, 3), (7, .land, 1), (8, .lsub, 1), (9, .lstore_n 0, 1), (10, .lload_n 0, 1), (11, .ldc2_w 316, 3), (14, .land, 1), (15, .lload_n 0, 1), (16, .iconst 2, 1), (17, .lushr, 1), (18, .ldc2_w 316, 3), (21, .land, 1), (22, .ladd, 1), (23, .lstore_n 0, 1), (24, .lload_n 0, 1), (25, .lload_n 0, 1), (26, .iconst 4, 1), (27, .lushr, 1), (28, .ladd, 1), (29, .ldc2_w 318, 3), (32, .land, 1), (33, .lstore_n 0, 1), (34, .lload_n 0, 1), (35, .lload_n 0, 1), (36, .bipush 8, 2), (38, .lushr, 1), (39, .ladd, 1), (40, .lstore_n 0, 1), (41, .lload_n 0, 1), (42, .lload_n 0, 1), (43, .bipush 16, 2), (45, .lushr, 1), (46, .ladd, 1), (47, .lstore_n 0, 1), (48, .lload_n 0, 1), (49, .lload_n 0, 1), (50, .bipush 32, 2), (52, .lushr, 1), (53, .ladd, 1), (54, .lstore_n 0, 1), (55, .lload_n 0, 1), (56, .l2i, 1), (57, .bipush 127, 2), (59, .iand, 1), (60, .ireturn, 1)]
set_option maxRecDepth 100000 in
theorem dk_J13_bitCount_95d88 : dt_J13_bitCount_95d88.all (fun q => decide (decode cJ13_bitCount_95d88 q.1 = .ok q.2)) = true := by decide +kernel
set_option maxRecDepth 100000 in
def f_J13_bitCount_95d88_60   (s0 : Int32) (M : Mem) : Option (Int32 × Mem) := some (s0, M)
set_option maxRecDepth 100000 in
set_option maxHeartbeats 4000000 in
theorem x_J13_bitCount_95d88_60 {κ : KX} {n : Nat} (hC : CX κ cJ13_bitCount_95d88 RJ13 2 (some .int) 0) (hE : zEnd κ n (0, 0)) (hk0 : zRk κ (0, 0)) (s0 : Int32) (M : Mem) : X κ 2 emI n (0, 0) 60 [.null, .null] [.int s0] M (f_J13_bitCount_95d88_60 s0 M) := by
  unfold f_J13_bitCount_95d88_60
  exact x_iret (ty := .int) rfl hE hC (zdk dk_J13_bitCount_95d88 48 rfl)
set_option maxRecDepth 100000 in
def f_J13_bitCount_95d88_42   (y0 : Int64) (s0 : Int64) (M : Mem) : Option (Int32 × Mem) := Option.bind (some ((s0 + (zlush y0 16)) + (zlush (s0 + (zlush y0 16)) 32))) fun (v1 : Int64) => f_J13_bitCount_95d88_60 (v1.toInt32 &&& 127) M
set_option maxRecDepth 100000 in
set_option maxHeartbeats 4000000 in
theorem x_J13_bitCount_95d88_42 {κ : KX} {n : Nat} (hC : CX κ cJ13_bitCount_95d88 RJ13 2 (some .int) 0) (hE : zEnd κ n (0, 0)) (hk0 : zRk κ (0, 0)) (y0 : Int64) (s0 : Int64) (M : Mem) : X κ 2 emI n (0, 0) 42 [.long y0, .null] [.long s0] M (f_J13_bitCount_95d88_42 y0 s0 M) := by
  unfold f_J13_bitCount_95d88_42
  refine x_lload_n (i := 0) rfl hC (zdk dk_J13_bitCount_95d88 33 rfl) (q := 43) rfl ?_
  refine x_bipush (i := 16) c_bipush_16 hC (zdk dk_J13_bitCount_95d88 34 rfl) (q := 45) rfl ?_
  refine x_lushr hC (zdk dk_J13_bitCount_95d88 35 rfl) (q := 46) rfl ?_
  refine x_ladd hC (zdk dk_J13_bitCount_95d88 36 rfl) (q := 47) rfl ?_
  refine x_lstore_n (i := 0) (L' := [.long (s0 + (zlush y0 16)), .null]) (by decide) rfl hC (zdk dk_J13_bitCount_95d88 37 rfl) (q := 48) rfl ?_
  refine x_lload_n (i := 0) rfl hC (zdk dk_J13_bitCount_95d88 38 rfl) (q := 49) rfl ?_
  refine x_lload_n (i := 0) rfl hC (zdk dk_J13_bitCount_95d88 39 rfl) (q := 50) rfl ?_
  refine x_bipush (i := 32) c_bipush_32 hC (zdk dk_J13_bitCount_95d88 40 rfl) (q := 52) rfl ?_
  refine x_lushr hC (zdk dk_J13_bitCount_95d88 41 rfl) (q := 53) rfl ?_
  refine x_ladd hC (zdk dk_J13_bitCount_95d88 42 rfl) (q := 54) rfl ?_
  refine x_lstore_n (i := 0) (L' := [.long ((s0 + (zlush y0 16)) + (zlush (s0 + (zlush y0 16)) 32)), .null]) (by decide) rfl hC (zdk dk_J13_bitCount_95d88 43 rfl) (q := 55) rfl ?_
  refine x_nmJ (fun v1 => [.long v1, .null]) rfl (fun v1 => ?_)
  refine x_lload_n (i := 0) rfl hC (zdk dk_J13_bitCount_95d88 44 rfl) (q := 56) rfl ?_
  refine x_l2i hC (zdk dk_J13_bitCount_95d88 45 rfl) (q := 57) rfl ?_
  refine x_bipush (i := 127) c_bipush_127 hC (zdk dk_J13_bitCount_95d88 46 rfl) (q := 59) rfl ?_
  refine x_iand hC (zdk dk_J13_bitCount_95d88 47 rfl) (q := 60) rfl ?_
  refine x_weak (L' := [.null, .null]) ⟨Or.inl rfl, Or.inl rfl, trivial⟩ ?_
  exact x_J13_bitCount_95d88_60 hC hE hk0 _ _
set_option maxRecDepth 100000 in
def f_J13_bitCount_95d88_33   (s0 : Int64) (M : Mem) : Option (Int32 × Mem) := f_J13_bitCount_95d88_42 (s0 + (zlush s0 8)) (s0 + (zlush s0 8)) M
set_option maxRecDepth 100000 in
set_option maxHeartbeats 4000000 in
theorem x_J13_bitCount_95d88_33 {κ : KX} {n : Nat} (hC : CX κ cJ13_bitCount_95d88 RJ13 2 (some .int) 0) (hE : zEnd κ n (0, 0)) (hk0 : zRk κ (0, 0)) (s0 : Int64) (M : Mem) : X κ 2 emI n (0, 0) 33 [.null, .null] [.long s0] M (f_J13_bitCount_95d88_33 s0 M) := by
  unfold f_J13_bitCount_95d88_33
  refine x_lstore_n (i := 0) (L' := [.long s0, .null]) (by decide) rfl hC (zdk dk_J13_bitCount_95d88 25 rfl) (q := 34) rfl ?_
  refine x_lload_n (i := 0) rfl hC (zdk dk_J13_bitCount_95d88 26 rfl) (q := 35) rfl ?_
  refine x_lload_n (i := 0) rfl hC (zdk dk_J13_bitCount_95d88 27 rfl) (q := 36) rfl ?_
  refine x_bipush (i := 8) c_bipush_8 hC (zdk dk_J13_bitCount_95d88 28 rfl) (q := 38) rfl ?_
  refine x_lushr hC (zdk dk_J13_bitCount_95d88 29 rfl) (q := 39) rfl ?_
  refine x_ladd hC (zdk dk_J13_bitCount_95d88 30 rfl) (q := 40) rfl ?_
  refine x_lstore_n (i := 0) (L' := [.long (s0 + (zlush s0 8)), .null]) (by decide) rfl hC (zdk dk_J13_bitCount_95d88 31 rfl) (q := 41) rfl ?_
  refine x_lload_n (i := 0) rfl hC (zdk dk_J13_bitCount_95d88 32 rfl) (q := 42) rfl ?_
  refine x_weak (L' := [.long (s0 + (zlush s0 8)), .null]) ⟨Or.inr rfl, Or.inl rfl, trivial⟩ ?_
  exact x_J13_bitCount_95d88_42 hC hE hk0 _ _ _
set_option maxRecDepth 100000 in
def f_J13_bitCount_95d88_14   (y0 : Int64) (s0 : Int64) (s1 : Int64) (M : Mem) : Option (Int32 × Mem) := Option.bind (some ((s0 &&& s1) + ((zlush y0 2) &&& 3689348814741910323))) fun (v2 : Int64) => f_J13_bitCount_95d88_33 ((v2 + (zlush v2 4)) &&& 1085102592571150095) M
set_option maxRecDepth 100000 in
set_option maxHeartbeats 4000000 in
theorem x_J13_bitCount_95d88_14 {κ : KX} {n : Nat} (hC : CX κ cJ13_bitCount_95d88 RJ13 2 (some .int) 0) (hE : zEnd κ n (0, 0)) (hk0 : zRk κ (0, 0)) (y0 : Int64) (s0 : Int64) (s1 : Int64) (M : Mem) : X κ 2 emI n (0, 0) 14 [.long y0, .null] [.long s1, .long s0] M (f_J13_bitCount_95d88_14 y0 s0 s1 M) := by
  unfold f_J13_bitCount_95d88_14
  refine x_land hC (zdk dk_J13_bitCount_95d88 10 rfl) (q := 15) rfl ?_
  refine x_lload_n (i := 0) rfl hC (zdk dk_J13_bitCount_95d88 11 rfl) (q := 16) rfl ?_
  refine x_iconst (i := 2) c_iconst_2 hC (zdk dk_J13_bitCount_95d88 12 rfl) (q := 17) rfl ?_
  refine x_lushr hC (zdk dk_J13_bitCount_95d88 13 rfl) (q := 18) rfl ?_
  refine x_ldc2 k_RJ13_316 hC (zdk dk_J13_bitCount_95d88 14 rfl) (q := 21) rfl ?_
  refine x_land hC (zdk dk_J13_bitCount_95d88 15 rfl) (q := 22) rfl ?_
  refine x_ladd hC (zdk dk_J13_bitCount_95d88 16 rfl) (q := 23) rfl ?_
  refine x_lstore_n (i := 0) (L' := [.long ((s0 &&& s1) + ((zlush y0 2) &&& 3689348814741910323)), .null]) (by decide) rfl hC (zdk dk_J13_bitCount_95d88 17 rfl) (q := 24) rfl ?_
  refine x_nmJ (fun v2 => [.long v2, .null]) rfl (fun v2 => ?_)
  refine x_lload_n (i := 0) rfl hC (zdk dk_J13_bitCount_95d88 18 rfl) (q := 25) rfl ?_
  refine x_lload_n (i := 0) rfl hC (zdk dk_J13_bitCount_95d88 19 rfl) (q := 26) rfl ?_
  refine x_iconst (i := 4) c_iconst_4 hC (zdk dk_J13_bitCount_95d88 20 rfl) (q := 27) rfl ?_
  refine x_lushr hC (zdk dk_J13_bitCount_95d88 21 rfl) (q := 28) rfl ?_
  refine x_ladd hC (zdk dk_J13_bitCount_95d88 22 rfl) (q := 29) rfl ?_
  refine x_ldc2 k_RJ13_318 hC (zdk dk_J13_bitCount_95d88 23 rfl) (q := 32) rfl ?_
  refine x_land hC (zdk dk_J13_bitCount_95d88 24 rfl) (q := 33) rfl ?_
  refine x_weak (L' := [.null, .null]) ⟨Or.inl rfl, Or.inl rfl, trivial⟩ ?_
  exact x_J13_bitCount_95d88_33 hC hE hk0 _ _
set_option maxRecDepth 100000 in
def f_J13_bitCount_95d88 (y0 : Int64) (M : Mem) : Option (Int32 × Mem) := Option.bind (some (y0 - ((zlush y0 1) &&& 6148914691236517205))) fun (v3 : Int64) => f_J13_bitCount_95d88_14 v3 v3 3689348814741910323 M
set_option maxRecDepth 100000 in
set_option maxHeartbeats 4000000 in
theorem x_J13_bitCount_95d88 {κ : KX} {n : Nat} (hC : CX κ cJ13_bitCount_95d88 RJ13 2 (some .int) 0) (hE : zEnd κ n (0, 0)) (hk0 : zRk κ (0, 0)) (y0 : Int64) (M : Mem) : X κ 2 emI n (0, 0) 0 [.long y0, .null] [] M (f_J13_bitCount_95d88 y0 M) := by
  unfold f_J13_bitCount_95d88
  refine x_lload_n (i := 0) rfl hC (zdk dk_J13_bitCount_95d88 0 rfl) (q := 1) rfl ?_
  refine x_lload_n (i := 0) rfl hC (zdk dk_J13_bitCount_95d88 1 rfl) (q := 2) rfl ?_
  refine x_iconst (i := 1) c_iconst_1 hC (zdk dk_J13_bitCount_95d88 2 rfl) (q := 3) rfl ?_
  refine x_lushr hC (zdk dk_J13_bitCount_95d88 3 rfl) (q := 4) rfl ?_
  refine x_ldc2 k_RJ13_314 hC (zdk dk_J13_bitCount_95d88 4 rfl) (q := 7) rfl ?_
  refine x_land hC (zdk dk_J13_bitCount_95d88 5 rfl) (q := 8) rfl ?_
  refine x_lsub hC (zdk dk_J13_bitCount_95d88 6 rfl) (q := 9) rfl ?_
  refine x_lstore_n (i := 0) (L' := [.long (y0 - ((zlush y0 1) &&& 6148914691236517205)), .null]) (by decide) rfl hC (zdk dk_J13_bitCount_95d88 7 rfl) (q := 10) rfl ?_
  refine x_nmJ (fun v3 => [.long v3, .null]) rfl (fun v3 => ?_)
  refine x_lload_n (i := 0) rfl hC (zdk dk_J13_bitCount_95d88 8 rfl) (q := 11) rfl ?_
  refine x_ldc2 k_RJ13_316 hC (zdk dk_J13_bitCount_95d88 9 rfl) (q := 14) rfl ?_
  refine x_weak (L' := [.long v3, .null]) ⟨Or.inr rfl, Or.inl rfl, trivial⟩ ?_
  exact x_J13_bitCount_95d88_14 hC hE hk0 _ _ _ _
set_option maxRecDepth 100000 in
set_option maxHeartbeats 4000000 in
theorem t_J13_bitCount_95d88 {n : Nat} {y0 : Int64} {M : Mem}  (x : (Int32 × Mem)) (hx : f_J13_bitCount_95d88 y0 M = some x) (l : Launch) (dC : Nat → ClassId) (dI : Nat → Nat → Nat) (b : zSg) : MT l dC dI b yJ13_bitCount_95d88 cJ13_bitCount_95d88 2 (some .int) 0 0 0 n n [.long y0] M (emI x).1 (emI x).2 :=
  MT.ofX (by decide +kernel) rfl (Nat.le_of_ble_eq_true rfl) (fun κ hC hF _ => x_J13_bitCount_95d88 hC (zEnd_of hF (Nat.le_refl _) (Nat.le_refl _)) (zRk_of hF (Nat.le_refl _) (Nat.le_refl _)) _ _ ) x hx
set_option maxRecDepth 100000 in
def dt_X1_wordsOfWeight : List (Nat × Instr × Nat) := [(0, .aload_n 0, 1), (1, .getfield 63, 3), (4, .ifCond .ne 52, 3), (7, .aload_n 0, 1), (8, .getfield 18, 3), (11, .iconst 0, 1), (12, .invokestatic 67, 3), (15, .iconst 0, 1), (16, .istore_n 2, 1), (17, .iload_n 2, 1), (18, .iconst 1, 1), (19, .aload_n 0, 1), (20, .getfield 60, 3), (23, .ishl, 1), (24, .if_icmp .ge 27, 3), (27, .aload_n 0, 1), (28, .getfield 18, 3), (31, .aload_n 0, 1), (32, .iload_n 2, 1), (33, .i2l, 1), (34, .invokevirtual 76, 3), (37, .invokestatic 80, 3), (40, .dup2, 1), (41, .iaload, 1), (42, .iconst 1, 1), (43, .iadd, 1), (44, .iastore, 1), (45, .iinc 2 1, 3), (48, .goto (-31), 3), (51, .aload_n 0, 1), (52, .iconst 1, 1), (53, .putfield 63, 3), (56, .aload_n 0, 1), (57, .getfield 18, 3), (60, .iload_n 1, 1), (61, .iaload, 1), (62, .ireturn, 1)]
set_option maxRecDepth 100000 in
theorem dk_X1_wordsOfWeight : dt_X1_wordsOfWeight.all (fun q => decide (decode cX1_wordsOfWeight q.1 = .ok q.2)) = true := by decide +kernel
set_option maxRecDepth 100000 in
def f_X1_wordsOfWeight_56  (r0 : Nat) (x1 : Int32)  (M : Mem) : Option (Int32 × Mem) := Option.bind (zrf M r0 2) fun q1 => Option.bind (zld q1 x1) fun k2 => some (zI M q1 k2, M)
set_option maxRecDepth 100000 in
set_option maxHeartbeats 4000000 in
theorem x_X1_wordsOfWeight_56 {κ : KX} {n : Nat} (hC : CX κ cX1_wordsOfWeight RX1 3 (some .int) 1) (hE : zEnd κ n (0, 0)) (hk0 : zRk κ (0, 0)) {r0 : Nat} {x1 : Int32} (h_r0 : zO n r0 1) (M : Mem) : X κ 3 emI n (0, 0) 56 [.ref r0, .int x1, .null] [] M (f_X1_wordsOfWeight_56 r0 x1 M) := by
  unfold f_X1_wordsOfWeight_56
  refine x_aload_n (i := 0) rfl hC (zdk dk_X1_wordsOfWeight 32 rfl) (q := 57) rfl ?_
  refine x_getR (k := 20) fl_RX1_18 rfl h_r0 hC (zdk dk_X1_wordsOfWeight 33 rfl) (q := 60) rfl (fun q1 hq1 => ?_)
  refine x_iload_n (i := 1) rfl hC (zdk dk_X1_wordsOfWeight 34 rfl) (q := 61) rfl ?_
  refine x_iald hq1 hC (zdk dk_X1_wordsOfWeight 35 rfl) (q := 62) rfl (fun k2 _ => ?_)
  exact x_iret (ty := .int) rfl hE hC (zdk dk_X1_wordsOfWeight 36 rfl)
set_option maxRecDepth 100000 in
def f_X1_wordsOfWeight_17  (r0 : Nat) (x1 : Int32) : Nat → Int32 → Mem → Option (Int32 × Mem)
  | 0, _, _ => none
  | f + 1, x2, M => (if (1 : Int32) <<< ((zI M r0 11) &&& 31) ≤ x2 then Option.bind (some (zsI M r0 5 1)) fun M3 => f_X1_wordsOfWeight_56 r0 x1 M3 else Option.bind (zrf M r0 2) fun q4 => Option.bind (f_X1_encode r0 x2.toInt64 M) fun z5 => Option.bind (f_J13_bitCount_95d88 z5.1 z5.2) fun z6 => Option.bind (zld q4 z6.1) fun k7 => Option.bind (zld q4 z6.1) fun k8 => Option.bind (some (zsI z6.2 q4 k8 ((zI z6.2 q4 k7) + 1))) fun M9 => (f_X1_wordsOfWeight_17 r0 x1 f) (x2 + 1) M9)
set_option maxRecDepth 100000 in
set_option maxHeartbeats 4000000 in
theorem x_X1_wordsOfWeight_17 {κ : KX} {n : Nat} (hC : CX κ cX1_wordsOfWeight RX1 3 (some .int) 1) (hE : zEnd κ n (0, 0)) (hk0 : zRk κ (0, 0)) {r0 : Nat} {x1 : Int32} (h_r0 : zO n r0 1) : ∀ (f : Nat) (x2 : Int32) (M : Mem), X κ 3 emI n (0, 0) 17 [.ref r0, .int x1, .int x2] [] M (f_X1_wordsOfWeight_17 r0 x1 f x2 M) := by
  intro f
  induction f with
  | zero => intros; exact x_none
  | succ f ih =>
    intro x2 M 
    rw [f_X1_wordsOfWeight_17]
    refine x_iload_n (i := 2) rfl hC (zdk dk_X1_wordsOfWeight 9 rfl) (q := 18) rfl ?_
    refine x_iconst (i := 1) c_iconst_1 hC (zdk dk_X1_wordsOfWeight 10 rfl) (q := 19) rfl ?_
    refine x_aload_n (i := 0) rfl hC (zdk dk_X1_wordsOfWeight 11 rfl) (q := 20) rfl ?_
    refine x_getI fl_RX1_60 (by decide) h_r0 hC (zdk dk_X1_wordsOfWeight 12 rfl) (q := 23) rfl ?_
    refine x_ishl hC (zdk dk_X1_wordsOfWeight 13 rfl) (q := 24) rfl ?_
    refine x_icmp_ge (tgt := 51) hC (zdk dk_X1_wordsOfWeight 14 rfl) (q := 27) rfl rfl (fun _ => ?_) (fun _ => ?_)
    · refine x_aload_n (i := 0) rfl hC (zdk dk_X1_wordsOfWeight 29 rfl) (q := 52) rfl ?_
      refine x_iconst (i := 1) c_iconst_1 hC (zdk dk_X1_wordsOfWeight 30 rfl) (q := 53) rfl ?_
      refine x_putI fl_RX1_63 ⟨rfl, rfl⟩ (by decide) (Or.inl rfl) h_r0 hC (zdk dk_X1_wordsOfWeight 31 rfl) (q := 56) rfl ?_
      refine x_nmM (fun M3 => ?_)
      refine x_weak (L' := [.ref r0, .int x1, .null]) ⟨Or.inr rfl, Or.inr rfl, Or.inl rfl, trivial⟩ ?_
      exact x_X1_wordsOfWeight_56 hC hE hk0 h_r0 _
    · refine x_aload_n (i := 0) rfl hC (zdk dk_X1_wordsOfWeight 15 rfl) (q := 28) rfl ?_
      refine x_getR (k := 20) fl_RX1_18 rfl h_r0 hC (zdk dk_X1_wordsOfWeight 16 rfl) (q := 31) rfl (fun q4 hq4 => ?_)
      refine x_aload_n (i := 0) rfl hC (zdk dk_X1_wordsOfWeight 17 rfl) (q := 32) rfl ?_
      refine x_iload_n (i := 2) rfl hC (zdk dk_X1_wordsOfWeight 18 rfl) (q := 33) rfl ?_
      refine x_i2l hC (zdk dk_X1_wordsOfWeight 19 rfl) (q := 34) rfl ?_
      refine x_callVl (as := [.long x2.toInt64]) cb_RX1_76 rfl (by decide) hk0 h_r0 (fun x hx => t_X1_encode h_r0 x hx) hC (zdk dk_X1_wordsOfWeight 20 rfl) (q := 37) rfl rfl (Nat.le_of_ble_eq_true rfl) (fun z5 => ?_)
      refine x_callSi (as := [.long z5.1]) cb_RX1_80 rfl (by decide) hk0 (fun x hx => t_J13_bitCount_95d88  x hx) hC (zdk dk_X1_wordsOfWeight 21 rfl) (q := 40) rfl rfl (Nat.le_of_ble_eq_true rfl) (fun z6 => ?_)
      refine x_dup2 rfl rfl hC (zdk dk_X1_wordsOfWeight 22 rfl) (q := 41) rfl ?_
      refine x_iald hq4 hC (zdk dk_X1_wordsOfWeight 23 rfl) (q := 42) rfl (fun k7 _ => ?_)
      refine x_iconst (i := 1) c_iconst_1 hC (zdk dk_X1_wordsOfWeight 24 rfl) (q := 43) rfl ?_
      refine x_iadd hC (zdk dk_X1_wordsOfWeight 25 rfl) (q := 44) rfl ?_
      refine x_iast hq4 hC (zdk dk_X1_wordsOfWeight 26 rfl) (q := 45) rfl (fun k8 _ => ?_)
      refine x_nmM (fun M9 => ?_)
      refine x_iinc (i := 2) c_iconst_1 rfl (by decide) (L' := [.ref r0, .int x1, .int (x2 + 1)]) rfl hC (zdk dk_X1_wordsOfWeight 27 rfl) (q := 48) rfl ?_
      refine x_goto (tgt := 17) hC (zdk dk_X1_wordsOfWeight 28 rfl) rfl ?_
      refine x_weak (L' := [.ref r0, .int x1, .int (x2 + 1)]) ⟨Or.inr rfl, Or.inr rfl, Or.inr rfl, trivial⟩ ?_
      exact ih _ _
set_option maxRecDepth 100000 in
def f_X1_wordsOfWeight (r0 : Nat) (x1 : Int32) (M : Mem) : Option (Int32 × Mem) := (if zI M r0 5 = 0 then Option.bind (zrf M r0 2) fun q10 => Option.bind (f_J7_fill_53178 q10 0 M) fun M11 => f_X1_wordsOfWeight_17 r0 x1 1000000 0 M11 else f_X1_wordsOfWeight_56 r0 x1 M)
set_option maxRecDepth 100000 in
set_option maxHeartbeats 4000000 in
theorem x_X1_wordsOfWeight {κ : KX} {n : Nat} (hC : CX κ cX1_wordsOfWeight RX1 3 (some .int) 1) (hE : zEnd κ n (0, 0)) (hk0 : zRk κ (0, 0)) (r0 : Nat) (x1 : Int32) (M : Mem) (h_r0 : zO n r0 1) : X κ 3 emI n (0, 0) 0 [.ref r0, .int x1, .null] [] M (f_X1_wordsOfWeight r0 x1 M) := by
  unfold f_X1_wordsOfWeight
  refine x_aload_n (i := 0) rfl hC (zdk dk_X1_wordsOfWeight 0 rfl) (q := 1) rfl ?_
  refine x_getI fl_RX1_63 (by decide) h_r0 hC (zdk dk_X1_wordsOfWeight 1 rfl) (q := 4) rfl ?_
  refine x_if_ne (tgt := 56) hC (zdk dk_X1_wordsOfWeight 2 rfl) (q := 7) rfl rfl (fun _ => ?_) (fun _ => ?_)
  · refine x_weak (L' := [.ref r0, .int x1, .null]) ⟨Or.inr rfl, Or.inr rfl, Or.inl rfl, trivial⟩ ?_
    exact x_X1_wordsOfWeight_56 hC hE hk0 h_r0 _
  · refine x_aload_n (i := 0) rfl hC (zdk dk_X1_wordsOfWeight 3 rfl) (q := 8) rfl ?_
    refine x_getR (k := 20) fl_RX1_18 rfl h_r0 hC (zdk dk_X1_wordsOfWeight 4 rfl) (q := 11) rfl (fun q10 hq10 => ?_)
    refine x_iconst (i := 0) c_iconst_0 hC (zdk dk_X1_wordsOfWeight 5 rfl) (q := 12) rfl ?_
    refine x_callSv (as := [.ref q10, .int 0]) cb_RX1_67 rfl (by decide) hk0 (fun x hx => t_J7_fill_53178 hq10 x hx) hC (zdk dk_X1_wordsOfWeight 6 rfl) (q := 15) rfl rfl (Nat.le_of_ble_eq_true rfl) (fun M11 => ?_)
    refine x_iconst (i := 0) c_iconst_0 hC (zdk dk_X1_wordsOfWeight 7 rfl) (q := 16) rfl ?_
    refine x_istore_n (i := 2) (L' := [.ref r0, .int x1, .int 0]) (by decide) rfl hC (zdk dk_X1_wordsOfWeight 8 rfl) (q := 17) rfl ?_
    refine x_weak (L' := [.ref r0, .int x1, .int 0]) ⟨Or.inr rfl, Or.inr rfl, Or.inr rfl, trivial⟩ ?_
    exact x_X1_wordsOfWeight_17 hC hE hk0 h_r0 _ _ _
set_option maxRecDepth 100000 in
set_option maxHeartbeats 4000000 in
theorem t_X1_wordsOfWeight {n : Nat} {r0 : Nat} {x1 : Int32} {M : Mem} (h_r0 : zO n r0 1) (x : (Int32 × Mem)) (hx : f_X1_wordsOfWeight r0 x1 M = some x) (l : Launch) (dC : Nat → ClassId) (dI : Nat → Nat → Nat) (b : zSg) : MT l dC dI b yX1_wordsOfWeight cX1_wordsOfWeight 3 (some .int) 1 0 0 n n [.ref r0, .int x1] M (emI x).1 (emI x).2 :=
  MT.ofX (by decide +kernel) rfl (Nat.le_of_ble_eq_true rfl) (fun κ hC hF _ => x_X1_wordsOfWeight hC (zEnd_of hF (Nat.le_refl _) (Nat.le_refl _)) (zRk_of hF (Nat.le_refl _) (Nat.le_refl _)) _ _ _ h_r0) x hx
set_option maxRecDepth 100000 in
def dt_X1_patternCount : List (Nat × Instr × Nat) := [(0, .iload_n 1, 1), (1, .iconst 1, 1), (2, .if_icmp .ne 8, 3), (5, .aload_n 0, 1), (6, .getfield 57, 3), (9, .ireturn, 1), (10, .aload_n 0, 1), (11, .getfield 57, 3), (14, .aload_n 0, 1), (15, .getfield 57, 3), (18, .iconst 1, 1), (19, .isub, 1), (20, .imul, 1), (21, .iconst 2, 1), (22, .idiv, 1), (23, .istore_n 2, 1), (24, .iload_n 1, 1), (25, .iconst 2, 1), (26, .if_icmp .ne 7, 3), (29, .iload_n 2, 1), (30, .goto 13, 3), (33, .iload_n 2, 1), (34, .aload_n 0, 1), (35, .getfield 57, 3), (38, .iconst 2, 1), (39, .isub, 1), (40, .imul, 1), (41, .iconst 3, 1), (42, .idiv, 1), (43, .ireturn, 1)]
set_option maxRecDepth 100000 in
theorem dk_X1_patternCount : dt_X1_patternCount.all (fun q => decide (decode cX1_patternCount q.1 = .ok q.2)) = true := by decide +kernel
set_option maxRecDepth 100000 in
def f_X1_patternCount_43  (r0 : Nat) (x1 : Int32) (s0 : Int32) (M : Mem) : Option (Int32 × Mem) := some (s0, M)
set_option maxRecDepth 100000 in
set_option maxHeartbeats 4000000 in
theorem x_X1_patternCount_43 {κ : KX} {n : Nat} (hC : CX κ cX1_patternCount RX1 3 (some .int) 0) (hE : zEnd κ n (0, 0)) (hk0 : zRk κ (0, 0)) {r0 : Nat} {x1 : Int32} (h_r0 : zO n r0 1) (s0 : Int32) (M : Mem) : X κ 3 emI n (0, 0) 43 [.null, .null, .null] [.int s0] M (f_X1_patternCount_43 r0 x1 s0 M) := by
  unfold f_X1_patternCount_43
  exact x_iret (ty := .int) rfl hE hC (zdk dk_X1_patternCount 29 rfl)
set_option maxRecDepth 100000 in
def f_X1_patternCount (r0 : Nat) (x1 : Int32) (M : Mem) : Option (Int32 × Mem) := (if x1 = 1 then some (zI M r0 10, M) else (if x1 = 2 then f_X1_patternCount_43 r0 x1 (((zI M r0 10) * ((zI M r0 10) - 1)) / 2) M else f_X1_patternCount_43 r0 x1 (((((zI M r0 10) * ((zI M r0 10) - 1)) / 2) * ((zI M r0 10) - 2)) / 3) M))
set_option maxRecDepth 100000 in
set_option maxHeartbeats 4000000 in
theorem x_X1_patternCount {κ : KX} {n : Nat} (hC : CX κ cX1_patternCount RX1 3 (some .int) 0) (hE : zEnd κ n (0, 0)) (hk0 : zRk κ (0, 0)) (r0 : Nat) (x1 : Int32) (M : Mem) (h_r0 : zO n r0 1) : X κ 3 emI n (0, 0) 0 [.ref r0, .int x1, .null] [] M (f_X1_patternCount r0 x1 M) := by
  unfold f_X1_patternCount
  refine x_iload_n (i := 1) rfl hC (zdk dk_X1_patternCount 0 rfl) (q := 1) rfl ?_
  refine x_iconst (i := 1) c_iconst_1 hC (zdk dk_X1_patternCount 1 rfl) (q := 2) rfl ?_
  refine x_icmp_ne (tgt := 10) hC (zdk dk_X1_patternCount 2 rfl) (q := 5) rfl rfl (fun _ => ?_) (fun _ => ?_)
  · refine x_aload_n (i := 0) rfl hC (zdk dk_X1_patternCount 6 rfl) (q := 11) rfl ?_
    refine x_getI fl_RX1_57 (by decide) h_r0 hC (zdk dk_X1_patternCount 7 rfl) (q := 14) rfl ?_
    refine x_aload_n (i := 0) rfl hC (zdk dk_X1_patternCount 8 rfl) (q := 15) rfl ?_
    refine x_getI fl_RX1_57 (by decide) h_r0 hC (zdk dk_X1_patternCount 9 rfl) (q := 18) rfl ?_
    refine x_iconst (i := 1) c_iconst_1 hC (zdk dk_X1_patternCount 10 rfl) (q := 19) rfl ?_
    refine x_isub hC (zdk dk_X1_patternCount 11 rfl) (q := 20) rfl ?_
    refine x_imul hC (zdk dk_X1_patternCount 12 rfl) (q := 21) rfl ?_
    refine x_iconst (i := 2) c_iconst_2 hC (zdk dk_X1_patternCount 13 rfl) (q := 22) rfl ?_
    refine x_idiv (by decide) hC (zdk dk_X1_patternCount 14 rfl) (q := 23) rfl ?_
    refine x_istore_n (i := 2) (L' := [.ref r0, .int x1, .int (((zI M r0 10) * ((zI M r0 10) - 1)) / 2)]) (by decide) rfl hC (zdk dk_X1_patternCount 15 rfl) (q := 24) rfl ?_
    refine x_iload_n (i := 1) rfl hC (zdk dk_X1_patternCount 16 rfl) (q := 25) rfl ?_
    refine x_iconst (i := 2) c_iconst_2 hC (zdk dk_X1_patternCount 17 rfl) (q := 26) rfl ?_
    refine x_icmp_ne (tgt := 33) hC (zdk dk_X1_patternCount 18 rfl) (q := 29) rfl rfl (fun _ => ?_) (fun _ => ?_)
    · refine x_iload_n (i := 2) rfl hC (zdk dk_X1_patternCount 21 rfl) (q := 34) rfl ?_
      refine x_aload_n (i := 0) rfl hC (zdk dk_X1_patternCount 22 rfl) (q := 35) rfl ?_
      refine x_getI fl_RX1_57 (by decide) h_r0 hC (zdk dk_X1_patternCount 23 rfl) (q := 38) rfl ?_
      refine x_iconst (i := 2) c_iconst_2 hC (zdk dk_X1_patternCount 24 rfl) (q := 39) rfl ?_
      refine x_isub hC (zdk dk_X1_patternCount 25 rfl) (q := 40) rfl ?_
      refine x_imul hC (zdk dk_X1_patternCount 26 rfl) (q := 41) rfl ?_
      refine x_iconst (i := 3) c_iconst_3 hC (zdk dk_X1_patternCount 27 rfl) (q := 42) rfl ?_
      refine x_idiv (by decide) hC (zdk dk_X1_patternCount 28 rfl) (q := 43) rfl ?_
      refine x_weak (L' := [.null, .null, .null]) ⟨Or.inl rfl, Or.inl rfl, Or.inl rfl, trivial⟩ ?_
      exact x_X1_patternCount_43 hC hE hk0 h_r0 _ _
    · refine x_iload_n (i := 2) rfl hC (zdk dk_X1_patternCount 19 rfl) (q := 30) rfl ?_
      refine x_goto (tgt := 43) hC (zdk dk_X1_patternCount 20 rfl) rfl ?_
      refine x_weak (L' := [.null, .null, .null]) ⟨Or.inl rfl, Or.inl rfl, Or.inl rfl, trivial⟩ ?_
      exact x_X1_patternCount_43 hC hE hk0 h_r0 _ _
  · refine x_aload_n (i := 0) rfl hC (zdk dk_X1_patternCount 3 rfl) (q := 6) rfl ?_
    refine x_getI fl_RX1_57 (by decide) h_r0 hC (zdk dk_X1_patternCount 4 rfl) (q := 9) rfl ?_
    exact x_iret (ty := .int) rfl hE hC (zdk dk_X1_patternCount 5 rfl)
set_option maxRecDepth 100000 in
set_option maxHeartbeats 4000000 in
theorem t_X1_patternCount {n : Nat} {r0 : Nat} {x1 : Int32} {M : Mem} (h_r0 : zO n r0 1) (x : (Int32 × Mem)) (hx : f_X1_patternCount r0 x1 M = some x) (l : Launch) (dC : Nat → ClassId) (dI : Nat → Nat → Nat) (b : zSg) : MT l dC dI b yX1_patternCount cX1_patternCount 3 (some .int) 0 0 0 n n [.ref r0, .int x1] M (emI x).1 (emI x).2 :=
  MT.ofX (by decide +kernel) rfl (Nat.le_of_ble_eq_true rfl) (fun κ hC hF _ => x_X1_patternCount hC (zEnd_of hF (Nat.le_refl _) (Nat.le_refl _)) (zRk_of hF (Nat.le_refl _) (Nat.le_refl _)) _ _ _ h_r0) x hx
set_option maxRecDepth 100000 in
def dt_X1_marked : List (Nat × Instr × Nat) := [(0, .aload_n 0, 1), (1, .getfield 21, 3), (4, .iload_n 1, 1), (5, .laload, 1), (6, .iload_n 2, 1), (7, .lushr, 1), (8, .lconst 1, 1), (9, .land, 1), (10, .l2i, 1), (11, .ireturn, 1)]
set_option maxRecDepth 100000 in
theorem dk_X1_marked : dt_X1_marked.all (fun q => decide (decode cX1_marked q.1 = .ok q.2)) = true := by decide +kernel
set_option maxRecDepth 100000 in
def f_X1_marked (r0 : Nat) (x1 : Int32) (x2 : Int32) (M : Mem) : Option (Int32 × Mem) := Option.bind (zrf M r0 3) fun q1 => Option.bind (zld q1 x1) fun k2 => some (((zlush (zL M q1 k2) x2) &&& 1).toInt32, M)
set_option maxRecDepth 100000 in
set_option maxHeartbeats 4000000 in
theorem x_X1_marked {κ : KX} {n : Nat} (hC : CX κ cX1_marked RX1 3 (some .int) 0) (hE : zEnd κ n (0, 0)) (hk0 : zRk κ (0, 0)) (r0 : Nat) (x1 : Int32) (x2 : Int32) (M : Mem) (h_r0 : zO n r0 1) : X κ 3 emI n (0, 0) 0 [.ref r0, .int x1, .int x2] [] M (f_X1_marked r0 x1 x2 M) := by
  unfold f_X1_marked
  refine x_aload_n (i := 0) rfl hC (zdk dk_X1_marked 0 rfl) (q := 1) rfl ?_
  refine x_getR (k := 21) fl_RX1_21 rfl h_r0 hC (zdk dk_X1_marked 1 rfl) (q := 4) rfl (fun q1 hq1 => ?_)
  refine x_iload_n (i := 1) rfl hC (zdk dk_X1_marked 2 rfl) (q := 5) rfl ?_
  refine x_lald hq1 hC (zdk dk_X1_marked 3 rfl) (q := 6) rfl (fun k2 _ => ?_)
  refine x_iload_n (i := 2) rfl hC (zdk dk_X1_marked 4 rfl) (q := 7) rfl ?_
  refine x_lushr hC (zdk dk_X1_marked 5 rfl) (q := 8) rfl ?_
  refine x_lconst (i := 1) c_lconst_1 hC (zdk dk_X1_marked 6 rfl) (q := 9) rfl ?_
  refine x_land hC (zdk dk_X1_marked 7 rfl) (q := 10) rfl ?_
  refine x_l2i hC (zdk dk_X1_marked 8 rfl) (q := 11) rfl ?_
  exact x_iret (ty := .int) rfl hE hC (zdk dk_X1_marked 9 rfl)
set_option maxRecDepth 100000 in
set_option maxHeartbeats 4000000 in
theorem t_X1_marked {n : Nat} {r0 : Nat} {x1 : Int32} {x2 : Int32} {M : Mem} (h_r0 : zO n r0 1) (x : (Int32 × Mem)) (hx : f_X1_marked r0 x1 x2 M = some x) (l : Launch) (dC : Nat → ClassId) (dI : Nat → Nat → Nat) (b : zSg) : MT l dC dI b yX1_marked cX1_marked 3 (some .int) 0 0 0 n n [.ref r0, .int x1, .int x2] M (emI x).1 (emI x).2 :=
  MT.ofX (by decide +kernel) rfl (Nat.le_of_ble_eq_true rfl) (fun κ hC hF _ => x_X1_marked hC (zEnd_of hF (Nat.le_refl _) (Nat.le_refl _)) (zRk_of hF (Nat.le_refl _) (Nat.le_refl _)) _ _ _ _ h_r0) x hx
set_option maxRecDepth 100000 in
def dt_X1_thirdOf : List (Nat × Instr × Nat) := [(0, .aload_n 0, 1), (1, .getfield 35, 3), (4, .iconst 1, 1), (5, .if_icmp .le 26, 3), (8, .aload_n 0, 1), (9, .getfield 32, 3), (12, .ifCond .le 19, 3), (15, .aload_n 0, 1), (16, .getfield 9, 3), (19, .iconst 3, 1), (20, .iload_n 1, 1), (21, .imul, 1), (22, .aload_n 0, 1), (23, .getfield 32, 3), (26, .irem, 1), (27, .iaload, 1), (28, .goto 4, 3), (31, .iconst 0, 1), (32, .ireturn, 1)]
set_option maxRecDepth 100000 in
theorem dk_X1_thirdOf : dt_X1_thirdOf.all (fun q => decide (decode cX1_thirdOf q.1 = .ok q.2)) = true := by decide +kernel
set_option maxRecDepth 100000 in
def f_X1_thirdOf_32  (r0 : Nat) (x1 : Int32) (s0 : Int32) (M : Mem) : Option (Int32 × Mem) := some (s0, M)
set_option maxRecDepth 100000 in
set_option maxHeartbeats 4000000 in
theorem x_X1_thirdOf_32 {κ : KX} {n : Nat} (hC : CX κ cX1_thirdOf RX1 2 (some .int) 0) (hE : zEnd κ n (0, 0)) (hk0 : zRk κ (0, 0)) {r0 : Nat} {x1 : Int32} (h_r0 : zO n r0 1) (s0 : Int32) (M : Mem) : X κ 2 emI n (0, 0) 32 [.null, .null] [.int s0] M (f_X1_thirdOf_32 r0 x1 s0 M) := by
  unfold f_X1_thirdOf_32
  exact x_iret (ty := .int) rfl hE hC (zdk dk_X1_thirdOf 18 rfl)
set_option maxRecDepth 100000 in
def f_X1_thirdOf_31  (r0 : Nat) (x1 : Int32)  (M : Mem) : Option (Int32 × Mem) := f_X1_thirdOf_32 r0 x1 0 M
set_option maxRecDepth 100000 in
set_option maxHeartbeats 4000000 in
theorem x_X1_thirdOf_31 {κ : KX} {n : Nat} (hC : CX κ cX1_thirdOf RX1 2 (some .int) 0) (hE : zEnd κ n (0, 0)) (hk0 : zRk κ (0, 0)) {r0 : Nat} {x1 : Int32} (h_r0 : zO n r0 1) (M : Mem) : X κ 2 emI n (0, 0) 31 [.null, .null] [] M (f_X1_thirdOf_31 r0 x1 M) := by
  unfold f_X1_thirdOf_31
  refine x_iconst (i := 0) c_iconst_0 hC (zdk dk_X1_thirdOf 17 rfl) (q := 32) rfl ?_
  refine x_weak (L' := [.null, .null]) ⟨Or.inl rfl, Or.inl rfl, trivial⟩ ?_
  exact x_X1_thirdOf_32 hC hE hk0 h_r0 _ _
set_option maxRecDepth 100000 in
def f_X1_thirdOf (r0 : Nat) (x1 : Int32) (M : Mem) : Option (Int32 × Mem) := (if zI M r0 8 ≤ 1 then f_X1_thirdOf_31 r0 x1 M else (if zI M r0 7 ≤ 0 then f_X1_thirdOf_31 r0 x1 M else Option.bind (zrf M r0 0) fun q1 => if zI M r0 7 = 0 then none else Option.bind (zld q1 (zrem (3 * x1) (zI M r0 7))) fun k2 => f_X1_thirdOf_32 r0 x1 (zI M q1 k2) M))
set_option maxRecDepth 100000 in
set_option maxHeartbeats 4000000 in
theorem x_X1_thirdOf {κ : KX} {n : Nat} (hC : CX κ cX1_thirdOf RX1 2 (some .int) 0) (hE : zEnd κ n (0, 0)) (hk0 : zRk κ (0, 0)) (r0 : Nat) (x1 : Int32) (M : Mem) (h_r0 : zO n r0 1) : X κ 2 emI n (0, 0) 0 [.ref r0, .int x1] [] M (f_X1_thirdOf r0 x1 M) := by
  unfold f_X1_thirdOf
  refine x_aload_n (i := 0) rfl hC (zdk dk_X1_thirdOf 0 rfl) (q := 1) rfl ?_
  refine x_getI fl_RX1_35 (by decide) h_r0 hC (zdk dk_X1_thirdOf 1 rfl) (q := 4) rfl ?_
  refine x_iconst (i := 1) c_iconst_1 hC (zdk dk_X1_thirdOf 2 rfl) (q := 5) rfl ?_
  refine x_icmp_le (tgt := 31) hC (zdk dk_X1_thirdOf 3 rfl) (q := 8) rfl rfl (fun _ => ?_) (fun _ => ?_)
  · refine x_weak (L' := [.null, .null]) ⟨Or.inl rfl, Or.inl rfl, trivial⟩ ?_
    exact x_X1_thirdOf_31 hC hE hk0 h_r0 _
  · refine x_aload_n (i := 0) rfl hC (zdk dk_X1_thirdOf 4 rfl) (q := 9) rfl ?_
    refine x_getI fl_RX1_32 (by decide) h_r0 hC (zdk dk_X1_thirdOf 5 rfl) (q := 12) rfl ?_
    refine x_if_le (tgt := 31) hC (zdk dk_X1_thirdOf 6 rfl) (q := 15) rfl rfl (fun _ => ?_) (fun _ => ?_)
    · refine x_weak (L' := [.null, .null]) ⟨Or.inl rfl, Or.inl rfl, trivial⟩ ?_
      exact x_X1_thirdOf_31 hC hE hk0 h_r0 _
    · refine x_aload_n (i := 0) rfl hC (zdk dk_X1_thirdOf 7 rfl) (q := 16) rfl ?_
      refine x_getR (k := 20) fl_RX1_9 rfl h_r0 hC (zdk dk_X1_thirdOf 8 rfl) (q := 19) rfl (fun q1 hq1 => ?_)
      refine x_iconst (i := 3) c_iconst_3 hC (zdk dk_X1_thirdOf 9 rfl) (q := 20) rfl ?_
      refine x_iload_n (i := 1) rfl hC (zdk dk_X1_thirdOf 10 rfl) (q := 21) rfl ?_
      refine x_imul hC (zdk dk_X1_thirdOf 11 rfl) (q := 22) rfl ?_
      refine x_aload_n (i := 0) rfl hC (zdk dk_X1_thirdOf 12 rfl) (q := 23) rfl ?_
      refine x_getI fl_RX1_32 (by decide) h_r0 hC (zdk dk_X1_thirdOf 13 rfl) (q := 26) rfl ?_
      refine x_iremG hC (zdk dk_X1_thirdOf 14 rfl) (q := 27) rfl ?_
      refine x_iald hq1 hC (zdk dk_X1_thirdOf 15 rfl) (q := 28) rfl (fun k2 _ => ?_)
      refine x_goto (tgt := 32) hC (zdk dk_X1_thirdOf 16 rfl) rfl ?_
      refine x_weak (L' := [.null, .null]) ⟨Or.inl rfl, Or.inl rfl, trivial⟩ ?_
      exact x_X1_thirdOf_32 hC hE hk0 h_r0 _ _
set_option maxRecDepth 100000 in
set_option maxHeartbeats 4000000 in
theorem t_X1_thirdOf {n : Nat} {r0 : Nat} {x1 : Int32} {M : Mem} (h_r0 : zO n r0 1) (x : (Int32 × Mem)) (hx : f_X1_thirdOf r0 x1 M = some x) (l : Launch) (dC : Nat → ClassId) (dI : Nat → Nat → Nat) (b : zSg) : MT l dC dI b yX1_thirdOf cX1_thirdOf 2 (some .int) 0 0 0 n n [.ref r0, .int x1] M (emI x).1 (emI x).2 :=
  MT.ofX (by decide +kernel) rfl (Nat.le_of_ble_eq_true rfl) (fun κ hC hF _ => x_X1_thirdOf hC (zEnd_of hF (Nat.le_refl _) (Nat.le_refl _)) (zRk_of hF (Nat.le_refl _) (Nat.le_refl _)) _ _ _ h_r0) x hx
