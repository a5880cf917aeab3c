def zRkH (rk : Nat → Nat → Int32 → Int32 → Mem → Option (Int32 × Mem)) (n d : Nat) : Prop := (∀ (a0 : Nat) (x1 : Int32) (M : Mem), zO n a0 6 → ∀ x, rk 0 a0 x1 0 M = some x → ∀ l dC dI b, MT l dC dI b yX6_readSum cX6_readSum 4 (some .boolean) (3 + d) 0 0 n n [.ref a0, .int x1] M (emI x).1 (emI x).2) ∧ (∀ (a0 : Nat) (x1 : Int32) (M : Mem), zO n a0 6 → ∀ x, rk 1 a0 x1 0 M = some x → ∀ l dC dI b, MT l dC dI b yX6_readProduct cX6_readProduct 4 (some .boolean) (3 + d) 0 0 n n [.ref a0, .int x1] M (emI x).1 (emI x).2) ∧ (∀ (a0 : Nat) (x1 : Int32) (M : Mem), zO n a0 6 → ∀ x, rk 2 a0 x1 0 M = some x → ∀ l dC dI b, MT l dC dI b yX6_readPart cX6_readPart 2 (some .boolean) (3 + d) 0 0 n n [.ref a0, .int x1] M (emI x).1 (emI x).2) ∧ (∀ (a0 : Nat) (x1 x2 : Int32) (M : Mem), zO n a0 6 → ∀ x, rk 3 a0 x1 x2 M = some x → ∀ l dC dI b, MT l dC dI b yX6_readPair cX6_readPair 3 (some .boolean) (3 + d) 0 0 n n [.ref a0, .int x1, .int x2] M (emI x).1 (emI x).2) ∧ (∀ (a0 : Nat) (x1 : Int32) (M : Mem), zO n a0 6 → ∀ x, rk 4 a0 x1 0 M = some x → ∀ l dC dI b, MT l dC dI b yX6_readChoice cX6_readChoice 2 (some .boolean) (3 + d) 0 0 n n [.ref a0, .int x1] M (emI x).1 (emI x).2) ∧ (∀ (a0 : Nat) (x1 : Int32) (M : Mem), zO n a0 6 → ∀ x, rk 5 a0 x1 0 M = some x → ∀ l dC dI b, MT l dC dI b yX6_readTest cX6_readTest 3 (some .boolean) (3 + d) 0 0 n n [.ref a0, .int x1] M (emI x).1 (emI x).2) ∧ (∀ (a0 : Nat) (x1 : Int32) (M : Mem), zO n a0 6 → ∀ x, rk 6 a0 x1 0 M = some x → ∀ l dC dI b, MT l dC dI b yX6_readBoth cX6_readBoth 3 (some .boolean) (3 + d) 0 0 n n [.ref a0, .int x1] M (emI x).1 (emI x).2) ∧ (∀ (a0 : Nat) (x1 : Int32) (M : Mem), zO n a0 6 → ∀ x, rk 7 a0 x1 0 M = some x → ∀ l dC dI b, MT l dC dI b yX6_readFact cX6_readFact 2 (some .boolean) (3 + d) 0 0 n n [.ref a0, .int x1] M (emI x).1 (emI x).2) ∧ (∀ (a0 : Nat) (x1 : Int32) (M : Mem), zO n a0 6 → ∀ x, rk 8 a0 x1 0 M = some x → ∀ l dC dI b, MT l dC dI b yX6_readComparison cX6_readComparison 3 (some .boolean) (3 + d) 0 0 n n [.ref a0, .int x1] M (emI x).1 (emI x).2)
theorem zdep {d : Nat} (k : Nat) (h : k ≤ 3) : k + 1 ≤ 3 + d + 1 := by omega
set_option maxRecDepth 100000 in
def dt_X6_readSum : List (Nat × Instr × Nat) := [(0, .aload_n 0, 1), (1, .iload_n 1, 1), (2, .invokevirtual 206, 3), (5, .ifCond .ne 5, 3), (8, .iconst 0, 1), (9, .ireturn, 1), (10, .iconst 0, 1), (11, .istore_n 2, 1), (12, .iload_n 2, 1), (13, .sipush 1600, 3), (16, .if_icmp .ge 65, 3), (19, .aload_n 0, 1), (20, .getfield 78, 3), (23, .bipush 43, 2), (25, .if_icmp .eq 12, 3), (28, .aload_n 0, 1), (29, .getfield 78, 3), (32, .bipush 45, 2), (34, .if_icmp .ne 47, 3), (37, .aload_n 0, 1), (38, .getfield 78, 3), (41, .bipush 43, 2), (43, .if_icmp .ne 7, 3), (46, .iconst (-1), 1), (47, .goto 5, 3), (50, .bipush (-2), 2), (52, .istore_n 3, 1), (53, .aload_n 0, 1), (54, .invokevirtual 64, 3), (57, .aload_n 0, 1), (58, .iload_n 1, 1), (59, .invokevirtual 206, 3), (62, .ifCond .ne 5, 3), (65, .iconst 0, 1), (66, .ireturn, 1), (67, .aload_n 0, 1), (68, .getfield 18, 3), (71, .iload_n 3, 1), (72, .invokevirtual 209, 3), (75, .iinc 2 1, 3), (78, .goto (-66), 3), (81, .iconst 1, 1), (82, .ireturn, 1)]
set_option maxRecDepth 100000 in
theorem dk_X6_readSum : dt_X6_readSum.all (fun q => decide (decode cX6_readSum q.1 = .ok q.2)) = true := by decide +kernel
set_option maxRecDepth 100000 in
def f_X6_readSum_52 (rk : Nat → Nat → Int32 → Int32 → Mem → Option (Int32 × Mem)) (k12 : Int32 → Mem → Option (Int32 × Mem)) (r0 : Nat) (x1 : Int32) (x2 : Int32) (s0 : Int32) (M : Mem) : Option (Int32 × Mem) := Option.bind (f_X6_look r0 M) fun M1 => Option.bind (rk 1 r0 x1 0 M1) fun z2 => (if z2.1 = 0 then some (0, z2.2) else Option.bind (zrf z2.2 r0 2) fun q3 => Option.bind (f_X0_addStep q3 s0 z2.2) fun M4 => k12 (x2 + 1) M4)
set_option maxRecDepth 100000 in
set_option maxHeartbeats 4000000 in
theorem x_X6_readSum_52 {κ : KX} {n : Nat} {d : Nat} (hC : CX κ cX6_readSum RX6 4 (some .boolean) (3 + d + 1)) (hE : zEnd κ n (0, 0)) (hk0 : zRk κ (0, 0)) {rk : Nat → Nat → Int32 → Int32 → Mem → Option (Int32 × Mem)} (hrk : zRkH rk n d) {r0 : Nat} {x1 : Int32} (h_r0 : zO n r0 6) (k12 : Int32 → Mem → Option (Int32 × Mem)) (hk12 : ∀ (x2 : Int32) (M : Mem), X κ 4 emI n (0, 0) 12 [.ref r0, .int x1, .int x2, .null] [] M (k12 x2 M)) (x2 : Int32) (s0 : Int32) (M : Mem) : X κ 4 emI n (0, 0) 52 [.ref r0, .int x1, .int x2, .null] [.int s0] M (f_X6_readSum_52 rk k12 r0 x1 x2 s0 M) := by
  unfold f_X6_readSum_52
  refine x_istore_n (i := 3) (L' := [.ref r0, .int x1, .int x2, .int s0]) (by decide) rfl hC (zdk dk_X6_readSum 26 rfl) (q := 53) rfl ?_
  refine x_aload_n (i := 0) rfl hC (zdk dk_X6_readSum 27 rfl) (q := 54) rfl ?_
  refine x_callVv (as := []) cb_RX6_64 rfl ⟨zdep 1 (by decide), by decide⟩ hk0 h_r0 (fun x hx => t_X6_look h_r0 x hx) hC (zdk dk_X6_readSum 28 rfl) (q := 57) rfl rfl (Nat.le_of_ble_eq_true rfl) (fun M1 => ?_)
  refine x_aload_n (i := 0) rfl hC (zdk dk_X6_readSum 29 rfl) (q := 58) rfl ?_
  refine x_iload_n (i := 1) rfl hC (zdk dk_X6_readSum 30 rfl) (q := 59) rfl ?_
  refine x_callVi (as := [.int x1]) cb_RX6_206 rfl ⟨Nat.le_refl _, by decide⟩ hk0 h_r0 (fun x hx => (hrk.2.1) _ _ _ h_r0 x hx) hC (zdk dk_X6_readSum 31 rfl) (q := 62) rfl rfl (Nat.le_of_ble_eq_true rfl) (fun z2 => ?_)
  refine x_if_ne (tgt := 67) hC (zdk dk_X6_readSum 32 rfl) (q := 65) rfl rfl (fun _ => ?_) (fun _ => ?_)
  · refine x_aload_n (i := 0) rfl hC (zdk dk_X6_readSum 35 rfl) (q := 68) rfl ?_
    refine x_getR (k := 0) fl_RX6_18 rfl h_r0 hC (zdk dk_X6_readSum 36 rfl) (q := 71) rfl (fun q3 hq3 => ?_)
    refine x_iload_n (i := 3) rfl hC (zdk dk_X6_readSum 37 rfl) (q := 72) rfl ?_
    refine x_callVv (as := [.int s0]) cb_RX6_209 rfl ⟨zdep 0 (by decide), by decide⟩ hk0 hq3 (fun x hx => t_X0_addStep hq3 x hx) hC (zdk dk_X6_readSum 38 rfl) (q := 75) rfl rfl (Nat.le_of_ble_eq_true rfl) (fun M4 => ?_)
    refine x_iinc (i := 2) c_iconst_1 rfl (by decide) (L' := [.ref r0, .int x1, .int (x2 + 1), .int s0]) rfl hC (zdk dk_X6_readSum 39 rfl) (q := 78) rfl ?_
    refine x_goto (tgt := 12) hC (zdk dk_X6_readSum 40 rfl) rfl ?_
    refine x_weak (L' := [.ref r0, .int x1, .int (x2 + 1), .null]) ⟨Or.inr rfl, Or.inr rfl, Or.inr rfl, Or.inl rfl, trivial⟩ ?_
    exact hk12 _ _
  · refine x_iconst (i := 0) c_iconst_0 hC (zdk dk_X6_readSum 33 rfl) (q := 66) rfl ?_
    exact x_iret (ty := .boolean) rfl hE hC (zdk dk_X6_readSum 34 rfl)
set_option maxRecDepth 100000 in
def f_X6_readSum_37 (rk : Nat → Nat → Int32 → Int32 → Mem → Option (Int32 × Mem)) (k12 : Int32 → Mem → Option (Int32 × Mem)) (r0 : Nat) (x1 : Int32) (x2 : Int32) (M : Mem) : Option (Int32 × Mem) := (if zI M r0 6 = 43 then f_X6_readSum_52 rk k12 r0 x1 x2 ((-1)) M else f_X6_readSum_52 rk k12 r0 x1 x2 ((-2)) M)
set_option maxRecDepth 100000 in
set_option maxHeartbeats 4000000 in
theorem x_X6_readSum_37 {κ : KX} {n : Nat} {d : Nat} (hC : CX κ cX6_readSum RX6 4 (some .boolean) (3 + d + 1)) (hE : zEnd κ n (0, 0)) (hk0 : zRk κ (0, 0)) {rk : Nat → Nat → Int32 → Int32 → Mem → Option (Int32 × Mem)} (hrk : zRkH rk n d) {r0 : Nat} {x1 : Int32} (h_r0 : zO n r0 6) (k12 : Int32 → Mem → Option (Int32 × Mem)) (hk12 : ∀ (x2 : Int32) (M : Mem), X κ 4 emI n (0, 0) 12 [.ref r0, .int x1, .int x2, .null] [] M (k12 x2 M)) (x2 : Int32) (M : Mem) : X κ 4 emI n (0, 0) 37 [.ref r0, .int x1, .int x2, .null] [] M (f_X6_readSum_37 rk k12 r0 x1 x2 M) := by
  unfold f_X6_readSum_37
  refine x_aload_n (i := 0) rfl hC (zdk dk_X6_readSum 19 rfl) (q := 38) rfl ?_
  refine x_getI fl_RX6_78 (by decide) h_r0 hC (zdk dk_X6_readSum 20 rfl) (q := 41) rfl ?_
  refine x_bipush (i := 43) c_bipush_43 hC (zdk dk_X6_readSum 21 rfl) (q := 43) rfl ?_
  refine x_icmp_ne (tgt := 50) hC (zdk dk_X6_readSum 22 rfl) (q := 46) rfl rfl (fun _ => ?_) (fun _ => ?_)
  · refine x_bipush (i := (-2)) c_bipush_m2 hC (zdk dk_X6_readSum 25 rfl) (q := 52) rfl ?_
    refine x_weak (L' := [.ref r0, .int x1, .int x2, .null]) ⟨Or.inr rfl, Or.inr rfl, Or.inr rfl, Or.inl rfl, trivial⟩ ?_
    exact x_X6_readSum_52 hC hE hk0 hrk h_r0 k12 hk12 _ _ _
  · refine x_iconst (i := (-1)) c_iconst_m1 hC (zdk dk_X6_readSum 23 rfl) (q := 47) rfl ?_
    refine x_goto (tgt := 52) hC (zdk dk_X6_readSum 24 rfl) rfl ?_
    refine x_weak (L' := [.ref r0, .int x1, .int x2, .null]) ⟨Or.inr rfl, Or.inr rfl, Or.inr rfl, Or.inl rfl, trivial⟩ ?_
    exact x_X6_readSum_52 hC hE hk0 hrk h_r0 k12 hk12 _ _ _
set_option maxRecDepth 100000 in
def f_X6_readSum_81 (rk : Nat → Nat → Int32 → Int32 → Mem → Option (Int32 × Mem))  (r0 : Nat) (x1 : Int32)  (M : Mem) : Option (Int32 × Mem) := some (1, M)
set_option maxRecDepth 100000 in
set_option maxHeartbeats 4000000 in
theorem x_X6_readSum_81 {κ : KX} {n : Nat} {d : Nat} (hC : CX κ cX6_readSum RX6 4 (some .boolean) (3 + d + 1)) (hE : zEnd κ n (0, 0)) (hk0 : zRk κ (0, 0)) {rk : Nat → Nat → Int32 → Int32 → Mem → Option (Int32 × Mem)} (hrk : zRkH rk n d) {r0 : Nat} {x1 : Int32} (h_r0 : zO n r0 6) (M : Mem) : X κ 4 emI n (0, 0) 81 [.null, .null, .null, .null] [] M (f_X6_readSum_81 rk r0 x1 M) := by
  unfold f_X6_readSum_81
  refine x_iconst (i := 1) c_iconst_1 hC (zdk dk_X6_readSum 41 rfl) (q := 82) rfl ?_
  exact x_iret (ty := .boolean) rfl hE hC (zdk dk_X6_readSum 42 rfl)
set_option maxRecDepth 100000 in
def f_X6_readSum_12 (rk : Nat → Nat → Int32 → Int32 → Mem → Option (Int32 × Mem))  (r0 : Nat) (x1 : Int32) : Nat → Int32 → Mem → Option (Int32 × Mem)
  | 0, _, _ => none
  | f + 1, x2, M => (if 1600 ≤ x2 then f_X6_readSum_81 rk r0 x1 M else (if zI M r0 6 = 43 then f_X6_readSum_37 rk (f_X6_readSum_12 rk r0 x1 f) r0 x1 x2 M else (if zI M r0 6 = 45 then f_X6_readSum_37 rk (f_X6_readSum_12 rk r0 x1 f) r0 x1 x2 M else f_X6_readSum_81 rk r0 x1 M)))
set_option maxRecDepth 100000 in
set_option maxHeartbeats 4000000 in
theorem x_X6_readSum_12 {κ : KX} {n : Nat} {d : Nat} (hC : CX κ cX6_readSum RX6 4 (some .boolean) (3 + d + 1)) (hE : zEnd κ n (0, 0)) (hk0 : zRk κ (0, 0)) {rk : Nat → Nat → Int32 → Int32 → Mem → Option (Int32 × Mem)} (hrk : zRkH rk n d) {r0 : Nat} {x1 : Int32} (h_r0 : zO n r0 6) : ∀ (f : Nat) (x2 : Int32) (M : Mem), X κ 4 emI n (0, 0) 12 [.ref r0, .int x1, .int x2, .null] [] M (f_X6_readSum_12 rk r0 x1 f x2 M) := by
  intro f
  induction f with
  | zero => intros; exact x_none
  | succ f ih =>
    intro x2 M 
    rw [f_X6_readSum_12]
    refine x_iload_n (i := 2) rfl hC (zdk dk_X6_readSum 8 rfl) (q := 13) rfl ?_
    refine x_sipush (i := 1600) c_sipush_1600 hC (zdk dk_X6_readSum 9 rfl) (q := 16) rfl ?_
    refine x_icmp_ge (tgt := 81) hC (zdk dk_X6_readSum 10 rfl) (q := 19) rfl rfl (fun _ => ?_) (fun _ => ?_)
    · refine x_weak (L' := [.null, .null, .null, .null]) ⟨Or.inl rfl, Or.inl rfl, Or.inl rfl, Or.inl rfl, trivial⟩ ?_
      exact x_X6_readSum_81 hC hE hk0 hrk h_r0 _
    · refine x_aload_n (i := 0) rfl hC (zdk dk_X6_readSum 11 rfl) (q := 20) rfl ?_
      refine x_getI fl_RX6_78 (by decide) h_r0 hC (zdk dk_X6_readSum 12 rfl) (q := 23) rfl ?_
      refine x_bipush (i := 43) c_bipush_43 hC (zdk dk_X6_readSum 13 rfl) (q := 25) rfl ?_
      refine x_icmp_eq (tgt := 37) hC (zdk dk_X6_readSum 14 rfl) (q := 28) rfl rfl (fun _ => ?_) (fun _ => ?_)
      · refine x_weak (L' := [.ref r0, .int x1, .int x2, .null]) ⟨Or.inr rfl, Or.inr rfl, Or.inr rfl, Or.inl rfl, trivial⟩ ?_
        exact x_X6_readSum_37 hC hE hk0 hrk h_r0 (f_X6_readSum_12 rk r0 x1 f) ih _ _
      · refine x_aload_n (i := 0) rfl hC (zdk dk_X6_readSum 15 rfl) (q := 29) rfl ?_
        refine x_getI fl_RX6_78 (by decide) h_r0 hC (zdk dk_X6_readSum 16 rfl) (q := 32) rfl ?_
        refine x_bipush (i := 45) c_bipush_45 hC (zdk dk_X6_readSum 17 rfl) (q := 34) rfl ?_
        refine x_icmp_ne (tgt := 81) hC (zdk dk_X6_readSum 18 rfl) (q := 37) rfl rfl (fun _ => ?_) (fun _ => ?_)
        · refine x_weak (L' := [.null, .null, .null, .null]) ⟨Or.inl rfl, Or.inl rfl, Or.inl rfl, Or.inl rfl, trivial⟩ ?_
          exact x_X6_readSum_81 hC hE hk0 hrk h_r0 _
        · refine x_weak (L' := [.ref r0, .int x1, .int x2, .null]) ⟨Or.inr rfl, Or.inr rfl, Or.inr rfl, Or.inl rfl, trivial⟩ ?_
          exact x_X6_readSum_37 hC hE hk0 hrk h_r0 (f_X6_readSum_12 rk r0 x1 f) ih _ _
set_option maxRecDepth 100000 in
def f_X6_readSum (rk : Nat → Nat → Int32 → Int32 → Mem → Option (Int32 × Mem)) (r0 : Nat) (x1 : Int32) (M : Mem) : Option (Int32 × Mem) := Option.bind (rk 1 r0 x1 0 M) fun z5 => (if z5.1 = 0 then some (0, z5.2) else f_X6_readSum_12 rk r0 x1 1000000 0 z5.2)
set_option maxRecDepth 100000 in
set_option maxHeartbeats 4000000 in
theorem x_X6_readSum {κ : KX} {n : Nat} {d : Nat} (hC : CX κ cX6_readSum RX6 4 (some .boolean) (3 + d + 1)) (hE : zEnd κ n (0, 0)) (hk0 : zRk κ (0, 0)) (rk : Nat → Nat → Int32 → Int32 → Mem → Option (Int32 × Mem)) (hrk : zRkH rk n d) (r0 : Nat) (x1 : Int32) (M : Mem) (h_r0 : zO n r0 6) : X κ 4 emI n (0, 0) 0 [.ref r0, .int x1, .null, .null] [] M (f_X6_readSum rk r0 x1 M) := by
  unfold f_X6_readSum
  refine x_aload_n (i := 0) rfl hC (zdk dk_X6_readSum 0 rfl) (q := 1) rfl ?_
  refine x_iload_n (i := 1) rfl hC (zdk dk_X6_readSum 1 rfl) (q := 2) rfl ?_
  refine x_callVi (as := [.int x1]) cb_RX6_206 rfl ⟨Nat.le_refl _, by decide⟩ hk0 h_r0 (fun x hx => (hrk.2.1) _ _ _ h_r0 x hx) hC (zdk dk_X6_readSum 2 rfl) (q := 5) rfl rfl (Nat.le_of_ble_eq_true rfl) (fun z5 => ?_)
  refine x_if_ne (tgt := 10) hC (zdk dk_X6_readSum 3 rfl) (q := 8) rfl rfl (fun _ => ?_) (fun _ => ?_)
  · refine x_iconst (i := 0) c_iconst_0 hC (zdk dk_X6_readSum 6 rfl) (q := 11) rfl ?_
    refine x_istore_n (i := 2) (L' := [.ref r0, .int x1, .int 0, .null]) (by decide) rfl hC (zdk dk_X6_readSum 7 rfl) (q := 12) rfl ?_
    refine x_weak (L' := [.ref r0, .int x1, .int 0, .null]) ⟨Or.inr rfl, Or.inr rfl, Or.inr rfl, Or.inl rfl, trivial⟩ ?_
    exact x_X6_readSum_12 hC hE hk0 hrk h_r0 _ _ _
  · refine x_iconst (i := 0) c_iconst_0 hC (zdk dk_X6_readSum 4 rfl) (q := 9) rfl ?_
    exact x_iret (ty := .boolean) rfl hE hC (zdk dk_X6_readSum 5 rfl)
set_option maxRecDepth 100000 in
set_option maxHeartbeats 4000000 in
theorem t_X6_readSum {n d : Nat} {rk : Nat → Nat → Int32 → Int32 → Mem → Option (Int32 × Mem)} (hrk : zRkH rk n d) {r0 : Nat} {x1 : Int32} {M : Mem} (h_r0 : zO n r0 6) (x : (Int32 × Mem)) (hx : f_X6_readSum rk r0 x1 M = some x) (l : Launch) (dC : Nat → ClassId) (dI : Nat → Nat → Nat) (b : zSg) : MT l dC dI b yX6_readSum cX6_readSum 4 (some .boolean) (3 + d + 1) 0 0 n n [.ref r0, .int x1] M (emI x).1 (emI x).2 :=
  MT.ofX (by decide +kernel) rfl (Nat.le_of_ble_eq_true rfl) (fun κ hC hF _ => x_X6_readSum hC (zEnd_of hF (Nat.le_refl _) (Nat.le_refl _)) (zRk_of hF (Nat.le_refl _) (Nat.le_refl _)) rk hrk _ _ _ h_r0) x hx
set_option maxRecDepth 100000 in
def dt_X6_readProduct : List (Nat × Instr × Nat) := [(0, .aload_n 0, 1), (1, .iload_n 1, 1), (2, .invokevirtual 213, 3), (5, .ifCond .ne 5, 3), (8, .iconst 0, 1), (9, .ireturn, 1), (10, .iconst 0, 1), (11, .istore_n 2, 1), (12, .iload_n 2, 1), (13, .sipush 1600, 3), (16, .if_icmp .ge 89, 3), (19, .aload_n 0, 1), (20, .getfield 78, 3), (23, .bipush 42, 2), (25, .if_icmp .eq 21, 3), (28, .aload_n 0, 1), (29, .getfield 78, 3), (32, .bipush 47, 2), (34, .if_icmp .eq 12, 3), (37, .aload_n 0, 1), (38, .getfield 78, 3), (41, .bipush 37, 2), (43, .if_icmp .ne 62, 3), (46, .aload_n 0, 1), (47, .getfield 78, 3), (50, .bipush 42, 2), (52, .if_icmp .ne 8, 3), (55, .bipush (-3), 2), (57, .goto 19, 3), (60, .aload_n 0, 1), (61, .getfield 78, 3), (64, .bipush 47, 2), (66, .if_icmp .ne 8, 3), (69, .bipush (-4), 2), (71, .goto 5, 3), (74, .bipush (-5), 2), (76, .istore_n 3, 1), (77, .aload_n 0, 1), (78, .invokevirtual 64, 3), (81, .aload_n 0, 1), (82, .iload_n 1, 1), (83, .invokevirtual 213, 3), (86, .ifCond .ne 5, 3), (89, .iconst 0, 1), (90, .ireturn, 1), (91, .aload_n 0, 1), (92, .getfield 18, 3), (95, .iload_n 3, 1), (96, .invokevirtual 209, 3), (99, .iinc 2 1, 3), (102, .goto (-90), 3), (105, .iconst 1, 1), (106, .ireturn, 1)]
set_option maxRecDepth 100000 in
theorem dk_X6_readProduct : dt_X6_readProduct.all (fun q => decide (decode cX6_readProduct q.1 = .ok q.2)) = true := by decide +kernel
set_option maxRecDepth 100000 in
def f_X6_readProduct_76 (rk : Nat → Nat → Int32 → Int32 → Mem → Option (Int32 × Mem)) (k12 : Int32 → Mem → Option (Int32 × Mem)) (r0 : Nat) (x1 : Int32) (x2 : Int32) (s0 : Int32) (M : Mem) : Option (Int32 × Mem) := Option.bind (f_X6_look r0 M) fun M1 => Option.bind (rk 2 r0 x1 0 M1) fun z2 => (if z2.1 = 0 then some (0, z2.2) else Option.bind (zrf z2.2 r0 2) fun q3 => Option.bind (f_X0_addStep q3 s0 z2.2) fun M4 => k12 (x2 + 1) M4)
set_option maxRecDepth 100000 in
set_option maxHeartbeats 4000000 in
theorem x_X6_readProduct_76 {κ : KX} {n : Nat} {d : Nat} (hC : CX κ cX6_readProduct RX6 4 (some .boolean) (3 + d + 1)) (hE : zEnd κ n (0, 0)) (hk0 : zRk κ (0, 0)) {rk : Nat → Nat → Int32 → Int32 → Mem → Option (Int32 × Mem)} (hrk : zRkH rk n d) {r0 : Nat} {x1 : Int32} (h_r0 : zO n r0 6) (k12 : Int32 → Mem → Option (Int32 × Mem)) (hk12 : ∀ (x2 : Int32) (M : Mem), X κ 4 emI n (0, 0) 12 [.ref r0, .int x1, .int x2, .null] [] M (k12 x2 M)) (x2 : Int32) (s0 : Int32) (M : Mem) : X κ 4 emI n (0, 0) 76 [.ref r0, .int x1, .int x2, .null] [.int s0] M (f_X6_readProduct_76 rk k12 r0 x1 x2 s0 M) := by
  unfold f_X6_readProduct_76
  refine x_istore_n (i := 3) (L' := [.ref r0, .int x1, .int x2, .int s0]) (by decide) rfl hC (zdk dk_X6_readProduct 36 rfl) (q := 77) rfl ?_
  refine x_aload_n (i := 0) rfl hC (zdk dk_X6_readProduct 37 rfl) (q := 78) rfl ?_
  refine x_callVv (as := []) cb_RX6_64 rfl ⟨zdep 1 (by decide), by decide⟩ hk0 h_r0 (fun x hx => t_X6_look h_r0 x hx) hC (zdk dk_X6_readProduct 38 rfl) (q := 81) rfl rfl (Nat.le_of_ble_eq_true rfl) (fun M1 => ?_)
  refine x_aload_n (i := 0) rfl hC (zdk dk_X6_readProduct 39 rfl) (q := 82) rfl ?_
  refine x_iload_n (i := 1) rfl hC (zdk dk_X6_readProduct 40 rfl) (q := 83) rfl ?_
  refine x_callVi (as := [.int x1]) cb_RX6_213 rfl ⟨Nat.le_refl _, by decide⟩ hk0 h_r0 (fun x hx => (hrk.2.2.1) _ _ _ h_r0 x hx) hC (zdk dk_X6_readProduct 41 rfl) (q := 86) rfl rfl (Nat.le_of_ble_eq_true rfl) (fun z2 => ?_)
  refine x_if_ne (tgt := 91) hC (zdk dk_X6_readProduct 42 rfl) (q := 89) rfl rfl (fun _ => ?_) (fun _ => ?_)
  · refine x_aload_n (i := 0) rfl hC (zdk dk_X6_readProduct 45 rfl) (q := 92) rfl ?_
    refine x_getR (k := 0) fl_RX6_18 rfl h_r0 hC (zdk dk_X6_readProduct 46 rfl) (q := 95) rfl (fun q3 hq3 => ?_)
    refine x_iload_n (i := 3) rfl hC (zdk dk_X6_readProduct 47 rfl) (q := 96) rfl ?_
    refine x_callVv (as := [.int s0]) cb_RX6_209 rfl ⟨zdep 0 (by decide), by decide⟩ hk0 hq3 (fun x hx => t_X0_addStep hq3 x hx) hC (zdk dk_X6_readProduct 48 rfl) (q := 99) rfl rfl (Nat.le_of_ble_eq_true rfl) (fun M4 => ?_)
    refine x_iinc (i := 2) c_iconst_1 rfl (by decide) (L' := [.ref r0, .int x1, .int (x2 + 1), .int s0]) rfl hC (zdk dk_X6_readProduct 49 rfl) (q := 102) rfl ?_
    refine x_goto (tgt := 12) hC (zdk dk_X6_readProduct 50 rfl) rfl ?_
    refine x_weak (L' := [.ref r0, .int x1, .int (x2 + 1), .null]) ⟨Or.inr rfl, Or.inr rfl, Or.inr rfl, Or.inl rfl, trivial⟩ ?_
    exact hk12 _ _
  · refine x_iconst (i := 0) c_iconst_0 hC (zdk dk_X6_readProduct 43 rfl) (q := 90) rfl ?_
    exact x_iret (ty := .boolean) rfl hE hC (zdk dk_X6_readProduct 44 rfl)
set_option maxRecDepth 100000 in
def f_X6_readProduct_46 (rk : Nat → Nat → Int32 → Int32 → Mem → Option (Int32 × Mem)) (k12 : Int32 → Mem → Option (Int32 × Mem)) (r0 : Nat) (x1 : Int32) (x2 : Int32) (M : Mem) : Option (Int32 × Mem) := (if zI M r0 6 = 42 then f_X6_readProduct_76 rk k12 r0 x1 x2 ((-3)) M else (if zI M r0 6 = 47 then f_X6_readProduct_76 rk k12 r0 x1 x2 ((-4)) M else f_X6_readProduct_76 rk k12 r0 x1 x2 ((-5)) M))
set_option maxRecDepth 100000 in
set_option maxHeartbeats 4000000 in
theorem x_X6_readProduct_46 {κ : KX} {n : Nat} {d : Nat} (hC : CX κ cX6_readProduct RX6 4 (some .boolean) (3 + d + 1)) (hE : zEnd κ n (0, 0)) (hk0 : zRk κ (0, 0)) {rk : Nat → Nat → Int32 → Int32 → Mem → Option (Int32 × Mem)} (hrk : zRkH rk n d) {r0 : Nat} {x1 : Int32} (h_r0 : zO n r0 6) (k12 : Int32 → Mem → Option (Int32 × Mem)) (hk12 : ∀ (x2 : Int32) (M : Mem), X κ 4 emI n (0, 0) 12 [.ref r0, .int x1, .int x2, .null] [] M (k12 x2 M)) (x2 : Int32) (M : Mem) : X κ 4 emI n (0, 0) 46 [.ref r0, .int x1, .int x2, .null] [] M (f_X6_readProduct_46 rk k12 r0 x1 x2 M) := by
  unfold f_X6_readProduct_46
  refine x_aload_n (i := 0) rfl hC (zdk dk_X6_readProduct 23 rfl) (q := 47) rfl ?_
  refine x_getI fl_RX6_78 (by decide) h_r0 hC (zdk dk_X6_readProduct 24 rfl) (q := 50) rfl ?_
  refine x_bipush (i := 42) c_bipush_42 hC (zdk dk_X6_readProduct 25 rfl) (q := 52) rfl ?_
  refine x_icmp_ne (tgt := 60) hC (zdk dk_X6_readProduct 26 rfl) (q := 55) rfl rfl (fun _ => ?_) (fun _ => ?_)
  · refine x_aload_n (i := 0) rfl hC (zdk dk_X6_readProduct 29 rfl) (q := 61) rfl ?_
    refine x_getI fl_RX6_78 (by decide) h_r0 hC (zdk dk_X6_readProduct 30 rfl) (q := 64) rfl ?_
    refine x_bipush (i := 47) c_bipush_47 hC (zdk dk_X6_readProduct 31 rfl) (q := 66) rfl ?_
    refine x_icmp_ne (tgt := 74) hC (zdk dk_X6_readProduct 32 rfl) (q := 69) rfl rfl (fun _ => ?_) (fun _ => ?_)
    · refine x_bipush (i := (-5)) c_bipush_m5 hC (zdk dk_X6_readProduct 35 rfl) (q := 76) rfl ?_
      refine x_weak (L' := [.ref r0, .int x1, .int x2, .null]) ⟨Or.inr rfl, Or.inr rfl, Or.inr rfl, Or.inl rfl, trivial⟩ ?_
      exact x_X6_readProduct_76 hC hE hk0 hrk h_r0 k12 hk12 _ _ _
    · refine x_bipush (i := (-4)) c_bipush_m4 hC (zdk dk_X6_readProduct 33 rfl) (q := 71) rfl ?_
      refine x_goto (tgt := 76) hC (zdk dk_X6_readProduct 34 rfl) rfl ?_
      refine x_weak (L' := [.ref r0, .int x1, .int x2, .null]) ⟨Or.inr rfl, Or.inr rfl, Or.inr rfl, Or.inl rfl, trivial⟩ ?_
      exact x_X6_readProduct_76 hC hE hk0 hrk h_r0 k12 hk12 _ _ _
  · refine x_bipush (i := (-3)) c_bipush_m3 hC (zdk dk_X6_readProduct 27 rfl) (q := 57) rfl ?_
    refine x_goto (tgt := 76) hC (zdk dk_X6_readProduct 28 rfl) rfl ?_
    refine x_weak (L' := [.ref r0, .int x1, .int x2, .null]) ⟨Or.inr rfl, Or.inr rfl, Or.inr rfl, Or.inl rfl, trivial⟩ ?_
    exact x_X6_readProduct_76 hC hE hk0 hrk h_r0 k12 hk12 _ _ _
set_option maxRecDepth 100000 in
def f_X6_readProduct_105 (rk : Nat → Nat → Int32 → Int32 → Mem → Option (Int32 × Mem))  (r0 : Nat) (x1 : Int32)  (M : Mem) : Option (Int32 × Mem) := some (1, M)
set_option maxRecDepth 100000 in
set_option maxHeartbeats 4000000 in
theorem x_X6_readProduct_105 {κ : KX} {n : Nat} {d : Nat} (hC : CX κ cX6_readProduct RX6 4 (some .boolean) (3 + d + 1)) (hE : zEnd κ n (0, 0)) (hk0 : zRk κ (0, 0)) {rk : Nat → Nat → Int32 → Int32 → Mem → Option (Int32 × Mem)} (hrk : zRkH rk n d) {r0 : Nat} {x1 : Int32} (h_r0 : zO n r0 6) (M : Mem) : X κ 4 emI n (0, 0) 105 [.null, .null, .null, .null] [] M (f_X6_readProduct_105 rk r0 x1 M) := by
  unfold f_X6_readProduct_105
  refine x_iconst (i := 1) c_iconst_1 hC (zdk dk_X6_readProduct 51 rfl) (q := 106) rfl ?_
  exact x_iret (ty := .boolean) rfl hE hC (zdk dk_X6_readProduct 52 rfl)
set_option maxRecDepth 100000 in
def f_X6_readProduct_12 (rk : Nat → Nat → Int32 → Int32 → Mem → Option (Int32 × Mem))  (r0 : Nat) (x1 : Int32) : Nat → Int32 → Mem → Option (Int32 × Mem)
  | 0, _, _ => none
  | f + 1, x2, M => (if 1600 ≤ x2 then f_X6_readProduct_105 rk r0 x1 M else (if zI M r0 6 = 42 then f_X6_readProduct_46 rk (f_X6_readProduct_12 rk r0 x1 f) r0 x1 x2 M else (if zI M r0 6 = 47 then f_X6_readProduct_46 rk (f_X6_readProduct_12 rk r0 x1 f) r0 x1 x2 M else (if zI M r0 6 = 37 then f_X6_readProduct_46 rk (f_X6_readProduct_12 rk r0 x1 f) r0 x1 x2 M else f_X6_readProduct_105 rk r0 x1 M))))
set_option maxRecDepth 100000 in
set_option maxHeartbeats 4000000 in
theorem x_X6_readProduct_12 {κ : KX} {n : Nat} {d : Nat} (hC : CX κ cX6_readProduct RX6 4 (some .boolean) (3 + d + 1)) (hE : zEnd κ n (0, 0)) (hk0 : zRk κ (0, 0)) {rk : Nat → Nat → Int32 → Int32 → Mem → Option (Int32 × Mem)} (hrk : zRkH rk n d) {r0 : Nat} {x1 : Int32} (h_r0 : zO n r0 6) : ∀ (f : Nat) (x2 : Int32) (M : Mem), X κ 4 emI n (0, 0) 12 [.ref r0, .int x1, .int x2, .null] [] M (f_X6_readProduct_12 rk r0 x1 f x2 M) := by
  intro f
  induction f with
  | zero => intros; exact x_none
  | succ f ih =>
    intro x2 M 
    rw [f_X6_readProduct_12]
    refine x_iload_n (i := 2) rfl hC (zdk dk_X6_readProduct 8 rfl) (q := 13) rfl ?_
    refine x_sipush (i := 1600) c_sipush_1600 hC (zdk dk_X6_readProduct 9 rfl) (q := 16) rfl ?_
    refine x_icmp_ge (tgt := 105) hC (zdk dk_X6_readProduct 10 rfl) (q := 19) rfl rfl (fun _ => ?_) (fun _ => ?_)
    · refine x_weak (L' := [.null, .null, .null, .null]) ⟨Or.inl rfl, Or.inl rfl, Or.inl rfl, Or.inl rfl, trivial⟩ ?_
      exact x_X6_readProduct_105 hC hE hk0 hrk h_r0 _
    · refine x_aload_n (i := 0) rfl hC (zdk dk_X6_readProduct 11 rfl) (q := 20) rfl ?_
      refine x_getI fl_RX6_78 (by decide) h_r0 hC (zdk dk_X6_readProduct 12 rfl) (q := 23) rfl ?_
      refine x_bipush (i := 42) c_bipush_42 hC (zdk dk_X6_readProduct 13 rfl) (q := 25) rfl ?_
      refine x_icmp_eq (tgt := 46) hC (zdk dk_X6_readProduct 14 rfl) (q := 28) rfl rfl (fun _ => ?_) (fun _ => ?_)
      · refine x_weak (L' := [.ref r0, .int x1, .int x2, .null]) ⟨Or.inr rfl, Or.inr rfl, Or.inr rfl, Or.inl rfl, trivial⟩ ?_
        exact x_X6_readProduct_46 hC hE hk0 hrk h_r0 (f_X6_readProduct_12 rk r0 x1 f) ih _ _
      · refine x_aload_n (i := 0) rfl hC (zdk dk_X6_readProduct 15 rfl) (q := 29) rfl ?_
        refine x_getI fl_RX6_78 (by decide) h_r0 hC (zdk dk_X6_readProduct 16 rfl) (q := 32) rfl ?_
        refine x_bipush (i := 47) c_bipush_47 hC (zdk dk_X6_readProduct 17 rfl) (q := 34) rfl ?_
        refine x_icmp_eq (tgt := 46) hC (zdk dk_X6_readProduct 18 rfl) (q := 37) rfl rfl (fun _ => ?_) (fun _ => ?_)
        · refine x_weak (L' := [.ref r0, .int x1, .int x2, .null]) ⟨Or.inr rfl, Or.inr rfl, Or.inr rfl, Or.inl rfl, trivial⟩ ?_
          exact x_X6_readProduct_46 hC hE hk0 hrk h_r0 (f_X6_readProduct_12 rk r0 x1 f) ih _ _
        · refine x_aload_n (i := 0) rfl hC (zdk dk_X6_readProduct 19 rfl) (q := 38) rfl ?_
          refine x_getI fl_RX6_78 (by decide) h_r0 hC (zdk dk_X6_readProduct 20 rfl) (q := 41) rfl ?_
          refine x_bipush (i := 37) c_bipush_37 hC (zdk dk_X6_readProduct 21 rfl) (q := 43) rfl ?_
          refine x_icmp_ne (tgt := 105) hC (zdk dk_X6_readProduct 22 rfl) (q := 46) rfl rfl (fun _ => ?_) (fun _ => ?_)
          · refine x_weak (L' := [.null, .null, .null, .null]) ⟨Or.inl rfl, Or.inl rfl, Or.inl rfl, Or.inl rfl, trivial⟩ ?_
            exact x_X6_readProduct_105 hC hE hk0 hrk h_r0 _
          · refine x_weak (L' := [.ref r0, .int x1, .int x2, .null]) ⟨Or.inr rfl, Or.inr rfl, Or.inr rfl, Or.inl rfl, trivial⟩ ?_
            exact x_X6_readProduct_46 hC hE hk0 hrk h_r0 (f_X6_readProduct_12 rk r0 x1 f) ih _ _
set_option maxRecDepth 100000 in
def f_X6_readProduct (rk : Nat → Nat → Int32 → Int32 → Mem → Option (Int32 × Mem)) (r0 : Nat) (x1 : Int32) (M : Mem) : Option (Int32 × Mem) := Option.bind (rk 2 r0 x1 0 M) fun z5 => (if z5.1 = 0 then some (0, z5.2) else f_X6_readProduct_12 rk r0 x1 1000000 0 z5.2)
set_option maxRecDepth 100000 in
set_option maxHeartbeats 4000000 in
theorem x_X6_readProduct {κ : KX} {n : Nat} {d : Nat} (hC : CX κ cX6_readProduct RX6 4 (some .boolean) (3 + d + 1)) (hE : zEnd κ n (0, 0)) (hk0 : zRk κ (0, 0)) (rk : Nat → Nat → Int32 → Int32 → Mem → Option (Int32 × Mem)) (hrk : zRkH rk n d) (r0 : Nat) (x1 : Int32) (M : Mem) (h_r0 : zO n r0 6) : X κ 4 emI n (0, 0) 0 [.ref r0, .int x1, .null, .null] [] M (f_X6_readProduct rk r0 x1 M) := by
  unfold f_X6_readProduct
  refine x_aload_n (i := 0) rfl hC (zdk dk_X6_readProduct 0 rfl) (q := 1) rfl ?_
  refine x_iload_n (i := 1) rfl hC (zdk dk_X6_readProduct 1 rfl) (q := 2) rfl ?_
  refine x_callVi (as := [.int x1]) cb_RX6_213 rfl ⟨Nat.le_refl _, by decide⟩ hk0 h_r0 (fun x hx => (hrk.2.2.1) _ _ _ h_r0 x hx) hC (zdk dk_X6_readProduct 2 rfl) (q := 5) rfl rfl (Nat.le_of_ble_eq_true rfl) (fun z5 => ?_)
  refine x_if_ne (tgt := 10) hC (zdk dk_X6_readProduct 3 rfl) (q := 8) rfl rfl (fun _ => ?_) (fun _ => ?_)
  · refine x_iconst (i := 0) c_iconst_0 hC (zdk dk_X6_readProduct 6 rfl) (q := 11) rfl ?_
    refine x_istore_n (i := 2) (L' := [.ref r0, .int x1, .int 0, .null]) (by decide) rfl hC (zdk dk_X6_readProduct 7 rfl) (q := 12) rfl ?_
    refine x_weak (L' := [.ref r0, .int x1, .int 0, .null]) ⟨Or.inr rfl, Or.inr rfl, Or.inr rfl, Or.inl rfl, trivial⟩ ?_
    exact x_X6_readProduct_12 hC hE hk0 hrk h_r0 _ _ _
  · refine x_iconst (i := 0) c_iconst_0 hC (zdk dk_X6_readProduct 4 rfl) (q := 9) rfl ?_
    exact x_iret (ty := .boolean) rfl hE hC (zdk dk_X6_readProduct 5 rfl)
set_option maxRecDepth 100000 in
set_option maxHeartbeats 4000000 in
theorem t_X6_readProduct {n d : Nat} {rk : Nat → Nat → Int32 → Int32 → Mem → Option (Int32 × Mem)} (hrk : zRkH rk n d) {r0 : Nat} {x1 : Int32} {M : Mem} (h_r0 : zO n r0 6) (x : (Int32 × Mem)) (hx : f_X6_readProduct rk r0 x1 M = some x) (l : Launch) (dC : Nat → ClassId) (dI : Nat → Nat → Nat) (b : zSg) : MT l dC dI b yX6_readProduct cX6_readProduct 4 (some .boolean) (3 + d + 1) 0 0 n n [.ref r0, .int x1] M (emI x).1 (emI x).2 :=
  MT.ofX (by decide +kernel) rfl (Nat.le_of_ble_eq_true rfl) (fun κ hC hF _ => x_X6_readProduct hC (zEnd_of hF (Nat.le_refl _) (Nat.le_refl _)) (zRk_of hF (Nat.le_refl _) (Nat.le_refl _)) rk hrk _ _ _ h_r0) x hx
set_option maxRecDepth 100000 in
def dt_X6_readPart : List (Nat × Instr × Nat) := [(0, .aload_n 0, 1), (1, .getfield 78, 3), (4, .bipush (-3), 2), (6, .if_icmp .ne 20, 3), (9, .aload_n 0, 1), (10, .getfield 18, 3), (13, .aload_n 0, 1), (14, .getfield 97, 3), (17, .invokevirtual 209, 3), (20, .aload_n 0, 1), (21, .invokevirtual 64, 3), (24, .iconst 1, 1), (25, .ireturn, 1), (26, .aload_n 0, 1), (27, .getfield 78, 3), (30, .bipush 40, 2), (32, .if_icmp .ne 38, 3), (35, .aload_n 0, 1), (36, .bipush 40, 2), (38, .iload_n 1, 1), (39, .invokevirtual 216, 3), (42, .ifCond .eq 26, 3), (45, .aload_n 0, 1), (46, .iload_n 1, 1), (47, .iconst 1, 1), (48, .iadd, 1), (49, .invokevirtual 188, 3), (52, .ifCond .eq 16, 3), (55, .aload_n 0, 1), (56, .bipush 41, 2), (58, .invokevirtual 71, 3), (61, .ifCond .eq 7, 3), (64, .iconst 1, 1), (65, .goto 4, 3), (68, .iconst 0, 1), (69, .ireturn, 1), (70, .aload_n 0, 1), (71, .bipush 25, 2), (73, .invokevirtual 112, 3), (76, .ifCond .ne 12, 3), (79, .aload_n 0, 1), (80, .bipush 26, 2), (82, .invokevirtual 112, 3), (85, .ifCond .eq 25, 3), (88, .aload_n 0, 1), (89, .iload_n 1, 1), (90, .aload_n 0, 1), (91, .bipush 25, 2), (93, .invokevirtual 112, 3), (96, .ifCond .eq 8, 3), (99, .bipush (-6), 2), (101, .goto 5, 3), (104, .bipush (-7), 2), (106, .invokevirtual 219, 3), (109, .ireturn, 1), (110, .aload_n 0, 1), (111, .bipush 20, 2), (113, .invokevirtual 112, 3), (116, .ifCond .eq 9, 3), (119, .aload_n 0, 1), (120, .iload_n 1, 1), (121, .invokevirtual 222, 3), (124, .ireturn, 1), (125, .aload_n 0, 1), (126, .getfield 78, 3), (129, .bipush (-2), 2), (131, .if_icmp .ne 14, 3), (134, .aload_n 0, 1), (135, .aload_n 0, 1), (136, .getfield 94, 3), (139, .invokevirtual 225, 3), (142, .ifCond .ne 8, 3), (145, .aload_n 0, 1), (146, .invokevirtual 115, 3), (149, .ireturn, 1), (150, .aload_n 0, 1), (151, .getfield 18, 3), (154, .bipush (-100), 2), (156, .aload_n 0, 1), (157, .getfield 94, 3), (160, .isub, 1), (161, .invokevirtual 209, 3), (164, .aload_n 0, 1), (165, .invokevirtual 64, 3), (168, .iconst 1, 1), (169, .ireturn, 1)]
set_option maxRecDepth 100000 in
theorem dk_X6_readPart : dt_X6_readPart.all (fun q => decide (decode cX6_readPart q.1 = .ok q.2)) = true := by decide +kernel
set_option maxRecDepth 100000 in
def f_X6_readPart_69 (rk : Nat → Nat → Int32 → Int32 → Mem → Option (Int32 × Mem))  (r0 : Nat) (x1 : Int32) (s0 : Int32) (M : Mem) : Option (Int32 × Mem) := zbz s0 (some (s0, M))
set_option maxRecDepth 100000 in
set_option maxHeartbeats 4000000 in
theorem x_X6_readPart_69 {κ : KX} {n : Nat} {d : Nat} (hC : CX κ cX6_readPart RX6 2 (some .boolean) (3 + d + 1)) (hE : zEnd κ n (0, 0)) (hk0 : zRk κ (0, 0)) {rk : Nat → Nat → Int32 → Int32 → Mem → Option (Int32 × Mem)} (hrk : zRkH rk n d) {r0 : Nat} {x1 : Int32} (h_r0 : zO n r0 6) (s0 : Int32) (M : Mem) : X κ 2 emI n (0, 0) 69 [.null, .null] [.int s0] M (f_X6_readPart_69 rk r0 x1 s0 M) := by
  unfold f_X6_readPart_69
  refine x_bz (fun hb1 => ?_)
  exact x_iret (ty := .boolean) hb1.1 hE hC (zdk dk_X6_readPart 35 rfl)
set_option maxRecDepth 100000 in
def f_X6_readPart_68 (rk : Nat → Nat → Int32 → Int32 → Mem → Option (Int32 × Mem))  (r0 : Nat) (x1 : Int32)  (M : Mem) : Option (Int32 × Mem) := f_X6_readPart_69 rk r0 x1 0 M
set_option maxRecDepth 100000 in
set_option maxHeartbeats 4000000 in
theorem x_X6_readPart_68 {κ : KX} {n : Nat} {d : Nat} (hC : CX κ cX6_readPart RX6 2 (some .boolean) (3 + d + 1)) (hE : zEnd κ n (0, 0)) (hk0 : zRk κ (0, 0)) {rk : Nat → Nat → Int32 → Int32 → Mem → Option (Int32 × Mem)} (hrk : zRkH rk n d) {r0 : Nat} {x1 : Int32} (h_r0 : zO n r0 6) (M : Mem) : X κ 2 emI n (0, 0) 68 [.null, .null] [] M (f_X6_readPart_68 rk r0 x1 M) := by
  unfold f_X6_readPart_68
  refine x_iconst (i := 0) c_iconst_0 hC (zdk dk_X6_readPart 34 rfl) (q := 69) rfl ?_
  refine x_weak (L' := [.null, .null]) ⟨Or.inl rfl, Or.inl rfl, trivial⟩ ?_
  exact x_X6_readPart_69 hC hE hk0 hrk h_r0 _ _
set_option maxRecDepth 100000 in
def f_X6_readPart_106 (rk : Nat → Nat → Int32 → Int32 → Mem → Option (Int32 × Mem))  (r0 : Nat) (x1 : Int32) (s0 : Nat) (s1 : Int32) (s2 : Int32) (M : Mem) : Option (Int32 × Mem) := Option.bind (rk 3 s0 s1 s2 M) fun z2 => zbz z2.1 (some (z2.1, z2.2))
set_option maxRecDepth 100000 in
set_option maxHeartbeats 4000000 in
theorem x_X6_readPart_106 {κ : KX} {n : Nat} {d : Nat} (hC : CX κ cX6_readPart RX6 2 (some .boolean) (3 + d + 1)) (hE : zEnd κ n (0, 0)) (hk0 : zRk κ (0, 0)) {rk : Nat → Nat → Int32 → Int32 → Mem → Option (Int32 × Mem)} (hrk : zRkH rk n d) {r0 : Nat} {x1 : Int32} (h_r0 : zO n r0 6) (s0 : Nat) (s1 : Int32) (s2 : Int32) (M : Mem) (h_s0 : zO n s0 6) : X κ 2 emI n (0, 0) 106 [.null, .null] [.int s2, .int s1, .ref s0] M (f_X6_readPart_106 rk r0 x1 s0 s1 s2 M) := by
  unfold f_X6_readPart_106
  refine x_callVi (as := [.int s1, .int s2]) cb_RX6_219 rfl ⟨Nat.le_refl _, by decide⟩ hk0 h_s0 (fun x hx => (hrk.2.2.2.1) _ _ _ _ h_s0 x hx) hC (zdk dk_X6_readPart 53 rfl) (q := 109) rfl rfl (Nat.le_of_ble_eq_true rfl) (fun z2 => ?_)
  refine x_bz (fun hb3 => ?_)
  exact x_iret (ty := .boolean) hb3.1 hE hC (zdk dk_X6_readPart 54 rfl)
set_option maxRecDepth 100000 in
def f_X6_readPart_88 (rk : Nat → Nat → Int32 → Int32 → Mem → Option (Int32 × Mem))  (r0 : Nat) (x1 : Int32)  (M : Mem) : Option (Int32 × Mem) := Option.bind (f_X6_isOwn r0 25 M) fun z4 => (if z4.1 = 0 then f_X6_readPart_106 rk r0 x1 r0 x1 ((-7)) z4.2 else f_X6_readPart_106 rk r0 x1 r0 x1 ((-6)) z4.2)
set_option maxRecDepth 100000 in
set_option maxHeartbeats 4000000 in
theorem x_X6_readPart_88 {κ : KX} {n : Nat} {d : Nat} (hC : CX κ cX6_readPart RX6 2 (some .boolean) (3 + d + 1)) (hE : zEnd κ n (0, 0)) (hk0 : zRk κ (0, 0)) {rk : Nat → Nat → Int32 → Int32 → Mem → Option (Int32 × Mem)} (hrk : zRkH rk n d) {r0 : Nat} {x1 : Int32} (h_r0 : zO n r0 6) (M : Mem) : X κ 2 emI n (0, 0) 88 [.ref r0, .int x1] [] M (f_X6_readPart_88 rk r0 x1 M) := by
  unfold f_X6_readPart_88
  refine x_aload_n (i := 0) rfl hC (zdk dk_X6_readPart 44 rfl) (q := 89) rfl ?_
  refine x_iload_n (i := 1) rfl hC (zdk dk_X6_readPart 45 rfl) (q := 90) rfl ?_
  refine x_aload_n (i := 0) rfl hC (zdk dk_X6_readPart 46 rfl) (q := 91) rfl ?_
  refine x_bipush (i := 25) c_bipush_25 hC (zdk dk_X6_readPart 47 rfl) (q := 93) rfl ?_
  refine x_callVi (as := [.int 25]) cb_RX6_112 rfl ⟨zdep 0 (by decide), by decide⟩ hk0 h_r0 (fun x hx => t_X6_isOwn h_r0 x hx) hC (zdk dk_X6_readPart 48 rfl) (q := 96) rfl rfl (Nat.le_of_ble_eq_true rfl) (fun z4 => ?_)
  refine x_if_eq (tgt := 104) hC (zdk dk_X6_readPart 49 rfl) (q := 99) rfl rfl (fun _ => ?_) (fun _ => ?_)
  · refine x_bipush (i := (-7)) c_bipush_m7 hC (zdk dk_X6_readPart 52 rfl) (q := 106) rfl ?_
    refine x_weak (L' := [.null, .null]) ⟨Or.inl rfl, Or.inl rfl, trivial⟩ ?_
    exact x_X6_readPart_106 hC hE hk0 hrk h_r0 _ _ _ _ h_r0
  · refine x_bipush (i := (-6)) c_bipush_m6 hC (zdk dk_X6_readPart 50 rfl) (q := 101) rfl ?_
    refine x_goto (tgt := 106) hC (zdk dk_X6_readPart 51 rfl) rfl ?_
    refine x_weak (L' := [.null, .null]) ⟨Or.inl rfl, Or.inl rfl, trivial⟩ ?_
    exact x_X6_readPart_106 hC hE hk0 hrk h_r0 _ _ _ _ h_r0
set_option maxRecDepth 100000 in
def f_X6_readPart_145 (rk : Nat → Nat → Int32 → Int32 → Mem → Option (Int32 × Mem))  (r0 : Nat) (x1 : Int32)  (M : Mem) : Option (Int32 × Mem) := Option.bind (f_X6_failHere r0 M) fun z5 => zbz z5.1 (some (z5.1, z5.2))
set_option maxRecDepth 100000 in
set_option maxHeartbeats 4000000 in
theorem x_X6_readPart_145 {κ : KX} {n : Nat} {d : Nat} (hC : CX κ cX6_readPart RX6 2 (some .boolean) (3 + d + 1)) (hE : zEnd κ n (0, 0)) (hk0 : zRk κ (0, 0)) {rk : Nat → Nat → Int32 → Int32 → Mem → Option (Int32 × Mem)} (hrk : zRkH rk n d) {r0 : Nat} {x1 : Int32} (h_r0 : zO n r0 6) (M : Mem) : X κ 2 emI n (0, 0) 145 [.ref r0, .null] [] M (f_X6_readPart_145 rk r0 x1 M) := by
  unfold f_X6_readPart_145
  refine x_aload_n (i := 0) rfl hC (zdk dk_X6_readPart 72 rfl) (q := 146) rfl ?_
  refine x_callVi (as := []) cb_RX6_115 rfl ⟨zdep 1 (by decide), by decide⟩ hk0 h_r0 (fun x hx => t_X6_failHere h_r0 x hx) hC (zdk dk_X6_readPart 73 rfl) (q := 149) rfl rfl (Nat.le_of_ble_eq_true rfl) (fun z5 => ?_)
  refine x_bz (fun hb6 => ?_)
  exact x_iret (ty := .boolean) hb6.1 hE hC (zdk dk_X6_readPart 74 rfl)
set_option maxRecDepth 100000 in
def f_X6_readPart (rk : Nat → Nat → Int32 → Int32 → Mem → Option (Int32 × Mem)) (r0 : Nat) (x1 : Int32) (M : Mem) : Option (Int32 × Mem) := (if zI M r0 6 = (-3) then Option.bind (zrf M r0 2) fun q19 => Option.bind (f_X0_addStep q19 (zI M r0 10) M) fun M20 => Option.bind (f_X6_look r0 M20) fun M21 => some (1, M21) else (if zI M r0 6 = 40 then Option.bind (f_X6_readOpening r0 40 x1 M) fun z16 => (if z16.1 = 0 then f_X6_readPart_68 rk r0 x1 z16.2 else Option.bind (rk 0 r0 (x1 + 1) 0 z16.2) fun z17 => (if z17.1 = 0 then f_X6_readPart_68 rk r0 x1 z17.2 else Option.bind (f_X6_readSign r0 41 z17.2) fun z18 => (if z18.1 = 0 then f_X6_readPart_68 rk r0 x1 z18.2 else f_X6_readPart_69 rk r0 x1 1 z18.2))) else Option.bind (f_X6_isOwn r0 25 M) fun z7 => (if z7.1 = 0 then Option.bind (f_X6_isOwn r0 26 z7.2) fun z8 => (if z8.1 = 0 then Option.bind (f_X6_isOwn r0 20 z8.2) fun z9 => (if z9.1 = 0 then (if zI z9.2 r0 6 = (-2) then Option.bind (f_X6_isValue r0 (zI z9.2 r0 11) z9.2) fun z10 => (if z10.1 = 0 then f_X6_readPart_145 rk r0 x1 z10.2 else Option.bind (zrf z10.2 r0 2) fun q11 => Option.bind (f_X0_addStep q11 (((-100)) - (zI z10.2 r0 11)) z10.2) fun M12 => Option.bind (f_X6_look r0 M12) fun M13 => some (1, M13)) else f_X6_readPart_145 rk r0 x1 z9.2) else Option.bind (rk 4 r0 x1 0 z9.2) fun z14 => zbz z14.1 (some (z14.1, z14.2))) else f_X6_readPart_88 rk r0 x1 z8.2) else f_X6_readPart_88 rk r0 x1 z7.2)))
set_option maxRecDepth 100000 in
set_option maxHeartbeats 4000000 in
theorem x_X6_readPart {κ : KX} {n : Nat} {d : Nat} (hC : CX κ cX6_readPart RX6 2 (some .boolean) (3 + d + 1)) (hE : zEnd κ n (0, 0)) (hk0 : zRk κ (0, 0)) (rk : Nat → Nat → Int32 → Int32 → Mem → Option (Int32 × Mem)) (hrk : zRkH rk n d) (r0 : Nat) (x1 : Int32) (M : Mem) (h_r0 : zO n r0 6) : X κ 2 emI n (0, 0) 0 [.ref r0, .int x1] [] M (f_X6_readPart rk r0 x1 M) := by
  unfold f_X6_readPart
  refine x_aload_n (i := 0) rfl hC (zdk dk_X6_readPart 0 rfl) (q := 1) rfl ?_
  refine x_getI fl_RX6_78 (by decide) h_r0 hC (zdk dk_X6_readPart 1 rfl) (q := 4) rfl ?_
  refine x_bipush (i := (-3)) c_bipush_m3 hC (zdk dk_X6_readPart 2 rfl) (q := 6) rfl ?_
  refine x_icmp_ne (tgt := 26) hC (zdk dk_X6_readPart 3 rfl) (q := 9) rfl rfl (fun _ => ?_) (fun _ => ?_)
  · refine x_aload_n (i := 0) rfl hC (zdk dk_X6_readPart 13 rfl) (q := 27) rfl ?_
    refine x_getI fl_RX6_78 (by decide) h_r0 hC (zdk dk_X6_readPart 14 rfl) (q := 30) rfl ?_
    refine x_bipush (i := 40) c_bipush_40 hC (zdk dk_X6_readPart 15 rfl) (q := 32) rfl ?_
    refine x_icmp_ne (tgt := 70) hC (zdk dk_X6_readPart 16 rfl) (q := 35) rfl rfl (fun _ => ?_) (fun _ => ?_)
    · refine x_aload_n (i := 0) rfl hC (zdk dk_X6_readPart 36 rfl) (q := 71) rfl ?_
      refine x_bipush (i := 25) c_bipush_25 hC (zdk dk_X6_readPart 37 rfl) (q := 73) rfl ?_
      refine x_callVi (as := [.int 25]) cb_RX6_112 rfl ⟨zdep 0 (by decide), by decide⟩ hk0 h_r0 (fun x hx => t_X6_isOwn h_r0 x hx) hC (zdk dk_X6_readPart 38 rfl) (q := 76) rfl rfl (Nat.le_of_ble_eq_true rfl) (fun z7 => ?_)
      refine x_if_ne (tgt := 88) hC (zdk dk_X6_readPart 39 rfl) (q := 79) rfl rfl (fun _ => ?_) (fun _ => ?_)
      · refine x_weak (L' := [.ref r0, .int x1]) ⟨Or.inr rfl, Or.inr rfl, trivial⟩ ?_
        exact x_X6_readPart_88 hC hE hk0 hrk h_r0 _
      · refine x_aload_n (i := 0) rfl hC (zdk dk_X6_readPart 40 rfl) (q := 80) rfl ?_
        refine x_bipush (i := 26) c_bipush_26 hC (zdk dk_X6_readPart 41 rfl) (q := 82) rfl ?_
        refine x_callVi (as := [.int 26]) cb_RX6_112 rfl ⟨zdep 0 (by decide), by decide⟩ hk0 h_r0 (fun x hx => t_X6_isOwn h_r0 x hx) hC (zdk dk_X6_readPart 42 rfl) (q := 85) rfl rfl (Nat.le_of_ble_eq_true rfl) (fun z8 => ?_)
        refine x_if_eq (tgt := 110) hC (zdk dk_X6_readPart 43 rfl) (q := 88) rfl rfl (fun _ => ?_) (fun _ => ?_)
        · refine x_aload_n (i := 0) rfl hC (zdk dk_X6_readPart 55 rfl) (q := 111) rfl ?_
          refine x_bipush (i := 20) c_bipush_20 hC (zdk dk_X6_readPart 56 rfl) (q := 113) rfl ?_
          refine x_callVi (as := [.int 20]) cb_RX6_112 rfl ⟨zdep 0 (by decide), by decide⟩ hk0 h_r0 (fun x hx => t_X6_isOwn h_r0 x hx) hC (zdk dk_X6_readPart 57 rfl) (q := 116) rfl rfl (Nat.le_of_ble_eq_true rfl) (fun z9 => ?_)
          refine x_if_eq (tgt := 125) hC (zdk dk_X6_readPart 58 rfl) (q := 119) rfl rfl (fun _ => ?_) (fun _ => ?_)
          · refine x_aload_n (i := 0) rfl hC (zdk dk_X6_readPart 63 rfl) (q := 126) rfl ?_
            refine x_getI fl_RX6_78 (by decide) h_r0 hC (zdk dk_X6_readPart 64 rfl) (q := 129) rfl ?_
            refine x_bipush (i := (-2)) c_bipush_m2 hC (zdk dk_X6_readPart 65 rfl) (q := 131) rfl ?_
            refine x_icmp_ne (tgt := 145) hC (zdk dk_X6_readPart 66 rfl) (q := 134) rfl rfl (fun _ => ?_) (fun _ => ?_)
            · refine x_weak (L' := [.ref r0, .null]) ⟨Or.inr rfl, Or.inl rfl, trivial⟩ ?_
              exact x_X6_readPart_145 hC hE hk0 hrk h_r0 _
            · refine x_aload_n (i := 0) rfl hC (zdk dk_X6_readPart 67 rfl) (q := 135) rfl ?_
              refine x_aload_n (i := 0) rfl hC (zdk dk_X6_readPart 68 rfl) (q := 136) rfl ?_
              refine x_getI fl_RX6_94 (by decide) h_r0 hC (zdk dk_X6_readPart 69 rfl) (q := 139) rfl ?_
              refine x_callVi (as := [.int (zI z9.2 r0 11)]) cb_RX6_225 rfl ⟨zdep 0 (by decide), by decide⟩ hk0 h_r0 (fun x hx => t_X6_isValue h_r0 x hx) hC (zdk dk_X6_readPart 70 rfl) (q := 142) rfl rfl (Nat.le_of_ble_eq_true rfl) (fun z10 => ?_)
              refine x_if_ne (tgt := 150) hC (zdk dk_X6_readPart 71 rfl) (q := 145) rfl rfl (fun _ => ?_) (fun _ => ?_)
              · refine x_aload_n (i := 0) rfl hC (zdk dk_X6_readPart 75 rfl) (q := 151) rfl ?_
                refine x_getR (k := 0) fl_RX6_18 rfl h_r0 hC (zdk dk_X6_readPart 76 rfl) (q := 154) rfl (fun q11 hq11 => ?_)
                refine x_bipush (i := (-100)) c_bipush_m100 hC (zdk dk_X6_readPart 77 rfl) (q := 156) rfl ?_
                refine x_aload_n (i := 0) rfl hC (zdk dk_X6_readPart 78 rfl) (q := 157) rfl ?_
                refine x_getI fl_RX6_94 (by decide) h_r0 hC (zdk dk_X6_readPart 79 rfl) (q := 160) rfl ?_
                refine x_isub hC (zdk dk_X6_readPart 80 rfl) (q := 161) rfl ?_
                refine x_callVv (as := [.int (((-100)) - (zI z10.2 r0 11))]) cb_RX6_209 rfl ⟨zdep 0 (by decide), by decide⟩ hk0 hq11 (fun x hx => t_X0_addStep hq11 x hx) hC (zdk dk_X6_readPart 81 rfl) (q := 164) rfl rfl (Nat.le_of_ble_eq_true rfl) (fun M12 => ?_)
                refine x_aload_n (i := 0) rfl hC (zdk dk_X6_readPart 82 rfl) (q := 165) rfl ?_
                refine x_callVv (as := []) cb_RX6_64 rfl ⟨zdep 1 (by decide), by decide⟩ hk0 h_r0 (fun x hx => t_X6_look h_r0 x hx) hC (zdk dk_X6_readPart 83 rfl) (q := 168) rfl rfl (Nat.le_of_ble_eq_true rfl) (fun M13 => ?_)
                refine x_iconst (i := 1) c_iconst_1 hC (zdk dk_X6_readPart 84 rfl) (q := 169) rfl ?_
                exact x_iret (ty := .boolean) rfl hE hC (zdk dk_X6_readPart 85 rfl)
              · refine x_weak (L' := [.ref r0, .null]) ⟨Or.inr rfl, Or.inl rfl, trivial⟩ ?_
                exact x_X6_readPart_145 hC hE hk0 hrk h_r0 _
          · refine x_aload_n (i := 0) rfl hC (zdk dk_X6_readPart 59 rfl) (q := 120) rfl ?_
            refine x_iload_n (i := 1) rfl hC (zdk dk_X6_readPart 60 rfl) (q := 121) rfl ?_
            refine x_callVi (as := [.int x1]) cb_RX6_222 rfl ⟨Nat.le_refl _, by decide⟩ hk0 h_r0 (fun x hx => (hrk.2.2.2.2.1) _ _ _ h_r0 x hx) hC (zdk dk_X6_readPart 61 rfl) (q := 124) rfl rfl (Nat.le_of_ble_eq_true rfl) (fun z14 => ?_)
            refine x_bz (fun hb15 => ?_)
            exact x_iret (ty := .boolean) hb15.1 hE hC (zdk dk_X6_readPart 62 rfl)
        · refine x_weak (L' := [.ref r0, .int x1]) ⟨Or.inr rfl, Or.inr rfl, trivial⟩ ?_
          exact x_X6_readPart_88 hC hE hk0 hrk h_r0 _
    · refine x_aload_n (i := 0) rfl hC (zdk dk_X6_readPart 17 rfl) (q := 36) rfl ?_
      refine x_bipush (i := 40) c_bipush_40 hC (zdk dk_X6_readPart 18 rfl) (q := 38) rfl ?_
      refine x_iload_n (i := 1) rfl hC (zdk dk_X6_readPart 19 rfl) (q := 39) rfl ?_
      refine x_callVi (as := [.int 40, .int x1]) cb_RX6_216 rfl ⟨zdep 2 (by decide), by decide⟩ hk0 h_r0 (fun x hx => t_X6_readOpening h_r0 x hx) hC (zdk dk_X6_readPart 20 rfl) (q := 42) rfl rfl (Nat.le_of_ble_eq_true rfl) (fun z16 => ?_)
      refine x_if_eq (tgt := 68) hC (zdk dk_X6_readPart 21 rfl) (q := 45) rfl rfl (fun _ => ?_) (fun _ => ?_)
      · refine x_weak (L' := [.null, .null]) ⟨Or.inl rfl, Or.inl rfl, trivial⟩ ?_
        exact x_X6_readPart_68 hC hE hk0 hrk h_r0 _
      · refine x_aload_n (i := 0) rfl hC (zdk dk_X6_readPart 22 rfl) (q := 46) rfl ?_
        refine x_iload_n (i := 1) rfl hC (zdk dk_X6_readPart 23 rfl) (q := 47) rfl ?_
        refine x_iconst (i := 1) c_iconst_1 hC (zdk dk_X6_readPart 24 rfl) (q := 48) rfl ?_
        refine x_iadd hC (zdk dk_X6_readPart 25 rfl) (q := 49) rfl ?_
        refine x_callVi (as := [.int (x1 + 1)]) cb_RX6_188 rfl ⟨Nat.le_refl _, by decide⟩ hk0 h_r0 (fun x hx => (hrk.1) _ _ _ h_r0 x hx) hC (zdk dk_X6_readPart 26 rfl) (q := 52) rfl rfl (Nat.le_of_ble_eq_true rfl) (fun z17 => ?_)
        refine x_if_eq (tgt := 68) hC (zdk dk_X6_readPart 27 rfl) (q := 55) rfl rfl (fun _ => ?_) (fun _ => ?_)
        · refine x_weak (L' := [.null, .null]) ⟨Or.inl rfl, Or.inl rfl, trivial⟩ ?_
          exact x_X6_readPart_68 hC hE hk0 hrk h_r0 _
        · refine x_aload_n (i := 0) rfl hC (zdk dk_X6_readPart 28 rfl) (q := 56) rfl ?_
          refine x_bipush (i := 41) c_bipush_41 hC (zdk dk_X6_readPart 29 rfl) (q := 58) rfl ?_
          refine x_callVi (as := [.int 41]) cb_RX6_71 rfl ⟨zdep 2 (by decide), by decide⟩ hk0 h_r0 (fun x hx => t_X6_readSign h_r0 x hx) hC (zdk dk_X6_readPart 30 rfl) (q := 61) rfl rfl (Nat.le_of_ble_eq_true rfl) (fun z18 => ?_)
          refine x_if_eq (tgt := 68) hC (zdk dk_X6_readPart 31 rfl) (q := 64) rfl rfl (fun _ => ?_) (fun _ => ?_)
          · refine x_weak (L' := [.null, .null]) ⟨Or.inl rfl, Or.inl rfl, trivial⟩ ?_
            exact x_X6_readPart_68 hC hE hk0 hrk h_r0 _
          · refine x_iconst (i := 1) c_iconst_1 hC (zdk dk_X6_readPart 32 rfl) (q := 65) rfl ?_
            refine x_goto (tgt := 69) hC (zdk dk_X6_readPart 33 rfl) rfl ?_
            refine x_weak (L' := [.null, .null]) ⟨Or.inl rfl, Or.inl rfl, trivial⟩ ?_
            exact x_X6_readPart_69 hC hE hk0 hrk h_r0 _ _
  · refine x_aload_n (i := 0) rfl hC (zdk dk_X6_readPart 4 rfl) (q := 10) rfl ?_
    refine x_getR (k := 0) fl_RX6_18 rfl h_r0 hC (zdk dk_X6_readPart 5 rfl) (q := 13) rfl (fun q19 hq19 => ?_)
    refine x_aload_n (i := 0) rfl hC (zdk dk_X6_readPart 6 rfl) (q := 14) rfl ?_
    refine x_getI fl_RX6_97 (by decide) h_r0 hC (zdk dk_X6_readPart 7 rfl) (q := 17) rfl ?_
    refine x_callVv (as := [.int (zI M r0 10)]) cb_RX6_209 rfl ⟨zdep 0 (by decide), by decide⟩ hk0 hq19 (fun x hx => t_X0_addStep hq19 x hx) hC (zdk dk_X6_readPart 8 rfl) (q := 20) rfl rfl (Nat.le_of_ble_eq_true rfl) (fun M20 => ?_)
    refine x_aload_n (i := 0) rfl hC (zdk dk_X6_readPart 9 rfl) (q := 21) rfl ?_
    refine x_callVv (as := []) cb_RX6_64 rfl ⟨zdep 1 (by decide), by decide⟩ hk0 h_r0 (fun x hx => t_X6_look h_r0 x hx) hC (zdk dk_X6_readPart 10 rfl) (q := 24) rfl rfl (Nat.le_of_ble_eq_true rfl) (fun M21 => ?_)
    refine x_iconst (i := 1) c_iconst_1 hC (zdk dk_X6_readPart 11 rfl) (q := 25) rfl ?_
    exact x_iret (ty := .boolean) rfl hE hC (zdk dk_X6_readPart 12 rfl)
set_option maxRecDepth 100000 in
set_option maxHeartbeats 4000000 in
theorem t_X6_readPart {n d : Nat} {rk : Nat → Nat → Int32 → Int32 → Mem → Option (Int32 × Mem)} (hrk : zRkH rk n d) {r0 : Nat} {x1 : Int32} {M : Mem} (h_r0 : zO n r0 6) (x : (Int32 × Mem)) (hx : f_X6_readPart rk r0 x1 M = some x) (l : Launch) (dC : Nat → ClassId) (dI : Nat → Nat → Nat) (b : zSg) : MT l dC dI b yX6_readPart cX6_readPart 2 (some .boolean) (3 + d + 1) 0 0 n n [.ref r0, .int x1] M (emI x).1 (emI x).2 :=
  MT.ofX (by decide +kernel) rfl (Nat.le_of_ble_eq_true rfl) (fun κ hC hF _ => x_X6_readPart hC (zEnd_of hF (Nat.le_refl _) (Nat.le_refl _)) (zRk_of hF (Nat.le_refl _) (Nat.le_refl _)) rk hrk _ _ _ h_r0) x hx
set_option maxRecDepth 100000 in
def dt_X6_readPair : List (Nat × Instr × Nat) := [(0, .aload_n 0, 1), (1, .invokevirtual 64, 3), (4, .aload_n 0, 1), (5, .bipush 40, 2), (7, .iload_n 1, 1), (8, .invokevirtual 216, 3), (11, .ifCond .eq 22, 3), (14, .aload_n 0, 1), (15, .iload_n 1, 1), (16, .iconst 1, 1), (17, .iadd, 1), (18, .invokevirtual 188, 3), (21, .ifCond .eq 12, 3), (24, .aload_n 0, 1), (25, .bipush 44, 2), (27, .invokevirtual 71, 3), (30, .ifCond .ne 5, 3), (33, .iconst 0, 1), (34, .ireturn, 1), (35, .aload_n 0, 1), (36, .iload_n 1, 1), (37, .iconst 1, 1), (38, .iadd, 1), (39, .invokevirtual 188, 3), (42, .ifCond .eq 12, 3), (45, .aload_n 0, 1), (46, .bipush 41, 2), (48, .invokevirtual 71, 3), (51, .ifCond .ne 5, 3), (54, .iconst 0, 1), (55, .ireturn, 1), (56, .aload_n 0, 1), (57, .getfield 18, 3), (60, .iload_n 2, 1), (61, .invokevirtual 209, 3), (64, .iconst 1, 1), (65, .ireturn, 1)]
set_option maxRecDepth 100000 in
theorem dk_X6_readPair : dt_X6_readPair.all (fun q => decide (decode cX6_readPair q.1 = .ok q.2)) = true := by decide +kernel
set_option maxRecDepth 100000 in
def f_X6_readPair_33 (rk : Nat → Nat → Int32 → Int32 → Mem → Option (Int32 × Mem))  (r0 : Nat) (x1 : Int32) (x2 : Int32)  (M : Mem) : Option (Int32 × Mem) := some (0, M)
set_option maxRecDepth 100000 in
set_option maxHeartbeats 4000000 in
theorem x_X6_readPair_33 {κ : KX} {n : Nat} {d : Nat} (hC : CX κ cX6_readPair RX6 3 (some .boolean) (3 + d + 1)) (hE : zEnd κ n (0, 0)) (hk0 : zRk κ (0, 0)) {rk : Nat → Nat → Int32 → Int32 → Mem → Option (Int32 × Mem)} (hrk : zRkH rk n d) {r0 : Nat} {x1 : Int32} {x2 : Int32} (h_r0 : zO n r0 6) (M : Mem) : X κ 3 emI n (0, 0) 33 [.null, .null, .null] [] M (f_X6_readPair_33 rk r0 x1 x2 M) := by
  unfold f_X6_readPair_33
  refine x_iconst (i := 0) c_iconst_0 hC (zdk dk_X6_readPair 17 rfl) (q := 34) rfl ?_
  exact x_iret (ty := .boolean) rfl hE hC (zdk dk_X6_readPair 18 rfl)
set_option maxRecDepth 100000 in
def f_X6_readPair_54 (rk : Nat → Nat → Int32 → Int32 → Mem → Option (Int32 × Mem))  (r0 : Nat) (x1 : Int32) (x2 : Int32)  (M : Mem) : Option (Int32 × Mem) := some (0, M)
set_option maxRecDepth 100000 in
set_option maxHeartbeats 4000000 in
theorem x_X6_readPair_54 {κ : KX} {n : Nat} {d : Nat} (hC : CX κ cX6_readPair RX6 3 (some .boolean) (3 + d + 1)) (hE : zEnd κ n (0, 0)) (hk0 : zRk κ (0, 0)) {rk : Nat → Nat → Int32 → Int32 → Mem → Option (Int32 × Mem)} (hrk : zRkH rk n d) {r0 : Nat} {x1 : Int32} {x2 : Int32} (h_r0 : zO n r0 6) (M : Mem) : X κ 3 emI n (0, 0) 54 [.null, .null, .null] [] M (f_X6_readPair_54 rk r0 x1 x2 M) := by
  unfold f_X6_readPair_54
  refine x_iconst (i := 0) c_iconst_0 hC (zdk dk_X6_readPair 29 rfl) (q := 55) rfl ?_
  exact x_iret (ty := .boolean) rfl hE hC (zdk dk_X6_readPair 30 rfl)
set_option maxRecDepth 100000 in
def f_X6_readPair (rk : Nat → Nat → Int32 → Int32 → Mem → Option (Int32 × Mem)) (r0 : Nat) (x1 : Int32) (x2 : Int32) (M : Mem) : Option (Int32 × Mem) := Option.bind (f_X6_look r0 M) fun M1 => Option.bind (f_X6_readOpening r0 40 x1 M1) fun z2 => (if z2.1 = 0 then f_X6_readPair_33 rk r0 x1 x2 z2.2 else Option.bind (rk 0 r0 (x1 + 1) 0 z2.2) fun z3 => (if z3.1 = 0 then f_X6_readPair_33 rk r0 x1 x2 z3.2 else Option.bind (f_X6_readSign r0 44 z3.2) fun z4 => (if z4.1 = 0 then f_X6_readPair_33 rk r0 x1 x2 z4.2 else Option.bind (rk 0 r0 (x1 + 1) 0 z4.2) fun z5 => (if z5.1 = 0 then f_X6_readPair_54 rk r0 x1 x2 z5.2 else Option.bind (f_X6_readSign r0 41 z5.2) fun z6 => (if z6.1 = 0 then f_X6_readPair_54 rk r0 x1 x2 z6.2 else Option.bind (zrf z6.2 r0 2) fun q7 => Option.bind (f_X0_addStep q7 x2 z6.2) fun M8 => some (1, M8))))))
set_option maxRecDepth 100000 in
set_option maxHeartbeats 4000000 in
theorem x_X6_readPair {κ : KX} {n : Nat} {d : Nat} (hC : CX κ cX6_readPair RX6 3 (some .boolean) (3 + d + 1)) (hE : zEnd κ n (0, 0)) (hk0 : zRk κ (0, 0)) (rk : Nat → Nat → Int32 → Int32 → Mem → Option (Int32 × Mem)) (hrk : zRkH rk n d) (r0 : Nat) (x1 : Int32) (x2 : Int32) (M : Mem) (h_r0 : zO n r0 6) : X κ 3 emI n (0, 0) 0 [.ref r0, .int x1, .int x2] [] M (f_X6_readPair rk r0 x1 x2 M) := by
  unfold f_X6_readPair
  refine x_aload_n (i := 0) rfl hC (zdk dk_X6_readPair 0 rfl) (q := 1) rfl ?_
  refine x_callVv (as := []) cb_RX6_64 rfl ⟨zdep 1 (by decide), by decide⟩ hk0 h_r0 (fun x hx => t_X6_look h_r0 x hx) hC (zdk dk_X6_readPair 1 rfl) (q := 4) rfl rfl (Nat.le_of_ble_eq_true rfl) (fun M1 => ?_)
  refine x_aload_n (i := 0) rfl hC (zdk dk_X6_readPair 2 rfl) (q := 5) rfl ?_
  refine x_bipush (i := 40) c_bipush_40 hC (zdk dk_X6_readPair 3 rfl) (q := 7) rfl ?_
  refine x_iload_n (i := 1) rfl hC (zdk dk_X6_readPair 4 rfl) (q := 8) rfl ?_
  refine x_callVi (as := [.int 40, .int x1]) cb_RX6_216 rfl ⟨zdep 2 (by decide), by decide⟩ hk0 h_r0 (fun x hx => t_X6_readOpening h_r0 x hx) hC (zdk dk_X6_readPair 5 rfl) (q := 11) rfl rfl (Nat.le_of_ble_eq_true rfl) (fun z2 => ?_)
  refine x_if_eq (tgt := 33) hC (zdk dk_X6_readPair 6 rfl) (q := 14) rfl rfl (fun _ => ?_) (fun _ => ?_)
  · refine x_weak (L' := [.null, .null, .null]) ⟨Or.inl rfl, Or.inl rfl, Or.inl rfl, trivial⟩ ?_
    exact x_X6_readPair_33 hC hE hk0 hrk h_r0 _
  · refine x_aload_n (i := 0) rfl hC (zdk dk_X6_readPair 7 rfl) (q := 15) rfl ?_
    refine x_iload_n (i := 1) rfl hC (zdk dk_X6_readPair 8 rfl) (q := 16) rfl ?_
    refine x_iconst (i := 1) c_iconst_1 hC (zdk dk_X6_readPair 9 rfl) (q := 17) rfl ?_
    refine x_iadd hC (zdk dk_X6_readPair 10 rfl) (q := 18) rfl ?_
    refine x_callVi (as := [.int (x1 + 1)]) cb_RX6_188 rfl ⟨Nat.le_refl _, by decide⟩ hk0 h_r0 (fun x hx => (hrk.1) _ _ _ h_r0 x hx) hC (zdk dk_X6_readPair 11 rfl) (q := 21) rfl rfl (Nat.le_of_ble_eq_true rfl) (fun z3 => ?_)
    refine x_if_eq (tgt := 33) hC (zdk dk_X6_readPair 12 rfl) (q := 24) rfl rfl (fun _ => ?_) (fun _ => ?_)
    · refine x_weak (L' := [.null, .null, .null]) ⟨Or.inl rfl, Or.inl rfl, Or.inl rfl, trivial⟩ ?_
      exact x_X6_readPair_33 hC hE hk0 hrk h_r0 _
    · refine x_aload_n (i := 0) rfl hC (zdk dk_X6_readPair 13 rfl) (q := 25) rfl ?_
      refine x_bipush (i := 44) c_bipush_44 hC (zdk dk_X6_readPair 14 rfl) (q := 27) rfl ?_
      refine x_callVi (as := [.int 44]) cb_RX6_71 rfl ⟨zdep 2 (by decide), by decide⟩ hk0 h_r0 (fun x hx => t_X6_readSign h_r0 x hx) hC (zdk dk_X6_readPair 15 rfl) (q := 30) rfl rfl (Nat.le_of_ble_eq_true rfl) (fun z4 => ?_)
      refine x_if_ne (tgt := 35) hC (zdk dk_X6_readPair 16 rfl) (q := 33) rfl rfl (fun _ => ?_) (fun _ => ?_)
      · refine x_aload_n (i := 0) rfl hC (zdk dk_X6_readPair 19 rfl) (q := 36) rfl ?_
        refine x_iload_n (i := 1) rfl hC (zdk dk_X6_readPair 20 rfl) (q := 37) rfl ?_
        refine x_iconst (i := 1) c_iconst_1 hC (zdk dk_X6_readPair 21 rfl) (q := 38) rfl ?_
        refine x_iadd hC (zdk dk_X6_readPair 22 rfl) (q := 39) rfl ?_
        refine x_callVi (as := [.int (x1 + 1)]) cb_RX6_188 rfl ⟨Nat.le_refl _, by decide⟩ hk0 h_r0 (fun x hx => (hrk.1) _ _ _ h_r0 x hx) hC (zdk dk_X6_readPair 23 rfl) (q := 42) rfl rfl (Nat.le_of_ble_eq_true rfl) (fun z5 => ?_)
        refine x_if_eq (tgt := 54) hC (zdk dk_X6_readPair 24 rfl) (q := 45) rfl rfl (fun _ => ?_) (fun _ => ?_)
        · refine x_weak (L' := [.null, .null, .null]) ⟨Or.inl rfl, Or.inl rfl, Or.inl rfl, trivial⟩ ?_
          exact x_X6_readPair_54 hC hE hk0 hrk h_r0 _
        · refine x_aload_n (i := 0) rfl hC (zdk dk_X6_readPair 25 rfl) (q := 46) rfl ?_
          refine x_bipush (i := 41) c_bipush_41 hC (zdk dk_X6_readPair 26 rfl) (q := 48) rfl ?_
          refine x_callVi (as := [.int 41]) cb_RX6_71 rfl ⟨zdep 2 (by decide), by decide⟩ hk0 h_r0 (fun x hx => t_X6_readSign h_r0 x hx) hC (zdk dk_X6_readPair 27 rfl) (q := 51) rfl rfl (Nat.le_of_ble_eq_true rfl) (fun z6 => ?_)
          refine x_if_ne (tgt := 56) hC (zdk dk_X6_readPair 28 rfl) (q := 54) rfl rfl (fun _ => ?_) (fun _ => ?_)
          · refine x_aload_n (i := 0) rfl hC (zdk dk_X6_readPair 31 rfl) (q := 57) rfl ?_
            refine x_getR (k := 0) fl_RX6_18 rfl h_r0 hC (zdk dk_X6_readPair 32 rfl) (q := 60) rfl (fun q7 hq7 => ?_)
            refine x_iload_n (i := 2) rfl hC (zdk dk_X6_readPair 33 rfl) (q := 61) rfl ?_
            refine x_callVv (as := [.int x2]) cb_RX6_209 rfl ⟨zdep 0 (by decide), by decide⟩ hk0 hq7 (fun x hx => t_X0_addStep hq7 x hx) hC (zdk dk_X6_readPair 34 rfl) (q := 64) rfl rfl (Nat.le_of_ble_eq_true rfl) (fun M8 => ?_)
            refine x_iconst (i := 1) c_iconst_1 hC (zdk dk_X6_readPair 35 rfl) (q := 65) rfl ?_
            exact x_iret (ty := .boolean) rfl hE hC (zdk dk_X6_readPair 36 rfl)
          · refine x_weak (L' := [.null, .null, .null]) ⟨Or.inl rfl, Or.inl rfl, Or.inl rfl, trivial⟩ ?_
            exact x_X6_readPair_54 hC hE hk0 hrk h_r0 _
      · refine x_weak (L' := [.null, .null, .null]) ⟨Or.inl rfl, Or.inl rfl, Or.inl rfl, trivial⟩ ?_
        exact x_X6_readPair_33 hC hE hk0 hrk h_r0 _
set_option maxRecDepth 100000 in
set_option maxHeartbeats 4000000 in
theorem t_X6_readPair {n d : Nat} {rk : Nat → Nat → Int32 → Int32 → Mem → Option (Int32 × Mem)} (hrk : zRkH rk n d) {r0 : Nat} {x1 : Int32} {x2 : Int32} {M : Mem} (h_r0 : zO n r0 6) (x : (Int32 × Mem)) (hx : f_X6_readPair rk r0 x1 x2 M = some x) (l : Launch) (dC : Nat → ClassId) (dI : Nat → Nat → Nat) (b : zSg) : MT l dC dI b yX6_readPair cX6_readPair 3 (some .boolean) (3 + d + 1) 0 0 n n [.ref r0, .int x1, .int x2] M (emI x).1 (emI x).2 :=
  MT.ofX (by decide +kernel) rfl (Nat.le_of_ble_eq_true rfl) (fun κ hC hF _ => x_X6_readPair hC (zEnd_of hF (Nat.le_refl _) (Nat.le_refl _)) (zRk_of hF (Nat.le_refl _) (Nat.le_refl _)) rk hrk _ _ _ _ h_r0) x hx
set_option maxRecDepth 100000 in
def dt_X6_readChoice : List (Nat × Instr × Nat) := [(0, .aload_n 0, 1), (1, .invokevirtual 64, 3), (4, .aload_n 0, 1), (5, .bipush 40, 2), (7, .iload_n 1, 1), (8, .invokevirtual 216, 3), (11, .ifCond .eq 22, 3), (14, .aload_n 0, 1), (15, .iload_n 1, 1), (16, .iconst 1, 1), (17, .iadd, 1), (18, .invokevirtual 200, 3), (21, .ifCond .eq 12, 3), (24, .aload_n 0, 1), (25, .bipush 44, 2), (27, .invokevirtual 71, 3), (30, .ifCond .ne 5, 3), (33, .iconst 0, 1), (34, .ireturn, 1), (35, .aload_n 0, 1), (36, .iload_n 1, 1), (37, .iconst 1, 1), (38, .iadd, 1), (39, .invokevirtual 188, 3), (42, .ifCond .eq 31, 3), (45, .aload_n 0, 1), (46, .bipush 44, 2), (48, .invokevirtual 71, 3), (51, .ifCond .eq 22, 3), (54, .aload_n 0, 1), (55, .iload_n 1, 1), (56, .iconst 1, 1), (57, .iadd, 1), (58, .invokevirtual 188, 3), (61, .ifCond .eq 12, 3), (64, .aload_n 0, 1), (65, .bipush 41, 2), (67, .invokevirtual 71, 3), (70, .ifCond .ne 5, 3), (73, .iconst 0, 1), (74, .ireturn, 1), (75, .aload_n 0, 1), (76, .getfield 18, 3), (79, .bipush (-14), 2), (81, .invokevirtual 209, 3), (84, .iconst 1, 1), (85, .ireturn, 1)]
set_option maxRecDepth 100000 in
theorem dk_X6_readChoice : dt_X6_readChoice.all (fun q => decide (decode cX6_readChoice q.1 = .ok q.2)) = true := by decide +kernel
set_option maxRecDepth 100000 in
def f_X6_readChoice_33 (rk : Nat → Nat → Int32 → Int32 → Mem → Option (Int32 × Mem))  (r0 : Nat) (x1 : Int32)  (M : Mem) : Option (Int32 × Mem) := some (0, M)
set_option maxRecDepth 100000 in
set_option maxHeartbeats 4000000 in
theorem x_X6_readChoice_33 {κ : KX} {n : Nat} {d : Nat} (hC : CX κ cX6_readChoice RX6 2 (some .boolean) (3 + d + 1)) (hE : zEnd κ n (0, 0)) (hk0 : zRk κ (0, 0)) {rk : Nat → Nat → Int32 → Int32 → Mem → Option (Int32 × Mem)} (hrk : zRkH rk n d) {r0 : Nat} {x1 : Int32} (h_r0 : zO n r0 6) (M : Mem) : X κ 2 emI n (0, 0) 33 [.null, .null] [] M (f_X6_readChoice_33 rk r0 x1 M) := by
  unfold f_X6_readChoice_33
  refine x_iconst (i := 0) c_iconst_0 hC (zdk dk_X6_readChoice 17 rfl) (q := 34) rfl ?_
  exact x_iret (ty := .boolean) rfl hE hC (zdk dk_X6_readChoice 18 rfl)
set_option maxRecDepth 100000 in
def f_X6_readChoice_73 (rk : Nat → Nat → Int32 → Int32 → Mem → Option (Int32 × Mem))  (r0 : Nat) (x1 : Int32)  (M : Mem) : Option (Int32 × Mem) := some (0, M)
set_option maxRecDepth 100000 in
set_option maxHeartbeats 4000000 in
theorem x_X6_readChoice_73 {κ : KX} {n : Nat} {d : Nat} (hC : CX κ cX6_readChoice RX6 2 (some .boolean) (3 + d + 1)) (hE : zEnd κ n (0, 0)) (hk0 : zRk κ (0, 0)) {rk : Nat → Nat → Int32 → Int32 → Mem → Option (Int32 × Mem)} (hrk : zRkH rk n d) {r0 : Nat} {x1 : Int32} (h_r0 : zO n r0 6) (M : Mem) : X κ 2 emI n (0, 0) 73 [.null, .null] [] M (f_X6_readChoice_73 rk r0 x1 M) := by
  unfold f_X6_readChoice_73
  refine x_iconst (i := 0) c_iconst_0 hC (zdk dk_X6_readChoice 39 rfl) (q := 74) rfl ?_
  exact x_iret (ty := .boolean) rfl hE hC (zdk dk_X6_readChoice 40 rfl)
set_option maxRecDepth 100000 in
def f_X6_readChoice (rk : Nat → Nat → Int32 → Int32 → Mem → Option (Int32 × Mem)) (r0 : Nat) (x1 : Int32) (M : Mem) : Option (Int32 × Mem) := Option.bind (f_X6_look r0 M) fun M1 => Option.bind (f_X6_readOpening r0 40 x1 M1) fun z2 => (if z2.1 = 0 then f_X6_readChoice_33 rk r0 x1 z2.2 else Option.bind (rk 5 r0 (x1 + 1) 0 z2.2) fun z3 => (if z3.1 = 0 then f_X6_readChoice_33 rk r0 x1 z3.2 else Option.bind (f_X6_readSign r0 44 z3.2) fun z4 => (if z4.1 = 0 then f_X6_readChoice_33 rk r0 x1 z4.2 else Option.bind (rk 0 r0 (x1 + 1) 0 z4.2) fun z5 => (if z5.1 = 0 then f_X6_readChoice_73 rk r0 x1 z5.2 else Option.bind (f_X6_readSign r0 44 z5.2) fun z6 => (if z6.1 = 0 then f_X6_readChoice_73 rk r0 x1 z6.2 else Option.bind (rk 0 r0 (x1 + 1) 0 z6.2) fun z7 => (if z7.1 = 0 then f_X6_readChoice_73 rk r0 x1 z7.2 else Option.bind (f_X6_readSign r0 41 z7.2) fun z8 => (if z8.1 = 0 then f_X6_readChoice_73 rk r0 x1 z8.2 else Option.bind (zrf z8.2 r0 2) fun q9 => Option.bind (f_X0_addStep q9 ((-14)) z8.2) fun M10 => some (1, M10))))))))
set_option maxRecDepth 100000 in
set_option maxHeartbeats 4000000 in
theorem x_X6_readChoice {κ : KX} {n : Nat} {d : Nat} (hC : CX κ cX6_readChoice RX6 2 (some .boolean) (3 + d + 1)) (hE : zEnd κ n (0, 0)) (hk0 : zRk κ (0, 0)) (rk : Nat → Nat → Int32 → Int32 → Mem → Option (Int32 × Mem)) (hrk : zRkH rk n d) (r0 : Nat) (x1 : Int32) (M : Mem) (h_r0 : zO n r0 6) : X κ 2 emI n (0, 0) 0 [.ref r0, .int x1] [] M (f_X6_readChoice rk r0 x1 M) := by
  unfold f_X6_readChoice
  refine x_aload_n (i := 0) rfl hC (zdk dk_X6_readChoice 0 rfl) (q := 1) rfl ?_
  refine x_callVv (as := []) cb_RX6_64 rfl ⟨zdep 1 (by decide), by decide⟩ hk0 h_r0 (fun x hx => t_X6_look h_r0 x hx) hC (zdk dk_X6_readChoice 1 rfl) (q := 4) rfl rfl (Nat.le_of_ble_eq_true rfl) (fun M1 => ?_)
  refine x_aload_n (i := 0) rfl hC (zdk dk_X6_readChoice 2 rfl) (q := 5) rfl ?_
  refine x_bipush (i := 40) c_bipush_40 hC (zdk dk_X6_readChoice 3 rfl) (q := 7) rfl ?_
  refine x_iload_n (i := 1) rfl hC (zdk dk_X6_readChoice 4 rfl) (q := 8) rfl ?_
  refine x_callVi (as := [.int 40, .int x1]) cb_RX6_216 rfl ⟨zdep 2 (by decide), by decide⟩ hk0 h_r0 (fun x hx => t_X6_readOpening h_r0 x hx) hC (zdk dk_X6_readChoice 5 rfl) (q := 11) rfl rfl (Nat.le_of_ble_eq_true rfl) (fun z2 => ?_)
  refine x_if_eq (tgt := 33) hC (zdk dk_X6_readChoice 6 rfl) (q := 14) rfl rfl (fun _ => ?_) (fun _ => ?_)
  · refine x_weak (L' := [.null, .null]) ⟨Or.inl rfl, Or.inl rfl, trivial⟩ ?_
    exact x_X6_readChoice_33 hC hE hk0 hrk h_r0 _
  · refine x_aload_n (i := 0) rfl hC (zdk dk_X6_readChoice 7 rfl) (q := 15) rfl ?_
    refine x_iload_n (i := 1) rfl hC (zdk dk_X6_readChoice 8 rfl) (q := 16) rfl ?_
    refine x_iconst (i := 1) c_iconst_1 hC (zdk dk_X6_readChoice 9 rfl) (q := 17) rfl ?_
    refine x_iadd hC (zdk dk_X6_readChoice 10 rfl) (q := 18) rfl ?_
    refine x_callVi (as := [.int (x1 + 1)]) cb_RX6_200 rfl ⟨Nat.le_refl _, by decide⟩ hk0 h_r0 (fun x hx => (hrk.2.2.2.2.2.1) _ _ _ h_r0 x hx) hC (zdk dk_X6_readChoice 11 rfl) (q := 21) rfl rfl (Nat.le_of_ble_eq_true rfl) (fun z3 => ?_)
    refine x_if_eq (tgt := 33) hC (zdk dk_X6_readChoice 12 rfl) (q := 24) rfl rfl (fun _ => ?_) (fun _ => ?_)
    · refine x_weak (L' := [.null, .null]) ⟨Or.inl rfl, Or.inl rfl, trivial⟩ ?_
      exact x_X6_readChoice_33 hC hE hk0 hrk h_r0 _
    · refine x_aload_n (i := 0) rfl hC (zdk dk_X6_readChoice 13 rfl) (q := 25) rfl ?_
      refine x_bipush (i := 44) c_bipush_44 hC (zdk dk_X6_readChoice 14 rfl) (q := 27) rfl ?_
      refine x_callVi (as := [.int 44]) cb_RX6_71 rfl ⟨zdep 2 (by decide), by decide⟩ hk0 h_r0 (fun x hx => t_X6_readSign h_r0 x hx) hC (zdk dk_X6_readChoice 15 rfl) (q := 30) rfl rfl (Nat.le_of_ble_eq_true rfl) (fun z4 => ?_)
      refine x_if_ne (tgt := 35) hC (zdk dk_X6_readChoice 16 rfl) (q := 33) rfl rfl (fun _ => ?_) (fun _ => ?_)
      · refine x_aload_n (i := 0) rfl hC (zdk dk_X6_readChoice 19 rfl) (q := 36) rfl ?_
        refine x_iload_n (i := 1) rfl hC (zdk dk_X6_readChoice 20 rfl) (q := 37) rfl ?_
        refine x_iconst (i := 1) c_iconst_1 hC (zdk dk_X6_readChoice 21 rfl) (q := 38) rfl ?_
        refine x_iadd hC (zdk dk_X6_readChoice 22 rfl) (q := 39) rfl ?_
        refine x_callVi (as := [.int (x1 + 1)]) cb_RX6_188 rfl ⟨Nat.le_refl _, by decide⟩ hk0 h_r0 (fun x hx => (hrk.1) _ _ _ h_r0 x hx) hC (zdk dk_X6_readChoice 23 rfl) (q := 42) rfl rfl (Nat.le_of_ble_eq_true rfl) (fun z5 => ?_)
        refine x_if_eq (tgt := 73) hC (zdk dk_X6_readChoice 24 rfl) (q := 45) rfl rfl (fun _ => ?_) (fun _ => ?_)
        · refine x_weak (L' := [.null, .null]) ⟨Or.inl rfl, Or.inl rfl, trivial⟩ ?_
          exact x_X6_readChoice_73 hC hE hk0 hrk h_r0 _
        · refine x_aload_n (i := 0) rfl hC (zdk dk_X6_readChoice 25 rfl) (q := 46) rfl ?_
          refine x_bipush (i := 44) c_bipush_44 hC (zdk dk_X6_readChoice 26 rfl) (q := 48) rfl ?_
          refine x_callVi (as := [.int 44]) cb_RX6_71 rfl ⟨zdep 2 (by decide), by decide⟩ hk0 h_r0 (fun x hx => t_X6_readSign h_r0 x hx) hC (zdk dk_X6_readChoice 27 rfl) (q := 51) rfl rfl (Nat.le_of_ble_eq_true rfl) (fun z6 => ?_)
          refine x_if_eq (tgt := 73) hC (zdk dk_X6_readChoice 28 rfl) (q := 54) rfl rfl (fun _ => ?_) (fun _ => ?_)
          · refine x_weak (L' := [.null, .null]) ⟨Or.inl rfl, Or.inl rfl, trivial⟩ ?_
            exact x_X6_readChoice_73 hC hE hk0 hrk h_r0 _
          · refine x_aload_n (i := 0) rfl hC (zdk dk_X6_readChoice 29 rfl) (q := 55) rfl ?_
            refine x_iload_n (i := 1) rfl hC (zdk dk_X6_readChoice 30 rfl) (q := 56) rfl ?_
            refine x_iconst (i := 1) c_iconst_1 hC (zdk dk_X6_readChoice 31 rfl) (q := 57) rfl ?_
            refine x_iadd hC (zdk dk_X6_readChoice 32 rfl) (q := 58) rfl ?_
            refine x_callVi (as := [.int (x1 + 1)]) cb_RX6_188 rfl ⟨Nat.le_refl _, by decide⟩ hk0 h_r0 (fun x hx => (hrk.1) _ _ _ h_r0 x hx) hC (zdk dk_X6_readChoice 33 rfl) (q := 61) rfl rfl (Nat.le_of_ble_eq_true rfl) (fun z7 => ?_)
            refine x_if_eq (tgt := 73) hC (zdk dk_X6_readChoice 34 rfl) (q := 64) rfl rfl (fun _ => ?_) (fun _ => ?_)
            · refine x_weak (L' := [.null, .null]) ⟨Or.inl rfl, Or.inl rfl, trivial⟩ ?_
              exact x_X6_readChoice_73 hC hE hk0 hrk h_r0 _
            · refine x_aload_n (i := 0) rfl hC (zdk dk_X6_readChoice 35 rfl) (q := 65) rfl ?_
              refine x_bipush (i := 41) c_bipush_41 hC (zdk dk_X6_readChoice 36 rfl) (q := 67) rfl ?_
              refine x_callVi (as := [.int 41]) cb_RX6_71 rfl ⟨zdep 2 (by decide), by decide⟩ hk0 h_r0 (fun x hx => t_X6_readSign h_r0 x hx) hC (zdk dk_X6_readChoice 37 rfl) (q := 70) rfl rfl (Nat.le_of_ble_eq_true rfl) (fun z8 => ?_)
              refine x_if_ne (tgt := 75) hC (zdk dk_X6_readChoice 38 rfl) (q := 73) rfl rfl (fun _ => ?_) (fun _ => ?_)
              · refine x_aload_n (i := 0) rfl hC (zdk dk_X6_readChoice 41 rfl) (q := 76) rfl ?_
                refine x_getR (k := 0) fl_RX6_18 rfl h_r0 hC (zdk dk_X6_readChoice 42 rfl) (q := 79) rfl (fun q9 hq9 => ?_)
                refine x_bipush (i := (-14)) c_bipush_m14 hC (zdk dk_X6_readChoice 43 rfl) (q := 81) rfl ?_
                refine x_callVv (as := [.int ((-14))]) cb_RX6_209 rfl ⟨zdep 0 (by decide), by decide⟩ hk0 hq9 (fun x hx => t_X0_addStep hq9 x hx) hC (zdk dk_X6_readChoice 44 rfl) (q := 84) rfl rfl (Nat.le_of_ble_eq_true rfl) (fun M10 => ?_)
                refine x_iconst (i := 1) c_iconst_1 hC (zdk dk_X6_readChoice 45 rfl) (q := 85) rfl ?_
                exact x_iret (ty := .boolean) rfl hE hC (zdk dk_X6_readChoice 46 rfl)
              · refine x_weak (L' := [.null, .null]) ⟨Or.inl rfl, Or.inl rfl, trivial⟩ ?_
                exact x_X6_readChoice_73 hC hE hk0 hrk h_r0 _
      · refine x_weak (L' := [.null, .null]) ⟨Or.inl rfl, Or.inl rfl, trivial⟩ ?_
        exact x_X6_readChoice_33 hC hE hk0 hrk h_r0 _
set_option maxRecDepth 100000 in
set_option maxHeartbeats 4000000 in
theorem t_X6_readChoice {n d : Nat} {rk : Nat → Nat → Int32 → Int32 → Mem → Option (Int32 × Mem)} (hrk : zRkH rk n d) {r0 : Nat} {x1 : Int32} {M : Mem} (h_r0 : zO n r0 6) (x : (Int32 × Mem)) (hx : f_X6_readChoice rk r0 x1 M = some x) (l : Launch) (dC : Nat → ClassId) (dI : Nat → Nat → Nat) (b : zSg) : MT l dC dI b yX6_readChoice cX6_readChoice 2 (some .boolean) (3 + d + 1) 0 0 n n [.ref r0, .int x1] M (emI x).1 (emI x).2 :=
  MT.ofX (by decide +kernel) rfl (Nat.le_of_ble_eq_true rfl) (fun κ hC hF _ => x_X6_readChoice hC (zEnd_of hF (Nat.le_refl _) (Nat.le_refl _)) (zRk_of hF (Nat.le_refl _) (Nat.le_refl _)) rk hrk _ _ _ h_r0) x hx
set_option maxRecDepth 100000 in
def dt_X6_readTest : List (Nat × Instr × Nat) := [(0, .aload_n 0, 1), (1, .iload_n 1, 1), (2, .invokevirtual 228, 3), (5, .ifCond .ne 5, 3), (8, .iconst 0, 1), (9, .ireturn, 1), (10, .iconst 0, 1), (11, .istore_n 2, 1), (12, .iload_n 2, 1), (13, .sipush 1600, 3), (16, .if_icmp .ge 41, 3), (19, .aload_n 0, 1), (20, .bipush 21, 2), (22, .invokevirtual 112, 3), (25, .ifCond .eq 32, 3), (28, .aload_n 0, 1), (29, .invokevirtual 64, 3), (32, .aload_n 0, 1), (33, .iload_n 1, 1), (34, .invokevirtual 228, 3), (37, .ifCond .ne 5, 3), (40, .iconst 0, 1), (41, .ireturn, 1), (42, .aload_n 0, 1), (43, .getfield 18, 3), (46, .bipush (-12), 2), (48, .invokevirtual 209, 3), (51, .iinc 2 1, 3), (54, .goto (-42), 3), (57, .iconst 1, 1), (58, .ireturn, 1)]
set_option maxRecDepth 100000 in
theorem dk_X6_readTest : dt_X6_readTest.all (fun q => decide (decode cX6_readTest q.1 = .ok q.2)) = true := by decide +kernel
set_option maxRecDepth 100000 in
def f_X6_readTest_57 (rk : Nat → Nat → Int32 → Int32 → Mem → Option (Int32 × Mem))  (r0 : Nat) (x1 : Int32)  (M : Mem) : Option (Int32 × Mem) := some (1, M)
set_option maxRecDepth 100000 in
set_option maxHeartbeats 4000000 in
theorem x_X6_readTest_57 {κ : KX} {n : Nat} {d : Nat} (hC : CX κ cX6_readTest RX6 3 (some .boolean) (3 + d + 1)) (hE : zEnd κ n (0, 0)) (hk0 : zRk κ (0, 0)) {rk : Nat → Nat → Int32 → Int32 → Mem → Option (Int32 × Mem)} (hrk : zRkH rk n d) {r0 : Nat} {x1 : Int32} (h_r0 : zO n r0 6) (M : Mem) : X κ 3 emI n (0, 0) 57 [.null, .null, .null] [] M (f_X6_readTest_57 rk r0 x1 M) := by
  unfold f_X6_readTest_57
  refine x_iconst (i := 1) c_iconst_1 hC (zdk dk_X6_readTest 29 rfl) (q := 58) rfl ?_
  exact x_iret (ty := .boolean) rfl hE hC (zdk dk_X6_readTest 30 rfl)
set_option maxRecDepth 100000 in
def f_X6_readTest_12 (rk : Nat → Nat → Int32 → Int32 → Mem → Option (Int32 × Mem))  (r0 : Nat) (x1 : Int32) : Nat → Int32 → Mem → Option (Int32 × Mem)
  | 0, _, _ => none
  | f + 1, x2, M => (if 1600 ≤ x2 then f_X6_readTest_57 rk r0 x1 M else Option.bind (f_X6_isOwn r0 21 M) fun z1 => (if z1.1 = 0 then f_X6_readTest_57 rk r0 x1 z1.2 else Option.bind (f_X6_look r0 z1.2) fun M2 => Option.bind (rk 6 r0 x1 0 M2) fun z3 => (if z3.1 = 0 then some (0, z3.2) else Option.bind (zrf z3.2 r0 2) fun q4 => Option.bind (f_X0_addStep q4 ((-12)) z3.2) fun M5 => (f_X6_readTest_12 rk r0 x1 f) (x2 + 1) M5)))
set_option maxRecDepth 100000 in
set_option maxHeartbeats 4000000 in
theorem x_X6_readTest_12 {κ : KX} {n : Nat} {d : Nat} (hC : CX κ cX6_readTest RX6 3 (some .boolean) (3 + d + 1)) (hE : zEnd κ n (0, 0)) (hk0 : zRk κ (0, 0)) {rk : Nat → Nat → Int32 → Int32 → Mem → Option (Int32 × Mem)} (hrk : zRkH rk n d) {r0 : Nat} {x1 : Int32} (h_r0 : zO n r0 6) : ∀ (f : Nat) (x2 : Int32) (M : Mem), X κ 3 emI n (0, 0) 12 [.ref r0, .int x1, .int x2] [] M (f_X6_readTest_12 rk r0 x1 f x2 M) := by
  intro f
  induction f with
  | zero => intros; exact x_none
  | succ f ih =>
    intro x2 M 
    rw [f_X6_readTest_12]
    refine x_iload_n (i := 2) rfl hC (zdk dk_X6_readTest 8 rfl) (q := 13) rfl ?_
    refine x_sipush (i := 1600) c_sipush_1600 hC (zdk dk_X6_readTest 9 rfl) (q := 16) rfl ?_
    refine x_icmp_ge (tgt := 57) hC (zdk dk_X6_readTest 10 rfl) (q := 19) rfl rfl (fun _ => ?_) (fun _ => ?_)
    · refine x_weak (L' := [.null, .null, .null]) ⟨Or.inl rfl, Or.inl rfl, Or.inl rfl, trivial⟩ ?_
      exact x_X6_readTest_57 hC hE hk0 hrk h_r0 _
    · refine x_aload_n (i := 0) rfl hC (zdk dk_X6_readTest 11 rfl) (q := 20) rfl ?_
      refine x_bipush (i := 21) c_bipush_21 hC (zdk dk_X6_readTest 12 rfl) (q := 22) rfl ?_
      refine x_callVi (as := [.int 21]) cb_RX6_112 rfl ⟨zdep 0 (by decide), by decide⟩ hk0 h_r0 (fun x hx => t_X6_isOwn h_r0 x hx) hC (zdk dk_X6_readTest 13 rfl) (q := 25) rfl rfl (Nat.le_of_ble_eq_true rfl) (fun z1 => ?_)
      refine x_if_eq (tgt := 57) hC (zdk dk_X6_readTest 14 rfl) (q := 28) rfl rfl (fun _ => ?_) (fun _ => ?_)
      · refine x_weak (L' := [.null, .null, .null]) ⟨Or.inl rfl, Or.inl rfl, Or.inl rfl, trivial⟩ ?_
        exact x_X6_readTest_57 hC hE hk0 hrk h_r0 _
      · refine x_aload_n (i := 0) rfl hC (zdk dk_X6_readTest 15 rfl) (q := 29) rfl ?_
        refine x_callVv (as := []) cb_RX6_64 rfl ⟨zdep 1 (by decide), by decide⟩ hk0 h_r0 (fun x hx => t_X6_look h_r0 x hx) hC (zdk dk_X6_readTest 16 rfl) (q := 32) rfl rfl (Nat.le_of_ble_eq_true rfl) (fun M2 => ?_)
        refine x_aload_n (i := 0) rfl hC (zdk dk_X6_readTest 17 rfl) (q := 33) rfl ?_
        refine x_iload_n (i := 1) rfl hC (zdk dk_X6_readTest 18 rfl) (q := 34) rfl ?_
        refine x_callVi (as := [.int x1]) cb_RX6_228 rfl ⟨Nat.le_refl _, by decide⟩ hk0 h_r0 (fun x hx => (hrk.2.2.2.2.2.2.1) _ _ _ h_r0 x hx) hC (zdk dk_X6_readTest 19 rfl) (q := 37) rfl rfl (Nat.le_of_ble_eq_true rfl) (fun z3 => ?_)
        refine x_if_ne (tgt := 42) hC (zdk dk_X6_readTest 20 rfl) (q := 40) rfl rfl (fun _ => ?_) (fun _ => ?_)
        · refine x_aload_n (i := 0) rfl hC (zdk dk_X6_readTest 23 rfl) (q := 43) rfl ?_
          refine x_getR (k := 0) fl_RX6_18 rfl h_r0 hC (zdk dk_X6_readTest 24 rfl) (q := 46) rfl (fun q4 hq4 => ?_)
          refine x_bipush (i := (-12)) c_bipush_m12 hC (zdk dk_X6_readTest 25 rfl) (q := 48) rfl ?_
          refine x_callVv (as := [.int ((-12))]) cb_RX6_209 rfl ⟨zdep 0 (by decide), by decide⟩ hk0 hq4 (fun x hx => t_X0_addStep hq4 x hx) hC (zdk dk_X6_readTest 26 rfl) (q := 51) rfl rfl (Nat.le_of_ble_eq_true rfl) (fun M5 => ?_)
          refine x_iinc (i := 2) c_iconst_1 rfl (by decide) (L' := [.ref r0, .int x1, .int (x2 + 1)]) rfl hC (zdk dk_X6_readTest 27 rfl) (q := 54) rfl ?_
          refine x_goto (tgt := 12) hC (zdk dk_X6_readTest 28 rfl) rfl ?_
          refine x_weak (L' := [.ref r0, .int x1, .int (x2 + 1)]) ⟨Or.inr rfl, Or.inr rfl, Or.inr rfl, trivial⟩ ?_
          exact ih _ _
        · refine x_iconst (i := 0) c_iconst_0 hC (zdk dk_X6_readTest 21 rfl) (q := 41) rfl ?_
          exact x_iret (ty := .boolean) rfl hE hC (zdk dk_X6_readTest 22 rfl)
set_option maxRecDepth 100000 in
def f_X6_readTest (rk : Nat → Nat → Int32 → Int32 → Mem → Option (Int32 × Mem)) (r0 : Nat) (x1 : Int32) (M : Mem) : Option (Int32 × Mem) := Option.bind (rk 6 r0 x1 0 M) fun z6 => (if z6.1 = 0 then some (0, z6.2) else f_X6_readTest_12 rk r0 x1 1000000 0 z6.2)
set_option maxRecDepth 100000 in
set_option maxHeartbeats 4000000 in
theorem x_X6_readTest {κ : KX} {n : Nat} {d : Nat} (hC : CX κ cX6_readTest RX6 3 (some .boolean) (3 + d + 1)) (hE : zEnd κ n (0, 0)) (hk0 : zRk κ (0, 0)) (rk : Nat → Nat → Int32 → Int32 → Mem → Option (Int32 × Mem)) (hrk : zRkH rk n d) (r0 : Nat) (x1 : Int32) (M : Mem) (h_r0 : zO n r0 6) : X κ 3 emI n (0, 0) 0 [.ref r0, .int x1, .null] [] M (f_X6_readTest rk r0 x1 M) := by
  unfold f_X6_readTest
  refine x_aload_n (i := 0) rfl hC (zdk dk_X6_readTest 0 rfl) (q := 1) rfl ?_
  refine x_iload_n (i := 1) rfl hC (zdk dk_X6_readTest 1 rfl) (q := 2) rfl ?_
  refine x_callVi (as := [.int x1]) cb_RX6_228 rfl ⟨Nat.le_refl _, by decide⟩ hk0 h_r0 (fun x hx => (hrk.2.2.2.2.2.2.1) _ _ _ h_r0 x hx) hC (zdk dk_X6_readTest 2 rfl) (q := 5) rfl rfl (Nat.le_of_ble_eq_true rfl) (fun z6 => ?_)
  refine x_if_ne (tgt := 10) hC (zdk dk_X6_readTest 3 rfl) (q := 8) rfl rfl (fun _ => ?_) (fun _ => ?_)
  · refine x_iconst (i := 0) c_iconst_0 hC (zdk dk_X6_readTest 6 rfl) (q := 11) rfl ?_
    refine x_istore_n (i := 2) (L' := [.ref r0, .int x1, .int 0]) (by decide) rfl hC (zdk dk_X6_readTest 7 rfl) (q := 12) rfl ?_
    refine x_weak (L' := [.ref r0, .int x1, .int 0]) ⟨Or.inr rfl, Or.inr rfl, Or.inr rfl, trivial⟩ ?_
    exact x_X6_readTest_12 hC hE hk0 hrk h_r0 _ _ _
  · refine x_iconst (i := 0) c_iconst_0 hC (zdk dk_X6_readTest 4 rfl) (q := 9) rfl ?_
    exact x_iret (ty := .boolean) rfl hE hC (zdk dk_X6_readTest 5 rfl)
set_option maxRecDepth 100000 in
set_option maxHeartbeats 4000000 in
theorem t_X6_readTest {n d : Nat} {rk : Nat → Nat → Int32 → Int32 → Mem → Option (Int32 × Mem)} (hrk : zRkH rk n d) {r0 : Nat} {x1 : Int32} {M : Mem} (h_r0 : zO n r0 6) (x : (Int32 × Mem)) (hx : f_X6_readTest rk r0 x1 M = some x) (l : Launch) (dC : Nat → ClassId) (dI : Nat → Nat → Nat) (b : zSg) : MT l dC dI b yX6_readTest cX6_readTest 3 (some .boolean) (3 + d + 1) 0 0 n n [.ref r0, .int x1] M (emI x).1 (emI x).2 :=
  MT.ofX (by decide +kernel) rfl (Nat.le_of_ble_eq_true rfl) (fun κ hC hF _ => x_X6_readTest hC (zEnd_of hF (Nat.le_refl _) (Nat.le_refl _)) (zRk_of hF (Nat.le_refl _) (Nat.le_refl _)) rk hrk _ _ _ h_r0) x hx
set_option maxRecDepth 100000 in
def dt_X6_readBoth : List (Nat × Instr × Nat) := [(0, .aload_n 0, 1), (1, .iload_n 1, 1), (2, .invokevirtual 231, 3), (5, .ifCond .ne 5, 3), (8, .iconst 0, 1), (9, .ireturn, 1), (10, .iconst 0, 1), (11, .istore_n 2, 1), (12, .iload_n 2, 1), (13, .sipush 1600, 3), (16, .if_icmp .ge 41, 3), (19, .aload_n 0, 1), (20, .bipush 22, 2), (22, .invokevirtual 112, 3), (25, .ifCond .eq 32, 3), (28, .aload_n 0, 1), (29, .invokevirtual 64, 3), (32, .aload_n 0, 1), (33, .iload_n 1, 1), (34, .invokevirtual 231, 3), (37, .ifCond .ne 5, 3), (40, .iconst 0, 1), (41, .ireturn, 1), (42, .aload_n 0, 1), (43, .getfield 18, 3), (46, .bipush (-11), 2), (48, .invokevirtual 209, 3), (51, .iinc 2 1, 3), (54, .goto (-42), 3), (57, .iconst 1, 1), (58, .ireturn, 1)]
set_option maxRecDepth 100000 in
theorem dk_X6_readBoth : dt_X6_readBoth.all (fun q => decide (decode cX6_readBoth q.1 = .ok q.2)) = true := by decide +kernel
set_option maxRecDepth 100000 in
def f_X6_readBoth_57 (rk : Nat → Nat → Int32 → Int32 → Mem → Option (Int32 × Mem))  (r0 : Nat) (x1 : Int32)  (M : Mem) : Option (Int32 × Mem) := some (1, M)
set_option maxRecDepth 100000 in
set_option maxHeartbeats 4000000 in
theorem x_X6_readBoth_57 {κ : KX} {n : Nat} {d : Nat} (hC : CX κ cX6_readBoth RX6 3 (some .boolean) (3 + d + 1)) (hE : zEnd κ n (0, 0)) (hk0 : zRk κ (0, 0)) {rk : Nat → Nat → Int32 → Int32 → Mem → Option (Int32 × Mem)} (hrk : zRkH rk n d) {r0 : Nat} {x1 : Int32} (h_r0 : zO n r0 6) (M : Mem) : X κ 3 emI n (0, 0) 57 [.null, .null, .null] [] M (f_X6_readBoth_57 rk r0 x1 M) := by
  unfold f_X6_readBoth_57
  refine x_iconst (i := 1) c_iconst_1 hC (zdk dk_X6_readBoth 29 rfl) (q := 58) rfl ?_
  exact x_iret (ty := .boolean) rfl hE hC (zdk dk_X6_readBoth 30 rfl)
set_option maxRecDepth 100000 in
def f_X6_readBoth_12 (rk : Nat → Nat → Int32 → Int32 → Mem → Option (Int32 × Mem))  (r0 : Nat) (x1 : Int32) : Nat → Int32 → Mem → Option (Int32 × Mem)
  | 0, _, _ => none
  | f + 1, x2, M => (if 1600 ≤ x2 then f_X6_readBoth_57 rk r0 x1 M else Option.bind (f_X6_isOwn r0 22 M) fun z1 => (if z1.1 = 0 then f_X6_readBoth_57 rk r0 x1 z1.2 else Option.bind (f_X6_look r0 z1.2) fun M2 => Option.bind (rk 7 r0 x1 0 M2) fun z3 => (if z3.1 = 0 then some (0, z3.2) else Option.bind (zrf z3.2 r0 2) fun q4 => Option.bind (f_X0_addStep q4 ((-11)) z3.2) fun M5 => (f_X6_readBoth_12 rk r0 x1 f) (x2 + 1) M5)))
set_option maxRecDepth 100000 in
set_option maxHeartbeats 4000000 in
theorem x_X6_readBoth_12 {κ : KX} {n : Nat} {d : Nat} (hC : CX κ cX6_readBoth RX6 3 (some .boolean) (3 + d + 1)) (hE : zEnd κ n (0, 0)) (hk0 : zRk κ (0, 0)) {rk : Nat → Nat → Int32 → Int32 → Mem → Option (Int32 × Mem)} (hrk : zRkH rk n d) {r0 : Nat} {x1 : Int32} (h_r0 : zO n r0 6) : ∀ (f : Nat) (x2 : Int32) (M : Mem), X κ 3 emI n (0, 0) 12 [.ref r0, .int x1, .int x2] [] M (f_X6_readBoth_12 rk r0 x1 f x2 M) := by
  intro f
  induction f with
  | zero => intros; exact x_none
  | succ f ih =>
    intro x2 M 
    rw [f_X6_readBoth_12]
    refine x_iload_n (i := 2) rfl hC (zdk dk_X6_readBoth 8 rfl) (q := 13) rfl ?_
    refine x_sipush (i := 1600) c_sipush_1600 hC (zdk dk_X6_readBoth 9 rfl) (q := 16) rfl ?_
    refine x_icmp_ge (tgt := 57) hC (zdk dk_X6_readBoth 10 rfl) (q := 19) rfl rfl (fun _ => ?_) (fun _ => ?_)
    · refine x_weak (L' := [.null, .null, .null]) ⟨Or.inl rfl, Or.inl rfl, Or.inl rfl, trivial⟩ ?_
      exact x_X6_readBoth_57 hC hE hk0 hrk h_r0 _
    · refine x_aload_n (i := 0) rfl hC (zdk dk_X6_readBoth 11 rfl) (q := 20) rfl ?_
      refine x_bipush (i := 22) c_bipush_22 hC (zdk dk_X6_readBoth 12 rfl) (q := 22) rfl ?_
      refine x_callVi (as := [.int 22]) cb_RX6_112 rfl ⟨zdep 0 (by decide), by decide⟩ hk0 h_r0 (fun x hx => t_X6_isOwn h_r0 x hx) hC (zdk dk_X6_readBoth 13 rfl) (q := 25) rfl rfl (Nat.le_of_ble_eq_true rfl) (fun z1 => ?_)
      refine x_if_eq (tgt := 57) hC (zdk dk_X6_readBoth 14 rfl) (q := 28) rfl rfl (fun _ => ?_) (fun _ => ?_)
      · refine x_weak (L' := [.null, .null, .null]) ⟨Or.inl rfl, Or.inl rfl, Or.inl rfl, trivial⟩ ?_
        exact x_X6_readBoth_57 hC hE hk0 hrk h_r0 _
      · refine x_aload_n (i := 0) rfl hC (zdk dk_X6_readBoth 15 rfl) (q := 29) rfl ?_
        refine x_callVv (as := []) cb_RX6_64 rfl ⟨zdep 1 (by decide), by decide⟩ hk0 h_r0 (fun x hx => t_X6_look h_r0 x hx) hC (zdk dk_X6_readBoth 16 rfl) (q := 32) rfl rfl (Nat.le_of_ble_eq_true rfl) (fun M2 => ?_)
        refine x_aload_n (i := 0) rfl hC (zdk dk_X6_readBoth 17 rfl) (q := 33) rfl ?_
        refine x_iload_n (i := 1) rfl hC (zdk dk_X6_readBoth 18 rfl) (q := 34) rfl ?_
        refine x_callVi (as := [.int x1]) cb_RX6_231 rfl ⟨Nat.le_refl _, by decide⟩ hk0 h_r0 (fun x hx => (hrk.2.2.2.2.2.2.2.1) _ _ _ h_r0 x hx) hC (zdk dk_X6_readBoth 19 rfl) (q := 37) rfl rfl (Nat.le_of_ble_eq_true rfl) (fun z3 => ?_)
        refine x_if_ne (tgt := 42) hC (zdk dk_X6_readBoth 20 rfl) (q := 40) rfl rfl (fun _ => ?_) (fun _ => ?_)
        · refine x_aload_n (i := 0) rfl hC (zdk dk_X6_readBoth 23 rfl) (q := 43) rfl ?_
          refine x_getR (k := 0) fl_RX6_18 rfl h_r0 hC (zdk dk_X6_readBoth 24 rfl) (q := 46) rfl (fun q4 hq4 => ?_)
          refine x_bipush (i := (-11)) c_bipush_m11 hC (zdk dk_X6_readBoth 25 rfl) (q := 48) rfl ?_
          refine x_callVv (as := [.int ((-11))]) cb_RX6_209 rfl ⟨zdep 0 (by decide), by decide⟩ hk0 hq4 (fun x hx => t_X0_addStep hq4 x hx) hC (zdk dk_X6_readBoth 26 rfl) (q := 51) rfl rfl (Nat.le_of_ble_eq_true rfl) (fun M5 => ?_)
          refine x_iinc (i := 2) c_iconst_1 rfl (by decide) (L' := [.ref r0, .int x1, .int (x2 + 1)]) rfl hC (zdk dk_X6_readBoth 27 rfl) (q := 54) rfl ?_
          refine x_goto (tgt := 12) hC (zdk dk_X6_readBoth 28 rfl) rfl ?_
          refine x_weak (L' := [.ref r0, .int x1, .int (x2 + 1)]) ⟨Or.inr rfl, Or.inr rfl, Or.inr rfl, trivial⟩ ?_
          exact ih _ _
        · refine x_iconst (i := 0) c_iconst_0 hC (zdk dk_X6_readBoth 21 rfl) (q := 41) rfl ?_
          exact x_iret (ty := .boolean) rfl hE hC (zdk dk_X6_readBoth 22 rfl)
set_option maxRecDepth 100000 in
def f_X6_readBoth (rk : Nat → Nat → Int32 → Int32 → Mem → Option (Int32 × Mem)) (r0 : Nat) (x1 : Int32) (M : Mem) : Option (Int32 × Mem) := Option.bind (rk 7 r0 x1 0 M) fun z6 => (if z6.1 = 0 then some (0, z6.2) else f_X6_readBoth_12 rk r0 x1 1000000 0 z6.2)
set_option maxRecDepth 100000 in
set_option maxHeartbeats 4000000 in
theorem x_X6_readBoth {κ : KX} {n : Nat} {d : Nat} (hC : CX κ cX6_readBoth RX6 3 (some .boolean) (3 + d + 1)) (hE : zEnd κ n (0, 0)) (hk0 : zRk κ (0, 0)) (rk : Nat → Nat → Int32 → Int32 → Mem → Option (Int32 × Mem)) (hrk : zRkH rk n d) (r0 : Nat) (x1 : Int32) (M : Mem) (h_r0 : zO n r0 6) : X κ 3 emI n (0, 0) 0 [.ref r0, .int x1, .null] [] M (f_X6_readBoth rk r0 x1 M) := by
  unfold f_X6_readBoth
  refine x_aload_n (i := 0) rfl hC (zdk dk_X6_readBoth 0 rfl) (q := 1) rfl ?_
  refine x_iload_n (i := 1) rfl hC (zdk dk_X6_readBoth 1 rfl) (q := 2) rfl ?_
  refine x_callVi (as := [.int x1]) cb_RX6_231 rfl ⟨Nat.le_refl _, by decide⟩ hk0 h_r0 (fun x hx => (hrk.2.2.2.2.2.2.2.1) _ _ _ h_r0 x hx) hC (zdk dk_X6_readBoth 2 rfl) (q := 5) rfl rfl (Nat.le_of_ble_eq_true rfl) (fun z6 => ?_)
  refine x_if_ne (tgt := 10) hC (zdk dk_X6_readBoth 3 rfl) (q := 8) rfl rfl (fun _ => ?_) (fun _ => ?_)
  · refine x_iconst (i := 0) c_iconst_0 hC (zdk dk_X6_readBoth 6 rfl) (q := 11) rfl ?_
    refine x_istore_n (i := 2) (L' := [.ref r0, .int x1, .int 0]) (by decide) rfl hC (zdk dk_X6_readBoth 7 rfl) (q := 12) rfl ?_
    refine x_weak (L' := [.ref r0, .int x1, .int 0]) ⟨Or.inr rfl, Or.inr rfl, Or.inr rfl, trivial⟩ ?_
    exact x_X6_readBoth_12 hC hE hk0 hrk h_r0 _ _ _
  · refine x_iconst (i := 0) c_iconst_0 hC (zdk dk_X6_readBoth 4 rfl) (q := 9) rfl ?_
    exact x_iret (ty := .boolean) rfl hE hC (zdk dk_X6_readBoth 5 rfl)
set_option maxRecDepth 100000 in
set_option maxHeartbeats 4000000 in
theorem t_X6_readBoth {n d : Nat} {rk : Nat → Nat → Int32 → Int32 → Mem → Option (Int32 × Mem)} (hrk : zRkH rk n d) {r0 : Nat} {x1 : Int32} {M : Mem} (h_r0 : zO n r0 6) (x : (Int32 × Mem)) (hx : f_X6_readBoth rk r0 x1 M = some x) (l : Launch) (dC : Nat → ClassId) (dI : Nat → Nat → Nat) (b : zSg) : MT l dC dI b yX6_readBoth cX6_readBoth 3 (some .boolean) (3 + d + 1) 0 0 n n [.ref r0, .int x1] M (emI x).1 (emI x).2 :=
  MT.ofX (by decide +kernel) rfl (Nat.le_of_ble_eq_true rfl) (fun κ hC hF _ => x_X6_readBoth hC (zEnd_of hF (Nat.le_refl _) (Nat.le_refl _)) (zRk_of hF (Nat.le_refl _) (Nat.le_refl _)) rk hrk _ _ _ h_r0) x hx
set_option maxRecDepth 100000 in
def dt_X6_readFact : List (Nat × Instr × Nat) := [(0, .aload_n 0, 1), (1, .bipush 23, 2), (3, .invokevirtual 112, 3), (6, .ifCond .eq 46, 3), (9, .iload_n 1, 1), (10, .bipush 7, 2), (12, .if_icmp .lt 13, 3), (15, .aload_n 0, 1), (16, .iconst 5, 1), (17, .aload_n 0, 1), (18, .getfield 81, 3), (21, .invokevirtual 84, 3), (24, .ireturn, 1), (25, .aload_n 0, 1), (26, .invokevirtual 64, 3), (29, .aload_n 0, 1), (30, .iload_n 1, 1), (31, .iconst 1, 1), (32, .iadd, 1), (33, .invokevirtual 231, 3), (36, .ifCond .ne 5, 3), (39, .iconst 0, 1), (40, .ireturn, 1), (41, .aload_n 0, 1), (42, .getfield 18, 3), (45, .bipush (-13), 2), (47, .invokevirtual 209, 3), (50, .iconst 1, 1), (51, .ireturn, 1), (52, .aload_n 0, 1), (53, .getfield 78, 3), (56, .bipush 91, 2), (58, .if_icmp .ne 38, 3), (61, .aload_n 0, 1), (62, .bipush 91, 2), (64, .iload_n 1, 1), (65, .invokevirtual 216, 3), (68, .ifCond .eq 26, 3), (71, .aload_n 0, 1), (72, .iload_n 1, 1), (73, .iconst 1, 1), (74, .iadd, 1), (75, .invokevirtual 200, 3), (78, .ifCond .eq 16, 3), (81, .aload_n 0, 1), (82, .bipush 93, 2), (84, .invokevirtual 71, 3), (87, .ifCond .eq 7, 3), (90, .iconst 1, 1), (91, .goto 4, 3), (94, .iconst 0, 1), (95, .ireturn, 1), (96, .aload_n 0, 1), (97, .bipush 24, 2), (99, .invokevirtual 112, 3), (102, .ifCond .eq 17, 3), (105, .aload_n 0, 1), (106, .getfield 18, 3), (109, .iconst 1, 1), (110, .invokevirtual 209, 3), (113, .aload_n 0, 1), (114, .invokevirtual 64, 3), (117, .iconst 1, 1), (118, .ireturn, 1), (119, .aload_n 0, 1), (120, .iload_n 1, 1), (121, .invokevirtual 234, 3), (124, .ireturn, 1)]
set_option maxRecDepth 100000 in
theorem dk_X6_readFact : dt_X6_readFact.all (fun q => decide (decode cX6_readFact q.1 = .ok q.2)) = true := by decide +kernel
set_option maxRecDepth 100000 in
def f_X6_readFact_95 (rk : Nat → Nat → Int32 → Int32 → Mem → Option (Int32 × Mem))  (r0 : Nat) (x1 : Int32) (s0 : Int32) (M : Mem) : Option (Int32 × Mem) := zbz s0 (some (s0, M))
set_option maxRecDepth 100000 in
set_option maxHeartbeats 4000000 in
theorem x_X6_readFact_95 {κ : KX} {n : Nat} {d : Nat} (hC : CX κ cX6_readFact RX6 2 (some .boolean) (3 + d + 1)) (hE : zEnd κ n (0, 0)) (hk0 : zRk κ (0, 0)) {rk : Nat → Nat → Int32 → Int32 → Mem → Option (Int32 × Mem)} (hrk : zRkH rk n d) {r0 : Nat} {x1 : Int32} (h_r0 : zO n r0 6) (s0 : Int32) (M : Mem) : X κ 2 emI n (0, 0) 95 [.null, .null] [.int s0] M (f_X6_readFact_95 rk r0 x1 s0 M) := by
  unfold f_X6_readFact_95
  refine x_bz (fun hb1 => ?_)
  exact x_iret (ty := .boolean) hb1.1 hE hC (zdk dk_X6_readFact 51 rfl)
set_option maxRecDepth 100000 in
def f_X6_readFact_94 (rk : Nat → Nat → Int32 → Int32 → Mem → Option (Int32 × Mem))  (r0 : Nat) (x1 : Int32)  (M : Mem) : Option (Int32 × Mem) := f_X6_readFact_95 rk r0 x1 0 M
set_option maxRecDepth 100000 in
set_option maxHeartbeats 4000000 in
theorem x_X6_readFact_94 {κ : KX} {n : Nat} {d : Nat} (hC : CX κ cX6_readFact RX6 2 (some .boolean) (3 + d + 1)) (hE : zEnd κ n (0, 0)) (hk0 : zRk κ (0, 0)) {rk : Nat → Nat → Int32 → Int32 → Mem → Option (Int32 × Mem)} (hrk : zRkH rk n d) {r0 : Nat} {x1 : Int32} (h_r0 : zO n r0 6) (M : Mem) : X κ 2 emI n (0, 0) 94 [.null, .null] [] M (f_X6_readFact_94 rk r0 x1 M) := by
  unfold f_X6_readFact_94
  refine x_iconst (i := 0) c_iconst_0 hC (zdk dk_X6_readFact 50 rfl) (q := 95) rfl ?_
  refine x_weak (L' := [.null, .null]) ⟨Or.inl rfl, Or.inl rfl, trivial⟩ ?_
  exact x_X6_readFact_95 hC hE hk0 hrk h_r0 _ _
set_option maxRecDepth 100000 in
def f_X6_readFact (rk : Nat → Nat → Int32 → Int32 → Mem → Option (Int32 × Mem)) (r0 : Nat) (x1 : Int32) (M : Mem) : Option (Int32 × Mem) := Option.bind (f_X6_isOwn r0 23 M) fun z2 => (if z2.1 = 0 then (if zI z2.2 r0 6 = 91 then Option.bind (f_X6_readOpening r0 91 x1 z2.2) fun z9 => (if z9.1 = 0 then f_X6_readFact_94 rk r0 x1 z9.2 else Option.bind (rk 5 r0 (x1 + 1) 0 z9.2) fun z10 => (if z10.1 = 0 then f_X6_readFact_94 rk r0 x1 z10.2 else Option.bind (f_X6_readSign r0 93 z10.2) fun z11 => (if z11.1 = 0 then f_X6_readFact_94 rk r0 x1 z11.2 else f_X6_readFact_95 rk r0 x1 1 z11.2))) else Option.bind (f_X6_isOwn r0 24 z2.2) fun z3 => (if z3.1 = 0 then Option.bind (rk 8 r0 x1 0 z3.2) fun z4 => zbz z4.1 (some (z4.1, z4.2)) else Option.bind (zrf z3.2 r0 2) fun q6 => Option.bind (f_X0_addStep q6 1 z3.2) fun M7 => Option.bind (f_X6_look r0 M7) fun M8 => some (1, M8))) else (if x1 < 7 then Option.bind (f_X6_look r0 z2.2) fun M12 => Option.bind (rk 7 r0 (x1 + 1) 0 M12) fun z13 => (if z13.1 = 0 then some (0, z13.2) else Option.bind (zrf z13.2 r0 2) fun q14 => Option.bind (f_X0_addStep q14 ((-13)) z13.2) fun M15 => some (1, M15)) else Option.bind (f_X6_failBy r0 5 (zI z2.2 r0 7) z2.2) fun z16 => zbz z16.1 (some (z16.1, z16.2))))
set_option maxRecDepth 100000 in
set_option maxHeartbeats 4000000 in
theorem x_X6_readFact {κ : KX} {n : Nat} {d : Nat} (hC : CX κ cX6_readFact RX6 2 (some .boolean) (3 + d + 1)) (hE : zEnd κ n (0, 0)) (hk0 : zRk κ (0, 0)) (rk : Nat → Nat → Int32 → Int32 → Mem → Option (Int32 × Mem)) (hrk : zRkH rk n d) (r0 : Nat) (x1 : Int32) (M : Mem) (h_r0 : zO n r0 6) : X κ 2 emI n (0, 0) 0 [.ref r0, .int x1] [] M (f_X6_readFact rk r0 x1 M) := by
  unfold f_X6_readFact
  refine x_aload_n (i := 0) rfl hC (zdk dk_X6_readFact 0 rfl) (q := 1) rfl ?_
  refine x_bipush (i := 23) c_bipush_23 hC (zdk dk_X6_readFact 1 rfl) (q := 3) rfl ?_
  refine x_callVi (as := [.int 23]) cb_RX6_112 rfl ⟨zdep 0 (by decide), by decide⟩ hk0 h_r0 (fun x hx => t_X6_isOwn h_r0 x hx) hC (zdk dk_X6_readFact 2 rfl) (q := 6) rfl rfl (Nat.le_of_ble_eq_true rfl) (fun z2 => ?_)
  refine x_if_eq (tgt := 52) hC (zdk dk_X6_readFact 3 rfl) (q := 9) rfl rfl (fun _ => ?_) (fun _ => ?_)
  · refine x_aload_n (i := 0) rfl hC (zdk dk_X6_readFact 29 rfl) (q := 53) rfl ?_
    refine x_getI fl_RX6_78 (by decide) h_r0 hC (zdk dk_X6_readFact 30 rfl) (q := 56) rfl ?_
    refine x_bipush (i := 91) c_bipush_91 hC (zdk dk_X6_readFact 31 rfl) (q := 58) rfl ?_
    refine x_icmp_ne (tgt := 96) hC (zdk dk_X6_readFact 32 rfl) (q := 61) rfl rfl (fun _ => ?_) (fun _ => ?_)
    · refine x_aload_n (i := 0) rfl hC (zdk dk_X6_readFact 52 rfl) (q := 97) rfl ?_
      refine x_bipush (i := 24) c_bipush_24 hC (zdk dk_X6_readFact 53 rfl) (q := 99) rfl ?_
      refine x_callVi (as := [.int 24]) cb_RX6_112 rfl ⟨zdep 0 (by decide), by decide⟩ hk0 h_r0 (fun x hx => t_X6_isOwn h_r0 x hx) hC (zdk dk_X6_readFact 54 rfl) (q := 102) rfl rfl (Nat.le_of_ble_eq_true rfl) (fun z3 => ?_)
      refine x_if_eq (tgt := 119) hC (zdk dk_X6_readFact 55 rfl) (q := 105) rfl rfl (fun _ => ?_) (fun _ => ?_)
      · refine x_aload_n (i := 0) rfl hC (zdk dk_X6_readFact 64 rfl) (q := 120) rfl ?_
        refine x_iload_n (i := 1) rfl hC (zdk dk_X6_readFact 65 rfl) (q := 121) rfl ?_
        refine x_callVi (as := [.int x1]) cb_RX6_234 rfl ⟨Nat.le_refl _, by decide⟩ hk0 h_r0 (fun x hx => (hrk.2.2.2.2.2.2.2.2) _ _ _ h_r0 x hx) hC (zdk dk_X6_readFact 66 rfl) (q := 124) rfl rfl (Nat.le_of_ble_eq_true rfl) (fun z4 => ?_)
        refine x_bz (fun hb5 => ?_)
        exact x_iret (ty := .boolean) hb5.1 hE hC (zdk dk_X6_readFact 67 rfl)
      · refine x_aload_n (i := 0) rfl hC (zdk dk_X6_readFact 56 rfl) (q := 106) rfl ?_
        refine x_getR (k := 0) fl_RX6_18 rfl h_r0 hC (zdk dk_X6_readFact 57 rfl) (q := 109) rfl (fun q6 hq6 => ?_)
        refine x_iconst (i := 1) c_iconst_1 hC (zdk dk_X6_readFact 58 rfl) (q := 110) rfl ?_
        refine x_callVv (as := [.int 1]) cb_RX6_209 rfl ⟨zdep 0 (by decide), by decide⟩ hk0 hq6 (fun x hx => t_X0_addStep hq6 x hx) hC (zdk dk_X6_readFact 59 rfl) (q := 113) rfl rfl (Nat.le_of_ble_eq_true rfl) (fun M7 => ?_)
        refine x_aload_n (i := 0) rfl hC (zdk dk_X6_readFact 60 rfl) (q := 114) rfl ?_
        refine x_callVv (as := []) cb_RX6_64 rfl ⟨zdep 1 (by decide), by decide⟩ hk0 h_r0 (fun x hx => t_X6_look h_r0 x hx) hC (zdk dk_X6_readFact 61 rfl) (q := 117) rfl rfl (Nat.le_of_ble_eq_true rfl) (fun M8 => ?_)
        refine x_iconst (i := 1) c_iconst_1 hC (zdk dk_X6_readFact 62 rfl) (q := 118) rfl ?_
        exact x_iret (ty := .boolean) rfl hE hC (zdk dk_X6_readFact 63 rfl)
    · refine x_aload_n (i := 0) rfl hC (zdk dk_X6_readFact 33 rfl) (q := 62) rfl ?_
      refine x_bipush (i := 91) c_bipush_91 hC (zdk dk_X6_readFact 34 rfl) (q := 64) rfl ?_
      refine x_iload_n (i := 1) rfl hC (zdk dk_X6_readFact 35 rfl) (q := 65) rfl ?_
      refine x_callVi (as := [.int 91, .int x1]) cb_RX6_216 rfl ⟨zdep 2 (by decide), by decide⟩ hk0 h_r0 (fun x hx => t_X6_readOpening h_r0 x hx) hC (zdk dk_X6_readFact 36 rfl) (q := 68) rfl rfl (Nat.le_of_ble_eq_true rfl) (fun z9 => ?_)
      refine x_if_eq (tgt := 94) hC (zdk dk_X6_readFact 37 rfl) (q := 71) rfl rfl (fun _ => ?_) (fun _ => ?_)
      · refine x_weak (L' := [.null, .null]) ⟨Or.inl rfl, Or.inl rfl, trivial⟩ ?_
        exact x_X6_readFact_94 hC hE hk0 hrk h_r0 _
      · refine x_aload_n (i := 0) rfl hC (zdk dk_X6_readFact 38 rfl) (q := 72) rfl ?_
        refine x_iload_n (i := 1) rfl hC (zdk dk_X6_readFact 39 rfl) (q := 73) rfl ?_
        refine x_iconst (i := 1) c_iconst_1 hC (zdk dk_X6_readFact 40 rfl) (q := 74) rfl ?_
        refine x_iadd hC (zdk dk_X6_readFact 41 rfl) (q := 75) rfl ?_
        refine x_callVi (as := [.int (x1 + 1)]) cb_RX6_200 rfl ⟨Nat.le_refl _, by decide⟩ hk0 h_r0 (fun x hx => (hrk.2.2.2.2.2.1) _ _ _ h_r0 x hx) hC (zdk dk_X6_readFact 42 rfl) (q := 78) rfl rfl (Nat.le_of_ble_eq_true rfl) (fun z10 => ?_)
        refine x_if_eq (tgt := 94) hC (zdk dk_X6_readFact 43 rfl) (q := 81) rfl rfl (fun _ => ?_) (fun _ => ?_)
        · refine x_weak (L' := [.null, .null]) ⟨Or.inl rfl, Or.inl rfl, trivial⟩ ?_
          exact x_X6_readFact_94 hC hE hk0 hrk h_r0 _
        · refine x_aload_n (i := 0) rfl hC (zdk dk_X6_readFact 44 rfl) (q := 82) rfl ?_
          refine x_bipush (i := 93) c_bipush_93 hC (zdk dk_X6_readFact 45 rfl) (q := 84) rfl ?_
          refine x_callVi (as := [.int 93]) cb_RX6_71 rfl ⟨zdep 2 (by decide), by decide⟩ hk0 h_r0 (fun x hx => t_X6_readSign h_r0 x hx) hC (zdk dk_X6_readFact 46 rfl) (q := 87) rfl rfl (Nat.le_of_ble_eq_true rfl) (fun z11 => ?_)
          refine x_if_eq (tgt := 94) hC (zdk dk_X6_readFact 47 rfl) (q := 90) rfl rfl (fun _ => ?_) (fun _ => ?_)
          · refine x_weak (L' := [.null, .null]) ⟨Or.inl rfl, Or.inl rfl, trivial⟩ ?_
            exact x_X6_readFact_94 hC hE hk0 hrk h_r0 _
          · refine x_iconst (i := 1) c_iconst_1 hC (zdk dk_X6_readFact 48 rfl) (q := 91) rfl ?_
            refine x_goto (tgt := 95) hC (zdk dk_X6_readFact 49 rfl) rfl ?_
            refine x_weak (L' := [.null, .null]) ⟨Or.inl rfl, Or.inl rfl, trivial⟩ ?_
            exact x_X6_readFact_95 hC hE hk0 hrk h_r0 _ _
  · refine x_iload_n (i := 1) rfl hC (zdk dk_X6_readFact 4 rfl) (q := 10) rfl ?_
    refine x_bipush (i := 7) c_bipush_7 hC (zdk dk_X6_readFact 5 rfl) (q := 12) rfl ?_
    refine x_icmp_lt (tgt := 25) hC (zdk dk_X6_readFact 6 rfl) (q := 15) rfl rfl (fun _ => ?_) (fun _ => ?_)
    · refine x_aload_n (i := 0) rfl hC (zdk dk_X6_readFact 13 rfl) (q := 26) rfl ?_
      refine x_callVv (as := []) cb_RX6_64 rfl ⟨zdep 1 (by decide), by decide⟩ hk0 h_r0 (fun x hx => t_X6_look h_r0 x hx) hC (zdk dk_X6_readFact 14 rfl) (q := 29) rfl rfl (Nat.le_of_ble_eq_true rfl) (fun M12 => ?_)
      refine x_aload_n (i := 0) rfl hC (zdk dk_X6_readFact 15 rfl) (q := 30) rfl ?_
      refine x_iload_n (i := 1) rfl hC (zdk dk_X6_readFact 16 rfl) (q := 31) rfl ?_
      refine x_iconst (i := 1) c_iconst_1 hC (zdk dk_X6_readFact 17 rfl) (q := 32) rfl ?_
      refine x_iadd hC (zdk dk_X6_readFact 18 rfl) (q := 33) rfl ?_
      refine x_callVi (as := [.int (x1 + 1)]) cb_RX6_231 rfl ⟨Nat.le_refl _, by decide⟩ hk0 h_r0 (fun x hx => (hrk.2.2.2.2.2.2.2.1) _ _ _ h_r0 x hx) hC (zdk dk_X6_readFact 19 rfl) (q := 36) rfl rfl (Nat.le_of_ble_eq_true rfl) (fun z13 => ?_)
      refine x_if_ne (tgt := 41) hC (zdk dk_X6_readFact 20 rfl) (q := 39) rfl rfl (fun _ => ?_) (fun _ => ?_)
      · refine x_aload_n (i := 0) rfl hC (zdk dk_X6_readFact 23 rfl) (q := 42) rfl ?_
        refine x_getR (k := 0) fl_RX6_18 rfl h_r0 hC (zdk dk_X6_readFact 24 rfl) (q := 45) rfl (fun q14 hq14 => ?_)
        refine x_bipush (i := (-13)) c_bipush_m13 hC (zdk dk_X6_readFact 25 rfl) (q := 47) rfl ?_
        refine x_callVv (as := [.int ((-13))]) cb_RX6_209 rfl ⟨zdep 0 (by decide), by decide⟩ hk0 hq14 (fun x hx => t_X0_addStep hq14 x hx) hC (zdk dk_X6_readFact 26 rfl) (q := 50) rfl rfl (Nat.le_of_ble_eq_true rfl) (fun M15 => ?_)
        refine x_iconst (i := 1) c_iconst_1 hC (zdk dk_X6_readFact 27 rfl) (q := 51) rfl ?_
        exact x_iret (ty := .boolean) rfl hE hC (zdk dk_X6_readFact 28 rfl)
      · refine x_iconst (i := 0) c_iconst_0 hC (zdk dk_X6_readFact 21 rfl) (q := 40) rfl ?_
        exact x_iret (ty := .boolean) rfl hE hC (zdk dk_X6_readFact 22 rfl)
    · refine x_aload_n (i := 0) rfl hC (zdk dk_X6_readFact 7 rfl) (q := 16) rfl ?_
      refine x_iconst (i := 5) c_iconst_5 hC (zdk dk_X6_readFact 8 rfl) (q := 17) rfl ?_
      refine x_aload_n (i := 0) rfl hC (zdk dk_X6_readFact 9 rfl) (q := 18) rfl ?_
      refine x_getI fl_RX6_81 (by decide) h_r0 hC (zdk dk_X6_readFact 10 rfl) (q := 21) rfl ?_
      refine x_callVi (as := [.int 5, .int (zI z2.2 r0 7)]) cb_RX6_84 rfl ⟨zdep 0 (by decide), by decide⟩ hk0 h_r0 (fun x hx => t_X6_failBy h_r0 x hx) hC (zdk dk_X6_readFact 11 rfl) (q := 24) rfl rfl (Nat.le_of_ble_eq_true rfl) (fun z16 => ?_)
      refine x_bz (fun hb17 => ?_)
      exact x_iret (ty := .boolean) hb17.1 hE hC (zdk dk_X6_readFact 12 rfl)
set_option maxRecDepth 100000 in
set_option maxHeartbeats 4000000 in
theorem t_X6_readFact {n d : Nat} {rk : Nat → Nat → Int32 → Int32 → Mem → Option (Int32 × Mem)} (hrk : zRkH rk n d) {r0 : Nat} {x1 : Int32} {M : Mem} (h_r0 : zO n r0 6) (x : (Int32 × Mem)) (hx : f_X6_readFact rk r0 x1 M = some x) (l : Launch) (dC : Nat → ClassId) (dI : Nat → Nat → Nat) (b : zSg) : MT l dC dI b yX6_readFact cX6_readFact 2 (some .boolean) (3 + d + 1) 0 0 n n [.ref r0, .int x1] M (emI x).1 (emI x).2 :=
  MT.ofX (by decide +kernel) rfl (Nat.le_of_ble_eq_true rfl) (fun κ hC hF _ => x_X6_readFact hC (zEnd_of hF (Nat.le_refl _) (Nat.le_refl _)) (zRk_of hF (Nat.le_refl _) (Nat.le_refl _)) rk hrk _ _ _ h_r0) x hx
set_option maxRecDepth 100000 in
def dt_X6_readComparison : List (Nat × Instr × Nat) := [(0, .aload_n 0, 1), (1, .iload_n 1, 1), (2, .invokevirtual 188, 3), (5, .ifCond .ne 5, 3), (8, .iconst 0, 1), (9, .ireturn, 1), (10, .aload_n 0, 1), (11, .getfield 78, 3), (14, .bipush 60, 2), (16, .if_icmp .eq 26, 3), (19, .aload_n 0, 1), (20, .getfield 78, 3), (23, .bipush 62, 2), (25, .if_icmp .eq 17, 3), (28, .aload_n 0, 1), (29, .getfield 78, 3), (32, .bipush 61, 2), (34, .if_icmp .eq 8, 3), (37, .aload_n 0, 1), (38, .invokevirtual 115, 3), (41, .ireturn, 1), (42, .aload_n 0, 1), (43, .getfield 78, 3), (46, .bipush 60, 2), (48, .if_icmp .ne 8, 3), (51, .bipush (-8), 2), (53, .goto 19, 3), (56, .aload_n 0, 1), (57, .getfield 78, 3), (60, .bipush 62, 2), (62, .if_icmp .ne 8, 3), (65, .bipush (-9), 2), (67, .goto 5, 3), (70, .bipush (-10), 2), (72, .istore_n 2, 1), (73, .aload_n 0, 1), (74, .invokevirtual 64, 3), (77, .aload_n 0, 1), (78, .iload_n 1, 1), (79, .invokevirtual 188, 3), (82, .ifCond .ne 5, 3), (85, .iconst 0, 1), (86, .ireturn, 1), (87, .aload_n 0, 1), (88, .getfield 18, 3), (91, .iload_n 2, 1), (92, .invokevirtual 209, 3), (95, .iconst 1, 1), (96, .ireturn, 1)]
set_option maxRecDepth 100000 in
theorem dk_X6_readComparison : dt_X6_readComparison.all (fun q => decide (decode cX6_readComparison q.1 = .ok q.2)) = true := by decide +kernel
set_option maxRecDepth 100000 in
def f_X6_readComparison_72 (rk : Nat → Nat → Int32 → Int32 → Mem → Option (Int32 × Mem))  (r0 : Nat) (x1 : Int32) (s0 : Int32) (M : Mem) : Option (Int32 × Mem) := Option.bind (f_X6_look r0 M) fun M1 => Option.bind (rk 0 r0 x1 0 M1) fun z2 => (if z2.1 = 0 then some (0, z2.2) else Option.bind (zrf z2.2 r0 2) fun q3 => Option.bind (f_X0_addStep q3 s0 z2.2) fun M4 => some (1, M4))
set_option maxRecDepth 100000 in
set_option maxHeartbeats 4000000 in
theorem x_X6_readComparison_72 {κ : KX} {n : Nat} {d : Nat} (hC : CX κ cX6_readComparison RX6 3 (some .boolean) (3 + d + 1)) (hE : zEnd κ n (0, 0)) (hk0 : zRk κ (0, 0)) {rk : Nat → Nat → Int32 → Int32 → Mem → Option (Int32 × Mem)} (hrk : zRkH rk n d) {r0 : Nat} {x1 : Int32} (h_r0 : zO n r0 6) (s0 : Int32) (M : Mem) : X κ 3 emI n (0, 0) 72 [.ref r0, .int x1, .null] [.int s0] M (f_X6_readComparison_72 rk r0 x1 s0 M) := by
  unfold f_X6_readComparison_72
  refine x_istore_n (i := 2) (L' := [.ref r0, .int x1, .int s0]) (by decide) rfl hC (zdk dk_X6_readComparison 34 rfl) (q := 73) rfl ?_
  refine x_aload_n (i := 0) rfl hC (zdk dk_X6_readComparison 35 rfl) (q := 74) rfl ?_
  refine x_callVv (as := []) cb_RX6_64 rfl ⟨zdep 1 (by decide), by decide⟩ hk0 h_r0 (fun x hx => t_X6_look h_r0 x hx) hC (zdk dk_X6_readComparison 36 rfl) (q := 77) rfl rfl (Nat.le_of_ble_eq_true rfl) (fun M1 => ?_)
  refine x_aload_n (i := 0) rfl hC (zdk dk_X6_readComparison 37 rfl) (q := 78) rfl ?_
  refine x_iload_n (i := 1) rfl hC (zdk dk_X6_readComparison 38 rfl) (q := 79) rfl ?_
  refine x_callVi (as := [.int x1]) cb_RX6_188 rfl ⟨Nat.le_refl _, by decide⟩ hk0 h_r0 (fun x hx => (hrk.1) _ _ _ h_r0 x hx) hC (zdk dk_X6_readComparison 39 rfl) (q := 82) rfl rfl (Nat.le_of_ble_eq_true rfl) (fun z2 => ?_)
  refine x_if_ne (tgt := 87) hC (zdk dk_X6_readComparison 40 rfl) (q := 85) rfl rfl (fun _ => ?_) (fun _ => ?_)
  · refine x_aload_n (i := 0) rfl hC (zdk dk_X6_readComparison 43 rfl) (q := 88) rfl ?_
    refine x_getR (k := 0) fl_RX6_18 rfl h_r0 hC (zdk dk_X6_readComparison 44 rfl) (q := 91) rfl (fun q3 hq3 => ?_)
    refine x_iload_n (i := 2) rfl hC (zdk dk_X6_readComparison 45 rfl) (q := 92) rfl ?_
    refine x_callVv (as := [.int s0]) cb_RX6_209 rfl ⟨zdep 0 (by decide), by decide⟩ hk0 hq3 (fun x hx => t_X0_addStep hq3 x hx) hC (zdk dk_X6_readComparison 46 rfl) (q := 95) rfl rfl (Nat.le_of_ble_eq_true rfl) (fun M4 => ?_)
    refine x_iconst (i := 1) c_iconst_1 hC (zdk dk_X6_readComparison 47 rfl) (q := 96) rfl ?_
    exact x_iret (ty := .boolean) rfl hE hC (zdk dk_X6_readComparison 48 rfl)
  · refine x_iconst (i := 0) c_iconst_0 hC (zdk dk_X6_readComparison 41 rfl) (q := 86) rfl ?_
    exact x_iret (ty := .boolean) rfl hE hC (zdk dk_X6_readComparison 42 rfl)
set_option maxRecDepth 100000 in
def f_X6_readComparison_42 (rk : Nat → Nat → Int32 → Int32 → Mem → Option (Int32 × Mem))  (r0 : Nat) (x1 : Int32)  (M : Mem) : Option (Int32 × Mem) := (if zI M r0 6 = 60 then f_X6_readComparison_72 rk r0 x1 ((-8)) M else (if zI M r0 6 = 62 then f_X6_readComparison_72 rk r0 x1 ((-9)) M else f_X6_readComparison_72 rk r0 x1 ((-10)) M))
set_option maxRecDepth 100000 in
set_option maxHeartbeats 4000000 in
theorem x_X6_readComparison_42 {κ : KX} {n : Nat} {d : Nat} (hC : CX κ cX6_readComparison RX6 3 (some .boolean) (3 + d + 1)) (hE : zEnd κ n (0, 0)) (hk0 : zRk κ (0, 0)) {rk : Nat → Nat → Int32 → Int32 → Mem → Option (Int32 × Mem)} (hrk : zRkH rk n d) {r0 : Nat} {x1 : Int32} (h_r0 : zO n r0 6) (M : Mem) : X κ 3 emI n (0, 0) 42 [.ref r0, .int x1, .null] [] M (f_X6_readComparison_42 rk r0 x1 M) := by
  unfold f_X6_readComparison_42
  refine x_aload_n (i := 0) rfl hC (zdk dk_X6_readComparison 21 rfl) (q := 43) rfl ?_
  refine x_getI fl_RX6_78 (by decide) h_r0 hC (zdk dk_X6_readComparison 22 rfl) (q := 46) rfl ?_
  refine x_bipush (i := 60) c_bipush_60 hC (zdk dk_X6_readComparison 23 rfl) (q := 48) rfl ?_
  refine x_icmp_ne (tgt := 56) hC (zdk dk_X6_readComparison 24 rfl) (q := 51) rfl rfl (fun _ => ?_) (fun _ => ?_)
  · refine x_aload_n (i := 0) rfl hC (zdk dk_X6_readComparison 27 rfl) (q := 57) rfl ?_
    refine x_getI fl_RX6_78 (by decide) h_r0 hC (zdk dk_X6_readComparison 28 rfl) (q := 60) rfl ?_
    refine x_bipush (i := 62) c_bipush_62 hC (zdk dk_X6_readComparison 29 rfl) (q := 62) rfl ?_
    refine x_icmp_ne (tgt := 70) hC (zdk dk_X6_readComparison 30 rfl) (q := 65) rfl rfl (fun _ => ?_) (fun _ => ?_)
    · refine x_bipush (i := (-10)) c_bipush_m10 hC (zdk dk_X6_readComparison 33 rfl) (q := 72) rfl ?_
      refine x_weak (L' := [.ref r0, .int x1, .null]) ⟨Or.inr rfl, Or.inr rfl, Or.inl rfl, trivial⟩ ?_
      exact x_X6_readComparison_72 hC hE hk0 hrk h_r0 _ _
    · refine x_bipush (i := (-9)) c_bipush_m9 hC (zdk dk_X6_readComparison 31 rfl) (q := 67) rfl ?_
      refine x_goto (tgt := 72) hC (zdk dk_X6_readComparison 32 rfl) rfl ?_
      refine x_weak (L' := [.ref r0, .int x1, .null]) ⟨Or.inr rfl, Or.inr rfl, Or.inl rfl, trivial⟩ ?_
      exact x_X6_readComparison_72 hC hE hk0 hrk h_r0 _ _
  · refine x_bipush (i := (-8)) c_bipush_m8 hC (zdk dk_X6_readComparison 25 rfl) (q := 53) rfl ?_
    refine x_goto (tgt := 72) hC (zdk dk_X6_readComparison 26 rfl) rfl ?_
    refine x_weak (L' := [.ref r0, .int x1, .null]) ⟨Or.inr rfl, Or.inr rfl, Or.inl rfl, trivial⟩ ?_
    exact x_X6_readComparison_72 hC hE hk0 hrk h_r0 _ _
set_option maxRecDepth 100000 in
def f_X6_readComparison (rk : Nat → Nat → Int32 → Int32 → Mem → Option (Int32 × Mem)) (r0 : Nat) (x1 : Int32) (M : Mem) : Option (Int32 × Mem) := Option.bind (rk 0 r0 x1 0 M) fun z5 => (if z5.1 = 0 then some (0, z5.2) else (if zI z5.2 r0 6 = 60 then f_X6_readComparison_42 rk r0 x1 z5.2 else (if zI z5.2 r0 6 = 62 then f_X6_readComparison_42 rk r0 x1 z5.2 else (if zI z5.2 r0 6 = 61 then f_X6_readComparison_42 rk r0 x1 z5.2 else Option.bind (f_X6_failHere r0 z5.2) fun z6 => zbz z6.1 (some (z6.1, z6.2))))))
set_option maxRecDepth 100000 in
set_option maxHeartbeats 4000000 in
theorem x_X6_readComparison {κ : KX} {n : Nat} {d : Nat} (hC : CX κ cX6_readComparison RX6 3 (some .boolean) (3 + d + 1)) (hE : zEnd κ n (0, 0)) (hk0 : zRk κ (0, 0)) (rk : Nat → Nat → Int32 → Int32 → Mem → Option (Int32 × Mem)) (hrk : zRkH rk n d) (r0 : Nat) (x1 : Int32) (M : Mem) (h_r0 : zO n r0 6) : X κ 3 emI n (0, 0) 0 [.ref r0, .int x1, .null] [] M (f_X6_readComparison rk r0 x1 M) := by
  unfold f_X6_readComparison
  refine x_aload_n (i := 0) rfl hC (zdk dk_X6_readComparison 0 rfl) (q := 1) rfl ?_
  refine x_iload_n (i := 1) rfl hC (zdk dk_X6_readComparison 1 rfl) (q := 2) rfl ?_
  refine x_callVi (as := [.int x1]) cb_RX6_188 rfl ⟨Nat.le_refl _, by decide⟩ hk0 h_r0 (fun x hx => (hrk.1) _ _ _ h_r0 x hx) hC (zdk dk_X6_readComparison 2 rfl) (q := 5) rfl rfl (Nat.le_of_ble_eq_true rfl) (fun z5 => ?_)
  refine x_if_ne (tgt := 10) hC (zdk dk_X6_readComparison 3 rfl) (q := 8) rfl rfl (fun _ => ?_) (fun _ => ?_)
  · refine x_aload_n (i := 0) rfl hC (zdk dk_X6_readComparison 6 rfl) (q := 11) rfl ?_
    refine x_getI fl_RX6_78 (by decide) h_r0 hC (zdk dk_X6_readComparison 7 rfl) (q := 14) rfl ?_
    refine x_bipush (i := 60) c_bipush_60 hC (zdk dk_X6_readComparison 8 rfl) (q := 16) rfl ?_
    refine x_icmp_eq (tgt := 42) hC (zdk dk_X6_readComparison 9 rfl) (q := 19) rfl rfl (fun _ => ?_) (fun _ => ?_)
    · refine x_weak (L' := [.ref r0, .int x1, .null]) ⟨Or.inr rfl, Or.inr rfl, Or.inl rfl, trivial⟩ ?_
      exact x_X6_readComparison_42 hC hE hk0 hrk h_r0 _
    · refine x_aload_n (i := 0) rfl hC (zdk dk_X6_readComparison 10 rfl) (q := 20) rfl ?_
      refine x_getI fl_RX6_78 (by decide) h_r0 hC (zdk dk_X6_readComparison 11 rfl) (q := 23) rfl ?_
      refine x_bipush (i := 62) c_bipush_62 hC (zdk dk_X6_readComparison 12 rfl) (q := 25) rfl ?_
      refine x_icmp_eq (tgt := 42) hC (zdk dk_X6_readComparison 13 rfl) (q := 28) rfl rfl (fun _ => ?_) (fun _ => ?_)
      · refine x_weak (L' := [.ref r0, .int x1, .null]) ⟨Or.inr rfl, Or.inr rfl, Or.inl rfl, trivial⟩ ?_
        exact x_X6_readComparison_42 hC hE hk0 hrk h_r0 _
      · refine x_aload_n (i := 0) rfl hC (zdk dk_X6_readComparison 14 rfl) (q := 29) rfl ?_
        refine x_getI fl_RX6_78 (by decide) h_r0 hC (zdk dk_X6_readComparison 15 rfl) (q := 32) rfl ?_
        refine x_bipush (i := 61) c_bipush_61 hC (zdk dk_X6_readComparison 16 rfl) (q := 34) rfl ?_
        refine x_icmp_eq (tgt := 42) hC (zdk dk_X6_readComparison 17 rfl) (q := 37) rfl rfl (fun _ => ?_) (fun _ => ?_)
        · refine x_weak (L' := [.ref r0, .int x1, .null]) ⟨Or.inr rfl, Or.inr rfl, Or.inl rfl, trivial⟩ ?_
          exact x_X6_readComparison_42 hC hE hk0 hrk h_r0 _
        · refine x_aload_n (i := 0) rfl hC (zdk dk_X6_readComparison 18 rfl) (q := 38) rfl ?_
          refine x_callVi (as := []) cb_RX6_115 rfl ⟨zdep 1 (by decide), by decide⟩ hk0 h_r0 (fun x hx => t_X6_failHere h_r0 x hx) hC (zdk dk_X6_readComparison 19 rfl) (q := 41) rfl rfl (Nat.le_of_ble_eq_true rfl) (fun z6 => ?_)
          refine x_bz (fun hb7 => ?_)
          exact x_iret (ty := .boolean) hb7.1 hE hC (zdk dk_X6_readComparison 20 rfl)
  · refine x_iconst (i := 0) c_iconst_0 hC (zdk dk_X6_readComparison 4 rfl) (q := 9) rfl ?_
    exact x_iret (ty := .boolean) rfl hE hC (zdk dk_X6_readComparison 5 rfl)
set_option maxRecDepth 100000 in
set_option maxHeartbeats 4000000 in
theorem t_X6_readComparison {n d : Nat} {rk : Nat → Nat → Int32 → Int32 → Mem → Option (Int32 × Mem)} (hrk : zRkH rk n d) {r0 : Nat} {x1 : Int32} {M : Mem} (h_r0 : zO n r0 6) (x : (Int32 × Mem)) (hx : f_X6_readComparison rk r0 x1 M = some x) (l : Launch) (dC : Nat → ClassId) (dI : Nat → Nat → Nat) (b : zSg) : MT l dC dI b yX6_readComparison cX6_readComparison 3 (some .boolean) (3 + d + 1) 0 0 n n [.ref r0, .int x1] M (emI x).1 (emI x).2 :=
  MT.ofX (by decide +kernel) rfl (Nat.le_of_ble_eq_true rfl) (fun κ hC hF _ => x_X6_readComparison hC (zEnd_of hF (Nat.le_refl _) (Nat.le_refl _)) (zRk_of hF (Nat.le_refl _) (Nat.le_refl _)) rk hrk _ _ _ h_r0) x hx
set_option maxRecDepth 100000 in
def f_rd : Nat → Nat → Nat → Int32 → Int32 → Mem → Option (Int32 × Mem)
  | 0, _, _, _, _, _ => none
  | f + 1, sel, a0, x1, x2, M => if sel = 0 then f_X6_readSum (f_rd f) a0 x1 M else if sel = 1 then f_X6_readProduct (f_rd f) a0 x1 M else if sel = 2 then f_X6_readPart (f_rd f) a0 x1 M else if sel = 3 then f_X6_readPair (f_rd f) a0 x1 x2 M else if sel = 4 then f_X6_readChoice (f_rd f) a0 x1 M else if sel = 5 then f_X6_readTest (f_rd f) a0 x1 M else if sel = 6 then f_X6_readBoth (f_rd f) a0 x1 M else if sel = 7 then f_X6_readFact (f_rd f) a0 x1 M else if sel = 8 then f_X6_readComparison (f_rd f) a0 x1 M else none
theorem zt_rd {n : Nat} : ∀ f, zRkH (f_rd f) n f := by
  intro f
  induction f with
  | zero => exact ⟨(fun a0 x1 M hO x hx => (by cases hx)), (fun a0 x1 M hO x hx => (by cases hx)), (fun a0 x1 M hO x hx => (by cases hx)), (fun a0 x1 x2 M hO x hx => (by cases hx)), (fun a0 x1 M hO x hx => (by cases hx)), (fun a0 x1 M hO x hx => (by cases hx)), (fun a0 x1 M hO x hx => (by cases hx)), (fun a0 x1 M hO x hx => (by cases hx)), (fun a0 x1 M hO x hx => (by cases hx))⟩
  | succ f ih => exact ⟨(fun a0 x1 M hO x hx => t_X6_readSum ih hO x (by simpa [f_rd] using hx)), (fun a0 x1 M hO x hx => t_X6_readProduct ih hO x (by simpa [f_rd] using hx)), (fun a0 x1 M hO x hx => t_X6_readPart ih hO x (by simpa [f_rd] using hx)), (fun a0 x1 x2 M hO x hx => t_X6_readPair ih hO x (by simpa [f_rd] using hx)), (fun a0 x1 M hO x hx => t_X6_readChoice ih hO x (by simpa [f_rd] using hx)), (fun a0 x1 M hO x hx => t_X6_readTest ih hO x (by simpa [f_rd] using hx)), (fun a0 x1 M hO x hx => t_X6_readBoth ih hO x (by simpa [f_rd] using hx)), (fun a0 x1 M hO x hx => t_X6_readFact ih hO x (by simpa [f_rd] using hx)), (fun a0 x1 M hO x hx => t_X6_readComparison ih hO x (by simpa [f_rd] using hx))⟩
set_option maxRecDepth 100000 in
def dt_X6_readDrifts : List (Nat × Instr × Nat) := [(0, .aload_n 0, 1), (1, .getfield 18, 3), (4, .invokevirtual 175, 3), (7, .ifCond .eq 14, 3), (10, .aload_n 0, 1), (11, .bipush 6, 2), (13, .aload_n 0, 1), (14, .getfield 81, 3), (17, .invokevirtual 84, 3), (20, .ireturn, 1), (21, .aload_n 0, 1), (22, .invokevirtual 64, 3), (25, .aload_n 0, 1), (26, .iconst 1, 1), (27, .putfield 178, 3), (30, .aload_n 0, 1), (31, .getfield 18, 3), (34, .aload_n 0, 1), (35, .getfield 18, 3), (38, .getfield 182, 3), (41, .putfield 185, 3), (44, .aload_n 0, 1), (45, .iconst 0, 1), (46, .invokevirtual 188, 3), (49, .ifCond .ne 5, 3), (52, .iconst 0, 1), (53, .ireturn, 1), (54, .aload_n 0, 1), (55, .getfield 18, 3), (58, .aload_n 0, 1), (59, .getfield 18, 3), (62, .getfield 182, 3), (65, .putfield 191, 3), (68, .iconst 1, 1), (69, .ireturn, 1)]
set_option maxRecDepth 100000 in
theorem dk_X6_readDrifts : dt_X6_readDrifts.all (fun q => decide (decode cX6_readDrifts q.1 = .ok q.2)) = true := by decide +kernel
set_option maxRecDepth 100000 in
def f_X6_readDrifts (r0 : Nat) (M : Mem) : Option (Int32 × Mem) := Option.bind (zrf M r0 2) fun q1 => Option.bind (f_X0_hasDrifts q1 M) fun z2 => (if z2.1 = 0 then Option.bind (f_X6_look r0 z2.2) fun M3 => Option.bind (some (zsI M3 r0 12 1)) fun M4 => Option.bind (zrf M4 r0 2) fun q5 => Option.bind (zrf M4 r0 2) fun q6 => Option.bind (some (zsI M4 q5 4 (zI M4 q6 3))) fun M7 => Option.bind (f_rd 120 0 r0 0 0 M7) fun z8 => (if z8.1 = 0 then some (0, z8.2) else Option.bind (zrf z8.2 r0 2) fun q9 => Option.bind (zrf z8.2 r0 2) fun q10 => Option.bind (some (zsI z8.2 q9 5 (zI z8.2 q10 3))) fun M11 => some (1, M11)) else Option.bind (f_X6_failBy r0 6 (zI z2.2 r0 7) z2.2) fun z12 => zbz z12.1 (some (z12.1, z12.2)))
set_option maxRecDepth 100000 in
set_option maxHeartbeats 4000000 in
theorem x_X6_readDrifts {κ : KX} {n : Nat} (hC : CX κ cX6_readDrifts RX6 1 (some .boolean) 124) (hE : zEnd κ n (0, 0)) (hk0 : zRk κ (0, 0)) (r0 : Nat) (M : Mem) (h_r0 : zO n r0 6) : X κ 1 emI n (0, 0) 0 [.ref r0] [] M (f_X6_readDrifts r0 M) := by
  unfold f_X6_readDrifts
  refine x_aload_n (i := 0) rfl hC (zdk dk_X6_readDrifts 0 rfl) (q := 1) rfl ?_
  refine x_getR (k := 0) fl_RX6_18 rfl h_r0 hC (zdk dk_X6_readDrifts 1 rfl) (q := 4) rfl (fun q1 hq1 => ?_)
  refine x_callVi (as := []) cb_RX6_175 rfl (by decide) hk0 hq1 (fun x hx => t_X0_hasDrifts hq1 x hx) hC (zdk dk_X6_readDrifts 2 rfl) (q := 7) rfl rfl (Nat.le_of_ble_eq_true rfl) (fun z2 => ?_)
  refine x_if_eq (tgt := 21) hC (zdk dk_X6_readDrifts 3 rfl) (q := 10) rfl rfl (fun _ => ?_) (fun _ => ?_)
  · refine x_aload_n (i := 0) rfl hC (zdk dk_X6_readDrifts 10 rfl) (q := 22) rfl ?_
    refine x_callVv (as := []) cb_RX6_64 rfl (by decide) hk0 h_r0 (fun x hx => t_X6_look h_r0 x hx) hC (zdk dk_X6_readDrifts 11 rfl) (q := 25) rfl rfl (Nat.le_of_ble_eq_true rfl) (fun M3 => ?_)
    refine x_aload_n (i := 0) rfl hC (zdk dk_X6_readDrifts 12 rfl) (q := 26) rfl ?_
    refine x_iconst (i := 1) c_iconst_1 hC (zdk dk_X6_readDrifts 13 rfl) (q := 27) rfl ?_
    refine x_putI fl_RX6_178 ⟨rfl, rfl⟩ (by decide) (Or.inl rfl) h_r0 hC (zdk dk_X6_readDrifts 14 rfl) (q := 30) rfl ?_
    refine x_nmM (fun M4 => ?_)
    refine x_aload_n (i := 0) rfl hC (zdk dk_X6_readDrifts 15 rfl) (q := 31) rfl ?_
    refine x_getR (k := 0) fl_RX6_18 rfl h_r0 hC (zdk dk_X6_readDrifts 16 rfl) (q := 34) rfl (fun q5 hq5 => ?_)
    refine x_aload_n (i := 0) rfl hC (zdk dk_X6_readDrifts 17 rfl) (q := 35) rfl ?_
    refine x_getR (k := 0) fl_RX6_18 rfl h_r0 hC (zdk dk_X6_readDrifts 18 rfl) (q := 38) rfl (fun q6 hq6 => ?_)
    refine x_getI fl_RX6_182 (by decide) hq6 hC (zdk dk_X6_readDrifts 19 rfl) (q := 41) rfl ?_
    refine x_putI fl_RX6_185 ⟨rfl, rfl⟩ (by decide) (Or.inl rfl) hq5 hC (zdk dk_X6_readDrifts 20 rfl) (q := 44) rfl ?_
    refine x_nmM (fun M7 => ?_)
    refine x_aload_n (i := 0) rfl hC (zdk dk_X6_readDrifts 21 rfl) (q := 45) rfl ?_
    refine x_iconst (i := 0) c_iconst_0 hC (zdk dk_X6_readDrifts 22 rfl) (q := 46) rfl ?_
    refine x_callVi (as := [.int 0]) cb_RX6_188 rfl (by decide) hk0 h_r0 (fun x hx => ((zt_rd 120).1) _ _ _ h_r0 x hx) hC (zdk dk_X6_readDrifts 23 rfl) (q := 49) rfl rfl (Nat.le_of_ble_eq_true rfl) (fun z8 => ?_)
    refine x_if_ne (tgt := 54) hC (zdk dk_X6_readDrifts 24 rfl) (q := 52) rfl rfl (fun _ => ?_) (fun _ => ?_)
    · refine x_aload_n (i := 0) rfl hC (zdk dk_X6_readDrifts 27 rfl) (q := 55) rfl ?_
      refine x_getR (k := 0) fl_RX6_18 rfl h_r0 hC (zdk dk_X6_readDrifts 28 rfl) (q := 58) rfl (fun q9 hq9 => ?_)
      refine x_aload_n (i := 0) rfl hC (zdk dk_X6_readDrifts 29 rfl) (q := 59) rfl ?_
      refine x_getR (k := 0) fl_RX6_18 rfl h_r0 hC (zdk dk_X6_readDrifts 30 rfl) (q := 62) rfl (fun q10 hq10 => ?_)
      refine x_getI fl_RX6_182 (by decide) hq10 hC (zdk dk_X6_readDrifts 31 rfl) (q := 65) rfl ?_
      refine x_putI fl_RX6_191 ⟨rfl, rfl⟩ (by decide) (Or.inl rfl) hq9 hC (zdk dk_X6_readDrifts 32 rfl) (q := 68) rfl ?_
      refine x_nmM (fun M11 => ?_)
      refine x_iconst (i := 1) c_iconst_1 hC (zdk dk_X6_readDrifts 33 rfl) (q := 69) rfl ?_
      exact x_iret (ty := .boolean) rfl hE hC (zdk dk_X6_readDrifts 34 rfl)
    · refine x_iconst (i := 0) c_iconst_0 hC (zdk dk_X6_readDrifts 25 rfl) (q := 53) rfl ?_
      exact x_iret (ty := .boolean) rfl hE hC (zdk dk_X6_readDrifts 26 rfl)
  · refine x_aload_n (i := 0) rfl hC (zdk dk_X6_readDrifts 4 rfl) (q := 11) rfl ?_
    refine x_bipush (i := 6) c_bipush_6 hC (zdk dk_X6_readDrifts 5 rfl) (q := 13) rfl ?_
    refine x_aload_n (i := 0) rfl hC (zdk dk_X6_readDrifts 6 rfl) (q := 14) rfl ?_
    refine x_getI fl_RX6_81 (by decide) h_r0 hC (zdk dk_X6_readDrifts 7 rfl) (q := 17) rfl ?_
    refine x_callVi (as := [.int 6, .int (zI z2.2 r0 7)]) cb_RX6_84 rfl (by decide) hk0 h_r0 (fun x hx => t_X6_failBy h_r0 x hx) hC (zdk dk_X6_readDrifts 8 rfl) (q := 20) rfl rfl (Nat.le_of_ble_eq_true rfl) (fun z12 => ?_)
    refine x_bz (fun hb13 => ?_)
    exact x_iret (ty := .boolean) hb13.1 hE hC (zdk dk_X6_readDrifts 9 rfl)
set_option maxRecDepth 100000 in
set_option maxHeartbeats 4000000 in
theorem t_X6_readDrifts {n : Nat} {r0 : Nat} {M : Mem} (h_r0 : zO n r0 6) (x : (Int32 × Mem)) (hx : f_X6_readDrifts r0 M = some x) (l : Launch) (dC : Nat → ClassId) (dI : Nat → Nat → Nat) (b : zSg) : MT l dC dI b yX6_readDrifts cX6_readDrifts 1 (some .boolean) 124 0 0 n n [.ref r0] M (emI x).1 (emI x).2 :=
  MT.ofX (by decide +kernel) rfl (Nat.le_of_ble_eq_true rfl) (fun κ hC hF _ => x_X6_readDrifts hC (zEnd_of hF (Nat.le_refl _) (Nat.le_refl _)) (zRk_of hF (Nat.le_refl _) (Nat.le_refl _)) _ _ h_r0) x hx
set_option maxRecDepth 100000 in
def dt_X6_readPage : List (Nat × Instr × Nat) := [(0, .aload_n 0, 1), (1, .getfield 18, 3), (4, .getfield 166, 3), (7, .bipush 6, 2), (9, .if_icmp .lt 14, 3), (12, .aload_n 0, 1), (13, .bipush 6, 2), (15, .aload_n 0, 1), (16, .getfield 81, 3), (19, .invokevirtual 84, 3), (22, .ireturn, 1), (23, .aload_n 0, 1), (24, .invokevirtual 64, 3), (27, .aload_n 0, 1), (28, .getfield 78, 3), (31, .bipush (-2), 2), (33, .if_icmp .ne 11, 3), (36, .aload_n 0, 1), (37, .getfield 94, 3), (40, .iconst (-1), 1), (41, .if_icmp .eq 8, 3), (44, .aload_n 0, 1), (45, .invokevirtual 115, 3), (48, .ireturn, 1), (49, .aload_n 0, 1), (50, .getfield 18, 3), (53, .aload_n 0, 1), (54, .getfield 97, 3), (57, .invokevirtual 169, 3), (60, .ifCond .eq 13, 3), (63, .aload_n 0, 1), (64, .iconst 2, 1), (65, .aload_n 0, 1), (66, .getfield 81, 3), (69, .invokevirtual 84, 3), (72, .ireturn, 1), (73, .aload_n 0, 1), (74, .getfield 18, 3), (77, .getfield 172, 3), (80, .aload_n 0, 1), (81, .getfield 18, 3), (84, .getfield 166, 3), (87, .aload_n 0, 1), (88, .getfield 97, 3), (91, .iastore, 1), (92, .aload_n 0, 1), (93, .getfield 18, 3), (96, .dup, 1), (97, .getfield 166, 3), (100, .iconst 1, 1), (101, .iadd, 1), (102, .putfield 166, 3), (105, .aload_n 0, 1), (106, .invokevirtual 64, 3), (109, .iconst 1, 1), (110, .ireturn, 1)]
set_option maxRecDepth 100000 in
theorem dk_X6_readPage : dt_X6_readPage.all (fun q => decide (decode cX6_readPage q.1 = .ok q.2)) = true := by decide +kernel
set_option maxRecDepth 100000 in
def f_X6_readPage_44  (r0 : Nat)  (M : Mem) : Option (Int32 × Mem) := Option.bind (f_X6_failHere r0 M) fun z1 => zbz z1.1 (some (z1.1, z1.2))
set_option maxRecDepth 100000 in
set_option maxHeartbeats 4000000 in
theorem x_X6_readPage_44 {κ : KX} {n : Nat} (hC : CX κ cX6_readPage RX6 1 (some .boolean) 2) (hE : zEnd κ n (0, 0)) (hk0 : zRk κ (0, 0)) {r0 : Nat} (h_r0 : zO n r0 6) (M : Mem) : X κ 1 emI n (0, 0) 44 [.ref r0] [] M (f_X6_readPage_44 r0 M) := by
  unfold f_X6_readPage_44
  refine x_aload_n (i := 0) rfl hC (zdk dk_X6_readPage 21 rfl) (q := 45) rfl ?_
  refine x_callVi (as := []) cb_RX6_115 rfl (by decide) hk0 h_r0 (fun x hx => t_X6_failHere h_r0 x hx) hC (zdk dk_X6_readPage 22 rfl) (q := 48) rfl rfl (Nat.le_of_ble_eq_true rfl) (fun z1 => ?_)
  refine x_bz (fun hb2 => ?_)
  exact x_iret (ty := .boolean) hb2.1 hE hC (zdk dk_X6_readPage 23 rfl)
set_option maxRecDepth 100000 in
def f_X6_readPage (r0 : Nat) (M : Mem) : Option (Int32 × Mem) := Option.bind (zrf M r0 2) fun q3 => (if zI M q3 9 < 6 then Option.bind (f_X6_look r0 M) fun M4 => (if zI M4 r0 6 = (-2) then (if zI M4 r0 11 = (-1) then Option.bind (zrf M4 r0 2) fun q5 => Option.bind (f_X0_hasName q5 (zI M4 r0 10) M4) fun z6 => (if z6.1 = 0 then Option.bind (zrf z6.2 r0 2) fun q7 => Option.bind (zrf z6.2 q7 1) fun q8 => Option.bind (zrf z6.2 r0 2) fun q9 => Option.bind (zld q8 (zI z6.2 q9 9)) fun k10 => Option.bind (some (zsI z6.2 q8 k10 (zI z6.2 r0 10))) fun M11 => Option.bind (zrf M11 r0 2) fun q12 => Option.bind (some (zsI M11 q12 9 ((zI M11 q12 9) + 1))) fun M13 => Option.bind (f_X6_look r0 M13) fun M14 => some (1, M14) else Option.bind (f_X6_failBy r0 2 (zI z6.2 r0 7) z6.2) fun z15 => zbz z15.1 (some (z15.1, z15.2))) else f_X6_readPage_44 r0 M4) else f_X6_readPage_44 r0 M4) else Option.bind (f_X6_failBy r0 6 (zI M r0 7) M) fun z17 => zbz z17.1 (some (z17.1, z17.2)))
set_option maxRecDepth 100000 in
set_option maxHeartbeats 4000000 in
theorem x_X6_readPage {κ : KX} {n : Nat} (hC : CX κ cX6_readPage RX6 1 (some .boolean) 2) (hE : zEnd κ n (0, 0)) (hk0 : zRk κ (0, 0)) (r0 : Nat) (M : Mem) (h_r0 : zO n r0 6) : X κ 1 emI n (0, 0) 0 [.ref r0] [] M (f_X6_readPage r0 M) := by
  unfold f_X6_readPage
  refine x_aload_n (i := 0) rfl hC (zdk dk_X6_readPage 0 rfl) (q := 1) rfl ?_
  refine x_getR (k := 0) fl_RX6_18 rfl h_r0 hC (zdk dk_X6_readPage 1 rfl) (q := 4) rfl (fun q3 hq3 => ?_)
  refine x_getI fl_RX6_166 (by decide) hq3 hC (zdk dk_X6_readPage 2 rfl) (q := 7) rfl ?_
  refine x_bipush (i := 6) c_bipush_6 hC (zdk dk_X6_readPage 3 rfl) (q := 9) rfl ?_
  refine x_icmp_lt (tgt := 23) hC (zdk dk_X6_readPage 4 rfl) (q := 12) rfl rfl (fun _ => ?_) (fun _ => ?_)
  · refine x_aload_n (i := 0) rfl hC (zdk dk_X6_readPage 11 rfl) (q := 24) rfl ?_
    refine x_callVv (as := []) cb_RX6_64 rfl (by decide) hk0 h_r0 (fun x hx => t_X6_look h_r0 x hx) hC (zdk dk_X6_readPage 12 rfl) (q := 27) rfl rfl (Nat.le_of_ble_eq_true rfl) (fun M4 => ?_)
    refine x_aload_n (i := 0) rfl hC (zdk dk_X6_readPage 13 rfl) (q := 28) rfl ?_
    refine x_getI fl_RX6_78 (by decide) h_r0 hC (zdk dk_X6_readPage 14 rfl) (q := 31) rfl ?_
    refine x_bipush (i := (-2)) c_bipush_m2 hC (zdk dk_X6_readPage 15 rfl) (q := 33) rfl ?_
    refine x_icmp_ne (tgt := 44) hC (zdk dk_X6_readPage 16 rfl) (q := 36) rfl rfl (fun _ => ?_) (fun _ => ?_)
    · refine x_weak (L' := [.ref r0]) ⟨Or.inr rfl, trivial⟩ ?_
      exact x_X6_readPage_44 hC hE hk0 h_r0 _
    · refine x_aload_n (i := 0) rfl hC (zdk dk_X6_readPage 17 rfl) (q := 37) rfl ?_
      refine x_getI fl_RX6_94 (by decide) h_r0 hC (zdk dk_X6_readPage 18 rfl) (q := 40) rfl ?_
      refine x_iconst (i := (-1)) c_iconst_m1 hC (zdk dk_X6_readPage 19 rfl) (q := 41) rfl ?_
      refine x_icmp_eq (tgt := 49) hC (zdk dk_X6_readPage 20 rfl) (q := 44) rfl rfl (fun _ => ?_) (fun _ => ?_)
      · refine x_aload_n (i := 0) rfl hC (zdk dk_X6_readPage 24 rfl) (q := 50) rfl ?_
        refine x_getR (k := 0) fl_RX6_18 rfl h_r0 hC (zdk dk_X6_readPage 25 rfl) (q := 53) rfl (fun q5 hq5 => ?_)
        refine x_aload_n (i := 0) rfl hC (zdk dk_X6_readPage 26 rfl) (q := 54) rfl ?_
        refine x_getI fl_RX6_97 (by decide) h_r0 hC (zdk dk_X6_readPage 27 rfl) (q := 57) rfl ?_
        refine x_callVi (as := [.int (zI M4 r0 10)]) cb_RX6_169 rfl (by decide) hk0 hq5 (fun x hx => t_X0_hasName hq5 x hx) hC (zdk dk_X6_readPage 28 rfl) (q := 60) rfl rfl (Nat.le_of_ble_eq_true rfl) (fun z6 => ?_)
        refine x_if_eq (tgt := 73) hC (zdk dk_X6_readPage 29 rfl) (q := 63) rfl rfl (fun _ => ?_) (fun _ => ?_)
        · refine x_aload_n (i := 0) rfl hC (zdk dk_X6_readPage 36 rfl) (q := 74) rfl ?_
          refine x_getR (k := 0) fl_RX6_18 rfl h_r0 hC (zdk dk_X6_readPage 37 rfl) (q := 77) rfl (fun q7 hq7 => ?_)
          refine x_getR (k := 20) fl_RX6_172 rfl hq7 hC (zdk dk_X6_readPage 38 rfl) (q := 80) rfl (fun q8 hq8 => ?_)
          refine x_aload_n (i := 0) rfl hC (zdk dk_X6_readPage 39 rfl) (q := 81) rfl ?_
          refine x_getR (k := 0) fl_RX6_18 rfl h_r0 hC (zdk dk_X6_readPage 40 rfl) (q := 84) rfl (fun q9 hq9 => ?_)
          refine x_getI fl_RX6_166 (by decide) hq9 hC (zdk dk_X6_readPage 41 rfl) (q := 87) rfl ?_
          refine x_aload_n (i := 0) rfl hC (zdk dk_X6_readPage 42 rfl) (q := 88) rfl ?_
          refine x_getI fl_RX6_97 (by decide) h_r0 hC (zdk dk_X6_readPage 43 rfl) (q := 91) rfl ?_
          refine x_iast hq8 hC (zdk dk_X6_readPage 44 rfl) (q := 92) rfl (fun k10 _ => ?_)
          refine x_nmM (fun M11 => ?_)
          refine x_aload_n (i := 0) rfl hC (zdk dk_X6_readPage 45 rfl) (q := 93) rfl ?_
          refine x_getR (k := 0) fl_RX6_18 rfl h_r0 hC (zdk dk_X6_readPage 46 rfl) (q := 96) rfl (fun q12 hq12 => ?_)
          refine x_dup rfl hC (zdk dk_X6_readPage 47 rfl) (q := 97) rfl ?_
          refine x_getI fl_RX6_166 (by decide) hq12 hC (zdk dk_X6_readPage 48 rfl) (q := 100) rfl ?_
          refine x_iconst (i := 1) c_iconst_1 hC (zdk dk_X6_readPage 49 rfl) (q := 101) rfl ?_
          refine x_iadd hC (zdk dk_X6_readPage 50 rfl) (q := 102) rfl ?_
          refine x_putI fl_RX6_166 ⟨rfl, rfl⟩ (by decide) (Or.inl rfl) hq12 hC (zdk dk_X6_readPage 51 rfl) (q := 105) rfl ?_
          refine x_nmM (fun M13 => ?_)
          refine x_aload_n (i := 0) rfl hC (zdk dk_X6_readPage 52 rfl) (q := 106) rfl ?_
          refine x_callVv (as := []) cb_RX6_64 rfl (by decide) hk0 h_r0 (fun x hx => t_X6_look h_r0 x hx) hC (zdk dk_X6_readPage 53 rfl) (q := 109) rfl rfl (Nat.le_of_ble_eq_true rfl) (fun M14 => ?_)
          refine x_iconst (i := 1) c_iconst_1 hC (zdk dk_X6_readPage 54 rfl) (q := 110) rfl ?_
          exact x_iret (ty := .boolean) rfl hE hC (zdk dk_X6_readPage 55 rfl)
        · refine x_aload_n (i := 0) rfl hC (zdk dk_X6_readPage 30 rfl) (q := 64) rfl ?_
          refine x_iconst (i := 2) c_iconst_2 hC (zdk dk_X6_readPage 31 rfl) (q := 65) rfl ?_
          refine x_aload_n (i := 0) rfl hC (zdk dk_X6_readPage 32 rfl) (q := 66) rfl ?_
          refine x_getI fl_RX6_81 (by decide) h_r0 hC (zdk dk_X6_readPage 33 rfl) (q := 69) rfl ?_
          refine x_callVi (as := [.int 2, .int (zI z6.2 r0 7)]) cb_RX6_84 rfl (by decide) hk0 h_r0 (fun x hx => t_X6_failBy h_r0 x hx) hC (zdk dk_X6_readPage 34 rfl) (q := 72) rfl rfl (Nat.le_of_ble_eq_true rfl) (fun z15 => ?_)
          refine x_bz (fun hb16 => ?_)
          exact x_iret (ty := .boolean) hb16.1 hE hC (zdk dk_X6_readPage 35 rfl)
      · refine x_weak (L' := [.ref r0]) ⟨Or.inr rfl, trivial⟩ ?_
        exact x_X6_readPage_44 hC hE hk0 h_r0 _
  · refine x_aload_n (i := 0) rfl hC (zdk dk_X6_readPage 5 rfl) (q := 13) rfl ?_
    refine x_bipush (i := 6) c_bipush_6 hC (zdk dk_X6_readPage 6 rfl) (q := 15) rfl ?_
    refine x_aload_n (i := 0) rfl hC (zdk dk_X6_readPage 7 rfl) (q := 16) rfl ?_
    refine x_getI fl_RX6_81 (by decide) h_r0 hC (zdk dk_X6_readPage 8 rfl) (q := 19) rfl ?_
    refine x_callVi (as := [.int 6, .int (zI M r0 7)]) cb_RX6_84 rfl (by decide) hk0 h_r0 (fun x hx => t_X6_failBy h_r0 x hx) hC (zdk dk_X6_readPage 9 rfl) (q := 22) rfl rfl (Nat.le_of_ble_eq_true rfl) (fun z17 => ?_)
    refine x_bz (fun hb18 => ?_)
    exact x_iret (ty := .boolean) hb18.1 hE hC (zdk dk_X6_readPage 10 rfl)
set_option maxRecDepth 100000 in
set_option maxHeartbeats 4000000 in
theorem t_X6_readPage {n : Nat} {r0 : Nat} {M : Mem} (h_r0 : zO n r0 6) (x : (Int32 × Mem)) (hx : f_X6_readPage r0 M = some x) (l : Launch) (dC : Nat → ClassId) (dI : Nat → Nat → Nat) (b : zSg) : MT l dC dI b yX6_readPage cX6_readPage 1 (some .boolean) 2 0 0 n n [.ref r0] M (emI x).1 (emI x).2 :=
  MT.ofX (by decide +kernel) rfl (Nat.le_of_ble_eq_true rfl) (fun κ hC hF _ => x_X6_readPage hC (zEnd_of hF (Nat.le_refl _) (Nat.le_refl _)) (zRk_of hF (Nat.le_refl _) (Nat.le_refl _)) _ _ h_r0) x hx
set_option maxRecDepth 100000 in
def dt_X6_readSetting : List (Nat × Instr × Nat) := [(0, .aload_n 0, 1), (1, .getfield 94, 3), (4, .istore_n 1, 1), (5, .iload_n 1, 1), (6, .iconst 5, 1), (7, .if_icmp .lt 9, 3), (10, .iload_n 1, 1), (11, .bipush 9, 2), (13, .if_icmp .le 8, 3), (16, .aload_n 0, 1), (17, .invokevirtual 115, 3), (20, .ireturn, 1), (21, .aload_n 0, 1), (22, .invokevirtual 64, 3), (25, .iload_n 1, 1), (26, .tableswitch 155 5 8 #[30, 62, 93, 124], 30), (56, .aload_n 0, 1), (57, .getfield 18, 3), (60, .aload_n 0, 1), (61, .bipush 51, 2), (63, .bipush 99, 2), (65, .invokevirtual 121, 3), (68, .putfield 151, 3), (71, .aload_n 0, 1), (72, .getfield 18, 3), (75, .getfield 151, 3), (78, .iconst (-1), 1), (79, .if_icmp .eq 7, 3), (82, .iconst 1, 1), (83, .goto 4, 3), (86, .iconst 0, 1), (87, .ireturn, 1), (88, .aload_n 0, 1), (89, .getfield 18, 3), (92, .aload_n 0, 1), (93, .iconst 0, 1), (94, .bipush 49, 2), (96, .invokevirtual 121, 3), (99, .putfield 154, 3), (102, .aload_n 0, 1), (103, .getfield 18, 3), (106, .getfield 154, 3), (109, .iconst (-1), 1), (110, .if_icmp .eq 7, 3), (113, .iconst 1, 1), (114, .goto 4, 3), (117, .iconst 0, 1), (118, .ireturn, 1), (119, .aload_n 0, 1), (120, .getfield 18, 3), (123, .aload_n 0, 1), (124, .iconst 1, 1), (125, .bipush 99, 2), (127, .invokevirtual 121, 3), (130, .putfield 157, 3), (133, .aload_n 0, 1), (134, .getfield 18, 3), (137, .getfield 157, 3), (140, .iconst (-1), 1), (141, .if_icmp .eq 7, 3), (144, .iconst 1, 1), (145, .goto 4, 3), (148, .iconst 0, 1), (149, .ireturn, 1), (150, .aload_n 0, 1), (151, .getfield 18, 3), (154, .aload_n 0, 1), (155, .iconst 1, 1), (156, .bipush 20, 2), (158, .invokevirtual 121, 3), (161, .putfield 160, 3), (164, .aload_n 0, 1), (165, .getfield 18, 3), (168, .getfield 160, 3), (171, .iconst (-1), 1), (172, .if_icmp .eq 7, 3), (175, .iconst 1, 1), (176, .goto 4, 3), (179, .iconst 0, 1), (180, .ireturn, 1), (181, .aload_n 0, 1), (182, .getfield 18, 3), (185, .aload_n 0, 1), (186, .iconst 0, 1), (187, .bipush 100, 2), (189, .invokevirtual 121, 3), (192, .putfield 163, 3), (195, .aload_n 0, 1), (196, .getfield 18, 3), (199, .getfield 163, 3), (202, .iconst (-1), 1), (203, .if_icmp .eq 7, 3), (206, .iconst 1, 1), (207, .goto 4, 3), (210, .iconst 0, 1), (211, .ireturn, 1)]
set_option maxRecDepth 100000 in
theorem dk_X6_readSetting : dt_X6_readSetting.all (fun q => decide (decode cX6_readSetting q.1 = .ok q.2)) = true := by decide +kernel
set_option maxRecDepth 100000 in
def f_X6_readSetting_16  (r0 : Nat)  (M : Mem) : Option (Int32 × Mem) := Option.bind (f_X6_failHere r0 M) fun z1 => zbz z1.1 (some (z1.1, z1.2))
set_option maxRecDepth 100000 in
set_option maxHeartbeats 4000000 in
theorem x_X6_readSetting_16 {κ : KX} {n : Nat} (hC : CX κ cX6_readSetting RX6 2 (some .boolean) 3) (hE : zEnd κ n (0, 0)) (hk0 : zRk κ (0, 0)) {r0 : Nat} (h_r0 : zO n r0 6) (M : Mem) : X κ 2 emI n (0, 0) 16 [.ref r0, .null] [] M (f_X6_readSetting_16 r0 M) := by
  unfold f_X6_readSetting_16
  refine x_aload_n (i := 0) rfl hC (zdk dk_X6_readSetting 9 rfl) (q := 17) rfl ?_
  refine x_callVi (as := []) cb_RX6_115 rfl (by decide) hk0 h_r0 (fun x hx => t_X6_failHere h_r0 x hx) hC (zdk dk_X6_readSetting 10 rfl) (q := 20) rfl rfl (Nat.le_of_ble_eq_true rfl) (fun z1 => ?_)
  refine x_bz (fun hb2 => ?_)
  exact x_iret (ty := .boolean) hb2.1 hE hC (zdk dk_X6_readSetting 11 rfl)
set_option maxRecDepth 100000 in
def f_X6_readSetting_180  (r0 : Nat) (s0 : Int32) (M : Mem) : Option (Int32 × Mem) := zbz s0 (some (s0, M))
set_option maxRecDepth 100000 in
set_option maxHeartbeats 4000000 in
theorem x_X6_readSetting_180 {κ : KX} {n : Nat} (hC : CX κ cX6_readSetting RX6 2 (some .boolean) 3) (hE : zEnd κ n (0, 0)) (hk0 : zRk κ (0, 0)) {r0 : Nat} (h_r0 : zO n r0 6) (s0 : Int32) (M : Mem) : X κ 2 emI n (0, 0) 180 [.null, .null] [.int s0] M (f_X6_readSetting_180 r0 s0 M) := by
  unfold f_X6_readSetting_180
  refine x_bz (fun hb3 => ?_)
  exact x_iret (ty := .boolean) hb3.1 hE hC (zdk dk_X6_readSetting 79 rfl)
set_option maxRecDepth 100000 in
def f_X6_readSetting_149  (r0 : Nat) (s0 : Int32) (M : Mem) : Option (Int32 × Mem) := zbz s0 (some (s0, M))
set_option maxRecDepth 100000 in
set_option maxHeartbeats 4000000 in
theorem x_X6_readSetting_149 {κ : KX} {n : Nat} (hC : CX κ cX6_readSetting RX6 2 (some .boolean) 3) (hE : zEnd κ n (0, 0)) (hk0 : zRk κ (0, 0)) {r0 : Nat} (h_r0 : zO n r0 6) (s0 : Int32) (M : Mem) : X κ 2 emI n (0, 0) 149 [.null, .null] [.int s0] M (f_X6_readSetting_149 r0 s0 M) := by
  unfold f_X6_readSetting_149
  refine x_bz (fun hb4 => ?_)
  exact x_iret (ty := .boolean) hb4.1 hE hC (zdk dk_X6_readSetting 63 rfl)
set_option maxRecDepth 100000 in
def f_X6_readSetting_118  (r0 : Nat) (s0 : Int32) (M : Mem) : Option (Int32 × Mem) := zbz s0 (some (s0, M))
set_option maxRecDepth 100000 in
set_option maxHeartbeats 4000000 in
theorem x_X6_readSetting_118 {κ : KX} {n : Nat} (hC : CX κ cX6_readSetting RX6 2 (some .boolean) 3) (hE : zEnd κ n (0, 0)) (hk0 : zRk κ (0, 0)) {r0 : Nat} (h_r0 : zO n r0 6) (s0 : Int32) (M : Mem) : X κ 2 emI n (0, 0) 118 [.null, .null] [.int s0] M (f_X6_readSetting_118 r0 s0 M) := by
  unfold f_X6_readSetting_118
  refine x_bz (fun hb5 => ?_)
  exact x_iret (ty := .boolean) hb5.1 hE hC (zdk dk_X6_readSetting 47 rfl)
set_option maxRecDepth 100000 in
def f_X6_readSetting_87  (r0 : Nat) (s0 : Int32) (M : Mem) : Option (Int32 × Mem) := zbz s0 (some (s0, M))
set_option maxRecDepth 100000 in
set_option maxHeartbeats 4000000 in
theorem x_X6_readSetting_87 {κ : KX} {n : Nat} (hC : CX κ cX6_readSetting RX6 2 (some .boolean) 3) (hE : zEnd κ n (0, 0)) (hk0 : zRk κ (0, 0)) {r0 : Nat} (h_r0 : zO n r0 6) (s0 : Int32) (M : Mem) : X κ 2 emI n (0, 0) 87 [.null, .null] [.int s0] M (f_X6_readSetting_87 r0 s0 M) := by
  unfold f_X6_readSetting_87
  refine x_bz (fun hb6 => ?_)
  exact x_iret (ty := .boolean) hb6.1 hE hC (zdk dk_X6_readSetting 31 rfl)
set_option maxRecDepth 100000 in
def f_X6_readSetting_211  (r0 : Nat) (s0 : Int32) (M : Mem) : Option (Int32 × Mem) := zbz s0 (some (s0, M))
set_option maxRecDepth 100000 in
set_option maxHeartbeats 4000000 in
theorem x_X6_readSetting_211 {κ : KX} {n : Nat} (hC : CX κ cX6_readSetting RX6 2 (some .boolean) 3) (hE : zEnd κ n (0, 0)) (hk0 : zRk κ (0, 0)) {r0 : Nat} (h_r0 : zO n r0 6) (s0 : Int32) (M : Mem) : X κ 2 emI n (0, 0) 211 [.null, .null] [.int s0] M (f_X6_readSetting_211 r0 s0 M) := by
  unfold f_X6_readSetting_211
  refine x_bz (fun hb7 => ?_)
  exact x_iret (ty := .boolean) hb7.1 hE hC (zdk dk_X6_readSetting 95 rfl)
set_option maxRecDepth 100000 in
def f_X6_readSetting (r0 : Nat) (M : Mem) : Option (Int32 × Mem) := (if zI M r0 11 < 5 then f_X6_readSetting_16 r0 M else (if zI M r0 11 ≤ 9 then Option.bind (f_X6_look r0 M) fun M8 => (if zI M r0 11 = 5 then Option.bind (zrf M8 r0 2) fun q10 => Option.bind (f_X6_readNumber r0 51 99 M8) fun z11 => Option.bind (some (zsI z11.2 q10 10 z11.1)) fun M12 => Option.bind (zrf M12 r0 2) fun q13 => (if zI M12 q13 10 = (-1) then f_X6_readSetting_87 r0 0 M12 else f_X6_readSetting_87 r0 1 M12) else if zI M r0 11 = 6 then Option.bind (zrf M8 r0 2) fun q15 => Option.bind (f_X6_readNumber r0 0 49 M8) fun z16 => Option.bind (some (zsI z16.2 q15 11 z16.1)) fun M17 => Option.bind (zrf M17 r0 2) fun q18 => (if zI M17 q18 11 = (-1) then f_X6_readSetting_118 r0 0 M17 else f_X6_readSetting_118 r0 1 M17) else if zI M r0 11 = 7 then Option.bind (zrf M8 r0 2) fun q20 => Option.bind (f_X6_readNumber r0 1 99 M8) fun z21 => Option.bind (some (zsI z21.2 q20 12 z21.1)) fun M22 => Option.bind (zrf M22 r0 2) fun q23 => (if zI M22 q23 12 = (-1) then f_X6_readSetting_149 r0 0 M22 else f_X6_readSetting_149 r0 1 M22) else if zI M r0 11 = 8 then Option.bind (zrf M8 r0 2) fun q25 => Option.bind (f_X6_readNumber r0 1 20 M8) fun z26 => Option.bind (some (zsI z26.2 q25 13 z26.1)) fun M27 => Option.bind (zrf M27 r0 2) fun q28 => (if zI M27 q28 13 = (-1) then f_X6_readSetting_180 r0 0 M27 else f_X6_readSetting_180 r0 1 M27) else Option.bind (zrf M8 r0 2) fun q29 => Option.bind (f_X6_readNumber r0 0 100 M8) fun z30 => Option.bind (some (zsI z30.2 q29 14 z30.1)) fun M31 => Option.bind (zrf M31 r0 2) fun q32 => (if zI M31 q32 14 = (-1) then f_X6_readSetting_211 r0 0 M31 else f_X6_readSetting_211 r0 1 M31)) else f_X6_readSetting_16 r0 M))
set_option maxRecDepth 100000 in
set_option maxHeartbeats 4000000 in
theorem x_X6_readSetting {κ : KX} {n : Nat} (hC : CX κ cX6_readSetting RX6 2 (some .boolean) 3) (hE : zEnd κ n (0, 0)) (hk0 : zRk κ (0, 0)) (r0 : Nat) (M : Mem) (h_r0 : zO n r0 6) : X κ 2 emI n (0, 0) 0 [.ref r0, .null] [] M (f_X6_readSetting r0 M) := by
  unfold f_X6_readSetting
  refine x_aload_n (i := 0) rfl hC (zdk dk_X6_readSetting 0 rfl) (q := 1) rfl ?_
  refine x_getI fl_RX6_94 (by decide) h_r0 hC (zdk dk_X6_readSetting 1 rfl) (q := 4) rfl ?_
  refine x_istore_n (i := 1) (L' := [.ref r0, .int (zI M r0 11)]) (by decide) rfl hC (zdk dk_X6_readSetting 2 rfl) (q := 5) rfl ?_
  refine x_iload_n (i := 1) rfl hC (zdk dk_X6_readSetting 3 rfl) (q := 6) rfl ?_
  refine x_iconst (i := 5) c_iconst_5 hC (zdk dk_X6_readSetting 4 rfl) (q := 7) rfl ?_
  refine x_icmp_lt (tgt := 16) hC (zdk dk_X6_readSetting 5 rfl) (q := 10) rfl rfl (fun _ => ?_) (fun _ => ?_)
  · refine x_weak (L' := [.ref r0, .null]) ⟨Or.inr rfl, Or.inl rfl, trivial⟩ ?_
    exact x_X6_readSetting_16 hC hE hk0 h_r0 _
  · refine x_iload_n (i := 1) rfl hC (zdk dk_X6_readSetting 6 rfl) (q := 11) rfl ?_
    refine x_bipush (i := 9) c_bipush_9 hC (zdk dk_X6_readSetting 7 rfl) (q := 13) rfl ?_
    refine x_icmp_le (tgt := 21) hC (zdk dk_X6_readSetting 8 rfl) (q := 16) rfl rfl (fun _ => ?_) (fun _ => ?_)
    · refine x_aload_n (i := 0) rfl hC (zdk dk_X6_readSetting 12 rfl) (q := 22) rfl ?_
      refine x_callVv (as := []) cb_RX6_64 rfl (by decide) hk0 h_r0 (fun x hx => t_X6_look h_r0 x hx) hC (zdk dk_X6_readSetting 13 rfl) (q := 25) rfl rfl (Nat.le_of_ble_eq_true rfl) (fun M8 => ?_)
      refine x_iload_n (i := 1) rfl hC (zdk dk_X6_readSetting 14 rfl) (q := 26) rfl ?_
      refine x_tsIn (v := 5) (off := 30) (tgt := 56) hC (zdk dk_X6_readSetting 15 rfl) (by decide) ?_ (fun ht9 => ?_)
      · refine x_aload_n (i := 0) rfl hC (zdk dk_X6_readSetting 16 rfl) (q := 57) rfl ?_
        refine x_getR (k := 0) fl_RX6_18 rfl h_r0 hC (zdk dk_X6_readSetting 17 rfl) (q := 60) rfl (fun q10 hq10 => ?_)
        refine x_aload_n (i := 0) rfl hC (zdk dk_X6_readSetting 18 rfl) (q := 61) rfl ?_
        refine x_bipush (i := 51) c_bipush_51 hC (zdk dk_X6_readSetting 19 rfl) (q := 63) rfl ?_
        refine x_bipush (i := 99) c_bipush_99 hC (zdk dk_X6_readSetting 20 rfl) (q := 65) rfl ?_
        refine x_callVi (as := [.int 51, .int 99]) cb_RX6_121 rfl (by decide) hk0 h_r0 (fun x hx => t_X6_readNumber h_r0 x hx) hC (zdk dk_X6_readSetting 21 rfl) (q := 68) rfl rfl (Nat.le_of_ble_eq_true rfl) (fun z11 => ?_)
        refine x_putI fl_RX6_151 ⟨rfl, rfl⟩ (by decide) (Or.inl rfl) hq10 hC (zdk dk_X6_readSetting 22 rfl) (q := 71) rfl ?_
        refine x_nmM (fun M12 => ?_)
        refine x_aload_n (i := 0) rfl hC (zdk dk_X6_readSetting 23 rfl) (q := 72) rfl ?_
        refine x_getR (k := 0) fl_RX6_18 rfl h_r0 hC (zdk dk_X6_readSetting 24 rfl) (q := 75) rfl (fun q13 hq13 => ?_)
        refine x_getI fl_RX6_151 (by decide) hq13 hC (zdk dk_X6_readSetting 25 rfl) (q := 78) rfl ?_
        refine x_iconst (i := (-1)) c_iconst_m1 hC (zdk dk_X6_readSetting 26 rfl) (q := 79) rfl ?_
        refine x_icmp_eq (tgt := 86) hC (zdk dk_X6_readSetting 27 rfl) (q := 82) rfl rfl (fun _ => ?_) (fun _ => ?_)
        · refine x_iconst (i := 0) c_iconst_0 hC (zdk dk_X6_readSetting 30 rfl) (q := 87) rfl ?_
          refine x_weak (L' := [.null, .null]) ⟨Or.inl rfl, Or.inl rfl, trivial⟩ ?_
          exact x_X6_readSetting_87 hC hE hk0 h_r0 _ _
        · refine x_iconst (i := 1) c_iconst_1 hC (zdk dk_X6_readSetting 28 rfl) (q := 83) rfl ?_
          refine x_goto (tgt := 87) hC (zdk dk_X6_readSetting 29 rfl) rfl ?_
          refine x_weak (L' := [.null, .null]) ⟨Or.inl rfl, Or.inl rfl, trivial⟩ ?_
          exact x_X6_readSetting_87 hC hE hk0 h_r0 _ _
      refine x_tsIn (v := 6) (off := 62) (tgt := 88) hC (zdk dk_X6_readSetting 15 rfl) (by decide) ?_ (fun ht14 => ?_)
      · refine x_aload_n (i := 0) rfl hC (zdk dk_X6_readSetting 32 rfl) (q := 89) rfl ?_
        refine x_getR (k := 0) fl_RX6_18 rfl h_r0 hC (zdk dk_X6_readSetting 33 rfl) (q := 92) rfl (fun q15 hq15 => ?_)
        refine x_aload_n (i := 0) rfl hC (zdk dk_X6_readSetting 34 rfl) (q := 93) rfl ?_
        refine x_iconst (i := 0) c_iconst_0 hC (zdk dk_X6_readSetting 35 rfl) (q := 94) rfl ?_
        refine x_bipush (i := 49) c_bipush_49 hC (zdk dk_X6_readSetting 36 rfl) (q := 96) rfl ?_
        refine x_callVi (as := [.int 0, .int 49]) cb_RX6_121 rfl (by decide) hk0 h_r0 (fun x hx => t_X6_readNumber h_r0 x hx) hC (zdk dk_X6_readSetting 37 rfl) (q := 99) rfl rfl (Nat.le_of_ble_eq_true rfl) (fun z16 => ?_)
        refine x_putI fl_RX6_154 ⟨rfl, rfl⟩ (by decide) (Or.inl rfl) hq15 hC (zdk dk_X6_readSetting 38 rfl) (q := 102) rfl ?_
        refine x_nmM (fun M17 => ?_)
        refine x_aload_n (i := 0) rfl hC (zdk dk_X6_readSetting 39 rfl) (q := 103) rfl ?_
        refine x_getR (k := 0) fl_RX6_18 rfl h_r0 hC (zdk dk_X6_readSetting 40 rfl) (q := 106) rfl (fun q18 hq18 => ?_)
        refine x_getI fl_RX6_154 (by decide) hq18 hC (zdk dk_X6_readSetting 41 rfl) (q := 109) rfl ?_
        refine x_iconst (i := (-1)) c_iconst_m1 hC (zdk dk_X6_readSetting 42 rfl) (q := 110) rfl ?_
        refine x_icmp_eq (tgt := 117) hC (zdk dk_X6_readSetting 43 rfl) (q := 113) rfl rfl (fun _ => ?_) (fun _ => ?_)
        · refine x_iconst (i := 0) c_iconst_0 hC (zdk dk_X6_readSetting 46 rfl) (q := 118) rfl ?_
          refine x_weak (L' := [.null, .null]) ⟨Or.inl rfl, Or.inl rfl, trivial⟩ ?_
          exact x_X6_readSetting_118 hC hE hk0 h_r0 _ _
        · refine x_iconst (i := 1) c_iconst_1 hC (zdk dk_X6_readSetting 44 rfl) (q := 114) rfl ?_
          refine x_goto (tgt := 118) hC (zdk dk_X6_readSetting 45 rfl) rfl ?_
          refine x_weak (L' := [.null, .null]) ⟨Or.inl rfl, Or.inl rfl, trivial⟩ ?_
          exact x_X6_readSetting_118 hC hE hk0 h_r0 _ _
      refine x_tsIn (v := 7) (off := 93) (tgt := 119) hC (zdk dk_X6_readSetting 15 rfl) (by decide) ?_ (fun ht19 => ?_)
      · refine x_aload_n (i := 0) rfl hC (zdk dk_X6_readSetting 48 rfl) (q := 120) rfl ?_
        refine x_getR (k := 0) fl_RX6_18 rfl h_r0 hC (zdk dk_X6_readSetting 49 rfl) (q := 123) rfl (fun q20 hq20 => ?_)
        refine x_aload_n (i := 0) rfl hC (zdk dk_X6_readSetting 50 rfl) (q := 124) rfl ?_
        refine x_iconst (i := 1) c_iconst_1 hC (zdk dk_X6_readSetting 51 rfl) (q := 125) rfl ?_
        refine x_bipush (i := 99) c_bipush_99 hC (zdk dk_X6_readSetting 52 rfl) (q := 127) rfl ?_
        refine x_callVi (as := [.int 1, .int 99]) cb_RX6_121 rfl (by decide) hk0 h_r0 (fun x hx => t_X6_readNumber h_r0 x hx) hC (zdk dk_X6_readSetting 53 rfl) (q := 130) rfl rfl (Nat.le_of_ble_eq_true rfl) (fun z21 => ?_)
        refine x_putI fl_RX6_157 ⟨rfl, rfl⟩ (by decide) (Or.inl rfl) hq20 hC (zdk dk_X6_readSetting 54 rfl) (q := 133) rfl ?_
        refine x_nmM (fun M22 => ?_)
        refine x_aload_n (i := 0) rfl hC (zdk dk_X6_readSetting 55 rfl) (q := 134) rfl ?_
        refine x_getR (k := 0) fl_RX6_18 rfl h_r0 hC (zdk dk_X6_readSetting 56 rfl) (q := 137) rfl (fun q23 hq23 => ?_)
        refine x_getI fl_RX6_157 (by decide) hq23 hC (zdk dk_X6_readSetting 57 rfl) (q := 140) rfl ?_
        refine x_iconst (i := (-1)) c_iconst_m1 hC (zdk dk_X6_readSetting 58 rfl) (q := 141) rfl ?_
        refine x_icmp_eq (tgt := 148) hC (zdk dk_X6_readSetting 59 rfl) (q := 144) rfl rfl (fun _ => ?_) (fun _ => ?_)
        · refine x_iconst (i := 0) c_iconst_0 hC (zdk dk_X6_readSetting 62 rfl) (q := 149) rfl ?_
          refine x_weak (L' := [.null, .null]) ⟨Or.inl rfl, Or.inl rfl, trivial⟩ ?_
          exact x_X6_readSetting_149 hC hE hk0 h_r0 _ _
        · refine x_iconst (i := 1) c_iconst_1 hC (zdk dk_X6_readSetting 60 rfl) (q := 145) rfl ?_
          refine x_goto (tgt := 149) hC (zdk dk_X6_readSetting 61 rfl) rfl ?_
          refine x_weak (L' := [.null, .null]) ⟨Or.inl rfl, Or.inl rfl, trivial⟩ ?_
          exact x_X6_readSetting_149 hC hE hk0 h_r0 _ _
      refine x_tsIn (v := 8) (off := 124) (tgt := 150) hC (zdk dk_X6_readSetting 15 rfl) (by decide) ?_ (fun ht24 => ?_)
      · refine x_aload_n (i := 0) rfl hC (zdk dk_X6_readSetting 64 rfl) (q := 151) rfl ?_
        refine x_getR (k := 0) fl_RX6_18 rfl h_r0 hC (zdk dk_X6_readSetting 65 rfl) (q := 154) rfl (fun q25 hq25 => ?_)
        refine x_aload_n (i := 0) rfl hC (zdk dk_X6_readSetting 66 rfl) (q := 155) rfl ?_
        refine x_iconst (i := 1) c_iconst_1 hC (zdk dk_X6_readSetting 67 rfl) (q := 156) rfl ?_
        refine x_bipush (i := 20) c_bipush_20 hC (zdk dk_X6_readSetting 68 rfl) (q := 158) rfl ?_
        refine x_callVi (as := [.int 1, .int 20]) cb_RX6_121 rfl (by decide) hk0 h_r0 (fun x hx => t_X6_readNumber h_r0 x hx) hC (zdk dk_X6_readSetting 69 rfl) (q := 161) rfl rfl (Nat.le_of_ble_eq_true rfl) (fun z26 => ?_)
        refine x_putI fl_RX6_160 ⟨rfl, rfl⟩ (by decide) (Or.inl rfl) hq25 hC (zdk dk_X6_readSetting 70 rfl) (q := 164) rfl ?_
        refine x_nmM (fun M27 => ?_)
        refine x_aload_n (i := 0) rfl hC (zdk dk_X6_readSetting 71 rfl) (q := 165) rfl ?_
        refine x_getR (k := 0) fl_RX6_18 rfl h_r0 hC (zdk dk_X6_readSetting 72 rfl) (q := 168) rfl (fun q28 hq28 => ?_)
        refine x_getI fl_RX6_160 (by decide) hq28 hC (zdk dk_X6_readSetting 73 rfl) (q := 171) rfl ?_
        refine x_iconst (i := (-1)) c_iconst_m1 hC (zdk dk_X6_readSetting 74 rfl) (q := 172) rfl ?_
        refine x_icmp_eq (tgt := 179) hC (zdk dk_X6_readSetting 75 rfl) (q := 175) rfl rfl (fun _ => ?_) (fun _ => ?_)
        · refine x_iconst (i := 0) c_iconst_0 hC (zdk dk_X6_readSetting 78 rfl) (q := 180) rfl ?_
          refine x_weak (L' := [.null, .null]) ⟨Or.inl rfl, Or.inl rfl, trivial⟩ ?_
          exact x_X6_readSetting_180 hC hE hk0 h_r0 _ _
        · refine x_iconst (i := 1) c_iconst_1 hC (zdk dk_X6_readSetting 76 rfl) (q := 176) rfl ?_
          refine x_goto (tgt := 180) hC (zdk dk_X6_readSetting 77 rfl) rfl ?_
          refine x_weak (L' := [.null, .null]) ⟨Or.inl rfl, Or.inl rfl, trivial⟩ ?_
          exact x_X6_readSetting_180 hC hE hk0 h_r0 _ _
      refine x_tsOut (tgt := 181) [5, 6, 7, 8] hC (zdk dk_X6_readSetting 15 rfl) (List.forall_mem_cons.2 ⟨ht9, (List.forall_mem_cons.2 ⟨ht14, (List.forall_mem_cons.2 ⟨ht19, (List.forall_mem_cons.2 ⟨ht24, (fun _ h => absurd h List.not_mem_nil)⟩)⟩)⟩)⟩) (by decide) rfl ?_
      refine x_aload_n (i := 0) rfl hC (zdk dk_X6_readSetting 80 rfl) (q := 182) rfl ?_
      refine x_getR (k := 0) fl_RX6_18 rfl h_r0 hC (zdk dk_X6_readSetting 81 rfl) (q := 185) rfl (fun q29 hq29 => ?_)
      refine x_aload_n (i := 0) rfl hC (zdk dk_X6_readSetting 82 rfl) (q := 186) rfl ?_
      refine x_iconst (i := 0) c_iconst_0 hC (zdk dk_X6_readSetting 83 rfl) (q := 187) rfl ?_
      refine x_bipush (i := 100) c_bipush_100 hC (zdk dk_X6_readSetting 84 rfl) (q := 189) rfl ?_
      refine x_callVi (as := [.int 0, .int 100]) cb_RX6_121 rfl (by decide) hk0 h_r0 (fun x hx => t_X6_readNumber h_r0 x hx) hC (zdk dk_X6_readSetting 85 rfl) (q := 192) rfl rfl (Nat.le_of_ble_eq_true rfl) (fun z30 => ?_)
      refine x_putI fl_RX6_163 ⟨rfl, rfl⟩ (by decide) (Or.inl rfl) hq29 hC (zdk dk_X6_readSetting 86 rfl) (q := 195) rfl ?_
      refine x_nmM (fun M31 => ?_)
      refine x_aload_n (i := 0) rfl hC (zdk dk_X6_readSetting 87 rfl) (q := 196) rfl ?_
      refine x_getR (k := 0) fl_RX6_18 rfl h_r0 hC (zdk dk_X6_readSetting 88 rfl) (q := 199) rfl (fun q32 hq32 => ?_)
      refine x_getI fl_RX6_163 (by decide) hq32 hC (zdk dk_X6_readSetting 89 rfl) (q := 202) rfl ?_
      refine x_iconst (i := (-1)) c_iconst_m1 hC (zdk dk_X6_readSetting 90 rfl) (q := 203) rfl ?_
      refine x_icmp_eq (tgt := 210) hC (zdk dk_X6_readSetting 91 rfl) (q := 206) rfl rfl (fun _ => ?_) (fun _ => ?_)
      · refine x_iconst (i := 0) c_iconst_0 hC (zdk dk_X6_readSetting 94 rfl) (q := 211) rfl ?_
        refine x_weak (L' := [.null, .null]) ⟨Or.inl rfl, Or.inl rfl, trivial⟩ ?_
        exact x_X6_readSetting_211 hC hE hk0 h_r0 _ _
      · refine x_iconst (i := 1) c_iconst_1 hC (zdk dk_X6_readSetting 92 rfl) (q := 207) rfl ?_
        refine x_goto (tgt := 211) hC (zdk dk_X6_readSetting 93 rfl) rfl ?_
        refine x_weak (L' := [.null, .null]) ⟨Or.inl rfl, Or.inl rfl, trivial⟩ ?_
        exact x_X6_readSetting_211 hC hE hk0 h_r0 _ _
    · refine x_weak (L' := [.ref r0, .null]) ⟨Or.inr rfl, Or.inl rfl, trivial⟩ ?_
      exact x_X6_readSetting_16 hC hE hk0 h_r0 _
set_option maxRecDepth 100000 in
set_option maxHeartbeats 4000000 in
theorem t_X6_readSetting {n : Nat} {r0 : Nat} {M : Mem} (h_r0 : zO n r0 6) (x : (Int32 × Mem)) (hx : f_X6_readSetting r0 M = some x) (l : Launch) (dC : Nat → ClassId) (dI : Nat → Nat → Nat) (b : zSg) : MT l dC dI b yX6_readSetting cX6_readSetting 2 (some .boolean) 3 0 0 n n [.ref r0] M (emI x).1 (emI x).2 :=
  MT.ofX (by decide +kernel) rfl (Nat.le_of_ble_eq_true rfl) (fun κ hC hF _ => x_X6_readSetting hC (zEnd_of hF (Nat.le_refl _) (Nat.le_refl _)) (zRk_of hF (Nat.le_refl _) (Nat.le_refl _)) _ _ h_r0) x hx
