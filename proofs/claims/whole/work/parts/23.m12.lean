set_option maxRecDepth 100000 in
def dt_X12_generator : List (Nat × Instr × Nat) := [(0, .aload_n 0, 1), (1, .getfield 120, 3), (4, .ifCond .eq 25, 3), (7, .iload_n 1, 1), (8, .iconst 0, 1), (9, .bipush 62, 2), (11, .invokestatic 325, 3), (14, .ifCond .eq 15, 3), (17, .aload_n 0, 1), (18, .getfield 138, 3), (21, .iload_n 1, 1), (22, .lshr, 1), (23, .lconst 1, 1), (24, .land, 1), (25, .l2i, 1), (26, .goto 4, 3), (29, .iconst (-1), 1), (30, .ireturn, 1)]
set_option maxRecDepth 100000 in
theorem dk_X12_generator : dt_X12_generator.all (fun q => decide (decode cX12_generator q.1 = .ok q.2)) = true := by decide +kernel
set_option maxRecDepth 100000 in
def f_X12_generator_30  (r0 : Nat) (x1 : Int32) (s0 : Int32) (M : Mem) : Option (Int32 × Mem) := some (s0, M)
set_option maxRecDepth 100000 in
set_option maxHeartbeats 4000000 in
theorem x_X12_generator_30 {κ : KX} {n : Nat} (hC : CX κ cX12_generator RX12 2 (some .int) 1) (hE : zEnd κ n (0, 0)) (hk0 : zRk κ (0, 0)) {r0 : Nat} {x1 : Int32} (h_r0 : zO n r0 12) (s0 : Int32) (M : Mem) : X κ 2 emI n (0, 0) 30 [.null, .null] [.int s0] M (f_X12_generator_30 r0 x1 s0 M) := by
  unfold f_X12_generator_30
  exact x_iret (ty := .int) rfl hE hC (zdk dk_X12_generator 17 rfl)
set_option maxRecDepth 100000 in
def f_X12_generator_29  (r0 : Nat) (x1 : Int32)  (M : Mem) : Option (Int32 × Mem) := f_X12_generator_30 r0 x1 ((-1)) M
set_option maxRecDepth 100000 in
set_option maxHeartbeats 4000000 in
theorem x_X12_generator_29 {κ : KX} {n : Nat} (hC : CX κ cX12_generator RX12 2 (some .int) 1) (hE : zEnd κ n (0, 0)) (hk0 : zRk κ (0, 0)) {r0 : Nat} {x1 : Int32} (h_r0 : zO n r0 12) (M : Mem) : X κ 2 emI n (0, 0) 29 [.null, .null] [] M (f_X12_generator_29 r0 x1 M) := by
  unfold f_X12_generator_29
  refine x_iconst (i := (-1)) c_iconst_m1 hC (zdk dk_X12_generator 16 rfl) (q := 30) rfl ?_
  refine x_weak (L' := [.null, .null]) ⟨Or.inl rfl, Or.inl rfl, trivial⟩ ?_
  exact x_X12_generator_30 hC hE hk0 h_r0 _ _
set_option maxRecDepth 100000 in
def f_X12_generator (r0 : Nat) (x1 : Int32) (M : Mem) : Option (Int32 × Mem) := (if zI M r0 35 = 0 then f_X12_generator_29 r0 x1 M else Option.bind (f_X12_is x1 0 62 M) fun z1 => (if z1.1 = 0 then f_X12_generator_29 r0 x1 z1.2 else f_X12_generator_30 r0 x1 ((((zL z1.2 r0 41) >>> (x1.toInt64 &&& 63)) &&& 1).toInt32) z1.2))
set_option maxRecDepth 100000 in
set_option maxHeartbeats 4000000 in
theorem x_X12_generator {κ : KX} {n : Nat} (hC : CX κ cX12_generator RX12 2 (some .int) 1) (hE : zEnd κ n (0, 0)) (hk0 : zRk κ (0, 0)) (r0 : Nat) (x1 : Int32) (M : Mem) (h_r0 : zO n r0 12) : X κ 2 emI n (0, 0) 0 [.ref r0, .int x1] [] M (f_X12_generator r0 x1 M) := by
  unfold f_X12_generator
  refine x_aload_n (i := 0) rfl hC (zdk dk_X12_generator 0 rfl) (q := 1) rfl ?_
  refine x_getI fl_RX12_120 (by decide) h_r0 hC (zdk dk_X12_generator 1 rfl) (q := 4) rfl ?_
  refine x_if_eq (tgt := 29) hC (zdk dk_X12_generator 2 rfl) (q := 7) rfl rfl (fun _ => ?_) (fun _ => ?_)
  · refine x_weak (L' := [.null, .null]) ⟨Or.inl rfl, Or.inl rfl, trivial⟩ ?_
    exact x_X12_generator_29 hC hE hk0 h_r0 _
  · refine x_iload_n (i := 1) rfl hC (zdk dk_X12_generator 3 rfl) (q := 8) rfl ?_
    refine x_iconst (i := 0) c_iconst_0 hC (zdk dk_X12_generator 4 rfl) (q := 9) rfl ?_
    refine x_bipush (i := 62) c_bipush_62 hC (zdk dk_X12_generator 5 rfl) (q := 11) rfl ?_
    refine x_callSi (as := [.int x1, .int 0, .int 62]) cb_RX12_325 rfl (by decide) hk0 (fun x hx => t_X12_is  x hx) hC (zdk dk_X12_generator 6 rfl) (q := 14) rfl rfl (Nat.le_of_ble_eq_true rfl) (fun z1 => ?_)
    refine x_if_eq (tgt := 29) hC (zdk dk_X12_generator 7 rfl) (q := 17) rfl rfl (fun _ => ?_) (fun _ => ?_)
    · refine x_weak (L' := [.null, .null]) ⟨Or.inl rfl, Or.inl rfl, trivial⟩ ?_
      exact x_X12_generator_29 hC hE hk0 h_r0 _
    · refine x_aload_n (i := 0) rfl hC (zdk dk_X12_generator 8 rfl) (q := 18) rfl ?_
      refine x_getL fl_RX12_138 h_r0 hC (zdk dk_X12_generator 9 rfl) (q := 21) rfl ?_
      refine x_iload_n (i := 1) rfl hC (zdk dk_X12_generator 10 rfl) (q := 22) rfl ?_
      refine x_lshr hC (zdk dk_X12_generator 11 rfl) (q := 23) rfl ?_
      refine x_lconst (i := 1) c_lconst_1 hC (zdk dk_X12_generator 12 rfl) (q := 24) rfl ?_
      refine x_land hC (zdk dk_X12_generator 13 rfl) (q := 25) rfl ?_
      refine x_l2i hC (zdk dk_X12_generator 14 rfl) (q := 26) rfl ?_
      refine x_goto (tgt := 30) hC (zdk dk_X12_generator 15 rfl) rfl ?_
      refine x_weak (L' := [.null, .null]) ⟨Or.inl rfl, Or.inl rfl, trivial⟩ ?_
      exact x_X12_generator_30 hC hE hk0 h_r0 _ _
set_option maxRecDepth 100000 in
set_option maxHeartbeats 4000000 in
theorem t_X12_generator {n : Nat} {r0 : Nat} {x1 : Int32} {M : Mem} (h_r0 : zO n r0 12) (x : (Int32 × Mem)) (hx : f_X12_generator r0 x1 M = some x) (l : Launch) (dC : Nat → ClassId) (dI : Nat → Nat → Nat) (b : zSg) : MT l dC dI b yX12_generator cX12_generator 2 (some .int) 1 0 0 n n [.ref r0, .int x1] M (emI x).1 (emI x).2 :=
  MT.ofX (by decide +kernel) rfl (Nat.le_of_ble_eq_true rfl) (fun κ hC hF _ => x_X12_generator hC (zEnd_of hF (Nat.le_refl _) (Nat.le_refl _)) (zRk_of hF (Nat.le_refl _) (Nat.le_refl _)) _ _ _ h_r0) x hx
set_option maxRecDepth 100000 in
def dt_X12_left : List (Nat × Instr × Nat) := [(0, .lload_n 1, 1), (1, .lstore_n 3, 1), (2, .bipush 62, 2), (4, .istore 5, 2), (6, .iload 5, 2), (8, .aload_n 0, 1), (9, .getfield 129, 3), (12, .if_icmp .lt 35, 3), (15, .lload_n 3, 1), (16, .iload 5, 2), (18, .lshr, 1), (19, .lconst 1, 1), (20, .land, 1), (21, .lconst 1, 1), (22, .lcmp, 1), (23, .ifCond .ne 18, 3), (26, .lload_n 3, 1), (27, .aload_n 0, 1), (28, .getfield 138, 3), (31, .iload 5, 2), (33, .aload_n 0, 1), (34, .getfield 129, 3), (37, .isub, 1), (38, .lshl, 1), (39, .lxor, 1), (40, .lstore_n 3, 1), (41, .iinc 5 (-1), 3), (44, .goto (-38), 3), (47, .lload_n 3, 1), (48, .lreturn, 1)]
set_option maxRecDepth 100000 in
theorem dk_X12_left : dt_X12_left.all (fun q => decide (decode cX12_left q.1 = .ok q.2)) = true := by decide +kernel
set_option maxRecDepth 100000 in
def f_X12_left_41 (k6 : Int64 → Int32 → Mem → Option (Int64 × Mem)) (r0 : Nat) (y1 : Int64) (y3 : Int64) (x5 : Int32) (M : Mem) : Option (Int64 × Mem) := k6 y3 (x5 + (-1)) M
set_option maxRecDepth 100000 in
set_option maxHeartbeats 4000000 in
theorem x_X12_left_41 {κ : KX} {n : Nat} (hC : CX κ cX12_left RX12 6 (some .long) 0) (hE : zEnd κ n (0, 0)) (hk0 : zRk κ (0, 0)) {r0 : Nat} {y1 : Int64} (h_r0 : zO n r0 12) (k6 : Int64 → Int32 → Mem → Option (Int64 × Mem)) (hk6 : ∀ (y3 : Int64) (x5 : Int32) (M : Mem), X κ 6 emL n (0, 0) 6 [.ref r0, .null, .null, .long y3, .null, .int x5] [] M (k6 y3 x5 M)) (y3 : Int64) (x5 : Int32) (M : Mem) : X κ 6 emL n (0, 0) 41 [.ref r0, .null, .null, .long y3, .null, .int x5] [] M (f_X12_left_41 k6 r0 y1 y3 x5 M) := by
  unfold f_X12_left_41
  refine x_iinc (i := 5) c_iconst_m1 rfl (by decide) (L' := [.ref r0, .null, .null, .long y3, .null, .int (x5 + (-1))]) rfl hC (zdk dk_X12_left 26 rfl) (q := 44) rfl ?_
  refine x_goto (tgt := 6) hC (zdk dk_X12_left 27 rfl) rfl ?_
  refine x_weak (L' := [.ref r0, .null, .null, .long y3, .null, .int (x5 + (-1))]) ⟨Or.inr rfl, Or.inl rfl, Or.inl rfl, Or.inr rfl, Or.inl rfl, Or.inr rfl, trivial⟩ ?_
  exact hk6 _ _ _
set_option maxRecDepth 100000 in
def f_X12_left_6  (r0 : Nat) (y1 : Int64) : Nat → Int64 → Int32 → Mem → Option (Int64 × Mem)
  | 0, _, _, _ => none
  | f + 1, y3, x5, M => (if x5 < zI M r0 38 then some (y3, M) else (if lg_cmp ((y3 >>> (x5.toInt64 &&& 63)) &&& 1) 1 = 0 then Option.bind (some (y3 ^^^ ((zL M r0 41) <<< ((x5 - (zI M r0 38)).toInt64 &&& 63)))) fun (v1 : Int64) => f_X12_left_41 (f_X12_left_6 r0 y1 f) r0 y1 v1 x5 M else f_X12_left_41 (f_X12_left_6 r0 y1 f) r0 y1 y3 x5 M))
set_option maxRecDepth 100000 in
set_option maxHeartbeats 4000000 in
theorem x_X12_left_6 {κ : KX} {n : Nat} (hC : CX κ cX12_left RX12 6 (some .long) 0) (hE : zEnd κ n (0, 0)) (hk0 : zRk κ (0, 0)) {r0 : Nat} {y1 : Int64} (h_r0 : zO n r0 12) : ∀ (f : Nat) (y3 : Int64) (x5 : Int32) (M : Mem), X κ 6 emL n (0, 0) 6 [.ref r0, .null, .null, .long y3, .null, .int x5] [] M (f_X12_left_6 r0 y1 f y3 x5 M) := by
  intro f
  induction f with
  | zero => intros; exact x_none
  | succ f ih =>
    intro y3 x5 M 
    rw [f_X12_left_6]
    refine x_iload (i := 5) rfl hC (zdk dk_X12_left 4 rfl) (q := 8) rfl ?_
    refine x_aload_n (i := 0) rfl hC (zdk dk_X12_left 5 rfl) (q := 9) rfl ?_
    refine x_getI fl_RX12_129 (by decide) h_r0 hC (zdk dk_X12_left 6 rfl) (q := 12) rfl ?_
    refine x_icmp_lt (tgt := 47) hC (zdk dk_X12_left 7 rfl) (q := 15) rfl rfl (fun _ => ?_) (fun _ => ?_)
    · refine x_lload_n (i := 3) rfl hC (zdk dk_X12_left 28 rfl) (q := 48) rfl ?_
      exact x_lret hE hC (zdk dk_X12_left 29 rfl)
    · refine x_lload_n (i := 3) rfl hC (zdk dk_X12_left 8 rfl) (q := 16) rfl ?_
      refine x_iload (i := 5) rfl hC (zdk dk_X12_left 9 rfl) (q := 18) rfl ?_
      refine x_lshr hC (zdk dk_X12_left 10 rfl) (q := 19) rfl ?_
      refine x_lconst (i := 1) c_lconst_1 hC (zdk dk_X12_left 11 rfl) (q := 20) rfl ?_
      refine x_land hC (zdk dk_X12_left 12 rfl) (q := 21) rfl ?_
      refine x_lconst (i := 1) c_lconst_1 hC (zdk dk_X12_left 13 rfl) (q := 22) rfl ?_
      refine x_lcmp hC (zdk dk_X12_left 14 rfl) (q := 23) rfl ?_
      refine x_if_ne (tgt := 41) hC (zdk dk_X12_left 15 rfl) (q := 26) rfl rfl (fun _ => ?_) (fun _ => ?_)
      · refine x_weak (L' := [.ref r0, .null, .null, .long y3, .null, .int x5]) ⟨Or.inr rfl, Or.inl rfl, Or.inl rfl, Or.inr rfl, Or.inl rfl, Or.inr rfl, trivial⟩ ?_
        exact x_X12_left_41 hC hE hk0 h_r0 (f_X12_left_6 r0 y1 f) ih _ _ _
      · refine x_lload_n (i := 3) rfl hC (zdk dk_X12_left 16 rfl) (q := 27) rfl ?_
        refine x_aload_n (i := 0) rfl hC (zdk dk_X12_left 17 rfl) (q := 28) rfl ?_
        refine x_getL fl_RX12_138 h_r0 hC (zdk dk_X12_left 18 rfl) (q := 31) rfl ?_
        refine x_iload (i := 5) rfl hC (zdk dk_X12_left 19 rfl) (q := 33) rfl ?_
        refine x_aload_n (i := 0) rfl hC (zdk dk_X12_left 20 rfl) (q := 34) rfl ?_
        refine x_getI fl_RX12_129 (by decide) h_r0 hC (zdk dk_X12_left 21 rfl) (q := 37) rfl ?_
        refine x_isub hC (zdk dk_X12_left 22 rfl) (q := 38) rfl ?_
        refine x_lshl hC (zdk dk_X12_left 23 rfl) (q := 39) rfl ?_
        refine x_lxor hC (zdk dk_X12_left 24 rfl) (q := 40) rfl ?_
        refine x_lstore_n (i := 3) (L' := [.ref r0, .null, .null, .long (y3 ^^^ ((zL M r0 41) <<< ((x5 - (zI M r0 38)).toInt64 &&& 63))), .null, .int x5]) (by decide) rfl hC (zdk dk_X12_left 25 rfl) (q := 41) rfl ?_
        refine x_nmJ (fun v1 => [.ref r0, .null, .null, .long v1, .null, .int x5]) rfl (fun v1 => ?_)
        refine x_weak (L' := [.ref r0, .null, .null, .long v1, .null, .int x5]) ⟨Or.inr rfl, Or.inl rfl, Or.inl rfl, Or.inr rfl, Or.inl rfl, Or.inr rfl, trivial⟩ ?_
        exact x_X12_left_41 hC hE hk0 h_r0 (f_X12_left_6 r0 y1 f) ih _ _ _
set_option maxRecDepth 100000 in
def f_X12_left (r0 : Nat) (y1 : Int64) (M : Mem) : Option (Int64 × Mem) := f_X12_left_6 r0 y1 1000000 y1 62 M
set_option maxRecDepth 100000 in
set_option maxHeartbeats 4000000 in
theorem x_X12_left {κ : KX} {n : Nat} (hC : CX κ cX12_left RX12 6 (some .long) 0) (hE : zEnd κ n (0, 0)) (hk0 : zRk κ (0, 0)) (r0 : Nat) (y1 : Int64) (M : Mem) (h_r0 : zO n r0 12) : X κ 6 emL n (0, 0) 0 [.ref r0, .long y1, .null, .null, .null, .null] [] M (f_X12_left r0 y1 M) := by
  unfold f_X12_left
  refine x_lload_n (i := 1) rfl hC (zdk dk_X12_left 0 rfl) (q := 1) rfl ?_
  refine x_lstore_n (i := 3) (L' := [.ref r0, .long y1, .null, .long y1, .null, .null]) (by decide) rfl hC (zdk dk_X12_left 1 rfl) (q := 2) rfl ?_
  refine x_bipush (i := 62) c_bipush_62 hC (zdk dk_X12_left 2 rfl) (q := 4) rfl ?_
  refine x_istore (i := 5) (L' := [.ref r0, .long y1, .null, .long y1, .null, .int 62]) (by decide) rfl hC (zdk dk_X12_left 3 rfl) (q := 6) rfl ?_
  refine x_weak (L' := [.ref r0, .null, .null, .long y1, .null, .int 62]) ⟨Or.inr rfl, Or.inl rfl, Or.inl rfl, Or.inr rfl, Or.inl rfl, Or.inr rfl, trivial⟩ ?_
  exact x_X12_left_6 hC hE hk0 h_r0 _ _ _ _
set_option maxRecDepth 100000 in
set_option maxHeartbeats 4000000 in
theorem t_X12_left {n : Nat} {r0 : Nat} {y1 : Int64} {M : Mem} (h_r0 : zO n r0 12) (x : (Int64 × Mem)) (hx : f_X12_left r0 y1 M = some x) (l : Launch) (dC : Nat → ClassId) (dI : Nat → Nat → Nat) (b : zSg) : MT l dC dI b yX12_left cX12_left 6 (some .long) 0 0 0 n n [.ref r0, .long y1] M (emL x).1 (emL x).2 :=
  MT.ofX (by decide +kernel) rfl (Nat.le_of_ble_eq_true rfl) (fun κ hC hF _ => x_X12_left hC (zEnd_of hF (Nat.le_refl _) (Nat.le_refl _)) (zRk_of hF (Nat.le_refl _) (Nat.le_refl _)) _ _ _ h_r0) x hx
set_option maxRecDepth 100000 in
def dt_X12_wordOf : List (Nat × Instr × Nat) := [(0, .lload_n 1, 1), (1, .aload_n 0, 1), (2, .getfield 129, 3), (5, .lshl, 1), (6, .lstore_n 3, 1), (7, .lload_n 3, 1), (8, .aload_n 0, 1), (9, .lload_n 3, 1), (10, .invokevirtual 441, 3), (13, .lor, 1), (14, .lreturn, 1)]
set_option maxRecDepth 100000 in
theorem dk_X12_wordOf : dt_X12_wordOf.all (fun q => decide (decode cX12_wordOf q.1 = .ok q.2)) = true := by decide +kernel
set_option maxRecDepth 100000 in
def f_X12_wordOf (r0 : Nat) (y1 : Int64) (M : Mem) : Option (Int64 × Mem) := Option.bind (f_X12_left r0 (y1 <<< ((zI M r0 38).toInt64 &&& 63)) M) fun z1 => some ((y1 <<< ((zI M r0 38).toInt64 &&& 63)) ||| z1.1, z1.2)
set_option maxRecDepth 100000 in
set_option maxHeartbeats 4000000 in
theorem x_X12_wordOf {κ : KX} {n : Nat} (hC : CX κ cX12_wordOf RX12 5 (some .long) 1) (hE : zEnd κ n (0, 0)) (hk0 : zRk κ (0, 0)) (r0 : Nat) (y1 : Int64) (M : Mem) (h_r0 : zO n r0 12) : X κ 5 emL n (0, 0) 0 [.ref r0, .long y1, .null, .null, .null] [] M (f_X12_wordOf r0 y1 M) := by
  unfold f_X12_wordOf
  refine x_lload_n (i := 1) rfl hC (zdk dk_X12_wordOf 0 rfl) (q := 1) rfl ?_
  refine x_aload_n (i := 0) rfl hC (zdk dk_X12_wordOf 1 rfl) (q := 2) rfl ?_
  refine x_getI fl_RX12_129 (by decide) h_r0 hC (zdk dk_X12_wordOf 2 rfl) (q := 5) rfl ?_
  refine x_lshl hC (zdk dk_X12_wordOf 3 rfl) (q := 6) rfl ?_
  refine x_lstore_n (i := 3) (L' := [.ref r0, .long y1, .null, .long (y1 <<< ((zI M r0 38).toInt64 &&& 63)), .null]) (by decide) rfl hC (zdk dk_X12_wordOf 4 rfl) (q := 7) rfl ?_
  refine x_lload_n (i := 3) rfl hC (zdk dk_X12_wordOf 5 rfl) (q := 8) rfl ?_
  refine x_aload_n (i := 0) rfl hC (zdk dk_X12_wordOf 6 rfl) (q := 9) rfl ?_
  refine x_lload_n (i := 3) rfl hC (zdk dk_X12_wordOf 7 rfl) (q := 10) rfl ?_
  refine x_callVl (as := [.long (y1 <<< ((zI M r0 38).toInt64 &&& 63))]) cb_RX12_441 rfl (by decide) hk0 h_r0 (fun x hx => t_X12_left h_r0 x hx) hC (zdk dk_X12_wordOf 8 rfl) (q := 13) rfl rfl (Nat.le_of_ble_eq_true rfl) (fun z1 => ?_)
  refine x_lor hC (zdk dk_X12_wordOf 9 rfl) (q := 14) rfl ?_
  exact x_lret hE hC (zdk dk_X12_wordOf 10 rfl)
set_option maxRecDepth 100000 in
set_option maxHeartbeats 4000000 in
theorem t_X12_wordOf {n : Nat} {r0 : Nat} {y1 : Int64} {M : Mem} (h_r0 : zO n r0 12) (x : (Int64 × Mem)) (hx : f_X12_wordOf r0 y1 M = some x) (l : Launch) (dC : Nat → ClassId) (dI : Nat → Nat → Nat) (b : zSg) : MT l dC dI b yX12_wordOf cX12_wordOf 5 (some .long) 1 0 0 n n [.ref r0, .long y1] M (emL x).1 (emL x).2 :=
  MT.ofX (by decide +kernel) rfl (Nat.le_of_ble_eq_true rfl) (fun κ hC hF _ => x_X12_wordOf hC (zEnd_of hF (Nat.le_refl _) (Nat.le_refl _)) (zRk_of hF (Nat.le_refl _) (Nat.le_refl _)) _ _ _ h_r0) x hx
set_option maxRecDepth 100000 in
def dt_X12_isData : List (Nat × Instr × Nat) := [(0, .aload_n 0, 1), (1, .getfield 120, 3), (4, .ifCond .eq 40, 3), (7, .iload_n 1, 1), (8, .ifCond .lt 36, 3), (11, .iload_n 2, 1), (12, .iconst 0, 1), (13, .ldc_w 445, 3), (16, .invokestatic 325, 3), (19, .ifCond .eq 25, 3), (22, .iload_n 1, 1), (23, .i2l, 1), (24, .bipush 30, 2), (26, .lshl, 1), (27, .iload_n 2, 1), (28, .i2l, 1), (29, .lor, 1), (30, .aload_n 0, 1), (31, .getfield 135, 3), (34, .lshr, 1), (35, .lconst 0, 1), (36, .lcmp, 1), (37, .ifCond .ne 7, 3), (40, .iconst 1, 1), (41, .goto 4, 3), (44, .iconst 0, 1), (45, .ireturn, 1)]
set_option maxRecDepth 100000 in
theorem dk_X12_isData : dt_X12_isData.all (fun q => decide (decode cX12_isData q.1 = .ok q.2)) = true := by decide +kernel
set_option maxRecDepth 100000 in
def f_X12_isData_45  (r0 : Nat) (x1 : Int32) (x2 : Int32) (s0 : Int32) (M : Mem) : Option (Int32 × Mem) := zbz s0 (some (s0, M))
set_option maxRecDepth 100000 in
set_option maxHeartbeats 4000000 in
theorem x_X12_isData_45 {κ : KX} {n : Nat} (hC : CX κ cX12_isData RX12 3 (some .boolean) 1) (hE : zEnd κ n (0, 0)) (hk0 : zRk κ (0, 0)) {r0 : Nat} {x1 : Int32} {x2 : Int32} (h_r0 : zO n r0 12) (s0 : Int32) (M : Mem) : X κ 3 emI n (0, 0) 45 [.null, .null, .null] [.int s0] M (f_X12_isData_45 r0 x1 x2 s0 M) := by
  unfold f_X12_isData_45
  refine x_bz (fun hb1 => ?_)
  exact x_iret (ty := .boolean) hb1.1 hE hC (zdk dk_X12_isData 26 rfl)
set_option maxRecDepth 100000 in
def f_X12_isData_44  (r0 : Nat) (x1 : Int32) (x2 : Int32)  (M : Mem) : Option (Int32 × Mem) := f_X12_isData_45 r0 x1 x2 0 M
set_option maxRecDepth 100000 in
set_option maxHeartbeats 4000000 in
theorem x_X12_isData_44 {κ : KX} {n : Nat} (hC : CX κ cX12_isData RX12 3 (some .boolean) 1) (hE : zEnd κ n (0, 0)) (hk0 : zRk κ (0, 0)) {r0 : Nat} {x1 : Int32} {x2 : Int32} (h_r0 : zO n r0 12) (M : Mem) : X κ 3 emI n (0, 0) 44 [.null, .null, .null] [] M (f_X12_isData_44 r0 x1 x2 M) := by
  unfold f_X12_isData_44
  refine x_iconst (i := 0) c_iconst_0 hC (zdk dk_X12_isData 25 rfl) (q := 45) rfl ?_
  refine x_weak (L' := [.null, .null, .null]) ⟨Or.inl rfl, Or.inl rfl, Or.inl rfl, trivial⟩ ?_
  exact x_X12_isData_45 hC hE hk0 h_r0 _ _
set_option maxRecDepth 100000 in
def f_X12_isData (r0 : Nat) (x1 : Int32) (x2 : Int32) (M : Mem) : Option (Int32 × Mem) := (if zI M r0 35 = 0 then f_X12_isData_44 r0 x1 x2 M else (if x1 < 0 then f_X12_isData_44 r0 x1 x2 M else Option.bind (f_X12_is x2 0 1073741823 M) fun z2 => (if z2.1 = 0 then f_X12_isData_44 r0 x1 x2 z2.2 else (if lg_cmp (((x1.toInt64 <<< ((30 : Int32).toInt64 &&& 63)) ||| x2.toInt64) >>> ((zI z2.2 r0 40).toInt64 &&& 63)) 0 = 0 then f_X12_isData_45 r0 x1 x2 1 z2.2 else f_X12_isData_44 r0 x1 x2 z2.2))))
set_option maxRecDepth 100000 in
set_option maxHeartbeats 4000000 in
theorem x_X12_isData {κ : KX} {n : Nat} (hC : CX κ cX12_isData RX12 3 (some .boolean) 1) (hE : zEnd κ n (0, 0)) (hk0 : zRk κ (0, 0)) (r0 : Nat) (x1 : Int32) (x2 : Int32) (M : Mem) (h_r0 : zO n r0 12) : X κ 3 emI n (0, 0) 0 [.ref r0, .int x1, .int x2] [] M (f_X12_isData r0 x1 x2 M) := by
  unfold f_X12_isData
  refine x_aload_n (i := 0) rfl hC (zdk dk_X12_isData 0 rfl) (q := 1) rfl ?_
  refine x_getI fl_RX12_120 (by decide) h_r0 hC (zdk dk_X12_isData 1 rfl) (q := 4) rfl ?_
  refine x_if_eq (tgt := 44) hC (zdk dk_X12_isData 2 rfl) (q := 7) rfl rfl (fun _ => ?_) (fun _ => ?_)
  · refine x_weak (L' := [.null, .null, .null]) ⟨Or.inl rfl, Or.inl rfl, Or.inl rfl, trivial⟩ ?_
    exact x_X12_isData_44 hC hE hk0 h_r0 _
  · refine x_iload_n (i := 1) rfl hC (zdk dk_X12_isData 3 rfl) (q := 8) rfl ?_
    refine x_if_lt (tgt := 44) hC (zdk dk_X12_isData 4 rfl) (q := 11) rfl rfl (fun _ => ?_) (fun _ => ?_)
    · refine x_weak (L' := [.null, .null, .null]) ⟨Or.inl rfl, Or.inl rfl, Or.inl rfl, trivial⟩ ?_
      exact x_X12_isData_44 hC hE hk0 h_r0 _
    · refine x_iload_n (i := 2) rfl hC (zdk dk_X12_isData 5 rfl) (q := 12) rfl ?_
      refine x_iconst (i := 0) c_iconst_0 hC (zdk dk_X12_isData 6 rfl) (q := 13) rfl ?_
      refine x_ldcw k_RX12_445 hC (zdk dk_X12_isData 7 rfl) (q := 16) rfl ?_
      refine x_callSi (as := [.int x2, .int 0, .int 1073741823]) cb_RX12_325 rfl (by decide) hk0 (fun x hx => t_X12_is  x hx) hC (zdk dk_X12_isData 8 rfl) (q := 19) rfl rfl (Nat.le_of_ble_eq_true rfl) (fun z2 => ?_)
      refine x_if_eq (tgt := 44) hC (zdk dk_X12_isData 9 rfl) (q := 22) rfl rfl (fun _ => ?_) (fun _ => ?_)
      · refine x_weak (L' := [.null, .null, .null]) ⟨Or.inl rfl, Or.inl rfl, Or.inl rfl, trivial⟩ ?_
        exact x_X12_isData_44 hC hE hk0 h_r0 _
      · refine x_iload_n (i := 1) rfl hC (zdk dk_X12_isData 10 rfl) (q := 23) rfl ?_
        refine x_i2l hC (zdk dk_X12_isData 11 rfl) (q := 24) rfl ?_
        refine x_bipush (i := 30) c_bipush_30 hC (zdk dk_X12_isData 12 rfl) (q := 26) rfl ?_
        refine x_lshl hC (zdk dk_X12_isData 13 rfl) (q := 27) rfl ?_
        refine x_iload_n (i := 2) rfl hC (zdk dk_X12_isData 14 rfl) (q := 28) rfl ?_
        refine x_i2l hC (zdk dk_X12_isData 15 rfl) (q := 29) rfl ?_
        refine x_lor hC (zdk dk_X12_isData 16 rfl) (q := 30) rfl ?_
        refine x_aload_n (i := 0) rfl hC (zdk dk_X12_isData 17 rfl) (q := 31) rfl ?_
        refine x_getI fl_RX12_135 (by decide) h_r0 hC (zdk dk_X12_isData 18 rfl) (q := 34) rfl ?_
        refine x_lshr hC (zdk dk_X12_isData 19 rfl) (q := 35) rfl ?_
        refine x_lconst (i := 0) c_lconst_0 hC (zdk dk_X12_isData 20 rfl) (q := 36) rfl ?_
        refine x_lcmp hC (zdk dk_X12_isData 21 rfl) (q := 37) rfl ?_
        refine x_if_ne (tgt := 44) hC (zdk dk_X12_isData 22 rfl) (q := 40) rfl rfl (fun _ => ?_) (fun _ => ?_)
        · refine x_weak (L' := [.null, .null, .null]) ⟨Or.inl rfl, Or.inl rfl, Or.inl rfl, trivial⟩ ?_
          exact x_X12_isData_44 hC hE hk0 h_r0 _
        · refine x_iconst (i := 1) c_iconst_1 hC (zdk dk_X12_isData 23 rfl) (q := 41) rfl ?_
          refine x_goto (tgt := 45) hC (zdk dk_X12_isData 24 rfl) rfl ?_
          refine x_weak (L' := [.null, .null, .null]) ⟨Or.inl rfl, Or.inl rfl, Or.inl rfl, trivial⟩ ?_
          exact x_X12_isData_45 hC hE hk0 h_r0 _ _
set_option maxRecDepth 100000 in
set_option maxHeartbeats 4000000 in
theorem t_X12_isData {n : Nat} {r0 : Nat} {x1 : Int32} {x2 : Int32} {M : Mem} (h_r0 : zO n r0 12) (x : (Int32 × Mem)) (hx : f_X12_isData r0 x1 x2 M = some x) (l : Launch) (dC : Nat → ClassId) (dI : Nat → Nat → Nat) (b : zSg) : MT l dC dI b yX12_isData cX12_isData 3 (some .boolean) 1 0 0 n n [.ref r0, .int x1, .int x2] M (emI x).1 (emI x).2 :=
  MT.ofX (by decide +kernel) rfl (Nat.le_of_ble_eq_true rfl) (fun κ hC hF _ => x_X12_isData hC (zEnd_of hF (Nat.le_refl _) (Nat.le_refl _)) (zRk_of hF (Nat.le_refl _) (Nat.le_refl _)) _ _ _ _ h_r0) x hx
set_option maxRecDepth 100000 in
def dt_X12_word : List (Nat × Instr × Nat) := [(0, .aload_n 0, 1), (1, .iload_n 1, 1), (2, .iload_n 2, 1), (3, .invokevirtual 446, 3), (6, .ifCond .eq 37, 3), (9, .iload_n 3, 1), (10, .iconst 0, 1), (11, .aload_n 0, 1), (12, .getfield 132, 3), (15, .iconst 1, 1), (16, .isub, 1), (17, .invokestatic 325, 3), (20, .ifCond .eq 23, 3), (23, .aload_n 0, 1), (24, .iload_n 1, 1), (25, .i2l, 1), (26, .bipush 30, 2), (28, .lshl, 1), (29, .iload_n 2, 1), (30, .i2l, 1), (31, .lor, 1), (32, .invokevirtual 449, 3), (35, .iload_n 3, 1), (36, .lshr, 1), (37, .lconst 1, 1), (38, .land, 1), (39, .l2i, 1), (40, .goto 4, 3), (43, .iconst (-1), 1), (44, .ireturn, 1)]
set_option maxRecDepth 100000 in
theorem dk_X12_word : dt_X12_word.all (fun q => decide (decode cX12_word q.1 = .ok q.2)) = true := by decide +kernel
set_option maxRecDepth 100000 in
def f_X12_word_44  (r0 : Nat) (x1 : Int32) (x2 : Int32) (x3 : Int32) (s0 : Int32) (M : Mem) : Option (Int32 × Mem) := some (s0, M)
set_option maxRecDepth 100000 in
set_option maxHeartbeats 4000000 in
theorem x_X12_word_44 {κ : KX} {n : Nat} (hC : CX κ cX12_word RX12 4 (some .int) 2) (hE : zEnd κ n (0, 0)) (hk0 : zRk κ (0, 0)) {r0 : Nat} {x1 : Int32} {x2 : Int32} {x3 : Int32} (h_r0 : zO n r0 12) (s0 : Int32) (M : Mem) : X κ 4 emI n (0, 0) 44 [.null, .null, .null, .null] [.int s0] M (f_X12_word_44 r0 x1 x2 x3 s0 M) := by
  unfold f_X12_word_44
  exact x_iret (ty := .int) rfl hE hC (zdk dk_X12_word 29 rfl)
set_option maxRecDepth 100000 in
def f_X12_word_43  (r0 : Nat) (x1 : Int32) (x2 : Int32) (x3 : Int32)  (M : Mem) : Option (Int32 × Mem) := f_X12_word_44 r0 x1 x2 x3 ((-1)) M
set_option maxRecDepth 100000 in
set_option maxHeartbeats 4000000 in
theorem x_X12_word_43 {κ : KX} {n : Nat} (hC : CX κ cX12_word RX12 4 (some .int) 2) (hE : zEnd κ n (0, 0)) (hk0 : zRk κ (0, 0)) {r0 : Nat} {x1 : Int32} {x2 : Int32} {x3 : Int32} (h_r0 : zO n r0 12) (M : Mem) : X κ 4 emI n (0, 0) 43 [.null, .null, .null, .null] [] M (f_X12_word_43 r0 x1 x2 x3 M) := by
  unfold f_X12_word_43
  refine x_iconst (i := (-1)) c_iconst_m1 hC (zdk dk_X12_word 28 rfl) (q := 44) rfl ?_
  refine x_weak (L' := [.null, .null, .null, .null]) ⟨Or.inl rfl, Or.inl rfl, Or.inl rfl, Or.inl rfl, trivial⟩ ?_
  exact x_X12_word_44 hC hE hk0 h_r0 _ _
set_option maxRecDepth 100000 in
def f_X12_word (r0 : Nat) (x1 : Int32) (x2 : Int32) (x3 : Int32) (M : Mem) : Option (Int32 × Mem) := Option.bind (f_X12_isData r0 x1 x2 M) fun z1 => (if z1.1 = 0 then f_X12_word_43 r0 x1 x2 x3 z1.2 else Option.bind (f_X12_is x3 0 ((zI z1.2 r0 39) - 1) z1.2) fun z2 => (if z2.1 = 0 then f_X12_word_43 r0 x1 x2 x3 z2.2 else Option.bind (f_X12_wordOf r0 ((x1.toInt64 <<< ((30 : Int32).toInt64 &&& 63)) ||| x2.toInt64) z2.2) fun z3 => f_X12_word_44 r0 x1 x2 x3 (((z3.1 >>> (x3.toInt64 &&& 63)) &&& 1).toInt32) z3.2))
set_option maxRecDepth 100000 in
set_option maxHeartbeats 4000000 in
theorem x_X12_word {κ : KX} {n : Nat} (hC : CX κ cX12_word RX12 4 (some .int) 2) (hE : zEnd κ n (0, 0)) (hk0 : zRk κ (0, 0)) (r0 : Nat) (x1 : Int32) (x2 : Int32) (x3 : Int32) (M : Mem) (h_r0 : zO n r0 12) : X κ 4 emI n (0, 0) 0 [.ref r0, .int x1, .int x2, .int x3] [] M (f_X12_word r0 x1 x2 x3 M) := by
  unfold f_X12_word
  refine x_aload_n (i := 0) rfl hC (zdk dk_X12_word 0 rfl) (q := 1) rfl ?_
  refine x_iload_n (i := 1) rfl hC (zdk dk_X12_word 1 rfl) (q := 2) rfl ?_
  refine x_iload_n (i := 2) rfl hC (zdk dk_X12_word 2 rfl) (q := 3) rfl ?_
  refine x_callVi (as := [.int x1, .int x2]) cb_RX12_446 rfl (by decide) hk0 h_r0 (fun x hx => t_X12_isData h_r0 x hx) hC (zdk dk_X12_word 3 rfl) (q := 6) rfl rfl (Nat.le_of_ble_eq_true rfl) (fun z1 => ?_)
  refine x_if_eq (tgt := 43) hC (zdk dk_X12_word 4 rfl) (q := 9) rfl rfl (fun _ => ?_) (fun _ => ?_)
  · refine x_weak (L' := [.null, .null, .null, .null]) ⟨Or.inl rfl, Or.inl rfl, Or.inl rfl, Or.inl rfl, trivial⟩ ?_
    exact x_X12_word_43 hC hE hk0 h_r0 _
  · refine x_iload_n (i := 3) rfl hC (zdk dk_X12_word 5 rfl) (q := 10) rfl ?_
    refine x_iconst (i := 0) c_iconst_0 hC (zdk dk_X12_word 6 rfl) (q := 11) rfl ?_
    refine x_aload_n (i := 0) rfl hC (zdk dk_X12_word 7 rfl) (q := 12) rfl ?_
    refine x_getI fl_RX12_132 (by decide) h_r0 hC (zdk dk_X12_word 8 rfl) (q := 15) rfl ?_
    refine x_iconst (i := 1) c_iconst_1 hC (zdk dk_X12_word 9 rfl) (q := 16) rfl ?_
    refine x_isub hC (zdk dk_X12_word 10 rfl) (q := 17) rfl ?_
    refine x_callSi (as := [.int x3, .int 0, .int ((zI z1.2 r0 39) - 1)]) cb_RX12_325 rfl (by decide) hk0 (fun x hx => t_X12_is  x hx) hC (zdk dk_X12_word 11 rfl) (q := 20) rfl rfl (Nat.le_of_ble_eq_true rfl) (fun z2 => ?_)
    refine x_if_eq (tgt := 43) hC (zdk dk_X12_word 12 rfl) (q := 23) rfl rfl (fun _ => ?_) (fun _ => ?_)
    · refine x_weak (L' := [.null, .null, .null, .null]) ⟨Or.inl rfl, Or.inl rfl, Or.inl rfl, Or.inl rfl, trivial⟩ ?_
      exact x_X12_word_43 hC hE hk0 h_r0 _
    · refine x_aload_n (i := 0) rfl hC (zdk dk_X12_word 13 rfl) (q := 24) rfl ?_
      refine x_iload_n (i := 1) rfl hC (zdk dk_X12_word 14 rfl) (q := 25) rfl ?_
      refine x_i2l hC (zdk dk_X12_word 15 rfl) (q := 26) rfl ?_
      refine x_bipush (i := 30) c_bipush_30 hC (zdk dk_X12_word 16 rfl) (q := 28) rfl ?_
      refine x_lshl hC (zdk dk_X12_word 17 rfl) (q := 29) rfl ?_
      refine x_iload_n (i := 2) rfl hC (zdk dk_X12_word 18 rfl) (q := 30) rfl ?_
      refine x_i2l hC (zdk dk_X12_word 19 rfl) (q := 31) rfl ?_
      refine x_lor hC (zdk dk_X12_word 20 rfl) (q := 32) rfl ?_
      refine x_callVl (as := [.long ((x1.toInt64 <<< ((30 : Int32).toInt64 &&& 63)) ||| x2.toInt64)]) cb_RX12_449 rfl (by decide) hk0 h_r0 (fun x hx => t_X12_wordOf h_r0 x hx) hC (zdk dk_X12_word 21 rfl) (q := 35) rfl rfl (Nat.le_of_ble_eq_true rfl) (fun z3 => ?_)
      refine x_iload_n (i := 3) rfl hC (zdk dk_X12_word 22 rfl) (q := 36) rfl ?_
      refine x_lshr hC (zdk dk_X12_word 23 rfl) (q := 37) rfl ?_
      refine x_lconst (i := 1) c_lconst_1 hC (zdk dk_X12_word 24 rfl) (q := 38) rfl ?_
      refine x_land hC (zdk dk_X12_word 25 rfl) (q := 39) rfl ?_
      refine x_l2i hC (zdk dk_X12_word 26 rfl) (q := 40) rfl ?_
      refine x_goto (tgt := 44) hC (zdk dk_X12_word 27 rfl) rfl ?_
      refine x_weak (L' := [.null, .null, .null, .null]) ⟨Or.inl rfl, Or.inl rfl, Or.inl rfl, Or.inl rfl, trivial⟩ ?_
      exact x_X12_word_44 hC hE hk0 h_r0 _ _
set_option maxRecDepth 100000 in
set_option maxHeartbeats 4000000 in
theorem t_X12_word {n : Nat} {r0 : Nat} {x1 : Int32} {x2 : Int32} {x3 : Int32} {M : Mem} (h_r0 : zO n r0 12) (x : (Int32 × Mem)) (hx : f_X12_word r0 x1 x2 x3 M = some x) (l : Launch) (dC : Nat → ClassId) (dI : Nat → Nat → Nat) (b : zSg) : MT l dC dI b yX12_word cX12_word 4 (some .int) 2 0 0 n n [.ref r0, .int x1, .int x2, .int x3] M (emI x).1 (emI x).2 :=
  MT.ofX (by decide +kernel) rfl (Nat.le_of_ble_eq_true rfl) (fun κ hC hF _ => x_X12_word hC (zEnd_of hF (Nat.le_refl _) (Nat.le_refl _)) (zRk_of hF (Nat.le_refl _) (Nat.le_refl _)) _ _ _ _ _ h_r0) x hx
set_option maxRecDepth 100000 in
def dt_X12_onesOf : List (Nat × Instr × Nat) := [(0, .iconst 0, 1), (1, .istore_n 2, 1), (2, .lload_n 0, 1), (3, .lstore_n 3, 1), (4, .lload_n 3, 1), (5, .lconst 0, 1), (6, .lcmp, 1), (7, .ifCond .le 17, 3), (10, .iload_n 2, 1), (11, .lload_n 3, 1), (12, .lconst 1, 1), (13, .land, 1), (14, .l2i, 1), (15, .iadd, 1), (16, .istore_n 2, 1), (17, .lload_n 3, 1), (18, .iconst 1, 1), (19, .lshr, 1), (20, .lstore_n 3, 1), (21, .goto (-17), 3), (24, .iload_n 2, 1), (25, .ireturn, 1)]
set_option maxRecDepth 100000 in
theorem dk_X12_onesOf : dt_X12_onesOf.all (fun q => decide (decode cX12_onesOf q.1 = .ok q.2)) = true := by decide +kernel
set_option maxRecDepth 100000 in
def f_X12_onesOf_4  (y0 : Int64) : Nat → Int32 → Int64 → Mem → Option (Int32 × Mem)
  | 0, _, _, _ => none
  | f + 1, x2, y3, M => (if lg_cmp y3 0 ≤ 0 then some (x2, M) else (f_X12_onesOf_4 y0 f) (x2 + ((y3 &&& 1).toInt32)) (y3 >>> ((1 : Int32).toInt64 &&& 63)) M)
set_option maxRecDepth 100000 in
set_option maxHeartbeats 4000000 in
theorem x_X12_onesOf_4 {κ : KX} {n : Nat} (hC : CX κ cX12_onesOf RX12 5 (some .int) 0) (hE : zEnd κ n (0, 0)) (hk0 : zRk κ (0, 0)) {y0 : Int64} : ∀ (f : Nat) (x2 : Int32) (y3 : Int64) (M : Mem), X κ 5 emI n (0, 0) 4 [.null, .null, .int x2, .long y3, .null] [] M (f_X12_onesOf_4 y0 f x2 y3 M) := by
  intro f
  induction f with
  | zero => intros; exact x_none
  | succ f ih =>
    intro x2 y3 M 
    rw [f_X12_onesOf_4]
    refine x_lload_n (i := 3) rfl hC (zdk dk_X12_onesOf 4 rfl) (q := 5) rfl ?_
    refine x_lconst (i := 0) c_lconst_0 hC (zdk dk_X12_onesOf 5 rfl) (q := 6) rfl ?_
    refine x_lcmp hC (zdk dk_X12_onesOf 6 rfl) (q := 7) rfl ?_
    refine x_if_le (tgt := 24) hC (zdk dk_X12_onesOf 7 rfl) (q := 10) rfl rfl (fun _ => ?_) (fun _ => ?_)
    · refine x_iload_n (i := 2) rfl hC (zdk dk_X12_onesOf 20 rfl) (q := 25) rfl ?_
      exact x_iret (ty := .int) rfl hE hC (zdk dk_X12_onesOf 21 rfl)
    · refine x_iload_n (i := 2) rfl hC (zdk dk_X12_onesOf 8 rfl) (q := 11) rfl ?_
      refine x_lload_n (i := 3) rfl hC (zdk dk_X12_onesOf 9 rfl) (q := 12) rfl ?_
      refine x_lconst (i := 1) c_lconst_1 hC (zdk dk_X12_onesOf 10 rfl) (q := 13) rfl ?_
      refine x_land hC (zdk dk_X12_onesOf 11 rfl) (q := 14) rfl ?_
      refine x_l2i hC (zdk dk_X12_onesOf 12 rfl) (q := 15) rfl ?_
      refine x_iadd hC (zdk dk_X12_onesOf 13 rfl) (q := 16) rfl ?_
      refine x_istore_n (i := 2) (L' := [.null, .null, .int (x2 + ((y3 &&& 1).toInt32)), .long y3, .null]) (by decide) rfl hC (zdk dk_X12_onesOf 14 rfl) (q := 17) rfl ?_
      refine x_lload_n (i := 3) rfl hC (zdk dk_X12_onesOf 15 rfl) (q := 18) rfl ?_
      refine x_iconst (i := 1) c_iconst_1 hC (zdk dk_X12_onesOf 16 rfl) (q := 19) rfl ?_
      refine x_lshr hC (zdk dk_X12_onesOf 17 rfl) (q := 20) rfl ?_
      refine x_lstore_n (i := 3) (L' := [.null, .null, .int (x2 + ((y3 &&& 1).toInt32)), .long (y3 >>> ((1 : Int32).toInt64 &&& 63)), .null]) (by decide) rfl hC (zdk dk_X12_onesOf 18 rfl) (q := 21) rfl ?_
      refine x_goto (tgt := 4) hC (zdk dk_X12_onesOf 19 rfl) rfl ?_
      refine x_weak (L' := [.null, .null, .int (x2 + ((y3 &&& 1).toInt32)), .long (y3 >>> ((1 : Int32).toInt64 &&& 63)), .null]) ⟨Or.inl rfl, Or.inl rfl, Or.inr rfl, Or.inr rfl, Or.inl rfl, trivial⟩ ?_
      exact ih _ _ _
set_option maxRecDepth 100000 in
def f_X12_onesOf (y0 : Int64) (M : Mem) : Option (Int32 × Mem) := f_X12_onesOf_4 y0 1000000 0 y0 M
set_option maxRecDepth 100000 in
set_option maxHeartbeats 4000000 in
theorem x_X12_onesOf {κ : KX} {n : Nat} (hC : CX κ cX12_onesOf RX12 5 (some .int) 0) (hE : zEnd κ n (0, 0)) (hk0 : zRk κ (0, 0)) (y0 : Int64) (M : Mem) : X κ 5 emI n (0, 0) 0 [.long y0, .null, .null, .null, .null] [] M (f_X12_onesOf y0 M) := by
  unfold f_X12_onesOf
  refine x_iconst (i := 0) c_iconst_0 hC (zdk dk_X12_onesOf 0 rfl) (q := 1) rfl ?_
  refine x_istore_n (i := 2) (L' := [.long y0, .null, .int 0, .null, .null]) (by decide) rfl hC (zdk dk_X12_onesOf 1 rfl) (q := 2) rfl ?_
  refine x_lload_n (i := 0) rfl hC (zdk dk_X12_onesOf 2 rfl) (q := 3) rfl ?_
  refine x_lstore_n (i := 3) (L' := [.long y0, .null, .int 0, .long y0, .null]) (by decide) rfl hC (zdk dk_X12_onesOf 3 rfl) (q := 4) rfl ?_
  refine x_weak (L' := [.null, .null, .int 0, .long y0, .null]) ⟨Or.inl rfl, Or.inl rfl, Or.inr rfl, Or.inr rfl, Or.inl rfl, trivial⟩ ?_
  exact x_X12_onesOf_4 hC hE hk0 _ _ _ _
set_option maxRecDepth 100000 in
set_option maxHeartbeats 4000000 in
theorem t_X12_onesOf {n : Nat} {y0 : Int64} {M : Mem}  (x : (Int32 × Mem)) (hx : f_X12_onesOf y0 M = some x) (l : Launch) (dC : Nat → ClassId) (dI : Nat → Nat → Nat) (b : zSg) : MT l dC dI b yX12_onesOf cX12_onesOf 5 (some .int) 0 0 0 n n [.long y0] M (emI x).1 (emI x).2 :=
  MT.ofX (by decide +kernel) rfl (Nat.le_of_ble_eq_true rfl) (fun κ hC hF _ => x_X12_onesOf hC (zEnd_of hF (Nat.le_refl _) (Nat.le_refl _)) (zRk_of hF (Nat.le_refl _) (Nat.le_refl _)) _ _ ) x hx
set_option maxRecDepth 100000 in
def dt_X12_weight : List (Nat × Instr × Nat) := [(0, .aload_n 0, 1), (1, .getfield 120, 3), (4, .ifCond .eq 22, 3), (7, .aload_n 0, 1), (8, .getfield 135, 3), (11, .bipush 12, 2), (13, .if_icmp .gt 13, 3), (16, .iload_n 1, 1), (17, .iconst 0, 1), (18, .bipush 63, 2), (20, .invokestatic 325, 3), (23, .ifCond .ne 5, 3), (26, .iconst (-1), 1), (27, .ireturn, 1), (28, .iconst 0, 1), (29, .istore_n 2, 1), (30, .lconst 0, 1), (31, .lstore_n 3, 1), (32, .lload_n 3, 1), (33, .lconst 1, 1), (34, .aload_n 0, 1), (35, .getfield 135, 3), (38, .lshl, 1), (39, .lcmp, 1), (40, .ifCond .ge 30, 3), (43, .iload_n 2, 1), (44, .aload_n 0, 1), (45, .lload_n 3, 1), (46, .invokevirtual 449, 3), (49, .invokestatic 452, 3), (52, .iload_n 1, 1), (53, .if_icmp .ne 7, 3), (56, .iconst 1, 1), (57, .goto 4, 3), (60, .iconst 0, 1), (61, .iadd, 1), (62, .istore_n 2, 1), (63, .lload_n 3, 1), (64, .lconst 1, 1), (65, .ladd, 1), (66, .lstore_n 3, 1), (67, .goto (-35), 3), (70, .iload_n 2, 1), (71, .ireturn, 1)]
set_option maxRecDepth 100000 in
theorem dk_X12_weight : dt_X12_weight.all (fun q => decide (decode cX12_weight q.1 = .ok q.2)) = true := by decide +kernel
set_option maxRecDepth 100000 in
def f_X12_weight_26  (r0 : Nat) (x1 : Int32)  (M : Mem) : Option (Int32 × Mem) := some ((-1), M)
set_option maxRecDepth 100000 in
set_option maxHeartbeats 4000000 in
theorem x_X12_weight_26 {κ : KX} {n : Nat} (hC : CX κ cX12_weight RX12 5 (some .int) 2) (hE : zEnd κ n (0, 0)) (hk0 : zRk κ (0, 0)) {r0 : Nat} {x1 : Int32} (h_r0 : zO n r0 12) (M : Mem) : X κ 5 emI n (0, 0) 26 [.null, .null, .null, .null, .null] [] M (f_X12_weight_26 r0 x1 M) := by
  unfold f_X12_weight_26
  refine x_iconst (i := (-1)) c_iconst_m1 hC (zdk dk_X12_weight 12 rfl) (q := 27) rfl ?_
  exact x_iret (ty := .int) rfl hE hC (zdk dk_X12_weight 13 rfl)
set_option maxRecDepth 100000 in
def f_X12_weight_61 (k32 : Int32 → Int64 → Mem → Option (Int32 × Mem)) (r0 : Nat) (x1 : Int32) (y3 : Int64) (s0 : Int32) (s1 : Int32) (M : Mem) : Option (Int32 × Mem) := k32 (s0 + s1) (y3 + 1) M
set_option maxRecDepth 100000 in
set_option maxHeartbeats 4000000 in
theorem x_X12_weight_61 {κ : KX} {n : Nat} (hC : CX κ cX12_weight RX12 5 (some .int) 2) (hE : zEnd κ n (0, 0)) (hk0 : zRk κ (0, 0)) {r0 : Nat} {x1 : Int32} (h_r0 : zO n r0 12) (k32 : Int32 → Int64 → Mem → Option (Int32 × Mem)) (hk32 : ∀ (x2 : Int32) (y3 : Int64) (M : Mem), X κ 5 emI n (0, 0) 32 [.ref r0, .int x1, .int x2, .long y3, .null] [] M (k32 x2 y3 M)) (y3 : Int64) (s0 : Int32) (s1 : Int32) (M : Mem) : X κ 5 emI n (0, 0) 61 [.ref r0, .int x1, .null, .long y3, .null] [.int s1, .int s0] M (f_X12_weight_61 k32 r0 x1 y3 s0 s1 M) := by
  unfold f_X12_weight_61
  refine x_iadd hC (zdk dk_X12_weight 35 rfl) (q := 62) rfl ?_
  refine x_istore_n (i := 2) (L' := [.ref r0, .int x1, .int (s0 + s1), .long y3, .null]) (by decide) rfl hC (zdk dk_X12_weight 36 rfl) (q := 63) rfl ?_
  refine x_lload_n (i := 3) rfl hC (zdk dk_X12_weight 37 rfl) (q := 64) rfl ?_
  refine x_lconst (i := 1) c_lconst_1 hC (zdk dk_X12_weight 38 rfl) (q := 65) rfl ?_
  refine x_ladd hC (zdk dk_X12_weight 39 rfl) (q := 66) rfl ?_
  refine x_lstore_n (i := 3) (L' := [.ref r0, .int x1, .int (s0 + s1), .long (y3 + 1), .null]) (by decide) rfl hC (zdk dk_X12_weight 40 rfl) (q := 67) rfl ?_
  refine x_goto (tgt := 32) hC (zdk dk_X12_weight 41 rfl) rfl ?_
  refine x_weak (L' := [.ref r0, .int x1, .int (s0 + s1), .long (y3 + 1), .null]) ⟨Or.inr rfl, Or.inr rfl, Or.inr rfl, Or.inr rfl, Or.inl rfl, trivial⟩ ?_
  exact hk32 _ _ _
set_option maxRecDepth 100000 in
def f_X12_weight_32  (r0 : Nat) (x1 : Int32) : Nat → Int32 → Int64 → Mem → Option (Int32 × Mem)
  | 0, _, _, _ => none
  | f + 1, x2, y3, M => (if 0 ≤ lg_cmp y3 ((1 : Int64) <<< ((zI M r0 40).toInt64 &&& 63)) then some (x2, M) else Option.bind (f_X12_wordOf r0 y3 M) fun z1 => Option.bind (f_X12_onesOf z1.1 z1.2) fun z2 => (if z2.1 = x1 then f_X12_weight_61 (f_X12_weight_32 r0 x1 f) r0 x1 y3 x2 1 z2.2 else f_X12_weight_61 (f_X12_weight_32 r0 x1 f) r0 x1 y3 x2 0 z2.2))
set_option maxRecDepth 100000 in
set_option maxHeartbeats 4000000 in
theorem x_X12_weight_32 {κ : KX} {n : Nat} (hC : CX κ cX12_weight RX12 5 (some .int) 2) (hE : zEnd κ n (0, 0)) (hk0 : zRk κ (0, 0)) {r0 : Nat} {x1 : Int32} (h_r0 : zO n r0 12) : ∀ (f : Nat) (x2 : Int32) (y3 : Int64) (M : Mem), X κ 5 emI n (0, 0) 32 [.ref r0, .int x1, .int x2, .long y3, .null] [] M (f_X12_weight_32 r0 x1 f x2 y3 M) := by
  intro f
  induction f with
  | zero => intros; exact x_none
  | succ f ih =>
    intro x2 y3 M 
    rw [f_X12_weight_32]
    refine x_lload_n (i := 3) rfl hC (zdk dk_X12_weight 18 rfl) (q := 33) rfl ?_
    refine x_lconst (i := 1) c_lconst_1 hC (zdk dk_X12_weight 19 rfl) (q := 34) rfl ?_
    refine x_aload_n (i := 0) rfl hC (zdk dk_X12_weight 20 rfl) (q := 35) rfl ?_
    refine x_getI fl_RX12_135 (by decide) h_r0 hC (zdk dk_X12_weight 21 rfl) (q := 38) rfl ?_
    refine x_lshl hC (zdk dk_X12_weight 22 rfl) (q := 39) rfl ?_
    refine x_lcmp hC (zdk dk_X12_weight 23 rfl) (q := 40) rfl ?_
    refine x_if_ge (tgt := 70) hC (zdk dk_X12_weight 24 rfl) (q := 43) rfl rfl (fun _ => ?_) (fun _ => ?_)
    · refine x_iload_n (i := 2) rfl hC (zdk dk_X12_weight 42 rfl) (q := 71) rfl ?_
      exact x_iret (ty := .int) rfl hE hC (zdk dk_X12_weight 43 rfl)
    · refine x_iload_n (i := 2) rfl hC (zdk dk_X12_weight 25 rfl) (q := 44) rfl ?_
      refine x_aload_n (i := 0) rfl hC (zdk dk_X12_weight 26 rfl) (q := 45) rfl ?_
      refine x_lload_n (i := 3) rfl hC (zdk dk_X12_weight 27 rfl) (q := 46) rfl ?_
      refine x_callVl (as := [.long y3]) cb_RX12_449 rfl (by decide) hk0 h_r0 (fun x hx => t_X12_wordOf h_r0 x hx) hC (zdk dk_X12_weight 28 rfl) (q := 49) rfl rfl (Nat.le_of_ble_eq_true rfl) (fun z1 => ?_)
      refine x_callSi (as := [.long z1.1]) cb_RX12_452 rfl (by decide) hk0 (fun x hx => t_X12_onesOf  x hx) hC (zdk dk_X12_weight 29 rfl) (q := 52) rfl rfl (Nat.le_of_ble_eq_true rfl) (fun z2 => ?_)
      refine x_iload_n (i := 1) rfl hC (zdk dk_X12_weight 30 rfl) (q := 53) rfl ?_
      refine x_icmp_ne (tgt := 60) hC (zdk dk_X12_weight 31 rfl) (q := 56) rfl rfl (fun _ => ?_) (fun _ => ?_)
      · refine x_iconst (i := 0) c_iconst_0 hC (zdk dk_X12_weight 34 rfl) (q := 61) rfl ?_
        refine x_weak (L' := [.ref r0, .int x1, .null, .long y3, .null]) ⟨Or.inr rfl, Or.inr rfl, Or.inl rfl, Or.inr rfl, Or.inl rfl, trivial⟩ ?_
        exact x_X12_weight_61 hC hE hk0 h_r0 (f_X12_weight_32 r0 x1 f) ih _ _ _ _
      · refine x_iconst (i := 1) c_iconst_1 hC (zdk dk_X12_weight 32 rfl) (q := 57) rfl ?_
        refine x_goto (tgt := 61) hC (zdk dk_X12_weight 33 rfl) rfl ?_
        refine x_weak (L' := [.ref r0, .int x1, .null, .long y3, .null]) ⟨Or.inr rfl, Or.inr rfl, Or.inl rfl, Or.inr rfl, Or.inl rfl, trivial⟩ ?_
        exact x_X12_weight_61 hC hE hk0 h_r0 (f_X12_weight_32 r0 x1 f) ih _ _ _ _
set_option maxRecDepth 100000 in
def f_X12_weight (r0 : Nat) (x1 : Int32) (M : Mem) : Option (Int32 × Mem) := (if zI M r0 35 = 0 then f_X12_weight_26 r0 x1 M else (if 12 < zI M r0 40 then f_X12_weight_26 r0 x1 M else Option.bind (f_X12_is x1 0 63 M) fun z3 => (if z3.1 = 0 then f_X12_weight_26 r0 x1 z3.2 else f_X12_weight_32 r0 x1 1000000 0 0 z3.2)))
set_option maxRecDepth 100000 in
set_option maxHeartbeats 4000000 in
theorem x_X12_weight {κ : KX} {n : Nat} (hC : CX κ cX12_weight RX12 5 (some .int) 2) (hE : zEnd κ n (0, 0)) (hk0 : zRk κ (0, 0)) (r0 : Nat) (x1 : Int32) (M : Mem) (h_r0 : zO n r0 12) : X κ 5 emI n (0, 0) 0 [.ref r0, .int x1, .null, .null, .null] [] M (f_X12_weight r0 x1 M) := by
  unfold f_X12_weight
  refine x_aload_n (i := 0) rfl hC (zdk dk_X12_weight 0 rfl) (q := 1) rfl ?_
  refine x_getI fl_RX12_120 (by decide) h_r0 hC (zdk dk_X12_weight 1 rfl) (q := 4) rfl ?_
  refine x_if_eq (tgt := 26) hC (zdk dk_X12_weight 2 rfl) (q := 7) rfl rfl (fun _ => ?_) (fun _ => ?_)
  · refine x_weak (L' := [.null, .null, .null, .null, .null]) ⟨Or.inl rfl, Or.inl rfl, Or.inl rfl, Or.inl rfl, Or.inl rfl, trivial⟩ ?_
    exact x_X12_weight_26 hC hE hk0 h_r0 _
  · refine x_aload_n (i := 0) rfl hC (zdk dk_X12_weight 3 rfl) (q := 8) rfl ?_
    refine x_getI fl_RX12_135 (by decide) h_r0 hC (zdk dk_X12_weight 4 rfl) (q := 11) rfl ?_
    refine x_bipush (i := 12) c_bipush_12 hC (zdk dk_X12_weight 5 rfl) (q := 13) rfl ?_
    refine x_icmp_gt (tgt := 26) hC (zdk dk_X12_weight 6 rfl) (q := 16) rfl rfl (fun _ => ?_) (fun _ => ?_)
    · refine x_weak (L' := [.null, .null, .null, .null, .null]) ⟨Or.inl rfl, Or.inl rfl, Or.inl rfl, Or.inl rfl, Or.inl rfl, trivial⟩ ?_
      exact x_X12_weight_26 hC hE hk0 h_r0 _
    · refine x_iload_n (i := 1) rfl hC (zdk dk_X12_weight 7 rfl) (q := 17) rfl ?_
      refine x_iconst (i := 0) c_iconst_0 hC (zdk dk_X12_weight 8 rfl) (q := 18) rfl ?_
      refine x_bipush (i := 63) c_bipush_63 hC (zdk dk_X12_weight 9 rfl) (q := 20) rfl ?_
      refine x_callSi (as := [.int x1, .int 0, .int 63]) cb_RX12_325 rfl (by decide) hk0 (fun x hx => t_X12_is  x hx) hC (zdk dk_X12_weight 10 rfl) (q := 23) rfl rfl (Nat.le_of_ble_eq_true rfl) (fun z3 => ?_)
      refine x_if_ne (tgt := 28) hC (zdk dk_X12_weight 11 rfl) (q := 26) rfl rfl (fun _ => ?_) (fun _ => ?_)
      · refine x_iconst (i := 0) c_iconst_0 hC (zdk dk_X12_weight 14 rfl) (q := 29) rfl ?_
        refine x_istore_n (i := 2) (L' := [.ref r0, .int x1, .int 0, .null, .null]) (by decide) rfl hC (zdk dk_X12_weight 15 rfl) (q := 30) rfl ?_
        refine x_lconst (i := 0) c_lconst_0 hC (zdk dk_X12_weight 16 rfl) (q := 31) rfl ?_
        refine x_lstore_n (i := 3) (L' := [.ref r0, .int x1, .int 0, .long 0, .null]) (by decide) rfl hC (zdk dk_X12_weight 17 rfl) (q := 32) rfl ?_
        refine x_weak (L' := [.ref r0, .int x1, .int 0, .long 0, .null]) ⟨Or.inr rfl, Or.inr rfl, Or.inr rfl, Or.inr rfl, Or.inl rfl, trivial⟩ ?_
        exact x_X12_weight_32 hC hE hk0 h_r0 _ _ _ _
      · refine x_weak (L' := [.null, .null, .null, .null, .null]) ⟨Or.inl rfl, Or.inl rfl, Or.inl rfl, Or.inl rfl, Or.inl rfl, trivial⟩ ?_
        exact x_X12_weight_26 hC hE hk0 h_r0 _
set_option maxRecDepth 100000 in
set_option maxHeartbeats 4000000 in
theorem t_X12_weight {n : Nat} {r0 : Nat} {x1 : Int32} {M : Mem} (h_r0 : zO n r0 12) (x : (Int32 × Mem)) (hx : f_X12_weight r0 x1 M = some x) (l : Launch) (dC : Nat → ClassId) (dI : Nat → Nat → Nat) (b : zSg) : MT l dC dI b yX12_weight cX12_weight 5 (some .int) 2 0 0 n n [.ref r0, .int x1] M (emI x).1 (emI x).2 :=
  MT.ofX (by decide +kernel) rfl (Nat.le_of_ble_eq_true rfl) (fun κ hC hF _ => x_X12_weight hC (zEnd_of hF (Nat.le_refl _) (Nat.le_refl _)) (zRk_of hF (Nat.le_refl _) (Nat.le_refl _)) _ _ _ h_r0) x hx
set_option maxRecDepth 100000 in
def dt_X12_syndromesOf : List (Nat × Instr × Nat) := [(0, .iconst 1, 1), (1, .istore_n 3, 1), (2, .iload_n 3, 1), (3, .iconst 2, 1), (4, .aload_n 0, 1), (5, .iconst 2, 1), (6, .invokevirtual 428, 3), (9, .imul, 1), (10, .if_icmp .gt 68, 3), (13, .iconst 0, 1), (14, .istore 4, 2), (16, .iconst 0, 1), (17, .istore 5, 2), (19, .iload 5, 2), (21, .aload_n 0, 1), (22, .getfield 132, 3), (25, .if_icmp .ge 39, 3), (28, .lload_n 1, 1), (29, .iload 5, 2), (31, .lshr, 1), (32, .lconst 1, 1), (33, .land, 1), (34, .lconst 1, 1), (35, .lcmp, 1), (36, .ifCond .ne 22, 3), (39, .iload 4, 2), (41, .aload_n 0, 1), (42, .getfield 141, 3), (45, .iload_n 3, 1), (46, .iload 5, 2), (48, .imul, 1), (49, .aload_n 0, 1), (50, .getfield 126, 3), (53, .irem, 1), (54, .iaload, 1), (55, .ixor, 1), (56, .istore 4, 2), (58, .iinc 5 1, 3), (61, .goto (-42), 3), (64, .aload_n 0, 1), (65, .getfield 150, 3), (68, .iload_n 3, 1), (69, .iload 4, 2), (71, .iastore, 1), (72, .iinc 3 1, 3), (75, .goto (-73), 3), (78, .return_, 1)]
set_option maxRecDepth 100000 in
theorem dk_X12_syndromesOf : dt_X12_syndromesOf.all (fun q => decide (decode cX12_syndromesOf q.1 = .ok q.2)) = true := by decide +kernel
set_option maxRecDepth 100000 in
def f_X12_syndromesOf_58 (k2 : Int32 → Mem → Option Mem) (k19 : Int32 → Int32 → Int32 → Mem → Option Mem) (r0 : Nat) (y1 : Int64) (x3 : Int32) (x4 : Int32) (x5 : Int32) (M : Mem) : Option Mem := k19 x3 x4 (x5 + 1) M
set_option maxRecDepth 100000 in
set_option maxHeartbeats 4000000 in
theorem x_X12_syndromesOf_58 {κ : KX} {n : Nat} (hC : CX κ cX12_syndromesOf RX12 6 none 1) (hE : zEnd κ n (0, 0)) (hk0 : zRk κ (0, 0)) {r0 : Nat} {y1 : Int64} (h_r0 : zO n r0 12) (k2 : Int32 → Mem → Option Mem) (hk2 : ∀ (x3 : Int32) (M : Mem), X κ 6 emV n (0, 0) 2 [.ref r0, .long y1, .null, .int x3, .null, .null] [] M (k2 x3 M)) (k19 : Int32 → Int32 → Int32 → Mem → Option Mem) (hk19 : ∀ (x3 : Int32) (x4 : Int32) (x5 : Int32) (M : Mem), X κ 6 emV n (0, 0) 19 [.ref r0, .long y1, .null, .int x3, .int x4, .int x5] [] M (k19 x3 x4 x5 M)) (x3 : Int32) (x4 : Int32) (x5 : Int32) (M : Mem) : X κ 6 emV n (0, 0) 58 [.ref r0, .long y1, .null, .int x3, .int x4, .int x5] [] M (f_X12_syndromesOf_58 k2 k19 r0 y1 x3 x4 x5 M) := by
  unfold f_X12_syndromesOf_58
  refine x_iinc (i := 5) c_iconst_1 rfl (by decide) (L' := [.ref r0, .long y1, .null, .int x3, .int x4, .int (x5 + 1)]) rfl hC (zdk dk_X12_syndromesOf 37 rfl) (q := 61) rfl ?_
  refine x_goto (tgt := 19) hC (zdk dk_X12_syndromesOf 38 rfl) rfl ?_
  refine x_weak (L' := [.ref r0, .long y1, .null, .int x3, .int x4, .int (x5 + 1)]) ⟨Or.inr rfl, Or.inr rfl, Or.inl rfl, Or.inr rfl, Or.inr rfl, Or.inr rfl, trivial⟩ ?_
  exact hk19 _ _ _ _
set_option maxRecDepth 100000 in
def f_X12_syndromesOf_19 (k2 : Int32 → Mem → Option Mem) (r0 : Nat) (y1 : Int64) : Nat → Int32 → Int32 → Int32 → Mem → Option Mem
  | 0, _, _, _, _ => none
  | f + 1, x3, x4, x5, M => (if zI M r0 39 ≤ x5 then Option.bind (zrf M r0 45) fun q1 => Option.bind (zld q1 x3) fun k3 => Option.bind (some (zsI M q1 k3 x4)) fun M4 => k2 (x3 + 1) M4 else (if lg_cmp ((y1 >>> (x5.toInt64 &&& 63)) &&& 1) 1 = 0 then Option.bind (zrf M r0 42) fun q5 => if zI M r0 37 = 0 then none else Option.bind (zld q5 (zrem (x3 * x5) (zI M r0 37))) fun k6 => f_X12_syndromesOf_58 k2 (f_X12_syndromesOf_19 k2 r0 y1 f) r0 y1 x3 (x4 ^^^ (zI M q5 k6)) x5 M else f_X12_syndromesOf_58 k2 (f_X12_syndromesOf_19 k2 r0 y1 f) r0 y1 x3 x4 x5 M))
set_option maxRecDepth 100000 in
set_option maxHeartbeats 4000000 in
theorem x_X12_syndromesOf_19 {κ : KX} {n : Nat} (hC : CX κ cX12_syndromesOf RX12 6 none 1) (hE : zEnd κ n (0, 0)) (hk0 : zRk κ (0, 0)) {r0 : Nat} {y1 : Int64} (h_r0 : zO n r0 12) (k2 : Int32 → Mem → Option Mem) (hk2 : ∀ (x3 : Int32) (M : Mem), X κ 6 emV n (0, 0) 2 [.ref r0, .long y1, .null, .int x3, .null, .null] [] M (k2 x3 M)) : ∀ (f : Nat) (x3 : Int32) (x4 : Int32) (x5 : Int32) (M : Mem), X κ 6 emV n (0, 0) 19 [.ref r0, .long y1, .null, .int x3, .int x4, .int x5] [] M (f_X12_syndromesOf_19 k2 r0 y1 f x3 x4 x5 M) := by
  intro f
  induction f with
  | zero => intros; exact x_none
  | succ f ih =>
    intro x3 x4 x5 M 
    rw [f_X12_syndromesOf_19]
    refine x_iload (i := 5) rfl hC (zdk dk_X12_syndromesOf 13 rfl) (q := 21) rfl ?_
    refine x_aload_n (i := 0) rfl hC (zdk dk_X12_syndromesOf 14 rfl) (q := 22) rfl ?_
    refine x_getI fl_RX12_132 (by decide) h_r0 hC (zdk dk_X12_syndromesOf 15 rfl) (q := 25) rfl ?_
    refine x_icmp_ge (tgt := 64) hC (zdk dk_X12_syndromesOf 16 rfl) (q := 28) rfl rfl (fun _ => ?_) (fun _ => ?_)
    · refine x_aload_n (i := 0) rfl hC (zdk dk_X12_syndromesOf 39 rfl) (q := 65) rfl ?_
      refine x_getR (k := 20) fl_RX12_150 rfl h_r0 hC (zdk dk_X12_syndromesOf 40 rfl) (q := 68) rfl (fun q1 hq1 => ?_)
      refine x_iload_n (i := 3) rfl hC (zdk dk_X12_syndromesOf 41 rfl) (q := 69) rfl ?_
      refine x_iload (i := 4) rfl hC (zdk dk_X12_syndromesOf 42 rfl) (q := 71) rfl ?_
      refine x_iast hq1 hC (zdk dk_X12_syndromesOf 43 rfl) (q := 72) rfl (fun k3 _ => ?_)
      refine x_nmM (fun M4 => ?_)
      refine x_iinc (i := 3) c_iconst_1 rfl (by decide) (L' := [.ref r0, .long y1, .null, .int (x3 + 1), .int x4, .int x5]) rfl hC (zdk dk_X12_syndromesOf 44 rfl) (q := 75) rfl ?_
      refine x_goto (tgt := 2) hC (zdk dk_X12_syndromesOf 45 rfl) rfl ?_
      refine x_weak (L' := [.ref r0, .long y1, .null, .int (x3 + 1), .null, .null]) ⟨Or.inr rfl, Or.inr rfl, Or.inl rfl, Or.inr rfl, Or.inl rfl, Or.inl rfl, trivial⟩ ?_
      exact hk2 _ _
    · refine x_lload_n (i := 1) rfl hC (zdk dk_X12_syndromesOf 17 rfl) (q := 29) rfl ?_
      refine x_iload (i := 5) rfl hC (zdk dk_X12_syndromesOf 18 rfl) (q := 31) rfl ?_
      refine x_lshr hC (zdk dk_X12_syndromesOf 19 rfl) (q := 32) rfl ?_
      refine x_lconst (i := 1) c_lconst_1 hC (zdk dk_X12_syndromesOf 20 rfl) (q := 33) rfl ?_
      refine x_land hC (zdk dk_X12_syndromesOf 21 rfl) (q := 34) rfl ?_
      refine x_lconst (i := 1) c_lconst_1 hC (zdk dk_X12_syndromesOf 22 rfl) (q := 35) rfl ?_
      refine x_lcmp hC (zdk dk_X12_syndromesOf 23 rfl) (q := 36) rfl ?_
      refine x_if_ne (tgt := 58) hC (zdk dk_X12_syndromesOf 24 rfl) (q := 39) rfl rfl (fun _ => ?_) (fun _ => ?_)
      · refine x_weak (L' := [.ref r0, .long y1, .null, .int x3, .int x4, .int x5]) ⟨Or.inr rfl, Or.inr rfl, Or.inl rfl, Or.inr rfl, Or.inr rfl, Or.inr rfl, trivial⟩ ?_
        exact x_X12_syndromesOf_58 hC hE hk0 h_r0 k2 hk2 (f_X12_syndromesOf_19 k2 r0 y1 f) ih _ _ _ _
      · refine x_iload (i := 4) rfl hC (zdk dk_X12_syndromesOf 25 rfl) (q := 41) rfl ?_
        refine x_aload_n (i := 0) rfl hC (zdk dk_X12_syndromesOf 26 rfl) (q := 42) rfl ?_
        refine x_getR (k := 20) fl_RX12_141 rfl h_r0 hC (zdk dk_X12_syndromesOf 27 rfl) (q := 45) rfl (fun q5 hq5 => ?_)
        refine x_iload_n (i := 3) rfl hC (zdk dk_X12_syndromesOf 28 rfl) (q := 46) rfl ?_
        refine x_iload (i := 5) rfl hC (zdk dk_X12_syndromesOf 29 rfl) (q := 48) rfl ?_
        refine x_imul hC (zdk dk_X12_syndromesOf 30 rfl) (q := 49) rfl ?_
        refine x_aload_n (i := 0) rfl hC (zdk dk_X12_syndromesOf 31 rfl) (q := 50) rfl ?_
        refine x_getI fl_RX12_126 (by decide) h_r0 hC (zdk dk_X12_syndromesOf 32 rfl) (q := 53) rfl ?_
        refine x_iremG hC (zdk dk_X12_syndromesOf 33 rfl) (q := 54) rfl ?_
        refine x_iald hq5 hC (zdk dk_X12_syndromesOf 34 rfl) (q := 55) rfl (fun k6 _ => ?_)
        refine x_ixor hC (zdk dk_X12_syndromesOf 35 rfl) (q := 56) rfl ?_
        refine x_istore (i := 4) (L' := [.ref r0, .long y1, .null, .int x3, .int (x4 ^^^ (zI M q5 k6)), .int x5]) (by decide) rfl hC (zdk dk_X12_syndromesOf 36 rfl) (q := 58) rfl ?_
        refine x_weak (L' := [.ref r0, .long y1, .null, .int x3, .int (x4 ^^^ (zI M q5 k6)), .int x5]) ⟨Or.inr rfl, Or.inr rfl, Or.inl rfl, Or.inr rfl, Or.inr rfl, Or.inr rfl, trivial⟩ ?_
        exact x_X12_syndromesOf_58 hC hE hk0 h_r0 k2 hk2 (f_X12_syndromesOf_19 k2 r0 y1 f) ih _ _ _ _
set_option maxRecDepth 100000 in
def f_X12_syndromesOf_2  (r0 : Nat) (y1 : Int64) : Nat → Int32 → Mem → Option Mem
  | 0, _, _ => none
  | f + 1, x3, M => Option.bind (f_X12_by r0 2 M) fun z7 => (if 2 * z7.1 < x3 then some z7.2 else f_X12_syndromesOf_19 (f_X12_syndromesOf_2 r0 y1 f) r0 y1 1000000 x3 0 0 z7.2)
set_option maxRecDepth 100000 in
set_option maxHeartbeats 4000000 in
theorem x_X12_syndromesOf_2 {κ : KX} {n : Nat} (hC : CX κ cX12_syndromesOf RX12 6 none 1) (hE : zEnd κ n (0, 0)) (hk0 : zRk κ (0, 0)) {r0 : Nat} {y1 : Int64} (h_r0 : zO n r0 12) : ∀ (f : Nat) (x3 : Int32) (M : Mem), X κ 6 emV n (0, 0) 2 [.ref r0, .long y1, .null, .int x3, .null, .null] [] M (f_X12_syndromesOf_2 r0 y1 f x3 M) := by
  intro f
  induction f with
  | zero => intros; exact x_none
  | succ f ih =>
    intro x3 M 
    rw [f_X12_syndromesOf_2]
    refine x_iload_n (i := 3) rfl hC (zdk dk_X12_syndromesOf 2 rfl) (q := 3) rfl ?_
    refine x_iconst (i := 2) c_iconst_2 hC (zdk dk_X12_syndromesOf 3 rfl) (q := 4) rfl ?_
    refine x_aload_n (i := 0) rfl hC (zdk dk_X12_syndromesOf 4 rfl) (q := 5) rfl ?_
    refine x_iconst (i := 2) c_iconst_2 hC (zdk dk_X12_syndromesOf 5 rfl) (q := 6) rfl ?_
    refine x_callVi (as := [.int 2]) cb_RX12_428 rfl (by decide) hk0 h_r0 (fun x hx => t_X12_by h_r0 x hx) hC (zdk dk_X12_syndromesOf 6 rfl) (q := 9) rfl rfl (Nat.le_of_ble_eq_true rfl) (fun z7 => ?_)
    refine x_imul hC (zdk dk_X12_syndromesOf 7 rfl) (q := 10) rfl ?_
    refine x_icmp_gt (tgt := 78) hC (zdk dk_X12_syndromesOf 8 rfl) (q := 13) rfl rfl (fun _ => ?_) (fun _ => ?_)
    · exact x_vret hE hC (zdk dk_X12_syndromesOf 46 rfl)
    · refine x_iconst (i := 0) c_iconst_0 hC (zdk dk_X12_syndromesOf 9 rfl) (q := 14) rfl ?_
      refine x_istore (i := 4) (L' := [.ref r0, .long y1, .null, .int x3, .int 0, .null]) (by decide) rfl hC (zdk dk_X12_syndromesOf 10 rfl) (q := 16) rfl ?_
      refine x_iconst (i := 0) c_iconst_0 hC (zdk dk_X12_syndromesOf 11 rfl) (q := 17) rfl ?_
      refine x_istore (i := 5) (L' := [.ref r0, .long y1, .null, .int x3, .int 0, .int 0]) (by decide) rfl hC (zdk dk_X12_syndromesOf 12 rfl) (q := 19) rfl ?_
      refine x_weak (L' := [.ref r0, .long y1, .null, .int x3, .int 0, .int 0]) ⟨Or.inr rfl, Or.inr rfl, Or.inl rfl, Or.inr rfl, Or.inr rfl, Or.inr rfl, trivial⟩ ?_
      exact x_X12_syndromesOf_19 hC hE hk0 h_r0 (f_X12_syndromesOf_2 r0 y1 f) ih _ _ _ _ _
set_option maxRecDepth 100000 in
def f_X12_syndromesOf (r0 : Nat) (y1 : Int64) (M : Mem) : Option Mem := f_X12_syndromesOf_2 r0 y1 1000000 1 M
set_option maxRecDepth 100000 in
set_option maxHeartbeats 4000000 in
theorem x_X12_syndromesOf {κ : KX} {n : Nat} (hC : CX κ cX12_syndromesOf RX12 6 none 1) (hE : zEnd κ n (0, 0)) (hk0 : zRk κ (0, 0)) (r0 : Nat) (y1 : Int64) (M : Mem) (h_r0 : zO n r0 12) : X κ 6 emV n (0, 0) 0 [.ref r0, .long y1, .null, .null, .null, .null] [] M (f_X12_syndromesOf r0 y1 M) := by
  unfold f_X12_syndromesOf
  refine x_iconst (i := 1) c_iconst_1 hC (zdk dk_X12_syndromesOf 0 rfl) (q := 1) rfl ?_
  refine x_istore_n (i := 3) (L' := [.ref r0, .long y1, .null, .int 1, .null, .null]) (by decide) rfl hC (zdk dk_X12_syndromesOf 1 rfl) (q := 2) rfl ?_
  refine x_weak (L' := [.ref r0, .long y1, .null, .int 1, .null, .null]) ⟨Or.inr rfl, Or.inr rfl, Or.inl rfl, Or.inr rfl, Or.inl rfl, Or.inl rfl, trivial⟩ ?_
  exact x_X12_syndromesOf_2 hC hE hk0 h_r0 _ _ _
set_option maxRecDepth 100000 in
set_option maxHeartbeats 4000000 in
theorem t_X12_syndromesOf {n : Nat} {r0 : Nat} {y1 : Int64} {M : Mem} (h_r0 : zO n r0 12) (x : Mem) (hx : f_X12_syndromesOf r0 y1 M = some x) (l : Launch) (dC : Nat → ClassId) (dI : Nat → Nat → Nat) (b : zSg) : MT l dC dI b yX12_syndromesOf cX12_syndromesOf 6 none 1 0 0 n n [.ref r0, .long y1] M (emV x).1 (emV x).2 :=
  MT.ofX (by decide +kernel) rfl (Nat.le_of_ble_eq_true rfl) (fun κ hC hF _ => x_X12_syndromesOf hC (zEnd_of hF (Nat.le_refl _) (Nat.le_refl _)) (zRk_of hF (Nat.le_refl _) (Nat.le_refl _)) _ _ _ h_r0) x hx
set_option maxRecDepth 100000 in
def dt_X12_missing : List (Nat × Instr × Nat) := [(0, .aload_n 0, 1), (1, .getfield 150, 3), (4, .iload_n 1, 1), (5, .iaload, 1), (6, .istore_n 2, 1), (7, .iconst 1, 1), (8, .istore_n 3, 1), (9, .iload_n 3, 1), (10, .aload_n 0, 1), (11, .getfield 162, 3), (14, .if_icmp .gt 30, 3), (17, .iload_n 2, 1), (18, .aload_n 0, 1), (19, .aload_n 0, 1), (20, .getfield 153, 3), (23, .iload_n 3, 1), (24, .iaload, 1), (25, .aload_n 0, 1), (26, .getfield 150, 3), (29, .iload_n 1, 1), (30, .iload_n 3, 1), (31, .isub, 1), (32, .iaload, 1), (33, .invokevirtual 425, 3), (36, .ixor, 1), (37, .istore_n 2, 1), (38, .iinc 3 1, 3), (41, .goto (-32), 3), (44, .iload_n 2, 1), (45, .ireturn, 1)]
set_option maxRecDepth 100000 in
theorem dk_X12_missing : dt_X12_missing.all (fun q => decide (decode cX12_missing q.1 = .ok q.2)) = true := by decide +kernel
set_option maxRecDepth 100000 in
def f_X12_missing_9  (r0 : Nat) (x1 : Int32) : Nat → Int32 → Int32 → Mem → Option (Int32 × Mem)
  | 0, _, _, _ => none
  | f + 1, x2, x3, M => (if zI M r0 49 < x3 then some (x2, M) else Option.bind (zrf M r0 46) fun q1 => Option.bind (zld q1 x3) fun k2 => Option.bind (zrf M r0 45) fun q3 => Option.bind (zld q3 (x1 - x3)) fun k4 => Option.bind (f_X12_times r0 (zI M q1 k2) (zI M q3 k4) M) fun z5 => (f_X12_missing_9 r0 x1 f) (x2 ^^^ z5.1) (x3 + 1) z5.2)
set_option maxRecDepth 100000 in
set_option maxHeartbeats 4000000 in
theorem x_X12_missing_9 {κ : KX} {n : Nat} (hC : CX κ cX12_missing RX12 4 (some .int) 1) (hE : zEnd κ n (0, 0)) (hk0 : zRk κ (0, 0)) {r0 : Nat} {x1 : Int32} (h_r0 : zO n r0 12) : ∀ (f : Nat) (x2 : Int32) (x3 : Int32) (M : Mem), X κ 4 emI n (0, 0) 9 [.ref r0, .int x1, .int x2, .int x3] [] M (f_X12_missing_9 r0 x1 f x2 x3 M) := by
  intro f
  induction f with
  | zero => intros; exact x_none
  | succ f ih =>
    intro x2 x3 M 
    rw [f_X12_missing_9]
    refine x_iload_n (i := 3) rfl hC (zdk dk_X12_missing 7 rfl) (q := 10) rfl ?_
    refine x_aload_n (i := 0) rfl hC (zdk dk_X12_missing 8 rfl) (q := 11) rfl ?_
    refine x_getI fl_RX12_162 (by decide) h_r0 hC (zdk dk_X12_missing 9 rfl) (q := 14) rfl ?_
    refine x_icmp_gt (tgt := 44) hC (zdk dk_X12_missing 10 rfl) (q := 17) rfl rfl (fun _ => ?_) (fun _ => ?_)
    · refine x_iload_n (i := 2) rfl hC (zdk dk_X12_missing 28 rfl) (q := 45) rfl ?_
      exact x_iret (ty := .int) rfl hE hC (zdk dk_X12_missing 29 rfl)
    · refine x_iload_n (i := 2) rfl hC (zdk dk_X12_missing 11 rfl) (q := 18) rfl ?_
      refine x_aload_n (i := 0) rfl hC (zdk dk_X12_missing 12 rfl) (q := 19) rfl ?_
      refine x_aload_n (i := 0) rfl hC (zdk dk_X12_missing 13 rfl) (q := 20) rfl ?_
      refine x_getR (k := 20) fl_RX12_153 rfl h_r0 hC (zdk dk_X12_missing 14 rfl) (q := 23) rfl (fun q1 hq1 => ?_)
      refine x_iload_n (i := 3) rfl hC (zdk dk_X12_missing 15 rfl) (q := 24) rfl ?_
      refine x_iald hq1 hC (zdk dk_X12_missing 16 rfl) (q := 25) rfl (fun k2 _ => ?_)
      refine x_aload_n (i := 0) rfl hC (zdk dk_X12_missing 17 rfl) (q := 26) rfl ?_
      refine x_getR (k := 20) fl_RX12_150 rfl h_r0 hC (zdk dk_X12_missing 18 rfl) (q := 29) rfl (fun q3 hq3 => ?_)
      refine x_iload_n (i := 1) rfl hC (zdk dk_X12_missing 19 rfl) (q := 30) rfl ?_
      refine x_iload_n (i := 3) rfl hC (zdk dk_X12_missing 20 rfl) (q := 31) rfl ?_
      refine x_isub hC (zdk dk_X12_missing 21 rfl) (q := 32) rfl ?_
      refine x_iald hq3 hC (zdk dk_X12_missing 22 rfl) (q := 33) rfl (fun k4 _ => ?_)
      refine x_callVi (as := [.int (zI M q1 k2), .int (zI M q3 k4)]) cb_RX12_425 rfl (by decide) hk0 h_r0 (fun x hx => t_X12_times h_r0 x hx) hC (zdk dk_X12_missing 23 rfl) (q := 36) rfl rfl (Nat.le_of_ble_eq_true rfl) (fun z5 => ?_)
      refine x_ixor hC (zdk dk_X12_missing 24 rfl) (q := 37) rfl ?_
      refine x_istore_n (i := 2) (L' := [.ref r0, .int x1, .int (x2 ^^^ z5.1), .int x3]) (by decide) rfl hC (zdk dk_X12_missing 25 rfl) (q := 38) rfl ?_
      refine x_iinc (i := 3) c_iconst_1 rfl (by decide) (L' := [.ref r0, .int x1, .int (x2 ^^^ z5.1), .int (x3 + 1)]) rfl hC (zdk dk_X12_missing 26 rfl) (q := 41) rfl ?_
      refine x_goto (tgt := 9) hC (zdk dk_X12_missing 27 rfl) rfl ?_
      refine x_weak (L' := [.ref r0, .int x1, .int (x2 ^^^ z5.1), .int (x3 + 1)]) ⟨Or.inr rfl, Or.inr rfl, Or.inr rfl, Or.inr rfl, trivial⟩ ?_
      exact ih _ _ _
set_option maxRecDepth 100000 in
def f_X12_missing (r0 : Nat) (x1 : Int32) (M : Mem) : Option (Int32 × Mem) := Option.bind (zrf M r0 45) fun q6 => Option.bind (zld q6 x1) fun k7 => f_X12_missing_9 r0 x1 1000000 (zI M q6 k7) 1 M
set_option maxRecDepth 100000 in
set_option maxHeartbeats 4000000 in
theorem x_X12_missing {κ : KX} {n : Nat} (hC : CX κ cX12_missing RX12 4 (some .int) 1) (hE : zEnd κ n (0, 0)) (hk0 : zRk κ (0, 0)) (r0 : Nat) (x1 : Int32) (M : Mem) (h_r0 : zO n r0 12) : X κ 4 emI n (0, 0) 0 [.ref r0, .int x1, .null, .null] [] M (f_X12_missing r0 x1 M) := by
  unfold f_X12_missing
  refine x_aload_n (i := 0) rfl hC (zdk dk_X12_missing 0 rfl) (q := 1) rfl ?_
  refine x_getR (k := 20) fl_RX12_150 rfl h_r0 hC (zdk dk_X12_missing 1 rfl) (q := 4) rfl (fun q6 hq6 => ?_)
  refine x_iload_n (i := 1) rfl hC (zdk dk_X12_missing 2 rfl) (q := 5) rfl ?_
  refine x_iald hq6 hC (zdk dk_X12_missing 3 rfl) (q := 6) rfl (fun k7 _ => ?_)
  refine x_istore_n (i := 2) (L' := [.ref r0, .int x1, .int (zI M q6 k7), .null]) (by decide) rfl hC (zdk dk_X12_missing 4 rfl) (q := 7) rfl ?_
  refine x_iconst (i := 1) c_iconst_1 hC (zdk dk_X12_missing 5 rfl) (q := 8) rfl ?_
  refine x_istore_n (i := 3) (L' := [.ref r0, .int x1, .int (zI M q6 k7), .int 1]) (by decide) rfl hC (zdk dk_X12_missing 6 rfl) (q := 9) rfl ?_
  refine x_weak (L' := [.ref r0, .int x1, .int (zI M q6 k7), .int 1]) ⟨Or.inr rfl, Or.inr rfl, Or.inr rfl, Or.inr rfl, trivial⟩ ?_
  exact x_X12_missing_9 hC hE hk0 h_r0 _ _ _ _
set_option maxRecDepth 100000 in
set_option maxHeartbeats 4000000 in
theorem t_X12_missing {n : Nat} {r0 : Nat} {x1 : Int32} {M : Mem} (h_r0 : zO n r0 12) (x : (Int32 × Mem)) (hx : f_X12_missing r0 x1 M = some x) (l : Launch) (dC : Nat → ClassId) (dI : Nat → Nat → Nat) (b : zSg) : MT l dC dI b yX12_missing cX12_missing 4 (some .int) 1 0 0 n n [.ref r0, .int x1] M (emI x).1 (emI x).2 :=
  MT.ofX (by decide +kernel) rfl (Nat.le_of_ble_eq_true rfl) (fun κ hC hF _ => x_X12_missing hC (zEnd_of hF (Nat.le_refl _) (Nat.le_refl _)) (zRk_of hF (Nat.le_refl _) (Nat.le_refl _)) _ _ _ h_r0) x hx
set_option maxRecDepth 100000 in
def dt_X12_locates : List (Nat × Instr × Nat) := [(0, .iconst 0, 1), (1, .istore_n 1, 1), (2, .iload_n 1, 1), (3, .bipush 14, 2), (5, .if_icmp .ge 36, 3), (8, .aload_n 0, 1), (9, .getfield 153, 3), (12, .iload_n 1, 1), (13, .iload_n 1, 1), (14, .ifCond .ne 7, 3), (17, .iconst 1, 1), (18, .goto 4, 3), (21, .iconst 0, 1), (22, .iastore, 1), (23, .aload_n 0, 1), (24, .getfield 156, 3), (27, .iload_n 1, 1), (28, .aload_n 0, 1), (29, .getfield 153, 3), (32, .iload_n 1, 1), (33, .iaload, 1), (34, .iastore, 1), (35, .iinc 1 1, 3), (38, .goto (-36), 3), (41, .aload_n 0, 1), (42, .iconst 0, 1), (43, .putfield 162, 3), (46, .iconst 1, 1), (47, .istore_n 1, 1), (48, .iconst 1, 1), (49, .istore_n 2, 1), (50, .iconst 1, 1), (51, .istore_n 3, 1), (52, .iload_n 3, 1), (53, .iconst 2, 1), (54, .aload_n 0, 1), (55, .iconst 2, 1), (56, .invokevirtual 428, 3), (59, .imul, 1), (60, .if_icmp .gt 174, 3), (63, .aload_n 0, 1), (64, .iload_n 3, 1), (65, .invokevirtual 455, 3), (68, .istore 4, 2), (70, .iload 4, 2), (72, .ifCond .ne 9, 3), (75, .iinc 1 1, 3), (78, .goto 150, 3), (81, .iconst 0, 1), (82, .istore 5, 2), (84, .iload 5, 2), (86, .bipush 14, 2), (88, .if_icmp .ge 23, 3), (91, .aload_n 0, 1), (92, .getfield 159, 3), (95, .iload 5, 2), (97, .aload_n 0, 1), (98, .getfield 153, 3), (101, .iload 5, 2), (103, .iaload, 1), (104, .iastore, 1), (105, .iinc 5 1, 3), (108, .goto (-24), 3), (111, .aload_n 0, 1), (112, .iload 4, 2), (114, .aload_n 0, 1), (115, .iload_n 2, 1), (116, .invokevirtual 458, 3), (119, .invokevirtual 425, 3), (122, .istore 5, 2), (124, .iload_n 1, 1), (125, .istore 6, 2), (127, .iload 6, 2), (129, .bipush 14, 2), (131, .if_icmp .ge 34, 3), (134, .aload_n 0, 1), (135, .getfield 153, 3), (138, .iload 6, 2), (140, .dup2, 1), (141, .iaload, 1), (142, .aload_n 0, 1), (143, .iload 5, 2), (145, .aload_n 0, 1), (146, .getfield 156, 3), (149, .iload 6, 2), (151, .iload_n 1, 1), (152, .isub, 1), (153, .iaload, 1), (154, .invokevirtual 425, 3), (157, .ixor, 1), (158, .iastore, 1), (159, .iinc 6 1, 3), (162, .goto (-35), 3), (165, .iconst 2, 1), (166, .aload_n 0, 1), (167, .getfield 162, 3), (170, .imul, 1), (171, .iload_n 3, 1), (172, .iconst 1, 1), (173, .isub, 1), (174, .if_icmp .le 9, 3), (177, .iinc 1 1, 3), (180, .goto 48, 3), (183, .aload_n 0, 1), (184, .iload_n 3, 1), (185, .aload_n 0, 1), (186, .getfield 162, 3), (189, .isub, 1), (190, .putfield 162, 3), (193, .iconst 0, 1), (194, .istore 6, 2), (196, .iload 6, 2), (198, .bipush 14, 2), (200, .if_icmp .ge 23, 3), (203, .aload_n 0, 1), (204, .getfield 156, 3), (207, .iload 6, 2), (209, .aload_n 0, 1), (210, .getfield 159, 3), (213, .iload 6, 2), (215, .iaload, 1), (216, .iastore, 1), (217, .iinc 6 1, 3), (220, .goto (-24), 3), (223, .iload 4, 2), (225, .istore_n 2, 1), (226, .iconst 1, 1), (227, .istore_n 1, 1), (228, .iinc 3 1, 3), (231, .goto (-179), 3), (234, .return_, 1)]
set_option maxRecDepth 100000 in
theorem dk_X12_locates : dt_X12_locates.all (fun q => decide (decode cX12_locates q.1 = .ok q.2)) = true := by decide +kernel
set_option maxRecDepth 100000 in
def f_X12_locates_22 (k2 : Int32 → Mem → Option Mem) (r0 : Nat) (x1 : Int32) (s0 : Nat) (s1 : Int32) (s2 : Int32) (M : Mem) : Option Mem := Option.bind (zld s0 s1) fun k1 => Option.bind (some (zsI M s0 k1 s2)) fun M2 => Option.bind (zrf M2 r0 47) fun q3 => Option.bind (zrf M2 r0 46) fun q4 => Option.bind (zld q4 x1) fun k5 => Option.bind (zld q3 x1) fun k6 => Option.bind (some (zsI M2 q3 k6 (zI M2 q4 k5))) fun M7 => k2 (x1 + 1) M7
set_option maxRecDepth 100000 in
set_option maxHeartbeats 4000000 in
theorem x_X12_locates_22 {κ : KX} {n : Nat} (hC : CX κ cX12_locates RX12 7 none 2) (hE : zEnd κ n (0, 0)) (hk0 : zRk κ (0, 0)) {r0 : Nat} (h_r0 : zO n r0 12) (k2 : Int32 → Mem → Option Mem) (hk2 : ∀ (x1 : Int32) (M : Mem), X κ 7 emV n (0, 0) 2 [.ref r0, .int x1, .null, .null, .null, .null, .null] [] M (k2 x1 M)) (x1 : Int32) (s0 : Nat) (s1 : Int32) (s2 : Int32) (M : Mem) (h_s0 : zO n s0 20) : X κ 7 emV n (0, 0) 22 [.ref r0, .int x1, .null, .null, .null, .null, .null] [.int s2, .int s1, .ref s0] M (f_X12_locates_22 k2 r0 x1 s0 s1 s2 M) := by
  unfold f_X12_locates_22
  refine x_iast h_s0 hC (zdk dk_X12_locates 13 rfl) (q := 23) rfl (fun k1 _ => ?_)
  refine x_nmM (fun M2 => ?_)
  refine x_aload_n (i := 0) rfl hC (zdk dk_X12_locates 14 rfl) (q := 24) rfl ?_
  refine x_getR (k := 20) fl_RX12_156 rfl h_r0 hC (zdk dk_X12_locates 15 rfl) (q := 27) rfl (fun q3 hq3 => ?_)
  refine x_iload_n (i := 1) rfl hC (zdk dk_X12_locates 16 rfl) (q := 28) rfl ?_
  refine x_aload_n (i := 0) rfl hC (zdk dk_X12_locates 17 rfl) (q := 29) rfl ?_
  refine x_getR (k := 20) fl_RX12_153 rfl h_r0 hC (zdk dk_X12_locates 18 rfl) (q := 32) rfl (fun q4 hq4 => ?_)
  refine x_iload_n (i := 1) rfl hC (zdk dk_X12_locates 19 rfl) (q := 33) rfl ?_
  refine x_iald hq4 hC (zdk dk_X12_locates 20 rfl) (q := 34) rfl (fun k5 _ => ?_)
  refine x_iast hq3 hC (zdk dk_X12_locates 21 rfl) (q := 35) rfl (fun k6 _ => ?_)
  refine x_nmM (fun M7 => ?_)
  refine x_iinc (i := 1) c_iconst_1 rfl (by decide) (L' := [.ref r0, .int (x1 + 1), .null, .null, .null, .null, .null]) rfl hC (zdk dk_X12_locates 22 rfl) (q := 38) rfl ?_
  refine x_goto (tgt := 2) hC (zdk dk_X12_locates 23 rfl) rfl ?_
  refine x_weak (L' := [.ref r0, .int (x1 + 1), .null, .null, .null, .null, .null]) ⟨Or.inr rfl, Or.inr rfl, Or.inl rfl, Or.inl rfl, Or.inl rfl, Or.inl rfl, Or.inl rfl, trivial⟩ ?_
  exact hk2 _ _
set_option maxRecDepth 100000 in
def f_X12_locates_228 (k52 : Int32 → Int32 → Int32 → Mem → Option Mem) (r0 : Nat) (x1 : Int32) (x2 : Int32) (x3 : Int32) (M : Mem) : Option Mem := k52 x1 x2 (x3 + 1) M
set_option maxRecDepth 100000 in
set_option maxHeartbeats 4000000 in
theorem x_X12_locates_228 {κ : KX} {n : Nat} (hC : CX κ cX12_locates RX12 7 none 2) (hE : zEnd κ n (0, 0)) (hk0 : zRk κ (0, 0)) {r0 : Nat} (h_r0 : zO n r0 12) (k52 : Int32 → Int32 → Int32 → Mem → Option Mem) (hk52 : ∀ (x1 : Int32) (x2 : Int32) (x3 : Int32) (M : Mem), X κ 7 emV n (0, 0) 52 [.ref r0, .int x1, .int x2, .int x3, .null, .null, .null] [] M (k52 x1 x2 x3 M)) (x1 : Int32) (x2 : Int32) (x3 : Int32) (M : Mem) : X κ 7 emV n (0, 0) 228 [.ref r0, .int x1, .int x2, .int x3, .null, .null, .null] [] M (f_X12_locates_228 k52 r0 x1 x2 x3 M) := by
  unfold f_X12_locates_228
  refine x_iinc (i := 3) c_iconst_1 rfl (by decide) (L' := [.ref r0, .int x1, .int x2, .int (x3 + 1), .null, .null, .null]) rfl hC (zdk dk_X12_locates 128 rfl) (q := 231) rfl ?_
  refine x_goto (tgt := 52) hC (zdk dk_X12_locates 129 rfl) rfl ?_
  refine x_weak (L' := [.ref r0, .int x1, .int x2, .int (x3 + 1), .null, .null, .null]) ⟨Or.inr rfl, Or.inr rfl, Or.inr rfl, Or.inr rfl, Or.inl rfl, Or.inl rfl, Or.inl rfl, trivial⟩ ?_
  exact hk52 _ _ _ _
set_option maxRecDepth 100000 in
def f_X12_locates_196 (k52 : Int32 → Int32 → Int32 → Mem → Option Mem) (r0 : Nat) : Nat → Int32 → Int32 → Int32 → Mem → Option Mem
  | 0, _, _, _, _ => none
  | f + 1, x3, x4, x6, M => (if 14 ≤ x6 then f_X12_locates_228 k52 r0 1 x4 x3 M else Option.bind (zrf M r0 47) fun q8 => Option.bind (zrf M r0 48) fun q9 => Option.bind (zld q9 x6) fun k10 => Option.bind (zld q8 x6) fun k11 => Option.bind (some (zsI M q8 k11 (zI M q9 k10))) fun M12 => (f_X12_locates_196 k52 r0 f) x3 x4 (x6 + 1) M12)
set_option maxRecDepth 100000 in
set_option maxHeartbeats 4000000 in
theorem x_X12_locates_196 {κ : KX} {n : Nat} (hC : CX κ cX12_locates RX12 7 none 2) (hE : zEnd κ n (0, 0)) (hk0 : zRk κ (0, 0)) {r0 : Nat} (h_r0 : zO n r0 12) (k52 : Int32 → Int32 → Int32 → Mem → Option Mem) (hk52 : ∀ (x1 : Int32) (x2 : Int32) (x3 : Int32) (M : Mem), X κ 7 emV n (0, 0) 52 [.ref r0, .int x1, .int x2, .int x3, .null, .null, .null] [] M (k52 x1 x2 x3 M)) : ∀ (f : Nat) (x3 : Int32) (x4 : Int32) (x6 : Int32) (M : Mem), X κ 7 emV n (0, 0) 196 [.ref r0, .null, .null, .int x3, .int x4, .null, .int x6] [] M (f_X12_locates_196 k52 r0 f x3 x4 x6 M) := by
  intro f
  induction f with
  | zero => intros; exact x_none
  | succ f ih =>
    intro x3 x4 x6 M 
    rw [f_X12_locates_196]
    refine x_iload (i := 6) rfl hC (zdk dk_X12_locates 111 rfl) (q := 198) rfl ?_
    refine x_bipush (i := 14) c_bipush_14 hC (zdk dk_X12_locates 112 rfl) (q := 200) rfl ?_
    refine x_icmp_ge (tgt := 223) hC (zdk dk_X12_locates 113 rfl) (q := 203) rfl rfl (fun _ => ?_) (fun _ => ?_)
    · refine x_iload (i := 4) rfl hC (zdk dk_X12_locates 124 rfl) (q := 225) rfl ?_
      refine x_istore_n (i := 2) (L' := [.ref r0, .null, .int x4, .int x3, .int x4, .null, .int x6]) (by decide) rfl hC (zdk dk_X12_locates 125 rfl) (q := 226) rfl ?_
      refine x_iconst (i := 1) c_iconst_1 hC (zdk dk_X12_locates 126 rfl) (q := 227) rfl ?_
      refine x_istore_n (i := 1) (L' := [.ref r0, .int 1, .int x4, .int x3, .int x4, .null, .int x6]) (by decide) rfl hC (zdk dk_X12_locates 127 rfl) (q := 228) rfl ?_
      refine x_weak (L' := [.ref r0, .int 1, .int x4, .int x3, .null, .null, .null]) ⟨Or.inr rfl, Or.inr rfl, Or.inr rfl, Or.inr rfl, Or.inl rfl, Or.inl rfl, Or.inl rfl, trivial⟩ ?_
      exact x_X12_locates_228 hC hE hk0 h_r0 k52 hk52 _ _ _ _
    · refine x_aload_n (i := 0) rfl hC (zdk dk_X12_locates 114 rfl) (q := 204) rfl ?_
      refine x_getR (k := 20) fl_RX12_156 rfl h_r0 hC (zdk dk_X12_locates 115 rfl) (q := 207) rfl (fun q8 hq8 => ?_)
      refine x_iload (i := 6) rfl hC (zdk dk_X12_locates 116 rfl) (q := 209) rfl ?_
      refine x_aload_n (i := 0) rfl hC (zdk dk_X12_locates 117 rfl) (q := 210) rfl ?_
      refine x_getR (k := 20) fl_RX12_159 rfl h_r0 hC (zdk dk_X12_locates 118 rfl) (q := 213) rfl (fun q9 hq9 => ?_)
      refine x_iload (i := 6) rfl hC (zdk dk_X12_locates 119 rfl) (q := 215) rfl ?_
      refine x_iald hq9 hC (zdk dk_X12_locates 120 rfl) (q := 216) rfl (fun k10 _ => ?_)
      refine x_iast hq8 hC (zdk dk_X12_locates 121 rfl) (q := 217) rfl (fun k11 _ => ?_)
      refine x_nmM (fun M12 => ?_)
      refine x_iinc (i := 6) c_iconst_1 rfl (by decide) (L' := [.ref r0, .null, .null, .int x3, .int x4, .null, .int (x6 + 1)]) rfl hC (zdk dk_X12_locates 122 rfl) (q := 220) rfl ?_
      refine x_goto (tgt := 196) hC (zdk dk_X12_locates 123 rfl) rfl ?_
      refine x_weak (L' := [.ref r0, .null, .null, .int x3, .int x4, .null, .int (x6 + 1)]) ⟨Or.inr rfl, Or.inl rfl, Or.inl rfl, Or.inr rfl, Or.inr rfl, Or.inl rfl, Or.inr rfl, trivial⟩ ?_
      exact ih _ _ _ _
set_option maxRecDepth 100000 in
def f_X12_locates_127 (k52 : Int32 → Int32 → Int32 → Mem → Option Mem) (r0 : Nat) : Nat → Int32 → Int32 → Int32 → Int32 → Int32 → Int32 → Mem → Option Mem
  | 0, _, _, _, _, _, _, _ => none
  | f + 1, x1, x2, x3, x4, x5, x6, M => (if 14 ≤ x6 then (if 2 * (zI M r0 49) ≤ x3 - 1 then Option.bind (some (zsI M r0 49 (x3 - (zI M r0 49)))) fun M13 => f_X12_locates_196 k52 r0 1000000 x3 x4 0 M13 else f_X12_locates_228 k52 r0 (x1 + 1) x2 x3 M) else Option.bind (zrf M r0 46) fun q14 => Option.bind (zld q14 x6) fun k15 => Option.bind (zrf M r0 47) fun q16 => Option.bind (zld q16 (x6 - x1)) fun k17 => Option.bind (f_X12_times r0 x5 (zI M q16 k17) M) fun z18 => Option.bind (zld q14 x6) fun k19 => Option.bind (some (zsI z18.2 q14 k19 ((zI M q14 k15) ^^^ z18.1))) fun M20 => (f_X12_locates_127 k52 r0 f) x1 x2 x3 x4 x5 (x6 + 1) M20)
set_option maxRecDepth 100000 in
set_option maxHeartbeats 4000000 in
theorem x_X12_locates_127 {κ : KX} {n : Nat} (hC : CX κ cX12_locates RX12 7 none 2) (hE : zEnd κ n (0, 0)) (hk0 : zRk κ (0, 0)) {r0 : Nat} (h_r0 : zO n r0 12) (k52 : Int32 → Int32 → Int32 → Mem → Option Mem) (hk52 : ∀ (x1 : Int32) (x2 : Int32) (x3 : Int32) (M : Mem), X κ 7 emV n (0, 0) 52 [.ref r0, .int x1, .int x2, .int x3, .null, .null, .null] [] M (k52 x1 x2 x3 M)) : ∀ (f : Nat) (x1 : Int32) (x2 : Int32) (x3 : Int32) (x4 : Int32) (x5 : Int32) (x6 : Int32) (M : Mem), X κ 7 emV n (0, 0) 127 [.ref r0, .int x1, .int x2, .int x3, .int x4, .int x5, .int x6] [] M (f_X12_locates_127 k52 r0 f x1 x2 x3 x4 x5 x6 M) := by
  intro f
  induction f with
  | zero => intros; exact x_none
  | succ f ih =>
    intro x1 x2 x3 x4 x5 x6 M 
    rw [f_X12_locates_127]
    refine x_iload (i := 6) rfl hC (zdk dk_X12_locates 72 rfl) (q := 129) rfl ?_
    refine x_bipush (i := 14) c_bipush_14 hC (zdk dk_X12_locates 73 rfl) (q := 131) rfl ?_
    refine x_icmp_ge (tgt := 165) hC (zdk dk_X12_locates 74 rfl) (q := 134) rfl rfl (fun _ => ?_) (fun _ => ?_)
    · refine x_iconst (i := 2) c_iconst_2 hC (zdk dk_X12_locates 93 rfl) (q := 166) rfl ?_
      refine x_aload_n (i := 0) rfl hC (zdk dk_X12_locates 94 rfl) (q := 167) rfl ?_
      refine x_getI fl_RX12_162 (by decide) h_r0 hC (zdk dk_X12_locates 95 rfl) (q := 170) rfl ?_
      refine x_imul hC (zdk dk_X12_locates 96 rfl) (q := 171) rfl ?_
      refine x_iload_n (i := 3) rfl hC (zdk dk_X12_locates 97 rfl) (q := 172) rfl ?_
      refine x_iconst (i := 1) c_iconst_1 hC (zdk dk_X12_locates 98 rfl) (q := 173) rfl ?_
      refine x_isub hC (zdk dk_X12_locates 99 rfl) (q := 174) rfl ?_
      refine x_icmp_le (tgt := 183) hC (zdk dk_X12_locates 100 rfl) (q := 177) rfl rfl (fun _ => ?_) (fun _ => ?_)
      · refine x_aload_n (i := 0) rfl hC (zdk dk_X12_locates 103 rfl) (q := 184) rfl ?_
        refine x_iload_n (i := 3) rfl hC (zdk dk_X12_locates 104 rfl) (q := 185) rfl ?_
        refine x_aload_n (i := 0) rfl hC (zdk dk_X12_locates 105 rfl) (q := 186) rfl ?_
        refine x_getI fl_RX12_162 (by decide) h_r0 hC (zdk dk_X12_locates 106 rfl) (q := 189) rfl ?_
        refine x_isub hC (zdk dk_X12_locates 107 rfl) (q := 190) rfl ?_
        refine x_putI fl_RX12_162 ⟨rfl, rfl⟩ (by decide) (Or.inl rfl) h_r0 hC (zdk dk_X12_locates 108 rfl) (q := 193) rfl ?_
        refine x_nmM (fun M13 => ?_)
        refine x_iconst (i := 0) c_iconst_0 hC (zdk dk_X12_locates 109 rfl) (q := 194) rfl ?_
        refine x_istore (i := 6) (L' := [.ref r0, .int x1, .int x2, .int x3, .int x4, .int x5, .int 0]) (by decide) rfl hC (zdk dk_X12_locates 110 rfl) (q := 196) rfl ?_
        refine x_weak (L' := [.ref r0, .null, .null, .int x3, .int x4, .null, .int 0]) ⟨Or.inr rfl, Or.inl rfl, Or.inl rfl, Or.inr rfl, Or.inr rfl, Or.inl rfl, Or.inr rfl, trivial⟩ ?_
        exact x_X12_locates_196 hC hE hk0 h_r0 k52 hk52 _ _ _ _ _
      · refine x_iinc (i := 1) c_iconst_1 rfl (by decide) (L' := [.ref r0, .int (x1 + 1), .int x2, .int x3, .int x4, .int x5, .int x6]) rfl hC (zdk dk_X12_locates 101 rfl) (q := 180) rfl ?_
        refine x_goto (tgt := 228) hC (zdk dk_X12_locates 102 rfl) rfl ?_
        refine x_weak (L' := [.ref r0, .int (x1 + 1), .int x2, .int x3, .null, .null, .null]) ⟨Or.inr rfl, Or.inr rfl, Or.inr rfl, Or.inr rfl, Or.inl rfl, Or.inl rfl, Or.inl rfl, trivial⟩ ?_
        exact x_X12_locates_228 hC hE hk0 h_r0 k52 hk52 _ _ _ _
    · refine x_aload_n (i := 0) rfl hC (zdk dk_X12_locates 75 rfl) (q := 135) rfl ?_
      refine x_getR (k := 20) fl_RX12_153 rfl h_r0 hC (zdk dk_X12_locates 76 rfl) (q := 138) rfl (fun q14 hq14 => ?_)
      refine x_iload (i := 6) rfl hC (zdk dk_X12_locates 77 rfl) (q := 140) rfl ?_
      refine x_dup2 rfl rfl hC (zdk dk_X12_locates 78 rfl) (q := 141) rfl ?_
      refine x_iald hq14 hC (zdk dk_X12_locates 79 rfl) (q := 142) rfl (fun k15 _ => ?_)
      refine x_aload_n (i := 0) rfl hC (zdk dk_X12_locates 80 rfl) (q := 143) rfl ?_
      refine x_iload (i := 5) rfl hC (zdk dk_X12_locates 81 rfl) (q := 145) rfl ?_
      refine x_aload_n (i := 0) rfl hC (zdk dk_X12_locates 82 rfl) (q := 146) rfl ?_
      refine x_getR (k := 20) fl_RX12_156 rfl h_r0 hC (zdk dk_X12_locates 83 rfl) (q := 149) rfl (fun q16 hq16 => ?_)
      refine x_iload (i := 6) rfl hC (zdk dk_X12_locates 84 rfl) (q := 151) rfl ?_
      refine x_iload_n (i := 1) rfl hC (zdk dk_X12_locates 85 rfl) (q := 152) rfl ?_
      refine x_isub hC (zdk dk_X12_locates 86 rfl) (q := 153) rfl ?_
      refine x_iald hq16 hC (zdk dk_X12_locates 87 rfl) (q := 154) rfl (fun k17 _ => ?_)
      refine x_callVi (as := [.int x5, .int (zI M q16 k17)]) cb_RX12_425 rfl (by decide) hk0 h_r0 (fun x hx => t_X12_times h_r0 x hx) hC (zdk dk_X12_locates 88 rfl) (q := 157) rfl rfl (Nat.le_of_ble_eq_true rfl) (fun z18 => ?_)
      refine x_ixor hC (zdk dk_X12_locates 89 rfl) (q := 158) rfl ?_
      refine x_iast hq14 hC (zdk dk_X12_locates 90 rfl) (q := 159) rfl (fun k19 _ => ?_)
      refine x_nmM (fun M20 => ?_)
      refine x_iinc (i := 6) c_iconst_1 rfl (by decide) (L' := [.ref r0, .int x1, .int x2, .int x3, .int x4, .int x5, .int (x6 + 1)]) rfl hC (zdk dk_X12_locates 91 rfl) (q := 162) rfl ?_
      refine x_goto (tgt := 127) hC (zdk dk_X12_locates 92 rfl) rfl ?_
      refine x_weak (L' := [.ref r0, .int x1, .int x2, .int x3, .int x4, .int x5, .int (x6 + 1)]) ⟨Or.inr rfl, Or.inr rfl, Or.inr rfl, Or.inr rfl, Or.inr rfl, Or.inr rfl, Or.inr rfl, trivial⟩ ?_
      exact ih _ _ _ _ _ _ _
set_option maxRecDepth 100000 in
def f_X12_locates_84 (k52 : Int32 → Int32 → Int32 → Mem → Option Mem) (r0 : Nat) : Nat → Int32 → Int32 → Int32 → Int32 → Int32 → Mem → Option Mem
  | 0, _, _, _, _, _, _ => none
  | f + 1, x1, x2, x3, x4, x5, M => (if 14 ≤ x5 then Option.bind (f_X12_inverse r0 x2 M) fun z21 => Option.bind (f_X12_times r0 x4 z21.1 z21.2) fun z22 => f_X12_locates_127 k52 r0 1000000 x1 x2 x3 x4 z22.1 x1 z22.2 else Option.bind (zrf M r0 48) fun q23 => Option.bind (zrf M r0 46) fun q24 => Option.bind (zld q24 x5) fun k25 => Option.bind (zld q23 x5) fun k26 => Option.bind (some (zsI M q23 k26 (zI M q24 k25))) fun M27 => (f_X12_locates_84 k52 r0 f) x1 x2 x3 x4 (x5 + 1) M27)
set_option maxRecDepth 100000 in
set_option maxHeartbeats 4000000 in
theorem x_X12_locates_84 {κ : KX} {n : Nat} (hC : CX κ cX12_locates RX12 7 none 2) (hE : zEnd κ n (0, 0)) (hk0 : zRk κ (0, 0)) {r0 : Nat} (h_r0 : zO n r0 12) (k52 : Int32 → Int32 → Int32 → Mem → Option Mem) (hk52 : ∀ (x1 : Int32) (x2 : Int32) (x3 : Int32) (M : Mem), X κ 7 emV n (0, 0) 52 [.ref r0, .int x1, .int x2, .int x3, .null, .null, .null] [] M (k52 x1 x2 x3 M)) : ∀ (f : Nat) (x1 : Int32) (x2 : Int32) (x3 : Int32) (x4 : Int32) (x5 : Int32) (M : Mem), X κ 7 emV n (0, 0) 84 [.ref r0, .int x1, .int x2, .int x3, .int x4, .int x5, .null] [] M (f_X12_locates_84 k52 r0 f x1 x2 x3 x4 x5 M) := by
  intro f
  induction f with
  | zero => intros; exact x_none
  | succ f ih =>
    intro x1 x2 x3 x4 x5 M 
    rw [f_X12_locates_84]
    refine x_iload (i := 5) rfl hC (zdk dk_X12_locates 50 rfl) (q := 86) rfl ?_
    refine x_bipush (i := 14) c_bipush_14 hC (zdk dk_X12_locates 51 rfl) (q := 88) rfl ?_
    refine x_icmp_ge (tgt := 111) hC (zdk dk_X12_locates 52 rfl) (q := 91) rfl rfl (fun _ => ?_) (fun _ => ?_)
    · refine x_aload_n (i := 0) rfl hC (zdk dk_X12_locates 63 rfl) (q := 112) rfl ?_
      refine x_iload (i := 4) rfl hC (zdk dk_X12_locates 64 rfl) (q := 114) rfl ?_
      refine x_aload_n (i := 0) rfl hC (zdk dk_X12_locates 65 rfl) (q := 115) rfl ?_
      refine x_iload_n (i := 2) rfl hC (zdk dk_X12_locates 66 rfl) (q := 116) rfl ?_
      refine x_callVi (as := [.int x2]) cb_RX12_458 rfl (by decide) hk0 h_r0 (fun x hx => t_X12_inverse h_r0 x hx) hC (zdk dk_X12_locates 67 rfl) (q := 119) rfl rfl (Nat.le_of_ble_eq_true rfl) (fun z21 => ?_)
      refine x_callVi (as := [.int x4, .int z21.1]) cb_RX12_425 rfl (by decide) hk0 h_r0 (fun x hx => t_X12_times h_r0 x hx) hC (zdk dk_X12_locates 68 rfl) (q := 122) rfl rfl (Nat.le_of_ble_eq_true rfl) (fun z22 => ?_)
      refine x_istore (i := 5) (L' := [.ref r0, .int x1, .int x2, .int x3, .int x4, .int z22.1, .null]) (by decide) rfl hC (zdk dk_X12_locates 69 rfl) (q := 124) rfl ?_
      refine x_iload_n (i := 1) rfl hC (zdk dk_X12_locates 70 rfl) (q := 125) rfl ?_
      refine x_istore (i := 6) (L' := [.ref r0, .int x1, .int x2, .int x3, .int x4, .int z22.1, .int x1]) (by decide) rfl hC (zdk dk_X12_locates 71 rfl) (q := 127) rfl ?_
      refine x_weak (L' := [.ref r0, .int x1, .int x2, .int x3, .int x4, .int z22.1, .int x1]) ⟨Or.inr rfl, Or.inr rfl, Or.inr rfl, Or.inr rfl, Or.inr rfl, Or.inr rfl, Or.inr rfl, trivial⟩ ?_
      exact x_X12_locates_127 hC hE hk0 h_r0 k52 hk52 _ _ _ _ _ _ _ _
    · refine x_aload_n (i := 0) rfl hC (zdk dk_X12_locates 53 rfl) (q := 92) rfl ?_
      refine x_getR (k := 20) fl_RX12_159 rfl h_r0 hC (zdk dk_X12_locates 54 rfl) (q := 95) rfl (fun q23 hq23 => ?_)
      refine x_iload (i := 5) rfl hC (zdk dk_X12_locates 55 rfl) (q := 97) rfl ?_
      refine x_aload_n (i := 0) rfl hC (zdk dk_X12_locates 56 rfl) (q := 98) rfl ?_
      refine x_getR (k := 20) fl_RX12_153 rfl h_r0 hC (zdk dk_X12_locates 57 rfl) (q := 101) rfl (fun q24 hq24 => ?_)
      refine x_iload (i := 5) rfl hC (zdk dk_X12_locates 58 rfl) (q := 103) rfl ?_
      refine x_iald hq24 hC (zdk dk_X12_locates 59 rfl) (q := 104) rfl (fun k25 _ => ?_)
      refine x_iast hq23 hC (zdk dk_X12_locates 60 rfl) (q := 105) rfl (fun k26 _ => ?_)
      refine x_nmM (fun M27 => ?_)
      refine x_iinc (i := 5) c_iconst_1 rfl (by decide) (L' := [.ref r0, .int x1, .int x2, .int x3, .int x4, .int (x5 + 1), .null]) rfl hC (zdk dk_X12_locates 61 rfl) (q := 108) rfl ?_
      refine x_goto (tgt := 84) hC (zdk dk_X12_locates 62 rfl) rfl ?_
      refine x_weak (L' := [.ref r0, .int x1, .int x2, .int x3, .int x4, .int (x5 + 1), .null]) ⟨Or.inr rfl, Or.inr rfl, Or.inr rfl, Or.inr rfl, Or.inr rfl, Or.inr rfl, Or.inl rfl, trivial⟩ ?_
      exact ih _ _ _ _ _ _
set_option maxRecDepth 100000 in
def f_X12_locates_52  (r0 : Nat) : Nat → Int32 → Int32 → Int32 → Mem → Option Mem
  | 0, _, _, _, _ => none
  | f + 1, x1, x2, x3, M => Option.bind (f_X12_by r0 2 M) fun z28 => (if 2 * z28.1 < x3 then some z28.2 else Option.bind (f_X12_missing r0 x3 z28.2) fun z29 => (if z29.1 = 0 then f_X12_locates_228 (f_X12_locates_52 r0 f) r0 (x1 + 1) x2 x3 z29.2 else f_X12_locates_84 (f_X12_locates_52 r0 f) r0 1000000 x1 x2 x3 z29.1 0 z29.2))
set_option maxRecDepth 100000 in
set_option maxHeartbeats 4000000 in
theorem x_X12_locates_52 {κ : KX} {n : Nat} (hC : CX κ cX12_locates RX12 7 none 2) (hE : zEnd κ n (0, 0)) (hk0 : zRk κ (0, 0)) {r0 : Nat} (h_r0 : zO n r0 12) : ∀ (f : Nat) (x1 : Int32) (x2 : Int32) (x3 : Int32) (M : Mem), X κ 7 emV n (0, 0) 52 [.ref r0, .int x1, .int x2, .int x3, .null, .null, .null] [] M (f_X12_locates_52 r0 f x1 x2 x3 M) := by
  intro f
  induction f with
  | zero => intros; exact x_none
  | succ f ih =>
    intro x1 x2 x3 M 
    rw [f_X12_locates_52]
    refine x_iload_n (i := 3) rfl hC (zdk dk_X12_locates 33 rfl) (q := 53) rfl ?_
    refine x_iconst (i := 2) c_iconst_2 hC (zdk dk_X12_locates 34 rfl) (q := 54) rfl ?_
    refine x_aload_n (i := 0) rfl hC (zdk dk_X12_locates 35 rfl) (q := 55) rfl ?_
    refine x_iconst (i := 2) c_iconst_2 hC (zdk dk_X12_locates 36 rfl) (q := 56) rfl ?_
    refine x_callVi (as := [.int 2]) cb_RX12_428 rfl (by decide) hk0 h_r0 (fun x hx => t_X12_by h_r0 x hx) hC (zdk dk_X12_locates 37 rfl) (q := 59) rfl rfl (Nat.le_of_ble_eq_true rfl) (fun z28 => ?_)
    refine x_imul hC (zdk dk_X12_locates 38 rfl) (q := 60) rfl ?_
    refine x_icmp_gt (tgt := 234) hC (zdk dk_X12_locates 39 rfl) (q := 63) rfl rfl (fun _ => ?_) (fun _ => ?_)
    · exact x_vret hE hC (zdk dk_X12_locates 130 rfl)
    · refine x_aload_n (i := 0) rfl hC (zdk dk_X12_locates 40 rfl) (q := 64) rfl ?_
      refine x_iload_n (i := 3) rfl hC (zdk dk_X12_locates 41 rfl) (q := 65) rfl ?_
      refine x_callVi (as := [.int x3]) cb_RX12_455 rfl (by decide) hk0 h_r0 (fun x hx => t_X12_missing h_r0 x hx) hC (zdk dk_X12_locates 42 rfl) (q := 68) rfl rfl (Nat.le_of_ble_eq_true rfl) (fun z29 => ?_)
      refine x_istore (i := 4) (L' := [.ref r0, .int x1, .int x2, .int x3, .int z29.1, .null, .null]) (by decide) rfl hC (zdk dk_X12_locates 43 rfl) (q := 70) rfl ?_
      refine x_iload (i := 4) rfl hC (zdk dk_X12_locates 44 rfl) (q := 72) rfl ?_
      refine x_if_ne (tgt := 81) hC (zdk dk_X12_locates 45 rfl) (q := 75) rfl rfl (fun _ => ?_) (fun _ => ?_)
      · refine x_iconst (i := 0) c_iconst_0 hC (zdk dk_X12_locates 48 rfl) (q := 82) rfl ?_
        refine x_istore (i := 5) (L' := [.ref r0, .int x1, .int x2, .int x3, .int z29.1, .int 0, .null]) (by decide) rfl hC (zdk dk_X12_locates 49 rfl) (q := 84) rfl ?_
        refine x_weak (L' := [.ref r0, .int x1, .int x2, .int x3, .int z29.1, .int 0, .null]) ⟨Or.inr rfl, Or.inr rfl, Or.inr rfl, Or.inr rfl, Or.inr rfl, Or.inr rfl, Or.inl rfl, trivial⟩ ?_
        exact x_X12_locates_84 hC hE hk0 h_r0 (f_X12_locates_52 r0 f) ih _ _ _ _ _ _ _
      · refine x_iinc (i := 1) c_iconst_1 rfl (by decide) (L' := [.ref r0, .int (x1 + 1), .int x2, .int x3, .int z29.1, .null, .null]) rfl hC (zdk dk_X12_locates 46 rfl) (q := 78) rfl ?_
        refine x_goto (tgt := 228) hC (zdk dk_X12_locates 47 rfl) rfl ?_
        refine x_weak (L' := [.ref r0, .int (x1 + 1), .int x2, .int x3, .null, .null, .null]) ⟨Or.inr rfl, Or.inr rfl, Or.inr rfl, Or.inr rfl, Or.inl rfl, Or.inl rfl, Or.inl rfl, trivial⟩ ?_
        exact x_X12_locates_228 hC hE hk0 h_r0 (f_X12_locates_52 r0 f) ih _ _ _ _
set_option maxRecDepth 100000 in
def f_X12_locates_2  (r0 : Nat) : Nat → Int32 → Mem → Option Mem
  | 0, _, _ => none
  | f + 1, x1, M => (if 14 ≤ x1 then Option.bind (some (zsI M r0 49 0)) fun M30 => f_X12_locates_52 r0 1000000 1 1 1 M30 else Option.bind (zrf M r0 46) fun q31 => (if x1 = 0 then f_X12_locates_22 (f_X12_locates_2 r0 f) r0 x1 q31 x1 1 M else f_X12_locates_22 (f_X12_locates_2 r0 f) r0 x1 q31 x1 0 M))
set_option maxRecDepth 100000 in
set_option maxHeartbeats 4000000 in
theorem x_X12_locates_2 {κ : KX} {n : Nat} (hC : CX κ cX12_locates RX12 7 none 2) (hE : zEnd κ n (0, 0)) (hk0 : zRk κ (0, 0)) {r0 : Nat} (h_r0 : zO n r0 12) : ∀ (f : Nat) (x1 : Int32) (M : Mem), X κ 7 emV n (0, 0) 2 [.ref r0, .int x1, .null, .null, .null, .null, .null] [] M (f_X12_locates_2 r0 f x1 M) := by
  intro f
  induction f with
  | zero => intros; exact x_none
  | succ f ih =>
    intro x1 M 
    rw [f_X12_locates_2]
    refine x_iload_n (i := 1) rfl hC (zdk dk_X12_locates 2 rfl) (q := 3) rfl ?_
    refine x_bipush (i := 14) c_bipush_14 hC (zdk dk_X12_locates 3 rfl) (q := 5) rfl ?_
    refine x_icmp_ge (tgt := 41) hC (zdk dk_X12_locates 4 rfl) (q := 8) rfl rfl (fun _ => ?_) (fun _ => ?_)
    · refine x_aload_n (i := 0) rfl hC (zdk dk_X12_locates 24 rfl) (q := 42) rfl ?_
      refine x_iconst (i := 0) c_iconst_0 hC (zdk dk_X12_locates 25 rfl) (q := 43) rfl ?_
      refine x_putI fl_RX12_162 ⟨rfl, rfl⟩ (by decide) (Or.inl rfl) h_r0 hC (zdk dk_X12_locates 26 rfl) (q := 46) rfl ?_
      refine x_nmM (fun M30 => ?_)
      refine x_iconst (i := 1) c_iconst_1 hC (zdk dk_X12_locates 27 rfl) (q := 47) rfl ?_
      refine x_istore_n (i := 1) (L' := [.ref r0, .int 1, .null, .null, .null, .null, .null]) (by decide) rfl hC (zdk dk_X12_locates 28 rfl) (q := 48) rfl ?_
      refine x_iconst (i := 1) c_iconst_1 hC (zdk dk_X12_locates 29 rfl) (q := 49) rfl ?_
      refine x_istore_n (i := 2) (L' := [.ref r0, .int 1, .int 1, .null, .null, .null, .null]) (by decide) rfl hC (zdk dk_X12_locates 30 rfl) (q := 50) rfl ?_
      refine x_iconst (i := 1) c_iconst_1 hC (zdk dk_X12_locates 31 rfl) (q := 51) rfl ?_
      refine x_istore_n (i := 3) (L' := [.ref r0, .int 1, .int 1, .int 1, .null, .null, .null]) (by decide) rfl hC (zdk dk_X12_locates 32 rfl) (q := 52) rfl ?_
      refine x_weak (L' := [.ref r0, .int 1, .int 1, .int 1, .null, .null, .null]) ⟨Or.inr rfl, Or.inr rfl, Or.inr rfl, Or.inr rfl, Or.inl rfl, Or.inl rfl, Or.inl rfl, trivial⟩ ?_
      exact x_X12_locates_52 hC hE hk0 h_r0 _ _ _ _ _
    · refine x_aload_n (i := 0) rfl hC (zdk dk_X12_locates 5 rfl) (q := 9) rfl ?_
      refine x_getR (k := 20) fl_RX12_153 rfl h_r0 hC (zdk dk_X12_locates 6 rfl) (q := 12) rfl (fun q31 hq31 => ?_)
      refine x_iload_n (i := 1) rfl hC (zdk dk_X12_locates 7 rfl) (q := 13) rfl ?_
      refine x_iload_n (i := 1) rfl hC (zdk dk_X12_locates 8 rfl) (q := 14) rfl ?_
      refine x_if_ne (tgt := 21) hC (zdk dk_X12_locates 9 rfl) (q := 17) rfl rfl (fun _ => ?_) (fun _ => ?_)
      · refine x_iconst (i := 0) c_iconst_0 hC (zdk dk_X12_locates 12 rfl) (q := 22) rfl ?_
        refine x_weak (L' := [.ref r0, .int x1, .null, .null, .null, .null, .null]) ⟨Or.inr rfl, Or.inr rfl, Or.inl rfl, Or.inl rfl, Or.inl rfl, Or.inl rfl, Or.inl rfl, trivial⟩ ?_
        exact x_X12_locates_22 hC hE hk0 h_r0 (f_X12_locates_2 r0 f) ih _ _ _ _ _ hq31
      · refine x_iconst (i := 1) c_iconst_1 hC (zdk dk_X12_locates 10 rfl) (q := 18) rfl ?_
        refine x_goto (tgt := 22) hC (zdk dk_X12_locates 11 rfl) rfl ?_
        refine x_weak (L' := [.ref r0, .int x1, .null, .null, .null, .null, .null]) ⟨Or.inr rfl, Or.inr rfl, Or.inl rfl, Or.inl rfl, Or.inl rfl, Or.inl rfl, Or.inl rfl, trivial⟩ ?_
        exact x_X12_locates_22 hC hE hk0 h_r0 (f_X12_locates_2 r0 f) ih _ _ _ _ _ hq31
set_option maxRecDepth 100000 in
def f_X12_locates (r0 : Nat) (M : Mem) : Option Mem := f_X12_locates_2 r0 1000000 0 M
set_option maxRecDepth 100000 in
set_option maxHeartbeats 4000000 in
theorem x_X12_locates {κ : KX} {n : Nat} (hC : CX κ cX12_locates RX12 7 none 2) (hE : zEnd κ n (0, 0)) (hk0 : zRk κ (0, 0)) (r0 : Nat) (M : Mem) (h_r0 : zO n r0 12) : X κ 7 emV n (0, 0) 0 [.ref r0, .null, .null, .null, .null, .null, .null] [] M (f_X12_locates r0 M) := by
  unfold f_X12_locates
  refine x_iconst (i := 0) c_iconst_0 hC (zdk dk_X12_locates 0 rfl) (q := 1) rfl ?_
  refine x_istore_n (i := 1) (L' := [.ref r0, .int 0, .null, .null, .null, .null, .null]) (by decide) rfl hC (zdk dk_X12_locates 1 rfl) (q := 2) rfl ?_
  refine x_weak (L' := [.ref r0, .int 0, .null, .null, .null, .null, .null]) ⟨Or.inr rfl, Or.inr rfl, Or.inl rfl, Or.inl rfl, Or.inl rfl, Or.inl rfl, Or.inl rfl, trivial⟩ ?_
  exact x_X12_locates_2 hC hE hk0 h_r0 _ _ _
set_option maxRecDepth 100000 in
set_option maxHeartbeats 4000000 in
theorem t_X12_locates {n : Nat} {r0 : Nat} {M : Mem} (h_r0 : zO n r0 12) (x : Mem) (hx : f_X12_locates r0 M = some x) (l : Launch) (dC : Nat → ClassId) (dI : Nat → Nat → Nat) (b : zSg) : MT l dC dI b yX12_locates cX12_locates 7 none 2 0 0 n n [.ref r0] M (emV x).1 (emV x).2 :=
  MT.ofX (by decide +kernel) rfl (Nat.le_of_ble_eq_true rfl) (fun κ hC hF _ => x_X12_locates hC (zEnd_of hF (Nat.le_refl _) (Nat.le_refl _)) (zRk_of hF (Nat.le_refl _) (Nat.le_refl _)) _ _ h_r0) x hx
set_option maxRecDepth 100000 in
def dt_X12_isRootAt : List (Nat × Instr × Nat) := [(0, .iconst 0, 1), (1, .istore_n 2, 1), (2, .iconst 1, 1), (3, .istore_n 3, 1), (4, .iload_n 3, 1), (5, .aload_n 0, 1), (6, .getfield 162, 3), (9, .if_icmp .gt 40, 3), (12, .iload_n 2, 1), (13, .aload_n 0, 1), (14, .aload_n 0, 1), (15, .getfield 153, 3), (18, .iload_n 3, 1), (19, .iaload, 1), (20, .aload_n 0, 1), (21, .getfield 141, 3), (24, .aload_n 0, 1), (25, .getfield 126, 3), (28, .iload_n 1, 1), (29, .isub, 1), (30, .iload_n 3, 1), (31, .imul, 1), (32, .aload_n 0, 1), (33, .getfield 126, 3), (36, .irem, 1), (37, .iaload, 1), (38, .invokevirtual 425, 3), (41, .ixor, 1), (42, .istore_n 2, 1), (43, .iinc 3 1, 3), (46, .goto (-42), 3), (49, .iload_n 2, 1), (50, .iconst 1, 1), (51, .if_icmp .ne 7, 3), (54, .iconst 1, 1), (55, .goto 4, 3), (58, .iconst 0, 1), (59, .ireturn, 1)]
set_option maxRecDepth 100000 in
theorem dk_X12_isRootAt : dt_X12_isRootAt.all (fun q => decide (decode cX12_isRootAt q.1 = .ok q.2)) = true := by decide +kernel
set_option maxRecDepth 100000 in
def f_X12_isRootAt_59  (r0 : Nat) (x1 : Int32) (s0 : Int32) (M : Mem) : Option (Int32 × Mem) := zbz s0 (some (s0, M))
set_option maxRecDepth 100000 in
set_option maxHeartbeats 4000000 in
theorem x_X12_isRootAt_59 {κ : KX} {n : Nat} (hC : CX κ cX12_isRootAt RX12 4 (some .boolean) 1) (hE : zEnd κ n (0, 0)) (hk0 : zRk κ (0, 0)) {r0 : Nat} {x1 : Int32} (h_r0 : zO n r0 12) (s0 : Int32) (M : Mem) : X κ 4 emI n (0, 0) 59 [.null, .null, .null, .null] [.int s0] M (f_X12_isRootAt_59 r0 x1 s0 M) := by
  unfold f_X12_isRootAt_59
  refine x_bz (fun hb1 => ?_)
  exact x_iret (ty := .boolean) hb1.1 hE hC (zdk dk_X12_isRootAt 37 rfl)
set_option maxRecDepth 100000 in
def f_X12_isRootAt_4  (r0 : Nat) (x1 : Int32) : Nat → Int32 → Int32 → Mem → Option (Int32 × Mem)
  | 0, _, _, _ => none
  | f + 1, x2, x3, M => (if zI M r0 49 < x3 then (if x2 = 1 then f_X12_isRootAt_59 r0 x1 1 M else f_X12_isRootAt_59 r0 x1 0 M) else Option.bind (zrf M r0 46) fun q2 => Option.bind (zld q2 x3) fun k3 => Option.bind (zrf M r0 42) fun q4 => if zI M r0 37 = 0 then none else Option.bind (zld q4 (zrem (((zI M r0 37) - x1) * x3) (zI M r0 37))) fun k5 => Option.bind (f_X12_times r0 (zI M q2 k3) (zI M q4 k5) M) fun z6 => (f_X12_isRootAt_4 r0 x1 f) (x2 ^^^ z6.1) (x3 + 1) z6.2)
set_option maxRecDepth 100000 in
set_option maxHeartbeats 4000000 in
theorem x_X12_isRootAt_4 {κ : KX} {n : Nat} (hC : CX κ cX12_isRootAt RX12 4 (some .boolean) 1) (hE : zEnd κ n (0, 0)) (hk0 : zRk κ (0, 0)) {r0 : Nat} {x1 : Int32} (h_r0 : zO n r0 12) : ∀ (f : Nat) (x2 : Int32) (x3 : Int32) (M : Mem), X κ 4 emI n (0, 0) 4 [.ref r0, .int x1, .int x2, .int x3] [] M (f_X12_isRootAt_4 r0 x1 f x2 x3 M) := by
  intro f
  induction f with
  | zero => intros; exact x_none
  | succ f ih =>
    intro x2 x3 M 
    rw [f_X12_isRootAt_4]
    refine x_iload_n (i := 3) rfl hC (zdk dk_X12_isRootAt 4 rfl) (q := 5) rfl ?_
    refine x_aload_n (i := 0) rfl hC (zdk dk_X12_isRootAt 5 rfl) (q := 6) rfl ?_
    refine x_getI fl_RX12_162 (by decide) h_r0 hC (zdk dk_X12_isRootAt 6 rfl) (q := 9) rfl ?_
    refine x_icmp_gt (tgt := 49) hC (zdk dk_X12_isRootAt 7 rfl) (q := 12) rfl rfl (fun _ => ?_) (fun _ => ?_)
    · refine x_iload_n (i := 2) rfl hC (zdk dk_X12_isRootAt 31 rfl) (q := 50) rfl ?_
      refine x_iconst (i := 1) c_iconst_1 hC (zdk dk_X12_isRootAt 32 rfl) (q := 51) rfl ?_
      refine x_icmp_ne (tgt := 58) hC (zdk dk_X12_isRootAt 33 rfl) (q := 54) rfl rfl (fun _ => ?_) (fun _ => ?_)
      · refine x_iconst (i := 0) c_iconst_0 hC (zdk dk_X12_isRootAt 36 rfl) (q := 59) rfl ?_
        refine x_weak (L' := [.null, .null, .null, .null]) ⟨Or.inl rfl, Or.inl rfl, Or.inl rfl, Or.inl rfl, trivial⟩ ?_
        exact x_X12_isRootAt_59 hC hE hk0 h_r0 _ _
      · refine x_iconst (i := 1) c_iconst_1 hC (zdk dk_X12_isRootAt 34 rfl) (q := 55) rfl ?_
        refine x_goto (tgt := 59) hC (zdk dk_X12_isRootAt 35 rfl) rfl ?_
        refine x_weak (L' := [.null, .null, .null, .null]) ⟨Or.inl rfl, Or.inl rfl, Or.inl rfl, Or.inl rfl, trivial⟩ ?_
        exact x_X12_isRootAt_59 hC hE hk0 h_r0 _ _
    · refine x_iload_n (i := 2) rfl hC (zdk dk_X12_isRootAt 8 rfl) (q := 13) rfl ?_
      refine x_aload_n (i := 0) rfl hC (zdk dk_X12_isRootAt 9 rfl) (q := 14) rfl ?_
      refine x_aload_n (i := 0) rfl hC (zdk dk_X12_isRootAt 10 rfl) (q := 15) rfl ?_
      refine x_getR (k := 20) fl_RX12_153 rfl h_r0 hC (zdk dk_X12_isRootAt 11 rfl) (q := 18) rfl (fun q2 hq2 => ?_)
      refine x_iload_n (i := 3) rfl hC (zdk dk_X12_isRootAt 12 rfl) (q := 19) rfl ?_
      refine x_iald hq2 hC (zdk dk_X12_isRootAt 13 rfl) (q := 20) rfl (fun k3 _ => ?_)
      refine x_aload_n (i := 0) rfl hC (zdk dk_X12_isRootAt 14 rfl) (q := 21) rfl ?_
      refine x_getR (k := 20) fl_RX12_141 rfl h_r0 hC (zdk dk_X12_isRootAt 15 rfl) (q := 24) rfl (fun q4 hq4 => ?_)
      refine x_aload_n (i := 0) rfl hC (zdk dk_X12_isRootAt 16 rfl) (q := 25) rfl ?_
      refine x_getI fl_RX12_126 (by decide) h_r0 hC (zdk dk_X12_isRootAt 17 rfl) (q := 28) rfl ?_
      refine x_iload_n (i := 1) rfl hC (zdk dk_X12_isRootAt 18 rfl) (q := 29) rfl ?_
      refine x_isub hC (zdk dk_X12_isRootAt 19 rfl) (q := 30) rfl ?_
      refine x_iload_n (i := 3) rfl hC (zdk dk_X12_isRootAt 20 rfl) (q := 31) rfl ?_
      refine x_imul hC (zdk dk_X12_isRootAt 21 rfl) (q := 32) rfl ?_
      refine x_aload_n (i := 0) rfl hC (zdk dk_X12_isRootAt 22 rfl) (q := 33) rfl ?_
      refine x_getI fl_RX12_126 (by decide) h_r0 hC (zdk dk_X12_isRootAt 23 rfl) (q := 36) rfl ?_
      refine x_iremG hC (zdk dk_X12_isRootAt 24 rfl) (q := 37) rfl ?_
      refine x_iald hq4 hC (zdk dk_X12_isRootAt 25 rfl) (q := 38) rfl (fun k5 _ => ?_)
      refine x_callVi (as := [.int (zI M q2 k3), .int (zI M q4 k5)]) cb_RX12_425 rfl (by decide) hk0 h_r0 (fun x hx => t_X12_times h_r0 x hx) hC (zdk dk_X12_isRootAt 26 rfl) (q := 41) rfl rfl (Nat.le_of_ble_eq_true rfl) (fun z6 => ?_)
      refine x_ixor hC (zdk dk_X12_isRootAt 27 rfl) (q := 42) rfl ?_
      refine x_istore_n (i := 2) (L' := [.ref r0, .int x1, .int (x2 ^^^ z6.1), .int x3]) (by decide) rfl hC (zdk dk_X12_isRootAt 28 rfl) (q := 43) rfl ?_
      refine x_iinc (i := 3) c_iconst_1 rfl (by decide) (L' := [.ref r0, .int x1, .int (x2 ^^^ z6.1), .int (x3 + 1)]) rfl hC (zdk dk_X12_isRootAt 29 rfl) (q := 46) rfl ?_
      refine x_goto (tgt := 4) hC (zdk dk_X12_isRootAt 30 rfl) rfl ?_
      refine x_weak (L' := [.ref r0, .int x1, .int (x2 ^^^ z6.1), .int (x3 + 1)]) ⟨Or.inr rfl, Or.inr rfl, Or.inr rfl, Or.inr rfl, trivial⟩ ?_
      exact ih _ _ _
set_option maxRecDepth 100000 in
def f_X12_isRootAt (r0 : Nat) (x1 : Int32) (M : Mem) : Option (Int32 × Mem) := f_X12_isRootAt_4 r0 x1 1000000 0 1 M
set_option maxRecDepth 100000 in
set_option maxHeartbeats 4000000 in
theorem x_X12_isRootAt {κ : KX} {n : Nat} (hC : CX κ cX12_isRootAt RX12 4 (some .boolean) 1) (hE : zEnd κ n (0, 0)) (hk0 : zRk κ (0, 0)) (r0 : Nat) (x1 : Int32) (M : Mem) (h_r0 : zO n r0 12) : X κ 4 emI n (0, 0) 0 [.ref r0, .int x1, .null, .null] [] M (f_X12_isRootAt r0 x1 M) := by
  unfold f_X12_isRootAt
  refine x_iconst (i := 0) c_iconst_0 hC (zdk dk_X12_isRootAt 0 rfl) (q := 1) rfl ?_
  refine x_istore_n (i := 2) (L' := [.ref r0, .int x1, .int 0, .null]) (by decide) rfl hC (zdk dk_X12_isRootAt 1 rfl) (q := 2) rfl ?_
  refine x_iconst (i := 1) c_iconst_1 hC (zdk dk_X12_isRootAt 2 rfl) (q := 3) rfl ?_
  refine x_istore_n (i := 3) (L' := [.ref r0, .int x1, .int 0, .int 1]) (by decide) rfl hC (zdk dk_X12_isRootAt 3 rfl) (q := 4) rfl ?_
  refine x_weak (L' := [.ref r0, .int x1, .int 0, .int 1]) ⟨Or.inr rfl, Or.inr rfl, Or.inr rfl, Or.inr rfl, trivial⟩ ?_
  exact x_X12_isRootAt_4 hC hE hk0 h_r0 _ _ _ _
set_option maxRecDepth 100000 in
set_option maxHeartbeats 4000000 in
theorem t_X12_isRootAt {n : Nat} {r0 : Nat} {x1 : Int32} {M : Mem} (h_r0 : zO n r0 12) (x : (Int32 × Mem)) (hx : f_X12_isRootAt r0 x1 M = some x) (l : Launch) (dC : Nat → ClassId) (dI : Nat → Nat → Nat) (b : zSg) : MT l dC dI b yX12_isRootAt cX12_isRootAt 4 (some .boolean) 1 0 0 n n [.ref r0, .int x1] M (emI x).1 (emI x).2 :=
  MT.ofX (by decide +kernel) rfl (Nat.le_of_ble_eq_true rfl) (fun κ hC hF _ => x_X12_isRootAt hC (zEnd_of hF (Nat.le_refl _) (Nat.le_refl _)) (zRk_of hF (Nat.le_refl _) (Nat.le_refl _)) _ _ _ h_r0) x hx
set_option maxRecDepth 100000 in
def dt_X12_readsBits : List (Nat × Instr × Nat) := [(0, .aload_n 0, 1), (1, .lload_n 1, 1), (2, .invokevirtual 461, 3), (5, .aload_n 0, 1), (6, .invokevirtual 464, 3), (9, .aload_n 0, 1), (10, .iconst 0, 1), (11, .putfield 171, 3), (14, .aload_n 0, 1), (15, .lload_n 1, 1), (16, .putfield 174, 3), (19, .aload_n 0, 1), (20, .iconst 0, 1), (21, .putfield 165, 3), (24, .aload_n 0, 1), (25, .getfield 162, 3), (28, .aload_n 0, 1), (29, .iconst 2, 1), (30, .invokevirtual 428, 3), (33, .if_icmp .le 13, 3), (36, .aload_n 0, 1), (37, .iconst 1, 1), (38, .putfield 165, 3), (41, .aload_n 0, 1), (42, .getfield 165, 3), (45, .ireturn, 1), (46, .iconst 0, 1), (47, .istore_n 3, 1), (48, .iload_n 3, 1), (49, .aload_n 0, 1), (50, .getfield 126, 3), (53, .if_icmp .ge 40, 3), (56, .aload_n 0, 1), (57, .iload_n 3, 1), (58, .invokevirtual 467, 3), (61, .ifCond .ne 6, 3), (64, .goto 23, 3), (67, .aload_n 0, 1), (68, .getfield 168, 3), (71, .aload_n 0, 1), (72, .getfield 171, 3), (75, .iload_n 3, 1), (76, .iastore, 1), (77, .aload_n 0, 1), (78, .dup, 1), (79, .getfield 171, 3), (82, .iconst 1, 1), (83, .iadd, 1), (84, .putfield 171, 3), (87, .iinc 3 1, 3), (90, .goto (-42), 3), (93, .aload_n 0, 1), (94, .getfield 171, 3), (97, .aload_n 0, 1), (98, .getfield 162, 3), (101, .if_icmp .eq 11, 3), (104, .aload_n 0, 1), (105, .iconst 2, 1), (106, .putfield 165, 3), (109, .goto 33, 3), (112, .aload_n 0, 1), (113, .getfield 171, 3), (116, .ifCond .le 26, 3), (119, .aload_n 0, 1), (120, .getfield 168, 3), (123, .aload_n 0, 1), (124, .getfield 171, 3), (127, .iconst 1, 1), (128, .isub, 1), (129, .iaload, 1), (130, .aload_n 0, 1), (131, .getfield 132, 3), (134, .if_icmp .lt 8, 3), (137, .aload_n 0, 1), (138, .iconst 3, 1), (139, .putfield 165, 3), (142, .iconst 0, 1), (143, .istore_n 3, 1), (144, .iload_n 3, 1), (145, .aload_n 0, 1), (146, .getfield 171, 3), (149, .if_icmp .ge 33, 3), (152, .aload_n 0, 1), (153, .getfield 165, 3), (156, .ifCond .ne 26, 3), (159, .aload_n 0, 1), (160, .dup, 1), (161, .getfield 174, 3), (164, .lconst 1, 1), (165, .aload_n 0, 1), (166, .getfield 168, 3), (169, .iload_n 3, 1), (170, .iaload, 1), (171, .lshl, 1), (172, .lxor, 1), (173, .putfield 174, 3), (176, .iinc 3 1, 3), (179, .goto (-35), 3), (182, .aload_n 0, 1), (183, .getfield 165, 3), (186, .ireturn, 1)]
set_option maxRecDepth 100000 in
theorem dk_X12_readsBits : dt_X12_readsBits.all (fun q => decide (decode cX12_readsBits q.1 = .ok q.2)) = true := by decide +kernel
set_option maxRecDepth 100000 in
def f_X12_readsBits_87 (k48 : Int32 → Mem → Option (Int32 × Mem)) (r0 : Nat) (y1 : Int64) (x3 : Int32) (M : Mem) : Option (Int32 × Mem) := k48 (x3 + 1) M
set_option maxRecDepth 100000 in
set_option maxHeartbeats 4000000 in
theorem x_X12_readsBits_87 {κ : KX} {n : Nat} (hC : CX κ cX12_readsBits RX12 4 (some .int) 3) (hE : zEnd κ n (0, 0)) (hk0 : zRk κ (0, 0)) {r0 : Nat} {y1 : Int64} (h_r0 : zO n r0 12) (k48 : Int32 → Mem → Option (Int32 × Mem)) (hk48 : ∀ (x3 : Int32) (M : Mem), X κ 4 emI n (0, 0) 48 [.ref r0, .null, .null, .int x3] [] M (k48 x3 M)) (x3 : Int32) (M : Mem) : X κ 4 emI n (0, 0) 87 [.ref r0, .null, .null, .int x3] [] M (f_X12_readsBits_87 k48 r0 y1 x3 M) := by
  unfold f_X12_readsBits_87
  refine x_iinc (i := 3) c_iconst_1 rfl (by decide) (L' := [.ref r0, .null, .null, .int (x3 + 1)]) rfl hC (zdk dk_X12_readsBits 49 rfl) (q := 90) rfl ?_
  refine x_goto (tgt := 48) hC (zdk dk_X12_readsBits 50 rfl) rfl ?_
  refine x_weak (L' := [.ref r0, .null, .null, .int (x3 + 1)]) ⟨Or.inr rfl, Or.inl rfl, Or.inl rfl, Or.inr rfl, trivial⟩ ?_
  exact hk48 _ _
set_option maxRecDepth 100000 in
def f_X12_readsBits_182  (r0 : Nat) (y1 : Int64)  (M : Mem) : Option (Int32 × Mem) := some (zI M r0 50, M)
set_option maxRecDepth 100000 in
set_option maxHeartbeats 4000000 in
theorem x_X12_readsBits_182 {κ : KX} {n : Nat} (hC : CX κ cX12_readsBits RX12 4 (some .int) 3) (hE : zEnd κ n (0, 0)) (hk0 : zRk κ (0, 0)) {r0 : Nat} {y1 : Int64} (h_r0 : zO n r0 12) (M : Mem) : X κ 4 emI n (0, 0) 182 [.ref r0, .null, .null, .null] [] M (f_X12_readsBits_182 r0 y1 M) := by
  unfold f_X12_readsBits_182
  refine x_aload_n (i := 0) rfl hC (zdk dk_X12_readsBits 98 rfl) (q := 183) rfl ?_
  refine x_getI fl_RX12_165 (by decide) h_r0 hC (zdk dk_X12_readsBits 99 rfl) (q := 186) rfl ?_
  exact x_iret (ty := .int) rfl hE hC (zdk dk_X12_readsBits 100 rfl)
set_option maxRecDepth 100000 in
def f_X12_readsBits_144  (r0 : Nat) (y1 : Int64) : Nat → Int32 → Mem → Option (Int32 × Mem)
  | 0, _, _ => none
  | f + 1, x3, M => (if zI M r0 52 ≤ x3 then f_X12_readsBits_182 r0 y1 M else (if zI M r0 50 = 0 then Option.bind (zrf M r0 51) fun q1 => Option.bind (zld q1 x3) fun k2 => Option.bind (some (zsL M r0 53 ((zL M r0 53) ^^^ ((1 : Int64) <<< ((zI M q1 k2).toInt64 &&& 63))))) fun M3 => (f_X12_readsBits_144 r0 y1 f) (x3 + 1) M3 else f_X12_readsBits_182 r0 y1 M))
set_option maxRecDepth 100000 in
set_option maxHeartbeats 4000000 in
theorem x_X12_readsBits_144 {κ : KX} {n : Nat} (hC : CX κ cX12_readsBits RX12 4 (some .int) 3) (hE : zEnd κ n (0, 0)) (hk0 : zRk κ (0, 0)) {r0 : Nat} {y1 : Int64} (h_r0 : zO n r0 12) : ∀ (f : Nat) (x3 : Int32) (M : Mem), X κ 4 emI n (0, 0) 144 [.ref r0, .null, .null, .int x3] [] M (f_X12_readsBits_144 r0 y1 f x3 M) := by
  intro f
  induction f with
  | zero => intros; exact x_none
  | succ f ih =>
    intro x3 M 
    rw [f_X12_readsBits_144]
    refine x_iload_n (i := 3) rfl hC (zdk dk_X12_readsBits 78 rfl) (q := 145) rfl ?_
    refine x_aload_n (i := 0) rfl hC (zdk dk_X12_readsBits 79 rfl) (q := 146) rfl ?_
    refine x_getI fl_RX12_171 (by decide) h_r0 hC (zdk dk_X12_readsBits 80 rfl) (q := 149) rfl ?_
    refine x_icmp_ge (tgt := 182) hC (zdk dk_X12_readsBits 81 rfl) (q := 152) rfl rfl (fun _ => ?_) (fun _ => ?_)
    · refine x_weak (L' := [.ref r0, .null, .null, .null]) ⟨Or.inr rfl, Or.inl rfl, Or.inl rfl, Or.inl rfl, trivial⟩ ?_
      exact x_X12_readsBits_182 hC hE hk0 h_r0 _
    · refine x_aload_n (i := 0) rfl hC (zdk dk_X12_readsBits 82 rfl) (q := 153) rfl ?_
      refine x_getI fl_RX12_165 (by decide) h_r0 hC (zdk dk_X12_readsBits 83 rfl) (q := 156) rfl ?_
      refine x_if_ne (tgt := 182) hC (zdk dk_X12_readsBits 84 rfl) (q := 159) rfl rfl (fun _ => ?_) (fun _ => ?_)
      · refine x_weak (L' := [.ref r0, .null, .null, .null]) ⟨Or.inr rfl, Or.inl rfl, Or.inl rfl, Or.inl rfl, trivial⟩ ?_
        exact x_X12_readsBits_182 hC hE hk0 h_r0 _
      · refine x_aload_n (i := 0) rfl hC (zdk dk_X12_readsBits 85 rfl) (q := 160) rfl ?_
        refine x_dup rfl hC (zdk dk_X12_readsBits 86 rfl) (q := 161) rfl ?_
        refine x_getL fl_RX12_174 h_r0 hC (zdk dk_X12_readsBits 87 rfl) (q := 164) rfl ?_
        refine x_lconst (i := 1) c_lconst_1 hC (zdk dk_X12_readsBits 88 rfl) (q := 165) rfl ?_
        refine x_aload_n (i := 0) rfl hC (zdk dk_X12_readsBits 89 rfl) (q := 166) rfl ?_
        refine x_getR (k := 20) fl_RX12_168 rfl h_r0 hC (zdk dk_X12_readsBits 90 rfl) (q := 169) rfl (fun q1 hq1 => ?_)
        refine x_iload_n (i := 3) rfl hC (zdk dk_X12_readsBits 91 rfl) (q := 170) rfl ?_
        refine x_iald hq1 hC (zdk dk_X12_readsBits 92 rfl) (q := 171) rfl (fun k2 _ => ?_)
        refine x_lshl hC (zdk dk_X12_readsBits 93 rfl) (q := 172) rfl ?_
        refine x_lxor hC (zdk dk_X12_readsBits 94 rfl) (q := 173) rfl ?_
        refine x_putL fl_RX12_174 ⟨rfl, rfl⟩ (Or.inl rfl) h_r0 hC (zdk dk_X12_readsBits 95 rfl) (q := 176) rfl ?_
        refine x_nmM (fun M3 => ?_)
        refine x_iinc (i := 3) c_iconst_1 rfl (by decide) (L' := [.ref r0, .null, .null, .int (x3 + 1)]) rfl hC (zdk dk_X12_readsBits 96 rfl) (q := 179) rfl ?_
        refine x_goto (tgt := 144) hC (zdk dk_X12_readsBits 97 rfl) rfl ?_
        refine x_weak (L' := [.ref r0, .null, .null, .int (x3 + 1)]) ⟨Or.inr rfl, Or.inl rfl, Or.inl rfl, Or.inr rfl, trivial⟩ ?_
        exact ih _ _
set_option maxRecDepth 100000 in
def f_X12_readsBits_142  (r0 : Nat) (y1 : Int64)  (M : Mem) : Option (Int32 × Mem) := f_X12_readsBits_144 r0 y1 1000000 0 M
set_option maxRecDepth 100000 in
set_option maxHeartbeats 4000000 in
theorem x_X12_readsBits_142 {κ : KX} {n : Nat} (hC : CX κ cX12_readsBits RX12 4 (some .int) 3) (hE : zEnd κ n (0, 0)) (hk0 : zRk κ (0, 0)) {r0 : Nat} {y1 : Int64} (h_r0 : zO n r0 12) (M : Mem) : X κ 4 emI n (0, 0) 142 [.ref r0, .null, .null, .null] [] M (f_X12_readsBits_142 r0 y1 M) := by
  unfold f_X12_readsBits_142
  refine x_iconst (i := 0) c_iconst_0 hC (zdk dk_X12_readsBits 76 rfl) (q := 143) rfl ?_
  refine x_istore_n (i := 3) (L' := [.ref r0, .null, .null, .int 0]) (by decide) rfl hC (zdk dk_X12_readsBits 77 rfl) (q := 144) rfl ?_
  refine x_weak (L' := [.ref r0, .null, .null, .int 0]) ⟨Or.inr rfl, Or.inl rfl, Or.inl rfl, Or.inr rfl, trivial⟩ ?_
  exact x_X12_readsBits_144 hC hE hk0 h_r0 _ _ _
set_option maxRecDepth 100000 in
def f_X12_readsBits_48  (r0 : Nat) (y1 : Int64) : Nat → Int32 → Mem → Option (Int32 × Mem)
  | 0, _, _ => none
  | f + 1, x3, M => (if zI M r0 37 ≤ x3 then (if zI M r0 52 = zI M r0 49 then (if zI M r0 52 ≤ 0 then f_X12_readsBits_142 r0 y1 M else Option.bind (zrf M r0 51) fun q4 => Option.bind (zld q4 ((zI M r0 52) - 1)) fun k5 => (if zI M q4 k5 < zI M r0 39 then f_X12_readsBits_142 r0 y1 M else Option.bind (some (zsI M r0 50 3)) fun M6 => f_X12_readsBits_142 r0 y1 M6)) else Option.bind (some (zsI M r0 50 2)) fun M7 => f_X12_readsBits_142 r0 y1 M7) else Option.bind (f_X12_isRootAt r0 x3 M) fun z8 => (if z8.1 = 0 then f_X12_readsBits_87 (f_X12_readsBits_48 r0 y1 f) r0 y1 x3 z8.2 else Option.bind (zrf z8.2 r0 51) fun q9 => Option.bind (zld q9 (zI z8.2 r0 52)) fun k10 => Option.bind (some (zsI z8.2 q9 k10 x3)) fun M11 => Option.bind (some (zsI M11 r0 52 ((zI M11 r0 52) + 1))) fun M12 => f_X12_readsBits_87 (f_X12_readsBits_48 r0 y1 f) r0 y1 x3 M12))
set_option maxRecDepth 100000 in
set_option maxHeartbeats 4000000 in
theorem x_X12_readsBits_48 {κ : KX} {n : Nat} (hC : CX κ cX12_readsBits RX12 4 (some .int) 3) (hE : zEnd κ n (0, 0)) (hk0 : zRk κ (0, 0)) {r0 : Nat} {y1 : Int64} (h_r0 : zO n r0 12) : ∀ (f : Nat) (x3 : Int32) (M : Mem), X κ 4 emI n (0, 0) 48 [.ref r0, .null, .null, .int x3] [] M (f_X12_readsBits_48 r0 y1 f x3 M) := by
  intro f
  induction f with
  | zero => intros; exact x_none
  | succ f ih =>
    intro x3 M 
    rw [f_X12_readsBits_48]
    refine x_iload_n (i := 3) rfl hC (zdk dk_X12_readsBits 28 rfl) (q := 49) rfl ?_
    refine x_aload_n (i := 0) rfl hC (zdk dk_X12_readsBits 29 rfl) (q := 50) rfl ?_
    refine x_getI fl_RX12_126 (by decide) h_r0 hC (zdk dk_X12_readsBits 30 rfl) (q := 53) rfl ?_
    refine x_icmp_ge (tgt := 93) hC (zdk dk_X12_readsBits 31 rfl) (q := 56) rfl rfl (fun _ => ?_) (fun _ => ?_)
    · refine x_aload_n (i := 0) rfl hC (zdk dk_X12_readsBits 51 rfl) (q := 94) rfl ?_
      refine x_getI fl_RX12_171 (by decide) h_r0 hC (zdk dk_X12_readsBits 52 rfl) (q := 97) rfl ?_
      refine x_aload_n (i := 0) rfl hC (zdk dk_X12_readsBits 53 rfl) (q := 98) rfl ?_
      refine x_getI fl_RX12_162 (by decide) h_r0 hC (zdk dk_X12_readsBits 54 rfl) (q := 101) rfl ?_
      refine x_icmp_eq (tgt := 112) hC (zdk dk_X12_readsBits 55 rfl) (q := 104) rfl rfl (fun _ => ?_) (fun _ => ?_)
      · refine x_aload_n (i := 0) rfl hC (zdk dk_X12_readsBits 60 rfl) (q := 113) rfl ?_
        refine x_getI fl_RX12_171 (by decide) h_r0 hC (zdk dk_X12_readsBits 61 rfl) (q := 116) rfl ?_
        refine x_if_le (tgt := 142) hC (zdk dk_X12_readsBits 62 rfl) (q := 119) rfl rfl (fun _ => ?_) (fun _ => ?_)
        · refine x_weak (L' := [.ref r0, .null, .null, .null]) ⟨Or.inr rfl, Or.inl rfl, Or.inl rfl, Or.inl rfl, trivial⟩ ?_
          exact x_X12_readsBits_142 hC hE hk0 h_r0 _
        · refine x_aload_n (i := 0) rfl hC (zdk dk_X12_readsBits 63 rfl) (q := 120) rfl ?_
          refine x_getR (k := 20) fl_RX12_168 rfl h_r0 hC (zdk dk_X12_readsBits 64 rfl) (q := 123) rfl (fun q4 hq4 => ?_)
          refine x_aload_n (i := 0) rfl hC (zdk dk_X12_readsBits 65 rfl) (q := 124) rfl ?_
          refine x_getI fl_RX12_171 (by decide) h_r0 hC (zdk dk_X12_readsBits 66 rfl) (q := 127) rfl ?_
          refine x_iconst (i := 1) c_iconst_1 hC (zdk dk_X12_readsBits 67 rfl) (q := 128) rfl ?_
          refine x_isub hC (zdk dk_X12_readsBits 68 rfl) (q := 129) rfl ?_
          refine x_iald hq4 hC (zdk dk_X12_readsBits 69 rfl) (q := 130) rfl (fun k5 _ => ?_)
          refine x_aload_n (i := 0) rfl hC (zdk dk_X12_readsBits 70 rfl) (q := 131) rfl ?_
          refine x_getI fl_RX12_132 (by decide) h_r0 hC (zdk dk_X12_readsBits 71 rfl) (q := 134) rfl ?_
          refine x_icmp_lt (tgt := 142) hC (zdk dk_X12_readsBits 72 rfl) (q := 137) rfl rfl (fun _ => ?_) (fun _ => ?_)
          · refine x_weak (L' := [.ref r0, .null, .null, .null]) ⟨Or.inr rfl, Or.inl rfl, Or.inl rfl, Or.inl rfl, trivial⟩ ?_
            exact x_X12_readsBits_142 hC hE hk0 h_r0 _
          · refine x_aload_n (i := 0) rfl hC (zdk dk_X12_readsBits 73 rfl) (q := 138) rfl ?_
            refine x_iconst (i := 3) c_iconst_3 hC (zdk dk_X12_readsBits 74 rfl) (q := 139) rfl ?_
            refine x_putI fl_RX12_165 ⟨rfl, rfl⟩ (by decide) (Or.inl rfl) h_r0 hC (zdk dk_X12_readsBits 75 rfl) (q := 142) rfl ?_
            refine x_nmM (fun M6 => ?_)
            refine x_weak (L' := [.ref r0, .null, .null, .null]) ⟨Or.inr rfl, Or.inl rfl, Or.inl rfl, Or.inl rfl, trivial⟩ ?_
            exact x_X12_readsBits_142 hC hE hk0 h_r0 _
      · refine x_aload_n (i := 0) rfl hC (zdk dk_X12_readsBits 56 rfl) (q := 105) rfl ?_
        refine x_iconst (i := 2) c_iconst_2 hC (zdk dk_X12_readsBits 57 rfl) (q := 106) rfl ?_
        refine x_putI fl_RX12_165 ⟨rfl, rfl⟩ (by decide) (Or.inl rfl) h_r0 hC (zdk dk_X12_readsBits 58 rfl) (q := 109) rfl ?_
        refine x_nmM (fun M7 => ?_)
        refine x_goto (tgt := 142) hC (zdk dk_X12_readsBits 59 rfl) rfl ?_
        refine x_weak (L' := [.ref r0, .null, .null, .null]) ⟨Or.inr rfl, Or.inl rfl, Or.inl rfl, Or.inl rfl, trivial⟩ ?_
        exact x_X12_readsBits_142 hC hE hk0 h_r0 _
    · refine x_aload_n (i := 0) rfl hC (zdk dk_X12_readsBits 32 rfl) (q := 57) rfl ?_
      refine x_iload_n (i := 3) rfl hC (zdk dk_X12_readsBits 33 rfl) (q := 58) rfl ?_
      refine x_callVi (as := [.int x3]) cb_RX12_467 rfl (by decide) hk0 h_r0 (fun x hx => t_X12_isRootAt h_r0 x hx) hC (zdk dk_X12_readsBits 34 rfl) (q := 61) rfl rfl (Nat.le_of_ble_eq_true rfl) (fun z8 => ?_)
      refine x_if_ne (tgt := 67) hC (zdk dk_X12_readsBits 35 rfl) (q := 64) rfl rfl (fun _ => ?_) (fun _ => ?_)
      · refine x_aload_n (i := 0) rfl hC (zdk dk_X12_readsBits 37 rfl) (q := 68) rfl ?_
        refine x_getR (k := 20) fl_RX12_168 rfl h_r0 hC (zdk dk_X12_readsBits 38 rfl) (q := 71) rfl (fun q9 hq9 => ?_)
        refine x_aload_n (i := 0) rfl hC (zdk dk_X12_readsBits 39 rfl) (q := 72) rfl ?_
        refine x_getI fl_RX12_171 (by decide) h_r0 hC (zdk dk_X12_readsBits 40 rfl) (q := 75) rfl ?_
        refine x_iload_n (i := 3) rfl hC (zdk dk_X12_readsBits 41 rfl) (q := 76) rfl ?_
        refine x_iast hq9 hC (zdk dk_X12_readsBits 42 rfl) (q := 77) rfl (fun k10 _ => ?_)
        refine x_nmM (fun M11 => ?_)
        refine x_aload_n (i := 0) rfl hC (zdk dk_X12_readsBits 43 rfl) (q := 78) rfl ?_
        refine x_dup rfl hC (zdk dk_X12_readsBits 44 rfl) (q := 79) rfl ?_
        refine x_getI fl_RX12_171 (by decide) h_r0 hC (zdk dk_X12_readsBits 45 rfl) (q := 82) rfl ?_
        refine x_iconst (i := 1) c_iconst_1 hC (zdk dk_X12_readsBits 46 rfl) (q := 83) rfl ?_
        refine x_iadd hC (zdk dk_X12_readsBits 47 rfl) (q := 84) rfl ?_
        refine x_putI fl_RX12_171 ⟨rfl, rfl⟩ (by decide) (Or.inl rfl) h_r0 hC (zdk dk_X12_readsBits 48 rfl) (q := 87) rfl ?_
        refine x_nmM (fun M12 => ?_)
        refine x_weak (L' := [.ref r0, .null, .null, .int x3]) ⟨Or.inr rfl, Or.inl rfl, Or.inl rfl, Or.inr rfl, trivial⟩ ?_
        exact x_X12_readsBits_87 hC hE hk0 h_r0 (f_X12_readsBits_48 r0 y1 f) ih _ _
      · refine x_goto (tgt := 87) hC (zdk dk_X12_readsBits 36 rfl) rfl ?_
        refine x_weak (L' := [.ref r0, .null, .null, .int x3]) ⟨Or.inr rfl, Or.inl rfl, Or.inl rfl, Or.inr rfl, trivial⟩ ?_
        exact x_X12_readsBits_87 hC hE hk0 h_r0 (f_X12_readsBits_48 r0 y1 f) ih _ _
set_option maxRecDepth 100000 in
def f_X12_readsBits (r0 : Nat) (y1 : Int64) (M : Mem) : Option (Int32 × Mem) := Option.bind (f_X12_syndromesOf r0 y1 M) fun M13 => Option.bind (f_X12_locates r0 M13) fun M14 => Option.bind (some (zsI M14 r0 52 0)) fun M15 => Option.bind (some (zsL M15 r0 53 y1)) fun M16 => Option.bind (some (zsI M16 r0 50 0)) fun M17 => Option.bind (f_X12_by r0 2 M17) fun z18 => (if zI M17 r0 49 ≤ z18.1 then f_X12_readsBits_48 r0 y1 1000000 0 z18.2 else Option.bind (some (zsI z18.2 r0 50 1)) fun M19 => some (zI M19 r0 50, M19))
set_option maxRecDepth 100000 in
set_option maxHeartbeats 4000000 in
theorem x_X12_readsBits {κ : KX} {n : Nat} (hC : CX κ cX12_readsBits RX12 4 (some .int) 3) (hE : zEnd κ n (0, 0)) (hk0 : zRk κ (0, 0)) (r0 : Nat) (y1 : Int64) (M : Mem) (h_r0 : zO n r0 12) : X κ 4 emI n (0, 0) 0 [.ref r0, .long y1, .null, .null] [] M (f_X12_readsBits r0 y1 M) := by
  unfold f_X12_readsBits
  refine x_aload_n (i := 0) rfl hC (zdk dk_X12_readsBits 0 rfl) (q := 1) rfl ?_
  refine x_lload_n (i := 1) rfl hC (zdk dk_X12_readsBits 1 rfl) (q := 2) rfl ?_
  refine x_callVv (as := [.long y1]) cb_RX12_461 rfl (by decide) hk0 h_r0 (fun x hx => t_X12_syndromesOf h_r0 x hx) hC (zdk dk_X12_readsBits 2 rfl) (q := 5) rfl rfl (Nat.le_of_ble_eq_true rfl) (fun M13 => ?_)
  refine x_aload_n (i := 0) rfl hC (zdk dk_X12_readsBits 3 rfl) (q := 6) rfl ?_
  refine x_callVv (as := []) cb_RX12_464 rfl (by decide) hk0 h_r0 (fun x hx => t_X12_locates h_r0 x hx) hC (zdk dk_X12_readsBits 4 rfl) (q := 9) rfl rfl (Nat.le_of_ble_eq_true rfl) (fun M14 => ?_)
  refine x_aload_n (i := 0) rfl hC (zdk dk_X12_readsBits 5 rfl) (q := 10) rfl ?_
  refine x_iconst (i := 0) c_iconst_0 hC (zdk dk_X12_readsBits 6 rfl) (q := 11) rfl ?_
  refine x_putI fl_RX12_171 ⟨rfl, rfl⟩ (by decide) (Or.inl rfl) h_r0 hC (zdk dk_X12_readsBits 7 rfl) (q := 14) rfl ?_
  refine x_nmM (fun M15 => ?_)
  refine x_aload_n (i := 0) rfl hC (zdk dk_X12_readsBits 8 rfl) (q := 15) rfl ?_
  refine x_lload_n (i := 1) rfl hC (zdk dk_X12_readsBits 9 rfl) (q := 16) rfl ?_
  refine x_putL fl_RX12_174 ⟨rfl, rfl⟩ (Or.inl rfl) h_r0 hC (zdk dk_X12_readsBits 10 rfl) (q := 19) rfl ?_
  refine x_nmM (fun M16 => ?_)
  refine x_aload_n (i := 0) rfl hC (zdk dk_X12_readsBits 11 rfl) (q := 20) rfl ?_
  refine x_iconst (i := 0) c_iconst_0 hC (zdk dk_X12_readsBits 12 rfl) (q := 21) rfl ?_
  refine x_putI fl_RX12_165 ⟨rfl, rfl⟩ (by decide) (Or.inl rfl) h_r0 hC (zdk dk_X12_readsBits 13 rfl) (q := 24) rfl ?_
  refine x_nmM (fun M17 => ?_)
  refine x_aload_n (i := 0) rfl hC (zdk dk_X12_readsBits 14 rfl) (q := 25) rfl ?_
  refine x_getI fl_RX12_162 (by decide) h_r0 hC (zdk dk_X12_readsBits 15 rfl) (q := 28) rfl ?_
  refine x_aload_n (i := 0) rfl hC (zdk dk_X12_readsBits 16 rfl) (q := 29) rfl ?_
  refine x_iconst (i := 2) c_iconst_2 hC (zdk dk_X12_readsBits 17 rfl) (q := 30) rfl ?_
  refine x_callVi (as := [.int 2]) cb_RX12_428 rfl (by decide) hk0 h_r0 (fun x hx => t_X12_by h_r0 x hx) hC (zdk dk_X12_readsBits 18 rfl) (q := 33) rfl rfl (Nat.le_of_ble_eq_true rfl) (fun z18 => ?_)
  refine x_icmp_le (tgt := 46) hC (zdk dk_X12_readsBits 19 rfl) (q := 36) rfl rfl (fun _ => ?_) (fun _ => ?_)
  · refine x_iconst (i := 0) c_iconst_0 hC (zdk dk_X12_readsBits 26 rfl) (q := 47) rfl ?_
    refine x_istore_n (i := 3) (L' := [.ref r0, .long y1, .null, .int 0]) (by decide) rfl hC (zdk dk_X12_readsBits 27 rfl) (q := 48) rfl ?_
    refine x_weak (L' := [.ref r0, .null, .null, .int 0]) ⟨Or.inr rfl, Or.inl rfl, Or.inl rfl, Or.inr rfl, trivial⟩ ?_
    exact x_X12_readsBits_48 hC hE hk0 h_r0 _ _ _
  · refine x_aload_n (i := 0) rfl hC (zdk dk_X12_readsBits 20 rfl) (q := 37) rfl ?_
    refine x_iconst (i := 1) c_iconst_1 hC (zdk dk_X12_readsBits 21 rfl) (q := 38) rfl ?_
    refine x_putI fl_RX12_165 ⟨rfl, rfl⟩ (by decide) (Or.inl rfl) h_r0 hC (zdk dk_X12_readsBits 22 rfl) (q := 41) rfl ?_
    refine x_nmM (fun M19 => ?_)
    refine x_aload_n (i := 0) rfl hC (zdk dk_X12_readsBits 23 rfl) (q := 42) rfl ?_
    refine x_getI fl_RX12_165 (by decide) h_r0 hC (zdk dk_X12_readsBits 24 rfl) (q := 45) rfl ?_
    exact x_iret (ty := .int) rfl hE hC (zdk dk_X12_readsBits 25 rfl)
set_option maxRecDepth 100000 in
set_option maxHeartbeats 4000000 in
theorem t_X12_readsBits {n : Nat} {r0 : Nat} {y1 : Int64} {M : Mem} (h_r0 : zO n r0 12) (x : (Int32 × Mem)) (hx : f_X12_readsBits r0 y1 M = some x) (l : Launch) (dC : Nat → ClassId) (dI : Nat → Nat → Nat) (b : zSg) : MT l dC dI b yX12_readsBits cX12_readsBits 4 (some .int) 3 0 0 n n [.ref r0, .long y1] M (emI x).1 (emI x).2 :=
  MT.ofX (by decide +kernel) rfl (Nat.le_of_ble_eq_true rfl) (fun κ hC hF _ => x_X12_readsBits hC (zEnd_of hF (Nat.le_refl _) (Nat.le_refl _)) (zRk_of hF (Nat.le_refl _) (Nat.le_refl _)) _ _ _ h_r0) x hx
set_option maxRecDepth 100000 in
def dt_X12_counts : List (Nat × Instr × Nat) := [(0, .aload_n 0, 1), (1, .lload_n 1, 1), (2, .invokevirtual 470, 3), (5, .istore_n 3, 1), (6, .aload_n 0, 1), (7, .getfield 177, 3), (10, .iload_n 3, 1), (11, .ifCond .le 7, 3), (14, .iconst 2, 1), (15, .goto 17, 3), (18, .aload_n 0, 1), (19, .getfield 174, 3), (22, .lconst 0, 1), (23, .lcmp, 1), (24, .ifCond .ne 7, 3), (27, .iconst 0, 1), (28, .goto 4, 3), (31, .iconst 1, 1), (32, .dup2, 1), (33, .iaload, 1), (34, .iconst 1, 1), (35, .iadd, 1), (36, .iastore, 1), (37, .return_, 1)]
set_option maxRecDepth 100000 in
theorem dk_X12_counts : dt_X12_counts.all (fun q => decide (decode cX12_counts q.1 = .ok q.2)) = true := by decide +kernel
set_option maxRecDepth 100000 in
def f_X12_counts_32  (r0 : Nat) (y1 : Int64) (s0 : Nat) (s1 : Int32) (M : Mem) : Option Mem := Option.bind (zld s0 s1) fun k1 => Option.bind (zld s0 s1) fun k2 => Option.bind (some (zsI M s0 k2 ((zI M s0 k1) + 1))) fun M3 => some M3
set_option maxRecDepth 100000 in
set_option maxHeartbeats 4000000 in
theorem x_X12_counts_32 {κ : KX} {n : Nat} (hC : CX κ cX12_counts RX12 4 none 4) (hE : zEnd κ n (0, 0)) (hk0 : zRk κ (0, 0)) {r0 : Nat} {y1 : Int64} (h_r0 : zO n r0 12) (s0 : Nat) (s1 : Int32) (M : Mem) (h_s0 : zO n s0 20) : X κ 4 emV n (0, 0) 32 [.null, .null, .null, .null] [.int s1, .ref s0] M (f_X12_counts_32 r0 y1 s0 s1 M) := by
  unfold f_X12_counts_32
  refine x_dup2 rfl rfl hC (zdk dk_X12_counts 18 rfl) (q := 33) rfl ?_
  refine x_iald h_s0 hC (zdk dk_X12_counts 19 rfl) (q := 34) rfl (fun k1 _ => ?_)
  refine x_iconst (i := 1) c_iconst_1 hC (zdk dk_X12_counts 20 rfl) (q := 35) rfl ?_
  refine x_iadd hC (zdk dk_X12_counts 21 rfl) (q := 36) rfl ?_
  refine x_iast h_s0 hC (zdk dk_X12_counts 22 rfl) (q := 37) rfl (fun k2 _ => ?_)
  refine x_nmM (fun M3 => ?_)
  exact x_vret hE hC (zdk dk_X12_counts 23 rfl)
set_option maxRecDepth 100000 in
def f_X12_counts (r0 : Nat) (y1 : Int64) (M : Mem) : Option Mem := Option.bind (f_X12_readsBits r0 y1 M) fun z4 => Option.bind (zrf z4.2 r0 54) fun q5 => (if z4.1 ≤ 0 then (if lg_cmp (zL z4.2 r0 53) 0 = 0 then f_X12_counts_32 r0 y1 q5 0 z4.2 else f_X12_counts_32 r0 y1 q5 1 z4.2) else f_X12_counts_32 r0 y1 q5 2 z4.2)
set_option maxRecDepth 100000 in
set_option maxHeartbeats 4000000 in
theorem x_X12_counts {κ : KX} {n : Nat} (hC : CX κ cX12_counts RX12 4 none 4) (hE : zEnd κ n (0, 0)) (hk0 : zRk κ (0, 0)) (r0 : Nat) (y1 : Int64) (M : Mem) (h_r0 : zO n r0 12) : X κ 4 emV n (0, 0) 0 [.ref r0, .long y1, .null, .null] [] M (f_X12_counts r0 y1 M) := by
  unfold f_X12_counts
  refine x_aload_n (i := 0) rfl hC (zdk dk_X12_counts 0 rfl) (q := 1) rfl ?_
  refine x_lload_n (i := 1) rfl hC (zdk dk_X12_counts 1 rfl) (q := 2) rfl ?_
  refine x_callVi (as := [.long y1]) cb_RX12_470 rfl (by decide) hk0 h_r0 (fun x hx => t_X12_readsBits h_r0 x hx) hC (zdk dk_X12_counts 2 rfl) (q := 5) rfl rfl (Nat.le_of_ble_eq_true rfl) (fun z4 => ?_)
  refine x_istore_n (i := 3) (L' := [.ref r0, .long y1, .null, .int z4.1]) (by decide) rfl hC (zdk dk_X12_counts 3 rfl) (q := 6) rfl ?_
  refine x_aload_n (i := 0) rfl hC (zdk dk_X12_counts 4 rfl) (q := 7) rfl ?_
  refine x_getR (k := 20) fl_RX12_177 rfl h_r0 hC (zdk dk_X12_counts 5 rfl) (q := 10) rfl (fun q5 hq5 => ?_)
  refine x_iload_n (i := 3) rfl hC (zdk dk_X12_counts 6 rfl) (q := 11) rfl ?_
  refine x_if_le (tgt := 18) hC (zdk dk_X12_counts 7 rfl) (q := 14) rfl rfl (fun _ => ?_) (fun _ => ?_)
  · refine x_aload_n (i := 0) rfl hC (zdk dk_X12_counts 10 rfl) (q := 19) rfl ?_
    refine x_getL fl_RX12_174 h_r0 hC (zdk dk_X12_counts 11 rfl) (q := 22) rfl ?_
    refine x_lconst (i := 0) c_lconst_0 hC (zdk dk_X12_counts 12 rfl) (q := 23) rfl ?_
    refine x_lcmp hC (zdk dk_X12_counts 13 rfl) (q := 24) rfl ?_
    refine x_if_ne (tgt := 31) hC (zdk dk_X12_counts 14 rfl) (q := 27) rfl rfl (fun _ => ?_) (fun _ => ?_)
    · refine x_iconst (i := 1) c_iconst_1 hC (zdk dk_X12_counts 17 rfl) (q := 32) rfl ?_
      refine x_weak (L' := [.null, .null, .null, .null]) ⟨Or.inl rfl, Or.inl rfl, Or.inl rfl, Or.inl rfl, trivial⟩ ?_
      exact x_X12_counts_32 hC hE hk0 h_r0 _ _ _ hq5
    · refine x_iconst (i := 0) c_iconst_0 hC (zdk dk_X12_counts 15 rfl) (q := 28) rfl ?_
      refine x_goto (tgt := 32) hC (zdk dk_X12_counts 16 rfl) rfl ?_
      refine x_weak (L' := [.null, .null, .null, .null]) ⟨Or.inl rfl, Or.inl rfl, Or.inl rfl, Or.inl rfl, trivial⟩ ?_
      exact x_X12_counts_32 hC hE hk0 h_r0 _ _ _ hq5
  · refine x_iconst (i := 2) c_iconst_2 hC (zdk dk_X12_counts 8 rfl) (q := 15) rfl ?_
    refine x_goto (tgt := 32) hC (zdk dk_X12_counts 9 rfl) rfl ?_
    refine x_weak (L' := [.null, .null, .null, .null]) ⟨Or.inl rfl, Or.inl rfl, Or.inl rfl, Or.inl rfl, trivial⟩ ?_
    exact x_X12_counts_32 hC hE hk0 h_r0 _ _ _ hq5
set_option maxRecDepth 100000 in
set_option maxHeartbeats 4000000 in
theorem t_X12_counts {n : Nat} {r0 : Nat} {y1 : Int64} {M : Mem} (h_r0 : zO n r0 12) (x : Mem) (hx : f_X12_counts r0 y1 M = some x) (l : Launch) (dC : Nat → ClassId) (dI : Nat → Nat → Nat) (b : zSg) : MT l dC dI b yX12_counts cX12_counts 4 none 4 0 0 n n [.ref r0, .long y1] M (emV x).1 (emV x).2 :=
  MT.ofX (by decide +kernel) rfl (Nat.le_of_ble_eq_true rfl) (fun κ hC hF _ => x_X12_counts hC (zEnd_of hF (Nat.le_refl _) (Nat.le_refl _)) (zRk_of hF (Nat.le_refl _) (Nat.le_refl _)) _ _ _ h_r0) x hx
set_option maxRecDepth 100000 in
def dt_X12_patterns : List (Nat × Instr × Nat) := [(0, .aload_n 0, 1), (1, .getfield 120, 3), (4, .ifCond .eq 29, 3), (7, .iload_n 1, 1), (8, .iconst 1, 1), (9, .iconst 3, 1), (10, .invokestatic 325, 3), (13, .ifCond .eq 20, 3), (16, .iload_n 1, 1), (17, .aload_n 0, 1), (18, .getfield 132, 3), (21, .if_icmp .gt 12, 3), (24, .iload_n 2, 1), (25, .iconst 0, 1), (26, .iconst 2, 1), (27, .invokestatic 325, 3), (30, .ifCond .ne 5, 3), (33, .iconst (-1), 1), (34, .ireturn, 1), (35, .iconst 0, 1), (36, .istore_n 3, 1), (37, .iload_n 3, 1), (38, .iconst 3, 1), (39, .if_icmp .ge 16, 3), (42, .aload_n 0, 1), (43, .getfield 177, 3), (46, .iload_n 3, 1), (47, .iconst 0, 1), (48, .iastore, 1), (49, .iinc 3 1, 3), (52, .goto (-15), 3), (55, .iconst 0, 1), (56, .istore_n 3, 1), (57, .iload_n 3, 1), (58, .aload_n 0, 1), (59, .getfield 132, 3), (62, .if_icmp .ge 106, 3), (65, .iload_n 1, 1), (66, .iconst 1, 1), (67, .if_icmp .ne 10, 3), (70, .aload_n 0, 1), (71, .lconst 1, 1), (72, .iload_n 3, 1), (73, .lshl, 1), (74, .invokevirtual 473, 3), (77, .iload_n 3, 1), (78, .iconst 1, 1), (79, .iadd, 1), (80, .istore 4, 2), (82, .iload 4, 2), (84, .aload_n 0, 1), (85, .getfield 132, 3), (88, .if_icmp .ge 74, 3), (91, .iload_n 1, 1), (92, .iconst 1, 1), (93, .if_icmp .le 69, 3), (96, .iload_n 1, 1), (97, .iconst 2, 1), (98, .if_icmp .ne 15, 3), (101, .aload_n 0, 1), (102, .lconst 1, 1), (103, .iload_n 3, 1), (104, .lshl, 1), (105, .lconst 1, 1), (106, .iload 4, 2), (108, .lshl, 1), (109, .lor, 1), (110, .invokevirtual 473, 3), (113, .iload 4, 2), (115, .iconst 1, 1), (116, .iadd, 1), (117, .istore 5, 2), (119, .iload 5, 2), (121, .aload_n 0, 1), (122, .getfield 132, 3), (125, .if_icmp .ge 31, 3), (128, .iload_n 1, 1), (129, .iconst 2, 1), (130, .if_icmp .le 26, 3), (133, .aload_n 0, 1), (134, .lconst 1, 1), (135, .iload_n 3, 1), (136, .lshl, 1), (137, .lconst 1, 1), (138, .iload 4, 2), (140, .lshl, 1), (141, .lor, 1), (142, .lconst 1, 1), (143, .iload 5, 2), (145, .lshl, 1), (146, .lor, 1), (147, .invokevirtual 473, 3), (150, .iinc 5 1, 3), (153, .goto (-34), 3), (156, .iinc 4 1, 3), (159, .goto (-77), 3), (162, .iinc 3 1, 3), (165, .goto (-108), 3), (168, .aload_n 0, 1), (169, .getfield 177, 3), (172, .iload_n 2, 1), (173, .iaload, 1), (174, .ireturn, 1)]
set_option maxRecDepth 100000 in
theorem dk_X12_patterns : dt_X12_patterns.all (fun q => decide (decode cX12_patterns q.1 = .ok q.2)) = true := by decide +kernel
set_option maxRecDepth 100000 in
def f_X12_patterns_33  (r0 : Nat) (x1 : Int32) (x2 : Int32)  (M : Mem) : Option (Int32 × Mem) := some ((-1), M)
set_option maxRecDepth 100000 in
set_option maxHeartbeats 4000000 in
theorem x_X12_patterns_33 {κ : KX} {n : Nat} (hC : CX κ cX12_patterns RX12 6 (some .int) 5) (hE : zEnd κ n (0, 0)) (hk0 : zRk κ (0, 0)) {r0 : Nat} {x1 : Int32} {x2 : Int32} (h_r0 : zO n r0 12) (M : Mem) : X κ 6 emI n (0, 0) 33 [.null, .null, .null, .null, .null, .null] [] M (f_X12_patterns_33 r0 x1 x2 M) := by
  unfold f_X12_patterns_33
  refine x_iconst (i := (-1)) c_iconst_m1 hC (zdk dk_X12_patterns 17 rfl) (q := 34) rfl ?_
  exact x_iret (ty := .int) rfl hE hC (zdk dk_X12_patterns 18 rfl)
set_option maxRecDepth 100000 in
def f_X12_patterns_156 (k57 : Int32 → Mem → Option (Int32 × Mem)) (k82 : Int32 → Int32 → Mem → Option (Int32 × Mem)) (r0 : Nat) (x1 : Int32) (x2 : Int32) (x3 : Int32) (x4 : Int32) (M : Mem) : Option (Int32 × Mem) := k82 x3 (x4 + 1) M
set_option maxRecDepth 100000 in
set_option maxHeartbeats 4000000 in
theorem x_X12_patterns_156 {κ : KX} {n : Nat} (hC : CX κ cX12_patterns RX12 6 (some .int) 5) (hE : zEnd κ n (0, 0)) (hk0 : zRk κ (0, 0)) {r0 : Nat} {x1 : Int32} {x2 : Int32} (h_r0 : zO n r0 12) (k57 : Int32 → Mem → Option (Int32 × Mem)) (hk57 : ∀ (x3 : Int32) (M : Mem), X κ 6 emI n (0, 0) 57 [.ref r0, .int x1, .int x2, .int x3, .null, .null] [] M (k57 x3 M)) (k82 : Int32 → Int32 → Mem → Option (Int32 × Mem)) (hk82 : ∀ (x3 : Int32) (x4 : Int32) (M : Mem), X κ 6 emI n (0, 0) 82 [.ref r0, .int x1, .int x2, .int x3, .int x4, .null] [] M (k82 x3 x4 M)) (x3 : Int32) (x4 : Int32) (M : Mem) : X κ 6 emI n (0, 0) 156 [.ref r0, .int x1, .int x2, .int x3, .int x4, .null] [] M (f_X12_patterns_156 k57 k82 r0 x1 x2 x3 x4 M) := by
  unfold f_X12_patterns_156
  refine x_iinc (i := 4) c_iconst_1 rfl (by decide) (L' := [.ref r0, .int x1, .int x2, .int x3, .int (x4 + 1), .null]) rfl hC (zdk dk_X12_patterns 94 rfl) (q := 159) rfl ?_
  refine x_goto (tgt := 82) hC (zdk dk_X12_patterns 95 rfl) rfl ?_
  refine x_weak (L' := [.ref r0, .int x1, .int x2, .int x3, .int (x4 + 1), .null]) ⟨Or.inr rfl, Or.inr rfl, Or.inr rfl, Or.inr rfl, Or.inr rfl, Or.inl rfl, trivial⟩ ?_
  exact hk82 _ _ _
set_option maxRecDepth 100000 in
def f_X12_patterns_119 (k57 : Int32 → Mem → Option (Int32 × Mem)) (k82 : Int32 → Int32 → Mem → Option (Int32 × Mem)) (r0 : Nat) (x1 : Int32) (x2 : Int32) : Nat → Int32 → Int32 → Int32 → Mem → Option (Int32 × Mem)
  | 0, _, _, _, _ => none
  | f + 1, x3, x4, x5, M => (if zI M r0 39 ≤ x5 then f_X12_patterns_156 k57 k82 r0 x1 x2 x3 x4 M else (if x1 ≤ 2 then f_X12_patterns_156 k57 k82 r0 x1 x2 x3 x4 M else Option.bind (f_X12_counts r0 ((((1 : Int64) <<< (x3.toInt64 &&& 63)) ||| ((1 : Int64) <<< (x4.toInt64 &&& 63))) ||| ((1 : Int64) <<< (x5.toInt64 &&& 63))) M) fun M1 => (f_X12_patterns_119 k57 k82 r0 x1 x2 f) x3 x4 (x5 + 1) M1))
set_option maxRecDepth 100000 in
set_option maxHeartbeats 4000000 in
theorem x_X12_patterns_119 {κ : KX} {n : Nat} (hC : CX κ cX12_patterns RX12 6 (some .int) 5) (hE : zEnd κ n (0, 0)) (hk0 : zRk κ (0, 0)) {r0 : Nat} {x1 : Int32} {x2 : Int32} (h_r0 : zO n r0 12) (k57 : Int32 → Mem → Option (Int32 × Mem)) (hk57 : ∀ (x3 : Int32) (M : Mem), X κ 6 emI n (0, 0) 57 [.ref r0, .int x1, .int x2, .int x3, .null, .null] [] M (k57 x3 M)) (k82 : Int32 → Int32 → Mem → Option (Int32 × Mem)) (hk82 : ∀ (x3 : Int32) (x4 : Int32) (M : Mem), X κ 6 emI n (0, 0) 82 [.ref r0, .int x1, .int x2, .int x3, .int x4, .null] [] M (k82 x3 x4 M)) : ∀ (f : Nat) (x3 : Int32) (x4 : Int32) (x5 : Int32) (M : Mem), X κ 6 emI n (0, 0) 119 [.ref r0, .int x1, .int x2, .int x3, .int x4, .int x5] [] M (f_X12_patterns_119 k57 k82 r0 x1 x2 f x3 x4 x5 M) := by
  intro f
  induction f with
  | zero => intros; exact x_none
  | succ f ih =>
    intro x3 x4 x5 M 
    rw [f_X12_patterns_119]
    refine x_iload (i := 5) rfl hC (zdk dk_X12_patterns 72 rfl) (q := 121) rfl ?_
    refine x_aload_n (i := 0) rfl hC (zdk dk_X12_patterns 73 rfl) (q := 122) rfl ?_
    refine x_getI fl_RX12_132 (by decide) h_r0 hC (zdk dk_X12_patterns 74 rfl) (q := 125) rfl ?_
    refine x_icmp_ge (tgt := 156) hC (zdk dk_X12_patterns 75 rfl) (q := 128) rfl rfl (fun _ => ?_) (fun _ => ?_)
    · refine x_weak (L' := [.ref r0, .int x1, .int x2, .int x3, .int x4, .null]) ⟨Or.inr rfl, Or.inr rfl, Or.inr rfl, Or.inr rfl, Or.inr rfl, Or.inl rfl, trivial⟩ ?_
      exact x_X12_patterns_156 hC hE hk0 h_r0 k57 hk57 k82 hk82 _ _ _
    · refine x_iload_n (i := 1) rfl hC (zdk dk_X12_patterns 76 rfl) (q := 129) rfl ?_
      refine x_iconst (i := 2) c_iconst_2 hC (zdk dk_X12_patterns 77 rfl) (q := 130) rfl ?_
      refine x_icmp_le (tgt := 156) hC (zdk dk_X12_patterns 78 rfl) (q := 133) rfl rfl (fun _ => ?_) (fun _ => ?_)
      · refine x_weak (L' := [.ref r0, .int x1, .int x2, .int x3, .int x4, .null]) ⟨Or.inr rfl, Or.inr rfl, Or.inr rfl, Or.inr rfl, Or.inr rfl, Or.inl rfl, trivial⟩ ?_
        exact x_X12_patterns_156 hC hE hk0 h_r0 k57 hk57 k82 hk82 _ _ _
      · refine x_aload_n (i := 0) rfl hC (zdk dk_X12_patterns 79 rfl) (q := 134) rfl ?_
        refine x_lconst (i := 1) c_lconst_1 hC (zdk dk_X12_patterns 80 rfl) (q := 135) rfl ?_
        refine x_iload_n (i := 3) rfl hC (zdk dk_X12_patterns 81 rfl) (q := 136) rfl ?_
        refine x_lshl hC (zdk dk_X12_patterns 82 rfl) (q := 137) rfl ?_
        refine x_lconst (i := 1) c_lconst_1 hC (zdk dk_X12_patterns 83 rfl) (q := 138) rfl ?_
        refine x_iload (i := 4) rfl hC (zdk dk_X12_patterns 84 rfl) (q := 140) rfl ?_
        refine x_lshl hC (zdk dk_X12_patterns 85 rfl) (q := 141) rfl ?_
        refine x_lor hC (zdk dk_X12_patterns 86 rfl) (q := 142) rfl ?_
        refine x_lconst (i := 1) c_lconst_1 hC (zdk dk_X12_patterns 87 rfl) (q := 143) rfl ?_
        refine x_iload (i := 5) rfl hC (zdk dk_X12_patterns 88 rfl) (q := 145) rfl ?_
        refine x_lshl hC (zdk dk_X12_patterns 89 rfl) (q := 146) rfl ?_
        refine x_lor hC (zdk dk_X12_patterns 90 rfl) (q := 147) rfl ?_
        refine x_callVv (as := [.long ((((1 : Int64) <<< (x3.toInt64 &&& 63)) ||| ((1 : Int64) <<< (x4.toInt64 &&& 63))) ||| ((1 : Int64) <<< (x5.toInt64 &&& 63)))]) cb_RX12_473 rfl (by decide) hk0 h_r0 (fun x hx => t_X12_counts h_r0 x hx) hC (zdk dk_X12_patterns 91 rfl) (q := 150) rfl rfl (Nat.le_of_ble_eq_true rfl) (fun M1 => ?_)
        refine x_iinc (i := 5) c_iconst_1 rfl (by decide) (L' := [.ref r0, .int x1, .int x2, .int x3, .int x4, .int (x5 + 1)]) rfl hC (zdk dk_X12_patterns 92 rfl) (q := 153) rfl ?_
        refine x_goto (tgt := 119) hC (zdk dk_X12_patterns 93 rfl) rfl ?_
        refine x_weak (L' := [.ref r0, .int x1, .int x2, .int x3, .int x4, .int (x5 + 1)]) ⟨Or.inr rfl, Or.inr rfl, Or.inr rfl, Or.inr rfl, Or.inr rfl, Or.inr rfl, trivial⟩ ?_
        exact ih _ _ _ _
set_option maxRecDepth 100000 in
def f_X12_patterns_113 (k57 : Int32 → Mem → Option (Int32 × Mem)) (k82 : Int32 → Int32 → Mem → Option (Int32 × Mem)) (r0 : Nat) (x1 : Int32) (x2 : Int32) (x3 : Int32) (x4 : Int32) (M : Mem) : Option (Int32 × Mem) := f_X12_patterns_119 k57 k82 r0 x1 x2 1000000 x3 x4 (x4 + 1) M
set_option maxRecDepth 100000 in
set_option maxHeartbeats 4000000 in
theorem x_X12_patterns_113 {κ : KX} {n : Nat} (hC : CX κ cX12_patterns RX12 6 (some .int) 5) (hE : zEnd κ n (0, 0)) (hk0 : zRk κ (0, 0)) {r0 : Nat} {x1 : Int32} {x2 : Int32} (h_r0 : zO n r0 12) (k57 : Int32 → Mem → Option (Int32 × Mem)) (hk57 : ∀ (x3 : Int32) (M : Mem), X κ 6 emI n (0, 0) 57 [.ref r0, .int x1, .int x2, .int x3, .null, .null] [] M (k57 x3 M)) (k82 : Int32 → Int32 → Mem → Option (Int32 × Mem)) (hk82 : ∀ (x3 : Int32) (x4 : Int32) (M : Mem), X κ 6 emI n (0, 0) 82 [.ref r0, .int x1, .int x2, .int x3, .int x4, .null] [] M (k82 x3 x4 M)) (x3 : Int32) (x4 : Int32) (M : Mem) : X κ 6 emI n (0, 0) 113 [.ref r0, .int x1, .int x2, .int x3, .int x4, .null] [] M (f_X12_patterns_113 k57 k82 r0 x1 x2 x3 x4 M) := by
  unfold f_X12_patterns_113
  refine x_iload (i := 4) rfl hC (zdk dk_X12_patterns 68 rfl) (q := 115) rfl ?_
  refine x_iconst (i := 1) c_iconst_1 hC (zdk dk_X12_patterns 69 rfl) (q := 116) rfl ?_
  refine x_iadd hC (zdk dk_X12_patterns 70 rfl) (q := 117) rfl ?_
  refine x_istore (i := 5) (L' := [.ref r0, .int x1, .int x2, .int x3, .int x4, .int (x4 + 1)]) (by decide) rfl hC (zdk dk_X12_patterns 71 rfl) (q := 119) rfl ?_
  refine x_weak (L' := [.ref r0, .int x1, .int x2, .int x3, .int x4, .int (x4 + 1)]) ⟨Or.inr rfl, Or.inr rfl, Or.inr rfl, Or.inr rfl, Or.inr rfl, Or.inr rfl, trivial⟩ ?_
  exact x_X12_patterns_119 hC hE hk0 h_r0 k57 hk57 k82 hk82 _ _ _ _ _
set_option maxRecDepth 100000 in
def f_X12_patterns_162 (k57 : Int32 → Mem → Option (Int32 × Mem)) (r0 : Nat) (x1 : Int32) (x2 : Int32) (x3 : Int32) (M : Mem) : Option (Int32 × Mem) := k57 (x3 + 1) M
set_option maxRecDepth 100000 in
set_option maxHeartbeats 4000000 in
theorem x_X12_patterns_162 {κ : KX} {n : Nat} (hC : CX κ cX12_patterns RX12 6 (some .int) 5) (hE : zEnd κ n (0, 0)) (hk0 : zRk κ (0, 0)) {r0 : Nat} {x1 : Int32} {x2 : Int32} (h_r0 : zO n r0 12) (k57 : Int32 → Mem → Option (Int32 × Mem)) (hk57 : ∀ (x3 : Int32) (M : Mem), X κ 6 emI n (0, 0) 57 [.ref r0, .int x1, .int x2, .int x3, .null, .null] [] M (k57 x3 M)) (x3 : Int32) (M : Mem) : X κ 6 emI n (0, 0) 162 [.ref r0, .int x1, .int x2, .int x3, .null, .null] [] M (f_X12_patterns_162 k57 r0 x1 x2 x3 M) := by
  unfold f_X12_patterns_162
  refine x_iinc (i := 3) c_iconst_1 rfl (by decide) (L' := [.ref r0, .int x1, .int x2, .int (x3 + 1), .null, .null]) rfl hC (zdk dk_X12_patterns 96 rfl) (q := 165) rfl ?_
  refine x_goto (tgt := 57) hC (zdk dk_X12_patterns 97 rfl) rfl ?_
  refine x_weak (L' := [.ref r0, .int x1, .int x2, .int (x3 + 1), .null, .null]) ⟨Or.inr rfl, Or.inr rfl, Or.inr rfl, Or.inr rfl, Or.inl rfl, Or.inl rfl, trivial⟩ ?_
  exact hk57 _ _
set_option maxRecDepth 100000 in
def f_X12_patterns_82 (k57 : Int32 → Mem → Option (Int32 × Mem)) (r0 : Nat) (x1 : Int32) (x2 : Int32) : Nat → Int32 → Int32 → Mem → Option (Int32 × Mem)
  | 0, _, _, _ => none
  | f + 1, x3, x4, M => (if zI M r0 39 ≤ x4 then f_X12_patterns_162 k57 r0 x1 x2 x3 M else (if x1 ≤ 1 then f_X12_patterns_162 k57 r0 x1 x2 x3 M else (if x1 = 2 then Option.bind (f_X12_counts r0 (((1 : Int64) <<< (x3.toInt64 &&& 63)) ||| ((1 : Int64) <<< (x4.toInt64 &&& 63))) M) fun M2 => f_X12_patterns_113 k57 (f_X12_patterns_82 k57 r0 x1 x2 f) r0 x1 x2 x3 x4 M2 else f_X12_patterns_113 k57 (f_X12_patterns_82 k57 r0 x1 x2 f) r0 x1 x2 x3 x4 M)))
set_option maxRecDepth 100000 in
set_option maxHeartbeats 4000000 in
theorem x_X12_patterns_82 {κ : KX} {n : Nat} (hC : CX κ cX12_patterns RX12 6 (some .int) 5) (hE : zEnd κ n (0, 0)) (hk0 : zRk κ (0, 0)) {r0 : Nat} {x1 : Int32} {x2 : Int32} (h_r0 : zO n r0 12) (k57 : Int32 → Mem → Option (Int32 × Mem)) (hk57 : ∀ (x3 : Int32) (M : Mem), X κ 6 emI n (0, 0) 57 [.ref r0, .int x1, .int x2, .int x3, .null, .null] [] M (k57 x3 M)) : ∀ (f : Nat) (x3 : Int32) (x4 : Int32) (M : Mem), X κ 6 emI n (0, 0) 82 [.ref r0, .int x1, .int x2, .int x3, .int x4, .null] [] M (f_X12_patterns_82 k57 r0 x1 x2 f x3 x4 M) := by
  intro f
  induction f with
  | zero => intros; exact x_none
  | succ f ih =>
    intro x3 x4 M 
    rw [f_X12_patterns_82]
    refine x_iload (i := 4) rfl hC (zdk dk_X12_patterns 49 rfl) (q := 84) rfl ?_
    refine x_aload_n (i := 0) rfl hC (zdk dk_X12_patterns 50 rfl) (q := 85) rfl ?_
    refine x_getI fl_RX12_132 (by decide) h_r0 hC (zdk dk_X12_patterns 51 rfl) (q := 88) rfl ?_
    refine x_icmp_ge (tgt := 162) hC (zdk dk_X12_patterns 52 rfl) (q := 91) rfl rfl (fun _ => ?_) (fun _ => ?_)
    · refine x_weak (L' := [.ref r0, .int x1, .int x2, .int x3, .null, .null]) ⟨Or.inr rfl, Or.inr rfl, Or.inr rfl, Or.inr rfl, Or.inl rfl, Or.inl rfl, trivial⟩ ?_
      exact x_X12_patterns_162 hC hE hk0 h_r0 k57 hk57 _ _
    · refine x_iload_n (i := 1) rfl hC (zdk dk_X12_patterns 53 rfl) (q := 92) rfl ?_
      refine x_iconst (i := 1) c_iconst_1 hC (zdk dk_X12_patterns 54 rfl) (q := 93) rfl ?_
      refine x_icmp_le (tgt := 162) hC (zdk dk_X12_patterns 55 rfl) (q := 96) rfl rfl (fun _ => ?_) (fun _ => ?_)
      · refine x_weak (L' := [.ref r0, .int x1, .int x2, .int x3, .null, .null]) ⟨Or.inr rfl, Or.inr rfl, Or.inr rfl, Or.inr rfl, Or.inl rfl, Or.inl rfl, trivial⟩ ?_
        exact x_X12_patterns_162 hC hE hk0 h_r0 k57 hk57 _ _
      · refine x_iload_n (i := 1) rfl hC (zdk dk_X12_patterns 56 rfl) (q := 97) rfl ?_
        refine x_iconst (i := 2) c_iconst_2 hC (zdk dk_X12_patterns 57 rfl) (q := 98) rfl ?_
        refine x_icmp_ne (tgt := 113) hC (zdk dk_X12_patterns 58 rfl) (q := 101) rfl rfl (fun _ => ?_) (fun _ => ?_)
        · refine x_weak (L' := [.ref r0, .int x1, .int x2, .int x3, .int x4, .null]) ⟨Or.inr rfl, Or.inr rfl, Or.inr rfl, Or.inr rfl, Or.inr rfl, Or.inl rfl, trivial⟩ ?_
          exact x_X12_patterns_113 hC hE hk0 h_r0 k57 hk57 (f_X12_patterns_82 k57 r0 x1 x2 f) ih _ _ _
        · refine x_aload_n (i := 0) rfl hC (zdk dk_X12_patterns 59 rfl) (q := 102) rfl ?_
          refine x_lconst (i := 1) c_lconst_1 hC (zdk dk_X12_patterns 60 rfl) (q := 103) rfl ?_
          refine x_iload_n (i := 3) rfl hC (zdk dk_X12_patterns 61 rfl) (q := 104) rfl ?_
          refine x_lshl hC (zdk dk_X12_patterns 62 rfl) (q := 105) rfl ?_
          refine x_lconst (i := 1) c_lconst_1 hC (zdk dk_X12_patterns 63 rfl) (q := 106) rfl ?_
          refine x_iload (i := 4) rfl hC (zdk dk_X12_patterns 64 rfl) (q := 108) rfl ?_
          refine x_lshl hC (zdk dk_X12_patterns 65 rfl) (q := 109) rfl ?_
          refine x_lor hC (zdk dk_X12_patterns 66 rfl) (q := 110) rfl ?_
          refine x_callVv (as := [.long (((1 : Int64) <<< (x3.toInt64 &&& 63)) ||| ((1 : Int64) <<< (x4.toInt64 &&& 63)))]) cb_RX12_473 rfl (by decide) hk0 h_r0 (fun x hx => t_X12_counts h_r0 x hx) hC (zdk dk_X12_patterns 67 rfl) (q := 113) rfl rfl (Nat.le_of_ble_eq_true rfl) (fun M2 => ?_)
          refine x_weak (L' := [.ref r0, .int x1, .int x2, .int x3, .int x4, .null]) ⟨Or.inr rfl, Or.inr rfl, Or.inr rfl, Or.inr rfl, Or.inr rfl, Or.inl rfl, trivial⟩ ?_
          exact x_X12_patterns_113 hC hE hk0 h_r0 k57 hk57 (f_X12_patterns_82 k57 r0 x1 x2 f) ih _ _ _
set_option maxRecDepth 100000 in
def f_X12_patterns_77 (k57 : Int32 → Mem → Option (Int32 × Mem)) (r0 : Nat) (x1 : Int32) (x2 : Int32) (x3 : Int32) (M : Mem) : Option (Int32 × Mem) := f_X12_patterns_82 k57 r0 x1 x2 1000000 x3 (x3 + 1) M
set_option maxRecDepth 100000 in
set_option maxHeartbeats 4000000 in
theorem x_X12_patterns_77 {κ : KX} {n : Nat} (hC : CX κ cX12_patterns RX12 6 (some .int) 5) (hE : zEnd κ n (0, 0)) (hk0 : zRk κ (0, 0)) {r0 : Nat} {x1 : Int32} {x2 : Int32} (h_r0 : zO n r0 12) (k57 : Int32 → Mem → Option (Int32 × Mem)) (hk57 : ∀ (x3 : Int32) (M : Mem), X κ 6 emI n (0, 0) 57 [.ref r0, .int x1, .int x2, .int x3, .null, .null] [] M (k57 x3 M)) (x3 : Int32) (M : Mem) : X κ 6 emI n (0, 0) 77 [.ref r0, .int x1, .int x2, .int x3, .null, .null] [] M (f_X12_patterns_77 k57 r0 x1 x2 x3 M) := by
  unfold f_X12_patterns_77
  refine x_iload_n (i := 3) rfl hC (zdk dk_X12_patterns 45 rfl) (q := 78) rfl ?_
  refine x_iconst (i := 1) c_iconst_1 hC (zdk dk_X12_patterns 46 rfl) (q := 79) rfl ?_
  refine x_iadd hC (zdk dk_X12_patterns 47 rfl) (q := 80) rfl ?_
  refine x_istore (i := 4) (L' := [.ref r0, .int x1, .int x2, .int x3, .int (x3 + 1), .null]) (by decide) rfl hC (zdk dk_X12_patterns 48 rfl) (q := 82) rfl ?_
  refine x_weak (L' := [.ref r0, .int x1, .int x2, .int x3, .int (x3 + 1), .null]) ⟨Or.inr rfl, Or.inr rfl, Or.inr rfl, Or.inr rfl, Or.inr rfl, Or.inl rfl, trivial⟩ ?_
  exact x_X12_patterns_82 hC hE hk0 h_r0 k57 hk57 _ _ _ _
set_option maxRecDepth 100000 in
def f_X12_patterns_57  (r0 : Nat) (x1 : Int32) (x2 : Int32) : Nat → Int32 → Mem → Option (Int32 × Mem)
  | 0, _, _ => none
  | f + 1, x3, M => (if zI M r0 39 ≤ x3 then Option.bind (zrf M r0 54) fun q3 => Option.bind (zld q3 x2) fun k4 => some (zI M q3 k4, M) else (if x1 = 1 then Option.bind (f_X12_counts r0 ((1 : Int64) <<< (x3.toInt64 &&& 63)) M) fun M5 => f_X12_patterns_77 (f_X12_patterns_57 r0 x1 x2 f) r0 x1 x2 x3 M5 else f_X12_patterns_77 (f_X12_patterns_57 r0 x1 x2 f) r0 x1 x2 x3 M))
set_option maxRecDepth 100000 in
set_option maxHeartbeats 4000000 in
theorem x_X12_patterns_57 {κ : KX} {n : Nat} (hC : CX κ cX12_patterns RX12 6 (some .int) 5) (hE : zEnd κ n (0, 0)) (hk0 : zRk κ (0, 0)) {r0 : Nat} {x1 : Int32} {x2 : Int32} (h_r0 : zO n r0 12) : ∀ (f : Nat) (x3 : Int32) (M : Mem), X κ 6 emI n (0, 0) 57 [.ref r0, .int x1, .int x2, .int x3, .null, .null] [] M (f_X12_patterns_57 r0 x1 x2 f x3 M) := by
  intro f
  induction f with
  | zero => intros; exact x_none
  | succ f ih =>
    intro x3 M 
    rw [f_X12_patterns_57]
    refine x_iload_n (i := 3) rfl hC (zdk dk_X12_patterns 33 rfl) (q := 58) rfl ?_
    refine x_aload_n (i := 0) rfl hC (zdk dk_X12_patterns 34 rfl) (q := 59) rfl ?_
    refine x_getI fl_RX12_132 (by decide) h_r0 hC (zdk dk_X12_patterns 35 rfl) (q := 62) rfl ?_
    refine x_icmp_ge (tgt := 168) hC (zdk dk_X12_patterns 36 rfl) (q := 65) rfl rfl (fun _ => ?_) (fun _ => ?_)
    · refine x_aload_n (i := 0) rfl hC (zdk dk_X12_patterns 98 rfl) (q := 169) rfl ?_
      refine x_getR (k := 20) fl_RX12_177 rfl h_r0 hC (zdk dk_X12_patterns 99 rfl) (q := 172) rfl (fun q3 hq3 => ?_)
      refine x_iload_n (i := 2) rfl hC (zdk dk_X12_patterns 100 rfl) (q := 173) rfl ?_
      refine x_iald hq3 hC (zdk dk_X12_patterns 101 rfl) (q := 174) rfl (fun k4 _ => ?_)
      exact x_iret (ty := .int) rfl hE hC (zdk dk_X12_patterns 102 rfl)
    · refine x_iload_n (i := 1) rfl hC (zdk dk_X12_patterns 37 rfl) (q := 66) rfl ?_
      refine x_iconst (i := 1) c_iconst_1 hC (zdk dk_X12_patterns 38 rfl) (q := 67) rfl ?_
      refine x_icmp_ne (tgt := 77) hC (zdk dk_X12_patterns 39 rfl) (q := 70) rfl rfl (fun _ => ?_) (fun _ => ?_)
      · refine x_weak (L' := [.ref r0, .int x1, .int x2, .int x3, .null, .null]) ⟨Or.inr rfl, Or.inr rfl, Or.inr rfl, Or.inr rfl, Or.inl rfl, Or.inl rfl, trivial⟩ ?_
        exact x_X12_patterns_77 hC hE hk0 h_r0 (f_X12_patterns_57 r0 x1 x2 f) ih _ _
      · refine x_aload_n (i := 0) rfl hC (zdk dk_X12_patterns 40 rfl) (q := 71) rfl ?_
        refine x_lconst (i := 1) c_lconst_1 hC (zdk dk_X12_patterns 41 rfl) (q := 72) rfl ?_
        refine x_iload_n (i := 3) rfl hC (zdk dk_X12_patterns 42 rfl) (q := 73) rfl ?_
        refine x_lshl hC (zdk dk_X12_patterns 43 rfl) (q := 74) rfl ?_
        refine x_callVv (as := [.long ((1 : Int64) <<< (x3.toInt64 &&& 63))]) cb_RX12_473 rfl (by decide) hk0 h_r0 (fun x hx => t_X12_counts h_r0 x hx) hC (zdk dk_X12_patterns 44 rfl) (q := 77) rfl rfl (Nat.le_of_ble_eq_true rfl) (fun M5 => ?_)
        refine x_weak (L' := [.ref r0, .int x1, .int x2, .int x3, .null, .null]) ⟨Or.inr rfl, Or.inr rfl, Or.inr rfl, Or.inr rfl, Or.inl rfl, Or.inl rfl, trivial⟩ ?_
        exact x_X12_patterns_77 hC hE hk0 h_r0 (f_X12_patterns_57 r0 x1 x2 f) ih _ _
set_option maxRecDepth 100000 in
def f_X12_patterns_37  (r0 : Nat) (x1 : Int32) (x2 : Int32) : Nat → Int32 → Mem → Option (Int32 × Mem)
  | 0, _, _ => none
  | f + 1, x3, M => (if 3 ≤ x3 then f_X12_patterns_57 r0 x1 x2 1000000 0 M else Option.bind (zrf M r0 54) fun q6 => Option.bind (zld q6 x3) fun k7 => Option.bind (some (zsI M q6 k7 0)) fun M8 => (f_X12_patterns_37 r0 x1 x2 f) (x3 + 1) M8)
set_option maxRecDepth 100000 in
set_option maxHeartbeats 4000000 in
theorem x_X12_patterns_37 {κ : KX} {n : Nat} (hC : CX κ cX12_patterns RX12 6 (some .int) 5) (hE : zEnd κ n (0, 0)) (hk0 : zRk κ (0, 0)) {r0 : Nat} {x1 : Int32} {x2 : Int32} (h_r0 : zO n r0 12) : ∀ (f : Nat) (x3 : Int32) (M : Mem), X κ 6 emI n (0, 0) 37 [.ref r0, .int x1, .int x2, .int x3, .null, .null] [] M (f_X12_patterns_37 r0 x1 x2 f x3 M) := by
  intro f
  induction f with
  | zero => intros; exact x_none
  | succ f ih =>
    intro x3 M 
    rw [f_X12_patterns_37]
    refine x_iload_n (i := 3) rfl hC (zdk dk_X12_patterns 21 rfl) (q := 38) rfl ?_
    refine x_iconst (i := 3) c_iconst_3 hC (zdk dk_X12_patterns 22 rfl) (q := 39) rfl ?_
    refine x_icmp_ge (tgt := 55) hC (zdk dk_X12_patterns 23 rfl) (q := 42) rfl rfl (fun _ => ?_) (fun _ => ?_)
    · refine x_iconst (i := 0) c_iconst_0 hC (zdk dk_X12_patterns 31 rfl) (q := 56) rfl ?_
      refine x_istore_n (i := 3) (L' := [.ref r0, .int x1, .int x2, .int 0, .null, .null]) (by decide) rfl hC (zdk dk_X12_patterns 32 rfl) (q := 57) rfl ?_
      refine x_weak (L' := [.ref r0, .int x1, .int x2, .int 0, .null, .null]) ⟨Or.inr rfl, Or.inr rfl, Or.inr rfl, Or.inr rfl, Or.inl rfl, Or.inl rfl, trivial⟩ ?_
      exact x_X12_patterns_57 hC hE hk0 h_r0 _ _ _
    · refine x_aload_n (i := 0) rfl hC (zdk dk_X12_patterns 24 rfl) (q := 43) rfl ?_
      refine x_getR (k := 20) fl_RX12_177 rfl h_r0 hC (zdk dk_X12_patterns 25 rfl) (q := 46) rfl (fun q6 hq6 => ?_)
      refine x_iload_n (i := 3) rfl hC (zdk dk_X12_patterns 26 rfl) (q := 47) rfl ?_
      refine x_iconst (i := 0) c_iconst_0 hC (zdk dk_X12_patterns 27 rfl) (q := 48) rfl ?_
      refine x_iast hq6 hC (zdk dk_X12_patterns 28 rfl) (q := 49) rfl (fun k7 _ => ?_)
      refine x_nmM (fun M8 => ?_)
      refine x_iinc (i := 3) c_iconst_1 rfl (by decide) (L' := [.ref r0, .int x1, .int x2, .int (x3 + 1), .null, .null]) rfl hC (zdk dk_X12_patterns 29 rfl) (q := 52) rfl ?_
      refine x_goto (tgt := 37) hC (zdk dk_X12_patterns 30 rfl) rfl ?_
      refine x_weak (L' := [.ref r0, .int x1, .int x2, .int (x3 + 1), .null, .null]) ⟨Or.inr rfl, Or.inr rfl, Or.inr rfl, Or.inr rfl, Or.inl rfl, Or.inl rfl, trivial⟩ ?_
      exact ih _ _
set_option maxRecDepth 100000 in
def f_X12_patterns (r0 : Nat) (x1 : Int32) (x2 : Int32) (M : Mem) : Option (Int32 × Mem) := (if zI M r0 35 = 0 then f_X12_patterns_33 r0 x1 x2 M else Option.bind (f_X12_is x1 1 3 M) fun z9 => (if z9.1 = 0 then f_X12_patterns_33 r0 x1 x2 z9.2 else (if zI z9.2 r0 39 < x1 then f_X12_patterns_33 r0 x1 x2 z9.2 else Option.bind (f_X12_is x2 0 2 z9.2) fun z10 => (if z10.1 = 0 then f_X12_patterns_33 r0 x1 x2 z10.2 else f_X12_patterns_37 r0 x1 x2 1000000 0 z10.2))))
set_option maxRecDepth 100000 in
set_option maxHeartbeats 4000000 in
theorem x_X12_patterns {κ : KX} {n : Nat} (hC : CX κ cX12_patterns RX12 6 (some .int) 5) (hE : zEnd κ n (0, 0)) (hk0 : zRk κ (0, 0)) (r0 : Nat) (x1 : Int32) (x2 : Int32) (M : Mem) (h_r0 : zO n r0 12) : X κ 6 emI n (0, 0) 0 [.ref r0, .int x1, .int x2, .null, .null, .null] [] M (f_X12_patterns r0 x1 x2 M) := by
  unfold f_X12_patterns
  refine x_aload_n (i := 0) rfl hC (zdk dk_X12_patterns 0 rfl) (q := 1) rfl ?_
  refine x_getI fl_RX12_120 (by decide) h_r0 hC (zdk dk_X12_patterns 1 rfl) (q := 4) rfl ?_
  refine x_if_eq (tgt := 33) hC (zdk dk_X12_patterns 2 rfl) (q := 7) rfl rfl (fun _ => ?_) (fun _ => ?_)
  · refine x_weak (L' := [.null, .null, .null, .null, .null, .null]) ⟨Or.inl rfl, Or.inl rfl, Or.inl rfl, Or.inl rfl, Or.inl rfl, Or.inl rfl, trivial⟩ ?_
    exact x_X12_patterns_33 hC hE hk0 h_r0 _
  · refine x_iload_n (i := 1) rfl hC (zdk dk_X12_patterns 3 rfl) (q := 8) rfl ?_
    refine x_iconst (i := 1) c_iconst_1 hC (zdk dk_X12_patterns 4 rfl) (q := 9) rfl ?_
    refine x_iconst (i := 3) c_iconst_3 hC (zdk dk_X12_patterns 5 rfl) (q := 10) rfl ?_
    refine x_callSi (as := [.int x1, .int 1, .int 3]) cb_RX12_325 rfl (by decide) hk0 (fun x hx => t_X12_is  x hx) hC (zdk dk_X12_patterns 6 rfl) (q := 13) rfl rfl (Nat.le_of_ble_eq_true rfl) (fun z9 => ?_)
    refine x_if_eq (tgt := 33) hC (zdk dk_X12_patterns 7 rfl) (q := 16) rfl rfl (fun _ => ?_) (fun _ => ?_)
    · refine x_weak (L' := [.null, .null, .null, .null, .null, .null]) ⟨Or.inl rfl, Or.inl rfl, Or.inl rfl, Or.inl rfl, Or.inl rfl, Or.inl rfl, trivial⟩ ?_
      exact x_X12_patterns_33 hC hE hk0 h_r0 _
    · refine x_iload_n (i := 1) rfl hC (zdk dk_X12_patterns 8 rfl) (q := 17) rfl ?_
      refine x_aload_n (i := 0) rfl hC (zdk dk_X12_patterns 9 rfl) (q := 18) rfl ?_
      refine x_getI fl_RX12_132 (by decide) h_r0 hC (zdk dk_X12_patterns 10 rfl) (q := 21) rfl ?_
      refine x_icmp_gt (tgt := 33) hC (zdk dk_X12_patterns 11 rfl) (q := 24) rfl rfl (fun _ => ?_) (fun _ => ?_)
      · refine x_weak (L' := [.null, .null, .null, .null, .null, .null]) ⟨Or.inl rfl, Or.inl rfl, Or.inl rfl, Or.inl rfl, Or.inl rfl, Or.inl rfl, trivial⟩ ?_
        exact x_X12_patterns_33 hC hE hk0 h_r0 _
      · refine x_iload_n (i := 2) rfl hC (zdk dk_X12_patterns 12 rfl) (q := 25) rfl ?_
        refine x_iconst (i := 0) c_iconst_0 hC (zdk dk_X12_patterns 13 rfl) (q := 26) rfl ?_
        refine x_iconst (i := 2) c_iconst_2 hC (zdk dk_X12_patterns 14 rfl) (q := 27) rfl ?_
        refine x_callSi (as := [.int x2, .int 0, .int 2]) cb_RX12_325 rfl (by decide) hk0 (fun x hx => t_X12_is  x hx) hC (zdk dk_X12_patterns 15 rfl) (q := 30) rfl rfl (Nat.le_of_ble_eq_true rfl) (fun z10 => ?_)
        refine x_if_ne (tgt := 35) hC (zdk dk_X12_patterns 16 rfl) (q := 33) rfl rfl (fun _ => ?_) (fun _ => ?_)
        · refine x_iconst (i := 0) c_iconst_0 hC (zdk dk_X12_patterns 19 rfl) (q := 36) rfl ?_
          refine x_istore_n (i := 3) (L' := [.ref r0, .int x1, .int x2, .int 0, .null, .null]) (by decide) rfl hC (zdk dk_X12_patterns 20 rfl) (q := 37) rfl ?_
          refine x_weak (L' := [.ref r0, .int x1, .int x2, .int 0, .null, .null]) ⟨Or.inr rfl, Or.inr rfl, Or.inr rfl, Or.inr rfl, Or.inl rfl, Or.inl rfl, trivial⟩ ?_
          exact x_X12_patterns_37 hC hE hk0 h_r0 _ _ _
        · refine x_weak (L' := [.null, .null, .null, .null, .null, .null]) ⟨Or.inl rfl, Or.inl rfl, Or.inl rfl, Or.inl rfl, Or.inl rfl, Or.inl rfl, trivial⟩ ?_
          exact x_X12_patterns_33 hC hE hk0 h_r0 _
set_option maxRecDepth 100000 in
set_option maxHeartbeats 4000000 in
theorem t_X12_patterns {n : Nat} {r0 : Nat} {x1 : Int32} {x2 : Int32} {M : Mem} (h_r0 : zO n r0 12) (x : (Int32 × Mem)) (hx : f_X12_patterns r0 x1 x2 M = some x) (l : Launch) (dC : Nat → ClassId) (dI : Nat → Nat → Nat) (b : zSg) : MT l dC dI b yX12_patterns cX12_patterns 6 (some .int) 5 0 0 n n [.ref r0, .int x1, .int x2] M (emI x).1 (emI x).2 :=
  MT.ofX (by decide +kernel) rfl (Nat.le_of_ble_eq_true rfl) (fun κ hC hF _ => x_X12_patterns hC (zEnd_of hF (Nat.le_refl _) (Nat.le_refl _)) (zRk_of hF (Nat.le_refl _) (Nat.le_refl _)) _ _ _ _ h_r0) x hx
