set_option maxRecDepth 100000 in
def dt_X1_countMendable : List (Nat × Instr × Nat) := [(0, .iconst 0, 1), (1, .istore_n 2, 1), (2, .iconst 0, 1), (3, .istore_n 3, 1), (4, .iload_n 3, 1), (5, .aload_n 0, 1), (6, .getfield 57, 3), (9, .if_icmp .ge 115, 3), (12, .iconst 0, 1), (13, .istore 4, 2), (15, .iload 4, 2), (17, .iload_n 3, 1), (18, .if_icmp .ge 100, 3), (21, .aload_n 0, 1), (22, .getfield 9, 3), (25, .iload_n 3, 1), (26, .iaload, 1), (27, .aload_n 0, 1), (28, .getfield 9, 3), (31, .iload 4, 2), (33, .iaload, 1), (34, .ixor, 1), (35, .istore 5, 2), (37, .aload_n 0, 1), (38, .iload_n 3, 1), (39, .invokevirtual 99, 3), (42, .aload_n 0, 1), (43, .iload 4, 2), (45, .invokevirtual 99, 3), (48, .ixor, 1), (49, .istore 6, 2), (51, .iload_n 1, 1), (52, .iconst 2, 1), (53, .if_icmp .ne 17, 3), (56, .iload_n 2, 1), (57, .aload_n 0, 1), (58, .iload 5, 2), (60, .iload 6, 2), (62, .invokevirtual 102, 3), (65, .iadd, 1), (66, .istore_n 2, 1), (67, .goto 45, 3), (70, .iconst 0, 1), (71, .istore 7, 2), (73, .iload 7, 2), (75, .iload 4, 2), (77, .if_icmp .ge 35, 3), (80, .iload_n 2, 1), (81, .aload_n 0, 1), (82, .iload 5, 2), (84, .aload_n 0, 1), (85, .getfield 9, 3), (88, .iload 7, 2), (90, .iaload, 1), (91, .ixor, 1), (92, .iload 6, 2), (94, .aload_n 0, 1), (95, .iload 7, 2), (97, .invokevirtual 99, 3), (100, .ixor, 1), (101, .invokevirtual 102, 3), (104, .iadd, 1), (105, .istore_n 2, 1), (106, .iinc 7 1, 3), (109, .goto (-36), 3), (112, .iinc 4 1, 3), (115, .goto (-100), 3), (118, .iinc 3 1, 3), (121, .goto (-117), 3), (124, .iload_n 2, 1), (125, .ireturn, 1)]
set_option maxRecDepth 100000 in
theorem dk_X1_countMendable : dt_X1_countMendable.all (fun q => decide (decode cX1_countMendable q.1 = .ok q.2)) = true := by decide +kernel
set_option maxRecDepth 100000 in
def f_X1_countMendable_112 (k4 : Int32 → Int32 → Mem → Option (Int32 × Mem)) (k15 : Int32 → Int32 → Int32 → Mem → Option (Int32 × Mem)) (r0 : Nat) (x1 : Int32) (x2 : Int32) (x3 : Int32) (x4 : Int32) (M : Mem) : Option (Int32 × Mem) := k15 x2 x3 (x4 + 1) M
set_option maxRecDepth 100000 in
set_option maxHeartbeats 4000000 in
theorem x_X1_countMendable_112 {κ : KX} {n : Nat} (hC : CX κ cX1_countMendable RX1 8 (some .int) 1) (hE : zEnd κ n (0, 0)) (hk0 : zRk κ (0, 0)) {r0 : Nat} {x1 : Int32} (h_r0 : zO n r0 1) (k4 : Int32 → Int32 → Mem → Option (Int32 × Mem)) (hk4 : ∀ (x2 : Int32) (x3 : Int32) (M : Mem), X κ 8 emI n (0, 0) 4 [.ref r0, .int x1, .int x2, .int x3, .null, .null, .null, .null] [] M (k4 x2 x3 M)) (k15 : Int32 → Int32 → Int32 → Mem → Option (Int32 × Mem)) (hk15 : ∀ (x2 : Int32) (x3 : Int32) (x4 : Int32) (M : Mem), X κ 8 emI n (0, 0) 15 [.ref r0, .int x1, .int x2, .int x3, .int x4, .null, .null, .null] [] M (k15 x2 x3 x4 M)) (x2 : Int32) (x3 : Int32) (x4 : Int32) (M : Mem) : X κ 8 emI n (0, 0) 112 [.ref r0, .int x1, .int x2, .int x3, .int x4, .null, .null, .null] [] M (f_X1_countMendable_112 k4 k15 r0 x1 x2 x3 x4 M) := by
  unfold f_X1_countMendable_112
  refine x_iinc (i := 4) c_iconst_1 rfl (by decide) (L' := [.ref r0, .int x1, .int x2, .int x3, .int (x4 + 1), .null, .null, .null]) rfl hC (zdk dk_X1_countMendable 65 rfl) (q := 115) rfl ?_
  refine x_goto (tgt := 15) hC (zdk dk_X1_countMendable 66 rfl) rfl ?_
  refine x_weak (L' := [.ref r0, .int x1, .int x2, .int x3, .int (x4 + 1), .null, .null, .null]) ⟨Or.inr rfl, Or.inr rfl, Or.inr rfl, Or.inr rfl, Or.inr rfl, Or.inl rfl, Or.inl rfl, Or.inl rfl, trivial⟩ ?_
  exact hk15 _ _ _ _
set_option maxRecDepth 100000 in
def f_X1_countMendable_73 (k4 : Int32 → Int32 → Mem → Option (Int32 × Mem)) (k15 : Int32 → Int32 → Int32 → Mem → Option (Int32 × Mem)) (r0 : Nat) (x1 : Int32) : Nat → Int32 → Int32 → Int32 → Int32 → Int32 → Int32 → Mem → Option (Int32 × Mem)
  | 0, _, _, _, _, _, _, _ => none
  | f + 1, x2, x3, x4, x5, x6, x7, M => (if x4 ≤ x7 then f_X1_countMendable_112 k4 k15 r0 x1 x2 x3 x4 M else Option.bind (zrf M r0 0) fun q1 => Option.bind (zld q1 x7) fun k2 => Option.bind (f_X1_thirdOf r0 x7 M) fun z3 => Option.bind (f_X1_marked r0 (x5 ^^^ (zI M q1 k2)) (x6 ^^^ z3.1) z3.2) fun z4 => (f_X1_countMendable_73 k4 k15 r0 x1 f) (x2 + z4.1) x3 x4 x5 x6 (x7 + 1) z4.2)
set_option maxRecDepth 100000 in
set_option maxHeartbeats 4000000 in
theorem x_X1_countMendable_73 {κ : KX} {n : Nat} (hC : CX κ cX1_countMendable RX1 8 (some .int) 1) (hE : zEnd κ n (0, 0)) (hk0 : zRk κ (0, 0)) {r0 : Nat} {x1 : Int32} (h_r0 : zO n r0 1) (k4 : Int32 → Int32 → Mem → Option (Int32 × Mem)) (hk4 : ∀ (x2 : Int32) (x3 : Int32) (M : Mem), X κ 8 emI n (0, 0) 4 [.ref r0, .int x1, .int x2, .int x3, .null, .null, .null, .null] [] M (k4 x2 x3 M)) (k15 : Int32 → Int32 → Int32 → Mem → Option (Int32 × Mem)) (hk15 : ∀ (x2 : Int32) (x3 : Int32) (x4 : Int32) (M : Mem), X κ 8 emI n (0, 0) 15 [.ref r0, .int x1, .int x2, .int x3, .int x4, .null, .null, .null] [] M (k15 x2 x3 x4 M)) : ∀ (f : Nat) (x2 : Int32) (x3 : Int32) (x4 : Int32) (x5 : Int32) (x6 : Int32) (x7 : Int32) (M : Mem), X κ 8 emI n (0, 0) 73 [.ref r0, .int x1, .int x2, .int x3, .int x4, .int x5, .int x6, .int x7] [] M (f_X1_countMendable_73 k4 k15 r0 x1 f x2 x3 x4 x5 x6 x7 M) := by
  intro f
  induction f with
  | zero => intros; exact x_none
  | succ f ih =>
    intro x2 x3 x4 x5 x6 x7 M 
    rw [f_X1_countMendable_73]
    refine x_iload (i := 7) rfl hC (zdk dk_X1_countMendable 44 rfl) (q := 75) rfl ?_
    refine x_iload (i := 4) rfl hC (zdk dk_X1_countMendable 45 rfl) (q := 77) rfl ?_
    refine x_icmp_ge (tgt := 112) hC (zdk dk_X1_countMendable 46 rfl) (q := 80) rfl rfl (fun _ => ?_) (fun _ => ?_)
    · refine x_weak (L' := [.ref r0, .int x1, .int x2, .int x3, .int x4, .null, .null, .null]) ⟨Or.inr rfl, Or.inr rfl, Or.inr rfl, Or.inr rfl, Or.inr rfl, Or.inl rfl, Or.inl rfl, Or.inl rfl, trivial⟩ ?_
      exact x_X1_countMendable_112 hC hE hk0 h_r0 k4 hk4 k15 hk15 _ _ _ _
    · refine x_iload_n (i := 2) rfl hC (zdk dk_X1_countMendable 47 rfl) (q := 81) rfl ?_
      refine x_aload_n (i := 0) rfl hC (zdk dk_X1_countMendable 48 rfl) (q := 82) rfl ?_
      refine x_iload (i := 5) rfl hC (zdk dk_X1_countMendable 49 rfl) (q := 84) rfl ?_
      refine x_aload_n (i := 0) rfl hC (zdk dk_X1_countMendable 50 rfl) (q := 85) rfl ?_
      refine x_getR (k := 20) fl_RX1_9 rfl h_r0 hC (zdk dk_X1_countMendable 51 rfl) (q := 88) rfl (fun q1 hq1 => ?_)
      refine x_iload (i := 7) rfl hC (zdk dk_X1_countMendable 52 rfl) (q := 90) rfl ?_
      refine x_iald hq1 hC (zdk dk_X1_countMendable 53 rfl) (q := 91) rfl (fun k2 _ => ?_)
      refine x_ixor hC (zdk dk_X1_countMendable 54 rfl) (q := 92) rfl ?_
      refine x_iload (i := 6) rfl hC (zdk dk_X1_countMendable 55 rfl) (q := 94) rfl ?_
      refine x_aload_n (i := 0) rfl hC (zdk dk_X1_countMendable 56 rfl) (q := 95) rfl ?_
      refine x_iload (i := 7) rfl hC (zdk dk_X1_countMendable 57 rfl) (q := 97) rfl ?_
      refine x_callVi (as := [.int x7]) cb_RX1_99 rfl (by decide) hk0 h_r0 (fun x hx => t_X1_thirdOf h_r0 x hx) hC (zdk dk_X1_countMendable 58 rfl) (q := 100) rfl rfl (Nat.le_of_ble_eq_true rfl) (fun z3 => ?_)
      refine x_ixor hC (zdk dk_X1_countMendable 59 rfl) (q := 101) rfl ?_
      refine x_callVi (as := [.int (x5 ^^^ (zI M q1 k2)), .int (x6 ^^^ z3.1)]) cb_RX1_102 rfl (by decide) hk0 h_r0 (fun x hx => t_X1_marked h_r0 x hx) hC (zdk dk_X1_countMendable 60 rfl) (q := 104) rfl rfl (Nat.le_of_ble_eq_true rfl) (fun z4 => ?_)
      refine x_iadd hC (zdk dk_X1_countMendable 61 rfl) (q := 105) rfl ?_
      refine x_istore_n (i := 2) (L' := [.ref r0, .int x1, .int (x2 + z4.1), .int x3, .int x4, .int x5, .int x6, .int x7]) (by decide) rfl hC (zdk dk_X1_countMendable 62 rfl) (q := 106) rfl ?_
      refine x_iinc (i := 7) c_iconst_1 rfl (by decide) (L' := [.ref r0, .int x1, .int (x2 + z4.1), .int x3, .int x4, .int x5, .int x6, .int (x7 + 1)]) rfl hC (zdk dk_X1_countMendable 63 rfl) (q := 109) rfl ?_
      refine x_goto (tgt := 73) hC (zdk dk_X1_countMendable 64 rfl) rfl ?_
      refine x_weak (L' := [.ref r0, .int x1, .int (x2 + z4.1), .int x3, .int x4, .int x5, .int x6, .int (x7 + 1)]) ⟨Or.inr rfl, Or.inr rfl, Or.inr rfl, Or.inr rfl, Or.inr rfl, Or.inr rfl, Or.inr rfl, Or.inr rfl, trivial⟩ ?_
      exact ih _ _ _ _ _ _ _
set_option maxRecDepth 100000 in
def f_X1_countMendable_15 (k4 : Int32 → Int32 → Mem → Option (Int32 × Mem)) (r0 : Nat) (x1 : Int32) : Nat → Int32 → Int32 → Int32 → Mem → Option (Int32 × Mem)
  | 0, _, _, _, _ => none
  | f + 1, x2, x3, x4, M => (if x3 ≤ x4 then k4 x2 (x3 + 1) M else Option.bind (zrf M r0 0) fun q5 => Option.bind (zld q5 x3) fun k6 => Option.bind (zrf M r0 0) fun q7 => Option.bind (zld q7 x4) fun k8 => Option.bind (f_X1_thirdOf r0 x3 M) fun z9 => Option.bind (f_X1_thirdOf r0 x4 z9.2) fun z10 => (if x1 = 2 then Option.bind (f_X1_marked r0 ((zI M q5 k6) ^^^ (zI M q7 k8)) (z9.1 ^^^ z10.1) z10.2) fun z11 => f_X1_countMendable_112 k4 (f_X1_countMendable_15 k4 r0 x1 f) r0 x1 (x2 + z11.1) x3 x4 z11.2 else f_X1_countMendable_73 k4 (f_X1_countMendable_15 k4 r0 x1 f) r0 x1 1000000 x2 x3 x4 ((zI M q5 k6) ^^^ (zI M q7 k8)) (z9.1 ^^^ z10.1) 0 z10.2))
set_option maxRecDepth 100000 in
set_option maxHeartbeats 4000000 in
theorem x_X1_countMendable_15 {κ : KX} {n : Nat} (hC : CX κ cX1_countMendable RX1 8 (some .int) 1) (hE : zEnd κ n (0, 0)) (hk0 : zRk κ (0, 0)) {r0 : Nat} {x1 : Int32} (h_r0 : zO n r0 1) (k4 : Int32 → Int32 → Mem → Option (Int32 × Mem)) (hk4 : ∀ (x2 : Int32) (x3 : Int32) (M : Mem), X κ 8 emI n (0, 0) 4 [.ref r0, .int x1, .int x2, .int x3, .null, .null, .null, .null] [] M (k4 x2 x3 M)) : ∀ (f : Nat) (x2 : Int32) (x3 : Int32) (x4 : Int32) (M : Mem), X κ 8 emI n (0, 0) 15 [.ref r0, .int x1, .int x2, .int x3, .int x4, .null, .null, .null] [] M (f_X1_countMendable_15 k4 r0 x1 f x2 x3 x4 M) := by
  intro f
  induction f with
  | zero => intros; exact x_none
  | succ f ih =>
    intro x2 x3 x4 M 
    rw [f_X1_countMendable_15]
    refine x_iload (i := 4) rfl hC (zdk dk_X1_countMendable 10 rfl) (q := 17) rfl ?_
    refine x_iload_n (i := 3) rfl hC (zdk dk_X1_countMendable 11 rfl) (q := 18) rfl ?_
    refine x_icmp_ge (tgt := 118) hC (zdk dk_X1_countMendable 12 rfl) (q := 21) rfl rfl (fun _ => ?_) (fun _ => ?_)
    · refine x_iinc (i := 3) c_iconst_1 rfl (by decide) (L' := [.ref r0, .int x1, .int x2, .int (x3 + 1), .int x4, .null, .null, .null]) rfl hC (zdk dk_X1_countMendable 67 rfl) (q := 121) rfl ?_
      refine x_goto (tgt := 4) hC (zdk dk_X1_countMendable 68 rfl) rfl ?_
      refine x_weak (L' := [.ref r0, .int x1, .int x2, .int (x3 + 1), .null, .null, .null, .null]) ⟨Or.inr rfl, Or.inr rfl, Or.inr rfl, Or.inr rfl, Or.inl rfl, Or.inl rfl, Or.inl rfl, Or.inl rfl, trivial⟩ ?_
      exact hk4 _ _ _
    · refine x_aload_n (i := 0) rfl hC (zdk dk_X1_countMendable 13 rfl) (q := 22) rfl ?_
      refine x_getR (k := 20) fl_RX1_9 rfl h_r0 hC (zdk dk_X1_countMendable 14 rfl) (q := 25) rfl (fun q5 hq5 => ?_)
      refine x_iload_n (i := 3) rfl hC (zdk dk_X1_countMendable 15 rfl) (q := 26) rfl ?_
      refine x_iald hq5 hC (zdk dk_X1_countMendable 16 rfl) (q := 27) rfl (fun k6 _ => ?_)
      refine x_aload_n (i := 0) rfl hC (zdk dk_X1_countMendable 17 rfl) (q := 28) rfl ?_
      refine x_getR (k := 20) fl_RX1_9 rfl h_r0 hC (zdk dk_X1_countMendable 18 rfl) (q := 31) rfl (fun q7 hq7 => ?_)
      refine x_iload (i := 4) rfl hC (zdk dk_X1_countMendable 19 rfl) (q := 33) rfl ?_
      refine x_iald hq7 hC (zdk dk_X1_countMendable 20 rfl) (q := 34) rfl (fun k8 _ => ?_)
      refine x_ixor hC (zdk dk_X1_countMendable 21 rfl) (q := 35) rfl ?_
      refine x_istore (i := 5) (L' := [.ref r0, .int x1, .int x2, .int x3, .int x4, .int ((zI M q5 k6) ^^^ (zI M q7 k8)), .null, .null]) (by decide) rfl hC (zdk dk_X1_countMendable 22 rfl) (q := 37) rfl ?_
      refine x_aload_n (i := 0) rfl hC (zdk dk_X1_countMendable 23 rfl) (q := 38) rfl ?_
      refine x_iload_n (i := 3) rfl hC (zdk dk_X1_countMendable 24 rfl) (q := 39) rfl ?_
      refine x_callVi (as := [.int x3]) cb_RX1_99 rfl (by decide) hk0 h_r0 (fun x hx => t_X1_thirdOf h_r0 x hx) hC (zdk dk_X1_countMendable 25 rfl) (q := 42) rfl rfl (Nat.le_of_ble_eq_true rfl) (fun z9 => ?_)
      refine x_aload_n (i := 0) rfl hC (zdk dk_X1_countMendable 26 rfl) (q := 43) rfl ?_
      refine x_iload (i := 4) rfl hC (zdk dk_X1_countMendable 27 rfl) (q := 45) rfl ?_
      refine x_callVi (as := [.int x4]) cb_RX1_99 rfl (by decide) hk0 h_r0 (fun x hx => t_X1_thirdOf h_r0 x hx) hC (zdk dk_X1_countMendable 28 rfl) (q := 48) rfl rfl (Nat.le_of_ble_eq_true rfl) (fun z10 => ?_)
      refine x_ixor hC (zdk dk_X1_countMendable 29 rfl) (q := 49) rfl ?_
      refine x_istore (i := 6) (L' := [.ref r0, .int x1, .int x2, .int x3, .int x4, .int ((zI M q5 k6) ^^^ (zI M q7 k8)), .int (z9.1 ^^^ z10.1), .null]) (by decide) rfl hC (zdk dk_X1_countMendable 30 rfl) (q := 51) rfl ?_
      refine x_iload_n (i := 1) rfl hC (zdk dk_X1_countMendable 31 rfl) (q := 52) rfl ?_
      refine x_iconst (i := 2) c_iconst_2 hC (zdk dk_X1_countMendable 32 rfl) (q := 53) rfl ?_
      refine x_icmp_ne (tgt := 70) hC (zdk dk_X1_countMendable 33 rfl) (q := 56) rfl rfl (fun _ => ?_) (fun _ => ?_)
      · refine x_iconst (i := 0) c_iconst_0 hC (zdk dk_X1_countMendable 42 rfl) (q := 71) rfl ?_
        refine x_istore (i := 7) (L' := [.ref r0, .int x1, .int x2, .int x3, .int x4, .int ((zI M q5 k6) ^^^ (zI M q7 k8)), .int (z9.1 ^^^ z10.1), .int 0]) (by decide) rfl hC (zdk dk_X1_countMendable 43 rfl) (q := 73) rfl ?_
        refine x_weak (L' := [.ref r0, .int x1, .int x2, .int x3, .int x4, .int ((zI M q5 k6) ^^^ (zI M q7 k8)), .int (z9.1 ^^^ z10.1), .int 0]) ⟨Or.inr rfl, Or.inr rfl, Or.inr rfl, Or.inr rfl, Or.inr rfl, Or.inr rfl, Or.inr rfl, Or.inr rfl, trivial⟩ ?_
        exact x_X1_countMendable_73 hC hE hk0 h_r0 k4 hk4 (f_X1_countMendable_15 k4 r0 x1 f) ih _ _ _ _ _ _ _ _
      · refine x_iload_n (i := 2) rfl hC (zdk dk_X1_countMendable 34 rfl) (q := 57) rfl ?_
        refine x_aload_n (i := 0) rfl hC (zdk dk_X1_countMendable 35 rfl) (q := 58) rfl ?_
        refine x_iload (i := 5) rfl hC (zdk dk_X1_countMendable 36 rfl) (q := 60) rfl ?_
        refine x_iload (i := 6) rfl hC (zdk dk_X1_countMendable 37 rfl) (q := 62) rfl ?_
        refine x_callVi (as := [.int ((zI M q5 k6) ^^^ (zI M q7 k8)), .int (z9.1 ^^^ z10.1)]) cb_RX1_102 rfl (by decide) hk0 h_r0 (fun x hx => t_X1_marked h_r0 x hx) hC (zdk dk_X1_countMendable 38 rfl) (q := 65) rfl rfl (Nat.le_of_ble_eq_true rfl) (fun z11 => ?_)
        refine x_iadd hC (zdk dk_X1_countMendable 39 rfl) (q := 66) rfl ?_
        refine x_istore_n (i := 2) (L' := [.ref r0, .int x1, .int (x2 + z11.1), .int x3, .int x4, .int ((zI M q5 k6) ^^^ (zI M q7 k8)), .int (z9.1 ^^^ z10.1), .null]) (by decide) rfl hC (zdk dk_X1_countMendable 40 rfl) (q := 67) rfl ?_
        refine x_goto (tgt := 112) hC (zdk dk_X1_countMendable 41 rfl) rfl ?_
        refine x_weak (L' := [.ref r0, .int x1, .int (x2 + z11.1), .int x3, .int x4, .null, .null, .null]) ⟨Or.inr rfl, Or.inr rfl, Or.inr rfl, Or.inr rfl, Or.inr rfl, Or.inl rfl, Or.inl rfl, Or.inl rfl, trivial⟩ ?_
        exact x_X1_countMendable_112 hC hE hk0 h_r0 k4 hk4 (f_X1_countMendable_15 k4 r0 x1 f) ih _ _ _ _
set_option maxRecDepth 100000 in
def f_X1_countMendable_4  (r0 : Nat) (x1 : Int32) : Nat → Int32 → Int32 → Mem → Option (Int32 × Mem)
  | 0, _, _, _ => none
  | f + 1, x2, x3, M => (if zI M r0 10 ≤ x3 then some (x2, M) else f_X1_countMendable_15 (f_X1_countMendable_4 r0 x1 f) r0 x1 1000000 x2 x3 0 M)
set_option maxRecDepth 100000 in
set_option maxHeartbeats 4000000 in
theorem x_X1_countMendable_4 {κ : KX} {n : Nat} (hC : CX κ cX1_countMendable RX1 8 (some .int) 1) (hE : zEnd κ n (0, 0)) (hk0 : zRk κ (0, 0)) {r0 : Nat} {x1 : Int32} (h_r0 : zO n r0 1) : ∀ (f : Nat) (x2 : Int32) (x3 : Int32) (M : Mem), X κ 8 emI n (0, 0) 4 [.ref r0, .int x1, .int x2, .int x3, .null, .null, .null, .null] [] M (f_X1_countMendable_4 r0 x1 f x2 x3 M) := by
  intro f
  induction f with
  | zero => intros; exact x_none
  | succ f ih =>
    intro x2 x3 M 
    rw [f_X1_countMendable_4]
    refine x_iload_n (i := 3) rfl hC (zdk dk_X1_countMendable 4 rfl) (q := 5) rfl ?_
    refine x_aload_n (i := 0) rfl hC (zdk dk_X1_countMendable 5 rfl) (q := 6) rfl ?_
    refine x_getI fl_RX1_57 (by decide) h_r0 hC (zdk dk_X1_countMendable 6 rfl) (q := 9) rfl ?_
    refine x_icmp_ge (tgt := 124) hC (zdk dk_X1_countMendable 7 rfl) (q := 12) rfl rfl (fun _ => ?_) (fun _ => ?_)
    · refine x_iload_n (i := 2) rfl hC (zdk dk_X1_countMendable 69 rfl) (q := 125) rfl ?_
      exact x_iret (ty := .int) rfl hE hC (zdk dk_X1_countMendable 70 rfl)
    · refine x_iconst (i := 0) c_iconst_0 hC (zdk dk_X1_countMendable 8 rfl) (q := 13) rfl ?_
      refine x_istore (i := 4) (L' := [.ref r0, .int x1, .int x2, .int x3, .int 0, .null, .null, .null]) (by decide) rfl hC (zdk dk_X1_countMendable 9 rfl) (q := 15) rfl ?_
      refine x_weak (L' := [.ref r0, .int x1, .int x2, .int x3, .int 0, .null, .null, .null]) ⟨Or.inr rfl, Or.inr rfl, Or.inr rfl, Or.inr rfl, Or.inr rfl, Or.inl rfl, Or.inl rfl, Or.inl rfl, trivial⟩ ?_
      exact x_X1_countMendable_15 hC hE hk0 h_r0 (f_X1_countMendable_4 r0 x1 f) ih _ _ _ _ _
set_option maxRecDepth 100000 in
def f_X1_countMendable (r0 : Nat) (x1 : Int32) (M : Mem) : Option (Int32 × Mem) := f_X1_countMendable_4 r0 x1 1000000 0 0 M
set_option maxRecDepth 100000 in
set_option maxHeartbeats 4000000 in
theorem x_X1_countMendable {κ : KX} {n : Nat} (hC : CX κ cX1_countMendable RX1 8 (some .int) 1) (hE : zEnd κ n (0, 0)) (hk0 : zRk κ (0, 0)) (r0 : Nat) (x1 : Int32) (M : Mem) (h_r0 : zO n r0 1) : X κ 8 emI n (0, 0) 0 [.ref r0, .int x1, .null, .null, .null, .null, .null, .null] [] M (f_X1_countMendable r0 x1 M) := by
  unfold f_X1_countMendable
  refine x_iconst (i := 0) c_iconst_0 hC (zdk dk_X1_countMendable 0 rfl) (q := 1) rfl ?_
  refine x_istore_n (i := 2) (L' := [.ref r0, .int x1, .int 0, .null, .null, .null, .null, .null]) (by decide) rfl hC (zdk dk_X1_countMendable 1 rfl) (q := 2) rfl ?_
  refine x_iconst (i := 0) c_iconst_0 hC (zdk dk_X1_countMendable 2 rfl) (q := 3) rfl ?_
  refine x_istore_n (i := 3) (L' := [.ref r0, .int x1, .int 0, .int 0, .null, .null, .null, .null]) (by decide) rfl hC (zdk dk_X1_countMendable 3 rfl) (q := 4) rfl ?_
  refine x_weak (L' := [.ref r0, .int x1, .int 0, .int 0, .null, .null, .null, .null]) ⟨Or.inr rfl, Or.inr rfl, Or.inr rfl, Or.inr rfl, Or.inl rfl, Or.inl rfl, Or.inl rfl, Or.inl rfl, trivial⟩ ?_
  exact x_X1_countMendable_4 hC hE hk0 h_r0 _ _ _ _
set_option maxRecDepth 100000 in
set_option maxHeartbeats 4000000 in
theorem t_X1_countMendable {n : Nat} {r0 : Nat} {x1 : Int32} {M : Mem} (h_r0 : zO n r0 1) (x : (Int32 × Mem)) (hx : f_X1_countMendable r0 x1 M = some x) (l : Launch) (dC : Nat → ClassId) (dI : Nat → Nat → Nat) (b : zSg) : MT l dC dI b yX1_countMendable cX1_countMendable 8 (some .int) 1 0 0 n n [.ref r0, .int x1] M (emI x).1 (emI x).2 :=
  MT.ofX (by decide +kernel) rfl (Nat.le_of_ble_eq_true rfl) (fun κ hC hF _ => x_X1_countMendable hC (zEnd_of hF (Nat.le_refl _) (Nat.le_refl _)) (zRk_of hF (Nat.le_refl _) (Nat.le_refl _)) _ _ _ h_r0) x hx
set_option maxRecDepth 100000 in
def dt_J7_fill_d0a16 : List (Nat × Instr × Nat) := [(0, .iconst 0, 1), (1, .istore_n 3, 1), (2, .aload_n 0, 1), (3, .arraylength, 1), (4, .istore 4, 2), (6, .iload_n 3, 1), (7, .iload 4, 2), (9, .if_icmp .ge 13, 3), (12, .aload_n 0, 1), (13, .iload_n 3, 1), (14, .lload_n 1, 1), (15, .lastore, 1), (16, .iinc 3 1, 3), (19, .goto (-13), 3), (22, .return_, 1)]
set_option maxRecDepth 100000 in
theorem dk_J7_fill_d0a16 : dt_J7_fill_d0a16.all (fun q => decide (decode cJ7_fill_d0a16 q.1 = .ok q.2)) = true := by decide +kernel
set_option maxRecDepth 100000 in
def f_J7_fill_d0a16_6  (r0 : Nat) (y1 : Int64) : Nat → Int32 → Int32 → Mem → Option Mem
  | 0, _, _, _ => none
  | f + 1, x3, x4, M => (if x4 ≤ x3 then some M else Option.bind (zld r0 x3) fun k1 => Option.bind (some (zsL M r0 k1 y1)) fun M2 => (f_J7_fill_d0a16_6 r0 y1 f) (x3 + 1) x4 M2)
set_option maxRecDepth 100000 in
set_option maxHeartbeats 4000000 in
theorem x_J7_fill_d0a16_6 {κ : KX} {n : Nat} (hC : CX κ cJ7_fill_d0a16 RJ7 5 none 0) (hE : zEnd κ n (0, 0)) (hk0 : zRk κ (0, 0)) {r0 : Nat} {y1 : Int64} (h_r0 : zO n r0 21) : ∀ (f : Nat) (x3 : Int32) (x4 : Int32) (M : Mem), X κ 5 emV n (0, 0) 6 [.ref r0, .long y1, .null, .int x3, .int x4] [] M (f_J7_fill_d0a16_6 r0 y1 f x3 x4 M) := by
  intro f
  induction f with
  | zero => intros; exact x_none
  | succ f ih =>
    intro x3 x4 M 
    rw [f_J7_fill_d0a16_6]
    refine x_iload_n (i := 3) rfl hC (zdk dk_J7_fill_d0a16 5 rfl) (q := 7) rfl ?_
    refine x_iload (i := 4) rfl hC (zdk dk_J7_fill_d0a16 6 rfl) (q := 9) rfl ?_
    refine x_icmp_ge (tgt := 22) hC (zdk dk_J7_fill_d0a16 7 rfl) (q := 12) rfl rfl (fun _ => ?_) (fun _ => ?_)
    · exact x_vret hE hC (zdk dk_J7_fill_d0a16 14 rfl)
    · refine x_aload_n (i := 0) rfl hC (zdk dk_J7_fill_d0a16 8 rfl) (q := 13) rfl ?_
      refine x_iload_n (i := 3) rfl hC (zdk dk_J7_fill_d0a16 9 rfl) (q := 14) rfl ?_
      refine x_lload_n (i := 1) rfl hC (zdk dk_J7_fill_d0a16 10 rfl) (q := 15) rfl ?_
      refine x_last h_r0 hC (zdk dk_J7_fill_d0a16 11 rfl) (q := 16) rfl (fun k1 _ => ?_)
      refine x_nmM (fun M2 => ?_)
      refine x_iinc (i := 3) c_iconst_1 rfl (by decide) (L' := [.ref r0, .long y1, .null, .int (x3 + 1), .int x4]) rfl hC (zdk dk_J7_fill_d0a16 12 rfl) (q := 19) rfl ?_
      refine x_goto (tgt := 6) hC (zdk dk_J7_fill_d0a16 13 rfl) rfl ?_
      refine x_weak (L' := [.ref r0, .long y1, .null, .int (x3 + 1), .int x4]) ⟨Or.inr rfl, Or.inr rfl, Or.inl rfl, Or.inr rfl, Or.inr rfl, trivial⟩ ?_
      exact ih _ _ _
set_option maxRecDepth 100000 in
def f_J7_fill_d0a16 (r0 : Nat) (y1 : Int64) (M : Mem) : Option Mem := f_J7_fill_d0a16_6 r0 y1 1000000 0 (zlen r0) M
set_option maxRecDepth 100000 in
set_option maxHeartbeats 4000000 in
theorem x_J7_fill_d0a16 {κ : KX} {n : Nat} (hC : CX κ cJ7_fill_d0a16 RJ7 5 none 0) (hE : zEnd κ n (0, 0)) (hk0 : zRk κ (0, 0)) (r0 : Nat) (y1 : Int64) (M : Mem) (h_r0 : zO n r0 21) : X κ 5 emV n (0, 0) 0 [.ref r0, .long y1, .null, .null, .null] [] M (f_J7_fill_d0a16 r0 y1 M) := by
  unfold f_J7_fill_d0a16
  refine x_iconst (i := 0) c_iconst_0 hC (zdk dk_J7_fill_d0a16 0 rfl) (q := 1) rfl ?_
  refine x_istore_n (i := 3) (L' := [.ref r0, .long y1, .null, .int 0, .null]) (by decide) rfl hC (zdk dk_J7_fill_d0a16 1 rfl) (q := 2) rfl ?_
  refine x_aload_n (i := 0) rfl hC (zdk dk_J7_fill_d0a16 2 rfl) (q := 3) rfl ?_
  refine x_alen h_r0 (by decide) hC (zdk dk_J7_fill_d0a16 3 rfl) (q := 4) rfl ?_
  refine x_istore (i := 4) (L' := [.ref r0, .long y1, .null, .int 0, .int (zlen r0)]) (by decide) rfl hC (zdk dk_J7_fill_d0a16 4 rfl) (q := 6) rfl ?_
  refine x_weak (L' := [.ref r0, .long y1, .null, .int 0, .int (zlen r0)]) ⟨Or.inr rfl, Or.inr rfl, Or.inl rfl, Or.inr rfl, Or.inr rfl, trivial⟩ ?_
  exact x_J7_fill_d0a16_6 hC hE hk0 h_r0 _ _ _ _
set_option maxRecDepth 100000 in
set_option maxHeartbeats 4000000 in
theorem t_J7_fill_d0a16 {n : Nat} {r0 : Nat} {y1 : Int64} {M : Mem} (h_r0 : zO n r0 21) (x : Mem) (hx : f_J7_fill_d0a16 r0 y1 M = some x) (l : Launch) (dC : Nat → ClassId) (dI : Nat → Nat → Nat) (b : zSg) : MT l dC dI b yJ7_fill_d0a16 cJ7_fill_d0a16 5 none 0 0 0 n n [.ref r0, .long y1] M (emV x).1 (emV x).2 :=
  MT.ofX (by decide +kernel) rfl (Nat.le_of_ble_eq_true rfl) (fun κ hC hF _ => x_J7_fill_d0a16 hC (zEnd_of hF (Nat.le_refl _) (Nat.le_refl _)) (zRk_of hF (Nat.le_refl _) (Nat.le_refl _)) _ _ _ h_r0) x hx
set_option maxRecDepth 100000 in
def dt_X1_mark : List (Nat × Instr × Nat) := [(0, .aload_n 0, 1), (1, .getfield 21, 3), (4, .iload_n 1, 1), (5, .dup2, 1), (6, .laload, 1), (7, .lconst 1, 1), (8, .iload_n 2, 1), (9, .lshl, 1), (10, .lor, 1), (11, .lastore, 1), (12, .return_, 1)]
set_option maxRecDepth 100000 in
theorem dk_X1_mark : dt_X1_mark.all (fun q => decide (decode cX1_mark q.1 = .ok q.2)) = true := by decide +kernel
set_option maxRecDepth 100000 in
def f_X1_mark (r0 : Nat) (x1 : Int32) (x2 : Int32) (M : Mem) : Option Mem := Option.bind (zrf M r0 3) fun q1 => Option.bind (zld q1 x1) fun k2 => Option.bind (zld q1 x1) fun k3 => Option.bind (some (zsL M q1 k3 ((zL M q1 k2) ||| ((1 : Int64) <<< (x2.toInt64 &&& 63))))) fun M4 => some M4
set_option maxRecDepth 100000 in
set_option maxHeartbeats 4000000 in
theorem x_X1_mark {κ : KX} {n : Nat} (hC : CX κ cX1_mark RX1 3 none 0) (hE : zEnd κ n (0, 0)) (hk0 : zRk κ (0, 0)) (r0 : Nat) (x1 : Int32) (x2 : Int32) (M : Mem) (h_r0 : zO n r0 1) : X κ 3 emV n (0, 0) 0 [.ref r0, .int x1, .int x2] [] M (f_X1_mark r0 x1 x2 M) := by
  unfold f_X1_mark
  refine x_aload_n (i := 0) rfl hC (zdk dk_X1_mark 0 rfl) (q := 1) rfl ?_
  refine x_getR (k := 21) fl_RX1_21 rfl h_r0 hC (zdk dk_X1_mark 1 rfl) (q := 4) rfl (fun q1 hq1 => ?_)
  refine x_iload_n (i := 1) rfl hC (zdk dk_X1_mark 2 rfl) (q := 5) rfl ?_
  refine x_dup2 rfl rfl hC (zdk dk_X1_mark 3 rfl) (q := 6) rfl ?_
  refine x_lald hq1 hC (zdk dk_X1_mark 4 rfl) (q := 7) rfl (fun k2 _ => ?_)
  refine x_lconst (i := 1) c_lconst_1 hC (zdk dk_X1_mark 5 rfl) (q := 8) rfl ?_
  refine x_iload_n (i := 2) rfl hC (zdk dk_X1_mark 6 rfl) (q := 9) rfl ?_
  refine x_lshl hC (zdk dk_X1_mark 7 rfl) (q := 10) rfl ?_
  refine x_lor hC (zdk dk_X1_mark 8 rfl) (q := 11) rfl ?_
  refine x_last hq1 hC (zdk dk_X1_mark 9 rfl) (q := 12) rfl (fun k3 _ => ?_)
  refine x_nmM (fun M4 => ?_)
  exact x_vret hE hC (zdk dk_X1_mark 10 rfl)
set_option maxRecDepth 100000 in
set_option maxHeartbeats 4000000 in
theorem t_X1_mark {n : Nat} {r0 : Nat} {x1 : Int32} {x2 : Int32} {M : Mem} (h_r0 : zO n r0 1) (x : Mem) (hx : f_X1_mark r0 x1 x2 M = some x) (l : Launch) (dC : Nat → ClassId) (dI : Nat → Nat → Nat) (b : zSg) : MT l dC dI b yX1_mark cX1_mark 3 none 0 0 0 n n [.ref r0, .int x1, .int x2] M (emV x).1 (emV x).2 :=
  MT.ofX (by decide +kernel) rfl (Nat.le_of_ble_eq_true rfl) (fun κ hC hF _ => x_X1_mark hC (zEnd_of hF (Nat.le_refl _) (Nat.le_refl _)) (zRk_of hF (Nat.le_refl _) (Nat.le_refl _)) _ _ _ _ h_r0) x hx
set_option maxRecDepth 100000 in
def dt_X1_markMendable : List (Nat × Instr × Nat) := [(0, .aload_n 0, 1), (1, .getfield 21, 3), (4, .lconst 0, 1), (5, .invokestatic 92, 3), (8, .aload_n 0, 1), (9, .iconst 0, 1), (10, .iconst 0, 1), (11, .invokevirtual 95, 3), (14, .iconst 0, 1), (15, .istore_n 1, 1), (16, .iload_n 1, 1), (17, .aload_n 0, 1), (18, .getfield 57, 3), (21, .if_icmp .ge 73, 3), (24, .aload_n 0, 1), (25, .aload_n 0, 1), (26, .getfield 9, 3), (29, .iload_n 1, 1), (30, .iaload, 1), (31, .aload_n 0, 1), (32, .iload_n 1, 1), (33, .invokevirtual 99, 3), (36, .invokevirtual 95, 3), (39, .aload_n 0, 1), (40, .getfield 35, 3), (43, .iconst 1, 1), (44, .if_icmp .le 44, 3), (47, .iconst 0, 1), (48, .istore_n 2, 1), (49, .iload_n 2, 1), (50, .iload_n 1, 1), (51, .if_icmp .ge 37, 3), (54, .aload_n 0, 1), (55, .aload_n 0, 1), (56, .getfield 9, 3), (59, .iload_n 1, 1), (60, .iaload, 1), (61, .aload_n 0, 1), (62, .getfield 9, 3), (65, .iload_n 2, 1), (66, .iaload, 1), (67, .ixor, 1), (68, .aload_n 0, 1), (69, .iload_n 1, 1), (70, .invokevirtual 99, 3), (73, .aload_n 0, 1), (74, .iload_n 2, 1), (75, .invokevirtual 99, 3), (78, .ixor, 1), (79, .invokevirtual 95, 3), (82, .iinc 2 1, 3), (85, .goto (-36), 3), (88, .iinc 1 1, 3), (91, .goto (-75), 3), (94, .return_, 1)]
set_option maxRecDepth 100000 in
theorem dk_X1_markMendable : dt_X1_markMendable.all (fun q => decide (decode cX1_markMendable q.1 = .ok q.2)) = true := by decide +kernel
set_option maxRecDepth 100000 in
def f_X1_markMendable_88 (k16 : Int32 → Mem → Option Mem) (r0 : Nat) (x1 : Int32) (M : Mem) : Option Mem := k16 (x1 + 1) M
set_option maxRecDepth 100000 in
set_option maxHeartbeats 4000000 in
theorem x_X1_markMendable_88 {κ : KX} {n : Nat} (hC : CX κ cX1_markMendable RX1 3 none 1) (hE : zEnd κ n (0, 0)) (hk0 : zRk κ (0, 0)) {r0 : Nat} (h_r0 : zO n r0 1) (k16 : Int32 → Mem → Option Mem) (hk16 : ∀ (x1 : Int32) (M : Mem), X κ 3 emV n (0, 0) 16 [.ref r0, .int x1, .null] [] M (k16 x1 M)) (x1 : Int32) (M : Mem) : X κ 3 emV n (0, 0) 88 [.ref r0, .int x1, .null] [] M (f_X1_markMendable_88 k16 r0 x1 M) := by
  unfold f_X1_markMendable_88
  refine x_iinc (i := 1) c_iconst_1 rfl (by decide) (L' := [.ref r0, .int (x1 + 1), .null]) rfl hC (zdk dk_X1_markMendable 52 rfl) (q := 91) rfl ?_
  refine x_goto (tgt := 16) hC (zdk dk_X1_markMendable 53 rfl) rfl ?_
  refine x_weak (L' := [.ref r0, .int (x1 + 1), .null]) ⟨Or.inr rfl, Or.inr rfl, Or.inl rfl, trivial⟩ ?_
  exact hk16 _ _
set_option maxRecDepth 100000 in
def f_X1_markMendable_49 (k16 : Int32 → Mem → Option Mem) (r0 : Nat) : Nat → Int32 → Int32 → Mem → Option Mem
  | 0, _, _, _ => none
  | f + 1, x1, x2, M => (if x1 ≤ x2 then f_X1_markMendable_88 k16 r0 x1 M else Option.bind (zrf M r0 0) fun q1 => Option.bind (zld q1 x1) fun k2 => Option.bind (zrf M r0 0) fun q3 => Option.bind (zld q3 x2) fun k4 => Option.bind (f_X1_thirdOf r0 x1 M) fun z5 => Option.bind (f_X1_thirdOf r0 x2 z5.2) fun z6 => Option.bind (f_X1_mark r0 ((zI M q1 k2) ^^^ (zI M q3 k4)) (z5.1 ^^^ z6.1) z6.2) fun M7 => (f_X1_markMendable_49 k16 r0 f) x1 (x2 + 1) M7)
set_option maxRecDepth 100000 in
set_option maxHeartbeats 4000000 in
theorem x_X1_markMendable_49 {κ : KX} {n : Nat} (hC : CX κ cX1_markMendable RX1 3 none 1) (hE : zEnd κ n (0, 0)) (hk0 : zRk κ (0, 0)) {r0 : Nat} (h_r0 : zO n r0 1) (k16 : Int32 → Mem → Option Mem) (hk16 : ∀ (x1 : Int32) (M : Mem), X κ 3 emV n (0, 0) 16 [.ref r0, .int x1, .null] [] M (k16 x1 M)) : ∀ (f : Nat) (x1 : Int32) (x2 : Int32) (M : Mem), X κ 3 emV n (0, 0) 49 [.ref r0, .int x1, .int x2] [] M (f_X1_markMendable_49 k16 r0 f x1 x2 M) := by
  intro f
  induction f with
  | zero => intros; exact x_none
  | succ f ih =>
    intro x1 x2 M 
    rw [f_X1_markMendable_49]
    refine x_iload_n (i := 2) rfl hC (zdk dk_X1_markMendable 29 rfl) (q := 50) rfl ?_
    refine x_iload_n (i := 1) rfl hC (zdk dk_X1_markMendable 30 rfl) (q := 51) rfl ?_
    refine x_icmp_ge (tgt := 88) hC (zdk dk_X1_markMendable 31 rfl) (q := 54) rfl rfl (fun _ => ?_) (fun _ => ?_)
    · refine x_weak (L' := [.ref r0, .int x1, .null]) ⟨Or.inr rfl, Or.inr rfl, Or.inl rfl, trivial⟩ ?_
      exact x_X1_markMendable_88 hC hE hk0 h_r0 k16 hk16 _ _
    · refine x_aload_n (i := 0) rfl hC (zdk dk_X1_markMendable 32 rfl) (q := 55) rfl ?_
      refine x_aload_n (i := 0) rfl hC (zdk dk_X1_markMendable 33 rfl) (q := 56) rfl ?_
      refine x_getR (k := 20) fl_RX1_9 rfl h_r0 hC (zdk dk_X1_markMendable 34 rfl) (q := 59) rfl (fun q1 hq1 => ?_)
      refine x_iload_n (i := 1) rfl hC (zdk dk_X1_markMendable 35 rfl) (q := 60) rfl ?_
      refine x_iald hq1 hC (zdk dk_X1_markMendable 36 rfl) (q := 61) rfl (fun k2 _ => ?_)
      refine x_aload_n (i := 0) rfl hC (zdk dk_X1_markMendable 37 rfl) (q := 62) rfl ?_
      refine x_getR (k := 20) fl_RX1_9 rfl h_r0 hC (zdk dk_X1_markMendable 38 rfl) (q := 65) rfl (fun q3 hq3 => ?_)
      refine x_iload_n (i := 2) rfl hC (zdk dk_X1_markMendable 39 rfl) (q := 66) rfl ?_
      refine x_iald hq3 hC (zdk dk_X1_markMendable 40 rfl) (q := 67) rfl (fun k4 _ => ?_)
      refine x_ixor hC (zdk dk_X1_markMendable 41 rfl) (q := 68) rfl ?_
      refine x_aload_n (i := 0) rfl hC (zdk dk_X1_markMendable 42 rfl) (q := 69) rfl ?_
      refine x_iload_n (i := 1) rfl hC (zdk dk_X1_markMendable 43 rfl) (q := 70) rfl ?_
      refine x_callVi (as := [.int x1]) cb_RX1_99 rfl (by decide) hk0 h_r0 (fun x hx => t_X1_thirdOf h_r0 x hx) hC (zdk dk_X1_markMendable 44 rfl) (q := 73) rfl rfl (Nat.le_of_ble_eq_true rfl) (fun z5 => ?_)
      refine x_aload_n (i := 0) rfl hC (zdk dk_X1_markMendable 45 rfl) (q := 74) rfl ?_
      refine x_iload_n (i := 2) rfl hC (zdk dk_X1_markMendable 46 rfl) (q := 75) rfl ?_
      refine x_callVi (as := [.int x2]) cb_RX1_99 rfl (by decide) hk0 h_r0 (fun x hx => t_X1_thirdOf h_r0 x hx) hC (zdk dk_X1_markMendable 47 rfl) (q := 78) rfl rfl (Nat.le_of_ble_eq_true rfl) (fun z6 => ?_)
      refine x_ixor hC (zdk dk_X1_markMendable 48 rfl) (q := 79) rfl ?_
      refine x_callVv (as := [.int ((zI M q1 k2) ^^^ (zI M q3 k4)), .int (z5.1 ^^^ z6.1)]) cb_RX1_95 rfl (by decide) hk0 h_r0 (fun x hx => t_X1_mark h_r0 x hx) hC (zdk dk_X1_markMendable 49 rfl) (q := 82) rfl rfl (Nat.le_of_ble_eq_true rfl) (fun M7 => ?_)
      refine x_iinc (i := 2) c_iconst_1 rfl (by decide) (L' := [.ref r0, .int x1, .int (x2 + 1)]) rfl hC (zdk dk_X1_markMendable 50 rfl) (q := 85) rfl ?_
      refine x_goto (tgt := 49) hC (zdk dk_X1_markMendable 51 rfl) rfl ?_
      refine x_weak (L' := [.ref r0, .int x1, .int (x2 + 1)]) ⟨Or.inr rfl, Or.inr rfl, Or.inr rfl, trivial⟩ ?_
      exact ih _ _ _
set_option maxRecDepth 100000 in
def f_X1_markMendable_16  (r0 : Nat) : Nat → Int32 → Mem → Option Mem
  | 0, _, _ => none
  | f + 1, x1, M => (if zI M r0 10 ≤ x1 then some M else Option.bind (zrf M r0 0) fun q8 => Option.bind (zld q8 x1) fun k9 => Option.bind (f_X1_thirdOf r0 x1 M) fun z10 => Option.bind (f_X1_mark r0 (zI M q8 k9) z10.1 z10.2) fun M11 => (if zI M11 r0 8 ≤ 1 then f_X1_markMendable_88 (f_X1_markMendable_16 r0 f) r0 x1 M11 else f_X1_markMendable_49 (f_X1_markMendable_16 r0 f) r0 1000000 x1 0 M11))
set_option maxRecDepth 100000 in
set_option maxHeartbeats 4000000 in
theorem x_X1_markMendable_16 {κ : KX} {n : Nat} (hC : CX κ cX1_markMendable RX1 3 none 1) (hE : zEnd κ n (0, 0)) (hk0 : zRk κ (0, 0)) {r0 : Nat} (h_r0 : zO n r0 1) : ∀ (f : Nat) (x1 : Int32) (M : Mem), X κ 3 emV n (0, 0) 16 [.ref r0, .int x1, .null] [] M (f_X1_markMendable_16 r0 f x1 M) := by
  intro f
  induction f with
  | zero => intros; exact x_none
  | succ f ih =>
    intro x1 M 
    rw [f_X1_markMendable_16]
    refine x_iload_n (i := 1) rfl hC (zdk dk_X1_markMendable 10 rfl) (q := 17) rfl ?_
    refine x_aload_n (i := 0) rfl hC (zdk dk_X1_markMendable 11 rfl) (q := 18) rfl ?_
    refine x_getI fl_RX1_57 (by decide) h_r0 hC (zdk dk_X1_markMendable 12 rfl) (q := 21) rfl ?_
    refine x_icmp_ge (tgt := 94) hC (zdk dk_X1_markMendable 13 rfl) (q := 24) rfl rfl (fun _ => ?_) (fun _ => ?_)
    · exact x_vret hE hC (zdk dk_X1_markMendable 54 rfl)
    · refine x_aload_n (i := 0) rfl hC (zdk dk_X1_markMendable 14 rfl) (q := 25) rfl ?_
      refine x_aload_n (i := 0) rfl hC (zdk dk_X1_markMendable 15 rfl) (q := 26) rfl ?_
      refine x_getR (k := 20) fl_RX1_9 rfl h_r0 hC (zdk dk_X1_markMendable 16 rfl) (q := 29) rfl (fun q8 hq8 => ?_)
      refine x_iload_n (i := 1) rfl hC (zdk dk_X1_markMendable 17 rfl) (q := 30) rfl ?_
      refine x_iald hq8 hC (zdk dk_X1_markMendable 18 rfl) (q := 31) rfl (fun k9 _ => ?_)
      refine x_aload_n (i := 0) rfl hC (zdk dk_X1_markMendable 19 rfl) (q := 32) rfl ?_
      refine x_iload_n (i := 1) rfl hC (zdk dk_X1_markMendable 20 rfl) (q := 33) rfl ?_
      refine x_callVi (as := [.int x1]) cb_RX1_99 rfl (by decide) hk0 h_r0 (fun x hx => t_X1_thirdOf h_r0 x hx) hC (zdk dk_X1_markMendable 21 rfl) (q := 36) rfl rfl (Nat.le_of_ble_eq_true rfl) (fun z10 => ?_)
      refine x_callVv (as := [.int (zI M q8 k9), .int z10.1]) cb_RX1_95 rfl (by decide) hk0 h_r0 (fun x hx => t_X1_mark h_r0 x hx) hC (zdk dk_X1_markMendable 22 rfl) (q := 39) rfl rfl (Nat.le_of_ble_eq_true rfl) (fun M11 => ?_)
      refine x_aload_n (i := 0) rfl hC (zdk dk_X1_markMendable 23 rfl) (q := 40) rfl ?_
      refine x_getI fl_RX1_35 (by decide) h_r0 hC (zdk dk_X1_markMendable 24 rfl) (q := 43) rfl ?_
      refine x_iconst (i := 1) c_iconst_1 hC (zdk dk_X1_markMendable 25 rfl) (q := 44) rfl ?_
      refine x_icmp_le (tgt := 88) hC (zdk dk_X1_markMendable 26 rfl) (q := 47) rfl rfl (fun _ => ?_) (fun _ => ?_)
      · refine x_weak (L' := [.ref r0, .int x1, .null]) ⟨Or.inr rfl, Or.inr rfl, Or.inl rfl, trivial⟩ ?_
        exact x_X1_markMendable_88 hC hE hk0 h_r0 (f_X1_markMendable_16 r0 f) ih _ _
      · refine x_iconst (i := 0) c_iconst_0 hC (zdk dk_X1_markMendable 27 rfl) (q := 48) rfl ?_
        refine x_istore_n (i := 2) (L' := [.ref r0, .int x1, .int 0]) (by decide) rfl hC (zdk dk_X1_markMendable 28 rfl) (q := 49) rfl ?_
        refine x_weak (L' := [.ref r0, .int x1, .int 0]) ⟨Or.inr rfl, Or.inr rfl, Or.inr rfl, trivial⟩ ?_
        exact x_X1_markMendable_49 hC hE hk0 h_r0 (f_X1_markMendable_16 r0 f) ih _ _ _ _
set_option maxRecDepth 100000 in
def f_X1_markMendable (r0 : Nat) (M : Mem) : Option Mem := Option.bind (zrf M r0 3) fun q12 => Option.bind (f_J7_fill_d0a16 q12 0 M) fun M13 => Option.bind (f_X1_mark r0 0 0 M13) fun M14 => f_X1_markMendable_16 r0 1000000 0 M14
set_option maxRecDepth 100000 in
set_option maxHeartbeats 4000000 in
theorem x_X1_markMendable {κ : KX} {n : Nat} (hC : CX κ cX1_markMendable RX1 3 none 1) (hE : zEnd κ n (0, 0)) (hk0 : zRk κ (0, 0)) (r0 : Nat) (M : Mem) (h_r0 : zO n r0 1) : X κ 3 emV n (0, 0) 0 [.ref r0, .null, .null] [] M (f_X1_markMendable r0 M) := by
  unfold f_X1_markMendable
  refine x_aload_n (i := 0) rfl hC (zdk dk_X1_markMendable 0 rfl) (q := 1) rfl ?_
  refine x_getR (k := 21) fl_RX1_21 rfl h_r0 hC (zdk dk_X1_markMendable 1 rfl) (q := 4) rfl (fun q12 hq12 => ?_)
  refine x_lconst (i := 0) c_lconst_0 hC (zdk dk_X1_markMendable 2 rfl) (q := 5) rfl ?_
  refine x_callSv (as := [.ref q12, .long 0]) cb_RX1_92 rfl (by decide) hk0 (fun x hx => t_J7_fill_d0a16 hq12 x hx) hC (zdk dk_X1_markMendable 3 rfl) (q := 8) rfl rfl (Nat.le_of_ble_eq_true rfl) (fun M13 => ?_)
  refine x_aload_n (i := 0) rfl hC (zdk dk_X1_markMendable 4 rfl) (q := 9) rfl ?_
  refine x_iconst (i := 0) c_iconst_0 hC (zdk dk_X1_markMendable 5 rfl) (q := 10) rfl ?_
  refine x_iconst (i := 0) c_iconst_0 hC (zdk dk_X1_markMendable 6 rfl) (q := 11) rfl ?_
  refine x_callVv (as := [.int 0, .int 0]) cb_RX1_95 rfl (by decide) hk0 h_r0 (fun x hx => t_X1_mark h_r0 x hx) hC (zdk dk_X1_markMendable 7 rfl) (q := 14) rfl rfl (Nat.le_of_ble_eq_true rfl) (fun M14 => ?_)
  refine x_iconst (i := 0) c_iconst_0 hC (zdk dk_X1_markMendable 8 rfl) (q := 15) rfl ?_
  refine x_istore_n (i := 1) (L' := [.ref r0, .int 0, .null]) (by decide) rfl hC (zdk dk_X1_markMendable 9 rfl) (q := 16) rfl ?_
  refine x_weak (L' := [.ref r0, .int 0, .null]) ⟨Or.inr rfl, Or.inr rfl, Or.inl rfl, trivial⟩ ?_
  exact x_X1_markMendable_16 hC hE hk0 h_r0 _ _ _
set_option maxRecDepth 100000 in
set_option maxHeartbeats 4000000 in
theorem t_X1_markMendable {n : Nat} {r0 : Nat} {M : Mem} (h_r0 : zO n r0 1) (x : Mem) (hx : f_X1_markMendable r0 M = some x) (l : Launch) (dC : Nat → ClassId) (dI : Nat → Nat → Nat) (b : zSg) : MT l dC dI b yX1_markMendable cX1_markMendable 3 none 1 0 0 n n [.ref r0] M (emV x).1 (emV x).2 :=
  MT.ofX (by decide +kernel) rfl (Nat.le_of_ble_eq_true rfl) (fun κ hC hF _ => x_X1_markMendable hC (zEnd_of hF (Nat.le_refl _) (Nat.le_refl _)) (zRk_of hF (Nat.le_refl _) (Nat.le_refl _)) _ _ h_r0) x hx
set_option maxRecDepth 100000 in
def dt_X1_missedCount : List (Nat × Instr × Nat) := [(0, .aload_n 0, 1), (1, .getfield 25, 3), (4, .iload_n 1, 1), (5, .iaload, 1), (6, .iconst (-1), 1), (7, .if_icmp .ne 18, 3), (10, .aload_n 0, 1), (11, .invokevirtual 86, 3), (14, .aload_n 0, 1), (15, .getfield 25, 3), (18, .iload_n 1, 1), (19, .aload_n 0, 1), (20, .iload_n 1, 1), (21, .invokevirtual 89, 3), (24, .iastore, 1), (25, .aload_n 0, 1), (26, .getfield 25, 3), (29, .iload_n 1, 1), (30, .iaload, 1), (31, .ireturn, 1)]
set_option maxRecDepth 100000 in
theorem dk_X1_missedCount : dt_X1_missedCount.all (fun q => decide (decode cX1_missedCount q.1 = .ok q.2)) = true := by decide +kernel
set_option maxRecDepth 100000 in
def f_X1_missedCount_25  (r0 : Nat) (x1 : Int32)  (M : Mem) : Option (Int32 × Mem) := Option.bind (zrf M r0 4) fun q1 => Option.bind (zld q1 x1) fun k2 => some (zI M q1 k2, M)
set_option maxRecDepth 100000 in
set_option maxHeartbeats 4000000 in
theorem x_X1_missedCount_25 {κ : KX} {n : Nat} (hC : CX κ cX1_missedCount RX1 2 (some .int) 2) (hE : zEnd κ n (0, 0)) (hk0 : zRk κ (0, 0)) {r0 : Nat} {x1 : Int32} (h_r0 : zO n r0 1) (M : Mem) : X κ 2 emI n (0, 0) 25 [.ref r0, .int x1] [] M (f_X1_missedCount_25 r0 x1 M) := by
  unfold f_X1_missedCount_25
  refine x_aload_n (i := 0) rfl hC (zdk dk_X1_missedCount 15 rfl) (q := 26) rfl ?_
  refine x_getR (k := 20) fl_RX1_25 rfl h_r0 hC (zdk dk_X1_missedCount 16 rfl) (q := 29) rfl (fun q1 hq1 => ?_)
  refine x_iload_n (i := 1) rfl hC (zdk dk_X1_missedCount 17 rfl) (q := 30) rfl ?_
  refine x_iald hq1 hC (zdk dk_X1_missedCount 18 rfl) (q := 31) rfl (fun k2 _ => ?_)
  exact x_iret (ty := .int) rfl hE hC (zdk dk_X1_missedCount 19 rfl)
set_option maxRecDepth 100000 in
def f_X1_missedCount (r0 : Nat) (x1 : Int32) (M : Mem) : Option (Int32 × Mem) := Option.bind (zrf M r0 4) fun q3 => Option.bind (zld q3 x1) fun k4 => (if zI M q3 k4 = (-1) then Option.bind (f_X1_markMendable r0 M) fun M5 => Option.bind (zrf M5 r0 4) fun q6 => Option.bind (f_X1_countMendable r0 x1 M5) fun z7 => Option.bind (zld q6 x1) fun k8 => Option.bind (some (zsI z7.2 q6 k8 z7.1)) fun M9 => f_X1_missedCount_25 r0 x1 M9 else f_X1_missedCount_25 r0 x1 M)
set_option maxRecDepth 100000 in
set_option maxHeartbeats 4000000 in
theorem x_X1_missedCount {κ : KX} {n : Nat} (hC : CX κ cX1_missedCount RX1 2 (some .int) 2) (hE : zEnd κ n (0, 0)) (hk0 : zRk κ (0, 0)) (r0 : Nat) (x1 : Int32) (M : Mem) (h_r0 : zO n r0 1) : X κ 2 emI n (0, 0) 0 [.ref r0, .int x1] [] M (f_X1_missedCount r0 x1 M) := by
  unfold f_X1_missedCount
  refine x_aload_n (i := 0) rfl hC (zdk dk_X1_missedCount 0 rfl) (q := 1) rfl ?_
  refine x_getR (k := 20) fl_RX1_25 rfl h_r0 hC (zdk dk_X1_missedCount 1 rfl) (q := 4) rfl (fun q3 hq3 => ?_)
  refine x_iload_n (i := 1) rfl hC (zdk dk_X1_missedCount 2 rfl) (q := 5) rfl ?_
  refine x_iald hq3 hC (zdk dk_X1_missedCount 3 rfl) (q := 6) rfl (fun k4 _ => ?_)
  refine x_iconst (i := (-1)) c_iconst_m1 hC (zdk dk_X1_missedCount 4 rfl) (q := 7) rfl ?_
  refine x_icmp_ne (tgt := 25) hC (zdk dk_X1_missedCount 5 rfl) (q := 10) rfl rfl (fun _ => ?_) (fun _ => ?_)
  · refine x_weak (L' := [.ref r0, .int x1]) ⟨Or.inr rfl, Or.inr rfl, trivial⟩ ?_
    exact x_X1_missedCount_25 hC hE hk0 h_r0 _
  · refine x_aload_n (i := 0) rfl hC (zdk dk_X1_missedCount 6 rfl) (q := 11) rfl ?_
    refine x_callVv (as := []) cb_RX1_86 rfl (by decide) hk0 h_r0 (fun x hx => t_X1_markMendable h_r0 x hx) hC (zdk dk_X1_missedCount 7 rfl) (q := 14) rfl rfl (Nat.le_of_ble_eq_true rfl) (fun M5 => ?_)
    refine x_aload_n (i := 0) rfl hC (zdk dk_X1_missedCount 8 rfl) (q := 15) rfl ?_
    refine x_getR (k := 20) fl_RX1_25 rfl h_r0 hC (zdk dk_X1_missedCount 9 rfl) (q := 18) rfl (fun q6 hq6 => ?_)
    refine x_iload_n (i := 1) rfl hC (zdk dk_X1_missedCount 10 rfl) (q := 19) rfl ?_
    refine x_aload_n (i := 0) rfl hC (zdk dk_X1_missedCount 11 rfl) (q := 20) rfl ?_
    refine x_iload_n (i := 1) rfl hC (zdk dk_X1_missedCount 12 rfl) (q := 21) rfl ?_
    refine x_callVi (as := [.int x1]) cb_RX1_89 rfl (by decide) hk0 h_r0 (fun x hx => t_X1_countMendable h_r0 x hx) hC (zdk dk_X1_missedCount 13 rfl) (q := 24) rfl rfl (Nat.le_of_ble_eq_true rfl) (fun z7 => ?_)
    refine x_iast hq6 hC (zdk dk_X1_missedCount 14 rfl) (q := 25) rfl (fun k8 _ => ?_)
    refine x_nmM (fun M9 => ?_)
    refine x_weak (L' := [.ref r0, .int x1]) ⟨Or.inr rfl, Or.inr rfl, trivial⟩ ?_
    exact x_X1_missedCount_25 hC hE hk0 h_r0 _
set_option maxRecDepth 100000 in
set_option maxHeartbeats 4000000 in
theorem t_X1_missedCount {n : Nat} {r0 : Nat} {x1 : Int32} {M : Mem} (h_r0 : zO n r0 1) (x : (Int32 × Mem)) (hx : f_X1_missedCount r0 x1 M = some x) (l : Launch) (dC : Nat → ClassId) (dI : Nat → Nat → Nat) (b : zSg) : MT l dC dI b yX1_missedCount cX1_missedCount 2 (some .int) 2 0 0 n n [.ref r0, .int x1] M (emI x).1 (emI x).2 :=
  MT.ofX (by decide +kernel) rfl (Nat.le_of_ble_eq_true rfl) (fun κ hC hF _ => x_X1_missedCount hC (zEnd_of hF (Nat.le_refl _) (Nat.le_refl _)) (zRk_of hF (Nat.le_refl _) (Nat.le_refl _)) _ _ _ h_r0) x hx
set_option maxRecDepth 100000 in
def dt_X2_forget : List (Nat × Instr × Nat) := [(0, .aload_n 0, 1), (1, .iconst 0, 1), (2, .putfield 27, 3), (5, .return_, 1)]
set_option maxRecDepth 100000 in
theorem dk_X2_forget : dt_X2_forget.all (fun q => decide (decode cX2_forget q.1 = .ok q.2)) = true := by decide +kernel
set_option maxRecDepth 100000 in
def f_X2_forget (r0 : Nat) (M : Mem) : Option Mem := Option.bind (some (zsI M r0 5 0)) fun M1 => some M1
set_option maxRecDepth 100000 in
set_option maxHeartbeats 4000000 in
theorem x_X2_forget {κ : KX} {n : Nat} (hC : CX κ cX2_forget RX2 1 none 0) (hE : zEnd κ n (0, 0)) (hk0 : zRk κ (0, 0)) (r0 : Nat) (M : Mem) (h_r0 : zO n r0 2) : X κ 1 emV n (0, 0) 0 [.ref r0] [] M (f_X2_forget r0 M) := by
  unfold f_X2_forget
  refine x_aload_n (i := 0) rfl hC (zdk dk_X2_forget 0 rfl) (q := 1) rfl ?_
  refine x_iconst (i := 0) c_iconst_0 hC (zdk dk_X2_forget 1 rfl) (q := 2) rfl ?_
  refine x_putI fl_RX2_27 ⟨rfl, rfl⟩ (by decide) (Or.inl rfl) h_r0 hC (zdk dk_X2_forget 2 rfl) (q := 5) rfl ?_
  refine x_nmM (fun M1 => ?_)
  exact x_vret hE hC (zdk dk_X2_forget 3 rfl)
set_option maxRecDepth 100000 in
set_option maxHeartbeats 4000000 in
theorem t_X2_forget {n : Nat} {r0 : Nat} {M : Mem} (h_r0 : zO n r0 2) (x : Mem) (hx : f_X2_forget r0 M = some x) (l : Launch) (dC : Nat → ClassId) (dI : Nat → Nat → Nat) (b : zSg) : MT l dC dI b yX2_forget cX2_forget 1 none 0 0 0 n n [.ref r0] M (emV x).1 (emV x).2 :=
  MT.ofX (by decide +kernel) rfl (Nat.le_of_ble_eq_true rfl) (fun κ hC hF _ => x_X2_forget hC (zEnd_of hF (Nat.le_refl _) (Nat.le_refl _)) (zRk_of hF (Nat.le_refl _) (Nat.le_refl _)) _ _ h_r0) x hx
set_option maxRecDepth 100000 in
def dt_X2_correct : List (Nat × Instr × Nat) := [(0, .iload_n 3, 1), (1, .istore 4, 2), (3, .iload 4, 2), (5, .aload_n 0, 1), (6, .getfield 15, 3), (9, .arraylength, 1), (10, .if_icmp .ge 33, 3), (13, .aload_n 0, 1), (14, .getfield 15, 3), (17, .iload 4, 2), (19, .dup2, 1), (20, .iaload, 1), (21, .aload_n 1, 1), (22, .iload_n 2, 1), (23, .aload_n 0, 1), (24, .getfield 18, 3), (27, .iload 4, 2), (29, .iload_n 3, 1), (30, .isub, 1), (31, .iaload, 1), (32, .invokevirtual 48, 3), (35, .ixor, 1), (36, .iastore, 1), (37, .iinc 4 1, 3), (40, .goto (-37), 3), (43, .return_, 1)]
set_option maxRecDepth 100000 in
theorem dk_X2_correct : dt_X2_correct.all (fun q => decide (decode cX2_correct q.1 = .ok q.2)) = true := by decide +kernel
set_option maxRecDepth 100000 in
def f_X2_correct_3  (r0 : Nat) (r1 : Nat) (x2 : Int32) (x3 : Int32) : Nat → Int32 → Mem → Option Mem
  | 0, _, _ => none
  | f + 1, x4, M => Option.bind (zrf M r0 1) fun q1 => (if zlen q1 ≤ x4 then some M else Option.bind (zrf M r0 1) fun q2 => Option.bind (zld q2 x4) fun k3 => Option.bind (zrf M r0 2) fun q4 => Option.bind (zld q4 (x4 - x3)) fun k5 => Option.bind (f_X1_product r1 x2 (zI M q4 k5) M) fun z6 => Option.bind (zld q2 x4) fun k7 => Option.bind (some (zsI z6.2 q2 k7 ((zI M q2 k3) ^^^ z6.1))) fun M8 => (f_X2_correct_3 r0 r1 x2 x3 f) (x4 + 1) M8)
set_option maxRecDepth 100000 in
set_option maxHeartbeats 4000000 in
theorem x_X2_correct_3 {κ : KX} {n : Nat} (hC : CX κ cX2_correct RX2 5 none 1) (hE : zEnd κ n (0, 0)) (hk0 : zRk κ (0, 0)) {r0 : Nat} {r1 : Nat} {x2 : Int32} {x3 : Int32} (h_r0 : zO n r0 2) (h_r1 : zO n r1 1) : ∀ (f : Nat) (x4 : Int32) (M : Mem), X κ 5 emV n (0, 0) 3 [.ref r0, .ref r1, .int x2, .int x3, .int x4] [] M (f_X2_correct_3 r0 r1 x2 x3 f x4 M) := by
  intro f
  induction f with
  | zero => intros; exact x_none
  | succ f ih =>
    intro x4 M 
    rw [f_X2_correct_3]
    refine x_iload (i := 4) rfl hC (zdk dk_X2_correct 2 rfl) (q := 5) rfl ?_
    refine x_aload_n (i := 0) rfl hC (zdk dk_X2_correct 3 rfl) (q := 6) rfl ?_
    refine x_getR (k := 20) fl_RX2_15 rfl h_r0 hC (zdk dk_X2_correct 4 rfl) (q := 9) rfl (fun q1 hq1 => ?_)
    refine x_alen hq1 (by decide) hC (zdk dk_X2_correct 5 rfl) (q := 10) rfl ?_
    refine x_icmp_ge (tgt := 43) hC (zdk dk_X2_correct 6 rfl) (q := 13) rfl rfl (fun _ => ?_) (fun _ => ?_)
    · exact x_vret hE hC (zdk dk_X2_correct 25 rfl)
    · refine x_aload_n (i := 0) rfl hC (zdk dk_X2_correct 7 rfl) (q := 14) rfl ?_
      refine x_getR (k := 20) fl_RX2_15 rfl h_r0 hC (zdk dk_X2_correct 8 rfl) (q := 17) rfl (fun q2 hq2 => ?_)
      refine x_iload (i := 4) rfl hC (zdk dk_X2_correct 9 rfl) (q := 19) rfl ?_
      refine x_dup2 rfl rfl hC (zdk dk_X2_correct 10 rfl) (q := 20) rfl ?_
      refine x_iald hq2 hC (zdk dk_X2_correct 11 rfl) (q := 21) rfl (fun k3 _ => ?_)
      refine x_aload_n (i := 1) rfl hC (zdk dk_X2_correct 12 rfl) (q := 22) rfl ?_
      refine x_iload_n (i := 2) rfl hC (zdk dk_X2_correct 13 rfl) (q := 23) rfl ?_
      refine x_aload_n (i := 0) rfl hC (zdk dk_X2_correct 14 rfl) (q := 24) rfl ?_
      refine x_getR (k := 20) fl_RX2_18 rfl h_r0 hC (zdk dk_X2_correct 15 rfl) (q := 27) rfl (fun q4 hq4 => ?_)
      refine x_iload (i := 4) rfl hC (zdk dk_X2_correct 16 rfl) (q := 29) rfl ?_
      refine x_iload_n (i := 3) rfl hC (zdk dk_X2_correct 17 rfl) (q := 30) rfl ?_
      refine x_isub hC (zdk dk_X2_correct 18 rfl) (q := 31) rfl ?_
      refine x_iald hq4 hC (zdk dk_X2_correct 19 rfl) (q := 32) rfl (fun k5 _ => ?_)
      refine x_callVi (as := [.int x2, .int (zI M q4 k5)]) cb_RX2_48 rfl (by decide) hk0 h_r1 (fun x hx => t_X1_product h_r1 x hx) hC (zdk dk_X2_correct 20 rfl) (q := 35) rfl rfl (Nat.le_of_ble_eq_true rfl) (fun z6 => ?_)
      refine x_ixor hC (zdk dk_X2_correct 21 rfl) (q := 36) rfl ?_
      refine x_iast hq2 hC (zdk dk_X2_correct 22 rfl) (q := 37) rfl (fun k7 _ => ?_)
      refine x_nmM (fun M8 => ?_)
      refine x_iinc (i := 4) c_iconst_1 rfl (by decide) (L' := [.ref r0, .ref r1, .int x2, .int x3, .int (x4 + 1)]) rfl hC (zdk dk_X2_correct 23 rfl) (q := 40) rfl ?_
      refine x_goto (tgt := 3) hC (zdk dk_X2_correct 24 rfl) rfl ?_
      refine x_weak (L' := [.ref r0, .ref r1, .int x2, .int x3, .int (x4 + 1)]) ⟨Or.inr rfl, Or.inr rfl, Or.inr rfl, Or.inr rfl, Or.inr rfl, trivial⟩ ?_
      exact ih _ _
set_option maxRecDepth 100000 in
def f_X2_correct (r0 : Nat) (r1 : Nat) (x2 : Int32) (x3 : Int32) (M : Mem) : Option Mem := f_X2_correct_3 r0 r1 x2 x3 1000000 x3 M
set_option maxRecDepth 100000 in
set_option maxHeartbeats 4000000 in
theorem x_X2_correct {κ : KX} {n : Nat} (hC : CX κ cX2_correct RX2 5 none 1) (hE : zEnd κ n (0, 0)) (hk0 : zRk κ (0, 0)) (r0 : Nat) (r1 : Nat) (x2 : Int32) (x3 : Int32) (M : Mem) (h_r0 : zO n r0 2) (h_r1 : zO n r1 1) : X κ 5 emV n (0, 0) 0 [.ref r0, .ref r1, .int x2, .int x3, .null] [] M (f_X2_correct r0 r1 x2 x3 M) := by
  unfold f_X2_correct
  refine x_iload_n (i := 3) rfl hC (zdk dk_X2_correct 0 rfl) (q := 1) rfl ?_
  refine x_istore (i := 4) (L' := [.ref r0, .ref r1, .int x2, .int x3, .int x3]) (by decide) rfl hC (zdk dk_X2_correct 1 rfl) (q := 3) rfl ?_
  refine x_weak (L' := [.ref r0, .ref r1, .int x2, .int x3, .int x3]) ⟨Or.inr rfl, Or.inr rfl, Or.inr rfl, Or.inr rfl, Or.inr rfl, trivial⟩ ?_
  exact x_X2_correct_3 hC hE hk0 h_r0 h_r1 _ _ _
set_option maxRecDepth 100000 in
set_option maxHeartbeats 4000000 in
theorem t_X2_correct {n : Nat} {r0 : Nat} {r1 : Nat} {x2 : Int32} {x3 : Int32} {M : Mem} (h_r0 : zO n r0 2) (h_r1 : zO n r1 1) (x : Mem) (hx : f_X2_correct r0 r1 x2 x3 M = some x) (l : Launch) (dC : Nat → ClassId) (dI : Nat → Nat → Nat) (b : zSg) : MT l dC dI b yX2_correct cX2_correct 5 none 1 0 0 n n [.ref r0, .ref r1, .int x2, .int x3] M (emV x).1 (emV x).2 :=
  MT.ofX (by decide +kernel) rfl (Nat.le_of_ble_eq_true rfl) (fun κ hC hF _ => x_X2_correct hC (zEnd_of hF (Nat.le_refl _) (Nat.le_refl _)) (zRk_of hF (Nat.le_refl _) (Nat.le_refl _)) _ _ _ _ _ h_r0 h_r1) x hx
set_option maxRecDepth 100000 in
def dt_X2_gapAt : List (Nat × Instr × Nat) := [(0, .aload_n 0, 1), (1, .getfield 9, 3), (4, .iload_n 2, 1), (5, .iaload, 1), (6, .istore_n 3, 1), (7, .iconst 1, 1), (8, .istore 4, 2), (10, .iload 4, 2), (12, .aload_n 0, 1), (13, .getfield 56, 3), (16, .if_icmp .gt 38, 3), (19, .iload 4, 2), (21, .iload_n 2, 1), (22, .if_icmp .ge 32, 3), (25, .iload_n 3, 1), (26, .aload_n 1, 1), (27, .aload_n 0, 1), (28, .getfield 15, 3), (31, .iload 4, 2), (33, .iaload, 1), (34, .aload_n 0, 1), (35, .getfield 9, 3), (38, .iload_n 2, 1), (39, .iload 4, 2), (41, .isub, 1), (42, .iaload, 1), (43, .invokevirtual 48, 3), (46, .ixor, 1), (47, .istore_n 3, 1), (48, .iinc 4 1, 3), (51, .goto (-41), 3), (54, .iload_n 3, 1), (55, .ireturn, 1)]
set_option maxRecDepth 100000 in
theorem dk_X2_gapAt : dt_X2_gapAt.all (fun q => decide (decode cX2_gapAt q.1 = .ok q.2)) = true := by decide +kernel
set_option maxRecDepth 100000 in
def f_X2_gapAt_54  (r0 : Nat) (r1 : Nat) (x2 : Int32) (x3 : Int32) (M : Mem) : Option (Int32 × Mem) := some (x3, M)
set_option maxRecDepth 100000 in
set_option maxHeartbeats 4000000 in
theorem x_X2_gapAt_54 {κ : KX} {n : Nat} (hC : CX κ cX2_gapAt RX2 5 (some .int) 1) (hE : zEnd κ n (0, 0)) (hk0 : zRk κ (0, 0)) {r0 : Nat} {r1 : Nat} {x2 : Int32} (h_r0 : zO n r0 2) (h_r1 : zO n r1 1) (x3 : Int32) (M : Mem) : X κ 5 emI n (0, 0) 54 [.null, .null, .null, .int x3, .null] [] M (f_X2_gapAt_54 r0 r1 x2 x3 M) := by
  unfold f_X2_gapAt_54
  refine x_iload_n (i := 3) rfl hC (zdk dk_X2_gapAt 31 rfl) (q := 55) rfl ?_
  exact x_iret (ty := .int) rfl hE hC (zdk dk_X2_gapAt 32 rfl)
set_option maxRecDepth 100000 in
def f_X2_gapAt_10  (r0 : Nat) (r1 : Nat) (x2 : Int32) : Nat → Int32 → Int32 → Mem → Option (Int32 × Mem)
  | 0, _, _, _ => none
  | f + 1, x3, x4, M => (if zI M r0 8 < x4 then f_X2_gapAt_54 r0 r1 x2 x3 M else (if x2 ≤ x4 then f_X2_gapAt_54 r0 r1 x2 x3 M else Option.bind (zrf M r0 1) fun q1 => Option.bind (zld q1 x4) fun k2 => Option.bind (zrf M r0 0) fun q3 => Option.bind (zld q3 (x2 - x4)) fun k4 => Option.bind (f_X1_product r1 (zI M q1 k2) (zI M q3 k4) M) fun z5 => (f_X2_gapAt_10 r0 r1 x2 f) (x3 ^^^ z5.1) (x4 + 1) z5.2))
set_option maxRecDepth 100000 in
set_option maxHeartbeats 4000000 in
theorem x_X2_gapAt_10 {κ : KX} {n : Nat} (hC : CX κ cX2_gapAt RX2 5 (some .int) 1) (hE : zEnd κ n (0, 0)) (hk0 : zRk κ (0, 0)) {r0 : Nat} {r1 : Nat} {x2 : Int32} (h_r0 : zO n r0 2) (h_r1 : zO n r1 1) : ∀ (f : Nat) (x3 : Int32) (x4 : Int32) (M : Mem), X κ 5 emI n (0, 0) 10 [.ref r0, .ref r1, .int x2, .int x3, .int x4] [] M (f_X2_gapAt_10 r0 r1 x2 f x3 x4 M) := by
  intro f
  induction f with
  | zero => intros; exact x_none
  | succ f ih =>
    intro x3 x4 M 
    rw [f_X2_gapAt_10]
    refine x_iload (i := 4) rfl hC (zdk dk_X2_gapAt 7 rfl) (q := 12) rfl ?_
    refine x_aload_n (i := 0) rfl hC (zdk dk_X2_gapAt 8 rfl) (q := 13) rfl ?_
    refine x_getI fl_RX2_56 (by decide) h_r0 hC (zdk dk_X2_gapAt 9 rfl) (q := 16) rfl ?_
    refine x_icmp_gt (tgt := 54) hC (zdk dk_X2_gapAt 10 rfl) (q := 19) rfl rfl (fun _ => ?_) (fun _ => ?_)
    · refine x_weak (L' := [.null, .null, .null, .int x3, .null]) ⟨Or.inl rfl, Or.inl rfl, Or.inl rfl, Or.inr rfl, Or.inl rfl, trivial⟩ ?_
      exact x_X2_gapAt_54 hC hE hk0 h_r0 h_r1 _ _
    · refine x_iload (i := 4) rfl hC (zdk dk_X2_gapAt 11 rfl) (q := 21) rfl ?_
      refine x_iload_n (i := 2) rfl hC (zdk dk_X2_gapAt 12 rfl) (q := 22) rfl ?_
      refine x_icmp_ge (tgt := 54) hC (zdk dk_X2_gapAt 13 rfl) (q := 25) rfl rfl (fun _ => ?_) (fun _ => ?_)
      · refine x_weak (L' := [.null, .null, .null, .int x3, .null]) ⟨Or.inl rfl, Or.inl rfl, Or.inl rfl, Or.inr rfl, Or.inl rfl, trivial⟩ ?_
        exact x_X2_gapAt_54 hC hE hk0 h_r0 h_r1 _ _
      · refine x_iload_n (i := 3) rfl hC (zdk dk_X2_gapAt 14 rfl) (q := 26) rfl ?_
        refine x_aload_n (i := 1) rfl hC (zdk dk_X2_gapAt 15 rfl) (q := 27) rfl ?_
        refine x_aload_n (i := 0) rfl hC (zdk dk_X2_gapAt 16 rfl) (q := 28) rfl ?_
        refine x_getR (k := 20) fl_RX2_15 rfl h_r0 hC (zdk dk_X2_gapAt 17 rfl) (q := 31) rfl (fun q1 hq1 => ?_)
        refine x_iload (i := 4) rfl hC (zdk dk_X2_gapAt 18 rfl) (q := 33) rfl ?_
        refine x_iald hq1 hC (zdk dk_X2_gapAt 19 rfl) (q := 34) rfl (fun k2 _ => ?_)
        refine x_aload_n (i := 0) rfl hC (zdk dk_X2_gapAt 20 rfl) (q := 35) rfl ?_
        refine x_getR (k := 20) fl_RX2_9 rfl h_r0 hC (zdk dk_X2_gapAt 21 rfl) (q := 38) rfl (fun q3 hq3 => ?_)
        refine x_iload_n (i := 2) rfl hC (zdk dk_X2_gapAt 22 rfl) (q := 39) rfl ?_
        refine x_iload (i := 4) rfl hC (zdk dk_X2_gapAt 23 rfl) (q := 41) rfl ?_
        refine x_isub hC (zdk dk_X2_gapAt 24 rfl) (q := 42) rfl ?_
        refine x_iald hq3 hC (zdk dk_X2_gapAt 25 rfl) (q := 43) rfl (fun k4 _ => ?_)
        refine x_callVi (as := [.int (zI M q1 k2), .int (zI M q3 k4)]) cb_RX2_48 rfl (by decide) hk0 h_r1 (fun x hx => t_X1_product h_r1 x hx) hC (zdk dk_X2_gapAt 26 rfl) (q := 46) rfl rfl (Nat.le_of_ble_eq_true rfl) (fun z5 => ?_)
        refine x_ixor hC (zdk dk_X2_gapAt 27 rfl) (q := 47) rfl ?_
        refine x_istore_n (i := 3) (L' := [.ref r0, .ref r1, .int x2, .int (x3 ^^^ z5.1), .int x4]) (by decide) rfl hC (zdk dk_X2_gapAt 28 rfl) (q := 48) rfl ?_
        refine x_iinc (i := 4) c_iconst_1 rfl (by decide) (L' := [.ref r0, .ref r1, .int x2, .int (x3 ^^^ z5.1), .int (x4 + 1)]) rfl hC (zdk dk_X2_gapAt 29 rfl) (q := 51) rfl ?_
        refine x_goto (tgt := 10) hC (zdk dk_X2_gapAt 30 rfl) rfl ?_
        refine x_weak (L' := [.ref r0, .ref r1, .int x2, .int (x3 ^^^ z5.1), .int (x4 + 1)]) ⟨Or.inr rfl, Or.inr rfl, Or.inr rfl, Or.inr rfl, Or.inr rfl, trivial⟩ ?_
        exact ih _ _ _
set_option maxRecDepth 100000 in
def f_X2_gapAt (r0 : Nat) (r1 : Nat) (x2 : Int32) (M : Mem) : Option (Int32 × Mem) := Option.bind (zrf M r0 0) fun q6 => Option.bind (zld q6 x2) fun k7 => f_X2_gapAt_10 r0 r1 x2 1000000 (zI M q6 k7) 1 M
set_option maxRecDepth 100000 in
set_option maxHeartbeats 4000000 in
theorem x_X2_gapAt {κ : KX} {n : Nat} (hC : CX κ cX2_gapAt RX2 5 (some .int) 1) (hE : zEnd κ n (0, 0)) (hk0 : zRk κ (0, 0)) (r0 : Nat) (r1 : Nat) (x2 : Int32) (M : Mem) (h_r0 : zO n r0 2) (h_r1 : zO n r1 1) : X κ 5 emI n (0, 0) 0 [.ref r0, .ref r1, .int x2, .null, .null] [] M (f_X2_gapAt r0 r1 x2 M) := by
  unfold f_X2_gapAt
  refine x_aload_n (i := 0) rfl hC (zdk dk_X2_gapAt 0 rfl) (q := 1) rfl ?_
  refine x_getR (k := 20) fl_RX2_9 rfl h_r0 hC (zdk dk_X2_gapAt 1 rfl) (q := 4) rfl (fun q6 hq6 => ?_)
  refine x_iload_n (i := 2) rfl hC (zdk dk_X2_gapAt 2 rfl) (q := 5) rfl ?_
  refine x_iald hq6 hC (zdk dk_X2_gapAt 3 rfl) (q := 6) rfl (fun k7 _ => ?_)
  refine x_istore_n (i := 3) (L' := [.ref r0, .ref r1, .int x2, .int (zI M q6 k7), .null]) (by decide) rfl hC (zdk dk_X2_gapAt 4 rfl) (q := 7) rfl ?_
  refine x_iconst (i := 1) c_iconst_1 hC (zdk dk_X2_gapAt 5 rfl) (q := 8) rfl ?_
  refine x_istore (i := 4) (L' := [.ref r0, .ref r1, .int x2, .int (zI M q6 k7), .int 1]) (by decide) rfl hC (zdk dk_X2_gapAt 6 rfl) (q := 10) rfl ?_
  refine x_weak (L' := [.ref r0, .ref r1, .int x2, .int (zI M q6 k7), .int 1]) ⟨Or.inr rfl, Or.inr rfl, Or.inr rfl, Or.inr rfl, Or.inr rfl, trivial⟩ ?_
  exact x_X2_gapAt_10 hC hE hk0 h_r0 h_r1 _ _ _ _
set_option maxRecDepth 100000 in
set_option maxHeartbeats 4000000 in
theorem t_X2_gapAt {n : Nat} {r0 : Nat} {r1 : Nat} {x2 : Int32} {M : Mem} (h_r0 : zO n r0 2) (h_r1 : zO n r1 1) (x : (Int32 × Mem)) (hx : f_X2_gapAt r0 r1 x2 M = some x) (l : Launch) (dC : Nat → ClassId) (dI : Nat → Nat → Nat) (b : zSg) : MT l dC dI b yX2_gapAt cX2_gapAt 5 (some .int) 1 0 0 n n [.ref r0, .ref r1, .int x2] M (emI x).1 (emI x).2 :=
  MT.ofX (by decide +kernel) rfl (Nat.le_of_ble_eq_true rfl) (fun κ hC hF _ => x_X2_gapAt hC (zEnd_of hF (Nat.le_refl _) (Nat.le_refl _)) (zRk_of hF (Nat.le_refl _) (Nat.le_refl _)) _ _ _ _ h_r0 h_r1) x hx
set_option maxRecDepth 100000 in
def dt_X2_findFactors : List (Nat × Instr × Nat) := [(0, .aload_n 0, 1), (1, .getfield 15, 3), (4, .iconst 0, 1), (5, .invokestatic 66, 3), (8, .aload_n 0, 1), (9, .getfield 18, 3), (12, .iconst 0, 1), (13, .invokestatic 66, 3), (16, .aload_n 0, 1), (17, .getfield 15, 3), (20, .iconst 0, 1), (21, .iconst 1, 1), (22, .iastore, 1), (23, .aload_n 0, 1), (24, .getfield 18, 3), (27, .iconst 0, 1), (28, .iconst 1, 1), (29, .iastore, 1), (30, .aload_n 0, 1), (31, .iconst 0, 1), (32, .putfield 56, 3), (35, .iconst 1, 1), (36, .istore_n 2, 1), (37, .iconst 1, 1), (38, .istore_n 3, 1), (39, .iconst 1, 1), (40, .istore 4, 2), (42, .iload 4, 2), (44, .iconst 2, 1), (45, .aload_n 1, 1), (46, .getfield 38, 3), (49, .imul, 1), (50, .if_icmp .gt 132, 3), (53, .aload_n 0, 1), (54, .aload_n 1, 1), (55, .iload 4, 2), (57, .invokevirtual 72, 3), (60, .istore 5, 2), (62, .iload 5, 2), (64, .ifCond .ne 9, 3), (67, .iinc 2 1, 3), (70, .goto 106, 3), (73, .iconst 2, 1), (74, .aload_n 0, 1), (75, .getfield 56, 3), (78, .imul, 1), (79, .iload 4, 2), (81, .if_icmp .ge 75, 3), (84, .aload_n 0, 1), (85, .getfield 15, 3), (88, .iconst 0, 1), (89, .aload_n 0, 1), (90, .getfield 21, 3), (93, .iconst 0, 1), (94, .aload_n 0, 1), (95, .getfield 21, 3), (98, .arraylength, 1), (99, .invokestatic 76, 3), (102, .aload_n 0, 1), (103, .aload_n 1, 1), (104, .aload_n 1, 1), (105, .iload 5, 2), (107, .aload_n 1, 1), (108, .iload_n 3, 1), (109, .invokevirtual 82, 3), (112, .invokevirtual 48, 3), (115, .iload_n 2, 1), (116, .invokevirtual 86, 3), (119, .aload_n 0, 1), (120, .getfield 21, 3), (123, .iconst 0, 1), (124, .aload_n 0, 1), (125, .getfield 18, 3), (128, .iconst 0, 1), (129, .aload_n 0, 1), (130, .getfield 18, 3), (133, .arraylength, 1), (134, .invokestatic 76, 3), (137, .aload_n 0, 1), (138, .iload 4, 2), (140, .aload_n 0, 1), (141, .getfield 56, 3), (144, .isub, 1), (145, .putfield 56, 3), (148, .iload 5, 2), (150, .istore_n 3, 1), (151, .iconst 1, 1), (152, .istore_n 2, 1), (153, .goto 23, 3), (156, .aload_n 0, 1), (157, .aload_n 1, 1), (158, .aload_n 1, 1), (159, .iload 5, 2), (161, .aload_n 1, 1), (162, .iload_n 3, 1), (163, .invokevirtual 82, 3), (166, .invokevirtual 48, 3), (169, .iload_n 2, 1), (170, .invokevirtual 86, 3), (173, .iinc 2 1, 3), (176, .iinc 4 1, 3), (179, .goto (-137), 3), (182, .return_, 1)]
set_option maxRecDepth 100000 in
theorem dk_X2_findFactors : dt_X2_findFactors.all (fun q => decide (decode cX2_findFactors q.1 = .ok q.2)) = true := by decide +kernel
set_option maxRecDepth 100000 in
def f_X2_findFactors_176 (k42 : Int32 → Int32 → Int32 → Mem → Option Mem) (r0 : Nat) (r1 : Nat) (x2 : Int32) (x3 : Int32) (x4 : Int32) (M : Mem) : Option Mem := k42 x2 x3 (x4 + 1) M
set_option maxRecDepth 100000 in
set_option maxHeartbeats 4000000 in
theorem x_X2_findFactors_176 {κ : KX} {n : Nat} (hC : CX κ cX2_findFactors RX2 6 none 2) (hE : zEnd κ n (0, 0)) (hk0 : zRk κ (0, 0)) {r0 : Nat} {r1 : Nat} (h_r0 : zO n r0 2) (h_r1 : zO n r1 1) (k42 : Int32 → Int32 → Int32 → Mem → Option Mem) (hk42 : ∀ (x2 : Int32) (x3 : Int32) (x4 : Int32) (M : Mem), X κ 6 emV n (0, 0) 42 [.ref r0, .ref r1, .int x2, .int x3, .int x4, .null] [] M (k42 x2 x3 x4 M)) (x2 : Int32) (x3 : Int32) (x4 : Int32) (M : Mem) : X κ 6 emV n (0, 0) 176 [.ref r0, .ref r1, .int x2, .int x3, .int x4, .null] [] M (f_X2_findFactors_176 k42 r0 r1 x2 x3 x4 M) := by
  unfold f_X2_findFactors_176
  refine x_iinc (i := 4) c_iconst_1 rfl (by decide) (L' := [.ref r0, .ref r1, .int x2, .int x3, .int (x4 + 1), .null]) rfl hC (zdk dk_X2_findFactors 100 rfl) (q := 179) rfl ?_
  refine x_goto (tgt := 42) hC (zdk dk_X2_findFactors 101 rfl) rfl ?_
  refine x_weak (L' := [.ref r0, .ref r1, .int x2, .int x3, .int (x4 + 1), .null]) ⟨Or.inr rfl, Or.inr rfl, Or.inr rfl, Or.inr rfl, Or.inr rfl, Or.inl rfl, trivial⟩ ?_
  exact hk42 _ _ _ _
set_option maxRecDepth 100000 in
def f_X2_findFactors_42  (r0 : Nat) (r1 : Nat) : Nat → Int32 → Int32 → Int32 → Mem → Option Mem
  | 0, _, _, _, _ => none
  | f + 1, x2, x3, x4, M => (if 2 * (zI M r1 8) < x4 then some M else Option.bind (f_X2_gapAt r0 r1 x4 M) fun z1 => (if z1.1 = 0 then f_X2_findFactors_176 (f_X2_findFactors_42 r0 r1 f) r0 r1 (x2 + 1) x3 x4 z1.2 else (if x4 ≤ 2 * (zI z1.2 r0 8) then Option.bind (f_X1_inverse r1 x3 z1.2) fun z2 => Option.bind (f_X1_product r1 z1.1 z2.1 z2.2) fun z3 => Option.bind (f_X2_correct r0 r1 z3.1 x2 z3.2) fun M4 => f_X2_findFactors_176 (f_X2_findFactors_42 r0 r1 f) r0 r1 (x2 + 1) x3 x4 M4 else Option.bind (zrf z1.2 r0 1) fun q5 => Option.bind (zrf z1.2 r0 3) fun q6 => Option.bind (zrf z1.2 r0 3) fun q7 => Option.bind (zcopy z1.2 q5 0 q6 0 (zlen q7)) fun M8 => Option.bind (f_X1_inverse r1 x3 M8) fun z9 => Option.bind (f_X1_product r1 z1.1 z9.1 z9.2) fun z10 => Option.bind (f_X2_correct r0 r1 z10.1 x2 z10.2) fun M11 => Option.bind (zrf M11 r0 3) fun q12 => Option.bind (zrf M11 r0 2) fun q13 => Option.bind (zrf M11 r0 2) fun q14 => Option.bind (zcopy M11 q12 0 q13 0 (zlen q14)) fun M15 => Option.bind (some (zsI M15 r0 8 (x4 - (zI M15 r0 8)))) fun M16 => f_X2_findFactors_176 (f_X2_findFactors_42 r0 r1 f) r0 r1 1 z1.1 x4 M16)))
set_option maxRecDepth 100000 in
set_option maxHeartbeats 4000000 in
theorem x_X2_findFactors_42 {κ : KX} {n : Nat} (hC : CX κ cX2_findFactors RX2 6 none 2) (hE : zEnd κ n (0, 0)) (hk0 : zRk κ (0, 0)) {r0 : Nat} {r1 : Nat} (h_r0 : zO n r0 2) (h_r1 : zO n r1 1) : ∀ (f : Nat) (x2 : Int32) (x3 : Int32) (x4 : Int32) (M : Mem), X κ 6 emV n (0, 0) 42 [.ref r0, .ref r1, .int x2, .int x3, .int x4, .null] [] M (f_X2_findFactors_42 r0 r1 f x2 x3 x4 M) := by
  intro f
  induction f with
  | zero => intros; exact x_none
  | succ f ih =>
    intro x2 x3 x4 M 
    rw [f_X2_findFactors_42]
    refine x_iload (i := 4) rfl hC (zdk dk_X2_findFactors 27 rfl) (q := 44) rfl ?_
    refine x_iconst (i := 2) c_iconst_2 hC (zdk dk_X2_findFactors 28 rfl) (q := 45) rfl ?_
    refine x_aload_n (i := 1) rfl hC (zdk dk_X2_findFactors 29 rfl) (q := 46) rfl ?_
    refine x_getI fl_RX2_38 (by decide) h_r1 hC (zdk dk_X2_findFactors 30 rfl) (q := 49) rfl ?_
    refine x_imul hC (zdk dk_X2_findFactors 31 rfl) (q := 50) rfl ?_
    refine x_icmp_gt (tgt := 182) hC (zdk dk_X2_findFactors 32 rfl) (q := 53) rfl rfl (fun _ => ?_) (fun _ => ?_)
    · exact x_vret hE hC (zdk dk_X2_findFactors 102 rfl)
    · refine x_aload_n (i := 0) rfl hC (zdk dk_X2_findFactors 33 rfl) (q := 54) rfl ?_
      refine x_aload_n (i := 1) rfl hC (zdk dk_X2_findFactors 34 rfl) (q := 55) rfl ?_
      refine x_iload (i := 4) rfl hC (zdk dk_X2_findFactors 35 rfl) (q := 57) rfl ?_
      refine x_callVi (as := [.ref r1, .int x4]) cb_RX2_72 rfl (by decide) hk0 h_r0 (fun x hx => t_X2_gapAt h_r0 h_r1 x hx) hC (zdk dk_X2_findFactors 36 rfl) (q := 60) rfl rfl (Nat.le_of_ble_eq_true rfl) (fun z1 => ?_)
      refine x_istore (i := 5) (L' := [.ref r0, .ref r1, .int x2, .int x3, .int x4, .int z1.1]) (by decide) rfl hC (zdk dk_X2_findFactors 37 rfl) (q := 62) rfl ?_
      refine x_iload (i := 5) rfl hC (zdk dk_X2_findFactors 38 rfl) (q := 64) rfl ?_
      refine x_if_ne (tgt := 73) hC (zdk dk_X2_findFactors 39 rfl) (q := 67) rfl rfl (fun _ => ?_) (fun _ => ?_)
      · refine x_iconst (i := 2) c_iconst_2 hC (zdk dk_X2_findFactors 42 rfl) (q := 74) rfl ?_
        refine x_aload_n (i := 0) rfl hC (zdk dk_X2_findFactors 43 rfl) (q := 75) rfl ?_
        refine x_getI fl_RX2_56 (by decide) h_r0 hC (zdk dk_X2_findFactors 44 rfl) (q := 78) rfl ?_
        refine x_imul hC (zdk dk_X2_findFactors 45 rfl) (q := 79) rfl ?_
        refine x_iload (i := 4) rfl hC (zdk dk_X2_findFactors 46 rfl) (q := 81) rfl ?_
        refine x_icmp_ge (tgt := 156) hC (zdk dk_X2_findFactors 47 rfl) (q := 84) rfl rfl (fun _ => ?_) (fun _ => ?_)
        · refine x_aload_n (i := 0) rfl hC (zdk dk_X2_findFactors 89 rfl) (q := 157) rfl ?_
          refine x_aload_n (i := 1) rfl hC (zdk dk_X2_findFactors 90 rfl) (q := 158) rfl ?_
          refine x_aload_n (i := 1) rfl hC (zdk dk_X2_findFactors 91 rfl) (q := 159) rfl ?_
          refine x_iload (i := 5) rfl hC (zdk dk_X2_findFactors 92 rfl) (q := 161) rfl ?_
          refine x_aload_n (i := 1) rfl hC (zdk dk_X2_findFactors 93 rfl) (q := 162) rfl ?_
          refine x_iload_n (i := 3) rfl hC (zdk dk_X2_findFactors 94 rfl) (q := 163) rfl ?_
          refine x_callVi (as := [.int x3]) cb_RX2_82 rfl (by decide) hk0 h_r1 (fun x hx => t_X1_inverse h_r1 x hx) hC (zdk dk_X2_findFactors 95 rfl) (q := 166) rfl rfl (Nat.le_of_ble_eq_true rfl) (fun z2 => ?_)
          refine x_callVi (as := [.int z1.1, .int z2.1]) cb_RX2_48 rfl (by decide) hk0 h_r1 (fun x hx => t_X1_product h_r1 x hx) hC (zdk dk_X2_findFactors 96 rfl) (q := 169) rfl rfl (Nat.le_of_ble_eq_true rfl) (fun z3 => ?_)
          refine x_iload_n (i := 2) rfl hC (zdk dk_X2_findFactors 97 rfl) (q := 170) rfl ?_
          refine x_callVv (as := [.ref r1, .int z3.1, .int x2]) cb_RX2_86 rfl (by decide) hk0 h_r0 (fun x hx => t_X2_correct h_r0 h_r1 x hx) hC (zdk dk_X2_findFactors 98 rfl) (q := 173) rfl rfl (Nat.le_of_ble_eq_true rfl) (fun M4 => ?_)
          refine x_iinc (i := 2) c_iconst_1 rfl (by decide) (L' := [.ref r0, .ref r1, .int (x2 + 1), .int x3, .int x4, .int z1.1]) rfl hC (zdk dk_X2_findFactors 99 rfl) (q := 176) rfl ?_
          refine x_weak (L' := [.ref r0, .ref r1, .int (x2 + 1), .int x3, .int x4, .null]) ⟨Or.inr rfl, Or.inr rfl, Or.inr rfl, Or.inr rfl, Or.inr rfl, Or.inl rfl, trivial⟩ ?_
          exact x_X2_findFactors_176 hC hE hk0 h_r0 h_r1 (f_X2_findFactors_42 r0 r1 f) ih _ _ _ _
        · refine x_aload_n (i := 0) rfl hC (zdk dk_X2_findFactors 48 rfl) (q := 85) rfl ?_
          refine x_getR (k := 20) fl_RX2_15 rfl h_r0 hC (zdk dk_X2_findFactors 49 rfl) (q := 88) rfl (fun q5 hq5 => ?_)
          refine x_iconst (i := 0) c_iconst_0 hC (zdk dk_X2_findFactors 50 rfl) (q := 89) rfl ?_
          refine x_aload_n (i := 0) rfl hC (zdk dk_X2_findFactors 51 rfl) (q := 90) rfl ?_
          refine x_getR (k := 20) fl_RX2_21 rfl h_r0 hC (zdk dk_X2_findFactors 52 rfl) (q := 93) rfl (fun q6 hq6 => ?_)
          refine x_iconst (i := 0) c_iconst_0 hC (zdk dk_X2_findFactors 53 rfl) (q := 94) rfl ?_
          refine x_aload_n (i := 0) rfl hC (zdk dk_X2_findFactors 54 rfl) (q := 95) rfl ?_
          refine x_getR (k := 20) fl_RX2_21 rfl h_r0 hC (zdk dk_X2_findFactors 55 rfl) (q := 98) rfl (fun q7 hq7 => ?_)
          refine x_alen hq7 (by decide) hC (zdk dk_X2_findFactors 56 rfl) (q := 99) rfl ?_
          refine x_acopy ac_RX2_76 hq5 hq6 hC (zdk dk_X2_findFactors 57 rfl) (q := 102) rfl (Nat.le_of_ble_eq_true rfl) (fun M8 => ?_)
          refine x_aload_n (i := 0) rfl hC (zdk dk_X2_findFactors 58 rfl) (q := 103) rfl ?_
          refine x_aload_n (i := 1) rfl hC (zdk dk_X2_findFactors 59 rfl) (q := 104) rfl ?_
          refine x_aload_n (i := 1) rfl hC (zdk dk_X2_findFactors 60 rfl) (q := 105) rfl ?_
          refine x_iload (i := 5) rfl hC (zdk dk_X2_findFactors 61 rfl) (q := 107) rfl ?_
          refine x_aload_n (i := 1) rfl hC (zdk dk_X2_findFactors 62 rfl) (q := 108) rfl ?_
          refine x_iload_n (i := 3) rfl hC (zdk dk_X2_findFactors 63 rfl) (q := 109) rfl ?_
          refine x_callVi (as := [.int x3]) cb_RX2_82 rfl (by decide) hk0 h_r1 (fun x hx => t_X1_inverse h_r1 x hx) hC (zdk dk_X2_findFactors 64 rfl) (q := 112) rfl rfl (Nat.le_of_ble_eq_true rfl) (fun z9 => ?_)
          refine x_callVi (as := [.int z1.1, .int z9.1]) cb_RX2_48 rfl (by decide) hk0 h_r1 (fun x hx => t_X1_product h_r1 x hx) hC (zdk dk_X2_findFactors 65 rfl) (q := 115) rfl rfl (Nat.le_of_ble_eq_true rfl) (fun z10 => ?_)
          refine x_iload_n (i := 2) rfl hC (zdk dk_X2_findFactors 66 rfl) (q := 116) rfl ?_
          refine x_callVv (as := [.ref r1, .int z10.1, .int x2]) cb_RX2_86 rfl (by decide) hk0 h_r0 (fun x hx => t_X2_correct h_r0 h_r1 x hx) hC (zdk dk_X2_findFactors 67 rfl) (q := 119) rfl rfl (Nat.le_of_ble_eq_true rfl) (fun M11 => ?_)
          refine x_aload_n (i := 0) rfl hC (zdk dk_X2_findFactors 68 rfl) (q := 120) rfl ?_
          refine x_getR (k := 20) fl_RX2_21 rfl h_r0 hC (zdk dk_X2_findFactors 69 rfl) (q := 123) rfl (fun q12 hq12 => ?_)
          refine x_iconst (i := 0) c_iconst_0 hC (zdk dk_X2_findFactors 70 rfl) (q := 124) rfl ?_
          refine x_aload_n (i := 0) rfl hC (zdk dk_X2_findFactors 71 rfl) (q := 125) rfl ?_
          refine x_getR (k := 20) fl_RX2_18 rfl h_r0 hC (zdk dk_X2_findFactors 72 rfl) (q := 128) rfl (fun q13 hq13 => ?_)
          refine x_iconst (i := 0) c_iconst_0 hC (zdk dk_X2_findFactors 73 rfl) (q := 129) rfl ?_
          refine x_aload_n (i := 0) rfl hC (zdk dk_X2_findFactors 74 rfl) (q := 130) rfl ?_
          refine x_getR (k := 20) fl_RX2_18 rfl h_r0 hC (zdk dk_X2_findFactors 75 rfl) (q := 133) rfl (fun q14 hq14 => ?_)
          refine x_alen hq14 (by decide) hC (zdk dk_X2_findFactors 76 rfl) (q := 134) rfl ?_
          refine x_acopy ac_RX2_76 hq12 hq13 hC (zdk dk_X2_findFactors 77 rfl) (q := 137) rfl (Nat.le_of_ble_eq_true rfl) (fun M15 => ?_)
          refine x_aload_n (i := 0) rfl hC (zdk dk_X2_findFactors 78 rfl) (q := 138) rfl ?_
          refine x_iload (i := 4) rfl hC (zdk dk_X2_findFactors 79 rfl) (q := 140) rfl ?_
          refine x_aload_n (i := 0) rfl hC (zdk dk_X2_findFactors 80 rfl) (q := 141) rfl ?_
          refine x_getI fl_RX2_56 (by decide) h_r0 hC (zdk dk_X2_findFactors 81 rfl) (q := 144) rfl ?_
          refine x_isub hC (zdk dk_X2_findFactors 82 rfl) (q := 145) rfl ?_
          refine x_putI fl_RX2_56 ⟨rfl, rfl⟩ (by decide) (Or.inl rfl) h_r0 hC (zdk dk_X2_findFactors 83 rfl) (q := 148) rfl ?_
          refine x_nmM (fun M16 => ?_)
          refine x_iload (i := 5) rfl hC (zdk dk_X2_findFactors 84 rfl) (q := 150) rfl ?_
          refine x_istore_n (i := 3) (L' := [.ref r0, .ref r1, .int x2, .int z1.1, .int x4, .int z1.1]) (by decide) rfl hC (zdk dk_X2_findFactors 85 rfl) (q := 151) rfl ?_
          refine x_iconst (i := 1) c_iconst_1 hC (zdk dk_X2_findFactors 86 rfl) (q := 152) rfl ?_
          refine x_istore_n (i := 2) (L' := [.ref r0, .ref r1, .int 1, .int z1.1, .int x4, .int z1.1]) (by decide) rfl hC (zdk dk_X2_findFactors 87 rfl) (q := 153) rfl ?_
          refine x_goto (tgt := 176) hC (zdk dk_X2_findFactors 88 rfl) rfl ?_
          refine x_weak (L' := [.ref r0, .ref r1, .int 1, .int z1.1, .int x4, .null]) ⟨Or.inr rfl, Or.inr rfl, Or.inr rfl, Or.inr rfl, Or.inr rfl, Or.inl rfl, trivial⟩ ?_
          exact x_X2_findFactors_176 hC hE hk0 h_r0 h_r1 (f_X2_findFactors_42 r0 r1 f) ih _ _ _ _
      · refine x_iinc (i := 2) c_iconst_1 rfl (by decide) (L' := [.ref r0, .ref r1, .int (x2 + 1), .int x3, .int x4, .int z1.1]) rfl hC (zdk dk_X2_findFactors 40 rfl) (q := 70) rfl ?_
        refine x_goto (tgt := 176) hC (zdk dk_X2_findFactors 41 rfl) rfl ?_
        refine x_weak (L' := [.ref r0, .ref r1, .int (x2 + 1), .int x3, .int x4, .null]) ⟨Or.inr rfl, Or.inr rfl, Or.inr rfl, Or.inr rfl, Or.inr rfl, Or.inl rfl, trivial⟩ ?_
        exact x_X2_findFactors_176 hC hE hk0 h_r0 h_r1 (f_X2_findFactors_42 r0 r1 f) ih _ _ _ _
set_option maxRecDepth 100000 in
def f_X2_findFactors (r0 : Nat) (r1 : Nat) (M : Mem) : Option Mem := Option.bind (zrf M r0 1) fun q17 => Option.bind (f_J7_fill_53178 q17 0 M) fun M18 => Option.bind (zrf M18 r0 2) fun q19 => Option.bind (f_J7_fill_53178 q19 0 M18) fun M20 => Option.bind (zrf M20 r0 1) fun q21 => Option.bind (zld q21 0) fun k22 => Option.bind (some (zsI M20 q21 k22 1)) fun M23 => Option.bind (zrf M23 r0 2) fun q24 => Option.bind (zld q24 0) fun k25 => Option.bind (some (zsI M23 q24 k25 1)) fun M26 => Option.bind (some (zsI M26 r0 8 0)) fun M27 => f_X2_findFactors_42 r0 r1 1000000 1 1 1 M27
set_option maxRecDepth 100000 in
set_option maxHeartbeats 4000000 in
theorem x_X2_findFactors {κ : KX} {n : Nat} (hC : CX κ cX2_findFactors RX2 6 none 2) (hE : zEnd κ n (0, 0)) (hk0 : zRk κ (0, 0)) (r0 : Nat) (r1 : Nat) (M : Mem) (h_r0 : zO n r0 2) (h_r1 : zO n r1 1) : X κ 6 emV n (0, 0) 0 [.ref r0, .ref r1, .null, .null, .null, .null] [] M (f_X2_findFactors r0 r1 M) := by
  unfold f_X2_findFactors
  refine x_aload_n (i := 0) rfl hC (zdk dk_X2_findFactors 0 rfl) (q := 1) rfl ?_
  refine x_getR (k := 20) fl_RX2_15 rfl h_r0 hC (zdk dk_X2_findFactors 1 rfl) (q := 4) rfl (fun q17 hq17 => ?_)
  refine x_iconst (i := 0) c_iconst_0 hC (zdk dk_X2_findFactors 2 rfl) (q := 5) rfl ?_
  refine x_callSv (as := [.ref q17, .int 0]) cb_RX2_66 rfl (by decide) hk0 (fun x hx => t_J7_fill_53178 hq17 x hx) hC (zdk dk_X2_findFactors 3 rfl) (q := 8) rfl rfl (Nat.le_of_ble_eq_true rfl) (fun M18 => ?_)
  refine x_aload_n (i := 0) rfl hC (zdk dk_X2_findFactors 4 rfl) (q := 9) rfl ?_
  refine x_getR (k := 20) fl_RX2_18 rfl h_r0 hC (zdk dk_X2_findFactors 5 rfl) (q := 12) rfl (fun q19 hq19 => ?_)
  refine x_iconst (i := 0) c_iconst_0 hC (zdk dk_X2_findFactors 6 rfl) (q := 13) rfl ?_
  refine x_callSv (as := [.ref q19, .int 0]) cb_RX2_66 rfl (by decide) hk0 (fun x hx => t_J7_fill_53178 hq19 x hx) hC (zdk dk_X2_findFactors 7 rfl) (q := 16) rfl rfl (Nat.le_of_ble_eq_true rfl) (fun M20 => ?_)
  refine x_aload_n (i := 0) rfl hC (zdk dk_X2_findFactors 8 rfl) (q := 17) rfl ?_
  refine x_getR (k := 20) fl_RX2_15 rfl h_r0 hC (zdk dk_X2_findFactors 9 rfl) (q := 20) rfl (fun q21 hq21 => ?_)
  refine x_iconst (i := 0) c_iconst_0 hC (zdk dk_X2_findFactors 10 rfl) (q := 21) rfl ?_
  refine x_iconst (i := 1) c_iconst_1 hC (zdk dk_X2_findFactors 11 rfl) (q := 22) rfl ?_
  refine x_iast hq21 hC (zdk dk_X2_findFactors 12 rfl) (q := 23) rfl (fun k22 _ => ?_)
  refine x_nmM (fun M23 => ?_)
  refine x_aload_n (i := 0) rfl hC (zdk dk_X2_findFactors 13 rfl) (q := 24) rfl ?_
  refine x_getR (k := 20) fl_RX2_18 rfl h_r0 hC (zdk dk_X2_findFactors 14 rfl) (q := 27) rfl (fun q24 hq24 => ?_)
  refine x_iconst (i := 0) c_iconst_0 hC (zdk dk_X2_findFactors 15 rfl) (q := 28) rfl ?_
  refine x_iconst (i := 1) c_iconst_1 hC (zdk dk_X2_findFactors 16 rfl) (q := 29) rfl ?_
  refine x_iast hq24 hC (zdk dk_X2_findFactors 17 rfl) (q := 30) rfl (fun k25 _ => ?_)
  refine x_nmM (fun M26 => ?_)
  refine x_aload_n (i := 0) rfl hC (zdk dk_X2_findFactors 18 rfl) (q := 31) rfl ?_
  refine x_iconst (i := 0) c_iconst_0 hC (zdk dk_X2_findFactors 19 rfl) (q := 32) rfl ?_
  refine x_putI fl_RX2_56 ⟨rfl, rfl⟩ (by decide) (Or.inl rfl) h_r0 hC (zdk dk_X2_findFactors 20 rfl) (q := 35) rfl ?_
  refine x_nmM (fun M27 => ?_)
  refine x_iconst (i := 1) c_iconst_1 hC (zdk dk_X2_findFactors 21 rfl) (q := 36) rfl ?_
  refine x_istore_n (i := 2) (L' := [.ref r0, .ref r1, .int 1, .null, .null, .null]) (by decide) rfl hC (zdk dk_X2_findFactors 22 rfl) (q := 37) rfl ?_
  refine x_iconst (i := 1) c_iconst_1 hC (zdk dk_X2_findFactors 23 rfl) (q := 38) rfl ?_
  refine x_istore_n (i := 3) (L' := [.ref r0, .ref r1, .int 1, .int 1, .null, .null]) (by decide) rfl hC (zdk dk_X2_findFactors 24 rfl) (q := 39) rfl ?_
  refine x_iconst (i := 1) c_iconst_1 hC (zdk dk_X2_findFactors 25 rfl) (q := 40) rfl ?_
  refine x_istore (i := 4) (L' := [.ref r0, .ref r1, .int 1, .int 1, .int 1, .null]) (by decide) rfl hC (zdk dk_X2_findFactors 26 rfl) (q := 42) rfl ?_
  refine x_weak (L' := [.ref r0, .ref r1, .int 1, .int 1, .int 1, .null]) ⟨Or.inr rfl, Or.inr rfl, Or.inr rfl, Or.inr rfl, Or.inr rfl, Or.inl rfl, trivial⟩ ?_
  exact x_X2_findFactors_42 hC hE hk0 h_r0 h_r1 _ _ _ _ _
set_option maxRecDepth 100000 in
set_option maxHeartbeats 4000000 in
theorem t_X2_findFactors {n : Nat} {r0 : Nat} {r1 : Nat} {M : Mem} (h_r0 : zO n r0 2) (h_r1 : zO n r1 1) (x : Mem) (hx : f_X2_findFactors r0 r1 M = some x) (l : Launch) (dC : Nat → ClassId) (dI : Nat → Nat → Nat) (b : zSg) : MT l dC dI b yX2_findFactors cX2_findFactors 6 none 2 0 0 n n [.ref r0, .ref r1] M (emV x).1 (emV x).2 :=
  MT.ofX (by decide +kernel) rfl (Nat.le_of_ble_eq_true rfl) (fun κ hC hF _ => x_X2_findFactors hC (zEnd_of hF (Nat.le_refl _) (Nat.le_refl _)) (zRk_of hF (Nat.le_refl _) (Nat.le_refl _)) _ _ _ h_r0 h_r1) x hx
set_option maxRecDepth 100000 in
def dt_X2_isRoot : List (Nat × Instr × Nat) := [(0, .iload_n 2, 1), (1, .ifCond .ne 7, 3), (4, .iconst 0, 1), (5, .goto 9, 3), (8, .aload_n 1, 1), (9, .getfield 90, 3), (12, .iload_n 2, 1), (13, .isub, 1), (14, .istore_n 3, 1), (15, .iconst 0, 1), (16, .istore 4, 2), (18, .iconst 0, 1), (19, .istore 5, 2), (21, .iconst 1, 1), (22, .istore 6, 2), (24, .iload 6, 2), (26, .aload_n 0, 1), (27, .getfield 56, 3), (30, .if_icmp .gt 56, 3), (33, .iload 4, 2), (35, .iload_n 3, 1), (36, .iadd, 1), (37, .istore 4, 2), (39, .iload 4, 2), (41, .aload_n 1, 1), (42, .getfield 90, 3), (45, .if_icmp .lt 12, 3), (48, .iload 4, 2), (50, .aload_n 1, 1), (51, .getfield 90, 3), (54, .isub, 1), (55, .istore 4, 2), (57, .iload 5, 2), (59, .aload_n 1, 1), (60, .aload_n 0, 1), (61, .getfield 15, 3), (64, .iload 6, 2), (66, .iaload, 1), (67, .aload_n 1, 1), (68, .getfield 100, 3), (71, .iload 4, 2), (73, .iaload, 1), (74, .invokevirtual 48, 3), (77, .ixor, 1), (78, .istore 5, 2), (80, .iinc 6 1, 3), (83, .goto (-59), 3), (86, .iload 5, 2), (88, .iconst 1, 1), (89, .if_icmp .ne 7, 3), (92, .iconst 1, 1), (93, .goto 4, 3), (96, .iconst 0, 1), (97, .ireturn, 1)]
set_option maxRecDepth 100000 in
theorem dk_X2_isRoot : dt_X2_isRoot.all (fun q => decide (decode cX2_isRoot q.1 = .ok q.2)) = true := by decide +kernel
set_option maxRecDepth 100000 in
def f_X2_isRoot_57 (k24 : Int32 → Int32 → Int32 → Int32 → Mem → Option (Int32 × Mem)) (r0 : Nat) (r1 : Nat) (x2 : Int32) (x3 : Int32) (x4 : Int32) (x5 : Int32) (x6 : Int32) (M : Mem) : Option (Int32 × Mem) := Option.bind (zrf M r0 1) fun q1 => Option.bind (zld q1 x6) fun k2 => Option.bind (zrf M r1 0) fun q3 => Option.bind (zld q3 x4) fun k4 => Option.bind (f_X1_product r1 (zI M q1 k2) (zI M q3 k4) M) fun z5 => k24 x3 x4 (x5 ^^^ z5.1) (x6 + 1) z5.2
set_option maxRecDepth 100000 in
set_option maxHeartbeats 4000000 in
theorem x_X2_isRoot_57 {κ : KX} {n : Nat} (hC : CX κ cX2_isRoot RX2 7 (some .boolean) 1) (hE : zEnd κ n (0, 0)) (hk0 : zRk κ (0, 0)) {r0 : Nat} {r1 : Nat} {x2 : Int32} (h_r0 : zO n r0 2) (h_r1 : zO n r1 1) (k24 : Int32 → Int32 → Int32 → Int32 → Mem → Option (Int32 × Mem)) (hk24 : ∀ (x3 : Int32) (x4 : Int32) (x5 : Int32) (x6 : Int32) (M : Mem), X κ 7 emI n (0, 0) 24 [.ref r0, .ref r1, .null, .int x3, .int x4, .int x5, .int x6] [] M (k24 x3 x4 x5 x6 M)) (x3 : Int32) (x4 : Int32) (x5 : Int32) (x6 : Int32) (M : Mem) : X κ 7 emI n (0, 0) 57 [.ref r0, .ref r1, .null, .int x3, .int x4, .int x5, .int x6] [] M (f_X2_isRoot_57 k24 r0 r1 x2 x3 x4 x5 x6 M) := by
  unfold f_X2_isRoot_57
  refine x_iload (i := 5) rfl hC (zdk dk_X2_isRoot 32 rfl) (q := 59) rfl ?_
  refine x_aload_n (i := 1) rfl hC (zdk dk_X2_isRoot 33 rfl) (q := 60) rfl ?_
  refine x_aload_n (i := 0) rfl hC (zdk dk_X2_isRoot 34 rfl) (q := 61) rfl ?_
  refine x_getR (k := 20) fl_RX2_15 rfl h_r0 hC (zdk dk_X2_isRoot 35 rfl) (q := 64) rfl (fun q1 hq1 => ?_)
  refine x_iload (i := 6) rfl hC (zdk dk_X2_isRoot 36 rfl) (q := 66) rfl ?_
  refine x_iald hq1 hC (zdk dk_X2_isRoot 37 rfl) (q := 67) rfl (fun k2 _ => ?_)
  refine x_aload_n (i := 1) rfl hC (zdk dk_X2_isRoot 38 rfl) (q := 68) rfl ?_
  refine x_getR (k := 20) fl_RX2_100 rfl h_r1 hC (zdk dk_X2_isRoot 39 rfl) (q := 71) rfl (fun q3 hq3 => ?_)
  refine x_iload (i := 4) rfl hC (zdk dk_X2_isRoot 40 rfl) (q := 73) rfl ?_
  refine x_iald hq3 hC (zdk dk_X2_isRoot 41 rfl) (q := 74) rfl (fun k4 _ => ?_)
  refine x_callVi (as := [.int (zI M q1 k2), .int (zI M q3 k4)]) cb_RX2_48 rfl (by decide) hk0 h_r1 (fun x hx => t_X1_product h_r1 x hx) hC (zdk dk_X2_isRoot 42 rfl) (q := 77) rfl rfl (Nat.le_of_ble_eq_true rfl) (fun z5 => ?_)
  refine x_ixor hC (zdk dk_X2_isRoot 43 rfl) (q := 78) rfl ?_
  refine x_istore (i := 5) (L' := [.ref r0, .ref r1, .null, .int x3, .int x4, .int (x5 ^^^ z5.1), .int x6]) (by decide) rfl hC (zdk dk_X2_isRoot 44 rfl) (q := 80) rfl ?_
  refine x_iinc (i := 6) c_iconst_1 rfl (by decide) (L' := [.ref r0, .ref r1, .null, .int x3, .int x4, .int (x5 ^^^ z5.1), .int (x6 + 1)]) rfl hC (zdk dk_X2_isRoot 45 rfl) (q := 83) rfl ?_
  refine x_goto (tgt := 24) hC (zdk dk_X2_isRoot 46 rfl) rfl ?_
  refine x_weak (L' := [.ref r0, .ref r1, .null, .int x3, .int x4, .int (x5 ^^^ z5.1), .int (x6 + 1)]) ⟨Or.inr rfl, Or.inr rfl, Or.inl rfl, Or.inr rfl, Or.inr rfl, Or.inr rfl, Or.inr rfl, trivial⟩ ?_
  exact hk24 _ _ _ _ _
set_option maxRecDepth 100000 in
def f_X2_isRoot_97  (r0 : Nat) (r1 : Nat) (x2 : Int32) (s0 : Int32) (M : Mem) : Option (Int32 × Mem) := zbz s0 (some (s0, M))
set_option maxRecDepth 100000 in
set_option maxHeartbeats 4000000 in
theorem x_X2_isRoot_97 {κ : KX} {n : Nat} (hC : CX κ cX2_isRoot RX2 7 (some .boolean) 1) (hE : zEnd κ n (0, 0)) (hk0 : zRk κ (0, 0)) {r0 : Nat} {r1 : Nat} {x2 : Int32} (h_r0 : zO n r0 2) (h_r1 : zO n r1 1) (s0 : Int32) (M : Mem) : X κ 7 emI n (0, 0) 97 [.null, .null, .null, .null, .null, .null, .null] [.int s0] M (f_X2_isRoot_97 r0 r1 x2 s0 M) := by
  unfold f_X2_isRoot_97
  refine x_bz (fun hb6 => ?_)
  exact x_iret (ty := .boolean) hb6.1 hE hC (zdk dk_X2_isRoot 53 rfl)
set_option maxRecDepth 100000 in
def f_X2_isRoot_24  (r0 : Nat) (r1 : Nat) (x2 : Int32) : Nat → Int32 → Int32 → Int32 → Int32 → Mem → Option (Int32 × Mem)
  | 0, _, _, _, _, _ => none
  | f + 1, x3, x4, x5, x6, M => (if zI M r0 8 < x6 then (if x5 = 1 then f_X2_isRoot_97 r0 r1 x2 1 M else f_X2_isRoot_97 r0 r1 x2 0 M) else (if x4 + x3 < zI M r1 7 then f_X2_isRoot_57 (f_X2_isRoot_24 r0 r1 x2 f) r0 r1 x2 x3 (x4 + x3) x5 x6 M else f_X2_isRoot_57 (f_X2_isRoot_24 r0 r1 x2 f) r0 r1 x2 x3 ((x4 + x3) - (zI M r1 7)) x5 x6 M))
set_option maxRecDepth 100000 in
set_option maxHeartbeats 4000000 in
theorem x_X2_isRoot_24 {κ : KX} {n : Nat} (hC : CX κ cX2_isRoot RX2 7 (some .boolean) 1) (hE : zEnd κ n (0, 0)) (hk0 : zRk κ (0, 0)) {r0 : Nat} {r1 : Nat} {x2 : Int32} (h_r0 : zO n r0 2) (h_r1 : zO n r1 1) : ∀ (f : Nat) (x3 : Int32) (x4 : Int32) (x5 : Int32) (x6 : Int32) (M : Mem), X κ 7 emI n (0, 0) 24 [.ref r0, .ref r1, .null, .int x3, .int x4, .int x5, .int x6] [] M (f_X2_isRoot_24 r0 r1 x2 f x3 x4 x5 x6 M) := by
  intro f
  induction f with
  | zero => intros; exact x_none
  | succ f ih =>
    intro x3 x4 x5 x6 M 
    rw [f_X2_isRoot_24]
    refine x_iload (i := 6) rfl hC (zdk dk_X2_isRoot 15 rfl) (q := 26) rfl ?_
    refine x_aload_n (i := 0) rfl hC (zdk dk_X2_isRoot 16 rfl) (q := 27) rfl ?_
    refine x_getI fl_RX2_56 (by decide) h_r0 hC (zdk dk_X2_isRoot 17 rfl) (q := 30) rfl ?_
    refine x_icmp_gt (tgt := 86) hC (zdk dk_X2_isRoot 18 rfl) (q := 33) rfl rfl (fun _ => ?_) (fun _ => ?_)
    · refine x_iload (i := 5) rfl hC (zdk dk_X2_isRoot 47 rfl) (q := 88) rfl ?_
      refine x_iconst (i := 1) c_iconst_1 hC (zdk dk_X2_isRoot 48 rfl) (q := 89) rfl ?_
      refine x_icmp_ne (tgt := 96) hC (zdk dk_X2_isRoot 49 rfl) (q := 92) rfl rfl (fun _ => ?_) (fun _ => ?_)
      · refine x_iconst (i := 0) c_iconst_0 hC (zdk dk_X2_isRoot 52 rfl) (q := 97) rfl ?_
        refine x_weak (L' := [.null, .null, .null, .null, .null, .null, .null]) ⟨Or.inl rfl, Or.inl rfl, Or.inl rfl, Or.inl rfl, Or.inl rfl, Or.inl rfl, Or.inl rfl, trivial⟩ ?_
        exact x_X2_isRoot_97 hC hE hk0 h_r0 h_r1 _ _
      · refine x_iconst (i := 1) c_iconst_1 hC (zdk dk_X2_isRoot 50 rfl) (q := 93) rfl ?_
        refine x_goto (tgt := 97) hC (zdk dk_X2_isRoot 51 rfl) rfl ?_
        refine x_weak (L' := [.null, .null, .null, .null, .null, .null, .null]) ⟨Or.inl rfl, Or.inl rfl, Or.inl rfl, Or.inl rfl, Or.inl rfl, Or.inl rfl, Or.inl rfl, trivial⟩ ?_
        exact x_X2_isRoot_97 hC hE hk0 h_r0 h_r1 _ _
    · refine x_iload (i := 4) rfl hC (zdk dk_X2_isRoot 19 rfl) (q := 35) rfl ?_
      refine x_iload_n (i := 3) rfl hC (zdk dk_X2_isRoot 20 rfl) (q := 36) rfl ?_
      refine x_iadd hC (zdk dk_X2_isRoot 21 rfl) (q := 37) rfl ?_
      refine x_istore (i := 4) (L' := [.ref r0, .ref r1, .null, .int x3, .int (x4 + x3), .int x5, .int x6]) (by decide) rfl hC (zdk dk_X2_isRoot 22 rfl) (q := 39) rfl ?_
      refine x_iload (i := 4) rfl hC (zdk dk_X2_isRoot 23 rfl) (q := 41) rfl ?_
      refine x_aload_n (i := 1) rfl hC (zdk dk_X2_isRoot 24 rfl) (q := 42) rfl ?_
      refine x_getI fl_RX2_90 (by decide) h_r1 hC (zdk dk_X2_isRoot 25 rfl) (q := 45) rfl ?_
      refine x_icmp_lt (tgt := 57) hC (zdk dk_X2_isRoot 26 rfl) (q := 48) rfl rfl (fun _ => ?_) (fun _ => ?_)
      · refine x_weak (L' := [.ref r0, .ref r1, .null, .int x3, .int (x4 + x3), .int x5, .int x6]) ⟨Or.inr rfl, Or.inr rfl, Or.inl rfl, Or.inr rfl, Or.inr rfl, Or.inr rfl, Or.inr rfl, trivial⟩ ?_
        exact x_X2_isRoot_57 hC hE hk0 h_r0 h_r1 (f_X2_isRoot_24 r0 r1 x2 f) ih _ _ _ _ _
      · refine x_iload (i := 4) rfl hC (zdk dk_X2_isRoot 27 rfl) (q := 50) rfl ?_
        refine x_aload_n (i := 1) rfl hC (zdk dk_X2_isRoot 28 rfl) (q := 51) rfl ?_
        refine x_getI fl_RX2_90 (by decide) h_r1 hC (zdk dk_X2_isRoot 29 rfl) (q := 54) rfl ?_
        refine x_isub hC (zdk dk_X2_isRoot 30 rfl) (q := 55) rfl ?_
        refine x_istore (i := 4) (L' := [.ref r0, .ref r1, .null, .int x3, .int ((x4 + x3) - (zI M r1 7)), .int x5, .int x6]) (by decide) rfl hC (zdk dk_X2_isRoot 31 rfl) (q := 57) rfl ?_
        refine x_weak (L' := [.ref r0, .ref r1, .null, .int x3, .int ((x4 + x3) - (zI M r1 7)), .int x5, .int x6]) ⟨Or.inr rfl, Or.inr rfl, Or.inl rfl, Or.inr rfl, Or.inr rfl, Or.inr rfl, Or.inr rfl, trivial⟩ ?_
        exact x_X2_isRoot_57 hC hE hk0 h_r0 h_r1 (f_X2_isRoot_24 r0 r1 x2 f) ih _ _ _ _ _
set_option maxRecDepth 100000 in
def f_X2_isRoot_14  (r0 : Nat) (r1 : Nat) (x2 : Int32) (s0 : Int32) (M : Mem) : Option (Int32 × Mem) := f_X2_isRoot_24 r0 r1 x2 1000000 s0 0 0 1 M
set_option maxRecDepth 100000 in
set_option maxHeartbeats 4000000 in
theorem x_X2_isRoot_14 {κ : KX} {n : Nat} (hC : CX κ cX2_isRoot RX2 7 (some .boolean) 1) (hE : zEnd κ n (0, 0)) (hk0 : zRk κ (0, 0)) {r0 : Nat} {r1 : Nat} {x2 : Int32} (h_r0 : zO n r0 2) (h_r1 : zO n r1 1) (s0 : Int32) (M : Mem) : X κ 7 emI n (0, 0) 14 [.ref r0, .ref r1, .null, .null, .null, .null, .null] [.int s0] M (f_X2_isRoot_14 r0 r1 x2 s0 M) := by
  unfold f_X2_isRoot_14
  refine x_istore_n (i := 3) (L' := [.ref r0, .ref r1, .null, .int s0, .null, .null, .null]) (by decide) rfl hC (zdk dk_X2_isRoot 8 rfl) (q := 15) rfl ?_
  refine x_iconst (i := 0) c_iconst_0 hC (zdk dk_X2_isRoot 9 rfl) (q := 16) rfl ?_
  refine x_istore (i := 4) (L' := [.ref r0, .ref r1, .null, .int s0, .int 0, .null, .null]) (by decide) rfl hC (zdk dk_X2_isRoot 10 rfl) (q := 18) rfl ?_
  refine x_iconst (i := 0) c_iconst_0 hC (zdk dk_X2_isRoot 11 rfl) (q := 19) rfl ?_
  refine x_istore (i := 5) (L' := [.ref r0, .ref r1, .null, .int s0, .int 0, .int 0, .null]) (by decide) rfl hC (zdk dk_X2_isRoot 12 rfl) (q := 21) rfl ?_
  refine x_iconst (i := 1) c_iconst_1 hC (zdk dk_X2_isRoot 13 rfl) (q := 22) rfl ?_
  refine x_istore (i := 6) (L' := [.ref r0, .ref r1, .null, .int s0, .int 0, .int 0, .int 1]) (by decide) rfl hC (zdk dk_X2_isRoot 14 rfl) (q := 24) rfl ?_
  refine x_weak (L' := [.ref r0, .ref r1, .null, .int s0, .int 0, .int 0, .int 1]) ⟨Or.inr rfl, Or.inr rfl, Or.inl rfl, Or.inr rfl, Or.inr rfl, Or.inr rfl, Or.inr rfl, trivial⟩ ?_
  exact x_X2_isRoot_24 hC hE hk0 h_r0 h_r1 _ _ _ _ _ _
set_option maxRecDepth 100000 in
def f_X2_isRoot (r0 : Nat) (r1 : Nat) (x2 : Int32) (M : Mem) : Option (Int32 × Mem) := (if x2 = 0 then f_X2_isRoot_14 r0 r1 x2 0 M else f_X2_isRoot_14 r0 r1 x2 ((zI M r1 7) - x2) M)
set_option maxRecDepth 100000 in
set_option maxHeartbeats 4000000 in
theorem x_X2_isRoot {κ : KX} {n : Nat} (hC : CX κ cX2_isRoot RX2 7 (some .boolean) 1) (hE : zEnd κ n (0, 0)) (hk0 : zRk κ (0, 0)) (r0 : Nat) (r1 : Nat) (x2 : Int32) (M : Mem) (h_r0 : zO n r0 2) (h_r1 : zO n r1 1) : X κ 7 emI n (0, 0) 0 [.ref r0, .ref r1, .int x2, .null, .null, .null, .null] [] M (f_X2_isRoot r0 r1 x2 M) := by
  unfold f_X2_isRoot
  refine x_iload_n (i := 2) rfl hC (zdk dk_X2_isRoot 0 rfl) (q := 1) rfl ?_
  refine x_if_ne (tgt := 8) hC (zdk dk_X2_isRoot 1 rfl) (q := 4) rfl rfl (fun _ => ?_) (fun _ => ?_)
  · refine x_aload_n (i := 1) rfl hC (zdk dk_X2_isRoot 4 rfl) (q := 9) rfl ?_
    refine x_getI fl_RX2_90 (by decide) h_r1 hC (zdk dk_X2_isRoot 5 rfl) (q := 12) rfl ?_
    refine x_iload_n (i := 2) rfl hC (zdk dk_X2_isRoot 6 rfl) (q := 13) rfl ?_
    refine x_isub hC (zdk dk_X2_isRoot 7 rfl) (q := 14) rfl ?_
    refine x_weak (L' := [.ref r0, .ref r1, .null, .null, .null, .null, .null]) ⟨Or.inr rfl, Or.inr rfl, Or.inl rfl, Or.inl rfl, Or.inl rfl, Or.inl rfl, Or.inl rfl, trivial⟩ ?_
    exact x_X2_isRoot_14 hC hE hk0 h_r0 h_r1 _ _
  · refine x_iconst (i := 0) c_iconst_0 hC (zdk dk_X2_isRoot 2 rfl) (q := 5) rfl ?_
    refine x_goto (tgt := 14) hC (zdk dk_X2_isRoot 3 rfl) rfl ?_
    refine x_weak (L' := [.ref r0, .ref r1, .null, .null, .null, .null, .null]) ⟨Or.inr rfl, Or.inr rfl, Or.inl rfl, Or.inl rfl, Or.inl rfl, Or.inl rfl, Or.inl rfl, trivial⟩ ?_
    exact x_X2_isRoot_14 hC hE hk0 h_r0 h_r1 _ _
set_option maxRecDepth 100000 in
set_option maxHeartbeats 4000000 in
theorem t_X2_isRoot {n : Nat} {r0 : Nat} {r1 : Nat} {x2 : Int32} {M : Mem} (h_r0 : zO n r0 2) (h_r1 : zO n r1 1) (x : (Int32 × Mem)) (hx : f_X2_isRoot r0 r1 x2 M = some x) (l : Launch) (dC : Nat → ClassId) (dI : Nat → Nat → Nat) (b : zSg) : MT l dC dI b yX2_isRoot cX2_isRoot 7 (some .boolean) 1 0 0 n n [.ref r0, .ref r1, .int x2] M (emI x).1 (emI x).2 :=
  MT.ofX (by decide +kernel) rfl (Nat.le_of_ble_eq_true rfl) (fun κ hC hF _ => x_X2_isRoot hC (zEnd_of hF (Nat.le_refl _) (Nat.le_refl _)) (zRk_of hF (Nat.le_refl _) (Nat.le_refl _)) _ _ _ _ h_r0 h_r1) x hx
set_option maxRecDepth 100000 in
def dt_X2_findRoots : List (Nat × Instr × Nat) := [(0, .iconst 0, 1), (1, .istore_n 2, 1), (2, .iconst 0, 1), (3, .istore_n 3, 1), (4, .iconst 0, 1), (5, .istore 4, 2), (7, .iload 4, 2), (9, .aload_n 1, 1), (10, .getfield 90, 3), (13, .if_icmp .ge 56, 3), (16, .aload_n 0, 1), (17, .aload_n 1, 1), (18, .iload 4, 2), (20, .invokevirtual 93, 3), (23, .ifCond .eq 40, 3), (26, .iload_n 2, 1), (27, .aload_n 0, 1), (28, .getfield 24, 3), (31, .arraylength, 1), (32, .if_icmp .ge 11, 3), (35, .aload_n 0, 1), (36, .getfield 24, 3), (39, .iload_n 2, 1), (40, .iload 4, 2), (42, .iastore, 1), (43, .iinc 2 1, 3), (46, .iload_n 3, 1), (47, .iload 4, 2), (49, .aload_n 1, 1), (50, .getfield 97, 3), (53, .if_icmp .lt 7, 3), (56, .iconst 1, 1), (57, .goto 4, 3), (60, .iconst 0, 1), (61, .ior, 1), (62, .istore_n 3, 1), (63, .iinc 4 1, 3), (66, .goto (-59), 3), (69, .iload_n 2, 1), (70, .aload_n 0, 1), (71, .getfield 56, 3), (74, .if_icmp .eq 5, 3), (77, .iconst 2, 1), (78, .ireturn, 1), (79, .iload_n 3, 1), (80, .ifCond .eq 7, 3), (83, .iconst 3, 1), (84, .goto 4, 3), (87, .iconst 0, 1), (88, .ireturn, 1)]
set_option maxRecDepth 100000 in
theorem dk_X2_findRoots : dt_X2_findRoots.all (fun q => decide (decode cX2_findRoots q.1 = .ok q.2)) = true := by decide +kernel
set_option maxRecDepth 100000 in
def f_X2_findRoots_63 (k7 : Int32 → Int32 → Int32 → Mem → Option (Int32 × Mem)) (r0 : Nat) (r1 : Nat) (x2 : Int32) (x3 : Int32) (x4 : Int32) (M : Mem) : Option (Int32 × Mem) := k7 x2 x3 (x4 + 1) M
set_option maxRecDepth 100000 in
set_option maxHeartbeats 4000000 in
theorem x_X2_findRoots_63 {κ : KX} {n : Nat} (hC : CX κ cX2_findRoots RX2 5 (some .int) 2) (hE : zEnd κ n (0, 0)) (hk0 : zRk κ (0, 0)) {r0 : Nat} {r1 : Nat} (h_r0 : zO n r0 2) (h_r1 : zO n r1 1) (k7 : Int32 → Int32 → Int32 → Mem → Option (Int32 × Mem)) (hk7 : ∀ (x2 : Int32) (x3 : Int32) (x4 : Int32) (M : Mem), X κ 5 emI n (0, 0) 7 [.ref r0, .ref r1, .int x2, .int x3, .int x4] [] M (k7 x2 x3 x4 M)) (x2 : Int32) (x3 : Int32) (x4 : Int32) (M : Mem) : X κ 5 emI n (0, 0) 63 [.ref r0, .ref r1, .int x2, .int x3, .int x4] [] M (f_X2_findRoots_63 k7 r0 r1 x2 x3 x4 M) := by
  unfold f_X2_findRoots_63
  refine x_iinc (i := 4) c_iconst_1 rfl (by decide) (L' := [.ref r0, .ref r1, .int x2, .int x3, .int (x4 + 1)]) rfl hC (zdk dk_X2_findRoots 36 rfl) (q := 66) rfl ?_
  refine x_goto (tgt := 7) hC (zdk dk_X2_findRoots 37 rfl) rfl ?_
  refine x_weak (L' := [.ref r0, .ref r1, .int x2, .int x3, .int (x4 + 1)]) ⟨Or.inr rfl, Or.inr rfl, Or.inr rfl, Or.inr rfl, Or.inr rfl, trivial⟩ ?_
  exact hk7 _ _ _ _
set_option maxRecDepth 100000 in
def f_X2_findRoots_61 (k7 : Int32 → Int32 → Int32 → Mem → Option (Int32 × Mem)) (r0 : Nat) (r1 : Nat) (x2 : Int32) (x4 : Int32) (s0 : Int32) (s1 : Int32) (M : Mem) : Option (Int32 × Mem) := f_X2_findRoots_63 k7 r0 r1 x2 (s0 ||| s1) x4 M
set_option maxRecDepth 100000 in
set_option maxHeartbeats 4000000 in
theorem x_X2_findRoots_61 {κ : KX} {n : Nat} (hC : CX κ cX2_findRoots RX2 5 (some .int) 2) (hE : zEnd κ n (0, 0)) (hk0 : zRk κ (0, 0)) {r0 : Nat} {r1 : Nat} (h_r0 : zO n r0 2) (h_r1 : zO n r1 1) (k7 : Int32 → Int32 → Int32 → Mem → Option (Int32 × Mem)) (hk7 : ∀ (x2 : Int32) (x3 : Int32) (x4 : Int32) (M : Mem), X κ 5 emI n (0, 0) 7 [.ref r0, .ref r1, .int x2, .int x3, .int x4] [] M (k7 x2 x3 x4 M)) (x2 : Int32) (x4 : Int32) (s0 : Int32) (s1 : Int32) (M : Mem) : X κ 5 emI n (0, 0) 61 [.ref r0, .ref r1, .int x2, .null, .int x4] [.int s1, .int s0] M (f_X2_findRoots_61 k7 r0 r1 x2 x4 s0 s1 M) := by
  unfold f_X2_findRoots_61
  refine x_ior hC (zdk dk_X2_findRoots 34 rfl) (q := 62) rfl ?_
  refine x_istore_n (i := 3) (L' := [.ref r0, .ref r1, .int x2, .int (s0 ||| s1), .int x4]) (by decide) rfl hC (zdk dk_X2_findRoots 35 rfl) (q := 63) rfl ?_
  refine x_weak (L' := [.ref r0, .ref r1, .int x2, .int (s0 ||| s1), .int x4]) ⟨Or.inr rfl, Or.inr rfl, Or.inr rfl, Or.inr rfl, Or.inr rfl, trivial⟩ ?_
  exact x_X2_findRoots_63 hC hE hk0 h_r0 h_r1 k7 hk7 _ _ _ _
set_option maxRecDepth 100000 in
def f_X2_findRoots_43 (k7 : Int32 → Int32 → Int32 → Mem → Option (Int32 × Mem)) (r0 : Nat) (r1 : Nat) (x2 : Int32) (x3 : Int32) (x4 : Int32) (M : Mem) : Option (Int32 × Mem) := (if x4 < zI M r1 10 then f_X2_findRoots_61 k7 r0 r1 (x2 + 1) x4 x3 0 M else f_X2_findRoots_61 k7 r0 r1 (x2 + 1) x4 x3 1 M)
set_option maxRecDepth 100000 in
set_option maxHeartbeats 4000000 in
theorem x_X2_findRoots_43 {κ : KX} {n : Nat} (hC : CX κ cX2_findRoots RX2 5 (some .int) 2) (hE : zEnd κ n (0, 0)) (hk0 : zRk κ (0, 0)) {r0 : Nat} {r1 : Nat} (h_r0 : zO n r0 2) (h_r1 : zO n r1 1) (k7 : Int32 → Int32 → Int32 → Mem → Option (Int32 × Mem)) (hk7 : ∀ (x2 : Int32) (x3 : Int32) (x4 : Int32) (M : Mem), X κ 5 emI n (0, 0) 7 [.ref r0, .ref r1, .int x2, .int x3, .int x4] [] M (k7 x2 x3 x4 M)) (x2 : Int32) (x3 : Int32) (x4 : Int32) (M : Mem) : X κ 5 emI n (0, 0) 43 [.ref r0, .ref r1, .int x2, .int x3, .int x4] [] M (f_X2_findRoots_43 k7 r0 r1 x2 x3 x4 M) := by
  unfold f_X2_findRoots_43
  refine x_iinc (i := 2) c_iconst_1 rfl (by decide) (L' := [.ref r0, .ref r1, .int (x2 + 1), .int x3, .int x4]) rfl hC (zdk dk_X2_findRoots 25 rfl) (q := 46) rfl ?_
  refine x_iload_n (i := 3) rfl hC (zdk dk_X2_findRoots 26 rfl) (q := 47) rfl ?_
  refine x_iload (i := 4) rfl hC (zdk dk_X2_findRoots 27 rfl) (q := 49) rfl ?_
  refine x_aload_n (i := 1) rfl hC (zdk dk_X2_findRoots 28 rfl) (q := 50) rfl ?_
  refine x_getI fl_RX2_97 (by decide) h_r1 hC (zdk dk_X2_findRoots 29 rfl) (q := 53) rfl ?_
  refine x_icmp_lt (tgt := 60) hC (zdk dk_X2_findRoots 30 rfl) (q := 56) rfl rfl (fun _ => ?_) (fun _ => ?_)
  · refine x_iconst (i := 0) c_iconst_0 hC (zdk dk_X2_findRoots 33 rfl) (q := 61) rfl ?_
    refine x_weak (L' := [.ref r0, .ref r1, .int (x2 + 1), .null, .int x4]) ⟨Or.inr rfl, Or.inr rfl, Or.inr rfl, Or.inl rfl, Or.inr rfl, trivial⟩ ?_
    exact x_X2_findRoots_61 hC hE hk0 h_r0 h_r1 k7 hk7 _ _ _ _ _
  · refine x_iconst (i := 1) c_iconst_1 hC (zdk dk_X2_findRoots 31 rfl) (q := 57) rfl ?_
    refine x_goto (tgt := 61) hC (zdk dk_X2_findRoots 32 rfl) rfl ?_
    refine x_weak (L' := [.ref r0, .ref r1, .int (x2 + 1), .null, .int x4]) ⟨Or.inr rfl, Or.inr rfl, Or.inr rfl, Or.inl rfl, Or.inr rfl, trivial⟩ ?_
    exact x_X2_findRoots_61 hC hE hk0 h_r0 h_r1 k7 hk7 _ _ _ _ _
set_option maxRecDepth 100000 in
def f_X2_findRoots_88  (r0 : Nat) (r1 : Nat) (s0 : Int32) (M : Mem) : Option (Int32 × Mem) := some (s0, M)
set_option maxRecDepth 100000 in
set_option maxHeartbeats 4000000 in
theorem x_X2_findRoots_88 {κ : KX} {n : Nat} (hC : CX κ cX2_findRoots RX2 5 (some .int) 2) (hE : zEnd κ n (0, 0)) (hk0 : zRk κ (0, 0)) {r0 : Nat} {r1 : Nat} (h_r0 : zO n r0 2) (h_r1 : zO n r1 1) (s0 : Int32) (M : Mem) : X κ 5 emI n (0, 0) 88 [.null, .null, .null, .null, .null] [.int s0] M (f_X2_findRoots_88 r0 r1 s0 M) := by
  unfold f_X2_findRoots_88
  exact x_iret (ty := .int) rfl hE hC (zdk dk_X2_findRoots 49 rfl)
set_option maxRecDepth 100000 in
def f_X2_findRoots_7  (r0 : Nat) (r1 : Nat) : Nat → Int32 → Int32 → Int32 → Mem → Option (Int32 × Mem)
  | 0, _, _, _, _ => none
  | f + 1, x2, x3, x4, M => (if zI M r1 7 ≤ x4 then (if x2 = zI M r0 8 then (if x3 = 0 then f_X2_findRoots_88 r0 r1 0 M else f_X2_findRoots_88 r0 r1 3 M) else some (2, M)) else Option.bind (f_X2_isRoot r0 r1 x4 M) fun z1 => (if z1.1 = 0 then f_X2_findRoots_63 (f_X2_findRoots_7 r0 r1 f) r0 r1 x2 x3 x4 z1.2 else Option.bind (zrf z1.2 r0 4) fun q2 => (if zlen q2 ≤ x2 then f_X2_findRoots_43 (f_X2_findRoots_7 r0 r1 f) r0 r1 x2 x3 x4 z1.2 else Option.bind (zrf z1.2 r0 4) fun q3 => Option.bind (zld q3 x2) fun k4 => Option.bind (some (zsI z1.2 q3 k4 x4)) fun M5 => f_X2_findRoots_43 (f_X2_findRoots_7 r0 r1 f) r0 r1 x2 x3 x4 M5)))
set_option maxRecDepth 100000 in
set_option maxHeartbeats 4000000 in
theorem x_X2_findRoots_7 {κ : KX} {n : Nat} (hC : CX κ cX2_findRoots RX2 5 (some .int) 2) (hE : zEnd κ n (0, 0)) (hk0 : zRk κ (0, 0)) {r0 : Nat} {r1 : Nat} (h_r0 : zO n r0 2) (h_r1 : zO n r1 1) : ∀ (f : Nat) (x2 : Int32) (x3 : Int32) (x4 : Int32) (M : Mem), X κ 5 emI n (0, 0) 7 [.ref r0, .ref r1, .int x2, .int x3, .int x4] [] M (f_X2_findRoots_7 r0 r1 f x2 x3 x4 M) := by
  intro f
  induction f with
  | zero => intros; exact x_none
  | succ f ih =>
    intro x2 x3 x4 M 
    rw [f_X2_findRoots_7]
    refine x_iload (i := 4) rfl hC (zdk dk_X2_findRoots 6 rfl) (q := 9) rfl ?_
    refine x_aload_n (i := 1) rfl hC (zdk dk_X2_findRoots 7 rfl) (q := 10) rfl ?_
    refine x_getI fl_RX2_90 (by decide) h_r1 hC (zdk dk_X2_findRoots 8 rfl) (q := 13) rfl ?_
    refine x_icmp_ge (tgt := 69) hC (zdk dk_X2_findRoots 9 rfl) (q := 16) rfl rfl (fun _ => ?_) (fun _ => ?_)
    · refine x_iload_n (i := 2) rfl hC (zdk dk_X2_findRoots 38 rfl) (q := 70) rfl ?_
      refine x_aload_n (i := 0) rfl hC (zdk dk_X2_findRoots 39 rfl) (q := 71) rfl ?_
      refine x_getI fl_RX2_56 (by decide) h_r0 hC (zdk dk_X2_findRoots 40 rfl) (q := 74) rfl ?_
      refine x_icmp_eq (tgt := 79) hC (zdk dk_X2_findRoots 41 rfl) (q := 77) rfl rfl (fun _ => ?_) (fun _ => ?_)
      · refine x_iload_n (i := 3) rfl hC (zdk dk_X2_findRoots 44 rfl) (q := 80) rfl ?_
        refine x_if_eq (tgt := 87) hC (zdk dk_X2_findRoots 45 rfl) (q := 83) rfl rfl (fun _ => ?_) (fun _ => ?_)
        · refine x_iconst (i := 0) c_iconst_0 hC (zdk dk_X2_findRoots 48 rfl) (q := 88) rfl ?_
          refine x_weak (L' := [.null, .null, .null, .null, .null]) ⟨Or.inl rfl, Or.inl rfl, Or.inl rfl, Or.inl rfl, Or.inl rfl, trivial⟩ ?_
          exact x_X2_findRoots_88 hC hE hk0 h_r0 h_r1 _ _
        · refine x_iconst (i := 3) c_iconst_3 hC (zdk dk_X2_findRoots 46 rfl) (q := 84) rfl ?_
          refine x_goto (tgt := 88) hC (zdk dk_X2_findRoots 47 rfl) rfl ?_
          refine x_weak (L' := [.null, .null, .null, .null, .null]) ⟨Or.inl rfl, Or.inl rfl, Or.inl rfl, Or.inl rfl, Or.inl rfl, trivial⟩ ?_
          exact x_X2_findRoots_88 hC hE hk0 h_r0 h_r1 _ _
      · refine x_iconst (i := 2) c_iconst_2 hC (zdk dk_X2_findRoots 42 rfl) (q := 78) rfl ?_
        exact x_iret (ty := .int) rfl hE hC (zdk dk_X2_findRoots 43 rfl)
    · refine x_aload_n (i := 0) rfl hC (zdk dk_X2_findRoots 10 rfl) (q := 17) rfl ?_
      refine x_aload_n (i := 1) rfl hC (zdk dk_X2_findRoots 11 rfl) (q := 18) rfl ?_
      refine x_iload (i := 4) rfl hC (zdk dk_X2_findRoots 12 rfl) (q := 20) rfl ?_
      refine x_callVi (as := [.ref r1, .int x4]) cb_RX2_93 rfl (by decide) hk0 h_r0 (fun x hx => t_X2_isRoot h_r0 h_r1 x hx) hC (zdk dk_X2_findRoots 13 rfl) (q := 23) rfl rfl (Nat.le_of_ble_eq_true rfl) (fun z1 => ?_)
      refine x_if_eq (tgt := 63) hC (zdk dk_X2_findRoots 14 rfl) (q := 26) rfl rfl (fun _ => ?_) (fun _ => ?_)
      · refine x_weak (L' := [.ref r0, .ref r1, .int x2, .int x3, .int x4]) ⟨Or.inr rfl, Or.inr rfl, Or.inr rfl, Or.inr rfl, Or.inr rfl, trivial⟩ ?_
        exact x_X2_findRoots_63 hC hE hk0 h_r0 h_r1 (f_X2_findRoots_7 r0 r1 f) ih _ _ _ _
      · refine x_iload_n (i := 2) rfl hC (zdk dk_X2_findRoots 15 rfl) (q := 27) rfl ?_
        refine x_aload_n (i := 0) rfl hC (zdk dk_X2_findRoots 16 rfl) (q := 28) rfl ?_
        refine x_getR (k := 20) fl_RX2_24 rfl h_r0 hC (zdk dk_X2_findRoots 17 rfl) (q := 31) rfl (fun q2 hq2 => ?_)
        refine x_alen hq2 (by decide) hC (zdk dk_X2_findRoots 18 rfl) (q := 32) rfl ?_
        refine x_icmp_ge (tgt := 43) hC (zdk dk_X2_findRoots 19 rfl) (q := 35) rfl rfl (fun _ => ?_) (fun _ => ?_)
        · refine x_weak (L' := [.ref r0, .ref r1, .int x2, .int x3, .int x4]) ⟨Or.inr rfl, Or.inr rfl, Or.inr rfl, Or.inr rfl, Or.inr rfl, trivial⟩ ?_
          exact x_X2_findRoots_43 hC hE hk0 h_r0 h_r1 (f_X2_findRoots_7 r0 r1 f) ih _ _ _ _
        · refine x_aload_n (i := 0) rfl hC (zdk dk_X2_findRoots 20 rfl) (q := 36) rfl ?_
          refine x_getR (k := 20) fl_RX2_24 rfl h_r0 hC (zdk dk_X2_findRoots 21 rfl) (q := 39) rfl (fun q3 hq3 => ?_)
          refine x_iload_n (i := 2) rfl hC (zdk dk_X2_findRoots 22 rfl) (q := 40) rfl ?_
          refine x_iload (i := 4) rfl hC (zdk dk_X2_findRoots 23 rfl) (q := 42) rfl ?_
          refine x_iast hq3 hC (zdk dk_X2_findRoots 24 rfl) (q := 43) rfl (fun k4 _ => ?_)
          refine x_nmM (fun M5 => ?_)
          refine x_weak (L' := [.ref r0, .ref r1, .int x2, .int x3, .int x4]) ⟨Or.inr rfl, Or.inr rfl, Or.inr rfl, Or.inr rfl, Or.inr rfl, trivial⟩ ?_
          exact x_X2_findRoots_43 hC hE hk0 h_r0 h_r1 (f_X2_findRoots_7 r0 r1 f) ih _ _ _ _
set_option maxRecDepth 100000 in
def f_X2_findRoots (r0 : Nat) (r1 : Nat) (M : Mem) : Option (Int32 × Mem) := f_X2_findRoots_7 r0 r1 1000000 0 0 0 M
set_option maxRecDepth 100000 in
set_option maxHeartbeats 4000000 in
theorem x_X2_findRoots {κ : KX} {n : Nat} (hC : CX κ cX2_findRoots RX2 5 (some .int) 2) (hE : zEnd κ n (0, 0)) (hk0 : zRk κ (0, 0)) (r0 : Nat) (r1 : Nat) (M : Mem) (h_r0 : zO n r0 2) (h_r1 : zO n r1 1) : X κ 5 emI n (0, 0) 0 [.ref r0, .ref r1, .null, .null, .null] [] M (f_X2_findRoots r0 r1 M) := by
  unfold f_X2_findRoots
  refine x_iconst (i := 0) c_iconst_0 hC (zdk dk_X2_findRoots 0 rfl) (q := 1) rfl ?_
  refine x_istore_n (i := 2) (L' := [.ref r0, .ref r1, .int 0, .null, .null]) (by decide) rfl hC (zdk dk_X2_findRoots 1 rfl) (q := 2) rfl ?_
  refine x_iconst (i := 0) c_iconst_0 hC (zdk dk_X2_findRoots 2 rfl) (q := 3) rfl ?_
  refine x_istore_n (i := 3) (L' := [.ref r0, .ref r1, .int 0, .int 0, .null]) (by decide) rfl hC (zdk dk_X2_findRoots 3 rfl) (q := 4) rfl ?_
  refine x_iconst (i := 0) c_iconst_0 hC (zdk dk_X2_findRoots 4 rfl) (q := 5) rfl ?_
  refine x_istore (i := 4) (L' := [.ref r0, .ref r1, .int 0, .int 0, .int 0]) (by decide) rfl hC (zdk dk_X2_findRoots 5 rfl) (q := 7) rfl ?_
  refine x_weak (L' := [.ref r0, .ref r1, .int 0, .int 0, .int 0]) ⟨Or.inr rfl, Or.inr rfl, Or.inr rfl, Or.inr rfl, Or.inr rfl, trivial⟩ ?_
  exact x_X2_findRoots_7 hC hE hk0 h_r0 h_r1 _ _ _ _ _
set_option maxRecDepth 100000 in
set_option maxHeartbeats 4000000 in
theorem t_X2_findRoots {n : Nat} {r0 : Nat} {r1 : Nat} {M : Mem} (h_r0 : zO n r0 2) (h_r1 : zO n r1 1) (x : (Int32 × Mem)) (hx : f_X2_findRoots r0 r1 M = some x) (l : Launch) (dC : Nat → ClassId) (dI : Nat → Nat → Nat) (b : zSg) : MT l dC dI b yX2_findRoots cX2_findRoots 5 (some .int) 2 0 0 n n [.ref r0, .ref r1] M (emI x).1 (emI x).2 :=
  MT.ofX (by decide +kernel) rfl (Nat.le_of_ble_eq_true rfl) (fun κ hC hF _ => x_X2_findRoots hC (zEnd_of hF (Nat.le_refl _) (Nat.le_refl _)) (zRk_of hF (Nat.le_refl _) (Nat.le_refl _)) _ _ _ h_r0 h_r1) x hx
set_option maxRecDepth 100000 in
def dt_X2_decode : List (Nat × Instr × Nat) := [(0, .aload_n 0, 1), (1, .getfield 27, 3), (4, .ifCond .eq 13, 3), (7, .aload_n 0, 1), (8, .getfield 31, 3), (11, .lload_n 2, 1), (12, .lcmp, 1), (13, .ifCond .ne 4, 3), (16, .return_, 1), (17, .aload_n 0, 1), (18, .iconst 1, 1), (19, .putfield 27, 3), (22, .aload_n 0, 1), (23, .lload_n 2, 1), (24, .putfield 31, 3), (27, .aload_n 0, 1), (28, .lload_n 2, 1), (29, .putfield 35, 3), (32, .iconst 1, 1), (33, .istore 4, 2), (35, .iload 4, 2), (37, .iconst 2, 1), (38, .aload_n 1, 1), (39, .getfield 38, 3), (42, .imul, 1), (43, .if_icmp .ge 23, 3), (46, .aload_n 0, 1), (47, .getfield 9, 3), (50, .iload 4, 2), (52, .aload_n 1, 1), (53, .lload_n 2, 1), (54, .iload 4, 2), (56, .invokevirtual 44, 3), (59, .iastore, 1), (60, .iinc 4 2, 3), (63, .goto (-28), 3), (66, .iconst 1, 1), (67, .istore 4, 2), (69, .iload 4, 2), (71, .aload_n 1, 1), (72, .getfield 38, 3), (75, .if_icmp .gt 36, 3), (78, .aload_n 0, 1), (79, .getfield 9, 3), (82, .iconst 2, 1), (83, .iload 4, 2), (85, .imul, 1), (86, .aload_n 1, 1), (87, .aload_n 0, 1), (88, .getfield 9, 3), (91, .iload 4, 2), (93, .iaload, 1), (94, .aload_n 0, 1), (95, .getfield 9, 3), (98, .iload 4, 2), (100, .iaload, 1), (101, .invokevirtual 48, 3), (104, .iastore, 1), (105, .iinc 4 1, 3), (108, .goto (-39), 3), (111, .aload_n 0, 1), (112, .aload_n 1, 1), (113, .invokevirtual 52, 3), (116, .aload_n 0, 1), (117, .aload_n 0, 1), (118, .getfield 56, 3), (121, .aload_n 1, 1), (122, .getfield 38, 3), (125, .if_icmp .le 7, 3), (128, .iconst 1, 1), (129, .goto 8, 3), (132, .aload_n 0, 1), (133, .aload_n 1, 1), (134, .invokevirtual 59, 3), (137, .putfield 63, 3), (140, .aload_n 0, 1), (141, .getfield 63, 3), (144, .ifCond .ne 39, 3), (147, .iconst 0, 1), (148, .istore 4, 2), (150, .iload 4, 2), (152, .aload_n 0, 1), (153, .getfield 56, 3), (156, .if_icmp .ge 27, 3), (159, .aload_n 0, 1), (160, .dup, 1), (161, .getfield 35, 3), (164, .lconst 1, 1), (165, .aload_n 0, 1), (166, .getfield 24, 3), (169, .iload 4, 2), (171, .iaload, 1), (172, .lshl, 1), (173, .lxor, 1), (174, .putfield 35, 3), (177, .iinc 4 1, 3), (180, .goto (-30), 3), (183, .return_, 1)]
set_option maxRecDepth 100000 in
theorem dk_X2_decode : dt_X2_decode.all (fun q => decide (decode cX2_decode q.1 = .ok q.2)) = true := by decide +kernel
set_option maxRecDepth 100000 in
def f_X2_decode_183  (r0 : Nat) (r1 : Nat) (y2 : Int64)  (M : Mem) : Option Mem := some M
set_option maxRecDepth 100000 in
set_option maxHeartbeats 4000000 in
theorem x_X2_decode_183 {κ : KX} {n : Nat} (hC : CX κ cX2_decode RX2 5 none 3) (hE : zEnd κ n (0, 0)) (hk0 : zRk κ (0, 0)) {r0 : Nat} {r1 : Nat} {y2 : Int64} (h_r0 : zO n r0 2) (h_r1 : zO n r1 1) (M : Mem) : X κ 5 emV n (0, 0) 183 [.null, .null, .null, .null, .null] [] M (f_X2_decode_183 r0 r1 y2 M) := by
  unfold f_X2_decode_183
  exact x_vret hE hC (zdk dk_X2_decode 97 rfl)
set_option maxRecDepth 100000 in
def f_X2_decode_150  (r0 : Nat) (r1 : Nat) (y2 : Int64) : Nat → Int32 → Mem → Option Mem
  | 0, _, _ => none
  | f + 1, x4, M => (if zI M r0 8 ≤ x4 then f_X2_decode_183 r0 r1 y2 M else Option.bind (zrf M r0 4) fun q1 => Option.bind (zld q1 x4) fun k2 => Option.bind (some (zsL M r0 7 ((zL M r0 7) ^^^ ((1 : Int64) <<< ((zI M q1 k2).toInt64 &&& 63))))) fun M3 => (f_X2_decode_150 r0 r1 y2 f) (x4 + 1) M3)
set_option maxRecDepth 100000 in
set_option maxHeartbeats 4000000 in
theorem x_X2_decode_150 {κ : KX} {n : Nat} (hC : CX κ cX2_decode RX2 5 none 3) (hE : zEnd κ n (0, 0)) (hk0 : zRk κ (0, 0)) {r0 : Nat} {r1 : Nat} {y2 : Int64} (h_r0 : zO n r0 2) (h_r1 : zO n r1 1) : ∀ (f : Nat) (x4 : Int32) (M : Mem), X κ 5 emV n (0, 0) 150 [.ref r0, .null, .null, .null, .int x4] [] M (f_X2_decode_150 r0 r1 y2 f x4 M) := by
  intro f
  induction f with
  | zero => intros; exact x_none
  | succ f ih =>
    intro x4 M 
    rw [f_X2_decode_150]
    refine x_iload (i := 4) rfl hC (zdk dk_X2_decode 80 rfl) (q := 152) rfl ?_
    refine x_aload_n (i := 0) rfl hC (zdk dk_X2_decode 81 rfl) (q := 153) rfl ?_
    refine x_getI fl_RX2_56 (by decide) h_r0 hC (zdk dk_X2_decode 82 rfl) (q := 156) rfl ?_
    refine x_icmp_ge (tgt := 183) hC (zdk dk_X2_decode 83 rfl) (q := 159) rfl rfl (fun _ => ?_) (fun _ => ?_)
    · refine x_weak (L' := [.null, .null, .null, .null, .null]) ⟨Or.inl rfl, Or.inl rfl, Or.inl rfl, Or.inl rfl, Or.inl rfl, trivial⟩ ?_
      exact x_X2_decode_183 hC hE hk0 h_r0 h_r1 _
    · refine x_aload_n (i := 0) rfl hC (zdk dk_X2_decode 84 rfl) (q := 160) rfl ?_
      refine x_dup rfl hC (zdk dk_X2_decode 85 rfl) (q := 161) rfl ?_
      refine x_getL fl_RX2_35 h_r0 hC (zdk dk_X2_decode 86 rfl) (q := 164) rfl ?_
      refine x_lconst (i := 1) c_lconst_1 hC (zdk dk_X2_decode 87 rfl) (q := 165) rfl ?_
      refine x_aload_n (i := 0) rfl hC (zdk dk_X2_decode 88 rfl) (q := 166) rfl ?_
      refine x_getR (k := 20) fl_RX2_24 rfl h_r0 hC (zdk dk_X2_decode 89 rfl) (q := 169) rfl (fun q1 hq1 => ?_)
      refine x_iload (i := 4) rfl hC (zdk dk_X2_decode 90 rfl) (q := 171) rfl ?_
      refine x_iald hq1 hC (zdk dk_X2_decode 91 rfl) (q := 172) rfl (fun k2 _ => ?_)
      refine x_lshl hC (zdk dk_X2_decode 92 rfl) (q := 173) rfl ?_
      refine x_lxor hC (zdk dk_X2_decode 93 rfl) (q := 174) rfl ?_
      refine x_putL fl_RX2_35 ⟨rfl, rfl⟩ (Or.inl rfl) h_r0 hC (zdk dk_X2_decode 94 rfl) (q := 177) rfl ?_
      refine x_nmM (fun M3 => ?_)
      refine x_iinc (i := 4) c_iconst_1 rfl (by decide) (L' := [.ref r0, .null, .null, .null, .int (x4 + 1)]) rfl hC (zdk dk_X2_decode 95 rfl) (q := 180) rfl ?_
      refine x_goto (tgt := 150) hC (zdk dk_X2_decode 96 rfl) rfl ?_
      refine x_weak (L' := [.ref r0, .null, .null, .null, .int (x4 + 1)]) ⟨Or.inr rfl, Or.inl rfl, Or.inl rfl, Or.inl rfl, Or.inr rfl, trivial⟩ ?_
      exact ih _ _
set_option maxRecDepth 100000 in
def f_X2_decode_137  (r0 : Nat) (r1 : Nat) (y2 : Int64) (s0 : Nat) (s1 : Int32) (M : Mem) : Option Mem := Option.bind (some (zsI M s0 9 s1)) fun M4 => (if zI M4 r0 9 = 0 then f_X2_decode_150 r0 r1 y2 1000000 0 M4 else f_X2_decode_183 r0 r1 y2 M4)
set_option maxRecDepth 100000 in
set_option maxHeartbeats 4000000 in
theorem x_X2_decode_137 {κ : KX} {n : Nat} (hC : CX κ cX2_decode RX2 5 none 3) (hE : zEnd κ n (0, 0)) (hk0 : zRk κ (0, 0)) {r0 : Nat} {r1 : Nat} {y2 : Int64} (h_r0 : zO n r0 2) (h_r1 : zO n r1 1) (s0 : Nat) (s1 : Int32) (M : Mem) (h_s0 : zO n s0 2) : X κ 5 emV n (0, 0) 137 [.ref r0, .null, .null, .null, .null] [.int s1, .ref s0] M (f_X2_decode_137 r0 r1 y2 s0 s1 M) := by
  unfold f_X2_decode_137
  refine x_putI fl_RX2_63 ⟨rfl, rfl⟩ (by decide) (Or.inl rfl) h_s0 hC (zdk dk_X2_decode 74 rfl) (q := 140) rfl ?_
  refine x_nmM (fun M4 => ?_)
  refine x_aload_n (i := 0) rfl hC (zdk dk_X2_decode 75 rfl) (q := 141) rfl ?_
  refine x_getI fl_RX2_63 (by decide) h_r0 hC (zdk dk_X2_decode 76 rfl) (q := 144) rfl ?_
  refine x_if_ne (tgt := 183) hC (zdk dk_X2_decode 77 rfl) (q := 147) rfl rfl (fun _ => ?_) (fun _ => ?_)
  · refine x_weak (L' := [.null, .null, .null, .null, .null]) ⟨Or.inl rfl, Or.inl rfl, Or.inl rfl, Or.inl rfl, Or.inl rfl, trivial⟩ ?_
    exact x_X2_decode_183 hC hE hk0 h_r0 h_r1 _
  · refine x_iconst (i := 0) c_iconst_0 hC (zdk dk_X2_decode 78 rfl) (q := 148) rfl ?_
    refine x_istore (i := 4) (L' := [.ref r0, .null, .null, .null, .int 0]) (by decide) rfl hC (zdk dk_X2_decode 79 rfl) (q := 150) rfl ?_
    refine x_weak (L' := [.ref r0, .null, .null, .null, .int 0]) ⟨Or.inr rfl, Or.inl rfl, Or.inl rfl, Or.inl rfl, Or.inr rfl, trivial⟩ ?_
    exact x_X2_decode_150 hC hE hk0 h_r0 h_r1 _ _ _
set_option maxRecDepth 100000 in
def f_X2_decode_69  (r0 : Nat) (r1 : Nat) (y2 : Int64) : Nat → Int32 → Mem → Option Mem
  | 0, _, _ => none
  | f + 1, x4, M => (if zI M r1 8 < x4 then Option.bind (f_X2_findFactors r0 r1 M) fun M5 => (if zI M5 r0 8 ≤ zI M5 r1 8 then Option.bind (f_X2_findRoots r0 r1 M5) fun z6 => f_X2_decode_137 r0 r1 y2 r0 z6.1 z6.2 else f_X2_decode_137 r0 r1 y2 r0 1 M5) else Option.bind (zrf M r0 0) fun q7 => Option.bind (zrf M r0 0) fun q8 => Option.bind (zld q8 x4) fun k9 => Option.bind (zrf M r0 0) fun q10 => Option.bind (zld q10 x4) fun k11 => Option.bind (f_X1_product r1 (zI M q8 k9) (zI M q10 k11) M) fun z12 => Option.bind (zld q7 (2 * x4)) fun k13 => Option.bind (some (zsI z12.2 q7 k13 z12.1)) fun M14 => (f_X2_decode_69 r0 r1 y2 f) (x4 + 1) M14)
set_option maxRecDepth 100000 in
set_option maxHeartbeats 4000000 in
theorem x_X2_decode_69 {κ : KX} {n : Nat} (hC : CX κ cX2_decode RX2 5 none 3) (hE : zEnd κ n (0, 0)) (hk0 : zRk κ (0, 0)) {r0 : Nat} {r1 : Nat} {y2 : Int64} (h_r0 : zO n r0 2) (h_r1 : zO n r1 1) : ∀ (f : Nat) (x4 : Int32) (M : Mem), X κ 5 emV n (0, 0) 69 [.ref r0, .ref r1, .null, .null, .int x4] [] M (f_X2_decode_69 r0 r1 y2 f x4 M) := by
  intro f
  induction f with
  | zero => intros; exact x_none
  | succ f ih =>
    intro x4 M 
    rw [f_X2_decode_69]
    refine x_iload (i := 4) rfl hC (zdk dk_X2_decode 38 rfl) (q := 71) rfl ?_
    refine x_aload_n (i := 1) rfl hC (zdk dk_X2_decode 39 rfl) (q := 72) rfl ?_
    refine x_getI fl_RX2_38 (by decide) h_r1 hC (zdk dk_X2_decode 40 rfl) (q := 75) rfl ?_
    refine x_icmp_gt (tgt := 111) hC (zdk dk_X2_decode 41 rfl) (q := 78) rfl rfl (fun _ => ?_) (fun _ => ?_)
    · refine x_aload_n (i := 0) rfl hC (zdk dk_X2_decode 60 rfl) (q := 112) rfl ?_
      refine x_aload_n (i := 1) rfl hC (zdk dk_X2_decode 61 rfl) (q := 113) rfl ?_
      refine x_callVv (as := [.ref r1]) cb_RX2_52 rfl (by decide) hk0 h_r0 (fun x hx => t_X2_findFactors h_r0 h_r1 x hx) hC (zdk dk_X2_decode 62 rfl) (q := 116) rfl rfl (Nat.le_of_ble_eq_true rfl) (fun M5 => ?_)
      refine x_aload_n (i := 0) rfl hC (zdk dk_X2_decode 63 rfl) (q := 117) rfl ?_
      refine x_aload_n (i := 0) rfl hC (zdk dk_X2_decode 64 rfl) (q := 118) rfl ?_
      refine x_getI fl_RX2_56 (by decide) h_r0 hC (zdk dk_X2_decode 65 rfl) (q := 121) rfl ?_
      refine x_aload_n (i := 1) rfl hC (zdk dk_X2_decode 66 rfl) (q := 122) rfl ?_
      refine x_getI fl_RX2_38 (by decide) h_r1 hC (zdk dk_X2_decode 67 rfl) (q := 125) rfl ?_
      refine x_icmp_le (tgt := 132) hC (zdk dk_X2_decode 68 rfl) (q := 128) rfl rfl (fun _ => ?_) (fun _ => ?_)
      · refine x_aload_n (i := 0) rfl hC (zdk dk_X2_decode 71 rfl) (q := 133) rfl ?_
        refine x_aload_n (i := 1) rfl hC (zdk dk_X2_decode 72 rfl) (q := 134) rfl ?_
        refine x_callVi (as := [.ref r1]) cb_RX2_59 rfl (by decide) hk0 h_r0 (fun x hx => t_X2_findRoots h_r0 h_r1 x hx) hC (zdk dk_X2_decode 73 rfl) (q := 137) rfl rfl (Nat.le_of_ble_eq_true rfl) (fun z6 => ?_)
        refine x_weak (L' := [.ref r0, .null, .null, .null, .null]) ⟨Or.inr rfl, Or.inl rfl, Or.inl rfl, Or.inl rfl, Or.inl rfl, trivial⟩ ?_
        exact x_X2_decode_137 hC hE hk0 h_r0 h_r1 _ _ _ h_r0
      · refine x_iconst (i := 1) c_iconst_1 hC (zdk dk_X2_decode 69 rfl) (q := 129) rfl ?_
        refine x_goto (tgt := 137) hC (zdk dk_X2_decode 70 rfl) rfl ?_
        refine x_weak (L' := [.ref r0, .null, .null, .null, .null]) ⟨Or.inr rfl, Or.inl rfl, Or.inl rfl, Or.inl rfl, Or.inl rfl, trivial⟩ ?_
        exact x_X2_decode_137 hC hE hk0 h_r0 h_r1 _ _ _ h_r0
    · refine x_aload_n (i := 0) rfl hC (zdk dk_X2_decode 42 rfl) (q := 79) rfl ?_
      refine x_getR (k := 20) fl_RX2_9 rfl h_r0 hC (zdk dk_X2_decode 43 rfl) (q := 82) rfl (fun q7 hq7 => ?_)
      refine x_iconst (i := 2) c_iconst_2 hC (zdk dk_X2_decode 44 rfl) (q := 83) rfl ?_
      refine x_iload (i := 4) rfl hC (zdk dk_X2_decode 45 rfl) (q := 85) rfl ?_
      refine x_imul hC (zdk dk_X2_decode 46 rfl) (q := 86) rfl ?_
      refine x_aload_n (i := 1) rfl hC (zdk dk_X2_decode 47 rfl) (q := 87) rfl ?_
      refine x_aload_n (i := 0) rfl hC (zdk dk_X2_decode 48 rfl) (q := 88) rfl ?_
      refine x_getR (k := 20) fl_RX2_9 rfl h_r0 hC (zdk dk_X2_decode 49 rfl) (q := 91) rfl (fun q8 hq8 => ?_)
      refine x_iload (i := 4) rfl hC (zdk dk_X2_decode 50 rfl) (q := 93) rfl ?_
      refine x_iald hq8 hC (zdk dk_X2_decode 51 rfl) (q := 94) rfl (fun k9 _ => ?_)
      refine x_aload_n (i := 0) rfl hC (zdk dk_X2_decode 52 rfl) (q := 95) rfl ?_
      refine x_getR (k := 20) fl_RX2_9 rfl h_r0 hC (zdk dk_X2_decode 53 rfl) (q := 98) rfl (fun q10 hq10 => ?_)
      refine x_iload (i := 4) rfl hC (zdk dk_X2_decode 54 rfl) (q := 100) rfl ?_
      refine x_iald hq10 hC (zdk dk_X2_decode 55 rfl) (q := 101) rfl (fun k11 _ => ?_)
      refine x_callVi (as := [.int (zI M q8 k9), .int (zI M q10 k11)]) cb_RX2_48 rfl (by decide) hk0 h_r1 (fun x hx => t_X1_product h_r1 x hx) hC (zdk dk_X2_decode 56 rfl) (q := 104) rfl rfl (Nat.le_of_ble_eq_true rfl) (fun z12 => ?_)
      refine x_iast hq7 hC (zdk dk_X2_decode 57 rfl) (q := 105) rfl (fun k13 _ => ?_)
      refine x_nmM (fun M14 => ?_)
      refine x_iinc (i := 4) c_iconst_1 rfl (by decide) (L' := [.ref r0, .ref r1, .null, .null, .int (x4 + 1)]) rfl hC (zdk dk_X2_decode 58 rfl) (q := 108) rfl ?_
      refine x_goto (tgt := 69) hC (zdk dk_X2_decode 59 rfl) rfl ?_
      refine x_weak (L' := [.ref r0, .ref r1, .null, .null, .int (x4 + 1)]) ⟨Or.inr rfl, Or.inr rfl, Or.inl rfl, Or.inl rfl, Or.inr rfl, trivial⟩ ?_
      exact ih _ _
set_option maxRecDepth 100000 in
def f_X2_decode_35  (r0 : Nat) (r1 : Nat) (y2 : Int64) : Nat → Int32 → Mem → Option Mem
  | 0, _, _ => none
  | f + 1, x4, M => (if 2 * (zI M r1 8) ≤ x4 then f_X2_decode_69 r0 r1 y2 1000000 1 M else Option.bind (zrf M r0 0) fun q15 => Option.bind (f_X1_valueAt r1 y2 x4 M) fun z16 => Option.bind (zld q15 x4) fun k17 => Option.bind (some (zsI z16.2 q15 k17 z16.1)) fun M18 => (f_X2_decode_35 r0 r1 y2 f) (x4 + 2) M18)
set_option maxRecDepth 100000 in
set_option maxHeartbeats 4000000 in
theorem x_X2_decode_35 {κ : KX} {n : Nat} (hC : CX κ cX2_decode RX2 5 none 3) (hE : zEnd κ n (0, 0)) (hk0 : zRk κ (0, 0)) {r0 : Nat} {r1 : Nat} {y2 : Int64} (h_r0 : zO n r0 2) (h_r1 : zO n r1 1) : ∀ (f : Nat) (x4 : Int32) (M : Mem), X κ 5 emV n (0, 0) 35 [.ref r0, .ref r1, .long y2, .null, .int x4] [] M (f_X2_decode_35 r0 r1 y2 f x4 M) := by
  intro f
  induction f with
  | zero => intros; exact x_none
  | succ f ih =>
    intro x4 M 
    rw [f_X2_decode_35]
    refine x_iload (i := 4) rfl hC (zdk dk_X2_decode 20 rfl) (q := 37) rfl ?_
    refine x_iconst (i := 2) c_iconst_2 hC (zdk dk_X2_decode 21 rfl) (q := 38) rfl ?_
    refine x_aload_n (i := 1) rfl hC (zdk dk_X2_decode 22 rfl) (q := 39) rfl ?_
    refine x_getI fl_RX2_38 (by decide) h_r1 hC (zdk dk_X2_decode 23 rfl) (q := 42) rfl ?_
    refine x_imul hC (zdk dk_X2_decode 24 rfl) (q := 43) rfl ?_
    refine x_icmp_ge (tgt := 66) hC (zdk dk_X2_decode 25 rfl) (q := 46) rfl rfl (fun _ => ?_) (fun _ => ?_)
    · refine x_iconst (i := 1) c_iconst_1 hC (zdk dk_X2_decode 36 rfl) (q := 67) rfl ?_
      refine x_istore (i := 4) (L' := [.ref r0, .ref r1, .long y2, .null, .int 1]) (by decide) rfl hC (zdk dk_X2_decode 37 rfl) (q := 69) rfl ?_
      refine x_weak (L' := [.ref r0, .ref r1, .null, .null, .int 1]) ⟨Or.inr rfl, Or.inr rfl, Or.inl rfl, Or.inl rfl, Or.inr rfl, trivial⟩ ?_
      exact x_X2_decode_69 hC hE hk0 h_r0 h_r1 _ _ _
    · refine x_aload_n (i := 0) rfl hC (zdk dk_X2_decode 26 rfl) (q := 47) rfl ?_
      refine x_getR (k := 20) fl_RX2_9 rfl h_r0 hC (zdk dk_X2_decode 27 rfl) (q := 50) rfl (fun q15 hq15 => ?_)
      refine x_iload (i := 4) rfl hC (zdk dk_X2_decode 28 rfl) (q := 52) rfl ?_
      refine x_aload_n (i := 1) rfl hC (zdk dk_X2_decode 29 rfl) (q := 53) rfl ?_
      refine x_lload_n (i := 2) rfl hC (zdk dk_X2_decode 30 rfl) (q := 54) rfl ?_
      refine x_iload (i := 4) rfl hC (zdk dk_X2_decode 31 rfl) (q := 56) rfl ?_
      refine x_callVi (as := [.long y2, .int x4]) cb_RX2_44 rfl (by decide) hk0 h_r1 (fun x hx => t_X1_valueAt h_r1 x hx) hC (zdk dk_X2_decode 32 rfl) (q := 59) rfl rfl (Nat.le_of_ble_eq_true rfl) (fun z16 => ?_)
      refine x_iast hq15 hC (zdk dk_X2_decode 33 rfl) (q := 60) rfl (fun k17 _ => ?_)
      refine x_nmM (fun M18 => ?_)
      refine x_iinc (i := 4) c_iconst_2 rfl (by decide) (L' := [.ref r0, .ref r1, .long y2, .null, .int (x4 + 2)]) rfl hC (zdk dk_X2_decode 34 rfl) (q := 63) rfl ?_
      refine x_goto (tgt := 35) hC (zdk dk_X2_decode 35 rfl) rfl ?_
      refine x_weak (L' := [.ref r0, .ref r1, .long y2, .null, .int (x4 + 2)]) ⟨Or.inr rfl, Or.inr rfl, Or.inr rfl, Or.inl rfl, Or.inr rfl, trivial⟩ ?_
      exact ih _ _
set_option maxRecDepth 100000 in
def f_X2_decode_17  (r0 : Nat) (r1 : Nat) (y2 : Int64)  (M : Mem) : Option Mem := Option.bind (some (zsI M r0 5 1)) fun M19 => Option.bind (some (zsL M19 r0 6 y2)) fun M20 => Option.bind (some (zsL M20 r0 7 y2)) fun M21 => f_X2_decode_35 r0 r1 y2 1000000 1 M21
set_option maxRecDepth 100000 in
set_option maxHeartbeats 4000000 in
theorem x_X2_decode_17 {κ : KX} {n : Nat} (hC : CX κ cX2_decode RX2 5 none 3) (hE : zEnd κ n (0, 0)) (hk0 : zRk κ (0, 0)) {r0 : Nat} {r1 : Nat} {y2 : Int64} (h_r0 : zO n r0 2) (h_r1 : zO n r1 1) (M : Mem) : X κ 5 emV n (0, 0) 17 [.ref r0, .ref r1, .long y2, .null, .null] [] M (f_X2_decode_17 r0 r1 y2 M) := by
  unfold f_X2_decode_17
  refine x_aload_n (i := 0) rfl hC (zdk dk_X2_decode 9 rfl) (q := 18) rfl ?_
  refine x_iconst (i := 1) c_iconst_1 hC (zdk dk_X2_decode 10 rfl) (q := 19) rfl ?_
  refine x_putI fl_RX2_27 ⟨rfl, rfl⟩ (by decide) (Or.inl rfl) h_r0 hC (zdk dk_X2_decode 11 rfl) (q := 22) rfl ?_
  refine x_nmM (fun M19 => ?_)
  refine x_aload_n (i := 0) rfl hC (zdk dk_X2_decode 12 rfl) (q := 23) rfl ?_
  refine x_lload_n (i := 2) rfl hC (zdk dk_X2_decode 13 rfl) (q := 24) rfl ?_
  refine x_putL fl_RX2_31 ⟨rfl, rfl⟩ (Or.inl rfl) h_r0 hC (zdk dk_X2_decode 14 rfl) (q := 27) rfl ?_
  refine x_nmM (fun M20 => ?_)
  refine x_aload_n (i := 0) rfl hC (zdk dk_X2_decode 15 rfl) (q := 28) rfl ?_
  refine x_lload_n (i := 2) rfl hC (zdk dk_X2_decode 16 rfl) (q := 29) rfl ?_
  refine x_putL fl_RX2_35 ⟨rfl, rfl⟩ (Or.inl rfl) h_r0 hC (zdk dk_X2_decode 17 rfl) (q := 32) rfl ?_
  refine x_nmM (fun M21 => ?_)
  refine x_iconst (i := 1) c_iconst_1 hC (zdk dk_X2_decode 18 rfl) (q := 33) rfl ?_
  refine x_istore (i := 4) (L' := [.ref r0, .ref r1, .long y2, .null, .int 1]) (by decide) rfl hC (zdk dk_X2_decode 19 rfl) (q := 35) rfl ?_
  refine x_weak (L' := [.ref r0, .ref r1, .long y2, .null, .int 1]) ⟨Or.inr rfl, Or.inr rfl, Or.inr rfl, Or.inl rfl, Or.inr rfl, trivial⟩ ?_
  exact x_X2_decode_35 hC hE hk0 h_r0 h_r1 _ _ _
set_option maxRecDepth 100000 in
def f_X2_decode (r0 : Nat) (r1 : Nat) (y2 : Int64) (M : Mem) : Option Mem := (if zI M r0 5 = 0 then f_X2_decode_17 r0 r1 y2 M else (if lg_cmp (zL M r0 6) y2 = 0 then some M else f_X2_decode_17 r0 r1 y2 M))
set_option maxRecDepth 100000 in
set_option maxHeartbeats 4000000 in
theorem x_X2_decode {κ : KX} {n : Nat} (hC : CX κ cX2_decode RX2 5 none 3) (hE : zEnd κ n (0, 0)) (hk0 : zRk κ (0, 0)) (r0 : Nat) (r1 : Nat) (y2 : Int64) (M : Mem) (h_r0 : zO n r0 2) (h_r1 : zO n r1 1) : X κ 5 emV n (0, 0) 0 [.ref r0, .ref r1, .long y2, .null, .null] [] M (f_X2_decode r0 r1 y2 M) := by
  unfold f_X2_decode
  refine x_aload_n (i := 0) rfl hC (zdk dk_X2_decode 0 rfl) (q := 1) rfl ?_
  refine x_getI fl_RX2_27 (by decide) h_r0 hC (zdk dk_X2_decode 1 rfl) (q := 4) rfl ?_
  refine x_if_eq (tgt := 17) hC (zdk dk_X2_decode 2 rfl) (q := 7) rfl rfl (fun _ => ?_) (fun _ => ?_)
  · refine x_weak (L' := [.ref r0, .ref r1, .long y2, .null, .null]) ⟨Or.inr rfl, Or.inr rfl, Or.inr rfl, Or.inl rfl, Or.inl rfl, trivial⟩ ?_
    exact x_X2_decode_17 hC hE hk0 h_r0 h_r1 _
  · refine x_aload_n (i := 0) rfl hC (zdk dk_X2_decode 3 rfl) (q := 8) rfl ?_
    refine x_getL fl_RX2_31 h_r0 hC (zdk dk_X2_decode 4 rfl) (q := 11) rfl ?_
    refine x_lload_n (i := 2) rfl hC (zdk dk_X2_decode 5 rfl) (q := 12) rfl ?_
    refine x_lcmp hC (zdk dk_X2_decode 6 rfl) (q := 13) rfl ?_
    refine x_if_ne (tgt := 17) hC (zdk dk_X2_decode 7 rfl) (q := 16) rfl rfl (fun _ => ?_) (fun _ => ?_)
    · refine x_weak (L' := [.ref r0, .ref r1, .long y2, .null, .null]) ⟨Or.inr rfl, Or.inr rfl, Or.inr rfl, Or.inl rfl, Or.inl rfl, trivial⟩ ?_
      exact x_X2_decode_17 hC hE hk0 h_r0 h_r1 _
    · exact x_vret hE hC (zdk dk_X2_decode 8 rfl)
set_option maxRecDepth 100000 in
set_option maxHeartbeats 4000000 in
theorem t_X2_decode {n : Nat} {r0 : Nat} {r1 : Nat} {y2 : Int64} {M : Mem} (h_r0 : zO n r0 2) (h_r1 : zO n r1 1) (x : Mem) (hx : f_X2_decode r0 r1 y2 M = some x) (l : Launch) (dC : Nat → ClassId) (dI : Nat → Nat → Nat) (b : zSg) : MT l dC dI b yX2_decode cX2_decode 5 none 3 0 0 n n [.ref r0, .ref r1, .long y2] M (emV x).1 (emV x).2 :=
  MT.ofX (by decide +kernel) rfl (Nat.le_of_ble_eq_true rfl) (fun κ hC hF _ => x_X2_decode hC (zEnd_of hF (Nat.le_refl _) (Nat.le_refl _)) (zRk_of hF (Nat.le_refl _) (Nat.le_refl _)) _ _ _ _ h_r0 h_r1) x hx
set_option maxRecDepth 100000 in
def dt_X8_isTrueRead : List (Nat × Instr × Nat) := [(0, .lload_n 1, 1), (1, .aload_n 0, 1), (2, .getfield 26, 3), (5, .lxor, 1), (6, .invokestatic 57, 3), (9, .iload_n 3, 1), (10, .if_icmp .gt 7, 3), (13, .iconst 1, 1), (14, .goto 4, 3), (17, .iconst 0, 1), (18, .ireturn, 1)]
set_option maxRecDepth 100000 in
theorem dk_X8_isTrueRead : dt_X8_isTrueRead.all (fun q => decide (decode cX8_isTrueRead q.1 = .ok q.2)) = true := by decide +kernel
set_option maxRecDepth 100000 in
def f_X8_isTrueRead_18  (r0 : Nat) (y1 : Int64) (x3 : Int32) (s0 : Int32) (M : Mem) : Option (Int32 × Mem) := zbz s0 (some (s0, M))
set_option maxRecDepth 100000 in
set_option maxHeartbeats 4000000 in
theorem x_X8_isTrueRead_18 {κ : KX} {n : Nat} (hC : CX κ cX8_isTrueRead RX8 4 (some .boolean) 1) (hE : zEnd κ n (0, 0)) (hk0 : zRk κ (0, 0)) {r0 : Nat} {y1 : Int64} {x3 : Int32} (h_r0 : zO n r0 8) (s0 : Int32) (M : Mem) : X κ 4 emI n (0, 0) 18 [.null, .null, .null, .null] [.int s0] M (f_X8_isTrueRead_18 r0 y1 x3 s0 M) := by
  unfold f_X8_isTrueRead_18
  refine x_bz (fun hb1 => ?_)
  exact x_iret (ty := .boolean) hb1.1 hE hC (zdk dk_X8_isTrueRead 10 rfl)
set_option maxRecDepth 100000 in
def f_X8_isTrueRead (r0 : Nat) (y1 : Int64) (x3 : Int32) (M : Mem) : Option (Int32 × Mem) := Option.bind (f_J13_bitCount_95d88 (y1 ^^^ (zL M r0 4)) M) fun z2 => (if x3 < z2.1 then f_X8_isTrueRead_18 r0 y1 x3 0 z2.2 else f_X8_isTrueRead_18 r0 y1 x3 1 z2.2)
set_option maxRecDepth 100000 in
set_option maxHeartbeats 4000000 in
theorem x_X8_isTrueRead {κ : KX} {n : Nat} (hC : CX κ cX8_isTrueRead RX8 4 (some .boolean) 1) (hE : zEnd κ n (0, 0)) (hk0 : zRk κ (0, 0)) (r0 : Nat) (y1 : Int64) (x3 : Int32) (M : Mem) (h_r0 : zO n r0 8) : X κ 4 emI n (0, 0) 0 [.ref r0, .long y1, .null, .int x3] [] M (f_X8_isTrueRead r0 y1 x3 M) := by
  unfold f_X8_isTrueRead
  refine x_lload_n (i := 1) rfl hC (zdk dk_X8_isTrueRead 0 rfl) (q := 1) rfl ?_
  refine x_aload_n (i := 0) rfl hC (zdk dk_X8_isTrueRead 1 rfl) (q := 2) rfl ?_
  refine x_getL fl_RX8_26 h_r0 hC (zdk dk_X8_isTrueRead 2 rfl) (q := 5) rfl ?_
  refine x_lxor hC (zdk dk_X8_isTrueRead 3 rfl) (q := 6) rfl ?_
  refine x_callSi (as := [.long (y1 ^^^ (zL M r0 4))]) cb_RX8_57 rfl (by decide) hk0 (fun x hx => t_J13_bitCount_95d88  x hx) hC (zdk dk_X8_isTrueRead 4 rfl) (q := 9) rfl rfl (Nat.le_of_ble_eq_true rfl) (fun z2 => ?_)
  refine x_iload_n (i := 3) rfl hC (zdk dk_X8_isTrueRead 5 rfl) (q := 10) rfl ?_
  refine x_icmp_gt (tgt := 17) hC (zdk dk_X8_isTrueRead 6 rfl) (q := 13) rfl rfl (fun _ => ?_) (fun _ => ?_)
  · refine x_iconst (i := 0) c_iconst_0 hC (zdk dk_X8_isTrueRead 9 rfl) (q := 18) rfl ?_
    refine x_weak (L' := [.null, .null, .null, .null]) ⟨Or.inl rfl, Or.inl rfl, Or.inl rfl, Or.inl rfl, trivial⟩ ?_
    exact x_X8_isTrueRead_18 hC hE hk0 h_r0 _ _
  · refine x_iconst (i := 1) c_iconst_1 hC (zdk dk_X8_isTrueRead 7 rfl) (q := 14) rfl ?_
    refine x_goto (tgt := 18) hC (zdk dk_X8_isTrueRead 8 rfl) rfl ?_
    refine x_weak (L' := [.null, .null, .null, .null]) ⟨Or.inl rfl, Or.inl rfl, Or.inl rfl, Or.inl rfl, trivial⟩ ?_
    exact x_X8_isTrueRead_18 hC hE hk0 h_r0 _ _
set_option maxRecDepth 100000 in
set_option maxHeartbeats 4000000 in
theorem t_X8_isTrueRead {n : Nat} {r0 : Nat} {y1 : Int64} {x3 : Int32} {M : Mem} (h_r0 : zO n r0 8) (x : (Int32 × Mem)) (hx : f_X8_isTrueRead r0 y1 x3 M = some x) (l : Launch) (dC : Nat → ClassId) (dI : Nat → Nat → Nat) (b : zSg) : MT l dC dI b yX8_isTrueRead cX8_isTrueRead 4 (some .boolean) 1 0 0 n n [.ref r0, .long y1, .int x3] M (emI x).1 (emI x).2 :=
  MT.ofX (by decide +kernel) rfl (Nat.le_of_ble_eq_true rfl) (fun κ hC hF _ => x_X8_isTrueRead hC (zEnd_of hF (Nat.le_refl _) (Nat.le_refl _)) (zRk_of hF (Nat.le_refl _) (Nat.le_refl _)) _ _ _ _ h_r0) x hx
set_option maxRecDepth 100000 in
def dt_X3_mend : List (Nat × Instr × Nat) := [(0, .aload_n 2, 1), (1, .lload_n 3, 1), (2, .aload_n 1, 1), (3, .getfield 43, 3), (6, .getfield 74, 3), (9, .invokevirtual 77, 3), (12, .ifCond .eq 30, 3), (15, .aload_n 0, 1), (16, .iconst 0, 1), (17, .putfield 60, 3), (20, .aload_n 0, 1), (21, .lload_n 3, 1), (22, .aload_n 2, 1), (23, .getfield 19, 3), (26, .lxor, 1), (27, .invokestatic 25, 3), (30, .putfield 81, 3), (33, .aload_n 0, 1), (34, .aload_n 2, 1), (35, .getfield 19, 3), (38, .putfield 67, 3), (41, .return_, 1), (42, .aload_n 0, 1), (43, .getfield 9, 3), (46, .aload_n 1, 1), (47, .getfield 43, 3), (50, .lload_n 3, 1), (51, .invokevirtual 84, 3), (54, .aload_n 0, 1), (55, .aload_n 0, 1), (56, .getfield 9, 3), (59, .getfield 90, 3), (62, .putfield 60, 3), (65, .aload_n 0, 1), (66, .aload_n 0, 1), (67, .getfield 9, 3), (70, .getfield 91, 3), (73, .putfield 81, 3), (76, .aload_n 0, 1), (77, .aload_n 0, 1), (78, .getfield 9, 3), (81, .getfield 94, 3), (84, .putfield 67, 3), (87, .return_, 1)]
set_option maxRecDepth 100000 in
theorem dk_X3_mend : dt_X3_mend.all (fun q => decide (decode cX3_mend q.1 = .ok q.2)) = true := by decide +kernel
set_option maxRecDepth 100000 in
def f_X3_mend (r0 : Nat) (r1 : Nat) (r2 : Nat) (y3 : Int64) (M : Mem) : Option Mem := Option.bind (zrf M r1 0) fun q1 => Option.bind (f_X8_isTrueRead r2 y3 (zI M q1 8) M) fun z2 => (if z2.1 = 0 then Option.bind (zrf z2.2 r0 0) fun q3 => Option.bind (zrf z2.2 r1 0) fun q4 => Option.bind (f_X2_decode q3 q4 y3 z2.2) fun M5 => Option.bind (zrf M5 r0 0) fun q6 => Option.bind (some (zsI M5 r0 4 (zI M5 q6 9))) fun M7 => Option.bind (zrf M7 r0 0) fun q8 => Option.bind (some (zsI M7 r0 5 (zI M7 q8 8))) fun M9 => Option.bind (zrf M9 r0 0) fun q10 => Option.bind (some (zsL M9 r0 6 (zL M9 q10 7))) fun M11 => some M11 else Option.bind (some (zsI z2.2 r0 4 0)) fun M12 => Option.bind (f_J13_bitCount_95d88 (y3 ^^^ (zL M12 r2 4)) M12) fun z13 => Option.bind (some (zsI z13.2 r0 5 z13.1)) fun M14 => Option.bind (some (zsL M14 r0 6 (zL M14 r2 4))) fun M15 => some M15)
set_option maxRecDepth 100000 in
set_option maxHeartbeats 4000000 in
theorem x_X3_mend {κ : KX} {n : Nat} (hC : CX κ cX3_mend RX3 5 none 4) (hE : zEnd κ n (0, 0)) (hk0 : zRk κ (0, 0)) (r0 : Nat) (r1 : Nat) (r2 : Nat) (y3 : Int64) (M : Mem) (h_r0 : zO n r0 3) (h_r1 : zO n r1 0) (h_r2 : zO n r2 8) : X κ 5 emV n (0, 0) 0 [.ref r0, .ref r1, .ref r2, .long y3, .null] [] M (f_X3_mend r0 r1 r2 y3 M) := by
  unfold f_X3_mend
  refine x_aload_n (i := 2) rfl hC (zdk dk_X3_mend 0 rfl) (q := 1) rfl ?_
  refine x_lload_n (i := 3) rfl hC (zdk dk_X3_mend 1 rfl) (q := 2) rfl ?_
  refine x_aload_n (i := 1) rfl hC (zdk dk_X3_mend 2 rfl) (q := 3) rfl ?_
  refine x_getR (k := 1) fl_RX3_43 rfl h_r1 hC (zdk dk_X3_mend 3 rfl) (q := 6) rfl (fun q1 hq1 => ?_)
  refine x_getI fl_RX3_74 (by decide) hq1 hC (zdk dk_X3_mend 4 rfl) (q := 9) rfl ?_
  refine x_callVi (as := [.long y3, .int (zI M q1 8)]) cb_RX3_77 rfl (by decide) hk0 h_r2 (fun x hx => t_X8_isTrueRead h_r2 x hx) hC (zdk dk_X3_mend 5 rfl) (q := 12) rfl rfl (Nat.le_of_ble_eq_true rfl) (fun z2 => ?_)
  refine x_if_eq (tgt := 42) hC (zdk dk_X3_mend 6 rfl) (q := 15) rfl rfl (fun _ => ?_) (fun _ => ?_)
  · refine x_aload_n (i := 0) rfl hC (zdk dk_X3_mend 22 rfl) (q := 43) rfl ?_
    refine x_getR (k := 2) fl_RX3_9 rfl h_r0 hC (zdk dk_X3_mend 23 rfl) (q := 46) rfl (fun q3 hq3 => ?_)
    refine x_aload_n (i := 1) rfl hC (zdk dk_X3_mend 24 rfl) (q := 47) rfl ?_
    refine x_getR (k := 1) fl_RX3_43 rfl h_r1 hC (zdk dk_X3_mend 25 rfl) (q := 50) rfl (fun q4 hq4 => ?_)
    refine x_lload_n (i := 3) rfl hC (zdk dk_X3_mend 26 rfl) (q := 51) rfl ?_
    refine x_callVv (as := [.ref q4, .long y3]) cb_RX3_84 rfl (by decide) hk0 hq3 (fun x hx => t_X2_decode hq3 hq4 x hx) hC (zdk dk_X3_mend 27 rfl) (q := 54) rfl rfl (Nat.le_of_ble_eq_true rfl) (fun M5 => ?_)
    refine x_aload_n (i := 0) rfl hC (zdk dk_X3_mend 28 rfl) (q := 55) rfl ?_
    refine x_aload_n (i := 0) rfl hC (zdk dk_X3_mend 29 rfl) (q := 56) rfl ?_
    refine x_getR (k := 2) fl_RX3_9 rfl h_r0 hC (zdk dk_X3_mend 30 rfl) (q := 59) rfl (fun q6 hq6 => ?_)
    refine x_getI fl_RX3_90 (by decide) hq6 hC (zdk dk_X3_mend 31 rfl) (q := 62) rfl ?_
    refine x_putI fl_RX3_60 ⟨rfl, rfl⟩ (by decide) (Or.inl rfl) h_r0 hC (zdk dk_X3_mend 32 rfl) (q := 65) rfl ?_
    refine x_nmM (fun M7 => ?_)
    refine x_aload_n (i := 0) rfl hC (zdk dk_X3_mend 33 rfl) (q := 66) rfl ?_
    refine x_aload_n (i := 0) rfl hC (zdk dk_X3_mend 34 rfl) (q := 67) rfl ?_
    refine x_getR (k := 2) fl_RX3_9 rfl h_r0 hC (zdk dk_X3_mend 35 rfl) (q := 70) rfl (fun q8 hq8 => ?_)
    refine x_getI fl_RX3_91 (by decide) hq8 hC (zdk dk_X3_mend 36 rfl) (q := 73) rfl ?_
    refine x_putI fl_RX3_81 ⟨rfl, rfl⟩ (by decide) (Or.inl rfl) h_r0 hC (zdk dk_X3_mend 37 rfl) (q := 76) rfl ?_
    refine x_nmM (fun M9 => ?_)
    refine x_aload_n (i := 0) rfl hC (zdk dk_X3_mend 38 rfl) (q := 77) rfl ?_
    refine x_aload_n (i := 0) rfl hC (zdk dk_X3_mend 39 rfl) (q := 78) rfl ?_
    refine x_getR (k := 2) fl_RX3_9 rfl h_r0 hC (zdk dk_X3_mend 40 rfl) (q := 81) rfl (fun q10 hq10 => ?_)
    refine x_getL fl_RX3_94 hq10 hC (zdk dk_X3_mend 41 rfl) (q := 84) rfl ?_
    refine x_putL fl_RX3_67 ⟨rfl, rfl⟩ (Or.inl rfl) h_r0 hC (zdk dk_X3_mend 42 rfl) (q := 87) rfl ?_
    refine x_nmM (fun M11 => ?_)
    exact x_vret hE hC (zdk dk_X3_mend 43 rfl)
  · refine x_aload_n (i := 0) rfl hC (zdk dk_X3_mend 7 rfl) (q := 16) rfl ?_
    refine x_iconst (i := 0) c_iconst_0 hC (zdk dk_X3_mend 8 rfl) (q := 17) rfl ?_
    refine x_putI fl_RX3_60 ⟨rfl, rfl⟩ (by decide) (Or.inl rfl) h_r0 hC (zdk dk_X3_mend 9 rfl) (q := 20) rfl ?_
    refine x_nmM (fun M12 => ?_)
    refine x_aload_n (i := 0) rfl hC (zdk dk_X3_mend 10 rfl) (q := 21) rfl ?_
    refine x_lload_n (i := 3) rfl hC (zdk dk_X3_mend 11 rfl) (q := 22) rfl ?_
    refine x_aload_n (i := 2) rfl hC (zdk dk_X3_mend 12 rfl) (q := 23) rfl ?_
    refine x_getL fl_RX3_19 h_r2 hC (zdk dk_X3_mend 13 rfl) (q := 26) rfl ?_
    refine x_lxor hC (zdk dk_X3_mend 14 rfl) (q := 27) rfl ?_
    refine x_callSi (as := [.long (y3 ^^^ (zL M12 r2 4))]) cb_RX3_25 rfl (by decide) hk0 (fun x hx => t_J13_bitCount_95d88  x hx) hC (zdk dk_X3_mend 15 rfl) (q := 30) rfl rfl (Nat.le_of_ble_eq_true rfl) (fun z13 => ?_)
    refine x_putI fl_RX3_81 ⟨rfl, rfl⟩ (by decide) (Or.inl rfl) h_r0 hC (zdk dk_X3_mend 16 rfl) (q := 33) rfl ?_
    refine x_nmM (fun M14 => ?_)
    refine x_aload_n (i := 0) rfl hC (zdk dk_X3_mend 17 rfl) (q := 34) rfl ?_
    refine x_aload_n (i := 2) rfl hC (zdk dk_X3_mend 18 rfl) (q := 35) rfl ?_
    refine x_getL fl_RX3_19 h_r2 hC (zdk dk_X3_mend 19 rfl) (q := 38) rfl ?_
    refine x_putL fl_RX3_67 ⟨rfl, rfl⟩ (Or.inl rfl) h_r0 hC (zdk dk_X3_mend 20 rfl) (q := 41) rfl ?_
    refine x_nmM (fun M15 => ?_)
    exact x_vret hE hC (zdk dk_X3_mend 21 rfl)
set_option maxRecDepth 100000 in
set_option maxHeartbeats 4000000 in
theorem t_X3_mend {n : Nat} {r0 : Nat} {r1 : Nat} {r2 : Nat} {y3 : Int64} {M : Mem} (h_r0 : zO n r0 3) (h_r1 : zO n r1 0) (h_r2 : zO n r2 8) (x : Mem) (hx : f_X3_mend r0 r1 r2 y3 M = some x) (l : Launch) (dC : Nat → ClassId) (dI : Nat → Nat → Nat) (b : zSg) : MT l dC dI b yX3_mend cX3_mend 5 none 4 0 0 n n [.ref r0, .ref r1, .ref r2, .long y3] M (emV x).1 (emV x).2 :=
  MT.ofX (by decide +kernel) rfl (Nat.le_of_ble_eq_true rfl) (fun κ hC hF _ => x_X3_mend hC (zEnd_of hF (Nat.le_refl _) (Nat.le_refl _)) (zRk_of hF (Nat.le_refl _) (Nat.le_refl _)) _ _ _ _ _ h_r0 h_r1 h_r2) x hx
set_option maxRecDepth 100000 in
def dt_J9_abs_0f7a4 : List (Nat × Instr × Nat) := [(0, .iload_n 0, 1), (1, .ifCond .ge 8, 3), (4, .iload_n 0, 1), (5, .ineg, 1), (6, .goto 4, 3), (9, .iload_n 0, 1), (10, .ireturn, 1)]
set_option maxRecDepth 100000 in
theorem dk_J9_abs_0f7a4 : dt_J9_abs_0f7a4.all (fun q => decide (decode cJ9_abs_0f7a4 q.1 = .ok q.2)) = true := by decide +kernel
set_option maxRecDepth 100000 in
def f_J9_abs_0f7a4_10  (x0 : Int32) (s0 : Int32) (M : Mem) : Option (Int32 × Mem) := some (s0, M)
set_option maxRecDepth 100000 in
set_option maxHeartbeats 4000000 in
theorem x_J9_abs_0f7a4_10 {κ : KX} {n : Nat} (hC : CX κ cJ9_abs_0f7a4 RJ9 1 (some .int) 0) (hE : zEnd κ n (0, 0)) (hk0 : zRk κ (0, 0)) {x0 : Int32} (s0 : Int32) (M : Mem) : X κ 1 emI n (0, 0) 10 [.null] [.int s0] M (f_J9_abs_0f7a4_10 x0 s0 M) := by
  unfold f_J9_abs_0f7a4_10
  exact x_iret (ty := .int) rfl hE hC (zdk dk_J9_abs_0f7a4 6 rfl)
set_option maxRecDepth 100000 in
def f_J9_abs_0f7a4 (x0 : Int32) (M : Mem) : Option (Int32 × Mem) := (if 0 ≤ x0 then f_J9_abs_0f7a4_10 x0 x0 M else f_J9_abs_0f7a4_10 x0 (-x0) M)
set_option maxRecDepth 100000 in
set_option maxHeartbeats 4000000 in
theorem x_J9_abs_0f7a4 {κ : KX} {n : Nat} (hC : CX κ cJ9_abs_0f7a4 RJ9 1 (some .int) 0) (hE : zEnd κ n (0, 0)) (hk0 : zRk κ (0, 0)) (x0 : Int32) (M : Mem) : X κ 1 emI n (0, 0) 0 [.int x0] [] M (f_J9_abs_0f7a4 x0 M) := by
  unfold f_J9_abs_0f7a4
  refine x_iload_n (i := 0) rfl hC (zdk dk_J9_abs_0f7a4 0 rfl) (q := 1) rfl ?_
  refine x_if_ge (tgt := 9) hC (zdk dk_J9_abs_0f7a4 1 rfl) (q := 4) rfl rfl (fun _ => ?_) (fun _ => ?_)
  · refine x_iload_n (i := 0) rfl hC (zdk dk_J9_abs_0f7a4 5 rfl) (q := 10) rfl ?_
    refine x_weak (L' := [.null]) ⟨Or.inl rfl, trivial⟩ ?_
    exact x_J9_abs_0f7a4_10 hC hE hk0 _ _
  · refine x_iload_n (i := 0) rfl hC (zdk dk_J9_abs_0f7a4 2 rfl) (q := 5) rfl ?_
    refine x_ineg hC (zdk dk_J9_abs_0f7a4 3 rfl) (q := 6) rfl ?_
    refine x_goto (tgt := 10) hC (zdk dk_J9_abs_0f7a4 4 rfl) rfl ?_
    refine x_weak (L' := [.null]) ⟨Or.inl rfl, trivial⟩ ?_
    exact x_J9_abs_0f7a4_10 hC hE hk0 _ _
set_option maxRecDepth 100000 in
set_option maxHeartbeats 4000000 in
theorem t_J9_abs_0f7a4 {n : Nat} {x0 : Int32} {M : Mem}  (x : (Int32 × Mem)) (hx : f_J9_abs_0f7a4 x0 M = some x) (l : Launch) (dC : Nat → ClassId) (dI : Nat → Nat → Nat) (b : zSg) : MT l dC dI b yJ9_abs_0f7a4 cJ9_abs_0f7a4 1 (some .int) 0 0 0 n n [.int x0] M (emI x).1 (emI x).2 :=
  MT.ofX (by decide +kernel) rfl (Nat.le_of_ble_eq_true rfl) (fun κ hC hF _ => x_J9_abs_0f7a4 hC (zEnd_of hF (Nat.le_refl _) (Nat.le_refl _)) (zRk_of hF (Nat.le_refl _) (Nat.le_refl _)) _ _ ) x hx
set_option maxRecDepth 100000 in
def dt_J9_floorDiv_f86c9 : List (Nat × Instr × Nat) := [(0, .lload_n 0, 1), (1, .lload_n 2, 1), (2, .ldiv, 1), (3, .lstore 4, 2), (5, .lload_n 0, 1), (6, .lload_n 2, 1), (7, .lxor, 1), (8, .lconst 0, 1), (9, .lcmp, 1), (10, .ifCond .ge 17, 3), (13, .lload 4, 2), (15, .lload_n 2, 1), (16, .lmul, 1), (17, .lload_n 0, 1), (18, .lcmp, 1), (19, .ifCond .eq 8, 3), (22, .lload 4, 2), (24, .lconst 1, 1), (25, .lsub, 1), (26, .lreturn, 1), (27, .lload 4, 2), (29, .lreturn, 1)]
set_option maxRecDepth 100000 in
theorem dk_J9_floorDiv_f86c9 : dt_J9_floorDiv_f86c9.all (fun q => decide (decode cJ9_floorDiv_f86c9 q.1 = .ok q.2)) = true := by decide +kernel
set_option maxRecDepth 100000 in
def f_J9_floorDiv_f86c9_27  (y0 : Int64) (y2 : Int64) (y4 : Int64) (M : Mem) : Option (Int64 × Mem) := some (y4, M)
set_option maxRecDepth 100000 in
set_option maxHeartbeats 4000000 in
theorem x_J9_floorDiv_f86c9_27 {κ : KX} {n : Nat} (hC : CX κ cJ9_floorDiv_f86c9 RJ9 6 (some .long) 0) (hE : zEnd κ n (0, 0)) (hk0 : zRk κ (0, 0)) {y0 : Int64} {y2 : Int64} (y4 : Int64) (M : Mem) : X κ 6 emL n (0, 0) 27 [.null, .null, .null, .null, .long y4, .null] [] M (f_J9_floorDiv_f86c9_27 y0 y2 y4 M) := by
  unfold f_J9_floorDiv_f86c9_27
  refine x_lload (i := 4) rfl hC (zdk dk_J9_floorDiv_f86c9 20 rfl) (q := 29) rfl ?_
  exact x_lret hE hC (zdk dk_J9_floorDiv_f86c9 21 rfl)
set_option maxRecDepth 100000 in
def f_J9_floorDiv_f86c9 (y0 : Int64) (y2 : Int64) (M : Mem) : Option (Int64 × Mem) := if y2 = 0 then none else (if 0 ≤ lg_cmp (y0 ^^^ y2) 0 then f_J9_floorDiv_f86c9_27 y0 y2 (y0 / y2) M else (if lg_cmp ((y0 / y2) * y2) y0 = 0 then f_J9_floorDiv_f86c9_27 y0 y2 (y0 / y2) M else some ((y0 / y2) - 1, M)))
set_option maxRecDepth 100000 in
set_option maxHeartbeats 4000000 in
theorem x_J9_floorDiv_f86c9 {κ : KX} {n : Nat} (hC : CX κ cJ9_floorDiv_f86c9 RJ9 6 (some .long) 0) (hE : zEnd κ n (0, 0)) (hk0 : zRk κ (0, 0)) (y0 : Int64) (y2 : Int64) (M : Mem) : X κ 6 emL n (0, 0) 0 [.long y0, .null, .long y2, .null, .null, .null] [] M (f_J9_floorDiv_f86c9 y0 y2 M) := by
  unfold f_J9_floorDiv_f86c9
  refine x_lload_n (i := 0) rfl hC (zdk dk_J9_floorDiv_f86c9 0 rfl) (q := 1) rfl ?_
  refine x_lload_n (i := 2) rfl hC (zdk dk_J9_floorDiv_f86c9 1 rfl) (q := 2) rfl ?_
  refine x_ldivG hC (zdk dk_J9_floorDiv_f86c9 2 rfl) (q := 3) rfl ?_
  refine x_lstore (i := 4) (L' := [.long y0, .null, .long y2, .null, .long (y0 / y2), .null]) (by decide) rfl hC (zdk dk_J9_floorDiv_f86c9 3 rfl) (q := 5) rfl ?_
  refine x_lload_n (i := 0) rfl hC (zdk dk_J9_floorDiv_f86c9 4 rfl) (q := 6) rfl ?_
  refine x_lload_n (i := 2) rfl hC (zdk dk_J9_floorDiv_f86c9 5 rfl) (q := 7) rfl ?_
  refine x_lxor hC (zdk dk_J9_floorDiv_f86c9 6 rfl) (q := 8) rfl ?_
  refine x_lconst (i := 0) c_lconst_0 hC (zdk dk_J9_floorDiv_f86c9 7 rfl) (q := 9) rfl ?_
  refine x_lcmp hC (zdk dk_J9_floorDiv_f86c9 8 rfl) (q := 10) rfl ?_
  refine x_if_ge (tgt := 27) hC (zdk dk_J9_floorDiv_f86c9 9 rfl) (q := 13) rfl rfl (fun _ => ?_) (fun _ => ?_)
  · refine x_weak (L' := [.null, .null, .null, .null, .long (y0 / y2), .null]) ⟨Or.inl rfl, Or.inl rfl, Or.inl rfl, Or.inl rfl, Or.inr rfl, Or.inl rfl, trivial⟩ ?_
    exact x_J9_floorDiv_f86c9_27 hC hE hk0 _ _
  · refine x_lload (i := 4) rfl hC (zdk dk_J9_floorDiv_f86c9 10 rfl) (q := 15) rfl ?_
    refine x_lload_n (i := 2) rfl hC (zdk dk_J9_floorDiv_f86c9 11 rfl) (q := 16) rfl ?_
    refine x_lmul hC (zdk dk_J9_floorDiv_f86c9 12 rfl) (q := 17) rfl ?_
    refine x_lload_n (i := 0) rfl hC (zdk dk_J9_floorDiv_f86c9 13 rfl) (q := 18) rfl ?_
    refine x_lcmp hC (zdk dk_J9_floorDiv_f86c9 14 rfl) (q := 19) rfl ?_
    refine x_if_eq (tgt := 27) hC (zdk dk_J9_floorDiv_f86c9 15 rfl) (q := 22) rfl rfl (fun _ => ?_) (fun _ => ?_)
    · refine x_weak (L' := [.null, .null, .null, .null, .long (y0 / y2), .null]) ⟨Or.inl rfl, Or.inl rfl, Or.inl rfl, Or.inl rfl, Or.inr rfl, Or.inl rfl, trivial⟩ ?_
      exact x_J9_floorDiv_f86c9_27 hC hE hk0 _ _
    · refine x_lload (i := 4) rfl hC (zdk dk_J9_floorDiv_f86c9 16 rfl) (q := 24) rfl ?_
      refine x_lconst (i := 1) c_lconst_1 hC (zdk dk_J9_floorDiv_f86c9 17 rfl) (q := 25) rfl ?_
      refine x_lsub hC (zdk dk_J9_floorDiv_f86c9 18 rfl) (q := 26) rfl ?_
      exact x_lret hE hC (zdk dk_J9_floorDiv_f86c9 19 rfl)
set_option maxRecDepth 100000 in
set_option maxHeartbeats 4000000 in
theorem t_J9_floorDiv_f86c9 {n : Nat} {y0 : Int64} {y2 : Int64} {M : Mem}  (x : (Int64 × Mem)) (hx : f_J9_floorDiv_f86c9 y0 y2 M = some x) (l : Launch) (dC : Nat → ClassId) (dI : Nat → Nat → Nat) (b : zSg) : MT l dC dI b yJ9_floorDiv_f86c9 cJ9_floorDiv_f86c9 6 (some .long) 0 0 0 n n [.long y0, .long y2] M (emL x).1 (emL x).2 :=
  MT.ofX (by decide +kernel) rfl (Nat.le_of_ble_eq_true rfl) (fun κ hC hF _ => x_J9_floorDiv_f86c9 hC (zEnd_of hF (Nat.le_refl _) (Nat.le_refl _)) (zRk_of hF (Nat.le_refl _) (Nat.le_refl _)) _ _ _ ) x hx
set_option maxRecDepth 100000 in
def dt_J9_floorMod_f86c9 : List (Nat × Instr × Nat) := [(0, .lload_n 0, 1), (1, .lload_n 2, 1), (2, .lrem, 1), (3, .lstore 4, 2), (5, .lload_n 0, 1), (6, .lload_n 2, 1), (7, .lxor, 1), (8, .lconst 0, 1), (9, .lcmp, 1), (10, .ifCond .ge 15, 3), (13, .lload 4, 2), (15, .lconst 0, 1), (16, .lcmp, 1), (17, .ifCond .eq 8, 3), (20, .lload 4, 2), (22, .lload_n 2, 1), (23, .ladd, 1), (24, .lreturn, 1), (25, .lload 4, 2), (27, .lreturn, 1)]
set_option maxRecDepth 100000 in
theorem dk_J9_floorMod_f86c9 : dt_J9_floorMod_f86c9.all (fun q => decide (decode cJ9_floorMod_f86c9 q.1 = .ok q.2)) = true := by decide +kernel
set_option maxRecDepth 100000 in
def f_J9_floorMod_f86c9_25  (y0 : Int64) (y2 : Int64) (y4 : Int64) (M : Mem) : Option (Int64 × Mem) := some (y4, M)
set_option maxRecDepth 100000 in
set_option maxHeartbeats 4000000 in
theorem x_J9_floorMod_f86c9_25 {κ : KX} {n : Nat} (hC : CX κ cJ9_floorMod_f86c9 RJ9 6 (some .long) 0) (hE : zEnd κ n (0, 0)) (hk0 : zRk κ (0, 0)) {y0 : Int64} {y2 : Int64} (y4 : Int64) (M : Mem) : X κ 6 emL n (0, 0) 25 [.null, .null, .null, .null, .long y4, .null] [] M (f_J9_floorMod_f86c9_25 y0 y2 y4 M) := by
  unfold f_J9_floorMod_f86c9_25
  refine x_lload (i := 4) rfl hC (zdk dk_J9_floorMod_f86c9 18 rfl) (q := 27) rfl ?_
  exact x_lret hE hC (zdk dk_J9_floorMod_f86c9 19 rfl)
set_option maxRecDepth 100000 in
def f_J9_floorMod_f86c9 (y0 : Int64) (y2 : Int64) (M : Mem) : Option (Int64 × Mem) := if y2 = 0 then none else (if 0 ≤ lg_cmp (y0 ^^^ y2) 0 then f_J9_floorMod_f86c9_25 y0 y2 (zlrem y0 y2) M else (if lg_cmp (zlrem y0 y2) 0 = 0 then f_J9_floorMod_f86c9_25 y0 y2 (zlrem y0 y2) M else some ((zlrem y0 y2) + y2, M)))
set_option maxRecDepth 100000 in
set_option maxHeartbeats 4000000 in
theorem x_J9_floorMod_f86c9 {κ : KX} {n : Nat} (hC : CX κ cJ9_floorMod_f86c9 RJ9 6 (some .long) 0) (hE : zEnd κ n (0, 0)) (hk0 : zRk κ (0, 0)) (y0 : Int64) (y2 : Int64) (M : Mem) : X κ 6 emL n (0, 0) 0 [.long y0, .null, .long y2, .null, .null, .null] [] M (f_J9_floorMod_f86c9 y0 y2 M) := by
  unfold f_J9_floorMod_f86c9
  refine x_lload_n (i := 0) rfl hC (zdk dk_J9_floorMod_f86c9 0 rfl) (q := 1) rfl ?_
  refine x_lload_n (i := 2) rfl hC (zdk dk_J9_floorMod_f86c9 1 rfl) (q := 2) rfl ?_
  refine x_lremG hC (zdk dk_J9_floorMod_f86c9 2 rfl) (q := 3) rfl ?_
  refine x_lstore (i := 4) (L' := [.long y0, .null, .long y2, .null, .long (zlrem y0 y2), .null]) (by decide) rfl hC (zdk dk_J9_floorMod_f86c9 3 rfl) (q := 5) rfl ?_
  refine x_lload_n (i := 0) rfl hC (zdk dk_J9_floorMod_f86c9 4 rfl) (q := 6) rfl ?_
  refine x_lload_n (i := 2) rfl hC (zdk dk_J9_floorMod_f86c9 5 rfl) (q := 7) rfl ?_
  refine x_lxor hC (zdk dk_J9_floorMod_f86c9 6 rfl) (q := 8) rfl ?_
  refine x_lconst (i := 0) c_lconst_0 hC (zdk dk_J9_floorMod_f86c9 7 rfl) (q := 9) rfl ?_
  refine x_lcmp hC (zdk dk_J9_floorMod_f86c9 8 rfl) (q := 10) rfl ?_
  refine x_if_ge (tgt := 25) hC (zdk dk_J9_floorMod_f86c9 9 rfl) (q := 13) rfl rfl (fun _ => ?_) (fun _ => ?_)
  · refine x_weak (L' := [.null, .null, .null, .null, .long (zlrem y0 y2), .null]) ⟨Or.inl rfl, Or.inl rfl, Or.inl rfl, Or.inl rfl, Or.inr rfl, Or.inl rfl, trivial⟩ ?_
    exact x_J9_floorMod_f86c9_25 hC hE hk0 _ _
  · refine x_lload (i := 4) rfl hC (zdk dk_J9_floorMod_f86c9 10 rfl) (q := 15) rfl ?_
    refine x_lconst (i := 0) c_lconst_0 hC (zdk dk_J9_floorMod_f86c9 11 rfl) (q := 16) rfl ?_
    refine x_lcmp hC (zdk dk_J9_floorMod_f86c9 12 rfl) (q := 17) rfl ?_
    refine x_if_eq (tgt := 25) hC (zdk dk_J9_floorMod_f86c9 13 rfl) (q := 20) rfl rfl (fun _ => ?_) (fun _ => ?_)
    · refine x_weak (L' := [.null, .null, .null, .null, .long (zlrem y0 y2), .null]) ⟨Or.inl rfl, Or.inl rfl, Or.inl rfl, Or.inl rfl, Or.inr rfl, Or.inl rfl, trivial⟩ ?_
      exact x_J9_floorMod_f86c9_25 hC hE hk0 _ _
    · refine x_lload (i := 4) rfl hC (zdk dk_J9_floorMod_f86c9 14 rfl) (q := 22) rfl ?_
      refine x_lload_n (i := 2) rfl hC (zdk dk_J9_floorMod_f86c9 15 rfl) (q := 23) rfl ?_
      refine x_ladd hC (zdk dk_J9_floorMod_f86c9 16 rfl) (q := 24) rfl ?_
      exact x_lret hE hC (zdk dk_J9_floorMod_f86c9 17 rfl)
set_option maxRecDepth 100000 in
set_option maxHeartbeats 4000000 in
theorem t_J9_floorMod_f86c9 {n : Nat} {y0 : Int64} {y2 : Int64} {M : Mem}  (x : (Int64 × Mem)) (hx : f_J9_floorMod_f86c9 y0 y2 M = some x) (l : Launch) (dC : Nat → ClassId) (dI : Nat → Nat → Nat) (b : zSg) : MT l dC dI b yJ9_floorMod_f86c9 cJ9_floorMod_f86c9 6 (some .long) 0 0 0 n n [.long y0, .long y2] M (emL x).1 (emL x).2 :=
  MT.ofX (by decide +kernel) rfl (Nat.le_of_ble_eq_true rfl) (fun κ hC hF _ => x_J9_floorMod_f86c9 hC (zEnd_of hF (Nat.le_refl _) (Nat.le_refl _)) (zRk_of hF (Nat.le_refl _) (Nat.le_refl _)) _ _ _ ) x hx
set_option maxRecDepth 100000 in
def dt_J9_max_7cf53 : List (Nat × Instr × Nat) := [(0, .iload_n 0, 1), (1, .iload_n 1, 1), (2, .if_icmp .lt 7, 3), (5, .iload_n 0, 1), (6, .goto 4, 3), (9, .iload_n 1, 1), (10, .ireturn, 1)]
set_option maxRecDepth 100000 in
theorem dk_J9_max_7cf53 : dt_J9_max_7cf53.all (fun q => decide (decode cJ9_max_7cf53 q.1 = .ok q.2)) = true := by decide +kernel
set_option maxRecDepth 100000 in
def f_J9_max_7cf53_10  (x0 : Int32) (x1 : Int32) (s0 : Int32) (M : Mem) : Option (Int32 × Mem) := some (s0, M)
set_option maxRecDepth 100000 in
set_option maxHeartbeats 4000000 in
theorem x_J9_max_7cf53_10 {κ : KX} {n : Nat} (hC : CX κ cJ9_max_7cf53 RJ9 2 (some .int) 0) (hE : zEnd κ n (0, 0)) (hk0 : zRk κ (0, 0)) {x0 : Int32} {x1 : Int32} (s0 : Int32) (M : Mem) : X κ 2 emI n (0, 0) 10 [.null, .null] [.int s0] M (f_J9_max_7cf53_10 x0 x1 s0 M) := by
  unfold f_J9_max_7cf53_10
  exact x_iret (ty := .int) rfl hE hC (zdk dk_J9_max_7cf53 6 rfl)
set_option maxRecDepth 100000 in
def f_J9_max_7cf53 (x0 : Int32) (x1 : Int32) (M : Mem) : Option (Int32 × Mem) := (if x0 < x1 then f_J9_max_7cf53_10 x0 x1 x1 M else f_J9_max_7cf53_10 x0 x1 x0 M)
set_option maxRecDepth 100000 in
set_option maxHeartbeats 4000000 in
theorem x_J9_max_7cf53 {κ : KX} {n : Nat} (hC : CX κ cJ9_max_7cf53 RJ9 2 (some .int) 0) (hE : zEnd κ n (0, 0)) (hk0 : zRk κ (0, 0)) (x0 : Int32) (x1 : Int32) (M : Mem) : X κ 2 emI n (0, 0) 0 [.int x0, .int x1] [] M (f_J9_max_7cf53 x0 x1 M) := by
  unfold f_J9_max_7cf53
  refine x_iload_n (i := 0) rfl hC (zdk dk_J9_max_7cf53 0 rfl) (q := 1) rfl ?_
  refine x_iload_n (i := 1) rfl hC (zdk dk_J9_max_7cf53 1 rfl) (q := 2) rfl ?_
  refine x_icmp_lt (tgt := 9) hC (zdk dk_J9_max_7cf53 2 rfl) (q := 5) rfl rfl (fun _ => ?_) (fun _ => ?_)
  · refine x_iload_n (i := 1) rfl hC (zdk dk_J9_max_7cf53 5 rfl) (q := 10) rfl ?_
    refine x_weak (L' := [.null, .null]) ⟨Or.inl rfl, Or.inl rfl, trivial⟩ ?_
    exact x_J9_max_7cf53_10 hC hE hk0 _ _
  · refine x_iload_n (i := 0) rfl hC (zdk dk_J9_max_7cf53 3 rfl) (q := 6) rfl ?_
    refine x_goto (tgt := 10) hC (zdk dk_J9_max_7cf53 4 rfl) rfl ?_
    refine x_weak (L' := [.null, .null]) ⟨Or.inl rfl, Or.inl rfl, trivial⟩ ?_
    exact x_J9_max_7cf53_10 hC hE hk0 _ _
set_option maxRecDepth 100000 in
set_option maxHeartbeats 4000000 in
theorem t_J9_max_7cf53 {n : Nat} {x0 : Int32} {x1 : Int32} {M : Mem}  (x : (Int32 × Mem)) (hx : f_J9_max_7cf53 x0 x1 M = some x) (l : Launch) (dC : Nat → ClassId) (dI : Nat → Nat → Nat) (b : zSg) : MT l dC dI b yJ9_max_7cf53 cJ9_max_7cf53 2 (some .int) 0 0 0 n n [.int x0, .int x1] M (emI x).1 (emI x).2 :=
  MT.ofX (by decide +kernel) rfl (Nat.le_of_ble_eq_true rfl) (fun κ hC hF _ => x_J9_max_7cf53 hC (zEnd_of hF (Nat.le_refl _) (Nat.le_refl _)) (zRk_of hF (Nat.le_refl _) (Nat.le_refl _)) _ _ _ ) x hx
set_option maxRecDepth 100000 in
def dt_J9_min_7cf53 : List (Nat × Instr × Nat) := [(0, .iload_n 0, 1), (1, .iload_n 1, 1), (2, .if_icmp .gt 7, 3), (5, .iload_n 0, 1), (6, .goto 4, 3), (9, .iload_n 1, 1), (10, .ireturn, 1)]
set_option maxRecDepth 100000 in
theorem dk_J9_min_7cf53 : dt_J9_min_7cf53.all (fun q => decide (decode cJ9_min_7cf53 q.1 = .ok q.2)) = true := by decide +kernel
set_option maxRecDepth 100000 in
def f_J9_min_7cf53_10  (x0 : Int32) (x1 : Int32) (s0 : Int32) (M : Mem) : Option (Int32 × Mem) := some (s0, M)
set_option maxRecDepth 100000 in
set_option maxHeartbeats 4000000 in
theorem x_J9_min_7cf53_10 {κ : KX} {n : Nat} (hC : CX κ cJ9_min_7cf53 RJ9 2 (some .int) 0) (hE : zEnd κ n (0, 0)) (hk0 : zRk κ (0, 0)) {x0 : Int32} {x1 : Int32} (s0 : Int32) (M : Mem) : X κ 2 emI n (0, 0) 10 [.null, .null] [.int s0] M (f_J9_min_7cf53_10 x0 x1 s0 M) := by
  unfold f_J9_min_7cf53_10
  exact x_iret (ty := .int) rfl hE hC (zdk dk_J9_min_7cf53 6 rfl)
set_option maxRecDepth 100000 in
def f_J9_min_7cf53 (x0 : Int32) (x1 : Int32) (M : Mem) : Option (Int32 × Mem) := (if x1 < x0 then f_J9_min_7cf53_10 x0 x1 x1 M else f_J9_min_7cf53_10 x0 x1 x0 M)
set_option maxRecDepth 100000 in
set_option maxHeartbeats 4000000 in
theorem x_J9_min_7cf53 {κ : KX} {n : Nat} (hC : CX κ cJ9_min_7cf53 RJ9 2 (some .int) 0) (hE : zEnd κ n (0, 0)) (hk0 : zRk κ (0, 0)) (x0 : Int32) (x1 : Int32) (M : Mem) : X κ 2 emI n (0, 0) 0 [.int x0, .int x1] [] M (f_J9_min_7cf53 x0 x1 M) := by
  unfold f_J9_min_7cf53
  refine x_iload_n (i := 0) rfl hC (zdk dk_J9_min_7cf53 0 rfl) (q := 1) rfl ?_
  refine x_iload_n (i := 1) rfl hC (zdk dk_J9_min_7cf53 1 rfl) (q := 2) rfl ?_
  refine x_icmp_gt (tgt := 9) hC (zdk dk_J9_min_7cf53 2 rfl) (q := 5) rfl rfl (fun _ => ?_) (fun _ => ?_)
  · refine x_iload_n (i := 1) rfl hC (zdk dk_J9_min_7cf53 5 rfl) (q := 10) rfl ?_
    refine x_weak (L' := [.null, .null]) ⟨Or.inl rfl, Or.inl rfl, trivial⟩ ?_
    exact x_J9_min_7cf53_10 hC hE hk0 _ _
  · refine x_iload_n (i := 0) rfl hC (zdk dk_J9_min_7cf53 3 rfl) (q := 6) rfl ?_
    refine x_goto (tgt := 10) hC (zdk dk_J9_min_7cf53 4 rfl) rfl ?_
    refine x_weak (L' := [.null, .null]) ⟨Or.inl rfl, Or.inl rfl, trivial⟩ ?_
    exact x_J9_min_7cf53_10 hC hE hk0 _ _
set_option maxRecDepth 100000 in
set_option maxHeartbeats 4000000 in
theorem t_J9_min_7cf53 {n : Nat} {x0 : Int32} {x1 : Int32} {M : Mem}  (x : (Int32 × Mem)) (hx : f_J9_min_7cf53 x0 x1 M = some x) (l : Launch) (dC : Nat → ClassId) (dI : Nat → Nat → Nat) (b : zSg) : MT l dC dI b yJ9_min_7cf53 cJ9_min_7cf53 2 (some .int) 0 0 0 n n [.int x0, .int x1] M (emI x).1 (emI x).2 :=
  MT.ofX (by decide +kernel) rfl (Nat.le_of_ble_eq_true rfl) (fun κ hC hF _ => x_J9_min_7cf53 hC (zEnd_of hF (Nat.le_refl _) (Nat.le_refl _)) (zRk_of hF (Nat.le_refl _) (Nat.le_refl _)) _ _ _ ) x hx
