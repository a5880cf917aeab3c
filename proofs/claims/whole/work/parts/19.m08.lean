set_option maxRecDepth 100000 in
def dt_X11_addNoise : List (Nat × Instr × Nat) := [(0, .iconst 0, 1), (1, .istore_n 1, 1), (2, .iconst 0, 1), (3, .istore_n 2, 1), (4, .iload_n 2, 1), (5, .aload_n 0, 1), (6, .getfield 82, 3), (9, .getfield 159, 3), (12, .if_icmp .ge 69, 3), (15, .aload_n 0, 1), (16, .getfield 42, 3), (19, .getfield 224, 3), (22, .iload_n 2, 1), (23, .aaload, 1), (24, .getfield 227, 3), (27, .ifCond .eq 48, 3), (30, .aload_n 0, 1), (31, .bipush 100, 2), (33, .invokevirtual 394, 3), (36, .aload_n 0, 1), (37, .getfield 82, 3), (40, .getfield 327, 3), (43, .if_icmp .ge 32, 3), (46, .aload_n 0, 1), (47, .getfield 42, 3), (50, .getfield 224, 3), (53, .iload_n 2, 1), (54, .aaload, 1), (55, .aload_n 0, 1), (56, .aload_n 0, 1), (57, .getfield 82, 3), (60, .getfield 141, 3), (63, .getfield 153, 3), (66, .invokevirtual 394, 3), (69, .invokevirtual 324, 3), (72, .iinc 1 1, 3), (75, .iinc 2 1, 3), (78, .goto (-74), 3), (81, .iload_n 1, 1), (82, .ireturn, 1)]
set_option maxRecDepth 100000 in
theorem dk_X11_addNoise : dt_X11_addNoise.all (fun q => decide (decode cX11_addNoise q.1 = .ok q.2)) = true := by decide +kernel
set_option maxRecDepth 100000 in
def f_X11_addNoise_75 (k4 : Int32 → Int32 → Mem → Option (Int32 × Mem)) (r0 : Nat) (x1 : Int32) (x2 : Int32) (M : Mem) : Option (Int32 × Mem) := k4 x1 (x2 + 1) M
set_option maxRecDepth 100000 in
set_option maxHeartbeats 4000000 in
theorem x_X11_addNoise_75 {κ : KX} {n : Nat} (hC : CX κ cX11_addNoise RX11 3 (some .int) 1) (hE : zEnd κ n (0, 0)) (hk0 : zRk κ (0, 0)) {r0 : Nat} (h_r0 : zO n r0 11) (k4 : Int32 → Int32 → Mem → Option (Int32 × Mem)) (hk4 : ∀ (x1 : Int32) (x2 : Int32) (M : Mem), X κ 3 emI n (0, 0) 4 [.ref r0, .int x1, .int x2] [] M (k4 x1 x2 M)) (x1 : Int32) (x2 : Int32) (M : Mem) : X κ 3 emI n (0, 0) 75 [.ref r0, .int x1, .int x2] [] M (f_X11_addNoise_75 k4 r0 x1 x2 M) := by
  unfold f_X11_addNoise_75
  refine x_iinc (i := 2) c_iconst_1 rfl (by decide) (L' := [.ref r0, .int x1, .int (x2 + 1)]) rfl hC (zdk dk_X11_addNoise 36 rfl) (q := 78) rfl ?_
  refine x_goto (tgt := 4) hC (zdk dk_X11_addNoise 37 rfl) rfl ?_
  refine x_weak (L' := [.ref r0, .int x1, .int (x2 + 1)]) ⟨Or.inr rfl, Or.inr rfl, Or.inr rfl, trivial⟩ ?_
  exact hk4 _ _ _
set_option maxRecDepth 100000 in
def f_X11_addNoise_4  (r0 : Nat) : Nat → Int32 → Int32 → Mem → Option (Int32 × Mem)
  | 0, _, _, _ => none
  | f + 1, x1, x2, M => Option.bind (zrf M r0 11) fun q1 => (if zI M q1 9 ≤ x2 then some (x1, M) else Option.bind (zrf M r0 5) fun q2 => Option.bind (zrf M q2 0) fun q3 => Option.bind (zld q3 x2) fun k4 => Option.bind (zrf M q3 k4) fun q5 => (if zI M q5 2 = 0 then f_X11_addNoise_75 (f_X11_addNoise_4 r0 f) r0 x1 x2 M else Option.bind (f_X11_draw r0 100 M) fun z6 => Option.bind (zrf z6.2 r0 11) fun q7 => (if zI z6.2 q7 14 ≤ z6.1 then f_X11_addNoise_75 (f_X11_addNoise_4 r0 f) r0 x1 x2 z6.2 else Option.bind (zrf z6.2 r0 5) fun q8 => Option.bind (zrf z6.2 q8 0) fun q9 => Option.bind (zld q9 x2) fun k10 => Option.bind (zrf z6.2 q9 k10) fun q11 => Option.bind (zrf z6.2 r0 11) fun q12 => Option.bind (zrf z6.2 q12 0) fun q13 => Option.bind (f_X11_draw r0 (zI z6.2 q13 10) z6.2) fun z14 => Option.bind (f_X8_turn q11 z14.1 z14.2) fun M15 => f_X11_addNoise_75 (f_X11_addNoise_4 r0 f) r0 (x1 + 1) x2 M15)))
set_option maxRecDepth 100000 in
set_option maxHeartbeats 4000000 in
theorem x_X11_addNoise_4 {κ : KX} {n : Nat} (hC : CX κ cX11_addNoise RX11 3 (some .int) 1) (hE : zEnd κ n (0, 0)) (hk0 : zRk κ (0, 0)) {r0 : Nat} (h_r0 : zO n r0 11) : ∀ (f : Nat) (x1 : Int32) (x2 : Int32) (M : Mem), X κ 3 emI n (0, 0) 4 [.ref r0, .int x1, .int x2] [] M (f_X11_addNoise_4 r0 f x1 x2 M) := by
  intro f
  induction f with
  | zero => intros; exact x_none
  | succ f ih =>
    intro x1 x2 M 
    rw [f_X11_addNoise_4]
    refine x_iload_n (i := 2) rfl hC (zdk dk_X11_addNoise 4 rfl) (q := 5) rfl ?_
    refine x_aload_n (i := 0) rfl hC (zdk dk_X11_addNoise 5 rfl) (q := 6) rfl ?_
    refine x_getR (k := 0) fl_RX11_82 rfl h_r0 hC (zdk dk_X11_addNoise 6 rfl) (q := 9) rfl (fun q1 hq1 => ?_)
    refine x_getI fl_RX11_159 (by decide) hq1 hC (zdk dk_X11_addNoise 7 rfl) (q := 12) rfl ?_
    refine x_icmp_ge (tgt := 81) hC (zdk dk_X11_addNoise 8 rfl) (q := 15) rfl rfl (fun _ => ?_) (fun _ => ?_)
    · refine x_iload_n (i := 1) rfl hC (zdk dk_X11_addNoise 38 rfl) (q := 82) rfl ?_
      exact x_iret (ty := .int) rfl hE hC (zdk dk_X11_addNoise 39 rfl)
    · refine x_aload_n (i := 0) rfl hC (zdk dk_X11_addNoise 9 rfl) (q := 16) rfl ?_
      refine x_getR (k := 5) fl_RX11_42 rfl h_r0 hC (zdk dk_X11_addNoise 10 rfl) (q := 19) rfl (fun q2 hq2 => ?_)
      refine x_getR (k := 23) fl_RX11_224 rfl hq2 hC (zdk dk_X11_addNoise 11 rfl) (q := 22) rfl (fun q3 hq3 => ?_)
      refine x_iload_n (i := 2) rfl hC (zdk dk_X11_addNoise 12 rfl) (q := 23) rfl ?_
      refine x_aald (kd := 23) (ke := 8) hq3 (by decide) rfl hC (zdk dk_X11_addNoise 13 rfl) (q := 24) rfl (fun k4 _ q5 hq5 => ?_)
      refine x_getI fl_RX11_227 (by decide) hq5 hC (zdk dk_X11_addNoise 14 rfl) (q := 27) rfl ?_
      refine x_if_eq (tgt := 75) hC (zdk dk_X11_addNoise 15 rfl) (q := 30) rfl rfl (fun _ => ?_) (fun _ => ?_)
      · refine x_weak (L' := [.ref r0, .int x1, .int x2]) ⟨Or.inr rfl, Or.inr rfl, Or.inr rfl, trivial⟩ ?_
        exact x_X11_addNoise_75 hC hE hk0 h_r0 (f_X11_addNoise_4 r0 f) ih _ _ _
      · refine x_aload_n (i := 0) rfl hC (zdk dk_X11_addNoise 16 rfl) (q := 31) rfl ?_
        refine x_bipush (i := 100) c_bipush_100 hC (zdk dk_X11_addNoise 17 rfl) (q := 33) rfl ?_
        refine x_callVi (as := [.int 100]) cb_RX11_394 rfl (by decide) hk0 h_r0 (fun x hx => t_X11_draw h_r0 x hx) hC (zdk dk_X11_addNoise 18 rfl) (q := 36) rfl rfl (Nat.le_of_ble_eq_true rfl) (fun z6 => ?_)
        refine x_aload_n (i := 0) rfl hC (zdk dk_X11_addNoise 19 rfl) (q := 37) rfl ?_
        refine x_getR (k := 0) fl_RX11_82 rfl h_r0 hC (zdk dk_X11_addNoise 20 rfl) (q := 40) rfl (fun q7 hq7 => ?_)
        refine x_getI fl_RX11_327 (by decide) hq7 hC (zdk dk_X11_addNoise 21 rfl) (q := 43) rfl ?_
        refine x_icmp_ge (tgt := 75) hC (zdk dk_X11_addNoise 22 rfl) (q := 46) rfl rfl (fun _ => ?_) (fun _ => ?_)
        · refine x_weak (L' := [.ref r0, .int x1, .int x2]) ⟨Or.inr rfl, Or.inr rfl, Or.inr rfl, trivial⟩ ?_
          exact x_X11_addNoise_75 hC hE hk0 h_r0 (f_X11_addNoise_4 r0 f) ih _ _ _
        · refine x_aload_n (i := 0) rfl hC (zdk dk_X11_addNoise 23 rfl) (q := 47) rfl ?_
          refine x_getR (k := 5) fl_RX11_42 rfl h_r0 hC (zdk dk_X11_addNoise 24 rfl) (q := 50) rfl (fun q8 hq8 => ?_)
          refine x_getR (k := 23) fl_RX11_224 rfl hq8 hC (zdk dk_X11_addNoise 25 rfl) (q := 53) rfl (fun q9 hq9 => ?_)
          refine x_iload_n (i := 2) rfl hC (zdk dk_X11_addNoise 26 rfl) (q := 54) rfl ?_
          refine x_aald (kd := 23) (ke := 8) hq9 (by decide) rfl hC (zdk dk_X11_addNoise 27 rfl) (q := 55) rfl (fun k10 _ q11 hq11 => ?_)
          refine x_aload_n (i := 0) rfl hC (zdk dk_X11_addNoise 28 rfl) (q := 56) rfl ?_
          refine x_aload_n (i := 0) rfl hC (zdk dk_X11_addNoise 29 rfl) (q := 57) rfl ?_
          refine x_getR (k := 0) fl_RX11_82 rfl h_r0 hC (zdk dk_X11_addNoise 30 rfl) (q := 60) rfl (fun q12 hq12 => ?_)
          refine x_getR (k := 1) fl_RX11_141 rfl hq12 hC (zdk dk_X11_addNoise 31 rfl) (q := 63) rfl (fun q13 hq13 => ?_)
          refine x_getI fl_RX11_153 (by decide) hq13 hC (zdk dk_X11_addNoise 32 rfl) (q := 66) rfl ?_
          refine x_callVi (as := [.int (zI z6.2 q13 10)]) cb_RX11_394 rfl (by decide) hk0 h_r0 (fun x hx => t_X11_draw h_r0 x hx) hC (zdk dk_X11_addNoise 33 rfl) (q := 69) rfl rfl (Nat.le_of_ble_eq_true rfl) (fun z14 => ?_)
          refine x_callVv (as := [.int z14.1]) cb_RX11_324 rfl (by decide) hk0 hq11 (fun x hx => t_X8_turn hq11 x hx) hC (zdk dk_X11_addNoise 34 rfl) (q := 72) rfl rfl (Nat.le_of_ble_eq_true rfl) (fun M15 => ?_)
          refine x_iinc (i := 1) c_iconst_1 rfl (by decide) (L' := [.ref r0, .int (x1 + 1), .int x2]) rfl hC (zdk dk_X11_addNoise 35 rfl) (q := 75) rfl ?_
          refine x_weak (L' := [.ref r0, .int (x1 + 1), .int x2]) ⟨Or.inr rfl, Or.inr rfl, Or.inr rfl, trivial⟩ ?_
          exact x_X11_addNoise_75 hC hE hk0 h_r0 (f_X11_addNoise_4 r0 f) ih _ _ _
set_option maxRecDepth 100000 in
def f_X11_addNoise (r0 : Nat) (M : Mem) : Option (Int32 × Mem) := f_X11_addNoise_4 r0 1000000 0 0 M
set_option maxRecDepth 100000 in
set_option maxHeartbeats 4000000 in
theorem x_X11_addNoise {κ : KX} {n : Nat} (hC : CX κ cX11_addNoise RX11 3 (some .int) 1) (hE : zEnd κ n (0, 0)) (hk0 : zRk κ (0, 0)) (r0 : Nat) (M : Mem) (h_r0 : zO n r0 11) : X κ 3 emI n (0, 0) 0 [.ref r0, .null, .null] [] M (f_X11_addNoise r0 M) := by
  unfold f_X11_addNoise
  refine x_iconst (i := 0) c_iconst_0 hC (zdk dk_X11_addNoise 0 rfl) (q := 1) rfl ?_
  refine x_istore_n (i := 1) (L' := [.ref r0, .int 0, .null]) (by decide) rfl hC (zdk dk_X11_addNoise 1 rfl) (q := 2) rfl ?_
  refine x_iconst (i := 0) c_iconst_0 hC (zdk dk_X11_addNoise 2 rfl) (q := 3) rfl ?_
  refine x_istore_n (i := 2) (L' := [.ref r0, .int 0, .int 0]) (by decide) rfl hC (zdk dk_X11_addNoise 3 rfl) (q := 4) rfl ?_
  refine x_weak (L' := [.ref r0, .int 0, .int 0]) ⟨Or.inr rfl, Or.inr rfl, Or.inr rfl, trivial⟩ ?_
  exact x_X11_addNoise_4 hC hE hk0 h_r0 _ _ _ _
set_option maxRecDepth 100000 in
set_option maxHeartbeats 4000000 in
theorem t_X11_addNoise {n : Nat} {r0 : Nat} {M : Mem} (h_r0 : zO n r0 11) (x : (Int32 × Mem)) (hx : f_X11_addNoise r0 M = some x) (l : Launch) (dC : Nat → ClassId) (dI : Nat → Nat → Nat) (b : zSg) : MT l dC dI b yX11_addNoise cX11_addNoise 3 (some .int) 1 0 0 n n [.ref r0] M (emI x).1 (emI x).2 :=
  MT.ofX (by decide +kernel) rfl (Nat.le_of_ble_eq_true rfl) (fun κ hC hF _ => x_X11_addNoise hC (zEnd_of hF (Nat.le_refl _) (Nat.le_refl _)) (zRk_of hF (Nat.le_refl _) (Nat.le_refl _)) _ _ h_r0) x hx
set_option maxRecDepth 100000 in
def dt_X11_chance : List (Nat × Instr × Nat) := [(0, .aload_n 0, 1), (1, .getfield 120, 3), (4, .ifCond .eq 16, 3), (7, .iload_n 1, 1), (8, .iconst 1, 1), (9, .if_icmp .lt 11, 3), (12, .aload_n 0, 1), (13, .iload_n 1, 1), (14, .invokevirtual 248, 3), (17, .ifCond .ne 9, 3), (20, .aload_n 0, 1), (21, .iconst 2, 1), (22, .invokevirtual 105, 3), (25, .ireturn, 1), (26, .aload_n 0, 1), (27, .getfield 61, 3), (30, .aload_n 0, 1), (31, .getfield 42, 3), (34, .invokevirtual 353, 3), (37, .iconst 0, 1), (38, .istore_n 2, 1), (39, .iconst 0, 1), (40, .istore_n 3, 1), (41, .iload_n 3, 1), (42, .iload_n 1, 1), (43, .if_icmp .ge 20, 3), (46, .aload_n 0, 1), (47, .invokevirtual 366, 3), (50, .iload_n 2, 1), (51, .aload_n 0, 1), (52, .invokevirtual 368, 3), (55, .iadd, 1), (56, .istore_n 2, 1), (57, .iinc 3 1, 3), (60, .goto (-19), 3), (63, .iload_n 2, 1), (64, .ireturn, 1)]
set_option maxRecDepth 100000 in
theorem dk_X11_chance : dt_X11_chance.all (fun q => decide (decode cX11_chance q.1 = .ok q.2)) = true := by decide +kernel
set_option maxRecDepth 100000 in
def f_X11_chance_20  (r0 : Nat) (x1 : Int32)  (M : Mem) : Option (Int32 × Mem) := Option.bind (f_X11_refuse r0 2 M) fun z1 => some (z1.1, z1.2)
set_option maxRecDepth 100000 in
set_option maxHeartbeats 4000000 in
theorem x_X11_chance_20 {κ : KX} {n : Nat} (hC : CX κ cX11_chance RX11 4 (some .int) 7) (hE : zEnd κ n (0, 0)) (hk0 : zRk κ (0, 0)) {r0 : Nat} {x1 : Int32} (h_r0 : zO n r0 11) (M : Mem) : X κ 4 emI n (0, 0) 20 [.ref r0, .null, .null, .null] [] M (f_X11_chance_20 r0 x1 M) := by
  unfold f_X11_chance_20
  refine x_aload_n (i := 0) rfl hC (zdk dk_X11_chance 10 rfl) (q := 21) rfl ?_
  refine x_iconst (i := 2) c_iconst_2 hC (zdk dk_X11_chance 11 rfl) (q := 22) rfl ?_
  refine x_callVi (as := [.int 2]) cb_RX11_105 rfl (by decide) hk0 h_r0 (fun x hx => t_X11_refuse h_r0 x hx) hC (zdk dk_X11_chance 12 rfl) (q := 25) rfl rfl (Nat.le_of_ble_eq_true rfl) (fun z1 => ?_)
  exact x_iret (ty := .int) rfl hE hC (zdk dk_X11_chance 13 rfl)
set_option maxRecDepth 100000 in
def f_X11_chance_41  (r0 : Nat) (x1 : Int32) : Nat → Int32 → Int32 → Mem → Option (Int32 × Mem)
  | 0, _, _, _ => none
  | f + 1, x2, x3, M => (if x1 ≤ x3 then some (x2, M) else Option.bind (f_X11_passDay r0 M) fun M2 => Option.bind (f_X11_addNoise r0 M2) fun z3 => (f_X11_chance_41 r0 x1 f) (x2 + z3.1) (x3 + 1) z3.2)
set_option maxRecDepth 100000 in
set_option maxHeartbeats 4000000 in
theorem x_X11_chance_41 {κ : KX} {n : Nat} (hC : CX κ cX11_chance RX11 4 (some .int) 7) (hE : zEnd κ n (0, 0)) (hk0 : zRk κ (0, 0)) {r0 : Nat} {x1 : Int32} (h_r0 : zO n r0 11) : ∀ (f : Nat) (x2 : Int32) (x3 : Int32) (M : Mem), X κ 4 emI n (0, 0) 41 [.ref r0, .int x1, .int x2, .int x3] [] M (f_X11_chance_41 r0 x1 f x2 x3 M) := by
  intro f
  induction f with
  | zero => intros; exact x_none
  | succ f ih =>
    intro x2 x3 M 
    rw [f_X11_chance_41]
    refine x_iload_n (i := 3) rfl hC (zdk dk_X11_chance 23 rfl) (q := 42) rfl ?_
    refine x_iload_n (i := 1) rfl hC (zdk dk_X11_chance 24 rfl) (q := 43) rfl ?_
    refine x_icmp_ge (tgt := 63) hC (zdk dk_X11_chance 25 rfl) (q := 46) rfl rfl (fun _ => ?_) (fun _ => ?_)
    · refine x_iload_n (i := 2) rfl hC (zdk dk_X11_chance 35 rfl) (q := 64) rfl ?_
      exact x_iret (ty := .int) rfl hE hC (zdk dk_X11_chance 36 rfl)
    · refine x_aload_n (i := 0) rfl hC (zdk dk_X11_chance 26 rfl) (q := 47) rfl ?_
      refine x_callVv (as := []) cb_RX11_366 rfl (by decide) hk0 h_r0 (fun x hx => t_X11_passDay h_r0 x hx) hC (zdk dk_X11_chance 27 rfl) (q := 50) rfl rfl (Nat.le_of_ble_eq_true rfl) (fun M2 => ?_)
      refine x_iload_n (i := 2) rfl hC (zdk dk_X11_chance 28 rfl) (q := 51) rfl ?_
      refine x_aload_n (i := 0) rfl hC (zdk dk_X11_chance 29 rfl) (q := 52) rfl ?_
      refine x_callVi (as := []) cb_RX11_368 rfl (by decide) hk0 h_r0 (fun x hx => t_X11_addNoise h_r0 x hx) hC (zdk dk_X11_chance 30 rfl) (q := 55) rfl rfl (Nat.le_of_ble_eq_true rfl) (fun z3 => ?_)
      refine x_iadd hC (zdk dk_X11_chance 31 rfl) (q := 56) rfl ?_
      refine x_istore_n (i := 2) (L' := [.ref r0, .int x1, .int (x2 + z3.1), .int x3]) (by decide) rfl hC (zdk dk_X11_chance 32 rfl) (q := 57) rfl ?_
      refine x_iinc (i := 3) c_iconst_1 rfl (by decide) (L' := [.ref r0, .int x1, .int (x2 + z3.1), .int (x3 + 1)]) rfl hC (zdk dk_X11_chance 33 rfl) (q := 60) rfl ?_
      refine x_goto (tgt := 41) hC (zdk dk_X11_chance 34 rfl) rfl ?_
      refine x_weak (L' := [.ref r0, .int x1, .int (x2 + z3.1), .int (x3 + 1)]) ⟨Or.inr rfl, Or.inr rfl, Or.inr rfl, Or.inr rfl, trivial⟩ ?_
      exact ih _ _ _
set_option maxRecDepth 100000 in
def f_X11_chance (r0 : Nat) (x1 : Int32) (M : Mem) : Option (Int32 × Mem) := (if zI M r0 14 = 0 then f_X11_chance_20 r0 x1 M else (if x1 < 1 then f_X11_chance_20 r0 x1 M else Option.bind (f_X11_daysFit r0 x1 M) fun z4 => (if z4.1 = 0 then f_X11_chance_20 r0 x1 z4.2 else Option.bind (zrf z4.2 r0 8) fun q5 => Option.bind (zrf z4.2 r0 5) fun q6 => Option.bind (f_X7_save q5 q6 z4.2) fun M7 => f_X11_chance_41 r0 x1 1000000 0 0 M7)))
set_option maxRecDepth 100000 in
set_option maxHeartbeats 4000000 in
theorem x_X11_chance {κ : KX} {n : Nat} (hC : CX κ cX11_chance RX11 4 (some .int) 7) (hE : zEnd κ n (0, 0)) (hk0 : zRk κ (0, 0)) (r0 : Nat) (x1 : Int32) (M : Mem) (h_r0 : zO n r0 11) : X κ 4 emI n (0, 0) 0 [.ref r0, .int x1, .null, .null] [] M (f_X11_chance r0 x1 M) := by
  unfold f_X11_chance
  refine x_aload_n (i := 0) rfl hC (zdk dk_X11_chance 0 rfl) (q := 1) rfl ?_
  refine x_getI fl_RX11_120 (by decide) h_r0 hC (zdk dk_X11_chance 1 rfl) (q := 4) rfl ?_
  refine x_if_eq (tgt := 20) hC (zdk dk_X11_chance 2 rfl) (q := 7) rfl rfl (fun _ => ?_) (fun _ => ?_)
  · refine x_weak (L' := [.ref r0, .null, .null, .null]) ⟨Or.inr rfl, Or.inl rfl, Or.inl rfl, Or.inl rfl, trivial⟩ ?_
    exact x_X11_chance_20 hC hE hk0 h_r0 _
  · refine x_iload_n (i := 1) rfl hC (zdk dk_X11_chance 3 rfl) (q := 8) rfl ?_
    refine x_iconst (i := 1) c_iconst_1 hC (zdk dk_X11_chance 4 rfl) (q := 9) rfl ?_
    refine x_icmp_lt (tgt := 20) hC (zdk dk_X11_chance 5 rfl) (q := 12) rfl rfl (fun _ => ?_) (fun _ => ?_)
    · refine x_weak (L' := [.ref r0, .null, .null, .null]) ⟨Or.inr rfl, Or.inl rfl, Or.inl rfl, Or.inl rfl, trivial⟩ ?_
      exact x_X11_chance_20 hC hE hk0 h_r0 _
    · refine x_aload_n (i := 0) rfl hC (zdk dk_X11_chance 6 rfl) (q := 13) rfl ?_
      refine x_iload_n (i := 1) rfl hC (zdk dk_X11_chance 7 rfl) (q := 14) rfl ?_
      refine x_callVi (as := [.int x1]) cb_RX11_248 rfl (by decide) hk0 h_r0 (fun x hx => t_X11_daysFit h_r0 x hx) hC (zdk dk_X11_chance 8 rfl) (q := 17) rfl rfl (Nat.le_of_ble_eq_true rfl) (fun z4 => ?_)
      refine x_if_ne (tgt := 26) hC (zdk dk_X11_chance 9 rfl) (q := 20) rfl rfl (fun _ => ?_) (fun _ => ?_)
      · refine x_aload_n (i := 0) rfl hC (zdk dk_X11_chance 14 rfl) (q := 27) rfl ?_
        refine x_getR (k := 7) fl_RX11_61 rfl h_r0 hC (zdk dk_X11_chance 15 rfl) (q := 30) rfl (fun q5 hq5 => ?_)
        refine x_aload_n (i := 0) rfl hC (zdk dk_X11_chance 16 rfl) (q := 31) rfl ?_
        refine x_getR (k := 5) fl_RX11_42 rfl h_r0 hC (zdk dk_X11_chance 17 rfl) (q := 34) rfl (fun q6 hq6 => ?_)
        refine x_callVv (as := [.ref q6]) cb_RX11_353 rfl (by decide) hk0 hq5 (fun x hx => t_X7_save hq5 hq6 x hx) hC (zdk dk_X11_chance 18 rfl) (q := 37) rfl rfl (Nat.le_of_ble_eq_true rfl) (fun M7 => ?_)
        refine x_iconst (i := 0) c_iconst_0 hC (zdk dk_X11_chance 19 rfl) (q := 38) rfl ?_
        refine x_istore_n (i := 2) (L' := [.ref r0, .int x1, .int 0, .null]) (by decide) rfl hC (zdk dk_X11_chance 20 rfl) (q := 39) rfl ?_
        refine x_iconst (i := 0) c_iconst_0 hC (zdk dk_X11_chance 21 rfl) (q := 40) rfl ?_
        refine x_istore_n (i := 3) (L' := [.ref r0, .int x1, .int 0, .int 0]) (by decide) rfl hC (zdk dk_X11_chance 22 rfl) (q := 41) rfl ?_
        refine x_weak (L' := [.ref r0, .int x1, .int 0, .int 0]) ⟨Or.inr rfl, Or.inr rfl, Or.inr rfl, Or.inr rfl, trivial⟩ ?_
        exact x_X11_chance_41 hC hE hk0 h_r0 _ _ _ _
      · refine x_weak (L' := [.ref r0, .null, .null, .null]) ⟨Or.inr rfl, Or.inl rfl, Or.inl rfl, Or.inl rfl, trivial⟩ ?_
        exact x_X11_chance_20 hC hE hk0 h_r0 _
set_option maxRecDepth 100000 in
set_option maxHeartbeats 4000000 in
theorem t_X11_chance {n : Nat} {r0 : Nat} {x1 : Int32} {M : Mem} (h_r0 : zO n r0 11) (x : (Int32 × Mem)) (hx : f_X11_chance r0 x1 M = some x) (l : Launch) (dC : Nat → ClassId) (dI : Nat → Nat → Nat) (b : zSg) : MT l dC dI b yX11_chance cX11_chance 4 (some .int) 7 0 0 n n [.ref r0, .int x1] M (emI x).1 (emI x).2 :=
  MT.ofX (by decide +kernel) rfl (Nat.le_of_ble_eq_true rfl) (fun κ hC hF _ => x_X11_chance hC (zEnd_of hF (Nat.le_refl _) (Nat.le_refl _)) (zRk_of hF (Nat.le_refl _) (Nat.le_refl _)) _ _ _ h_r0) x hx
set_option maxRecDepth 100000 in
def dt_X11_undo : List (Nat × Instr × Nat) := [(0, .aload_n 0, 1), (1, .getfield 61, 3), (4, .getfield 173, 3), (7, .ifCond .ne 11, 3), (10, .aload_n 0, 1), (11, .iconst 4, 1), (12, .invokevirtual 105, 3), (15, .pop, 1), (16, .iconst 0, 1), (17, .ireturn, 1), (18, .aload_n 0, 1), (19, .getfield 61, 3), (22, .aload_n 0, 1), (23, .getfield 42, 3), (26, .invokevirtual 371, 3), (29, .iconst 1, 1), (30, .ireturn, 1)]
set_option maxRecDepth 100000 in
theorem dk_X11_undo : dt_X11_undo.all (fun q => decide (decode cX11_undo q.1 = .ok q.2)) = true := by decide +kernel
set_option maxRecDepth 100000 in
def f_X11_undo (r0 : Nat) (M : Mem) : Option (Int32 × Mem) := Option.bind (zrf M r0 8) fun q1 => (if zI M q1 3 = 0 then Option.bind (f_X11_refuse r0 4 M) fun z5 => some (0, z5.2) else Option.bind (zrf M r0 8) fun q2 => Option.bind (zrf M r0 5) fun q3 => Option.bind (f_X7_restore q2 q3 M) fun M4 => some (1, M4))
set_option maxRecDepth 100000 in
set_option maxHeartbeats 4000000 in
theorem x_X11_undo {κ : KX} {n : Nat} (hC : CX κ cX11_undo RX11 1 (some .boolean) 4) (hE : zEnd κ n (0, 0)) (hk0 : zRk κ (0, 0)) (r0 : Nat) (M : Mem) (h_r0 : zO n r0 11) : X κ 1 emI n (0, 0) 0 [.ref r0] [] M (f_X11_undo r0 M) := by
  unfold f_X11_undo
  refine x_aload_n (i := 0) rfl hC (zdk dk_X11_undo 0 rfl) (q := 1) rfl ?_
  refine x_getR (k := 7) fl_RX11_61 rfl h_r0 hC (zdk dk_X11_undo 1 rfl) (q := 4) rfl (fun q1 hq1 => ?_)
  refine x_getI fl_RX11_173 (by decide) hq1 hC (zdk dk_X11_undo 2 rfl) (q := 7) rfl ?_
  refine x_if_ne (tgt := 18) hC (zdk dk_X11_undo 3 rfl) (q := 10) rfl rfl (fun _ => ?_) (fun _ => ?_)
  · refine x_aload_n (i := 0) rfl hC (zdk dk_X11_undo 10 rfl) (q := 19) rfl ?_
    refine x_getR (k := 7) fl_RX11_61 rfl h_r0 hC (zdk dk_X11_undo 11 rfl) (q := 22) rfl (fun q2 hq2 => ?_)
    refine x_aload_n (i := 0) rfl hC (zdk dk_X11_undo 12 rfl) (q := 23) rfl ?_
    refine x_getR (k := 5) fl_RX11_42 rfl h_r0 hC (zdk dk_X11_undo 13 rfl) (q := 26) rfl (fun q3 hq3 => ?_)
    refine x_callVv (as := [.ref q3]) cb_RX11_371 rfl (by decide) hk0 hq2 (fun x hx => t_X7_restore hq2 hq3 x hx) hC (zdk dk_X11_undo 14 rfl) (q := 29) rfl rfl (Nat.le_of_ble_eq_true rfl) (fun M4 => ?_)
    refine x_iconst (i := 1) c_iconst_1 hC (zdk dk_X11_undo 15 rfl) (q := 30) rfl ?_
    exact x_iret (ty := .boolean) rfl hE hC (zdk dk_X11_undo 16 rfl)
  · refine x_aload_n (i := 0) rfl hC (zdk dk_X11_undo 4 rfl) (q := 11) rfl ?_
    refine x_iconst (i := 4) c_iconst_4 hC (zdk dk_X11_undo 5 rfl) (q := 12) rfl ?_
    refine x_callVi (as := [.int 4]) cb_RX11_105 rfl (by decide) hk0 h_r0 (fun x hx => t_X11_refuse h_r0 x hx) hC (zdk dk_X11_undo 6 rfl) (q := 15) rfl rfl (Nat.le_of_ble_eq_true rfl) (fun z5 => ?_)
    refine x_pop rfl hC (zdk dk_X11_undo 7 rfl) (q := 16) rfl ?_
    refine x_iconst (i := 0) c_iconst_0 hC (zdk dk_X11_undo 8 rfl) (q := 17) rfl ?_
    exact x_iret (ty := .boolean) rfl hE hC (zdk dk_X11_undo 9 rfl)
set_option maxRecDepth 100000 in
set_option maxHeartbeats 4000000 in
theorem t_X11_undo {n : Nat} {r0 : Nat} {M : Mem} (h_r0 : zO n r0 11) (x : (Int32 × Mem)) (hx : f_X11_undo r0 M = some x) (l : Launch) (dC : Nat → ClassId) (dI : Nat → Nat → Nat) (b : zSg) : MT l dC dI b yX11_undo cX11_undo 1 (some .boolean) 4 0 0 n n [.ref r0] M (emI x).1 (emI x).2 :=
  MT.ofX (by decide +kernel) rfl (Nat.le_of_ble_eq_true rfl) (fun κ hC hF _ => x_X11_undo hC (zEnd_of hF (Nat.le_refl _) (Nat.le_refl _)) (zRk_of hF (Nat.le_refl _) (Nat.le_refl _)) _ _ h_r0) x hx
set_option maxRecDepth 100000 in
def dt_X11_seed : List (Nat × Instr × Nat) := [(0, .iload_n 1, 1), (1, .ifCond .ge 11, 3), (4, .aload_n 0, 1), (5, .iconst 5, 1), (6, .invokevirtual 105, 3), (9, .pop, 1), (10, .iconst 0, 1), (11, .ireturn, 1), (12, .aload_n 0, 1), (13, .iload_n 1, 1), (14, .putfield 98, 3), (17, .iconst 1, 1), (18, .ireturn, 1)]
set_option maxRecDepth 100000 in
theorem dk_X11_seed : dt_X11_seed.all (fun q => decide (decode cX11_seed q.1 = .ok q.2)) = true := by decide +kernel
set_option maxRecDepth 100000 in
def f_X11_seed (r0 : Nat) (x1 : Int32) (M : Mem) : Option (Int32 × Mem) := (if 0 ≤ x1 then Option.bind (some (zsI M r0 16 x1)) fun M1 => some (1, M1) else Option.bind (f_X11_refuse r0 5 M) fun z2 => some (0, z2.2))
set_option maxRecDepth 100000 in
set_option maxHeartbeats 4000000 in
theorem x_X11_seed {κ : KX} {n : Nat} (hC : CX κ cX11_seed RX11 2 (some .boolean) 1) (hE : zEnd κ n (0, 0)) (hk0 : zRk κ (0, 0)) (r0 : Nat) (x1 : Int32) (M : Mem) (h_r0 : zO n r0 11) : X κ 2 emI n (0, 0) 0 [.ref r0, .int x1] [] M (f_X11_seed r0 x1 M) := by
  unfold f_X11_seed
  refine x_iload_n (i := 1) rfl hC (zdk dk_X11_seed 0 rfl) (q := 1) rfl ?_
  refine x_if_ge (tgt := 12) hC (zdk dk_X11_seed 1 rfl) (q := 4) rfl rfl (fun _ => ?_) (fun _ => ?_)
  · refine x_aload_n (i := 0) rfl hC (zdk dk_X11_seed 8 rfl) (q := 13) rfl ?_
    refine x_iload_n (i := 1) rfl hC (zdk dk_X11_seed 9 rfl) (q := 14) rfl ?_
    refine x_putI fl_RX11_98 ⟨rfl, rfl⟩ (by decide) (Or.inl rfl) h_r0 hC (zdk dk_X11_seed 10 rfl) (q := 17) rfl ?_
    refine x_nmM (fun M1 => ?_)
    refine x_iconst (i := 1) c_iconst_1 hC (zdk dk_X11_seed 11 rfl) (q := 18) rfl ?_
    exact x_iret (ty := .boolean) rfl hE hC (zdk dk_X11_seed 12 rfl)
  · refine x_aload_n (i := 0) rfl hC (zdk dk_X11_seed 2 rfl) (q := 5) rfl ?_
    refine x_iconst (i := 5) c_iconst_5 hC (zdk dk_X11_seed 3 rfl) (q := 6) rfl ?_
    refine x_callVi (as := [.int 5]) cb_RX11_105 rfl (by decide) hk0 h_r0 (fun x hx => t_X11_refuse h_r0 x hx) hC (zdk dk_X11_seed 4 rfl) (q := 9) rfl rfl (Nat.le_of_ble_eq_true rfl) (fun z2 => ?_)
    refine x_pop rfl hC (zdk dk_X11_seed 5 rfl) (q := 10) rfl ?_
    refine x_iconst (i := 0) c_iconst_0 hC (zdk dk_X11_seed 6 rfl) (q := 11) rfl ?_
    exact x_iret (ty := .boolean) rfl hE hC (zdk dk_X11_seed 7 rfl)
set_option maxRecDepth 100000 in
set_option maxHeartbeats 4000000 in
theorem t_X11_seed {n : Nat} {r0 : Nat} {x1 : Int32} {M : Mem} (h_r0 : zO n r0 11) (x : (Int32 × Mem)) (hx : f_X11_seed r0 x1 M = some x) (l : Launch) (dC : Nat → ClassId) (dI : Nat → Nat → Nat) (b : zSg) : MT l dC dI b yX11_seed cX11_seed 2 (some .boolean) 1 0 0 n n [.ref r0, .int x1] M (emI x).1 (emI x).2 :=
  MT.ofX (by decide +kernel) rfl (Nat.le_of_ble_eq_true rfl) (fun κ hC hF _ => x_X11_seed hC (zEnd_of hF (Nat.le_refl _) (Nat.le_refl _)) (zRk_of hF (Nat.le_refl _) (Nat.le_refl _)) _ _ _ h_r0) x hx
set_option maxRecDepth 100000 in
def dt_X11_kept : List (Nat × Instr × Nat) := [(0, .iload_n 1, 1), (1, .ifCond .lt 23, 3), (4, .iload_n 1, 1), (5, .aload_n 0, 1), (6, .getfield 61, 3), (9, .invokevirtual 167, 3), (12, .if_icmp .ge 12, 3), (15, .iload_n 2, 1), (16, .ifCond .lt 8, 3), (19, .iload_n 2, 1), (20, .iconst 2, 1), (21, .if_icmp .le 5, 3), (24, .iconst (-1), 1), (25, .ireturn, 1), (26, .aload_n 0, 1), (27, .getfield 61, 3), (30, .iload_n 1, 1), (31, .iload_n 2, 1), (32, .invokevirtual 374, 3), (35, .ireturn, 1)]
set_option maxRecDepth 100000 in
theorem dk_X11_kept : dt_X11_kept.all (fun q => decide (decode cX11_kept q.1 = .ok q.2)) = true := by decide +kernel
set_option maxRecDepth 100000 in
def f_X11_kept_24  (r0 : Nat) (x1 : Int32) (x2 : Int32)  (M : Mem) : Option (Int32 × Mem) := some ((-1), M)
set_option maxRecDepth 100000 in
set_option maxHeartbeats 4000000 in
theorem x_X11_kept_24 {κ : KX} {n : Nat} (hC : CX κ cX11_kept RX11 3 (some .int) 3) (hE : zEnd κ n (0, 0)) (hk0 : zRk κ (0, 0)) {r0 : Nat} {x1 : Int32} {x2 : Int32} (h_r0 : zO n r0 11) (M : Mem) : X κ 3 emI n (0, 0) 24 [.null, .null, .null] [] M (f_X11_kept_24 r0 x1 x2 M) := by
  unfold f_X11_kept_24
  refine x_iconst (i := (-1)) c_iconst_m1 hC (zdk dk_X11_kept 12 rfl) (q := 25) rfl ?_
  exact x_iret (ty := .int) rfl hE hC (zdk dk_X11_kept 13 rfl)
set_option maxRecDepth 100000 in
def f_X11_kept (r0 : Nat) (x1 : Int32) (x2 : Int32) (M : Mem) : Option (Int32 × Mem) := (if x1 < 0 then f_X11_kept_24 r0 x1 x2 M else Option.bind (zrf M r0 8) fun q1 => Option.bind (f_X7_told q1 M) fun z2 => (if z2.1 ≤ x1 then f_X11_kept_24 r0 x1 x2 z2.2 else (if x2 < 0 then f_X11_kept_24 r0 x1 x2 z2.2 else (if x2 ≤ 2 then Option.bind (zrf z2.2 r0 8) fun q3 => Option.bind (f_X7_entry q3 x1 x2 z2.2) fun z4 => some (z4.1, z4.2) else f_X11_kept_24 r0 x1 x2 z2.2))))
set_option maxRecDepth 100000 in
set_option maxHeartbeats 4000000 in
theorem x_X11_kept {κ : KX} {n : Nat} (hC : CX κ cX11_kept RX11 3 (some .int) 3) (hE : zEnd κ n (0, 0)) (hk0 : zRk κ (0, 0)) (r0 : Nat) (x1 : Int32) (x2 : Int32) (M : Mem) (h_r0 : zO n r0 11) : X κ 3 emI n (0, 0) 0 [.ref r0, .int x1, .int x2] [] M (f_X11_kept r0 x1 x2 M) := by
  unfold f_X11_kept
  refine x_iload_n (i := 1) rfl hC (zdk dk_X11_kept 0 rfl) (q := 1) rfl ?_
  refine x_if_lt (tgt := 24) hC (zdk dk_X11_kept 1 rfl) (q := 4) rfl rfl (fun _ => ?_) (fun _ => ?_)
  · refine x_weak (L' := [.null, .null, .null]) ⟨Or.inl rfl, Or.inl rfl, Or.inl rfl, trivial⟩ ?_
    exact x_X11_kept_24 hC hE hk0 h_r0 _
  · refine x_iload_n (i := 1) rfl hC (zdk dk_X11_kept 2 rfl) (q := 5) rfl ?_
    refine x_aload_n (i := 0) rfl hC (zdk dk_X11_kept 3 rfl) (q := 6) rfl ?_
    refine x_getR (k := 7) fl_RX11_61 rfl h_r0 hC (zdk dk_X11_kept 4 rfl) (q := 9) rfl (fun q1 hq1 => ?_)
    refine x_callVi (as := []) cb_RX11_167 rfl (by decide) hk0 hq1 (fun x hx => t_X7_told hq1 x hx) hC (zdk dk_X11_kept 5 rfl) (q := 12) rfl rfl (Nat.le_of_ble_eq_true rfl) (fun z2 => ?_)
    refine x_icmp_ge (tgt := 24) hC (zdk dk_X11_kept 6 rfl) (q := 15) rfl rfl (fun _ => ?_) (fun _ => ?_)
    · refine x_weak (L' := [.null, .null, .null]) ⟨Or.inl rfl, Or.inl rfl, Or.inl rfl, trivial⟩ ?_
      exact x_X11_kept_24 hC hE hk0 h_r0 _
    · refine x_iload_n (i := 2) rfl hC (zdk dk_X11_kept 7 rfl) (q := 16) rfl ?_
      refine x_if_lt (tgt := 24) hC (zdk dk_X11_kept 8 rfl) (q := 19) rfl rfl (fun _ => ?_) (fun _ => ?_)
      · refine x_weak (L' := [.null, .null, .null]) ⟨Or.inl rfl, Or.inl rfl, Or.inl rfl, trivial⟩ ?_
        exact x_X11_kept_24 hC hE hk0 h_r0 _
      · refine x_iload_n (i := 2) rfl hC (zdk dk_X11_kept 9 rfl) (q := 20) rfl ?_
        refine x_iconst (i := 2) c_iconst_2 hC (zdk dk_X11_kept 10 rfl) (q := 21) rfl ?_
        refine x_icmp_le (tgt := 26) hC (zdk dk_X11_kept 11 rfl) (q := 24) rfl rfl (fun _ => ?_) (fun _ => ?_)
        · refine x_aload_n (i := 0) rfl hC (zdk dk_X11_kept 14 rfl) (q := 27) rfl ?_
          refine x_getR (k := 7) fl_RX11_61 rfl h_r0 hC (zdk dk_X11_kept 15 rfl) (q := 30) rfl (fun q3 hq3 => ?_)
          refine x_iload_n (i := 1) rfl hC (zdk dk_X11_kept 16 rfl) (q := 31) rfl ?_
          refine x_iload_n (i := 2) rfl hC (zdk dk_X11_kept 17 rfl) (q := 32) rfl ?_
          refine x_callVi (as := [.int x1, .int x2]) cb_RX11_374 rfl (by decide) hk0 hq3 (fun x hx => t_X7_entry hq3 x hx) hC (zdk dk_X11_kept 18 rfl) (q := 35) rfl rfl (Nat.le_of_ble_eq_true rfl) (fun z4 => ?_)
          exact x_iret (ty := .int) rfl hE hC (zdk dk_X11_kept 19 rfl)
        · refine x_weak (L' := [.null, .null, .null]) ⟨Or.inl rfl, Or.inl rfl, Or.inl rfl, trivial⟩ ?_
          exact x_X11_kept_24 hC hE hk0 h_r0 _
set_option maxRecDepth 100000 in
set_option maxHeartbeats 4000000 in
theorem t_X11_kept {n : Nat} {r0 : Nat} {x1 : Int32} {x2 : Int32} {M : Mem} (h_r0 : zO n r0 11) (x : (Int32 × Mem)) (hx : f_X11_kept r0 x1 x2 M = some x) (l : Launch) (dC : Nat → ClassId) (dI : Nat → Nat → Nat) (b : zSg) : MT l dC dI b yX11_kept cX11_kept 3 (some .int) 3 0 0 n n [.ref r0, .int x1, .int x2] M (emI x).1 (emI x).2 :=
  MT.ofX (by decide +kernel) rfl (Nat.le_of_ble_eq_true rfl) (fun κ hC hF _ => x_X11_kept hC (zEnd_of hF (Nat.le_refl _) (Nat.le_refl _)) (zRk_of hF (Nat.le_refl _) (Nat.le_refl _)) _ _ _ _ h_r0) x hx
set_option maxRecDepth 100000 in
def dt_X11_image : List (Nat × Instr × Nat) := [(0, .aload_n 0, 1), (1, .getfield 75, 3), (4, .aload_n 0, 1), (5, .getfield 42, 3), (8, .aload_n 0, 1), (9, .getfield 82, 3), (12, .aload_n 0, 1), (13, .getfield 120, 3), (16, .ifCond .eq 13, 3), (19, .aload_n 0, 1), (20, .getfield 82, 3), (23, .getfield 159, 3), (26, .goto 4, 3), (29, .iconst 0, 1), (30, .invokevirtual 377, 3), (33, .aload_n 0, 1), (34, .getfield 75, 3), (37, .getfield 381, 3), (40, .ireturn, 1)]
set_option maxRecDepth 100000 in
theorem dk_X11_image : dt_X11_image.all (fun q => decide (decode cX11_image q.1 = .ok q.2)) = true := by decide +kernel
set_option maxRecDepth 100000 in
def f_X11_image_30  (r0 : Nat) (s0 : Nat) (s1 : Nat) (s2 : Nat) (s3 : Int32) (M : Mem) : Option (Int32 × Mem) := Option.bind (f_X4_build s0 s1 s2 s3 M) fun M1 => Option.bind (zrf M1 r0 10) fun q2 => some (zI M1 q2 1, M1)
set_option maxRecDepth 100000 in
set_option maxHeartbeats 4000000 in
theorem x_X11_image_30 {κ : KX} {n : Nat} (hC : CX κ cX11_image RX11 1 (some .int) 3) (hE : zEnd κ n (0, 0)) (hk0 : zRk κ (0, 0)) {r0 : Nat} (h_r0 : zO n r0 11) (s0 : Nat) (s1 : Nat) (s2 : Nat) (s3 : Int32) (M : Mem) (h_s0 : zO n s0 4) (h_s1 : zO n s1 5) (h_s2 : zO n s2 0) : X κ 1 emI n (0, 0) 30 [.ref r0] [.int s3, .ref s2, .ref s1, .ref s0] M (f_X11_image_30 r0 s0 s1 s2 s3 M) := by
  unfold f_X11_image_30
  refine x_callVv (as := [.ref s1, .ref s2, .int s3]) cb_RX11_377 rfl (by decide) hk0 h_s0 (fun x hx => t_X4_build h_s0 h_s1 h_s2 x hx) hC (zdk dk_X11_image 14 rfl) (q := 33) rfl rfl (Nat.le_of_ble_eq_true rfl) (fun M1 => ?_)
  refine x_aload_n (i := 0) rfl hC (zdk dk_X11_image 15 rfl) (q := 34) rfl ?_
  refine x_getR (k := 4) fl_RX11_75 rfl h_r0 hC (zdk dk_X11_image 16 rfl) (q := 37) rfl (fun q2 hq2 => ?_)
  refine x_getI fl_RX11_381 (by decide) hq2 hC (zdk dk_X11_image 17 rfl) (q := 40) rfl ?_
  exact x_iret (ty := .int) rfl hE hC (zdk dk_X11_image 18 rfl)
set_option maxRecDepth 100000 in
def f_X11_image (r0 : Nat) (M : Mem) : Option (Int32 × Mem) := Option.bind (zrf M r0 10) fun q3 => Option.bind (zrf M r0 5) fun q4 => Option.bind (zrf M r0 11) fun q5 => (if zI M r0 14 = 0 then f_X11_image_30 r0 q3 q4 q5 0 M else Option.bind (zrf M r0 11) fun q6 => f_X11_image_30 r0 q3 q4 q5 (zI M q6 9) M)
set_option maxRecDepth 100000 in
set_option maxHeartbeats 4000000 in
theorem x_X11_image {κ : KX} {n : Nat} (hC : CX κ cX11_image RX11 1 (some .int) 3) (hE : zEnd κ n (0, 0)) (hk0 : zRk κ (0, 0)) (r0 : Nat) (M : Mem) (h_r0 : zO n r0 11) : X κ 1 emI n (0, 0) 0 [.ref r0] [] M (f_X11_image r0 M) := by
  unfold f_X11_image
  refine x_aload_n (i := 0) rfl hC (zdk dk_X11_image 0 rfl) (q := 1) rfl ?_
  refine x_getR (k := 4) fl_RX11_75 rfl h_r0 hC (zdk dk_X11_image 1 rfl) (q := 4) rfl (fun q3 hq3 => ?_)
  refine x_aload_n (i := 0) rfl hC (zdk dk_X11_image 2 rfl) (q := 5) rfl ?_
  refine x_getR (k := 5) fl_RX11_42 rfl h_r0 hC (zdk dk_X11_image 3 rfl) (q := 8) rfl (fun q4 hq4 => ?_)
  refine x_aload_n (i := 0) rfl hC (zdk dk_X11_image 4 rfl) (q := 9) rfl ?_
  refine x_getR (k := 0) fl_RX11_82 rfl h_r0 hC (zdk dk_X11_image 5 rfl) (q := 12) rfl (fun q5 hq5 => ?_)
  refine x_aload_n (i := 0) rfl hC (zdk dk_X11_image 6 rfl) (q := 13) rfl ?_
  refine x_getI fl_RX11_120 (by decide) h_r0 hC (zdk dk_X11_image 7 rfl) (q := 16) rfl ?_
  refine x_if_eq (tgt := 29) hC (zdk dk_X11_image 8 rfl) (q := 19) rfl rfl (fun _ => ?_) (fun _ => ?_)
  · refine x_iconst (i := 0) c_iconst_0 hC (zdk dk_X11_image 13 rfl) (q := 30) rfl ?_
    refine x_weak (L' := [.ref r0]) ⟨Or.inr rfl, trivial⟩ ?_
    exact x_X11_image_30 hC hE hk0 h_r0 _ _ _ _ _ hq3 hq4 hq5
  · refine x_aload_n (i := 0) rfl hC (zdk dk_X11_image 9 rfl) (q := 20) rfl ?_
    refine x_getR (k := 0) fl_RX11_82 rfl h_r0 hC (zdk dk_X11_image 10 rfl) (q := 23) rfl (fun q6 hq6 => ?_)
    refine x_getI fl_RX11_159 (by decide) hq6 hC (zdk dk_X11_image 11 rfl) (q := 26) rfl ?_
    refine x_goto (tgt := 30) hC (zdk dk_X11_image 12 rfl) rfl ?_
    refine x_weak (L' := [.ref r0]) ⟨Or.inr rfl, trivial⟩ ?_
    exact x_X11_image_30 hC hE hk0 h_r0 _ _ _ _ _ hq3 hq4 hq5
set_option maxRecDepth 100000 in
set_option maxHeartbeats 4000000 in
theorem t_X11_image {n : Nat} {r0 : Nat} {M : Mem} (h_r0 : zO n r0 11) (x : (Int32 × Mem)) (hx : f_X11_image r0 M = some x) (l : Launch) (dC : Nat → ClassId) (dI : Nat → Nat → Nat) (b : zSg) : MT l dC dI b yX11_image cX11_image 1 (some .int) 3 0 0 n n [.ref r0] M (emI x).1 (emI x).2 :=
  MT.ofX (by decide +kernel) rfl (Nat.le_of_ble_eq_true rfl) (fun κ hC hF _ => x_X11_image hC (zEnd_of hF (Nat.le_refl _) (Nat.le_refl _)) (zRk_of hF (Nat.le_refl _) (Nat.le_refl _)) _ _ h_r0) x hx
set_option maxRecDepth 100000 in
def dt_X11_octet : List (Nat × Instr × Nat) := [(0, .iload_n 1, 1), (1, .ifCond .lt 26, 3), (4, .iload_n 1, 1), (5, .aload_n 0, 1), (6, .getfield 75, 3), (9, .getfield 381, 3), (12, .if_icmp .ge 15, 3), (15, .aload_n 0, 1), (16, .getfield 75, 3), (19, .getfield 382, 3), (22, .iload_n 1, 1), (23, .iaload, 1), (24, .goto 4, 3), (27, .iconst (-1), 1), (28, .ireturn, 1)]
set_option maxRecDepth 100000 in
theorem dk_X11_octet : dt_X11_octet.all (fun q => decide (decode cX11_octet q.1 = .ok q.2)) = true := by decide +kernel
set_option maxRecDepth 100000 in
def f_X11_octet_28  (r0 : Nat) (x1 : Int32) (s0 : Int32) (M : Mem) : Option (Int32 × Mem) := some (s0, M)
set_option maxRecDepth 100000 in
set_option maxHeartbeats 4000000 in
theorem x_X11_octet_28 {κ : KX} {n : Nat} (hC : CX κ cX11_octet RX11 2 (some .int) 0) (hE : zEnd κ n (0, 0)) (hk0 : zRk κ (0, 0)) {r0 : Nat} {x1 : Int32} (h_r0 : zO n r0 11) (s0 : Int32) (M : Mem) : X κ 2 emI n (0, 0) 28 [.null, .null] [.int s0] M (f_X11_octet_28 r0 x1 s0 M) := by
  unfold f_X11_octet_28
  exact x_iret (ty := .int) rfl hE hC (zdk dk_X11_octet 14 rfl)
set_option maxRecDepth 100000 in
def f_X11_octet_27  (r0 : Nat) (x1 : Int32)  (M : Mem) : Option (Int32 × Mem) := f_X11_octet_28 r0 x1 ((-1)) M
set_option maxRecDepth 100000 in
set_option maxHeartbeats 4000000 in
theorem x_X11_octet_27 {κ : KX} {n : Nat} (hC : CX κ cX11_octet RX11 2 (some .int) 0) (hE : zEnd κ n (0, 0)) (hk0 : zRk κ (0, 0)) {r0 : Nat} {x1 : Int32} (h_r0 : zO n r0 11) (M : Mem) : X κ 2 emI n (0, 0) 27 [.null, .null] [] M (f_X11_octet_27 r0 x1 M) := by
  unfold f_X11_octet_27
  refine x_iconst (i := (-1)) c_iconst_m1 hC (zdk dk_X11_octet 13 rfl) (q := 28) rfl ?_
  refine x_weak (L' := [.null, .null]) ⟨Or.inl rfl, Or.inl rfl, trivial⟩ ?_
  exact x_X11_octet_28 hC hE hk0 h_r0 _ _
set_option maxRecDepth 100000 in
def f_X11_octet (r0 : Nat) (x1 : Int32) (M : Mem) : Option (Int32 × Mem) := (if x1 < 0 then f_X11_octet_27 r0 x1 M else Option.bind (zrf M r0 10) fun q1 => (if zI M q1 1 ≤ x1 then f_X11_octet_27 r0 x1 M else Option.bind (zrf M r0 10) fun q2 => Option.bind (zrf M q2 0) fun q3 => Option.bind (zld q3 x1) fun k4 => f_X11_octet_28 r0 x1 (zI M q3 k4) M))
set_option maxRecDepth 100000 in
set_option maxHeartbeats 4000000 in
theorem x_X11_octet {κ : KX} {n : Nat} (hC : CX κ cX11_octet RX11 2 (some .int) 0) (hE : zEnd κ n (0, 0)) (hk0 : zRk κ (0, 0)) (r0 : Nat) (x1 : Int32) (M : Mem) (h_r0 : zO n r0 11) : X κ 2 emI n (0, 0) 0 [.ref r0, .int x1] [] M (f_X11_octet r0 x1 M) := by
  unfold f_X11_octet
  refine x_iload_n (i := 1) rfl hC (zdk dk_X11_octet 0 rfl) (q := 1) rfl ?_
  refine x_if_lt (tgt := 27) hC (zdk dk_X11_octet 1 rfl) (q := 4) rfl rfl (fun _ => ?_) (fun _ => ?_)
  · refine x_weak (L' := [.null, .null]) ⟨Or.inl rfl, Or.inl rfl, trivial⟩ ?_
    exact x_X11_octet_27 hC hE hk0 h_r0 _
  · refine x_iload_n (i := 1) rfl hC (zdk dk_X11_octet 2 rfl) (q := 5) rfl ?_
    refine x_aload_n (i := 0) rfl hC (zdk dk_X11_octet 3 rfl) (q := 6) rfl ?_
    refine x_getR (k := 4) fl_RX11_75 rfl h_r0 hC (zdk dk_X11_octet 4 rfl) (q := 9) rfl (fun q1 hq1 => ?_)
    refine x_getI fl_RX11_381 (by decide) hq1 hC (zdk dk_X11_octet 5 rfl) (q := 12) rfl ?_
    refine x_icmp_ge (tgt := 27) hC (zdk dk_X11_octet 6 rfl) (q := 15) rfl rfl (fun _ => ?_) (fun _ => ?_)
    · refine x_weak (L' := [.null, .null]) ⟨Or.inl rfl, Or.inl rfl, trivial⟩ ?_
      exact x_X11_octet_27 hC hE hk0 h_r0 _
    · refine x_aload_n (i := 0) rfl hC (zdk dk_X11_octet 7 rfl) (q := 16) rfl ?_
      refine x_getR (k := 4) fl_RX11_75 rfl h_r0 hC (zdk dk_X11_octet 8 rfl) (q := 19) rfl (fun q2 hq2 => ?_)
      refine x_getR (k := 20) fl_RX11_382 rfl hq2 hC (zdk dk_X11_octet 9 rfl) (q := 22) rfl (fun q3 hq3 => ?_)
      refine x_iload_n (i := 1) rfl hC (zdk dk_X11_octet 10 rfl) (q := 23) rfl ?_
      refine x_iald hq3 hC (zdk dk_X11_octet 11 rfl) (q := 24) rfl (fun k4 _ => ?_)
      refine x_goto (tgt := 28) hC (zdk dk_X11_octet 12 rfl) rfl ?_
      refine x_weak (L' := [.null, .null]) ⟨Or.inl rfl, Or.inl rfl, trivial⟩ ?_
      exact x_X11_octet_28 hC hE hk0 h_r0 _ _
set_option maxRecDepth 100000 in
set_option maxHeartbeats 4000000 in
theorem t_X11_octet {n : Nat} {r0 : Nat} {x1 : Int32} {M : Mem} (h_r0 : zO n r0 11) (x : (Int32 × Mem)) (hx : f_X11_octet r0 x1 M = some x) (l : Launch) (dC : Nat → ClassId) (dI : Nat → Nat → Nat) (b : zSg) : MT l dC dI b yX11_octet cX11_octet 2 (some .int) 0 0 0 n n [.ref r0, .int x1] M (emI x).1 (emI x).2 :=
  MT.ofX (by decide +kernel) rfl (Nat.le_of_ble_eq_true rfl) (fun κ hC hF _ => x_X11_octet hC (zEnd_of hF (Nat.le_refl _) (Nat.le_refl _)) (zRk_of hF (Nat.le_refl _) (Nat.le_refl _)) _ _ _ h_r0) x hx
set_option maxRecDepth 100000 in
def dt_X11_on : List (Nat × Instr × Nat) := [(0, .aload_n 0, 1), (1, .invokevirtual 112, 3), (4, .istore_n 1, 1), (5, .aload_n 0, 1), (6, .getfield 120, 3), (9, .ifCond .eq 22, 3), (12, .aload_n 0, 1), (13, .getfield 46, 3), (16, .aload_n 0, 1), (17, .getfield 9, 3), (20, .iload_n 1, 1), (21, .aload_n 0, 1), (22, .getfield 82, 3), (25, .invokevirtual 385, 3), (28, .ifCond .ne 11, 3), (31, .aload_n 0, 1), (32, .iconst 5, 1), (33, .invokevirtual 105, 3), (36, .pop, 1), (37, .iconst 0, 1), (38, .ireturn, 1), (39, .aload_n 0, 1), (40, .getfield 42, 3), (43, .aload_n 0, 1), (44, .getfield 46, 3), (47, .invokevirtual 388, 3), (50, .aload_n 0, 1), (51, .getfield 61, 3), (54, .invokevirtual 127, 3), (57, .iconst 1, 1), (58, .ireturn, 1)]
set_option maxRecDepth 100000 in
theorem dk_X11_on : dt_X11_on.all (fun q => decide (decode cX11_on q.1 = .ok q.2)) = true := by decide +kernel
set_option maxRecDepth 100000 in
def f_X11_on_31  (r0 : Nat)  (M : Mem) : Option (Int32 × Mem) := Option.bind (f_X11_refuse r0 5 M) fun z1 => some (0, z1.2)
set_option maxRecDepth 100000 in
set_option maxHeartbeats 4000000 in
theorem x_X11_on_31 {κ : KX} {n : Nat} (hC : CX κ cX11_on RX11 2 (some .boolean) 4) (hE : zEnd κ n (0, 0)) (hk0 : zRk κ (0, 0)) {r0 : Nat} (h_r0 : zO n r0 11) (M : Mem) : X κ 2 emI n (0, 0) 31 [.ref r0, .null] [] M (f_X11_on_31 r0 M) := by
  unfold f_X11_on_31
  refine x_aload_n (i := 0) rfl hC (zdk dk_X11_on 15 rfl) (q := 32) rfl ?_
  refine x_iconst (i := 5) c_iconst_5 hC (zdk dk_X11_on 16 rfl) (q := 33) rfl ?_
  refine x_callVi (as := [.int 5]) cb_RX11_105 rfl (by decide) hk0 h_r0 (fun x hx => t_X11_refuse h_r0 x hx) hC (zdk dk_X11_on 17 rfl) (q := 36) rfl rfl (Nat.le_of_ble_eq_true rfl) (fun z1 => ?_)
  refine x_pop rfl hC (zdk dk_X11_on 18 rfl) (q := 37) rfl ?_
  refine x_iconst (i := 0) c_iconst_0 hC (zdk dk_X11_on 19 rfl) (q := 38) rfl ?_
  exact x_iret (ty := .boolean) rfl hE hC (zdk dk_X11_on 20 rfl)
set_option maxRecDepth 100000 in
def f_X11_on (r0 : Nat) (M : Mem) : Option (Int32 × Mem) := Option.bind (f_X11_takeTape r0 M) fun z2 => (if zI z2.2 r0 14 = 0 then f_X11_on_31 r0 z2.2 else Option.bind (zrf z2.2 r0 6) fun q3 => Option.bind (zrf z2.2 r0 0) fun q4 => Option.bind (zrf z2.2 r0 11) fun q5 => Option.bind (f_X5_takes q3 q4 z2.1 q5 z2.2) fun z6 => (if z6.1 = 0 then f_X11_on_31 r0 z6.2 else Option.bind (zrf z6.2 r0 5) fun q7 => Option.bind (zrf z6.2 r0 6) fun q8 => Option.bind (f_X5_copy q7 q8 z6.2) fun M9 => Option.bind (zrf M9 r0 8) fun q10 => Option.bind (f_X7_clear q10 M9) fun M11 => some (1, M11)))
set_option maxRecDepth 100000 in
set_option maxHeartbeats 4000000 in
theorem x_X11_on {κ : KX} {n : Nat} (hC : CX κ cX11_on RX11 2 (some .boolean) 4) (hE : zEnd κ n (0, 0)) (hk0 : zRk κ (0, 0)) (r0 : Nat) (M : Mem) (h_r0 : zO n r0 11) : X κ 2 emI n (0, 0) 0 [.ref r0, .null] [] M (f_X11_on r0 M) := by
  unfold f_X11_on
  refine x_aload_n (i := 0) rfl hC (zdk dk_X11_on 0 rfl) (q := 1) rfl ?_
  refine x_callVi (as := []) cb_RX11_112 rfl (by decide) hk0 h_r0 (fun x hx => t_X11_takeTape h_r0 x hx) hC (zdk dk_X11_on 1 rfl) (q := 4) rfl rfl (Nat.le_of_ble_eq_true rfl) (fun z2 => ?_)
  refine x_istore_n (i := 1) (L' := [.ref r0, .int z2.1]) (by decide) rfl hC (zdk dk_X11_on 2 rfl) (q := 5) rfl ?_
  refine x_aload_n (i := 0) rfl hC (zdk dk_X11_on 3 rfl) (q := 6) rfl ?_
  refine x_getI fl_RX11_120 (by decide) h_r0 hC (zdk dk_X11_on 4 rfl) (q := 9) rfl ?_
  refine x_if_eq (tgt := 31) hC (zdk dk_X11_on 5 rfl) (q := 12) rfl rfl (fun _ => ?_) (fun _ => ?_)
  · refine x_weak (L' := [.ref r0, .null]) ⟨Or.inr rfl, Or.inl rfl, trivial⟩ ?_
    exact x_X11_on_31 hC hE hk0 h_r0 _
  · refine x_aload_n (i := 0) rfl hC (zdk dk_X11_on 6 rfl) (q := 13) rfl ?_
    refine x_getR (k := 5) fl_RX11_46 rfl h_r0 hC (zdk dk_X11_on 7 rfl) (q := 16) rfl (fun q3 hq3 => ?_)
    refine x_aload_n (i := 0) rfl hC (zdk dk_X11_on 8 rfl) (q := 17) rfl ?_
    refine x_getR (k := 20) fl_RX11_9 rfl h_r0 hC (zdk dk_X11_on 9 rfl) (q := 20) rfl (fun q4 hq4 => ?_)
    refine x_iload_n (i := 1) rfl hC (zdk dk_X11_on 10 rfl) (q := 21) rfl ?_
    refine x_aload_n (i := 0) rfl hC (zdk dk_X11_on 11 rfl) (q := 22) rfl ?_
    refine x_getR (k := 0) fl_RX11_82 rfl h_r0 hC (zdk dk_X11_on 12 rfl) (q := 25) rfl (fun q5 hq5 => ?_)
    refine x_callVi (as := [.ref q4, .int z2.1, .ref q5]) cb_RX11_385 rfl (by decide) hk0 hq3 (fun x hx => t_X5_takes hq3 hq4 hq5 x hx) hC (zdk dk_X11_on 13 rfl) (q := 28) rfl rfl (Nat.le_of_ble_eq_true rfl) (fun z6 => ?_)
    refine x_if_ne (tgt := 39) hC (zdk dk_X11_on 14 rfl) (q := 31) rfl rfl (fun _ => ?_) (fun _ => ?_)
    · refine x_aload_n (i := 0) rfl hC (zdk dk_X11_on 21 rfl) (q := 40) rfl ?_
      refine x_getR (k := 5) fl_RX11_42 rfl h_r0 hC (zdk dk_X11_on 22 rfl) (q := 43) rfl (fun q7 hq7 => ?_)
      refine x_aload_n (i := 0) rfl hC (zdk dk_X11_on 23 rfl) (q := 44) rfl ?_
      refine x_getR (k := 5) fl_RX11_46 rfl h_r0 hC (zdk dk_X11_on 24 rfl) (q := 47) rfl (fun q8 hq8 => ?_)
      refine x_callVv (as := [.ref q8]) cb_RX11_388 rfl (by decide) hk0 hq7 (fun x hx => t_X5_copy hq7 hq8 x hx) hC (zdk dk_X11_on 25 rfl) (q := 50) rfl rfl (Nat.le_of_ble_eq_true rfl) (fun M9 => ?_)
      refine x_aload_n (i := 0) rfl hC (zdk dk_X11_on 26 rfl) (q := 51) rfl ?_
      refine x_getR (k := 7) fl_RX11_61 rfl h_r0 hC (zdk dk_X11_on 27 rfl) (q := 54) rfl (fun q10 hq10 => ?_)
      refine x_callVv (as := []) cb_RX11_127 rfl (by decide) hk0 hq10 (fun x hx => t_X7_clear hq10 x hx) hC (zdk dk_X11_on 28 rfl) (q := 57) rfl rfl (Nat.le_of_ble_eq_true rfl) (fun M11 => ?_)
      refine x_iconst (i := 1) c_iconst_1 hC (zdk dk_X11_on 29 rfl) (q := 58) rfl ?_
      exact x_iret (ty := .boolean) rfl hE hC (zdk dk_X11_on 30 rfl)
    · refine x_weak (L' := [.ref r0, .null]) ⟨Or.inr rfl, Or.inl rfl, trivial⟩ ?_
      exact x_X11_on_31 hC hE hk0 h_r0 _
set_option maxRecDepth 100000 in
set_option maxHeartbeats 4000000 in
theorem t_X11_on {n : Nat} {r0 : Nat} {M : Mem} (h_r0 : zO n r0 11) (x : (Int32 × Mem)) (hx : f_X11_on r0 M = some x) (l : Launch) (dC : Nat → ClassId) (dI : Nat → Nat → Nat) (b : zSg) : MT l dC dI b yX11_on cX11_on 2 (some .boolean) 4 0 0 n n [.ref r0] M (emI x).1 (emI x).2 :=
  MT.ofX (by decide +kernel) rfl (Nat.le_of_ble_eq_true rfl) (fun κ hC hF _ => x_X11_on hC (zEnd_of hF (Nat.le_refl _) (Nat.le_refl _)) (zRk_of hF (Nat.le_refl _) (Nat.le_refl _)) _ _ h_r0) x hx
set_option maxRecDepth 100000 in
def dt_X11_status : List (Nat × Instr × Nat) := [(0, .iload_n 1, 1), (1, .ifCond .lt 18, 3), (4, .iload_n 1, 1), (5, .bipush 6, 2), (7, .if_icmp .ge 12, 3), (10, .aload_n 0, 1), (11, .getfield 13, 3), (14, .iload_n 1, 1), (15, .iaload, 1), (16, .goto 4, 3), (19, .iconst (-1), 1), (20, .ireturn, 1)]
set_option maxRecDepth 100000 in
theorem dk_X11_status : dt_X11_status.all (fun q => decide (decode cX11_status q.1 = .ok q.2)) = true := by decide +kernel
set_option maxRecDepth 100000 in
def f_X11_status_20  (r0 : Nat) (x1 : Int32) (s0 : Int32) (M : Mem) : Option (Int32 × Mem) := some (s0, M)
set_option maxRecDepth 100000 in
set_option maxHeartbeats 4000000 in
theorem x_X11_status_20 {κ : KX} {n : Nat} (hC : CX κ cX11_status RX11 2 (some .int) 0) (hE : zEnd κ n (0, 0)) (hk0 : zRk κ (0, 0)) {r0 : Nat} {x1 : Int32} (h_r0 : zO n r0 11) (s0 : Int32) (M : Mem) : X κ 2 emI n (0, 0) 20 [.null, .null] [.int s0] M (f_X11_status_20 r0 x1 s0 M) := by
  unfold f_X11_status_20
  exact x_iret (ty := .int) rfl hE hC (zdk dk_X11_status 11 rfl)
set_option maxRecDepth 100000 in
def f_X11_status_19  (r0 : Nat) (x1 : Int32)  (M : Mem) : Option (Int32 × Mem) := f_X11_status_20 r0 x1 ((-1)) M
set_option maxRecDepth 100000 in
set_option maxHeartbeats 4000000 in
theorem x_X11_status_19 {κ : KX} {n : Nat} (hC : CX κ cX11_status RX11 2 (some .int) 0) (hE : zEnd κ n (0, 0)) (hk0 : zRk κ (0, 0)) {r0 : Nat} {x1 : Int32} (h_r0 : zO n r0 11) (M : Mem) : X κ 2 emI n (0, 0) 19 [.null, .null] [] M (f_X11_status_19 r0 x1 M) := by
  unfold f_X11_status_19
  refine x_iconst (i := (-1)) c_iconst_m1 hC (zdk dk_X11_status 10 rfl) (q := 20) rfl ?_
  refine x_weak (L' := [.null, .null]) ⟨Or.inl rfl, Or.inl rfl, trivial⟩ ?_
  exact x_X11_status_20 hC hE hk0 h_r0 _ _
set_option maxRecDepth 100000 in
def f_X11_status (r0 : Nat) (x1 : Int32) (M : Mem) : Option (Int32 × Mem) := (if x1 < 0 then f_X11_status_19 r0 x1 M else (if 6 ≤ x1 then f_X11_status_19 r0 x1 M else Option.bind (zrf M r0 1) fun q1 => Option.bind (zld q1 x1) fun k2 => f_X11_status_20 r0 x1 (zI M q1 k2) M))
set_option maxRecDepth 100000 in
set_option maxHeartbeats 4000000 in
theorem x_X11_status {κ : KX} {n : Nat} (hC : CX κ cX11_status RX11 2 (some .int) 0) (hE : zEnd κ n (0, 0)) (hk0 : zRk κ (0, 0)) (r0 : Nat) (x1 : Int32) (M : Mem) (h_r0 : zO n r0 11) : X κ 2 emI n (0, 0) 0 [.ref r0, .int x1] [] M (f_X11_status r0 x1 M) := by
  unfold f_X11_status
  refine x_iload_n (i := 1) rfl hC (zdk dk_X11_status 0 rfl) (q := 1) rfl ?_
  refine x_if_lt (tgt := 19) hC (zdk dk_X11_status 1 rfl) (q := 4) rfl rfl (fun _ => ?_) (fun _ => ?_)
  · refine x_weak (L' := [.null, .null]) ⟨Or.inl rfl, Or.inl rfl, trivial⟩ ?_
    exact x_X11_status_19 hC hE hk0 h_r0 _
  · refine x_iload_n (i := 1) rfl hC (zdk dk_X11_status 2 rfl) (q := 5) rfl ?_
    refine x_bipush (i := 6) c_bipush_6 hC (zdk dk_X11_status 3 rfl) (q := 7) rfl ?_
    refine x_icmp_ge (tgt := 19) hC (zdk dk_X11_status 4 rfl) (q := 10) rfl rfl (fun _ => ?_) (fun _ => ?_)
    · refine x_weak (L' := [.null, .null]) ⟨Or.inl rfl, Or.inl rfl, trivial⟩ ?_
      exact x_X11_status_19 hC hE hk0 h_r0 _
    · refine x_aload_n (i := 0) rfl hC (zdk dk_X11_status 5 rfl) (q := 11) rfl ?_
      refine x_getR (k := 20) fl_RX11_13 rfl h_r0 hC (zdk dk_X11_status 6 rfl) (q := 14) rfl (fun q1 hq1 => ?_)
      refine x_iload_n (i := 1) rfl hC (zdk dk_X11_status 7 rfl) (q := 15) rfl ?_
      refine x_iald hq1 hC (zdk dk_X11_status 8 rfl) (q := 16) rfl (fun k2 _ => ?_)
      refine x_goto (tgt := 20) hC (zdk dk_X11_status 9 rfl) rfl ?_
      refine x_weak (L' := [.null, .null]) ⟨Or.inl rfl, Or.inl rfl, trivial⟩ ?_
      exact x_X11_status_20 hC hE hk0 h_r0 _ _
set_option maxRecDepth 100000 in
set_option maxHeartbeats 4000000 in
theorem t_X11_status {n : Nat} {r0 : Nat} {x1 : Int32} {M : Mem} (h_r0 : zO n r0 11) (x : (Int32 × Mem)) (hx : f_X11_status r0 x1 M = some x) (l : Launch) (dC : Nat → ClassId) (dI : Nat → Nat → Nat) (b : zSg) : MT l dC dI b yX11_status cX11_status 2 (some .int) 0 0 0 n n [.ref r0, .int x1] M (emI x).1 (emI x).2 :=
  MT.ofX (by decide +kernel) rfl (Nat.le_of_ble_eq_true rfl) (fun κ hC hF _ => x_X11_status hC (zEnd_of hF (Nat.le_refl _) (Nat.le_refl _)) (zRk_of hF (Nat.le_refl _) (Nat.le_refl _)) _ _ _ h_r0) x hx
set_option maxRecDepth 100000 in
def dt_X12_is : List (Nat × Instr × Nat) := [(0, .iload_n 0, 1), (1, .iload_n 1, 1), (2, .if_icmp .lt 12, 3), (5, .iload_n 0, 1), (6, .iload_n 2, 1), (7, .if_icmp .gt 7, 3), (10, .iconst 1, 1), (11, .goto 4, 3), (14, .iconst 0, 1), (15, .ireturn, 1)]
set_option maxRecDepth 100000 in
theorem dk_X12_is : dt_X12_is.all (fun q => decide (decode cX12_is q.1 = .ok q.2)) = true := by decide +kernel
set_option maxRecDepth 100000 in
def f_X12_is_15  (x0 : Int32) (x1 : Int32) (x2 : Int32) (s0 : Int32) (M : Mem) : Option (Int32 × Mem) := zbz s0 (some (s0, M))
set_option maxRecDepth 100000 in
set_option maxHeartbeats 4000000 in
theorem x_X12_is_15 {κ : KX} {n : Nat} (hC : CX κ cX12_is RX12 3 (some .boolean) 0) (hE : zEnd κ n (0, 0)) (hk0 : zRk κ (0, 0)) {x0 : Int32} {x1 : Int32} {x2 : Int32} (s0 : Int32) (M : Mem) : X κ 3 emI n (0, 0) 15 [.null, .null, .null] [.int s0] M (f_X12_is_15 x0 x1 x2 s0 M) := by
  unfold f_X12_is_15
  refine x_bz (fun hb1 => ?_)
  exact x_iret (ty := .boolean) hb1.1 hE hC (zdk dk_X12_is 9 rfl)
set_option maxRecDepth 100000 in
def f_X12_is_14  (x0 : Int32) (x1 : Int32) (x2 : Int32)  (M : Mem) : Option (Int32 × Mem) := f_X12_is_15 x0 x1 x2 0 M
set_option maxRecDepth 100000 in
set_option maxHeartbeats 4000000 in
theorem x_X12_is_14 {κ : KX} {n : Nat} (hC : CX κ cX12_is RX12 3 (some .boolean) 0) (hE : zEnd κ n (0, 0)) (hk0 : zRk κ (0, 0)) {x0 : Int32} {x1 : Int32} {x2 : Int32} (M : Mem) : X κ 3 emI n (0, 0) 14 [.null, .null, .null] [] M (f_X12_is_14 x0 x1 x2 M) := by
  unfold f_X12_is_14
  refine x_iconst (i := 0) c_iconst_0 hC (zdk dk_X12_is 8 rfl) (q := 15) rfl ?_
  refine x_weak (L' := [.null, .null, .null]) ⟨Or.inl rfl, Or.inl rfl, Or.inl rfl, trivial⟩ ?_
  exact x_X12_is_15 hC hE hk0 _ _
set_option maxRecDepth 100000 in
def f_X12_is (x0 : Int32) (x1 : Int32) (x2 : Int32) (M : Mem) : Option (Int32 × Mem) := (if x0 < x1 then f_X12_is_14 x0 x1 x2 M else (if x2 < x0 then f_X12_is_14 x0 x1 x2 M else f_X12_is_15 x0 x1 x2 1 M))
set_option maxRecDepth 100000 in
set_option maxHeartbeats 4000000 in
theorem x_X12_is {κ : KX} {n : Nat} (hC : CX κ cX12_is RX12 3 (some .boolean) 0) (hE : zEnd κ n (0, 0)) (hk0 : zRk κ (0, 0)) (x0 : Int32) (x1 : Int32) (x2 : Int32) (M : Mem) : X κ 3 emI n (0, 0) 0 [.int x0, .int x1, .int x2] [] M (f_X12_is x0 x1 x2 M) := by
  unfold f_X12_is
  refine x_iload_n (i := 0) rfl hC (zdk dk_X12_is 0 rfl) (q := 1) rfl ?_
  refine x_iload_n (i := 1) rfl hC (zdk dk_X12_is 1 rfl) (q := 2) rfl ?_
  refine x_icmp_lt (tgt := 14) hC (zdk dk_X12_is 2 rfl) (q := 5) rfl rfl (fun _ => ?_) (fun _ => ?_)
  · refine x_weak (L' := [.null, .null, .null]) ⟨Or.inl rfl, Or.inl rfl, Or.inl rfl, trivial⟩ ?_
    exact x_X12_is_14 hC hE hk0 _
  · refine x_iload_n (i := 0) rfl hC (zdk dk_X12_is 3 rfl) (q := 6) rfl ?_
    refine x_iload_n (i := 2) rfl hC (zdk dk_X12_is 4 rfl) (q := 7) rfl ?_
    refine x_icmp_gt (tgt := 14) hC (zdk dk_X12_is 5 rfl) (q := 10) rfl rfl (fun _ => ?_) (fun _ => ?_)
    · refine x_weak (L' := [.null, .null, .null]) ⟨Or.inl rfl, Or.inl rfl, Or.inl rfl, trivial⟩ ?_
      exact x_X12_is_14 hC hE hk0 _
    · refine x_iconst (i := 1) c_iconst_1 hC (zdk dk_X12_is 6 rfl) (q := 11) rfl ?_
      refine x_goto (tgt := 15) hC (zdk dk_X12_is 7 rfl) rfl ?_
      refine x_weak (L' := [.null, .null, .null]) ⟨Or.inl rfl, Or.inl rfl, Or.inl rfl, trivial⟩ ?_
      exact x_X12_is_15 hC hE hk0 _ _
set_option maxRecDepth 100000 in
set_option maxHeartbeats 4000000 in
theorem t_X12_is {n : Nat} {x0 : Int32} {x1 : Int32} {x2 : Int32} {M : Mem}  (x : (Int32 × Mem)) (hx : f_X12_is x0 x1 x2 M = some x) (l : Launch) (dC : Nat → ClassId) (dI : Nat → Nat → Nat) (b : zSg) : MT l dC dI b yX12_is cX12_is 3 (some .boolean) 0 0 0 n n [.int x0, .int x1, .int x2] M (emI x).1 (emI x).2 :=
  MT.ofX (by decide +kernel) rfl (Nat.le_of_ble_eq_true rfl) (fun κ hC hF _ => x_X12_is hC (zEnd_of hF (Nat.le_refl _) (Nat.le_refl _)) (zRk_of hF (Nat.le_refl _) (Nat.le_refl _)) _ _ _ _ ) x hx
set_option maxRecDepth 100000 in
def dt_X12_put : List (Nat × Instr × Nat) := [(0, .bipush 24, 2), (2, .istore_n 2, 1), (3, .iload_n 2, 1), (4, .ifCond .lt 35, 3), (7, .aload_n 0, 1), (8, .getfield 7, 3), (11, .aload_n 0, 1), (12, .getfield 13, 3), (15, .iload_n 1, 1), (16, .iload_n 2, 1), (17, .ishr, 1), (18, .sipush 255, 3), (21, .iand, 1), (22, .iastore, 1), (23, .aload_n 0, 1), (24, .dup, 1), (25, .getfield 13, 3), (28, .iconst 1, 1), (29, .iadd, 1), (30, .putfield 13, 3), (33, .iinc 2 (-8), 3), (36, .goto (-33), 3), (39, .return_, 1)]
set_option maxRecDepth 100000 in
theorem dk_X12_put : dt_X12_put.all (fun q => decide (decode cX12_put q.1 = .ok q.2)) = true := by decide +kernel
set_option maxRecDepth 100000 in
def f_X12_put_3  (r0 : Nat) (x1 : Int32) : Nat → Int32 → Mem → Option Mem
  | 0, _, _ => none
  | f + 1, x2, M => (if x2 < 0 then some M else Option.bind (zrf M r0 0) fun q1 => Option.bind (zld q1 (zI M r0 1)) fun k2 => Option.bind (some (zsI M q1 k2 ((x1 >>> (x2 &&& 31)) &&& 255))) fun M3 => Option.bind (some (zsI M3 r0 1 ((zI M3 r0 1) + 1))) fun M4 => (f_X12_put_3 r0 x1 f) (x2 + (-8)) M4)
set_option maxRecDepth 100000 in
set_option maxHeartbeats 4000000 in
theorem x_X12_put_3 {κ : KX} {n : Nat} (hC : CX κ cX12_put RX12 3 none 0) (hE : zEnd κ n (0, 0)) (hk0 : zRk κ (0, 0)) {r0 : Nat} {x1 : Int32} (h_r0 : zO n r0 12) : ∀ (f : Nat) (x2 : Int32) (M : Mem), X κ 3 emV n (0, 0) 3 [.ref r0, .int x1, .int x2] [] M (f_X12_put_3 r0 x1 f x2 M) := by
  intro f
  induction f with
  | zero => intros; exact x_none
  | succ f ih =>
    intro x2 M 
    rw [f_X12_put_3]
    refine x_iload_n (i := 2) rfl hC (zdk dk_X12_put 2 rfl) (q := 4) rfl ?_
    refine x_if_lt (tgt := 39) hC (zdk dk_X12_put 3 rfl) (q := 7) rfl rfl (fun _ => ?_) (fun _ => ?_)
    · exact x_vret hE hC (zdk dk_X12_put 22 rfl)
    · refine x_aload_n (i := 0) rfl hC (zdk dk_X12_put 4 rfl) (q := 8) rfl ?_
      refine x_getR (k := 20) fl_RX12_7 rfl h_r0 hC (zdk dk_X12_put 5 rfl) (q := 11) rfl (fun q1 hq1 => ?_)
      refine x_aload_n (i := 0) rfl hC (zdk dk_X12_put 6 rfl) (q := 12) rfl ?_
      refine x_getI fl_RX12_13 (by decide) h_r0 hC (zdk dk_X12_put 7 rfl) (q := 15) rfl ?_
      refine x_iload_n (i := 1) rfl hC (zdk dk_X12_put 8 rfl) (q := 16) rfl ?_
      refine x_iload_n (i := 2) rfl hC (zdk dk_X12_put 9 rfl) (q := 17) rfl ?_
      refine x_ishr hC (zdk dk_X12_put 10 rfl) (q := 18) rfl ?_
      refine x_sipush (i := 255) c_sipush_255 hC (zdk dk_X12_put 11 rfl) (q := 21) rfl ?_
      refine x_iand hC (zdk dk_X12_put 12 rfl) (q := 22) rfl ?_
      refine x_iast hq1 hC (zdk dk_X12_put 13 rfl) (q := 23) rfl (fun k2 _ => ?_)
      refine x_nmM (fun M3 => ?_)
      refine x_aload_n (i := 0) rfl hC (zdk dk_X12_put 14 rfl) (q := 24) rfl ?_
      refine x_dup rfl hC (zdk dk_X12_put 15 rfl) (q := 25) rfl ?_
      refine x_getI fl_RX12_13 (by decide) h_r0 hC (zdk dk_X12_put 16 rfl) (q := 28) rfl ?_
      refine x_iconst (i := 1) c_iconst_1 hC (zdk dk_X12_put 17 rfl) (q := 29) rfl ?_
      refine x_iadd hC (zdk dk_X12_put 18 rfl) (q := 30) rfl ?_
      refine x_putI fl_RX12_13 ⟨rfl, rfl⟩ (by decide) (Or.inl rfl) h_r0 hC (zdk dk_X12_put 19 rfl) (q := 33) rfl ?_
      refine x_nmM (fun M4 => ?_)
      refine x_iinc (i := 2) c_iconst_m8 rfl (by decide) (L' := [.ref r0, .int x1, .int (x2 + (-8))]) rfl hC (zdk dk_X12_put 20 rfl) (q := 36) rfl ?_
      refine x_goto (tgt := 3) hC (zdk dk_X12_put 21 rfl) rfl ?_
      refine x_weak (L' := [.ref r0, .int x1, .int (x2 + (-8))]) ⟨Or.inr rfl, Or.inr rfl, Or.inr rfl, trivial⟩ ?_
      exact ih _ _
set_option maxRecDepth 100000 in
def f_X12_put (r0 : Nat) (x1 : Int32) (M : Mem) : Option Mem := f_X12_put_3 r0 x1 1000000 24 M
set_option maxRecDepth 100000 in
set_option maxHeartbeats 4000000 in
theorem x_X12_put {κ : KX} {n : Nat} (hC : CX κ cX12_put RX12 3 none 0) (hE : zEnd κ n (0, 0)) (hk0 : zRk κ (0, 0)) (r0 : Nat) (x1 : Int32) (M : Mem) (h_r0 : zO n r0 12) : X κ 3 emV n (0, 0) 0 [.ref r0, .int x1, .null] [] M (f_X12_put r0 x1 M) := by
  unfold f_X12_put
  refine x_bipush (i := 24) c_bipush_24 hC (zdk dk_X12_put 0 rfl) (q := 2) rfl ?_
  refine x_istore_n (i := 2) (L' := [.ref r0, .int x1, .int 24]) (by decide) rfl hC (zdk dk_X12_put 1 rfl) (q := 3) rfl ?_
  refine x_weak (L' := [.ref r0, .int x1, .int 24]) ⟨Or.inr rfl, Or.inr rfl, Or.inr rfl, trivial⟩ ?_
  exact x_X12_put_3 hC hE hk0 h_r0 _ _ _
set_option maxRecDepth 100000 in
set_option maxHeartbeats 4000000 in
theorem t_X12_put {n : Nat} {r0 : Nat} {x1 : Int32} {M : Mem} (h_r0 : zO n r0 12) (x : Mem) (hx : f_X12_put r0 x1 M = some x) (l : Launch) (dC : Nat → ClassId) (dI : Nat → Nat → Nat) (b : zSg) : MT l dC dI b yX12_put cX12_put 3 none 0 0 0 n n [.ref r0, .int x1] M (emV x).1 (emV x).2 :=
  MT.ofX (by decide +kernel) rfl (Nat.le_of_ble_eq_true rfl) (fun κ hC hF _ => x_X12_put hC (zEnd_of hF (Nat.le_refl _) (Nat.le_refl _)) (zRk_of hF (Nat.le_refl _) (Nat.le_refl _)) _ _ _ h_r0) x hx
set_option maxRecDepth 100000 in
def dt_X12_refuses : List (Nat × Instr × Nat) := [(0, .aload_n 0, 1), (1, .getfield 123, 3), (4, .iload_n 1, 1), (5, .dup2, 1), (6, .iaload, 1), (7, .iconst 1, 1), (8, .iadd, 1), (9, .iastore, 1), (10, .iconst (-1), 1), (11, .ireturn, 1)]
set_option maxRecDepth 100000 in
theorem dk_X12_refuses : dt_X12_refuses.all (fun q => decide (decode cX12_refuses q.1 = .ok q.2)) = true := by decide +kernel
set_option maxRecDepth 100000 in
def f_X12_refuses (r0 : Nat) (x1 : Int32) (M : Mem) : Option (Int32 × Mem) := Option.bind (zrf M r0 36) fun q1 => Option.bind (zld q1 x1) fun k2 => Option.bind (zld q1 x1) fun k3 => Option.bind (some (zsI M q1 k3 ((zI M q1 k2) + 1))) fun M4 => some ((-1), M4)
set_option maxRecDepth 100000 in
set_option maxHeartbeats 4000000 in
theorem x_X12_refuses {κ : KX} {n : Nat} (hC : CX κ cX12_refuses RX12 2 (some .int) 0) (hE : zEnd κ n (0, 0)) (hk0 : zRk κ (0, 0)) (r0 : Nat) (x1 : Int32) (M : Mem) (h_r0 : zO n r0 12) : X κ 2 emI n (0, 0) 0 [.ref r0, .int x1] [] M (f_X12_refuses r0 x1 M) := by
  unfold f_X12_refuses
  refine x_aload_n (i := 0) rfl hC (zdk dk_X12_refuses 0 rfl) (q := 1) rfl ?_
  refine x_getR (k := 20) fl_RX12_123 rfl h_r0 hC (zdk dk_X12_refuses 1 rfl) (q := 4) rfl (fun q1 hq1 => ?_)
  refine x_iload_n (i := 1) rfl hC (zdk dk_X12_refuses 2 rfl) (q := 5) rfl ?_
  refine x_dup2 rfl rfl hC (zdk dk_X12_refuses 3 rfl) (q := 6) rfl ?_
  refine x_iald hq1 hC (zdk dk_X12_refuses 4 rfl) (q := 7) rfl (fun k2 _ => ?_)
  refine x_iconst (i := 1) c_iconst_1 hC (zdk dk_X12_refuses 5 rfl) (q := 8) rfl ?_
  refine x_iadd hC (zdk dk_X12_refuses 6 rfl) (q := 9) rfl ?_
  refine x_iast hq1 hC (zdk dk_X12_refuses 7 rfl) (q := 10) rfl (fun k3 _ => ?_)
  refine x_nmM (fun M4 => ?_)
  refine x_iconst (i := (-1)) c_iconst_m1 hC (zdk dk_X12_refuses 8 rfl) (q := 11) rfl ?_
  exact x_iret (ty := .int) rfl hE hC (zdk dk_X12_refuses 9 rfl)
set_option maxRecDepth 100000 in
set_option maxHeartbeats 4000000 in
theorem t_X12_refuses {n : Nat} {r0 : Nat} {x1 : Int32} {M : Mem} (h_r0 : zO n r0 12) (x : (Int32 × Mem)) (hx : f_X12_refuses r0 x1 M = some x) (l : Launch) (dC : Nat → ClassId) (dI : Nat → Nat → Nat) (b : zSg) : MT l dC dI b yX12_refuses cX12_refuses 2 (some .int) 0 0 0 n n [.ref r0, .int x1] M (emI x).1 (emI x).2 :=
  MT.ofX (by decide +kernel) rfl (Nat.le_of_ble_eq_true rfl) (fun κ hC hF _ => x_X12_refuses hC (zEnd_of hF (Nat.le_refl _) (Nat.le_refl _)) (zRk_of hF (Nat.le_refl _) (Nat.le_refl _)) _ _ _ h_r0) x hx
set_option maxRecDepth 100000 in
def dt_X12_feed : List (Nat × Instr × Nat) := [(0, .aload_n 0, 1), (1, .getfield 13, 3), (4, .bipush 20, 2), (6, .iadd, 1), (7, .sipush 1600, 3), (10, .if_icmp .le 9, 3), (13, .aload_n 0, 1), (14, .iconst 0, 1), (15, .invokevirtual 243, 3), (18, .ireturn, 1), (19, .aload_n 0, 1), (20, .iload_n 1, 1), (21, .invokevirtual 247, 3), (24, .aload_n 0, 1), (25, .iload_n 2, 1), (26, .invokevirtual 247, 3), (29, .aload_n 0, 1), (30, .iload_n 3, 1), (31, .invokevirtual 247, 3), (34, .aload_n 0, 1), (35, .iload 4, 2), (37, .invokevirtual 247, 3), (40, .aload_n 0, 1), (41, .iload 5, 2), (43, .invokevirtual 247, 3), (46, .aload_n 0, 1), (47, .getfield 13, 3), (50, .ireturn, 1)]
set_option maxRecDepth 100000 in
theorem dk_X12_feed : dt_X12_feed.all (fun q => decide (decode cX12_feed q.1 = .ok q.2)) = true := by decide +kernel
set_option maxRecDepth 100000 in
def f_X12_feed (r0 : Nat) (x1 : Int32) (x2 : Int32) (x3 : Int32) (x4 : Int32) (x5 : Int32) (M : Mem) : Option (Int32 × Mem) := (if (zI M r0 1) + 20 ≤ 1600 then Option.bind (f_X12_put r0 x1 M) fun M1 => Option.bind (f_X12_put r0 x2 M1) fun M2 => Option.bind (f_X12_put r0 x3 M2) fun M3 => Option.bind (f_X12_put r0 x4 M3) fun M4 => Option.bind (f_X12_put r0 x5 M4) fun M5 => some (zI M5 r0 1, M5) else Option.bind (f_X12_refuses r0 0 M) fun z6 => some (z6.1, z6.2))
set_option maxRecDepth 100000 in
set_option maxHeartbeats 4000000 in
theorem x_X12_feed {κ : KX} {n : Nat} (hC : CX κ cX12_feed RX12 6 (some .int) 1) (hE : zEnd κ n (0, 0)) (hk0 : zRk κ (0, 0)) (r0 : Nat) (x1 : Int32) (x2 : Int32) (x3 : Int32) (x4 : Int32) (x5 : Int32) (M : Mem) (h_r0 : zO n r0 12) : X κ 6 emI n (0, 0) 0 [.ref r0, .int x1, .int x2, .int x3, .int x4, .int x5] [] M (f_X12_feed r0 x1 x2 x3 x4 x5 M) := by
  unfold f_X12_feed
  refine x_aload_n (i := 0) rfl hC (zdk dk_X12_feed 0 rfl) (q := 1) rfl ?_
  refine x_getI fl_RX12_13 (by decide) h_r0 hC (zdk dk_X12_feed 1 rfl) (q := 4) rfl ?_
  refine x_bipush (i := 20) c_bipush_20 hC (zdk dk_X12_feed 2 rfl) (q := 6) rfl ?_
  refine x_iadd hC (zdk dk_X12_feed 3 rfl) (q := 7) rfl ?_
  refine x_sipush (i := 1600) c_sipush_1600 hC (zdk dk_X12_feed 4 rfl) (q := 10) rfl ?_
  refine x_icmp_le (tgt := 19) hC (zdk dk_X12_feed 5 rfl) (q := 13) rfl rfl (fun _ => ?_) (fun _ => ?_)
  · refine x_aload_n (i := 0) rfl hC (zdk dk_X12_feed 10 rfl) (q := 20) rfl ?_
    refine x_iload_n (i := 1) rfl hC (zdk dk_X12_feed 11 rfl) (q := 21) rfl ?_
    refine x_callVv (as := [.int x1]) cb_RX12_247 rfl (by decide) hk0 h_r0 (fun x hx => t_X12_put h_r0 x hx) hC (zdk dk_X12_feed 12 rfl) (q := 24) rfl rfl (Nat.le_of_ble_eq_true rfl) (fun M1 => ?_)
    refine x_aload_n (i := 0) rfl hC (zdk dk_X12_feed 13 rfl) (q := 25) rfl ?_
    refine x_iload_n (i := 2) rfl hC (zdk dk_X12_feed 14 rfl) (q := 26) rfl ?_
    refine x_callVv (as := [.int x2]) cb_RX12_247 rfl (by decide) hk0 h_r0 (fun x hx => t_X12_put h_r0 x hx) hC (zdk dk_X12_feed 15 rfl) (q := 29) rfl rfl (Nat.le_of_ble_eq_true rfl) (fun M2 => ?_)
    refine x_aload_n (i := 0) rfl hC (zdk dk_X12_feed 16 rfl) (q := 30) rfl ?_
    refine x_iload_n (i := 3) rfl hC (zdk dk_X12_feed 17 rfl) (q := 31) rfl ?_
    refine x_callVv (as := [.int x3]) cb_RX12_247 rfl (by decide) hk0 h_r0 (fun x hx => t_X12_put h_r0 x hx) hC (zdk dk_X12_feed 18 rfl) (q := 34) rfl rfl (Nat.le_of_ble_eq_true rfl) (fun M3 => ?_)
    refine x_aload_n (i := 0) rfl hC (zdk dk_X12_feed 19 rfl) (q := 35) rfl ?_
    refine x_iload (i := 4) rfl hC (zdk dk_X12_feed 20 rfl) (q := 37) rfl ?_
    refine x_callVv (as := [.int x4]) cb_RX12_247 rfl (by decide) hk0 h_r0 (fun x hx => t_X12_put h_r0 x hx) hC (zdk dk_X12_feed 21 rfl) (q := 40) rfl rfl (Nat.le_of_ble_eq_true rfl) (fun M4 => ?_)
    refine x_aload_n (i := 0) rfl hC (zdk dk_X12_feed 22 rfl) (q := 41) rfl ?_
    refine x_iload (i := 5) rfl hC (zdk dk_X12_feed 23 rfl) (q := 43) rfl ?_
    refine x_callVv (as := [.int x5]) cb_RX12_247 rfl (by decide) hk0 h_r0 (fun x hx => t_X12_put h_r0 x hx) hC (zdk dk_X12_feed 24 rfl) (q := 46) rfl rfl (Nat.le_of_ble_eq_true rfl) (fun M5 => ?_)
    refine x_aload_n (i := 0) rfl hC (zdk dk_X12_feed 25 rfl) (q := 47) rfl ?_
    refine x_getI fl_RX12_13 (by decide) h_r0 hC (zdk dk_X12_feed 26 rfl) (q := 50) rfl ?_
    exact x_iret (ty := .int) rfl hE hC (zdk dk_X12_feed 27 rfl)
  · refine x_aload_n (i := 0) rfl hC (zdk dk_X12_feed 6 rfl) (q := 14) rfl ?_
    refine x_iconst (i := 0) c_iconst_0 hC (zdk dk_X12_feed 7 rfl) (q := 15) rfl ?_
    refine x_callVi (as := [.int 0]) cb_RX12_243 rfl (by decide) hk0 h_r0 (fun x hx => t_X12_refuses h_r0 x hx) hC (zdk dk_X12_feed 8 rfl) (q := 18) rfl rfl (Nat.le_of_ble_eq_true rfl) (fun z6 => ?_)
    exact x_iret (ty := .int) rfl hE hC (zdk dk_X12_feed 9 rfl)
set_option maxRecDepth 100000 in
set_option maxHeartbeats 4000000 in
theorem t_X12_feed {n : Nat} {r0 : Nat} {x1 : Int32} {x2 : Int32} {x3 : Int32} {x4 : Int32} {x5 : Int32} {M : Mem} (h_r0 : zO n r0 12) (x : (Int32 × Mem)) (hx : f_X12_feed r0 x1 x2 x3 x4 x5 M = some x) (l : Launch) (dC : Nat → ClassId) (dI : Nat → Nat → Nat) (b : zSg) : MT l dC dI b yX12_feed cX12_feed 6 (some .int) 1 0 0 n n [.ref r0, .int x1, .int x2, .int x3, .int x4, .int x5] M (emI x).1 (emI x).2 :=
  MT.ofX (by decide +kernel) rfl (Nat.le_of_ble_eq_true rfl) (fun κ hC hF _ => x_X12_feed hC (zEnd_of hF (Nat.le_refl _) (Nat.le_refl _)) (zRk_of hF (Nat.le_refl _) (Nat.le_refl _)) _ _ _ _ _ _ _ h_r0) x hx
set_option maxRecDepth 100000 in
def dt_X12_end : List (Nat × Instr × Nat) := [(0, .iload_n 1, 1), (1, .ifCond .lt 11, 3), (4, .iload_n 1, 1), (5, .aload_n 0, 1), (6, .getfield 13, 3), (9, .if_icmp .le 17, 3), (12, .aload_n 0, 1), (13, .iconst 0, 1), (14, .invokevirtual 243, 3), (17, .ifCond .lt 7, 3), (20, .iconst 1, 1), (21, .goto 4, 3), (24, .iconst 0, 1), (25, .ireturn, 1), (26, .aload_n 0, 1), (27, .iload_n 1, 1), (28, .putfield 13, 3), (31, .iconst 1, 1), (32, .ireturn, 1)]
set_option maxRecDepth 100000 in
theorem dk_X12_end : dt_X12_end.all (fun q => decide (decode cX12_end q.1 = .ok q.2)) = true := by decide +kernel
set_option maxRecDepth 100000 in
def f_X12_end_25  (r0 : Nat) (x1 : Int32) (s0 : Int32) (M : Mem) : Option (Int32 × Mem) := zbz s0 (some (s0, M))
set_option maxRecDepth 100000 in
set_option maxHeartbeats 4000000 in
theorem x_X12_end_25 {κ : KX} {n : Nat} (hC : CX κ cX12_end RX12 2 (some .boolean) 1) (hE : zEnd κ n (0, 0)) (hk0 : zRk κ (0, 0)) {r0 : Nat} {x1 : Int32} (h_r0 : zO n r0 12) (s0 : Int32) (M : Mem) : X κ 2 emI n (0, 0) 25 [.null, .null] [.int s0] M (f_X12_end_25 r0 x1 s0 M) := by
  unfold f_X12_end_25
  refine x_bz (fun hb1 => ?_)
  exact x_iret (ty := .boolean) hb1.1 hE hC (zdk dk_X12_end 13 rfl)
set_option maxRecDepth 100000 in
def f_X12_end_12  (r0 : Nat) (x1 : Int32)  (M : Mem) : Option (Int32 × Mem) := Option.bind (f_X12_refuses r0 0 M) fun z2 => (if z2.1 < 0 then f_X12_end_25 r0 x1 0 z2.2 else f_X12_end_25 r0 x1 1 z2.2)
set_option maxRecDepth 100000 in
set_option maxHeartbeats 4000000 in
theorem x_X12_end_12 {κ : KX} {n : Nat} (hC : CX κ cX12_end RX12 2 (some .boolean) 1) (hE : zEnd κ n (0, 0)) (hk0 : zRk κ (0, 0)) {r0 : Nat} {x1 : Int32} (h_r0 : zO n r0 12) (M : Mem) : X κ 2 emI n (0, 0) 12 [.ref r0, .null] [] M (f_X12_end_12 r0 x1 M) := by
  unfold f_X12_end_12
  refine x_aload_n (i := 0) rfl hC (zdk dk_X12_end 6 rfl) (q := 13) rfl ?_
  refine x_iconst (i := 0) c_iconst_0 hC (zdk dk_X12_end 7 rfl) (q := 14) rfl ?_
  refine x_callVi (as := [.int 0]) cb_RX12_243 rfl (by decide) hk0 h_r0 (fun x hx => t_X12_refuses h_r0 x hx) hC (zdk dk_X12_end 8 rfl) (q := 17) rfl rfl (Nat.le_of_ble_eq_true rfl) (fun z2 => ?_)
  refine x_if_lt (tgt := 24) hC (zdk dk_X12_end 9 rfl) (q := 20) rfl rfl (fun _ => ?_) (fun _ => ?_)
  · refine x_iconst (i := 0) c_iconst_0 hC (zdk dk_X12_end 12 rfl) (q := 25) rfl ?_
    refine x_weak (L' := [.null, .null]) ⟨Or.inl rfl, Or.inl rfl, trivial⟩ ?_
    exact x_X12_end_25 hC hE hk0 h_r0 _ _
  · refine x_iconst (i := 1) c_iconst_1 hC (zdk dk_X12_end 10 rfl) (q := 21) rfl ?_
    refine x_goto (tgt := 25) hC (zdk dk_X12_end 11 rfl) rfl ?_
    refine x_weak (L' := [.null, .null]) ⟨Or.inl rfl, Or.inl rfl, trivial⟩ ?_
    exact x_X12_end_25 hC hE hk0 h_r0 _ _
set_option maxRecDepth 100000 in
def f_X12_end (r0 : Nat) (x1 : Int32) (M : Mem) : Option (Int32 × Mem) := (if x1 < 0 then f_X12_end_12 r0 x1 M else (if x1 ≤ zI M r0 1 then Option.bind (some (zsI M r0 1 x1)) fun M3 => some (1, M3) else f_X12_end_12 r0 x1 M))
set_option maxRecDepth 100000 in
set_option maxHeartbeats 4000000 in
theorem x_X12_end {κ : KX} {n : Nat} (hC : CX κ cX12_end RX12 2 (some .boolean) 1) (hE : zEnd κ n (0, 0)) (hk0 : zRk κ (0, 0)) (r0 : Nat) (x1 : Int32) (M : Mem) (h_r0 : zO n r0 12) : X κ 2 emI n (0, 0) 0 [.ref r0, .int x1] [] M (f_X12_end r0 x1 M) := by
  unfold f_X12_end
  refine x_iload_n (i := 1) rfl hC (zdk dk_X12_end 0 rfl) (q := 1) rfl ?_
  refine x_if_lt (tgt := 12) hC (zdk dk_X12_end 1 rfl) (q := 4) rfl rfl (fun _ => ?_) (fun _ => ?_)
  · refine x_weak (L' := [.ref r0, .null]) ⟨Or.inr rfl, Or.inl rfl, trivial⟩ ?_
    exact x_X12_end_12 hC hE hk0 h_r0 _
  · refine x_iload_n (i := 1) rfl hC (zdk dk_X12_end 2 rfl) (q := 5) rfl ?_
    refine x_aload_n (i := 0) rfl hC (zdk dk_X12_end 3 rfl) (q := 6) rfl ?_
    refine x_getI fl_RX12_13 (by decide) h_r0 hC (zdk dk_X12_end 4 rfl) (q := 9) rfl ?_
    refine x_icmp_le (tgt := 26) hC (zdk dk_X12_end 5 rfl) (q := 12) rfl rfl (fun _ => ?_) (fun _ => ?_)
    · refine x_aload_n (i := 0) rfl hC (zdk dk_X12_end 14 rfl) (q := 27) rfl ?_
      refine x_iload_n (i := 1) rfl hC (zdk dk_X12_end 15 rfl) (q := 28) rfl ?_
      refine x_putI fl_RX12_13 ⟨rfl, rfl⟩ (by decide) (Or.inl rfl) h_r0 hC (zdk dk_X12_end 16 rfl) (q := 31) rfl ?_
      refine x_nmM (fun M3 => ?_)
      refine x_iconst (i := 1) c_iconst_1 hC (zdk dk_X12_end 17 rfl) (q := 32) rfl ?_
      exact x_iret (ty := .boolean) rfl hE hC (zdk dk_X12_end 18 rfl)
    · refine x_weak (L' := [.ref r0, .null]) ⟨Or.inr rfl, Or.inl rfl, trivial⟩ ?_
      exact x_X12_end_12 hC hE hk0 h_r0 _
set_option maxRecDepth 100000 in
set_option maxHeartbeats 4000000 in
theorem t_X12_end {n : Nat} {r0 : Nat} {x1 : Int32} {M : Mem} (h_r0 : zO n r0 12) (x : (Int32 × Mem)) (hx : f_X12_end r0 x1 M = some x) (l : Launch) (dC : Nat → ClassId) (dI : Nat → Nat → Nat) (b : zSg) : MT l dC dI b yX12_end cX12_end 2 (some .boolean) 1 0 0 n n [.ref r0, .int x1] M (emI x).1 (emI x).2 :=
  MT.ofX (by decide +kernel) rfl (Nat.le_of_ble_eq_true rfl) (fun κ hC hF _ => x_X12_end hC (zEnd_of hF (Nat.le_refl _) (Nat.le_refl _)) (zRk_of hF (Nat.le_refl _) (Nat.le_refl _)) _ _ _ h_r0) x hx
set_option maxRecDepth 100000 in
def dt_X12_blame : List (Nat × Instr × Nat) := [(0, .aload_n 0, 1), (1, .getfield 36, 3), (4, .ifCond .le 4, 3), (7, .return_, 1), (8, .aload_n 0, 1), (9, .iload_n 1, 1), (10, .putfield 36, 3), (13, .aload_n 0, 1), (14, .iload_n 2, 1), (15, .putfield 39, 3), (18, .return_, 1)]
set_option maxRecDepth 100000 in
theorem dk_X12_blame : dt_X12_blame.all (fun q => decide (decode cX12_blame q.1 = .ok q.2)) = true := by decide +kernel
set_option maxRecDepth 100000 in
def f_X12_blame (r0 : Nat) (x1 : Int32) (x2 : Int32) (M : Mem) : Option Mem := (if zI M r0 8 ≤ 0 then Option.bind (some (zsI M r0 8 x1)) fun M1 => Option.bind (some (zsI M1 r0 9 x2)) fun M2 => some M2 else some M)
set_option maxRecDepth 100000 in
set_option maxHeartbeats 4000000 in
theorem x_X12_blame {κ : KX} {n : Nat} (hC : CX κ cX12_blame RX12 3 none 0) (hE : zEnd κ n (0, 0)) (hk0 : zRk κ (0, 0)) (r0 : Nat) (x1 : Int32) (x2 : Int32) (M : Mem) (h_r0 : zO n r0 12) : X κ 3 emV n (0, 0) 0 [.ref r0, .int x1, .int x2] [] M (f_X12_blame r0 x1 x2 M) := by
  unfold f_X12_blame
  refine x_aload_n (i := 0) rfl hC (zdk dk_X12_blame 0 rfl) (q := 1) rfl ?_
  refine x_getI fl_RX12_36 (by decide) h_r0 hC (zdk dk_X12_blame 1 rfl) (q := 4) rfl ?_
  refine x_if_le (tgt := 8) hC (zdk dk_X12_blame 2 rfl) (q := 7) rfl rfl (fun _ => ?_) (fun _ => ?_)
  · refine x_aload_n (i := 0) rfl hC (zdk dk_X12_blame 4 rfl) (q := 9) rfl ?_
    refine x_iload_n (i := 1) rfl hC (zdk dk_X12_blame 5 rfl) (q := 10) rfl ?_
    refine x_putI fl_RX12_36 ⟨rfl, rfl⟩ (by decide) (Or.inl rfl) h_r0 hC (zdk dk_X12_blame 6 rfl) (q := 13) rfl ?_
    refine x_nmM (fun M1 => ?_)
    refine x_aload_n (i := 0) rfl hC (zdk dk_X12_blame 7 rfl) (q := 14) rfl ?_
    refine x_iload_n (i := 2) rfl hC (zdk dk_X12_blame 8 rfl) (q := 15) rfl ?_
    refine x_putI fl_RX12_39 ⟨rfl, rfl⟩ (by decide) (Or.inl rfl) h_r0 hC (zdk dk_X12_blame 9 rfl) (q := 18) rfl ?_
    refine x_nmM (fun M2 => ?_)
    exact x_vret hE hC (zdk dk_X12_blame 10 rfl)
  · exact x_vret hE hC (zdk dk_X12_blame 3 rfl)
set_option maxRecDepth 100000 in
set_option maxHeartbeats 4000000 in
theorem t_X12_blame {n : Nat} {r0 : Nat} {x1 : Int32} {x2 : Int32} {M : Mem} (h_r0 : zO n r0 12) (x : Mem) (hx : f_X12_blame r0 x1 x2 M = some x) (l : Launch) (dC : Nat → ClassId) (dI : Nat → Nat → Nat) (b : zSg) : MT l dC dI b yX12_blame cX12_blame 3 none 0 0 0 n n [.ref r0, .int x1, .int x2] M (emV x).1 (emV x).2 :=
  MT.ofX (by decide +kernel) rfl (Nat.le_of_ble_eq_true rfl) (fun κ hC hF _ => x_X12_blame hC (zEnd_of hF (Nat.le_refl _) (Nat.le_refl _)) (zRk_of hF (Nat.le_refl _) (Nat.le_refl _)) _ _ _ _ h_r0) x hx
set_option maxRecDepth 100000 in
def dt_X12_isLetter : List (Nat × Instr × Nat) := [(0, .iload_n 0, 1), (1, .bipush 97, 2), (3, .if_icmp .lt 13, 3), (6, .iload_n 0, 1), (7, .bipush 122, 2), (9, .if_icmp .gt 7, 3), (12, .iconst 1, 1), (13, .goto 4, 3), (16, .iconst 0, 1), (17, .ireturn, 1)]
set_option maxRecDepth 100000 in
theorem dk_X12_isLetter : dt_X12_isLetter.all (fun q => decide (decode cX12_isLetter q.1 = .ok q.2)) = true := by decide +kernel
set_option maxRecDepth 100000 in
def f_X12_isLetter_17  (x0 : Int32) (s0 : Int32) (M : Mem) : Option (Int32 × Mem) := zbz s0 (some (s0, M))
set_option maxRecDepth 100000 in
set_option maxHeartbeats 4000000 in
theorem x_X12_isLetter_17 {κ : KX} {n : Nat} (hC : CX κ cX12_isLetter RX12 1 (some .boolean) 0) (hE : zEnd κ n (0, 0)) (hk0 : zRk κ (0, 0)) {x0 : Int32} (s0 : Int32) (M : Mem) : X κ 1 emI n (0, 0) 17 [.null] [.int s0] M (f_X12_isLetter_17 x0 s0 M) := by
  unfold f_X12_isLetter_17
  refine x_bz (fun hb1 => ?_)
  exact x_iret (ty := .boolean) hb1.1 hE hC (zdk dk_X12_isLetter 9 rfl)
set_option maxRecDepth 100000 in
def f_X12_isLetter_16  (x0 : Int32)  (M : Mem) : Option (Int32 × Mem) := f_X12_isLetter_17 x0 0 M
set_option maxRecDepth 100000 in
set_option maxHeartbeats 4000000 in
theorem x_X12_isLetter_16 {κ : KX} {n : Nat} (hC : CX κ cX12_isLetter RX12 1 (some .boolean) 0) (hE : zEnd κ n (0, 0)) (hk0 : zRk κ (0, 0)) {x0 : Int32} (M : Mem) : X κ 1 emI n (0, 0) 16 [.null] [] M (f_X12_isLetter_16 x0 M) := by
  unfold f_X12_isLetter_16
  refine x_iconst (i := 0) c_iconst_0 hC (zdk dk_X12_isLetter 8 rfl) (q := 17) rfl ?_
  refine x_weak (L' := [.null]) ⟨Or.inl rfl, trivial⟩ ?_
  exact x_X12_isLetter_17 hC hE hk0 _ _
set_option maxRecDepth 100000 in
def f_X12_isLetter (x0 : Int32) (M : Mem) : Option (Int32 × Mem) := (if x0 < 97 then f_X12_isLetter_16 x0 M else (if 122 < x0 then f_X12_isLetter_16 x0 M else f_X12_isLetter_17 x0 1 M))
set_option maxRecDepth 100000 in
set_option maxHeartbeats 4000000 in
theorem x_X12_isLetter {κ : KX} {n : Nat} (hC : CX κ cX12_isLetter RX12 1 (some .boolean) 0) (hE : zEnd κ n (0, 0)) (hk0 : zRk κ (0, 0)) (x0 : Int32) (M : Mem) : X κ 1 emI n (0, 0) 0 [.int x0] [] M (f_X12_isLetter x0 M) := by
  unfold f_X12_isLetter
  refine x_iload_n (i := 0) rfl hC (zdk dk_X12_isLetter 0 rfl) (q := 1) rfl ?_
  refine x_bipush (i := 97) c_bipush_97 hC (zdk dk_X12_isLetter 1 rfl) (q := 3) rfl ?_
  refine x_icmp_lt (tgt := 16) hC (zdk dk_X12_isLetter 2 rfl) (q := 6) rfl rfl (fun _ => ?_) (fun _ => ?_)
  · refine x_weak (L' := [.null]) ⟨Or.inl rfl, trivial⟩ ?_
    exact x_X12_isLetter_16 hC hE hk0 _
  · refine x_iload_n (i := 0) rfl hC (zdk dk_X12_isLetter 3 rfl) (q := 7) rfl ?_
    refine x_bipush (i := 122) c_bipush_122 hC (zdk dk_X12_isLetter 4 rfl) (q := 9) rfl ?_
    refine x_icmp_gt (tgt := 16) hC (zdk dk_X12_isLetter 5 rfl) (q := 12) rfl rfl (fun _ => ?_) (fun _ => ?_)
    · refine x_weak (L' := [.null]) ⟨Or.inl rfl, trivial⟩ ?_
      exact x_X12_isLetter_16 hC hE hk0 _
    · refine x_iconst (i := 1) c_iconst_1 hC (zdk dk_X12_isLetter 6 rfl) (q := 13) rfl ?_
      refine x_goto (tgt := 17) hC (zdk dk_X12_isLetter 7 rfl) rfl ?_
      refine x_weak (L' := [.null]) ⟨Or.inl rfl, trivial⟩ ?_
      exact x_X12_isLetter_17 hC hE hk0 _ _
set_option maxRecDepth 100000 in
set_option maxHeartbeats 4000000 in
theorem t_X12_isLetter {n : Nat} {x0 : Int32} {M : Mem}  (x : (Int32 × Mem)) (hx : f_X12_isLetter x0 M = some x) (l : Launch) (dC : Nat → ClassId) (dI : Nat → Nat → Nat) (b : zSg) : MT l dC dI b yX12_isLetter cX12_isLetter 1 (some .boolean) 0 0 0 n n [.int x0] M (emI x).1 (emI x).2 :=
  MT.ofX (by decide +kernel) rfl (Nat.le_of_ble_eq_true rfl) (fun κ hC hF _ => x_X12_isLetter hC (zEnd_of hF (Nat.le_refl _) (Nat.le_refl _)) (zRk_of hF (Nat.le_refl _) (Nat.le_refl _)) _ _ ) x hx
set_option maxRecDepth 100000 in
def dt_X12_isDigit : List (Nat × Instr × Nat) := [(0, .iload_n 0, 1), (1, .bipush 48, 2), (3, .if_icmp .lt 13, 3), (6, .iload_n 0, 1), (7, .bipush 57, 2), (9, .if_icmp .gt 7, 3), (12, .iconst 1, 1), (13, .goto 4, 3), (16, .iconst 0, 1), (17, .ireturn, 1)]
set_option maxRecDepth 100000 in
theorem dk_X12_isDigit : dt_X12_isDigit.all (fun q => decide (decode cX12_isDigit q.1 = .ok q.2)) = true := by decide +kernel
set_option maxRecDepth 100000 in
def f_X12_isDigit_17  (x0 : Int32) (s0 : Int32) (M : Mem) : Option (Int32 × Mem) := zbz s0 (some (s0, M))
set_option maxRecDepth 100000 in
set_option maxHeartbeats 4000000 in
theorem x_X12_isDigit_17 {κ : KX} {n : Nat} (hC : CX κ cX12_isDigit RX12 1 (some .boolean) 0) (hE : zEnd κ n (0, 0)) (hk0 : zRk κ (0, 0)) {x0 : Int32} (s0 : Int32) (M : Mem) : X κ 1 emI n (0, 0) 17 [.null] [.int s0] M (f_X12_isDigit_17 x0 s0 M) := by
  unfold f_X12_isDigit_17
  refine x_bz (fun hb1 => ?_)
  exact x_iret (ty := .boolean) hb1.1 hE hC (zdk dk_X12_isDigit 9 rfl)
set_option maxRecDepth 100000 in
def f_X12_isDigit_16  (x0 : Int32)  (M : Mem) : Option (Int32 × Mem) := f_X12_isDigit_17 x0 0 M
set_option maxRecDepth 100000 in
set_option maxHeartbeats 4000000 in
theorem x_X12_isDigit_16 {κ : KX} {n : Nat} (hC : CX κ cX12_isDigit RX12 1 (some .boolean) 0) (hE : zEnd κ n (0, 0)) (hk0 : zRk κ (0, 0)) {x0 : Int32} (M : Mem) : X κ 1 emI n (0, 0) 16 [.null] [] M (f_X12_isDigit_16 x0 M) := by
  unfold f_X12_isDigit_16
  refine x_iconst (i := 0) c_iconst_0 hC (zdk dk_X12_isDigit 8 rfl) (q := 17) rfl ?_
  refine x_weak (L' := [.null]) ⟨Or.inl rfl, trivial⟩ ?_
  exact x_X12_isDigit_17 hC hE hk0 _ _
set_option maxRecDepth 100000 in
def f_X12_isDigit (x0 : Int32) (M : Mem) : Option (Int32 × Mem) := (if x0 < 48 then f_X12_isDigit_16 x0 M else (if 57 < x0 then f_X12_isDigit_16 x0 M else f_X12_isDigit_17 x0 1 M))
set_option maxRecDepth 100000 in
set_option maxHeartbeats 4000000 in
theorem x_X12_isDigit {κ : KX} {n : Nat} (hC : CX κ cX12_isDigit RX12 1 (some .boolean) 0) (hE : zEnd κ n (0, 0)) (hk0 : zRk κ (0, 0)) (x0 : Int32) (M : Mem) : X κ 1 emI n (0, 0) 0 [.int x0] [] M (f_X12_isDigit x0 M) := by
  unfold f_X12_isDigit
  refine x_iload_n (i := 0) rfl hC (zdk dk_X12_isDigit 0 rfl) (q := 1) rfl ?_
  refine x_bipush (i := 48) c_bipush_48 hC (zdk dk_X12_isDigit 1 rfl) (q := 3) rfl ?_
  refine x_icmp_lt (tgt := 16) hC (zdk dk_X12_isDigit 2 rfl) (q := 6) rfl rfl (fun _ => ?_) (fun _ => ?_)
  · refine x_weak (L' := [.null]) ⟨Or.inl rfl, trivial⟩ ?_
    exact x_X12_isDigit_16 hC hE hk0 _
  · refine x_iload_n (i := 0) rfl hC (zdk dk_X12_isDigit 3 rfl) (q := 7) rfl ?_
    refine x_bipush (i := 57) c_bipush_57 hC (zdk dk_X12_isDigit 4 rfl) (q := 9) rfl ?_
    refine x_icmp_gt (tgt := 16) hC (zdk dk_X12_isDigit 5 rfl) (q := 12) rfl rfl (fun _ => ?_) (fun _ => ?_)
    · refine x_weak (L' := [.null]) ⟨Or.inl rfl, trivial⟩ ?_
      exact x_X12_isDigit_16 hC hE hk0 _
    · refine x_iconst (i := 1) c_iconst_1 hC (zdk dk_X12_isDigit 6 rfl) (q := 13) rfl ?_
      refine x_goto (tgt := 17) hC (zdk dk_X12_isDigit 7 rfl) rfl ?_
      refine x_weak (L' := [.null]) ⟨Or.inl rfl, trivial⟩ ?_
      exact x_X12_isDigit_17 hC hE hk0 _ _
set_option maxRecDepth 100000 in
set_option maxHeartbeats 4000000 in
theorem t_X12_isDigit {n : Nat} {x0 : Int32} {M : Mem}  (x : (Int32 × Mem)) (hx : f_X12_isDigit x0 M = some x) (l : Launch) (dC : Nat → ClassId) (dI : Nat → Nat → Nat) (b : zSg) : MT l dC dI b yX12_isDigit cX12_isDigit 1 (some .boolean) 0 0 0 n n [.int x0] M (emI x).1 (emI x).2 :=
  MT.ofX (by decide +kernel) rfl (Nat.le_of_ble_eq_true rfl) (fun κ hC hF _ => x_X12_isDigit hC (zEnd_of hF (Nat.le_refl _) (Nat.le_refl _)) (zRk_of hF (Nat.le_refl _) (Nat.le_refl _)) _ _ ) x hx
set_option maxRecDepth 100000 in
def dt_X12_lex : List (Nat × Instr × Nat) := [(0, .aload_n 0, 1), (1, .getfield 48, 3), (4, .iconst (-1), 1), (5, .if_icmp .eq 12, 3), (8, .aload_n 0, 1), (9, .iconst 1, 1), (10, .aload_n 0, 1), (11, .getfield 48, 3), (14, .invokevirtual 251, 3), (17, .return_, 1)]
set_option maxRecDepth 100000 in
theorem dk_X12_lex : dt_X12_lex.all (fun q => decide (decode cX12_lex q.1 = .ok q.2)) = true := by decide +kernel
set_option maxRecDepth 100000 in
def f_X12_lex_17  (r0 : Nat)  (M : Mem) : Option Mem := some M
set_option maxRecDepth 100000 in
set_option maxHeartbeats 4000000 in
theorem x_X12_lex_17 {κ : KX} {n : Nat} (hC : CX κ cX12_lex RX12 1 none 1) (hE : zEnd κ n (0, 0)) (hk0 : zRk κ (0, 0)) {r0 : Nat} (h_r0 : zO n r0 12) (M : Mem) : X κ 1 emV n (0, 0) 17 [.null] [] M (f_X12_lex_17 r0 M) := by
  unfold f_X12_lex_17
  exact x_vret hE hC (zdk dk_X12_lex 9 rfl)
set_option maxRecDepth 100000 in
def f_X12_lex (r0 : Nat) (M : Mem) : Option Mem := (if zI M r0 12 = (-1) then f_X12_lex_17 r0 M else Option.bind (f_X12_blame r0 1 (zI M r0 12) M) fun M1 => f_X12_lex_17 r0 M1)
set_option maxRecDepth 100000 in
set_option maxHeartbeats 4000000 in
theorem x_X12_lex {κ : KX} {n : Nat} (hC : CX κ cX12_lex RX12 1 none 1) (hE : zEnd κ n (0, 0)) (hk0 : zRk κ (0, 0)) (r0 : Nat) (M : Mem) (h_r0 : zO n r0 12) : X κ 1 emV n (0, 0) 0 [.ref r0] [] M (f_X12_lex r0 M) := by
  unfold f_X12_lex
  refine x_aload_n (i := 0) rfl hC (zdk dk_X12_lex 0 rfl) (q := 1) rfl ?_
  refine x_getI fl_RX12_48 (by decide) h_r0 hC (zdk dk_X12_lex 1 rfl) (q := 4) rfl ?_
  refine x_iconst (i := (-1)) c_iconst_m1 hC (zdk dk_X12_lex 2 rfl) (q := 5) rfl ?_
  refine x_icmp_eq (tgt := 17) hC (zdk dk_X12_lex 3 rfl) (q := 8) rfl rfl (fun _ => ?_) (fun _ => ?_)
  · refine x_weak (L' := [.null]) ⟨Or.inl rfl, trivial⟩ ?_
    exact x_X12_lex_17 hC hE hk0 h_r0 _
  · refine x_aload_n (i := 0) rfl hC (zdk dk_X12_lex 4 rfl) (q := 9) rfl ?_
    refine x_iconst (i := 1) c_iconst_1 hC (zdk dk_X12_lex 5 rfl) (q := 10) rfl ?_
    refine x_aload_n (i := 0) rfl hC (zdk dk_X12_lex 6 rfl) (q := 11) rfl ?_
    refine x_getI fl_RX12_48 (by decide) h_r0 hC (zdk dk_X12_lex 7 rfl) (q := 14) rfl ?_
    refine x_callVv (as := [.int 1, .int (zI M r0 12)]) cb_RX12_251 rfl (by decide) hk0 h_r0 (fun x hx => t_X12_blame h_r0 x hx) hC (zdk dk_X12_lex 8 rfl) (q := 17) rfl rfl (Nat.le_of_ble_eq_true rfl) (fun M1 => ?_)
    refine x_weak (L' := [.null]) ⟨Or.inl rfl, trivial⟩ ?_
    exact x_X12_lex_17 hC hE hk0 h_r0 _
set_option maxRecDepth 100000 in
set_option maxHeartbeats 4000000 in
theorem t_X12_lex {n : Nat} {r0 : Nat} {M : Mem} (h_r0 : zO n r0 12) (x : Mem) (hx : f_X12_lex r0 M = some x) (l : Launch) (dC : Nat → ClassId) (dI : Nat → Nat → Nat) (b : zSg) : MT l dC dI b yX12_lex cX12_lex 1 none 1 0 0 n n [.ref r0] M (emV x).1 (emV x).2 :=
  MT.ofX (by decide +kernel) rfl (Nat.le_of_ble_eq_true rfl) (fun κ hC hF _ => x_X12_lex hC (zEnd_of hF (Nat.le_refl _) (Nat.le_refl _)) (zRk_of hF (Nat.le_refl _) (Nat.le_refl _)) _ _ h_r0) x hx
set_option maxRecDepth 100000 in
def dt_X12_ahead : List (Nat × Instr × Nat) := [(0, .aload_n 0, 1), (1, .getfield 26, 3), (4, .istore_n 1, 1), (5, .iload_n 1, 1), (6, .aload_n 0, 1), (7, .getfield 17, 3), (10, .if_icmp .ge 31, 3), (13, .aload_n 0, 1), (14, .getfield 7, 3), (17, .iload_n 1, 1), (18, .iaload, 1), (19, .bipush 32, 2), (21, .if_icmp .eq 14, 3), (24, .aload_n 0, 1), (25, .getfield 7, 3), (28, .iload_n 1, 1), (29, .iaload, 1), (30, .bipush 10, 2), (32, .if_icmp .ne 9, 3), (35, .iinc 1 1, 3), (38, .goto (-33), 3), (41, .aload_n 0, 1), (42, .iload_n 1, 1), (43, .putfield 23, 3), (46, .aload_n 0, 1), (47, .iload_n 1, 1), (48, .putfield 26, 3), (51, .aload_n 0, 1), (52, .iconst 0, 1), (53, .putfield 20, 3), (56, .aload_n 0, 1), (57, .iconst (-1), 1), (58, .putfield 48, 3), (61, .iload_n 1, 1), (62, .aload_n 0, 1), (63, .getfield 17, 3), (66, .if_icmp .lt 4, 3), (69, .return_, 1), (70, .aload_n 0, 1), (71, .getfield 7, 3), (74, .iload_n 1, 1), (75, .iaload, 1), (76, .invokestatic 255, 3), (79, .istore_n 2, 1), (80, .aload_n 0, 1), (81, .getfield 7, 3), (84, .iload_n 1, 1), (85, .iaload, 1), (86, .invokestatic 259, 3), (89, .istore_n 3, 1), (90, .iload_n 2, 1), (91, .ifCond .ne 7, 3), (94, .iload_n 3, 1), (95, .ifCond .eq 40, 3), (98, .iload_n 1, 1), (99, .ifCond .le 36, 3), (102, .aload_n 0, 1), (103, .getfield 7, 3), (106, .iload_n 1, 1), (107, .iconst 1, 1), (108, .isub, 1), (109, .iaload, 1), (110, .invokestatic 255, 3), (113, .ifCond .ne 17, 3), (116, .aload_n 0, 1), (117, .getfield 7, 3), (120, .iload_n 1, 1), (121, .iconst 1, 1), (122, .isub, 1), (123, .iaload, 1), (124, .invokestatic 259, 3), (127, .ifCond .eq 8, 3), (130, .aload_n 0, 1), (131, .iload_n 1, 1), (132, .putfield 48, 3), (135, .aload_n 0, 1), (136, .iconst 0, 1), (137, .putfield 29, 3), (140, .aload_n 0, 1), (141, .lconst 0, 1), (142, .putfield 32, 3), (145, .aload_n 0, 1), (146, .iconst 3, 1), (147, .putfield 20, 3), (150, .aload_n 0, 1), (151, .iload_n 1, 1), (152, .iconst 1, 1), (153, .iadd, 1), (154, .putfield 26, 3), (157, .iload_n 2, 1), (158, .ifCond .ne 18, 3), (161, .iload_n 3, 1), (162, .ifCond .ne 14, 3), (165, .aload_n 0, 1), (166, .aload_n 0, 1), (167, .getfield 7, 3), (170, .iload_n 1, 1), (171, .iaload, 1), (172, .putfield 29, 3), (175, .return_, 1), (176, .aload_n 0, 1), (177, .iload_n 2, 1), (178, .ifCond .eq 7, 3), (181, .iconst 1, 1), (182, .goto 4, 3), (185, .iconst 2, 1), (186, .putfield 20, 3), (189, .iload_n 2, 1), (190, .ifCond .eq 8, 3), (193, .bipush 6, 2), (195, .goto 4, 3), (198, .iconst 4, 1), (199, .istore 4, 2), (201, .iconst 0, 1), (202, .istore 5, 2), (204, .iload_n 1, 1), (205, .aload_n 0, 1), (206, .getfield 17, 3), (209, .if_icmp .ge 125, 3), (212, .iload_n 2, 1), (213, .ifCond .eq 18, 3), (216, .aload_n 0, 1), (217, .getfield 7, 3), (220, .iload_n 1, 1), (221, .iaload, 1), (222, .invokestatic 255, 3), (225, .ifCond .eq 109, 3), (228, .goto 15, 3), (231, .aload_n 0, 1), (232, .getfield 7, 3), (235, .iload_n 1, 1), (236, .iaload, 1), (237, .invokestatic 259, 3), (240, .ifCond .eq 94, 3), (243, .iload 5, 2), (245, .iload 4, 2), (247, .if_icmp .ne 16, 3), (250, .aload_n 0, 1), (251, .getfield 48, 3), (254, .iconst (-1), 1), (255, .if_icmp .ne 8, 3), (258, .aload_n 0, 1), (259, .iload_n 1, 1), (260, .putfield 48, 3), (263, .iload 5, 2), (265, .iload 4, 2), (267, .if_icmp .ge 26, 3), (270, .iload_n 2, 1), (271, .ifCond .eq 22, 3), (274, .aload_n 0, 1), (275, .aload_n 0, 1), (276, .getfield 32, 3), (279, .bipush 8, 2), (281, .lshl, 1), (282, .aload_n 0, 1), (283, .getfield 7, 3), (286, .iload_n 1, 1), (287, .iaload, 1), (288, .i2l, 1), (289, .lor, 1), (290, .putfield 32, 3), (293, .iload 5, 2), (295, .iload 4, 2), (297, .if_icmp .ge 28, 3), (300, .iload_n 3, 1), (301, .ifCond .eq 24, 3), (304, .aload_n 0, 1), (305, .bipush 10, 2), (307, .aload_n 0, 1), (308, .getfield 29, 3), (311, .imul, 1), (312, .aload_n 0, 1), (313, .getfield 7, 3), (316, .iload_n 1, 1), (317, .iaload, 1), (318, .iadd, 1), (319, .bipush 48, 2), (321, .isub, 1), (322, .putfield 29, 3), (325, .iinc 5 1, 3), (328, .iinc 1 1, 3), (331, .goto (-127), 3), (334, .aload_n 0, 1), (335, .iload_n 1, 1), (336, .putfield 26, 3), (339, .return_, 1)]
set_option maxRecDepth 100000 in
theorem dk_X12_ahead : dt_X12_ahead.all (fun q => decide (decode cX12_ahead q.1 = .ok q.2)) = true := by decide +kernel
set_option maxRecDepth 100000 in
def f_X12_ahead_35 (k5 : Int32 → Mem → Option Mem) (r0 : Nat) (x1 : Int32) (M : Mem) : Option Mem := k5 (x1 + 1) M
set_option maxRecDepth 100000 in
set_option maxHeartbeats 4000000 in
theorem x_X12_ahead_35 {κ : KX} {n : Nat} (hC : CX κ cX12_ahead RX12 6 none 1) (hE : zEnd κ n (0, 0)) (hk0 : zRk κ (0, 0)) {r0 : Nat} (h_r0 : zO n r0 12) (k5 : Int32 → Mem → Option Mem) (hk5 : ∀ (x1 : Int32) (M : Mem), X κ 6 emV n (0, 0) 5 [.ref r0, .int x1, .null, .null, .null, .null] [] M (k5 x1 M)) (x1 : Int32) (M : Mem) : X κ 6 emV n (0, 0) 35 [.ref r0, .int x1, .null, .null, .null, .null] [] M (f_X12_ahead_35 k5 r0 x1 M) := by
  unfold f_X12_ahead_35
  refine x_iinc (i := 1) c_iconst_1 rfl (by decide) (L' := [.ref r0, .int (x1 + 1), .null, .null, .null, .null]) rfl hC (zdk dk_X12_ahead 19 rfl) (q := 38) rfl ?_
  refine x_goto (tgt := 5) hC (zdk dk_X12_ahead 20 rfl) rfl ?_
  refine x_weak (L' := [.ref r0, .int (x1 + 1), .null, .null, .null, .null]) ⟨Or.inr rfl, Or.inr rfl, Or.inl rfl, Or.inl rfl, Or.inl rfl, Or.inl rfl, trivial⟩ ?_
  exact hk5 _ _
set_option maxRecDepth 100000 in
def f_X12_ahead_325 (k204 : Int32 → Int32 → Int32 → Int32 → Int32 → Mem → Option Mem) (r0 : Nat) (x1 : Int32) (x2 : Int32) (x3 : Int32) (x4 : Int32) (x5 : Int32) (M : Mem) : Option Mem := k204 (x1 + 1) x2 x3 x4 (x5 + 1) M
set_option maxRecDepth 100000 in
set_option maxHeartbeats 4000000 in
theorem x_X12_ahead_325 {κ : KX} {n : Nat} (hC : CX κ cX12_ahead RX12 6 none 1) (hE : zEnd κ n (0, 0)) (hk0 : zRk κ (0, 0)) {r0 : Nat} (h_r0 : zO n r0 12) (k204 : Int32 → Int32 → Int32 → Int32 → Int32 → Mem → Option Mem) (hk204 : ∀ (x1 : Int32) (x2 : Int32) (x3 : Int32) (x4 : Int32) (x5 : Int32) (M : Mem), X κ 6 emV n (0, 0) 204 [.ref r0, .int x1, .int x2, .int x3, .int x4, .int x5] [] M (k204 x1 x2 x3 x4 x5 M)) (x1 : Int32) (x2 : Int32) (x3 : Int32) (x4 : Int32) (x5 : Int32) (M : Mem) : X κ 6 emV n (0, 0) 325 [.ref r0, .int x1, .int x2, .int x3, .int x4, .int x5] [] M (f_X12_ahead_325 k204 r0 x1 x2 x3 x4 x5 M) := by
  unfold f_X12_ahead_325
  refine x_iinc (i := 5) c_iconst_1 rfl (by decide) (L' := [.ref r0, .int x1, .int x2, .int x3, .int x4, .int (x5 + 1)]) rfl hC (zdk dk_X12_ahead 179 rfl) (q := 328) rfl ?_
  refine x_iinc (i := 1) c_iconst_1 rfl (by decide) (L' := [.ref r0, .int (x1 + 1), .int x2, .int x3, .int x4, .int (x5 + 1)]) rfl hC (zdk dk_X12_ahead 180 rfl) (q := 331) rfl ?_
  refine x_goto (tgt := 204) hC (zdk dk_X12_ahead 181 rfl) rfl ?_
  refine x_weak (L' := [.ref r0, .int (x1 + 1), .int x2, .int x3, .int x4, .int (x5 + 1)]) ⟨Or.inr rfl, Or.inr rfl, Or.inr rfl, Or.inr rfl, Or.inr rfl, Or.inr rfl, trivial⟩ ?_
  exact hk204 _ _ _ _ _ _
set_option maxRecDepth 100000 in
def f_X12_ahead_293 (k204 : Int32 → Int32 → Int32 → Int32 → Int32 → Mem → Option Mem) (r0 : Nat) (x1 : Int32) (x2 : Int32) (x3 : Int32) (x4 : Int32) (x5 : Int32) (M : Mem) : Option Mem := (if x4 ≤ x5 then f_X12_ahead_325 k204 r0 x1 x2 x3 x4 x5 M else (if x3 = 0 then f_X12_ahead_325 k204 r0 x1 x2 x3 x4 x5 M else Option.bind (zrf M r0 0) fun q1 => Option.bind (zld q1 x1) fun k2 => Option.bind (some (zsI M r0 6 (((10 * (zI M r0 6)) + (zI M q1 k2)) - 48))) fun M3 => f_X12_ahead_325 k204 r0 x1 x2 x3 x4 x5 M3))
set_option maxRecDepth 100000 in
set_option maxHeartbeats 4000000 in
theorem x_X12_ahead_293 {κ : KX} {n : Nat} (hC : CX κ cX12_ahead RX12 6 none 1) (hE : zEnd κ n (0, 0)) (hk0 : zRk κ (0, 0)) {r0 : Nat} (h_r0 : zO n r0 12) (k204 : Int32 → Int32 → Int32 → Int32 → Int32 → Mem → Option Mem) (hk204 : ∀ (x1 : Int32) (x2 : Int32) (x3 : Int32) (x4 : Int32) (x5 : Int32) (M : Mem), X κ 6 emV n (0, 0) 204 [.ref r0, .int x1, .int x2, .int x3, .int x4, .int x5] [] M (k204 x1 x2 x3 x4 x5 M)) (x1 : Int32) (x2 : Int32) (x3 : Int32) (x4 : Int32) (x5 : Int32) (M : Mem) : X κ 6 emV n (0, 0) 293 [.ref r0, .int x1, .int x2, .int x3, .int x4, .int x5] [] M (f_X12_ahead_293 k204 r0 x1 x2 x3 x4 x5 M) := by
  unfold f_X12_ahead_293
  refine x_iload (i := 5) rfl hC (zdk dk_X12_ahead 161 rfl) (q := 295) rfl ?_
  refine x_iload (i := 4) rfl hC (zdk dk_X12_ahead 162 rfl) (q := 297) rfl ?_
  refine x_icmp_ge (tgt := 325) hC (zdk dk_X12_ahead 163 rfl) (q := 300) rfl rfl (fun _ => ?_) (fun _ => ?_)
  · refine x_weak (L' := [.ref r0, .int x1, .int x2, .int x3, .int x4, .int x5]) ⟨Or.inr rfl, Or.inr rfl, Or.inr rfl, Or.inr rfl, Or.inr rfl, Or.inr rfl, trivial⟩ ?_
    exact x_X12_ahead_325 hC hE hk0 h_r0 k204 hk204 _ _ _ _ _ _
  · refine x_iload_n (i := 3) rfl hC (zdk dk_X12_ahead 164 rfl) (q := 301) rfl ?_
    refine x_if_eq (tgt := 325) hC (zdk dk_X12_ahead 165 rfl) (q := 304) rfl rfl (fun _ => ?_) (fun _ => ?_)
    · refine x_weak (L' := [.ref r0, .int x1, .int x2, .int x3, .int x4, .int x5]) ⟨Or.inr rfl, Or.inr rfl, Or.inr rfl, Or.inr rfl, Or.inr rfl, Or.inr rfl, trivial⟩ ?_
      exact x_X12_ahead_325 hC hE hk0 h_r0 k204 hk204 _ _ _ _ _ _
    · refine x_aload_n (i := 0) rfl hC (zdk dk_X12_ahead 166 rfl) (q := 305) rfl ?_
      refine x_bipush (i := 10) c_bipush_10 hC (zdk dk_X12_ahead 167 rfl) (q := 307) rfl ?_
      refine x_aload_n (i := 0) rfl hC (zdk dk_X12_ahead 168 rfl) (q := 308) rfl ?_
      refine x_getI fl_RX12_29 (by decide) h_r0 hC (zdk dk_X12_ahead 169 rfl) (q := 311) rfl ?_
      refine x_imul hC (zdk dk_X12_ahead 170 rfl) (q := 312) rfl ?_
      refine x_aload_n (i := 0) rfl hC (zdk dk_X12_ahead 171 rfl) (q := 313) rfl ?_
      refine x_getR (k := 20) fl_RX12_7 rfl h_r0 hC (zdk dk_X12_ahead 172 rfl) (q := 316) rfl (fun q1 hq1 => ?_)
      refine x_iload_n (i := 1) rfl hC (zdk dk_X12_ahead 173 rfl) (q := 317) rfl ?_
      refine x_iald hq1 hC (zdk dk_X12_ahead 174 rfl) (q := 318) rfl (fun k2 _ => ?_)
      refine x_iadd hC (zdk dk_X12_ahead 175 rfl) (q := 319) rfl ?_
      refine x_bipush (i := 48) c_bipush_48 hC (zdk dk_X12_ahead 176 rfl) (q := 321) rfl ?_
      refine x_isub hC (zdk dk_X12_ahead 177 rfl) (q := 322) rfl ?_
      refine x_putI fl_RX12_29 ⟨rfl, rfl⟩ (by decide) (Or.inl rfl) h_r0 hC (zdk dk_X12_ahead 178 rfl) (q := 325) rfl ?_
      refine x_nmM (fun M3 => ?_)
      refine x_weak (L' := [.ref r0, .int x1, .int x2, .int x3, .int x4, .int x5]) ⟨Or.inr rfl, Or.inr rfl, Or.inr rfl, Or.inr rfl, Or.inr rfl, Or.inr rfl, trivial⟩ ?_
      exact x_X12_ahead_325 hC hE hk0 h_r0 k204 hk204 _ _ _ _ _ _
set_option maxRecDepth 100000 in
def f_X12_ahead_263 (k204 : Int32 → Int32 → Int32 → Int32 → Int32 → Mem → Option Mem) (r0 : Nat) (x1 : Int32) (x2 : Int32) (x3 : Int32) (x4 : Int32) (x5 : Int32) (M : Mem) : Option Mem := (if x4 ≤ x5 then f_X12_ahead_293 k204 r0 x1 x2 x3 x4 x5 M else (if x2 = 0 then f_X12_ahead_293 k204 r0 x1 x2 x3 x4 x5 M else Option.bind (zrf M r0 0) fun q4 => Option.bind (zld q4 x1) fun k5 => Option.bind (some (zsL M r0 7 (((zL M r0 7) <<< ((8 : Int32).toInt64 &&& 63)) ||| ((zI M q4 k5).toInt64)))) fun M6 => f_X12_ahead_293 k204 r0 x1 x2 x3 x4 x5 M6))
set_option maxRecDepth 100000 in
set_option maxHeartbeats 4000000 in
theorem x_X12_ahead_263 {κ : KX} {n : Nat} (hC : CX κ cX12_ahead RX12 6 none 1) (hE : zEnd κ n (0, 0)) (hk0 : zRk κ (0, 0)) {r0 : Nat} (h_r0 : zO n r0 12) (k204 : Int32 → Int32 → Int32 → Int32 → Int32 → Mem → Option Mem) (hk204 : ∀ (x1 : Int32) (x2 : Int32) (x3 : Int32) (x4 : Int32) (x5 : Int32) (M : Mem), X κ 6 emV n (0, 0) 204 [.ref r0, .int x1, .int x2, .int x3, .int x4, .int x5] [] M (k204 x1 x2 x3 x4 x5 M)) (x1 : Int32) (x2 : Int32) (x3 : Int32) (x4 : Int32) (x5 : Int32) (M : Mem) : X κ 6 emV n (0, 0) 263 [.ref r0, .int x1, .int x2, .int x3, .int x4, .int x5] [] M (f_X12_ahead_263 k204 r0 x1 x2 x3 x4 x5 M) := by
  unfold f_X12_ahead_263
  refine x_iload (i := 5) rfl hC (zdk dk_X12_ahead 144 rfl) (q := 265) rfl ?_
  refine x_iload (i := 4) rfl hC (zdk dk_X12_ahead 145 rfl) (q := 267) rfl ?_
  refine x_icmp_ge (tgt := 293) hC (zdk dk_X12_ahead 146 rfl) (q := 270) rfl rfl (fun _ => ?_) (fun _ => ?_)
  · refine x_weak (L' := [.ref r0, .int x1, .int x2, .int x3, .int x4, .int x5]) ⟨Or.inr rfl, Or.inr rfl, Or.inr rfl, Or.inr rfl, Or.inr rfl, Or.inr rfl, trivial⟩ ?_
    exact x_X12_ahead_293 hC hE hk0 h_r0 k204 hk204 _ _ _ _ _ _
  · refine x_iload_n (i := 2) rfl hC (zdk dk_X12_ahead 147 rfl) (q := 271) rfl ?_
    refine x_if_eq (tgt := 293) hC (zdk dk_X12_ahead 148 rfl) (q := 274) rfl rfl (fun _ => ?_) (fun _ => ?_)
    · refine x_weak (L' := [.ref r0, .int x1, .int x2, .int x3, .int x4, .int x5]) ⟨Or.inr rfl, Or.inr rfl, Or.inr rfl, Or.inr rfl, Or.inr rfl, Or.inr rfl, trivial⟩ ?_
      exact x_X12_ahead_293 hC hE hk0 h_r0 k204 hk204 _ _ _ _ _ _
    · refine x_aload_n (i := 0) rfl hC (zdk dk_X12_ahead 149 rfl) (q := 275) rfl ?_
      refine x_aload_n (i := 0) rfl hC (zdk dk_X12_ahead 150 rfl) (q := 276) rfl ?_
      refine x_getL fl_RX12_32 h_r0 hC (zdk dk_X12_ahead 151 rfl) (q := 279) rfl ?_
      refine x_bipush (i := 8) c_bipush_8 hC (zdk dk_X12_ahead 152 rfl) (q := 281) rfl ?_
      refine x_lshl hC (zdk dk_X12_ahead 153 rfl) (q := 282) rfl ?_
      refine x_aload_n (i := 0) rfl hC (zdk dk_X12_ahead 154 rfl) (q := 283) rfl ?_
      refine x_getR (k := 20) fl_RX12_7 rfl h_r0 hC (zdk dk_X12_ahead 155 rfl) (q := 286) rfl (fun q4 hq4 => ?_)
      refine x_iload_n (i := 1) rfl hC (zdk dk_X12_ahead 156 rfl) (q := 287) rfl ?_
      refine x_iald hq4 hC (zdk dk_X12_ahead 157 rfl) (q := 288) rfl (fun k5 _ => ?_)
      refine x_i2l hC (zdk dk_X12_ahead 158 rfl) (q := 289) rfl ?_
      refine x_lor hC (zdk dk_X12_ahead 159 rfl) (q := 290) rfl ?_
      refine x_putL fl_RX12_32 ⟨rfl, rfl⟩ (Or.inl rfl) h_r0 hC (zdk dk_X12_ahead 160 rfl) (q := 293) rfl ?_
      refine x_nmM (fun M6 => ?_)
      refine x_weak (L' := [.ref r0, .int x1, .int x2, .int x3, .int x4, .int x5]) ⟨Or.inr rfl, Or.inr rfl, Or.inr rfl, Or.inr rfl, Or.inr rfl, Or.inr rfl, trivial⟩ ?_
      exact x_X12_ahead_293 hC hE hk0 h_r0 k204 hk204 _ _ _ _ _ _
set_option maxRecDepth 100000 in
def f_X12_ahead_243 (k204 : Int32 → Int32 → Int32 → Int32 → Int32 → Mem → Option Mem) (r0 : Nat) (x1 : Int32) (x2 : Int32) (x3 : Int32) (x4 : Int32) (x5 : Int32) (M : Mem) : Option Mem := (if x5 = x4 then (if zI M r0 12 = (-1) then Option.bind (some (zsI M r0 12 x1)) fun M7 => f_X12_ahead_263 k204 r0 x1 x2 x3 x4 x5 M7 else f_X12_ahead_263 k204 r0 x1 x2 x3 x4 x5 M) else f_X12_ahead_263 k204 r0 x1 x2 x3 x4 x5 M)
set_option maxRecDepth 100000 in
set_option maxHeartbeats 4000000 in
theorem x_X12_ahead_243 {κ : KX} {n : Nat} (hC : CX κ cX12_ahead RX12 6 none 1) (hE : zEnd κ n (0, 0)) (hk0 : zRk κ (0, 0)) {r0 : Nat} (h_r0 : zO n r0 12) (k204 : Int32 → Int32 → Int32 → Int32 → Int32 → Mem → Option Mem) (hk204 : ∀ (x1 : Int32) (x2 : Int32) (x3 : Int32) (x4 : Int32) (x5 : Int32) (M : Mem), X κ 6 emV n (0, 0) 204 [.ref r0, .int x1, .int x2, .int x3, .int x4, .int x5] [] M (k204 x1 x2 x3 x4 x5 M)) (x1 : Int32) (x2 : Int32) (x3 : Int32) (x4 : Int32) (x5 : Int32) (M : Mem) : X κ 6 emV n (0, 0) 243 [.ref r0, .int x1, .int x2, .int x3, .int x4, .int x5] [] M (f_X12_ahead_243 k204 r0 x1 x2 x3 x4 x5 M) := by
  unfold f_X12_ahead_243
  refine x_iload (i := 5) rfl hC (zdk dk_X12_ahead 134 rfl) (q := 245) rfl ?_
  refine x_iload (i := 4) rfl hC (zdk dk_X12_ahead 135 rfl) (q := 247) rfl ?_
  refine x_icmp_ne (tgt := 263) hC (zdk dk_X12_ahead 136 rfl) (q := 250) rfl rfl (fun _ => ?_) (fun _ => ?_)
  · refine x_weak (L' := [.ref r0, .int x1, .int x2, .int x3, .int x4, .int x5]) ⟨Or.inr rfl, Or.inr rfl, Or.inr rfl, Or.inr rfl, Or.inr rfl, Or.inr rfl, trivial⟩ ?_
    exact x_X12_ahead_263 hC hE hk0 h_r0 k204 hk204 _ _ _ _ _ _
  · refine x_aload_n (i := 0) rfl hC (zdk dk_X12_ahead 137 rfl) (q := 251) rfl ?_
    refine x_getI fl_RX12_48 (by decide) h_r0 hC (zdk dk_X12_ahead 138 rfl) (q := 254) rfl ?_
    refine x_iconst (i := (-1)) c_iconst_m1 hC (zdk dk_X12_ahead 139 rfl) (q := 255) rfl ?_
    refine x_icmp_ne (tgt := 263) hC (zdk dk_X12_ahead 140 rfl) (q := 258) rfl rfl (fun _ => ?_) (fun _ => ?_)
    · refine x_weak (L' := [.ref r0, .int x1, .int x2, .int x3, .int x4, .int x5]) ⟨Or.inr rfl, Or.inr rfl, Or.inr rfl, Or.inr rfl, Or.inr rfl, Or.inr rfl, trivial⟩ ?_
      exact x_X12_ahead_263 hC hE hk0 h_r0 k204 hk204 _ _ _ _ _ _
    · refine x_aload_n (i := 0) rfl hC (zdk dk_X12_ahead 141 rfl) (q := 259) rfl ?_
      refine x_iload_n (i := 1) rfl hC (zdk dk_X12_ahead 142 rfl) (q := 260) rfl ?_
      refine x_putI fl_RX12_48 ⟨rfl, rfl⟩ (by decide) (Or.inl rfl) h_r0 hC (zdk dk_X12_ahead 143 rfl) (q := 263) rfl ?_
      refine x_nmM (fun M7 => ?_)
      refine x_weak (L' := [.ref r0, .int x1, .int x2, .int x3, .int x4, .int x5]) ⟨Or.inr rfl, Or.inr rfl, Or.inr rfl, Or.inr rfl, Or.inr rfl, Or.inr rfl, trivial⟩ ?_
      exact x_X12_ahead_263 hC hE hk0 h_r0 k204 hk204 _ _ _ _ _ _
set_option maxRecDepth 100000 in
def f_X12_ahead_334  (r0 : Nat) (x1 : Int32) (M : Mem) : Option Mem := Option.bind (some (zsI M r0 5 x1)) fun M8 => some M8
set_option maxRecDepth 100000 in
set_option maxHeartbeats 4000000 in
theorem x_X12_ahead_334 {κ : KX} {n : Nat} (hC : CX κ cX12_ahead RX12 6 none 1) (hE : zEnd κ n (0, 0)) (hk0 : zRk κ (0, 0)) {r0 : Nat} (h_r0 : zO n r0 12) (x1 : Int32) (M : Mem) : X κ 6 emV n (0, 0) 334 [.ref r0, .int x1, .null, .null, .null, .null] [] M (f_X12_ahead_334 r0 x1 M) := by
  unfold f_X12_ahead_334
  refine x_aload_n (i := 0) rfl hC (zdk dk_X12_ahead 182 rfl) (q := 335) rfl ?_
  refine x_iload_n (i := 1) rfl hC (zdk dk_X12_ahead 183 rfl) (q := 336) rfl ?_
  refine x_putI fl_RX12_26 ⟨rfl, rfl⟩ (by decide) (Or.inl rfl) h_r0 hC (zdk dk_X12_ahead 184 rfl) (q := 339) rfl ?_
  refine x_nmM (fun M8 => ?_)
  exact x_vret hE hC (zdk dk_X12_ahead 185 rfl)
set_option maxRecDepth 100000 in
def f_X12_ahead_204  (r0 : Nat) : Nat → Int32 → Int32 → Int32 → Int32 → Int32 → Mem → Option Mem
  | 0, _, _, _, _, _, _ => none
  | f + 1, x1, x2, x3, x4, x5, M => (if zI M r0 2 ≤ x1 then f_X12_ahead_334 r0 x1 M else (if x2 = 0 then Option.bind (zrf M r0 0) fun q9 => Option.bind (zld q9 x1) fun k10 => Option.bind (f_X12_isDigit (zI M q9 k10) M) fun z11 => (if z11.1 = 0 then f_X12_ahead_334 r0 x1 z11.2 else f_X12_ahead_243 (f_X12_ahead_204 r0 f) r0 x1 x2 x3 x4 x5 z11.2) else Option.bind (zrf M r0 0) fun q12 => Option.bind (zld q12 x1) fun k13 => Option.bind (f_X12_isLetter (zI M q12 k13) M) fun z14 => (if z14.1 = 0 then f_X12_ahead_334 r0 x1 z14.2 else f_X12_ahead_243 (f_X12_ahead_204 r0 f) r0 x1 x2 x3 x4 x5 z14.2)))
set_option maxRecDepth 100000 in
set_option maxHeartbeats 4000000 in
theorem x_X12_ahead_204 {κ : KX} {n : Nat} (hC : CX κ cX12_ahead RX12 6 none 1) (hE : zEnd κ n (0, 0)) (hk0 : zRk κ (0, 0)) {r0 : Nat} (h_r0 : zO n r0 12) : ∀ (f : Nat) (x1 : Int32) (x2 : Int32) (x3 : Int32) (x4 : Int32) (x5 : Int32) (M : Mem), X κ 6 emV n (0, 0) 204 [.ref r0, .int x1, .int x2, .int x3, .int x4, .int x5] [] M (f_X12_ahead_204 r0 f x1 x2 x3 x4 x5 M) := by
  intro f
  induction f with
  | zero => intros; exact x_none
  | succ f ih =>
    intro x1 x2 x3 x4 x5 M 
    rw [f_X12_ahead_204]
    refine x_iload_n (i := 1) rfl hC (zdk dk_X12_ahead 115 rfl) (q := 205) rfl ?_
    refine x_aload_n (i := 0) rfl hC (zdk dk_X12_ahead 116 rfl) (q := 206) rfl ?_
    refine x_getI fl_RX12_17 (by decide) h_r0 hC (zdk dk_X12_ahead 117 rfl) (q := 209) rfl ?_
    refine x_icmp_ge (tgt := 334) hC (zdk dk_X12_ahead 118 rfl) (q := 212) rfl rfl (fun _ => ?_) (fun _ => ?_)
    · refine x_weak (L' := [.ref r0, .int x1, .null, .null, .null, .null]) ⟨Or.inr rfl, Or.inr rfl, Or.inl rfl, Or.inl rfl, Or.inl rfl, Or.inl rfl, trivial⟩ ?_
      exact x_X12_ahead_334 hC hE hk0 h_r0 _ _
    · refine x_iload_n (i := 2) rfl hC (zdk dk_X12_ahead 119 rfl) (q := 213) rfl ?_
      refine x_if_eq (tgt := 231) hC (zdk dk_X12_ahead 120 rfl) (q := 216) rfl rfl (fun _ => ?_) (fun _ => ?_)
      · refine x_aload_n (i := 0) rfl hC (zdk dk_X12_ahead 128 rfl) (q := 232) rfl ?_
        refine x_getR (k := 20) fl_RX12_7 rfl h_r0 hC (zdk dk_X12_ahead 129 rfl) (q := 235) rfl (fun q9 hq9 => ?_)
        refine x_iload_n (i := 1) rfl hC (zdk dk_X12_ahead 130 rfl) (q := 236) rfl ?_
        refine x_iald hq9 hC (zdk dk_X12_ahead 131 rfl) (q := 237) rfl (fun k10 _ => ?_)
        refine x_callSi (as := [.int (zI M q9 k10)]) cb_RX12_259 rfl (by decide) hk0 (fun x hx => t_X12_isDigit  x hx) hC (zdk dk_X12_ahead 132 rfl) (q := 240) rfl rfl (Nat.le_of_ble_eq_true rfl) (fun z11 => ?_)
        refine x_if_eq (tgt := 334) hC (zdk dk_X12_ahead 133 rfl) (q := 243) rfl rfl (fun _ => ?_) (fun _ => ?_)
        · refine x_weak (L' := [.ref r0, .int x1, .null, .null, .null, .null]) ⟨Or.inr rfl, Or.inr rfl, Or.inl rfl, Or.inl rfl, Or.inl rfl, Or.inl rfl, trivial⟩ ?_
          exact x_X12_ahead_334 hC hE hk0 h_r0 _ _
        · refine x_weak (L' := [.ref r0, .int x1, .int x2, .int x3, .int x4, .int x5]) ⟨Or.inr rfl, Or.inr rfl, Or.inr rfl, Or.inr rfl, Or.inr rfl, Or.inr rfl, trivial⟩ ?_
          exact x_X12_ahead_243 hC hE hk0 h_r0 (f_X12_ahead_204 r0 f) ih _ _ _ _ _ _
      · refine x_aload_n (i := 0) rfl hC (zdk dk_X12_ahead 121 rfl) (q := 217) rfl ?_
        refine x_getR (k := 20) fl_RX12_7 rfl h_r0 hC (zdk dk_X12_ahead 122 rfl) (q := 220) rfl (fun q12 hq12 => ?_)
        refine x_iload_n (i := 1) rfl hC (zdk dk_X12_ahead 123 rfl) (q := 221) rfl ?_
        refine x_iald hq12 hC (zdk dk_X12_ahead 124 rfl) (q := 222) rfl (fun k13 _ => ?_)
        refine x_callSi (as := [.int (zI M q12 k13)]) cb_RX12_255 rfl (by decide) hk0 (fun x hx => t_X12_isLetter  x hx) hC (zdk dk_X12_ahead 125 rfl) (q := 225) rfl rfl (Nat.le_of_ble_eq_true rfl) (fun z14 => ?_)
        refine x_if_eq (tgt := 334) hC (zdk dk_X12_ahead 126 rfl) (q := 228) rfl rfl (fun _ => ?_) (fun _ => ?_)
        · refine x_weak (L' := [.ref r0, .int x1, .null, .null, .null, .null]) ⟨Or.inr rfl, Or.inr rfl, Or.inl rfl, Or.inl rfl, Or.inl rfl, Or.inl rfl, trivial⟩ ?_
          exact x_X12_ahead_334 hC hE hk0 h_r0 _ _
        · refine x_goto (tgt := 243) hC (zdk dk_X12_ahead 127 rfl) rfl ?_
          refine x_weak (L' := [.ref r0, .int x1, .int x2, .int x3, .int x4, .int x5]) ⟨Or.inr rfl, Or.inr rfl, Or.inr rfl, Or.inr rfl, Or.inr rfl, Or.inr rfl, trivial⟩ ?_
          exact x_X12_ahead_243 hC hE hk0 h_r0 (f_X12_ahead_204 r0 f) ih _ _ _ _ _ _
set_option maxRecDepth 100000 in
def f_X12_ahead_199  (r0 : Nat) (x1 : Int32) (x2 : Int32) (x3 : Int32) (s0 : Int32) (M : Mem) : Option Mem := f_X12_ahead_204 r0 1000000 x1 x2 x3 s0 0 M
set_option maxRecDepth 100000 in
set_option maxHeartbeats 4000000 in
theorem x_X12_ahead_199 {κ : KX} {n : Nat} (hC : CX κ cX12_ahead RX12 6 none 1) (hE : zEnd κ n (0, 0)) (hk0 : zRk κ (0, 0)) {r0 : Nat} (h_r0 : zO n r0 12) (x1 : Int32) (x2 : Int32) (x3 : Int32) (s0 : Int32) (M : Mem) : X κ 6 emV n (0, 0) 199 [.ref r0, .int x1, .int x2, .int x3, .null, .null] [.int s0] M (f_X12_ahead_199 r0 x1 x2 x3 s0 M) := by
  unfold f_X12_ahead_199
  refine x_istore (i := 4) (L' := [.ref r0, .int x1, .int x2, .int x3, .int s0, .null]) (by decide) rfl hC (zdk dk_X12_ahead 112 rfl) (q := 201) rfl ?_
  refine x_iconst (i := 0) c_iconst_0 hC (zdk dk_X12_ahead 113 rfl) (q := 202) rfl ?_
  refine x_istore (i := 5) (L' := [.ref r0, .int x1, .int x2, .int x3, .int s0, .int 0]) (by decide) rfl hC (zdk dk_X12_ahead 114 rfl) (q := 204) rfl ?_
  refine x_weak (L' := [.ref r0, .int x1, .int x2, .int x3, .int s0, .int 0]) ⟨Or.inr rfl, Or.inr rfl, Or.inr rfl, Or.inr rfl, Or.inr rfl, Or.inr rfl, trivial⟩ ?_
  exact x_X12_ahead_204 hC hE hk0 h_r0 _ _ _ _ _ _ _
set_option maxRecDepth 100000 in
def f_X12_ahead_186  (r0 : Nat) (x1 : Int32) (x2 : Int32) (x3 : Int32) (s0 : Nat) (s1 : Int32) (M : Mem) : Option Mem := Option.bind (some (zsI M s0 3 s1)) fun M15 => (if x2 = 0 then f_X12_ahead_199 r0 x1 x2 x3 4 M15 else f_X12_ahead_199 r0 x1 x2 x3 6 M15)
set_option maxRecDepth 100000 in
set_option maxHeartbeats 4000000 in
theorem x_X12_ahead_186 {κ : KX} {n : Nat} (hC : CX κ cX12_ahead RX12 6 none 1) (hE : zEnd κ n (0, 0)) (hk0 : zRk κ (0, 0)) {r0 : Nat} (h_r0 : zO n r0 12) (x1 : Int32) (x2 : Int32) (x3 : Int32) (s0 : Nat) (s1 : Int32) (M : Mem) (h_s0 : zO n s0 12) : X κ 6 emV n (0, 0) 186 [.ref r0, .int x1, .int x2, .int x3, .null, .null] [.int s1, .ref s0] M (f_X12_ahead_186 r0 x1 x2 x3 s0 s1 M) := by
  unfold f_X12_ahead_186
  refine x_putI fl_RX12_20 ⟨rfl, rfl⟩ (by decide) (Or.inl rfl) h_s0 hC (zdk dk_X12_ahead 106 rfl) (q := 189) rfl ?_
  refine x_nmM (fun M15 => ?_)
  refine x_iload_n (i := 2) rfl hC (zdk dk_X12_ahead 107 rfl) (q := 190) rfl ?_
  refine x_if_eq (tgt := 198) hC (zdk dk_X12_ahead 108 rfl) (q := 193) rfl rfl (fun _ => ?_) (fun _ => ?_)
  · refine x_iconst (i := 4) c_iconst_4 hC (zdk dk_X12_ahead 111 rfl) (q := 199) rfl ?_
    refine x_weak (L' := [.ref r0, .int x1, .int x2, .int x3, .null, .null]) ⟨Or.inr rfl, Or.inr rfl, Or.inr rfl, Or.inr rfl, Or.inl rfl, Or.inl rfl, trivial⟩ ?_
    exact x_X12_ahead_199 hC hE hk0 h_r0 _ _ _ _ _
  · refine x_bipush (i := 6) c_bipush_6 hC (zdk dk_X12_ahead 109 rfl) (q := 195) rfl ?_
    refine x_goto (tgt := 199) hC (zdk dk_X12_ahead 110 rfl) rfl ?_
    refine x_weak (L' := [.ref r0, .int x1, .int x2, .int x3, .null, .null]) ⟨Or.inr rfl, Or.inr rfl, Or.inr rfl, Or.inr rfl, Or.inl rfl, Or.inl rfl, trivial⟩ ?_
    exact x_X12_ahead_199 hC hE hk0 h_r0 _ _ _ _ _
set_option maxRecDepth 100000 in
def f_X12_ahead_176  (r0 : Nat) (x1 : Int32) (x2 : Int32) (x3 : Int32) (M : Mem) : Option Mem := (if x2 = 0 then f_X12_ahead_186 r0 x1 x2 x3 r0 2 M else f_X12_ahead_186 r0 x1 x2 x3 r0 1 M)
set_option maxRecDepth 100000 in
set_option maxHeartbeats 4000000 in
theorem x_X12_ahead_176 {κ : KX} {n : Nat} (hC : CX κ cX12_ahead RX12 6 none 1) (hE : zEnd κ n (0, 0)) (hk0 : zRk κ (0, 0)) {r0 : Nat} (h_r0 : zO n r0 12) (x1 : Int32) (x2 : Int32) (x3 : Int32) (M : Mem) : X κ 6 emV n (0, 0) 176 [.ref r0, .int x1, .int x2, .int x3, .null, .null] [] M (f_X12_ahead_176 r0 x1 x2 x3 M) := by
  unfold f_X12_ahead_176
  refine x_aload_n (i := 0) rfl hC (zdk dk_X12_ahead 100 rfl) (q := 177) rfl ?_
  refine x_iload_n (i := 2) rfl hC (zdk dk_X12_ahead 101 rfl) (q := 178) rfl ?_
  refine x_if_eq (tgt := 185) hC (zdk dk_X12_ahead 102 rfl) (q := 181) rfl rfl (fun _ => ?_) (fun _ => ?_)
  · refine x_iconst (i := 2) c_iconst_2 hC (zdk dk_X12_ahead 105 rfl) (q := 186) rfl ?_
    refine x_weak (L' := [.ref r0, .int x1, .int x2, .int x3, .null, .null]) ⟨Or.inr rfl, Or.inr rfl, Or.inr rfl, Or.inr rfl, Or.inl rfl, Or.inl rfl, trivial⟩ ?_
    exact x_X12_ahead_186 hC hE hk0 h_r0 _ _ _ _ _ _ h_r0
  · refine x_iconst (i := 1) c_iconst_1 hC (zdk dk_X12_ahead 103 rfl) (q := 182) rfl ?_
    refine x_goto (tgt := 186) hC (zdk dk_X12_ahead 104 rfl) rfl ?_
    refine x_weak (L' := [.ref r0, .int x1, .int x2, .int x3, .null, .null]) ⟨Or.inr rfl, Or.inr rfl, Or.inr rfl, Or.inr rfl, Or.inl rfl, Or.inl rfl, trivial⟩ ?_
    exact x_X12_ahead_186 hC hE hk0 h_r0 _ _ _ _ _ _ h_r0
set_option maxRecDepth 100000 in
def f_X12_ahead_135  (r0 : Nat) (x1 : Int32) (x2 : Int32) (x3 : Int32) (M : Mem) : Option Mem := Option.bind (some (zsI M r0 6 0)) fun M16 => Option.bind (some (zsL M16 r0 7 0)) fun M17 => Option.bind (some (zsI M17 r0 3 3)) fun M18 => Option.bind (some (zsI M18 r0 5 (x1 + 1))) fun M19 => (if x2 = 0 then (if x3 = 0 then Option.bind (zrf M19 r0 0) fun q20 => Option.bind (zld q20 x1) fun k21 => Option.bind (some (zsI M19 r0 6 (zI M19 q20 k21))) fun M22 => some M22 else f_X12_ahead_176 r0 x1 x2 x3 M19) else f_X12_ahead_176 r0 x1 x2 x3 M19)
set_option maxRecDepth 100000 in
set_option maxHeartbeats 4000000 in
theorem x_X12_ahead_135 {κ : KX} {n : Nat} (hC : CX κ cX12_ahead RX12 6 none 1) (hE : zEnd κ n (0, 0)) (hk0 : zRk κ (0, 0)) {r0 : Nat} (h_r0 : zO n r0 12) (x1 : Int32) (x2 : Int32) (x3 : Int32) (M : Mem) : X κ 6 emV n (0, 0) 135 [.ref r0, .int x1, .int x2, .int x3, .null, .null] [] M (f_X12_ahead_135 r0 x1 x2 x3 M) := by
  unfold f_X12_ahead_135
  refine x_aload_n (i := 0) rfl hC (zdk dk_X12_ahead 75 rfl) (q := 136) rfl ?_
  refine x_iconst (i := 0) c_iconst_0 hC (zdk dk_X12_ahead 76 rfl) (q := 137) rfl ?_
  refine x_putI fl_RX12_29 ⟨rfl, rfl⟩ (by decide) (Or.inl rfl) h_r0 hC (zdk dk_X12_ahead 77 rfl) (q := 140) rfl ?_
  refine x_nmM (fun M16 => ?_)
  refine x_aload_n (i := 0) rfl hC (zdk dk_X12_ahead 78 rfl) (q := 141) rfl ?_
  refine x_lconst (i := 0) c_lconst_0 hC (zdk dk_X12_ahead 79 rfl) (q := 142) rfl ?_
  refine x_putL fl_RX12_32 ⟨rfl, rfl⟩ (Or.inl rfl) h_r0 hC (zdk dk_X12_ahead 80 rfl) (q := 145) rfl ?_
  refine x_nmM (fun M17 => ?_)
  refine x_aload_n (i := 0) rfl hC (zdk dk_X12_ahead 81 rfl) (q := 146) rfl ?_
  refine x_iconst (i := 3) c_iconst_3 hC (zdk dk_X12_ahead 82 rfl) (q := 147) rfl ?_
  refine x_putI fl_RX12_20 ⟨rfl, rfl⟩ (by decide) (Or.inl rfl) h_r0 hC (zdk dk_X12_ahead 83 rfl) (q := 150) rfl ?_
  refine x_nmM (fun M18 => ?_)
  refine x_aload_n (i := 0) rfl hC (zdk dk_X12_ahead 84 rfl) (q := 151) rfl ?_
  refine x_iload_n (i := 1) rfl hC (zdk dk_X12_ahead 85 rfl) (q := 152) rfl ?_
  refine x_iconst (i := 1) c_iconst_1 hC (zdk dk_X12_ahead 86 rfl) (q := 153) rfl ?_
  refine x_iadd hC (zdk dk_X12_ahead 87 rfl) (q := 154) rfl ?_
  refine x_putI fl_RX12_26 ⟨rfl, rfl⟩ (by decide) (Or.inl rfl) h_r0 hC (zdk dk_X12_ahead 88 rfl) (q := 157) rfl ?_
  refine x_nmM (fun M19 => ?_)
  refine x_iload_n (i := 2) rfl hC (zdk dk_X12_ahead 89 rfl) (q := 158) rfl ?_
  refine x_if_ne (tgt := 176) hC (zdk dk_X12_ahead 90 rfl) (q := 161) rfl rfl (fun _ => ?_) (fun _ => ?_)
  · refine x_weak (L' := [.ref r0, .int x1, .int x2, .int x3, .null, .null]) ⟨Or.inr rfl, Or.inr rfl, Or.inr rfl, Or.inr rfl, Or.inl rfl, Or.inl rfl, trivial⟩ ?_
    exact x_X12_ahead_176 hC hE hk0 h_r0 _ _ _ _
  · refine x_iload_n (i := 3) rfl hC (zdk dk_X12_ahead 91 rfl) (q := 162) rfl ?_
    refine x_if_ne (tgt := 176) hC (zdk dk_X12_ahead 92 rfl) (q := 165) rfl rfl (fun _ => ?_) (fun _ => ?_)
    · refine x_weak (L' := [.ref r0, .int x1, .int x2, .int x3, .null, .null]) ⟨Or.inr rfl, Or.inr rfl, Or.inr rfl, Or.inr rfl, Or.inl rfl, Or.inl rfl, trivial⟩ ?_
      exact x_X12_ahead_176 hC hE hk0 h_r0 _ _ _ _
    · refine x_aload_n (i := 0) rfl hC (zdk dk_X12_ahead 93 rfl) (q := 166) rfl ?_
      refine x_aload_n (i := 0) rfl hC (zdk dk_X12_ahead 94 rfl) (q := 167) rfl ?_
      refine x_getR (k := 20) fl_RX12_7 rfl h_r0 hC (zdk dk_X12_ahead 95 rfl) (q := 170) rfl (fun q20 hq20 => ?_)
      refine x_iload_n (i := 1) rfl hC (zdk dk_X12_ahead 96 rfl) (q := 171) rfl ?_
      refine x_iald hq20 hC (zdk dk_X12_ahead 97 rfl) (q := 172) rfl (fun k21 _ => ?_)
      refine x_putI fl_RX12_29 ⟨rfl, rfl⟩ (by decide) (Or.inl rfl) h_r0 hC (zdk dk_X12_ahead 98 rfl) (q := 175) rfl ?_
      refine x_nmM (fun M22 => ?_)
      exact x_vret hE hC (zdk dk_X12_ahead 99 rfl)
set_option maxRecDepth 100000 in
def f_X12_ahead_130  (r0 : Nat) (x1 : Int32) (x2 : Int32) (x3 : Int32) (M : Mem) : Option Mem := Option.bind (some (zsI M r0 12 x1)) fun M23 => f_X12_ahead_135 r0 x1 x2 x3 M23
set_option maxRecDepth 100000 in
set_option maxHeartbeats 4000000 in
theorem x_X12_ahead_130 {κ : KX} {n : Nat} (hC : CX κ cX12_ahead RX12 6 none 1) (hE : zEnd κ n (0, 0)) (hk0 : zRk κ (0, 0)) {r0 : Nat} (h_r0 : zO n r0 12) (x1 : Int32) (x2 : Int32) (x3 : Int32) (M : Mem) : X κ 6 emV n (0, 0) 130 [.ref r0, .int x1, .int x2, .int x3, .null, .null] [] M (f_X12_ahead_130 r0 x1 x2 x3 M) := by
  unfold f_X12_ahead_130
  refine x_aload_n (i := 0) rfl hC (zdk dk_X12_ahead 72 rfl) (q := 131) rfl ?_
  refine x_iload_n (i := 1) rfl hC (zdk dk_X12_ahead 73 rfl) (q := 132) rfl ?_
  refine x_putI fl_RX12_48 ⟨rfl, rfl⟩ (by decide) (Or.inl rfl) h_r0 hC (zdk dk_X12_ahead 74 rfl) (q := 135) rfl ?_
  refine x_nmM (fun M23 => ?_)
  refine x_weak (L' := [.ref r0, .int x1, .int x2, .int x3, .null, .null]) ⟨Or.inr rfl, Or.inr rfl, Or.inr rfl, Or.inr rfl, Or.inl rfl, Or.inl rfl, trivial⟩ ?_
  exact x_X12_ahead_135 hC hE hk0 h_r0 _ _ _ _
set_option maxRecDepth 100000 in
def f_X12_ahead_98  (r0 : Nat) (x1 : Int32) (x2 : Int32) (x3 : Int32) (M : Mem) : Option Mem := (if x1 ≤ 0 then f_X12_ahead_135 r0 x1 x2 x3 M else Option.bind (zrf M r0 0) fun q24 => Option.bind (zld q24 (x1 - 1)) fun k25 => Option.bind (f_X12_isLetter (zI M q24 k25) M) fun z26 => (if z26.1 = 0 then Option.bind (zrf z26.2 r0 0) fun q27 => Option.bind (zld q27 (x1 - 1)) fun k28 => Option.bind (f_X12_isDigit (zI z26.2 q27 k28) z26.2) fun z29 => (if z29.1 = 0 then f_X12_ahead_135 r0 x1 x2 x3 z29.2 else f_X12_ahead_130 r0 x1 x2 x3 z29.2) else f_X12_ahead_130 r0 x1 x2 x3 z26.2))
set_option maxRecDepth 100000 in
set_option maxHeartbeats 4000000 in
theorem x_X12_ahead_98 {κ : KX} {n : Nat} (hC : CX κ cX12_ahead RX12 6 none 1) (hE : zEnd κ n (0, 0)) (hk0 : zRk κ (0, 0)) {r0 : Nat} (h_r0 : zO n r0 12) (x1 : Int32) (x2 : Int32) (x3 : Int32) (M : Mem) : X κ 6 emV n (0, 0) 98 [.ref r0, .int x1, .int x2, .int x3, .null, .null] [] M (f_X12_ahead_98 r0 x1 x2 x3 M) := by
  unfold f_X12_ahead_98
  refine x_iload_n (i := 1) rfl hC (zdk dk_X12_ahead 54 rfl) (q := 99) rfl ?_
  refine x_if_le (tgt := 135) hC (zdk dk_X12_ahead 55 rfl) (q := 102) rfl rfl (fun _ => ?_) (fun _ => ?_)
  · refine x_weak (L' := [.ref r0, .int x1, .int x2, .int x3, .null, .null]) ⟨Or.inr rfl, Or.inr rfl, Or.inr rfl, Or.inr rfl, Or.inl rfl, Or.inl rfl, trivial⟩ ?_
    exact x_X12_ahead_135 hC hE hk0 h_r0 _ _ _ _
  · refine x_aload_n (i := 0) rfl hC (zdk dk_X12_ahead 56 rfl) (q := 103) rfl ?_
    refine x_getR (k := 20) fl_RX12_7 rfl h_r0 hC (zdk dk_X12_ahead 57 rfl) (q := 106) rfl (fun q24 hq24 => ?_)
    refine x_iload_n (i := 1) rfl hC (zdk dk_X12_ahead 58 rfl) (q := 107) rfl ?_
    refine x_iconst (i := 1) c_iconst_1 hC (zdk dk_X12_ahead 59 rfl) (q := 108) rfl ?_
    refine x_isub hC (zdk dk_X12_ahead 60 rfl) (q := 109) rfl ?_
    refine x_iald hq24 hC (zdk dk_X12_ahead 61 rfl) (q := 110) rfl (fun k25 _ => ?_)
    refine x_callSi (as := [.int (zI M q24 k25)]) cb_RX12_255 rfl (by decide) hk0 (fun x hx => t_X12_isLetter  x hx) hC (zdk dk_X12_ahead 62 rfl) (q := 113) rfl rfl (Nat.le_of_ble_eq_true rfl) (fun z26 => ?_)
    refine x_if_ne (tgt := 130) hC (zdk dk_X12_ahead 63 rfl) (q := 116) rfl rfl (fun _ => ?_) (fun _ => ?_)
    · refine x_weak (L' := [.ref r0, .int x1, .int x2, .int x3, .null, .null]) ⟨Or.inr rfl, Or.inr rfl, Or.inr rfl, Or.inr rfl, Or.inl rfl, Or.inl rfl, trivial⟩ ?_
      exact x_X12_ahead_130 hC hE hk0 h_r0 _ _ _ _
    · refine x_aload_n (i := 0) rfl hC (zdk dk_X12_ahead 64 rfl) (q := 117) rfl ?_
      refine x_getR (k := 20) fl_RX12_7 rfl h_r0 hC (zdk dk_X12_ahead 65 rfl) (q := 120) rfl (fun q27 hq27 => ?_)
      refine x_iload_n (i := 1) rfl hC (zdk dk_X12_ahead 66 rfl) (q := 121) rfl ?_
      refine x_iconst (i := 1) c_iconst_1 hC (zdk dk_X12_ahead 67 rfl) (q := 122) rfl ?_
      refine x_isub hC (zdk dk_X12_ahead 68 rfl) (q := 123) rfl ?_
      refine x_iald hq27 hC (zdk dk_X12_ahead 69 rfl) (q := 124) rfl (fun k28 _ => ?_)
      refine x_callSi (as := [.int (zI z26.2 q27 k28)]) cb_RX12_259 rfl (by decide) hk0 (fun x hx => t_X12_isDigit  x hx) hC (zdk dk_X12_ahead 70 rfl) (q := 127) rfl rfl (Nat.le_of_ble_eq_true rfl) (fun z29 => ?_)
      refine x_if_eq (tgt := 135) hC (zdk dk_X12_ahead 71 rfl) (q := 130) rfl rfl (fun _ => ?_) (fun _ => ?_)
      · refine x_weak (L' := [.ref r0, .int x1, .int x2, .int x3, .null, .null]) ⟨Or.inr rfl, Or.inr rfl, Or.inr rfl, Or.inr rfl, Or.inl rfl, Or.inl rfl, trivial⟩ ?_
        exact x_X12_ahead_135 hC hE hk0 h_r0 _ _ _ _
      · refine x_weak (L' := [.ref r0, .int x1, .int x2, .int x3, .null, .null]) ⟨Or.inr rfl, Or.inr rfl, Or.inr rfl, Or.inr rfl, Or.inl rfl, Or.inl rfl, trivial⟩ ?_
        exact x_X12_ahead_130 hC hE hk0 h_r0 _ _ _ _
set_option maxRecDepth 100000 in
def f_X12_ahead_41  (r0 : Nat) (x1 : Int32) (M : Mem) : Option Mem := Option.bind (some (zsI M r0 4 x1)) fun M30 => Option.bind (some (zsI M30 r0 5 x1)) fun M31 => Option.bind (some (zsI M31 r0 3 0)) fun M32 => Option.bind (some (zsI M32 r0 12 ((-1)))) fun M33 => (if x1 < zI M33 r0 2 then Option.bind (zrf M33 r0 0) fun q34 => Option.bind (zld q34 x1) fun k35 => Option.bind (f_X12_isLetter (zI M33 q34 k35) M33) fun z36 => Option.bind (zrf z36.2 r0 0) fun q37 => Option.bind (zld q37 x1) fun k38 => Option.bind (f_X12_isDigit (zI z36.2 q37 k38) z36.2) fun z39 => (if z36.1 = 0 then (if z39.1 = 0 then f_X12_ahead_135 r0 x1 z36.1 z39.1 z39.2 else f_X12_ahead_98 r0 x1 z36.1 z39.1 z39.2) else f_X12_ahead_98 r0 x1 z36.1 z39.1 z39.2) else some M33)
set_option maxRecDepth 100000 in
set_option maxHeartbeats 4000000 in
theorem x_X12_ahead_41 {κ : KX} {n : Nat} (hC : CX κ cX12_ahead RX12 6 none 1) (hE : zEnd κ n (0, 0)) (hk0 : zRk κ (0, 0)) {r0 : Nat} (h_r0 : zO n r0 12) (x1 : Int32) (M : Mem) : X κ 6 emV n (0, 0) 41 [.ref r0, .int x1, .null, .null, .null, .null] [] M (f_X12_ahead_41 r0 x1 M) := by
  unfold f_X12_ahead_41
  refine x_aload_n (i := 0) rfl hC (zdk dk_X12_ahead 21 rfl) (q := 42) rfl ?_
  refine x_iload_n (i := 1) rfl hC (zdk dk_X12_ahead 22 rfl) (q := 43) rfl ?_
  refine x_putI fl_RX12_23 ⟨rfl, rfl⟩ (by decide) (Or.inl rfl) h_r0 hC (zdk dk_X12_ahead 23 rfl) (q := 46) rfl ?_
  refine x_nmM (fun M30 => ?_)
  refine x_aload_n (i := 0) rfl hC (zdk dk_X12_ahead 24 rfl) (q := 47) rfl ?_
  refine x_iload_n (i := 1) rfl hC (zdk dk_X12_ahead 25 rfl) (q := 48) rfl ?_
  refine x_putI fl_RX12_26 ⟨rfl, rfl⟩ (by decide) (Or.inl rfl) h_r0 hC (zdk dk_X12_ahead 26 rfl) (q := 51) rfl ?_
  refine x_nmM (fun M31 => ?_)
  refine x_aload_n (i := 0) rfl hC (zdk dk_X12_ahead 27 rfl) (q := 52) rfl ?_
  refine x_iconst (i := 0) c_iconst_0 hC (zdk dk_X12_ahead 28 rfl) (q := 53) rfl ?_
  refine x_putI fl_RX12_20 ⟨rfl, rfl⟩ (by decide) (Or.inl rfl) h_r0 hC (zdk dk_X12_ahead 29 rfl) (q := 56) rfl ?_
  refine x_nmM (fun M32 => ?_)
  refine x_aload_n (i := 0) rfl hC (zdk dk_X12_ahead 30 rfl) (q := 57) rfl ?_
  refine x_iconst (i := (-1)) c_iconst_m1 hC (zdk dk_X12_ahead 31 rfl) (q := 58) rfl ?_
  refine x_putI fl_RX12_48 ⟨rfl, rfl⟩ (by decide) (Or.inl rfl) h_r0 hC (zdk dk_X12_ahead 32 rfl) (q := 61) rfl ?_
  refine x_nmM (fun M33 => ?_)
  refine x_iload_n (i := 1) rfl hC (zdk dk_X12_ahead 33 rfl) (q := 62) rfl ?_
  refine x_aload_n (i := 0) rfl hC (zdk dk_X12_ahead 34 rfl) (q := 63) rfl ?_
  refine x_getI fl_RX12_17 (by decide) h_r0 hC (zdk dk_X12_ahead 35 rfl) (q := 66) rfl ?_
  refine x_icmp_lt (tgt := 70) hC (zdk dk_X12_ahead 36 rfl) (q := 69) rfl rfl (fun _ => ?_) (fun _ => ?_)
  · refine x_aload_n (i := 0) rfl hC (zdk dk_X12_ahead 38 rfl) (q := 71) rfl ?_
    refine x_getR (k := 20) fl_RX12_7 rfl h_r0 hC (zdk dk_X12_ahead 39 rfl) (q := 74) rfl (fun q34 hq34 => ?_)
    refine x_iload_n (i := 1) rfl hC (zdk dk_X12_ahead 40 rfl) (q := 75) rfl ?_
    refine x_iald hq34 hC (zdk dk_X12_ahead 41 rfl) (q := 76) rfl (fun k35 _ => ?_)
    refine x_callSi (as := [.int (zI M33 q34 k35)]) cb_RX12_255 rfl (by decide) hk0 (fun x hx => t_X12_isLetter  x hx) hC (zdk dk_X12_ahead 42 rfl) (q := 79) rfl rfl (Nat.le_of_ble_eq_true rfl) (fun z36 => ?_)
    refine x_istore_n (i := 2) (L' := [.ref r0, .int x1, .int z36.1, .null, .null, .null]) (by decide) rfl hC (zdk dk_X12_ahead 43 rfl) (q := 80) rfl ?_
    refine x_aload_n (i := 0) rfl hC (zdk dk_X12_ahead 44 rfl) (q := 81) rfl ?_
    refine x_getR (k := 20) fl_RX12_7 rfl h_r0 hC (zdk dk_X12_ahead 45 rfl) (q := 84) rfl (fun q37 hq37 => ?_)
    refine x_iload_n (i := 1) rfl hC (zdk dk_X12_ahead 46 rfl) (q := 85) rfl ?_
    refine x_iald hq37 hC (zdk dk_X12_ahead 47 rfl) (q := 86) rfl (fun k38 _ => ?_)
    refine x_callSi (as := [.int (zI z36.2 q37 k38)]) cb_RX12_259 rfl (by decide) hk0 (fun x hx => t_X12_isDigit  x hx) hC (zdk dk_X12_ahead 48 rfl) (q := 89) rfl rfl (Nat.le_of_ble_eq_true rfl) (fun z39 => ?_)
    refine x_istore_n (i := 3) (L' := [.ref r0, .int x1, .int z36.1, .int z39.1, .null, .null]) (by decide) rfl hC (zdk dk_X12_ahead 49 rfl) (q := 90) rfl ?_
    refine x_iload_n (i := 2) rfl hC (zdk dk_X12_ahead 50 rfl) (q := 91) rfl ?_
    refine x_if_ne (tgt := 98) hC (zdk dk_X12_ahead 51 rfl) (q := 94) rfl rfl (fun _ => ?_) (fun _ => ?_)
    · refine x_weak (L' := [.ref r0, .int x1, .int z36.1, .int z39.1, .null, .null]) ⟨Or.inr rfl, Or.inr rfl, Or.inr rfl, Or.inr rfl, Or.inl rfl, Or.inl rfl, trivial⟩ ?_
      exact x_X12_ahead_98 hC hE hk0 h_r0 _ _ _ _
    · refine x_iload_n (i := 3) rfl hC (zdk dk_X12_ahead 52 rfl) (q := 95) rfl ?_
      refine x_if_eq (tgt := 135) hC (zdk dk_X12_ahead 53 rfl) (q := 98) rfl rfl (fun _ => ?_) (fun _ => ?_)
      · refine x_weak (L' := [.ref r0, .int x1, .int z36.1, .int z39.1, .null, .null]) ⟨Or.inr rfl, Or.inr rfl, Or.inr rfl, Or.inr rfl, Or.inl rfl, Or.inl rfl, trivial⟩ ?_
        exact x_X12_ahead_135 hC hE hk0 h_r0 _ _ _ _
      · refine x_weak (L' := [.ref r0, .int x1, .int z36.1, .int z39.1, .null, .null]) ⟨Or.inr rfl, Or.inr rfl, Or.inr rfl, Or.inr rfl, Or.inl rfl, Or.inl rfl, trivial⟩ ?_
        exact x_X12_ahead_98 hC hE hk0 h_r0 _ _ _ _
  · exact x_vret hE hC (zdk dk_X12_ahead 37 rfl)
set_option maxRecDepth 100000 in
def f_X12_ahead_5  (r0 : Nat) : Nat → Int32 → Mem → Option Mem
  | 0, _, _ => none
  | f + 1, x1, M => (if zI M r0 2 ≤ x1 then f_X12_ahead_41 r0 x1 M else Option.bind (zrf M r0 0) fun q40 => Option.bind (zld q40 x1) fun k41 => (if zI M q40 k41 = 32 then f_X12_ahead_35 (f_X12_ahead_5 r0 f) r0 x1 M else Option.bind (zrf M r0 0) fun q42 => Option.bind (zld q42 x1) fun k43 => (if zI M q42 k43 = 10 then f_X12_ahead_35 (f_X12_ahead_5 r0 f) r0 x1 M else f_X12_ahead_41 r0 x1 M)))
set_option maxRecDepth 100000 in
set_option maxHeartbeats 4000000 in
theorem x_X12_ahead_5 {κ : KX} {n : Nat} (hC : CX κ cX12_ahead RX12 6 none 1) (hE : zEnd κ n (0, 0)) (hk0 : zRk κ (0, 0)) {r0 : Nat} (h_r0 : zO n r0 12) : ∀ (f : Nat) (x1 : Int32) (M : Mem), X κ 6 emV n (0, 0) 5 [.ref r0, .int x1, .null, .null, .null, .null] [] M (f_X12_ahead_5 r0 f x1 M) := by
  intro f
  induction f with
  | zero => intros; exact x_none
  | succ f ih =>
    intro x1 M 
    rw [f_X12_ahead_5]
    refine x_iload_n (i := 1) rfl hC (zdk dk_X12_ahead 3 rfl) (q := 6) rfl ?_
    refine x_aload_n (i := 0) rfl hC (zdk dk_X12_ahead 4 rfl) (q := 7) rfl ?_
    refine x_getI fl_RX12_17 (by decide) h_r0 hC (zdk dk_X12_ahead 5 rfl) (q := 10) rfl ?_
    refine x_icmp_ge (tgt := 41) hC (zdk dk_X12_ahead 6 rfl) (q := 13) rfl rfl (fun _ => ?_) (fun _ => ?_)
    · refine x_weak (L' := [.ref r0, .int x1, .null, .null, .null, .null]) ⟨Or.inr rfl, Or.inr rfl, Or.inl rfl, Or.inl rfl, Or.inl rfl, Or.inl rfl, trivial⟩ ?_
      exact x_X12_ahead_41 hC hE hk0 h_r0 _ _
    · refine x_aload_n (i := 0) rfl hC (zdk dk_X12_ahead 7 rfl) (q := 14) rfl ?_
      refine x_getR (k := 20) fl_RX12_7 rfl h_r0 hC (zdk dk_X12_ahead 8 rfl) (q := 17) rfl (fun q40 hq40 => ?_)
      refine x_iload_n (i := 1) rfl hC (zdk dk_X12_ahead 9 rfl) (q := 18) rfl ?_
      refine x_iald hq40 hC (zdk dk_X12_ahead 10 rfl) (q := 19) rfl (fun k41 _ => ?_)
      refine x_bipush (i := 32) c_bipush_32 hC (zdk dk_X12_ahead 11 rfl) (q := 21) rfl ?_
      refine x_icmp_eq (tgt := 35) hC (zdk dk_X12_ahead 12 rfl) (q := 24) rfl rfl (fun _ => ?_) (fun _ => ?_)
      · refine x_weak (L' := [.ref r0, .int x1, .null, .null, .null, .null]) ⟨Or.inr rfl, Or.inr rfl, Or.inl rfl, Or.inl rfl, Or.inl rfl, Or.inl rfl, trivial⟩ ?_
        exact x_X12_ahead_35 hC hE hk0 h_r0 (f_X12_ahead_5 r0 f) ih _ _
      · refine x_aload_n (i := 0) rfl hC (zdk dk_X12_ahead 13 rfl) (q := 25) rfl ?_
        refine x_getR (k := 20) fl_RX12_7 rfl h_r0 hC (zdk dk_X12_ahead 14 rfl) (q := 28) rfl (fun q42 hq42 => ?_)
        refine x_iload_n (i := 1) rfl hC (zdk dk_X12_ahead 15 rfl) (q := 29) rfl ?_
        refine x_iald hq42 hC (zdk dk_X12_ahead 16 rfl) (q := 30) rfl (fun k43 _ => ?_)
        refine x_bipush (i := 10) c_bipush_10 hC (zdk dk_X12_ahead 17 rfl) (q := 32) rfl ?_
        refine x_icmp_ne (tgt := 41) hC (zdk dk_X12_ahead 18 rfl) (q := 35) rfl rfl (fun _ => ?_) (fun _ => ?_)
        · refine x_weak (L' := [.ref r0, .int x1, .null, .null, .null, .null]) ⟨Or.inr rfl, Or.inr rfl, Or.inl rfl, Or.inl rfl, Or.inl rfl, Or.inl rfl, trivial⟩ ?_
          exact x_X12_ahead_41 hC hE hk0 h_r0 _ _
        · refine x_weak (L' := [.ref r0, .int x1, .null, .null, .null, .null]) ⟨Or.inr rfl, Or.inr rfl, Or.inl rfl, Or.inl rfl, Or.inl rfl, Or.inl rfl, trivial⟩ ?_
          exact x_X12_ahead_35 hC hE hk0 h_r0 (f_X12_ahead_5 r0 f) ih _ _
set_option maxRecDepth 100000 in
def f_X12_ahead (r0 : Nat) (M : Mem) : Option Mem := f_X12_ahead_5 r0 1000000 (zI M r0 5) M
set_option maxRecDepth 100000 in
set_option maxHeartbeats 4000000 in
theorem x_X12_ahead {κ : KX} {n : Nat} (hC : CX κ cX12_ahead RX12 6 none 1) (hE : zEnd κ n (0, 0)) (hk0 : zRk κ (0, 0)) (r0 : Nat) (M : Mem) (h_r0 : zO n r0 12) : X κ 6 emV n (0, 0) 0 [.ref r0, .null, .null, .null, .null, .null] [] M (f_X12_ahead r0 M) := by
  unfold f_X12_ahead
  refine x_aload_n (i := 0) rfl hC (zdk dk_X12_ahead 0 rfl) (q := 1) rfl ?_
  refine x_getI fl_RX12_26 (by decide) h_r0 hC (zdk dk_X12_ahead 1 rfl) (q := 4) rfl ?_
  refine x_istore_n (i := 1) (L' := [.ref r0, .int (zI M r0 5), .null, .null, .null, .null]) (by decide) rfl hC (zdk dk_X12_ahead 2 rfl) (q := 5) rfl ?_
  refine x_weak (L' := [.ref r0, .int (zI M r0 5), .null, .null, .null, .null]) ⟨Or.inr rfl, Or.inr rfl, Or.inl rfl, Or.inl rfl, Or.inl rfl, Or.inl rfl, trivial⟩ ?_
  exact x_X12_ahead_5 hC hE hk0 h_r0 _ _ _
set_option maxRecDepth 100000 in
set_option maxHeartbeats 4000000 in
theorem t_X12_ahead {n : Nat} {r0 : Nat} {M : Mem} (h_r0 : zO n r0 12) (x : Mem) (hx : f_X12_ahead r0 M = some x) (l : Launch) (dC : Nat → ClassId) (dI : Nat → Nat → Nat) (b : zSg) : MT l dC dI b yX12_ahead cX12_ahead 6 none 1 0 0 n n [.ref r0] M (emV x).1 (emV x).2 :=
  MT.ofX (by decide +kernel) rfl (Nat.le_of_ble_eq_true rfl) (fun κ hC hF _ => x_X12_ahead hC (zEnd_of hF (Nat.le_refl _) (Nat.le_refl _)) (zRk_of hF (Nat.le_refl _) (Nat.le_refl _)) _ _ h_r0) x hx
set_option maxRecDepth 100000 in
def dt_X12_isSign : List (Nat × Instr × Nat) := [(0, .aload_n 0, 1), (1, .getfield 20, 3), (4, .iconst 3, 1), (5, .if_icmp .ne 15, 3), (8, .aload_n 0, 1), (9, .getfield 29, 3), (12, .iload_n 1, 1), (13, .if_icmp .ne 7, 3), (16, .iconst 1, 1), (17, .goto 4, 3), (20, .iconst 0, 1), (21, .ireturn, 1)]
set_option maxRecDepth 100000 in
theorem dk_X12_isSign : dt_X12_isSign.all (fun q => decide (decode cX12_isSign q.1 = .ok q.2)) = true := by decide +kernel
set_option maxRecDepth 100000 in
def f_X12_isSign_21  (r0 : Nat) (x1 : Int32) (s0 : Int32) (M : Mem) : Option (Int32 × Mem) := zbz s0 (some (s0, M))
set_option maxRecDepth 100000 in
set_option maxHeartbeats 4000000 in
theorem x_X12_isSign_21 {κ : KX} {n : Nat} (hC : CX κ cX12_isSign RX12 2 (some .boolean) 0) (hE : zEnd κ n (0, 0)) (hk0 : zRk κ (0, 0)) {r0 : Nat} {x1 : Int32} (h_r0 : zO n r0 12) (s0 : Int32) (M : Mem) : X κ 2 emI n (0, 0) 21 [.null, .null] [.int s0] M (f_X12_isSign_21 r0 x1 s0 M) := by
  unfold f_X12_isSign_21
  refine x_bz (fun hb1 => ?_)
  exact x_iret (ty := .boolean) hb1.1 hE hC (zdk dk_X12_isSign 11 rfl)
set_option maxRecDepth 100000 in
def f_X12_isSign_20  (r0 : Nat) (x1 : Int32)  (M : Mem) : Option (Int32 × Mem) := f_X12_isSign_21 r0 x1 0 M
set_option maxRecDepth 100000 in
set_option maxHeartbeats 4000000 in
theorem x_X12_isSign_20 {κ : KX} {n : Nat} (hC : CX κ cX12_isSign RX12 2 (some .boolean) 0) (hE : zEnd κ n (0, 0)) (hk0 : zRk κ (0, 0)) {r0 : Nat} {x1 : Int32} (h_r0 : zO n r0 12) (M : Mem) : X κ 2 emI n (0, 0) 20 [.null, .null] [] M (f_X12_isSign_20 r0 x1 M) := by
  unfold f_X12_isSign_20
  refine x_iconst (i := 0) c_iconst_0 hC (zdk dk_X12_isSign 10 rfl) (q := 21) rfl ?_
  refine x_weak (L' := [.null, .null]) ⟨Or.inl rfl, Or.inl rfl, trivial⟩ ?_
  exact x_X12_isSign_21 hC hE hk0 h_r0 _ _
set_option maxRecDepth 100000 in
def f_X12_isSign (r0 : Nat) (x1 : Int32) (M : Mem) : Option (Int32 × Mem) := (if zI M r0 3 = 3 then (if zI M r0 6 = x1 then f_X12_isSign_21 r0 x1 1 M else f_X12_isSign_20 r0 x1 M) else f_X12_isSign_20 r0 x1 M)
set_option maxRecDepth 100000 in
set_option maxHeartbeats 4000000 in
theorem x_X12_isSign {κ : KX} {n : Nat} (hC : CX κ cX12_isSign RX12 2 (some .boolean) 0) (hE : zEnd κ n (0, 0)) (hk0 : zRk κ (0, 0)) (r0 : Nat) (x1 : Int32) (M : Mem) (h_r0 : zO n r0 12) : X κ 2 emI n (0, 0) 0 [.ref r0, .int x1] [] M (f_X12_isSign r0 x1 M) := by
  unfold f_X12_isSign
  refine x_aload_n (i := 0) rfl hC (zdk dk_X12_isSign 0 rfl) (q := 1) rfl ?_
  refine x_getI fl_RX12_20 (by decide) h_r0 hC (zdk dk_X12_isSign 1 rfl) (q := 4) rfl ?_
  refine x_iconst (i := 3) c_iconst_3 hC (zdk dk_X12_isSign 2 rfl) (q := 5) rfl ?_
  refine x_icmp_ne (tgt := 20) hC (zdk dk_X12_isSign 3 rfl) (q := 8) rfl rfl (fun _ => ?_) (fun _ => ?_)
  · refine x_weak (L' := [.null, .null]) ⟨Or.inl rfl, Or.inl rfl, trivial⟩ ?_
    exact x_X12_isSign_20 hC hE hk0 h_r0 _
  · refine x_aload_n (i := 0) rfl hC (zdk dk_X12_isSign 4 rfl) (q := 9) rfl ?_
    refine x_getI fl_RX12_29 (by decide) h_r0 hC (zdk dk_X12_isSign 5 rfl) (q := 12) rfl ?_
    refine x_iload_n (i := 1) rfl hC (zdk dk_X12_isSign 6 rfl) (q := 13) rfl ?_
    refine x_icmp_ne (tgt := 20) hC (zdk dk_X12_isSign 7 rfl) (q := 16) rfl rfl (fun _ => ?_) (fun _ => ?_)
    · refine x_weak (L' := [.null, .null]) ⟨Or.inl rfl, Or.inl rfl, trivial⟩ ?_
      exact x_X12_isSign_20 hC hE hk0 h_r0 _
    · refine x_iconst (i := 1) c_iconst_1 hC (zdk dk_X12_isSign 8 rfl) (q := 17) rfl ?_
      refine x_goto (tgt := 21) hC (zdk dk_X12_isSign 9 rfl) rfl ?_
      refine x_weak (L' := [.null, .null]) ⟨Or.inl rfl, Or.inl rfl, trivial⟩ ?_
      exact x_X12_isSign_21 hC hE hk0 h_r0 _ _
set_option maxRecDepth 100000 in
set_option maxHeartbeats 4000000 in
theorem t_X12_isSign {n : Nat} {r0 : Nat} {x1 : Int32} {M : Mem} (h_r0 : zO n r0 12) (x : (Int32 × Mem)) (hx : f_X12_isSign r0 x1 M = some x) (l : Launch) (dC : Nat → ClassId) (dI : Nat → Nat → Nat) (b : zSg) : MT l dC dI b yX12_isSign cX12_isSign 2 (some .boolean) 0 0 0 n n [.ref r0, .int x1] M (emI x).1 (emI x).2 :=
  MT.ofX (by decide +kernel) rfl (Nat.le_of_ble_eq_true rfl) (fun κ hC hF _ => x_X12_isSign hC (zEnd_of hF (Nat.le_refl _) (Nat.le_refl _)) (zRk_of hF (Nat.le_refl _) (Nat.le_refl _)) _ _ _ h_r0) x hx
set_option maxRecDepth 100000 in
def dt_X12_isWord : List (Nat × Instr × Nat) := [(0, .aload_n 0, 1), (1, .getfield 20, 3), (4, .iconst 1, 1), (5, .if_icmp .ne 16, 3), (8, .aload_n 0, 1), (9, .getfield 32, 3), (12, .lload_n 1, 1), (13, .lcmp, 1), (14, .ifCond .ne 7, 3), (17, .iconst 1, 1), (18, .goto 4, 3), (21, .iconst 0, 1), (22, .ireturn, 1)]
set_option maxRecDepth 100000 in
theorem dk_X12_isWord : dt_X12_isWord.all (fun q => decide (decode cX12_isWord q.1 = .ok q.2)) = true := by decide +kernel
set_option maxRecDepth 100000 in
def f_X12_isWord_22  (r0 : Nat) (y1 : Int64) (s0 : Int32) (M : Mem) : Option (Int32 × Mem) := zbz s0 (some (s0, M))
set_option maxRecDepth 100000 in
set_option maxHeartbeats 4000000 in
theorem x_X12_isWord_22 {κ : KX} {n : Nat} (hC : CX κ cX12_isWord RX12 3 (some .boolean) 0) (hE : zEnd κ n (0, 0)) (hk0 : zRk κ (0, 0)) {r0 : Nat} {y1 : Int64} (h_r0 : zO n r0 12) (s0 : Int32) (M : Mem) : X κ 3 emI n (0, 0) 22 [.null, .null, .null] [.int s0] M (f_X12_isWord_22 r0 y1 s0 M) := by
  unfold f_X12_isWord_22
  refine x_bz (fun hb1 => ?_)
  exact x_iret (ty := .boolean) hb1.1 hE hC (zdk dk_X12_isWord 12 rfl)
set_option maxRecDepth 100000 in
def f_X12_isWord_21  (r0 : Nat) (y1 : Int64)  (M : Mem) : Option (Int32 × Mem) := f_X12_isWord_22 r0 y1 0 M
set_option maxRecDepth 100000 in
set_option maxHeartbeats 4000000 in
theorem x_X12_isWord_21 {κ : KX} {n : Nat} (hC : CX κ cX12_isWord RX12 3 (some .boolean) 0) (hE : zEnd κ n (0, 0)) (hk0 : zRk κ (0, 0)) {r0 : Nat} {y1 : Int64} (h_r0 : zO n r0 12) (M : Mem) : X κ 3 emI n (0, 0) 21 [.null, .null, .null] [] M (f_X12_isWord_21 r0 y1 M) := by
  unfold f_X12_isWord_21
  refine x_iconst (i := 0) c_iconst_0 hC (zdk dk_X12_isWord 11 rfl) (q := 22) rfl ?_
  refine x_weak (L' := [.null, .null, .null]) ⟨Or.inl rfl, Or.inl rfl, Or.inl rfl, trivial⟩ ?_
  exact x_X12_isWord_22 hC hE hk0 h_r0 _ _
set_option maxRecDepth 100000 in
def f_X12_isWord (r0 : Nat) (y1 : Int64) (M : Mem) : Option (Int32 × Mem) := (if zI M r0 3 = 1 then (if lg_cmp (zL M r0 7) y1 = 0 then f_X12_isWord_22 r0 y1 1 M else f_X12_isWord_21 r0 y1 M) else f_X12_isWord_21 r0 y1 M)
set_option maxRecDepth 100000 in
set_option maxHeartbeats 4000000 in
theorem x_X12_isWord {κ : KX} {n : Nat} (hC : CX κ cX12_isWord RX12 3 (some .boolean) 0) (hE : zEnd κ n (0, 0)) (hk0 : zRk κ (0, 0)) (r0 : Nat) (y1 : Int64) (M : Mem) (h_r0 : zO n r0 12) : X κ 3 emI n (0, 0) 0 [.ref r0, .long y1, .null] [] M (f_X12_isWord r0 y1 M) := by
  unfold f_X12_isWord
  refine x_aload_n (i := 0) rfl hC (zdk dk_X12_isWord 0 rfl) (q := 1) rfl ?_
  refine x_getI fl_RX12_20 (by decide) h_r0 hC (zdk dk_X12_isWord 1 rfl) (q := 4) rfl ?_
  refine x_iconst (i := 1) c_iconst_1 hC (zdk dk_X12_isWord 2 rfl) (q := 5) rfl ?_
  refine x_icmp_ne (tgt := 21) hC (zdk dk_X12_isWord 3 rfl) (q := 8) rfl rfl (fun _ => ?_) (fun _ => ?_)
  · refine x_weak (L' := [.null, .null, .null]) ⟨Or.inl rfl, Or.inl rfl, Or.inl rfl, trivial⟩ ?_
    exact x_X12_isWord_21 hC hE hk0 h_r0 _
  · refine x_aload_n (i := 0) rfl hC (zdk dk_X12_isWord 4 rfl) (q := 9) rfl ?_
    refine x_getL fl_RX12_32 h_r0 hC (zdk dk_X12_isWord 5 rfl) (q := 12) rfl ?_
    refine x_lload_n (i := 1) rfl hC (zdk dk_X12_isWord 6 rfl) (q := 13) rfl ?_
    refine x_lcmp hC (zdk dk_X12_isWord 7 rfl) (q := 14) rfl ?_
    refine x_if_ne (tgt := 21) hC (zdk dk_X12_isWord 8 rfl) (q := 17) rfl rfl (fun _ => ?_) (fun _ => ?_)
    · refine x_weak (L' := [.null, .null, .null]) ⟨Or.inl rfl, Or.inl rfl, Or.inl rfl, trivial⟩ ?_
      exact x_X12_isWord_21 hC hE hk0 h_r0 _
    · refine x_iconst (i := 1) c_iconst_1 hC (zdk dk_X12_isWord 9 rfl) (q := 18) rfl ?_
      refine x_goto (tgt := 22) hC (zdk dk_X12_isWord 10 rfl) rfl ?_
      refine x_weak (L' := [.null, .null, .null]) ⟨Or.inl rfl, Or.inl rfl, Or.inl rfl, trivial⟩ ?_
      exact x_X12_isWord_22 hC hE hk0 h_r0 _ _
set_option maxRecDepth 100000 in
set_option maxHeartbeats 4000000 in
theorem t_X12_isWord {n : Nat} {r0 : Nat} {y1 : Int64} {M : Mem} (h_r0 : zO n r0 12) (x : (Int32 × Mem)) (hx : f_X12_isWord r0 y1 M = some x) (l : Launch) (dC : Nat → ClassId) (dI : Nat → Nat → Nat) (b : zSg) : MT l dC dI b yX12_isWord cX12_isWord 3 (some .boolean) 0 0 0 n n [.ref r0, .long y1] M (emI x).1 (emI x).2 :=
  MT.ofX (by decide +kernel) rfl (Nat.le_of_ble_eq_true rfl) (fun κ hC hF _ => x_X12_isWord hC (zEnd_of hF (Nat.le_refl _) (Nat.le_refl _)) (zRk_of hF (Nat.le_refl _) (Nat.le_refl _)) _ _ _ h_r0) x hx
set_option maxRecDepth 100000 in
def dt_X12_must : List (Nat × Instr × Nat) := [(0, .aload_n 0, 1), (1, .invokevirtual 262, 3), (4, .aload_n 0, 1), (5, .iload_n 1, 1), (6, .invokevirtual 265, 3), (9, .ifCond .ne 12, 3), (12, .aload_n 0, 1), (13, .iconst 1, 1), (14, .aload_n 0, 1), (15, .getfield 23, 3), (18, .invokevirtual 251, 3), (21, .aload_n 0, 1), (22, .getfield 36, 3), (25, .ifCond .ne 7, 3), (28, .aload_n 0, 1), (29, .invokevirtual 268, 3), (32, .return_, 1)]
set_option maxRecDepth 100000 in
theorem dk_X12_must : dt_X12_must.all (fun q => decide (decode cX12_must q.1 = .ok q.2)) = true := by decide +kernel
set_option maxRecDepth 100000 in
def f_X12_must_32  (r0 : Nat) (x1 : Int32)  (M : Mem) : Option Mem := some M
set_option maxRecDepth 100000 in
set_option maxHeartbeats 4000000 in
theorem x_X12_must_32 {κ : KX} {n : Nat} (hC : CX κ cX12_must RX12 2 none 2) (hE : zEnd κ n (0, 0)) (hk0 : zRk κ (0, 0)) {r0 : Nat} {x1 : Int32} (h_r0 : zO n r0 12) (M : Mem) : X κ 2 emV n (0, 0) 32 [.null, .null] [] M (f_X12_must_32 r0 x1 M) := by
  unfold f_X12_must_32
  exact x_vret hE hC (zdk dk_X12_must 16 rfl)
set_option maxRecDepth 100000 in
def f_X12_must_21  (r0 : Nat) (x1 : Int32)  (M : Mem) : Option Mem := (if zI M r0 8 = 0 then Option.bind (f_X12_ahead r0 M) fun M1 => f_X12_must_32 r0 x1 M1 else f_X12_must_32 r0 x1 M)
set_option maxRecDepth 100000 in
set_option maxHeartbeats 4000000 in
theorem x_X12_must_21 {κ : KX} {n : Nat} (hC : CX κ cX12_must RX12 2 none 2) (hE : zEnd κ n (0, 0)) (hk0 : zRk κ (0, 0)) {r0 : Nat} {x1 : Int32} (h_r0 : zO n r0 12) (M : Mem) : X κ 2 emV n (0, 0) 21 [.ref r0, .null] [] M (f_X12_must_21 r0 x1 M) := by
  unfold f_X12_must_21
  refine x_aload_n (i := 0) rfl hC (zdk dk_X12_must 11 rfl) (q := 22) rfl ?_
  refine x_getI fl_RX12_36 (by decide) h_r0 hC (zdk dk_X12_must 12 rfl) (q := 25) rfl ?_
  refine x_if_ne (tgt := 32) hC (zdk dk_X12_must 13 rfl) (q := 28) rfl rfl (fun _ => ?_) (fun _ => ?_)
  · refine x_weak (L' := [.null, .null]) ⟨Or.inl rfl, Or.inl rfl, trivial⟩ ?_
    exact x_X12_must_32 hC hE hk0 h_r0 _
  · refine x_aload_n (i := 0) rfl hC (zdk dk_X12_must 14 rfl) (q := 29) rfl ?_
    refine x_callVv (as := []) cb_RX12_268 rfl (by decide) hk0 h_r0 (fun x hx => t_X12_ahead h_r0 x hx) hC (zdk dk_X12_must 15 rfl) (q := 32) rfl rfl (Nat.le_of_ble_eq_true rfl) (fun M1 => ?_)
    refine x_weak (L' := [.null, .null]) ⟨Or.inl rfl, Or.inl rfl, trivial⟩ ?_
    exact x_X12_must_32 hC hE hk0 h_r0 _
set_option maxRecDepth 100000 in
def f_X12_must (r0 : Nat) (x1 : Int32) (M : Mem) : Option Mem := Option.bind (f_X12_lex r0 M) fun M2 => Option.bind (f_X12_isSign r0 x1 M2) fun z3 => (if z3.1 = 0 then Option.bind (f_X12_blame r0 1 (zI z3.2 r0 4) z3.2) fun M4 => f_X12_must_21 r0 x1 M4 else f_X12_must_21 r0 x1 z3.2)
set_option maxRecDepth 100000 in
set_option maxHeartbeats 4000000 in
theorem x_X12_must {κ : KX} {n : Nat} (hC : CX κ cX12_must RX12 2 none 2) (hE : zEnd κ n (0, 0)) (hk0 : zRk κ (0, 0)) (r0 : Nat) (x1 : Int32) (M : Mem) (h_r0 : zO n r0 12) : X κ 2 emV n (0, 0) 0 [.ref r0, .int x1] [] M (f_X12_must r0 x1 M) := by
  unfold f_X12_must
  refine x_aload_n (i := 0) rfl hC (zdk dk_X12_must 0 rfl) (q := 1) rfl ?_
  refine x_callVv (as := []) cb_RX12_262 rfl (by decide) hk0 h_r0 (fun x hx => t_X12_lex h_r0 x hx) hC (zdk dk_X12_must 1 rfl) (q := 4) rfl rfl (Nat.le_of_ble_eq_true rfl) (fun M2 => ?_)
  refine x_aload_n (i := 0) rfl hC (zdk dk_X12_must 2 rfl) (q := 5) rfl ?_
  refine x_iload_n (i := 1) rfl hC (zdk dk_X12_must 3 rfl) (q := 6) rfl ?_
  refine x_callVi (as := [.int x1]) cb_RX12_265 rfl (by decide) hk0 h_r0 (fun x hx => t_X12_isSign h_r0 x hx) hC (zdk dk_X12_must 4 rfl) (q := 9) rfl rfl (Nat.le_of_ble_eq_true rfl) (fun z3 => ?_)
  refine x_if_ne (tgt := 21) hC (zdk dk_X12_must 5 rfl) (q := 12) rfl rfl (fun _ => ?_) (fun _ => ?_)
  · refine x_weak (L' := [.ref r0, .null]) ⟨Or.inr rfl, Or.inl rfl, trivial⟩ ?_
    exact x_X12_must_21 hC hE hk0 h_r0 _
  · refine x_aload_n (i := 0) rfl hC (zdk dk_X12_must 6 rfl) (q := 13) rfl ?_
    refine x_iconst (i := 1) c_iconst_1 hC (zdk dk_X12_must 7 rfl) (q := 14) rfl ?_
    refine x_aload_n (i := 0) rfl hC (zdk dk_X12_must 8 rfl) (q := 15) rfl ?_
    refine x_getI fl_RX12_23 (by decide) h_r0 hC (zdk dk_X12_must 9 rfl) (q := 18) rfl ?_
    refine x_callVv (as := [.int 1, .int (zI z3.2 r0 4)]) cb_RX12_251 rfl (by decide) hk0 h_r0 (fun x hx => t_X12_blame h_r0 x hx) hC (zdk dk_X12_must 10 rfl) (q := 21) rfl rfl (Nat.le_of_ble_eq_true rfl) (fun M4 => ?_)
    refine x_weak (L' := [.ref r0, .null]) ⟨Or.inr rfl, Or.inl rfl, trivial⟩ ?_
    exact x_X12_must_21 hC hE hk0 h_r0 _
set_option maxRecDepth 100000 in
set_option maxHeartbeats 4000000 in
theorem t_X12_must {n : Nat} {r0 : Nat} {x1 : Int32} {M : Mem} (h_r0 : zO n r0 12) (x : Mem) (hx : f_X12_must r0 x1 M = some x) (l : Launch) (dC : Nat → ClassId) (dI : Nat → Nat → Nat) (b : zSg) : MT l dC dI b yX12_must cX12_must 2 none 2 0 0 n n [.ref r0, .int x1] M (emV x).1 (emV x).2 :=
  MT.ofX (by decide +kernel) rfl (Nat.le_of_ble_eq_true rfl) (fun κ hC hF _ => x_X12_must hC (zEnd_of hF (Nat.le_refl _) (Nat.le_refl _)) (zRk_of hF (Nat.le_refl _) (Nat.le_refl _)) _ _ _ h_r0) x hx
