section
variable {α : Type} {κ : KX} {nL : Nat} {em : α → Option Value × Mem} {n : Nat} {cs : Nat × Nat} {pc q : Nat} {L st : List Value} {M : Mem} {res : Option α} {cc : ByteArray} {own : String} {ret : Option FieldType} {d : Nat}
theorem x_eqF {x : Int32} {off : Int} {tgt : Nat} (h : ¬ x = 0) (hC : CX κ cc own nL ret d) (hd : decode cc pc = .ok (.ifCond .eq off, 3)) (hq : pc + 3 = q) (ht : (pc : Int) + off = (tgt : Int)) (k : X κ nL em n cs q L st M res) : X κ nL em n cs pc L (.int x :: st) M res := by
  have := x_if_eq (A := none) (B := res) hC hd hq ht (fun h' => absurd h' h) (fun _ => k)
  rwa [if_neg h] at this
theorem x_neF {x : Int32} {off : Int} {tgt : Nat} (h : x = 0) (hC : CX κ cc own nL ret d) (hd : decode cc pc = .ok (.ifCond .ne off, 3)) (hq : pc + 3 = q) (ht : (pc : Int) + off = (tgt : Int)) (k : X κ nL em n cs q L st M res) : X κ nL em n cs pc L (.int x :: st) M res := by
  have := x_if_ne (A := res) (B := none) hC hd hq ht (fun h' => absurd h h') (fun _ => k)
  rwa [if_pos h] at this
theorem x_ltF {x : Int32} {off : Int} {tgt : Nat} (h : ¬ x < 0) (hC : CX κ cc own nL ret d) (hd : decode cc pc = .ok (.ifCond .lt off, 3)) (hq : pc + 3 = q) (ht : (pc : Int) + off = (tgt : Int)) (k : X κ nL em n cs q L st M res) : X κ nL em n cs pc L (.int x :: st) M res := by
  have := x_if_lt (A := none) (B := res) hC hd hq ht (fun h' => absurd h' h) (fun _ => k)
  rwa [if_neg h] at this
theorem x_cltT {x y : Int32} {off : Int} {tgt : Nat} (h : x < y) (hC : CX κ cc own nL ret d) (hd : decode cc pc = .ok (.if_icmp .lt off, 3)) (ht : (pc : Int) + off = (tgt : Int)) (k : X κ nL em n cs tgt L st M res) : X κ nL em n cs pc L (.int y :: .int x :: st) M res := by
  have := x_icmp_lt (A := res) (B := none) hC hd rfl ht (fun _ => k) (fun h' => absurd h h')
  rwa [if_pos h] at this
end
set_option maxRecDepth 100000 in
def dt_J0_coder_7d493 : List (Nat × Instr × Nat) := [(0, .getstatic 38, 3), (3, .ifCond .eq 10, 3), (6, .aload_n 0, 1), (7, .getfield 15, 3), (10, .goto 4, 3), (13, .iconst 1, 1), (14, .ireturn, 1)]
set_option maxRecDepth 100000 in
theorem dk_J0_coder_7d493 : dt_J0_coder_7d493.all (fun q => decide (decode cJ0_coder_7d493 q.1 = .ok q.2)) = true := by decide +kernel
set_option maxRecDepth 100000 in
set_option maxHeartbeats 4000000 in
theorem x_J0_coder_7d493 {κ : KX} {n r0 : Nat} {M : Mem} (hC : CX κ cJ0_coder_7d493 RJ0 1 (some .byte) 0) (hE : zEnd κ n (0, 0)) (hk0 : zRk κ (0, 0)) (h_r0 : zSt r0) : X κ 1 emI n (0, 0) 0 [.ref r0] [] M (some (0, M)) := by
  refine x_gcs (zW2 200 rfl rfl) hC (zdk dk_J0_coder_7d493 0 rfl) (q := 3) rfl ?_
  refine x_eqF (tgt := 13) (by decide) hC (zdk dk_J0_coder_7d493 1 rfl) (q := 6) rfl rfl ?_
  refine x_aload_n (i := 0) rfl hC (zdk dk_J0_coder_7d493 2 rfl) (q := 7) rfl ?_
  refine x_scod h_r0 (zW9 92 rfl rfl) hC (zdk dk_J0_coder_7d493 3 rfl) (q := 10) rfl ?_
  refine x_goto (tgt := 14) hC (zdk dk_J0_coder_7d493 4 rfl) rfl ?_
  exact x_iret (ty := .byte) rfl hE hC (zdk dk_J0_coder_7d493 6 rfl)
set_option maxRecDepth 100000 in
set_option maxHeartbeats 4000000 in
theorem t_J0_coder_7d493 {n : Nat} {r0 : Nat} {M : Mem} (h_r0 : zSt r0) (x : Int32 × Mem) (hx : (some (0, M) : Option (Int32 × Mem)) = some x) (l : Launch) (dC : Nat → ClassId) (dI : Nat → Nat → Nat) (b : zSg) : MT l dC dI b yJ0_coder_7d493 cJ0_coder_7d493 1 (some .byte) 0 0 0 n n [.ref r0] M (emI x).1 (emI x).2 :=
  MT.ofX (by decide +kernel) rfl (Nat.le_of_ble_eq_true rfl) (fun κ hC hF _ => x_J0_coder_7d493 hC (zEnd_of hF (Nat.le_refl _) (Nat.le_refl _)) (zRk_of hF (Nat.le_refl _) (Nat.le_refl _)) h_r0) x hx
set_option maxRecDepth 100000 in
def dt_J0_length_8abf5 : List (Nat × Instr × Nat) := [(0, .aload_n 0, 1), (1, .getfield 9, 3), (4, .arraylength, 1), (5, .aload_n 0, 1), (6, .invokevirtual 335, 3), (9, .ishr, 1), (10, .ireturn, 1)]
set_option maxRecDepth 100000 in
theorem dk_J0_length_8abf5 : dt_J0_length_8abf5.all (fun q => decide (decode cJ0_length_8abf5 q.1 = .ok q.2)) = true := by decide +kernel
set_option maxRecDepth 100000 in
def f_J0_length_8abf5 (r0 : Nat) (M : Mem) : Option (Int32 × Mem) := some (zSn r0 >>> (0 &&& 31), M)
set_option maxRecDepth 100000 in
set_option maxHeartbeats 4000000 in
theorem x_J0_length_8abf5 {κ : KX} {n r0 : Nat} {M : Mem} (hC : CX κ cJ0_length_8abf5 RJ0 1 (some .int) 1) (hE : zEnd κ n (0, 0)) (hk0 : zRk κ (0, 0)) (h_r0 : zSt r0) : X κ 1 emI n (0, 0) 0 [.ref r0] [] M (f_J0_length_8abf5 r0 M) := by
  unfold f_J0_length_8abf5
  refine x_aload_n (i := 0) rfl hC (zdk dk_J0_length_8abf5 0 rfl) (q := 1) rfl ?_
  refine x_sval h_r0 (zW9 91 rfl rfl) hC (zdk dk_J0_length_8abf5 1 rfl) (q := 4) rfl ?_
  refine x_slen h_r0 hC (zdk dk_J0_length_8abf5 2 rfl) (q := 5) rfl ?_
  refine x_aload_n (i := 0) rfl hC (zdk dk_J0_length_8abf5 3 rfl) (q := 6) rfl ?_
  have hh : X κ 1 emI n (0, 0) 6 [.ref r0] [.ref r0, .int (zSn r0)] M (Option.bind (some ((0 : Int32), M)) fun z => some (zSn r0 >>> (z.1 &&& 31), z.2)) := x_callVSk (as := []) (show zCB RJ0 335 yJ0_coder_7d493 cJ0_coder_7d493 1 (some .byte) 0 ∧ Cond.instanceMethod yJ0_coder_7d493 ∈ zTb ∧ Cond.selects yJ0_coder_7d493.cls yJ0_coder_7d493 yJ0_coder_7d493 ∈ zTb ∧ yJ0_coder_7d493.cls = "java/lang/String" from ⟨⟨zW2 196 rfl rfl, zW1 13 rfl rfl, zW2 199 rfl rfl, ⟨by decide +kernel, by decide +kernel, by decide +kernel⟩⟩, zW2 197 rfl rfl, zW2 198 rfl rfl, rfl⟩) rfl (by decide) hk0 h_r0 (fun x hx => t_J0_coder_7d493 h_r0 x hx) hC (zdk dk_J0_length_8abf5 4 rfl) (q := 9) rfl rfl (Nat.le_of_ble_eq_true rfl) (fun z _ => x_ishr hC (zdk dk_J0_length_8abf5 5 rfl) (q := 10) rfl (x_iret (ty := .int) rfl hE hC (zdk dk_J0_length_8abf5 6 rfl)))
  exact hh
set_option maxRecDepth 100000 in
set_option maxHeartbeats 4000000 in
theorem t_J0_length_8abf5 {n : Nat} {r0 : Nat} {M : Mem} (h_r0 : zSt r0) (x : Int32 × Mem) (hx : f_J0_length_8abf5 r0 M = some x) (l : Launch) (dC : Nat → ClassId) (dI : Nat → Nat → Nat) (b : zSg) : MT l dC dI b yJ0_length_8abf5 cJ0_length_8abf5 1 (some .int) 1 0 0 n n [.ref r0] M (emI x).1 (emI x).2 :=
  MT.ofX (by decide +kernel) rfl (Nat.le_of_ble_eq_true rfl) (fun κ hC hF _ => x_J0_length_8abf5 hC (zEnd_of hF (Nat.le_refl _) (Nat.le_refl _)) (zRk_of hF (Nat.le_refl _) (Nat.le_refl _)) h_r0) x hx
set_option maxRecDepth 100000 in
def dt_J0_isLatin1_aae02 : List (Nat × Instr × Nat) := [(0, .getstatic 38, 3), (3, .ifCond .eq 14, 3), (6, .aload_n 0, 1), (7, .getfield 15, 3), (10, .ifCond .ne 7, 3), (13, .iconst 1, 1), (14, .goto 4, 3), (17, .iconst 0, 1), (18, .ireturn, 1)]
set_option maxRecDepth 100000 in
theorem dk_J0_isLatin1_aae02 : dt_J0_isLatin1_aae02.all (fun q => decide (decode cJ0_isLatin1_aae02 q.1 = .ok q.2)) = true := by decide +kernel
set_option maxRecDepth 100000 in
set_option maxHeartbeats 4000000 in
theorem x_J0_isLatin1_aae02 {κ : KX} {n r0 : Nat} {M : Mem} (hC : CX κ cJ0_isLatin1_aae02 RJ0 1 (some .boolean) 0) (hE : zEnd κ n (0, 0)) (hk0 : zRk κ (0, 0)) (h_r0 : zSt r0) : X κ 1 emI n (0, 0) 0 [.ref r0] [] M (some (1, M)) := by
  refine x_gcs (zW2 200 rfl rfl) hC (zdk dk_J0_isLatin1_aae02 0 rfl) (q := 3) rfl ?_
  refine x_eqF (tgt := 17) (by decide) hC (zdk dk_J0_isLatin1_aae02 1 rfl) (q := 6) rfl rfl ?_
  refine x_aload_n (i := 0) rfl hC (zdk dk_J0_isLatin1_aae02 2 rfl) (q := 7) rfl ?_
  refine x_scod h_r0 (zW9 92 rfl rfl) hC (zdk dk_J0_isLatin1_aae02 3 rfl) (q := 10) rfl ?_
  refine x_neF (tgt := 17) rfl hC (zdk dk_J0_isLatin1_aae02 4 rfl) (q := 13) rfl rfl ?_
  refine x_iconst (i := 1) c_iconst_1 hC (zdk dk_J0_isLatin1_aae02 5 rfl) (q := 14) rfl ?_
  refine x_goto (tgt := 18) hC (zdk dk_J0_isLatin1_aae02 6 rfl) rfl ?_
  exact x_iret (ty := .boolean) rfl hE hC (zdk dk_J0_isLatin1_aae02 8 rfl)
set_option maxRecDepth 100000 in
set_option maxHeartbeats 4000000 in
theorem t_J0_isLatin1_aae02 {n : Nat} {r0 : Nat} {M : Mem} (h_r0 : zSt r0) (x : Int32 × Mem) (hx : (some (1, M) : Option (Int32 × Mem)) = some x) (l : Launch) (dC : Nat → ClassId) (dI : Nat → Nat → Nat) (b : zSg) : MT l dC dI b yJ0_isLatin1_aae02 cJ0_isLatin1_aae02 1 (some .boolean) 0 0 0 n n [.ref r0] M (emI x).1 (emI x).2 :=
  MT.ofX (by decide +kernel) rfl (Nat.le_of_ble_eq_true rfl) (fun κ hC hF _ => x_J0_isLatin1_aae02 hC (zEnd_of hF (Nat.le_refl _) (Nat.le_refl _)) (zRk_of hF (Nat.le_refl _) (Nat.le_refl _)) h_r0) x hx
set_option maxRecDepth 100000 in
def dt_J3_checkIndex_8e157 : List (Nat × Instr × Nat) := [(0, .iload_n 0, 1), (1, .ifCond .lt 8, 3), (4, .iload_n 0, 1), (5, .iload_n 1, 1), (6, .if_icmp .lt 10, 3), (9, .aload_n 2, 1), (10, .iload_n 0, 1), (11, .iload_n 1, 1), (12, .invokestatic 95, 3), (15, .athrow, 1), (16, .iload_n 0, 1), (17, .ireturn, 1)]
set_option maxRecDepth 100000 in
theorem dk_J3_checkIndex_8e157 : dt_J3_checkIndex_8e157.all (fun q => decide (decode cJ3_checkIndex_8e157 q.1 = .ok q.2)) = true := by decide +kernel
set_option maxRecDepth 100000 in
set_option maxHeartbeats 4000000 in
theorem x_J3_checkIndex_8e157 {κ : KX} {n : Nat} {x0 x1 : Int32} {v : Value} {M : Mem} (hC : CX κ cJ3_checkIndex_8e157 RJ3 3 (some .int) 0) (hE : zEnd κ n (0, 0)) (hk0 : zRk κ (0, 0)) (h0 : ¬ x0 < 0) (h1 : x0 < x1) : X κ 3 emI n (0, 0) 0 [.int x0, .int x1, v] [] M (some (x0, M)) := by
  refine x_iload_n (i := 0) rfl hC (zdk dk_J3_checkIndex_8e157 0 rfl) (q := 1) rfl ?_
  refine x_ltF (tgt := 9) h0 hC (zdk dk_J3_checkIndex_8e157 1 rfl) (q := 4) rfl rfl ?_
  refine x_iload_n (i := 0) rfl hC (zdk dk_J3_checkIndex_8e157 2 rfl) (q := 5) rfl ?_
  refine x_iload_n (i := 1) rfl hC (zdk dk_J3_checkIndex_8e157 3 rfl) (q := 6) rfl ?_
  refine x_cltT (tgt := 16) h1 hC (zdk dk_J3_checkIndex_8e157 4 rfl) rfl ?_
  refine x_iload_n (i := 0) rfl hC (zdk dk_J3_checkIndex_8e157 10 rfl) (q := 17) rfl ?_
  exact x_iret (ty := .int) rfl hE hC (zdk dk_J3_checkIndex_8e157 11 rfl)
set_option maxRecDepth 100000 in
set_option maxHeartbeats 4000000 in
theorem t_J3_checkIndex_8e157 {n : Nat} {x0 x1 : Int32} {v : Value} {M : Mem} (hv : v = .null ∨ v = .ref 1000004) (h0 : ¬ x0 < 0) (h1 : x0 < x1) (x : Int32 × Mem) (hx : (some (x0, M) : Option (Int32 × Mem)) = some x) (l : Launch) (dC : Nat → ClassId) (dI : Nat → Nat → Nat) (b : zSg) : MT l dC dI b yJ3_checkIndex_8e157 cJ3_checkIndex_8e157 3 (some .int) 0 0 0 n n [.int x0, .int x1, v] M (emI x).1 (emI x).2 := by
  rcases hv with rfl | rfl
  · exact MT.ofX (by decide +kernel) rfl (Nat.le_of_ble_eq_true rfl) (fun κ hC hF _ => x_J3_checkIndex_8e157 hC (zEnd_of hF (Nat.le_refl _) (Nat.le_refl _)) (zRk_of hF (Nat.le_refl _) (Nat.le_refl _)) h0 h1) x hx
  · exact MT.ofX (by decide +kernel) rfl (Nat.le_of_ble_eq_true rfl) (fun κ hC hF _ => x_J3_checkIndex_8e157 hC (zEnd_of hF (Nat.le_refl _) (Nat.le_refl _)) (zRk_of hF (Nat.le_refl _) (Nat.le_refl _)) h0 h1) x hx
set_option maxRecDepth 100000 in
def dt_J0_checkIndex_df160 : List (Nat × Instr × Nat) := [(0, .iload_n 0, 1), (1, .iload_n 1, 1), (2, .getstatic 1053, 3), (5, .invokestatic 1059, 3), (8, .pop, 1), (9, .return_, 1)]
set_option maxRecDepth 100000 in
theorem dk_J0_checkIndex_df160 : dt_J0_checkIndex_df160.all (fun q => decide (decode cJ0_checkIndex_df160 q.1 = .ok q.2)) = true := by decide +kernel
set_option maxRecDepth 100000 in
set_option maxHeartbeats 4000000 in
theorem x_J0_checkIndex_df160 {κ : KX} {n : Nat} {x0 x1 : Int32} {M : Mem} (hC : CX κ cJ0_checkIndex_df160 RJ0 2 none 1) (hE : zEnd κ n (0, 0)) (hk0 : zRk κ (0, 0)) (h0 : ¬ x0 < 0) (h1 : x0 < x1) : X κ 2 emV n (0, 0) 0 [.int x0, .int x1] [] M (Option.bind (some (x0, M)) fun z => some z.2) := by
  refine x_iload_n (i := 0) rfl hC (zdk dk_J0_checkIndex_df160 0 rfl) (q := 1) rfl ?_
  refine x_iload_n (i := 1) rfl hC (zdk dk_J0_checkIndex_df160 1 rfl) (q := 2) rfl ?_
  refine x_gfm (zW2 216 rfl rfl) hC (zdk dk_J0_checkIndex_df160 2 rfl) (q := 5) rfl (fun v hv => ?_)
  refine x_callSi (as := [.int x0, .int x1, v]) (cr := some (x0, M)) (show zCB RJ0 1059 yJ3_checkIndex_8e157 cJ3_checkIndex_8e157 3 (some .int) 3 ∧ Cond.static yJ3_checkIndex_8e157 ∈ zTb from ⟨⟨zW2 218 rfl rfl, zW1 15 rfl rfl, zW2 220 rfl rfl, ⟨by decide +kernel, by decide +kernel, by decide +kernel⟩⟩, zW2 219 rfl rfl⟩) rfl (by decide) hk0 (fun x hx => t_J3_checkIndex_8e157 hv h0 h1 x hx) hC (zdk dk_J0_checkIndex_df160 3 rfl) (q := 8) rfl rfl (Nat.le_of_ble_eq_true rfl) (fun z => ?_)
  refine x_pop rfl hC (zdk dk_J0_checkIndex_df160 4 rfl) (q := 9) rfl ?_
  exact x_vret hE hC (zdk dk_J0_checkIndex_df160 5 rfl)
set_option maxRecDepth 100000 in
set_option maxHeartbeats 4000000 in
theorem t_J0_checkIndex_df160 {n : Nat} {x0 x1 : Int32} {M : Mem} (h0 : ¬ x0 < 0) (h1 : x0 < x1) (x : Mem) (hx : (some M : Option Mem) = some x) (l : Launch) (dC : Nat → ClassId) (dI : Nat → Nat → Nat) (b : zSg) : MT l dC dI b yJ0_checkIndex_df160 cJ0_checkIndex_df160 2 none 1 0 0 n n [.int x0, .int x1] M (emV x).1 (emV x).2 :=
  MT.ofX (by decide +kernel) rfl (Nat.le_of_ble_eq_true rfl) (fun κ hC hF _ => x_J0_checkIndex_df160 hC (zEnd_of hF (Nat.le_refl _) (Nat.le_refl _)) (zRk_of hF (Nat.le_refl _) (Nat.le_refl _)) h0 h1) x hx
set_option maxRecDepth 100000 in
def dt_J1_charAt_3b067 : List (Nat × Instr × Nat) := [(0, .iload_n 1, 1), (1, .aload_n 0, 1), (2, .arraylength, 1), (3, .invokestatic 9, 3), (6, .aload_n 0, 1), (7, .iload_n 1, 1), (8, .baload, 1), (9, .sipush 255, 3), (12, .iand, 1), (13, .i2c, 1), (14, .ireturn, 1)]
set_option maxRecDepth 100000 in
theorem dk_J1_charAt_3b067 : dt_J1_charAt_3b067.all (fun q => decide (decode cJ1_charAt_3b067 q.1 = .ok q.2)) = true := by decide +kernel
def zCh (r0 : Nat) (x1 : Int32) : Int32 := ((zSc8 r0 x1.toNatClampNeg &&& 255).toUInt32 % 65536).toInt32
set_option maxRecDepth 100000 in
set_option maxHeartbeats 4000000 in
theorem x_J1_charAt_3b067 {κ : KX} {n r0 : Nat} {x1 : Int32} {M : Mem} (hC : CX κ cJ1_charAt_3b067 RJ1 2 (some .char) 2) (hE : zEnd κ n (0, 0)) (hk0 : zRk κ (0, 0)) (h_r0 : zSt r0) (h0 : ¬ x1 < 0) (h1 : x1 < zSn r0) : X κ 2 emI n (0, 0) 0 [.ref (r0 + 2), .int x1] [] M (Option.bind (some M) fun M1 => some (zCh r0 x1, M1)) := by
  have hin : vp_in x1 (zSl.getD (r0 - 1000000) 0) := by
    obtain ⟨j, hj, rfl⟩ := zSt_i h_r0
    have e : 1000000 + j - 1000000 = j := by omega
    unfold zSn at h1
    rw [e] at h1 ⊢
    have hlt : zSl.getD j 0 < 2 ^ 31 := by
      rcases (show j = 0 ∨ j = 1 by omega) with rfl | rfl <;> decide
    rw [vp_in_iff]
    have h2 := Int32.lt_iff_toInt_lt.mp h1
    rw [show (Int32.ofNat (zSl.getD j 0)).toInt = ((zSl.getD j 0 : Nat) : Int) from nI_toInt hlt] at h2
    have h3 := Int32.not_lt.mp h0
    have h4 := Int32.le_iff_toInt_le.mp h3
    exact ⟨by simpa using h4, h2⟩
  refine x_iload_n (i := 1) rfl hC (zdk dk_J1_charAt_3b067 0 rfl) (q := 1) rfl ?_
  refine x_aload_n (i := 0) rfl hC (zdk dk_J1_charAt_3b067 1 rfl) (q := 2) rfl ?_
  refine x_slen h_r0 hC (zdk dk_J1_charAt_3b067 2 rfl) (q := 3) rfl ?_
  refine x_callSv (as := [.int x1, .int (zSn r0)]) (cr := some M) (show zCB RJ1 9 yJ0_checkIndex_df160 cJ0_checkIndex_df160 2 none 2 ∧ Cond.static yJ0_checkIndex_df160 ∈ zTb from ⟨⟨zW2 213 rfl rfl, zW1 13 rfl rfl, zW2 215 rfl rfl, ⟨by decide +kernel, by decide +kernel, by decide +kernel⟩⟩, zW2 214 rfl rfl⟩) rfl (by decide) hk0 (fun x hx => t_J0_checkIndex_df160 h0 h1 x hx) hC (zdk dk_J1_charAt_3b067 3 rfl) (q := 6) rfl rfl (Nat.le_of_ble_eq_true rfl) (fun M1 => ?_)
  refine x_aload_n (i := 0) rfl hC (zdk dk_J1_charAt_3b067 4 rfl) (q := 7) rfl ?_
  refine x_iload_n (i := 1) rfl hC (zdk dk_J1_charAt_3b067 5 rfl) (q := 8) rfl ?_
  refine x_sbald h_r0 hin hC (zdk dk_J1_charAt_3b067 6 rfl) (q := 9) rfl ?_
  refine x_sipush (i := 255) (v := 255) (by decide) hC (zdk dk_J1_charAt_3b067 7 rfl) (q := 12) rfl ?_
  refine x_iand hC (zdk dk_J1_charAt_3b067 8 rfl) (q := 13) rfl ?_
  refine x_i2c hC (zdk dk_J1_charAt_3b067 9 rfl) (q := 14) rfl ?_
  exact x_iret (ty := .char) (by rw [show ((zSc8 r0 x1.toNatClampNeg &&& 255).toUInt32 % 65536).toInt32 = zSc8 r0 x1.toNatClampNeg &&& 255 from sc_c2 _]; exact sc_nar _) hE hC (zdk dk_J1_charAt_3b067 10 rfl)
set_option maxRecDepth 100000 in
set_option maxHeartbeats 4000000 in
theorem t_J1_charAt_3b067 {n r0 : Nat} {x1 : Int32} {M : Mem} (h_r0 : zSt r0) (h0 : ¬ x1 < 0) (h1 : x1 < zSn r0) (x : Int32 × Mem) (hx : (some (zCh r0 x1, M) : Option (Int32 × Mem)) = some x) (l : Launch) (dC : Nat → ClassId) (dI : Nat → Nat → Nat) (b : zSg) : MT l dC dI b yJ1_charAt_3b067 cJ1_charAt_3b067 2 (some .char) 2 0 0 n n [.ref (r0 + 2), .int x1] M (emI x).1 (emI x).2 :=
  MT.ofX (by decide +kernel) rfl (Nat.le_of_ble_eq_true rfl) (fun κ hC hF _ => x_J1_charAt_3b067 hC (zEnd_of hF (Nat.le_refl _) (Nat.le_refl _)) (zRk_of hF (Nat.le_refl _) (Nat.le_refl _)) h_r0 h0 h1) x hx
set_option maxRecDepth 100000 in
def dt_J0_charAt_5068e : List (Nat × Instr × Nat) := [(0, .aload_n 0, 1), (1, .invokevirtual 492, 3), (4, .ifCond .eq 12, 3), (7, .aload_n 0, 1), (8, .getfield 9, 3), (11, .iload_n 1, 1), (12, .invokestatic 495, 3), (15, .ireturn, 1), (16, .aload_n 0, 1), (17, .getfield 9, 3), (20, .iload_n 1, 1), (21, .invokestatic 498, 3), (24, .ireturn, 1)]
set_option maxRecDepth 100000 in
theorem dk_J0_charAt_5068e : dt_J0_charAt_5068e.all (fun q => decide (decode cJ0_charAt_5068e q.1 = .ok q.2)) = true := by decide +kernel
set_option maxRecDepth 100000 in
def f_J0_charAt_5068e (r0 : Nat) (x1 : Int32) (M : Mem) : Option (Int32 × Mem) := if ¬ x1 < 0 ∧ x1 < zSn r0 then some (zCh r0 x1, M) else none
set_option maxRecDepth 100000 in
set_option maxHeartbeats 4000000 in
theorem x_J0_charAt_5068e {κ : KX} {n r0 : Nat} {x1 : Int32} {M : Mem} (hC : CX κ cJ0_charAt_5068e RJ0 2 (some .char) 3) (hE : zEnd κ n (0, 0)) (hk0 : zRk κ (0, 0)) (h_r0 : zSt r0) : X κ 2 emI n (0, 0) 0 [.ref r0, .int x1] [] M (f_J0_charAt_5068e r0 x1 M) := by
  unfold f_J0_charAt_5068e
  refine x_if (fun hc => ?_)
  refine x_aload_n (i := 0) rfl hC (zdk dk_J0_charAt_5068e 0 rfl) (q := 1) rfl ?_
  have hh : X κ 2 emI n (0, 0) 1 [.ref r0, .int x1] [.ref r0] M (Option.bind (some ((1 : Int32), M)) fun z => some (zCh r0 x1, z.2)) := x_callVSk (as := []) (show zCB RJ0 492 yJ0_isLatin1_aae02 cJ0_isLatin1_aae02 1 (some .boolean) 0 ∧ Cond.instanceMethod yJ0_isLatin1_aae02 ∈ zTb ∧ Cond.selects yJ0_isLatin1_aae02.cls yJ0_isLatin1_aae02 yJ0_isLatin1_aae02 ∈ zTb ∧ yJ0_isLatin1_aae02.cls = "java/lang/String" from ⟨⟨zW2 206 rfl rfl, zW1 13 rfl rfl, zW2 209 rfl rfl, ⟨by decide +kernel, by decide +kernel, by decide +kernel⟩⟩, zW2 207 rfl rfl, zW2 208 rfl rfl, rfl⟩) rfl (by decide) hk0 h_r0 (fun x hx => t_J0_isLatin1_aae02 h_r0 x hx) hC (zdk dk_J0_charAt_5068e 1 rfl) (q := 4) rfl rfl (Nat.le_of_ble_eq_true rfl) (fun z hz => by
    cases hz
    refine x_eqF (tgt := 16) (show ¬ (1 : Int32) = 0 by decide) hC (zdk dk_J0_charAt_5068e 2 rfl) (q := 7) rfl rfl ?_
    refine x_aload_n (i := 0) rfl hC (zdk dk_J0_charAt_5068e 3 rfl) (q := 8) rfl ?_
    refine x_sval h_r0 (zW9 91 rfl rfl) hC (zdk dk_J0_charAt_5068e 4 rfl) (q := 11) rfl ?_
    refine x_iload_n (i := 1) rfl hC (zdk dk_J0_charAt_5068e 5 rfl) (q := 12) rfl ?_
    have h2 : X κ 2 emI n (0, 0) 12 [.ref r0, .int x1] [.int x1, .ref (r0 + 2)] M (Option.bind (some (zCh r0 x1, M)) fun z => some (z.1, z.2)) := x_callS (mc' := 0) (ms' := 0) (emc := emI) (as := [.ref (r0 + 2), .int x1]) (show zCB RJ0 495 yJ1_charAt_3b067 cJ1_charAt_3b067 2 (some .char) 2 ∧ Cond.static yJ1_charAt_3b067 ∈ zTb from ⟨⟨zW2 210 rfl rfl, zW1 14 rfl rfl, zW2 212 rfl rfl, ⟨by decide +kernel, by decide +kernel, by decide +kernel⟩⟩, zW2 211 rfl rfl⟩) rfl (by decide) hk0 (fun x hx => t_J1_charAt_3b067 h_r0 hc.1 hc.2 x hx) hC (zdk dk_J0_charAt_5068e 6 rfl) (q := 15) rfl rfl (Nat.le_of_ble_eq_true rfl) (fun z2 hz2 => by
      cases hz2
      exact x_iret (ty := .char) (by rw [show zCh r0 x1 = zSc8 r0 x1.toNatClampNeg &&& 255 from sc_c2 _]; exact sc_nar _) hE hC (zdk dk_J0_charAt_5068e 7 rfl))
    exact h2)
  exact hh
set_option maxRecDepth 100000 in
set_option maxHeartbeats 4000000 in
theorem t_J0_charAt_5068e {n : Nat} {r0 : Nat} {x1 : Int32} {M : Mem} (h_r0 : zSt r0) (x : Int32 × Mem) (hx : f_J0_charAt_5068e r0 x1 M = some x) (l : Launch) (dC : Nat → ClassId) (dI : Nat → Nat → Nat) (b : zSg) : MT l dC dI b yJ0_charAt_5068e cJ0_charAt_5068e 2 (some .char) 3 0 0 n n [.ref r0, .int x1] M (emI x).1 (emI x).2 :=
  MT.ofX (by decide +kernel) rfl (Nat.le_of_ble_eq_true rfl) (fun κ hC hF _ => x_J0_charAt_5068e hC (zEnd_of hF (Nat.le_refl _) (Nat.le_refl _)) (zRk_of hF (Nat.le_refl _) (Nat.le_refl _)) h_r0) x hx
set_option maxRecDepth 100000 in
theorem cb_RX6_30 : zCB RX6 30 yJ0_length_8abf5 cJ0_length_8abf5 1 (some .int) 0 ∧ Cond.instanceMethod yJ0_length_8abf5 ∈ zTb ∧ Cond.selects yJ0_length_8abf5.cls yJ0_length_8abf5 yJ0_length_8abf5 ∈ zTb ∧ yJ0_length_8abf5.cls = "java/lang/String" := ⟨⟨zW2 192 rfl rfl, zW1 13 rfl rfl, zW2 195 rfl rfl, ⟨by decide +kernel, by decide +kernel, by decide +kernel⟩⟩, zW2 193 rfl rfl, zW2 194 rfl rfl, rfl⟩
set_option maxRecDepth 100000 in
theorem cb_RX6_36 : zCB RX6 36 yJ0_charAt_5068e cJ0_charAt_5068e 2 (some .char) 1 ∧ Cond.instanceMethod yJ0_charAt_5068e ∈ zTb ∧ Cond.selects yJ0_charAt_5068e.cls yJ0_charAt_5068e yJ0_charAt_5068e ∈ zTb ∧ yJ0_charAt_5068e.cls = "java/lang/String" := ⟨⟨zW2 202 rfl rfl, zW1 13 rfl rfl, zW2 205 rfl rfl, ⟨by decide +kernel, by decide +kernel, by decide +kernel⟩⟩, zW2 203 rfl rfl, zW2 204 rfl rfl, rfl⟩
set_option maxRecDepth 100000 in
def dt_X6_listWords : List (Nat × Instr × Nat) := [(0, .iload_n 1, 1), (1, .istore_n 3, 1), (2, .iconst 0, 1), (3, .istore 4, 2), (5, .iconst 0, 1), (6, .istore 5, 2), (8, .iconst 0, 1), (9, .istore 6, 2), (11, .iload 6, 2), (13, .aload_n 0, 1), (14, .invokevirtual 30, 3), (17, .if_icmp .gt 86, 3), (20, .iload 6, 2), (22, .aload_n 0, 1), (23, .invokevirtual 30, 3), (26, .if_icmp .ge 12, 3), (29, .aload_n 0, 1), (30, .iload 6, 2), (32, .invokevirtual 36, 3), (35, .goto 5, 3), (38, .bipush 32, 2), (40, .istore 7, 2), (42, .iload 7, 2), (44, .bipush 32, 2), (46, .if_icmp .eq 23, 3), (49, .iload 4, 2), (51, .iconst 5, 1), (52, .ishl, 1), (53, .iload 7, 2), (55, .bipush 97, 2), (57, .isub, 1), (58, .iconst 1, 1), (59, .iadd, 1), (60, .ior, 1), (61, .istore 4, 2), (63, .iinc 5 1, 3), (66, .goto 31, 3), (69, .iload_n 3, 1), (70, .aload_n 2, 1), (71, .arraylength, 1), (72, .if_icmp .ge 25, 3), (75, .aload_n 2, 1), (76, .iload_n 3, 1), (77, .iload 4, 2), (79, .iconst 5, 1), (80, .bipush 6, 2), (82, .iload 5, 2), (84, .isub, 1), (85, .imul, 1), (86, .ishl, 1), (87, .iastore, 1), (88, .iinc 3 1, 3), (91, .iconst 0, 1), (92, .istore 4, 2), (94, .iconst 0, 1), (95, .istore 5, 2), (97, .iinc 6 1, 3), (100, .goto (-89), 3), (103, .iload_n 3, 1), (104, .ireturn, 1)]
set_option maxRecDepth 100000 in
theorem dk_X6_listWords : dt_X6_listWords.all (fun q => decide (decode cX6_listWords q.1 = .ok q.2)) = true := by decide +kernel
set_option maxRecDepth 100000 in
def f_X6_listWords_97 (k11 : Int32 → Int32 → Int32 → Int32 → Mem → Option (Int32 × Mem)) (r0 : Nat) (x1 : Int32) (r2 : Nat) (x3 : Int32) (x4 : Int32) (x5 : Int32) (x6 : Int32) (M : Mem) : Option (Int32 × Mem) := k11 x3 x4 x5 (x6 + 1) M
set_option maxRecDepth 100000 in
set_option maxHeartbeats 4000000 in
theorem x_X6_listWords_97 {κ : KX} {n : Nat} (hC : CX κ cX6_listWords RX6 8 (some .int) 4) (hE : zEnd κ n (0, 0)) (hk0 : zRk κ (0, 0)) {r0 : Nat} {x1 : Int32} {r2 : Nat} (h_r0 : zSt r0) (h_r2 : zO n r2 20) (k11 : Int32 → Int32 → Int32 → Int32 → Mem → Option (Int32 × Mem)) (hk11 : ∀ (x3 : Int32) (x4 : Int32) (x5 : Int32) (x6 : Int32) (M : Mem), X κ 8 emI n (0, 0) 11 [.ref r0, .null, .ref r2, .int x3, .int x4, .int x5, .int x6, .null] [] M (k11 x3 x4 x5 x6 M)) (x3 : Int32) (x4 : Int32) (x5 : Int32) (x6 : Int32) (M : Mem) : X κ 8 emI n (0, 0) 97 [.ref r0, .null, .ref r2, .int x3, .int x4, .int x5, .int x6, .null] [] M (f_X6_listWords_97 k11 r0 x1 r2 x3 x4 x5 x6 M) := by
  unfold f_X6_listWords_97
  refine x_iinc (i := 6) c_iconst_1 rfl (by decide) (L' := [.ref r0, .null, .ref r2, .int x3, .int x4, .int x5, .int (x6 + 1), .null]) rfl hC (zdk dk_X6_listWords 56 rfl) (q := 100) rfl ?_
  refine x_goto (tgt := 11) hC (zdk dk_X6_listWords 57 rfl) rfl ?_
  refine x_weak (L' := [.ref r0, .null, .ref r2, .int x3, .int x4, .int x5, .int (x6 + 1), .null]) ⟨Or.inr rfl, Or.inl rfl, Or.inr rfl, Or.inr rfl, Or.inr rfl, Or.inr rfl, Or.inr rfl, Or.inl rfl, trivial⟩ ?_
  exact hk11 _ _ _ _ _
set_option maxRecDepth 100000 in
def f_X6_listWords_40 (k11 : Int32 → Int32 → Int32 → Int32 → Mem → Option (Int32 × Mem)) (r0 : Nat) (x1 : Int32) (r2 : Nat) (x3 : Int32) (x4 : Int32) (x5 : Int32) (x6 : Int32) (s0 : Int32) (M : Mem) : Option (Int32 × Mem) := (if s0 = 32 then (if zlen r2 ≤ x3 then f_X6_listWords_97 k11 r0 x1 r2 x3 x4 x5 x6 M else Option.bind (zld r2 x3) fun k1 => Option.bind (some (zsI M r2 k1 (x4 <<< (((5 * (6 - x5) : Int32)) &&& 31)))) fun M2 => f_X6_listWords_97 k11 r0 x1 r2 (x3 + 1) 0 0 x6 M2) else f_X6_listWords_97 k11 r0 x1 r2 x3 ((x4 <<< (5 &&& 31)) ||| ((s0 - 97) + 1)) (x5 + 1) x6 M)
set_option maxRecDepth 100000 in
set_option maxHeartbeats 4000000 in
theorem x_X6_listWords_40 {κ : KX} {n : Nat} (hC : CX κ cX6_listWords RX6 8 (some .int) 4) (hE : zEnd κ n (0, 0)) (hk0 : zRk κ (0, 0)) {r0 : Nat} {x1 : Int32} {r2 : Nat} (h_r0 : zSt r0) (h_r2 : zO n r2 20) (k11 : Int32 → Int32 → Int32 → Int32 → Mem → Option (Int32 × Mem)) (hk11 : ∀ (x3 : Int32) (x4 : Int32) (x5 : Int32) (x6 : Int32) (M : Mem), X κ 8 emI n (0, 0) 11 [.ref r0, .null, .ref r2, .int x3, .int x4, .int x5, .int x6, .null] [] M (k11 x3 x4 x5 x6 M)) (x3 : Int32) (x4 : Int32) (x5 : Int32) (x6 : Int32) (s0 : Int32) (M : Mem) : X κ 8 emI n (0, 0) 40 [.ref r0, .null, .ref r2, .int x3, .int x4, .int x5, .int x6, .null] [.int s0] M (f_X6_listWords_40 k11 r0 x1 r2 x3 x4 x5 x6 s0 M) := by
  unfold f_X6_listWords_40
  refine x_istore (i := 7) (L' := [.ref r0, .null, .ref r2, .int x3, .int x4, .int x5, .int x6, .int s0]) (by decide) rfl hC (zdk dk_X6_listWords 21 rfl) (q := 42) rfl ?_
  refine x_iload (i := 7) rfl hC (zdk dk_X6_listWords 22 rfl) (q := 44) rfl ?_
  refine x_bipush (i := 32) c_bipush_32 hC (zdk dk_X6_listWords 23 rfl) (q := 46) rfl ?_
  refine x_icmp_eq (tgt := 69) hC (zdk dk_X6_listWords 24 rfl) (q := 49) rfl rfl (fun _ => ?_) (fun _ => ?_)
  · refine x_iload_n (i := 3) rfl hC (zdk dk_X6_listWords 37 rfl) (q := 70) rfl ?_
    refine x_aload_n (i := 2) rfl hC (zdk dk_X6_listWords 38 rfl) (q := 71) rfl ?_
    refine x_alen h_r2 (by decide) hC (zdk dk_X6_listWords 39 rfl) (q := 72) rfl ?_
    refine x_icmp_ge (tgt := 97) hC (zdk dk_X6_listWords 40 rfl) (q := 75) rfl rfl (fun _ => ?_) (fun _ => ?_)
    · refine x_weak (L' := [.ref r0, .null, .ref r2, .int x3, .int x4, .int x5, .int x6, .null]) ⟨Or.inr rfl, Or.inl rfl, Or.inr rfl, Or.inr rfl, Or.inr rfl, Or.inr rfl, Or.inr rfl, Or.inl rfl, trivial⟩ ?_
      exact x_X6_listWords_97 hC hE hk0 h_r0 h_r2 k11 hk11 _ _ _ _ _
    · refine x_aload_n (i := 2) rfl hC (zdk dk_X6_listWords 41 rfl) (q := 76) rfl ?_
      refine x_iload_n (i := 3) rfl hC (zdk dk_X6_listWords 42 rfl) (q := 77) rfl ?_
      refine x_iload (i := 4) rfl hC (zdk dk_X6_listWords 43 rfl) (q := 79) rfl ?_
      refine x_iconst (i := 5) c_iconst_5 hC (zdk dk_X6_listWords 44 rfl) (q := 80) rfl ?_
      refine x_bipush (i := 6) c_bipush_6 hC (zdk dk_X6_listWords 45 rfl) (q := 82) rfl ?_
      refine x_iload (i := 5) rfl hC (zdk dk_X6_listWords 46 rfl) (q := 84) rfl ?_
      refine x_isub hC (zdk dk_X6_listWords 47 rfl) (q := 85) rfl ?_
      refine x_imul hC (zdk dk_X6_listWords 48 rfl) (q := 86) rfl ?_
      refine x_ishl hC (zdk dk_X6_listWords 49 rfl) (q := 87) rfl ?_
      refine x_iast h_r2 hC (zdk dk_X6_listWords 50 rfl) (q := 88) rfl (fun k1 _ => ?_)
      refine x_nmM (fun M2 => ?_)
      refine x_iinc (i := 3) c_iconst_1 rfl (by decide) (L' := [.ref r0, .null, .ref r2, .int (x3 + 1), .int x4, .int x5, .int x6, .int s0]) rfl hC (zdk dk_X6_listWords 51 rfl) (q := 91) rfl ?_
      refine x_iconst (i := 0) c_iconst_0 hC (zdk dk_X6_listWords 52 rfl) (q := 92) rfl ?_
      refine x_istore (i := 4) (L' := [.ref r0, .null, .ref r2, .int (x3 + 1), .int 0, .int x5, .int x6, .int s0]) (by decide) rfl hC (zdk dk_X6_listWords 53 rfl) (q := 94) rfl ?_
      refine x_iconst (i := 0) c_iconst_0 hC (zdk dk_X6_listWords 54 rfl) (q := 95) rfl ?_
      refine x_istore (i := 5) (L' := [.ref r0, .null, .ref r2, .int (x3 + 1), .int 0, .int 0, .int x6, .int s0]) (by decide) rfl hC (zdk dk_X6_listWords 55 rfl) (q := 97) rfl ?_
      refine x_weak (L' := [.ref r0, .null, .ref r2, .int (x3 + 1), .int 0, .int 0, .int x6, .null]) ⟨Or.inr rfl, Or.inl rfl, Or.inr rfl, Or.inr rfl, Or.inr rfl, Or.inr rfl, Or.inr rfl, Or.inl rfl, trivial⟩ ?_
      exact x_X6_listWords_97 hC hE hk0 h_r0 h_r2 k11 hk11 _ _ _ _ _
  · refine x_iload (i := 4) rfl hC (zdk dk_X6_listWords 25 rfl) (q := 51) rfl ?_
    refine x_iconst (i := 5) c_iconst_5 hC (zdk dk_X6_listWords 26 rfl) (q := 52) rfl ?_
    refine x_ishl hC (zdk dk_X6_listWords 27 rfl) (q := 53) rfl ?_
    refine x_iload (i := 7) rfl hC (zdk dk_X6_listWords 28 rfl) (q := 55) rfl ?_
    refine x_bipush (i := 97) c_bipush_97 hC (zdk dk_X6_listWords 29 rfl) (q := 57) rfl ?_
    refine x_isub hC (zdk dk_X6_listWords 30 rfl) (q := 58) rfl ?_
    refine x_iconst (i := 1) c_iconst_1 hC (zdk dk_X6_listWords 31 rfl) (q := 59) rfl ?_
    refine x_iadd hC (zdk dk_X6_listWords 32 rfl) (q := 60) rfl ?_
    refine x_ior hC (zdk dk_X6_listWords 33 rfl) (q := 61) rfl ?_
    refine x_istore (i := 4) (L' := [.ref r0, .null, .ref r2, .int x3, .int ((x4 <<< (5 &&& 31)) ||| ((s0 - 97) + 1)), .int x5, .int x6, .int s0]) (by decide) rfl hC (zdk dk_X6_listWords 34 rfl) (q := 63) rfl ?_
    refine x_iinc (i := 5) c_iconst_1 rfl (by decide) (L' := [.ref r0, .null, .ref r2, .int x3, .int ((x4 <<< (5 &&& 31)) ||| ((s0 - 97) + 1)), .int (x5 + 1), .int x6, .int s0]) rfl hC (zdk dk_X6_listWords 35 rfl) (q := 66) rfl ?_
    refine x_goto (tgt := 97) hC (zdk dk_X6_listWords 36 rfl) rfl ?_
    refine x_weak (L' := [.ref r0, .null, .ref r2, .int x3, .int ((x4 <<< (5 &&& 31)) ||| ((s0 - 97) + 1)), .int (x5 + 1), .int x6, .null]) ⟨Or.inr rfl, Or.inl rfl, Or.inr rfl, Or.inr rfl, Or.inr rfl, Or.inr rfl, Or.inr rfl, Or.inl rfl, trivial⟩ ?_
    exact x_X6_listWords_97 hC hE hk0 h_r0 h_r2 k11 hk11 _ _ _ _ _
set_option maxRecDepth 100000 in
def f_X6_listWords_11  (r0 : Nat) (x1 : Int32) (r2 : Nat) : Nat → Int32 → Int32 → Int32 → Int32 → Mem → Option (Int32 × Mem)
  | 0, _, _, _, _, _ => none
  | f + 1, x3, x4, x5, x6, M => Option.bind (f_J0_length_8abf5 r0 M) fun z3 => (if z3.1 < x6 then some (x3, z3.2) else Option.bind (f_J0_length_8abf5 r0 z3.2) fun z4 => (if z4.1 ≤ x6 then f_X6_listWords_40 (f_X6_listWords_11 r0 x1 r2 f) r0 x1 r2 x3 x4 x5 x6 32 z4.2 else Option.bind (f_J0_charAt_5068e r0 x6 z4.2) fun z5 => f_X6_listWords_40 (f_X6_listWords_11 r0 x1 r2 f) r0 x1 r2 x3 x4 x5 x6 z5.1 z5.2))
set_option maxRecDepth 100000 in
set_option maxHeartbeats 4000000 in
theorem x_X6_listWords_11 {κ : KX} {n : Nat} (hC : CX κ cX6_listWords RX6 8 (some .int) 4) (hE : zEnd κ n (0, 0)) (hk0 : zRk κ (0, 0)) {r0 : Nat} {x1 : Int32} {r2 : Nat} (h_r0 : zSt r0) (h_r2 : zO n r2 20) : ∀ (f : Nat) (x3 : Int32) (x4 : Int32) (x5 : Int32) (x6 : Int32) (M : Mem), X κ 8 emI n (0, 0) 11 [.ref r0, .null, .ref r2, .int x3, .int x4, .int x5, .int x6, .null] [] M (f_X6_listWords_11 r0 x1 r2 f x3 x4 x5 x6 M) := by
  intro f
  induction f with
  | zero => intros; exact x_none
  | succ f ih =>
    intro x3 x4 x5 x6 M 
    rw [f_X6_listWords_11]
    refine x_iload (i := 6) rfl hC (zdk dk_X6_listWords 8 rfl) (q := 13) rfl ?_
    refine x_aload_n (i := 0) rfl hC (zdk dk_X6_listWords 9 rfl) (q := 14) rfl ?_
    refine x_callVSi (as := []) cb_RX6_30 rfl (by decide) hk0 h_r0 (fun x hx => t_J0_length_8abf5 h_r0 x hx) hC (zdk dk_X6_listWords 10 rfl) (q := 17) rfl rfl (Nat.le_of_ble_eq_true rfl) (fun z3 => ?_)
    refine x_icmp_gt (tgt := 103) hC (zdk dk_X6_listWords 11 rfl) (q := 20) rfl rfl (fun _ => ?_) (fun _ => ?_)
    · refine x_iload_n (i := 3) rfl hC (zdk dk_X6_listWords 58 rfl) (q := 104) rfl ?_
      exact x_iret (ty := .int) rfl hE hC (zdk dk_X6_listWords 59 rfl)
    · refine x_iload (i := 6) rfl hC (zdk dk_X6_listWords 12 rfl) (q := 22) rfl ?_
      refine x_aload_n (i := 0) rfl hC (zdk dk_X6_listWords 13 rfl) (q := 23) rfl ?_
      refine x_callVSi (as := []) cb_RX6_30 rfl (by decide) hk0 h_r0 (fun x hx => t_J0_length_8abf5 h_r0 x hx) hC (zdk dk_X6_listWords 14 rfl) (q := 26) rfl rfl (Nat.le_of_ble_eq_true rfl) (fun z4 => ?_)
      refine x_icmp_ge (tgt := 38) hC (zdk dk_X6_listWords 15 rfl) (q := 29) rfl rfl (fun _ => ?_) (fun _ => ?_)
      · refine x_bipush (i := 32) c_bipush_32 hC (zdk dk_X6_listWords 20 rfl) (q := 40) rfl ?_
        refine x_weak (L' := [.ref r0, .null, .ref r2, .int x3, .int x4, .int x5, .int x6, .null]) ⟨Or.inr rfl, Or.inl rfl, Or.inr rfl, Or.inr rfl, Or.inr rfl, Or.inr rfl, Or.inr rfl, Or.inl rfl, trivial⟩ ?_
        exact x_X6_listWords_40 hC hE hk0 h_r0 h_r2 (f_X6_listWords_11 r0 x1 r2 f) ih _ _ _ _ _ _
      · refine x_aload_n (i := 0) rfl hC (zdk dk_X6_listWords 16 rfl) (q := 30) rfl ?_
        refine x_iload (i := 6) rfl hC (zdk dk_X6_listWords 17 rfl) (q := 32) rfl ?_
        refine x_callVSi (as := [.int x6]) cb_RX6_36 rfl (by decide) hk0 h_r0 (fun x hx => t_J0_charAt_5068e h_r0 x hx) hC (zdk dk_X6_listWords 18 rfl) (q := 35) rfl rfl (Nat.le_of_ble_eq_true rfl) (fun z5 => ?_)
        refine x_goto (tgt := 40) hC (zdk dk_X6_listWords 19 rfl) rfl ?_
        refine x_weak (L' := [.ref r0, .null, .ref r2, .int x3, .int x4, .int x5, .int x6, .null]) ⟨Or.inr rfl, Or.inl rfl, Or.inr rfl, Or.inr rfl, Or.inr rfl, Or.inr rfl, Or.inr rfl, Or.inl rfl, trivial⟩ ?_
        exact x_X6_listWords_40 hC hE hk0 h_r0 h_r2 (f_X6_listWords_11 r0 x1 r2 f) ih _ _ _ _ _ _
set_option maxRecDepth 100000 in
def f_X6_listWords (r0 : Nat) (x1 : Int32) (r2 : Nat) (M : Mem) : Option (Int32 × Mem) := f_X6_listWords_11 r0 x1 r2 1000000 x1 0 0 0 M
set_option maxRecDepth 100000 in
set_option maxHeartbeats 4000000 in
theorem x_X6_listWords {κ : KX} {n : Nat} (hC : CX κ cX6_listWords RX6 8 (some .int) 4) (hE : zEnd κ n (0, 0)) (hk0 : zRk κ (0, 0)) (r0 : Nat) (x1 : Int32) (r2 : Nat) (M : Mem) (h_r0 : zSt r0) (h_r2 : zO n r2 20) : X κ 8 emI n (0, 0) 0 [.ref r0, .int x1, .ref r2, .null, .null, .null, .null, .null] [] M (f_X6_listWords r0 x1 r2 M) := by
  unfold f_X6_listWords
  refine x_iload_n (i := 1) rfl hC (zdk dk_X6_listWords 0 rfl) (q := 1) rfl ?_
  refine x_istore_n (i := 3) (L' := [.ref r0, .int x1, .ref r2, .int x1, .null, .null, .null, .null]) (by decide) rfl hC (zdk dk_X6_listWords 1 rfl) (q := 2) rfl ?_
  refine x_iconst (i := 0) c_iconst_0 hC (zdk dk_X6_listWords 2 rfl) (q := 3) rfl ?_
  refine x_istore (i := 4) (L' := [.ref r0, .int x1, .ref r2, .int x1, .int 0, .null, .null, .null]) (by decide) rfl hC (zdk dk_X6_listWords 3 rfl) (q := 5) rfl ?_
  refine x_iconst (i := 0) c_iconst_0 hC (zdk dk_X6_listWords 4 rfl) (q := 6) rfl ?_
  refine x_istore (i := 5) (L' := [.ref r0, .int x1, .ref r2, .int x1, .int 0, .int 0, .null, .null]) (by decide) rfl hC (zdk dk_X6_listWords 5 rfl) (q := 8) rfl ?_
  refine x_iconst (i := 0) c_iconst_0 hC (zdk dk_X6_listWords 6 rfl) (q := 9) rfl ?_
  refine x_istore (i := 6) (L' := [.ref r0, .int x1, .ref r2, .int x1, .int 0, .int 0, .int 0, .null]) (by decide) rfl hC (zdk dk_X6_listWords 7 rfl) (q := 11) rfl ?_
  refine x_weak (L' := [.ref r0, .null, .ref r2, .int x1, .int 0, .int 0, .int 0, .null]) ⟨Or.inr rfl, Or.inl rfl, Or.inr rfl, Or.inr rfl, Or.inr rfl, Or.inr rfl, Or.inr rfl, Or.inl rfl, trivial⟩ ?_
  exact x_X6_listWords_11 hC hE hk0 h_r0 h_r2 _ _ _ _ _ _
set_option maxRecDepth 100000 in
set_option maxHeartbeats 4000000 in
theorem t_X6_listWords {n : Nat} {r0 : Nat} {x1 : Int32} {r2 : Nat} {M : Mem} (h_r0 : zSt r0) (h_r2 : zO n r2 20) (x : (Int32 × Mem)) (hx : f_X6_listWords r0 x1 r2 M = some x) (l : Launch) (dC : Nat → ClassId) (dI : Nat → Nat → Nat) (b : zSg) : MT l dC dI b yX6_listWords cX6_listWords 8 (some .int) 4 0 0 n n [.ref r0, .int x1, .ref r2] M (emI x).1 (emI x).2 :=
  MT.ofX (by decide +kernel) rfl (Nat.le_of_ble_eq_true rfl) (fun κ hC hF _ => x_X6_listWords hC (zEnd_of hF (Nat.le_refl _) (Nat.le_refl _)) (zRk_of hF (Nat.le_refl _) (Nat.le_refl _)) _ _ _ _ h_r0 h_r2) x hx
