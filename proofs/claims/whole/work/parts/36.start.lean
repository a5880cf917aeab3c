/-! THE CLAIM OUT OF ONE WALK OF THE LAW'S BODY. Your part is whole_start (and what it stands on); all else here is the same for every law, but numbers. -/
def R_law : String := "FlashPagesLaw"
def lw_P (b : Addr) (xs : List Int32) (args : Array Value) (s : State) : Prop := args = #[.ref b] ∧ s.IntsAt b xs ∧ xs.length ≤ 3072 ∧ (Jvm.Cond.and given_1 narrow_1).before args s = true
def lw_Q (_ : Array Value) (s : State) (o : Outcome) (t : State) : Prop := o = .returned (some (.int 1)) ∧ Framed s o t [] 600000 7302250
def lw_Z (below : List Frame) (a : Array Value) (s : State) : State → Prop := fun t => ∃ o, t.status = .running ∧ Ended t below o ∧ lw_Q a s o t
/-- the law's own end, with 1 on the stack, nothing written that was there before, its room as the claim has it -/
theorem lw_ret {p : Program} {l : Launch} {e : Env} {s : State} {m : MethodId} {below : List Frame} {meth : Method} {c : Code} {b : Nat} (hx : p.tables.exec = Jvm.exec) (hb : c.code = code) (hr : meth.sig.returnType = ret) (hlocks : meth.locks = false) {pc : Nat} {H : Heap} {ls : Array Slot} (hdg : decode code pc = .ok (.ireturn, 1)) : W p l e room_1 s m #[Value.ref b] below meth c H [] 600000 7302250 (lw_Z below #[Value.ref b] s) (F0 m pc ls [.int 1]) := by
  intro T hT X
  obtain ⟨fs, hret, hrun, hended, hW, hframe⟩ := X.leave (v := some (.int 1)) (hlocks := hlocks) (fun h => by rw [hr] at h; cases h)
  have hmeth' : T.vm.method? m = some meth := X.method'
  refine ⟨T.setFrames fs, ?_, .returned (some (.int 1)), hrun, hended, rfl, ⟨_, rfl⟩, hW, hframe⟩
  jvm_step X.here [X.here.top, hx, hb, hdg, hmeth', hr, ret, narrow_b1]
  (try refine ⟨rfl, ?_⟩); (try refine ⟨rfl, ?_⟩)
  first | (intro acts; rw [hret _ acts rfl rfl rfl]) | rw [hret _ _ rfl rfl rfl]
  exact Steps.refl _
/-- what holds at the law's entry: the machine, the code, the tables' words (any of lw_tbl by 'hts w (by decide +kernel)'), the script of L ints xs at the cell b, what the Statement gives of the start (any of its parts by flat_of_before) -/
def lw_At (p : Program) (s : State) (m : MethodId) (meth : Method) (c : Code) (b L : Nat) (xs : Nat → Int32) : Prop :=
  p.tables.exec = Jvm.exec ∧ c.code = code ∧ meth.sig.returnType = ret ∧ c.maxLocals = 4 ∧ s.vm.findClass R_law = some m.cls ∧ (∀ w ∈ lw_tbl, w.before #[Value.ref b] s = true) ∧ va_X b L xs s s.heap ∧ b < s.heap.size ∧ meth.locks = false ∧ (Jvm.Cond.and given_1 narrow_1).before #[Value.ref b] s = true
def zM0 : Mem := (fun _ _ => 0, fun _ _ => 0, fun _ _ => 0)
def zTm (i : Nat) : Term := Term.string "FlashPages$Parser" (if i = 0 then 22 else 28)
def zEl (i : Nat) : Bool := (List.range (zSl.getD i 0)).all fun j => decide ((Cond.eq (.elem (.field (zTm i) "java/lang/String" "value" "[B") (.int (Int32.ofNat j))) (.int ((zSb.getD i []).getD j 0))) ∈ flatC (Jvm.Cond.and given_1 narrow_1))
theorem zEl_0 : zEl 0 = true := by decide +kernel
theorem zEl_1 : zEl 1 = true := by decide +kernel
set_option maxHeartbeats 8000000 in
set_option maxRecDepth 100000 in
/-- the claim's walk out of what the functions of the law answer -/
theorem whole_open (hpure : ∀ (xs : Nat → Int32) (sl : Nat), sl ≤ 3072 → ∃ M', f_L_law xs sl zM0 = some (1, M')) {p : Program} {e : Env} {s : State} {m : MethodId} {below : List Frame} {meth : Method} {c : Code} (l : Launch) {b L : Nat} {xs : Nat → Int32} (hL : L ≤ 3072) (C0 : lw_At p s m meth c b L xs) : W p l e room_1 s m #[Value.ref b] below meth c s.heap [] 0 0 (lw_Z below #[Value.ref b] s) (entryFrame m ([Value.ref b] : List Value).toArray 4) := by
  obtain ⟨M', hM'⟩ := hpure xs L hL
  obtain ⟨hx, hb, hr, hml, hown, hts, hX, hbl, hlocks, hgv⟩ := C0
  have hts2 : ∀ w ∈ zTb, w.before #[Value.ref b] s = true := fun w hw => hts w (List.mem_filter.mp hw).1
  have hfl := flat_of_before _ hgv
  have hA0 : ∀ a : Nat, a < s.heap.size → ¬ s.heap.size ≤ a := fun a h => Nat.not_le.mpr h
  obtain ⟨adK, adV, hS, hev⟩ := vk_Sof (args := #[Value.ref b]) (s := s) (N := 2) (tm := zTm) (len := zSl) (byt := zSb) (A := fun q => s.heap.size ≤ q)
    (fun i hi => by rcases (show i = 0 ∨ i = 1 by omega) with rfl | rfl <;> decide)
    (fun i hi => by rcases (show i = 0 ∨ i = 1 by omega) with rfl | rfl <;> exact hfl _ (by decide +kernel))
    (fun i hi => by rcases (show i = 0 ∨ i = 1 by omega) with rfl | rfl <;> exact hfl _ (by decide +kernel))
    (fun i hi => by rcases (show i = 0 ∨ i = 1 by omega) with rfl | rfl <;> exact hfl _ (by decide +kernel))
    (fun i hi => by rcases (show i = 0 ∨ i = 1 by omega) with rfl | rfl <;> exact hfl _ (by decide +kernel))
    (fun i hi j hj => by
      rcases (show i = 0 ∨ i = 1 by omega) with rfl | rfl
      · exact hfl _ (of_decide_eq_true (List.all_eq_true.mp zEl_0 j (List.mem_range.mpr hj)))
      · exact hfl _ (of_decide_eq_true (List.all_eq_true.mp zEl_1 j (List.mem_range.mpr hj))))
    (fun i j hi hj hij => by
      rcases (show (i = 0 ∧ j = 1) ∨ (i = 1 ∧ j = 0) by omega) with ⟨rfl, rfl⟩ | ⟨rfl, rfl⟩
      · first | exact Or.inl (hfl _ (by decide +kernel)) | exact Or.inr (hfl _ (by decide +kernel))
      · first | exact Or.inl (hfl _ (by decide +kernel)) | exact Or.inr (hfl _ (by decide +kernel)))
    hA0
  have hZ1 : va_Z "java/lang/String" "COMPACT_STRINGS" "Z" (.int 1) (fun q => s.heap.size ≤ q) s s.heap := va_Zof (hts _ (List.mem_append_right _ (List.mem_of_getElem? (i := 441) (by decide +kernel)))) (hts _ (List.mem_append_right _ (List.mem_of_getElem? (i := 13) (by decide +kernel)))) (va_eqi (hfl _ (by decide +kernel))) hA0
  have hZ2 : va_Zq "jdk/internal/util/Preconditions" "SIOOBE_FORMATTER" "Ljava/util/function/BiFunction;" (fun q => s.heap.size ≤ q) s s.heap := va_Zqof (hts _ (List.mem_append_right _ (List.mem_of_getElem? (i := 457) (by decide +kernel)))) (hts _ (List.mem_append_right _ (List.mem_of_getElem? (i := 15) (by decide +kernel)))) (hfl _ (by decide +kernel)) hA0
  obtain ⟨fm, hfm⟩ : ∃ fm : Nat, va_Z "jdk/internal/util/Preconditions" "SIOOBE_FORMATTER" "Ljava/util/function/BiFunction;" .null (fun q => s.heap.size ≤ q) s s.heap ∨ va_Z "jdk/internal/util/Preconditions" "SIOOBE_FORMATTER" "Ljava/util/function/BiFunction;" (.ref fm) (fun q => s.heap.size ≤ q) s s.heap := by
    rcases hZ2 with h | ⟨t, h⟩
    · exact ⟨0, Or.inl h⟩
    · exact ⟨t, Or.inr h⟩
  obtain ⟨c0, iS0, hKn0⟩ := u_known (C := RX0) (T := TX0) (N := 15) (n := 15) hts2 zinX0 (hts2 (.instantiable RX0 15) (zW2 32 rfl rfl))
  obtain ⟨c1, iS1, hKn1⟩ := u_known (C := RX1) (T := TX1) (N := 13) (n := 13) hts2 zinX1 (hts2 (.instantiable RX1 13) (zW2 38 rfl rfl))
  obtain ⟨c2, iS2, hKn2⟩ := u_known (C := RX2) (T := TX2) (N := 10) (n := 10) hts2 zinX2 (hts2 (.instantiable RX2 10) (zW1 48 rfl rfl))
  obtain ⟨c3, iS3, hKn3⟩ := u_known (C := RX3) (T := TX3) (N := 8) (n := 8) hts2 zinX3 (hts2 (.instantiable RX3 8) (zW1 93 rfl rfl))
  obtain ⟨c4, iS4, hKn4⟩ := u_known (C := RX4) (T := TX4) (N := 2) (n := 2) hts2 zinX4 (hts2 (.instantiable RX4 2) (zW2 17 rfl rfl))
  obtain ⟨c5, iS5, hKn5⟩ := u_known (C := RX5) (T := TX5) (N := 2) (n := 2) hts2 zinX5 (hts2 (.instantiable RX5 2) (zW1 130 rfl rfl))
  obtain ⟨c6, iS6, hKn6⟩ := u_known (C := RX6) (T := TX6) (N := 13) (n := 13) hts2 zinX6 (hts2 (.instantiable RX6 13) (zW2 183 rfl rfl))
  obtain ⟨c7, iS7, hKn7⟩ := u_known (C := RX7) (T := TX7) (N := 6) (n := 6) hts2 zinX7 (hts2 (.instantiable RX7 6) (zW1 189 rfl rfl))
  obtain ⟨c8, iS8, hKn8⟩ := u_known (C := RX8) (T := TX8) (N := 5) (n := 5) hts2 zinX8 (hts2 (.instantiable RX8 5) (zW1 137 rfl rfl))
  obtain ⟨c9, iS9, hKn9⟩ := u_known (C := RX9) (T := TX9) (N := 9) (n := 9) hts2 zinX9 (hts2 (.instantiable RX9 9) (zW1 218 rfl rfl))
  obtain ⟨c10, iS10, hKn10⟩ := u_known (C := RX10) (T := TX10) (N := 3) (n := 3) hts2 zinX10 (hts2 (.instantiable RX10 3) (zW1 31 rfl rfl))
  obtain ⟨c11, iS11, hKn11⟩ := u_known (C := RX11) (T := TX11) (N := 17) (n := 17) hts2 zinX11 (hts2 (.instantiable RX11 17) (zW1 23 rfl rfl))
  obtain ⟨c12, iS12, hKn12⟩ := u_known (C := RX12) (T := TX12) (N := 76) (n := 76) hts2 zinX12 (hts2 (.instantiable RX12 76) (zW6 61 rfl rfl))
  obtain ⟨dC, dI, hKc⟩ : ∃ (dC : Nat → ClassId) (dI : Nat → Nat → Nat), ∀ (k : Nat) (q : vw_C), zCl[k]? = some q → u_Kn s q.1 q.2.1 q.2.2 (dC k) (dI k) := by
    refine ⟨fun k => if k = 0 then c0 else if k = 1 then c1 else if k = 2 then c2 else if k = 3 then c3 else if k = 4 then c4 else if k = 5 then c5 else if k = 6 then c6 else if k = 7 then c7 else if k = 8 then c8 else if k = 9 then c9 else if k = 10 then c10 else if k = 11 then c11 else c12, fun k => if k = 0 then iS0 else if k = 1 then iS1 else if k = 2 then iS2 else if k = 3 then iS3 else if k = 4 then iS4 else if k = 5 then iS5 else if k = 6 then iS6 else if k = 7 then iS7 else if k = 8 then iS8 else if k = 9 then iS9 else if k = 10 then iS10 else if k = 11 then iS11 else iS12, ?_⟩
    intro k q hq
    match k, hq with
    | 0, hq => cases hq; exact hKn0
    | 1, hq => cases hq; exact hKn1
    | 2, hq => cases hq; exact hKn2
    | 3, hq => cases hq; exact hKn3
    | 4, hq => cases hq; exact hKn4
    | 5, hq => cases hq; exact hKn5
    | 6, hq => cases hq; exact hKn6
    | 7, hq => cases hq; exact hKn7
    | 8, hq => cases hq; exact hKn8
    | 9, hq => cases hq; exact hKn9
    | 10, hq => cases hq; exact hKn10
    | 11, hq => cases hq; exact hKn11
    | 12, hq => cases hq; exact hKn12
    | k + 13, hq => simp [zCl] at hq
  have hK : va_K (dC, dI) zCl [] s := ⟨hKc, fun k q h => by simp at h⟩
  obtain ⟨sg, hsg⟩ : ∃ sg : Nat → Nat, sg = fun q => if q = 1000005 then b else if q = 1000004 then fm else if q < 1000002 then adK (q - 1000000) else adV (q - 1000002) := ⟨_, rfl⟩
  have hAm : zAm (s.heap.size, sg) s := by
    have e0 : ∀ i, i < 2 → sg (1000000 + i) = adK i := fun i hi => by
      rw [hsg]; simp only []
      rw [if_neg (by omega), if_neg (by omega), if_pos (by omega), show 1000000 + i - 1000000 = i by omega]
    have e1 : ∀ i, i < 2 → sg (1000002 + i) = adV i := fun i hi => by
      rw [hsg]; simp only []
      rw [if_neg (by omega), if_neg (by omega), if_neg (by omega), show 1000002 + i - 1000002 = i by omega]
    have e2 : sg 1000004 = fm := by rw [hsg]; rfl
    refine ⟨⟨fun i hi => ?_, fun i j hi hj h => ?_⟩, ⟨?_, ?_⟩, hZ1, ?_⟩
    · have := hS.1 i hi
      simp only []
      rw [e0 i hi, e1 i hi]
      exact this
    · simp only [] at h
      rw [e0 i hi, e0 j hj] at h
      exact hS.2 i j hi hj h
    · have h := hev 0 (by decide)
      show vk_R _ _ _ (sg 1000000) s
      rw [show sg 1000000 = adK 0 from e0 0 (by decide)]
      exact vk_R.of (hts _ (List.mem_append_right _ (List.mem_of_getElem? (i := 428) (by decide +kernel)))) h
    · have h := hev 1 (by decide)
      show vk_R _ _ _ (sg 1000001) s
      rw [show sg 1000001 = adK 1 from e0 1 (by decide)]
      exact vk_R.of (hts _ (List.mem_append_right _ (List.mem_of_getElem? (i := 480) (by decide +kernel)))) h
    · show _ ∨ va_Z _ _ _ (.ref (sg 1000004)) _ _ _
      rw [e2]; exact hfm
  have hNs : ∀ w ∈ zNs, va_Nw w s := fun w hw => by
    have h1 := hts w (zNs_in w hw)
    obtain ⟨a, i, x, h0, rfl⟩ := zNs_form w hw
    exact va_Nw.of rfl h1
  have e5 : sg 1000005 = b := by rw [hsg]; rfl
  have hC : CX (p, l, e, room_1, s, m, #[Value.ref b], below, meth, c, dC, dI, (s.heap.size, sg), 600000, 7302250, 395) cL_law RL 4 (some .boolean) 128 := ⟨hx, hb, hml, hown, hts2, hr, hlocks, hK, ⟨Nat.le_of_ble_eq_true rfl, Nat.le_of_ble_eq_true rfl, rfl, rfl⟩, hNs, hAm⟩
  have hsc : zScr (p, l, e, room_1, s, m, #[Value.ref b], below, meth, c, dC, dI, (s.heap.size, sg), 600000, 7302250, 395) xs L := ⟨by show va_X (sg 1000005) L xs s s.heap; rw [e5]; exact hX, by show sg 1000005 < s.heap.size; rw [e5]; exact hbl, Nat.le_refl _⟩
  have hAO : zAO s := ⟨va_AO.of (hts _ (List.mem_append_right _ (List.mem_of_getElem? (i := 136) (by decide +kernel)))), va_AO.of (hts _ (List.mem_append_right _ (List.mem_of_getElem? (i := 195) (by decide +kernel))))⟩
  have hgo := x_L_law hC ⟨rfl, Nat.le_of_ble_eq_true rfl, Nat.le_of_ble_eq_true rfl⟩ ⟨Nat.le_of_ble_eq_true rfl, Nat.le_of_ble_eq_true rfl⟩ hAO hsc zM0 (1, M') hM' s.heap []
  have hl := lv_entry ([Value.ref b]) (n := 4) (Nat.le_of_ble_eq_true rfl)
  rw [lg_entry_eq]
  have hg := hgo (lg_sl ([Value.ref b]) ++ List.replicate (4 - (lg_sl ([Value.ref b])).length) Slot.unset).toArray ⟨⟨rfl, Nat.zero_le _, fun a ha => absurd ha (Nat.not_lt_zero _), fun a ha => absurd ha (Nat.not_lt_zero _)⟩, fun q hq => absurd hq List.not_mem_nil, Nat.le_refl _, Nat.le_refl _, fun _ _ => rfl⟩ ⟨hl.1, hl.2.1, fun i v hi hv => by
    match i, hi with
    | 0, hi =>
      cases hi
      show _ = some (Slot.val (Value.ref (zad (s.heap.size, sg) 1000005)))
      rw [zad_hi (by omega)]
      show _ = some (Slot.val (Value.ref (sg 1000005)))
      rw [e5]
      exact hl.2.2 (0, .ref b) List.mem_cons_self
    | 1, hi => cases hi; exact absurd rfl hv
    | 2, hi => cases hi; exact absurd rfl hv
    | 3, hi => cases hi; exact absurd rfl hv
    | k + 4, hi => simp at hi⟩
  intro T hT X0
  obtain ⟨t, h1, o, h2, h3, ⟨h4, -, -, -⟩, L2, ⟨h5, h6, h7⟩, h8⟩ := hg T hT X0
  refine ⟨t, h1, o, h2, h3, h4, h5, h6, ?_⟩
  exact h7.weaken (fun y hy hlt => absurd (h8 y hy) (Nat.not_le.mpr hlt)) (Nat.le_refl _) (Nat.le_refl _)
