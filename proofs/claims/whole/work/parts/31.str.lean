/-! the parser's two texts: String's own methods on them -/
def zSt (r : Nat) : Prop := r = 1000000 ∨ r = 1000001
def zSn (r : Nat) : Int32 := Int32.ofNat (zSl.getD (r - 1000000) 0)
def zSc8 (r k : Nat) : Int32 := (zSb.getD (r - 1000000) []).getD k 0
theorem zad_hi {b : zSg} {q : Nat} (h : ¬ q < 1000000) : zad b q = b.2 q := if_neg h
section
variable {α : Type} {κ : KX} {nL : Nat} {em : α → Option Value × Mem} {n : Nat} {cs : Nat × Nat} {pc q : Nat} {L st : List Value} {M : Mem} {res : Option α} {cc : ByteArray} {own : String} {ret : Option FieldType} {d : Nat}
theorem zSS {b : zSg} {s : State} {H : Heap} {locs : List Loc} (hlo : ∀ q ∈ locs, b.1 ≤ q.base) (hmo : s.heap.size ≤ H.size) (hfr : ∀ q, q < b.1 → H[q]? = s.heap[q]?) : va_S (fun q => b.1 ≤ q) s.heap H locs := ⟨hmo, fun q _ h => hfr q (Nat.not_le.mp h), hlo⟩
theorem x_sldc0 (hC : CX κ cc "FlashPages$Parser" nL ret d) (hd : decode cc pc = .ok (.ldc 22, 2)) (hq : pc + 2 = q) (k : X κ nL em n cs q L (.ref 1000000 :: st) M res) : X κ nL em n cs pc L st M res := by
  subst hq
  obtain ⟨p, l, e, R, s, m, args, below, meth, c, dC, dI, b, mc, ms, n'⟩ := κ
  obtain ⟨hx, hb, hml, hown, hts, hr, hlk, hK, hR, hNs, hAm⟩ := hC
  intro r hr0 H locs ls h2 hl
  have hg := k r hr0 H locs ls h2 hl
  exact va_ldcS hx hb hown hAm.2.1.1 hd hg
theorem x_sldc1 (hC : CX κ cc "FlashPages$Parser" nL ret d) (hd : decode cc pc = .ok (.ldc 28, 2)) (hq : pc + 2 = q) (k : X κ nL em n cs q L (.ref 1000001 :: st) M res) : X κ nL em n cs pc L st M res := by
  subst hq
  obtain ⟨p, l, e, R, s, m, args, below, meth, c, dC, dI, b, mc, ms, n'⟩ := κ
  obtain ⟨hx, hb, hml, hown, hts, hr, hlk, hK, hR, hNs, hAm⟩ := hC
  intro r hr0 H locs ls h2 hl
  have hg := k r hr0 H locs ls h2 hl
  exact va_ldcS hx hb hown hAm.2.1.2 hd hg
theorem zSt_i {r : Nat} (h : zSt r) : ∃ i, i < 2 ∧ r = 1000000 + i := by
  rcases h with h | h
  · exact ⟨0, by decide, h⟩
  · exact ⟨1, by decide, h⟩
theorem x_sval {i r0 : Nat} (hr0 : zSt r0) (hw : Cond.fieldLink own i "java/lang/String" "value" "[B" ∈ zTb) (hC : CX κ cc own nL ret d) (hd : decode cc pc = .ok (.getfield i, 3)) (hq : pc + 3 = q) (k : X κ nL em n cs q L (.ref (r0 + 2) :: st) M res) : X κ nL em n cs pc L (.ref r0 :: st) M res := by
  subst hq
  obtain ⟨p, l, e, R, s, m, args, below, meth, c, dC, dI, b, mc, ms, n'⟩ := κ
  obtain ⟨hx, hb, hml, hown, hts, hr, hlk, hK, hR, hNs, hAm⟩ := hC
  intro r hr1 H locs ls h2 hl
  have hg := k r hr1 H locs ls h2 hl
  obtain ⟨hRL, hlo, hmo, hb0, hfr⟩ := h2
  obtain ⟨j, hj, rfl⟩ := zSt_i hr0
  have hg : W p l e R s m args below meth c H locs cs.1 cs.2 _ (F0 m (pc + 3) ls (.ref (zad b (1000000 + j + 2)) :: st.map (zrv b))) := hg
  rw [zad_hi (by omega), show 1000000 + j + 2 = 1000002 + j by omega] at hg
  show W p l e R s m args below meth c H locs cs.1 cs.2 _ (F0 m pc ls (.ref (zad b (1000000 + j)) :: st.map (zrv b)))
  rw [zad_hi (by omega)]
  exact vk_getf hx hb (hAm.1.1 j hj).2.2.1 (zSS hlo hmo hfr) hown (hts _ hw) (fun _ h => h) hd hg
theorem x_scod {i r0 : Nat} (hr0 : zSt r0) (hw : Cond.fieldLink own i "java/lang/String" "coder" "B" ∈ zTb) (hC : CX κ cc own nL ret d) (hd : decode cc pc = .ok (.getfield i, 3)) (hq : pc + 3 = q) (k : X κ nL em n cs q L (.int 0 :: st) M res) : X κ nL em n cs pc L (.ref r0 :: st) M res := by
  subst hq
  obtain ⟨p, l, e, R, s, m, args, below, meth, c, dC, dI, b, mc, ms, n'⟩ := κ
  obtain ⟨hx, hb, hml, hown, hts, hr, hlk, hK, hR, hNs, hAm⟩ := hC
  intro r hr1 H locs ls h2 hl
  have hg := k r hr1 H locs ls h2 hl
  obtain ⟨hRL, hlo, hmo, hb0, hfr⟩ := h2
  obtain ⟨j, hj, rfl⟩ := zSt_i hr0
  show W p l e R s m args below meth c H locs cs.1 cs.2 _ (F0 m pc ls (.ref (zad b (1000000 + j)) :: st.map (zrv b)))
  rw [zad_hi (by omega)]
  exact vk_getf hx hb (hAm.1.1 j hj).2.1 (zSS hlo hmo hfr) hown (hts _ hw) (fun _ h => h) hd hg
theorem x_slen {r0 : Nat} (hr0 : zSt r0) (hC : CX κ cc own nL ret d) (hd : decode cc pc = .ok (.arraylength, 1)) (hq : pc + 1 = q) (k : X κ nL em n cs q L (.int (zSn r0) :: st) M res) : X κ nL em n cs pc L (.ref (r0 + 2) :: st) M res := by
  subst hq
  obtain ⟨p, l, e, R, s, m, args, below, meth, c, dC, dI, b, mc, ms, n'⟩ := κ
  obtain ⟨hx, hb, hml, hown, hts, hr, hlk, hK, hR, hNs, hAm⟩ := hC
  intro r hr1 H locs ls h2 hl
  have hg := k r hr1 H locs ls h2 hl
  obtain ⟨hRL, hlo, hmo, hb0, hfr⟩ := h2
  obtain ⟨j, hj, rfl⟩ := zSt_i hr0
  show W p l e R s m args below meth c H locs cs.1 cs.2 _ (F0 m pc ls (.ref (zad b (1000000 + j + 2)) :: st.map (zrv b)))
  rw [zad_hi (by omega), show 1000000 + j + 2 = 1000002 + j by omega]
  have e1 : zSn (1000000 + j) = Int32.ofNat (zSl.getD j 0) := by unfold zSn; rw [show 1000000 + j - 1000000 = j by omega]
  have hg : W p l e R s m args below meth c H locs cs.1 cs.2 _ (F0 m (pc + 1) ls (.int (zSn (1000000 + j)) :: st.map (zrv b))) := hg
  rw [e1] at hg
  exact va_tlen hx hb (hAm.1.1 j hj).2.2.2 (zSS hlo hmo hfr) rfl hd hg
theorem x_sbald {r0 : Nat} {i : Int32} (hr0 : zSt r0) (hin : vp_in i (zSl.getD (r0 - 1000000) 0)) (hC : CX κ cc own nL ret d) (hd : decode cc pc = .ok (.baload, 1)) (hq : pc + 1 = q) (k : X κ nL em n cs q L (.int (zSc8 r0 i.toNatClampNeg) :: st) M res) : X κ nL em n cs pc L (.int i :: .ref (r0 + 2) :: st) M res := by
  subst hq
  obtain ⟨p, l, e, R, s, m, args, below, meth, c, dC, dI, b, mc, ms, n'⟩ := κ
  obtain ⟨hx, hb, hml, hown, hts, hr, hlk, hK, hR, hNs, hAm⟩ := hC
  intro r hr1 H locs ls h2 hl
  have hg := k r hr1 H locs ls h2 hl
  obtain ⟨hRL, hlo, hmo, hb0, hfr⟩ := h2
  obtain ⟨j, hj, rfl⟩ := zSt_i hr0
  show W p l e R s m args below meth c H locs cs.1 cs.2 _ (F0 m pc ls (.int i :: .ref (zad b (1000000 + j + 2)) :: st.map (zrv b)))
  rw [zad_hi (by omega), show 1000000 + j + 2 = 1000002 + j by omega]
  have e0 : 1000000 + j - 1000000 = j := by omega
  rw [e0] at hin
  have e1 : zSc8 (1000000 + j) i.toNatClampNeg = (zSb.getD j []).getD i.toNatClampNeg 0 := by unfold zSc8; rw [e0]
  have hg : W p l e R s m args below meth c H locs cs.1 cs.2 _ (F0 m (pc + 1) ls (.int (zSc8 (1000000 + j) i.toNatClampNeg) :: st.map (zrv b))) := hg
  rw [e1] at hg
  exact va_tb hx hb (hAm.1.1 j hj).2.2.2 (zSS hlo hmo hfr) hin rfl hd hg
theorem x_gcs {i : Nat} (hw : Cond.fieldLink own i "java/lang/String" "COMPACT_STRINGS" "Z" ∈ zTb) (hC : CX κ cc own nL ret d) (hd : decode cc pc = .ok (.getstatic i, 3)) (hq : pc + 3 = q) (k : X κ nL em n cs q L (.int 1 :: st) M res) : X κ nL em n cs pc L st M res := by
  subst hq
  obtain ⟨p, l, e, R, s, m, args, below, meth, c, dC, dI, b, mc, ms, n'⟩ := κ
  obtain ⟨hx, hb, hml, hown, hts, hr, hlk, hK, hR, hNs, hAm⟩ := hC
  intro r hr1 H locs ls h2 hl
  have hg := k r hr1 H locs ls h2 hl
  obtain ⟨hRL, hlo, hmo, hb0, hfr⟩ := h2
  exact va_gets hx hb hAm.2.2.1 (zSS hlo hmo hfr) hown (hts _ hw) (fun _ h => h) hd hg
theorem x_gfm {i : Nat} (hw : Cond.fieldLink own i "jdk/internal/util/Preconditions" "SIOOBE_FORMATTER" "Ljava/util/function/BiFunction;" ∈ zTb) (hC : CX κ cc own nL ret d) (hd : decode cc pc = .ok (.getstatic i, 3)) (hq : pc + 3 = q) (k : ∀ v, (v = .null ∨ v = .ref 1000004) → X κ nL em n cs q L (v :: st) M res) : X κ nL em n cs pc L st M res := by
  subst hq
  obtain ⟨p, l, e, R, s, m, args, below, meth, c, dC, dI, b, mc, ms, n'⟩ := κ
  obtain ⟨hx, hb, hml, hown, hts, hr, hlk, hK, hR, hNs, hAm⟩ := hC
  intro r hr1 H locs ls h2 hl
  have hg := fun v hv => k v hv r hr1 H locs ls h2 hl
  obtain ⟨hRL, hlo, hmo, hb0, hfr⟩ := h2
  rcases hAm.2.2.2 with h | h
  · exact va_gets hx hb h (zSS hlo hmo hfr) hown (hts _ hw) (fun _ h => h) hd (hg .null (Or.inl rfl))
  · exact va_gets hx hb h (zSS hlo hmo hfr) hown (hts _ hw) (fun _ h => h) hd (hg (.ref 1000004) (Or.inr rfl))
/-- a call of a String's method -/
theorem x_callVSk {y : MethodName} {bytes : ByteArray} {maxL : Nat} {ret' : Option FieldType} {d' i na a : Nat} {as st0 : List Value} {cr : Option (Int32 × Mem)} {K : Int32 × Mem → Option α} (hw : zCB own i y bytes maxL ret' na ∧ Cond.instanceMethod y ∈ zTb ∧ Cond.selects y.cls y y ∈ zTb ∧ y.cls = "java/lang/String") (hna : as.length = na) (hdd : d' + 1 ≤ d ∧ maxL ≤ 45) (hroom : zRk κ cs) (hO : zSt a) (hM : ∀ x, cr = some x → ∀ l dC dI b, MT l dC dI b y bytes maxL ret' d' 0 0 n n (.ref a :: as) M (emI x).1 (emI x).2) (hC : CX κ cc own nL ret d) (hd : decode cc pc = .ok (.invokevirtual i, 3)) (hq : pc + 3 = q) (hst : as.reverse ++ .ref a :: st = st0) (h8 : (st.map fun v => v.category).sum ≤ 8) (kk : ∀ x, cr = some x → X κ nL em n cs q L (.int x.1 :: st) x.2 (K x)) : X κ nL em n cs pc L st0 M (Option.bind cr K) := by
  subst hq; subst hst
  refine x_ldcase fun x hx0 => ?_
  have kk := kk x hx0
  have hM := hM x hx0
  obtain ⟨p, l, e, R, s, m, args, below, meth, c, dC, dI, b, mc, ms, n'⟩ := κ
  obtain ⟨hx, hb, hml, hown, hts, hr, hlk, hK, hR, hNs⟩ := hC
  intro r hr0 H locs ls h2 hl
  obtain ⟨hRL, hlo, hmo, hb0, hfr⟩ := h2
  obtain ⟨⟨w1, w2, w3, w4⟩, w5, w6, w7⟩ := hw
  have hrc : ∃ cellB : Cell, H[zad b a]? = some cellB ∧ cellB.vm.isStatics = false ∧ s.vm.findClass y.cls = some cellB.cls := by
    obtain ⟨j, hj, rfl⟩ := zSt_i hO
    rw [zad_hi (by omega), w7]
    exact vk_recv (adK := fun i => b.2 (1000000 + i)) (i := j) hNs.2.1 hj (zSS hlo hmo hfr)
  have hrun := va_runV (e := e) (below := below) (meth := meth) (C := y.cls) (b := zad b a) (H := H) (locs := locs) (cells := cs.1) (slots := cs.2) (As := as.map (zrv b)) (rest := st.map (zrv b)) (g := F0 m pc ls ((as.reverse ++ .ref a :: st).map (zrv b))) ⟨hx, hb, hml, hown, hts⟩ (hM l dC dI b) ⟨callB_of na hts (zGoodC w3) rfl rfl rfl (hts _ w2) (hts _ w1) w4 (zRoom hR hdd), hts _ w5, hts _ w6⟩ ⟨zPc_blind, hrc, zPc_at (as := .ref a :: as) hRL hK hNs hb0 hfr⟩ rfl (by rw [List.length_map]; exact hna) hl.1 (by rw [List.map_append, List.map_reverse]; rfl) (lv_room (zCat h8)) hd (by rw [hR.2.2.1, hR.2.2.2]; exact hroom)
  exact zAfter hrun hlo hmo hfr (fun H1 locs1 e1 e2 e3 e4 => kk r hr0 H1 locs1 ls ⟨e1, e2, e3, hb0, e4⟩ hl)
theorem x_callVSi {y : MethodName} {bytes : ByteArray} {maxL : Nat} {ret' : Option FieldType} {d' i na a : Nat} {as st0 : List Value} {cr : Option (Int32 × Mem)} {K : Int32 × Mem → Option α} (hw : zCB own i y bytes maxL ret' na ∧ Cond.instanceMethod y ∈ zTb ∧ Cond.selects y.cls y y ∈ zTb ∧ y.cls = "java/lang/String") (hna : as.length = na) (hdd : d' + 1 ≤ d ∧ maxL ≤ 45) (hroom : zRk κ cs) (hO : zSt a) (hM : ∀ x, cr = some x → ∀ l dC dI b, MT l dC dI b y bytes maxL ret' d' 0 0 n n (.ref a :: as) M (emI x).1 (emI x).2) (hC : CX κ cc own nL ret d) (hd : decode cc pc = .ok (.invokevirtual i, 3)) (hq : pc + 3 = q) (hst : as.reverse ++ .ref a :: st = st0) (h8 : (st.map fun v => v.category).sum ≤ 8) (kk : ∀ x, X κ nL em n cs q L (.int x.1 :: st) x.2 (K x)) : X κ nL em n cs pc L st0 M (Option.bind cr K) :=
  x_callVSk hw hna hdd hroom hO hM hC hd hq hst h8 (fun x _ => kk x)
theorem x_i2c {x : Int32} (hC : CX κ cc own nL ret d) (hd : decode cc pc = .ok (.i2c, 1)) (hq : pc + 1 = q) (k : X κ nL em n cs q L (.int (x.toUInt32 % 65536).toInt32 :: st) M res) : X κ nL em n cs pc L (.int x :: st) M res := by
  subst hq
  obtain ⟨p, l, e, R, s, m, args, below, meth, c, dC, dI, b, mc, ms, n'⟩ := κ
  obtain ⟨hx, hb, hml, hown, hts, hr, hlk, hK, hR, hNs⟩ := hC
  intro r hr0 H locs ls h2 hl
  exact lv_i2c hx hb hd rfl (k r hr0 H locs ls h2 hl)
theorem zRk_le {cs cs2 : Nat × Nat} (h : zRk κ cs) (h1 : cs2.1 ≤ cs.1) (h2 : cs2.2 ≤ cs.2) : zRk κ cs2 := by
  obtain ⟨p, l, e, R, s, m, args, below, meth, c, dC, dI, b, mc, ms, n'⟩ := κ
  exact ⟨Nat.le_trans h1 h.1, Nat.le_trans h2 h.2⟩
theorem zInit_of {y : MethodName} (h : zNam κ y) (hy : y.name = "<init>") : zInit κ := by
  obtain ⟨p, l, e, R, s, m, args, below, meth, c, dC, dI, b, mc, ms, n'⟩ := κ
  exact Eq.trans h hy
theorem zO_lt {a k : Nat} (h : zO n a k) (hn : n ≤ 1000000) : a < 1000000 := Nat.lt_of_lt_of_le h.1 hn
theorem x_geT {x y : Int32} {off : Int} {tgt : Nat} (h : y ≤ x) (hC : CX κ cc own nL ret d) (hd : decode cc pc = .ok (.if_icmp .ge off, 3)) (ht : (pc : Int) + off = (tgt : Int)) (k : X κ nL em n cs tgt L st M res) : X κ nL em n cs pc L (.int y :: .int x :: st) M res := by
  have := x_icmp_ge (A := res) (B := none) hC hd rfl ht (fun _ => k) (fun h' => absurd h h')
  rwa [if_pos h] at this
theorem x_geF {x y : Int32} {off : Int} (h : ¬ y ≤ x) (hC : CX κ cc own nL ret d) (hd : decode cc pc = .ok (.if_icmp .ge off, 3)) (hq : pc + 3 = q) (k : X κ nL em n cs q L st M res) (ht : ∃ tgt : Nat, (pc : Int) + off = (tgt : Int) := by exact ⟨_, rfl⟩) : X κ nL em n cs pc L (.int y :: .int x :: st) M res := by
  obtain ⟨tgt, ht⟩ := ht
  have := x_icmp_ge (A := none) (B := res) hC hd hq ht (fun h' => absurd h' h) (fun _ => k)
  rwa [if_neg h] at this
end
