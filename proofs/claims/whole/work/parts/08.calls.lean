/-! a method's contract over the memory; returns; calls -/
def zPc (dC : Nat → ClassId) (dI : Nat → Nat → Nat) (b : zSg) (n : Nat) (as : List Value) (M : Mem) : Array Value → State → Prop :=
  va_Pc (as.map (zrv b)) (fun U => zRL dC dI b U n M U.heap ∧ va_K (dC, dI) zCl [] U ∧ (∀ w ∈ zNs, va_Nw w U) ∧ zAm b U)
def MT (l : Launch) (dC : Nat → ClassId) (dI : Nat → Nat → Nat) (b : zSg) (y : MethodName) (bytes : ByteArray) (maxL : Nat) (ret : Option FieldType) (d mc ms n n' : Nat) (as : List Value) (M : Mem) (ov : Option Value) (M' : Mem) : Prop :=
  Met l y (Cond.code y bytes maxL ret :: zTb) (zRm d mc ms) (zPc dC dI b n as M) (zQ dC dI b n' ov M') mc ms (fun q => b.1 ≤ q)
theorem zNs_form : ∀ w ∈ zNs, ∃ a i x h, w = Cond.methodLinkNest a i x h := by
  intro w hw
  simp only [zNs, List.mem_cons, List.not_mem_nil, or_false] at hw
  rcases hw with h | h | h | h | h | h | h | h | h | h <;> exact ⟨_, _, _, _, h⟩
theorem zNs_warm {s U : State} (hW : s.WarmedH U.vm) (h : ∀ w ∈ zNs, va_Nw w s) : ∀ w ∈ zNs, va_Nw w U := by
  intro w hw
  have h1 := h w hw
  obtain ⟨a, i, x, h0, rfl⟩ := zNs_form w hw
  exact va_Nw.warmM hW h1
theorem zNs_same {s U : State} (hW : s.vm = U.vm) (h : ∀ w ∈ zNs, va_Nw w s) : ∀ w ∈ zNs, va_Nw w U := by
  intro w hw
  have h1 := h w hw
  obtain ⟨a, i, x, h0, rfl⟩ := zNs_form w hw
  exact va_Nw.same rfl hW h1
theorem zPc_blind {dC : Nat → ClassId} {dI : Nat → Nat → Nat} {b : zSg} {n : Nat} {as : List Value} {M : Mem} : FrameBlind (zPc dC dI b n as M) := by
  intro a U g mk h
  obtain ⟨h1, h2, h3, h4, h5⟩ := h
  exact ⟨h1, zRL.moved (s := U) (t := U.calling g mk a) (Vm.Alike.refl U.vm) h2, va_K.moved (u := U) (U := U.calling g mk a) (Vm.Alike.refl U.vm) h3, zNs_same (s := U) (U := U.calling g mk a) rfl h4, zAm.same (s := U) (U := U.calling g mk a) rfl rfl h5⟩
theorem zPc_at {dC : Nat → ClassId} {dI : Nat → Nat → Nat} {b : zSg} {n : Nat} {as : List Value} {M : Mem} {s : State} {H : Heap} (hRL : zRL dC dI b s n M H) (hK : va_K (dC, dI) zCl [] s) (hN : (∀ w ∈ zNs, va_Nw w s) ∧ zAm b s) (hb0 : b.1 ≤ s.heap.size) (hfr : ∀ q, q < b.1 → H[q]? = s.heap[q]?) : ∀ U : State, U.heap = H → s.WarmedH U.vm → zPc dC dI b n as M (as.map (zrv b)).toArray U := by
  intro U hU hW
  refine ⟨rfl, ?_, va_K.moved hW.alike hK, zNs_warm hW hN.1, hN.2.warm hW hb0 (by rw [hU]; exact hfr)⟩
  rw [hU]
  exact hRL.moved hW.alike
def zent (as : List Value) (nL : Nat) : List Value := (as.flatMap fun v => if v.category = 2 then [v, .null] else [v]) ++ List.replicate (nL - (lg_sl as).length) .null
def zFn (κ : KX) (l : Launch) (dC : Nat → ClassId) (dI : Nat → Nat → Nat) (b : zSg) (mc ms n' : Nat) : Prop := match κ with
  | (_, l1, _, _, _, _, _, _, _, _, dC1, dI1, b1, mc1, ms1, n1) => l1 = l ∧ dC1 = dC ∧ dI1 = dI ∧ b1 = b ∧ mc1 = mc ∧ ms1 = ms ∧ n1 = n'
def zNam (κ : KX) (y : MethodName) : Prop := match κ with
  | (_, _, _, _, _, _, _, _, meth, _, _, _, _, _, _, _) => meth.name = y.name
theorem zent_args (b : zSg) (as : List Value) : ∀ (o i : Nat) (v : Value), ((as.flatMap fun v => if v.category = 2 then [v, Value.null] else [v]))[i]? = some v → v ≠ .null → (o + i, zrv b v) ∈ lv_args o (as.map (zrv b)) := by
  induction as with
  | nil => intro o i v h; simp at h
  | cons a as ih =>
    intro o i v h hv
    rw [List.flatMap_cons] at h
    show _ ∈ lv_args o (zrv b a :: as.map (zrv b))
    by_cases hc : a.category = 2
    · rw [if_pos hc] at h
      have e : lv_args o (zrv b a :: as.map (zrv b)) = (o, zrv b a) :: lv_args (o + 2) (as.map (zrv b)) := by simp [lv_args, zrv_cat, hc]
      rw [e]
      match i with
      | 0 => simp at h; subst h; exact List.mem_cons_self
      | 1 => simp at h; exact absurd h.symm hv
      | i + 2 =>
        have h' : ((as.flatMap fun v => if v.category = 2 then [v, Value.null] else [v]))[i]? = some v := by simpa using h
        have := ih (o + 2) i v h' hv
        rw [show o + 2 + i = o + (i + 2) by omega] at this
        exact List.mem_cons_of_mem _ this
    · rw [if_neg hc] at h
      have e : lv_args o (zrv b a :: as.map (zrv b)) = (o, zrv b a) :: lv_args (o + 1) (as.map (zrv b)) := by
        have h1 : a.category = 1 := (lv_cat a).resolve_right hc
        simp [lv_args, zrv_cat, h1]
      rw [e]
      match i with
      | 0 => simp at h; subst h; exact List.mem_cons_self
      | i + 1 =>
        have h' : ((as.flatMap fun v => if v.category = 2 then [v, Value.null] else [v]))[i]? = some v := by simpa using h
        have := ih (o + 1) i v h' hv
        rw [show o + 1 + i = o + (i + 1) by omega] at this
        exact List.mem_cons_of_mem _ this
theorem lg_sl_len (b : zSg) (as : List Value) : (lg_sl (as.map (zrv b))).length = (lg_sl as).length := by
  induction as with
  | nil => rfl
  | cons a as ih =>
    have e : ∀ (v : Value) (vs : List Value), lg_sl (v :: vs) = (if v.category = 2 then [Slot.val v, .second] else [.val v]) ++ lg_sl vs := fun v vs => rfl
    rw [List.map_cons, e, e, List.length_append, List.length_append, ih, zrv_cat]
    by_cases hc : a.category = 2
    · rw [if_pos hc, if_pos hc]; rfl
    · rw [if_neg hc, if_neg hc]; rfl
theorem MT.ofX {α : Type} {em : α → Option Value × Mem} {l : Launch} {dC : Nat → ClassId} {dI : Nat → Nat → Nat} {b : zSg} {y : MethodName} {bytes : ByteArray} {maxL : Nat} {ret : Option FieldType} {d mc ms n n' : Nat} {as L0 : List Value} {M : Mem} {res : Option α} (hy : plainFor y = true) (hL : zent as maxL = L0) (hlen : (lg_sl as).length ≤ maxL)
    (h : ∀ κ : KX, CX κ bytes y.cls maxL ret d → zFn κ l dC dI b mc ms n' → zNam κ y → X κ maxL em n (0, 0) 0 L0 [] M res) (x : α) (hx : res = some x) : MT l dC dI b y bytes maxL ret d mc ms n n' as M (em x).1 (em x).2 := by
  refine va_MetF (cc := bytes) (maxL := maxL) (ret := ret) hy rfl ?_
  intro p e s m args below meth c s₁ B hml hv
  obtain ⟨rfl, hRL, hK, hN⟩ := hv
  have hts := atoms_spec (ws := Cond.code y bytes maxL ret :: zTb) B.pre
  have hX := h (p, l, e, zRm d mc ms, s, m, _, below, meth, c, dC, dI, b, mc, ms, n') ⟨B.exec, B.bytes, hml, findClass_of_methodNamed B.named, fun w hw => hts w (List.mem_cons_of_mem _ hw), B.returns, B.notSynchronized, hK, ⟨Nat.le_refl _, Nat.le_refl _, rfl, rfl⟩, hN⟩ ⟨rfl, rfl, rfl, rfl, rfl, rfl, rfl⟩ (name_of_methodNamed B.named B.method).1 x hx s.heap []
  have hlen' : (lg_sl (as.map (zrv b))).length ≤ maxL := by rw [lg_sl_len]; exact hlen
  have hl := lv_entry (as.map (zrv b)) (n := maxL) hlen'
  rw [lg_entry_eq]
  refine hX _ ⟨hRL, fun q hq => absurd hq List.not_mem_nil, Nat.le_refl _, by rw [hRL.1]; exact Nat.le_add_right _ _, fun _ _ => rfl⟩ ⟨hl.1, hl.2.1, fun i v hi hv => ?_⟩
  subst hL
  unfold zent at hi
  have hi2 : ((as.flatMap fun v => if v.category = 2 then [v, Value.null] else [v]))[i]? = some v := by
    by_cases hlt : i < (as.flatMap fun v => if v.category = 2 then [v, Value.null] else [v]).length
    · rw [List.getElem?_append_left hlt] at hi; exact hi
    · rw [List.getElem?_append_right (by omega)] at hi
      have := List.mem_of_getElem? hi
      exact absurd (List.eq_of_mem_replicate this) hv
  have := zent_args b as 0 i v hi2 hv
  rw [Nat.zero_add] at this
  exact hl.2.2 _ this
section
variable {α : Type} {κ : KX} {nL : Nat} {em : α → Option Value × Mem} {n : Nat} {cs : Nat × Nat} {pc q : Nat} {L st : List Value} {M : Mem} {res : Option α} {cc : ByteArray} {own : String} {ret : Option FieldType} {d : Nat}
def zEnd (κ : KX) (n : Nat) (cs : Nat × Nat) : Prop := match κ with
  | (_, _, _, _, _, _, _, _, _, _, _, _, _, mc, ms, n') => n = n' ∧ cs.1 ≤ mc ∧ cs.2 ≤ ms
def zRk (κ : KX) (cs : Nat × Nat) : Prop := match κ with
  | (_, _, _, _, _, _, _, _, _, _, _, _, _, mc, ms, _) => cs.1 ≤ mc ∧ cs.2 ≤ ms
theorem zRk_of {l : Launch} {dC : Nat → ClassId} {dI : Nat → Nat → Nat} {b : zSg} {mc ms n' : Nat} (h : zFn κ l dC dI b mc ms n') (h1 : cs.1 ≤ mc) (h2 : cs.2 ≤ ms) : zRk κ cs := by
  obtain ⟨p, l, e, R, s, m, args, below, meth, c, dC, dI, b, mc', ms', n'⟩ := κ
  obtain ⟨-, -, -, -, rfl, rfl, rfl⟩ := h
  exact ⟨h1, h2⟩
theorem zEnd_of {l : Launch} {dC : Nat → ClassId} {dI : Nat → Nat → Nat} {b : zSg} {mc ms : Nat} (h : zFn κ l dC dI b mc ms n) (h1 : cs.1 ≤ mc) (h2 : cs.2 ≤ ms) : zEnd κ n cs := by
  obtain ⟨p, l, e, R, s, m, args, below, meth, c, dC, dI, b, mc', ms', n'⟩ := κ
  obtain ⟨-, -, -, -, rfl, rfl, rfl⟩ := h
  exact ⟨rfl, h1, h2⟩
theorem x_iret {ty : FieldType} {v : Int32} (hv : narrow ty (.int v) = .int v) (hE : zEnd κ n cs) (hC : CX κ cc own nL (some ty) d) (hd : decode cc pc = .ok (.ireturn, 1)) : X κ nL emI n cs pc L [.int v] M (some (v, M)) := by
  obtain ⟨p, l, e, R, s, m, args, below, meth, c, dC, dI, b, mc, ms, n'⟩ := κ
  obtain ⟨hx, hb, hml, hown, hts, hr, hlk, hK, hR, hNs⟩ := hC
  intro r hr0 H locs ls h2 hl
  cases hr0
  obtain ⟨hRL, hlo, hmo, hb0, hfr⟩ := h2
  obtain ⟨rfl, h3, h4⟩ := hE
  refine W.widen (k := mc) (n := ms) h3 h4 ?_
  exact W.zret hx hb hr hv (fun t ht hW => ⟨rfl, by rw [ht]; exact hRL.moved hW.alike, by rw [ht]; exact hmo, fun q h => by rw [ht]; exact hfr q h⟩) hlo hd hlk
theorem x_lret {v : Int64} (hE : zEnd κ n cs) (hC : CX κ cc own nL (some .long) d) (hd : decode cc pc = .ok (.lreturn, 1)) : X κ nL emL n cs pc L [.long v] M (some (v, M)) := by
  obtain ⟨p, l, e, R, s, m, args, below, meth, c, dC, dI, b, mc, ms, n'⟩ := κ
  obtain ⟨hx, hb, hml, hown, hts, hr, hlk, hK, hR, hNs⟩ := hC
  intro r hr0 H locs ls h2 hl
  cases hr0
  obtain ⟨hRL, hlo, hmo, hb0, hfr⟩ := h2
  obtain ⟨rfl, h3, h4⟩ := hE
  refine W.widen (k := mc) (n := ms) h3 h4 ?_
  exact W.lret hx hb hr (fun t ht hW => ⟨rfl, by rw [ht]; exact hRL.moved hW.alike, by rw [ht]; exact hmo, fun q h => by rw [ht]; exact hfr q h⟩) hlo hd hlk
theorem x_vret (hE : zEnd κ n cs) (hC : CX κ cc own nL none d) (hd : decode cc pc = .ok (.return_, 1)) : X κ nL emV n cs pc L [] M (some M) := by
  obtain ⟨p, l, e, R, s, m, args, below, meth, c, dC, dI, b, mc, ms, n'⟩ := κ
  obtain ⟨hx, hb, hml, hown, hts, hr, hlk, hK, hR, hNs⟩ := hC
  intro r hr0 H locs ls h2 hl
  cases hr0
  obtain ⟨hRL, hlo, hmo, hb0, hfr⟩ := h2
  obtain ⟨rfl, h3, h4⟩ := hE
  refine W.widen (k := mc) (n := ms) h3 h4 ?_
  exact W.vret hx hb hr (fun t ht hW => ⟨rfl, by rw [ht]; exact hRL.moved hW.alike, by rw [ht]; exact hmo, fun q h => by rw [ht]; exact hfr q h⟩) hlo hd hlk
theorem zAfter {p : Program} {l : Launch} {e : Env} {R : Room} {s : State} {m : MethodId} {args : Array Value} {below : List Frame} {meth : Method} {c : Code} {H : Heap} {locs : List Loc} {cells slots mc' ms' : Nat} {Q : State → Prop} {dC : Nat → ClassId} {dI : Nat → Nat → Nat} {b : zSg} {n2 : Nat} {M2 : Mem} {ov : Option Value} {ls : Array Slot} {st0 rest : List Value} {a : Array Value}
    (hr : va_Run p l e R s m args below meth c H locs cells slots mc' ms' (F0 m pc ls st0) rest (zQ dC dI b n2 ov M2 a) (fun q => b.1 ≤ q)) (hlo : ∀ q ∈ locs, b.1 ≤ q.base) (hmo : s.heap.size ≤ H.size) (hfr : ∀ q, q < b.1 → H[q]? = s.heap[q]?)
    (kk : ∀ (H1 : Heap) (locs1 : List Loc), zRL dC dI b s n2 M2 H1 → (∀ q ∈ locs1, b.1 ≤ q.base) → s.heap.size ≤ H1.size → (∀ q, q < b.1 → H1[q]? = s.heap[q]?) → W p l e R s m args below meth c H1 locs1 (cells + mc') (slots + ms') Q (F0 m (pc + 3) ls ((ov.map (zrv b)).toList ++ rest))) : W p l e R s m args below meth c H locs cells slots Q (F0 m pc ls st0) := by
  intro T hT X
  obtain ⟨v, st₀, t, T', L, h0, X', hL, e1, e2, ⟨hv, hRL, hsz, hfr2⟩, st⟩ := hr T hT X
  cases hv
  rw [h0] at hsz hfr2
  have hal : t.vm.Alike s.vm := by rw [← e2]; exact X'.warmed.alike.symm
  obtain ⟨t2, a1, b1⟩ := kk T'.heap (locs ++ L) (by rw [e1]; exact hRL.moved hal) (fun q hq => (List.mem_append.mp hq).elim (hlo q) (hL q)) (by rw [e1]; exact Nat.le_trans hmo hsz) (fun q h => by rw [e1, hfr2 q h, hfr q h]) T' rfl X'
  exact ⟨t2, st t2 a1, b1⟩
/-- what a call's link says: the entry i of own is the method y, its code and its parameters -/
def zCB (own : String) (i : Nat) (y : MethodName) (bytes : ByteArray) (maxL : Nat) (ret : Option FieldType) (na : Nat) : Prop :=
  Cond.methodLink own i y ∈ zTb ∧ Cond.initialized y.cls ∈ zTb ∧ Cond.code y bytes maxL ret ∈ zTb ∧ (y.cls ≠ "java/lang/invoke/MethodHandle" ∧ y.cls ≠ "java/lang/invoke/VarHandle" ∧ (parseMethodDescriptor y.desc).map (fun d => d.parameters.length) = some na)
def zCN (own : String) (i : Nat) (y : MethodName) (bytes : ByteArray) (maxL : Nat) (ret : Option FieldType) (na : Nat) : Prop :=
  (∃ host, Cond.methodLinkNest own i y host ∈ zNs) ∧ Cond.initialized y.cls ∈ zTb ∧ Cond.code y bytes maxL ret ∈ zTb ∧ (y.cls ≠ "java/lang/invoke/MethodHandle" ∧ y.cls ≠ "java/lang/invoke/VarHandle" ∧ (parseMethodDescriptor y.desc).map (fun d => d.parameters.length) = some na)
theorem zGoodC {y : MethodName} {bytes : ByteArray} {maxL : Nat} {ret : Option FieldType} (h : Cond.code y bytes maxL ret ∈ zTb) : GoodIn zTb (Cond.code y bytes maxL ret :: zTb) := by
  intro w hw
  have hw' : w ∈ zTb := (List.mem_cons.mp hw).elim (fun e => e ▸ h) id
  exact ⟨hw', good_of_word (List.mem_filter.mp hw').2⟩
theorem zCat {b : zSg} {st : List Value} (h : (st.map fun v => v.category).sum ≤ 8) : ((st.map (zrv b)).map fun v => v.category).sum ≤ 8 := by
  rw [List.map_map, show ((fun v : Value => v.category) ∘ zrv b) = fun v => v.category from funext fun v => zrv_cat b v]; exact h
theorem zRoom {R : Room} {d' d mc ms mc' ms' maxL : Nat} (hR : zRmOk R d mc ms) (h : d' + 1 ≤ d ∧ maxL ≤ 45) : (zRm d' mc' ms').frames + 1 ≤ R.frames ∧ 8 + (maxL + 11) + (zRm d' mc' ms').locals ≤ R.locals := by
  obtain ⟨h1, h2, -, -⟩ := hR
  refine ⟨Nat.le_trans h.1 h1, Nat.le_trans ?_ h2⟩
  show 8 + (maxL + 11) + 64 * d' ≤ 64 * d
  omega
/-- a static call -/
theorem x_callS {β : Type} {emc : β → Option Value × Mem} {y : MethodName} {bytes : ByteArray} {maxL : Nat} {ret' : Option FieldType} {d' n2 mc' ms' i na : Nat} {as st0 : List Value} {cr : Option β} {K : β → Option α} (hw : zCB own i y bytes maxL ret' na ∧ Cond.static y ∈ zTb) (hna : as.length = na) (hdd : d' + 1 ≤ d ∧ maxL ≤ 45) (hroom : zRk κ (cs.1 + mc', cs.2 + ms'))
    (hM : ∀ x, cr = some x → ∀ l dC dI b, MT l dC dI b y bytes maxL ret' d' mc' ms' n n2 as M (emc x).1 (emc x).2) (hC : CX κ cc own nL ret d) (hd : decode cc pc = .ok (.invokestatic i, 3)) (hq : pc + 3 = q) (hst : as.reverse ++ st = st0) (h8 : (st.map fun v => v.category).sum ≤ 8)
    (kk : ∀ x, cr = some x → X κ nL em n2 (cs.1 + mc', cs.2 + ms') q L ((emc x).1.toList ++ st) (emc x).2 (K x)) : X κ nL em n cs pc L st0 M (Option.bind cr K) := by
  subst hq; subst hst
  refine x_ldcase fun x hx0 => ?_
  have kk := kk x hx0
  have hM := hM x hx0
  obtain ⟨p, l, e, R, s, m, args, below, meth, c, dC, dI, b, mc, ms, n'⟩ := κ
  obtain ⟨hx, hb, hml, hown, hts, hr, hlk, hK, hR, hNs⟩ := hC
  intro r hr0 H locs ls h2 hl
  obtain ⟨hRL, hlo, hmo, hb0, hfr⟩ := h2
  obtain ⟨⟨w1, w2, w3, w4⟩, w5⟩ := hw
  have hrun := va_runS (e := e) (below := below) (meth := meth) (H := H) (locs := locs) (cells := cs.1) (slots := cs.2) (As := as.map (zrv b)) (rest := st.map (zrv b)) (g := F0 m pc ls ((as.reverse ++ st).map (zrv b))) ⟨hx, hb, hml, hown, hts⟩ (hM l dC dI b) ⟨callB_of na hts (zGoodC w3) rfl rfl rfl (hts _ w2) (hts _ w1) w4 (zRoom hR hdd), hts _ w5⟩ ⟨zPc_blind, zPc_at hRL hK hNs hb0 hfr⟩ rfl (by rw [List.length_map]; exact hna) hl.1 (by rw [List.map_append, List.map_reverse]) (lv_room (zCat h8)) hd (by rw [hR.2.2.1, hR.2.2.2]; exact hroom)
  refine zAfter hrun hlo hmo hfr (fun H1 locs1 e1 e2 e3 e4 => ?_)
  have := kk r hr0 H1 locs1 ls ⟨e1, e2, e3, hb0, e4⟩ hl
  have e5 : (List.map (zrv b) ((emc x).1.toList ++ st)) = ((emc x).1.map (zrv b)).toList ++ st.map (zrv b) := by
    cases (emc x).1 <;> rfl
  show W _ _ _ _ _ _ _ _ _ _ _ _ _ _ _ (F0 m (pc + 3) ls _)
  rw [← e5]
  exact this
theorem x_callSN {β : Type} {emc : β → Option Value × Mem} {y : MethodName} {bytes : ByteArray} {maxL : Nat} {ret' : Option FieldType} {d' n2 mc' ms' i na : Nat} {as st0 : List Value} {cr : Option β} {K : β → Option α} (hw : zCN own i y bytes maxL ret' na ∧ Cond.static y ∈ zTb) (hna : as.length = na) (hdd : d' + 1 ≤ d ∧ maxL ≤ 45) (hroom : zRk κ (cs.1 + mc', cs.2 + ms'))
    (hM : ∀ x, cr = some x → ∀ l dC dI b, MT l dC dI b y bytes maxL ret' d' mc' ms' n n2 as M (emc x).1 (emc x).2) (hC : CX κ cc own nL ret d) (hd : decode cc pc = .ok (.invokestatic i, 3)) (hq : pc + 3 = q) (hst : as.reverse ++ st = st0) (h8 : (st.map fun v => v.category).sum ≤ 8)
    (kk : ∀ x, cr = some x → X κ nL em n2 (cs.1 + mc', cs.2 + ms') q L ((emc x).1.toList ++ st) (emc x).2 (K x)) : X κ nL em n cs pc L st0 M (Option.bind cr K) := by
  subst hq; subst hst
  refine x_ldcase fun x hx0 => ?_
  have kk := kk x hx0
  have hM := hM x hx0
  obtain ⟨p, l, e, R, s, m, args, below, meth, c, dC, dI, b, mc, ms, n'⟩ := κ
  obtain ⟨hx, hb, hml, hown, hts, hr, hlk, hK, hR, hNs⟩ := hC
  intro r hr0 H locs ls h2 hl
  obtain ⟨hRL, hlo, hmo, hb0, hfr⟩ := h2
  obtain ⟨⟨⟨host, w1⟩, w2, w3, w4⟩, w5⟩ := hw
  have hrun := va_runSN (e := e) (below := below) (meth := meth) (H := H) (locs := locs) (cells := cs.1) (slots := cs.2) (As := as.map (zrv b)) (rest := st.map (zrv b)) (g := F0 m pc ls ((as.reverse ++ st).map (zrv b))) ⟨hx, hb, hml, hown, hts⟩ (hM l dC dI b) ⟨va_cnB na hts (zGoodC w3) rfl rfl rfl (hNs.1 _ w1) (hts _ w2) w4 (zRoom hR hdd), hts _ w5, trivial⟩ ⟨zPc_blind, zPc_at hRL hK hNs hb0 hfr⟩ rfl (by rw [List.length_map]; exact hna) hl.1 (by rw [List.map_append, List.map_reverse]) (lv_room (zCat h8)) hd (by rw [hR.2.2.1, hR.2.2.2]; exact hroom)
  refine zAfter hrun hlo hmo hfr (fun H1 locs1 e1 e2 e3 e4 => ?_)
  have := kk r hr0 H1 locs1 ls ⟨e1, e2, e3, hb0, e4⟩ hl
  have e5 : (List.map (zrv b) ((emc x).1.toList ++ st)) = ((emc x).1.map (zrv b)).toList ++ st.map (zrv b) := by
    cases (emc x).1 <;> rfl
  show W _ _ _ _ _ _ _ _ _ _ _ _ _ _ _ (F0 m (pc + 3) ls _)
  rw [← e5]
  exact this
/-- a call of an instance's method -/
theorem x_callV {β : Type} {emc : β → Option Value × Mem} {y : MethodName} {bytes : ByteArray} {maxL : Nat} {ret' : Option FieldType} {d' n2 mc' ms' i na a ci : Nat} {as st0 : List Value} {cr : Option β} {K : β → Option α} (hw : zCB own i y bytes maxL ret' na ∧ Cond.instanceMethod y ∈ zTb ∧ Cond.selects y.cls y y ∈ zTb ∧ y.cls = zNm ci ∧ ci < 13) (hna : as.length = na) (hdd : d' + 1 ≤ d ∧ maxL ≤ 45) (hroom : zRk κ (cs.1 + mc', cs.2 + ms'))
    (hO : zO n a ci) (hM : ∀ x, cr = some x → ∀ l dC dI b, MT l dC dI b y bytes maxL ret' d' mc' ms' n n2 (.ref a :: as) M (emc x).1 (emc x).2) (hC : CX κ cc own nL ret d) (hd : decode cc pc = .ok (.invokevirtual i, 3)) (hq : pc + 3 = q) (hst : as.reverse ++ .ref a :: st = st0) (h8 : (st.map fun v => v.category).sum ≤ 8)
    (kk : ∀ x, cr = some x → X κ nL em n2 (cs.1 + mc', cs.2 + ms') q L ((emc x).1.toList ++ st) (emc x).2 (K x)) : X κ nL em n cs pc L st0 M (Option.bind cr K) := by
  subst hq; subst hst
  refine x_ldcase fun x hx0 => ?_
  have kk := kk x hx0
  have hM := hM x hx0
  obtain ⟨p, l, e, R, s, m, args, below, meth, c, dC, dI, b, mc, ms, n'⟩ := κ
  obtain ⟨hx, hb, hml, hown, hts, hr, hlk, hK, hR, hNs⟩ := hC
  intro r hr0 H locs ls h2 hl
  obtain ⟨hRL, hlo, hmo, hb0, hfr⟩ := h2
  obtain ⟨⟨w1, w2, w3, w4⟩, w5, w6, w7, w8⟩ := hw
  have hrc : ∃ cellB : Cell, H[zad b a]? = some cellB ∧ cellB.vm.isStatics = false ∧ s.vm.findClass y.cls = some cellB.cls := by
    obtain ⟨cell, q1, q2, q3, q4⟩ := zObj (hRL.2.2.1 a hO.1) w8 hO.2
    refine ⟨cell, by rw [zad_lt hO.1 hRL.2.1]; exact q1, by rw [q3]; rfl, ?_⟩
    rw [q2, w7]
    exact (hK.1 ci _ (zCl_at ci w8)).2.1
  have hrun := va_runV (e := e) (below := below) (meth := meth) (C := y.cls) (b := zad b a) (H := H) (locs := locs) (cells := cs.1) (slots := cs.2) (As := as.map (zrv b)) (rest := st.map (zrv b)) (g := F0 m pc ls ((as.reverse ++ .ref a :: st).map (zrv b))) ⟨hx, hb, hml, hown, hts⟩ (hM l dC dI b) ⟨callB_of na hts (zGoodC w3) rfl rfl rfl (hts _ w2) (hts _ w1) w4 (zRoom hR hdd), hts _ w5, hts _ w6⟩ ⟨zPc_blind, hrc, zPc_at (as := .ref a :: as) hRL hK hNs hb0 hfr⟩ rfl (by rw [List.length_map]; exact hna) hl.1 (by rw [List.map_append, List.map_reverse]; rfl) (lv_room (zCat h8)) hd (by rw [hR.2.2.1, hR.2.2.2]; exact hroom)
  refine zAfter hrun hlo hmo hfr (fun H1 locs1 e1 e2 e3 e4 => ?_)
  have := kk r hr0 H1 locs1 ls ⟨e1, e2, e3, hb0, e4⟩ hl
  have e5 : (List.map (zrv b) ((emc x).1.toList ++ st)) = ((emc x).1.map (zrv b)).toList ++ st.map (zrv b) := by
    cases (emc x).1 <;> rfl
  show W _ _ _ _ _ _ _ _ _ _ _ _ _ _ _ (F0 m (pc + 3) ls _)
  rw [← e5]
  exact this
end
section
variable {α : Type} {κ : KX} {nL : Nat} {em : α → Option Value × Mem} {n : Nat} {cs : Nat × Nat} {pc q : Nat} {L st : List Value} {M : Mem} {res : Option α} {cc : ByteArray} {own : String} {ret : Option FieldType} {d : Nat}
/-! calls that make nothing, by what they return -/
theorem x_callSi {y : MethodName} {bytes : ByteArray} {maxL : Nat} {ret' : Option FieldType} {d' i na : Nat} {as st0 : List Value} {cr : Option (Int32 × Mem)} {K : Int32 × Mem → Option α} (hw : zCB own i y bytes maxL ret' na ∧ Cond.static y ∈ zTb) (hna : as.length = na) (hdd : d' + 1 ≤ d ∧ maxL ≤ 45) (hroom : zRk κ cs) (hM : ∀ x, cr = some x → ∀ l dC dI b, MT l dC dI b y bytes maxL ret' d' 0 0 n n as M (emI x).1 (emI x).2) (hC : CX κ cc own nL ret d) (hd : decode cc pc = .ok (.invokestatic i, 3)) (hq : pc + 3 = q) (hst : as.reverse ++ st = st0) (h8 : (st.map fun v => v.category).sum ≤ 8) (kk : ∀ x, X κ nL em n cs q L (.int x.1 :: st) x.2 (K x)) : X κ nL em n cs pc L st0 M (Option.bind cr K) :=
  x_callS (mc' := 0) (ms' := 0) (emc := emI) hw hna hdd hroom hM hC hd hq hst h8 (fun x _ => kk x)
theorem x_callSl {y : MethodName} {bytes : ByteArray} {maxL : Nat} {ret' : Option FieldType} {d' i na : Nat} {as st0 : List Value} {cr : Option (Int64 × Mem)} {K : Int64 × Mem → Option α} (hw : zCB own i y bytes maxL ret' na ∧ Cond.static y ∈ zTb) (hna : as.length = na) (hdd : d' + 1 ≤ d ∧ maxL ≤ 45) (hroom : zRk κ cs) (hM : ∀ x, cr = some x → ∀ l dC dI b, MT l dC dI b y bytes maxL ret' d' 0 0 n n as M (emL x).1 (emL x).2) (hC : CX κ cc own nL ret d) (hd : decode cc pc = .ok (.invokestatic i, 3)) (hq : pc + 3 = q) (hst : as.reverse ++ st = st0) (h8 : (st.map fun v => v.category).sum ≤ 8) (kk : ∀ x, X κ nL em n cs q L (.long x.1 :: st) x.2 (K x)) : X κ nL em n cs pc L st0 M (Option.bind cr K) :=
  x_callS (mc' := 0) (ms' := 0) (emc := emL) hw hna hdd hroom hM hC hd hq hst h8 (fun x _ => kk x)
theorem x_callSv {y : MethodName} {bytes : ByteArray} {maxL : Nat} {ret' : Option FieldType} {d' i na : Nat} {as st0 : List Value} {cr : Option (Mem)} {K : Mem → Option α} (hw : zCB own i y bytes maxL ret' na ∧ Cond.static y ∈ zTb) (hna : as.length = na) (hdd : d' + 1 ≤ d ∧ maxL ≤ 45) (hroom : zRk κ cs) (hM : ∀ x, cr = some x → ∀ l dC dI b, MT l dC dI b y bytes maxL ret' d' 0 0 n n as M (emV x).1 (emV x).2) (hC : CX κ cc own nL ret d) (hd : decode cc pc = .ok (.invokestatic i, 3)) (hq : pc + 3 = q) (hst : as.reverse ++ st = st0) (h8 : (st.map fun v => v.category).sum ≤ 8) (kk : ∀ x, X κ nL em n cs q L (st) x (K x)) : X κ nL em n cs pc L st0 M (Option.bind cr K) :=
  x_callS (mc' := 0) (ms' := 0) (emc := emV) hw hna hdd hroom hM hC hd hq hst h8 (fun x _ => kk x)
theorem x_callSNi {y : MethodName} {bytes : ByteArray} {maxL : Nat} {ret' : Option FieldType} {d' i na : Nat} {as st0 : List Value} {cr : Option (Int32 × Mem)} {K : Int32 × Mem → Option α} (hw : zCN own i y bytes maxL ret' na ∧ Cond.static y ∈ zTb) (hna : as.length = na) (hdd : d' + 1 ≤ d ∧ maxL ≤ 45) (hroom : zRk κ cs) (hM : ∀ x, cr = some x → ∀ l dC dI b, MT l dC dI b y bytes maxL ret' d' 0 0 n n as M (emI x).1 (emI x).2) (hC : CX κ cc own nL ret d) (hd : decode cc pc = .ok (.invokestatic i, 3)) (hq : pc + 3 = q) (hst : as.reverse ++ st = st0) (h8 : (st.map fun v => v.category).sum ≤ 8) (kk : ∀ x, X κ nL em n cs q L (.int x.1 :: st) x.2 (K x)) : X κ nL em n cs pc L st0 M (Option.bind cr K) :=
  x_callSN (mc' := 0) (ms' := 0) (emc := emI) hw hna hdd hroom hM hC hd hq hst h8 (fun x _ => kk x)
theorem x_callSNl {y : MethodName} {bytes : ByteArray} {maxL : Nat} {ret' : Option FieldType} {d' i na : Nat} {as st0 : List Value} {cr : Option (Int64 × Mem)} {K : Int64 × Mem → Option α} (hw : zCN own i y bytes maxL ret' na ∧ Cond.static y ∈ zTb) (hna : as.length = na) (hdd : d' + 1 ≤ d ∧ maxL ≤ 45) (hroom : zRk κ cs) (hM : ∀ x, cr = some x → ∀ l dC dI b, MT l dC dI b y bytes maxL ret' d' 0 0 n n as M (emL x).1 (emL x).2) (hC : CX κ cc own nL ret d) (hd : decode cc pc = .ok (.invokestatic i, 3)) (hq : pc + 3 = q) (hst : as.reverse ++ st = st0) (h8 : (st.map fun v => v.category).sum ≤ 8) (kk : ∀ x, X κ nL em n cs q L (.long x.1 :: st) x.2 (K x)) : X κ nL em n cs pc L st0 M (Option.bind cr K) :=
  x_callSN (mc' := 0) (ms' := 0) (emc := emL) hw hna hdd hroom hM hC hd hq hst h8 (fun x _ => kk x)
theorem x_callSNv {y : MethodName} {bytes : ByteArray} {maxL : Nat} {ret' : Option FieldType} {d' i na : Nat} {as st0 : List Value} {cr : Option (Mem)} {K : Mem → Option α} (hw : zCN own i y bytes maxL ret' na ∧ Cond.static y ∈ zTb) (hna : as.length = na) (hdd : d' + 1 ≤ d ∧ maxL ≤ 45) (hroom : zRk κ cs) (hM : ∀ x, cr = some x → ∀ l dC dI b, MT l dC dI b y bytes maxL ret' d' 0 0 n n as M (emV x).1 (emV x).2) (hC : CX κ cc own nL ret d) (hd : decode cc pc = .ok (.invokestatic i, 3)) (hq : pc + 3 = q) (hst : as.reverse ++ st = st0) (h8 : (st.map fun v => v.category).sum ≤ 8) (kk : ∀ x, X κ nL em n cs q L (st) x (K x)) : X κ nL em n cs pc L st0 M (Option.bind cr K) :=
  x_callSN (mc' := 0) (ms' := 0) (emc := emV) hw hna hdd hroom hM hC hd hq hst h8 (fun x _ => kk x)
theorem x_callVi {y : MethodName} {bytes : ByteArray} {maxL : Nat} {ret' : Option FieldType} {d' i na a ci : Nat} {as st0 : List Value} {cr : Option (Int32 × Mem)} {K : Int32 × Mem → Option α} (hw : zCB own i y bytes maxL ret' na ∧ Cond.instanceMethod y ∈ zTb ∧ Cond.selects y.cls y y ∈ zTb ∧ y.cls = zNm ci ∧ ci < 13) (hna : as.length = na) (hdd : d' + 1 ≤ d ∧ maxL ≤ 45) (hroom : zRk κ cs) (hO : zO n a ci) (hM : ∀ x, cr = some x → ∀ l dC dI b, MT l dC dI b y bytes maxL ret' d' 0 0 n n (.ref a :: as) M (emI x).1 (emI x).2) (hC : CX κ cc own nL ret d) (hd : decode cc pc = .ok (.invokevirtual i, 3)) (hq : pc + 3 = q) (hst : as.reverse ++ .ref a :: st = st0) (h8 : (st.map fun v => v.category).sum ≤ 8) (kk : ∀ x, X κ nL em n cs q L (.int x.1 :: st) x.2 (K x)) : X κ nL em n cs pc L st0 M (Option.bind cr K) :=
  x_callV (mc' := 0) (ms' := 0) (emc := emI) hw hna hdd hroom hO hM hC hd hq hst h8 (fun x _ => kk x)
theorem x_callVl {y : MethodName} {bytes : ByteArray} {maxL : Nat} {ret' : Option FieldType} {d' i na a ci : Nat} {as st0 : List Value} {cr : Option (Int64 × Mem)} {K : Int64 × Mem → Option α} (hw : zCB own i y bytes maxL ret' na ∧ Cond.instanceMethod y ∈ zTb ∧ Cond.selects y.cls y y ∈ zTb ∧ y.cls = zNm ci ∧ ci < 13) (hna : as.length = na) (hdd : d' + 1 ≤ d ∧ maxL ≤ 45) (hroom : zRk κ cs) (hO : zO n a ci) (hM : ∀ x, cr = some x → ∀ l dC dI b, MT l dC dI b y bytes maxL ret' d' 0 0 n n (.ref a :: as) M (emL x).1 (emL x).2) (hC : CX κ cc own nL ret d) (hd : decode cc pc = .ok (.invokevirtual i, 3)) (hq : pc + 3 = q) (hst : as.reverse ++ .ref a :: st = st0) (h8 : (st.map fun v => v.category).sum ≤ 8) (kk : ∀ x, X κ nL em n cs q L (.long x.1 :: st) x.2 (K x)) : X κ nL em n cs pc L st0 M (Option.bind cr K) :=
  x_callV (mc' := 0) (ms' := 0) (emc := emL) hw hna hdd hroom hO hM hC hd hq hst h8 (fun x _ => kk x)
theorem x_callVv {y : MethodName} {bytes : ByteArray} {maxL : Nat} {ret' : Option FieldType} {d' i na a ci : Nat} {as st0 : List Value} {cr : Option (Mem)} {K : Mem → Option α} (hw : zCB own i y bytes maxL ret' na ∧ Cond.instanceMethod y ∈ zTb ∧ Cond.selects y.cls y y ∈ zTb ∧ y.cls = zNm ci ∧ ci < 13) (hna : as.length = na) (hdd : d' + 1 ≤ d ∧ maxL ≤ 45) (hroom : zRk κ cs) (hO : zO n a ci) (hM : ∀ x, cr = some x → ∀ l dC dI b, MT l dC dI b y bytes maxL ret' d' 0 0 n n (.ref a :: as) M (emV x).1 (emV x).2) (hC : CX κ cc own nL ret d) (hd : decode cc pc = .ok (.invokevirtual i, 3)) (hq : pc + 3 = q) (hst : as.reverse ++ .ref a :: st = st0) (h8 : (st.map fun v => v.category).sum ≤ 8) (kk : ∀ x, X κ nL em n cs q L (st) x (K x)) : X κ nL em n cs pc L st0 M (Option.bind cr K) :=
  x_callV (mc' := 0) (ms' := 0) (emc := emV) hw hna hdd hroom hO hM hC hd hq hst h8 (fun x _ => kk x)
theorem x_nmM {e : Mem} {K : Mem → Option α} (h : ∀ M1, X κ nL em n cs pc L st M1 (K M1)) : X κ nL em n cs pc L st e (Option.bind (some e) K) := h e
theorem x_nmI {e : Int32} {K : Int32 → Option α} (F : Int32 → List Value) (hL : F e = L) (h : ∀ v, X κ nL em n cs pc (F v) st M (K v)) : X κ nL em n cs pc L st M (Option.bind (some e) K) := by subst hL; exact h e
theorem x_nmJ {e : Int64} {K : Int64 → Option α} (F : Int64 → List Value) (hL : F e = L) (h : ∀ v, X κ nL em n cs pc (F v) st M (K v)) : X κ nL em n cs pc L st M (Option.bind (some e) K) := by subst hL; exact h e
def zbz {α : Type} (v : Int32) (K : Option α) : Option α := if v = 0 ∨ v = 1 then K else none
theorem x_bz {v : Int32} (h : (narrow .boolean (.int v) = .int v ∧ fits .boolean (.int v) = true) → X κ nL em n cs pc L st M res) : X κ nL em n cs pc L st M (zbz v res) := by
  unfold zbz
  by_cases hv : v = 0 ∨ v = 1
  · rw [if_pos hv]; exact h (by rcases hv with rfl | rfl <;> exact ⟨rfl, rfl⟩)
  · rw [if_neg hv]; exact fun r hr => by cases hr
def zle : List Value → List Value → Prop
  | [], _ => True
  | _ :: _, [] => False
  | a :: L', b :: L => (a = .null ∨ a = b) ∧ zle L' L
theorem zle_get : ∀ {L' L : List Value}, zle L' L → ∀ (i : Nat) (v : Value), L'[i]? = some v → v ≠ .null → L[i]? = some v
  | [], _, _, i, v, h, _ => by simp at h
  | _ :: _, [], h0, _, _, _, _ => h0.elim
  | a :: L', b :: L, h0, 0, v, h, hv => by
    simp at h
    subst h
    rcases h0.1 with h1 | h1
    · exact absurd h1 hv
    · rw [h1]; rfl
  | a :: L', b :: L, h0, i + 1, v, h, hv => by
    have := zle_get h0.2 i v (by simpa using h) hv
    simpa using this
theorem x_weak {L' : List Value} (hL : zle L' L) (h : X κ nL em n cs pc L' st M res) : X κ nL em n cs pc L st M res :=
  fun r hr H locs ls h2 hl => h r hr H locs ls h2 ⟨hl.1, hl.2.1, fun i v hi hv => hl.2.2 i v (zle_get hL i v hi hv) hv⟩
end
