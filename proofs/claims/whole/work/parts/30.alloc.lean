/-! making cells; constructors -/
theorem zSH_lt {n : Nat} (h : (zSH n).1 ≠ 99) : n < 395 := by
  refine Nat.not_le.mp fun hn => h ?_
  unfold zSH
  rw [if_neg (by omega), if_neg (by omega)]
  have : zSHb.length ≤ n - 327 := by
    have e : zSHb.length = 68 := rfl
    omega
  rw [List.getD_eq_getElem?_getD, List.getElem?_eq_none this]
  rfl
theorem zTy_ok : ∀ c, c < 13 → ∀ k, k < zN c → zvk (zTy c k) ≠ 4 := by decide +kernel
theorem znew_I (M : Mem) (n j : Nat) : zI (znew M n) n j = 0 := by
  show zup M.1 n (fun _ => 0) n j = 0
  rw [zup_self]
theorem znew_L (M : Mem) (n j : Nat) : zL (znew M n) n j = 0 := by
  show zup M.2.1 n (fun _ => 0) n j = 0
  rw [zup_self]
theorem znew_R (M : Mem) (n j : Nat) : zR (znew M n) n j = 0 := by
  show zup M.2.2 n (fun _ => 0) n j = 0
  rw [zup_self]
theorem zva_new {b : zSg} {M : Mem} {n j : Nat} {ty : FieldType} (h : zvk ty ≠ 4) : defaultValue ty = zva b (znew M n) ty n j := by
  cases ty <;> first | exact absurd rfl h | (unfold zva; simp only [zvk, znew_I, znew_L, znew_R]; rfl)
theorem zO_le {n n' a k : Nat} (h : zO n a k) (hn : n ≤ n') : zO n' a k := ⟨Nat.lt_of_lt_of_le h.1 hn, h.2⟩
theorem zRL.grow {dC : Nat → ClassId} {dI : Nat → Nat → Nat} {s : State} {b : zSg} {n : Nat} {M : Mem} {H H' : Heap} (h : zRL dC dI b s n M H) (hn : n + 1 ≤ 1000000) (hsz : H'.size = H.size + 1) (ho : ∀ q, q < H.size → H'[q]? = H[q]?) (hc : zCell dC dI s b (znew M n) H' n) : zRL dC dI b s (n + 1) (znew M n) H' := by
  refine ⟨by rw [hsz, h.1]; omega, hn, fun a ha => ?_, fun a ha j hne => ?_⟩
  · by_cases e : a = n
    · subst e; exact hc
    · have hM := zOff_new M n a e
      exact (h.2.2.1 a (by omega)).kept (ho _ (by rw [h.1]; omega)) hM.1 hM.2.1 hM.2.2
  · by_cases e : a = n
    · subst e; exact absurd (znew_R M a j) hne
    · have hM := (zOff_new M n a e).2.2
      rw [hM] at hne ⊢
      exact zO_le (h.2.2.2 a (by omega) j hne) (Nat.le_succ _)
theorem arrV_null (cA : ClassId) (N : Nat) : arrV cA N (fun _ => Value.null) = { cls := cA, slots := Array.replicate N .null, vm := .none } := by
  unfold arrV
  congr 1
  apply Array.ext
  · simp
  · intro i h1 h2; simp
def zAO (U : State) : Prop := va_AO "FlashPages$Row" U ∧ va_AO "FlashPages$Pages" U
theorem zAO.moved {s U : State} (h : s.vm.Alike U.vm) (hA : zAO s) : zAO U := ⟨hA.1.moved h, hA.2.moved h⟩
def zPcC (dC : Nat → ClassId) (dI : Nat → Nat → Nat) (b : zSg) (n : Nat) (as : List Value) (M : Mem) : Array Value → State → Prop := fun a U => zPc dC dI b n as M a U ∧ zAO U
def MTc (l : Launch) (dC : Nat → ClassId) (dI : Nat → Nat → Nat) (b : zSg) (y : MethodName) (bytes : ByteArray) (maxL d mc ms n n' : Nat) (as : List Value) (M : Mem) (M' : Mem) : Prop :=
  Met l y (Cond.code y bytes maxL none :: zTb) (zRm d mc ms) (zPcC dC dI b n as M) (zQ dC dI b n' none M') mc ms (fun q => b.1 ≤ q)
def zAOk (κ : KX) : Prop := match κ with
  | (_, _, _, _, s, _, _, _, _, _, _, _, _, _, _, _) => zAO s
theorem zPcC_blind {dC : Nat → ClassId} {dI : Nat → Nat → Nat} {b : zSg} {n : Nat} {as : List Value} {M : Mem} : FrameBlind (zPcC dC dI b n as M) := by
  intro a U g mk h
  exact ⟨zPc_blind a U g mk h.1, zAO.moved (s := U) (U := U.calling g mk a) (Vm.Alike.refl U.vm) h.2⟩
theorem MTc.ofX {l : Launch} {dC : Nat → ClassId} {dI : Nat → Nat → Nat} {b : zSg} {y : MethodName} {bytes : ByteArray} {maxL : Nat} {d mc ms n n' : Nat} {as L0 : List Value} {M : Mem} {res : Option Mem} (hy : plainFor y = true) (hL : zent as maxL = L0) (hlen : (lg_sl as).length ≤ maxL)
    (h : ∀ κ : KX, CX κ bytes y.cls maxL none d → zFn κ l dC dI b mc ms n' → zNam κ y → zAOk κ → X κ maxL emV n (0, 0) 0 L0 [] M res) (x : Mem) (hx : res = some x) : MTc l dC dI b y bytes maxL d mc ms n n' as M x := by
  refine va_MetF (cc := bytes) (maxL := maxL) (ret := none) hy rfl ?_
  intro p e s m args below meth c s₁ B hml hv
  obtain ⟨⟨rfl, hRL, hK, hN⟩, hAO⟩ := hv
  have hts := atoms_spec (ws := Cond.code y bytes maxL none :: zTb) B.pre
  have hX := h (p, l, e, zRm d mc ms, s, m, _, below, meth, c, dC, dI, b, mc, ms, n') ⟨B.exec, B.bytes, hml, findClass_of_methodNamed B.named, fun w hw => hts w (List.mem_cons_of_mem _ hw), B.returns, B.notSynchronized, hK, ⟨Nat.le_refl _, Nat.le_refl _, rfl, rfl⟩, hN⟩ ⟨rfl, rfl, rfl, rfl, rfl, rfl, rfl⟩ (name_of_methodNamed B.named B.method).1 hAO x hx s.heap []
  have hlen' : (lg_sl (as.map (zrv b))).length ≤ maxL := by rw [lg_sl_len]; exact hlen
  have hl := lv_entry (as.map (zrv b)) (n := maxL) hlen'
  rw [lg_entry_eq]
  refine hX _ ⟨hRL, fun q hq => absurd hq List.not_mem_nil, Nat.le_refl _, by rw [hRL.1]; exact Nat.le_add_right _ _, fun _ _ => rfl⟩ ⟨hl.1, hl.2.1, fun i v hi hv => ?_⟩
  subst hL
  unfold zent at hi
  have hi2 : ((as.flatMap fun v => if v.category = 2 then [v, Value.null] else [v]))[i]? = some v := by
    by_cases hlt : i < (as.flatMap fun v => if v.category = 2 then [v, Value.null] else [v]).length
    · rw [List.getElem?_append_left hlt] at hi; exact hi
    · rw [List.getElem?_append_right (by omega)] at hi
      have := List.mem_of_getElem? hi
      exact absurd (List.eq_of_mem_replicate this) hv
  have := zent_args b as 0 i v hi2 hv
  rw [Nat.zero_add] at this
  exact hl.2.2 _ this
section
variable {α : Type} {κ : KX} {nL : Nat} {em : α → Option Value × Mem} {n : Nat} {cs : Nat × Nat} {pc q : Nat} {L st : List Value} {M : Mem} {res : Option α} {cc : ByteArray} {own : String} {ret : Option FieldType} {d : Nat}
theorem x_if {c : Prop} {_h : Decidable c} (k : c → X κ nL em n cs pc L st M res) : X κ nL em n cs pc L st M (if c then res else none) := by
  by_cases h : c
  · rw [if_pos h]; exact k h
  · rw [if_neg h]; exact x_none
theorem x_new {i ci N n2 : Nat} {cs2 : Nat × Nat} (hw : Cond.classLink own i (zNm ci) ∈ zTb ∧ Cond.instantiable (zNm ci) (zN ci) ∈ zTb ∧ Cond.initialized (zNm ci) ∈ zTb ∧ ci < 13 ∧ zN ci = N) (hsh : zSH n = (ci, N)) (hn2 : n + 1 = n2) (hcs : (cs.1 + 1, cs.2 + N) = cs2) (hrk : zRk κ cs2) (hC : CX κ cc own nL ret d) (hd : decode cc pc = .ok (.new i, 3)) (hq : pc + 3 = q) (kk : zO n2 n ci → X κ nL em n2 cs2 q L (.ref n :: st) (znew M n) res) : X κ nL em n cs pc L st M res := by
  subst hq; subst hn2; subst hcs
  obtain ⟨w1, w2, w3, w4, rfl⟩ := hw
  have hn : n < 395 := zSH_lt (by rw [hsh]; omega)
  have kk := kk ⟨Nat.lt_succ_self n, by rw [hsh]⟩
  obtain ⟨p, l, e, R, s, m, args, below, meth, c, dC, dI, b, mc, ms, n'⟩ := κ
  obtain ⟨hx, hb, hml, hown, hts, hr, hlk, hK, hR, hNs⟩ := hC
  intro r hr0 H locs ls h2 hl
  obtain ⟨hRL, hlo, hmo, hb0, hfr⟩ := h2
  have hKn := hK.1 ci _ (zCl_at ci w4)
  refine W.newcK hx hb hown (hts _ w1) (hts _ w2) (hts _ w3) rfl hd (by rw [hR.2.2.1]; exact hrk.1) (by rw [hR.2.2.2]; exact hrk.2) hKn.2.1 hRL.1 fun H1 kC hkC e1 z1 o1 => ?_
  have hg := kk r hr0 H1 locs ls ⟨hRL.grow (by omega) (by rw [z1, hRL.1]) (fun q h => o1 q (by rw [← hRL.1]; exact h)) (zObj' ((u_born (zTy ci) hts (zIn ci w4) hKn hkC e1 (zTyOk ci w4)).to (fun j hj => zva_new (zTy_ok ci w4 j hj))) w4 (by rw [hsh])), hlo, by rw [z1]; rw [hRL.1] at hmo; omega, hb0, fun q h => (o1 q (by omega)).trans (hfr q h)⟩ hl
  have hg : W p l e R s m args below meth c H1 locs (cs.1 + 1) (cs.2 + zN ci) _ (F0 m (pc + 3) ls (.ref (zad b n) :: st.map (zrv b))) := hg
  rw [zad_lt (Nat.lt_succ_self n) (by omega)] at hg
  exact hg
theorem x_newa {k N n2 : Nat} {atype : ArrayType} {v : Int32} {cs2 : Nat × Nat} (hw : Cond.arrayClass (zAT k) ∈ zTb) (hk : k = 20 ∨ k = 21 ∨ k = 22) (hty : newarray.typeOf atype = zAT k) (hv : ¬ v < 0 ∧ v.toNatClampNeg = N ∧ N ≤ 60000000) (hsh : zSH n = (k, N)) (hn2 : n + 1 = n2) (hcs : (cs.1 + 1, cs.2 + N) = cs2) (hrk : zRk κ cs2) (hC : CX κ cc own nL ret d) (hd : decode cc pc = .ok (.newarray atype, 2)) (hq : pc + 2 = q) (kk : zO n2 n k → X κ nL em n2 cs2 q L (.ref n :: st) (znew M n) res) : X κ nL em n cs pc L (.int v :: st) M res := by
  subst hq; subst hn2; subst hcs
  have hn : n < 395 := zSH_lt (by rw [hsh]; omega)
  have kk := kk ⟨Nat.lt_succ_self n, by rw [hsh]⟩
  obtain ⟨p, l, e, R, s, m, args, below, meth, c, dC, dI, b, mc, ms, n'⟩ := κ
  obtain ⟨hx, hb, hml, hown, hts, hr, hlk, hK, hR, hNs⟩ := hC
  intro r hr0 H locs ls h2 hl
  obtain ⟨hRL, hlo, hmo, hb0, hfr⟩ := h2
  have hnd : ¬ k < 13 := by omega
  have hbytes : N * componentBytes (newarray.typeOf atype) ≤ 536870912 := by
    have h8 : componentBytes (newarray.typeOf atype) ≤ 8 := by rw [hty]; rcases hk with h | h | h <;> subst h <;> decide
    calc N * componentBytes (newarray.typeOf atype) ≤ 60000000 * 8 := Nat.mul_le_mul hv.2.2 h8
      _ ≤ 536870912 := by decide
  refine va_newaK hx hb (by rw [hty]; exact hts _ hw) rfl hd rfl hv.1 hv.2.1 hbytes (by rw [hR.2.2.1]; exact hrk.1) (by rw [hR.2.2.2]; exact hrk.2) hRL.1 fun H1 cA e1 z1 o1 hAr hNm => ?_
  rw [hty] at e1 hAr hNm
  have hg := kk r hr0 H1 locs ls ⟨hRL.grow (by omega) (by rw [z1, hRL.1]) (fun q h => o1 q (by rw [← hRL.1]; exact h)) (zArr' (k := k) (N := N) ⟨cA, hAr, by rcases hk with h | h | h <;> subst h <;> exact hNm, by
    rw [e1]
    congr 2
    funext j
    exact zva_new (by rcases hk with h | h | h <;> subst h <;> decide)⟩ hnd (by rw [hsh]) (by rw [hsh])), hlo, by rw [z1]; rw [hRL.1] at hmo; omega, hb0, fun q h => (o1 q (by omega)).trans (hfr q h)⟩ hl
  have hg : W p l e R s m args below meth c H1 locs (cs.1 + 1) (cs.2 + N) _ (F0 m (pc + 2) ls (.ref (zad b n) :: st.map (zrv b))) := hg
  rw [zad_lt (Nat.lt_succ_self n) (by omega)] at hg
  exact hg
theorem x_anew {k ke i N n2 : Nat} {v : Int32} {cs2 : Nat × Nat} (hAO : zAOk κ) (hw : Cond.classLink own i (zNm ke) ∈ zTb) (hk : k = 23 ∧ ke = 8 ∨ k = 24 ∧ ke = 5) (hke : zAT k = .object (zNm ke)) (hv : ¬ v < 0 ∧ v.toNatClampNeg = N ∧ N ≤ 60000000) (hsh : zSH n = (k, N)) (hn2 : n + 1 = n2) (hcs : (cs.1 + 1, cs.2 + N) = cs2) (hrk : zRk κ cs2) (hC : CX κ cc own nL ret d) (hd : decode cc pc = .ok (.anewarray i, 3)) (hq : pc + 3 = q) (kk : zO n2 n k → X κ nL em n2 cs2 q L (.ref n :: st) (znew M n) res) : X κ nL em n cs pc L (.int v :: st) M res := by
  subst hq; subst hn2; subst hcs
  obtain ⟨hv1, rfl, hv3⟩ := hv
  have hn : n < 395 := zSH_lt (by rw [hsh]; rcases hk with ⟨h, -⟩ | ⟨h, -⟩ <;> simp [h])
  have kk := kk ⟨Nat.lt_succ_self n, by rw [hsh]⟩
  obtain ⟨p, l, e, R, s, m, args, below, meth, c, dC, dI, b, mc, ms, n'⟩ := κ
  obtain ⟨hx, hb, hml, hown, hts, hr, hlk, hK, hR, hNs⟩ := hC
  intro r hr0 H locs ls h2 hl
  obtain ⟨hRL, hlo, hmo, hb0, hfr⟩ := h2
  have hnd : ¬ k < 13 := by rcases hk with ⟨h, -⟩ | ⟨h, -⟩ <;> omega
  have hover : (Cond.arrayOver (.object (zNm ke))).before args s = true := by
    rcases hk with ⟨-, rfl⟩ | ⟨-, rfl⟩
    · exact va_AO.use hAO.1
    · exact va_AO.use hAO.2
  replace hk : k = 23 ∨ k = 24 := hk.imp And.left And.left
  refine W.anew hx hb hown (hts _ hw) hover rfl hd rfl hv1 (by omega) (by rw [hR.2.2.1]; exact hrk.1) (by rw [hR.2.2.2]; exact hrk.2) fun cA kA comp f1 f2 f3 f4 => ?_
  have hsz : (H.push { cls := cA, slots := Array.replicate v.toNatClampNeg .null, vm := .none }).size = H.size + 1 := by simp
  have ho : ∀ q, q < H.size → (H.push { cls := cA, slots := Array.replicate v.toNatClampNeg .null, vm := .none })[q]? = H[q]? := fun q h => by rw [Array.getElem?_push, if_neg (Nat.ne_of_lt h)]
  have hcell : (H.push { cls := cA, slots := Array.replicate v.toNatClampNeg .null, vm := .none })[b.1 + n]? = some (arrV cA v.toNatClampNeg (fun _ => Value.null)) := by
    rw [arrV_null, ← hRL.1, Array.getElem?_push, if_pos rfl]
  have hg := kk r hr0 _ locs ls ⟨hRL.grow (by omega) hsz ho (zArr' (k := k) (N := v.toNatClampNeg) ⟨cA, by rw [hke]; exact fun n z => ⟨fun k h => (by cases h), kA, f2, comp, f3⟩, by rw [hke]; exact ⟨kA, comp, f2, f3, f4, f1⟩, by
    rw [hcell]
    congr 2
    funext j
    exact zva_new (ty := zAT k) (by rcases hk with h | h <;> subst h <;> decide) |>.symm ▸ (by rcases hk with h | h <;> subst h <;> rfl)⟩ hnd (by rw [hsh]) (by rw [hsh])), hlo, by rw [hsz]; omega, hb0, fun q h => (ho q (by rw [hRL.1]; omega)).trans (hfr q h)⟩ hl
  have hg : W p l e R s m args below meth c _ locs (cs.1 + 1) (cs.2 + v.toNatClampNeg) _ (F0 m (pc + 3) ls (.ref (zad b n) :: st.map (zrv b))) := hg
  rw [zad_lt (Nat.lt_succ_self n) (by omega), ← hRL.1] at hg
  exact hg
theorem x_aast {a v kd ke : Nat} {i : Int32} {K : Nat → Option α} (hO : zO n a kd) (hkd : kd = 23 ∨ kd = 24) (hke : zAK kd = ke ∧ zAT kd = .object (zNm ke) ∧ ke < 13) (hO2 : zO n v ke) (hC : CX κ cc own nL ret d) (hd : decode cc pc = .ok (.aastore, 1)) (hq : pc + 1 = q) (kk : ∀ k, zld a i = some k → X κ nL em n cs q L st (zsR M a k (v + 1)) (K k)) : X κ nL em n cs pc L (.ref v :: .int i :: .ref a :: st) M (Option.bind (zld a i) K) := by
  subst hq
  obtain ⟨rfl, hat, hk13⟩ := hke
  refine x_ldcase fun k hk => ?_
  have kk := kk k hk
  have hnd : ¬ kd < 13 := by rcases hkd with h | h <;> omega
  obtain ⟨p, l, e, R, s, m, args, below, meth, c, dC, dI, b, mc, ms, n'⟩ := κ
  obtain ⟨hx, hb, hml, hown, hts, hr, hlk, hK, hR, hNs⟩ := hC
  intro r hr0 H locs ls h2 hl
  obtain ⟨hRL, hlo, hmo, hb0, hfr⟩ := h2
  obtain ⟨hin, rfl⟩ := zld_spec hk
  obtain ⟨cA, h1, h4, h3⟩ := zArr (hRL.2.2.1 a hO.1) hnd hO.2 rfl
  have hlt : i.toNatClampNeg < (zSH a).2 := Nat.not_le.mp fun q => hin (Or.inr q)
  have h0 : ¬ i < 0 := fun q => hin (Or.inl q)
  obtain ⟨cellV, g1, g2, g3, -⟩ := zObj (hRL.2.2.1 v hO2.1) hk13 hO2.2
  have hcls := (hK.1 (zAK kd) _ (zCl_at (zAK kd) hk13)).2
  have h4' := h4
  rw [hat] at h4'
  obtain ⟨kA, comp, k1, k2, k3, -⟩ := h4'
  have hcomp : comp = dC (zAK kd) := Option.some.inj (k3.symm.trans hcls.1)
  subst hcomp
  obtain ⟨kC, hkC, -⟩ := hcls.2
  show W p l e R s m args below meth c H locs cs.1 cs.2 _ (F0 m pc ls (.ref (zad b v) :: .int i :: .ref (zad b a) :: st.map (zrv b)))
  rw [zad_lt hO.1 hRL.2.1, zad_lt hO2.1 hRL.2.1]
  refine W.aast hx hb h3 (fun q h => by cases h) (fun h => by cases h) k1 k2 rfl hkC ⟨h0, by rw [arrV_size]; exact hlt⟩ g1 (fun q h => by rw [g3] at h; cases h) (by rw [g2]; exact hkC) (by rw [g2]; exact va_assign hcls) rfl rfl hd fun H' e1 e2 e3 => ?_
  refine kk r hr0 H' _ ls ⟨hRL.upd e2 e3 (zOff_wR M a _) (zArr' ⟨cA, h1, h4, ?_⟩ hnd hO.2 rfl) (hRL.2.2.2.R a _ v (by rw [hO.2]; unfold zKd; rw [if_neg hnd]; exact hO2)), zFin (H := H) (a := a) hlo rfl, by rw [e2]; exact hmo, hb0, fun q h => (e3 q (Nat.ne_of_lt (Nat.lt_of_lt_of_le h (Nat.le_add_right _ _)))).trans (hfr q h)⟩ hl
  rw [e1, arrV_store]
  congr 2
  funext j
  have hzr : ∀ M', zva b M' (zAT kd) a j = zre b (zR M' a j) := fun M' => zva_r (by rw [hat]; rfl)
  show updV _ _ _ j = zva b _ (zAT kd) a j
  unfold updV
  rw [hzr]
  show _ = zre b ((zup M.2.2 a (zup (zR M a) i.toNatClampNeg (v + 1))) a j)
  rw [zup_self]
  by_cases ej : j = i.toNatClampNeg
  · rw [if_pos ej, ej, zup_self]; rfl
  · rw [if_neg ej, zup_ne _ _ ej]; exact hzr M
theorem x_oinit {a i : Nat} (hw : Cond.methodLink own i Lib.objectInit ∈ zTb ∧ Cond.instanceMethod Lib.objectInit ∈ zTb ∧ Cond.code Lib.objectInit ⟨#[0xb1]⟩ 1 none ∈ zTb) (hC : CX κ cc own nL ret (d + 1)) (hd : decode cc pc = .ok (.invokespecial i, 3)) (hq : pc + 3 = q) (h8 : (st.map fun v => v.category).sum ≤ 8) (kk : X κ nL em n cs q L st M res) : X κ nL em n cs pc L (.ref a :: st) M res := by
  subst hq
  obtain ⟨p, l, e, R, s, m, args, below, meth, c, dC, dI, b, mc, ms, n'⟩ := κ
  obtain ⟨hx, hb, hml, hown, hts, hr, hlk, hK, hR, hNs⟩ := hC
  intro r hr0 H locs ls h2 hl
  have hg := kk r hr0 H locs ls h2 hl
  refine W.objInit hx hb hown (hts _ hw.1) (hts _ hw.2.1) (hts _ hw.2.2) rfl (by rw [hml]; exact hl.1) rfl hd (Nat.le_trans (Nat.le_add_left _ _) hR.1) ?_ hg
  refine Nat.le_trans ?_ hR.2.1
  have := zCat (b := b) h8
  show 2 * 0 + _ + 12 ≤ _
  omega
/-- a constructor's call -/
theorem x_callI {y : MethodName} {bytes : ByteArray} {maxL d' n2 mc' ms' i na a : Nat} {cs2 : Nat × Nat} {as st0 : List Value} {cr : Option Mem} {K : Mem → Option α} (hw : (zCB own i y bytes maxL none na ∨ zCN own i y bytes maxL none na) ∧ y.name = "<init>" ∧ Cond.instanceMethod y ∈ zTb) (hna : as.length = na) (hdd : d' + 1 ≤ d ∧ maxL ≤ 45) (hcs : (cs.1 + mc', cs.2 + ms') = cs2) (hroom : zRk κ cs2) (hO : n ≤ 1000000 → a < 1000000) (hAO : zAOk κ)
    (hM : ∀ x, cr = some x → ∀ l dC dI b, MTc l dC dI b y bytes maxL d' mc' ms' n n2 (.ref a :: as) M x) (hC : CX κ cc own nL ret d) (hd : decode cc pc = .ok (.invokespecial i, 3)) (hq : pc + 3 = q) (hst : as.reverse ++ .ref a :: st = st0) (h8 : (st.map fun v => v.category).sum ≤ 8)
    (kk : ∀ x, X κ nL em n2 cs2 q L st x (K x)) : X κ nL em n cs pc L st0 M (Option.bind cr K) := by
  subst hq; subst hst; subst hcs
  refine x_ldcase fun x hx0 => ?_
  have kk := kk x
  have hM := hM x hx0
  obtain ⟨p, l, e, R, s, m, args, below, meth, c, dC, dI, b, mc, ms, n'⟩ := κ
  obtain ⟨hx, hb, hml, hown, hts, hr, hlk, hK, hR, hNs⟩ := hC
  intro r hr0 H locs ls h2 hl
  obtain ⟨hRL, hlo, hmo, hb0, hfr⟩ := h2
  have hrun : va_Run p l e R s m args below meth c H locs cs.1 cs.2 mc' ms' (F0 m pc ls ((as.reverse ++ .ref a :: st).map (zrv b))) (st.map (zrv b)) (zQ dC dI b n2 none x (Value.ref (zad b a) :: as.map (zrv b)).toArray) (fun q => b.1 ≤ q) := by
    obtain ⟨hw0, w5, w6⟩ := hw
    rcases hw0 with ⟨w1, w2, w3, w4⟩ | ⟨⟨host, w1⟩, w2, w3, w4⟩
    · exact va_runI (e := e) (below := below) (meth := meth) (b := zad b a) (H := H) (locs := locs) (cells := cs.1) (slots := cs.2) (As := as.map (zrv b)) (rest := st.map (zrv b)) (g := F0 m pc ls ((as.reverse ++ .ref a :: st).map (zrv b))) ⟨hx, hb, hml, hown, hts⟩ (hM l dC dI b) ⟨callB_of na hts (zGoodC w3) rfl rfl rfl (hts _ w2) (hts _ w1) w4 (zRoom hR hdd), w5, hts _ w6⟩ ⟨zPcC_blind, fun U hU hW => ⟨zPc_at (as := .ref a :: as) hRL hK hNs hb0 hfr U hU hW, zAO.moved hW.alike hAO⟩⟩ rfl (by rw [List.length_map]; exact hna) hl.1 (by rw [List.map_append, List.map_reverse]; rfl) (lv_room (zCat h8)) hd (by rw [hR.2.2.1, hR.2.2.2]; exact hroom)
    · exact va_runIN (e := e) (below := below) (meth := meth) (b := zad b a) (H := H) (locs := locs) (cells := cs.1) (slots := cs.2) (As := as.map (zrv b)) (rest := st.map (zrv b)) (g := F0 m pc ls ((as.reverse ++ .ref a :: st).map (zrv b))) ⟨hx, hb, hml, hown, hts⟩ (hM l dC dI b) ⟨va_cnB na hts (zGoodC w3) rfl rfl rfl (hNs.1 _ w1) (hts _ w2) w4 (zRoom hR hdd), w5, hts _ w6⟩ ⟨zPcC_blind, fun U hU hW => ⟨zPc_at (as := .ref a :: as) hRL hK hNs hb0 hfr U hU hW, zAO.moved hW.alike hAO⟩⟩ rfl (by rw [List.length_map]; exact hna) hl.1 (by rw [List.map_append, List.map_reverse]; rfl) (lv_room (zCat h8)) hd (by rw [hR.2.2.1, hR.2.2.2]; exact hroom)
  refine zAfter hrun hlo hmo hfr (fun H1 locs1 e1 e2 e3 e4 => ?_)
  exact kk r hr0 H1 locs1 ls ⟨e1, e2, e3, hb0, e4⟩ hl
end
