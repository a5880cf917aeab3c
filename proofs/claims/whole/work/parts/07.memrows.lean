section
variable {α : Type} {κ : KX} {nL : Nat} {em : α → Option Value × Mem} {n : Nat} {cs : Nat × Nat} {pc q : Nat} {L st : List Value} {M : Mem} {res : Option α} {cc : ByteArray} {own : String} {ret : Option FieldType} {d : Nat}
def zInit (κ : KX) : Prop := match κ with
  | (_, _, _, _, _, _, _, _, meth, _, _, _, _, _, _, _) => meth.name = "<init>"
theorem zva_i {b : zSg} {M : Mem} {ty : FieldType} {a j : Nat} (h : zvk ty = 0 ∨ zvk ty = 3) : zva b M ty a j = .int (zI M a j) := by
  unfold zva; rcases h with h | h <;> (rw [h]; rfl)
theorem zva_l {b : zSg} {M : Mem} {ty : FieldType} {a j : Nat} (h : zvk ty = 1) : zva b M ty a j = .long (zL M a j) := by
  unfold zva; rw [h]; rfl
theorem zva_r {b : zSg} {M : Mem} {ty : FieldType} {a j : Nat} (h : zvk ty = 2) : zva b M ty a j = zre b (zR M a j) := by
  unfold zva; rw [h]; rfl
theorem x_getI {a i ci j k : Nat} (hf : zFL own i ci j k) (hk : k = 0 ∨ k = 3) (hO : zO n a ci) (hC : CX κ cc own nL ret d) (hd : decode cc pc = .ok (.getfield i, 3)) (hq : pc + 3 = q) (kk : X κ nL em n cs q L (.int (zI M a j) :: st) M res) : X κ nL em n cs pc L (.ref a :: st) M res := by
  subst hq
  obtain ⟨p, l, e, R, s, m, args, below, meth, c, dC, dI, b, mc, ms, n'⟩ := κ
  obtain ⟨hx, hb, hml, hown, hts, hr, hlk, hK, hR, hNs⟩ := hC
  intro r hr0 H locs ls h2 hl
  have hg := kk r hr0 H locs ls h2 hl
  obtain ⟨hRL, hlo, hmo, hb0, hfr⟩ := h2
  show W p l e R s m args below meth c H locs cs.1 cs.2 _ (F0 m pc ls (.ref (zad b a) :: st.map (zrv b)))
  rw [zad_lt hO.1 hRL.2.1]
  refine zgetW hx hb hts hown hK hf (zObj (hRL.2.2.1 a hO.1) hf.1.1 hO.2) hd ?_
  rw [zva_i (by rw [hf.1.2.2]; exact hk)]
  exact hg
theorem x_getL {a i ci j : Nat} (hf : zFL own i ci j 1) (hO : zO n a ci) (hC : CX κ cc own nL ret d) (hd : decode cc pc = .ok (.getfield i, 3)) (hq : pc + 3 = q) (kk : X κ nL em n cs q L (.long (zL M a j) :: st) M res) : X κ nL em n cs pc L (.ref a :: st) M res := by
  subst hq
  obtain ⟨p, l, e, R, s, m, args, below, meth, c, dC, dI, b, mc, ms, n'⟩ := κ
  obtain ⟨hx, hb, hml, hown, hts, hr, hlk, hK, hR, hNs⟩ := hC
  intro r hr0 H locs ls h2 hl
  have hg := kk r hr0 H locs ls h2 hl
  obtain ⟨hRL, hlo, hmo, hb0, hfr⟩ := h2
  show W p l e R s m args below meth c H locs cs.1 cs.2 _ (F0 m pc ls (.ref (zad b a) :: st.map (zrv b)))
  rw [zad_lt hO.1 hRL.2.1]
  refine zgetW hx hb hts hown hK hf (zObj (hRL.2.2.1 a hO.1) hf.1.1 hO.2) hd ?_
  rw [zva_l hf.1.2.2]
  exact hg
theorem x_getR {a i ci j k : Nat} {K : Nat → Option α} (hf : zFL own i ci j 2) (hk : zK ci j = k) (hO : zO n a ci) (hC : CX κ cc own nL ret d) (hd : decode cc pc = .ok (.getfield i, 3)) (hq : pc + 3 = q) (kk : ∀ q0, zO n q0 k → X κ nL em n cs q L (.ref q0 :: st) M (K q0)) : X κ nL em n cs pc L (.ref a :: st) M (Option.bind (zrf M a j) K) := by
  subst hq; subst hk
  obtain ⟨p, l, e, R, s, m, args, below, meth, c, dC, dI, b, mc, ms, n'⟩ := κ
  obtain ⟨hx, hb, hml, hown, hts, hr, hlk, hK, hR, hNs⟩ := hC
  intro r hr0 H locs ls h2 hl
  cases hz : zR M a j with
  | zero => rw [show zrf M a j = none by unfold zrf; rw [hz]] at hr0; cases hr0
  | succ q0 =>
    rw [show zrf M a j = some q0 by unfold zrf; rw [hz]] at hr0
    have hq0 : zO n q0 (zK ci j) := by
      have := h2.1.2.2.2 a hO.1 j (by rw [hz]; exact Nat.succ_ne_zero _)
      rw [hz, hO.2] at this
      unfold zKd at this
      rwa [if_pos hf.1.1] at this
    have hg := kk q0 hq0 r hr0 H locs ls h2 hl
    obtain ⟨hRL, hlo, hmo, hb0, hfr⟩ := h2
    show W p l e R s m args below meth c H locs cs.1 cs.2 _ (F0 m pc ls (.ref (zad b a) :: st.map (zrv b)))
    rw [zad_lt hO.1 hRL.2.1]
    refine zgetW hx hb hts hown hK hf (zObj (hRL.2.2.1 a hO.1) hf.1.1 hO.2) hd ?_
    rw [zva_r hf.1.2.2, hz]
    have hg : W p l e R s m args below meth c H locs cs.1 cs.2 _ (F0 m (pc + 3) ls (.ref (zad b q0) :: st.map (zrv b))) := hg
    rw [zad_lt hq0.1 hRL.2.1] at hg
    exact hg
theorem zFin {H : Heap} {b : zSg} {lo : Loc} {locs : List Loc} {a : Nat} (h : ∀ q ∈ locs, b.1 ≤ q.base) (hlo : lo.base = b.1 + a) : ∀ q ∈ locs ++ [lo], b.1 ≤ q.base := by
  intro q hq
  rcases List.mem_append.mp hq with h1 | h1
  · exact h q h1
  · rw [List.mem_singleton.mp h1, hlo]; exact Nat.le_add_right _ _
theorem x_putI {a i ci j k : Nat} {v : Int32} (hf : zFL own i ci j k) (hv : narrow (zTy ci j) (.int v) = .int v ∧ fits (zTy ci j) (.int v) = true) (hk : k = 0 ∨ k = 3) (hfin : (zT ci j).2.2.2 = false ∨ (zInit κ ∧ (zT ci j).1 = own)) (hO : zO n a ci) (hC : CX κ cc own nL ret d) (hd : decode cc pc = .ok (.putfield i, 3)) (hq : pc + 3 = q) (kk : X κ nL em n cs q L st (zsI M a j v) res) : X κ nL em n cs pc L (.int v :: .ref a :: st) M res := by
  subst hq
  obtain ⟨p, l, e, R, s, m, args, below, meth, c, dC, dI, b, mc, ms, n'⟩ := κ
  obtain ⟨hx, hb, hml, hown, hts, hr, hlk, hK, hR, hNs⟩ := hC
  intro r hr0 H locs ls h2 hl
  obtain ⟨hRL, hlo, hmo, hb0, hfr⟩ := h2
  show W p l e R s m args below meth c H locs cs.1 cs.2 _ (F0 m pc ls (.int v :: .ref (zad b a) :: st.map (zrv b)))
  rw [zad_lt hO.1 hRL.2.1]
  refine zputW (V' := fun j' => zva b (zsI M a j v) (zTy ci j') a j') hx hb hts hown hK hf hfin (zObj (hRL.2.2.1 a hO.1) hf.1.1 hO.2) hv.1 hv.2 (fun j' => ?_) hd (fun H' lo e0 e1 e2 e3 => ?_)
  · show updV _ j _ j' = _
    unfold updV
    by_cases ej : j' = j
    · subst ej
      rw [if_pos rfl, zva_i (by rw [hf.1.2.2]; exact hk)]
      show Value.int v = .int ((zup M.1 a (zup (zI M a) j' v)) a j')
      rw [zup_self, zup_self]
    · rw [if_neg ej]
      unfold zva
      show _ = match zvk (zTy ci j') with | 1 => _ | 2 => _ | _ => Value.int ((zup M.1 a (zup (zI M a) j v)) a j')
      rw [zup_self, zup_ne _ _ ej]
      rfl
  · exact kk r hr0 H' _ ls ⟨hRL.upd e2 e3 (zOff_wI M a _) (zObj' e1 hf.1.1 hO.2) (hRL.2.2.2.I a _), zFin (H := H) hlo e0, by rw [e2]; exact hmo, hb0, fun q h => (e3 q (Nat.ne_of_lt (Nat.lt_of_lt_of_le h (Nat.le_add_right _ _)))).trans (hfr q h)⟩ hl
theorem x_putL {a i ci j : Nat} {v : Int64} (hf : zFL own i ci j 1) (hv : narrow (zTy ci j) (.long v) = .long v ∧ fits (zTy ci j) (.long v) = true) (hfin : (zT ci j).2.2.2 = false ∨ (zInit κ ∧ (zT ci j).1 = own)) (hO : zO n a ci) (hC : CX κ cc own nL ret d) (hd : decode cc pc = .ok (.putfield i, 3)) (hq : pc + 3 = q) (kk : X κ nL em n cs q L st (zsL M a j v) res) : X κ nL em n cs pc L (.long v :: .ref a :: st) M res := by
  subst hq
  obtain ⟨p, l, e, R, s, m, args, below, meth, c, dC, dI, b, mc, ms, n'⟩ := κ
  obtain ⟨hx, hb, hml, hown, hts, hr, hlk, hK, hR, hNs⟩ := hC
  intro r hr0 H locs ls h2 hl
  obtain ⟨hRL, hlo, hmo, hb0, hfr⟩ := h2
  show W p l e R s m args below meth c H locs cs.1 cs.2 _ (F0 m pc ls (.long v :: .ref (zad b a) :: st.map (zrv b)))
  rw [zad_lt hO.1 hRL.2.1]
  refine zputW (V' := fun j' => zva b (zsL M a j v) (zTy ci j') a j') hx hb hts hown hK hf hfin (zObj (hRL.2.2.1 a hO.1) hf.1.1 hO.2) hv.1 hv.2 (fun j' => ?_) hd (fun H' lo e0 e1 e2 e3 => ?_)
  · show updV _ j _ j' = _
    unfold updV
    by_cases ej : j' = j
    · subst ej
      rw [if_pos rfl, zva_l hf.1.2.2]
      show Value.long v = .long ((zup M.2.1 a (zup (zL M a) j' v)) a j')
      rw [zup_self, zup_self]
    · rw [if_neg ej]
      unfold zva
      show _ = match zvk (zTy ci j') with | 1 => Value.long ((zup M.2.1 a (zup (zL M a) j v)) a j') | 2 => _ | _ => _
      rw [zup_self, zup_ne _ _ ej]
      rfl
  · exact kk r hr0 H' _ ls ⟨hRL.upd e2 e3 (zOff_wL M a _) (zObj' e1 hf.1.1 hO.2) (hRL.2.2.2.L a _), zFin (H := H) hlo e0, by rw [e2]; exact hmo, hb0, fun q h => (e3 q (Nat.ne_of_lt (Nat.lt_of_lt_of_le h (Nat.le_add_right _ _)))).trans (hfr q h)⟩ hl
theorem x_putR {a i ci j k v : Nat} (hf : zFL own i ci j 2) (hv : ∀ x, narrow (zTy ci j) (.ref x) = .ref x ∧ fits (zTy ci j) (.ref x) = true) (hk : zK ci j = k) (hO2 : zO n v k) (hfin : (zT ci j).2.2.2 = false ∨ (zInit κ ∧ (zT ci j).1 = own)) (hO : zO n a ci) (hC : CX κ cc own nL ret d) (hd : decode cc pc = .ok (.putfield i, 3)) (hq : pc + 3 = q) (kk : X κ nL em n cs q L st (zsR M a j (v + 1)) res) : X κ nL em n cs pc L (.ref v :: .ref a :: st) M res := by
  subst hq; subst hk
  obtain ⟨p, l, e, R, s, m, args, below, meth, c, dC, dI, b, mc, ms, n'⟩ := κ
  obtain ⟨hx, hb, hml, hown, hts, hr, hlk, hK, hR, hNs⟩ := hC
  intro r hr0 H locs ls h2 hl
  obtain ⟨hRL, hlo, hmo, hb0, hfr⟩ := h2
  show W p l e R s m args below meth c H locs cs.1 cs.2 _ (F0 m pc ls (.ref (zad b v) :: .ref (zad b a) :: st.map (zrv b)))
  rw [zad_lt hO.1 hRL.2.1, zad_lt hO2.1 hRL.2.1]
  refine zputW (V' := fun j' => zva b (zsR M a j (v + 1)) (zTy ci j') a j') hx hb hts hown hK hf hfin (zObj (hRL.2.2.1 a hO.1) hf.1.1 hO.2) (hv _).1 (hv _).2 (fun j' => ?_) hd (fun H' lo e0 e1 e2 e3 => ?_)
  · show updV _ j _ j' = _
    unfold updV
    by_cases ej : j' = j
    · subst ej
      rw [if_pos rfl, zva_r hf.1.2.2]
      show _ = zre b ((zup M.2.2 a (zup (zR M a) j' (v + 1))) a j')
      rw [zup_self, zup_self]
      rfl
    · rw [if_neg ej]
      unfold zva
      show _ = match zvk (zTy ci j') with | 1 => _ | 2 => zre b ((zup M.2.2 a (zup (zR M a) j (v + 1))) a j') | _ => _
      rw [zup_self, zup_ne _ _ ej]
      rfl
  · exact kk r hr0 H' _ ls ⟨hRL.upd e2 e3 (zOff_wR M a _) (zObj' e1 hf.1.1 hO.2) (hRL.2.2.2.R a j v (by rw [hO.2]; unfold zKd; rw [if_pos hf.1.1]; exact hO2)), zFin (H := H) hlo e0, by rw [e2]; exact hmo, hb0, fun q h => (e3 q (Nat.ne_of_lt (Nat.lt_of_lt_of_le h (Nat.le_add_right _ _)))).trans (hfr q h)⟩ hl
theorem zld_spec {a : Nat} {i : Int32} {k : Nat} (h : zld a i = some k) : ¬ (i < 0 ∨ (zSH a).2 ≤ i.toNatClampNeg) ∧ k = i.toNatClampNeg := by
  unfold zld at h
  by_cases hc : i < 0 ∨ (zSH a).2 ≤ i.toNatClampNeg
  · rw [if_pos hc] at h; cases h
  · rw [if_neg hc] at h; exact ⟨hc, (Option.some.inj h).symm⟩
theorem x_ldcase {β : Type} {o : Option β} {K : β → Option α} (h : ∀ k, o = some k → X κ nL em n cs pc L st M (K k)) : X κ nL em n cs pc L st M (Option.bind o K) := by
  cases o with
  | none => exact fun r hr => by cases hr
  | some k => exact h k rfl
theorem x_iald {a : Nat} {i : Int32} {K : Nat → Option α} (hO : zO n a 20) (hC : CX κ cc own nL ret d) (hd : decode cc pc = .ok (.iaload, 1)) (hq : pc + 1 = q) (kk : ∀ k, zld a i = some k → X κ nL em n cs q L (.int (zI M a k) :: st) M (K k)) : X κ nL em n cs pc L (.int i :: .ref a :: st) M (Option.bind (zld a i) K) := by
  subst hq
  refine x_ldcase fun k hk => ?_
  have kk := kk k hk
  obtain ⟨p, l, e, R, s, m, args, below, meth, c, dC, dI, b, mc, ms, n'⟩ := κ
  obtain ⟨hx, hb, hml, hown, hts, hr, hlk, hK, hR, hNs⟩ := hC
  intro r hr0 H locs ls h2 hl
  have hg := kk r hr0 H locs ls h2 hl
  obtain ⟨hRL, hlo, hmo, hb0, hfr⟩ := h2
  obtain ⟨hin, rfl⟩ := zld_spec hk
  obtain ⟨cA, h1, -, h3⟩ := zArr (hRL.2.2.1 a hO.1) (by decide) hO.2 rfl
  have hlt : i.toNatClampNeg < (zSH a).2 := Nat.not_le.mp fun q => hin (Or.inr q)
  show W p l e R s m args below meth c H locs cs.1 cs.2 _ (F0 m pc ls (.int i :: .ref (zad b a) :: st.map (zrv b)))
  rw [zad_lt hO.1 hRL.2.1]
  exact W.iald (v := .int (zI M a i.toNatClampNeg)) hx hb h3 (h1 _ _) (fun q => by cases q) (by rw [arrV_size]; exact hin) (by rw [arrV_read _ _ hlt]; rfl) rfl rfl hd hg
theorem x_lald {a : Nat} {i : Int32} {K : Nat → Option α} (hO : zO n a 21) (hC : CX κ cc own nL ret d) (hd : decode cc pc = .ok (.laload, 1)) (hq : pc + 1 = q) (kk : ∀ k, zld a i = some k → X κ nL em n cs q L (.long (zL M a k) :: st) M (K k)) : X κ nL em n cs pc L (.int i :: .ref a :: st) M (Option.bind (zld a i) K) := by
  subst hq
  refine x_ldcase fun k hk => ?_
  have kk := kk k hk
  obtain ⟨p, l, e, R, s, m, args, below, meth, c, dC, dI, b, mc, ms, n'⟩ := κ
  obtain ⟨hx, hb, hml, hown, hts, hr, hlk, hK, hR, hNs⟩ := hC
  intro r hr0 H locs ls h2 hl
  have hg := kk r hr0 H locs ls h2 hl
  obtain ⟨hRL, hlo, hmo, hb0, hfr⟩ := h2
  obtain ⟨hin, rfl⟩ := zld_spec hk
  obtain ⟨cA, h1, -, h3⟩ := zArr (hRL.2.2.1 a hO.1) (by decide) hO.2 rfl
  have hlt : i.toNatClampNeg < (zSH a).2 := Nat.not_le.mp fun q => hin (Or.inr q)
  show W p l e R s m args below meth c H locs cs.1 cs.2 _ (F0 m pc ls (.int i :: .ref (zad b a) :: st.map (zrv b)))
  rw [zad_lt hO.1 hRL.2.1]
  exact W.lald (v := .long (zL M a i.toNatClampNeg)) hx hb h3 (h1 _ _) (fun q => by cases q) (by rw [arrV_size]; exact hin) (by rw [arrV_read _ _ hlt]; rfl) rfl rfl hd hg
theorem x_zald {a : Nat} {i : Int32} {K : Nat → Option α} (hO : zO n a 22) (hC : CX κ cc own nL ret d) (hd : decode cc pc = .ok (.baload, 1)) (hq : pc + 1 = q) (kk : ∀ k, zld a i = some k → X κ nL em n cs q L (.int (zI M a k) :: st) M (K k)) : X κ nL em n cs pc L (.int i :: .ref a :: st) M (Option.bind (zld a i) K) := by
  subst hq
  refine x_ldcase fun k hk => ?_
  have kk := kk k hk
  obtain ⟨p, l, e, R, s, m, args, below, meth, c, dC, dI, b, mc, ms, n'⟩ := κ
  obtain ⟨hx, hb, hml, hown, hts, hr, hlk, hK, hR, hNs⟩ := hC
  intro r hr0 H locs ls h2 hl
  have hg := kk r hr0 H locs ls h2 hl
  obtain ⟨hRL, hlo, hmo, hb0, hfr⟩ := h2
  obtain ⟨hin, rfl⟩ := zld_spec hk
  obtain ⟨cA, h1, -, h3⟩ := zArr (hRL.2.2.1 a hO.1) (by decide) hO.2 rfl
  have hlt : i.toNatClampNeg < (zSH a).2 := Nat.not_le.mp fun q => hin (Or.inr q)
  show W p l e R s m args below meth c H locs cs.1 cs.2 _ (F0 m pc ls (.int i :: .ref (zad b a) :: st.map (zrv b)))
  rw [zad_lt hO.1 hRL.2.1]
  exact W.zald (v := .int (zI M a i.toNatClampNeg)) hx hb h3 (h1 _ _) (fun q => by cases q) (by rw [arrV_size]; exact hin) (by rw [arrV_read _ _ hlt]; rfl) rfl rfl hd hg
theorem x_aald {a kd ke : Nat} {i : Int32} {K : Nat → Nat → Option α} (hO : zO n a kd) (hkd : kd = 23 ∨ kd = 24) (hke : zAK kd = ke) (hC : CX κ cc own nL ret d) (hd : decode cc pc = .ok (.aaload, 1)) (hq : pc + 1 = q) (kk : ∀ k, zld a i = some k → ∀ q0, zO n q0 ke → X κ nL em n cs q L (.ref q0 :: st) M (K k q0)) : X κ nL em n cs pc L (.int i :: .ref a :: st) M (Option.bind (zld a i) fun k => Option.bind (zrf M a k) (K k)) := by
  subst hq; subst hke
  refine x_ldcase fun k hk => ?_
  have kk := kk k hk
  have hnd : ¬ kd < 13 := by rcases hkd with h | h <;> omega
  obtain ⟨p, l, e, R, s, m, args, below, meth, c, dC, dI, b, mc, ms, n'⟩ := κ
  obtain ⟨hx, hb, hml, hown, hts, hr, hlk, hK, hR, hNs⟩ := hC
  intro r hr0 H locs ls h2 hl
  cases hz : zR M a k with
  | zero => rw [show zrf M a k = none by unfold zrf; rw [hz]] at hr0; cases hr0
  | succ q0 =>
    rw [show zrf M a k = some q0 by unfold zrf; rw [hz]] at hr0
    have hq0 : zO n q0 (zAK kd) := by
      have := h2.1.2.2.2 a hO.1 k (by rw [hz]; exact Nat.succ_ne_zero _)
      rw [hz, hO.2] at this
      unfold zKd at this
      rwa [if_neg hnd] at this
    have hg := kk q0 hq0 r hr0 H locs ls h2 hl
    obtain ⟨hRL, hlo, hmo, hb0, hfr⟩ := h2
    obtain ⟨hin, rfl⟩ := zld_spec hk
    obtain ⟨cA, h1, -, h3⟩ := zArr (hRL.2.2.1 a hO.1) hnd hO.2 rfl
    have hlt : i.toNatClampNeg < (zSH a).2 := Nat.not_le.mp fun q => hin (Or.inr q)
    show W p l e R s m args below meth c H locs cs.1 cs.2 _ (F0 m pc ls (.int i :: .ref (zad b a) :: st.map (zrv b)))
    rw [zad_lt hO.1 hRL.2.1]
    have hg : W p l e R s m args below meth c H locs cs.1 cs.2 _ (F0 m (pc + 1) ls (.ref (zad b q0) :: st.map (zrv b))) := hg
    rw [zad_lt hq0.1 hRL.2.1] at hg
    exact W.aald (v := .ref (b.1 + q0)) hx hb h3 (h1 _ _) (by rcases hkd with h | h <;> subst h <;> rfl) (fun q => by cases q) (by rw [arrV_size]; exact hin) (by rw [arrV_read _ _ hlt, zva_r (by rcases hkd with h | h <;> subst h <;> rfl), hz]; rfl) rfl rfl hd hg
theorem x_iast {a : Nat} {i v : Int32} {K : Nat → Option α} (hO : zO n a 20) (hC : CX κ cc own nL ret d) (hd : decode cc pc = .ok (.iastore, 1)) (hq : pc + 1 = q) (kk : ∀ k, zld a i = some k → X κ nL em n cs q L st (zsI M a k v) (K k)) : X κ nL em n cs pc L (.int v :: .int i :: .ref a :: st) M (Option.bind (zld a i) K) := by
  subst hq
  refine x_ldcase fun k hk => ?_
  have kk := kk k hk
  obtain ⟨p, l, e, R, s, m, args, below, meth, c, dC, dI, b, mc, ms, n'⟩ := κ
  obtain ⟨hx, hb, hml, hown, hts, hr, hlk, hK, hR, hNs⟩ := hC
  intro r hr0 H locs ls h2 hl
  obtain ⟨hRL, hlo, hmo, hb0, hfr⟩ := h2
  obtain ⟨hin, rfl⟩ := zld_spec hk
  obtain ⟨cA, h1, h4, h3⟩ := zArr (hRL.2.2.1 a hO.1) (by decide) hO.2 rfl
  have hlt : i.toNatClampNeg < (zSH a).2 := Nat.not_le.mp fun q => hin (Or.inr q)
  show W p l e R s m args below meth c H locs cs.1 cs.2 _ (F0 m pc ls (.int v :: .int i :: .ref (zad b a) :: st.map (zrv b)))
  rw [zad_lt hO.1 hRL.2.1]
  refine W.iast hx hb h3 (h1 _ _) (fun q => by cases q) (by rw [arrV_size]; exact hin) rfl rfl hd fun H' e1 e2 e3 => ?_
  refine kk r hr0 H' _ ls ⟨hRL.upd e2 e3 (zOff_wI M a _) (zArr' ⟨cA, h1, h4, ?_⟩ (by decide) hO.2 rfl) (hRL.2.2.2.I a _), zFin (H := H) (a := a) hlo rfl, by rw [e2]; exact hmo, hb0, fun q h => (e3 q (Nat.ne_of_lt (Nat.lt_of_lt_of_le h (Nat.le_add_right _ _)))).trans (hfr q h)⟩ hl
  rw [e1, arrV_store]
  congr 2
  funext j
  show updV _ _ _ j = Value.int ((zup M.1 a (zup (zI M a) i.toNatClampNeg v)) a j)
  rw [zup_self]
  unfold updV zup
  by_cases ej : j = i.toNatClampNeg
  · rw [if_pos ej, if_pos ej]
  · rw [if_neg ej, if_neg ej]; rfl
theorem x_last {a : Nat} {i : Int32} {v : Int64} {K : Nat → Option α} (hO : zO n a 21) (hC : CX κ cc own nL ret d) (hd : decode cc pc = .ok (.lastore, 1)) (hq : pc + 1 = q) (kk : ∀ k, zld a i = some k → X κ nL em n cs q L st (zsL M a k v) (K k)) : X κ nL em n cs pc L (.long v :: .int i :: .ref a :: st) M (Option.bind (zld a i) K) := by
  subst hq
  refine x_ldcase fun k hk => ?_
  have kk := kk k hk
  obtain ⟨p, l, e, R, s, m, args, below, meth, c, dC, dI, b, mc, ms, n'⟩ := κ
  obtain ⟨hx, hb, hml, hown, hts, hr, hlk, hK, hR, hNs⟩ := hC
  intro r hr0 H locs ls h2 hl
  obtain ⟨hRL, hlo, hmo, hb0, hfr⟩ := h2
  obtain ⟨hin, rfl⟩ := zld_spec hk
  obtain ⟨cA, h1, h4, h3⟩ := zArr (hRL.2.2.1 a hO.1) (by decide) hO.2 rfl
  have hlt : i.toNatClampNeg < (zSH a).2 := Nat.not_le.mp fun q => hin (Or.inr q)
  show W p l e R s m args below meth c H locs cs.1 cs.2 _ (F0 m pc ls (.long v :: .int i :: .ref (zad b a) :: st.map (zrv b)))
  rw [zad_lt hO.1 hRL.2.1]
  refine W.last hx hb h3 (h1 _ _) (fun q => by cases q) (by rw [arrV_size]; exact hin) rfl rfl hd fun H' e1 e2 e3 => ?_
  refine kk r hr0 H' _ ls ⟨hRL.upd e2 e3 (zOff_wL M a _) (zArr' ⟨cA, h1, h4, ?_⟩ (by decide) hO.2 rfl) (hRL.2.2.2.L a _), zFin (H := H) (a := a) hlo rfl, by rw [e2]; exact hmo, hb0, fun q h => (e3 q (Nat.ne_of_lt (Nat.lt_of_lt_of_le h (Nat.le_add_right _ _)))).trans (hfr q h)⟩ hl
  rw [e1, arrV_store]
  congr 2
  funext j
  show updV _ _ _ j = Value.long ((zup M.2.1 a (zup (zL M a) i.toNatClampNeg v)) a j)
  rw [zup_self]
  unfold updV zup
  by_cases ej : j = i.toNatClampNeg
  · rw [if_pos ej, if_pos ej]
  · rw [if_neg ej, if_neg ej]; rfl
theorem x_zast {a : Nat} {i v : Int32} {K : Nat → Option α} (hv : narrow .boolean (.int v) = .int v) (hO : zO n a 22) (hC : CX κ cc own nL ret d) (hd : decode cc pc = .ok (.bastore, 1)) (hq : pc + 1 = q) (kk : ∀ k, zld a i = some k → X κ nL em n cs q L st (zsI M a k v) (K k)) : X κ nL em n cs pc L (.int v :: .int i :: .ref a :: st) M (Option.bind (zld a i) K) := by
  subst hq
  refine x_ldcase fun k hk => ?_
  have kk := kk k hk
  obtain ⟨p, l, e, R, s, m, args, below, meth, c, dC, dI, b, mc, ms, n'⟩ := κ
  obtain ⟨hx, hb, hml, hown, hts, hr, hlk, hK, hR, hNs⟩ := hC
  intro r hr0 H locs ls h2 hl
  obtain ⟨hRL, hlo, hmo, hb0, hfr⟩ := h2
  obtain ⟨hin, rfl⟩ := zld_spec hk
  obtain ⟨cA, h1, h4, h3⟩ := zArr (hRL.2.2.1 a hO.1) (by decide) hO.2 rfl
  have hlt : i.toNatClampNeg < (zSH a).2 := Nat.not_le.mp fun q => hin (Or.inr q)
  show W p l e R s m args below meth c H locs cs.1 cs.2 _ (F0 m pc ls (.int v :: .int i :: .ref (zad b a) :: st.map (zrv b)))
  rw [zad_lt hO.1 hRL.2.1]
  refine W.zast hx hb h3 (h1 _ _) (fun q => by cases q) (by rw [arrV_size]; exact hin) rfl rfl hd fun H' e1 e2 e3 => ?_
  refine kk r hr0 H' _ ls ⟨hRL.upd e2 e3 (zOff_wI M a _) (zArr' ⟨cA, h1, h4, ?_⟩ (by decide) hO.2 rfl) (hRL.2.2.2.I a _), zFin (H := H) (a := a) hlo rfl, by rw [e2]; exact hmo, hb0, fun q h => (e3 q (Nat.ne_of_lt (Nat.lt_of_lt_of_le h (Nat.le_add_right _ _)))).trans (hfr q h)⟩ hl
  rw [e1, hv, arrV_store]
  congr 2
  funext j
  show updV _ _ _ j = Value.int ((zup M.1 a (zup (zI M a) i.toNatClampNeg v)) a j)
  rw [zup_self]
  unfold updV zup
  by_cases ej : j = i.toNatClampNeg
  · rw [if_pos ej, if_pos ej]
  · rw [if_neg ej, if_neg ej]; rfl
def zlen (a : Nat) : Int32 := (zSH a).2.toInt32
theorem x_alen {a k : Nat} (hO : zO n a k) (hk : ¬ k < 13) (hC : CX κ cc own nL ret d) (hd : decode cc pc = .ok (.arraylength, 1)) (hq : pc + 1 = q) (kk : X κ nL em n cs q L (.int (zlen a) :: st) M res) : X κ nL em n cs pc L (.ref a :: st) M res := by
  subst hq
  obtain ⟨p, l, e, R, s, m, args, below, meth, c, dC, dI, b, mc, ms, n'⟩ := κ
  obtain ⟨hx, hb, hml, hown, hts, hr, hlk, hK, hR, hNs⟩ := hC
  intro r hr0 H locs ls h2 hl
  have hg := kk r hr0 H locs ls h2 hl
  obtain ⟨hRL, hlo, hmo, hb0, hfr⟩ := h2
  obtain ⟨cA, h1, -, h3⟩ := zArr (hRL.2.2.1 a hO.1) hk hO.2 rfl
  show W p l e R s m args below meth c H locs cs.1 cs.2 _ (F0 m pc ls (.ref (zad b a) :: st.map (zrv b)))
  rw [zad_lt hO.1 hRL.2.1]
  exact W.alen (n := zlen a) hx hb h3 (h1 _ _) (by rw [arrV_size]; rfl) rfl rfl hd hg
end
