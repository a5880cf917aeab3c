/-! fields and arrays -/
theorem zad_lt {b : zSg} {n a : Nat} (ha : a < n) (hn : n ≤ 1000000) : zad b a = b.1 + a := if_pos (Nat.lt_of_lt_of_le ha hn)
theorem zup_self {α : Type} (f : Nat → α) (k : Nat) (v : α) : zup f k v k = v := if_pos rfl
theorem zup_ne {α : Type} (f : Nat → α) {k j : Nat} (v : α) (h : j ≠ k) : zup f k v j = f j := if_neg h
def zOff (M M' : Mem) (a : Nat) : Prop := ∀ a', a' ≠ a → zI M' a' = zI M a' ∧ zL M' a' = zL M a' ∧ zR M' a' = zR M a'
theorem zOff_wI (M : Mem) (a : Nat) (f : Nat → Int32) : zOff M (zwI M a f) a := fun _ h => ⟨zup_ne _ _ h, rfl, rfl⟩
theorem zOff_wL (M : Mem) (a : Nat) (f : Nat → Int64) : zOff M (zwL M a f) a := fun _ h => ⟨rfl, zup_ne _ _ h, rfl⟩
theorem zOff_wR (M : Mem) (a : Nat) (f : Nat → Nat) : zOff M (zwR M a f) a := fun _ h => ⟨rfl, rfl, zup_ne _ _ h⟩
theorem zOff.tr {M M1 M2 : Mem} {a : Nat} (h : zOff M M1 a) (h2 : zOff M1 M2 a) : zOff M M2 a := fun a' ha => ⟨(h2 a' ha).1.trans (h a' ha).1, (h2 a' ha).2.1.trans (h a' ha).2.1, (h2 a' ha).2.2.trans (h a' ha).2.2⟩
theorem zOff_new (M : Mem) (a : Nat) : zOff M (znew M a) a := ((zOff_wI M a _).tr (zOff_wL _ a _)).tr (zOff_wR _ a _)
theorem zva_congr {b : zSg} {M M' : Mem} {a : Nat} (hI : zI M' a = zI M a) (hL : zL M' a = zL M a) (hR : zR M' a = zR M a) (ty : FieldType) (j : Nat) : zva b M' ty a j = zva b M ty a j := by
  unfold zva; rw [hI, hL, hR]
theorem zCell.kept {dC : Nat → ClassId} {dI : Nat → Nat → Nat} {s : State} {b : zSg} {M M' : Mem} {H H' : Heap} {a : Nat} (h : zCell dC dI s b M H a) (hH : H'[b.1 + a]? = H[b.1 + a]?) (hI : zI M' a = zI M a) (hL : zL M' a = zL M a) (hR : zR M' a = zR M a) : zCell dC dI s b M' H' a := by
  unfold zCell at h ⊢
  by_cases hk : (zSH a).1 < 13
  · rw [if_pos hk] at h ⊢
    exact (h.kept hH).to (fun j _ => (zva_congr hI hL hR _ j).symm)
  · rw [if_neg hk] at h ⊢
    obtain ⟨cA, h1, h2, h3⟩ := h
    refine ⟨cA, h1, h2, ?_⟩
    rw [hH, h3]
    congr 2
    funext j
    exact (zva_congr hI hL hR _ j).symm
theorem zCell.moved {dC : Nat → ClassId} {dI : Nat → Nat → Nat} {s t : State} {b : zSg} {M : Mem} {H : Heap} {a : Nat} (hvm : s.vm.Alike t.vm) (h : zCell dC dI s b M H a) : zCell dC dI t b M H a := by
  unfold zCell at h ⊢
  by_cases hk : (zSH a).1 < 13
  · rw [if_pos hk] at h ⊢; exact h
  · rw [if_neg hk] at h ⊢
    obtain ⟨cA, h1, h2, h3⟩ := h
    exact ⟨cA, arrOfT_moved hvm h1, h2.moved hvm, h3⟩
theorem zRL.moved {dC : Nat → ClassId} {dI : Nat → Nat → Nat} {s t : State} {b : zSg} {n : Nat} {M : Mem} {H : Heap} (hvm : s.vm.Alike t.vm) (h : zRL dC dI b s n M H) : zRL dC dI b t n M H := ⟨h.1, h.2.1, fun a ha => (h.2.2.1 a ha).moved hvm, h.2.2.2⟩
theorem zRL.upd {dC : Nat → ClassId} {dI : Nat → Nat → Nat} {s : State} {b : zSg} {n a : Nat} {M M' : Mem} {H H' : Heap} (h : zRL dC dI b s n M H) (hsz : H'.size = H.size) (ho : ∀ q, q ≠ b.1 + a → H'[q]? = H[q]?) (hM : zOff M M' a) (hc : zCell dC dI s b M' H' a) (hw : zWT n M') : zRL dC dI b s n M' H' := by
  refine ⟨hsz.trans h.1, h.2.1, fun a' ha' => ?_, hw⟩
  by_cases e : a' = a
  · subst e; exact hc
  · exact (h.2.2.1 a' ha').kept (ho _ (by omega)) (hM a' e).1 (hM a' e).2.1 (hM a' e).2.2
theorem zWT.I {n : Nat} {M : Mem} (h : zWT n M) (a : Nat) (f : Nat → Int32) : zWT n (zwI M a f) := h
theorem zWT.L {n : Nat} {M : Mem} (h : zWT n M) (a : Nat) (f : Nat → Int64) : zWT n (zwL M a f) := h
theorem zWT.R {n : Nat} {M : Mem} (h : zWT n M) (a j : Nat) (q : Nat) (hq : zO n q (zKd (zSH a).1 j)) : zWT n (zsR M a j (q + 1)) := by
  intro a' ha' j' hne
  by_cases e : a' = a
  · subst e
    by_cases e2 : j' = j
    · subst e2
      have : zR (zsR M a' j' (q + 1)) a' j' = q + 1 := by
        show (zup M.2.2 a' (zup (zR M a') j' (q + 1))) a' j' = q + 1
        rw [zup_self, zup_self]
      rw [this]; exact hq
    · have : zR (zsR M a' j (q + 1)) a' j' = zR M a' j' := by
        show (zup M.2.2 a' (zup (zR M a') j (q + 1))) a' j' = _
        rw [zup_self, zup_ne _ _ e2]
      rw [this] at hne ⊢; exact h a' ha' j' hne
  · have : zR (zsR M a j (q + 1)) a' = zR M a' := zup_ne _ _ e
    rw [this] at hne ⊢; exact h a' ha' j' hne
/-- a field's link: of the class own, its entry i is the field j of the class c, of kind k -/
def zFL (own : String) (i c j k : Nat) : Prop := (c < 13 ∧ j < zN c ∧ zvk (zTy c j) = k) ∧ Cond.fieldLink own i (zT c j).1 (zT c j).2.1 (zT c j).2.2.1 ∈ zTb
section
variable {p : Program} {l : Launch} {e : Env} {R : Room} {s : State} {m : MethodId} {args : Array Value} {below : List Frame} {meth : Method} {c : Code} {H : Heap} {locs : List Loc} {cells slots : Nat} {Q : State → Prop} {dC : Nat → ClassId} {dI : Nat → Nat → Nat} {b : zSg} {n : Nat} {M : Mem} {cc : ByteArray} {own : String} {pc : Nat} {ls : Array Slot} {rest : List Value}
theorem zObj {a ci : Nat} (h : zCell dC dI s b M H a) (hc : ci < 13) (ho : (zSH a).1 = ci) : t_OB (b.1 + a) (dC ci) (zN ci) (dI ci) H (fun j => zva b M (zTy ci j) a j) := by
  subst ho
  unfold zCell at h
  rwa [if_pos hc] at h
theorem zObj' {a ci : Nat} (h : t_OB (b.1 + a) (dC ci) (zN ci) (dI ci) H (fun j => zva b M (zTy ci j) a j)) (hc : ci < 13) (ho : (zSH a).1 = ci) : zCell dC dI s b M H a := by
  subst ho
  unfold zCell
  rwa [if_pos hc]
theorem zArr {a k N : Nat} (h : zCell dC dI s b M H a) (hc : ¬ k < 13) (ho : (zSH a).1 = k) (hN : (zSH a).2 = N) : ∃ cA : ClassId, ArrOfT s cA (zAT k) ∧ va_RA s cA (zAT k) ∧ H[b.1 + a]? = some (arrV cA N (fun j => zva b M (zAT k) a j)) := by
  subst ho; subst hN
  unfold zCell at h
  rwa [if_neg hc] at h
theorem zArr' {a k N : Nat} (h : ∃ cA : ClassId, ArrOfT s cA (zAT k) ∧ va_RA s cA (zAT k) ∧ H[b.1 + a]? = some (arrV cA N (fun j => zva b M (zAT k) a j))) (hc : ¬ k < 13) (ho : (zSH a).1 = k) (hN : (zSH a).2 = N) : zCell dC dI s b M H a := by
  subst ho; subst hN
  unfold zCell
  rwa [if_neg hc]
theorem zgetW {a ci i j k : Nat} (hx : p.tables.exec = Jvm.exec) (hb : c.code = cc) (hts : ∀ w ∈ zTb, w.before args s = true) (hown : s.vm.findClass own = some m.cls) (hK : va_K (dC, dI) zCl [] s) (hf : zFL own i ci j k) (h : t_OB (b.1 + a) (dC ci) (zN ci) (dI ci) H (fun j => zva b M (zTy ci j) a j)) (hd : decode cc pc = .ok (.getfield i, 3))
    (kk : W p l e R s m args below meth c H locs cells slots Q (F0 m (pc + 3) ls (zva b M (zTy ci j) a j :: rest))) : W p l e R s m args below meth c H locs cells slots Q (F0 m pc ls (.ref (b.1 + a) :: rest)) := by
  obtain ⟨⟨hc, hj, -⟩, hl⟩ := hf
  obtain ⟨cell, q1, q2, q3, q4⟩ := h
  obtain ⟨hS, hfc, kC, hkC, hkind⟩ := hK.1 ci _ (zCl_at ci hc)
  obtain ⟨cf, kf, fi, f, hi, hsl⟩ := hS j hj
  refine W.getf hx hb hown (hts _ hl) hi (u_facts hfc hkC (u_lays hts (zIn ci hc) hj) hi).1 q1 (by rw [q3]; exact fun h => by cases h) (v := zva b M (zTy ci j) a j) ?_ rfl rfl hd kk
  rw [hsl]
  exact q4 j hj
theorem zputW {a ci i j k : Nat} {v : Value} {V' : Nat → Value} (hx : p.tables.exec = Jvm.exec) (hb : c.code = cc) (hts : ∀ w ∈ zTb, w.before args s = true) (hown : s.vm.findClass own = some m.cls) (hK : va_K (dC, dI) zCl [] s) (hf : zFL own i ci j k) (hfin : (zT ci j).2.2.2 = false ∨ (meth.name = "<init>" ∧ (zT ci j).1 = own)) (h : t_OB (b.1 + a) (dC ci) (zN ci) (dI ci) H (fun j => zva b M (zTy ci j) a j)) (hn : narrow (zTy ci j) v = v) (hfit : fits (zTy ci j) v = true) (hV : ∀ j', updV (fun j => zva b M (zTy ci j) a j) j v j' = V' j') (hd : decode cc pc = .ok (.putfield i, 3))
    (kk : ∀ (H' : Heap) (lo : Loc), lo.base = b.1 + a → t_OB (b.1 + a) (dC ci) (zN ci) (dI ci) H' V' → H'.size = H.size → (∀ q, q ≠ b.1 + a → H'[q]? = H[q]?) → W p l e R s m args below meth c H' (locs ++ [lo]) cells slots Q (F0 m (pc + 3) ls rest)) : W p l e R s m args below meth c H locs cells slots Q (F0 m pc ls (v :: .ref (b.1 + a) :: rest)) := by
  obtain ⟨⟨hc, hj, -⟩, hl⟩ := hf
  have hap := va_apart (own := own) hts (zIn ci hc) (zTy ci) (zTyOk ci hc) (zNmOk ci hc) hK (zCl_at ci hc)
  obtain ⟨cell, q1, q2, q3, q4⟩ := h
  obtain ⟨hS, hfc, kC, hkC, hkind⟩ := hK.1 ci _ (zCl_at ci hc)
  obtain ⟨cf, kf, fi, f, hi, hsl⟩ := hS j hj
  have hlay := hts _ (zIn ci hc _ (u_in_lay hj))
  unfold u_lay at hlay
  have hst := (u_facts hfc hkC (u_lays hts (zIn ci hc) hj) hi).1
  have hlt : f.slot < cell.slots.size := by rw [hsl]; exact k2_hasslot (q4 j hj)
  rcases hfin with hfin | ⟨hin, hdecl⟩
  · rw [if_neg (by rw [hfin]; decide)] at hlay
    have h6 := u_store hfc hkC hkind hlay hi (zTyOk ci hc j hj) hn hfit
    refine W.putK hx hb (f := f) ⟨hown, hts _ hl, ⟨_, _, _, hi⟩, hst⟩ (by rw [q2]; exact h6) q1 q3 hlt rfl rfl hd fun H' e1 e2 e3 => ?_
    rw [hsl] at e1
    exact kk H' _ rfl (t_OB.to ⟨_, e1, q2, q3, t_set q4 hap hj v⟩ (fun j' _ => hV j')) e2 e3
  · by_cases hfin : (zT ci j).2.2.2 = true
    · rw [if_pos hfin] at hlay
      have hcf : m.cls = cf := by
        obtain ⟨_, _, c', _, _, _, -, -, hf', -, -, -, hown2, -⟩ := Cond.laysFinal_spec hlay
        have e1 : c' = cf := by have := hi.symm.trans hf'; simp at this; exact this.1.symm
        rw [hdecl] at hown2
        rw [← e1]; exact Option.some.inj (hown.symm.trans hown2)
      have h6 := u_fits hfc hkC hkind (Or.inr hlay) hi (zTyOk ci hc j hj) hn hfit
      refine W.putFinK hx hb hown (hts _ hl) hi hst hcf hin (by rw [q2]; exact h6) q1 q3 hlt rfl rfl hd fun H' e1 e2 e3 => ?_
      rw [hsl] at e1
      exact kk H' _ rfl (t_OB.to ⟨_, e1, q2, q3, t_set q4 hap hj v⟩ (fun j' _ => hV j')) e2 e3
    · rw [if_neg hfin] at hlay
      have h6 := u_store hfc hkC hkind hlay hi (zTyOk ci hc j hj) hn hfit
      refine W.putK hx hb (f := f) ⟨hown, hts _ hl, ⟨_, _, _, hi⟩, hst⟩ (by rw [q2]; exact h6) q1 q3 hlt rfl rfl hd fun H' e1 e2 e3 => ?_
      rw [hsl] at e1
      exact kk H' _ rfl (t_OB.to ⟨_, e1, q2, q3, t_set q4 hap hj v⟩ (fun j' _ => hV j')) e2 e3
end
