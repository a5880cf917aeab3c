/-! System.arraycopy between arrays of ints -/
def zcopy (M : Mem) (a : Nat) (sp : Int32) (a2 : Nat) (dp ln : Int32) : Option Mem :=
  if sp < 0 ∨ dp < 0 ∨ ln < 0 ∨ (zSH a).2 < sp.toNatClampNeg + ln.toNatClampNeg ∨ (zSH a2).2 < dp.toNatClampNeg + ln.toNatClampNeg then none
  else some (zwI M a2 (va_cpy (zI M a) (zI M a2) sp.toNatClampNeg dp.toNatClampNeg ln.toNatClampNeg))
section
variable {α : Type} {κ : KX} {nL : Nat} {em : α → Option Value × Mem} {n : Nat} {cs : Nat × Nat} {pc q : Nat} {L st : List Value} {M : Mem} {res : Option α} {cc : ByteArray} {own : String} {ret : Option FieldType} {d : Nat}
theorem x_acopy {i a a2 : Nat} {sp dp ln : Int32} {K : Mem → Option α} (hw : Cond.methodLink own i arraycopyName ∈ zTb ∧ Cond.native arraycopyName ∈ zTb ∧ Cond.static arraycopyName ∈ zTb ∧ Cond.initialized "java/lang/System" ∈ zTb) (hO : zO n a 20) (hO2 : zO n a2 20) (hC : CX κ cc own nL ret (d + 1)) (hd : decode cc pc = .ok (.invokestatic i, 3)) (hq : pc + 3 = q) (h8 : (st.map fun v => v.category).sum ≤ 8) (kk : ∀ M1, X κ nL em n cs q L st M1 (K M1)) : X κ nL em n cs pc L (.int ln :: .int dp :: .ref a2 :: .int sp :: .ref a :: st) M (Option.bind (zcopy M a sp a2 dp ln) K) := by
  subst hq
  refine x_ldcase fun M1 hM1 => ?_
  unfold zcopy at hM1
  by_cases hcond : sp < 0 ∨ dp < 0 ∨ ln < 0 ∨ (zSH a).2 < sp.toNatClampNeg + ln.toNatClampNeg ∨ (zSH a2).2 < dp.toNatClampNeg + ln.toNatClampNeg
  · rw [if_pos hcond] at hM1; cases hM1
  rw [if_neg hcond] at hM1
  have h1 : ¬ sp < 0 := fun h => hcond (Or.inl h)
  have h2' : ¬ dp < 0 := fun h => hcond (Or.inr (Or.inl h))
  have h3 : ¬ ln < 0 := fun h => hcond (Or.inr (Or.inr (Or.inl h)))
  have h4 : sp.toNatClampNeg + ln.toNatClampNeg ≤ (zSH a).2 := Nat.not_lt.mp fun h => hcond (Or.inr (Or.inr (Or.inr (Or.inl h))))
  have h5 : dp.toNatClampNeg + ln.toNatClampNeg ≤ (zSH a2).2 := Nat.not_lt.mp fun h => hcond (Or.inr (Or.inr (Or.inr (Or.inr h))))
  have kk := kk M1
  cases hM1
  obtain ⟨p, l, e, R, s, m, args, below, meth, c, dC, dI, b, mc, ms, n'⟩ := κ
  obtain ⟨hx, hb, hml, hown, hts, hr, hlk, hK, hR, hNs⟩ := hC
  intro r hr0 H locs ls h2 hl
  obtain ⟨hRL, hlo, hmo, hb0, hfr⟩ := h2
  obtain ⟨w1, w2, w3, w4⟩ := hw
  obtain ⟨cA, g1, -, g3⟩ := zArr (hRL.2.2.1 a hO.1) (by decide) hO.2 rfl
  obtain ⟨cB, k1, k2, k3⟩ := zArr (hRL.2.2.1 a2 hO2.1) (by decide) hO2.2 rfl
  have nn : ∀ z : Int32, ¬ z < 0 → z.toInt = (z.toNatClampNeg : Int) := by
    intro z hz
    have hz0 : (0 : Int) ≤ z.toInt := by
      have := Int32.not_lt.mp hz
      simpa using Int32.le_iff_toInt_le.mp this
    show z.toInt = ((z.toInt.toNat : Nat) : Int)
    omega
  show W p l e R s m args below meth c H locs cs.1 cs.2 _ (F0 m pc ls (.int ln :: .int dp :: .ref (zad b a2) :: .int sp :: .ref (zad b a) :: st.map (zrv b)))
  rw [zad_lt hO.1 hRL.2.1, zad_lt hO2.1 hRL.2.1]
  have g3 : H[b.1 + a]? = some (arrV cA (zSH a).2 (fun j => .int (zI M a j))) := g3
  have k3 : H[b.1 + a2]? = some (arrV cB (zSH a2).2 (fun j => .int (zI M a2 j))) := k3
  intro T hT Z
  obtain ⟨-, kc0, hk0, cm0, hkk0⟩ := g1 (zSH a).2 (fun j => .int (zI M a j))
  obtain ⟨-, kc1, hk1, cm1, hkk1⟩ := k1 (zSH a2).2 (fun j => .int (zI M a2 j))
  obtain ⟨vm', Z', step⟩ := Z.arraycopy hx hown (hts _ w1) (hts _ w2) (hts _ w3) (hts _ w4) (src := b.1 + a) (dst := b.1 + a2) (cs := arrV cA (zSH a).2 (fun j => .int (zI M a j))) (cd := arrV cB (zSH a2).2 (fun j => .int (zI M a2 j))) (srcPos := sp) (destPos := dp) (n := ln) (by rw [hT]; exact g3) (by rw [hT]; exact k3)
    (fun _ h => by cases h) (fun _ h => by cases h) (fun h => by cases h) (fun h => by cases h) hk0 hk1 hkk0 hkk1 (by decide) h1 h2' h3
    (by rw [nn sp h1, nn ln h3, arrV_size]; omega)
    (by rw [nn dp h2', nn ln h3, arrV_size]; omega)
    (fun vm₁ _ i hi => by
      have e : (arrV cA (zSH a).2 (fun j => Value.int (zI M a j))).slots.getD (sp.toNatClampNeg + i) .null = .int (zI M a (sp.toNatClampNeg + i)) := by
        rw [Array.getD_eq_getD_getElem?, arrV_read _ _ (by omega)]
        rfl
      refine ⟨?_, ?_⟩
      · rw [e]; rfl
      · rw [e]; exact trivial)
    (g := F0 m pc ls (.int ln :: .int dp :: .ref (b.1 + a2) :: .int sp :: .ref (b.1 + a) :: st.map (zrv b))) rfl (by rw [hml]; exact hl.1) (rest := st.map (zrv b)) rfl (by rw [hb]; exact hd) (Nat.le_trans (Nat.le_add_left _ _) hR.1) (by
      refine Nat.le_trans ?_ hR.2.1
      have := zCat (b := b) h8
      show 2 * 0 + _ + (nativeFrameWords "java/lang/System" "arraycopy" 5 + 11) ≤ 64 * (d + 1)
      have e : nativeFrameWords "java/lang/System" "arraycopy" 5 ≤ 40 := by decide +kernel
      omega)
  have e1 : copied (arrV cA (zSH a).2 (fun j => .int (zI M a j))) (arrV cB (zSH a2).2 (fun j => .int (zI M a2 j))) sp dp ln = arrV cB (zSH a2).2 (fun j => .int (va_cpy (zI M a) (zI M a2) sp.toNatClampNeg dp.toNatClampNeg ln.toNatClampNeg j)) := va_copied (fun z => .int z) cA cB (zI M a) (zI M a2) h4
  rw [e1] at Z' step
  have hlt : b.1 + a2 < H.size := (Array.getElem?_eq_some_iff.mp k3).1
  have oq : ∀ q : Nat, q ≠ b.1 + a2 → (H.setIfInBounds (b.1 + a2) (arrV cB (zSH a2).2 (fun j => .int (va_cpy (zI M a) (zI M a2) sp.toNatClampNeg dp.toNatClampNeg ln.toNatClampNeg j))))[q]? = H[q]? := fun q hq => by simp [Array.getElem?_setIfInBounds, Ne.symm hq]
  obtain ⟨t, a1, b1⟩ := kk r hr0 (H.setIfInBounds (b.1 + a2) (arrV cB (zSH a2).2 (fun j => .int (va_cpy (zI M a) (zI M a2) sp.toNatClampNeg dp.toNatClampNeg ln.toNatClampNeg j)))) _ ls ⟨hRL.upd (by simp) oq (zOff_wI M a2 _) (zArr' ⟨cB, k1, k2, by
      rw [Array.getElem?_setIfInBounds_self_of_lt hlt]
      congr 2
      funext j
      show _ = Value.int (zup M.1 a2 _ a2 j)
      rw [zup_self]⟩ (by decide) hO2.2 rfl) (hRL.2.2.2.I a2 _), fun q hq => by
        rcases List.mem_append.mp hq with h | h
        · exact hlo q h
        · obtain ⟨z, -, hz⟩ := List.mem_map.mp h
          rw [← hz]; exact Nat.le_add_right _ _, by simp; exact hmo, hb0, fun q h => (oq q (Nat.ne_of_lt (Nat.lt_of_lt_of_le h (Nat.le_add_right _ _)))).trans (hfr q h)⟩ hl _ (by rw [← hT]; rfl) Z'
  exact ⟨t, step t a1, b1⟩
end
