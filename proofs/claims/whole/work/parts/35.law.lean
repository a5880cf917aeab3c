/-! the law: its script, its loop, its entry -/
def zSc (r : Nat) : Prop := r = 1000005
def zsi (sl : Nat) (i : Int32) : Option Nat := if i < 0 ∨ sl ≤ i.toNatClampNeg then none else some i.toNatClampNeg
def zScr (κ : KX) (xs : Nat → Int32) (sl : Nat) : Prop := match κ with
  | (_, _, _, _, s, _, _, _, _, _, _, _, b, _, _, _) => va_X (b.2 1000005) sl xs s s.heap ∧ b.2 1000005 < b.1 ∧ b.1 ≤ s.heap.size
section
variable {α : Type} {κ : KX} {nL : Nat} {em : α → Option Value × Mem} {n : Nat} {cs : Nat × Nat} {pc q : Nat} {L st : List Value} {M : Mem} {res : Option α} {cc : ByteArray} {own : String} {ret : Option FieldType} {d : Nat}
theorem x_sclen {xs : Nat → Int32} {sl r : Nat} (hsc : zScr κ xs sl) (hr : zSc r) (hC : CX κ cc own nL ret d) (hd : decode cc pc = .ok (.arraylength, 1)) (hq : pc + 1 = q) (k : X κ nL em n cs q L (.int (nI sl) :: st) M res) : X κ nL em n cs pc L (.ref r :: st) M res := by
  subst hq; subst hr
  obtain ⟨p, l, e, R, s, m, args, below, meth, c, dC, dI, b, mc, ms, n'⟩ := κ
  obtain ⟨hx, hb, hml, hown, hts, hr, hlk, hK, hR, hNs, hAm⟩ := hC
  intro r hr1 H locs ls h2 hl
  have hg := k r hr1 H locs ls h2 hl
  obtain ⟨hRL, hlo, hmo, hb0, hfr⟩ := h2
  show W p l e R s m args below meth c H locs cs.1 cs.2 _ (F0 m pc ls (.ref (zad b 1000005) :: st.map (zrv b)))
  rw [zad_hi (by omega)]
  exact va_slen (A := fun q => b.1 ≤ q) hx hb hsc.1 (Nat.lt_of_lt_of_le hsc.2.1 hsc.2.2) (Nat.not_le.mpr hsc.2.1) (zSS hlo hmo hfr) hd hg
theorem x_scald {xs : Nat → Int32} {sl r : Nat} {i : Int32} {K : Nat → Option α} (hsc : zScr κ xs sl) (hr : zSc r) (hC : CX κ cc own nL ret d) (hd : decode cc pc = .ok (.iaload, 1)) (hq : pc + 1 = q) (kk : ∀ k, zsi sl i = some k → X κ nL em n cs q L (.int (xs k) :: st) M (K k)) : X κ nL em n cs pc L (.int i :: .ref r :: st) M (Option.bind (zsi sl i) K) := by
  subst hq; subst hr
  refine x_ldcase fun k hk => ?_
  have kk := kk k hk
  obtain ⟨p, l, e, R, s, m, args, below, meth, c, dC, dI, b, mc, ms, n'⟩ := κ
  obtain ⟨hx, hb, hml, hown, hts, hr, hlk, hK, hR, hNs, hAm⟩ := hC
  intro r hr1 H locs ls h2 hl
  have hg := kk r hr1 H locs ls h2 hl
  obtain ⟨hRL, hlo, hmo, hb0, hfr⟩ := h2
  show W p l e R s m args below meth c H locs cs.1 cs.2 _ (F0 m pc ls (.int i :: .ref (zad b 1000005) :: st.map (zrv b)))
  rw [zad_hi (by omega)]
  unfold zsi at hk
  by_cases hc : i < 0 ∨ sl ≤ i.toNatClampNeg
  · rw [if_pos hc] at hk; cases hk
  · rw [if_neg hc] at hk
    cases hk
    exact va_sld (A := fun q => b.1 ≤ q) hx hb hsc.1 (Nat.lt_of_lt_of_le hsc.2.1 hsc.2.2) (Nat.not_le.mpr hsc.2.1) (zSS hlo hmo hfr) hc hd hg
end
set_option maxRecDepth 100000 in
theorem c_iconst_6 : Int32.ofInt 6 = (6 : Int32) := by decide
set_option maxRecDepth 100000 in
theorem cb_RL_13 : zCB RL 13 yX11_feed cX11_feed 6 (some .int) 5 ∧ Cond.instanceMethod yX11_feed ∈ zTb ∧ Cond.selects yX11_feed.cls yX11_feed yX11_feed ∈ zTb ∧ yX11_feed.cls = zNm 11 ∧ 11 < 13 := ⟨⟨zW3 96 rfl rfl, zW1 1 rfl rfl, zW3 99 rfl rfl, ⟨by decide +kernel, by decide +kernel, by decide +kernel⟩⟩, zW3 97 rfl rfl, zW3 98 rfl rfl, rfl, by decide⟩
set_option maxRecDepth 100000 in
theorem cb_RL_17 : zCB RL 17 yX12_feed cX12_feed 6 (some .int) 5 ∧ Cond.instanceMethod yX12_feed ∈ zTb ∧ Cond.selects yX12_feed.cls yX12_feed yX12_feed ∈ zTb ∧ yX12_feed.cls = zNm 12 ∧ 12 < 13 := ⟨⟨zW7 56 rfl rfl, zW1 17 rfl rfl, zW7 59 rfl rfl, ⟨by decide +kernel, by decide +kernel, by decide +kernel⟩⟩, zW7 57 rfl rfl, zW7 58 rfl rfl, rfl, by decide⟩
set_option maxRecDepth 100000 in
theorem cb_RL_18 : zCB RL 18 yX11_end cX11_end 2 (some .boolean) 1 ∧ Cond.instanceMethod yX11_end ∈ zTb ∧ Cond.selects yX11_end.cls yX11_end yX11_end ∈ zTb ∧ yX11_end.cls = zNm 11 ∧ 11 < 13 := ⟨⟨zW3 108 rfl rfl, zW1 1 rfl rfl, zW3 111 rfl rfl, ⟨by decide +kernel, by decide +kernel, by decide +kernel⟩⟩, zW3 109 rfl rfl, zW3 110 rfl rfl, rfl, by decide⟩
set_option maxRecDepth 100000 in
theorem cb_RL_22 : zCB RL 22 yX12_end cX12_end 2 (some .boolean) 1 ∧ Cond.instanceMethod yX12_end ∈ zTb ∧ Cond.selects yX12_end.cls yX12_end yX12_end ∈ zTb ∧ yX12_end.cls = zNm 12 ∧ 12 < 13 := ⟨⟨zW7 68 rfl rfl, zW1 17 rfl rfl, zW7 71 rfl rfl, ⟨by decide +kernel, by decide +kernel, by decide +kernel⟩⟩, zW7 69 rfl rfl, zW7 70 rfl rfl, rfl, by decide⟩
set_option maxRecDepth 100000 in
theorem cb_RL_23 : zCB RL 23 yX11_chip cX11_chip 3 (some .int) 0 ∧ Cond.instanceMethod yX11_chip ∈ zTb ∧ Cond.selects yX11_chip.cls yX11_chip yX11_chip ∈ zTb ∧ yX11_chip.cls = zNm 11 ∧ 11 < 13 := ⟨⟨zW3 112 rfl rfl, zW1 1 rfl rfl, zW3 115 rfl rfl, ⟨by decide +kernel, by decide +kernel, by decide +kernel⟩⟩, zW3 113 rfl rfl, zW3 114 rfl rfl, rfl, by decide⟩
set_option maxRecDepth 100000 in
theorem cb_RL_27 : zCB RL 27 yX12_chip cX12_chip 2 (some .int) 0 ∧ Cond.instanceMethod yX12_chip ∈ zTb ∧ Cond.selects yX12_chip.cls yX12_chip yX12_chip ∈ zTb ∧ yX12_chip.cls = zNm 12 ∧ 12 < 13 := ⟨⟨zW7 72 rfl rfl, zW1 17 rfl rfl, zW7 75 rfl rfl, ⟨by decide +kernel, by decide +kernel, by decide +kernel⟩⟩, zW7 73 rfl rfl, zW7 74 rfl rfl, rfl, by decide⟩
set_option maxRecDepth 100000 in
theorem cb_RL_28 : zCB RL 28 yX11_fault cX11_fault 2 (some .int) 1 ∧ Cond.instanceMethod yX11_fault ∈ zTb ∧ Cond.selects yX11_fault.cls yX11_fault yX11_fault ∈ zTb ∧ yX11_fault.cls = zNm 11 ∧ 11 < 13 := ⟨⟨zW4 67 rfl rfl, zW1 1 rfl rfl, zW4 70 rfl rfl, ⟨by decide +kernel, by decide +kernel, by decide +kernel⟩⟩, zW4 68 rfl rfl, zW4 69 rfl rfl, rfl, by decide⟩
set_option maxRecDepth 100000 in
theorem cb_RL_32 : zCB RL 32 yX12_fault cX12_fault 2 (some .int) 1 ∧ Cond.instanceMethod yX12_fault ∈ zTb ∧ Cond.selects yX12_fault.cls yX12_fault yX12_fault ∈ zTb ∧ yX12_fault.cls = zNm 12 ∧ 12 < 13 := ⟨⟨zW8 16 rfl rfl, zW1 17 rfl rfl, zW8 19 rfl rfl, ⟨by decide +kernel, by decide +kernel, by decide +kernel⟩⟩, zW8 17 rfl rfl, zW8 18 rfl rfl, rfl, by decide⟩
set_option maxRecDepth 100000 in
theorem cb_RL_33 : zCB RL 33 yX11_has cX11_has 3 (some .int) 1 ∧ Cond.instanceMethod yX11_has ∈ zTb ∧ Cond.selects yX11_has.cls yX11_has yX11_has ∈ zTb ∧ yX11_has.cls = zNm 11 ∧ 11 < 13 := ⟨⟨zW4 71 rfl rfl, zW1 1 rfl rfl, zW4 74 rfl rfl, ⟨by decide +kernel, by decide +kernel, by decide +kernel⟩⟩, zW4 72 rfl rfl, zW4 73 rfl rfl, rfl, by decide⟩
set_option maxRecDepth 100000 in
theorem cb_RL_36 : zCB RL 36 yX12_has cX12_has 4 (some .int) 1 ∧ Cond.instanceMethod yX12_has ∈ zTb ∧ Cond.selects yX12_has.cls yX12_has yX12_has ∈ zTb ∧ yX12_has.cls = zNm 12 ∧ 12 < 13 := ⟨⟨zW8 104 rfl rfl, zW1 17 rfl rfl, zW8 107 rfl rfl, ⟨by decide +kernel, by decide +kernel, by decide +kernel⟩⟩, zW8 105 rfl rfl, zW8 106 rfl rfl, rfl, by decide⟩
set_option maxRecDepth 100000 in
theorem cb_RL_37 : zCB RL 37 yX11_letter cX11_letter 3 (some .int) 2 ∧ Cond.instanceMethod yX11_letter ∈ zTb ∧ Cond.selects yX11_letter.cls yX11_letter yX11_letter ∈ zTb ∧ yX11_letter.cls = zNm 11 ∧ 11 < 13 := ⟨⟨zW4 84 rfl rfl, zW1 1 rfl rfl, zW4 87 rfl rfl, ⟨by decide +kernel, by decide +kernel, by decide +kernel⟩⟩, zW4 85 rfl rfl, zW4 86 rfl rfl, rfl, by decide⟩
set_option maxRecDepth 100000 in
theorem cb_RL_41 : zCB RL 41 yX12_letter cX12_letter 8 (some .int) 2 ∧ Cond.instanceMethod yX12_letter ∈ zTb ∧ Cond.selects yX12_letter.cls yX12_letter yX12_letter ∈ zTb ∧ yX12_letter.cls = zNm 12 ∧ 12 < 13 := ⟨⟨zW8 108 rfl rfl, zW1 17 rfl rfl, zW8 111 rfl rfl, ⟨by decide +kernel, by decide +kernel, by decide +kernel⟩⟩, zW8 109 rfl rfl, zW8 110 rfl rfl, rfl, by decide⟩
set_option maxRecDepth 100000 in
theorem cb_RL_42 : zCB RL 42 yX11_field cX11_field 4 (some .int) 2 ∧ Cond.instanceMethod yX11_field ∈ zTb ∧ Cond.selects yX11_field.cls yX11_field yX11_field ∈ zTb ∧ yX11_field.cls = zNm 11 ∧ 11 < 13 := ⟨⟨zW4 92 rfl rfl, zW1 1 rfl rfl, zW4 95 rfl rfl, ⟨by decide +kernel, by decide +kernel, by decide +kernel⟩⟩, zW4 93 rfl rfl, zW4 94 rfl rfl, rfl, by decide⟩
set_option maxRecDepth 100000 in
theorem cb_RL_45 : zCB RL 45 yX12_field cX12_field 3 (some .int) 2 ∧ Cond.instanceMethod yX12_field ∈ zTb ∧ Cond.selects yX12_field.cls yX12_field yX12_field ∈ zTb ∧ yX12_field.cls = zNm 12 ∧ 12 < 13 := ⟨⟨zW8 24 rfl rfl, zW1 17 rfl rfl, zW8 27 rfl rfl, ⟨by decide +kernel, by decide +kernel, by decide +kernel⟩⟩, zW8 25 rfl rfl, zW8 26 rfl rfl, rfl, by decide⟩
set_option maxRecDepth 100000 in
theorem cb_RL_46 : zCB RL 46 yX11_generator cX11_generator 2 (some .int) 1 ∧ Cond.instanceMethod yX11_generator ∈ zTb ∧ Cond.selects yX11_generator.cls yX11_generator yX11_generator ∈ zTb ∧ yX11_generator.cls = zNm 11 ∧ 11 < 13 := ⟨⟨zW4 97 rfl rfl, zW1 1 rfl rfl, zW4 100 rfl rfl, ⟨by decide +kernel, by decide +kernel, by decide +kernel⟩⟩, zW4 98 rfl rfl, zW4 99 rfl rfl, rfl, by decide⟩
set_option maxRecDepth 100000 in
theorem cb_RL_49 : zCB RL 49 yX12_generator cX12_generator 2 (some .int) 1 ∧ Cond.instanceMethod yX12_generator ∈ zTb ∧ Cond.selects yX12_generator.cls yX12_generator yX12_generator ∈ zTb ∧ yX12_generator.cls = zNm 12 ∧ 12 < 13 := ⟨⟨zW8 32 rfl rfl, zW1 17 rfl rfl, zW8 35 rfl rfl, ⟨by decide +kernel, by decide +kernel, by decide +kernel⟩⟩, zW8 33 rfl rfl, zW8 34 rfl rfl, rfl, by decide⟩
set_option maxRecDepth 100000 in
theorem cb_RL_50 : zCB RL 50 yX11_word cX11_word 4 (some .int) 3 ∧ Cond.instanceMethod yX11_word ∈ zTb ∧ Cond.selects yX11_word.cls yX11_word yX11_word ∈ zTb ∧ yX11_word.cls = zNm 11 ∧ 11 < 13 := ⟨⟨zW4 102 rfl rfl, zW1 1 rfl rfl, zW4 105 rfl rfl, ⟨by decide +kernel, by decide +kernel, by decide +kernel⟩⟩, zW4 103 rfl rfl, zW4 104 rfl rfl, rfl, by decide⟩
set_option maxRecDepth 100000 in
theorem cb_RL_54 : zCB RL 54 yX12_word cX12_word 4 (some .int) 3 ∧ Cond.instanceMethod yX12_word ∈ zTb ∧ Cond.selects yX12_word.cls yX12_word yX12_word ∈ zTb ∧ yX12_word.cls = zNm 12 ∧ 12 < 13 := ⟨⟨zW8 36 rfl rfl, zW1 17 rfl rfl, zW8 39 rfl rfl, ⟨by decide +kernel, by decide +kernel, by decide +kernel⟩⟩, zW8 37 rfl rfl, zW8 38 rfl rfl, rfl, by decide⟩
set_option maxRecDepth 100000 in
theorem cb_RL_55 : zCB RL 55 yX11_weight cX11_weight 2 (some .int) 1 ∧ Cond.instanceMethod yX11_weight ∈ zTb ∧ Cond.selects yX11_weight.cls yX11_weight yX11_weight ∈ zTb ∧ yX11_weight.cls = zNm 11 ∧ 11 < 13 := ⟨⟨zW4 118 rfl rfl, zW1 1 rfl rfl, zW4 121 rfl rfl, ⟨by decide +kernel, by decide +kernel, by decide +kernel⟩⟩, zW4 119 rfl rfl, zW4 120 rfl rfl, rfl, by decide⟩
set_option maxRecDepth 100000 in
theorem cb_RL_58 : zCB RL 58 yX12_weight cX12_weight 5 (some .int) 1 ∧ Cond.instanceMethod yX12_weight ∈ zTb ∧ Cond.selects yX12_weight.cls yX12_weight yX12_weight ∈ zTb ∧ yX12_weight.cls = zNm 12 ∧ 12 < 13 := ⟨⟨zW8 53 rfl rfl, zW1 17 rfl rfl, zW8 56 rfl rfl, ⟨by decide +kernel, by decide +kernel, by decide +kernel⟩⟩, zW8 54 rfl rfl, zW8 55 rfl rfl, rfl, by decide⟩
set_option maxRecDepth 100000 in
theorem cb_RL_59 : zCB RL 59 yX11_patterns cX11_patterns 6 (some .int) 2 ∧ Cond.instanceMethod yX11_patterns ∈ zTb ∧ Cond.selects yX11_patterns.cls yX11_patterns yX11_patterns ∈ zTb ∧ yX11_patterns.cls = zNm 11 ∧ 11 < 13 := ⟨⟨zW4 133 rfl rfl, zW1 1 rfl rfl, zW4 136 rfl rfl, ⟨by decide +kernel, by decide +kernel, by decide +kernel⟩⟩, zW4 134 rfl rfl, zW4 135 rfl rfl, rfl, by decide⟩
set_option maxRecDepth 100000 in
theorem cb_RL_62 : zCB RL 62 yX12_patterns cX12_patterns 6 (some .int) 2 ∧ Cond.instanceMethod yX12_patterns ∈ zTb ∧ Cond.selects yX12_patterns.cls yX12_patterns yX12_patterns ∈ zTb ∧ yX12_patterns.cls = zNm 12 ∧ 12 < 13 := ⟨⟨zW8 60 rfl rfl, zW1 17 rfl rfl, zW8 63 rfl rfl, ⟨by decide +kernel, by decide +kernel, by decide +kernel⟩⟩, zW8 61 rfl rfl, zW8 62 rfl rfl, rfl, by decide⟩
set_option maxRecDepth 100000 in
theorem cb_RL_63 : zCB RL 63 yX11_page cX11_page 4 (some .int) 2 ∧ Cond.instanceMethod yX11_page ∈ zTb ∧ Cond.selects yX11_page.cls yX11_page yX11_page ∈ zTb ∧ yX11_page.cls = zNm 11 ∧ 11 < 13 := ⟨⟨zW4 168 rfl rfl, zW1 1 rfl rfl, zW4 171 rfl rfl, ⟨by decide +kernel, by decide +kernel, by decide +kernel⟩⟩, zW4 169 rfl rfl, zW4 170 rfl rfl, rfl, by decide⟩
set_option maxRecDepth 100000 in
theorem cb_RL_66 : zCB RL 66 yX12_page cX12_page 3 (some .int) 2 ∧ Cond.instanceMethod yX12_page ∈ zTb ∧ Cond.selects yX12_page.cls yX12_page yX12_page ∈ zTb ∧ yX12_page.cls = zNm 12 ∧ 12 < 13 := ⟨⟨zW8 117 rfl rfl, zW1 17 rfl rfl, zW8 120 rfl rfl, ⟨by decide +kernel, by decide +kernel, by decide +kernel⟩⟩, zW8 118 rfl rfl, zW8 119 rfl rfl, rfl, by decide⟩
set_option maxRecDepth 100000 in
theorem cb_RL_67 : zCB RL 67 yX11_level cX11_level 7 (some .int) 3 ∧ Cond.instanceMethod yX11_level ∈ zTb ∧ Cond.selects yX11_level.cls yX11_level yX11_level ∈ zTb ∧ yX11_level.cls = zNm 11 ∧ 11 < 13 := ⟨⟨zW4 173 rfl rfl, zW1 1 rfl rfl, zW4 176 rfl rfl, ⟨by decide +kernel, by decide +kernel, by decide +kernel⟩⟩, zW4 174 rfl rfl, zW4 175 rfl rfl, rfl, by decide⟩
set_option maxRecDepth 100000 in
theorem cb_RL_70 : zCB RL 70 yX12_level cX12_level 5 (some .int) 3 ∧ Cond.instanceMethod yX12_level ∈ zTb ∧ Cond.selects yX12_level.cls yX12_level yX12_level ∈ zTb ∧ yX12_level.cls = zNm 12 ∧ 12 < 13 := ⟨⟨zW8 125 rfl rfl, zW1 17 rfl rfl, zW8 128 rfl rfl, ⟨by decide +kernel, by decide +kernel, by decide +kernel⟩⟩, zW8 126 rfl rfl, zW8 127 rfl rfl, rfl, by decide⟩
set_option maxRecDepth 100000 in
theorem cb_RL_71 : zCB RL 71 yX11_ones cX11_ones 3 (some .int) 2 ∧ Cond.instanceMethod yX11_ones ∈ zTb ∧ Cond.selects yX11_ones.cls yX11_ones yX11_ones ∈ zTb ∧ yX11_ones.cls = zNm 11 ∧ 11 < 13 := ⟨⟨zW5 3 rfl rfl, zW1 1 rfl rfl, zW5 6 rfl rfl, ⟨by decide +kernel, by decide +kernel, by decide +kernel⟩⟩, zW5 4 rfl rfl, zW5 5 rfl rfl, rfl, by decide⟩
set_option maxRecDepth 100000 in
theorem cb_RL_74 : zCB RL 74 yX12_ones cX12_ones 3 (some .int) 2 ∧ Cond.instanceMethod yX12_ones ∈ zTb ∧ Cond.selects yX12_ones.cls yX12_ones yX12_ones ∈ zTb ∧ yX12_ones.cls = zNm 12 ∧ 12 < 13 := ⟨⟨zW8 173 rfl rfl, zW1 17 rfl rfl, zW8 176 rfl rfl, ⟨by decide +kernel, by decide +kernel, by decide +kernel⟩⟩, zW8 174 rfl rfl, zW8 175 rfl rfl, rfl, by decide⟩
set_option maxRecDepth 100000 in
theorem cb_RL_75 : zCB RL 75 yX11_syndrome cX11_syndrome 4 (some .int) 3 ∧ Cond.instanceMethod yX11_syndrome ∈ zTb ∧ Cond.selects yX11_syndrome.cls yX11_syndrome yX11_syndrome ∈ zTb ∧ yX11_syndrome.cls = zNm 11 ∧ 11 < 13 := ⟨⟨zW5 15 rfl rfl, zW1 1 rfl rfl, zW5 18 rfl rfl, ⟨by decide +kernel, by decide +kernel, by decide +kernel⟩⟩, zW5 16 rfl rfl, zW5 17 rfl rfl, rfl, by decide⟩
set_option maxRecDepth 100000 in
theorem cb_RL_78 : zCB RL 78 yX12_syndrome cX12_syndrome 4 (some .int) 3 ∧ Cond.instanceMethod yX12_syndrome ∈ zTb ∧ Cond.selects yX12_syndrome.cls yX12_syndrome yX12_syndrome ∈ zTb ∧ yX12_syndrome.cls = zNm 12 ∧ 12 < 13 := ⟨⟨zW8 185 rfl rfl, zW1 17 rfl rfl, zW8 188 rfl rfl, ⟨by decide +kernel, by decide +kernel, by decide +kernel⟩⟩, zW8 186 rfl rfl, zW8 187 rfl rfl, rfl, by decide⟩
set_option maxRecDepth 100000 in
theorem cb_RL_79 : zCB RL 79 yX11_locator cX11_locator 4 (some .int) 3 ∧ Cond.instanceMethod yX11_locator ∈ zTb ∧ Cond.selects yX11_locator.cls yX11_locator yX11_locator ∈ zTb ∧ yX11_locator.cls = zNm 11 ∧ 11 < 13 := ⟨⟨zW5 60 rfl rfl, zW1 1 rfl rfl, zW5 63 rfl rfl, ⟨by decide +kernel, by decide +kernel, by decide +kernel⟩⟩, zW5 61 rfl rfl, zW5 62 rfl rfl, rfl, by decide⟩
set_option maxRecDepth 100000 in
theorem cb_RL_82 : zCB RL 82 yX12_locator cX12_locator 5 (some .int) 3 ∧ Cond.instanceMethod yX12_locator ∈ zTb ∧ Cond.selects yX12_locator.cls yX12_locator yX12_locator ∈ zTb ∧ yX12_locator.cls = zNm 12 ∧ 12 < 13 := ⟨⟨zW8 189 rfl rfl, zW1 17 rfl rfl, zW8 192 rfl rfl, ⟨by decide +kernel, by decide +kernel, by decide +kernel⟩⟩, zW8 190 rfl rfl, zW8 191 rfl rfl, rfl, by decide⟩
set_option maxRecDepth 100000 in
theorem cb_RL_83 : zCB RL 83 yX11_wrong cX11_wrong 4 (some .int) 3 ∧ Cond.instanceMethod yX11_wrong ∈ zTb ∧ Cond.selects yX11_wrong.cls yX11_wrong yX11_wrong ∈ zTb ∧ yX11_wrong.cls = zNm 11 ∧ 11 < 13 := ⟨⟨zW5 64 rfl rfl, zW1 1 rfl rfl, zW5 67 rfl rfl, ⟨by decide +kernel, by decide +kernel, by decide +kernel⟩⟩, zW5 65 rfl rfl, zW5 66 rfl rfl, rfl, by decide⟩
set_option maxRecDepth 100000 in
theorem cb_RL_86 : zCB RL 86 yX12_wrong cX12_wrong 4 (some .int) 3 ∧ Cond.instanceMethod yX12_wrong ∈ zTb ∧ Cond.selects yX12_wrong.cls yX12_wrong yX12_wrong ∈ zTb ∧ yX12_wrong.cls = zNm 12 ∧ 12 < 13 := ⟨⟨zW8 193 rfl rfl, zW1 17 rfl rfl, zW8 196 rfl rfl, ⟨by decide +kernel, by decide +kernel, by decide +kernel⟩⟩, zW8 194 rfl rfl, zW8 195 rfl rfl, rfl, by decide⟩
set_option maxRecDepth 100000 in
theorem cb_RL_87 : zCB RL 87 yX11_why cX11_why 3 (some .int) 2 ∧ Cond.instanceMethod yX11_why ∈ zTb ∧ Cond.selects yX11_why.cls yX11_why yX11_why ∈ zTb ∧ yX11_why.cls = zNm 11 ∧ 11 < 13 := ⟨⟨zW5 68 rfl rfl, zW1 1 rfl rfl, zW5 71 rfl rfl, ⟨by decide +kernel, by decide +kernel, by decide +kernel⟩⟩, zW5 69 rfl rfl, zW5 70 rfl rfl, rfl, by decide⟩
set_option maxRecDepth 100000 in
theorem cb_RL_90 : zCB RL 90 yX12_why cX12_why 3 (some .int) 2 ∧ Cond.instanceMethod yX12_why ∈ zTb ∧ Cond.selects yX12_why.cls yX12_why yX12_why ∈ zTb ∧ yX12_why.cls = zNm 12 ∧ 12 < 13 := ⟨⟨zW8 197 rfl rfl, zW1 17 rfl rfl, zW8 200 rfl rfl, ⟨by decide +kernel, by decide +kernel, by decide +kernel⟩⟩, zW8 198 rfl rfl, zW8 199 rfl rfl, rfl, by decide⟩
set_option maxRecDepth 100000 in
theorem cb_RL_91 : zCB RL 91 yX11_got cX11_got 7 (some .int) 2 ∧ Cond.instanceMethod yX11_got ∈ zTb ∧ Cond.selects yX11_got.cls yX11_got yX11_got ∈ zTb ∧ yX11_got.cls = zNm 11 ∧ 11 < 13 := ⟨⟨zW5 72 rfl rfl, zW1 1 rfl rfl, zW5 75 rfl rfl, ⟨by decide +kernel, by decide +kernel, by decide +kernel⟩⟩, zW5 73 rfl rfl, zW5 74 rfl rfl, rfl, by decide⟩
set_option maxRecDepth 100000 in
theorem cb_RL_94 : zCB RL 94 yX12_got cX12_got 6 (some .int) 2 ∧ Cond.instanceMethod yX12_got ∈ zTb ∧ Cond.selects yX12_got.cls yX12_got yX12_got ∈ zTb ∧ yX12_got.cls = zNm 12 ∧ 12 < 13 := ⟨⟨zW8 201 rfl rfl, zW1 17 rfl rfl, zW8 204 rfl rfl, ⟨by decide +kernel, by decide +kernel, by decide +kernel⟩⟩, zW8 202 rfl rfl, zW8 203 rfl rfl, rfl, by decide⟩
set_option maxRecDepth 100000 in
theorem cb_RL_95 : zCB RL 95 yX11_span cX11_span 7 (some .int) 2 ∧ Cond.instanceMethod yX11_span ∈ zTb ∧ Cond.selects yX11_span.cls yX11_span yX11_span ∈ zTb ∧ yX11_span.cls = zNm 11 ∧ 11 < 13 := ⟨⟨zW5 105 rfl rfl, zW1 1 rfl rfl, zW5 108 rfl rfl, ⟨by decide +kernel, by decide +kernel, by decide +kernel⟩⟩, zW5 106 rfl rfl, zW5 107 rfl rfl, rfl, by decide⟩
set_option maxRecDepth 100000 in
theorem cb_RL_98 : zCB RL 98 yX12_span cX12_span 5 (some .int) 2 ∧ Cond.instanceMethod yX12_span ∈ zTb ∧ Cond.selects yX12_span.cls yX12_span yX12_span ∈ zTb ∧ yX12_span.cls = zNm 12 ∧ 12 < 13 := ⟨⟨zW8 214 rfl rfl, zW1 17 rfl rfl, zW8 217 rfl rfl, ⟨by decide +kernel, by decide +kernel, by decide +kernel⟩⟩, zW8 215 rfl rfl, zW8 216 rfl rfl, rfl, by decide⟩
set_option maxRecDepth 100000 in
theorem cb_RL_99 : zCB RL 99 yX11_lost cX11_lost 3 (some .int) 1 ∧ Cond.instanceMethod yX11_lost ∈ zTb ∧ Cond.selects yX11_lost.cls yX11_lost yX11_lost ∈ zTb ∧ yX11_lost.cls = zNm 11 ∧ 11 < 13 := ⟨⟨zW5 110 rfl rfl, zW1 1 rfl rfl, zW5 113 rfl rfl, ⟨by decide +kernel, by decide +kernel, by decide +kernel⟩⟩, zW5 111 rfl rfl, zW5 112 rfl rfl, rfl, by decide⟩
set_option maxRecDepth 100000 in
theorem cb_RL_102 : zCB RL 102 yX12_lost cX12_lost 3 (some .int) 1 ∧ Cond.instanceMethod yX12_lost ∈ zTb ∧ Cond.selects yX12_lost.cls yX12_lost yX12_lost ∈ zTb ∧ yX12_lost.cls = zNm 12 ∧ 12 < 13 := ⟨⟨zW8 218 rfl rfl, zW1 17 rfl rfl, zW8 221 rfl rfl, ⟨by decide +kernel, by decide +kernel, by decide +kernel⟩⟩, zW8 219 rfl rfl, zW8 220 rfl rfl, rfl, by decide⟩
set_option maxRecDepth 100000 in
theorem cb_RL_103 : zCB RL 103 yX11_odds cX11_odds 6 (some .int) 1 ∧ Cond.instanceMethod yX11_odds ∈ zTb ∧ Cond.selects yX11_odds.cls yX11_odds yX11_odds ∈ zTb ∧ yX11_odds.cls = zNm 11 ∧ 11 < 13 := ⟨⟨zW5 126 rfl rfl, zW1 1 rfl rfl, zW5 129 rfl rfl, ⟨by decide +kernel, by decide +kernel, by decide +kernel⟩⟩, zW5 127 rfl rfl, zW5 128 rfl rfl, rfl, by decide⟩
set_option maxRecDepth 100000 in
theorem cb_RL_106 : zCB RL 106 yX12_odds cX12_odds 5 (some .int) 1 ∧ Cond.instanceMethod yX12_odds ∈ zTb ∧ Cond.selects yX12_odds.cls yX12_odds yX12_odds ∈ zTb ∧ yX12_odds.cls = zNm 12 ∧ 12 < 13 := ⟨⟨zW8 226 rfl rfl, zW1 17 rfl rfl, zW8 229 rfl rfl, ⟨by decide +kernel, by decide +kernel, by decide +kernel⟩⟩, zW8 227 rfl rfl, zW8 228 rfl rfl, rfl, by decide⟩
set_option maxRecDepth 100000 in
theorem cb_RL_107 : zCB RL 107 yX11_meet cX11_meet 2 (some .int) 0 ∧ Cond.instanceMethod yX11_meet ∈ zTb ∧ Cond.selects yX11_meet.cls yX11_meet yX11_meet ∈ zTb ∧ yX11_meet.cls = zNm 11 ∧ 11 < 13 := ⟨⟨zW5 134 rfl rfl, zW1 1 rfl rfl, zW5 137 rfl rfl, ⟨by decide +kernel, by decide +kernel, by decide +kernel⟩⟩, zW5 135 rfl rfl, zW5 136 rfl rfl, rfl, by decide⟩
set_option maxRecDepth 100000 in
theorem cb_RL_110 : zCB RL 110 yX12_meet cX12_meet 4 (some .int) 0 ∧ Cond.instanceMethod yX12_meet ∈ zTb ∧ Cond.selects yX12_meet.cls yX12_meet yX12_meet ∈ zTb ∧ yX12_meet.cls = zNm 12 ∧ 12 < 13 := ⟨⟨zW8 230 rfl rfl, zW1 17 rfl rfl, zW8 233 rfl rfl, ⟨by decide +kernel, by decide +kernel, by decide +kernel⟩⟩, zW8 231 rfl rfl, zW8 232 rfl rfl, rfl, by decide⟩
set_option maxRecDepth 100000 in
theorem cb_RL_111 : zCB RL 111 yX11_shifts cX11_shifts 3 (some .int) 2 ∧ Cond.instanceMethod yX11_shifts ∈ zTb ∧ Cond.selects yX11_shifts.cls yX11_shifts yX11_shifts ∈ zTb ∧ yX11_shifts.cls = zNm 11 ∧ 11 < 13 := ⟨⟨zW5 142 rfl rfl, zW1 1 rfl rfl, zW5 145 rfl rfl, ⟨by decide +kernel, by decide +kernel, by decide +kernel⟩⟩, zW5 143 rfl rfl, zW5 144 rfl rfl, rfl, by decide⟩
set_option maxRecDepth 100000 in
theorem cb_RL_114 : zCB RL 114 yX12_shifts cX12_shifts 6 (some .int) 2 ∧ Cond.instanceMethod yX12_shifts ∈ zTb ∧ Cond.selects yX12_shifts.cls yX12_shifts yX12_shifts ∈ zTb ∧ yX12_shifts.cls = zNm 12 ∧ 12 < 13 := ⟨⟨zW8 234 rfl rfl, zW1 17 rfl rfl, zW8 237 rfl rfl, ⟨by decide +kernel, by decide +kernel, by decide +kernel⟩⟩, zW8 235 rfl rfl, zW8 236 rfl rfl, rfl, by decide⟩
set_option maxRecDepth 100000 in
theorem cb_RL_115 : zCB RL 115 yX11_tells cX11_tells 3 (some .int) 2 ∧ Cond.instanceMethod yX11_tells ∈ zTb ∧ Cond.selects yX11_tells.cls yX11_tells yX11_tells ∈ zTb ∧ yX11_tells.cls = zNm 11 ∧ 11 < 13 := ⟨⟨zW5 160 rfl rfl, zW1 1 rfl rfl, zW5 163 rfl rfl, ⟨by decide +kernel, by decide +kernel, by decide +kernel⟩⟩, zW5 161 rfl rfl, zW5 162 rfl rfl, rfl, by decide⟩
set_option maxRecDepth 100000 in
theorem cb_RL_118 : zCB RL 118 yX12_tells cX12_tells 8 (some .int) 2 ∧ Cond.instanceMethod yX12_tells ∈ zTb ∧ Cond.selects yX12_tells.cls yX12_tells yX12_tells ∈ zTb ∧ yX12_tells.cls = zNm 12 ∧ 12 < 13 := ⟨⟨zW9 2 rfl rfl, zW1 17 rfl rfl, zW9 5 rfl rfl, ⟨by decide +kernel, by decide +kernel, by decide +kernel⟩⟩, zW9 3 rfl rfl, zW9 4 rfl rfl, rfl, by decide⟩
set_option maxRecDepth 100000 in
theorem cb_RL_119 : zCB RL 119 yX11_write cX11_write 4 (some .boolean) 3 ∧ Cond.instanceMethod yX11_write ∈ zTb ∧ Cond.selects yX11_write.cls yX11_write yX11_write ∈ zTb ∧ yX11_write.cls = zNm 11 ∧ 11 < 13 := ⟨⟨zW5 174 rfl rfl, zW1 1 rfl rfl, zW5 177 rfl rfl, ⟨by decide +kernel, by decide +kernel, by decide +kernel⟩⟩, zW5 175 rfl rfl, zW5 176 rfl rfl, rfl, by decide⟩
set_option maxRecDepth 100000 in
theorem cb_RL_123 : zCB RL 123 yX12_write cX12_write 4 (some .boolean) 3 ∧ Cond.instanceMethod yX12_write ∈ zTb ∧ Cond.selects yX12_write.cls yX12_write yX12_write ∈ zTb ∧ yX12_write.cls = zNm 12 ∧ 12 < 13 := ⟨⟨zW9 11 rfl rfl, zW1 17 rfl rfl, zW9 14 rfl rfl, ⟨by decide +kernel, by decide +kernel, by decide +kernel⟩⟩, zW9 12 rfl rfl, zW9 13 rfl rfl, rfl, by decide⟩
set_option maxRecDepth 100000 in
theorem cb_RL_124 : zCB RL 124 yX11_erase cX11_erase 2 (some .boolean) 1 ∧ Cond.instanceMethod yX11_erase ∈ zTb ∧ Cond.selects yX11_erase.cls yX11_erase yX11_erase ∈ zTb ∧ yX11_erase.cls = zNm 11 ∧ 11 < 13 := ⟨⟨zW5 196 rfl rfl, zW1 1 rfl rfl, zW5 199 rfl rfl, ⟨by decide +kernel, by decide +kernel, by decide +kernel⟩⟩, zW5 197 rfl rfl, zW5 198 rfl rfl, rfl, by decide⟩
set_option maxRecDepth 100000 in
theorem cb_RL_127 : zCB RL 127 yX12_erase cX12_erase 2 (some .boolean) 1 ∧ Cond.instanceMethod yX12_erase ∈ zTb ∧ Cond.selects yX12_erase.cls yX12_erase yX12_erase ∈ zTb ∧ yX12_erase.cls = zNm 12 ∧ 12 < 13 := ⟨⟨zW9 27 rfl rfl, zW1 17 rfl rfl, zW9 30 rfl rfl, ⟨by decide +kernel, by decide +kernel, by decide +kernel⟩⟩, zW9 28 rfl rfl, zW9 29 rfl rfl, rfl, by decide⟩
set_option maxRecDepth 100000 in
theorem cb_RL_128 : zCB RL 128 yX11_flip cX11_flip 3 (some .boolean) 2 ∧ Cond.instanceMethod yX11_flip ∈ zTb ∧ Cond.selects yX11_flip.cls yX11_flip yX11_flip ∈ zTb ∧ yX11_flip.cls = zNm 11 ∧ 11 < 13 := ⟨⟨zW5 201 rfl rfl, zW1 1 rfl rfl, zW5 204 rfl rfl, ⟨by decide +kernel, by decide +kernel, by decide +kernel⟩⟩, zW5 202 rfl rfl, zW5 203 rfl rfl, rfl, by decide⟩
set_option maxRecDepth 100000 in
theorem cb_RL_132 : zCB RL 132 yX12_flip cX12_flip 3 (some .boolean) 2 ∧ Cond.instanceMethod yX12_flip ∈ zTb ∧ Cond.selects yX12_flip.cls yX12_flip yX12_flip ∈ zTb ∧ yX12_flip.cls = zNm 12 ∧ 12 < 13 := ⟨⟨zW9 31 rfl rfl, zW1 17 rfl rfl, zW9 34 rfl rfl, ⟨by decide +kernel, by decide +kernel, by decide +kernel⟩⟩, zW9 32 rfl rfl, zW9 33 rfl rfl, rfl, by decide⟩
set_option maxRecDepth 100000 in
theorem cb_RL_133 : zCB RL 133 yX11_refresh cX11_refresh 3 (some .int) 1 ∧ Cond.instanceMethod yX11_refresh ∈ zTb ∧ Cond.selects yX11_refresh.cls yX11_refresh yX11_refresh ∈ zTb ∧ yX11_refresh.cls = zNm 11 ∧ 11 < 13 := ⟨⟨zW5 205 rfl rfl, zW1 1 rfl rfl, zW5 208 rfl rfl, ⟨by decide +kernel, by decide +kernel, by decide +kernel⟩⟩, zW5 206 rfl rfl, zW5 207 rfl rfl, rfl, by decide⟩
set_option maxRecDepth 100000 in
theorem cb_RL_136 : zCB RL 136 yX12_refresh cX12_refresh 5 (some .int) 1 ∧ Cond.instanceMethod yX12_refresh ∈ zTb ∧ Cond.selects yX12_refresh.cls yX12_refresh yX12_refresh ∈ zTb ∧ yX12_refresh.cls = zNm 12 ∧ 12 < 13 := ⟨⟨zW9 35 rfl rfl, zW1 17 rfl rfl, zW9 38 rfl rfl, ⟨by decide +kernel, by decide +kernel, by decide +kernel⟩⟩, zW9 36 rfl rfl, zW9 37 rfl rfl, rfl, by decide⟩
set_option maxRecDepth 100000 in
theorem cb_RL_137 : zCB RL 137 yX11_days cX11_days 4 (some .int) 1 ∧ Cond.instanceMethod yX11_days ∈ zTb ∧ Cond.selects yX11_days.cls yX11_days yX11_days ∈ zTb ∧ yX11_days.cls = zNm 11 ∧ 11 < 13 := ⟨⟨zW5 209 rfl rfl, zW1 1 rfl rfl, zW5 212 rfl rfl, ⟨by decide +kernel, by decide +kernel, by decide +kernel⟩⟩, zW5 210 rfl rfl, zW5 211 rfl rfl, rfl, by decide⟩
set_option maxRecDepth 100000 in
theorem cb_RL_140 : zCB RL 140 yX12_days cX12_days 3 (some .int) 1 ∧ Cond.instanceMethod yX12_days ∈ zTb ∧ Cond.selects yX12_days.cls yX12_days yX12_days ∈ zTb ∧ yX12_days.cls = zNm 12 ∧ 12 < 13 := ⟨⟨zW9 39 rfl rfl, zW1 17 rfl rfl, zW9 42 rfl rfl, ⟨by decide +kernel, by decide +kernel, by decide +kernel⟩⟩, zW9 40 rfl rfl, zW9 41 rfl rfl, rfl, by decide⟩
set_option maxRecDepth 100000 in
theorem cb_RL_141 : zCB RL 141 yX11_chance cX11_chance 4 (some .int) 1 ∧ Cond.instanceMethod yX11_chance ∈ zTb ∧ Cond.selects yX11_chance.cls yX11_chance yX11_chance ∈ zTb ∧ yX11_chance.cls = zNm 11 ∧ 11 < 13 := ⟨⟨zW5 217 rfl rfl, zW1 1 rfl rfl, zW5 220 rfl rfl, ⟨by decide +kernel, by decide +kernel, by decide +kernel⟩⟩, zW5 218 rfl rfl, zW5 219 rfl rfl, rfl, by decide⟩
set_option maxRecDepth 100000 in
theorem cb_RL_144 : zCB RL 144 yX12_chance cX12_chance 6 (some .int) 1 ∧ Cond.instanceMethod yX12_chance ∈ zTb ∧ Cond.selects yX12_chance.cls yX12_chance yX12_chance ∈ zTb ∧ yX12_chance.cls = zNm 12 ∧ 12 < 13 := ⟨⟨zW9 47 rfl rfl, zW1 17 rfl rfl, zW9 50 rfl rfl, ⟨by decide +kernel, by decide +kernel, by decide +kernel⟩⟩, zW9 48 rfl rfl, zW9 49 rfl rfl, rfl, by decide⟩
set_option maxRecDepth 100000 in
theorem cb_RL_145 : zCB RL 145 yX11_undo cX11_undo 1 (some .boolean) 0 ∧ Cond.instanceMethod yX11_undo ∈ zTb ∧ Cond.selects yX11_undo.cls yX11_undo yX11_undo ∈ zTb ∧ yX11_undo.cls = zNm 11 ∧ 11 < 13 := ⟨⟨zW5 232 rfl rfl, zW1 1 rfl rfl, zW5 235 rfl rfl, ⟨by decide +kernel, by decide +kernel, by decide +kernel⟩⟩, zW5 233 rfl rfl, zW5 234 rfl rfl, rfl, by decide⟩
set_option maxRecDepth 100000 in
theorem cb_RL_149 : zCB RL 149 yX12_undo cX12_undo 1 (some .boolean) 0 ∧ Cond.instanceMethod yX12_undo ∈ zTb ∧ Cond.selects yX12_undo.cls yX12_undo yX12_undo ∈ zTb ∧ yX12_undo.cls = zNm 12 ∧ 12 < 13 := ⟨⟨zW8 92 rfl rfl, zW1 17 rfl rfl, zW8 95 rfl rfl, ⟨by decide +kernel, by decide +kernel, by decide +kernel⟩⟩, zW8 93 rfl rfl, zW8 94 rfl rfl, rfl, by decide⟩
set_option maxRecDepth 100000 in
theorem cb_RL_150 : zCB RL 150 yX11_seed cX11_seed 2 (some .boolean) 1 ∧ Cond.instanceMethod yX11_seed ∈ zTb ∧ Cond.selects yX11_seed.cls yX11_seed yX11_seed ∈ zTb ∧ yX11_seed.cls = zNm 11 ∧ 11 < 13 := ⟨⟨zW6 0 rfl rfl, zW1 1 rfl rfl, zW6 3 rfl rfl, ⟨by decide +kernel, by decide +kernel, by decide +kernel⟩⟩, zW6 1 rfl rfl, zW6 2 rfl rfl, rfl, by decide⟩
set_option maxRecDepth 100000 in
theorem cb_RL_153 : zCB RL 153 yX12_seed cX12_seed 2 (some .boolean) 1 ∧ Cond.instanceMethod yX12_seed ∈ zTb ∧ Cond.selects yX12_seed.cls yX12_seed yX12_seed ∈ zTb ∧ yX12_seed.cls = zNm 12 ∧ 12 < 13 := ⟨⟨zW9 59 rfl rfl, zW1 17 rfl rfl, zW9 62 rfl rfl, ⟨by decide +kernel, by decide +kernel, by decide +kernel⟩⟩, zW9 60 rfl rfl, zW9 61 rfl rfl, rfl, by decide⟩
set_option maxRecDepth 100000 in
theorem cb_RL_154 : zCB RL 154 yX11_kept cX11_kept 3 (some .int) 2 ∧ Cond.instanceMethod yX11_kept ∈ zTb ∧ Cond.selects yX11_kept.cls yX11_kept yX11_kept ∈ zTb ∧ yX11_kept.cls = zNm 11 ∧ 11 < 13 := ⟨⟨zW6 4 rfl rfl, zW1 1 rfl rfl, zW6 7 rfl rfl, ⟨by decide +kernel, by decide +kernel, by decide +kernel⟩⟩, zW6 5 rfl rfl, zW6 6 rfl rfl, rfl, by decide⟩
set_option maxRecDepth 100000 in
theorem cb_RL_157 : zCB RL 157 yX12_kept cX12_kept 3 (some .int) 2 ∧ Cond.instanceMethod yX12_kept ∈ zTb ∧ Cond.selects yX12_kept.cls yX12_kept yX12_kept ∈ zTb ∧ yX12_kept.cls = zNm 12 ∧ 12 < 13 := ⟨⟨zW9 63 rfl rfl, zW1 17 rfl rfl, zW9 66 rfl rfl, ⟨by decide +kernel, by decide +kernel, by decide +kernel⟩⟩, zW9 64 rfl rfl, zW9 65 rfl rfl, rfl, by decide⟩
set_option maxRecDepth 100000 in
theorem cb_RL_158 : zCB RL 158 yX11_image cX11_image 1 (some .int) 0 ∧ Cond.instanceMethod yX11_image ∈ zTb ∧ Cond.selects yX11_image.cls yX11_image yX11_image ∈ zTb ∧ yX11_image.cls = zNm 11 ∧ 11 < 13 := ⟨⟨zW6 13 rfl rfl, zW1 1 rfl rfl, zW6 16 rfl rfl, ⟨by decide +kernel, by decide +kernel, by decide +kernel⟩⟩, zW6 14 rfl rfl, zW6 15 rfl rfl, rfl, by decide⟩
set_option maxRecDepth 100000 in
theorem cb_RL_161 : zCB RL 161 yX12_image cX12_image 3 (some .int) 0 ∧ Cond.instanceMethod yX12_image ∈ zTb ∧ Cond.selects yX12_image.cls yX12_image yX12_image ∈ zTb ∧ yX12_image.cls = zNm 12 ∧ 12 < 13 := ⟨⟨zW9 67 rfl rfl, zW1 17 rfl rfl, zW9 70 rfl rfl, ⟨by decide +kernel, by decide +kernel, by decide +kernel⟩⟩, zW9 68 rfl rfl, zW9 69 rfl rfl, rfl, by decide⟩
set_option maxRecDepth 100000 in
theorem cb_RL_162 : zCB RL 162 yX11_octet cX11_octet 2 (some .int) 1 ∧ Cond.instanceMethod yX11_octet ∈ zTb ∧ Cond.selects yX11_octet.cls yX11_octet yX11_octet ∈ zTb ∧ yX11_octet.cls = zNm 11 ∧ 11 < 13 := ⟨⟨zW6 33 rfl rfl, zW1 1 rfl rfl, zW6 36 rfl rfl, ⟨by decide +kernel, by decide +kernel, by decide +kernel⟩⟩, zW6 34 rfl rfl, zW6 35 rfl rfl, rfl, by decide⟩
set_option maxRecDepth 100000 in
theorem cb_RL_165 : zCB RL 165 yX12_octet cX12_octet 2 (some .int) 1 ∧ Cond.instanceMethod yX12_octet ∈ zTb ∧ Cond.selects yX12_octet.cls yX12_octet yX12_octet ∈ zTb ∧ yX12_octet.cls = zNm 12 ∧ 12 < 13 := ⟨⟨zW9 75 rfl rfl, zW1 17 rfl rfl, zW9 78 rfl rfl, ⟨by decide +kernel, by decide +kernel, by decide +kernel⟩⟩, zW9 76 rfl rfl, zW9 77 rfl rfl, rfl, by decide⟩
set_option maxRecDepth 100000 in
theorem cb_RL_166 : zCB RL 166 yX11_on cX11_on 2 (some .boolean) 0 ∧ Cond.instanceMethod yX11_on ∈ zTb ∧ Cond.selects yX11_on.cls yX11_on yX11_on ∈ zTb ∧ yX11_on.cls = zNm 11 ∧ 11 < 13 := ⟨⟨zW6 37 rfl rfl, zW1 1 rfl rfl, zW6 40 rfl rfl, ⟨by decide +kernel, by decide +kernel, by decide +kernel⟩⟩, zW6 38 rfl rfl, zW6 39 rfl rfl, rfl, by decide⟩
set_option maxRecDepth 100000 in
theorem cb_RL_169 : zCB RL 169 yX12_on cX12_on 2 (some .boolean) 0 ∧ Cond.instanceMethod yX12_on ∈ zTb ∧ Cond.selects yX12_on.cls yX12_on yX12_on ∈ zTb ∧ yX12_on.cls = zNm 12 ∧ 12 < 13 := ⟨⟨zW9 79 rfl rfl, zW1 17 rfl rfl, zW9 82 rfl rfl, ⟨by decide +kernel, by decide +kernel, by decide +kernel⟩⟩, zW9 80 rfl rfl, zW9 81 rfl rfl, rfl, by decide⟩
set_option maxRecDepth 100000 in
theorem cb_RL_170 : zCB RL 170 yX11_status cX11_status 2 (some .int) 1 ∧ Cond.instanceMethod yX11_status ∈ zTb ∧ Cond.selects yX11_status.cls yX11_status yX11_status ∈ zTb ∧ yX11_status.cls = zNm 11 ∧ 11 < 13 := ⟨⟨zW6 56 rfl rfl, zW1 1 rfl rfl, zW6 59 rfl rfl, ⟨by decide +kernel, by decide +kernel, by decide +kernel⟩⟩, zW6 57 rfl rfl, zW6 58 rfl rfl, rfl, by decide⟩
set_option maxRecDepth 100000 in
theorem cb_RL_173 : zCB RL 173 yX12_status cX12_status 2 (some .int) 1 ∧ Cond.instanceMethod yX12_status ∈ zTb ∧ Cond.selects yX12_status.cls yX12_status yX12_status ∈ zTb ∧ yX12_status.cls = zNm 12 ∧ 12 < 13 := ⟨⟨zW8 20 rfl rfl, zW1 17 rfl rfl, zW8 23 rfl rfl, ⟨by decide +kernel, by decide +kernel, by decide +kernel⟩⟩, zW8 21 rfl rfl, zW8 22 rfl rfl, rfl, by decide⟩
set_option maxRecDepth 100000 in
theorem nw_RL_7 : Cond.classLink RL 7 (zNm 11) ∈ zTb ∧ Cond.instantiable (zNm 11) (zN 11) ∈ zTb ∧ Cond.initialized (zNm 11) ∈ zTb ∧ 11 < 13 ∧ zN 11 = 17 := ⟨zW1 22 rfl rfl, zW1 23 rfl rfl, zW1 1 rfl rfl, by decide, rfl⟩
set_option maxRecDepth 100000 in
theorem ic_RL_9 : (zCB RL 9 yX11_init cX11_init 1 none 0 ∨ zCN RL 9 yX11_init cX11_init 1 none 0) ∧ yX11_init.name = "<init>" ∧ Cond.instanceMethod yX11_init ∈ zTb := ⟨Or.inl ⟨zW1 24 rfl rfl, zW1 1 rfl rfl, zW1 26 rfl rfl, ⟨by decide +kernel, by decide +kernel, by decide +kernel⟩⟩, rfl, zW1 25 rfl rfl⟩
set_option maxRecDepth 100000 in
theorem nw_RL_10 : Cond.classLink RL 10 (zNm 12) ∈ zTb ∧ Cond.instantiable (zNm 12) (zN 12) ∈ zTb ∧ Cond.initialized (zNm 12) ∈ zTb ∧ 12 < 13 ∧ zN 12 = 76 := ⟨zW6 60 rfl rfl, zW6 61 rfl rfl, zW1 17 rfl rfl, by decide, rfl⟩
set_option maxRecDepth 100000 in
theorem ic_RL_12 : (zCB RL 12 yX12_init cX12_init 2 none 0 ∨ zCN RL 12 yX12_init cX12_init 2 none 0) ∧ yX12_init.name = "<init>" ∧ Cond.instanceMethod yX12_init ∈ zTb := ⟨Or.inl ⟨zW6 62 rfl rfl, zW1 17 rfl rfl, zW6 64 rfl rfl, ⟨by decide +kernel, by decide +kernel, by decide +kernel⟩⟩, rfl, zW6 63 rfl rfl⟩
set_option maxRecDepth 100000 in
def f_L_law_1304 (xs : Nat → Int32) (sl : Nat) (k18 : Nat → Nat → Int32 → Mem → Option (Int32 × Mem)) (r0 : Nat) (r1 : Nat) (r2 : Nat) (x3 : Int32) (M : Mem) : Option (Int32 × Mem) := k18 r1 r2 (x3 + 6) M
set_option maxRecDepth 100000 in
set_option maxHeartbeats 8000000 in
theorem x_L_law_1304 {κ : KX} {n : Nat} (hC : CX κ cL_law RL 4 (some .boolean) 128) (hE : zEnd κ n (395, 37739)) (hk0 : zRk κ (395, 37739)) {xs : Nat → Int32} {sl : Nat} (hsc : zScr κ xs sl) {r0 : Nat} (h_r0 : zSc r0) (k18 : Nat → Nat → Int32 → Mem → Option (Int32 × Mem)) (hk18 : ∀ (r1 : Nat) (r2 : Nat) (x3 : Int32) (M : Mem), zO n r1 11 → zO n r2 12 → X κ 4 emI n (395, 37739) 18 [.ref r0, .ref r1, .ref r2, .int x3] [] M (k18 r1 r2 x3 M)) (r1 : Nat) (r2 : Nat) (x3 : Int32) (M : Mem) (h_r1 : zO n r1 11) (h_r2 : zO n r2 12) : X κ 4 emI n (395, 37739) 1304 [.ref r0, .ref r1, .ref r2, .int x3] [] M (f_L_law_1304 xs sl k18 r0 r1 r2 x3 M) := by
  unfold f_L_law_1304
  refine x_iinc (i := 3) c_iconst_6 rfl (by decide) (L' := [.ref r0, .ref r1, .ref r2, .int (x3 + 6)]) rfl hC (zdk dk_L_law_14 58 rfl) (q := 1307) rfl ?_
  refine x_goto (tgt := 18) hC (zdk dk_L_law_14 59 rfl) rfl ?_
  refine x_weak (L' := [.ref r0, .ref r1, .ref r2, .int (x3 + 6)]) ⟨Or.inr rfl, Or.inr rfl, Or.inr rfl, Or.inr rfl, trivial⟩ ?_
  exact hk18 _ _ _ _ h_r1 h_r2
set_option maxRecDepth 100000 in
def f_L_law_18 (xs : Nat → Int32) (sl : Nat)  (r0 : Nat) : Nat → Nat → Nat → Int32 → Mem → Option (Int32 × Mem)
  | 0, _, _, _, _ => none
  | f + 1, r1, r2, x3, M => (if (nI sl) - 6 < x3 then some (1, M) else Option.bind (zsi sl x3) fun k1 => (if (xs k1) &&& 63 = 0 then Option.bind (zsi sl (x3 + 1)) fun k3 => Option.bind (zsi sl (x3 + 2)) fun k4 => Option.bind (zsi sl (x3 + 3)) fun k5 => Option.bind (zsi sl (x3 + 4)) fun k6 => Option.bind (zsi sl (x3 + 5)) fun k7 => Option.bind (f_X11_feed r1 (xs k3) (xs k4) (xs k5) (xs k6) (xs k7) M) fun z8 => Option.bind (zsi sl (x3 + 1)) fun k9 => Option.bind (zsi sl (x3 + 2)) fun k10 => Option.bind (zsi sl (x3 + 3)) fun k11 => Option.bind (zsi sl (x3 + 4)) fun k12 => Option.bind (zsi sl (x3 + 5)) fun k13 => Option.bind (f_X12_feed r2 (xs k9) (xs k10) (xs k11) (xs k12) (xs k13) z8.2) fun z14 => (if z8.1 = z14.1 then f_L_law_1304 xs sl (f_L_law_18 xs sl r0 f) r0 r1 r2 x3 z14.2 else some (0, z14.2)) else if (xs k1) &&& 63 = 1 then Option.bind (zsi sl (x3 + 1)) fun k16 => Option.bind (f_X11_end r1 (xs k16) M) fun z17 => Option.bind (zsi sl (x3 + 1)) fun k18 => Option.bind (f_X12_end r2 (xs k18) z17.2) fun z19 => (if z17.1 = z19.1 then f_L_law_1304 xs sl (f_L_law_18 xs sl r0 f) r0 r1 r2 x3 z19.2 else some (0, z19.2)) else if (xs k1) &&& 63 = 2 then Option.bind (f_X11_chip r1 M) fun z21 => Option.bind (f_X12_chip r2 z21.2) fun z22 => (if z21.1 = z22.1 then f_L_law_1304 xs sl (f_L_law_18 xs sl r0 f) r0 r1 r2 x3 z22.2 else some (0, z22.2)) else if (xs k1) &&& 63 = 3 then Option.bind (zsi sl (x3 + 1)) fun k24 => Option.bind (f_X11_fault r1 (xs k24) M) fun z25 => Option.bind (zsi sl (x3 + 1)) fun k26 => Option.bind (f_X12_fault r2 (xs k26) z25.2) fun z27 => (if z25.1 = z27.1 then f_L_law_1304 xs sl (f_L_law_18 xs sl r0 f) r0 r1 r2 x3 z27.2 else some (0, z27.2)) else if (xs k1) &&& 63 = 4 then Option.bind (zsi sl (x3 + 1)) fun k29 => Option.bind (f_X11_has r1 (xs k29) M) fun z30 => Option.bind (zsi sl (x3 + 1)) fun k31 => Option.bind (f_X12_has r2 (xs k31) z30.2) fun z32 => (if z30.1 = z32.1 then f_L_law_1304 xs sl (f_L_law_18 xs sl r0 f) r0 r1 r2 x3 z32.2 else some (0, z32.2)) else if (xs k1) &&& 63 = 5 then Option.bind (zsi sl (x3 + 1)) fun k34 => Option.bind (zsi sl (x3 + 2)) fun k35 => Option.bind (f_X11_letter r1 (xs k34) (xs k35) M) fun z36 => Option.bind (zsi sl (x3 + 1)) fun k37 => Option.bind (zsi sl (x3 + 2)) fun k38 => Option.bind (f_X12_letter r2 (xs k37) (xs k38) z36.2) fun z39 => (if z36.1 = z39.1 then f_L_law_1304 xs sl (f_L_law_18 xs sl r0 f) r0 r1 r2 x3 z39.2 else some (0, z39.2)) else if (xs k1) &&& 63 = 6 then Option.bind (zsi sl (x3 + 1)) fun k41 => Option.bind (zsi sl (x3 + 2)) fun k42 => Option.bind (f_X11_field r1 (xs k41) (xs k42) M) fun z43 => Option.bind (zsi sl (x3 + 1)) fun k44 => Option.bind (zsi sl (x3 + 2)) fun k45 => Option.bind (f_X12_field r2 (xs k44) (xs k45) z43.2) fun z46 => (if z43.1 = z46.1 then f_L_law_1304 xs sl (f_L_law_18 xs sl r0 f) r0 r1 r2 x3 z46.2 else some (0, z46.2)) else if (xs k1) &&& 63 = 7 then Option.bind (zsi sl (x3 + 1)) fun k48 => Option.bind (f_X11_generator r1 (xs k48) M) fun z49 => Option.bind (zsi sl (x3 + 1)) fun k50 => Option.bind (f_X12_generator r2 (xs k50) z49.2) fun z51 => (if z49.1 = z51.1 then f_L_law_1304 xs sl (f_L_law_18 xs sl r0 f) r0 r1 r2 x3 z51.2 else some (0, z51.2)) else if (xs k1) &&& 63 = 8 then Option.bind (zsi sl (x3 + 1)) fun k53 => Option.bind (zsi sl (x3 + 2)) fun k54 => Option.bind (zsi sl (x3 + 3)) fun k55 => Option.bind (f_X11_word r1 (xs k53) (xs k54) (xs k55) M) fun z56 => Option.bind (zsi sl (x3 + 1)) fun k57 => Option.bind (zsi sl (x3 + 2)) fun k58 => Option.bind (zsi sl (x3 + 3)) fun k59 => Option.bind (f_X12_word r2 (xs k57) (xs k58) (xs k59) z56.2) fun z60 => (if z56.1 = z60.1 then f_L_law_1304 xs sl (f_L_law_18 xs sl r0 f) r0 r1 r2 x3 z60.2 else some (0, z60.2)) else if (xs k1) &&& 63 = 9 then Option.bind (zsi sl (x3 + 1)) fun k62 => Option.bind (f_X11_weight r1 (xs k62) M) fun z63 => Option.bind (zsi sl (x3 + 1)) fun k64 => Option.bind (f_X12_weight r2 (xs k64) z63.2) fun z65 => (if z63.1 = z65.1 then f_L_law_1304 xs sl (f_L_law_18 xs sl r0 f) r0 r1 r2 x3 z65.2 else some (0, z65.2)) else if (xs k1) &&& 63 = 10 then Option.bind (zsi sl (x3 + 1)) fun k67 => Option.bind (zsi sl (x3 + 2)) fun k68 => Option.bind (f_X11_patterns r1 (xs k67) (xs k68) M) fun z69 => Option.bind (zsi sl (x3 + 1)) fun k70 => Option.bind (zsi sl (x3 + 2)) fun k71 => Option.bind (f_X12_patterns r2 (xs k70) (xs k71) z69.2) fun z72 => (if z69.1 = z72.1 then f_L_law_1304 xs sl (f_L_law_18 xs sl r0 f) r0 r1 r2 x3 z72.2 else some (0, z72.2)) else if (xs k1) &&& 63 = 11 then Option.bind (zsi sl (x3 + 1)) fun k74 => Option.bind (zsi sl (x3 + 2)) fun k75 => Option.bind (f_X11_page r1 (xs k74) (xs k75) M) fun z76 => Option.bind (zsi sl (x3 + 1)) fun k77 => Option.bind (zsi sl (x3 + 2)) fun k78 => Option.bind (f_X12_page r2 (xs k77) (xs k78) z76.2) fun z79 => (if z76.1 = z79.1 then f_L_law_1304 xs sl (f_L_law_18 xs sl r0 f) r0 r1 r2 x3 z79.2 else some (0, z79.2)) else if (xs k1) &&& 63 = 12 then Option.bind (zsi sl (x3 + 1)) fun k81 => Option.bind (zsi sl (x3 + 2)) fun k82 => Option.bind (zsi sl (x3 + 3)) fun k83 => Option.bind (f_X11_level r1 (xs k81) (xs k82) (xs k83) M) fun z84 => Option.bind (zsi sl (x3 + 1)) fun k85 => Option.bind (zsi sl (x3 + 2)) fun k86 => Option.bind (zsi sl (x3 + 3)) fun k87 => Option.bind (f_X12_level r2 (xs k85) (xs k86) (xs k87) z84.2) fun z88 => (if z84.1 = z88.1 then f_L_law_1304 xs sl (f_L_law_18 xs sl r0 f) r0 r1 r2 x3 z88.2 else some (0, z88.2)) else if (xs k1) &&& 63 = 13 then Option.bind (zsi sl (x3 + 1)) fun k90 => Option.bind (zsi sl (x3 + 2)) fun k91 => Option.bind (f_X11_ones r1 (xs k90) (xs k91) M) fun z92 => Option.bind (zsi sl (x3 + 1)) fun k93 => Option.bind (zsi sl (x3 + 2)) fun k94 => Option.bind (f_X12_ones r2 (xs k93) (xs k94) z92.2) fun z95 => (if z92.1 = z95.1 then f_L_law_1304 xs sl (f_L_law_18 xs sl r0 f) r0 r1 r2 x3 z95.2 else some (0, z95.2)) else if (xs k1) &&& 63 = 14 then Option.bind (zsi sl (x3 + 1)) fun k97 => Option.bind (zsi sl (x3 + 2)) fun k98 => Option.bind (zsi sl (x3 + 3)) fun k99 => Option.bind (f_X11_syndrome r1 (xs k97) (xs k98) (xs k99) M) fun z100 => Option.bind (zsi sl (x3 + 1)) fun k101 => Option.bind (zsi sl (x3 + 2)) fun k102 => Option.bind (zsi sl (x3 + 3)) fun k103 => Option.bind (f_X12_syndrome r2 (xs k101) (xs k102) (xs k103) z100.2) fun z104 => (if z100.1 = z104.1 then f_L_law_1304 xs sl (f_L_law_18 xs sl r0 f) r0 r1 r2 x3 z104.2 else some (0, z104.2)) else if (xs k1) &&& 63 = 15 then Option.bind (zsi sl (x3 + 1)) fun k106 => Option.bind (zsi sl (x3 + 2)) fun k107 => Option.bind (zsi sl (x3 + 3)) fun k108 => Option.bind (f_X11_locator r1 (xs k106) (xs k107) (xs k108) M) fun z109 => Option.bind (zsi sl (x3 + 1)) fun k110 => Option.bind (zsi sl (x3 + 2)) fun k111 => Option.bind (zsi sl (x3 + 3)) fun k112 => Option.bind (f_X12_locator r2 (xs k110) (xs k111) (xs k112) z109.2) fun z113 => (if z109.1 = z113.1 then f_L_law_1304 xs sl (f_L_law_18 xs sl r0 f) r0 r1 r2 x3 z113.2 else some (0, z113.2)) else if (xs k1) &&& 63 = 16 then Option.bind (zsi sl (x3 + 1)) fun k115 => Option.bind (zsi sl (x3 + 2)) fun k116 => Option.bind (zsi sl (x3 + 3)) fun k117 => Option.bind (f_X11_wrong r1 (xs k115) (xs k116) (xs k117) M) fun z118 => Option.bind (zsi sl (x3 + 1)) fun k119 => Option.bind (zsi sl (x3 + 2)) fun k120 => Option.bind (zsi sl (x3 + 3)) fun k121 => Option.bind (f_X12_wrong r2 (xs k119) (xs k120) (xs k121) z118.2) fun z122 => (if z118.1 = z122.1 then f_L_law_1304 xs sl (f_L_law_18 xs sl r0 f) r0 r1 r2 x3 z122.2 else some (0, z122.2)) else if (xs k1) &&& 63 = 17 then Option.bind (zsi sl (x3 + 1)) fun k124 => Option.bind (zsi sl (x3 + 2)) fun k125 => Option.bind (f_X11_why r1 (xs k124) (xs k125) M) fun z126 => Option.bind (zsi sl (x3 + 1)) fun k127 => Option.bind (zsi sl (x3 + 2)) fun k128 => Option.bind (f_X12_why r2 (xs k127) (xs k128) z126.2) fun z129 => (if z126.1 = z129.1 then f_L_law_1304 xs sl (f_L_law_18 xs sl r0 f) r0 r1 r2 x3 z129.2 else some (0, z129.2)) else if (xs k1) &&& 63 = 18 then Option.bind (zsi sl (x3 + 1)) fun k131 => Option.bind (zsi sl (x3 + 2)) fun k132 => Option.bind (f_X11_got r1 (xs k131) (xs k132) M) fun z133 => Option.bind (zsi sl (x3 + 1)) fun k134 => Option.bind (zsi sl (x3 + 2)) fun k135 => Option.bind (f_X12_got r2 (xs k134) (xs k135) z133.2) fun z136 => (if z133.1 = z136.1 then f_L_law_1304 xs sl (f_L_law_18 xs sl r0 f) r0 r1 r2 x3 z136.2 else some (0, z136.2)) else if (xs k1) &&& 63 = 19 then Option.bind (zsi sl (x3 + 1)) fun k138 => Option.bind (zsi sl (x3 + 2)) fun k139 => Option.bind (f_X11_span r1 (xs k138) (xs k139) M) fun z140 => Option.bind (zsi sl (x3 + 1)) fun k141 => Option.bind (zsi sl (x3 + 2)) fun k142 => Option.bind (f_X12_span r2 (xs k141) (xs k142) z140.2) fun z143 => (if z140.1 = z143.1 then f_L_law_1304 xs sl (f_L_law_18 xs sl r0 f) r0 r1 r2 x3 z143.2 else some (0, z143.2)) else if (xs k1) &&& 63 = 20 then Option.bind (zsi sl (x3 + 1)) fun k145 => Option.bind (f_X11_lost r1 (xs k145) M) fun z146 => Option.bind (zsi sl (x3 + 1)) fun k147 => Option.bind (f_X12_lost r2 (xs k147) z146.2) fun z148 => (if z146.1 = z148.1 then f_L_law_1304 xs sl (f_L_law_18 xs sl r0 f) r0 r1 r2 x3 z148.2 else some (0, z148.2)) else if (xs k1) &&& 63 = 21 then Option.bind (zsi sl (x3 + 1)) fun k150 => Option.bind (f_X11_odds r1 (xs k150) M) fun z151 => Option.bind (zsi sl (x3 + 1)) fun k152 => Option.bind (f_X12_odds r2 (xs k152) z151.2) fun z153 => (if z151.1 = z153.1 then f_L_law_1304 xs sl (f_L_law_18 xs sl r0 f) r0 r1 r2 x3 z153.2 else some (0, z153.2)) else if (xs k1) &&& 63 = 22 then Option.bind (f_X11_meet r1 M) fun z155 => Option.bind (f_X12_meet r2 z155.2) fun z156 => (if z155.1 = z156.1 then f_L_law_1304 xs sl (f_L_law_18 xs sl r0 f) r0 r1 r2 x3 z156.2 else some (0, z156.2)) else if (xs k1) &&& 63 = 23 then Option.bind (zsi sl (x3 + 1)) fun k158 => Option.bind (zsi sl (x3 + 2)) fun k159 => Option.bind (f_X11_shifts r1 (xs k158) (xs k159) M) fun z160 => Option.bind (zsi sl (x3 + 1)) fun k161 => Option.bind (zsi sl (x3 + 2)) fun k162 => Option.bind (f_X12_shifts r2 (xs k161) (xs k162) z160.2) fun z163 => (if z160.1 = z163.1 then f_L_law_1304 xs sl (f_L_law_18 xs sl r0 f) r0 r1 r2 x3 z163.2 else some (0, z163.2)) else if (xs k1) &&& 63 = 24 then Option.bind (zsi sl (x3 + 1)) fun k165 => Option.bind (zsi sl (x3 + 2)) fun k166 => Option.bind (f_X11_tells r1 (xs k165) (xs k166) M) fun z167 => Option.bind (zsi sl (x3 + 1)) fun k168 => Option.bind (zsi sl (x3 + 2)) fun k169 => Option.bind (f_X12_tells r2 (xs k168) (xs k169) z167.2) fun z170 => (if z167.1 = z170.1 then f_L_law_1304 xs sl (f_L_law_18 xs sl r0 f) r0 r1 r2 x3 z170.2 else some (0, z170.2)) else if (xs k1) &&& 63 = 25 then Option.bind (zsi sl (x3 + 1)) fun k172 => Option.bind (zsi sl (x3 + 2)) fun k173 => Option.bind (zsi sl (x3 + 3)) fun k174 => Option.bind (f_X11_write r1 (xs k172) (xs k173) (xs k174) M) fun z175 => Option.bind (zsi sl (x3 + 1)) fun k176 => Option.bind (zsi sl (x3 + 2)) fun k177 => Option.bind (zsi sl (x3 + 3)) fun k178 => Option.bind (f_X12_write r2 (xs k176) (xs k177) (xs k178) z175.2) fun z179 => (if z175.1 = z179.1 then f_L_law_1304 xs sl (f_L_law_18 xs sl r0 f) r0 r1 r2 x3 z179.2 else some (0, z179.2)) else if (xs k1) &&& 63 = 26 then Option.bind (zsi sl (x3 + 1)) fun k181 => Option.bind (f_X11_erase r1 (xs k181) M) fun z182 => Option.bind (zsi sl (x3 + 1)) fun k183 => Option.bind (f_X12_erase r2 (xs k183) z182.2) fun z184 => (if z182.1 = z184.1 then f_L_law_1304 xs sl (f_L_law_18 xs sl r0 f) r0 r1 r2 x3 z184.2 else some (0, z184.2)) else if (xs k1) &&& 63 = 27 then Option.bind (zsi sl (x3 + 1)) fun k186 => Option.bind (zsi sl (x3 + 2)) fun k187 => Option.bind (f_X11_flip r1 (xs k186) (xs k187) M) fun z188 => Option.bind (zsi sl (x3 + 1)) fun k189 => Option.bind (zsi sl (x3 + 2)) fun k190 => Option.bind (f_X12_flip r2 (xs k189) (xs k190) z188.2) fun z191 => (if z188.1 = z191.1 then f_L_law_1304 xs sl (f_L_law_18 xs sl r0 f) r0 r1 r2 x3 z191.2 else some (0, z191.2)) else if (xs k1) &&& 63 = 28 then Option.bind (zsi sl (x3 + 1)) fun k193 => Option.bind (f_X11_refresh r1 (xs k193) M) fun z194 => Option.bind (zsi sl (x3 + 1)) fun k195 => Option.bind (f_X12_refresh r2 (xs k195) z194.2) fun z196 => (if z194.1 = z196.1 then f_L_law_1304 xs sl (f_L_law_18 xs sl r0 f) r0 r1 r2 x3 z196.2 else some (0, z196.2)) else if (xs k1) &&& 63 = 29 then Option.bind (zsi sl (x3 + 1)) fun k198 => Option.bind (f_X11_days r1 (xs k198) M) fun z199 => Option.bind (zsi sl (x3 + 1)) fun k200 => Option.bind (f_X12_days r2 (xs k200) z199.2) fun z201 => (if z199.1 = z201.1 then f_L_law_1304 xs sl (f_L_law_18 xs sl r0 f) r0 r1 r2 x3 z201.2 else some (0, z201.2)) else if (xs k1) &&& 63 = 30 then Option.bind (zsi sl (x3 + 1)) fun k203 => Option.bind (f_X11_chance r1 (xs k203) M) fun z204 => Option.bind (zsi sl (x3 + 1)) fun k205 => Option.bind (f_X12_chance r2 (xs k205) z204.2) fun z206 => (if z204.1 = z206.1 then f_L_law_1304 xs sl (f_L_law_18 xs sl r0 f) r0 r1 r2 x3 z206.2 else some (0, z206.2)) else if (xs k1) &&& 63 = 31 then Option.bind (f_X11_undo r1 M) fun z208 => Option.bind (f_X12_undo r2 z208.2) fun z209 => (if z208.1 = z209.1 then f_L_law_1304 xs sl (f_L_law_18 xs sl r0 f) r0 r1 r2 x3 z209.2 else some (0, z209.2)) else if (xs k1) &&& 63 = 32 then Option.bind (zsi sl (x3 + 1)) fun k211 => Option.bind (f_X11_seed r1 (xs k211) M) fun z212 => Option.bind (zsi sl (x3 + 1)) fun k213 => Option.bind (f_X12_seed r2 (xs k213) z212.2) fun z214 => (if z212.1 = z214.1 then f_L_law_1304 xs sl (f_L_law_18 xs sl r0 f) r0 r1 r2 x3 z214.2 else some (0, z214.2)) else if (xs k1) &&& 63 = 33 then Option.bind (zsi sl (x3 + 1)) fun k216 => Option.bind (zsi sl (x3 + 2)) fun k217 => Option.bind (f_X11_kept r1 (xs k216) (xs k217) M) fun z218 => Option.bind (zsi sl (x3 + 1)) fun k219 => Option.bind (zsi sl (x3 + 2)) fun k220 => Option.bind (f_X12_kept r2 (xs k219) (xs k220) z218.2) fun z221 => (if z218.1 = z221.1 then f_L_law_1304 xs sl (f_L_law_18 xs sl r0 f) r0 r1 r2 x3 z221.2 else some (0, z221.2)) else if (xs k1) &&& 63 = 34 then Option.bind (f_X11_image r1 M) fun z223 => Option.bind (f_X12_image r2 z223.2) fun z224 => (if z223.1 = z224.1 then f_L_law_1304 xs sl (f_L_law_18 xs sl r0 f) r0 r1 r2 x3 z224.2 else some (0, z224.2)) else if (xs k1) &&& 63 = 35 then Option.bind (zsi sl (x3 + 1)) fun k226 => Option.bind (f_X11_octet r1 (xs k226) M) fun z227 => Option.bind (zsi sl (x3 + 1)) fun k228 => Option.bind (f_X12_octet r2 (xs k228) z227.2) fun z229 => (if z227.1 = z229.1 then f_L_law_1304 xs sl (f_L_law_18 xs sl r0 f) r0 r1 r2 x3 z229.2 else some (0, z229.2)) else if (xs k1) &&& 63 = 36 then Option.bind (f_X11_on r1 M) fun z231 => Option.bind (f_X12_on r2 z231.2) fun z232 => (if z231.1 = z232.1 then f_L_law_1304 xs sl (f_L_law_18 xs sl r0 f) r0 r1 r2 x3 z232.2 else some (0, z232.2)) else if (xs k1) &&& 63 = 37 then Option.bind (zsi sl (x3 + 1)) fun k234 => Option.bind (f_X11_status r1 (xs k234) M) fun z235 => Option.bind (zsi sl (x3 + 1)) fun k236 => Option.bind (f_X12_status r2 (xs k236) z235.2) fun z237 => (if z235.1 = z237.1 then f_L_law_1304 xs sl (f_L_law_18 xs sl r0 f) r0 r1 r2 x3 z237.2 else some (0, z237.2)) else f_L_law_1304 xs sl (f_L_law_18 xs sl r0 f) r0 r1 r2 x3 M))
set_option maxRecDepth 100000 in
set_option maxHeartbeats 8000000 in
theorem x_L_law_18 {κ : KX} {n : Nat} (hC : CX κ cL_law RL 4 (some .boolean) 128) (hE : zEnd κ n (395, 37739)) (hk0 : zRk κ (395, 37739)) {xs : Nat → Int32} {sl : Nat} (hsc : zScr κ xs sl) {r0 : Nat} (h_r0 : zSc r0) : ∀ (f : Nat) (r1 : Nat) (r2 : Nat) (x3 : Int32) (M : Mem), zO n r1 11 → zO n r2 12 → X κ 4 emI n (395, 37739) 18 [.ref r0, .ref r1, .ref r2, .int x3] [] M (f_L_law_18 xs sl r0 f r1 r2 x3 M) := by
  intro f
  induction f with
  | zero => intros; exact x_none
  | succ f ih =>
    intro r1 r2 x3 M h_r1 h_r2
    rw [f_L_law_18]
    refine x_iload_n (i := 3) rfl hC (zdk dk_L_law_0 10 rfl) (q := 19) rfl ?_
    refine x_aload_n (i := 0) rfl hC (zdk dk_L_law_0 11 rfl) (q := 20) rfl ?_
    refine x_sclen hsc h_r0 hC (zdk dk_L_law_0 12 rfl) (q := 21) rfl ?_
    refine x_bipush (i := 6) c_bipush_6 hC (zdk dk_L_law_0 13 rfl) (q := 23) rfl ?_
    refine x_isub hC (zdk dk_L_law_0 14 rfl) (q := 24) rfl ?_
    refine x_icmp_gt (tgt := 1310) hC (zdk dk_L_law_0 15 rfl) (q := 27) rfl rfl (fun _ => ?_) (fun _ => ?_)
    · refine x_iconst (i := 1) c_iconst_1 hC (zdk dk_L_law_15 0 rfl) (q := 1311) rfl ?_
      exact x_iret (ty := .boolean) rfl hE hC (zdk dk_L_law_15 1 rfl)
    · refine x_aload_n (i := 0) rfl hC (zdk dk_L_law_0 16 rfl) (q := 28) rfl ?_
      refine x_iload_n (i := 3) rfl hC (zdk dk_L_law_0 17 rfl) (q := 29) rfl ?_
      refine x_scald hsc h_r0 hC (zdk dk_L_law_0 18 rfl) (q := 30) rfl (fun k1 _ => ?_)
      refine x_bipush (i := 63) c_bipush_63 hC (zdk dk_L_law_0 19 rfl) (q := 32) rfl ?_
      refine x_iand hC (zdk dk_L_law_0 20 rfl) (q := 33) rfl ?_
      refine x_tsIn (v := 0) (off := 167) (tgt := 200) hC (zdk dk_L_law_0 21 rfl) (by decide) ?_ (fun ht2 => ?_)
      · refine x_aload_n (i := 1) rfl hC (zdk dk_L_law_0 22 rfl) (q := 201) rfl ?_
        refine x_aload_n (i := 0) rfl hC (zdk dk_L_law_0 23 rfl) (q := 202) rfl ?_
        refine x_iload_n (i := 3) rfl hC (zdk dk_L_law_0 24 rfl) (q := 203) rfl ?_
        refine x_iconst (i := 1) c_iconst_1 hC (zdk dk_L_law_0 25 rfl) (q := 204) rfl ?_
        refine x_iadd hC (zdk dk_L_law_0 26 rfl) (q := 205) rfl ?_
        refine x_scald hsc h_r0 hC (zdk dk_L_law_0 27 rfl) (q := 206) rfl (fun k3 _ => ?_)
        refine x_aload_n (i := 0) rfl hC (zdk dk_L_law_0 28 rfl) (q := 207) rfl ?_
        refine x_iload_n (i := 3) rfl hC (zdk dk_L_law_0 29 rfl) (q := 208) rfl ?_
        refine x_iconst (i := 2) c_iconst_2 hC (zdk dk_L_law_0 30 rfl) (q := 209) rfl ?_
        refine x_iadd hC (zdk dk_L_law_0 31 rfl) (q := 210) rfl ?_
        refine x_scald hsc h_r0 hC (zdk dk_L_law_0 32 rfl) (q := 211) rfl (fun k4 _ => ?_)
        refine x_aload_n (i := 0) rfl hC (zdk dk_L_law_0 33 rfl) (q := 212) rfl ?_
        refine x_iload_n (i := 3) rfl hC (zdk dk_L_law_0 34 rfl) (q := 213) rfl ?_
        refine x_iconst (i := 3) c_iconst_3 hC (zdk dk_L_law_0 35 rfl) (q := 214) rfl ?_
        refine x_iadd hC (zdk dk_L_law_0 36 rfl) (q := 215) rfl ?_
        refine x_scald hsc h_r0 hC (zdk dk_L_law_0 37 rfl) (q := 216) rfl (fun k5 _ => ?_)
        refine x_aload_n (i := 0) rfl hC (zdk dk_L_law_0 38 rfl) (q := 217) rfl ?_
        refine x_iload_n (i := 3) rfl hC (zdk dk_L_law_0 39 rfl) (q := 218) rfl ?_
        refine x_iconst (i := 4) c_iconst_4 hC (zdk dk_L_law_0 40 rfl) (q := 219) rfl ?_
        refine x_iadd hC (zdk dk_L_law_0 41 rfl) (q := 220) rfl ?_
        refine x_scald hsc h_r0 hC (zdk dk_L_law_0 42 rfl) (q := 221) rfl (fun k6 _ => ?_)
        refine x_aload_n (i := 0) rfl hC (zdk dk_L_law_0 43 rfl) (q := 222) rfl ?_
        refine x_iload_n (i := 3) rfl hC (zdk dk_L_law_0 44 rfl) (q := 223) rfl ?_
        refine x_iconst (i := 5) c_iconst_5 hC (zdk dk_L_law_0 45 rfl) (q := 224) rfl ?_
        refine x_iadd hC (zdk dk_L_law_0 46 rfl) (q := 225) rfl ?_
        refine x_scald hsc h_r0 hC (zdk dk_L_law_0 47 rfl) (q := 226) rfl (fun k7 _ => ?_)
        refine x_callVi (as := [.int (xs k3), .int (xs k4), .int (xs k5), .int (xs k6), .int (xs k7)]) cb_RL_13 rfl (by decide) hk0 h_r1 (fun x hx => t_X11_feed h_r1 x hx) hC (zdk dk_L_law_0 48 rfl) (q := 229) rfl rfl (Nat.le_of_ble_eq_true rfl) (fun z8 => ?_)
        refine x_aload_n (i := 2) rfl hC (zdk dk_L_law_0 49 rfl) (q := 230) rfl ?_
        refine x_aload_n (i := 0) rfl hC (zdk dk_L_law_0 50 rfl) (q := 231) rfl ?_
        refine x_iload_n (i := 3) rfl hC (zdk dk_L_law_0 51 rfl) (q := 232) rfl ?_
        refine x_iconst (i := 1) c_iconst_1 hC (zdk dk_L_law_0 52 rfl) (q := 233) rfl ?_
        refine x_iadd hC (zdk dk_L_law_0 53 rfl) (q := 234) rfl ?_
        refine x_scald hsc h_r0 hC (zdk dk_L_law_0 54 rfl) (q := 235) rfl (fun k9 _ => ?_)
        refine x_aload_n (i := 0) rfl hC (zdk dk_L_law_0 55 rfl) (q := 236) rfl ?_
        refine x_iload_n (i := 3) rfl hC (zdk dk_L_law_0 56 rfl) (q := 237) rfl ?_
        refine x_iconst (i := 2) c_iconst_2 hC (zdk dk_L_law_0 57 rfl) (q := 238) rfl ?_
        refine x_iadd hC (zdk dk_L_law_0 58 rfl) (q := 239) rfl ?_
        refine x_scald hsc h_r0 hC (zdk dk_L_law_0 59 rfl) (q := 240) rfl (fun k10 _ => ?_)
        refine x_aload_n (i := 0) rfl hC (zdk dk_L_law_1 0 rfl) (q := 241) rfl ?_
        refine x_iload_n (i := 3) rfl hC (zdk dk_L_law_1 1 rfl) (q := 242) rfl ?_
        refine x_iconst (i := 3) c_iconst_3 hC (zdk dk_L_law_1 2 rfl) (q := 243) rfl ?_
        refine x_iadd hC (zdk dk_L_law_1 3 rfl) (q := 244) rfl ?_
        refine x_scald hsc h_r0 hC (zdk dk_L_law_1 4 rfl) (q := 245) rfl (fun k11 _ => ?_)
        refine x_aload_n (i := 0) rfl hC (zdk dk_L_law_1 5 rfl) (q := 246) rfl ?_
        refine x_iload_n (i := 3) rfl hC (zdk dk_L_law_1 6 rfl) (q := 247) rfl ?_
        refine x_iconst (i := 4) c_iconst_4 hC (zdk dk_L_law_1 7 rfl) (q := 248) rfl ?_
        refine x_iadd hC (zdk dk_L_law_1 8 rfl) (q := 249) rfl ?_
        refine x_scald hsc h_r0 hC (zdk dk_L_law_1 9 rfl) (q := 250) rfl (fun k12 _ => ?_)
        refine x_aload_n (i := 0) rfl hC (zdk dk_L_law_1 10 rfl) (q := 251) rfl ?_
        refine x_iload_n (i := 3) rfl hC (zdk dk_L_law_1 11 rfl) (q := 252) rfl ?_
        refine x_iconst (i := 5) c_iconst_5 hC (zdk dk_L_law_1 12 rfl) (q := 253) rfl ?_
        refine x_iadd hC (zdk dk_L_law_1 13 rfl) (q := 254) rfl ?_
        refine x_scald hsc h_r0 hC (zdk dk_L_law_1 14 rfl) (q := 255) rfl (fun k13 _ => ?_)
        refine x_callVi (as := [.int (xs k9), .int (xs k10), .int (xs k11), .int (xs k12), .int (xs k13)]) cb_RL_17 rfl (by decide) hk0 h_r2 (fun x hx => t_X12_feed h_r2 x hx) hC (zdk dk_L_law_1 15 rfl) (q := 258) rfl rfl (Nat.le_of_ble_eq_true rfl) (fun z14 => ?_)
        refine x_icmp_eq (tgt := 1304) hC (zdk dk_L_law_1 16 rfl) (q := 261) rfl rfl (fun _ => ?_) (fun _ => ?_)
        · refine x_weak (L' := [.ref r0, .ref r1, .ref r2, .int x3]) ⟨Or.inr rfl, Or.inr rfl, Or.inr rfl, Or.inr rfl, trivial⟩ ?_
          exact x_L_law_1304 hC hE hk0 hsc h_r0 (f_L_law_18 xs sl r0 f) ih _ _ _ _ h_r1 h_r2
        · refine x_iconst (i := 0) c_iconst_0 hC (zdk dk_L_law_1 17 rfl) (q := 262) rfl ?_
          exact x_iret (ty := .boolean) rfl hE hC (zdk dk_L_law_1 18 rfl)
      refine x_tsIn (v := 1) (off := 230) (tgt := 263) hC (zdk dk_L_law_0 21 rfl) (by decide) ?_ (fun ht15 => ?_)
      · refine x_aload_n (i := 1) rfl hC (zdk dk_L_law_1 19 rfl) (q := 264) rfl ?_
        refine x_aload_n (i := 0) rfl hC (zdk dk_L_law_1 20 rfl) (q := 265) rfl ?_
        refine x_iload_n (i := 3) rfl hC (zdk dk_L_law_1 21 rfl) (q := 266) rfl ?_
        refine x_iconst (i := 1) c_iconst_1 hC (zdk dk_L_law_1 22 rfl) (q := 267) rfl ?_
        refine x_iadd hC (zdk dk_L_law_1 23 rfl) (q := 268) rfl ?_
        refine x_scald hsc h_r0 hC (zdk dk_L_law_1 24 rfl) (q := 269) rfl (fun k16 _ => ?_)
        refine x_callVi (as := [.int (xs k16)]) cb_RL_18 rfl (by decide) hk0 h_r1 (fun x hx => t_X11_end h_r1 x hx) hC (zdk dk_L_law_1 25 rfl) (q := 272) rfl rfl (Nat.le_of_ble_eq_true rfl) (fun z17 => ?_)
        refine x_aload_n (i := 2) rfl hC (zdk dk_L_law_1 26 rfl) (q := 273) rfl ?_
        refine x_aload_n (i := 0) rfl hC (zdk dk_L_law_1 27 rfl) (q := 274) rfl ?_
        refine x_iload_n (i := 3) rfl hC (zdk dk_L_law_1 28 rfl) (q := 275) rfl ?_
        refine x_iconst (i := 1) c_iconst_1 hC (zdk dk_L_law_1 29 rfl) (q := 276) rfl ?_
        refine x_iadd hC (zdk dk_L_law_1 30 rfl) (q := 277) rfl ?_
        refine x_scald hsc h_r0 hC (zdk dk_L_law_1 31 rfl) (q := 278) rfl (fun k18 _ => ?_)
        refine x_callVi (as := [.int (xs k18)]) cb_RL_22 rfl (by decide) hk0 h_r2 (fun x hx => t_X12_end h_r2 x hx) hC (zdk dk_L_law_1 32 rfl) (q := 281) rfl rfl (Nat.le_of_ble_eq_true rfl) (fun z19 => ?_)
        refine x_icmp_eq (tgt := 1304) hC (zdk dk_L_law_1 33 rfl) (q := 284) rfl rfl (fun _ => ?_) (fun _ => ?_)
        · refine x_weak (L' := [.ref r0, .ref r1, .ref r2, .int x3]) ⟨Or.inr rfl, Or.inr rfl, Or.inr rfl, Or.inr rfl, trivial⟩ ?_
          exact x_L_law_1304 hC hE hk0 hsc h_r0 (f_L_law_18 xs sl r0 f) ih _ _ _ _ h_r1 h_r2
        · refine x_iconst (i := 0) c_iconst_0 hC (zdk dk_L_law_1 34 rfl) (q := 285) rfl ?_
          exact x_iret (ty := .boolean) rfl hE hC (zdk dk_L_law_1 35 rfl)
      refine x_tsIn (v := 2) (off := 253) (tgt := 286) hC (zdk dk_L_law_0 21 rfl) (by decide) ?_ (fun ht20 => ?_)
      · refine x_aload_n (i := 1) rfl hC (zdk dk_L_law_1 36 rfl) (q := 287) rfl ?_
        refine x_callVi (as := []) cb_RL_23 rfl (by decide) hk0 h_r1 (fun x hx => t_X11_chip h_r1 x hx) hC (zdk dk_L_law_1 37 rfl) (q := 290) rfl rfl (Nat.le_of_ble_eq_true rfl) (fun z21 => ?_)
        refine x_aload_n (i := 2) rfl hC (zdk dk_L_law_1 38 rfl) (q := 291) rfl ?_
        refine x_callVi (as := []) cb_RL_27 rfl (by decide) hk0 h_r2 (fun x hx => t_X12_chip h_r2 x hx) hC (zdk dk_L_law_1 39 rfl) (q := 294) rfl rfl (Nat.le_of_ble_eq_true rfl) (fun z22 => ?_)
        refine x_icmp_eq (tgt := 1304) hC (zdk dk_L_law_1 40 rfl) (q := 297) rfl rfl (fun _ => ?_) (fun _ => ?_)
        · refine x_weak (L' := [.ref r0, .ref r1, .ref r2, .int x3]) ⟨Or.inr rfl, Or.inr rfl, Or.inr rfl, Or.inr rfl, trivial⟩ ?_
          exact x_L_law_1304 hC hE hk0 hsc h_r0 (f_L_law_18 xs sl r0 f) ih _ _ _ _ h_r1 h_r2
        · refine x_iconst (i := 0) c_iconst_0 hC (zdk dk_L_law_1 41 rfl) (q := 298) rfl ?_
          exact x_iret (ty := .boolean) rfl hE hC (zdk dk_L_law_1 42 rfl)
      refine x_tsIn (v := 3) (off := 266) (tgt := 299) hC (zdk dk_L_law_0 21 rfl) (by decide) ?_ (fun ht23 => ?_)
      · refine x_aload_n (i := 1) rfl hC (zdk dk_L_law_1 43 rfl) (q := 300) rfl ?_
        refine x_aload_n (i := 0) rfl hC (zdk dk_L_law_1 44 rfl) (q := 301) rfl ?_
        refine x_iload_n (i := 3) rfl hC (zdk dk_L_law_1 45 rfl) (q := 302) rfl ?_
        refine x_iconst (i := 1) c_iconst_1 hC (zdk dk_L_law_1 46 rfl) (q := 303) rfl ?_
        refine x_iadd hC (zdk dk_L_law_1 47 rfl) (q := 304) rfl ?_
        refine x_scald hsc h_r0 hC (zdk dk_L_law_1 48 rfl) (q := 305) rfl (fun k24 _ => ?_)
        refine x_callVi (as := [.int (xs k24)]) cb_RL_28 rfl (by decide) hk0 h_r1 (fun x hx => t_X11_fault h_r1 x hx) hC (zdk dk_L_law_1 49 rfl) (q := 308) rfl rfl (Nat.le_of_ble_eq_true rfl) (fun z25 => ?_)
        refine x_aload_n (i := 2) rfl hC (zdk dk_L_law_1 50 rfl) (q := 309) rfl ?_
        refine x_aload_n (i := 0) rfl hC (zdk dk_L_law_1 51 rfl) (q := 310) rfl ?_
        refine x_iload_n (i := 3) rfl hC (zdk dk_L_law_1 52 rfl) (q := 311) rfl ?_
        refine x_iconst (i := 1) c_iconst_1 hC (zdk dk_L_law_1 53 rfl) (q := 312) rfl ?_
        refine x_iadd hC (zdk dk_L_law_1 54 rfl) (q := 313) rfl ?_
        refine x_scald hsc h_r0 hC (zdk dk_L_law_1 55 rfl) (q := 314) rfl (fun k26 _ => ?_)
        refine x_callVi (as := [.int (xs k26)]) cb_RL_32 rfl (by decide) hk0 h_r2 (fun x hx => t_X12_fault h_r2 x hx) hC (zdk dk_L_law_1 56 rfl) (q := 317) rfl rfl (Nat.le_of_ble_eq_true rfl) (fun z27 => ?_)
        refine x_icmp_eq (tgt := 1304) hC (zdk dk_L_law_1 57 rfl) (q := 320) rfl rfl (fun _ => ?_) (fun _ => ?_)
        · refine x_weak (L' := [.ref r0, .ref r1, .ref r2, .int x3]) ⟨Or.inr rfl, Or.inr rfl, Or.inr rfl, Or.inr rfl, trivial⟩ ?_
          exact x_L_law_1304 hC hE hk0 hsc h_r0 (f_L_law_18 xs sl r0 f) ih _ _ _ _ h_r1 h_r2
        · refine x_iconst (i := 0) c_iconst_0 hC (zdk dk_L_law_1 58 rfl) (q := 321) rfl ?_
          exact x_iret (ty := .boolean) rfl hE hC (zdk dk_L_law_1 59 rfl)
      refine x_tsIn (v := 4) (off := 289) (tgt := 322) hC (zdk dk_L_law_0 21 rfl) (by decide) ?_ (fun ht28 => ?_)
      · refine x_aload_n (i := 1) rfl hC (zdk dk_L_law_2 0 rfl) (q := 323) rfl ?_
        refine x_aload_n (i := 0) rfl hC (zdk dk_L_law_2 1 rfl) (q := 324) rfl ?_
        refine x_iload_n (i := 3) rfl hC (zdk dk_L_law_2 2 rfl) (q := 325) rfl ?_
        refine x_iconst (i := 1) c_iconst_1 hC (zdk dk_L_law_2 3 rfl) (q := 326) rfl ?_
        refine x_iadd hC (zdk dk_L_law_2 4 rfl) (q := 327) rfl ?_
        refine x_scald hsc h_r0 hC (zdk dk_L_law_2 5 rfl) (q := 328) rfl (fun k29 _ => ?_)
        refine x_callVi (as := [.int (xs k29)]) cb_RL_33 rfl (by decide) hk0 h_r1 (fun x hx => t_X11_has h_r1 x hx) hC (zdk dk_L_law_2 6 rfl) (q := 331) rfl rfl (Nat.le_of_ble_eq_true rfl) (fun z30 => ?_)
        refine x_aload_n (i := 2) rfl hC (zdk dk_L_law_2 7 rfl) (q := 332) rfl ?_
        refine x_aload_n (i := 0) rfl hC (zdk dk_L_law_2 8 rfl) (q := 333) rfl ?_
        refine x_iload_n (i := 3) rfl hC (zdk dk_L_law_2 9 rfl) (q := 334) rfl ?_
        refine x_iconst (i := 1) c_iconst_1 hC (zdk dk_L_law_2 10 rfl) (q := 335) rfl ?_
        refine x_iadd hC (zdk dk_L_law_2 11 rfl) (q := 336) rfl ?_
        refine x_scald hsc h_r0 hC (zdk dk_L_law_2 12 rfl) (q := 337) rfl (fun k31 _ => ?_)
        refine x_callVi (as := [.int (xs k31)]) cb_RL_36 rfl (by decide) hk0 h_r2 (fun x hx => t_X12_has h_r2 x hx) hC (zdk dk_L_law_2 13 rfl) (q := 340) rfl rfl (Nat.le_of_ble_eq_true rfl) (fun z32 => ?_)
        refine x_icmp_eq (tgt := 1304) hC (zdk dk_L_law_2 14 rfl) (q := 343) rfl rfl (fun _ => ?_) (fun _ => ?_)
        · refine x_weak (L' := [.ref r0, .ref r1, .ref r2, .int x3]) ⟨Or.inr rfl, Or.inr rfl, Or.inr rfl, Or.inr rfl, trivial⟩ ?_
          exact x_L_law_1304 hC hE hk0 hsc h_r0 (f_L_law_18 xs sl r0 f) ih _ _ _ _ h_r1 h_r2
        · refine x_iconst (i := 0) c_iconst_0 hC (zdk dk_L_law_2 15 rfl) (q := 344) rfl ?_
          exact x_iret (ty := .boolean) rfl hE hC (zdk dk_L_law_2 16 rfl)
      refine x_tsIn (v := 5) (off := 312) (tgt := 345) hC (zdk dk_L_law_0 21 rfl) (by decide) ?_ (fun ht33 => ?_)
      · refine x_aload_n (i := 1) rfl hC (zdk dk_L_law_2 17 rfl) (q := 346) rfl ?_
        refine x_aload_n (i := 0) rfl hC (zdk dk_L_law_2 18 rfl) (q := 347) rfl ?_
        refine x_iload_n (i := 3) rfl hC (zdk dk_L_law_2 19 rfl) (q := 348) rfl ?_
        refine x_iconst (i := 1) c_iconst_1 hC (zdk dk_L_law_2 20 rfl) (q := 349) rfl ?_
        refine x_iadd hC (zdk dk_L_law_2 21 rfl) (q := 350) rfl ?_
        refine x_scald hsc h_r0 hC (zdk dk_L_law_2 22 rfl) (q := 351) rfl (fun k34 _ => ?_)
        refine x_aload_n (i := 0) rfl hC (zdk dk_L_law_2 23 rfl) (q := 352) rfl ?_
        refine x_iload_n (i := 3) rfl hC (zdk dk_L_law_2 24 rfl) (q := 353) rfl ?_
        refine x_iconst (i := 2) c_iconst_2 hC (zdk dk_L_law_2 25 rfl) (q := 354) rfl ?_
        refine x_iadd hC (zdk dk_L_law_2 26 rfl) (q := 355) rfl ?_
        refine x_scald hsc h_r0 hC (zdk dk_L_law_2 27 rfl) (q := 356) rfl (fun k35 _ => ?_)
        refine x_callVi (as := [.int (xs k34), .int (xs k35)]) cb_RL_37 rfl (by decide) hk0 h_r1 (fun x hx => t_X11_letter h_r1 x hx) hC (zdk dk_L_law_2 28 rfl) (q := 359) rfl rfl (Nat.le_of_ble_eq_true rfl) (fun z36 => ?_)
        refine x_aload_n (i := 2) rfl hC (zdk dk_L_law_2 29 rfl) (q := 360) rfl ?_
        refine x_aload_n (i := 0) rfl hC (zdk dk_L_law_2 30 rfl) (q := 361) rfl ?_
        refine x_iload_n (i := 3) rfl hC (zdk dk_L_law_2 31 rfl) (q := 362) rfl ?_
        refine x_iconst (i := 1) c_iconst_1 hC (zdk dk_L_law_2 32 rfl) (q := 363) rfl ?_
        refine x_iadd hC (zdk dk_L_law_2 33 rfl) (q := 364) rfl ?_
        refine x_scald hsc h_r0 hC (zdk dk_L_law_2 34 rfl) (q := 365) rfl (fun k37 _ => ?_)
        refine x_aload_n (i := 0) rfl hC (zdk dk_L_law_2 35 rfl) (q := 366) rfl ?_
        refine x_iload_n (i := 3) rfl hC (zdk dk_L_law_2 36 rfl) (q := 367) rfl ?_
        refine x_iconst (i := 2) c_iconst_2 hC (zdk dk_L_law_2 37 rfl) (q := 368) rfl ?_
        refine x_iadd hC (zdk dk_L_law_2 38 rfl) (q := 369) rfl ?_
        refine x_scald hsc h_r0 hC (zdk dk_L_law_2 39 rfl) (q := 370) rfl (fun k38 _ => ?_)
        refine x_callVi (as := [.int (xs k37), .int (xs k38)]) cb_RL_41 rfl (by decide) hk0 h_r2 (fun x hx => t_X12_letter h_r2 x hx) hC (zdk dk_L_law_2 40 rfl) (q := 373) rfl rfl (Nat.le_of_ble_eq_true rfl) (fun z39 => ?_)
        refine x_icmp_eq (tgt := 1304) hC (zdk dk_L_law_2 41 rfl) (q := 376) rfl rfl (fun _ => ?_) (fun _ => ?_)
        · refine x_weak (L' := [.ref r0, .ref r1, .ref r2, .int x3]) ⟨Or.inr rfl, Or.inr rfl, Or.inr rfl, Or.inr rfl, trivial⟩ ?_
          exact x_L_law_1304 hC hE hk0 hsc h_r0 (f_L_law_18 xs sl r0 f) ih _ _ _ _ h_r1 h_r2
        · refine x_iconst (i := 0) c_iconst_0 hC (zdk dk_L_law_2 42 rfl) (q := 377) rfl ?_
          exact x_iret (ty := .boolean) rfl hE hC (zdk dk_L_law_2 43 rfl)
      refine x_tsIn (v := 6) (off := 345) (tgt := 378) hC (zdk dk_L_law_0 21 rfl) (by decide) ?_ (fun ht40 => ?_)
      · refine x_aload_n (i := 1) rfl hC (zdk dk_L_law_2 44 rfl) (q := 379) rfl ?_
        refine x_aload_n (i := 0) rfl hC (zdk dk_L_law_2 45 rfl) (q := 380) rfl ?_
        refine x_iload_n (i := 3) rfl hC (zdk dk_L_law_2 46 rfl) (q := 381) rfl ?_
        refine x_iconst (i := 1) c_iconst_1 hC (zdk dk_L_law_2 47 rfl) (q := 382) rfl ?_
        refine x_iadd hC (zdk dk_L_law_2 48 rfl) (q := 383) rfl ?_
        refine x_scald hsc h_r0 hC (zdk dk_L_law_2 49 rfl) (q := 384) rfl (fun k41 _ => ?_)
        refine x_aload_n (i := 0) rfl hC (zdk dk_L_law_2 50 rfl) (q := 385) rfl ?_
        refine x_iload_n (i := 3) rfl hC (zdk dk_L_law_2 51 rfl) (q := 386) rfl ?_
        refine x_iconst (i := 2) c_iconst_2 hC (zdk dk_L_law_2 52 rfl) (q := 387) rfl ?_
        refine x_iadd hC (zdk dk_L_law_2 53 rfl) (q := 388) rfl ?_
        refine x_scald hsc h_r0 hC (zdk dk_L_law_2 54 rfl) (q := 389) rfl (fun k42 _ => ?_)
        refine x_callVi (as := [.int (xs k41), .int (xs k42)]) cb_RL_42 rfl (by decide) hk0 h_r1 (fun x hx => t_X11_field h_r1 x hx) hC (zdk dk_L_law_2 55 rfl) (q := 392) rfl rfl (Nat.le_of_ble_eq_true rfl) (fun z43 => ?_)
        refine x_aload_n (i := 2) rfl hC (zdk dk_L_law_2 56 rfl) (q := 393) rfl ?_
        refine x_aload_n (i := 0) rfl hC (zdk dk_L_law_2 57 rfl) (q := 394) rfl ?_
        refine x_iload_n (i := 3) rfl hC (zdk dk_L_law_2 58 rfl) (q := 395) rfl ?_
        refine x_iconst (i := 1) c_iconst_1 hC (zdk dk_L_law_2 59 rfl) (q := 396) rfl ?_
        refine x_iadd hC (zdk dk_L_law_3 0 rfl) (q := 397) rfl ?_
        refine x_scald hsc h_r0 hC (zdk dk_L_law_3 1 rfl) (q := 398) rfl (fun k44 _ => ?_)
        refine x_aload_n (i := 0) rfl hC (zdk dk_L_law_3 2 rfl) (q := 399) rfl ?_
        refine x_iload_n (i := 3) rfl hC (zdk dk_L_law_3 3 rfl) (q := 400) rfl ?_
        refine x_iconst (i := 2) c_iconst_2 hC (zdk dk_L_law_3 4 rfl) (q := 401) rfl ?_
        refine x_iadd hC (zdk dk_L_law_3 5 rfl) (q := 402) rfl ?_
        refine x_scald hsc h_r0 hC (zdk dk_L_law_3 6 rfl) (q := 403) rfl (fun k45 _ => ?_)
        refine x_callVi (as := [.int (xs k44), .int (xs k45)]) cb_RL_45 rfl (by decide) hk0 h_r2 (fun x hx => t_X12_field h_r2 x hx) hC (zdk dk_L_law_3 7 rfl) (q := 406) rfl rfl (Nat.le_of_ble_eq_true rfl) (fun z46 => ?_)
        refine x_icmp_eq (tgt := 1304) hC (zdk dk_L_law_3 8 rfl) (q := 409) rfl rfl (fun _ => ?_) (fun _ => ?_)
        · refine x_weak (L' := [.ref r0, .ref r1, .ref r2, .int x3]) ⟨Or.inr rfl, Or.inr rfl, Or.inr rfl, Or.inr rfl, trivial⟩ ?_
          exact x_L_law_1304 hC hE hk0 hsc h_r0 (f_L_law_18 xs sl r0 f) ih _ _ _ _ h_r1 h_r2
        · refine x_iconst (i := 0) c_iconst_0 hC (zdk dk_L_law_3 9 rfl) (q := 410) rfl ?_
          exact x_iret (ty := .boolean) rfl hE hC (zdk dk_L_law_3 10 rfl)
      refine x_tsIn (v := 7) (off := 378) (tgt := 411) hC (zdk dk_L_law_0 21 rfl) (by decide) ?_ (fun ht47 => ?_)
      · refine x_aload_n (i := 1) rfl hC (zdk dk_L_law_3 11 rfl) (q := 412) rfl ?_
        refine x_aload_n (i := 0) rfl hC (zdk dk_L_law_3 12 rfl) (q := 413) rfl ?_
        refine x_iload_n (i := 3) rfl hC (zdk dk_L_law_3 13 rfl) (q := 414) rfl ?_
        refine x_iconst (i := 1) c_iconst_1 hC (zdk dk_L_law_3 14 rfl) (q := 415) rfl ?_
        refine x_iadd hC (zdk dk_L_law_3 15 rfl) (q := 416) rfl ?_
        refine x_scald hsc h_r0 hC (zdk dk_L_law_3 16 rfl) (q := 417) rfl (fun k48 _ => ?_)
        refine x_callVi (as := [.int (xs k48)]) cb_RL_46 rfl (by decide) hk0 h_r1 (fun x hx => t_X11_generator h_r1 x hx) hC (zdk dk_L_law_3 17 rfl) (q := 420) rfl rfl (Nat.le_of_ble_eq_true rfl) (fun z49 => ?_)
        refine x_aload_n (i := 2) rfl hC (zdk dk_L_law_3 18 rfl) (q := 421) rfl ?_
        refine x_aload_n (i := 0) rfl hC (zdk dk_L_law_3 19 rfl) (q := 422) rfl ?_
        refine x_iload_n (i := 3) rfl hC (zdk dk_L_law_3 20 rfl) (q := 423) rfl ?_
        refine x_iconst (i := 1) c_iconst_1 hC (zdk dk_L_law_3 21 rfl) (q := 424) rfl ?_
        refine x_iadd hC (zdk dk_L_law_3 22 rfl) (q := 425) rfl ?_
        refine x_scald hsc h_r0 hC (zdk dk_L_law_3 23 rfl) (q := 426) rfl (fun k50 _ => ?_)
        refine x_callVi (as := [.int (xs k50)]) cb_RL_49 rfl (by decide) hk0 h_r2 (fun x hx => t_X12_generator h_r2 x hx) hC (zdk dk_L_law_3 24 rfl) (q := 429) rfl rfl (Nat.le_of_ble_eq_true rfl) (fun z51 => ?_)
        refine x_icmp_eq (tgt := 1304) hC (zdk dk_L_law_3 25 rfl) (q := 432) rfl rfl (fun _ => ?_) (fun _ => ?_)
        · refine x_weak (L' := [.ref r0, .ref r1, .ref r2, .int x3]) ⟨Or.inr rfl, Or.inr rfl, Or.inr rfl, Or.inr rfl, trivial⟩ ?_
          exact x_L_law_1304 hC hE hk0 hsc h_r0 (f_L_law_18 xs sl r0 f) ih _ _ _ _ h_r1 h_r2
        · refine x_iconst (i := 0) c_iconst_0 hC (zdk dk_L_law_3 26 rfl) (q := 433) rfl ?_
          exact x_iret (ty := .boolean) rfl hE hC (zdk dk_L_law_3 27 rfl)
      refine x_tsIn (v := 8) (off := 401) (tgt := 434) hC (zdk dk_L_law_0 21 rfl) (by decide) ?_ (fun ht52 => ?_)
      · refine x_aload_n (i := 1) rfl hC (zdk dk_L_law_3 28 rfl) (q := 435) rfl ?_
        refine x_aload_n (i := 0) rfl hC (zdk dk_L_law_3 29 rfl) (q := 436) rfl ?_
        refine x_iload_n (i := 3) rfl hC (zdk dk_L_law_3 30 rfl) (q := 437) rfl ?_
        refine x_iconst (i := 1) c_iconst_1 hC (zdk dk_L_law_3 31 rfl) (q := 438) rfl ?_
        refine x_iadd hC (zdk dk_L_law_3 32 rfl) (q := 439) rfl ?_
        refine x_scald hsc h_r0 hC (zdk dk_L_law_3 33 rfl) (q := 440) rfl (fun k53 _ => ?_)
        refine x_aload_n (i := 0) rfl hC (zdk dk_L_law_3 34 rfl) (q := 441) rfl ?_
        refine x_iload_n (i := 3) rfl hC (zdk dk_L_law_3 35 rfl) (q := 442) rfl ?_
        refine x_iconst (i := 2) c_iconst_2 hC (zdk dk_L_law_3 36 rfl) (q := 443) rfl ?_
        refine x_iadd hC (zdk dk_L_law_3 37 rfl) (q := 444) rfl ?_
        refine x_scald hsc h_r0 hC (zdk dk_L_law_3 38 rfl) (q := 445) rfl (fun k54 _ => ?_)
        refine x_aload_n (i := 0) rfl hC (zdk dk_L_law_3 39 rfl) (q := 446) rfl ?_
        refine x_iload_n (i := 3) rfl hC (zdk dk_L_law_3 40 rfl) (q := 447) rfl ?_
        refine x_iconst (i := 3) c_iconst_3 hC (zdk dk_L_law_3 41 rfl) (q := 448) rfl ?_
        refine x_iadd hC (zdk dk_L_law_3 42 rfl) (q := 449) rfl ?_
        refine x_scald hsc h_r0 hC (zdk dk_L_law_3 43 rfl) (q := 450) rfl (fun k55 _ => ?_)
        refine x_callVi (as := [.int (xs k53), .int (xs k54), .int (xs k55)]) cb_RL_50 rfl (by decide) hk0 h_r1 (fun x hx => t_X11_word h_r1 x hx) hC (zdk dk_L_law_3 44 rfl) (q := 453) rfl rfl (Nat.le_of_ble_eq_true rfl) (fun z56 => ?_)
        refine x_aload_n (i := 2) rfl hC (zdk dk_L_law_3 45 rfl) (q := 454) rfl ?_
        refine x_aload_n (i := 0) rfl hC (zdk dk_L_law_3 46 rfl) (q := 455) rfl ?_
        refine x_iload_n (i := 3) rfl hC (zdk dk_L_law_3 47 rfl) (q := 456) rfl ?_
        refine x_iconst (i := 1) c_iconst_1 hC (zdk dk_L_law_3 48 rfl) (q := 457) rfl ?_
        refine x_iadd hC (zdk dk_L_law_3 49 rfl) (q := 458) rfl ?_
        refine x_scald hsc h_r0 hC (zdk dk_L_law_3 50 rfl) (q := 459) rfl (fun k57 _ => ?_)
        refine x_aload_n (i := 0) rfl hC (zdk dk_L_law_3 51 rfl) (q := 460) rfl ?_
        refine x_iload_n (i := 3) rfl hC (zdk dk_L_law_3 52 rfl) (q := 461) rfl ?_
        refine x_iconst (i := 2) c_iconst_2 hC (zdk dk_L_law_3 53 rfl) (q := 462) rfl ?_
        refine x_iadd hC (zdk dk_L_law_3 54 rfl) (q := 463) rfl ?_
        refine x_scald hsc h_r0 hC (zdk dk_L_law_3 55 rfl) (q := 464) rfl (fun k58 _ => ?_)
        refine x_aload_n (i := 0) rfl hC (zdk dk_L_law_3 56 rfl) (q := 465) rfl ?_
        refine x_iload_n (i := 3) rfl hC (zdk dk_L_law_3 57 rfl) (q := 466) rfl ?_
        refine x_iconst (i := 3) c_iconst_3 hC (zdk dk_L_law_3 58 rfl) (q := 467) rfl ?_
        refine x_iadd hC (zdk dk_L_law_3 59 rfl) (q := 468) rfl ?_
        refine x_scald hsc h_r0 hC (zdk dk_L_law_4 0 rfl) (q := 469) rfl (fun k59 _ => ?_)
        refine x_callVi (as := [.int (xs k57), .int (xs k58), .int (xs k59)]) cb_RL_54 rfl (by decide) hk0 h_r2 (fun x hx => t_X12_word h_r2 x hx) hC (zdk dk_L_law_4 1 rfl) (q := 472) rfl rfl (Nat.le_of_ble_eq_true rfl) (fun z60 => ?_)
        refine x_icmp_eq (tgt := 1304) hC (zdk dk_L_law_4 2 rfl) (q := 475) rfl rfl (fun _ => ?_) (fun _ => ?_)
        · refine x_weak (L' := [.ref r0, .ref r1, .ref r2, .int x3]) ⟨Or.inr rfl, Or.inr rfl, Or.inr rfl, Or.inr rfl, trivial⟩ ?_
          exact x_L_law_1304 hC hE hk0 hsc h_r0 (f_L_law_18 xs sl r0 f) ih _ _ _ _ h_r1 h_r2
        · refine x_iconst (i := 0) c_iconst_0 hC (zdk dk_L_law_4 3 rfl) (q := 476) rfl ?_
          exact x_iret (ty := .boolean) rfl hE hC (zdk dk_L_law_4 4 rfl)
      refine x_tsIn (v := 9) (off := 444) (tgt := 477) hC (zdk dk_L_law_0 21 rfl) (by decide) ?_ (fun ht61 => ?_)
      · refine x_aload_n (i := 1) rfl hC (zdk dk_L_law_4 5 rfl) (q := 478) rfl ?_
        refine x_aload_n (i := 0) rfl hC (zdk dk_L_law_4 6 rfl) (q := 479) rfl ?_
        refine x_iload_n (i := 3) rfl hC (zdk dk_L_law_4 7 rfl) (q := 480) rfl ?_
        refine x_iconst (i := 1) c_iconst_1 hC (zdk dk_L_law_4 8 rfl) (q := 481) rfl ?_
        refine x_iadd hC (zdk dk_L_law_4 9 rfl) (q := 482) rfl ?_
        refine x_scald hsc h_r0 hC (zdk dk_L_law_4 10 rfl) (q := 483) rfl (fun k62 _ => ?_)
        refine x_callVi (as := [.int (xs k62)]) cb_RL_55 rfl (by decide) hk0 h_r1 (fun x hx => t_X11_weight h_r1 x hx) hC (zdk dk_L_law_4 11 rfl) (q := 486) rfl rfl (Nat.le_of_ble_eq_true rfl) (fun z63 => ?_)
        refine x_aload_n (i := 2) rfl hC (zdk dk_L_law_4 12 rfl) (q := 487) rfl ?_
        refine x_aload_n (i := 0) rfl hC (zdk dk_L_law_4 13 rfl) (q := 488) rfl ?_
        refine x_iload_n (i := 3) rfl hC (zdk dk_L_law_4 14 rfl) (q := 489) rfl ?_
        refine x_iconst (i := 1) c_iconst_1 hC (zdk dk_L_law_4 15 rfl) (q := 490) rfl ?_
        refine x_iadd hC (zdk dk_L_law_4 16 rfl) (q := 491) rfl ?_
        refine x_scald hsc h_r0 hC (zdk dk_L_law_4 17 rfl) (q := 492) rfl (fun k64 _ => ?_)
        refine x_callVi (as := [.int (xs k64)]) cb_RL_58 rfl (by decide) hk0 h_r2 (fun x hx => t_X12_weight h_r2 x hx) hC (zdk dk_L_law_4 18 rfl) (q := 495) rfl rfl (Nat.le_of_ble_eq_true rfl) (fun z65 => ?_)
        refine x_icmp_eq (tgt := 1304) hC (zdk dk_L_law_4 19 rfl) (q := 498) rfl rfl (fun _ => ?_) (fun _ => ?_)
        · refine x_weak (L' := [.ref r0, .ref r1, .ref r2, .int x3]) ⟨Or.inr rfl, Or.inr rfl, Or.inr rfl, Or.inr rfl, trivial⟩ ?_
          exact x_L_law_1304 hC hE hk0 hsc h_r0 (f_L_law_18 xs sl r0 f) ih _ _ _ _ h_r1 h_r2
        · refine x_iconst (i := 0) c_iconst_0 hC (zdk dk_L_law_4 20 rfl) (q := 499) rfl ?_
          exact x_iret (ty := .boolean) rfl hE hC (zdk dk_L_law_4 21 rfl)
      refine x_tsIn (v := 10) (off := 467) (tgt := 500) hC (zdk dk_L_law_0 21 rfl) (by decide) ?_ (fun ht66 => ?_)
      · refine x_aload_n (i := 1) rfl hC (zdk dk_L_law_4 22 rfl) (q := 501) rfl ?_
        refine x_aload_n (i := 0) rfl hC (zdk dk_L_law_4 23 rfl) (q := 502) rfl ?_
        refine x_iload_n (i := 3) rfl hC (zdk dk_L_law_4 24 rfl) (q := 503) rfl ?_
        refine x_iconst (i := 1) c_iconst_1 hC (zdk dk_L_law_4 25 rfl) (q := 504) rfl ?_
        refine x_iadd hC (zdk dk_L_law_4 26 rfl) (q := 505) rfl ?_
        refine x_scald hsc h_r0 hC (zdk dk_L_law_4 27 rfl) (q := 506) rfl (fun k67 _ => ?_)
        refine x_aload_n (i := 0) rfl hC (zdk dk_L_law_4 28 rfl) (q := 507) rfl ?_
        refine x_iload_n (i := 3) rfl hC (zdk dk_L_law_4 29 rfl) (q := 508) rfl ?_
        refine x_iconst (i := 2) c_iconst_2 hC (zdk dk_L_law_4 30 rfl) (q := 509) rfl ?_
        refine x_iadd hC (zdk dk_L_law_4 31 rfl) (q := 510) rfl ?_
        refine x_scald hsc h_r0 hC (zdk dk_L_law_4 32 rfl) (q := 511) rfl (fun k68 _ => ?_)
        refine x_callVi (as := [.int (xs k67), .int (xs k68)]) cb_RL_59 rfl (by decide) hk0 h_r1 (fun x hx => t_X11_patterns h_r1 x hx) hC (zdk dk_L_law_4 33 rfl) (q := 514) rfl rfl (Nat.le_of_ble_eq_true rfl) (fun z69 => ?_)
        refine x_aload_n (i := 2) rfl hC (zdk dk_L_law_4 34 rfl) (q := 515) rfl ?_
        refine x_aload_n (i := 0) rfl hC (zdk dk_L_law_4 35 rfl) (q := 516) rfl ?_
        refine x_iload_n (i := 3) rfl hC (zdk dk_L_law_4 36 rfl) (q := 517) rfl ?_
        refine x_iconst (i := 1) c_iconst_1 hC (zdk dk_L_law_4 37 rfl) (q := 518) rfl ?_
        refine x_iadd hC (zdk dk_L_law_4 38 rfl) (q := 519) rfl ?_
        refine x_scald hsc h_r0 hC (zdk dk_L_law_4 39 rfl) (q := 520) rfl (fun k70 _ => ?_)
        refine x_aload_n (i := 0) rfl hC (zdk dk_L_law_4 40 rfl) (q := 521) rfl ?_
        refine x_iload_n (i := 3) rfl hC (zdk dk_L_law_4 41 rfl) (q := 522) rfl ?_
        refine x_iconst (i := 2) c_iconst_2 hC (zdk dk_L_law_4 42 rfl) (q := 523) rfl ?_
        refine x_iadd hC (zdk dk_L_law_4 43 rfl) (q := 524) rfl ?_
        refine x_scald hsc h_r0 hC (zdk dk_L_law_4 44 rfl) (q := 525) rfl (fun k71 _ => ?_)
        refine x_callVi (as := [.int (xs k70), .int (xs k71)]) cb_RL_62 rfl (by decide) hk0 h_r2 (fun x hx => t_X12_patterns h_r2 x hx) hC (zdk dk_L_law_4 45 rfl) (q := 528) rfl rfl (Nat.le_of_ble_eq_true rfl) (fun z72 => ?_)
        refine x_icmp_eq (tgt := 1304) hC (zdk dk_L_law_4 46 rfl) (q := 531) rfl rfl (fun _ => ?_) (fun _ => ?_)
        · refine x_weak (L' := [.ref r0, .ref r1, .ref r2, .int x3]) ⟨Or.inr rfl, Or.inr rfl, Or.inr rfl, Or.inr rfl, trivial⟩ ?_
          exact x_L_law_1304 hC hE hk0 hsc h_r0 (f_L_law_18 xs sl r0 f) ih _ _ _ _ h_r1 h_r2
        · refine x_iconst (i := 0) c_iconst_0 hC (zdk dk_L_law_4 47 rfl) (q := 532) rfl ?_
          exact x_iret (ty := .boolean) rfl hE hC (zdk dk_L_law_4 48 rfl)
      refine x_tsIn (v := 11) (off := 500) (tgt := 533) hC (zdk dk_L_law_0 21 rfl) (by decide) ?_ (fun ht73 => ?_)
      · refine x_aload_n (i := 1) rfl hC (zdk dk_L_law_4 49 rfl) (q := 534) rfl ?_
        refine x_aload_n (i := 0) rfl hC (zdk dk_L_law_4 50 rfl) (q := 535) rfl ?_
        refine x_iload_n (i := 3) rfl hC (zdk dk_L_law_4 51 rfl) (q := 536) rfl ?_
        refine x_iconst (i := 1) c_iconst_1 hC (zdk dk_L_law_4 52 rfl) (q := 537) rfl ?_
        refine x_iadd hC (zdk dk_L_law_4 53 rfl) (q := 538) rfl ?_
        refine x_scald hsc h_r0 hC (zdk dk_L_law_4 54 rfl) (q := 539) rfl (fun k74 _ => ?_)
        refine x_aload_n (i := 0) rfl hC (zdk dk_L_law_4 55 rfl) (q := 540) rfl ?_
        refine x_iload_n (i := 3) rfl hC (zdk dk_L_law_4 56 rfl) (q := 541) rfl ?_
        refine x_iconst (i := 2) c_iconst_2 hC (zdk dk_L_law_4 57 rfl) (q := 542) rfl ?_
        refine x_iadd hC (zdk dk_L_law_4 58 rfl) (q := 543) rfl ?_
        refine x_scald hsc h_r0 hC (zdk dk_L_law_4 59 rfl) (q := 544) rfl (fun k75 _ => ?_)
        refine x_callVi (as := [.int (xs k74), .int (xs k75)]) cb_RL_63 rfl (by decide) hk0 h_r1 (fun x hx => t_X11_page h_r1 x hx) hC (zdk dk_L_law_5 0 rfl) (q := 547) rfl rfl (Nat.le_of_ble_eq_true rfl) (fun z76 => ?_)
        refine x_aload_n (i := 2) rfl hC (zdk dk_L_law_5 1 rfl) (q := 548) rfl ?_
        refine x_aload_n (i := 0) rfl hC (zdk dk_L_law_5 2 rfl) (q := 549) rfl ?_
        refine x_iload_n (i := 3) rfl hC (zdk dk_L_law_5 3 rfl) (q := 550) rfl ?_
        refine x_iconst (i := 1) c_iconst_1 hC (zdk dk_L_law_5 4 rfl) (q := 551) rfl ?_
        refine x_iadd hC (zdk dk_L_law_5 5 rfl) (q := 552) rfl ?_
        refine x_scald hsc h_r0 hC (zdk dk_L_law_5 6 rfl) (q := 553) rfl (fun k77 _ => ?_)
        refine x_aload_n (i := 0) rfl hC (zdk dk_L_law_5 7 rfl) (q := 554) rfl ?_
        refine x_iload_n (i := 3) rfl hC (zdk dk_L_law_5 8 rfl) (q := 555) rfl ?_
        refine x_iconst (i := 2) c_iconst_2 hC (zdk dk_L_law_5 9 rfl) (q := 556) rfl ?_
        refine x_iadd hC (zdk dk_L_law_5 10 rfl) (q := 557) rfl ?_
        refine x_scald hsc h_r0 hC (zdk dk_L_law_5 11 rfl) (q := 558) rfl (fun k78 _ => ?_)
        refine x_callVi (as := [.int (xs k77), .int (xs k78)]) cb_RL_66 rfl (by decide) hk0 h_r2 (fun x hx => t_X12_page h_r2 x hx) hC (zdk dk_L_law_5 12 rfl) (q := 561) rfl rfl (Nat.le_of_ble_eq_true rfl) (fun z79 => ?_)
        refine x_icmp_eq (tgt := 1304) hC (zdk dk_L_law_5 13 rfl) (q := 564) rfl rfl (fun _ => ?_) (fun _ => ?_)
        · refine x_weak (L' := [.ref r0, .ref r1, .ref r2, .int x3]) ⟨Or.inr rfl, Or.inr rfl, Or.inr rfl, Or.inr rfl, trivial⟩ ?_
          exact x_L_law_1304 hC hE hk0 hsc h_r0 (f_L_law_18 xs sl r0 f) ih _ _ _ _ h_r1 h_r2
        · refine x_iconst (i := 0) c_iconst_0 hC (zdk dk_L_law_5 14 rfl) (q := 565) rfl ?_
          exact x_iret (ty := .boolean) rfl hE hC (zdk dk_L_law_5 15 rfl)
      refine x_tsIn (v := 12) (off := 533) (tgt := 566) hC (zdk dk_L_law_0 21 rfl) (by decide) ?_ (fun ht80 => ?_)
      · refine x_aload_n (i := 1) rfl hC (zdk dk_L_law_5 16 rfl) (q := 567) rfl ?_
        refine x_aload_n (i := 0) rfl hC (zdk dk_L_law_5 17 rfl) (q := 568) rfl ?_
        refine x_iload_n (i := 3) rfl hC (zdk dk_L_law_5 18 rfl) (q := 569) rfl ?_
        refine x_iconst (i := 1) c_iconst_1 hC (zdk dk_L_law_5 19 rfl) (q := 570) rfl ?_
        refine x_iadd hC (zdk dk_L_law_5 20 rfl) (q := 571) rfl ?_
        refine x_scald hsc h_r0 hC (zdk dk_L_law_5 21 rfl) (q := 572) rfl (fun k81 _ => ?_)
        refine x_aload_n (i := 0) rfl hC (zdk dk_L_law_5 22 rfl) (q := 573) rfl ?_
        refine x_iload_n (i := 3) rfl hC (zdk dk_L_law_5 23 rfl) (q := 574) rfl ?_
        refine x_iconst (i := 2) c_iconst_2 hC (zdk dk_L_law_5 24 rfl) (q := 575) rfl ?_
        refine x_iadd hC (zdk dk_L_law_5 25 rfl) (q := 576) rfl ?_
        refine x_scald hsc h_r0 hC (zdk dk_L_law_5 26 rfl) (q := 577) rfl (fun k82 _ => ?_)
        refine x_aload_n (i := 0) rfl hC (zdk dk_L_law_5 27 rfl) (q := 578) rfl ?_
        refine x_iload_n (i := 3) rfl hC (zdk dk_L_law_5 28 rfl) (q := 579) rfl ?_
        refine x_iconst (i := 3) c_iconst_3 hC (zdk dk_L_law_5 29 rfl) (q := 580) rfl ?_
        refine x_iadd hC (zdk dk_L_law_5 30 rfl) (q := 581) rfl ?_
        refine x_scald hsc h_r0 hC (zdk dk_L_law_5 31 rfl) (q := 582) rfl (fun k83 _ => ?_)
        refine x_callVi (as := [.int (xs k81), .int (xs k82), .int (xs k83)]) cb_RL_67 rfl (by decide) hk0 h_r1 (fun x hx => t_X11_level h_r1 x hx) hC (zdk dk_L_law_5 32 rfl) (q := 585) rfl rfl (Nat.le_of_ble_eq_true rfl) (fun z84 => ?_)
        refine x_aload_n (i := 2) rfl hC (zdk dk_L_law_5 33 rfl) (q := 586) rfl ?_
        refine x_aload_n (i := 0) rfl hC (zdk dk_L_law_5 34 rfl) (q := 587) rfl ?_
        refine x_iload_n (i := 3) rfl hC (zdk dk_L_law_5 35 rfl) (q := 588) rfl ?_
        refine x_iconst (i := 1) c_iconst_1 hC (zdk dk_L_law_5 36 rfl) (q := 589) rfl ?_
        refine x_iadd hC (zdk dk_L_law_5 37 rfl) (q := 590) rfl ?_
        refine x_scald hsc h_r0 hC (zdk dk_L_law_5 38 rfl) (q := 591) rfl (fun k85 _ => ?_)
        refine x_aload_n (i := 0) rfl hC (zdk dk_L_law_5 39 rfl) (q := 592) rfl ?_
        refine x_iload_n (i := 3) rfl hC (zdk dk_L_law_5 40 rfl) (q := 593) rfl ?_
        refine x_iconst (i := 2) c_iconst_2 hC (zdk dk_L_law_5 41 rfl) (q := 594) rfl ?_
        refine x_iadd hC (zdk dk_L_law_5 42 rfl) (q := 595) rfl ?_
        refine x_scald hsc h_r0 hC (zdk dk_L_law_5 43 rfl) (q := 596) rfl (fun k86 _ => ?_)
        refine x_aload_n (i := 0) rfl hC (zdk dk_L_law_5 44 rfl) (q := 597) rfl ?_
        refine x_iload_n (i := 3) rfl hC (zdk dk_L_law_5 45 rfl) (q := 598) rfl ?_
        refine x_iconst (i := 3) c_iconst_3 hC (zdk dk_L_law_5 46 rfl) (q := 599) rfl ?_
        refine x_iadd hC (zdk dk_L_law_5 47 rfl) (q := 600) rfl ?_
        refine x_scald hsc h_r0 hC (zdk dk_L_law_5 48 rfl) (q := 601) rfl (fun k87 _ => ?_)
        refine x_callVi (as := [.int (xs k85), .int (xs k86), .int (xs k87)]) cb_RL_70 rfl (by decide) hk0 h_r2 (fun x hx => t_X12_level h_r2 x hx) hC (zdk dk_L_law_5 49 rfl) (q := 604) rfl rfl (Nat.le_of_ble_eq_true rfl) (fun z88 => ?_)
        refine x_icmp_eq (tgt := 1304) hC (zdk dk_L_law_5 50 rfl) (q := 607) rfl rfl (fun _ => ?_) (fun _ => ?_)
        · refine x_weak (L' := [.ref r0, .ref r1, .ref r2, .int x3]) ⟨Or.inr rfl, Or.inr rfl, Or.inr rfl, Or.inr rfl, trivial⟩ ?_
          exact x_L_law_1304 hC hE hk0 hsc h_r0 (f_L_law_18 xs sl r0 f) ih _ _ _ _ h_r1 h_r2
        · refine x_iconst (i := 0) c_iconst_0 hC (zdk dk_L_law_5 51 rfl) (q := 608) rfl ?_
          exact x_iret (ty := .boolean) rfl hE hC (zdk dk_L_law_5 52 rfl)
      refine x_tsIn (v := 13) (off := 576) (tgt := 609) hC (zdk dk_L_law_0 21 rfl) (by decide) ?_ (fun ht89 => ?_)
      · refine x_aload_n (i := 1) rfl hC (zdk dk_L_law_5 53 rfl) (q := 610) rfl ?_
        refine x_aload_n (i := 0) rfl hC (zdk dk_L_law_5 54 rfl) (q := 611) rfl ?_
        refine x_iload_n (i := 3) rfl hC (zdk dk_L_law_5 55 rfl) (q := 612) rfl ?_
        refine x_iconst (i := 1) c_iconst_1 hC (zdk dk_L_law_5 56 rfl) (q := 613) rfl ?_
        refine x_iadd hC (zdk dk_L_law_5 57 rfl) (q := 614) rfl ?_
        refine x_scald hsc h_r0 hC (zdk dk_L_law_5 58 rfl) (q := 615) rfl (fun k90 _ => ?_)
        refine x_aload_n (i := 0) rfl hC (zdk dk_L_law_5 59 rfl) (q := 616) rfl ?_
        refine x_iload_n (i := 3) rfl hC (zdk dk_L_law_6 0 rfl) (q := 617) rfl ?_
        refine x_iconst (i := 2) c_iconst_2 hC (zdk dk_L_law_6 1 rfl) (q := 618) rfl ?_
        refine x_iadd hC (zdk dk_L_law_6 2 rfl) (q := 619) rfl ?_
        refine x_scald hsc h_r0 hC (zdk dk_L_law_6 3 rfl) (q := 620) rfl (fun k91 _ => ?_)
        refine x_callVi (as := [.int (xs k90), .int (xs k91)]) cb_RL_71 rfl (by decide) hk0 h_r1 (fun x hx => t_X11_ones h_r1 x hx) hC (zdk dk_L_law_6 4 rfl) (q := 623) rfl rfl (Nat.le_of_ble_eq_true rfl) (fun z92 => ?_)
        refine x_aload_n (i := 2) rfl hC (zdk dk_L_law_6 5 rfl) (q := 624) rfl ?_
        refine x_aload_n (i := 0) rfl hC (zdk dk_L_law_6 6 rfl) (q := 625) rfl ?_
        refine x_iload_n (i := 3) rfl hC (zdk dk_L_law_6 7 rfl) (q := 626) rfl ?_
        refine x_iconst (i := 1) c_iconst_1 hC (zdk dk_L_law_6 8 rfl) (q := 627) rfl ?_
        refine x_iadd hC (zdk dk_L_law_6 9 rfl) (q := 628) rfl ?_
        refine x_scald hsc h_r0 hC (zdk dk_L_law_6 10 rfl) (q := 629) rfl (fun k93 _ => ?_)
        refine x_aload_n (i := 0) rfl hC (zdk dk_L_law_6 11 rfl) (q := 630) rfl ?_
        refine x_iload_n (i := 3) rfl hC (zdk dk_L_law_6 12 rfl) (q := 631) rfl ?_
        refine x_iconst (i := 2) c_iconst_2 hC (zdk dk_L_law_6 13 rfl) (q := 632) rfl ?_
        refine x_iadd hC (zdk dk_L_law_6 14 rfl) (q := 633) rfl ?_
        refine x_scald hsc h_r0 hC (zdk dk_L_law_6 15 rfl) (q := 634) rfl (fun k94 _ => ?_)
        refine x_callVi (as := [.int (xs k93), .int (xs k94)]) cb_RL_74 rfl (by decide) hk0 h_r2 (fun x hx => t_X12_ones h_r2 x hx) hC (zdk dk_L_law_6 16 rfl) (q := 637) rfl rfl (Nat.le_of_ble_eq_true rfl) (fun z95 => ?_)
        refine x_icmp_eq (tgt := 1304) hC (zdk dk_L_law_6 17 rfl) (q := 640) rfl rfl (fun _ => ?_) (fun _ => ?_)
        · refine x_weak (L' := [.ref r0, .ref r1, .ref r2, .int x3]) ⟨Or.inr rfl, Or.inr rfl, Or.inr rfl, Or.inr rfl, trivial⟩ ?_
          exact x_L_law_1304 hC hE hk0 hsc h_r0 (f_L_law_18 xs sl r0 f) ih _ _ _ _ h_r1 h_r2
        · refine x_iconst (i := 0) c_iconst_0 hC (zdk dk_L_law_6 18 rfl) (q := 641) rfl ?_
          exact x_iret (ty := .boolean) rfl hE hC (zdk dk_L_law_6 19 rfl)
      refine x_tsIn (v := 14) (off := 609) (tgt := 642) hC (zdk dk_L_law_0 21 rfl) (by decide) ?_ (fun ht96 => ?_)
      · refine x_aload_n (i := 1) rfl hC (zdk dk_L_law_6 20 rfl) (q := 643) rfl ?_
        refine x_aload_n (i := 0) rfl hC (zdk dk_L_law_6 21 rfl) (q := 644) rfl ?_
        refine x_iload_n (i := 3) rfl hC (zdk dk_L_law_6 22 rfl) (q := 645) rfl ?_
        refine x_iconst (i := 1) c_iconst_1 hC (zdk dk_L_law_6 23 rfl) (q := 646) rfl ?_
        refine x_iadd hC (zdk dk_L_law_6 24 rfl) (q := 647) rfl ?_
        refine x_scald hsc h_r0 hC (zdk dk_L_law_6 25 rfl) (q := 648) rfl (fun k97 _ => ?_)
        refine x_aload_n (i := 0) rfl hC (zdk dk_L_law_6 26 rfl) (q := 649) rfl ?_
        refine x_iload_n (i := 3) rfl hC (zdk dk_L_law_6 27 rfl) (q := 650) rfl ?_
        refine x_iconst (i := 2) c_iconst_2 hC (zdk dk_L_law_6 28 rfl) (q := 651) rfl ?_
        refine x_iadd hC (zdk dk_L_law_6 29 rfl) (q := 652) rfl ?_
        refine x_scald hsc h_r0 hC (zdk dk_L_law_6 30 rfl) (q := 653) rfl (fun k98 _ => ?_)
        refine x_aload_n (i := 0) rfl hC (zdk dk_L_law_6 31 rfl) (q := 654) rfl ?_
        refine x_iload_n (i := 3) rfl hC (zdk dk_L_law_6 32 rfl) (q := 655) rfl ?_
        refine x_iconst (i := 3) c_iconst_3 hC (zdk dk_L_law_6 33 rfl) (q := 656) rfl ?_
        refine x_iadd hC (zdk dk_L_law_6 34 rfl) (q := 657) rfl ?_
        refine x_scald hsc h_r0 hC (zdk dk_L_law_6 35 rfl) (q := 658) rfl (fun k99 _ => ?_)
        refine x_callVi (as := [.int (xs k97), .int (xs k98), .int (xs k99)]) cb_RL_75 rfl (by decide) hk0 h_r1 (fun x hx => t_X11_syndrome h_r1 x hx) hC (zdk dk_L_law_6 36 rfl) (q := 661) rfl rfl (Nat.le_of_ble_eq_true rfl) (fun z100 => ?_)
        refine x_aload_n (i := 2) rfl hC (zdk dk_L_law_6 37 rfl) (q := 662) rfl ?_
        refine x_aload_n (i := 0) rfl hC (zdk dk_L_law_6 38 rfl) (q := 663) rfl ?_
        refine x_iload_n (i := 3) rfl hC (zdk dk_L_law_6 39 rfl) (q := 664) rfl ?_
        refine x_iconst (i := 1) c_iconst_1 hC (zdk dk_L_law_6 40 rfl) (q := 665) rfl ?_
        refine x_iadd hC (zdk dk_L_law_6 41 rfl) (q := 666) rfl ?_
        refine x_scald hsc h_r0 hC (zdk dk_L_law_6 42 rfl) (q := 667) rfl (fun k101 _ => ?_)
        refine x_aload_n (i := 0) rfl hC (zdk dk_L_law_6 43 rfl) (q := 668) rfl ?_
        refine x_iload_n (i := 3) rfl hC (zdk dk_L_law_6 44 rfl) (q := 669) rfl ?_
        refine x_iconst (i := 2) c_iconst_2 hC (zdk dk_L_law_6 45 rfl) (q := 670) rfl ?_
        refine x_iadd hC (zdk dk_L_law_6 46 rfl) (q := 671) rfl ?_
        refine x_scald hsc h_r0 hC (zdk dk_L_law_6 47 rfl) (q := 672) rfl (fun k102 _ => ?_)
        refine x_aload_n (i := 0) rfl hC (zdk dk_L_law_6 48 rfl) (q := 673) rfl ?_
        refine x_iload_n (i := 3) rfl hC (zdk dk_L_law_6 49 rfl) (q := 674) rfl ?_
        refine x_iconst (i := 3) c_iconst_3 hC (zdk dk_L_law_6 50 rfl) (q := 675) rfl ?_
        refine x_iadd hC (zdk dk_L_law_6 51 rfl) (q := 676) rfl ?_
        refine x_scald hsc h_r0 hC (zdk dk_L_law_6 52 rfl) (q := 677) rfl (fun k103 _ => ?_)
        refine x_callVi (as := [.int (xs k101), .int (xs k102), .int (xs k103)]) cb_RL_78 rfl (by decide) hk0 h_r2 (fun x hx => t_X12_syndrome h_r2 x hx) hC (zdk dk_L_law_6 53 rfl) (q := 680) rfl rfl (Nat.le_of_ble_eq_true rfl) (fun z104 => ?_)
        refine x_icmp_eq (tgt := 1304) hC (zdk dk_L_law_6 54 rfl) (q := 683) rfl rfl (fun _ => ?_) (fun _ => ?_)
        · refine x_weak (L' := [.ref r0, .ref r1, .ref r2, .int x3]) ⟨Or.inr rfl, Or.inr rfl, Or.inr rfl, Or.inr rfl, trivial⟩ ?_
          exact x_L_law_1304 hC hE hk0 hsc h_r0 (f_L_law_18 xs sl r0 f) ih _ _ _ _ h_r1 h_r2
        · refine x_iconst (i := 0) c_iconst_0 hC (zdk dk_L_law_6 55 rfl) (q := 684) rfl ?_
          exact x_iret (ty := .boolean) rfl hE hC (zdk dk_L_law_6 56 rfl)
      refine x_tsIn (v := 15) (off := 652) (tgt := 685) hC (zdk dk_L_law_0 21 rfl) (by decide) ?_ (fun ht105 => ?_)
      · refine x_aload_n (i := 1) rfl hC (zdk dk_L_law_6 57 rfl) (q := 686) rfl ?_
        refine x_aload_n (i := 0) rfl hC (zdk dk_L_law_6 58 rfl) (q := 687) rfl ?_
        refine x_iload_n (i := 3) rfl hC (zdk dk_L_law_6 59 rfl) (q := 688) rfl ?_
        refine x_iconst (i := 1) c_iconst_1 hC (zdk dk_L_law_7 0 rfl) (q := 689) rfl ?_
        refine x_iadd hC (zdk dk_L_law_7 1 rfl) (q := 690) rfl ?_
        refine x_scald hsc h_r0 hC (zdk dk_L_law_7 2 rfl) (q := 691) rfl (fun k106 _ => ?_)
        refine x_aload_n (i := 0) rfl hC (zdk dk_L_law_7 3 rfl) (q := 692) rfl ?_
        refine x_iload_n (i := 3) rfl hC (zdk dk_L_law_7 4 rfl) (q := 693) rfl ?_
        refine x_iconst (i := 2) c_iconst_2 hC (zdk dk_L_law_7 5 rfl) (q := 694) rfl ?_
        refine x_iadd hC (zdk dk_L_law_7 6 rfl) (q := 695) rfl ?_
        refine x_scald hsc h_r0 hC (zdk dk_L_law_7 7 rfl) (q := 696) rfl (fun k107 _ => ?_)
        refine x_aload_n (i := 0) rfl hC (zdk dk_L_law_7 8 rfl) (q := 697) rfl ?_
        refine x_iload_n (i := 3) rfl hC (zdk dk_L_law_7 9 rfl) (q := 698) rfl ?_
        refine x_iconst (i := 3) c_iconst_3 hC (zdk dk_L_law_7 10 rfl) (q := 699) rfl ?_
        refine x_iadd hC (zdk dk_L_law_7 11 rfl) (q := 700) rfl ?_
        refine x_scald hsc h_r0 hC (zdk dk_L_law_7 12 rfl) (q := 701) rfl (fun k108 _ => ?_)
        refine x_callVi (as := [.int (xs k106), .int (xs k107), .int (xs k108)]) cb_RL_79 rfl (by decide) hk0 h_r1 (fun x hx => t_X11_locator h_r1 x hx) hC (zdk dk_L_law_7 13 rfl) (q := 704) rfl rfl (Nat.le_of_ble_eq_true rfl) (fun z109 => ?_)
        refine x_aload_n (i := 2) rfl hC (zdk dk_L_law_7 14 rfl) (q := 705) rfl ?_
        refine x_aload_n (i := 0) rfl hC (zdk dk_L_law_7 15 rfl) (q := 706) rfl ?_
        refine x_iload_n (i := 3) rfl hC (zdk dk_L_law_7 16 rfl) (q := 707) rfl ?_
        refine x_iconst (i := 1) c_iconst_1 hC (zdk dk_L_law_7 17 rfl) (q := 708) rfl ?_
        refine x_iadd hC (zdk dk_L_law_7 18 rfl) (q := 709) rfl ?_
        refine x_scald hsc h_r0 hC (zdk dk_L_law_7 19 rfl) (q := 710) rfl (fun k110 _ => ?_)
        refine x_aload_n (i := 0) rfl hC (zdk dk_L_law_7 20 rfl) (q := 711) rfl ?_
        refine x_iload_n (i := 3) rfl hC (zdk dk_L_law_7 21 rfl) (q := 712) rfl ?_
        refine x_iconst (i := 2) c_iconst_2 hC (zdk dk_L_law_7 22 rfl) (q := 713) rfl ?_
        refine x_iadd hC (zdk dk_L_law_7 23 rfl) (q := 714) rfl ?_
        refine x_scald hsc h_r0 hC (zdk dk_L_law_7 24 rfl) (q := 715) rfl (fun k111 _ => ?_)
        refine x_aload_n (i := 0) rfl hC (zdk dk_L_law_7 25 rfl) (q := 716) rfl ?_
        refine x_iload_n (i := 3) rfl hC (zdk dk_L_law_7 26 rfl) (q := 717) rfl ?_
        refine x_iconst (i := 3) c_iconst_3 hC (zdk dk_L_law_7 27 rfl) (q := 718) rfl ?_
        refine x_iadd hC (zdk dk_L_law_7 28 rfl) (q := 719) rfl ?_
        refine x_scald hsc h_r0 hC (zdk dk_L_law_7 29 rfl) (q := 720) rfl (fun k112 _ => ?_)
        refine x_callVi (as := [.int (xs k110), .int (xs k111), .int (xs k112)]) cb_RL_82 rfl (by decide) hk0 h_r2 (fun x hx => t_X12_locator h_r2 x hx) hC (zdk dk_L_law_7 30 rfl) (q := 723) rfl rfl (Nat.le_of_ble_eq_true rfl) (fun z113 => ?_)
        refine x_icmp_eq (tgt := 1304) hC (zdk dk_L_law_7 31 rfl) (q := 726) rfl rfl (fun _ => ?_) (fun _ => ?_)
        · refine x_weak (L' := [.ref r0, .ref r1, .ref r2, .int x3]) ⟨Or.inr rfl, Or.inr rfl, Or.inr rfl, Or.inr rfl, trivial⟩ ?_
          exact x_L_law_1304 hC hE hk0 hsc h_r0 (f_L_law_18 xs sl r0 f) ih _ _ _ _ h_r1 h_r2
        · refine x_iconst (i := 0) c_iconst_0 hC (zdk dk_L_law_7 32 rfl) (q := 727) rfl ?_
          exact x_iret (ty := .boolean) rfl hE hC (zdk dk_L_law_7 33 rfl)
      refine x_tsIn (v := 16) (off := 695) (tgt := 728) hC (zdk dk_L_law_0 21 rfl) (by decide) ?_ (fun ht114 => ?_)
      · refine x_aload_n (i := 1) rfl hC (zdk dk_L_law_7 34 rfl) (q := 729) rfl ?_
        refine x_aload_n (i := 0) rfl hC (zdk dk_L_law_7 35 rfl) (q := 730) rfl ?_
        refine x_iload_n (i := 3) rfl hC (zdk dk_L_law_7 36 rfl) (q := 731) rfl ?_
        refine x_iconst (i := 1) c_iconst_1 hC (zdk dk_L_law_7 37 rfl) (q := 732) rfl ?_
        refine x_iadd hC (zdk dk_L_law_7 38 rfl) (q := 733) rfl ?_
        refine x_scald hsc h_r0 hC (zdk dk_L_law_7 39 rfl) (q := 734) rfl (fun k115 _ => ?_)
        refine x_aload_n (i := 0) rfl hC (zdk dk_L_law_7 40 rfl) (q := 735) rfl ?_
        refine x_iload_n (i := 3) rfl hC (zdk dk_L_law_7 41 rfl) (q := 736) rfl ?_
        refine x_iconst (i := 2) c_iconst_2 hC (zdk dk_L_law_7 42 rfl) (q := 737) rfl ?_
        refine x_iadd hC (zdk dk_L_law_7 43 rfl) (q := 738) rfl ?_
        refine x_scald hsc h_r0 hC (zdk dk_L_law_7 44 rfl) (q := 739) rfl (fun k116 _ => ?_)
        refine x_aload_n (i := 0) rfl hC (zdk dk_L_law_7 45 rfl) (q := 740) rfl ?_
        refine x_iload_n (i := 3) rfl hC (zdk dk_L_law_7 46 rfl) (q := 741) rfl ?_
        refine x_iconst (i := 3) c_iconst_3 hC (zdk dk_L_law_7 47 rfl) (q := 742) rfl ?_
        refine x_iadd hC (zdk dk_L_law_7 48 rfl) (q := 743) rfl ?_
        refine x_scald hsc h_r0 hC (zdk dk_L_law_7 49 rfl) (q := 744) rfl (fun k117 _ => ?_)
        refine x_callVi (as := [.int (xs k115), .int (xs k116), .int (xs k117)]) cb_RL_83 rfl (by decide) hk0 h_r1 (fun x hx => t_X11_wrong h_r1 x hx) hC (zdk dk_L_law_7 50 rfl) (q := 747) rfl rfl (Nat.le_of_ble_eq_true rfl) (fun z118 => ?_)
        refine x_aload_n (i := 2) rfl hC (zdk dk_L_law_7 51 rfl) (q := 748) rfl ?_
        refine x_aload_n (i := 0) rfl hC (zdk dk_L_law_7 52 rfl) (q := 749) rfl ?_
        refine x_iload_n (i := 3) rfl hC (zdk dk_L_law_7 53 rfl) (q := 750) rfl ?_
        refine x_iconst (i := 1) c_iconst_1 hC (zdk dk_L_law_7 54 rfl) (q := 751) rfl ?_
        refine x_iadd hC (zdk dk_L_law_7 55 rfl) (q := 752) rfl ?_
        refine x_scald hsc h_r0 hC (zdk dk_L_law_7 56 rfl) (q := 753) rfl (fun k119 _ => ?_)
        refine x_aload_n (i := 0) rfl hC (zdk dk_L_law_7 57 rfl) (q := 754) rfl ?_
        refine x_iload_n (i := 3) rfl hC (zdk dk_L_law_7 58 rfl) (q := 755) rfl ?_
        refine x_iconst (i := 2) c_iconst_2 hC (zdk dk_L_law_7 59 rfl) (q := 756) rfl ?_
        refine x_iadd hC (zdk dk_L_law_8 0 rfl) (q := 757) rfl ?_
        refine x_scald hsc h_r0 hC (zdk dk_L_law_8 1 rfl) (q := 758) rfl (fun k120 _ => ?_)
        refine x_aload_n (i := 0) rfl hC (zdk dk_L_law_8 2 rfl) (q := 759) rfl ?_
        refine x_iload_n (i := 3) rfl hC (zdk dk_L_law_8 3 rfl) (q := 760) rfl ?_
        refine x_iconst (i := 3) c_iconst_3 hC (zdk dk_L_law_8 4 rfl) (q := 761) rfl ?_
        refine x_iadd hC (zdk dk_L_law_8 5 rfl) (q := 762) rfl ?_
        refine x_scald hsc h_r0 hC (zdk dk_L_law_8 6 rfl) (q := 763) rfl (fun k121 _ => ?_)
        refine x_callVi (as := [.int (xs k119), .int (xs k120), .int (xs k121)]) cb_RL_86 rfl (by decide) hk0 h_r2 (fun x hx => t_X12_wrong h_r2 x hx) hC (zdk dk_L_law_8 7 rfl) (q := 766) rfl rfl (Nat.le_of_ble_eq_true rfl) (fun z122 => ?_)
        refine x_icmp_eq (tgt := 1304) hC (zdk dk_L_law_8 8 rfl) (q := 769) rfl rfl (fun _ => ?_) (fun _ => ?_)
        · refine x_weak (L' := [.ref r0, .ref r1, .ref r2, .int x3]) ⟨Or.inr rfl, Or.inr rfl, Or.inr rfl, Or.inr rfl, trivial⟩ ?_
          exact x_L_law_1304 hC hE hk0 hsc h_r0 (f_L_law_18 xs sl r0 f) ih _ _ _ _ h_r1 h_r2
        · refine x_iconst (i := 0) c_iconst_0 hC (zdk dk_L_law_8 9 rfl) (q := 770) rfl ?_
          exact x_iret (ty := .boolean) rfl hE hC (zdk dk_L_law_8 10 rfl)
      refine x_tsIn (v := 17) (off := 738) (tgt := 771) hC (zdk dk_L_law_0 21 rfl) (by decide) ?_ (fun ht123 => ?_)
      · refine x_aload_n (i := 1) rfl hC (zdk dk_L_law_8 11 rfl) (q := 772) rfl ?_
        refine x_aload_n (i := 0) rfl hC (zdk dk_L_law_8 12 rfl) (q := 773) rfl ?_
        refine x_iload_n (i := 3) rfl hC (zdk dk_L_law_8 13 rfl) (q := 774) rfl ?_
        refine x_iconst (i := 1) c_iconst_1 hC (zdk dk_L_law_8 14 rfl) (q := 775) rfl ?_
        refine x_iadd hC (zdk dk_L_law_8 15 rfl) (q := 776) rfl ?_
        refine x_scald hsc h_r0 hC (zdk dk_L_law_8 16 rfl) (q := 777) rfl (fun k124 _ => ?_)
        refine x_aload_n (i := 0) rfl hC (zdk dk_L_law_8 17 rfl) (q := 778) rfl ?_
        refine x_iload_n (i := 3) rfl hC (zdk dk_L_law_8 18 rfl) (q := 779) rfl ?_
        refine x_iconst (i := 2) c_iconst_2 hC (zdk dk_L_law_8 19 rfl) (q := 780) rfl ?_
        refine x_iadd hC (zdk dk_L_law_8 20 rfl) (q := 781) rfl ?_
        refine x_scald hsc h_r0 hC (zdk dk_L_law_8 21 rfl) (q := 782) rfl (fun k125 _ => ?_)
        refine x_callVi (as := [.int (xs k124), .int (xs k125)]) cb_RL_87 rfl (by decide) hk0 h_r1 (fun x hx => t_X11_why h_r1 x hx) hC (zdk dk_L_law_8 22 rfl) (q := 785) rfl rfl (Nat.le_of_ble_eq_true rfl) (fun z126 => ?_)
        refine x_aload_n (i := 2) rfl hC (zdk dk_L_law_8 23 rfl) (q := 786) rfl ?_
        refine x_aload_n (i := 0) rfl hC (zdk dk_L_law_8 24 rfl) (q := 787) rfl ?_
        refine x_iload_n (i := 3) rfl hC (zdk dk_L_law_8 25 rfl) (q := 788) rfl ?_
        refine x_iconst (i := 1) c_iconst_1 hC (zdk dk_L_law_8 26 rfl) (q := 789) rfl ?_
        refine x_iadd hC (zdk dk_L_law_8 27 rfl) (q := 790) rfl ?_
        refine x_scald hsc h_r0 hC (zdk dk_L_law_8 28 rfl) (q := 791) rfl (fun k127 _ => ?_)
        refine x_aload_n (i := 0) rfl hC (zdk dk_L_law_8 29 rfl) (q := 792) rfl ?_
        refine x_iload_n (i := 3) rfl hC (zdk dk_L_law_8 30 rfl) (q := 793) rfl ?_
        refine x_iconst (i := 2) c_iconst_2 hC (zdk dk_L_law_8 31 rfl) (q := 794) rfl ?_
        refine x_iadd hC (zdk dk_L_law_8 32 rfl) (q := 795) rfl ?_
        refine x_scald hsc h_r0 hC (zdk dk_L_law_8 33 rfl) (q := 796) rfl (fun k128 _ => ?_)
        refine x_callVi (as := [.int (xs k127), .int (xs k128)]) cb_RL_90 rfl (by decide) hk0 h_r2 (fun x hx => t_X12_why h_r2 x hx) hC (zdk dk_L_law_8 34 rfl) (q := 799) rfl rfl (Nat.le_of_ble_eq_true rfl) (fun z129 => ?_)
        refine x_icmp_eq (tgt := 1304) hC (zdk dk_L_law_8 35 rfl) (q := 802) rfl rfl (fun _ => ?_) (fun _ => ?_)
        · refine x_weak (L' := [.ref r0, .ref r1, .ref r2, .int x3]) ⟨Or.inr rfl, Or.inr rfl, Or.inr rfl, Or.inr rfl, trivial⟩ ?_
          exact x_L_law_1304 hC hE hk0 hsc h_r0 (f_L_law_18 xs sl r0 f) ih _ _ _ _ h_r1 h_r2
        · refine x_iconst (i := 0) c_iconst_0 hC (zdk dk_L_law_8 36 rfl) (q := 803) rfl ?_
          exact x_iret (ty := .boolean) rfl hE hC (zdk dk_L_law_8 37 rfl)
      refine x_tsIn (v := 18) (off := 771) (tgt := 804) hC (zdk dk_L_law_0 21 rfl) (by decide) ?_ (fun ht130 => ?_)
      · refine x_aload_n (i := 1) rfl hC (zdk dk_L_law_8 38 rfl) (q := 805) rfl ?_
        refine x_aload_n (i := 0) rfl hC (zdk dk_L_law_8 39 rfl) (q := 806) rfl ?_
        refine x_iload_n (i := 3) rfl hC (zdk dk_L_law_8 40 rfl) (q := 807) rfl ?_
        refine x_iconst (i := 1) c_iconst_1 hC (zdk dk_L_law_8 41 rfl) (q := 808) rfl ?_
        refine x_iadd hC (zdk dk_L_law_8 42 rfl) (q := 809) rfl ?_
        refine x_scald hsc h_r0 hC (zdk dk_L_law_8 43 rfl) (q := 810) rfl (fun k131 _ => ?_)
        refine x_aload_n (i := 0) rfl hC (zdk dk_L_law_8 44 rfl) (q := 811) rfl ?_
        refine x_iload_n (i := 3) rfl hC (zdk dk_L_law_8 45 rfl) (q := 812) rfl ?_
        refine x_iconst (i := 2) c_iconst_2 hC (zdk dk_L_law_8 46 rfl) (q := 813) rfl ?_
        refine x_iadd hC (zdk dk_L_law_8 47 rfl) (q := 814) rfl ?_
        refine x_scald hsc h_r0 hC (zdk dk_L_law_8 48 rfl) (q := 815) rfl (fun k132 _ => ?_)
        refine x_callVi (as := [.int (xs k131), .int (xs k132)]) cb_RL_91 rfl (by decide) hk0 h_r1 (fun x hx => t_X11_got h_r1 x hx) hC (zdk dk_L_law_8 49 rfl) (q := 818) rfl rfl (Nat.le_of_ble_eq_true rfl) (fun z133 => ?_)
        refine x_aload_n (i := 2) rfl hC (zdk dk_L_law_8 50 rfl) (q := 819) rfl ?_
        refine x_aload_n (i := 0) rfl hC (zdk dk_L_law_8 51 rfl) (q := 820) rfl ?_
        refine x_iload_n (i := 3) rfl hC (zdk dk_L_law_8 52 rfl) (q := 821) rfl ?_
        refine x_iconst (i := 1) c_iconst_1 hC (zdk dk_L_law_8 53 rfl) (q := 822) rfl ?_
        refine x_iadd hC (zdk dk_L_law_8 54 rfl) (q := 823) rfl ?_
        refine x_scald hsc h_r0 hC (zdk dk_L_law_8 55 rfl) (q := 824) rfl (fun k134 _ => ?_)
        refine x_aload_n (i := 0) rfl hC (zdk dk_L_law_8 56 rfl) (q := 825) rfl ?_
        refine x_iload_n (i := 3) rfl hC (zdk dk_L_law_8 57 rfl) (q := 826) rfl ?_
        refine x_iconst (i := 2) c_iconst_2 hC (zdk dk_L_law_8 58 rfl) (q := 827) rfl ?_
        refine x_iadd hC (zdk dk_L_law_8 59 rfl) (q := 828) rfl ?_
        refine x_scald hsc h_r0 hC (zdk dk_L_law_9 0 rfl) (q := 829) rfl (fun k135 _ => ?_)
        refine x_callVi (as := [.int (xs k134), .int (xs k135)]) cb_RL_94 rfl (by decide) hk0 h_r2 (fun x hx => t_X12_got h_r2 x hx) hC (zdk dk_L_law_9 1 rfl) (q := 832) rfl rfl (Nat.le_of_ble_eq_true rfl) (fun z136 => ?_)
        refine x_icmp_eq (tgt := 1304) hC (zdk dk_L_law_9 2 rfl) (q := 835) rfl rfl (fun _ => ?_) (fun _ => ?_)
        · refine x_weak (L' := [.ref r0, .ref r1, .ref r2, .int x3]) ⟨Or.inr rfl, Or.inr rfl, Or.inr rfl, Or.inr rfl, trivial⟩ ?_
          exact x_L_law_1304 hC hE hk0 hsc h_r0 (f_L_law_18 xs sl r0 f) ih _ _ _ _ h_r1 h_r2
        · refine x_iconst (i := 0) c_iconst_0 hC (zdk dk_L_law_9 3 rfl) (q := 836) rfl ?_
          exact x_iret (ty := .boolean) rfl hE hC (zdk dk_L_law_9 4 rfl)
      refine x_tsIn (v := 19) (off := 804) (tgt := 837) hC (zdk dk_L_law_0 21 rfl) (by decide) ?_ (fun ht137 => ?_)
      · refine x_aload_n (i := 1) rfl hC (zdk dk_L_law_9 5 rfl) (q := 838) rfl ?_
        refine x_aload_n (i := 0) rfl hC (zdk dk_L_law_9 6 rfl) (q := 839) rfl ?_
        refine x_iload_n (i := 3) rfl hC (zdk dk_L_law_9 7 rfl) (q := 840) rfl ?_
        refine x_iconst (i := 1) c_iconst_1 hC (zdk dk_L_law_9 8 rfl) (q := 841) rfl ?_
        refine x_iadd hC (zdk dk_L_law_9 9 rfl) (q := 842) rfl ?_
        refine x_scald hsc h_r0 hC (zdk dk_L_law_9 10 rfl) (q := 843) rfl (fun k138 _ => ?_)
        refine x_aload_n (i := 0) rfl hC (zdk dk_L_law_9 11 rfl) (q := 844) rfl ?_
        refine x_iload_n (i := 3) rfl hC (zdk dk_L_law_9 12 rfl) (q := 845) rfl ?_
        refine x_iconst (i := 2) c_iconst_2 hC (zdk dk_L_law_9 13 rfl) (q := 846) rfl ?_
        refine x_iadd hC (zdk dk_L_law_9 14 rfl) (q := 847) rfl ?_
        refine x_scald hsc h_r0 hC (zdk dk_L_law_9 15 rfl) (q := 848) rfl (fun k139 _ => ?_)
        refine x_callVi (as := [.int (xs k138), .int (xs k139)]) cb_RL_95 rfl (by decide) hk0 h_r1 (fun x hx => t_X11_span h_r1 x hx) hC (zdk dk_L_law_9 16 rfl) (q := 851) rfl rfl (Nat.le_of_ble_eq_true rfl) (fun z140 => ?_)
        refine x_aload_n (i := 2) rfl hC (zdk dk_L_law_9 17 rfl) (q := 852) rfl ?_
        refine x_aload_n (i := 0) rfl hC (zdk dk_L_law_9 18 rfl) (q := 853) rfl ?_
        refine x_iload_n (i := 3) rfl hC (zdk dk_L_law_9 19 rfl) (q := 854) rfl ?_
        refine x_iconst (i := 1) c_iconst_1 hC (zdk dk_L_law_9 20 rfl) (q := 855) rfl ?_
        refine x_iadd hC (zdk dk_L_law_9 21 rfl) (q := 856) rfl ?_
        refine x_scald hsc h_r0 hC (zdk dk_L_law_9 22 rfl) (q := 857) rfl (fun k141 _ => ?_)
        refine x_aload_n (i := 0) rfl hC (zdk dk_L_law_9 23 rfl) (q := 858) rfl ?_
        refine x_iload_n (i := 3) rfl hC (zdk dk_L_law_9 24 rfl) (q := 859) rfl ?_
        refine x_iconst (i := 2) c_iconst_2 hC (zdk dk_L_law_9 25 rfl) (q := 860) rfl ?_
        refine x_iadd hC (zdk dk_L_law_9 26 rfl) (q := 861) rfl ?_
        refine x_scald hsc h_r0 hC (zdk dk_L_law_9 27 rfl) (q := 862) rfl (fun k142 _ => ?_)
        refine x_callVi (as := [.int (xs k141), .int (xs k142)]) cb_RL_98 rfl (by decide) hk0 h_r2 (fun x hx => t_X12_span h_r2 x hx) hC (zdk dk_L_law_9 28 rfl) (q := 865) rfl rfl (Nat.le_of_ble_eq_true rfl) (fun z143 => ?_)
        refine x_icmp_eq (tgt := 1304) hC (zdk dk_L_law_9 29 rfl) (q := 868) rfl rfl (fun _ => ?_) (fun _ => ?_)
        · refine x_weak (L' := [.ref r0, .ref r1, .ref r2, .int x3]) ⟨Or.inr rfl, Or.inr rfl, Or.inr rfl, Or.inr rfl, trivial⟩ ?_
          exact x_L_law_1304 hC hE hk0 hsc h_r0 (f_L_law_18 xs sl r0 f) ih _ _ _ _ h_r1 h_r2
        · refine x_iconst (i := 0) c_iconst_0 hC (zdk dk_L_law_9 30 rfl) (q := 869) rfl ?_
          exact x_iret (ty := .boolean) rfl hE hC (zdk dk_L_law_9 31 rfl)
      refine x_tsIn (v := 20) (off := 837) (tgt := 870) hC (zdk dk_L_law_0 21 rfl) (by decide) ?_ (fun ht144 => ?_)
      · refine x_aload_n (i := 1) rfl hC (zdk dk_L_law_9 32 rfl) (q := 871) rfl ?_
        refine x_aload_n (i := 0) rfl hC (zdk dk_L_law_9 33 rfl) (q := 872) rfl ?_
        refine x_iload_n (i := 3) rfl hC (zdk dk_L_law_9 34 rfl) (q := 873) rfl ?_
        refine x_iconst (i := 1) c_iconst_1 hC (zdk dk_L_law_9 35 rfl) (q := 874) rfl ?_
        refine x_iadd hC (zdk dk_L_law_9 36 rfl) (q := 875) rfl ?_
        refine x_scald hsc h_r0 hC (zdk dk_L_law_9 37 rfl) (q := 876) rfl (fun k145 _ => ?_)
        refine x_callVi (as := [.int (xs k145)]) cb_RL_99 rfl (by decide) hk0 h_r1 (fun x hx => t_X11_lost h_r1 x hx) hC (zdk dk_L_law_9 38 rfl) (q := 879) rfl rfl (Nat.le_of_ble_eq_true rfl) (fun z146 => ?_)
        refine x_aload_n (i := 2) rfl hC (zdk dk_L_law_9 39 rfl) (q := 880) rfl ?_
        refine x_aload_n (i := 0) rfl hC (zdk dk_L_law_9 40 rfl) (q := 881) rfl ?_
        refine x_iload_n (i := 3) rfl hC (zdk dk_L_law_9 41 rfl) (q := 882) rfl ?_
        refine x_iconst (i := 1) c_iconst_1 hC (zdk dk_L_law_9 42 rfl) (q := 883) rfl ?_
        refine x_iadd hC (zdk dk_L_law_9 43 rfl) (q := 884) rfl ?_
        refine x_scald hsc h_r0 hC (zdk dk_L_law_9 44 rfl) (q := 885) rfl (fun k147 _ => ?_)
        refine x_callVi (as := [.int (xs k147)]) cb_RL_102 rfl (by decide) hk0 h_r2 (fun x hx => t_X12_lost h_r2 x hx) hC (zdk dk_L_law_9 45 rfl) (q := 888) rfl rfl (Nat.le_of_ble_eq_true rfl) (fun z148 => ?_)
        refine x_icmp_eq (tgt := 1304) hC (zdk dk_L_law_9 46 rfl) (q := 891) rfl rfl (fun _ => ?_) (fun _ => ?_)
        · refine x_weak (L' := [.ref r0, .ref r1, .ref r2, .int x3]) ⟨Or.inr rfl, Or.inr rfl, Or.inr rfl, Or.inr rfl, trivial⟩ ?_
          exact x_L_law_1304 hC hE hk0 hsc h_r0 (f_L_law_18 xs sl r0 f) ih _ _ _ _ h_r1 h_r2
        · refine x_iconst (i := 0) c_iconst_0 hC (zdk dk_L_law_9 47 rfl) (q := 892) rfl ?_
          exact x_iret (ty := .boolean) rfl hE hC (zdk dk_L_law_9 48 rfl)
      refine x_tsIn (v := 21) (off := 860) (tgt := 893) hC (zdk dk_L_law_0 21 rfl) (by decide) ?_ (fun ht149 => ?_)
      · refine x_aload_n (i := 1) rfl hC (zdk dk_L_law_9 49 rfl) (q := 894) rfl ?_
        refine x_aload_n (i := 0) rfl hC (zdk dk_L_law_9 50 rfl) (q := 895) rfl ?_
        refine x_iload_n (i := 3) rfl hC (zdk dk_L_law_9 51 rfl) (q := 896) rfl ?_
        refine x_iconst (i := 1) c_iconst_1 hC (zdk dk_L_law_9 52 rfl) (q := 897) rfl ?_
        refine x_iadd hC (zdk dk_L_law_9 53 rfl) (q := 898) rfl ?_
        refine x_scald hsc h_r0 hC (zdk dk_L_law_9 54 rfl) (q := 899) rfl (fun k150 _ => ?_)
        refine x_callVi (as := [.int (xs k150)]) cb_RL_103 rfl (by decide) hk0 h_r1 (fun x hx => t_X11_odds h_r1 x hx) hC (zdk dk_L_law_9 55 rfl) (q := 902) rfl rfl (Nat.le_of_ble_eq_true rfl) (fun z151 => ?_)
        refine x_aload_n (i := 2) rfl hC (zdk dk_L_law_9 56 rfl) (q := 903) rfl ?_
        refine x_aload_n (i := 0) rfl hC (zdk dk_L_law_9 57 rfl) (q := 904) rfl ?_
        refine x_iload_n (i := 3) rfl hC (zdk dk_L_law_9 58 rfl) (q := 905) rfl ?_
        refine x_iconst (i := 1) c_iconst_1 hC (zdk dk_L_law_9 59 rfl) (q := 906) rfl ?_
        refine x_iadd hC (zdk dk_L_law_10 0 rfl) (q := 907) rfl ?_
        refine x_scald hsc h_r0 hC (zdk dk_L_law_10 1 rfl) (q := 908) rfl (fun k152 _ => ?_)
        refine x_callVi (as := [.int (xs k152)]) cb_RL_106 rfl (by decide) hk0 h_r2 (fun x hx => t_X12_odds h_r2 x hx) hC (zdk dk_L_law_10 2 rfl) (q := 911) rfl rfl (Nat.le_of_ble_eq_true rfl) (fun z153 => ?_)
        refine x_icmp_eq (tgt := 1304) hC (zdk dk_L_law_10 3 rfl) (q := 914) rfl rfl (fun _ => ?_) (fun _ => ?_)
        · refine x_weak (L' := [.ref r0, .ref r1, .ref r2, .int x3]) ⟨Or.inr rfl, Or.inr rfl, Or.inr rfl, Or.inr rfl, trivial⟩ ?_
          exact x_L_law_1304 hC hE hk0 hsc h_r0 (f_L_law_18 xs sl r0 f) ih _ _ _ _ h_r1 h_r2
        · refine x_iconst (i := 0) c_iconst_0 hC (zdk dk_L_law_10 4 rfl) (q := 915) rfl ?_
          exact x_iret (ty := .boolean) rfl hE hC (zdk dk_L_law_10 5 rfl)
      refine x_tsIn (v := 22) (off := 883) (tgt := 916) hC (zdk dk_L_law_0 21 rfl) (by decide) ?_ (fun ht154 => ?_)
      · refine x_aload_n (i := 1) rfl hC (zdk dk_L_law_10 6 rfl) (q := 917) rfl ?_
        refine x_callVi (as := []) cb_RL_107 rfl (by decide) hk0 h_r1 (fun x hx => t_X11_meet h_r1 x hx) hC (zdk dk_L_law_10 7 rfl) (q := 920) rfl rfl (Nat.le_of_ble_eq_true rfl) (fun z155 => ?_)
        refine x_aload_n (i := 2) rfl hC (zdk dk_L_law_10 8 rfl) (q := 921) rfl ?_
        refine x_callVi (as := []) cb_RL_110 rfl (by decide) hk0 h_r2 (fun x hx => t_X12_meet h_r2 x hx) hC (zdk dk_L_law_10 9 rfl) (q := 924) rfl rfl (Nat.le_of_ble_eq_true rfl) (fun z156 => ?_)
        refine x_icmp_eq (tgt := 1304) hC (zdk dk_L_law_10 10 rfl) (q := 927) rfl rfl (fun _ => ?_) (fun _ => ?_)
        · refine x_weak (L' := [.ref r0, .ref r1, .ref r2, .int x3]) ⟨Or.inr rfl, Or.inr rfl, Or.inr rfl, Or.inr rfl, trivial⟩ ?_
          exact x_L_law_1304 hC hE hk0 hsc h_r0 (f_L_law_18 xs sl r0 f) ih _ _ _ _ h_r1 h_r2
        · refine x_iconst (i := 0) c_iconst_0 hC (zdk dk_L_law_10 11 rfl) (q := 928) rfl ?_
          exact x_iret (ty := .boolean) rfl hE hC (zdk dk_L_law_10 12 rfl)
      refine x_tsIn (v := 23) (off := 896) (tgt := 929) hC (zdk dk_L_law_0 21 rfl) (by decide) ?_ (fun ht157 => ?_)
      · refine x_aload_n (i := 1) rfl hC (zdk dk_L_law_10 13 rfl) (q := 930) rfl ?_
        refine x_aload_n (i := 0) rfl hC (zdk dk_L_law_10 14 rfl) (q := 931) rfl ?_
        refine x_iload_n (i := 3) rfl hC (zdk dk_L_law_10 15 rfl) (q := 932) rfl ?_
        refine x_iconst (i := 1) c_iconst_1 hC (zdk dk_L_law_10 16 rfl) (q := 933) rfl ?_
        refine x_iadd hC (zdk dk_L_law_10 17 rfl) (q := 934) rfl ?_
        refine x_scald hsc h_r0 hC (zdk dk_L_law_10 18 rfl) (q := 935) rfl (fun k158 _ => ?_)
        refine x_aload_n (i := 0) rfl hC (zdk dk_L_law_10 19 rfl) (q := 936) rfl ?_
        refine x_iload_n (i := 3) rfl hC (zdk dk_L_law_10 20 rfl) (q := 937) rfl ?_
        refine x_iconst (i := 2) c_iconst_2 hC (zdk dk_L_law_10 21 rfl) (q := 938) rfl ?_
        refine x_iadd hC (zdk dk_L_law_10 22 rfl) (q := 939) rfl ?_
        refine x_scald hsc h_r0 hC (zdk dk_L_law_10 23 rfl) (q := 940) rfl (fun k159 _ => ?_)
        refine x_callVi (as := [.int (xs k158), .int (xs k159)]) cb_RL_111 rfl (by decide) hk0 h_r1 (fun x hx => t_X11_shifts h_r1 x hx) hC (zdk dk_L_law_10 24 rfl) (q := 943) rfl rfl (Nat.le_of_ble_eq_true rfl) (fun z160 => ?_)
        refine x_aload_n (i := 2) rfl hC (zdk dk_L_law_10 25 rfl) (q := 944) rfl ?_
        refine x_aload_n (i := 0) rfl hC (zdk dk_L_law_10 26 rfl) (q := 945) rfl ?_
        refine x_iload_n (i := 3) rfl hC (zdk dk_L_law_10 27 rfl) (q := 946) rfl ?_
        refine x_iconst (i := 1) c_iconst_1 hC (zdk dk_L_law_10 28 rfl) (q := 947) rfl ?_
        refine x_iadd hC (zdk dk_L_law_10 29 rfl) (q := 948) rfl ?_
        refine x_scald hsc h_r0 hC (zdk dk_L_law_10 30 rfl) (q := 949) rfl (fun k161 _ => ?_)
        refine x_aload_n (i := 0) rfl hC (zdk dk_L_law_10 31 rfl) (q := 950) rfl ?_
        refine x_iload_n (i := 3) rfl hC (zdk dk_L_law_10 32 rfl) (q := 951) rfl ?_
        refine x_iconst (i := 2) c_iconst_2 hC (zdk dk_L_law_10 33 rfl) (q := 952) rfl ?_
        refine x_iadd hC (zdk dk_L_law_10 34 rfl) (q := 953) rfl ?_
        refine x_scald hsc h_r0 hC (zdk dk_L_law_10 35 rfl) (q := 954) rfl (fun k162 _ => ?_)
        refine x_callVi (as := [.int (xs k161), .int (xs k162)]) cb_RL_114 rfl (by decide) hk0 h_r2 (fun x hx => t_X12_shifts h_r2 x hx) hC (zdk dk_L_law_10 36 rfl) (q := 957) rfl rfl (Nat.le_of_ble_eq_true rfl) (fun z163 => ?_)
        refine x_icmp_eq (tgt := 1304) hC (zdk dk_L_law_10 37 rfl) (q := 960) rfl rfl (fun _ => ?_) (fun _ => ?_)
        · refine x_weak (L' := [.ref r0, .ref r1, .ref r2, .int x3]) ⟨Or.inr rfl, Or.inr rfl, Or.inr rfl, Or.inr rfl, trivial⟩ ?_
          exact x_L_law_1304 hC hE hk0 hsc h_r0 (f_L_law_18 xs sl r0 f) ih _ _ _ _ h_r1 h_r2
        · refine x_iconst (i := 0) c_iconst_0 hC (zdk dk_L_law_10 38 rfl) (q := 961) rfl ?_
          exact x_iret (ty := .boolean) rfl hE hC (zdk dk_L_law_10 39 rfl)
      refine x_tsIn (v := 24) (off := 929) (tgt := 962) hC (zdk dk_L_law_0 21 rfl) (by decide) ?_ (fun ht164 => ?_)
      · refine x_aload_n (i := 1) rfl hC (zdk dk_L_law_10 40 rfl) (q := 963) rfl ?_
        refine x_aload_n (i := 0) rfl hC (zdk dk_L_law_10 41 rfl) (q := 964) rfl ?_
        refine x_iload_n (i := 3) rfl hC (zdk dk_L_law_10 42 rfl) (q := 965) rfl ?_
        refine x_iconst (i := 1) c_iconst_1 hC (zdk dk_L_law_10 43 rfl) (q := 966) rfl ?_
        refine x_iadd hC (zdk dk_L_law_10 44 rfl) (q := 967) rfl ?_
        refine x_scald hsc h_r0 hC (zdk dk_L_law_10 45 rfl) (q := 968) rfl (fun k165 _ => ?_)
        refine x_aload_n (i := 0) rfl hC (zdk dk_L_law_10 46 rfl) (q := 969) rfl ?_
        refine x_iload_n (i := 3) rfl hC (zdk dk_L_law_10 47 rfl) (q := 970) rfl ?_
        refine x_iconst (i := 2) c_iconst_2 hC (zdk dk_L_law_10 48 rfl) (q := 971) rfl ?_
        refine x_iadd hC (zdk dk_L_law_10 49 rfl) (q := 972) rfl ?_
        refine x_scald hsc h_r0 hC (zdk dk_L_law_10 50 rfl) (q := 973) rfl (fun k166 _ => ?_)
        refine x_callVi (as := [.int (xs k165), .int (xs k166)]) cb_RL_115 rfl (by decide) hk0 h_r1 (fun x hx => t_X11_tells h_r1 x hx) hC (zdk dk_L_law_10 51 rfl) (q := 976) rfl rfl (Nat.le_of_ble_eq_true rfl) (fun z167 => ?_)
        refine x_aload_n (i := 2) rfl hC (zdk dk_L_law_10 52 rfl) (q := 977) rfl ?_
        refine x_aload_n (i := 0) rfl hC (zdk dk_L_law_10 53 rfl) (q := 978) rfl ?_
        refine x_iload_n (i := 3) rfl hC (zdk dk_L_law_10 54 rfl) (q := 979) rfl ?_
        refine x_iconst (i := 1) c_iconst_1 hC (zdk dk_L_law_10 55 rfl) (q := 980) rfl ?_
        refine x_iadd hC (zdk dk_L_law_10 56 rfl) (q := 981) rfl ?_
        refine x_scald hsc h_r0 hC (zdk dk_L_law_10 57 rfl) (q := 982) rfl (fun k168 _ => ?_)
        refine x_aload_n (i := 0) rfl hC (zdk dk_L_law_10 58 rfl) (q := 983) rfl ?_
        refine x_iload_n (i := 3) rfl hC (zdk dk_L_law_10 59 rfl) (q := 984) rfl ?_
        refine x_iconst (i := 2) c_iconst_2 hC (zdk dk_L_law_11 0 rfl) (q := 985) rfl ?_
        refine x_iadd hC (zdk dk_L_law_11 1 rfl) (q := 986) rfl ?_
        refine x_scald hsc h_r0 hC (zdk dk_L_law_11 2 rfl) (q := 987) rfl (fun k169 _ => ?_)
        refine x_callVi (as := [.int (xs k168), .int (xs k169)]) cb_RL_118 rfl (by decide) hk0 h_r2 (fun x hx => t_X12_tells h_r2 x hx) hC (zdk dk_L_law_11 3 rfl) (q := 990) rfl rfl (Nat.le_of_ble_eq_true rfl) (fun z170 => ?_)
        refine x_icmp_eq (tgt := 1304) hC (zdk dk_L_law_11 4 rfl) (q := 993) rfl rfl (fun _ => ?_) (fun _ => ?_)
        · refine x_weak (L' := [.ref r0, .ref r1, .ref r2, .int x3]) ⟨Or.inr rfl, Or.inr rfl, Or.inr rfl, Or.inr rfl, trivial⟩ ?_
          exact x_L_law_1304 hC hE hk0 hsc h_r0 (f_L_law_18 xs sl r0 f) ih _ _ _ _ h_r1 h_r2
        · refine x_iconst (i := 0) c_iconst_0 hC (zdk dk_L_law_11 5 rfl) (q := 994) rfl ?_
          exact x_iret (ty := .boolean) rfl hE hC (zdk dk_L_law_11 6 rfl)
      refine x_tsIn (v := 25) (off := 962) (tgt := 995) hC (zdk dk_L_law_0 21 rfl) (by decide) ?_ (fun ht171 => ?_)
      · refine x_aload_n (i := 1) rfl hC (zdk dk_L_law_11 7 rfl) (q := 996) rfl ?_
        refine x_aload_n (i := 0) rfl hC (zdk dk_L_law_11 8 rfl) (q := 997) rfl ?_
        refine x_iload_n (i := 3) rfl hC (zdk dk_L_law_11 9 rfl) (q := 998) rfl ?_
        refine x_iconst (i := 1) c_iconst_1 hC (zdk dk_L_law_11 10 rfl) (q := 999) rfl ?_
        refine x_iadd hC (zdk dk_L_law_11 11 rfl) (q := 1000) rfl ?_
        refine x_scald hsc h_r0 hC (zdk dk_L_law_11 12 rfl) (q := 1001) rfl (fun k172 _ => ?_)
        refine x_aload_n (i := 0) rfl hC (zdk dk_L_law_11 13 rfl) (q := 1002) rfl ?_
        refine x_iload_n (i := 3) rfl hC (zdk dk_L_law_11 14 rfl) (q := 1003) rfl ?_
        refine x_iconst (i := 2) c_iconst_2 hC (zdk dk_L_law_11 15 rfl) (q := 1004) rfl ?_
        refine x_iadd hC (zdk dk_L_law_11 16 rfl) (q := 1005) rfl ?_
        refine x_scald hsc h_r0 hC (zdk dk_L_law_11 17 rfl) (q := 1006) rfl (fun k173 _ => ?_)
        refine x_aload_n (i := 0) rfl hC (zdk dk_L_law_11 18 rfl) (q := 1007) rfl ?_
        refine x_iload_n (i := 3) rfl hC (zdk dk_L_law_11 19 rfl) (q := 1008) rfl ?_
        refine x_iconst (i := 3) c_iconst_3 hC (zdk dk_L_law_11 20 rfl) (q := 1009) rfl ?_
        refine x_iadd hC (zdk dk_L_law_11 21 rfl) (q := 1010) rfl ?_
        refine x_scald hsc h_r0 hC (zdk dk_L_law_11 22 rfl) (q := 1011) rfl (fun k174 _ => ?_)
        refine x_callVi (as := [.int (xs k172), .int (xs k173), .int (xs k174)]) cb_RL_119 rfl (by decide) hk0 h_r1 (fun x hx => t_X11_write h_r1 x hx) hC (zdk dk_L_law_11 23 rfl) (q := 1014) rfl rfl (Nat.le_of_ble_eq_true rfl) (fun z175 => ?_)
        refine x_aload_n (i := 2) rfl hC (zdk dk_L_law_11 24 rfl) (q := 1015) rfl ?_
        refine x_aload_n (i := 0) rfl hC (zdk dk_L_law_11 25 rfl) (q := 1016) rfl ?_
        refine x_iload_n (i := 3) rfl hC (zdk dk_L_law_11 26 rfl) (q := 1017) rfl ?_
        refine x_iconst (i := 1) c_iconst_1 hC (zdk dk_L_law_11 27 rfl) (q := 1018) rfl ?_
        refine x_iadd hC (zdk dk_L_law_11 28 rfl) (q := 1019) rfl ?_
        refine x_scald hsc h_r0 hC (zdk dk_L_law_11 29 rfl) (q := 1020) rfl (fun k176 _ => ?_)
        refine x_aload_n (i := 0) rfl hC (zdk dk_L_law_11 30 rfl) (q := 1021) rfl ?_
        refine x_iload_n (i := 3) rfl hC (zdk dk_L_law_11 31 rfl) (q := 1022) rfl ?_
        refine x_iconst (i := 2) c_iconst_2 hC (zdk dk_L_law_11 32 rfl) (q := 1023) rfl ?_
        refine x_iadd hC (zdk dk_L_law_11 33 rfl) (q := 1024) rfl ?_
        refine x_scald hsc h_r0 hC (zdk dk_L_law_11 34 rfl) (q := 1025) rfl (fun k177 _ => ?_)
        refine x_aload_n (i := 0) rfl hC (zdk dk_L_law_11 35 rfl) (q := 1026) rfl ?_
        refine x_iload_n (i := 3) rfl hC (zdk dk_L_law_11 36 rfl) (q := 1027) rfl ?_
        refine x_iconst (i := 3) c_iconst_3 hC (zdk dk_L_law_11 37 rfl) (q := 1028) rfl ?_
        refine x_iadd hC (zdk dk_L_law_11 38 rfl) (q := 1029) rfl ?_
        refine x_scald hsc h_r0 hC (zdk dk_L_law_11 39 rfl) (q := 1030) rfl (fun k178 _ => ?_)
        refine x_callVi (as := [.int (xs k176), .int (xs k177), .int (xs k178)]) cb_RL_123 rfl (by decide) hk0 h_r2 (fun x hx => t_X12_write h_r2 x hx) hC (zdk dk_L_law_11 40 rfl) (q := 1033) rfl rfl (Nat.le_of_ble_eq_true rfl) (fun z179 => ?_)
        refine x_icmp_eq (tgt := 1304) hC (zdk dk_L_law_11 41 rfl) (q := 1036) rfl rfl (fun _ => ?_) (fun _ => ?_)
        · refine x_weak (L' := [.ref r0, .ref r1, .ref r2, .int x3]) ⟨Or.inr rfl, Or.inr rfl, Or.inr rfl, Or.inr rfl, trivial⟩ ?_
          exact x_L_law_1304 hC hE hk0 hsc h_r0 (f_L_law_18 xs sl r0 f) ih _ _ _ _ h_r1 h_r2
        · refine x_iconst (i := 0) c_iconst_0 hC (zdk dk_L_law_11 42 rfl) (q := 1037) rfl ?_
          exact x_iret (ty := .boolean) rfl hE hC (zdk dk_L_law_11 43 rfl)
      refine x_tsIn (v := 26) (off := 1005) (tgt := 1038) hC (zdk dk_L_law_0 21 rfl) (by decide) ?_ (fun ht180 => ?_)
      · refine x_aload_n (i := 1) rfl hC (zdk dk_L_law_11 44 rfl) (q := 1039) rfl ?_
        refine x_aload_n (i := 0) rfl hC (zdk dk_L_law_11 45 rfl) (q := 1040) rfl ?_
        refine x_iload_n (i := 3) rfl hC (zdk dk_L_law_11 46 rfl) (q := 1041) rfl ?_
        refine x_iconst (i := 1) c_iconst_1 hC (zdk dk_L_law_11 47 rfl) (q := 1042) rfl ?_
        refine x_iadd hC (zdk dk_L_law_11 48 rfl) (q := 1043) rfl ?_
        refine x_scald hsc h_r0 hC (zdk dk_L_law_11 49 rfl) (q := 1044) rfl (fun k181 _ => ?_)
        refine x_callVi (as := [.int (xs k181)]) cb_RL_124 rfl (by decide) hk0 h_r1 (fun x hx => t_X11_erase h_r1 x hx) hC (zdk dk_L_law_11 50 rfl) (q := 1047) rfl rfl (Nat.le_of_ble_eq_true rfl) (fun z182 => ?_)
        refine x_aload_n (i := 2) rfl hC (zdk dk_L_law_11 51 rfl) (q := 1048) rfl ?_
        refine x_aload_n (i := 0) rfl hC (zdk dk_L_law_11 52 rfl) (q := 1049) rfl ?_
        refine x_iload_n (i := 3) rfl hC (zdk dk_L_law_11 53 rfl) (q := 1050) rfl ?_
        refine x_iconst (i := 1) c_iconst_1 hC (zdk dk_L_law_11 54 rfl) (q := 1051) rfl ?_
        refine x_iadd hC (zdk dk_L_law_11 55 rfl) (q := 1052) rfl ?_
        refine x_scald hsc h_r0 hC (zdk dk_L_law_11 56 rfl) (q := 1053) rfl (fun k183 _ => ?_)
        refine x_callVi (as := [.int (xs k183)]) cb_RL_127 rfl (by decide) hk0 h_r2 (fun x hx => t_X12_erase h_r2 x hx) hC (zdk dk_L_law_11 57 rfl) (q := 1056) rfl rfl (Nat.le_of_ble_eq_true rfl) (fun z184 => ?_)
        refine x_icmp_eq (tgt := 1304) hC (zdk dk_L_law_11 58 rfl) (q := 1059) rfl rfl (fun _ => ?_) (fun _ => ?_)
        · refine x_weak (L' := [.ref r0, .ref r1, .ref r2, .int x3]) ⟨Or.inr rfl, Or.inr rfl, Or.inr rfl, Or.inr rfl, trivial⟩ ?_
          exact x_L_law_1304 hC hE hk0 hsc h_r0 (f_L_law_18 xs sl r0 f) ih _ _ _ _ h_r1 h_r2
        · refine x_iconst (i := 0) c_iconst_0 hC (zdk dk_L_law_11 59 rfl) (q := 1060) rfl ?_
          exact x_iret (ty := .boolean) rfl hE hC (zdk dk_L_law_12 0 rfl)
      refine x_tsIn (v := 27) (off := 1028) (tgt := 1061) hC (zdk dk_L_law_0 21 rfl) (by decide) ?_ (fun ht185 => ?_)
      · refine x_aload_n (i := 1) rfl hC (zdk dk_L_law_12 1 rfl) (q := 1062) rfl ?_
        refine x_aload_n (i := 0) rfl hC (zdk dk_L_law_12 2 rfl) (q := 1063) rfl ?_
        refine x_iload_n (i := 3) rfl hC (zdk dk_L_law_12 3 rfl) (q := 1064) rfl ?_
        refine x_iconst (i := 1) c_iconst_1 hC (zdk dk_L_law_12 4 rfl) (q := 1065) rfl ?_
        refine x_iadd hC (zdk dk_L_law_12 5 rfl) (q := 1066) rfl ?_
        refine x_scald hsc h_r0 hC (zdk dk_L_law_12 6 rfl) (q := 1067) rfl (fun k186 _ => ?_)
        refine x_aload_n (i := 0) rfl hC (zdk dk_L_law_12 7 rfl) (q := 1068) rfl ?_
        refine x_iload_n (i := 3) rfl hC (zdk dk_L_law_12 8 rfl) (q := 1069) rfl ?_
        refine x_iconst (i := 2) c_iconst_2 hC (zdk dk_L_law_12 9 rfl) (q := 1070) rfl ?_
        refine x_iadd hC (zdk dk_L_law_12 10 rfl) (q := 1071) rfl ?_
        refine x_scald hsc h_r0 hC (zdk dk_L_law_12 11 rfl) (q := 1072) rfl (fun k187 _ => ?_)
        refine x_callVi (as := [.int (xs k186), .int (xs k187)]) cb_RL_128 rfl (by decide) hk0 h_r1 (fun x hx => t_X11_flip h_r1 x hx) hC (zdk dk_L_law_12 12 rfl) (q := 1075) rfl rfl (Nat.le_of_ble_eq_true rfl) (fun z188 => ?_)
        refine x_aload_n (i := 2) rfl hC (zdk dk_L_law_12 13 rfl) (q := 1076) rfl ?_
        refine x_aload_n (i := 0) rfl hC (zdk dk_L_law_12 14 rfl) (q := 1077) rfl ?_
        refine x_iload_n (i := 3) rfl hC (zdk dk_L_law_12 15 rfl) (q := 1078) rfl ?_
        refine x_iconst (i := 1) c_iconst_1 hC (zdk dk_L_law_12 16 rfl) (q := 1079) rfl ?_
        refine x_iadd hC (zdk dk_L_law_12 17 rfl) (q := 1080) rfl ?_
        refine x_scald hsc h_r0 hC (zdk dk_L_law_12 18 rfl) (q := 1081) rfl (fun k189 _ => ?_)
        refine x_aload_n (i := 0) rfl hC (zdk dk_L_law_12 19 rfl) (q := 1082) rfl ?_
        refine x_iload_n (i := 3) rfl hC (zdk dk_L_law_12 20 rfl) (q := 1083) rfl ?_
        refine x_iconst (i := 2) c_iconst_2 hC (zdk dk_L_law_12 21 rfl) (q := 1084) rfl ?_
        refine x_iadd hC (zdk dk_L_law_12 22 rfl) (q := 1085) rfl ?_
        refine x_scald hsc h_r0 hC (zdk dk_L_law_12 23 rfl) (q := 1086) rfl (fun k190 _ => ?_)
        refine x_callVi (as := [.int (xs k189), .int (xs k190)]) cb_RL_132 rfl (by decide) hk0 h_r2 (fun x hx => t_X12_flip h_r2 x hx) hC (zdk dk_L_law_12 24 rfl) (q := 1089) rfl rfl (Nat.le_of_ble_eq_true rfl) (fun z191 => ?_)
        refine x_icmp_eq (tgt := 1304) hC (zdk dk_L_law_12 25 rfl) (q := 1092) rfl rfl (fun _ => ?_) (fun _ => ?_)
        · refine x_weak (L' := [.ref r0, .ref r1, .ref r2, .int x3]) ⟨Or.inr rfl, Or.inr rfl, Or.inr rfl, Or.inr rfl, trivial⟩ ?_
          exact x_L_law_1304 hC hE hk0 hsc h_r0 (f_L_law_18 xs sl r0 f) ih _ _ _ _ h_r1 h_r2
        · refine x_iconst (i := 0) c_iconst_0 hC (zdk dk_L_law_12 26 rfl) (q := 1093) rfl ?_
          exact x_iret (ty := .boolean) rfl hE hC (zdk dk_L_law_12 27 rfl)
      refine x_tsIn (v := 28) (off := 1061) (tgt := 1094) hC (zdk dk_L_law_0 21 rfl) (by decide) ?_ (fun ht192 => ?_)
      · refine x_aload_n (i := 1) rfl hC (zdk dk_L_law_12 28 rfl) (q := 1095) rfl ?_
        refine x_aload_n (i := 0) rfl hC (zdk dk_L_law_12 29 rfl) (q := 1096) rfl ?_
        refine x_iload_n (i := 3) rfl hC (zdk dk_L_law_12 30 rfl) (q := 1097) rfl ?_
        refine x_iconst (i := 1) c_iconst_1 hC (zdk dk_L_law_12 31 rfl) (q := 1098) rfl ?_
        refine x_iadd hC (zdk dk_L_law_12 32 rfl) (q := 1099) rfl ?_
        refine x_scald hsc h_r0 hC (zdk dk_L_law_12 33 rfl) (q := 1100) rfl (fun k193 _ => ?_)
        refine x_callVi (as := [.int (xs k193)]) cb_RL_133 rfl (by decide) hk0 h_r1 (fun x hx => t_X11_refresh h_r1 x hx) hC (zdk dk_L_law_12 34 rfl) (q := 1103) rfl rfl (Nat.le_of_ble_eq_true rfl) (fun z194 => ?_)
        refine x_aload_n (i := 2) rfl hC (zdk dk_L_law_12 35 rfl) (q := 1104) rfl ?_
        refine x_aload_n (i := 0) rfl hC (zdk dk_L_law_12 36 rfl) (q := 1105) rfl ?_
        refine x_iload_n (i := 3) rfl hC (zdk dk_L_law_12 37 rfl) (q := 1106) rfl ?_
        refine x_iconst (i := 1) c_iconst_1 hC (zdk dk_L_law_12 38 rfl) (q := 1107) rfl ?_
        refine x_iadd hC (zdk dk_L_law_12 39 rfl) (q := 1108) rfl ?_
        refine x_scald hsc h_r0 hC (zdk dk_L_law_12 40 rfl) (q := 1109) rfl (fun k195 _ => ?_)
        refine x_callVi (as := [.int (xs k195)]) cb_RL_136 rfl (by decide) hk0 h_r2 (fun x hx => t_X12_refresh h_r2 x hx) hC (zdk dk_L_law_12 41 rfl) (q := 1112) rfl rfl (Nat.le_of_ble_eq_true rfl) (fun z196 => ?_)
        refine x_icmp_eq (tgt := 1304) hC (zdk dk_L_law_12 42 rfl) (q := 1115) rfl rfl (fun _ => ?_) (fun _ => ?_)
        · refine x_weak (L' := [.ref r0, .ref r1, .ref r2, .int x3]) ⟨Or.inr rfl, Or.inr rfl, Or.inr rfl, Or.inr rfl, trivial⟩ ?_
          exact x_L_law_1304 hC hE hk0 hsc h_r0 (f_L_law_18 xs sl r0 f) ih _ _ _ _ h_r1 h_r2
        · refine x_iconst (i := 0) c_iconst_0 hC (zdk dk_L_law_12 43 rfl) (q := 1116) rfl ?_
          exact x_iret (ty := .boolean) rfl hE hC (zdk dk_L_law_12 44 rfl)
      refine x_tsIn (v := 29) (off := 1084) (tgt := 1117) hC (zdk dk_L_law_0 21 rfl) (by decide) ?_ (fun ht197 => ?_)
      · refine x_aload_n (i := 1) rfl hC (zdk dk_L_law_12 45 rfl) (q := 1118) rfl ?_
        refine x_aload_n (i := 0) rfl hC (zdk dk_L_law_12 46 rfl) (q := 1119) rfl ?_
        refine x_iload_n (i := 3) rfl hC (zdk dk_L_law_12 47 rfl) (q := 1120) rfl ?_
        refine x_iconst (i := 1) c_iconst_1 hC (zdk dk_L_law_12 48 rfl) (q := 1121) rfl ?_
        refine x_iadd hC (zdk dk_L_law_12 49 rfl) (q := 1122) rfl ?_
        refine x_scald hsc h_r0 hC (zdk dk_L_law_12 50 rfl) (q := 1123) rfl (fun k198 _ => ?_)
        refine x_callVi (as := [.int (xs k198)]) cb_RL_137 rfl (by decide) hk0 h_r1 (fun x hx => t_X11_days h_r1 x hx) hC (zdk dk_L_law_12 51 rfl) (q := 1126) rfl rfl (Nat.le_of_ble_eq_true rfl) (fun z199 => ?_)
        refine x_aload_n (i := 2) rfl hC (zdk dk_L_law_12 52 rfl) (q := 1127) rfl ?_
        refine x_aload_n (i := 0) rfl hC (zdk dk_L_law_12 53 rfl) (q := 1128) rfl ?_
        refine x_iload_n (i := 3) rfl hC (zdk dk_L_law_12 54 rfl) (q := 1129) rfl ?_
        refine x_iconst (i := 1) c_iconst_1 hC (zdk dk_L_law_12 55 rfl) (q := 1130) rfl ?_
        refine x_iadd hC (zdk dk_L_law_12 56 rfl) (q := 1131) rfl ?_
        refine x_scald hsc h_r0 hC (zdk dk_L_law_12 57 rfl) (q := 1132) rfl (fun k200 _ => ?_)
        refine x_callVi (as := [.int (xs k200)]) cb_RL_140 rfl (by decide) hk0 h_r2 (fun x hx => t_X12_days h_r2 x hx) hC (zdk dk_L_law_12 58 rfl) (q := 1135) rfl rfl (Nat.le_of_ble_eq_true rfl) (fun z201 => ?_)
        refine x_icmp_eq (tgt := 1304) hC (zdk dk_L_law_12 59 rfl) (q := 1138) rfl rfl (fun _ => ?_) (fun _ => ?_)
        · refine x_weak (L' := [.ref r0, .ref r1, .ref r2, .int x3]) ⟨Or.inr rfl, Or.inr rfl, Or.inr rfl, Or.inr rfl, trivial⟩ ?_
          exact x_L_law_1304 hC hE hk0 hsc h_r0 (f_L_law_18 xs sl r0 f) ih _ _ _ _ h_r1 h_r2
        · refine x_iconst (i := 0) c_iconst_0 hC (zdk dk_L_law_13 0 rfl) (q := 1139) rfl ?_
          exact x_iret (ty := .boolean) rfl hE hC (zdk dk_L_law_13 1 rfl)
      refine x_tsIn (v := 30) (off := 1107) (tgt := 1140) hC (zdk dk_L_law_0 21 rfl) (by decide) ?_ (fun ht202 => ?_)
      · refine x_aload_n (i := 1) rfl hC (zdk dk_L_law_13 2 rfl) (q := 1141) rfl ?_
        refine x_aload_n (i := 0) rfl hC (zdk dk_L_law_13 3 rfl) (q := 1142) rfl ?_
        refine x_iload_n (i := 3) rfl hC (zdk dk_L_law_13 4 rfl) (q := 1143) rfl ?_
        refine x_iconst (i := 1) c_iconst_1 hC (zdk dk_L_law_13 5 rfl) (q := 1144) rfl ?_
        refine x_iadd hC (zdk dk_L_law_13 6 rfl) (q := 1145) rfl ?_
        refine x_scald hsc h_r0 hC (zdk dk_L_law_13 7 rfl) (q := 1146) rfl (fun k203 _ => ?_)
        refine x_callVi (as := [.int (xs k203)]) cb_RL_141 rfl (by decide) hk0 h_r1 (fun x hx => t_X11_chance h_r1 x hx) hC (zdk dk_L_law_13 8 rfl) (q := 1149) rfl rfl (Nat.le_of_ble_eq_true rfl) (fun z204 => ?_)
        refine x_aload_n (i := 2) rfl hC (zdk dk_L_law_13 9 rfl) (q := 1150) rfl ?_
        refine x_aload_n (i := 0) rfl hC (zdk dk_L_law_13 10 rfl) (q := 1151) rfl ?_
        refine x_iload_n (i := 3) rfl hC (zdk dk_L_law_13 11 rfl) (q := 1152) rfl ?_
        refine x_iconst (i := 1) c_iconst_1 hC (zdk dk_L_law_13 12 rfl) (q := 1153) rfl ?_
        refine x_iadd hC (zdk dk_L_law_13 13 rfl) (q := 1154) rfl ?_
        refine x_scald hsc h_r0 hC (zdk dk_L_law_13 14 rfl) (q := 1155) rfl (fun k205 _ => ?_)
        refine x_callVi (as := [.int (xs k205)]) cb_RL_144 rfl (by decide) hk0 h_r2 (fun x hx => t_X12_chance h_r2 x hx) hC (zdk dk_L_law_13 15 rfl) (q := 1158) rfl rfl (Nat.le_of_ble_eq_true rfl) (fun z206 => ?_)
        refine x_icmp_eq (tgt := 1304) hC (zdk dk_L_law_13 16 rfl) (q := 1161) rfl rfl (fun _ => ?_) (fun _ => ?_)
        · refine x_weak (L' := [.ref r0, .ref r1, .ref r2, .int x3]) ⟨Or.inr rfl, Or.inr rfl, Or.inr rfl, Or.inr rfl, trivial⟩ ?_
          exact x_L_law_1304 hC hE hk0 hsc h_r0 (f_L_law_18 xs sl r0 f) ih _ _ _ _ h_r1 h_r2
        · refine x_iconst (i := 0) c_iconst_0 hC (zdk dk_L_law_13 17 rfl) (q := 1162) rfl ?_
          exact x_iret (ty := .boolean) rfl hE hC (zdk dk_L_law_13 18 rfl)
      refine x_tsIn (v := 31) (off := 1130) (tgt := 1163) hC (zdk dk_L_law_0 21 rfl) (by decide) ?_ (fun ht207 => ?_)
      · refine x_aload_n (i := 1) rfl hC (zdk dk_L_law_13 19 rfl) (q := 1164) rfl ?_
        refine x_callVi (as := []) cb_RL_145 rfl (by decide) hk0 h_r1 (fun x hx => t_X11_undo h_r1 x hx) hC (zdk dk_L_law_13 20 rfl) (q := 1167) rfl rfl (Nat.le_of_ble_eq_true rfl) (fun z208 => ?_)
        refine x_aload_n (i := 2) rfl hC (zdk dk_L_law_13 21 rfl) (q := 1168) rfl ?_
        refine x_callVi (as := []) cb_RL_149 rfl (by decide) hk0 h_r2 (fun x hx => t_X12_undo h_r2 x hx) hC (zdk dk_L_law_13 22 rfl) (q := 1171) rfl rfl (Nat.le_of_ble_eq_true rfl) (fun z209 => ?_)
        refine x_icmp_eq (tgt := 1304) hC (zdk dk_L_law_13 23 rfl) (q := 1174) rfl rfl (fun _ => ?_) (fun _ => ?_)
        · refine x_weak (L' := [.ref r0, .ref r1, .ref r2, .int x3]) ⟨Or.inr rfl, Or.inr rfl, Or.inr rfl, Or.inr rfl, trivial⟩ ?_
          exact x_L_law_1304 hC hE hk0 hsc h_r0 (f_L_law_18 xs sl r0 f) ih _ _ _ _ h_r1 h_r2
        · refine x_iconst (i := 0) c_iconst_0 hC (zdk dk_L_law_13 24 rfl) (q := 1175) rfl ?_
          exact x_iret (ty := .boolean) rfl hE hC (zdk dk_L_law_13 25 rfl)
      refine x_tsIn (v := 32) (off := 1143) (tgt := 1176) hC (zdk dk_L_law_0 21 rfl) (by decide) ?_ (fun ht210 => ?_)
      · refine x_aload_n (i := 1) rfl hC (zdk dk_L_law_13 26 rfl) (q := 1177) rfl ?_
        refine x_aload_n (i := 0) rfl hC (zdk dk_L_law_13 27 rfl) (q := 1178) rfl ?_
        refine x_iload_n (i := 3) rfl hC (zdk dk_L_law_13 28 rfl) (q := 1179) rfl ?_
        refine x_iconst (i := 1) c_iconst_1 hC (zdk dk_L_law_13 29 rfl) (q := 1180) rfl ?_
        refine x_iadd hC (zdk dk_L_law_13 30 rfl) (q := 1181) rfl ?_
        refine x_scald hsc h_r0 hC (zdk dk_L_law_13 31 rfl) (q := 1182) rfl (fun k211 _ => ?_)
        refine x_callVi (as := [.int (xs k211)]) cb_RL_150 rfl (by decide) hk0 h_r1 (fun x hx => t_X11_seed h_r1 x hx) hC (zdk dk_L_law_13 32 rfl) (q := 1185) rfl rfl (Nat.le_of_ble_eq_true rfl) (fun z212 => ?_)
        refine x_aload_n (i := 2) rfl hC (zdk dk_L_law_13 33 rfl) (q := 1186) rfl ?_
        refine x_aload_n (i := 0) rfl hC (zdk dk_L_law_13 34 rfl) (q := 1187) rfl ?_
        refine x_iload_n (i := 3) rfl hC (zdk dk_L_law_13 35 rfl) (q := 1188) rfl ?_
        refine x_iconst (i := 1) c_iconst_1 hC (zdk dk_L_law_13 36 rfl) (q := 1189) rfl ?_
        refine x_iadd hC (zdk dk_L_law_13 37 rfl) (q := 1190) rfl ?_
        refine x_scald hsc h_r0 hC (zdk dk_L_law_13 38 rfl) (q := 1191) rfl (fun k213 _ => ?_)
        refine x_callVi (as := [.int (xs k213)]) cb_RL_153 rfl (by decide) hk0 h_r2 (fun x hx => t_X12_seed h_r2 x hx) hC (zdk dk_L_law_13 39 rfl) (q := 1194) rfl rfl (Nat.le_of_ble_eq_true rfl) (fun z214 => ?_)
        refine x_icmp_eq (tgt := 1304) hC (zdk dk_L_law_13 40 rfl) (q := 1197) rfl rfl (fun _ => ?_) (fun _ => ?_)
        · refine x_weak (L' := [.ref r0, .ref r1, .ref r2, .int x3]) ⟨Or.inr rfl, Or.inr rfl, Or.inr rfl, Or.inr rfl, trivial⟩ ?_
          exact x_L_law_1304 hC hE hk0 hsc h_r0 (f_L_law_18 xs sl r0 f) ih _ _ _ _ h_r1 h_r2
        · refine x_iconst (i := 0) c_iconst_0 hC (zdk dk_L_law_13 41 rfl) (q := 1198) rfl ?_
          exact x_iret (ty := .boolean) rfl hE hC (zdk dk_L_law_13 42 rfl)
      refine x_tsIn (v := 33) (off := 1166) (tgt := 1199) hC (zdk dk_L_law_0 21 rfl) (by decide) ?_ (fun ht215 => ?_)
      · refine x_aload_n (i := 1) rfl hC (zdk dk_L_law_13 43 rfl) (q := 1200) rfl ?_
        refine x_aload_n (i := 0) rfl hC (zdk dk_L_law_13 44 rfl) (q := 1201) rfl ?_
        refine x_iload_n (i := 3) rfl hC (zdk dk_L_law_13 45 rfl) (q := 1202) rfl ?_
        refine x_iconst (i := 1) c_iconst_1 hC (zdk dk_L_law_13 46 rfl) (q := 1203) rfl ?_
        refine x_iadd hC (zdk dk_L_law_13 47 rfl) (q := 1204) rfl ?_
        refine x_scald hsc h_r0 hC (zdk dk_L_law_13 48 rfl) (q := 1205) rfl (fun k216 _ => ?_)
        refine x_aload_n (i := 0) rfl hC (zdk dk_L_law_13 49 rfl) (q := 1206) rfl ?_
        refine x_iload_n (i := 3) rfl hC (zdk dk_L_law_13 50 rfl) (q := 1207) rfl ?_
        refine x_iconst (i := 2) c_iconst_2 hC (zdk dk_L_law_13 51 rfl) (q := 1208) rfl ?_
        refine x_iadd hC (zdk dk_L_law_13 52 rfl) (q := 1209) rfl ?_
        refine x_scald hsc h_r0 hC (zdk dk_L_law_13 53 rfl) (q := 1210) rfl (fun k217 _ => ?_)
        refine x_callVi (as := [.int (xs k216), .int (xs k217)]) cb_RL_154 rfl (by decide) hk0 h_r1 (fun x hx => t_X11_kept h_r1 x hx) hC (zdk dk_L_law_13 54 rfl) (q := 1213) rfl rfl (Nat.le_of_ble_eq_true rfl) (fun z218 => ?_)
        refine x_aload_n (i := 2) rfl hC (zdk dk_L_law_13 55 rfl) (q := 1214) rfl ?_
        refine x_aload_n (i := 0) rfl hC (zdk dk_L_law_13 56 rfl) (q := 1215) rfl ?_
        refine x_iload_n (i := 3) rfl hC (zdk dk_L_law_13 57 rfl) (q := 1216) rfl ?_
        refine x_iconst (i := 1) c_iconst_1 hC (zdk dk_L_law_13 58 rfl) (q := 1217) rfl ?_
        refine x_iadd hC (zdk dk_L_law_13 59 rfl) (q := 1218) rfl ?_
        refine x_scald hsc h_r0 hC (zdk dk_L_law_14 0 rfl) (q := 1219) rfl (fun k219 _ => ?_)
        refine x_aload_n (i := 0) rfl hC (zdk dk_L_law_14 1 rfl) (q := 1220) rfl ?_
        refine x_iload_n (i := 3) rfl hC (zdk dk_L_law_14 2 rfl) (q := 1221) rfl ?_
        refine x_iconst (i := 2) c_iconst_2 hC (zdk dk_L_law_14 3 rfl) (q := 1222) rfl ?_
        refine x_iadd hC (zdk dk_L_law_14 4 rfl) (q := 1223) rfl ?_
        refine x_scald hsc h_r0 hC (zdk dk_L_law_14 5 rfl) (q := 1224) rfl (fun k220 _ => ?_)
        refine x_callVi (as := [.int (xs k219), .int (xs k220)]) cb_RL_157 rfl (by decide) hk0 h_r2 (fun x hx => t_X12_kept h_r2 x hx) hC (zdk dk_L_law_14 6 rfl) (q := 1227) rfl rfl (Nat.le_of_ble_eq_true rfl) (fun z221 => ?_)
        refine x_icmp_eq (tgt := 1304) hC (zdk dk_L_law_14 7 rfl) (q := 1230) rfl rfl (fun _ => ?_) (fun _ => ?_)
        · refine x_weak (L' := [.ref r0, .ref r1, .ref r2, .int x3]) ⟨Or.inr rfl, Or.inr rfl, Or.inr rfl, Or.inr rfl, trivial⟩ ?_
          exact x_L_law_1304 hC hE hk0 hsc h_r0 (f_L_law_18 xs sl r0 f) ih _ _ _ _ h_r1 h_r2
        · refine x_iconst (i := 0) c_iconst_0 hC (zdk dk_L_law_14 8 rfl) (q := 1231) rfl ?_
          exact x_iret (ty := .boolean) rfl hE hC (zdk dk_L_law_14 9 rfl)
      refine x_tsIn (v := 34) (off := 1199) (tgt := 1232) hC (zdk dk_L_law_0 21 rfl) (by decide) ?_ (fun ht222 => ?_)
      · refine x_aload_n (i := 1) rfl hC (zdk dk_L_law_14 10 rfl) (q := 1233) rfl ?_
        refine x_callVi (as := []) cb_RL_158 rfl (by decide) hk0 h_r1 (fun x hx => t_X11_image h_r1 x hx) hC (zdk dk_L_law_14 11 rfl) (q := 1236) rfl rfl (Nat.le_of_ble_eq_true rfl) (fun z223 => ?_)
        refine x_aload_n (i := 2) rfl hC (zdk dk_L_law_14 12 rfl) (q := 1237) rfl ?_
        refine x_callVi (as := []) cb_RL_161 rfl (by decide) hk0 h_r2 (fun x hx => t_X12_image h_r2 x hx) hC (zdk dk_L_law_14 13 rfl) (q := 1240) rfl rfl (Nat.le_of_ble_eq_true rfl) (fun z224 => ?_)
        refine x_icmp_eq (tgt := 1304) hC (zdk dk_L_law_14 14 rfl) (q := 1243) rfl rfl (fun _ => ?_) (fun _ => ?_)
        · refine x_weak (L' := [.ref r0, .ref r1, .ref r2, .int x3]) ⟨Or.inr rfl, Or.inr rfl, Or.inr rfl, Or.inr rfl, trivial⟩ ?_
          exact x_L_law_1304 hC hE hk0 hsc h_r0 (f_L_law_18 xs sl r0 f) ih _ _ _ _ h_r1 h_r2
        · refine x_iconst (i := 0) c_iconst_0 hC (zdk dk_L_law_14 15 rfl) (q := 1244) rfl ?_
          exact x_iret (ty := .boolean) rfl hE hC (zdk dk_L_law_14 16 rfl)
      refine x_tsIn (v := 35) (off := 1212) (tgt := 1245) hC (zdk dk_L_law_0 21 rfl) (by decide) ?_ (fun ht225 => ?_)
      · refine x_aload_n (i := 1) rfl hC (zdk dk_L_law_14 17 rfl) (q := 1246) rfl ?_
        refine x_aload_n (i := 0) rfl hC (zdk dk_L_law_14 18 rfl) (q := 1247) rfl ?_
        refine x_iload_n (i := 3) rfl hC (zdk dk_L_law_14 19 rfl) (q := 1248) rfl ?_
        refine x_iconst (i := 1) c_iconst_1 hC (zdk dk_L_law_14 20 rfl) (q := 1249) rfl ?_
        refine x_iadd hC (zdk dk_L_law_14 21 rfl) (q := 1250) rfl ?_
        refine x_scald hsc h_r0 hC (zdk dk_L_law_14 22 rfl) (q := 1251) rfl (fun k226 _ => ?_)
        refine x_callVi (as := [.int (xs k226)]) cb_RL_162 rfl (by decide) hk0 h_r1 (fun x hx => t_X11_octet h_r1 x hx) hC (zdk dk_L_law_14 23 rfl) (q := 1254) rfl rfl (Nat.le_of_ble_eq_true rfl) (fun z227 => ?_)
        refine x_aload_n (i := 2) rfl hC (zdk dk_L_law_14 24 rfl) (q := 1255) rfl ?_
        refine x_aload_n (i := 0) rfl hC (zdk dk_L_law_14 25 rfl) (q := 1256) rfl ?_
        refine x_iload_n (i := 3) rfl hC (zdk dk_L_law_14 26 rfl) (q := 1257) rfl ?_
        refine x_iconst (i := 1) c_iconst_1 hC (zdk dk_L_law_14 27 rfl) (q := 1258) rfl ?_
        refine x_iadd hC (zdk dk_L_law_14 28 rfl) (q := 1259) rfl ?_
        refine x_scald hsc h_r0 hC (zdk dk_L_law_14 29 rfl) (q := 1260) rfl (fun k228 _ => ?_)
        refine x_callVi (as := [.int (xs k228)]) cb_RL_165 rfl (by decide) hk0 h_r2 (fun x hx => t_X12_octet h_r2 x hx) hC (zdk dk_L_law_14 30 rfl) (q := 1263) rfl rfl (Nat.le_of_ble_eq_true rfl) (fun z229 => ?_)
        refine x_icmp_eq (tgt := 1304) hC (zdk dk_L_law_14 31 rfl) (q := 1266) rfl rfl (fun _ => ?_) (fun _ => ?_)
        · refine x_weak (L' := [.ref r0, .ref r1, .ref r2, .int x3]) ⟨Or.inr rfl, Or.inr rfl, Or.inr rfl, Or.inr rfl, trivial⟩ ?_
          exact x_L_law_1304 hC hE hk0 hsc h_r0 (f_L_law_18 xs sl r0 f) ih _ _ _ _ h_r1 h_r2
        · refine x_iconst (i := 0) c_iconst_0 hC (zdk dk_L_law_14 32 rfl) (q := 1267) rfl ?_
          exact x_iret (ty := .boolean) rfl hE hC (zdk dk_L_law_14 33 rfl)
      refine x_tsIn (v := 36) (off := 1235) (tgt := 1268) hC (zdk dk_L_law_0 21 rfl) (by decide) ?_ (fun ht230 => ?_)
      · refine x_aload_n (i := 1) rfl hC (zdk dk_L_law_14 34 rfl) (q := 1269) rfl ?_
        refine x_callVi (as := []) cb_RL_166 rfl (by decide) hk0 h_r1 (fun x hx => t_X11_on h_r1 x hx) hC (zdk dk_L_law_14 35 rfl) (q := 1272) rfl rfl (Nat.le_of_ble_eq_true rfl) (fun z231 => ?_)
        refine x_aload_n (i := 2) rfl hC (zdk dk_L_law_14 36 rfl) (q := 1273) rfl ?_
        refine x_callVi (as := []) cb_RL_169 rfl (by decide) hk0 h_r2 (fun x hx => t_X12_on h_r2 x hx) hC (zdk dk_L_law_14 37 rfl) (q := 1276) rfl rfl (Nat.le_of_ble_eq_true rfl) (fun z232 => ?_)
        refine x_icmp_eq (tgt := 1304) hC (zdk dk_L_law_14 38 rfl) (q := 1279) rfl rfl (fun _ => ?_) (fun _ => ?_)
        · refine x_weak (L' := [.ref r0, .ref r1, .ref r2, .int x3]) ⟨Or.inr rfl, Or.inr rfl, Or.inr rfl, Or.inr rfl, trivial⟩ ?_
          exact x_L_law_1304 hC hE hk0 hsc h_r0 (f_L_law_18 xs sl r0 f) ih _ _ _ _ h_r1 h_r2
        · refine x_iconst (i := 0) c_iconst_0 hC (zdk dk_L_law_14 39 rfl) (q := 1280) rfl ?_
          exact x_iret (ty := .boolean) rfl hE hC (zdk dk_L_law_14 40 rfl)
      refine x_tsIn (v := 37) (off := 1248) (tgt := 1281) hC (zdk dk_L_law_0 21 rfl) (by decide) ?_ (fun ht233 => ?_)
      · refine x_aload_n (i := 1) rfl hC (zdk dk_L_law_14 41 rfl) (q := 1282) rfl ?_
        refine x_aload_n (i := 0) rfl hC (zdk dk_L_law_14 42 rfl) (q := 1283) rfl ?_
        refine x_iload_n (i := 3) rfl hC (zdk dk_L_law_14 43 rfl) (q := 1284) rfl ?_
        refine x_iconst (i := 1) c_iconst_1 hC (zdk dk_L_law_14 44 rfl) (q := 1285) rfl ?_
        refine x_iadd hC (zdk dk_L_law_14 45 rfl) (q := 1286) rfl ?_
        refine x_scald hsc h_r0 hC (zdk dk_L_law_14 46 rfl) (q := 1287) rfl (fun k234 _ => ?_)
        refine x_callVi (as := [.int (xs k234)]) cb_RL_170 rfl (by decide) hk0 h_r1 (fun x hx => t_X11_status h_r1 x hx) hC (zdk dk_L_law_14 47 rfl) (q := 1290) rfl rfl (Nat.le_of_ble_eq_true rfl) (fun z235 => ?_)
        refine x_aload_n (i := 2) rfl hC (zdk dk_L_law_14 48 rfl) (q := 1291) rfl ?_
        refine x_aload_n (i := 0) rfl hC (zdk dk_L_law_14 49 rfl) (q := 1292) rfl ?_
        refine x_iload_n (i := 3) rfl hC (zdk dk_L_law_14 50 rfl) (q := 1293) rfl ?_
        refine x_iconst (i := 1) c_iconst_1 hC (zdk dk_L_law_14 51 rfl) (q := 1294) rfl ?_
        refine x_iadd hC (zdk dk_L_law_14 52 rfl) (q := 1295) rfl ?_
        refine x_scald hsc h_r0 hC (zdk dk_L_law_14 53 rfl) (q := 1296) rfl (fun k236 _ => ?_)
        refine x_callVi (as := [.int (xs k236)]) cb_RL_173 rfl (by decide) hk0 h_r2 (fun x hx => t_X12_status h_r2 x hx) hC (zdk dk_L_law_14 54 rfl) (q := 1299) rfl rfl (Nat.le_of_ble_eq_true rfl) (fun z237 => ?_)
        refine x_icmp_eq (tgt := 1304) hC (zdk dk_L_law_14 55 rfl) (q := 1302) rfl rfl (fun _ => ?_) (fun _ => ?_)
        · refine x_weak (L' := [.ref r0, .ref r1, .ref r2, .int x3]) ⟨Or.inr rfl, Or.inr rfl, Or.inr rfl, Or.inr rfl, trivial⟩ ?_
          exact x_L_law_1304 hC hE hk0 hsc h_r0 (f_L_law_18 xs sl r0 f) ih _ _ _ _ h_r1 h_r2
        · refine x_iconst (i := 0) c_iconst_0 hC (zdk dk_L_law_14 56 rfl) (q := 1303) rfl ?_
          exact x_iret (ty := .boolean) rfl hE hC (zdk dk_L_law_14 57 rfl)
      refine x_tsOut (tgt := 1304) [0, 1, 2, 3, 4, 5, 6, 7, 8, 9, 10, 11, 12, 13, 14, 15, 16, 17, 18, 19, 20, 21, 22, 23, 24, 25, 26, 27, 28, 29, 30, 31, 32, 33, 34, 35, 36, 37] hC (zdk dk_L_law_0 21 rfl) (List.forall_mem_cons.2 ⟨ht2, (List.forall_mem_cons.2 ⟨ht15, (List.forall_mem_cons.2 ⟨ht20, (List.forall_mem_cons.2 ⟨ht23, (List.forall_mem_cons.2 ⟨ht28, (List.forall_mem_cons.2 ⟨ht33, (List.forall_mem_cons.2 ⟨ht40, (List.forall_mem_cons.2 ⟨ht47, (List.forall_mem_cons.2 ⟨ht52, (List.forall_mem_cons.2 ⟨ht61, (List.forall_mem_cons.2 ⟨ht66, (List.forall_mem_cons.2 ⟨ht73, (List.forall_mem_cons.2 ⟨ht80, (List.forall_mem_cons.2 ⟨ht89, (List.forall_mem_cons.2 ⟨ht96, (List.forall_mem_cons.2 ⟨ht105, (List.forall_mem_cons.2 ⟨ht114, (List.forall_mem_cons.2 ⟨ht123, (List.forall_mem_cons.2 ⟨ht130, (List.forall_mem_cons.2 ⟨ht137, (List.forall_mem_cons.2 ⟨ht144, (List.forall_mem_cons.2 ⟨ht149, (List.forall_mem_cons.2 ⟨ht154, (List.forall_mem_cons.2 ⟨ht157, (List.forall_mem_cons.2 ⟨ht164, (List.forall_mem_cons.2 ⟨ht171, (List.forall_mem_cons.2 ⟨ht180, (List.forall_mem_cons.2 ⟨ht185, (List.forall_mem_cons.2 ⟨ht192, (List.forall_mem_cons.2 ⟨ht197, (List.forall_mem_cons.2 ⟨ht202, (List.forall_mem_cons.2 ⟨ht207, (List.forall_mem_cons.2 ⟨ht210, (List.forall_mem_cons.2 ⟨ht215, (List.forall_mem_cons.2 ⟨ht222, (List.forall_mem_cons.2 ⟨ht225, (List.forall_mem_cons.2 ⟨ht230, (List.forall_mem_cons.2 ⟨ht233, (fun _ h => absurd h List.not_mem_nil)⟩)⟩)⟩)⟩)⟩)⟩)⟩)⟩)⟩)⟩)⟩)⟩)⟩)⟩)⟩)⟩)⟩)⟩)⟩)⟩)⟩)⟩)⟩)⟩)⟩)⟩)⟩)⟩)⟩)⟩)⟩)⟩)⟩)⟩)⟩)⟩)⟩)⟩) (by decide) rfl ?_
      refine x_weak (L' := [.ref r0, .ref r1, .ref r2, .int x3]) ⟨Or.inr rfl, Or.inr rfl, Or.inr rfl, Or.inr rfl, trivial⟩ ?_
      exact x_L_law_1304 hC hE hk0 hsc h_r0 (f_L_law_18 xs sl r0 f) ih _ _ _ _ h_r1 h_r2
set_option maxRecDepth 100000 in
def f_L_law (xs : Nat → Int32) (sl : Nat) (M : Mem) : Option (Int32 × Mem) := Option.bind (some (znew M 0)) fun M1 => Option.bind (f_X11_init 1 0 M1) fun M2 => Option.bind (some (znew M2 355)) fun M3 => Option.bind (f_X12_init 356 355 M3) fun M4 => f_L_law_18 xs sl 1000005 1000000 0 355 0 M4
set_option maxRecDepth 100000 in
set_option maxHeartbeats 8000000 in
theorem x_L_law {κ : KX} (hC : CX κ cL_law RL 4 (some .boolean) 128) (hE : zEnd κ 395 (395, 37739)) (hk0 : zRk κ (395, 37739)) (hAO : zAOk κ) {xs : Nat → Int32} {sl : Nat} (hsc : zScr κ xs sl) (M : Mem) : X κ 4 emI 0 (0, 0) 0 [.ref 1000005, .null, .null, .null] [] M (f_L_law xs sl M) := by
  unfold f_L_law
  refine x_new nw_RL_7 (by decide +kernel) (n2 := 1) rfl (cs2 := (1, 17)) rfl (zRk_le hk0 (by decide) (by decide)) hC (zdk dk_L_law_0 0 rfl) (q := 3) rfl (fun h1 => ?_)
  refine x_nmM (fun M1 => ?_)
  refine x_dup rfl hC (zdk dk_L_law_0 1 rfl) (q := 4) rfl ?_
  refine x_callI (as := []) (mc' := 354) (ms' := 15760) (n2 := 355) ic_RL_9 rfl (by decide) (cs2 := (355, 15777)) rfl (zRk_le hk0 (by decide) (by decide)) (fun h => zO_lt h1 h) hAO (fun x hx => t_X11_init h1 x hx) hC (zdk dk_L_law_0 2 rfl) (q := 7) rfl rfl (Nat.le_of_ble_eq_true rfl) (fun M2 => ?_)
  refine x_astore_n (i := 1) (L' := [.ref 1000005, .ref 0, .null, .null]) (by decide) rfl hC (zdk dk_L_law_0 3 rfl) (q := 8) rfl ?_
  refine x_new nw_RL_10 (by decide +kernel) (n2 := 356) rfl (cs2 := (356, 15853)) rfl (zRk_le hk0 (by decide) (by decide)) hC (zdk dk_L_law_0 4 rfl) (q := 11) rfl (fun h2 => ?_)
  refine x_nmM (fun M3 => ?_)
  refine x_dup rfl hC (zdk dk_L_law_0 5 rfl) (q := 12) rfl ?_
  refine x_callI (as := []) (mc' := 39) (ms' := 21886) (n2 := 395) ic_RL_12 rfl (by decide) (cs2 := (395, 37739)) rfl (zRk_le hk0 (by decide) (by decide)) (fun h => zO_lt h2 h) hAO (fun x hx => t_X12_init h2 x hx) hC (zdk dk_L_law_0 6 rfl) (q := 15) rfl rfl (Nat.le_of_ble_eq_true rfl) (fun M4 => ?_)
  refine x_astore_n (i := 2) (L' := [.ref 1000005, .ref 0, .ref 355, .null]) (by decide) rfl hC (zdk dk_L_law_0 7 rfl) (q := 16) rfl ?_
  refine x_iconst (i := 0) c_iconst_0 hC (zdk dk_L_law_0 8 rfl) (q := 17) rfl ?_
  refine x_istore_n (i := 3) (L' := [.ref 1000005, .ref 0, .ref 355, .int 0]) (by decide) rfl hC (zdk dk_L_law_0 9 rfl) (q := 18) rfl ?_
  exact x_L_law_18 hC hE hk0 hsc rfl _ _ _ _ _ (zO_le h1 (by decide)) (zO_le h2 (by decide))
