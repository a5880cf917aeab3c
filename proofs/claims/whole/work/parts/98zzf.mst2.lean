/-! chip: the model's statements (1) -/
theorem cws : ∀ i, i < 27 → lN (pk8 (ow i)) = [(439854918756 : Int64), (1886350457 : Int64), (469853168755 : Int64), (495673373300 : Int64), (1885431653 : Int64), (1751738216 : Int64), (7106423 : Int64), (7170404 : Int64), (1937007984 : Int64), (474315584357 : Int64), (110442557371507 : Int64), (500135716211 : Int64), (6578553 : Int64), (1667591276 : Int64), (465558725996 : Int64), (6449524 : Int64), (6383461 : Int64), (500135716196 : Int64), (6775152 : Int64), (24948 : Int64), (26982 : Int64), (28530 : Int64), (6385252 : Int64), (7237492 : Int64), (6384748 : Int64), (7170414 : Int64), (7168376 : Int64)].getD i 0 := by decide +kernel
theorem m_isOwn {l : List Nat} (hl : NM l) (M : Mem) : f_X12_isOwn 355 (lN (pk8 l)) M = some (b01 (decide (owi l < 27)), M) := by
  have z1 := (pk8_z hl).1
  have ce : ∀ i (y : Int64), i < 27 → y = lN (pk8 (ow i)) → (lg_cmp (lN (pk8 l)) y = 0 ↔ owi l = i) := fun i y hi hy => by
    have z2 := (pk8_z (ow_NM hi)).1
    rw [hy, lc_ee (by omega) (by omega), owi_eq hi]
    exact ⟨fun e => pk8_inj hl (ow_NM hi) e, fun e => by rw [e]⟩
  unfold f_X12_isOwn f_X12_isOwn_40 f_X12_isOwn_82 f_X12_isOwn_124 f_X12_isOwn_166 f_X12_isOwn_208 f_X12_isOwn_226
  by_cases c0 : owi l = 0
  · rw [if_pos ((ce 0 439854918756 (by decide) (cws 0 (by decide)).symm).mpr c0), decide_eq_true (by omega)]; rfl
  rw [if_neg (fun e => c0 ((ce 0 439854918756 (by decide) (cws 0 (by decide)).symm).mp e))]
  by_cases c1 : owi l = 1
  · rw [if_pos ((ce 1 1886350457 (by decide) (cws 1 (by decide)).symm).mpr c1), decide_eq_true (by omega)]; rfl
  rw [if_neg (fun e => c1 ((ce 1 1886350457 (by decide) (cws 1 (by decide)).symm).mp e))]
  by_cases c2 : owi l = 2
  · rw [if_pos ((ce 2 469853168755 (by decide) (cws 2 (by decide)).symm).mpr c2), decide_eq_true (by omega)]; rfl
  rw [if_neg (fun e => c2 ((ce 2 469853168755 (by decide) (cws 2 (by decide)).symm).mp e))]
  by_cases c3 : owi l = 3
  · rw [if_pos ((ce 3 495673373300 (by decide) (cws 3 (by decide)).symm).mpr c3), decide_eq_true (by omega)]; rfl
  rw [if_neg (fun e => c3 ((ce 3 495673373300 (by decide) (cws 3 (by decide)).symm).mp e))]
  by_cases c4 : owi l = 4
  · rw [if_pos ((ce 4 1885431653 (by decide) (cws 4 (by decide)).symm).mpr c4), decide_eq_true (by omega)]; rfl
  rw [if_neg (fun e => c4 ((ce 4 1885431653 (by decide) (cws 4 (by decide)).symm).mp e))]
  by_cases c5 : owi l = 5
  · rw [if_pos ((ce 5 1751738216 (by decide) (cws 5 (by decide)).symm).mpr c5), decide_eq_true (by omega)]; rfl
  rw [if_neg (fun e => c5 ((ce 5 1751738216 (by decide) (cws 5 (by decide)).symm).mp e))]
  by_cases c6 : owi l = 6
  · rw [if_pos ((ce 6 7106423 (by decide) (cws 6 (by decide)).symm).mpr c6), decide_eq_true (by omega)]; rfl
  rw [if_neg (fun e => c6 ((ce 6 7106423 (by decide) (cws 6 (by decide)).symm).mp e))]
  by_cases c7 : owi l = 7
  · rw [if_pos ((ce 7 7170404 (by decide) (cws 7 (by decide)).symm).mpr c7), decide_eq_true (by omega)]; rfl
  rw [if_neg (fun e => c7 ((ce 7 7170404 (by decide) (cws 7 (by decide)).symm).mp e))]
  by_cases c8 : owi l = 8
  · rw [if_pos ((ce 8 1937007984 (by decide) (cws 8 (by decide)).symm).mpr c8), decide_eq_true (by omega)]; rfl
  rw [if_neg (fun e => c8 ((ce 8 1937007984 (by decide) (cws 8 (by decide)).symm).mp e))]
  by_cases c9 : owi l = 9
  · rw [if_pos ((ce 9 474315584357 (by decide) (cws 9 (by decide)).symm).mpr c9), decide_eq_true (by omega)]; rfl
  rw [if_neg (fun e => c9 ((ce 9 474315584357 (by decide) (cws 9 (by decide)).symm).mp e))]
  by_cases c10 : owi l = 10
  · rw [if_pos ((ce 10 110442557371507 (by decide) (cws 10 (by decide)).symm).mpr c10), decide_eq_true (by omega)]; rfl
  rw [if_neg (fun e => c10 ((ce 10 110442557371507 (by decide) (cws 10 (by decide)).symm).mp e))]
  by_cases c11 : owi l = 11
  · rw [if_pos ((ce 11 500135716211 (by decide) (cws 11 (by decide)).symm).mpr c11), decide_eq_true (by omega)]; rfl
  rw [if_neg (fun e => c11 ((ce 11 500135716211 (by decide) (cws 11 (by decide)).symm).mp e))]
  by_cases c12 : owi l = 12
  · rw [if_pos ((ce 12 6578553 (by decide) (cws 12 (by decide)).symm).mpr c12), decide_eq_true (by omega)]; rfl
  rw [if_neg (fun e => c12 ((ce 12 6578553 (by decide) (cws 12 (by decide)).symm).mp e))]
  by_cases c13 : owi l = 13
  · rw [if_pos ((ce 13 1667591276 (by decide) (cws 13 (by decide)).symm).mpr c13), decide_eq_true (by omega)]; rfl
  rw [if_neg (fun e => c13 ((ce 13 1667591276 (by decide) (cws 13 (by decide)).symm).mp e))]
  by_cases c14 : owi l = 14
  · rw [if_pos ((ce 14 465558725996 (by decide) (cws 14 (by decide)).symm).mpr c14), decide_eq_true (by omega)]; rfl
  rw [if_neg (fun e => c14 ((ce 14 465558725996 (by decide) (cws 14 (by decide)).symm).mp e))]
  by_cases c15 : owi l = 15
  · rw [if_pos ((ce 15 6449524 (by decide) (cws 15 (by decide)).symm).mpr c15), decide_eq_true (by omega)]; rfl
  rw [if_neg (fun e => c15 ((ce 15 6449524 (by decide) (cws 15 (by decide)).symm).mp e))]
  by_cases c16 : owi l = 16
  · rw [if_pos ((ce 16 6383461 (by decide) (cws 16 (by decide)).symm).mpr c16), decide_eq_true (by omega)]; rfl
  rw [if_neg (fun e => c16 ((ce 16 6383461 (by decide) (cws 16 (by decide)).symm).mp e))]
  by_cases c17 : owi l = 17
  · rw [if_pos ((ce 17 500135716196 (by decide) (cws 17 (by decide)).symm).mpr c17), decide_eq_true (by omega)]; rfl
  rw [if_neg (fun e => c17 ((ce 17 500135716196 (by decide) (cws 17 (by decide)).symm).mp e))]
  by_cases c18 : owi l = 18
  · rw [if_pos ((ce 18 6775152 (by decide) (cws 18 (by decide)).symm).mpr c18), decide_eq_true (by omega)]; rfl
  rw [if_neg (fun e => c18 ((ce 18 6775152 (by decide) (cws 18 (by decide)).symm).mp e))]
  by_cases c19 : owi l = 19
  · rw [if_pos ((ce 19 24948 (by decide) (cws 19 (by decide)).symm).mpr c19), decide_eq_true (by omega)]; rfl
  rw [if_neg (fun e => c19 ((ce 19 24948 (by decide) (cws 19 (by decide)).symm).mp e))]
  by_cases c20 : owi l = 20
  · rw [if_pos ((ce 20 26982 (by decide) (cws 20 (by decide)).symm).mpr c20), decide_eq_true (by omega)]; rfl
  rw [if_neg (fun e => c20 ((ce 20 26982 (by decide) (cws 20 (by decide)).symm).mp e))]
  by_cases c21 : owi l = 21
  · rw [if_pos ((ce 21 28530 (by decide) (cws 21 (by decide)).symm).mpr c21), decide_eq_true (by omega)]; rfl
  rw [if_neg (fun e => c21 ((ce 21 28530 (by decide) (cws 21 (by decide)).symm).mp e))]
  by_cases c22 : owi l = 22
  · rw [if_pos ((ce 22 6385252 (by decide) (cws 22 (by decide)).symm).mpr c22), decide_eq_true (by omega)]; rfl
  rw [if_neg (fun e => c22 ((ce 22 6385252 (by decide) (cws 22 (by decide)).symm).mp e))]
  by_cases c23 : owi l = 23
  · rw [if_pos ((ce 23 7237492 (by decide) (cws 23 (by decide)).symm).mpr c23), decide_eq_true (by omega)]; rfl
  rw [if_neg (fun e => c23 ((ce 23 7237492 (by decide) (cws 23 (by decide)).symm).mp e))]
  by_cases c24 : owi l = 24
  · rw [if_pos ((ce 24 6384748 (by decide) (cws 24 (by decide)).symm).mpr c24), decide_eq_true (by omega)]; rfl
  rw [if_neg (fun e => c24 ((ce 24 6384748 (by decide) (cws 24 (by decide)).symm).mp e))]
  by_cases c25 : owi l = 25
  · rw [if_pos ((ce 25 7170414 (by decide) (cws 25 (by decide)).symm).mpr c25), decide_eq_true (by omega)]; rfl
  rw [if_neg (fun e => c25 ((ce 25 7170414 (by decide) (cws 25 (by decide)).symm).mp e))]
  by_cases c26 : owi l = 26
  · rw [if_pos ((ce 26 7168376 (by decide) (cws 26 (by decide)).symm).mpr c26), decide_eq_true (by omega)]; rfl
  rw [if_neg (fun e => c26 ((ce 26 7168376 (by decide) (cws 26 (by decide)).symm).mp e))]
  have := owi_le l
  rw [decide_eq_false (by omega)]; rfl
def DRm (M : Mem) (bi w n : Nat) : Option (Nat × Cds) → Prop
  | none => zI M 359 (2 * bi + w) = -1
  | some x => zI M 359 (2 * bi + w) = nI x.1 ∧ zI M 360 (2 * bi + w) = nI (x.1 + x.2.length) ∧ PRM M (1600 * bi + x.1) x.2 ∧ x.1 + x.2.length ≤ n
def ACm (M : Mem) (bi : Nat) (s : Acs) : Prop := (zI M 355 21 = nI (aN s)) ∧ DRm M bi 0 (aN s) (aD s) ∧ DRm M bi 1 (aN s) (aT s) ∧ (zI M 358 bi = nI (aM s).length ∧ (aM s).length ≤ 6 ∧ (∀ i l, (aM s)[i]? = some l → zL M 363 (6 * bi + i) = lN (pk8 l) ∧ NM l)) ∧ (∀ i, 0 ≤ i → i ≤ 8 → zI M 357 (10 * bi + i) = nI (aS s i))
theorem DRm.fr {W : Nat → Nat → Prop} {M M1 : Mem} {bi w n : Nat} (g : FR W M M1) (h1 : ¬ W 359 (2 * bi + w)) (h2 : ¬ W 360 (2 * bi + w)) (h3 : ∀ j, j < 1600 * bi + n → ¬ W 361 j ∧ ¬ W 362 j) : ∀ {q : Option (Nat × Cds)}, DRm M bi w n q → DRm M1 bi w n q
  | none, h => (g.I h1).trans h
  | some x, h => ⟨(g.I h1).trans h.1, (g.I h2).trans h.2.1, h.2.2.1.fj g (fun j _ j2 => h3 j (by have := h.2.2.2; omega)), h.2.2.2⟩
theorem DRm.mn {M : Mem} {bi w n n' : Nat} (hn : n ≤ n') : ∀ {q : Option (Nat × Cds)}, DRm M bi w n q → DRm M bi w n' q
  | none, h => h
  | some x, h => ⟨h.1, h.2.1, h.2.2.1, by have := h.2.2.2; omega⟩
def Wmt (bi x j : Nat) : Prop := (x = 355 ∧ ((3 ≤ j ∧ j ≤ 9) ∨ j = 12 ∨ j = 21 ∨ j = 23 ∨ (29 ≤ j ∧ j ≤ 33))) ∨ (x = 357 ∧ 10 * bi ≤ j ∧ j < 10 * bi + 10) ∨ (x = 358 ∧ j = bi) ∨ ((x = 359 ∨ x = 360) ∧ 2 * bi ≤ j ∧ j < 2 * bi + 2) ∨ ((x = 361 ∨ x = 362) ∧ 1600 * bi ≤ j ∧ j < 1600 * bi + 1600) ∨ (x = 363 ∧ 6 * bi ≤ j ∧ j < 6 * bi + 6) ∨ (364 ≤ x ∧ x ≤ 370)
section
variable {b : Nat → Nat} {z bi p : Nat} {M : Mem} {s : Acs}
def MSs (b : Nat → Nat) (z bi : Nat) (M : Mem) (p : Nat) (s : Acs) : Prop := MTk b z M p ∧ (zI M 355 22 = nI bi ∧ bi ≤ 1) ∧ ACm M bi s ∧ aN s ≤ p
def MFl (bi : Nat) (M M' : Mem) (e : Nat × Nat) : Prop := FR (Wmt bi) M M' ∧ zI M' 355 8 = nI e.1 ∧ zI M' 355 9 = nI e.2
theorem Wah_t {M1 : Mem} (f : FR Wah M M1) : FR (Wmt bi) M M1 := f.mo (fun x j q => by unfold Wah at q; unfold Wmt; omega)
theorem ACm.fr {W : Nat → Nat → Prop} {M1 : Mem} (h : ACm M bi s) (f : FR W M M1) (h1 : ¬ W 355 21) (h2 : ∀ x j, 357 ≤ x → x ≤ 363 → ¬ W x j) : ACm M1 bi s := ⟨(f.I h1).trans h.1, h.2.1.fr f (h2 _ _ (by omega) (by omega)) (h2 _ _ (by omega) (by omega)) (fun j _ => ⟨h2 _ _ (by omega) (by omega), h2 _ _ (by omega) (by omega)⟩), h.2.2.1.fr f (h2 _ _ (by omega) (by omega)) (h2 _ _ (by omega) (by omega)) (fun j _ => ⟨h2 _ _ (by omega) (by omega), h2 _ _ (by omega) (by omega)⟩), ⟨(f.I (h2 _ _ (by omega) (by omega))).trans h.2.2.2.1.1, h.2.2.2.1.2.1, fun i l e => ⟨(f.L (h2 _ _ (by omega) (by omega))).trans (h.2.2.2.1.2.2 i l e).1, (h.2.2.2.1.2.2 i l e).2⟩⟩, fun i i1 i2 => (f.I (h2 _ _ (by omega) (by omega))).trans (h.2.2.2.2 i i1 i2)⟩
theorem mfl_at {x y : Int32} {e : Nat × Nat} (hx : x = nI e.1) (hy : y = nI e.2) : MFl bi M (zsI (zsI M 355 8 x) 355 9 y) e := ⟨FR.sI (FR.sI (FR.rf _ M) (by unfold Wmt; omega)) (by unfold Wmt; omega), by rw [zI_sn _ _ (by omega), zI_se]; exact hx, by rw [zI_se]; exact hy⟩
theorem MFl.fr {M0 M' : Mem} {e : Nat × Nat} (f : FR (Wmt bi) M M0) (h : MFl bi M0 M' e) : MFl bi M M' e := ⟨f.tr h.1, h.2⟩
theorem MTk.ah (h : MTk b z M p) (hk : tK (tok b z p) ≤ 3) (h0 : ¬ tK (tok b z p) = 0) : ∃ M', f_X12_ahead 355 M = some M' ∧ FR Wah M M' ∧ MTk b z M' (nxp b z p) ∧ p < nxp b z p := by
  obtain ⟨n1, n2⟩ := h.ok.2.2.2.1 hk h0
  obtain ⟨M', a1, a2, a3⟩ := s_mahead h.1.1 (h.1.2.1.2.2.1 hk).2.2 n2
  exact ⟨M', a1, a2, ⟨⟨h.1.1.ah a2, a3, n2⟩, (a2.I (by unfold Wah; omega)).trans h.2⟩, n1⟩
theorem MSs.ah (h : MSs b z bi M p s) (hk : tK (tok b z p) ≤ 3) (h0 : ¬ tK (tok b z p) = 0) : ∃ M', f_X12_ahead 355 M = some M' ∧ FR (Wmt bi) M M' ∧ MSs b z bi M' (nxp b z p) s ∧ p < nxp b z p := by
  obtain ⟨M', a1, a2, a3, a4⟩ := h.1.ah hk h0
  exact ⟨M', a1, Wah_t a2, ⟨a3, ⟨(a2.I (by unfold Wah; omega)).trans h.2.1.1, h.2.1.2⟩, h.2.2.1.fr a2 (by unfold Wah; omega) (fun x j _ _ => by unfold Wah; omega), by have := h.2.2.2; omega⟩, a4⟩
/-- number, where nothing is at fault yet -/
theorem m_num (h : MTk b z M p) {l u : Nat} {x y : Int32} (hx : x = nI l) (hy : y = nI u) (hl : l < 10000) (hu : u < 10000) : (tK (tok b z p) = 2 → l ≤ tV (tok b z p) → tV (tok b z p) ≤ u → ∃ M', f_X12_number 355 x y M = some (nI (tV (tok b z p)), M') ∧ FR Wah M M' ∧ MTk b z M' (nxp b z p) ∧ p < nxp b z p) ∧ (tK (tok b z p) = 2 → ¬ (l ≤ tV (tok b z p) ∧ tV (tok b z p) ≤ u) → ∃ v M', f_X12_number 355 x y M = some (v, M') ∧ MFl bi M M' (4, tS (tok b z p))) ∧ (¬ tK (tok b z p) = 2 → ∃ v M', f_X12_number 355 x y M = some (v, M') ∧ MFl bi M M' (1, tBd (tok b z p))) := by
  have hok := h.ok
  have hz := h.1.1.2.1
  have isB : ∀ v, v < 10000 → f_X12_is (nI v) x y M = some (b01 (decide (l ≤ v ∧ v ≤ u)), M) := fun v hv => by
    unfold f_X12_is f_X12_is_14 f_X12_is_15
    rw [hx, hy]
    by_cases c1 : v < l
    · rw [if_pos (nI_lt c1 (by omega)), zbz0, decide_eq_false (by omega)]; rfl
    · rw [if_neg (nI_nlt (by omega) (by omega))]
      by_cases c2 : u < v
      · rw [if_pos (nI_lt c2 (by omega)), zbz0, decide_eq_false (by omega)]; rfl
      · rw [if_neg (nI_nlt (by omega) (by omega)), zbz1, decide_eq_true (by omega)]; rfl
  unfold f_X12_number f_X12_number_30 f_X12_number_58 f_X12_number_74
  refine ⟨fun k2 h1 h2 => ?_, fun k2 hn => ?_, fun k2 => ?_⟩
  · have hv := hok.2.2.2.2.2.1 k2
    obtain ⟨M', a1, a2, a3, a4⟩ := h.ah (by omega) (by omega)
    refine ⟨M', ?_, a2, a3, a4⟩
    rw [m_lex h.1.2.1 (by omega), b_i, h.2, if_pos (by decide), (h.1.2.1.2.2.1 (by omega)).2.1, k2, if_pos (show nI 2 = (2 : Int32) from rfl), if_pos rfl, h.1.2.1.2.2.2.2 (Or.inl k2), isB _ (by omega), b_i, decide_eq_true ⟨h1, h2⟩]
    dsimp only
    rw [if_neg b01_n0, h.2, if_pos rfl, a1, b_i, h.1.2.1.2.2.2.2 (Or.inl k2)]
  · have hv := hok.2.2.2.2.2.1 k2
    refine ⟨zI (zsI (zsI M 355 8 4) 355 9 (zI M 355 4)) 355 6, _, ?_, mfl_at (x := 4) (y := zI M 355 4) rfl h.1.2.1.1⟩
    rw [m_lex h.1.2.1 (by omega), b_i, h.2, if_pos (by decide), (h.1.2.1.2.2.1 (by omega)).2.1, k2, if_pos (show nI 2 = (2 : Int32) from rfl), if_pos rfl, h.1.2.1.2.2.2.2 (Or.inl k2), isB _ (by omega), b_i, decide_eq_false hn]
    dsimp only
    rw [if_pos b01_f, m_blame h.2, b_i, zI_sn _ _ (by omega), zI_se, if_neg (by decide)]
  · by_cases k4 : tK (tok b z p) = 4
    · have hv : tBd (tok b z p) = tV (tok b z p) := by unfold tBd; rw [if_pos k4]
      refine ⟨0, _, ?_, mfl_at (x := 1) (y := nI (tV (tok b z p))) rfl (by rw [hv])⟩
      rw [m_lex4 h.1.2.1 h.2 k4 (by have := hok.2.2.2.2.2.2.2; omega), b_i, zI_sn _ _ (by omega), zI_se, if_neg (by decide)]
    · refine ⟨zI (zsI (zsI M 355 8 1) 355 9 (zI M 355 4)) 355 6, _, ?_, mfl_at (x := 1) (y := zI M 355 4) rfl (by rw [h.1.2.1.1]; unfold tBd; rw [if_neg k4])⟩
      rw [m_lex h.1.2.1 (by have := hok.1; omega), b_i, h.2, if_pos (by decide), (h.1.2.1.2.2.1 (by have := hok.1; omega)).2.1, if_neg (show ¬ nI (tK (tok b z p)) = (2 : Int32) from fun e => k2 ((nI_eq (b := 2) (by have := hok.1; omega) (by decide)).mp e)), m_blame h.2, b_i, zI_sn _ _ (by omega), zI_se, if_neg (by decide), if_neg (by decide)]
/-- isCounted -/
theorem m_cnt {f : Bool} {x : Int32} (hx : x = b01 f) (h : MSs b z bi M p s) (hk : tK (tok b z p) ≤ 3) (h0 : ¬ tK (tok b z p) = 0) : (f = false → ∃ M', f_X12_isCounted 355 x M = some (1, M') ∧ FR (Wmt bi) M M' ∧ MSs b z bi M' (nxp b z p) s ∧ p < nxp b z p) ∧ (f = true → ∃ M', f_X12_isCounted 355 x M = some (0, M') ∧ MFl bi M M' (6, tS (tok b z p))) := by
  unfold f_X12_isCounted f_X12_isCounted_21 f_X12_isCounted_32 f_X12_isCounted_44
  rw [hx]
  refine ⟨fun e => ?_, fun e => ?_⟩
  · subst e
    obtain ⟨M', a1, a2, a3, a4⟩ := h.ah hk h0
    rw [h.1.2, if_pos rfl, if_pos b01_f, if_pos rfl, a1, b_i, a3.1.2, if_pos rfl, zbz1]
    exact ⟨M', rfl, a2, a3, a4⟩
  · subst e
    rw [h.1.2, if_pos rfl, if_neg b01_n0, m_blame h.1.2, b_i, zI_sn _ _ (by omega), zI_se, if_neg (by decide), if_neg (by decide), zbz0]
    exact ⟨_, rfl, mfl_at rfl h.1.1.2.1.1⟩
end
