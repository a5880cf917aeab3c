/-! chip: the model's statements (2) -/
section
variable {b : Nat → Nat} {z bi p : Nat} {M : Mem} {s : Acs}
def MR2 (b : Nat → Nat) (z bi : Nat) (M : Mem) (res : Option Mem) (q : SRs) : Prop := (∀ e, q = .inl e → ∃ M', res = some M' ∧ MFl bi M M' e) ∧ (∀ y, q = .inr y → (tK (tok b z y.1) = 4 ∧ ∃ M', res = some M' ∧ MFl bi M M' (1, tBd (tok b z y.1))) ∨ ∃ M', res = some M' ∧ FR (Wmt bi) M M' ∧ MSs b z bi M' y.1 y.2)
theorem MR2.l {res : Option Mem} {e : Nat × Nat} {M' : Mem} (h1 : res = some M') (h2 : MFl bi M M' e) : MR2 b z bi M res (.inl e) := ⟨fun e' q => (by cases q; exact ⟨M', h1, h2⟩), fun y q => (by cases q)⟩
theorem MR2.r {res : Option Mem} {y : Nat × Acs} {M' : Mem} (h1 : res = some M') (h2 : FR (Wmt bi) M M') (h3 : MSs b z bi M' y.1 y.2) : MR2 b z bi M res (.inr y) := ⟨fun e' q => (by cases q), fun y' q => (by cases q; exact Or.inr ⟨M', h1, h2, h3⟩)⟩
theorem m_named {l : List Nat} (hW : WRc M) (h22 : zI M 355 22 = nI bi) (hbi : bi ≤ 1) (hl : NM l) (h : ACm M bi s) : ∃ v, f_X12_pageNamed 355 (lN (pk8 l)) M = some (v, M) ∧ (l ∈ aM s → ¬ v = -1) ∧ (¬ l ∈ aM s → v = -1) := by
  obtain ⟨h9, h6, hN⟩ := h.2.2.2.1
  have z1 := (pk8_z hl).1
  have key : ∀ e i f, i + e = (aM s).length → (∀ j, j < i → ¬ (aM s)[j]? = some l) → ∃ v, f_X12_pageNamed_2 355 (lN (pk8 l)) (e + 1 + f) (nI i) M = some (v, M) ∧ (l ∈ aM s → ¬ v = -1) ∧ (¬ l ∈ aM s → v = -1) := by
    intro e
    induction e with
    | zero =>
      intro i f hi hj
      refine ⟨-1, ?_, fun m => ?_, fun _ => rfl⟩
      · rw [show 0 + 1 + f = f + 1 by omega, f_X12_pageNamed_2, w355_15 hW, b_i, h22, zl_at 2 rfl (by omega) (by decide), b_i, h9, if_pos (nI_le (by omega) (by omega))]
      · obtain ⟨j, hj1, hj2⟩ := List.getElem_of_mem m
        exact absurd (by rw [List.getElem?_eq_getElem hj1, hj2]) (hj j (by omega))
    | succ e ih =>
      intro i f hi hj
      have hi' : i < (aM s).length := by omega
      obtain ⟨n1, n2⟩ := hN i _ (List.getElem?_eq_getElem hi')
      have z2 := (pk8_z n2).1
      rw [show e + 1 + 1 + f = (e + 1 + f) + 1 by omega, f_X12_pageNamed_2, w355_15 hW, b_i, h22, zl_at 2 rfl (by omega) (by decide), b_i, h9, if_neg (nI_ge hi' (by omega)), w355_20 hW, b_i, show (6 : Int32) = nI 6 from rfl, pk_mul, nI_add, zl_at 12 rfl (by omega) (by decide), b_i, n1]
      by_cases c : (aM s)[i] = l
      · rw [if_pos ((lc_ee (by omega) (by omega)).mpr (by rw [c]))]
        exact ⟨nI i, rfl, fun _ => nI_nm (by omega), fun m => absurd (by rw [← c]; exact List.getElem_mem hi') m⟩
      · rw [if_neg (fun q => c (pk8_inj n2 hl ((lc_ee (by omega) (by omega)).mp q))), nI_1]
        refine ih (i + 1) f (by omega) (fun j hj2 => ?_)
        by_cases q : j = i
        · rw [q, List.getElem?_eq_getElem hi']; exact fun z => c (Option.some.inj z)
        · exact hj j (by omega)
  have := key (aM s).length 0 (1000000 - (aM s).length - 1) (by omega) (fun j hj => by omega)
  rw [show (aM s).length + 1 + (1000000 - (aM s).length - 1) = 1000000 by omega] at this
  exact this
theorem m_page (h : MSs b z bi M p s) (k1 : tK (tok b z p) = 1) : MR2 b z bi M (f_X12_pageIs 355 M) (pgA b z p s) := by
  obtain ⟨h9, h6, hN⟩ := h.2.2.1.2.2.2.1
  have hW := h.1.1.1.1
  have hbi := h.2.1.2
  have hz := h.1.1.1.2.1
  unfold f_X12_pageIs pgA
  rw [w355_15 hW, b_i, h.2.1.1, zl_at 2 rfl (by omega) (by decide), b_i, h9]
  by_cases c6 : 6 ≤ (aM s).length
  · obtain ⟨M', a1, a2⟩ := (m_cnt (f := true) (x := 1) rfl h (by omega) (by omega)).2 rfl
    rw [if_pos c6, if_pos (show nI (aM s).length = (6 : Int32) by rw [show (aM s).length = 6 by omega]; rfl)]
    unfold f_X12_pageIs_20
    rw [a1, b_i]
    exact MR2.l (if_pos rfl) a2
  rw [if_neg c6, if_neg (show ¬ nI (aM s).length = (6 : Int32) from fun e => by have := (nI_eq (b := 6) (by omega) (by decide)).mp e; omega)]
  obtain ⟨M1, a1, a2, a3, a4⟩ := (m_cnt (f := false) (x := 0) rfl h (by omega) (by omega)).1 rfl
  have hok := a3.1.ok
  unfold f_X12_pageIs_20 f_X12_pageIs_58
  rw [a1, b_i]
  dsimp only
  rw [if_neg n10]
  have bad : ∀ N, N = zsI (zsI M1 355 8 1) 355 9 (zI M1 355 4) → ¬ tK (tok b z (nxp b z p)) = 4 → MR2 b z bi M (f_X12_pageIs_67 355 N) (.inl (1, tBd (tok b z (nxp b z p)))) := fun N hN k4 => by
    have n8 : zI N 355 8 = 1 := by rw [hN, zI_sn _ _ (by omega), zI_se]
    have fl : MFl bi M N (1, tBd (tok b z (nxp b z p))) := by rw [hN]; exact MFl.fr (e := (1, tBd (tok b z (nxp b z p)))) a2 (mfl_at (e := (1, tBd (tok b z (nxp b z p)))) (y := zI M1 355 4) rfl (by rw [a3.1.1.2.1.1]; unfold tBd; rw [if_neg k4]))
    refine MR2.l (M' := N) ?_ fl
    unfold f_X12_pageIs_67 f_X12_pageIs_95
    rw [n8, if_neg (by decide), if_neg (by decide)]
  by_cases k4 : tK (tok b z (nxp b z p)) = 4
  · have hv : tBd (tok b z (nxp b z p)) = tV (tok b z (nxp b z p)) := by unfold tBd; rw [if_pos k4]
    rw [if_neg (by omega), m_lex4 a3.1.1.2.1 a3.1.2 k4 (by have := hok.2.2.2.2.2.2.2; omega), b_i, zI_sn _ _ (by omega), zI_se, if_neg (by decide)]
    exact MR2.l rfl (MFl.fr (e := (1, tBd (tok b z (nxp b z p)))) a2 (mfl_at (e := (1, tBd (tok b z (nxp b z p)))) (y := nI (tV (tok b z (nxp b z p)))) rfl (by rw [hv])))
  have hk3 : tK (tok b z (nxp b z p)) ≤ 3 := by have := hok.1; omega
  rw [m_lex a3.1.1.2.1 hk3, b_i, a3.1.2, if_pos (show (0 : Int32) ≤ 0 by decide), (a3.1.1.2.1.2.2.1 hk3).2.1]
  by_cases k1' : tK (tok b z (nxp b z p)) = 1
  · have hl := hok.2.2.2.2.1 k1'
    have h7 := (a3.1.1.2.1.2.2.2.1 k1').2
    rw [k1', if_pos (show nI 1 = (1 : Int32) from rfl), h7, m_isOwn hl, b_i]
    dsimp only
    by_cases o27 : owi (tL (tok b z (nxp b z p))) = 27
    · rw [decide_eq_false (by omega), if_pos b01_f, if_pos (show (1 = 1 ∧ owi (tL (tok b z (nxp b z p))) = 27) from ⟨rfl, o27⟩)]
      obtain ⟨v, v1, v2, v3⟩ := m_named a3.1.1.1.1 a3.2.1.1 hbi hl a3.2.2.1
      unfold f_X12_pageIs_67
      rw [a3.1.2, if_pos rfl, h7, v1, b_i]
      dsimp only
      by_cases m : tL (tok b z (nxp b z p)) ∈ aM s
      · rw [if_pos m, if_neg (v2 m), m_blame a3.1.2, b_i]
        refine MR2.l (M' := zsI (zsI M1 355 8 2) 355 9 (zI M1 355 4)) ?_ (MFl.fr (e := (2, tS (tok b z (nxp b z p)))) a2 (mfl_at (e := (2, tS (tok b z (nxp b z p)))) (y := zI M1 355 4) rfl a3.1.1.2.1.1))
        unfold f_X12_pageIs_95
        rw [zI_sn _ _ (by omega), zI_se, if_neg (by decide)]
      · rw [if_neg m, if_pos (v3 m)]
        obtain ⟨A1, A2, A3, ⟨A4, A5, A6⟩, A7⟩ := a3.2.2.1
        have w1 : FR (fun x j => x = 363 ∧ j = 6 * bi + (aM s).length) M1 (zsL M1 363 (6 * bi + (aM s).length) (lN (pk8 (tL (tok b z (nxp b z p)))))) := (FR.rf (fun x j => x = 363 ∧ j = 6 * bi + (aM s).length) M1).sL ⟨rfl, rfl⟩
        have eL : zL (zsL M1 363 (6 * bi + (aM s).length) (lN (pk8 (tL (tok b z (nxp b z p)))))) 363 (6 * bi + (aM s).length) = lN (pk8 (tL (tok b z (nxp b z p)))) := zL_se _ _ _ _
        revert w1 eL
        generalize hM2 : zsL M1 363 (6 * bi + (aM s).length) (lN (pk8 (tL (tok b z (nxp b z p))))) = M2
        intro w1 eL
        have t2 : MTk b z M2 (nxp b z p) := a3.1.fr w1 (fun j _ => by omega) (fun j => by omega)
        obtain ⟨M3, b1, b2, b3, b4⟩ := t2.ah hk3 (by omega)
        have h22' : zI M3 355 22 = nI bi := (b2.I (by unfold Wah; omega)).trans ((w1.I (by omega)).trans a3.2.1.1)
        have h358 : zI M3 358 bi = nI (aM s).length := (b2.I (by unfold Wah; omega)).trans ((w1.I (by omega)).trans A4)
        have w4 : FR (fun x j => x = 358 ∧ j = bi) M3 (zsI M3 358 bi (nI ((aM s).length + 1))) := (FR.rf (fun x j => x = 358 ∧ j = bi) M3).sI ⟨rfl, rfl⟩
        refine MR2.r (M' := zsI M3 358 bi (nI ((aM s).length + 1))) ?_ (a2.tr ((w1.mo (fun x j q => by unfold Wmt; omega)).tr ((Wah_t b2).tr (w4.mo (fun x j q => by unfold Wmt; omega))))) ⟨b3.fr w4 (fun j _ => by omega) (fun j => by omega), ⟨(w4.I (by omega)).trans h22', hbi⟩, ⟨?_, ?_, ?_, ⟨?_, ?_, fun i l e => ?_⟩, fun i i1 i2 => ?_⟩, by show aN s ≤ nxp b z (nxp b z p); have := h.2.2.2; omega⟩
        · unfold f_X12_pageIs_95
          rw [a3.1.2, if_pos (show (0 : Int32) ≤ 0 by decide), w355_20 a3.1.1.1.1, b_i, w355_15 a3.1.1.1.1, b_i, a3.2.1.1, zl_at 2 rfl (by omega) (by decide), b_i, A4, show (6 : Int32) = nI 6 from rfl, pk_mul, nI_add, zl_at 12 rfl (by omega) (by decide), b_i, h7, b_i, hM2, b1, b_i, w355_15 (b2.W (w1.W a3.1.1.1.1)), b_i, h22', zl_at 2 rfl (by omega) (by decide), b_i, b_i, h358, nI_1, b_i]
        · exact (w4.I (by omega)).trans ((b2.I (by unfold Wah; omega)).trans ((w1.I (by omega)).trans A1))
        · exact ((A2.fr w1 (by omega) (by omega) (fun j _ => by omega)).fr b2 (by unfold Wah; omega) (by unfold Wah; omega) (fun j _ => by unfold Wah; omega)).fr w4 (by omega) (by omega) (fun j _ => by omega)
        · exact ((A3.fr w1 (by omega) (by omega) (fun j _ => by omega)).fr b2 (by unfold Wah; omega) (by unfold Wah; omega) (fun j _ => by unfold Wah; omega)).fr w4 (by omega) (by omega) (fun j _ => by omega)
        · show zI (zsI M3 358 bi (nI ((aM s).length + 1))) 358 bi = nI (aM s ++ [tL (tok b z (nxp b z p))]).length
          rw [zI_se, List.length_append]; rfl
        · show (aM s ++ [tL (tok b z (nxp b z p))]).length ≤ 6
          rw [List.length_append]; show (aM s).length + 1 ≤ 6; omega
        · have e : (aM s ++ [tL (tok b z (nxp b z p))])[i]? = some l := e
          by_cases c : i < (aM s).length
          · rw [List.getElem?_append_left c] at e
            rw [w4.L (by omega), b2.L (by unfold Wah; omega), w1.L (by omega)]; exact A6 i l e
          · rw [List.getElem?_append_right (by omega)] at e
            have i0 : i = (aM s).length := by
              by_cases q : i - (aM s).length = 0
              · omega
              · rw [List.getElem?_eq_none (by rw [List.length_cons, List.length_nil]; omega)] at e; cases e
            rw [i0, Nat.sub_self] at e
            have e : tL (tok b z (nxp b z p)) = l := Option.some.inj e
            rw [i0, w4.L (by omega), b2.L (by unfold Wah; omega), eL, e]; exact ⟨rfl, e ▸ hl⟩
        · exact (w4.I (by omega)).trans ((b2.I (by unfold Wah; omega)).trans ((w1.I (by omega)).trans (A7 i i1 i2)))
    · have := owi_le (tL (tok b z (nxp b z p)))
      rw [decide_eq_true (by omega), if_neg b01_n0, if_neg (show ¬ (1 = 1 ∧ owi (tL (tok b z (nxp b z p))) = 27) from fun q => o27 q.2), m_blame a3.1.2, b_i]
      exact bad _ rfl k4
  · rw [if_neg (show ¬ nI (tK (tok b z (nxp b z p))) = (1 : Int32) from fun e => k1' ((nI_eq (b := 1) (by omega) (by decide)).mp e)), if_neg (fun q => k1' q.1), m_blame a3.1.2, b_i]
    exact bad _ rfl k4
theorem m_telling {l u i : Nat} {x y v : Int32} (h : MSs b z bi M p s) (hk : tK (tok b z p) = 1) (hx : x = nI l) (hy : y = nI u) (hl : l < 10000) (hu : u < 10000) (hi : 4 ≤ i ∧ i ≤ 8) (hv : v = nI i) : MR2 b z bi M (f_X12_telling 355 v x y M) (match numA b z (nxp b z p) l u with
  | .inl e => .inl e
  | .inr v => .inr (v.1, (aN s, aD s, aT s, aM s, fun j => if j = i then v.2 else aS s j))) := by
  have hbi := h.2.1.2
  obtain ⟨M1, a1, a2, a3, a4⟩ := (m_cnt (f := false) (x := 0) rfl h (by omega) (by omega)).1 rfl
  obtain ⟨n1, n2, n3⟩ := m_num (bi := bi) a3.1 hx hy hl hu
  unfold f_X12_telling f_X12_telling_31
  rw [a1, b_i]
  dsimp only
  rw [if_neg n10]
  have bad : ∀ e, 0 < e.1 ∧ e.1 < 10 → (∃ v M', f_X12_number 355 x y M1 = some (v, M') ∧ MFl bi M1 M' e) → MR2 b z bi M (Option.bind (f_X12_number 355 x y M1) fun z2 => (if zI z2.2 355 8 = 0 then Option.bind (f_X12_tellsAt 355 v z2.1 z2.2) fun M3 => some M3 else some z2.2)) (.inl e) := fun e he ⟨v, M', c1, c2⟩ => by
    rw [c1, b_i]
    dsimp only
    rw [if_neg (by rw [c2.2.1]; exact nI_ne0 he.1 (by omega))]
    exact MR2.l rfl (c2.fr a2)
  unfold numA
  by_cases k2 : tK (tok b z (nxp b z p)) = 2
  · rw [if_pos k2]
    by_cases c : l ≤ tV (tok b z (nxp b z p)) ∧ tV (tok b z (nxp b z p)) ≤ u
    · rw [if_pos c]
      obtain ⟨M2, b1, b2, b3, b4⟩ := n1 k2 c.1 c.2
      have h22 : zI M2 355 22 = nI bi := (b2.I (by unfold Wah; omega)).trans a3.2.1.1
      have A := a3.2.2.1.fr b2 (by unfold Wah; omega) (fun x j _ _ => by unfold Wah; omega)
      have w : FR (fun x j => x = 357 ∧ j = 10 * bi + i) M2 (zsI M2 357 (10 * bi + i) (nI (tV (tok b z (nxp b z p))))) := (FR.rf (fun x j => x = 357 ∧ j = 10 * bi + i) M2).sI ⟨rfl, rfl⟩
      rw [b1, b_i]
      dsimp only
      rw [b3.2, if_pos rfl]
      unfold f_X12_tellsAt
      rw [w355_14 b3.1.1.1, b_i, h22, hv, show (10 : Int32) = nI 10 from rfl, pk_mul, nI_add, zl_at 20 rfl (by omega) (by decide), b_i, b_i, b_i]
      refine MR2.r rfl (a2.tr ((Wah_t b2).tr (w.mo (fun x j q => by unfold Wmt; omega)))) ⟨b3.fr w (fun j _ => by omega) (fun j => by omega), ⟨(w.I (by omega)).trans h22, hbi⟩, ⟨(w.I (by omega)).trans A.1, A.2.1.fr w (by omega) (by omega) (fun j _ => by omega), A.2.2.1.fr w (by omega) (by omega) (fun j _ => by omega), ⟨(w.I (by omega)).trans A.2.2.2.1.1, A.2.2.2.1.2.1, fun i l e => ⟨(w.L (by omega)).trans (A.2.2.2.1.2.2 i l e).1, (A.2.2.2.1.2.2 i l e).2⟩⟩, fun j j1 j2 => ?_⟩, by show aN s ≤ nxp b z (nxp b z p); have := h.2.2.2; omega⟩
      show zI (zsI M2 357 (10 * bi + i) (nI (tV (tok b z (nxp b z p))))) 357 (10 * bi + j) = nI (if j = i then tV (tok b z (nxp b z p)) else aS s j)
      by_cases q : j = i
      · rw [if_pos q, q, zI_se]
      · rw [if_neg q, zI_sn _ _ (by omega)]; exact A.2.2.2.2 j j1 j2
    · rw [if_neg c]; exact bad _ (show 0 < 4 ∧ 4 < 10 by decide) (n2 k2 c)
  · rw [if_neg k2]; exact bad _ (show 0 < 1 ∧ 1 < 10 by decide) (n3 k2)
end
