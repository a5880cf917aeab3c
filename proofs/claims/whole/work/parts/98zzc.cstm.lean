/-! chip: the class's statements (2) -/
abbrev SRs := (Nat × Nat) ⊕ (Nat × Acs)
def numA (b : Nat → Nat) (z p l u : Nat) : (Nat × Nat) ⊕ (Nat × Nat) := if tK (tok b z p) = 2 then (if l ≤ tV (tok b z p) ∧ tV (tok b z p) ≤ u then .inr (nxp b z p, tV (tok b z p)) else .inl (4, tS (tok b z p))) else .inl (1, tBd (tok b z p))
def lwA (i : Nat) : Nat := if i = 5 then 51 else if i = 6 then 0 else if i = 7 then 1 else if i = 8 then 1 else 0
def upA (i : Nat) : Nat := if i = 5 then 99 else if i = 6 then 49 else if i = 7 then 99 else if i = 8 then 20 else 100
def pgA (b : Nat → Nat) (z p : Nat) (s : Acs) : SRs := if 6 ≤ (aM s).length then .inl (6, tS (tok b z p)) else if tK (tok b z (nxp b z p)) = 1 ∧ owi (tL (tok b z (nxp b z p))) = 27 then (if tL (tok b z (nxp b z p)) ∈ aM s then .inl (2, tS (tok b z (nxp b z p))) else .inr (nxp b z (nxp b z p), (aN s, aD s, aT s, aM s ++ [tL (tok b z (nxp b z p))], aS s))) else .inl (1, tBd (tok b z (nxp b z p)))
def drA (b : Nat → Nat) (z p : Nat) (s : Acs) : SRs := if (aD s).isSome = true then .inl (6, tS (tok b z p)) else match rd b z true 120 0 0 (nxp b z p) [] with
  | .inl e => .inl e
  | .inr y => .inr (y.1, (aN s + y.2.length, some (aN s, y.2), aT s, aM s, aS s))
def trA (b : Nat → Nat) (z p : Nat) (s : Acs) : SRs := if (aT s).isSome = true then .inl (6, tS (tok b z p)) else match rd b z false 120 5 0 (nxp b z p) [] with
  | .inl e => .inl e
  | .inr y => .inr (y.1, (aN s + y.2.length, aD s, some (aN s, y.2), aM s, aS s))
def seA (b : Nat → Nat) (z p : Nat) (s : Acs) : SRs := match numA b z (nxp b z p) (lwA (owi (tL (tok b z p)))) (upA (owi (tL (tok b z p)))) with
  | .inl e => .inl e
  | .inr y => .inr (y.1, (aN s, aD s, aT s, aM s, fun i => if i = owi (tL (tok b z p)) - 1 then y.2 else aS s i))
def stA (b : Nat → Nat) (z p : Nat) (s : Acs) : SRs := if tK (tok b z p) = 1 then (if owi (tL (tok b z p)) = 4 then pgA b z p s else if owi (tL (tok b z p)) = 10 then drA b z p s else if owi (tL (tok b z p)) = 11 then trA b z p s else if 5 ≤ owi (tL (tok b z p)) ∧ owi (tL (tok b z p)) ≤ 9 then seA b z p s else .inl (1, tBd (tok b z p))) else .inl (1, tBd (tok b z p))
def Wsm2 (c0 x j : Nat) : Prop := (x = 353 ∧ 4 ≤ j ∧ j ≤ 12) ∨ (x = c0 ∧ ¬ j = 8) ∨ x = c0 + 7 ∨ x = c0 + 8
def CR2 (b : Nat → Nat) (z c0 : Nat) (M : Mem) (res : Option (Int32 × Mem)) (q : SRs) : Prop := (∀ e, q = .inl e → ∃ M', res = some (0, M') ∧ FR (Wsm2 c0) M M' ∧ zI M' 353 4 = nI e.1 ∧ zI M' 353 5 = nI e.2) ∧ (∀ y, q = .inr y → ∃ M', res = some (1, M') ∧ FR (Wsm2 c0) M M' ∧ CSt b z c0 M' y.1 ∧ ACc M' c0 y.2 ∧ aN y.2 ≤ y.1)
section
variable {b : Nat → Nat} {z c0 p : Nat} {M : Mem} {s : Acs}
theorem CR2.l {res : Option (Int32 × Mem)} {e : Nat × Nat} {M' : Mem} (h1 : res = some (0, M')) (h2 : CFl M M' e) : CR2 b z c0 M res (.inl e) := ⟨fun e' q => by (cases q; exact ⟨M', h1, h2.1.mo (fun x j q => by unfold W3 at q; unfold Wsm2; omega), h2.2⟩), fun y q => (by cases q)⟩
theorem CR2.zb {res : Option (Int32 × Mem)} {q : SRs} (h : CR2 b z c0 M res q) : CR2 b z c0 M (Option.bind res fun z => zbz z.1 (some (z.1, z.2))) q := ⟨fun e he => by
    obtain ⟨M', h1, h2⟩ := h.1 e he
    exact ⟨M', by rw [h1, b_i]; exact zbz0 _, h2⟩, fun y hy => by
    obtain ⟨M', h1, h2⟩ := h.2 y hy
    exact ⟨M', by rw [h1, b_i]; exact zbz1 _, h2⟩⟩
theorem zK7 (h : zCh2 c0) : (zSH (c0 + 7)).2 = 6 := by rcases h with rfl | rfl <;> rfl
theorem s_hasName {l : List Nat} (hW : WRc M) (hz : zCh2 c0) (hl : NM l) (h : ACc M c0 s) : f_X0_hasName c0 (nI (pk5 l)) M = some (b01 (decide (l ∈ aM s)), M) := by
  obtain ⟨h9, h6, hN⟩ := h.2.2.2.1
  have hp := (pk5_at hl (k := 0) (by decide)).2
  have key : ∀ e i f, i + e = (aM s).length → (∀ j, j < i → ¬ (aM s)[j]? = some l) → f_X0_hasName_2 c0 (nI (pk5 l)) (e + 1 + f) (nI i) M = some (b01 (decide (l ∈ aM s)), M) := by
    intro e
    induction e with
    | zero =>
      intro i f hi hj
      rw [show 0 + 1 + f = f + 1 by omega, f_X0_hasName_2, h9, if_pos (nI_le (by omega) (by omega))]
      rw [decide_eq_false (fun m => by
        obtain ⟨j, hj1, hj2⟩ := List.getElem_of_mem m
        exact hj j (by omega) (by rw [List.getElem?_eq_getElem hj1, hj2]))]
      rfl
    | succ e ih =>
      intro i f hi hj
      have hi' : i < (aM s).length := by omega
      obtain ⟨n1, n2⟩ := hN i _ (List.getElem?_eq_getElem hi')
      have hq := (pk5_at n2 (k := 0) (by decide)).2
      rw [show e + 1 + 1 + f = (e + 1 + f) + 1 by omega, f_X0_hasName_2, h9, if_neg (nI_ge hi' (by omega)), wC_1 hW hz, b_i, zl_at 6 (zK7 hz) (by omega) (by decide), b_i, n1]
      by_cases c : (aM s)[i] = l
      · rw [if_pos (by rw [c]), decide_eq_true (by rw [← c]; exact List.getElem_mem hi')]; rfl
      · rw [if_neg (fun q => c (pk5_inj n2 hl ((nI_eq (by omega) (by omega)).mp q))), nI_1]
        refine ih (i + 1) f (by omega) (fun j hj2 => ?_)
        by_cases q : j = i
        · rw [q, List.getElem?_eq_getElem hi']; exact fun z => c (Option.some.inj z)
        · exact hj j (by omega)
  have := key (aM s).length 0 (1000000 - (aM s).length - 1) (by omega) (fun j hj => by omega)
  rw [show (aM s).length + 1 + (1000000 - (aM s).length - 1) = 1000000 by omega] at this
  exact this
theorem c_page (h : CSt b z c0 M p) (hA : ACc M c0 s) (hn : aN s ≤ p) (k1 : tK (tok b z p) = 1) : CR2 b z c0 M (f_X6_readPage 353 M) (pgA b z p s) := by
  have hz : c0 = 335 ∨ c0 = 344 := h.2.2.2
  obtain ⟨h9, h6, hN⟩ := hA.2.2.2.1
  unfold f_X6_readPage f_X6_readPage_44 pgA
  rw [h.2.2.1, b_i, h9]
  by_cases c6 : 6 ≤ (aM s).length
  · obtain ⟨M', a1, a2⟩ := CSt.failk (M := M) (x := 6) (k := 6) rfl h.2.1.1.1
    rw [if_pos c6, if_neg (show ¬ nI (aM s).length < (6 : Int32) from nI_nlt (b := 6) c6 (by omega)), a1, b_i]
    exact CR2.l (zbz0 _) a2
  rw [if_neg c6, if_pos (show nI (aM s).length < (6 : Int32) from nI_lt (b := 6) (by omega) (by decide))]
  obtain ⟨M1, a1, a2, a3, a4⟩ := h.look (by omega) (by omega)
  rw [a1, b_i]
  have hA1 := hA.lo h.2.2.2 (Wlk3 a2)
  obtain ⟨Mf, f1, f2⟩ := a3.fail
  by_cases k1' : tK (tok b z (nxp b z p)) = 1
  · have hl := (tok_ok a3.by8 a3.2.1.2).2.2.2.2.1 k1'
    obtain ⟨t10, t11⟩ := a3.2.1.1.2.2.2.2.1 k1'
    rw [if_pos (a3.kd.1.mpr k1'), t11]
    by_cases o27 : owi (tL (tok b z (nxp b z p))) = 27
    · rw [if_pos (show tK (tok b z (nxp b z p)) = 1 ∧ owi (tL (tok b z (nxp b z p))) = 27 from ⟨k1', o27⟩), if_pos (show owv (tL (tok b z (nxp b z p))) = -1 by unfold owv; rw [if_neg (by omega)]), a3.2.2.1, b_i, t10, s_hasName a3.1.1 h.2.2.2 hl hA1, b_i]
      dsimp only
      by_cases m : tL (tok b z (nxp b z p)) ∈ aM s
      · obtain ⟨M', g1, g2⟩ := CSt.failk (M := M1) (x := 2) (k := 2) rfl a3.2.1.1.1
        rw [if_pos m, decide_eq_true m, if_neg b01_n0, g1, b_i]
        exact CR2.l (zbz0 _) (g2.fr a2)
      · rw [if_neg m, decide_eq_false m, if_pos b01_f, a3.2.2.1, b_i, wC_1 a3.1.1 h.2.2.2, b_i, b_i, hA1.2.2.2.1.1, zl_at 6 (zK7 h.2.2.2) (by omega) (by decide), b_i, t10, b_i]
        have w1 : FR (fun x j => x = c0 + 7 ∨ (x = c0 ∧ j = 9)) M1 (zsI M1 (c0 + 7) (aM s).length (nI (pk5 (tL (tok b z (nxp b z p)))))) := (FR.rf (fun x j => x = c0 + 7 ∨ (x = c0 ∧ j = 9)) M1).sI (Or.inl rfl)
        rw [show zrf (zsI M1 (c0 + 7) (aM s).length (nI (pk5 (tL (tok b z (nxp b z p)))))) 353 2 = some c0 from a3.2.2.1, b_i, zI_sn _ _ (by omega), hA1.2.2.2.1.1, nI_1, b_i]
        have w2 : FR (fun x j => x = c0 + 7 ∨ (x = c0 ∧ j = 9)) M1 (zsI (zsI M1 (c0 + 7) (aM s).length (nI (pk5 (tL (tok b z (nxp b z p)))))) c0 9 (nI ((aM s).length + 1))) := w1.sI (Or.inr ⟨rfl, rfl⟩)
        have e9 : zI (zsI (zsI M1 (c0 + 7) (aM s).length (nI (pk5 (tL (tok b z (nxp b z p)))))) c0 9 (nI ((aM s).length + 1))) c0 9 = nI ((aM s).length + 1) := zI_se _ _ _ _
        have e7 : zI (zsI (zsI M1 (c0 + 7) (aM s).length (nI (pk5 (tL (tok b z (nxp b z p)))))) c0 9 (nI ((aM s).length + 1))) (c0 + 7) (aM s).length = nI (pk5 (tL (tok b z (nxp b z p)))) := by rw [zI_sn _ _ (by omega), zI_se]
        have e7' : ∀ j, ¬ j = (aM s).length → zI (zsI (zsI M1 (c0 + 7) (aM s).length (nI (pk5 (tL (tok b z (nxp b z p)))))) c0 9 (nI ((aM s).length + 1))) (c0 + 7) j = zI M1 (c0 + 7) j := fun j q => by rw [zI_sn _ _ (by omega), zI_sn _ _ (by omega)]
        revert w2 e9 e7 e7'
        generalize zsI (zsI M1 (c0 + 7) (aM s).length (nI (pk5 (tL (tok b z (nxp b z p)))))) c0 9 (nI ((aM s).length + 1)) = M2
        intro w2 e9 e7 e7'
        have s2 : CSt b z c0 M2 (nxp b z p) := a3.fr w2 (fun j _ => by omega) (fun j => by omega) (fun j => by omega)
        obtain ⟨M3, b1, b2, b3, b4⟩ := s2.look (by omega) (by omega)
        rw [b1, b_i]
        refine ⟨fun e q => (by cases q), fun y q => ?_⟩
        cases q
        refine ⟨M3, rfl, ((Wlk3 a2).mo (fun x j q => by unfold W3 at q; unfold Wsm2; omega)).tr ((w2.mo (fun x j q => by unfold Wsm2; omega)).tr ((Wlk3 b2).mo (fun x j q => by unfold W3 at q; unfold Wsm2; omega))), b3, ?_, by show aN s ≤ _; omega⟩
        have hA2 : ACc M2 c0 (aN s, aD s, aT s, aM s ++ [tL (tok b z (nxp b z p))], aS s) := by
          refine ⟨(w2.I (by omega)).trans hA1.1, hA1.2.1.fr w2 (by omega) (by omega) (fun j _ => by omega), hA1.2.2.1.fr w2 (by omega) (by omega) (fun j _ => by omega), ⟨by show zI M2 c0 9 = nI (aM s ++ [tL (tok b z (nxp b z p))]).length; rw [e9, List.length_append]; rfl, by show (aM s ++ [tL (tok b z (nxp b z p))]).length ≤ 6; rw [List.length_append]; show (aM s).length + 1 ≤ 6; omega, fun i l e => ?_⟩, fun i i1 i2 => (w2.I (by omega)).trans (hA1.2.2.2.2 i i1 i2)⟩
          have e : (aM s ++ [tL (tok b z (nxp b z p))])[i]? = some l := e
          by_cases c : i < (aM s).length
          · rw [List.getElem?_append_left c] at e
            rw [e7' i (by omega)]; exact hA1.2.2.2.1.2.2 i l e
          · rw [List.getElem?_append_right (by omega)] at e
            have i0 : i = (aM s).length := by
              by_cases q : i - (aM s).length = 0
              · omega
              · rw [List.getElem?_eq_none (by rw [List.length_cons, List.length_nil]; omega)] at e; cases e
            rw [i0, Nat.sub_self] at e
            have e : tL (tok b z (nxp b z p)) = l := Option.some.inj e
            rw [i0, e7, e]; exact ⟨rfl, e ▸ hl⟩
        exact hA2.lo h.2.2.2 (Wlk3 b2)
    · rw [if_neg (show ¬ (tK (tok b z (nxp b z p)) = 1 ∧ owi (tL (tok b z (nxp b z p))) = 27) from fun q => o27 q.2), if_neg (show ¬ owv (tL (tok b z (nxp b z p))) = -1 by have := owi_le (tL (tok b z (nxp b z p))); unfold owv; rw [if_pos (by omega)]; exact nI_nm (by omega)), f1, b_i]
      exact CR2.l (zbz0 _) (f2.fr a2)
  · rw [if_neg (show ¬ (tK (tok b z (nxp b z p)) = 1 ∧ owi (tL (tok b z (nxp b z p))) = 27) from fun q => k1' q.1), if_neg (fun q => k1' (a3.kd.1.mp q)), f1, b_i]
    exact CR2.l (zbz0 _) (f2.fr a2)
end
