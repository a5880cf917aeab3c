/-! chip: a text that is taken: what both hold then -/
section
variable {b : Nat → Nat} {z c0 bi : Nat} {M : Mem} {y : (Nat × Nat × Nat × Nat) × Nat × Acs}
theorem DRc.cp {f t n : Nat} (hn : n ≤ 1600) : ∀ {q : Option (Nat × Cds)}, DRc M c0 f t n q → CPR M c0 f t (q.map (fun x => x.2))
  | none, h => ⟨0, 0, h.1, h.2, Nat.le_refl _, Nat.zero_le _⟩
  | some x, h => ⟨x.1, x.1 + x.2.length, h.1, h.2.1, rfl, by have := h.2.2.2.2; omega, h.2.2.2.1, h.2.2.1⟩
theorem DRm.mp {w n : Nat} (hn : n ≤ 1600) : ∀ {q : Option (Nat × Cds)}, DRm M bi w n q → MPR M bi w (q.map (fun x => x.2))
  | none, h => h
  | some x, h => ⟨x.1, x.1 + x.2.length, h.1, h.2.1, rfl, by have := h.2.2.2; omega, h.2.2.1⟩
theorem gD_at {l : List (List Nat)} {i : Nat} (h : i < l.length) : l[i]? = some (l.getD i []) := by
  rw [List.getD_eq_getElem?_getD, List.getElem?_eq_getElem h]; rfl
theorem c_CC (hz : zCh2 c0) (f : CFd M c0 y.1) (a : ACc M c0 y.2.2) (v : CV (chH y)) (hn : aN y.2.2 ≤ 1600) : CC M c0 (chH y) ∧ KC M c0 (chH y) := by
  have hz' : c0 = 335 ∨ c0 = 344 := hz
  obtain ⟨f1, f2, f3, f4, f5, f6, f7, f8, f9⟩ := f
  obtain ⟨a1, a2, a3, a4, a5⟩ := a
  refine ⟨⟨hz, ⟨by omega, f1, f4, f6.1, v.2.2.1.2.2, v.2.1.2⟩, f5, f6.2, f7, a4.1, ⟨a5 4 (by omega) (by omega), a5 5 (by omega) (by omega), a5 6 (by omega) (by omega), a5 7 (by omega) (by omega), a5 8 (by omega) (by omega)⟩, a2.cp hn, a3.cp hn, fun i hi => (a4.2.2 i _ (gD_at hi)).1, f2⟩, Or.inl f8, fun k _ k4 => Or.inl (f9 k k4)⟩
def Wbg (x j : Nat) : Prop := (x = 381 ∧ j = 0) ∨ (x = 382 ∧ j < 6) ∨ (x = 386 ∧ j = 0) ∨ (x = 355 ∧ (j = 63 ∨ j = 69))
theorem m_bg9 : ∀ d i f M, WRc M → i + d = 6 → (∀ k, k < i → zI M 382 k = 0) → ∃ M', f_X12_begin_9 355 (d + 1 + f) (nI i) M = some M' ∧ FR Wbg M M' ∧ (∀ k, k < 6 → zI M' 382 k = 0) ∧ zI M' 386 0 = 0 ∧ zI M' 355 63 = 0 ∧ zI M' 355 69 = 0 ∧ zI M' 381 0 = zI M 381 0 := by
  intro d
  induction d with
  | zero =>
    intro i f M hW hi hk
    have hi : i = 6 := by omega
    subst hi
    refine ⟨zsI (zsI (zsI M 386 0 0) 355 63 0) 355 69 0, ?_, FR.sI (FR.sI (FR.sI (FR.rf _ M) (by unfold Wbg; omega)) (by unfold Wbg; omega)) (by unfold Wbg; omega), fun k k6 => ?_, ?_, ?_, ?_, ?_⟩
    · rw [show 0 + 1 + f = f + 1 by omega, f_X12_begin_9, if_pos (show (6 : Int32) ≤ nI 6 from nI_le (a := 6) (Nat.le_refl _) (by decide)), w355_60 hW, b_i, show (0 : Int32) = nI 0 from rfl, zl_at 22 rfl (by decide) (by decide), b_i, b_i, b_i, b_i]
    · rw [zI_sn _ _ (by omega), zI_sn _ _ (by omega), zI_sn _ _ (by omega)]; exact hk k k6
    · rw [zI_sn _ _ (by omega), zI_sn _ _ (by omega), zI_se]
    · rw [zI_sn _ _ (by omega), zI_se]
    · rw [zI_se]
    · rw [zI_sn _ _ (by omega), zI_sn _ _ (by omega), zI_sn _ _ (by omega)]
  | succ d ih =>
    intro i f M hW hi hk
    have f1 : FR Wbg M (zsI M 382 i 0) := (FR.rf _ M).sI (by unfold Wbg; omega)
    obtain ⟨M', a1, a2, a3, a4, a5, a6, a7⟩ := ih (i + 1) f (zsI M 382 i 0) (f1.W hW) (by omega) (fun k hk1 => by
      by_cases e : k = i
      · rw [e, zI_se]
      · rw [zI_sn _ _ (by omega)]; exact hk k (by omega))
    refine ⟨M', ?_, f1.tr a2, a3, a4, a5, a6, a7.trans (zI_sn _ _ (by omega))⟩
    rw [show d + 1 + 1 + f = (d + 1 + f) + 1 by omega, f_X12_begin_9, if_neg (show ¬ (6 : Int32) ≤ nI i from nI_ge (b := 6) (by omega) (by decide)), w355_56 hW, b_i, zl_at 132 rfl (by omega) (by decide), b_i, b_i, nI_1]
    exact a1
theorem m_begin (n : Nat) (hW : WRc M) : ∃ M', f_X12_begin 355 M = some M' ∧ FR Wbg M M' ∧ MP M' 0 n (0, fun _ => R0) ∧ zI M' 386 0 = 0 ∧ zI M' 355 63 = 0 ∧ zI M' 355 69 = 0 := by
  have f1 : FR Wbg M (zsI M 381 0 0) := (FR.rf _ M).sI (by unfold Wbg; omega)
  obtain ⟨M', a1, a2, a3, a4, a5, a6, a7⟩ := m_bg9 6 0 (1000000 - 7) (zsI M 381 0 0) (f1.W hW) rfl (fun k hk => absurd hk (by omega))
  refine ⟨M', ?_, f1.tr a2, ⟨a7.trans (zI_se _ _ _ _), fun i hi => ⟨?_, fun e => (by cases e)⟩⟩, a4, a5, a6⟩
  · unfold f_X12_begin
    rw [w355_55 hW, b_i, show (0 : Int32) = nI 0 from rfl, zl_at 22 rfl (by decide) (by decide), b_i, b_i]
    exact a1
  · rw [show 6 * 0 + i = i by omega]; exact a3 i hi
def Wc5 (x j : Nat) : Prop := (x = 355 ∧ (j = 10 ∨ j = 11 ∨ j = 13 ∨ j = 35 ∨ (37 ≤ j ∧ j ≤ 41) ∨ j = 63 ∨ j = 69)) ∨ x = 370 ∨ (372 ≤ x ∧ x ≤ 374) ∨ (x = 381 ∧ j = 0) ∨ (x = 382 ∧ j < 6) ∨ (x = 386 ∧ j = 0)
theorem m_165 {x : Int32} {p' : Nat} (hs : MSs b z bi M p' y.2.2) (v : CV (chH y)) (hc : (gj y.1.2.1 (2 * y.1.2.2.1)).2 + y.1.2.2.2 < fN y.1.1) (ag : AG y.1 y.2.2) {u : Nat} (hu : u < 20) (h62 : zI M 355 62 = nI u) (E : Nat → Nat → Nat) (sv : Nat → PSt × Nat) : ∃ M', f_X12_chip_165 355 x M = some (x, M') ∧ FR Wc5 M M' ∧ LM M' (chH y) (0, fun _ => R0) 0 E 0 sv ∧ zI M' 355 10 = 0 ∧ zI M' 355 11 = -1 ∧ zI M' 355 69 = 0 := by
  obtain ⟨⟨⟨hX, -, hpz⟩, h8⟩, ⟨h22, hb1⟩, hA, hN⟩ := hs
  obtain ⟨hW, z16, -, -, h9⟩ := hX
  have f1 : FR Wc5 M (zsI (zsI (zsI (zsI M 355 10 0) 355 11 (-1)) 355 13 (nI bi)) 355 35 1) := FR.sI (FR.sI (FR.sI (FR.sI (FR.rf _ M) (by unfold Wc5; omega)) (by unfold Wc5; omega)) (by unfold Wc5; omega)) (by unfold Wc5; omega)
  have g1 : FR (fun x j => x = 355 ∧ (j = 10 ∨ j = 11 ∨ j = 13 ∨ j = 35)) M (zsI (zsI (zsI (zsI M 355 10 0) 355 11 (-1)) 355 13 (nI bi)) 355 35 1) := FR.sI (FR.sI (FR.sI (FR.sI (FR.rf _ M) (by omega)) (by omega)) (by omega)) (by omega)
  have k10 : zI (zsI (zsI (zsI (zsI M 355 10 0) 355 11 (-1)) 355 13 (nI bi)) 355 35 1) 355 10 = 0 := by rw [zI_sn _ _ (by omega), zI_sn _ _ (by omega), zI_sn _ _ (by omega), zI_se]
  have k11 : zI (zsI (zsI (zsI (zsI M 355 10 0) 355 11 (-1)) 355 13 (nI bi)) 355 35 1) 355 11 = -1 := by rw [zI_sn _ _ (by omega), zI_sn _ _ (by omega), zI_se]
  have k13 : zI (zsI (zsI (zsI (zsI M 355 10 0) 355 11 (-1)) 355 13 (nI bi)) 355 35 1) 355 13 = nI bi := by rw [zI_sn _ _ (by omega), zI_se]
  have k35 : zI (zsI (zsI (zsI (zsI M 355 10 0) 355 11 (-1)) 355 13 (nI bi)) 355 35 1) 355 35 = 1 := by rw [zI_se]
  have st : f_X12_chip_165 355 x M = Option.bind (f_X12_lays 355 (zsI (zsI (zsI (zsI M 355 10 0) 355 11 (-1)) 355 13 (nI bi)) 355 35 1)) fun M5 => Option.bind (f_X12_begin 355 M5) fun M6 => some (x, M6) := by
    unfold f_X12_chip_165
    rw [b_i, h8, zI_sn _ _ (by omega), h9, b_i, zI_sn _ _ (by omega), zI_sn _ _ (by omega), h8, if_pos (show (0 : Int32) ≤ 0 by decide), zI_sn _ _ (by omega), zI_sn _ _ (by omega), h22, b_i, b_i]
  rw [st]
  clear st
  revert f1 g1 k10 k11 k13 k35
  generalize zsI (zsI (zsI (zsI M 355 10 0) 355 11 (-1)) 355 13 (nI bi)) 355 35 1 = M1
  intro f1 g1 k10 k11 k13 k35
  have hB : ∀ i v, i ≤ 8 → aS y.2.2 i = v → BY M1 i v := fun i v hi e => ⟨bi, hb1, k13, by rw [g1.I (by omega), hA.2.2.2.2 i (by omega) hi, e]⟩
  have bb : BB M1 y.1.1 y.1.2.1 y.1.2.2.1 y.1.2.2.2 := ⟨hB 0 _ (by omega) ag.1.1, hB 1 _ (by omega) ag.1.2.1, hB 2 _ (by omega) ag.1.2.2.1, hB 3 _ (by omega) ag.1.2.2.2⟩
  obtain ⟨M2, a1, a2, a3, a4, a5, a6, a7⟩ := m_lays v.1 v.2.1.1 v.2.1.2.1 hc (f1.W hW) bb
  obtain ⟨M3, b1, b2, b3, b4, b5, b6⟩ := m_begin (kN (chH y)) (a2.W (f1.W hW))
  rw [a1, b_i, b1, b_i]
  have F2 : FR (fun x j => (x = 355 ∧ (j = 10 ∨ j = 11 ∨ j = 13 ∨ j = 35 ∨ (37 ≤ j ∧ j ≤ 41) ∨ j = 63 ∨ j = 69)) ∨ x = 370 ∨ (372 ≤ x ∧ x ≤ 374) ∨ (x = 381 ∧ j = 0) ∨ (x = 382 ∧ j < 6) ∨ (x = 386 ∧ j = 0)) M M3 := (f1.tr (a2.mo (fun x j q => by unfold Wly at q; unfold Wc5; omega))).tr (b2.mo (fun x j q => by unfold Wbg at q; unfold Wc5; omega))
  have F3 : FR (fun x j => Wly x j ∨ Wbg x j) M1 M3 := (a2.mo (fun x j q => Or.inl q)).tr (b2.mo (fun x j q => Or.inr q))
  have hA3 : ACm M3 bi y.2.2 := hA.fr F2 (by omega) (fun x j _ _ => by omega)
  have c13 : zI M3 355 13 = nI bi := (F3.I (by unfold Wly Wbg; omega)).trans k13
  have hB3 : ∀ i v, i ≤ 8 → aS y.2.2 i = v → BY M3 i v := fun i v hi e => (hB i v hi e).fr F3 (by unfold Wly Wbg; omega) (fun _ => by unfold Wly Wbg; omega)
  have MO3 : MO M3 y.1.1 y.1.2.1 := a3.fr b2 (by unfold Wbg; omega) (fun _ => by unfold Wbg; omega) (fun _ => by unfold Wbg; omega)
  refine ⟨M3, rfl, F2, ⟨⟨bi, ⟨hb1, c13, ⟨MO3, hB3 2 _ (by omega) ag.1.2.2.1, (b2.I (by unfold Wbg; omega)).trans a5, v.2.2.1.2.2, v.2.1.2.1⟩⟩, ⟨(b2.I (by unfold Wbg; omega)).trans a4, (b2.I (by unfold Wbg; omega)).trans a6, (b2.L (by unfold Wbg; omega)).trans a7⟩, hA3.2.2.2.1.1, ⟨hB3 4 _ (by omega) rfl, hB3 5 _ (by omega) rfl, hB3 6 _ (by omega) rfl, hB3 7 _ (by omega) rfl, hB3 8 _ (by omega) rfl⟩, hA3.2.1.mp (by omega), hA3.2.2.1.mp (by omega), fun i hi => hA3.2.2.2.1.2.2 i _ (gD_at hi)⟩, (F3.I (by unfold Wly Wbg; omega)).trans k35, b3, ⟨u, hu, by decide, b5, (F2.I (by omega)).trans h62, ⟨b4, fun i j hi => absurd hi (by omega)⟩, fun k hk => absurd hk (by omega)⟩⟩, (F3.I (by unfold Wly Wbg; omega)).trans k10, (F3.I (by unfold Wly Wbg; omega)).trans k11, b6⟩
end
