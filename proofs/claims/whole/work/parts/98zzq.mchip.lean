/-! chip: the whole text (2): the model -/
section
variable {b : Nat → Nat} {z bi : Nat} {M : Mem}
theorem m_s1 {α : Type} {K : Mem → Option α} {bk : Nat} (h1 : zI M 355 1 = nI z) (h13 : zI M 355 13 = nI bk) (hb : bk ≤ 1) : ∃ N, (Option.bind (some (zsI M 355 2 (zI M 355 1))) fun M17 => Option.bind (some (zsI M17 355 1 0)) fun M18 => Option.bind (some (zsI M18 355 5 0)) fun M19 => Option.bind (some (zsI M19 355 8 0)) fun M20 => Option.bind (some (zsI M20 355 9 (-1))) fun M21 => Option.bind (some (zsI M21 355 22 (1 - (zI M21 355 13)))) K) = K N ∧ FR (fun x j => x = 355 ∧ (j = 1 ∨ j = 2 ∨ j = 5 ∨ j = 8 ∨ j = 9 ∨ j = 22)) M N ∧ zI N 355 2 = nI z ∧ zI N 355 1 = 0 ∧ zI N 355 5 = 0 ∧ zI N 355 8 = 0 ∧ zI N 355 9 = -1 ∧ zI N 355 22 = nI (1 - bk) := by
  refine ⟨zsI (zsI (zsI (zsI (zsI (zsI M 355 2 (nI z)) 355 1 0) 355 5 0) 355 8 0) 355 9 (-1)) 355 22 (nI (1 - bk)), ?_, ?_, ?_, ?_, ?_, ?_, ?_, ?_⟩
  · rw [b_i, b_i, b_i, b_i, b_i, b_i, h1, zI_sn _ _ (by omega), zI_sn _ _ (by omega), zI_sn _ _ (by omega), zI_sn _ _ (by omega), zI_sn _ _ (by omega), h13, show (1 : Int32) = nI 1 from rfl, pk_sub hb]
  · exact FR.sI (FR.sI (FR.sI (FR.sI (FR.sI (FR.sI (FR.rf _ M) (by omega)) (by omega)) (by omega)) (by omega)) (by omega)) (by omega)
  · rw [zI_sn _ _ (by omega), zI_sn _ _ (by omega), zI_sn _ _ (by omega), zI_sn _ _ (by omega), zI_sn _ _ (by omega), zI_se]
  · rw [zI_sn _ _ (by omega), zI_sn _ _ (by omega), zI_sn _ _ (by omega), zI_sn _ _ (by omega), zI_se]
  · rw [zI_sn _ _ (by omega), zI_sn _ _ (by omega), zI_sn _ _ (by omega), zI_se]
  · rw [zI_sn _ _ (by omega), zI_sn _ _ (by omega), zI_se]
  · rw [zI_sn _ _ (by omega), zI_se]
  · rw [zI_se]
def mTl (M : Mem) : Option (Int32 × Mem) := Option.bind (f_X12_ahead 355 M) fun M11 => Option.bind (f_X12_chipIs 355 M11) fun M12 => Option.bind (f_X12_finishes 355 1 M12) fun M13 => f_X12_chip_136 355 1000000 1 M13
theorem m_91 (hW : WRc M) (h22 : zI M 355 22 = nI bi) (hb : bi ≤ 1) : f_X12_chip_91 355 1000000 (2 * zI M 355 22) M = mTl (zsI (zsI (zsI M 359 (2 * bi) (-1)) 359 (2 * bi + 1) (-1)) 355 21 0) := by
  have e2 : (2 : Int32) * nI bi = nI (2 * bi) := by rw [show (2 : Int32) = nI 2 from rfl, pk_mul]
  have e4 : nI (2 * bi) + (2 : Int32) = nI (2 * bi + 2) := by rw [show (2 : Int32) = nI 2 from rfl, nI_add]
  have w1 : WRc (zsI M 359 (2 * bi) (-1)) := hW
  rw [show (1000000 : Nat) = 999997 + 1 + 1 + 1 from rfl, h22, e2, f_X12_chip_91, h22, e2, e4, if_neg (nI_ge (by omega) (by omega)), w355_16 hW, b_i, zl_at 4 rfl (by omega) (by decide), b_i, b_i, nI_1, f_X12_chip_91, zI_sn _ _ (by omega), h22, e2, e4, if_neg (nI_ge (by omega) (by omega)), w355_16 w1, b_i, zl_at 4 rfl (by omega) (by decide), b_i, b_i, nI_1, f_X12_chip_91, zI_sn _ _ (by omega), zI_sn _ _ (by omega), h22, e2, e4, if_pos (nI_le (by omega) (by omega)), b_i]
  rfl
theorem m_t5 (hW : WRc M) (h22 : zI M 355 22 = nI bi) (hb : bi ≤ 1) {α : Type} {K : Mem → Option α} : ∃ M', (Option.bind (f_X12_tellsAt 355 4 70 M) fun M26 => Option.bind (f_X12_tellsAt 355 5 30 M26) fun M27 => Option.bind (f_X12_tellsAt 355 6 50 M27) fun M28 => Option.bind (f_X12_tellsAt 355 7 3 M28) fun M29 => Option.bind (f_X12_tellsAt 355 8 0 M29) K) = K M' ∧ FR (fun x j => x = 357 ∧ 10 * bi + 4 ≤ j ∧ j < 10 * bi + 9) M M' ∧ zI M' 357 (10 * bi + 4) = 70 ∧ zI M' 357 (10 * bi + 5) = 30 ∧ zI M' 357 (10 * bi + 6) = 50 ∧ zI M' 357 (10 * bi + 7) = 3 ∧ zI M' 357 (10 * bi + 8) = 0 := by
  have f1 : FR (fun x j => x = 357 ∧ 10 * bi + 4 ≤ j ∧ j < 10 * bi + 9) M (zsI M 357 (10 * bi + 4) 70) := (FR.rf _ M).sI (by omega)
  have f2 := FR.sI f1 (a := 357) (k := 10 * bi + 5) (v := 30) (by omega)
  have f3 := FR.sI f2 (a := 357) (k := 10 * bi + 6) (v := 50) (by omega)
  have f4 := FR.sI f3 (a := 357) (k := 10 * bi + 7) (v := 3) (by omega)
  have f5 := FR.sI f4 (a := 357) (k := 10 * bi + 8) (v := 0) (by omega)
  refine ⟨_, ?_, f5, ?_, ?_, ?_, ?_, ?_⟩
  · rw [m_tell (k := 4) (x := 4) rfl (by decide) hW h22 hb, b_i, m_tell (k := 5) (x := 5) rfl (by decide) (f1.W hW) ((f1.I (by omega)).trans h22) hb, b_i, m_tell (k := 6) (x := 6) rfl (by decide) (f2.W hW) ((f2.I (by omega)).trans h22) hb, b_i, m_tell (k := 7) (x := 7) rfl (by decide) (f3.W hW) ((f3.I (by omega)).trans h22) hb, b_i, m_tell (k := 8) (x := 8) rfl (by decide) (f4.W hW) ((f4.I (by omega)).trans h22) hb, b_i]
  · rw [zI_sn _ _ (by omega), zI_sn _ _ (by omega), zI_sn _ _ (by omega), zI_sn _ _ (by omega), zI_se]
  · rw [zI_sn _ _ (by omega), zI_sn _ _ (by omega), zI_sn _ _ (by omega), zI_se]
  · rw [zI_sn _ _ (by omega), zI_sn _ _ (by omega), zI_se]
  · rw [zI_sn _ _ (by omega), zI_se]
  · rw [zI_se]
theorem nI_any (x : Int32) : ∃ k, x = nI k := ⟨x.toBitVec.toNat, by
  show x = Int32.ofNat x.toBitVec.toNat
  apply Int32.toBitVec_inj.mp
  show x.toBitVec = BitVec.ofNat 32 x.toBitVec.toNat
  rw [BitVec.ofNat_toNat, BitVec.setWidth_eq]⟩
def Wch3 (bi x j : Nat) : Prop := Wmt bi x j ∨ (x = 355 ∧ (j = 1 ∨ j = 2 ∨ j = 22))
theorem m_start (hW : WRc M) (h1 : zI M 355 1 = nI z) (h16 : z ≤ 1600) (hb : ∀ k, k < z → zI M 356 k = nI (b k) ∧ b k < 256) {bk : Nat} (h13 : zI M 355 13 = nI bk) (hbk : bk ≤ 1) : ∃ M' q, f_X12_chip 355 M = mTl M' ∧ FR (Wch3 (1 - bk)) M M' ∧ MTx M' b z ∧ zI M' 355 5 = nI 0 ∧ zI M' 355 8 = 0 ∧ zI M' 355 1 = 0 ∧ zI M' 355 22 = nI (1 - bk) ∧ ACm M' (1 - bk) (s01 q) := by
  obtain ⟨N, n0, n1, n2, n3, n4, n5, n6, n7⟩ := m_s1 (K := fun M22 => Option.bind (zrf M22 355 15) fun q23 => Option.bind (zld q23 (zI M22 355 22)) fun k24 => Option.bind (some (zsI M22 q23 k24 0)) fun M25 => Option.bind (f_X12_tellsAt 355 4 70 M25) fun M26 => Option.bind (f_X12_tellsAt 355 5 30 M26) fun M27 => Option.bind (f_X12_tellsAt 355 6 50 M27) fun M28 => Option.bind (f_X12_tellsAt 355 7 3 M28) fun M29 => Option.bind (f_X12_tellsAt 355 8 0 M29) fun M30 => f_X12_chip_91 355 1000000 (2 * (zI M30 355 22)) M30) h1 h13 hbk
  obtain ⟨bi, hbi⟩ : ∃ bi, bi = 1 - bk := ⟨_, rfl⟩
  rw [← hbi] at n7 ⊢
  have hb1 : bi ≤ 1 := by omega
  have fN1 : FR (Wch3 bi) M N := n1.mo (fun x j q => by unfold Wch3 Wmt; omega)
  have g25 : FR (fun x j => x = 358 ∧ j = bi) N (zsI N 358 bi 0) := (FR.rf (fun x j => x = 358 ∧ j = bi) N).sI ⟨rfl, rfl⟩
  obtain ⟨M30, t0, t1, t4, t5, t6, t7, t8⟩ := m_t5 (K := fun M30 => f_X12_chip_91 355 1000000 (2 * (zI M30 355 22)) M30) (g25.W (fN1.W hW)) ((g25.I (by omega)).trans n7) hb1
  have f30 : FR (fun x j => (x = 358 ∧ j = bi) ∨ (x = 357 ∧ 10 * bi + 4 ≤ j ∧ j < 10 * bi + 9)) N M30 := (g25.mo (fun x j q => by omega)).tr (t1.mo (fun x j q => by omega))
  have W30 : WRc M30 := f30.W (fN1.W hW)
  have k22 : zI M30 355 22 = nI bi := (f30.I (by omega)).trans n7
  have g33 : FR (fun x j => (x = 359 ∧ 2 * bi ≤ j ∧ j < 2 * bi + 2) ∨ (x = 355 ∧ j = 21)) M30 (zsI (zsI (zsI M30 359 (2 * bi) (-1)) 359 (2 * bi + 1) (-1)) 355 21 0) := FR.sI (FR.sI (FR.sI (FR.rf _ M30) (by omega)) (by omega)) (by omega)
  have e91 := m_91 W30 k22 hb1
  have v0 : zI (zsI (zsI (zsI M30 359 (2 * bi) (-1)) 359 (2 * bi + 1) (-1)) 355 21 0) 359 (2 * bi) = -1 := by rw [zI_sn _ _ (by omega), zI_sn _ _ (by omega), zI_se]
  have v1 : zI (zsI (zsI (zsI M30 359 (2 * bi) (-1)) 359 (2 * bi + 1) (-1)) 355 21 0) 359 (2 * bi + 1) = -1 := by rw [zI_sn _ _ (by omega), zI_se]
  have v21 : zI (zsI (zsI (zsI M30 359 (2 * bi) (-1)) 359 (2 * bi + 1) (-1)) 355 21 0) 355 21 = 0 := by rw [zI_se]
  revert g33 e91 v0 v1 v21
  generalize zsI (zsI (zsI M30 359 (2 * bi) (-1)) 359 (2 * bi + 1) (-1)) 355 21 0 = M33
  intro g33 e91 v0 v1 v21
  have F33 : FR (fun x j => (x = 358 ∧ j = bi) ∨ (x = 357 ∧ 10 * bi + 4 ≤ j ∧ j < 10 * bi + 9) ∨ (x = 359 ∧ 2 * bi ≤ j ∧ j < 2 * bi + 2) ∨ (x = 355 ∧ j = 21)) N M33 := (f30.mo (fun x j q => by omega)).tr (g33.mo (fun x j q => by omega))
  obtain ⟨q0, e0⟩ := nI_any (zI M33 357 (10 * bi + 0))
  obtain ⟨q1, e1⟩ := nI_any (zI M33 357 (10 * bi + 1))
  obtain ⟨q2, e2⟩ := nI_any (zI M33 357 (10 * bi + 2))
  obtain ⟨q3, e3⟩ := nI_any (zI M33 357 (10 * bi + 3))
  refine ⟨M33, (q0, q1, q2, q3), ?_, fN1.tr (F33.mo (fun x j q => by unfold Wch3 Wmt; omega)), ⟨(F33.W (fN1.W hW)), h16, (F33.I (by omega)).trans n2, fun k hk => ⟨(F33.I (by omega)).trans ((n1.I (by omega)).trans (hb k hk).1), (hb k hk).2⟩, (F33.I (by omega)).trans n6⟩, (F33.I (by omega)).trans n4, (F33.I (by omega)).trans n5, (F33.I (by omega)).trans n3, (F33.I (by omega)).trans n7, v21, v0, v1, ⟨?_, Nat.zero_le _, fun i l e => (by cases e)⟩, fun i i1 i2 => ?_⟩
  · unfold f_X12_chip
    rw [n0, w355_15 (fN1.W hW), b_i, n7, zl_at 2 rfl (by omega) (by decide), b_i, b_i, t0]
    exact e91
  · rw [g33.I (by omega), t1.I (by omega), zI_se]; rfl
  · have hi : i = 0 ∨ i = 1 ∨ i = 2 ∨ i = 3 ∨ i = 4 ∨ i = 5 ∨ i = 6 ∨ i = 7 ∨ i = 8 := by omega
    rcases hi with e | e | e | e | e | e | e | e | e <;> subst e
    · exact e0
    · exact e1
    · exact e2
    · exact e3
    · rw [g33.I (by omega)]; exact t4
    · rw [g33.I (by omega)]; exact t5
    · rw [g33.I (by omega)]; exact t6
    · rw [g33.I (by omega)]; exact t7
    · rw [g33.I (by omega)]; exact t8
theorem tlq_s (q q' : Nat × Nat × Nat × Nat) : tlq (s01 q) q' = s01 q' := by
  unfold tlq s01
  refine congrArg (fun f => ((0, none, none, [], f) : Acs)) (funext fun j => ?_)
  by_cases c0 : j = 0
  · rw [if_pos c0, if_pos c0]
  rw [if_neg c0, if_neg c0]
  by_cases c1 : j = 1
  · rw [if_pos c1, if_pos c1]
  rw [if_neg c1, if_neg c1]
  by_cases c2 : j = 2
  · rw [if_pos c2, if_pos c2]
  rw [if_neg c2, if_neg c2]
  by_cases c3 : j = 3
  · rw [if_pos c3, if_pos c3]
  rw [if_neg c3, if_neg c3]
  show (if j = 0 then q.1 else if j = 1 then q.2.1 else if j = 2 then q.2.2.1 else if j = 3 then q.2.2.2 else _) = _
  rw [if_neg c0, if_neg c1, if_neg c2, if_neg c3]
theorem lpA_nz : ∀ {e p : Nat} {s : Acs} {k : Nat} {er : Nat × Nat}, lpA b z e p s k = .inl er → 0 < er.1 ∧ er.1 < 10 := by
  intro e
  induction e with
  | zero => intro p s k er q; cases q
  | succ e ih =>
    intro p s k er q
    rw [lpA] at q
    by_cases c1 : tK (tok b z p) = 0
    · rw [if_pos c1] at q; cases q
    rw [if_neg c1] at q
    by_cases c2 : k = 40
    · rw [if_pos c2] at q; cases q; exact lt10 (by decide)
    rw [if_neg c2] at q
    cases h : stA b z p s with
    | inl e' => rw [h] at q; cases q; exact stA_nz h
    | inr y =>
      rw [h] at q
      dsimp only at q
      by_cases c3 : isSg (tok b z y.1) 59 = true
      · rw [if_pos c3] at q; exact ih q
      · rw [if_neg c3] at q; cases q; exact lt10 (by decide)
theorem m_chip (hW : WRc M) (h1 : zI M 355 1 = nI z) (h16 : z ≤ 1600) (hb : ∀ k, k < z → zI M 356 k = nI (b k) ∧ b k < 256) {bk : Nat} (h13 : zI M 355 13 = nI bk) (hbk : bk ≤ 1) : (∀ er, chA b z = .inl er → ∃ M' x, f_X12_chip 355 M = f_X12_chip_165 355 x M' ∧ FR (Wch3 (1 - bk)) M M' ∧ zI M' 355 8 = nI er.1 ∧ zI M' 355 9 = nI er.2 ∧ zI M' 355 1 = 0 ∧ 0 < er.1 ∧ er.1 < 10) ∧ (∀ y, chA b z = .inr y → ∃ M' p', f_X12_chip 355 M = f_X12_chip_165 355 (nI y.2.1) M' ∧ FR (Wch3 (1 - bk)) M M' ∧ MSs b z (1 - bk) M' p' y.2.2 ∧ zI M' 355 1 = 0) := by
  obtain ⟨M0, q, a0, a1, a2, a3, a4, a5, a6, a7⟩ := m_start hW h1 h16 hb h13 hbk
  obtain ⟨bi, hbi⟩ : ∃ bi, bi = 1 - bk := ⟨_, rfl⟩
  rw [← hbi] at a1 a6 a7 ⊢
  have hb1 : bi ≤ 1 := by omega
  obtain ⟨M1, b1, b2, b3⟩ := s_mahead a2 a3 (Nat.zero_le _)
  have h1s : MSs b z bi M1 0 (s01 q) := ⟨⟨⟨a2.ah b2, b3, Nat.zero_le _⟩, (b2.I (by unfold Wah; omega)).trans a4⟩, ⟨(b2.I (by unfold Wah; omega)).trans a6, hb1⟩, a7.fr b2 (by unfold Wah; omega) (fun x j _ _ => by unfold Wah; omega), Nat.zero_le _⟩
  have mt : ∀ {A B : Mem}, FR (Wmt bi) A B → FR (Wch3 bi) A B := fun f => f.mo (fun x j q => Or.inl q)
  have k1 : ∀ {A B : Mem}, FR (Wmt bi) A B → zI A 355 1 = 0 → zI B 355 1 = 0 := fun f e => (f.I (by unfold Wmt; omega)).trans e
  have c1 : zI M1 355 1 = 0 := (b2.I (by unfold Wah; omega)).trans a5
  have F1 : FR (Wch3 bi) M M1 := a1.tr (mt (Wah_t b2))
  obtain ⟨g1, g2⟩ := m_fld h1s
  rw [a0]
  unfold mTl
  rw [b1, b_i]
  clear a0 b1
  -- after a fault nothing is told any more
  have stop : ∀ N er, MFl bi M1 N er → 0 < er.1 ∧ er.1 < 10 → (Option.bind (f_X12_finishes 355 1 N) fun M13 => f_X12_chip_136 355 1000000 1 M13) = f_X12_chip_165 355 1 N := fun N er h he => by
    have n8 : ¬ zI N 355 8 ≤ 0 := by rw [h.2.1]; exact nI_nle he.1 (by omega)
    unfold f_X12_finishes
    rw [m_lexF n8, b_i, if_neg n8, b_i, show (1000000 : Nat) = 999999 + 1 from rfl, f_X12_chip_136, if_neg (n8n n8)]
  have stop2 : ∀ N er, MFl bi M1 N er → 0 < er.1 ∧ er.1 < 10 → f_X12_chip_136 355 1000000 1 N = f_X12_chip_165 355 1 N := fun N er h he => by
    have n8 : ¬ zI N 355 8 ≤ 0 := by rw [h.2.1]; exact nI_nle he.1 (by omega)
    rw [show (1000000 : Nat) = 999999 + 1 from rfl, f_X12_chip_136, if_neg (n8n n8)]
  unfold chA
  cases hq : fl0 b z 0 with
  | inl e =>
    obtain ⟨M2, d1, d2, d3⟩ := g1 e hq
    rw [d1, b_i, stop M2 e d2 d3]
    refine ⟨fun er q => ?_, fun y q => (by cases q)⟩
    cases q
    exact ⟨M2, 1, rfl, F1.tr (mt d2.1), d2.2.1, d2.2.2, k1 d2.1 c1, d3⟩
  | inr y =>
    obtain ⟨M2, d1, d2, d3⟩ := g2 y hq
    rw [tlq_s] at d3
    obtain ⟨i1, i2, i3⟩ := m_fin (k := 1) (x := 1) rfl (by decide) d3
    rw [d1, b_i]
    dsimp only
    cases hs : isSg (tok b z y.1) 59 with
    | false =>
      obtain ⟨M3, e1, e2⟩ := i1 hs
      have e3 := e2.fr d2
      rw [e1, b_i, stop2 M3 _ e3 (lt10 (by decide)), if_neg (show ¬ false = true by decide)]
      refine ⟨fun er q => ?_, fun y q => (by cases q)⟩
      cases q
      exact ⟨M3, 1, rfl, F1.tr (mt e3.1), e3.2.1, e3.2.2, k1 e3.1 c1, lt10 (by decide)⟩
    | true =>
      obtain ⟨M3, e1, e2, e3⟩ := i3 hs (Or.inl (by decide))
      obtain ⟨l1, l2⟩ := m_loop 40 1 999959 (nxp b z y.1) (s01 y.2) M3 rfl (by decide) e3 (Or.inl (by decide))
      have F3 : FR (Wmt bi) M1 M3 := d2.tr e2
      rw [e1, b_i, if_pos rfl]
      cases hl : lpA b z 40 (nxp b z y.1) (s01 y.2) 1 with
      | inl e =>
        obtain ⟨M', x, k2, k3⟩ := l1 e hl
        refine ⟨fun er q => ?_, fun y q => (by cases q)⟩
        cases q
        have k4 := k3.fr F3
        exact ⟨M', x, k2, F1.tr (mt k4.1), k4.2.1, k4.2.2, k1 k4.1 c1, lpA_nz hl⟩
      | inr w =>
        obtain ⟨M', p', k2, k3, k4⟩ := l2 w hl
        refine ⟨fun er q => (by cases q), fun y' q => ?_⟩
        cases q
        exact ⟨M', p', k2, F1.tr (mt (F3.tr k3)), k4, k1 (F3.tr k3) c1⟩
end
