/-! chip: the model's statements (3) -/
section
variable {b : Nat → Nat} {z bi p : Nat} {M : Mem} {s : Acs}
theorem Wmp_t {n : Nat} {M1 : Mem} (f : FR (Wmp bi n) M M1) : FR (Wmt bi) M M1 := f.mo (fun x j q => by unfold Wmp at q; unfold Wmt; omega)
theorem m_reading {w : Bool} {x : Int32} {k : Nat} (hk : (w = true ∧ k = 0) ∨ (w = false ∧ k = 1)) (hx : x = b01 (!w)) (h : MSs b z bi M p s) (k1 : tK (tok b z p) = 1) {o : Option (Nat × Cds)} (ho : DRm M bi k (aN s) o) : (o.isSome = true → ∃ M', f_X12_reading 355 x M = some M' ∧ MFl bi M M' (6, tS (tok b z p))) ∧ (o.isSome = false → (∀ e, rd b z w 120 (rdS w) 0 (nxp b z p) [] = .inl e → ∃ M', f_X12_reading 355 x M = some M' ∧ MFl bi M M' e) ∧ (∀ y, rd b z w 120 (rdS w) 0 (nxp b z p) [] = .inr y → (tK (tok b z y.1) = 4 → ∃ M', f_X12_reading 355 x M = some M' ∧ MFl bi M M' (1, tBd (tok b z y.1))) ∧ (tK (tok b z y.1) ≤ 3 → ∃ M', f_X12_reading 355 x M = some M' ∧ FR (Wmt bi) M M' ∧ MTk b z M' y.1 ∧ zI M' 355 22 = nI bi ∧ FR (fun x j => (x = 355 ∧ ((3 ≤ j ∧ j ≤ 9) ∨ j = 12 ∨ j = 21 ∨ j = 23 ∨ (29 ≤ j ∧ j ≤ 33))) ∨ ((x = 359 ∨ x = 360) ∧ j = 2 * bi + k) ∨ ((x = 361 ∨ x = 362) ∧ 1600 * bi + aN s ≤ j) ∨ (364 ≤ x ∧ x ≤ 369)) M M' ∧ zI M' 355 21 = nI (aN s + y.2.length) ∧ zI M' 359 (2 * bi + k) = nI (aN s) ∧ zI M' 360 (2 * bi + k) = nI (aN s + y.2.length) ∧ PRM M' (1600 * bi + aN s) y.2 ∧ aN s + y.2.length ≤ y.1))) := by
  have hW := h.1.1.1.1
  have hbi := h.2.1.2
  have hz := h.1.1.1.2.1
  have hpz := h.1.1.2.2
  have hn := h.2.2.2
  have xk : x = nI k := by
    rcases hk with ⟨e1, e2⟩ | ⟨e1, e2⟩
    · rw [hx, e1, e2]; rfl
    · rw [hx, e1, e2]; rfl
  have k2 : k < 2 := by omega
  have ix : zld 359 ((2 * (zI M 355 22)) + x) = some (2 * bi + k) := by rw [h.2.1.1, xk, show (2 : Int32) = nI 2 from rfl, pk_mul, nI_add]; exact zl_at 4 rfl (by omega) (by decide)
  have ix2 : (2 * (zI M 355 22)) + x = nI (2 * bi + k) := by rw [h.2.1.1, xk, show (2 : Int32) = nI 2 from rfl, pk_mul, nI_add]
  unfold f_X12_reading
  rw [w355_16 hW, b_i, ix, b_i, ix2]
  refine ⟨fun hs => ?_, fun hs => ?_⟩
  · cases o with
    | none => cases hs
    | some v =>
      obtain ⟨M', a1, a2⟩ := (m_cnt (f := true) (x := 1) rfl h (by omega) (by omega)).2 rfl
      have ne : ¬ zI M 359 (2 * bi + k) = -1 := by rw [ho.1]; exact nI_nm (by have := ho.2.2.2; omega)
      rw [if_neg ne]
      unfold f_X12_reading_25
      rw [a1, b_i]
      exact ⟨M', if_pos rfl, a2⟩
  · cases o with
    | some v => cases hs
    | none =>
      have e1 : zI M 359 (2 * bi + k) = -1 := ho
      rw [if_pos e1]
      obtain ⟨M1, a1, a2, a3, a4⟩ := (m_cnt (f := false) (x := 0) rfl h (by omega) (by omega)).1 rfl
      have aah : FR Wah M M1 := by
        obtain ⟨Mx, x1, x2, -, -⟩ := h.1.ah (by omega) (by omega)
        have : f_X12_isCounted 355 0 M = some (1, Mx) := by
          unfold f_X12_isCounted f_X12_isCounted_21 f_X12_isCounted_32 f_X12_isCounted_44
          rw [h.1.2, if_pos rfl, if_pos rfl, if_pos rfl, x1, b_i, (x2.I (by unfold Wah; omega)).trans h.1.2, if_pos rfl, zbz1]
        rw [this] at a1
        cases a1
        exact x2
      have g : FR (fun y j => (y = 355 ∧ j = 23) ∨ (y = 359 ∧ j = 2 * bi + k)) M1 (zsI (zsI M1 355 23 x) 359 (2 * bi + k) (nI (aN s))) := FR.sI (FR.sI (FR.rf (fun y j => (y = 355 ∧ j = 23) ∨ (y = 359 ∧ j = 2 * bi + k)) M1) (by omega)) (by omega)
      have e23 : zI (zsI (zsI M1 355 23 x) 359 (2 * bi + k) (nI (aN s))) 355 23 = x := by rw [zI_sn _ _ (by omega), zI_se]
      have e359 : zI (zsI (zsI M1 355 23 x) 359 (2 * bi + k) (nI (aN s))) 359 (2 * bi + k) = nI (aN s) := zI_se _ _ _ _
      have run : f_X12_reading_25 355 x (nI (2 * bi + k)) 355 0 M = f_X12_reading_58 355 x (nI (2 * bi + k)) 355 x (zsI (zsI M1 355 23 x) 359 (2 * bi + k) (nI (aN s))) := by
        unfold f_X12_reading_25
        rw [a1, b_i]
        dsimp only
        rw [if_neg n10, b_i, show zrf (zsI M1 355 23 x) 355 16 = some 359 from w355_16 a3.1.1.1.1, b_i, zl_at 4 rfl (by omega) (by decide), b_i, zI_sn _ _ (by omega), a3.2.2.1.1, b_i]
        rcases hk with ⟨e1, e2⟩ | ⟨e1, e2⟩
        · subst e1; rw [hx]; exact if_neg (by decide)
        · subst e1; rw [hx]; exact if_pos rfl
      rw [run]
      revert g e23 e359
      generalize zsI (zsI M1 355 23 x) 359 (2 * bi + k) (nI (aN s)) = M2
      intro g e23 e359
      have t2 : MTk b z M2 (nxp b z p) := a3.1.fr g (fun j _ => by omega) (fun j => by omega)
      have G2 : FR (Wmt bi) M M2 := a2.tr (g.mo (fun y j q => by unfold Wmt; omega))
      obtain ⟨r1, r2⟩ := m_reads (w := w) (n := aN s) hx t2 ((g.I (by omega)).trans a3.2.2.1.1) ((g.I (by omega)).trans a3.2.1.1) hbi (e23.trans hx) (by omega)
      unfold f_X12_reading_58
      have bad : ∀ e, (∃ M', f_X12_reads 355 x M2 = some M' ∧ FLT bi (aN s) M2 M' e) → ∃ M', (Option.bind (f_X12_reads 355 x M2) fun M1 => Option.bind (zrf M1 355 17) fun q2 => Option.bind (zld q2 (nI (2 * bi + k))) fun k3 => Option.bind (some (zsI M1 q2 k3 (zI M1 355 21))) fun M4 => some M4) = some M' ∧ MFl bi M M' e := fun e ⟨M3, c1, c2⟩ => by
        have g3 : FR (fun y j => y = 360 ∧ j = 2 * bi + k) M3 (zsI M3 360 (2 * bi + k) (zI M3 355 21)) := (FR.rf (fun y j => y = 360 ∧ j = 2 * bi + k) M3).sI ⟨rfl, rfl⟩
        rw [c1, b_i, w355_17 (c2.1.W (g.W a3.1.1.1.1)), b_i, zl_at 4 rfl (by omega) (by decide), b_i, b_i]
        exact ⟨_, rfl, G2.tr ((Wmp_t c2.1).tr (g3.mo (fun y j q => by unfold Wmt; omega))), (g3.I (by omega)).trans c2.2.1, (g3.I (by omega)).trans c2.2.2⟩
      refine ⟨fun e he => bad e (r1 e he), fun y hy => ⟨fun k4 => bad _ ((r2 y hy).1 k4), fun k3 => ?_⟩⟩
      obtain ⟨M3, c1, c2, c3, c4, c5, c6⟩ := (r2 y hy).2 k3
      have g3 : FR (fun y j => y = 360 ∧ j = 2 * bi + k) M3 (zsI M3 360 (2 * bi + k) (nI (aN s + y.2.length))) := (FR.rf (fun y j => y = 360 ∧ j = 2 * bi + k) M3).sI ⟨rfl, rfl⟩
      rw [c1, b_i, w355_17 (c2.W (g.W a3.1.1.1.1)), b_i, zl_at 4 rfl (by omega) (by decide), b_i, c4, b_i]
      refine ⟨_, rfl, G2.tr ((Wmp_t c2).tr (g3.mo (fun y j q => by unfold Wmt; omega))), c3.fr g3 (fun j _ => by omega) (fun j => by omega), ?_, ?_, (g3.I (by omega)).trans c4, ?_, zI_se _ _ _ _, c5.fj g3 (fun j _ _ => by omega), c6⟩
      · exact (g3.I (by omega)).trans ((c2.I (by unfold Wmp; omega)).trans ((g.I (by omega)).trans a3.2.1.1))
      · exact (aah.mo (fun y j q => by unfold Wah at q; omega)).tr ((g.mo (fun y j q => by omega)).tr ((c2.mo (fun y j q => by unfold Wmp at q; omega)).tr (g3.mo (fun y j q => by omega))))
      · exact (g3.I (by omega)).trans ((c2.I (by unfold Wmp; omega)).trans e359)
theorem m_dr (h : MSs b z bi M p s) (k1 : tK (tok b z p) = 1) : MR2 b z bi M (f_X12_reading 355 0 M) (drA b z p s) := by
  obtain ⟨r1, r2⟩ := m_reading (w := true) (x := 0) (k := 0) (Or.inl ⟨rfl, rfl⟩) rfl h k1 h.2.2.1.2.1
  have A := h.2.2.1
  unfold drA
  cases hd : (aD s).isSome with
  | true =>
    rw [if_pos rfl]
    obtain ⟨M', a1, a2⟩ := r1 hd
    exact MR2.l a1 a2
  | false =>
    rw [if_neg (by decide)]
    obtain ⟨q1, q2⟩ := r2 hd
    cases hq : rd b z true 120 0 0 (nxp b z p) [] with
    | inl e =>
      obtain ⟨M', a1, a2⟩ := q1 e hq
      exact MR2.l a1 a2
    | inr y =>
      obtain ⟨u1, u2⟩ := q2 y hq
      obtain ⟨n1, n2⟩ := nx_ok h.1.by8 h.1.1.2.2 (by omega) (by omega)
      obtain ⟨l1, l2, l3, l4⟩ := rd_len h.1.by8 n2 (Or.inl ⟨rfl, rfl, rfl⟩) hq
      have k5 := (tok_ok (p := y.1) h.1.by8 l2).1
      refine ⟨fun e q => (by cases q), fun y' q => ?_⟩
      cases q
      by_cases k4 : tK (tok b z y.1) = 4
      · exact Or.inl ⟨k4, u1 k4⟩
      · obtain ⟨M', a1, a2, a3, a4, a5, a6, a7, a8, a9, a10⟩ := u2 (by omega)
        refine Or.inr ⟨M', a1, a2, a3, ⟨a4, h.2.1.2⟩, ⟨a6, ⟨a7, a8, a9, Nat.le_refl _⟩, (A.2.2.1.fr a5 (by omega) (by omega) (fun j hj => by omega)).mn (Nat.le_add_right _ _), ⟨(a5.I (by omega)).trans A.2.2.2.1.1, A.2.2.2.1.2.1, fun i l e => ⟨(a5.L (by omega)).trans (A.2.2.2.1.2.2 i l e).1, (A.2.2.2.1.2.2 i l e).2⟩⟩, fun i i1 i2 => (a5.I (by omega)).trans (A.2.2.2.2 i i1 i2)⟩, a10⟩
theorem m_tr (h : MSs b z bi M p s) (k1 : tK (tok b z p) = 1) : MR2 b z bi M (f_X12_reading 355 1 M) (trA b z p s) := by
  obtain ⟨r1, r2⟩ := m_reading (w := false) (x := 1) (k := 1) (Or.inr ⟨rfl, rfl⟩) rfl h k1 h.2.2.1.2.2.1
  have A := h.2.2.1
  unfold trA
  cases hd : (aT s).isSome with
  | true =>
    rw [if_pos rfl]
    obtain ⟨M', a1, a2⟩ := r1 hd
    exact MR2.l a1 a2
  | false =>
    rw [if_neg (by decide)]
    obtain ⟨q1, q2⟩ := r2 hd
    cases hq : rd b z false 120 5 0 (nxp b z p) [] with
    | inl e =>
      obtain ⟨M', a1, a2⟩ := q1 e hq
      exact MR2.l a1 a2
    | inr y =>
      obtain ⟨u1, u2⟩ := q2 y hq
      obtain ⟨n1, n2⟩ := nx_ok h.1.by8 h.1.1.2.2 (by omega) (by omega)
      obtain ⟨l1, l2, l3, l4⟩ := rd_len h.1.by8 n2 (Or.inr ⟨rfl, rfl, rfl⟩) hq
      have k5 := (tok_ok (p := y.1) h.1.by8 l2).1
      refine ⟨fun e q => (by cases q), fun y' q => ?_⟩
      cases q
      by_cases k4 : tK (tok b z y.1) = 4
      · exact Or.inl ⟨k4, u1 k4⟩
      · obtain ⟨M', a1, a2, a3, a4, a5, a6, a7, a8, a9, a10⟩ := u2 (by omega)
        refine Or.inr ⟨M', a1, a2, a3, ⟨a4, h.2.1.2⟩, ⟨a6, (A.2.1.fr a5 (by omega) (by omega) (fun j hj => by omega)).mn (Nat.le_add_right _ _), ⟨a7, a8, a9, Nat.le_refl _⟩, ⟨(a5.I (by omega)).trans A.2.2.2.1.1, A.2.2.2.1.2.1, fun i l e => ⟨(a5.L (by omega)).trans (A.2.2.2.1.2.2 i l e).1, (A.2.2.2.1.2.2 i l e).2⟩⟩, fun i i1 i2 => (a5.I (by omega)).trans (A.2.2.2.2 i i1 i2)⟩, a10⟩
theorem cwm : (1885431653 : Int64) = lN (pk8 (ow 4)) ∧ (1751738216 : Int64) = lN (pk8 (ow 5)) ∧ (7106423 : Int64) = lN (pk8 (ow 6)) ∧ (7170404 : Int64) = lN (pk8 (ow 7)) ∧ (1937007984 : Int64) = lN (pk8 (ow 8)) ∧ (474315584357 : Int64) = lN (pk8 (ow 9)) ∧ (110442557371507 : Int64) = lN (pk8 (ow 10)) ∧ (500135716211 : Int64) = lN (pk8 (ow 11)) := by decide +kernel
theorem MR2.bs {res : Option Mem} {q : SRs} (h : MR2 b z bi M res q) : MR2 b z bi M (Option.bind res fun M18 => some M18) q := by
  cases res with
  | none => exact h
  | some x => exact h
theorem m_stm (h : MSs b z bi M p s) : MR2 b z bi M (f_X12_statement 355 M) (stA b z p s) := by
  have hok := h.1.ok
  have hz := h.1.1.1.2.1
  unfold f_X12_statement f_X12_statement_183 stA
  by_cases k4 : tK (tok b z p) = 4
  · have hv : tBd (tok b z p) = tV (tok b z p) := by unfold tBd; rw [if_pos k4]
    rw [if_neg (by omega), m_lex4 h.1.1.2.1 h.1.2 k4 (by have := hok.2.2.2.2.2.2.2; omega), b_i, zI_sn _ _ (by omega), zI_se, if_neg (by decide)]
    exact MR2.l rfl (mfl_at (e := (1, tBd (tok b z p))) (y := nI (tV (tok b z p))) rfl (by rw [hv]))
  have hk3 : tK (tok b z p) ≤ 3 := by omega
  rw [m_lex h.1.1.2.1 hk3, b_i, h.1.2, if_pos (show (0 : Int32) ≤ 0 by decide), h.1.ow hk3 4 cwm.1 (by decide), b_i]
  dsimp only
  have fin : MR2 b z bi M (Option.bind (f_X12_blame 355 1 (zI M 355 4) M) fun M10 => some M10) (.inl (1, tBd (tok b z p))) := by
    rw [m_blame h.1.2, b_i]
    exact MR2.l rfl (mfl_at (e := (1, tBd (tok b z p))) (y := zI M 355 4) rfl (by rw [h.1.1.2.1.1]; unfold tBd; rw [if_neg k4]))
  by_cases k1 : tK (tok b z p) = 1
  · have ow' : ∀ i, isOw (tok b z p) i = decide (owi (tL (tok b z p)) = i) := fun i => by unfold isOw; rw [decide_eq_true k1]; rfl
    rw [if_pos k1, ow']
    by_cases c4 : owi (tL (tok b z p)) = 4
    · rw [decide_eq_true c4, if_neg b01_n0, if_pos c4]; exact (m_page h k1).bs
    rw [decide_eq_false c4, if_pos b01_f, if_neg c4, h.1.ow hk3 5 cwm.2.1 (by decide), b_i, ow']
    dsimp only
    have se : ∀ i, 5 ≤ i ∧ i ≤ 9 → owi (tL (tok b z p)) = i → ∀ {v x y : Int32}, v = nI (i - 1) → x = nI (lwA i) → y = nI (upA i) → MR2 b z bi M (Option.bind (f_X12_telling 355 v x y M) fun M18 => some M18) (if owi (tL (tok b z p)) = 10 then drA b z p s else if owi (tL (tok b z p)) = 11 then trA b z p s else if 5 ≤ owi (tL (tok b z p)) ∧ owi (tL (tok b z p)) ≤ 9 then seA b z p s else .inl (1, tBd (tok b z p))) := fun i hi e v x y hv hx hy => by
      rw [if_neg (by omega), if_neg (by omega), if_pos (by omega)]
      unfold seA
      rw [e]
      refine (m_telling h k1 hx hy ?_ ?_ (by omega) hv).bs
      · unfold lwA; split <;> (try split) <;> (try split) <;> (try split) <;> decide
      · unfold upA; split <;> (try split) <;> (try split) <;> (try split) <;> decide
    by_cases c5 : owi (tL (tok b z p)) = 5
    · rw [decide_eq_true c5, if_neg b01_n0]; exact se 5 (by decide) c5 rfl rfl rfl
    rw [decide_eq_false c5, if_pos b01_f, h.1.ow hk3 6 cwm.2.2.1 (by decide), b_i, ow']
    dsimp only
    by_cases c6 : owi (tL (tok b z p)) = 6
    · rw [decide_eq_true c6, if_neg b01_n0]; exact se 6 (by decide) c6 rfl rfl rfl
    rw [decide_eq_false c6, if_pos b01_f, h.1.ow hk3 7 cwm.2.2.2.1 (by decide), b_i, ow']
    dsimp only
    by_cases c7 : owi (tL (tok b z p)) = 7
    · rw [decide_eq_true c7, if_neg b01_n0]; exact se 7 (by decide) c7 rfl rfl rfl
    rw [decide_eq_false c7, if_pos b01_f, h.1.ow hk3 8 cwm.2.2.2.2.1 (by decide), b_i, ow']
    dsimp only
    by_cases c8 : owi (tL (tok b z p)) = 8
    · rw [decide_eq_true c8, if_neg b01_n0]; exact se 8 (by decide) c8 rfl rfl rfl
    rw [decide_eq_false c8, if_pos b01_f, h.1.ow hk3 9 cwm.2.2.2.2.2.1 (by decide), b_i, ow']
    dsimp only
    by_cases c9 : owi (tL (tok b z p)) = 9
    · rw [decide_eq_true c9, if_neg b01_n0]; exact se 9 (by decide) c9 rfl rfl rfl
    rw [decide_eq_false c9, if_pos b01_f, h.1.ow hk3 10 cwm.2.2.2.2.2.2.1 (by decide), b_i, ow']
    dsimp only
    by_cases c10 : owi (tL (tok b z p)) = 10
    · rw [decide_eq_true c10, if_neg b01_n0, if_pos c10]; exact (m_dr h k1).bs
    rw [decide_eq_false c10, if_pos b01_f, if_neg c10, h.1.ow hk3 11 cwm.2.2.2.2.2.2.2 (by decide), b_i, ow']
    dsimp only
    by_cases c11 : owi (tL (tok b z p)) = 11
    · rw [decide_eq_true c11, if_neg b01_n0, if_pos c11]; exact (m_tr h k1).bs
    rw [decide_eq_false c11, if_pos b01_f, if_neg c11, if_neg (by omega)]
    exact fin
  · have ow' : ∀ i, isOw (tok b z p) i = false := fun i => Bool.eq_false_iff.mpr (fun q => k1 (isOw_iff.mp q).1)
    rw [if_neg k1, ow', if_pos b01_f, h.1.ow hk3 5 cwm.2.1 (by decide), b_i, ow']
    dsimp only
    rw [if_pos b01_f, h.1.ow hk3 6 cwm.2.2.1 (by decide), b_i, ow']
    dsimp only
    rw [if_pos b01_f, h.1.ow hk3 7 cwm.2.2.2.1 (by decide), b_i, ow']
    dsimp only
    rw [if_pos b01_f, h.1.ow hk3 8 cwm.2.2.2.2.1 (by decide), b_i, ow']
    dsimp only
    rw [if_pos b01_f, h.1.ow hk3 9 cwm.2.2.2.2.2.1 (by decide), b_i, ow']
    dsimp only
    rw [if_pos b01_f, h.1.ow hk3 10 cwm.2.2.2.2.2.2.1 (by decide), b_i, ow']
    dsimp only
    rw [if_pos b01_f, h.1.ow hk3 11 cwm.2.2.2.2.2.2.2 (by decide), b_i, ow']
    dsimp only
    rw [if_pos b01_f]
    exact fin
end
