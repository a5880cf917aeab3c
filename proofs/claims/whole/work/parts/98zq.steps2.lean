/-! chip: the model's loop, what opens -/
section
variable {b : Nat → Nat} {z : Nat} {w : Bool} {bi a o p : Nat} {M : Mem} {fs r : List Frm} {cs : Cds} {k ph pr : Nat} {bg opd : Bool} {ops : List Nat} {x1 : Int32}
theorem st_open2 (h : MSt b z w bi a M ((k, ph, bg, pr, ops) :: r) o cs p false) (h10 : k < 10) (ns : tst6 k = true → bg = true → isOw (tok b z p) 23 = false ∧ isSg (tok b z p) 91 = false ∧ isOw (tok b z p) 24 = false) (s40 : isSg (tok b z p) 40 = true) : (o < 7 → r.length < 8 → OKs b z w bi a x1 M 1 ((2, 0, true, 0, []) :: (k, ph, false, pr, ops) :: r) (o + 1) cs (nxp b z p) false) ∧ (¬ o < 7 → BDs bi a x1 M 2 (5, tS (tok b z p))) := by
  obtain ⟨ht, h33, hq, hb1, hb2, hb3, hb4⟩ := id h
  rw [List.length_cons] at hb1
  have k3 := (isSg_iff.mp s40).1
  obtain ⟨M1, a1, a2, a3, a4⟩ := op_171 ht hq (by omega) (by omega) h10 ns
  have e : f_X12_operand_171 355 M1 = Option.bind (f_X12_opens 355 2 M1) (fun M30 => some (0, M30)) := by
    unfold f_X12_operand_171
    rw [a3.sg 40 (x := 40) rfl (by decide), b_i, s40]
    exact if_neg b01_n0
  constructor
  · intro o7 hr
    obtain ⟨M2, b1, b2, b3, b4, b5, b6, b7, b8⟩ := m_opens (kd := 2) (x := 2) a3 a4 (by omega) (by omega) o7 rfl (by rw [List.length_cons]; omega)
    refine h.okO (v := false) (by rw [a1, e, b1, b_i]; rfl) ((W366 a2).tr b2) b3 (b7 (by unfold isP6; omega)) ⟨by rw [List.length_cons, List.length_cons]; omega, ?_, by omega, ?_⟩
    · rw [tot]; show 0 + tot ((k, ph, bg, pr, ops) :: r) ≤ 100; omega
    · rw [wtf]; show a + cs.length + (0 + 0 + wtf ((k, ph, bg, pr, ops) :: r)) ≤ nxp b z p; omega
  · intro o7
    have o7 : o = 7 := by omega
    subst o7
    obtain ⟨M2, b1, b2⟩ := m_opens7 (x := 2) a3 a4
    exact h.bdO (v := false) (by rw [a1, e, b1, b_i]; rfl) (b2.fr (W366 a2)) (show 0 < 5 ∧ 5 < 10 by decide)
theorem st_pair {c kd i : Nat} (h : MSt b z w bi a M ((k, ph, bg, pr, ops) :: r) o cs p false) (h10 : k < 10) (ns : tst6 k = true → bg = true → isOw (tok b z p) 23 = false ∧ isSg (tok b z p) 91 = false ∧ isOw (tok b z p) 24 = false) (hc : (i = 25 ∧ c = 36 ∧ kd = 3) ∨ (i = 26 ∧ c = 37 ∧ kd = 3) ∨ (i = 20 ∧ c = 44 ∧ kd = 6)) (hi : isOw (tok b z p) i = true) (hr : r.length < 8) : (∀ e, opn b z 40 o (nxp b z p) cs = .inl e → BDs bi a x1 M 2 e) ∧ (∀ p1 cs1, opn b z 40 o (nxp b z p) cs = .inr (p1, cs1) → OKs b z w bi a x1 M 1 ((kd, 0, true, c, []) :: (k, ph, false, pr, ops) :: r) (o + 1) cs1 p1 false) := by
  obtain ⟨ht, h33, hq, hb1, hb2, hb3, hb4⟩ := id h
  rw [List.length_cons] at hb1
  have k1 := (isOw_iff.mp hi).1
  have hoi := (isOw_iff.mp hi).2
  have ow' : ∀ j, isOw (tok b z p) j = decide (j = i) := fun j => by
    by_cases q : j = i
    · rw [q, hi, decide_eq_true rfl]
    · rw [decide_eq_false q]; exact Bool.eq_false_iff.mpr (fun z => q ((isOw_iff.mp z).2.symm.trans hoi))
  obtain ⟨M1, a1, a2, a3, a4⟩ := op_171 ht hq (by omega) (by omega) h10 ns
  have e : f_X12_operand_171 355 M1 = f_X12_operand_249 355 (nI c) M1 := by
    have s40 : isSg (tok b z p) 40 = false := Bool.eq_false_iff.mpr (fun q => by have := (isSg_iff.mp q).1; omega)
    have w25 := a3.ow (by omega) 25 cw.2.2.1 (by decide)
    have w26 := a3.ow (by omega) 26 cw.2.2.2.1 (by decide)
    have w20 := a3.ow (by omega) 20 cw.2.2.2.2.1 (by decide)
    rw [ow'] at w25 w26 w20
    unfold f_X12_operand_171 f_X12_operand_217
    rw [a3.sg 40 (x := 40) rfl (by decide), b_i, s40]
    dsimp only
    rw [if_pos b01_f, w25, b_i]
    dsimp only
    rcases hc with ⟨i1, i2, i3⟩ | ⟨i1, i2, i3⟩ | ⟨i1, i2, i3⟩
    · subst i1; subst i2
      rw [if_neg (show ¬ b01 (decide (25 = 25)) = 0 by decide), w25, b_i]
      exact if_neg b01_n0
    · subst i1; subst i2
      rw [if_pos (show b01 (decide (25 = 26)) = 0 from rfl), w26, b_i]
      dsimp only
      rw [if_neg (show ¬ b01 (decide (26 = 26)) = 0 by decide), w25, b_i]
      dsimp only
      rw [if_pos (show b01 (decide (25 = 26)) = 0 from rfl), w26, b_i]
      exact if_neg b01_n0
    · subst i1; subst i2
      rw [if_pos (show b01 (decide (25 = 20)) = 0 from rfl), w26, b_i]
      dsimp only
      rw [if_pos (show b01 (decide (26 = 20)) = 0 from rfl), w20, b_i]
      dsimp only
      rw [if_neg (show ¬ b01 (decide (20 = 20)) = 0 by decide), w25, b_i]
      dsimp only
      rw [if_pos (show b01 (decide (25 = 20)) = 0 from rfl), w26, b_i]
      exact if_pos rfl
  obtain ⟨M2, b1, b2, b3, b4, b5, b6⟩ := a3.ahead (by omega) (by omega) a4
  have g2 : FR (Wmp bi a) M M2 := (W366 a2).tr (b2.mo (fun x j z => by unfold Wah at z; unfold Wmp; omega))
  have hkd : (if nI c = (44 : Int32) then f_X12_operand_289 355 (nI c) 355 6 else f_X12_operand_289 355 (nI c) 355 3) = f_X12_operand_289 355 (nI c) 355 (nI kd) := by
    rcases hc with ⟨i1, i2, i3⟩ | ⟨i1, i2, i3⟩ | ⟨i1, i2, i3⟩
    · subst i2; subst i3; exact if_neg (by decide)
    · subst i2; subst i3; exact if_neg (by decide)
    · subst i2; subst i3; exact if_pos rfl
  have h276 : ∀ N, f_X12_operand_276 355 (nI c) N = f_X12_operand_289 355 (nI c) 355 (nI kd) N := fun N => by
    rw [← hkd]
    unfold f_X12_operand_276
    by_cases q : nI c = (44 : Int32)
    · rw [if_pos q, if_pos q]
    · rw [if_neg q, if_neg q]
  have flt2 : ∀ N e', FLT bi a M2 N e' → 0 < e'.1 ∧ e'.1 < 10 → f_X12_operand_249 355 (nI c) M1 = f_X12_operand_289 355 (nI c) 355 (nI kd) N → BDs bi a x1 M 2 e' := fun N e' fl he q => by
    have n8 : ¬ zI N 355 8 ≤ 0 := by rw [fl.2.1]; exact nI_nle he.1 (by omega)
    have n8' : ¬ zI N 355 8 = 0 := by rw [fl.2.1]; exact nI_ne0 he.1 (by omega)
    refine h.bdO (v := false) (M1 := N) ?_ (fl.fr g2) he
    rw [a1, e, q]
    unfold f_X12_operand_289 f_X12_operand_311
    rw [m_opensF n8, b_i, if_neg n8']; rfl
  have hok := b3.ok
  have hz := ht.1.1.2.1
  have u249 : f_X12_operand_249 355 (nI c) M1 = Option.bind (f_X12_lex 355 M2) fun M9 => Option.bind (f_X12_isSign 355 40 M9) fun z10 => (if z10.1 = 0 then Option.bind (f_X12_blame 355 1 (zI z10.2 355 4) z10.2) fun M11 => f_X12_operand_289 355 (nI c) 355 (nI kd) M11 else f_X12_operand_289 355 (nI c) 355 (nI kd) z10.2) := by
    unfold f_X12_operand_249
    rw [b1, b_i]
    simp only [h276]
  unfold opn
  by_cases k4 : tK (tok b z (nxp b z p)) = 4
  · have s40 : isSg (tok b z (nxp b z p)) 40 = false := Bool.eq_false_iff.mpr (fun q => by have := (isSg_iff.mp q).1; omega)
    rw [s40, if_neg (show ¬ false = true by decide)]
    refine ⟨fun e' he => ?_, fun p1 cs1 he => by unfold bad1 at he; cases he⟩
    unfold bad1 at he
    cases he
    have hv : tBd (tok b z (nxp b z p)) = tV (tok b z (nxp b z p)) := by unfold tBd; rw [if_pos k4]
    have fl : FLT bi a M2 (zsI (zsI M2 355 8 1) 355 9 (nI (tV (tok b z (nxp b z p))))) (1, tBd (tok b z (nxp b z p))) := flt_at rfl (by rw [hv])
    refine flt2 _ _ fl (show 0 < 1 ∧ 1 < 10 by decide) ?_
    have hT : TM (zsI (zsI M2 355 8 1) 355 9 (nI (tV (tok b z (nxp b z p))))) (tok b z (nxp b z p)) := b3.1.2.1.fr (W := fun x j => x = 355 ∧ (j = 8 ∨ j = 9)) (FR.sI (FR.sI (FR.rf _ M2) (by omega)) (by omega)) (fun j _ => by omega)
    rw [u249, m_lex4 b3.1.2.1 b3.2 k4 (by have := hok.2.2.2.2.2.2.2; omega), b_i, tm_sg hT hok.2.2.2.2.2.2.1 hok.1 (c := 40) (x := 40) rfl (by decide), b_i, s40]
    dsimp only
    rw [if_pos b01_f, m_blame2 (by rw [zI_sn _ _ (by omega), zI_se]; decide), b_i]
  · have hk3 : tK (tok b z (nxp b z p)) ≤ 3 := by have := hok.1; omega
    cases s40 : isSg (tok b z (nxp b z p)) 40 with
    | false =>
      rw [if_neg (show ¬ false = true by decide)]
      refine ⟨fun e' he => ?_, fun p1 cs1 he => by unfold bad1 at he; cases he⟩
      unfold bad1 at he
      cases he
      have fl : FLT bi a M2 (zsI (zsI M2 355 8 1) 355 9 (zI M2 355 4)) (1, tBd (tok b z (nxp b z p))) := flt_at rfl (by rw [b3.1.2.1.1]; unfold tBd; rw [if_neg k4])
      refine flt2 _ _ fl (show 0 < 1 ∧ 1 < 10 by decide) ?_
      rw [u249, m_lex b3.1.2.1 hk3, b_i, b3.sg 40 (x := 40) rfl (by decide), b_i, s40]
      dsimp only
      rw [if_pos b01_f, m_blame b3.2, b_i]
    | true =>
      have k3 := (isSg_iff.mp s40).1
      rw [if_pos rfl]
      have u2 : f_X12_operand_249 355 (nI c) M1 = f_X12_operand_289 355 (nI c) 355 (nI kd) M2 := by
        rw [u249, m_lex b3.1.2.1 hk3, b_i, b3.sg 40 (x := 40) rfl (by decide), b_i, s40]
        exact if_neg b01_n0
      by_cases o7 : o < 7
      · rw [if_pos o7]
        refine ⟨fun e' he => (by cases he), fun p1 cs1 he => ?_⟩
        cases he
        obtain ⟨M3, c1, c2, c3, c4, c5, c6, c7, c8⟩ := m_opens (kd := kd) (x := nI kd) b3 b4 (by omega) (by omega) o7 rfl (by rw [List.length_cons]; omega)
        have g3 : FR (Wmp bi a) M (zsI M3 367 (r.length + 1) (nI c)) := (g2.tr c2).sI (by unfold Wmp; omega)
        have f3 : FR (fun x j => x = 367) M3 (zsI M3 367 (r.length + 1) (nI c)) := (FR.rf (fun x j => x = 367) M3).sI rfl
        have c8 := c8 c
        rw [List.length_cons] at c8 c5
        refine h.okO (v := false) ?_ g3 (c3.fr f3 (fun j _ => by omega) (fun j => by omega)) c8 ⟨by rw [List.length_cons, List.length_cons]; omega, ?_, by omega, ?_⟩
        · rw [a1, e, u2]
          unfold f_X12_operand_289 f_X12_operand_311
          rw [c1, b_i, c3.2, if_pos rfl, w355_27 c6, b_i, c5, nI_pred, zl_at 20 rfl (by omega) (by decide), b_i, b_i]; rfl
        · rw [tot]; show 0 + tot ((k, ph, bg, pr, ops) :: r) ≤ 100; omega
        · rw [wtf]
          have hp1 : pw1 kd ≤ 1 := by unfold pw1; by_cases q : kd = 3 ∨ kd = 4 ∨ kd = 6 <;> simp [q]
          show a + cs.length + (0 + pw1 kd + wtf ((k, ph, bg, pr, ops) :: r)) ≤ nxp b z (nxp b z p)
          omega
      · rw [if_neg o7]
        have o7 : o = 7 := by omega
        subst o7
        refine ⟨fun e' he => ?_, fun p1 cs1 he => (by cases he)⟩
        cases he
        obtain ⟨M3, c1, c2⟩ := m_opens7 (x := nI kd) b3 b4
        refine h.bdO (v := false) (M1 := M3) ?_ (c2.fr g2) (show 0 < 5 ∧ 5 < 10 by decide)
        rw [a1, e, u2]
        unfold f_X12_operand_289 f_X12_operand_311
        rw [c1, b_i, if_neg (by rw [c2.2.1]; exact (by decide : ¬ nI 5 = 0))]; rfl
theorem op_fst (h : MTk b z M p) (q : MQz w bi a M ((k, ph, true, pr, ops) :: r) o cs) (hk : tK (tok b z p) ≤ 3) (hl : r.length < 20) (h10 : k < 10) (ht : tst6 k = true) : f_X12_operand 355 M = f_X12_operand_46 355 (nI r.length) (b01 true) M := by
  rw [op_pre h q hk hl h10, ht]; rfl
theorem st_not (h : MSt b z w bi a M ((k, ph, true, pr, ops) :: r) o cs p false) (h10 : k < 10) (ht6 : tst6 k = true) (hi : isOw (tok b z p) 23 = true) (htt : tot ((k, ph, true, pr, ops) :: r) < 100) : (o < 7 → OKs b z w bi a x1 M 1 ((k, ph, true, pr, 43 :: ops) :: r) (o + 1) cs (nxp b z p) false) ∧ (¬ o < 7 → BDs bi a x1 M 2 (5, tS (tok b z p))) := by
  obtain ⟨ht, h33, hq, hb1, hb2, hb3, hb4⟩ := id h
  rw [List.length_cons] at hb1
  have k1 := (isOw_iff.mp hi).1
  have e : f_X12_operand 355 M = (if zI M 355 30 = 7 then Option.bind (f_X12_blame 355 5 (zI M 355 4) M) fun M43 => f_X12_operand_79 355 M43 else f_X12_operand_79 355 M) := by
    rw [op_fst ht hq (by omega) (by omega) h10 ht6]
    unfold f_X12_operand_46
    rw [if_neg b01_n0, ht.ow (by omega) 23 cw.1 (by decide), b_i, hi]
    exact if_neg b01_n0
  constructor
  · intro o7
    obtain ⟨f1, q1⟩ := m_op hq (o + 1) (v := nI o + 1) (nI_1 o)
    obtain ⟨M2, b1, b2, b3⟩ := m_holds (q := 43) q1 (by decide) (by omega)
    have t2 : MTk b z M2 p := (ht.fr f1 (fun j _ => by omega) (fun j => by omega)).fr b2 (fun j _ => by omega) (fun j => by omega)
    obtain ⟨M3, c1, c2, c3, c4, c5, c6⟩ := t2.ahead (by omega) (by omega) b3
    refine h.okO (v := false) ?_ ((f1.mo (fun x j z => by unfold Wmp; omega)).tr ((b2.mo (fun x j z => by unfold Wmp; omega)).tr (c2.mo (fun x j z => by unfold Wah at z; unfold Wmp; omega)))) c3 c4 ⟨by rw [List.length_cons]; omega, ?_, by omega, ?_⟩
    · rw [e, hq.1.2.2.1, if_neg (show ¬ nI o = (7 : Int32) from fun e => by have := (nI_eq (b := 7) (by omega) (by decide)).mp e; omega)]
      unfold f_X12_operand_79
      rw [ht.2, if_pos (by decide), hq.1.2.2.1, b_i]
      have b1 : f_X12_holdsBack 355 43 (zsI M 355 30 (nI o + 1)) = some M2 := b1
      rw [b1, b_i, c1, b_i]; rfl
    · rw [tot] at htt ⊢; show (43 :: ops).length + tot r ≤ 100
      have : ops.length + tot r < 100 := htt
      rw [List.length_cons]; omega
    · rw [wtf] at hb4 ⊢
      have : a + cs.length + (ops.length + pw1 k + wtf r) ≤ p := hb4
      show a + cs.length + ((43 :: ops).length + pw1 k + wtf r) ≤ nxp b z p
      rw [List.length_cons]; omega
  · intro o7
    have o7 : o = 7 := by omega
    subst o7
    refine h.bdO (v := true) (M1 := zsI (zsI M 355 8 5) 355 9 (zI M 355 4)) ?_ (flt_at rfl ht.1.2.1.1) (show 0 < 5 ∧ 5 < 10 by decide)
    rw [e, hq.1.2.2.1, if_pos (show nI 7 = (7 : Int32) from rfl), m_blame ht.2, b_i]
    unfold f_X12_operand_79
    rw [zI_sn _ _ (by omega), zI_se, if_neg (by decide)]; rfl
theorem st_open5 (h : MSt b z w bi a M ((k, ph, true, pr, ops) :: r) o cs p false) (h10 : k < 10) (ht6 : tst6 k = true) (s91 : isSg (tok b z p) 91 = true) : (o < 7 → r.length < 8 → OKs b z w bi a x1 M 1 ((5, 0, true, 0, []) :: (k, ph, false, pr, ops) :: r) (o + 1) cs (nxp b z p) false) ∧ (¬ o < 7 → BDs bi a x1 M 2 (5, tS (tok b z p))) := by
  obtain ⟨ht, h33, hq, hb1, hb2, hb3, hb4⟩ := id h
  rw [List.length_cons] at hb1
  have k3 := (isSg_iff.mp s91).1
  obtain ⟨f1, q1⟩ := m_bg hq false
  have h1 : MTk b z (zsI M 366 r.length (b01 false)) p := ht.fr f1 (fun j _ => by omega) (fun j => by omega)
  have e : f_X12_operand 355 M = Option.bind (f_X12_opens 355 5 (zsI M 366 r.length (b01 false))) (fun M41 => some (0, M41)) := by
    rw [op_fst ht hq (by omega) (by omega) h10 ht6]
    unfold f_X12_operand_46 f_X12_operand_110
    rw [if_neg b01_n0, ht.ow (by omega) 23 cw.1 (by decide), b_i, show isOw (tok b z p) 23 = false from Bool.eq_false_iff.mpr (fun q => by have := (isOw_iff.mp q).1; omega)]
    dsimp only
    rw [if_pos b01_f, w355_26 hq.1.1, b_i, zl_at 20 rfl (by omega) (by decide), b_i, b_i, if_neg b01_n0, show zsI M 366 r.length (0 : Int32) = zsI M 366 r.length (b01 false) from rfl, h1.sg 91 (x := 91) rfl (by decide), b_i, s91]
    exact if_neg b01_n0
  constructor
  · intro o7 hr
    obtain ⟨M2, b1, b2, b3, b4, b5, b6, b7, b8⟩ := m_opens (kd := 5) (x := 5) h1 q1 (by omega) (by omega) o7 rfl (by rw [List.length_cons]; omega)
    refine h.okO (v := false) (by rw [e, b1, b_i]; rfl) ((W366 f1).tr b2) b3 (b7 (by unfold isP6; omega)) ⟨by rw [List.length_cons, List.length_cons]; omega, ?_, by omega, ?_⟩
    · rw [tot]; show 0 + tot ((k, ph, true, pr, ops) :: r) ≤ 100; omega
    · rw [wtf]; show a + cs.length + (0 + 0 + wtf ((k, ph, true, pr, ops) :: r)) ≤ nxp b z p; omega
  · intro o7
    have o7 : o = 7 := by omega
    subst o7
    obtain ⟨M2, b1, b2⟩ := m_opens7 (x := 5) h1 q1
    exact h.bdO (v := false) (by rw [e, b1, b_i]; rfl) (b2.fr (W366 f1)) (show 0 < 5 ∧ 5 < 10 by decide)
theorem st_all (h : MSt b z w bi a M ((k, ph, true, pr, ops) :: r) o cs p false) (h10 : k < 10) (ht6 : tst6 k = true) (hi : isOw (tok b z p) 24 = true) : OKs b z w bi a x1 M 1 ((k, 2, false, pr, ops) :: r) o (cs ++ [(30, 0)]) (nxp b z p) true := by
  obtain ⟨ht, h33, hq, hb1, hb2, hb3, hb4⟩ := id h
  rw [List.length_cons] at hb1
  have k1 := (isOw_iff.mp hi).1
  have hz := ht.1.1.2.1
  have hpz := ht.1.2.2
  obtain ⟨n1, n2⟩ := ht.ok.2.2.2.1 (by omega) (by omega)
  obtain ⟨f1, q1⟩ := m_bg hq false
  have h1 : MTk b z (zsI M 366 r.length (b01 false)) p := ht.fr f1 (fun j _ => by omega) (fun j => by omega)
  obtain ⟨M2, b1, b2, b3⟩ := m_add (s := 30) (x := 0) (v := 0) q1 (by omega) (fun q => absurd q (by decide))
  have hb := hq.2.1.2
  obtain ⟨f3, q3⟩ := m_ph b3 2
  have t3 : MTk b z (zsI M2 365 r.length (nI 2)) p := (h1.fr b2 (fun j _ => by omega) (fun j => by omega)).fr f3 (fun j _ => by omega) (fun j => by omega)
  obtain ⟨M4, c1, c2, c3, c4, c5, c6⟩ := t3.ahead (by omega) (by omega) q3
  refine h.okO (v := true) ?_ ((W366 f1).tr ((b2.mo (fun x j z => by unfold Wmp; omega)).tr ((f3.mo (fun x j z => by unfold Wmp; omega)).tr (c2.mo (fun x j z => by unfold Wah at z; unfold Wmp; omega))))) c3 c4 ⟨by rw [List.length_cons]; omega, hb2, hb3, ?_⟩
  · rw [op_fst ht hq (by omega) (by omega) h10 ht6]
    unfold f_X12_operand_46 f_X12_operand_110 f_X12_operand_137
    rw [if_neg b01_n0, ht.ow (by omega) 23 cw.1 (by decide), b_i, show isOw (tok b z p) 23 = false from Bool.eq_false_iff.mpr (fun q => by have := (isOw_iff.mp q).2; have := (isOw_iff.mp hi).2; omega)]
    dsimp only
    rw [if_pos b01_f, w355_26 hq.1.1, b_i, zl_at 20 rfl (by omega) (by decide), b_i, b_i, if_neg b01_n0, show zsI M 366 r.length (0 : Int32) = zsI M 366 r.length (b01 false) from rfl, h1.sg 91 (x := 91) rfl (by decide), b_i, show isSg (tok b z p) 91 = false from Bool.eq_false_iff.mpr (fun q => by have := (isSg_iff.mp q).1; omega)]
    dsimp only
    rw [if_pos b01_f, if_neg b01_n0, h1.ow (by omega) 24 cw.2.1 (by decide), b_i, hi]
    dsimp only
    have b1 : f_X12_add 355 30 0 (zsI M 366 r.length (b01 false)) = some M2 := b1
    rw [if_neg b01_n0, b1, b_i, w355_25 b3.1.1, b_i, zl_at 20 rfl (by omega) (by decide), b_i, b_i]
    have c1 : f_X12_ahead 355 (zsI M2 365 r.length 2) = some M4 := c1
    rw [c1, b_i]; rfl
  · rw [List.length_append]
    show a + (cs.length + 1) + wtf ((k, ph, true, pr, ops) :: r) ≤ nxp b z p
    omega
end
