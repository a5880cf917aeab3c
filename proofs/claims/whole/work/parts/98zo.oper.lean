/-! chip: the model's operands -/
theorem cw : (7237492 : Int64) = lN (pk8 (ow 23)) ∧ (6384748 : Int64) = lN (pk8 (ow 24)) ∧ (7170414 : Int64) = lN (pk8 (ow 25)) ∧ (7168376 : Int64) = lN (pk8 (ow 26)) ∧ (26982 : Int64) = lN (pk8 (ow 20)) ∧ (6385252 : Int64) = lN (pk8 (ow 22)) ∧ (28530 : Int64) = lN (pk8 (ow 21)) := by decide +kernel
theorem cv : (6578553 : Int64) = lN (pk8 (ow 12)) ∧ (1885431653 : Int64) = lN (pk8 (ow 4)) ∧ (1667591276 : Int64) = lN (pk8 (ow 13)) ∧ (465558725996 : Int64) = lN (pk8 (ow 14)) ∧ (6449524 : Int64) = lN (pk8 (ow 15)) ∧ (6383461 : Int64) = lN (pk8 (ow 16)) ∧ (500135716196 : Int64) = lN (pk8 (ow 17)) ∧ (6775152 : Int64) = lN (pk8 (ow 18)) ∧ (24948 : Int64) = lN (pk8 (ow 19)) := by decide +kernel
def tst6 (k : Nat) : Bool := decide (k = 1 ∨ k = 5 ∨ k = 6)
theorem m_isTest {k : Nat} (hk : k < 10) (M : Mem) : f_X12_isTest (nI k) M = some (b01 (tst6 k), M) := by
  unfold f_X12_isTest f_X12_isTest_16 f_X12_isTest_21 tst6
  by_cases c1 : k = 1
  · rw [if_pos (show nI k = (1 : Int32) by rw [c1]; rfl), zbz1, decide_eq_true (Or.inl c1)]; rfl
  rw [if_neg (show ¬ nI k = (1 : Int32) from fun e => c1 ((nI_eq (b := 1) (by omega) (by decide)).mp e))]
  by_cases c5 : k = 5
  · rw [if_pos (show nI k = (5 : Int32) by rw [c5]; rfl), zbz1, decide_eq_true (Or.inr (Or.inl c5))]; rfl
  rw [if_neg (show ¬ nI k = (5 : Int32) from fun e => c5 ((nI_eq (b := 5) (by omega) (by decide)).mp e))]
  by_cases c6 : k = 6
  · rw [if_pos (show nI k = (6 : Int32) by rw [c6]; rfl), zbz1, decide_eq_true (Or.inr (Or.inr c6))]; rfl
  rw [if_neg (show ¬ nI k = (6 : Int32) from fun e => c6 ((nI_eq (b := 6) (by omega) (by decide)).mp e)), zbz0, decide_eq_false (by omega)]; rfl
section
variable {b : Nat → Nat} {z : Nat} {w : Bool} {bi a o p : Nat} {M : Mem} {fs r : List Frm} {cs : Cds} {k ph pr : Nat} {bg opd : Bool} {ops : List Nat}
def FLT (bi a : Nat) (M M' : Mem) (e : Nat × Nat) : Prop := FR (Wmp bi a) M M' ∧ zI M' 355 8 = nI e.1 ∧ zI M' 355 9 = nI e.2
theorem FLT.fr {M0 M' : Mem} {e : Nat × Nat} (f : FR (Wmp bi a) M M0) (h : FLT bi a M0 M' e) : FLT bi a M M' e := ⟨f.tr h.1, h.2⟩
theorem flt_at {x y : Int32} {e : Nat × Nat} (hx : x = nI e.1) (hy : y = nI e.2) : FLT bi a M (zsI (zsI M 355 8 x) 355 9 y) e := ⟨FR.sI (FR.sI (FR.rf _ M) (by unfold Wmp; omega)) (by unfold Wmp; omega), by rw [zI_sn _ _ (by omega), zI_se]; exact hx, by rw [zI_se]; exact hy⟩
theorem op_pre (h : MTk b z M p) (q : MQz w bi a M ((k, ph, bg, pr, ops) :: r) o cs) (hk : tK (tok b z p) ≤ 3) (hl : r.length < 20) (h10 : k < 10) : f_X12_operand 355 M = f_X12_operand_46 355 (nI r.length) (b01 (tst6 k && bg)) M := by
  obtain ⟨⟨hW, h29, -, -⟩, -, -, -, hF⟩ := q
  unfold f_X12_operand f_X12_operand_45
  rw [m_lex h.1.2.1 hk, b_i, h.2, if_pos (by decide), w355_24 hW, b_i, h29, List.length_cons, nI_pred, zl_at 20 rfl hl (by decide), b_i, hF.1.1, show fK6 (k, ph, bg, pr, ops) = k from rfl, m_isTest h10, b_i]
  dsimp only
  cases tst6 k with
  | false => exact if_pos rfl
  | true =>
    rw [if_neg b01_n0, w355_26 hW, b_i, zl_at 20 rfl hl (by decide), b_i, hF.1.2.2.1]
    cases bg with
    | false => exact if_pos rfl
    | true => exact if_neg b01_n0
theorem op_bad (h : MTk b z M p) (hk : tK (tok b z p) = 4) : ∃ M', f_X12_operand 355 M = some (b01 true, M') ∧ FLT bi a M M' (1, tBd (tok b z p)) := by
  have hv : tBd (tok b z p) = tV (tok b z p) := by unfold tBd; rw [if_pos hk]
  have hl := h.ok.2.2.2.2.2.2.2
  have hz := h.1.1.2.1
  refine ⟨_, ?_, flt_at (x := 1) (y := nI (tV (tok b z p))) rfl (by rw [hv])⟩
  unfold f_X12_operand
  rw [m_lex4 h.1.2.1 h.2 hk (by omega), b_i, zI_sn _ _ (by omega), zI_se, if_neg (by decide)]
  rfl
/-- what comes ahead of a part -/
theorem op_171 (h : MTk b z M p) (q : MQz w bi a M ((k, ph, bg, pr, ops) :: r) o cs) (hk : tK (tok b z p) ≤ 3) (hl : r.length < 20) (h10 : k < 10) (ns : tst6 k = true → bg = true → isOw (tok b z p) 23 = false ∧ isSg (tok b z p) 91 = false ∧ isOw (tok b z p) 24 = false) : ∃ M1, f_X12_operand 355 M = f_X12_operand_171 355 M1 ∧ FR (fun x j => x = 366 ∧ j = r.length) M M1 ∧ MTk b z M1 p ∧ MQz w bi a M1 ((k, ph, false, pr, ops) :: r) o cs := by
  obtain ⟨f1, q1⟩ := m_bg q false
  have h1 : MTk b z (zsI M 366 r.length (b01 false)) p := h.fr f1 (fun j _ => by omega) (fun j => by omega)
  refine ⟨_, ?_, f1, h1, q1⟩
  have hW := q.1.1
  rw [op_pre h q hk hl h10]
  unfold f_X12_operand_46 f_X12_operand_110 f_X12_operand_137
  cases ht : (tst6 k && bg) with
  | false =>
    rw [if_pos b01_f, w355_26 hW, b_i, zl_at 20 rfl hl (by decide), b_i, b_i, if_pos b01_f, if_pos b01_f]; rfl
  | true =>
    rw [Bool.and_eq_true] at ht
    obtain ⟨n1, n2, n3⟩ := ns ht.1 ht.2
    rw [if_neg b01_n0, h.ow hk 23 cw.1 (by decide), b_i, n1]
    dsimp only
    rw [if_pos b01_f, w355_26 hW, b_i, zl_at 20 rfl hl (by decide), b_i, b_i, if_neg b01_n0]
    rw [show zsI M 366 r.length (0 : Int32) = zsI M 366 r.length (b01 false) from rfl, h1.sg 91 (x := 91) rfl (by decide), b_i, n2]
    dsimp only
    rw [if_pos b01_f, if_neg b01_n0, h1.ow hk 24 cw.2.1 (by decide), b_i, n3]
    exact if_pos rfl
theorem m_opens {kd : Nat} {x : Int32} (h : MTk b z M p) (q : MQz w bi a M fs o cs) (hk : tK (tok b z p) ≤ 3) (h0 : ¬ tK (tok b z p) = 0) (ho : o < 7) (hx : x = nI kd) (hl : fs.length < 20) : ∃ M', f_X12_opens 355 x M = some M' ∧ FR (Wmp bi a) M M' ∧ MTk b z M' (nxp b z p) ∧ p < nxp b z p ∧ zI M' 355 29 = nI (fs.length + 1) ∧ WRc M' ∧ (¬ isP6 kd → MQz w bi a M' ((kd, 0, true, 0, []) :: fs) (o + 1) cs) ∧ ∀ pr, MQz w bi a (zsI M' 367 fs.length (nI pr)) ((kd, 0, true, pr, []) :: fs) (o + 1) cs := by
  obtain ⟨f1, q1⟩ := m_op q (o + 1) (v := nI o + 1) (nI_1 o)
  have h1 : MTk b z (zsI M 355 30 (nI o + 1)) p := h.fr f1 (fun j _ => by omega) (fun j => by omega)
  obtain ⟨M2, a1, a2, a3, a4, a5, a6⟩ := h1.ahead hk h0 q1
  obtain ⟨M3, b1, b2, b3, b4, b5⟩ := m_push a4 hx hl
  have b5' := b5 0
  refine ⟨M3, ?_, (f1.mo (fun y j z => by unfold Wmp; omega)).tr ((a2.mo (fun y j z => by unfold Wah at z; unfold Wmp; omega)).tr (b2.mo (fun y j z => by unfold Wmp; omega))), a3.fr b2 (fun j _ => by omega) (fun j => by omega), a5, ?_, b2.W a4.1.1, b4, b5⟩
  · unfold f_X12_opens f_X12_opens_18
    rw [q.1.2.2.1, if_neg (show ¬ nI o = (7 : Int32) from fun e => by have := (nI_eq (b := 7) (by omega) (by decide)).mp e; omega), h.2, if_pos (by decide), b_i, a1, b_i, b1, b_i]
  · have := b5'.1.2.1
    rw [zI_sn _ _ (by omega), List.length_cons] at this
    exact this
theorem m_opens7 {x : Int32} (h : MTk b z M p) (q : MQz w bi a M fs 7 cs) : ∃ M', f_X12_opens 355 x M = some M' ∧ FLT bi a M M' (5, tS (tok b z p)) := by
  refine ⟨_, ?_, flt_at (x := 5) (y := zI M 355 4) rfl h.1.2.1.1⟩
  unfold f_X12_opens f_X12_opens_18
  rw [q.1.2.2.1, if_pos (show nI 7 = (7 : Int32) from rfl), m_blame h.2, b_i, zI_sn _ _ (by omega), zI_se, if_neg (by decide)]
theorem m_opensF {x : Int32} (h8 : ¬ zI M 355 8 ≤ 0) : f_X12_opens 355 x M = some M := by
  unfold f_X12_opens f_X12_opens_18
  by_cases q : zI M 355 30 = 7
  · rw [if_pos q, m_blame2 h8, b_i, if_neg h8]
  · rw [if_neg q, if_neg h8]
theorem m_505 {s v : Nat} {x : Int32} (h : MTk b z M p) (q : MQz w bi a M fs o cs) (hk : tK (tok b z p) ≤ 3) (h0 : ¬ tK (tok b z p) = 0) (hl : a + cs.length < 1600) (hx : x = nI s) (hv : s = 0 → zI M 355 6 = nI v) : ∃ M', f_X12_operand_505 355 x M = some (b01 true, M') ∧ FR (Wmp bi a) M M' ∧ MTk b z M' (nxp b z p) ∧ p < nxp b z p ∧ MQz w bi a M' fs o (cs ++ [(s, v)]) := by
  obtain ⟨M1, a1, a2, a3⟩ := m_add (s := s) (x := zI M 355 6) (v := v) q hl hv
  have h1 : MTk b z M1 p := h.fr a2 (fun j _ => by omega) (fun j => by omega)
  obtain ⟨M2, b1, b2, b3, b4, b5, b6⟩ := h1.ahead hk h0 a3
  have hb := q.2.1.2
  refine ⟨M2, ?_, (a2.mo (fun y j z => by unfold Wmp; omega)).tr (b2.mo (fun y j z => by unfold Wah at z; unfold Wmp; omega)), b3, b5, b4⟩
  unfold f_X12_operand_505
  rw [h.2, if_pos (by decide), hx, a1, b_i, b1, b_i]; rfl
def sof (t : Tok) : Nat := if isOw t 12 = true then 1 else if isOw t 4 = true then 2 else if isOw t 13 = true then 3 else if isOw t 14 = true then 4 else if isOw t 15 = true then 5 else if isOw t 16 = true then 6 else if isOw t 17 = true then 7 else if isOw t 18 = true then 8 else if isOw t 19 = true then 9 else 0
theorem sof_v (t : Tok) : vcd w t = (if sof t = 0 then 0 else if decide (7 ≤ sof t) = !w then sof t else 0) ∧ sof t ≤ 9 := by
  have key : ∀ w : Bool, ∀ i, i < 28 → (if w = true then (if i = 4 then 2 else if i = 12 then 1 else if 13 ≤ i ∧ i ≤ 16 then i - 10 else 0) else (if 17 ≤ i ∧ i ≤ 19 then i - 10 else 0)) = (if (if i = 12 then 1 else if i = 4 then 2 else if i = 13 then 3 else if i = 14 then 4 else if i = 15 then 5 else if i = 16 then 6 else if i = 17 then 7 else if i = 18 then 8 else if i = 19 then 9 else 0) = 0 then 0 else if decide (7 ≤ (if i = 12 then 1 else if i = 4 then 2 else if i = 13 then 3 else if i = 14 then 4 else if i = 15 then 5 else if i = 16 then 6 else if i = 17 then 7 else if i = 18 then 8 else if i = 19 then 9 else 0)) = !w then (if i = 12 then 1 else if i = 4 then 2 else if i = 13 then 3 else if i = 14 then 4 else if i = 15 then 5 else if i = 16 then 6 else if i = 17 then 7 else if i = 18 then 8 else if i = 19 then 9 else 0) else 0) ∧ (if i = 12 then 1 else if i = 4 then 2 else if i = 13 then 3 else if i = 14 then 4 else if i = 15 then 5 else if i = 16 then 6 else if i = 17 then 7 else if i = 18 then 8 else if i = 19 then 9 else 0) ≤ 9 := by decide +kernel
  by_cases k1 : tK t = 1
  · have e : ∀ i, (isOw t i = true) = (owi (tL t) = i) := fun i => propext ⟨fun q => (isOw_iff.mp q).2, fun q => isOw_iff.mpr ⟨k1, q⟩⟩
    unfold sof vcd
    simp only [e, if_pos k1]
    exact key w (owi (tL t)) (by have := owi_le (tL t); omega)
  · have e : ∀ i, isOw t i = false := fun i => Bool.eq_false_iff.mpr (fun q => k1 (isOw_iff.mp q).1)
    unfold sof vcd
    simp only [e, if_neg k1]
    exact ⟨rfl, by decide⟩
theorem op_val (h : MTk b z M p) (q : MQz w bi a M fs o cs) (hk : tK (tok b z p) ≤ 3) (k2 : ¬ tK (tok b z p) = 2) (s40 : isSg (tok b z p) 40 = false) (o25 : isOw (tok b z p) 25 = false) (o26 : isOw (tok b z p) 26 = false) (o20 : isOw (tok b z p) 20 = false) : f_X12_operand_171 355 M = f_X12_operand_456 355 (if sof (tok b z p) = 0 then -1 else nI (sof (tok b z p))) M := by
  unfold f_X12_operand_171 sof
  rw [h.sg 40 (x := 40) rfl (by decide), b_i, s40]
  dsimp only
  rw [if_pos b01_f, h.ow hk 25 cw.2.2.1 (by decide), b_i, o25]
  dsimp only
  rw [if_pos b01_f, h.ow hk 26 cw.2.2.2.1 (by decide), b_i, o26]
  dsimp only
  rw [if_pos b01_f, h.ow hk 20 cw.2.2.2.2.1 (by decide), b_i, o20]
  dsimp only
  rw [if_pos b01_f, (h.1.2.1.2.2.1 hk).2.1, if_neg (show ¬ nI (tK (tok b z p)) = (2 : Int32) from fun e => k2 ((nI_eq (b := 2) (by omega) (by decide)).mp e)), h.ow hk 12 cv.1 (by decide), b_i]
  dsimp only
  cases isOw (tok b z p) 12 with
  | true => exact if_neg b01_n0
  | false =>
  rw [if_pos b01_f, h.ow hk 4 cv.2.1 (by decide), b_i, if_neg (show ¬ false = true by decide)]
  dsimp only
  cases isOw (tok b z p) 4 with
  | true => exact if_neg b01_n0
  | false =>
  rw [if_pos b01_f, h.ow hk 13 cv.2.2.1 (by decide), b_i, if_neg (show ¬ false = true by decide)]
  dsimp only
  cases isOw (tok b z p) 13 with
  | true => exact if_neg b01_n0
  | false =>
  rw [if_pos b01_f, h.ow hk 14 cv.2.2.2.1 (by decide), b_i, if_neg (show ¬ false = true by decide)]
  dsimp only
  cases isOw (tok b z p) 14 with
  | true => exact if_neg b01_n0
  | false =>
  rw [if_pos b01_f, h.ow hk 15 cv.2.2.2.2.1 (by decide), b_i, if_neg (show ¬ false = true by decide)]
  dsimp only
  cases isOw (tok b z p) 15 with
  | true => exact if_neg b01_n0
  | false =>
  rw [if_pos b01_f, h.ow hk 16 cv.2.2.2.2.2.1 (by decide), b_i, if_neg (show ¬ false = true by decide)]
  dsimp only
  cases isOw (tok b z p) 16 with
  | true => exact if_neg b01_n0
  | false =>
  rw [if_pos b01_f, h.ow hk 17 cv.2.2.2.2.2.2.1 (by decide), b_i, if_neg (show ¬ false = true by decide)]
  dsimp only
  cases isOw (tok b z p) 17 with
  | true => exact if_neg b01_n0
  | false =>
  rw [if_pos b01_f, h.ow hk 18 cv.2.2.2.2.2.2.2.1 (by decide), b_i, if_neg (show ¬ false = true by decide)]
  dsimp only
  cases isOw (tok b z p) 18 with
  | true => exact if_neg b01_n0
  | false =>
  rw [if_pos b01_f, h.ow hk 19 cv.2.2.2.2.2.2.2.2 (by decide), b_i, if_neg (show ¬ false = true by decide)]
  dsimp only
  cases isOw (tok b z p) 19 with
  | true => exact if_neg b01_n0
  | false => exact if_pos rfl
end
