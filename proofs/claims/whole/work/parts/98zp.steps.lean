/-! chip: the model's loop, operands -/
section
variable {b : Nat → Nat} {z : Nat} {w : Bool} {bi a o p : Nat} {M : Mem} {fs r : List Frm} {cs : Cds} {k ph pr : Nat} {bg opd : Bool} {ops : List Nat} {x1 : Int32}
def MSt (b : Nat → Nat) (z : Nat) (w : Bool) (bi a : Nat) (M : Mem) (fs : List Frm) (o : Nat) (cs : Cds) (p : Nat) (opd : Bool) : Prop := MTk b z M p ∧ zI M 355 33 = b01 opd ∧ MQz w bi a M fs o cs ∧ (fs.length ≤ 9 ∧ tot fs ≤ 100 ∧ o ≤ 7 ∧ a + cs.length + wtf fs ≤ p)
def RUNs (x1 : Int32) (M M' : Mem) (k : Nat) : Prop := ∀ f, f_X12_reads_43 355 x1 (k + f) 1 M = f_X12_reads_43 355 x1 f 1 M'
def ENDs (x1 : Int32) (M M' : Mem) (k : Nat) : Prop := ∀ f, f_X12_reads_43 355 x1 (k + f) 1 M = some M'
theorem RUNs.tr {M1 M2 : Mem} {k1 k2 : Nat} (h1 : RUNs x1 M M1 k1) (h2 : RUNs x1 M1 M2 k2) : RUNs x1 M M2 (k1 + k2) := fun f => by rw [Nat.add_assoc, h1, h2]
theorem RUNs.en {M1 M2 : Mem} {k1 k2 : Nat} (h1 : RUNs x1 M M1 k1) (h2 : ENDs x1 M1 M2 k2) : ENDs x1 M M2 (k1 + k2) := fun f => by rw [Nat.add_assoc, h1, h2]
def OKs (b : Nat → Nat) (z : Nat) (w : Bool) (bi a : Nat) (x1 : Int32) (M : Mem) (n : Nat) (fs : List Frm) (o : Nat) (cs : Cds) (p : Nat) (opd : Bool) : Prop := ∃ M', RUNs x1 M M' n ∧ FR (Wmp bi a) M M' ∧ MSt b z w bi a M' fs o cs p opd
def BDs (bi a : Nat) (x1 : Int32) (M : Mem) (n : Nat) (e : Nat × Nat) : Prop := ∃ M', ENDs x1 M M' n ∧ FLT bi a M M' e
theorem reads0 (M : Mem) (f : Nat) : f_X12_reads_43 355 x1 (f + 1) 0 M = some M := by rw [f_X12_reads_43, if_pos rfl]
theorem run_op {M1 : Mem} {v : Bool} (h33 : zI M 355 33 = b01 false) (h : f_X12_operand 355 M = some (b01 v, M1)) (h8 : zI M1 355 8 = 0) : RUNs x1 M (zsI M1 355 33 (b01 v)) 1 := fun f => by
  rw [show 1 + f = f + 1 by omega, f_X12_reads_43, if_neg n10, h33, if_pos b01_f, h, b_i, zbz_b, b_i]
  unfold f_X12_reads_70 f_X12_reads_86
  rw [if_neg n10, zI_sn _ _ (by omega), h8, if_pos rfl]
theorem end_op {M1 : Mem} {v : Bool} (h33 : zI M 355 33 = b01 false) (h : f_X12_operand 355 M = some (b01 v, M1)) (h8 : ¬ zI M1 355 8 = 0) : ENDs x1 M (zsI M1 355 33 (b01 v)) 2 := fun f => by
  rw [show 2 + f = (f + 1) + 1 by omega, f_X12_reads_43, if_neg n10, h33, if_pos b01_f, h, b_i, zbz_b, b_i]
  unfold f_X12_reads_70 f_X12_reads_85 f_X12_reads_86
  rw [if_neg n10, zI_sn _ _ (by omega), if_neg h8, reads0]
theorem run_go {M1 : Mem} (h33 : zI M 355 33 = b01 true) (h : f_X12_goesOn 355 M = some (1, M1)) (h8 : zI M1 355 8 = 0) : RUNs x1 M M1 1 := fun f => by
  rw [show 1 + f = f + 1 by omega, f_X12_reads_43, if_neg n10, h33, if_neg b01_n0, h, b_i]
  unfold f_X12_reads_70 f_X12_reads_86
  dsimp only
  rw [if_neg n10, h8, if_pos rfl]
theorem end_go {M1 : Mem} {v : Int32} (h33 : zI M 355 33 = b01 true) (h : f_X12_goesOn 355 M = some (v, M1)) (h8 : v = 0 ∨ ¬ zI M1 355 8 = 0) : ENDs x1 M M1 2 := fun f => by
  rw [show 2 + f = (f + 1) + 1 by omega, f_X12_reads_43, if_neg n10, h33, if_neg b01_n0, h, b_i]
  unfold f_X12_reads_70 f_X12_reads_85 f_X12_reads_86
  dsimp only
  by_cases c : v = 0
  · rw [if_pos c, reads0]
  · rw [if_neg c, if_neg (h8.resolve_left c), reads0]
theorem MSt.okO {M1 : Mem} {v : Bool} {fs' : List Frm} {o' p' : Nat} {cs' : Cds} (h : MSt b z w bi a M fs o cs p false) (e : f_X12_operand 355 M = some (b01 v, M1)) (f : FR (Wmp bi a) M M1) (t : MTk b z M1 p') (q : MQz w bi a M1 fs' o' cs') (bd : fs'.length ≤ 9 ∧ tot fs' ≤ 100 ∧ o' ≤ 7 ∧ a + cs'.length + wtf fs' ≤ p') : OKs b z w bi a x1 M 1 fs' o' cs' p' v := by
  have g : FR (fun x j => x = 355 ∧ j = 33) M1 (zsI M1 355 33 (b01 v)) := (FR.rf (fun x j => x = 355 ∧ j = 33) M1).sI ⟨rfl, rfl⟩
  exact ⟨_, run_op h.2.1 e t.2, f.tr (g.mo (fun x j z => by unfold Wmp; omega)), t.fr g (fun j _ => by omega) (fun j => by omega), zI_se _ _ _ _, q.fr g (fun j _ => by omega) (fun x j _ _ => by omega), bd⟩
theorem MSt.bdO {M1 : Mem} {v : Bool} {e : Nat × Nat} (h : MSt b z w bi a M fs o cs p false) (q : f_X12_operand 355 M = some (b01 v, M1)) (g : FLT bi a M M1 e) (he : 0 < e.1 ∧ e.1 < 10) : BDs bi a x1 M 2 e := by
  refine ⟨_, end_op h.2.1 q (by rw [g.2.1]; exact nI_ne0 he.1 (by omega)), g.1.sI (by unfold Wmp; omega), ?_, ?_⟩
  · rw [zI_sn _ _ (by omega)]; exact g.2.1
  · rw [zI_sn _ _ (by omega)]; exact g.2.2
theorem st_bad4 (h : MSt b z w bi a M fs o cs p false) (hk : tK (tok b z p) = 4) : BDs bi a x1 M 2 (1, tBd (tok b z p)) := by
  obtain ⟨M', a1, a2⟩ := op_bad (bi := bi) (a := a) h.1 hk
  exact h.bdO a1 a2 (show 0 < 1 ∧ 1 < 10 by decide)
theorem NSn (h : tK (tok b z p) = 2) : tst6 k = true → bg = true → isOw (tok b z p) 23 = false ∧ isSg (tok b z p) 91 = false ∧ isOw (tok b z p) 24 = false := fun _ _ => ⟨Bool.eq_false_iff.mpr (fun q => by have := (isOw_iff.mp q).1; omega), Bool.eq_false_iff.mpr (fun q => by have := (isSg_iff.mp q).1; omega), Bool.eq_false_iff.mpr (fun q => by have := (isOw_iff.mp q).1; omega)⟩
theorem W366 {M1 : Mem} {n : Nat} (f : FR (fun x j => x = 366 ∧ j = n) M M1) : FR (Wmp bi a) M M1 := f.mo (fun x j z => by unfold Wmp; omega)
theorem st_num (h : MSt b z w bi a M ((k, ph, bg, pr, ops) :: r) o cs p false) (h10 : k < 10) (hk : tK (tok b z p) = 2) : OKs b z w bi a x1 M 1 ((k, ph, false, pr, ops) :: r) o (cs ++ [(0, tV (tok b z p))]) (nxp b z p) true := by
  obtain ⟨ht, h33, hq, hb1, hb2, hb3, hb4⟩ := id h
  rw [List.length_cons] at hb1
  obtain ⟨M1, a1, a2, a3, a4⟩ := op_171 ht hq (by omega) (by omega) h10 (NSn hk)
  have hz := ht.1.1.2.1
  have hpz := ht.1.2.2
  obtain ⟨n1, n2⟩ := ht.ok.2.2.2.1 (by omega) (by omega)
  obtain ⟨M2, b1, b2, b3, b4, b5⟩ := m_505 (s := 0) (x := 0) (v := tV (tok b z p)) a3 a4 (by omega) (by omega) (by omega) rfl (fun _ => a3.1.2.1.2.2.2.2 (Or.inl hk))
  refine h.okO ?_ ((W366 a2).tr b2) b3 b5 ⟨by rw [List.length_cons]; omega, hb2, hb3, ?_⟩
  · rw [a1]
    unfold f_X12_operand_171
    have hf : ∀ i, isOw (tok b z p) i = false := fun i => Bool.eq_false_iff.mpr (fun q => by have := (isOw_iff.mp q).1; omega)
    rw [a3.sg 40 (x := 40) rfl (by decide), b_i, show isSg (tok b z p) 40 = false from Bool.eq_false_iff.mpr (fun q => by have := (isSg_iff.mp q).1; omega)]
    dsimp only
    rw [if_pos b01_f, a3.ow (by omega) 25 cw.2.2.1 (by decide), b_i, hf]
    dsimp only
    rw [if_pos b01_f, a3.ow (by omega) 26 cw.2.2.2.1 (by decide), b_i, hf]
    dsimp only
    rw [if_pos b01_f, a3.ow (by omega) 20 cw.2.2.2.2.1 (by decide), b_i, hf]
    dsimp only
    rw [if_pos b01_f, (a3.1.2.1.2.2.1 (by omega)).2.1, hk, if_pos (show nI 2 = (2 : Int32) from rfl)]
    unfold f_X12_operand_456 f_X12_operand_491
    rw [if_pos (show (0 : Int32) < 1 by decide), if_neg (show ¬ (0 : Int32) = -1 by decide)]
    exact b1
  · rw [List.length_append]
    show a + (cs.length + 1) + wtf ((k, ph, bg, pr, ops) :: r) ≤ nxp b z p
    omega
theorem st_val (h : MSt b z w bi a M ((k, ph, bg, pr, ops) :: r) o cs p false) (h10 : k < 10) (hk : tK (tok b z p) ≤ 3) (ns : tst6 k = true → bg = true → isOw (tok b z p) 23 = false ∧ isSg (tok b z p) 91 = false ∧ isOw (tok b z p) 24 = false) (k2 : ¬ tK (tok b z p) = 2) (s40 : isSg (tok b z p) 40 = false) (o25 : isOw (tok b z p) 25 = false) (o26 : isOw (tok b z p) 26 = false) (o20 : isOw (tok b z p) 20 = false) : (¬ vcd w (tok b z p) = 0 → OKs b z w bi a x1 M 1 ((k, ph, false, pr, ops) :: r) o (cs ++ [(vcd w (tok b z p), 0)]) (nxp b z p) true) ∧ (vcd w (tok b z p) = 0 → BDs bi a x1 M 2 (1, tBd (tok b z p))) := by
  obtain ⟨ht, h33, hq, hb1, hb2, hb3, hb4⟩ := id h
  rw [List.length_cons] at hb1
  obtain ⟨M1, a1, a2, a3, a4⟩ := op_171 ht hq hk (by omega) h10 ns
  have hz := ht.1.1.2.1
  have hpz := ht.1.2.2
  obtain ⟨sv, s9⟩ := sof_v (w := w) (tok b z p)
  have e := op_val a3 a4 hk k2 s40 o25 o26 o20
  have h23 := a4.2.2.2.1
  have bad : f_X12_operand_456 355 (if sof (tok b z p) = 0 then -1 else nI (sof (tok b z p))) M1 = Option.bind (f_X12_blame 355 1 (zI M1 355 4) M1) (fun M16 => f_X12_operand_505 355 (-1) M16) → BDs bi a x1 M 2 (1, tBd (tok b z p)) := fun q => by
    have fl : FLT bi a M (zsI (zsI M1 355 8 1) 355 9 (zI M1 355 4)) (1, tBd (tok b z p)) := (flt_at (x := 1) (y := zI M1 355 4) rfl (by rw [a3.1.2.1.1]; unfold tBd; rw [if_neg (by omega)])).fr (W366 a2)
    refine h.bdO (v := true) ?_ fl (show 0 < 1 ∧ 1 < 10 by decide)
    rw [a1, e, q, m_blame a3.2, b_i]
    unfold f_X12_operand_505
    rw [zI_sn _ _ (by omega), zI_se, if_neg (by decide)]; rfl
  constructor
  · intro v0
    have s0 : ¬ sof (tok b z p) = 0 := fun q => v0 (by rw [sv, if_pos q])
    have sw : decide (7 ≤ sof (tok b z p)) = !w := by
      by_cases c : decide (7 ≤ sof (tok b z p)) = !w
      · exact c
      · exact absurd (by rw [sv, if_neg s0, if_neg c]) v0
    have k0 : ¬ tK (tok b z p) = 0 := fun q => v0 (by unfold vcd; rw [if_neg (by omega)])
    have vs : vcd w (tok b z p) = sof (tok b z p) := by rw [sv, if_neg s0, if_pos sw]
    obtain ⟨n1, n2⟩ := ht.ok.2.2.2.1 hk k0
    obtain ⟨M2, b1, b2, b3, b4, b5⟩ := m_505 (s := sof (tok b z p)) (v := 0) a3 a4 hk k0 (by omega) rfl (fun q => absurd q s0)
    refine h.okO ?_ ((W366 a2).tr b2) b3 (by rw [vs]; exact b5) ⟨by rw [List.length_cons]; omega, hb2, hb3, ?_⟩
    · rw [a1, e, if_neg s0]
      unfold f_X12_operand_456 f_X12_operand_473 f_X12_operand_486 f_X12_operand_491
      rw [if_neg (show ¬ nI (sof (tok b z p)) < (1 : Int32) from fun q => by have := (nI_ltI (b := 1) (by omega) (by decide)).mp q; omega), h23]
      have ne : ¬ nI (sof (tok b z p)) = (-1 : Int32) := nI_nm (by omega)
      by_cases c7 : 7 ≤ sof (tok b z p)
      · rw [decide_eq_true c7] at sw
        rw [if_neg (show ¬ nI (sof (tok b z p)) < (7 : Int32) from nI_nlt (b := 7) c7 (by omega)), ← sw, if_pos (show b01 true = (1 : Int32) from rfl), if_pos rfl, if_neg ne]
        exact b1
      · rw [decide_eq_false c7] at sw
        rw [if_pos (show nI (sof (tok b z p)) < (7 : Int32) from nI_lt (b := 7) (by omega) (by decide)), ← sw, if_neg (show ¬ b01 false = (1 : Int32) by decide), if_pos rfl, if_neg ne]
        exact b1
    · rw [List.length_append]
      show a + (cs.length + 1) + wtf ((k, ph, bg, pr, ops) :: r) ≤ nxp b z p
      unfold nxp; omega
  · intro v0
    refine bad ?_
    unfold f_X12_operand_456 f_X12_operand_473 f_X12_operand_486 f_X12_operand_491
    by_cases s0 : sof (tok b z p) = 0
    · rw [if_pos s0, if_pos (by decide), if_pos rfl]
    · rw [if_neg s0]
      have sw : ¬ decide (7 ≤ sof (tok b z p)) = !w := fun c => s0 (by rw [sv, if_neg s0, if_pos c] at v0; exact v0)
      rw [if_neg (show ¬ nI (sof (tok b z p)) < (1 : Int32) from fun q => by have := (nI_ltI (b := 1) (by omega) (by decide)).mp q; omega), h23]
      by_cases c7 : 7 ≤ sof (tok b z p)
      · rw [decide_eq_true c7] at sw
        have w1 : (!w) = false := by cases w <;> simp_all
        rw [if_neg (show ¬ nI (sof (tok b z p)) < (7 : Int32) from nI_nlt (b := 7) c7 (by omega)), w1, if_neg (show ¬ b01 false = (1 : Int32) by decide), if_neg n10, if_pos rfl]
      · rw [decide_eq_false c7] at sw
        have w1 : (!w) = true := by cases w <;> simp_all
        rw [if_pos (show nI (sof (tok b z p)) < (7 : Int32) from nI_lt (b := 7) (by omega) (by decide)), w1, if_pos (show b01 true = (1 : Int32) from rfl), if_neg (show ¬ (0 : Int32) = 1 by decide), if_pos rfl]
end
