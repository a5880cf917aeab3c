/-! chip: the model's loop, what follows an operand -/
section
variable {b : Nat → Nat} {z : Nat} {w : Bool} {bi a o p : Nat} {M : Mem} {fs r : List Frm} {cs : Cds} {k ph pr : Nat} {bg opd : Bool} {ops pend : List Nat} {x1 : Int32}
theorem MSt.okG {M1 : Mem} {fs' : List Frm} {o' p' : Nat} {cs' : Cds} {v : Bool} (h : MSt b z w bi a M fs o cs p true) (e : f_X12_goesOn 355 M = some (1, M1)) (f : FR (Wmp bi a) M M1) (t : MTk b z M1 p') (h33 : zI M1 355 33 = b01 v) (q : MQz w bi a M1 fs' o' cs') (bd : fs'.length ≤ 9 ∧ tot fs' ≤ 100 ∧ o' ≤ 7 ∧ a + cs'.length + wtf fs' ≤ p') : OKs b z w bi a x1 M 1 fs' o' cs' p' v := ⟨M1, run_go h.2.1 e t.2, f, t, h33, q, bd⟩
theorem MSt.bdG {M1 : Mem} {e : Nat × Nat} (h : MSt b z w bi a M fs o cs p true) (q : f_X12_goesOn 355 M = some (0, M1)) (g : FLT bi a M M1 e) : BDs bi a x1 M 2 e := ⟨M1, end_go h.2.1 q (Or.inl rfl), g⟩
theorem m_joinsW {least : Nat} {x : Int32} (hx : x = nI least) (hlt : least < 100) (hB : ∀ q, ops.head? = some q → rnk q < least) (hp : ∀ q ∈ pend, least ≤ rnk q) (hl : r.length < 20) (ht : tot ((k, ph, bg, pr, pend ++ ops) :: r) < 500) (hc : a + cs.length + pend.length ≤ 1600) (hn : nts pend ≤ o) (ho : o < 1000) (h : MQz w bi a M ((k, ph, bg, pr, pend ++ ops) :: r) o cs) : ∃ M', f_X12_joins 355 x M = some M' ∧ FR (fun y j => (y = 355 ∧ (j = 21 ∨ j = 30 ∨ j = 32)) ∨ ((y = 361 ∨ y = 362) ∧ 1600 * bi + a ≤ j ∧ j < 1600 * bi + 1600)) M M' ∧ MQz w bi a M' ((k, ph, bg, pr, ops) :: r) (o - nts pend) (cs ++ emt pend) := by
  obtain ⟨M', a1, a2, a3⟩ := m_joins hlt hB pend (1000000 - pend.length - 1) M o cs hp hl ht hc hn ho h
  rw [show pend.length + 1 + (1000000 - pend.length - 1) = 1000000 by omega] at a1
  refine ⟨M', ?_, a2, a3⟩
  unfold f_X12_joins
  rw [hx]; exact a1
theorem wtf_c (k ph pr : Nat) (bg : Bool) (ops : List Nat) (r : List Frm) : wtf ((k, ph, bg, pr, ops) :: r) = ops.length + pw1 k + wtf r := rfl
theorem tot_c (k ph pr : Nat) (bg : Bool) (ops : List Nat) (r : List Frm) : tot ((k, ph, bg, pr, ops) :: r) = ops.length + tot r := rfl
theorem emt_len (l : List Nat) : (emt l).length = l.length := by unfold emt; rw [List.length_map]
theorem go_top (h : MTk b z M p) (q : MQz w bi a M ((k, ph, bg, pr, ops) :: r) o cs) (hk : tK (tok b z p) ≤ 3) (hl : r.length < 20) (h10 : k < 10) : f_X12_goesOn 355 M = (if 2 ≤ nI ph then f_X12_goesOn_188 355 (nI r.length) (nI k) (b01 (tst6 k)) M else if osm (tok b z p) = 0 ∧ opr (tok b z p) = 0 then f_X12_goesOn_188 355 (nI r.length) (nI k) (b01 (tst6 k)) M else f_X12_goesOn_87 355 M) := by
  obtain ⟨⟨hW, h29, -, -⟩, -, -, -, hF⟩ := q
  unfold f_X12_goesOn
  rw [m_lex h.1.2.1 hk, b_i, h.2, if_pos (by decide), w355_24 hW, b_i, h29, List.length_cons, nI_pred, zl_at 20 rfl hl (by decide), b_i, hF.1.1, show fK6 (k, ph, bg, pr, ops) = k from rfl, m_isTest h10, b_i]
  dsimp only
  rw [w355_25 hW, b_i, zl_at 20 rfl hl (by decide), b_i, hF.1.2.1, show fPh (k, ph, bg, pr, ops) = ph from rfl]
  by_cases c2 : (2 : Int32) ≤ nI ph
  · rw [if_pos c2, if_pos c2]
  rw [if_neg c2, if_neg c2, h.sg 43 (x := 43) rfl (by decide), b_i]
  dsimp only
  have nz : ∀ c, (isSg (tok b z p) 43 = true ∨ isSg (tok b z p) 45 = true ∨ isSg (tok b z p) 42 = true ∨ isSg (tok b z p) 47 = true ∨ isSg (tok b z p) 37 = true) → (if osm (tok b z p) = 0 ∧ opr (tok b z p) = 0 then c else f_X12_goesOn_87 355 M) = f_X12_goesOn_87 355 M := fun c hc => if_neg (fun e => by
    obtain ⟨e1, e2⟩ := osm_0 e.1
    obtain ⟨e3, e4, e5⟩ := opr_0 e.2
    rw [e1, e2, e3, e4, e5] at hc
    rcases hc with q | q | q | q | q <;> cases q)
  cases s1 : isSg (tok b z p) 43 with
  | true => rw [if_neg b01_n0, nz _ (Or.inl s1)]
  | false =>
  rw [if_pos b01_f, h.sg 45 (x := 45) rfl (by decide), b_i]
  dsimp only
  cases s2 : isSg (tok b z p) 45 with
  | true => rw [if_neg b01_n0, nz _ (Or.inr (Or.inl s2))]
  | false =>
  rw [if_pos b01_f, h.sg 42 (x := 42) rfl (by decide), b_i]
  dsimp only
  cases s3 : isSg (tok b z p) 42 with
  | true => rw [if_neg b01_n0, nz _ (Or.inr (Or.inr (Or.inl s3)))]
  | false =>
  rw [if_pos b01_f, h.sg 47 (x := 47) rfl (by decide), b_i]
  dsimp only
  cases s4 : isSg (tok b z p) 47 with
  | true => rw [if_neg b01_n0, nz _ (Or.inr (Or.inr (Or.inr (Or.inl s4))))]
  | false =>
  rw [if_pos b01_f, h.sg 37 (x := 37) rfl (by decide), b_i]
  dsimp only
  cases s5 : isSg (tok b z p) 37 with
  | true => rw [if_neg b01_n0, nz _ (Or.inr (Or.inr (Or.inr (Or.inr s5))))]
  | false =>
    rw [if_pos b01_f, if_pos ⟨by unfold osm; rw [s1, s2]; rfl, by unfold opr; rw [s3, s4, s5]; rfl⟩]
theorem go_bad4 (h : MSt b z w bi a M fs o cs p true) (hk : tK (tok b z p) = 4) : BDs bi a x1 M 2 (1, tBd (tok b z p)) := by
  have ht := h.1
  have hv : tBd (tok b z p) = tV (tok b z p) := by unfold tBd; rw [if_pos hk]
  have hl := ht.ok.2.2.2.2.2.2.2
  have hz := ht.1.1.2.1
  refine h.bdG (M1 := zsI (zsI M 355 8 1) 355 9 (nI (tV (tok b z p)))) ?_ (flt_at rfl (by rw [hv]))
  unfold f_X12_goesOn
  rw [m_lex4 ht.1.2.1 ht.2 hk (by omega), b_i, zI_sn _ _ (by omega), zI_se, if_neg (by decide)]
theorem go_arith (h : MSt b z w bi a M ((k, ph, bg, pr, pend ++ ops) :: r) o cs p true) (h10 : k < 10) (hph : ph < 2) {c least : Nat} (hc : (c = osm (tok b z p) ∧ least = 5 ∧ ¬ osm (tok b z p) = 0) ∨ (c = opr (tok b z p) ∧ least = 6 ∧ ¬ opr (tok b z p) = 0)) (hB : ∀ q, ops.head? = some q → rnk q < least) (hp : ∀ q ∈ pend, least ≤ rnk q) (hn : nts pend ≤ o) (ho : ops.length + tot r < 100) : OKs b z w bi a x1 M 1 ((k, ph, bg, pr, c :: ops) :: r) (o - nts pend) (cs ++ emt pend) (nxp b z p) false := by
  obtain ⟨ht, h33, hq, hb1, hb2, hb3, hb4⟩ := id h
  rw [List.length_cons] at hb1
  rw [wtf_c, List.length_append] at hb4
  have hz := ht.1.1.2.1
  have hpz := ht.1.2.2
  have k3 : tK (tok b z p) = 3 := by
    rcases hc with ⟨-, -, q⟩ | ⟨-, -, q⟩
    · exact (osm_k q).1
    · exact (opr_k q).1
  have hl6 : least < 100 := by omega
  obtain ⟨M1, a1, a2, a3⟩ := m_joinsW (x := nI least) rfl hl6 hB hp (by omega) (by omega) (by omega) hn (by omega) hq
  have t1 : MTk b z M1 p := ht.fr a2 (fun j _ => by omega) (fun j => by omega)
  have c31 : 31 ≤ c ∧ c ≤ 43 := by
    rcases hc with ⟨e, -, q⟩ | ⟨e, -, q⟩
    · rcases (osm_k q).2 with ⟨-, e2⟩ | ⟨-, -, e2⟩ <;> omega
    · rcases (opr_k q).2 with ⟨-, e2⟩ | ⟨-, -, e2⟩ | ⟨-, -, -, e2⟩ <;> omega
  obtain ⟨M2, b1, b2, b3⟩ := m_holds (q := c) a3 c31 (by rw [tot_c]; omega)
  have t2 : MTk b z M2 p := t1.fr b2 (fun j _ => by omega) (fun j => by omega)
  obtain ⟨M3, c1, c2, c3, c4, c5, c6⟩ := t2.ahead (by omega) (by omega) b3
  have g : FR (fun x j => x = 355 ∧ j = 33) M3 (zsI M3 355 33 0) := (FR.rf (fun x j => x = 355 ∧ j = 33) M3).sI ⟨rfl, rfl⟩
  refine h.okG (M1 := zsI M3 355 33 0) (v := false) ?_ ((a2.mo (fun x j z => by unfold Wmp; omega)).tr ((b2.mo (fun x j z => by unfold Wmp; omega)).tr ((c2.mo (fun x j z => by unfold Wah at z; unfold Wmp; omega)).tr (g.mo (fun x j z => by unfold Wmp; omega))))) (c3.fr g (fun j _ => by omega) (fun j => by omega)) (zI_se _ _ _ _) (c4.fr g (fun j _ => by omega) (fun x j _ _ => by omega)) ⟨by rw [List.length_cons]; omega, by rw [tot_c, List.length_cons]; omega, by omega, ?_⟩
  · rw [go_top ht hq (by omega) (by omega) h10, if_neg (show ¬ (2 : Int32) ≤ nI ph from nI_ge (b := 2) hph (by decide))]
    have fin : ∀ y, y = nI c → f_X12_goesOn_174 355 355 y M1 = some (1, zsI M3 355 33 0) := fun y hy => by
      unfold f_X12_goesOn_174
      rw [hy, b1, b_i, c1, b_i, b_i]
    unfold f_X12_goesOn_87 f_X12_goesOn_106
    rcases hc with ⟨e1, e2, q0⟩ | ⟨e1, e2, q0⟩
    · rw [if_neg (fun e => q0 e.1)]
      subst e2
      have a1 : f_X12_joins 355 5 M = some M1 := a1
      have j5 : f_X12_goesOn_112 355 355 5 M = some (1, zsI M3 355 33 0) := by
        unfold f_X12_goesOn_112
        rw [a1, b_i, t1.sg 43 (x := 43) rfl (by decide), b_i]
        rcases (osm_k q0).2 with ⟨s1, s2⟩ | ⟨s1, s2, s3⟩
        · rw [s1]
          dsimp only
          rw [if_neg b01_n0]
          exact fin _ (by rw [e1, s2]; rfl)
        · rw [s1]
          dsimp only
          rw [if_pos b01_f, t1.sg 45 (x := 45) rfl (by decide), b_i, s2]
          dsimp only
          rw [if_neg b01_n0]
          exact fin _ (by rw [e1, s3]; rfl)
      rw [ht.sg 43 (x := 43) rfl (by decide), b_i]
      rcases (osm_k q0).2 with ⟨s1, s2⟩ | ⟨s1, s2, s3⟩
      · rw [s1]
        dsimp only
        rw [if_neg b01_n0]; exact j5
      · rw [s1]
        dsimp only
        rw [if_pos b01_f, ht.sg 45 (x := 45) rfl (by decide), b_i, s2]
        dsimp only
        rw [if_neg b01_n0]; exact j5
    · rw [if_neg (fun e => q0 e.2)]
      subst e2
      have hv := (isSg_iff (t := tok b z p) (c := 43))
      have n43 : isSg (tok b z p) 43 = false := Bool.eq_false_iff.mpr (fun q => by
        have h1 := (isSg_iff.mp q).2
        rcases (opr_k q0).2 with ⟨s1, -⟩ | ⟨-, s1, -⟩ | ⟨-, -, s1, -⟩ <;> (have h2 := (isSg_iff.mp s1).2; omega))
      have n45 : isSg (tok b z p) 45 = false := Bool.eq_false_iff.mpr (fun q => by
        have h1 := (isSg_iff.mp q).2
        rcases (opr_k q0).2 with ⟨s1, -⟩ | ⟨-, s1, -⟩ | ⟨-, -, s1, -⟩ <;> (have h2 := (isSg_iff.mp s1).2; omega))
      have a1 : f_X12_joins 355 6 M = some M1 := a1
      rw [ht.sg 43 (x := 43) rfl (by decide), b_i, n43]
      dsimp only
      rw [if_pos b01_f, ht.sg 45 (x := 45) rfl (by decide), b_i, n45]
      dsimp only
      rw [if_pos b01_f]
      unfold f_X12_goesOn_112
      rw [a1, b_i, t1.sg 43 (x := 43) rfl (by decide), b_i, n43]
      dsimp only
      rw [if_pos b01_f, t1.sg 45 (x := 45) rfl (by decide), b_i, n45]
      dsimp only
      rw [if_pos b01_f, t1.sg 42 (x := 42) rfl (by decide), b_i]
      rcases (opr_k q0).2 with ⟨s1, s2⟩ | ⟨s1, s2, s3⟩ | ⟨s1, s2, s3, s4⟩
      · rw [s1]
        dsimp only
        rw [if_neg b01_n0]; exact fin _ (by rw [e1, s2]; rfl)
      · rw [s1]
        dsimp only
        rw [if_pos b01_f, t1.sg 47 (x := 47) rfl (by decide), b_i, s2]
        dsimp only
        rw [if_neg b01_n0]; exact fin _ (by rw [e1, s3]; rfl)
      · rw [s1]
        dsimp only
        rw [if_pos b01_f, t1.sg 47 (x := 47) rfl (by decide), b_i, s2]
        dsimp only
        rw [if_pos b01_f]; exact fin _ (by rw [e1, s4]; rfl)
  · rw [wtf_c, List.length_append, emt_len, List.length_cons]; omega
end
