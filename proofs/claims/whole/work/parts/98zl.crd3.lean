/-! chip: the class reads sums and tests (3) -/
section
variable {b : Nat → Nat} {z : Nat} {w : Bool} {c0 a : Nat}
theorem RC.stop {d1 d : Nat} {M : Mem} {res : Option (Int32 × Mem)} {e : Nat × Nat} {G : Int32 × Mem → Option (Int32 × Mem)} {k : Nat → Cds → PRs} (h : RC b z w c0 a d1 M res (.inl e)) (h0 : ∀ M', G (0, M') = some (0, M')) : RC b z w c0 a d M (Option.bind res G) (bnd (.inl e) k) := by
  obtain ⟨r, M', e1, e2, e3⟩ := h
  rw [e1, b_i, e3.1, h0]
  exact ⟨0, M', rfl, e2, rfl, e3.2⟩
theorem RC.last {d : Nat} {M : Mem} {res : Option (Int32 × Mem)} {q : PRs} {G : Int32 × Mem → Option (Int32 × Mem)} (h : RC b z w c0 a d M res q) (h0 : ∀ M', G (0, M') = some (0, M')) (h1 : ∀ M', G (1, M') = some (1, M')) : RC b z w c0 a d M (Option.bind res G) q := by
  obtain ⟨r, M', e1, e2, e3⟩ := h
  rw [e1, b_i]
  cases q with
  | inl e => rw [e3.1, h0]; exact ⟨0, M', rfl, e2, rfl, e3.2⟩
  | inr x => rw [e3.1, h1]; exact ⟨1, M', rfl, e2, rfl, e3.2⟩
theorem isv_t : ∀ i, i < 28 → (if (if i < 27 then nI i else -1) < (17 : Int32) then false else if (19 : Int32) < (if i < 27 then nI i else -1) then false else true) = decide (17 ≤ i ∧ i ≤ 19) := by decide
theorem isv_d : ∀ i, i < 28 → (if (if i < 27 then nI i else -1) = (4 : Int32) then true else if (if i < 27 then nI i else -1) < (12 : Int32) then false else if (16 : Int32) < (if i < 27 then nI i else -1) then false else true) = decide (i = 4 ∨ (12 ≤ i ∧ i ≤ 16)) := by decide
theorem vcd_d {t : Tok} (h : tK t = 1) : (¬ vcd true t = 0 ↔ (owi (tL t) = 4 ∨ (12 ≤ owi (tL t) ∧ owi (tL t) ≤ 16))) ∧ (¬ vcd true t = 0 → ownOf (vcd true t) = owi (tL t) ∧ 1 ≤ vcd true t ∧ vcd true t ≤ 6) := by
  unfold vcd ownOf
  rw [if_pos h, if_pos rfl]
  generalize owi (tL t) = i
  by_cases q1 : i = 4
  · subst q1; exact ⟨⟨fun _ => Or.inl rfl, fun _ => by decide⟩, fun _ => by decide⟩
  rw [if_neg q1]
  by_cases q2 : i = 12
  · subst q2; exact ⟨⟨fun _ => Or.inr (by decide), fun _ => by decide⟩, fun _ => by decide⟩
  rw [if_neg q2]
  by_cases q3 : 13 ≤ i ∧ i ≤ 16
  · rw [if_pos q3]
    refine ⟨⟨fun _ => Or.inr (by omega), fun _ => by omega⟩, fun _ => ?_⟩
    rw [if_neg (by omega), if_neg (by omega)]; omega
  · rw [if_neg q3]; exact ⟨⟨fun q => absurd rfl q, fun q => by omega⟩, fun q => absurd rfl q⟩
theorem vcd_t {t : Tok} (h : tK t = 1) : (¬ vcd false t = 0 ↔ (17 ≤ owi (tL t) ∧ owi (tL t) ≤ 19)) ∧ (¬ vcd false t = 0 → ownOf (vcd false t) = owi (tL t) ∧ 7 ≤ vcd false t ∧ vcd false t ≤ 9) := by
  unfold vcd ownOf
  rw [if_pos h, if_neg (by decide)]
  generalize owi (tL t) = i
  by_cases q3 : 17 ≤ i ∧ i ≤ 19
  · rw [if_pos q3]
    refine ⟨⟨fun _ => q3, fun _ => by omega⟩, fun _ => ?_⟩
    rw [if_neg (by omega), if_neg (by omega)]; omega
  · rw [if_neg q3]; exact ⟨⟨fun q => absurd rfl q, fun q => absurd q q3⟩, fun q => absurd rfl q⟩
theorem s_isValue {M : Mem} {t : Tok} (h12 : zI M 353 12 = b01 w) (hk : tK t = 1) : f_X6_isValue 353 (owv (tL t)) M = some (b01 (decide (¬ vcd w t = 0)), M) := by
  have hi := owi_le (tL t)
  unfold f_X6_isValue f_X6_isValue_24 f_X6_isValue_28 f_X6_isValue_29 f_X6_isValue_46 f_X6_isValue_47
  rw [h12]
  cases w with
  | true =>
    have e := isv_d (owi (tL t)) (by omega)
    rw [show (decide (¬ vcd true t = 0)) = decide (owi (tL t) = 4 ∨ (12 ≤ owi (tL t) ∧ owi (tL t) ≤ 16)) from decide_eq_decide.mpr (vcd_d hk).1, ← e, if_neg b01_n0]
    unfold owv
    by_cases q1 : (if owi (tL t) < 27 then nI (owi (tL t)) else -1) = (4 : Int32)
    · rw [if_pos q1, if_pos q1, zbz1]; rfl
    rw [if_neg q1, if_neg q1]
    by_cases q2 : (if owi (tL t) < 27 then nI (owi (tL t)) else -1) < (12 : Int32)
    · rw [if_pos q2, if_pos q2, zbz0]; rfl
    rw [if_neg q2, if_neg q2]
    by_cases q3 : (16 : Int32) < (if owi (tL t) < 27 then nI (owi (tL t)) else -1)
    · rw [if_pos q3, if_pos q3, zbz0]; rfl
    · rw [if_neg q3, if_neg q3, zbz1]; rfl
  | false =>
    have e := isv_t (owi (tL t)) (by omega)
    rw [show (decide (¬ vcd false t = 0)) = decide (17 ≤ owi (tL t) ∧ owi (tL t) ≤ 19) from decide_eq_decide.mpr (vcd_t hk).1, ← e, if_pos b01_f]
    unfold owv
    by_cases q2 : (if owi (tL t) < 27 then nI (owi (tL t)) else -1) < (17 : Int32)
    · rw [if_pos q2, if_pos q2, zbz0]; rfl
    rw [if_neg q2, if_neg q2]
    by_cases q3 : (19 : Int32) < (if owi (tL t) < 27 then nI (owi (tL t)) else -1)
    · rw [if_pos q3, if_pos q3, zbz0]; rfl
    · rw [if_neg q3, if_neg q3, zbz1]; rfl
theorem vcd_stp {t : Tok} (hk : tK t = 1) (h : ¬ vcd w t = 0) : -100 - owv (tL t) = stp (vcd w t, 0) := by
  have key : ownOf (vcd w t) = owi (tL t) ∧ 1 ≤ vcd w t ∧ vcd w t ≤ 9 := by
    cases w with
    | true => obtain ⟨h1, h2, h3⟩ := (vcd_d hk).2 h; exact ⟨h1, h2, by omega⟩
    | false => obtain ⟨h1, h2, h3⟩ := (vcd_t hk).2 h; exact ⟨h1, by omega, h3⟩
  obtain ⟨k1, k2, k3⟩ := key
  have k4 : owi (tL t) < 27 := by
    rw [← k1]; unfold ownOf
    by_cases q1 : vcd w t = 2
    · rw [if_pos q1]; decide
    · rw [if_neg q1]
      by_cases q2 : vcd w t = 1
      · rw [if_pos q2]; decide
      · rw [if_neg q2]; omega
  unfold stp owv
  rw [if_pos k4]
  dsimp only
  rw [if_neg (by omega), if_neg (by omega), if_pos (by omega), k1]
def CLM (b : Nat → Nat) (z : Nat) (w : Bool) (c0 a g : Nat) : Prop := ∀ o d p cs M, o ≤ 7 → PS b z w c0 a d M p cs → (8 * (7 - o) + 4 ≤ g → RC b z w c0 a d M (f_rd g 0 353 (nI o) 0 M) (rd b z w g 0 o p cs)) ∧ (8 * (7 - o) + 3 ≤ g → RC b z w c0 a d M (f_rd g 1 353 (nI o) 0 M) (rd b z w g 1 o p cs)) ∧ (8 * (7 - o) + 2 ≤ g → RC b z w c0 a d M (f_rd g 2 353 (nI o) 0 M) (rd b z w g 2 o p cs)) ∧ (8 * (7 - o) + 1 ≤ g → tK (tok b z p) = 1 → RC b z w c0 a d M (f_rd g 3 353 (nI o) (-6) M) (rd b z w g 3 o p cs) ∧ RC b z w c0 a d M (f_rd g 3 353 (nI o) (-7) M) (rd b z w g 9 o p cs) ∧ RC b z w c0 a d M (f_rd g 4 353 (nI o) 0 M) (rd b z w g 4 o p cs)) ∧ (8 * (7 - o) + 8 ≤ g → RC b z w c0 a d M (f_rd g 5 353 (nI o) 0 M) (rd b z w g 5 o p cs)) ∧ (8 * (7 - o) + 7 ≤ g → RC b z w c0 a d M (f_rd g 6 353 (nI o) 0 M) (rd b z w g 6 o p cs)) ∧ (8 * (7 - o) + 6 ≤ g → RC b z w c0 a d M (f_rd g 7 353 (nI o) 0 M) (rd b z w g 7 o p cs)) ∧ (8 * (7 - o) + 5 ≤ g → RC b z w c0 a d M (f_rd g 8 353 (nI o) 0 M) (rd b z w g 8 o p cs))
theorem c_part {g o d p : Nat} {cs : Cds} {M : Mem} (ih : CLM b z w c0 a g) (ho : o ≤ 7) (h : PS b z w c0 a d M p cs) (hg : 8 * (7 - o) + 1 ≤ g) : RC b z w c0 a d M (f_X6_readPart (f_rd g) 353 (nI o) M) (rdp b z w (rd b z w g) o p cs) := by
  unfold f_X6_readPart rdp
  by_cases k2 : tK (tok b z p) = 2
  · rw [if_pos (h.kd.2.1.mpr k2), if_pos k2, h.2.2.1.1, b_i]
    exact h.addlook (by rw [h.2.1.1.2.2.2.2.2 k2]; rfl) (by omega) (by omega)
  rw [if_neg (fun e => k2 (h.kd.2.1.mp e)), if_neg k2]
  cases s40 : isSg (tok b z p) 40 with
  | true =>
    rw [if_pos (h.sgT 40 (x := 40) rfl (by decide) s40), if_pos rfl]
    have op := h.opng (c := 40) (o := o) (x := 40) (y := nI o) rfl (by decide) rfl (by omega)
    by_cases o7 : o < 7
    · refine RC.elim op (fun M' => (if_pos rfl).trans (zbz0 _)) (fun p1 cs1 M1 h1 => ?_)
      dsimp only
      rw [if_neg n10, nI_1]
      refine RC.elim ((ih (o + 1) _ p1 cs1 M1 (by omega) h1).1 (by omega)) (fun M' => (if_pos rfl).trans (zbz0 _)) (fun p2 cs2 M2 h2 => ?_)
      dsimp only
      rw [if_neg n10]
      exact RC.wk (RC.last (h2.sign (c := 41) (x := 41) rfl (by decide)) (fun M' => (if_pos rfl).trans (zbz0 _)) (fun M' => (if_neg n10).trans (zbz1 _))) (by omega)
    · have e : opn b z 40 o p cs = .inl (5, tS (tok b z p)) := by unfold opn; rw [s40, if_pos rfl, if_neg o7]
      rw [e] at op ⊢
      exact RC.stop op (fun M' => (if_pos rfl).trans (zbz0 _))
  | false =>
  rw [if_neg (h.sgF 40 (x := 40) rfl (by decide) s40), if_neg (show ¬ false = true by decide), h.ow (i := 25) (x := 25) rfl (by decide), b_i]
  dsimp only
  cases o25 : isOw (tok b z p) 25 with
  | true =>
    rw [if_neg b01_n0, if_pos rfl]
    unfold f_X6_readPart_88 f_X6_readPart_106
    rw [h.ow (i := 25) (x := 25) rfl (by decide), b_i, o25]
    dsimp only
    rw [if_neg b01_n0]
    exact ((ih o d p cs M ho h).2.2.2.1 hg (isOw_iff.mp o25).1).1.zb
  | false =>
  rw [if_pos b01_f, if_neg (show ¬ false = true by decide), h.ow (i := 26) (x := 26) rfl (by decide), b_i]
  dsimp only
  cases o26 : isOw (tok b z p) 26 with
  | true =>
    rw [if_neg b01_n0, if_pos rfl]
    unfold f_X6_readPart_88 f_X6_readPart_106
    rw [h.ow (i := 25) (x := 25) rfl (by decide), b_i, o25]
    dsimp only
    rw [if_pos b01_f]
    exact ((ih o d p cs M ho h).2.2.2.1 hg (isOw_iff.mp o26).1).2.1.zb
  | false =>
  rw [if_pos b01_f, if_neg (show ¬ false = true by decide), h.ow (i := 20) (x := 20) rfl (by decide), b_i]
  dsimp only
  cases o20 : isOw (tok b z p) 20 with
  | true =>
    rw [if_neg b01_n0, if_pos rfl]
    exact ((ih o d p cs M ho h).2.2.2.1 hg (isOw_iff.mp o20).1).2.2.zb
  | false =>
  rw [if_pos b01_f, if_neg (show ¬ false = true by decide)]
  unfold f_X6_readPart_145
  by_cases k1 : tK (tok b z p) = 1
  · rw [if_pos (h.kd.1.mpr k1), (h.2.1.1.2.2.2.2.1 k1).2, s_isValue h.2.2.1.2.2 k1, b_i]
    dsimp only
    by_cases v0 : vcd w (tok b z p) = 0
    · rw [decide_eq_false (fun q => q v0), if_pos b01_f, if_pos v0]
      exact h.fail.zb
    · rw [decide_eq_true v0, if_neg b01_n0, if_neg v0, h.2.2.1.1, b_i, (h.2.1.1.2.2.2.2.1 k1).2]
      exact h.addlook (vcd_stp k1 v0) (by omega) (by omega)
  · rw [if_neg (fun e => k1 (h.kd.1.mp e)), if_pos (show vcd w (tok b z p) = 0 by unfold vcd; rw [if_neg k1])]
    exact h.fail.zb
theorem c_pair {g o d p c : Nat} {cs : Cds} {M : Mem} {x : Int32} (hx : x = stp (c, 0)) (ih : CLM b z w c0 a g) (ho : o ≤ 7) (h : PS b z w c0 a d M p cs) (hg : 8 * (7 - o) ≤ g) (k1 : tK (tok b z p) = 1) : RC b z w c0 a d M (f_X6_readPair (f_rd g) 353 (nI o) x M) (rda b z (rd b z w g) c o p cs) := by
  unfold f_X6_readPair rda f_X6_readPair_33 f_X6_readPair_54
  obtain ⟨M0, a1, a2, a3⟩ := h.look (by omega) (by omega)
  rw [a1, b_i]
  refine RC.fr a2 ?_
  have op := a3.opng (c := 40) (o := o) (x := 40) (y := nI o) rfl (by decide) rfl (by omega)
  by_cases o7 : o < 7
  · refine RC.elim op (fun M' => if_pos rfl) (fun p1 cs1 M1 h1 => ?_)
    dsimp only
    rw [if_neg n10, nI_1]
    refine RC.elim ((ih (o + 1) _ p1 cs1 M1 (by omega) h1).1 (by omega)) (fun M' => if_pos rfl) (fun p2 cs2 M2 h2 => ?_)
    dsimp only
    rw [if_neg n10]
    refine RC.elim (h2.sign (c := 44) (x := 44) rfl (by decide)) (fun M' => if_pos rfl) (fun p3 cs3 M3 h3 => ?_)
    dsimp only
    rw [if_neg n10]
    refine RC.elim ((ih (o + 1) _ p3 cs3 M3 (by omega) h3).1 (by omega)) (fun M' => if_pos rfl) (fun p4 cs4 M4 h4 => ?_)
    dsimp only
    rw [if_neg n10]
    refine RC.elim (h4.sign (c := 41) (x := 41) rfl (by decide)) (fun M' => if_pos rfl) (fun p5 cs5 M5 h5 => ?_)
    dsimp only
    rw [if_neg n10]
    exact RC.wk (h5.dadd hx) (by omega)
  · have e : opn b z 40 o (nxp b z p) cs = .inl (5, tS (tok b z (nxp b z p))) ∨ opn b z 40 o (nxp b z p) cs = bad1 b z (nxp b z p) := by
      unfold opn
      by_cases s : isSg (tok b z (nxp b z p)) 40 = true
      · rw [if_pos s, if_neg o7]; exact Or.inl rfl
      · rw [if_neg s]; exact Or.inr rfl
    rcases e with e | e
    · rw [e] at op ⊢; exact RC.stop op (fun M' => if_pos rfl)
    · rw [e] at op ⊢; exact RC.stop op (fun M' => if_pos rfl)
theorem c_choice {g o d p : Nat} {cs : Cds} {M : Mem} (ih : CLM b z w c0 a g) (ho : o ≤ 7) (h : PS b z w c0 a d M p cs) (hg : 8 * (7 - o) ≤ g) (k1 : tK (tok b z p) = 1) : RC b z w c0 a d M (f_X6_readChoice (f_rd g) 353 (nI o) M) (rdc b z (rd b z w g) o p cs) := by
  unfold f_X6_readChoice rdc f_X6_readChoice_33 f_X6_readChoice_73
  obtain ⟨M0, a1, a2, a3⟩ := h.look (by omega) (by omega)
  rw [a1, b_i]
  refine RC.fr a2 ?_
  have op := a3.opng (c := 40) (o := o) (x := 40) (y := nI o) rfl (by decide) rfl (by omega)
  by_cases o7 : o < 7
  · refine RC.elim op (fun M' => if_pos rfl) (fun p1 cs1 M1 h1 => ?_)
    dsimp only
    rw [if_neg n10, nI_1]
    refine RC.elim ((ih (o + 1) _ p1 cs1 M1 (by omega) h1).2.2.2.2.1 (by omega)) (fun M' => if_pos rfl) (fun p2 cs2 M2 h2 => ?_)
    dsimp only
    rw [if_neg n10]
    refine RC.elim (h2.sign (c := 44) (x := 44) rfl (by decide)) (fun M' => if_pos rfl) (fun p3 cs3 M3 h3 => ?_)
    dsimp only
    rw [if_neg n10]
    refine RC.elim ((ih (o + 1) _ p3 cs3 M3 (by omega) h3).1 (by omega)) (fun M' => if_pos rfl) (fun p4 cs4 M4 h4 => ?_)
    dsimp only
    rw [if_neg n10]
    refine RC.elim (h4.sign (c := 44) (x := 44) rfl (by decide)) (fun M' => if_pos rfl) (fun p5 cs5 M5 h5 => ?_)
    dsimp only
    rw [if_neg n10]
    refine RC.elim ((ih (o + 1) _ p5 cs5 M5 (by omega) h5).1 (by omega)) (fun M' => if_pos rfl) (fun p6 cs6 M6 h6 => ?_)
    dsimp only
    rw [if_neg n10]
    refine RC.elim (h6.sign (c := 41) (x := 41) rfl (by decide)) (fun M' => if_pos rfl) (fun p7 cs7 M7 h7 => ?_)
    dsimp only
    rw [if_neg n10]
    exact RC.wk (h7.dadd (c := (44, 0)) rfl) (by omega)
  · have e : opn b z 40 o (nxp b z p) cs = .inl (5, tS (tok b z (nxp b z p))) ∨ opn b z 40 o (nxp b z p) cs = bad1 b z (nxp b z p) := by
      unfold opn
      by_cases s : isSg (tok b z (nxp b z p)) 40 = true
      · rw [if_pos s, if_neg o7]; exact Or.inl rfl
      · rw [if_neg s]; exact Or.inr rfl
    rcases e with e | e
    · rw [e] at op ⊢; exact RC.stop op (fun M' => if_pos rfl)
    · rw [e] at op ⊢; exact RC.stop op (fun M' => if_pos rfl)
theorem c_fact {g o d p : Nat} {cs : Cds} {M : Mem} (ih : CLM b z w c0 a g) (ho : o ≤ 7) (h : PS b z w c0 a d M p cs) (hg : 8 * (7 - o) + 5 ≤ g) : RC b z w c0 a d M (f_X6_readFact (f_rd g) 353 (nI o) M) (rdf b z (rd b z w g) o p cs) := by
  unfold f_X6_readFact rdf
  rw [h.ow (i := 23) (x := 23) rfl (by decide), b_i]
  dsimp only
  cases o23 : isOw (tok b z p) 23 with
  | true =>
    have k1 := (isOw_iff.mp o23).1
    rw [if_neg b01_n0, if_pos rfl]
    by_cases o7 : o < 7
    · obtain ⟨M0, a1, a2, a3⟩ := h.look (by omega) (by omega)
      rw [if_pos (show nI o < (7 : Int32) from nI_lt (b := 7) o7 (by decide)), if_pos o7, a1, b_i, nI_1]
      refine RC.fr a2 ?_
      refine RC.elim ((ih (o + 1) _ _ cs M0 (by omega) a3).2.2.2.2.2.2.1 (by omega)) (fun M' => if_pos rfl) (fun p2 cs2 M2 h2 => ?_)
      dsimp only
      rw [if_neg n10]
      exact h2.dadd (c := (43, 0)) rfl
    · rw [if_neg (show ¬ nI o < (7 : Int32) from nI_nlt (b := 7) (by omega) (by omega)), if_neg o7]
      exact (h.failk (k := 5) (x := 5) rfl).zb
  | false =>
  rw [if_pos b01_f, if_neg (show ¬ false = true by decide)]
  cases s91 : isSg (tok b z p) 91 with
  | true =>
    rw [if_pos (h.sgT 91 (x := 91) rfl (by decide) s91), if_pos rfl]
    have op := h.opng (c := 91) (o := o) (x := 91) (y := nI o) rfl (by decide) rfl (by omega)
    by_cases o7 : o < 7
    · refine RC.elim op (fun M' => (if_pos rfl).trans (zbz0 _)) (fun p1 cs1 M1 h1 => ?_)
      dsimp only
      rw [if_neg n10, nI_1]
      refine RC.elim ((ih (o + 1) _ p1 cs1 M1 (by omega) h1).2.2.2.2.1 (by omega)) (fun M' => (if_pos rfl).trans (zbz0 _)) (fun p2 cs2 M2 h2 => ?_)
      dsimp only
      rw [if_neg n10]
      exact RC.wk (RC.last (h2.sign (c := 93) (x := 93) rfl (by decide)) (fun M' => (if_pos rfl).trans (zbz0 _)) (fun M' => (if_neg n10).trans (zbz1 _))) (by omega)
    · have e : opn b z 91 o p cs = .inl (5, tS (tok b z p)) := by unfold opn; rw [s91, if_pos rfl, if_neg o7]
      rw [e] at op ⊢
      exact RC.stop op (fun M' => (if_pos rfl).trans (zbz0 _))
  | false =>
  rw [if_neg (h.sgF 91 (x := 91) rfl (by decide) s91), if_neg (show ¬ false = true by decide), h.ow (i := 24) (x := 24) rfl (by decide), b_i]
  dsimp only
  cases o24 : isOw (tok b z p) 24 with
  | true =>
    have k1 := (isOw_iff.mp o24).1
    rw [if_neg b01_n0, if_pos rfl, h.2.2.1.1, b_i]
    exact h.addlook (c := (30, 0)) rfl (by omega) (by omega)
  | false =>
    rw [if_pos b01_f, if_neg (show ¬ false = true by decide)]
    exact ((ih o d p cs M ho h).2.2.2.2.2.2.2 hg).zb
theorem c_comp {g o d p : Nat} {cs : Cds} {M : Mem} (ih : CLM b z w c0 a g) (ho : o ≤ 7) (h : PS b z w c0 a d M p cs) (hg : 8 * (7 - o) + 4 ≤ g) : RC b z w c0 a d M (f_X6_readComparison (f_rd g) 353 (nI o) M) (rdm b z (rd b z w g) o p cs) := by
  unfold f_X6_readComparison rdm
  refine RC.elim ((ih o d p cs M ho h).1 hg) (fun M' => if_pos rfl) (fun p1 cs1 M1 h1 => ?_)
  dsimp only
  rw [if_neg n10]
  by_cases q0 : ocm (tok b z p1) = 0
  · obtain ⟨s1, s2, s3⟩ := ocm_0 q0
    rw [if_neg (h1.sgF 60 (x := 60) rfl (by decide) s1), if_neg (h1.sgF 62 (x := 62) rfl (by decide) s2), if_neg (h1.sgF 61 (x := 61) rfl (by decide) s3), if_pos q0]
    exact h1.fail.zb
  · obtain ⟨k3, kk⟩ := ocm_k q0
    rw [if_neg q0]
    have st : ∀ x, x = stp (ocm (tok b z p1), 0) → RC b z w c0 a d M1 (f_X6_readComparison_72 (f_rd g) 353 (nI o) x M1) (bnd (rd b z w g 0 o (nxp b z p1) cs1) (fun p2 cs2 => .inr (p2, cs2 ++ [(ocm (tok b z p1), 0)]))) := fun x hx => by
      obtain ⟨M2, a1, a2, a3⟩ := h1.look (by omega) (by omega)
      unfold f_X6_readComparison_72
      rw [a1, b_i]
      refine RC.fr a2 (RC.elim ((ih o (d + 1) _ cs1 M2 ho a3).1 hg) (fun M' => if_pos rfl) (fun p' cs' M' h' => ?_))
      dsimp only
      rw [if_neg n10]
      exact h'.dadd hx
    rcases kk with ⟨s1, s2⟩ | ⟨s1, s2, s3⟩ | ⟨s1, s2, s3, s4⟩
    · rw [if_pos (h1.sgT 60 (x := 60) rfl (by decide) s1)]
      unfold f_X6_readComparison_42
      rw [if_pos (h1.sgT 60 (x := 60) rfl (by decide) s1)]
      exact st _ (by rw [s2]; rfl)
    · rw [if_neg (h1.sgF 60 (x := 60) rfl (by decide) s1), if_pos (h1.sgT 62 (x := 62) rfl (by decide) s2)]
      unfold f_X6_readComparison_42
      rw [if_neg (h1.sgF 60 (x := 60) rfl (by decide) s1), if_pos (h1.sgT 62 (x := 62) rfl (by decide) s2)]
      exact st _ (by rw [s3]; rfl)
    · rw [if_neg (h1.sgF 60 (x := 60) rfl (by decide) s1), if_neg (h1.sgF 62 (x := 62) rfl (by decide) s2), if_pos (h1.sgT 61 (x := 61) rfl (by decide) s3)]
      unfold f_X6_readComparison_42
      rw [if_neg (h1.sgF 60 (x := 60) rfl (by decide) s1), if_neg (h1.sgF 62 (x := 62) rfl (by decide) s2)]
      exact st _ (by rw [s4]; rfl)
theorem c_rd : ∀ g, CLM b z w c0 a g := by
  intro g
  induction g with
  | zero => intro o d p cs M ho h; exact ⟨fun q => by omega, fun q => by omega, fun q => by omega, fun q => by omega, fun q => by omega, fun q => by omega, fun q => by omega, fun q => by omega⟩
  | succ g ih =>
    intro o d p cs M ho h
    refine ⟨fun q => ?_, fun q => ?_, fun q => c_part ih ho h (by omega), fun q k1 => ⟨c_pair rfl ih ho h (by omega) k1, c_pair rfl ih ho h (by omega) k1, c_choice ih ho h (by omega) k1⟩, fun q => ?_, fun q => ?_, fun q => c_fact ih ho h (by omega), fun q => c_comp ih ho h (by omega)⟩
    · show RC b z w c0 a d M (f_X6_readSum (f_rd g) 353 (nI o) M) (bnd (rd b z w g 1 o p cs) (lpr b z (rd b z w g 1 o) osm 1600))
      unfold f_X6_readSum
      refine RC.elim ((ih o d p cs M ho h).2.1 (by omega)) (fun M' => if_pos rfl) (fun p1 cs1 M1 h1 => ?_)
      dsimp only
      rw [if_neg n10]
      have tt := c_sum (rk := f_rd g) (F := rd b z w g 1 o) (fun d p cs M h => (ih o d p cs M ho h).2.1 (by omega)) 1600 0 998399 d p1 cs1 M1 (by omega) h1
      rw [show 1600 + 1 + 998399 = 1000000 from rfl] at tt
      exact tt
    · show RC b z w c0 a d M (f_X6_readProduct (f_rd g) 353 (nI o) M) (bnd (rd b z w g 2 o p cs) (lpr b z (rd b z w g 2 o) opr 1600))
      unfold f_X6_readProduct
      refine RC.elim ((ih o d p cs M ho h).2.2.1 (by omega)) (fun M' => if_pos rfl) (fun p1 cs1 M1 h1 => ?_)
      dsimp only
      rw [if_neg n10]
      have tt := c_prod (rk := f_rd g) (F := rd b z w g 2 o) (fun d p cs M h => (ih o d p cs M ho h).2.2.1 (by omega)) 1600 0 998399 d p1 cs1 M1 (by omega) h1
      rw [show 1600 + 1 + 998399 = 1000000 from rfl] at tt
      exact tt
    · show RC b z w c0 a d M (f_X6_readTest (f_rd g) 353 (nI o) M) (bnd (rd b z w g 6 o p cs) (lpr b z (rd b z w g 6 o) oor 1600))
      unfold f_X6_readTest
      refine RC.elim ((ih o d p cs M ho h).2.2.2.2.2.1 (by omega)) (fun M' => if_pos rfl) (fun p1 cs1 M1 h1 => ?_)
      dsimp only
      rw [if_neg n10]
      have tt := c_test (rk := f_rd g) (F := rd b z w g 6 o) (fun d p cs M h => (ih o d p cs M ho h).2.2.2.2.2.1 (by omega)) 1600 0 998399 d p1 cs1 M1 (by omega) h1
      rw [show 1600 + 1 + 998399 = 1000000 from rfl] at tt
      exact tt
    · show RC b z w c0 a d M (f_X6_readBoth (f_rd g) 353 (nI o) M) (bnd (rd b z w g 7 o p cs) (lpr b z (rd b z w g 7 o) oan 1600))
      unfold f_X6_readBoth
      refine RC.elim ((ih o d p cs M ho h).2.2.2.2.2.2.1 (by omega)) (fun M' => if_pos rfl) (fun p1 cs1 M1 h1 => ?_)
      dsimp only
      rw [if_neg n10]
      have tt := c_both (rk := f_rd g) (F := rd b z w g 7 o) (fun d p cs M h => (ih o d p cs M ho h).2.2.2.2.2.2.1 (by omega)) 1600 0 998399 d p1 cs1 M1 (by omega) h1
      rw [show 1600 + 1 + 998399 = 1000000 from rfl] at tt
      exact tt
end
