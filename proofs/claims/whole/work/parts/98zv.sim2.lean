/-! chip: the model reads what rd reads (2) -/
section
variable {b : Nat → Nat} {z : Nat} {w : Bool} {bi a o p : Nat} {M : Mem} {fs r : List Frm} {cs : Cds} {k ph pr k2 ph2 pr2 : Nat} {bg bg2 opd : Bool} {ops ops2 pend : List Nat} {x1 : Int32}
def NSp (b : Nat → Nat) (z k : Nat) (bg : Bool) (p : Nat) : Prop := tst6 k = true → bg = true → isOw (tok b z p) 23 = false ∧ isSg (tok b z p) 91 = false ∧ isOw (tok b z p) 24 = false
def HBo (l : Nat) (ops : List Nat) : Prop := ∀ q, ops.head? = some q → rnk q < l
theorem HBo.c {l q : Nat} {ops : List Nat} (h : rnk q < l) : HBo l (q :: ops) := fun x e => by cases e; exact h
theorem HBo.n {l : Nat} : HBo l [] := fun x e => by cases e
theorem HBo.le {l l' : Nat} {ops : List Nat} (h : HBo l ops) (e : l ≤ l') : HBo l' ops := fun q z => Nat.lt_of_lt_of_le (h q z) e
def Psm (b : Nat → Nat) (z ph ph' p : Nat) : Prop := ph' = ph ∧ osm (tok b z p) = 0 ∧ opr (tok b z p) = 0
def Ppd (b : Nat → Nat) (z ph ph' p : Nat) : Prop := ph' = ph ∧ opr (tok b z p) = 0
def Ppt (ph ph' p : Nat) : Prop := ph' = ph
def Pfc (b : Nat → Nat) (z ph' p : Nat) : Prop := ¬ ph' = 0 ∧ ph' < 10 ∧ (2 ≤ ph' ∨ (osm (tok b z p) = 0 ∧ opr (tok b z p) = 0))
def Pbt (b : Nat → Nat) (z ph' p : Nat) : Prop := Pfc b z ph' p ∧ isOw (tok b z p) 22 = false
def Ptt (b : Nat → Nat) (z ph' p : Nat) : Prop := Pbt b z ph' p ∧ isOw (tok b z p) 21 = false
def SIMc (b : Nat → Nat) (z : Nat) (w : Bool) (bi a : Nat) (x1 : Int32) (g : Nat) : Prop := ∀ o p cs M k ph bg pr ops r, MSt b z w bi a M ((k, ph, bg, pr, ops) :: r) o cs p false → k < 10 → ph < 2 → r.length ≤ o → (8 * (7 - o) + 4 ≤ g → NSp b z k bg p → HBo 5 ops → ops.length + tot r ≤ 8 * o + 3 → SR b z w bi a x1 M k pr ops r o p 5 2 (Psm b z ph) (rd b z w g 0 o p cs)) ∧ (8 * (7 - o) + 3 ≤ g → NSp b z k bg p → HBo 6 ops → ops.length + tot r ≤ 8 * o + 4 → SR b z w bi a x1 M k pr ops r o p 6 1 (Ppd b z ph) (rd b z w g 1 o p cs)) ∧ (8 * (7 - o) + 2 ≤ g → NSp b z k bg p → ops.length + tot r ≤ 8 * o + 5 → SR b z w bi a x1 M k pr ops r o p 100 0 (Ppt ph) (rd b z w g 2 o p cs)) ∧ (8 * (7 - o) + 1 ≤ g → NSp b z k bg p → ops.length + tot r ≤ 8 * o + 5 → (isOw (tok b z p) 25 = true → SR b z w bi a x1 M k pr ops r o p 100 0 (Ppt ph) (rd b z w g 3 o p cs)) ∧ (isOw (tok b z p) 26 = true → SR b z w bi a x1 M k pr ops r o p 100 0 (Ppt ph) (rd b z w g 9 o p cs)) ∧ (isOw (tok b z p) 20 = true → SR b z w bi a x1 M k pr ops r o p 100 0 (Ppt ph) (rd b z w g 4 o p cs))) ∧ (8 * (7 - o) + 8 ≤ g → tst6 k = true → ph = 0 → bg = true → ops = [] → tot r ≤ 8 * o → SR b z w bi a x1 M k pr ops r o p 1 (5 + (7 - o)) (Ptt b z) (rd b z w g 5 o p cs)) ∧ (8 * (7 - o) + 7 ≤ g → tst6 k = true → ph = 0 → bg = true → HBo 2 ops → ops.length + tot r ≤ 8 * o + 1 → SR b z w bi a x1 M k pr ops r o p 2 (4 + (7 - o)) (Pbt b z) (rd b z w g 6 o p cs)) ∧ (8 * (7 - o) + 6 ≤ g → tst6 k = true → ph = 0 → bg = true → HBo 4 ops → ops.length + tot r ≤ 8 * o + 2 → SR b z w bi a x1 M k pr ops r o p 3 (3 + (7 - o)) (Pfc b z) (rd b z w g 7 o p cs)) ∧ (8 * (7 - o) + 5 ≤ g → tst6 k = true → ph = 0 → NSp b z k bg p → HBo 4 ops → ops.length + tot r ≤ 8 * o + 2 → SR b z w bi a x1 M k pr ops r o p 4 3 (fun ph' p' => ph' = 1 ∧ osm (tok b z p') = 0 ∧ opr (tok b z p') = 0) (rd b z w g 8 o p cs))
theorem MSt.k4 (h : MSt b z w bi a M fs o cs p opd) : tK (tok b z p) ≤ 4 := h.1.ok.1
theorem sg4 {c : Nat} (h : tK (tok b z p) = 4) : isSg (tok b z p) c = false := Bool.eq_false_iff.mpr (fun q => by have := (isSg_iff.mp q).1; omega)
theorem ow4 {c : Nat} (h : tK (tok b z p) = 4) : isOw (tok b z p) c = false := Bool.eq_false_iff.mpr (fun q => by have := (isOw_iff.mp q).1; omega)
theorem go_commaX {k' : Nat} (h : MSt b z w bi a M ((k, ph, bg, pr, pend ++ []) :: r) (o + nts pend) cs p true) (hkk : (k = 3 ∧ k' = 4) ∨ (k = 6 ∧ k' = 3)) (hph : ph < 10) (na : 2 ≤ ph ∨ (osm (tok b z p) = 0 ∧ opr (tok b z p) = 0)) (nc : tst6 k = true → ¬ ph = 0 ∧ isOw (tok b z p) 22 = false ∧ isOw (tok b z p) 21 = false) (hp : ∀ q ∈ pend, 1 ≤ rnk q) : (isSg (tok b z p) 44 = true → OKs b z w bi a x1 M 1 ((k', 0, bg, pr, []) :: r) o (cs ++ emt pend) (nxp b z p) false) ∧ (isSg (tok b z p) 44 = false → BDs bi a x1 M 2 (1, tBd (tok b z p))) := by
  rw [List.append_nil] at h
  by_cases k4 : tK (tok b z p) = 4
  · exact ⟨fun q => by (rw [sg4 k4] at q; cases q), fun _ => go_bad4 h k4⟩
  · have := go_comma (x1 := x1) h hkk hph (by have := h.k4; omega) na nc hp (by omega)
    rw [Nat.add_sub_cancel] at this
    exact this
theorem go_closeX {c : Nat} (h : MSt b z w bi a M ((k, ph, bg, pr, pend ++ []) :: (k2, ph2, bg2, pr2, ops2) :: r) (o + 1 + nts pend) cs p true) (hkk : (k = 2 ∧ c = 41) ∨ (k = 4 ∧ c = 41) ∨ (k = 5 ∧ c = 93)) (hph : ph < 10) (na : 2 ≤ ph ∨ (osm (tok b z p) = 0 ∧ opr (tok b z p) = 0)) (nc : tst6 k = true → ¬ ph = 0 ∧ isOw (tok b z p) 22 = false ∧ isOw (tok b z p) 21 = false) (hp : ∀ q ∈ pend, 1 ≤ rnk q) : (isSg (tok b z p) c = true → OKs b z w bi a x1 M 1 ((k2, (if k = 5 then 2 else ph2), bg2, pr2, ops2) :: r) o (cs ++ emt pend ++ (if k = 4 then [(pr, 0)] else [])) (nxp b z p) true) ∧ (isSg (tok b z p) c = false → BDs bi a x1 M 2 (1, tBd (tok b z p))) := by
  rw [List.append_nil] at h
  by_cases k4 : tK (tok b z p) = 4
  · exact ⟨fun q => by (rw [sg4 k4] at q; cases q), fun _ => go_bad4 h k4⟩
  · have := go_close (x1 := x1) h hkk hph (by have := h.k4; omega) na nc hp (by omega)
    rw [show o + 1 + nts pend - nts pend - 1 = o by omega] at this
    exact this
theorem OKs.sr {n1 p1 lst mx : Nat} {P : Nat → Nat → Prop} {q : PRs} {fs' : List Frm} {o' : Nat} {cs' : Cds} {v : Bool} (h : OKs b z w bi a x1 M n1 fs' o' cs' p1 v) (hn : n1 + p ≤ p1) (g : ∀ M1, MSt b z w bi a M1 fs' o' cs' p1 v → SR b z w bi a x1 M1 k pr ops r o p1 lst mx P q) : SR b z w bi a x1 M k pr ops r o p lst mx P q := by
  obtain ⟨M1, h1, h2, h3⟩ := h
  exact SR.pre h1 h2 hn (g M1 h3)
theorem nxlt (h : MSt b z w bi a M fs o cs p opd) (hk : tK (tok b z p) ≤ 3) (h0 : ¬ tK (tok b z p) = 0) : p < nxp b z p := (h.1.ok.2.2.2.1 hk h0).1
theorem MSt.pz (h : MSt b z w bi a M fs o cs p opd) : p ≤ z := h.1.1.2.2
theorem tst6_n : tst6 2 = false ∧ tst6 3 = false ∧ tst6 4 = false ∧ tst6 5 = true ∧ tst6 6 = true ∧ tst6 0 = false ∧ tst6 1 = true := by decide
theorem bnd_r (x : Nat × Cds) (f : Nat → Cds → PRs) : bnd (.inr x) f = f x.1 x.2 := rfl
theorem bnd_l (x : Nat × Nat) (f : Nat → Cds → PRs) : bnd (.inl x) f = .inl x := rfl
/-- a sum in ( ) -/
theorem sim_paren {g : Nat} (ih : SIMc b z w bi a x1 g) (h : MSt b z w bi a M ((2, 0, true, 0, []) :: (k, ph, false, pr, ops) :: r) (o + 1) cs p false) (hr : r.length ≤ o) (hg : 8 * (7 - (o + 1)) + 4 ≤ g) (ht : ops.length + tot r ≤ 8 * o + 5) : SR b z w bi a x1 M k pr ops r o p 100 0 (Ppt ph) (bnd (rd b z w g 0 (o + 1) p cs) (xpc b z 41)) := by
  have c0 := (ih (o + 1) p cs M 2 0 true 0 [] _ h (by decide) (by decide) (by rw [List.length_cons]; omega)).1 hg (fun e => by (rw [tst6_n.1] at e; cases e)) HBo.n (by rw [tot_c, List.length_nil]; omega)
  refine SR.bnd c0 (fun p2 cs2 ph2 pd csm M2 h2 e2 r2 m2 P2 => ?_)
  obtain ⟨q1, q2, q3⟩ := P2
  subst q1
  obtain ⟨g1, g2⟩ := go_closeX (x1 := x1) (c := 41) h2 (Or.inl ⟨rfl, rfl⟩) (by decide) (Or.inr ⟨q2, q3⟩) (fun e => by (rw [tst6_n.1] at e; cases e)) (fun q hq => Nat.le_trans (by decide) (r2 q hq))
  unfold xpc bad1
  have pz := h2.pz
  cases s : isSg (tok b z p2) 41 with
  | true =>
    rw [if_pos rfl]
    have k3 := (isSg_iff.mp s).1
    have g1 := g1 s
    rw [if_neg (by decide), if_neg (by decide), List.append_nil, e2] at g1
    exact SR.ok g1 (by have := nxlt h2 (by omega) (by omega); omega) rfl
  | false =>
    rw [if_neg (by decide)]
    exact SR.bad (g2 s) (by omega)
theorem sim_pair {g c : Nat} (ih : SIMc b z w bi a x1 g) (h : MSt b z w bi a M ((3, 0, true, c, []) :: (k, ph, false, pr, ops) :: r) (o + 1) cs p false) (hr : r.length ≤ o) (hg : 8 * (7 - (o + 1)) + 4 ≤ g) (ht : ops.length + tot r ≤ 8 * o + 5) : SR b z w bi a x1 M k pr ops r o p 100 0 (Ppt ph) (bnd (rd b z w g 0 (o + 1) p cs) (fun p cs => bnd (xpc b z 44 p cs) (fun p cs => bnd (rd b z w g 0 (o + 1) p cs) (fun p cs => bnd (xpc b z 41 p cs) (fun p cs => .inr (p, cs ++ [(c, 0)])))))) := by
  have c0 := (ih (o + 1) p cs M 3 0 true c [] _ h (by decide) (by decide) (by rw [List.length_cons]; omega)).1 hg (fun e => by (rw [tst6_n.2.1] at e; cases e)) HBo.n (by rw [tot_c, List.length_nil]; omega)
  refine SR.bnd c0 (fun p2 cs2 ph2 pd csm M2 h2 e2 r2 m2 P2 => ?_)
  obtain ⟨q1, q2, q3⟩ := P2
  subst q1
  obtain ⟨g1, g2⟩ := go_commaX (x1 := x1) (k' := 4) h2 (Or.inl ⟨rfl, rfl⟩) (by decide) (Or.inr ⟨q2, q3⟩) (fun e => by (rw [tst6_n.2.1] at e; cases e)) (fun q hq => Nat.le_trans (by decide) (r2 q hq))
  have pz := h2.pz
  unfold xpc bad1
  cases s : isSg (tok b z p2) 44 with
  | false =>
    rw [if_neg (by decide)]
    exact SR.bad (g2 s) (by omega)
  | true =>
    rw [if_pos rfl, bnd_r]
    dsimp only
    have k3 := (isSg_iff.mp s).1
    have nx := nxlt h2 (by omega) (by omega)
    refine OKs.sr (g1 s) (by omega) (fun M3 h3 => ?_)
    rw [e2] at h3
    have c1 := (ih (o + 1) _ cs2 M3 4 0 false c [] _ h3 (by decide) (by decide) (by rw [List.length_cons]; omega)).1 hg (fun e => by (rw [tst6_n.2.2.1] at e; cases e)) HBo.n (by rw [tot_c, List.length_nil]; omega)
    refine SR.bnd c1 (fun p4 cs4 ph4 pd4 csm4 M4 h4 e4 r4 m4 P4 => ?_)
    obtain ⟨q1, q2, q3⟩ := P4
    subst q1
    obtain ⟨g1, g2⟩ := go_closeX (x1 := x1) (c := 41) h4 (Or.inr (Or.inl ⟨rfl, rfl⟩)) (by decide) (Or.inr ⟨q2, q3⟩) (fun e => by (rw [tst6_n.2.2.1] at e; cases e)) (fun q hq => Nat.le_trans (by decide) (r4 q hq))
    have pz := h4.pz
    cases s : isSg (tok b z p4) 41 with
    | false =>
      rw [if_neg (by decide)]
      exact SR.bad (g2 s) (by omega)
    | true =>
      rw [if_pos rfl]
      have k3 := (isSg_iff.mp s).1
      have g1 := g1 s
      rw [if_neg (by decide), if_pos rfl, e4] at g1
      exact SR.ok g1 (by have := nxlt h4 (by omega) (by omega); omega) rfl
end
