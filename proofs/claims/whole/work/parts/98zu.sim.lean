/-! chip: the model reads what rd reads (1) -/
section
variable {b : Nat → Nat} {z : Nat} {w : Bool} {bi a o p : Nat} {M : Mem} {fs r : List Frm} {cs : Cds} {k ph pr : Nat} {bg opd : Bool} {ops pend : List Nat} {x1 : Int32}
theorem OKs.bd {n1 n2 : Nat} {M1 : Mem} {e : Nat × Nat} (h : RUNs x1 M M1 n1) (f : FR (Wmp bi a) M M1) (g : BDs bi a x1 M1 n2 e) : BDs bi a x1 M (n1 + n2) e := by
  obtain ⟨M2, g1, g2⟩ := g
  exact ⟨M2, h.en g1, g2.fr f⟩
theorem OKs.ok {n1 n2 : Nat} {M1 : Mem} {p' : Nat} (h : RUNs x1 M M1 n1) (f : FR (Wmp bi a) M M1) (g : OKs b z w bi a x1 M1 n2 fs o cs p' opd) : OKs b z w bi a x1 M (n1 + n2) fs o cs p' opd := by
  obtain ⟨M2, g1, g2, g3⟩ := g
  exact ⟨M2, h.tr g1, f.tr g2, g3⟩
theorem MSt.ok0 (h : MSt b z w bi a M fs o cs p opd) : OKs b z w bi a x1 M 0 fs o cs p opd := ⟨M, fun f => by rw [Nat.zero_add], FR.rf _ M, h⟩
def SR (b : Nat → Nat) (z : Nat) (w : Bool) (bi a : Nat) (x1 : Int32) (M : Mem) (k pr : Nat) (ops : List Nat) (r : List Frm) (o p lst mx : Nat) (P : Nat → Nat → Prop) : PRs → Prop
  | .inl e => ∃ n, n + p ≤ z + 2 ∧ BDs bi a x1 M n e
  | .inr x => ∃ n pend ph' csm, n + p ≤ x.1 ∧ OKs b z w bi a x1 M n ((k, ph', false, pr, pend ++ ops) :: r) (o + nts pend) csm x.1 true ∧ csm ++ emt pend = x.2 ∧ (∀ q ∈ pend, lst ≤ rnk q) ∧ pend.length ≤ mx ∧ P ph' x.1
theorem SR.pre {n1 p1 lst mx : Nat} {P : Nat → Nat → Prop} {q : PRs} {M1 : Mem} (h : RUNs x1 M M1 n1) (f : FR (Wmp bi a) M M1) (hn : n1 + p ≤ p1) (g : SR b z w bi a x1 M1 k pr ops r o p1 lst mx P q) : SR b z w bi a x1 M k pr ops r o p lst mx P q := by
  cases q with
  | inl e =>
    obtain ⟨n, g1, g2⟩ := g
    exact ⟨n1 + n, by omega, OKs.bd h f g2⟩
  | inr x =>
    obtain ⟨n, pend, ph', csm, g1, g2, g3⟩ := g
    exact ⟨n1 + n, pend, ph', csm, by omega, OKs.ok h f g2, g3⟩
theorem SR.bnd {k1 pr1 o1 lst1 mx1 lst mx : Nat} {ops1 : List Nat} {r1 : List Frm} {P1 P : Nat → Nat → Prop} {q : PRs} {kf : Nat → Cds → PRs} (h : SR b z w bi a x1 M k1 pr1 ops1 r1 o1 p lst1 mx1 P1 q) (hk : ∀ p' cs' ph' pend csm M1, MSt b z w bi a M1 ((k1, ph', false, pr1, pend ++ ops1) :: r1) (o1 + nts pend) csm p' true → csm ++ emt pend = cs' → (∀ q ∈ pend, lst1 ≤ rnk q) → pend.length ≤ mx1 → P1 ph' p' → SR b z w bi a x1 M1 k pr ops r o p' lst mx P (kf p' cs')) : SR b z w bi a x1 M k pr ops r o p lst mx P (bnd q kf) := by
  cases q with
  | inl e => exact h
  | inr x =>
    obtain ⟨n, pend, ph', csm, g1, ⟨M1, g2, g3, g4⟩, g5, g6, g7, g8⟩ := h
    exact SR.pre g2 g3 g1 (hk x.1 x.2 ph' pend csm M1 g4 g5 g6 g7 g8)
theorem SR.bad {lst mx n : Nat} {P : Nat → Nat → Prop} {e : Nat × Nat} (h : BDs bi a x1 M n e) (hn : n + p ≤ z + 2) : SR b z w bi a x1 M k pr ops r o p lst mx P (.inl e) := ⟨n, hn, h⟩
theorem SR.ok {lst mx p' : Nat} {P : Nat → Nat → Prop} {cs' : Cds} {n : Nat} (h : OKs b z w bi a x1 M n ((k, ph, false, pr, ops) :: r) o cs' p' true) (hn : n + p ≤ p') (hP : P ph p') : SR b z w bi a x1 M k pr ops r o p lst mx P (.inr (p', cs')) := ⟨n, [], ph, cs', hn, h, List.append_nil _, (fun q e => (by cases e)), Nat.zero_le _, hP⟩
theorem SR.wk {lst mx lst' mx' : Nat} {P P' : Nat → Nat → Prop} {q : PRs} (h : SR b z w bi a x1 M k pr ops r o p lst mx P q) (h1 : lst' ≤ lst) (h2 : mx ≤ mx') (h3 : ∀ x y, P x y → P' x y) : SR b z w bi a x1 M k pr ops r o p lst' mx' P' q := by
  cases q with
  | inl e => exact h
  | inr x =>
    obtain ⟨n, pend, ph', csm, g1, g2, g3, g4, g5, g6⟩ := h
    exact ⟨n, pend, ph', csm, g1, g2, g3, fun q hq => Nat.le_trans h1 (g4 q hq), by omega, h3 _ _ g6⟩
theorem tok_end (hz : ¬ p < z) (hp : p ≤ z) : tK (tok b z p) = 0 := by
  obtain ⟨k1, k2, -⟩ := skp_ge b hp
  unfold tok tkA
  rw [if_pos (by omega)]; rfl
theorem ops_end (h : tK (tok b z p) = 0 ∨ tK (tok b z p) = 2) : osm (tok b z p) = 0 ∧ opr (tok b z p) = 0 ∧ oor (tok b z p) = 0 ∧ oan (tok b z p) = 0 := by
  have nn : ∀ c, isSg (tok b z p) c = false := fun c => Bool.eq_false_iff.mpr (fun q => by have := (isSg_iff.mp q).1; omega)
  have mm : ∀ c, isOw (tok b z p) c = false := fun c => Bool.eq_false_iff.mpr (fun q => by have := (isOw_iff.mp q).1; omega)
  unfold osm opr oor oan
  simp only [nn, mm]
  exact ⟨rfl, rfl, rfl, rfl⟩
theorem rnk_5 {q : Nat} (h : q = 31 ∨ q = 32) : rnk q = 5 := by rcases h with e | e <;> subst e <;> rfl
theorem rnk_6 {q : Nat} (h : q = 33 ∨ q = 34 ∨ q = 35) : rnk q = 6 := by rcases h with e | e | e <;> subst e <;> rfl
theorem rnk_4 {q : Nat} (h : q = 38 ∨ q = 39 ∨ q = 40) : rnk q = 4 := by rcases h with e | e | e <;> subst e <;> rfl
theorem osm_v {t : Tok} (h : ¬ osm t = 0) : osm t = 31 ∨ osm t = 32 := by rcases (osm_k h).2 with ⟨-, e⟩ | ⟨-, -, e⟩ <;> omega
theorem opr_v {t : Tok} (h : ¬ opr t = 0) : opr t = 33 ∨ opr t = 34 ∨ opr t = 35 := by rcases (opr_k h).2 with ⟨-, e⟩ | ⟨-, -, e⟩ | ⟨-, -, -, e⟩ <;> omega
theorem ocm_v {t : Tok} (h : ¬ ocm t = 0) : ocm t = 38 ∨ ocm t = 39 ∨ ocm t = 40 := by rcases (ocm_k h).2 with ⟨-, e⟩ | ⟨-, -, e⟩ | ⟨-, -, -, e⟩ <;> omega
theorem nts_app : ∀ (l m : List Nat), nts (l ++ m) = nts l + nts m
  | [], m => (Nat.zero_add _).symm
  | q :: l, m => by show (if q = 43 then 1 else 0) + nts (l ++ m) = (if q = 43 then 1 else 0) + nts l + nts m; rw [nts_app l m]; omega
theorem emt_app (l m : List Nat) : emt (l ++ m) = emt l ++ emt m := by unfold emt; rw [List.map_append]
theorem nts_lo : ∀ {l : List Nat}, (∀ q ∈ l, 4 ≤ rnk q) → nts l = 0
  | [], _ => rfl
  | q :: l, h => by
    show (if q = 43 then 1 else 0) + nts l = 0
    rw [nts_lo (fun x hx => h x (List.Mem.tail _ hx)), if_neg (fun e => by have := h q (List.Mem.head _); rw [e] at this; exact absurd this (by decide))]
/-- after an operand: a held back sign c, and what F reads -/
theorem lp_core {F : Nat → Cds → PRs} {op : Tok → Nat} {lst mx lstF mxF : Nat} {P : Nat → Nat → Prop} {PF : Nat → Nat → Prop} (hstep : ∀ p M csm pend ph', MSt b z w bi a M ((k, ph', false, pr, pend ++ ops) :: r) (o + nts pend) csm p true → (∀ q ∈ pend, lst ≤ rnk q) → pend.length ≤ mx → PF ph' p → ¬ op (tok b z p) = 0 → ∃ M1 n1 p1, RUNs x1 M M1 n1 ∧ FR (Wmp bi a) M M1 ∧ n1 + p ≤ p1 ∧ p < p1 ∧ p1 = nxp b z p ∧ SR b z w bi a x1 M1 k pr (op (tok b z p) :: ops) r o p1 lstF mxF PF (F p1 (csm ++ emt pend))) (hl : lst ≤ lstF) (hm : mxF + 1 ≤ mx) (hr : ∀ t, ¬ op t = 0 → lst ≤ rnk (op t) ∧ ¬ op t = 43) (hP : ∀ ph' p, PF ph' p → op (tok b z p) = 0 → P ph' p) (h0 : ∀ p, tK (tok b z p) = 0 → op (tok b z p) = 0) : ∀ e p M csm pend ph', z ≤ p + e → MSt b z w bi a M ((k, ph', false, pr, pend ++ ops) :: r) (o + nts pend) csm p true → (∀ q ∈ pend, lst ≤ rnk q) → pend.length ≤ mx → PF ph' p → SR b z w bi a x1 M k pr ops r o p lst mx P (lpr b z F op e p (csm ++ emt pend)) := by
  intro e
  induction e with
  | zero =>
    intro p M csm pend ph' hz h hr1 hm1 hp
    refine ⟨0, pend, ph', csm, by show 0 + p ≤ p; omega, h.ok0, rfl, hr1, hm1, hP _ _ hp (h0 p (tok_end (by omega) h.1.1.2.2))⟩
  | succ e ih =>
    intro p M csm pend ph' hz h hr1 hm1 hp
    rw [lpr]
    by_cases c : op (tok b z p) = 0
    · rw [if_pos c]
      exact ⟨0, pend, ph', csm, by show 0 + p ≤ p; omega, h.ok0, rfl, hr1, hm1, hP _ _ hp c⟩
    · rw [if_neg c]
      obtain ⟨M1, n1, p1, s1, s2, s3, s4, s5, s6⟩ := hstep p M csm pend ph' h hr1 hm1 hp c
      rw [← s5]
      refine SR.pre s1 s2 s3 ?_
      cases hF : F p1 (csm ++ emt pend) with
      | inl e' => rw [hF] at s6; exact s6
      | inr x =>
        rw [hF] at s6
        obtain ⟨n, pd, ph2, csm2, g1, ⟨M2, g2, g3, g4⟩, g5, g6, g7, g8⟩ := s6
        refine SR.pre g2 g3 g1 ?_
        show SR b z w bi a x1 M2 k pr ops r o x.1 lst mx P (lpr b z F op e x.1 (x.2 ++ [(op (tok b z p), 0)]))
        have e1 : x.2 ++ [(op (tok b z p), 0)] = csm2 ++ emt (pd ++ [op (tok b z p)]) := by rw [← g5, emt_app, List.append_assoc]; rfl
        rw [e1]
        have hnt : nts [op (tok b z p)] = 0 := by show (if op (tok b z p) = 43 then 1 else 0) + 0 = 0; rw [if_neg (hr _ c).2]
        have g4' : MSt b z w bi a M2 ((k, ph2, false, pr, (pd ++ [op (tok b z p)]) ++ ops) :: r) (o + nts (pd ++ [op (tok b z p)])) csm2 x.1 true := by
          rw [nts_app, hnt, Nat.add_zero, List.append_assoc]; exact g4
        refine ih x.1 M2 csm2 _ ph2 (by omega) g4' (fun q hq => ?_) (by rw [List.length_append]; show pd.length + 1 ≤ mx; omega) g8
        rcases List.mem_append.mp hq with q1 | q1
        · exact Nat.le_trans hl (g6 q q1)
        · rw [List.mem_singleton] at q1; rw [q1]; exact (hr _ c).1
end
