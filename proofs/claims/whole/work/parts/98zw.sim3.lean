/-! chip: the model reads what rd reads (3) -/
section
variable {b : Nat → Nat} {z : Nat} {w : Bool} {bi a o p : Nat} {M : Mem} {fs r : List Frm} {cs : Cds} {k ph pr : Nat} {bg opd : Bool} {ops pend : List Nat} {x1 : Int32}
theorem sim_choice {g : Nat} (ih : SIMc b z w bi a x1 g) (h : MSt b z w bi a M ((6, 0, true, 44, []) :: (k, ph, false, pr, ops) :: r) (o + 1) cs p false) (hr : r.length ≤ o) (hg : 8 * (7 - (o + 1)) + 8 ≤ g) (ht : ops.length + tot r ≤ 8 * o + 5) : SR b z w bi a x1 M k pr ops r o p 100 0 (Ppt ph) (bnd (rd b z w g 5 (o + 1) p cs) (fun p cs => bnd (xpc b z 44 p cs) (fun p cs => bnd (rd b z w g 0 (o + 1) p cs) (fun p cs => bnd (xpc b z 44 p cs) (fun p cs => bnd (rd b z w g 0 (o + 1) p cs) (fun p cs => bnd (xpc b z 41 p cs) (fun p cs => .inr (p, cs ++ [(44, 0)])))))))) := by
  have c0 := (ih (o + 1) p cs M 6 0 true 44 [] _ h (by decide) (by decide) (by rw [List.length_cons]; omega)).2.2.2.2.1 hg tst6_n.2.2.2.2.1 rfl rfl rfl (by rw [tot_c]; omega)
  refine SR.bnd c0 (fun p2 cs2 ph2 pd csm M2 h2 e2 r2 m2 P2 => ?_)
  obtain ⟨⟨⟨q0, q1, q2⟩, q3⟩, q4⟩ := P2
  obtain ⟨g1, g2⟩ := go_commaX (x1 := x1) (k' := 3) h2 (Or.inr ⟨rfl, rfl⟩) q1 q2 (fun _ => ⟨q0, q3, q4⟩) r2
  have pz := h2.pz
  have pair := fun M3 (h3 : MSt b z w bi a M3 ((3, 0, false, 44, []) :: (k, ph, false, pr, ops) :: r) (o + 1) cs2 (nxp b z p2) false) => (ih (o + 1) _ cs2 M3 3 0 false 44 [] _ h3 (by decide) (by decide) (by rw [List.length_cons]; omega)).1 (by omega) (fun e => by (rw [tst6_n.2.1] at e; cases e)) HBo.n (by rw [tot_c, List.length_nil]; omega)
  unfold xpc bad1
  cases s : isSg (tok b z p2) 44 with
  | false =>
    rw [if_neg (by decide)]
    exact SR.bad (g2 s) (by omega)
  | true =>
    rw [if_pos rfl, bnd_r]
    dsimp only
    have k3 := (isSg_iff.mp s).1
    have nx := nxlt h2 (by omega) (by omega)
    refine OKs.sr (g1 s) (by omega) (fun M3 h3 => ?_)
    rw [e2] at h3
    refine SR.bnd (pair M3 h3) (fun p4 cs4 ph4 pd4 csm4 M4 h4 e4 r4 m4 P4 => ?_)
    obtain ⟨q1, q2, q3⟩ := P4
    subst q1
    obtain ⟨g1, g2⟩ := go_commaX (x1 := x1) (k' := 4) h4 (Or.inl ⟨rfl, rfl⟩) (by decide) (Or.inr ⟨q2, q3⟩) (fun e => by (rw [tst6_n.2.1] at e; cases e)) (fun q hq => Nat.le_trans (by decide) (r4 q hq))
    have pz := h4.pz
    cases s : isSg (tok b z p4) 44 with
    | false =>
      rw [if_neg (by decide)]
      exact SR.bad (g2 s) (by omega)
    | true =>
      rw [if_pos rfl, bnd_r]
      dsimp only
      have k3 := (isSg_iff.mp s).1
      have nx := nxlt h4 (by omega) (by omega)
      refine OKs.sr (g1 s) (by omega) (fun M5 h5 => ?_)
      rw [e4] at h5
      have c1 := (ih (o + 1) _ cs4 M5 4 0 false 44 [] _ h5 (by decide) (by decide) (by rw [List.length_cons]; omega)).1 (by omega) (fun e => by (rw [tst6_n.2.2.1] at e; cases e)) HBo.n (by rw [tot_c, List.length_nil]; omega)
      refine SR.bnd c1 (fun p6 cs6 ph6 pd6 csm6 M6 h6 e6 r6 m6 P6 => ?_)
      obtain ⟨q1, q2, q3⟩ := P6
      subst q1
      obtain ⟨g1, g2⟩ := go_closeX (x1 := x1) (c := 41) h6 (Or.inr (Or.inl ⟨rfl, rfl⟩)) (by decide) (Or.inr ⟨q2, q3⟩) (fun e => by (rw [tst6_n.2.2.1] at e; cases e)) (fun q hq => Nat.le_trans (by decide) (r6 q hq))
      have pz := h6.pz
      cases s : isSg (tok b z p6) 41 with
      | false =>
        rw [if_neg (by decide)]
        exact SR.bad (g2 s) (by omega)
      | true =>
        rw [if_pos rfl]
        have k3 := (isSg_iff.mp s).1
        have g1 := g1 s
        rw [if_neg (by decide), if_pos rfl, e6] at g1
        exact SR.ok g1 (by have := nxlt h6 (by omega) (by omega); omega) rfl
theorem sim_part {g : Nat} (ih : SIMc b z w bi a x1 g) (h : MSt b z w bi a M ((k, ph, bg, pr, ops) :: r) o cs p false) (h10 : k < 10) (hph : ph < 2) (hr : r.length ≤ o) (hg : 8 * (7 - o) + 1 ≤ g) (ns : NSp b z k bg p) (ht : ops.length + tot r ≤ 8 * o + 5) : SR b z w bi a x1 M k pr ops r o p 100 0 (Ppt ph) (rdp b z w (rd b z w g) o p cs) := by
  have pz := h.pz
  have h7 : o ≤ 7 := h.2.2.2.2.2.1
  unfold rdp
  by_cases k4 : tK (tok b z p) = 4
  · rw [if_neg (by omega), sg4 k4, if_neg (by decide), ow4 k4, if_neg (by decide), ow4 k4, if_neg (by decide), ow4 k4, if_neg (by decide), if_pos (by unfold vcd; rw [if_neg (by omega)])]
    exact SR.bad (st_bad4 h k4) (by omega)
  have hk3 : tK (tok b z p) ≤ 3 := by have := h.k4; omega
  by_cases k2 : tK (tok b z p) = 2
  · rw [if_pos k2]
    exact SR.ok (st_num h h10 k2) (by have := nxlt h hk3 (by omega); omega) rfl
  rw [if_neg k2]
  cases s40 : isSg (tok b z p) 40 with
  | true =>
    rw [if_pos rfl]
    have k3 := (isSg_iff.mp s40).1
    obtain ⟨g1, g2⟩ := st_open2 (x1 := x1) h h10 ns s40
    unfold opn
    rw [s40, if_pos rfl]
    by_cases o7 : o < 7
    · rw [if_pos o7, bnd_r]
      dsimp only
      refine OKs.sr (g1 o7 (by omega)) (by have := nxlt h hk3 (by omega); omega) (fun M1 h1 => ?_)
      exact sim_paren ih h1 hr (by omega) ht
    · rw [if_neg o7]
      exact SR.bad (g2 o7) (by omega)
  | false =>
  rw [if_neg (by decide)]
  have c3 := (ih o p cs M k ph bg pr ops r h h10 hph hr).2.2.2.1 hg ns ht
  cases o25 : isOw (tok b z p) 25 with
  | true => rw [if_pos rfl]; exact c3.1 o25
  | false =>
  rw [if_neg (by decide)]
  cases o26 : isOw (tok b z p) 26 with
  | true => rw [if_pos rfl]; exact c3.2.1 o26
  | false =>
  rw [if_neg (by decide)]
  cases o20 : isOw (tok b z p) 20 with
  | true => rw [if_pos rfl]; exact c3.2.2 o20
  | false =>
  rw [if_neg (by decide)]
  obtain ⟨g1, g2⟩ := st_val (x1 := x1) h h10 hk3 ns k2 s40 o25 o26 o20
  by_cases v0 : vcd w (tok b z p) = 0
  · rw [if_pos v0]
    exact SR.bad (g2 v0) (by omega)
  · rw [if_neg v0]
    exact SR.ok (g1 v0) (by have := nxlt h hk3 (fun e => v0 (by unfold vcd; rw [if_neg (by omega)])); omega) rfl
theorem sim_c3 {g : Nat} (ih : SIMc b z w bi a x1 g) (h : MSt b z w bi a M ((k, ph, bg, pr, ops) :: r) o cs p false) (h10 : k < 10) (hr : r.length ≤ o) (hg : 8 * (7 - o) ≤ g) (ns : NSp b z k bg p) (ht : ops.length + tot r ≤ 8 * o + 5) : (isOw (tok b z p) 25 = true → SR b z w bi a x1 M k pr ops r o p 100 0 (Ppt ph) (rda b z (rd b z w g) 36 o p cs)) ∧ (isOw (tok b z p) 26 = true → SR b z w bi a x1 M k pr ops r o p 100 0 (Ppt ph) (rda b z (rd b z w g) 37 o p cs)) ∧ (isOw (tok b z p) 20 = true → SR b z w bi a x1 M k pr ops r o p 100 0 (Ppt ph) (rdc b z (rd b z w g) o p cs)) := by
  have pz := h.pz
  have h7 : o ≤ 7 := h.2.2.2.2.2.1
  have hl : r.length < 8 := by have := h.2.2.2.1; rw [List.length_cons] at this; omega
  have op7 : ∀ p1 cs1, opn b z 40 o (nxp b z p) cs = .inr (p1, cs1) → o < 7 ∧ cs1 = cs ∧ p1 = nxp b z (nxp b z p) ∧ tK (tok b z (nxp b z p)) = 3 := fun p1 cs1 e => by
    unfold opn bad1 at e
    by_cases s : isSg (tok b z (nxp b z p)) 40 = true
    · rw [if_pos s] at e
      by_cases o7 : o < 7
      · rw [if_pos o7] at e; cases e; exact ⟨o7, rfl, rfl, (isSg_iff.mp s).1⟩
      · rw [if_neg o7] at e; cases e
    · rw [if_neg s] at e; cases e
  have two : ∀ p1 cs1 (M1 : Mem), opn b z 40 o (nxp b z p) cs = .inr (p1, cs1) → tK (tok b z p) = 1 → 1 + p ≤ p1 := fun p1 cs1 M1 e k1 => by
    obtain ⟨-, -, e3, e4⟩ := op7 p1 cs1 e
    have n1 := nxlt h (by omega) (by omega)
    have n2 := (h.1.ok.2.2.2.1 (by omega) (by omega)).2
    have n3 := ((tok_ok (p := nxp b z p) h.1.by8 n2).2.2.2.1 (by omega) (by omega)).1
    rw [e3]; unfold nxp at n1 n3 ⊢; omega
  refine ⟨fun hi => ?_, fun hi => ?_, fun hi => ?_⟩
  · obtain ⟨g1, g2⟩ := st_pair (x1 := x1) (c := 36) (kd := 3) h h10 ns (Or.inl ⟨rfl, rfl, rfl⟩) hi hl
    unfold rda
    cases e : opn b z 40 o (nxp b z p) cs with
    | inl e' => exact SR.bad (g1 e' e) (by omega)
    | inr x =>
      obtain ⟨o7, e2, -, -⟩ := op7 x.1 x.2 e
      rw [bnd_r]
      refine OKs.sr (g2 x.1 x.2 e) (two x.1 x.2 M e (isOw_iff.mp hi).1) (fun M1 h1 => ?_)
      exact sim_pair ih h1 hr (by omega) ht
  · obtain ⟨g1, g2⟩ := st_pair (x1 := x1) (c := 37) (kd := 3) h h10 ns (Or.inr (Or.inl ⟨rfl, rfl, rfl⟩)) hi hl
    unfold rda
    cases e : opn b z 40 o (nxp b z p) cs with
    | inl e' => exact SR.bad (g1 e' e) (by omega)
    | inr x =>
      obtain ⟨o7, e2, -, -⟩ := op7 x.1 x.2 e
      rw [bnd_r]
      refine OKs.sr (g2 x.1 x.2 e) (two x.1 x.2 M e (isOw_iff.mp hi).1) (fun M1 h1 => ?_)
      exact sim_pair ih h1 hr (by omega) ht
  · obtain ⟨g1, g2⟩ := st_pair (x1 := x1) (c := 44) (kd := 6) h h10 ns (Or.inr (Or.inr ⟨rfl, rfl, rfl⟩)) hi hl
    unfold rdc
    cases e : opn b z 40 o (nxp b z p) cs with
    | inl e' => exact SR.bad (g1 e' e) (by omega)
    | inr x =>
      obtain ⟨o7, e2, -, -⟩ := op7 x.1 x.2 e
      rw [bnd_r]
      refine OKs.sr (g2 x.1 x.2 e) (two x.1 x.2 M e (isOw_iff.mp hi).1) (fun M1 h1 => ?_)
      exact sim_choice ih h1 hr (by omega) ht
theorem sim_fact {g : Nat} (ih : SIMc b z w bi a x1 g) (h : MSt b z w bi a M ((k, 0, true, pr, ops) :: r) o cs p false) (h10 : k < 10) (hr : r.length ≤ o) (hg : 8 * (7 - o) + 5 ≤ g) (ht6 : tst6 k = true) (hB : HBo 4 ops) (ht : ops.length + tot r ≤ 8 * o + 2) : SR b z w bi a x1 M k pr ops r o p 3 (3 + (7 - o)) (Pfc b z) (rdf b z (rd b z w g) o p cs) := by
  have pz := h.pz
  have h7 : o ≤ 7 := h.2.2.2.2.2.1
  have hl : r.length < 8 := by have := h.2.2.2.1; rw [List.length_cons] at this; omega
  unfold rdf
  cases o23 : isOw (tok b z p) 23 with
  | true =>
    rw [if_pos rfl]
    have k1 := (isOw_iff.mp o23).1
    obtain ⟨g1, g2⟩ := st_not (x1 := x1) h h10 ht6 o23 (by rw [tot_c]; omega)
    by_cases o7 : o < 7
    · rw [if_pos o7]
      refine OKs.sr (g1 o7) (by have := nxlt h (by omega) (by omega); omega) (fun M1 h1 => ?_)
      have c7 := (ih (o + 1) _ cs M1 k 0 true pr (43 :: ops) r h1 h10 (by decide) (by omega)).2.2.2.2.2.2.1 (by omega) ht6 rfl rfl (HBo.c (by decide)) (by rw [List.length_cons]; omega)
      refine SR.bnd c7 (fun p2 cs2 ph2 pd csm M2 h2 e2 r2 m2 P2 => ?_)
      refine ⟨0, pd ++ [43], ph2, csm, by show 0 + p2 ≤ p2; omega, ?_, ?_, fun q hq => ?_, ?_, P2⟩
      · have e43 : nts (pd ++ [43]) = nts pd + 1 := by rw [nts_app]; rfl
        rw [List.append_assoc, e43, show o + (nts pd + 1) = o + 1 + nts pd by omega]
        exact h2.ok0
      · rw [emt_app, ← List.append_assoc, e2]; rfl
      · rcases List.mem_append.mp hq with q1 | q1
        · exact r2 q q1
        · rw [List.mem_singleton] at q1; rw [q1]; decide
      · rw [List.length_append]; show pd.length + 1 ≤ 3 + (7 - o); omega
    · rw [if_neg o7]
      exact SR.bad (g2 o7) (by omega)
  | false =>
  rw [if_neg (by decide)]
  cases s91 : isSg (tok b z p) 91 with
  | true =>
    rw [if_pos rfl]
    have k3 := (isSg_iff.mp s91).1
    obtain ⟨g1, g2⟩ := st_open5 (x1 := x1) h h10 ht6 s91
    unfold opn
    rw [s91, if_pos rfl]
    by_cases o7 : o < 7
    · rw [if_pos o7]
      refine OKs.sr (g1 o7 hl) (by have := nxlt h (by omega) (by omega); omega) (fun M1 h1 => ?_)
      have c5 := (ih (o + 1) _ cs M1 5 0 true 0 [] _ h1 (by decide) (by decide) (by rw [List.length_cons]; omega)).2.2.2.2.1 (by omega) tst6_n.2.2.2.1 rfl rfl rfl (by rw [tot_c]; omega)
      rw [bnd_r]
      dsimp only
      refine SR.bnd c5 (fun p2 cs2 ph2 pd csm M2 h2 e2 r2 m2 P2 => ?_)
      obtain ⟨⟨⟨q0, q1, q2⟩, q3⟩, q4⟩ := P2
      obtain ⟨g1, g2⟩ := go_closeX (x1 := x1) (c := 93) h2 (Or.inr (Or.inr ⟨rfl, rfl⟩)) q1 q2 (fun _ => ⟨q0, q3, q4⟩) r2
      have pz2 := h2.pz
      unfold xpc bad1
      cases s : isSg (tok b z p2) 93 with
      | false =>
        rw [if_neg (by decide)]
        exact SR.bad (g2 s) (by omega)
      | true =>
        rw [if_pos rfl]
        have k3 := (isSg_iff.mp s).1
        have g1 := g1 s
        rw [if_pos rfl, if_neg (by decide), List.append_nil, e2] at g1
        exact SR.ok g1 (by have := nxlt h2 (by omega) (by omega); omega) ⟨by decide, by decide, Or.inl (by decide)⟩
    · rw [if_neg o7]
      exact SR.bad (g2 o7) (by omega)
  | false =>
  rw [if_neg (by decide)]
  cases o24 : isOw (tok b z p) 24 with
  | true =>
    rw [if_pos rfl]
    have k1 := (isOw_iff.mp o24).1
    exact SR.ok (st_all h h10 ht6 o24) (by have := nxlt h (by omega) (by omega); omega) ⟨by decide, by decide, Or.inl (by decide)⟩
  | false =>
    rw [if_neg (by decide)]
    have c8 := (ih o p cs M k 0 true pr ops r h h10 (by decide) hr).2.2.2.2.2.2.2 hg ht6 rfl (fun _ _ => ⟨o23, s91, o24⟩) hB ht
    exact c8.wk (by decide) (by omega) (fun x y q => ⟨by omega, by omega, Or.inr q.2⟩)
theorem sim_comp {g : Nat} (ih : SIMc b z w bi a x1 g) (h : MSt b z w bi a M ((k, 0, bg, pr, ops) :: r) o cs p false) (h10 : k < 10) (hr : r.length ≤ o) (hg : 8 * (7 - o) + 4 ≤ g) (ht6 : tst6 k = true) (ns : NSp b z k bg p) (hB : HBo 4 ops) (ht : ops.length + tot r ≤ 8 * o + 2) : SR b z w bi a x1 M k pr ops r o p 4 3 (fun ph' p' => ph' = 1 ∧ osm (tok b z p') = 0 ∧ opr (tok b z p') = 0) (rdm b z (rd b z w g) o p cs) := by
  have h7 : o ≤ 7 := h.2.2.2.2.2.1
  unfold rdm
  have c0 := (ih o p cs M k 0 bg pr ops r h h10 (by decide) hr).1 hg ns (hB.le (by decide)) (by omega)
  refine SR.bnd c0 (fun p1 cs1 ph1 pd csm M1 h1 e1 r1 m1 P1 => ?_)
  obtain ⟨q1, q2, q3⟩ := P1
  subst q1
  have pz := h1.pz
  have n0 := nts_lo (fun q hq => Nat.le_trans (by decide) (r1 q hq))
  by_cases k4 : tK (tok b z p1) = 4
  · rw [if_pos (show ocm (tok b z p1) = 0 by unfold ocm; rw [sg4 k4, sg4 k4, sg4 k4]; rfl)]
    exact SR.bad (go_bad4 h1 k4) (by omega)
  have hk3 : tK (tok b z p1) ≤ 3 := by have := h1.k4; omega
  by_cases c : ocm (tok b z p1) = 0
  · rw [if_pos c]
    exact SR.bad (go_want h1 h10 ht6 hk3 ⟨q2, q3⟩ c) (by omega)
  · rw [if_neg c]
    have k3 := (ocm_k c).1
    have g1 := go_cmp (x1 := x1) h1 h10 ht6 c (hB.le (by decide)) r1 (by omega) (by omega)
    rw [Nat.add_sub_cancel, e1] at g1
    refine OKs.sr g1 (by have := nxlt h1 hk3 (by omega); omega) (fun M2 h2 => ?_)
    have c1 := (ih o _ cs1 M2 k 1 false pr (ocm (tok b z p1) :: ops) r h2 h10 (by decide) hr).1 hg (fun _ e => by cases e) (HBo.c (by rw [rnk_4 (ocm_v c)]; decide)) (by rw [List.length_cons]; omega)
    refine SR.bnd c1 (fun p3 cs3 ph3 pd3 csm3 M3 h3 e3 r3 m3 P3 => ?_)
    obtain ⟨q4, q5, q6⟩ := P3
    have cne : ¬ ocm (tok b z p1) = 43 := by have := ocm_v c; omega
    refine ⟨0, pd3 ++ [ocm (tok b z p1)], ph3, csm3, by show 0 + p3 ≤ p3; omega, ?_, ?_, fun q hq => ?_, ?_, q4, q5, q6⟩
    · have e43 : nts (pd3 ++ [ocm (tok b z p1)]) = nts pd3 := by rw [nts_app]; show nts pd3 + ((if ocm (tok b z p1) = 43 then 1 else 0) + 0) = _; rw [if_neg cne]; rfl
      rw [List.append_assoc, e43]
      exact h3.ok0
    · rw [emt_app, ← List.append_assoc, e3]; rfl
    · rcases List.mem_append.mp hq with z1 | z1
      · exact Nat.le_trans (by decide) (r3 q z1)
      · rw [List.mem_singleton] at z1; rw [z1, rnk_4 (ocm_v c)]; decide
    · rw [List.length_append]; show pd3.length + 1 ≤ 3; omega
end
