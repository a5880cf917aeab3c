/-! chip: the model reads what rd reads (4) -/
section
variable {b : Nat → Nat} {z : Nat} {w : Bool} {bi a : Nat} {x1 : Int32}
theorem oor_v {t : Tok} : (oor t = 0 → isOw t 21 = false) ∧ (¬ oor t = 0 → isOw t 21 = true ∧ oor t = 42) := by
  unfold oor
  cases isOw t 21 with
  | true => exact ⟨fun e => by (rw [if_pos rfl] at e; cases e), fun _ => ⟨rfl, if_pos rfl⟩⟩
  | false => exact ⟨fun _ => rfl, fun e => absurd (if_neg (by decide)) e⟩
theorem oan_v {t : Tok} : (oan t = 0 → isOw t 22 = false) ∧ (¬ oan t = 0 → isOw t 22 = true ∧ oan t = 41) := by
  unfold oan
  cases isOw t 22 with
  | true => exact ⟨fun e => by (rw [if_pos rfl] at e; cases e), fun _ => ⟨rfl, if_pos rfl⟩⟩
  | false => exact ⟨fun _ => rfl, fun e => absurd (if_neg (by decide)) e⟩
theorem sim_rd : ∀ g, SIMc b z w bi a x1 g := by
  intro g
  induction g with
  | zero => intro o p cs M k ph bg pr ops r h h10 hph hr; exact ⟨fun q => by omega, fun q => by omega, fun q => by omega, fun q => by omega, fun q => by omega, fun q => by omega, fun q => by omega, fun q => by omega⟩
  | succ g ih =>
    intro o p cs M k ph bg pr ops r h h10 hph hr
    have h7 : o ≤ 7 := h.2.2.2.2.2.1
    have hz : z ≤ 1600 := h.1.1.1.2.1
    refine ⟨fun q ns hB ht => ?_, fun q ns hB ht => ?_, fun q ns ht => sim_part ih h h10 hph hr (by omega) ns ht, fun q ns ht => sim_c3 ih h h10 hr (by omega) ns ht, fun q ht6 p0 b0 o0 ht => ?_, fun q ht6 p0 b0 hB ht => ?_, fun q ht6 p0 b0 hB ht => ?_, fun q ht6 p0 ns hB ht => ?_⟩
    · show SR b z w bi a x1 M k pr ops r o p 5 2 (Psm b z ph) (bnd (rd b z w g 1 o p cs) (lpr b z (rd b z w g 1 o) osm 1600))
      have c1 := (ih o p cs M k ph bg pr ops r h h10 hph hr).2.1 (by omega) ns (hB.le (by decide)) (by omega)
      refine SR.bnd c1 (fun p1 cs1 ph1 pd csm M1 h1 e1 r1 m1 P1 => ?_)
      rw [← e1]
      refine lp_core (F := rd b z w g 1 o) (op := osm) (lst := 5) (mx := 2) (lstF := 6) (mxF := 1) (P := Psm b z ph) (PF := Ppd b z ph) (fun p2 M2 csm2 pd2 ph2 h2 r2 m2 P2 c => ?_) (by decide) (by decide) (fun t c => ⟨by rw [rnk_5 (osm_v c)]; decide, by have := osm_v c; omega⟩) (fun ph' p' P' c => ⟨P'.1, c, P'.2⟩) (fun p' k0 => (ops_end (Or.inl k0)).1) 1600 p1 M1 csm pd ph1 (by omega) h1 (fun q hq => Nat.le_trans (by decide) (r1 q hq)) (by omega) P1
      obtain ⟨q1, q2⟩ := P2
      subst q1
      have k3 := (osm_k c).1
      have g1 := go_arith (x1 := x1) h2 h10 hph (Or.inl ⟨rfl, rfl, c⟩) hB r2 (by omega) (by omega)
      rw [Nat.add_sub_cancel] at g1
      obtain ⟨M3, s1, s2, s3⟩ := g1
      have nx := nxlt h2 (by omega) (by omega)
      exact ⟨M3, 1, _, s1, s2, by omega, nx, rfl, (ih o _ _ M3 k ph2 false pr _ r s3 h10 hph hr).2.1 (by omega) (fun _ e => by cases e) (HBo.c (by rw [rnk_5 (osm_v c)]; decide)) (by rw [List.length_cons]; omega)⟩
    · show SR b z w bi a x1 M k pr ops r o p 6 1 (Ppd b z ph) (bnd (rd b z w g 2 o p cs) (lpr b z (rd b z w g 2 o) opr 1600))
      have c1 := (ih o p cs M k ph bg pr ops r h h10 hph hr).2.2.1 (by omega) ns (by omega)
      refine SR.bnd c1 (fun p1 cs1 ph1 pd csm M1 h1 e1 r1 m1 P1 => ?_)
      rw [← e1]
      refine lp_core (F := rd b z w g 2 o) (op := opr) (lst := 6) (mx := 1) (lstF := 100) (mxF := 0) (P := Ppd b z ph) (PF := Ppt ph) (fun p2 M2 csm2 pd2 ph2 h2 r2 m2 P2 c => ?_) (by decide) (by decide) (fun t c => ⟨by rw [rnk_6 (opr_v c)]; decide, by have := opr_v c; omega⟩) (fun ph' p' P' c => ⟨P', c⟩) (fun p' k0 => (ops_end (Or.inl k0)).2.1) 1600 p1 M1 csm pd ph1 (by omega) h1 (fun q hq => Nat.le_trans (by decide) (r1 q hq)) (by omega) P1
      have q1 : ph2 = ph := P2
      subst q1
      have k3 := (opr_k c).1
      have g1 := go_arith (x1 := x1) h2 h10 hph (Or.inr ⟨rfl, rfl, c⟩) hB r2 (by omega) (by omega)
      rw [Nat.add_sub_cancel] at g1
      obtain ⟨M3, s1, s2, s3⟩ := g1
      have nx := nxlt h2 (by omega) (by omega)
      exact ⟨M3, 1, _, s1, s2, by omega, nx, rfl, (ih o _ _ M3 k ph2 false pr _ r s3 h10 hph hr).2.2.1 (by omega) (fun _ e => by cases e) (by rw [List.length_cons]; omega)⟩
    · subst p0; subst b0; subst o0
      show SR b z w bi a x1 M k pr [] r o p 1 (5 + (7 - o)) (Ptt b z) (bnd (rd b z w g 6 o p cs) (lpr b z (rd b z w g 6 o) oor 1600))
      have c1 := (ih o p cs M k 0 true pr [] r h h10 (by decide) hr).2.2.2.2.2.1 (by omega) ht6 rfl rfl HBo.n (by rw [List.length_nil]; omega)
      refine SR.bnd c1 (fun p1 cs1 ph1 pd csm M1 h1 e1 r1 m1 P1 => ?_)
      rw [← e1]
      refine lp_core (F := rd b z w g 6 o) (op := oor) (lst := 1) (mx := 5 + (7 - o)) (lstF := 2) (mxF := 4 + (7 - o)) (P := Ptt b z) (PF := Pbt b z) (fun p2 M2 csm2 pd2 ph2 h2 r2 m2 P2 c => ?_) (by decide) (by omega) (fun t c => ⟨by rw [(oor_v.2 c).2]; decide, by rw [(oor_v.2 c).2]; decide⟩) (fun ph' p' P' c => ⟨P', oor_v.1 c⟩) (fun p' k0 => (ops_end (Or.inl k0)).2.2.1) 1600 p1 M1 csm pd ph1 (by omega) h1 (fun q hq => Nat.le_trans (by decide) (r1 q hq)) (by omega) P1
      obtain ⟨⟨q0, q1, q2⟩, q3⟩ := P2
      have k1 := (isOw_iff.mp (oor_v.2 c).1).1
      have g1 := (go_logic (x1 := x1) h2 h10 q1 ht6 (c := 42) (least := 1) (Or.inr ⟨rfl, rfl, rfl⟩) (oor_v.2 c).1 HBo.n r2 (by omega) (by rw [List.length_nil]; omega)).1 q0
      rw [Nat.add_sub_cancel] at g1
      obtain ⟨M3, s1, s2, s3⟩ := g1
      have nx := nxlt h2 (by omega) (by omega)
      refine ⟨M3, 1, _, s1, s2, by omega, nx, rfl, ?_⟩
      rw [(oor_v.2 c).2]
      exact (ih o _ _ M3 k 0 true pr _ r s3 h10 (by decide) hr).2.2.2.2.2.1 (by omega) ht6 rfl rfl (HBo.c (by decide)) (by rw [List.length_cons, List.length_nil]; omega)
    · subst p0; subst b0
      show SR b z w bi a x1 M k pr ops r o p 2 (4 + (7 - o)) (Pbt b z) (bnd (rd b z w g 7 o p cs) (lpr b z (rd b z w g 7 o) oan 1600))
      have c1 := (ih o p cs M k 0 true pr ops r h h10 (by decide) hr).2.2.2.2.2.2.1 (by omega) ht6 rfl rfl (hB.le (by decide)) (by omega)
      refine SR.bnd c1 (fun p1 cs1 ph1 pd csm M1 h1 e1 r1 m1 P1 => ?_)
      rw [← e1]
      refine lp_core (F := rd b z w g 7 o) (op := oan) (lst := 2) (mx := 4 + (7 - o)) (lstF := 3) (mxF := 3 + (7 - o)) (P := Pbt b z) (PF := Pfc b z) (fun p2 M2 csm2 pd2 ph2 h2 r2 m2 P2 c => ?_) (by decide) (by omega) (fun t c => ⟨by rw [(oan_v.2 c).2]; decide, by rw [(oan_v.2 c).2]; decide⟩) (fun ph' p' P' c => ⟨P', oan_v.1 c⟩) (fun p' k0 => (ops_end (Or.inl k0)).2.2.2) 1600 p1 M1 csm pd ph1 (by omega) h1 (fun q hq => Nat.le_trans (by decide) (r1 q hq)) (by omega) P1
      obtain ⟨q0, q1, q2⟩ := P2
      have k1 := (isOw_iff.mp (oan_v.2 c).1).1
      have g1 := (go_logic (x1 := x1) h2 h10 q1 ht6 (c := 41) (least := 2) (Or.inl ⟨rfl, rfl, rfl⟩) (oan_v.2 c).1 hB r2 (by omega) (by omega)).1 q0
      rw [Nat.add_sub_cancel] at g1
      obtain ⟨M3, s1, s2, s3⟩ := g1
      have nx := nxlt h2 (by omega) (by omega)
      refine ⟨M3, 1, _, s1, s2, by omega, nx, rfl, ?_⟩
      rw [(oan_v.2 c).2]
      exact (ih o _ _ M3 k 0 true pr _ r s3 h10 (by decide) hr).2.2.2.2.2.2.1 (by omega) ht6 rfl rfl (HBo.c (by decide)) (by rw [List.length_cons]; omega)
    · subst p0; subst b0
      exact sim_fact ih h h10 hr (by omega) ht6 hB ht
    · subst p0
      exact sim_comp ih h h10 hr (by omega) ht6 ns hB ht
end
