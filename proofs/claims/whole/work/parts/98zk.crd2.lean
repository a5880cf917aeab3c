/-! chip: the class reads sums and tests (2) -/
section
variable {b : Nat → Nat} {z : Nat} {w : Bool} {c0 a : Nat}
theorem n10 : ¬ (1 : Int32) = 0 := by decide
theorem RC.elim {d1 d : Nat} {M : Mem} {res : Option (Int32 × Mem)} {q : PRs} {G : Int32 × Mem → Option (Int32 × Mem)} {k : Nat → Cds → PRs} (h : RC b z w c0 a d1 M res q) (h0 : ∀ M', G (0, M') = some (0, M')) (h1 : ∀ p cs M', PS b z w c0 a d1 M' p cs → RC b z w c0 a d M' (G (1, M')) (k p cs)) : RC b z w c0 a d M (Option.bind res G) (bnd q k) := by
  obtain ⟨r, M', e1, e2, e3⟩ := h
  rw [e1, b_i]
  cases q with
  | inl e => rw [e3.1, h0]; exact ⟨0, M', rfl, e2, rfl, e3.2⟩
  | inr x => rw [e3.1]; exact (h1 x.1 x.2 M' e3.2).fr e2
theorem PS.done {d : Nat} {M : Mem} {p : Nat} {cs : Cds} (h : PS b z w c0 a d M p cs) : RC b z w c0 a d M (some (1, M)) (.inr (p, cs)) := ⟨1, M, rfl, FR.rf _ M, rfl, h⟩
theorem PS.dadd {d : Nat} {M : Mem} {p : Nat} {cs : Cds} {c : Nat × Nat} {x : Int32} (h : PS b z w c0 a (d + 1) M p cs) (hx : x = stp c) : RC b z w c0 a d M (Option.bind (zrf M 353 2) fun q => Option.bind (f_X0_addStep q x M) fun M4 => some (1, M4)) (.inr (p, cs ++ [c])) := by
  obtain ⟨M', a1, a2, a3⟩ := h.add hx
  rw [h.2.2.1.1, b_i, a1, b_i]
  exact ⟨1, M', rfl, a2, rfl, a3⟩
theorem osm_k {t : Tok} (h : ¬ osm t = 0) : tK t = 3 ∧ ((isSg t 43 = true ∧ osm t = 31) ∨ (isSg t 43 = false ∧ isSg t 45 = true ∧ osm t = 32)) := by
  unfold osm at h ⊢
  by_cases q : isSg t 43 = true
  · rw [if_pos q]; exact ⟨(isSg_iff.mp q).1, Or.inl ⟨q, rfl⟩⟩
  · rw [if_neg q] at h ⊢
    by_cases q2 : isSg t 45 = true
    · rw [if_pos q2]; exact ⟨(isSg_iff.mp q2).1, Or.inr ⟨Bool.eq_false_iff.mpr q, q2, rfl⟩⟩
    · rw [if_neg q2] at h; exact absurd rfl h
theorem opr_k {t : Tok} (h : ¬ opr t = 0) : tK t = 3 ∧ ((isSg t 42 = true ∧ opr t = 33) ∨ (isSg t 42 = false ∧ isSg t 47 = true ∧ opr t = 34) ∨ (isSg t 42 = false ∧ isSg t 47 = false ∧ isSg t 37 = true ∧ opr t = 35)) := by
  unfold opr at h ⊢
  by_cases q : isSg t 42 = true
  · rw [if_pos q]; exact ⟨(isSg_iff.mp q).1, Or.inl ⟨q, rfl⟩⟩
  · rw [if_neg q] at h ⊢
    by_cases q2 : isSg t 47 = true
    · rw [if_pos q2]; exact ⟨(isSg_iff.mp q2).1, Or.inr (Or.inl ⟨Bool.eq_false_iff.mpr q, q2, rfl⟩)⟩
    · rw [if_neg q2] at h ⊢
      by_cases q3 : isSg t 37 = true
      · rw [if_pos q3]; exact ⟨(isSg_iff.mp q3).1, Or.inr (Or.inr ⟨Bool.eq_false_iff.mpr q, Bool.eq_false_iff.mpr q2, q3, rfl⟩)⟩
      · rw [if_neg q3] at h; exact absurd rfl h
theorem ocm_k {t : Tok} (h : ¬ ocm t = 0) : tK t = 3 ∧ ((isSg t 60 = true ∧ ocm t = 38) ∨ (isSg t 60 = false ∧ isSg t 62 = true ∧ ocm t = 39) ∨ (isSg t 60 = false ∧ isSg t 62 = false ∧ isSg t 61 = true ∧ ocm t = 40)) := by
  unfold ocm at h ⊢
  by_cases q : isSg t 60 = true
  · rw [if_pos q]; exact ⟨(isSg_iff.mp q).1, Or.inl ⟨q, rfl⟩⟩
  · rw [if_neg q] at h ⊢
    by_cases q2 : isSg t 62 = true
    · rw [if_pos q2]; exact ⟨(isSg_iff.mp q2).1, Or.inr (Or.inl ⟨Bool.eq_false_iff.mpr q, q2, rfl⟩)⟩
    · rw [if_neg q2] at h ⊢
      by_cases q3 : isSg t 61 = true
      · rw [if_pos q3]; exact ⟨(isSg_iff.mp q3).1, Or.inr (Or.inr ⟨Bool.eq_false_iff.mpr q, Bool.eq_false_iff.mpr q2, q3, rfl⟩)⟩
      · rw [if_neg q3] at h; exact absurd rfl h
theorem osm_0 {t : Tok} (h : osm t = 0) : isSg t 43 = false ∧ isSg t 45 = false := by
  unfold osm at h
  by_cases q : isSg t 43 = true
  · rw [if_pos q] at h; cases h
  · rw [if_neg q] at h
    by_cases q2 : isSg t 45 = true
    · rw [if_pos q2] at h; cases h
    · exact ⟨Bool.eq_false_iff.mpr q, Bool.eq_false_iff.mpr q2⟩
theorem opr_0 {t : Tok} (h : opr t = 0) : isSg t 42 = false ∧ isSg t 47 = false ∧ isSg t 37 = false := by
  unfold opr at h
  by_cases q : isSg t 42 = true
  · rw [if_pos q] at h; cases h
  · rw [if_neg q] at h
    by_cases q2 : isSg t 47 = true
    · rw [if_pos q2] at h; cases h
    · rw [if_neg q2] at h
      by_cases q3 : isSg t 37 = true
      · rw [if_pos q3] at h; cases h
      · exact ⟨Bool.eq_false_iff.mpr q, Bool.eq_false_iff.mpr q2, Bool.eq_false_iff.mpr q3⟩
theorem ocm_0 {t : Tok} (h : ocm t = 0) : isSg t 60 = false ∧ isSg t 62 = false ∧ isSg t 61 = false := by
  unfold ocm at h
  by_cases q : isSg t 60 = true
  · rw [if_pos q] at h; cases h
  · rw [if_neg q] at h
    by_cases q2 : isSg t 62 = true
    · rw [if_pos q2] at h; cases h
    · rw [if_neg q2] at h
      by_cases q3 : isSg t 61 = true
      · rw [if_pos q3] at h; cases h
      · exact ⟨Bool.eq_false_iff.mpr q, Bool.eq_false_iff.mpr q2, Bool.eq_false_iff.mpr q3⟩
theorem PS.sgT {d : Nat} {M : Mem} {p : Nat} {cs : Cds} (h : PS b z w c0 a d M p cs) (c : Nat) {x : Int32} (hx : x = nI c) (hc : c < 256) (q : isSg (tok b z p) c = true) : zI M 353 6 = x := (h.sg hx hc).mpr q
theorem PS.sgF {d : Nat} {M : Mem} {p : Nat} {cs : Cds} (h : PS b z w c0 a d M p cs) (c : Nat) {x : Int32} (hx : x = nI c) (hc : c < 256) (q : isSg (tok b z p) c = false) : ¬ zI M 353 6 = x := fun e => by rw [(h.sg hx hc).mp e] at q; cases q
abbrev RK := Nat → Nat → Int32 → Int32 → Mem → Option (Int32 × Mem)
theorem c_sum {rk : RK} {F : Nat → Cds → PRs} {o : Nat} (hF : ∀ d p cs M, PS b z w c0 a d M p cs → RC b z w c0 a d M (rk 1 353 (nI o) 0 M) (F p cs)) : ∀ e i f d p cs M, i + e = 1600 → PS b z w c0 a d M p cs → RC b z w c0 a d M (f_X6_readSum_12 rk 353 (nI o) (e + 1 + f) (nI i) M) (lpr b z F osm e p cs) := by
  intro e
  induction e with
  | zero =>
    intro i f d p cs M hi h
    rw [show 0 + 1 + f = f + 1 by omega, f_X6_readSum_12, if_pos (show (1600 : Int32) ≤ nI i from nI_le (a := 1600) (by omega) (by omega))]
    exact h.done
  | succ e ih =>
    intro i f d p cs M hi h
    rw [show e + 1 + 1 + f = (e + 1 + f) + 1 by omega, f_X6_readSum_12, if_neg (show ¬ (1600 : Int32) ≤ nI i from nI_ge (b := 1600) (by omega) (by decide)), lpr]
    by_cases q0 : osm (tok b z p) = 0
    · obtain ⟨s1, s2⟩ := osm_0 q0
      rw [if_neg (h.sgF 43 (x := 43) rfl (by decide) s1), if_neg (h.sgF 45 (x := 45) rfl (by decide) s2), if_pos q0]
      exact h.done
    · obtain ⟨k3, kk⟩ := osm_k q0
      rw [if_neg q0]
      have st : ∀ x, x = stp (osm (tok b z p), 0) → RC b z w c0 a d M (f_X6_readSum_52 rk (f_X6_readSum_12 rk 353 (nI o) (e + 1 + f)) 353 (nI o) (nI i) x M) (bnd (F (nxp b z p) cs) (fun p' cs' => lpr b z F osm e p' (cs' ++ [(osm (tok b z p), 0)]))) := fun x hx => by
        obtain ⟨M1, a1, a2, a3⟩ := h.look (by omega) (by omega)
        unfold f_X6_readSum_52
        rw [a1, b_i]
        refine RC.fr a2 (RC.elim (hF (d + 1) _ _ _ a3) (fun M' => if_pos rfl) (fun p' cs' M' h' => ?_))
        dsimp only
        obtain ⟨M4, b1, b2, b3⟩ := h'.add hx
        rw [if_neg n10, h'.2.2.1.1, b_i, b1, b_i, nI_1]
        exact (ih (i + 1) f d p' _ M4 (by omega) b3).fr b2
      rcases kk with ⟨s1, s2⟩ | ⟨s1, s2, s3⟩
      · rw [if_pos (h.sgT 43 (x := 43) rfl (by decide) s1)]
        unfold f_X6_readSum_37
        rw [if_pos (h.sgT 43 (x := 43) rfl (by decide) s1)]
        exact st _ (by rw [s2]; rfl)
      · rw [if_neg (h.sgF 43 (x := 43) rfl (by decide) s1), if_pos (h.sgT 45 (x := 45) rfl (by decide) s2)]
        unfold f_X6_readSum_37
        rw [if_neg (h.sgF 43 (x := 43) rfl (by decide) s1)]
        exact st _ (by rw [s3]; rfl)
theorem c_prod {rk : RK} {F : Nat → Cds → PRs} {o : Nat} (hF : ∀ d p cs M, PS b z w c0 a d M p cs → RC b z w c0 a d M (rk 2 353 (nI o) 0 M) (F p cs)) : ∀ e i f d p cs M, i + e = 1600 → PS b z w c0 a d M p cs → RC b z w c0 a d M (f_X6_readProduct_12 rk 353 (nI o) (e + 1 + f) (nI i) M) (lpr b z F opr e p cs) := by
  intro e
  induction e with
  | zero =>
    intro i f d p cs M hi h
    rw [show 0 + 1 + f = f + 1 by omega, f_X6_readProduct_12, if_pos (show (1600 : Int32) ≤ nI i from nI_le (a := 1600) (by omega) (by omega))]
    exact h.done
  | succ e ih =>
    intro i f d p cs M hi h
    rw [show e + 1 + 1 + f = (e + 1 + f) + 1 by omega, f_X6_readProduct_12, if_neg (show ¬ (1600 : Int32) ≤ nI i from nI_ge (b := 1600) (by omega) (by decide)), lpr]
    by_cases q0 : opr (tok b z p) = 0
    · obtain ⟨s1, s2, s3⟩ := opr_0 q0
      rw [if_neg (h.sgF 42 (x := 42) rfl (by decide) s1), if_neg (h.sgF 47 (x := 47) rfl (by decide) s2), if_neg (h.sgF 37 (x := 37) rfl (by decide) s3), if_pos q0]
      exact h.done
    · obtain ⟨k3, kk⟩ := opr_k q0
      rw [if_neg q0]
      have st : ∀ x, x = stp (opr (tok b z p), 0) → RC b z w c0 a d M (f_X6_readProduct_76 rk (f_X6_readProduct_12 rk 353 (nI o) (e + 1 + f)) 353 (nI o) (nI i) x M) (bnd (F (nxp b z p) cs) (fun p' cs' => lpr b z F opr e p' (cs' ++ [(opr (tok b z p), 0)]))) := fun x hx => by
        obtain ⟨M1, a1, a2, a3⟩ := h.look (by omega) (by omega)
        unfold f_X6_readProduct_76
        rw [a1, b_i]
        refine RC.fr a2 (RC.elim (hF (d + 1) _ _ _ a3) (fun M' => if_pos rfl) (fun p' cs' M' h' => ?_))
        dsimp only
        obtain ⟨M4, b1, b2, b3⟩ := h'.add hx
        rw [if_neg n10, h'.2.2.1.1, b_i, b1, b_i, nI_1]
        exact (ih (i + 1) f d p' _ M4 (by omega) b3).fr b2
      rcases kk with ⟨s1, s2⟩ | ⟨s1, s2, s3⟩ | ⟨s1, s2, s3, s4⟩
      · rw [if_pos (h.sgT 42 (x := 42) rfl (by decide) s1)]
        unfold f_X6_readProduct_46
        rw [if_pos (h.sgT 42 (x := 42) rfl (by decide) s1)]
        exact st _ (by rw [s2]; rfl)
      · rw [if_neg (h.sgF 42 (x := 42) rfl (by decide) s1), if_pos (h.sgT 47 (x := 47) rfl (by decide) s2)]
        unfold f_X6_readProduct_46
        rw [if_neg (h.sgF 42 (x := 42) rfl (by decide) s1), if_pos (h.sgT 47 (x := 47) rfl (by decide) s2)]
        exact st _ (by rw [s3]; rfl)
      · rw [if_neg (h.sgF 42 (x := 42) rfl (by decide) s1), if_neg (h.sgF 47 (x := 47) rfl (by decide) s2), if_pos (h.sgT 37 (x := 37) rfl (by decide) s3)]
        unfold f_X6_readProduct_46
        rw [if_neg (h.sgF 42 (x := 42) rfl (by decide) s1), if_neg (h.sgF 47 (x := 47) rfl (by decide) s2)]
        exact st _ (by rw [s4]; rfl)
theorem c_test {rk : RK} {F : Nat → Cds → PRs} {o : Nat} (hF : ∀ d p cs M, PS b z w c0 a d M p cs → RC b z w c0 a d M (rk 6 353 (nI o) 0 M) (F p cs)) : ∀ e i f d p cs M, i + e = 1600 → PS b z w c0 a d M p cs → RC b z w c0 a d M (f_X6_readTest_12 rk 353 (nI o) (e + 1 + f) (nI i) M) (lpr b z F oor e p cs) := by
  intro e
  induction e with
  | zero =>
    intro i f d p cs M hi h
    rw [show 0 + 1 + f = f + 1 by omega, f_X6_readTest_12, if_pos (show (1600 : Int32) ≤ nI i from nI_le (a := 1600) (by omega) (by omega))]
    exact h.done
  | succ e ih =>
    intro i f d p cs M hi h
    rw [show e + 1 + 1 + f = (e + 1 + f) + 1 by omega, f_X6_readTest_12, if_neg (show ¬ (1600 : Int32) ≤ nI i from nI_ge (b := 1600) (by omega) (by decide)), lpr, h.ow (i := 21) (x := 21) rfl (by decide), b_i]
    dsimp only
    cases q : isOw (tok b z p) 21 with
    | false =>
      rw [if_pos (show b01 false = 0 from rfl), show oor (tok b z p) = 0 by unfold oor; rw [q]; rfl, if_pos rfl]
      exact h.done
    | true =>
      have k1 := (isOw_iff.mp q).1
      obtain ⟨M1, a1, a2, a3⟩ := h.look (by omega) (by omega)
      rw [if_neg b01_n0, show oor (tok b z p) = 42 by unfold oor; rw [q]; rfl, if_neg (show ¬ (42 : Nat) = 0 by decide), a1, b_i]
      refine RC.fr a2 (RC.elim (hF (d + 1) _ _ _ a3) (fun M' => if_pos rfl) (fun p' cs' M' h' => ?_))
      dsimp only
      obtain ⟨M4, b1, b2, b3⟩ := h'.add (c := (42, 0)) (x := -12) rfl
      rw [if_neg n10, h'.2.2.1.1, b_i, b1, b_i, nI_1]
      exact (ih (i + 1) f d p' _ M4 (by omega) b3).fr b2
theorem c_both {rk : RK} {F : Nat → Cds → PRs} {o : Nat} (hF : ∀ d p cs M, PS b z w c0 a d M p cs → RC b z w c0 a d M (rk 7 353 (nI o) 0 M) (F p cs)) : ∀ e i f d p cs M, i + e = 1600 → PS b z w c0 a d M p cs → RC b z w c0 a d M (f_X6_readBoth_12 rk 353 (nI o) (e + 1 + f) (nI i) M) (lpr b z F oan e p cs) := by
  intro e
  induction e with
  | zero =>
    intro i f d p cs M hi h
    rw [show 0 + 1 + f = f + 1 by omega, f_X6_readBoth_12, if_pos (show (1600 : Int32) ≤ nI i from nI_le (a := 1600) (by omega) (by omega))]
    exact h.done
  | succ e ih =>
    intro i f d p cs M hi h
    rw [show e + 1 + 1 + f = (e + 1 + f) + 1 by omega, f_X6_readBoth_12, if_neg (show ¬ (1600 : Int32) ≤ nI i from nI_ge (b := 1600) (by omega) (by decide)), lpr, h.ow (i := 22) (x := 22) rfl (by decide), b_i]
    dsimp only
    cases q : isOw (tok b z p) 22 with
    | false =>
      rw [if_pos (show b01 false = 0 from rfl), show oan (tok b z p) = 0 by unfold oan; rw [q]; rfl, if_pos rfl]
      exact h.done
    | true =>
      have k1 := (isOw_iff.mp q).1
      obtain ⟨M1, a1, a2, a3⟩ := h.look (by omega) (by omega)
      rw [if_neg b01_n0, show oan (tok b z p) = 41 by unfold oan; rw [q]; rfl, if_neg (show ¬ (41 : Nat) = 0 by decide), a1, b_i]
      refine RC.fr a2 (RC.elim (hF (d + 1) _ _ _ a3) (fun M' => if_pos rfl) (fun p' cs' M' h' => ?_))
      dsimp only
      obtain ⟨M4, b1, b2, b3⟩ := h'.add (c := (41, 0)) (x := -11) rfl
      rw [if_neg n10, h'.2.2.1.1, b_i, b1, b_i, nI_1]
      exact (ih (i + 1) f d p' _ M4 (by omega) b3).fr b2
end
