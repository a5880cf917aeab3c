/-! chip: what rd reads is well made (2) -/
section
variable {b : Nat → Nat} {z : Nat} {w : Bool}
theorem ty_part (hb : ∀ k, k < z → b k < 256) {g o p : Nat} {cs : Cds} {st : List Bool} (ih : TYc b z w g) (ho : o ≤ 7) (hp : p ≤ z) (hl : st.length ≤ 10 * o + 5) : TYr z w false st p cs (rdp b z w (rd b z w g) o p cs) := by
  intro x h
  have one : ∀ c : Nat × Nat, tK (tok b z p) ≤ 3 → ¬ tK (tok b z p) = 0 → tst (lo6 w) (hi6 w) c st = some (false :: st) → (Sum.inr (nxp b z p, cs ++ [c]) : PRs) = .inr x → p < x.1 ∧ x.1 ≤ z ∧ ∃ ds, x.2 = cs ++ ds ∧ tyc (lo6 w) (hi6 w) ds st = some (false :: st) := fun c k3 k0 ht e => by
    cases e
    obtain ⟨n1, n2⟩ := nx_ok hb hp k3 k0
    exact ⟨n1, n2, [c], rfl, ty_1 ht (by rw [List.length_cons]; omega)⟩
  unfold rdp at h
  by_cases k2 : tK (tok b z p) = 2
  · rw [if_pos k2] at h
    exact one _ (by omega) (by omega) (ts_0 st (by have := (tok_ok hb hp).2.2.2.2.2.1 k2; omega)) h
  rw [if_neg k2] at h
  by_cases s40 : isSg (tok b z p) 40 = true
  · rw [if_pos s40] at h
    obtain ⟨y1, h1, h⟩ := bnd_inv h
    obtain ⟨o7, k3, e1⟩ := opn_inv h1
    subst e1
    obtain ⟨m1, m2⟩ := nx_ok hb hp (by omega) (by omega)
    obtain ⟨y2, h2, h⟩ := bnd_inv h
    obtain ⟨a1, a2, ds, a3, a4⟩ := (ih (o + 1) _ _ st (by omega) m2).1 (by omega) y2 h2
    obtain ⟨k3, e3⟩ := xpc_inv h
    subst e3
    obtain ⟨u1, u2⟩ := nx_ok hb a2 (by omega) (by omega)
    dsimp only at a3 a1 m1 u1 ⊢
    exact ⟨by omega, u2, ds, a3, a4⟩
  rw [if_neg s40] at h
  by_cases o25 : isOw (tok b z p) 25 = true
  · rw [if_pos o25] at h; exact ((ih o p cs st ho hp).2.2.2.1 hl (isOw_iff.mp o25).1).1 x h
  rw [if_neg o25] at h
  by_cases o26 : isOw (tok b z p) 26 = true
  · rw [if_pos o26] at h; exact ((ih o p cs st ho hp).2.2.2.1 hl (isOw_iff.mp o26).1).2.1 x h
  rw [if_neg o26] at h
  by_cases o20 : isOw (tok b z p) 20 = true
  · rw [if_pos o20] at h; exact ((ih o p cs st ho hp).2.2.2.1 hl (isOw_iff.mp o20).1).2.2 x h
  rw [if_neg o20] at h
  by_cases v0 : vcd w (tok b z p) = 0
  · rw [if_pos v0] at h; unfold bad1 at h; cases h
  · rw [if_neg v0] at h
    have hk : tK (tok b z p) = 1 := by
      by_cases q : tK (tok b z p) = 1
      · exact q
      · exact absurd (by unfold vcd; rw [if_neg q]) v0
    exact one _ (by omega) (by omega) (ts_v st v0) h
theorem ty_fact (hb : ∀ k, k < z → b k < 256) {g o p : Nat} {cs : Cds} {st : List Bool} (ih : TYc b z w g) (ho : o ≤ 7) (hp : p ≤ z) (hl : st.length ≤ 10 * o + 2) : TYr z w true st p cs (rdf b z (rd b z w g) o p cs) := by
  intro x h
  unfold rdf at h
  by_cases o23 : isOw (tok b z p) 23 = true
  · rw [if_pos o23] at h
    by_cases o7 : o < 7
    · rw [if_pos o7] at h
      have k1 := (isOw_iff.mp o23).1
      obtain ⟨m1, m2⟩ := nx_ok hb hp (by omega) (by omega)
      obtain ⟨y, h1, h⟩ := bnd_inv h
      obtain ⟨a1, a2, ds, a3, a4⟩ := (ih (o + 1) _ _ st (by omega) m2).2.2.2.2.2.2.1 (by omega) y h1
      cases h
      dsimp only
      refine ⟨by omega, a2, ds ++ [(43, 0)], by rw [a3, List.append_assoc], ?_⟩
      rw [ty_app a4]
      exact ty_1 (ts_43 st) (by rw [List.length_cons]; omega)
    · rw [if_neg o7] at h; cases h
  rw [if_neg o23] at h
  by_cases s91 : isSg (tok b z p) 91 = true
  · rw [if_pos s91] at h
    obtain ⟨y1, h1, h⟩ := bnd_inv h
    obtain ⟨o7, k3, e1⟩ := opn_inv h1
    subst e1
    obtain ⟨m1, m2⟩ := nx_ok hb hp (by omega) (by omega)
    obtain ⟨y2, h2, h⟩ := bnd_inv h
    obtain ⟨a1, a2, ds, a3, a4⟩ := (ih (o + 1) _ _ st (by omega) m2).2.2.2.2.1 (by omega) y2 h2
    obtain ⟨k3, e3⟩ := xpc_inv h
    subst e3
    obtain ⟨u1, u2⟩ := nx_ok hb a2 (by omega) (by omega)
    dsimp only at a3 a1 m1 u1 ⊢
    exact ⟨by omega, u2, ds, a3, a4⟩
  rw [if_neg s91] at h
  by_cases o24 : isOw (tok b z p) 24 = true
  · rw [if_pos o24] at h
    have k1 := (isOw_iff.mp o24).1
    obtain ⟨m1, m2⟩ := nx_ok hb hp (by omega) (by omega)
    cases h
    exact ⟨m1, m2, [(30, 0)], rfl, ty_1 (ts_30 st) (by rw [List.length_cons]; omega)⟩
  · rw [if_neg o24] at h
    exact (ih o p cs st ho hp).2.2.2.2.2.2.2 hl x h
theorem ty_comp (hb : ∀ k, k < z → b k < 256) {g o p : Nat} {cs : Cds} {st : List Bool} (ih : TYc b z w g) (ho : o ≤ 7) (hp : p ≤ z) (hl : st.length ≤ 10 * o + 2) : TYr z w true st p cs (rdm b z (rd b z w g) o p cs) := by
  intro x h
  unfold rdm at h
  obtain ⟨y1, h1, h⟩ := bnd_inv h
  obtain ⟨a1, a2, ds, a3, a4⟩ := (ih o p cs st ho hp).1 (by omega) y1 h1
  by_cases c : ocm (tok b z y1.1) = 0
  · rw [if_pos c] at h; unfold bad1 at h; cases h
  · rw [if_neg c] at h
    have k3 := (ocm_k c).1
    obtain ⟨m1, m2⟩ := nx_ok hb a2 (by omega) (by omega)
    obtain ⟨y2, h2, h⟩ := bnd_inv h
    obtain ⟨c1, c2, es, c3, c4⟩ := (ih o _ _ (false :: st) ho m2).1 (by rw [List.length_cons]; omega) y2 h2
    cases h
    dsimp only
    have cv' := ocm_v c
    refine ⟨by omega, c2, ds ++ (es ++ [(ocm (tok b z y1.1), 0)]), by rw [c3, a3, List.append_assoc, List.append_assoc], ?_⟩
    rw [ty_app a4, ty_app c4]
    refine ty_1 (st' := true :: st) ?_ (by rw [List.length_cons]; omega)
    have := ts_b (w := w) (q := ocm (tok b z y1.1)) false st (by omega) (by rcases cv' with e | e | e <;> rw [e] <;> rfl)
    rw [this]
    rcases cv' with e | e | e <;> rw [e] <;> rfl
theorem rd_ty (hb : ∀ k, k < z → b k < 256) : ∀ g, TYc b z w g := by
  intro g
  induction g with
  | zero => intro o p cs st ho hp; exact ⟨fun _ x h => (by cases h), fun _ x h => (by cases h), fun _ x h => (by cases h), fun _ _ => ⟨fun x h => (by cases h), fun x h => (by cases h), fun x h => (by cases h)⟩, fun _ x h => (by cases h), fun _ x h => (by cases h), fun _ x h => (by cases h), fun _ x h => (by cases h)⟩
  | succ g ih =>
    intro o p cs st ho hp
    refine ⟨fun hl => ?_, fun hl => ?_, fun hl => ty_part hb ih ho hp hl, fun hl k1 => ⟨ty_pair hb ih (Or.inl rfl) ho hp hl k1, ty_pair hb ih (Or.inr rfl) ho hp hl k1, ty_choice hb ih ho hp hl k1⟩, fun hl => ?_, fun hl => ?_, fun hl => ty_fact hb ih ho hp hl, fun hl => ty_comp hb ih ho hp hl⟩
    · show TYr z w false st p cs (bnd (rd b z w g 1 o p cs) (lpr b z (rd b z w g 1 o) osm 1600))
      refine ty_seq hb (by omega) ((ih o p cs st ho hp).2.1 (by omega)) (fun p cs hp => (ih o p cs (false :: st) ho hp).2.1 (by rw [List.length_cons]; omega)) (fun t c => ⟨Or.inr (osm_k c).1, ?_⟩)
      have v := osm_v c
      rw [ts_b (w := w) (q := osm t) false st (by omega) (by rcases v with e | e <;> rw [e] <;> rfl)]
      rcases v with e | e <;> rw [e] <;> rfl
    · show TYr z w false st p cs (bnd (rd b z w g 2 o p cs) (lpr b z (rd b z w g 2 o) opr 1600))
      refine ty_seq hb (by omega) ((ih o p cs st ho hp).2.2.1 (by omega)) (fun p cs hp => (ih o p cs (false :: st) ho hp).2.2.1 (by rw [List.length_cons]; omega)) (fun t c => ⟨Or.inr (opr_k c).1, ?_⟩)
      have v := opr_v c
      rw [ts_b (w := w) (q := opr t) false st (by omega) (by rcases v with e | e | e <;> rw [e] <;> rfl)]
      rcases v with e | e | e <;> rw [e] <;> rfl
    · show TYr z w true st p cs (bnd (rd b z w g 6 o p cs) (lpr b z (rd b z w g 6 o) oor 1600))
      refine ty_seq hb (by omega) ((ih o p cs st ho hp).2.2.2.2.2.1 (by omega)) (fun p cs hp => (ih o p cs (true :: st) ho hp).2.2.2.2.2.1 (by rw [List.length_cons]; omega)) (fun t c => ⟨Or.inl (isOw_iff.mp (oor_v.2 c).1).1, ?_⟩)
      rw [(oor_v.2 c).2]
      exact ts_b (w := w) (q := 42) true st (by decide) (by decide)
    · show TYr z w true st p cs (bnd (rd b z w g 7 o p cs) (lpr b z (rd b z w g 7 o) oan 1600))
      refine ty_seq hb (by omega) ((ih o p cs st ho hp).2.2.2.2.2.2.1 (by omega)) (fun p cs hp => (ih o p cs (true :: st) ho hp).2.2.2.2.2.2.1 (by rw [List.length_cons]; omega)) (fun t c => ⟨Or.inl (isOw_iff.mp (oan_v.2 c).1).1, ?_⟩)
      rw [(oan_v.2 c).2]
      exact ts_b (w := w) (q := 41) true st (by decide) (by decide)
end
