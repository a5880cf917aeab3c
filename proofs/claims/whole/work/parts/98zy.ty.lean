/-! chip: what rd reads is well made -/
section
variable {b : Nat → Nat} {z : Nat} {w : Bool}
theorem bnd_inv {q : PRs} {k : Nat → Cds → PRs} {x : Nat × Cds} (h : bnd q k = .inr x) : ∃ y, q = .inr y ∧ k y.1 y.2 = .inr x := by
  cases q with
  | inl e => cases h
  | inr y => exact ⟨y, rfl, h⟩
theorem xpc_inv {c p : Nat} {cs : Cds} {x : Nat × Cds} (h : xpc b z c p cs = .inr x) : tK (tok b z p) = 3 ∧ x = (nxp b z p, cs) := by
  unfold xpc bad1 at h
  by_cases s : isSg (tok b z p) c = true
  · rw [if_pos s] at h; cases h; exact ⟨(isSg_iff.mp s).1, rfl⟩
  · rw [if_neg s] at h; cases h
theorem opn_inv {c o p : Nat} {cs : Cds} {x : Nat × Cds} (h : opn b z c o p cs = .inr x) : o < 7 ∧ tK (tok b z p) = 3 ∧ x = (nxp b z p, cs) := by
  unfold opn bad1 at h
  by_cases s : isSg (tok b z p) c = true
  · rw [if_pos s] at h
    by_cases o7 : o < 7
    · rw [if_pos o7] at h; cases h; exact ⟨o7, (isSg_iff.mp s).1, rfl⟩
    · rw [if_neg o7] at h; cases h
  · rw [if_neg s] at h; cases h
def lo6 (w : Bool) : Nat := if w = true then 1 else 7
def hi6 (w : Bool) : Nat := if w = true then 6 else 9
theorem ty_app {lo hi : Nat} {es : Cds} : ∀ {ds : Cds} {st st' : List Bool}, tyc lo hi ds st = some st' → tyc lo hi (ds ++ es) st = tyc lo hi es st'
  | [], st, st', h => by cases h; rfl
  | c :: ds, st, st', h => by
    rw [tyc] at h
    rw [List.cons_append, tyc]
    cases e : tst lo hi c st with
    | none => rw [e] at h; cases h
    | some s2 =>
      rw [e] at h
      have h : (if s2.length ≤ 90 then tyc lo hi ds s2 else none) = some st' := h
      show (if s2.length ≤ 90 then tyc lo hi (ds ++ es) s2 else none) = tyc lo hi es st'
      by_cases q : s2.length ≤ 90
      · rw [if_pos q] at h ⊢; exact ty_app h
      · rw [if_neg q] at h; cases h
theorem ty_1 {lo hi : Nat} {c : Nat × Nat} {st st' : List Bool} (h : tst lo hi c st = some st') (hl : st'.length ≤ 90) : tyc lo hi [c] st = some st' := by
  rw [tyc, h]
  show (if st'.length ≤ 90 then tyc lo hi [] st' else none) = some st'
  rw [if_pos hl]; rfl
def TYr (z : Nat) (w : Bool) (ty : Bool) (st : List Bool) (p : Nat) (cs : Cds) (q : PRs) : Prop := ∀ x, q = .inr x → p < x.1 ∧ x.1 ≤ z ∧ ∃ ds, x.2 = cs ++ ds ∧ tyc (lo6 w) (hi6 w) ds st = some (ty :: st)
theorem nx_ok (hb : ∀ k, k < z → b k < 256) {p : Nat} (hp : p ≤ z) (hk : tK (tok b z p) ≤ 3) (h0 : ¬ tK (tok b z p) = 0) : p < nxp b z p ∧ nxp b z p ≤ z := (tok_ok hb hp).2.2.2.1 hk h0
theorem lp_ty (hb : ∀ k, k < z → b k < 256) {F : Nat → Cds → PRs} {op : Tok → Nat} {ty : Bool} {st : List Bool} (hl : st.length ≤ 80) (hF : ∀ p cs, p ≤ z → TYr z w ty (ty :: st) p cs (F p cs)) (ho : ∀ t, ¬ op t = 0 → (tK t = 1 ∨ tK t = 3) ∧ tst (lo6 w) (hi6 w) (op t, 0) (ty :: ty :: st) = some (ty :: st)) : ∀ e p cs, p ≤ z → ∀ x, lpr b z F op e p cs = .inr x → p ≤ x.1 ∧ x.1 ≤ z ∧ ∃ ds, x.2 = cs ++ ds ∧ tyc (lo6 w) (hi6 w) ds (ty :: st) = some (ty :: st) := by
  intro e
  induction e with
  | zero => intro p cs hp x h; cases h; exact ⟨Nat.le_refl _, hp, [], (List.append_nil _).symm, rfl⟩
  | succ e ih =>
    intro p cs hp x h
    rw [lpr] at h
    by_cases c : op (tok b z p) = 0
    · rw [if_pos c] at h; cases h; exact ⟨Nat.le_refl _, hp, [], (List.append_nil _).symm, rfl⟩
    · rw [if_neg c] at h
      obtain ⟨y, h1, h2⟩ := bnd_inv h
      obtain ⟨k1, k2⟩ := ho _ c
      obtain ⟨n1, n2⟩ := nx_ok hb hp (by omega) (by omega)
      obtain ⟨a1, a2, ds, a3, a4⟩ := hF _ _ n2 y h1
      obtain ⟨b1, b2, es, b3, b4⟩ := ih _ _ a2 x h2
      refine ⟨by omega, b2, ds ++ [(op (tok b z p), 0)] ++ es, ?_, ?_⟩
      · rw [b3, a3, List.append_assoc, List.append_assoc, List.append_assoc]
      · rw [List.append_assoc, ty_app a4, ty_app (ty_1 k2 (by rw [List.length_cons]; omega))]; exact b4
theorem ts_b {q : Nat} (ty : Bool) (r : List Bool) (h : 31 ≤ q ∧ q ≤ 42) (e : ty = decide (41 ≤ q)) : tst (lo6 w) (hi6 w) (q, 0) (ty :: ty :: r) = some (decide (38 ≤ q) :: r) := by
  have h9 : hi6 w ≤ 9 := by unfold hi6; cases w <;> decide
  unfold tst
  dsimp only
  rw [if_neg (by omega), if_neg (by omega), if_neg (by omega), if_neg (by omega), if_neg (by omega), if_pos (by omega), if_pos ⟨e, e⟩]
theorem ts_43 (r : List Bool) : tst (lo6 w) (hi6 w) (43, 0) (true :: r) = some (true :: r) := by cases w <;> rfl
theorem ts_44 (r : List Bool) : tst (lo6 w) (hi6 w) (44, 0) (false :: false :: true :: r) = some (false :: r) := by cases w <;> rfl
theorem ts_30 (r : List Bool) : tst (lo6 w) (hi6 w) (30, 0) r = some (true :: r) := by cases w <;> rfl
theorem ts_0 {v : Nat} (r : List Bool) (h : v ≤ 9999) : tst (lo6 w) (hi6 w) (0, v) r = some (false :: r) := by unfold tst; rw [if_pos rfl, if_pos h]
theorem ts_v {t : Tok} (r : List Bool) (h : ¬ vcd w t = 0) : tst (lo6 w) (hi6 w) (vcd w t, 0) r = some (false :: r) := by
  have hk : tK t = 1 := by
    by_cases q : tK t = 1
    · exact q
    · exact absurd (by unfold vcd; rw [if_neg q]) h
  have key : lo6 w ≤ vcd w t ∧ vcd w t ≤ hi6 w := by
    cases w with
    | true => exact ((vcd_d hk).2 h).2
    | false => exact ((vcd_t hk).2 h).2
  unfold tst
  dsimp only
  rw [if_neg h, if_pos key]
def TYc (b : Nat → Nat) (z : Nat) (w : Bool) (g : Nat) : Prop := ∀ o p cs st, o ≤ 7 → p ≤ z → (st.length ≤ 10 * o + 3 → TYr z w false st p cs (rd b z w g 0 o p cs)) ∧ (st.length ≤ 10 * o + 4 → TYr z w false st p cs (rd b z w g 1 o p cs)) ∧ (st.length ≤ 10 * o + 5 → TYr z w false st p cs (rd b z w g 2 o p cs)) ∧ (st.length ≤ 10 * o + 5 → tK (tok b z p) = 1 → TYr z w false st p cs (rd b z w g 3 o p cs) ∧ TYr z w false st p cs (rd b z w g 9 o p cs) ∧ TYr z w false st p cs (rd b z w g 4 o p cs)) ∧ (st.length ≤ 10 * o → TYr z w true st p cs (rd b z w g 5 o p cs)) ∧ (st.length ≤ 10 * o + 1 → TYr z w true st p cs (rd b z w g 6 o p cs)) ∧ (st.length ≤ 10 * o + 2 → TYr z w true st p cs (rd b z w g 7 o p cs)) ∧ (st.length ≤ 10 * o + 2 → TYr z w true st p cs (rd b z w g 8 o p cs))
theorem ty_seq (hb : ∀ k, k < z → b k < 256) {q : PRs} {F : Nat → Cds → PRs} {op : Tok → Nat} {ty : Bool} {st : List Bool} {p : Nat} {cs : Cds} (hl : st.length ≤ 80) (h : TYr z w ty st p cs q) (hF : ∀ p cs, p ≤ z → TYr z w ty (ty :: st) p cs (F p cs)) (ho : ∀ t, ¬ op t = 0 → (tK t = 1 ∨ tK t = 3) ∧ tst (lo6 w) (hi6 w) (op t, 0) (ty :: ty :: st) = some (ty :: st)) : TYr z w ty st p cs (bnd q (lpr b z F op 1600)) := by
  intro x hx
  obtain ⟨y, h1, h2⟩ := bnd_inv hx
  obtain ⟨a1, a2, ds, a3, a4⟩ := h y h1
  obtain ⟨b1, b2, es, b3, b4⟩ := lp_ty hb hl hF ho 1600 _ _ a2 x h2
  exact ⟨by omega, b2, ds ++ es, by rw [b3, a3, List.append_assoc], by rw [ty_app a4]; exact b4⟩
theorem ty_pair (hb : ∀ k, k < z → b k < 256) {g c o p : Nat} {cs : Cds} {st : List Bool} (ih : TYc b z w g) (hc : c = 36 ∨ c = 37) (ho : o ≤ 7) (hp : p ≤ z) (hl : st.length ≤ 10 * o + 5) (k1 : tK (tok b z p) = 1) : TYr z w false st p cs (rda b z (rd b z w g) c o p cs) := by
  intro x h
  unfold rda at h
  obtain ⟨n1, n2⟩ := nx_ok hb hp (by omega) (by omega)
  obtain ⟨y1, h1, h⟩ := bnd_inv h
  obtain ⟨o7, k3, e1⟩ := opn_inv h1
  subst e1
  obtain ⟨m1, m2⟩ := nx_ok hb n2 (by omega) (by omega)
  obtain ⟨y2, h2, h⟩ := bnd_inv h
  obtain ⟨a1, a2, ds, a3, a4⟩ := (ih (o + 1) _ _ st (by omega) m2).1 (by omega) y2 h2
  obtain ⟨y3, h3, h⟩ := bnd_inv h
  obtain ⟨k3, e3⟩ := xpc_inv h3
  subst e3
  obtain ⟨u1, u2⟩ := nx_ok hb a2 (by omega) (by omega)
  obtain ⟨y4, h4, h⟩ := bnd_inv h
  obtain ⟨c1, c2, es, c3, c4⟩ := (ih (o + 1) _ _ (false :: st) (by omega) u2).1 (by rw [List.length_cons]; omega) y4 h4
  obtain ⟨y5, h5, h⟩ := bnd_inv h
  obtain ⟨k3, e5⟩ := xpc_inv h5
  subst e5
  obtain ⟨v1, v2⟩ := nx_ok hb c2 (by omega) (by omega)
  cases h
  dsimp only at a3 c3 m1 u1 v1 ⊢
  refine ⟨by omega, v2, ds ++ (es ++ [(c, 0)]), ?_, ?_⟩
  · show y4.2 ++ [(c, 0)] = cs ++ (ds ++ (es ++ [(c, 0)]))
    rw [c3, a3, List.append_assoc, List.append_assoc]
  · rw [ty_app a4, ty_app c4]
    refine ty_1 (st' := false :: st) ?_ (by rw [List.length_cons]; omega)
    have := ts_b (w := w) (q := c) false st (by omega) (by rcases hc with e | e <;> subst e <;> rfl)
    rw [this]
    rcases hc with e | e <;> subst e <;> rfl
theorem ty_choice (hb : ∀ k, k < z → b k < 256) {g o p : Nat} {cs : Cds} {st : List Bool} (ih : TYc b z w g) (ho : o ≤ 7) (hp : p ≤ z) (hl : st.length ≤ 10 * o + 5) (k1 : tK (tok b z p) = 1) : TYr z w false st p cs (rdc b z (rd b z w g) o p cs) := by
  intro x h
  unfold rdc at h
  obtain ⟨n1, n2⟩ := nx_ok hb hp (by omega) (by omega)
  obtain ⟨y1, h1, h⟩ := bnd_inv h
  obtain ⟨o7, k3, e1⟩ := opn_inv h1
  subst e1
  obtain ⟨m1, m2⟩ := nx_ok hb n2 (by omega) (by omega)
  obtain ⟨y2, h2, h⟩ := bnd_inv h
  obtain ⟨a1, a2, ds, a3, a4⟩ := (ih (o + 1) _ _ st (by omega) m2).2.2.2.2.1 (by omega) y2 h2
  obtain ⟨y3, h3, h⟩ := bnd_inv h
  obtain ⟨k3, e3⟩ := xpc_inv h3
  subst e3
  obtain ⟨u1, u2⟩ := nx_ok hb a2 (by omega) (by omega)
  obtain ⟨y4, h4, h⟩ := bnd_inv h
  obtain ⟨c1, c2, es, c3, c4⟩ := (ih (o + 1) _ _ (true :: st) (by omega) u2).1 (by rw [List.length_cons]; omega) y4 h4
  obtain ⟨y5, h5, h⟩ := bnd_inv h
  obtain ⟨k3, e5⟩ := xpc_inv h5
  subst e5
  obtain ⟨v1, v2⟩ := nx_ok hb c2 (by omega) (by omega)
  obtain ⟨y6, h6, h⟩ := bnd_inv h
  obtain ⟨d1, d2, fs, d3, d4⟩ := (ih (o + 1) _ _ (false :: true :: st) (by omega) v2).1 (by rw [List.length_cons, List.length_cons]; omega) y6 h6
  obtain ⟨y7, h7, h⟩ := bnd_inv h
  obtain ⟨k3, e7⟩ := xpc_inv h7
  subst e7
  obtain ⟨w1, w2⟩ := nx_ok hb d2 (by omega) (by omega)
  cases h
  dsimp only at a3 c3 d3 m1 u1 v1 w1 ⊢
  refine ⟨by omega, w2, ds ++ (es ++ (fs ++ [(44, 0)])), ?_, ?_⟩
  · show y6.2 ++ [(44, 0)] = cs ++ (ds ++ (es ++ (fs ++ [(44, 0)])))
    rw [d3, c3, a3, List.append_assoc, List.append_assoc, List.append_assoc]
  · rw [ty_app a4, ty_app c4, ty_app d4]
    exact ty_1 (ts_44 st) (by rw [List.length_cons]; omega)
end
