/-! chip: what a text that is taken says -/
def AG (q : Nat × Nat × Nat × Nat) (s : Acs) : Prop := (aS s 0 = q.1 ∧ aS s 1 = q.2.1 ∧ aS s 2 = q.2.2.1 ∧ aS s 3 = q.2.2.2) ∧ (51 ≤ aS s 4 ∧ aS s 4 ≤ 99 ∧ aS s 5 ≤ 49 ∧ 1 ≤ aS s 6 ∧ aS s 6 ≤ 99 ∧ 1 ≤ aS s 7 ∧ aS s 7 ≤ 20 ∧ aS s 8 ≤ 100) ∧ (∀ x, aD s = some x → tyc 1 6 x.2 [] = some [false]) ∧ (∀ x, aT s = some x → tyc 7 9 x.2 [] = some [true])
theorem AG.s01 (q : Nat × Nat × Nat × Nat) : AG q (s01 q) := ⟨⟨rfl, rfl, rfl, rfl⟩, ⟨(by decide : 51 ≤ 70), (by decide : 70 ≤ 99), (by decide : 30 ≤ 49), (by decide : 1 ≤ 50), (by decide : 50 ≤ 99), (by decide : 1 ≤ 3), (by decide : 3 ≤ 20), (by decide : 0 ≤ 100)⟩, fun x e => (by cases e), fun x e => (by cases e)⟩
section
variable {b : Nat → Nat} {z p : Nat} {q : Nat × Nat × Nat × Nat} {s : Acs}
theorem pgA_ag (hb : ∀ k, k < z → b k < 256) (hp : p ≤ z) (hk : tK (tok b z p) = 1) (g : AG q s) {y : Nat × Acs} (e : pgA b z p s = .inr y) : y.1 ≤ z ∧ AG q y.2 := by
  unfold pgA at e
  by_cases c1 : 6 ≤ (aM s).length
  · rw [if_pos c1] at e; cases e
  rw [if_neg c1] at e
  have n1 := (nx_ok hb hp (by omega) (by omega)).2
  by_cases c2 : tK (tok b z (nxp b z p)) = 1 ∧ owi (tL (tok b z (nxp b z p))) = 27
  · rw [if_pos c2] at e
    have n2 := (nx_ok hb n1 (by omega) (by omega)).2
    by_cases c3 : tL (tok b z (nxp b z p)) ∈ aM s
    · rw [if_pos c3] at e; cases e
    · rw [if_neg c3] at e
      cases e
      exact ⟨n2, g⟩
  · rw [if_neg c2] at e; cases e
theorem drA_ag (hb : ∀ k, k < z → b k < 256) (hp : p ≤ z) (hk : tK (tok b z p) = 1) (g : AG q s) {y : Nat × Acs} (e : drA b z p s = .inr y) : y.1 ≤ z ∧ AG q y.2 := by
  unfold drA at e
  have n1 := (nx_ok hb hp (by omega) (by omega)).2
  by_cases c1 : (aD s).isSome = true
  · rw [if_pos c1] at e; cases e
  rw [if_neg c1] at e
  cases hr : rd b z true 120 0 0 (nxp b z p) [] with
  | inl er => rw [hr] at e; cases e
  | inr w =>
    rw [hr] at e
    cases e
    obtain ⟨-, r2, r3, -⟩ := rd_len hb n1 (Or.inl ⟨rfl, rfl, rfl⟩) hr
    exact ⟨r2, g.1, g.2.1, fun x q => by cases q; exact r3, g.2.2.2⟩
theorem trA_ag (hb : ∀ k, k < z → b k < 256) (hp : p ≤ z) (hk : tK (tok b z p) = 1) (g : AG q s) {y : Nat × Acs} (e : trA b z p s = .inr y) : y.1 ≤ z ∧ AG q y.2 := by
  unfold trA at e
  have n1 := (nx_ok hb hp (by omega) (by omega)).2
  by_cases c1 : (aT s).isSome = true
  · rw [if_pos c1] at e; cases e
  rw [if_neg c1] at e
  cases hr : rd b z false 120 5 0 (nxp b z p) [] with
  | inl er => rw [hr] at e; cases e
  | inr w =>
    rw [hr] at e
    cases e
    obtain ⟨-, r2, r3, -⟩ := rd_len hb n1 (Or.inr ⟨rfl, rfl, rfl⟩) hr
    exact ⟨r2, g.1, g.2.1, g.2.2.1, fun x q => by cases q; exact r3⟩
theorem seA_ag (hb : ∀ k, k < z → b k < 256) (hp : p ≤ z) (hk : tK (tok b z p) = 1) (ho : 5 ≤ owi (tL (tok b z p)) ∧ owi (tL (tok b z p)) ≤ 9) (g : AG q s) {y : Nat × Acs} (e : seA b z p s = .inr y) : y.1 ≤ z ∧ AG q y.2 := by
  unfold seA numA at e
  have n1 := (nx_ok hb hp (by omega) (by omega)).2
  by_cases c1 : tK (tok b z (nxp b z p)) = 2
  · rw [if_pos c1] at e
    have n2 := (nx_ok hb n1 (by omega) (by omega)).2
    revert ho e
    generalize owi (tL (tok b z p)) = o
    intro ho e
    by_cases c2 : lwA o ≤ tV (tok b z (nxp b z p)) ∧ tV (tok b z (nxp b z p)) ≤ upA o
    · rw [if_pos c2] at e
      cases e
      obtain ⟨⟨a0, a1, a2, a3⟩, ⟨d1, d2, d3, d4, d5, d6, d7, d8⟩, g3⟩ := g
      refine ⟨n2, ⟨?_, ?_, ?_, ?_⟩, ?_, g3⟩
      · exact (if_neg (by omega)).trans a0
      · exact (if_neg (by omega)).trans a1
      · exact (if_neg (by omega)).trans a2
      · exact (if_neg (by omega)).trans a3
      · have ho' : o = 5 ∨ o = 6 ∨ o = 7 ∨ o = 8 ∨ o = 9 := by omega
        rcases ho' with e | e | e | e | e <;> subst e
        · exact ⟨c2.1, c2.2, d3, d4, d5, d6, d7, d8⟩
        · exact ⟨d1, d2, c2.2, d4, d5, d6, d7, d8⟩
        · exact ⟨d1, d2, d3, c2.1, c2.2, d6, d7, d8⟩
        · exact ⟨d1, d2, d3, d4, d5, c2.1, c2.2, d8⟩
        · exact ⟨d1, d2, d3, d4, d5, d6, d7, c2.2⟩
    · rw [if_neg c2] at e; cases e
  · rw [if_neg c1] at e; cases e
theorem stA_ag (hb : ∀ k, k < z → b k < 256) (hp : p ≤ z) (g : AG q s) {y : Nat × Acs} (e : stA b z p s = .inr y) : y.1 ≤ z ∧ AG q y.2 := by
  unfold stA at e
  by_cases hk : tK (tok b z p) = 1
  · rw [if_pos hk] at e
    by_cases c1 : owi (tL (tok b z p)) = 4
    · rw [if_pos c1] at e; exact pgA_ag hb hp hk g e
    rw [if_neg c1] at e
    by_cases c2 : owi (tL (tok b z p)) = 10
    · rw [if_pos c2] at e; exact drA_ag hb hp hk g e
    rw [if_neg c2] at e
    by_cases c3 : owi (tL (tok b z p)) = 11
    · rw [if_pos c3] at e; exact trA_ag hb hp hk g e
    rw [if_neg c3] at e
    by_cases c4 : 5 ≤ owi (tL (tok b z p)) ∧ owi (tL (tok b z p)) ≤ 9
    · rw [if_pos c4] at e; exact seA_ag hb hp hk c4 g e
    · rw [if_neg c4] at e; cases e
  · rw [if_neg hk] at e; cases e
theorem lpA_ag (hb : ∀ k, k < z → b k < 256) : ∀ {f p : Nat} {s : Acs} {k : Nat} {y : Nat × Acs}, p ≤ z → AG q s → lpA b z f p s k = .inr y → AG q y.2 := by
  intro f
  induction f with
  | zero => intro p s k y hp g e; cases e; exact g
  | succ f ih =>
    intro p s k y hp g e
    rw [lpA] at e
    by_cases c1 : tK (tok b z p) = 0
    · rw [if_pos c1] at e; cases e; exact g
    rw [if_neg c1] at e
    by_cases c2 : k = 40
    · rw [if_pos c2] at e; cases e
    rw [if_neg c2] at e
    cases h : stA b z p s with
    | inl e' => rw [h] at e; cases e
    | inr w =>
      rw [h] at e
      dsimp only at e
      obtain ⟨w1, w2⟩ := stA_ag hb hp g h
      by_cases c3 : isSg (tok b z w.1) 59 = true
      · rw [if_pos c3] at e
        have := (isSg_iff.mp c3).1
        exact ih (nx_ok hb w1 (by omega) (by omega)).2 w2 e
      · rw [if_neg c3] at e; cases e
theorem ownB_le (hb : ∀ k, k < z → b k < 256) (hp : p ≤ z) {i : Nat} {k : Nat → FRs} (hk : ∀ p', p' ≤ z → ∀ y, k p' = .inr y → y.1 ≤ z) : ∀ y, ownB b z p i k = .inr y → y.1 ≤ z := by
  intro y e
  unfold ownB at e
  by_cases c : isOw (tok b z p) i = true
  · rw [if_pos c] at e
    have := (isOw_iff.mp c).1
    exact hk _ (nx_ok hb hp (by omega) (by omega)).2 y e
  · rw [if_neg c] at e; cases e
theorem numB_le (hb : ∀ k, k < z → b k < 256) (hp : p ≤ z) {l u : Nat} {k : Nat → Nat → FRs} (hk : ∀ v p', p' ≤ z → ∀ y, k v p' = .inr y → y.1 ≤ z) : ∀ y, numB b z p l u k = .inr y → y.1 ≤ z := by
  intro y e
  unfold numB at e
  by_cases c : tK (tok b z p) = 2
  · rw [if_pos c] at e
    by_cases c2 : l ≤ tV (tok b z p) ∧ tV (tok b z p) ≤ u
    · rw [if_pos c2] at e
      exact hk _ _ (nx_ok hb hp (by omega) (by omega)).2 y e
    · rw [if_neg c2] at e; cases e
  · rw [if_neg c] at e; cases e
theorem fl0_le (hb : ∀ k, k < z → b k < 256) (hp : p ≤ z) : ∀ y, fl0 b z p = .inr y → y.1 ≤ z := by
  unfold fl0
  refine ownB_le hb hp (fun p1 h1 => numB_le hb h1 (fun m p2 h2 => ownB_le hb h2 (fun p3 h3 => ?_)))
  unfold fl1
  refine numB_le hb h3 (fun po p4 h4 y e => ?_)
  by_cases c : fprim m po = true
  · rw [if_pos c] at e
    unfold fl2 at e
    refine ownB_le hb h4 (fun p5 h5 => numB_le hb h5 (fun t p6 h6 y e => ?_)) y e
    by_cases c2 : (gj po (2 * t)).2 < fN m
    · rw [if_pos c2] at e
      unfold fl3 at e
      refine ownB_le hb h6 (fun p7 h7 => ?_) y e
      unfold fl4
      exact numB_le hb h7 (fun v p8 h8 y e => by cases e; exact h8)
    · rw [if_neg c2] at e; cases e
  · rw [if_neg c] at e; cases e
theorem chA_ag (hb : ∀ k, k < z → b k < 256) {y : (Nat × Nat × Nat × Nat) × Nat × Acs} (e : chA b z = .inr y) : AG y.1 y.2.2 := by
  unfold chA at e
  cases h : fl0 b z 0 with
  | inl er => rw [h] at e; cases e
  | inr w =>
    rw [h] at e
    dsimp only at e
    have hw := fl0_le hb (Nat.zero_le _) w h
    by_cases c : isSg (tok b z w.1) 59 = true
    · rw [if_pos c] at e
      have := (isSg_iff.mp c).1
      have n1 := (nx_ok hb hw (by omega) (by omega)).2
      cases hl : lpA b z 40 (nxp b z w.1) (s01 w.2) 1 with
      | inl er => rw [hl] at e; cases e
      | inr v =>
        rw [hl] at e
        cases e
        exact lpA_ag hb n1 (AG.s01 _) hl
    · rw [if_neg c] at e; cases e
end
/-- the chip that a text tells -/
def chH (y : (Nat × Nat × Nat × Nat) × Nat × Acs) : CH := (fun i => if i = 0 then y.1.1 else if i = 1 then y.1.2.1 else if i = 2 then y.1.2.2.1 else if i = 3 then fN y.1.1 - y.1.2.2.2 else if i = 4 then (gj y.1.2.1 (2 * y.1.2.2.1)).2 else if i = 5 then (gj y.1.2.1 (2 * y.1.2.2.1)).1 else if i = 6 then (aM y.2.2).length else aS y.2.2 (i - 3), (aD y.2.2).map (fun x => x.2), (aT y.2.2).map (fun x => x.2), fun i => (aM y.2.2).getD i [])
theorem chH_cv {M : Mem} {c0 : Nat} {y : (Nat × Nat × Nat × Nat) × Nat × Acs} (f : CFd M c0 y.1) (a : ACc M c0 y.2.2) (g : AG y.1 y.2.2) : CV (chH y) := by
  obtain ⟨⟨-, -, -, -, -, -, -, hP⟩, -, ⟨t1, t5, hc⟩, -⟩ := f
  obtain ⟨-, ⟨g1, g2, g3⟩, g4⟩ := gc2_at hP t1 t5
  obtain ⟨k1, k2⟩ := g4 (by omega)
  refine ⟨hP, ⟨t1, t5, k1⟩, ⟨k2, ?_, ?_⟩, ⟨g1, g2, g3⟩, a.2.2.2.1.2.1, ?_, fun cs e => ?_, fun cs e => ?_⟩
  · show (gj y.1.2.1 (2 * y.1.2.2.1)).2 < fN y.1.1 - y.1.2.2.2; omega
  · show fN y.1.1 - y.1.2.2.2 ≤ fN y.1.1; omega
  · exact g.2.1
  · obtain ⟨x, e1, e2⟩ := Option.map_eq_some_iff.mp e
    rw [← e2]; exact g.2.2.1 x e1
  · obtain ⟨x, e1, e2⟩ := Option.map_eq_some_iff.mp e
    rw [← e2]; exact g.2.2.2 x e1
