/-! chip: the class's statements (3) -/
section
variable {b : Nat → Nat} {z c0 p : Nat} {M : Mem} {s : Acs}
theorem rd_len {w : Bool} {ty : Bool} {sel : Nat} (hb : ∀ k, k < z → b k < 256) (hp : p ≤ z) {y : Nat × Cds} (hs : (w = true ∧ sel = 0 ∧ ty = false) ∨ (w = false ∧ sel = 5 ∧ ty = true)) (h : rd b z w 120 sel 0 p [] = .inr y) : p < y.1 ∧ y.1 ≤ z ∧ tyc (lo6 w) (hi6 w) y.2 [] = some [ty] ∧ 0 < y.2.length := by
  have key : TYr z w ty [] p [] (rd b z w 120 sel 0 p []) := by
    have t := rd_ty (w := w) hb 120 0 p [] [] (by decide) hp
    rcases hs with ⟨-, e2, e3⟩ | ⟨-, e2, e3⟩
    · subst e2; subst e3; exact t.1 (by decide)
    · subst e2; subst e3; exact t.2.2.2.2.1 (by decide)
  obtain ⟨a1, a2, ds, a3, a4⟩ := key y h
  rw [List.nil_append] at a3
  rw [← a3] at a4
  refine ⟨a1, a2, a4, ?_⟩
  cases e : y.2 with
  | nil => rw [e] at a4; cases a4
  | cons c l => rw [List.length_cons]; omega
theorem DRc.has {f t n : Nat} (hn : n ≤ 2000) : ∀ {q : Option (Nat × Cds)}, DRc M c0 f t n q → ((zI M c0 t ≤ zI M c0 f) ↔ q.isSome = false)
  | none, h => ⟨fun _ => rfl, fun _ => by rw [h.1, h.2]; decide⟩
  | some x, h => ⟨fun e => by (rw [h.1, h.2.1] at e; exact absurd e (nI_ge (by have := h.2.2.2.1; omega) (by have := h.2.2.2.2; omega))), fun e => by cases e⟩
theorem c_drifts (h : CSt b z c0 M p) (hA : ACc M c0 s) (hn : aN s ≤ p) (k1 : tK (tok b z p) = 1) : CR2 b z c0 M (f_X6_readDrifts 353 M) (drA b z p s) := by
  have hz : c0 = 335 ∨ c0 = 344 := h.2.2.2
  have hz6 := h.1.2.1
  have hpz := h.2.1.2
  have has := hA.2.1.has (by omega)
  unfold f_X6_readDrifts drA f_X0_hasDrifts f_X0_hasDrifts_16
  rw [h.2.2.1, b_i]
  cases hd : aD s with
  | some x =>
    rw [hd] at has
    obtain ⟨M', a1, a2⟩ := CSt.failk (M := M) (x := 6) (k := 6) rfl h.2.1.1.1
    rw [if_neg (fun e => by (have := has.mp e; cases this)), zbz1, b_i, if_pos (show (some x).isSome = true from rfl)]
    dsimp only
    rw [if_neg n10, a1, b_i]
    exact CR2.l (zbz0 _) a2
  | none =>
    rw [hd] at has
    rw [if_pos (has.mpr rfl), zbz0, b_i, if_neg (show ¬ (none : Option (Nat × Cds)).isSome = true by decide)]
    dsimp only
    rw [if_pos rfl]
    obtain ⟨M1, a1, a2, a3, a4⟩ := h.look (by omega) (by omega)
    have hA1 := hA.lo h.2.2.2 (Wlk3 a2)
    rw [a1, b_i, b_i, show zrf (zsI M1 353 12 1) 353 2 = some c0 from a3.2.2.1, b_i, b_i, zI_sn _ _ (by omega), hA1.1, b_i]
    have g : FR (fun x j => (x = 353 ∧ j = 12) ∨ (x = c0 ∧ j = 4)) M1 (zsI (zsI M1 353 12 1) c0 4 (nI (aN s))) := FR.sI (FR.sI (FR.rf (fun x j => (x = 353 ∧ j = 12) ∨ (x = c0 ∧ j = 4)) M1) (by omega)) (by omega)
    have e12 : zI (zsI (zsI M1 353 12 1) c0 4 (nI (aN s))) 353 12 = 1 := by rw [zI_sn _ _ (by omega), zI_se]
    have e4 : zI (zsI (zsI M1 353 12 1) c0 4 (nI (aN s))) c0 4 = nI (aN s) := zI_se _ _ _ _
    revert g e12 e4
    generalize zsI (zsI M1 353 12 1) c0 4 (nI (aN s)) = M2
    intro g e12 e4
    have s2 : CSt b z c0 M2 (nxp b z p) := a3.fr g (fun j _ => by omega) (fun j => by omega) (fun j => by omega)
    have ps : PS b z true c0 (aN s) 0 M2 (nxp b z p) [] := ⟨s2.1, s2.2.1, ⟨s2.2.2.1, s2.2.2.2, e12⟩, ⟨(g.I (by omega)).trans hA1.1, True.intro⟩, by show aN s + 0 + 0 ≤ _; omega⟩
    have rc : RC b z true c0 (aN s) 0 M2 (f_rd 120 0 353 0 0 M2) (rd b z true 120 0 0 (nxp b z p) []) := (c_rd 120 0 0 (nxp b z p) [] M2 (by decide) ps).1 (by decide)
    obtain ⟨r, M3, c1, c2, c3⟩ := rc
    have G3 : FR (Wsm2 c0) M M3 := ((Wlk3 a2).mo (fun x j q => by unfold W3 at q; unfold Wsm2; omega)).tr ((g.mo (fun x j q => by unfold Wsm2; omega)).tr (c2.mo (fun x j q => by unfold Wpx at q; unfold Wsm2; omega)))
    rw [c1, b_i]
    dsimp only
    cases hq : rd b z true 120 0 0 (nxp b z p) [] with
    | inl e =>
      rw [hq] at c3
      rw [c3.1, if_pos rfl]
      exact ⟨fun e' q => by (cases q; exact ⟨M3, rfl, G3, c3.2.1, c3.2.2⟩), fun y q => (by cases q)⟩
    | inr y =>
      rw [hq] at c3
      obtain ⟨l1, l2, l3, l4⟩ := rd_len s2.by8 s2.2.1.2 (Or.inl ⟨rfl, rfl, rfl⟩) hq
      obtain ⟨c3, p1, ⟨p2, p3⟩, ⟨p4, p5, p6⟩, ⟨p7, p8⟩, p9⟩ := c3
      rw [c3, if_neg n10, p4, b_i, b_i, p7, b_i]
      have g4 : FR (fun x j => x = c0 ∧ j = 5) M3 (zsI M3 c0 5 (nI (aN s + y.2.length))) := (FR.rf (fun x j => x = c0 ∧ j = 5) M3).sI ⟨rfl, rfl⟩
      refine ⟨fun e q => (by cases q), fun y' q => ?_⟩
      cases q
      have s3 : CSt b z c0 M3 y.1 := ⟨p1, ⟨p2, p3⟩, p4, p5⟩
      have c2' : ∀ x j, ¬ (x = 353 ∧ 4 ≤ j ∧ j ≤ 11) → ¬ (x = c0 ∧ j = 3) → ¬ (x = c0 + 8 ∧ aN s ≤ j) → ¬ Wpx c0 (aN s) x j := fun x j q1 q2 q3 q => by unfold Wpx at q; omega
      refine ⟨_, rfl, G3.sI (by unfold Wsm2; omega), s3.fr g4 (fun j _ => by omega) (fun j => by omega) (fun j => by omega), ⟨?_, ⟨?_, zI_se _ _ _ _, PRG.fr g4 (fun j => by omega) p8, l4, Nat.le_refl _⟩, ?_, ⟨?_, hA1.2.2.2.1.2.1, fun i l e => ⟨?_, (hA1.2.2.2.1.2.2 i l e).2⟩⟩, fun i i1 i2 => ?_⟩, by show aN s + y.2.length ≤ y.1; omega⟩
      · rw [g4.I (by omega)]; exact p7
      · rw [g4.I (by omega), c2.I (c2' _ _ (by omega) (by omega) (by omega))]; exact e4
      · exact (((hA1.2.2.1.fr g (by omega) (by omega) (fun j _ => by omega)).fr c2 (c2' _ _ (by omega) (by omega) (by omega)) (c2' _ _ (by omega) (by omega) (by omega)) (fun j hj => c2' _ _ (by omega) (by omega) (by omega))).fr g4 (by omega) (by omega) (fun j _ => by omega)).mn (Nat.le_add_right _ _)
      · rw [g4.I (by omega), c2.I (c2' _ _ (by omega) (by omega) (by omega)), g.I (by omega)]; exact hA1.2.2.2.1.1
      · rw [g4.I (by omega), c2.I (c2' _ _ (by omega) (by omega) (by omega)), g.I (by omega)]; exact (hA1.2.2.2.1.2.2 i l e).1
      · rw [g4.I (by omega), c2.I (c2' _ _ (by omega) (by omega) (by omega)), g.I (by omega)]; exact hA1.2.2.2.2 i i1 i2
theorem c_tries (h : CSt b z c0 M p) (hA : ACc M c0 s) (hn : aN s ≤ p) (k1 : tK (tok b z p) = 1) : CR2 b z c0 M (f_X6_readTries 353 M) (trA b z p s) := by
  have hz : c0 = 335 ∨ c0 = 344 := h.2.2.2
  have hz6 := h.1.2.1
  have hpz := h.2.1.2
  have has := hA.2.2.1.has (by omega)
  unfold f_X6_readTries trA f_X0_hasTries f_X0_hasTries_16
  rw [h.2.2.1, b_i]
  cases hd : aT s with
  | some x =>
    rw [hd] at has
    obtain ⟨M', a1, a2⟩ := CSt.failk (M := M) (x := 6) (k := 6) rfl h.2.1.1.1
    rw [if_neg (fun e => by (have := has.mp e; cases this)), zbz1, b_i, if_pos (show (some x).isSome = true from rfl)]
    dsimp only
    rw [if_neg n10, a1, b_i]
    exact CR2.l (zbz0 _) a2
  | none =>
    rw [hd] at has
    rw [if_pos (has.mpr rfl), zbz0, b_i, if_neg (show ¬ (none : Option (Nat × Cds)).isSome = true by decide)]
    dsimp only
    rw [if_pos rfl]
    obtain ⟨M1, a1, a2, a3, a4⟩ := h.look (by omega) (by omega)
    have hA1 := hA.lo h.2.2.2 (Wlk3 a2)
    rw [a1, b_i, b_i, show zrf (zsI M1 353 12 0) 353 2 = some c0 from a3.2.2.1, b_i, b_i, zI_sn _ _ (by omega), hA1.1, b_i]
    have g : FR (fun x j => (x = 353 ∧ j = 12) ∨ (x = c0 ∧ j = 6)) M1 (zsI (zsI M1 353 12 0) c0 6 (nI (aN s))) := FR.sI (FR.sI (FR.rf (fun x j => (x = 353 ∧ j = 12) ∨ (x = c0 ∧ j = 6)) M1) (by omega)) (by omega)
    have e12 : zI (zsI (zsI M1 353 12 0) c0 6 (nI (aN s))) 353 12 = 0 := by rw [zI_sn _ _ (by omega), zI_se]
    have e4 : zI (zsI (zsI M1 353 12 0) c0 6 (nI (aN s))) c0 6 = nI (aN s) := zI_se _ _ _ _
    revert g e12 e4
    generalize zsI (zsI M1 353 12 0) c0 6 (nI (aN s)) = M2
    intro g e12 e4
    have s2 : CSt b z c0 M2 (nxp b z p) := a3.fr g (fun j _ => by omega) (fun j => by omega) (fun j => by omega)
    have ps : PS b z false c0 (aN s) 0 M2 (nxp b z p) [] := ⟨s2.1, s2.2.1, ⟨s2.2.2.1, s2.2.2.2, e12⟩, ⟨(g.I (by omega)).trans hA1.1, True.intro⟩, by show aN s + 0 + 0 ≤ _; omega⟩
    have rc : RC b z false c0 (aN s) 0 M2 (f_rd 120 5 353 0 0 M2) (rd b z false 120 5 0 (nxp b z p) []) := (c_rd 120 0 0 (nxp b z p) [] M2 (by decide) ps).2.2.2.2.1 (by decide)
    obtain ⟨r, M3, c1, c2, c3⟩ := rc
    have G3 : FR (Wsm2 c0) M M3 := ((Wlk3 a2).mo (fun x j q => by unfold W3 at q; unfold Wsm2; omega)).tr ((g.mo (fun x j q => by unfold Wsm2; omega)).tr (c2.mo (fun x j q => by unfold Wpx at q; unfold Wsm2; omega)))
    rw [c1, b_i]
    dsimp only
    cases hq : rd b z false 120 5 0 (nxp b z p) [] with
    | inl e =>
      rw [hq] at c3
      rw [c3.1, if_pos rfl]
      exact ⟨fun e' q => by (cases q; exact ⟨M3, rfl, G3, c3.2.1, c3.2.2⟩), fun y q => (by cases q)⟩
    | inr y =>
      rw [hq] at c3
      obtain ⟨l1, l2, l3, l4⟩ := rd_len s2.by8 s2.2.1.2 (Or.inr ⟨rfl, rfl, rfl⟩) hq
      obtain ⟨c3, p1, ⟨p2, p3⟩, ⟨p4, p5, p6⟩, ⟨p7, p8⟩, p9⟩ := c3
      rw [c3, if_neg n10, p4, b_i, b_i, p7, b_i]
      have g4 : FR (fun x j => x = c0 ∧ j = 7) M3 (zsI M3 c0 7 (nI (aN s + y.2.length))) := (FR.rf (fun x j => x = c0 ∧ j = 7) M3).sI ⟨rfl, rfl⟩
      refine ⟨fun e q => (by cases q), fun y' q => ?_⟩
      cases q
      have s3 : CSt b z c0 M3 y.1 := ⟨p1, ⟨p2, p3⟩, p4, p5⟩
      have c2' : ∀ x j, ¬ (x = 353 ∧ 4 ≤ j ∧ j ≤ 11) → ¬ (x = c0 ∧ j = 3) → ¬ (x = c0 + 8 ∧ aN s ≤ j) → ¬ Wpx c0 (aN s) x j := fun x j q1 q2 q3 q => by unfold Wpx at q; omega
      refine ⟨_, rfl, G3.sI (by unfold Wsm2; omega), s3.fr g4 (fun j _ => by omega) (fun j => by omega) (fun j => by omega), ⟨?_, ?_, ⟨?_, zI_se _ _ _ _, PRG.fr g4 (fun j => by omega) p8, l4, Nat.le_refl _⟩, ⟨?_, hA1.2.2.2.1.2.1, fun i l e => ⟨?_, (hA1.2.2.2.1.2.2 i l e).2⟩⟩, fun i i1 i2 => ?_⟩, by show aN s + y.2.length ≤ y.1; omega⟩
      · rw [g4.I (by omega)]; exact p7
      · exact (((hA1.2.1.fr g (by omega) (by omega) (fun j _ => by omega)).fr c2 (c2' _ _ (by omega) (by omega) (by omega)) (c2' _ _ (by omega) (by omega) (by omega)) (fun j hj => c2' _ _ (by omega) (by omega) (by omega))).fr g4 (by omega) (by omega) (fun j _ => by omega)).mn (Nat.le_add_right _ _)
      · rw [g4.I (by omega), c2.I (c2' _ _ (by omega) (by omega) (by omega))]; exact e4
      · rw [g4.I (by omega), c2.I (c2' _ _ (by omega) (by omega) (by omega)), g.I (by omega)]; exact hA1.2.2.2.1.1
      · rw [g4.I (by omega), c2.I (c2' _ _ (by omega) (by omega) (by omega)), g.I (by omega)]; exact (hA1.2.2.2.1.2.2 i l e).1
      · rw [g4.I (by omega), c2.I (c2' _ _ (by omega) (by omega) (by omega)), g.I (by omega)]; exact hA1.2.2.2.2 i i1 i2
end
