/-! chip: the whole text (1): the class -/
def s01 (q : Nat × Nat × Nat × Nat) : Acs := (0, none, none, [], fun i => if i = 0 then q.1 else if i = 1 then q.2.1 else if i = 2 then q.2.2.1 else if i = 3 then q.2.2.2 else if i = 4 then 70 else if i = 5 then 30 else if i = 6 then 50 else if i = 7 then 3 else 0)
abbrev CAs := (Nat × Nat) ⊕ ((Nat × Nat × Nat × Nat) × Nat × Acs)
def chA (b : Nat → Nat) (z : Nat) : CAs := match fl0 b z 0 with
  | .inl e => .inl e
  | .inr y => if isSg (tok b z y.1) 59 = true then (match lpA b z 40 (nxp b z y.1) (s01 y.2) 1 with
    | .inl e => .inl e
    | .inr w => .inr (y.2, w.1, w.2)) else .inl (1, tBd (tok b z y.1))
theorem WRl_n : WRl.all (fun t => decide (¬ (t.1 = 353 ∧ t.2.1 = 2) ∧ ¬ (t.1 = 0 ∧ (t.2.1 = 11 ∨ t.2.1 = 12)))) = true := by decide +kernel
theorem zR_sR (M : Mem) (a k v x j : Nat) : zR (zsR M a k v) x j = if x = a ∧ j = k then v else zR M x j := by
  show (zup (M.2.2) a (zup (zR M a) k v)) x j = _
  unfold zup
  by_cases q : x = a
  · rw [if_pos q]
    by_cases q2 : j = k
    · rw [if_pos q2, if_pos ⟨q, q2⟩]
    · rw [if_neg q2, if_neg (fun e => q2 e.2), q]
  · rw [if_neg q, if_neg (fun e => q e.1)]; rfl
theorem WRc.sR {M : Mem} {a k v : Nat} (h : WRc M) (hk : (a = 353 ∧ k = 2) ∨ (a = 0 ∧ (k = 11 ∨ k = 12))) : WRc (zsR M a k v) := fun t ht => by
  have := of_decide_eq_true (List.all_eq_true.mp WRl_n t ht)
  rw [zR_sR, if_neg (fun e => by omega)]
  exact h t ht
section
variable {b : Nat → Nat} {z c0 : Nat} {M : Mem}
theorem c_clear (hz : zCh2 c0) (q : Nat × Nat × Nat × Nat) : ∃ M', f_X0_clear c0 M = some M' ∧ FR (fun x j => x = c0 ∧ 3 ≤ j ∧ j ≤ 14) M M' ∧ ACc M' c0 (s01 q) := by
  refine ⟨zsI (zsI (zsI (zsI (zsI (zsI (zsI (zsI (zsI (zsI (zsI (zsI M c0 3 0) c0 4 0) c0 5 0) c0 6 0) c0 7 0) c0 8 0) c0 9 0) c0 10 70) c0 11 30) c0 12 50) c0 13 3) c0 14 0, ?_, ?_, ?_⟩
  · unfold f_X0_clear
    rw [b_i, b_i, b_i, b_i, b_i, b_i, b_i, b_i, b_i, b_i, b_i, b_i]
  · exact FR.sI (FR.sI (FR.sI (FR.sI (FR.sI (FR.sI (FR.sI (FR.sI (FR.sI (FR.sI (FR.sI (FR.sI (FR.rf _ M) (by omega)) (by omega)) (by omega)) (by omega)) (by omega)) (by omega)) (by omega)) (by omega)) (by omega)) (by omega)) (by omega)) (by omega)
  · refine ⟨?_, ⟨?_, ?_⟩, ⟨?_, ?_⟩, ⟨?_, Nat.zero_le _, fun i l e => (by cases e)⟩, fun i i1 i2 => ?_⟩
    · rw [zI_sn _ _ (by omega), zI_sn _ _ (by omega), zI_sn _ _ (by omega), zI_sn _ _ (by omega), zI_sn _ _ (by omega), zI_sn _ _ (by omega), zI_sn _ _ (by omega), zI_sn _ _ (by omega), zI_sn _ _ (by omega), zI_sn _ _ (by omega), zI_sn _ _ (by omega), zI_se]; rfl
    · rw [zI_sn _ _ (by omega), zI_sn _ _ (by omega), zI_sn _ _ (by omega), zI_sn _ _ (by omega), zI_sn _ _ (by omega), zI_sn _ _ (by omega), zI_sn _ _ (by omega), zI_sn _ _ (by omega), zI_sn _ _ (by omega), zI_sn _ _ (by omega), zI_se]
    · rw [zI_sn _ _ (by omega), zI_sn _ _ (by omega), zI_sn _ _ (by omega), zI_sn _ _ (by omega), zI_sn _ _ (by omega), zI_sn _ _ (by omega), zI_sn _ _ (by omega), zI_sn _ _ (by omega), zI_sn _ _ (by omega), zI_se]
    · rw [zI_sn _ _ (by omega), zI_sn _ _ (by omega), zI_sn _ _ (by omega), zI_sn _ _ (by omega), zI_sn _ _ (by omega), zI_sn _ _ (by omega), zI_sn _ _ (by omega), zI_sn _ _ (by omega), zI_se]
    · rw [zI_sn _ _ (by omega), zI_sn _ _ (by omega), zI_sn _ _ (by omega), zI_sn _ _ (by omega), zI_sn _ _ (by omega), zI_sn _ _ (by omega), zI_sn _ _ (by omega), zI_se]
    · rw [zI_sn _ _ (by omega), zI_sn _ _ (by omega), zI_sn _ _ (by omega), zI_sn _ _ (by omega), zI_sn _ _ (by omega), zI_se]; rfl
    · have hi : i = 4 ∨ i = 5 ∨ i = 6 ∨ i = 7 ∨ i = 8 := by omega
      rcases hi with e | e | e | e | e <;> subst e
      · rw [zI_sn _ _ (by omega), zI_sn _ _ (by omega), zI_sn _ _ (by omega), zI_sn _ _ (by omega), zI_se]; rfl
      · rw [zI_sn _ _ (by omega), zI_sn _ _ (by omega), zI_sn _ _ (by omega), zI_se]; rfl
      · rw [zI_sn _ _ (by omega), zI_sn _ _ (by omega), zI_se]; rfl
      · rw [zI_sn _ _ (by omega), zI_se]; rfl
      · rw [zI_se]; rfl
theorem ACc.q {q q' : Nat × Nat × Nat × Nat} (h : ACc M c0 (s01 q)) : ACc M c0 (s01 q') := ⟨h.1, h.2.1, h.2.2.1, h.2.2.2.1, fun i i1 i2 => by
  have := h.2.2.2.2 i i1 i2
  have hi : i = 4 ∨ i = 5 ∨ i = 6 ∨ i = 7 ∨ i = 8 := by omega
  rcases hi with e | e | e | e | e <;> subst e <;> exact this⟩
theorem ACc.fd {M1 : Mem} {s : Acs} (hz : zCh2 c0) (h : ACc M c0 s) (f : FR (Wfd c0) M M1) : ACc M1 c0 s := by
  have hz' : c0 = 335 ∨ c0 = 344 := hz
  exact ⟨(f.I (by unfold Wfd; omega)).trans h.1, h.2.1.fr f (by unfold Wfd; omega) (by unfold Wfd; omega) (fun j _ => by unfold Wfd; omega), h.2.2.1.fr f (by unfold Wfd; omega) (by unfold Wfd; omega) (fun j _ => by unfold Wfd; omega), ⟨(f.I (by unfold Wfd; omega)).trans h.2.2.2.1.1, h.2.2.2.1.2.1, fun i l e => ⟨(f.I (by unfold Wfd; omega)).trans (h.2.2.2.1.2.2 i l e).1, (h.2.2.2.1.2.2 i l e).2⟩⟩, fun i i1 i2 => (f.I (by unfold Wfd; omega)).trans (h.2.2.2.2 i i1 i2)⟩
theorem CFd.fr {W : Nat → Nat → Prop} {M1 : Mem} {q : Nat × Nat × Nat × Nat} (h : CFd M c0 q) (f : FR W M M1) (hw : ∀ x j, x = c0 + 1 ∨ x = c0 + 2 ∨ x = c0 + 3 ∨ x = c0 + 6 → ¬ W x j) : CFd M1 c0 q := by
  obtain ⟨h1, h2, h3, h4, h5, h6, h7, h8, h9⟩ := h
  exact ⟨h1.fr f (hw _ _ (by omega)) (fun _ => hw _ _ (by omega)) (fun _ => hw _ _ (by omega)), (f.I (hw _ _ (by omega))).trans h2, h3, (f.I (hw _ _ (by omega))).trans h4, (f.I (hw _ _ (by omega))).trans h5, ⟨(f.I (hw _ _ (by omega))).trans h6.1, (f.I (hw _ _ (by omega))).trans h6.2⟩, (f.L (hw _ _ (by omega))).trans h7, (f.I (hw _ _ (by omega))).trans h8, fun k hk => (f.I (hw _ _ (by omega))).trans (h9 k hk)⟩
def Wcr (c0 x j : Nat) : Prop := (x = 353 ∧ 3 ≤ j ∧ j ≤ 12) ∨ (c0 ≤ x ∧ x ≤ c0 + 8)
theorem c_reads (hz : zCh2 c0) (hW : WRc M) (h16 : z ≤ 1600) (hb : ∀ k, k < z → zI M 1 k = nI (b k) ∧ b k < 256) (hO : OWN M) : (∀ er, chA b z = .inl er → ∃ M', f_X6_reads 353 (nI z) c0 M = some (0, M') ∧ FR (Wcr c0) (zsR M 353 2 (c0 + 1)) M' ∧ zI M' 353 4 = nI er.1 ∧ zI M' 353 5 = nI er.2) ∧ (∀ y, chA b z = .inr y → ∃ M', f_X6_reads 353 (nI z) c0 M = some (1, M') ∧ FR (Wcr c0) (zsR M 353 2 (c0 + 1)) M' ∧ CFd M' c0 y.1 ∧ zI M' c0 8 = nI y.2.1 ∧ ACc M' c0 y.2.2 ∧ zI M' 353 4 = 0) := by
  have hz' : c0 = 335 ∨ c0 = 344 := hz
  have hW0 : WRc (zsR M 353 2 (c0 + 1)) := hW.sR (Or.inl ⟨rfl, rfl⟩)
  have r2 : zrf (zsR M 353 2 (c0 + 1)) 353 2 = some c0 := zrf_of (by rw [zR_sR, if_pos ⟨rfl, rfl⟩])
  have i0 : ∀ x j, zI (zsR M 353 2 (c0 + 1)) x j = zI M x j := fun _ _ => rfl
  have comm : zsR (zsI M 353 3 (nI z)) 353 2 (c0 + 1) = zsI (zsR M 353 2 (c0 + 1)) 353 3 (nI z) := rfl
  revert hW0 r2 i0 comm
  generalize zsR M 353 2 (c0 + 1) = N
  intro hW0 r2 i0 comm
  have f3 : FR (Wcr c0) N (zsI N 353 3 (nI z)) := (FR.rf _ N).sI (by unfold Wcr; omega)
  obtain ⟨M13, a1, a2, a3⟩ := c_clear (M := zsI N 353 3 (nI z)) hz (0, 0, 0, 0)
  have f13 : FR (Wcr c0) N M13 := f3.tr (a2.mo (fun x j q => by unfold Wcr; omega))
  have f16 : FR (Wcr c0) N (zsI (zsI (zsI M13 353 4 0) 353 5 (-1)) 353 9 0) := FR.sI (FR.sI (FR.sI f13 (by unfold Wcr; omega)) (by unfold Wcr; omega)) (by unfold Wcr; omega)
  have k16 : FR (fun x j => (x = 353 ∧ (j = 4 ∨ j = 5 ∨ j = 9)) ∨ x = c0) (zsI N 353 3 (nI z)) (zsI (zsI (zsI M13 353 4 0) 353 5 (-1)) 353 9 0) := FR.sI (FR.sI (FR.sI (a2.mo (fun x j q => by omega)) (by omega)) (by omega)) (by omega)
  have A16 : ACc (zsI (zsI (zsI M13 353 4 0) 353 5 (-1)) 353 9 0) c0 (s01 (0, 0, 0, 0)) := a3.lo hz (FR.sI (FR.sI (FR.sI (FR.rf _ M13) (by unfold W3; omega)) (by unfold W3; omega)) (by unfold W3; omega))
  have T16 : CTx (zsI (zsI (zsI M13 353 4 0) 353 5 (-1)) 353 9 0) b z := by
    refine ⟨f16.W hW0, h16, ?_, fun k hk => ⟨?_, (hb k hk).2⟩, fun i hi => ?_, ?_⟩
    · rw [k16.I (by omega), zI_se]
    · rw [k16.I (by omega), zI_sn _ _ (by omega), i0]; exact (hb k hk).1
    · rw [k16.I (by omega), zI_sn _ _ (by omega), i0]; exact hO i hi
    · rw [zI_sn _ _ (by omega), zI_sn _ _ (by omega), zI_se]
  obtain ⟨M17, b1, b2, b3⟩ := s_look T16 (p := 0) (zI_se _ _ _ _) (Nat.zero_le _)
  have h17 : CSt b z c0 M17 0 := ⟨T16.lo b2, ⟨b3, Nat.zero_le _⟩, (b2.R _ _).trans ((f16.R _ _).trans r2), hz⟩
  have A17 : ACc M17 c0 (s01 (0, 0, 0, 0)) := A16.lo hz (Wlk3 b2)
  have f17 : FR (Wcr c0) N M17 := f16.tr (b2.mo (fun x j q => by unfold Wlk6 at q; unfold Wcr; omega))
  have start : f_X6_reads 353 (nI z) c0 M = Option.bind (f_X6_readField 353 M17) fun z18 => (if z18.1 = 0 then f_X6_reads_60 353 (nI z) c0 z18.2 else Option.bind (f_X6_readSign 353 59 z18.2) fun z19 => (if z19.1 = 0 then f_X6_reads_60 353 (nI z) c0 z19.2 else Option.bind (zrf z19.2 353 2) fun q20 => Option.bind (some (zsI z19.2 q20 8 1)) fun M21 => f_X6_reads_72 353 (nI z) c0 1000000 0 M21)) := by
    unfold f_X6_reads f_J9_min_7cf53 f_J9_min_7cf53_10
    rw [w353_1 hW, b_i, show zlen 1 = nI 1600 from rfl, if_neg (nI_nlt h16 (by decide)), b_i]
    dsimp only
    rw [b_i, b_i, comm, zrf_sI, r2, b_i, a1, b_i, b_i, b_i, b_i, b1, b_i]
  rw [start]
  clear start
  obtain ⟨g1, g2⟩ := c_fld h17
  unfold chA f_X6_reads_60
  have Ffd : ∀ {M' : Mem}, FR (Wfd c0) M17 M' → FR (Wcr c0) N M' := fun f => f17.tr (f.mo (fun x j q => by unfold Wfd at q; unfold Wcr; omega))
  cases hq : fl0 b z 0 with
  | inl e =>
    obtain ⟨M', c1, c2, c3⟩ := g1 e hq
    rw [c1, b_i]
    refine ⟨fun er q => ?_, fun y q => (by cases q)⟩
    cases q
    exact ⟨M', if_pos rfl, Ffd c2, c3⟩
  | inr y =>
    obtain ⟨M18, c1, c2, c3, c4⟩ := g2 y hq
    have A18 : ACc M18 c0 (s01 y.2) := (A17.fd hz c2).q
    obtain ⟨d1, d2⟩ := c3.rSg (c := 59) (x := 59) rfl (by decide)
    rw [c1, b_i]
    dsimp only
    rw [if_neg n10]
    cases hs : isSg (tok b z y.1) 59 with
    | false =>
      obtain ⟨M', e1, e2⟩ := d2 hs
      rw [e1, b_i, if_neg (show ¬ false = true by decide)]
      refine ⟨fun er q => ?_, fun y q => (by cases q)⟩
      cases q
      exact ⟨M', if_pos rfl, Ffd (c2.tr (e2.1.mo (fun x j q => by unfold W3 at q; unfold Wfd; omega))), e2.2⟩
    | true =>
      obtain ⟨M19, e1, e2, e3, e4⟩ := d1 hs
      have g8 : FR (fun x j => x = c0 ∧ j = 8) M19 (zsI M19 c0 8 1) := (FR.rf (fun x j => x = c0 ∧ j = 8) M19).sI ⟨rfl, rfl⟩
      have f21 : FR (Wcr c0) N (zsI M19 c0 8 1) := (Ffd (c2.tr (Wlkf e2))).tr (g8.mo (fun x j q => by unfold Wcr; omega))
      have C21 : CFd (zsI M19 c0 8 1) c0 y.2 := (c4.fr e2 (fun x j _ => by unfold Wlk6; omega)).fr g8 (fun x j _ => by omega)
      obtain ⟨l1, l2⟩ := c_loop (x1 := nI z) (r2 := c0) 40 0 999959 (nxp b z y.1) (s01 y.2) (zsI M19 c0 8 1) rfl (e3.fr g8 (fun j _ => by omega) (fun j => by omega) (fun j => by omega)) ((A18.lo hz (Wlk3 e2)).f8 hz g8) (zI_se _ _ _ _) (Nat.zero_le _)
      rw [e1, b_i, if_pos rfl]
      dsimp only
      rw [if_neg n10, e3.2.2.1, b_i, b_i]
      have Flp : ∀ {M' : Mem}, FR (Wsm3 c0) (zsI M19 c0 8 1) M' → FR (Wcr c0) N M' := fun f => f21.tr (f.mo (fun x j q => by unfold Wsm3 at q; unfold Wcr; omega))
      cases hl : lpA b z 40 (nxp b z y.1) (s01 y.2) 1 with
      | inl e =>
        obtain ⟨M', k1, k2, k3⟩ := l1 e hl
        refine ⟨fun er q => ?_, fun y q => (by cases q)⟩
        cases q
        exact ⟨M', k1, Flp k2, k3⟩
      | inr w =>
        obtain ⟨M', k1, k2, k3, k4, k5⟩ := l2 w hl
        refine ⟨fun er q => (by cases q), fun y' q => ?_⟩
        cases q
        exact ⟨M', k1, Flp k2, C21.fr k2 (fun x j _ => by unfold Wsm3; omega), k4, k3, k5⟩
end
