/-! chip: the class's statements (1) -/
section
variable {b : Nat → Nat} {z c0 p : Nat} {M : Mem}
def CSt (b : Nat → Nat) (z c0 : Nat) (M : Mem) (p : Nat) : Prop := CTx M b z ∧ (TC M (tok b z p) ∧ p ≤ z) ∧ zrf M 353 2 = some c0 ∧ zCh2 c0
def W3 (x j : Nat) : Prop := x = 353 ∧ 4 ≤ j ∧ j ≤ 11
theorem CSt.by8 (h : CSt b z c0 M p) : ∀ k, k < z → b k < 256 := fun k hk => (h.1.2.2.2.1 k hk).2
theorem CSt.fr {W : Nat → Nat → Prop} {M1 : Mem} (h : CSt b z c0 M p) (f : FR W M M1) (h1 : ∀ j, j ≤ 11 → ¬ W 353 j) (h2 : ∀ j, ¬ W 1 j) (h3 : ∀ j, ¬ W 354 j) : CSt b z c0 M1 p := by
  obtain ⟨t1, t2, t3, t4, t5, t6⟩ := h.2.1.1
  exact ⟨h.1.fr f ⟨h1 _ (by omega), h1 _ (by omega)⟩ h2 h3, ⟨⟨(f.I (h1 _ (by omega))).trans t1, (f.I (h1 _ (by omega))).trans t2, (f.I (h1 _ (by omega))).trans t3, fun q => (f.I (h1 _ (by omega))).trans (t4 q), fun q => ⟨(f.I (h1 _ (by omega))).trans (t5 q).1, (f.I (h1 _ (by omega))).trans (t5 q).2⟩, fun q => (f.I (h1 _ (by omega))).trans (t6 q)⟩, h.2.1.2⟩, (f.R _ _).trans h.2.2.1, h.2.2.2⟩
theorem CSt.look (h : CSt b z c0 M p) (hk : tK (tok b z p) ≤ 3) (h0 : ¬ tK (tok b z p) = 0) : ∃ M', f_X6_look 353 M = some M' ∧ FR Wlk6 M M' ∧ CSt b z c0 M' (nxp b z p) ∧ p < nxp b z p := by
  obtain ⟨n1, n2⟩ := (tok_ok h.by8 h.2.1.2).2.2.2.1 hk h0
  obtain ⟨M', a1, a2, a3⟩ := s_look h.1 (h.2.1.1.2.2.2.1 hk) n2
  exact ⟨M', a1, a2, ⟨h.1.lo a2, ⟨a3, n2⟩, (a2.R _ _).trans h.2.2.1, h.2.2.2⟩, n1⟩
theorem CSt.sg (h : CSt b z c0 M p) {c : Nat} {x : Int32} (hx : x = nI c) (hc : c < 256) : zI M 353 6 = x ↔ isSg (tok b z p) c = true := by
  rw [h.2.1.1.2.1, hx]; exact tkI_sg (tok_ok h.by8 h.2.1.2).2.2.2.2.2.2.1 hc
theorem CSt.kd (h : CSt b z c0 M p) : (zI M 353 6 = -2 ↔ tK (tok b z p) = 1) ∧ (zI M 353 6 = -3 ↔ tK (tok b z p) = 2) ∧ (zI M 353 6 = -1 ↔ tK (tok b z p) = 0) := by
  rw [h.2.1.1.2.1]; exact tkI_k (tok_ok h.by8 h.2.1.2).2.2.2.2.2.2.1
def CFl (M M' : Mem) (e : Nat × Nat) : Prop := FR W3 M M' ∧ zI M' 353 4 = nI e.1 ∧ zI M' 353 5 = nI e.2
theorem CSt.fail (h : CSt b z c0 M p) : ∃ M', f_X6_failHere 353 M = some (0, M') ∧ CFl M M' (1, tBd (tok b z p)) := by
  refine ⟨zsI (zsI M 353 4 1) 353 5 (zI M 353 8), ?_, FR.sI (FR.sI (FR.rf _ M) (by unfold W3; omega)) (by unfold W3; omega), ?_, ?_⟩
  · unfold f_X6_failHere f_X6_failBy
    rw [b_i, b_i, b_i, zbz0]
  · rw [zI_sn _ _ (by omega), zI_se]; rfl
  · rw [zI_se]; exact h.2.1.1.2.2.1
theorem CSt.failk {k : Nat} {x y : Int32} (hx : x = nI k) {m : Nat} (hy : y = nI m) : ∃ M', f_X6_failBy 353 x y M = some (0, M') ∧ CFl M M' (k, m) := by
  refine ⟨zsI (zsI M 353 4 x) 353 5 y, ?_, FR.sI (FR.sI (FR.rf _ M) (by unfold W3; omega)) (by unfold W3; omega), ?_, ?_⟩
  · unfold f_X6_failBy
    rw [b_i, b_i]
  · rw [zI_sn _ _ (by omega), zI_se]; exact hx
  · rw [zI_se]; exact hy
theorem CFl.fr {M0 M' : Mem} {e : Nat × Nat} (f : FR Wlk6 M M0) (h : CFl M0 M' e) : CFl M M' e := ⟨(f.mo (fun x j q => by unfold Wlk6 at q; unfold W3; omega)).tr h.1, h.2⟩
theorem CSt.ow (h : CSt b z c0 M p) {i : Nat} {x : Int32} (hx : x = nI i) (hi : i < 27) : f_X6_isOwn 353 x M = some (b01 (isOw (tok b z p) i), M) := by
  unfold f_X6_isOwn f_X6_isOwn_21 f_X6_isOwn_22
  by_cases q : tK (tok b z p) = 1
  · rw [if_pos (h.kd.1.mpr q), (h.2.1.1.2.2.2.2.1 q).2]
    by_cases q2 : owi (tL (tok b z p)) = i
    · rw [if_pos (by rw [hx]; exact (owv_eq hi).mpr q2), zbz1, isOw_iff.mpr ⟨q, q2⟩]; rfl
    · rw [if_neg (fun e => q2 ((owv_eq hi).mp (e.trans hx))), zbz0, show isOw (tok b z p) i = false from Bool.eq_false_iff.mpr (fun e => q2 (isOw_iff.mp e).2)]; rfl
  · rw [if_neg (fun e => q (h.kd.1.mp e)), zbz0, show isOw (tok b z p) i = false from Bool.eq_false_iff.mpr (fun e => q (isOw_iff.mp e).1)]; rfl
/-- readOwn, readSign, readNumber -/
theorem CSt.rOwn (h : CSt b z c0 M p) {i : Nat} {x : Int32} (hx : x = nI i) (hi : i < 27) : (isOw (tok b z p) i = true → ∃ M', f_X6_readOwn 353 x M = some (1, M') ∧ FR Wlk6 M M' ∧ CSt b z c0 M' (nxp b z p) ∧ p < nxp b z p) ∧ (isOw (tok b z p) i = false → ∃ M', f_X6_readOwn 353 x M = some (0, M') ∧ CFl M M' (1, tBd (tok b z p))) := by
  unfold f_X6_readOwn
  rw [h.ow hx hi, b_i]
  dsimp only
  constructor
  · intro q
    have k1 := (isOw_iff.mp q).1
    obtain ⟨M', a1, a2, a3, a4⟩ := h.look (by omega) (by omega)
    rw [q, if_neg b01_n0, a1, b_i]
    exact ⟨M', rfl, a2, a3, a4⟩
  · intro q
    obtain ⟨M', a1, a2⟩ := h.fail
    rw [q, if_pos b01_f, a1, b_i]
    exact ⟨M', zbz0 _, a2⟩
theorem CSt.rSg (h : CSt b z c0 M p) {c : Nat} {x : Int32} (hx : x = nI c) (hc : c < 256) : (isSg (tok b z p) c = true → ∃ M', f_X6_readSign 353 x M = some (1, M') ∧ FR Wlk6 M M' ∧ CSt b z c0 M' (nxp b z p) ∧ p < nxp b z p) ∧ (isSg (tok b z p) c = false → ∃ M', f_X6_readSign 353 x M = some (0, M') ∧ CFl M M' (1, tBd (tok b z p))) := by
  unfold f_X6_readSign
  constructor
  · intro q
    have k3 := (isSg_iff.mp q).1
    obtain ⟨M', a1, a2, a3, a4⟩ := h.look (by omega) (by omega)
    rw [if_pos ((h.sg hx hc).mpr q), a1, b_i]
    exact ⟨M', rfl, a2, a3, a4⟩
  · intro q
    obtain ⟨M', a1, a2⟩ := h.fail
    rw [if_neg (fun e => by (rw [(h.sg hx hc).mp e] at q; cases q)), a1, b_i]
    exact ⟨M', zbz0 _, a2⟩
theorem CSt.rNum (h : CSt b z c0 M p) {l u : Nat} {x y : Int32} (hx : x = nI l) (hy : y = nI u) (hl : l < 10000) (hu : u < 10000) : (tK (tok b z p) = 2 → l ≤ tV (tok b z p) → tV (tok b z p) ≤ u → ∃ M', f_X6_readNumber 353 x y M = some (nI (tV (tok b z p)), M') ∧ FR Wlk6 M M' ∧ CSt b z c0 M' (nxp b z p) ∧ p < nxp b z p) ∧ (tK (tok b z p) = 2 → ¬ (l ≤ tV (tok b z p) ∧ tV (tok b z p) ≤ u) → ∃ M', f_X6_readNumber 353 x y M = some (-1, M') ∧ CFl M M' (4, tS (tok b z p))) ∧ (¬ tK (tok b z p) = 2 → ∃ M', f_X6_readNumber 353 x y M = some (-1, M') ∧ CFl M M' (1, tBd (tok b z p))) := by
  unfold f_X6_readNumber f_X6_readNumber_32
  refine ⟨fun k2 h1 h2 => ?_, fun k2 hn => ?_, fun k2 => ?_⟩
  · have hv := (tok_ok h.by8 h.2.1.2).2.2.2.2.2.1 k2
    obtain ⟨M', a1, a2, a3, a4⟩ := h.look (by omega) (by omega)
    rw [if_pos (h.kd.2.1.mpr k2), h.2.1.1.2.2.2.2.2 k2, hx, hy, if_neg (nI_nlt h1 (by omega)), if_pos (nI_le h2 (by omega)), a1, b_i]
    exact ⟨M', rfl, a2, a3, a4⟩
  · have hv := (tok_ok h.by8 h.2.1.2).2.2.2.2.2.1 k2
    obtain ⟨M', a1, a2⟩ := CSt.failk (M := M) (x := 4) (k := 4) rfl h.2.1.1.1
    rw [if_pos (h.kd.2.1.mpr k2), h.2.1.1.2.2.2.2.2 k2, hx, hy]
    by_cases c : tV (tok b z p) < l
    · rw [if_pos (nI_lt c (by omega)), a1, b_i]; exact ⟨M', rfl, a2⟩
    · rw [if_neg (nI_nlt (by omega) (by omega)), if_neg (nI_ge (show u < tV (tok b z p) by omega) (by omega)), a1, b_i]; exact ⟨M', rfl, a2⟩
  · obtain ⟨M', a1, a2⟩ := h.fail
    rw [if_neg (fun e => k2 (h.kd.2.1.mp e)), a1, b_i]
    exact ⟨M', rfl, a2⟩
end
/-- what a chip's text has told so far: codes, drifts, tries, names, numbers -/
abbrev Acs := Nat × Option (Nat × Cds) × Option (Nat × Cds) × List (List Nat) × (Nat → Nat)
def aN (s : Acs) : Nat := s.1
def aD (s : Acs) : Option (Nat × Cds) := s.2.1
def aT (s : Acs) : Option (Nat × Cds) := s.2.2.1
def aM (s : Acs) : List (List Nat) := s.2.2.2.1
def aS (s : Acs) : Nat → Nat := s.2.2.2.2
def DRc (M : Mem) (c0 f t n : Nat) : Option (Nat × Cds) → Prop
  | none => zI M c0 f = 0 ∧ zI M c0 t = 0
  | some x => zI M c0 f = nI x.1 ∧ zI M c0 t = nI (x.1 + x.2.length) ∧ PRG M (c0 + 8) x.1 x.2 ∧ 0 < x.2.length ∧ x.1 + x.2.length ≤ n
def ACc (M : Mem) (c0 : Nat) (s : Acs) : Prop := (zI M c0 3 = nI (aN s)) ∧ DRc M c0 4 5 (aN s) (aD s) ∧ DRc M c0 6 7 (aN s) (aT s) ∧ (zI M c0 9 = nI (aM s).length ∧ (aM s).length ≤ 6 ∧ (∀ i l, (aM s)[i]? = some l → zI M (c0 + 7) i = nI (pk5 l) ∧ NM l)) ∧ (∀ i, 4 ≤ i → i ≤ 8 → zI M c0 (i + 6) = nI (aS s i))
theorem DRc.fr {W : Nat → Nat → Prop} {M M1 : Mem} {c0 f t n : Nat} (g : FR W M M1) (h1 : ¬ W c0 f) (h2 : ¬ W c0 t) (h3 : ∀ j, j < n → ¬ W (c0 + 8) j) : ∀ {q : Option (Nat × Cds)}, DRc M c0 f t n q → DRc M1 c0 f t n q
  | none, h => ⟨(g.I h1).trans h.1, (g.I h2).trans h.2⟩
  | some x, h => ⟨(g.I h1).trans h.1, (g.I h2).trans h.2.1, PRG.fj g (fun j _ j2 => h3 j (by have := h.2.2.2.2; omega)) h.2.2.1, h.2.2.2⟩
theorem DRc.mn {M : Mem} {c0 f t n n' : Nat} (hn : n ≤ n') : ∀ {q : Option (Nat × Cds)}, DRc M c0 f t n q → DRc M c0 f t n' q
  | none, h => h
  | some x, h => ⟨h.1, h.2.1, h.2.2.1, h.2.2.2.1, by have := h.2.2.2.2; omega⟩
theorem ACc.lo {M M1 : Mem} {c0 : Nat} {s : Acs} (hz : zCh2 c0) (h : ACc M c0 s) (f : FR W3 M M1) : ACc M1 c0 s := by
  have hz' : c0 = 335 ∨ c0 = 344 := hz
  exact ⟨(f.I (by unfold W3; omega)).trans h.1, h.2.1.fr f (by unfold W3; omega) (by unfold W3; omega) (fun j _ => by unfold W3; omega), h.2.2.1.fr f (by unfold W3; omega) (by unfold W3; omega) (fun j _ => by unfold W3; omega), ⟨(f.I (by unfold W3; omega)).trans h.2.2.2.1.1, h.2.2.2.1.2.1, fun i l e => ⟨(f.I (by unfold W3; omega)).trans (h.2.2.2.1.2.2 i l e).1, (h.2.2.2.1.2.2 i l e).2⟩⟩, fun i i1 i2 => (f.I (by unfold W3; omega)).trans (h.2.2.2.2 i i1 i2)⟩
theorem Wlk3 {M M1 : Mem} (f : FR Wlk6 M M1) : FR W3 M M1 := f.mo (fun x j q => by unfold Wlk6 at q; unfold W3; omega)
