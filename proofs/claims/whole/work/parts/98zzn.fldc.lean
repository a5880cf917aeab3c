/-! chip: the first statement (1): the class -/
abbrev FRs := (Nat × Nat) ⊕ (Nat × Nat × Nat × Nat × Nat)
def ownB (b : Nat → Nat) (z p i : Nat) (k : Nat → FRs) : FRs := if isOw (tok b z p) i = true then k (nxp b z p) else .inl (1, tBd (tok b z p))
def numB (b : Nat → Nat) (z p l u : Nat) (k : Nat → Nat → FRs) : FRs := if tK (tok b z p) = 2 then (if l ≤ tV (tok b z p) ∧ tV (tok b z p) ≤ u then k (tV (tok b z p)) (nxp b z p) else .inl (4, tS (tok b z p))) else .inl (1, tBd (tok b z p))
def fl4 (b : Nat → Nat) (z m po t p : Nat) : FRs := numB b z p 0 (fN m - (gj po (2 * t)).2 - 1) (fun s q => .inr (q, m, po, t, s))
def fl3 (b : Nat → Nat) (z m po t p : Nat) : FRs := ownB b z p 3 (fl4 b z m po t)
def fl2 (b : Nat → Nat) (z m po p : Nat) : FRs := ownB b z p 2 (fun p5 => numB b z p5 1 5 (fun t p6 => if (gj po (2 * t)).2 < fN m then fl3 b z m po t p6 else .inl (4, tS (tok b z p5))))
def fl1 (b : Nat → Nat) (z m p : Nat) : FRs := numB b z p 0 9999 (fun po p4 => if fprim m po = true then fl2 b z m po p4 else .inl (4, tS (tok b z p)))
def fl0 (b : Nat → Nat) (z p : Nat) : FRs := ownB b z p 0 (fun p1 => numB b z p1 3 6 (fun m p2 => ownB b z p2 1 (fl1 b z m)))
section
variable {b : Nat → Nat} {z c0 p : Nat} {M : Mem}
def Wfd (c0 x j : Nat) : Prop := (x = 353 ∧ 4 ≤ j ∧ j ≤ 11) ∨ x = c0 + 1 ∨ x = c0 + 2 ∨ x = c0 + 3 ∨ x = c0 + 6
def CFd (M : Mem) (c0 : Nat) (q : Nat × Nat × Nat × Nat) : Prop := CO M (c0 + 1) (c0 + 2) (c0 + 3) q.1 q.2.1 ∧ zI M (c0 + 1) 6 = nI q.1 ∧ (1 ≤ q.2.2.1 ∧ q.2.2.1 ≤ 5 ∧ (gj q.2.1 (2 * q.2.2.1)).2 + q.2.2.2 < fN q.1) ∧ zI M (c0 + 1) 8 = nI q.2.2.1 ∧ zI M (c0 + 1) 9 = nI (gj q.2.1 (2 * q.2.2.1)).2 ∧ (zI M (c0 + 1) 10 = nI (fN q.1 - q.2.2.2) ∧ zI M (c0 + 1) 11 = nI (fN q.1 - q.2.2.2 - (gj q.2.1 (2 * q.2.2.1)).2)) ∧ zL M (c0 + 1) 12 = lN (gj q.2.1 (2 * q.2.2.1)).1 ∧ zI M (c0 + 1) 5 = 0 ∧ ∀ k, k < 4 → zI M (c0 + 6) k = -1
def CRf (b : Nat → Nat) (z c0 : Nat) (M : Mem) (F : Option (Int32 × Mem)) (r : FRs) : Prop := (∀ er, r = .inl er → ∃ M', F = some (0, M') ∧ FR (Wfd c0) M M' ∧ zI M' 353 4 = nI er.1 ∧ zI M' 353 5 = nI er.2) ∧ (∀ y, r = .inr y → ∃ M', F = some (1, M') ∧ FR (Wfd c0) M M' ∧ CSt b z c0 M' y.1 ∧ CFd M' c0 y.2)
theorem CRf.fr {M0 : Mem} {F : Option (Int32 × Mem)} {r : FRs} (f : FR (Wfd c0) M M0) (h : CRf b z c0 M0 F r) : CRf b z c0 M F r := ⟨fun er q => by obtain ⟨M', a1, a2, a3⟩ := h.1 er q; exact ⟨M', a1, f.tr a2, a3⟩, fun y q => by obtain ⟨M', a1, a2, a3⟩ := h.2 y q; exact ⟨M', a1, f.tr a2, a3⟩⟩
theorem CRf.bad {M' : Mem} {F : Option (Int32 × Mem)} {e : Nat × Nat} (h1 : F = some (0, M')) (h2 : CFl M M' e) : CRf b z c0 M F (.inl e) := ⟨fun er q => by cases q; exact ⟨M', h1, h2.1.mo (fun x j q => by unfold W3 at q; unfold Wfd; omega), h2.2⟩, fun y q => (by cases q)⟩
theorem Wlkf {M1 : Mem} (f : FR Wlk6 M M1) : FR (Wfd c0) M M1 := f.mo (fun x j q => by unfold Wlk6 at q; unfold Wfd; omega)
theorem c_own {i : Nat} {x : Int32} (hx : x = nI i) (hi : i < 27) (h : CSt b z c0 M p) {K : Int32 × Mem → Option (Int32 × Mem)} {k : Nat → FRs} (hK : ∀ M1, FR Wlk6 M M1 → CSt b z c0 M1 (nxp b z p) → CRf b z c0 M1 (K (1, M1)) (k (nxp b z p))) : CRf b z c0 M (Option.bind (f_X6_readOwn 353 x M) fun z => if z.1 = 0 then some (0, z.2) else K z) (ownB b z p i k) := by
  obtain ⟨g1, g2⟩ := h.rOwn hx hi
  unfold ownB
  cases hs : isOw (tok b z p) i with
  | true =>
    obtain ⟨M1, a1, a2, a3, a4⟩ := g1 hs
    rw [a1, b_i, if_pos rfl]
    dsimp only
    rw [if_neg n10]
    exact (hK M1 a2 a3).fr (Wlkf a2)
  | false =>
    obtain ⟨M1, a1, a2⟩ := g2 hs
    rw [a1, b_i, if_neg (show ¬ false = true by decide)]
    exact CRf.bad (if_pos rfl) a2
theorem c_nmb {l u : Nat} {x y : Int32} (hx : x = nI l) (hy : y = nI u) (hl : l < 10000) (hu : u < 10000) (h : CSt b z c0 M p) {K : Int32 × Mem → Option (Int32 × Mem)} {k : Nat → Nat → FRs} (hK : ∀ M1, tK (tok b z p) = 2 → l ≤ tV (tok b z p) → tV (tok b z p) ≤ u → FR Wlk6 M M1 → CSt b z c0 M1 (nxp b z p) → CRf b z c0 M1 (K (nI (tV (tok b z p)), M1)) (k (tV (tok b z p)) (nxp b z p))) : CRf b z c0 M (Option.bind (f_X6_readNumber 353 x y M) fun z => if z.1 = (-1) then some (0, z.2) else K z) (numB b z p l u k) := by
  obtain ⟨g1, g2, g3⟩ := h.rNum hx hy hl hu
  unfold numB
  by_cases k2 : tK (tok b z p) = 2
  · rw [if_pos k2]
    by_cases c : l ≤ tV (tok b z p) ∧ tV (tok b z p) ≤ u
    · obtain ⟨M1, a1, a2, a3, a4⟩ := g1 k2 c.1 c.2
      rw [if_pos c, a1, b_i]
      dsimp only
      rw [if_neg (nI_nm (by omega))]
      exact (hK M1 k2 c.1 c.2 a2 a3).fr (Wlkf a2)
    · obtain ⟨M1, a1, a2⟩ := g2 k2 c
      rw [if_neg c, a1, b_i]
      exact CRf.bad (if_pos rfl) a2
  · obtain ⟨M1, a1, a2⟩ := g3 k2
    rw [if_neg k2, a1, b_i]
    exact CRf.bad (if_pos rfl) a2
theorem c_178 (h : CSt b z c0 M p) : (tK (tok b z p) = 2 → ∃ M', f_X6_readField_178 353 M = some (1, M') ∧ FR Wlk6 M M' ∧ CSt b z c0 M' (nxp b z p)) ∧ (¬ tK (tok b z p) = 2 → ∃ M', f_X6_readField_178 353 M = some (0, M') ∧ CFl M M' (1, tBd (tok b z p))) := by
  obtain ⟨g1, g2, g3⟩ := h.rNum (l := 0) (u := 9999) (x := 0) (y := 9999) rfl rfl (by decide) (by decide)
  unfold f_X6_readField_178 f_X6_readField_195
  refine ⟨fun k2 => ?_, fun k2 => ?_⟩
  · have hv := (tok_ok h.by8 h.2.1.2).2.2.2.2.2.1 k2
    obtain ⟨M1, a1, a2, a3, a4⟩ := g1 k2 (by omega) (by omega)
    rw [a1, b_i]
    dsimp only
    rw [if_neg (nI_nm (by omega)), zbz1]
    exact ⟨M1, rfl, a2, a3⟩
  · obtain ⟨M1, a1, a2⟩ := g3 k2
    rw [a1, b_i]
    exact ⟨M1, by rw [if_pos rfl, zbz0], a2⟩
/-- short and its number -/
theorem c_fl4 {m po t : Nat} (h : CSt b z c0 M p) (hO : CO M (c0 + 1) (c0 + 2) (c0 + 3) m po) (h6 : zI M (c0 + 1) 6 = nI m) (t1 : 1 ≤ t) (t5 : t ≤ 5) (h8 : zI M (c0 + 1) 8 = nI t) (h9 : zI M (c0 + 1) 9 = nI (gj po (2 * t)).2) (h12 : zL M (c0 + 1) 12 = lN (gj po (2 * t)).1) (hc : (gj po (2 * t)).2 < fN m) : CRf b z c0 M (if zI M 353 6 = (-3) then Option.bind (zrf M 353 2) fun q10 => Option.bind (zrf M q10 0) fun q11 => Option.bind (f_X1_takesShort q11 (zI M 353 10) M) fun z12 => (if z12.1 = 0 then Option.bind (f_X6_failBy 353 4 (zI z12.2 353 7) z12.2) fun z13 => zbz z13.1 (some (z13.1, z13.2)) else f_X6_readField_178 353 z12.2) else f_X6_readField_178 353 M) (fl4 b z m po t p) := by
  have hz : c0 = 335 ∨ c0 = 344 := h.2.2.2
  have hm := f_m hO.pr
  unfold fl4 numB
  by_cases k2 : tK (tok b z p) = 2
  · have hv := (tok_ok h.by8 h.2.1.2).2.2.2.2.2.1 k2
    obtain ⟨M1, a1, a2, a3, a4, a5⟩ := c_short (s := tV (tok b z p)) h.2.2.2 h.1.1 (n := fN m) (c := (gj po (2 * t)).2) (by omega) (by omega) hv hO.sz h9
    have h1 : CSt b z c0 M1 p := h.fr a2 (fun j _ => by omega) (fun j => by omega) (fun j => by omega)
    have F1 : FR (Wfd c0) M M1 := a2.mo (fun x j q => by unfold Wfd; omega)
    rw [if_pos (h.kd.2.1.mpr k2), if_pos k2, h.2.2.1, b_i, wC_0 h.1.1 h.2.2.2, b_i, h.2.1.1.2.2.2.2.2 k2, a1, b_i]
    dsimp only
    by_cases c : (gj po (2 * t)).2 + tV (tok b z p) < fN m
    · rw [decide_eq_true c, if_neg b01_n0, if_pos (show 0 ≤ tV (tok b z p) ∧ tV (tok b z p) ≤ fN m - (gj po (2 * t)).2 - 1 from ⟨by omega, by omega⟩)]
      obtain ⟨M2, b1, b2, b3⟩ := (c_178 h1).1 k2
      refine ⟨fun er q => (by cases q), fun y q => ?_⟩
      cases q
      refine ⟨M2, b1, F1.tr (Wlkf b2), b3, ?_⟩
      have hI : ∀ x j, c0 ≤ x → x ≤ c0 + 8 → zI M2 x j = zI M1 x j := fun x j _ _ => b2.I (by unfold Wlk6; omega)
      refine ⟨(hO.fr a2 (by omega) (fun _ => by omega) (fun _ => by omega)).fr b2 (by unfold Wlk6; omega) (fun _ => by unfold Wlk6; omega) (fun _ => by unfold Wlk6; omega), ?_, ⟨t1, t5, c⟩, ?_, ?_, ⟨?_, ?_⟩, ?_, ?_, fun k hk => ?_⟩
      · exact (hI _ _ (by omega) (by omega)).trans ((a2.I (by omega)).trans h6)
      · exact (hI _ _ (by omega) (by omega)).trans ((a2.I (by omega)).trans h8)
      · exact (hI _ _ (by omega) (by omega)).trans ((a2.I (by omega)).trans h9)
      · exact (hI _ _ (by omega) (by omega)).trans (a3 c).1
      · exact (hI _ _ (by omega) (by omega)).trans (a3 c).2
      · exact (b2.L (by unfold Wlk6; omega)).trans ((a2.L (by omega)).trans h12)
      · exact (hI _ _ (by omega) (by omega)).trans a4
      · exact (hI _ _ (by omega) (by omega)).trans (a5 k hk)
    · rw [decide_eq_false c, if_pos b01_f, if_neg (show ¬ (0 ≤ tV (tok b z p) ∧ tV (tok b z p) ≤ fN m - (gj po (2 * t)).2 - 1) by omega)]
      obtain ⟨M2, b1, b2⟩ := CSt.failk (M := M1) (x := 4) (k := 4) rfl h1.2.1.1.1
      rw [b1, b_i]
      exact (CRf.bad (zbz0 _) b2).fr F1
  · obtain ⟨M1, a1, a2⟩ := (c_178 h).2 k2
    rw [if_neg k2, if_neg (fun e => k2 (h.kd.2.1.mp e))]
    exact CRf.bad a1 a2
theorem c_70 {m : Nat} (h : CSt b z c0 M p) (hO : ∀ po, tK (tok b z p) = 2 → po = tV (tok b z p) → CO M (c0 + 1) (c0 + 2) (c0 + 3) m po ∧ zI M (c0 + 1) 6 = nI m ∧ fprim m po = true) : CRf b z c0 M (f_X6_readField_70 353 M) (fl1 b z m p) := by
  have hz : c0 = 335 ∨ c0 = 344 := h.2.2.2
  unfold f_X6_readField_70 f_X6_readField_90 fl1
  refine c_nmb (l := 0) (u := 9999) (x := 0) (y := 9999) rfl rfl (by decide) (by decide) h (fun M1 k2 l1 l2 f1 h1 => ?_)
  obtain ⟨o1, o2, o3⟩ := hO _ k2 rfl
  rw [if_pos o3]
  unfold fl2
  refine c_own (i := 2) (x := 2) rfl (by decide) h1 (fun M2 f2 h2 => ?_)
  refine c_nmb (l := 1) (u := 5) (x := 1) (y := 5) rfl rfl (by decide) (by decide) h2 (fun M3 k3 l3 l4 f3 h3 => ?_)
  have hI : FR Wlk6 M M3 := (f1.tr f2).tr f3
  have O3 : CO M3 (c0 + 1) (c0 + 2) (c0 + 3) m (tV (tok b z p)) := o1.fr hI (by unfold Wlk6; omega) (fun _ => by unfold Wlk6; omega) (fun _ => by unfold Wlk6; omega)
  have h6 : zI M3 (c0 + 1) 6 = nI m := (hI.I (by unfold Wlk6; omega)).trans o2
  obtain ⟨M4, a1, a2, a3, a4, a5⟩ := c_mends (t := tV (tok b z (nxp b z (nxp b z p)))) h.2.2.2 h3.1.1 O3 h6 l4
  have F4 : FR (Wfd c0) M3 M4 := a2.mo (fun x j q => by unfold Wtq at q; unfold Wfd; omega)
  have h4 : CSt b z c0 M4 (nxp b z (nxp b z (nxp b z p))) := h3.fr a2 (fun j _ => by unfold Wtq; omega) (fun j => by unfold Wtq; omega) (fun j => by unfold Wtq; omega)
  rw [h3.2.2.1, b_i, wC_0 h3.1.1 h3.2.2.2, b_i, a1, b_i]
  dsimp only
  by_cases c : (gj (tV (tok b z p)) (2 * tV (tok b z (nxp b z (nxp b z p))))).2 < fN m
  · rw [if_pos c, decide_eq_true c, if_neg b01_n0]
    refine CRf.fr F4 ?_
    unfold fl3
    refine c_own (i := 3) (x := 3) rfl (by decide) h4 (fun M5 f5 h5 => ?_)
    have hI5 : ∀ x j, c0 ≤ x → x ≤ c0 + 8 → zI M5 x j = zI M4 x j := fun x j _ _ => f5.I (by unfold Wlk6; omega)
    exact c_fl4 h5 ((O3.fr a2 (by unfold Wtq; omega) (fun _ => by unfold Wtq; omega) (fun _ => by unfold Wtq; omega)).fr f5 (by unfold Wlk6; omega) (fun _ => by unfold Wlk6; omega) (fun _ => by unfold Wlk6; omega)) ((hI5 _ _ (by omega) (by omega)).trans ((a2.I (by unfold Wtq; omega)).trans h6)) l3 l4 ((hI5 _ _ (by omega) (by omega)).trans a3) ((hI5 _ _ (by omega) (by omega)).trans a4) ((f5.L (by unfold Wlk6; omega)).trans a5) c
  · rw [if_neg c, decide_eq_false c, if_pos b01_f]
    obtain ⟨M5, b1, b2⟩ := CSt.failk (M := M4) (x := 4) (k := 4) rfl h2.2.1.1.1
    rw [b1, b_i]
    exact (CRf.bad (zbz0 _) b2).fr F4
theorem c_fld (h : CSt b z c0 M p) : CRf b z c0 M (f_X6_readField 353 M) (fl0 b z p) := by
  have hz : c0 = 335 ∨ c0 = 344 := h.2.2.2
  unfold f_X6_readField f_X6_readField_31 fl0
  refine c_own (i := 0) (x := 0) rfl (by decide) h (fun M1 f1 h1 => ?_)
  refine c_nmb (l := 3) (u := 6) (x := 3) (y := 6) rfl rfl (by decide) (by decide) h1 (fun M2 k2 l1 l2 f2 h2 => ?_)
  refine c_own (i := 1) (x := 1) rfl (by decide) h2 (fun M3 f3 h3 => ?_)
  by_cases k3 : tK (tok b z (nxp b z (nxp b z (nxp b z p)))) = 2
  · have hv := (tok_ok h3.by8 h3.2.1.2).2.2.2.2.2.1 k3
    obtain ⟨M4, a1, a2, a3⟩ := c_poly (p := tV (tok b z (nxp b z (nxp b z (nxp b z p))))) h3.1.1 h3.2.2.2 l1 l2 hv
    have F4 : FR (Wfd c0) M3 M4 := a2.mo (fun x j q => by unfold Wtp at q; unfold Wfd; omega)
    have h4 : CSt b z c0 M4 (nxp b z (nxp b z (nxp b z p))) := h3.fr a2 (fun j _ => by unfold Wtp; omega) (fun j => by unfold Wtp; omega) (fun j => by unfold Wtp; omega)
    rw [if_pos (h3.kd.2.1.mpr k3), h3.2.2.1, b_i, wC_0 h3.1.1 h3.2.2.2, b_i, h3.2.1.1.2.2.2.2.2 k3]
    dsimp only
    rw [a1, b_i]
    dsimp only
    cases hp : fprim (tV (tok b z (nxp b z p))) (tV (tok b z (nxp b z (nxp b z (nxp b z p))))) with
    | true =>
      rw [if_neg b01_n0]
      exact (c_70 h4 (fun po _ e => by subst e; exact ⟨(a3 hp).1, (a3 hp).2, hp⟩)).fr F4
    | false =>
      obtain ⟨M5, b1, b2⟩ := CSt.failk (M := M4) (x := 4) (k := 4) rfl h4.2.1.1.1
      unfold fl1 numB
      rw [if_pos b01_f, b1, b_i, if_pos k3, if_pos ⟨by omega, by omega⟩]
      dsimp only
      rw [hp, if_neg (show ¬ false = true by decide)]
      exact (CRf.bad (zbz0 _) b2).fr F4
  · rw [if_neg (fun e => k3 (h3.kd.2.1.mp e))]
    exact c_70 h3 (fun po k _ => absurd k k3)
end
