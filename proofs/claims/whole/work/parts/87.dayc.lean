/-! a day goes by: the class -/
def envD (d i k l b a : Nat) : Nat → Nat := fun s => if s = 1 then d else if s = 2 then i else if s = 3 then k else if s = 4 then l else if s = 5 then b else a
def cl99 (z : Int) : Nat := if z < 0 then 0 else if 99 < z then 99 else z.toNat
theorem cl99_le (z : Int) : cl99 z ≤ 99 := by
  unfold cl99
  by_cases h1 : z < 0
  · rw [if_pos h1]; decide
  · rw [if_neg h1]
    by_cases h2 : 99 < z
    · rw [if_pos h2]; decide
    · rw [if_neg h2]; omega
def drL (h : CH) (d i a w k l : Nat) : Nat := match kDr h with
  | none => l
  | some cs => cl99 ((l : Int) + evp (envD d i k l (bt w k) a) cs)
theorem drL_le (h : CH) (d i a w k l : Nat) (hl : l ≤ 99) : drL h d i a w k l ≤ 99 := by
  unfold drL
  cases kDr h with
  | none => exact hl
  | some cs => exact cl99_le _
def pdR (h : CH) (d i : Nat) (r : RW) : RW := (r.1, min (r.2.1 + 1) 99, r.2.2.1, fun k => drL h d i r.2.1 r.2.2.1 k (r.2.2.2 k))
def Wtm (a j : Nat) : Prop := (a = 3 ∧ j = 2) ∨ a = 5 ∨ a = 4
theorem s_hasD {M : Mem} {c0 : Nat} {o : Option (List (Nat × Nat))} (h : CPR M c0 4 5 o) : f_X0_hasDrifts c0 M = some (b01 o.isSome, M) := by
  unfold f_X0_hasDrifts f_X0_hasDrifts_16
  cases o with
  | none =>
    obtain ⟨a, b, g1, g2, g3, g4⟩ := h
    rw [g1, g2, if_pos (nI_le g3 (by omega)), zbz0]; rfl
  | some cs =>
    obtain ⟨a, b, g1, g2, g3, g4, g5, g6⟩ := h
    rw [g1, g2, if_neg (nI_ge (by omega) (by omega)), zbz1]; rfl
theorem s_hasT {M : Mem} {c0 : Nat} {o : Option (List (Nat × Nat))} (h : CPR M c0 6 7 o) : f_X0_hasTries c0 M = some (b01 o.isSome, M) := by
  unfold f_X0_hasTries f_X0_hasTries_16
  cases o with
  | none =>
    obtain ⟨a, b, g1, g2, g3, g4⟩ := h
    rw [g1, g2, if_pos (nI_le g3 (by omega)), zbz0]; rfl
  | some cs =>
    obtain ⟨a, b, g1, g2, g3, g4, g5, g6⟩ := h
    rw [g1, g2, if_neg (nI_ge (by omega) (by omega)), zbz1]; rfl
theorem s_mm {M : Mem} {z : Int} (hz : sm z) : Option.bind (f_J9_min_7cf53 99 (iI z) M) (fun z13 => Option.bind (f_J9_max_7cf53 0 z13.1 z13.2) fun z14 => some (z14.1, z14.2)) = some (nI (cl99 z), M) := by
  have s99 : sm 99 := by unfold sm; omega
  have s0 : sm 0 := bd0.s
  unfold f_J9_min_7cf53 f_J9_min_7cf53_10 f_J9_max_7cf53 f_J9_max_7cf53_10 cl99
  by_cases h1 : z < 99
  · rw [if_pos (show iI z < 99 from (iI_lt hz s99).mpr h1), b_i]
    dsimp only
    by_cases h2 : 0 < z
    · rw [if_pos (show (0 : Int32) < iI z from (iI_lt s0 hz).mpr h2), b_i, if_neg (by omega), if_neg (by omega), ← iI_n, Int.toNat_of_nonneg (by omega)]
    · rw [if_neg (show ¬ (0 : Int32) < iI z from fun x => h2 ((iI_lt s0 hz).mp x)), b_i]
      by_cases h3 : z < 0
      · rw [if_pos h3]; rfl
      · rw [if_neg h3, if_neg (by omega), show z = 0 by omega]; rfl
  · rw [if_neg (show ¬ iI z < 99 from fun x => h1 ((iI_lt hz s99).mp x)), b_i]
    dsimp only
    rw [if_pos (by decide), b_i, if_neg (show ¬ z < 0 by omega)]
    by_cases h3 : 99 < z
    · rw [if_pos h3]; rfl
    · rw [if_neg h3, show z = 99 by omega]; rfl
theorem s_setDay {M : Mem} {c d i a : Nat} (hW : WRc M) (hc : 15 ≤ c) (h1 : zI M c 1 = nI i) : ∃ M', f_X10_setDay 3 c (nI d) (nI a) M = some M' ∧ FR (fun b _ => b = 4) M M' ∧ zI M' 4 12 = nI d ∧ zI M' 4 4 = nI i ∧ zI M' 4 16 = nI a := by
  refine ⟨zsI (zsI (zsI M 4 12 (nI d)) 4 4 (nI i)) 4 16 (nI a), ?_, FR.sI (FR.sI (FR.sI (FR.rf _ M) (by omega)) (by omega)) (by omega), ?_, ?_, zI_se _ _ _ _⟩
  · unfold f_X10_setDay
    rw [w3_0 hW, b_i, show zld 4 12 = some 12 from rfl, b_i, b_i, zrf_sI, w3_0 hW, b_i, show zld 4 4 = some 4 from rfl, b_i, zI_sn _ _ (by omega), h1, b_i, zrf_sI, zrf_sI, w3_0 hW, b_i, show zld 4 16 = some 16 from rfl, b_i, b_i]
  · rw [zI_sn _ _ (by omega), zI_sn _ _ (by omega), zI_se]
  · rw [zI_sn _ _ (by omega), zI_se]
theorem own_D : ∀ s : Fin 7, 1 ≤ s.val → (s.val = 1 ∧ ownOf s.val = 12) ∨ (s.val = 2 ∧ ownOf s.val = 4) ∨ (s.val = 3 ∧ ownOf s.val = 13) ∨ (s.val = 4 ∧ ownOf s.val = 14) ∨ (s.val = 5 ∧ ownOf s.val = 15) ∨ (s.val = 6 ∧ ownOf s.val = 16) := by decide
theorem s_drifted {M : Mem} {c0 d i k l a w : Nat} {h : CH} (hW : WRc M) (v : CV h) (hC : CC M c0 h) (hd : d ≤ 9999) (hi : i ≤ 9999) (hk : k < 63) (hl : l ≤ 99) (ha : a ≤ 9999) (hw : w < 2 ^ 63) (e1 : zI M 4 12 = nI d) (e2 : zI M 4 4 = nI i) (e3 : zI M 4 16 = nI a) : ∃ M', f_X10_drifted 3 c0 (lN w) (nI k) (nI l) M = some (nI (drL h d i a w k l), M') ∧ FR Wtm M M' ∧ zI M' 4 12 = nI d ∧ zI M' 4 4 = nI i ∧ zI M' 4 16 = nI a := by
  have hc0 : c0 = 335 ∨ c0 = 344 := hC.z
  unfold f_X10_drifted
  rw [s_hasD hC.dr, b_i]
  unfold drL
  have hdr := hC.dr
  cases hcs : kDr h with
  | none =>
    refine ⟨M, ?_, FR.rf _ M, e1, e2, e3⟩
    exact ip rfl rfl
  | some cs =>
    rw [hcs] at hdr
    obtain ⟨fa, fb, g1, g2, g3, g4, g5, g6⟩ := hdr
    have f1 : FR (fun b j => b = 4 ∧ (j = 13 ∨ j = 14 ∨ j = 15)) M (zsI (zsI (zsI M 4 13 (nI k)) 4 14 (nI l)) 4 15 (nI (bt w k))) := FR.sI (FR.sI (FR.sI (FR.rf _ M) (by omega)) (by omega)) (by omega)
    have hbt := bt_le w k
    obtain ⟨M1, a1, a2, a3, -⟩ := s_run (M := zsI (zsI (zsI M 4 13 (nI k)) 4 14 (nI l)) 4 15 (nI (bt w k))) (c0 := c0) (lo := 1) (hi := 6) (fm := fa) (tt := fb) (env := envD d i k l (bt w k) a) (cs := cs) (b := false) hC.z (by decide) (by decide) (fun s q1 q2 => by
      unfold envD
      repeat' split
      all_goals omega) g4 (f1.W hW) (fun s q1 q2 => by
      have ow := own_D ⟨s, by omega⟩ q1
      dsimp only at ow
      unfold envD
      rcases ow with ⟨e, e'⟩ | ⟨e, e'⟩ | ⟨e, e'⟩ | ⟨e, e'⟩ | ⟨e, e'⟩ | ⟨e, e'⟩ <;> rw [e'] <;> subst e
      · exact (f1.I (by omega)).trans e1
      · exact (f1.I (by omega)).trans e2
      · rw [zI_sn _ _ (by omega), zI_sn _ _ (by omega), zI_se]; rfl
      · rw [zI_sn _ _ (by omega), zI_se]; rfl
      · rw [zI_se]; rfl
      · exact (f1.I (by omega)).trans e3) (g6.fr f1 (fun j => by omega)) (v.dr cs hcs) g3
    have f2 : FR Wtm M M1 := (f1.mo (fun a j h => by unfold Wtm; omega)).tr (a2.mo (fun a j h => by unfold Wtr at h; unfold Wtm; omega))
    refine ⟨M1, ?_, f2, (a2.I (by unfold Wtr; omega)).trans ((f1.I (by omega)).trans e1), (a2.I (by unfold Wtr; omega)).trans ((f1.I (by omega)).trans e2), (a2.I (by unfold Wtr; omega)).trans ((f1.I (by omega)).trans e3)⟩
    refine im b01_n0 ?_
    dsimp only
    rw [w3_0 hW, b_i, show zld 4 13 = some 13 from rfl, b_i, b_i, zrf_sI, w3_0 hW, b_i, show zld 4 14 = some 14 from rfl, b_i, b_i, zrf_sI, zrf_sI, w3_0 hW, b_i, s_bitOf (by omega) (by omega), b_i, show zld 4 15 = some 15 from rfl, b_i, b_i, f1.I (by omega), f1.I (by omega), g1, g2, a1, b_i]
    dsimp only
    rw [← iI_n l, iI_add]
    exact s_mm (by unfold bd at a3; unfold sm; omega)
theorem s_older {M : Mem} {a b : Nat} {x y : Int32} (hx : x = nI a) (hy : y = nI b) (ha : a < 2 ^ 20) (hb : b < 2 ^ 20) : f_X11_older x y M = some (nI (min (a + b) 99), M) := by
  subst hx; subst hy
  unfold f_X11_older
  rw [nI_add, s_min (a := a + b) (b := 99) (y := 99) rfl rfl (by omega) (by decide), b_i]
theorem s_passDay {M : Mem} {c0 c i d : Nat} {h : CH} {r : RW} (hW : WRc M) (v : CV h) (hC : CC M c0 h) (hc : RQ c) (hd : d ≤ 9999) (hi : i ≤ 9999) (hr : CR M c (kN h) i r) (hw : r.1 = true) (hV : RV (kM h) (kP h) (kT h) (kN h) r) : ∃ M', f_X10_passDay 3 c0 c (nI d) M = some M' ∧ FR (fun a j => Wtm a j ∨ a = c ∨ a = c + 1) M M' ∧ CR M' c (kN h) i (pdR h d i r) := by
  have hc0 : c0 = 335 ∨ c0 = 344 := hC.z
  have hcb := rq_b hc
  have hn := v.n63
  obtain ⟨g1, g2, g3⟩ := hr
  obtain ⟨g3, g4, g5⟩ := g3 hw
  obtain ⟨v1, v2, v3, v4⟩ := hV hw
  have hw63 : r.2.2.1 < 2 ^ 63 := Nat.lt_of_lt_of_le v2 (Nat.pow_le_pow_right (by decide) hn.1)
  obtain ⟨M1, a1, a2, a3, a4, a5⟩ := s_setDay (d := d) (a := r.2.1) hW (by omega) g1
  have l : ∀ e k f M0, FR (fun a j => Wtm a j ∨ a = c + 1) M M0 → zI M0 4 12 = nI d → zI M0 4 4 = nI i → zI M0 4 16 = nI r.2.1 → k + e = kN h → (∀ q, q < k → zI M0 (c + 1) q = nI (drL h d i r.2.1 r.2.2.1 q (r.2.2.2 q))) → (∀ q, k ≤ q → q < kN h → zI M0 (c + 1) q = nI (r.2.2.2 q)) → ∃ M', f_X10_passDay_13 3 c0 c (nI d) (e + 1 + f) (nI k) M0 = some (zsI M' c 3 (nI (min (r.2.1 + 1) 99))) ∧ FR (fun a j => Wtm a j ∨ a = c + 1) M M' ∧ (∀ q, q < kN h → zI M' (c + 1) q = nI (drL h d i r.2.1 r.2.2.1 q (r.2.2.2 q))) := by
    intro e
    induction e with
    | zero =>
      intro k f M0 fr b1 b2 b3 ek hl hg
      have e2 : k = kN h := by omega
      subst e2
      refine ⟨M0, ?_, fr, hl⟩
      have hC0 : CC M0 c0 h := hC.fr fr (fun a j x y => by unfold Wch at x; unfold Wtm at y; omega)
      rw [show 0 + 1 + f = f + 1 by omega, f_X10_passDay_13, wC_0 (fr.W hW) hC.z, b_i, hC0.n, if_pos (nI_le (Nat.le_refl _) (by omega)), fr.I (by unfold Wtm; omega), g3, s_older (a := r.2.1) (b := 1) (y := 1) rfl rfl (by omega) (by decide), b_i, b_i]
    | succ e ih =>
      intro k f M0 fr b1 b2 b3 ek hl hg
      have hC0 : CC M0 c0 h := hC.fr fr (fun a j x y => by unfold Wch at x; unfold Wtm at y; omega)
      obtain ⟨M2, p1, p2, p3, p4, p5⟩ := s_drifted (k := k) (l := r.2.2.2 k) (w := r.2.2.1) (fr.W hW) v hC0 hd hi (by omega) (v4 k (by omega)) (by omega) hw63 b1 b2 b3
      have f2 : FR (fun a j => Wtm a j ∨ a = c + 1) M (zsI M2 (c + 1) k (nI (drL h d i r.2.1 r.2.2.1 k (r.2.2.2 k)))) := FR.sI (fr.tr (p2.mo (fun a j x => Or.inl x))) (Or.inr rfl)
      have f3 : FR Wtm M0 M2 := p2
      obtain ⟨M', q1, q2, q3⟩ := ih (k + 1) f _ f2 ((zI_sn _ _ (by omega)).trans p3) ((zI_sn _ _ (by omega)).trans p4) ((zI_sn _ _ (by omega)).trans p5) (by omega) (fun q hq => by
        by_cases hqk : q = k
        · subst hqk; exact zI_se _ _ _ _
        · rw [zI_sn _ _ (by omega), f3.I (by unfold Wtm; omega)]; exact hl q (by omega)) (fun q hq hq2 => by rw [zI_sn _ _ (by omega), f3.I (by unfold Wtm; omega)]; exact hg q (by omega) hq2)
      refine ⟨M', ?_, q2, q3⟩
      rw [show e + 1 + 1 + f = (e + 1 + f) + 1 by omega, f_X10_passDay_13, wC_0 (fr.W hW) hC.z, b_i, hC0.n, if_neg (nI_ge (by omega) (by omega)), rq_0 (fr.W hW) hc, b_i, b_i, zl_at 63 (rq_s hc) (by omega) (by decide), b_i, hg k (Nat.le_refl _) (by omega), fr.L (by unfold Wtm; omega), g4, p1, b_i, b_i, b_i, nI_1]
      exact q1
  have f1 : FR (fun a j => Wtm a j ∨ a = c + 1) M M1 := a2.mo (fun a j h => by unfold Wtm; omega)
  obtain ⟨M', q1, q2, q3⟩ := l (kN h) 0 (1000000 - kN h - 1) M1 f1 a3 a4 a5 (by omega) (fun q hq => absurd hq (by omega)) (fun q _ hq => (a2.I (by omega)).trans (g5 q hq))
  rw [show kN h + 1 + (1000000 - kN h - 1) = 1000000 by omega] at q1
  have fe : FR (fun a j => Wtm a j ∨ a = c ∨ a = c + 1) M (zsI M' c 3 (nI (min (r.2.1 + 1) 99))) := FR.sI (q2.mo (fun a j h => by rcases h with h | h; exact Or.inl h; exact Or.inr (Or.inr h))) (Or.inr (Or.inl rfl))
  refine ⟨_, ?_, fe, ⟨?_, ?_, fun _ => ⟨zI_se _ _ _ _, ?_, fun q hq => ?_⟩⟩⟩
  · unfold f_X10_passDay
    rw [g3, a1, b_i]
    exact q1
  · rw [zI_sn _ _ (by omega), q2.I (by unfold Wtm; omega)]; exact g1
  · rw [zI_sn _ _ (by omega), q2.I (by unfold Wtm; omega)]; exact g2
  · show zL M' c 4 = _
    rw [q2.L (by unfold Wtm; omega)]; exact g4
  · rw [zI_sn _ _ (by omega)]; exact q3 q hq
