/-! chip: all statements behind the first -/
def NZr (q : PRs) : Prop := ∀ e, q = .inl e → 0 < e.1 ∧ e.1 < 10
section
variable {b : Nat → Nat} {z : Nat} {w : Bool}
theorem NZr.k {k m : Nat} (h : 0 < k ∧ k < 10) : NZr (.inl (k, m)) := fun e q => by cases q; exact h
theorem NZr.r (x : Nat × Cds) : NZr (.inr x) := fun e q => by cases q
theorem NZr.b1 (p : Nat) : NZr (bad1 b z p) := NZr.k (by decide)
theorem NZr.bd {q : PRs} {k : Nat → Cds → PRs} (h : NZr q) (hk : ∀ p cs, NZr (k p cs)) : NZr (bnd q k) := by
  cases q with
  | inl e => exact h
  | inr x => exact hk _ _
theorem NZr.xp (c p : Nat) (cs : Cds) : NZr (xpc b z c p cs) := by
  unfold xpc
  by_cases s : isSg (tok b z p) c = true
  · rw [if_pos s]; exact NZr.r _
  · rw [if_neg s]; exact NZr.b1 _
theorem NZr.op {c o p : Nat} {cs : Cds} {k : Nat → Cds → PRs} (hk : o < 7 → ∀ p cs, NZr (k p cs)) : NZr (bnd (opn b z c o p cs) k) := by
  unfold opn
  by_cases s : isSg (tok b z p) c = true
  · rw [if_pos s]
    by_cases o7 : o < 7
    · rw [if_pos o7]; exact hk o7 _ _
    · rw [if_neg o7]; exact NZr.k (by decide)
  · rw [if_neg s]; exact NZr.k (by decide)
theorem NZr.lp {F : Nat → Cds → PRs} {op : Tok → Nat} (hF : ∀ p cs, NZr (F p cs)) : ∀ e p cs, NZr (lpr b z F op e p cs) := by
  intro e
  induction e with
  | zero => intro p cs; exact NZr.r _
  | succ e ih =>
    intro p cs
    rw [lpr]
    by_cases c : op (tok b z p) = 0
    · rw [if_pos c]; exact NZr.r _
    · rw [if_neg c]; exact NZr.bd (hF _ _) (fun p cs => ih _ _)
theorem rd_nz : ∀ g o p cs, o ≤ 7 → (8 * (7 - o) + 4 ≤ g → NZr (rd b z w g 0 o p cs)) ∧ (8 * (7 - o) + 3 ≤ g → NZr (rd b z w g 1 o p cs)) ∧ (8 * (7 - o) + 2 ≤ g → NZr (rd b z w g 2 o p cs)) ∧ (8 * (7 - o) + 1 ≤ g → NZr (rd b z w g 3 o p cs) ∧ NZr (rd b z w g 9 o p cs) ∧ NZr (rd b z w g 4 o p cs)) ∧ (8 * (7 - o) + 8 ≤ g → NZr (rd b z w g 5 o p cs)) ∧ (8 * (7 - o) + 7 ≤ g → NZr (rd b z w g 6 o p cs)) ∧ (8 * (7 - o) + 6 ≤ g → NZr (rd b z w g 7 o p cs)) ∧ (8 * (7 - o) + 5 ≤ g → NZr (rd b z w g 8 o p cs)) := by
  intro g
  induction g with
  | zero => intro o p cs ho; exact ⟨fun q => by omega, fun q => by omega, fun q => by omega, fun q => by omega, fun q => by omega, fun q => by omega, fun q => by omega, fun q => by omega⟩
  | succ g ih =>
    intro o p cs ho
    have pair : ∀ c, 8 * (7 - o) + 1 ≤ g + 1 → NZr (rda b z (rd b z w g) c o p cs) := fun c q => NZr.op (fun o7 p cs => NZr.bd ((ih (o + 1) p cs (by omega)).1 (by omega)) (fun p cs => NZr.bd (NZr.xp _ _ _) (fun p cs => NZr.bd ((ih (o + 1) p cs (by omega)).1 (by omega)) (fun p cs => NZr.bd (NZr.xp _ _ _) (fun p cs => NZr.r _)))))
    refine ⟨fun q => ?_, fun q => ?_, fun q => ?_, fun q => ⟨pair 36 q, pair 37 q, ?_⟩, fun q => ?_, fun q => ?_, fun q => ?_, fun q => ?_⟩
    · exact NZr.bd ((ih o p cs ho).2.1 (by omega)) (fun p cs => NZr.lp (fun p cs => (ih o p cs ho).2.1 (by omega)) _ _ _)
    · exact NZr.bd ((ih o p cs ho).2.2.1 (by omega)) (fun p cs => NZr.lp (fun p cs => (ih o p cs ho).2.2.1 (by omega)) _ _ _)
    · show NZr (rdp b z w (rd b z w g) o p cs)
      unfold rdp
      by_cases c1 : tK (tok b z p) = 2
      · rw [if_pos c1]; exact NZr.r _
      rw [if_neg c1]
      by_cases c2 : isSg (tok b z p) 40 = true
      · rw [if_pos c2]; exact NZr.op (fun o7 p cs => NZr.bd ((ih (o + 1) p cs (by omega)).1 (by omega)) (fun p cs => NZr.xp _ _ _))
      rw [if_neg c2]
      have c3 := (ih o p cs ho).2.2.2.1 (by omega)
      by_cases d1 : isOw (tok b z p) 25 = true
      · rw [if_pos d1]; exact c3.1
      rw [if_neg d1]
      by_cases d2 : isOw (tok b z p) 26 = true
      · rw [if_pos d2]; exact c3.2.1
      rw [if_neg d2]
      by_cases d3 : isOw (tok b z p) 20 = true
      · rw [if_pos d3]; exact c3.2.2
      rw [if_neg d3]
      by_cases d4 : vcd w (tok b z p) = 0
      · rw [if_pos d4]; exact NZr.b1 _
      · rw [if_neg d4]; exact NZr.r _
    · show NZr (rdc b z (rd b z w g) o p cs)
      exact NZr.op (fun o7 p cs => NZr.bd ((ih (o + 1) p cs (by omega)).2.2.2.2.1 (by omega)) (fun p cs => NZr.bd (NZr.xp _ _ _) (fun p cs => NZr.bd ((ih (o + 1) p cs (by omega)).1 (by omega)) (fun p cs => NZr.bd (NZr.xp _ _ _) (fun p cs => NZr.bd ((ih (o + 1) p cs (by omega)).1 (by omega)) (fun p cs => NZr.bd (NZr.xp _ _ _) (fun p cs => NZr.r _)))))))
    · exact NZr.bd ((ih o p cs ho).2.2.2.2.2.1 (by omega)) (fun p cs => NZr.lp (fun p cs => (ih o p cs ho).2.2.2.2.2.1 (by omega)) _ _ _)
    · exact NZr.bd ((ih o p cs ho).2.2.2.2.2.2.1 (by omega)) (fun p cs => NZr.lp (fun p cs => (ih o p cs ho).2.2.2.2.2.2.1 (by omega)) _ _ _)
    · show NZr (rdf b z (rd b z w g) o p cs)
      unfold rdf
      by_cases c1 : isOw (tok b z p) 23 = true
      · rw [if_pos c1]
        by_cases o7 : o < 7
        · rw [if_pos o7]; exact NZr.bd ((ih (o + 1) _ cs (by omega)).2.2.2.2.2.2.1 (by omega)) (fun p cs => NZr.r _)
        · rw [if_neg o7]; exact NZr.k (by decide)
      rw [if_neg c1]
      by_cases c2 : isSg (tok b z p) 91 = true
      · rw [if_pos c2]; exact NZr.op (fun o7 p cs => NZr.bd ((ih (o + 1) p cs (by omega)).2.2.2.2.1 (by omega)) (fun p cs => NZr.xp _ _ _))
      rw [if_neg c2]
      by_cases c3 : isOw (tok b z p) 24 = true
      · rw [if_pos c3]; exact NZr.r _
      · rw [if_neg c3]; exact (ih o p cs ho).2.2.2.2.2.2.2 (by omega)
    · show NZr (rdm b z (rd b z w g) o p cs)
      refine NZr.bd ((ih o p cs ho).1 (by omega)) (fun p1 cs1 => ?_)
      by_cases c : ocm (tok b z p1) = 0
      · rw [if_pos c]; exact NZr.b1 _
      · rw [if_neg c]; exact NZr.bd ((ih o _ cs1 ho).1 (by omega)) (fun p cs => NZr.r _)
theorem lt10 {k m : Nat} (h : 0 < k ∧ k < 10) : 0 < (k, m).1 ∧ (k, m).1 < 10 := h
theorem stA_nz {p : Nat} {s : Acs} {er : Nat × Nat} (h : stA b z p s = .inl er) : 0 < er.1 ∧ er.1 < 10 := by
  unfold stA at h
  by_cases k1 : tK (tok b z p) = 1
  · rw [if_pos k1] at h
    by_cases c4 : owi (tL (tok b z p)) = 4
    · rw [if_pos c4] at h
      unfold pgA at h
      by_cases d1 : 6 ≤ (aM s).length
      · rw [if_pos d1] at h; cases h; exact lt10 (by decide)
      rw [if_neg d1] at h
      by_cases d2 : tK (tok b z (nxp b z p)) = 1 ∧ owi (tL (tok b z (nxp b z p))) = 27
      · rw [if_pos d2] at h
        by_cases d3 : tL (tok b z (nxp b z p)) ∈ aM s
        · rw [if_pos d3] at h; cases h; exact lt10 (by decide)
        · rw [if_neg d3] at h; cases h
      · rw [if_neg d2] at h; cases h; exact lt10 (by decide)
    rw [if_neg c4] at h
    by_cases c10 : owi (tL (tok b z p)) = 10
    · rw [if_pos c10] at h
      unfold drA at h
      by_cases d1 : (aD s).isSome = true
      · rw [if_pos d1] at h; cases h; exact lt10 (by decide)
      rw [if_neg d1] at h
      cases e : rd b z true 120 0 0 (nxp b z p) [] with
      | inl e' => rw [e] at h; cases h; exact (rd_nz 120 0 _ _ (by decide)).1 (by decide) _ e
      | inr y => rw [e] at h; cases h
    rw [if_neg c10] at h
    by_cases c11 : owi (tL (tok b z p)) = 11
    · rw [if_pos c11] at h
      unfold trA at h
      by_cases d1 : (aT s).isSome = true
      · rw [if_pos d1] at h; cases h; exact lt10 (by decide)
      rw [if_neg d1] at h
      cases e : rd b z false 120 5 0 (nxp b z p) [] with
      | inl e' => rw [e] at h; cases h; exact (rd_nz 120 0 _ _ (by decide)).2.2.2.2.1 (by decide) _ e
      | inr y => rw [e] at h; cases h
    rw [if_neg c11] at h
    by_cases c59 : 5 ≤ owi (tL (tok b z p)) ∧ owi (tL (tok b z p)) ≤ 9
    · rw [if_pos c59] at h
      unfold seA numA at h
      by_cases d1 : tK (tok b z (nxp b z p)) = 2
      · rw [if_pos d1] at h
        by_cases d2 : lwA (owi (tL (tok b z p))) ≤ tV (tok b z (nxp b z p)) ∧ tV (tok b z (nxp b z p)) ≤ upA (owi (tL (tok b z p)))
        · rw [if_pos d2] at h; cases h
        · rw [if_neg d2] at h; cases h; exact lt10 (by decide)
      · rw [if_neg d1] at h; cases h; exact lt10 (by decide)
    · rw [if_neg c59] at h; cases h; exact lt10 (by decide)
  · rw [if_neg k1] at h; cases h; exact lt10 (by decide)
end
def lpA (b : Nat → Nat) (z : Nat) : Nat → Nat → Acs → Nat → SRs
  | 0, _, s, k => .inr (k, s)
  | f + 1, p, s, k => if tK (tok b z p) = 0 then .inr (k, s) else if k = 40 then .inl (6, tS (tok b z p)) else match stA b z p s with
    | .inl e => .inl e
    | .inr y => if isSg (tok b z y.1) 59 = true then lpA b z f (nxp b z y.1) y.2 (k + 1) else .inl (1, tBd (tok b z y.1))
section
variable {b : Nat → Nat} {z c0 bi p : Nat} {M : Mem} {s : Acs}
def Wsm3 (c0 x j : Nat) : Prop := (x = 353 ∧ 4 ≤ j ∧ j ≤ 12) ∨ x = c0 ∨ x = c0 + 7 ∨ x = c0 + 8
theorem W23 {M1 : Mem} (f : FR (Wsm2 c0) M M1) : FR (Wsm3 c0) M M1 := f.mo (fun x j q => by unfold Wsm2 at q; unfold Wsm3; omega)
theorem ACc.f8 {M1 : Mem} (hz : zCh2 c0) (h : ACc M c0 s) (f : FR (fun x j => x = c0 ∧ j = 8) M M1) : ACc M1 c0 s := by
  have hz' : c0 = 335 ∨ c0 = 344 := hz
  exact ⟨(f.I (by omega)).trans h.1, h.2.1.fr f (by omega) (by omega) (fun j _ => by omega), h.2.2.1.fr f (by omega) (by omega) (fun j _ => by omega), ⟨(f.I (by omega)).trans h.2.2.2.1.1, h.2.2.2.1.2.1, fun i l e => ⟨(f.I (by omega)).trans (h.2.2.2.1.2.2 i l e).1, (h.2.2.2.1.2.2 i l e).2⟩⟩, fun i i1 i2 => (f.I (by omega)).trans (h.2.2.2.2 i i1 i2)⟩
theorem c_loop {x1 : Int32} {r2 : Nat} : ∀ e i f p s M, i + e = 40 → CSt b z c0 M p → ACc M c0 s → zI M c0 8 = nI (i + 1) → aN s ≤ p → (∀ er, lpA b z e p s (i + 1) = .inl er → ∃ M', f_X6_reads_72 353 x1 r2 (e + 1 + f) (nI i) M = some (0, M') ∧ FR (Wsm3 c0) M M' ∧ zI M' 353 4 = nI er.1 ∧ zI M' 353 5 = nI er.2) ∧ (∀ y, lpA b z e p s (i + 1) = .inr y → ∃ M', f_X6_reads_72 353 x1 r2 (e + 1 + f) (nI i) M = some (1, M') ∧ FR (Wsm3 c0) M M' ∧ ACc M' c0 y.2 ∧ zI M' c0 8 = nI y.1 ∧ zI M' 353 4 = 0) := by
  intro e
  induction e with
  | zero =>
    intro i f p s M hi h hA h8 hn
    refine ⟨fun er q => (by cases q), fun y q => ?_⟩
    cases q
    refine ⟨M, ?_, FR.rf _ M, hA, h8, h.1.2.2.2.2.2⟩
    rw [show 0 + 1 + f = f + 1 by omega, f_X6_reads_72]
    exact if_pos (show (40 : Int32) ≤ nI i from nI_le (a := 40) (by omega) (by omega))
  | succ e ih =>
    intro i f p s M hi h hA h8 hn
    have hz : c0 = 335 ∨ c0 = 344 := h.2.2.2
    rw [show e + 1 + 1 + f = (e + 1 + f) + 1 by omega, f_X6_reads_72, if_neg (show ¬ (40 : Int32) ≤ nI i from nI_ge (b := 40) (by omega) (by decide)), lpA]
    by_cases k0 : tK (tok b z p) = 0
    · rw [if_pos (h.kd.2.2.mpr k0), if_pos k0]
      refine ⟨fun er q => (by cases q), fun y q => ?_⟩
      cases q
      exact ⟨M, rfl, FR.rf _ M, hA, h8, h.1.2.2.2.2.2⟩
    rw [if_neg (fun q => k0 (h.kd.2.2.mp q)), if_neg k0, h.2.2.1, b_i, h8]
    by_cases k40 : i + 1 = 40
    · obtain ⟨M', a1, a2⟩ := CSt.failk (M := M) (x := 6) (k := 6) rfl h.2.1.1.1
      rw [if_pos k40, if_pos (show nI (i + 1) = (40 : Int32) by rw [k40]; rfl), a1, b_i]
      refine ⟨fun er q => ?_, fun y q => (by cases q)⟩
      cases q
      exact ⟨M', zbz0 _, a2.1.mo (fun x j q => by unfold W3 at q; unfold Wsm3; omega), a2.2⟩
    rw [if_neg k40, if_neg (show ¬ nI (i + 1) = (40 : Int32) from fun q => k40 ((nI_eq (b := 40) (by omega) (by decide)).mp q))]
    obtain ⟨s1, s2⟩ := c_stm h hA hn
    unfold f_X6_reads_125
    cases hq : stA b z p s with
    | inl e' =>
      obtain ⟨M', a1, a2, a3⟩ := s1 e' hq
      rw [a1, b_i]
      refine ⟨fun er q => ?_, fun y q => (by cases q)⟩
      cases q
      exact ⟨M', if_pos rfl, W23 a2, a3⟩
    | inr y =>
      obtain ⟨M1, a1, a2, a3, a4, a5⟩ := s2 y hq
      have h81 : zI M1 c0 8 = nI (i + 1) := (a2.I (by unfold Wsm2; omega)).trans h8
      obtain ⟨g1, g2⟩ := a3.rSg (c := 59) (x := 59) rfl (by decide)
      rw [a1, b_i]
      dsimp only
      rw [if_neg n10]
      cases hs : isSg (tok b z y.1) 59 with
      | false =>
        obtain ⟨M', b1, b2⟩ := g2 hs
        rw [b1, b_i, if_neg (show ¬ false = true by decide)]
        refine ⟨fun er q => ?_, fun y q => (by cases q)⟩
        cases q
        exact ⟨M', if_pos rfl, (W23 a2).tr (b2.1.mo (fun x j q => by unfold W3 at q; unfold Wsm3; omega)), b2.2⟩
      | true =>
        obtain ⟨M2, b1, b2, b3, b4⟩ := g1 hs
        have h82 : zI M2 c0 8 = nI (i + 1) := (b2.I (by unfold Wlk6; omega)).trans h81
        have g3 : FR (fun x j => x = c0 ∧ j = 8) M2 (zsI M2 c0 8 (nI (i + 1 + 1))) := (FR.rf (fun x j => x = c0 ∧ j = 8) M2).sI ⟨rfl, rfl⟩
        rw [b1, b_i, if_pos rfl]
        dsimp only
        rw [if_neg n10, b3.2.2.1, b_i, h82, nI_1, nI_1, b_i]
        have F3 : FR (Wsm3 c0) M (zsI M2 c0 8 (nI (i + 1 + 1))) := (W23 a2).tr (((Wlk3 b2).mo (fun x j q => by unfold W3 at q; unfold Wsm3; omega)).tr (g3.mo (fun x j q => by unfold Wsm3; omega)))
        obtain ⟨r1, r2⟩ := ih (i + 1) f (nxp b z y.1) y.2 _ (by omega) (b3.fr g3 (fun j _ => by omega) (fun j => by omega) (fun j => by omega)) ((a4.lo h.2.2.2 (Wlk3 b2)).f8 h.2.2.2 g3) (zI_se _ _ _ _) (by omega)
        refine ⟨fun er q => ?_, fun y' q => ?_⟩
        · obtain ⟨M', c1, c2, c3⟩ := r1 er q
          exact ⟨M', c1, F3.tr c2, c3⟩
        · obtain ⟨M', c1, c2, c3⟩ := r2 y' q
          exact ⟨M', c1, F3.tr c2, c3⟩
theorem m_lexF (h8 : ¬ zI M 355 8 ≤ 0) : f_X12_lex 355 M = some M := by
  unfold f_X12_lex f_X12_lex_17
  by_cases c : zI M 355 12 = -1
  · rw [if_pos c]
  · rw [if_neg c, m_blame2 h8, b_i]
theorem tS_skp : tS (tok b z p) = skp b z p := by
  unfold tok tkA
  generalize skp b z p = q
  by_cases c1 : z ≤ q
  · rw [if_pos c1]; rfl
  rw [if_neg c1]
  by_cases c2 : isL (b q) = false ∧ isDg (b q) = false
  · rw [if_pos c2]; rfl
  rw [if_neg c2]
  by_cases c3 : glu b q = true
  · rw [if_pos c3]; rfl
  rw [if_neg c3]
  by_cases c4 : isL (b q) = true
  · rw [if_pos c4]
    by_cases c5 : q + rl isL b z 6 q < z ∧ isL (b (q + rl isL b z 6 q)) = true
    · rw [if_pos c5]; rfl
    · rw [if_neg c5]; rfl
  · rw [if_neg c4]
    by_cases c5 : q + rl isDg b z 4 q < z ∧ isDg (b (q + rl isDg b z 4 q)) = true
    · rw [if_pos c5]; rfl
    · rw [if_neg c5]; rfl
theorem k0_skp : tK (tok b z p) = 0 ↔ z ≤ skp b z p := by
  unfold tok tkA
  generalize skp b z p = q
  by_cases c1 : z ≤ q
  · rw [if_pos c1]; exact ⟨fun _ => c1, fun _ => rfl⟩
  rw [if_neg c1]
  refine ⟨fun e => ?_, fun e => absurd e c1⟩
  by_cases c2 : isL (b q) = false ∧ isDg (b q) = false
  · rw [if_pos c2] at e; exact absurd e (by show ¬ (3 : Nat) = 0; decide)
  rw [if_neg c2] at e
  by_cases c3 : glu b q = true
  · rw [if_pos c3] at e; exact absurd e (by show ¬ (4 : Nat) = 0; decide)
  rw [if_neg c3] at e
  by_cases c4 : isL (b q) = true
  · rw [if_pos c4] at e
    by_cases c5 : q + rl isL b z 6 q < z ∧ isL (b (q + rl isL b z 6 q)) = true
    · rw [if_pos c5] at e; exact absurd e (by show ¬ (4 : Nat) = 0; decide)
    · rw [if_neg c5] at e; exact absurd e (by show ¬ (1 : Nat) = 0; decide)
  · rw [if_neg c4] at e
    by_cases c5 : q + rl isDg b z 4 q < z ∧ isDg (b (q + rl isDg b z 4 q)) = true
    · rw [if_pos c5] at e; exact absurd e (by show ¬ (4 : Nat) = 0; decide)
    · rw [if_neg c5] at e; exact absurd e (by show ¬ (2 : Nat) = 0; decide)
theorem m_f17 {x : Int32} (h : MTx M b z) : ∀ e q f, q + e = z → f_X12_finishes_17 355 x (e + 1 + f) (nI q) M = f_X12_finishes_53 355 x (nI (skf b z e q)) M := by
  have hz := h.2.1
  intro e
  induction e with
  | zero =>
    intro q f hq
    rw [show 0 + 1 + f = f + 1 by omega, f_X12_finishes_17, h.2.2.1]
    exact ip (nI_le (by omega) (by omega)) rfl
  | succ e ih =>
    intro q f hq
    obtain ⟨t1, t2, t3, t4⟩ := h.at (show q < z by omega)
    rw [show e + 1 + 1 + f = (e + 1 + f) + 1 by omega, f_X12_finishes_17, h.2.2.1]
    refine im (nI_ge (by omega) (by omega)) ?_
    rw [t1, b_i, t2, b_i, t3]
    unfold f_X12_finishes_47
    have hI := ih (q + 1) f (by omega)
    by_cases c1 : b q = 32
    · have hr : skf b z (e + 1) q = skf b z e (q + 1) := by rw [skf, if_pos ⟨by omega, decide_eq_true (Or.inr c1)⟩]
      rw [hr, nI_1]
      exact ip (by rw [c1]; rfl) hI
    · refine im (fun q' => c1 ((nI_eq (b := 32) (by omega) (by decide)).mp q')) ?_
      rw [b_i, t2, b_i, t3]
      by_cases c2 : b q = 10
      · have hr : skf b z (e + 1) q = skf b z e (q + 1) := by rw [skf, if_pos ⟨by omega, decide_eq_true (Or.inl c2)⟩]
        rw [hr, nI_1]
        exact ip (by rw [c2]; rfl) hI
      · have hr : skf b z (e + 1) q = q := by rw [skf, if_neg (fun q' => (of_decide_eq_true q'.2).elim c2 c1)]
        rw [hr]
        exact im (fun q' => c2 ((nI_eq (b := 10) (by omega) (by decide)).mp q')) rfl
/-- what ends a statement -/
theorem m_fin {k : Nat} {x : Int32} (hx : x = nI k) (hk : k < 100) (h : MSs b z bi M p s) : (isSg (tok b z p) 59 = false → ∃ M', f_X12_finishes 355 x M = some M' ∧ MFl bi M M' (1, tBd (tok b z p))) ∧ (isSg (tok b z p) 59 = true → k = 40 → ¬ tK (tok b z (nxp b z p)) = 0 → ∃ M', f_X12_finishes 355 x M = some M' ∧ MFl bi M M' (6, tS (tok b z (nxp b z p)))) ∧ (isSg (tok b z p) 59 = true → (¬ k = 40 ∨ tK (tok b z (nxp b z p)) = 0) → ∃ M', f_X12_finishes 355 x M = some M' ∧ FR (Wmt bi) M M' ∧ MSs b z bi M' (nxp b z p) s) := by
  have hok := h.1.ok
  have hz := h.1.1.1.2.1
  unfold f_X12_finishes
  by_cases k4 : tK (tok b z p) = 4
  · have hv : tBd (tok b z p) = tV (tok b z p) := by unfold tBd; rw [if_pos k4]
    have s4 := sg4 (c := 59) k4
    rw [m_lex4 h.1.1.2.1 h.1.2 k4 (by have := hok.2.2.2.2.2.2.2; omega), b_i, zI_sn _ _ (by omega), zI_se, if_neg (by decide)]
    exact ⟨fun _ => ⟨_, rfl, mfl_at (e := (1, tBd (tok b z p))) rfl (by rw [hv])⟩, fun q => (by rw [s4] at q; cases q), fun q => (by rw [s4] at q; cases q)⟩
  have hk3 : tK (tok b z p) ≤ 3 := by have := hok.1; omega
  have hN : tN (tok b z p) ≤ z := by
    by_cases k0 : tK (tok b z p) = 0
    · have := k0_skp.mp k0
      unfold tok tkA
      rw [if_pos this]; exact Nat.le_refl _
    · exact (hok.2.2.2.1 hk3 k0).2
  have f17 := m_f17 (x := x) h.1.1.1 (z - tN (tok b z p)) (tN (tok b z p)) (1000000 - (z - tN (tok b z p)) - 1) (by omega)
  rw [show z - tN (tok b z p) + 1 + (1000000 - (z - tN (tok b z p)) - 1) = 1000000 by omega, show skf b z (z - tN (tok b z p)) (tN (tok b z p)) = skp b z (nxp b z p) from rfl] at f17
  rw [m_lex h.1.1.2.1 hk3, b_i, h.1.2, if_pos (show (0 : Int32) ≤ 0 by decide), (h.1.1.2.1.2.2.1 hk3).2.2, f17]
  have sk := (skp_ge b hN).2.1
  have sk : skp b z (nxp b z p) ≤ z := sk
  unfold f_X12_finishes_53 f_X12_finishes_83
  rw [h.1.sg 59 (x := 59) rfl (by decide), b_i]
  dsimp only
  refine ⟨fun q => ?_, fun q q40 q0 => ?_, fun q q40 => ?_⟩
  · rw [q, if_pos b01_f]
    unfold f_X12_must f_X12_must_21 f_X12_must_32
    rw [m_lex h.1.1.2.1 hk3, b_i, h.1.sg 59 (x := 59) rfl (by decide), b_i, q]
    dsimp only
    rw [if_pos b01_f, m_blame h.1.2, b_i, zI_sn _ _ (by omega), zI_se, if_neg (by decide), b_i]
    exact ⟨_, rfl, mfl_at (e := (1, tBd (tok b z p))) rfl (by rw [h.1.1.2.1.1]; unfold tBd; rw [if_neg k4])⟩
  · have hlt : skp b z (nxp b z p) < z := by
      by_cases c : z ≤ skp b z (nxp b z p)
      · exact absurd (k0_skp.mpr c) q0
      · omega
    rw [q, if_neg b01_n0, hx, if_pos (show nI k = (40 : Int32) by rw [q40]; rfl), h.1.1.1.2.2.1, if_neg (nI_ge hlt (by omega)), m_blame h.1.2, b_i]
    have hT := bl_T (x := 6) (y := nI (skp b z (nxp b z p))) h.1
    have n8 : zI (zsI (zsI M 355 8 6) 355 9 (nI (skp b z (nxp b z p)))) 355 8 = 6 := by rw [zI_sn _ _ (by omega), zI_se]
    unfold f_X12_must f_X12_must_21 f_X12_must_32
    rw [m_lexF (by rw [n8]; decide), b_i, tm_sg hT hok.2.2.2.2.2.2.1 hok.1 (c := 59) (x := 59) rfl (by decide), b_i, q]
    dsimp only
    rw [if_neg b01_n0, n8, if_neg (by decide), b_i]
    exact ⟨_, rfl, mfl_at (e := (6, tS (tok b z (nxp b z p)))) rfl (by rw [tS_skp])⟩
  · have k3 := (isSg_iff.mp q).1
    obtain ⟨M1, a1, a2, a3, a4⟩ := h.ah hk3 (by omega)
    have mst : Option.bind (f_X12_must 355 59 M) (fun M1 => some M1) = some M1 := by
      unfold f_X12_must f_X12_must_21 f_X12_must_32
      rw [m_lex h.1.1.2.1 hk3, b_i, h.1.sg 59 (x := 59) rfl (by decide), b_i, q]
      dsimp only
      rw [if_neg b01_n0, h.1.2, if_pos rfl, a1, b_i, b_i]
    refine ⟨M1, ?_, a2, a3⟩
    rw [q, if_neg b01_n0, hx]
    by_cases c : k = 40
    · have := k0_skp.mp (q40.resolve_left (fun z => z c))
      rw [if_pos (show nI k = (40 : Int32) by rw [c]; rfl), h.1.1.1.2.2.1, if_pos (nI_le this (by omega))]
      exact mst
    · rw [if_neg (show ¬ nI k = (40 : Int32) from fun e => c ((nI_eq (b := 40) (by omega) (by decide)).mp e))]
      exact mst
theorem m_loop : ∀ e k f p s M, k + e = 41 → 1 ≤ k → MSs b z bi M p s → (k < 40 ∨ tK (tok b z p) = 0) → (∀ er, lpA b z e p s k = .inl er → ∃ M' x, f_X12_chip_136 355 (e + 1 + f) (nI k) M = f_X12_chip_165 355 x M' ∧ MFl bi M M' er) ∧ (∀ y, lpA b z e p s k = .inr y → ∃ M' p', f_X12_chip_136 355 (e + 1 + f) (nI k) M = f_X12_chip_165 355 (nI y.1) M' ∧ FR (Wmt bi) M M' ∧ MSs b z bi M' p' y.2) := by
  intro e
  induction e with
  | zero =>
    intro k f p s M hk h1 h hc
    have k0 : tK (tok b z p) = 0 := hc.resolve_left (by omega)
    refine ⟨fun er q => (by cases q), fun y q => ?_⟩
    cases q
    refine ⟨M, p, ?_, FR.rf _ M, h⟩
    rw [show 0 + 1 + f = f + 1 by omega, f_X12_chip_136, h.1.2, if_pos rfl, (h.1.1.2.1.2.2.1 (by omega)).2.1, k0]
    exact if_pos rfl
  | succ e ih =>
    intro k f p s M hk h1 h hc
    rw [show e + 1 + 1 + f = (e + 1 + f) + 1 by omega, f_X12_chip_136, h.1.2, if_pos rfl, lpA]
    by_cases k0 : tK (tok b z p) = 0
    · rw [if_pos k0, (h.1.1.2.1.2.2.1 (by omega)).2.1, k0, if_pos (show nI 0 = 0 from rfl)]
      refine ⟨fun er q => (by cases q), fun y q => ?_⟩
      cases q
      exact ⟨M, p, rfl, FR.rf _ M, h⟩
    have k40 : k < 40 := hc.resolve_right k0
    have n3 : ¬ zI M 355 3 = 0 := by
      by_cases k4 : tK (tok b z p) = 4
      · rcases (h.1.1.2.1.2.1 k4).2 with e | e <;> rw [e] <;> decide
      · rw [(h.1.1.2.1.2.2.1 (by have := h.1.ok.1; omega)).2.1]
        exact nI_ne0 (by omega) (by have := h.1.ok.1; omega)
    rw [if_neg k0, if_neg (by omega), if_neg n3]
    obtain ⟨s1, s2⟩ := m_stm h
    have stop : ∀ N er, f_X12_statement 355 M = some N → MFl bi M N er → 0 < er.1 ∧ er.1 < 10 → ∃ M' x, (Option.bind (f_X12_statement 355 M) fun M8 => Option.bind (f_X12_finishes 355 (nI k + 1) M8) fun M9 => (f_X12_chip_136 355 (e + 1 + f)) (nI k + 1) M9) = f_X12_chip_165 355 x M' ∧ MFl bi M M' er := fun N er a1 a2 he => by
      have n8 : ¬ zI N 355 8 ≤ 0 := by rw [a2.2.1]; exact nI_nle he.1 (by omega)
      have n8' : ¬ zI N 355 8 = 0 := by rw [a2.2.1]; exact nI_ne0 he.1 (by omega)
      refine ⟨N, nI k + 1, ?_, a2⟩
      rw [a1, b_i]
      unfold f_X12_finishes
      rw [m_lexF n8, b_i, if_neg n8, b_i, show e + 1 + f = (e + f) + 1 by omega, f_X12_chip_136, if_neg n8']
    have se : ∀ er, stA b z p s = .inl er → 0 < er.1 ∧ er.1 < 10 := fun er q => stA_nz q
    cases hq : stA b z p s with
    | inl e' =>
      obtain ⟨N, a1, a2⟩ := s1 e' hq
      refine ⟨fun er q => ?_, fun y q => (by cases q)⟩
      cases q
      exact stop N _ a1 a2 (se _ hq)
    | inr y =>
      rcases s2 y hq with ⟨k4, N, a1, a2⟩ | ⟨M1, a1, a2, a3⟩
      · dsimp only
        rw [sg4 k4, if_neg (show ¬ false = true by decide)]
        refine ⟨fun er q => ?_, fun y q => (by cases q)⟩
        cases q
        exact stop N _ a1 a2 (show 0 < 1 ∧ 1 < 10 by decide)
      · obtain ⟨g1, g2, g3⟩ := m_fin (k := k + 1) (x := nI k + 1) (nI_1 k) (by omega) a3
        have fl : ∀ er, 0 < er.1 ∧ er.1 < 10 → (∃ M', f_X12_finishes 355 (nI k + 1) M1 = some M' ∧ MFl bi M1 M' er) → ∃ M' x, (Option.bind (f_X12_statement 355 M) fun M8 => Option.bind (f_X12_finishes 355 (nI k + 1) M8) fun M9 => (f_X12_chip_136 355 (e + 1 + f)) (nI k + 1) M9) = f_X12_chip_165 355 x M' ∧ MFl bi M M' er := fun er he ⟨N, b1, b2⟩ => by
          have n8' : ¬ zI N 355 8 = 0 := by rw [b2.2.1]; exact nI_ne0 he.1 (by omega)
          refine ⟨N, nI k + 1, ?_, b2.fr a2⟩
          rw [a1, b_i, b1, b_i, show e + 1 + f = (e + f) + 1 by omega, f_X12_chip_136, if_neg n8']
        dsimp only
        cases hs : isSg (tok b z y.1) 59 with
        | false =>
          rw [if_neg (show ¬ false = true by decide)]
          refine ⟨fun er q => ?_, fun y q => (by cases q)⟩
          cases q
          exact fl _ (show 0 < 1 ∧ 1 < 10 by decide) (g1 hs)
        | true =>
          rw [if_pos rfl]
          by_cases c : k + 1 = 40 ∧ ¬ tK (tok b z (nxp b z y.1)) = 0
          · have e1 : e = 1 := by omega
            have el : lpA b z e (nxp b z y.1) y.2 (k + 1) = .inl (6, tS (tok b z (nxp b z y.1))) := by
              rw [e1, lpA, if_neg c.2, if_pos c.1]
            rw [el]
            refine ⟨fun er q => ?_, fun y q => (by cases q)⟩
            cases q
            exact fl _ (show 0 < 6 ∧ 6 < 10 by decide) (g2 hs c.1 c.2)
          · have c' : ¬ k + 1 = 40 ∨ tK (tok b z (nxp b z y.1)) = 0 := by
              by_cases q : k + 1 = 40
              · exact Or.inr (Classical.byContradiction (fun z => c ⟨q, z⟩))
              · exact Or.inl q
            obtain ⟨M2, b1, b2, b3⟩ := g3 hs c'
            obtain ⟨r1, r2⟩ := ih (k + 1) f (nxp b z y.1) y.2 M2 (by omega) (by omega) b3 (by omega)
            rw [a1, b_i, b1, b_i, nI_1]
            refine ⟨fun er q => ?_, fun y' q => ?_⟩
            · obtain ⟨M', x, c1, c2⟩ := r1 er q
              exact ⟨M', x, c1, c2.fr (a2.tr b2)⟩
            · obtain ⟨M', p', c1, c2, c3⟩ := r2 y' q
              exact ⟨M', p', c1, (a2.tr b2).tr c2, c3⟩
end
