/-! chip: the model looks ahead (2) -/
theorem isL_D {x : Nat} (h : isL x = true) : isDg x = false := decide_eq_false (by have := isL_iff.mp h; omega)
theorem s_a135 {M : Mem} {b : Nat → Nat} {z s : Nat} {L0 : Int32} (h : MTx M b z) (hs : s < z) (h4 : zI M 355 4 = nI s) (h12 : zI M 355 12 = L0) (hn : ¬ (isL (b s) = false ∧ isDg (b s) = false)) : ∃ M', f_X12_ahead_135 355 (nI s) (b01 (isL (b s))) (b01 (isDg (b s))) M = some M' ∧ FR Wah M M' ∧ zI M' 355 4 = nI s ∧ (zI M' 355 3 = 1 ∨ zI M' 355 3 = 2) ∧ (¬ L0 = -1 → zI M' 355 12 = L0) ∧ (L0 = -1 → TM M' (if isL (b s) = true then (if s + rl isL b z 6 s < z ∧ isL (b (s + rl isL b z 6 s)) = true then (4, s, s + 1, s + rl isL b z 6 s, []) else (1, s, s + rl isL b z 6 s, 0, lts b s (rl isL b z 6 s))) else (if s + rl isDg b z 4 s < z ∧ isDg (b (s + rl isDg b z 4 s)) = true then (4, s, s + 1, s + rl isDg b z 4 s, []) else (2, s, s + rl isDg b z 4 s, nvl b s (rl isDg b z 4 s), [])))) := by
  have hz := h.2.1
  unfold f_X12_ahead_135 f_X12_ahead_176 f_X12_ahead_186 f_X12_ahead_199
  rw [b_i, b_i, b_i, b_i]
  have f1 : FR Wah M (zsI (zsI (zsL (zsI M 355 6 0) 355 7 0) 355 3 3) 355 5 (nI s + 1)) := FR.sI (FR.sI (FR.sL (FR.sI (FR.rf _ M) (by unfold Wah; omega)) (by unfold Wah; omega)) (by unfold Wah; omega)) (by unfold Wah; omega)
  have e6 : zI (zsI (zsI (zsL (zsI M 355 6 0) 355 7 0) 355 3 3) 355 5 (nI s + 1)) 355 6 = 0 := by rw [zI_sn _ _ (by omega), zI_sn _ _ (by omega), zI_sL, zI_se]
  have e7 : zL (zsI (zsI (zsL (zsI M 355 6 0) 355 7 0) 355 3 3) 355 5 (nI s + 1)) 355 7 = 0 := by rw [zL_sI, zL_sI, zL_se]
  have e4 : zI (zsI (zsI (zsL (zsI M 355 6 0) 355 7 0) 355 3 3) 355 5 (nI s + 1)) 355 4 = nI s := by rw [zI_sn _ _ (by omega), zI_sn _ _ (by omega), zI_sL, zI_sn _ _ (by omega)]; exact h4
  have e12 : zI (zsI (zsI (zsL (zsI M 355 6 0) 355 7 0) 355 3 3) 355 5 (nI s + 1)) 355 12 = L0 := by rw [zI_sn _ _ (by omega), zI_sn _ _ (by omega), zI_sL, zI_sn _ _ (by omega)]; exact h12
  revert f1 e6 e7 e4 e12
  generalize zsI (zsI (zsL (zsI M 355 6 0) 355 7 0) 355 3 3) 355 5 (nI s + 1) = M1
  intro f1 e6 e7 e4 e12
  cases hl : isL (b s) with
  | true =>
    have f2 : FR Wah M1 (zsI M1 355 3 1) := (FR.rf _ M1).sI (by unfold Wah; omega)
    obtain ⟨M', a1, a2, a3, a4, a5⟩ := s_ah1L (L0 := L0) hs 6 0 (1000000 - 7) (zsI M1 355 3 1) (by omega) (by omega) (by omega) ((h.ah f1).ah f2) ((zI_sn _ _ (by omega)).trans e12) (by rw [zL_sI, e7]; rfl) (fun k hk => absurd hk (by omega))
    rw [show 6 + 1 + (1000000 - 7) = 1000000 from rfl, Nat.add_zero] at a1
    rw [Nat.add_zero, Nat.zero_add] at a4 a5
    have i4 : zI M' 355 4 = nI s := (a2.I (by unfold Wa2; omega)).trans ((zI_sn _ _ (by omega)).trans e4)
    have i3 : zI M' 355 3 = 1 := (a2.I (by unfold Wa2; omega)).trans (zI_se _ _ _ _)
    refine ⟨M', ?_, (f1.tr f2).tr (a2.mo (fun a j q => by unfold Wa2 at q; unfold Wah; omega)), i4, Or.inl i3, fun q => ?_, fun q => ?_⟩
    · rw [if_neg (show ¬ b01 true = 0 by decide), if_neg (show ¬ b01 true = 0 by decide), b_i, if_neg (show ¬ b01 true = 0 by decide), isL_D hl]
      exact a1
    · by_cases c : s + rl isL b z 6 s < z ∧ isL (b (s + rl isL b z 6 s)) = true
      · rw [a4 c, if_neg q]
      · exact (a5 c).1
    · rw [if_pos (show true = true from rfl)]
      by_cases c : s + rl isL b z 6 s < z ∧ isL (b (s + rl isL b z 6 s)) = true
      · rw [if_pos c]
        refine ⟨i4, fun _ => ⟨?_, Or.inl i3⟩, fun w => absurd w (by show ¬ (4 : Nat) ≤ 3; decide), fun w => absurd w (by show ¬ (4 : Nat) = 1; decide), fun w => absurd w (by show ¬ ((4 : Nat) = 2 ∨ (4 : Nat) = 3); decide)⟩
        rw [a4 c, if_pos q]; rfl
      · rw [if_neg c]
        obtain ⟨d1, d2, d3⟩ := a5 c
        refine ⟨i4, fun w => absurd w (by show ¬ (1 : Nat) = 4; decide), fun _ => ⟨d1.trans q, i3, d2⟩, fun _ => ⟨?_, d3⟩, fun w => absurd w (by show ¬ ((1 : Nat) = 2 ∨ (1 : Nat) = 3); decide)⟩
        rw [a3, zI_sn _ _ (by omega)]; exact e6
  | false =>
    have hd : isDg (b s) = true := by
      cases hd : isDg (b s) with
      | true => rfl
      | false => exact absurd ⟨hl, hd⟩ hn
    have f2 : FR Wah M1 (zsI M1 355 3 2) := (FR.rf _ M1).sI (by unfold Wah; omega)
    obtain ⟨M', a1, a2, a4, a5⟩ := s_ah1D (L0 := L0) hs 4 0 (1000000 - 5) (zsI M1 355 3 2) (by omega) (by omega) (by omega) ((h.ah f1).ah f2) ((zI_sn _ _ (by omega)).trans e12) ((zI_sn _ _ (by omega)).trans e6) (fun k hk => absurd hk (by omega))
    rw [show 4 + 1 + (1000000 - 5) = 1000000 from rfl, Nat.add_zero] at a1
    rw [Nat.add_zero, Nat.zero_add] at a4 a5
    have i4 : zI M' 355 4 = nI s := (a2.I (by unfold Wa2; omega)).trans ((zI_sn _ _ (by omega)).trans e4)
    have i3 : zI M' 355 3 = 2 := (a2.I (by unfold Wa2; omega)).trans (zI_se _ _ _ _)
    refine ⟨M', ?_, (f1.tr f2).tr (a2.mo (fun a j q => by unfold Wa2 at q; unfold Wah; omega)), i4, Or.inr i3, fun q => ?_, fun q => ?_⟩
    · rw [if_pos (show b01 false = 0 from rfl), hd, if_neg (show ¬ b01 true = 0 by decide), if_pos (show b01 false = 0 from rfl), b_i, if_pos (show b01 false = 0 from rfl)]
      exact a1
    · by_cases c : s + rl isDg b z 4 s < z ∧ isDg (b (s + rl isDg b z 4 s)) = true
      · rw [a4 c, if_neg q]
      · exact (a5 c).1
    · rw [if_neg (show ¬ false = true by decide)]
      by_cases c : s + rl isDg b z 4 s < z ∧ isDg (b (s + rl isDg b z 4 s)) = true
      · rw [if_pos c]
        refine ⟨i4, fun _ => ⟨?_, Or.inr i3⟩, fun w => absurd w (by show ¬ (4 : Nat) ≤ 3; decide), fun w => absurd w (by show ¬ (4 : Nat) = 1; decide), fun w => absurd w (by show ¬ ((4 : Nat) = 2 ∨ (4 : Nat) = 3); decide)⟩
        rw [a4 c, if_pos q]; rfl
      · rw [if_neg c]
        obtain ⟨d1, d2, d3⟩ := a5 c
        exact ⟨i4, fun w => absurd w (by show ¬ (2 : Nat) = 4; decide), fun _ => ⟨d1.trans q, i3, d2⟩, fun w => absurd w (by show ¬ (2 : Nat) = 1; decide), fun _ => d3⟩
theorem s_ah5 {M : Mem} {b : Nat → Nat} {z : Nat} (h : MTx M b z) : ∀ e a f, a + e = z → f_X12_ahead_5 355 (e + 1 + f) (nI a) M = f_X12_ahead_41 355 (nI (skf b z e a)) M := by
  have hz := h.2.1
  intro e
  induction e with
  | zero =>
    intro a f ha
    rw [show 0 + 1 + f = f + 1 by omega, f_X12_ahead_5, h.2.2.1]
    exact ip (nI_le (by omega) (by omega)) rfl
  | succ e ih =>
    intro a f ha
    obtain ⟨t1, t2, t3, t4⟩ := h.at (show a < z by omega)
    rw [show e + 1 + 1 + f = (e + 1 + f) + 1 by omega, f_X12_ahead_5, h.2.2.1]
    refine im (nI_ge (by omega) (by omega)) ?_
    rw [t1, b_i, t2, b_i, t3]
    unfold f_X12_ahead_35
    have hI := ih (a + 1) f (by omega)
    by_cases c1 : b a = 32
    · have hr : skf b z (e + 1) a = skf b z e (a + 1) := by rw [skf, if_pos ⟨by omega, decide_eq_true (Or.inr c1)⟩]
      rw [hr, nI_1]
      exact ip (by rw [c1]; rfl) hI
    · refine im (fun q => c1 ((nI_eq (b := 32) (by omega) (by decide)).mp q)) ?_
      rw [b_i, t2, b_i, t3]
      by_cases c2 : b a = 10
      · have hr : skf b z (e + 1) a = skf b z e (a + 1) := by rw [skf, if_pos ⟨by omega, decide_eq_true (Or.inl c2)⟩]
        rw [hr, nI_1]
        exact ip (by rw [c2]; rfl) hI
      · have hr : skf b z (e + 1) a = a := by rw [skf, if_neg (fun q => (of_decide_eq_true q.2).elim c2 c1)]
        rw [hr]
        exact im (fun q => c2 ((nI_eq (b := 10) (by omega) (by decide)).mp q)) rfl
theorem s_mahead {M : Mem} {b : Nat → Nat} {z p : Nat} (h : MTx M b z) (h5 : zI M 355 5 = nI p) (hp : p ≤ z) : ∃ M', f_X12_ahead 355 M = some M' ∧ FR Wah M M' ∧ TM M' (tok b z p) := by
  have hz := h.2.1
  obtain ⟨k1, k2, k3⟩ := skp_ge b hp
  have w := s_ah5 h (z - p) p (1000000 - (z - p) - 1) (by omega)
  rw [show z - p + 1 + (1000000 - (z - p) - 1) = 1000000 by omega] at w
  unfold f_X12_ahead tok
  rw [h5, w, show skf b z (z - p) p = skp b z p from rfl]
  revert k1 k2 k3
  generalize skp b z p = s
  intro k1 k2 k3
  unfold f_X12_ahead_41
  rw [b_i, b_i, b_i, b_i]
  have f1 : FR Wah M (zsI (zsI (zsI (zsI M 355 4 (nI s)) 355 5 (nI s)) 355 3 0) 355 12 (-1)) := FR.sI (FR.sI (FR.sI (FR.sI (FR.rf _ M) (by unfold Wah; omega)) (by unfold Wah; omega)) (by unfold Wah; omega)) (by unfold Wah; omega)
  have e12 : zI (zsI (zsI (zsI (zsI M 355 4 (nI s)) 355 5 (nI s)) 355 3 0) 355 12 (-1)) 355 12 = -1 := zI_se _ _ _ _
  have e3 : zI (zsI (zsI (zsI (zsI M 355 4 (nI s)) 355 5 (nI s)) 355 3 0) 355 12 (-1)) 355 3 = 0 := by rw [zI_sn _ _ (by omega), zI_se]
  have e5 : zI (zsI (zsI (zsI (zsI M 355 4 (nI s)) 355 5 (nI s)) 355 3 0) 355 12 (-1)) 355 5 = nI s := by rw [zI_sn _ _ (by omega), zI_sn _ _ (by omega), zI_se]
  have e4 : zI (zsI (zsI (zsI (zsI M 355 4 (nI s)) 355 5 (nI s)) 355 3 0) 355 12 (-1)) 355 4 = nI s := by rw [zI_sn _ _ (by omega), zI_sn _ _ (by omega), zI_sn _ _ (by omega), zI_se]
  revert f1 e12 e3 e5 e4
  generalize zsI (zsI (zsI (zsI M 355 4 (nI s)) 355 5 (nI s)) 355 3 0) 355 12 (-1) = M1
  intro f1 e12 e3 e5 e4
  have h1 := h.ah f1
  unfold tkA
  by_cases cz : z ≤ s
  · rw [if_pos cz, h1.2.2.1, if_neg (nI_nlt (show z ≤ s by omega) (by omega))]
    have hsz : s = z := by omega
    refine ⟨M1, rfl, f1, e4, fun q => absurd q (by show ¬ (0 : Nat) = 4; decide), fun _ => ⟨e12, e3, ?_⟩, fun q => absurd q (by show ¬ (0 : Nat) = 1; decide), fun q => absurd q (by show ¬ ((0 : Nat) = 2 ∨ (0 : Nat) = 3); decide)⟩
    rw [e5, hsz]; rfl
  · obtain ⟨t1, t2, t3, t4⟩ := h1.at (show s < z by omega)
    rw [if_neg cz, h1.2.2.1, if_pos (nI_lt (show s < z by omega) (by omega)), t1, b_i, t2, b_i, t3, m_isL (by omega), b_i]
    dsimp only
    rw [t1, b_i, t2, b_i, t3, m_isD (by omega), b_i]
    dsimp only
    by_cases c0 : isL (b s) = false ∧ isDg (b s) = false
    · rw [if_pos c0, c0.1, c0.2, if_pos (show b01 false = 0 from rfl), if_pos (show b01 false = 0 from rfl)]
      unfold f_X12_ahead_135
      rw [b_i, b_i, b_i, b_i, if_pos (show b01 false = 0 from rfl), if_pos (show b01 false = 0 from rfl)]
      have g1 : FR Wah M1 (zsI (zsI (zsL (zsI M1 355 6 0) 355 7 0) 355 3 3) 355 5 (nI s + 1)) := FR.sI (FR.sI (FR.sL (FR.sI (FR.rf _ M1) (by unfold Wah; omega)) (by unfold Wah; omega)) (by unfold Wah; omega)) (by unfold Wah; omega)
      have i5 : zI (zsI (zsI (zsL (zsI M1 355 6 0) 355 7 0) 355 3 3) 355 5 (nI s + 1)) 355 5 = nI (s + 1) := by rw [zI_se, nI_1]
      have i3 : zI (zsI (zsI (zsL (zsI M1 355 6 0) 355 7 0) 355 3 3) 355 5 (nI s + 1)) 355 3 = 3 := by rw [zI_sn _ _ (by omega), zI_se]
      have i4 : zI (zsI (zsI (zsL (zsI M1 355 6 0) 355 7 0) 355 3 3) 355 5 (nI s + 1)) 355 4 = nI s := by rw [zI_sn _ _ (by omega), zI_sn _ _ (by omega), zI_sL, zI_sn _ _ (by omega)]; exact e4
      have i12 : zI (zsI (zsI (zsL (zsI M1 355 6 0) 355 7 0) 355 3 3) 355 5 (nI s + 1)) 355 12 = -1 := by rw [zI_sn _ _ (by omega), zI_sn _ _ (by omega), zI_sL, zI_sn _ _ (by omega)]; exact e12
      revert g1 i5 i3 i4 i12
      generalize zsI (zsI (zsL (zsI M1 355 6 0) 355 7 0) 355 3 3) 355 5 (nI s + 1) = M2
      intro g1 i5 i3 i4 i12
      have h2 := h1.ah g1
      obtain ⟨t1, t2, t3, t4⟩ := h2.at (show s < z by omega)
      rw [t1, b_i, t2, b_i, t3, b_i]
      refine ⟨zsI M2 355 6 (nI (b s)), rfl, (f1.tr g1).sI (by unfold Wah; omega), ?_, fun q => absurd q (by show ¬ (3 : Nat) = 4; decide), fun _ => ⟨?_, ?_, ?_⟩, fun q => absurd q (by show ¬ (3 : Nat) = 1; decide), fun _ => zI_se _ _ _ _⟩
      · rw [zI_sn _ _ (by omega)]; exact i4
      · rw [zI_sn _ _ (by omega)]; exact i12
      · rw [zI_sn _ _ (by omega)]; exact i3
      · rw [zI_sn _ _ (by omega)]; exact i5
    · rw [if_neg c0]
      have key : ∃ M', f_X12_ahead_98 355 (nI s) (b01 (isL (b s))) (b01 (isDg (b s))) M1 = some M' ∧ FR Wah M M' ∧ TM M' (if glu b s = true then (4, s, s + 1, s, []) else if isL (b s) = true then (if s + rl isL b z 6 s < z ∧ isL (b (s + rl isL b z 6 s)) = true then (4, s, s + 1, s + rl isL b z 6 s, []) else (1, s, s + rl isL b z 6 s, 0, lts b s (rl isL b z 6 s))) else (if s + rl isDg b z 4 s < z ∧ isDg (b (s + rl isDg b z 4 s)) = true then (4, s, s + 1, s + rl isDg b z 4 s, []) else (2, s, s + rl isDg b z 4 s, nvl b s (rl isDg b z 4 s), []))) := by
        have good : glu b s = false → ∃ M', f_X12_ahead_135 355 (nI s) (b01 (isL (b s))) (b01 (isDg (b s))) M1 = some M' ∧ FR Wah M M' ∧ TM M' (if glu b s = true then (4, s, s + 1, s, []) else if isL (b s) = true then (if s + rl isL b z 6 s < z ∧ isL (b (s + rl isL b z 6 s)) = true then (4, s, s + 1, s + rl isL b z 6 s, []) else (1, s, s + rl isL b z 6 s, 0, lts b s (rl isL b z 6 s))) else (if s + rl isDg b z 4 s < z ∧ isDg (b (s + rl isDg b z 4 s)) = true then (4, s, s + 1, s + rl isDg b z 4 s, []) else (2, s, s + rl isDg b z 4 s, nvl b s (rl isDg b z 4 s), []))) := fun hg => by
          rw [hg, if_neg (show ¬ false = true by decide)]
          obtain ⟨M', a1, a2, a3, a4, a5, a6⟩ := s_a135 h1 (show s < z by omega) e4 e12 c0
          exact ⟨M', a1, f1.tr a2, a6 rfl⟩
        have badT : glu b s = true → ∃ M', f_X12_ahead_130 355 (nI s) (b01 (isL (b s))) (b01 (isDg (b s))) M1 = some M' ∧ FR Wah M M' ∧ TM M' (if glu b s = true then (4, s, s + 1, s, []) else if isL (b s) = true then (if s + rl isL b z 6 s < z ∧ isL (b (s + rl isL b z 6 s)) = true then (4, s, s + 1, s + rl isL b z 6 s, []) else (1, s, s + rl isL b z 6 s, 0, lts b s (rl isL b z 6 s))) else (if s + rl isDg b z 4 s < z ∧ isDg (b (s + rl isDg b z 4 s)) = true then (4, s, s + 1, s + rl isDg b z 4 s, []) else (2, s, s + rl isDg b z 4 s, nvl b s (rl isDg b z 4 s), []))) := fun hg => by
          rw [hg, if_pos rfl]
          have g1 : FR Wah M1 (zsI M1 355 12 (nI s)) := (FR.rf _ M1).sI (by unfold Wah; omega)
          obtain ⟨M', a1, a2, a3, a4, a5, a6⟩ := s_a135 (L0 := nI s) (h1.ah g1) (show s < z by omega) ((zI_sn _ _ (by omega)).trans e4) (zI_se _ _ _ _) c0
          unfold f_X12_ahead_130
          rw [b_i]
          exact ⟨M', a1, (f1.tr g1).tr a2, a3, fun _ => ⟨a5 (nI_nm (by omega)), a4⟩, fun q => absurd q (by show ¬ (4 : Nat) ≤ 3; decide), fun q => absurd q (by show ¬ (4 : Nat) = 1; decide), fun q => absurd q (by show ¬ ((4 : Nat) = 2 ∨ (4 : Nat) = 3); decide)⟩
        unfold f_X12_ahead_98
        by_cases s0 : s = 0
        · rw [if_pos (show nI s ≤ 0 by rw [s0]; decide)]
          exact good (by unfold glu; rw [decide_eq_false (by omega)]; rfl)
        · rw [if_neg (nI_nle (by omega) (by omega))]
          have hg : glu b s = (isL (b (s - 1)) || isDg (b (s - 1))) := by unfold glu; rw [decide_eq_true (by omega)]; rfl
          obtain ⟨u1, u2, u3, u4⟩ := h1.at (show s - 1 < z by omega)
          rw [t1, b_i, show (1 : Int32) = nI 1 from rfl, pk_sub (by omega), u2, b_i, u3, m_isL (by omega), b_i]
          dsimp only
          cases hl : isL (b (s - 1)) with
          | true =>
            rw [if_neg (show ¬ b01 true = 0 by decide)]
            exact badT (by rw [hg, hl]; rfl)
          | false =>
            rw [if_pos (show b01 false = 0 from rfl), t1, b_i, u2, b_i, u3, m_isD (by omega), b_i]
            dsimp only
            cases hd : isDg (b (s - 1)) with
            | true =>
              rw [if_neg (show ¬ b01 true = 0 by decide)]
              exact badT (by rw [hg, hl, hd]; rfl)
            | false =>
              rw [if_pos (show b01 false = 0 from rfl)]
              exact good (by rw [hg, hl, hd]; rfl)
      by_cases hl : b01 (isL (b s)) = 0
      · rw [if_pos hl, if_neg (fun q => c0 ⟨(nI_b0 _).mp hl, (nI_b0 _).mp q⟩)]
        exact key
      · rw [if_neg hl]
        exact key
