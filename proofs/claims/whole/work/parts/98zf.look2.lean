/-! chip: the class looks at a number; look -/
theorem s_ln7 {b : Nat → Nat} {z s : Nat} (hs : s < z) : ∀ e i f M, i + e = 5 → CTx M b z → zI M 353 10 = nI (nvl b s i) → ∃ M', f_X6_lookAtNumber_7 353 (e + 1 + f) (nI i) (nI (s + i)) M = f_X6_lookAtNumber_65 353 (nI (i + rl isDg b z e (s + i))) M' ∧ FR (fun a j => a = 353 ∧ j = 10) M M' ∧ zI M' 353 10 = nI (nvl b s (i + rl isDg b z e (s + i))) := by
  intro e
  induction e with
  | zero =>
    intro i f M hi h h10
    have hz := h.2.1
    refine ⟨M, ?_, FR.rf _ M, h10⟩
    rw [show 0 + 1 + f = f + 1 by omega, f_X6_lookAtNumber_7, h.2.2.1, show i + rl isDg b z 0 (s + i) = i from rfl]
    by_cases c : z ≤ s + i
    · exact ip (nI_le c (by omega)) rfl
    · refine im (nI_ge (by omega) (by omega)) ?_
      exact ip (show (4 : Int32) < nI i from nI_lt (a := 4) (by omega) (by omega)) rfl
  | succ e ih =>
    intro i f M hi h h10
    have hz := h.2.1
    rw [show e + 1 + 1 + f = (e + 1 + f) + 1 by omega, f_X6_lookAtNumber_7, h.2.2.1]
    by_cases c : z ≤ s + i
    · have hr : rl isDg b z (e + 1) (s + i) = 0 := by rw [rl, if_neg (by omega)]
      rw [hr, Nat.add_zero]
      exact ⟨M, ip (nI_le c (by omega)) rfl, FR.rf _ M, h10⟩
    · obtain ⟨t1, t2, t3, t4⟩ := h.at (show s + i < z by omega)
      obtain ⟨l1, l2⟩ := l48 (b (s + i)) t4
      rw [if_neg (nI_ge (show s + i < z by omega) (by omega)), if_neg (show ¬ (4 : Int32) < nI i from nI_nlt (a := 4) (by omega) (by decide)), t1, b_i, t2, b_i, t3]
      cases hq : isDg (b (s + i)) with
      | false =>
        have hr : rl isDg b z (e + 1) (s + i) = 0 := by rw [rl, if_neg (by rw [hq]; intro q; exact absurd q.2 (by decide))]
        have hn := of_decide_eq_false hq
        rw [hr, Nat.add_zero]
        refine ⟨M, ?_, FR.rf _ M, h10⟩
        by_cases q1 : b (s + i) < 48
        · exact ip (l1.mpr q1) rfl
        · refine im (fun x => q1 (l1.mp x)) ?_
          exact im (fun x => hn ⟨by omega, l2.mp x⟩) rfl
      | true =>
        have hx := isDg_iff.mp hq
        have hr : rl isDg b z (e + 1) (s + i) = rl isDg b z e (s + i + 1) + 1 := by rw [rl, if_pos ⟨by omega, hq⟩]
        have f1 : ∀ v, FR (fun a j => a = 353 ∧ j = 10) M (zsI M 353 10 v) := fun v => (FR.rf (fun a j => a = 353 ∧ j = 10) M).sI ⟨rfl, rfl⟩
        have ev : nI (nvl b s i) * 10 + (nI (b (s + i)) - 48) = nI (nvl b s (i + 1)) := by
          rw [show (10 : Int32) = nI 10 from rfl, pk_mul, show (48 : Int32) = nI 48 from rfl, pk_sub (by omega), nI_add, nvl]
        obtain ⟨M', a1, a2, a3⟩ := ih (i + 1) f (zsI M 353 10 (nI (nvl b s (i + 1)))) (by omega) (h.fr (f1 _) (by omega) (fun _ => by omega) (fun _ => by omega)) (zI_se _ _ _ _)
        rw [show s + (i + 1) = s + i + 1 by omega, show i + 1 + rl isDg b z e (s + i + 1) = i + (rl isDg b z e (s + i + 1) + 1) by omega] at a1 a3
        rw [hr]
        refine ⟨M', ?_, (f1 _).tr a2, a3⟩
        refine im (fun x => absurd (l1.mp x) (by omega)) ?_
        refine ip (l2.mpr hx.2) ?_
        rw [h10, ev, b_i, nI_1, nI_1]
        exact a1
theorem s_lnum {M : Mem} {b : Nat → Nat} {z s : Nat} (h : CTx M b z) (h7 : zI M 353 7 = nI s) (h8 : zI M 353 8 = nI s) (h10 : zI M 353 10 = 0) (hs : s < z) : ∃ M', f_X6_lookAtNumber 353 M = some M' ∧ FR Wlk6 M M' ∧ TC M' (if s + rl isDg b z 4 s < z ∧ isDg (b (s + rl isDg b z 4 s)) = true then (4, s, s + 1, s + rl isDg b z 4 s, []) else (2, s, s + rl isDg b z 4 s, nvl b s (rl isDg b z 4 s), [])) := by
  obtain ⟨M0, w, wa, w3⟩ := s_ln7 hs 5 0 (1000000 - 6) M (by omega) h h10
  rw [show 5 + 1 + (1000000 - 6) = 1000000 from rfl, Nat.add_zero, Nat.zero_add] at w
  rw [Nat.add_zero, Nat.zero_add] at w3
  have w2 : FR Wlk6 M M0 := wa.mo (fun a j q => by unfold Wlk6; omega)
  have i7 : zI M0 353 7 = nI s := (wa.I (by omega)).trans h7
  have i8 : zI M0 353 8 = nI s := (wa.I (by omega)).trans h8
  have w' : f_X6_lookAtNumber 353 M = f_X6_lookAtNumber_65 353 (nI (rl isDg b z 5 s)) M0 := by
    unfold f_X6_lookAtNumber
    rw [h7]
    exact w
  obtain ⟨k1, k2⟩ := rl_s isDg b z 4 s
  rw [w']
  unfold f_X6_lookAtNumber_65 f_X6_lookAtNumber_102
  rw [b_i, b_i, i7, nI_add]
  by_cases c : s + rl isDg b z 4 s < z ∧ isDg (b (s + rl isDg b z 4 s)) = true
  · obtain ⟨k3, k4⟩ := k1 c
    have k4 : rl isDg b z 5 s = 5 := k4
    rw [if_pos c, k3, k4]
    have g1 : FR Wlk6 M0 (zsI (zsI (zsI (zsI M0 353 9 (nI (s + 5))) 353 6 (-3)) 353 6 (-4)) 353 8 (nI (s + 4))) := FR.sI (FR.sI (FR.sI (FR.sI (FR.rf _ M0) (by unfold Wlk6; omega)) (by unfold Wlk6; omega)) (by unfold Wlk6; omega)) (by unfold Wlk6; omega)
    refine ⟨zsI (zsI (zsI (zsI M0 353 9 (nI (s + 5))) 353 6 (-3)) 353 6 (-4)) 353 8 (nI (s + 4)), ?_, w2.tr g1, ?_, ?_, ?_, fun q => absurd q (by show ¬ (4 : Nat) ≤ 3; decide), fun q => absurd q (by show ¬ (4 : Nat) = 1; decide), fun q => absurd q (by show ¬ (4 : Nat) = 2; decide)⟩
    · rw [if_neg (show ¬ nI 5 ≤ (4 : Int32) by decide), b_i, b_i, zI_sn _ _ (by omega), zI_sn _ _ (by omega), zI_sn _ _ (by omega), i7, show (4 : Int32) = nI 4 from rfl, nI_add]
    · rw [zI_sn _ _ (by omega), zI_sn _ _ (by omega), zI_sn _ _ (by omega), zI_sn _ _ (by omega)]; exact i7
    · rw [zI_sn _ _ (by omega), zI_se]; rfl
    · rw [zI_se]; rfl
  · have k4 : rl isDg b z 5 s = rl isDg b z 4 s := k2 c
    have r1 := rl_le isDg b z 4 s
    rw [if_neg c, k4]
    rw [k4] at w3
    revert w3 r1
    generalize rl isDg b z 4 s = n
    intro w3 ⟨r3, r4, r5⟩
    have g1 : FR Wlk6 M0 (zsI (zsI M0 353 9 (nI (s + n))) 353 6 (-3)) := FR.sI (FR.sI (FR.rf _ M0) (by unfold Wlk6; omega)) (by unfold Wlk6; omega)
    refine ⟨zsI (zsI M0 353 9 (nI (s + n))) 353 6 (-3), ?_, w2.tr g1, ?_, ?_, ?_, fun _ => ?_, fun q => absurd q (by show ¬ (2 : Nat) = 1; decide), fun _ => ?_⟩
    · exact if_pos (show nI n ≤ (4 : Int32) from nI_le (b := 4) r3 (by decide))
    · rw [zI_sn _ _ (by omega), zI_sn _ _ (by omega)]; exact i7
    · rw [zI_se]; rfl
    · rw [zI_sn _ _ (by omega), zI_sn _ _ (by omega)]; exact i8
    · rw [zI_sn _ _ (by omega), zI_se]; rfl
    · rw [zI_sn _ _ (by omega), zI_sn _ _ (by omega)]; exact w3
theorem s_lo5 {M : Mem} {b : Nat → Nat} {z : Nat} (h : CTx M b z) : ∀ e a f, a + e = z → f_X6_look_5 353 (e + 1 + f) (nI a) M = f_X6_look_41 353 (nI (skf b z e a)) M := by
  have hz := h.2.1
  intro e
  induction e with
  | zero =>
    intro a f ha
    rw [show 0 + 1 + f = f + 1 by omega, f_X6_look_5, h.2.2.1]
    exact ip (nI_le (by omega) (by omega)) rfl
  | succ e ih =>
    intro a f ha
    obtain ⟨t1, t2, t3, t4⟩ := h.at (show a < z by omega)
    rw [show e + 1 + 1 + f = (e + 1 + f) + 1 by omega, f_X6_look_5, h.2.2.1]
    refine im (nI_ge (by omega) (by omega)) ?_
    rw [t1, b_i, t2, b_i, t3]
    unfold f_X6_look_35
    have hI := ih (a + 1) f (by omega)
    by_cases c1 : b a = 10
    · have hr : skf b z (e + 1) a = skf b z e (a + 1) := by rw [skf, if_pos ⟨by omega, decide_eq_true (Or.inl c1)⟩]
      rw [hr, nI_1]
      exact ip (by rw [c1]; rfl) hI
    · refine im (fun q => c1 ((nI_eq (b := 10) (by omega) (by decide)).mp q)) ?_
      rw [b_i, t2, b_i, t3]
      by_cases c2 : b a = 32
      · have hr : skf b z (e + 1) a = skf b z e (a + 1) := by rw [skf, if_pos ⟨by omega, decide_eq_true (Or.inr c2)⟩]
        rw [hr, nI_1]
        exact ip (by rw [c2]; rfl) hI
      · have hr : skf b z (e + 1) a = a := by rw [skf, if_neg (fun q => (of_decide_eq_true q.2).elim c1 c2)]
        rw [hr]
        exact im (fun q => c2 ((nI_eq (b := 32) (by omega) (by decide)).mp q)) rfl
theorem s_look {M : Mem} {b : Nat → Nat} {z p : Nat} (h : CTx M b z) (h9 : zI M 353 9 = nI p) (hp : p ≤ z) : ∃ M', f_X6_look 353 M = some M' ∧ FR Wlk6 M M' ∧ TC M' (tok b z p) := by
  have hz := h.2.1
  obtain ⟨k1, k2, k3⟩ := skp_ge b hp
  have w := s_lo5 h (z - p) p (1000000 - (z - p) - 1) (by omega)
  rw [show z - p + 1 + (1000000 - (z - p) - 1) = 1000000 by omega] at w
  unfold f_X6_look tok
  rw [h9, w, show skf b z (z - p) p = skp b z p from rfl]
  revert k1 k2 k3
  generalize skp b z p = s
  intro k1 k2 k3
  unfold f_X6_look_41
  rw [b_i, b_i, b_i, b_i]
  have f1 : FR Wlk6 M (zsI (zsI (zsI (zsI M 353 7 (nI s)) 353 8 (nI s)) 353 11 (-1)) 353 10 0) := FR.sI (FR.sI (FR.sI (FR.sI (FR.rf _ M) (by unfold Wlk6; omega)) (by unfold Wlk6; omega)) (by unfold Wlk6; omega)) (by unfold Wlk6; omega)
  have e10 : zI (zsI (zsI (zsI (zsI M 353 7 (nI s)) 353 8 (nI s)) 353 11 (-1)) 353 10 0) 353 10 = 0 := zI_se _ _ _ _
  have e11 : zI (zsI (zsI (zsI (zsI M 353 7 (nI s)) 353 8 (nI s)) 353 11 (-1)) 353 10 0) 353 11 = -1 := by rw [zI_sn _ _ (by omega), zI_se]
  have e8 : zI (zsI (zsI (zsI (zsI M 353 7 (nI s)) 353 8 (nI s)) 353 11 (-1)) 353 10 0) 353 8 = nI s := by rw [zI_sn _ _ (by omega), zI_sn _ _ (by omega), zI_se]
  have e7 : zI (zsI (zsI (zsI (zsI M 353 7 (nI s)) 353 8 (nI s)) 353 11 (-1)) 353 10 0) 353 7 = nI s := by rw [zI_sn _ _ (by omega), zI_sn _ _ (by omega), zI_sn _ _ (by omega), zI_se]
  have e9 : zI (zsI (zsI (zsI (zsI M 353 7 (nI s)) 353 8 (nI s)) 353 11 (-1)) 353 10 0) 353 9 = nI p := by rw [zI_sn _ _ (by omega), zI_sn _ _ (by omega), zI_sn _ _ (by omega), zI_sn _ _ (by omega)]; exact h9
  revert f1 e10 e11 e8 e7 e9
  generalize zsI (zsI (zsI (zsI M 353 7 (nI s)) 353 8 (nI s)) 353 11 (-1)) 353 10 0 = M1
  intro f1 e10 e11 e8 e7 e9
  have h1 := h.lo f1
  unfold f_X6_look_201 tkA
  by_cases cz : z ≤ s
  · rw [if_pos cz, h1.2.2.1, if_neg (nI_nlt (show z ≤ s by omega) (by omega)), b_i]
    have g1 : FR Wlk6 M1 (zsI (zsI M1 353 6 (-1)) 353 9 (zI (zsI M1 353 6 (-1)) 353 3)) := ((FR.rf _ M1).sI (by unfold Wlk6; omega)).sI (by unfold Wlk6; omega)
    refine ⟨zsI (zsI M1 353 6 (-1)) 353 9 (zI (zsI M1 353 6 (-1)) 353 3), by rw [b_i], f1.tr g1, ?_, ?_, ?_, fun _ => ?_, fun q => absurd q (by show ¬ (0 : Nat) = 1; decide), fun q => absurd q (by show ¬ (0 : Nat) = 2; decide)⟩
    · rw [zI_sn _ _ (by omega), zI_sn _ _ (by omega)]; exact e7
    · rw [zI_sn _ _ (by omega), zI_se]; rfl
    · rw [zI_sn _ _ (by omega), zI_sn _ _ (by omega)]; exact e8
    · rw [zI_se, zI_sn _ _ (by omega)]; exact h1.2.2.1
  · obtain ⟨t1, t2, t3, t4⟩ := h1.at (show s < z by omega)
    rw [if_neg cz, h1.2.2.1, if_pos (nI_lt (show s < z by omega) (by omega)), t1, b_i, t2, b_i, t3, s_isL (by omega), b_i]
    dsimp only
    by_cases c0 : isL (b s) = false ∧ isDg (b s) = false
    · rw [if_pos c0, c0.1, if_pos (show b01 false = 0 from rfl), t1, b_i, t2, b_i, t3, s_isD (by omega), b_i, c0.2]
      dsimp only
      rw [if_pos (show b01 false = 0 from rfl), t1, b_i, t2, b_i, t3, b_i, b_i, nI_1]
      have g1 : FR Wlk6 M1 (zsI (zsI M1 353 6 (nI (b s))) 353 9 (nI (s + 1))) := ((FR.rf _ M1).sI (by unfold Wlk6; omega)).sI (by unfold Wlk6; omega)
      refine ⟨zsI (zsI M1 353 6 (nI (b s))) 353 9 (nI (s + 1)), rfl, f1.tr g1, ?_, ?_, ?_, fun _ => ?_, fun q => absurd q (by show ¬ (3 : Nat) = 1; decide), fun q => absurd q (by show ¬ (3 : Nat) = 2; decide)⟩
      · rw [zI_sn _ _ (by omega), zI_sn _ _ (by omega)]; exact e7
      · rw [zI_sn _ _ (by omega), zI_se]; rfl
      · rw [zI_sn _ _ (by omega), zI_sn _ _ (by omega)]; exact e8
      · rw [zI_se]; rfl
    · rw [if_neg c0]
      have key : ∃ M', f_X6_look_129 353 (nI s) M1 = some M' ∧ FR Wlk6 M M' ∧ TC M' (if glu b s = true then (4, s, s + 1, s, []) else if isL (b s) = true then (if s + rl isL b z 6 s < z ∧ isL (b (s + rl isL b z 6 s)) = true then (4, s, s + 1, s + rl isL b z 6 s, []) else (1, s, s + rl isL b z 6 s, 0, lts b s (rl isL b z 6 s))) else (if s + rl isDg b z 4 s < z ∧ isDg (b (s + rl isDg b z 4 s)) = true then (4, s, s + 1, s + rl isDg b z 4 s, []) else (2, s, s + rl isDg b z 4 s, nvl b s (rl isDg b z 4 s), []))) := by
        have good : glu b s = false → ∃ M', f_X6_look_178 353 (nI s) M1 = some M' ∧ FR Wlk6 M M' ∧ TC M' (if glu b s = true then (4, s, s + 1, s, []) else if isL (b s) = true then (if s + rl isL b z 6 s < z ∧ isL (b (s + rl isL b z 6 s)) = true then (4, s, s + 1, s + rl isL b z 6 s, []) else (1, s, s + rl isL b z 6 s, 0, lts b s (rl isL b z 6 s))) else (if s + rl isDg b z 4 s < z ∧ isDg (b (s + rl isDg b z 4 s)) = true then (4, s, s + 1, s + rl isDg b z 4 s, []) else (2, s, s + rl isDg b z 4 s, nvl b s (rl isDg b z 4 s), []))) := fun hg => by
          rw [hg, if_neg (show ¬ false = true by decide)]
          unfold f_X6_look_178 f_X6_look_201
          rw [t1, b_i, t2, b_i, t3, s_isL (by omega), b_i]
          dsimp only
          cases hl : isL (b s) with
          | true =>
            obtain ⟨M', a1, a2, a3⟩ := s_lword h1 e7 e8 e10 e11 (show s < z by omega) hl
            rw [if_neg (show ¬ b01 true = 0 by decide), a1, b_i, if_pos (show true = true from rfl)]
            exact ⟨M', rfl, f1.tr a2, a3⟩
          | false =>
            have hd : isDg (b s) = true := by
              cases hd : isDg (b s) with
              | true => rfl
              | false => exact absurd ⟨hl, hd⟩ c0
            obtain ⟨M', a1, a2, a3⟩ := s_lnum h1 e7 e8 e10 (show s < z by omega)
            rw [if_pos (show b01 false = 0 from rfl), a1, b_i, if_neg (show ¬ false = true by decide)]
            exact ⟨M', rfl, f1.tr a2, a3⟩
        have badT : glu b s = true → ∃ M', f_X6_look_169 353 M1 = some M' ∧ FR Wlk6 M M' ∧ TC M' (if glu b s = true then (4, s, s + 1, s, []) else if isL (b s) = true then (if s + rl isL b z 6 s < z ∧ isL (b (s + rl isL b z 6 s)) = true then (4, s, s + 1, s + rl isL b z 6 s, []) else (1, s, s + rl isL b z 6 s, 0, lts b s (rl isL b z 6 s))) else (if s + rl isDg b z 4 s < z ∧ isDg (b (s + rl isDg b z 4 s)) = true then (4, s, s + 1, s + rl isDg b z 4 s, []) else (2, s, s + rl isDg b z 4 s, nvl b s (rl isDg b z 4 s), []))) := fun hg => by
          rw [hg, if_pos rfl]
          unfold f_X6_look_169 f_X6_look_201
          rw [b_i]
          refine ⟨_, rfl, f1.sI (by unfold Wlk6; omega), ?_, ?_, ?_, fun q => absurd q (by show ¬ (4 : Nat) ≤ 3; decide), fun q => absurd q (by show ¬ (4 : Nat) = 1; decide), fun q => absurd q (by show ¬ (4 : Nat) = 2; decide)⟩
          · rw [zI_sn _ _ (by omega)]; exact e7
          · rw [zI_se]; rfl
          · rw [zI_sn _ _ (by omega)]; exact e8
        unfold f_X6_look_129
        by_cases s0 : s = 0
        · rw [if_pos (show nI s ≤ 0 by rw [s0]; decide)]
          exact good (by unfold glu; rw [decide_eq_false (by omega)]; rfl)
        · rw [if_neg (nI_nle (by omega) (by omega)), e9]
          by_cases sp : s = p
          · have hg : glu b s = (isL (b (s - 1)) || isDg (b (s - 1))) := by unfold glu; rw [decide_eq_true (by omega)]; rfl
            obtain ⟨u1, u2, u3, u4⟩ := h1.at (show s - 1 < z by omega)
            rw [if_pos (by rw [sp]), t1, b_i, show (1 : Int32) = nI 1 from rfl, pk_sub (by omega), u2, b_i, u3, s_isL (by omega), b_i]
            dsimp only
            cases hl : isL (b (s - 1)) with
            | true =>
              rw [if_neg (show ¬ b01 true = 0 by decide)]
              exact badT (by rw [hg, hl]; rfl)
            | false =>
              rw [if_pos (show b01 false = 0 from rfl), t1, b_i, u2, b_i, u3, s_isD (by omega), b_i]
              dsimp only
              cases hd : isDg (b (s - 1)) with
              | true =>
                rw [if_neg (show ¬ b01 true = 0 by decide)]
                exact badT (by rw [hg, hl, hd]; rfl)
              | false =>
                rw [if_pos (show b01 false = 0 from rfl)]
                exact good (by rw [hg, hl, hd]; rfl)
          · rw [if_neg (fun q => sp ((nI_eq (by omega) (by omega)).mp q))]
            have hb := of_decide_eq_true (k3 (by omega))
            refine good ?_
            unfold glu isL isDg
            rw [decide_eq_false (show ¬ (97 ≤ b (s - 1) ∧ b (s - 1) ≤ 122) by omega), decide_eq_false (show ¬ (48 ≤ b (s - 1) ∧ b (s - 1) ≤ 57) by omega), decide_eq_true (show 0 < s by omega)]
            rfl
      cases hl : isL (b s) with
      | true =>
        rw [if_neg (show ¬ b01 true = 0 by decide)]
        rw [hl] at key
        exact key
      | false =>
        rw [if_pos (show b01 false = 0 from rfl), t1, b_i, t2, b_i, t3, s_isD (by omega), b_i]
        dsimp only
        have hd : isDg (b s) = true := by
          cases hd : isDg (b s) with
          | true => rfl
          | false => exact absurd ⟨hl, hd⟩ c0
        rw [hd, if_neg (show ¬ b01 true = 0 by decide)]
        rw [hl] at key
        exact key
