/-! chip: the model looks ahead -/
def MTx (M : Mem) (b : Nat → Nat) (z : Nat) : Prop := WRc M ∧ z ≤ 1600 ∧ zI M 355 2 = nI z ∧ (∀ k, k < z → zI M 356 k = nI (b k) ∧ b k < 256) ∧ zI M 355 9 = -1
def Wah (a j : Nat) : Prop := a = 355 ∧ ((3 ≤ j ∧ j ≤ 7) ∨ j = 12)
theorem MTx.fr {W : Nat → Nat → Prop} {M M1 : Mem} {b : Nat → Nat} {z : Nat} (h : MTx M b z) (f : FR W M M1) (h1 : ¬ W 355 2 ∧ ¬ W 355 9) (h2 : ∀ j, ¬ W 356 j) : MTx M1 b z := ⟨f.W h.1, h.2.1, (f.I h1.1).trans h.2.2.1, fun k hk => ⟨(f.I (h2 k)).trans (h.2.2.2.1 k hk).1, (h.2.2.2.1 k hk).2⟩, (f.I h1.2).trans h.2.2.2.2⟩
theorem MTx.ah {M M1 : Mem} {b : Nat → Nat} {z : Nat} (h : MTx M b z) (f : FR Wah M M1) : MTx M1 b z := h.fr f (by unfold Wah; omega) (fun _ => by unfold Wah; omega)
theorem MTx.at {M : Mem} {b : Nat → Nat} {z k : Nat} (h : MTx M b z) (hk : k < z) : zrf M 355 0 = some 356 ∧ zld 356 (nI k) = some k ∧ zI M 356 k = nI (b k) ∧ b k < 256 := ⟨w355_0 h.1, zl_at 1800 rfl (by have := h.2.1; omega) (by decide), h.2.2.2.1 k hk⟩
theorem m_isL {x : Nat} (hx : x < 2 ^ 31) (M : Mem) : f_X12_isLetter (nI x) M = some (b01 (isL x), M) := by
  unfold f_X12_isLetter f_X12_isLetter_16 f_X12_isLetter_17 isL
  by_cases c1 : x < 97
  · rw [if_pos (show nI x < (97 : Int32) from nI_lt (b := 97) c1 (by decide)), zbz0, decide_eq_false (by omega)]; rfl
  · rw [if_neg (show ¬ nI x < (97 : Int32) from nI_nlt (b := 97) (by omega) hx)]
    by_cases c2 : 122 < x
    · rw [if_pos (show (122 : Int32) < nI x from nI_lt (a := 122) c2 hx), zbz0, decide_eq_false (by omega)]; rfl
    · rw [if_neg (show ¬ (122 : Int32) < nI x from nI_nlt (a := 122) (by omega) (by decide)), zbz1, decide_eq_true (by omega)]; rfl
theorem m_isD {x : Nat} (hx : x < 2 ^ 31) (M : Mem) : f_X12_isDigit (nI x) M = some (b01 (isDg x), M) := by
  unfold f_X12_isDigit f_X12_isDigit_16 f_X12_isDigit_17 isDg
  by_cases c1 : x < 48
  · rw [if_pos (show nI x < (48 : Int32) from nI_lt (b := 48) c1 (by decide)), zbz0, decide_eq_false (by omega)]; rfl
  · rw [if_neg (show ¬ nI x < (48 : Int32) from nI_nlt (b := 48) (by omega) hx)]
    by_cases c2 : 57 < x
    · rw [if_pos (show (57 : Int32) < nI x from nI_lt (a := 57) c2 hx), zbz0, decide_eq_false (by omega)]; rfl
    · rw [if_neg (show ¬ (57 : Int32) < nI x from nI_nlt (a := 57) (by omega) (by decide)), zbz1, decide_eq_true (by omega)]; rfl
def TM (M : Mem) (t : Tok) : Prop := zI M 355 4 = nI (tS t) ∧ (tK t = 4 → zI M 355 12 = nI (tV t) ∧ (zI M 355 3 = 1 ∨ zI M 355 3 = 2)) ∧ (tK t ≤ 3 → zI M 355 12 = -1 ∧ zI M 355 3 = nI (tK t) ∧ zI M 355 5 = nI (tN t)) ∧ (tK t = 1 → zI M 355 6 = 0 ∧ zL M 355 7 = lN (pk8 (tL t))) ∧ (tK t = 2 ∨ tK t = 3 → zI M 355 6 = nI (tV t))
theorem shl8 {a x : Nat} (hx : x < 256) : a <<< 8 ||| x = a * 256 + x := by
  have := Nat.shiftLeft_add_eq_or_of_lt (i := 8) hx a
  rw [← this, Nat.shiftLeft_eq]
theorem s_ah2L {b : Nat → Nat} {z s : Nat} : ∀ e i f M, s + i + e = z → 6 < i → MTx M b z → ∃ M', f_X12_ahead_204 355 (e + 1 + f) (nI (s + i)) 1 0 6 (nI i) M = some M' ∧ FR (fun a j => a = 355 ∧ j = 5) M M' := by
  intro e
  induction e with
  | zero =>
    intro i f M hi h6 h
    have hz := h.2.1
    refine ⟨zsI M 355 5 (nI (s + i)), ?_, (FR.rf (fun a j => a = 355 ∧ j = 5) M).sI ⟨rfl, rfl⟩⟩
    rw [show 0 + 1 + f = f + 1 by omega, f_X12_ahead_204, h.2.2.1]
    exact ip (nI_le (by omega) (by omega)) rfl
  | succ e ih =>
    intro i f M hi h6 h
    have hz := h.2.1
    obtain ⟨t1, t2, t3, t4⟩ := h.at (show s + i < z by omega)
    rw [show e + 1 + 1 + f = (e + 1 + f) + 1 by omega, f_X12_ahead_204, h.2.2.1, if_neg (nI_ge (show s + i < z by omega) (by omega)), if_neg (show ¬ (1 : Int32) = 0 by decide), t1, b_i, t2, b_i, t3, m_isL (by omega), b_i]
    dsimp only
    cases isL (b (s + i))
    · exact ⟨zsI M 355 5 (nI (s + i)), rfl, (FR.rf (fun a j => a = 355 ∧ j = 5) M).sI ⟨rfl, rfl⟩⟩
    · obtain ⟨M', a1, a2⟩ := ih (i + 1) f M (by omega) (by omega) h
      refine ⟨M', ?_, a2⟩
      refine im (by decide) ?_
      unfold f_X12_ahead_243 f_X12_ahead_263 f_X12_ahead_293 f_X12_ahead_325
      rw [if_neg (show ¬ nI i = (6 : Int32) from fun q => by have := (nI_eq (b := 6) (by omega) (by decide)).mp q; omega), if_pos (show (6 : Int32) ≤ nI i from nI_le (a := 6) (by omega) (by omega)), if_pos (show (6 : Int32) ≤ nI i from nI_le (a := 6) (by omega) (by omega)), nI_1, nI_1]
      exact a1
theorem s_ah2D {b : Nat → Nat} {z s : Nat} : ∀ e i f M, s + i + e = z → 4 < i → MTx M b z → ∃ M', f_X12_ahead_204 355 (e + 1 + f) (nI (s + i)) 0 1 4 (nI i) M = some M' ∧ FR (fun a j => a = 355 ∧ j = 5) M M' := by
  intro e
  induction e with
  | zero =>
    intro i f M hi h6 h
    have hz := h.2.1
    refine ⟨zsI M 355 5 (nI (s + i)), ?_, (FR.rf (fun a j => a = 355 ∧ j = 5) M).sI ⟨rfl, rfl⟩⟩
    rw [show 0 + 1 + f = f + 1 by omega, f_X12_ahead_204, h.2.2.1]
    exact ip (nI_le (by omega) (by omega)) rfl
  | succ e ih =>
    intro i f M hi h6 h
    have hz := h.2.1
    obtain ⟨t1, t2, t3, t4⟩ := h.at (show s + i < z by omega)
    rw [show e + 1 + 1 + f = (e + 1 + f) + 1 by omega, f_X12_ahead_204, h.2.2.1, if_neg (nI_ge (show s + i < z by omega) (by omega)), if_pos (show (0 : Int32) = 0 from rfl), t1, b_i, t2, b_i, t3, m_isD (by omega), b_i]
    dsimp only
    cases isDg (b (s + i))
    · exact ⟨zsI M 355 5 (nI (s + i)), rfl, (FR.rf (fun a j => a = 355 ∧ j = 5) M).sI ⟨rfl, rfl⟩⟩
    · obtain ⟨M', a1, a2⟩ := ih (i + 1) f M (by omega) (by omega) h
      refine ⟨M', ?_, a2⟩
      refine im (by decide) ?_
      unfold f_X12_ahead_243 f_X12_ahead_263 f_X12_ahead_293 f_X12_ahead_325
      rw [if_neg (show ¬ nI i = (4 : Int32) from fun q => by have := (nI_eq (b := 4) (by omega) (by decide)).mp q; omega), if_pos (show (4 : Int32) ≤ nI i from nI_le (a := 4) (by omega) (by omega)), if_pos (show (4 : Int32) ≤ nI i from nI_le (a := 4) (by omega) (by omega)), nI_1, nI_1]
      exact a1
def Wa2 (a j : Nat) : Prop := a = 355 ∧ (j = 5 ∨ j = 6 ∨ j = 7 ∨ j = 12)
theorem s_ah1L {b : Nat → Nat} {z s : Nat} {L0 : Int32} (hs : s < z) : ∀ e i f M, i + e = 6 → s + i ≤ z → 2000 ≤ f → MTx M b z → zI M 355 12 = L0 → zL M 355 7 = lN (pk8 (lts b s i)) → (∀ k, k < i → isL (b (s + k)) = true) → ∃ M', f_X12_ahead_204 355 (e + 1 + f) (nI (s + i)) 1 0 6 (nI i) M = some M' ∧ FR Wa2 M M' ∧ zI M' 355 6 = zI M 355 6 ∧ (s + (i + rl isL b z e (s + i)) < z ∧ isL (b (s + (i + rl isL b z e (s + i)))) = true → zI M' 355 12 = if L0 = -1 then nI (s + (i + rl isL b z e (s + i))) else L0) ∧ (¬ (s + (i + rl isL b z e (s + i)) < z ∧ isL (b (s + (i + rl isL b z e (s + i)))) = true) → zI M' 355 12 = L0 ∧ zI M' 355 5 = nI (s + (i + rl isL b z e (s + i))) ∧ zL M' 355 7 = lN (pk8 (lts b s (i + rl isL b z e (s + i))))) := by
  have stop : ∀ i M, MTx M b z → zI M 355 12 = L0 → zL M 355 7 = lN (pk8 (lts b s i)) → ¬ (s + i < z ∧ isL (b (s + i)) = true) → FR Wa2 M (zsI M 355 5 (nI (s + i))) ∧ zI (zsI M 355 5 (nI (s + i))) 355 6 = zI M 355 6 ∧ (s + i < z ∧ isL (b (s + i)) = true → zI (zsI M 355 5 (nI (s + i))) 355 12 = if L0 = -1 then nI (s + i) else L0) ∧ (¬ (s + i < z ∧ isL (b (s + i)) = true) → zI (zsI M 355 5 (nI (s + i))) 355 12 = L0 ∧ zI (zsI M 355 5 (nI (s + i))) 355 5 = nI (s + i) ∧ zL (zsI M 355 5 (nI (s + i))) 355 7 = lN (pk8 (lts b s i))) := fun i M h h12 h7 hn =>
    ⟨(FR.rf _ M).sI (by unfold Wa2; omega), zI_sn _ _ (by omega), fun q => absurd q hn, fun _ => ⟨(zI_sn _ _ (by omega)).trans h12, zI_se _ _ _ _, h7⟩⟩
  intro e
  induction e with
  | zero =>
    intro i f M hi hsz hf h h12 h7 hL
    have hz := h.2.1
    rw [show i + rl isL b z 0 (s + i) = i from rfl]
    by_cases c : s + i < z ∧ isL (b (s + i)) = true
    · obtain ⟨t1, t2, t3, t4⟩ := h.at c.1
      have i6 : i = 6 := by omega
      rw [show 0 + 1 + f = f + 1 by omega, f_X12_ahead_204, h.2.2.1, if_neg (nI_ge c.1 (by omega)), if_neg (show ¬ (1 : Int32) = 0 by decide), t1, b_i, t2, b_i, t3, m_isL (by omega), b_i, c.2]
      rw [if_neg (show ¬ b01 true = 0 by decide)]
      unfold f_X12_ahead_243 f_X12_ahead_263 f_X12_ahead_293 f_X12_ahead_325
      rw [if_pos (show nI i = (6 : Int32) by rw [i6]; rfl), h12]
      have rest : ∀ M1, MTx M1 b z → ∃ M', (if (6 : Int32) ≤ nI i then (if (6 : Int32) ≤ nI i then f_X12_ahead_204 355 f (nI (s + i) + 1) 1 0 6 (nI i + 1) M1 else none) else none) = some M' ∧ FR (fun a j => a = 355 ∧ j = 5) M1 M' := fun M1 h1 => by
        obtain ⟨M', a1, a2⟩ := s_ah2L (s := s) (z - (s + (i + 1))) (i + 1) (f - (z - (s + (i + 1))) - 1) M1 (by omega) (by omega) h1
        rw [show z - (s + (i + 1)) + 1 + (f - (z - (s + (i + 1))) - 1) = f by omega] at a1
        refine ⟨M', ?_, a2⟩
        rw [if_pos (show (6 : Int32) ≤ nI i from nI_le (a := 6) (by omega) (by omega)), if_pos (show (6 : Int32) ≤ nI i from nI_le (a := 6) (by omega) (by omega)), nI_1, nI_1]
        exact a1
      by_cases q : L0 = -1
      · have f1 : FR Wa2 M (zsI M 355 12 (nI (s + i))) := (FR.rf _ M).sI (by unfold Wa2; omega)
        obtain ⟨M', a1, a2⟩ := rest (zsI M 355 12 (nI (s + i))) (h.fr f1 (by unfold Wa2; omega) (fun _ => by unfold Wa2; omega))
        rw [if_pos (show (6 : Int32) ≤ nI i from nI_le (a := 6) (by omega) (by omega)), if_pos (show (6 : Int32) ≤ nI i from nI_le (a := 6) (by omega) (by omega))] at a1
        refine ⟨M', ?_, f1.tr (a2.mo (fun a j q => by unfold Wa2; omega)), ?_, fun _ => ?_, fun q => absurd ⟨c.1, rfl⟩ q⟩
        · dsimp only
          rw [if_pos q, b_i, if_pos (show (6 : Int32) ≤ nI i from nI_le (a := 6) (by omega) (by omega)), if_pos (show (6 : Int32) ≤ nI i from nI_le (a := 6) (by omega) (by omega))]
          exact a1
        · rw [a2.I (by omega), zI_sn _ _ (by omega)]
        · rw [a2.I (by omega), zI_se, if_pos q]
      · obtain ⟨M', a1, a2⟩ := rest M h
        rw [if_pos (show (6 : Int32) ≤ nI i from nI_le (a := 6) (by omega) (by omega)), if_pos (show (6 : Int32) ≤ nI i from nI_le (a := 6) (by omega) (by omega))] at a1
        refine ⟨M', ?_, a2.mo (fun a j q => by unfold Wa2; omega), a2.I (by omega), fun _ => ?_, fun q => absurd ⟨c.1, rfl⟩ q⟩
        · dsimp only
          rw [if_neg q, if_pos (show (6 : Int32) ≤ nI i from nI_le (a := 6) (by omega) (by omega)), if_pos (show (6 : Int32) ≤ nI i from nI_le (a := 6) (by omega) (by omega))]
          exact a1
        · rw [a2.I (by omega), h12, if_neg q]
    · refine ⟨_, ?_, stop i M h h12 h7 c⟩
      rw [show 0 + 1 + f = f + 1 by omega, f_X12_ahead_204, h.2.2.1]
      by_cases c1 : z ≤ s + i
      · exact ip (nI_le c1 (by omega)) rfl
      · obtain ⟨t1, t2, t3, t4⟩ := h.at (show s + i < z by omega)
        rw [if_neg (nI_ge (show s + i < z by omega) (by omega)), if_neg (show ¬ (1 : Int32) = 0 by decide), t1, b_i, t2, b_i, t3, m_isL (by omega), b_i, show isL (b (s + i)) = false from Bool.eq_false_iff.mpr (fun q => c ⟨by omega, q⟩)]
        exact ip rfl rfl
  | succ e ih =>
    intro i f M hi hsz hf h h12 h7 hL
    have hz := h.2.1
    by_cases c : s + i < z ∧ isL (b (s + i)) = true
    · obtain ⟨t1, t2, t3, t4⟩ := h.at c.1
      have hx := isL_iff.mp c.2
      have hr : rl isL b z (e + 1) (s + i) = rl isL b z e (s + i + 1) + 1 := by rw [rl, if_pos c]
      have ew : lN (pk8 (lts b s i)) <<< ((8 : Int32).toInt64 &&& 63) ||| (nI (b (s + i))).toInt64 = lN (pk8 (lts b s (i + 1))) := by
        rw [show (8 : Int32) = nI 8 from rfl, lN_shl _ (by decide), nI_i2l (by omega), lN_or, shl8 t4, lts, pk8_s, show b (s + i) - 96 + 96 = b (s + i) by omega]
      have f1 : FR Wa2 M (zsL M 355 7 (lN (pk8 (lts b s (i + 1))))) := (FR.rf _ M).sL (by unfold Wa2; omega)
      obtain ⟨M', a1, a2, a3, a4, a5⟩ := ih (i + 1) f (zsL M 355 7 (lN (pk8 (lts b s (i + 1))))) (by omega) (by omega) (by omega) (h.fr f1 (by unfold Wa2; omega) (fun _ => by unfold Wa2; omega)) h12 (zL_se _ _ _ _) (fun k hk => by
        by_cases q : k = i
        · rw [q]; exact c.2
        · exact hL k (by omega))
      rw [show i + 1 + rl isL b z e (s + (i + 1)) = i + (rl isL b z e (s + i + 1) + 1) by rw [show s + (i + 1) = s + i + 1 by omega]; omega] at a4 a5
      rw [hr]
      refine ⟨M', ?_, f1.tr a2, a3, a4, a5⟩
      rw [show e + 1 + 1 + f = (e + 1 + f) + 1 by omega, f_X12_ahead_204, h.2.2.1, if_neg (nI_ge c.1 (by omega)), if_neg (show ¬ (1 : Int32) = 0 by decide), t1, b_i, t2, b_i, t3, m_isL (by omega), b_i, c.2]
      rw [if_neg (show ¬ b01 true = 0 by decide)]
      unfold f_X12_ahead_243 f_X12_ahead_263 f_X12_ahead_293 f_X12_ahead_325
      rw [if_neg (show ¬ nI i = (6 : Int32) from fun q => by have := (nI_eq (b := 6) (by omega) (by decide)).mp q; omega), if_neg (show ¬ (6 : Int32) ≤ nI i from nI_ge (b := 6) (by omega) (by decide)), if_neg (show ¬ (1 : Int32) = 0 by decide)]
      dsimp only
      rw [t1, b_i, t2, b_i, h7, t3, ew, b_i, if_neg (show ¬ (6 : Int32) ≤ nI i from nI_ge (b := 6) (by omega) (by decide)), if_pos (show (0 : Int32) = 0 from rfl), nI_1, nI_1]
      rw [show s + (i + 1) = s + i + 1 by omega] at a1
      exact a1
    · have hr : rl isL b z (e + 1) (s + i) = 0 := by rw [rl, if_neg c]
      rw [hr, Nat.add_zero]
      refine ⟨_, ?_, stop i M h h12 h7 c⟩
      rw [show e + 1 + 1 + f = (e + 1 + f) + 1 by omega, f_X12_ahead_204, h.2.2.1]
      by_cases c1 : z ≤ s + i
      · exact ip (nI_le c1 (by omega)) rfl
      · obtain ⟨t1, t2, t3, t4⟩ := h.at (show s + i < z by omega)
        rw [if_neg (nI_ge (show s + i < z by omega) (by omega)), if_neg (show ¬ (1 : Int32) = 0 by decide), t1, b_i, t2, b_i, t3, m_isL (by omega), b_i, show isL (b (s + i)) = false from Bool.eq_false_iff.mpr (fun q => c ⟨by omega, q⟩)]
        exact ip rfl rfl
theorem s_ah1D {b : Nat → Nat} {z s : Nat} {L0 : Int32} (hs : s < z) : ∀ e i f M, i + e = 4 → s + i ≤ z → 2000 ≤ f → MTx M b z → zI M 355 12 = L0 → zI M 355 6 = nI (nvl b s i) → (∀ k, k < i → isDg (b (s + k)) = true) → ∃ M', f_X12_ahead_204 355 (e + 1 + f) (nI (s + i)) 0 1 4 (nI i) M = some M' ∧ FR Wa2 M M' ∧ (s + (i + rl isDg b z e (s + i)) < z ∧ isDg (b (s + (i + rl isDg b z e (s + i)))) = true → zI M' 355 12 = if L0 = -1 then nI (s + (i + rl isDg b z e (s + i))) else L0) ∧ (¬ (s + (i + rl isDg b z e (s + i)) < z ∧ isDg (b (s + (i + rl isDg b z e (s + i)))) = true) → zI M' 355 12 = L0 ∧ zI M' 355 5 = nI (s + (i + rl isDg b z e (s + i))) ∧ zI M' 355 6 = nI (nvl b s (i + rl isDg b z e (s + i)))) := by
  have stop : ∀ i M, MTx M b z → zI M 355 12 = L0 → zI M 355 6 = nI (nvl b s i) → ¬ (s + i < z ∧ isDg (b (s + i)) = true) → FR Wa2 M (zsI M 355 5 (nI (s + i))) ∧ (s + i < z ∧ isDg (b (s + i)) = true → zI (zsI M 355 5 (nI (s + i))) 355 12 = if L0 = -1 then nI (s + i) else L0) ∧ (¬ (s + i < z ∧ isDg (b (s + i)) = true) → zI (zsI M 355 5 (nI (s + i))) 355 12 = L0 ∧ zI (zsI M 355 5 (nI (s + i))) 355 5 = nI (s + i) ∧ zI (zsI M 355 5 (nI (s + i))) 355 6 = nI (nvl b s i)) := fun i M h h12 h7 hn =>
    ⟨(FR.rf _ M).sI (by unfold Wa2; omega), fun q => absurd q hn, fun _ => ⟨(zI_sn _ _ (by omega)).trans h12, zI_se _ _ _ _, (zI_sn _ _ (by omega)).trans h7⟩⟩
  intro e
  induction e with
  | zero =>
    intro i f M hi hsz hf h h12 h7 hL
    have hz := h.2.1
    rw [show i + rl isDg b z 0 (s + i) = i from rfl]
    by_cases c : s + i < z ∧ isDg (b (s + i)) = true
    · obtain ⟨t1, t2, t3, t4⟩ := h.at c.1
      have i6 : i = 4 := by omega
      rw [show 0 + 1 + f = f + 1 by omega, f_X12_ahead_204, h.2.2.1, if_neg (nI_ge c.1 (by omega)), if_pos (show (0 : Int32) = 0 from rfl), t1, b_i, t2, b_i, t3, m_isD (by omega), b_i, c.2]
      rw [if_neg (show ¬ b01 true = 0 by decide)]
      unfold f_X12_ahead_243 f_X12_ahead_263 f_X12_ahead_293 f_X12_ahead_325
      rw [if_pos (show nI i = (4 : Int32) by rw [i6]; rfl), h12]
      have rest : ∀ M1, MTx M1 b z → ∃ M', (if (4 : Int32) ≤ nI i then (if (4 : Int32) ≤ nI i then f_X12_ahead_204 355 f (nI (s + i) + 1) 0 1 4 (nI i + 1) M1 else none) else none) = some M' ∧ FR (fun a j => a = 355 ∧ j = 5) M1 M' := fun M1 h1 => by
        obtain ⟨M', a1, a2⟩ := s_ah2D (s := s) (z - (s + (i + 1))) (i + 1) (f - (z - (s + (i + 1))) - 1) M1 (by omega) (by omega) h1
        rw [show z - (s + (i + 1)) + 1 + (f - (z - (s + (i + 1))) - 1) = f by omega] at a1
        refine ⟨M', ?_, a2⟩
        rw [if_pos (show (4 : Int32) ≤ nI i from nI_le (a := 4) (by omega) (by omega)), if_pos (show (4 : Int32) ≤ nI i from nI_le (a := 4) (by omega) (by omega)), nI_1, nI_1]
        exact a1
      by_cases q : L0 = -1
      · have f1 : FR Wa2 M (zsI M 355 12 (nI (s + i))) := (FR.rf _ M).sI (by unfold Wa2; omega)
        obtain ⟨M', a1, a2⟩ := rest (zsI M 355 12 (nI (s + i))) (h.fr f1 (by unfold Wa2; omega) (fun _ => by unfold Wa2; omega))
        rw [if_pos (show (4 : Int32) ≤ nI i from nI_le (a := 4) (by omega) (by omega)), if_pos (show (4 : Int32) ≤ nI i from nI_le (a := 4) (by omega) (by omega))] at a1
        refine ⟨M', ?_, f1.tr (a2.mo (fun a j q => by unfold Wa2; omega)), fun _ => ?_, fun q => absurd ⟨c.1, rfl⟩ q⟩
        · dsimp only
          rw [if_pos q, b_i, if_pos (show (4 : Int32) ≤ nI i from nI_le (a := 4) (by omega) (by omega)), if_pos (show (4 : Int32) ≤ nI i from nI_le (a := 4) (by omega) (by omega))]
          exact a1
        · rw [a2.I (by omega), zI_se, if_pos q]
      · obtain ⟨M', a1, a2⟩ := rest M h
        rw [if_pos (show (4 : Int32) ≤ nI i from nI_le (a := 4) (by omega) (by omega)), if_pos (show (4 : Int32) ≤ nI i from nI_le (a := 4) (by omega) (by omega))] at a1
        refine ⟨M', ?_, a2.mo (fun a j q => by unfold Wa2; omega), fun _ => ?_, fun q => absurd ⟨c.1, rfl⟩ q⟩
        · dsimp only
          rw [if_neg q, if_pos (show (4 : Int32) ≤ nI i from nI_le (a := 4) (by omega) (by omega)), if_pos (show (4 : Int32) ≤ nI i from nI_le (a := 4) (by omega) (by omega))]
          exact a1
        · rw [a2.I (by omega), h12, if_neg q]
    · refine ⟨_, ?_, stop i M h h12 h7 c⟩
      rw [show 0 + 1 + f = f + 1 by omega, f_X12_ahead_204, h.2.2.1]
      by_cases c1 : z ≤ s + i
      · exact ip (nI_le c1 (by omega)) rfl
      · obtain ⟨t1, t2, t3, t4⟩ := h.at (show s + i < z by omega)
        rw [if_neg (nI_ge (show s + i < z by omega) (by omega)), if_pos (show (0 : Int32) = 0 from rfl), t1, b_i, t2, b_i, t3, m_isD (by omega), b_i, show isDg (b (s + i)) = false from Bool.eq_false_iff.mpr (fun q => c ⟨by omega, q⟩)]
        exact ip rfl rfl
  | succ e ih =>
    intro i f M hi hsz hf h h12 h7 hL
    have hz := h.2.1
    by_cases c : s + i < z ∧ isDg (b (s + i)) = true
    · obtain ⟨t1, t2, t3, t4⟩ := h.at c.1
      have hx := isDg_iff.mp c.2
      have hr : rl isDg b z (e + 1) (s + i) = rl isDg b z e (s + i + 1) + 1 := by rw [rl, if_pos c]
      have ew : (10 : Int32) * nI (nvl b s i) + nI (b (s + i)) - 48 = nI (nvl b s (i + 1)) := by
        rw [show (10 : Int32) = nI 10 from rfl, pk_mul, nI_add, show (48 : Int32) = nI 48 from rfl, pk_sub (by omega), nvl]
        congr 1; omega
      have f1 : FR Wa2 M (zsI M 355 6 (nI (nvl b s (i + 1)))) := (FR.rf _ M).sI (by unfold Wa2; omega)
      obtain ⟨M', a1, a2, a4, a5⟩ := ih (i + 1) f (zsI M 355 6 (nI (nvl b s (i + 1)))) (by omega) (by omega) (by omega) (h.fr f1 (by unfold Wa2; omega) (fun _ => by unfold Wa2; omega)) ((zI_sn _ _ (by omega)).trans h12) (zI_se _ _ _ _) (fun k hk => by
        by_cases q : k = i
        · rw [q]; exact c.2
        · exact hL k (by omega))
      rw [show i + 1 + rl isDg b z e (s + (i + 1)) = i + (rl isDg b z e (s + i + 1) + 1) by rw [show s + (i + 1) = s + i + 1 by omega]; omega] at a4 a5
      rw [hr]
      refine ⟨M', ?_, f1.tr a2, a4, a5⟩
      rw [show e + 1 + 1 + f = (e + 1 + f) + 1 by omega, f_X12_ahead_204, h.2.2.1, if_neg (nI_ge c.1 (by omega)), if_pos (show (0 : Int32) = 0 from rfl), t1, b_i, t2, b_i, t3, m_isD (by omega), b_i, c.2]
      rw [if_neg (show ¬ b01 true = 0 by decide)]
      unfold f_X12_ahead_243 f_X12_ahead_263 f_X12_ahead_293 f_X12_ahead_325
      rw [if_neg (show ¬ nI i = (4 : Int32) from fun q => by have := (nI_eq (b := 4) (by omega) (by decide)).mp q; omega), if_neg (show ¬ (4 : Int32) ≤ nI i from nI_ge (b := 4) (by omega) (by decide)), if_pos (show (0 : Int32) = 0 from rfl), if_neg (show ¬ (4 : Int32) ≤ nI i from nI_ge (b := 4) (by omega) (by decide)), if_neg (show ¬ (1 : Int32) = 0 by decide)]
      dsimp only
      rw [t1, b_i, t2, b_i, h7, t3, ew, b_i, nI_1, nI_1]
      rw [show s + (i + 1) = s + i + 1 by omega] at a1
      exact a1
    · have hr : rl isDg b z (e + 1) (s + i) = 0 := by rw [rl, if_neg c]
      rw [hr, Nat.add_zero]
      refine ⟨_, ?_, stop i M h h12 h7 c⟩
      rw [show e + 1 + 1 + f = (e + 1 + f) + 1 by omega, f_X12_ahead_204, h.2.2.1]
      by_cases c1 : z ≤ s + i
      · exact ip (nI_le c1 (by omega)) rfl
      · obtain ⟨t1, t2, t3, t4⟩ := h.at (show s + i < z by omega)
        rw [if_neg (nI_ge (show s + i < z by omega) (by omega)), if_pos (show (0 : Int32) = 0 from rfl), t1, b_i, t2, b_i, t3, m_isD (by omega), b_i, show isDg (b (s + i)) = false from Bool.eq_false_iff.mpr (fun q => c ⟨by omega, q⟩)]
        exact ip rfl rfl
