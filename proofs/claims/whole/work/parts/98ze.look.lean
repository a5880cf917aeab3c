/-! chip: the class looks at what comes next -/
def CTx (M : Mem) (b : Nat → Nat) (z : Nat) : Prop := WRc M ∧ z ≤ 1600 ∧ zI M 353 3 = nI z ∧ (∀ k, k < z → zI M 1 k = nI (b k) ∧ b k < 256) ∧ OWN M ∧ zI M 353 4 = 0
def Wlk6 (a j : Nat) : Prop := a = 353 ∧ 6 ≤ j ∧ j ≤ 11
theorem CTx.fr {W : Nat → Nat → Prop} {M M1 : Mem} {b : Nat → Nat} {z : Nat} (h : CTx M b z) (f : FR W M M1) (h1 : ¬ W 353 3 ∧ ¬ W 353 4) (h2 : ∀ j, ¬ W 1 j) (h3 : ∀ j, ¬ W 354 j) : CTx M1 b z := ⟨f.W h.1, h.2.1, (f.I h1.1).trans h.2.2.1, fun k hk => ⟨(f.I (h2 k)).trans (h.2.2.2.1 k hk).1, (h.2.2.2.1 k hk).2⟩, fun i hi => (f.I (h3 i)).trans (h.2.2.2.2.1 i hi), (f.I h1.2).trans h.2.2.2.2.2⟩
theorem CTx.lo {M M1 : Mem} {b : Nat → Nat} {z : Nat} (h : CTx M b z) (f : FR Wlk6 M M1) : CTx M1 b z := h.fr f (by unfold Wlk6; omega) (fun _ => by unfold Wlk6; omega) (fun _ => by unfold Wlk6; omega)
theorem s_isL {x : Nat} (hx : x < 2 ^ 31) (M : Mem) : f_X6_isLetter (nI x) M = some (b01 (isL x), M) := by
  unfold f_X6_isLetter f_X6_isLetter_16 f_X6_isLetter_17 isL
  by_cases c1 : x < 97
  · rw [if_pos (show nI x < (97 : Int32) from nI_lt (b := 97) c1 (by decide)), zbz0, decide_eq_false (by omega)]; rfl
  · rw [if_neg (show ¬ nI x < (97 : Int32) from nI_nlt (b := 97) (by omega) hx)]
    by_cases c2 : 122 < x
    · rw [if_pos (show (122 : Int32) < nI x from nI_lt (a := 122) c2 hx), zbz0, decide_eq_false (by omega)]; rfl
    · rw [if_neg (show ¬ (122 : Int32) < nI x from nI_nlt (a := 122) (by omega) (by decide)), zbz1, decide_eq_true (by omega)]; rfl
theorem s_isD {x : Nat} (hx : x < 2 ^ 31) (M : Mem) : f_X6_isDigit (nI x) M = some (b01 (isDg x), M) := by
  unfold f_X6_isDigit f_X6_isDigit_16 f_X6_isDigit_17 isDg
  by_cases c1 : x < 48
  · rw [if_pos (show nI x < (48 : Int32) from nI_lt (b := 48) c1 (by decide)), zbz0, decide_eq_false (by omega)]; rfl
  · rw [if_neg (show ¬ nI x < (48 : Int32) from nI_nlt (b := 48) (by omega) hx)]
    by_cases c2 : 57 < x
    · rw [if_pos (show (57 : Int32) < nI x from nI_lt (a := 57) c2 hx), zbz0, decide_eq_false (by omega)]; rfl
    · rw [if_neg (show ¬ (57 : Int32) < nI x from nI_nlt (a := 57) (by omega) (by decide)), zbz1, decide_eq_true (by omega)]; rfl
def tkI (t : Tok) : Int32 := if tK t = 0 then -1 else if tK t = 1 then -2 else if tK t = 2 then -3 else if tK t = 3 then nI (tV t) else -4
def tBd (t : Tok) : Nat := if tK t = 4 then tV t else tS t
def TC (M : Mem) (t : Tok) : Prop := zI M 353 7 = nI (tS t) ∧ zI M 353 6 = tkI t ∧ zI M 353 8 = nI (tBd t) ∧ (tK t ≤ 3 → zI M 353 9 = nI (tN t)) ∧ (tK t = 1 → zI M 353 10 = nI (pk5 (tL t)) ∧ zI M 353 11 = owv (tL t)) ∧ (tK t = 2 → zI M 353 10 = nI (tV t))
theorem k56 : ∀ n, n < 7 → ((5 : Int32) * (6 - nI n)) = nI (5 * (6 - n)) := by decide
theorem s_packed {l : List Nat} (hl : l.length ≤ 6) (M : Mem) : f_X6_packed (nI (v5 l)) (nI l.length) M = some (nI (pk5 l), M) := by
  unfold f_X6_packed f_X6_packed_18
  rw [pk5_v]
  by_cases q : l.length = 6
  · rw [if_pos (show (6 : Int32) ≤ nI l.length from nI_le (a := 6) (by omega) (by omega)), q, Nat.sub_self, Nat.pow_zero, Nat.mul_one]
  · rw [if_neg (show ¬ (6 : Int32) ≤ nI l.length from nI_ge (b := 6) (by omega) (by decide)), k56 _ (by omega), nI_shl _ (by omega), Nat.shiftLeft_eq, Nat.pow_mul]
theorem shl5 {a x : Nat} (hx : x < 32) : a <<< 5 ||| x = a * 32 + x := by
  have := Nat.shiftLeft_add_eq_or_of_lt (i := 5) hx a
  rw [← this, Nat.shiftLeft_eq]
theorem CTx.at {M : Mem} {b : Nat → Nat} {z k : Nat} (h : CTx M b z) (hk : k < z) : zrf M 353 1 = some 1 ∧ zld 1 (nI k) = some k ∧ zI M 1 k = nI (b k) ∧ b k < 256 := ⟨w353_1 h.1, zl_at 1600 rfl (by have := h.2.1; omega) (by decide), h.2.2.2.1 k hk⟩
theorem s_lw7 {M : Mem} {b : Nat → Nat} {z s : Nat} (h : CTx M b z) (h7 : zI M 353 7 = nI s) (hs : s < z) : ∀ e i f, i + e = 6 → (∀ k, k < i → isL (b (s + k)) = true) → f_X6_lookAtWord_7 353 (e + 1 + f) (nI (s + i)) (nI (v5 (lts b s i))) M = f_X6_lookAtWord_60 353 (nI (s + (i + rl isL b z e (s + i)))) (nI (v5 (lts b s (i + rl isL b z e (s + i))))) M := by
  have hz := h.2.1
  intro e
  induction e with
  | zero =>
    intro i f hi hL
    rw [show 0 + 1 + f = f + 1 by omega, f_X6_lookAtWord_7, h.2.2.1]
    show _ = f_X6_lookAtWord_60 353 (nI (s + (i + 0))) (nI (v5 (lts b s (i + 0)))) M
    rw [Nat.add_zero]
    by_cases c : z ≤ s + i
    · exact ip (nI_le c (by omega)) rfl
    · obtain ⟨t1, t2, t3, t4⟩ := h.at (show s + i < z by omega)
      refine im (nI_ge (by omega) (by omega)) ?_
      rw [t1, b_i, t2, b_i, t3, s_isL (by omega), b_i]
      dsimp only
      cases isL (b (s + i))
      · exact ip rfl rfl
      · refine im (by decide) ?_
        rw [h7, pk_sub (by omega), show s + i - s = 6 by omega]
        exact ip (by decide) rfl
  | succ e ih =>
    intro i f hi hL
    rw [show e + 1 + 1 + f = (e + 1 + f) + 1 by omega, f_X6_lookAtWord_7, h.2.2.1]
    by_cases c : z ≤ s + i
    · have hr : rl isL b z (e + 1) (s + i) = 0 := by rw [rl, if_neg (by omega)]
      rw [hr, Nat.add_zero]
      exact ip (nI_le c (by omega)) rfl
    · obtain ⟨t1, t2, t3, t4⟩ := h.at (show s + i < z by omega)
      refine im (nI_ge (by omega) (by omega)) ?_
      rw [t1, b_i, t2, b_i, t3, s_isL (by omega), b_i]
      dsimp only
      cases hq : isL (b (s + i)) with
      | false =>
        have hr : rl isL b z (e + 1) (s + i) = 0 := by rw [rl, if_neg (by rw [hq]; intro q; exact absurd q.2 (by decide))]
        rw [hr, Nat.add_zero]
        exact ip rfl rfl
      | true =>
        have hx := isL_iff.mp hq
        have hr : rl isL b z (e + 1) (s + i) = rl isL b z e (s + i + 1) + 1 := by rw [rl, if_pos ⟨by omega, hq⟩]
        rw [hr]
        refine im (by decide) ?_
        rw [h7, pk_sub (by omega), show s + i - s = i by omega]
        refine im (nI_ge (b := 6) (by omega) (by decide)) ?_
        have := ih (i + 1) f (by omega) (fun k hk => by
          by_cases q : k = i
          · rw [q]; exact hq
          · exact hL k (by omega))
        rw [show s + (i + 1) = s + i + 1 by omega, show i + 1 + rl isL b z e (s + i + 1) = i + (rl isL b z e (s + i + 1) + 1) by omega, show v5 (lts b s (i + 1)) = v5 (lts b s i) * 32 + (b (s + i) - 96) from v5_s _ _] at this
        rw [t1, b_i, t2, b_i, t3, b_i, show (5 : Int32) = nI 5 from rfl, nI_shl _ (by decide), show (97 : Int32) = nI 97 from rfl, pk_sub (by omega), nI_1, nI_1, nI_or, show b (s + i) - 97 + 1 = b (s + i) - 96 by omega, shl5 (by omega)]
        exact this
theorem s_own {l : List Nat} (hl : NM l) : ∀ e i f M, i + e = 27 → WRc M → OWN M → zI M 353 10 = nI (pk5 l) → zI M 353 11 = (if owi l < i then nI (owi l) else -1) → ∃ M', f_X6_lookAtWord_118 353 (e + 1 + f) (nI i) M = some M' ∧ FR (fun a j => a = 353 ∧ j = 11) M M' ∧ zI M' 353 11 = owv l := by
  intro e
  induction e with
  | zero =>
    intro i f M hi hW hO h10 h11
    have hi : i = 27 := by omega
    subst hi
    refine ⟨M, ?_, FR.rf _ M, h11⟩
    rw [show 0 + 1 + f = f + 1 by omega, f_X6_lookAtWord_118]
    exact ip (by decide) rfl
  | succ e ih =>
    intro i f M hi hW hO h10 h11
    have hp := (pk5_at hl (k := 0) (by decide)).2
    have hq := (pk5_at (ow_NM (show i < 27 by omega)) (k := 0) (by decide)).2
    rw [show e + 1 + 1 + f = (e + 1 + f) + 1 by omega, f_X6_lookAtWord_118]
    unfold f_X6_lookAtWord_142
    rw [if_neg (show ¬ (27 : Int32) ≤ nI i from nI_ge (b := 27) (by omega) (by decide)), w353_0 hW, b_i, zl_at 27 rfl (by omega) (by decide), b_i, hO i (by omega), h10]
    by_cases c : owi l = i
    · have f1 : FR (fun a j => a = 353 ∧ j = 11) M (zsI M 353 11 (nI i)) := (FR.rf (fun a j => a = 353 ∧ j = 11) M).sI ⟨rfl, rfl⟩
      obtain ⟨M', a1, a2, a3⟩ := ih (i + 1) f (zsI M 353 11 (nI i)) (by omega) (f1.W hW) (fun k hk => (f1.I (by omega)).trans (hO k hk)) ((f1.I (by omega)).trans h10) (by rw [zI_se, if_pos (by omega), c])
      refine ⟨M', ?_, f1.tr a2, a3⟩
      rw [if_pos (by rw [(owi_eq (by omega)).mp c]), b_i, nI_1]
      exact a1
    · obtain ⟨M', a1, a2, a3⟩ := ih (i + 1) f M (by omega) hW hO h10 (by
        rw [h11]
        by_cases q : owi l < i
        · rw [if_pos q, if_pos (by omega)]
        · rw [if_neg q, if_neg (by omega)])
      refine ⟨M', ?_, a2, a3⟩
      rw [if_neg (fun z => c ((owi_eq (by omega)).mpr (pk5_inj hl (ow_NM (by omega)) ((nI_eq (by omega) (by omega)).mp z).symm))), nI_1]
      exact a1
theorem s_lw102 {M : Mem} {b : Nat → Nat} {z s n : Nat} (h : CTx M b z) (hl : NM (lts b s n)) (h7 : zI M 353 7 = nI s) (h11 : zI M 353 11 = -1) : ∃ M', f_X6_lookAtWord_102 353 (nI (s + n)) (nI (v5 (lts b s n))) M = some M' ∧ FR (fun a j => a = 353 ∧ 10 ≤ j ∧ j ≤ 11) M M' ∧ zI M' 353 10 = nI (pk5 (lts b s n)) ∧ zI M' 353 11 = owv (lts b s n) := by
  have hn := lts_len b s n
  have f1 : FR (fun a j => a = 353 ∧ 10 ≤ j ∧ j ≤ 11) M (zsI M 353 10 (nI (pk5 (lts b s n)))) := (FR.rf (fun a j => a = 353 ∧ 10 ≤ j ∧ j ≤ 11) M).sI (by omega)
  obtain ⟨M', a1, a2, a3⟩ := s_own hl 27 0 (1000000 - 28) (zsI M 353 10 (nI (pk5 (lts b s n)))) (by omega) (f1.W h.1) (fun k hk => (f1.I (by omega)).trans (h.2.2.2.2.1 k hk)) (zI_se _ _ _ _) (by rw [zI_sn _ _ (by omega), h11, if_neg (by omega)])
  refine ⟨M', ?_, f1.tr (a2.mo (fun a j q => by omega)), (a2.I (by omega)).trans (zI_se _ _ _ _), a3⟩
  unfold f_X6_lookAtWord_102
  rw [h7, pk_sub (by omega), show s + n - s = (lts b s n).length by omega, s_packed hl.2.1, b_i, b_i]
  exact a1
theorem s_lword {M : Mem} {b : Nat → Nat} {z s : Nat} (h : CTx M b z) (h7 : zI M 353 7 = nI s) (h8 : zI M 353 8 = nI s) (h11 : zI M 353 11 = -1) (hs : s < z) (hL : isL (b s) = true) : ∃ M', f_X6_lookAtWord 353 M = some M' ∧ FR Wlk6 M M' ∧ TC M' (if s + rl isL b z 6 s < z ∧ isL (b (s + rl isL b z 6 s)) = true then (4, s, s + 1, s + rl isL b z 6 s, []) else (1, s, s + rl isL b z 6 s, 0, lts b s (rl isL b z 6 s))) := by
  have hz := h.2.1
  have w := s_lw7 h h7 hs 6 0 (1000000 - 7) (by omega) (fun k hk => absurd hk (by omega))
  rw [show 6 + 1 + (1000000 - 7) = 1000000 from rfl, Nat.add_zero, Nat.zero_add] at w
  have r1 := rl_le isL b z 6 s
  have r2 : 1 ≤ rl isL b z 6 s := by rw [rl, if_pos ⟨hs, hL⟩]; omega
  revert w r1 r2
  generalize rl isL b z 6 s = n
  intro w ⟨r3, r4, r5⟩ r2
  have hl : NM (lts b s n) := ⟨by rw [lts_len]; omega, by rw [lts_len]; omega, lts_NM n r5⟩
  have f1 : FR Wlk6 M (zsI (zsI M 353 6 (-2)) 353 9 (nI (s + n))) := ((FR.rf _ M).sI (by unfold Wlk6; omega)).sI (by unfold Wlk6; omega)
  have e6 : zI (zsI (zsI M 353 6 (-2)) 353 9 (nI (s + n))) 353 6 = -2 := by rw [zI_sn _ _ (by omega), zI_se]
  have e9 : zI (zsI (zsI M 353 6 (-2)) 353 9 (nI (s + n))) 353 9 = nI (s + n) := zI_se _ _ _ _
  have ex : ∀ j, ¬ j = 6 → ¬ j = 9 → zI (zsI (zsI M 353 6 (-2)) 353 9 (nI (s + n))) 353 j = zI M 353 j := fun j a c => by rw [zI_sn _ _ (by omega), zI_sn _ _ (by omega)]
  unfold f_X6_lookAtWord
  rw [h7, show (0 : Int32) = nI (v5 (lts b s 0)) from rfl, w]
  unfold f_X6_lookAtWord_60
  rw [b_i, b_i]
  revert f1 e6 e9 ex
  generalize zsI (zsI M 353 6 (-2)) 353 9 (nI (s + n)) = M1
  intro f1 e6 e9 ex
  have h1 := h.lo f1
  by_cases c : s + n < z ∧ isL (b (s + n)) = true
  · obtain ⟨t1, t2, t3, t4⟩ := h1.at c.1
    have g1 : FR Wlk6 M1 (zsI (zsI M1 353 6 (-4)) 353 8 (nI (s + n))) := ((FR.rf _ M1).sI (by unfold Wlk6; omega)).sI (by unfold Wlk6; omega)
    obtain ⟨M', a1, a2, -⟩ := s_lw102 (n := n) (h1.lo g1) hl (by rw [zI_sn _ _ (by omega), zI_sn _ _ (by omega), ex 7 (by omega) (by omega)]; exact h7) (by rw [zI_sn _ _ (by omega), zI_sn _ _ (by omega), ex 11 (by omega) (by omega)]; exact h11)
    refine ⟨M', ?_, (f1.tr g1).tr (a2.mo (fun a j q => by unfold Wlk6; omega)), ?_⟩
    · rw [h1.2.2.1]
      refine im (nI_ge c.1 (by omega)) ?_
      rw [t1, b_i, t2, b_i, t3, s_isL (by omega), b_i, c.2]
      refine im b01_n0 ?_
      dsimp only
      rw [b_i, b_i]
      exact a1
    · rw [if_pos c]
      refine ⟨?_, ?_, ?_, fun q => absurd q (by show ¬ (4 : Nat) ≤ 3; decide), fun q => absurd q (by show ¬ (4 : Nat) = 1; decide), fun q => absurd q (by show ¬ (4 : Nat) = 2; decide)⟩
      · rw [a2.I (by omega), zI_sn _ _ (by omega), zI_sn _ _ (by omega), ex 7 (by omega) (by omega)]; exact h7
      · rw [a2.I (by omega), zI_sn _ _ (by omega), zI_se]; rfl
      · rw [a2.I (by omega), zI_se]; rfl
  · obtain ⟨M', a1, a2, a3, a4⟩ := s_lw102 (n := n) h1 hl ((ex 7 (by omega) (by omega)).trans h7) ((ex 11 (by omega) (by omega)).trans h11)
    refine ⟨M', ?_, f1.tr (a2.mo (fun a j q => by unfold Wlk6; omega)), ?_⟩
    · rw [h1.2.2.1]
      by_cases c1 : z ≤ s + n
      · exact ip (nI_le c1 (by omega)) a1
      · obtain ⟨t1, t2, t3, t4⟩ := h1.at (show s + n < z by omega)
        refine im (nI_ge (by omega) (by omega)) ?_
        rw [t1, b_i, t2, b_i, t3, s_isL (by omega), b_i, show isL (b (s + n)) = false from Bool.eq_false_iff.mpr (fun q => c ⟨by omega, q⟩)]
        exact ip rfl a1
    · rw [if_neg c]
      refine ⟨?_, ?_, ?_, fun _ => ?_, fun _ => ⟨a3, a4⟩, fun q => absurd q (by show ¬ (1 : Nat) = 2; decide)⟩
      · rw [a2.I (by omega), ex 7 (by omega) (by omega)]; exact h7
      · rw [a2.I (by omega), e6]; rfl
      · rw [a2.I (by omega), ex 8 (by omega) (by omega)]; exact h8
      · rw [a2.I (by omega), e9]; rfl
