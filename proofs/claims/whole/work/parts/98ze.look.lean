/-! chip: the class looks at what comes next -/
def CTx (M : Mem) (b : Nat → Nat) (z : Nat) : Prop := WRc M ∧ z ≤ 1600 ∧ zI M 353 3 = nI z ∧ (∀ k, k < z → zI M 1 k = nI (b k) ∧ b k < 256) ∧ OWN M ∧ zI M 353 4 = 0
def Wlk6 (a j : Nat) : Prop := a = 353 ∧ 6 ≤ j ∧ j ≤ 11
theorem CTx.fr {W : Nat → Nat → Prop} {M M1 : Mem} {b : Nat → Nat} {z : Nat} (h : CTx M b z) (f : FR W M M1) (h1 : ¬ W 353 3 ∧ ¬ W 353 4) (h2 : ∀ j, ¬ W 1 j) (h3 : ∀ j, ¬ W 354 j) : CTx M1 b z := ⟨f.W h.1, h.2.1, (f.I h1.1).trans h.2.2.1, fun k hk => ⟨(f.I (h2 k)).trans (h.2.2.2.1 k hk).1, (h.2.2.2.1 k hk).2⟩, fun i hi => (f.I (h3 i)).trans (h.2.2.2.2.1 i hi), (f.I h1.2).trans h.2.2.2.2.2⟩
theorem CTx.lo {M M1 : Mem} {b : Nat → Nat} {z : Nat} (h : CTx M b z) (f : FR Wlk6 M M1) : CTx M1 b z := h.fr f (by unfold Wlk6; omega) (fun _ => by unfold Wlk6; omega) (fun _ => by unfold Wlk6; omega)
theorem s_isL {x : Nat} (hx : x < 2 ^ 31) (M : Mem) : f_X6_isLetter (nI x) M = some (b01 (isL x), M) := by
  unfold f_X6_isLetter f_X6_isLetter_16 f_X6_isLetter_17 isL
  by_cases c1 : x < 97
  · rw [if_pos (show nI x < (97 : Int32) from nI_lt (b := 97) c1 (by decide)), zbz0, decide_eq_false (by omega)]; rfl
  · rw [if_neg (show ¬ nI x < (97 : Int32) from nI_nlt (b := 97) (by omega) hx)]
    by_cases c2 : 122 < x
    · rw [if_pos (show (122 : Int32) < nI x from nI_lt (a := 122) c2 hx), zbz0, decide_eq_false (by omega)]; rfl
    · rw [if_neg (show ¬ (122 : Int32) < nI x from nI_nlt (a := 122) (by omega) (by decide)), zbz1, decide_eq_true (by omega)]; rfl
theorem s_isD {x : Nat} (hx : x < 2 ^ 31) (M : Mem) : f_X6_isDigit (nI x) M = some (b01 (isDg x), M) := by
  unfold f_X6_isDigit f_X6_isDigit_16 f_X6_isDigit_17 isDg
  by_cases c1 : x < 48
  · rw [if_pos (show nI x < (48 : Int32) from nI_lt (b := 48) c1 (by decide)), zbz0, decide_eq_false (by omega)]; rfl
  · rw [if_neg (show ¬ nI x < (48 : Int32) from nI_nlt (b := 48) (by omega) hx)]
    by_cases c2 : 57 < x
    · rw [if_pos (show (57 : Int32) < nI x from nI_lt (a := 57) c2 hx), zbz0, decide_eq_false (by omega)]; rfl
    · rw [if_neg (show ¬ (57 : Int32) < nI x from nI_nlt (a := 57) (by omega) (by decide)), zbz1, decide_eq_true (by omega)]; rfl
def tkI (t : Tok) : Int32 := if tK t = 0 then -1 else if tK t = 1 then -2 else if tK t = 2 then -3 else if tK t = 3 then nI (tV t) else -4
def tBd (t : Tok) : Nat := if tK t = 4 then tV t else tS t
def TC (M : Mem) (t : Tok) : Prop := zI M 353 7 = nI (tS t) ∧ zI M 353 6 = tkI t ∧ zI M 353 8 = nI (tBd t) ∧ (tK t ≤ 3 → zI M 353 9 = nI (tN t)) ∧ (tK t = 1 → zI M 353 10 = nI (pk5 (tL t)) ∧ zI M 353 11 = owv (tL t)) ∧ (tK t = 2 → zI M 353 10 = nI (tV t))
theorem k56 : ∀ n, n < 7 → ((5 : Int32) * (6 - nI n)) = nI (5 * (6 - n)) := by decide
theorem shl5 {a x : Nat} (hx : x < 32) : a <<< 5 ||| x = a * 32 + x := by
  have := Nat.shiftLeft_add_eq_or_of_lt (i := 5) hx a
  rw [← this, Nat.shiftLeft_eq]
theorem CTx.at {M : Mem} {b : Nat → Nat} {z k : Nat} (h : CTx M b z) (hk : k < z) : zrf M 353 1 = some 1 ∧ zld 1 (nI k) = some k ∧ zI M 1 k = nI (b k) ∧ b k < 256 := ⟨w353_1 h.1, zl_at 1600 rfl (by have := h.2.1; omega) (by decide), h.2.2.2.1 k hk⟩
theorem l96 : ∀ x, x < 256 → ((nI x - 97 + 1 < (1 : Int32)) ↔ x < 97) ∧ ((nI x - 97 + 1 ≤ (26 : Int32)) ↔ x ≤ 122) := by decide +kernel
theorem l48 : ∀ x, x < 256 → ((nI x - 48 < (0 : Int32)) ↔ x < 48) ∧ ((nI x - 48 ≤ (9 : Int32)) ↔ x ≤ 57) := by decide +kernel
theorem rl_s (P : Nat → Bool) (b : Nat → Nat) (z : Nat) : ∀ e a, (a + rl P b z e a < z ∧ P (b (a + rl P b z e a)) = true → rl P b z e a = e ∧ rl P b z (e + 1) a = e + 1) ∧ (¬ (a + rl P b z e a < z ∧ P (b (a + rl P b z e a)) = true) → rl P b z (e + 1) a = rl P b z e a) := by
  intro e
  induction e with
  | zero =>
    intro a
    have r0 : rl P b z 0 a = 0 := rfl
    have r1 : rl P b z (0 + 1) a = if a < z ∧ P (b a) = true then rl P b z 0 (a + 1) + 1 else 0 := rfl
    rw [r0, r1, Nat.add_zero]
    exact ⟨fun c => ⟨rfl, by rw [if_pos c]; rfl⟩, fun c => by rw [if_neg c]⟩
  | succ e ih =>
    intro a
    have r1 : rl P b z (e + 1) a = if a < z ∧ P (b a) = true then rl P b z e (a + 1) + 1 else 0 := rfl
    have r2 : rl P b z (e + 1 + 1) a = if a < z ∧ P (b a) = true then rl P b z (e + 1) (a + 1) + 1 else 0 := rfl
    by_cases c : a < z ∧ P (b a) = true
    · rw [if_pos c] at r1 r2
      obtain ⟨h1, h2⟩ := ih (a + 1)
      rw [r2, r1, show a + (rl P b z e (a + 1) + 1) = a + 1 + rl P b z e (a + 1) by omega]
      exact ⟨fun q => ⟨congrArg (· + 1) (h1 q).1, congrArg (· + 1) (h1 q).2⟩, fun q => congrArg (· + 1) (h2 q)⟩
    · rw [if_neg c] at r1 r2
      rw [r2, r1, Nat.add_zero]
      exact ⟨fun q => absurd q c, fun _ => rfl⟩
theorem s_lw7 {b : Nat → Nat} {z s : Nat} (hs : s < z) : ∀ e i f M, i + e = 7 → CTx M b z → zI M 353 10 = nI (v5 (lts b s i)) → ∃ M', f_X6_lookAtWord_7 353 (e + 1 + f) (nI i) (nI (s + i)) M = f_X6_lookAtWord_68 353 (nI (i + rl isL b z e (s + i))) M' ∧ FR (fun a j => a = 353 ∧ j = 10) M M' ∧ zI M' 353 10 = nI (v5 (lts b s (i + rl isL b z e (s + i)))) := by
  intro e
  induction e with
  | zero =>
    intro i f M hi h h10
    have hz := h.2.1
    refine ⟨M, ?_, FR.rf _ M, h10⟩
    rw [show 0 + 1 + f = f + 1 by omega, f_X6_lookAtWord_7, h.2.2.1, show i + rl isL b z 0 (s + i) = i from rfl]
    by_cases c : z ≤ s + i
    · exact ip (nI_le c (by omega)) rfl
    · refine im (nI_ge (by omega) (by omega)) ?_
      exact ip (show (6 : Int32) < nI i from nI_lt (a := 6) (by omega) (by omega)) rfl
  | succ e ih =>
    intro i f M hi h h10
    have hz := h.2.1
    rw [show e + 1 + 1 + f = (e + 1 + f) + 1 by omega, f_X6_lookAtWord_7, h.2.2.1]
    by_cases c : z ≤ s + i
    · have hr : rl isL b z (e + 1) (s + i) = 0 := by rw [rl, if_neg (by omega)]
      rw [hr, Nat.add_zero]
      exact ⟨M, ip (nI_le c (by omega)) rfl, FR.rf _ M, h10⟩
    · obtain ⟨t1, t2, t3, t4⟩ := h.at (show s + i < z by omega)
      obtain ⟨l1, l2⟩ := l96 (b (s + i)) t4
      rw [if_neg (nI_ge (show s + i < z by omega) (by omega)), if_neg (show ¬ (6 : Int32) < nI i from nI_nlt (a := 6) (by omega) (by decide)), t1, b_i, t2, b_i, t3]
      cases hq : isL (b (s + i)) with
      | false =>
        have hr : rl isL b z (e + 1) (s + i) = 0 := by rw [rl, if_neg (by rw [hq]; intro q; exact absurd q.2 (by decide))]
        have hn := of_decide_eq_false hq
        rw [hr, Nat.add_zero]
        refine ⟨M, ?_, FR.rf _ M, h10⟩
        by_cases q1 : b (s + i) < 97
        · exact ip (l1.mpr q1) rfl
        · refine im (fun x => q1 (l1.mp x)) ?_
          exact im (fun x => hn ⟨by omega, l2.mp x⟩) rfl
      | true =>
        have hx := isL_iff.mp hq
        have hr : rl isL b z (e + 1) (s + i) = rl isL b z e (s + i + 1) + 1 := by rw [rl, if_pos ⟨by omega, hq⟩]
        have f1 : ∀ v, FR (fun a j => a = 353 ∧ j = 10) M (zsI M 353 10 v) := fun v => (FR.rf (fun a j => a = 353 ∧ j = 10) M).sI ⟨rfl, rfl⟩
        have ev : nI (v5 (lts b s i)) <<< (5 &&& 31) ||| (nI (b (s + i)) - 97 + 1) = nI (v5 (lts b s (i + 1))) := by
          rw [show v5 (lts b s (i + 1)) = v5 (lts b s i) * 32 + (b (s + i) - 96) from v5_s _ _, show (5 : Int32) = nI 5 from rfl, nI_shl _ (by decide), show (97 : Int32) = nI 97 from rfl, pk_sub (by omega), nI_1, nI_or, show b (s + i) - 97 + 1 = b (s + i) - 96 by omega, shl5 (by omega)]
        obtain ⟨M', a1, a2, a3⟩ := ih (i + 1) f (zsI M 353 10 (nI (v5 (lts b s (i + 1))))) (by omega) (h.fr (f1 _) (by omega) (fun _ => by omega) (fun _ => by omega)) (zI_se _ _ _ _)
        rw [show s + (i + 1) = s + i + 1 by omega, show i + 1 + rl isL b z e (s + i + 1) = i + (rl isL b z e (s + i + 1) + 1) by omega] at a1 a3
        rw [hr]
        refine ⟨M', ?_, (f1 _).tr a2, a3⟩
        refine im (fun x => absurd (l1.mp x) (by omega)) ?_
        refine ip (l2.mpr hx.2) ?_
        rw [h10, ev, b_i, nI_1, nI_1]
        exact a1
theorem s_own {l : List Nat} (hl : NM l) : ∀ e i f M, i + e = 27 → WRc M → OWN M → zI M 353 10 = nI (pk5 l) → zI M 353 11 = (if owi l < i then nI (owi l) else -1) → ∃ M', f_X6_lookAtWord_125 353 (e + 1 + f) (nI i) M = some M' ∧ FR (fun a j => a = 353 ∧ j = 11) M M' ∧ zI M' 353 11 = owv l := by
  intro e
  induction e with
  | zero =>
    intro i f M hi hW hO h10 h11
    have hi : i = 27 := by omega
    subst hi
    refine ⟨M, ?_, FR.rf _ M, h11⟩
    rw [show 0 + 1 + f = f + 1 by omega, f_X6_lookAtWord_125]
    exact ip (by decide) rfl
  | succ e ih =>
    intro i f M hi hW hO h10 h11
    have hp := (pk5_at hl (k := 0) (by decide)).2
    have hq := (pk5_at (ow_NM (show i < 27 by omega)) (k := 0) (by decide)).2
    rw [show e + 1 + 1 + f = (e + 1 + f) + 1 by omega, f_X6_lookAtWord_125]
    unfold f_X6_lookAtWord_149
    rw [if_neg (show ¬ (27 : Int32) ≤ nI i from nI_ge (b := 27) (by omega) (by decide)), w353_0 hW, b_i, zl_at 27 rfl (by omega) (by decide), b_i, hO i (by omega), h10]
    by_cases c : owi l = i
    · have f1 : FR (fun a j => a = 353 ∧ j = 11) M (zsI M 353 11 (nI i)) := (FR.rf (fun a j => a = 353 ∧ j = 11) M).sI ⟨rfl, rfl⟩
      obtain ⟨M', a1, a2, a3⟩ := ih (i + 1) f (zsI M 353 11 (nI i)) (by omega) (f1.W hW) (fun k hk => (f1.I (by omega)).trans (hO k hk)) ((f1.I (by omega)).trans h10) (by rw [zI_se, if_pos (by omega), c])
      refine ⟨M', ?_, f1.tr a2, a3⟩
      rw [if_pos (by rw [(owi_eq (by omega)).mp c]), b_i, nI_1]
      exact a1
    · obtain ⟨M', a1, a2, a3⟩ := ih (i + 1) f M (by omega) hW hO h10 (by
        rw [h11]
        by_cases q : owi l < i
        · rw [if_pos q, if_pos (by omega)]
        · rw [if_neg q, if_neg (by omega)])
      refine ⟨M', ?_, a2, a3⟩
      rw [if_neg (fun z => c ((owi_eq (by omega)).mpr (pk5_inj hl (ow_NM (by omega)) ((nI_eq (by omega) (by omega)).mp z).symm))), nI_1]
      exact a1
theorem s_lw68 {M : Mem} {b : Nat → Nat} {z s n : Nat} (h : CTx M b z) (hl : NM (lts b s n)) (h7 : zI M 353 7 = nI s) (h8 : zI M 353 8 = nI s) (h10 : zI M 353 10 = nI (v5 (lts b s n))) (h11 : zI M 353 11 = -1) : ∃ M', f_X6_lookAtWord_68 353 (nI n) M = some M' ∧ FR Wlk6 M M' ∧ TC M' (1, s, s + n, 0, lts b s n) := by
  have hn := lts_len b s n
  have hn6 : n ≤ 6 := by have := hl.2.1; omega
  have ev : nI (v5 (lts b s n)) <<< (((5 : Int32) * (6 - nI n)) &&& 31) = nI (pk5 (lts b s n)) := by
    rw [k56 _ (by omega), nI_shl _ (by omega), Nat.shiftLeft_eq, pk5_v, hn, Nat.pow_mul]
  have f1 : FR Wlk6 M (zsI (zsI (zsI M 353 9 (nI (s + n))) 353 6 (-2)) 353 10 (nI (pk5 (lts b s n)))) := FR.sI (FR.sI (FR.sI (FR.rf _ M) (by unfold Wlk6; omega)) (by unfold Wlk6; omega)) (by unfold Wlk6; omega)
  have e10 : zI (zsI (zsI (zsI M 353 9 (nI (s + n))) 353 6 (-2)) 353 10 (nI (pk5 (lts b s n)))) 353 10 = nI (pk5 (lts b s n)) := zI_se _ _ _ _
  have e6 : zI (zsI (zsI (zsI M 353 9 (nI (s + n))) 353 6 (-2)) 353 10 (nI (pk5 (lts b s n)))) 353 6 = -2 := by rw [zI_sn _ _ (by omega), zI_se]
  have e9 : zI (zsI (zsI (zsI M 353 9 (nI (s + n))) 353 6 (-2)) 353 10 (nI (pk5 (lts b s n)))) 353 9 = nI (s + n) := by rw [zI_sn _ _ (by omega), zI_sn _ _ (by omega), zI_se]
  have ex : ∀ j, ¬ j = 6 → ¬ j = 9 → ¬ j = 10 → zI (zsI (zsI (zsI M 353 9 (nI (s + n))) 353 6 (-2)) 353 10 (nI (pk5 (lts b s n)))) 353 j = zI M 353 j := fun j a c d => by rw [zI_sn _ _ (by omega), zI_sn _ _ (by omega), zI_sn _ _ (by omega)]
  have w : f_X6_lookAtWord_68 353 (nI n) M = f_X6_lookAtWord_125 353 1000000 0 (zsI (zsI (zsI M 353 9 (nI (s + n))) 353 6 (-2)) 353 10 (nI (pk5 (lts b s n)))) := by
    unfold f_X6_lookAtWord_68
    rw [b_i, h7, nI_add, if_pos (show nI n ≤ (6 : Int32) from nI_le (b := 6) hn6 (by decide)), b_i, b_i, zI_sn _ _ (by omega), zI_sn _ _ (by omega), h10, ev]
  rw [w]
  revert f1 e10 e6 e9 ex
  generalize zsI (zsI (zsI M 353 9 (nI (s + n))) 353 6 (-2)) 353 10 (nI (pk5 (lts b s n))) = M1
  intro f1 e10 e6 e9 ex
  have h1 := h.lo f1
  obtain ⟨M', a1, a2, a3⟩ := s_own hl 27 0 (1000000 - 28) M1 (by omega) h1.1 h1.2.2.2.2.1 e10 (by rw [ex 11 (by omega) (by omega) (by omega), h11, if_neg (by omega)])
  refine ⟨M', a1, f1.tr (a2.mo (fun a j q => by unfold Wlk6; omega)), ?_, ?_, ?_, fun _ => ?_, fun _ => ⟨?_, a3⟩, fun q => absurd q (by show ¬ (1 : Nat) = 2; decide)⟩
  · rw [a2.I (by omega), ex 7 (by omega) (by omega) (by omega)]; exact h7
  · rw [a2.I (by omega), e6]; rfl
  · rw [a2.I (by omega), ex 8 (by omega) (by omega) (by omega)]; exact h8
  · rw [a2.I (by omega), e9]; rfl
  · rw [a2.I (by omega), e10]; rfl
theorem s_lword {M : Mem} {b : Nat → Nat} {z s : Nat} (h : CTx M b z) (h7 : zI M 353 7 = nI s) (h8 : zI M 353 8 = nI s) (h10 : zI M 353 10 = 0) (h11 : zI M 353 11 = -1) (hs : s < z) (hL : isL (b s) = true) : ∃ M', f_X6_lookAtWord 353 M = some M' ∧ FR Wlk6 M M' ∧ TC M' (if s + rl isL b z 6 s < z ∧ isL (b (s + rl isL b z 6 s)) = true then (4, s, s + 1, s + rl isL b z 6 s, []) else (1, s, s + rl isL b z 6 s, 0, lts b s (rl isL b z 6 s))) := by
  obtain ⟨M0, w, wa, w3⟩ := s_lw7 hs 7 0 (1000000 - 8) M (by omega) h h10
  rw [show 7 + 1 + (1000000 - 8) = 1000000 from rfl, Nat.add_zero, Nat.zero_add] at w
  rw [Nat.add_zero, Nat.zero_add] at w3
  have w2 : FR Wlk6 M M0 := wa.mo (fun a j q => by unfold Wlk6; omega)
  have i7 : zI M0 353 7 = nI s := (wa.I (by omega)).trans h7
  have i8 : zI M0 353 8 = nI s := (wa.I (by omega)).trans h8
  have i11 : zI M0 353 11 = -1 := (wa.I (by omega)).trans h11
  have w' : f_X6_lookAtWord 353 M = f_X6_lookAtWord_68 353 (nI (rl isL b z 7 s)) M0 := by
    unfold f_X6_lookAtWord
    rw [h7]
    exact w
  obtain ⟨k1, k2⟩ := rl_s isL b z 6 s
  rw [w']
  by_cases c : s + rl isL b z 6 s < z ∧ isL (b (s + rl isL b z 6 s)) = true
  · obtain ⟨k3, k4⟩ := k1 c
    have k4 : rl isL b z 7 s = 7 := k4
    rw [if_pos c, k3, k4]
    have g1 : FR Wlk6 M0 (zsI (zsI (zsI M0 353 9 (nI (s + 7))) 353 6 (-4)) 353 8 (nI (s + 6))) := FR.sI (FR.sI (FR.sI (FR.rf _ M0) (by unfold Wlk6; omega)) (by unfold Wlk6; omega)) (by unfold Wlk6; omega)
    refine ⟨zsI (zsI (zsI M0 353 9 (nI (s + 7))) 353 6 (-4)) 353 8 (nI (s + 6)), ?_, w2.tr g1, ?_, ?_, ?_, fun q => absurd q (by show ¬ (4 : Nat) ≤ 3; decide), fun q => absurd q (by show ¬ (4 : Nat) = 1; decide), fun q => absurd q (by show ¬ (4 : Nat) = 2; decide)⟩
    · unfold f_X6_lookAtWord_68
      rw [b_i, i7, nI_add, if_neg (show ¬ nI 7 ≤ (6 : Int32) by decide), b_i, b_i, zI_sn _ _ (by omega), zI_sn _ _ (by omega), i7, show (6 : Int32) = nI 6 from rfl, nI_add]
    · rw [zI_sn _ _ (by omega), zI_sn _ _ (by omega), zI_sn _ _ (by omega)]; exact i7
    · rw [zI_sn _ _ (by omega), zI_se]; rfl
    · rw [zI_se]; rfl
  · have k4 : rl isL b z 7 s = rl isL b z 6 s := k2 c
    have r1 := rl_le isL b z 6 s
    have r2 : 1 ≤ rl isL b z 6 s := by rw [rl, if_pos ⟨hs, hL⟩]; omega
    rw [if_neg c, k4]
    rw [k4] at w3
    revert w3 r1 r2
    generalize rl isL b z 6 s = n
    intro w3 ⟨r3, r4, r5⟩ r2
    have hl : NM (lts b s n) := ⟨by rw [lts_len]; omega, by rw [lts_len]; omega, lts_NM n r5⟩
    obtain ⟨M', a1, a2, a3⟩ := s_lw68 (h.lo w2) hl i7 i8 w3 i11
    exact ⟨M', a1, w2.tr a2, a3⟩
