/-! the rest by a generator, over numbers -/
def red (g c : Nat) : Nat → Nat → Nat
  | 0, w => w
  | n + 1, w => red g c n (if w.testBit (c + n) then w ^^^ (g <<< n) else w)
theorem red_lo (g c : Nat) : ∀ n w l, l < 2 ^ c → red g c n (w ^^^ l) = red g c n w ^^^ l := by
  intro n
  induction n with
  | zero => intro w l _; rfl
  | succ n ih =>
    intro w l hl
    have hb : (w ^^^ l).testBit (c + n) = w.testBit (c + n) := by
      rw [Nat.testBit_xor, Nat.testBit_lt_two_pow (Nat.lt_of_lt_of_le hl (Nat.pow_le_pow_right (by decide) (Nat.le_add_right c n))), Bool.xor_false]
    show red g c n (if (w ^^^ l).testBit (c + n) then _ else _) = red g c n (if w.testBit (c + n) then _ else _) ^^^ l
    rw [hb]
    by_cases hw : w.testBit (c + n) = true
    · rw [if_pos hw, if_pos hw, ← ih _ _ hl]
      refine congrArg (red g c n) ?_
      rw [Nat.xor_assoc, Nat.xor_assoc, Nat.xor_comm l]
    · rw [if_neg hw, if_neg hw, ih _ _ hl]
theorem lt_bit {w k : Nat} (h : w < 2 ^ (k + 1)) (hb : w.testBit k = false) : w < 2 ^ k := by
  refine Nat.lt_pow_two_of_testBit _ (fun i hi => ?_)
  by_cases he : i = k
  · rw [he]; exact hb
  · exact Nat.testBit_lt_two_pow (Nat.lt_of_lt_of_le h (Nat.pow_le_pow_right (by decide) (by omega)))
theorem red_lt {g c : Nat} (hg : g < 2 ^ (c + 1)) (hgc : g.testBit c = true) : ∀ n w, w < 2 ^ (c + n) → red g c n w < 2 ^ c := by
  intro n
  induction n with
  | zero => intro w hw; exact hw
  | succ n ih =>
    intro w hw
    refine ih _ ?_
    by_cases hb : w.testBit (c + n) = true
    · rw [if_pos hb]
      have h2 : g <<< n < 2 ^ (c + n + 1) := by
        rw [Nat.shiftLeft_eq, show c + n + 1 = c + 1 + n by omega, Nat.pow_add 2 (c + 1) n]
        exact Nat.mul_lt_mul_of_pos_right hg (Nat.pow_pos (by decide))
      refine lt_bit (Nat.xor_lt_two_pow hw h2) ?_
      rw [Nat.testBit_xor, hb, Nat.testBit_shiftLeft, show c + n - n = c by omega, hgc]
      simp
    · rw [if_neg hb]
      exact lt_bit hw (by simpa using hb)
theorem red_more {g c : Nat} (hg : g < 2 ^ (c + 1)) : ∀ d n w, w < 2 ^ (c + n) → red g c (n + d) w = red g c n w := by
  intro d
  induction d with
  | zero => intro n w _; rfl
  | succ d ih =>
    intro n w hw
    show red g c (n + d) (if w.testBit (c + (n + d)) then _ else w) = _
    rw [Nat.testBit_lt_two_pow (Nat.lt_of_lt_of_le hw (Nat.pow_le_pow_right (by decide) (by omega)))]
    exact ih n w hw
theorem sy_more {m p : Nat} (w j : Nat) : ∀ d n, w < 2 ^ n → sy m p (n + d) w j = sy m p n w j := by
  intro d
  induction d with
  | zero => intro n _; rfl
  | succ d ih =>
    intro n hw
    show sy m p (n + d) w j ^^^ (if w.testBit (n + d) then _ else 0) = _
    rw [Nat.testBit_lt_two_pow (Nat.lt_of_lt_of_le hw (Nat.pow_le_pow_right (by decide) (by omega))), ih n hw]
    exact Nat.xor_zero _
theorem sy_shl {m p : Nat} (h : (m, p) ∈ fPR) (w j n : Nat) : ∀ k, sy m p (n + k) (w <<< n) j = fmul m p (fpw m p (n * j)) (sy m p k w j) := by
  intro k
  induction k with
  | zero =>
    have : ∀ i, i ≤ n → sy m p i (w <<< n) j = 0 := by
      intro i
      induction i with
      | zero => intro _; rfl
      | succ i ih =>
        intro hi
        show sy m p i (w <<< n) j ^^^ (if (w <<< n).testBit i then _ else 0) = 0
        rw [ih (by omega), Nat.testBit_shiftLeft, decide_eq_false (show ¬ i ≥ n by omega)]
        exact Nat.xor_self 0
    rw [Nat.add_zero, this n (Nat.le_refl n)]
    exact (fmul_r0 _).symm
  | succ k ih =>
    show sy m p (n + k) (w <<< n) j ^^^ (if (w <<< n).testBit (n + k) then fpw m p ((n + k) * j) else 0) = fmul m p _ (sy m p k w j ^^^ (if w.testBit k then fpw m p (k * j) else 0))
    have hl : (if w.testBit k then fpw m p (k * j) else 0) < 2 ^ m := by
      by_cases hk : w.testBit k
      · rw [if_pos hk]; exact (f_pos h _).2
      · rw [if_neg hk]; exact Nat.pow_pos (by decide)
    rw [fmul_add h (f_pos h _).2 (sy_lt h) hl, ih, Nat.testBit_shiftLeft, Nat.add_sub_cancel_left, decide_eq_true (show n + k ≥ n by omega), Bool.true_and]
    by_cases hk : w.testBit k
    · rw [if_pos hk, if_pos hk, fmul_pw h, Nat.add_mul]
    · rw [if_neg hk, if_neg hk, fmul_r0]
theorem red_sy {m p g c j : Nat} (h : (m, p) ∈ fPR) (hg : g < 2 ^ (c + 1)) (hj : sy m p (c + 1) g j = 0) {N : Nat} : ∀ n w, c + n ≤ N → sy m p N (red g c n w) j = sy m p N w j := by
  intro n
  induction n with
  | zero => intro w _; rfl
  | succ n ih =>
    intro w hn
    show sy m p N (red g c n (if w.testBit (c + n) then _ else w)) j = _
    rw [ih _ (by omega)]
    by_cases hb : w.testBit (c + n) = true
    · rw [if_pos hb, sy_xor]
      obtain ⟨d, rfl⟩ := Nat.exists_eq_add_of_le hn
      have e : sy m p (n + (c + 1 + d)) (g <<< n) j = 0 := by
        rw [sy_shl h, sy_more g j d (c + 1) hg, hj]
        exact fmul_r0 _
      rw [show c + (n + 1) + d = n + (c + 1 + d) by omega, e]
      exact Nat.xor_zero _
    · rw [if_neg hb]
/-- a word made by its rest has no syndromes -/
theorem sy_word {m p g c j : Nat} (h : (m, p) ∈ fPR) (hg : g < 2 ^ (c + 1)) (hgc : g.testBit c = true) (hj : sy m p (c + 1) g j = 0) {n w : Nat} (hw : w < 2 ^ (c + n)) : sy m p (c + n) (w ^^^ red g c n w) j = 0 := by
  rw [sy_xor, red_sy h hg hj n w (Nat.le_refl _)]
  exact Nat.xor_self _
