/-! words: the model's count of bits -/
theorem pop_0 : ∀ n, pop n 0 = 0 := by
  intro n
  induction n with
  | zero => rfl
  | succ n ih => show 0 % 2 + pop n (0 / 2) = 0; rw [Nat.zero_div, ih]
theorem pop_more (d : Nat) : ∀ n x, x < 2 ^ n → pop (n + d) x = pop n x := by
  intro n
  induction n with
  | zero => intro x hx; rw [show x = 0 by omega, pop_0, pop_0]
  | succ n ih =>
    intro x hx
    rw [show n + 1 + d = (n + d) + 1 by omega]
    show x % 2 + pop (n + d) (x / 2) = x % 2 + pop n (x / 2)
    rw [ih (x / 2) (by rw [Nat.pow_succ] at hx; omega)]
theorem lc_00 : lg_cmp (lN 0) 0 ≤ 0 := by decide
theorem lc_y0 {y : Nat} (hy : y < 2 ^ 63) (h0 : ¬ y = 0) : ¬ lg_cmp (lN y) 0 ≤ 0 := fun h => h0 (Nat.le_zero.mp ((pk_lLE (a := y) (b := 0) hy (by decide)).mp ((lg_cmp_le _ _).mp h)))
theorem s_onesOf_l (y0 : Int64) (M : Mem) : ∀ n f c y, y < 2 ^ n → n ≤ 63 → f_X12_onesOf_4 y0 (n + 1 + f) (nI c) (lN y) M = some (nI (c + pop n y), M) := by
  intro n
  induction n with
  | zero =>
    intro f c y hy _
    rw [show y = 0 by omega, show 0 + 1 + f = f + 1 by omega]
    unfold f_X12_onesOf_4
    rw [if_pos lc_00, pop_0]
    rfl
  | succ n ih =>
    intro f c y hy hn
    have hy2 : y < 2 ^ 63 := Nat.lt_of_lt_of_le hy (Nat.pow_le_pow_right (by decide) hn)
    rw [show n + 1 + 1 + f = (n + 1 + f) + 1 by omega]
    unfold f_X12_onesOf_4
    by_cases h0 : y = 0
    · subst h0
      rw [if_pos lc_00, pop_0]
      rfl
    · rw [if_neg (lc_y0 hy2 h0)]
      have e1 : (lN y &&& 1).toInt32 = nI (y % 2) := by
        rw [show (1 : Int64) = lN 1 from rfl, lN_and, lN_i, Nat.and_one_is_mod]
      have e2 : lN y >>> ((1 : Int32).toInt64 &&& 63) = lN (y / 2) := by
        rw [show (1 : Int32) = nI 1 from rfl, lN_shr hy2 (by decide), Nat.shiftRight_eq_div_pow]
      rw [e1, e2, nI_add, ih f (c + y % 2) (y / 2) (by rw [Nat.pow_succ] at hy; omega) (by omega)]
      show some (nI (c + y % 2 + pop n (y / 2)), M) = some (nI (c + (y % 2 + pop n (y / 2))), M)
      rw [Nat.add_assoc]
theorem s_onesOf {y : Nat} (hy : y < 2 ^ 63) (M : Mem) : f_X12_onesOf (lN y) M = some (nI (pop 64 y), M) := by
  unfold f_X12_onesOf
  have e := s_onesOf_l (lN y) M 63 999936 0 y hy (Nat.le_refl _)
  rw [Nat.zero_add] at e
  rw [show (64 : Nat) = 63 + 1 from rfl, pop_more 1 63 y hy]
  exact e
