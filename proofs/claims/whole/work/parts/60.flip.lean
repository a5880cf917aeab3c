/-! cells turned: their word, its syndromes -/
theorem sy_0 (m p n j : Nat) : sy m p n 0 j = 0 := by
  unfold sy
  induction n with
  | zero => rfl
  | succ n ih => show xs n _ ^^^ (if (0 : Nat).testBit n then _ else 0) = 0; rw [ih, Nat.zero_testBit]; exact Nat.xor_self 0
theorem sy_xs (m p n j L : Nat) (f : Nat → Nat) : sy m p n (xs L f) j = xs L (fun i => sy m p n (f i) j) := by
  induction L with
  | zero => exact sy_0 m p n j
  | succ L ih => show sy m p n (xs L f ^^^ f L) j = xs L _ ^^^ sy m p n (f L) j; rw [sy_xor, ih]
theorem sy_bit0 (m p j k : Nat) : ∀ n, n ≤ k → sy m p n (2 ^ k) j = 0 := by
  intro n
  induction n with
  | zero => intro _; rfl
  | succ n ih =>
    intro hn
    show sy m p n (2 ^ k) j ^^^ (if (2 ^ k).testBit n then _ else 0) = 0
    rw [ih (by omega), Nat.testBit_two_pow, decide_eq_false (show ¬ k = n by omega)]
    exact Nat.xor_self 0
theorem sy_bit (m p j k : Nat) : ∀ n, k < n → sy m p n (2 ^ k) j = fpw m p (k * j) := by
  intro n
  induction n with
  | zero => intro h; exact absurd h (Nat.not_lt_zero _)
  | succ n ih =>
    intro hn
    show sy m p n (2 ^ k) j ^^^ (if (2 ^ k).testBit n then fpw m p (n * j) else 0) = _
    rw [Nat.testBit_two_pow]
    by_cases he : k = n
    · rw [decide_eq_true he, if_pos rfl, sy_bit0 m p j k n (by omega), Nat.zero_xor, he]
    · rw [decide_eq_false he, ih (by omega)]; exact Nat.xor_zero _
theorem xs_bits (e : Nat) : ∀ n, e < 2 ^ n → xs n (fun k => if e.testBit k then 2 ^ k else 0) = e := by
  have key : ∀ n i, (xs n (fun k => if e.testBit k then 2 ^ k else 0)).testBit i = (decide (i < n) && e.testBit i) := by
    intro n
    induction n with
    | zero => intro i; show (0 : Nat).testBit i = _; rw [Nat.zero_testBit]; rfl
    | succ n ih =>
      intro i
      show (xs n _ ^^^ (if e.testBit n then 2 ^ n else 0)).testBit i = _
      rw [Nat.testBit_xor, ih]
      by_cases he : i = n
      · subst he
        cases hb : e.testBit i
        · simp
        · simp [Nat.testBit_two_pow]
      · have h1 : (if e.testBit n then 2 ^ n else 0).testBit i = false := by
          cases hb : e.testBit n
          · simp
          · simp [Nat.testBit_two_pow]; omega
        rw [h1, Bool.xor_false]
        by_cases hl : i < n
        · rw [decide_eq_true hl, decide_eq_true (show i < n + 1 by omega)]
        · rw [decide_eq_false hl, decide_eq_false (show ¬ i < n + 1 by omega)]
  intro n hn
  refine Nat.eq_of_testBit_eq (fun i => ?_)
  rw [key]
  by_cases hl : i < n
  · rw [decide_eq_true hl, Bool.true_and]
  · rw [Nat.testBit_lt_two_pow (Nat.lt_of_lt_of_le hn (Nat.pow_le_pow_right (by decide) (by omega))), Bool.and_false]
/-- the cells of a word, turned one by one, are the word -/
theorem flips_eq {e n : Nat} (he : e < 2 ^ n) : xs (fps n (fun k => e.testBit k)).length (fun i => 2 ^ lg (fps n (fun k => e.testBit k)) i) = e := by
  rw [← xs_fps n (fun k => e.testBit k) (fun k => 2 ^ k)]
  exact xs_bits e n he
/-- what is turned has the sum of its cells for syndrome -/
theorem sy_flips {m p n N j : Nat} (P : Nat → Bool) (h : ∀ k, k < N → P k = true → k < n) : sy m p n (xs (fps N P).length (fun i => 2 ^ lg (fps N P) i)) j = xs N (fun k => if P k then fpw m p (k * j) else 0) := by
  rw [sy_xs, xs_fps N P (fun k => fpw m p (k * j))]
  refine xs_ext _ (fun i hi => ?_)
  have e := fps_get N P i hi
  exact sy_bit m p j _ n (h _ e.1 e.2)
