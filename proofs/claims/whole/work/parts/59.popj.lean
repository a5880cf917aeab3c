/-! the JDK's count of bits -/
theorem dv_eq {a q r s : Nat} (h : a = r + q * s) (hr : r < q) : a / q = s := by
  rw [h, Nat.add_mul_div_left _ _ (Nat.lt_of_le_of_lt (Nat.zero_le _) hr), Nat.div_eq_of_lt hr, Nat.zero_add]
theorem pv_fold {v d0 d1 d2 d3 d4 d5 d6 d7 : Nat} (hv : v = d0 + 256 * (d1 + 256 * (d2 + 256 * (d3 + 256 * (d4 + 256 * (d5 + 256 * (d6 + 256 * d7))))))) (b0 : d0 ≤ 8) (b1 : d1 ≤ 8) (b2 : d2 ≤ 8) (b3 : d3 ≤ 8) (b4 : d4 ≤ 8) (b5 : d5 ≤ 8) (b6 : d6 ≤ 8) (b7 : d7 ≤ 8) : (v + v / 256 + (v + v / 256) / 65536 + (v + v / 256 + (v + v / 256) / 65536) / 4294967296) % 128 = d0 + (d1 + (d2 + (d3 + (d4 + (d5 + (d6 + d7)))))) := by
  rw [dv_eq (a := v) (q := 256) hv (by omega)]
  rw [dv_eq (a := v + _) (q := 65536) (r := (d0 + d1) + 256 * (d1 + d2)) (s := (d2 + d3) + 256 * (d3 + d4) + 65536 * (d4 + d5) + 16777216 * (d5 + d6) + 4294967296 * (d6 + d7) + 1099511627776 * d7) (by rw [hv]; omega) (by omega)]
  rw [dv_eq (q := 4294967296) (r := (d0 + d1 + d2 + d3) + 256 * (d1 + d2 + d3 + d4) + 65536 * (d2 + d3 + d4 + d5) + 16777216 * (d3 + d4 + d5 + d6)) (s := (d4 + d5 + d6 + d7) + 256 * (d5 + d6 + d7) + 65536 * (d6 + d7) + 16777216 * d7) (by rw [hv]; omega) (by omega)]
  rw [hv]
  omega
theorem pop_le : ∀ n x, pop n x ≤ n := by
  intro n
  induction n with
  | zero => intro x; exact Nat.le_refl 0
  | succ n ih => intro x; have := ih (x / 2); show x % 2 + pop n (x / 2) ≤ n + 1; omega
theorem pv_1 (n x : Nat) : pv (n + 1) x = pop 8 (x % 256) + 256 * pv n (x / 256) := by
  have := pv_s n (x % 256) (x / 256) (Nat.mod_lt _ (by decide))
  rw [← this, Nat.mod_add_div]
theorem pop_1 (n x : Nat) : pop (8 + n) x = pop 8 (x % 256) + pop n (x / 256) := by
  have := pop_sp (x % 256) (x / 256) n 8 (Nat.mod_lt _ (by decide))
  rw [← this, show (2 : Nat) ^ 8 = 256 from rfl, Nat.mod_add_div]
theorem pv_lt : ∀ n x, pv n x < 256 ^ n := by
  intro n
  induction n with
  | zero => intro x; show (_ &&& 0) < 1; rw [Nat.and_zero]; decide
  | succ n ih =>
    intro x
    rw [pv_1]
    have h1 := ih (x / 256)
    have h2 := pop_le 8 (x % 256)
    rw [Nat.pow_succ]
    omega
theorem pv_0 (x : Nat) : pv 0 x = 0 := Nat.and_zero _
theorem pv_pop {x : Nat} : (pv 8 x + pv 8 x / 256 + (pv 8 x + pv 8 x / 256) / 65536 + (pv 8 x + pv 8 x / 256 + (pv 8 x + pv 8 x / 256) / 65536) / 4294967296) % 128 = pop 64 x := by
  rw [pv_fold (v := pv 8 x) (d0 := pop 8 (x % 256)) (d1 := pop 8 (x / 256 % 256)) (d2 := pop 8 (x / 256 / 256 % 256)) (d3 := pop 8 (x / 256 / 256 / 256 % 256)) (d4 := pop 8 (x / 256 / 256 / 256 / 256 % 256)) (d5 := pop 8 (x / 256 / 256 / 256 / 256 / 256 % 256)) (d6 := pop 8 (x / 256 / 256 / 256 / 256 / 256 / 256 % 256)) (d7 := pop 8 (x / 256 / 256 / 256 / 256 / 256 / 256 / 256 % 256)) (by rw [pv_1, pv_1, pv_1, pv_1, pv_1, pv_1, pv_1, pv_1, pv_0, Nat.mul_zero, Nat.add_zero]) (pop_le _ _) (pop_le _ _) (pop_le _ _) (pop_le _ _) (pop_le _ _) (pop_le _ _) (pop_le _ _) (pop_le _ _)]
  rw [show (64 : Nat) = 8 + 56 from rfl, pop_1, show (56 : Nat) = 8 + 48 from rfl, pop_1, show (48 : Nat) = 8 + 40 from rfl, pop_1, show (40 : Nat) = 8 + 32 from rfl, pop_1, show (32 : Nat) = 8 + 24 from rfl, pop_1, show (24 : Nat) = 8 + 16 from rfl, pop_1, show (16 : Nat) = 8 + 8 from rfl, pop_1]
  have e := pop_1 0 (x / 256 / 256 / 256 / 256 / 256 / 256 / 256)
  rw [show pop 0 (x / 256 / 256 / 256 / 256 / 256 / 256 / 256 / 256) = 0 from rfl, Nat.add_zero, Nat.add_zero] at e
  rw [e]
theorem zl_ush {n k : Nat} (q : Nat) (hq : 2 ^ k = q) (hn : n < 2 ^ 64) (hk : k < 64) : zlush (lN n) (nI k) = lN (n / q) := by rw [lN_ush hn hk, Nat.shiftRight_eq_div_pow, hq]
theorem pM51 : pM 51 8 = 3689348814741910323 := by decide
theorem pM85 : pM 85 8 = 6148914691236517205 := by decide
theorem pM15 : pM 15 8 = 1085102592571150095 := by decide
theorem sb_1 {x : Nat} (hx : x < 2 ^ 64) : lN x - (zlush (lN x) (nI 1) &&& lN 6148914691236517205) = lN (p1 8 x) := by
  rw [zl_ush 2 (by decide) hx (by decide), lN_and, lN_sub (Nat.le_trans Nat.and_le_left (Nat.div_le_self _ _))]
  unfold p1; rw [pM85]
theorem sb_2 {y : Nat} (hy : y < 2 ^ 64) : (lN y &&& lN 3689348814741910323) + (zlush (lN y) (nI 2) &&& lN 3689348814741910323) = lN (p2 8 y) := by
  rw [zl_ush 4 (by decide) hy (by decide), lN_and, lN_and, lN_add]
  unfold p2; rw [pM51]
theorem sb_2l (y : Nat) : p2 8 y < 2 ^ 63 := by
  unfold p2; rw [pM51]
  have a1 : (y &&& 3689348814741910323) ≤ 3689348814741910323 := Nat.and_le_right
  have a2 : ((y / 4) &&& 3689348814741910323) ≤ 3689348814741910323 := Nat.and_le_right
  omega
theorem sb_3 {z : Nat} (hz : z < 2 ^ 63) : (lN z + zlush (lN z) (nI 4)) &&& lN 1085102592571150095 = lN (p3 8 z) := by
  rw [zl_ush 16 (by decide) (by omega) (by decide), lN_add, lN_and]
  unfold p3; rw [pM15]
theorem sb_3l (z : Nat) : p3 8 z ≤ 1085102592571150095 := by
  unfold p3; rw [pM15]
  exact Nat.and_le_right
theorem sb_4 {v : Nat} (hv : v ≤ 1085102592571150095) (M : Mem) : f_J13_bitCount_95d88_33 (lN v) M = some (nI ((v + v / 256 + (v + v / 256) / 65536 + (v + v / 256 + (v + v / 256) / 65536) / 4294967296) % 128), M) := by
  unfold f_J13_bitCount_95d88_33
  rw [show (8 : Int32) = nI 8 from rfl, zl_ush 256 (by decide) (by omega) (by decide), lN_add]
  unfold f_J13_bitCount_95d88_42
  rw [show (16 : Int32) = nI 16 from rfl, zl_ush 65536 (by decide) (by omega) (by decide), lN_add, show (32 : Int32) = nI 32 from rfl, zl_ush 4294967296 (by decide) (by omega) (by decide), lN_add, b_i]
  unfold f_J13_bitCount_95d88_60
  rw [lN_i, show (127 : Int32) = nI 127 from rfl, nI_and, Nat.and_two_pow_sub_one_eq_mod _ 7]
theorem sb_5 {y : Nat} (hy : y < 2 ^ 64) (M : Mem) : f_J13_bitCount_95d88_14 (lN y) (lN y) (lN 3689348814741910323) M = f_J13_bitCount_95d88_33 (lN (p3 8 (p2 8 y))) M := by
  unfold f_J13_bitCount_95d88_14
  rw [show (3689348814741910323 : Int64) = lN 3689348814741910323 from rfl, show (2 : Int32) = nI 2 from rfl, sb_2 hy, b_i, show (4 : Int32) = nI 4 from rfl, show (1085102592571150095 : Int64) = lN 1085102592571150095 from rfl, sb_3 (sb_2l y)]
theorem s_bitCount {x : Nat} (hx : x < 2 ^ 64) (M : Mem) : f_J13_bitCount_95d88 (lN x) M = some (nI (pop 64 x), M) := by
  unfold f_J13_bitCount_95d88
  rw [show (6148914691236517205 : Int64) = lN 6148914691236517205 from rfl, show (1 : Int32) = nI 1 from rfl, sb_1 hx, b_i, show (3689348814741910323 : Int64) = lN 3689348814741910323 from rfl, sb_5 (y := p1 8 x) (Nat.lt_of_le_of_lt (Nat.sub_le _ _) hx), sb_4 (sb_3l _)]
  have := pv_pop (x := x)
  unfold pv at this
  rw [this]
