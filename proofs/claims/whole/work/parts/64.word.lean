/-! words: whole -/
def wd (g c n d : Nat) : Nat := (d <<< c) ||| red g c n (d <<< c)
theorem shl_lt {d c n : Nat} (h : d < 2 ^ n) : d <<< c < 2 ^ (c + n) := by
  rw [Nat.shiftLeft_eq, Nat.pow_add, Nat.mul_comm]
  exact Nat.mul_lt_mul_of_pos_left h (Nat.pow_pos (by decide))
theorem s_left {r0 : Nat} {M : Mem} {g c w : Nat} (hc : zI M r0 38 = nI (c + 1)) (hg : zL M r0 41 = lN g) (hgl : g < 2 ^ (c + 2)) (hc2 : c + 1 ≤ 63) (hw : w < 2 ^ 63) : f_X12_left r0 (lN w) M = some (lN (red g (c + 1) (62 - c) w), M) := by
  have e := s_left_l (y1 := lN w) hc hg hgl (62 - c) (1000000 - (62 - c) - 1) w hw (by omega)
  rw [show 62 - c + 1 + (1000000 - (62 - c) - 1) = 1000000 by omega, show c + (62 - c) = 62 by omega] at e
  exact e
theorem s_left2 {r0 : Nat} {M : Mem} {g c n w : Nat} (hc : zI M r0 38 = nI (c + 1)) (hg : zL M r0 41 = lN g) (hgl : g < 2 ^ (c + 2)) (hn : c + 1 + n ≤ 63) (hw : w < 2 ^ (c + 1 + n)) : f_X12_left r0 (lN w) M = some (lN (red g (c + 1) n w), M) := by
  rw [s_left hc hg hgl (by omega) (Nat.lt_of_lt_of_le hw (Nat.pow_le_pow_right (by decide) hn)), show 62 - c = n + (62 - c - n) by omega, red_more hgl (62 - c - n) n w hw]
theorem s_wordOf {r0 : Nat} {M : Mem} {g c n d : Nat} (hc : zI M r0 38 = nI (c + 1)) (hg : zL M r0 41 = lN g) (hgl : g < 2 ^ (c + 2)) (hn : c + 1 + n ≤ 63) (hd : d < 2 ^ n) : f_X12_wordOf r0 (lN d) M = some (lN (wd g (c + 1) n d), M) := by
  unfold f_X12_wordOf
  rw [hc, lN_shl d (show c + 1 < 64 by omega), s_left2 hc hg hgl hn (shl_lt hd), b_i, lN_or]
  rfl
theorem s_encode {r0 : Nat} {M : Mem} {g c n d : Nat} (hc : zI M r0 9 = nI (c + 1)) (hl : zI M r0 10 = nI (c + 1 + n)) (hg : zL M r0 12 = lN g) (hgl : g < 2 ^ (c + 2)) (hn : c + 1 + n ≤ 63) (hd : d < 2 ^ n) : f_X1_encode r0 (lN d) M = some (lN (wd g (c + 1) n d), M) := by
  unfold f_X1_encode
  rw [hc, hl, lN_shl d (show c + 1 < 64 by omega), show c + 1 + n = (c + n) + 1 by omega, nI_pred]
  have e := s_enc_l (y1 := lN d) (s := d <<< (c + 1)) hc hg hgl n (1000000 - n - 1) (d <<< (c + 1)) (Nat.lt_of_lt_of_le (shl_lt hd) (Nat.pow_le_pow_right (by decide) hn)) (by omega)
  rw [show n + 1 + (1000000 - n - 1) = 1000000 by omega] at e
  exact e
theorem or_lo {a b c : Nat} (hb : b < 2 ^ c) : (a <<< c) ||| b = (a <<< c) ^^^ b := by
  refine Nat.eq_of_testBit_eq (fun i => ?_)
  rw [Nat.testBit_or, Nat.testBit_xor, Nat.testBit_shiftLeft]
  by_cases hi : i < c
  · rw [decide_eq_false (show ¬ i ≥ c by omega)]; simp
  · rw [Nat.testBit_lt_two_pow (Nat.lt_of_lt_of_le hb (Nat.pow_le_pow_right (by decide) (show c ≤ i by omega)))]; simp
theorem wd_xor {g c n d : Nat} (hg : g < 2 ^ (c + 1)) (hgc : g.testBit c = true) (hd : d < 2 ^ n) : wd g c n d = (d <<< c) ^^^ red g c n (d <<< c) := or_lo (red_lt hg hgc n _ (shl_lt hd))
theorem wd_lt {g c n d : Nat} (hg : g < 2 ^ (c + 1)) (hgc : g.testBit c = true) (hd : d < 2 ^ n) : wd g c n d < 2 ^ (c + n) := by
  rw [wd_xor hg hgc hd]
  exact Nat.xor_lt_two_pow (shl_lt hd) (Nat.lt_of_lt_of_le (red_lt hg hgc n _ (shl_lt hd)) (Nat.pow_le_pow_right (by decide) (Nat.le_add_right _ _)))
theorem wd_sy {m p g c n d j : Nat} (h : (m, p) ∈ fPR) (hg : g < 2 ^ (c + 1)) (hgc : g.testBit c = true) (hj : sy m p (c + 1) g j = 0) (hd : d < 2 ^ n) : sy m p (c + n) (wd g c n d) j = 0 := by
  rw [wd_xor hg hgc hd]
  exact sy_word h hg hgc hj (shl_lt hd)
/-- a word is one of the code where its rest is 0 -/
theorem wd_iff {g c n w : Nat} (hg : g < 2 ^ (c + 1)) (hgc : g.testBit c = true) (hw : w < 2 ^ (c + n)) : wd g c n (w >>> c) = w ↔ red g c n w = 0 := by
  have hd : w >>> c < 2 ^ n := by
    rw [Nat.shiftRight_eq_div_pow]
    exact Nat.div_lt_of_lt_mul (by rw [← Nat.pow_add]; exact hw)
  have hlo : w % 2 ^ c < 2 ^ c := Nat.mod_lt _ (Nat.pow_pos (by decide))
  have e : w = ((w >>> c) <<< c) ^^^ (w % 2 ^ c) := by
    rw [← or_lo hlo]
    refine Nat.eq_of_testBit_eq (fun i => ?_)
    rw [Nat.testBit_or, Nat.testBit_shiftLeft, Nat.testBit_shiftRight, Nat.testBit_mod_two_pow]
    by_cases hi : i < c
    · rw [decide_eq_false (show ¬ i ≥ c by omega), decide_eq_true hi]; simp
    · rw [decide_eq_true (show i ≥ c by omega), decide_eq_false hi, show c + (i - c) = i by omega]; simp
  have e2 : red g c n w = red g c n ((w >>> c) <<< c) ^^^ (w % 2 ^ c) := by
    conv => lhs; rw [e]
    exact red_lo g c n _ _ hlo
  rw [wd_xor hg hgc hd, e2]
  constructor
  · intro h
    have h2 : red g c n ((w >>> c) <<< c) = w % 2 ^ c := by
      have h3 := h.trans e
      have h4 := congrArg (fun z => ((w >>> c) <<< c) ^^^ z) h3
      simp only [← Nat.xor_assoc, Nat.xor_self, Nat.zero_xor] at h4
      exact h4
    rw [h2, Nat.xor_self]
  · intro h
    have h2 : red g c n ((w >>> c) <<< c) = w % 2 ^ c := by
      have h4 := congrArg (fun z => z ^^^ (w % 2 ^ c)) h
      simp only [Nat.xor_assoc, Nat.xor_self, Nat.xor_zero, Nat.zero_xor] at h4
      exact h4
    rw [h2]
    exact e.symm
