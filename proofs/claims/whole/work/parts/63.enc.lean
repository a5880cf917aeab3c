/-! words: the class's rest by the generator -/
theorem s_enc_l {r0 : Nat} {y1 : Int64} {M : Mem} {g c s : Nat} (hc : zI M r0 9 = nI (c + 1)) (hg : zL M r0 12 = lN g) (hgl : g < 2 ^ (c + 2)) : ∀ n f w, w < 2 ^ 63 → c + 1 + n ≤ 63 → f_X1_encode_18 r0 y1 (n + 1 + f) (lN s) (lN w) (nI (c + n)) M = some (lN (s ||| red g (c + 1) n w), M) := by
  intro n
  induction n with
  | zero =>
    intro f w _ hn
    rw [show 0 + 1 + f = f + 1 by omega]
    unfold f_X1_encode_18
    rw [hc, if_pos (nI_lt (by omega) (by omega)), lN_or]
    rfl
  | succ n ih =>
    intro f w hw hn
    rw [show n + 1 + 1 + f = (n + 1 + f) + 1 by omega]
    unfold f_X1_encode_18
    rw [hc, hg, if_neg (nI_nlt (by omega) (by omega)), lN_ush (Nat.lt_of_lt_of_le hw (Nat.pow_le_pow_right (by decide) (by decide))) (show c + (n + 1) < 64 by omega), show (1 : Int64) = lN 1 from rfl, lN_and, show lN 1 = (1 : Int64) from rfl, show c + (n + 1) = c + 1 + n by omega, nI_sb]
    unfold f_X1_encode_56
    rw [show c + 1 + n = (c + n) + 1 by omega, nI_m1]
    show _ = some (lN (s ||| red g (c + 1) n (if w.testBit (c + 1 + n) then _ else w)), M)
    rw [show c + 1 + n = (c + n) + 1 by omega]
    by_cases hb : w.testBit (c + n + 1) = true
    · rw [if_pos ((lc_bit _ _).mpr hb), if_pos hb, lN_shl g (show n < 64 by omega), lN_xor, b_i]
      refine ih f _ (Nat.xor_lt_two_pow hw ?_) (by omega)
      rw [Nat.shiftLeft_eq]
      have : 2 ^ (c + 2) * 2 ^ n ≤ 2 ^ 63 := by rw [← Nat.pow_add]; exact Nat.pow_le_pow_right (by decide) (by omega)
      exact Nat.lt_of_lt_of_le (Nat.mul_lt_mul_of_pos_right hgl (Nat.pow_pos (by decide))) this
    · rw [if_neg (fun h => hb ((lc_bit _ _).mp h)), if_neg hb]
      exact ih f w hw (by omega)
