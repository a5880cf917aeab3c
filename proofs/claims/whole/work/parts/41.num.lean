/-! numbers: bits of ints and longs that stand for naturals -/
theorem nI_bv (a : Nat) : (nI a).toBitVec = BitVec.ofNat 32 a := rfl
theorem lN_bv (a : Nat) : (lN a).toBitVec = BitVec.ofNat 64 a := rfl
theorem i32_ext {x y : Int32} (h : x.toBitVec = y.toBitVec) : x = y := Int32.toBitVec_inj.mp h
theorem i64_ext {x y : Int64} (h : x.toBitVec = y.toBitVec) : x = y := Int64.toBitVec_inj.mp h
theorem nI_and (a b : Nat) : nI a &&& nI b = nI (a &&& b) := by
  apply i32_ext; rw [Int32.toBitVec_and, nI_bv, nI_bv, nI_bv]; apply BitVec.eq_of_toNat_eq; simp [BitVec.toNat_and, BitVec.toNat_ofNat, Nat.and_mod_two_pow (n := 32)]
theorem nI_or (a b : Nat) : nI a ||| nI b = nI (a ||| b) := by
  apply i32_ext; rw [Int32.toBitVec_or, nI_bv, nI_bv, nI_bv]; apply BitVec.eq_of_toNat_eq; simp [BitVec.toNat_or, BitVec.toNat_ofNat, Nat.or_mod_two_pow (n := 32)]
theorem nI_xor (a b : Nat) : nI a ^^^ nI b = nI (a ^^^ b) := by
  apply i32_ext; rw [Int32.toBitVec_xor, nI_bv, nI_bv, nI_bv]; apply BitVec.eq_of_toNat_eq; simp [BitVec.toNat_xor, BitVec.toNat_ofNat, Nat.xor_mod_two_pow (n := 32)]
theorem lN_and (a b : Nat) : lN a &&& lN b = lN (a &&& b) := by
  apply i64_ext; rw [Int64.toBitVec_and, lN_bv, lN_bv, lN_bv]; apply BitVec.eq_of_toNat_eq; simp [BitVec.toNat_and, BitVec.toNat_ofNat, Nat.and_mod_two_pow (n := 64)]
theorem lN_or (a b : Nat) : lN a ||| lN b = lN (a ||| b) := by
  apply i64_ext; rw [Int64.toBitVec_or, lN_bv, lN_bv, lN_bv]; apply BitVec.eq_of_toNat_eq; simp [BitVec.toNat_or, BitVec.toNat_ofNat, Nat.or_mod_two_pow (n := 64)]
theorem lN_xor (a b : Nat) : lN a ^^^ lN b = lN (a ^^^ b) := by
  apply i64_ext; rw [Int64.toBitVec_xor, lN_bv, lN_bv, lN_bv]; apply BitVec.eq_of_toNat_eq; simp [BitVec.toNat_xor, BitVec.toNat_ofNat, Nat.xor_mod_two_pow (n := 64)]
theorem nI_mod {k : Nat} (h : k < 32) : (nI k &&& 31) = nI k := by
  rw [show (31 : Int32) = nI 31 from rfl, nI_and, show (31 : Nat) = 2 ^ 5 - 1 from rfl, Nat.and_two_pow_sub_one_eq_mod, Nat.mod_eq_of_lt (by omega)]
theorem nI_shl (a : Nat) {k : Nat} (h : k < 32) : nI a <<< (nI k &&& 31) = nI (a <<< k) := by
  rw [nI_mod h]
  apply i32_ext
  rw [Int32.toBitVec_shiftLeft, nI_bv, nI_bv, nI_bv]
  apply BitVec.eq_of_toNat_eq
  have e : ((BitVec.ofNat 32 k).smod 32#32).toNat = k := by
    have : ∀ k : Fin 32, ((BitVec.ofNat 32 k.val).smod 32#32).toNat = k.val := by decide
    exact this ⟨k, h⟩
  simp [BitVec.toNat_shiftLeft, BitVec.toNat_ofNat, e, Nat.shiftLeft_eq, Nat.mul_mod]
theorem nI_shr {a : Nat} (ha : a < 2 ^ 31) {k : Nat} (h : k < 32) : nI a >>> (nI k &&& 31) = nI (a >>> k) := by
  rw [nI_mod h]
  have e : ((nI k).toBitVec.smod 32).toNat = k := by
    have : ∀ k : Fin 32, ((BitVec.ofNat 32 k.val).smod 32).toNat = k.val := by decide
    exact this ⟨k, h⟩
  rw [pk_shrN ha (nI k) k e, Nat.shiftRight_eq_div_pow]
theorem nI_i2l {k : Nat} (h : k < 2 ^ 31) : (nI k).toInt64 = lN k := nI_l h
theorem lN_63 {k : Nat} (h : k < 64) : (lN k &&& 63) = lN k := by
  rw [show (63 : Int64) = lN 63 from rfl, lN_and, show (63 : Nat) = 2 ^ 6 - 1 from rfl, Nat.and_two_pow_sub_one_eq_mod, Nat.mod_eq_of_lt (by omega)]
theorem bv_smod64 {k : Nat} (h : k < 64) : ((BitVec.ofNat 64 k).smod 64#64).toNat = k := by
  have : ∀ k : Fin 64, ((BitVec.ofNat 64 k.val).smod 64#64).toNat = k.val := by decide
  exact this ⟨k, h⟩
theorem lN_shl (a : Nat) {k : Nat} (h : k < 64) : lN a <<< ((nI k).toInt64 &&& 63) = lN (a <<< k) := by
  rw [nI_i2l (by omega), lN_63 h]
  apply i64_ext
  rw [Int64.toBitVec_shiftLeft, lN_bv, lN_bv, lN_bv]
  apply BitVec.eq_of_toNat_eq
  simp [BitVec.toNat_shiftLeft, BitVec.toNat_ofNat, bv_smod64 h, Nat.shiftLeft_eq, Nat.mul_mod]
theorem lN_shr {a : Nat} (ha : a < 2 ^ 63) {k : Nat} (h : k < 64) : lN a >>> ((nI k).toInt64 &&& 63) = lN (a >>> k) := by
  rw [nI_i2l (by omega), lN_63 h]
  apply i64_ext
  rw [Int64.toBitVec_shiftRight, lN_bv, lN_bv, lN_bv]
  apply BitVec.eq_of_toNat_eq
  have hm : (BitVec.ofNat 64 a).msb = false := by
    rw [BitVec.msb_eq_decide, BitVec.toNat_ofNat, Nat.mod_eq_of_lt (by omega)]; simp; omega
  show ((BitVec.ofNat 64 a).sshiftRight ((BitVec.ofNat 64 k).smod 64#64).toNat).toNat = _
  rw [BitVec.sshiftRight_eq_of_msb_false hm, BitVec.toNat_ushiftRight, BitVec.toNat_ofNat, BitVec.toNat_ofNat, bv_smod64 h, Nat.mod_eq_of_lt (by omega), Nat.mod_eq_of_lt]
  rw [Nat.shiftRight_eq_div_pow]
  exact Nat.lt_of_le_of_lt (Nat.div_le_self _ _) (by omega)
theorem lN_ush {a : Nat} (ha : a < 2 ^ 64) {k : Nat} (h : k < 64) : zlush (lN a) (nI k) = lN (a >>> k) := by
  unfold zlush
  rw [nI_i2l (by omega)]
  apply i64_ext
  show ((BitVec.ofNat 64 a) >>> (((BitVec.ofNat 64 k) &&& 63#64) % 64#64)) = BitVec.ofNat 64 (a >>> k)
  apply BitVec.eq_of_toNat_eq
  have e : ∀ k : Fin 64, (((BitVec.ofNat 64 k.val) &&& 63#64) % 64#64).toNat = k.val := by decide
  rw [BitVec.ushiftRight_eq', BitVec.toNat_ushiftRight, e ⟨k, h⟩, BitVec.toNat_ofNat, BitVec.toNat_ofNat, Nat.mod_eq_of_lt ha, Nat.mod_eq_of_lt]
  rw [Nat.shiftRight_eq_div_pow]
  exact Nat.lt_of_le_of_lt (Nat.div_le_self _ _) ha
theorem lN_sub1 {a b : Nat} (h : b ≤ a) : lN a - lN b = lN (a - b) := lN_sub h
theorem lit_nI (k : Nat) : (OfNat.ofNat k : Int32) = nI k := rfl
