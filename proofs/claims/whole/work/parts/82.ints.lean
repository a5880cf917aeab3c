/-! whole numbers as ints and longs -/
def iI (z : Int) : Int32 := Int32.ofInt z
def iL (z : Int) : Int64 := Int64.ofInt z
def sm (z : Int) : Prop := -2000000000 ≤ z ∧ z ≤ 2000000000
def ml (z : Int) : Prop := -4000000000000000000 ≤ z ∧ z ≤ 4000000000000000000
theorem iI_n (n : Nat) : iI (n : Int) = nI n := Int32.ofInt_eq_ofNat
theorem iL_n (n : Nat) : iL (n : Int) = lN n := Int64.ofInt_eq_ofNat
theorem iI_t {z : Int} (h : sm z) : (iI z).toInt = z := Int32.toInt_ofInt_of_le (by unfold sm at h; omega) (by unfold sm at h; omega)
theorem iL_t {z : Int} (h : ml z) : (iL z).toInt = z := Int64.toInt_ofInt_of_le (by unfold ml at h; omega) (by unfold ml at h; omega)
theorem iI_lt {a b : Int} (ha : sm a) (hb : sm b) : iI a < iI b ↔ a < b := by rw [Int32.lt_iff_toInt_lt, iI_t ha, iI_t hb]
theorem iI_le {a b : Int} (ha : sm a) (hb : sm b) : iI a ≤ iI b ↔ a ≤ b := by rw [Int32.le_iff_toInt_le, iI_t ha, iI_t hb]
theorem iI_eq {a b : Int} (ha : sm a) (hb : sm b) : iI a = iI b ↔ a = b := by rw [← Int32.toInt_inj, iI_t ha, iI_t hb]
theorem iL_lt {a b : Int} (ha : ml a) (hb : ml b) : iL a < iL b ↔ a < b := by rw [Int64.lt_iff_toInt_lt, iL_t ha, iL_t hb]
theorem iL_le {a b : Int} (ha : ml a) (hb : ml b) : iL a ≤ iL b ↔ a ≤ b := by rw [Int64.le_iff_toInt_le, iL_t ha, iL_t hb]
theorem iL_eq {a b : Int} (ha : ml a) (hb : ml b) : iL a = iL b ↔ a = b := by rw [← Int64.toInt_inj, iL_t ha, iL_t hb]
theorem iI_sub (a b : Int) : iI a - iI b = iI (a - b) := (Int32.ofInt_sub a b).symm
theorem iI_add (a b : Int) : iI a + iI b = iI (a + b) := (Int32.ofInt_add a b).symm
theorem iL_sub (a b : Int) : iL a - iL b = iL (a - b) := (Int64.ofInt_sub a b).symm
theorem iL_add (a b : Int) : iL a + iL b = iL (a + b) := (Int64.ofInt_add a b).symm
theorem iL_mul (a b : Int) : iL a * iL b = iL (a * b) := (Int64.ofInt_mul a b).symm
theorem iI_l {z : Int} (h : sm z) : (iI z).toInt64 = iL z := by
  apply Int64.toInt_inj.mp
  rw [Int32.toInt_toInt64, iI_t h, iL_t (by unfold sm at h; unfold ml; omega)]
theorem iL_i (z : Int) : (iL z).toInt32 = iI z := Int64.toInt32_ofInt
theorem iL_div {a b : Int} (ha : ml a) (hb : ml b) : iL a / iL b = iL (a.tdiv b) := by
  refine (Int64.ofInt_tdiv ?_ ?_ ?_ ?_).symm
  · have : (Int64.minValue).toInt = -9223372036854775808 := rfl
    unfold ml at ha; omega
  · have : (Int64.maxValue).toInt = 9223372036854775807 := rfl
    unfold ml at ha; omega
  · have : (Int64.minValue).toInt = -9223372036854775808 := rfl
    unfold ml at hb; omega
  · have : (Int64.maxValue).toInt = 9223372036854775807 := rfl
    unfold ml at hb; omega
theorem iL_rem {a b : Int} (ha : ml a) (hb : ml b) : zlrem (iL a) (iL b) = iL (a - a.tdiv b * b) := by
  unfold zlrem
  rw [iL_div ha hb, iL_mul, iL_sub]
theorem iL_c0 {a b : Int} (ha : ml a) (hb : ml b) : lg_cmp (iL a) (iL b) = 0 ↔ a = b := by rw [lg_cmp_eq, iL_eq ha hb]
theorem iL_cle {a b : Int} (ha : ml a) (hb : ml b) : lg_cmp (iL a) (iL b) ≤ 0 ↔ a ≤ b := by rw [lg_cmp_le, iL_le ha hb]
theorem iL_cge {a b : Int} (ha : ml a) (hb : ml b) : 0 ≤ lg_cmp (iL a) (iL b) ↔ b ≤ a := by rw [lg_cmp_ge, iL_le hb ha]
theorem iL_cgt {a b : Int} (ha : ml a) (hb : ml b) : 0 < lg_cmp (iL a) (iL b) ↔ b < a := by rw [lg_cmp_gt, iL_lt hb ha]
theorem iL_clt {a b : Int} (ha : ml a) (hb : ml b) : lg_cmp (iL a) (iL b) < 0 ↔ a < b := by rw [lg_cmp_lt, iL_lt ha hb]
theorem i64_neg (x : Int64) : x < 0 ↔ x.toBitVec.msb = true := by
  rw [Int64.lt_iff_toInt_lt, BitVec.msb_eq_toInt, decide_eq_true_iff]
  exact Iff.rfl
theorem iL_xs {a b : Int} (ha : ml a) (hb : ml b) : 0 ≤ lg_cmp (iL a ^^^ iL b) 0 ↔ ((a < 0) ↔ (b < 0)) := by
  have hz : ml 0 := by unfold ml; omega
  have ea : (iL a).toBitVec.msb = decide (a < 0) := by
    rw [BitVec.msb_eq_toInt]; show decide ((iL a).toInt < 0) = _; rw [iL_t ha]
  have eb : (iL b).toBitVec.msb = decide (b < 0) := by
    rw [BitVec.msb_eq_toInt]; show decide ((iL b).toInt < 0) = _; rw [iL_t hb]
  rw [lg_cmp_ge, ← Int64.not_lt, i64_neg, Int64.toBitVec_xor, BitVec.msb_xor, ea, eb]
  by_cases h1 : a < 0 <;> by_cases h2 : b < 0 <;> simp [h1, h2]
/-- the floor of a quotient, as both reckon it -/
def fd (a b : Int) : Int := if a - a.tdiv b * b = 0 then a.tdiv b else if (a < 0) = (b < 0) then a.tdiv b else a.tdiv b - 1
def wn (z : Int) : Int := if 1000000 < z then 1000000 else if z < -1000000 then -1000000 else z
theorem wn_b (z : Int) : -1000000 ≤ wn z ∧ wn z ≤ 1000000 := by
  unfold wn
  by_cases h1 : 1000000 < z
  · rw [if_pos h1]; omega
  · rw [if_neg h1]
    by_cases h2 : z < -1000000
    · rw [if_pos h2]; omega
    · rw [if_neg h2]; omega
def bd (z : Int) : Prop := -1000000 ≤ z ∧ z ≤ 1000000
theorem bd.s {z : Int} (h : bd z) : sm z := by unfold bd at h; unfold sm; omega
theorem bd.l {z : Int} (h : bd z) : ml z := by unfold bd at h; unfold ml; omega
theorem bd_abs {z : Int} (h : bd z) : z.natAbs ≤ 1000000 := by unfold bd at h; omega
theorem bd_mul {a b : Int} (ha : bd a) (hb : bd b) : ml (a * b) := by
  have h1 : (a * b).natAbs ≤ 1000000 * 1000000 := by
    rw [Int.natAbs_mul]; exact Nat.mul_le_mul (bd_abs ha) (bd_abs hb)
  unfold ml; omega
theorem bd_div {a b : Int} (ha : bd a) : bd (a.tdiv b) := by
  have h1 : (a.tdiv b).natAbs ≤ 1000000 := by
    rw [Int.natAbs_tdiv]
    exact Nat.le_trans (Nat.div_le_self _ _) (bd_abs ha)
  unfold bd; omega
theorem bd_rem {a b : Int} (ha : bd a) : ml (a - a.tdiv b * b) := by
  have h1 : (a.tdiv b * b).natAbs ≤ 1000000 := by
    rw [Int.natAbs_mul, Int.natAbs_tdiv]
    exact Nat.le_trans (Nat.div_mul_le_self _ _) (bd_abs ha)
  unfold bd at ha; unfold ml; omega
theorem s_bounded {M : Mem} {z : Int} (h : ml z) : f_X10_bounded (iL z) M = some (iI (wn z), M) := by
  unfold f_X10_bounded f_J9_min_f86c9 f_J9_min_f86c9_11 f_J9_max_f86c9 f_J9_max_f86c9_11 wn
  have e1 : (1000000 : Int64) = iL 1000000 := rfl
  have e2 : (-1000000 : Int64) = iL (-1000000) := rfl
  have m1 : ml 1000000 := by unfold ml; omega
  have m2 : ml (-1000000) := by unfold ml; omega
  rw [e2, e1]
  by_cases h1 : z < 1000000
  · rw [if_pos ((iL_cgt m1 h).mpr h1), b_i, if_neg (show ¬ 1000000 < z by omega)]
    dsimp only
    by_cases h2 : -1000000 < z
    · rw [if_pos ((iL_clt m2 h).mpr h2), b_i, if_neg (by omega), iL_i]
    · rw [if_neg (fun x => h2 ((iL_clt m2 h).mp x)), b_i]
      dsimp only
      rw [iL_i]
      by_cases h3 : z < -1000000
      · rw [if_pos h3]
      · rw [if_neg h3, show z = -1000000 by omega]
  · rw [if_neg (fun x => h1 ((iL_cgt m1 h).mp x)), b_i]
    dsimp only
    rw [if_pos ((iL_clt m2 m1).mpr (by decide)), b_i]
    dsimp only
    rw [iL_i]
    by_cases h3 : 1000000 < z
    · rw [if_pos h3]
    · rw [if_neg h3, if_neg (by omega), show z = 1000000 by omega]
theorem s_within {M : Mem} {z : Int} (h : ml z) : f_X12_within (iL z) M = some (iL (wn z), M) := by
  unfold f_X12_within f_X12_within_29 wn
  have e1 : (1000000 : Int64) = iL 1000000 := rfl
  have e2 : (-1000000 : Int64) = iL (-1000000) := rfl
  have m1 : ml 1000000 := by unfold ml; omega
  have m2 : ml (-1000000) := by unfold ml; omega
  rw [e2, e1]
  by_cases h1 : 1000000 < z
  · rw [if_neg (fun x => by have := (iL_cle h m1).mp x; omega), if_pos h1]
  · rw [if_pos ((iL_cle h m1).mpr (by omega)), if_neg h1]
    by_cases h2 : z < -1000000
    · rw [if_neg (fun x => by have := (iL_cge h m2).mp x; omega), if_pos h2]
    · rw [if_pos ((iL_cge h m2).mpr (by omega)), if_neg h2]
