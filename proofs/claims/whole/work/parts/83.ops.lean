/-! what two results make -/
def bop (s : Nat) (a b : Int) : Int :=
  if s = 31 then wn (a + b) else if s = 32 then wn (a - b) else if s = 33 then wn (a * b) else if s = 34 then (if b = 0 then 0 else wn (fd a b))
  else if s = 35 then (if b = 0 then 0 else wn (a - b * fd a b)) else if s = 36 then (if a < b then a else b) else if s = 37 then (if b < a then a else b)
  else if s = 38 then (if a < b then 1 else 0) else if s = 39 then (if b < a then 1 else 0) else if s = 40 then (if a = b then 1 else 0)
  else if s = 41 then (if a = 1 ∧ b = 1 then 1 else 0) else (if a = 1 ∨ b = 1 then 1 else 0)
theorem bd0 : bd 0 := by unfold bd; omega
theorem bd1 : bd 1 := by unfold bd; omega
theorem bop_b {s : Nat} {a b : Int} (ha : bd a) (hb : bd b) : bd (bop s a b) := by
  unfold bop
  by_cases h31 : s = 31
  · rw [if_pos h31]; exact wn_b _
  rw [if_neg h31]
  by_cases h32 : s = 32
  · rw [if_pos h32]; exact wn_b _
  rw [if_neg h32]
  by_cases h33 : s = 33
  · rw [if_pos h33]; exact wn_b _
  rw [if_neg h33]
  by_cases h34 : s = 34
  · rw [if_pos h34]; by_cases h0 : b = 0; rw [if_pos h0]; exact bd0; rw [if_neg h0]; exact wn_b _
  rw [if_neg h34]
  by_cases h35 : s = 35
  · rw [if_pos h35]; by_cases h0 : b = 0; rw [if_pos h0]; exact bd0; rw [if_neg h0]; exact wn_b _
  rw [if_neg h35]
  by_cases h36 : s = 36
  · rw [if_pos h36]; by_cases h0 : a < b; rw [if_pos h0]; exact ha; rw [if_neg h0]; exact hb
  rw [if_neg h36]
  by_cases h37 : s = 37
  · rw [if_pos h37]; by_cases h0 : b < a; rw [if_pos h0]; exact ha; rw [if_neg h0]; exact hb
  rw [if_neg h37]
  by_cases h38 : s = 38
  · rw [if_pos h38]; by_cases h0 : a < b; rw [if_pos h0]; exact bd1; rw [if_neg h0]; exact bd0
  rw [if_neg h38]
  by_cases h39 : s = 39
  · rw [if_pos h39]; by_cases h0 : b < a; rw [if_pos h0]; exact bd1; rw [if_neg h0]; exact bd0
  rw [if_neg h39]
  by_cases h40 : s = 40
  · rw [if_pos h40]; by_cases h0 : a = b; rw [if_pos h0]; exact bd1; rw [if_neg h0]; exact bd0
  rw [if_neg h40]
  by_cases h41 : s = 41
  · rw [if_pos h41]; by_cases h0 : a = 1 ∧ b = 1; rw [if_pos h0]; exact bd1; rw [if_neg h0]; exact bd0
  rw [if_neg h41]
  by_cases h0 : a = 1 ∨ b = 1
  · rw [if_pos h0]; exact bd1
  · rw [if_neg h0]; exact bd0
theorem bop_t {s : Nat} {a b : Int} (hs : 38 ≤ s) : bop s a b = 0 ∨ bop s a b = 1 := by
  unfold bop
  rw [if_neg (by omega), if_neg (by omega), if_neg (by omega), if_neg (by omega), if_neg (by omega), if_neg (by omega), if_neg (by omega)]
  have key : ∀ (c : Prop) [Decidable c], (if c then (1 : Int) else 0) = 0 ∨ (if c then (1 : Int) else 0) = 1 := by
    intro c _
    by_cases h : c
    · rw [if_pos h]; exact Or.inr rfl
    · rw [if_neg h]; exact Or.inl rfl
  by_cases h38 : s = 38
  · rw [if_pos h38]; exact key _
  rw [if_neg h38]
  by_cases h39 : s = 39
  · rw [if_pos h39]; exact key _
  rw [if_neg h39]
  by_cases h40 : s = 40
  · rw [if_pos h40]; exact key _
  rw [if_neg h40]
  by_cases h41 : s = 41
  · rw [if_pos h41]; exact key _
  rw [if_neg h41]; exact key _
theorem bd_fd {a b : Int} (ha : bd a) : ml (fd a b) := by
  have := bd_div (b := b) ha
  unfold fd
  unfold bd at this
  repeat' split
  all_goals (unfold ml; omega)
theorem ml_fm {a b : Int} (ha : bd a) (hb : bd b) : ml (a - b * fd a b) := by
  have h1 : (fd a b).natAbs ≤ 1000001 := by
    have := bd_div (b := b) ha
    unfold fd
    unfold bd at this
    repeat' split
    all_goals omega
  have h2 : (b * fd a b).natAbs ≤ 1000000 * 1000001 := by
    rw [Int.natAbs_mul]; exact Nat.mul_le_mul (bd_abs hb) h1
  unfold bd at ha
  unfold ml; omega
theorem m0 : ml 0 := by unfold ml; omega
theorem iL0 : (0 : Int64) = iL 0 := rfl
theorem iL1 : (1 : Int64) = iL 1 := rfl
theorem iI0 : (0 : Int32) = iI 0 := rfl
theorem iI1 : (1 : Int32) = iI 1 := rfl
theorem s_floorDiv {M : Mem} {a b : Int} (ha : bd a) (hb : bd b) (h0 : ¬ b = 0) : f_J9_floorDiv_f86c9 (iL a) (iL b) M = some (iL (fd a b), M) := by
  have hq := bd_div (b := b) ha
  have hr := bd_rem (b := b) ha
  unfold f_J9_floorDiv_f86c9 f_J9_floorDiv_f86c9_27 fd
  rw [if_neg (by rw [iL0]; exact fun x => h0 ((iL_eq hb.l m0).mp x)), iL_div ha.l hb.l]
  by_cases h1 : (a < 0) ↔ (b < 0)
  · rw [if_pos ((iL_xs ha.l hb.l).mpr h1)]
    by_cases h2 : a - a.tdiv b * b = 0
    · rw [if_pos h2]
    · rw [if_neg h2, if_pos (propext h1)]
  · rw [if_neg (fun x => h1 ((iL_xs ha.l hb.l).mp x)), iL_mul]
    have hm : ml (a.tdiv b * b) := bd_mul hq hb
    by_cases h2 : a - a.tdiv b * b = 0
    · rw [if_pos h2, if_pos ((iL_c0 hm ha.l).mpr (by omega))]
    · rw [if_neg h2, if_neg (fun x => h2 (by have := (iL_c0 hm ha.l).mp x; omega)), if_neg (fun x => h1 (iff_of_eq x)), iL1, iL_sub]
theorem s_floorMod {M : Mem} {a b : Int} (ha : bd a) (hb : bd b) (h0 : ¬ b = 0) : f_J9_floorMod_f86c9 (iL a) (iL b) M = some (iL (a - b * fd a b), M) := by
  have hq := bd_div (b := b) ha
  have hr := bd_rem (b := b) ha
  unfold f_J9_floorMod_f86c9 f_J9_floorMod_f86c9_25 fd
  rw [if_neg (by rw [iL0]; exact fun x => h0 ((iL_eq hb.l m0).mp x)), iL_rem ha.l hb.l]
  by_cases h1 : (a < 0) ↔ (b < 0)
  · rw [if_pos ((iL_xs ha.l hb.l).mpr h1), if_pos (propext h1)]
    rw [ite_self, Int.mul_comm b]
  · rw [if_neg (fun x => h1 ((iL_xs ha.l hb.l).mp x)), if_neg (fun x => h1 (iff_of_eq x))]
    by_cases h2 : a - a.tdiv b * b = 0
    · rw [if_pos h2, iL0, if_pos ((iL_c0 hr m0).mpr h2), Int.mul_comm b]
    · rw [if_neg h2, iL0, if_neg (fun x => h2 ((iL_c0 hr m0).mp x)), iL_add]
      have : a - a.tdiv b * b + b = a - b * (a.tdiv b - 1) := by rw [Int.mul_sub, Int.mul_one, Int.mul_comm b]; omega
      rw [this]
theorem s_floor {M : Mem} {a b : Int} (ha : bd a) (hb : bd b) (h0 : ¬ b = 0) : f_X12_floor (iL a) (iL b) M = some (iL (fd a b), M) := by
  have hq := bd_div (b := b) ha
  have hr := bd_rem (b := b) ha
  have hb0 : ¬ iL b = 0 := fun x => h0 ((iL_eq hb.l m0).mp x)
  unfold f_X12_floor f_X12_floor_53 f_X12_floor_55 fd
  rw [if_neg (show ¬ lg_cmp (iL b) 0 = 0 from fun x => h0 ((iL_c0 hb.l m0).mp x)), if_neg hb0, if_neg hb0, iL_div ha.l hb.l, iL_rem ha.l hb.l]
  by_cases h2 : a - a.tdiv b * b = 0
  · rw [if_pos h2, iL0, if_pos ((iL_c0 hr m0).mpr h2)]
  · rw [if_neg h2, iL0, if_neg (fun x => h2 ((iL_c0 hr m0).mp x))]
    unfold f_X12_floor_32 f_X12_floor_43 f_X12_floor_53 f_X12_floor_55
    rw [iL0, iL1, iL_sub]
    by_cases h3 : a < 0 <;> by_cases h4 : b < 0
    · rw [if_neg (fun x => by have := (iL_cge ha.l m0).mp x; omega), if_neg (fun x => by have := (iL_cge hb.l m0).mp x; omega), if_pos rfl, if_pos (by simp [h3, h4])]
    · rw [if_neg (fun x => by have := (iL_cge ha.l m0).mp x; omega), if_pos ((iL_cge hb.l m0).mpr (by omega)), if_neg (by decide), if_neg (by simp [h3, h4])]
    · rw [if_pos ((iL_cge ha.l m0).mpr (by omega)), if_neg (fun x => by have := (iL_cge hb.l m0).mp x; omega), if_neg (by decide), if_neg (by simp [h3, h4])]
    · rw [if_pos ((iL_cge ha.l m0).mpr (by omega)), if_pos ((iL_cge hb.l m0).mpr (by omega)), if_pos rfl, if_pos (by simp [h3, h4])]
def tru (z : Int) : Prop := z = 0 ∨ z = 1
def opS (s : Nat) : Int32 := -nI (s - 30)
theorem jn_41 (x1 x2 : Int32) (M : Mem) : f_X10_joined (-11) x1 x2 M = (some (x1 &&& x2, M)) := rfl
theorem jn_40 (x1 x2 : Int32) (M : Mem) : f_X10_joined (-10) x1 x2 M = ((if x1 = x2 then f_X10_joined_169 (-10) x1 x2 1 M else f_X10_joined_169 (-10) x1 x2 0 M)) := rfl
theorem jn_39 (x1 x2 : Int32) (M : Mem) : f_X10_joined (-9) x1 x2 M = ((if x1 ≤ x2 then f_X10_joined_158 (-9) x1 x2 0 M else f_X10_joined_158 (-9) x1 x2 1 M)) := rfl
theorem jn_38 (x1 x2 : Int32) (M : Mem) : f_X10_joined (-8) x1 x2 M = ((if x2 ≤ x1 then f_X10_joined_147 (-8) x1 x2 0 M else f_X10_joined_147 (-8) x1 x2 1 M)) := rfl
theorem jn_37 (x1 x2 : Int32) (M : Mem) : f_X10_joined (-7) x1 x2 M = (Option.bind (f_J9_max_7cf53 x1 x2 M) fun z6 => some (z6.1, z6.2)) := rfl
theorem jn_36 (x1 x2 : Int32) (M : Mem) : f_X10_joined (-6) x1 x2 M = (Option.bind (f_J9_min_7cf53 x1 x2 M) fun z8 => some (z8.1, z8.2)) := rfl
theorem jn_35 (x1 x2 : Int32) (M : Mem) : f_X10_joined (-5) x1 x2 M = ((if x2 = 0 then f_X10_joined_124 (-5) x1 x2 0 M else Option.bind (f_J9_floorMod_f86c9 x1.toInt64 x2.toInt64 M) fun z10 => Option.bind (f_X10_bounded z10.1 z10.2) fun z11 => f_X10_joined_124 (-5) x1 x2 z11.1 z11.2)) := rfl
theorem jn_34 (x1 x2 : Int32) (M : Mem) : f_X10_joined (-4) x1 x2 M = ((if x2 = 0 then f_X10_joined_105 (-4) x1 x2 0 M else Option.bind (f_J9_floorDiv_f86c9 x1.toInt64 x2.toInt64 M) fun z13 => Option.bind (f_X10_bounded z13.1 z13.2) fun z14 => f_X10_joined_105 (-4) x1 x2 z14.1 z14.2)) := rfl
theorem jn_33 (x1 x2 : Int32) (M : Mem) : f_X10_joined (-3) x1 x2 M = (Option.bind (f_X10_bounded (x1.toInt64 * x2.toInt64) M) fun z16 => some (z16.1, z16.2)) := rfl
theorem jn_32 (x1 x2 : Int32) (M : Mem) : f_X10_joined (-2) x1 x2 M = (Option.bind (f_X10_bounded (x1.toInt64 - x2.toInt64) M) fun z18 => some (z18.1, z18.2)) := rfl
theorem jn_31 (x1 x2 : Int32) (M : Mem) : f_X10_joined (-1) x1 x2 M = (Option.bind (f_X10_bounded (x1.toInt64 + x2.toInt64) M) fun z20 => some (z20.1, z20.2)) := rfl
theorem jn_42 (x1 x2 : Int32) (M : Mem) : f_X10_joined (-12) x1 x2 M = (some (x1 ||| x2, M)) := rfl
theorem tw_31 (y1 y3 : Int64) (M : Mem) : f_X12_two 31 y1 y3 M = (Option.bind (f_X12_within (y1 + y3) M) fun z2 => some (z2.1, z2.2)) := rfl
theorem tw_32 (y1 y3 : Int64) (M : Mem) : f_X12_two 32 y1 y3 M = (Option.bind (f_X12_within (y1 - y3) M) fun z4 => some (z4.1, z4.2)) := rfl
theorem tw_33 (y1 y3 : Int64) (M : Mem) : f_X12_two 33 y1 y3 M = (Option.bind (f_X12_within (y1 * y3) M) fun z6 => some (z6.1, z6.2)) := rfl
theorem tw_34 (y1 y3 : Int64) (M : Mem) : f_X12_two 34 y1 y3 M = (Option.bind (f_X12_floor y1 y3 M) fun z8 => Option.bind (f_X12_within z8.1 z8.2) fun z9 => some (z9.1, z9.2)) := rfl
theorem tw_35 (y1 y3 : Int64) (M : Mem) : f_X12_two 35 y1 y3 M = ((if lg_cmp y3 0 = 0 then f_X12_two_112 35 y1 y3 0 M else Option.bind (f_X12_floor y1 y3 M) fun z11 => Option.bind (f_X12_within (y1 - (y3 * z11.1)) z11.2) fun z12 => f_X12_two_112 35 y1 y3 z12.1 z12.2)) := rfl
theorem tw_36 (y1 y3 : Int64) (M : Mem) : f_X12_two 36 y1 y3 M = ((if 0 ≤ lg_cmp y1 y3 then f_X12_two_124 36 y1 y3 y3 M else f_X12_two_124 36 y1 y3 y1 M)) := rfl
theorem tw_37 (y1 y3 : Int64) (M : Mem) : f_X12_two 37 y1 y3 M = ((if lg_cmp y1 y3 ≤ 0 then f_X12_two_136 37 y1 y3 y3 M else f_X12_two_136 37 y1 y3 y1 M)) := rfl
theorem tw_38 (y1 y3 : Int64) (M : Mem) : f_X12_two 38 y1 y3 M = ((if 0 ≤ lg_cmp y1 y3 then f_X12_two_148 38 y1 y3 0 M else f_X12_two_148 38 y1 y3 1 M)) := rfl
theorem tw_39 (y1 y3 : Int64) (M : Mem) : f_X12_two 39 y1 y3 M = ((if lg_cmp y1 y3 ≤ 0 then f_X12_two_160 39 y1 y3 0 M else f_X12_two_160 39 y1 y3 1 M)) := rfl
theorem tw_40 (y1 y3 : Int64) (M : Mem) : f_X12_two 40 y1 y3 M = ((if lg_cmp y1 y3 = 0 then f_X12_two_172 40 y1 y3 1 M else f_X12_two_172 40 y1 y3 0 M)) := rfl
theorem tw_41 (y1 y3 : Int64) (M : Mem) : f_X12_two 41 y1 y3 M = (some (y1 &&& y3, M)) := rfl
theorem tw_42 (y1 y3 : Int64) (M : Mem) : f_X12_two 42 y1 y3 M = (some (y1 ||| y3, M)) := rfl
theorem bp_31 (a b : Int) : bop 31 a b = (wn (a + b)) := rfl
theorem bp_32 (a b : Int) : bop 32 a b = (wn (a - b)) := by unfold bop; rw [if_neg (by decide), if_pos rfl]
theorem bp_33 (a b : Int) : bop 33 a b = (wn (a * b)) := by unfold bop; rw [if_neg (by decide), if_neg (by decide), if_pos rfl]
theorem bp_34 (a b : Int) : bop 34 a b = (if b = 0 then 0 else wn (fd a b)) := rfl
theorem bp_35 (a b : Int) : bop 35 a b = (if b = 0 then 0 else wn (a - b * fd a b)) := rfl
theorem bp_36 (a b : Int) : bop 36 a b = (if a < b then a else b) := rfl
theorem bp_37 (a b : Int) : bop 37 a b = (if b < a then a else b) := rfl
theorem bp_38 (a b : Int) : bop 38 a b = (if a < b then 1 else 0) := rfl
theorem bp_39 (a b : Int) : bop 39 a b = (if b < a then 1 else 0) := rfl
theorem bp_40 (a b : Int) : bop 40 a b = (if a = b then 1 else 0) := rfl
theorem bp_41 (a b : Int) : bop 41 a b = (if a = 1 ∧ b = 1 then 1 else 0) := rfl
theorem bp_42 (a b : Int) : bop 42 a b = (if a = 1 ∨ b = 1 then 1 else 0) := rfl
theorem i_and {a b : Int} (h1 : tru a) (h2 : tru b) : iI a &&& iI b = iI (if a = 1 ∧ b = 1 then 1 else 0) := by
  rcases h1 with h1 | h1 <;> rcases h2 with h2 | h2 <;> subst h1 <;> subst h2 <;> decide
theorem i_or {a b : Int} (h1 : tru a) (h2 : tru b) : iI a ||| iI b = iI (if a = 1 ∨ b = 1 then 1 else 0) := by
  rcases h1 with h1 | h1 <;> rcases h2 with h2 | h2 <;> subst h1 <;> subst h2 <;> decide
theorem l_and {a b : Int} (h1 : tru a) (h2 : tru b) : iL a &&& iL b = iL (if a = 1 ∧ b = 1 then 1 else 0) := by
  rcases h1 with h1 | h1 <;> rcases h2 with h2 | h2 <;> subst h1 <;> subst h2 <;> decide
theorem l_or {a b : Int} (h1 : tru a) (h2 : tru b) : iL a ||| iL b = iL (if a = 1 ∨ b = 1 then 1 else 0) := by
  rcases h1 with h1 | h1 <;> rcases h2 with h2 | h2 <;> subst h1 <;> subst h2 <;> decide
theorem sj_31 {M : Mem} {a b : Int} (ha : bd a) (hb : bd b) : f_X10_joined (-1) (iI a) (iI b) M = some (iI (wn (a + b)), M) := by
  have z0 : sm 0 := bd0.s
  have m1 : ml (a + b) := by unfold bd at ha hb; unfold ml; omega
  have m2 : ml (a - b) := by unfold bd at ha hb; unfold ml; omega
  have m3 : ml (a * b) := bd_mul ha hb
  rw [jn_31]
  rw [iI_l ha.s, iI_l hb.s, iL_add, s_bounded m1, b_i]
theorem sj_32 {M : Mem} {a b : Int} (ha : bd a) (hb : bd b) : f_X10_joined (-2) (iI a) (iI b) M = some (iI (wn (a - b)), M) := by
  have z0 : sm 0 := bd0.s
  have m1 : ml (a + b) := by unfold bd at ha hb; unfold ml; omega
  have m2 : ml (a - b) := by unfold bd at ha hb; unfold ml; omega
  have m3 : ml (a * b) := bd_mul ha hb
  rw [jn_32]
  rw [iI_l ha.s, iI_l hb.s, iL_sub, s_bounded m2, b_i]
theorem sj_33 {M : Mem} {a b : Int} (ha : bd a) (hb : bd b) : f_X10_joined (-3) (iI a) (iI b) M = some (iI (wn (a * b)), M) := by
  have z0 : sm 0 := bd0.s
  have m1 : ml (a + b) := by unfold bd at ha hb; unfold ml; omega
  have m2 : ml (a - b) := by unfold bd at ha hb; unfold ml; omega
  have m3 : ml (a * b) := bd_mul ha hb
  rw [jn_33]
  rw [iI_l ha.s, iI_l hb.s, iL_mul, s_bounded m3, b_i]
theorem sj_34 {M : Mem} {a b : Int} (ha : bd a) (hb : bd b) : f_X10_joined (-4) (iI a) (iI b) M = some (iI (if b = 0 then 0 else wn (fd a b)), M) := by
  have z0 : sm 0 := bd0.s
  have m1 : ml (a + b) := by unfold bd at ha hb; unfold ml; omega
  have m2 : ml (a - b) := by unfold bd at ha hb; unfold ml; omega
  have m3 : ml (a * b) := bd_mul ha hb
  rw [jn_34]
  by_cases h0 : b = 0
  · rw [if_pos h0]; exact ip ((iI_eq hb.s z0).mpr h0) rfl
  · rw [if_neg h0]; refine im (fun x => h0 ((iI_eq hb.s z0).mp x)) ?_
    rw [iI_l ha.s, iI_l hb.s, s_floorDiv ha hb h0, b_i, s_bounded (bd_fd ha), b_i]; rfl
theorem sj_35 {M : Mem} {a b : Int} (ha : bd a) (hb : bd b) : f_X10_joined (-5) (iI a) (iI b) M = some (iI (if b = 0 then 0 else wn (a - b * fd a b)), M) := by
  have z0 : sm 0 := bd0.s
  have m1 : ml (a + b) := by unfold bd at ha hb; unfold ml; omega
  have m2 : ml (a - b) := by unfold bd at ha hb; unfold ml; omega
  have m3 : ml (a * b) := bd_mul ha hb
  rw [jn_35]
  by_cases h0 : b = 0
  · rw [if_pos h0]; exact ip ((iI_eq hb.s z0).mpr h0) rfl
  · rw [if_neg h0]; refine im (fun x => h0 ((iI_eq hb.s z0).mp x)) ?_
    rw [iI_l ha.s, iI_l hb.s, s_floorMod ha hb h0, b_i, s_bounded (ml_fm ha hb), b_i]; rfl
theorem sj_36 {M : Mem} {a b : Int} (ha : bd a) (hb : bd b) : f_X10_joined (-6) (iI a) (iI b) M = some (iI (if a < b then a else b), M) := by
  have z0 : sm 0 := bd0.s
  have m1 : ml (a + b) := by unfold bd at ha hb; unfold ml; omega
  have m2 : ml (a - b) := by unfold bd at ha hb; unfold ml; omega
  have m3 : ml (a * b) := bd_mul ha hb
  rw [jn_36]
  unfold f_J9_min_7cf53 f_J9_min_7cf53_10
  by_cases h : a < b
  · rw [if_neg (fun x => by have := (iI_lt hb.s ha.s).mp x; omega), if_pos h, b_i]
  · rw [if_neg h]
    by_cases h2 : b < a
    · rw [if_pos ((iI_lt hb.s ha.s).mpr h2), b_i]
    · rw [if_neg (fun x => h2 ((iI_lt hb.s ha.s).mp x)), b_i, show a = b by omega]
theorem sj_37 {M : Mem} {a b : Int} (ha : bd a) (hb : bd b) : f_X10_joined (-7) (iI a) (iI b) M = some (iI (if b < a then a else b), M) := by
  have z0 : sm 0 := bd0.s
  have m1 : ml (a + b) := by unfold bd at ha hb; unfold ml; omega
  have m2 : ml (a - b) := by unfold bd at ha hb; unfold ml; omega
  have m3 : ml (a * b) := bd_mul ha hb
  rw [jn_37]
  unfold f_J9_max_7cf53 f_J9_max_7cf53_10
  by_cases h : b < a
  · rw [if_neg (fun x => by have := (iI_lt ha.s hb.s).mp x; omega), if_pos h, b_i]
  · rw [if_neg h]
    by_cases h2 : a < b
    · rw [if_pos ((iI_lt ha.s hb.s).mpr h2), b_i]
    · rw [if_neg (fun x => h2 ((iI_lt ha.s hb.s).mp x)), b_i, show a = b by omega]
theorem sj_38 {M : Mem} {a b : Int} (ha : bd a) (hb : bd b) : f_X10_joined (-8) (iI a) (iI b) M = some (iI (if a < b then 1 else 0), M) := by
  have z0 : sm 0 := bd0.s
  have m1 : ml (a + b) := by unfold bd at ha hb; unfold ml; omega
  have m2 : ml (a - b) := by unfold bd at ha hb; unfold ml; omega
  have m3 : ml (a * b) := bd_mul ha hb
  rw [jn_38]
  by_cases h : a < b
  · rw [if_neg (fun x => by have := (iI_le hb.s ha.s).mp x; omega), if_pos h]; rfl
  · rw [if_pos ((iI_le hb.s ha.s).mpr (by omega)), if_neg h]; rfl
theorem sj_39 {M : Mem} {a b : Int} (ha : bd a) (hb : bd b) : f_X10_joined (-9) (iI a) (iI b) M = some (iI (if b < a then 1 else 0), M) := by
  have z0 : sm 0 := bd0.s
  have m1 : ml (a + b) := by unfold bd at ha hb; unfold ml; omega
  have m2 : ml (a - b) := by unfold bd at ha hb; unfold ml; omega
  have m3 : ml (a * b) := bd_mul ha hb
  rw [jn_39]
  by_cases h : b < a
  · rw [if_neg (fun x => by have := (iI_le ha.s hb.s).mp x; omega), if_pos h]; rfl
  · rw [if_pos ((iI_le ha.s hb.s).mpr (by omega)), if_neg h]; rfl
theorem sj_40 {M : Mem} {a b : Int} (ha : bd a) (hb : bd b) : f_X10_joined (-10) (iI a) (iI b) M = some (iI (if a = b then 1 else 0), M) := by
  have z0 : sm 0 := bd0.s
  have m1 : ml (a + b) := by unfold bd at ha hb; unfold ml; omega
  have m2 : ml (a - b) := by unfold bd at ha hb; unfold ml; omega
  have m3 : ml (a * b) := bd_mul ha hb
  rw [jn_40]
  by_cases h : a = b
  · rw [if_pos ((iI_eq ha.s hb.s).mpr h), if_pos h]; rfl
  · rw [if_neg (fun x => h ((iI_eq ha.s hb.s).mp x)), if_neg h]; rfl
theorem sj_41 {M : Mem} {a b : Int} (ha : tru a) (hb : tru b) : f_X10_joined (-11) (iI a) (iI b) M = some (iI (if a = 1 ∧ b = 1 then 1 else 0), M) := by
  rw [jn_41, i_and ha hb]
theorem sj_42 {M : Mem} {a b : Int} (ha : tru a) (hb : tru b) : f_X10_joined (-12) (iI a) (iI b) M = some (iI (if a = 1 ∨ b = 1 then 1 else 0), M) := by
  rw [jn_42, i_or ha hb]
theorem st_31 {M : Mem} {a b : Int} (ha : bd a) (hb : bd b) : f_X12_two 31 (iL a) (iL b) M = some (iL (wn (a + b)), M) := by
  have z0 : sm 0 := bd0.s
  have m1 : ml (a + b) := by unfold bd at ha hb; unfold ml; omega
  have m2 : ml (a - b) := by unfold bd at ha hb; unfold ml; omega
  have m3 : ml (a * b) := bd_mul ha hb
  rw [tw_31]
  rw [iL_add, s_within m1, b_i]
theorem st_32 {M : Mem} {a b : Int} (ha : bd a) (hb : bd b) : f_X12_two 32 (iL a) (iL b) M = some (iL (wn (a - b)), M) := by
  have z0 : sm 0 := bd0.s
  have m1 : ml (a + b) := by unfold bd at ha hb; unfold ml; omega
  have m2 : ml (a - b) := by unfold bd at ha hb; unfold ml; omega
  have m3 : ml (a * b) := bd_mul ha hb
  rw [tw_32]
  rw [iL_sub, s_within m2, b_i]
theorem st_33 {M : Mem} {a b : Int} (ha : bd a) (hb : bd b) : f_X12_two 33 (iL a) (iL b) M = some (iL (wn (a * b)), M) := by
  have z0 : sm 0 := bd0.s
  have m1 : ml (a + b) := by unfold bd at ha hb; unfold ml; omega
  have m2 : ml (a - b) := by unfold bd at ha hb; unfold ml; omega
  have m3 : ml (a * b) := bd_mul ha hb
  rw [tw_33]
  rw [iL_mul, s_within m3, b_i]
theorem st_34 {M : Mem} {a b : Int} (ha : bd a) (hb : bd b) : f_X12_two 34 (iL a) (iL b) M = some (iL (if b = 0 then 0 else wn (fd a b)), M) := by
  have z0 : sm 0 := bd0.s
  have m1 : ml (a + b) := by unfold bd at ha hb; unfold ml; omega
  have m2 : ml (a - b) := by unfold bd at ha hb; unfold ml; omega
  have m3 : ml (a * b) := bd_mul ha hb
  rw [tw_34]
  by_cases h0 : b = 0
  · subst h0
    have : f_X12_floor (iL a) (iL 0) M = some (iL 0, M) := by
      unfold f_X12_floor
      exact ip ((iL_c0 m0 m0).mpr rfl) rfl
    rw [this, b_i, s_within m0, b_i, if_pos rfl]; rfl
  · rw [s_floor ha hb h0, b_i, s_within (bd_fd ha), b_i, if_neg h0]
theorem st_35 {M : Mem} {a b : Int} (ha : bd a) (hb : bd b) : f_X12_two 35 (iL a) (iL b) M = some (iL (if b = 0 then 0 else wn (a - b * fd a b)), M) := by
  have z0 : sm 0 := bd0.s
  have m1 : ml (a + b) := by unfold bd at ha hb; unfold ml; omega
  have m2 : ml (a - b) := by unfold bd at ha hb; unfold ml; omega
  have m3 : ml (a * b) := bd_mul ha hb
  rw [tw_35]
  by_cases h0 : b = 0
  · rw [if_pos h0]; exact ip ((iL_c0 hb.l m0).mpr h0) rfl
  · rw [if_neg h0]; refine im (fun x => h0 ((iL_c0 hb.l m0).mp x)) ?_
    rw [s_floor ha hb h0, b_i]
    dsimp only
    rw [iL_mul, iL_sub, s_within (ml_fm ha hb), b_i]; rfl
theorem st_36 {M : Mem} {a b : Int} (ha : bd a) (hb : bd b) : f_X12_two 36 (iL a) (iL b) M = some (iL (if a < b then a else b), M) := by
  have z0 : sm 0 := bd0.s
  have m1 : ml (a + b) := by unfold bd at ha hb; unfold ml; omega
  have m2 : ml (a - b) := by unfold bd at ha hb; unfold ml; omega
  have m3 : ml (a * b) := bd_mul ha hb
  rw [tw_36]
  by_cases h : a < b
  · rw [if_neg (fun x => by have := (iL_cge ha.l hb.l).mp x; omega), if_pos h]; rfl
  · rw [if_pos ((iL_cge ha.l hb.l).mpr (by omega)), if_neg h]; rfl
theorem st_37 {M : Mem} {a b : Int} (ha : bd a) (hb : bd b) : f_X12_two 37 (iL a) (iL b) M = some (iL (if b < a then a else b), M) := by
  have z0 : sm 0 := bd0.s
  have m1 : ml (a + b) := by unfold bd at ha hb; unfold ml; omega
  have m2 : ml (a - b) := by unfold bd at ha hb; unfold ml; omega
  have m3 : ml (a * b) := bd_mul ha hb
  rw [tw_37]
  by_cases h : b < a
  · rw [if_neg (fun x => by have := (iL_cle ha.l hb.l).mp x; omega), if_pos h]; rfl
  · rw [if_pos ((iL_cle ha.l hb.l).mpr (by omega)), if_neg h]; rfl
theorem st_38 {M : Mem} {a b : Int} (ha : bd a) (hb : bd b) : f_X12_two 38 (iL a) (iL b) M = some (iL (if a < b then 1 else 0), M) := by
  have z0 : sm 0 := bd0.s
  have m1 : ml (a + b) := by unfold bd at ha hb; unfold ml; omega
  have m2 : ml (a - b) := by unfold bd at ha hb; unfold ml; omega
  have m3 : ml (a * b) := bd_mul ha hb
  rw [tw_38]
  by_cases h : a < b
  · rw [if_neg (fun x => by have := (iL_cge ha.l hb.l).mp x; omega), if_pos h]; rfl
  · rw [if_pos ((iL_cge ha.l hb.l).mpr (by omega)), if_neg h]; rfl
theorem st_39 {M : Mem} {a b : Int} (ha : bd a) (hb : bd b) : f_X12_two 39 (iL a) (iL b) M = some (iL (if b < a then 1 else 0), M) := by
  have z0 : sm 0 := bd0.s
  have m1 : ml (a + b) := by unfold bd at ha hb; unfold ml; omega
  have m2 : ml (a - b) := by unfold bd at ha hb; unfold ml; omega
  have m3 : ml (a * b) := bd_mul ha hb
  rw [tw_39]
  by_cases h : b < a
  · rw [if_neg (fun x => by have := (iL_cle ha.l hb.l).mp x; omega), if_pos h]; rfl
  · rw [if_pos ((iL_cle ha.l hb.l).mpr (by omega)), if_neg h]; rfl
theorem st_40 {M : Mem} {a b : Int} (ha : bd a) (hb : bd b) : f_X12_two 40 (iL a) (iL b) M = some (iL (if a = b then 1 else 0), M) := by
  have z0 : sm 0 := bd0.s
  have m1 : ml (a + b) := by unfold bd at ha hb; unfold ml; omega
  have m2 : ml (a - b) := by unfold bd at ha hb; unfold ml; omega
  have m3 : ml (a * b) := bd_mul ha hb
  rw [tw_40]
  by_cases h : a = b
  · rw [if_pos ((iL_c0 ha.l hb.l).mpr h), if_pos h]; rfl
  · rw [if_neg (fun x => h ((iL_c0 ha.l hb.l).mp x)), if_neg h]; rfl
theorem st_41 {M : Mem} {a b : Int} (ha : tru a) (hb : tru b) : f_X12_two 41 (iL a) (iL b) M = some (iL (if a = 1 ∧ b = 1 then 1 else 0), M) := by
  rw [tw_41, l_and ha hb]
theorem st_42 {M : Mem} {a b : Int} (ha : tru a) (hb : tru b) : f_X12_two 42 (iL a) (iL b) M = some (iL (if a = 1 ∨ b = 1 then 1 else 0), M) := by
  rw [tw_42, l_or ha hb]
theorem opS_l : opS 31 = -1 ∧ opS 32 = -2 ∧ opS 33 = -3 ∧ opS 34 = -4 ∧ opS 35 = -5 ∧ opS 36 = -6 ∧ opS 37 = -7 ∧ opS 38 = -8 ∧ opS 39 = -9 ∧ opS 40 = -10 ∧ opS 41 = -11 ∧ opS 42 = -12 := by decide
theorem s_joined {M : Mem} {s : Nat} {a b : Int} (hs : 31 ≤ s) (hs2 : s ≤ 42) (ha : bd a) (hb : bd b) (ht : 41 ≤ s → tru a ∧ tru b) : f_X10_joined (opS s) (iI a) (iI b) M = some (iI (bop s a b), M) := by
  have hs3 : s = 31 ∨ s = 32 ∨ s = 33 ∨ s = 34 ∨ s = 35 ∨ s = 36 ∨ s = 37 ∨ s = 38 ∨ s = 39 ∨ s = 40 ∨ s = 41 ∨ s = 42 := by omega
  obtain ⟨o1, o2, o3, o4, o5, o6, o7, o8, o9, o10, o11, o12⟩ := opS_l
  rcases hs3 with e | e | e | e | e | e | e | e | e | e | e | e <;> subst e
  · rw [o1, bp_31]; exact sj_31 ha hb
  · rw [o2, bp_32]; exact sj_32 ha hb
  · rw [o3, bp_33]; exact sj_33 ha hb
  · rw [o4, bp_34]; exact sj_34 ha hb
  · rw [o5, bp_35]; exact sj_35 ha hb
  · rw [o6, bp_36]; exact sj_36 ha hb
  · rw [o7, bp_37]; exact sj_37 ha hb
  · rw [o8, bp_38]; exact sj_38 ha hb
  · rw [o9, bp_39]; exact sj_39 ha hb
  · rw [o10, bp_40]; exact sj_40 ha hb
  · rw [o11, bp_41]; exact sj_41 (ht (by decide)).1 (ht (by decide)).2
  · rw [o12, bp_42]; exact sj_42 (ht (by decide)).1 (ht (by decide)).2
theorem nS_l : nI 31 = 31 ∧ nI 32 = 32 ∧ nI 33 = 33 ∧ nI 34 = 34 ∧ nI 35 = 35 ∧ nI 36 = 36 ∧ nI 37 = 37 ∧ nI 38 = 38 ∧ nI 39 = 39 ∧ nI 40 = 40 ∧ nI 41 = 41 ∧ nI 42 = 42 := by decide
theorem s_two {M : Mem} {s : Nat} {a b : Int} (hs : 31 ≤ s) (hs2 : s ≤ 42) (ha : bd a) (hb : bd b) (ht : 41 ≤ s → tru a ∧ tru b) : f_X12_two (nI s) (iL a) (iL b) M = some (iL (bop s a b), M) := by
  have hs3 : s = 31 ∨ s = 32 ∨ s = 33 ∨ s = 34 ∨ s = 35 ∨ s = 36 ∨ s = 37 ∨ s = 38 ∨ s = 39 ∨ s = 40 ∨ s = 41 ∨ s = 42 := by omega
  obtain ⟨o1, o2, o3, o4, o5, o6, o7, o8, o9, o10, o11, o12⟩ := nS_l
  rcases hs3 with e | e | e | e | e | e | e | e | e | e | e | e <;> subst e
  · rw [o1, bp_31]; exact st_31 ha hb
  · rw [o2, bp_32]; exact st_32 ha hb
  · rw [o3, bp_33]; exact st_33 ha hb
  · rw [o4, bp_34]; exact st_34 ha hb
  · rw [o5, bp_35]; exact st_35 ha hb
  · rw [o6, bp_36]; exact st_36 ha hb
  · rw [o7, bp_37]; exact st_37 ha hb
  · rw [o8, bp_38]; exact st_38 ha hb
  · rw [o9, bp_39]; exact st_39 ha hb
  · rw [o10, bp_40]; exact st_40 ha hb
  · rw [o11, bp_41]; exact st_41 (ht (by decide)).1 (ht (by decide)).2
  · rw [o12, bp_42]; exact st_42 (ht (by decide)).1 (ht (by decide)).2
