/-! each of the sixteen is a field -/
def fmul (m p x y : Nat) : Nat := if x = 0 ∨ y = 0 then 0 else fpw m p ((flg m p x + flg m p y) % fN m)
section
variable {m p : Nat}
theorem f_ok (h : (m, p) ∈ fPR) : fok m p = true := List.all_eq_true.mp fok_all _ h
theorem f_rng (h : (m, p) ∈ fPR) {k : Nat} (hk : k < fN m) : 1 ≤ fpw m p k ∧ fpw m p k < 2 ^ m := by
  have := f_ok h
  simp only [fok, Bool.and_eq_true, decide_eq_true_eq] at this
  have h1 := List.all_eq_true.mp this.1.1.1.1 (fpw m p k) (List.mem_map.mpr ⟨k, List.mem_range.mpr hk, rfl⟩)
  simpa using h1
theorem f_lg (h : (m, p) ∈ fPR) {k : Nat} (hk : k < fN m) : flg m p (fpw m p k) = k := by
  have := f_ok h
  simp only [fok, Bool.and_eq_true, decide_eq_true_eq] at this
  have h2 := congrArg (fun l => l[k]?) this.1.1.1.2
  simp only [List.getElem?_map, List.getElem?_range hk, Option.map_some] at h2
  exact Option.some.inj h2
theorem f_ex (h : (m, p) ∈ fPR) {x : Nat} (h1 : 1 ≤ x) (h2 : x < 2 ^ m) : ∃ k, k < fN m ∧ fpw m p k = x := by
  have := f_ok h
  simp only [fok, Bool.and_eq_true, decide_eq_true_eq] at this
  have h3 := List.all_eq_true.mp this.1.1.2 (x - 1) (List.mem_range.mpr (by unfold fN; omega))
  rw [show x - 1 + 1 = x by omega] at h3
  obtain ⟨k, hk, e⟩ := List.mem_map.mp (List.contains_iff_mem.mp h3)
  exact ⟨k, List.mem_range.mp hk, e⟩
theorem f_pl (h : (m, p) ∈ fPR) {x : Nat} (h1 : 1 ≤ x) (h2 : x < 2 ^ m) : flg m p x < fN m ∧ fpw m p (flg m p x) = x := by
  obtain ⟨k, hk, e⟩ := f_ex h h1 h2
  rw [← e, f_lg h hk]
  exact ⟨hk, rfl⟩
theorem f_one (h : (m, p) ∈ fPR) : fpw m p (fN m) = 1 ∧ 2 ≤ fN m := by
  have := f_ok h
  simp only [fok, Bool.and_eq_true, decide_eq_true_eq] at this
  exact ⟨this.1.2, this.2⟩
theorem fit_pw (k j : Nat) : fit m p k (fpw m p j) = fpw m p (k + j) := by
  induction k with
  | zero => rw [Nat.zero_add]; rfl
  | succ k ih => rw [show k + 1 + j = (k + j) + 1 by omega]; show fmA m p (fit m p k _) = fmA m p _; rw [ih]
theorem f_per1 (h : (m, p) ∈ fPR) (k : Nat) : fpw m p (k + fN m) = fpw m p k := by
  rw [← fit_pw, (f_one h).1, show (1 : Nat) = fpw m p 0 from rfl, fit_pw, Nat.add_zero]
theorem f_per (h : (m, p) ∈ fPR) (k : Nat) : fpw m p (k % fN m) = fpw m p k := by
  have key : ∀ q r, fpw m p (r + q * fN m) = fpw m p r := by
    intro q
    induction q with
    | zero => intro r; rw [Nat.zero_mul, Nat.add_zero]
    | succ q ih => intro r; rw [Nat.succ_mul, ← Nat.add_assoc, f_per1 h, ih]
  have e : k = k % fN m + k / fN m * fN m := by rw [Nat.mul_comm]; exact (Nat.mod_add_div k (fN m)).symm
  conv => rhs; rw [e]
  exact (key _ _).symm
theorem f_pos (h : (m, p) ∈ fPR) (k : Nat) : 1 ≤ fpw m p k ∧ fpw m p k < 2 ^ m := by
  rw [← f_per h k]
  exact f_rng h (Nat.mod_lt _ (by have := (f_one h).2; omega))
theorem fmA_0 (hm : (m, p) ∈ fPR) : fmA m p 0 = 0 := by
  unfold fmA
  rw [Nat.mul_zero, Nat.zero_shiftRight, if_neg (by decide)]
theorem fmA_lt (h : (m, p) ∈ fPR) {x : Nat} (hx : x < 2 ^ m) : fmA m p x < 2 ^ m := by
  by_cases h0 : x = 0
  · subst h0; rw [fmA_0 h]; exact hx
  · obtain ⟨k, hk, e⟩ := f_ex h (by omega) hx
    rw [← e]; exact (f_pos h (k + 1)).2
theorem fmA_lin (h : (m, p) ∈ fPR) {x y : Nat} (hx : x < 2 ^ m) (hy : y < 2 ^ m) : fmA m p (x ^^^ y) = fmA m p x ^^^ fmA m p y := by
  have := List.all_eq_true.mp flin_all _ h
  have := List.all_eq_true.mp (List.all_eq_true.mp this x (List.mem_range.mpr hx)) y (List.mem_range.mpr hy)
  simpa using this
theorem fit_lt (h : (m, p) ∈ fPR) (k : Nat) {x : Nat} (hx : x < 2 ^ m) : fit m p k x < 2 ^ m := by
  induction k with
  | zero => exact hx
  | succ k ih => exact fmA_lt h ih
theorem fit_0 (h : (m, p) ∈ fPR) (k : Nat) : fit m p k 0 = 0 := by
  induction k with
  | zero => rfl
  | succ k ih => show fmA m p (fit m p k 0) = 0; rw [ih, fmA_0 h]
theorem fit_lin (h : (m, p) ∈ fPR) (k : Nat) {x y : Nat} (hx : x < 2 ^ m) (hy : y < 2 ^ m) : fit m p k (x ^^^ y) = fit m p k x ^^^ fit m p k y := by
  induction k with
  | zero => rfl
  | succ k ih => show fmA m p (fit m p k _) = fmA m p _ ^^^ fmA m p _; rw [ih, fmA_lin h (fit_lt h k hx) (fit_lt h k hy)]
theorem fmul_pw (h : (m, p) ∈ fPR) (i j : Nat) : fmul m p (fpw m p i) (fpw m p j) = fpw m p (i + j) := by
  have hp : 0 < fN m := by have := (f_one h).2; omega
  unfold fmul
  rw [if_neg (by have := (f_pos h i).1; have := (f_pos h j).1; omega), ← f_per h i, ← f_per h j, f_lg h (Nat.mod_lt _ hp), f_lg h (Nat.mod_lt _ hp), ← Nat.add_mod, f_per h]
theorem fmul_fit (h : (m, p) ∈ fPR) (i : Nat) {y : Nat} (hy : y < 2 ^ m) : fmul m p (fpw m p i) y = fit m p i y := by
  by_cases h0 : y = 0
  · subst h0; rw [fit_0 h]; unfold fmul; rw [if_pos (Or.inr rfl)]
  · obtain ⟨k, hk, e⟩ := f_ex h (by omega) hy
    rw [← e, fmul_pw h, fit_pw]
theorem fmul_lt (h : (m, p) ∈ fPR) {x y : Nat} (hx : x < 2 ^ m) : fmul m p x y < 2 ^ m := by
  unfold fmul
  by_cases h0 : x = 0 ∨ y = 0
  · rw [if_pos h0]; exact Nat.pow_pos (by decide)
  · rw [if_neg h0]; exact (f_pos h _).2
theorem fmul_comm (x y : Nat) : fmul m p x y = fmul m p y x := by
  unfold fmul
  by_cases h0 : x = 0 ∨ y = 0
  · rw [if_pos h0, if_pos h0.symm]
  · rw [if_neg h0, if_neg (fun h => h0 h.symm), Nat.add_comm]
theorem fmul_0 (x : Nat) : fmul m p 0 x = 0 := by unfold fmul; rw [if_pos (Or.inl rfl)]
theorem fmul_r0 (x : Nat) : fmul m p x 0 = 0 := by unfold fmul; rw [if_pos (Or.inr rfl)]
theorem fmul_assoc (h : (m, p) ∈ fPR) {x y z : Nat} (hx : x < 2 ^ m) (hy : y < 2 ^ m) (hz : z < 2 ^ m) : fmul m p (fmul m p x y) z = fmul m p x (fmul m p y z) := by
  by_cases h1 : x = 0
  · subst h1; rw [fmul_0, fmul_0, fmul_0]
  by_cases h2 : y = 0
  · subst h2; rw [fmul_r0, fmul_0, fmul_r0]
  by_cases h3 : z = 0
  · subst h3; rw [fmul_r0, fmul_r0, fmul_r0]
  obtain ⟨i, -, rfl⟩ := f_ex h (by omega) hx
  obtain ⟨j, -, rfl⟩ := f_ex h (by omega) hy
  obtain ⟨k, -, rfl⟩ := f_ex h (by omega) hz
  rw [fmul_pw h, fmul_pw h, fmul_pw h, fmul_pw h, Nat.add_assoc]
theorem fmul_1 (h : (m, p) ∈ fPR) {x : Nat} (hx : x < 2 ^ m) : fmul m p 1 x = x := by
  rw [show (1 : Nat) = fpw m p 0 from rfl, fmul_fit h 0 hx]; rfl
theorem fmul_add (h : (m, p) ∈ fPR) {x y z : Nat} (hx : x < 2 ^ m) (hy : y < 2 ^ m) (hz : z < 2 ^ m) : fmul m p x (y ^^^ z) = fmul m p x y ^^^ fmul m p x z := by
  by_cases h1 : x = 0
  · subst h1; rw [fmul_0, fmul_0, fmul_0]; rfl
  obtain ⟨i, -, rfl⟩ := f_ex h (by omega) hx
  rw [fmul_fit h i (Nat.xor_lt_two_pow hy hz), fmul_fit h i hy, fmul_fit h i hz, fit_lin h i hy hz]
theorem fmul_nz (h : (m, p) ∈ fPR) {x y : Nat} (e : fmul m p x y = 0) : x = 0 ∨ y = 0 := by
  refine Classical.byContradiction fun h0 => ?_
  unfold fmul at e
  rw [if_neg h0] at e
  have := (f_pos h ((flg m p x + flg m p y) % fN m)).1
  omega
theorem fmul_inv (h : (m, p) ∈ fPR) {x : Nat} (h1 : 1 ≤ x) (hx : x < 2 ^ m) : fmul m p x (fpw m p (fN m - flg m p x)) = 1 := by
  obtain ⟨k, hk, rfl⟩ := f_ex h h1 hx
  rw [f_lg h hk, fmul_pw h, show k + (fN m - k) = fN m by omega, (f_one h).1]
end
def fK (m : Nat) : Type := {x : Nat // x < 2 ^ m}
def fk0 (m : Nat) : fK m := ⟨0, Nat.pow_pos (by decide)⟩
def fk1 (m p : Nat) (h : (m, p) ∈ fPR) : fK m := ⟨1, (f_pos h 0).2⟩
def fkc (m p : Nat) (h : (m, p) ∈ fPR) (n : Nat) : fK m := if n % 2 = 1 then fk1 m p h else fk0 m
def fka (m : Nat) (x y : fK m) : fK m := ⟨x.1 ^^^ y.1, Nat.xor_lt_two_pow x.2 y.2⟩
def fkm (m p : Nat) (h : (m, p) ∈ fPR) (x y : fK m) : fK m := ⟨fmul m p x.1 y.1, fmul_lt h x.2⟩
def fkp (m p : Nat) (h : (m, p) ∈ fPR) (x : fK m) : Nat → fK m
  | 0 => fk1 m p h
  | n + 1 => fkm m p h (fkp m p h x n) x
theorem fka_self (m : Nat) (x : fK m) : fka m x x = fk0 m := Subtype.ext (Nat.xor_self _)
theorem fka_0 (m : Nat) (x : fK m) : fka m x (fk0 m) = x := Subtype.ext (Nat.xor_zero _)
theorem fka_comm (m : Nat) (x y : fK m) : fka m x y = fka m y x := Subtype.ext (Nat.xor_comm _ _)
theorem fka_assoc (m : Nat) (x y z : fK m) : fka m (fka m x y) z = fka m x (fka m y z) := Subtype.ext (Nat.xor_assoc _ _ _)
theorem fkm_comm (m p : Nat) (h : (m, p) ∈ fPR) (x y : fK m) : fkm m p h x y = fkm m p h y x := Subtype.ext (fmul_comm _ _)
theorem fkm_0 (m p : Nat) (h : (m, p) ∈ fPR) (x : fK m) : fkm m p h (fk0 m) x = fk0 m := Subtype.ext (fmul_0 (m := m) (p := p) x.1)
theorem fkm_1 (m p : Nat) (h : (m, p) ∈ fPR) (x : fK m) : fkm m p h (fk1 m p h) x = x := Subtype.ext (fmul_1 h x.2)
theorem fkm_add (m p : Nat) (h : (m, p) ∈ fPR) (x y z : fK m) : fkm m p h x (fka m y z) = fka m (fkm m p h x y) (fkm m p h x z) := Subtype.ext (fmul_add h x.2 y.2 z.2)
theorem fkc_succ (m p : Nat) (h : (m, p) ∈ fPR) (n : Nat) : fkc m p h (n + 1) = fka m (fkc m p h n) (fk1 m p h) := by
  unfold fkc
  by_cases hn : n % 2 = 1
  · rw [if_neg (by omega), if_pos hn, fka_self]
  · rw [if_pos (by omega), if_neg hn, fka_comm, fka_0]
def fRing (m p : Nat) (h : (m, p) ∈ fPR) : Lean.Grind.CommRing (fK m) where
  add := fka m
  mul := fkm m p h
  natCast := ⟨fkc m p h⟩
  ofNat := fun n => ⟨fkc m p h n⟩
  nsmul := ⟨fun n a => fkm m p h (fkc m p h n) a⟩
  npow := ⟨fkp m p h⟩
  add_zero := fka_0 m
  add_comm := fka_comm m
  add_assoc := fka_assoc m
  mul_assoc := fun x y z => Subtype.ext (fmul_assoc h x.2 y.2 z.2)
  mul_one := fun x => (fkm_comm m p h _ _).trans (fkm_1 m p h x)
  left_distrib := fkm_add m p h
  zero_mul := fkm_0 m p h
  one_mul := fkm_1 m p h
  mul_zero := fun x => (fkm_comm m p h _ _).trans (fkm_0 m p h x)
  right_distrib := fun x y z => ((fkm_comm m p h _ _).trans (fkm_add m p h z x y)).trans (by rw [fkm_comm m p h z x, fkm_comm m p h z y]; rfl)
  pow_zero := fun _ => rfl
  pow_succ := fun _ _ => rfl
  ofNat_succ := fkc_succ m p h
  mul_comm := fkm_comm m p h
  neg := fun x => x
  sub := fka m
  intCast := ⟨fun i => fkc m p h i.natAbs⟩
  zsmul := ⟨fun i a => fkm m p h (fkc m p h i.natAbs) a⟩
  neg_add_cancel := fun x => fka_self m x
  sub_eq_add_neg := fun _ _ => rfl
  neg_zsmul := fun i a => by show fkm m p h (fkc m p h (-i).natAbs) a = fkm m p h (fkc m p h i.natAbs) a; rw [Int.natAbs_neg]
  intCast_neg := fun i => by show fkc m p h (-i).natAbs = fkc m p h i.natAbs; rw [Int.natAbs_neg]
