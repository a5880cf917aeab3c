/-! the tables of powers and logarithms, products -/
def T_pw (M : Mem) (a m p : Nat) : Prop := ∀ k, k < fN m → zI M a k = nI (fpw m p k)
def T_lg (M : Mem) (a m p : Nat) : Prop := ∀ x, 1 ≤ x → x < 2 ^ m → zI M a x = nI (flg m p x)
def CO (M : Mem) (a pw ex m p : Nat) : Prop := (zrf M a 0 = some pw) ∧ (zrf M a 1 = some ex) ∧ ((zSH pw).2 = 63) ∧ ((zSH ex).2 = 64) ∧ (zI M a 7 = nI (fN m)) ∧ (T_pw M pw m p) ∧ (T_lg M ex m p) ∧ ((m, p) ∈ fPR)
theorem CO.r0 {M : Mem} {a pw ex m p : Nat} (h : CO M a pw ex m p) : zrf M a 0 = some pw := h.1
theorem CO.r1 {M : Mem} {a pw ex m p : Nat} (h : CO M a pw ex m p) : zrf M a 1 = some ex := h.2.1
theorem CO.s0 {M : Mem} {a pw ex m p : Nat} (h : CO M a pw ex m p) : (zSH pw).2 = 63 := h.2.2.1
theorem CO.s1 {M : Mem} {a pw ex m p : Nat} (h : CO M a pw ex m p) : (zSH ex).2 = 64 := h.2.2.2.1
theorem CO.sz {M : Mem} {a pw ex m p : Nat} (h : CO M a pw ex m p) : zI M a 7 = nI (fN m) := h.2.2.2.2.1
theorem CO.tp {M : Mem} {a pw ex m p : Nat} (h : CO M a pw ex m p) : T_pw M pw m p := h.2.2.2.2.2.1
theorem CO.tl {M : Mem} {a pw ex m p : Nat} (h : CO M a pw ex m p) : T_lg M ex m p := h.2.2.2.2.2.2.1
theorem CO.pr {M : Mem} {a pw ex m p : Nat} (h : CO M a pw ex m p) : (m, p) ∈ fPR := h.2.2.2.2.2.2.2
def MO (M : Mem) (m p : Nat) : Prop := (zrf M 355 42 = some 372) ∧ (zrf M 355 43 = some 373) ∧ (zI M 355 37 = nI (fN m)) ∧ (T_pw M 372 m p) ∧ (T_lg M 373 m p) ∧ ((m, p) ∈ fPR)
theorem MO.r0 {M : Mem} {m p : Nat} (h : MO M m p) : zrf M 355 42 = some 372 := h.1
theorem MO.r1 {M : Mem} {m p : Nat} (h : MO M m p) : zrf M 355 43 = some 373 := h.2.1
theorem MO.sz {M : Mem} {m p : Nat} (h : MO M m p) : zI M 355 37 = nI (fN m) := h.2.2.1
theorem MO.tp {M : Mem} {m p : Nat} (h : MO M m p) : T_pw M 372 m p := h.2.2.2.1
theorem MO.tl {M : Mem} {m p : Nat} (h : MO M m p) : T_lg M 373 m p := h.2.2.2.2.1
theorem MO.pr {M : Mem} {m p : Nat} (h : MO M m p) : (m, p) ∈ fPR := h.2.2.2.2.2
theorem fPR_m : fPR.all (fun q => decide (3 ≤ q.1) && decide (q.1 ≤ 6)) = true := by decide
theorem f_m {m p : Nat} (h : (m, p) ∈ fPR) : 7 ≤ fN m ∧ fN m ≤ 63 ∧ 2 ^ m = fN m + 1 := by
  have h1 := List.all_eq_true.mp fPR_m _ h
  simp only [Bool.and_eq_true, decide_eq_true_eq] at h1
  have h2 : m = 3 ∨ m = 4 ∨ m = 5 ∨ m = 6 := by omega
  rcases h2 with e | e | e | e <;> subst e <;> decide
theorem s_product {M : Mem} {a pw ex m p x y : Nat} (h : CO M a pw ex m p) (hx : x < 2 ^ m) (hy : y < 2 ^ m) : f_X1_product a (nI x) (nI y) M = some (nI (fmul m p x y), M) := by
  have hm := f_m h.pr
  unfold f_X1_product fmul
  by_cases h1 : x = 0
  · subst h1; rw [if_pos nI_0, if_pos (Or.inl rfl)]; rfl
  · rw [if_neg (nI_ne0 (by omega) (by omega))]
    by_cases h2 : y = 0
    · subst h2; rw [if_pos nI_0, if_pos (Or.inr rfl)]; rfl
    · have lx := f_pl h.pr (by omega : 1 ≤ x) hx
      have ly := f_pl h.pr (by omega : 1 ≤ y) hy
      rw [if_neg (nI_ne0 (by omega) (by omega)), if_neg (by omega), h.r1, b_i, zl_at 64 h.s1 (by omega) (by decide), b_i, b_i, zl_at 64 h.s1 (by omega) (by decide), b_i, h.r0, b_i, h.tl x (by omega) hx, h.tl y (by omega) hy, nI_add, h.sz]
      by_cases h3 : fN m ≤ flg m p x + flg m p y
      · rw [if_pos (nI_le h3 (by omega))]
        obtain ⟨d, hd⟩ := Nat.exists_eq_add_of_le h3
        unfold f_X1_product_46
        rw [hd, nI_sb, zl_at 63 h.s0 (by omega) (by decide), b_i, h.tp d (by omega), Nat.add_mod_left, Nat.mod_eq_of_lt (by omega)]
      · rw [if_neg (nI_ge (by omega) (by omega))]
        unfold f_X1_product_46
        rw [zl_at 63 h.s0 (by omega) (by decide), b_i, h.tp _ (by omega), Nat.mod_eq_of_lt (by omega)]
