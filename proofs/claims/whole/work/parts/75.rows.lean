/-! pages: rows of the class, layers of the model, reads by a threshold -/
def PQ (q : Nat) : Prop := q = 13 ∨ q = 27 ∨ ∃ i, i < 20 ∧ q = 47 + 14 * i
set_option maxRecDepth 20000 in
theorem pq_all : ([13, 27] ++ (List.range 20).map (fun i => 47 + 14 * i)).all (fun q => decide ((q, 0, q + 2) ∈ WRl) && (List.range 6).all (fun p => decide ((q + 1, p, q + 2 + 2 * p + 1) ∈ WRl) && decide ((q + 2 + 2 * p, 0, q + 3 + 2 * p + 1) ∈ WRl)) && decide ((zSH (q + 1)).2 = 6) && (List.range 6).all (fun p => decide ((zSH (q + 3 + 2 * p)).2 = 63))) = true := by decide +kernel
theorem pq_get {q : Nat} (hq : PQ q) : (q, 0, q + 2) ∈ WRl ∧ (zSH (q + 1)).2 = 6 ∧ ∀ p, p < 6 → (q + 1, p, q + 2 + 2 * p + 1) ∈ WRl ∧ (q + 2 + 2 * p, 0, q + 3 + 2 * p + 1) ∈ WRl ∧ (zSH (q + 3 + 2 * p)).2 = 63 := by
  have hm : q ∈ [13, 27] ++ (List.range 20).map (fun i => 47 + 14 * i) := by
    rcases hq with h | h | ⟨i, hi, h⟩
    · subst h; exact List.mem_append.mpr (Or.inl (by decide))
    · subst h; exact List.mem_append.mpr (Or.inl (by decide))
    · subst h; exact List.mem_append.mpr (Or.inr (List.mem_map.mpr ⟨i, List.mem_range.mpr hi, rfl⟩))
  have h1 := List.all_eq_true.mp pq_all q hm
  simp only [Bool.and_eq_true, decide_eq_true_eq] at h1
  obtain ⟨⟨⟨h2, h3⟩, h4⟩, h5⟩ := h1
  refine ⟨h2, h4, fun p hp => ?_⟩
  have h6 := List.all_eq_true.mp h3 p (List.mem_range.mpr hp)
  have h7 := List.all_eq_true.mp h5 p (List.mem_range.mpr hp)
  simp only [Bool.and_eq_true, decide_eq_true_eq] at h6 h7
  exact ⟨h6.1, h6.2, h7⟩
theorem pq_0 {M : Mem} {q : Nat} (h : WRc M) (hq : PQ q) : zrf M q 0 = some (q + 1) := wr_mem h (pq_get hq).1
theorem pq_1 {M : Mem} {q p : Nat} (h : WRc M) (hq : PQ q) (hp : p < 6) : zrf M (q + 1) p = some (q + 2 + 2 * p) := wr_mem h ((pq_get hq).2.2 p hp).1
theorem pq_2 {M : Mem} {q p : Nat} (h : WRc M) (hq : PQ q) (hp : p < 6) : zrf M (q + 2 + 2 * p) 0 = some (q + 3 + 2 * p) := wr_mem h ((pq_get hq).2.2 p hp).2.1
theorem pq_s {q p : Nat} (hq : PQ q) (hp : p < 6) : (zSH (q + 3 + 2 * p)).2 = 63 := ((pq_get hq).2.2 p hp).2.2
/-- a row that the class can read: a page of one of its states, or the row for trials -/
def RQ (c : Nat) : Prop := c = 41 ∨ ∃ q p, PQ q ∧ p < 6 ∧ c = q + 2 + 2 * p
theorem rq_0 {M : Mem} {c : Nat} (h : WRc M) (hc : RQ c) : zrf M c 0 = some (c + 1) := by
  rcases hc with e | ⟨q, p, hq, hp, e⟩
  · subst e; exact w41_0 h
  · subst e; rw [pq_2 h hq hp]; congr 1; omega
theorem rq_s {c : Nat} (hc : RQ c) : (zSH (c + 1)).2 = 63 := by
  rcases hc with e | ⟨q, p, hq, hp, e⟩
  · subst e; rfl
  · subst e; have := pq_s hq hp; rwa [show q + 3 + 2 * p = q + 2 + 2 * p + 1 by omega] at this
theorem rq_b {c : Nat} (hc : RQ c) : 15 ≤ c ∧ c ≤ 325 := by
  rcases hc with e | ⟨q, p, hq, hp, e⟩
  · omega
  · rcases hq with h | h | ⟨i, hi, h⟩ <;> omega
def rdB (P : Nat → Bool) : Nat → Nat
  | 0 => 0
  | n + 1 => rdB P n ||| (if P n then 2 ^ n else 0)
theorem rdB_lt (P : Nat → Bool) : ∀ n, rdB P n < 2 ^ n := by
  intro n
  induction n with
  | zero => exact Nat.one_pos
  | succ n ih =>
    show rdB P n ||| (if P n then 2 ^ n else 0) < 2 ^ (n + 1)
    refine Nat.or_lt_two_pow (Nat.lt_of_lt_of_le ih (Nat.pow_le_pow_right (by decide) (by omega))) ?_
    by_cases h : P n = true
    · rw [if_pos h]; exact Nat.pow_lt_pow_right (by decide) (by omega)
    · rw [if_neg h]; exact Nat.pow_pos (by decide)
theorem rdB_ext {P Q : Nat → Bool} : ∀ n, (∀ k, k < n → P k = Q k) → rdB P n = rdB Q n := by
  intro n
  induction n with
  | zero => intro _; rfl
  | succ n ih =>
    intro h
    show rdB P n ||| (if P n then 2 ^ n else 0) = rdB Q n ||| (if Q n then 2 ^ n else 0)
    rw [ih (fun k hk => h k (by omega)), h n (by omega)]
theorem s_readBy {M : Mem} {c n : Nat} {x : Int32} (hW : WRc M) (hc : RQ c) (hn : n ≤ 63) : f_X8_readBy c x (nI n) M = some (lN (rdB (fun k => !decide (zI M (c + 1) k < x)) n), M) := by
  have l : ∀ d i f, i + d = n → f_X8_readBy_5 c x (nI n) (d + 1 + f) (lN (rdB (fun k => !decide (zI M (c + 1) k < x)) i)) (nI i) M = some (lN (rdB (fun k => !decide (zI M (c + 1) k < x)) n), M) := by
    intro d
    induction d with
    | zero =>
      intro i f e
      have e2 : i = n := by omega
      subst e2
      rw [show 0 + 1 + f = f + 1 by omega, f_X8_readBy_5, if_pos (nI_le (Nat.le_refl _) (by omega))]
    | succ d ih =>
      intro i f e
      rw [show d + 1 + 1 + f = (d + 1 + f) + 1 by omega, f_X8_readBy_5, if_neg (nI_ge (by omega) (by omega)), rq_0 hW hc, b_i, zl_at 63 (rq_s hc) (by omega) (by decide), b_i]
      unfold f_X8_readBy_29
      have hs : rdB (fun k => !decide (zI M (c + 1) k < x)) (i + 1) = rdB (fun k => !decide (zI M (c + 1) k < x)) i ||| (if (!decide (zI M (c + 1) i < x)) then 2 ^ i else 0) := rfl
      have ih := ih (i + 1) f (by omega)
      by_cases hb : zI M (c + 1) i < x
      · rw [decide_eq_true hb, if_neg (by decide), Nat.or_zero] at hs
        rw [if_pos hb, nI_1]
        rw [hs] at ih; exact ih
      · rw [decide_eq_false hb, if_pos (by decide)] at hs
        rw [if_neg hb, b_i, nI_1, lN_bit (by omega), lN_or, ← hs]
        exact ih
  have := l n 0 (1000000 - n - 1) (by omega)
  rw [show n + 1 + (1000000 - n - 1) = 1000000 by omega] at this
  exact this
theorem ix_m {v p k : Nat} : ((64 : Int32) * ((6 * nI v) + nI p)) + nI k = nI (64 * (6 * v + p) + k) := by
  rw [show (64 : Int32) = nI 64 from rfl, show (6 : Int32) = nI 6 from rfl, pk_mul, nI_add, pk_mul, nI_add]
theorem s_levelAt {M : Mem} {v p k : Nat} (hW : WRc M) (hv : v < 22) (hp : p < 6) (hk : k < 64) : f_X12_levelAt 355 (nI v) (nI p) (nI k) M = some (zI M 385 (64 * (6 * v + p) + k), M) := by
  unfold f_X12_levelAt
  rw [w355_59 hW, b_i, ix_m, zl_at 8448 rfl (by omega) (by decide), b_i]
theorem s_puts {M : Mem} {v p k : Nat} {x : Int32} (hW : WRc M) (hv : v < 22) (hp : p < 6) (hk : k < 64) : f_X12_puts 355 (nI v) (nI p) (nI k) x M = some (zsI M 385 (64 * (6 * v + p) + k) x) := by
  unfold f_X12_puts
  rw [w355_59 hW, b_i, ix_m, zl_at 8448 rfl (by omega) (by decide), b_i, b_i]
theorem s_bitsBy {M : Mem} {v p n : Nat} {x s : Int32} (hW : WRc M) (hv : v < 22) (hp : p < 6) (hn : n ≤ 63) (h39 : zI M 355 39 = nI n) : f_X12_bitsBy 355 (nI v) (nI p) x s M = some (lN (rdB (fun k => !decide (zI M 385 (64 * (6 * v + p) + k) + s < x)) n), M) := by
  have l : ∀ d i f, i + d = n → f_X12_bitsBy_6 355 (nI v) (nI p) x s (d + 1 + f) (lN (rdB (fun k => !decide (zI M 385 (64 * (6 * v + p) + k) + s < x)) i)) (nI i) M = some (lN (rdB (fun k => !decide (zI M 385 (64 * (6 * v + p) + k) + s < x)) n), M) := by
    intro d
    induction d with
    | zero =>
      intro i f e
      have e2 : i = n := by omega
      subst e2
      rw [show 0 + 1 + f = f + 1 by omega, f_X12_bitsBy_6, h39, if_pos (nI_le (Nat.le_refl _) (by omega))]
    | succ d ih =>
      intro i f e
      rw [show d + 1 + 1 + f = (d + 1 + f) + 1 by omega, f_X12_bitsBy_6, h39, if_neg (nI_ge (by omega) (by omega)), s_levelAt hW hv hp (by omega), b_i]
      unfold f_X12_bitsBy_40
      dsimp only
      have hs : rdB (fun k => !decide (zI M 385 (64 * (6 * v + p) + k) + s < x)) (i + 1) = rdB (fun k => !decide (zI M 385 (64 * (6 * v + p) + k) + s < x)) i ||| (if (!decide (zI M 385 (64 * (6 * v + p) + i) + s < x)) then 2 ^ i else 0) := rfl
      have ih := ih (i + 1) f (by omega)
      by_cases hb : zI M 385 (64 * (6 * v + p) + i) + s < x
      · rw [decide_eq_true hb, if_neg (by decide), Nat.or_zero] at hs
        rw [if_pos hb, nI_1, show (0 : Int64) = lN 0 from rfl, lN_or, Nat.or_zero]
        rw [hs] at ih; exact ih
      · rw [decide_eq_false hb, if_pos (by decide)] at hs
        rw [if_neg hb, nI_1, lN_bit (by omega), lN_or, ← hs]
        exact ih
  have := l n 0 (1000000 - n - 1) (by omega)
  rw [show n + 1 + (1000000 - n - 1) = 1000000 by omega] at this
  exact this
