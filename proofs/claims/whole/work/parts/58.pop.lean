/-! how many bits are set: the JDK's way and the plain one -/
def pop : Nat → Nat → Nat
  | 0, _ => 0
  | n + 1, x => x % 2 + pop n (x / 2)
theorem and_sp (k r s u v : Nat) (hr : r < 2 ^ k) (hu : u < 2 ^ k) : (r + 2 ^ k * s) &&& (u + 2 ^ k * v) = (r &&& u) + 2 ^ k * (s &&& v) := by
  have e1 : ((r + 2 ^ k * s) &&& (u + 2 ^ k * v)) % 2 ^ k = r &&& u := by
    rw [Nat.and_mod_two_pow, Nat.add_mul_mod_self_left, Nat.add_mul_mod_self_left, Nat.mod_eq_of_lt hr, Nat.mod_eq_of_lt hu]
  have e2 : ((r + 2 ^ k * s) &&& (u + 2 ^ k * v)) / 2 ^ k = s &&& v := by
    rw [Nat.and_div_two_pow, Nat.add_mul_div_left _ _ (Nat.pow_pos (by decide)), Nat.add_mul_div_left _ _ (Nat.pow_pos (by decide)), Nat.div_eq_of_lt hr, Nat.div_eq_of_lt hu, Nat.zero_add, Nat.zero_add]
  rw [← e1, ← e2, Nat.mod_add_div]
theorem and_sp8 (r s u v : Nat) (hr : r < 256) (hu : u < 256) : (r + 256 * s) &&& (u + 256 * v) = (r &&& u) + 256 * (s &&& v) := and_sp 8 r s u v hr hu
def pM (c : Nat) : Nat → Nat
  | 0 => 0
  | n + 1 => c + 256 * pM c n
def p1 (n x : Nat) : Nat := x - ((x / 2) &&& pM 85 n)
def p2 (n y : Nat) : Nat := (y &&& pM 51 n) + ((y / 4) &&& pM 51 n)
def p3 (n z : Nat) : Nat := (z + z / 16) &&& pM 15 n
theorem p1_t : ((List.range 256).all fun a => (List.range 2).all fun c => ((a / 2 + 128 * c) &&& 85) == ((a / 2) &&& 85)) = true := by decide +kernel
theorem p2_t : ((List.range 256).all fun a => (List.range 4).all fun c => ((a / 4 + 64 * c) &&& 51) == ((a / 4) &&& 51)) = true := by decide +kernel
theorem p3_t : ((List.range 256).all fun a => (List.range 5).all fun c => !(decide (a % 16 ≤ 4) && decide (a / 16 ≤ 4)) || (decide (a + a / 16 + 16 * c < 256) && ((a + a / 16 + 16 * c) &&& 15) == a % 16 + a / 16)) = true := by decide +kernel
def pb (a : Nat) : Nat := p3 1 (p2 1 (p1 1 a))
theorem pb_t : ((List.range 256).all fun a => decide (p1 1 a < 256) && decide (p2 1 (p1 1 a) % 16 ≤ 4) && decide (p2 1 (p1 1 a) / 16 ≤ 4) && (p2 1 (p1 1 a) % 16 + p2 1 (p1 1 a) / 16 == pop 8 a)) = true := by decide +kernel
theorem all_r {n : Nat} {P : Nat → Bool} (h : (List.range n).all P = true) {a : Nat} (ha : a < n) : P a = true := List.all_eq_true.mp h a (List.mem_range.mpr ha)
theorem p1_s (n a b : Nat) (ha : a < 256) : p1 (n + 1) (a + 256 * b) = p1 1 a + 256 * p1 n b ∧ p1 1 a ≤ a := by
  have h1 := all_r (all_r p1_t ha) (Nat.mod_lt b (show 2 > 0 by decide))
  have h1 : ((a / 2 + 128 * (b % 2)) &&& 85) = ((a / 2) &&& 85) := by simpa using h1
  have e : (a + 256 * b) / 2 = (a / 2 + 128 * (b % 2)) + 256 * (b / 2) := by omega
  unfold p1
  rw [e]
  show a + 256 * b - (_ &&& (85 + 256 * pM 85 n)) = a - ((a / 2) &&& (85 + 256 * 0)) + _ ∧ _
  rw [and_sp8 _ _ _ _ (by omega) (by decide), h1]
  have h2 : ((a / 2) &&& 85) ≤ a / 2 := Nat.and_le_left
  have h3 : ((b / 2) &&& pM 85 n) ≤ b / 2 := Nat.and_le_left
  rw [Nat.mul_zero, Nat.add_zero]
  exact ⟨by omega, by show a - ((a / 2) &&& (85 + 256 * 0)) ≤ a; omega⟩
theorem p2_s (n a b : Nat) (ha : a < 256) : p2 (n + 1) (a + 256 * b) = p2 1 a + 256 * p2 n b := by
  have h1 := all_r (all_r p2_t ha) (Nat.mod_lt b (show 4 > 0 by decide))
  have h1 : ((a / 4 + 64 * (b % 4)) &&& 51) = ((a / 4) &&& 51) := by simpa using h1
  have e : (a + 256 * b) / 4 = (a / 4 + 64 * (b % 4)) + 256 * (b / 4) := by omega
  unfold p2
  rw [e]
  show ((a + 256 * b) &&& (51 + 256 * pM 51 n)) + (_ &&& (51 + 256 * pM 51 n)) = (a &&& (51 + 256 * 0)) + ((a / 4) &&& (51 + 256 * 0)) + _
  rw [and_sp8 _ _ _ _ ha (by decide), and_sp8 _ _ _ _ (by omega) (by decide), h1, Nat.mul_zero, Nat.add_zero]
  omega
theorem p3_s (n a b : Nat) (ha : a < 256) (h1 : a % 16 ≤ 4) (h2 : a / 16 ≤ 4) (h3 : b % 16 ≤ 4) : p3 (n + 1) (a + 256 * b) = (a % 16 + a / 16) + 256 * p3 n b := by
  have h := all_r (all_r p3_t ha) (Nat.lt_succ_of_le h3)
  have h : a + a / 16 + 16 * (b % 16) < 256 ∧ ((a + a / 16 + 16 * (b % 16)) &&& 15) = a % 16 + a / 16 := by simpa [h1, h2] using h
  have e : (a + 256 * b) + (a + 256 * b) / 16 = (a + a / 16 + 16 * (b % 16)) + 256 * (b + b / 16) := by omega
  unfold p3
  rw [e]
  show _ &&& (15 + 256 * pM 15 n) = _
  rw [and_sp8 _ _ _ _ h.1 (by decide), h.2]
def pv (n x : Nat) : Nat := p3 n (p2 n (p1 n x))
theorem pv_s (n a b : Nat) (ha : a < 256) : pv (n + 1) (a + 256 * b) = pop 8 a + 256 * pv n b := by
  have h := all_r pb_t ha
  simp only [Bool.and_eq_true, decide_eq_true_eq, beq_iff_eq] at h
  obtain ⟨⟨⟨h1, h2⟩, h3⟩, h4⟩ := h
  have h5 : p2 n (p1 n b) % 16 ≤ 4 := by
    cases n with
    | zero => show ((_ &&& 0) + (_ &&& 0)) % 16 ≤ 4; rw [Nat.and_zero, Nat.and_zero]; decide
    | succ n =>
      have e : b = b % 256 + 256 * (b / 256) := by omega
      rw [e, (p1_s n _ _ (Nat.mod_lt _ (by decide))).1]
      have h := all_r pb_t (Nat.mod_lt b (show 256 > 0 by decide))
      simp only [Bool.and_eq_true, decide_eq_true_eq, beq_iff_eq] at h
      rw [p2_s n _ _ h.1.1.1]
      have := h.1.1.2
      omega
  unfold pv
  rw [(p1_s n a b ha).1, p2_s n _ _ h1, p3_s n _ _ (by omega) h2 h3 h5, h4]
theorem pop_sp (a b : Nat) (n : Nat) : ∀ k, a < 2 ^ k → pop (k + n) (a + 2 ^ k * b) = pop k a + pop n b := by
  intro k
  induction k generalizing a with
  | zero => intro ha; rw [show a = 0 by omega, Nat.zero_add, Nat.zero_add, Nat.pow_zero, Nat.one_mul]; exact (Nat.zero_add _).symm
  | succ k ih =>
    intro ha
    rw [show k + 1 + n = (k + n) + 1 by omega]
    show (a + 2 ^ (k + 1) * b) % 2 + pop (k + n) ((a + 2 ^ (k + 1) * b) / 2) = a % 2 + pop k (a / 2) + pop n b
    have e : a + 2 ^ (k + 1) * b = a + 2 * (2 ^ k * b) := by rw [Nat.pow_succ, Nat.mul_comm (2 ^ k) 2, Nat.mul_assoc]
    rw [e, show (a + 2 * (2 ^ k * b)) % 2 = a % 2 by omega, show (a + 2 * (2 ^ k * b)) / 2 = a / 2 + 2 ^ k * b by omega, ih (a / 2) (by rw [Nat.pow_succ] at ha; omega)]
    omega
