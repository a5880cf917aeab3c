/-! calls: letter -/
theorem and31 (x : Nat) : x &&& 31 = x % 32 := by rw [show (31 : Nat) = 2 ^ 5 - 1 from rfl, Nat.and_two_pow_sub_one_eq_mod]
theorem and255q (x : Nat) : x &&& 255 = x % 256 := by rw [show (255 : Nat) = 2 ^ 8 - 1 from rfl, Nat.and_two_pow_sub_one_eq_mod]
theorem pk5_at {l : List Nat} (hl : NM l) {k : Nat} (hk : k < 6) : (pk5 l >>> (5 * (5 - k))) &&& 31 = lg l k ∧ pk5 l < 2 ^ 30 := by
  obtain ⟨h1, h2, h3⟩ := hl
  rw [and31, Nat.shiftRight_eq_div_pow]
  have hk' : k = 0 ∨ k = 1 ∨ k = 2 ∨ k = 3 ∨ k = 4 ∨ k = 5 := by omega
  rcases l with _ | ⟨a, _ | ⟨b, _ | ⟨c, _ | ⟨d, _ | ⟨e, _ | ⟨g, _ | ⟨i, l⟩⟩⟩⟩⟩⟩⟩
  · exact absurd h1 (by decide)
  · have qa := h3 a (by simp)
    rcases hk' with rfl | rfl | rfl | rfl | rfl | rfl
    · show ((0 * 32 + a) * 33554432) / 33554432 % 32 = a ∧ (0 * 32 + a) * 33554432 < 1073741824; omega
    · show ((0 * 32 + a) * 33554432) / 1048576 % 32 = 0 ∧ (0 * 32 + a) * 33554432 < 1073741824; omega
    · show ((0 * 32 + a) * 33554432) / 32768 % 32 = 0 ∧ (0 * 32 + a) * 33554432 < 1073741824; omega
    · show ((0 * 32 + a) * 33554432) / 1024 % 32 = 0 ∧ (0 * 32 + a) * 33554432 < 1073741824; omega
    · show ((0 * 32 + a) * 33554432) / 32 % 32 = 0 ∧ (0 * 32 + a) * 33554432 < 1073741824; omega
    · show ((0 * 32 + a) * 33554432) / 1 % 32 = 0 ∧ (0 * 32 + a) * 33554432 < 1073741824; omega
  · have qa := h3 a (by simp)
    have qb := h3 b (by simp)
    rcases hk' with rfl | rfl | rfl | rfl | rfl | rfl
    · show (((0 * 32 + a) * 32 + b) * 1048576) / 33554432 % 32 = a ∧ ((0 * 32 + a) * 32 + b) * 1048576 < 1073741824; omega
    · show (((0 * 32 + a) * 32 + b) * 1048576) / 1048576 % 32 = b ∧ ((0 * 32 + a) * 32 + b) * 1048576 < 1073741824; omega
    · show (((0 * 32 + a) * 32 + b) * 1048576) / 32768 % 32 = 0 ∧ ((0 * 32 + a) * 32 + b) * 1048576 < 1073741824; omega
    · show (((0 * 32 + a) * 32 + b) * 1048576) / 1024 % 32 = 0 ∧ ((0 * 32 + a) * 32 + b) * 1048576 < 1073741824; omega
    · show (((0 * 32 + a) * 32 + b) * 1048576) / 32 % 32 = 0 ∧ ((0 * 32 + a) * 32 + b) * 1048576 < 1073741824; omega
    · show (((0 * 32 + a) * 32 + b) * 1048576) / 1 % 32 = 0 ∧ ((0 * 32 + a) * 32 + b) * 1048576 < 1073741824; omega
  · have qa := h3 a (by simp)
    have qb := h3 b (by simp)
    have qc := h3 c (by simp)
    rcases hk' with rfl | rfl | rfl | rfl | rfl | rfl
    · show ((((0 * 32 + a) * 32 + b) * 32 + c) * 32768) / 33554432 % 32 = a ∧ (((0 * 32 + a) * 32 + b) * 32 + c) * 32768 < 1073741824; omega
    · show ((((0 * 32 + a) * 32 + b) * 32 + c) * 32768) / 1048576 % 32 = b ∧ (((0 * 32 + a) * 32 + b) * 32 + c) * 32768 < 1073741824; omega
    · show ((((0 * 32 + a) * 32 + b) * 32 + c) * 32768) / 32768 % 32 = c ∧ (((0 * 32 + a) * 32 + b) * 32 + c) * 32768 < 1073741824; omega
    · show ((((0 * 32 + a) * 32 + b) * 32 + c) * 32768) / 1024 % 32 = 0 ∧ (((0 * 32 + a) * 32 + b) * 32 + c) * 32768 < 1073741824; omega
    · show ((((0 * 32 + a) * 32 + b) * 32 + c) * 32768) / 32 % 32 = 0 ∧ (((0 * 32 + a) * 32 + b) * 32 + c) * 32768 < 1073741824; omega
    · show ((((0 * 32 + a) * 32 + b) * 32 + c) * 32768) / 1 % 32 = 0 ∧ (((0 * 32 + a) * 32 + b) * 32 + c) * 32768 < 1073741824; omega
  · have qa := h3 a (by simp)
    have qb := h3 b (by simp)
    have qc := h3 c (by simp)
    have qd := h3 d (by simp)
    rcases hk' with rfl | rfl | rfl | rfl | rfl | rfl
    · show (((((0 * 32 + a) * 32 + b) * 32 + c) * 32 + d) * 1024) / 33554432 % 32 = a ∧ ((((0 * 32 + a) * 32 + b) * 32 + c) * 32 + d) * 1024 < 1073741824; omega
    · show (((((0 * 32 + a) * 32 + b) * 32 + c) * 32 + d) * 1024) / 1048576 % 32 = b ∧ ((((0 * 32 + a) * 32 + b) * 32 + c) * 32 + d) * 1024 < 1073741824; omega
    · show (((((0 * 32 + a) * 32 + b) * 32 + c) * 32 + d) * 1024) / 32768 % 32 = c ∧ ((((0 * 32 + a) * 32 + b) * 32 + c) * 32 + d) * 1024 < 1073741824; omega
    · show (((((0 * 32 + a) * 32 + b) * 32 + c) * 32 + d) * 1024) / 1024 % 32 = d ∧ ((((0 * 32 + a) * 32 + b) * 32 + c) * 32 + d) * 1024 < 1073741824; omega
    · show (((((0 * 32 + a) * 32 + b) * 32 + c) * 32 + d) * 1024) / 32 % 32 = 0 ∧ ((((0 * 32 + a) * 32 + b) * 32 + c) * 32 + d) * 1024 < 1073741824; omega
    · show (((((0 * 32 + a) * 32 + b) * 32 + c) * 32 + d) * 1024) / 1 % 32 = 0 ∧ ((((0 * 32 + a) * 32 + b) * 32 + c) * 32 + d) * 1024 < 1073741824; omega
  · have qa := h3 a (by simp)
    have qb := h3 b (by simp)
    have qc := h3 c (by simp)
    have qd := h3 d (by simp)
    have qe := h3 e (by simp)
    rcases hk' with rfl | rfl | rfl | rfl | rfl | rfl
    · show ((((((0 * 32 + a) * 32 + b) * 32 + c) * 32 + d) * 32 + e) * 32) / 33554432 % 32 = a ∧ (((((0 * 32 + a) * 32 + b) * 32 + c) * 32 + d) * 32 + e) * 32 < 1073741824; omega
    · show ((((((0 * 32 + a) * 32 + b) * 32 + c) * 32 + d) * 32 + e) * 32) / 1048576 % 32 = b ∧ (((((0 * 32 + a) * 32 + b) * 32 + c) * 32 + d) * 32 + e) * 32 < 1073741824; omega
    · show ((((((0 * 32 + a) * 32 + b) * 32 + c) * 32 + d) * 32 + e) * 32) / 32768 % 32 = c ∧ (((((0 * 32 + a) * 32 + b) * 32 + c) * 32 + d) * 32 + e) * 32 < 1073741824; omega
    · show ((((((0 * 32 + a) * 32 + b) * 32 + c) * 32 + d) * 32 + e) * 32) / 1024 % 32 = d ∧ (((((0 * 32 + a) * 32 + b) * 32 + c) * 32 + d) * 32 + e) * 32 < 1073741824; omega
    · show ((((((0 * 32 + a) * 32 + b) * 32 + c) * 32 + d) * 32 + e) * 32) / 32 % 32 = e ∧ (((((0 * 32 + a) * 32 + b) * 32 + c) * 32 + d) * 32 + e) * 32 < 1073741824; omega
    · show ((((((0 * 32 + a) * 32 + b) * 32 + c) * 32 + d) * 32 + e) * 32) / 1 % 32 = 0 ∧ (((((0 * 32 + a) * 32 + b) * 32 + c) * 32 + d) * 32 + e) * 32 < 1073741824; omega
  · have qa := h3 a (by simp)
    have qb := h3 b (by simp)
    have qc := h3 c (by simp)
    have qd := h3 d (by simp)
    have qe := h3 e (by simp)
    have qg := h3 g (by simp)
    rcases hk' with rfl | rfl | rfl | rfl | rfl | rfl
    · show (((((((0 * 32 + a) * 32 + b) * 32 + c) * 32 + d) * 32 + e) * 32 + g) * 1) / 33554432 % 32 = a ∧ ((((((0 * 32 + a) * 32 + b) * 32 + c) * 32 + d) * 32 + e) * 32 + g) * 1 < 1073741824; omega
    · show (((((((0 * 32 + a) * 32 + b) * 32 + c) * 32 + d) * 32 + e) * 32 + g) * 1) / 1048576 % 32 = b ∧ ((((((0 * 32 + a) * 32 + b) * 32 + c) * 32 + d) * 32 + e) * 32 + g) * 1 < 1073741824; omega
    · show (((((((0 * 32 + a) * 32 + b) * 32 + c) * 32 + d) * 32 + e) * 32 + g) * 1) / 32768 % 32 = c ∧ ((((((0 * 32 + a) * 32 + b) * 32 + c) * 32 + d) * 32 + e) * 32 + g) * 1 < 1073741824; omega
    · show (((((((0 * 32 + a) * 32 + b) * 32 + c) * 32 + d) * 32 + e) * 32 + g) * 1) / 1024 % 32 = d ∧ ((((((0 * 32 + a) * 32 + b) * 32 + c) * 32 + d) * 32 + e) * 32 + g) * 1 < 1073741824; omega
    · show (((((((0 * 32 + a) * 32 + b) * 32 + c) * 32 + d) * 32 + e) * 32 + g) * 1) / 32 % 32 = e ∧ ((((((0 * 32 + a) * 32 + b) * 32 + c) * 32 + d) * 32 + e) * 32 + g) * 1 < 1073741824; omega
    · show (((((((0 * 32 + a) * 32 + b) * 32 + c) * 32 + d) * 32 + e) * 32 + g) * 1) / 1 % 32 = g ∧ ((((((0 * 32 + a) * 32 + b) * 32 + c) * 32 + d) * 32 + e) * 32 + g) * 1 < 1073741824; omega
  · simp only [List.length_cons] at h2; omega
theorem pk8_z {l : List Nat} (hl : NM l) : pk8 l < 2 ^ 48 ∧ pk8 l >>> (8 * l.length) = 0 := by
  obtain ⟨h1, h2, h3⟩ := hl
  rw [Nat.shiftRight_eq_div_pow]
  rcases l with _ | ⟨a, _ | ⟨b, _ | ⟨c, _ | ⟨d, _ | ⟨e, _ | ⟨g, _ | ⟨i, l⟩⟩⟩⟩⟩⟩⟩
  · exact absurd h1 (by decide)
  · have qa := h3 a (by simp)
    rw [show pk8 [a] = (0 * 256 + (a + 96)) from rfl, show 8 * [a].length = 8 from rfl, show (2 : Nat) ^ 48 = 281474976710656 from rfl, show (2 : Nat) ^ 8 = 256 from rfl]; omega
  · have qa := h3 a (by simp)
    have qb := h3 b (by simp)
    rw [show pk8 [a, b] = ((0 * 256 + (a + 96)) * 256 + (b + 96)) from rfl, show 8 * [a, b].length = 16 from rfl, show (2 : Nat) ^ 48 = 281474976710656 from rfl, show (2 : Nat) ^ 16 = 65536 from rfl]; omega
  · have qa := h3 a (by simp)
    have qb := h3 b (by simp)
    have qc := h3 c (by simp)
    rw [show pk8 [a, b, c] = (((0 * 256 + (a + 96)) * 256 + (b + 96)) * 256 + (c + 96)) from rfl, show 8 * [a, b, c].length = 24 from rfl, show (2 : Nat) ^ 48 = 281474976710656 from rfl, show (2 : Nat) ^ 24 = 16777216 from rfl]; omega
  · have qa := h3 a (by simp)
    have qb := h3 b (by simp)
    have qc := h3 c (by simp)
    have qd := h3 d (by simp)
    rw [show pk8 [a, b, c, d] = ((((0 * 256 + (a + 96)) * 256 + (b + 96)) * 256 + (c + 96)) * 256 + (d + 96)) from rfl, show 8 * [a, b, c, d].length = 32 from rfl, show (2 : Nat) ^ 48 = 281474976710656 from rfl, show (2 : Nat) ^ 32 = 4294967296 from rfl]; omega
  · have qa := h3 a (by simp)
    have qb := h3 b (by simp)
    have qc := h3 c (by simp)
    have qd := h3 d (by simp)
    have qe := h3 e (by simp)
    rw [show pk8 [a, b, c, d, e] = (((((0 * 256 + (a + 96)) * 256 + (b + 96)) * 256 + (c + 96)) * 256 + (d + 96)) * 256 + (e + 96)) from rfl, show 8 * [a, b, c, d, e].length = 40 from rfl, show (2 : Nat) ^ 48 = 281474976710656 from rfl, show (2 : Nat) ^ 40 = 1099511627776 from rfl]; omega
  · have qa := h3 a (by simp)
    have qb := h3 b (by simp)
    have qc := h3 c (by simp)
    have qd := h3 d (by simp)
    have qe := h3 e (by simp)
    have qg := h3 g (by simp)
    rw [show pk8 [a, b, c, d, e, g] = ((((((0 * 256 + (a + 96)) * 256 + (b + 96)) * 256 + (c + 96)) * 256 + (d + 96)) * 256 + (e + 96)) * 256 + (g + 96)) from rfl, show 8 * [a, b, c, d, e, g].length = 48 from rfl, show (2 : Nat) ^ 48 = 281474976710656 from rfl]; omega
  · simp only [List.length_cons] at h2; omega
theorem pk8_at {l : List Nat} (hl : NM l) {k : Nat} (hk : k < l.length) : (pk8 l >>> (8 * (l.length - 1 - k))) &&& 255 = lg l k + 96 ∧ ¬ pk8 l >>> (8 * k) = 0 ∧ 1 ≤ lg l k ∧ lg l k ≤ 26 := by
  obtain ⟨h1, h2, h3⟩ := hl
  rw [and255q, Nat.shiftRight_eq_div_pow, Nat.shiftRight_eq_div_pow]
  rcases l with _ | ⟨a, _ | ⟨b, _ | ⟨c, _ | ⟨d, _ | ⟨e, _ | ⟨g, _ | ⟨i, l⟩⟩⟩⟩⟩⟩⟩
  · exact absurd h1 (by decide)
  · have qa := h3 a (by simp)
    have hk' : k = 0 := by simp only [List.length_cons, List.length_nil] at hk; omega
    rcases hk' with rfl
    · rw [show pk8 [a] = (0 * 256 + (a + 96)) from rfl, show lg [a] 0 = a from rfl, show 8 * ([a].length - 1 - 0) = 0 from rfl, show 8 * 0 = 0 from rfl, show (2 : Nat) ^ 0 = 1 from rfl]; omega
  · have qa := h3 a (by simp)
    have qb := h3 b (by simp)
    have hk' : k = 0 ∨ k = 1 := by simp only [List.length_cons, List.length_nil] at hk; omega
    rcases hk' with rfl | rfl
    · rw [show pk8 [a, b] = ((0 * 256 + (a + 96)) * 256 + (b + 96)) from rfl, show lg [a, b] 0 = a from rfl, show 8 * ([a, b].length - 1 - 0) = 8 from rfl, show 8 * 0 = 0 from rfl, show (2 : Nat) ^ 8 = 256 from rfl, show (2 : Nat) ^ 0 = 1 from rfl]; omega
    · rw [show pk8 [a, b] = ((0 * 256 + (a + 96)) * 256 + (b + 96)) from rfl, show lg [a, b] 1 = b from rfl, show 8 * ([a, b].length - 1 - 1) = 0 from rfl, show 8 * 1 = 8 from rfl, show (2 : Nat) ^ 0 = 1 from rfl, show (2 : Nat) ^ 8 = 256 from rfl]; omega
  · have qa := h3 a (by simp)
    have qb := h3 b (by simp)
    have qc := h3 c (by simp)
    have hk' : k = 0 ∨ k = 1 ∨ k = 2 := by simp only [List.length_cons, List.length_nil] at hk; omega
    rcases hk' with rfl | rfl | rfl
    · rw [show pk8 [a, b, c] = (((0 * 256 + (a + 96)) * 256 + (b + 96)) * 256 + (c + 96)) from rfl, show lg [a, b, c] 0 = a from rfl, show 8 * ([a, b, c].length - 1 - 0) = 16 from rfl, show 8 * 0 = 0 from rfl, show (2 : Nat) ^ 16 = 65536 from rfl, show (2 : Nat) ^ 0 = 1 from rfl]; omega
    · rw [show pk8 [a, b, c] = (((0 * 256 + (a + 96)) * 256 + (b + 96)) * 256 + (c + 96)) from rfl, show lg [a, b, c] 1 = b from rfl, show 8 * ([a, b, c].length - 1 - 1) = 8 from rfl, show 8 * 1 = 8 from rfl, show (2 : Nat) ^ 8 = 256 from rfl]; omega
    · rw [show pk8 [a, b, c] = (((0 * 256 + (a + 96)) * 256 + (b + 96)) * 256 + (c + 96)) from rfl, show lg [a, b, c] 2 = c from rfl, show 8 * ([a, b, c].length - 1 - 2) = 0 from rfl, show 8 * 2 = 16 from rfl, show (2 : Nat) ^ 0 = 1 from rfl, show (2 : Nat) ^ 16 = 65536 from rfl]; omega
  · have qa := h3 a (by simp)
    have qb := h3 b (by simp)
    have qc := h3 c (by simp)
    have qd := h3 d (by simp)
    have hk' : k = 0 ∨ k = 1 ∨ k = 2 ∨ k = 3 := by simp only [List.length_cons, List.length_nil] at hk; omega
    rcases hk' with rfl | rfl | rfl | rfl
    · rw [show pk8 [a, b, c, d] = ((((0 * 256 + (a + 96)) * 256 + (b + 96)) * 256 + (c + 96)) * 256 + (d + 96)) from rfl, show lg [a, b, c, d] 0 = a from rfl, show 8 * ([a, b, c, d].length - 1 - 0) = 24 from rfl, show 8 * 0 = 0 from rfl, show (2 : Nat) ^ 24 = 16777216 from rfl, show (2 : Nat) ^ 0 = 1 from rfl]; omega
    · rw [show pk8 [a, b, c, d] = ((((0 * 256 + (a + 96)) * 256 + (b + 96)) * 256 + (c + 96)) * 256 + (d + 96)) from rfl, show lg [a, b, c, d] 1 = b from rfl, show 8 * ([a, b, c, d].length - 1 - 1) = 16 from rfl, show 8 * 1 = 8 from rfl, show (2 : Nat) ^ 16 = 65536 from rfl, show (2 : Nat) ^ 8 = 256 from rfl]; omega
    · rw [show pk8 [a, b, c, d] = ((((0 * 256 + (a + 96)) * 256 + (b + 96)) * 256 + (c + 96)) * 256 + (d + 96)) from rfl, show lg [a, b, c, d] 2 = c from rfl, show 8 * ([a, b, c, d].length - 1 - 2) = 8 from rfl, show 8 * 2 = 16 from rfl, show (2 : Nat) ^ 8 = 256 from rfl, show (2 : Nat) ^ 16 = 65536 from rfl]; omega
    · rw [show pk8 [a, b, c, d] = ((((0 * 256 + (a + 96)) * 256 + (b + 96)) * 256 + (c + 96)) * 256 + (d + 96)) from rfl, show lg [a, b, c, d] 3 = d from rfl, show 8 * ([a, b, c, d].length - 1 - 3) = 0 from rfl, show 8 * 3 = 24 from rfl, show (2 : Nat) ^ 0 = 1 from rfl, show (2 : Nat) ^ 24 = 16777216 from rfl]; omega
  · have qa := h3 a (by simp)
    have qb := h3 b (by simp)
    have qc := h3 c (by simp)
    have qd := h3 d (by simp)
    have qe := h3 e (by simp)
    have hk' : k = 0 ∨ k = 1 ∨ k = 2 ∨ k = 3 ∨ k = 4 := by simp only [List.length_cons, List.length_nil] at hk; omega
    rcases hk' with rfl | rfl | rfl | rfl | rfl
    · rw [show pk8 [a, b, c, d, e] = (((((0 * 256 + (a + 96)) * 256 + (b + 96)) * 256 + (c + 96)) * 256 + (d + 96)) * 256 + (e + 96)) from rfl, show lg [a, b, c, d, e] 0 = a from rfl, show 8 * ([a, b, c, d, e].length - 1 - 0) = 32 from rfl, show 8 * 0 = 0 from rfl, show (2 : Nat) ^ 32 = 4294967296 from rfl, show (2 : Nat) ^ 0 = 1 from rfl]; omega
    · rw [show pk8 [a, b, c, d, e] = (((((0 * 256 + (a + 96)) * 256 + (b + 96)) * 256 + (c + 96)) * 256 + (d + 96)) * 256 + (e + 96)) from rfl, show lg [a, b, c, d, e] 1 = b from rfl, show 8 * ([a, b, c, d, e].length - 1 - 1) = 24 from rfl, show 8 * 1 = 8 from rfl, show (2 : Nat) ^ 24 = 16777216 from rfl, show (2 : Nat) ^ 8 = 256 from rfl]; omega
    · rw [show pk8 [a, b, c, d, e] = (((((0 * 256 + (a + 96)) * 256 + (b + 96)) * 256 + (c + 96)) * 256 + (d + 96)) * 256 + (e + 96)) from rfl, show lg [a, b, c, d, e] 2 = c from rfl, show 8 * ([a, b, c, d, e].length - 1 - 2) = 16 from rfl, show 8 * 2 = 16 from rfl, show (2 : Nat) ^ 16 = 65536 from rfl]; omega
    · rw [show pk8 [a, b, c, d, e] = (((((0 * 256 + (a + 96)) * 256 + (b + 96)) * 256 + (c + 96)) * 256 + (d + 96)) * 256 + (e + 96)) from rfl, show lg [a, b, c, d, e] 3 = d from rfl, show 8 * ([a, b, c, d, e].length - 1 - 3) = 8 from rfl, show 8 * 3 = 24 from rfl, show (2 : Nat) ^ 8 = 256 from rfl, show (2 : Nat) ^ 24 = 16777216 from rfl]; omega
    · rw [show pk8 [a, b, c, d, e] = (((((0 * 256 + (a + 96)) * 256 + (b + 96)) * 256 + (c + 96)) * 256 + (d + 96)) * 256 + (e + 96)) from rfl, show lg [a, b, c, d, e] 4 = e from rfl, show 8 * ([a, b, c, d, e].length - 1 - 4) = 0 from rfl, show 8 * 4 = 32 from rfl, show (2 : Nat) ^ 0 = 1 from rfl, show (2 : Nat) ^ 32 = 4294967296 from rfl]; omega
  · have qa := h3 a (by simp)
    have qb := h3 b (by simp)
    have qc := h3 c (by simp)
    have qd := h3 d (by simp)
    have qe := h3 e (by simp)
    have qg := h3 g (by simp)
    have hk' : k = 0 ∨ k = 1 ∨ k = 2 ∨ k = 3 ∨ k = 4 ∨ k = 5 := by simp only [List.length_cons, List.length_nil] at hk; omega
    rcases hk' with rfl | rfl | rfl | rfl | rfl | rfl
    · rw [show pk8 [a, b, c, d, e, g] = ((((((0 * 256 + (a + 96)) * 256 + (b + 96)) * 256 + (c + 96)) * 256 + (d + 96)) * 256 + (e + 96)) * 256 + (g + 96)) from rfl, show lg [a, b, c, d, e, g] 0 = a from rfl, show 8 * ([a, b, c, d, e, g].length - 1 - 0) = 40 from rfl, show 8 * 0 = 0 from rfl, show (2 : Nat) ^ 40 = 1099511627776 from rfl, show (2 : Nat) ^ 0 = 1 from rfl]; omega
    · rw [show pk8 [a, b, c, d, e, g] = ((((((0 * 256 + (a + 96)) * 256 + (b + 96)) * 256 + (c + 96)) * 256 + (d + 96)) * 256 + (e + 96)) * 256 + (g + 96)) from rfl, show lg [a, b, c, d, e, g] 1 = b from rfl, show 8 * ([a, b, c, d, e, g].length - 1 - 1) = 32 from rfl, show 8 * 1 = 8 from rfl, show (2 : Nat) ^ 32 = 4294967296 from rfl, show (2 : Nat) ^ 8 = 256 from rfl]; omega
    · rw [show pk8 [a, b, c, d, e, g] = ((((((0 * 256 + (a + 96)) * 256 + (b + 96)) * 256 + (c + 96)) * 256 + (d + 96)) * 256 + (e + 96)) * 256 + (g + 96)) from rfl, show lg [a, b, c, d, e, g] 2 = c from rfl, show 8 * ([a, b, c, d, e, g].length - 1 - 2) = 24 from rfl, show 8 * 2 = 16 from rfl, show (2 : Nat) ^ 24 = 16777216 from rfl, show (2 : Nat) ^ 16 = 65536 from rfl]; omega
    · rw [show pk8 [a, b, c, d, e, g] = ((((((0 * 256 + (a + 96)) * 256 + (b + 96)) * 256 + (c + 96)) * 256 + (d + 96)) * 256 + (e + 96)) * 256 + (g + 96)) from rfl, show lg [a, b, c, d, e, g] 3 = d from rfl, show 8 * ([a, b, c, d, e, g].length - 1 - 3) = 16 from rfl, show 8 * 3 = 24 from rfl, show (2 : Nat) ^ 16 = 65536 from rfl, show (2 : Nat) ^ 24 = 16777216 from rfl]; omega
    · rw [show pk8 [a, b, c, d, e, g] = ((((((0 * 256 + (a + 96)) * 256 + (b + 96)) * 256 + (c + 96)) * 256 + (d + 96)) * 256 + (e + 96)) * 256 + (g + 96)) from rfl, show lg [a, b, c, d, e, g] 4 = e from rfl, show 8 * ([a, b, c, d, e, g].length - 1 - 4) = 8 from rfl, show 8 * 4 = 32 from rfl, show (2 : Nat) ^ 8 = 256 from rfl, show (2 : Nat) ^ 32 = 4294967296 from rfl]; omega
    · rw [show pk8 [a, b, c, d, e, g] = ((((((0 * 256 + (a + 96)) * 256 + (b + 96)) * 256 + (c + 96)) * 256 + (d + 96)) * 256 + (e + 96)) * 256 + (g + 96)) from rfl, show lg [a, b, c, d, e, g] 5 = g from rfl, show 8 * ([a, b, c, d, e, g].length - 1 - 5) = 0 from rfl, show 8 * 5 = 40 from rfl, show (2 : Nat) ^ 0 = 1 from rfl, show (2 : Nat) ^ 40 = 1099511627776 from rfl]; omega
  · simp only [List.length_cons] at h2; omega
theorem lg_ge {l : List Nat} {k : Nat} (h : l.length ≤ k) : lg l k = 0 := by unfold lg; rw [List.getElem?_eq_none h]; rfl
theorem k5s : ∀ k, k < 6 → ((5 : Int32) * (5 - nI k)) = nI (5 * (5 - k)) := by decide
theorem k8s : ∀ n, n < 7 → ∀ k, k < n → ((8 : Int32) * ((nI n - 1) - nI k)) = nI (8 * (n - 1 - k)) := by decide
theorem k97 : ∀ x, x < 27 → nI (x + 96) - 97 + 1 = nI x := by decide
theorem s_letter {M : Mem} {l : List Nat} (hl : NM l) {x1 : Int32} {k : Nat} (hk : k < 6) : ∀ e i f, i + e = l.length → f_X12_letter_40 355 x1 (nI k) (e + 1 + f) (lN (pk8 l)) (nI i) (lN (pk8 l >>> (8 * i))) M = some (nI (lg l k), M) := by
  have hz := pk8_z hl
  have h6 := hl.2.1
  have hd : ∀ j, pk8 l >>> j < 2 ^ 63 := fun j => Nat.lt_of_le_of_lt (Nat.shiftRight_le _ _) (by omega)
  intro e
  induction e with
  | zero =>
    intro i f hi
    have hi : i = l.length := by omega
    subst hi
    rw [show 0 + 1 + f = f + 1 by omega, f_X12_letter_40, hz.2]
    refine ip lc_00 ?_
    unfold f_X12_letter_91
    by_cases q : k < l.length
    · obtain ⟨a1, -, -, a4⟩ := pk8_at hl q
      rw [if_pos (nI_lt q (by omega)), k8s _ (by omega) _ q, lN_shr (by omega) (by omega), show (255 : Int64) = lN 255 from rfl, lN_and, a1, lN_i, k97 _ (by omega)]
    · rw [if_neg (nI_nlt (by omega) (by omega)), lg_ge (by omega)]; rfl
  | succ e ih =>
    intro i f hi
    rw [show e + 1 + 1 + f = (e + 1 + f) + 1 by omega, f_X12_letter_40]
    refine im (lc_y0 (hd _) (pk8_at hl (show i < l.length by omega)).2.1) ?_
    rw [show (8 : Int32) = nI 8 from rfl, lN_shr (hd _) (by decide), nI_1, ← Nat.shiftRight_add, show 8 * i + 8 = 8 * (i + 1) by omega]
    exact ih (i + 1) f (by omega)
theorem op_letter (x y : Int32) : OP (f_X11_letter 0 x y) (f_X12_letter 355 x y) := by
  intro M s g
  have hW := g.rst.W
  unfold f_X11_letter f_X11_letter_18 f_X12_letter f_X12_letter_17
  rcases g.st with ⟨c0, h, S, T, E, c, sv, l, lv, hT⟩ | o
  · have hq := lv.1.q
    by_cases hx : ∃ j, j < kQ h ∧ x = nI j
    · obtain ⟨j, hj, e⟩ := hx
      subst e
      obtain ⟨p1, p2⟩ := pgT hW l lv.1 hj
      rcases s_isN (M := M) (x := y) (xl := 0) (xh := 5) (n := 5) rfl rfl (by decide) with ⟨⟨k, hk, e⟩, q⟩ | ⟨q, q2⟩
      · subst e
        obtain ⟨bk, ⟨b1, b2, -⟩, -, -, -, -, -, b9⟩ := l.mc
        obtain ⟨n1, n2⟩ := b9 j hj
        refine ⟨nI (lg (kNm h j) k), M, M, ?_, ?_, g.mono (by omega)⟩
        · rw [p1, b_i]
          refine im (one_n0 _) (im (nI_pos (by omega)) (ip (show nI k < (6 : Int32) from nI_lt (b := 6) (by omega) (by decide)) ?_))
          dsimp only
          rw [l.cur, b_i, wC_1 hW l.cc.z, b_i, zl_at 6 (by rcases l.cc.z with rfl | rfl <;> rfl) (by omega) (by decide), b_i, l.cc.2.2.2.2.2.2.2.2.2.1 j hj, k5s _ (by omega), nI_shr (by have := (pk5_at n2 (show k < 6 by omega)).2; omega) (by omega), show (31 : Int32) = nI 31 from rfl, nI_and, (pk5_at n2 (by omega)).1]
        · rw [p2, b_i]
          refine im (one_n0 _) ?_
          dsimp only
          rw [q, b_i]
          refine im (one_n0 _) ?_
          dsimp only
          rw [w355_20 hW, b_i, b2, show (6 : Int32) = nI 6 from rfl, pk_mul, nI_add, zl_at 12 rfl (by omega) (by decide), b_i, n1]
          have h6 := n2.2.1
          have := s_letter (M := M) (x1 := nI j) n2 (show k < 6 by omega) (kNm h j).length 0 (1000000 - (kNm h j).length - 1) (by omega)
          rw [show (kNm h j).length + 1 + (1000000 - (kNm h j).length - 1) = 1000000 by omega, Nat.mul_zero, Nat.shiftRight_zero] at this
          exact this
      · refine ⟨-1, M, M, ?_, ?_, g.mono (by omega)⟩
        · rw [p1, b_i]
          refine im (one_n0 _) ?_
          dsimp only
          by_cases h1 : y < 0
          · exact ip h1 rfl
          · refine im h1 (im (fun q3 => ?_) rfl)
            obtain ⟨k, hk, e⟩ := nI_of h1
            subst e
            exact nI_ge ((nI_ltI hk (b := 6) (by decide)).mp q3) (by decide) (q.resolve_left h1)
        · rw [p2, b_i]
          refine im (one_n0 _) ?_
          dsimp only
          rw [q2, b_i]; exact ip rfl rfl
    · obtain ⟨p1, p2⟩ := pgF hW l (nin (by omega) hx)
      exact ⟨-1, M, M, by rw [p1, b_i]; exact ip rfl rfl, by rw [p2, b_i]; exact ip rfl rfl, g.mono (by omega)⟩
  · exact ⟨-1, M, M, by rw [isP_o o.1.1, b_i]; exact ip rfl rfl, by rw [mP_o o.1.2, b_i]; exact ip rfl rfl, g.mono (by omega)⟩
