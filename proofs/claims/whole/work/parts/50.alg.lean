/-! algebra of a field of two's characteristic -/
theorem ga_1 {K : Type} [Lean.Grind.CommRing K] (a b c : K) : (a + b) * c = a * c + b * c := by grind
theorem ga_2 {K : Type} [Lean.Grind.CommRing K] (h2 : ∀ a : K, a + a = 0) (a b : K) : (a + b) * (a + b) = a * a + b * b := by
  have := h2 (a * b)
  grind
def gsum {K : Type} [Lean.Grind.CommRing K] (n : Nat) (f : Nat → K) : K := match n with
  | 0 => 0
  | n + 1 => gsum n f + f n
theorem gsum_add {K : Type} [Lean.Grind.CommRing K] (n : Nat) (f g : Nat → K) : gsum n (fun i => f i + g i) = gsum n f + gsum n g := by
  induction n with
  | zero => show (0 : K) = 0 + 0; grind
  | succ n ih => show gsum n _ + _ = (gsum n f + f n) + (gsum n g + g n); rw [ih]; grind
theorem gsum_mul {K : Type} [Lean.Grind.CommRing K] (n : Nat) (c : K) (f : Nat → K) : gsum n (fun i => c * f i) = c * gsum n f := by
  induction n with
  | zero => show (0 : K) = c * 0; grind
  | succ n ih => show gsum n _ + _ = c * (gsum n f + f n); rw [ih]; grind
theorem gsum_comm {K : Type} [Lean.Grind.CommRing K] (n m : Nat) (f : Nat → Nat → K) : gsum n (fun i => gsum m (fun j => f i j)) = gsum m (fun j => gsum n (fun i => f i j)) := by
  induction n with
  | zero =>
    show (0 : K) = gsum m (fun _ => 0)
    induction m with
    | zero => rfl
    | succ m ih => show (0 : K) = gsum m _ + 0; rw [← ih]; grind
  | succ n ih => show gsum n _ + _ = gsum m (fun j => gsum n (fun i => f i j) + f n j); rw [ih, gsum_add]
theorem gsum_ext {K : Type} [Lean.Grind.CommRing K] (n : Nat) {f g : Nat → K} (h : ∀ i, i < n → f i = g i) : gsum n f = gsum n g := by
  induction n with
  | zero => rfl
  | succ n ih => show gsum n f + f n = gsum n g + g n; rw [ih (fun i hi => h i (by omega)), h n (by omega)]
theorem gsum_zero {K : Type} [Lean.Grind.CommRing K] (n : Nat) {f : Nat → K} (h : ∀ i, i < n → f i = 0) : gsum n f = 0 := by
  induction n with
  | zero => rfl
  | succ n ih => show gsum n f + f n = 0; rw [ih (fun i hi => h i (by omega)), h n (by omega)]; grind
theorem gsum_tail {K : Type} [Lean.Grind.CommRing K] (n m : Nat) {f : Nat → K} (h : ∀ i, n ≤ i → f i = 0) : gsum (n + m) f = gsum n f := by
  induction m with
  | zero => rfl
  | succ m ih => show gsum (n + m) f + f (n + m) = _; rw [ih, h (n + m) (by omega)]; grind
theorem gsum_le {K : Type} [Lean.Grind.CommRing K] {n m : Nat} (hn : n ≤ m) {f : Nat → K} (h : ∀ i, n ≤ i → f i = 0) : gsum m f = gsum n f := by
  obtain ⟨k, rfl⟩ := Nat.exists_eq_add_of_le hn
  exact gsum_tail n k h
theorem gsum_shift {K : Type} [Lean.Grind.CommRing K] (x n : Nat) (g : Nat → K) : gsum (x + n) (fun i => if x ≤ i then g (i - x) else 0) = gsum n g := by
  induction n with
  | zero => exact gsum_zero _ (fun i hi => if_neg (by omega))
  | succ n ih =>
    show gsum (x + n) _ + (if x ≤ x + n then g (x + n - x) else 0) = gsum n g + g n
    rw [ih, if_pos (by omega), show x + n - x = n by omega]
theorem gsum_first {K : Type} [Lean.Grind.CommRing K] (n : Nat) (f : Nat → K) : gsum (n + 1) f = f 0 + gsum n (fun i => f (i + 1)) := by
  induction n with
  | zero => show (0 : K) + f 0 = f 0 + 0; grind
  | succ n ih => show gsum (n + 1) f + f (n + 1) = f 0 + (gsum n (fun i => f (i + 1)) + f (n + 1)); rw [ih]; grind
/-! recurrences: Massey's length lemma, Berlekamp's step -/
def bgen {K : Type} [Lean.Grind.CommRing K] (T C : Nat → K) (L N : Nat) : Prop := ∀ k, L < k → k ≤ N → gsum (L + 1) (fun i => C i * T (k - i)) = 0
theorem massey {K : Type} [Lean.Grind.CommRing K] {T C C2 : Nat → K} {L L2 j : Nat} (hC : bgen T C L (j - 1)) (h0 : C2 0 = 1) (hC2 : bgen T C2 L2 j) (hd : gsum (L + 1) (fun i => C i * T (j - i)) ≠ 0) : j ≤ L + L2 := by
  refine Nat.not_lt.mp fun hlt => hd ?_
  have e1 : gsum (L2 + 1) (fun i => gsum (L + 1) (fun k => C2 i * (C k * T (j - i - k)))) = gsum (L + 1) (fun i => C i * T (j - i)) := by
    rw [gsum_first, gsum_zero L2 (fun i hi => ?_)]
    · rw [show (gsum (L + 1) fun k => C2 0 * (C k * T (j - 0 - k))) = C2 0 * gsum (L + 1) (fun k => C k * T (j - 0 - k)) from gsum_mul _ _ _, h0]
      simp only [Nat.sub_zero]
      grind
    · rw [gsum_mul, hC (j - (i + 1)) (by omega) (by omega)]; grind
  have e2 : gsum (L2 + 1) (fun i => gsum (L + 1) (fun k => C2 i * (C k * T (j - i - k)))) = 0 := by
    rw [gsum_comm]
    refine gsum_zero _ (fun k hk => ?_)
    rw [gsum_ext (L2 + 1) (g := fun i => C k * (C2 i * T (j - k - i))) (fun i hi => by rw [show j - i - k = j - k - i by omega]; grind), gsum_mul, hC2 (j - k) (by omega) (by omega)]
    grind
  rw [← e1, e2]
/-- what holds ahead of step j -/
def bmi {K : Type} [Lean.Grind.CommRing K] (T C B : Nat → K) (L x : Nat) (b : K) (j : Nat) : Prop :=
  (C 0 = 1 ∧ (∀ i, L < i → C i = 0) ∧ L < j) ∧ bgen T C L (j - 1) ∧
  (∃ LB, 1 ≤ x ∧ L + LB + x = j ∧ (∀ i, LB < i → B i = 0) ∧ b ≠ 0 ∧ (∀ k, LB < k → k < L + LB → gsum (LB + 1) (fun i => B i * T (k - i)) = 0) ∧ gsum (LB + 1) (fun i => B i * T (L + LB - i)) = b) ∧
  ∀ (L2 : Nat) (C2 : Nat → K), C2 0 = 1 → bgen T C2 L2 (j - 1) → L ≤ L2
theorem bmi_0 {K : Type} [Lean.Grind.CommRing K] {T : Nat → K} (hT : T 0 = 1) (h01 : (1 : K) ≠ 0) : bmi T (fun i => if i = 0 then 1 else 0) (fun i => if i = 0 then 1 else 0) 0 1 1 1 := by
  refine ⟨⟨rfl, fun i hi => if_neg (by omega), by decide⟩, fun k h1 h2 => by omega, ⟨0, by decide, rfl, fun i hi => if_neg (by omega), h01, fun k h1 h2 => by omega, ?_⟩, fun L2 C2 _ _ => Nat.zero_le _⟩
  show (0 : K) + (if (0 : Nat) = 0 then 1 else 0) * T (0 + 0 - 0) = 1
  rw [if_pos rfl]
  simp only [Nat.add_zero, Nat.sub_zero, hT]
  grind
def bmC {K : Type} [Lean.Grind.CommRing K] (C B : Nat → K) (e : K) (x : Nat) : Nat → K := fun i => C i + e * (if x ≤ i then B (i - x) else 0)
theorem bmi_step0 {K : Type} [Lean.Grind.CommRing K] {T C B : Nat → K} {L x : Nat} {b : K} {j : Nat} (h : bmi T C B L x b j) (hj : 1 ≤ j) (hd : gsum (L + 1) (fun i => C i * T (j - i)) = 0) : bmi T C B L (x + 1) b (j + 1) := by
  obtain ⟨⟨h1, h2, h3⟩, h4, ⟨LB, h5, h6, h7⟩, h8⟩ := h
  refine ⟨⟨h1, h2, by omega⟩, fun k hk1 hk2 => ?_, ⟨LB, by omega, by omega, h7⟩, fun L2 C2 g1 g2 => h8 L2 C2 g1 (fun k hk1 hk2 => g2 k hk1 (by omega))⟩
  by_cases e : k = j
  · subst e; exact hd
  · exact h4 k hk1 (by omega)
theorem bmC_gen {K : Type} [Lean.Grind.CommRing K] (hc2 : ∀ a : K, a + a = 0) {T C B : Nat → K} {L x : Nat} {b d e : K} {j : Nat} (h : bmi T C B L x b j) (hd : gsum (L + 1) (fun i => C i * T (j - i)) = d) (he : e * b = d) {L' : Nat} (hL1 : L ≤ L') (hL2 : j ≤ L + L') : bmC C B e x 0 = 1 ∧ (∀ i, L' < i → bmC C B e x i = 0) ∧ bgen T (bmC C B e x) L' j := by
  obtain ⟨⟨h1, h2, h3⟩, h4, ⟨LB, h5, h6, h7, h9, h10, h11⟩, h8⟩ := h
  refine ⟨?_, fun i hi => ?_, fun k hk1 hk2 => ?_⟩
  · unfold bmC; rw [if_neg (by omega), h1]; grind
  · unfold bmC; rw [h2 i (by omega)]
    by_cases hx : x ≤ i
    · rw [if_pos hx, h7 (i - x) (by omega)]; grind
    · rw [if_neg hx]; grind
  · have e1 : gsum (L' + 1) (fun i => bmC C B e x i * T (k - i)) = gsum (L' + 1) (fun i => C i * T (k - i)) + e * gsum (L' + 1) (fun i => (if x ≤ i then B (i - x) * T (k - x - (i - x)) else 0)) := by
      rw [← gsum_mul, ← gsum_add]
      refine gsum_ext _ (fun i hi => ?_)
      unfold bmC
      by_cases hx : x ≤ i
      · rw [if_pos hx, if_pos hx, show k - x - (i - x) = k - i by omega]; grind
      · rw [if_neg hx, if_neg hx]; grind
    have e2 : gsum (L' + 1) (fun i => C i * T (k - i)) = gsum (L + 1) (fun i => C i * T (k - i)) := gsum_le (by omega) (fun i hi => by rw [h2 i (by omega)]; grind)
    have e3 : gsum (L' + 1) (fun i => (if x ≤ i then B (i - x) * T (k - x - (i - x)) else 0)) = gsum (LB + 1) (fun i => B i * T (k - x - i)) := by
      rw [show L' + 1 = x + (L' + 1 - x) by omega, gsum_shift x (L' + 1 - x) (fun i => B i * T (k - x - i))]
      exact gsum_le (by omega) (fun i hi => by rw [h7 i (by omega)]; grind)
    rw [e1, e2, e3]
    by_cases hk : k = j
    · subst hk
      rw [hd, show k - x = L + LB by omega, h11, he]
      exact hc2 d
    · rw [h4 k (by omega) (by omega), h10 (k - x) (by omega) (by omega)]; grind
theorem bmi_stepA {K : Type} [Lean.Grind.CommRing K] (hc2 : ∀ a : K, a + a = 0) {T C B : Nat → K} {L x : Nat} {b d e : K} {j : Nat} (h : bmi T C B L x b j) (hd : gsum (L + 1) (fun i => C i * T (j - i)) = d) (hd0 : d ≠ 0) (he : e * b = d) (hl : 2 * L < j) : bmi T (bmC C B e x) C (j - L) 1 d (j + 1) := by
  have g := bmC_gen hc2 h hd he (L' := j - L) (by omega) (by omega)
  obtain ⟨⟨h1, h2, h3⟩, h4, ⟨LB, h5, h6, h7, h9, h10, h11⟩, h8⟩ := h
  refine ⟨⟨g.1, g.2.1, by omega⟩, g.2.2, ⟨L, by decide, by omega, h2, hd0, fun k hk1 hk2 => h4 k hk1 (by omega), by rw [show j - L + L = j by omega]; exact hd⟩, fun L2 C2 g1 g2 => ?_⟩
  have := massey h4 g1 g2 (by rw [hd]; exact hd0)
  omega
theorem bmi_stepB {K : Type} [Lean.Grind.CommRing K] (hc2 : ∀ a : K, a + a = 0) {T C B : Nat → K} {L x : Nat} {b d e : K} {j : Nat} (h : bmi T C B L x b j) (hd : gsum (L + 1) (fun i => C i * T (j - i)) = d) (he : e * b = d) (hl : ¬ 2 * L < j) : bmi T (bmC C B e x) B L (x + 1) b (j + 1) := by
  have g := bmC_gen hc2 h hd he (L' := L) (by omega) (by omega)
  obtain ⟨⟨h1, h2, h3⟩, h4, ⟨LB, h5, h6, h7⟩, h8⟩ := h
  exact ⟨⟨g.1, g.2.1, by omega⟩, g.2.2, ⟨LB, by omega, by omega, h7⟩, fun L2 C2 g1 g2 => h8 L2 C2 g1 (fun k hk1 hk2 => g2 k hk1 (by omega))⟩
