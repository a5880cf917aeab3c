/-! powers, roots, Vandermonde's kernel; what a recurrence of power sums is -/
def gp {K : Type} [Lean.Grind.CommRing K] (x : K) : Nat → K
  | 0 => 1
  | n + 1 => gp x n * x
theorem gp_add {K : Type} [Lean.Grind.CommRing K] (x : K) (n m : Nat) : gp x (n + m) = gp x n * gp x m := by
  induction m with
  | zero => show gp x n = gp x n * 1; grind
  | succ m ih => show gp x (n + m) * x = gp x n * (gp x m * x); rw [ih]; grind
theorem gp_mulb {K : Type} [Lean.Grind.CommRing K] (x y : K) (n : Nat) : gp (x * y) n = gp x n * gp y n := by
  induction n with
  | zero => show (1 : K) = 1 * 1; grind
  | succ n ih => show gp (x * y) n * (x * y) = gp x n * x * (gp y n * y); rw [ih]; grind
def gnz (K : Type) [Lean.Grind.CommRing K] : Prop := ∀ a b : K, a * b = 0 → a = 0 ∨ b = 0
def gc2 (K : Type) [Lean.Grind.CommRing K] : Prop := ∀ a : K, a + a = 0
theorem gc2_eq {K : Type} [Lean.Grind.CommRing K] (h : gc2 K) {a b : K} (e : a + b = 0) : a = b := by
  have := h b
  grind
def gdis {K : Type} (n : Nat) (X : Nat → K) : Prop := ∀ i, i < n → ∀ j, j < n → X i = X j → i = j
theorem vkern {K : Type} [Lean.Grind.CommRing K] (hc : gc2 K) (hz : gnz K) : ∀ (n : Nat) (X e : Nat → K), (∀ i, i < n → X i ≠ 0) → gdis n X → (∀ r, 1 ≤ r → r ≤ n → gsum n (fun i => gp (X i) r * e i) = 0) → ∀ i, i < n → e i = 0 := by
  intro n
  induction n with
  | zero => intro X e _ _ _ i hi; omega
  | succ n ih =>
    intro X e hX hd h
    have h1 : ∀ i, i < n → (X i + X n) * e i = 0 := by
      refine ih X (fun i => (X i + X n) * e i) (fun i hi => hX i (by omega)) (fun i hi j hj => hd i (by omega) j (by omega)) (fun r hr1 hr2 => ?_)
      have a1 := h (r + 1) (by omega) (by omega)
      have a2 := h r (by omega) (by omega)
      have a3 : gsum n (fun i => gp (X i) r * ((X i + X n) * e i)) = gsum n (fun i => gp (X i) (r + 1) * e i) + X n * gsum n (fun i => gp (X i) r * e i) := by
        rw [← gsum_mul, ← gsum_add]
        refine gsum_ext _ (fun i hi => ?_)
        show gp (X i) r * ((X i + X n) * e i) = gp (X i) r * X i * e i + X n * (gp (X i) r * e i)
        grind
      have a1' : gsum n (fun i => gp (X i) (r + 1) * e i) + gp (X n) r * X n * e n = 0 := a1
      have a2' : gsum n (fun i => gp (X i) r * e i) + gp (X n) r * e n = 0 := a2
      have a4 := hc (gp (X n) r * X n * e n)
      rw [a3]
      grind
    have h2 : ∀ i, i < n → e i = 0 := by
      intro i hi
      rcases hz _ _ (h1 i hi) with h3 | h3
      · exact absurd (hd i (by omega) n (by omega) (gc2_eq hc h3)) (by omega)
      · exact h3
    intro i hi
    by_cases hin : i = n
    · subst hin
      have a := h 1 (by omega) (by omega)
      have a' : gsum i (fun k => gp (X k) 1 * e k) + gp (X i) 1 * e i = 0 := a
      rw [gsum_zero i (fun k hk => by rw [h2 k hk]; grind)] at a'
      have a2 : X i * e i = 0 := by
        have : gp (X i) 1 = 1 * X i := rfl
        grind
      rcases hz _ _ a2 with h3 | h3
      · exact absurd h3 (hX i hi)
      · exact h3
    · exact h2 i (by omega)
/-- Horner's value: the coefficient 0 is that of the highest power -/
def hv {K : Type} [Lean.Grind.CommRing K] (C : Nat → K) (z : K) : Nat → K
  | 0 => C 0
  | n + 1 => hv C z n * z + C (n + 1)
theorem hv_sum {K : Type} [Lean.Grind.CommRing K] (C : Nat → K) (z : K) (n : Nat) : hv C z n = gsum (n + 1) (fun k => C k * gp z (n - k)) := by
  induction n with
  | zero => show C 0 = 0 + C 0 * 1; grind
  | succ n ih =>
    show hv C z n * z + C (n + 1) = gsum (n + 1) _ + C (n + 1) * gp z (n + 1 - (n + 1))
    rw [ih, gsum_ext (n + 1) (f := fun k => C k * gp z (n + 1 - k)) (g := fun k => z * (C k * gp z (n - k))) (fun k hk => by
      rw [show n + 1 - k = (n - k) + 1 by omega]
      show C k * (gp z (n - k) * z) = _
      grind), gsum_mul, Nat.sub_self]
    show _ = _ + C (n + 1) * 1
    grind
theorem hv_div {K : Type} [Lean.Grind.CommRing K] (hc : gc2 K) (C : Nat → K) (z r : K) (n : Nat) : hv C z (n + 1) + hv C r (n + 1) = (z + r) * hv (fun k => hv C r k) z n := by
  induction n with
  | zero =>
    show (C 0 * z + C 1) + (C 0 * r + C 1) = (z + r) * C 0
    have := hc (C 1)
    grind
  | succ n ih =>
    show (hv C z (n + 1) * z + C (n + 2)) + (hv C r (n + 1) * r + C (n + 2)) = (z + r) * (hv (fun k => hv C r k) z n * z + hv C r (n + 1))
    have h1 := hc (C (n + 2))
    have h2 := hc (hv C r (n + 1) * z)
    grind
theorem rootbound {K : Type} [Lean.Grind.CommRing K] (hc : gc2 K) (hz : gnz K) (h10 : (1 : K) ≠ 0) : ∀ (L : Nat) (C : Nat → K), C 0 = 1 → ∀ (n : Nat) (X : Nat → K), gdis n X → (∀ i, i < n → hv C (X i) L = 0) → n ≤ L := by
  intro L
  induction L with
  | zero =>
    intro C h0 n X hd h
    refine Nat.not_lt.mp fun hn => h10 ?_
    rw [← h0]; exact h 0 hn
  | succ L ih =>
    intro C h0 n X hd h
    cases n with
    | zero => exact Nat.zero_le _
    | succ n =>
      refine Nat.succ_le_succ (ih (fun k => hv C (X n) k) h0 n X (fun i hi j hj => hd i (by omega) j (by omega)) (fun i hi => ?_))
      have e := hv_div hc C (X i) (X n) L
      rw [h i (by omega), h n (by omega)] at e
      have e2 : (X i + X n) * hv (fun k => hv C (X n) k) (X i) L = 0 := by rw [← e]; grind
      rcases hz _ _ e2 with h3 | h3
      · exact absurd (hd i (by omega) n (by omega) (gc2_eq hc h3)) (by omega)
      · exact h3
/-- the polynomial of which the first n of X are the roots -/
def lam {K : Type} [Lean.Grind.CommRing K] (X : Nat → K) : Nat → Nat → K
  | 0 => fun k => if k = 0 then 1 else 0
  | n + 1 => fun k => lam X n k + (if k = 0 then 0 else X n * lam X n (k - 1))
theorem lam_0 {K : Type} [Lean.Grind.CommRing K] (X : Nat → K) (n : Nat) : lam X n 0 = 1 := by
  induction n with
  | zero => rfl
  | succ n ih => show lam X n 0 + (if (0 : Nat) = 0 then 0 else _) = 1; rw [ih, if_pos rfl]; grind
theorem lam_hi {K : Type} [Lean.Grind.CommRing K] (X : Nat → K) (n : Nat) : ∀ k, n < k → lam X n k = 0 := by
  induction n with
  | zero => intro k hk; exact if_neg (by omega)
  | succ n ih =>
    intro k hk
    show lam X n k + (if k = 0 then 0 else X n * lam X n (k - 1)) = 0
    rw [ih k (by omega), if_neg (by omega), ih (k - 1) (by omega)]; grind
theorem lam_ev {K : Type} [Lean.Grind.CommRing K] (X : Nat → K) (z : K) (n : Nat) : hv (lam X (n + 1)) z (n + 1) = (z + X n) * hv (lam X n) z n := by
  have key : ∀ k, hv (lam X (n + 1)) z k = hv (lam X n) z k + (match k with | 0 => 0 | k + 1 => X n * hv (lam X n) z k) := by
    intro k
    induction k with
    | zero => show lam X n 0 + (if (0 : Nat) = 0 then 0 else _) = lam X n 0 + 0; rw [if_pos rfl]
    | succ k ih =>
      show hv (lam X (n + 1)) z k * z + (lam X n (k + 1) + (if k + 1 = 0 then 0 else X n * lam X n (k + 1 - 1))) = (hv (lam X n) z k * z + lam X n (k + 1)) + X n * hv (lam X n) z k
      rw [ih, if_neg (by omega), show k + 1 - 1 = k by omega]
      cases k with
      | zero => show (hv (lam X n) z 0 + 0) * z + (lam X n 1 + X n * lam X n 0) = hv (lam X n) z 0 * z + lam X n 1 + X n * lam X n 0; grind
      | succ k => show (hv (lam X n) z (k + 1) + X n * hv (lam X n) z k) * z + (lam X n (k + 1 + 1) + X n * lam X n (k + 1)) = hv (lam X n) z (k + 1) * z + lam X n (k + 1 + 1) + X n * (hv (lam X n) z k * z + lam X n (k + 1)); grind
  rw [key (n + 1)]
  show (hv (lam X n) z n * z + lam X n (n + 1)) + X n * hv (lam X n) z n = _
  rw [lam_hi X n (n + 1) (by omega)]
  grind
theorem lam_root {K : Type} [Lean.Grind.CommRing K] (hc : gc2 K) (X : Nat → K) : ∀ n i, i < n → hv (lam X n) (X i) n = 0 := by
  intro n
  induction n with
  | zero => intro i hi; omega
  | succ n ih =>
    intro i hi
    rw [lam_ev]
    by_cases e : i = n
    · subst e; rw [hc]; grind
    · rw [ih i (by omega)]; grind
/-- sums of powers, each with a factor, keep the recurrence of their roots -/
theorem psum_rec {K : Type} [Lean.Grind.CommRing K] {X y : Nat → K} {n L : Nat} {C : Nat → K} (hr : ∀ i, i < n → hv C (X i) L = 0) {T : Nat → K} {N : Nat} (hT : ∀ j, 1 ≤ j → j ≤ N → T j = gsum n (fun i => y i * gp (X i) j)) : bgen T C L N := by
  intro k hk1 hk2
  rw [gsum_ext (L + 1) (g := fun i => gsum n (fun m => C i * (y m * gp (X m) (k - i)))) (fun i hi => by rw [hT (k - i) (by omega) (by omega), gsum_mul]), gsum_comm]
  refine gsum_zero _ (fun m hm => ?_)
  have e := hr m hm
  rw [hv_sum] at e
  rw [gsum_ext (L + 1) (g := fun i => (y m * gp (X m) (k - L)) * (C i * gp (X m) (L - i))) (fun i hi => by
    rw [show k - i = (k - L) + (L - i) by omega, gp_add]; grind), gsum_mul, e]
  grind
/-- at most t cells: the recurrence is theirs -/
theorem bm_few {K : Type} [Lean.Grind.CommRing K] (hc : gc2 K) (hz : gnz K) (h10 : (1 : K) ≠ 0) {T C B : Nat → K} {L x t n : Nat} {b : K} (hb : bmi T C B L x b (2 * t + 1)) {X : Nat → K} (hn : n ≤ t) (hX : ∀ i, i < n → X i ≠ 0) (hd : gdis n X) (hT : ∀ j, 1 ≤ j → j ≤ 2 * t → T j = gsum n (fun i => gp (X i) j)) : L = n ∧ (∀ i, i < n → hv C (X i) L = 0) ∧ ∀ z, hv C z L = 0 → ∃ i, i < n ∧ z = X i := by
  obtain ⟨⟨h1, h2, h3⟩, h4, h5, h6⟩ := hb
  have hT1 : ∀ j, 1 ≤ j → j ≤ 2 * t → T j = gsum n (fun i => 1 * gp (X i) j) := fun j a b => by rw [hT j a b]; exact gsum_ext _ (fun i _ => by grind)
  have hLn : L ≤ n := h6 n (lam X n) (lam_0 X n) (psum_rec (fun i hi => lam_root hc X n i hi) (N := 2 * t) hT1)
  have hr : ∀ i, i < n → hv C (X i) L = 0 := by
    refine vkern hc hz n X (fun i => hv C (X i) L) hX hd (fun r hr1 hr2 => ?_)
    have g := h4 (L + r) (by omega) (by omega)
    rw [gsum_ext (L + 1) (g := fun i => gsum n (fun m => C i * gp (X m) (L + r - i))) (fun i hi => by rw [hT (L + r - i) (by omega) (by omega), gsum_mul]), gsum_comm] at g
    rw [← g]
    refine gsum_ext _ (fun m hm => ?_)
    rw [hv_sum, ← gsum_mul]
    refine gsum_ext _ (fun i hi => ?_)
    rw [show L + r - i = r + (L - i) by omega, gp_add]; grind
  have hnL := rootbound hc hz h10 L C h1 n X hd hr
  refine ⟨by omega, hr, fun z hzr => ?_⟩
  refine Classical.byContradiction fun hno => ?_
  have := rootbound hc hz h10 L C h1 (n + 1) (fun i => if i = n then z else X i) (fun i hi j hj e => by
    by_cases hi2 : i = n
    · by_cases hj2 : j = n
      · omega
      · simp only [if_pos hi2, if_neg hj2] at e
        exact absurd ⟨j, by omega, e⟩ hno
    · by_cases hj2 : j = n
      · simp only [if_neg hi2, if_pos hj2] at e
        exact absurd ⟨i, by omega, e.symm⟩ hno
      · simp only [if_neg hi2, if_neg hj2] at e
        exact hd i (by omega) j (by omega) e) (fun i hi => by
    by_cases hi2 : i = n
    · simp only [if_pos hi2]; exact hzr
    · simp only [if_neg hi2]; exact hr i (by omega))
  omega
