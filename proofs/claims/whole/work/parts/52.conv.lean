/-! what is mended is a word: a recurrence with all its roots there tells the cells -/
theorem vsolve {K : Type} [Lean.Grind.CommRing K] (hc : gc2 K) (hi : ∀ a : K, a ≠ 0 → ∃ b, a * b = 1) : ∀ (n : Nat) (X v : Nat → K), (∀ i, i < n → X i ≠ 0) → gdis n X → ∃ y : Nat → K, ∀ j, 1 ≤ j → j ≤ n → gsum n (fun i => y i * gp (X i) j) = v j := by
  intro n
  induction n with
  | zero => intro X v _ _; exact ⟨fun _ => 0, fun j h1 h2 => by omega⟩
  | succ n ih =>
    intro X v hX hd
    obtain ⟨z, hz⟩ := ih X (fun j => v (j + 1) + X n * v j) (fun i hi => hX i (by omega)) (fun i hi j hj => hd i (by omega) j (by omega))
    have hinv : ∀ i, ∃ b, i < n → (X i + X n) * b = 1 := by
      intro i
      by_cases hin : i < n
      · obtain ⟨b, hb⟩ := hi (X i + X n) (fun e => absurd (hd i (by omega) n (by omega) (gc2_eq hc e)) (by omega))
        exact ⟨b, fun _ => hb⟩
      · exact ⟨0, fun h => absurd h hin⟩
    obtain ⟨iv, hiv⟩ : ∃ iv : Nat → K, ∀ i, i < n → (X i + X n) * iv i = 1 := ⟨fun i => (hinv i).choose, fun i h => (hinv i).choose_spec h⟩
    obtain ⟨xn, hxn⟩ := hi (X n) (hX n (by omega))
    refine ⟨fun i => if i = n then (v 1 + gsum n (fun i => z i * iv i * gp (X i) 1)) * xn else z i * iv i, fun j h1 h2 => ?_⟩
    have hs : ∀ j, gsum (n + 1) (fun i => (if i = n then (v 1 + gsum n (fun i => z i * iv i * gp (X i) 1)) * xn else z i * iv i) * gp (X i) j) = gsum n (fun i => z i * iv i * gp (X i) j) + (v 1 + gsum n (fun i => z i * iv i * gp (X i) 1)) * xn * gp (X n) j := by
      intro j
      show gsum n _ + (if n = n then _ else _) * gp (X n) j = _
      rw [if_pos rfl, gsum_ext n (fun i hin => by rw [if_neg (by omega)])]
    have key : ∀ j, j + 1 ≤ n + 1 → gsum n (fun i => z i * iv i * gp (X i) (j + 1)) + (v 1 + gsum n (fun i => z i * iv i * gp (X i) 1)) * xn * gp (X n) (j + 1) = v (j + 1) := by
      intro j
      induction j with
      | zero =>
        intro _
        have e1 : gp (X n) (0 + 1) = 1 * X n := rfl
        have e2 := hc (gsum n (fun i => z i * iv i * gp (X i) (0 + 1)))
        rw [e1]
        show gsum n (fun i => z i * iv i * gp (X i) (0 + 1)) + (v 1 + gsum n (fun i => z i * iv i * gp (X i) (0 + 1))) * xn * (1 * X n) = v 1
        grind
      | succ j ihj =>
        intro hj
        have a1 := ihj (by omega)
        have a2 := hz (j + 1) (by omega) (by omega)
        have a3 : gsum n (fun i => z i * gp (X i) (j + 1)) = gsum n (fun i => z i * iv i * gp (X i) (j + 1 + 1)) + X n * gsum n (fun i => z i * iv i * gp (X i) (j + 1)) := by
          rw [← gsum_mul, ← gsum_add]
          refine gsum_ext _ (fun i hin => ?_)
          show z i * gp (X i) (j + 1) = z i * iv i * (gp (X i) (j + 1) * X i) + X n * (z i * iv i * gp (X i) (j + 1))
          have := hiv i hin
          grind
        have a4 : gp (X n) (j + 1 + 1) = gp (X n) (j + 1) * X n := rfl
        have a5 := hc (X n * gsum n (fun i => z i * iv i * gp (X i) (j + 1)))
        have a6 := hc (X n * v (j + 1))
        rw [a4]
        grind
    rw [hs j, show j = (j - 1) + 1 by omega]
    exact key (j - 1) (by omega)
theorem gsum_drop {K : Type} [Lean.Grind.CommRing K] {n m : Nat} {f : Nat → K} (hm : m ≤ n) (h : f m = 0) : gsum (n + 1) f = gsum n (fun i => if i = m then f n else f i) := by
  by_cases e : m = n
  · subst e
    show gsum m f + f m = _
    rw [gsum_ext m (f := fun i => if i = m then f m else f i) (g := f) (fun i hi => if_neg (by omega)), h]; grind
  · have hmn : m < n := by omega
    have key : ∀ k, m < k → k ≤ n → gsum k f + f n = gsum k (fun i => if i = m then f n else f i) := by
      intro k
      induction k with
      | zero => intro h; omega
      | succ k ih =>
        intro h1 h2
        by_cases ek : k = m
        · subst ek
          show gsum k f + f k + f n = gsum k _ + (if k = k then f n else f k)
          rw [if_pos rfl, h, gsum_ext k (f := fun i => if i = k then f n else f i) (g := f) (fun i hi => if_neg (by omega))]; grind
        · show gsum k f + f k + f n = gsum k _ + (if k = m then f n else f k)
          rw [if_neg ek, ← ih (by omega) (by omega)]; grind
    exact key n hmn (Nat.le_refl _)
theorem gsum_sq {K : Type} [Lean.Grind.CommRing K] (hc : gc2 K) (n : Nat) (f : Nat → K) : gsum n f * gsum n f = gsum n (fun i => f i * f i) := by
  induction n with
  | zero => show (0 : K) * 0 = 0; grind
  | succ n ih =>
    show (gsum n f + f n) * (gsum n f + f n) = gsum n _ + f n * f n
    rw [← ih]
    have := hc (gsum n f * f n)
    grind
theorem bm_conv {K : Type} [Lean.Grind.CommRing K] (hc : gc2 K) (hz : gnz K) (hi : ∀ a : K, a ≠ 0 → ∃ b, a * b = 1) {T C B : Nat → K} {L x t : Nat} {b : K} (hb : bmi T C B L x b (2 * t + 1)) (hL : L ≤ t) {X : Nat → K} (hX : ∀ i, i < L → X i ≠ 0) (hd : gdis L X) (hr : ∀ i, i < L → hv C (X i) L = 0) (hF : ∀ j, 1 ≤ j → j ≤ t → T (2 * j) = T j * T j) : ∀ j, 1 ≤ j → j ≤ 2 * t → T j = gsum L (fun i => gp (X i) j) := by
  obtain ⟨⟨h1, h2, h3⟩, h4, h5, h6⟩ := hb
  obtain ⟨y, hy⟩ := vsolve hc hi L X T hX hd
  -- all of them
  have hall : ∀ N, ∀ j, 1 ≤ j → j ≤ N → j ≤ 2 * t → T j = gsum L (fun i => y i * gp (X i) j) := by
    intro N
    induction N with
    | zero => intro j a1 a2; omega
    | succ N ih =>
      intro j a1 a2 a3
      by_cases hjL : j ≤ L
      · exact (hy j a1 hjL).symm
      · have g := h4 j (by omega) (by omega)
        have g2 : bgen (fun j => gsum L (fun i => y i * gp (X i) j)) C L j := psum_rec (N := j) hr (fun j _ _ => rfl)
        have g3 := g2 j (by omega) (Nat.le_refl _)
        rw [gsum_first, h1] at g g3
        have e : gsum L (fun i => C (i + 1) * T (j - (i + 1))) = gsum L (fun i => C (i + 1) * gsum L (fun m => y m * gp (X m) (j - (i + 1)))) := gsum_ext _ (fun i hin => by rw [ih (j - (i + 1)) (by omega) (by omega) (by omega)])
        simp only [Nat.sub_zero] at g g3
        rw [e] at g
        have q := hc (gsum L (fun i => C (i + 1) * gsum L (fun m => y m * gp (X m) (j - (i + 1)))))
        have g' : T j = gsum L (fun i => C (i + 1) * gsum L (fun m => y m * gp (X m) (j - (i + 1)))) := gc2_eq hc (by grind)
        have g3' : gsum L (fun i => y i * gp (X i) j) = gsum L (fun i => C (i + 1) * gsum L (fun m => y m * gp (X m) (j - (i + 1)))) := gc2_eq hc (by grind)
        rw [g', g3']
  have hT : ∀ j, 1 ≤ j → j ≤ 2 * t → T j = gsum L (fun i => y i * gp (X i) j) := fun j a1 a2 => hall (2 * t) j a1 a2 a2
  -- each factor is its own square
  have hsq : ∀ i, i < L → y i + y i * y i = 0 := by
    refine vkern hc hz L (fun i => X i * X i) (fun i => y i + y i * y i) (fun i hin e => (hz _ _ e).elim (hX i hin) (hX i hin)) (fun i hin j hjn e => hd i hin j hjn ?_) (fun r hr1 hr2 => ?_)
    · have e2 : (X i + X j) * (X i + X j) = 0 := by
        have q1 := hc (X i * X j)
        have q2 := hc (X j * X j)
        have e' : X i * X i = X j * X j := e
        grind
      exact gc2_eq hc ((hz _ _ e2).elim id id)
    · have a1 := hF r hr1 (by omega)
      rw [hT (2 * r) (by omega) (by omega), hT r hr1 (by omega), gsum_sq hc] at a1
      have a2 : gsum L (fun i => gp (X i * X i) r * (y i + y i * y i)) = gsum L (fun i => y i * gp (X i) (2 * r)) + gsum L (fun i => y i * gp (X i) r * (y i * gp (X i) r)) := by
        rw [← gsum_add]
        refine gsum_ext _ (fun i hin => ?_)
        rw [gp_mulb, show 2 * r = r + r by omega, gp_add]; grind
      rw [a2, a1]; exact hc _
  have hne : ∀ i, i < L → y i ≠ 0 := by
    intro m hm e
    obtain ⟨L', rfl⟩ : ∃ L', L = L' + 1 := ⟨L - 1, by omega⟩
    have hT2 : ∀ j, 1 ≤ j → j ≤ 2 * t → T j = gsum L' (fun i => (if i = m then y L' else y i) * gp (if i = m then X L' else X i) j) := by
      intro j a1 a2
      rw [hT j a1 a2, gsum_drop (m := m) (by omega) (by rw [e]; grind)]
      refine gsum_ext _ (fun i hin => ?_)
      by_cases him : i = m
      · simp only [if_pos him]
      · simp only [if_neg him]
    have := h6 L' (lam (fun i => if i = m then X L' else X i) L') (lam_0 _ _) (psum_rec (fun i hin => lam_root hc _ L' i hin) (N := 2 * t) hT2)
    omega
  intro j a1 a2
  rw [hT j a1 a2]
  refine gsum_ext _ (fun i hin => ?_)
  have e : y i * (1 + y i) = 0 := by have := hsq i hin; grind
  rcases hz _ _ e with h | h
  · exact absurd h (hne i hin)
  · rw [← gc2_eq hc h]; grind
