/-! which reads are mended to what was written -/
theorem fps_c (n : Nat) (P : Nat → Bool) : (fps (n + 1) P).length = (if P 0 then 1 else 0) + (fps n (fun k => P (k + 1))).length := by
  unfold fps
  rw [List.range_succ_eq_map, List.filter_cons]
  have e : (List.filter P (List.map Nat.succ (List.range n))).length = (List.filter (fun k => P (k + 1)) (List.range n)).length := by
    rw [List.filter_map, List.length_map]; rfl
  by_cases h : P 0 = true
  · rw [if_pos h, if_pos h, List.length_cons, e]; omega
  · rw [if_neg h, if_neg h, e]; omega
theorem pop_fps : ∀ n e, (fps n (fun k => e.testBit k)).length = pop n e := by
  intro n
  induction n with
  | zero => intro e; rfl
  | succ n ih =>
    intro e
    rw [fps_c]
    have e1 : (fun k => e.testBit (k + 1)) = (fun k => (e / 2).testBit k) := by
      funext k; rw [Nat.testBit_succ]
    rw [e1, ih]
    show _ = e % 2 + pop n (e / 2)
    congr 1
    rw [Nat.testBit_zero]
    rcases Nat.mod_two_eq_zero_or_one e with h | h <;> rw [h] <;> rfl
theorem pop_xor : ∀ n a b, pop n (a ^^^ b) ≤ pop n a + pop n b := by
  intro n
  induction n with
  | zero => intro a b; exact Nat.zero_le _
  | succ n ih =>
    intro a b
    show (a ^^^ b) % 2 + pop n ((a ^^^ b) / 2) ≤ (a % 2 + pop n (a / 2)) + (b % 2 + pop n (b / 2))
    have h1 : (a ^^^ b) / 2 = (a / 2) ^^^ (b / 2) := Nat.xor_div_two_pow (n := 1)
    have h2 : (a ^^^ b) % 2 = (a % 2) ^^^ (b % 2) := Nat.xor_mod_two_pow (n := 1)
    have h3 := ih (a / 2) (b / 2)
    rw [h1, h2]
    have h4 : (a % 2) ^^^ (b % 2) ≤ a % 2 + b % 2 := by
      rcases Nat.mod_two_eq_zero_or_one a with h | h <;> rcases Nat.mod_two_eq_zero_or_one b with h' | h' <;> rw [h, h'] <;> decide
    omega
theorem pop_bit : ∀ n k, pop n (2 ^ k) ≤ 1 := by
  intro n
  induction n with
  | zero => intro k; exact Nat.zero_le _
  | succ n ih =>
    intro k
    show (2 ^ k) % 2 + pop n (2 ^ k / 2) ≤ 1
    cases k with
    | zero => rw [show 2 ^ 0 / 2 = 0 from rfl, pop_0]; decide
    | succ k =>
      have := ih k
      rw [Nat.pow_succ, Nat.mul_mod_left, Nat.mul_div_cancel _ (by decide)]; omega
theorem pop_xs (n : Nat) (f : Nat → Nat) : ∀ L, pop n (xs L (fun i => 2 ^ f i)) ≤ L := by
  intro L
  induction L with
  | zero => show pop n 0 ≤ 0; rw [pop_0]; exact Nat.le_refl _
  | succ L ih =>
    show pop n (xs L (fun i => 2 ^ f i) ^^^ 2 ^ f L) ≤ L + 1
    have h1 := pop_xor n (xs L (fun i => 2 ^ f i)) (2 ^ f L)
    have h2 := pop_bit n (f L)
    omega
theorem pop64 {n x : Nat} (hn : n ≤ 64) (hx : x < 2 ^ n) : pop 64 x = pop n x := by
  have := pop_more (64 - n) n x hx
  rwa [show n + (64 - n) = 64 by omega] at this
theorem fps_cut {n : Nat} {P Q : Nat → Bool} : ∀ d, (∀ q, q < n + d → (Q q = true ↔ q < n ∧ P q = true)) → fps (n + d) Q = fps n P := by
  intro d
  induction d with
  | zero =>
    intro h
    unfold fps
    refine List.filter_congr (fun q hq => ?_)
    have hq2 := List.mem_range.mp hq
    have := h q hq2
    cases h1 : Q q <;> cases h2 : P q <;> simp_all
  | succ d ih =>
    intro h
    rw [show n + (d + 1) = (n + d) + 1 by omega, fps_s, if_neg, ih (fun q hq => h q (by omega))]
    intro hq
    have := (h (n + d) (by omega)).mp hq
    omega
theorem dec_true {m p t n c w : Nat} (h : (m, p) ∈ fPR) (hn : n ≤ fN m) (hc : c < 2 ^ n) (hs : ∀ j, 1 ≤ j → j ≤ 2 * t → sy m p n c j = 0) (hw : w < 2 ^ n) (hd : pop n (w ^^^ c) ≤ t) : dCa m p t n w = 0 ∧ dRs m p t n w = c ∧ (dN m p t n w).2.2.1 = pop n (w ^^^ c) ∧ (dRo m p t n w).length = pop n (w ^^^ c) := by
  have he : w ^^^ c < 2 ^ n := Nat.xor_lt_two_pow hw hc
  obtain ⟨hL, hr⟩ := dec_few (S := sy m p n w) (P := fun k => (w ^^^ c).testBit k) h hn (fun _ => sy_lt h) (t := t) (by rw [pop_fps]; exact hd) (fun j h1 h2 => by
    show _ = sy m p n (w ^^^ c) j
    rw [sy_xor, hs j h1 h2, Nat.xor_zero])
  rw [pop_fps] at hL
  have hR : dRo m p t n w = fps n (fun k => (w ^^^ c).testBit k) := by
    unfold dRo
    have := fps_cut (n := n) (P := fun k => (w ^^^ c).testBit k) (Q := dP m p (dN m p t n w).1 (dN m p t n w).2.2.1) (fN m - n) (fun q hq => by
      unfold dP
      rw [decide_eq_true_iff]
      exact hr q (by omega))
    rwa [show n + (fN m - n) = fN m by omega] at this
  have hl : (dRo m p t n w).length = pop n (w ^^^ c) := by rw [hR, pop_fps]
  have hL2 : (dN m p t n w).2.2.1 = pop n (w ^^^ c) := hL
  have hany : anyO n (dRo m p t n w) = false := by
    cases hh : anyO n (dRo m p t n w) with
    | false => rfl
    | true =>
      obtain ⟨i, hi, h3⟩ := (anyO_iff _ _).mp hh
      rw [hR] at hi h3
      have := (fps_get n _ i hi).1
      omega
  have hca : dCa m p t n w = 0 := by
    unfold dCa rootC
    rw [if_neg (by omega), if_pos (by omega), hany]; rfl
  refine ⟨hca, ?_, hL2, hl⟩
  unfold dRs
  rw [if_pos hca, hR, flips_eq he, ← Nat.xor_assoc, Nat.xor_self, Nat.zero_xor]
theorem dec_ok {m p t n w : Nat} (h : (m, p) ∈ fPR) (hw : w < 2 ^ n) (h0 : dCa m p t n w = 0) : (∀ j, 1 ≤ j → j ≤ 2 * t → sy m p n (dRs m p t n w) j = 0) ∧ dRs m p t n w < 2 ^ n ∧ pop n (w ^^^ dRs m p t n w) ≤ t ∧ pop n (w ^^^ dRs m p t n w) ≤ (dN m p t n w).2.2.1 := by
  obtain ⟨hL, hl, hany⟩ := dCa_0 h0
  have hin : ∀ i, i < (dRo m p t n w).length → lg (dRo m p t n w) i < n := by
    intro i hi
    by_cases h1 : lg (dRo m p t n w) i < n
    · exact h1
    · have := (anyO_iff n (dRo m p t n w)).mpr ⟨i, hi, by omega⟩
      rw [hany] at this; exact absurd this (by decide)
  have hrs : dRs m p t n w = w ^^^ xs (dRo m p t n w).length (fun i => 2 ^ lg (dRo m p t n w) i) := by unfold dRs; rw [if_pos h0]
  have hc := dec_conv (t := t) (S := sy m p n w) (P := dP m p (dN m p t n w).1 (dN m p t n w).2.2.1) h (fun _ => sy_lt h) (fun j _ _ => sy_sq h) (fun q _ => by unfold dP; rw [decide_eq_true_iff]; exact Iff.rfl) hL hl
  have hwx : w ^^^ dRs m p t n w = xs (dRo m p t n w).length (fun i => 2 ^ lg (dRo m p t n w) i) := by
    rw [hrs, ← Nat.xor_assoc, Nat.xor_self, Nat.zero_xor]
  refine ⟨fun j h1 h2 => ?_, ?_, ?_, ?_⟩
  · rw [hrs, sy_xor]
    have := sy_flips (m := m) (p := p) (n := n) (N := fN m) (j := j) (dP m p (dN m p t n w).1 (dN m p t n w).2.2.1) (fun k hk hP => by
      obtain ⟨i, hi, e⟩ := fps_has (fN m) _ hk hP
      have := hin i hi
      have e2 : lg (dRo m p t n w) i = k := e
      omega)
    rw [← hc j h1 h2] at this
    show sy m p n w j ^^^ sy m p n (xs (fps (fN m) (dP m p (dN m p t n w).1 (dN m p t n w).2.2.1)).length _) j = 0
    rw [show (dRo m p t n w) = fps (fN m) (dP m p (dN m p t n w).1 (dN m p t n w).2.2.1) from rfl, this, Nat.xor_self]
  · rw [hrs]
    exact Nat.xor_lt_two_pow hw (xs_lt (fun i hi => Nat.pow_lt_pow_right (by decide) (hin i hi)))
  · rw [hwx]; exact Nat.le_trans (pop_xs n _ _) (by omega)
  · rw [hwx]; exact Nat.le_trans (pop_xs n _ _) (by omega)
theorem dec_iff {m p t n c w : Nat} (h : (m, p) ∈ fPR) (hn : n ≤ fN m) (hc : c < 2 ^ n) (hs : ∀ j, 1 ≤ j → j ≤ 2 * t → sy m p n c j = 0) (hw : w < 2 ^ n) : (dCa m p t n w = 0 ∧ dRs m p t n w = c) ↔ pop n (w ^^^ c) ≤ t := by
  constructor
  · rintro ⟨h0, h1⟩
    have := (dec_ok h hw h0).2.2.1
    rwa [h1] at this
  · intro hd
    have := dec_true h hn hc hs hw hd
    exact ⟨this.1, this.2.1⟩
