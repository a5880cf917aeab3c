/-! chip: is the polynomial primitive? -/
theorem pm_lt {m p : Nat} (h : p >>> m = 1) : 2 ^ m ≤ p ∧ p < 2 * 2 ^ m := by
  rw [Nat.shiftRight_eq_div_pow] at h
  have h1 := Nat.div_add_mod p (2 ^ m)
  have h2 := Nat.mod_lt p (show 0 < 2 ^ m from Nat.pow_pos (by decide))
  rw [h] at h1
  omega
theorem xor_can (t a b : Nat) : (t ^^^ a) ^^^ (t ^^^ b) = a ^^^ b := by
  rw [Nat.xor_comm t a, Nat.xor_assoc, ← Nat.xor_assoc t t b, Nat.xor_self, Nat.zero_xor]
theorem hi_x {m x : Nat} (h1 : 2 ^ m ≤ x) (h2 : x < 2 * 2 ^ m) : ∃ a, a < 2 ^ m ∧ x = 2 ^ m ^^^ a := by
  refine ⟨x - 2 ^ m, by omega, ?_⟩
  rw [← two_or (by omega)]; omega
theorem fmA_l2 {m p x : Nat} (hp : p >>> m = 1) (hx : x < 2 ^ m) : fmA m p x < 2 ^ m := by
  obtain ⟨p1, p2⟩ := pm_lt hp
  unfold fmA
  by_cases c : (2 * x) >>> m = 1
  · obtain ⟨c1, c2⟩ := pm_lt c
    rw [if_pos c]
    obtain ⟨a, a1, a2⟩ := hi_x p1 p2
    obtain ⟨d, d1, d2⟩ := hi_x c1 c2
    rw [a2, d2, xor_can]
    exact Nat.xor_lt_two_pow d1 a1
  · rw [if_neg c]
    by_cases q : 2 * x < 2 ^ m
    · exact q
    · refine absurd ?_ c
      rw [Nat.shiftRight_eq_div_pow]
      exact Nat.div_eq_of_lt_le (by omega) (by omega)
theorem fpw_lt {m p : Nat} (hp : p >>> m = 1) (h3 : 3 ≤ m) : ∀ k, fpw m p k < 2 ^ m := by
  intro k
  induction k with
  | zero => exact Nat.one_lt_two_pow (by omega)
  | succ k ih => exact fmA_l2 hp ih
theorem fprim_iff {m p : Nat} (h3 : 3 ≤ m) (h6 : m ≤ 6) (hp : p >>> m = 1) : fprim m p = true ↔ (∀ k, 1 ≤ k → k < fN m → ¬ fpw m p k = 1) ∧ fpw m p (fN m) = 1 := by
  unfold fprim
  rw [decide_eq_true h3, decide_eq_true h6, decide_eq_true hp]
  simp only [Bool.true_and, Bool.and_eq_true, List.all_eq_true, List.mem_range, Bool.or_eq_true, beq_iff_eq, bne_iff_ne]
  constructor
  · intro ⟨h, e⟩
    exact ⟨fun k k1 k2 q => (h k k2).elim (fun z => by omega) (fun z => z q), e⟩
  · intro ⟨h, e⟩
    refine ⟨fun k k2 => ?_, e⟩
    by_cases q : k = 0
    · exact Or.inl q
    · exact Or.inr (h k (by omega) k2)
theorem fprim_n {m p : Nat} (hp : ¬ p >>> m = 1) : fprim m p = false := by
  refine Bool.eq_false_iff.mpr (fun e => hp ?_)
  simp only [fprim, Bool.and_eq_true, decide_eq_true_eq] at e
  exact e.1.1.2
theorem b36 {m : Nat} (h3 : 3 ≤ m) (h6 : m ≤ 6) : 8 ≤ 2 ^ m ∧ 2 ^ m ≤ 64 ∧ fN m + 1 = 2 ^ m := by
  have h2 : m = 3 ∨ m = 4 ∨ m = 5 ∨ m = 6 := by omega
  rcases h2 with e | e | e | e <;> subst e <;> decide
theorem nI_dbl (x : Nat) : nI x <<< ((1 : Int32) &&& 31) = nI (2 * x) := by
  rw [show (1 : Int32) = nI 1 from rfl, nI_shl x (by decide), Nat.shiftLeft_eq]; congr 1; omega
theorem nI_2m1 {m : Nat} (h6 : m ≤ 6) : ((1 : Int32) <<< (nI m &&& 31)) - 1 = nI (fN m) := by
  have : 1 ≤ 2 ^ m := Nat.pow_pos (by decide)
  rw [show (1 : Int32) = nI 1 from rfl, nI_shl 1 (by omega), Nat.one_shiftLeft, pk_sub this]; rfl
theorem dbl_q {m x : Nat} (h6 : m ≤ 6) (hx : x < 2 ^ m) : (2 * x) >>> m ≤ 1 := by
  rw [Nat.shiftRight_eq_div_pow]
  have := (Nat.div_lt_iff_lt_mul (show 0 < 2 ^ m from Nat.pow_pos (by decide)) (x := 2 * x) (y := 2)).mpr (by omega)
  omega
theorem s_timesA {M : Mem} {m p x : Nat} (h3 : 3 ≤ m) (h6 : m ≤ 6) (hx : x < 2 ^ m) : f_X12_timesA (nI x) (nI m) (nI p) M = some (nI (fmA m p x), M) := by
  have hb := b36 h3 h6
  have hq := dbl_q h6 hx
  unfold f_X12_timesA f_X12_timesA_20 fmA
  rw [nI_dbl, nI_shr (by omega) (by omega), show (1 : Int32) = nI 1 from rfl, nI_and, Nat.and_one_is_mod]
  revert hq
  generalize (2 * x) >>> m = v
  intro hq
  by_cases c : v = 1
  · rw [if_pos c, c, if_pos rfl, nI_xor]
  · rw [if_neg c, if_neg (fun e => c (by have := (nI_eq (a := v % 2) (b := 1) (by omega) (by decide)).mp e; omega))]
theorem m_pr13 {M : Mem} {m p : Nat} (h3 : 3 ≤ m) (h6 : m ≤ 6) (hp : p >>> m = 1) : ∀ e i f, i + 1 + e = 2 ^ m → (∀ j, 1 ≤ j → j ≤ i → ¬ fpw m p j = 1) → f_X12_isPrimitive_13 (nI m) (nI p) (e + 1 + f) (nI (fpw m p i)) (nI (i + 1)) M = some (b01 (fprim m p), M) := by
  have hb := b36 h3 h6
  have h1 : (1 : Int32) <<< (nI m &&& 31) = nI (2 ^ m) := by rw [show (1 : Int32) = nI 1 from rfl, nI_shl 1 (by omega), Nat.one_shiftLeft]
  have ff : ∀ k, 1 ≤ k → k < fN m → fpw m p k = 1 → fprim m p = false := fun k k1 k2 q => Bool.eq_false_iff.mpr (fun e => ((fprim_iff h3 h6 hp).mp e).1 k k1 k2 q)
  intro e
  induction e with
  | zero =>
    intro i f hi hn
    have hi : i = fN m := by omega
    rw [show 0 + 1 + f = f + 1 by omega, f_X12_isPrimitive_13, h1, if_pos (nI_le (by omega) (by omega)), show fprim m p = false from Bool.eq_false_iff.mpr (fun e => hn (fN m) (by omega) (by omega) ((fprim_iff h3 h6 hp).mp e).2)]
    rfl
  | succ e ih =>
    intro i f hi hn
    have hl := fpw_lt (p := p) hp h3
    rw [show e + 1 + 1 + f = (e + 1 + f) + 1 by omega, f_X12_isPrimitive_13, nI_2m1 h6, h1, if_neg (nI_ge (by omega) (by omega)), s_timesA h3 h6 (hl i), b_i]
    dsimp only
    unfold f_X12_isPrimitive_46
    rw [show fmA m p (fpw m p i) = fpw m p (i + 1) from rfl]
    by_cases c : fpw m p (i + 1) = 1
    · rw [if_pos (by rw [c]; rfl)]
      by_cases d : i + 1 = fN m
      · rw [if_pos (by rw [d]), zbz1, (fprim_iff h3 h6 hp).mpr ⟨fun k k1 k2 => hn k k1 (by omega), by rw [← d]; exact c⟩]; rfl
      · rw [if_neg (fun q => d ((nI_eq (by omega) (by omega)).mp q)), zbz0, ff (i + 1) (by omega) (by omega) c]; rfl
    · rw [if_neg (nI_n1 (by have := hl (i + 1); omega) c), nI_1]
      refine ih (i + 1) f (by omega) (fun j j1 j2 => ?_)
      by_cases q : j = i + 1
      · rw [q]; exact c
      · exact hn j j1 (by omega)
theorem m_prim {M : Mem} {m p : Nat} (h3 : 3 ≤ m) (h6 : m ≤ 6) (hp : p < 10000) : f_X12_isPrimitive (nI m) (nI p) M = some (b01 (fprim m p), M) := by
  have hb := b36 h3 h6
  have hs : p >>> m ≤ p := by rw [Nat.shiftRight_eq_div_pow]; exact Nat.div_le_self _ _
  unfold f_X12_isPrimitive
  rw [nI_shr (by omega) (by omega)]
  by_cases c : p >>> m = 1
  · have := m_pr13 (M := M) h3 h6 c (2 ^ m - 1) 0 (1000000 - 2 ^ m) (by omega) (fun j j1 j2 => by omega)
    rw [show 2 ^ m - 1 + 1 + (1000000 - 2 ^ m) = 1000000 by omega] at this
    rw [if_pos (by rw [c]; rfl)]
    exact this
  · rw [if_neg (nI_n1 (by omega) c), fprim_n c]; rfl
section
variable {c0 m p : Nat}
def Wtp (c0 x j : Nat) : Prop := (x = c0 + 1 ∧ (j = 6 ∨ j = 7)) ∨ x = c0 + 2 ∨ x = c0 + 3
theorem c_po28 (hz : zCh2 c0) (h3 : 3 ≤ m) (h6 : m ≤ 6) (hp : p >>> m = 1) : ∀ e k f M, k + e = fN m → WRc M → zI M (c0 + 1) 7 = nI (fN m) → (∀ j, 1 ≤ j → j < k → ¬ fpw m p j = 1) → (fprim m p = true → ∀ j, j < k → zI M (c0 + 2) j = nI (fpw m p j) ∧ zI M (c0 + 3) (fpw m p j) = nI j) → ∃ M', f_X1_takesPoly_28 (c0 + 1) (nI m) (nI p) (e + 1 + f) (nI (fpw m p k)) (nI k) M = some (b01 (fprim m p), M') ∧ FR (fun x _ => x = c0 + 2 ∨ x = c0 + 3) M M' ∧ (fprim m p = true → ∀ j, j < fN m → zI M' (c0 + 2) j = nI (fpw m p j) ∧ zI M' (c0 + 3) (fpw m p j) = nI j) := by
  have hb := b36 h3 h6
  have hl := fpw_lt (p := p) hp h3
  have s0 : (zSH (c0 + 2)).2 = 63 := by rcases hz with rfl | rfl <;> rfl
  have s1 : (zSH (c0 + 3)).2 = 64 := by rcases hz with rfl | rfl <;> rfl
  have ff : ∀ k, 1 ≤ k → k < fN m → fpw m p k = 1 → fprim m p = false := fun k k1 k2 q => Bool.eq_false_iff.mpr (fun e => ((fprim_iff h3 h6 hp).mp e).1 k k1 k2 q)
  intro e
  induction e with
  | zero =>
    intro k f M hk hW h7 hn hT
    have hk : k = fN m := by omega
    subst hk
    refine ⟨M, ?_, FR.rf _ M, hT⟩
    rw [show 0 + 1 + f = f + 1 by omega, f_X1_takesPoly_28, h7, if_pos (nI_le (by omega) (by omega))]
    unfold f_X1_takesPoly_96
    by_cases c : fpw m p (fN m) = 1
    · rw [if_pos (by rw [c]; rfl), zbz1, (fprim_iff h3 h6 hp).mpr ⟨hn, c⟩]; rfl
    · rw [if_neg (nI_n1 (by have := hl (fN m); omega) c), zbz0, show fprim m p = false from Bool.eq_false_iff.mpr (fun e => c ((fprim_iff h3 h6 hp).mp e).2)]; rfl
  | succ e ih =>
    intro k f M hk hW h7 hn hT
    have lk := hl k
    have key : (k = 0 ∨ ¬ fpw m p k = 1) → ∃ M', f_X1_takesPoly_49 (f_X1_takesPoly_28 (c0 + 1) (nI m) (nI p) (e + 1 + f)) (c0 + 1) (nI m) (nI p) (nI (fpw m p k)) (nI k) M = some (b01 (fprim m p), M') ∧ FR (fun x _ => x = c0 + 2 ∨ x = c0 + 3) M M' ∧ (fprim m p = true → ∀ j, j < fN m → zI M' (c0 + 2) j = nI (fpw m p j) ∧ zI M' (c0 + 3) (fpw m p j) = nI j) := by
      intro hc
      have f1 : FR (fun x _ => x = c0 + 2 ∨ x = c0 + 3) M (zsI (zsI M (c0 + 2) k (nI (fpw m p k))) (c0 + 3) (fpw m p k) (nI k)) := FR.sI (FR.sI (FR.rf _ M) (Or.inl rfl)) (Or.inr rfl)
      obtain ⟨M', a1, a2, a3⟩ := ih (k + 1) f _ (by omega) (f1.W hW) ((f1.I (by omega)).trans h7) (fun j j1 j2 => by
        by_cases q : j = k
        · rw [q]; exact hc.resolve_left (by omega)
        · exact hn j j1 (by omega)) (fun hpr j hj => by
        have hpr' := fprim_mem hpr
        by_cases q : j = k
        · rw [q, zI_se, zI_sn _ _ (by omega), zI_se]; exact ⟨rfl, rfl⟩
        · have hj2 := hT hpr j (by omega)
          have hne : ¬ fpw m p j = fpw m p k := fun e => q (f_inj hpr' (by omega) (by omega) e)
          rw [zI_sn _ _ (by omega), zI_sn _ _ (by omega), zI_sn _ _ (by omega), zI_sn _ _ (by omega)]
          exact hj2)
      refine ⟨M', ?_, f1.tr a2, a3⟩
      unfold f_X1_takesPoly_49 f_X1_takesPoly_80
      rw [wK_0 hW hz, b_i, zl_at 63 s0 (by omega) (by decide), b_i, b_i, zrf_sI, wK_1 hW hz, b_i, zl_at 64 s1 (by omega) (by decide), b_i, b_i, nI_dbl, nI_shr (by omega) (by omega), nI_xor, nI_1]
      have hq := dbl_q h6 lk
      have hx : fpw m p (k + 1) = fmA m p (fpw m p k) := rfl
      unfold fmA at hx
      by_cases c : (2 * fpw m p k) >>> m = 1
      · rw [if_pos c] at hx
        rw [if_pos (by rw [c]; rfl), ← hx]; exact a1
      · rw [if_neg c] at hx
        rw [if_neg (nI_n1 (by omega) c), ← hx]; exact a1
    rw [show e + 1 + 1 + f = (e + 1 + f) + 1 by omega, f_X1_takesPoly_28, h7, if_neg (nI_ge (by omega) (by omega))]
    by_cases k0 : k = 0
    · subst k0
      rw [if_pos (show nI 0 ≤ 0 by decide)]
      exact key (Or.inl rfl)
    · rw [if_neg (nI_nle (by omega) (by omega))]
      by_cases c : fpw m p k = 1
      · refine ⟨M, ?_, FR.rf _ M, fun q => ?_⟩
        · rw [if_pos (by rw [c]; rfl), ff k (by omega) (by omega) c]; rfl
        · rw [ff k (by omega) (by omega) c] at q; cases q
      · rw [if_neg (nI_n1 (by omega) c)]
        exact key (Or.inr c)
theorem c_poly {M : Mem} (hW : WRc M) (hz : zCh2 c0) (h3 : 3 ≤ m) (h6 : m ≤ 6) (hp : p < 10000) : ∃ M', f_X1_takesPoly (c0 + 1) (nI m) (nI p) M = some (b01 (fprim m p), M') ∧ FR (Wtp c0) M M' ∧ (fprim m p = true → CO M' (c0 + 1) (c0 + 2) (c0 + 3) m p ∧ zI M' (c0 + 1) 6 = nI m) := by
  have hb := b36 h3 h6
  have hs : p >>> m ≤ p := by rw [Nat.shiftRight_eq_div_pow]; exact Nat.div_le_self _ _
  have f1 : FR (Wtp c0) M (zsI (zsI M (c0 + 1) 6 (nI m)) (c0 + 1) 7 (nI (fN m))) := FR.sI (FR.sI (FR.rf _ M) (by unfold Wtp; omega)) (by unfold Wtp; omega)
  unfold f_X1_takesPoly
  rw [b_i, nI_2m1 h6, b_i, nI_shr (by omega) (by omega)]
  by_cases c : p >>> m = 1
  · obtain ⟨M', a1, a2, a3⟩ := c_po28 hz h3 h6 c (fN m) 0 (1000000 - fN m - 1) _ (by omega) (f1.W hW) (zI_se _ _ _ _) (fun j j1 j2 => by omega) (fun _ j j1 => by omega)
    rw [show fN m + 1 + (1000000 - fN m - 1) = 1000000 by omega] at a1
    rw [if_pos (by rw [c]; rfl)]
    refine ⟨M', a1, f1.tr (a2.mo (fun x j q => by unfold Wtp; omega)), fun q => ?_⟩
    have hpr := fprim_mem q
    have h := a3 q
    have W' := a2.W (f1.W hW)
    refine ⟨⟨wK_0 W' hz, wK_1 W' hz, by rcases hz with rfl | rfl <;> rfl, by rcases hz with rfl | rfl <;> rfl, ?_, fun k hk => (h k hk).1, fun x x1 x2 => ?_, hpr⟩, ?_⟩
    · rw [a2.I (by omega), zI_se]
    · obtain ⟨k, k1, k2⟩ := f_ex hpr x1 x2
      rw [← k2, (h k k1).2, f_lg hpr k1]
    · rw [a2.I (by omega), zI_sn _ _ (by omega), zI_se]
  · refine ⟨_, ?_, f1, fun q => ?_⟩
    · rw [if_neg (nI_n1 (by omega) c), fprim_n c]; rfl
    · rw [fprim_n c] at q; cases q
end
