/-! the law's loop -/
theorem bix {α : Type} {o : Option α} {x : α} {K : α → Option (Int32 × Mem)} (h : o = some x) (h2 : ∃ M', K x = some (1, M')) : ∃ M', Option.bind o K = some (1, M') := by rw [h]; exact h2
theorem ipx {c : Prop} [Decidable c] {t e : Option (Int32 × Mem)} (h1 : c → ∃ M', t = some (1, M')) (h2 : ¬ c → ∃ M', e = some (1, M')) : ∃ M', (if c then t else e) = some (1, M') := by
  by_cases q : c
  · rw [if_pos q]; exact h1 q
  · rw [if_neg q]; exact h2 q
theorem zsi_at {sl k : Nat} (h : k < sl) (h2 : sl ≤ 3072) : zsi sl (nI k) = some k := by
  unfold zsi
  rw [if_neg (nI_in h (by omega)), nI_clamp (by omega)]
theorem lw_end {sl s : Nat} (h : sl ≤ 3072) (hs : s ≤ 513) (h6 : sl < 6 * s + 6) : nI sl - 6 < nI (6 * s) := by
  by_cases q : 6 ≤ sl
  · rw [show (6 : Int32) = nI 6 from rfl, pk_sub q]
    exact nI_lt (by omega) (by omega)
  · have h0 : (0 : Int32) ≤ nI (6 * s) := nI_le (a := 0) (Nat.zero_le _) (by omega)
    have h1 : nI sl - 6 < 0 := by
      have : sl = 0 ∨ sl = 1 ∨ sl = 2 ∨ sl = 3 ∨ sl = 4 ∨ sl = 5 := by omega
      rcases this with e | e | e | e | e | e <;> subst e <;> decide
    exact Int32.lt_of_lt_of_le h1 h0
set_option maxRecDepth 100000 in
set_option maxHeartbeats 4000000 in
theorem lw_step {xs : Nat → Int32} {sl i s f : Nat} {M : Mem} (hsl : sl ≤ 3072) (hi : i + 5 < sl) (hs : s ≤ 1000) (g : Inv M s) (hK : ∀ M2, Inv M2 (s + 1) → ∃ M', f_L_law_1304 xs sl (f_L_law_18 xs sl 1000005 f) 1000005 0 355 (nI i) M2 = some (1, M')) : ∃ M', f_L_law_18 xs sl 1000005 (f + 1) 0 355 (nI i) M = some (1, M') := by
  have z0 : zsi sl (nI i) = some i := zsi_at (by omega) hsl
  have z1 : zsi sl (nI i + 1) = some (i + 1) := by rw [show (1 : Int32) = nI 1 from rfl, nI_add]; exact zsi_at (by omega) hsl
  have z2 : zsi sl (nI i + 2) = some (i + 2) := by rw [show (2 : Int32) = nI 2 from rfl, nI_add]; exact zsi_at (by omega) hsl
  have z3 : zsi sl (nI i + 3) = some (i + 3) := by rw [show (3 : Int32) = nI 3 from rfl, nI_add]; exact zsi_at (by omega) hsl
  have z4 : zsi sl (nI i + 4) = some (i + 4) := by rw [show (4 : Int32) = nI 4 from rfl, nI_add]; exact zsi_at (by omega) hsl
  have z5 : zsi sl (nI i + 5) = some (i + 5) := by rw [show (5 : Int32) = nI 5 from rfl, nI_add]; exact zsi_at (by omega) hsl
  rw [f_L_law_18]
  refine ipx (fun _ => ⟨M, rfl⟩) (fun _ => ?_)
  refine bix z0 ?_
  refine ipx (fun _ => ?_) (fun _ => ?_)
  · obtain ⟨r, M1, M2, e1, e2, g2⟩ := (op_feed (xs (i + 1)) (xs (i + 2)) (xs (i + 3)) (xs (i + 4)) (xs (i + 5))) M s hs g
    refine bix z1 ?_
    refine bix z2 ?_
    refine bix z3 ?_
    refine bix z4 ?_
    refine bix z5 ?_
    refine bix e1 ?_
    refine bix z1 ?_
    refine bix z2 ?_
    refine bix z3 ?_
    refine bix z4 ?_
    refine bix z5 ?_
    refine bix e2 ?_
    exact ipx (fun _ => hK M2 g2) (fun h => absurd rfl h)
  refine ipx (fun _ => ?_) (fun _ => ?_)
  · obtain ⟨r, M1, M2, e1, e2, g2⟩ := (op_end (xs (i + 1))) M s hs g
    refine bix z1 ?_
    refine bix e1 ?_
    refine bix z1 ?_
    refine bix e2 ?_
    exact ipx (fun _ => hK M2 g2) (fun h => absurd rfl h)
  refine ipx (fun _ => ?_) (fun _ => ?_)
  · obtain ⟨r, M1, M2, e1, e2, g2⟩ := (op_chip) M s hs g
    refine bix e1 ?_
    refine bix e2 ?_
    exact ipx (fun _ => hK M2 g2) (fun h => absurd rfl h)
  refine ipx (fun _ => ?_) (fun _ => ?_)
  · obtain ⟨r, M1, M2, e1, e2, g2⟩ := (OP.b (op_fault (xs (i + 1)))) M s hs g
    refine bix z1 ?_
    refine bix e1 ?_
    refine bix z1 ?_
    refine bix e2 ?_
    exact ipx (fun _ => hK M2 g2) (fun h => absurd rfl h)
  refine ipx (fun _ => ?_) (fun _ => ?_)
  · obtain ⟨r, M1, M2, e1, e2, g2⟩ := (op_has (xs (i + 1))) M s hs g
    refine bix z1 ?_
    refine bix e1 ?_
    refine bix z1 ?_
    refine bix e2 ?_
    exact ipx (fun _ => hK M2 g2) (fun h => absurd rfl h)
  refine ipx (fun _ => ?_) (fun _ => ?_)
  · obtain ⟨r, M1, M2, e1, e2, g2⟩ := (OP.b (op_letter (xs (i + 1)) (xs (i + 2)))) M s hs g
    refine bix z1 ?_
    refine bix z2 ?_
    refine bix e1 ?_
    refine bix z1 ?_
    refine bix z2 ?_
    refine bix e2 ?_
    exact ipx (fun _ => hK M2 g2) (fun h => absurd rfl h)
  refine ipx (fun _ => ?_) (fun _ => ?_)
  · obtain ⟨r, M1, M2, e1, e2, g2⟩ := (OP.b (op_field (xs (i + 1)) (xs (i + 2)))) M s hs g
    refine bix z1 ?_
    refine bix z2 ?_
    refine bix e1 ?_
    refine bix z1 ?_
    refine bix z2 ?_
    refine bix e2 ?_
    exact ipx (fun _ => hK M2 g2) (fun h => absurd rfl h)
  refine ipx (fun _ => ?_) (fun _ => ?_)
  · obtain ⟨r, M1, M2, e1, e2, g2⟩ := (OP.b (op_generator (xs (i + 1)))) M s hs g
    refine bix z1 ?_
    refine bix e1 ?_
    refine bix z1 ?_
    refine bix e2 ?_
    exact ipx (fun _ => hK M2 g2) (fun h => absurd rfl h)
  refine ipx (fun _ => ?_) (fun _ => ?_)
  · obtain ⟨r, M1, M2, e1, e2, g2⟩ := (OP.b (op_word (xs (i + 1)) (xs (i + 2)) (xs (i + 3)))) M s hs g
    refine bix z1 ?_
    refine bix z2 ?_
    refine bix z3 ?_
    refine bix e1 ?_
    refine bix z1 ?_
    refine bix z2 ?_
    refine bix z3 ?_
    refine bix e2 ?_
    exact ipx (fun _ => hK M2 g2) (fun h => absurd rfl h)
  refine ipx (fun _ => ?_) (fun _ => ?_)
  · obtain ⟨r, M1, M2, e1, e2, g2⟩ := (OP.b (op_weight (xs (i + 1)))) M s hs g
    refine bix z1 ?_
    refine bix e1 ?_
    refine bix z1 ?_
    refine bix e2 ?_
    exact ipx (fun _ => hK M2 g2) (fun h => absurd rfl h)
  refine ipx (fun _ => ?_) (fun _ => ?_)
  · obtain ⟨r, M1, M2, e1, e2, g2⟩ := (OP.b (op_patterns (xs (i + 1)) (xs (i + 2)))) M s hs g
    refine bix z1 ?_
    refine bix z2 ?_
    refine bix e1 ?_
    refine bix z1 ?_
    refine bix z2 ?_
    refine bix e2 ?_
    exact ipx (fun _ => hK M2 g2) (fun h => absurd rfl h)
  refine ipx (fun _ => ?_) (fun _ => ?_)
  · obtain ⟨r, M1, M2, e1, e2, g2⟩ := (OP.b (op_page (xs (i + 1)) (xs (i + 2)))) M s hs g
    refine bix z1 ?_
    refine bix z2 ?_
    refine bix e1 ?_
    refine bix z1 ?_
    refine bix z2 ?_
    refine bix e2 ?_
    exact ipx (fun _ => hK M2 g2) (fun h => absurd rfl h)
  refine ipx (fun _ => ?_) (fun _ => ?_)
  · obtain ⟨r, M1, M2, e1, e2, g2⟩ := (OP.b (op_level (xs (i + 1)) (xs (i + 2)) (xs (i + 3)))) M s hs g
    refine bix z1 ?_
    refine bix z2 ?_
    refine bix z3 ?_
    refine bix e1 ?_
    refine bix z1 ?_
    refine bix z2 ?_
    refine bix z3 ?_
    refine bix e2 ?_
    exact ipx (fun _ => hK M2 g2) (fun h => absurd rfl h)
  refine ipx (fun _ => ?_) (fun _ => ?_)
  · obtain ⟨r, M1, M2, e1, e2, g2⟩ := (OP.b (op_ones (xs (i + 1)) (xs (i + 2)))) M s hs g
    refine bix z1 ?_
    refine bix z2 ?_
    refine bix e1 ?_
    refine bix z1 ?_
    refine bix z2 ?_
    refine bix e2 ?_
    exact ipx (fun _ => hK M2 g2) (fun h => absurd rfl h)
  refine ipx (fun _ => ?_) (fun _ => ?_)
  · obtain ⟨r, M1, M2, e1, e2, g2⟩ := (OP.b (op_syndrome (xs (i + 1)) (xs (i + 2)) (xs (i + 3)))) M s hs g
    refine bix z1 ?_
    refine bix z2 ?_
    refine bix z3 ?_
    refine bix e1 ?_
    refine bix z1 ?_
    refine bix z2 ?_
    refine bix z3 ?_
    refine bix e2 ?_
    exact ipx (fun _ => hK M2 g2) (fun h => absurd rfl h)
  refine ipx (fun _ => ?_) (fun _ => ?_)
  · obtain ⟨r, M1, M2, e1, e2, g2⟩ := (OP.b (op_locator (xs (i + 1)) (xs (i + 2)) (xs (i + 3)))) M s hs g
    refine bix z1 ?_
    refine bix z2 ?_
    refine bix z3 ?_
    refine bix e1 ?_
    refine bix z1 ?_
    refine bix z2 ?_
    refine bix z3 ?_
    refine bix e2 ?_
    exact ipx (fun _ => hK M2 g2) (fun h => absurd rfl h)
  refine ipx (fun _ => ?_) (fun _ => ?_)
  · obtain ⟨r, M1, M2, e1, e2, g2⟩ := (OP.b (op_wrong (xs (i + 1)) (xs (i + 2)) (xs (i + 3)))) M s hs g
    refine bix z1 ?_
    refine bix z2 ?_
    refine bix z3 ?_
    refine bix e1 ?_
    refine bix z1 ?_
    refine bix z2 ?_
    refine bix z3 ?_
    refine bix e2 ?_
    exact ipx (fun _ => hK M2 g2) (fun h => absurd rfl h)
  refine ipx (fun _ => ?_) (fun _ => ?_)
  · obtain ⟨r, M1, M2, e1, e2, g2⟩ := (OP.b (op_why (xs (i + 1)) (xs (i + 2)))) M s hs g
    refine bix z1 ?_
    refine bix z2 ?_
    refine bix e1 ?_
    refine bix z1 ?_
    refine bix z2 ?_
    refine bix e2 ?_
    exact ipx (fun _ => hK M2 g2) (fun h => absurd rfl h)
  refine ipx (fun _ => ?_) (fun _ => ?_)
  · obtain ⟨r, M1, M2, e1, e2, g2⟩ := (OP.b (op_got (xs (i + 1)) (xs (i + 2)))) M s hs g
    refine bix z1 ?_
    refine bix z2 ?_
    refine bix e1 ?_
    refine bix z1 ?_
    refine bix z2 ?_
    refine bix e2 ?_
    exact ipx (fun _ => hK M2 g2) (fun h => absurd rfl h)
  refine ipx (fun _ => ?_) (fun _ => ?_)
  · obtain ⟨r, M1, M2, e1, e2, g2⟩ := (OP.b (op_span (xs (i + 1)) (xs (i + 2)))) M s hs g
    refine bix z1 ?_
    refine bix z2 ?_
    refine bix e1 ?_
    refine bix z1 ?_
    refine bix z2 ?_
    refine bix e2 ?_
    exact ipx (fun _ => hK M2 g2) (fun h => absurd rfl h)
  refine ipx (fun _ => ?_) (fun _ => ?_)
  · obtain ⟨r, M1, M2, e1, e2, g2⟩ := (OP.b (op_lost (xs (i + 1)))) M s hs g
    refine bix z1 ?_
    refine bix e1 ?_
    refine bix z1 ?_
    refine bix e2 ?_
    exact ipx (fun _ => hK M2 g2) (fun h => absurd rfl h)
  refine ipx (fun _ => ?_) (fun _ => ?_)
  · obtain ⟨r, M1, M2, e1, e2, g2⟩ := (OP.b (op_odds (xs (i + 1)))) M s hs g
    refine bix z1 ?_
    refine bix e1 ?_
    refine bix z1 ?_
    refine bix e2 ?_
    exact ipx (fun _ => hK M2 g2) (fun h => absurd rfl h)
  refine ipx (fun _ => ?_) (fun _ => ?_)
  · obtain ⟨r, M1, M2, e1, e2, g2⟩ := (op_meet) M s hs g
    refine bix e1 ?_
    refine bix e2 ?_
    exact ipx (fun _ => hK M2 g2) (fun h => absurd rfl h)
  refine ipx (fun _ => ?_) (fun _ => ?_)
  · obtain ⟨r, M1, M2, e1, e2, g2⟩ := (OP.b (op_shifts (xs (i + 1)) (xs (i + 2)))) M s hs g
    refine bix z1 ?_
    refine bix z2 ?_
    refine bix e1 ?_
    refine bix z1 ?_
    refine bix z2 ?_
    refine bix e2 ?_
    exact ipx (fun _ => hK M2 g2) (fun h => absurd rfl h)
  refine ipx (fun _ => ?_) (fun _ => ?_)
  · obtain ⟨r, M1, M2, e1, e2, g2⟩ := (OP.b (op_tells (xs (i + 1)) (xs (i + 2)))) M s hs g
    refine bix z1 ?_
    refine bix z2 ?_
    refine bix e1 ?_
    refine bix z1 ?_
    refine bix z2 ?_
    refine bix e2 ?_
    exact ipx (fun _ => hK M2 g2) (fun h => absurd rfl h)
  refine ipx (fun _ => ?_) (fun _ => ?_)
  · obtain ⟨r, M1, M2, e1, e2, g2⟩ := (op_write (xs (i + 1)) (xs (i + 2)) (xs (i + 3))) M s hs g
    refine bix z1 ?_
    refine bix z2 ?_
    refine bix z3 ?_
    refine bix e1 ?_
    refine bix z1 ?_
    refine bix z2 ?_
    refine bix z3 ?_
    refine bix e2 ?_
    exact ipx (fun _ => hK M2 g2) (fun h => absurd rfl h)
  refine ipx (fun _ => ?_) (fun _ => ?_)
  · obtain ⟨r, M1, M2, e1, e2, g2⟩ := (op_erase (xs (i + 1))) M s hs g
    refine bix z1 ?_
    refine bix e1 ?_
    refine bix z1 ?_
    refine bix e2 ?_
    exact ipx (fun _ => hK M2 g2) (fun h => absurd rfl h)
  refine ipx (fun _ => ?_) (fun _ => ?_)
  · obtain ⟨r, M1, M2, e1, e2, g2⟩ := (op_flip (xs (i + 1)) (xs (i + 2))) M s hs g
    refine bix z1 ?_
    refine bix z2 ?_
    refine bix e1 ?_
    refine bix z1 ?_
    refine bix z2 ?_
    refine bix e2 ?_
    exact ipx (fun _ => hK M2 g2) (fun h => absurd rfl h)
  refine ipx (fun _ => ?_) (fun _ => ?_)
  · obtain ⟨r, M1, M2, e1, e2, g2⟩ := (op_refresh (xs (i + 1))) M s hs g
    refine bix z1 ?_
    refine bix e1 ?_
    refine bix z1 ?_
    refine bix e2 ?_
    exact ipx (fun _ => hK M2 g2) (fun h => absurd rfl h)
  refine ipx (fun _ => ?_) (fun _ => ?_)
  · obtain ⟨r, M1, M2, e1, e2, g2⟩ := (op_days (xs (i + 1))) M s hs g
    refine bix z1 ?_
    refine bix e1 ?_
    refine bix z1 ?_
    refine bix e2 ?_
    exact ipx (fun _ => hK M2 g2) (fun h => absurd rfl h)
  refine ipx (fun _ => ?_) (fun _ => ?_)
  · obtain ⟨r, M1, M2, e1, e2, g2⟩ := (op_chance (xs (i + 1))) M s hs g
    refine bix z1 ?_
    refine bix e1 ?_
    refine bix z1 ?_
    refine bix e2 ?_
    exact ipx (fun _ => hK M2 g2) (fun h => absurd rfl h)
  refine ipx (fun _ => ?_) (fun _ => ?_)
  · obtain ⟨r, M1, M2, e1, e2, g2⟩ := (op_undo) M s hs g
    refine bix e1 ?_
    refine bix e2 ?_
    exact ipx (fun _ => hK M2 g2) (fun h => absurd rfl h)
  refine ipx (fun _ => ?_) (fun _ => ?_)
  · obtain ⟨r, M1, M2, e1, e2, g2⟩ := (op_seed (xs (i + 1))) M s hs g
    refine bix z1 ?_
    refine bix e1 ?_
    refine bix z1 ?_
    refine bix e2 ?_
    exact ipx (fun _ => hK M2 g2) (fun h => absurd rfl h)
  refine ipx (fun _ => ?_) (fun _ => ?_)
  · obtain ⟨r, M1, M2, e1, e2, g2⟩ := (op_kept (xs (i + 1)) (xs (i + 2))) M s hs g
    refine bix z1 ?_
    refine bix z2 ?_
    refine bix e1 ?_
    refine bix z1 ?_
    refine bix z2 ?_
    refine bix e2 ?_
    exact ipx (fun _ => hK M2 g2) (fun h => absurd rfl h)
  refine ipx (fun _ => ?_) (fun _ => ?_)
  · obtain ⟨r, M1, M2, e1, e2, g2⟩ := (op_image) M s hs g
    refine bix e1 ?_
    refine bix e2 ?_
    exact ipx (fun _ => hK M2 g2) (fun h => absurd rfl h)
  refine ipx (fun _ => ?_) (fun _ => ?_)
  · obtain ⟨r, M1, M2, e1, e2, g2⟩ := (OP.b (op_octet (xs (i + 1)))) M s hs g
    refine bix z1 ?_
    refine bix e1 ?_
    refine bix z1 ?_
    refine bix e2 ?_
    exact ipx (fun _ => hK M2 g2) (fun h => absurd rfl h)
  refine ipx (fun _ => ?_) (fun _ => ?_)
  · obtain ⟨r, M1, M2, e1, e2, g2⟩ := (op_on) M s hs g
    refine bix e1 ?_
    refine bix e2 ?_
    exact ipx (fun _ => hK M2 g2) (fun h => absurd rfl h)
  refine ipx (fun _ => ?_) (fun _ => ?_)
  · obtain ⟨r, M1, M2, e1, e2, g2⟩ := (OP.b (op_status (xs (i + 1)))) M s hs g
    refine bix z1 ?_
    refine bix e1 ?_
    refine bix z1 ?_
    refine bix e2 ?_
    exact ipx (fun _ => hK M2 g2) (fun h => absurd rfl h)
  exact hK M (g.mono (by omega))
theorem lw_loop {xs : Nat → Int32} {sl : Nat} (hsl : sl ≤ 3072) : ∀ d s f M, s + d = 513 → Inv M s → ∃ M', f_L_law_18 xs sl 1000005 (d + 1 + f) 0 355 (nI (6 * s)) M = some (1, M') := by
  intro d
  induction d with
  | zero =>
    intro s f M hd g
    rw [show 0 + 1 + f = f + 1 by omega, f_L_law_18, if_pos (lw_end hsl (by omega) (by omega))]
    exact ⟨M, rfl⟩
  | succ d ih =>
    intro s f M hd g
    rw [show d + 1 + 1 + f = (d + 1 + f) + 1 by omega]
    by_cases q : sl < 6 * s + 6
    · rw [f_L_law_18, if_pos (lw_end hsl (by omega) q)]
      exact ⟨M, rfl⟩
    · refine lw_step hsl (by omega) (by omega) g (fun M2 g2 => ?_)
      unfold f_L_law_1304
      rw [show (6 : Int32) = nI 6 from rfl, nI_add, show 6 * s + 6 = 6 * (s + 1) by omega]
      exact ih (s + 1) f M2 (by omega) g2
theorem pure_law (xs : Nat → Int32) (sl : Nat) (h : sl ≤ 3072) : ∃ M', f_L_law xs sl zM0 = some (1, M') := by
  obtain ⟨M', e⟩ := lw_loop (xs := xs) h 513 0 (1000000 - 514) sM4 rfl st_inv
  refine ⟨M', ?_⟩
  unfold f_L_law
  rw [b_i, st_eq, b_i, b_i, st_eq2, b_i]
  exact e
