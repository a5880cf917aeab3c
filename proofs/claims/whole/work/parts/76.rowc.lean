/-! rows: what a page holds; the class fills, copies, turns -/
abbrev RW : Type := Bool × Nat × Nat × (Nat → Nat)
def RV (m p t n : Nat) (r : RW) : Prop := r.1 = true → r.2.1 ≤ 99 ∧ r.2.2.1 < 2 ^ n ∧ (∀ j, 1 ≤ j → j ≤ 2 * t → sy m p n r.2.2.1 j = 0) ∧ ∀ k, k < n → r.2.2.2 k ≤ 99
def CR (M : Mem) (c n i : Nat) (r : RW) : Prop := zI M c 1 = nI i ∧ zI M c 2 = b01 r.1 ∧ (r.1 = true → zI M c 3 = nI r.2.1 ∧ zL M c 4 = lN r.2.2.1 ∧ ∀ k, k < n → zI M (c + 1) k = nI (r.2.2.2 k))
theorem CR.fr {W : Nat → Nat → Prop} {M M1 : Mem} {c n i : Nat} {r : RW} (h : CR M c n i r) (f : FR W M M1) (h1 : ∀ j, ¬ W c j) (h2 : ∀ j, ¬ W (c + 1) j) : CR M1 c n i r :=
  ⟨(f.I (h1 _)).trans h.1, (f.I (h1 _)).trans h.2.1, fun e => ⟨(f.I (h1 _)).trans (h.2.2 e).1, (f.L (h1 _)).trans (h.2.2 e).2.1, fun k hk => (f.I (h2 _)).trans ((h.2.2 e).2.2 k hk)⟩⟩
def bt (w k : Nat) : Nat := (w >>> k) &&& 1
theorem bt_if (w k : Nat) : bt w k = if w.testBit k then 1 else 0 := by
  unfold bt
  rw [Nat.testBit_eq_decide_div_mod_eq, Nat.and_one_is_mod, Nat.shiftRight_eq_div_pow]
  rcases Nat.mod_two_eq_zero_or_one (w / 2 ^ k) with e | e <;> rw [e] <;> rfl
theorem bt_le (w k : Nat) : bt w k ≤ 1 := by rw [bt_if]; cases w.testBit k <;> decide
theorem s_bitOf {M : Mem} {w k : Nat} (hw : w < 2 ^ 64) (hk : k < 64) : f_X11_bitOf (lN w) (nI k) M = some (nI (bt w k), M) := by
  unfold f_X11_bitOf bt
  rw [lN_ush hw hk, show (1 : Int64) = lN 1 from rfl, lN_and, lN_i]
theorem nI_e1 {a : Nat} (h : a ≤ 1) : nI a = 1 ↔ a = 1 := ⟨fun x => (nI_eq (a := a) (b := 1) (by omega) (by decide)).mp x, fun x => by rw [x]; rfl⟩
def lvw (w hi lo : Nat) : Nat → Nat := fun k => if w.testBit k then hi else lo
theorem s_rfill {M : Mem} {c c0 n w hi lo i : Nat} (hW : WRc M) (hc : RQ c) (h0 : zCh2 c0) (hr : zrf M c0 0 = some (c0 + 1)) (hn : n ≤ 63) (hw : w < 2 ^ 63) (h1 : zI M (c0 + 1) 10 = nI n) (h2 : zI M c0 10 = nI hi) (h3 : zI M c0 11 = nI lo) (hi1 : zI M c 1 = nI i) : ∃ M', f_X8_fill c c0 (lN w) M = some M' ∧ FR (fun b j => (b = c ∧ 2 ≤ j) ∨ b = c + 1) M M' ∧ CR M' c n i (true, 0, w, lvw w hi lo) := by
  have hcb := rq_b hc
  have hc0 : c0 = 335 ∨ c0 = 344 := h0
  have l : ∀ d k f M, WRc M → zrf M c0 0 = some (c0 + 1) → zI M (c0 + 1) 10 = nI n → zI M c0 10 = nI hi → zI M c0 11 = nI lo → k + d = n → (∀ q, q < k → zI M (c + 1) q = nI (lvw w hi lo q)) → ∃ M', f_X8_fill_18 c c0 (lN w) (d + 1 + f) (nI k) M = some M' ∧ FR (fun b j => b = c + 1) M M' ∧ ∀ q, q < n → zI M' (c + 1) q = nI (lvw w hi lo q) := by
    intro d
    induction d with
    | zero =>
      intro k f M hW hr h1 h2 h3 e hk
      have e2 : k = n := by omega
      subst e2
      exact ⟨M, by rw [show 0 + 1 + f = f + 1 by omega, f_X8_fill_18, hr, b_i, h1, if_pos (nI_le (Nat.le_refl _) (by omega))], FR.rf _ M, hk⟩
    | succ d ih =>
      intro k f M hW hr h1 h2 h3 e hk
      have fr : FR (fun b j => b = c + 1) M (zsI M (c + 1) k (nI (lvw w hi lo k))) := (FR.rf _ M).sI rfl
      obtain ⟨M', e1, e2, e3⟩ := ih (k + 1) f _ (fr.W hW) ((fr.R _ _).trans hr) ((fr.I (by omega)).trans h1) ((fr.I (by omega)).trans h2) ((fr.I (by omega)).trans h3) (by omega) (fun q hq => by
        by_cases h : q = k
        · subst h; exact zI_se _ _ _ _
        · exact (zI_sn _ _ (by omega)).trans (hk q (by omega)))
      refine ⟨M', ?_, fr.tr e2, e3⟩
      rw [show d + 1 + 1 + f = (d + 1 + f) + 1 by omega, f_X8_fill_18, hr, b_i, h1, if_neg (nI_ge (by omega) (by omega)), rq_0 hW hc, b_i, s_bitOf (by omega) (by omega), b_i]
      unfold f_X8_fill_57
      dsimp only
      rw [zl_at 63 (rq_s hc) (by omega) (by decide)]
      unfold lvw at e1
      by_cases hb : w.testBit k = true
      · rw [if_pos hb] at e1
        rw [if_pos ((nI_e1 (bt_le _ _)).mpr (by rw [bt_if, if_pos hb])), b_i, b_i, h2, nI_1]
        exact e1
      · rw [if_neg hb] at e1
        rw [if_neg (fun x => absurd ((nI_e1 (bt_le _ _)).mp x) (by rw [bt_if, if_neg hb]; decide)), b_i, b_i, h3, nI_1]
        exact e1
  have fr : FR (fun b j => (b = c ∧ 2 ≤ j) ∨ b = c + 1) M (zsL (zsI (zsI M c 2 1) c 3 0) c 4 (lN w)) := FR.sL (FR.sI (FR.sI (FR.rf _ M) (by omega)) (by omega)) (by omega)
  obtain ⟨M', e1, e2, e3⟩ := l n 0 (1000000 - n - 1) _ (fr.W hW) ((fr.R _ _).trans hr) ((fr.I (by omega)).trans h1) ((fr.I (by omega)).trans h2) ((fr.I (by omega)).trans h3) (by omega) (fun q h => absurd h (by omega))
  rw [show n + 1 + (1000000 - n - 1) = 1000000 by omega] at e1
  refine ⟨M', ?_, fr.tr (e2.mo (fun b j h => Or.inr h)), ⟨(e2.I (by omega)).trans ((fr.I (by omega)).trans hi1), ?_, fun _ => ⟨?_, ?_, e3⟩⟩⟩
  · unfold f_X8_fill
    rw [b_i, b_i, b_i]
    exact e1
  · rw [e2.I (by omega), zI_sL, zI_sn _ _ (by omega), zI_se]; rfl
  · rw [e2.I (by omega), zI_sL, zI_se]; rfl
  · rw [e2.L (by omega), zL_se]
theorem s_rturn {M : Mem} {c n k i : Nat} {r : RW} (hW : WRc M) (hc : RQ c) (hk : k < n) (hn : n ≤ 63) (hr : CR M c n i r) (hw : r.1 = true) (hl : r.2.2.2 k ≤ 99) : ∃ M', f_X8_turn c (nI k) M = some M' ∧ FR (fun b _ => b = c + 1) M M' ∧ CR M' c n i (true, r.2.1, r.2.2.1, fun q => if q = k then 99 - r.2.2.2 k else r.2.2.2 q) := by
  have hcb := rq_b hc
  obtain ⟨g1, g2, g3⟩ := hr
  obtain ⟨g3, g4, g5⟩ := g3 hw
  have fr : FR (fun b _ => b = c + 1) M (zsI M (c + 1) k (nI (99 - r.2.2.2 k))) := (FR.rf _ M).sI rfl
  refine ⟨_, ?_, fr, ⟨(fr.I (by omega)).trans g1, (fr.I (by omega)).trans (by rw [g2, hw]), fun _ => ⟨(fr.I (by omega)).trans g3, (fr.L (by omega)).trans g4, fun q hq => ?_⟩⟩⟩
  · unfold f_X8_turn
    rw [rq_0 hW hc, b_i, b_i, zl_at 63 (rq_s hc) (by omega) (by decide), b_i, b_i, b_i, g5 k hk, show (99 : Int32) = nI 99 from rfl, pk_sub hl]
  · show _ = nI (if q = k then 99 - r.2.2.2 k else r.2.2.2 q)
    by_cases h : q = k
    · subst h; rw [zI_se, if_pos rfl]
    · rw [zI_sn _ _ (by omega), if_neg h]; exact g5 q hq
theorem zbz_b {α : Type} (b : Bool) (K : Option α) : zbz (b01 b) K = K := by cases b; exact zbz0 K; exact zbz1 K
theorem s_rcopy {M : Mem} {c d n i : Nat} {r : RW} (hW : WRc M) (hc : RQ c) (hd : RQ d) (hcd : c ≠ d) (hcd2 : c ≠ d + 1) (hcd3 : c + 1 ≠ d) (hr : CR M d n i r) (hn : n ≤ 63) : ∃ M', f_X8_copy c d M = some M' ∧ FR (fun b _ => b = c ∨ b = c + 1) M M' ∧ CR M' c n i r := by
  obtain ⟨g1, g2, g3⟩ := hr
  have fr : FR (fun b _ => b = c ∨ b = c + 1) M (zsL (zsI (zsI (zsI M c 1 (zI M d 1)) c 2 (zI M d 2)) c 3 (zI M d 3)) c 4 (zL M d 4)) := FR.sL (FR.sI (FR.sI (FR.sI (FR.rf _ M) (by omega)) (by omega)) (by omega)) (by omega)
  obtain ⟨M', e1, e2, e3⟩ := s_copy (zsL (zsI (zsI (zsI M c 1 (zI M d 1)) c 2 (zI M d 2)) c 3 (zI M d 3)) c 4 (zL M d 4)) (a := d + 1) (b := c + 1) (c := c + 1) (n := 63) (rq_s hd) (rq_s hc) (rq_s hc) (by decide)
  refine ⟨M', ?_, fr.tr (e2.mo (fun b j h => Or.inr h)), ⟨?_, ?_, fun e => ⟨?_, ?_, fun k hk => ?_⟩⟩⟩
  · unfold f_X8_copy
    rw [b_i, zI_sn _ _ (by omega), g2, zbz_b, b_i, zI_sn _ _ (by omega), zI_sn _ _ (by omega), b_i, zL_sI, zL_sI, zL_sI, b_i]
    rw [g2] at e1
    simp only [zrf_sL, zrf_sI]
    rw [rq_0 hW hd, b_i, rq_0 hW hc, b_i, b_i, e1, b_i]
  · rw [e2.I (by omega), zI_sL, zI_sn _ _ (by omega), zI_sn _ _ (by omega), zI_se, g1]
  · rw [e2.I (by omega), zI_sL, zI_sn _ _ (by omega), zI_se, g2]
  · rw [e2.I (by omega), zI_sL, zI_se, (g3 e).1]
  · rw [e2.L (by omega), zL_se, (g3 e).2.1]
  · rw [e3 k (by omega), fr.I (by omega), (g3 e).2.2 k hk]
