/-! the pages of the class: cleared, copied -/
abbrev PSt : Type := Nat × (Nat → RW)
def CP (M : Mem) (q n : Nat) (S : PSt) : Prop := zI M q 1 = nI S.1 ∧ ∀ i, i < 6 → CR M (q + 2 + 2 * i) n i (S.2 i)
def Wpg (q a j : Nat) : Prop := (a = q ∧ j = 1) ∨ (q + 2 ≤ a ∧ a ≤ q + 13)
theorem CP.fr {W : Nat → Nat → Prop} {M M1 : Mem} {q n : Nat} {S : PSt} (h : CP M q n S) (f : FR W M M1) (hw : ∀ a j, q ≤ a → a ≤ q + 13 → ¬ W a j) : CP M1 q n S :=
  ⟨(f.I (hw _ _ (by omega) (by omega))).trans h.1, fun i hi => (h.2 i hi).fr f (fun _ => hw _ _ (by omega) (by omega)) (fun _ => hw _ _ (by omega) (by omega))⟩
theorem pq_dis {q r : Nat} (hq : PQ q) (hr : PQ r) (h : q ≠ r) : q + 14 ≤ r ∨ r + 14 ≤ q := by
  rcases hq with h1 | h1 | ⟨i, hi, h1⟩ <;> rcases hr with h2 | h2 | ⟨k, hk, h2⟩ <;> omega
theorem pq_b {q : Nat} (hq : PQ q) : 13 ≤ q ∧ q ≤ 313 ∧ (q + 13 < 41 ∨ 47 ≤ q) := by
  rcases hq with h1 | h1 | ⟨i, hi, h1⟩ <;> omega
theorem pq_r {q i : Nat} (hq : PQ q) (hi : i < 6) : RQ (q + 2 + 2 * i) := Or.inr ⟨q, i, hq, hi, rfl⟩
def R0 : RW := (false, 0, 0, fun _ => 0)
theorem s_pclear {M : Mem} {q : Nat} (n : Nat) (hW : WRc M) (hq : PQ q) (hN : ∀ i, i < 6 → zI M (q + 2 + 2 * i) 1 = nI i) : ∃ M', f_X5_clear q M = some M' ∧ FR (Wpg q) M M' ∧ CP M' q n (0, fun _ => R0) := by
  have l : ∀ d i f M, WRc M → i + d = 6 → (∀ k, k < 6 → zI M (q + 2 + 2 * k) 1 = nI k) → (∀ k, k < i → CR M (q + 2 + 2 * k) n k R0) → ∃ M', f_X5_clear_7 q (d + 1 + f) (nI i) M = some M' ∧ FR (fun a _ => q + 2 ≤ a ∧ a ≤ q + 13) M M' ∧ ∀ k, k < 6 → CR M' (q + 2 + 2 * k) n k R0 := by
    intro d
    induction d with
    | zero =>
      intro i f M hW e hN hk
      have e2 : i = 6 := by omega
      subst e2
      exact ⟨M, by rw [show 0 + 1 + f = f + 1 by omega, f_X5_clear_7]; exact ip (nI_le (a := 6) (Nat.le_refl _) (by decide)) rfl, FR.rf _ M, hk⟩
    | succ d ih =>
      intro i f M hW e hN hk
      have fr : FR (fun a _ => a = q + 2 + 2 * i) M (zsL (zsI (zsI M (q + 2 + 2 * i) 2 0) (q + 2 + 2 * i) 3 0) (q + 2 + 2 * i) 4 0) := FR.sL (FR.sI (FR.sI (FR.rf _ M) (by omega)) (by omega)) (by omega)
      have hn1 : zI (zsL (zsI (zsI M (q + 2 + 2 * i) 2 0) (q + 2 + 2 * i) 3 0) (q + 2 + 2 * i) 4 0) (q + 2 + 2 * i) 1 = nI i := by
        rw [zI_sL, zI_sn _ _ (by omega), zI_sn _ _ (by omega)]; exact hN i (by omega)
      obtain ⟨M', e1, e2, e3⟩ := ih (i + 1) f _ (fr.W hW) (by omega) (fun k hk6 => by
        by_cases h : k = i
        · subst h; exact hn1
        · rw [fr.I (by omega)]; exact hN k hk6) (fun k hk2 => by
        by_cases h : k = i
        · subst h
          refine ⟨hn1, ?_, fun e => absurd e (by decide)⟩
          rw [zI_sL, zI_sn _ _ (by omega), zI_se]; rfl
        · exact (hk k (by omega)).fr fr (fun _ => by omega) (fun _ => by omega))
      refine ⟨M', ?_, (fr.mo (fun a j h => by omega)).tr e2, e3⟩
      rw [show d + 1 + 1 + f = (d + 1 + f) + 1 by omega, f_X5_clear_7]
      refine im (nI_ge (a := i) (b := 6) (by omega) (by decide)) ?_
      rw [pq_0 hW hq, b_i, zl_at 6 (pq_get hq).2.1 (by omega) (by decide), b_i, pq_1 hW hq (by omega), b_i]
      unfold f_X8_clear
      rw [b_i, b_i, b_i, b_i, nI_1]
      exact e1
  have fr : FR (Wpg q) M (zsI M q 1 0) := (FR.rf _ M).sI (Or.inl ⟨rfl, rfl⟩)
  obtain ⟨M', e1, e2, e3⟩ := l 6 0 999993 (zsI M q 1 0) (fr.W hW) rfl (fun k hk => by rw [zI_sn _ _ (by omega)]; exact hN k hk) (fun k h => absurd h (by omega))
  refine ⟨M', ?_, fr.tr (e2.mo (fun a j h => Or.inr h)), (e2.I (by omega)).trans (zI_se _ _ _ _), e3⟩
  unfold f_X5_clear
  rw [b_i]
  exact e1
theorem s_pcopy {M : Mem} {q r n : Nat} {S : PSt} (hW : WRc M) (hq : PQ q) (hr : PQ r) (hqr : q ≠ r) (hn : n ≤ 63) (hS : CP M r n S) : ∃ M', f_X5_copy q r M = some M' ∧ FR (Wpg q) M M' ∧ CP M' q n S := by
  have hd := pq_dis hq hr hqr
  have l : ∀ d i f M, WRc M → i + d = 6 → CP M r n S → (∀ k, k < i → CR M (q + 2 + 2 * k) n k (S.2 k)) → ∃ M', f_X5_copy_10 q r (d + 1 + f) (nI i) M = some M' ∧ FR (fun a _ => q + 2 ≤ a ∧ a ≤ q + 13) M M' ∧ ∀ k, k < 6 → CR M' (q + 2 + 2 * k) n k (S.2 k) := by
    intro d
    induction d with
    | zero =>
      intro i f M hW e hN hk
      have e2 : i = 6 := by omega
      subst e2
      exact ⟨M, by rw [show 0 + 1 + f = f + 1 by omega, f_X5_copy_10]; exact ip (nI_le (a := 6) (Nat.le_refl _) (by decide)) rfl, FR.rf _ M, hk⟩
    | succ d ih =>
      intro i f M hW e hN hk
      obtain ⟨M1, a1, a2, a3⟩ := s_rcopy hW (pq_r hq (by omega : i < 6)) (pq_r hr (by omega : i < 6)) (by omega) (by omega) (by omega) (hN.2 i (by omega)) hn
      obtain ⟨M', e1, e2, e3⟩ := ih (i + 1) f M1 (a2.W hW) (by omega) (hN.fr a2 (fun a j _ _ => by omega)) (fun k hk2 => by
        by_cases h : k = i
        · subst h; exact a3
        · exact (hk k (by omega)).fr a2 (fun _ => by omega) (fun _ => by omega))
      refine ⟨M', ?_, (a2.mo (fun a j h => by omega)).tr e2, e3⟩
      rw [show d + 1 + 1 + f = (d + 1 + f) + 1 by omega, f_X5_copy_10]
      refine im (nI_ge (a := i) (b := 6) (by omega) (by decide)) ?_
      rw [pq_0 hW hq, b_i, zl_at 6 (pq_get hq).2.1 (by omega) (by decide), b_i, pq_1 hW hq (by omega), b_i, pq_0 hW hr, b_i, zl_at 6 (pq_get hr).2.1 (by omega) (by decide), b_i, pq_1 hW hr (by omega), b_i, a1, b_i, nI_1]
      exact e1
  have fr : FR (Wpg q) M (zsI M q 1 (zI M r 1)) := (FR.rf _ M).sI (Or.inl ⟨rfl, rfl⟩)
  obtain ⟨M', e1, e2, e3⟩ := l 6 0 999993 (zsI M q 1 (zI M r 1)) (fr.W hW) rfl (hS.fr fr (fun a j _ _ => by unfold Wpg; omega)) (fun k h => absurd h (by omega))
  refine ⟨M', ?_, fr.tr (e2.mo (fun a j h => Or.inr h)), (e2.I (by omega)).trans ((zI_se _ _ _ _).trans hS.1), e3⟩
  unfold f_X5_copy
  rw [b_i]
  exact e1
