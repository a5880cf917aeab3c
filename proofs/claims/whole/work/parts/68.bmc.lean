/-! Berlekamp and Massey in the class -/
theorem FR.wI {W : Nat → Nat → Prop} {M M1 : Mem} (h : FR W M M1) {a : Nat} {f : Nat → Int32} (hw : ∀ j, W a j) : FR W M (zwI M1 a f) :=
  ⟨h.1, fun b j w => by
    rw [zI_wI, if_neg (fun e => w (by rw [e]; exact hw j))]; exact h.2.1 b j w, h.2.2⟩
theorem zlen_e {a n : Nat} (h : (zSH a).2 = n) : zlen a = nI n := by unfold zlen; rw [h]; rfl
theorem s_copy (M : Mem) {a b c n : Nat} (ha : (zSH a).2 = n) (hb : (zSH b).2 = n) (hc : (zSH c).2 = n) (hn : n < 2 ^ 31) : ∃ M', zcopy M a 0 b 0 (zlen c) = some M' ∧ FR (fun x _ => x = b) M M' ∧ ∀ i, i < n → zI M' b i = zI M a i := by
  refine ⟨zwI M b (va_cpy (zI M a) (zI M b) 0 0 n), ?_, (FR.rf _ M).wI (fun _ => rfl), fun i hi => ?_⟩
  · unfold zcopy
    rw [zlen_e hc, ha, hb, nI_clamp hn, if_neg]
    · rfl
    · intro h
      rcases h with h | h | h | h | h
      · exact absurd h (by decide)
      · exact absurd h (by decide)
      · exact nI_pos hn h
      · have : (0 : Int32).toNatClampNeg = 0 := rfl
        omega
      · have : (0 : Int32).toNatClampNeg = 0 := rfl
        omega
  · rw [zI_wI, if_pos rfl, pk_cpy_in (Nat.zero_le _) (by omega), Nat.zero_add, Nat.sub_zero]
theorem s_fill_l {a n : Nat} {v : Int32} (hs : (zSH a).2 = n) (hn : n < 2 ^ 31) : ∀ d i f M, i + d = n → (∀ k, k < i → zI M a k = v) → ∃ M', f_J7_fill_53178_5 a v (d + 1 + f) (nI i) (nI n) M = some M' ∧ FR (fun x _ => x = a) M M' ∧ ∀ k, k < n → zI M' a k = v := by
  intro d
  induction d with
  | zero =>
    intro i f M e hk
    have e2 : i = n := by omega
    subst e2
    exact ⟨M, by rw [show 0 + 1 + f = f + 1 by omega, f_J7_fill_53178_5, if_pos (nI_le (Nat.le_refl _) hn)], FR.rf _ M, hk⟩
  | succ d ih =>
    intro i f M e hk
    obtain ⟨M', e1, e2, e3⟩ := ih (i + 1) f (zsI M a i v) (by omega) (fun k hk2 => by
      by_cases h : k = i
      · subst h; exact zI_se M a k v
      · rw [zI_sn _ _ (by omega)]; exact hk k (by omega))
    refine ⟨M', ?_, FR.tr ((FR.rf (fun x _ => x = a) M).sI (a := a) (k := i) (v := v) rfl) e2, e3⟩
    rw [show d + 1 + 1 + f = (d + 1 + f) + 1 by omega, f_J7_fill_53178_5, if_neg (nI_ge (by omega) hn), zl_at n hs (by omega) hn, b_i, b_i, nI_1]
    exact e1
theorem s_fill (M : Mem) {a n : Nat} {v : Int32} (hs : (zSH a).2 = n) (hn : n ≤ 999999) : ∃ M', f_J7_fill_53178 a v M = some M' ∧ FR (fun x _ => x = a) M M' ∧ ∀ k, k < n → zI M' a k = v := by
  have := s_fill_l (v := v) hs (by omega) n 0 (1000000 - n - 1) M (by omega) (fun k h => absurd h (by omega))
  rw [show n + 1 + (1000000 - n - 1) = 1000000 by omega] at this
  unfold f_J7_fill_53178
  rw [zlen_e hs]
  exact this
theorem s_gapAt {M : Mem} {a pw ex m p : Nat} (hW : WRc M) (h : CO M a pw ex m p) {S C : Nat → Nat} {L j : Nat} (hS : ∀ i, S i < 2 ^ m) (hC : ∀ i, C i < 2 ^ m) (hL : L < j) (hj : j ≤ 10) (hSy : ∀ i, 1 ≤ i → i ≤ j → zI M 7 i = nI (S i)) (hF : ∀ i, i < 12 → zI M 8 i = nI (C i)) (h8 : zI M 6 8 = nI L) : f_X2_gapAt 6 a (nI j) M = some (nI (ngap m p S C L j), M) := by
  have l : ∀ d i f, i + d = L → f_X2_gapAt_10 6 a (nI j) (d + 1 + f) (nI (S j ^^^ xs i (fun i => fmul m p (C (i + 1)) (S (j - (i + 1)))))) (nI (i + 1)) M = some (nI (ngap m p S C L j), M) := by
    intro d
    induction d with
    | zero =>
      intro i f e
      have e2 : i = L := by omega
      subst e2
      rw [show 0 + 1 + f = f + 1 by omega, f_X2_gapAt_10, h8, if_pos (nI_lt (by omega) (by omega))]
      rfl
    | succ d ih =>
      intro i f e
      rw [show d + 1 + 1 + f = (d + 1 + f) + 1 by omega, f_X2_gapAt_10, h8, if_neg (nI_nlt (by omega) (by omega)), if_neg (nI_ge (by omega) (by omega)), w6_1 hW, b_i, zl_at 12 rfl (by omega) (by decide), b_i, w6_0 hW, b_i, pk_sub (by omega), zl_at 11 rfl (by omega) (by decide), b_i, hF _ (by omega), hSy _ (by omega) (by omega), s_product h (hC _) (hS _), b_i, nI_xor, nI_1, Nat.xor_assoc]
      exact ih (i + 1) f (by omega)
  have := l L 0 (1000000 - L - 1) (by omega)
  rw [show L + 1 + (1000000 - L - 1) = 1000000 by omega, show xs 0 _ = 0 from rfl, Nat.xor_zero] at this
  unfold f_X2_gapAt
  rw [w6_0 hW, b_i, zl_at 11 rfl (by omega) (by decide), b_i, hSy _ (by omega) (by omega)]
  exact this
theorem s_correct {M : Mem} {a pw ex m p : Nat} (ha : a ≠ 8 ∧ pw ≠ 8 ∧ ex ≠ 8) (hW : WRc M) (h : CO M a pw ex m p) {C B : Nat → Nat} {e x : Nat} (hB : ∀ i, B i < 2 ^ m) (he : e < 2 ^ m) (hx : x ≤ 12) (hF : ∀ i, i < 12 → zI M 8 i = nI (C i)) (hG : ∀ i, i < 12 → zI M 9 i = nI (B i)) : ∃ M', f_X2_correct 6 a (nI e) (nI x) M = some M' ∧ FR (fun b _ => b = 8) M M' ∧ ∀ i, i < 12 → zI M' 8 i = nI (nC m p C B e x i) := by
  have l : ∀ d i f M, WRc M → CO M a pw ex m p → i + d = 12 → x ≤ i → (∀ k, k < i → zI M 8 k = nI (nC m p C B e x k)) → (∀ k, i ≤ k → k < 12 → zI M 8 k = nI (C k)) → (∀ k, k < 12 → zI M 9 k = nI (B k)) → ∃ M', f_X2_correct_3 6 a (nI e) (nI x) (d + 1 + f) (nI i) M = some M' ∧ FR (fun b _ => b = 8) M M' ∧ ∀ i, i < 12 → zI M' 8 i = nI (nC m p C B e x i) := by
    intro d
    induction d with
    | zero =>
      intro i f M hW h e2 hi h1 h2 h3
      have e3 : i = 12 := by omega
      subst e3
      exact ⟨M, by rw [show 0 + 1 + f = f + 1 by omega, f_X2_correct_3, w6_1 hW, b_i, zlen_e (n := 12) rfl, if_pos (nI_le (Nat.le_refl _) (by decide))], FR.rf _ M, h1⟩
    | succ d ih =>
      intro i f M hW h e2 hi h1 h2 h3
      have hv : nI (C i) ^^^ nI (fmul m p e (B (i - x))) = nI (nC m p C B e x i) := by
        unfold nC
        rw [nI_xor, if_pos hi]
      have fr : FR (fun b _ => b = 8) M (zsI M 8 i (nI (nC m p C B e x i))) := (FR.rf _ M).sI rfl
      obtain ⟨M', e4, e5, e6⟩ := ih (i + 1) f (zsI M 8 i (nI (nC m p C B e x i))) (fr.W hW) (h.fr fr ha.1 (fun _ => ha.2.1) (fun _ => ha.2.2)) (by omega) (by omega) (fun k hk => by
        by_cases h : k = i
        · subst h; exact zI_se M 8 k _
        · rw [zI_sn _ _ (by omega)]; exact h1 k (by omega)) (fun k hk hk2 => by rw [zI_sn _ _ (by omega)]; exact h2 k (by omega) hk2) (fun k hk => (fr.I (by decide)).trans (h3 k hk))
      refine ⟨M', ?_, fr.tr e5, e6⟩
      rw [show d + 1 + 1 + f = (d + 1 + f) + 1 by omega, f_X2_correct_3, w6_1 hW, b_i, zlen_e (n := 12) rfl, if_neg (nI_ge (by omega) (by decide)), b_i, zl_at 12 rfl (by omega) (by decide), b_i, w6_2 hW, b_i, pk_sub hi, zl_at 12 rfl (by omega) (by decide), b_i, h3 _ (by omega), s_product h he (hB _), b_i, b_i, b_i, h2 i (Nat.le_refl _) (by omega), hv, nI_1]
      exact e4
  have := l (12 - x) x (1000000 - (12 - x) - 1) M hW h (by omega) (Nat.le_refl _) (fun k hk => by
    unfold nC
    rw [if_neg (by omega), Nat.xor_zero]; exact hF k (by omega)) (fun k _ hk => hF k hk) hG
  rw [show 12 - x + 1 + (1000000 - (12 - x) - 1) = 1000000 by omega] at this
  exact this
