/-! a read is decoded: the class -/
def dN (m p t n w : Nat) : nSt := nbm m p (sy m p n w) (2 * t)
def dRo (m p t n w : Nat) : List Nat := fps (fN m) (dP m p (dN m p t n w).1 (dN m p t n w).2.2.1)
def dCa (m p t n w : Nat) : Nat := if t < (dN m p t n w).2.2.1 then 1 else rootC n (dN m p t n w).2.2.1 (dRo m p t n w)
def dRs (m p t n w : Nat) : Nat := if dCa m p t n w = 0 then w ^^^ xs (dRo m p t n w).length (fun i => 2 ^ lg (dRo m p t n w) i) else w
def DC (M : Mem) (m p t n w : Nat) : Prop := (w < 2 ^ n) ∧ (zL M 6 6 = lN w) ∧ (zL M 6 7 = lN (dRs m p t n w)) ∧ (∀ j, 1 ≤ j → j ≤ 2 * t → zI M 7 j = nI (sy m p n w j)) ∧ (∀ i, i < 12 → zI M 8 i = nI ((dN m p t n w).1 i)) ∧ (zI M 6 8 = nI (dN m p t n w).2.2.1) ∧ (zI M 6 9 = nI (dCa m p t n w)) ∧ (dCa m p t n w = 0 → ∀ i, i < (dRo m p t n w).length → zI M 11 i = nI (lg (dRo m p t n w) i))
def DK (M : Mem) (m p t n : Nat) : Prop := zI M 6 5 = 0 ∨ (zI M 6 5 = 1 ∧ ∃ w, DC M m p t n w)
theorem dCa_0 {m p t n w : Nat} (h : dCa m p t n w = 0) : (dN m p t n w).2.2.1 ≤ t ∧ (dRo m p t n w).length = (dN m p t n w).2.2.1 ∧ anyO n (dRo m p t n w) = false := by
  unfold dCa at h
  by_cases h1 : t < (dN m p t n w).2.2.1
  · rw [if_pos h1] at h; exact absurd h (by decide)
  · rw [if_neg h1] at h
    unfold rootC at h
    by_cases h2 : (dRo m p t n w).length = (dN m p t n w).2.2.1
    · rw [if_pos h2] at h
      cases h3 : anyO n (dRo m p t n w) with
      | true => rw [h3, if_pos rfl] at h; exact absurd h (by decide)
      | false => exact ⟨by omega, h2, rfl⟩
    · rw [if_neg h2] at h; exact absurd h (by decide)
theorem dN_ok {m p t n w : Nat} (h : (m, p) ∈ fPR) : (∀ i, (dN m p t n w).1 i < 2 ^ m) ∧ (dN m p t n w).2.2.1 ≤ 2 * t := ⟨(nbm_bmi h (fun _ => sy_lt h) (2 * t)).1.1, (nbm_bd m p _ (2 * t)).1⟩
theorem lN_bit {k : Nat} (h : k < 64) : (1 : Int64) <<< ((nI k).toInt64 &&& 63) = lN (2 ^ k) := by
  rw [show (1 : Int64) = lN 1 from rfl, lN_shl 1 h, Nat.one_shiftLeft]
theorem s_dec150 {a : Nat} {y2 : Int64} {R : List Nat} {w : Nat} (hR : ∀ i, i < R.length → lg R i < 64) (hl : R.length ≤ 5) : ∀ d i f M, WRc M → zI M 6 8 = nI R.length → i + d = R.length → (∀ k, k < R.length → zI M 11 k = nI (lg R k)) → zL M 6 7 = lN (w ^^^ xs i (fun i => 2 ^ lg R i)) → ∃ M', f_X2_decode_150 6 a y2 (d + 1 + f) (nI i) M = some M' ∧ FR (fun b j => b = 6 ∧ j = 7) M M' ∧ zL M' 6 7 = lN (w ^^^ xs R.length (fun i => 2 ^ lg R i)) ∧ zI M' = zI M := by
  intro d
  induction d with
  | zero =>
    intro i f M hW h8 e hk hL
    have e2 : i = R.length := by omega
    subst e2
    exact ⟨M, by rw [show 0 + 1 + f = f + 1 by omega, f_X2_decode_150, h8, if_pos (nI_le (Nat.le_refl _) (by omega))]; rfl, FR.rf _ M, hL, rfl⟩
  | succ d ih =>
    intro i f M hW h8 e hk hL
    have fr : FR (fun b j => b = 6 ∧ j = 7) M (zsL M 6 7 (lN (w ^^^ xs (i + 1) (fun i => 2 ^ lg R i)))) := (FR.rf _ M).sL (by omega)
    obtain ⟨M', e1, e2, e3, e4⟩ := ih (i + 1) f _ (fr.W hW) h8 (by omega) hk (zL_se _ _ _ _)
    refine ⟨M', ?_, fr.tr e2, e3, e4.trans rfl⟩
    rw [show d + 1 + 1 + f = (d + 1 + f) + 1 by omega, f_X2_decode_150, h8, if_neg (nI_ge (by omega) (by omega)), w6_4 hW, b_i, zl_at 5 rfl (by omega) (by decide), b_i, b_i, hL, hk i (by omega), lN_bit (hR i (by omega)), lN_xor, nI_1, Nat.xor_assoc]
    exact e1
def Wde (a j : Nat) : Prop := a = 7 ∨ a = 8 ∨ a = 9 ∨ a = 10 ∨ a = 11 ∨ (a = 6 ∧ 5 ≤ j)
theorem s_dec137 {M : Mem} {a m p t n w : Nat} (ht : t ≤ 5) (hm : fN m ≤ 63) (hW : WRc M) (h6 : zL M 6 6 = lN w) (h7 : zL M 6 7 = lN w) (hw : w < 2 ^ n) (hs : ∀ j, 1 ≤ j → j ≤ 2 * t → zI M 7 j = nI (sy m p n w j)) (hF : ∀ i, i < 12 → zI M 8 i = nI ((dN m p t n w).1 i)) (h8 : zI M 6 8 = nI (dN m p t n w).2.2.1) (h5 : zI M 6 5 = 1) (hR : dCa m p t n w = 0 → ∀ i, i < (dRo m p t n w).length → zI M 11 i = nI (lg (dRo m p t n w) i)) : ∃ M', f_X2_decode_137 6 a (lN w) 6 (nI (dCa m p t n w)) M = some M' ∧ FR Wde M M' ∧ DC M' m p t n w ∧ zI M' 6 5 = 1 := by
  unfold f_X2_decode_137
  rw [b_i, zI_se]
  have hca : dCa m p t n w < 2 ^ 31 := by
    unfold dCa rootC
    by_cases h1 : t < (dN m p t n w).2.2.1
    · rw [if_pos h1]; decide
    · rw [if_neg h1]
      by_cases h2 : (dRo m p t n w).length = (dN m p t n w).2.2.1
      · rw [if_pos h2]; cases anyO n (dRo m p t n w) <;> decide
      · rw [if_neg h2]; decide
  have fr : FR Wde M (zsI M 6 9 (nI (dCa m p t n w))) := (FR.rf _ M).sI (by unfold Wde; omega)
  by_cases h0 : dCa m p t n w = 0
  · rw [if_pos (by rw [h0]; exact nI_0)]
    have hz := dCa_0 h0
    obtain ⟨M', e1, e2, e3, e4⟩ := s_dec150 (a := a) (y2 := lN w) (w := w) (R := dRo m p t n w) (fun i hi => by have := (fps_get _ _ i hi).1; unfold dRo; omega) (by omega) (dRo m p t n w).length 0 (1000000 - (dRo m p t n w).length - 1) _ (fr.W hW) (by rw [hz.2.1]; exact (zI_sn _ _ (by omega)).trans h8) (by omega) (fun k hk => (zI_sn _ _ (by omega)).trans (hR h0 k hk)) (by rw [show xs 0 _ = 0 from rfl, Nat.xor_zero]; exact h7)
    have hlen : (dRo m p t n w).length ≤ 63 := Nat.le_trans (fps_len _ _) hm
    rw [show (dRo m p t n w).length + 1 + (1000000 - (dRo m p t n w).length - 1) = 1000000 by omega] at e1
    refine ⟨M', e1, fr.tr (e2.mo (fun a j h => by unfold Wde; omega)), ⟨hw, (e2.L (by omega)).trans h6, ?_, ?_, ?_, ?_, ?_, ?_⟩, ?_⟩
    · rw [e3]; unfold dRs; rw [if_pos h0]
    · intro j q1 q2; rw [e4]; exact (zI_sn _ _ (by omega)).trans (hs j q1 q2)
    · intro j q1; rw [e4]; exact (zI_sn _ _ (by omega)).trans (hF j q1)
    · rw [e4]; exact (zI_sn _ _ (by omega)).trans h8
    · rw [e4]; exact zI_se _ _ _ _
    · intro _ i hi; rw [e4]; exact (zI_sn _ _ (by omega)).trans (hR h0 i hi)
    · rw [e4]; exact (zI_sn _ _ (by omega)).trans h5
  · rw [if_neg (nI_ne0 (by omega) hca)]
    refine ⟨_, rfl, fr, ⟨hw, h6, ?_, ?_, ?_, ?_, ?_, ?_⟩, ?_⟩
    · unfold dRs; rw [if_neg h0]; exact h7
    · intro j q1 q2; exact (zI_sn _ _ (by omega)).trans (hs j q1 q2)
    · intro j q1; exact (zI_sn _ _ (by omega)).trans (hF j q1)
    · exact (zI_sn _ _ (by omega)).trans h8
    · exact zI_se _ _ _ _
    · intro x; exact absurd x h0
    · exact (zI_sn _ _ (by omega)).trans h5
def CD (M : Mem) (a m p t n : Nat) : Prop := (a = 336 ∨ a = 345) ∧ CO M a (a + 1) (a + 2) m p ∧ zI M a 8 = nI t ∧ zI M a 10 = nI n ∧ n ≤ fN m ∧ t ≤ 5 ∧ 2 * t ≤ fN m
theorem CD.fr {W : Nat → Nat → Prop} {M M1 : Mem} {a m p t n : Nat} (h : CD M a m p t n) (f : FR W M M1) (hw : ∀ b j, 336 ≤ b → b ≤ 347 → ¬ W b j) : CD M1 a m p t n := by
  obtain ⟨h1, h2, h3, h4, h5⟩ := h
  exact ⟨h1, h2.fr f (hw _ _ (by omega) (by omega)) (fun _ => hw _ _ (by omega) (by omega)) (fun _ => hw _ _ (by omega) (by omega)), (f.I (hw _ _ (by omega) (by omega))).trans h3, (f.I (hw _ _ (by omega) (by omega))).trans h4, h5⟩
theorem s_dec69 {a m p t n w : Nat} (hw : w < 2 ^ n) : ∀ d j f M, WRc M → CD M a m p t n → 1 ≤ j → j + d = t + 1 → zL M 6 6 = lN w → zL M 6 7 = lN w → zI M 6 5 = 1 → (∀ i, i < t → zI M 7 (2 * i + 1) = nI (sy m p n w (2 * i + 1))) → (∀ i, 1 ≤ i → i < j → zI M 7 (2 * i) = nI (sy m p n w (2 * i))) → ∃ M', f_X2_decode_69 6 a (lN w) (d + 1 + f) (nI j) M = some M' ∧ FR Wde M M' ∧ DC M' m p t n w ∧ zI M' 6 5 = 1 := by
  intro d
  induction d with
  | zero =>
    intro j f M hW hC h1 e h6 h7 h5 hO hE
    obtain ⟨ha, hCO, ht, hn, hnN, ht5, h2t⟩ := hC
    have hm := f_m hCO.pr
    have hall : ∀ i, 1 ≤ i → i ≤ 2 * t → zI M 7 i = nI (sy m p n w i) := by
      intro i q1 q2
      rcases Nat.mod_two_eq_zero_or_one i with e0 | e0
      · have := hE (i / 2) (by omega) (by omega); rwa [show 2 * (i / 2) = i by omega] at this
      · have := hO (i / 2) (by omega); rwa [show 2 * (i / 2) + 1 = i by omega] at this
    obtain ⟨M1, b1, b2, b3⟩ := s_findFactors (S := sy m p n w) ha (fun i => sy_lt (j := i) hCO.pr) ht5 hW hCO ht hall
    have ok := dN_ok (t := t) (n := n) (w := w) hCO.pr
    have hWf : ∀ b j, ¬ Wff b j → zI M1 b j = zI M b j := fun b j h => b2.I h
    rw [show 0 + 1 + f = f + 1 by omega, f_X2_decode_69, ht, if_pos (nI_lt (by omega) (by omega)), b1, b_i, b3.2.2, hWf _ _ (by unfold Wff; omega), ht]
    have fr1 : FR Wde M M1 := b2.mo (fun a j h => by unfold Wff at h; unfold Wde; omega)
    have hC1 : CO M1 a (a + 1) (a + 2) m p := hCO.fr b2 (by unfold Wff; omega) (fun _ => by unfold Wff; omega) (fun _ => by unfold Wff; omega)
    by_cases hL : (nbm m p (sy m p n w) (2 * t)).2.2.1 ≤ t
    · rw [if_pos (nI_le hL (by omega))]
      obtain ⟨M2, c1, c2, c3⟩ := s_findRoots ha ok.1 (by omega) (by omega : n ≤ 63) (b2.W hW) hC1 b3.1 b3.2.2 ((hWf _ _ (by unfold Wff; omega)).trans hn)
      rw [show (dN m p t n w).2.2.1 = (nbm m p (sy m p n w) (2 * t)).2.2.1 from rfl] at *
      rw [c1, b_i]
      have hca : dCa m p t n w = rootC n (nbm m p (sy m p n w) (2 * t)).2.2.1 (fps (fN m) (dP m p (dN m p t n w).1 (nbm m p (sy m p n w) (2 * t)).2.2.1)) := by
        unfold dCa; rw [if_neg (by show ¬ t < (nbm m p (sy m p n w) (2 * t)).2.2.1; omega)]; rfl
      have fr2 : FR Wde M M2 := fr1.tr (c2.mo (fun a j h => by unfold Wde; omega))
      obtain ⟨M3, g1, g2, g3, g4⟩ := s_dec137 (a := a) (M := M2) (m := m) (p := p) (t := t) (n := n) (w := w) ht5 (by omega) (fr2.W hW) ((c2.L (by omega)).trans ((b2.L (by unfold Wff; omega)).trans h6)) ((c2.L (by omega)).trans ((b2.L (by unfold Wff; omega)).trans h7)) hw (fun j q1 q2 => (c2.I (by omega)).trans ((hWf _ _ (by unfold Wff; omega)).trans (hall j q1 q2))) (fun i hi => (c2.I (by omega)).trans (b3.1 i hi)) ((c2.I (by omega)).trans b3.2.2) ((c2.I (by omega)).trans ((hWf _ _ (by unfold Wff; omega)).trans h5)) (fun h0 i hi => c3 i (by have := dCa_0 h0; omega) hi)
      rw [hca] at g1
      exact ⟨M3, g1, fr2.tr g2, g3, g4⟩
    · rw [if_neg (nI_ge (by omega) (by have := ok.2; show (nbm m p (sy m p n w) (2 * t)).2.2.1 < 2 ^ 31; have : (dN m p t n w).2.2.1 = (nbm m p (sy m p n w) (2 * t)).2.2.1 := rfl; omega))]
      have hca : dCa m p t n w = 1 := by
        unfold dCa; rw [if_pos (by show t < (nbm m p (sy m p n w) (2 * t)).2.2.1; omega)]
      obtain ⟨M3, g1, g2, g3, g4⟩ := s_dec137 (a := a) (M := M1) (m := m) (p := p) (t := t) (n := n) (w := w) ht5 (by omega) (b2.W hW) ((b2.L (by unfold Wff; omega)).trans h6) ((b2.L (by unfold Wff; omega)).trans h7) hw (fun j q1 q2 => (hWf _ _ (by unfold Wff; omega)).trans (hall j q1 q2)) b3.1 b3.2.2 ((hWf _ _ (by unfold Wff; omega)).trans h5) (fun h0 => absurd h0 (by omega))
      rw [hca] at g1
      exact ⟨M3, g1, fr1.tr g2, g3, g4⟩
  | succ d ih =>
    intro j f M hW hC h1 e h6 h7 h5 hO hE
    have hC0 := hC
    obtain ⟨ha, hCO, ht, hn, hnN, ht5, h2t⟩ := hC
    have hjv : zI M 7 j = nI (sy m p n w j) := by
      rcases Nat.mod_two_eq_zero_or_one j with e0 | e0
      · have := hE (j / 2) (by omega) (by omega); rwa [show 2 * (j / 2) = j by omega] at this
      · have := hO (j / 2) (by omega); rwa [show 2 * (j / 2) + 1 = j by omega] at this
    have fr : FR Wde M (zsI M 7 (2 * j) (nI (sy m p n w (2 * j)))) := (FR.rf _ M).sI (by unfold Wde; omega)
    obtain ⟨M', e1, e2, e3, e4⟩ := ih (j + 1) f _ (fr.W hW) (hC0.fr fr (fun b j _ _ => by unfold Wde; omega)) (by omega) (by omega) h6 h7 ((zI_sn _ _ (by omega)).trans h5) (fun i hi => (zI_sn _ _ (by omega)).trans (hO i hi)) (fun i q1 q2 => by
      by_cases h : i = j
      · subst h; exact zI_se _ _ _ _
      · exact (zI_sn _ _ (by omega)).trans (hE i q1 (by omega)))
    refine ⟨M', ?_, fr.tr e2, e3, e4⟩
    rw [show d + 1 + 1 + f = (d + 1 + f) + 1 by omega, f_X2_decode_69, ht, if_neg (nI_nlt (by omega) (by omega)), w6_0 hW, b_i, b_i, zl_at 11 rfl (by omega) (by decide), b_i, b_i, zl_at 11 rfl (by omega) (by decide), b_i, hjv, s_product hCO (sy_lt hCO.pr) (sy_lt hCO.pr), b_i, show (2 : Int32) = nI 2 from rfl, pk_mul, zl_at 11 rfl (by omega) (by decide), b_i, b_i, nI_1, ← sy_sq hCO.pr]
    exact e1
theorem s_dec35 {a m p t n w : Nat} (hw : w < 2 ^ n) : ∀ d i f M, WRc M → CD M a m p t n → i + d = t → zL M 6 6 = lN w → zL M 6 7 = lN w → zI M 6 5 = 1 → (∀ k, k < i → zI M 7 (2 * k + 1) = nI (sy m p n w (2 * k + 1))) → ∃ M', f_X2_decode_35 6 a (lN w) (d + 1 + f) (nI (2 * i + 1)) M = some M' ∧ FR Wde M M' ∧ DC M' m p t n w ∧ zI M' 6 5 = 1 := by
  intro d
  induction d with
  | zero =>
    intro i f M hW hC e h6 h7 h5 hO
    have e2 : i = t := by omega
    subst e2
    have ht := hC.2.2.1
    have ht5 := hC.2.2.2.2.2.1
    have := s_dec69 hw i 1 (1000000 - i - 1) M hW hC (by omega) (by omega) h6 h7 h5 hO (fun k q1 q2 => absurd q2 (by omega))
    rw [show i + 1 + (1000000 - i - 1) = 1000000 by omega] at this
    rw [show 0 + 1 + f = f + 1 by omega, f_X2_decode_35, ht, show (2 : Int32) = nI 2 from rfl, pk_mul, if_pos (nI_le (by omega) (by omega))]
    exact this
  | succ d ih =>
    intro i f M hW hC e h6 h7 h5 hO
    have hC0 := hC
    obtain ⟨ha, hCO, ht, hn, hnN, ht5, h2t⟩ := hC
    have hm := f_m hCO.pr
    have fr : FR Wde M (zsI M 7 (2 * i + 1) (nI (sy m p n w (2 * i + 1)))) := (FR.rf _ M).sI (by unfold Wde; omega)
    obtain ⟨M', e1, e2, e3, e4⟩ := ih (i + 1) f _ (fr.W hW) (hC0.fr fr (fun b j _ _ => by unfold Wde; omega)) (by omega) h6 h7 ((zI_sn _ _ (by omega)).trans h5) (fun k q1 => by
      by_cases h : k = i
      · subst h; exact zI_se _ _ _ _
      · exact (zI_sn _ _ (by omega)).trans (hO k (by omega)))
    refine ⟨M', ?_, fr.tr e2, e3, e4⟩
    rw [show d + 1 + 1 + f = (d + 1 + f) + 1 by omega, f_X2_decode_35, ht, show (2 : Int32) = nI 2 from rfl, pk_mul, if_neg (nI_ge (by omega) (by omega)), w6_0 hW, b_i, s_valueAt hCO (by omega) hw (by omega), b_i, zl_at 11 rfl (by omega) (by decide), b_i, b_i, nI_add]
    exact e1
theorem s_decode {M : Mem} {a m p t n w : Nat} (hW : WRc M) (hC : CD M a m p t n) (hw : w < 2 ^ n) (hK : DK M m p t n) : ∃ M', f_X2_decode 6 a (lN w) M = some M' ∧ FR Wde M M' ∧ DC M' m p t n w ∧ zI M' 6 5 = 1 := by
  have hm := f_m hC.2.1.pr
  have hnN := hC.2.2.2.2.1
  have ht5 := hC.2.2.2.2.2.1
  have hw63 : ∀ w, w < 2 ^ n → w < 2 ^ 63 := fun w hw => Nat.lt_of_lt_of_le hw (Nat.pow_le_pow_right (by decide) (by omega))
  have go : ∃ M', f_X2_decode_17 6 a (lN w) M = some M' ∧ FR Wde M M' ∧ DC M' m p t n w ∧ zI M' 6 5 = 1 := by
    have fr : FR Wde M (zsL (zsL (zsI M 6 5 1) 6 6 (lN w)) 6 7 (lN w)) := FR.sL (FR.sL (FR.sI (FR.rf _ M) (by unfold Wde; omega)) (by unfold Wde; omega)) (by unfold Wde; omega)
    obtain ⟨M', e1, e2, e3, e4⟩ := s_dec35 hw t 0 (1000000 - t - 1) _ (fr.W hW) (hC.fr fr (fun b j _ _ => by unfold Wde; omega)) (by omega) ((zL_sn _ _ (by omega)).trans (zL_se _ _ _ _)) (zL_se _ _ _ _) (zI_se M 6 5 1) (fun k h => absurd h (by omega))
    rw [show t + 1 + (1000000 - t - 1) = 1000000 by omega] at e1
    refine ⟨M', ?_, fr.tr e2, e3, e4⟩
    unfold f_X2_decode_17
    rw [b_i, b_i, b_i]
    exact e1
  unfold f_X2_decode
  rcases hK with h0 | ⟨h1, w', hD⟩
  · rw [if_pos h0]; exact go
  · rw [h1, if_neg (by decide), hD.2.1]
    by_cases he : w' = w
    · subst he
      rw [if_pos ((lg_cmp_eq _ _).mpr rfl)]
      exact ⟨M, rfl, FR.rf _ M, hD, h1⟩
    · rw [if_neg (fun x => he ((pk_lEQ (hw63 _ hD.1) (hw63 _ hw)).mp ((lg_cmp_eq _ _).mp x)))]
      exact go
