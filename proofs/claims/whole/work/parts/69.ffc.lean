/-! the locator in the class -/
theorem nbm_bd (m p : Nat) (S : Nat → Nat) : ∀ j, (nbm m p S j).2.2.1 ≤ j ∧ 1 ≤ (nbm m p S j).2.2.2.1 ∧ (nbm m p S j).2.2.2.1 ≤ j + 1 := by
  intro j
  induction j with
  | zero => exact ⟨Nat.le_refl _, Nat.le_refl _, Nat.le_refl _⟩
  | succ j ih =>
    show (nst m p S (j + 1) (nbm m p S j)).2.2.1 ≤ j + 1 ∧ 1 ≤ (nst m p S (j + 1) (nbm m p S j)).2.2.2.1 ∧ (nst m p S (j + 1) (nbm m p S j)).2.2.2.1 ≤ j + 1 + 1
    unfold nst
    by_cases h1 : ngap m p S (nbm m p S j).1 (nbm m p S j).2.2.1 (j + 1) = 0
    · rw [if_pos h1]; exact ⟨Nat.le_succ_of_le ih.1, by simp only []; omega, by simp only []; omega⟩
    · rw [if_neg h1]
      by_cases h2 : 2 * (nbm m p S j).2.2.1 < j + 1
      · rw [if_pos h2]; exact ⟨by simp only []; omega, by simp only []; omega, by simp only []; omega⟩
      · rw [if_neg h2]; exact ⟨by simp only []; omega, by simp only []; omega, by simp only []; omega⟩
def CI (M : Mem) (s : nSt) : Prop := (∀ i, i < 12 → zI M 8 i = nI (s.1 i)) ∧ (∀ i, i < 12 → zI M 9 i = nI (s.2.1 i)) ∧ zI M 6 8 = nI s.2.2.1
def Wff (a j : Nat) : Prop := a = 8 ∨ a = 9 ∨ a = 10 ∨ (a = 6 ∧ j = 8)
theorem s_ff_l {a m p t : Nat} (ha : a = 336 ∨ a = 345) (hpr : (m, p) ∈ fPR) {S : Nat → Nat} (hS : ∀ i, S i < 2 ^ m) (ht : t ≤ 5) : ∀ d j f M, WRc M → CO M a (a + 1) (a + 2) m p → zI M a 8 = nI t → (∀ i, 1 ≤ i → i ≤ 2 * t → zI M 7 i = nI (S i)) → j + d = 2 * t → CI M (nbm m p S j) → ∃ M', f_X2_findFactors_42 6 a (d + 1 + f) (nI (nbm m p S j).2.2.2.1) (nI (nbm m p S j).2.2.2.2) (nI (j + 1)) M = some M' ∧ FR Wff M M' ∧ CI M' (nbm m p S (2 * t)) := by
  intro d
  induction d with
  | zero =>
    intro j f M hW h h8 hSy e hI
    have e2 : j = 2 * t := by omega
    subst e2
    refine ⟨M, ?_, FR.rf _ M, hI⟩
    rw [show 0 + 1 + f = f + 1 by omega, f_X2_findFactors_42, h8, show (2 : Int32) = nI 2 from rfl, pk_mul, if_pos (nI_lt (by omega) (by omega))]
  | succ d ih =>
    intro j f M hW h h8 hSy e hI
    obtain ⟨hF, hG, hL⟩ := hI
    have ok := (nbm_bmi hpr hS j).1
    have bd := nbm_bd m p S j
    have hm := f_m hpr
    have hgl : ngap m p S (nbm m p S j).1 (nbm m p S j).2.2.1 (j + 1) < 2 ^ m := ngap_lt hpr hS ok.1
    have hel : fmul m p (ngap m p S (nbm m p S j).1 (nbm m p S j).2.2.1 (j + 1)) (finv m p (nbm m p S j).2.2.2.2) < 2 ^ m := fmul_lt hpr hgl
    have hst : nbm m p S (j + 1) = nst m p S (j + 1) (nbm m p S j) := rfl
    have hgp := s_gapAt hW h hS ok.1 (by omega : (nbm m p S j).2.2.1 < j + 1) (by omega) (fun i a b => hSy i a (by omega)) hF hL
    rw [show d + 1 + 1 + f = (d + 1 + f) + 1 by omega, f_X2_findFactors_42, h8, show (2 : Int32) = nI 2 from rfl, pk_mul, if_neg (nI_nlt (by omega) (by omega)), hgp, b_i]
    unfold nst at hst
    by_cases h1 : ngap m p S (nbm m p S j).1 (nbm m p S j).2.2.1 (j + 1) = 0
    · rw [if_pos h1] at hst
      obtain ⟨M', e1, e2, e3⟩ := ih (j + 1) f M hW h h8 hSy (by omega) (by rw [hst]; exact ⟨hF, hG, hL⟩)
      refine ⟨M', ?_, e2, e3⟩
      rw [hst] at e1
      rw [if_pos (by rw [h1]; exact nI_0)]
      unfold f_X2_findFactors_176
      rw [nI_1, nI_1]
      exact e1
    · rw [if_neg h1] at hst
      rw [if_neg (nI_ne0 (by omega) (by omega))]
      by_cases h2 : 2 * (nbm m p S j).2.2.1 < j + 1
      · rw [if_pos h2] at hst
        obtain ⟨M1, a1, a2, a3⟩ := s_copy M (a := 8) (b := 10) (c := 10) (n := 12) rfl rfl rfl (by decide)
        have h1' : CO M1 a (a + 1) (a + 2) m p := h.fr a2 (by omega) (fun _ => by omega) (fun _ => by omega)
        obtain ⟨M2, b1, b2, b3⟩ := s_correct (M := M1) (by omega) (a2.W hW) h1' (C := (nbm m p S j).1) (B := (nbm m p S j).2.1) (x := (nbm m p S j).2.2.2.1) ok.2.1 hel (by omega) (fun i hi => (a2.I (by decide)).trans (hF i hi)) (fun i hi => (a2.I (by decide)).trans (hG i hi))
        obtain ⟨M3, c1, c2, c3⟩ := s_copy M2 (a := 10) (b := 9) (c := 9) (n := 12) rfl rfl rfl (by decide)
        have fr : FR Wff M (zsI M3 6 8 (nI (j + 1 - (nbm m p S j).2.2.1))) := FR.sI (((a2.mo (fun a j h => by unfold Wff; omega)).tr (b2.mo (fun a j h => by unfold Wff; omega))).tr (c2.mo (fun a j h => by unfold Wff; omega))) (by unfold Wff; omega)
        have hL3 : zI M3 6 8 = nI (nbm m p S j).2.2.1 := (c2.I (by omega)).trans ((b2.I (by omega)).trans ((a2.I (by omega)).trans hL))
        obtain ⟨M', e1, e2, e3⟩ := ih (j + 1) f _ (fr.W hW) (h.fr fr (by unfold Wff; omega) (fun _ => by unfold Wff; omega) (fun _ => by unfold Wff; omega)) ((fr.I (by unfold Wff; omega)).trans h8) (fun i q1 q2 => (fr.I (by unfold Wff; omega)).trans (hSy i q1 q2)) (by omega) (by
          rw [hst]
          exact ⟨fun i hi => (zI_sn _ _ (by omega)).trans ((c2.I (by omega)).trans (b3 i hi)), fun i hi => (zI_sn _ _ (by omega)).trans ((c3 i hi).trans ((b2.I (by omega)).trans ((a3 i hi).trans (hF i hi)))), zI_se _ _ _ _⟩)
        refine ⟨M', ?_, fr.tr e2, e3⟩
        rw [hst] at e1
        rw [if_neg (by rw [hL, pk_mul]; exact nI_ge (by omega) (by omega)), w6_1 hW, b_i, w6_3 hW, b_i, b_i, a1, b_i, s_inverse h1' ok.2.2.1 ok.2.2.2, b_i, s_product h1' hgl (finv_lt hpr _), b_i, b1, b_i, w6_3 (b2.W (a2.W hW)), b_i, w6_2 (b2.W (a2.W hW)), b_i, b_i, c1, b_i, b_i, hL3, pk_sub (by omega)]
        unfold f_X2_findFactors_176
        rw [nI_1]
        exact e1
      · rw [if_neg h2] at hst
        obtain ⟨M2, b1, b2, b3⟩ := s_correct (M := M) (by omega) hW h (C := (nbm m p S j).1) (B := (nbm m p S j).2.1) (x := (nbm m p S j).2.2.2.1) ok.2.1 hel (by omega) hF hG
        have fr : FR Wff M M2 := b2.mo (fun a j h => by unfold Wff; omega)
        obtain ⟨M', e1, e2, e3⟩ := ih (j + 1) f _ (fr.W hW) (h.fr fr (by unfold Wff; omega) (fun _ => by unfold Wff; omega) (fun _ => by unfold Wff; omega)) ((fr.I (by unfold Wff; omega)).trans h8) (fun i q1 q2 => (fr.I (by unfold Wff; omega)).trans (hSy i q1 q2)) (by omega) (by
          rw [hst]
          exact ⟨b3, fun i hi => (b2.I (by omega)).trans (hG i hi), (b2.I (by omega)).trans hL⟩)
        refine ⟨M', ?_, fr.tr e2, e3⟩
        rw [hst] at e1
        rw [if_pos (by rw [hL, pk_mul]; exact nI_le (by omega) (by omega)), s_inverse h ok.2.2.1 ok.2.2.2, b_i, s_product h hgl (finv_lt hpr _), b_i, b1, b_i]
        unfold f_X2_findFactors_176
        rw [nI_1, nI_1]
        exact e1
theorem s_findFactors {M : Mem} {a m p t : Nat} (ha : a = 336 ∨ a = 345) {S : Nat → Nat} (hS : ∀ i, S i < 2 ^ m) (ht : t ≤ 5) (hW : WRc M) (h : CO M a (a + 1) (a + 2) m p) (h8 : zI M a 8 = nI t) (hSy : ∀ i, 1 ≤ i → i ≤ 2 * t → zI M 7 i = nI (S i)) : ∃ M', f_X2_findFactors 6 a M = some M' ∧ FR Wff M M' ∧ CI M' (nbm m p S (2 * t)) := by
  obtain ⟨M1, a1, a2, a3⟩ := s_fill M (a := 8) (v := 0) (n := 12) rfl (by decide)
  obtain ⟨M2, b1, b2, b3⟩ := s_fill M1 (a := 9) (v := 0) (n := 12) rfl (by decide)
  have fr : FR Wff M (zsI (zsI (zsI M2 8 0 1) 9 0 1) 6 8 0) := FR.sI (FR.sI (FR.sI ((a2.mo (fun a j h => by unfold Wff; omega)).tr (b2.mo (fun a j h => by unfold Wff; omega))) (by unfold Wff; omega)) (by unfold Wff; omega)) (by unfold Wff; omega)
  obtain ⟨M', e1, e2, e3⟩ := s_ff_l ha h.pr hS ht (2 * t) 0 (1000000 - 2 * t - 1) _ (fr.W hW) (h.fr fr (by unfold Wff; omega) (fun _ => by unfold Wff; omega) (fun _ => by unfold Wff; omega)) ((fr.I (by unfold Wff; omega)).trans h8) (fun i q1 q2 => (fr.I (by unfold Wff; omega)).trans (hSy i q1 q2)) (by omega) (by
    show CI _ (nd0, nd0, 0, 1, 1)
    refine ⟨fun i hi => ?_, fun i hi => ?_, zI_se _ _ _ _⟩
    · show _ = nI (if i = 0 then 1 else 0)
      rw [zI_sn _ _ (by omega), zI_sn _ _ (by omega), zI_s]
      by_cases h0 : i = 0
      · rw [if_pos ⟨rfl, h0⟩, if_pos h0]; rfl
      · rw [if_neg (by omega), if_neg h0, b2.I (by omega), a3 i hi]; rfl
    · show _ = nI (if i = 0 then 1 else 0)
      rw [zI_sn _ _ (by omega), zI_s]
      by_cases h0 : i = 0
      · rw [if_pos ⟨rfl, h0⟩, if_pos h0]; rfl
      · rw [if_neg (by omega), if_neg h0, zI_sn _ _ (by omega), b3 i hi]; rfl)
  rw [show 2 * t + 1 + (1000000 - 2 * t - 1) = 1000000 by omega] at e1
  refine ⟨M', ?_, fr.tr e2, e3⟩
  unfold f_X2_findFactors
  rw [w6_1 hW, b_i, a1, b_i, w6_2 (a2.W hW), b_i, b1, b_i, w6_1 (b2.W (a2.W hW)), b_i, show zld 8 0 = some 0 from rfl, b_i, b_i, zrf_sI, w6_2 (b2.W (a2.W hW)), b_i, show zld 9 0 = some 0 from rfl, b_i, b_i, b_i]
  exact e1
