/-! Berlekamp and Massey in the model -/
theorem s_missing {M : Mem} {m p : Nat} (hW : WRc M) (h : MO M m p) {S C : Nat → Nat} {L j : Nat} (hS : ∀ i, S i < 2 ^ m) (hC : ∀ i, C i < 2 ^ m) (hL : L < j) (hj : j ≤ 10) (hSy : ∀ i, 1 ≤ i → i ≤ j → zI M 375 i = nI (S i)) (hF : ∀ i, i < 14 → zI M 376 i = nI (C i)) (h8 : zI M 355 49 = nI L) : f_X12_missing 355 (nI j) M = some (nI (ngap m p S C L j), M) := by
  have l : ∀ d i f, i + d = L → f_X12_missing_9 355 (nI j) (d + 1 + f) (nI (S j ^^^ xs i (fun i => fmul m p (C (i + 1)) (S (j - (i + 1)))))) (nI (i + 1)) M = some (nI (ngap m p S C L j), M) := by
    intro d
    induction d with
    | zero =>
      intro i f e
      have e2 : i = L := by omega
      subst e2
      rw [show 0 + 1 + f = f + 1 by omega, f_X12_missing_9, h8, if_pos (nI_lt (by omega) (by omega))]
      rfl
    | succ d ih =>
      intro i f e
      rw [show d + 1 + 1 + f = (d + 1 + f) + 1 by omega, f_X12_missing_9, h8, if_neg (nI_nlt (by omega) (by omega)), w355_46 hW, b_i, zl_at 14 rfl (by omega) (by decide), b_i, w355_45 hW, b_i, pk_sub (by omega), zl_at 12 rfl (by omega) (by decide), b_i, hF _ (by omega), hSy _ (by omega) (by omega), s_times h (hC _) (hS _), b_i, nI_xor, nI_1, Nat.xor_assoc]
      exact ih (i + 1) f (by omega)
  have := l L 0 (1000000 - L - 1) (by omega)
  rw [show L + 1 + (1000000 - L - 1) = 1000000 by omega, show xs 0 _ = 0 from rfl, Nat.xor_zero] at this
  unfold f_X12_missing
  rw [w355_45 hW, b_i, zl_at 12 rfl (by omega) (by decide), b_i, hSy _ (by omega) (by omega)]
  exact this
theorem s_loc84 {k52 : Int32 → Int32 → Int32 → Mem → Option Mem} {x1 x2 x3 x4 : Int32} : ∀ d i f M, WRc M → i + d = 14 → ∃ M', f_X12_locates_84 k52 355 (d + 1 + f) x1 x2 x3 x4 (nI i) M = (Option.bind (f_X12_inverse 355 x2 M') fun z21 => Option.bind (f_X12_times 355 x4 z21.1 z21.2) fun z22 => f_X12_locates_127 k52 355 1000000 x1 x2 x3 x4 z22.1 x1 z22.2) ∧ FR (fun a _ => a = 378) M M' ∧ (∀ k, i ≤ k → k < 14 → zI M' 378 k = zI M 376 k) ∧ (∀ k, k < i → zI M' 378 k = zI M 378 k) := by
  intro d
  induction d with
  | zero =>
    intro i f M hW e
    have e3 : i = 14 := by omega
    subst e3
    exact ⟨M, by rw [show 0 + 1 + f = f + 1 by omega, f_X12_locates_84, show (14 : Int32) = nI 14 from rfl, if_pos (nI_le (a := 14) (Nat.le_refl _) (by decide))], FR.rf _ M, fun k h1 h2 => absurd h2 (by omega), fun k _ => rfl⟩
  | succ d ih =>
    intro i f M hW e
    have fr : FR (fun a _ => a = 378) M (zsI M 378 i (zI M 376 i)) := (FR.rf _ M).sI rfl
    obtain ⟨M', e1, e2, e3, e4⟩ := ih (i + 1) f (zsI M 378 i (zI M 376 i)) (fr.W hW) (by omega)
    refine ⟨M', ?_, fr.tr e2, fun k h1 h2 => ?_, fun k hk => (e4 k (by omega)).trans (zI_sn _ _ (by omega))⟩
    · rw [show d + 1 + 1 + f = (d + 1 + f) + 1 by omega, f_X12_locates_84, show (14 : Int32) = nI 14 from rfl, if_neg (nI_ge (a := i) (b := 14) (by omega) (by decide)), w355_48 hW, b_i, w355_46 hW, b_i, zl_at 14 rfl (by omega) (by decide), b_i, zl_at 14 rfl (by omega) (by decide), b_i, b_i, nI_1]
      exact e1
    · by_cases h : k = i
      · subst h; rw [e4 k (by omega)]; exact zI_se _ _ _ _
      · rw [e3 k (by omega) h2]; exact zI_sn _ _ (by omega)
theorem s_loc196 {k52 : Int32 → Int32 → Int32 → Mem → Option Mem} {x3 x4 : Int32} : ∀ d i f M, WRc M → i + d = 14 → ∃ M', f_X12_locates_196 k52 355 (d + 1 + f) x3 x4 (nI i) M = k52 1 x4 (x3 + 1) M' ∧ FR (fun a _ => a = 377) M M' ∧ (∀ k, i ≤ k → k < 14 → zI M' 377 k = zI M 378 k) ∧ (∀ k, k < i → zI M' 377 k = zI M 377 k) := by
  intro d
  induction d with
  | zero =>
    intro i f M hW e
    have e3 : i = 14 := by omega
    subst e3
    exact ⟨M, by rw [show 0 + 1 + f = f + 1 by omega, f_X12_locates_196, show (14 : Int32) = nI 14 from rfl, if_pos (nI_le (a := 14) (Nat.le_refl _) (by decide))]; rfl, FR.rf _ M, fun k h1 h2 => absurd h2 (by omega), fun k _ => rfl⟩
  | succ d ih =>
    intro i f M hW e
    have fr : FR (fun a _ => a = 377) M (zsI M 377 i (zI M 378 i)) := (FR.rf _ M).sI rfl
    obtain ⟨M', e1, e2, e3, e4⟩ := ih (i + 1) f (zsI M 377 i (zI M 378 i)) (fr.W hW) (by omega)
    refine ⟨M', ?_, fr.tr e2, fun k h1 h2 => ?_, fun k hk => (e4 k (by omega)).trans (zI_sn _ _ (by omega))⟩
    · rw [show d + 1 + 1 + f = (d + 1 + f) + 1 by omega, f_X12_locates_196, show (14 : Int32) = nI 14 from rfl, if_neg (nI_ge (a := i) (b := 14) (by omega) (by decide)), w355_47 hW, b_i, w355_48 hW, b_i, zl_at 14 rfl (by omega) (by decide), b_i, zl_at 14 rfl (by omega) (by decide), b_i, b_i, nI_1]
      exact e1
    · by_cases h : k = i
      · subst h; rw [e4 k (by omega)]; exact zI_se _ _ _ _
      · rw [e3 k (by omega) h2]; exact zI_sn _ _ (by omega)
theorem s_loc127 {k52 : Int32 → Int32 → Int32 → Mem → Option Mem} {m p : Nat} {C B : Nat → Nat} {e x : Nat} {x2 x3 x4 : Int32} (hB : ∀ i, B i < 2 ^ m) (he : e < 2 ^ m) : ∀ d i f M, WRc M → MO M m p → i + d = 14 → x ≤ i → (∀ k, k < i → zI M 376 k = nI (nC m p C B e x k)) → (∀ k, i ≤ k → k < 14 → zI M 376 k = nI (C k)) → (∀ k, k < 14 → zI M 377 k = nI (B k)) → ∃ M', f_X12_locates_127 k52 355 (d + 1 + f) (nI x) x2 x3 x4 (nI e) (nI i) M = (if 2 * (zI M' 355 49) ≤ x3 - 1 then Option.bind (some (zsI M' 355 49 (x3 - (zI M' 355 49)))) fun M13 => f_X12_locates_196 k52 355 1000000 x3 x4 0 M13 else f_X12_locates_228 k52 355 (nI x + 1) x2 x3 M') ∧ FR (fun b _ => b = 376) M M' ∧ ∀ i, i < 14 → zI M' 376 i = nI (nC m p C B e x i) := by
  intro d
  induction d with
  | zero =>
    intro i f M hW h e2 hi h1 h2 h3
    have e3 : i = 14 := by omega
    subst e3
    exact ⟨M, by rw [show 0 + 1 + f = f + 1 by omega, f_X12_locates_127, show (14 : Int32) = nI 14 from rfl, if_pos (nI_le (a := 14) (Nat.le_refl _) (by decide))], FR.rf _ M, h1⟩
  | succ d ih =>
    intro i f M hW h e2 hi h1 h2 h3
    have hv : nI (C i) ^^^ nI (fmul m p e (B (i - x))) = nI (nC m p C B e x i) := by
      unfold nC
      rw [nI_xor, if_pos hi]
    have fr : FR (fun b _ => b = 376) M (zsI M 376 i (nI (nC m p C B e x i))) := (FR.rf _ M).sI rfl
    obtain ⟨M', e4, e5, e6⟩ := ih (i + 1) f (zsI M 376 i (nI (nC m p C B e x i))) (fr.W hW) (h.fr fr (by decide) (fun _ => by decide) (fun _ => by decide)) (by omega) (by omega) (fun k hk => by
      by_cases h : k = i
      · subst h; exact zI_se M 376 k _
      · rw [zI_sn _ _ (by omega)]; exact h1 k (by omega)) (fun k hk hk2 => by rw [zI_sn _ _ (by omega)]; exact h2 k (by omega) hk2) (fun k hk => (fr.I (by decide)).trans (h3 k hk))
    refine ⟨M', ?_, fr.tr e5, e6⟩
    rw [show d + 1 + 1 + f = (d + 1 + f) + 1 by omega, f_X12_locates_127, show (14 : Int32) = nI 14 from rfl, if_neg (nI_ge (a := i) (b := 14) (by omega) (by decide)), w355_46 hW, b_i, zl_at 14 rfl (by omega) (by decide), b_i, w355_47 hW, b_i, pk_sub hi, zl_at 14 rfl (by omega) (by decide), b_i, h3 _ (by omega), s_times h he (hB _), b_i, b_i, b_i, h2 i (Nat.le_refl _) (by omega), hv, nI_1]
    exact e4
def MI (M : Mem) (s : nSt) : Prop := (∀ i, i < 14 → zI M 376 i = nI (s.1 i)) ∧ (∀ i, i < 14 → zI M 377 i = nI (s.2.1 i)) ∧ zI M 355 49 = nI s.2.2.1
def Wlo (a j : Nat) : Prop := a = 376 ∨ a = 377 ∨ a = 378 ∨ (a = 355 ∧ j = 49)
theorem s_loc_l {m p t : Nat} (hpr : (m, p) ∈ fPR) {S : Nat → Nat} (hS : ∀ i, S i < 2 ^ m) (ht : t ≤ 5) : ∀ d j f M, WRc M → MO M m p → BY M 2 t → (∀ i, 1 ≤ i → i ≤ 2 * t → zI M 375 i = nI (S i)) → j + d = 2 * t → MI M (nbm m p S j) → ∃ M', f_X12_locates_52 355 (d + 1 + f) (nI (nbm m p S j).2.2.2.1) (nI (nbm m p S j).2.2.2.2) (nI (j + 1)) M = some M' ∧ FR Wlo M M' ∧ MI M' (nbm m p S (2 * t)) := by
  intro d
  induction d with
  | zero =>
    intro j f M hW h h8 hSy e hI
    have e2 : j = 2 * t := by omega
    subst e2
    refine ⟨M, ?_, FR.rf _ M, hI⟩
    rw [show 0 + 1 + f = f + 1 by omega, f_X12_locates_52, s_by (x := 2) hW rfl (by decide) h8, b_i]
    exact ip (by show 2 * nI t < _; rw [show (2 : Int32) = nI 2 from rfl, pk_mul]; exact nI_lt (by omega) (by omega)) rfl
  | succ d ih =>
    intro j f M hW h h8 hSy e hI
    obtain ⟨hF, hG, hL⟩ := hI
    have ok := (nbm_bmi hpr hS j).1
    have bd := nbm_bd m p S j
    have hm := f_m hpr
    have hgl : ngap m p S (nbm m p S j).1 (nbm m p S j).2.2.1 (j + 1) < 2 ^ m := ngap_lt hpr hS ok.1
    have hel : fmul m p (ngap m p S (nbm m p S j).1 (nbm m p S j).2.2.1 (j + 1)) (finv m p (nbm m p S j).2.2.2.2) < 2 ^ m := fmul_lt hpr hgl
    have hst : nbm m p S (j + 1) = nst m p S (j + 1) (nbm m p S j) := rfl
    have hgp := s_missing hW h hS ok.1 (by omega : (nbm m p S j).2.2.1 < j + 1) (by omega) (fun i a b => hSy i a (by omega)) hF hL
    rw [show d + 1 + 1 + f = (d + 1 + f) + 1 by omega, f_X12_locates_52, s_by (x := 2) hW rfl (by decide) h8, b_i]
    rw [if_neg (by show ¬ 2 * nI t < _; rw [show (2 : Int32) = nI 2 from rfl, pk_mul]; exact nI_nlt (by omega) (by omega)), hgp, b_i]
    unfold nst at hst
    by_cases h1 : ngap m p S (nbm m p S j).1 (nbm m p S j).2.2.1 (j + 1) = 0
    · rw [if_pos h1] at hst
      obtain ⟨M', e1, e2, e3⟩ := ih (j + 1) f M hW h h8 hSy (by omega) (by rw [hst]; exact ⟨hF, hG, hL⟩)
      refine ⟨M', ?_, e2, e3⟩
      rw [hst] at e1
      rw [if_pos (by rw [h1]; exact nI_0)]
      unfold f_X12_locates_228
      rw [nI_1, nI_1]
      exact e1
    · rw [if_neg h1] at hst
      rw [if_neg (nI_ne0 (by omega) (by omega))]
      obtain ⟨M1, a1, a2, a3, a4⟩ := s_loc84 (k52 := f_X12_locates_52 355 (d + 1 + f)) (x1 := nI (nbm m p S j).2.2.2.1) (x2 := nI (nbm m p S j).2.2.2.2) (x3 := nI (j + 1)) (x4 := nI (ngap m p S (nbm m p S j).1 (nbm m p S j).2.2.1 (j + 1))) 14 0 999985 M hW (by omega)
      have h1' : MO M1 m p := h.fr a2 (by omega) (fun _ => by omega) (fun _ => by omega)
      have hW1 := a2.W hW
      rw [show 14 + 1 + 999985 = 1000000 from rfl, s_minverse h1' ok.2.2.1 ok.2.2.2, b_i, s_times h1' hgl (finv_lt hpr _), b_i] at a1
      obtain ⟨M2, b1, b2, b3⟩ := s_loc127 (k52 := f_X12_locates_52 355 (d + 1 + f)) (x2 := nI (nbm m p S j).2.2.2.2) (x3 := nI (j + 1)) (x4 := nI (ngap m p S (nbm m p S j).1 (nbm m p S j).2.2.1 (j + 1))) (C := (nbm m p S j).1) (B := (nbm m p S j).2.1) (x := (nbm m p S j).2.2.2.1) ok.2.1 hel (14 - (nbm m p S j).2.2.2.1) (nbm m p S j).2.2.2.1 (1000000 - (14 - (nbm m p S j).2.2.2.1) - 1) M1 hW1 h1' (by omega) (Nat.le_refl _) (fun k hk => by
        unfold nC
        rw [if_neg (by omega), Nat.xor_zero, a2.I (by omega)]; exact hF k (by omega)) (fun k _ hk => (a2.I (by omega)).trans (hF k hk)) (fun k hk => (a2.I (by omega)).trans (hG k hk))
      rw [show 14 - (nbm m p S j).2.2.2.1 + 1 + (1000000 - (14 - (nbm m p S j).2.2.2.1) - 1) = 1000000 by omega] at b1
      have hW2 := b2.W hW1
      have hL2 : zI M2 355 49 = nI (nbm m p S j).2.2.1 := (b2.I (by omega)).trans ((a2.I (by omega)).trans hL)
      have fr2 : FR Wlo M M2 := (a2.mo (fun a j h => by unfold Wlo; omega)).tr (b2.mo (fun a j h => by unfold Wlo; omega))
      by_cases h2 : 2 * (nbm m p S j).2.2.1 < j + 1
      · rw [if_pos h2] at hst
        rw [hL2, if_pos (by rw [show (2 : Int32) = nI 2 from rfl, pk_mul, show (1 : Int32) = nI 1 from rfl, pk_sub (by omega)]; exact nI_le (by omega) (by omega)), b_i, pk_sub (by omega)] at b1
        have hW3 : WRc (zsI M2 355 49 (nI (j + 1 - (nbm m p S j).2.2.1))) := hW2
        obtain ⟨M3, c1, c2, c3, -⟩ := s_loc196 (k52 := f_X12_locates_52 355 (d + 1 + f)) (x3 := nI (j + 1)) (x4 := nI (ngap m p S (nbm m p S j).1 (nbm m p S j).2.2.1 (j + 1))) 14 0 999985 _ hW3 (by omega)
        have fr : FR Wlo M M3 := (FR.sI fr2 (by unfold Wlo; omega)).tr (c2.mo (fun a j h => by unfold Wlo; omega))
        obtain ⟨M', e1, e2, e3⟩ := ih (j + 1) f M3 (fr.W hW) (h.fr fr (by unfold Wlo; omega) (fun _ => by unfold Wlo; omega) (fun _ => by unfold Wlo; omega)) (h8.fr fr (by unfold Wlo; omega) (fun _ => by unfold Wlo; omega)) (fun i q1 q2 => (fr.I (by unfold Wlo; omega)).trans (hSy i q1 q2)) (by omega) (by
          rw [hst]
          exact ⟨fun i hi => (c2.I (by omega)).trans ((zI_sn _ _ (by omega)).trans (b3 i hi)), fun i hi => (c3 i (by omega) hi).trans ((zI_sn _ _ (by omega)).trans ((b2.I (by omega)).trans ((a3 i (by omega) hi).trans (hF i hi)))), (c2.I (by omega)).trans (zI_se _ _ _ _)⟩)
        refine ⟨M', ?_, fr.tr e2, e3⟩
        rw [hst] at e1
        rw [show (14 + 1 + 999985) = 1000000 from rfl] at c1
        refine a1.trans (b1.trans (c1.trans ?_))
        rw [nI_1]
        exact e1
      · rw [if_neg h2] at hst
        rw [hL2, if_neg (by rw [show (2 : Int32) = nI 2 from rfl, pk_mul, show (1 : Int32) = nI 1 from rfl, pk_sub (by omega)]; exact nI_ge (by omega) (by omega))] at b1
        obtain ⟨M', e1, e2, e3⟩ := ih (j + 1) f M2 hW2 (h.fr fr2 (by unfold Wlo; omega) (fun _ => by unfold Wlo; omega) (fun _ => by unfold Wlo; omega)) (h8.fr fr2 (by unfold Wlo; omega) (fun _ => by unfold Wlo; omega)) (fun i q1 q2 => (fr2.I (by unfold Wlo; omega)).trans (hSy i q1 q2)) (by omega) (by
          rw [hst]
          exact ⟨b3, fun i hi => (b2.I (by omega)).trans ((a2.I (by omega)).trans (hG i hi)), hL2⟩)
        refine ⟨M', ?_, fr2.tr e2, e3⟩
        rw [hst] at e1
        refine a1.trans (b1.trans ?_)
        unfold f_X12_locates_228
        rw [nI_1, nI_1]
        exact e1
theorem s_loc2 : ∀ d i f M, WRc M → i + d = 14 → (∀ k, k < i → zI M 376 k = nI (nd0 k) ∧ zI M 377 k = nI (nd0 k)) → ∃ M', f_X12_locates_2 355 (d + 1 + f) (nI i) M = f_X12_locates_52 355 1000000 1 1 1 M' ∧ FR Wlo M M' ∧ MI M' (nd0, nd0, 0, 1, 1) := by
  intro d
  induction d with
  | zero =>
    intro i f M hW e hk
    have e3 : i = 14 := by omega
    subst e3
    exact ⟨zsI M 355 49 0, by rw [show 0 + 1 + f = f + 1 by omega, f_X12_locates_2, show (14 : Int32) = nI 14 from rfl, if_pos (nI_le (a := 14) (Nat.le_refl _) (by decide)), b_i], (FR.rf _ M).sI (by unfold Wlo; omega), fun k h => (zI_sn _ _ (by omega)).trans (hk k h).1, fun k h => (zI_sn _ _ (by omega)).trans (hk k h).2, zI_se _ _ _ _⟩
  | succ d ih =>
    intro i f M hW e hk
    have st : ∀ M, WRc M → ∀ v, f_X12_locates_22 (f_X12_locates_2 355 (d + 1 + f)) 355 (nI i) 376 (nI i) v M = f_X12_locates_2 355 (d + 1 + f) (nI (i + 1)) (zsI (zsI M 376 i v) 377 i v) := by
      intro M hW v
      unfold f_X12_locates_22
      rw [zl_at 14 rfl (by omega) (by decide), b_i, b_i, zrf_sI, w355_47 hW, b_i, zrf_sI, w355_46 hW, b_i, zl_at 14 rfl (by omega) (by decide), b_i, zl_at 14 rfl (by omega) (by decide), b_i, b_i, nI_1, zI_se]
    have fr : FR Wlo M (zsI (zsI M 376 i (nI (nd0 i))) 377 i (nI (nd0 i))) := FR.sI (FR.sI (FR.rf _ M) (by unfold Wlo; omega)) (by unfold Wlo; omega)
    obtain ⟨M', e1, e2, e3⟩ := ih (i + 1) f _ (fr.W hW) (by omega) (fun k hk2 => by
      by_cases h : k = i
      · subst h; exact ⟨(zI_sn _ _ (by omega)).trans (zI_se _ _ _ _), zI_se _ _ _ _⟩
      · have := hk k (by omega)
        exact ⟨(zI_sn _ _ (by omega)).trans ((zI_sn _ _ (by omega)).trans this.1), (zI_sn _ _ (by omega)).trans ((zI_sn _ _ (by omega)).trans this.2)⟩)
    refine ⟨M', ?_, fr.tr e2, e3⟩
    rw [show d + 1 + 1 + f = (d + 1 + f) + 1 by omega, f_X12_locates_2, show (14 : Int32) = nI 14 from rfl, if_neg (nI_ge (a := i) (b := 14) (by omega) (by decide)), w355_46 hW, b_i]
    by_cases h0 : i = 0
    · subst h0; rw [if_pos nI_0, st M hW]; exact e1
    · rw [if_neg (nI_ne0 (by omega) (by omega)), st M hW, ← e1]; unfold nd0; rw [if_neg h0]; rfl
theorem s_locates {M : Mem} {m p t : Nat} {S : Nat → Nat} (hS : ∀ i, S i < 2 ^ m) (ht : t ≤ 5) (hW : WRc M) (h : MO M m p) (hB : BY M 2 t) (hSy : ∀ i, 1 ≤ i → i ≤ 2 * t → zI M 375 i = nI (S i)) : ∃ M', f_X12_locates 355 M = some M' ∧ FR Wlo M M' ∧ MI M' (nbm m p S (2 * t)) := by
  obtain ⟨M1, a1, a2, a3⟩ := s_loc2 14 0 999985 M hW (by omega) (fun k h => absurd h (by omega))
  obtain ⟨M', e1, e2, e3⟩ := s_loc_l h.pr hS ht (2 * t) 0 (1000000 - 2 * t - 1) M1 (a2.W hW) (h.fr a2 (by unfold Wlo; omega) (fun _ => by unfold Wlo; omega) (fun _ => by unfold Wlo; omega)) (hB.fr a2 (by unfold Wlo; omega) (fun _ => by unfold Wlo; omega)) (fun i q1 q2 => (a2.I (by unfold Wlo; omega)).trans (hSy i q1 q2)) (by omega) a3
  rw [show 2 * t + 1 + (1000000 - 2 * t - 1) = 1000000 by omega] at e1
  exact ⟨M', a1.trans e1, a2.tr e2, e3⟩
