/-! a read is decoded: the model -/
theorem anyO_iff (n : Nat) (R : List Nat) : anyO n R = true ↔ ∃ i, i < R.length ∧ n ≤ lg R i := by
  unfold anyO
  rw [List.any_eq_true]
  constructor
  · rintro ⟨x, hx, h⟩
    obtain ⟨i, hi, e⟩ := List.mem_iff_getElem.mp hx
    refine ⟨i, hi, ?_⟩
    unfold lg
    rw [List.getElem?_eq_getElem hi, e]
    exact of_decide_eq_true h
  · rintro ⟨i, hi, h⟩
    refine ⟨R[i], List.getElem_mem hi, ?_⟩
    unfold lg at h
    rw [List.getElem?_eq_getElem hi] at h
    exact decide_eq_true h
theorem anyO_last {N n : Nat} {P : Nat → Bool} (h0 : 0 < (fps N P).length) : anyO n (fps N P) = decide (n ≤ lg (fps N P) ((fps N P).length - 1)) := by
  by_cases h : n ≤ lg (fps N P) ((fps N P).length - 1)
  · rw [decide_eq_true h]; exact (anyO_iff _ _).mpr ⟨_, by omega, h⟩
  · rw [decide_eq_false h]
    cases h2 : anyO n (fps N P) with
    | false => rfl
    | true =>
      obtain ⟨i, hi, h3⟩ := (anyO_iff _ _).mp h2
      by_cases e : i = (fps N P).length - 1
      · subst e; exact absurd h3 h
      · have := fps_inc N P i ((fps N P).length - 1) (by omega) (by omega)
        omega
def Wrd (a j : Nat) : Prop := a = 379 ∨ (a = 355 ∧ (j = 50 ∨ j = 52 ∨ j = 53))
theorem s_rb48 {m p L : Nat} {y1 : Int64} {C : Nat → Nat} (hC : ∀ i, C i < 2 ^ m) (hL : L ≤ 10) : ∀ d q f M, WRc M → MO M m p → (∀ i, i < 14 → zI M 376 i = nI (C i)) → zI M 355 49 = nI L → q + d = fN m → zI M 355 52 = nI (fps q (dP m p C L)).length → (∀ i, i < (fps q (dP m p C L)).length → zI M 379 i = nI (lg (fps q (dP m p C L)) i)) → ∃ M', f_X12_readsBits_48 355 y1 (d + 1 + f) (nI q) M = f_X12_readsBits_48 355 y1 (f + 1) (nI (fN m)) M' ∧ FR (fun a j => a = 379 ∨ (a = 355 ∧ j = 52)) M M' ∧ zI M' 355 52 = nI (fps (fN m) (dP m p C L)).length ∧ (∀ i, i < (fps (fN m) (dP m p C L)).length → zI M' 379 i = nI (lg (fps (fN m) (dP m p C L)) i)) := by
  intro d
  induction d with
  | zero =>
    intro q f M hW h hF h8 e h52 hR
    have e2 : q = fN m := by omega
    subst e2
    exact ⟨M, by rw [Nat.zero_add, Nat.add_comm], FR.rf _ M, h52, hR⟩
  | succ d ih =>
    intro q f M hW h hF h8 e h52 hR
    have hm := f_m h.pr
    have hl := fps_len q (dP m p C L)
    have hs := fps_s q (dP m p C L)
    rw [show d + 1 + 1 + f = (d + 1 + f) + 1 by omega, f_X12_readsBits_48, h.sz, if_neg (nI_ge (by omega) (by omega)), s_isRootAt hW h hC hF h8 hL (by omega), b_i]
    cases hP : dP m p C L q with
    | false =>
      rw [hP, if_neg (by decide)] at hs
      dsimp only
      rw [if_pos b01_f]
      unfold f_X12_readsBits_87
      rw [nI_1]
      exact ih (q + 1) f M hW h hF h8 (by omega) (by rw [hs]; exact h52) (by rw [hs]; exact hR)
    | true =>
      rw [hP, if_pos rfl] at hs
      have hlen : (fps (q + 1) (dP m p C L)).length = (fps q (dP m p C L)).length + 1 := by rw [hs, List.length_append]; rfl
      have fr : FR (fun a j => a = 379 ∨ (a = 355 ∧ j = 52)) M (zsI (zsI M 379 (fps q (dP m p C L)).length (nI q)) 355 52 (nI ((fps q (dP m p C L)).length + 1))) := FR.sI (FR.sI (FR.rf _ M) (by omega)) (by omega)
      obtain ⟨M', e1, e2, e3, e4⟩ := ih (q + 1) f _ (fr.W hW) (h.fr fr (by omega) (fun _ => by omega) (fun _ => by omega)) (fun i hi => (fr.I (by omega)).trans (hF i hi)) ((fr.I (by omega)).trans h8) (by omega) (by rw [hlen]; exact zI_se _ _ _ _) (fun i hi => by
        rw [zI_sn _ _ (by omega)]
        by_cases hi2 : i = (fps q (dP m p C L)).length
        · rw [hi2, zI_se, hs, lg_r]
        · rw [zI_sn _ _ (by omega), hs, lg_l (by omega)]; exact hR i (by omega))
      refine ⟨M', ?_, fr.tr e2, e3, e4⟩
      dsimp only
      rw [if_neg b01_n0, w355_51 hW, b_i, h52, zl_at 64 rfl (by omega) (by decide), b_i, b_i, b_i]
      unfold f_X12_readsBits_87
      rw [zI_sn _ _ (by omega), h52, nI_1, nI_1]
      exact e1
theorem s_rb144 {y1 : Int64} {R : List Nat} {w : Nat} (hR : ∀ i, i < R.length → lg R i < 64) (hl : R.length ≤ 63) : ∀ d i f M, WRc M → zI M 355 52 = nI R.length → zI M 355 50 = 0 → i + d = R.length → (∀ k, k < R.length → zI M 379 k = nI (lg R k)) → zL M 355 53 = lN (w ^^^ xs i (fun i => 2 ^ lg R i)) → ∃ M', f_X12_readsBits_144 355 y1 (d + 1 + f) (nI i) M = some (0, M') ∧ FR (fun b j => b = 355 ∧ j = 53) M M' ∧ zL M' 355 53 = lN (w ^^^ xs R.length (fun i => 2 ^ lg R i)) ∧ zI M' = zI M := by
  intro d
  induction d with
  | zero =>
    intro i f M hW h8 h50 e hk hL
    have e2 : i = R.length := by omega
    subst e2
    refine ⟨M, ?_, FR.rf _ M, hL, rfl⟩
    rw [show 0 + 1 + f = f + 1 by omega, f_X12_readsBits_144, h8, if_pos (nI_le (Nat.le_refl _) (by omega))]
    unfold f_X12_readsBits_182
    rw [h50]
  | succ d ih =>
    intro i f M hW h8 h50 e hk hL
    have fr : FR (fun b j => b = 355 ∧ j = 53) M (zsL M 355 53 (lN (w ^^^ xs (i + 1) (fun i => 2 ^ lg R i)))) := (FR.rf _ M).sL (by omega)
    obtain ⟨M', e1, e2, e3, e4⟩ := ih (i + 1) f _ (fr.W hW) h8 h50 (by omega) hk (zL_se _ _ _ _)
    refine ⟨M', ?_, fr.tr e2, e3, e4.trans rfl⟩
    rw [show d + 1 + 1 + f = (d + 1 + f) + 1 by omega, f_X12_readsBits_144, h8, if_neg (nI_ge (by omega) (by omega)), h50, if_pos rfl, w355_51 hW, b_i, zl_at 64 rfl (by omega) (by decide), b_i, b_i, hL, hk i (by omega), lN_bit (hR i (by omega)), lN_xor, nI_1, Nat.xor_assoc]
    exact e1
theorem s_rb142 {M : Mem} {y1 : Int64} {R : List Nat} {w c : Nat} (hc : c < 2 ^ 31) (hR : ∀ i, i < R.length → lg R i < 64) (hl : R.length ≤ 63) (hW : WRc M) (h52 : zI M 355 52 = nI R.length) (h50 : zI M 355 50 = nI c) (hk : ∀ k, k < R.length → zI M 379 k = nI (lg R k)) (hL : zL M 355 53 = lN w) : ∃ M', f_X12_readsBits_142 355 y1 M = some (nI c, M') ∧ FR (fun b j => b = 355 ∧ j = 53) M M' ∧ zL M' 355 53 = lN (if c = 0 then w ^^^ xs R.length (fun i => 2 ^ lg R i) else w) ∧ zI M' = zI M := by
  unfold f_X12_readsBits_142
  by_cases h0 : c = 0
  · subst h0
    have := s_rb144 (y1 := y1) (w := w) hR hl R.length 0 (1000000 - R.length - 1) M hW h52 h50 (by omega) hk (by rw [show xs 0 _ = 0 from rfl, Nat.xor_zero]; exact hL)
    rw [show R.length + 1 + (1000000 - R.length - 1) = 1000000 by omega] at this
    rw [if_pos rfl]
    exact this
  · refine ⟨M, ?_, FR.rf _ M, by rw [if_neg h0]; exact hL, rfl⟩
    rw [show (1000000 : Nat) = 999999 + 1 from rfl, f_X12_readsBits_144, h50, if_neg (nI_ne0 (by omega) hc)]
    unfold f_X12_readsBits_182
    rw [h50]
    exact ite_self _
def RB (M : Mem) (m p t n w : Nat) : Prop := (zL M 355 53 = lN (dRs m p t n w)) ∧ (∀ j, 1 ≤ j → j ≤ 2 * t → zI M 375 j = nI (sy m p n w j)) ∧ (∀ i, i < 14 → zI M 376 i = nI ((dN m p t n w).1 i)) ∧ (zI M 355 49 = nI (dN m p t n w).2.2.1) ∧ (zI M 355 50 = nI (dCa m p t n w)) ∧ (dCa m p t n w = 0 → zI M 355 52 = nI (dRo m p t n w).length ∧ ∀ i, i < (dRo m p t n w).length → zI M 379 i = nI (lg (dRo m p t n w) i))
def Wrb (a j : Nat) : Prop := a = 375 ∨ a = 376 ∨ a = 377 ∨ a = 378 ∨ a = 379 ∨ (a = 355 ∧ 49 ≤ j ∧ j ≤ 53)
def MD (M : Mem) (m p t n : Nat) : Prop := MO M m p ∧ BY M 2 t ∧ zI M 355 39 = nI n ∧ n ≤ fN m ∧ t ≤ 5
theorem MD.fr {W : Nat → Nat → Prop} {M M1 : Mem} {m p t n : Nat} (h : MD M m p t n) (f : FR W M M1) (h1 : ¬ W 355 37) (h2 : ¬ W 355 13) (h3 : ¬ W 355 39) (h4 : ∀ j, ¬ W 357 j ∧ ¬ W 372 j ∧ ¬ W 373 j) : MD M1 m p t n :=
  ⟨h.1.fr f h1 (fun j => (h4 j).2.1) (fun j => (h4 j).2.2), h.2.1.fr f h2 (fun j => (h4 j).1), (f.I h3).trans h.2.2.1, h.2.2.2⟩
theorem s_readsBits {M : Mem} {m p t n w : Nat} (hW : WRc M) (hD : MD M m p t n) (hw : w < 2 ^ n) : ∃ M', f_X12_readsBits 355 (lN w) M = some (nI (dCa m p t n w), M') ∧ FR Wrb M M' ∧ RB M' m p t n w := by
  obtain ⟨hO, hB, h39, hn, ht⟩ := hD
  have hm := f_m hO.pr
  have hw63 : w < 2 ^ 63 := Nat.lt_of_lt_of_le hw (Nat.pow_le_pow_right (by decide) (by omega))
  obtain ⟨M1, a1, a2, a3⟩ := s_syndromesOf hn ht hw63 hW hO h39 hB
  have fr1 : FR Wrb M M1 := a2.mo (fun a j h => by unfold Wrb; omega)
  obtain ⟨M2, b1, b2, b3⟩ := s_locates (M := M1) (S := sy m p n w) (fun i => sy_lt (n := n) (w := w) (j := i) hO.pr) ht (a2.W hW) (hO.fr a2 (by decide) (fun _ => by decide) (fun _ => by decide)) (hB.fr a2 (by decide) (fun _ => by decide)) a3
  have fr2 : FR Wrb M (zsI (zsL (zsI M2 355 52 0) 355 53 (lN w)) 355 50 0) := FR.sI (FR.sL (FR.sI (fr1.tr (b2.mo (fun a j h => by unfold Wlo at h; unfold Wrb; omega))) (by unfold Wrb; omega)) (by unfold Wrb; omega)) (by unfold Wrb; omega)
  have ok := dN_ok (t := t) (n := n) (w := w) hO.pr
  have hB2 : BY (zsI (zsL (zsI M2 355 52 0) 355 53 (lN w)) 355 50 0) 2 t := hB.fr fr2 (by unfold Wrb; omega) (fun _ => by unfold Wrb; omega)
  have hW2 := fr2.W hW
  have fz : FR (fun a j => a = 355 ∧ 50 ≤ j) M2 (zsI (zsL (zsI M2 355 52 0) 355 53 (lN w)) 355 50 0) := FR.sI (FR.sL (FR.sI (FR.rf _ M2) (by omega)) (by omega)) (by omega)
  have h49 : zI (zsI (zsL (zsI M2 355 52 0) 355 53 (lN w)) 355 50 0) 355 49 = nI (dN m p t n w).2.2.1 := (fz.I (by omega)).trans b3.2.2
  have hF2 : ∀ i, i < 14 → zI (zsI (zsL (zsI M2 355 52 0) 355 53 (lN w)) 355 50 0) 376 i = nI ((dN m p t n w).1 i) := fun i hi => (fz.I (by omega)).trans (b3.1 i hi)
  have hS2 : ∀ j, 1 ≤ j → j ≤ 2 * t → zI (zsI (zsL (zsI M2 355 52 0) 355 53 (lN w)) 355 50 0) 375 j = nI (sy m p n w j) := fun j q1 q2 => (fz.I (by omega)).trans ((b2.I (by unfold Wlo; omega)).trans (a3 j q1 q2))
  unfold f_X12_readsBits
  rw [a1, b_i, b1, b_i, b_i, b_i, b_i, s_by (x := 2) hW2 rfl (by decide) hB2, b_i, h49]
  by_cases hL : (dN m p t n w).2.2.1 ≤ t
  · rw [if_pos (nI_le hL (by omega))]
    obtain ⟨M3, c1, c2, c3, c4⟩ := s_rb48 (y1 := lN w) ok.1 (by omega : (dN m p t n w).2.2.1 ≤ 10) (fN m) 0 (1000000 - fN m - 1) _ hW2 (hO.fr fr2 (by unfold Wrb; omega) (fun _ => by unfold Wrb; omega) (fun _ => by unfold Wrb; omega)) hF2 h49 (by omega) ((zI_sn _ _ (by omega)).trans (zI_se M2 355 52 0)) (fun i hi => absurd hi (Nat.not_lt_zero _))
    rw [show fN m + 1 + (1000000 - fN m - 1) = 1000000 by omega] at c1
    have c3 : zI M3 355 52 = nI (dRo m p t n w).length := c3
    have c4 : ∀ i, i < (dRo m p t n w).length → zI M3 379 i = nI (lg (dRo m p t n w) i) := c4
    have fr3 : FR Wrb M M3 := fr2.tr (c2.mo (fun a j h => by unfold Wrb; omega))
    have hlen : (dRo m p t n w).length ≤ 63 := Nat.le_trans (fps_len _ _) hm.2.1
    have hlt : ∀ i, i < (dRo m p t n w).length → lg (dRo m p t n w) i < 64 := fun i hi => by have := (fps_get _ _ i hi).1; unfold dRo; omega
    have hsz3 : zI M3 355 37 = nI (fN m) := (fr3.I (by unfold Wrb; omega)).trans hO.sz
    have h493 : zI M3 355 49 = nI (dN m p t n w).2.2.1 := (c2.I (by omega)).trans h49
    have h393 : zI M3 355 39 = nI n := (fr3.I (by unfold Wrb; omega)).trans h39
    have hca : dCa m p t n w = rootC n (dN m p t n w).2.2.1 (dRo m p t n w) := by unfold dCa; rw [if_neg (by omega)]
    have fin : ∀ M4, FR (fun a j => a = 355 ∧ j = 50) M3 M4 → zI M4 355 50 = nI (dCa m p t n w) → ∃ M', f_X12_readsBits_142 355 (lN w) M4 = some (nI (dCa m p t n w), M') ∧ FR Wrb M M' ∧ RB M' m p t n w := by
      intro M4 f4 h50
      obtain ⟨M5, g1, g2, g3, g4⟩ := s_rb142 (M := M4) (y1 := lN w) (R := dRo m p t n w) (w := w) (c := dCa m p t n w) (by
        rw [hca]; unfold rootC
        by_cases h2 : (dRo m p t n w).length = (dN m p t n w).2.2.1
        · rw [if_pos h2]; cases anyO n (dRo m p t n w) <;> decide
        · rw [if_neg h2]; decide) hlt hlen (f4.W (fr3.W hW)) ((f4.I (by omega)).trans c3) h50 (fun k hk => (f4.I (by omega)).trans (c4 k hk)) ((f4.L (by omega)).trans ((c2.L (by omega)).trans (zL_se _ _ _ _)))
      refine ⟨M5, g1, (fr3.tr (f4.mo (fun a j h => by unfold Wrb; omega))).tr (g2.mo (fun a j h => by unfold Wrb; omega)), g3, ?_, ?_, ?_, ?_, ?_⟩
      · intro j q1 q2; rw [g4]; exact (f4.I (by omega)).trans ((c2.I (by omega)).trans (hS2 j q1 q2))
      · intro i hi; rw [g4]; exact (f4.I (by omega)).trans ((c2.I (by omega)).trans (hF2 i hi))
      · rw [g4]; exact (f4.I (by omega)).trans h493
      · rw [g4]; exact h50
      · intro _; rw [g4]; exact ⟨(f4.I (by omega)).trans c3, fun i hi => (f4.I (by omega)).trans (c4 i hi)⟩
    have h503 : zI M3 355 50 = 0 := (c2.I (by omega)).trans (zI_se _ _ _ _)
    dsimp only
    rw [show (0 : Int32) = nI 0 from rfl] at c1 ⊢
    rw [c1, f_X12_readsBits_48, hsz3, if_pos (nI_le (Nat.le_refl _) (by omega)), c3, h493]
    unfold rootC at hca
    by_cases h2 : (dRo m p t n w).length = (dN m p t n w).2.2.1
    · rw [if_pos h2] at hca
      rw [if_pos (congrArg nI h2)]
      by_cases h3 : (dRo m p t n w).length = 0
      · rw [h3, if_pos (by decide)]
        have : anyO n (dRo m p t n w) = false := by
          cases hh : anyO n (dRo m p t n w) with
          | false => rfl
          | true => obtain ⟨i, hi, -⟩ := (anyO_iff _ _).mp hh; omega
        rw [this, if_neg (by decide)] at hca
        rw [hca]
        have := fin M3 (FR.rf _ M3) (by rw [hca]; exact h503)
        rwa [hca] at this
      · have hp : 0 < (dRo m p t n w).length := by omega
        rw [if_neg (nI_nle hp (by omega)), w355_51 (fr3.W hW), b_i, show (1 : Int32) = nI 1 from rfl, pk_sub hp, zl_at 64 rfl (by show (dRo m p t n w).length - 1 < 64; omega) (by decide), b_i, c4 _ (by show (dRo m p t n w).length - 1 < (dRo m p t n w).length; omega), h393]
        have hal := anyO_last (n := n) hp
        by_cases h4 : lg (dRo m p t n w) ((dRo m p t n w).length - 1) < n
        · rw [if_pos (nI_lt h4 (by omega))]
          have h5 : anyO n (dRo m p t n w) = false := hal.trans (decide_eq_false (by show ¬ n ≤ lg (dRo m p t n w) ((dRo m p t n w).length - 1); omega))
          rw [h5, if_neg (by decide)] at hca
          have := fin M3 (FR.rf _ M3) (by rw [hca]; exact h503)
          exact this
        · rw [if_neg (nI_nlt (by show n ≤ lg (dRo m p t n w) ((dRo m p t n w).length - 1); omega) (by have := hlt ((dRo m p t n w).length - 1) (by omega); exact Nat.lt_trans this (by decide))), b_i]
          have h5 : anyO n (dRo m p t n w) = true := hal.trans (decide_eq_true (by show n ≤ lg (dRo m p t n w) ((dRo m p t n w).length - 1); omega))
          rw [h5, if_pos rfl] at hca
          have := fin (zsI M3 355 50 3) ((FR.rf _ M3).sI (by omega)) (by rw [hca]; exact zI_se _ _ _ _)
          exact this
    · rw [if_neg h2] at hca
      rw [if_neg (fun x => h2 ((nI_eq (by show (dRo m p t n w).length < 2 ^ 31; omega) (by omega)).mp x)), b_i]
      exact fin (zsI M3 355 50 2) ((FR.rf _ M3).sI (by omega)) (by rw [hca]; exact zI_se _ _ _ _)
  · rw [if_neg (nI_ge (by omega) (by omega)), b_i, zI_se]
    have hca : dCa m p t n w = 1 := by unfold dCa; rw [if_pos (by omega)]
    refine ⟨_, by rw [hca]; rfl, FR.sI fr2 (by unfold Wrb; omega), ?_, ?_, ?_, ?_, ?_, ?_⟩
    · unfold dRs; rw [if_neg (by omega)]; exact zL_se _ _ _ _
    · intro j q1 q2; exact (zI_sn _ _ (by omega)).trans (hS2 j q1 q2)
    · intro i hi; exact (zI_sn _ _ (by omega)).trans (hF2 i hi)
    · exact (zI_sn _ _ (by omega)).trans h49
    · rw [hca]; exact zI_se _ _ _ _
    · intro h; omega
