/-! the past: what can be undone, what is kept: the class -/
def lowT (c T : Nat) (sv : Nat → PSt × Nat) : Nat := if c = 0 then T else (sv 0).2
def HO (c T : Nat) (sv : Nat → PSt × Nat) : Prop := ∀ k, k < c → (sv k).2 ≤ T ∧ T ≤ (sv k).2 + (c - k) ∧ ∀ j, j < c → k ≤ j → (sv k).2 ≤ (sv j).2 ∧ (sv j).2 ≤ (sv k).2 + (j - k)
def svp (c : Nat) (sv : Nat → PSt × Nat) (x : PSt × Nat) : Nat → PSt × Nat := if c < 20 then (fun k => if k = c then x else sv k) else (fun k => if k = 19 then x else sv (k + 1))
def cpp (c : Nat) : Nat := if c < 20 then c + 1 else 20
def HC (M : Mem) (n T : Nat) (E : Nat → Nat → Nat) (c : Nat) (sv : Nat → PSt × Nat) : Prop := ∃ l, l < 20 ∧ c ≤ 20 ∧ zI M 43 3 = nI c ∧ zI M 43 4 = nI l ∧ zI M 43 5 = nI T ∧ (∀ k, k < c → CP M (47 + 14 * ((l + 21 + k - c) % 20)) n (sv k).1 ∧ zI M 45 ((l + 21 + k - c) % 20) = nI (sv k).2) ∧ (∀ i, i < T → lowT c T sv ≤ i + 40 → ∀ j, j < 3 → zI M 46 (3 * (i % 60) + j) = nI (E i j))
theorem HC.fr {W : Nat → Nat → Prop} {M M1 : Mem} {n T c : Nat} {E : Nat → Nat → Nat} {sv : Nat → PSt × Nat} (h : HC M n T E c sv) (f : FR W M M1) (hw : ∀ a j, 43 ≤ a → a ≤ 326 → ¬ W a j) : HC M1 n T E c sv := by
  obtain ⟨l, h1, h2, h3, h4, h5, h6, h7⟩ := h
  refine ⟨l, h1, h2, (f.I (hw _ _ (by omega) (by omega))).trans h3, (f.I (hw _ _ (by omega) (by omega))).trans h4, (f.I (hw _ _ (by omega) (by omega))).trans h5, fun k hk => ⟨(h6 k hk).1.fr f (fun a j _ _ => hw a j (by omega) (by omega)), (f.I (hw _ _ (by omega) (by omega))).trans (h6 k hk).2⟩, fun i hi hl j hj => (f.I (hw _ _ (by omega) (by omega))).trans (h7 i hi hl j hj)⟩
theorem s_min {M : Mem} {a b : Nat} {x y : Int32} (hx : x = nI a) (hy : y = nI b) (ha : a < 2 ^ 31) (hb : b < 2 ^ 31) : f_J9_min_7cf53 x y M = some (nI (min a b), M) := by
  subst hx; subst hy
  unfold f_J9_min_7cf53 f_J9_min_7cf53_10
  by_cases h : b < a
  · rw [if_pos (nI_lt h ha), show min a b = b by omega]
  · rw [if_neg (nI_nlt (by omega) hb), show min a b = a by omega]
theorem w44 {M : Mem} (h : WRc M) {k : Nat} (hk : k < 20) : zrf M 44 k = some (47 + 14 * k) := by
  have : ∀ k : Fin 20, (44, k.val, 47 + 14 * k.val + 1) ∈ WRl := by decide +kernel
  exact wr_mem h (this ⟨k, hk⟩)
theorem pq_k {k : Nat} (hk : k < 20) : PQ (47 + 14 * k) := Or.inr (Or.inr ⟨k, hk, rfl⟩)
theorem HO.push {c T : Nat} {sv : Nat → PSt × Nat} {x : PSt} (h : HO c T sv) (hc : c ≤ 20) : HO (cpp c) T (svp c sv (x, T)) ∧ HO (cpp c) (T + 1) (svp c sv (x, T)) := by
  unfold HO cpp svp at *
  by_cases h20 : c < 20
  · simp only [if_pos h20]
    constructor
    all_goals
      intro k hk
      by_cases e : k = c
      · subst e
        simp only [if_pos True.intro]
        refine ⟨by omega, by omega, fun j hj hkj => ?_⟩
        rw [if_pos (by omega)]
        exact ⟨by simp, by simp⟩
      · have hk2 := h k (by omega)
        simp only [if_neg e]
        refine ⟨by omega, by omega, fun j hj hkj => ?_⟩
        by_cases e2 : j = c
        · simp only [if_pos e2]; omega
        · simp only [if_neg e2]; exact hk2.2.2 j (by omega) hkj
  · have e20 : c = 20 := by omega
    subst e20
    simp only [if_neg h20]
    constructor
    all_goals
      intro k hk
      by_cases e : k = 19
      · subst e
        simp only [if_pos True.intro]
        refine ⟨by omega, by omega, fun j hj hkj => ?_⟩
        rw [if_pos (by omega)]
        exact ⟨by simp, by simp⟩
      · have hk2 := h (k + 1) (by omega)
        simp only [if_neg e]
        refine ⟨by omega, by omega, fun j hj hkj => ?_⟩
        by_cases e2 : j = 19
        · simp only [if_pos e2]; omega
        · simp only [if_neg e2]
          have := hk2.2.2 (j + 1) (by omega) (by omega)
          omega
theorem HO.low {c T : Nat} {sv : Nat → PSt × Nat} (h : HO c T sv) : lowT c T sv ≤ T ∧ T ≤ lowT c T sv + c := by
  unfold lowT
  by_cases e : c = 0
  · rw [if_pos e]; omega
  · rw [if_neg e]; have := h 0 (by omega); omega
theorem lowT_push {c T : Nat} {sv : Nat → PSt × Nat} {x : PSt} (h : HO c T sv) (hc : c ≤ 20) (T' : Nat) : lowT c T sv ≤ lowT (cpp c) T' (svp c sv (x, T)) := by
  unfold lowT cpp svp
  by_cases h20 : c < 20
  · simp only [if_pos h20]
    rw [if_neg (show ¬ c + 1 = 0 by omega)]
    by_cases e : c = 0
    · rw [if_pos e, if_pos e.symm]; exact Nat.le_refl _
    · rw [if_neg e, if_neg (fun x => e x.symm)]; exact Nat.le_refl _
  · simp only [if_neg h20]
    rw [if_neg (show ¬ c = 0 by omega), if_neg (show ¬ (20 : Nat) = 0 by decide), if_neg (show ¬ (0 : Nat) = 19 by decide)]
    have := h 0 (by omega)
    exact (this.2.2 1 (by omega) (by omega)).1
def Wsa (a j : Nat) : Prop := 43 ≤ a ∧ a ≤ 326
theorem s_save {M : Mem} {n T c : Nat} {E : Nat → Nat → Nat} {sv : Nat → PSt × Nat} {S : PSt} (hW : WRc M) (hn : n ≤ 63) (hT : T < 2 ^ 30) (hS : CP M 13 n S) (hO : HO c T sv) (h : HC M n T E c sv) : ∃ M', f_X7_save 43 13 M = some M' ∧ FR Wsa M M' ∧ HC M' n T E (cpp c) (svp c sv (S, T)) := by
  obtain ⟨l, h1, h2, h3, h4, h5, h6, h7⟩ := h
  have go : ∀ l', l' = (l + 1) % 20 → ∃ M', f_X7_save_22 43 13 43 (nI l') M = some M' ∧ FR Wsa M M' ∧ HC M' n T E (cpp c) (svp c sv (S, T)) := by
    intro l' hl'
    have hl20 : l' < 20 := by omega
    have f1 : FR (fun a j => a = 43 ∧ j = 4) M (zsI M 43 4 (nI l')) := (FR.rf _ M).sI ⟨rfl, rfl⟩
    obtain ⟨M1, a1, a2, a3⟩ := s_pcopy (M := zsI M 43 4 (nI l')) (f1.W hW) (pq_k hl20) (Or.inl rfl : PQ 13) (by omega) hn (hS.fr f1 (fun a j _ _ => by omega))
    have hWp : ∀ a j, Wpg (47 + 14 * l') a j → 47 + 14 * l' ≤ a ∧ a ≤ 60 + 14 * l' := fun a j h => by unfold Wpg at h; omega
    have hn43 : ∀ j, ¬ Wpg (47 + 14 * l') 43 j := fun j h => by have := hWp _ _ h; omega
    have hn45 : ∀ j, ¬ Wpg (47 + 14 * l') 45 j := fun j h => by have := hWp _ _ h; omega
    have hn46 : ∀ j, ¬ Wpg (47 + 14 * l') 46 j := fun j h => by have := hWp _ _ h; omega
    have f2 : FR (fun a j => (a = 43 ∧ (j = 3 ∨ j = 4)) ∨ (a = 45 ∧ j = l') ∨ (47 + 14 * l' ≤ a ∧ a ≤ 60 + 14 * l')) M (zsI (zsI M1 45 l' (nI T)) 43 3 (nI (cpp c))) := FR.sI (FR.sI ((f1.mo (fun a j h => by omega)).tr (a2.mo (fun a j h => by have := hWp a j h; omega))) (by omega)) (by omega)
    have e4 : zI M1 43 4 = nI l' := (a2.I (hn43 _)).trans (zI_se _ _ _ _)
    have e5 : zI M1 43 5 = nI T := (a2.I (hn43 _)).trans ((f1.I (by omega)).trans h5)
    have e3 : zI M1 43 3 = nI c := (a2.I (hn43 _)).trans ((f1.I (by omega)).trans h3)
    have hcm : min (c + 1) 20 = cpp c := by unfold cpp; by_cases h20 : c < 20; rw [if_pos h20]; omega; rw [if_neg h20]; omega
    refine ⟨_, ?_, f2.mo (fun a j h => by unfold Wsa; omega), l', hl20, by unfold cpp; by_cases h20 : c < 20; rw [if_pos h20]; omega; rw [if_neg h20]; omega, zI_se _ _ _ _, ?_, ?_, ?_, ?_⟩
    · unfold f_X7_save_22
      rw [b_i, zrf_sI, w43_0 hW, b_i, zI_se, zl_at 20 rfl hl20 (by decide), b_i, zrf_sI, w44 hW hl20, b_i, a1, b_i, w43_1 (a2.W (f1.W hW)), b_i, e4, zl_at 20 rfl hl20 (by decide), b_i, b_i, e5, zI_sn _ _ (by omega), e3, nI_1, s_min (a := c + 1) (b := 20) (y := 20) rfl rfl (by omega) (by decide), b_i, hcm, b_i]
    · rw [zI_sn _ _ (by omega), zI_sn _ _ (by omega)]; exact e4
    · rw [zI_sn _ _ (by omega), zI_sn _ _ (by omega)]; exact e5
    · intro k hk
      have hnew : CP (zsI (zsI M1 45 l' (nI T)) 43 3 (nI (cpp c))) (47 + 14 * l') n S := a3.fr (W := fun a j => a = 45 ∨ a = 43) (FR.sI (FR.sI (FR.rf _ M1) (by omega)) (by omega)) (fun a j _ _ => by omega)
      have old : ∀ k0, k0 < c → ¬ (l + 21 + k0 - c) % 20 = l' → CP (zsI (zsI M1 45 l' (nI T)) 43 3 (nI (cpp c))) (47 + 14 * ((l + 21 + k0 - c) % 20)) n (sv k0).1 ∧ zI (zsI (zsI M1 45 l' (nI T)) 43 3 (nI (cpp c))) 45 ((l + 21 + k0 - c) % 20) = nI (sv k0).2 := by
        intro k0 hk0 hne
        exact ⟨(h6 k0 hk0).1.fr f2 (fun a j _ _ => by omega), (f2.I (by omega)).trans (h6 k0 hk0).2⟩
      unfold cpp at hk
      by_cases h20 : c < 20
      · rw [if_pos h20] at hk
        have ec : cpp c = c + 1 := by unfold cpp; rw [if_pos h20]
        have es : svp c sv (S, T) k = if k = c then (S, T) else sv k := by unfold svp; rw [if_pos h20]
        rw [es, show (l' + 21 + k - cpp c) % 20 = (l + 21 + k - c) % 20 by omega]
        by_cases e : k = c
        · rw [if_pos e, show (l + 21 + k - c) % 20 = l' by omega]
          exact ⟨hnew, (zI_sn _ _ (by omega)).trans (zI_se _ _ _ _)⟩
        · rw [if_neg e]
          exact old k (by omega) (by omega)
      · rw [if_neg h20] at hk
        have ec : cpp c = 20 := by unfold cpp; rw [if_neg h20]
        have es : svp c sv (S, T) k = if k = 19 then (S, T) else sv (k + 1) := by unfold svp; rw [if_neg h20]
        rw [es, show (l' + 21 + k - cpp c) % 20 = (l + 21 + (k + 1) - c) % 20 by omega]
        by_cases e : k = 19
        · rw [if_pos e, show (l + 21 + (k + 1) - c) % 20 = l' by omega]
          exact ⟨hnew, (zI_sn _ _ (by omega)).trans (zI_se _ _ _ _)⟩
        · rw [if_neg e]
          exact old (k + 1) (by omega) (by omega)
    · intro i hi hl j hj
      rw [f2.I (by omega)]
      refine h7 i hi ?_ j hj
      have := lowT_push (x := S) hO h2 T
      omega
  unfold f_X7_save
  rw [h4, nI_1]
  by_cases hl : l + 1 < 20
  · rw [show (20 : Int32) = nI 20 from rfl, if_neg (nI_ge hl (by decide))]
    exact go (l + 1) (by omega)
  · rw [show (20 : Int32) = nI 20 from rfl, if_pos (nI_le (by omega) (by omega))]
    exact go 0 (by omega)
