/-! the class goes back, adds to what is kept -/
theorem HO.pop {c T : Nat} {sv : Nat → PSt × Nat} (h : HO (c + 1) T sv) : HO c (sv c).2 sv := by
  intro k hk
  have := h k (by omega)
  refine ⟨(this.2.2 c (by omega) (by omega)).1, (this.2.2 c (by omega) (by omega)).2, fun j hj hkj => this.2.2 j (by omega) hkj⟩
theorem lowT_pop {c T : Nat} {sv : Nat → PSt × Nat} : lowT c (sv c).2 sv = lowT (c + 1) T sv := by
  unfold lowT
  rw [if_neg (show ¬ c + 1 = 0 by omega)]
  by_cases e : c = 0
  · rw [if_pos e, e]
  · rw [if_neg e]
def Wre (a j : Nat) : Prop := (13 ≤ a ∧ a ≤ 26) ∨ (a = 43 ∧ 3 ≤ j)
theorem s_restore {M : Mem} {n T c : Nat} {E : Nat → Nat → Nat} {sv : Nat → PSt × Nat} (hW : WRc M) (hn : n ≤ 63) (hO : HO (c + 1) T sv) (h : HC M n T E (c + 1) sv) : ∃ M', f_X7_restore 43 13 M = some M' ∧ FR Wre M M' ∧ HC M' n (sv c).2 E c sv ∧ CP M' 13 n (sv c).1 := by
  obtain ⟨l, h1, h2, h3, h4, h5, h6, h7⟩ := h
  have ht := h6 c (by omega)
  rw [show (l + 21 + c - (c + 1)) % 20 = l by omega] at ht
  obtain ⟨M1, a1, a2, a3⟩ := s_pcopy (q := 13) hW (Or.inl rfl) (pq_k h1) (by omega) hn ht.1
  have hW1 := a2.W hW
  have hWp : ∀ a j, Wpg 13 a j → 13 ≤ a ∧ a ≤ 26 := fun a j h => by unfold Wpg at h; omega
  have e43 : ∀ j, zI M1 43 j = zI M 43 j := fun j => a2.I (fun h => by have := hWp _ _ h; omega)
  have e45 : ∀ j, zI M1 45 j = zI M 45 j := fun j => a2.I (fun h => by have := hWp _ _ h; omega)
  have go : ∀ l', l' = (l + 19) % 20 → ∃ M', f_X7_restore_52 43 13 43 (nI l') (zsI M1 43 5 (nI (sv c).2)) = some M' ∧ FR Wre M M' ∧ HC M' n (sv c).2 E c sv ∧ CP M' 13 n (sv c).1 := by
    intro l' hl'
    have f2 : FR (fun a j => a = 43 ∧ 3 ≤ j) M1 (zsI (zsI (zsI M1 43 5 (nI (sv c).2)) 43 4 (nI l')) 43 3 (nI c)) := FR.sI (FR.sI (FR.sI (FR.rf _ M1) (by omega)) (by omega)) (by omega)
    have fr : FR Wre M (zsI (zsI (zsI M1 43 5 (nI (sv c).2)) 43 4 (nI l')) 43 3 (nI c)) := (a2.mo (fun a j h => Or.inl (hWp a j h))).tr (f2.mo (fun a j h => Or.inr h))
    refine ⟨_, ?_, fr, ⟨l', by omega, by omega, zI_se _ _ _ _, ?_, ?_, ?_, ?_⟩, a3.fr f2 (fun a j _ _ => by omega)⟩
    · unfold f_X7_restore_52 f_X7_restore_65
      rw [b_i, b_i, zI_sn _ _ (by omega), zI_sn _ _ (by omega), e43, h3, show (1 : Int32) = nI 1 from rfl, pk_sub (by omega), Nat.add_sub_cancel]
    · rw [zI_sn _ _ (by omega), zI_se]
    · rw [zI_sn _ _ (by omega), zI_sn _ _ (by omega), zI_se]
    · intro k hk
      have := h6 k (by omega)
      rw [show (l' + 21 + k - c) % 20 = (l + 21 + k - (c + 1)) % 20 by omega]
      exact ⟨this.1.fr fr (fun a j _ _ => by unfold Wre; omega), (fr.I (by unfold Wre; omega)).trans this.2⟩
    · intro i hi hl j hj
      rw [lowT_pop (T := T)] at hl
      have h0 := hO c (by omega)
      exact (fr.I (by unfold Wre; omega)).trans (h7 i (by omega) hl j hj)
  unfold f_X7_restore
  rw [h3, if_neg (nI_nle (by omega) (by omega)), w43_0 hW, b_i, h4, zl_at 20 rfl h1 (by decide), b_i, w44 hW h1, b_i, a1, b_i, w43_1 hW1, b_i, e43, h4, zl_at 20 rfl h1 (by decide), b_i, b_i, e45, ht.2, zI_sn _ _ (by omega), e43, h4]
  by_cases h0 : l = 0
  · rw [if_pos (by rw [h0]; decide)]
    exact go 19 (by omega)
  · rw [if_neg (nI_nle (by omega) (by omega)), show (1 : Int32) = nI 1 from rfl, pk_sub (by omega)]
    exact go (l - 1) (by omega)
def Ead (E : Nat → Nat → Nat) (T d p w : Nat) : Nat → Nat → Nat := fun i j => if i = T then (if j = 0 then d else if j = 1 then p else w) else E i j
theorem s_add {M : Mem} {n T c d p w : Nat} {E : Nat → Nat → Nat} {sv : Nat → PSt × Nat} (hW : WRc M) (hT : T < 2 ^ 30) (hc : 0 < c) (hO : HO c (T + 1) sv) (h : HC M n T E c sv) : ∃ M', f_X7_add 43 (nI d) (nI p) (nI w) M = some M' ∧ FR (fun a j => a = 46 ∨ (a = 43 ∧ j = 5)) M M' ∧ HC M' n (T + 1) (Ead E T d p w) c sv := by
  obtain ⟨l, h1, h2, h3, h4, h5, h6, h7⟩ := h
  have hm : T % 60 < 60 := Nat.mod_lt _ (by decide)
  have fr : FR (fun a j => a = 46 ∨ (a = 43 ∧ j = 5)) M (zsI (zsI (zsI (zsI M 46 (3 * (T % 60)) (nI d)) 46 (3 * (T % 60) + 1) (nI p)) 46 (3 * (T % 60) + 2) (nI w)) 43 5 (nI (T + 1))) := FR.sI (FR.sI (FR.sI (FR.sI (FR.rf _ M) (by omega)) (by omega)) (by omega)) (by omega)
  have hlow : lowT c (T + 1) sv = lowT c T sv := by unfold lowT; rw [if_neg (by omega), if_neg (by omega)]
  refine ⟨_, ?_, fr, l, h1, h2, (fr.I (by omega)).trans h3, (fr.I (by omega)).trans h4, zI_se _ _ _ _, fun k hk => ⟨(h6 k hk).1.fr fr (fun a j _ _ => by omega), (fr.I (by omega)).trans (h6 k hk).2⟩, ?_⟩
  · unfold f_X7_add
    rw [w43_2 hW, b_i, h5, show (60 : Int32) = nI 60 from rfl, zrem_nI (by omega) (by decide) (by decide), show (3 : Int32) = nI 3 from rfl, pk_mul, zl_at 180 rfl (by omega) (by decide), b_i, b_i, zrf_sI, w43_2 hW, b_i, nI_1, zl_at 180 rfl (by omega) (by decide), b_i, b_i, zrf_sI, zrf_sI, w43_2 hW, b_i, show (2 : Int32) = nI 2 from rfl, nI_add, zl_at 180 rfl (by omega) (by decide), b_i, b_i, zI_sn _ _ (by omega), zI_sn _ _ (by omega), zI_sn _ _ (by omega), h5, nI_1, b_i]
  · intro i hi hl j hj
    rw [hlow] at hl
    have hlo := hO.low
    rw [hlow] at hlo
    unfold Ead
    by_cases e : i = T
    · subst e
      rw [if_pos rfl, zI_sn _ _ (by omega)]
      have : j = 0 ∨ j = 1 ∨ j = 2 := by omega
      rcases this with e | e | e <;> subst e
      · rw [zI_sn _ _ (by omega), zI_sn _ _ (by omega), Nat.add_zero, zI_se]; rfl
      · rw [zI_sn _ _ (by omega), zI_se]; rfl
      · rw [zI_se]; rfl
    · rw [if_neg e, zI_sn _ _ (by omega), zI_sn _ _ (by omega), zI_sn _ _ (by omega), zI_sn _ _ (by omega)]
      exact h7 i (by omega) hl j hj
theorem s_told {M : Mem} {n T c : Nat} {E : Nat → Nat → Nat} {sv : Nat → PSt × Nat} (hT : T < 2 ^ 30) (h : HC M n T E c sv) : f_X7_told 43 M = some (nI (min T 40), M) := by
  obtain ⟨l, h1, h2, h3, h4, h5, h6, h7⟩ := h
  unfold f_X7_told
  rw [h5, s_min (a := T) (b := 40) (y := 40) rfl rfl (by omega) (by decide), b_i]
theorem s_entry {M : Mem} {n T c k j : Nat} {E : Nat → Nat → Nat} {sv : Nat → PSt × Nat} (hW : WRc M) (hT : T < 2 ^ 30) (hO : HO c T sv) (h : HC M n T E c sv) (hk : k < min T 40) (hj : j < 3) : f_X7_entry 43 (nI k) (nI j) M = some (nI (E (T - min T 40 + k) j), M) := by
  have h0 := s_told hT h
  obtain ⟨l, h1, h2, h3, h4, h5, h6, h7⟩ := h
  have hlo := hO.low
  have hm : (T - min T 40 + k) % 60 < 60 := Nat.mod_lt _ (by decide)
  unfold f_X7_entry
  rw [w43_2 hW, b_i, h0, b_i, h5]
  dsimp only
  rw [pk_sub (by omega), nI_add, show (60 : Int32) = nI 60 from rfl, zrem_nI (by omega) (by decide) (by decide), show (3 : Int32) = nI 3 from rfl, pk_mul, nI_add, zl_at 180 rfl (by omega) (by decide), b_i, h7 _ (by omega) (by omega) j hj]
theorem s_pastclear {M : Mem} (n : Nat) (E : Nat → Nat → Nat) (sv : Nat → PSt × Nat) : ∃ M', f_X7_clear 43 M = some M' ∧ FR (fun a j => a = 43 ∧ 3 ≤ j) M M' ∧ HC M' n 0 E 0 sv := by
  refine ⟨zsI (zsI (zsI M 43 3 0) 43 4 0) 43 5 0, rfl, FR.sI (FR.sI (FR.sI (FR.rf _ M) (by omega)) (by omega)) (by omega), 0, by decide, by decide, ?_, ?_, ?_, fun k hk => absurd hk (by omega), fun i hi => absurd hi (by omega)⟩
  · rw [zI_sn _ _ (by omega), zI_sn _ _ (by omega), zI_se]; rfl
  · rw [zI_sn _ _ (by omega), zI_se]; rfl
  · rw [zI_se]; rfl
