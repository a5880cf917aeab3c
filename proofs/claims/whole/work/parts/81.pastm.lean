/-! the past of the model -/
def KE (M : Mem) (v T : Nat) (E : Nat → Nat → Nat) : Prop := zI M 386 v = nI (min T 40) ∧ ∀ i j, i < min T 40 → j < 3 → zI M 387 (120 * v + (3 * i + j)) = nI (E (T - min T 40 + i) j)
theorem KE.fr {W : Nat → Nat → Prop} {M M1 : Mem} {v T : Nat} {E : Nat → Nat → Nat} (h : KE M v T E) (f : FR W M M1) (hw : ∀ a j, Wke v a j → ¬ W a j) : KE M1 v T E :=
  ⟨(f.I (hw _ _ (by unfold Wke; omega))).trans h.1, fun i j hi hj => (f.I (hw _ _ (by unfold Wke; omega))).trans (h.2 i j hi hj)⟩
def HM (M : Mem) (n T : Nat) (E : Nat → Nat → Nat) (c : Nat) (sv : Nat → PSt × Nat) : Prop := ∃ u, u < 20 ∧ c ≤ 20 ∧ zI M 355 63 = nI c ∧ zI M 355 62 = nI u ∧ KE M 0 T E ∧ ∀ k, k < c → MP M (2 + (u + k) % 20) n (sv k).1 ∧ KE M (2 + (u + k) % 20) (sv k).2 E
def Wpa (a j : Nat) : Prop := (a = 355 ∧ (j = 62 ∨ j = 63)) ∨ (a = 381 ∧ 2 ≤ j) ∨ ((a = 382 ∨ a = 383 ∨ a = 384) ∧ 12 ≤ j) ∨ (a = 385 ∧ 768 ≤ j) ∨ (a = 386 ∧ ¬ j = 1) ∨ (a = 387 ∧ (j < 120 ∨ 240 ≤ j))
theorem HM.fr {W : Nat → Nat → Prop} {M M1 : Mem} {n T c : Nat} {E : Nat → Nat → Nat} {sv : Nat → PSt × Nat} (hn : n ≤ 63) (h : HM M n T E c sv) (f : FR W M M1) (hw : ∀ a j, Wpa a j → ¬ W a j) : HM M1 n T E c sv := by
  obtain ⟨u, h1, h2, h3, h4, h5, h6⟩ := h
  refine ⟨u, h1, h2, (f.I (hw _ _ (by unfold Wpa; omega))).trans h3, (f.I (hw _ _ (by unfold Wpa; omega))).trans h4, h5.fr f (fun a j h => hw a j (by unfold Wke at h; unfold Wpa; omega)), fun k hk => ⟨(h6 k hk).1.fr hn f (fun a j h => hw a j (by unfold Wla at h; unfold Wpa; omega)), (h6 k hk).2.fr f (fun a j h => hw a j (by unfold Wke at h; unfold Wpa; omega))⟩⟩
def Wun (a j : Nat) : Prop := (a = 355 ∧ (j = 62 ∨ j = 63)) ∨ (a = 381 ∧ 2 ≤ j) ∨ ((a = 382 ∨ a = 383 ∨ a = 384) ∧ 12 ≤ j) ∨ (a = 385 ∧ 768 ≤ j) ∨ (a = 386 ∧ 2 ≤ j) ∨ (a = 387 ∧ 240 ≤ j)
theorem s_slot {M : Mem} {u k : Nat} (hu : u < 20) (hk : k ≤ 20) (h : zI M 355 62 = nI u) : f_X12_slot 355 (nI k) M = some (nI (2 + (u + k) % 20), M) := by
  unfold f_X12_slot
  rw [h, nI_add, show (20 : Int32) = nI 20 from rfl, zrem_nI (by omega) (by decide) (by decide), show (2 : Int32) = nI 2 from rfl, nI_add]
theorem s_keeps {M : Mem} {n T c : Nat} {E : Nat → Nat → Nat} {sv : Nat → PSt × Nat} {S : PSt} (hW : WRc M) (hn : n ≤ 63) (hS : MP M 0 n S) (h : HM M n T E c sv) : ∃ M', f_X12_keeps 355 M = some M' ∧ FR Wun M M' ∧ HM M' n T E (cpp c) (svp c sv (S, T)) := by
  obtain ⟨u, h1, h2, h3, h4, h5, h6⟩ := h
  have go : ∀ M0 u' c0, FR (fun a j => a = 355 ∧ (j = 62 ∨ j = 63)) M M0 → u' < 20 → c0 < 20 → zI M0 355 62 = nI u' → zI M0 355 63 = nI c0 → cpp c = c0 + 1 → (∀ k, k < c0 → MP M (2 + (u' + k) % 20) n (svp c sv (S, T) k).1 ∧ KE M (2 + (u' + k) % 20) (svp c sv (S, T) k).2 E) → svp c sv (S, T) c0 = (S, T) → ∃ M', f_X12_keeps_32 355 M0 = some M' ∧ FR Wun M M' ∧ HM M' n T E (cpp c) (svp c sv (S, T)) := by
    intro M0 u' c0 f0 hu hc0 g1 g2 ec hk htop
    have hv : 2 + (u' + c0) % 20 < 22 := by omega
    have h50 : KE M0 0 T E := h5.fr f0 (fun a j h => by unfold Wke at h; omega)
    obtain ⟨M1, a1, a2, a3, a4, a5⟩ := s_copies (M := M0) (to := 2 + (u' + c0) % 20) (fm := 0) (K := min T 40) (x := nI (2 + (u' + c0) % 20)) (y := 0) rfl rfl (f0.W hW) hv (by decide) (by omega) (by omega) h50.1
    have f2 : FR (fun a j => (a = 355 ∧ (j = 62 ∨ j = 63)) ∨ Wlk (2 + (u' + c0) % 20) a j) M (zsI M1 355 63 (nI (c0 + 1))) := FR.sI ((f0.mo (fun a j h => Or.inl h)).tr (a2.mo (fun a j h => Or.inr h))) (Or.inl ⟨rfl, Or.inr rfl⟩)
    have f3 : FR (fun a j => a = 355 ∧ j = 63) M1 (zsI M1 355 63 (nI (c0 + 1))) := (FR.rf _ M1).sI ⟨rfl, rfl⟩
    have hL : ∀ a j, Wlk (2 + (u' + c0) % 20) a j → 381 ≤ a ∧ Wun a j := fun a j h => by unfold Wlk Wla Wke at h; unfold Wun; omega
    refine ⟨_, ?_, f2.mo (fun a j h => ?_), u', hu, by rw [ec]; omega, by rw [ec]; exact zI_se _ _ _ _, ?_, ?_, fun k hk2 => ?_⟩
    · unfold f_X12_keeps_32
      rw [g2, s_slot hu (by omega) g1, b_i, a1, b_i, a2.I (fun h => by have := hL _ _ h; omega), g2, nI_1, b_i]
    · rcases h with h | h
      · exact Or.inl h
      · exact (hL a j h).2
    · rw [zI_sn _ _ (by omega), a2.I (fun h => by have := hL _ _ h; omega)]; exact g1
    · exact h5.fr f2 (fun a j h x => by unfold Wke at h; unfold Wlk Wla Wke at x; omega)
    · by_cases e : k = c0
      · subst e
        rw [htop]
        refine ⟨(a3 n S hn (hS.fr hn f0 (fun a j h => by unfold Wla at h; omega))).fr hn f3 (fun a j h => by unfold Wla at h; omega), ?_⟩
        refine KE.fr (M := M1) ⟨a4, fun i j hi hj => ?_⟩ f3 (fun a j h => by unfold Wke at h; omega)
        rw [a5 (3 * i + j) (by omega)]
        exact h50.2 i j hi hj
      · have := hk k (by omega)
        exact ⟨this.1.fr hn f2 (fun a j h x => by unfold Wla at h; unfold Wlk Wla Wke at x; omega), this.2.fr f2 (fun a j h x => by unfold Wke at h; unfold Wlk Wla Wke at x; omega)⟩
  unfold f_X12_keeps
  rw [h3, show (20 : Int32) = nI 20 from rfl]
  by_cases h20 : c < 20
  · rw [if_neg (fun x => by have := (nI_eq (by omega) (by decide)).mp x; omega)]
    refine go M u c (FR.rf _ M) h1 h20 h4 h3 (by unfold cpp; rw [if_pos h20]) (fun k hk => ?_) (by unfold svp; rw [if_pos h20, if_pos rfl])
    have es : svp c sv (S, T) k = sv k := by unfold svp; rw [if_pos h20, if_neg (by omega)]
    rw [es]; exact h6 k hk
  · have e20 : c = 20 := by omega
    rw [if_pos (by rw [e20]), b_i, h4, nI_1, zrem_nI (by omega) (by decide) (by decide), b_i, zI_sn _ _ (by omega), h3, show (1 : Int32) = nI 1 from rfl, pk_sub (by omega)]
    refine go _ ((u + 1) % 20) (c - 1) (FR.sI (FR.sI (FR.rf _ M) (by omega)) (by omega)) (by omega) (by omega) ?_ (zI_se _ _ _ _) (by unfold cpp; rw [if_neg h20]; omega) (fun k hk => ?_) (by unfold svp; rw [if_neg h20, if_pos (by omega)])
    · rw [zI_sn _ _ (by omega), zI_se]
    · have es : svp c sv (S, T) k = sv (k + 1) := by unfold svp; rw [if_neg h20, if_neg (by omega)]
      rw [es, show ((u + 1) % 20 + k) % 20 = (u + (k + 1)) % 20 by omega]; exact h6 (k + 1) (by omega)
theorem s_mundo {M : Mem} {n T c : Nat} {E : Nat → Nat → Nat} {sv : Nat → PSt × Nat} (hW : WRc M) (hn : n ≤ 63) (h : HM M n T E (c + 1) sv) : ∃ M', f_X12_undo 355 M = some (1, M') ∧ FR (fun a j => (a = 355 ∧ j = 63) ∨ Wlk 0 a j) M M' ∧ HM M' n (sv c).2 E c sv ∧ MP M' 0 n (sv c).1 := by
  obtain ⟨u, h1, h2, h3, h4, h5, h6⟩ := h
  have ht := h6 c (by omega)
  have f1 : FR (fun a j => a = 355 ∧ j = 63) M (zsI M 355 63 (nI c)) := (FR.rf _ M).sI ⟨rfl, rfl⟩
  have hk1 : KE (zsI M 355 63 (nI c)) (2 + (u + c) % 20) (sv c).2 E := ht.2.fr f1 (fun a j h => by unfold Wke at h; omega)
  obtain ⟨M1, a1, a2, a3, a4, a5⟩ := s_copies (M := zsI M 355 63 (nI c)) (to := 0) (fm := 2 + (u + c) % 20) (K := min (sv c).2 40) (x := 0) (y := nI (2 + (u + c) % 20)) rfl rfl (f1.W hW) (by decide) (by omega) (by omega) (by omega) hk1.1
  have f2 : FR (fun a j => (a = 355 ∧ j = 63) ∨ Wlk 0 a j) M M1 := (f1.mo (fun a j h => Or.inl h)).tr (a2.mo (fun a j h => Or.inr h))
  have hL : ∀ a j, Wlk 0 a j → 381 ≤ a := fun a j h => by unfold Wlk Wla Wke at h; omega
  refine ⟨M1, ?_, f2, ⟨u, h1, by omega, ?_, ?_, ⟨a4, fun i j hi hj => ?_⟩, fun k hk => ?_⟩, a3 n _ hn (ht.1.fr hn f1 (fun a j h => by unfold Wla at h; omega))⟩
  · unfold f_X12_undo
    rw [h3, if_neg (nI_ne0 (by omega) (by omega)), show (1 : Int32) = nI 1 from rfl, pk_sub (by omega), Nat.add_sub_cancel, b_i, zI_se, s_slot h1 (by omega) ((f1.I (by omega)).trans h4), b_i, a1, b_i]
  · rw [a2.I (fun h => by have := hL _ _ h; omega)]; exact zI_se _ _ _ _
  · rw [a2.I (fun h => by have := hL _ _ h; omega)]; exact (f1.I (by omega)).trans h4
  · rw [a5 (3 * i + j) (by omega)]
    exact hk1.2 i j hi hj
  · have := h6 k (by omega)
    exact ⟨this.1.fr hn f2 (fun a j h x => by unfold Wla at h; unfold Wlk Wla Wke at x; omega), this.2.fr f2 (fun a j h x => by unfold Wke at h; unfold Wlk Wla Wke at x; omega)⟩
def Wwd (a j : Nat) : Prop := (a = 386 ∧ j = 0) ∨ (a = 387 ∧ j < 120)
theorem s_wd49 {M : Mem} {K d p w : Nat} (hW : WRc M) (hK : K < 40) (h0 : zI M 386 0 = nI K) (hd : zI M 381 0 = nI d) : ∃ M', f_X12_writesDown_49 355 (nI p) (nI w) M = some M' ∧ FR Wwd M M' ∧ zI M' 386 0 = nI (K + 1) ∧ zI M' 387 (3 * K) = nI d ∧ zI M' 387 (3 * K + 1) = nI p ∧ zI M' 387 (3 * K + 2) = nI w ∧ ∀ j, j < 3 * K → zI M' 387 j = zI M 387 j := by
  have fr : FR Wwd M (zsI (zsI (zsI (zsI M 387 (3 * K) (nI d)) 387 (3 * K + 1) (nI p)) 387 (3 * K + 2) (nI w)) 386 0 (nI (K + 1))) := FR.sI (FR.sI (FR.sI (FR.sI (FR.rf _ M) (by unfold Wwd; omega)) (by unfold Wwd; omega)) (by unfold Wwd; omega)) (by unfold Wwd; omega)
  refine ⟨_, ?_, fr, zI_se _ _ _ _, ?_, ?_, ?_, fun j hj => ?_⟩
  · unfold f_X12_writesDown_49
    rw [w355_60 hW, b_i, show zld 386 0 = some 0 from rfl, b_i, w355_61 hW, b_i, w355_55 hW, b_i, show zld 381 0 = some 0 from rfl, b_i, h0, show (3 : Int32) = nI 3 from rfl, pk_mul, zl_at 2640 rfl (by omega) (by decide), b_i, b_i, hd, zrf_sI, w355_61 hW, b_i, nI_1, zl_at 2640 rfl (by omega) (by decide), b_i, b_i, zrf_sI, zrf_sI, w355_61 hW, b_i, show (2 : Int32) = nI 2 from rfl, nI_add, zl_at 2640 rfl (by omega) (by decide), b_i, b_i, zrf_sI, zrf_sI, zrf_sI, w355_60 hW, b_i, show zld 386 0 = some 0 from rfl, b_i, b_i, b_i, zI_sn _ _ (by omega), zI_sn _ _ (by omega), zI_sn _ _ (by omega), h0, nI_1]
  · rw [zI_sn _ _ (by omega), zI_sn _ _ (by omega), zI_sn _ _ (by omega), zI_se]
  · rw [zI_sn _ _ (by omega), zI_sn _ _ (by omega), zI_se]
  · rw [zI_sn _ _ (by omega), zI_se]
  · rw [zI_sn _ _ (by omega), zI_sn _ _ (by omega), zI_sn _ _ (by omega), zI_sn _ _ (by omega)]
theorem s_wd13 {d p w : Nat} : ∀ e i f M M0, WRc M → i + e = 117 → zI M 386 0 = nI 40 → zI M 381 0 = nI d → FR Wwd M0 M → (∀ j, j < i → zI M 387 j = zI M0 387 (j + 3)) → (∀ j, i ≤ j → zI M 387 j = zI M0 387 j) → ∃ M', f_X12_writesDown_13 355 (nI p) (nI w) (e + 1 + f) (nI i) M = some M' ∧ FR Wwd M0 M' ∧ zI M' 386 0 = nI 40 ∧ zI M' 387 117 = nI d ∧ zI M' 387 118 = nI p ∧ zI M' 387 119 = nI w ∧ ∀ j, j < 117 → zI M' 387 j = zI M0 387 (j + 3) := by
  intro e
  induction e with
  | zero =>
    intro i f M M0 hW he h0 hd fr hl hg
    have e3 : i = 117 := by omega
    subst e3
    have f1 : FR Wwd M (zsI M 386 0 (nI 39)) := (FR.rf _ M).sI (by unfold Wwd; omega)
    obtain ⟨M', a1, a2, a3, a4, a5, a6, a7⟩ := s_wd49 (M := zsI M 386 0 (nI 39)) (K := 39) (d := d) (p := p) (w := w) (f1.W hW) (by decide) (zI_se _ _ _ _) ((f1.I (by unfold Wwd; omega)).trans hd)
    refine ⟨M', ?_, fr.tr (f1.tr a2), a3, a4, a5, a6, fun j hj => ?_⟩
    · rw [show 0 + 1 + f = f + 1 by omega, f_X12_writesDown_13]
      refine ip (nI_le (a := 117) (Nat.le_refl _) (by decide)) ?_
      rw [w355_60 hW, b_i, show zld 386 0 = some 0 from rfl, b_i, b_i, b_i, h0, show (1 : Int32) = nI 1 from rfl, pk_sub (by decide)]
      exact a1
    · rw [a7 j (by omega), zI_sn _ _ (by omega)]; exact hl j hj
  | succ e ih =>
    intro i f M M0 hW he h0 hd fr hl hg
    have f1 : FR Wwd M (zsI M 387 i (zI M 387 (i + 3))) := (FR.rf _ M).sI (by unfold Wwd; omega)
    obtain ⟨M', e1, e2⟩ := ih (i + 1) f (zsI M 387 i (zI M 387 (i + 3))) M0 (f1.W hW) (by omega) ((zI_sn _ _ (by omega)).trans h0) ((zI_sn _ _ (by omega)).trans hd) (fr.tr f1) (fun j hj => by
      by_cases h : j = i
      · subst h; rw [zI_se]; exact hg _ (by omega)
      · rw [zI_sn _ _ (by omega)]; exact hl j (by omega)) (fun j hj => by rw [zI_sn _ _ (by omega)]; exact hg j (by omega))
    refine ⟨M', ?_, e2⟩
    rw [show e + 1 + 1 + f = (e + 1 + f) + 1 by omega, f_X12_writesDown_13]
    refine im (nI_ge (a := i) (b := 117) (by omega) (by decide)) ?_
    rw [w355_61 hW, b_i, b_i, show (3 : Int32) = nI 3 from rfl, nI_add, zl_at 2640 rfl (by omega) (by decide), b_i, zl_at 2640 rfl (by omega) (by decide), b_i, b_i, nI_1]
    exact e1
theorem s_writesDown {M : Mem} {n T c d p w : Nat} {E : Nat → Nat → Nat} {sv : Nat → PSt × Nat} (hW : WRc M) (hn : n ≤ 63) (hO : HO c T sv) (hd : zI M 381 0 = nI d) (h : HM M n T E c sv) : ∃ M', f_X12_writesDown 355 (nI p) (nI w) M = some M' ∧ FR Wwd M M' ∧ HM M' n (T + 1) (Ead E T d p w) c sv := by
  obtain ⟨u, h1, h2, h3, h4, h5, h6⟩ := h
  have fin : ∀ M', FR Wwd M M' → KE M' 0 (T + 1) (Ead E T d p w) → HM M' n (T + 1) (Ead E T d p w) c sv := by
    intro M' fr hk
    refine ⟨u, h1, h2, (fr.I (by unfold Wwd; omega)).trans h3, (fr.I (by unfold Wwd; omega)).trans h4, hk, fun k hk => ⟨(h6 k hk).1.fr hn fr (fun a j h => by unfold Wla at h; unfold Wwd; omega), ?_⟩⟩
    have h7 := (h6 k hk).2.fr fr (fun a j h => by unfold Wke at h; unfold Wwd; omega)
    have hle := (hO k hk).1
    refine ⟨h7.1, fun i j hi hj => ?_⟩
    rw [h7.2 i j hi hj]
    unfold Ead
    rw [if_neg (by omega)]
  unfold f_X12_writesDown
  rw [w355_60 hW, b_i, show zld 386 0 = some 0 from rfl, b_i, h5.1]
  by_cases h40 : T < 40
  · rw [if_neg (fun x => by have := (nI_eq (a := min T 40) (b := 40) (by omega) (by decide)).mp x; omega)]
    have e : min T 40 = T := by omega
    obtain ⟨M', a1, a2, a3, a4, a5, a6, a7⟩ := s_wd49 (K := T) (d := d) (p := p) (w := w) hW h40 (by rw [h5.1, e]) hd
    refine ⟨M', a1, a2, fin M' a2 ⟨by rw [a3]; congr 1; omega, fun i j hi hj => ?_⟩⟩
    rw [show T + 1 - min (T + 1) 40 + i = i by omega, Nat.mul_zero, Nat.zero_add]
    unfold Ead
    by_cases ei : i = T
    · rw [if_pos ei]
      subst ei
      have : j = 0 ∨ j = 1 ∨ j = 2 := by omega
      rcases this with e | e | e <;> subst e
      · exact a4
      · exact a5
      · exact a6
    · rw [if_neg ei, a7 _ (by omega)]
      have := h5.2 i j (by omega) hj
      rw [show T - min T 40 + i = i by omega, Nat.mul_zero, Nat.zero_add] at this
      exact this
  · have e : min T 40 = 40 := by omega
    rw [e, if_pos (show nI 40 = 40 from rfl)]
    obtain ⟨M', a1, a2, a3, a4, a5, a6, a7⟩ := s_wd13 (d := d) (p := p) (w := w) 117 0 999882 M M hW rfl (by rw [h5.1, e]) hd (FR.rf _ M) (fun j h => absurd h (by omega)) (fun j _ => rfl)
    refine ⟨M', a1, a2, fin M' a2 ⟨by rw [a3]; congr 1; omega, fun i j hi hj => ?_⟩⟩
    rw [show T + 1 - min (T + 1) 40 + i = T - 40 + (i + 1) by omega, Nat.mul_zero, Nat.zero_add]
    unfold Ead
    by_cases ei : i = 39
    · rw [if_pos (by omega)]
      subst ei
      have : j = 0 ∨ j = 1 ∨ j = 2 := by omega
      rcases this with e | e | e <;> subst e
      · exact a4
      · exact a5
      · exact a6
    · rw [if_neg (by omega), a7 _ (by omega)]
      have := h5.2 (i + 1) j (by omega) hj
      rw [e, Nat.mul_zero, Nat.zero_add] at this
      rw [show 3 * i + j + 3 = 3 * (i + 1) + j by omega]
      exact this
