/-! chip: the generator (3): the model -/
def RMk (M : Mem) (R n : Nat) : Prop := ∀ k, k < n → zI M 370 k = nI (tb R k)
theorem tb_le (R k : Nat) : tb R k ≤ 1 := by
  unfold tb
  by_cases q : R.testBit k = true
  · rw [if_pos q]; exact Nat.le_refl _
  · rw [if_neg q]; exact Nat.zero_le _
theorem tb_or (R i k : Nat) : tb (R ||| 2 ^ i) k = if k = i then 1 else tb R k := by
  unfold tb
  rw [Nat.testBit_or, Nat.testBit_two_pow]
  by_cases q : k = i
  · rw [if_pos q, decide_eq_true q.symm, Bool.or_true, if_pos rfl]
  · rw [if_neg q, decide_eq_false (fun e => q e.symm), Bool.or_false]
theorem RMk.set {M : Mem} {R n i : Nat} (h : RMk M R n) : RMk (zsI M 370 i 1) (R ||| 2 ^ i) n := fun k hk => by
  rw [tb_or]
  by_cases q : k = i
  · rw [if_pos q, q, zI_se]; rfl
  · rw [if_neg q, zI_sn _ _ (by omega)]; exact h k hk
section
variable {m p t n : Nat}
theorem m_r52 {x2 : Int32} {j : Nat} {k35 : Int32 → Int32 → Int32 → Mem → Option (Int32 × Mem)} (n1 : 1 ≤ n) (n2 : n ≤ 63) (hm : m ≤ 6) : ∀ e i idx s f M, i + e = m → idx < n → WRc M → RMk M s.1 n → ∃ M', f_X12_rootsFor_52 k35 355 (nI m) x2 (e + 1 + f) (nI n) (nI s.2) (nI j) (nI idx) (nI i) M = k35 (nI n) (nI (rin n e idx s).2) (nI (j + 1)) M' ∧ FR (fun x _ => x = 370) M M' ∧ RMk M' (rin n e idx s).1 n := by
  intro e
  induction e with
  | zero =>
    intro i idx s f M hi hd hW hR
    refine ⟨M, ?_, FR.rf _ M, hR⟩
    rw [show 0 + 1 + f = f + 1 by omega, f_X12_rootsFor_52, if_pos (nI_le (by omega) (by omega)), nI_1]
    rfl
  | succ e ih =>
    intro i idx s f M hi hd hW hR
    have f1 : FR (fun x _ => x = 370) M (zsI M 370 idx 1) := (FR.rf _ M).sI rfl
    obtain ⟨M', a1, a2, a3⟩ := ih (i + 1) (2 * idx % n) (s.1 ||| 2 ^ idx, s.2 + (1 - tb s.1 idx)) f (zsI M 370 idx 1) (by omega) (Nat.mod_lt _ (by omega)) (f1.W hW) hR.set
    refine ⟨M', ?_, f1.tr a2, a3⟩
    rw [show e + 1 + 1 + f = (e + 1 + f) + 1 by omega, f_X12_rootsFor_52, if_neg (nI_ge (by omega) (by omega)), w355_34 hW, b_i, zl_at 64 rfl (by omega) (by decide), b_i, b_i, zl_at 64 rfl (by omega) (by decide), b_i, b_i, if_neg (nI_ne0 (by omega) (by omega)), hR idx hd, nI_1, show (2 : Int32) = nI 2 from rfl, pk_mul, zrem_nI (by omega) (by omega) (by omega)]
    have e1 : nI s.2 + ((1 : Int32) - nI (tb s.1 idx)) = nI (s.2 + (1 - tb s.1 idx)) := by rw [show (1 : Int32) = nI 1 from rfl, pk_sub (tb_le _ _), nI_add]
    rw [e1]
    exact a1
theorem m_r35 (n1 : 1 ≤ n) (n2 : n ≤ 63) (hm : m ≤ 6) (ht : t ≤ 5) : ∀ e j s f M, j + e = 2 * t + 1 → WRc M → RMk M s.1 n → ∃ M', f_X12_rootsFor_35 355 (nI m) (nI t) (e + 1 + f) (nI n) (nI s.2) (nI j) M = some (nI (rot n m e j s).2, M') ∧ FR (fun x _ => x = 370) M M' ∧ RMk M' (rot n m e j s).1 n := by
  have h2t : 2 * nI t = nI (2 * t) := by rw [show (2 : Int32) = nI 2 from rfl, pk_mul]
  intro e
  induction e with
  | zero =>
    intro j s f M hj hW hR
    refine ⟨M, ?_, FR.rf _ M, hR⟩
    rw [show 0 + 1 + f = f + 1 by omega, f_X12_rootsFor_35, h2t, if_pos (nI_lt (by omega) (by omega))]
    rfl
  | succ e ih =>
    intro j s f M hj hW hR
    obtain ⟨M1, a1, a2, a3⟩ := m_r52 (x2 := nI t) (j := j) (k35 := f_X12_rootsFor_35 355 (nI m) (nI t) (e + 1 + f)) n1 n2 hm m 0 (j % n) s (1000000 - m - 1) M (by omega) (Nat.mod_lt _ (by omega)) hW hR
    rw [show m + 1 + (1000000 - m - 1) = 1000000 by omega] at a1
    obtain ⟨M', b1, b2, b3⟩ := ih (j + 1) (rin n m (j % n) s) f M1 (by omega) (a2.W hW) a3
    refine ⟨M', ?_, a2.tr b2, b3⟩
    rw [show e + 1 + 1 + f = (e + 1 + f) + 1 by omega, f_X12_rootsFor_35, h2t, if_neg (nI_nlt (by omega) (by omega)), if_neg (nI_ne0 (by omega) (by omega)), zrem_nI (by omega) (by omega) (by omega)]
    exact a1.trans b1
theorem m_r12 (n1 : 1 ≤ n) (n2 : n ≤ 63) (hm : m ≤ 6) (ht : t ≤ 5) : ∀ e i f M, i + e = n → WRc M → (∀ k, k < i → zI M 370 k = 0) → ∃ M', f_X12_rootsFor_12 355 (nI m) (nI t) (e + 1 + f) (nI n) 0 (nI i) M = some (nI (rot n m (2 * t) 1 (0, 0)).2, M') ∧ FR (fun x _ => x = 370) M M' ∧ RMk M' (rot n m (2 * t) 1 (0, 0)).1 n := by
  intro e
  induction e with
  | zero =>
    intro i f M hi hW h0
    have hi : i = n := by omega
    subst hi
    obtain ⟨M', a1, a2, a3⟩ := m_r35 n1 n2 hm ht (2 * t) 1 (0, 0) (1000000 - 2 * t - 1) M (by omega) hW (fun k hk => by rw [h0 k hk]; unfold tb; rw [Nat.zero_testBit]; rfl)
    rw [show 2 * t + 1 + (1000000 - 2 * t - 1) = 1000000 by omega] at a1
    refine ⟨M', ?_, a2, a3⟩
    rw [show 0 + 1 + f = f + 1 by omega, f_X12_rootsFor_12, if_pos (nI_le (by omega) (by omega))]
    exact a1
  | succ e ih =>
    intro i f M hi hW h0
    have f1 : FR (fun x _ => x = 370) M (zsI M 370 i 0) := (FR.rf _ M).sI rfl
    obtain ⟨M', a1, a2, a3⟩ := ih (i + 1) f (zsI M 370 i 0) (by omega) (f1.W hW) (fun k hk => by
      by_cases q : k = i
      · rw [q, zI_se]
      · rw [zI_sn _ _ (by omega)]; exact h0 k (by omega))
    refine ⟨M', ?_, f1.tr a2, a3⟩
    rw [show e + 1 + 1 + f = (e + 1 + f) + 1 by omega, f_X12_rootsFor_12, if_neg (nI_ge (by omega) (by omega)), w355_34 hW, b_i, zl_at 64 rfl (by omega) (by decide), b_i, b_i, nI_1]
    exact a1
theorem m_roots {M : Mem} (h3 : 3 ≤ m) (h6 : m ≤ 6) (ht : t ≤ 5) (hW : WRc M) : ∃ M', f_X12_rootsFor 355 (nI m) (nI t) M = some (nI (rts m t).2, M') ∧ FR (fun x _ => x = 370) M M' ∧ RMk M' (rts m t).1 (fN m) := by
  have hb := b36 h3 h6
  obtain ⟨M', a1, a2, a3⟩ := m_r12 (n := fN m) (by omega) (by omega) h6 ht (fN m) 0 (1000000 - fN m - 1) M (by omega) hW (fun k hk => by omega)
  rw [show fN m + 1 + (1000000 - fN m - 1) = 1000000 by omega] at a1
  refine ⟨M', ?_, a2, a3⟩
  unfold f_X12_rootsFor
  rw [nI_2m1 h6]
  exact a1
theorem m_l122 {R : Nat} : ∀ e k f P M, k + e = fN m → WRc M → MO M m p → RMk M R (fN m) → 1 ≤ P.length → P.length + e ≤ 64 → (prd m p R e k P).length ≤ 63 → (∀ i, lg P i < 2 ^ m) → (∀ i, i < P.length → zI M 374 i = nI (lg P i)) → ∃ M', f_X12_lays_122 355 (e + 1 + f) (nI (P.length - 1)) (nI k) M = some M' ∧ FR (fun x j => x = 374 ∨ (x = 355 ∧ j = 41)) M M' ∧ zL M' 355 41 = lN (twF (lg (prd m p R e k P)) (prd m p R e k P).length) := by
  intro e
  induction e with
  | zero =>
    intro k f P M hk hW hM hR p1 p2 p3 hC hL
    have hm := f_m hM.pr
    have p3 : P.length ≤ 63 := p3
    refine ⟨zsL M 355 41 (lN (twF (lg P) P.length)), ?_, (FR.rf _ M).sL (by omega), by rw [zL_sL, if_pos rfl, zup_at, if_pos rfl]; rfl⟩
    rw [show 0 + 1 + f = f + 1 by omega, f_X12_lays_122, hM.sz, if_pos (nI_le (by omega) (by omega)), s_twoEl hW (fun i => Nat.lt_of_lt_of_le (hC i) (by omega)) (by omega) (fun i hi => hL i (by omega)), b_i, b_i, show P.length - 1 + 1 = P.length by omega]
  | succ e ih =>
    intro k f P M hk hW hM hR p1 p2 p3 hC hL
    have hm := f_m hM.pr
    rw [show e + 1 + 1 + f = (e + 1 + f) + 1 by omega, f_X12_lays_122, hM.sz, if_neg (nI_ge (by omega) (by omega)), w355_34 hW, b_i, zl_at 64 rfl (by omega) (by decide), b_i, hR k (by omega)]
    unfold f_X12_lays_151
    rw [prd] at p3
    rw [prd]
    by_cases q : R.testBit k = true
    · rw [if_pos q] at p3
      rw [if_pos q, show tb R k = 1 by unfold tb; rw [if_pos q], if_neg (show ¬ nI 1 = 0 by decide)]
      obtain ⟨M2, a1, a2, a3⟩ := s_multiplies hW hM hC (show k < fN m by omega) (show P.length - 1 + 1 < 70 by omega) (lg_ge (by omega)) (fun i hi => hL i (by omega))
      rw [← mulG_F hM.pr] at a3
      have hG := mulG_len m p k P 0
      obtain ⟨M', b1, b2, b3⟩ := ih (k + 1) f (mulG m p k 0 P) M2 (by omega) (a2.W hW) (hM.c a2) (fun i hi => (a2.I (by omega)).trans (hR i hi)) (by omega) (by omega) p3 (fun i => by rw [mulG_F hM.pr]; exact mulF_lt hM.pr hC i) (fun i hi => a3 i (by omega))
      refine ⟨M', ?_, (a2.mo (fun x j q => Or.inl q)).tr b2, b3⟩
      rw [a1, b_i, nI_1, nI_1, show P.length - 1 + 1 = (mulG m p k 0 P).length - 1 by omega]
      exact b1
    · rw [if_neg q] at p3
      rw [if_neg q, show tb R k = 0 by unfold tb; rw [if_neg q], if_pos (show nI 0 = 0 from rfl), nI_1]
      exact ih (k + 1) f P M (by omega) hW hM hR p1 (by omega) p3 hC hL
def BB (M : Mem) (m p t s : Nat) : Prop := BY M 0 m ∧ BY M 1 p ∧ BY M 2 t ∧ BY M 3 s
theorem BB.fr {W : Nat → Nat → Prop} {M M1 : Mem} {s : Nat} (h : BB M m p t s) (f : FR W M M1) (h1 : ¬ W 355 13) (h2 : ∀ j, ¬ W 357 j) : BB M1 m p t s := ⟨h.1.fr f h1 h2, h.2.1.fr f h1 h2, h.2.2.1.fr f h1 h2, h.2.2.2.fr f h1 h2⟩
def Wly (x j : Nat) : Prop := (x = 355 ∧ 37 ≤ j ∧ j ≤ 41) ∨ x = 370 ∨ x = 372 ∨ x = 373 ∨ x = 374
theorem m_l17 {s : Nat} (hP : (m, p) ∈ fPR) (t1 : 1 ≤ t) (t5 : t ≤ 5) (hc : (gj p (2 * t)).2 + s < fN m) : ∀ e k f M, k + e = fN m → WRc M → BB M m p t s → zI M 355 37 = nI (fN m) → (∀ j, j < k → zI M 372 j = nI (fpw m p j) ∧ zI M 373 (fpw m p j) = nI j) → ∃ M', f_X12_lays_17 355 (e + 1 + f) (nI (fpw m p k)) (nI k) M = some M' ∧ FR Wly M M' ∧ MO M' m p ∧ zI M' 355 38 = nI (gj p (2 * t)).2 ∧ zI M' 355 39 = nI (fN m - s) ∧ zI M' 355 40 = nI (fN m - s - (gj p (2 * t)).2) ∧ zL M' 355 41 = lN (gj p (2 * t)).1 := by
  have hm := f_m hP
  have hm6 := f_m6 hP
  intro e
  induction e with
  | zero =>
    intro k f M hk hW hB h37 hT
    have hk : k = fN m := by omega
    subst hk
    obtain ⟨⟨c1, c2, c3⟩, -, -⟩ := gc2_at hP t1 t5
    obtain ⟨M1, a1, a2, a3⟩ := m_roots hm6.1 hm6.2 t5 hW
    rw [c1] at a1
    have g1 : FR Wly M (zsI M1 355 38 (nI (gj p (2 * t)).2)) := FR.sI (a2.mo (fun x j q => by unfold Wly; omega)) (by unfold Wly; omega)
    have g2 : FR Wly M (zsI (zsI M1 355 38 (nI (gj p (2 * t)).2)) 355 40 (nI (fN m - s - (gj p (2 * t)).2))) := g1.sI (by unfold Wly; omega)
    have g3 : FR Wly M (zsI (zsI (zsI M1 355 38 (nI (gj p (2 * t)).2)) 355 40 (nI (fN m - s - (gj p (2 * t)).2))) 355 39 (nI (fN m - s))) := g2.sI (by unfold Wly; omega)
    have g4 : FR Wly M (zsI (zsI (zsI (zsI M1 355 38 (nI (gj p (2 * t)).2)) 355 40 (nI (fN m - s - (gj p (2 * t)).2))) 355 39 (nI (fN m - s))) 374 0 1) := g3.sI (by unfold Wly; omega)
    have nw : ¬ Wly 355 13 := by unfold Wly; omega
    have nj : ∀ j, ¬ Wly 357 j := fun j => by unfold Wly; omega
    have g5 : FR (fun x j => x = 370 ∨ x = 374 ∨ (x = 355 ∧ 38 ≤ j ∧ j ≤ 40)) M (zsI (zsI (zsI (zsI M1 355 38 (nI (gj p (2 * t)).2)) 355 40 (nI (fN m - s - (gj p (2 * t)).2))) 355 39 (nI (fN m - s))) 374 0 1) := FR.sI (FR.sI (FR.sI (FR.sI (a2.mo (fun x j q => by omega)) (by omega)) (by omega)) (by omega)) (by omega)
    have hO : MO (zsI (zsI (zsI (zsI M1 355 38 (nI (gj p (2 * t)).2)) 355 40 (nI (fN m - s - (gj p (2 * t)).2))) 355 39 (nI (fN m - s))) 374 0 1) m p := by
      refine ⟨w355_42 (g4.W hW), w355_43 (g4.W hW), (g5.I (by omega)).trans h37, fun k hk => (g5.I (by omega)).trans (hT k hk).1, fun x x1 x2 => ?_, hP⟩
      obtain ⟨k, k1, k2⟩ := f_ex hP x1 x2
      rw [← k2, g5.I (by omega), (hT k k1).2, f_lg hP k1]
    obtain ⟨M', b1, b2, b3⟩ := m_l122 (R := (rts m t).1) (fN m) 0 (1000000 - fN m - 1) [1] _ (by omega) (g4.W hW) hO (fun k hk => by rw [zI_sn _ _ (by omega), zI_sn _ _ (by omega), zI_sn _ _ (by omega), zI_sn _ _ (by omega)]; exact a3 k hk) (by decide) (by rw [List.length_singleton]; omega) (by rw [c2]; omega) (fun i => by
      cases i with
      | zero => show 1 < 2 ^ m; omega
      | succ i => rw [lg_c, lg_nil]; omega) (fun i hi => by
      have hi : i = 0 := by simp only [List.length_cons, List.length_nil] at hi; omega
      subst hi
      rw [zI_se]; rfl)
    rw [show fN m + 1 + (1000000 - fN m - 1) = 1000000 by omega] at b1
    refine ⟨M', ?_, g4.tr (b2.mo (fun x j q => by unfold Wly; omega)), hO.fr b2 (by omega) (fun _ => by omega) (fun _ => by omega), ?_, ?_, ?_, ?_⟩
    · have k37 : zI M1 355 37 = nI (fN m) := (a2.I (by omega)).trans h37
      rw [show 0 + 1 + f = f + 1 by omega, f_X12_lays_17, h37, if_pos (nI_le (by omega) (by omega)), s_by hW (k := 0) (x := 0) rfl (by decide) hB.1, b_i, s_by hW (k := 2) (x := 2) rfl (by decide) hB.2.2.1, b_i]
      dsimp only
      rw [a1, b_i, b_i, s_by (g1.W hW) (k := 3) (x := 3) rfl (by decide) (hB.fr g1 nw nj).2.2.2, b_i]
      dsimp only
      rw [zI_sn _ _ (by omega), k37, zI_se, pk_sub (by omega), pk_sub (by omega), show fN m - (gj p (2 * t)).2 - s = fN m - s - (gj p (2 * t)).2 by omega, b_i, s_by (g2.W hW) (k := 3) (x := 3) rfl (by decide) (hB.fr g2 nw nj).2.2.2, b_i]
      dsimp only
      rw [zI_sn _ _ (by omega), zI_sn _ _ (by omega), k37, pk_sub (by omega), b_i, w355_44 (g3.W hW), b_i, show (0 : Int32) = nI 0 from rfl, zl_at 70 rfl (by decide) (by decide), b_i, b_i]
      exact b1
    · rw [b2.I (by omega), zI_sn _ _ (by omega), zI_sn _ _ (by omega), zI_sn _ _ (by omega), zI_se]
    · rw [b2.I (by omega), zI_sn _ _ (by omega), zI_se]
    · rw [b2.I (by omega), zI_sn _ _ (by omega), zI_sn _ _ (by omega), zI_se]
    · rw [b3, c2, c3]
  | succ e ih =>
    intro k f M hk hW hB h37 hT
    have lk := (f_pos hP k).2
    have f1 : FR (fun x _ => x = 372 ∨ x = 373) M (zsI (zsI M 372 k (nI (fpw m p k))) 373 (fpw m p k) (nI k)) := FR.sI (FR.sI (FR.rf _ M) (Or.inl rfl)) (Or.inr rfl)
    obtain ⟨M', a1, a2, a3⟩ := ih (k + 1) f _ (by omega) (f1.W hW) (hB.fr f1 (by omega) (fun _ => by omega)) ((f1.I (by omega)).trans h37) (fun j hj => by
      by_cases q : j = k
      · rw [q, zI_se, zI_sn _ _ (by omega), zI_se]; exact ⟨rfl, rfl⟩
      · have hj2 := hT j (by omega)
        have hne : ¬ fpw m p j = fpw m p k := fun e => q (f_inj hP (by omega) (by omega) e)
        rw [zI_sn _ _ (by omega), zI_sn _ _ (by omega), zI_sn _ _ (by omega), zI_sn _ _ (by omega)]
        exact hj2)
    refine ⟨M', ?_, (f1.mo (fun x j q => by unfold Wly; omega)).tr a2, a3⟩
    have hB1 := hB.fr f1 (by omega) (fun _ => by omega)
    rw [show e + 1 + 1 + f = (e + 1 + f) + 1 by omega, f_X12_lays_17, h37, if_neg (nI_ge (by omega) (by omega)), w355_42 hW, b_i, zl_at 64 rfl (by omega) (by decide), b_i, b_i, zrf_sI, w355_43 hW, b_i, zl_at 64 rfl (by omega) (by decide), b_i, b_i, s_by (f1.W hW) (k := 0) (x := 0) rfl (by decide) hB1.1, b_i, s_by (f1.W hW) (k := 1) (x := 1) rfl (by decide) hB1.2.1, b_i]
    dsimp only
    rw [s_timesA hm6.1 hm6.2 lk, b_i, nI_1]
    exact a1
theorem m_lays {M : Mem} {s : Nat} (hP : (m, p) ∈ fPR) (t1 : 1 ≤ t) (t5 : t ≤ 5) (hc : (gj p (2 * t)).2 + s < fN m) (hW : WRc M) (hB : BB M m p t s) : ∃ M', f_X12_lays 355 M = some M' ∧ FR Wly M M' ∧ MO M' m p ∧ zI M' 355 38 = nI (gj p (2 * t)).2 ∧ zI M' 355 39 = nI (fN m - s) ∧ zI M' 355 40 = nI (fN m - s - (gj p (2 * t)).2) ∧ zL M' 355 41 = lN (gj p (2 * t)).1 := by
  have hm := f_m hP
  have hm6 := f_m6 hP
  have f1 : FR Wly M (zsI M 355 37 (nI (fN m))) := (FR.rf _ M).sI (by unfold Wly; omega)
  obtain ⟨M', a1, a2, a3⟩ := m_l17 hP t1 t5 hc (fN m) 0 (1000000 - fN m - 1) _ (by omega) (f1.W hW) (hB.fr f1 (by unfold Wly; omega) (fun _ => by unfold Wly; omega)) (zI_se _ _ _ _) (fun j hj => by omega)
  rw [show fN m + 1 + (1000000 - fN m - 1) = 1000000 by omega] at a1
  refine ⟨M', ?_, f1.tr a2, a3⟩
  unfold f_X12_lays
  rw [s_by hW (k := 0) (x := 0) rfl (by decide) hB.1, b_i]
  dsimp only
  rw [nI_2m1 hm6.2, b_i]
  exact a1
end
