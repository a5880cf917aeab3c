/-! the layers of the model: copied, begun, written -/
def MR (M : Mem) (v i n : Nat) (r : RW) : Prop := zI M 382 (6 * v + i) = b01 r.1 ∧ (r.1 = true → zI M 383 (6 * v + i) = nI r.2.1 ∧ zL M 384 (6 * v + i) = lN r.2.2.1 ∧ ∀ k, k < n → zI M 385 (64 * (6 * v + i) + k) = nI (r.2.2.2 k))
def MP (M : Mem) (v n : Nat) (S : PSt) : Prop := zI M 381 v = nI S.1 ∧ ∀ i, i < 6 → MR M v i n (S.2 i)
def Wla (v a j : Nat) : Prop := (a = 381 ∧ j = v) ∨ ((a = 382 ∨ a = 383 ∨ a = 384) ∧ 6 * v ≤ j ∧ j < 6 * v + 6) ∨ (a = 385 ∧ 384 * v ≤ j ∧ j < 384 * v + 384)
def Wke (v a j : Nat) : Prop := (a = 386 ∧ j = v) ∨ (a = 387 ∧ 120 * v ≤ j ∧ j < 120 * v + 120)
def Wlk (v a j : Nat) : Prop := Wla v a j ∨ Wke v a j
theorem MR.fr {W : Nat → Nat → Prop} {M M1 : Mem} {v i n : Nat} {r : RW} (hn : n ≤ 63) (h : MR M v i n r) (f : FR W M M1) (h1 : ¬ W 382 (6 * v + i)) (h2 : ¬ W 383 (6 * v + i)) (h3 : ¬ W 384 (6 * v + i)) (h4 : ∀ k, k < 64 → ¬ W 385 (64 * (6 * v + i) + k)) : MR M1 v i n r :=
  ⟨(f.I h1).trans h.1, fun e => ⟨(f.I h2).trans (h.2 e).1, (f.L h3).trans (h.2 e).2.1, fun k hk => (f.I (h4 k (by omega))).trans ((h.2 e).2.2 k hk)⟩⟩
theorem MP.fr {W : Nat → Nat → Prop} {M M1 : Mem} {v n : Nat} {S : PSt} (hn : n ≤ 63) (h : MP M v n S) (f : FR W M M1) (hw : ∀ a j, Wla v a j → ¬ W a j) : MP M1 v n S :=
  ⟨(f.I (hw _ _ (by unfold Wla; omega))).trans h.1, fun i hi => (h.2 i hi).fr hn f (hw _ _ (by unfold Wla; omega)) (hw _ _ (by unfold Wla; omega)) (hw _ _ (by unfold Wla; omega)) (fun k hk => hw _ _ (by unfold Wla; omega))⟩
theorem ix_6 {v i : Nat} : ((6 : Int32) * nI v) + nI i = nI (6 * v + i) := by
  rw [show (6 : Int32) = nI 6 from rfl, pk_mul, nI_add]
theorem ix_120 {v i : Nat} : ((120 : Int32) * nI v) + nI i = nI (120 * v + i) := by
  rw [show (120 : Int32) = nI 120 from rfl, pk_mul, nI_add]
theorem s_cp89 {to fm p : Nat} {k14 : Int32 → Mem → Option Mem} (ht : to < 22) (hf : fm < 22) (hne : to ≠ fm) (hp : p < 6) : ∀ d i f M, WRc M → i + d = 64 → ∃ M', f_X12_copies_89 k14 355 (nI to) (nI fm) (d + 1 + f) (nI p) (nI i) M = k14 (nI (p + 1)) M' ∧ FR (fun a j => a = 385 ∧ 64 * (6 * to + p) ≤ j ∧ j < 64 * (6 * to + p) + 64) M M' ∧ (∀ k, i ≤ k → k < 64 → zI M' 385 (64 * (6 * to + p) + k) = zI M 385 (64 * (6 * fm + p) + k)) ∧ (∀ k, k < i → zI M' 385 (64 * (6 * to + p) + k) = zI M 385 (64 * (6 * to + p) + k)) := by
  intro d
  induction d with
  | zero =>
    intro i f M hW e
    have e3 : i = 64 := by omega
    subst e3
    refine ⟨M, ?_, FR.rf _ M, fun k h1 h2 => absurd h2 (by omega), fun k _ => rfl⟩
    rw [show 0 + 1 + f = f + 1 by omega, f_X12_copies_89]
    refine ip (nI_le (a := 64) (Nat.le_refl _) (by decide)) ?_
    rw [nI_1]
  | succ d ih =>
    intro i f M hW e
    have fr : FR (fun a j => a = 385 ∧ 64 * (6 * to + p) ≤ j ∧ j < 64 * (6 * to + p) + 64) M (zsI M 385 (64 * (6 * to + p) + i) (zI M 385 (64 * (6 * fm + p) + i))) := (FR.rf _ M).sI (by omega)
    obtain ⟨M', e1, e2, e3, e4⟩ := ih (i + 1) f _ (fr.W hW) (by omega)
    refine ⟨M', ?_, fr.tr e2, fun k h1 h2 => ?_, fun k hk => (e4 k (by omega)).trans (zI_sn _ _ (by omega))⟩
    · rw [show d + 1 + 1 + f = (d + 1 + f) + 1 by omega, f_X12_copies_89]
      refine im (nI_ge (a := i) (b := 64) (by omega) (by decide)) ?_
      rw [w355_59 hW, b_i, b_i, ix_m, zl_at 8448 rfl (by omega) (by decide), b_i, ix_m, zl_at 8448 rfl (by omega) (by decide), b_i, b_i, nI_1]
      exact e1
    · by_cases h : k = i
      · subst h; rw [e4 k (by omega)]; exact zI_se _ _ _ _
      · rw [e3 k (by omega) h2]; exact zI_sn _ _ (by omega)
theorem s_cp156 {to fm K : Nat} (ht : to < 22) (hf : fm < 22) (hne : to ≠ fm) (hK : K ≤ 40) : ∀ d i f M, WRc M → zI M 386 fm = nI K → i + d = 3 * K → ∃ M', f_X12_copies_156 355 (nI to) (nI fm) (d + 1 + f) (nI i) M = some M' ∧ FR (fun a j => a = 387 ∧ 120 * to ≤ j ∧ j < 120 * to + 120) M M' ∧ (∀ k, i ≤ k → k < 3 * K → zI M' 387 (120 * to + k) = zI M 387 (120 * fm + k)) ∧ (∀ k, k < i → zI M' 387 (120 * to + k) = zI M 387 (120 * to + k)) := by
  intro d
  induction d with
  | zero =>
    intro i f M hW hk e
    have e3 : i = 3 * K := by omega
    subst e3
    refine ⟨M, ?_, FR.rf _ M, fun k h1 h2 => absurd h2 (by omega), fun k _ => rfl⟩
    rw [show 0 + 1 + f = f + 1 by omega, f_X12_copies_156, w355_60 hW, b_i, zl_at 22 rfl (by omega) (by decide), b_i, hk, show (3 : Int32) = nI 3 from rfl, pk_mul, if_pos (nI_le (Nat.le_refl _) (by omega))]
  | succ d ih =>
    intro i f M hW hk e
    have fr : FR (fun a j => a = 387 ∧ 120 * to ≤ j ∧ j < 120 * to + 120) M (zsI M 387 (120 * to + i) (zI M 387 (120 * fm + i))) := (FR.rf _ M).sI (by omega)
    obtain ⟨M', e1, e2, e3, e4⟩ := ih (i + 1) f _ (fr.W hW) ((fr.I (by omega)).trans hk) (by omega)
    refine ⟨M', ?_, fr.tr e2, fun k h1 h2 => ?_, fun k hk => (e4 k (by omega)).trans (zI_sn _ _ (by omega))⟩
    · rw [show d + 1 + 1 + f = (d + 1 + f) + 1 by omega, f_X12_copies_156, w355_60 hW, b_i, zl_at 22 rfl (by omega) (by decide), b_i, hk, show (3 : Int32) = nI 3 from rfl, pk_mul, if_neg (nI_ge (by omega) (by omega)), w355_61 hW, b_i, b_i, ix_120, zl_at 2640 rfl (by omega) (by decide), b_i, ix_120, zl_at 2640 rfl (by omega) (by decide), b_i, b_i, nI_1]
      exact e1
    · by_cases h : k = i
      · subst h; rw [e4 k (by omega)]; exact zI_se _ _ _ _
      · rw [e3 k (by omega) h2]; exact zI_sn _ _ (by omega)
/-- a layer as another was: page i -/
def Lcp (M M' : Mem) (to fm i : Nat) : Prop := zI M' 382 (6 * to + i) = zI M 382 (6 * fm + i) ∧ zI M' 383 (6 * to + i) = zI M 383 (6 * fm + i) ∧ zL M' 384 (6 * to + i) = zL M 384 (6 * fm + i) ∧ ∀ k, k < 64 → zI M' 385 (64 * (6 * to + i) + k) = zI M 385 (64 * (6 * fm + i) + k)
theorem s_cp14 {to fm K : Nat} {M0 : Mem} (ht : to < 22) (hf : fm < 22) (hne : to ≠ fm) (hK : K ≤ 40) (hk : zI M0 386 fm = nI K) : ∀ d i f M, WRc M → i + d = 6 → FR (Wla to) M0 M → (∀ k, k < i → Lcp M0 M to fm k) → ∃ M', f_X12_copies_14 355 (nI to) (nI fm) (d + 1 + f) (nI i) M = some M' ∧ FR (Wlk to) M0 M' ∧ (∀ k, k < 6 → Lcp M0 M' to fm k) ∧ zI M' 381 to = zI M 381 to ∧ zI M' 386 to = nI K ∧ (∀ k, k < 3 * K → zI M' 387 (120 * to + k) = zI M0 387 (120 * fm + k)) := by
  intro d
  induction d with
  | zero =>
    intro i f M hW e fr hL
    have e3 : i = 6 := by omega
    subst e3
    have hk2 : zI M 386 fm = nI K := (fr.I (by unfold Wla; omega)).trans hk
    have f1 : FR (Wke to) M (zsI M 386 to (nI K)) := (FR.rf _ M).sI (by unfold Wke; omega)
    obtain ⟨M', e1, e2, e3, -⟩ := s_cp156 ht hf hne hK (3 * K) 0 (1000000 - 3 * K - 1) _ (f1.W hW) ((f1.I (by unfold Wke; omega)).trans hk2) (by omega)
    rw [show 3 * K + 1 + (1000000 - 3 * K - 1) = 1000000 by omega] at e1
    have f2 : FR (Wke to) M M' := f1.tr (e2.mo (fun a j h => by unfold Wke; omega))
    refine ⟨M', ?_, (fr.mo (fun a j h => Or.inl h)).tr (f2.mo (fun a j h => Or.inr h)), fun k hk => ?_, f2.I (by unfold Wke; omega), (e2.I (by omega)).trans (zI_se _ _ _ _), fun k hk => ?_⟩
    · rw [show 0 + 1 + f = f + 1 by omega, f_X12_copies_14]
      refine ip (nI_le (a := 6) (Nat.le_refl _) (by decide)) ?_
      rw [w355_60 hW, b_i, b_i, zl_at 22 rfl hf (by decide), b_i, zl_at 22 rfl ht (by decide), b_i, b_i, hk2]
      exact e1
    · obtain ⟨a1, a2, a3, a4⟩ := hL k hk
      exact ⟨(f2.I (by unfold Wke; omega)).trans a1, (f2.I (by unfold Wke; omega)).trans a2, (f2.L (by unfold Wke; omega)).trans a3, fun j hj => (f2.I (by unfold Wke; omega)).trans (a4 j hj)⟩
    · rw [e3 k (by omega) hk, f1.I (by unfold Wke; omega), fr.I (by unfold Wla; omega)]
  | succ d ih =>
    intro i f M hW e fr hL
    have f1 : FR (fun a j => (a = 382 ∨ a = 383 ∨ a = 384) ∧ j = 6 * to + i) M (zsL (zsI (zsI M 382 (6 * to + i) (zI M 382 (6 * fm + i))) 383 (6 * to + i) (zI M 383 (6 * fm + i))) 384 (6 * to + i) (zL M 384 (6 * fm + i))) := FR.sL (FR.sI (FR.sI (FR.rf _ M) (by omega)) (by omega)) (by omega)
    obtain ⟨M1, b1, b2, b3, -⟩ := s_cp89 (k14 := f_X12_copies_14 355 (nI to) (nI fm) (d + 1 + f)) ht hf hne (by omega : i < 6) 64 0 999935 _ (f1.W hW) rfl
    have f2 : FR (fun a j => ((a = 382 ∨ a = 383 ∨ a = 384) ∧ j = 6 * to + i) ∨ (a = 385 ∧ 64 * (6 * to + i) ≤ j ∧ j < 64 * (6 * to + i) + 64)) M M1 := (f1.mo (fun a j h => Or.inl h)).tr (b2.mo (fun a j h => Or.inr h))
    have f3 : FR (Wla to) M0 M1 := fr.tr (f2.mo (fun a j h => by unfold Wla; omega))
    obtain ⟨M', e1, e2, e3, e4, e5⟩ := ih (i + 1) f M1 (f2.W hW) (by omega) f3 (fun k hk2 => by
      by_cases h : k = i
      · subst h
        refine ⟨?_, ?_, ?_, fun j hj => ?_⟩
        · rw [b2.I (by omega), zI_sL, zI_sn _ _ (by omega), zI_se, fr.I (by unfold Wla; omega)]
        · rw [b2.I (by omega), zI_sL, zI_se, fr.I (by unfold Wla; omega)]
        · rw [b2.L (by omega), zL_se, fr.L (by unfold Wla; omega)]
        · rw [b3 j (by omega) hj, f1.I (by omega), fr.I (by unfold Wla; omega)]
      · obtain ⟨a1, a2, a3, a4⟩ := hL k (by omega)
        exact ⟨(f2.I (by omega)).trans a1, (f2.I (by omega)).trans a2, (f2.L (by omega)).trans a3, fun j hj => (f2.I (by omega)).trans (a4 j hj)⟩)
    refine ⟨M', ?_, e2, e3, e4.trans (f2.I (by omega)), e5⟩
    rw [show d + 1 + 1 + f = (d + 1 + f) + 1 by omega, f_X12_copies_14]
    refine im (nI_ge (a := i) (b := 6) (by omega) (by decide)) ?_
    rw [w355_56 hW, b_i, b_i, ix_6, zl_at 132 rfl (by omega) (by decide), b_i, ix_6, zl_at 132 rfl (by omega) (by decide), b_i, b_i, zrf_sI, w355_57 hW, b_i, b_i, zl_at 132 rfl (by omega) (by decide), b_i, zl_at 132 rfl (by omega) (by decide), b_i, b_i, zrf_sI, zrf_sI, w355_58 hW, b_i, b_i, zl_at 132 rfl (by omega) (by decide), b_i, zl_at 132 rfl (by omega) (by decide), b_i, b_i, zI_sn _ _ (by omega), zL_sI, zL_sI]
    exact b1.trans e1
theorem s_copies {M : Mem} {to fm K : Nat} {x y : Int32} (hx : x = nI to) (hy : y = nI fm) (hW : WRc M) (ht : to < 22) (hf : fm < 22) (hne : to ≠ fm) (hK : K ≤ 40) (hk : zI M 386 fm = nI K) : ∃ M', f_X12_copies 355 x y M = some M' ∧ FR (Wlk to) M M' ∧ (∀ n S, n ≤ 63 → MP M fm n S → MP M' to n S) ∧ zI M' 386 to = nI K ∧ (∀ k, k < 3 * K → zI M' 387 (120 * to + k) = zI M 387 (120 * fm + k)) := by
  subst hx; subst hy
  have f1 : FR (Wla to) M (zsI M 381 to (zI M 381 fm)) := (FR.rf _ M).sI (by unfold Wla; omega)
  obtain ⟨M', e1, e2, e3, e4, e5, e6⟩ := s_cp14 (M0 := M) ht hf hne hK hk 6 0 999993 _ (f1.W hW) rfl f1 (fun k h => absurd h (by omega))
  refine ⟨M', ?_, e2, fun n S hn hP => ⟨?_, fun i hi => ⟨?_, fun e => ⟨?_, ?_, fun k hk => ?_⟩⟩⟩, e5, e6⟩
  · unfold f_X12_copies
    rw [w355_55 hW, b_i, b_i, zl_at 22 rfl hf (by decide), b_i, zl_at 22 rfl ht (by decide), b_i, b_i]
    exact e1
  · rw [e4, zI_se]; exact hP.1
  · rw [(e3 i hi).1]; exact (hP.2 i hi).1
  · rw [(e3 i hi).2.1]; exact ((hP.2 i hi).2 e).1
  · rw [(e3 i hi).2.2.1]; exact ((hP.2 i hi).2 e).2.1
  · rw [(e3 i hi).2.2.2 k (by omega)]; exact ((hP.2 i hi).2 e).2.2 k hk
