/-! calls: meet -/
theorem tape0 {M : Mem} (h1 : zI M 0 15 = 0) (h2 : zI M 355 1 = 0) : I_tape M := ⟨0, by decide, h1, h2, fun k hk => absurd hk (by omega)⟩
/-- the tape is taken, and the call is refused -/
theorem RST.rtX {W : Nat → Nat → Prop} {M M4 : Mem} (g : RST M) {k : Nat} (hk : k < 6) (f : FR W M M4) (hw : ∀ a j, Wre2 a j → ¬ (a = 0 ∧ j = 15) → ¬ (a = 355 ∧ j = 1) → ¬ a = 2 → ¬ a = 371 → ¬ W a j) (h0 : zI M4 0 15 = 0) (h1 : zI M4 355 1 = 0) (h2 : ∀ i, zI M4 2 i = zup (zI M 2) k (zI M 2 k + 1) i) (h371 : ∀ i, zI M4 371 i = zup (zI M 371) k (zI M 371 k + 1) i) : RST M4 := by
  have f3 : FR (fun a j => (a = 0 ∧ j = 15) ∨ (a = 355 ∧ j = 1)) M (zsL (zsL (zsI (zsI M 0 15 0) 355 1 0) 0 15 (zL M4 0 15)) 355 1 (zL M4 355 1)) := FR.sL (FR.sL (FR.sI (FR.sI (FR.rf _ M) (by omega)) (by omega)) (by omega)) (by omega)
  have e0 : zI (zsL (zsL (zsI (zsI M 0 15 0) 355 1 0) 0 15 (zL M4 0 15)) 355 1 (zL M4 355 1)) 0 15 = 0 := by
    show zI (zsI (zsI M 0 15 0) 355 1 0) 0 15 = 0
    rw [zI_sn _ _ (by omega), zI_se]
  have e1 : zI (zsL (zsL (zsI (zsI M 0 15 0) 355 1 0) 0 15 (zL M4 0 15)) 355 1 (zL M4 355 1)) 355 1 = 0 := by
    show zI (zsI (zsI M 0 15 0) 355 1 0) 355 1 = 0
    exact zI_se _ _ _ _
  have l0 : zL (zsL (zsL (zsI (zsI M 0 15 0) 355 1 0) 0 15 (zL M4 0 15)) 355 1 (zL M4 355 1)) 0 15 = zL M4 0 15 := by rw [zL_sn _ _ (by omega), zL_se]
  have l1 : zL (zsL (zsL (zsI (zsI M 0 15 0) 355 1 0) 0 15 (zL M4 0 15)) 355 1 (zL M4 355 1)) 355 1 = zL M4 355 1 := zL_se _ _ _ _
  revert f3 e0 e1 l0 l1
  generalize zsL (zsL (zsI (zsI M 0 15 0) 355 1 0) 0 15 (zL M4 0 15)) 355 1 (zL M4 355 1) = M'
  intro f3 e0 e1 l0 l1
  have g' : RST M' := g.tpX f3 (fun a j p n1 n2 n3 n4 q => q.elim n1 n3) (tape0 e0 e1)
  have e2 : zI M' 2 = zI M 2 := funext (fun i => f3.I (by omega))
  have e3 : zI M' 371 = zI M 371 := funext (fun i => f3.I (by omega))
  refine g'.refX (W := fun a j => W a j ∧ ¬ ((a = 0 ∧ j = 15) ∨ (a = 355 ∧ j = 1))) hk ⟨f.1.trans f3.1.symm, fun a j q => ?_, fun a j q => ?_⟩ (fun a j p n1 n2 q => hw a j p (fun x => q.2 (Or.inl x)) (fun x => q.2 (Or.inr x)) n1 n2 q.1) (fun i => by rw [e2]; exact h2 i) (fun i => by rw [e3]; exact h371 i)
  · by_cases c : (a = 0 ∧ j = 15) ∨ (a = 355 ∧ j = 1)
    · rcases c with ⟨c1, c2⟩ | ⟨c1, c2⟩
      · subst c1; subst c2; rw [h0, e0]
      · subst c1; subst c2; rw [h1, e1]
    · exact (f.I (fun x => q ⟨x, c⟩)).trans (f3.I c).symm
  · by_cases c : (a = 0 ∧ j = 15) ∨ (a = 355 ∧ j = 1)
    · rcases c with ⟨c1, c2⟩ | ⟨c1, c2⟩
      · subst c1; subst c2; rw [l0]
      · subst c1; subst c2; rw [l1]
    · exact (f.L (fun x => q ⟨x, c⟩)).trans (f3.L c).symm
def okN (b : Nat → Nat) (k : Nat) : Nat → Bool
  | 0 => true
  | e + 1 => decide (b (2 * k) ≤ 100 ∧ b (2 * k + 1) ≤ 63) && okN b (k + 1) e
theorem okN_at {b : Nat → Nat} : ∀ e k i, okN b k e = true → k ≤ i → i < k + e → b (2 * i) ≤ 100 ∧ b (2 * i + 1) ≤ 63 := by
  intro e
  induction e with
  | zero => intro k i _ h1 h2; omega
  | succ e ih =>
    intro k i h h1 h2
    have h' : (decide (b (2 * k) ≤ 100 ∧ b (2 * k + 1) ≤ 63) && okN b (k + 1) e) = true := h
    rw [Bool.and_eq_true] at h'
    by_cases q : i = k
    · rw [q]; exact of_decide_eq_true h'.1
    · exact ih (k + 1) i h'.2 (by omega) (by omega)
theorem s_mtake {M : Mem} {t : Nat} {b : Nat → Nat} (hb : ∀ k, k < t → zI M 1 k = nI (b k) ∧ b k < 256) (ht : t ≤ 32) : ∀ e k f, 2 * (k + e) = t → f_X9_takes_27 327 1 (nI t) (e + 1 + f) (nI (2 * k)) M = if okN b k e = true then f_X9_takes_67 327 1 (nI t) 1000000 0 (zsI M 327 5 (nI (t / 2))) else some (0, M) := by
  intro e
  induction e with
  | zero =>
    intro k f ek
    rw [show 0 + 1 + f = f + 1 by omega, f_X9_takes_27, if_pos (nI_le (by omega) (by omega)), b_i, show (2 : Int32) = nI 2 from rfl, pk_div (by omega) (by decide) (by decide)]; exact (if_pos rfl).symm
  | succ e ih =>
    intro k f ek
    obtain ⟨h1, h2⟩ := hb (2 * k) (by omega)
    obtain ⟨h3, h4⟩ := hb (2 * k + 1) (by omega)
    rw [show e + 1 + 1 + f = (e + 1 + f) + 1 by omega, f_X9_takes_27, if_neg (nI_ge (by omega) (by omega)), zl_at 1600 rfl (by omega) (by decide), b_i, h1, nI_1, zl_at 1600 rfl (by omega) (by decide), b_i, h3]
    unfold f_X9_takes_50
    show _ = if (decide (b (2 * k) ≤ 100 ∧ b (2 * k + 1) ≤ 63) && okN b (k + 1) e) = true then _ else _
    by_cases q1 : b (2 * k) ≤ 100
    · refine im (show ¬ (100 : Int32) < nI (b (2 * k)) from nI_nlt (a := 100) q1 (by decide)) ?_
      by_cases q2 : b (2 * k + 1) ≤ 63
      · refine ip (show nI (b (2 * k + 1)) ≤ (63 : Int32) from nI_le (b := 63) q2 (by decide)) ?_
        rw [decide_eq_true (⟨q1, q2⟩ : b (2 * k) ≤ 100 ∧ b (2 * k + 1) ≤ 63), Bool.true_and, show (2 : Int32) = nI 2 from rfl, nI_add]
        exact ih (k + 1) f (by omega)
      · rw [decide_eq_false (fun x => q2 x.2 : ¬ (b (2 * k) ≤ 100 ∧ b (2 * k + 1) ≤ 63)), Bool.false_and]
        exact im (fun x => q2 ((nI_leI (b := 63) (by omega) (by decide)).mp x)) (if_neg (by decide)).symm
    · rw [decide_eq_false (fun x => q1 x.1 : ¬ (b (2 * k) ≤ 100 ∧ b (2 * k + 1) ≤ 63)), Bool.false_and]
      exact ip (show (100 : Int32) < nI (b (2 * k)) from nI_lt (a := 100) (by omega) (by omega)) (if_neg (by decide)).symm
theorem s_mmeet {M : Mem} {t : Nat} {b : Nat → Nat} (hW : WRc M) (hb : ∀ k, k < t → zI M 356 k = nI (b k) ∧ b k < 256) (ht : t ≤ 32) : ∀ e k f, 2 * (k + e) = t → f_X12_meet_41 355 (e + 1 + f) (nI t) 1 (nI (2 * k)) M = f_X12_meet_86 355 (nI t) (b01 (okN b k e)) M := by
  intro e
  induction e with
  | zero =>
    intro k f ek
    rw [show 0 + 1 + f = f + 1 by omega, f_X12_meet_41, if_pos (nI_le (by omega) (by omega))]; rfl
  | succ e ih =>
    intro k f ek
    obtain ⟨h1, h2⟩ := hb (2 * k) (by omega)
    obtain ⟨h3, h4⟩ := hb (2 * k + 1) (by omega)
    have no : ∀ x, f_X12_meet_41 355 (e + 1 + f) (nI t) 0 x M = f_X12_meet_86 355 (nI t) 0 M := fun x => by
      rw [show e + 1 + f = (e + f) + 1 by omega, f_X12_meet_41]
      by_cases q : nI t ≤ x
      · rw [if_pos q]
      · rw [if_neg q, if_pos rfl]
    rw [show e + 1 + 1 + f = (e + 1 + f) + 1 by omega, f_X12_meet_41, if_neg (nI_ge (by omega) (by omega)), if_neg (by decide), w355_0 hW, b_i, zl_at 1800 rfl (by omega) (by decide), b_i, h1, nI_1, b_i, zl_at 1800 rfl (by omega) (by decide), b_i, h3]
    unfold f_X12_meet_78 f_X12_meet_79
    show _ = f_X12_meet_86 355 (nI t) (b01 (decide (b (2 * k) ≤ 100 ∧ b (2 * k + 1) ≤ 63) && okN b (k + 1) e)) M
    by_cases q1 : b (2 * k) ≤ 100
    · refine im (show ¬ (100 : Int32) < nI (b (2 * k)) from nI_nlt (a := 100) q1 (by decide)) ?_
      by_cases q2 : b (2 * k + 1) ≤ 63
      · refine im (show ¬ (64 : Int32) ≤ nI (b (2 * k + 1)) from nI_ge (b := 64) (by omega) (by decide)) ?_
        rw [decide_eq_true (⟨q1, q2⟩ : b (2 * k) ≤ 100 ∧ b (2 * k + 1) ≤ 63), Bool.true_and, show (2 : Int32) = nI 2 from rfl, nI_add]
        exact ih (k + 1) f (by omega)
      · rw [decide_eq_false (fun x => q2 x.2 : ¬ (b (2 * k) ≤ 100 ∧ b (2 * k + 1) ≤ 63)), Bool.false_and]
        exact ip (show (64 : Int32) ≤ nI (b (2 * k + 1)) from nI_le (a := 64) (by omega) (by omega)) (no _)
    · rw [decide_eq_false (fun x => q1 x.1 : ¬ (b (2 * k) ≤ 100 ∧ b (2 * k + 1) ≤ 63)), Bool.false_and]
      exact ip (show (100 : Int32) < nI (b (2 * k)) from nI_lt (a := 100) (by omega) (by omega)) (no _)
theorem s_mcopy {M : Mem} {t : Nat} {b : Nat → Nat} (hW : WRc M) (hb : ∀ k, k < 2 * t → zI M 1 k = nI (b k)) (ht : t ≤ 16) (h5 : zI M 327 5 = nI t) (x : Int32) : ∃ M', f_X9_takes_67 327 1 x 1000000 0 M = some (1, M') ∧ FR (fun a _ => a = 328 ∨ a = 329) M M' ∧ ∀ i, i < t → zI M' 328 i = nI (b (2 * i)) ∧ zI M' 329 i = nI (b (2 * i + 1)) := by
  have lp : ∀ e k f M0, k + e = t → FR (fun a _ => a = 328 ∨ a = 329) M M0 → (∀ i, i < k → zI M0 328 i = nI (b (2 * i)) ∧ zI M0 329 i = nI (b (2 * i + 1))) → ∃ M', f_X9_takes_67 327 1 x (e + 1 + f) (nI k) M0 = some (1, M') ∧ FR (fun a _ => a = 328 ∨ a = 329) M M' ∧ ∀ i, i < t → zI M' 328 i = nI (b (2 * i)) ∧ zI M' 329 i = nI (b (2 * i + 1)) := by
    intro e
    induction e with
    | zero =>
      intro k f M0 ek fr h0
      have : k = t := by omega
      subst this
      exact ⟨M0, by rw [show 0 + 1 + f = f + 1 by omega, f_X9_takes_67, fr.I (by omega), h5, if_pos (nI_le (Nat.le_refl _) (by omega))], fr, h0⟩
    | succ e ih =>
      intro k f M0 ek fr h0
      have f1 : FR (fun a _ => a = 328 ∨ a = 329) M (zsI M0 328 k (nI (b (2 * k)))) := fr.sI (by omega)
      have v1 : ∀ i, zI (zsI M0 328 k (nI (b (2 * k)))) 328 i = if i = k then nI (b (2 * k)) else zI M0 328 i := fun i => by
        rw [zI_s]; by_cases q : i = k
        · rw [if_pos ⟨rfl, q⟩, if_pos q]
        · rw [if_neg (fun x => q x.2), if_neg q]
      have v2 : ∀ i, zI (zsI M0 328 k (nI (b (2 * k)))) 329 i = zI M0 329 i := fun i => zI_sn _ _ (by omega)
      have e1 : zI M0 1 (2 * k) = nI (b (2 * k)) := (fr.I (by omega)).trans (hb _ (by omega))
      have st : f_X9_takes_67 327 1 x (e + 1 + 1 + f) (nI k) M0 = f_X9_takes_67 327 1 x (e + 1 + f) (nI (k + 1)) (zsI (zsI M0 328 k (nI (b (2 * k)))) 329 k (nI (b (2 * k + 1)))) := by
        have hW0 := fr.W hW
        have hW1 := f1.W hW
        rw [show e + 1 + 1 + f = (e + 1 + f) + 1 by omega, f_X9_takes_67, fr.I (by omega), h5, if_neg (nI_ge (by omega) (by omega)), w327_0 hW0, b_i, show (2 : Int32) = nI 2 from rfl, pk_mul, zl_at 1600 rfl (by omega) (by decide), b_i, zl_at 16 rfl (by omega) (by decide), b_i, b_i, e1, w327_1 hW1, b_i, nI_1, zl_at 1600 rfl (by omega) (by decide), b_i, zl_at 16 rfl (by omega) (by decide), b_i, b_i, f1.I (by omega), hb _ (by omega), nI_1]
      rw [st]
      refine ih (k + 1) f _ (by omega) (f1.sI (by omega)) (fun i hi => ?_)
      rw [zI_sn _ _ (by omega), v1, zI_s]
      by_cases q : i = k
      · rw [if_pos q, if_pos ⟨rfl, q⟩, q]; exact ⟨rfl, rfl⟩
      · rw [if_neg q, if_neg (fun x => q x.2), v2]; exact h0 i (by omega)
  have := lp t 0 (1000000 - t - 1) M (by omega) (FR.rf _ M) (fun i hi => absurd hi (by omega))
  rw [show t + 1 + (1000000 - t - 1) = 1000000 by omega] at this
  exact this
theorem s_mcopyM {M : Mem} {t : Nat} {b : Nat → Nat} (hW : WRc M) (hb : ∀ k, k < 2 * t → zI M 356 k = nI (b k)) (ht : t ≤ 16) (h5 : zI M 355 69 = nI t) : ∃ M', f_X12_meet_105 355 1000000 0 M = some (nI t, M') ∧ FR (fun a _ => a = 390 ∨ a = 391) M M' ∧ ∀ i, i < t → zI M' 390 i = nI (b (2 * i)) ∧ zI M' 391 i = nI (b (2 * i + 1)) := by
  have lp : ∀ e k f M0, k + e = t → FR (fun a _ => a = 390 ∨ a = 391) M M0 → (∀ i, i < k → zI M0 390 i = nI (b (2 * i)) ∧ zI M0 391 i = nI (b (2 * i + 1))) → ∃ M', f_X12_meet_105 355 (e + 1 + f) (nI k) M0 = some (nI t, M') ∧ FR (fun a _ => a = 390 ∨ a = 391) M M' ∧ ∀ i, i < t → zI M' 390 i = nI (b (2 * i)) ∧ zI M' 391 i = nI (b (2 * i + 1)) := by
    intro e
    induction e with
    | zero =>
      intro k f M0 ek fr h0
      have : k = t := by omega
      subst this
      exact ⟨M0, by rw [show 0 + 1 + f = f + 1 by omega, f_X12_meet_105, fr.I (by omega), h5, if_pos (nI_le (Nat.le_refl _) (by omega))], fr, h0⟩
    | succ e ih =>
      intro k f M0 ek fr h0
      have f1 : FR (fun a _ => a = 390 ∨ a = 391) M (zsI M0 390 k (nI (b (2 * k)))) := fr.sI (by omega)
      have v1 : ∀ i, zI (zsI M0 390 k (nI (b (2 * k)))) 390 i = if i = k then nI (b (2 * k)) else zI M0 390 i := fun i => by
        rw [zI_s]; by_cases q : i = k
        · rw [if_pos ⟨rfl, q⟩, if_pos q]
        · rw [if_neg (fun x => q x.2), if_neg q]
      have v2 : ∀ i, zI (zsI M0 390 k (nI (b (2 * k)))) 391 i = zI M0 391 i := fun i => zI_sn _ _ (by omega)
      have e1 : zI M0 356 (2 * k) = nI (b (2 * k)) := (fr.I (by omega)).trans (hb _ (by omega))
      have st : f_X12_meet_105 355 (e + 1 + 1 + f) (nI k) M0 = f_X12_meet_105 355 (e + 1 + f) (nI (k + 1)) (zsI (zsI M0 390 k (nI (b (2 * k)))) 391 k (nI (b (2 * k + 1)))) := by
        have hW0 := fr.W hW
        have hW1 := f1.W hW
        rw [show e + 1 + 1 + f = (e + 1 + f) + 1 by omega, f_X12_meet_105, fr.I (by omega), h5, if_neg (nI_ge (by omega) (by omega)), w355_70 hW0, b_i, w355_0 hW0, b_i, show (2 : Int32) = nI 2 from rfl, pk_mul, zl_at 1800 rfl (by omega) (by decide), b_i, zl_at 16 rfl (by omega) (by decide), b_i, b_i, e1, w355_71 hW1, b_i, w355_0 hW1, b_i, nI_1, zl_at 1800 rfl (by omega) (by decide), b_i, zl_at 16 rfl (by omega) (by decide), b_i, b_i, f1.I (by omega), hb _ (by omega), nI_1]
      rw [st]
      refine ih (k + 1) f _ (by omega) (f1.sI (by omega)) (fun i hi => ?_)
      rw [zI_sn _ _ (by omega), v1, zI_s]
      by_cases q : i = k
      · rw [if_pos q, if_pos ⟨rfl, q⟩, q]; exact ⟨rfl, rfl⟩
      · rw [if_neg q, if_neg (fun x => q x.2), v2]; exact h0 i (by omega)
  have := lp t 0 (1000000 - t - 1) M (by omega) (FR.rf _ M) (fun i hi => absurd hi (by omega))
  rw [show t + 1 + (1000000 - t - 1) = 1000000 by omega] at this
  exact this
theorem LD.mt {W : Nat → Nat → Prop} {M M1 : Mem} {c0 : Nat} {h : CH} {S : PSt} {T c : Nat} {E : Nat → Nat → Nat} {sv : Nat → PSt × Nat} (v : CV h) (l : LD M c0 h S T E c sv) (f : FR W M M1) (hw : ∀ a j, W a j → (a = 0 ∧ j = 15) ∨ (a = 355 ∧ (j = 1 ∨ j = 69)) ∨ (327 ≤ a ∧ a ≤ 332) ∨ (390 ≤ a ∧ a ≤ 393)) : LD M1 c0 h S T E c sv := by
  obtain ⟨a1, a2, a3, a4, a5, a6, a7⟩ := l.c
  have hz : c0 = 335 ∨ c0 = 344 := a2.z
  have hv : ∀ a j, ¬ ((a = 0 ∧ j = 15) ∨ (a = 355 ∧ (j = 1 ∨ j = 69)) ∨ (327 ≤ a ∧ a ≤ 332) ∨ (390 ≤ a ∧ a ≤ 393)) → ¬ W a j := fun a j q w => q (hw a j w)
  obtain ⟨b1, b2, b3, b4⟩ := l.m
  exact LD.mk' ⟨(f.R _ _).trans a1, a2.fr f (fun a j p => hv a j (by unfold Wch at p; omega)), (f.I (hv _ _ (by omega))).trans a3, a4.fr f (fun a j _ _ => hv _ _ (by omega)), a5.fr f (fun a j _ _ => hv _ _ (by omega)), a6.fr f (fun a j p => hv _ _ (by omega)), a7.fr f (hv _ _ (by omega)) (fun _ => hv _ _ (by omega)) (fun _ => hv _ _ (by omega))⟩ ⟨b1.fr f (fun a j p => hv _ _ (by unfold Wmc at p; omega)), (f.I (hv _ _ (by omega))).trans b2, b3.fr v.n63.1 f (fun a j p => hv _ _ (by unfold Wla at p; omega)), b4.fr v.n63.1 f (fun a j p => hv _ _ (by unfold Wpa at p; omega))⟩
theorem RST.mtX {W : Nat → Nat → Prop} {M M4 : Mem} (g : RST M) (f : FR W M M4) (hw : ∀ a j, W a j → (a = 0 ∧ j = 15) ∨ (a = 355 ∧ (j = 1 ∨ j = 69)) ∨ (a = 327 ∧ j = 5) ∨ a = 328 ∨ a = 329 ∨ a = 390 ∨ a = 391) (ht : I_tape M4) (hm : I_met M4) : RST M4 := by
  obtain ⟨⟨c, s, p, r1, r2, r3, r4, r5⟩, -, g3, ⟨sd, s1, s2, s3⟩, g5, ⟨z, z1, z2, z3, z4⟩, -, g8⟩ := g
  have hn : ∀ a j, ¬ ((a = 0 ∧ j = 15) ∨ (a = 355 ∧ (j = 1 ∨ j = 69)) ∨ (a = 327 ∧ j = 5) ∨ a = 328 ∨ a = 329 ∨ a = 390 ∨ a = 391) → ¬ W a j := fun a j q w => q (hw a j w)
  have hI : ∀ a j, ¬ ((a = 0 ∧ j = 15) ∨ (a = 355 ∧ (j = 1 ∨ j = 69)) ∨ (a = 327 ∧ j = 5) ∨ a = 328 ∨ a = 329 ∨ a = 390 ∨ a = 391) → zI M4 a j = zI M a j := fun a j q => f.I (hn a j q)
  refine ⟨⟨c, s, p, f.W r1, by rw [f.1]; exact r2, by rw [f.1]; exact r3, by rw [f.1]; exact r4, r5⟩, ht, fun i hi => ?_, ⟨sd, s1, (hI _ _ (by omega)).trans s2, (f.L (hn _ _ (by omega))).trans s3⟩, ?_, ⟨z, z1, (hI _ _ (by omega)).trans z2, (hI _ _ (by omega)).trans z3, fun k hk => ?_⟩, hm, fun i hi => (hI _ _ (by omega)).trans (g8 i hi)⟩
  · rw [hI 2 i (by omega), hI 371 i (by omega)]; exact g3 i hi
  · refine ⟨?_, fun i hi => (hI 354 i (by omega)).trans (g5.2 i hi)⟩
    unfold I_fault0
    rw [hI 353 4 (by omega), hI 353 5 (by omega), hI 355 10 (by omega), hI 355 11 (by omega)]; exact g5.1
  · rw [hI 334 k (by omega), hI 394 k (by omega)]; exact z4 k hk
/-- the tape is taken, and both refuse -/
theorem refT {M : Mem} {s k : Nat} (g : Inv M s) (hk : k < 6) : ∃ M2 M4, f_X11_refuse 0 (nI k) (zsI M 0 15 0) = some (-1, M2) ∧ f_X12_refuses 355 (nI k) (zsI M2 355 1 0) = some (-1, M4) ∧ Inv M4 s ∧ FR (fun a j => (a = 0 ∧ j = 15) ∨ a = 2) M M2 ∧ ∀ i, zI M2 2 i = zup (zI M 2) k (zI M 2 k + 1) i := by
  have hW := g.rst.W
  have f0 : FR (fun a j => (a = 0 ∧ j = 15) ∨ a = 2) M (zsI M 0 15 0) := FR.sI (FR.rf _ M) (by omega)
  have e0 : zI (zsI M 0 15 0) 0 15 = 0 := zI_se _ _ _ _
  have e2 : zI (zsI M 0 15 0) 2 = zI M 2 := funext (fun i => zI_sn _ _ (by omega))
  revert f0 e0 e2
  generalize zsI M 0 15 0 = M1
  intro f0 e0 e2
  have q1 := s_refuse (x := nI k) (f0.W hW) k rfl hk
  rw [e2] at q1
  have f1 : FR (fun a j => (a = 0 ∧ j = 15) ∨ a = 2) M (zwI M1 2 (zup (zI M 2) k (zI M 2 k + 1))) := f0.wI (fun _ => Or.inr rfl)
  have v1 : zI (zwI M1 2 (zup (zI M 2) k (zI M 2 k + 1))) 2 = zup (zI M 2) k (zI M 2 k + 1) := by rw [zI_wI, if_pos rfl]
  have v0 : zI (zwI M1 2 (zup (zI M 2) k (zI M 2 k + 1))) 0 15 = 0 := e0
  revert q1 f1 v1 v0
  generalize zwI M1 2 (zup (zI M 2) k (zI M 2 k + 1)) = M2
  intro q1 f1 v1 v0
  have f2 : FR (fun a j => (a = 0 ∧ j = 15) ∨ a = 2 ∨ (a = 355 ∧ j = 1)) M (zsI M2 355 1 0) := (f1.mo (fun _ _ q => by omega)).sI (by omega)
  have u0 : zI (zsI M2 355 1 0) 0 15 = 0 := (zI_sn _ _ (by omega)).trans v0
  have u1 : zI (zsI M2 355 1 0) 355 1 = 0 := zI_se _ _ _ _
  have u2 : zI (zsI M2 355 1 0) 2 = zup (zI M 2) k (zI M 2 k + 1) := (funext (fun i => zI_sn _ _ (by omega))).trans v1
  have u3 : zI (zsI M2 355 1 0) 371 = zI M 371 := funext (fun i => f2.I (by omega))
  refine ⟨M2, zwI (zsI M2 355 1 0) 371 (zup (zI M 371) k (zI M 371 k + 1)), q1, ?_, ?_, f1, fun i => by rw [v1]⟩
  · have := s_refuses (x := nI k) (f2.W hW) k rfl hk
    rw [u3] at this
    exact this
  · have f3 : FR (fun a j => (a = 0 ∧ j = 15) ∨ a = 2 ∨ (a = 355 ∧ j = 1) ∨ a = 371) M (zwI (zsI M2 355 1 0) 371 (zup (zI M 371) k (zI M 371 k + 1))) := (f2.mo (fun _ _ q => by omega)).wI (fun _ => by omega)
    have w0 : zI (zwI (zsI M2 355 1 0) 371 (zup (zI M 371) k (zI M 371 k + 1))) 0 15 = 0 := u0
    have w1 : zI (zwI (zsI M2 355 1 0) 371 (zup (zI M 371) k (zI M 371 k + 1))) 355 1 = 0 := u1
    have w2 : zI (zwI (zsI M2 355 1 0) 371 (zup (zI M 371) k (zI M 371 k + 1))) 2 = zup (zI M 2) k (zI M 2 k + 1) := u2
    have w3 : zI (zwI (zsI M2 355 1 0) 371 (zup (zI M 371) k (zI M 371 k + 1))) 371 = zup (zI M 371) k (zI M 371 k + 1) := by rw [zI_wI, if_pos rfl]
    revert f3 w0 w1 w2 w3
    generalize zwI (zsI M2 355 1 0) 371 (zup (zI M 371) k (zI M 371 k + 1)) = M4
    intro f3 w0 w1 w2 w3
    exact Inv.mk' (g.rst.rtX hk f3 (fun a j p n1 n2 n3 n4 q => by omega) w0 w1 (fun i => by rw [w2]) (fun i => by rw [w3])) (st_sm g.st (f3.mo (fun a j q => by unfold Wsm; omega)))
theorem I_tape.b {M : Mem} (g : I_tape M) : ∃ t, ∃ b : Nat → Nat, t ≤ 1600 ∧ zI M 0 15 = nI t ∧ zI M 355 1 = nI t ∧ ∀ k, k < t → zI M 1 k = nI (b k) ∧ zI M 356 k = nI (b k) ∧ b k < 256 := by
  obtain ⟨t, t1, t2, t3, t4⟩ := g
  refine ⟨t, fun k => (zI M 1 k).toInt.toNat, t1, t2, t3, fun k hk => ?_⟩
  obtain ⟨e1, b, hb, e2⟩ := t4 k hk
  have : (zI M 1 k).toInt.toNat = b := by rw [e2, nI_toInt (by omega)]; rfl
  show zI M 1 k = nI ((zI M 1 k).toInt.toNat) ∧ zI M 356 k = nI ((zI M 1 k).toInt.toNat) ∧ (zI M 1 k).toInt.toNat < 256
  rw [this]
  exact ⟨e2, by rw [← e1, e2], hb⟩
def mtk (t : Nat) (b : Nat → Nat) : Bool := decide (2 ≤ t) && decide (t ≤ 32) && decide (t % 2 = 0) && okN b 0 (t / 2)
theorem c_takes {M : Mem} {t : Nat} {b : Nat → Nat} (hW : WRc M) (hb : ∀ k, k < t → zI M 1 k = nI (b k) ∧ b k < 256) (ht : t ≤ 1600) : (mtk t b = true ∧ 2 ≤ t ∧ t ≤ 32 ∧ t % 2 = 0 ∧ ∃ M', f_X9_takes 327 1 (nI t) M = some (1, M') ∧ FR (fun a j => (a = 327 ∧ j = 5) ∨ a = 328 ∨ a = 329) M M' ∧ zI M' 327 5 = nI (t / 2) ∧ ∀ i, i < t / 2 → b (2 * i) ≤ 100 ∧ b (2 * i + 1) ≤ 63 ∧ zI M' 328 i = nI (b (2 * i)) ∧ zI M' 329 i = nI (b (2 * i + 1))) ∨ (mtk t b = false ∧ f_X9_takes 327 1 (nI t) M = some (0, M)) := by
  unfold mtk f_X9_takes f_X9_takes_23
  by_cases h1 : 2 ≤ t
  · rw [decide_eq_true h1, if_neg (show ¬ nI t < (2 : Int32) from nI_nlt (b := 2) h1 (by omega))]
    by_cases h2 : t ≤ 32
    · rw [decide_eq_true h2, if_neg (show ¬ (32 : Int32) < nI t from nI_nlt (a := 32) h2 (by decide)), show (2 : Int32) = nI 2 from rfl, zrem_nI (by omega) (by decide) (by decide)]
      by_cases h3 : t % 2 = 0
      · rw [decide_eq_true h3, h3, if_pos nI_0, zlen_e (n := 1600) rfl, if_pos (nI_le ht (by decide))]
        have lp := s_mtake hb h2 (t / 2) 0 (1000000 - t / 2 - 1) (by omega)
        rw [show t / 2 + 1 + (1000000 - t / 2 - 1) = 1000000 by omega] at lp
        rw [show (0 : Int32) = nI (2 * 0) from rfl, lp]
        cases ho : okN b 0 (t / 2) with
        | false => exact Or.inr ⟨rfl, if_neg (by decide)⟩
        | true =>
          have f1 : FR (fun a j => (a = 327 ∧ j = 5) ∨ a = 328 ∨ a = 329) M (zsI M 327 5 (nI (t / 2))) := (FR.rf _ M).sI (by omega)
          obtain ⟨M', a1, a2, a3⟩ := s_mcopy (b := b) (t := t / 2) (M := zsI M 327 5 (nI (t / 2))) (f1.W hW) (fun k hk => (f1.I (by omega)).trans (hb k (by omega)).1) (by omega) (zI_se _ _ _ _) (nI t)
          refine Or.inl ⟨rfl, h1, h2, rfl, M', ip rfl a1, f1.tr (a2.mo (fun a j q => by omega)), (a2.I (by omega)).trans (zI_se _ _ _ _), fun i hi => ?_⟩
          obtain ⟨p1, p2⟩ := okN_at _ _ i ho (by omega) (by omega)
          exact ⟨p1, p2, a3 i hi⟩
      · rw [decide_eq_false h3]
        exact Or.inr ⟨rfl, im (nI_ne0 (by omega) (by omega)) rfl⟩
    · rw [decide_eq_false h2]
      exact Or.inr ⟨rfl, ip (show (32 : Int32) < nI t from nI_lt (a := 32) (by omega) (by omega)) rfl⟩
  · rw [decide_eq_false h1]
    exact Or.inr ⟨rfl, ip (show nI t < (2 : Int32) from nI_lt (b := 2) (by omega) (by decide)) rfl⟩
theorem m_meet {M : Mem} {t : Nat} {b : Nat → Nat} (hW : WRc M) (hb : ∀ k, k < t → zI M 356 k = nI (b k) ∧ b k < 256) (ht : t ≤ 1600) (h1 : zI M 355 1 = nI t) (h35 : zI M 355 35 = 1) : f_X12_meet 355 M = f_X12_meet_86 355 (nI t) (b01 (mtk t b)) (zsI M 355 1 0) := by
  have f1 : FR (fun a j => a = 355 ∧ j = 1) M (zsI M 355 1 0) := (FR.rf _ M).sI (by omega)
  have no : f_X12_meet_41 355 1000000 (nI t) 0 0 (zsI M 355 1 0) = f_X12_meet_86 355 (nI t) 0 (zsI M 355 1 0) := by
    rw [show 1000000 = 999999 + 1 by rfl, f_X12_meet_41]
    by_cases q : nI t ≤ 0
    · rw [if_pos q]
    · rw [if_neg q, if_pos rfl]
  unfold f_X12_meet f_X12_meet_37 f_X12_meet_38 mtk
  rw [b_i, f1.I (by omega), h35, if_neg (by decide), h1]
  revert f1 no
  generalize zsI M 355 1 0 = M1
  intro f1 no
  by_cases h0 : t = 0
  · subst h0; exact ip (by decide) no
  · refine im (nI_nle (by omega) (by omega)) ?_
    rw [show (2 : Int32) = nI 2 from rfl, zrem_nI (by omega) (by decide) (by decide)]
    by_cases h3 : t % 2 = 0
    · rw [decide_eq_true h3, h3, if_pos nI_0, decide_eq_true (by omega : 2 ≤ t)]
      by_cases h2 : t ≤ 32
      · rw [decide_eq_true h2, if_neg (show ¬ (32 : Int32) < nI t from nI_nlt (a := 32) h2 (by decide))]
        have lp := s_mmeet (f1.W hW) (fun k hk => ⟨(f1.I (by omega)).trans (hb k hk).1, (hb k hk).2⟩) h2 (t / 2) 0 (1000000 - t / 2 - 1) (by omega)
        rw [show t / 2 + 1 + (1000000 - t / 2 - 1) = 1000000 by omega] at lp
        exact lp
      · rw [decide_eq_false h2]
        exact ip (show (32 : Int32) < nI t from nI_lt (a := 32) (by omega) (by omega)) no
    · rw [decide_eq_false h3, Bool.and_false, Bool.false_and]
      exact im (nI_ne0 (by omega) (by omega)) no
theorem op_meet : OPb (f_X11_meet 0) (f_X12_meet 355) := by
  intro M s hs g
  have hW := g.rst.W
  obtain ⟨t, b, t1, t2, t3, t4⟩ := I_tape.b g.rst.2.1
  obtain ⟨R2, R4, r1, r2, r3, r4, -⟩ := refT g (k := 5) (by decide)
  have f0 : FR (fun a j => a = 0 ∧ j = 15) M (zsI M 0 15 0) := (FR.rf _ M).sI (by omega)
  have u0 : zI (zsI M 0 15 0) 0 15 = 0 := zI_se _ _ _ _
  rcases g.st with ⟨c0, h, S, T, E, c, sv, l, lv, hT⟩ | o
  · have mm := m_meet (t := t) (b := b) (M := R2) (r4.W hW) (fun k hk => ⟨(r4.I (by omega)).trans (t4 k hk).2.1, (t4 k hk).2.2⟩) t1 ((r4.I (by omega)).trans t3) ((r4.I (by omega)).trans l.on.2)
    unfold f_X11_meet f_X11_meet_27 f_X11_takeTape
    rw [b_i, t2, b_i]
    dsimp only
    rw [show (5 : Int32) = nI 5 from rfl, f0.I (by omega), l.on.1, w0_9 (f0.W hW), b_i, w0_0 (f0.W hW), b_i]
    rcases c_takes (t := t) (b := b) (f0.W hW) (fun k hk => ⟨(f0.I (by omega)).trans (t4 k hk).1, (t4 k hk).2.2⟩) t1 with ⟨k1, k2, k3, k4, M1, k5, k6, k7, k8⟩ | ⟨k1, k2⟩
    · have f1 : FR (fun a j => (a = 0 ∧ j = 15) ∨ (a = 327 ∧ j = 5) ∨ a = 328 ∨ a = 329) M M1 := (f0.mo (fun a j q => by omega)).tr (k6.mo (fun a j q => by omega))
      have mm := m_meet (t := t) (b := b) (M := M1) (f1.W hW) (fun k hk => ⟨(f1.I (by omega)).trans (t4 k hk).2.1, (t4 k hk).2.2⟩) t1 ((f1.I (by omega)).trans t3) ((f1.I (by omega)).trans l.on.2)
      have f2 : FR (fun a j => (a = 0 ∧ j = 15) ∨ (a = 327 ∧ j = 5) ∨ a = 328 ∨ a = 329 ∨ (a = 355 ∧ (j = 1 ∨ j = 69))) M (zsI (zsI M1 355 1 0) 355 69 (nI (t / 2))) := FR.sI (FR.sI (f1.mo (fun a j q => by omega)) (by omega)) (by omega)
      have w1 : zI (zsI (zsI M1 355 1 0) 355 69 (nI (t / 2))) 355 1 = 0 := (zI_sn _ _ (by omega)).trans (zI_se _ _ _ _)
      have w2 : zI (zsI (zsI M1 355 1 0) 355 69 (nI (t / 2))) 355 69 = nI (t / 2) := zI_se _ _ _ _
      have w3 : ∀ a j, ¬ a = 355 → zI (zsI (zsI M1 355 1 0) 355 69 (nI (t / 2))) a j = zI M1 a j := fun a j q => by rw [zI_sn _ _ (by omega), zI_sn _ _ (by omega)]
      have mm2 : f_X12_meet 355 M1 = f_X12_meet_105 355 1000000 0 (zsI (zsI M1 355 1 0) 355 69 (nI (t / 2))) := by
        rw [mm, k1]
        unfold f_X12_meet_86
        refine im b01_n0 ?_
        rw [b_i, show (2 : Int32) = nI 2 from rfl, pk_div (by omega) (by decide) (by decide)]
      revert f2 w1 w2 w3 mm2
      generalize zsI (zsI M1 355 1 0) 355 69 (nI (t / 2)) = M2
      intro f2 w1 w2 w3 mm2
      obtain ⟨M3, d1, d2, d3⟩ := s_mcopyM (b := b) (t := t / 2) (f2.W hW) (fun k hk => (f2.I (by omega)).trans (t4 k (by omega)).2.1) (by omega) w2
      have f3 : FR (fun a j => (a = 0 ∧ j = 15) ∨ (a = 327 ∧ j = 5) ∨ a = 328 ∨ a = 329 ∨ (a = 355 ∧ (j = 1 ∨ j = 69)) ∨ a = 390 ∨ a = 391) M M3 := (f2.mo (fun a j q => by omega)).tr (d2.mo (fun a j q => by omega))
      refine ⟨nI (t / 2), M1, M3, ?_, by rw [mm2]; exact d1, (Inv.mk' (g.rst.mtX f3 (fun a j q => by omega) (tape0 ?_ ?_) ⟨t / 2, by omega, ?_, (d2.I (by omega)).trans w2, fun i hi => ?_⟩) (Or.inl ⟨c0, h, S, T, E, c, sv, l.mt lv.1 f3 (fun a j q => by omega), lv, hT⟩)).mono (by omega)⟩
      · refine im (by decide) ?_
        rw [k5, b_i]
        refine im (one_n0 _) ?_
        dsimp only
        rw [w0_9 (f1.W hW), b_i, k7]
      · rw [d2.I (by omega), w3 _ _ (by decide), k6.I (by omega), u0]
      · rw [d2.I (by omega), w1]
      · rw [d2.I (by omega), w3 _ _ (by decide), k7]
      · obtain ⟨p1, p2, p3, p4⟩ := k8 i hi
        refine ⟨b (2 * i), b (2 * i + 1), p1, p2, ?_, ?_, (d3 i hi).1, (d3 i hi).2⟩
        · rw [d2.I (by omega), w3 _ _ (by decide), p3]
        · rw [d2.I (by omega), w3 _ _ (by decide), p4]
    · refine ⟨-1, R2, R4, ?_, ?_, r3.mono (by omega)⟩
      · refine im (by decide) ?_
        rw [k2, b_i]
        refine ip rfl ?_
        rw [r1, b_i]
      · rw [mm, k1]
        unfold f_X12_meet_86
        refine ip b01_f ?_
        rw [show (5 : Int32) = nI 5 from rfl, r2, b_i]
  · refine ⟨-1, R2, R4, ?_, ?_, r3.mono (by omega)⟩
    · unfold f_X11_meet f_X11_meet_27 f_X11_takeTape
      rw [b_i, b_i]
      dsimp only
      rw [f0.I (by omega), o.1.1]
      refine ip rfl ?_
      rw [show (5 : Int32) = nI 5 from rfl, r1, b_i]
    · unfold f_X12_meet f_X12_meet_37 f_X12_meet_38
      rw [b_i, zI_sn _ _ (by omega), r4.I (by omega), o.1.2]
      refine ip rfl ?_
      have : ∀ x, f_X12_meet_41 355 1000000 x 0 0 (zsI R2 355 1 0) = f_X12_meet_86 355 x 0 (zsI R2 355 1 0) := fun x => by
        rw [show 1000000 = 999999 + 1 by rfl, f_X12_meet_41]
        by_cases q : x ≤ 0
        · rw [if_pos q]
        · rw [if_neg q, if_pos rfl]
      rw [this]
      unfold f_X12_meet_86
      refine ip rfl ?_
      rw [show (5 : Int32) = nI 5 from rfl, r2, b_i]
