/-! a day goes by for all pages -/
def pdS (h : CH) (S : PSt) : PSt := (S.1 + 1, fun i => if i < kQ h ∧ (S.2 i).1 = true then pdR h S.1 i (S.2 i) else S.2 i)
def SV (h : CH) (S : PSt) : Prop := ∀ i, i < 6 → RV (kM h) (kP h) (kT h) (kN h) (S.2 i)
theorem RV.pd {h : CH} {d i : Nat} {r : RW} (v : RV (kM h) (kP h) (kT h) (kN h) r) : RV (kM h) (kP h) (kT h) (kN h) (pdR h d i r) := by
  intro e
  obtain ⟨v1, v2, v3, v4⟩ := v e
  exact ⟨by show min (r.2.1 + 1) 99 ≤ 99; omega, v2, v3, fun k hk => drL_le h _ _ _ _ _ _ (v4 k hk)⟩
theorem SV.pd {h : CH} {S : PSt} (v : SV h S) : SV h (pdS h S) := by
  intro i hi
  show RV _ _ _ _ (if i < kQ h ∧ (S.2 i).1 = true then pdR h S.1 i (S.2 i) else S.2 i)
  by_cases e : i < kQ h ∧ (S.2 i).1 = true
  · rw [if_pos e]; exact (v i hi).pd
  · rw [if_neg e]; exact v i hi
def pdi (h : CH) (S : PSt) (i : Nat) : Nat → RW := fun k => if k < i ∧ (S.2 k).1 = true then pdR h S.1 k (S.2 k) else S.2 k
theorem pdi_s {h : CH} {S : PSt} {i k : Nat} (hk : ¬ k = i) : pdi h S (i + 1) k = pdi h S i k := by
  unfold pdi
  by_cases e : k < i ∧ (S.2 k).1 = true
  · rw [if_pos e, if_pos ⟨by omega, e.2⟩]
  · rw [if_neg e, if_neg (fun x => e ⟨by omega, x.2⟩)]
theorem pdi_f {h : CH} {S : PSt} {i : Nat} (e : (S.2 i).1 = false) : pdi h S (i + 1) i = S.2 i := by
  unfold pdi; rw [if_neg (fun x => by rw [e] at x; exact absurd x.2 (by decide))]
theorem pdi_t {h : CH} {S : PSt} {i : Nat} (e : (S.2 i).1 = true) : pdi h S (i + 1) i = pdR h S.1 i (S.2 i) := by
  unfold pdi; rw [if_pos ⟨by omega, e⟩]
theorem pdi_i {h : CH} {S : PSt} {i : Nat} : pdi h S i i = S.2 i := by
  unfold pdi; rw [if_neg (fun x => by omega)]
theorem nI_b1 (b : Bool) : b01 b = 1 ↔ b = true := by cases b <;> decide
theorem nI_b0 (b : Bool) : b01 b = 0 ↔ b = false := by cases b <;> decide
theorem s_cpass {M : Mem} {c0 : Nat} {h : CH} {S : PSt} (hW : WRc M) (hcur : zrf M 0 11 = some c0) (v : CV h) (hC : CC M c0 h) (hd : S.1 ≤ 9998) (hS : CP M 13 (kN h) S) (hV : SV h S) : ∃ M', f_X11_passDay 0 M = some M' ∧ FR (fun a j => Wtm a j ∨ (13 ≤ a ∧ a ≤ 26)) M M' ∧ CP M' 13 (kN h) (pdS h S) := by
  have hc0 : c0 = 335 ∨ c0 = 344 := hC.z
  have hq := v.q
  have l : ∀ e i f M0, FR (fun a j => Wtm a j ∨ (15 ≤ a ∧ a ≤ 26)) M M0 → i + e = kQ h → (∀ k, k < 6 → CR M0 (13 + 2 + 2 * k) (kN h) k (pdi h S i k)) → ∃ M', f_X11_passDay_2 0 (e + 1 + f) (nI i) M0 = some (zsI M' 13 1 (nI (S.1 + 1))) ∧ FR (fun a j => Wtm a j ∨ (15 ≤ a ∧ a ≤ 26)) M M' ∧ (∀ k, k < 6 → CR M' (13 + 2 + 2 * k) (kN h) k (pdi h S (kQ h) k)) := by
    intro e
    induction e with
    | zero =>
      intro i f M0 fr ei hr
      have e2 : i = kQ h := by omega
      subst e2
      refine ⟨M0, ?_, fr, hr⟩
      have hC0 : CC M0 c0 h := hC.fr fr (fun a j x y => by unfold Wch at x; unfold Wtm at y; omega)
      rw [show 0 + 1 + f = f + 1 by omega, f_X11_passDay_2, fr.R, hcur, b_i, hC0.q, if_pos (nI_le (Nat.le_refl _) (by omega)), w0_5 (fr.W hW), b_i, fr.I (by unfold Wtm; omega), hS.1, nI_1, b_i]
    | succ e ih =>
      intro i f M0 fr ei hr
      have hW0 := fr.W hW
      have hC0 : CC M0 c0 h := hC.fr fr (fun a j x y => by unfold Wch at x; unfold Wtm at y; omega)
      have hri := hr i (by omega)
      rw [pdi_i] at hri
      have hre : ∀ x, zld (13 + 1) (nI i) = some x → x = i := fun x hx => by
        rw [zl_at 6 (pq_get (Or.inl rfl)).2.1 (by omega) (by decide)] at hx; cases hx; rfl
      rw [show e + 1 + 1 + f = (e + 1 + f) + 1 by omega, f_X11_passDay_2, fr.R, hcur, b_i, hC0.q, if_neg (nI_ge (by omega) (by omega)), w0_5 hW0, b_i, pq_0 hW0 (Or.inl rfl : PQ 13), b_i, zl_at 6 (pq_get (Or.inl rfl)).2.1 (by omega) (by decide), b_i, pq_1 hW0 (Or.inl rfl : PQ 13) (by omega), b_i, hri.2.1]
      unfold f_X11_passDay_55
      cases hb : (S.2 i).1 with
      | false =>
        rw [if_pos b01_f, nI_1]
        exact ih (i + 1) f M0 fr (by omega) (fun k hk => by
          by_cases e : k = i
          · subst e; rw [pdi_f hb]; exact hri
          · rw [pdi_s e]; exact hr k hk)
      | true =>
        obtain ⟨M1, a1, a2, a3⟩ := s_passDay (d := S.1) hW0 v hC0 (pq_r (Or.inl rfl : PQ 13) (by omega : i < 6)) (by omega) (by omega) hri hb (hV i (by omega))
        have f1 : FR (fun a j => Wtm a j ∨ (15 ≤ a ∧ a ≤ 26)) M M1 := fr.tr (a2.mo (fun a j h => by rcases h with h | h | h; exact Or.inl h; exact Or.inr (by omega); exact Or.inr (by omega)))
        obtain ⟨M', b1, b2, b3⟩ := ih (i + 1) f M1 f1 (by omega) (fun k hk => by
          by_cases e : k = i
          · subst e; rw [pdi_t hb]; exact a3
          · rw [pdi_s e]; exact (hr k hk).fr a2 (fun j => by unfold Wtm; omega) (fun j => by unfold Wtm; omega))
        refine ⟨M', ?_, b2, b3⟩
        rw [if_neg b01_n0, w0_2 hW0, b_i, b_i, b_i, pq_0 hW0 (Or.inl rfl : PQ 13), b_i, zl_at 6 (pq_get (Or.inl rfl)).2.1 (by omega) (by decide), b_i, pq_1 hW0 (Or.inl rfl : PQ 13) (by omega), b_i, b_i, fr.I (by unfold Wtm; omega), hS.1, a1, b_i, nI_1]
        exact b1
  obtain ⟨M', a1, a2, a3⟩ := l (kQ h) 0 (1000000 - kQ h - 1) M (FR.rf _ M) (by omega) (fun k hk => by
    have : pdi h S 0 k = S.2 k := by unfold pdi; rw [if_neg (fun x => by omega)]
    rw [this]; exact hS.2 k hk)
  rw [show kQ h + 1 + (1000000 - kQ h - 1) = 1000000 by omega] at a1
  refine ⟨_, a1, FR.sI (a2.mo (fun a j h => by rcases h with h | h; exact Or.inl h; exact Or.inr (by omega))) (Or.inr (by omega)), zI_se _ _ _ _, fun i hi => ?_⟩
  have : CR M' (13 + 2 + 2 * i) (kN h) i ((pdS h S).2 i) := a3 i hi
  exact this.fr (W := fun a _ => a = 13) ((FR.rf _ M').sI rfl) (fun j => by omega) (fun j => by omega)
theorem s_mpass {M : Mem} {vv : Nat} {x : Int32} {h : CH} {S : PSt} (hx : x = nI vv) (hW : WRc M) (v : CV h) (hC : MC M h) (hvv : vv < 22) (hd : S.1 ≤ 9998) (hS : MP M vv (kN h) S) (hV : SV h S) : ∃ M', f_X12_passes 355 x M = some M' ∧ FR (fun a j => Wla vv a j ∨ a = 388 ∨ a = 389) M M' ∧ MP M' vv (kN h) (pdS h S) := by
  subst hx
  have hq := v.q
  have hn := v.n63
  obtain ⟨bk, ⟨c1, c2, -⟩, -, c5, -⟩ := id hC
  have l : ∀ e i f M0, FR (fun a j => (Wla vv a j ∧ ¬ a = 381) ∨ a = 388 ∨ a = 389) M M0 → i + e = kQ h → (∀ k, k < 6 → MR M0 vv k (kN h) (pdi h S i k)) → ∃ M', f_X12_passes_2 355 (nI vv) (e + 1 + f) (nI i) M0 = some (zsI M' 381 vv (nI (S.1 + 1))) ∧ FR (fun a j => (Wla vv a j ∧ ¬ a = 381) ∨ a = 388 ∨ a = 389) M M' ∧ (∀ k, k < 6 → MR M' vv k (kN h) (pdi h S (kQ h) k)) := by
    intro e
    induction e with
    | zero =>
      intro i f M0 fr ei hr
      have e2 : i = kQ h := by omega
      subst e2
      refine ⟨M0, ?_, fr, hr⟩
      have hW0 := fr.W hW
      rw [show 0 + 1 + f = f + 1 by omega, f_X12_passes_2, w355_15 hW0, b_i, fr.I (by unfold Wla; omega), c2, zl_at 2 rfl (by omega) (by decide), b_i, fr.I (by unfold Wla; omega), c5, if_pos (nI_le (Nat.le_refl _) (by omega)), w355_55 hW0, b_i, zl_at 22 rfl hvv (by decide), b_i, b_i, fr.I (by omega), hS.1, nI_1, b_i]
    | succ e ih =>
      intro i f M0 fr ei hr
      have hW0 := fr.W hW
      have hC0 : MC M0 h := hC.fr fr (fun a j x y => by unfold Wmc at x; unfold Wla at y; omega)
      have hri := hr i (by omega)
      rw [pdi_i] at hri
      rw [show e + 1 + 1 + f = (e + 1 + f) + 1 by omega, f_X12_passes_2, w355_15 hW0, b_i, fr.I (by unfold Wla; omega), c2, zl_at 2 rfl (by omega) (by decide), b_i, fr.I (by unfold Wla; omega), c5, if_neg (nI_ge (by omega) (by omega)), w355_56 hW0, b_i, ix_6, zl_at 132 rfl (by omega) (by decide), b_i, hri.1]
      unfold f_X12_passes_36
      cases hb : (S.2 i).1 with
      | false =>
        rw [if_neg (by decide), nI_1]
        exact ih (i + 1) f M0 fr (by omega) (fun k hk => by
          by_cases e : k = i
          · subst e; rw [pdi_f hb]; exact hri
          · rw [pdi_s e]; exact hr k hk)
      | true =>
        obtain ⟨M1, a1, a2, a3⟩ := s_drifts (x1 := nI vv) (x2 := nI i) (d := S.1) rfl rfl hW0 v hC0 hvv (by omega : i < 6) (by omega) ((fr.I (by omega)).trans hS.1) hri hb (hV i (by omega))
        have f1 : FR (fun a j => (Wla vv a j ∧ ¬ a = 381) ∨ a = 388 ∨ a = 389) M M1 := fr.tr (a2.mo (fun a j h => by unfold Wdm at h; unfold Wla; omega))
        obtain ⟨M', b1, b2, b3⟩ := ih (i + 1) f M1 f1 (by omega) (fun k hk => by
          by_cases e : k = i
          · subst e; rw [pdi_t hb]; exact a3
          · rw [pdi_s e]; exact (hr k hk).fr hn.1 a2 (by unfold Wdm; omega) (by unfold Wdm; omega) (by unfold Wdm; omega) (fun j hj => by unfold Wdm; omega))
        refine ⟨M', ?_, b2, b3⟩
        rw [if_pos b01_t, a1, b_i, nI_1]
        exact b1
  obtain ⟨M', a1, a2, a3⟩ := l (kQ h) 0 (1000000 - kQ h - 1) M (FR.rf _ M) (by omega) (fun k hk => by
    have : pdi h S 0 k = S.2 k := by unfold pdi; rw [if_neg (fun x => by omega)]
    rw [this]; exact hS.2 k hk)
  rw [show kQ h + 1 + (1000000 - kQ h - 1) = 1000000 by omega] at a1
  refine ⟨_, a1, FR.sI (a2.mo (fun a j h => by rcases h with h | h; exact Or.inl h.1; exact Or.inr h)) (Or.inl (by unfold Wla; omega)), zI_se _ _ _ _, fun i hi => ?_⟩
  have : MR M' vv i (kN h) ((pdS h S).2 i) := a3 i hi
  exact this.fr hn.1 (W := fun a _ => a = 381) ((FR.rf _ M').sI rfl) (by omega) (by omega) (by omega) (fun j _ => by omega)
