/-! syndromes of both -/
theorem lc_e (y : Nat) (hy : y < 2 ^ 63) : (lg_cmp (lN y) 0 = 0) ↔ y = 0 := by
  rw [show (0 : Int64) = lN 0 from rfl, lg_cmp_eq, pk_lEQ hy (by decide)]
theorem md_lo {N x k : Nat} (hk : k < N) (h : x % N + k < N) : (x + k) % N = x % N + k := by
  rw [Nat.add_mod, Nat.mod_eq_of_lt hk, Nat.mod_eq_of_lt h]
theorem md_hi {N x k : Nat} (hk : k < N) (h : ¬ x % N + k < N) : (x + k) % N = x % N + k - N := by
  have hx : x % N < N := Nat.mod_lt _ (by omega)
  rw [Nat.add_mod, Nat.mod_eq_of_lt hk, Nat.mod_eq_sub_mod (by omega : x % N + k ≥ N), Nat.mod_eq_of_lt (by omega)]
theorem sy_s (m p i w k : Nat) : sy m p (i + 1) w k = sy m p i w k ^^^ (if w.testBit i then fpw m p (i * k) else 0) := rfl
theorem v_bit {M : Mem} {w k : Nat} (hw : w < 2 ^ 64) (hk : k < 64) : f_X11_bitOf (lN w) (nI k) M = some (nI (if w.testBit k then 1 else 0), M) := by
  unfold f_X11_bitOf
  rw [lN_ush hw hk, show (1 : Int64) = lN 1 from rfl, lN_and, lN_i]
  rw [Nat.testBit_eq_decide_div_mod_eq, Nat.and_one_is_mod, Nat.shiftRight_eq_div_pow]
  rcases Nat.mod_two_eq_zero_or_one (w / 2 ^ k) with e | e <;> rw [e] <;> rfl
theorem s_valueAt_l {M : Mem} {a pw ex m p k w n : Nat} (h : CO M a pw ex m p) (hk : k < fN m) (hw : w < 2 ^ n) (hn : n ≤ 63) : ∀ d i f, i + d = n → f_X1_valueAt_9 a (lN w) (nI k) (d + 1 + f) (nI (sy m p i w k)) (nI (k * i % fN m)) (nI i) M = some (nI (sy m p n w k), M) := by
  have hm := f_m h.pr
  have hw63 : w < 2 ^ 63 := Nat.lt_of_lt_of_le hw (Nat.pow_le_pow_right (by decide) hn)
  have hw64 : w < 2 ^ 64 := Nat.lt_trans hw63 (by decide)
  have hs : ∀ i, w >>> i < 2 ^ 63 := fun i => by
    rw [Nat.shiftRight_eq_div_pow]; exact Nat.lt_of_le_of_lt (Nat.div_le_self _ _) hw63
  intro d
  induction d with
  | zero =>
    intro i f e
    have e2 : i = n := by omega
    subst e2
    rw [show 0 + 1 + f = f + 1 by omega, f_X1_valueAt_9]
    by_cases q : 63 ≤ i
    · exact ip (show (63 : Int32) ≤ nI i from nI_le (a := 63) q (by omega)) rfl
    · refine im (show ¬ (63 : Int32) ≤ nI i from nI_ge (b := 63) (by omega) (by decide)) ?_
      rw [lN_ush hw64 (by omega)]
      exact ip ((lc_e _ (hs i)).mpr (by rw [Nat.shiftRight_eq_div_pow]; exact Nat.div_eq_of_lt hw)) rfl
  | succ d ih =>
    intro i f e
    rw [show d + 1 + 1 + f = (d + 1 + f) + 1 by omega, f_X1_valueAt_9]
    refine im (show ¬ (63 : Int32) ≤ nI i from nI_ge (b := 63) (by omega) (by decide)) ?_
    rw [lN_ush hw64 (by omega)]
    by_cases h0 : w >>> i = 0
    · refine ip ((lc_e _ (hs i)).mpr h0) ?_
      have h1 : w < 2 ^ i := by
        rw [Nat.shiftRight_eq_div_pow] at h0
        rcases Nat.div_eq_zero_iff.mp h0 with h2 | h2
        · exact absurd h2 (Nat.ne_of_gt (Nat.pow_pos (by decide)))
        · exact h2
      unfold f_X1_valueAt_77
      rw [← e, sy_more w k (d + 1) i h1]
    · refine im (fun x => h0 ((lc_e _ (hs i)).mp x)) ?_
      have hq : k * i % fN m < fN m := Nat.mod_lt _ (by omega)
      have hnext : ∀ s, f_X1_valueAt_47 (f_X1_valueAt_9 a (lN w) (nI k) (d + 1 + f)) a (lN w) (nI k) s (nI (k * i % fN m)) (nI i) M = f_X1_valueAt_9 a (lN w) (nI k) (d + 1 + f) s (nI (k * (i + 1) % fN m)) (nI (i + 1)) M := by
        intro s
        unfold f_X1_valueAt_47 f_X1_valueAt_71
        rw [nI_add, h.sz, nI_1, Nat.mul_add, Nat.mul_one]
        by_cases h2 : k * i % fN m + k < fN m
        · rw [if_pos (nI_lt h2 (by omega)), md_lo hk h2]
        · rw [if_neg (nI_nlt (by omega) (by omega)), pk_sub (by omega), md_hi hk h2]
      rw [v_bit hw64 (by omega), b_i]
      dsimp only
      by_cases hb : w.testBit i = true
      · rw [if_pos hb]
        refine ip rfl ?_
        rw [h.r0, b_i, zl_at 63 h.s0 (by omega) (by decide), b_i, hnext, h.tp _ hq, nI_xor]
        have e3 : sy m p i w k ^^^ fpw m p (k * i % fN m) = sy m p (i + 1) w k := by
          rw [sy_s, if_pos hb, f_perm h.pr (a := k * i % fN m) (b := i * k) (by rw [Nat.mod_mod, Nat.mul_comm])]
        rw [e3]
        exact ih (i + 1) f (by omega)
      · rw [if_neg hb]
        refine im (by decide) ?_
        rw [hnext]
        have e3 : sy m p i w k = sy m p (i + 1) w k := by
          rw [sy_s, if_neg hb, Nat.xor_zero]
        rw [e3]
        exact ih (i + 1) f (by omega)
theorem s_valueAt {M : Mem} {a pw ex m p k w n : Nat} (h : CO M a pw ex m p) (hk : k < fN m) (hw : w < 2 ^ n) (hn : n ≤ 63) : f_X1_valueAt a (lN w) (nI k) M = some (nI (sy m p n w k), M) := by
  have := s_valueAt_l h hk hw hn n 0 (1000000 - n - 1) (by omega)
  rw [show n + 1 + (1000000 - n - 1) = 1000000 by omega, Nat.mul_zero, Nat.zero_mod] at this
  exact this
def BY (M : Mem) (k v : Nat) : Prop := ∃ b, b ≤ 1 ∧ zI M 355 13 = nI b ∧ zI M 357 (10 * b + k) = nI v
theorem s_by {M : Mem} (h : WRc M) {k v : Nat} {x : Int32} (hx : x = nI k) (hk : k < 10) (hb : BY M k v) : f_X12_by 355 x M = some (nI v, M) := by
  obtain ⟨b, h1, h2, h3⟩ := hb
  subst hx
  unfold f_X12_by
  rw [w355_14 h, b_i, h2, show (10 : Int32) = nI 10 from rfl, pk_mul, nI_add, zl_at 20 rfl (by omega) (by decide), b_i, h3]
theorem BY.fr {W : Nat → Nat → Prop} {M M1 : Mem} {k v : Nat} (h : BY M k v) (f : FR W M M1) (h1 : ¬ W 355 13) (h2 : ∀ j, ¬ W 357 j) : BY M1 k v := by
  obtain ⟨b, a1, a2, a3⟩ := h
  exact ⟨b, a1, (f.I h1).trans a2, (f.I (h2 _)).trans a3⟩
theorem s_synd_in {M : Mem} {m p n j w : Nat} {k2 : Int32 → Mem → Option Mem} (hW : WRc M) (h : MO M m p) (hn : n ≤ fN m) (hj : j ≤ 10) (h39 : zI M 355 39 = nI n) (hw : w < 2 ^ 63) : ∀ d i f, i + d = n → f_X12_syndromesOf_19 k2 355 (lN w) (d + 1 + f) (nI j) (nI (sy m p i w j)) (nI i) M = k2 (nI (j + 1)) (zsI M 375 j (nI (sy m p n w j))) := by
  have hm := f_m h.pr
  intro d
  induction d with
  | zero =>
    intro i f e
    have e2 : i = n := by omega
    subst e2
    rw [show 0 + 1 + f = f + 1 by omega, f_X12_syndromesOf_19, h39, if_pos (nI_le (Nat.le_refl _) (by omega)), w355_45 hW, b_i, zl_at 12 rfl (by omega) (by decide), b_i, b_i, nI_1]
  | succ d ih =>
    intro i f e
    rw [show d + 1 + 1 + f = (d + 1 + f) + 1 by omega, f_X12_syndromesOf_19, h39, if_neg (nI_ge (by omega) (by omega)), lN_shr hw (by omega), show (1 : Int64) = lN 1 from rfl, lN_and, show lN 1 = (1 : Int64) from rfl]
    have hq : j * i % fN m < fN m := Nat.mod_lt _ (by omega)
    have hji : j * i ≤ 10 * 63 := Nat.mul_le_mul hj (by omega)
    unfold f_X12_syndromesOf_58
    by_cases hb : w.testBit i = true
    · rw [if_pos ((lc_bit w i).mpr hb), h.r0, b_i, h.sz, if_neg (nI_ne0 (by omega) (by omega)), pk_mul, zrem_nI (by omega) (by omega) (by omega), zl_at 64 rfl (by omega) (by decide), b_i, h.tp _ hq, nI_xor, nI_1]
      have e3 : sy m p i w j ^^^ fpw m p (j * i % fN m) = sy m p (i + 1) w j := by
        rw [sy_s, if_pos hb, f_perm h.pr (a := j * i % fN m) (b := i * j) (by rw [Nat.mod_mod, Nat.mul_comm])]
      rw [e3]
      exact ih (i + 1) f (by omega)
    · rw [if_neg (fun x => hb ((lc_bit w i).mp x)), nI_1]
      have e3 : sy m p i w j = sy m p (i + 1) w j := by
        rw [sy_s, if_neg hb, Nat.xor_zero]
      rw [e3]
      exact ih (i + 1) f (by omega)
theorem s_syndromesOf_l {m p n t w : Nat} (hn : n ≤ fN m) (ht : t ≤ 5) (hw : w < 2 ^ 63) : ∀ d j f M, WRc M → MO M m p → zI M 355 39 = nI n → BY M 2 t → 1 ≤ j → j + d = 2 * t + 1 → (∀ i, 1 ≤ i → i < j → zI M 375 i = nI (sy m p n w i)) → ∃ M', f_X12_syndromesOf_2 355 (lN w) (d + 1 + f) (nI j) M = some M' ∧ FR (fun a _ => a = 375) M M' ∧ (∀ i, 1 ≤ i → i ≤ 2 * t → zI M' 375 i = nI (sy m p n w i)) := by
  intro d
  induction d with
  | zero =>
    intro j f M hW h h39 hB h1 e hS
    refine ⟨M, ?_, FR.rf _ M, fun i a b => hS i a (by omega)⟩
    rw [show 0 + 1 + f = f + 1 by omega, f_X12_syndromesOf_2, s_by (x := 2) hW rfl (by decide) hB, b_i]
    rw [if_pos]
    show 2 * nI t < nI j
    rw [show (2 : Int32) = nI 2 from rfl, pk_mul]
    exact nI_lt (by omega) (by omega)
  | succ d ih =>
    intro j f M hW h h39 hB h1 e hS
    have hm := f_m h.pr
    rw [show d + 1 + 1 + f = (d + 1 + f) + 1 by omega, f_X12_syndromesOf_2, s_by (x := 2) hW rfl (by decide) hB, b_i]
    rw [if_neg (by
      show ¬ 2 * nI t < nI j
      rw [show (2 : Int32) = nI 2 from rfl, pk_mul]
      exact nI_nlt (by omega) (by omega))]
    have hin := s_synd_in (k2 := f_X12_syndromesOf_2 355 (lN w) (d + 1 + f)) hW h hn (by omega : j ≤ 10) h39 hw n 0 (1000000 - n - 1) (by omega)
    rw [show n + 1 + (1000000 - n - 1) = 1000000 by omega] at hin
    have hF : FR (fun a _ => a = 375) M (zsI M 375 j (nI (sy m p n w j))) := (FR.rf _ M).sI rfl
    obtain ⟨M', e1, e2, e3⟩ := ih (j + 1) f (zsI M 375 j (nI (sy m p n w j))) (hF.W hW) (h.fr hF (by decide) (fun _ => by decide) (fun _ => by decide)) ((hF.I (by decide)).trans h39) (hB.fr hF (by decide) (fun _ => by decide)) (by omega) (by omega) (fun i a b => by
      by_cases hi : i = j
      · subst hi; exact zI_se M 375 i _
      · rw [zI_sn _ _ (by omega)]; exact hS i a (by omega))
    exact ⟨M', hin.trans e1, hF.tr e2, e3⟩
theorem s_syndromesOf {M : Mem} {m p n t w : Nat} (hn : n ≤ fN m) (ht : t ≤ 5) (hw : w < 2 ^ 63) (hW : WRc M) (h : MO M m p) (h39 : zI M 355 39 = nI n) (hB : BY M 2 t) : ∃ M', f_X12_syndromesOf 355 (lN w) M = some M' ∧ FR (fun a _ => a = 375) M M' ∧ (∀ i, 1 ≤ i → i ≤ 2 * t → zI M' 375 i = nI (sy m p n w i)) := by
  have := s_syndromesOf_l (m := m) (p := p) hn ht hw (2 * t) 1 (1000000 - 2 * t - 1) M hW h h39 hB (by omega) (by omega) (fun i a b => by omega)
  rw [show 2 * t + 1 + (1000000 - 2 * t - 1) = 1000000 by omega] at this
  exact this
