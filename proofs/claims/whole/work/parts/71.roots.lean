/-! roots, what a read is mended to -/
theorem zbz0 {α : Type} (K : Option α) : zbz 0 K = K := if_pos (Or.inl rfl)
theorem zbz1 {α : Type} (K : Option α) : zbz 1 K = K := if_pos (Or.inr rfl)
def b01 (b : Bool) : Int32 := if b then 1 else 0
theorem b01_n0 : ¬ b01 true = 0 := by decide
theorem nI_n1 {a : Nat} (h : a < 2 ^ 31) (h1 : ¬ a = 1) : ¬ nI a = 1 := fun x => h1 ((nI_eq (a := a) (b := 1) h (by decide)).mp x)
theorem b01_t : b01 true = 1 := rfl
theorem b01_f : b01 false = 0 := rfl
def dP (m p : Nat) (C : Nat → Nat) (L q : Nat) : Bool := decide (rtest m p C L q = 1)
theorem s_isRoot {M : Mem} {a pw ex m p q L : Nat} {C : Nat → Nat} (hW : WRc M) (h : CO M a pw ex m p) (hC : ∀ i, C i < 2 ^ m) (hF : ∀ i, i < 12 → zI M 8 i = nI (C i)) (h8 : zI M 6 8 = nI L) (hL : L ≤ 10) (hq : q < fN m) : f_X2_isRoot 6 a (nI q) M = some (b01 (dP m p C L q), M) := by
  have hm := f_m h.pr
  have hrl : ∀ i, xs i (fun i => fmul m p (C (i + 1)) (fpw m p ((fN m - q) * (i + 1)))) < 2 ^ m := fun i => xs_lt (fun _ _ => fmul_lt h.pr (hC _))
  have l : ∀ st, st < fN m → st % fN m = (fN m - q) % fN m → ∀ d i f, i + d = L → f_X2_isRoot_24 6 a (nI q) (d + 1 + f) (nI st) (nI (st * i % fN m)) (nI (xs i (fun i => fmul m p (C (i + 1)) (fpw m p ((fN m - q) * (i + 1)))))) (nI (i + 1)) M = some (b01 (dP m p C L q), M) := by
    intro st hst hse d
    induction d with
    | zero =>
      intro i f e
      have e2 : i = L := by omega
      subst e2
      rw [show 0 + 1 + f = f + 1 by omega, f_X2_isRoot_24, h8, if_pos (nI_lt (by omega) (by omega))]
      unfold f_X2_isRoot_97 dP rtest
      have := hrl i
      by_cases h1 : xs i (fun i => fmul m p (C (i + 1)) (fpw m p ((fN m - q) * (i + 1)))) = 1
      · rw [if_pos (by rw [h1]; rfl), zbz1, decide_eq_true h1]; rfl
      · rw [if_neg (nI_n1 (by omega) h1), zbz0, decide_eq_false h1]; rfl
    | succ d ih =>
      intro i f e
      have hx : st * i % fN m < fN m := Nat.mod_lt _ (by omega)
      have step : f_X2_isRoot_57 (f_X2_isRoot_24 6 a (nI q) (d + 1 + f)) 6 a (nI q) (nI st) (nI (st * (i + 1) % fN m)) (nI (xs i (fun i => fmul m p (C (i + 1)) (fpw m p ((fN m - q) * (i + 1)))))) (nI (i + 1)) M = some (b01 (dP m p C L q), M) := by
        unfold f_X2_isRoot_57
        have hx2 : st * (i + 1) % fN m < fN m := Nat.mod_lt _ (by omega)
        have hpw : fpw m p (st * (i + 1) % fN m) = fpw m p ((fN m - q) * (i + 1)) := f_perm h.pr (by rw [Nat.mod_mod, Nat.mul_mod, hse, ← Nat.mul_mod])
        rw [w6_1 hW, b_i, zl_at 12 rfl (by omega) (by decide), b_i, h.r0, b_i, zl_at 63 h.s0 (by omega) (by decide), b_i, hF _ (by omega), h.tp _ hx2, hpw, s_product h (hC _) (f_pos h.pr _).2, b_i, nI_xor, nI_1]
        exact ih (i + 1) f (by omega)
      rw [show d + 1 + 1 + f = (d + 1 + f) + 1 by omega, f_X2_isRoot_24, h8, if_neg (nI_nlt (by omega) (by omega)), nI_add, h.sz]
      by_cases h2 : st * i % fN m + st < fN m
      · rw [if_pos (nI_lt h2 (by omega))]
        rw [Nat.mul_add, Nat.mul_one, md_lo hst h2] at step
        exact step
      · rw [if_neg (nI_nlt (by omega) (by omega)), pk_sub (by omega)]
        rw [Nat.mul_add, Nat.mul_one, md_hi hst h2] at step
        exact step
  unfold f_X2_isRoot f_X2_isRoot_14
  by_cases h0 : q = 0
  · rw [if_pos (by rw [h0]; exact nI_0)]
    have := l 0 (by omega) (by rw [h0, Nat.sub_zero, Nat.mod_self, Nat.zero_mod]) L 0 (1000000 - L - 1) (by omega)
    rw [show L + 1 + (1000000 - L - 1) = 1000000 by omega, Nat.zero_mul, Nat.zero_mod] at this
    exact this
  · rw [if_neg (nI_ne0 (by omega) (by omega)), h.sz, pk_sub (by omega)]
    have := l (fN m - q) (by omega) rfl L 0 (1000000 - L - 1) (by omega)
    rw [show L + 1 + (1000000 - L - 1) = 1000000 by omega, Nat.mul_zero, Nat.zero_mod] at this
    exact this
theorem s_isRootAt {M : Mem} {m p q L : Nat} {C : Nat → Nat} (hW : WRc M) (h : MO M m p) (hC : ∀ i, C i < 2 ^ m) (hF : ∀ i, i < 14 → zI M 376 i = nI (C i)) (h8 : zI M 355 49 = nI L) (hL : L ≤ 10) (hq : q < fN m) : f_X12_isRootAt 355 (nI q) M = some (b01 (dP m p C L q), M) := by
  have hm := f_m h.pr
  have hrl : ∀ i, xs i (fun i => fmul m p (C (i + 1)) (fpw m p ((fN m - q) * (i + 1)))) < 2 ^ m := fun i => xs_lt (fun _ _ => fmul_lt h.pr (hC _))
  have l : ∀ d i f, i + d = L → f_X12_isRootAt_4 355 (nI q) (d + 1 + f) (nI (xs i (fun i => fmul m p (C (i + 1)) (fpw m p ((fN m - q) * (i + 1)))))) (nI (i + 1)) M = some (b01 (dP m p C L q), M) := by
    intro d
    induction d with
    | zero =>
      intro i f e
      have e2 : i = L := by omega
      subst e2
      rw [show 0 + 1 + f = f + 1 by omega, f_X12_isRootAt_4, h8, if_pos (nI_lt (by omega) (by omega))]
      unfold f_X12_isRootAt_59 dP rtest
      have := hrl i
      by_cases h1 : xs i (fun i => fmul m p (C (i + 1)) (fpw m p ((fN m - q) * (i + 1)))) = 1
      · rw [if_pos (by rw [h1]; rfl), zbz1, decide_eq_true h1]; rfl
      · rw [if_neg (nI_n1 (by omega) h1), zbz0, decide_eq_false h1]; rfl
    | succ d ih =>
      intro i f e
      have hx2 : (fN m - q) * (i + 1) % fN m < fN m := Nat.mod_lt _ (by omega)
      have hx3 : (fN m - q) * (i + 1) ≤ 63 * 11 := Nat.mul_le_mul (by omega) (by omega)
      have hpw : fpw m p ((fN m - q) * (i + 1) % fN m) = fpw m p ((fN m - q) * (i + 1)) := f_perm h.pr (Nat.mod_mod _ _)
      rw [show d + 1 + 1 + f = (d + 1 + f) + 1 by omega, f_X12_isRootAt_4, h8, if_neg (nI_nlt (by omega) (by omega)), w355_46 hW, b_i, zl_at 14 rfl (by omega) (by decide), b_i, h.r0, b_i, h.sz, if_neg (nI_ne0 (by omega) (by omega)), pk_sub (by omega), pk_mul, zrem_nI (by omega) (by omega) (by omega), zl_at 64 rfl (by omega) (by decide), b_i, hF _ (by omega), h.tp _ hx2, hpw, s_times h (hC _) (f_pos h.pr _).2, b_i, nI_xor, nI_1]
      exact ih (i + 1) f (by omega)
  have := l L 0 (1000000 - L - 1) (by omega)
  rw [show L + 1 + (1000000 - L - 1) = 1000000 by omega] at this
  exact this
theorem fps_len (n : Nat) (P : Nat → Bool) : (fps n P).length ≤ n := by
  unfold fps
  exact Nat.le_trans (List.length_filter_le _ _) (by rw [List.length_range]; exact Nat.le_refl _)
def anyO (n : Nat) (l : List Nat) : Bool := l.any (fun q => decide (n ≤ q))
theorem anyO_s (n : Nat) (l : List Nat) (x : Nat) : anyO n (l ++ [x]) = (anyO n l || decide (n ≤ x)) := by
  unfold anyO; rw [List.any_append]; simp
def rootC (n L : Nat) (R : List Nat) : Nat := if R.length = L then (if anyO n R then 3 else 0) else 2
theorem s_findRoots_l {a m p n L : Nat} {C : Nat → Nat} (ha : a = 336 ∨ a = 345) (hC : ∀ i, C i < 2 ^ m) (hL : L ≤ 10) (hn : n ≤ 63) : ∀ d q f M, WRc M → CO M a (a + 1) (a + 2) m p → (∀ i, i < 12 → zI M 8 i = nI (C i)) → zI M 6 8 = nI L → zI M a 10 = nI n → q + d = fN m → (∀ i, i < 5 → i < (fps q (dP m p C L)).length → zI M 11 i = nI (lg (fps q (dP m p C L)) i)) → ∃ M', f_X2_findRoots_7 6 a (d + 1 + f) (nI (fps q (dP m p C L)).length) (b01 (anyO n (fps q (dP m p C L)))) (nI q) M = some (nI (rootC n L (fps (fN m) (dP m p C L))), M') ∧ FR (fun b _ => b = 11) M M' ∧ (∀ i, i < 5 → i < (fps (fN m) (dP m p C L)).length → zI M' 11 i = nI (lg (fps (fN m) (dP m p C L)) i)) := by
  intro d
  induction d with
  | zero =>
    intro q f M hW h hF h8 hn2 e hR
    have e2 : q = fN m := by omega
    subst e2
    have hm := f_m h.pr
    have hl := fps_len (fN m) (dP m p C L)
    refine ⟨M, ?_, FR.rf _ M, hR⟩
    rw [show 0 + 1 + f = f + 1 by omega, f_X2_findRoots_7, h.sz, if_pos (nI_le (Nat.le_refl _) (by omega)), h8]
    unfold rootC f_X2_findRoots_88
    by_cases h1 : (fps (fN m) (dP m p C L)).length = L
    · rw [if_pos (by rw [h1]), if_pos h1]
      cases anyO n (fps (fN m) (dP m p C L)) with
      | true => rw [if_neg (by decide), if_pos rfl]; rfl
      | false => rw [if_pos (by decide), if_neg (by decide)]; rfl
    · rw [if_neg (fun x => h1 ((nI_eq (by omega) (by omega)).mp x)), if_neg h1]; rfl
  | succ d ih =>
    intro q f M hW h hF h8 hn2 e hR
    have hm := f_m h.pr
    have hl := fps_len q (dP m p C L)
    rw [show d + 1 + 1 + f = (d + 1 + f) + 1 by omega, f_X2_findRoots_7, h.sz, if_neg (nI_ge (by omega) (by omega)), s_isRoot hW h hC hF h8 hL (by omega), b_i]
    have hs := fps_s q (dP m p C L)
    cases hP : dP m p C L q with
    | false =>
      rw [hP, if_neg (by decide)] at hs
      dsimp only
      rw [if_pos b01_f]
      unfold f_X2_findRoots_63
      rw [nI_1]
      have := ih (q + 1) f M hW h hF h8 hn2 (by omega) (by rw [hs]; exact hR)
      rw [hs] at this
      exact this
    | true =>
      rw [hP, if_pos rfl] at hs
      have hlen : (fps (q + 1) (dP m p C L)).length = (fps q (dP m p C L)).length + 1 := by rw [hs, List.length_append]; rfl
      have cont : ∀ M', f_X2_findRoots_43 (f_X2_findRoots_7 6 a (d + 1 + f)) 6 a (nI (fps q (dP m p C L)).length) (b01 (anyO n (fps q (dP m p C L)))) (nI q) M' = f_X2_findRoots_7 6 a (d + 1 + f) (nI (fps (q + 1) (dP m p C L)).length) (b01 (anyO n (fps (q + 1) (dP m p C L)))) (nI (q + 1)) M' ∨ zI M' a 10 ≠ nI n := by
        intro M'
        by_cases hz : zI M' a 10 = nI n
        · left
          unfold f_X2_findRoots_43 f_X2_findRoots_61 f_X2_findRoots_63
          rw [hz, hlen, nI_1, nI_1, hs, anyO_s]
          by_cases h3 : q < n
          · rw [if_pos (nI_lt h3 (by omega)), decide_eq_false (by omega : ¬ n ≤ q)]
            cases anyO n (fps q (dP m p C L)) <;> rfl
          · rw [if_neg (nI_nlt (by omega) (by omega)), decide_eq_true (by omega : n ≤ q)]
            cases anyO n (fps q (dP m p C L)) <;> rfl
        · exact Or.inr hz
      dsimp only
      rw [if_neg b01_n0, w6_4 hW, b_i, zlen_e (n := 5) rfl]
      by_cases h5 : (fps q (dP m p C L)).length < 5
      · rw [if_neg (nI_ge h5 (by decide)), b_i, zl_at 5 rfl h5 (by decide), b_i, b_i]
        have fr : FR (fun b _ => b = 11) M (zsI M 11 (fps q (dP m p C L)).length (nI q)) := (FR.rf _ M).sI rfl
        obtain ⟨M', e1, e2, e3⟩ := ih (q + 1) f _ (fr.W hW) (h.fr fr (by omega) (fun _ => by omega) (fun _ => by omega)) (fun i hi => (fr.I (by decide)).trans (hF i hi)) ((fr.I (by decide)).trans h8) ((fr.I (by omega)).trans hn2) (by omega) (fun i h5 hi => by
          by_cases hi2 : i = (fps q (dP m p C L)).length
          · rw [hi2, zI_se, hs, lg_r]
          · rw [zI_sn _ _ (by omega), hs, lg_l (by omega)]; exact hR i h5 (by omega))
        refine ⟨M', ?_, fr.tr e2, e3⟩
        rcases cont (zsI M 11 (fps q (dP m p C L)).length (nI q)) with c | c
        · exact c.trans e1
        · exact absurd ((fr.I (by omega)).trans hn2) c
      · rw [if_pos (nI_le (by omega) (by omega))]
        obtain ⟨M', e1, e2, e3⟩ := ih (q + 1) f M hW h hF h8 hn2 (by omega) (fun i h5' hi => by
          rw [hs, lg_l (by omega)]; exact hR i h5' (by omega))
        refine ⟨M', ?_, e2, e3⟩
        rcases cont M with c | c
        · exact c.trans e1
        · exact absurd hn2 c
theorem s_findRoots {M : Mem} {a m p n L : Nat} {C : Nat → Nat} (ha : a = 336 ∨ a = 345) (hC : ∀ i, C i < 2 ^ m) (hL : L ≤ 10) (hn : n ≤ 63) (hW : WRc M) (h : CO M a (a + 1) (a + 2) m p) (hF : ∀ i, i < 12 → zI M 8 i = nI (C i)) (h8 : zI M 6 8 = nI L) (hn2 : zI M a 10 = nI n) : ∃ M', f_X2_findRoots 6 a M = some (nI (rootC n L (fps (fN m) (dP m p C L))), M') ∧ FR (fun b _ => b = 11) M M' ∧ (∀ i, i < 5 → i < (fps (fN m) (dP m p C L)).length → zI M' 11 i = nI (lg (fps (fN m) (dP m p C L)) i)) := by
  have hm := f_m h.pr
  have := s_findRoots_l ha hC hL hn (fN m) 0 (1000000 - fN m - 1) M hW h hF h8 hn2 (by omega) (fun i _ hi => absurd hi (Nat.not_lt_zero _))
  rw [show fN m + 1 + (1000000 - fN m - 1) = 1000000 by omega] at this
  exact this
