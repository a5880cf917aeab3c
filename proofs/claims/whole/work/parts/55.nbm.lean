/-! Berlekamp and Massey over numbers, tied to the field -/
def xs (n : Nat) (f : Nat → Nat) : Nat := match n with
  | 0 => 0
  | n + 1 => xs n f ^^^ f n
def fl {m : Nat} (x : Nat) : fK m := ⟨x % 2 ^ m, Nat.mod_lt _ (Nat.pow_pos (by decide))⟩
theorem fl_val {m x : Nat} (h : x < 2 ^ m) : (fl (m := m) x).1 = x := Nat.mod_eq_of_lt h
theorem fl_mk {m : Nat} (x : fK m) : fl x.1 = x := Subtype.ext (Nat.mod_eq_of_lt x.2)
theorem fl_xor {m x y : Nat} : fl (m := m) (x ^^^ y) = fka m (fl x) (fl y) := Subtype.ext (by
  show (x ^^^ y) % 2 ^ m = (x % 2 ^ m) ^^^ (y % 2 ^ m)
  exact Nat.xor_mod_two_pow)
theorem fl_mul {m p x y : Nat} (h : (m, p) ∈ fPR) (hx : x < 2 ^ m) (hy : y < 2 ^ m) : fl (m := m) (fmul m p x y) = fkm m p h (fl x) (fl y) := Subtype.ext (by
  show fmul m p x y % 2 ^ m = fmul m p (x % 2 ^ m) (y % 2 ^ m)
  rw [Nat.mod_eq_of_lt (fmul_lt h hx), Nat.mod_eq_of_lt hx, Nat.mod_eq_of_lt hy])
theorem fl_eq0 {m x : Nat} (hx : x < 2 ^ m) : fl (m := m) x = fk0 m ↔ x = 0 := by
  constructor
  · intro e
    have := congrArg Subtype.val e
    rw [fl_val hx] at this
    exact this
  · intro e; subst e; exact Subtype.ext (Nat.zero_mod _)
theorem xs_lt {m n : Nat} {f : Nat → Nat} (h : ∀ i, i < n → f i < 2 ^ m) : xs n f < 2 ^ m := by
  induction n with
  | zero => exact Nat.pow_pos (by decide)
  | succ n ih => exact Nat.xor_lt_two_pow (ih (fun i hi => h i (by omega))) (h n (by omega))
theorem xs_ext (n : Nat) {f g : Nat → Nat} (h : ∀ i, i < n → f i = g i) : xs n f = xs n g := by
  induction n with
  | zero => rfl
  | succ n ih => show xs n f ^^^ f n = xs n g ^^^ g n; rw [ih (fun i hi => h i (by omega)), h n (by omega)]
theorem xs_sum {m p : Nat} (h : (m, p) ∈ fPR) (n : Nat) (f : Nat → Nat) : fl (m := m) (xs n f) = @gsum (fK m) (fRing m p h) n (fun i => fl (f i)) := by
  induction n with
  | zero => exact Subtype.ext (Nat.zero_mod _)
  | succ n ih => show fl (xs n f ^^^ f n) = fka m (@gsum (fK m) (fRing m p h) n _) (fl (f n)); rw [fl_xor, ih]
def finv (m p x : Nat) : Nat := fpw m p ((fN m - flg m p x) % fN m)
def ngap (m p : Nat) (S C : Nat → Nat) (L j : Nat) : Nat := S j ^^^ xs L (fun i => fmul m p (C (i + 1)) (S (j - (i + 1))))
def nC (m p : Nat) (C B : Nat → Nat) (e x : Nat) : Nat → Nat := fun i => C i ^^^ (if x ≤ i then fmul m p e (B (i - x)) else 0)
abbrev nSt : Type := (Nat → Nat) × (Nat → Nat) × Nat × Nat × Nat
def nst (m p : Nat) (S : Nat → Nat) (j : Nat) (s : nSt) : nSt :=
  if ngap m p S s.1 s.2.2.1 j = 0 then (s.1, s.2.1, s.2.2.1, s.2.2.2.1 + 1, s.2.2.2.2)
  else if 2 * s.2.2.1 < j then (nC m p s.1 s.2.1 (fmul m p (ngap m p S s.1 s.2.2.1 j) (finv m p s.2.2.2.2)) s.2.2.2.1, s.1, j - s.2.2.1, 1, ngap m p S s.1 s.2.2.1 j)
  else (nC m p s.1 s.2.1 (fmul m p (ngap m p S s.1 s.2.2.1 j) (finv m p s.2.2.2.2)) s.2.2.2.1, s.2.1, s.2.2.1, s.2.2.2.1 + 1, s.2.2.2.2)
def nd0 : Nat → Nat := fun i => if i = 0 then 1 else 0
def nbm (m p : Nat) (S : Nat → Nat) : Nat → nSt
  | 0 => (nd0, nd0, 0, 1, 1)
  | j + 1 => nst m p S (j + 1) (nbm m p S j)
def nok (m : Nat) (s : nSt) : Prop := (∀ i, s.1 i < 2 ^ m) ∧ (∀ i, s.2.1 i < 2 ^ m) ∧ 1 ≤ s.2.2.2.2 ∧ s.2.2.2.2 < 2 ^ m
def fT {m : Nat} (S : Nat → Nat) : Nat → fK m := fun j => fl (if j = 0 then 1 else S j)
theorem ngap_lt {m p : Nat} (h : (m, p) ∈ fPR) {S C : Nat → Nat} {L j : Nat} (hS : ∀ i, S i < 2 ^ m) (hC : ∀ i, C i < 2 ^ m) : ngap m p S C L j < 2 ^ m := Nat.xor_lt_two_pow (hS j) (xs_lt (fun i _ => fmul_lt h (hC _)))
theorem ngap_sum {m p : Nat} (h : (m, p) ∈ fPR) {S C : Nat → Nat} {L j : Nat} (hS : ∀ i, S i < 2 ^ m) (hC : ∀ i, C i < 2 ^ m) (h0 : C 0 = 1) (hL : L < j) : fl (m := m) (ngap m p S C L j) = @gsum (fK m) (fRing m p h) (L + 1) (fun i => fkm m p h (fl (C i)) (fT S (j - i))) := by
  have e := @gsum_first (fK m) (fRing m p h) L (fun i => fkm m p h (fl (C i)) (fT S (j - i)))
  rw [e]
  show fl (S j ^^^ _) = fka m (fkm m p h (fl (C 0)) (fT S (j - 0))) _
  rw [fl_xor, xs_sum h, h0, show fl (m := m) 1 = fk1 m p h from Subtype.ext (Nat.mod_eq_of_lt (f_pos h 0).2), fkm_1]
  congr 1
  · unfold fT; rw [Nat.sub_zero, if_neg (by omega)]
  · refine @gsum_ext (fK m) (fRing m p h) L _ _ (fun i hi => ?_)
    show fl (fmul m p (C (i + 1)) (S (j - (i + 1)))) = fkm m p h (fl (C (i + 1))) (fT S (j - (i + 1)))
    rw [fl_mul h (hC _) (hS _)]
    unfold fT; rw [if_neg (by omega)]
theorem nC_lt {m p : Nat} (h : (m, p) ∈ fPR) {C B : Nat → Nat} {e x : Nat} (hC : ∀ i, C i < 2 ^ m) (he : e < 2 ^ m) (i : Nat) : nC m p C B e x i < 2 ^ m := by
  unfold nC
  by_cases hx : x ≤ i
  · rw [if_pos hx]; exact Nat.xor_lt_two_pow (hC i) (fmul_lt h he)
  · rw [if_neg hx]; exact Nat.xor_lt_two_pow (hC i) (Nat.pow_pos (by decide))
theorem nC_bm {m p : Nat} (h : (m, p) ∈ fPR) {C B : Nat → Nat} {e x : Nat} (he : e < 2 ^ m) (hB : ∀ i, B i < 2 ^ m) : (fun i => fl (m := m) (nC m p C B e x i)) = @bmC (fK m) (fRing m p h) (fun i => fl (C i)) (fun i => fl (B i)) (fl e) x := by
  funext i
  unfold nC
  show _ = fka m (fl (C i)) (fkm m p h (fl e) (if x ≤ i then fl (B (i - x)) else fk0 m))
  rw [fl_xor]
  by_cases hx : x ≤ i
  · rw [if_pos hx, if_pos hx, fl_mul h he (hB _)]
  · rw [if_neg hx, if_neg hx, fkm_comm, fkm_0]; congr 1
theorem finv_lt {m p : Nat} (h : (m, p) ∈ fPR) (x : Nat) : finv m p x < 2 ^ m := (f_pos h _).2
theorem finv_mul {m p : Nat} (h : (m, p) ∈ fPR) {d b : Nat} (hd : d < 2 ^ m) (hb1 : 1 ≤ b) (hb : b < 2 ^ m) : fmul m p (fmul m p d (finv m p b)) b = d := by
  rw [fmul_assoc h hd (finv_lt h b) hb, fmul_comm (finv m p b) b]
  unfold finv
  rw [f_per h, fmul_inv h hb1 hb, fmul_comm, fmul_1 h hd]
theorem nbm_bmi {m p : Nat} (h : (m, p) ∈ fPR) {S : Nat → Nat} (hS : ∀ i, S i < 2 ^ m) : ∀ j, nok m (nbm m p S j) ∧ @bmi (fK m) (fRing m p h) (fT S) (fun i => fl ((nbm m p S j).1 i)) (fun i => fl ((nbm m p S j).2.1 i)) (nbm m p S j).2.2.1 (nbm m p S j).2.2.2.1 (fl (nbm m p S j).2.2.2.2) (j + 1) := by
  have h1m : 1 < 2 ^ m := (f_pos h 0).2
  intro j
  induction j with
  | zero =>
    have hd : ∀ i, nd0 i < 2 ^ m := fun i => by
      unfold nd0
      by_cases e : i = 0
      · rw [if_pos e]; exact h1m
      · rw [if_neg e]; exact Nat.lt_trans Nat.zero_lt_one h1m
    refine ⟨⟨hd, hd, Nat.le_refl 1, h1m⟩, ?_⟩
    have e1 : (fun i => fl (m := m) (nd0 i)) = (fun i => if i = 0 then fk1 m p h else fk0 m) := by
      funext i
      unfold nd0
      by_cases e : i = 0
      · rw [if_pos e, if_pos e]; exact Subtype.ext (Nat.mod_eq_of_lt h1m)
      · rw [if_neg e, if_neg e]; exact Subtype.ext (Nat.zero_mod _)
    have e2 : fl (m := m) 1 = fk1 m p h := Subtype.ext (Nat.mod_eq_of_lt h1m)
    show @bmi (fK m) (fRing m p h) (fT S) (fun i => fl (nd0 i)) (fun i => fl (nd0 i)) 0 1 (fl 1) 1
    rw [e1, e2]
    exact @bmi_0 (fK m) (fRing m p h) (fT S) (by show fl 1 = _; exact e2) (fun e => by have := congrArg Subtype.val e; exact absurd this (by show ¬ (1 : Nat) = 0; decide))
  | succ j ih =>
    obtain ⟨⟨k1, k2, k3, k4⟩, ih⟩ := ih
    show nok m (nst m p S (j + 1) (nbm m p S j)) ∧ @bmi (fK m) (fRing m p h) (fT S) (fun i => fl ((nst m p S (j + 1) (nbm m p S j)).1 i)) (fun i => fl ((nst m p S (j + 1) (nbm m p S j)).2.1 i)) (nst m p S (j + 1) (nbm m p S j)).2.2.1 (nst m p S (j + 1) (nbm m p S j)).2.2.2.1 (fl (nst m p S (j + 1) (nbm m p S j)).2.2.2.2) (j + 1 + 1)
    generalize nbm m p S j = s at *
    obtain ⟨C, B, L, x, b⟩ := s
    simp only [] at *
    have hL : L < j + 1 := ih.1.2.2
    have hC0 : C 0 = 1 := by
      have := congrArg Subtype.val ih.1.1
      rw [fl_val (k1 0)] at this
      exact this
    have hg := ngap_lt h (L := L) (j := j + 1) hS k1
    have hgs := ngap_sum h (L := L) (j := j + 1) hS k1 hC0 hL
    have hc2 : ∀ a : fK m, fka m a a = fk0 m := fka_self m
    unfold nst
    simp only []
    by_cases hd : ngap m p S C L (j + 1) = 0
    · rw [if_pos hd]
      refine ⟨⟨k1, k2, k3, k4⟩, ?_⟩
      exact @bmi_step0 (fK m) (fRing m p h) _ _ _ _ _ _ _ ih (by omega) (by
        show @gsum (fK m) (fRing m p h) (L + 1) (fun i => fkm m p h (fl (C i)) (fT S (j + 1 - i))) = fk0 m
        rw [← hgs, hd]; exact Subtype.ext (Nat.zero_mod _))
    · rw [if_neg hd]
      have he : fmul m p (ngap m p S C L (j + 1)) (finv m p b) < 2 ^ m := fmul_lt h hg
      have heb : fkm m p h (fl (fmul m p (ngap m p S C L (j + 1)) (finv m p b))) (fl b) = fl (ngap m p S C L (j + 1)) := by
        rw [← fl_mul h he k4, finv_mul h hg k3 k4]
      by_cases hl : 2 * L < j + 1
      · rw [if_pos hl]
        refine ⟨⟨fun i => nC_lt h k1 he i, k1, Nat.pos_of_ne_zero hd, hg⟩, ?_⟩
        simp only []
        rw [nC_bm h he k2]
        exact @bmi_stepA (fK m) (fRing m p h) hc2 _ _ _ _ _ _ _ _ _ ih hgs.symm (fun e => hd ((fl_eq0 hg).mp e)) heb hl
      · rw [if_neg hl]
        refine ⟨⟨fun i => nC_lt h k1 he i, k2, k3, k4⟩, ?_⟩
        simp only []
        rw [nC_bm h he k2]
        exact @bmi_stepB (fK m) (fRing m p h) hc2 _ _ _ _ _ _ _ _ _ ih hgs.symm heb hl
