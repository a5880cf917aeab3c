/-! a read over numbers: syndromes, the root test, few errors and what a mended read is -/
theorem f_perm {m p : Nat} (h : (m, p) ∈ fPR) {a b : Nat} (e : a % fN m = b % fN m) : fpw m p a = fpw m p b := by
  rw [← f_per h a, e, f_per h]
theorem f_inj {m p : Nat} (h : (m, p) ∈ fPR) {a b : Nat} (ha : a < fN m) (hb : b < fN m) (e : fpw m p a = fpw m p b) : a = b := by
  have := f_lg h ha
  rw [e, f_lg h hb] at this
  exact this.symm
theorem fl_1 {m p : Nat} (h : (m, p) ∈ fPR) : fl (m := m) 1 = fk1 m p h := Subtype.ext (Nat.mod_eq_of_lt (f_pos h 0).2)
theorem fl_gp {m p : Nat} (h : (m, p) ∈ fPR) (k j : Nat) : @gp (fK m) (fRing m p h) (fl (fpw m p k)) j = fl (fpw m p (k * j)) := by
  induction j with
  | zero =>
    have e : fl (m := m) (fpw m p 0) = fk1 m p h := fl_1 h
    rw [Nat.mul_zero, e]
    show (if 1 % 2 = 1 then fk1 m p h else fk0 m) = fk1 m p h
    exact if_pos rfl
  | succ j ih =>
    show fkm m p h (@gp (fK m) (fRing m p h) (fl (fpw m p k)) j) (fl (fpw m p k)) = _
    rw [ih, ← fl_mul h (f_pos h _).2 (f_pos h _).2, fmul_pw h, Nat.mul_succ]
def rtest (m p : Nat) (C : Nat → Nat) (L q : Nat) : Nat := xs L (fun i => fmul m p (C (i + 1)) (fpw m p ((fN m - q) * (i + 1))))
theorem rtest_lt {m p : Nat} (h : (m, p) ∈ fPR) {C : Nat → Nat} {L q : Nat} (hC : ∀ i, C i < 2 ^ m) : rtest m p C L q < 2 ^ m := xs_lt (fun _ _ => fmul_lt h (hC _))
theorem rtest_hv {m p : Nat} (h : (m, p) ∈ fPR) {C : Nat → Nat} {L q : Nat} (hC : ∀ i, C i < 2 ^ m) (h0 : C 0 = 1) (hq : q < fN m) : rtest m p C L q = 1 ↔ @hv (fK m) (fRing m p h) (fun i => fl (C i)) (fl (fpw m p q)) L = fk0 m := by
  have h1m : 1 < 2 ^ m := (f_pos h 0).2
  have e1 : fl (m := m) (1 ^^^ rtest m p C L q) = fkm m p h (fl (fpw m p ((fN m - q) * L))) (@hv (fK m) (fRing m p h) (fun i => fl (C i)) (fl (fpw m p q)) L) := by
    rw [@hv_sum (fK m) (fRing m p h)]
    have e2 := @gsum_mul (fK m) (fRing m p h) (L + 1) (fl (fpw m p ((fN m - q) * L))) (fun k => fkm m p h (fl (C k)) (@gp (fK m) (fRing m p h) (fl (fpw m p q)) (L - k)))
    refine Eq.trans ?_ e2
    rw [@gsum_first (fK m) (fRing m p h), fl_xor]
    show fka m (fl 1) (fl (rtest m p C L q)) = fka m (fkm m p h (fl (fpw m p ((fN m - q) * L))) (fkm m p h (fl (C 0)) (@gp (fK m) (fRing m p h) (fl (fpw m p q)) (L - 0)))) _
    have key : ∀ k, k ≤ L → fkm m p h (fl (fpw m p ((fN m - q) * L))) (fkm m p h (fl (C k)) (@gp (fK m) (fRing m p h) (fl (fpw m p q)) (L - k))) = fl (fmul m p (C k) (fpw m p ((fN m - q) * k))) := by
      intro k hk
      rw [fl_gp h, ← fl_mul h (hC _) (f_pos h _).2, ← fl_mul h (f_pos h _).2 (fmul_lt h (hC _)), fmul_comm (fpw m p ((fN m - q) * L)), fmul_assoc h (hC _) (f_pos h _).2 (f_pos h _).2, fmul_pw h]
      refine congrArg (fun z => fl (fmul m p (C k) z)) (f_perm h ?_)
      obtain ⟨d, rfl⟩ := Nat.exists_eq_add_of_le hk
      obtain ⟨c, hc⟩ := Nat.exists_eq_add_of_lt hq
      have e3 : q * (k + d - k) + (fN m - q) * (k + d) = (fN m - q) * k + fN m * d := by
        rw [Nat.add_sub_cancel_left, show fN m - q = c + 1 by omega, show fN m = c + 1 + q by omega, Nat.mul_add, Nat.add_mul (c + 1) q d]
        omega
      rw [e3, Nat.add_mul_mod_self_left]
    rw [key 0 (Nat.zero_le _), h0, Nat.mul_zero, show fpw m p 0 = 1 from rfl, fmul_1 h h1m]
    refine congrArg (fka m (fl 1)) ?_
    unfold rtest
    rw [xs_sum h]
    exact @gsum_ext (fK m) (fRing m p h) L _ _ (fun i hi => (key (i + 1) hi).symm)
  have hr := rtest_lt h (L := L) (q := q) hC
  constructor
  · intro e
    rw [e, Nat.xor_self] at e1
    have e2 := congrArg Subtype.val e1
    have e3 : fmul m p (fpw m p ((fN m - q) * L)) (@hv (fK m) (fRing m p h) (fun i => fl (C i)) (fl (fpw m p q)) L).1 = 0 := by
      rw [show (fl (m := m) 0).1 = 0 from Nat.zero_mod _] at e2
      rw [← fl_val (m := m) (f_pos h ((fN m - q) * L)).2]
      exact e2.symm
    rcases fmul_nz h e3 with e4 | e4
    · have := (f_pos h ((fN m - q) * L)).1; omega
    · exact Subtype.ext e4
  · intro e
    rw [e, fkm_comm, fkm_0] at e1
    have e2 := (fl_eq0 (Nat.xor_lt_two_pow h1m hr)).mp e1
    have e3 : 1 ^^^ (1 ^^^ rtest m p C L q) = rtest m p C L q := by rw [← Nat.xor_assoc, Nat.xor_self, Nat.zero_xor]
    rw [e2, Nat.xor_zero] at e3
    exact e3.symm
def sy (m p n w j : Nat) : Nat := xs n (fun k => if w.testBit k then fpw m p (k * j) else 0)
theorem sy_lt {m p n w j : Nat} (h : (m, p) ∈ fPR) : sy m p n w j < 2 ^ m := xs_lt (fun k _ => by
  by_cases hk : w.testBit k
  · rw [if_pos hk]; exact (f_pos h _).2
  · rw [if_neg hk]; exact Nat.pow_pos (by decide))
theorem xs_xor (n : Nat) (f g : Nat → Nat) : xs n (fun i => f i ^^^ g i) = xs n f ^^^ xs n g := by
  induction n with
  | zero => show 0 = 0 ^^^ 0; decide
  | succ n ih =>
    show xs n _ ^^^ (f n ^^^ g n) = (xs n f ^^^ f n) ^^^ (xs n g ^^^ g n)
    rw [ih, Nat.xor_assoc, Nat.xor_assoc, ← Nat.xor_assoc (xs n g), Nat.xor_comm (xs n g) (f n), Nat.xor_assoc]
theorem sy_xor (m p n w v j : Nat) : sy m p n (w ^^^ v) j = sy m p n w j ^^^ sy m p n v j := by
  unfold sy
  rw [← xs_xor]
  refine xs_ext n (fun k _ => ?_)
  rw [Nat.testBit_xor]
  cases w.testBit k <;> cases v.testBit k <;> simp
def fps (n : Nat) (P : Nat → Bool) : List Nat := (List.range n).filter P
def lg (l : List Nat) (i : Nat) : Nat := (l[i]?).getD 0
theorem lg_l {l k : List Nat} {i : Nat} (h : i < l.length) : lg (l ++ k) i = lg l i := by unfold lg; rw [List.getElem?_append_left h]
theorem lg_r {l : List Nat} {x : Nat} : lg (l ++ [x]) l.length = x := by unfold lg; rw [List.getElem?_append_right (Nat.le_refl _), Nat.sub_self]; rfl
theorem fps_s (n : Nat) (P : Nat → Bool) : fps (n + 1) P = if P n then fps n P ++ [n] else fps n P := by
  unfold fps
  rw [List.range_succ, List.filter_append]
  cases hb : P n <;> simp [hb]
theorem xs_fps (n : Nat) (P : Nat → Bool) (f : Nat → Nat) : xs n (fun k => if P k then f k else 0) = xs (fps n P).length (fun i => f (lg (fps n P) i)) := by
  induction n with
  | zero => rfl
  | succ n ih =>
    show xs n _ ^^^ (if P n then f n else 0) = _
    rw [ih, fps_s]
    cases hb : P n
    · exact Nat.xor_zero _
    · show _ = xs (fps n P ++ [n]).length (fun i => f (lg (fps n P ++ [n]) i))
      rw [List.length_append]
      show _ = xs (fps n P).length _ ^^^ f (lg (fps n P ++ [n]) (fps n P).length)
      rw [lg_r]
      refine congrArg (· ^^^ f n) (xs_ext _ (fun i hi => ?_))
      rw [lg_l hi]
theorem fps_get (n : Nat) (P : Nat → Bool) : ∀ i, i < (fps n P).length → lg (fps n P) i < n ∧ P (lg (fps n P) i) = true := by
  induction n with
  | zero => intro i hi; exact absurd hi (Nat.not_lt_zero _)
  | succ n ih =>
    intro i
    rw [fps_s]
    cases hb : P n
    · intro hi; have := ih i hi; exact ⟨by have := this.1; show lg (fps n P) i < n + 1; omega, this.2⟩
    · intro hi
      have hi2 : i < (fps n P).length + 1 := by
        have : (fps n P ++ [n]).length = (fps n P).length + 1 := by rw [List.length_append]; rfl
        rw [← this]; exact hi
      show lg (fps n P ++ [n]) i < n + 1 ∧ P (lg (fps n P ++ [n]) i) = true
      by_cases he : i = (fps n P).length
      · subst he; rw [lg_r]; exact ⟨Nat.lt_succ_self n, hb⟩
      · rw [lg_l (show i < (fps n P).length by omega)]; have := ih i (by omega); exact ⟨by omega, this.2⟩
theorem fps_inc (n : Nat) (P : Nat → Bool) : ∀ i j, i < j → j < (fps n P).length → lg (fps n P) i < lg (fps n P) j := by
  induction n with
  | zero => intro i j _ hj; exact absurd hj (Nat.not_lt_zero _)
  | succ n ih =>
    intro i j
    rw [fps_s]
    cases hb : P n
    · exact ih i j
    · intro hij hj
      have hj2 : j < (fps n P).length + 1 := by
        have : (fps n P ++ [n]).length = (fps n P).length + 1 := by rw [List.length_append]; rfl
        rw [← this]; exact hj
      show lg (fps n P ++ [n]) i < lg (fps n P ++ [n]) j
      by_cases he : j = (fps n P).length
      · subst he; rw [lg_r, lg_l hij]; exact (fps_get n P i hij).1
      · rw [lg_l (show i < (fps n P).length by omega), lg_l (show j < (fps n P).length by omega)]; exact ih i j hij (by omega)
theorem fps_dis (n : Nat) (P : Nat → Bool) {i j : Nat} (hi : i < (fps n P).length) (hj : j < (fps n P).length) (e : lg (fps n P) i = lg (fps n P) j) : i = j := by
  rcases Nat.lt_trichotomy i j with h | h | h
  · have := fps_inc n P i j h hj; omega
  · exact h
  · have := fps_inc n P j i h hi; omega
theorem fps_has (n : Nat) (P : Nat → Bool) {k : Nat} (hk : k < n) (hP : P k = true) : ∃ i, i < (fps n P).length ∧ lg (fps n P) i = k := by
  have hm : k ∈ fps n P := List.mem_filter.mpr ⟨List.mem_range.mpr hk, hP⟩
  obtain ⟨i, hi, e⟩ := List.getElem_of_mem hm
  exact ⟨i, hi, by unfold lg; rw [List.getElem?_eq_getElem hi, e]; rfl⟩
theorem f_gc2 {m p : Nat} (h : (m, p) ∈ fPR) : @gc2 (fK m) (fRing m p h) := fka_self m
theorem f_gnz {m p : Nat} (h : (m, p) ∈ fPR) : @gnz (fK m) (fRing m p h) := fun a b e => by
  rcases fmul_nz h (congrArg Subtype.val e) with e | e
  · exact Or.inl (Subtype.ext e)
  · exact Or.inr (Subtype.ext e)
theorem f_10 {m p : Nat} (h : (m, p) ∈ fPR) : fk1 m p h ≠ fk0 m := fun e => absurd (congrArg Subtype.val e) (by show ¬ (1 : Nat) = 0; decide)
theorem f_gi {m p : Nat} (h : (m, p) ∈ fPR) (a : fK m) (ha : a ≠ fk0 m) : ∃ b, fkm m p h a b = fk1 m p h := by
  have h1 : 1 ≤ a.1 := Nat.pos_of_ne_zero (fun e => ha (Subtype.ext e))
  exact ⟨⟨_, (f_pos h (fN m - flg m p a.1)).2⟩, Subtype.ext (fmul_inv h h1 a.2)⟩
theorem sy_list {m p n j : Nat} (h : (m, p) ∈ fPR) (P : Nat → Bool) : fl (m := m) (xs n (fun k => if P k then fpw m p (k * j) else 0)) = @gsum (fK m) (fRing m p h) (fps n P).length (fun i => @gp (fK m) (fRing m p h) (fl (fpw m p (lg (fps n P) i))) j) := by
  rw [xs_fps n P (fun k => fpw m p (k * j)), xs_sum h]
  exact @gsum_ext (fK m) (fRing m p h) _ _ _ (fun i _ => (fl_gp h _ j).symm)
theorem fl_inj {m p : Nat} (h : (m, p) ∈ fPR) {a b : Nat} (ha : a < fN m) (hb : b < fN m) (e : fl (m := m) (fpw m p a) = fl (fpw m p b)) : a = b := by
  have e2 := congrArg Subtype.val e
  rw [fl_val (f_pos h a).2, fl_val (f_pos h b).2] at e2
  exact f_inj h ha hb e2
theorem fl_nz {m p : Nat} (h : (m, p) ∈ fPR) (a : Nat) : fl (m := m) (fpw m p a) ≠ fk0 m := fun e => by
  have e2 := (fl_eq0 (f_pos h a).2).mp e
  have := (f_pos h a).1
  omega
theorem nbm_C0 {m p : Nat} (h : (m, p) ∈ fPR) {S : Nat → Nat} (hS : ∀ i, S i < 2 ^ m) (j : Nat) : (nbm m p S j).1 0 = 1 := by
  have hb := nbm_bmi h hS j
  have e := congrArg Subtype.val hb.2.1.1
  rw [fl_val (hb.1.1 0)] at e
  exact e
/-- few errors: the locator's length is their number and its roots are just they -/
theorem dec_few {m p n t : Nat} (h : (m, p) ∈ fPR) (hn : n ≤ fN m) {S : Nat → Nat} (hS : ∀ i, S i < 2 ^ m) {P : Nat → Bool} (hP : (fps n P).length ≤ t) (hT : ∀ j, 1 ≤ j → j ≤ 2 * t → S j = xs n (fun k => if P k then fpw m p (k * j) else 0)) : (nbm m p S (2 * t)).2.2.1 = (fps n P).length ∧ ∀ q, q < fN m → (rtest m p (nbm m p S (2 * t)).1 (nbm m p S (2 * t)).2.2.1 q = 1 ↔ q < n ∧ P q = true) := by
  have hb := nbm_bmi h hS (2 * t)
  have hC0 := nbm_C0 h hS (2 * t)
  have hf := @bm_few (fK m) (fRing m p h) (f_gc2 h) (f_gnz h) (f_10 h) _ _ _ _ _ t (fps n P).length _ hb.2 (fun i => fl (fpw m p (lg (fps n P) i))) hP (fun i _ => fl_nz h _) (fun i hi j hj e => fps_dis n P hi hj (fl_inj h (Nat.lt_of_lt_of_le (fps_get n P i hi).1 hn) (Nat.lt_of_lt_of_le (fps_get n P j hj).1 hn) e)) (fun j h1 h2 => by
    rw [← sy_list h P, ← hT j h1 h2]
    unfold fT
    rw [if_neg (by omega)])
  refine ⟨hf.1, fun q hq => ?_⟩
  rw [rtest_hv h hb.1.1 hC0 hq]
  constructor
  · intro e
    obtain ⟨i, hi, e2⟩ := hf.2.2 _ e
    have e3 := fps_get n P i hi
    have e4 := fl_inj h hq (Nat.lt_of_lt_of_le e3.1 hn) e2
    rw [e4]; exact e3
  · intro e
    obtain ⟨i, hi, e2⟩ := fps_has n P e.1 e.2
    have := hf.2.1 i hi
    rw [e2] at this
    exact this
/-- a read that is mended: the roots have its syndromes -/
theorem dec_conv {m p t : Nat} (h : (m, p) ∈ fPR) {S : Nat → Nat} (hS : ∀ i, S i < 2 ^ m) (hF : ∀ j, 1 ≤ j → j ≤ t → S (2 * j) = fmul m p (S j) (S j)) {P : Nat → Bool} (hP : ∀ q, q < fN m → (P q = true ↔ rtest m p (nbm m p S (2 * t)).1 (nbm m p S (2 * t)).2.2.1 q = 1)) (hL : (nbm m p S (2 * t)).2.2.1 ≤ t) (hl : (fps (fN m) P).length = (nbm m p S (2 * t)).2.2.1) : ∀ j, 1 ≤ j → j ≤ 2 * t → S j = xs (fN m) (fun k => if P k then fpw m p (k * j) else 0) := by
  have hb := nbm_bmi h hS (2 * t)
  have hC0 := nbm_C0 h hS (2 * t)
  have hf := @bm_conv (fK m) (fRing m p h) (f_gc2 h) (f_gnz h) (f_gi h) _ _ _ _ _ t _ hb.2 hL (fun i => fl (fpw m p (lg (fps (fN m) P) i))) (fun i _ => fl_nz h _) (fun i hi j hj e => fps_dis (fN m) P (hl ▸ hi) (hl ▸ hj) (fl_inj h (fps_get (fN m) P i (hl ▸ hi)).1 (fps_get (fN m) P j (hl ▸ hj)).1 e)) (fun i hi => by
    have e := fps_get (fN m) P i (hl ▸ hi)
    exact (rtest_hv h hb.1.1 hC0 e.1).mp ((hP _ e.1).mp e.2)) (fun j h1 h2 => by
    show fT S (2 * j) = fkm m p h (fT S j) (fT S j)
    unfold fT
    rw [if_neg (by omega), if_neg (by omega), hF j h1 h2, fl_mul h (hS _) (hS _)])
  intro j h1 h2
  have e := hf j h1 h2
  rw [← hl, ← sy_list h P] at e
  have e2 := congrArg Subtype.val e
  unfold fT at e2
  rw [if_neg (by omega), fl_val (hS _), fl_val (xs_lt (fun k _ => by
    by_cases hk : P k = true
    · rw [if_pos hk]; exact (f_pos h _).2
    · rw [if_neg hk]; exact Nat.pow_pos (by decide)))] at e2
  exact e2
/-- the syndrome at twice is the square -/
theorem sy_sq {m p n w j : Nat} (h : (m, p) ∈ fPR) : sy m p n w (2 * j) = fmul m p (sy m p n w j) (sy m p n w j) := by
  have e : fl (m := m) (sy m p n w (2 * j)) = fl (fmul m p (sy m p n w j) (sy m p n w j)) := by
    rw [fl_mul h (sy_lt h) (sy_lt h)]
    unfold sy
    rw [sy_list h (fun k => w.testBit k), sy_list h (fun k => w.testBit k)]
    refine Eq.trans ?_ (@gsum_sq (fK m) (fRing m p h) (f_gc2 h) _ _).symm
    refine @gsum_ext (fK m) (fRing m p h) _ _ _ (fun i _ => ?_)
    rw [Nat.two_mul]
    exact @gp_add (fK m) (fRing m p h) _ j j
  have e2 := congrArg Subtype.val e
  rw [fl_val (sy_lt h), fl_val (fmul_lt h (sy_lt h))] at e2
  exact e2
