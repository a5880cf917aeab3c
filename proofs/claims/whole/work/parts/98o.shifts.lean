/-! calls: shifts, tells -/
def al (n : Nat) (v : Nat → Nat) (i : Nat) : Nat := pop 64 (rdB (fun k => !decide (v k + 9 < i)) n)
theorem al_le {n : Nat} (hn : n ≤ 63) (v : Nat → Nat) (i : Nat) : al n v i ≤ 63 := by
  unfold al
  rw [pop64 (by omega) (rdB_lt _ n)]
  exact Nat.le_trans (pop_le _ _) hn
theorem lt9 {a i : Nat} (ha : a < 2000) (hi : i < 2000) : nI a < nI i - 9 ↔ a + 9 < i := by
  rw [← iI_n, ← iI_n, show (9 : Int32) = iI 9 from rfl, iI_sub, iI_lt (by unfold sm; omega) (by unfold sm; omega)]
  omega
theorem lt9m {a s t : Nat} (ha : a < 2000) (hs : s ≤ 18) (ht : t < 2000) : nI a + (nI s - 9) < nI t ↔ a + 9 < t + 18 - s := by
  rw [← iI_n, ← iI_n, ← iI_n, show (9 : Int32) = iI 9 from rfl, iI_sub, iI_add, iI_lt (by unfold sm; omega) (by unfold sm; omega)]
  omega
theorem ix9 {t s : Nat} (hs : s ≤ 18) : nI t - (nI s - 9) + 9 = nI (t + 18 - s) := by
  rw [← iI_n, ← iI_n, show (9 : Int32) = iI 9 from rfl, iI_sub, iI_sub, iI_add, ← iI_n]
  congr 1
  omega
theorem s_rd9 {M : Mem} {c n i : Nat} {v : Nat → Nat} (hW : WRc M) (hc : RQ c) (hn : n ≤ 63) (hv : ∀ k, k < n → zI M (c + 1) k = nI (v k) ∧ v k ≤ 99) (hi : i < 2000) : Option.bind (f_X8_readBy c (nI i - 9) (nI n) M) (fun z9 => f_J13_bitCount_95d88 z9.1 z9.2) = some (nI (al n v i), M) := by
  have h64 : (2 : Nat) ^ n ≤ 2 ^ 63 := Nat.pow_le_pow_right (by decide) hn
  have e : rdB (fun k => !decide (zI M (c + 1) k < nI i - 9)) n = rdB (fun k => !decide (v k + 9 < i)) n := rdB_ext n (fun k hk => by
    rw [(hv k hk).1]
    congr 1
    have := (hv k hk).2
    exact decide_eq_decide.mpr (lt9 (by omega) hi))
  have hl := rdB_lt (fun k => !decide (v k + 9 < i)) n
  rw [s_readBy hW hc hn, b_i]
  dsimp only
  rw [e, s_bitCount (by omega)]
  rfl
theorem s_md9 {M : Mem} {p n s t : Nat} {v : Nat → Nat} (hW : WRc M) (hp : p < 6) (hn : n ≤ 63) (h39 : zI M 355 39 = nI n) (hv : ∀ k, k < n → zI M 385 (64 * (6 * 0 + p) + k) = nI (v k) ∧ v k ≤ 99) (hs : s ≤ 18) (ht : t < 2000) : Option.bind (f_X12_bitsBy 355 0 (nI p) (nI t) (nI s - 9) M) (fun z9 => f_X12_onesOf z9.1 z9.2) = some (nI (al n v (t + 18 - s)), M) := by
  have h64 : (2 : Nat) ^ n ≤ 2 ^ 63 := Nat.pow_le_pow_right (by decide) hn
  have e : rdB (fun k => !decide (zI M 385 (64 * (6 * 0 + p) + k) + (nI s - 9) < nI t)) n = rdB (fun k => !decide (v k + 9 < t + 18 - s)) n := rdB_ext n (fun k hk => by
    rw [(hv k hk).1]
    congr 1
    have := (hv k hk).2
    exact decide_eq_decide.mpr (lt9m (by omega) hs ht))
  have hl := rdB_lt (fun k => !decide (v k + 9 < t + 18 - s)) n
  rw [show (0 : Int32) = nI 0 from rfl, s_bitsBy hW (by decide) hp hn h39, b_i]
  dsimp only
  rw [e, s_onesOf (by omega)]
  rfl
def lfr (A a o : Nat → Nat) (s k : Nat) : Nat → Bool
  | 0 => true
  | e + 1 => decide (A (a k + 18 - s) = o k) && lfr A a o s (k + 1) e
def fls (L : Nat → Bool) : Nat → List Nat
  | 0 => []
  | s + 1 => if L s = true then fls L s ++ [s] else fls L s
theorem fls_t {L : Nat → Bool} {s : Nat} (h : L s = true) : fls L (s + 1) = fls L s ++ [s] := if_pos h
theorem fls_f {L : Nat → Bool} {s : Nat} (h : L s = false) : fls L (s + 1) = fls L s := if_neg (by rw [h]; decide)
theorem fls_len (L : Nat → Bool) : ∀ s, (fls L s).length ≤ s := by
  intro s; induction s with
  | zero => exact Nat.le_refl _
  | succ s ih =>
    cases h : L s with
    | false => rw [fls_f h]; omega
    | true => rw [fls_t h, len_a]; omega
theorem fls_pre (L : Nat → Bool) (s k : Nat) (hk : k < (fls L s).length) : ∀ e, k < (fls L (s + e)).length ∧ lg (fls L (s + e)) k = lg (fls L s) k := by
  intro e; induction e with
  | zero => exact ⟨hk, rfl⟩
  | succ e ih =>
    cases h : L (s + e) with
    | false => rw [← Nat.add_assoc, fls_f h]; exact ih
    | true => rw [← Nat.add_assoc, fls_t h, len_a, lg_l ih.1]; exact ⟨by omega, ih.2⟩
theorem fls_at {L : Nat → Bool} {s n : Nat} (h : L s = true) (hs : s < n) : (fls L s).length < (fls L n).length ∧ lg (fls L n) (fls L s).length = s := by
  have := fls_pre L (s + 1) (fls L s).length (by rw [fls_t h, len_a]; omega) (n - (s + 1))
  rw [show s + 1 + (n - (s + 1)) = n by omega] at this
  refine ⟨this.1, this.2.trans ?_⟩
  rw [fls_t h, lg_r]
theorem fls_lt (L : Nat → Bool) : ∀ s k, k < (fls L s).length → lg (fls L s) k < s := by
  intro s; induction s with
  | zero => intro k hk; exact absurd hk (by show ¬ k < 0; omega)
  | succ s ih =>
    intro k hk
    cases h : L s with
    | false => rw [fls_f h] at hk ⊢; have := ih k hk; omega
    | true =>
      rw [fls_t h, len_a] at hk
      rw [fls_t h]
      by_cases q : k < (fls L s).length
      · rw [lg_l q]; have := ih k q; omega
      · rw [show k = (fls L s).length by omega, lg_r]; omega
def Wfc (a j : Nat) : Prop := (a = 327 ∧ 6 ≤ j ∧ j ≤ 8) ∨ (330 ≤ a ∧ a ≤ 332)
theorem s_isLeft {M : Mem} {A a o : Nat → Nat} {mt s : Nat} (hW : WRc M) (hs : s ≤ 18) (h5 : zI M 327 5 = nI mt) (hm : mt ≤ 16) (ha : ∀ i, i < mt → zI M 328 i = nI (a i) ∧ a i ≤ 100 ∧ zI M 329 i = nI (o i) ∧ o i ≤ 63) (hA : ∀ i, i < 119 → zI M 331 i = nI (A i) ∧ A i ≤ 63) : f_X9_isLeft 327 (nI s - 9) M = some (b01 (lfr A a o s 0 mt), M) := by
  have lp : ∀ e k f, k + e = mt → f_X9_isLeft_2 327 (nI s - 9) (e + 1 + f) (nI k) M = some (b01 (lfr A a o s k e), M) := by
    intro e
    induction e with
    | zero =>
      intro k f ek
      rw [show 0 + 1 + f = f + 1 by omega, f_X9_isLeft_2, h5, if_pos (nI_le (by omega) (by omega))]; rfl
    | succ e ih =>
      intro k f ek
      obtain ⟨p1, p2, p3, p4⟩ := ha k (by omega)
      obtain ⟨q1, q2⟩ := hA (a k + 18 - s) (by omega)
      rw [show e + 1 + 1 + f = (e + 1 + f) + 1 by omega, f_X9_isLeft_2, h5, if_neg (nI_ge (by omega) (by omega)), w327_0 hW, b_i, zl_at 16 rfl (by omega) (by decide), b_i, p1]
      unfold f_X9_onesBy
      rw [w327_3 hW, b_i, ix9 hs, zl_at 119 rfl (by omega) (by decide), b_i, b_i]
      dsimp only
      rw [w327_1 hW, b_i, zl_at 16 rfl (by omega) (by decide), b_i, q1, p3]
      show _ = some (b01 (decide (A (a k + 18 - s) = o k) && lfr A a o s (k + 1) e), M)
      by_cases q : A (a k + 18 - s) = o k
      · rw [if_pos (by rw [q]), decide_eq_true q, Bool.true_and, nI_1]
        exact ih (k + 1) f (by omega)
      · rw [if_neg (fun x => q ((nI_eq (by omega) (by omega)).mp x)), decide_eq_false q, Bool.false_and]; rfl
  have := lp mt 0 (1000000 - mt - 1) (by omega)
  rw [show mt + 1 + (1000000 - mt - 1) = 1000000 by omega] at this
  exact this
theorem s_find {M : Mem} {c n mt : Nat} {v a o : Nat → Nat} (hW : WRc M) (hc : RQ c) (hn : n ≤ 63) (hv : ∀ k, k < n → zI M (c + 1) k = nI (v k) ∧ v k ≤ 99) (h5 : zI M 327 5 = nI mt) (hm : mt ≤ 16) (ha : ∀ i, i < mt → zI M 328 i = nI (a i) ∧ a i ≤ 100 ∧ zI M 329 i = nI (o i) ∧ o i ≤ 63) : ∃ M', f_X9_find 327 c (nI n) M = some M' ∧ FR Wfc M M' ∧ (∀ i, i < 119 → zI M' 331 i = nI (al n v i)) ∧ zI M' 327 6 = nI (fls (fun s => lfr (al n v) a o s 0 mt) 19).length ∧ ∀ k, k < (fls (fun s => lfr (al n v) a o s 0 mt) 19).length → zI M' 330 k = nI (lg (fls (fun s => lfr (al n v) a o s 0 mt) 19) k) - 9 := by
  have hcb := rq_b hc
  have lp2 : ∀ e k f M0, k + e = 19 → FR Wfc M M0 → (∀ i, i < 119 → zI M0 331 i = nI (al n v i)) → zI M0 327 6 = nI (fls (fun s => lfr (al n v) a o s 0 mt) k).length → (∀ q, q < (fls (fun s => lfr (al n v) a o s 0 mt) k).length → zI M0 330 q = nI (lg (fls (fun s => lfr (al n v) a o s 0 mt) k) q) - 9) → ∃ M', f_X9_find_43 327 c (nI n) (e + 1 + f) (nI k - 9) M0 = some M' ∧ FR Wfc M M' ∧ (∀ i, i < 119 → zI M' 331 i = nI (al n v i)) ∧ zI M' 327 6 = nI (fls (fun s => lfr (al n v) a o s 0 mt) 19).length ∧ ∀ k, k < (fls (fun s => lfr (al n v) a o s 0 mt) 19).length → zI M' 330 k = nI (lg (fls (fun s => lfr (al n v) a o s 0 mt) 19) k) - 9 := by
    intro e
    induction e with
    | zero =>
      intro k f M0 ek fr h1 h2 h3
      have : k = 19 := by omega
      subst this
      exact ⟨M0, by rw [show 0 + 1 + f = f + 1 by omega, f_X9_find_43, if_pos (by decide)], fr, h1, h2, h3⟩
    | succ e ih =>
      intro k f M0 ek fr h1 h2 h3
      have hI : ∀ x j, ¬ Wfc x j → zI M0 x j = zI M x j := fun x j q => fr.I q
      have lf := s_isLeft (M := M0) (A := al n v) (a := a) (o := o) (mt := mt) (s := k) (fr.W hW) (by omega) ((hI _ _ (by unfold Wfc; omega)).trans h5) hm (fun i hi => by
        rw [hI 328 i (by unfold Wfc; omega), hI 329 i (by unfold Wfc; omega)]; exact ha i hi) (fun i hi => ⟨h1 i hi, al_le hn v i⟩)
      have n9 : ¬ (9 : Int32) < nI k - 9 := by
        rw [← iI_n, show (9 : Int32) = iI 9 from rfl, iI_sub, iI_lt (by unfold sm; omega) (by unfold sm; omega)]
        omega
      have nx9 : nI k - 9 + 1 = nI (k + 1) - 9 := by
        rw [← iI_n, ← iI_n, show (9 : Int32) = iI 9 from rfl, show (1 : Int32) = iI 1 from rfl, iI_sub, iI_sub, iI_add]
        congr 1
        omega
      have st : f_X9_find_43 327 c (nI n) (e + 1 + 1 + f) (nI k - 9) M0 = Option.bind (f_X9_isLeft 327 (nI k - 9) M0) fun z1 => (if z1.1 = 0 then f_X9_find_77 (f_X9_find_43 327 c (nI n) (e + 1 + f)) 327 c (nI n) (nI k - 9) z1.2 else Option.bind (zrf z1.2 327 2) fun q2 => Option.bind (zld q2 (zI z1.2 327 6)) fun k3 => Option.bind (some (zsI z1.2 q2 k3 (nI k - 9))) fun M4 => Option.bind (some (zsI M4 327 6 ((zI M4 327 6) + 1))) fun M5 => f_X9_find_77 (f_X9_find_43 327 c (nI n) (e + 1 + f)) 327 c (nI n) (nI k - 9) M5) := by
        rw [show e + 1 + 1 + f = (e + 1 + f) + 1 by omega, f_X9_find_43, if_neg n9]
      rw [st, lf, b_i]
      dsimp only
      unfold f_X9_find_77
      have hl := fls_len (fun s => lfr (al n v) a o s 0 mt) k
      cases hL : lfr (al n v) a o k 0 mt with
      | false =>
        rw [if_pos b01_f, nx9]
        have hf := fls_f (L := fun s => lfr (al n v) a o s 0 mt) (s := k) hL
        exact ih (k + 1) f M0 (by omega) fr h1 (by rw [hf]; exact h2) (by rw [hf]; exact h3)
      | true =>
        have hf := fls_t (L := fun s => lfr (al n v) a o s 0 mt) (s := k) hL
        rw [if_neg b01_n0, w327_2 (fr.W hW), b_i, h2, zl_at 19 rfl (by omega) (by decide), b_i, b_i, zI_sn _ _ (by omega), h2, nI_1, b_i, nx9]
        refine ih (k + 1) f _ (by omega) ((fr.sI (by unfold Wfc; omega)).sI (by unfold Wfc; omega)) (fun i hi => ?_) ?_ (fun q hq => ?_)
        · rw [zI_sn _ _ (by omega), zI_sn _ _ (by omega)]; exact h1 i hi
        · rw [zI_se, hf, len_a]
        · rw [hf, len_a] at hq
          rw [zI_sn _ _ (by omega), hf]
          by_cases eq : q = (fls (fun s => lfr (al n v) a o s 0 mt) k).length
          · rw [eq, zI_se, lg_r]
          · rw [zI_sn _ _ (fun x => eq x.2), lg_l (by omega)]; exact h3 q (by omega)
  have lp1 : ∀ e k f M0, k + e = 119 → FR Wfc M M0 → (∀ i, i < k → zI M0 331 i = nI (al n v i)) → ∃ M', f_X9_find_2 327 c (nI n) (e + 1 + f) (nI k) M0 = some M' ∧ FR Wfc M M' ∧ (∀ i, i < 119 → zI M' 331 i = nI (al n v i)) ∧ zI M' 327 6 = nI (fls (fun s => lfr (al n v) a o s 0 mt) 19).length ∧ ∀ k, k < (fls (fun s => lfr (al n v) a o s 0 mt) 19).length → zI M' 330 k = nI (lg (fls (fun s => lfr (al n v) a o s 0 mt) 19) k) - 9 := by
    intro e
    induction e with
    | zero =>
      intro k f M0 ek fr h1
      have : k = 119 := by omega
      subst this
      have := lp2 19 0 (1000000 - 19 - 1) (zsI M0 327 6 0) (by decide) (fr.sI (by unfold Wfc; omega)) (fun i hi => by rw [zI_sn _ _ (by omega)]; exact h1 i hi) (zI_se _ _ _ _) (fun q hq => absurd hq (by show ¬ q < 0; omega))
      rw [show 19 + 1 + (1000000 - 19 - 1) = 1000000 by rfl] at this
      rw [show 0 + 1 + f = f + 1 by omega, f_X9_find_2, w327_3 (fr.W hW), b_i, zlen_e (n := 119) rfl, if_pos (nI_le (Nat.le_refl _) (by decide)), b_i]
      exact this
    | succ e ih =>
      intro k f M0 ek fr h1
      have rd := s_rd9 (M := M0) (c := c) (n := n) (i := k) (v := v) (fr.W hW) hc hn (fun q hq => by rw [fr.I (by unfold Wfc; omega)]; exact hv q hq) (by omega)
      have st : f_X9_find_2 327 c (nI n) (e + 1 + 1 + f) (nI k) M0 = f_X9_find_2 327 c (nI n) (e + 1 + f) (nI (k + 1)) (zsI M0 331 k (nI (al n v k))) := by
        rw [show e + 1 + 1 + f = (e + 1 + f) + 1 by omega, f_X9_find_2, w327_3 (fr.W hW), b_i, zlen_e (n := 119) rfl, if_neg (nI_ge (by omega) (by decide)), b_i]
        cases hr : f_X8_readBy c (nI k - 9) (nI n) M0 with
        | none => rw [hr] at rd; exact absurd rd (by intro x; cases x)
        | some z =>
          rw [hr, b_i] at rd
          rw [b_i, rd, b_i]
          dsimp only
          rw [zl_at 119 rfl (by omega) (by decide), b_i, b_i, nI_1]
      rw [st]
      refine ih (k + 1) f _ (by omega) (fr.sI (by unfold Wfc; omega)) (fun i hi => ?_)
      by_cases q : i = k
      · rw [q, zI_se]
      · rw [zI_sn _ _ (fun x => q x.2)]; exact h1 i (by omega)
  have := lp1 119 0 (1000000 - 119 - 1) M (by decide) (FR.rf _ M) (fun i hi => absurd hi (by omega))
  rw [show 119 + 1 + (1000000 - 119 - 1) = 1000000 by rfl] at this
  exact this
