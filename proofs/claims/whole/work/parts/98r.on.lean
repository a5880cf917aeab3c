/-! calls: on (a row of an image) -/
def w8 (b : Nat → Nat) (at' : Nat) : Nat → Nat
  | 0 => 0
  | k + 1 => w8 b at' k * 256 + b (at' + k)
def aL (b : Nat → Nat) (at' k : Nat) : Nat → Bool
  | 0 => true
  | e + 1 => decide (b (at' + k) ≤ 99) && aL b at' (k + 1) e
theorem aL_at {b : Nat → Nat} {at' : Nat} : ∀ e k i, aL b at' k e = true → k ≤ i → i < k + e → b (at' + i) ≤ 99 := by
  intro e
  induction e with
  | zero => intro k i _ h1 h2; omega
  | succ e ih =>
    intro k i h h1 h2
    have h' : (decide (b (at' + k) ≤ 99) && aL b at' (k + 1) e) = true := h
    rw [Bool.and_eq_true] at h'
    by_cases q : i = k
    · rw [q]; exact of_decide_eq_true h'.1
    · exact ih (k + 1) i h'.2 (by omega) (by omega)
theorem w8_lt {b : Nat → Nat} {at' n : Nat} (hb : ∀ k, k < n → b (at' + k) < 256) : ∀ k, k ≤ n → w8 b at' k < 256 ^ k := by
  intro k
  induction k with
  | zero => intro _; exact (by decide : 0 < 256 ^ 0)
  | succ k ih =>
    intro hk
    have h1 := ih (by omega)
    have h2 := hb k (by omega)
    show w8 b at' k * 256 + b (at' + k) < 256 ^ (k + 1)
    rw [Nat.pow_succ]
    omega
theorem w8_s {b : Nat → Nat} {at' k : Nat} (hb : b (at' + k) < 256) : (w8 b at' k <<< 8) ||| b (at' + k) = w8 b at' (k + 1) := by
  show _ = w8 b at' k * 256 + b (at' + k)
  rw [← Nat.shiftLeft_add_eq_or_of_lt (by omega : b (at' + k) < 2 ^ 8), Nat.shiftLeft_eq]
def onC (h : CH) (w : Nat) : Bool := decide (w < 2 ^ kN h ∧ red (kG h) (kC h) (kN h - kC h) w = 0)
def onT (h : CH) (b : Nat → Nat) (a : Nat) : Bool := aL b (a + 10) 0 (kN h) && decide (b (a + 1) ≤ 99) && onC h (w8 b (a + 2) 8)
def onW (b : Nat → Nat) (a : Nat) : RW := (true, b (a + 1), w8 b (a + 2) 8, fun k => b (a + 10 + k))
def onR (h : CH) (b : Nat → Nat) (en a : Nat) : Option (RW × Nat) := if en ≤ a ∨ 1 < b a then none else if b a = 0 then some (R0, a + 1) else if a + 10 + kN h ≤ en ∧ onT h b a = true then some (onW b a, a + 10 + kN h) else none
theorem lc_ee {a b : Nat} (ha : a < 2 ^ 64) (hb : b < 2 ^ 64) : (lg_cmp (lN a) (lN b) = 0) ↔ a = b := by
  rw [lg_cmp_eq]
  constructor
  · intro e
    have := congrArg (fun x => x.toBitVec.toNat) e
    simp only [lN_bv, BitVec.toNat_ofNat] at this
    rwa [Nat.mod_eq_of_lt ha, Nat.mod_eq_of_lt hb] at this
  · intro e; rw [e]
theorem s_isCW {M : Mem} {c0 : Nat} {h : CH} {w : Nat} (v : CV h) (hC : CC M c0 h) (hw : w < 2 ^ 64) : f_X1_isCodeWord (c0 + 1) (lN w) M = some (b01 (onC h w), M) := by
  have hn := v.n63
  have hc := v.c
  obtain ⟨g1, g2, g3⟩ := v.g
  have h64 : (2 : Nat) ^ kN h ≤ 2 ^ 63 := Nat.pow_le_pow_right (by decide) hn.1
  have hs : w >>> kN h < 2 ^ 63 := by
    rw [Nat.shiftRight_eq_div_pow]
    refine Nat.div_lt_of_lt_mul (Nat.lt_of_lt_of_le hw ?_)
    have : 2 ^ 1 ≤ 2 ^ kN h := Nat.pow_le_pow_right (by decide) (by omega)
    omega
  unfold f_X1_isCodeWord f_X1_isCodeWord_30 f_X1_isCodeWord_31 onC
  rw [hC.n, hC.c, lN_ush hw (by omega), lN_ush hw (by omega)]
  by_cases q : w < 2 ^ kN h
  · rw [if_pos ((lc_e _ hs).mpr (shr_0.mpr q))]
    have hd : w >>> kC h < 2 ^ (kN h - kC h) := by
      rw [Nat.shiftRight_eq_div_pow]
      refine Nat.div_lt_of_lt_mul ?_
      rw [← Nat.pow_add, show kC h + (kN h - kC h) = kN h by omega]
      exact q
    have hcc : kC h = kC h - 1 + 1 := by omega
    have en := s_encode (r0 := c0 + 1) (M := M) (g := kG h) (c := kC h - 1) (n := kN h - kC h) (d := w >>> kC h) (by rw [← hcc]; exact hC.c) (by rw [← hcc, show kC h + (kN h - kC h) = kN h by omega]; exact hC.n) hC.gn (by rw [show kC h - 1 + 2 = kC h + 1 by omega]; exact g1) (by omega) hd
    rw [← hcc] at en
    have hl := wd_lt g1 g2 hd
    rw [show kC h + (kN h - kC h) = kN h by omega] at hl
    rw [en, b_i]
    dsimp only
    have iff := wd_iff (w := w) (n := kN h - kC h) g1 g2 (by rw [show kC h + (kN h - kC h) = kN h by omega]; exact q)
    by_cases q2 : red (kG h) (kC h) (kN h - kC h) w = 0
    · rw [if_pos ((lc_ee (by omega) hw).mpr (iff.mpr q2)), zbz1, decide_eq_true ⟨q, q2⟩]; rfl
    · rw [if_neg (fun x => q2 (iff.mp ((lc_ee (by omega) hw).mp x))), zbz0, decide_eq_false (fun x => q2 x.2)]; rfl
  · rw [if_neg (fun x => q (shr_0.mp ((lc_e _ hs).mp x))), zbz0, decide_eq_false (fun x => q x.1)]; rfl
theorem s_takesRow {M : Mem} {c c0 a i t : Nat} {h : CH} {b : Nat → Nat} (hW : WRc M) (v : CV h) (hc : RQ c) (hC : ∀ M0, FR (fun x _ => x = c ∨ x = c + 1) M M0 → CC M0 c0 h) (hb : ∀ k, k < t → zI M 1 k = nI (b k) ∧ b k < 256) (ht : t ≤ 1600) (ha : a + 10 + kN h ≤ t) (hi : zI M c 1 = nI i) : ∃ M', f_X5_takesRow 27 c 1 (nI (a + 1)) c0 M = some (b01 (onT h b a), M') ∧ FR (fun x j => (x = c ∧ 2 ≤ j) ∨ x = c + 1) M M' ∧ (onT h b a = true → CR M' c (kN h) i (onW b a)) := by
  have hn := v.n63
  have hcb := rq_b hc
  have hw8 := w8_lt (b := b) (at' := a + 2) (n := 8) (fun k hk => (hb (a + 2 + k) (by omega)).2)
  have hwl : w8 b (a + 2) 8 < 2 ^ 64 := hw8 8 (Nat.le_refl _)
  have hz : c0 = 335 ∨ c0 = 344 := (hC M (FR.rf _ M)).z
  have lv : ∀ e k f M0, k + e = kN h → FR (fun x j => (x = c ∧ 2 ≤ j) ∨ x = c + 1) M M0 → zI M0 c 2 = 1 → zI M0 c 3 = nI (b (a + 1)) → zL M0 c 4 = lN (w8 b (a + 2) 8) → (∀ q, q < k → zI M0 (c + 1) q = nI (b (a + 10 + q))) → ∃ M', f_X5_takesRow_55 27 c 1 (nI (a + 1)) c0 (e + 1 + f) (nI k) M0 = some (b01 (aL b (a + 10) k e && decide (b (a + 1) ≤ 99) && onC h (w8 b (a + 2) 8)), M') ∧ FR (fun x j => (x = c ∧ 2 ≤ j) ∨ x = c + 1) M M' ∧ ((aL b (a + 10) k e && decide (b (a + 1) ≤ 99) && onC h (w8 b (a + 2) 8)) = true → CR M' c (kN h) i (onW b a)) := by
    intro e
    induction e with
    | zero =>
      intro k f M0 ek fr h2 h3 h4 h5
      have : k = kN h := by omega
      subst this
      have hC0 := hC M0 (fr.mo (fun x j q => by omega))
      obtain ⟨q1, q2⟩ := hb (a + 1) (by omega)
      refine ⟨M0, ?_, fr, fun _ => ⟨(fr.I (by omega)).trans hi, h2, fun _ => ⟨h3, h4, h5⟩⟩⟩
      rw [show 0 + 1 + f = f + 1 by omega, f_X5_takesRow_55, wC_0 (fr.W hW) hC0.z, b_i, hC0.n, if_pos (nI_le (Nat.le_refl _) (by omega)), h3]
      unfold f_X5_takesRow_132 f_X5_takesRow_133 aL
      rw [Bool.true_and]
      by_cases q : b (a + 1) ≤ 99
      · refine im (show ¬ (99 : Int32) < nI (b (a + 1)) from nI_nlt (a := 99) q (by decide)) ?_
        rw [b_i, h4, s_isCW v hC0 hwl, b_i, decide_eq_true q, Bool.true_and]
        dsimp only
        cases onC h (w8 b (a + 2) 8) with
        | false => rw [if_pos b01_f, zbz0]; rfl
        | true => rw [if_neg b01_n0, zbz1]; rfl
      · rw [decide_eq_false q, Bool.false_and]
        refine ip (show (99 : Int32) < nI (b (a + 1)) from nI_lt (a := 99) (by omega) (by omega)) ?_
        rw [zbz0]; rfl
    | succ e ih =>
      intro k f M0 ek fr h2 h3 h4 h5
      have hC0 := hC M0 (fr.mo (fun x j q => by omega))
      obtain ⟨q1, q2⟩ := hb (a + 10 + k) (by omega)
      have fr1 : FR (fun x j => (x = c ∧ 2 ≤ j) ∨ x = c + 1) M (zsI M0 (c + 1) k (nI (b (a + 10 + k)))) := fr.sI (by omega)
      have st : f_X5_takesRow_55 27 c 1 (nI (a + 1)) c0 (e + 1 + 1 + f) (nI k) M0 = if b (a + 10 + k) ≤ 99 then f_X5_takesRow_55 27 c 1 (nI (a + 1)) c0 (e + 1 + f) (nI (k + 1)) (zsI M0 (c + 1) k (nI (b (a + 10 + k)))) else some (0, zsI M0 (c + 1) k (nI (b (a + 10 + k)))) := by
        rw [show e + 1 + 1 + f = (e + 1 + f) + 1 by omega, f_X5_takesRow_55, wC_0 (fr.W hW) hC0.z, b_i, hC0.n, if_neg (nI_ge (by omega) (by omega)), rq_0 (fr.W hW) hc, b_i, show (9 : Int32) = nI 9 from rfl, nI_add, nI_add, show a + 1 + 9 + k = a + 10 + k by omega, zl_at 1600 rfl (by omega) (by decide), b_i, zl_at 63 (rq_s hc) (by omega) (by decide), b_i, b_i, fr.I (by omega), q1, rq_0 (fr1.W hW) hc, b_i, zl_at 63 (rq_s hc) (by omega) (by decide), b_i, zI_se, nI_1]
        by_cases q : b (a + 10 + k) ≤ 99
        · rw [if_pos q]; exact ip (show nI (b (a + 10 + k)) ≤ (99 : Int32) from nI_le (b := 99) q (by decide)) rfl
        · rw [if_neg q]; exact im (fun x => q ((nI_leI (b := 99) (by omega) (by decide)).mp x)) rfl
      have hd : aL b (a + 10) k (e + 1) = (decide (b (a + 10 + k) ≤ 99) && aL b (a + 10) (k + 1) e) := rfl
      rw [st, hd]
      by_cases q : b (a + 10 + k) ≤ 99
      · rw [if_pos q, decide_eq_true q, Bool.true_and]
        refine ih (k + 1) f _ (by omega) fr1 ?_ ?_ ?_ (fun u hu => ?_)
        · rw [zI_sn _ _ (by omega)]; exact h2
        · rw [zI_sn _ _ (by omega)]; exact h3
        · rw [zL_sI]; exact h4
        · by_cases e2 : u = k
          · rw [e2, zI_se]
          · rw [zI_sn _ _ (fun x => e2 x.2)]; exact h5 u (by omega)
      · rw [if_neg q, decide_eq_false q, Bool.false_and, Bool.false_and, Bool.false_and]
        exact ⟨_, rfl, fr1, fun x => absurd x (by decide)⟩
  have wl : ∀ e k f M0, k + e = 8 → FR (fun x j => (x = c ∧ 2 ≤ j) ∨ x = c + 1) M M0 → zI M0 c 2 = 1 → zI M0 c 3 = nI (b (a + 1)) → zL M0 c 4 = lN (w8 b (a + 2) k) → ∃ M', f_X5_takesRow_20 27 c 1 (nI (a + 1)) c0 (e + 1 + f) (nI (k + 1)) M0 = some (b01 (onT h b a), M') ∧ FR (fun x j => (x = c ∧ 2 ≤ j) ∨ x = c + 1) M M' ∧ (onT h b a = true → CR M' c (kN h) i (onW b a)) := by
    intro e
    induction e with
    | zero =>
      intro k f M0 ek fr h2 h3 h4
      have : k = 8 := by omega
      subst this
      have := lv (kN h) 0 (1000000 - kN h - 1) M0 (by omega) fr h2 h3 h4 (fun q hq => absurd hq (by omega))
      rw [show kN h + 1 + (1000000 - kN h - 1) = 1000000 by omega] at this
      rw [show 0 + 1 + f = f + 1 by omega, f_X5_takesRow_20, if_pos (show (9 : Int32) ≤ nI (8 + 1) from nI_le (a := 9) (by decide) (by decide))]
      exact this
    | succ e ih =>
      intro k f M0 ek fr h2 h3 h4
      obtain ⟨q1, q2⟩ := hb (a + 2 + k) (by omega)
      have hk := hw8 k (by omega)
      have st : f_X5_takesRow_20 27 c 1 (nI (a + 1)) c0 (e + 1 + 1 + f) (nI (k + 1)) M0 = f_X5_takesRow_20 27 c 1 (nI (a + 1)) c0 (e + 1 + f) (nI (k + 1 + 1)) (zsL M0 c 4 (lN (w8 b (a + 2) (k + 1)))) := by
        rw [show e + 1 + 1 + f = (e + 1 + f) + 1 by omega, f_X5_takesRow_20, if_neg (show ¬ (9 : Int32) ≤ nI (k + 1) from nI_ge (b := 9) (by omega) (by decide)), nI_add, show a + 1 + (k + 1) = a + 2 + k by omega, zl_at 1600 rfl (by omega) (by decide), b_i, fr.I (by omega), q1, h4, nI_i2l (by omega), show (8 : Int32) = nI 8 from rfl, lN_shl _ (by decide), lN_or, w8_s q2, b_i, nI_1]
      rw [st]
      refine ih (k + 1) f _ (by omega) (fr.sL (by omega)) ?_ ?_ (zL_se _ _ _ _)
      · rw [zI_sL]; exact h2
      · rw [zI_sL]; exact h3
  obtain ⟨q1, q2⟩ := hb (a + 1) (by omega)
  have fr : FR (fun x j => (x = c ∧ 2 ≤ j) ∨ x = c + 1) M (zsL (zsI (zsI M c 2 1) c 3 (nI (b (a + 1)))) c 4 0) := FR.sL (FR.sI (FR.sI (FR.rf _ M) (by omega)) (by omega)) (by omega)
  have := wl 8 0 (1000000 - 9) (zsL (zsI (zsI M c 2 1) c 3 (nI (b (a + 1)))) c 4 0) (by decide) fr (by rw [zI_sL, zI_sn _ _ (by omega), zI_se]) (by rw [zI_sL, zI_se]) (zL_se _ _ _ _)
  unfold f_X5_takesRow
  rw [b_i, zl_at 1600 rfl (by omega) (by decide), b_i, zI_sn _ _ (by omega), q1, b_i, b_i]
  exact this
