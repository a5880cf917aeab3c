/-! calls: on (a page of the model; the pages of both) -/
def onA : Option (RW × Nat) → Int32
  | none => -1
  | some x => nI x.2
def Wpo (p x j : Nat) : Prop := ((x = 382 ∨ x = 383 ∨ x = 384) ∧ j = 6 + p) ∨ (x = 385 ∧ 64 * (6 + p) ≤ j ∧ j < 64 * (6 + p) + 64)
theorem onC_no {h : CH} {w : Nat} (v : CV h) (hw : 2 ^ 63 ≤ w) : onC h w = false := by
  have hn := v.n63
  have h64 : (2 : Nat) ^ kN h ≤ 2 ^ 63 := Nat.pow_le_pow_right (by decide) hn.1
  exact decide_eq_false (fun x => by have := x.1; omega)
theorem w8_hi {b : Nat → Nat} {a : Nat} (h : 127 < b a) : 2 ^ 63 ≤ w8 b a 8 := by
  simp only [w8, Nat.add_zero]
  omega
theorem w8_lo {b : Nat → Nat} {a : Nat} (hb : ∀ k, k < 8 → b (a + k) < 256) (h : b a ≤ 127) : w8 b a 8 < 2 ^ 63 := by
  have h0 := hb 0 (by decide)
  have h1 := hb 1 (by decide)
  have h2 := hb 2 (by decide)
  have h3 := hb 3 (by decide)
  have h4 := hb 4 (by decide)
  have h5 := hb 5 (by decide)
  have h6 := hb 6 (by decide)
  have h7 := hb 7 (by decide)
  simp only [w8, Nat.add_zero]
  omega
theorem s_pageOn {M : Mem} {p a en t : Nat} {h : CH} {b : Nat → Nat} (hW : WRc M) (v : CV h) (h39 : zI M 355 39 = nI (kN h)) (h38 : zI M 355 38 = nI (kC h)) (h41 : zL M 355 41 = lN (kG h)) (hb : ∀ k, k < t → zI M 356 k = nI (b k) ∧ b k < 256) (ht : t ≤ 1600) (hen : en ≤ t) (ha : a ≤ t) (hp : p < 6) : ∃ M', f_X12_pageOn 355 (nI p) (nI a) (nI en) M = some (onA (onR h b en a), M') ∧ FR (Wpo p) M M' ∧ ∀ r a', onR h b en a = some (r, a') → MR M' 1 p (kN h) r := by
  have hn := v.n63
  have hc := v.c
  obtain ⟨g1, g2, g3⟩ := v.g
  have h64 : (2 : Nat) ^ kN h ≤ 2 ^ 63 := Nat.pow_le_pow_right (by decide) hn.1
  unfold f_X12_pageOn f_X12_pageOn_21 f_X12_pageOn_88
  by_cases c1 : en ≤ a
  · have e : onR h b en a = none := if_pos (Or.inl c1)
    rw [e]
    exact ⟨M, ip (nI_le c1 (by omega)) rfl, FR.rf _ M, fun r a' x => by cases x⟩
  obtain ⟨q1, q2⟩ := hb a (by omega)
  by_cases c2 : 1 < b a
  · have e : onR h b en a = none := if_pos (Or.inr c2)
    rw [e]
    refine ⟨M, im (nI_ge (by omega) (by omega)) ?_, FR.rf _ M, fun r a' x => by cases x⟩
    rw [w355_0 hW, b_i, zl_at 1800 rfl (by omega) (by decide), b_i, q1]
    exact im (show ¬ nI (b a) ≤ (1 : Int32) from nI_ge (a := 1) (by omega) (by omega)) rfl
  have fr1 : FR (Wpo p) M (zsI M 382 (6 + p) (nI (b a))) := (FR.rf _ M).sI (by unfold Wpo; omega)
  have u0 : zI (zsI M 382 (6 + p) (nI (b a))) 382 (6 + p) = nI (b a) := zI_se _ _ _ _
  have eR : onR h b en a = if b a = 0 then some (R0, a + 1) else if a + 10 + kN h ≤ en ∧ onT h b a = true then some (onW b a, a + 10 + kN h) else none := if_neg (by omega)
  rw [eR, w355_0 hW, b_i, zl_at 1800 rfl (by omega) (by decide), b_i, q1, w355_56 hW, b_i, b_i, zl_at 1800 rfl (by omega) (by decide), b_i, show (6 : Int32) = nI 6 from rfl, nI_add, zl_at 132 rfl (by omega) (by decide), b_i, q1, b_i, w355_0 (fr1.W hW), b_i, zl_at 1800 rfl (by omega) (by decide), b_i]
  rw [if_neg (nI_ge (by omega : a < en) (by omega)), if_pos (show nI (b a) ≤ (1 : Int32) from nI_le (b := 1) (by omega) (by decide))]
  revert fr1 u0
  generalize zsI M 382 (6 + p) (nI (b a)) = M1
  intro fr1 u0
  have hW1 := fr1.W hW
  have hb1 : ∀ k, k < t → zI M1 356 k = nI (b k) := fun k hk => (fr1.I (by unfold Wpo; omega)).trans (hb k hk).1
  rw [hb1 a (by omega)]
  by_cases c3 : b a = 0
  · rw [if_pos c3, c3]
    refine ⟨M1, ip rfl (by rw [nI_1]; rfl), fr1, fun r a' x => ?_⟩
    cases x
    exact ⟨by rw [show 6 * 1 + p = 6 + p by omega, u0, c3]; rfl, fun e => absurd e (by decide)⟩
  obtain ⟨res, hres⟩ : ∃ res, res = if a + 10 + kN h ≤ en ∧ onT h b a = true then some (onW b a, a + 10 + kN h) else none := ⟨_, rfl⟩
  rw [if_neg c3, ← hres, if_neg (nI_ne0 (by omega) (by omega)), fr1.I (by unfold Wpo; omega), h39, show (10 : Int32) = nI 10 from rfl, nI_add, nI_add]
  by_cases c4 : a + 10 + kN h ≤ en
  rotate_left
  · rw [show res = none from hres.trans (if_neg (fun x => c4 x.1))]
    exact ⟨M1, ip (nI_lt (by omega) (by omega)) rfl, fr1, fun r a' x => by cases x⟩
  rw [if_neg (nI_nlt c4 (by omega)), b_i, nI_1, zl_at 1800 rfl (by omega) (by decide), b_i, hb1 (a + 1) (by omega), b_i, show (2 : Int32) = nI 2 from rfl, nI_add, zl_at 1800 rfl (by omega) (by decide), b_i, hb1 (a + 2) (by omega), w355_57 hW1, b_i, b_i, zl_at 1800 rfl (by omega) (by decide), b_i, zl_at 132 rfl (by omega) (by decide), b_i, hb1 (a + 1) (by omega), b_i]
  have hT : onT h b a = (aL b (a + 10) 0 (kN h) && decide (b (a + 1) ≤ 99) && onC h (w8 b (a + 2) 8)) := rfl
  by_cases c5 : b (a + 1) ≤ 99
  rotate_left
  · have : onT h b a = false := by rw [hT, decide_eq_false c5, Bool.and_false, Bool.false_and]
    rw [show res = none from hres.trans (if_neg (fun x => by rw [this] at x; exact absurd x.2 (by decide)))]
    exact ⟨M1, ip (show (99 : Int32) < nI (b (a + 1)) from nI_lt (a := 99) (by omega) (by have := (hb (a + 1) (by omega)).2; omega)) rfl, fr1, fun r a' x => by cases x⟩
  rw [if_neg (show ¬ (99 : Int32) < nI (b (a + 1)) from nI_nlt (a := 99) c5 (by decide))]
  by_cases c6 : b (a + 2) ≤ 127
  rotate_left
  · have : onT h b a = false := by rw [hT, onC_no v (w8_hi (by omega)), Bool.and_false]
    rw [show res = none from hres.trans (if_neg (fun x => by rw [this] at x; exact absurd x.2 (by decide)))]
    exact ⟨M1, im (show ¬ nI (b (a + 2)) ≤ (127 : Int32) from nI_ge (a := 127) (by omega) (by have := (hb (a + 2) (by omega)).2; omega)) rfl, fr1, fun r a' x => by cases x⟩
  rw [if_pos (show nI (b (a + 2)) ≤ (127 : Int32) from nI_le (b := 127) c6 (by decide))]
  have hw63 := w8_lo (b := b) (a := a + 2) (fun k hk => (hb (a + 2 + k) (by omega)).2) c6
  have fr2 : FR (Wpo p) M (zsI M1 383 (6 + p) (nI (b (a + 1)))) := fr1.sI (by unfold Wpo; omega)
  have u1 : zI (zsI M1 383 (6 + p) (nI (b (a + 1)))) 383 (6 + p) = nI (b (a + 1)) := zI_se _ _ _ _
  have u2 : zI (zsI M1 383 (6 + p) (nI (b (a + 1)))) 382 (6 + p) = nI (b a) := (zI_sn _ _ (by omega)).trans u0
  revert fr2 u1 u2
  generalize zsI M1 383 (6 + p) (nI (b (a + 1))) = M2
  intro fr2 u1 u2
  have lv : ∀ e k f M0, k + e = kN h → FR (Wpo p) M M0 → zI M0 382 (6 + p) = nI (b a) → zI M0 383 (6 + p) = nI (b (a + 1)) → zL M0 384 (6 + p) = lN (w8 b (a + 2) 8) → (∀ q, q < k → zI M0 385 (64 * (6 * 1 + p) + q) = nI (b (a + 10 + q))) → ∃ M', f_X12_pageOn_181 355 (nI p) (nI a) (nI en) (e + 1 + f) (nI k) M0 = some (if aL b (a + 10) k e = true then nI (a + 10 + kN h) else -1, M') ∧ FR (Wpo p) M M' ∧ (aL b (a + 10) k e = true → MR M' 1 p (kN h) (onW b a)) := by
    intro e
    induction e with
    | zero =>
      intro k f M0 ek fr h2 h3 h4 h5
      have : k = kN h := by omega
      subst this
      refine ⟨M0, ?_, fr, fun _ => ⟨?_, fun _ => ⟨h3, h4, h5⟩⟩⟩
      · rw [show 0 + 1 + f = f + 1 by omega, f_X12_pageOn_181, fr.I (by unfold Wpo; omega), h39, if_pos (nI_le (Nat.le_refl _) (by omega)), show (10 : Int32) = nI 10 from rfl, nI_add, nI_add]
        rfl
      · rw [show 6 * 1 + p = 6 + p by omega, h2, show b a = 1 by omega]; rfl
    | succ e ih =>
      intro k f M0 ek fr h2 h3 h4 h5
      obtain ⟨q1, q2⟩ := hb (a + 10 + k) (by omega)
      have fr3 : FR (Wpo p) M (zsI M0 385 (64 * (6 * 1 + p) + k) (nI (b (a + 10 + k)))) := fr.sI (by unfold Wpo; omega)
      have st : f_X12_pageOn_181 355 (nI p) (nI a) (nI en) (e + 1 + 1 + f) (nI k) M0 = if b (a + 10 + k) ≤ 99 then f_X12_pageOn_181 355 (nI p) (nI a) (nI en) (e + 1 + f) (nI (k + 1)) (zsI M0 385 (64 * (6 * 1 + p) + k) (nI (b (a + 10 + k)))) else some (-1, zsI M0 385 (64 * (6 * 1 + p) + k) (nI (b (a + 10 + k)))) := by
        rw [show e + 1 + 1 + f = (e + 1 + f) + 1 by omega, f_X12_pageOn_181, fr.I (by unfold Wpo; omega), h39, if_neg (nI_ge (by omega) (by omega)), w355_0 (fr.W hW), b_i, show (10 : Int32) = nI 10 from rfl, nI_add, nI_add, zl_at 1800 rfl (by omega) (by decide), b_i, fr.I (by unfold Wpo; omega), q1, show (1 : Int32) = nI 1 from rfl, s_puts (v := 1) (fr.W hW) (by decide) hp (by omega), b_i, w355_0 (fr3.W hW), b_i, zl_at 1800 rfl (by omega) (by decide), b_i, fr3.I (by unfold Wpo; omega), q1, nI_add]
        by_cases q : b (a + 10 + k) ≤ 99
        · rw [if_pos q]; exact ip (show nI (b (a + 10 + k)) ≤ (99 : Int32) from nI_le (b := 99) q (by decide)) rfl
        · rw [if_neg q]; exact im (fun x => q ((nI_leI (b := 99) (by omega) (by decide)).mp x)) rfl
      have hd : aL b (a + 10) k (e + 1) = (decide (b (a + 10 + k) ≤ 99) && aL b (a + 10) (k + 1) e) := rfl
      rw [st, hd]
      by_cases q : b (a + 10 + k) ≤ 99
      · rw [if_pos q, decide_eq_true q, Bool.true_and]
        refine ih (k + 1) f _ (by omega) fr3 ?_ ?_ ?_ (fun u hu => ?_)
        · rw [zI_sn _ _ (by omega)]; exact h2
        · rw [zI_sn _ _ (by omega)]; exact h3
        · rw [zL_sI]; exact h4
        · by_cases e2 : u = k
          · rw [e2, zI_se]
          · rw [zI_sn _ _ (fun x => e2 (by omega))]; exact h5 u (by omega)
      · rw [if_neg q, decide_eq_false q, Bool.false_and]
        exact ⟨_, rfl, fr3, fun x => absurd x (by decide)⟩
  have wl : ∀ e k f, k + e = 8 → f_X12_pageOn_111 355 (nI p) (nI a) (nI en) (e + 1 + f) (nI (6 + p)) (lN (w8 b (a + 2) k)) (nI k) M2 = f_X12_pageOn_111 355 (nI p) (nI a) (nI en) (f + 1) (nI (6 + p)) (lN (w8 b (a + 2) 8)) (nI 8) M2 := by
    intro e
    induction e with
    | zero =>
      intro k f ek
      have : k = 8 := by omega
      subst this
      rw [show 0 + 1 + f = f + 1 by omega]
    | succ e ih =>
      intro k f ek
      obtain ⟨q1, q2⟩ := hb (a + 2 + k) (by omega)
      rw [show e + 1 + 1 + f = (e + 1 + f) + 1 by omega]
      conv => lhs; rw [f_X12_pageOn_111]
      rw [if_neg (show ¬ (8 : Int32) ≤ nI k from nI_ge (b := 8) (by omega) (by decide)), w355_0 (fr2.W hW), b_i, show (2 : Int32) = nI 2 from rfl, nI_add, nI_add, zl_at 1800 rfl (by omega) (by decide), b_i, fr2.I (by unfold Wpo; omega), q1, nI_i2l (by omega), show (8 : Int32) = nI 8 from rfl, lN_shl _ (by decide), lN_or, w8_s q2, b_i, nI_1]
      exact ih (k + 1) f (by omega)
  have w1 := wl 8 0 (1000000 - 9) (by decide)
  rw [show 8 + 1 + (1000000 - 9) = 1000000 by rfl, show lN (w8 b (a + 2) 0) = 0 from rfl, show nI 0 = (0 : Int32) from rfl] at w1
  rw [w1, f_X12_pageOn_111, if_pos (by decide), w355_58 (fr2.W hW), b_i, zl_at 132 rfl (by omega) (by decide), b_i, b_i]
  have fr4 : FR (Wpo p) M (zsL M2 384 (6 + p) (lN (w8 b (a + 2) 8))) := fr2.sL (by unfold Wpo; omega)
  have x1 : zL (zsL M2 384 (6 + p) (lN (w8 b (a + 2) 8))) 384 (6 + p) = lN (w8 b (a + 2) 8) := zL_se _ _ _ _
  have x2 : zI (zsL M2 384 (6 + p) (lN (w8 b (a + 2) 8))) = zI M2 := rfl
  revert fr4 x1 x2
  generalize zsL M2 384 (6 + p) (lN (w8 b (a + 2) 8)) = M3
  intro fr4 x1 x2
  unfold f_X12_pageOn_176
  rw [fr4.I (by unfold Wpo; omega), h39, lN_shr hw63 (by omega)]
  have hsl : w8 b (a + 2) 8 >>> kN h < 2 ^ 63 := by rw [Nat.shiftRight_eq_div_pow]; exact Nat.lt_of_le_of_lt (Nat.div_le_self _ _) hw63
  have cmp : ∀ y : Nat, y < 2 ^ 63 → (lg_cmp (lN y) 0 ≤ 0 ↔ y = 0) := fun y hy => ⟨fun x => Classical.byContradiction (fun q => lc_y0 hy q x), fun e => by rw [e]; exact lc_00⟩
  by_cases c7 : w8 b (a + 2) 8 < 2 ^ kN h
  rotate_left
  · have : onT h b a = false := by rw [hT, show onC h (w8 b (a + 2) 8) = false from decide_eq_false (fun x => c7 x.1), Bool.and_false]
    rw [show res = none from hres.trans (if_neg (fun x => by rw [this] at x; exact absurd x.2 (by decide)))]
    refine ⟨M3, ip ?_ rfl, fr4, fun r a' x => by cases x⟩
    have := fun x => c7 (shr_0.mp ((cmp _ hsl).mp x))
    exact Int32.not_le.mp this
  rw [if_neg (Int32.not_lt.mpr ((cmp _ hsl).mpr (shr_0.mpr c7)))]
  have hcc : kC h = kC h - 1 + 1 := by omega
  have lf := s_left2 (r0 := 355) (M := M3) (g := kG h) (c := kC h - 1) (n := kN h - kC h) (w := w8 b (a + 2) 8) (by rw [← hcc, fr4.I (by unfold Wpo; omega)]; exact h38) (by rw [fr4.L (by unfold Wpo; omega)]; exact h41) (by rw [show kC h - 1 + 2 = kC h + 1 by omega]; exact g1) (by omega) (by rw [← hcc, show kC h + (kN h - kC h) = kN h by omega]; exact c7)
  rw [← hcc] at lf
  have hrl := red_lt g1 g2 (kN h - kC h) (w8 b (a + 2) 8) (by rw [show kC h + (kN h - kC h) = kN h by omega]; exact c7)
  have hrl2 : (2 : Nat) ^ kC h ≤ 2 ^ 63 := Nat.pow_le_pow_right (by decide) (by omega)
  rw [lf, b_i]
  dsimp only
  by_cases c8 : red (kG h) (kC h) (kN h - kC h) (w8 b (a + 2) 8) = 0
  rotate_left
  · have : onT h b a = false := by rw [hT, show onC h (w8 b (a + 2) 8) = false from decide_eq_false (fun x => c8 x.2), Bool.and_false]
    rw [show res = none from hres.trans (if_neg (fun x => by rw [this] at x; exact absurd x.2 (by decide)))]
    exact ⟨M3, im (fun x => c8 ((cmp _ (by omega)).mp x)) rfl, fr4, fun r a' x => by cases x⟩
  rw [if_pos ((cmp _ (by omega)).mpr c8)]
  have hT2 : onT h b a = aL b (a + 10) 0 (kN h) := by rw [hT, decide_eq_true c5, show onC h (w8 b (a + 2) 8) = true from decide_eq_true ⟨c7, c8⟩, Bool.and_true, Bool.and_true]
  obtain ⟨M', d1, d2, d3⟩ := lv (kN h) 0 (1000000 - kN h - 1) M3 (by omega) fr4 (by rw [x2]; exact u2) (by rw [x2]; exact u1) x1 (fun q hq => absurd hq (by omega))
  rw [show kN h + 1 + (1000000 - kN h - 1) = 1000000 by omega] at d1
  rw [hT2] at hres
  refine ⟨M', ?_, d2, fun r a' x => ?_⟩
  · rw [show (0 : Int32) = nI 0 from rfl, d1, hres]
    by_cases q : aL b (a + 10) 0 (kN h) = true
    · rw [if_pos q, if_pos ⟨c4, q⟩]; rfl
    · rw [if_neg q, if_neg (fun x => q x.2)]; rfl
  · rw [hres] at x
    by_cases q : aL b (a + 10) 0 (kN h) = true
    · rw [if_pos ⟨c4, q⟩] at x
      cases x
      exact d3 q
    · rw [if_neg (fun x => q x.2)] at x; cases x
