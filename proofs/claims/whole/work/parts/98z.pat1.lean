/-! calls: patterns, what is marked -/
section
variable {M : Mem} {c0 : Nat} {h : CH}
def ps1 (h : CH) (w : Nat) : Nat := sy (kM h) (kP h) (kN h) w 1
def ps3 (h : CH) (w : Nat) : Nat := if 1 < kT h then sy (kM h) (kP h) (kN h) w 3 else 0
def th3 (h : CH) (i : Nat) : Nat := if 1 < kT h then fpw (kM h) (kP h) (3 * i) else 0
theorem ps1_x (h : CH) (a b : Nat) : ps1 h (a ^^^ b) = ps1 h a ^^^ ps1 h b := sy_xor _ _ _ _ _ _
theorem ps3_x (h : CH) (a b : Nat) : ps3 h (a ^^^ b) = ps3 h a ^^^ ps3 h b := by
  unfold ps3
  by_cases q : 1 < kT h
  · rw [if_pos q, if_pos q, if_pos q, sy_xor]
  · rw [if_neg q, if_neg q, if_neg q]; rfl
theorem ps1_b {i : Nat} (hi : i < kN h) : ps1 h (2 ^ i) = fpw (kM h) (kP h) i := by unfold ps1; rw [sy_bit _ _ _ _ _ hi, Nat.mul_one]
theorem ps3_b {i : Nat} (hi : i < kN h) : ps3 h (2 ^ i) = th3 h i := by
  unfold ps3 th3
  by_cases q : 1 < kT h
  · rw [if_pos q, if_pos q, sy_bit _ _ _ _ _ hi, Nat.mul_comm]
  · rw [if_neg q, if_neg q]
theorem ps_lt (v : CV h) (w : Nat) : ps1 h w < 64 ∧ ps3 h w < 64 := by
  have hm := f_m v.pr
  have h1 : sy (kM h) (kP h) (kN h) w 1 < 2 ^ kM h := sy_lt v.pr
  have h3 : sy (kM h) (kP h) (kN h) w 3 < 2 ^ kM h := sy_lt v.pr
  unfold ps1 ps3
  by_cases q : 1 < kT h
  · rw [if_pos q]; omega
  · rw [if_neg q]; omega
def PMk (h : CH) (i f g : Nat) : Prop := (f = 0 ∧ g = 0) ∨ (∃ a, a < i ∧ f = fpw (kM h) (kP h) a ∧ g = th3 h a) ∨ (1 < kT h ∧ ∃ a b, b < a ∧ a < i ∧ f = fpw (kM h) (kP h) a ^^^ fpw (kM h) (kP h) b ∧ g = th3 h a ^^^ th3 h b)
theorem few2 {n e : Nat} (he : e < 2 ^ n) (hp : pop n e ≤ 2) : e = 0 ∨ (∃ a, a < n ∧ e = 2 ^ a ∧ pop n e = 1) ∨ ∃ a b, b < a ∧ a < n ∧ e = 2 ^ a ^^^ 2 ^ b ∧ pop n e = 2 := by
  have fe := flips_eq he
  have hl := pop_fps n e
  have hg := fps_get n (fun k => e.testBit k)
  have hi := fps_inc n (fun k => e.testBit k)
  revert fe hl hg hi
  generalize fps n (fun k => e.testBit k) = F
  intro fe hl hg hi
  have hc : F.length = 0 ∨ F.length = 1 ∨ F.length = 2 := by omega
  rcases hc with q | q | q
  · rw [q] at fe; exact Or.inl fe.symm
  · rw [q] at fe
    refine Or.inr (Or.inl ⟨lg F 0, (hg 0 (by omega)).1, ?_, by omega⟩)
    rw [← fe]
    show 0 ^^^ 2 ^ lg F 0 = 2 ^ lg F 0
    exact Nat.zero_xor _
  · rw [q] at fe
    refine Or.inr (Or.inr ⟨lg F 1, lg F 0, hi 0 1 (by omega) (by omega), (hg 1 (by omega)).1, ?_, by omega⟩)
    rw [← fe]
    show (0 ^^^ 2 ^ lg F 0) ^^^ 2 ^ lg F 1 = 2 ^ lg F 1 ^^^ 2 ^ lg F 0
    rw [Nat.zero_xor, Nat.xor_comm]
theorem pat_back (v : CV h) (ht : kT h ≤ 2) {w e : Nat} (hw : w < 2 ^ kN h) (he : e < 2 ^ kN h) (hp : pop (kN h) e ≤ kT h) (h1 : ps1 h w = ps1 h e) (h3 : ps3 h w = ps3 h e) : kCa h w = 0 := by
  have hn := v.c.2.2
  have a1 : sy (kM h) (kP h) (kN h) w 1 = sy (kM h) (kP h) (kN h) e 1 := h1
  have a2 : sy (kM h) (kP h) (kN h) w 2 = sy (kM h) (kP h) (kN h) e 2 := by
    have := sy_sq (m := kM h) (p := kP h) (n := kN h) (w := w) (j := 1) v.pr
    have := sy_sq (m := kM h) (p := kP h) (n := kN h) (w := e) (j := 1) v.pr
    rw [show (2 : Nat) = 2 * 1 from rfl, sy_sq v.pr, sy_sq v.pr, a1]
  have a4 : sy (kM h) (kP h) (kN h) w 4 = sy (kM h) (kP h) (kN h) e 4 := by
    rw [show (4 : Nat) = 2 * 2 from rfl, sy_sq v.pr, sy_sq v.pr, a2]
  have a3 : 1 < kT h → sy (kM h) (kP h) (kN h) w 3 = sy (kM h) (kP h) (kN h) e 3 := fun q => by
    unfold ps3 at h3; rw [if_pos q, if_pos q] at h3; exact h3
  refine (dec_true (c := w ^^^ e) v.pr hn (Nat.xor_lt_two_pow hw he) (fun j j1 j2 => ?_) hw ?_).1
  · rw [sy_xor]
    have hj : sy (kM h) (kP h) (kN h) w j = sy (kM h) (kP h) (kN h) e j := by
      have hc : j = 1 ∨ j = 2 ∨ (j = 3 ∧ 1 < kT h) ∨ j = 4 := by omega
      rcases hc with q | q | ⟨q, q2⟩ | q
      · rw [q]; exact a1
      · rw [q]; exact a2
      · rw [q]; exact a3 q2
      · rw [q]; exact a4
    rw [hj, Nat.xor_self]
  · rw [← Nat.xor_assoc, Nat.xor_self, Nat.zero_xor]; exact hp
theorem pat_iff (v : CV h) (ht : kT h ≤ 2) {w : Nat} (hw : w < 2 ^ kN h) : kCa h w = 0 ↔ PMk h (kN h) (ps1 h w) (ps3 h w) := by
  have h1t := v.t.1
  constructor
  · intro h0
    obtain ⟨q1, q2, q3, -⟩ := dec_ok v.pr hw h0
    revert q1 q2 q3
    generalize dRs (kM h) (kP h) (kT h) (kN h) w = c
    intro q1 q2 q3
    have he : w ^^^ c < 2 ^ kN h := Nat.xor_lt_two_pow hw q2
    have e1 : ps1 h w = ps1 h (w ^^^ c) := by
      rw [ps1_x]
      have : ps1 h c = 0 := q1 1 (by omega) (by omega)
      rw [this, Nat.xor_zero]
    have e3 : ps3 h w = ps3 h (w ^^^ c) := by
      rw [ps3_x]
      have : ps3 h c = 0 := by
        unfold ps3
        by_cases q : 1 < kT h
        · rw [if_pos q]; exact q1 3 (by omega) (by omega)
        · rw [if_neg q]
      rw [this, Nat.xor_zero]
    rw [e1, e3]
    revert he q3
    generalize w ^^^ c = e
    intro q3 he
    rcases few2 he (show pop (kN h) e ≤ 2 by omega) with q | ⟨a, ha, q, -⟩ | ⟨a, b, hb, ha, q, hp⟩
    · refine Or.inl ?_
      rw [q]
      refine ⟨sy_0 _ _ _ _, ?_⟩
      unfold ps3
      by_cases q : 1 < kT h
      · rw [if_pos q]; exact sy_0 _ _ _ _
      · rw [if_neg q]
    · refine Or.inr (Or.inl ⟨a, ha, ?_, ?_⟩)
      · rw [q, ps1_b ha]
      · rw [q, ps3_b ha]
    · refine Or.inr (Or.inr ⟨by omega, a, b, hb, ha, ?_, ?_⟩)
      · rw [q, ps1_x, ps1_b ha, ps1_b (by omega)]
      · rw [q, ps3_x, ps3_b ha, ps3_b (by omega)]
  · rintro (⟨q1, q3⟩ | ⟨a, ha, q1, q3⟩ | ⟨ht2, a, b, hb, ha, q1, q3⟩)
    · refine pat_back v ht hw (e := 0) (Nat.pow_pos (by decide)) (by rw [pop_0]; omega) ?_ ?_
      · rw [q1]; exact (sy_0 _ _ _ _).symm
      · rw [q3]; unfold ps3
        by_cases q : 1 < kT h
        · rw [if_pos q]; exact (sy_0 _ _ _ _).symm
        · rw [if_neg q]
    · refine pat_back v ht hw (e := 2 ^ a) (Nat.pow_lt_pow_right (by decide) ha) (by have := pop_bit (kN h) a; omega) ?_ ?_
      · rw [q1, ps1_b ha]
      · rw [q3, ps3_b ha]
    · refine pat_back v ht hw (e := 2 ^ a ^^^ 2 ^ b) (Nat.xor_lt_two_pow (Nat.pow_lt_pow_right (by decide) ha) (Nat.pow_lt_pow_right (by decide) (by omega))) ?_ ?_ ?_
      · have h1 := pop_xor (kN h) (2 ^ a) (2 ^ b)
        have h2 := pop_bit (kN h) a
        have h3 := pop_bit (kN h) b
        omega
      · rw [q1, ps1_x, ps1_b ha, ps1_b (by omega)]
      · rw [q3, ps3_x, ps3_b ha, ps3_b (by omega)]
theorem s_fillL_l {a n : Nat} {v : Int64} (hs : (zSH a).2 = n) (hn : n < 2 ^ 31) : ∀ d i f M, i + d = n → (∀ k, k < i → zL M a k = v) → ∃ M', f_J7_fill_d0a16_6 a v (d + 1 + f) (nI i) (nI n) M = some M' ∧ FR (fun x _ => x = a) M M' ∧ ∀ k, k < n → zL M' a k = v := by
  intro d
  induction d with
  | zero =>
    intro i f M e hk
    have e2 : i = n := by omega
    subst e2
    exact ⟨M, by rw [show 0 + 1 + f = f + 1 by omega, f_J7_fill_d0a16_6, if_pos (nI_le (Nat.le_refl _) hn)], FR.rf _ M, hk⟩
  | succ d ih =>
    intro i f M e hk
    obtain ⟨M', e1, e2, e3⟩ := ih (i + 1) f (zsL M a i v) (by omega) (fun k hk2 => by
      by_cases h : k = i
      · subst h; exact zL_se M a k v
      · rw [zL_sn _ _ (by omega)]; exact hk k (by omega))
    refine ⟨M', ?_, FR.tr ((FR.rf (fun x _ => x = a) M).sL (a := a) (k := i) (v := v) rfl) e2, e3⟩
    rw [show d + 1 + 1 + f = (d + 1 + f) + 1 by omega, f_J7_fill_d0a16_6, if_neg (nI_ge (by omega) hn), zl_at n hs (by omega) hn, b_i, b_i, nI_1]
    exact e1
theorem s_fillL (M : Mem) {a n : Nat} {v : Int64} (hs : (zSH a).2 = n) (hn : n ≤ 999999) : ∃ M', f_J7_fill_d0a16 a v M = some M' ∧ FR (fun x _ => x = a) M M' ∧ ∀ k, k < n → zL M' a k = v := by
  have := s_fillL_l (v := v) hs (by omega) n 0 (1000000 - n - 1) M (by omega) (fun k h => absurd h (by omega))
  rw [show n + 1 + (1000000 - n - 1) = 1000000 by omega] at this
  unfold f_J7_fill_d0a16
  rw [zlen_e hs]
  exact this
def MKP (M : Mem) (c0 : Nat) (P : Nat → Nat → Prop) : Prop := ∃ Z : Nat → Nat, ∀ f, f < 64 → zL M (c0 + 5) f = lN (Z f) ∧ Z f < 2 ^ 64 ∧ ∀ g, g < 64 → ((Z f).testBit g = true ↔ P f g)
theorem MKP.iff {P Q : Nat → Nat → Prop} (k : MKP M c0 P) (e : ∀ f g, P f g ↔ Q f g) : MKP M c0 Q := by
  obtain ⟨Z, hZ⟩ := k
  exact ⟨Z, fun f hf => ⟨(hZ f hf).1, (hZ f hf).2.1, fun g hg => ((hZ f hf).2.2 g hg).trans (e f g)⟩⟩
theorem s_mark {P : Nat → Nat → Prop} {f g : Nat} (hW : WRc M) (hz : zCh2 c0) (hf : f < 64) (hg : g < 64) (k : MKP M c0 P) : ∃ M', f_X1_mark (c0 + 1) (nI f) (nI g) M = some M' ∧ FR (fun a _ => a = c0 + 5) M M' ∧ MKP M' c0 (fun f' g' => P f' g' ∨ (f' = f ∧ g' = g)) := by
  obtain ⟨Z, hZ⟩ := k
  refine ⟨zsL M (c0 + 5) f (lN (Z f ||| 2 ^ g)), ?_, (FR.rf (fun a _ => a = c0 + 5) M).sL rfl, fun x => if x = f then Z f ||| 2 ^ g else Z x, fun x hx => ?_⟩
  · unfold f_X1_mark
    rw [wK_3 hW hz, b_i, zl_at 64 (zK5 hz) hf (by decide), b_i, b_i, b_i, (hZ f hf).1, lN_bit hg, lN_or]
  · have hx2 := hZ x hx
    dsimp only
    by_cases q : x = f
    · subst q
      refine ⟨?_, ?_, fun y hy => ?_⟩
      · rw [zL_se, if_pos rfl]
      · rw [if_pos rfl]; exact Nat.or_lt_two_pow hx2.2.1 (Nat.pow_lt_pow_right (by decide) hg)
      · rw [if_pos rfl, Nat.testBit_or, Nat.testBit_two_pow, Bool.or_eq_true, decide_eq_true_iff, hx2.2.2 y hy]
        exact ⟨fun z => z.imp id (fun e => ⟨rfl, e.symm⟩), fun z => z.imp id (fun e => e.2.symm)⟩
    · refine ⟨?_, ?_, fun y hy => ?_⟩
      · rw [zL_sn _ _ (by omega), if_neg q]; exact hx2.1
      · rw [if_neg q]; exact hx2.2.1
      · rw [if_neg q, hx2.2.2 y hy]
        exact ⟨Or.inl, fun z => z.resolve_right (fun e => q e.1)⟩
theorem s_third (v : CV h) (hC : CC M c0 h) {i : Nat} (hi : i < kN h) : f_X1_thirdOf (c0 + 1) (nI i) M = some (nI (th3 h i), M) := by
  obtain ⟨-, cO, -⟩ := hC.cd
  have hm := f_m cO.pr
  have hn := v.n63
  unfold f_X1_thirdOf f_X1_thirdOf_31 f_X1_thirdOf_32 th3
  rw [hC.t]
  by_cases q : 1 < kT h
  · rw [if_pos q]
    refine im (nI_ge (a := 1) q (by have := v.t; omega)) ?_
    have hl := Nat.mod_lt (3 * i) (show 0 < fN (kM h) by omega)
    rw [cO.r0, b_i, cO.sz, if_neg (nI_nle (by omega) (by omega)), if_neg (nI_ne0 (by omega) (by omega)), show (3 : Int32) = nI 3 from rfl, pk_mul, zrem_nI (by omega) (by omega) (by omega), zl_at 63 cO.s0 (by omega) (by decide), b_i, cO.tp _ hl, f_per cO.pr]
  · rw [if_neg q]
    exact ip (nI_le (b := 1) (by omega) (by decide)) rfl
theorem CC.k5 {M1 : Mem} (g : CC M c0 h) (f : FR (fun a _ => a = c0 + 5) M M1) : CC M1 c0 h := g.kc (f.mo (fun a j q => by unfold Wkc; omega))
theorem th3_lt (v : CV h) (i : Nat) : th3 h i < 2 ^ kM h := by
  unfold th3
  by_cases q : 1 < kT h
  · rw [if_pos q]; exact (f_pos v.pr _).2
  · rw [if_neg q]; exact Nat.pow_pos (by decide)
theorem s_mk49 {K : Int32 → Mem → Option Mem} (v : CV h) {i : Nat} (hi : i < kN h) : ∀ e j f M P, j + e = i → WRc M → CC M c0 h → MKP M c0 P → ∃ M', f_X1_markMendable_49 K (c0 + 1) (e + 1 + f) (nI i) (nI j) M = K (nI (i + 1)) M' ∧ FR (fun a _ => a = c0 + 5) M M' ∧ MKP M' c0 (fun f g => P f g ∨ ∃ b, j ≤ b ∧ b < i ∧ f = fpw (kM h) (kP h) i ^^^ fpw (kM h) (kP h) b ∧ g = th3 h i ^^^ th3 h b) := by
  have hn := v.n63
  have hm := f_m v.pr
  have hnf := v.c.2.2
  intro e
  induction e with
  | zero =>
    intro j f M P hj hW hC k
    refine ⟨M, ?_, FR.rf _ M, k.iff (fun f g => ⟨Or.inl, fun q => q.resolve_right (fun ⟨b, b1, b2, _⟩ => by omega)⟩)⟩
    rw [show 0 + 1 + f = f + 1 by omega, f_X1_markMendable_49]
    refine ip (nI_le (by omega) (by omega)) ?_
    unfold f_X1_markMendable_88
    rw [nI_1]
  | succ e ih =>
    intro j f M P hj hW hC k
    obtain ⟨-, cO, -⟩ := hC.cd
    have x1 : fpw (kM h) (kP h) i ^^^ fpw (kM h) (kP h) j < 2 ^ kM h := Nat.xor_lt_two_pow (f_pos v.pr i).2 (f_pos v.pr j).2
    have x2 : th3 h i ^^^ th3 h j < 2 ^ kM h := Nat.xor_lt_two_pow (th3_lt v i) (th3_lt v j)
    obtain ⟨M1, a1, a2, a3⟩ := s_mark hW hC.z (show fpw (kM h) (kP h) i ^^^ fpw (kM h) (kP h) j < 64 by omega) (show th3 h i ^^^ th3 h j < 64 by omega) k
    obtain ⟨M', b1, b2, b3⟩ := ih (j + 1) f M1 _ (by omega) (a2.W hW) (hC.k5 a2) a3
    refine ⟨M', ?_, a2.tr b2, b3.iff (fun f g => ?_)⟩
    · rw [show e + 1 + 1 + f = (e + 1 + f) + 1 by omega, f_X1_markMendable_49]
      refine im (nI_ge (by omega) (by omega)) ?_
      rw [cO.r0, b_i, zl_at 63 cO.s0 (by omega) (by decide), b_i, b_i, zl_at 63 cO.s0 (by omega) (by decide), b_i, s_third v hC hi, b_i]
      dsimp only
      rw [s_third v hC (by omega), b_i, cO.tp i (by omega), cO.tp j (by omega)]
      dsimp only
      rw [nI_xor, nI_xor, a1, b_i, nI_1]
      exact b1
    · constructor
      · rintro ((q | q) | ⟨b, u1, u2, u3⟩)
        · exact Or.inl q
        · exact Or.inr ⟨j, by omega, by omega, q.1, q.2⟩
        · exact Or.inr ⟨b, by omega, u2, u3⟩
      · rintro (q | ⟨b, u1, u2, u3, u4⟩)
        · exact Or.inl (Or.inl q)
        · by_cases z : b = j
          · subst z; exact Or.inl (Or.inr ⟨u3, u4⟩)
          · exact Or.inr ⟨b, by omega, u2, u3, u4⟩
theorem s_mk16 (v : CV h) : ∀ e i f M, i + e = kN h → WRc M → CC M c0 h → MKP M c0 (PMk h i) → ∃ M', f_X1_markMendable_16 (c0 + 1) (e + 1 + f) (nI i) M = some M' ∧ FR (fun a _ => a = c0 + 5) M M' ∧ MKP M' c0 (PMk h (kN h)) := by
  have hn := v.n63
  have hm := f_m v.pr
  intro e
  induction e with
  | zero =>
    intro i f M hi hW hC k
    have hi : i = kN h := by omega
    subst hi
    refine ⟨M, ?_, FR.rf _ M, k⟩
    rw [show 0 + 1 + f = f + 1 by omega, f_X1_markMendable_16, hC.n]
    exact ip (nI_le (by omega) (by omega)) rfl
  | succ e ih =>
    intro i f M hi hW hC k
    obtain ⟨-, cO, -, -, hnf, -⟩ := hC.cd
    have x1 := (f_pos v.pr i).2
    have x2 := th3_lt v i
    obtain ⟨M1, a1, a2, a3⟩ := s_mark hW hC.z (show fpw (kM h) (kP h) i < 64 by omega) (show th3 h i < 64 by omega) k
    have pre : ∀ K : Mem → Option Mem, Option.bind (f_X1_mark (c0 + 1) (nI (fpw (kM h) (kP h) i)) (nI (th3 h i)) M) K = K M1 := fun K => by rw [a1, b_i]
    rw [show e + 1 + 1 + f = (e + 1 + f) + 1 by omega, f_X1_markMendable_16, hC.n]
    by_cases q : 1 < kT h
    · obtain ⟨M2, b1, b2, b3⟩ := s_mk49 (K := f_X1_markMendable_16 (c0 + 1) (e + 1 + f)) v (show i < kN h by omega) i 0 (1000000 - i - 1) M1 _ (by omega) (a2.W hW) (hC.k5 a2) a3
      rw [show i + 1 + (1000000 - i - 1) = 1000000 by omega] at b1
      obtain ⟨M3, d1, d2, d3⟩ := ih (i + 1) f M2 (by omega) ((a2.tr b2).W hW) (hC.k5 (a2.tr b2)) (b3.iff (fun f g => by
        constructor
        · rintro (((q | ⟨a, u1, u2⟩ | ⟨-, a, b, u1, u2, u3⟩) | q) | ⟨b, -, u2, u3, u4⟩)
          · exact Or.inl q
          · exact Or.inr (Or.inl ⟨a, by omega, u2⟩)
          · exact Or.inr (Or.inr ⟨by omega, a, b, u1, by omega, u3⟩)
          · exact Or.inr (Or.inl ⟨i, by omega, q⟩)
          · exact Or.inr (Or.inr ⟨by omega, i, b, u2, by omega, u3, u4⟩)
        · rintro (q | ⟨a, u1, u2⟩ | ⟨t, a, b, u1, u2, u3⟩)
          · exact Or.inl (Or.inl (Or.inl q))
          · by_cases z : a = i
            · subst z; exact Or.inl (Or.inr u2)
            · exact Or.inl (Or.inl (Or.inr (Or.inl ⟨a, by omega, u2⟩)))
          · by_cases z : a = i
            · subst z; exact Or.inr ⟨b, by omega, u1, u3⟩
            · exact Or.inl (Or.inl (Or.inr (Or.inr ⟨t, a, b, u1, by omega, u3⟩)))))
      refine ⟨M3, ?_, (a2.tr b2).tr d2, d3⟩
      refine im (nI_ge (by omega) (by omega)) ?_
      rw [cO.r0, b_i, zl_at 63 cO.s0 (by omega) (by decide), b_i, s_third v hC (by omega), b_i, cO.tp i (by omega)]
      dsimp only
      rw [pre, (hC.k5 a2).t]
      refine im (nI_ge (a := 1) q (by have := v.t; omega)) ?_
      exact b1.trans d1
    · obtain ⟨M3, d1, d2, d3⟩ := ih (i + 1) f M1 (by omega) (a2.W hW) (hC.k5 a2) (a3.iff (fun f g => by
        constructor
        · rintro ((q | ⟨a, u1, u2⟩ | ⟨t, _⟩) | q)
          · exact Or.inl q
          · exact Or.inr (Or.inl ⟨a, by omega, u2⟩)
          · omega
          · exact Or.inr (Or.inl ⟨i, by omega, q⟩)
        · rintro (q | ⟨a, u1, u2⟩ | ⟨t, _⟩)
          · exact Or.inl (Or.inl q)
          · by_cases z : a = i
            · subst z; exact Or.inr u2
            · exact Or.inl (Or.inr (Or.inl ⟨a, by omega, u2⟩))
          · omega))
      refine ⟨M3, ?_, a2.tr d2, d3⟩
      refine im (nI_ge (by omega) (by omega)) ?_
      rw [cO.r0, b_i, zl_at 63 cO.s0 (by omega) (by decide), b_i, s_third v hC (by omega), b_i, cO.tp i (by omega)]
      dsimp only
      rw [pre, (hC.k5 a2).t]
      refine ip (nI_le (b := 1) (by omega) (by decide)) ?_
      unfold f_X1_markMendable_88
      rw [nI_1]
      exact d1
theorem s_markMendable (v : CV h) (hW : WRc M) (hC : CC M c0 h) : ∃ M', f_X1_markMendable (c0 + 1) M = some M' ∧ FR (fun a _ => a = c0 + 5) M M' ∧ MKP M' c0 (PMk h (kN h)) := by
  have hn := v.n63
  obtain ⟨M1, a1, a2, a3⟩ := s_fillL M (v := 0) (zK5 hC.z) (by decide)
  have k0 : MKP M1 c0 (fun _ _ => False) := ⟨fun _ => 0, fun f hf => ⟨(a3 f hf).trans rfl, (by decide : 0 < 2 ^ 64), fun g _ => by rw [Nat.zero_testBit]; exact ⟨fun q => (by cases q), False.elim⟩⟩⟩
  obtain ⟨M2, b1, b2, b3⟩ := s_mark (f := 0) (g := 0) (a2.W hW) hC.z (by decide) (by decide) k0
  obtain ⟨M3, d1, d2, d3⟩ := s_mk16 v (kN h) 0 (1000000 - kN h - 1) M2 (by omega) ((a2.tr b2).W hW) (hC.k5 (a2.tr b2)) (b3.iff (fun f g => ⟨fun q => q.elim False.elim Or.inl, fun q => by
    rcases q with q | ⟨a, a1, _⟩ | ⟨_, a, b, _, a1, _⟩
    · exact Or.inr q
    · omega
    · omega⟩))
  rw [show kN h + 1 + (1000000 - kN h - 1) = 1000000 by omega] at d1
  refine ⟨M3, ?_, (a2.tr b2).tr d2, d3⟩
  unfold f_X1_markMendable
  rw [wK_3 hW hC.z, b_i, a1, b_i]
  have b1 : f_X1_mark (c0 + 1) 0 0 M1 = some M2 := b1
  rw [b1, b_i]
  exact d1
end
