/-! calls: chance -/
def nx (s : Nat) : Nat := (1103515245 * s + 12345) % 2147483648
theorem nx_lt (s : Nat) : nx s < 2147483648 := Nat.mod_lt _ (by decide)
theorem nx_l {s : Nat} (hs : s < 2147483648) : zlrem ((1103515245 * lN s) + 12345) 2147483648 = lN (nx s) := by
  rw [show (1103515245 : Int64) = lN 1103515245 from rfl, lN_mul, show (12345 : Int64) = lN 12345 from rfl, lN_add, show (2147483648 : Int64) = lN 2147483648 from rfl]
  exact pk_lRem (by omega) (by decide) (by decide)
theorem s_draw {M : Mem} {sd b : Nat} (hs : sd < 2147483648) (hb : 0 < b) (hb2 : b < 2 ^ 30) (h16 : zI M 0 16 = nI sd) {x : Int32} (hx : x = nI b) : f_X11_draw 0 x M = some (nI (nx sd / 64 % b), zsI M 0 16 (nI (nx sd))) := by
  subst hx
  have h1 := nx_lt sd
  unfold f_X11_draw f_X11_draw_39
  rw [h16, nI_i2l (by omega), nx_l hs, lN_i, b_i, if_neg (nI_nle hb (by omega)), if_neg (nI_ne0 hb (by omega)), zI_se, show (64 : Int32) = nI 64 from rfl, pk_div (by omega) (by decide) (by decide), zrem_nI (by omega) hb (by omega)]
theorem s_mdraw {M : Mem} {sd b : Nat} (hs : sd < 2147483648) (hb : 0 < b) (hb2 : b < 2 ^ 30) (h64 : zL M 355 64 = lN sd) {x : Int32} (hx : x = nI b) : f_X12_draw 355 x M = some (nI (nx sd / 64 % b), zsL M 355 64 (lN (nx sd))) := by
  subst hx
  have h1 := nx_lt sd
  unfold f_X12_draw
  rw [h64, nx_l hs, b_i, nI_i2l (by omega), if_neg (show ¬ lN b = 0 from fun q => by have := (pk_lEQ (a := b) (b := 0) (by omega) (by decide)).mp q; omega), zL_se, show (64 : Int64) = lN 64 from rfl, pk_lDiv (by omega) (by decide) (by decide)]
  have : zlrem (lN (nx sd / 64)) (lN b) = lN (nx sd / 64 % b) := pk_lRem (by omega) hb (by omega)
  rw [this, lN_i]
abbrev NZ : Type := PSt × Nat × Nat
def nz1 (h : CH) (i : Nat) (x : NZ) : NZ := if (x.1.2 i).1 = true then (if nx x.2.1 / 64 % 100 < kZ h then (upS x.1 i (tnR (x.1.2 i) (nx (nx x.2.1) / 64 % kN h)), nx (nx x.2.1), x.2.2 + 1) else (x.1, nx x.2.1, x.2.2)) else x
def nzs (h : CH) : Nat → NZ → NZ
  | 0, x => x
  | k + 1, x => nz1 h k (nzs h k x)
theorem nz1_ct (h : CH) (i : Nat) (x : NZ) (c : Nat) : nz1 h i (x.1, x.2.1, c + x.2.2) = ((nz1 h i x).1, (nz1 h i x).2.1, c + (nz1 h i x).2.2) := by
  unfold nz1
  by_cases h1 : (x.1.2 i).1 = true
  · rw [if_pos h1, if_pos h1]
    by_cases h2 : nx x.2.1 / 64 % 100 < kZ h
    · rw [if_pos h2, if_pos h2]; rfl
    · rw [if_neg h2, if_neg h2]
  · rw [if_neg h1, if_neg h1]
theorem nzs_ct (h : CH) (S : PSt) (sd c : Nat) : ∀ k, nzs h k (S, sd, c) = ((nzs h k (S, sd, 0)).1, (nzs h k (S, sd, 0)).2.1, c + (nzs h k (S, sd, 0)).2.2) := by
  intro k
  induction k with
  | zero => rfl
  | succ k ih =>
    show nz1 h k (nzs h k (S, sd, c)) = _
    rw [ih]
    exact nz1_ct h k (nzs h k (S, sd, 0)) c
def chs (h : CH) (S : PSt) (sd : Nat) : Nat → NZ
  | 0 => (S, sd, 0)
  | k + 1 => nzs h (kQ h) (pdS h (chs h S sd k).1, (chs h S sd k).2.1, (chs h S sd k).2.2)
theorem nz1_ok {h : CH} (v : CV h) {i : Nat} (hi : i < kQ h) {x : NZ} (g : PV h x.1) (hs : x.2.1 < 2147483648) : PV h (nz1 h i x).1 ∧ (nz1 h i x).2.1 < 2147483648 ∧ (nz1 h i x).1.1 = x.1.1 ∧ x.2.2 ≤ (nz1 h i x).2.2 ∧ (nz1 h i x).2.2 ≤ x.2.2 + 1 := by
  unfold nz1
  by_cases h1 : (x.1.2 i).1 = true
  · rw [if_pos h1]
    by_cases h2 : nx x.2.1 / 64 % 100 < kZ h
    · rw [if_pos h2]
      refine ⟨g.up hi (RV.tn ?_), nx_lt _, rfl, by simp, by simp⟩
      exact g.1 i (by have := v.q; omega)
    · rw [if_neg h2]; exact ⟨g, nx_lt _, rfl, by simp, by simp⟩
  · rw [if_neg h1]; exact ⟨g, hs, rfl, by simp, by simp⟩
theorem nzs_ok {h : CH} (v : CV h) {x : NZ} (g : PV h x.1) (hs : x.2.1 < 2147483648) : ∀ k, k ≤ kQ h → PV h (nzs h k x).1 ∧ (nzs h k x).2.1 < 2147483648 ∧ (nzs h k x).1.1 = x.1.1 ∧ (nzs h k x).2.2 ≤ x.2.2 + k := by
  intro k
  induction k with
  | zero => intro _; exact ⟨g, hs, rfl, Nat.le_refl _⟩
  | succ k ih =>
    intro hk
    obtain ⟨a1, a2, a3, a4⟩ := ih (by omega)
    obtain ⟨b1, b2, b3, b4, b5⟩ := nz1_ok v (by omega : k < kQ h) a1 a2
    exact ⟨b1, b2, b3.trans a3, Nat.le_trans b5 (by omega)⟩
theorem chs_ok {h : CH} (v : CV h) {S : PSt} {sd : Nat} (g : PV h S) (hs : sd < 2147483648) : ∀ k, S.1 + k ≤ 999 → PV h (chs h S sd k).1 ∧ (chs h S sd k).2.1 < 2147483648 ∧ (chs h S sd k).1.1 = S.1 + k ∧ (chs h S sd k).2.2 ≤ 6 * k := by
  have hq := v.q
  intro k
  induction k with
  | zero => intro _; exact ⟨g, hs, rfl, Nat.le_refl _⟩
  | succ k ih =>
    intro hk
    obtain ⟨a1, a2, a3, a4⟩ := ih (by omega)
    obtain ⟨b1, b2, b3, b4⟩ := nzs_ok v (x := (pdS h (chs h S sd k).1, (chs h S sd k).2.1, (chs h S sd k).2.2)) (a1.pd (by rw [a3]; omega)) a2 (kQ h) (Nat.le_refl _)
    refine ⟨b1, b2, b3.trans ?_, Nat.le_trans b4 ?_⟩
    · show (chs h S sd k).1.1 + 1 = _; rw [a3]; omega
    · show (chs h S sd k).2.2 + kQ h ≤ _; omega
def WcB (a j : Nat) : Prop := WcA a j ∨ (a = 0 ∧ j = 16)
def WmB (a j : Nat) : Prop := WmA a j ∨ (a = 355 ∧ j = 64)
section
variable {M : Mem} {c0 : Nat} {h : CH} {S : PSt} {T c s : Nat} {E : Nat → Nat → Nat} {sv : Nat → PSt × Nat}
theorem LC.sd {M1 : Mem} (l : LC M c0 h S T E c sv) (f : FR (fun a j => a = 0 ∧ j = 16) M M1) : LC M1 c0 h S T E c sv := by
  obtain ⟨g1, g2, g3, g4, g5, g6, g7⟩ := l
  have hz : c0 = 335 ∨ c0 = 344 := g2.z
  exact ⟨(f.R _ _).trans g1, g2.fr f (fun a j p q => by unfold Wch at p; omega), (f.I (by omega)).trans g3, g4.fr f (fun a j _ _ => by omega), g5.fr f (fun a j _ _ => by omega), g6.fr f (fun a j p => by omega), g7.fr f (by omega) (fun _ => by omega) (fun _ => by omega)⟩
theorem LM.sd {M1 : Mem} (v : CV h) (l : LM M h S T E c sv) (f : FR (fun a j => a = 355 ∧ j = 64) M M1) : LM M1 h S T E c sv := by
  obtain ⟨g1, g2, g3, g4⟩ := l
  exact ⟨g1.fr f (fun a j p q => by unfold Wmc at p; omega), (f.I (by omega)).trans g2, g3.fr v.n63.1 f (fun a j p q => by unfold Wla at p; omega), g4.fr v.n63.1 f (fun a j p q => by unfold Wpa at p; omega)⟩
theorem c_noise (hW : WRc M) (v : CV h) {sd : Nat} (pv : PV h S) (hs : sd < 2147483648) (l : LC M c0 h S T E c sv) (h16 : zI M 0 16 = nI sd) : ∃ M1, f_X11_addNoise 0 M = some (nI (nzs h (kQ h) (S, sd, 0)).2.2, M1) ∧ FR WcB M M1 ∧ LC M1 c0 h (nzs h (kQ h) (S, sd, 0)).1 T E c sv ∧ zI M1 0 16 = nI (nzs h (kQ h) (S, sd, 0)).2.1 := by
  have hq := v.q
  have hn := v.n63
  have hz := v.s
  have lp : ∀ e i f M0, i + e = kQ h → FR WcB M M0 → LC M0 c0 h (nzs h i (S, sd, 0)).1 T E c sv → zI M0 0 16 = nI (nzs h i (S, sd, 0)).2.1 → ∃ M1, f_X11_addNoise_4 0 (e + 1 + f) (nI (nzs h i (S, sd, 0)).2.2) (nI i) M0 = some (nI (nzs h (kQ h) (S, sd, 0)).2.2, M1) ∧ FR WcB M M1 ∧ LC M1 c0 h (nzs h (kQ h) (S, sd, 0)).1 T E c sv ∧ zI M1 0 16 = nI (nzs h (kQ h) (S, sd, 0)).2.1 := by
    intro e
    induction e with
    | zero =>
      intro i f M0 ei fr l0 q16
      have : i = kQ h := by omega
      subst this
      exact ⟨M0, by rw [show 0 + 1 + f = f + 1 by omega, f_X11_addNoise_4, l0.1, b_i, l0.2.1.q, if_pos (nI_le (Nat.le_refl _) (by omega))], fr, l0, q16⟩
    | succ e ih =>
      intro i f M0 ei fr l0 q16
      have hW0 := fr.W hW
      obtain ⟨k1, k2, k3, k4⟩ := nzs_ok v (x := (S, sd, 0)) pv hs i (by omega)
      have hst : nzs h (i + 1) (S, sd, 0) = nz1 h i (nzs h i (S, sd, 0)) := rfl
      obtain ⟨X, hX⟩ : ∃ X, X = nzs h i (S, sd, 0) := ⟨_, rfl⟩
      rw [← hX] at l0 q16 k1 k2 hst ⊢
      have hr := l0.2.2.2.1.2 i (by omega)
      have ih := ih (i + 1) f
      rw [hst] at ih
      unfold nz1 at ih
      rw [show e + 1 + 1 + f = (e + 1 + f) + 1 by omega, f_X11_addNoise_4, l0.1, b_i, l0.2.1.q, if_neg (nI_ge (by omega) (by omega)), crow hW0 (by omega), hr.2.1]
      unfold f_X11_addNoise_75
      cases hb : (X.1.2 i).1 with
      | false =>
        rw [hb, if_neg (by decide)] at ih
        rw [if_pos b01_f, nI_1]
        exact ih M0 (by omega) fr l0 q16
      | true =>
        rw [hb, if_pos rfl] at ih
        rw [if_neg b01_n0, s_draw (b := 100) (x := 100) k2 (by decide) (by decide) q16 rfl, b_i]
        dsimp only
        have f1 : FR (fun a j => a = 0 ∧ j = 16) M0 (zsI M0 0 16 (nI (nx X.2.1))) := (FR.rf _ M0).sI ⟨rfl, rfl⟩
        have l1 := l0.sd f1
        have v16 : zI (zsI M0 0 16 (nI (nx X.2.1))) 0 16 = nI (nx X.2.1) := zI_se _ _ _ _
        have fr1 : FR WcB M (zsI M0 0 16 (nI (nx X.2.1))) := fr.tr (f1.mo (fun a j q => Or.inr q))
        revert f1 l1 v16 fr1
        generalize zsI M0 0 16 (nI (nx X.2.1)) = M1
        intro f1 l1 v16 fr1
        have hW1 := fr1.W hW
        rw [l1.1, b_i, l1.2.1.s.2.2.2.2]
        have hm : nx X.2.1 / 64 % 100 < 100 := Nat.mod_lt _ (by decide)
        by_cases hlt : nx X.2.1 / 64 % 100 < kZ h
        · rw [if_pos hlt] at ih
          have hc : nx (nx X.2.1) / 64 % kN h < kN h := Nat.mod_lt _ (by omega)
          rw [if_neg (nI_ge hlt (by omega)), crow hW1 (by omega), b_i, wC_0 hW1 l1.2.1.z, b_i, l1.2.1.n, s_draw (b := kN h) (nx_lt _) (by omega) (by omega) v16 rfl, b_i]
          dsimp only
          have f2 : FR (fun a j => a = 0 ∧ j = 16) M1 (zsI M1 0 16 (nI (nx (nx X.2.1)))) := (FR.rf _ M1).sI ⟨rfl, rfl⟩
          have l2 := l1.sd f2
          have v16' : zI (zsI M1 0 16 (nI (nx (nx X.2.1)))) 0 16 = nI (nx (nx X.2.1)) := zI_se _ _ _ _
          have fr2 : FR WcB M (zsI M1 0 16 (nI (nx (nx X.2.1)))) := fr1.tr (f2.mo (fun a j q => Or.inr q))
          revert f2 l2 v16' fr2
          generalize zsI M1 0 16 (nI (nx (nx X.2.1))) = M2
          intro f2 l2 v16' fr2
          have hV := k1.1 i (by omega)
          obtain ⟨M3, t1, t2, t3⟩ := s_rturn (fr2.W hW) (pq_r (Or.inl rfl : PQ 13) (by omega : i < 6)) hc hn.1 (l2.2.2.2.1.2 i (by omega)) hb ((hV hb).2.2.2 _ hc)
          have t3 : CR M3 (13 + 2 + 2 * i) (kN h) i (tnR (X.1.2 i) (nx (nx X.2.1) / 64 % kN h)) := t3.ext hb rfl rfl (fun _ _ => rfl)
          have f3 : FR (fun a _ => a = 13 + 2 + 2 * i ∨ a = 13 + 2 + 2 * i + 1) M2 M3 := t2.mo (fun a j q => Or.inr q)
          rw [t1, b_i, nI_1, nI_1]
          exact ih M3 (by omega) (fr2.tr (f3.mo (fun a j q => Or.inl (Wro (by omega) q)))) (l2.up (by omega) f3 t3) ((f3.I (by omega)).trans v16')
        · rw [if_neg hlt] at ih
          rw [if_pos (nI_le (by omega) (by omega)), nI_1]
          exact ih M1 (by omega) fr1 l1 v16
  have := lp (kQ h) 0 (1000000 - kQ h - 1) M (by omega) (FR.rf _ M) l h16
  rw [show kQ h + 1 + (1000000 - kQ h - 1) = 1000000 by omega] at this
  exact this
theorem m_noise (hW : WRc M) (v : CV h) {sd ct : Nat} {x1 x3 : Int32} {k25 : Int32 → Int32 → Mem → Option (Int32 × Mem)} (pv : PV h S) (hs : sd < 2147483648) (l : LM M h S T E c sv) (h64 : zL M 355 64 = lN sd) : ∃ M1, f_X12_chance_38 k25 355 x1 1000000 (nI ct) x3 0 M = k25 (nI (nzs h (kQ h) (S, sd, ct)).2.2) (x3 + 1) M1 ∧ FR WmB M M1 ∧ LM M1 h (nzs h (kQ h) (S, sd, ct)).1 T E c sv ∧ zL M1 355 64 = lN (nzs h (kQ h) (S, sd, ct)).2.1 := by
  have hq := v.q
  have hn := v.n63
  have hz := v.s
  have lp : ∀ e i f M0, i + e = kQ h → FR WmB M M0 → LM M0 h (nzs h i (S, sd, ct)).1 T E c sv → zL M0 355 64 = lN (nzs h i (S, sd, ct)).2.1 → ∃ M1, f_X12_chance_38 k25 355 x1 (e + 1 + f) (nI (nzs h i (S, sd, ct)).2.2) x3 (nI i) M0 = k25 (nI (nzs h (kQ h) (S, sd, ct)).2.2) (x3 + 1) M1 ∧ FR WmB M M1 ∧ LM M1 h (nzs h (kQ h) (S, sd, ct)).1 T E c sv ∧ zL M1 355 64 = lN (nzs h (kQ h) (S, sd, ct)).2.1 := by
    intro e
    induction e with
    | zero =>
      intro i f M0 ei fr l0 q16
      have : i = kQ h := by omega
      subst this
      obtain ⟨bk, ⟨c1, c2, -⟩, -, c5, -⟩ := id l0.1
      exact ⟨M0, by rw [show 0 + 1 + f = f + 1 by omega, f_X12_chance_38, w355_15 (fr.W hW), b_i, c2, zl_at 2 rfl (by omega) (by decide), b_i, c5, if_pos (nI_le (Nat.le_refl _) (by omega))], fr, l0, q16⟩
    | succ e ih =>
      intro i f M0 ei fr l0 q16
      have hW0 := fr.W hW
      obtain ⟨k1, k2, k3, k4⟩ := nzs_ok v (x := (S, sd, ct)) pv hs i (by omega)
      have hst : nzs h (i + 1) (S, sd, ct) = nz1 h i (nzs h i (S, sd, ct)) := rfl
      obtain ⟨X, hX⟩ : ∃ X, X = nzs h i (S, sd, ct) := ⟨_, rfl⟩
      rw [← hX] at l0 q16 k1 k2 hst ⊢
      have hr := (l0.2.2.1.2 i (by omega)).1
      rw [Nat.mul_zero, Nat.zero_add] at hr
      have ih := ih (i + 1) f
      rw [hst] at ih
      unfold nz1 at ih
      obtain ⟨bk, ⟨c1, c2, -⟩, -, c5, -⟩ := id l0.1
      rw [show e + 1 + 1 + f = (e + 1 + f) + 1 by omega, f_X12_chance_38, w355_15 hW0, b_i, c2, zl_at 2 rfl (by omega) (by decide), b_i, c5, if_neg (nI_ge (by omega) (by omega)), w355_56 hW0, b_i, zl_at 132 rfl (by omega) (by decide), b_i, hr]
      unfold f_X12_chance_114
      cases hb : (X.1.2 i).1 with
      | false =>
        rw [hb, if_neg (by decide)] at ih
        rw [if_pos b01_f, nI_1]
        exact ih M0 (by omega) fr l0 q16
      | true =>
        rw [hb, if_pos rfl] at ih
        rw [if_neg b01_n0, s_mdraw (b := 100) (x := 100) k2 (by decide) (by decide) q16 rfl, b_i]
        dsimp only
        have f1 : FR (fun a j => a = 355 ∧ j = 64) M0 (zsL M0 355 64 (lN (nx X.2.1))) := (FR.rf _ M0).sL ⟨rfl, rfl⟩
        have l1 := l0.sd v f1
        have v16 : zL (zsL M0 355 64 (lN (nx X.2.1))) 355 64 = lN (nx X.2.1) := zL_se _ _ _ _
        have fr1 : FR WmB M (zsL M0 355 64 (lN (nx X.2.1))) := fr.tr (f1.mo (fun a j q => Or.inr q))
        revert f1 l1 v16 fr1
        generalize zsL M0 355 64 (lN (nx X.2.1)) = M1
        intro f1 l1 v16 fr1
        have hW1 := fr1.W hW
        obtain ⟨bk', ⟨-, -, hMD⟩, -, -, ⟨-, -, -, -, b8⟩, -⟩ := id l1.1
        rw [s_by (x := 8) hW1 rfl (by decide) b8, b_i]
        dsimp only
        have hm : nx X.2.1 / 64 % 100 < 100 := Nat.mod_lt _ (by decide)
        by_cases hlt : nx X.2.1 / 64 % 100 < kZ h
        · rw [if_pos hlt] at ih
          have hc : nx (nx X.2.1) / 64 % kN h < kN h := Nat.mod_lt _ (by omega)
          rw [if_pos (nI_lt hlt (by omega)), hMD.2.2.1, s_mdraw (b := kN h) (nx_lt _) (by omega) (by omega) v16 rfl, b_i]
          dsimp only
          have f2 : FR (fun a j => a = 355 ∧ j = 64) M1 (zsL M1 355 64 (lN (nx (nx X.2.1)))) := (FR.rf _ M1).sL ⟨rfl, rfl⟩
          have l2 := l1.sd v f2
          have v16' : zL (zsL M1 355 64 (lN (nx (nx X.2.1)))) 355 64 = lN (nx (nx X.2.1)) := zL_se _ _ _ _
          have fr2 : FR WmB M (zsL M1 355 64 (lN (nx (nx X.2.1)))) := fr1.tr (f2.mo (fun a j q => Or.inr q))
          revert f2 l2 v16' fr2
          generalize zsL M1 355 64 (lN (nx (nx X.2.1))) = M2
          intro f2 l2 v16' fr2
          have hV := k1.1 i (by omega)
          have hmr := l2.2.2.1.2 i (by omega)
          have hle := (hV hb).2.2.2 _ hc
          have f3 : FR (fun a j' => ((a = 382 ∨ a = 383 ∨ a = 384) ∧ j' = i) ∨ (a = 385 ∧ 64 * i ≤ j' ∧ j' < 64 * i + 64)) M2 (zsI M2 385 (64 * (6 * 0 + i) + nx (nx X.2.1) / 64 % kN h) (nI (99 - (X.1.2 i).2.2.2 (nx (nx X.2.1) / 64 % kN h)))) := (FR.rf _ M2).sI (by omega)
          have e1 : f_X12_levelAt 355 0 (nI i) (nI (nx (nx X.2.1) / 64 % kN h)) M2 = some (nI ((X.1.2 i).2.2.2 (nx (nx X.2.1) / 64 % kN h)), M2) := (s_levelAt (v := 0) (fr2.W hW) (by decide) (by omega) (by omega)).trans (by rw [(hmr.2 hb).2.2 _ hc])
          have e2 : f_X12_puts 355 0 (nI i) (nI (nx (nx X.2.1) / 64 % kN h)) (nI (99 - (X.1.2 i).2.2.2 (nx (nx X.2.1) / 64 % kN h))) M2 = some (zsI M2 385 (64 * (6 * 0 + i) + nx (nx X.2.1) / 64 % kN h) (nI (99 - (X.1.2 i).2.2.2 (nx (nx X.2.1) / 64 % kN h)))) := s_puts (v := 0) (fr2.W hW) (by decide) (by omega) (by omega)
          rw [e1, b_i]
          dsimp only
          rw [show (99 : Int32) = nI 99 from rfl, pk_sub hle, e2, b_i, nI_1, nI_1]
          exact ih _ (by omega) (fr2.tr (f3.mo (fun a j q => Or.inl (WroM (by omega) q)))) (l2.up v (by omega) f3 (hmr.tn hn.1 hc hb)) ((f3.L (by omega)).trans v16')
        · rw [if_neg hlt] at ih
          rw [if_neg (nI_nlt (by omega) (by omega)), nI_1]
          exact ih M1 (by omega) fr1 l1 v16
  have := lp (kQ h) 0 (1000000 - kQ h - 1) M (by omega) (FR.rf _ M) l h64
  rw [show kQ h + 1 + (1000000 - kQ h - 1) = 1000000 by omega] at this
  exact this
end
theorem RST.sdX {W : Nat → Nat → Prop} {M M4 : Mem} (g : RST M) {sd : Nat} (hs : sd < 2147483648) (f : FR W M M4) (hw : ∀ a j, Wre2 a j → ¬ (a = 0 ∧ j = 16) → ¬ (a = 355 ∧ j = 64) → ¬ W a j) (h16 : zI M4 0 16 = nI sd) (h64 : zL M4 355 64 = lN sd) : RST M4 := by
  obtain ⟨⟨c, s, p, r1, r2, r3, r4, r5⟩, ⟨t, t1, t2, t3, t4⟩, g3, -, g5, ⟨z, z1, z2, z3, z4⟩, ⟨mt, m1, m2, m3, m4⟩, g8⟩ := g
  have hI : ∀ a j, Wre2 a j → ¬ (a = 0 ∧ j = 16) → ¬ (a = 355 ∧ j = 64) → zI M4 a j = zI M a j := fun a j x y z => f.I (hw a j x y z)
  refine ⟨⟨c, s, p, f.W r1, by rw [f.1]; exact r2, by rw [f.1]; exact r3, by rw [f.1]; exact r4, r5⟩, ⟨t, t1, (hI _ _ (by unfold Wre2; omega) (by omega) (by omega)).trans t2, (hI _ _ (by unfold Wre2; omega) (by omega) (by omega)).trans t3, fun k hk => ?_⟩, fun i hi => ?_, ⟨sd, by omega, h16, h64⟩, ?_, ⟨z, z1, (hI _ _ (by unfold Wre2; omega) (by omega) (by omega)).trans z2, (hI _ _ (by unfold Wre2; omega) (by omega) (by omega)).trans z3, fun k hk => ?_⟩, ⟨mt, m1, (hI _ _ (by unfold Wre2; omega) (by omega) (by omega)).trans m2, (hI _ _ (by unfold Wre2; omega) (by omega) (by omega)).trans m3, fun i hi => ?_⟩, fun i hi => (hI _ _ (by unfold Wre2; omega) (by omega) (by omega)).trans (g8 i hi)⟩
  · obtain ⟨e1, b, hb, e2⟩ := t4 k hk
    rw [hI 1 k (by unfold Wre2; omega) (by omega) (by omega), hI 356 k (by unfold Wre2; omega) (by omega) (by omega)]
    exact ⟨e1, b, hb, e2⟩
  · rw [hI 2 i (by unfold Wre2; omega) (by omega) (by omega), hI 371 i (by unfold Wre2; omega) (by omega) (by omega)]; exact g3 i hi
  · refine ⟨?_, fun i hi => (hI 354 i (by unfold Wre2; omega) (by omega) (by omega)).trans (g5.2 i hi)⟩
    unfold I_fault0
    rw [hI 353 4 (by unfold Wre2; omega) (by omega) (by omega), hI 353 5 (by unfold Wre2; omega) (by omega) (by omega), hI 355 10 (by unfold Wre2; omega) (by omega) (by omega), hI 355 11 (by unfold Wre2; omega) (by omega) (by omega)]; exact g5.1
  · rw [hI 334 k (by unfold Wre2; omega) (by omega) (by omega), hI 394 k (by unfold Wre2; omega) (by omega) (by omega)]; exact z4 k hk
  · obtain ⟨a, o, e1, e2, e3, e4, e5, e6⟩ := m4 i hi
    exact ⟨a, o, e1, e2, (hI _ _ (by unfold Wre2; omega) (by omega) (by omega)).trans e3, (hI _ _ (by unfold Wre2; omega) (by omega) (by omega)).trans e4, (hI _ _ (by unfold Wre2; omega) (by omega) (by omega)).trans e5, (hI _ _ (by unfold Wre2; omega) (by omega) (by omega)).trans e6⟩
theorem WcB_n {a j : Nat} (q : WcB a j) : a < 355 ∧ (Wre2 a j → a = 0 ∧ j = 16) := by
  rcases q with q | q
  · refine ⟨by unfold WcA at q; omega, fun p => ?_⟩
    exfalso
    unfold WcA at q
    unfold Wre2 at p
    rcases q with q | q | q | q | q | q | q <;> omega
  · exact ⟨by omega, fun _ => q⟩
theorem WmB_n {a j : Nat} (q : WmB a j) : 355 ≤ a ∧ (Wre2 a j → a = 355 ∧ j = 64) := by
  rcases q with q | q
  · have := WmA_n q
    refine ⟨by omega, fun p => ?_⟩
    exfalso
    unfold Wre2 at p
    omega
  · exact ⟨by omega, fun _ => q⟩
theorem op_chance (x : Int32) : OPb (f_X11_chance 0 x) (f_X12_chance 355 x) := by
  intro M s hs g
  have hW := g.rst.W
  have ref : f_X11_chance 0 x M = f_X11_chance_20 0 x M → (∀ M1, FR (fun a _ => a = 2) M M1 → f_X12_chance 355 x M1 = Option.bind (f_X12_refuses 355 2 M1) fun z5 => some (z5.1, z5.2)) → ∃ r M1 M2, f_X11_chance 0 x M = some (r, M1) ∧ f_X12_chance 355 x M1 = some (r, M2) ∧ Inv M2 (s + 1) := by
    intro p1 p2
    obtain ⟨M1, M2, a1, a2, a3, a4⟩ := refB g (k := 2) (by decide)
    refine ⟨-1, M1, M2, ?_, ?_, a3.mono (by omega)⟩
    · refine p1.trans ?_
      unfold f_X11_chance_20
      rw [show (2 : Int32) = nI 2 from rfl, a1, b_i]
    · rw [p2 M1 a4, show (2 : Int32) = nI 2 from rfl, a2, b_i]
  rcases g.st with ⟨c0, h, S, T, E, c, sv, l, lv, hT⟩ | o
  · have hd := lv.2.1.2.1
    rcases dayC hW l.c hd x with ⟨k, k1, k40, k9, e, q1, q2⟩ | ⟨nk, q⟩
    · subst e
      obtain ⟨sd, s1, s2, s3⟩ := g.rst.2.2.2.1
      obtain ⟨M1, b1, b2, b3, hc⟩ := c_save hW lv.1 (by omega) lv.2.2.1 l.c
      have sv' := lv.save hc
      have hok := fun i (hi : S.1 + i ≤ 999) => chs_ok lv.1 lv.2.1 (by omega : sd < 2147483648) i hi
      have lp : ∀ e i f M0, i + e = k → FR WcB M M0 → LC M0 c0 h (chs h S sd i).1 T E (cpp c) (svp c sv (S, T)) → zI M0 0 16 = nI (chs h S sd i).2.1 → ∃ M3, f_X11_chance_41 0 (nI k) (e + 1 + f) (nI (chs h S sd i).2.2) (nI i) M0 = some (nI (chs h S sd k).2.2, M3) ∧ FR WcB M M3 ∧ LC M3 c0 h (chs h S sd k).1 T E (cpp c) (svp c sv (S, T)) ∧ zI M3 0 16 = nI (chs h S sd k).2.1 := by
        intro e
        induction e with
        | zero =>
          intro i f M0 ei fr l0 q16
          have : i = k := by omega
          subst this
          exact ⟨M0, by rw [show 0 + 1 + f = f + 1 by omega, f_X11_chance_41, if_pos (nI_le (Nat.le_refl _) (by omega))], fr, l0, q16⟩
        | succ e ih =>
          intro i f M0 ei fr l0 q16
          obtain ⟨o1, o2, o3, o4⟩ := hok i (by omega)
          obtain ⟨M2, a1, a2, a3⟩ := c_pass (fr.W hW) lv.1 o1.1 (by rw [o3]; omega) l0
          have h16 : zI M2 0 16 = nI (chs h S sd i).2.1 := (a2.I (by unfold WcA; omega)).trans q16
          obtain ⟨M3, d1, d2, d3, d4⟩ := c_noise (a2.W (fr.W hW)) lv.1 (o1.pd (by rw [o3]; omega)) o2 a3 h16
          have hct := nzs_ct h (pdS h (chs h S sd i).1) (chs h S sd i).2.1 (chs h S sd i).2.2 (kQ h)
          have hn1 : chs h S sd (i + 1) = nzs h (kQ h) (pdS h (chs h S sd i).1, (chs h S sd i).2.1, (chs h S sd i).2.2) := rfl
          rw [hct] at hn1
          obtain ⟨M4, y1, y2, y3, y4⟩ := ih (i + 1) f M3 (by omega) ((fr.tr (a2.mo (fun a j q => Or.inl q))).tr d2) (by rw [hn1]; exact d3) (by rw [hn1]; exact d4)
          refine ⟨M4, ?_, y2, y3, y4⟩
          rw [hn1] at y1
          rw [show e + 1 + 1 + f = (e + 1 + f) + 1 by omega, f_X11_chance_41, if_neg (nI_ge (by omega) (by omega)), a1, b_i, d1, b_i]
          dsimp only
          rw [nI_add, nI_1]
          exact y1
      obtain ⟨M3, d1, d2, d3, d4⟩ := lp k 0 (1000000 - k - 1) M1 (by omega) (b2.mo (fun a j q => Or.inl q)) b3 ((b2.I (by unfold WcA; omega)).trans s2)
      rw [show k + 1 + (1000000 - k - 1) = 1000000 by omega] at d1
      have lm3 : LM M3 h S T E c sv := l.m.fr lv.1 d2 (fun a j q => (WcB_n q).1)
      have hW3 := d2.W hW
      have m64 : zL M3 355 64 = lN sd := (d2.L (fun q => by have := (WcB_n q).1; omega)).trans s3
      obtain ⟨M4, e1, e2, e3⟩ := m_keeps hW3 lv.1 lm3
      have lpm : ∀ e i f M0, i + e = k → FR WmB M3 M0 → LM M0 h (chs h S sd i).1 T E (cpp c) (svp c sv (S, T)) → zL M0 355 64 = lN (chs h S sd i).2.1 → ∃ M5, f_X12_chance_25 355 (nI k) (e + 1 + f) (nI (chs h S sd i).2.2) (nI i) M0 = some (nI (chs h S sd k).2.2, M5) ∧ FR WmB M3 M5 ∧ LM M5 h (chs h S sd k).1 T E (cpp c) (svp c sv (S, T)) ∧ zL M5 355 64 = lN (chs h S sd k).2.1 := by
        intro e
        induction e with
        | zero =>
          intro i f M0 ei fr l0 q16
          have : i = k := by omega
          subst this
          exact ⟨M0, by rw [show 0 + 1 + f = f + 1 by omega, f_X12_chance_25, if_pos (nI_le (Nat.le_refl _) (by omega))], fr, l0, q16⟩
        | succ e ih =>
          intro i f M0 ei fr l0 q16
          obtain ⟨o1, o2, o3, o4⟩ := hok i (by omega)
          obtain ⟨M2, a1, a2, a3⟩ := m_pass (fr.W hW3) lv.1 o1.1 (by rw [o3]; omega) l0
          have h64 : zL M2 355 64 = lN (chs h S sd i).2.1 := (a2.L (fun q => by have := WmA_n q; omega)).trans q16
          obtain ⟨M5, y1, y2, y3, y4⟩ := m_noise (x1 := nI k) (x3 := nI i) (ct := (chs h S sd i).2.2) (k25 := f_X12_chance_25 355 (nI k) (e + 1 + f)) (a2.W (fr.W hW3)) lv.1 (o1.pd (by rw [o3]; omega)) o2 a3 h64
          obtain ⟨M6, z1, z2, z3, z4⟩ := ih (i + 1) f M5 (by omega) ((fr.tr (a2.mo (fun a j q => Or.inl q))).tr y2) y3 y4
          refine ⟨M6, ?_, z2, z3, z4⟩
          rw [show e + 1 + 1 + f = (e + 1 + f) + 1 by omega, f_X12_chance_25, if_neg (nI_ge (by omega) (by omega)), a1, b_i, y1, nI_1]
          exact z1
      obtain ⟨M5, y1, y2, y3, y4⟩ := lpm k 0 (1000000 - k - 1) M4 (by omega) (e2.mo (fun a j q => Or.inl q)) e3 ((e2.L (fun q => by have := WmA_n q; omega)).trans m64)
      rw [show k + 1 + (1000000 - k - 1) = 1000000 by omega] at y1
      obtain ⟨o1, o2, o3, o4⟩ := hok k k9
      have ft : FR (fun a j => WcB a j ∨ WmB a j) M M5 := (d2.mo (fun a j q => Or.inl q)).tr (y2.mo (fun a j q => Or.inr q))
      have rst : RST M5 := g.rst.sdX o2 ft (fun a j p n1 n2 q => by
        rcases q with q | q
        · exact n1 ((WcB_n q).2 p)
        · exact n2 ((WmB_n q).2 p)) ((y2.I (fun q => by have := (WmB_n q).1; omega)).trans d4) y4
      refine ⟨nI (chs h S sd k).2.2, M3, M5, ?_, ?_, Inv.mk' rst (Or.inl ⟨c0, h, _, T, E, cpp c, svp c sv (S, T), LD.mk' (d3.fr y2 (fun a j q => (WmB_n q).1)) y3, ⟨lv.1, o1, sv'.1, sv'.2.2⟩, by omega⟩)⟩
      · unfold f_X11_chance
        refine im (by rw [l.on.1]; decide) (im q1 ?_)
        rw [q2, b_i]
        refine im (one_n0 _) ?_
        dsimp only
        rw [w0_8 hW, b_i, w0_5 hW, b_i, b1, b_i]
        exact d1
      · unfold f_X12_chance
        rcases dayM hW3 lm3 hd (nI k) with ⟨-, q⟩ | ⟨q, -⟩
        · rw [q, b_i]
          refine im (one_n0 _) ?_
          dsimp only
          rw [e1, b_i]
          exact y1
        · exact absurd ⟨k, k1, k40, k9, rfl⟩ q
    · refine ref ?_ (fun M1 f => ?_)
      · unfold f_X11_chance
        refine im (by rw [l.on.1]; decide) ?_
        rcases q with q | q
        · exact ip q rfl
        · by_cases h1 : x < 1
          · exact ip h1 rfl
          · refine im h1 ?_
            rw [q, b_i]
            exact ip rfl rfl
      · unfold f_X12_chance
        rcases dayM (f.W hW) (l.f2 lv.1 f).m hd x with ⟨q2, -⟩ | ⟨-, q2⟩
        · exact absurd q2 nk
        · rw [q2, b_i]; exact ip rfl rfl
  · refine ref ?_ (fun M1 f => ?_)
    · unfold f_X11_chance
      exact ip o.1.1 rfl
    · unfold f_X12_chance f_X12_isAhead f_X12_isAhead_34 f_X12_isAhead_35
      rw [(f.I (by omega)).trans o.1.2, if_pos rfl, zbz0, b_i]
      exact ip rfl rfl
