/-! calls: level, lost -/
def itR (h : CH) (d i : Nat) (r : RW) : Nat → RW
  | 0 => r
  | k + 1 => pdR h (d + k) i (itR h d i r k)
def itS (h : CH) (S : PSt) : Nat → PSt
  | 0 => S
  | k + 1 => pdS h (itS h S k)
theorem itR_w (h : CH) (d i : Nat) (r : RW) : ∀ k, (itR h d i r k).1 = r.1 ∧ (itR h d i r k).2.2.1 = r.2.2.1 := by
  intro k
  induction k with
  | zero => exact ⟨rfl, rfl⟩
  | succ k ih => exact ih
theorem itR_a (h : CH) (d i : Nat) (r : RW) (ha : r.2.1 ≤ 99) : ∀ k, (itR h d i r k).2.1 = min (r.2.1 + k) 99 := by
  intro k
  induction k with
  | zero => show r.2.1 = min (r.2.1 + 0) 99; omega
  | succ k ih => show min ((itR h d i r k).2.1 + 1) 99 = _; rw [ih]; omega
theorem itR_v {h : CH} {d i : Nat} {r : RW} (v : RV (kM h) (kP h) (kT h) (kN h) r) : ∀ k, RV (kM h) (kP h) (kT h) (kN h) (itR h d i r k) := by
  intro k
  induction k with
  | zero => exact v
  | succ k ih => exact ih.pd
theorem itS_1 (h : CH) (S : PSt) : ∀ k, (itS h S k).1 = S.1 + k := by
  intro k
  induction k with
  | zero => rfl
  | succ k ih => show (itS h S k).1 + 1 = _; rw [ih]; omega
theorem itS_2 {h : CH} {S : PSt} {j : Nat} (hj : j < kQ h) (hw : (S.2 j).1 = true) : ∀ k, (itS h S k).2 j = itR h S.1 j (S.2 j) k := by
  intro k
  induction k with
  | zero => rfl
  | succ k ih =>
    show (if j < kQ h ∧ ((itS h S k).2 j).1 = true then pdR h (itS h S k).1 j ((itS h S k).2 j) else (itS h S k).2 j) = pdR h (S.1 + k) j (itR h S.1 j (S.2 j) k)
    rw [ih, if_pos ⟨hj, by rw [(itR_w h S.1 j (S.2 j) k).1]; exact hw⟩, itS_1]
theorem itS_v {h : CH} {S : PSt} (v : SV h S) : ∀ k, SV h (itS h S k) := by
  intro k
  induction k with
  | zero => exact v
  | succ k ih => exact ih.pd
section
variable {M : Mem} {c0 : Nat} {h : CH} {S : PSt} {T c s : Nat} {E : Nat → Nat → Nat} {sv : Nat → PSt × Nat}
/-- the model lays a trial -/
theorem mtry (g : RST M) (l : LD M c0 h S T E c sv) (lv : LV h S T c sv) : ∃ M1, f_X12_copies 355 1 0 M = some M1 ∧ FR (Wlk 1) M M1 ∧ MP M1 1 (kN h) S := by
  obtain ⟨u, -, -, -, -, hk, -⟩ := l.hm
  obtain ⟨M1, a1, a2, a3, -⟩ := s_copies (to := 1) (fm := 0) (x := 1) (y := 0) rfl rfl g.W (by decide) (by decide) (by decide) (Nat.min_le_right T 40) hk.1
  exact ⟨M1, a1, a2, a3 _ S lv.1.n63.1 l.mp⟩
theorem s_ahead (hW : WRc M) (l : LD M c0 h S T E c sv) {n lo : Nat} {xl : Int32} (hl : xl = nI lo) (hlo : lo ≤ 40) (hd : S.1 ≤ 999) (hn : n < 2 ^ 30) : f_X12_isAhead 355 (nI n) xl 40 M = some (b01 (decide (lo ≤ n ∧ n ≤ 40 ∧ S.1 + n ≤ 999)), M) := by
  subst hl
  unfold f_X12_isAhead f_X12_isAhead_34 f_X12_isAhead_35
  rw [l.on.2, if_neg (by decide), s_is (z := (n : Int)) (lo := (lo : Int)) (hi := 40) (xh := 40) (iI_n n).symm (iI_n lo).symm rfl (by unfold sm; omega) (by unfold sm; omega) (by unfold sm; omega), b_i]
  dsimp only
  by_cases h1 : (lo : Int) ≤ n ∧ (n : Int) ≤ 40
  · rw [decide_eq_true h1]
    refine im b01_n0 ?_
    rw [w355_55 hW, b_i, show zld 381 0 = some 0 from rfl, b_i, l.mp.1, show (999 : Int32) = nI 999 from rfl, pk_sub (by omega)]
    by_cases h2 : S.1 + n ≤ 999
    · rw [if_neg (nI_nlt (by omega) (by omega)), zbz1, decide_eq_true (by omega)]; rfl
    · rw [if_pos (nI_lt (by omega) (by omega)), zbz0, decide_eq_false (by omega)]; rfl
  · rw [decide_eq_false h1]
    refine ip b01_f ?_
    rw [zbz0, decide_eq_false (by omega)]; rfl
theorem s_daysFit (hW : WRc M) (l : LD M c0 h S T E c sv) {n : Nat} (hd : S.1 ≤ 999) (hn : n < 2 ^ 30) : f_X11_daysFit 0 (nI n) M = some (b01 (decide (n ≤ 40 ∧ S.1 + n ≤ 999)), M) := by
  unfold f_X11_daysFit f_X11_daysFit_25 f_X11_daysFit_26
  by_cases h1 : n ≤ 40
  · rw [if_neg (show ¬ (40 : Int32) < nI n from nI_nlt (a := 40) h1 (by decide)), w0_5 hW, b_i, l.cp.1, nI_add]
    by_cases h2 : S.1 + n ≤ 999
    · rw [if_neg (show ¬ (999 : Int32) < nI (S.1 + n) from nI_nlt (a := 999) h2 (by decide)), zbz1, decide_eq_true ⟨h1, h2⟩]; rfl
    · rw [if_pos (show (999 : Int32) < nI (S.1 + n) from nI_lt (a := 999) (by omega) (by omega)), zbz0, decide_eq_false (by omega)]; rfl
  · rw [if_pos (show (40 : Int32) < nI n from nI_lt (a := 40) (by omega) (by omega)), zbz0, decide_eq_false (by omega)]; rfl
/-- days go by in the trial -/
theorem mtryD (g : RST M) (l : LD M c0 h S T E c sv) (lv : LV h S T c sv) {M0 : Mem} (f : FR (fun a j => Wgm a j ∨ Wlk 1 a j) M M0) {k : Nat} (hk : k ≤ 100) (hP : MP M0 1 (kN h) (itS h S k)) : ∃ M1, f_X12_passes 355 1 M0 = some M1 ∧ FR (fun a j => Wgm a j ∨ Wlk 1 a j) M M1 ∧ MP M1 1 (kN h) (itS h S (k + 1)) := by
  have hd := lv.2.1.2.1
  have l0 : MC M0 h := l.mc.fr f (fun a j p q => by unfold Wmc at p; unfold Wgm Wrb Wag Wlk Wla Wke at q; omega)
  obtain ⟨M1, a1, a2, a3⟩ := s_mpass (vv := 1) (x := 1) rfl (f.W g.W) lv.1 l0 (by decide) (by rw [itS_1]; omega) hP (itS_v lv.2.1.1 k)
  exact ⟨M1, a1, f.tr (a2.mo (fun a j q => by
    rcases q with q | q | q
    · exact Or.inr (Or.inl q)
    · exact Or.inl (Or.inr (Or.inl q))
    · exact Or.inl (Or.inr (Or.inr (Or.inl q))))), a3⟩
end
theorem op_level (x y z : Int32) : OP (f_X11_level 0 x y z) (f_X12_level 355 x y z) := by
  intro M s g
  have hW := g.rst.W
  unfold f_X11_level f_X11_level_28 f_X12_level f_X12_level_33
  rcases wcase g x with ⟨p1, p2⟩ | ⟨c0, h, S, T, E, c, sv, j, l, lv, hT, e, hj, hw⟩
  · exact ⟨-1, M, M, by rw [p1, b_i]; exact ip rfl rfl, by rw [p2, b_i]; exact ip rfl rfl, g.mono (by omega)⟩
  · subst e
    have hq := lv.1.q
    have hn := lv.1.n63
    have hd := lv.2.1.2.1
    obtain ⟨p1, p2⟩ := wrT hW l lv.1 hj hw
    have hr := l.cp.2 j (by omega)
    have hV := lv.2.1.1 j (by omega)
    obtain ⟨r1, r2, r3⟩ := hr.2.2 hw
    obtain ⟨v1, v2, v3, v4⟩ := hV hw
    have h64 : (2 : Nat) ^ kN h ≤ 2 ^ 63 := Nat.pow_le_pow_right (by decide) hn.1
    obtain ⟨bk, ⟨-, -, hMD⟩, -⟩ := id l.mc
    have m39 : zI M 355 39 = nI (kN h) := hMD.2.2.1
    have hcell : ∀ M0, zI M0 0 14 = 1 → zrf M0 0 11 = some c0 → WRc M0 → zI M0 (c0 + 1) 10 = nI (kN h) → ((∃ k, k < kN h ∧ y = nI k) ∧ f_X11_isCell 0 y M0 = some (1, M0)) ∨ ((y < 0 ∨ nI (kN h) ≤ y) ∧ f_X11_isCell 0 y M0 = some (0, M0)) := by
      intro M0 h14 hcur hW0 h10
      unfold f_X11_isCell f_X11_isCell_29 f_X11_isCell_30
      rw [h14, if_neg (show ¬ (1 : Int32) = 0 by decide)]
      rcases pk_ix y (n := kN h) (by omega) with q | q | ⟨k, hk, e⟩
      · exact Or.inr ⟨Or.inl q, by rw [if_pos q, zbz0]⟩
      · refine Or.inr ⟨Or.inr q, ?_⟩
        by_cases h1 : y < 0
        · rw [if_pos h1, zbz0]
        · rw [if_neg h1, hcur, b_i, wC_0 hW0 l.cc.z, b_i, h10, if_pos q, zbz0]
      · subst e
        exact Or.inl ⟨⟨k, hk, rfl⟩, by rw [if_neg (nI_pos (by omega)), hcur, b_i, wC_0 hW0 l.cc.z, b_i, h10, if_neg (nI_ge hk (by omega)), zbz1]⟩
    have mis : nI (kN h) - 1 = nI (kN h - 1) := by rw [show (1 : Int32) = nI 1 from rfl, pk_sub (by omega)]
    rcases hcell M l.on.1 l.cur hW l.cc.n with ⟨⟨k, hk, e⟩, q1⟩ | ⟨q, q1⟩
    · subst e
      have q2 : ∀ M0, f_X12_is (nI k) 0 (nI (kN h - 1)) M0 = some (1, M0) := by
        intro M0
        rcases s_isN (M := M0) (x := nI k) (xl := 0) (xh := nI (kN h - 1)) (n := kN h - 1) rfl rfl (by omega) with ⟨-, q⟩ | ⟨q, -⟩
        · exact q
        · rcases q with q | q
          · exact absurd q (nI_pos (by omega))
          · exact absurd q (nI_ge (by omega) (by omega))
      by_cases hz : ∃ n, n ≤ 40 ∧ S.1 + n ≤ 999 ∧ z = nI n
      · obtain ⟨n, hn40, hn9, e⟩ := hz
        subst e
        have lc : ∀ e i f M0, i + e = n → FR Wtm M M0 → ∃ M1, f_X11_level_53 0 (nI j) (nI k) (nI n) (e + 1 + f) (13 + 2 + 2 * j) (nI ((itR h S.1 j (S.2 j) i).2.2.2 k)) (nI i) M0 = some (nI ((itR h S.1 j (S.2 j) n).2.2.2 k), M1) ∧ FR Wtm M M1 := by
          intro e
          induction e with
          | zero =>
            intro i f M0 ei fr
            have : i = n := by omega
            subst this
            exact ⟨M0, by rw [show 0 + 1 + f = f + 1 by omega, f_X11_level_53, if_pos (nI_le (Nat.le_refl _) (by omega))], fr⟩
          | succ e ih =>
            intro i f M0 ei fr
            have hW0 := fr.W hW
            have hC0 : CC M0 c0 h := l.cc.fr fr (fun a j p q => by have := l.cc.z; unfold zCh2 at this; unfold Wch at p; unfold Wtm at q; omega)
            have hi1 := itR_a h S.1 j (S.2 j) v1 i
            have hlv := ((itR_v (d := S.1) (i := j) hV i) (by rw [(itR_w h S.1 j (S.2 j) i).1]; exact hw)).2.2.2 k hk
            obtain ⟨M1, a1, a2, a3, a4, a5⟩ := s_setDay (M := M0) (c := 13 + 2 + 2 * j) (d := S.1 + i) (a := min ((S.2 j).2.1 + i) 99) (i := j) hW0 (by omega) ((fr.I (by unfold Wtm; omega)).trans hr.1)
            have hC1 : CC M1 c0 h := hC0.fr a2 (fun a j p q => by have := l.cc.z; unfold zCh2 at this; unfold Wch at p; omega)
            obtain ⟨M2, b1, b2, b3, b4, b5⟩ := s_drifted (M := M1) (k := k) (l := (itR h S.1 j (S.2 j) i).2.2.2 k) (w := (S.2 j).2.2.1) (a2.W hW0) lv.1 hC1 (by omega) (by omega) (by omega) hlv (by omega) (by omega) a3 a4 a5
            have f2 : FR Wtm M M2 := (fr.tr (a2.mo (fun a j q => by unfold Wtm; omega))).tr b2
            obtain ⟨M3, d1, d2⟩ := ih (i + 1) f M2 (by omega) f2
            refine ⟨M3, ?_, d2⟩
            have hnext : (itR h S.1 j (S.2 j) (i + 1)).2.2.2 k = drL h (S.1 + i) j (min ((S.2 j).2.1 + i) 99) (S.2 j).2.2.1 k ((itR h S.1 j (S.2 j) i).2.2.2 k) := by
              show drL h (S.1 + i) j (itR h S.1 j (S.2 j) i).2.1 (itR h S.1 j (S.2 j) i).2.2.1 k _ = _
              rw [hi1, (itR_w h S.1 j (S.2 j) i).2]
            rw [hnext] at d1
            have e4 : zL M1 (13 + 2 + 2 * j) 4 = lN (S.2 j).2.2.1 := (a2.L (by omega)).trans ((fr.L (by unfold Wtm; omega)).trans r2)
            rw [show e + 1 + 1 + f = (e + 1 + f) + 1 by omega, f_X11_level_53, if_neg (nI_ge (by omega) (by omega)), w0_2 hW0, b_i, w0_5 hW0, b_i, fr.I (by unfold Wtm; omega), r1, s_older (a := (S.2 j).2.1) (b := i) rfl rfl (by omega) (by omega), b_i]
            dsimp only
            rw [fr.I (by unfold Wtm; omega), l.cp.1, nI_add, a1, b_i, w0_2 (a2.W hW0), b_i, (a2.R _ _).trans ((fr.R _ _).trans l.cur), b_i, e4, b1, b_i]
            dsimp only
            rw [nI_1]
            exact d1
        obtain ⟨M1, a1, a2⟩ := lc n 0 (1000000 - n - 1) M (by omega) (FR.rf _ M)
        rw [show n + 1 + (1000000 - n - 1) = 1000000 by omega] at a1
        have fs : FR Wsc M M1 := a2.mo (fun a j q => Wsc_ge (Or.inr (Or.inr q)))
        have g1 := g.rst.sc fs
        have l1 : LD M1 c0 h S T E c sv := l.sc lv.1 fs (l.dk.fr a2 (fun a j p q => by unfold Wtm at q; omega))
        obtain ⟨-, p2'⟩ := wrT g1.W l1 lv.1 hj hw
        obtain ⟨M2, b1, b2, b3⟩ := mtry g1 l1 lv
        have lm : ∀ e i f M0, i + e = n → FR (fun a j => Wgm a j ∨ Wlk 1 a j) M1 M0 → MP M0 1 (kN h) (itS h S i) → ∃ M3, f_X12_level_44 355 (nI j) (nI k) (nI n) (e + 1 + f) (nI i) M0 = some (nI ((itR h S.1 j (S.2 j) n).2.2.2 k), M3) ∧ FR (fun a j => Wgm a j ∨ Wlk 1 a j) M1 M3 := by
          intro e
          induction e with
          | zero =>
            intro i f M0 ei fr hP
            have : i = n := by omega
            subst this
            refine ⟨M0, ?_, fr⟩
            have hP2 := hP.2 j (by omega)
            rw [itS_2 hj hw] at hP2
            have hlev := (hP2.2 (by rw [(itR_w h S.1 j (S.2 j) i).1]; exact hw)).2.2 k hk
            rw [show 0 + 1 + f = f + 1 by omega, f_X12_level_44, if_pos (nI_le (Nat.le_refl _) (by omega)), show (1 : Int32) = nI 1 from rfl, s_levelAt (fr.W g1.W) (by decide) (by omega) (by omega), b_i]
            dsimp only
            rw [hlev]
          | succ e ih =>
            intro i f M0 ei fr hP
            obtain ⟨M3, d1, d2, d3⟩ := mtryD g1 l1 lv fr (by omega) hP
            obtain ⟨M4, e1, e2⟩ := ih (i + 1) f M3 (by omega) d2 d3
            refine ⟨M4, ?_, e2⟩
            rw [show e + 1 + 1 + f = (e + 1 + f) + 1 by omega, f_X12_level_44, if_neg (nI_ge (by omega) (by omega)), d1, b_i, nI_1]
            exact e1
        obtain ⟨M3, d1, d2⟩ := lm n 0 (1000000 - n - 1) M2 (by omega) (b2.mo (fun a j q => Or.inr q)) b3
        rw [show n + 1 + (1000000 - n - 1) = 1000000 by omega] at d1
        refine ⟨nI ((itR h S.1 j (S.2 j) n).2.2.2 k), M1, M3, ?_, ?_, scM g1 l1 lv hT d2⟩
        · rw [p1, b_i]
          refine im (one_n0 _) ?_
          dsimp only
          rw [q1, b_i]
          refine im (one_n0 _) (im (nI_pos (by omega)) ?_)
          dsimp only
          rw [s_daysFit hW l hd (by omega), b_i, decide_eq_true ⟨hn40, hn9⟩]
          refine im b01_n0 ?_
          dsimp only
          rw [crow hW (by omega), rq_0 hW (pq_r (Or.inl rfl : PQ 13) (by omega)), b_i, zl_at 63 (rq_s (pq_r (Or.inl rfl : PQ 13) (by omega))) (by omega) (by decide), b_i, r3 k hk]
          exact a1
        · rw [p2', b_i]
          refine im (one_n0 _) ?_
          dsimp only
          have m39' : zI M1 355 39 = nI (kN h) := (a2.I (by unfold Wtm; omega)).trans m39
          rw [m39', mis, q2, b_i]
          refine im (one_n0 _) ?_
          dsimp only
          rw [s_ahead (lo := 0) (xl := 0) g1.W l1 rfl (by decide) hd (by omega), b_i, decide_eq_true (by omega)]
          refine im b01_n0 ?_
          dsimp only
          rw [b1, b_i]
          exact d1
      · refine ⟨-1, M, M, ?_, ?_, g.mono (by omega)⟩
        · rw [p1, b_i]
          refine im (one_n0 _) ?_
          dsimp only
          rw [q1, b_i]
          refine im (one_n0 _) ?_
          by_cases h1 : z < 0
          · exact ip h1 rfl
          · refine im h1 ?_
            dsimp only
            obtain ⟨n, hn31, e⟩ := nI_of h1
            subst e
            have hno : ¬ (n ≤ 40 ∧ S.1 + n ≤ 999) := fun q => hz ⟨n, q.1, q.2, rfl⟩
            unfold f_X11_daysFit f_X11_daysFit_25 f_X11_daysFit_26
            by_cases h40 : n ≤ 40
            · rw [if_neg (show ¬ (40 : Int32) < nI n from nI_nlt (a := 40) h40 (by decide)), w0_5 hW, b_i, l.cp.1, nI_add, if_pos (show (999 : Int32) < nI (S.1 + n) from nI_lt (a := 999) (by omega) (by omega)), zbz0, b_i]
              exact ip rfl rfl
            · rw [if_pos (show (40 : Int32) < nI n from nI_lt (a := 40) (by omega) hn31), zbz0, b_i]
              exact ip rfl rfl
        · rw [p2, b_i]
          refine im (one_n0 _) ?_
          dsimp only
          rw [m39, mis, q2, b_i]
          refine im (one_n0 _) ?_
          dsimp only
          unfold f_X12_isAhead f_X12_isAhead_34 f_X12_isAhead_35
          rw [l.on.2, if_neg (show ¬ (1 : Int32) = 0 by decide)]
          rcases s_isN (M := M) (x := z) (xl := 0) (xh := 40) (n := 40) rfl rfl (by decide) with ⟨⟨n, hn40, e⟩, q⟩ | ⟨-, q⟩
          · subst e
            have hno : ¬ S.1 + n ≤ 999 := fun q => hz ⟨n, hn40, q, rfl⟩
            rw [q, b_i, if_neg (one_n0 _)]
            dsimp only
            rw [w355_55 hW, b_i, show zld 381 0 = some 0 from rfl, b_i, l.mp.1, show (999 : Int32) = nI 999 from rfl, pk_sub (by omega), if_pos (nI_lt (by omega) (by omega)), zbz0, b_i]
            exact ip rfl rfl
          · rw [q, b_i, if_pos (show ((0 : Int32), M).1 = 0 from rfl), zbz0, b_i]
            exact ip rfl rfl
    · refine ⟨-1, M, M, ?_, ?_, g.mono (by omega)⟩
      · rw [p1, b_i]
        refine im (one_n0 _) ?_
        dsimp only
        rw [q1, b_i]
        exact ip rfl rfl
      · rw [p2, b_i]
        refine im (one_n0 _) ?_
        dsimp only
        rw [m39, mis]
        rcases s_isN (M := M) (x := y) (xl := 0) (xh := nI (kN h - 1)) (n := kN h - 1) rfl rfl (by omega) with ⟨⟨k, hk, e⟩, q2⟩ | ⟨-, q2⟩
        · exfalso
          subst e
          rcases q with q | q
          · exact nI_pos (by omega) q
          · exact nI_ge (by omega) (by omega) q
        · rw [q2, b_i]
          exact ip rfl rfl
