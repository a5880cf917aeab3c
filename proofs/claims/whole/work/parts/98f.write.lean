/-! calls: write, refresh -/
theorem s_writesWord {M : Mem} {i w : Nat} {h : CH} (hW : WRc M) (v : CV h) (hC : MC M h) (hi : i < 6) (hw : w < 2 ^ 63) : ∃ M', f_X12_writesWord 355 (nI i) (lN w) M = some M' ∧ FR (fun a j => ((a = 382 ∨ a = 383 ∨ a = 384) ∧ j = i) ∨ (a = 385 ∧ 64 * i ≤ j ∧ j < 64 * i + 64)) M M' ∧ MR M' 0 i (kN h) (true, 0, w, lvw w (kH h) (kL h)) := by
  have hn := v.n63
  have l : ∀ d k f M0, FR (fun a j => ((a = 382 ∨ a = 383 ∨ a = 384) ∧ j = i) ∨ (a = 385 ∧ 64 * i ≤ j ∧ j < 64 * i + 64)) M M0 → k + d = kN h → (∀ q, q < k → zI M0 385 (64 * i + q) = nI (lvw w (kH h) (kL h) q)) → ∃ M', f_X12_writesWord_24 355 (nI i) (lN w) (d + 1 + f) (nI k) M0 = some M' ∧ FR (fun a j => ((a = 382 ∨ a = 383 ∨ a = 384) ∧ j = i) ∨ (a = 385 ∧ 64 * i ≤ j ∧ j < 64 * i + 64)) M M' ∧ (∀ q, q < kN h → zI M' 385 (64 * i + q) = nI (lvw w (kH h) (kL h) q)) ∧ FR (fun a _ => a = 385) M0 M' := by
    intro d
    induction d with
    | zero =>
      intro k f M0 fr e hk
      have e2 : k = kN h := by omega
      subst e2
      have hC0 : MC M0 h := hC.fr fr (fun a j p q => by unfold Wmc at p; omega)
      obtain ⟨bk, ⟨-, -, hMD⟩, -⟩ := hC0
      exact ⟨M0, by rw [show 0 + 1 + f = f + 1 by omega, f_X12_writesWord_24, hMD.2.2.1, if_pos (nI_le (Nat.le_refl _) (by omega))], fr, hk, FR.rf _ M0⟩
    | succ d ih =>
      intro k f M0 fr e hk
      have hW0 := fr.W hW
      have hC0 : MC M0 h := hC.fr fr (fun a j p q => by unfold Wmc at p; omega)
      obtain ⟨bk, ⟨-, -, hMD⟩, -, -, ⟨b4, b5, -⟩, -⟩ := hC0
      have f1 : FR (fun a _ => a = 385) M0 (zsI M0 385 (64 * (6 * 0 + i) + k) (nI (lvw w (kH h) (kL h) k))) := (FR.rf _ M0).sI rfl
      have f2 : FR (fun a j => ((a = 382 ∨ a = 383 ∨ a = 384) ∧ j = i) ∨ (a = 385 ∧ 64 * i ≤ j ∧ j < 64 * i + 64)) M (zsI M0 385 (64 * (6 * 0 + i) + k) (nI (lvw w (kH h) (kL h) k))) := fr.sI (by omega)
      obtain ⟨M', e1, e2, e3, e4⟩ := ih (k + 1) f _ f2 (by omega) (fun q hq => by
        by_cases h : q = k
        · subst h; rw [show 64 * i + q = 64 * (6 * 0 + i) + q by omega]; exact zI_se _ _ _ _
        · exact (zI_sn _ _ (by omega)).trans (hk q (by omega)))
      refine ⟨M', ?_, e2, e3, f1.tr e4⟩
      rw [show d + 1 + 1 + f = (d + 1 + f) + 1 by omega, f_X12_writesWord_24, hMD.2.2.1, if_neg (nI_ge (by omega) (by omega)), lN_shr hw (by omega), show (1 : Int64) = lN 1 from rfl, lN_and, show lN 1 = (1 : Int64) from rfl]
      unfold f_X12_writesWord_62
      unfold lvw at e1
      have hp : ∀ x, f_X12_puts 355 0 (nI i) (nI k) x M0 = some (zsI M0 385 (64 * (6 * 0 + i) + k) x) := fun x => s_puts (v := 0) hW0 (by decide) hi (by omega)
      by_cases hb : w.testBit k = true
      · rw [if_pos hb] at e1
        rw [if_pos ((lc_bit w k).mpr hb), s_by (x := 4) hW0 rfl (by decide) b4, b_i]
        dsimp only
        rw [hp, b_i, nI_1]
        exact e1
      · rw [if_neg hb] at e1
        rw [if_neg (fun x => hb ((lc_bit w k).mp x)), s_by (x := 5) hW0 rfl (by decide) b5, b_i]
        dsimp only
        rw [hp, b_i, nI_1]
        exact e1
  have f0 : FR (fun a j => ((a = 382 ∨ a = 383 ∨ a = 384) ∧ j = i) ∨ (a = 385 ∧ 64 * i ≤ j ∧ j < 64 * i + 64)) M (zsL (zsI (zsI M 382 i 1) 383 i 0) 384 i (lN w)) := FR.sL (FR.sI (FR.sI (FR.rf _ M) (by omega)) (by omega)) (by omega)
  obtain ⟨M', e1, e2, e3, e4⟩ := l (kN h) 0 (1000000 - kN h - 1) _ f0 (by omega) (fun q hq => absurd hq (by omega))
  rw [show kN h + 1 + (1000000 - kN h - 1) = 1000000 by omega] at e1
  refine ⟨M', ?_, e2, ?_, fun _ => ⟨?_, ?_, fun q hq => ?_⟩⟩
  · unfold f_X12_writesWord
    rw [w355_56 hW, b_i, zl_at 132 rfl (by omega) (by decide), b_i, b_i, zrf_sI, w355_57 hW, b_i, zl_at 132 rfl (by omega) (by decide), b_i, b_i, zrf_sI, zrf_sI, w355_58 hW, b_i, zl_at 132 rfl (by omega) (by decide), b_i, b_i]
    exact e1
  · rw [Nat.mul_zero, Nat.zero_add, e4.I (by omega), zI_sL, zI_sn _ _ (by omega), zI_se]; rfl
  · rw [Nat.mul_zero, Nat.zero_add, e4.I (by omega), zI_sL, zI_se]; rfl
  · rw [Nat.mul_zero, Nat.zero_add, e4.L (by omega), zL_se]
  · rw [Nat.mul_zero, Nat.zero_add]; exact e3 q hq
theorem lvw_v {h : CH} (v : CV h) {w : Nat} (hw : w < 2 ^ kN h) (hs : ∀ j, 1 ≤ j → j ≤ 2 * kT h → sy (kM h) (kP h) (kN h) w j = 0) : RV (kM h) (kP h) (kT h) (kN h) (true, 0, w, lvw w (kH h) (kL h)) := by
  intro _
  refine ⟨Nat.zero_le _, hw, hs, fun k _ => ?_⟩
  have := v.s
  show (if w.testBit k then kH h else kL h) ≤ 99
  cases w.testBit k <;> simp <;> omega
section
variable {M : Mem} {c0 : Nat} {h : CH} {S : PSt} {T c s : Nat} {E : Nat → Nat → Nat} {sv : Nat → PSt × Nat}
/-- a page is filled and told: the class -/
theorem c_fill (hW : WRc M) (v : CV h) (hT : T < 2 ^ 30) (hc : 0 < c) (hO : HO c (T + 1) sv) (l : LC M c0 h S T E c sv) {j w mm : Nat} (hj : j < 6) (hw : w < 2 ^ 63) : ∃ M1 M2, f_X8_fill (13 + 2 + 2 * j) c0 (lN w) M = some M1 ∧ f_X7_add 43 (nI S.1) (nI j) (nI mm) M1 = some M2 ∧ FR WcA M M1 ∧ FR WcA M M2 ∧ FR (fun a _ => a = 13 + 2 + 2 * j ∨ a = 13 + 2 + 2 * j + 1) M M1 ∧ FR (fun a j => a = 46 ∨ (a = 43 ∧ j = 5)) M1 M2 ∧ LC M2 c0 h (upS S j (true, 0, w, lvw w (kH h) (kL h))) (T + 1) (Ead E T S.1 j mm) c sv := by
  have hcc := l.2.1
  have hz : c0 = 335 ∨ c0 = 344 := hcc.z
  obtain ⟨M1, a1, a2, a3⟩ := s_rfill hW (pq_r (Or.inl rfl : PQ 13) hj) hcc.z (wC_0 hW hcc.z) v.n63.1 hw hcc.n hcc.s.1 hcc.s.2.1 (l.2.2.2.1.2 j hj).1
  have f1 : FR (fun a _ => a = 13 + 2 + 2 * j ∨ a = 13 + 2 + 2 * j + 1) M M1 := a2.mo (fun a j q => by omega)
  have l1 := l.up hj f1 a3
  obtain ⟨M2, b1, b2, b3⟩ := s_add (d := S.1) (p := j) (w := mm) (f1.W hW) hT hc hO l1.2.2.2.2.1
  have f1A : FR WcA M M1 := f1.mo (fun a j q => Wro hj q)
  have f2A : FR WcA M M2 := f1A.tr (b2.mo (fun a j q => by unfold WcA; omega))
  obtain ⟨q1, q2, q3, q4, q5, q6, q7⟩ := l1
  exact ⟨M1, M2, a1, b1, f1A, f2A, f1, b2, (b2.R _ _).trans q1, q2.fr b2 (fun a j p q => by unfold Wch at p; omega), (b2.I (by omega)).trans q3, q4.fr b2 (fun a j _ _ => by omega), b3, q6.fr b2 (fun a j p => by omega), q7.fr b2 (by omega) (fun _ => by omega) (fun _ => by omega)⟩
theorem m_fill (hW : WRc M) (v : CV h) (hO : HO c T sv) (l : LM M h S T E c sv) {j w mm : Nat} (hj : j < 6) (hw : w < 2 ^ 63) : ∃ M1 M2, f_X12_writesWord 355 (nI j) (lN w) M = some M1 ∧ f_X12_writesDown 355 (nI j) (nI mm) M1 = some M2 ∧ FR WmA M M2 ∧ LM M2 h (upS S j (true, 0, w, lvw w (kH h) (kL h))) (T + 1) (Ead E T S.1 j mm) c sv := by
  obtain ⟨M1, a1, a2, a3⟩ := s_writesWord hW v l.1 hj hw
  have l1 := l.up v hj a2 a3
  obtain ⟨M2, b1, b2, b3⟩ := s_writesDown (d := S.1) (p := j) (w := mm) (a2.W hW) v.n63.1 hO l1.2.2.1.1 l1.2.2.2
  refine ⟨M1, M2, a1, b1, (a2.mo (fun a j q => WroM hj q)).tr (b2.mo (fun a j q => Or.inr (Or.inl (Or.inr (by unfold Wwd at q; unfold Wke; omega))))), l1.1.fr b2 (fun a j p q => by unfold Wmc at p; unfold Wwd at q; omega), (b2.I (by unfold Wwd; omega)).trans l1.2.1, l1.2.2.1.fr v.n63.1 b2 (fun a j p q => by unfold Wla at p; unfold Wwd at q; omega), b3⟩
end
theorem RST.refX {W : Nat → Nat → Prop} {M M4 : Mem} (g : RST M) {k : Nat} (hk : k < 6) (f : FR W M M4) (hw : ∀ a j, Wre2 a j → ¬ a = 2 → ¬ a = 371 → ¬ W a j) (h2 : ∀ i, zI M4 2 i = zup (zI M 2) k (zI M 2 k + 1) i) (h371 : ∀ i, zI M4 371 i = zup (zI M 371) k (zI M 371 k + 1) i) : RST M4 := by
  obtain ⟨⟨c, s, p, r1, r2, r3, r4, r5⟩, ⟨t, t1, t2, t3, t4⟩, g3, ⟨sd, s1, s2, s3⟩, g5, ⟨z, z1, z2, z3, z4⟩, ⟨mt, m1, m2, m3, m4⟩, g8⟩ := g
  have hI : ∀ a j, Wre2 a j → ¬ a = 2 → ¬ a = 371 → zI M4 a j = zI M a j := fun a j x y z => f.I (hw a j x y z)
  refine ⟨⟨c, s, p, f.W r1, by rw [f.1]; exact r2, by rw [f.1]; exact r3, by rw [f.1]; exact r4, r5⟩, ⟨t, t1, (hI _ _ (by unfold Wre2; omega) (by omega) (by omega)).trans t2, (hI _ _ (by unfold Wre2; omega) (by omega) (by omega)).trans t3, fun k hk => ?_⟩, fun i hi => ?_, ⟨sd, s1, (hI _ _ (by unfold Wre2; omega) (by omega) (by omega)).trans s2, (f.L (hw _ _ (by unfold Wre2; omega) (by omega) (by omega))).trans s3⟩, ?_, ⟨z, z1, (hI _ _ (by unfold Wre2; omega) (by omega) (by omega)).trans z2, (hI _ _ (by unfold Wre2; omega) (by omega) (by omega)).trans z3, fun k hk => ?_⟩, ⟨mt, m1, (hI _ _ (by unfold Wre2; omega) (by omega) (by omega)).trans m2, (hI _ _ (by unfold Wre2; omega) (by omega) (by omega)).trans m3, fun i hi => ?_⟩, fun i hi => (hI _ _ (by unfold Wre2; omega) (by omega) (by omega)).trans (g8 i hi)⟩
  · obtain ⟨e1, b, hb, e2⟩ := t4 k hk
    rw [hI 1 k (by unfold Wre2; omega) (by omega) (by omega), hI 356 k (by unfold Wre2; omega) (by omega) (by omega)]
    exact ⟨e1, b, hb, e2⟩
  · rw [h2, h371, zup_at, zup_at]
    by_cases e : i = k
    · rw [if_pos e, if_pos e, g3 k hk]
    · rw [if_neg e, if_neg e, g3 i hi]
  · refine ⟨?_, fun i hi => (hI 354 i (by unfold Wre2; omega) (by omega) (by omega)).trans (g5.2 i hi)⟩
    unfold I_fault0
    rw [hI 353 4 (by unfold Wre2; omega) (by omega) (by omega), hI 353 5 (by unfold Wre2; omega) (by omega) (by omega), hI 355 10 (by unfold Wre2; omega) (by omega) (by omega), hI 355 11 (by unfold Wre2; omega) (by omega) (by omega)]; exact g5.1
  · rw [hI 334 k (by unfold Wre2; omega) (by omega) (by omega), hI 394 k (by unfold Wre2; omega) (by omega) (by omega)]; exact z4 k hk
  · obtain ⟨a, o, e1, e2, e3, e4, e5, e6⟩ := m4 i hi
    exact ⟨a, o, e1, e2, (hI _ _ (by unfold Wre2; omega) (by omega) (by omega)).trans e3, (hI _ _ (by unfold Wre2; omega) (by omega) (by omega)).trans e4, (hI _ _ (by unfold Wre2; omega) (by omega) (by omega)).trans e5, (hI _ _ (by unfold Wre2; omega) (by omega) (by omega)).trans e6⟩
theorem LD.f371 {M M1 : Mem} {c0 : Nat} {h : CH} {S : PSt} {T c : Nat} {E : Nat → Nat → Nat} {sv : Nat → PSt × Nat} (v : CV h) (l : LD M c0 h S T E c sv) (f : FR (fun a _ => a = 371) M M1) : LD M1 c0 h S T E c sv := by
  obtain ⟨a1, a2, a3, a4⟩ := l.m
  exact LD.mk' (l.c.fr f (fun a j q => by omega)) ⟨a1.fr f (fun a j p q => by unfold Wmc at p; omega), (f.I (by omega)).trans a2, a3.fr v.n63.1 f (fun a j p q => by unfold Wla at p; omega), a4.fr v.n63.1 f (fun a j p q => by unfold Wpa at p; omega)⟩
theorem cpp_pos (c : Nat) : 0 < cpp c := by unfold cpp; by_cases h : c < 20; rw [if_pos h]; omega; rw [if_neg h]; decide
theorem op_refresh (x : Int32) : OPb (f_X11_refresh 0 x) (f_X12_refresh 355 x) := by
  intro M s hs g
  have hW := g.rst.W
  unfold f_X11_refresh f_X12_refresh f_X12_refresh_17
  rcases wcase g x with ⟨p1, p2⟩ | ⟨c0, h, S, T, E, c, sv, j, l, lv, hT, e, hj, hw⟩
  · obtain ⟨M1, M2, a1, a2, a3, a4⟩ := refB g (k := 3) (by decide)
    have p2' := wrN g p2 a4
    refine ⟨-1, M1, M2, ?_, ?_, a3.mono (by omega)⟩
    · rw [p1, b_i]
      refine ip rfl ?_
      dsimp only
      rw [show (3 : Int32) = nI 3 from rfl, a1, b_i]
    · rw [p2', b_i]
      refine ip rfl ?_
      dsimp only
      rw [show (3 : Int32) = nI 3 from rfl, a2, b_i]
  · subst e
    have hq := lv.1.q
    have h64 : (2 : Nat) ^ kN h ≤ 2 ^ 63 := Nat.pow_le_pow_right (by decide) lv.1.n63.1
    obtain ⟨p1, -⟩ := wrT hW l lv.1 hj hw
    obtain ⟨M1, a1, a2, g1, l1⟩ := cget g.rst l lv hj hw
    have hW1 := g1.W
    have hca := kCa_lt h (gW h (S.2 j))
    have q4 : zI M1 12 4 = nI (kCa h (gW h (S.2 j))) := a2.2.2.2.2.1
    by_cases h0 : kCa h (gW h (S.2 j)) = 0
    · obtain ⟨d1, d2, -⟩ := dec_ok lv.1.pr (rdW_lt h (S.2 j) (gR h (S.2 j)).2) h0
      have d2 : kRs h (gW h (S.2 j)) < 2 ^ kN h := d2
      have d1 : ∀ i, 1 ≤ i → i ≤ 2 * kT h → sy (kM h) (kP h) (kN h) (kRs h (gW h (S.2 j))) i = 0 := d1
      obtain ⟨q5, q6⟩ := a2.2.2.2.2.2.1 h0
      have q5 : zI M1 12 5 = nI (kLe h (gW h (S.2 j))) := q5
      have q6 : zL M1 12 6 = lN (kRs h (gW h (S.2 j))) := q6
      obtain ⟨M2, b1, b2, b3, hc⟩ := c_save hW1 lv.1 (by omega) lv.2.2.1 l1.c
      have sv' := lv.save hc
      have hn12 : ∀ jj, zI M2 12 jj = zI M1 12 jj ∧ zL M2 12 jj = zL M1 12 jj := by
        obtain ⟨M2', e1, e2, e3⟩ := s_save hW1 lv.1.n63.1 (by omega) l1.cp lv.2.2.1 l1.hc
        rw [b1] at e1; cases e1
        exact fun jj => ⟨e2.I (by unfold Wsa; omega), e2.L (by unfold Wsa; omega)⟩
      obtain ⟨M3, M4, t1, t2, t3, t4, t5, t6, t7⟩ := c_fill (M := M2) (j := j) (w := kRs h (gW h (S.2 j))) (mm := kLe h (gW h (S.2 j))) (b2.W hW1) lv.1 (by omega) (cpp_pos c) sv'.2.1 b3 (by omega) (by omega)
      have f1 : FR WcA M M1 := a2.1.mo (fun a j q => WcA_ge q)
      have f4 : FR WcA M M4 := (f1.tr b2).tr t4
      have lm1 : LM M4 h S T E c sv := l.m.fr lv.1 f4 (fun a j q => by unfold WcA at q; omega)
      have hW4 := f4.W hW
      obtain ⟨M5, y1, y2⟩ := s_gets (vv := 0) (x := 0) (y := nI j) rfl rfl hW4 lv.1 lm1.1 (by decide) (by omega) (lm1.2.2.1.2 j (by omega)) hw (lv.2.1.1 j (by omega))
      have lm5 : LM M5 h S T E c sv := ⟨lm1.1.gm y2.1, (y2.1.I (by unfold Wgm Wrb Wag; omega)).trans lm1.2.1, lm1.2.2.1.gm lv.1 y2.1, lm1.2.2.2.fr lv.1.n63.1 y2.1 (fun a j p q => by unfold Wpa at p; unfold Wgm Wrb Wag at q; omega)⟩
      have m53 : zL M5 355 53 = lN (kRs h (gW h (S.2 j))) := y2.2.2.2.1
      have m52 : zI M5 355 52 = nI (kLe h (gW h (S.2 j))) := ((y2.2.2.2.2.2.2.2.2 h0).1).trans (congrArg nI (dCa_0 h0).2.1)
      obtain ⟨M6, z1, z2, z3⟩ := m_keeps (y2.1.W hW4) lv.1 lm5
      obtain ⟨M7, M8, w1, w2, w3, w4⟩ := m_fill (M := M6) (j := j) (w := kRs h (gW h (S.2 j))) (mm := kLe h (gW h (S.2 j))) (z2.W (y2.1.W hW4)) lv.1 sv'.1 z3 (by omega) (by omega)
      refine ⟨nI (kLe h (gW h (S.2 j))), M4, M8, ?_, ?_, actI g.rst l lv f4 t7 (((y2.1.mo (fun a j q => Or.inl q)).tr z2).tr w3) w4 ⟨lv.1, lv.2.1.up hj (lvw_v lv.1 d2 d1), sv'.2.1, sv'.2.2⟩ (by omega)⟩
      · rw [p1, b_i]
        refine im (one_n0 _) ?_
        dsimp only
        rw [crow hW (by omega), w0_4 hW, b_i, l.cur, b_i, a1, b_i, w0_4 hW1, b_i, q4]
        refine ip (by rw [h0]; rfl) ?_
        have hW2 := b2.W hW1
        have hW3 := t3.W hW2
        have e5 : ∀ jj, zI M3 12 jj = zI M1 12 jj := fun jj => (t5.I (by omega)).trans (hn12 jj).1
        have e13 : zI M3 13 1 = nI S.1 := (t5.I (by omega)).trans b3.2.2.2.1.1
        have e45 : zI M4 12 5 = nI (kLe h (gW h (S.2 j))) := (t6.I (by omega)).trans ((e5 5).trans q5)
        rw [w0_8 hW1, b_i, w0_5 hW1, b_i, b1, b_i, b3.1, b_i, w0_4 hW2, b_i, (hn12 6).2, q6, t1, b_i, w0_8 hW3, b_i, w0_5 hW3, b_i, w0_4 hW3, b_i, e13, e5, q5, t2, b_i, w0_4 (t4.W hW2), b_i, e45]
      · rw [thereT hW4 lv.1 lm1 hj hw, b_i]
        refine im (one_n0 _) ?_
        dsimp only
        rw [y1, b_i]
        refine ip (by show nI (kCa h (gW h (S.2 j))) ≤ 0; rw [h0]; decide) ?_
        dsimp only
        rw [z1, b_i, m53, w1, b_i, m52, w2, b_i]
    · have e1 := s_refuse (M := M1) (x := 3) hW1 3 rfl (by decide)
      have f2 : FR (fun a _ => a = 2) M1 (zwI M1 2 (zup (zI M1 2) 3 (zI M1 2 3 + 1))) := (FR.rf _ M1).wI (fun _ => rfl)
      have v2 : ∀ i, zI (zwI M1 2 (zup (zI M1 2) 3 (zI M1 2 3 + 1))) 2 i = zup (zI M1 2) 3 (zI M1 2 3 + 1) i := fun i => rfl
      revert e1 f2 v2
      generalize zwI M1 2 (zup (zI M1 2) 3 (zI M1 2 3 + 1)) = M2
      intro e1 f2 v2
      have l2 := l1.f2 lv.1 f2
      have hW2 := f2.W hW1
      obtain ⟨M3, y1, y2⟩ := s_gets (vv := 0) (x := 0) (y := nI j) rfl rfl hW2 lv.1 l2.mc (by decide) (by omega) (l2.mp.2 j (by omega)) hw (lv.2.1.1 j (by omega))
      have l3 : LD M3 c0 h S T E c sv := l2.sc lv.1 (y2.1.mo (fun a j q => Wsc_gm q)) (l2.dk.md (y2.1.mo (fun a j q => Or.inl q)))
      have hW3 := y2.1.W hW2
      have e3 := s_refuses (M := M3) (x := 3) hW3 3 rfl (by decide)
      have f4 : FR (fun a _ => a = 371) M3 (zwI M3 371 (zup (zI M3 371) 3 (zI M3 371 3 + 1))) := (FR.rf _ M3).wI (fun _ => rfl)
      have v4 : ∀ i, zI (zwI M3 371 (zup (zI M3 371) 3 (zI M3 371 3 + 1))) 371 i = zup (zI M3 371) 3 (zI M3 371 3 + 1) i := fun i => rfl
      revert e3 f4 v4
      generalize zwI M3 371 (zup (zI M3 371) 3 (zI M3 371 3 + 1)) = M4
      intro e3 f4 v4
      have h371 : ∀ i, zI M3 371 i = zI M1 371 i := fun i => (y2.1.I (by unfold Wgm Wrb Wag; omega)).trans (f2.I (by omega))
      have fall : FR (fun a j => a = 2 ∨ Wgm a j ∨ a = 371) M1 M4 := ((f2.mo (fun a j q => Or.inl q)).tr (y2.1.mo (fun a j q => Or.inr (Or.inl q)))).tr (f4.mo (fun a j q => Or.inr (Or.inr q)))
      refine ⟨-1, M2, M4, ?_, ?_, (Inv.mk' (g1.refX (k := 3) (by decide) fall (fun a j p q1 q2 q => ?_) (fun i => ?_) (fun i => ?_)) (Or.inl ⟨c0, h, S, T, E, c, sv, l3.f371 lv.1 f4, lv, hT⟩)).mono (by omega)⟩
      · rw [p1, b_i]
        refine im (one_n0 _) ?_
        dsimp only
        rw [crow hW (by omega), w0_4 hW, b_i, l.cur, b_i, a1, b_i, w0_4 hW1, b_i, q4]
        refine im (nI_ne0 (by omega) hca) ?_
        rw [e1, b_i]
      · rw [thereT hW2 lv.1 l2.m hj hw, b_i]
        refine im (one_n0 _) ?_
        dsimp only
        rw [y1, b_i]
        refine im (show ¬ nI (kCa h (gW h (S.2 j))) ≤ 0 from nI_nle (by omega) hca) ?_
        dsimp only
        rw [e3, b_i]
      · unfold Wre2 at p
        rcases q with q | q | q
        · exact q1 q
        · unfold Wgm Wrb Wag at q; omega
        · exact q2 q
      · rw [f4.I (by omega), y2.1.I (by unfold Wgm Wrb Wag; omega)]; exact v2 i
      · rw [v4, zup_at, zup_at, h371, h371]
