/-! calls: lost, odds -/
def Wcs (a j : Nat) : Prop := Wge a j ∨ a = 41 ∨ a = 42
theorem Wsc_cs {a j : Nat} (h : Wcs a j) : Wsc a j := by
  rcases h with h | h | h
  · exact Wsc_ge h
  · exact Or.inr (Or.inr (Or.inr (Or.inr (Or.inr (Or.inl (by omega))))))
  · exact Or.inr (Or.inr (Or.inr (Or.inr (Or.inr (Or.inl (by omega))))))
theorem rq41 : RQ 41 := Or.inl rfl
section
variable {M : Mem} {c0 : Nat} {h : CH} {S : PSt} {T c s : Nat} {E : Nat → Nat → Nat} {sv : Nat → PSt × Nat}
theorem CC.cs {M1 : Mem} (g : CC M c0 h) (f : FR Wcs M M1) : CC M1 c0 h := g.fr f (fun b j p q => by have := g.z; unfold zCh2 at this; unfold Wch at p; unfold Wcs Wge Wde Wtm at q; omega)
/-- the class copies a page for trials -/
theorem ctry (g : RST M) (l : LD M c0 h S T E c sv) (lv : LV h S T c sv) {j : Nat} (hj : j < kQ h) : ∃ M1, f_X8_copy 41 (13 + 2 + 2 * j) M = some M1 ∧ FR Wcs M M1 ∧ CR M1 41 (kN h) j (S.2 j) ∧ DKh M1 h := by
  have hq := lv.1.q
  obtain ⟨M1, a1, a2, a3⟩ := s_rcopy (c := 41) (d := 13 + 2 + 2 * j) g.W rq41 (pq_r (Or.inl rfl : PQ 13) (by omega : j < 6)) (by omega) (by omega) (by omega) (l.cp.2 j (by omega)) lv.1.n63.1
  exact ⟨M1, a1, a2.mo (fun a j q => Or.inr q), a3, l.dk.fr a2 (fun a j p q => by omega)⟩
theorem cgetT (g : RST M) (l : LD M c0 h S T E c sv) (lv : LV h S T c sv) {M0 : Mem} {j : Nat} {r : RW} (f : FR Wcs M M0) (hr : CR M0 41 (kN h) j r) (hw : r.1 = true) (hV : RV (kM h) (kP h) (kT h) (kN h) r) (hK : DKh M0 h) : ∃ M1, f_X3_get 12 c0 41 M0 = some M1 ∧ FR Wcs M M1 ∧ CR M1 41 (kN h) j r ∧ DKh M1 h ∧ zI M1 12 7 = b01 (gTr h r) := by
  obtain ⟨M1, a1, a2⟩ := s_get (f.W g.W) lv.1 (l.cc.cs f) rq41 hr hw hV hK
  exact ⟨M1, a1, f.tr (a2.1.mo (fun a j q => Or.inl q)), hr.ge rq41 a2.1, a2.2.1, a2.2.2.2.2.2.2⟩
theorem cdayT (g : RST M) (l : LD M c0 h S T E c sv) (lv : LV h S T c sv) {M0 : Mem} {j d : Nat} {r : RW} (f : FR Wcs M M0) (hj : j < 6) (hd : d ≤ 9999) (hr : CR M0 41 (kN h) j r) (hw : r.1 = true) (hV : RV (kM h) (kP h) (kT h) (kN h) r) (hK : DKh M0 h) : ∃ M1, f_X10_passDay 3 c0 41 (nI d) M0 = some M1 ∧ FR Wcs M M1 ∧ CR M1 41 (kN h) j (pdR h d j r) ∧ DKh M1 h := by
  obtain ⟨M1, a1, a2, a3⟩ := s_passDay (f.W g.W) lv.1 (l.cc.cs f) rq41 hd (by omega) hr hw hV
  exact ⟨M1, a1, f.tr (a2.mo (fun a j q => by rcases q with q | q | q; exact Or.inl (Or.inr (Or.inr q)); exact Or.inr (Or.inl q); exact Or.inr (Or.inr q))), a3, hK.fr a2 (fun a j p q => by unfold Wtm at q; omega)⟩
theorem mtrueT (g : RST M) (l : LD M c0 h S T E c sv) (lv : LV h S T c sv) {M0 : Mem} (f : FR (fun a j => Wgm a j ∨ Wlk 1 a j) M M0) {j : Nat} {r : RW} (hj : j < 6) (hr : MR M0 1 j (kN h) r) (hw : r.1 = true) (hV : RV (kM h) (kP h) (kT h) (kN h) r) : ∃ M1, f_X12_isTrue 355 1 (nI j) M0 = some (b01 (gTr h r), M1) ∧ FR (fun a j => Wgm a j ∨ Wlk 1 a j) M M1 ∧ FR Wgm M0 M1 := by
  have l0 : MC M0 h := l.mc.fr f (fun a j p q => by unfold Wmc at p; unfold Wgm Wrb Wag Wlk Wla Wke at q; omega)
  obtain ⟨M1, a1, a2⟩ := s_mtrue (vv := 1) (x := 1) (y := nI j) rfl rfl (f.W g.W) lv.1 l0 (by decide) hj hr hw hV
  exact ⟨M1, a1, f.tr (a2.mo (fun a j q => Or.inl q)), a2⟩
end
theorem MP.gm {M M1 : Mem} {h : CH} (v : CV h) {vv : Nat} {S : PSt} (g : MP M vv (kN h) S) (f : FR Wgm M M1) : MP M1 vv (kN h) S := g.fr v.n63.1 f (fun a j p q => by unfold Wla at p; unfold Wgm Wrb Wag at q; omega)
theorem op_lost (x : Int32) : OP (f_X11_lost 0 x) (f_X12_lost 355 x) := by
  intro M s g
  have hW := g.rst.W
  unfold f_X11_lost f_X12_lost
  rcases wcase g x with ⟨p1, p2⟩ | ⟨c0, h, S, T, E, c, sv, j, l, lv, hT, e, hj, hw⟩
  · exact ⟨-1, M, M, by rw [p1, b_i]; exact ip rfl rfl, by rw [p2, b_i]; exact ip rfl rfl, g.mono (by omega)⟩
  · subst e
    have hq := lv.1.q
    have hd := lv.2.1.2.1
    have hV := lv.2.1.1 j (by omega)
    obtain ⟨p1, -⟩ := wrT hW l lv.1 hj hw
    have hwi : ∀ k, (itR h S.1 j (S.2 j) k).1 = true := fun k => by rw [(itR_w h S.1 j (S.2 j) k).1]; exact hw
    obtain ⟨M1, a1, a2, a3, a4⟩ := ctry g.rst l lv hj
    obtain ⟨B, hB⟩ : ∃ B, B = min 41 (1000 - S.1) := ⟨_, rfl⟩
    have lc : ∀ e k f M0, k + e = B → FR Wcs M M0 → CR M0 41 (kN h) j (itR h S.1 j (S.2 j) k) → DKh M0 h → ∃ M2, f_X11_lost_28 0 (nI j) (e + 1 + f) (nI k) M0 = some (nxI (fU (fun k => !gTr h (itR h S.1 j (S.2 j) k)) e k), M2) ∧ FR Wcs M M2 ∧ DKh M2 h := by
      intro e
      induction e with
      | zero =>
        intro k f M0 ek fr hr hK
        refine ⟨M0, ?_, fr, hK⟩
        rw [show 0 + 1 + f = f + 1 by omega, f_X11_lost_28]
        unfold f_X11_lost_106
        by_cases h40 : 40 < k
        · exact ip (show (40 : Int32) < nI k from nI_lt (a := 40) h40 (by omega)) rfl
        · refine im (show ¬ (40 : Int32) < nI k from nI_nlt (a := 40) (by omega) (by decide)) ?_
          rw [w0_5 (fr.W hW), b_i, fr.I (by unfold Wcs Wge Wde Wtm; omega), l.cp.1, nI_add]
          exact ip (show (999 : Int32) < nI (S.1 + k) from nI_lt (a := 999) (by omega) (by omega)) rfl
      | succ e ih =>
        intro k f M0 ek fr hr hK
        have hW0 := fr.W hW
        obtain ⟨M2, b1, b2, b3, b4, b5⟩ := cgetT g.rst l lv fr hr (hwi k) (itR_v hV k) hK
        have hcur : ∀ M', FR Wcs M M' → zrf M' 0 11 = some c0 := fun M' f => (f.R _ _).trans l.cur
        have h13 : ∀ M', FR Wcs M M' → zI M' 13 1 = nI S.1 := fun M' f => (f.I (by unfold Wcs Wge Wde Wtm; omega)).trans l.cp.1
        rw [show e + 1 + 1 + f = (e + 1 + f) + 1 by omega, f_X11_lost_28, if_neg (show ¬ (40 : Int32) < nI k from nI_nlt (a := 40) (by omega) (by decide)), w0_5 hW0, b_i, h13 M0 fr, nI_add, if_neg (show ¬ (999 : Int32) < nI (S.1 + k) from nI_nlt (a := 999) (by omega) (by decide)), w0_4 hW0, b_i, hcur M0 fr, b_i, w0_7 hW0, b_i, b1, b_i, w0_4 (b2.W hW), b_i, b5]
        have hf : fU (fun k => !gTr h (itR h S.1 j (S.2 j) k)) (e + 1) k = if (!gTr h (itR h S.1 j (S.2 j) k)) then some k else fU (fun k => !gTr h (itR h S.1 j (S.2 j) k)) e (k + 1) := rfl
        rw [hf]
        cases hb : gTr h (itR h S.1 j (S.2 j) k) with
        | false => exact ⟨M2, ip b01_f rfl, b2, b4⟩
        | true =>
          obtain ⟨M3, d1, d2, d3, d4⟩ := cdayT (d := S.1 + k) g.rst l lv b2 (by omega) (by omega) b3 (hwi k) (itR_v hV k) b4
          obtain ⟨M4, e1, e2, e3⟩ := ih (k + 1) f M3 (by omega) d2 d3 d4
          refine ⟨M4, ?_, e2, e3⟩
          refine im b01_n0 ?_
          rw [w0_2 (b2.W hW), b_i, hcur M2 b2, b_i, w0_7 (b2.W hW), b_i, w0_5 (b2.W hW), b_i, h13 M2 b2, nI_add, d1, b_i, nI_1, if_neg (by decide)]
          exact e1
    obtain ⟨M2, b1, b2, b3⟩ := lc B 0 (1000000 - B - 1) M1 (by omega) a2 a3 a4
    rw [show B + 1 + (1000000 - B - 1) = 1000000 by omega] at b1
    have fs : FR Wsc M M2 := b2.mo (fun a j q => Wsc_cs q)
    have g1 := g.rst.sc fs
    have l1 : LD M2 c0 h S T E c sv := l.sc lv.1 fs b3
    obtain ⟨-, p2⟩ := wrT g1.W l1 lv.1 hj hw
    obtain ⟨M3, d1, d2, d3⟩ := mtry g1 l1 lv
    have lm : ∀ e k f M0, k + e = B → FR (fun a j => Wgm a j ∨ Wlk 1 a j) M2 M0 → MP M0 1 (kN h) (itS h S k) → ∃ M4, f_X12_lost_18 355 (nI j) (e + 1 + f) (nI k) M0 = some (nxI (fU (fun k => !gTr h (itR h S.1 j (S.2 j) k)) e k), M4) ∧ FR (fun a j => Wgm a j ∨ Wlk 1 a j) M2 M4 := by
      intro e
      induction e with
      | zero =>
        intro k f M0 ek fr hP
        have l0 : LD M0 c0 h S T E c sv := l1.sc lv.1 (fr.mo (fun a j q => q.elim Wsc_gm Wsc_lk)) (l1.dk.md fr)
        refine ⟨M0, ?_, fr⟩
        rw [show 0 + 1 + f = f + 1 by omega, f_X12_lost_18, s_ahead (lo := 0) (xl := 0) (fr.W g1.W) l0 rfl (by decide) hd (by omega), b_i, decide_eq_false (by omega)]
        exact ip b01_f rfl
      | succ e ih =>
        intro k f M0 ek fr hP
        have l0 : LD M0 c0 h S T E c sv := l1.sc lv.1 (fr.mo (fun a j q => q.elim Wsc_gm Wsc_lk)) (l1.dk.md fr)
        have hP2 := hP.2 j (by omega)
        rw [itS_2 hj hw] at hP2
        obtain ⟨M4, q1, q2, q3⟩ := mtrueT g1 l1 lv fr (by omega) hP2 (hwi k) (itR_v hV k)
        rw [show e + 1 + 1 + f = (e + 1 + f) + 1 by omega, f_X12_lost_18, s_ahead (lo := 0) (xl := 0) (fr.W g1.W) l0 rfl (by decide) hd (by omega), b_i, decide_eq_true (by omega), if_neg (show ¬ (b01 true, M0).1 = 0 from b01_n0)]
        dsimp only
        rw [q1, b_i]
        have hf : fU (fun k => !gTr h (itR h S.1 j (S.2 j) k)) (e + 1) k = if (!gTr h (itR h S.1 j (S.2 j) k)) then some k else fU (fun k => !gTr h (itR h S.1 j (S.2 j) k)) e (k + 1) := rfl
        rw [hf]
        cases hb : gTr h (itR h S.1 j (S.2 j) k) with
        | false => exact ⟨M4, ip b01_f rfl, q2⟩
        | true =>
          obtain ⟨M5, r1, r2, r3⟩ := mtryD g1 l1 lv q2 (by omega) (hP.gm lv.1 q3)
          obtain ⟨M6, e1, e2⟩ := ih (k + 1) f M5 (by omega) r2 r3
          refine ⟨M6, ?_, e2⟩
          refine im b01_n0 ?_
          dsimp only
          rw [r1, b_i, nI_1, if_neg (by decide)]
          exact e1
    obtain ⟨M4, q1, q2⟩ := lm B 0 (1000000 - B - 1) M3 (by omega) (d2.mo (fun a j q => Or.inr q)) d3
    rw [show B + 1 + (1000000 - B - 1) = 1000000 by omega] at q1
    refine ⟨nxI (fU (fun k => !gTr h (itR h S.1 j (S.2 j) k)) B 0), M2, M4, ?_, ?_, scM g1 l1 lv hT q2⟩
    · rw [p1, b_i]
      refine im (one_n0 _) ?_
      dsimp only
      rw [w0_7 hW, b_i, crow hW (by omega), a1, b_i]
      exact b1
    · rw [p2, b_i]
      refine im (one_n0 _) ?_
      dsimp only
      rw [d1, b_i]
      exact q1
/-- one cell turned -/
def tnR (r : RW) (k : Nat) : RW := (r.1, r.2.1, r.2.2.1, fun q => if q = k then 99 - r.2.2.2 k else r.2.2.2 q)
theorem RV.tn {h : CH} {r : RW} {k : Nat} (v : RV (kM h) (kP h) (kT h) (kN h) r) : RV (kM h) (kP h) (kT h) (kN h) (tnR r k) := by
  intro e
  obtain ⟨v1, v2, v3, v4⟩ := v e
  refine ⟨v1, v2, v3, fun q hq => ?_⟩
  show (if q = k then 99 - r.2.2.2 k else r.2.2.2 q) ≤ 99
  by_cases e : q = k
  · rw [if_pos e]; omega
  · rw [if_neg e]; exact v4 q hq
theorem CR.ext {M : Mem} {c n i : Nat} {r r' : RW} (h : CR M c n i r) (e1 : r'.1 = r.1) (e2 : r'.2.1 = r.2.1) (e3 : r'.2.2.1 = r.2.2.1) (e4 : ∀ k, k < n → r'.2.2.2 k = r.2.2.2 k) : CR M c n i r' := by
  obtain ⟨h1, h2, h3⟩ := h
  refine ⟨h1, by rw [e1]; exact h2, fun q => ?_⟩
  rw [e1] at q
  obtain ⟨g1, g2, g3⟩ := h3 q
  exact ⟨by rw [e2]; exact g1, by rw [e3]; exact g2, fun k hk => by rw [e4 k hk]; exact g3 k hk⟩
theorem tn_tn {r : RW} {k n : Nat} (hk : k < n) (hl : ∀ q, q < n → r.2.2.2 q ≤ 99) : ∀ q, q < n → r.2.2.2 q = (tnR (tnR r k) k).2.2.2 q := by
  intro q hq
  show _ = if q = k then 99 - (if k = k then 99 - r.2.2.2 k else r.2.2.2 k) else (if q = k then 99 - r.2.2.2 k else r.2.2.2 q)
  by_cases e : q = k
  · rw [if_pos e, if_pos rfl, e]; have := hl k hk; omega
  · rw [if_neg e, if_neg e]
def nNo (h : CH) (r : RW) : Nat → Nat := fun k => nsm k (fun q => if gTr h (tnR r q) then 1 else 0)
theorem nNo_le (h : CH) (r : RW) : ∀ k, nNo h r k ≤ k := by
  intro k
  induction k with
  | zero => exact Nat.le_refl _
  | succ k ih =>
    show nNo h r k + (if gTr h (tnR r k) then 1 else 0) ≤ k + 1
    cases gTr h (tnR r k) <;> simp <;> omega
theorem op_odds (x : Int32) : OP (f_X11_odds 0 x) (f_X12_odds 355 x) := by
  intro M s g
  have hW := g.rst.W
  rcases g.st with ⟨c0, h, S, T, E, c, sv, l, lv, hT⟩ | o
  · have hd := lv.2.1.2.1
    have hq := lv.1.q
    have hn := lv.1.n63
    have hs := lv.1.s
    obtain ⟨bk, ⟨-, -, hMD⟩, -, -, ⟨-, -, -, -, b8⟩, -⟩ := id l.mc
    have m39 : zI M 355 39 = nI (kN h) := hMD.2.2.1
    have ahead : ∀ M0, WRc M0 → zI M0 355 35 = 1 → zI M0 381 0 = nI S.1 → f_X12_isAhead 355 1 1 1 M0 = some (b01 (decide (S.1 < 999)), M0) := by
      intro M0 hW0 h35 h381
      unfold f_X12_isAhead f_X12_isAhead_34 f_X12_isAhead_35 f_X12_is f_X12_is_15
      rw [h35, if_neg (show ¬ (1 : Int32) = 0 by decide), if_neg (show ¬ (1 : Int32) < 1 by decide), if_neg (show ¬ (1 : Int32) < 1 by decide), zbz1, b_i, if_neg (one_n0 _)]
      dsimp only
      rw [w355_55 hW0, b_i, show zld 381 0 = some 0 from rfl, b_i, h381, show (999 : Int32) - 1 = nI 998 from rfl]
      by_cases h9 : S.1 < 999
      · rw [if_neg (nI_nlt (by omega) (by omega)), zbz1, decide_eq_true h9]; rfl
      · rw [if_pos (nI_lt (by omega) (by omega)), zbz0, decide_eq_false h9]; rfl
    unfold f_X11_odds f_X11_odds_20 f_X12_odds f_X12_odds_23
    by_cases h9 : S.1 < 999
    · have cls0 : ∀ (A B : Option (Int32 × Mem)), (if zI M 0 14 = 0 then A else Option.bind (zrf M 0 5) fun q12 => (if zI M q12 1 < 999 then B else A)) = B := fun A B => by
        rw [l.on.1, if_neg (by decide), w0_5 hW, b_i, l.cp.1, if_pos (show nI S.1 < (999 : Int32) from nI_lt (b := 999) h9 (by decide))]
      by_cases hx1 : x = -1
      · subst hx1
        refine ⟨100 * nI (kN h), M, M, ?_, ?_, g.mono (by omega)⟩
        · rw [cls0, l.cur, b_i, wC_0 hW l.cc.z, b_i, l.cc.n]
          exact ip rfl rfl
        · rw [ahead M hW l.on.2 l.mp.1, b_i, decide_eq_true h9]
          refine im b01_n0 (ip rfl ?_)
          unfold f_X12_odds_25
          dsimp only
          rw [m39]
          exact ip rfl rfl
      · by_cases hwx : ∃ j, j < kQ h ∧ x = nI j ∧ (S.2 j).1 = true
        · obtain ⟨j, hj, e, hw⟩ := hwx
          subst e
          obtain ⟨p1, -⟩ := wrT hW l lv.1 hj hw
          have hV := lv.2.1.1 j (by omega)
          obtain ⟨M1, a1, a2, a3, a4⟩ := ctry g.rst l lv hj
          obtain ⟨M2, b1, b2, b3, b4⟩ := cdayT (d := S.1) g.rst l lv a2 (by omega) (by omega) a3 hw hV a4
          obtain ⟨r1, hr1⟩ : ∃ r1, r1 = pdR h S.1 j (S.2 j) := ⟨_, rfl⟩
          rw [← hr1] at b3
          have hw1 : r1.1 = true := by rw [hr1]; exact hw
          have hV1 : RV (kM h) (kP h) (kT h) (kN h) r1 := by rw [hr1]; exact hV.pd
          obtain ⟨M3, d1, d2, d3, d4, d5⟩ := cgetT g.rst l lv b2 b3 hw1 hV1 b4
          have hcur : ∀ M', FR Wcs M M' → zrf M' 0 11 = some c0 := fun M' f => (f.R _ _).trans l.cur
          have hlev := (hV1 hw1).2.2.2
          have lc : ∀ e k f M0 qt, k + e = kN h → FR Wcs M M0 → CR M0 41 (kN h) j r1 → DKh M0 h → ∃ M4, f_X11_odds_128 0 (nI j) (e + 1 + f) (nI (kN h)) (nI qt) (nI (nNo h r1 k)) (nI k) M0 = some (nI ((100 - kZ h) * qt + kZ h * nNo h r1 (kN h)), M4) ∧ FR Wcs M M4 ∧ DKh M4 h := by
            intro e
            induction e with
            | zero =>
              intro k f M0 qt ek fr hr hK
              have : k = kN h := by omega
              subst this
              refine ⟨M0, ?_, fr, hK⟩
              rw [show 0 + 1 + f = f + 1 by omega, f_X11_odds_128, if_pos (nI_le (Nat.le_refl _) (by omega)), hcur M0 fr, b_i, b_i, (l.cc.cs fr).s.2.2.2.2, show (100 : Int32) = nI 100 from rfl, pk_sub (by omega), pk_mul, pk_mul, nI_add]
            | succ e ih =>
              intro k f M0 qt ek fr hr hK
              have hW0 := fr.W hW
              obtain ⟨M4, t1, t2, t3⟩ := s_rturn hW0 rq41 (by omega : k < kN h) hn.1 hr hw1 (hlev k (by omega))
              have f4 : FR Wcs M M4 := fr.tr (t2.mo (fun a j q => Or.inr (Or.inr q)))
              have t3 : CR M4 41 (kN h) j (tnR r1 k) := t3.ext hw1 rfl rfl (fun _ _ => rfl)
              obtain ⟨M5, u1, u2, u3, u4, u5⟩ := cgetT g.rst l lv f4 t3 hw1 hV1.tn (hK.fr t2 (fun a j p q => by omega))
              have hl2 : (tnR r1 k).2.2.2 k ≤ 99 := (hV1.tn hw1).2.2.2 k (by omega)
              obtain ⟨M6, w1, w2, w3⟩ := s_rturn (u2.W hW) rq41 (by omega : k < kN h) hn.1 u3 hw1 hl2
              have f6 : FR Wcs M M6 := u2.tr (w2.mo (fun a j q => Or.inr (Or.inr q)))
              have w3 : CR M6 41 (kN h) j r1 := w3.ext hw1 rfl rfl (fun q hq => tn_tn (n := kN h) (by omega) hlev q hq)
              obtain ⟨M7, y1, y2, y3⟩ := ih (k + 1) f M6 qt (by omega) f6 w3 (u4.fr w2 (fun a j p q => by omega))
              refine ⟨M7, ?_, y2, y3⟩
              have hs2 : nNo h r1 (k + 1) = nNo h r1 k + (if gTr h (tnR r1 k) then 1 else 0) := rfl
              rw [show e + 1 + 1 + f = (e + 1 + f) + 1 by omega, f_X11_odds_128, if_neg (nI_ge (by omega) (by omega)), w0_7 hW0, b_i, t1, b_i, w0_4 (f4.W hW), b_i, hcur M4 f4, b_i, w0_7 (f4.W hW), b_i, u1, b_i, w0_4 (u2.W hW), b_i, u5]
              unfold f_X11_odds_175
              rw [w0_7 (u2.W hW), b_i, w1, b_i]
              rw [hs2] at y1
              cases hb : gTr h (tnR r1 k) with
              | false => rw [hb, if_neg (by decide), Nat.add_zero] at y1; rw [if_pos b01_f, show nI (nNo h r1 k) + 0 = nI (nNo h r1 k) from nI_add _ 0, nI_1]; exact y1
              | true => rw [hb, if_pos rfl] at y1; rw [if_neg b01_n0, b_i, w1, b_i, nI_1, nI_1]; exact y1
          obtain ⟨qt, hqt⟩ : ∃ qt, qt = if gTr h r1 then kN h else 0 := ⟨_, rfl⟩
          obtain ⟨M4, e1, e2, e3⟩ := lc (kN h) 0 (1000000 - kN h - 1) M3 qt (by omega) d2 d3 d4
          rw [show kN h + 1 + (1000000 - kN h - 1) = 1000000 by omega] at e1
          have fs : FR Wsc M M4 := e2.mo (fun a j q => Wsc_cs q)
          have g1 := g.rst.sc fs
          have l1 : LD M4 c0 h S T E c sv := l.sc lv.1 fs e3
          obtain ⟨-, p2⟩ := wrT g1.W l1 lv.1 hj hw
          obtain ⟨M5, k1, k2, k3⟩ := mtry g1 l1 lv
          obtain ⟨M6, k4, k5, k6⟩ := mtryD (k := 0) g1 l1 lv (k2.mo (fun a j q => Or.inr q)) (by decide) k3
          have hP2 := k6.2 j (by omega)
          rw [itS_2 hj hw, show itR h S.1 j (S.2 j) (0 + 1) = r1 from hr1.symm] at hP2
          obtain ⟨M7, k7, k8, k9⟩ := mtrueT g1 l1 lv k5 (by omega) hP2 hw1 hV1
          have bz : ∀ M', FR (fun a j => Wgm a j ∨ Wlk 1 a j) M4 M' → BY M' 8 (kZ h) ∧ zI M' 355 39 = nI (kN h) := by
            intro M' f
            have l0 : MC M' h := l1.mc.fr f (fun a j p q => by unfold Wmc at p; unfold Wgm Wrb Wag Wlk Wla Wke at q; omega)
            obtain ⟨bk, ⟨-, -, hMD⟩, -, -, ⟨-, -, -, -, b8⟩, -⟩ := l0
            exact ⟨b8, hMD.2.2.1⟩
          have lm : ∀ e k f M0 ac, k + e = kN h → FR (fun a j => Wgm a j ∨ Wlk 1 a j) M4 M0 → MR M0 1 j (kN h) r1 → ∃ M8, f_X12_odds_79 355 (nI j) (e + 1 + f) (nI (ac + kZ h * nNo h r1 k)) (nI k) M0 = some (nI (ac + kZ h * nNo h r1 (kN h)), M8) ∧ FR (fun a j => Wgm a j ∨ Wlk 1 a j) M4 M8 := by
            intro e
            induction e with
            | zero =>
              intro k f M0 ac ek fr hr
              have : k = kN h := by omega
              subst this
              exact ⟨M0, by rw [show 0 + 1 + f = f + 1 by omega, f_X12_odds_79, (bz M0 fr).2, if_pos (nI_le (Nat.le_refl _) (by omega))], fr⟩
            | succ e ih =>
              intro k f M0 ac ek fr hr
              have hW0 := fr.W g1.W
              have hrl := (hr.2 hw1).2.2 k (by omega)
              have hle := hlev k (by omega)
              have f1a : FR (fun a j' => a = 385 ∧ j' = 64 * (6 * 1 + j) + k) M0 (zsI M0 385 (64 * (6 * 1 + j) + k) (nI (99 - r1.2.2.2 k))) := (FR.rf _ M0).sI ⟨rfl, rfl⟩
              have f1 : FR (fun a j => Wgm a j ∨ Wlk 1 a j) M4 (zsI M0 385 (64 * (6 * 1 + j) + k) (nI (99 - r1.2.2.2 k))) := fr.tr (f1a.mo (fun a j' q => Or.inr (Or.inl (by unfold Wla; omega))))
              have hr1' : MR (zsI M0 385 (64 * (6 * 1 + j) + k) (nI (99 - r1.2.2.2 k))) 1 j (kN h) (tnR r1 k) := by
                refine ⟨(f1a.I (by omega)).trans hr.1, fun _ => ⟨(f1a.I (by omega)).trans (hr.2 hw1).1, (f1a.L (by omega)).trans (hr.2 hw1).2.1, fun q hq => ?_⟩⟩
                show _ = nI (if q = k then 99 - r1.2.2.2 k else r1.2.2.2 q)
                by_cases eq : q = k
                · subst eq; rw [zI_se, if_pos rfl]
                · rw [zI_sn _ _ (by omega), if_neg eq]; exact (hr.2 hw1).2.2 q hq
              obtain ⟨M8, t1, t2, t3⟩ := mtrueT g1 l1 lv f1 (by omega) hr1' hw1 hV1.tn
              have f9a : FR (fun a j' => a = 385 ∧ j' = 64 * (6 * 1 + j) + k) M8 (zsI M8 385 (64 * (6 * 1 + j) + k) (nI (r1.2.2.2 k))) := (FR.rf _ M8).sI ⟨rfl, rfl⟩
              have f9 : FR (fun a j => Wgm a j ∨ Wlk 1 a j) M4 (zsI M8 385 (64 * (6 * 1 + j) + k) (nI (r1.2.2.2 k))) := t2.tr (f9a.mo (fun a j' q => Or.inr (Or.inl (by unfold Wla; omega))))
              have hr8 := hr1'.gm lv.1 t3
              have hr9 : MR (zsI M8 385 (64 * (6 * 1 + j) + k) (nI (r1.2.2.2 k))) 1 j (kN h) r1 := by
                refine ⟨(f9a.I (by omega)).trans hr8.1, fun _ => ⟨(f9a.I (by omega)).trans (hr8.2 hw1).1, (f9a.L (by omega)).trans (hr8.2 hw1).2.1, fun q hq => ?_⟩⟩
                by_cases eq : q = k
                · subst eq; rw [zI_se]
                · rw [zI_sn _ _ (by omega)]
                  have := (hr8.2 hw1).2.2 q hq
                  rw [show (tnR r1 k).2.2.2 q = r1.2.2.2 q from if_neg eq] at this
                  exact this
              obtain ⟨M9, y1, y2⟩ := ih (k + 1) f _ ac (by omega) f9 hr9
              refine ⟨M9, ?_, y2⟩
              have hs2 : nNo h r1 (k + 1) = nNo h r1 k + (if gTr h (tnR r1 k) then 1 else 0) := rfl
              rw [show e + 1 + 1 + f = (e + 1 + f) + 1 by omega, f_X12_odds_79, (bz M0 fr).2, if_neg (nI_ge (by omega) (by omega)), show f_X12_levelAt 355 1 (nI j) (nI k) M0 = some (nI (r1.2.2.2 k), M0) from (s_levelAt (v := 1) hW0 (by decide) (by omega) (by omega)).trans (by rw [hrl]), b_i]
              dsimp only
              rw [show (99 : Int32) = nI 99 from rfl, pk_sub hle, show f_X12_puts 355 1 (nI j) (nI k) (nI (99 - r1.2.2.2 k)) M0 = some (zsI M0 385 (64 * (6 * 1 + j) + k) (nI (99 - r1.2.2.2 k))) from s_puts (v := 1) hW0 (by decide) (by omega) (by omega), b_i, t1, b_i]
              dsimp only
              unfold f_X12_odds_128
              have hput : f_X12_puts 355 1 (nI j) (nI k) (nI (r1.2.2.2 k)) M8 = some (zsI M8 385 (64 * (6 * 1 + j) + k) (nI (r1.2.2.2 k))) := s_puts (v := 1) (t2.W g1.W) (by decide) (by omega) (by omega)
              rw [hs2] at y1
              cases hb : gTr h (tnR r1 k) with
              | false =>
                rw [hb, if_neg (by decide), Nat.add_zero] at y1
                rw [if_pos b01_f, hput, b_i, show nI (ac + kZ h * nNo h r1 k) + 0 = nI (ac + kZ h * nNo h r1 k) from nI_add _ 0, nI_1]
                exact y1
              | true =>
                rw [hb, if_pos rfl, Nat.mul_add, Nat.mul_one, ← Nat.add_assoc] at y1
                rw [if_neg b01_n0, s_by (x := 8) (t2.W g1.W) rfl (by decide) (bz M8 t2).1, b_i]
                dsimp only
                rw [hput, b_i, nI_add, nI_1]
                exact y1
          obtain ⟨M8, m1, m2⟩ := lm (kN h) 0 (1000000 - kN h - 1) M7 ((100 - kZ h) * qt) (by omega) k8 (hP2.gm lv.1 k9)
          rw [show kN h + 1 + (1000000 - kN h - 1) = 1000000 by omega, show nNo h r1 0 = 0 from rfl, Nat.mul_zero, Nat.add_zero] at m1
          refine ⟨nI ((100 - kZ h) * qt + kZ h * nNo h r1 (kN h)), M4, M8, ?_, ?_, scM g1 l1 lv hT m2⟩
          · rw [cls0, l.cur, b_i, wC_0 hW l.cc.z, b_i]
            refine im hx1 ?_
            rw [p1, b_i]
            refine im (one_n0 _) ?_
            dsimp only
            rw [w0_7 hW, b_i, crow hW (by omega), a1, b_i, w0_2 (a2.W hW), b_i, hcur M1 a2, b_i, w0_7 (a2.W hW), b_i, w0_5 (a2.W hW), b_i, a2.I (by unfold Wcs Wge Wde Wtm; omega), l.cp.1, b1, b_i, w0_4 (b2.W hW), b_i, hcur M2 b2, b_i, w0_7 (b2.W hW), b_i, d1, b_i, w0_4 (d2.W hW), b_i, d5, l.cc.n]
            unfold f_X11_odds_121
            cases hb : gTr h r1 with
            | false =>
              rw [hb, if_neg (by decide)] at hqt
              rw [if_pos b01_f]
              rw [hqt] at e1 ⊢
              exact e1
            | true =>
              rw [hb, if_pos rfl] at hqt
              rw [if_neg b01_n0]
              rw [hqt] at e1 ⊢
              exact e1
          · rw [ahead M4 g1.W l1.on.2 l1.mp.1, b_i, decide_eq_true h9]
            refine im b01_n0 (im hx1 ?_)
            dsimp only
            rw [p2, b_i]
            refine im (one_n0 _) ?_
            dsimp only
            unfold f_X12_odds_25 f_X12_odds_76
            refine im hx1 ?_
            rw [k1, b_i, k4, b_i, k7, b_i]
            dsimp only
            cases hb : gTr h r1 with
            | false =>
              rw [hb, if_neg (by decide)] at hqt
              rw [if_pos b01_f]
              rw [hqt, Nat.mul_zero] at m1
              rw [hqt, Nat.mul_zero]
              exact m1
            | true =>
              rw [hb, if_pos rfl] at hqt
              rw [if_neg b01_n0, s_by (x := 8) (k8.W g1.W) rfl (by decide) (bz M7 k8).1, b_i]
              dsimp only
              rw [(bz M7 k8).2, show (100 : Int32) = nI 100 from rfl, pk_sub (by omega), pk_mul]
              rw [hqt] at m1 ⊢
              exact m1
        · obtain ⟨p1, p2⟩ := wrF hW l lv.1 hwx
          refine ⟨-1, M, M, ?_, ?_, g.mono (by omega)⟩
          · rw [cls0, l.cur, b_i, wC_0 hW l.cc.z, b_i]
            refine im hx1 ?_
            rw [p1, b_i]
            exact ip rfl rfl
          · rw [ahead M hW l.on.2 l.mp.1, b_i, decide_eq_true h9]
            refine im b01_n0 (im hx1 ?_)
            dsimp only
            rw [p2, b_i]
            exact ip rfl rfl
    · refine ⟨-1, M, M, ?_, ?_, g.mono (by omega)⟩
      · rw [l.on.1, if_neg (show ¬ (1 : Int32) = 0 by decide), w0_5 hW, b_i, l.cp.1]
        exact im (show ¬ nI S.1 < (999 : Int32) from nI_nlt (b := 999) (by omega) (by omega)) rfl
      · rw [ahead M hW l.on.2 l.mp.1, b_i, decide_eq_false h9]
        exact ip b01_f rfl
  · refine ⟨-1, M, M, ?_, ?_, g.mono (by omega)⟩
    · unfold f_X11_odds f_X11_odds_20
      exact ip o.1.1 rfl
    · unfold f_X12_odds f_X12_odds_23 f_X12_isAhead f_X12_isAhead_34 f_X12_isAhead_35
      rw [o.1.2, if_pos rfl, zbz0, b_i]
      exact ip rfl rfl
