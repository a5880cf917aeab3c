/-! calls: days -/
theorem PV.pd {h : CH} {S : PSt} (g : PV h S) (hd : S.1 + 1 ≤ 999) : PV h (pdS h S) := by
  refine ⟨g.1.pd, hd, fun i hi hi6 => ?_⟩
  show (if i < kQ h ∧ (S.2 i).1 = true then pdR h S.1 i (S.2 i) else S.2 i).1 = false
  rw [if_neg (fun q => by omega)]
  exact g.2.2 i hi hi6
theorem PV.it {h : CH} {S : PSt} (g : PV h S) : ∀ k, S.1 + k ≤ 999 → PV h (itS h S k) := by
  intro k
  induction k with
  | zero => intro _; exact g
  | succ k ih => intro hk; exact (ih (by omega)).pd (by rw [itS_1]; omega)
section
variable {M : Mem} {c0 : Nat} {h : CH} {S : PSt} {T c s : Nat} {E : Nat → Nat → Nat} {sv : Nat → PSt × Nat}
theorem c_pass (hW : WRc M) (v : CV h) (pv : SV h S) (hd : S.1 ≤ 9998) (l : LC M c0 h S T E c sv) : ∃ M1, f_X11_passDay 0 M = some M1 ∧ FR WcA M M1 ∧ LC M1 c0 h (pdS h S) T E c sv := by
  obtain ⟨g1, g2, g3, g4, g5, g6, g7⟩ := l
  have hz : c0 = 335 ∨ c0 = 344 := g2.z
  obtain ⟨M1, a1, a2, a3⟩ := s_cpass hW g1 v g2 hd g4 pv
  refine ⟨M1, a1, a2.mo (fun a j q => by unfold Wtm at q; unfold WcA; omega), (a2.R _ _).trans g1, g2.fr a2 (fun a j p q => by unfold Wch at p; unfold Wtm at q; omega), (a2.I (by unfold Wtm; omega)).trans g3, a3, g5.fr a2 (fun a j _ _ => by unfold Wtm; omega), g6.fr a2 (fun a j p => by unfold Wtm; omega), g7.fr a2 (by unfold Wtm; omega) (fun _ => by unfold Wtm; omega) (fun _ => by unfold Wtm; omega)⟩
theorem m_pass (hW : WRc M) (v : CV h) (pv : SV h S) (hd : S.1 ≤ 9998) (l : LM M h S T E c sv) : ∃ M1, f_X12_passes 355 0 M = some M1 ∧ FR WmA M M1 ∧ LM M1 h (pdS h S) T E c sv := by
  obtain ⟨g1, g2, g3, g4⟩ := l
  obtain ⟨M1, a1, a2, a3⟩ := s_mpass (vv := 0) (x := 0) rfl hW v g1 (by decide) hd g3 pv
  refine ⟨M1, a1, a2.mo (fun a j q => ?_), g1.fr a2 (fun a j p q => by unfold Wmc at p; unfold Wla at q; omega), (a2.I (by unfold Wla; omega)).trans g2, a3, g4.fr v.n63.1 a2 (fun a j p q => by unfold Wpa at p; unfold Wla at q; omega)⟩
  rcases q with q | q | q
  · exact Or.inr (Or.inl (Or.inl q))
  · exact Or.inl (Or.inr (Or.inl q))
  · exact Or.inl (Or.inr (Or.inr (Or.inl q)))
/-- how many pages are got true -/
def trN (h : CH) (S : PSt) (k : Nat) : Nat := nsm k (fun i => if ((S.2 i).1 && gTr h (S.2 i)) = true then 1 else 0)
theorem c_true (hW : WRc M) (v : CV h) (pv : SV h S) (l : LC M c0 h S T E c sv) (x1 : Int32) : ∃ M1, f_X11_days_58 0 x1 1000000 0 0 M = some (nI (trN h S (kQ h)), M1) ∧ FR WcA M M1 ∧ LC M1 c0 h S T E c sv := by
  have hq := v.q
  have lp : ∀ e i f M0, i + e = kQ h → FR WcA M M0 → LC M0 c0 h S T E c sv → ∃ M1, f_X11_days_58 0 x1 (e + 1 + f) (nI (trN h S i)) (nI i) M0 = some (nI (trN h S (kQ h)), M1) ∧ FR WcA M M1 ∧ LC M1 c0 h S T E c sv := by
    intro e
    induction e with
    | zero =>
      intro i f M0 ei fr l0
      have : i = kQ h := by omega
      subst this
      refine ⟨M0, ?_, fr, l0⟩
      rw [show 0 + 1 + f = f + 1 by omega, f_X11_days_58, l0.1, b_i, l0.2.1.q, if_pos (nI_le (Nat.le_refl _) (by omega))]
    | succ e ih =>
      intro i f M0 ei fr l0
      have hW0 := fr.W hW
      have hr := l0.2.2.2.1.2 i (by omega)
      have hs2 : trN h S (i + 1) = trN h S i + (if ((S.2 i).1 && gTr h (S.2 i)) = true then 1 else 0) := rfl
      rw [show e + 1 + 1 + f = (e + 1 + f) + 1 by omega, f_X11_days_58, l0.1, b_i, l0.2.1.q, if_neg (nI_ge (by omega) (by omega)), crow hW0 (by omega), hr.2.1]
      unfold f_X11_days_122 f_X11_days_120 f_X11_days_122
      cases hb : (S.2 i).1 with
      | false =>
        rw [hb] at hs2
        obtain ⟨M1, a1, a2, a3⟩ := ih (i + 1) f M0 (by omega) fr l0
        rw [hs2] at a1
        refine ⟨M1, ?_, a2, a3⟩
        refine ip b01_f ?_
        rw [nI_1]; exact a1
      | true =>
        obtain ⟨M1, a1, a2⟩ := s_get hW0 v l0.2.1 (pq_r (Or.inl rfl : PQ 13) (by omega : i < 6)) hr hb (pv i (by omega)) l0.2.2.2.2.2.1
        have f1 : FR WcA M M1 := fr.tr (a2.1.mo (fun a j q => WcA_ge q))
        have hz : c0 = 335 ∨ c0 = 344 := l0.2.1.z
        have l1 : LC M1 c0 h S T E c sv := by
          obtain ⟨g1, g2, g3, g4, g5, g6, g7⟩ := l0
          have fg := a2.1
          exact ⟨(fg.R _ _).trans g1, g2.ge fg, (fg.I (by unfold Wge Wde Wtm; omega)).trans g3, g4.fr fg (fun a j _ _ => by unfold Wge Wde Wtm; omega), g5.fr fg (fun a j _ _ => by unfold Wge Wde Wtm; omega), a2.2.1, g7.fr fg (by unfold Wge Wde Wtm; omega) (fun _ => by unfold Wge Wde Wtm; omega) (fun _ => by unfold Wge Wde Wtm; omega)⟩
        have q7 : zI M1 12 7 = b01 (gTr h (S.2 i)) := a2.2.2.2.2.2.2
        obtain ⟨M2, b1, b2, b3⟩ := ih (i + 1) f M1 (by omega) f1 l1
        rw [hs2, hb] at b1
        refine ⟨M2, ?_, b2, b3⟩
        refine im b01_n0 ?_
        rw [w0_4 hW0, b_i, b_i, crow hW0 (by omega), a1, b_i, w0_4 (f1.W hW), b_i, q7]
        cases ht : gTr h (S.2 i) with
        | false =>
          rw [ht, if_neg (by decide), Nat.add_zero] at b1
          rw [if_pos b01_f, show nI (trN h S i) + 0 = nI (trN h S i) from nI_add _ 0, nI_1]; exact b1
        | true =>
          rw [ht, if_pos (show (true && true) = true from rfl)] at b1
          rw [if_neg b01_n0, nI_1, nI_1]; exact b1
  have := lp (kQ h) 0 (1000000 - kQ h - 1) M (by omega) (FR.rf _ M) l
  rw [show kQ h + 1 + (1000000 - kQ h - 1) = 1000000 by omega] at this
  exact this
theorem m_true (hW : WRc M) (v : CV h) (pv : SV h S) (l : LM M h S T E c sv) : ∃ M1, f_X12_trueOnes 355 M = some (nI (trN h S (kQ h)), M1) ∧ FR WmA M M1 ∧ LM M1 h S T E c sv := by
  have hq := v.q
  have lp : ∀ e i f M0, i + e = kQ h → FR WmA M M0 → LM M0 h S T E c sv → ∃ M1, f_X12_trueOnes_4 355 (e + 1 + f) (nI (trN h S i)) (nI i) M0 = some (nI (trN h S (kQ h)), M1) ∧ FR WmA M M1 ∧ LM M1 h S T E c sv := by
    intro e
    induction e with
    | zero =>
      intro i f M0 ei fr l0
      have : i = kQ h := by omega
      subst this
      refine ⟨M0, ?_, fr, l0⟩
      obtain ⟨bk, ⟨c1, c2, -⟩, -, c5, -⟩ := l0.1
      rw [show 0 + 1 + f = f + 1 by omega, f_X12_trueOnes_4, w355_15 (fr.W hW), b_i, c2, zl_at 2 rfl (by omega) (by decide), b_i, c5, if_pos (nI_le (Nat.le_refl _) (by omega))]
    | succ e ih =>
      intro i f M0 ei fr l0
      have hW0 := fr.W hW
      have hr := l0.2.2.1.2 i (by omega)
      have hr1 := hr.1
      rw [Nat.mul_zero, Nat.zero_add] at hr1
      have hs2 : trN h S (i + 1) = trN h S i + (if ((S.2 i).1 && gTr h (S.2 i)) = true then 1 else 0) := rfl
      obtain ⟨bk, ⟨c1, c2, -⟩, -, c5, -⟩ := id l0.1
      rw [show e + 1 + 1 + f = (e + 1 + f) + 1 by omega, f_X12_trueOnes_4, w355_15 hW0, b_i, c2, zl_at 2 rfl (by omega) (by decide), b_i, c5, if_neg (nI_ge (by omega) (by omega)), w355_56 hW0, b_i, zl_at 132 rfl (by omega) (by decide), b_i, hr1]
      unfold f_X12_trueOnes_41 f_X12_trueOnes_42
      cases hb : (S.2 i).1 with
      | false =>
        rw [hb] at hs2
        obtain ⟨M1, a1, a2, a3⟩ := ih (i + 1) f M0 (by omega) fr l0
        rw [hs2] at a1
        refine ⟨M1, ?_, a2, a3⟩
        refine im (by decide) ?_
        rw [show nI (trN h S i) + 0 = nI (trN h S i) from nI_add _ 0, nI_1]; exact a1
      | true =>
        obtain ⟨M1, a1, a2⟩ := s_mtrue (vv := 0) (x := 0) (y := nI i) rfl rfl hW0 v l0.1 (by decide) (by omega) hr hb (pv i (by omega))
        have f1 : FR WmA M M1 := fr.tr (a2.mo (fun a j q => Or.inl q))
        have l1 : LM M1 h S T E c sv := ⟨l0.1.gm a2, (a2.I (by unfold Wgm Wrb Wag; omega)).trans l0.2.1, l0.2.2.1.gm v a2, l0.2.2.2.fr v.n63.1 a2 (fun a j p q => by unfold Wpa at p; unfold Wgm Wrb Wag at q; omega)⟩
        obtain ⟨M2, b1, b2, b3⟩ := ih (i + 1) f M1 (by omega) f1 l1
        rw [hs2, hb] at b1
        refine ⟨M2, ?_, b2, b3⟩
        refine ip b01_t ?_
        rw [a1, b_i]
        dsimp only
        cases ht : gTr h (S.2 i) with
        | false =>
          rw [ht, if_neg (by decide), Nat.add_zero] at b1
          rw [if_pos b01_f, show nI (trN h S i) + 0 = nI (trN h S i) from nI_add _ 0, nI_1]; exact b1
        | true =>
          rw [ht, if_pos (show (true && true) = true from rfl)] at b1
          rw [if_neg b01_n0, nI_1, nI_1]; exact b1
  have := lp (kQ h) 0 (1000000 - kQ h - 1) M (by omega) (FR.rf _ M) l
  rw [show kQ h + 1 + (1000000 - kQ h - 1) = 1000000 by omega] at this
  exact this
/-- days that may go by, or both refuse -/
theorem dayC (hW : WRc M) (l : LC M c0 h S T E c sv) (hd : S.1 ≤ 999) (n : Int32) : (∃ k, 1 ≤ k ∧ k ≤ 40 ∧ S.1 + k ≤ 999 ∧ n = nI k ∧ ¬ n < 1 ∧ f_X11_daysFit 0 n M = some (1, M)) ∨ ((¬ ∃ k, 1 ≤ k ∧ k ≤ 40 ∧ S.1 + k ≤ 999 ∧ n = nI k) ∧ (n < 1 ∨ f_X11_daysFit 0 n M = some (0, M))) := by
  by_cases h1 : n < 1
  · refine Or.inr ⟨fun ⟨k, q1, q2, q3, e⟩ => ?_, Or.inl h1⟩
    subst e
    exact nI_nlt (b := 1) q1 (by omega) h1
  · have h0 : ¬ n < 0 := fun q => h1 (Int32.lt_trans q (by decide))
    obtain ⟨k, hk, e⟩ := nI_of h0
    subst e
    have k1 : 1 ≤ k := by
      rcases Nat.eq_zero_or_pos k with e | e
      · subst e; exact absurd (by decide) h1
      · exact e
    unfold f_X11_daysFit f_X11_daysFit_25 f_X11_daysFit_26
    by_cases h40 : k ≤ 40
    · rw [if_neg (show ¬ (40 : Int32) < nI k from nI_nlt (a := 40) h40 (by decide)), w0_5 hW, b_i, l.2.2.2.1.1, nI_add]
      by_cases h9 : S.1 + k ≤ 999
      · rw [if_neg (show ¬ (999 : Int32) < nI (S.1 + k) from nI_nlt (a := 999) h9 (by decide)), zbz1]
        exact Or.inl ⟨k, k1, h40, h9, rfl, h1, rfl⟩
      · rw [if_pos (show (999 : Int32) < nI (S.1 + k) from nI_lt (a := 999) (by omega) (by omega)), zbz0]
        refine Or.inr ⟨fun ⟨k', q1, q2, q3, e⟩ => ?_, Or.inr rfl⟩
        have := (nI_eq hk (by omega)).mp e
        omega
    · rw [if_pos (show (40 : Int32) < nI k from nI_lt (a := 40) (by omega) hk), zbz0]
      refine Or.inr ⟨fun ⟨k', q1, q2, q3, e⟩ => ?_, Or.inr rfl⟩
      have := (nI_eq hk (by omega)).mp e
      omega
theorem dayM (hW : WRc M) (l : LM M h S T E c sv) (hd : S.1 ≤ 999) (n : Int32) : ((∃ k, 1 ≤ k ∧ k ≤ 40 ∧ S.1 + k ≤ 999 ∧ n = nI k) ∧ f_X12_isAhead 355 n 1 40 M = some (1, M)) ∨ ((¬ ∃ k, 1 ≤ k ∧ k ≤ 40 ∧ S.1 + k ≤ 999 ∧ n = nI k) ∧ f_X12_isAhead 355 n 1 40 M = some (0, M)) := by
  unfold f_X12_isAhead f_X12_isAhead_34 f_X12_isAhead_35 f_X12_is f_X12_is_14 f_X12_is_15
  rw [l.2.1, if_neg (show ¬ (1 : Int32) = 0 by decide)]
  by_cases h1 : n < 1
  · refine Or.inr ⟨fun ⟨k, q1, q2, q3, e⟩ => ?_, ?_⟩
    · subst e
      exact nI_nlt (b := 1) q1 (by omega) h1
    · rw [if_pos h1, zbz0, b_i]; exact ip rfl (zbz0 _)
  · have h0 : ¬ n < 0 := fun q => h1 (Int32.lt_trans q (by decide))
    obtain ⟨k, hk, e⟩ := nI_of h0
    subst e
    have k1 : 1 ≤ k := by
      rcases Nat.eq_zero_or_pos k with e | e
      · subst e; exact absurd (by decide) h1
      · exact e
    rw [if_neg h1]
    by_cases h40 : k ≤ 40
    · rw [if_neg (show ¬ (40 : Int32) < nI k from nI_nlt (a := 40) h40 (by decide)), zbz1, b_i, if_neg (one_n0 _)]
      dsimp only
      rw [w355_55 hW, b_i, show zld 381 0 = some 0 from rfl, b_i, l.2.2.1.1, show (999 : Int32) = nI 999 from rfl, pk_sub (by omega)]
      by_cases h9 : S.1 + k ≤ 999
      · rw [if_neg (nI_nlt (by omega) (by omega)), zbz1]
        exact Or.inl ⟨⟨k, k1, h40, h9, rfl⟩, rfl⟩
      · rw [if_pos (nI_lt (by omega) (by omega)), zbz0]
        refine Or.inr ⟨fun ⟨k', q1, q2, q3, e⟩ => ?_, rfl⟩
        have := (nI_eq hk (by omega)).mp e
        omega
    · rw [if_pos (show (40 : Int32) < nI k from nI_lt (a := 40) (by omega) hk), zbz0, b_i]
      refine Or.inr ⟨fun ⟨k', q1, q2, q3, e⟩ => ?_, ip rfl (zbz0 _)⟩
      have := (nI_eq hk (by omega)).mp e
      omega
end
theorem op_days (x : Int32) : OPb (f_X11_days 0 x) (f_X12_days 355 x) := by
  intro M s hs g
  have hW := g.rst.W
  have ref : f_X11_days 0 x M = f_X11_days_20 0 x M → (∀ M1, FR (fun a _ => a = 2) M M1 → f_X12_days 355 x M1 = Option.bind (f_X12_refuses 355 2 M1) fun z5 => some (z5.1, z5.2)) → ∃ r M1 M2, f_X11_days 0 x M = some (r, M1) ∧ f_X12_days 355 x M1 = some (r, M2) ∧ Inv M2 (s + 1) := by
    intro p1 p2
    obtain ⟨M1, M2, a1, a2, a3, a4⟩ := refB g (k := 2) (by decide)
    refine ⟨-1, M1, M2, ?_, ?_, a3.mono (by omega)⟩
    · refine p1.trans ?_
      unfold f_X11_days_20
      rw [show (2 : Int32) = nI 2 from rfl, a1, b_i]
    · rw [p2 M1 a4, show (2 : Int32) = nI 2 from rfl, a2, b_i]
  rcases g.st with ⟨c0, h, S, T, E, c, sv, l, lv, hT⟩ | o
  · have hd := lv.2.1.2.1
    rcases dayC hW l.c hd x with ⟨k, k1, k40, k9, e, q1, q2⟩ | ⟨nk, q⟩
    · subst e
      obtain ⟨M1, b1, b2, b3, hc⟩ := c_save hW lv.1 (by omega) lv.2.2.1 l.c
      have sv' := lv.save hc
      have lp : ∀ e i f M0, i + e = k → FR WcA M M0 → LC M0 c0 h (itS h S i) T E (cpp c) (svp c sv (S, T)) → ∃ M3, f_X11_days_39 0 (nI k) (e + 1 + f) (nI i) M0 = some (nI (trN h (itS h S k) (kQ h)), M3) ∧ FR WcA M M3 ∧ LC M3 c0 h (itS h S k) T E (cpp c) (svp c sv (S, T)) := by
        intro e
        induction e with
        | zero =>
          intro i f M0 ei fr l0
          have : i = k := by omega
          subst this
          obtain ⟨M3, a1, a2, a3⟩ := c_true (fr.W hW) lv.1 (itS_v lv.2.1.1 i) l0 (nI i)
          exact ⟨M3, by rw [show 0 + 1 + f = f + 1 by omega, f_X11_days_39, if_pos (nI_le (Nat.le_refl _) (by omega))]; exact a1, fr.tr a2, a3⟩
        | succ e ih =>
          intro i f M0 ei fr l0
          obtain ⟨M2, a1, a2, a3⟩ := c_pass (fr.W hW) lv.1 (itS_v lv.2.1.1 i) (by rw [itS_1]; omega) l0
          obtain ⟨M3, d1, d2, d3⟩ := ih (i + 1) f M2 (by omega) (fr.tr a2) a3
          exact ⟨M3, by rw [show e + 1 + 1 + f = (e + 1 + f) + 1 by omega, f_X11_days_39, if_neg (nI_ge (by omega) (by omega)), a1, b_i, nI_1]; exact d1, d2, d3⟩
      obtain ⟨M3, d1, d2, d3⟩ := lp k 0 (1000000 - k - 1) M1 (by omega) b2 b3
      rw [show k + 1 + (1000000 - k - 1) = 1000000 by omega] at d1
      have lm3 : LM M3 h S T E c sv := l.m.fr lv.1 d2 (fun a j q => by unfold WcA at q; omega)
      have hW3 := d2.W hW
      obtain ⟨M4, e1, e2, e3⟩ := m_keeps hW3 lv.1 lm3
      have lpm : ∀ e i f M0, i + e = k → FR WmA M3 M0 → LM M0 h (itS h S i) T E (cpp c) (svp c sv (S, T)) → ∃ M5, f_X12_days_23 355 (nI k) (e + 1 + f) (nI i) M0 = some (nI (trN h (itS h S k) (kQ h)), M5) ∧ FR WmA M3 M5 ∧ LM M5 h (itS h S k) T E (cpp c) (svp c sv (S, T)) := by
        intro e
        induction e with
        | zero =>
          intro i f M0 ei fr l0
          have : i = k := by omega
          subst this
          obtain ⟨M5, a1, a2, a3⟩ := m_true (fr.W hW3) lv.1 (itS_v lv.2.1.1 i) l0
          exact ⟨M5, by rw [show 0 + 1 + f = f + 1 by omega, f_X12_days_23, if_pos (nI_le (Nat.le_refl _) (by omega)), a1, b_i], fr.tr a2, a3⟩
        | succ e ih =>
          intro i f M0 ei fr l0
          obtain ⟨M2, a1, a2, a3⟩ := m_pass (fr.W hW3) lv.1 (itS_v lv.2.1.1 i) (by rw [itS_1]; omega) l0
          obtain ⟨M5, y1, y2, y3⟩ := ih (i + 1) f M2 (by omega) (fr.tr a2) a3
          exact ⟨M5, by rw [show e + 1 + 1 + f = (e + 1 + f) + 1 by omega, f_X12_days_23, if_neg (nI_ge (by omega) (by omega)), a1, b_i, nI_1]; exact y1, y2, y3⟩
      obtain ⟨M5, y1, y2, y3⟩ := lpm k 0 (1000000 - k - 1) M4 (by omega) e2 e3
      rw [show k + 1 + (1000000 - k - 1) = 1000000 by omega] at y1
      refine ⟨nI (trN h (itS h S k) (kQ h)), M3, M5, ?_, ?_, actI g.rst l lv d2 d3 y2 y3 ⟨lv.1, lv.2.1.it k k9, sv'.1, sv'.2.2⟩ (by omega)⟩
      · unfold f_X11_days
        refine im (by rw [l.on.1]; decide) (im q1 ?_)
        rw [q2, b_i]
        refine im (one_n0 _) ?_
        dsimp only
        rw [w0_8 hW, b_i, w0_5 hW, b_i, b1, b_i]
        exact d1
      · unfold f_X12_days
        rcases dayM hW3 lm3 hd (nI k) with ⟨-, q⟩ | ⟨q, -⟩
        · rw [q, b_i]
          refine im (one_n0 _) ?_
          dsimp only
          rw [e1, b_i]
          exact y1
        · exact absurd ⟨k, k1, k40, k9, rfl⟩ q
    · refine ref ?_ (fun M1 f => ?_)
      · unfold f_X11_days
        refine im (by rw [l.on.1]; decide) ?_
        rcases q with q | q
        · exact ip q rfl
        · by_cases h1 : x < 1
          · exact ip h1 rfl
          · refine im h1 ?_
            rw [q, b_i]
            exact ip rfl rfl
      · unfold f_X12_days
        rcases dayM (f.W hW) (l.f2 lv.1 f).m hd x with ⟨q2, -⟩ | ⟨-, q2⟩
        · exact absurd q2 nk
        · rw [q2, b_i]; exact ip rfl rfl
  · refine ref ?_ (fun M1 f => ?_)
    · unfold f_X11_days
      exact ip o.1.1 rfl
    · unfold f_X12_days f_X12_isAhead f_X12_isAhead_34 f_X12_isAhead_35
      rw [(f.I (by omega)).trans o.1.2, if_pos rfl, zbz0, b_i]
      exact ip rfl rfl
