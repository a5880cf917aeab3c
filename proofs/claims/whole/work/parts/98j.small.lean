/-! calls: seed, status, fault, octet, end, feed -/
def Wsm (a j : Nat) : Prop := (a = 0 ∧ (j = 15 ∨ j = 16)) ∨ a = 1 ∨ a = 2 ∨ (a = 355 ∧ (j = 1 ∨ j = 64 ∨ j = 75)) ∨ a = 356 ∨ a = 371 ∨ a = 333 ∨ a = 334 ∨ a = 394
theorem st_sm {M M1 : Mem} {s : Nat} (st : ON M s ∨ OFF M) (f : FR Wsm M M1) : ON M1 s ∨ OFF M1 := by
  rcases st with ⟨c0, h, S, T, E, c, sv, l, lv, hT⟩ | o
  · refine Or.inl ⟨c0, h, S, T, E, c, sv, LD.mk' ?_ ?_, lv, hT⟩
    · obtain ⟨a1, a2, a3, a4, a5, a6, a7⟩ := l.c
      have hz : c0 = 335 ∨ c0 = 344 := a2.z
      exact ⟨(f.R _ _).trans a1, a2.fr f (fun a j p q => by unfold Wch at p; unfold Wsm at q; omega), (f.I (by unfold Wsm; omega)).trans a3, a4.fr f (fun a j _ _ => by unfold Wsm; omega), a5.fr f (fun a j _ _ => by unfold Wsm; omega), a6.fr f (fun a j p => by unfold Wsm; omega), a7.fr f (by unfold Wsm; omega) (fun _ => by unfold Wsm; omega) (fun _ => by unfold Wsm; omega)⟩
    · obtain ⟨a1, a2, a3, a4⟩ := l.m
      exact ⟨a1.fr f (fun a j p q => by unfold Wmc at p; unfold Wsm at q; omega), (f.I (by unfold Wsm; omega)).trans a2, a3.fr lv.1.n63.1 f (fun a j p q => by unfold Wla at p; unfold Wsm at q; omega), a4.fr lv.1.n63.1 f (fun a j p q => by unfold Wpa at p; unfold Wsm at q; omega)⟩
  · have hI : ∀ a j, ¬ Wsm a j → zI M1 a j = zI M a j := fun a j w => f.I w
    obtain ⟨⟨o1, o2⟩, ⟨o3, o4, o5, o6⟩, ⟨o7, o8, o9, o10⟩, ⟨o11, o12, o13, o14, o15, o16⟩, o17⟩ := o
    exact Or.inr ⟨⟨(hI _ _ (by unfold Wsm; omega)).trans o1, (hI _ _ (by unfold Wsm; omega)).trans o2⟩, ⟨(hI _ _ (by unfold Wsm; omega)).trans o3, (hI _ _ (by unfold Wsm; omega)).trans o4, (hI _ _ (by unfold Wsm; omega)).trans o5, (hI _ _ (by unfold Wsm; omega)).trans o6⟩, ⟨(hI _ _ (by unfold Wsm; omega)).trans o7, (hI _ _ (by unfold Wsm; omega)).trans o8, (hI _ _ (by unfold Wsm; omega)).trans o9, (hI _ _ (by unfold Wsm; omega)).trans o10⟩, ⟨(hI _ _ (by unfold Wsm; omega)).trans o11, (hI _ _ (by unfold Wsm; omega)).trans o12, (hI _ _ (by unfold Wsm; omega)).trans o13, (hI _ _ (by unfold Wsm; omega)).trans o14, (hI _ _ (by unfold Wsm; omega)).trans o15, (hI _ _ (by unfold Wsm; omega)).trans o16⟩, ⟨fun i hi => (hI _ _ (by unfold Wsm; omega)).trans (o17.1 i hi), (hI _ _ (by unfold Wsm; omega)).trans o17.2⟩⟩
theorem RST.tpX {W : Nat → Nat → Prop} {M M4 : Mem} (g : RST M) (f : FR W M M4) (hw : ∀ a j, Wre2 a j → ¬ (a = 0 ∧ j = 15) → ¬ a = 1 → ¬ (a = 355 ∧ j = 1) → ¬ a = 356 → ¬ W a j) (ht : I_tape M4) : RST M4 := by
  obtain ⟨⟨c, s, p, r1, r2, r3, r4, r5⟩, -, g3, ⟨sd, s1, s2, s3⟩, g5, ⟨z, z1, z2, z3, z4⟩, ⟨mt, m1, m2, m3, m4⟩, g8⟩ := g
  have hI : ∀ a j, Wre2 a j → ¬ (a = 0 ∧ j = 15) → ¬ a = 1 → ¬ (a = 355 ∧ j = 1) → ¬ a = 356 → zI M4 a j = zI M a j := fun a j x y z u v => f.I (hw a j x y z u v)
  refine ⟨⟨c, s, p, f.W r1, by rw [f.1]; exact r2, by rw [f.1]; exact r3, by rw [f.1]; exact r4, r5⟩, ht, fun i hi => ?_, ⟨sd, s1, (hI _ _ (by unfold Wre2; omega) (by omega) (by omega) (by omega) (by omega)).trans s2, (f.L (hw _ _ (by unfold Wre2; omega) (by omega) (by omega) (by omega) (by omega))).trans s3⟩, ?_, ⟨z, z1, (hI _ _ (by unfold Wre2; omega) (by omega) (by omega) (by omega) (by omega)).trans z2, (hI _ _ (by unfold Wre2; omega) (by omega) (by omega) (by omega) (by omega)).trans z3, fun k hk => ?_⟩, ⟨mt, m1, (hI _ _ (by unfold Wre2; omega) (by omega) (by omega) (by omega) (by omega)).trans m2, (hI _ _ (by unfold Wre2; omega) (by omega) (by omega) (by omega) (by omega)).trans m3, fun i hi => ?_⟩, fun i hi => (hI _ _ (by unfold Wre2; omega) (by omega) (by omega) (by omega) (by omega)).trans (g8 i hi)⟩
  · rw [hI 2 i (by unfold Wre2; omega) (by omega) (by omega) (by omega) (by omega), hI 371 i (by unfold Wre2; omega) (by omega) (by omega) (by omega) (by omega)]; exact g3 i hi
  · refine ⟨?_, fun i hi => (hI 354 i (by unfold Wre2; omega) (by omega) (by omega) (by omega) (by omega)).trans (g5.2 i hi)⟩
    unfold I_fault0
    rw [hI 353 4 (by unfold Wre2; omega) (by omega) (by omega) (by omega) (by omega), hI 353 5 (by unfold Wre2; omega) (by omega) (by omega) (by omega) (by omega), hI 355 10 (by unfold Wre2; omega) (by omega) (by omega) (by omega) (by omega), hI 355 11 (by unfold Wre2; omega) (by omega) (by omega) (by omega) (by omega)]; exact g5.1
  · rw [hI 334 k (by unfold Wre2; omega) (by omega) (by omega) (by omega) (by omega), hI 394 k (by unfold Wre2; omega) (by omega) (by omega) (by omega) (by omega)]; exact z4 k hk
  · obtain ⟨a, o, e1, e2, e3, e4, e5, e6⟩ := m4 i hi
    exact ⟨a, o, e1, e2, (hI _ _ (by unfold Wre2; omega) (by omega) (by omega) (by omega) (by omega)).trans e3, (hI _ _ (by unfold Wre2; omega) (by omega) (by omega) (by omega) (by omega)).trans e4, (hI _ _ (by unfold Wre2; omega) (by omega) (by omega) (by omega) (by omega)).trans e5, (hI _ _ (by unfold Wre2; omega) (by omega) (by omega) (by omega) (by omega)).trans e6⟩
theorem op_seed (x : Int32) : OPb (f_X11_seed 0 x) (f_X12_seed 355 x) := by
  intro M s hs g
  unfold f_X11_seed f_X12_seed f_X12_seed_17
  by_cases hx : 0 ≤ x
  · obtain ⟨k, hk, e⟩ := nI_of (Int32.not_lt.mpr hx)
    subst e
    have f1 : FR Wsm M (zsI M 0 16 (nI k)) := (FR.rf _ M).sI (by unfold Wsm; omega)
    have f2 : FR Wsm M (zsL (zsI M 0 16 (nI k)) 355 64 (nI k).toInt64) := f1.sL (by unfold Wsm; omega)
    have f3 : FR (fun a j => (a = 0 ∧ j = 16) ∨ (a = 355 ∧ j = 64)) M (zsL (zsI M 0 16 (nI k)) 355 64 (nI k).toInt64) := FR.sL (FR.sI (FR.rf _ M) (by omega)) (by omega)
    refine ⟨1, _, _, ip hx rfl, ip hx rfl, (Inv.mk' (g.rst.sdX (sd := k) (by omega) f3 (fun a j p n1 n2 q => q.elim n1 n2) ?_ ?_) (st_sm g.st f2)).mono (by omega)⟩
    · exact zI_se M 0 16 (nI k)
    · rw [zL_se, nI_i2l hk]
  · obtain ⟨M1, M2, a1, a2, a3, a4⟩ := refB g (k := 5) (by decide)
    refine ⟨0, M1, M2, ?_, ?_, a3.mono (by omega)⟩
    · refine im hx ?_
      rw [show (5 : Int32) = nI 5 from rfl, a1, b_i]
    · refine im hx ?_
      rw [show (5 : Int32) = nI 5 from rfl, a2, b_i, if_pos m1_n0, zbz0]
theorem op_status (x : Int32) : OP (f_X11_status 0 x) (f_X12_status 355 x) := by
  intro M s g
  have hW := g.rst.W
  unfold f_X11_status f_X11_status_19 f_X11_status_20 f_X12_status f_X12_status_19
  rcases s_isN (M := M) (x := x) (xl := 0) (xh := 5) (n := 5) rfl rfl (by decide) with ⟨⟨k, hk, e⟩, q⟩ | ⟨q, q2⟩
  · subst e
    refine ⟨zI M 2 k, M, M, ?_, ?_, g.mono (by omega)⟩
    · refine im (nI_pos (by omega)) (im (show ¬ (6 : Int32) ≤ nI k from nI_ge (b := 6) (by omega) (by decide)) ?_)
      rw [w0_1 hW, b_i, zl_at 6 rfl (by omega) (by decide), b_i]
    · rw [q, b_i]
      refine im (one_n0 _) ?_
      dsimp only
      rw [w355_36 hW, b_i, zl_at 6 rfl (by omega) (by decide), b_i, g.rst.2.2.1 k (by omega)]
  · refine ⟨-1, M, M, ?_, ?_, g.mono (by omega)⟩
    · by_cases h1 : x < 0
      · exact ip h1 rfl
      · exact im h1 (ip (q.resolve_left h1) rfl)
    · rw [q2, b_i]; exact ip rfl rfl
theorem op_fault (x : Int32) : OP (f_X11_fault 0 x) (f_X12_fault 355 x) := by
  intro M s g
  have hW := g.rst.W
  obtain ⟨h1, h2, h3⟩ := g.rst.2.2.2.2.1.1
  unfold f_X11_fault f_X11_fault_37 f_X11_fault_38 f_X12_fault f_X12_fault_24
  by_cases e0 : x = 0
  · exact ⟨zI M 353 4, M, M, by rw [if_pos e0, w0_13 hW, b_i], by rw [if_pos e0, h1], g.mono (by omega)⟩
  · by_cases e1 : x = 1
    · refine ⟨zI M 355 11, M, M, ?_, by rw [if_neg e0, if_pos e1], g.mono (by omega)⟩
      rw [if_neg e0, if_pos e1, w0_13 hW, b_i]
      by_cases hf : zI M 353 4 = 0
      · rw [if_pos hf, h3 hf]
      · rw [if_neg hf, b_i, h2 hf]
    · exact ⟨-1, M, M, by rw [if_neg e0, if_neg e1], by rw [if_neg e0, if_neg e1], g.mono (by omega)⟩
theorem op_octet (x : Int32) : OP (f_X11_octet 0 x) (f_X12_octet 355 x) := by
  intro M s g
  have hW := g.rst.W
  obtain ⟨z, z1, z2, z3, z4⟩ := g.rst.2.2.2.2.2.1
  unfold f_X11_octet f_X11_octet_27 f_X11_octet_28 f_X12_octet f_X12_octet_24
  by_cases hx : ∃ k, k < z ∧ x = nI k
  · obtain ⟨k, hk, e⟩ := hx
    subst e
    refine ⟨zI M 334 k, M, M, ?_, ?_, g.mono (by omega)⟩
    · refine im (nI_pos (by omega)) ?_
      rw [w0_10 hW, b_i, z2]
      refine im (nI_ge hk (by omega)) ?_
      rw [b_i, w333_0 hW, b_i, zl_at 441 rfl (by omega) (by decide), b_i]
    · rw [z3, show (1 : Int32) = nI 1 from rfl, pk_sub (by omega)]
      rcases s_isN (M := M) (x := nI k) (xl := 0) (xh := nI (z - 1)) (n := z - 1) rfl rfl (by omega) with ⟨-, q⟩ | ⟨q, -⟩
      · rw [q, b_i]
        refine im (one_n0 _) ?_
        dsimp only
        rw [w355_74 hW, b_i, zl_at 500 rfl (by omega) (by decide), b_i, z4 k hk]
      · rcases q with q | q
        · exact absurd q (nI_pos (by omega))
        · exact absurd q (nI_ge (by omega) (by omega))
  · have hn := nin (by omega) hx
    refine ⟨-1, M, M, ?_, ?_, g.mono (by omega)⟩
    · by_cases h1 : x < 0
      · exact ip h1 rfl
      · refine im h1 ?_
        rw [w0_10 hW, b_i, z2]
        exact ip (hn.resolve_left h1) rfl
    · rw [z3]
      have : f_X12_is x 0 (nI z - 1) M = some (0, M) := by
        unfold f_X12_is f_X12_is_14 f_X12_is_15
        by_cases h1 : x < 0
        · rw [if_pos h1, zbz0]
        · rw [if_neg h1]
          obtain ⟨k, hk, e⟩ := nI_of h1
          subst e
          have := (nI_leI (by omega) hk).mp (hn.resolve_left h1)
          rw [if_pos, zbz0]
          rw [← iI_n z, ← iI_n k, iI1, iI_sub]
          have hk2 : (nI k).toInt = k := nI_toInt hk
          rw [Int32.lt_iff_toInt_lt, iI_t (by unfold sm; omega), iI_n, hk2]
          omega
      rw [this, b_i]
      exact ip rfl rfl
theorem op_end (x : Int32) : OPb (f_X11_end 0 x) (f_X12_end 355 x) := by
  intro M s hs g
  obtain ⟨t, t1, t2, t3, t4⟩ := g.rst.2.1
  unfold f_X11_end f_X11_end_12 f_X12_end f_X12_end_12 f_X12_end_25
  by_cases hx : ∃ k, k ≤ t ∧ x = nI k
  · obtain ⟨k, hk, e⟩ := hx
    subst e
    have f2 : FR Wsm M (zsI (zsI M 0 15 (nI k)) 355 1 (nI k)) := FR.sI (FR.sI (FR.rf _ M) (by unfold Wsm; omega)) (by unfold Wsm; omega)
    have f3 : FR (fun a j => (a = 0 ∧ j = 15) ∨ (a = 355 ∧ j = 1)) M (zsI (zsI M 0 15 (nI k)) 355 1 (nI k)) := FR.sI (FR.sI (FR.rf _ M) (by omega)) (by omega)
    refine ⟨1, zsI M 0 15 (nI k), zsI (zsI M 0 15 (nI k)) 355 1 (nI k), ?_, ?_, (Inv.mk' (g.rst.tpX f3 (fun a j p n1 n2 n3 n4 q => q.elim n1 n3) ⟨k, by omega, ?_, zI_se _ _ _ _, fun i hi => ?_⟩) (st_sm g.st f2)).mono (by omega)⟩
    · refine im (nI_pos (by omega)) ?_
      rw [t2]
      exact ip (nI_le hk (by omega)) rfl
    · refine im (nI_pos (by omega)) ?_
      rw [zI_sn _ _ (by omega), t3]
      exact ip (nI_le hk (by omega)) rfl
    · rw [zI_sn _ _ (by omega), zI_se]
    · rw [f3.I (a := 1) (by omega), f3.I (a := 356) (by omega)]; exact t4 i (by omega)
  · obtain ⟨M1, M2, a1, a2, a3, a4⟩ := refB g (k := 0) (by decide)
    have no : ¬ x < 0 → ¬ x ≤ nI t := fun h1 h2 => by
      obtain ⟨k, hk, e⟩ := nI_of h1
      subst e
      exact hx ⟨k, (nI_leI hk (by omega)).mp h2, rfl⟩
    refine ⟨0, M1, M2, ?_, ?_, a3.mono (by omega)⟩
    · rw [show f_X11_refuse 0 0 M = some (-1, M1) from a1, b_i]
      by_cases h1 : x < 0
      · exact ip h1 rfl
      · refine im h1 ?_
        rw [t2]
        exact im (no h1) rfl
    · rw [show f_X12_refuses 355 0 M1 = some (-1, M2) from a2, b_i, if_pos m1_n0, zbz0]
      by_cases h1 : x < 0
      · exact ip h1 rfl
      · refine im h1 ?_
        rw [a4.I (by omega), t3]
        exact im (no h1) rfl
theorem op_feed (a b c d e : Int32) : OPb (f_X11_feed 0 a b c d e) (f_X12_feed 355 a b c d e) := by
  intro M s hs g
  have hW := g.rst.W
  obtain ⟨t, t1, t2, t3, t4⟩ := g.rst.2.1
  by_cases ht : t + 20 ≤ 1600
  · have e1 := s_feed (a := a) (b := b) (c := c) (d := d) (e := e) hW ht t2
    have f1 : FR (fun x j => (x = 0 ∧ j = 15) ∨ x = 1) M (zwI (zwI M 0 (zup (zI M 0) 15 (nI (t + 20)))) 1 (tp20 (zI M 1) t a b c d e)) := FR.wI (M1 := zwI M 0 (zup (zI M 0) 15 (nI (t + 20)))) ((FR.rf _ M).sI (a := 0) (k := 15) (v := nI (t + 20)) (by omega)) (fun _ => by omega)
    have v0 : zI (zwI (zwI M 0 (zup (zI M 0) 15 (nI (t + 20)))) 1 (tp20 (zI M 1) t a b c d e)) 0 15 = nI (t + 20) := rfl
    have v1 : zI (zwI (zwI M 0 (zup (zI M 0) 15 (nI (t + 20)))) 1 (tp20 (zI M 1) t a b c d e)) 1 = tp20 (zI M 1) t a b c d e := rfl
    revert e1 f1 v0 v1
    generalize zwI (zwI M 0 (zup (zI M 0) 15 (nI (t + 20)))) 1 (tp20 (zI M 1) t a b c d e) = M1
    intro e1 f1 v0 v1
    have e2 := s_mfeed (a := a) (b := b) (c := c) (d := d) (e := e) (f1.W hW) ht ((f1.I (by omega)).trans t3)
    have f2 : FR (fun x j => (x = 355 ∧ j = 1) ∨ x = 356) M1 (zwI (zwI M1 355 (zup (zI M1 355) 1 (nI (t + 20)))) 356 (tp20 (zI M1 356) t a b c d e)) := FR.wI (M1 := zwI M1 355 (zup (zI M1 355) 1 (nI (t + 20)))) ((FR.rf _ M1).sI (a := 355) (k := 1) (v := nI (t + 20)) (by omega)) (fun _ => by omega)
    have u0 : zI (zwI (zwI M1 355 (zup (zI M1 355) 1 (nI (t + 20)))) 356 (tp20 (zI M1 356) t a b c d e)) 355 1 = nI (t + 20) := rfl
    have u1 : zI (zwI (zwI M1 355 (zup (zI M1 355) 1 (nI (t + 20)))) 356 (tp20 (zI M1 356) t a b c d e)) 356 = tp20 (zI M1 356) t a b c d e := rfl
    revert e2 f2 u0 u1
    generalize zwI (zwI M1 355 (zup (zI M1 355) 1 (nI (t + 20)))) 356 (tp20 (zI M1 356) t a b c d e) = M2
    intro e2 f2 u0 u1
    have f3 : FR (fun x j => ((x = 0 ∧ j = 15) ∨ x = 1) ∨ ((x = 355 ∧ j = 1) ∨ x = 356)) M M2 := (f1.mo (fun _ _ q => Or.inl q)).tr (f2.mo (fun _ _ q => Or.inr q))
    refine ⟨nI (t + 20), M1, M2, e1, e2, (Inv.mk' (g.rst.tpX f3 (fun x j p n1 n2 n3 n4 q => by rcases q with (q | q) | q | q; exact n1 q; exact n2 q; exact n3 q; exact n4 q) ⟨t + 20, ht, (f2.I (by omega)).trans v0, u0, ?_⟩) (st_sm g.st (f3.mo (fun x j q => by unfold Wsm; omega)))).mono (by omega)⟩
    have h356 : ∀ k, zI M1 356 k = zI M 356 k := fun k => f1.I (by omega)
    have h1 : ∀ k, zI M2 1 k = zI M1 1 k := fun k => f2.I (by omega)
    intro k hk
    rw [h1, v1, u1]
    exact tp20_rel (f := zI M 1) (g := zI M1 356) (fun q hq => by rw [h356]; exact t4 q hq) k hk
  · have e1 := s_feedN (a := a) (b := b) (c := c) (d := d) (e := e) hW ht t1 t2
    obtain ⟨M1, M2, a1, a2, a3, a4⟩ := refB g (k := 0) (by decide)
    have q1 := s_refuse (x := nI 0) hW 0 rfl (by decide)
    rw [a1] at q1
    have hM1 := congrArg (fun o => o.map Prod.snd) q1
    have hM1 : M1 = zwI M 2 (zup (zI M 2) 0 (zI M 2 0 + 1)) := Option.some.inj hM1
    have e2 := s_mfeedN (a := a) (b := b) (c := c) (d := d) (e := e) (a4.W hW) ht t1 ((a4.I (by omega)).trans t3)
    have q2 := s_refuses (x := nI 0) (a4.W hW) 0 rfl (by decide)
    rw [a2] at q2
    have hM2 := congrArg (fun o => o.map Prod.snd) q2
    have hM2 : M2 = zwI M1 371 (zup (zI M1 371) 0 (zI M1 371 0 + 1)) := Option.some.inj hM2
    refine ⟨-1, M1, M2, ?_, ?_, a3.mono (by omega)⟩
    · rw [e1, hM1]
    · rw [e2, hM2]
