/-! calls: locator, wrong, page -/
theorem m1_lt {n : Nat} (h : n < 2 ^ 30) : (-1 : Int32) < nI n := by
  rw [← iI_n n]
  exact (iI_lt (a := -1) (b := (n : Int)) (by unfold sm; omega) (by unfold sm; omega)).mpr (by omega)
theorem kLe_le {h : CH} (v : CV h) (w : Nat) : kLe h w ≤ 10 := by
  have h1 := (dN_ok (t := kT h) (n := kN h) (w := w) v.pr).2
  have h2 := v.t
  unfold kLe
  omega
theorem kCa_1 {h : CH} {w : Nat} (e : ¬ kCa h w = 1) : kLe h w ≤ kT h := by
  unfold kCa dCa at e
  by_cases h1 : kT h < (dN (kM h) (kP h) (kT h) (kN h) w).2.2.1
  · rw [if_pos h1] at e; exact absurd rfl e
  · unfold kLe; omega
theorem op_locator (x y z : Int32) : OP (f_X11_locator 0 x y z) (f_X12_locator 355 x y z) := by
  intro M s g
  unfold f_X11_locator f_X11_locator_13 f_X11_locator_55 f_X11_locator_68 f_X12_locator f_X12_locator_13 f_X12_locator_52 f_X12_locator_62
  rcases rcase g x y with ⟨p1, p2⟩ | ⟨c0, h, S, T, E, c, sv, j, a, l, lv, hT, e1, hj, hw, e2, ha⟩
  · exact ⟨-1, M, M, by rw [p1, b_i]; exact ip rfl rfl, by rw [p2, b_i]; exact ip rfl rfl, g.mono (by omega)⟩
  · subst e1; subst e2
    have hW := g.rst.W
    obtain ⟨p1, p2⟩ := rdT hW l lv.1 hj hw ha
    by_cases hz : 0 ≤ z
    · obtain ⟨M1, a1, a2, a3, a4⟩ := s_fdec (a := a) hW l lv hj hw
      obtain ⟨g1, l1⟩ := afterD g.rst l lv.1 a2 a3 a4
      obtain ⟨-, p2⟩ := rdT g1.W l1 lv.1 hj hw ha
      obtain ⟨M2, b1, b2, b3⟩ := mreads g1.W l1 lv (rdW h (S.2 j) a) (rdW_lt _ _ _)
      obtain ⟨k, hk, e⟩ := nI_of (Int32.not_lt.mpr hz)
      subst e
      have hfin : Inv M2 (s + 1) := scM g1 l1 lv hT (b2.mo (fun a j q => Or.inl (Or.inl q)))
      have hle := kLe_le lv.1 (rdW h (S.2 j) a)
      have d8 : zI M1 6 8 = nI (kLe h (rdW h (S.2 j) a)) := a3.2.2.2.2.2.1
      have d9 : zI M1 6 9 = nI (kCa h (rdW h (S.2 j) a)) := a3.2.2.2.2.2.2.1
      have m49 : zI M2 355 49 = nI (kLe h (rdW h (S.2 j) a)) := b3.2.2.2.1
      have hca := kCa_lt h (rdW h (S.2 j) a)
      have cl : ∀ r, (f_X11_locator 0 (nI j) (nI a) (nI k) M = some (r, M1) → f_X12_locator 355 (nI j) (nI a) (nI k) M1 = some (r, M2) → True) := fun _ _ _ => True.intro
      have hm1 : f_X12_bitsBy 355 0 (nI j) (nI a) 0 M1 = some (lN (rdW h (S.2 j) a), M1) := mbits g1.W l1 lv hj hw a
      have hW1 := a2.W hW
      have hW2 := b2.W g1.W
      by_cases k0 : k = 0
      · refine ⟨nI (kLe h (rdW h (S.2 j) a)), M1, M2, ?_, ?_, hfin⟩
        · rw [p1, b_i]
          refine im (one_n0 _) (ip hz ?_)
          dsimp only
          rw [a1, b_i]
          refine ip (by rw [k0]; rfl) ?_
          rw [w0_3 hW1, b_i, d8]
        · rw [p2, b_i]
          refine im (one_n0 _) (ip hz ?_)
          dsimp only
          rw [hm1, b_i]
          dsimp only
          rw [b1, b_i]
          refine ip (by rw [k0]; rfl) ?_
          dsimp only
          rw [m49]
      · have kn0 : ¬ nI k = 0 := nI_ne0 (by omega) hk
        by_cases hc1 : kCa h (rdW h (S.2 j) a) = 1
        · refine ⟨-1, M1, M2, ?_, ?_, hfin⟩
          · rw [p1, b_i]
            refine im (one_n0 _) (ip hz ?_)
            dsimp only
            rw [a1, b_i]
            refine im kn0 ?_
            rw [w0_3 hW1, b_i, d9]
            exact ip (by rw [hc1]; rfl) rfl
          · rw [p2, b_i]
            refine im (one_n0 _) (ip hz ?_)
            dsimp only
            rw [hm1, b_i]
            dsimp only
            rw [b1, b_i]
            refine im kn0 ?_
            dsimp only
            exact ip (by rw [hc1]; rfl) rfl
        · have hn1 := nI_n1 hca hc1
          have ht5 := lv.1.t
          have hkt := kCa_1 hc1
          by_cases hkl : k ≤ kLe h (rdW h (S.2 j) a)
          · refine ⟨nI ((dN (kM h) (kP h) (kT h) (kN h) (rdW h (S.2 j) a)).1 k), M1, M2, ?_, ?_, hfin⟩
            · rw [p1, b_i]
              refine im (one_n0 _) (ip hz ?_)
              dsimp only
              rw [a1, b_i]
              refine im kn0 ?_
              rw [w0_3 hW1, b_i, d9]
              refine im hn1 ?_
              rw [b_i, d8]
              refine ip (nI_le hkl (by omega)) ?_
              rw [b_i, w6_1 hW1, b_i, zl_at 12 rfl (by omega) (by decide), b_i, a3.2.2.2.2.1 k (by omega)]
            · rw [p2, b_i]
              refine im (one_n0 _) (ip hz ?_)
              dsimp only
              rw [hm1, b_i]
              dsimp only
              rw [b1, b_i]
              refine im kn0 ?_
              dsimp only
              refine im hn1 ?_
              rw [m49]
              refine ip (nI_le hkl (by omega)) ?_
              rw [w355_46 hW2, b_i, zl_at 14 rfl (by omega) (by decide), b_i, b3.2.2.1 k (by omega)]
          · refine ⟨-1, M1, M2, ?_, ?_, hfin⟩
            · rw [p1, b_i]
              refine im (one_n0 _) (ip hz ?_)
              dsimp only
              rw [a1, b_i]
              refine im kn0 ?_
              rw [w0_3 hW1, b_i, d9]
              refine im hn1 ?_
              rw [b_i, d8]
              exact im (nI_ge (by omega) hk) rfl
            · rw [p2, b_i]
              refine im (one_n0 _) (ip hz ?_)
              dsimp only
              rw [hm1, b_i]
              dsimp only
              rw [b1, b_i]
              refine im kn0 ?_
              dsimp only
              refine im hn1 ?_
              rw [m49]
              exact im (nI_ge (by omega) hk) rfl
    · refine ⟨-1, M, M, ?_, ?_, g.mono (by omega)⟩
      · rw [p1, b_i]; exact im (one_n0 _) (im hz rfl)
      · rw [p2, b_i]; exact im (one_n0 _) (im hz rfl)
theorem op_wrong (x y z : Int32) : OP (f_X11_wrong 0 x y z) (f_X12_wrong 355 x y z) := by
  intro M s g
  unfold f_X11_wrong f_X11_wrong_14 f_X11_wrong_43 f_X11_wrong_69 f_X12_wrong f_X12_wrong_29 f_X12_wrong_61
  rcases rcase g x y with ⟨p1, p2⟩ | ⟨c0, h, S, T, E, c, sv, j, a, l, lv, hT, e1, hj, hw, e2, ha⟩
  · exact ⟨-1, M, M, by rw [p1, b_i]; exact ip rfl rfl, by rw [p2, b_i]; exact ip rfl rfl, g.mono (by omega)⟩
  · subst e1; subst e2
    have hW := g.rst.W
    obtain ⟨p1, p2⟩ := rdT hW l lv.1 hj hw ha
    by_cases hz : -1 ≤ z
    · obtain ⟨M1, a1, a2, a3, a4⟩ := s_fdec (a := a) hW l lv hj hw
      obtain ⟨g1, l1⟩ := afterD g.rst l lv.1 a2 a3 a4
      obtain ⟨-, p2⟩ := rdT g1.W l1 lv.1 hj hw ha
      obtain ⟨M2, b1, b2, b3⟩ := mreads g1.W l1 lv (rdW h (S.2 j) a) (rdW_lt _ _ _)
      have hfin : Inv M2 (s + 1) := scM g1 l1 lv hT (b2.mo (fun a j q => Or.inl (Or.inl q)))
      have d8 : zI M1 6 8 = nI (kLe h (rdW h (S.2 j) a)) := a3.2.2.2.2.2.1
      have d9 : zI M1 6 9 = nI (kCa h (rdW h (S.2 j) a)) := a3.2.2.2.2.2.2.1
      have hca := kCa_lt h (rdW h (S.2 j) a)
      have hm1 : f_X12_bitsBy 355 0 (nI j) (nI a) 0 M1 = some (lN (rdW h (S.2 j) a), M1) := mbits g1.W l1 lv hj hw a
      have hW1 := a2.W hW
      have hW2 := b2.W g1.W
      have hz2 : ¬ z < -1 := Int32.not_lt.mpr hz
      by_cases hc0 : kCa h (rdW h (S.2 j) a) = 0
      · obtain ⟨q1, q2, -⟩ := dCa_0 hc0
        have ht := lv.1.t
        have q2 : (dRo (kM h) (kP h) (kT h) (kN h) (rdW h (S.2 j) a)).length = kLe h (rdW h (S.2 j) a) := q2
        have q1 : kLe h (rdW h (S.2 j) a) ≤ kT h := q1
        have m52 : zI M2 355 52 = nI (kLe h (rdW h (S.2 j) a)) := by rw [← q2]; exact (b3.2.2.2.2.2 hc0).1
        have nn : nI (kCa h (rdW h (S.2 j) a)) = 0 := by rw [hc0]; rfl
        by_cases hzm : z = -1
        · subst hzm
          refine ⟨nI (kLe h (rdW h (S.2 j) a)), M1, M2, ?_, ?_, hfin⟩
          · rw [p1, b_i]
            refine im (one_n0 _) (ip hz ?_)
            dsimp only
            rw [a1, b_i, w0_3 hW1, b_i, d9]
            refine ip nn ?_
            rw [b_i, d8]
            refine ip ?_ ?_
            · exact m1_lt (by omega)
            · refine ip rfl ?_
              rw [b_i, d8]
          · rw [p2, b_i]
            refine im (one_n0 _) (im hz2 ?_)
            dsimp only
            rw [hm1, b_i]
            dsimp only
            rw [b1, b_i]
            dsimp only
            refine ip (by rw [hc0]; decide) (ip rfl ?_)
            rw [m52]
        · have hz0 : ¬ z < 0 := fun q => by
            have h1 := Int32.le_iff_toInt_le.mp hz
            have h2 := Int32.lt_iff_toInt_lt.mp q
            have h3 : (-1 : Int32).toInt = -1 := rfl
            have h4 : (0 : Int32).toInt = 0 := rfl
            exact hzm (Int32.toInt_inj.mp (by omega))
          obtain ⟨k, hk, e⟩ := nI_of hz0
          subst e
          by_cases hkl : k < kLe h (rdW h (S.2 j) a)
          · refine ⟨nI (lg (dRo (kM h) (kP h) (kT h) (kN h) (rdW h (S.2 j) a)) k), M1, M2, ?_, ?_, hfin⟩
            · rw [p1, b_i]
              refine im (one_n0 _) (ip hz ?_)
              dsimp only
              rw [a1, b_i, w0_3 hW1, b_i, d9]
              refine ip nn ?_
              rw [b_i, d8]
              refine ip (nI_lt hkl (by omega)) (im hzm ?_)
              rw [b_i, w6_4 hW1, b_i, zl_at 5 rfl (by omega) (by decide), b_i, a3.2.2.2.2.2.2.2 hc0 k (by omega)]
            · rw [p2, b_i]
              refine im (one_n0 _) (im hz2 ?_)
              dsimp only
              rw [hm1, b_i]
              dsimp only
              rw [b1, b_i]
              dsimp only
              refine ip (by rw [hc0]; decide) (im hzm ?_)
              rw [m52]
              refine im (nI_ge hkl (by omega)) ?_
              rw [w355_51 hW2, b_i, zl_at 64 rfl (by omega) (by decide), b_i, (b3.2.2.2.2.2 hc0).2 k (by omega)]
          · refine ⟨-1, M1, M2, ?_, ?_, hfin⟩
            · rw [p1, b_i]
              refine im (one_n0 _) (ip hz ?_)
              dsimp only
              rw [a1, b_i, w0_3 hW1, b_i, d9]
              refine ip nn ?_
              rw [b_i, d8]
              exact im (nI_nlt (by omega) hk) rfl
            · rw [p2, b_i]
              refine im (one_n0 _) (im hz2 ?_)
              dsimp only
              rw [hm1, b_i]
              dsimp only
              rw [b1, b_i]
              dsimp only
              refine ip (by rw [hc0]; decide) (im hzm ?_)
              rw [m52]
              exact ip (nI_le (by omega) hk) rfl
      · refine ⟨-1, M1, M2, ?_, ?_, hfin⟩
        · rw [p1, b_i]
          refine im (one_n0 _) (ip hz ?_)
          dsimp only
          rw [a1, b_i, w0_3 hW1, b_i, d9]
          exact im (nI_ne0 (by omega) hca) rfl
        · rw [p2, b_i]
          refine im (one_n0 _) (im hz2 ?_)
          dsimp only
          rw [hm1, b_i]
          dsimp only
          rw [b1, b_i]
          dsimp only
          exact im (nI_nle (by omega) hca) rfl
    · refine ⟨-1, M, M, ?_, ?_, g.mono (by omega)⟩
      · rw [p1, b_i]; exact im (one_n0 _) (im hz rfl)
      · rw [p2, b_i]; exact im (one_n0 _) (ip (Int32.not_le.mp hz) rfl)
