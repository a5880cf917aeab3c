/-! calls: kept, has -/
theorem op_kept (x y : Int32) : OPb (f_X11_kept 0 x y) (f_X12_kept 355 x y) := by
  intro M s hs g
  have hW := g.rst.W
  unfold f_X11_kept f_X11_kept_24 f_X12_kept f_X12_kept_38 f_X12_kept_39
  have key : ∀ q : Nat, q ≤ 40 → f_X7_told 43 M = some (nI q, M) → zI M 386 0 = nI q → (∀ k w, k < q → w < 3 → ∃ r, f_X7_entry 43 (nI k) (nI w) M = some (r, M) ∧ zI M 387 (3 * k + w) = r) → ∃ r M1 M2, (if x < 0 then some (-1, M) else Option.bind (zrf M 0 8) fun q1 => Option.bind (f_X7_told q1 M) fun z2 => (if z2.1 ≤ x then some (-1, z2.2) else (if y < 0 then some (-1, z2.2) else (if y ≤ 2 then Option.bind (zrf z2.2 0 8) fun q3 => Option.bind (f_X7_entry q3 x y z2.2) fun z4 => some (z4.1, z4.2) else some (-1, z2.2))))) = some (r, M1) ∧ (Option.bind (zrf M1 355 60) fun q1 => Option.bind (zld q1 0) fun k2 => Option.bind (f_X12_is x 0 ((zI M1 q1 k2) - 1) M1) fun z3 => (if z3.1 = 0 then some (-1, z3.2) else Option.bind (f_X12_is y 0 2 z3.2) fun z4 => (if z4.1 = 0 then some (-1, z4.2) else Option.bind (zrf z4.2 355 61) fun q5 => Option.bind (zld q5 ((3 * x) + y)) fun k6 => some (zI z4.2 q5 k6, z4.2)))) = some (r, M2) ∧ Inv M2 (s + 1) := by
    intro q hq h1 h2 h3
    by_cases hx : ∃ k, k < q ∧ x = nI k
    · obtain ⟨k, hk, e⟩ := hx
      subst e
      have isx : f_X12_is (nI k) 0 (nI q - 1) M = some (1, M) := by
        rw [show (1 : Int32) = nI 1 from rfl, pk_sub (by omega)]
        rcases s_isN (M := M) (x := nI k) (xl := 0) (xh := nI (q - 1)) (n := q - 1) rfl rfl (by omega) with ⟨-, z⟩ | ⟨z, -⟩
        · exact z
        · rcases z with z | z
          · exact absurd z (nI_pos (by omega))
          · exact absurd z (nI_ge (by omega) (by omega))
      rcases s_isN (M := M) (x := y) (xl := 0) (xh := 2) (n := 2) rfl rfl (by decide) with ⟨⟨w, hw, e⟩, z⟩ | ⟨z, z2⟩
      · subst e
        obtain ⟨r, r1, r2⟩ := h3 k w hk (by omega)
        refine ⟨r, M, M, ?_, ?_, g.mono (by omega)⟩
        · refine im (nI_pos (by omega)) ?_
          rw [w0_8 hW, b_i, h1, b_i]
          refine im (nI_ge hk (by omega)) (im (nI_pos (by omega)) (ip (show nI w ≤ (2 : Int32) from nI_le (b := 2) hw (by decide)) ?_))
          dsimp only
          rw [w0_8 hW, b_i, r1, b_i]
        · rw [w355_60 hW, b_i, show zld 386 0 = some 0 from rfl, b_i, h2, isx, b_i]
          refine im (one_n0 _) ?_
          dsimp only
          rw [z, b_i]
          refine im (one_n0 _) ?_
          dsimp only
          rw [w355_61 hW, b_i, show (3 : Int32) = nI 3 from rfl, pk_mul, nI_add, zl_at 2640 rfl (by omega) (by decide), b_i, r2]
      · refine ⟨-1, M, M, ?_, ?_, g.mono (by omega)⟩
        · refine im (nI_pos (by omega)) ?_
          rw [w0_8 hW, b_i, h1, b_i]
          refine im (nI_ge hk (by omega)) ?_
          by_cases h4 : y < 0
          · exact ip h4 rfl
          · refine im h4 (im (fun h5 => ?_) rfl)
            obtain ⟨w, hw, e⟩ := nI_of h4
            subst e
            have := (nI_leI (by decide) hw).mp (z.resolve_left h4)
            have h6 := (nI_leI hw (b := 2) (by decide)).mp h5
            omega
        · rw [w355_60 hW, b_i, show zld 386 0 = some 0 from rfl, b_i, h2, isx, b_i]
          refine im (one_n0 _) ?_
          dsimp only
          rw [z2, b_i]
          exact ip rfl rfl
    · have hn := nin (by omega) hx
      refine ⟨-1, M, M, ?_, ?_, g.mono (by omega)⟩
      · by_cases h4 : x < 0
        · exact ip h4 rfl
        · refine im h4 ?_
          rw [w0_8 hW, b_i, h1, b_i]
          exact ip (hn.resolve_left h4) rfl
      · rw [w355_60 hW, b_i, show zld 386 0 = some 0 from rfl, b_i, h2]
        have : f_X12_is x 0 (nI q - 1) M = some (0, M) := by
          unfold f_X12_is f_X12_is_14 f_X12_is_15
          by_cases h4 : x < 0
          · rw [if_pos h4, zbz0]
          · rw [if_neg h4]
            obtain ⟨k, hk, e⟩ := nI_of h4
            subst e
            have := (nI_leI (by omega) hk).mp (hn.resolve_left h4)
            rw [if_pos, zbz0]
            rw [← iI_n q, iI1, iI_sub]
            have hk2 : (nI k).toInt = k := nI_toInt hk
            rw [Int32.lt_iff_toInt_lt, iI_t (by unfold sm; omega), hk2]
            omega
        rw [this, b_i]
        exact ip rfl rfl
  rcases g.st with ⟨c0, h, S, T, E, c, sv, l, lv, hT⟩ | o
  · obtain ⟨u, -, -, -, -, ke, -⟩ := l.hm
    refine key (min T 40) (by omega) (s_told (by omega) l.hc) ke.1 (fun k w hk hw => ⟨_, s_entry hW (by omega) lv.2.2.1 l.hc hk hw, ?_⟩)
    have := ke.2 k w hk hw
    rwa [Nat.mul_zero, Nat.zero_add] at this
  · refine key 0 (by decide) ?_ o.2.2.1.2.1 (fun k w hk => absurd hk (by omega))
    unfold f_X7_told
    rw [o.2.1.2.1, s_min (a := 0) (b := 40) (x := 0) (y := 40) rfl rfl (by decide) (by decide), b_i]; rfl
theorem nsm_ext {f g : Nat → Nat} : ∀ n, (∀ i, i < n → f i = g i) → nsm n f = nsm n g := by
  intro n
  induction n with
  | zero => intro _; rfl
  | succ n ih => intro h; show nsm n f + f n = nsm n g + g n; rw [ih (fun i hi => h i (by omega)), h n (by omega)]
theorem nsm_cut {f : Nat → Nat} {m : Nat} : ∀ d, (∀ i, m ≤ i → i < m + d → f i = 0) → nsm (m + d) f = nsm m f := by
  intro d
  induction d with
  | zero => intro _; rfl
  | succ d ih => intro h; show nsm (m + d) f + f (m + d) = nsm m f; rw [ih (fun i h1 h2 => h i h1 (by omega)), h (m + d) (by omega) (by omega)]; rfl
theorem s_wcount {M : Mem} {n : Nat} {S : PSt} (hW : WRc M) (hS : CP M 13 n S) : f_X5_writtenCount 13 M = some (nI (nsm 6 (fun i => if (S.2 i).1 then 1 else 0)), M) := by
  have lp : ∀ e i f, i + e = 6 → f_X5_writtenCount_4 13 (e + 1 + f) (nI (nsm i (fun i => if (S.2 i).1 then 1 else 0))) (nI i) M = some (nI (nsm 6 (fun i => if (S.2 i).1 then 1 else 0)), M) := by
    intro e
    induction e with
    | zero =>
      intro i f ei
      have : i = 6 := by omega
      subst this
      rw [show 0 + 1 + f = f + 1 by omega, f_X5_writtenCount_4]
      exact ip (nI_le (a := 6) (Nat.le_refl _) (by decide)) rfl
    | succ e ih =>
      intro i f ei
      have hr := hS.2 i (by omega)
      have ih := ih (i + 1) f (by omega)
      have hs2 : nsm (i + 1) (fun i => if (S.2 i).1 then 1 else 0) = nsm i (fun i => if (S.2 i).1 then 1 else 0) + (if (S.2 i).1 then 1 else 0) := rfl
      rw [hs2] at ih
      rw [show e + 1 + 1 + f = (e + 1 + f) + 1 by omega, f_X5_writtenCount_4]
      refine im (nI_ge (a := i) (b := 6) (by omega) (by decide)) ?_
      rw [pq_0 hW (Or.inl rfl : PQ 13), b_i, zl_at 6 (pq_get (Or.inl rfl)).2.1 (by omega) (by decide), b_i, pq_1 hW (Or.inl rfl : PQ 13) (by omega), b_i, hr.2.1]
      unfold f_X5_writtenCount_28
      cases hb : (S.2 i).1 with
      | false =>
        rw [hb, if_neg (by decide), Nat.add_zero] at ih
        refine ip b01_f ?_
        rw [show nI (nsm i (fun i => if (S.2 i).1 then 1 else 0)) + 0 = nI (nsm i (fun i => if (S.2 i).1 then 1 else 0)) from nI_add _ 0, nI_1]
        exact ih
      | true =>
        rw [hb, if_pos rfl] at ih
        refine im b01_n0 ?_
        rw [nI_1, nI_1]
        exact ih
  exact lp 6 0 999993 rfl
theorem s_mcount {M : Mem} {h : CH} {S : PSt} {x : Int32} (hW : WRc M) (v : CV h) (hC : MC M h) (hS : MP M 0 (kN h) S) : f_X12_has_92 355 x 1000000 0 0 M = some (nI (nsm (kQ h) (fun i => if (S.2 i).1 then 1 else 0)), M) := by
  have hq := v.q
  obtain ⟨bk, ⟨c1, c2, -⟩, -, c5, -⟩ := hC
  have lp : ∀ e i f, i + e = kQ h → f_X12_has_92 355 x (e + 1 + f) (nI (nsm i (fun i => if (S.2 i).1 then 1 else 0))) (nI i) M = some (nI (nsm (kQ h) (fun i => if (S.2 i).1 then 1 else 0)), M) := by
    intro e
    induction e with
    | zero =>
      intro i f ei
      have : i = kQ h := by omega
      subst this
      rw [show 0 + 1 + f = f + 1 by omega, f_X12_has_92, w355_15 hW, b_i, c2, zl_at 2 rfl (by omega) (by decide), b_i, c5, if_pos (nI_le (Nat.le_refl _) (by omega))]
    | succ e ih =>
      intro i f ei
      have hr := (hS.2 i (by omega)).1
      rw [Nat.mul_zero, Nat.zero_add] at hr
      have ih := ih (i + 1) f (by omega)
      have hs2 : nsm (i + 1) (fun i => if (S.2 i).1 then 1 else 0) = nsm i (fun i => if (S.2 i).1 then 1 else 0) + (if (S.2 i).1 then 1 else 0) := rfl
      rw [hs2] at ih
      rw [show e + 1 + 1 + f = (e + 1 + f) + 1 by omega, f_X12_has_92, w355_15 hW, b_i, c2, zl_at 2 rfl (by omega) (by decide), b_i, c5, if_neg (nI_ge (by omega) (by omega)), w355_56 hW, b_i, zl_at 132 rfl (by omega) (by decide), b_i, hr, nI_1]
      cases hb : (S.2 i).1 with
      | false =>
        rw [hb, if_neg (by decide), Nat.add_zero] at ih
        rw [show nI (nsm i (fun i => if (S.2 i).1 then 1 else 0)) + b01 false = nI (nsm i (fun i => if (S.2 i).1 then 1 else 0)) from nI_add _ 0]
        exact ih
      | true =>
        rw [hb, if_pos rfl] at ih
        rw [show b01 true = nI 1 from rfl, nI_add]
        exact ih
  have := lp (kQ h) 0 (1000000 - kQ h - 1) (by omega)
  rw [show kQ h + 1 + (1000000 - kQ h - 1) = 1000000 by omega] at this
  exact this
theorem op_has (x : Int32) : OPb (f_X11_has 0 x) (f_X12_has 355 x) := by
  intro M s hs g
  have hW := g.rst.W
  obtain ⟨sd, s1, s2, s3⟩ := g.rst.2.2.2.1
  obtain ⟨mt, m1, m2, m3, -⟩ := g.rst.2.2.2.2.2.2.1
  have fin : ∀ r, f_X11_has 0 x M = some (r, M) → f_X12_has 355 x M = some (r, M) → ∃ r M1 M2, f_X11_has 0 x M = some (r, M1) ∧ f_X12_has 355 x M1 = some (r, M2) ∧ Inv M2 (s + 1) := fun r a b => ⟨r, M, M, a, b, g.mono (by omega)⟩
  by_cases hx : ∃ k, k ≤ 10 ∧ x = nI k
  · obtain ⟨k, hk, e⟩ := hx
    subst e
    have c0' : ∀ A B : Option (Int32 × Mem), (if nI k < 0 then A else (if nI k ≤ 10 then B else A)) = B := fun A B => im (nI_pos (by omega)) (ip (show nI k ≤ (10 : Int32) from nI_le (b := 10) hk (by decide)) rfl)
    by_cases k10 : k = 10
    · subst k10
      refine fin (nI sd) ?_ ?_
      · unfold f_X11_has
        rw [c0']
        refine ip rfl ?_
        rw [s2]
      · unfold f_X12_has
        refine im (by decide) (im (by decide) (im (by decide) (im (by decide) (im (by decide) (im (by decide) (im (by decide) (im (by decide) (im (by decide) (im (by decide) (ip rfl ?_))))))))))
        rw [s3, lN_i]
    · have kn : ¬ nI k = 10 := fun q => k10 ((nI_eq (b := 10) (by omega) (by decide)).mp q)
      have hk10 : k = 0 ∨ k = 1 ∨ k = 2 ∨ k = 3 ∨ k = 4 ∨ k = 5 ∨ k = 6 ∨ k = 7 ∨ k = 8 ∨ k = 9 := by omega
      rcases g.st with ⟨c0, h, S, T, E, c, sv, l, lv, hT⟩ | o
      · have hq := lv.1.q
        obtain ⟨bk, ⟨d1, d2, hMD⟩, ⟨d3, d4, -⟩, d5, -⟩ := id l.mc
        obtain ⟨u, -, -, d6, -, ke, -⟩ := id l.hm
        obtain ⟨lst, -, -, d7, -⟩ := id l.hc
        have hcnt : nsm 6 (fun i => if (S.2 i).1 then 1 else 0) = nsm (kQ h) (fun i => if (S.2 i).1 then 1 else 0) := by
          have := nsm_cut (f := fun i => if (S.2 i).1 then 1 else 0) (m := kQ h) (6 - kQ h) (fun i h1 h2 => by
            show (if (S.2 i).1 then 1 else 0) = 0
            rw [lv.2.1.2.2 i h1 (by omega)]; rfl)
          rwa [show kQ h + (6 - kQ h) = 6 by omega] at this
        unfold f_X11_has f_X12_has at *
        simp only [c0']
        rw [if_neg kn, l.on.1, if_neg (show ¬ (1 : Int32) = 0 by decide), l.cur, b_i, wC_0 hW l.cc.z, b_i]
        rcases hk10 with e | e | e | e | e | e | e | e | e | e <;> subst e
        · exact ⟨nI (fN (kM h)), M, M, ip rfl (by rw [l.cc.cd.2.1.sz]), ip rfl (by rw [hMD.1.sz]), g.mono (by omega)⟩
        · exact ⟨nI (kC h), M, M, im (by decide) (ip rfl (by rw [l.cc.c])), im (by decide) (ip rfl (by rw [d3])), g.mono (by omega)⟩
        · exact ⟨nI (kN h), M, M, im (by decide) (im (by decide) (ip rfl (by rw [l.cc.n]))), im (by decide) (im (by decide) (ip rfl (by rw [hMD.2.2.1]))), g.mono (by omega)⟩
        · exact ⟨nI (kN h - kC h), M, M, im (by decide) (im (by decide) (im (by decide) (ip rfl (by rw [l.cc.b])))), im (by decide) (im (by decide) (im (by decide) (ip rfl (by rw [d4])))), g.mono (by omega)⟩
        · exact ⟨nI (kQ h), M, M, im (by decide) (im (by decide) (im (by decide) (im (by decide) (ip rfl (by rw [b_i, l.cc.q]))))), im (by decide) (im (by decide) (im (by decide) (im (by decide) (ip rfl (by rw [w355_15 hW, b_i, d2, zl_at 2 rfl (by omega) (by decide), b_i, d5]))))), g.mono (by omega)⟩
        · exact ⟨nI (nsm (kQ h) (fun i => if (S.2 i).1 then 1 else 0)), M, M, im (by decide) (im (by decide) (im (by decide) (im (by decide) (im (by decide) (ip rfl (by rw [w0_5 hW, b_i, s_wcount hW l.cp, b_i, hcnt])))))), im (by decide) (im (by decide) (im (by decide) (im (by decide) (im (by decide) (ip rfl (s_mcount hW lv.1 l.mc l.mp)))))), g.mono (by omega)⟩
        · exact ⟨nI S.1, M, M, im (by decide) (im (by decide) (im (by decide) (im (by decide) (im (by decide) (im (by decide) (ip rfl (by rw [w0_5 hW, b_i, l.cp.1]))))))), im (by decide) (im (by decide) (im (by decide) (im (by decide) (im (by decide) (im (by decide) (ip rfl (by rw [w355_55 hW, b_i, show zld 381 0 = some 0 from rfl, b_i, l.mp.1]))))))), g.mono (by omega)⟩
        · exact ⟨nI (min T 40), M, M, im (by decide) (im (by decide) (im (by decide) (im (by decide) (im (by decide) (im (by decide) (im (by decide) (ip rfl (by rw [w0_8 hW, b_i, s_told (by omega) l.hc, b_i])))))))), im (by decide) (im (by decide) (im (by decide) (im (by decide) (im (by decide) (im (by decide) (im (by decide) (ip rfl (by rw [w355_60 hW, b_i, show zld 386 0 = some 0 from rfl, b_i, ke.1])))))))), g.mono (by omega)⟩
        · exact ⟨nI mt, M, M, im (by decide) (im (by decide) (im (by decide) (im (by decide) (im (by decide) (im (by decide) (im (by decide) (im (by decide) (ip rfl (by rw [w0_9 hW, b_i, m2]))))))))), im (by decide) (im (by decide) (im (by decide) (im (by decide) (im (by decide) (im (by decide) (im (by decide) (im (by decide) (ip rfl (by rw [m3]))))))))), g.mono (by omega)⟩
        · exact ⟨nI c, M, M, im (by decide) (im (by decide) (im (by decide) (im (by decide) (im (by decide) (im (by decide) (im (by decide) (im (by decide) (im (by decide) (by rw [w0_8 hW, b_i, d7]))))))))), im (by decide) (im (by decide) (im (by decide) (im (by decide) (im (by decide) (im (by decide) (im (by decide) (im (by decide) (im (by decide) (ip rfl (by rw [d6])))))))))), g.mono (by omega)⟩
      · obtain ⟨⟨o1, o2⟩, ⟨o3, o4, o5, o6⟩, ⟨o7, o8, o9, o10⟩, ⟨o11, o12, o13, o14, o15, o16⟩, o17⟩ := o
        refine ⟨0, M, M, ?_, ?_, g.mono (by omega)⟩
        · unfold f_X11_has
          rw [c0']
          exact im kn (ip o1 rfl)
        · unfold f_X12_has
          rcases hk10 with e | e | e | e | e | e | e | e | e | e <;> subst e
          · exact ip rfl (by rw [o11])
          · exact im (by decide) (ip rfl (by rw [o12]))
          · exact im (by decide) (im (by decide) (ip rfl (by rw [o13])))
          · exact im (by decide) (im (by decide) (im (by decide) (ip rfl (by rw [o14]))))
          · exact im (by decide) (im (by decide) (im (by decide) (im (by decide) (ip rfl (by rw [w355_15 hW, b_i, o15, show zld 358 0 = some 0 from rfl, b_i, o16])))))
          · refine im (by decide) (im (by decide) (im (by decide) (im (by decide) (im (by decide) (ip rfl ?_)))))
            rw [show (1000000 : Nat) = 999999 + 1 from rfl, f_X12_has_92, w355_15 hW, b_i, o15, show zld 358 0 = some 0 from rfl, b_i, o16]
            exact ip (by decide) rfl
          · exact im (by decide) (im (by decide) (im (by decide) (im (by decide) (im (by decide) (im (by decide) (ip rfl (by rw [w355_55 hW, b_i, show zld 381 0 = some 0 from rfl, b_i, o9])))))))
          · exact im (by decide) (im (by decide) (im (by decide) (im (by decide) (im (by decide) (im (by decide) (im (by decide) (ip rfl (by rw [w355_60 hW, b_i, show zld 386 0 = some 0 from rfl, b_i, o8]))))))))
          · exact im (by decide) (im (by decide) (im (by decide) (im (by decide) (im (by decide) (im (by decide) (im (by decide) (im (by decide) (ip rfl (by rw [o10])))))))))
          · exact im (by decide) (im (by decide) (im (by decide) (im (by decide) (im (by decide) (im (by decide) (im (by decide) (im (by decide) (im (by decide) (ip rfl (by rw [o7]))))))))))
  · refine fin (-1) ?_ ?_
    · unfold f_X11_has f_X11_has_10
      rcases le_n (y := x) (n := 10) (by decide) with q | q | ⟨q1, q2⟩
      · exact absurd q hx
      · exact ip q rfl
      · exact im q1 (im q2 rfl)
    · unfold f_X12_has
      have no : ∀ k, k ≤ 10 → ¬ x = nI k := fun k hk e => hx ⟨k, hk, e⟩
      exact im (no 0 (by decide)) (im (no 1 (by decide)) (im (no 2 (by decide)) (im (no 3 (by decide)) (im (no 4 (by decide)) (im (no 5 (by decide)) (im (no 6 (by decide)) (im (no 7 (by decide)) (im (no 8 (by decide)) (im (no 9 (by decide)) (im (no 10 (by decide)) rfl))))))))))
