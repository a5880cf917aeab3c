/-! calls: write, word, generator -/
def dd (a b : Nat) : Nat := (a <<< 30) ||| b
theorem dd_lt {a b : Nat} (ha : a < 2 ^ 31) (hb : b < 2 ^ 30) : dd a b < 2 ^ 61 := by
  unfold dd
  refine Nat.or_lt_two_pow ?_ (by omega)
  rw [Nat.shiftLeft_eq]
  omega
theorem dd_l {a b : Nat} (ha : a < 2 ^ 31) (hb : b < 2 ^ 30) : ((nI a).toInt64 <<< ((30 : Int32).toInt64 &&& 63)) ||| (nI b).toInt64 = lN (dd a b) := by
  unfold dd
  rw [nI_i2l ha, nI_i2l (by omega), show (30 : Int32) = nI 30 from rfl, lN_shl a (by decide), lN_or]
theorem s_dataOf {M : Mem} {a b : Nat} (ha : a < 2 ^ 31) (hb : b < 2 ^ 30) : f_X11_dataOf (nI a) (nI b) M = some (lN (dd a b), M) := by
  unfold f_X11_dataOf
  rw [dd_l ha hb]
def isD (h : CH) (x y : Int32) : Prop := ∃ a b, x = nI a ∧ y = nI b ∧ a < 2 ^ 31 ∧ b < 2 ^ 30 ∧ dd a b < 2 ^ (kN h - kC h)
theorem shr_0 {d n : Nat} : d >>> n = 0 ↔ d < 2 ^ n := by
  rw [Nat.shiftRight_eq_div_pow, Nat.div_eq_zero_iff]
  constructor
  · rintro (h | h)
    · exact absurd h (Nat.ne_of_gt (Nat.pow_pos (by decide)))
    · exact h
  · exact Or.inr
theorem isD_sp (h : CH) (x y : Int32) : (∃ a b, x = nI a ∧ y = nI b ∧ a < 2 ^ 31 ∧ b < 2 ^ 30) ∨ (x < 0 ∨ y < 0 ∨ ¬ y < 1073741824) := by
  by_cases h1 : x < 0
  · exact Or.inr (Or.inl h1)
  · by_cases h2 : y < 0
    · exact Or.inr (Or.inr (Or.inl h2))
    · obtain ⟨a, ha, e⟩ := nI_of h1
      obtain ⟨b, hb, e2⟩ := nI_of h2
      subst e; subst e2
      by_cases h3 : b < 2 ^ 30
      · exact Or.inl ⟨a, b, rfl, rfl, ha, h3⟩
      · exact Or.inr (Or.inr (Or.inr (nI_nlt (b := 1073741824) (by omega) (by omega))))
section
variable {M : Mem} {c0 : Nat} {h : CH} {S : PSt} {T c s : Nat} {E : Nat → Nat → Nat} {sv : Nat → PSt × Nat}
theorem dC (hW : WRc M) (v : CV h) (l : LC M c0 h S T E c sv) (x y : Int32) : (isD h x y ∧ f_X11_isData 0 x y M = some (1, M)) ∨ (¬ isD h x y ∧ f_X11_isData 0 x y M = some (0, M)) := by
  have hn := v.n63
  have hc := v.c
  unfold f_X11_isData f_X11_isData_22 f_X11_isData_50
  rw [l.2.2.1, if_neg (show ¬ (1 : Int32) = 0 by decide)]
  rcases isD_sp h x y with ⟨a, b, e1, e2, ha, hb⟩ | q
  · subst e1; subst e2
    have hd := dd_lt ha hb
    have hs : dd a b >>> (kN h - kC h) < 2 ^ 63 := by rw [Nat.shiftRight_eq_div_pow]; exact Nat.lt_of_le_of_lt (Nat.div_le_self _ _) (by omega)
    rw [if_neg (nI_pos ha), if_neg (nI_pos (by omega)), if_pos (show nI b < (1073741824 : Int32) from nI_lt (b := 1073741824) hb (by decide)), s_dataOf ha hb, b_i]
    dsimp only
    rw [l.1, b_i, wC_0 hW l.2.1.z, b_i, l.2.1.b, lN_ush (by omega) (by omega)]
    by_cases h0 : dd a b < 2 ^ (kN h - kC h)
    · rw [if_pos ((lc_e _ hs).mpr (shr_0.mpr h0)), zbz1]
      exact Or.inl ⟨⟨a, b, rfl, rfl, ha, hb, h0⟩, rfl⟩
    · rw [if_neg (fun q => h0 (shr_0.mp ((lc_e _ hs).mp q))), zbz0]
      refine Or.inr ⟨fun ⟨a', b', e1, e2, ha', hb', h1⟩ => ?_, rfl⟩
      have := (nI_eq ha ha').mp e1
      have := (nI_eq (by omega) (by omega)).mp e2
      subst_vars
      exact h0 h1
  · have nd : ¬ isD h x y := fun ⟨a, b, e1, e2, ha, hb, _⟩ => by
      subst e1; subst e2
      rcases q with q | q | q
      · exact nI_pos ha q
      · exact nI_pos (by omega) q
      · exact q (nI_lt (b := 1073741824) hb (by decide))
    refine Or.inr ⟨nd, ?_⟩
    by_cases h1 : x < 0
    · rw [if_pos h1]
    · rw [if_neg h1]
      by_cases h2 : y < 0
      · rw [if_pos h2]
      · rw [if_neg h2]
        have h3 : ¬ y < 1073741824 := by
          rcases q with q | q | q
          · exact absurd q h1
          · exact absurd q h2
          · exact q
        rw [if_neg h3]
theorem dM (v : CV h) (hC : MC M h) (h35 : zI M 355 35 = 1) (x y : Int32) : (isD h x y ∧ f_X12_isData 355 x y M = some (1, M)) ∨ (¬ isD h x y ∧ f_X12_isData 355 x y M = some (0, M)) := by
  have hn := v.n63
  have hc := v.c
  obtain ⟨bk, -, ⟨-, m40, -⟩, -⟩ := hC
  unfold f_X12_isData f_X12_isData_44 f_X12_isData_45
  rw [h35, if_neg (show ¬ (1 : Int32) = 0 by decide)]
  rcases isD_sp h x y with ⟨a, b, e1, e2, ha, hb⟩ | q
  · subst e1; subst e2
    have hd := dd_lt ha hb
    have hs : dd a b >>> (kN h - kC h) < 2 ^ 63 := by rw [Nat.shiftRight_eq_div_pow]; exact Nat.lt_of_le_of_lt (Nat.div_le_self _ _) (by omega)
    rcases s_isN (M := M) (x := nI b) (xl := 0) (xh := 1073741823) (n := 1073741823) rfl rfl (by decide) with ⟨-, q⟩ | ⟨q, -⟩
    · rw [if_neg (nI_pos ha), q, b_i, if_neg (one_n0 _)]
      dsimp only
      rw [dd_l ha hb, m40, lN_shr (by omega) (by omega)]
      by_cases h0 : dd a b < 2 ^ (kN h - kC h)
      · rw [if_pos ((lc_e _ hs).mpr (shr_0.mpr h0)), zbz1]
        exact Or.inl ⟨⟨a, b, rfl, rfl, ha, hb, h0⟩, rfl⟩
      · rw [if_neg (fun q => h0 (shr_0.mp ((lc_e _ hs).mp q))), zbz0]
        refine Or.inr ⟨fun ⟨a', b', e1, e2, ha', hb', h1⟩ => ?_, rfl⟩
        have := (nI_eq ha ha').mp e1
        have := (nI_eq (by omega) (by omega)).mp e2
        subst_vars
        exact h0 h1
    · rcases q with q | q
      · exact absurd q (nI_pos (by omega))
      · exact absurd q (nI_ge (by omega) (by decide))
  · have nd : ¬ isD h x y := fun ⟨a, b, e1, e2, ha, hb, _⟩ => by
      subst e1; subst e2
      rcases q with q | q | q
      · exact nI_pos ha q
      · exact nI_pos (by omega) q
      · exact q (nI_lt (b := 1073741824) hb (by decide))
    refine Or.inr ⟨nd, ?_⟩
    rw [zbz0]
    by_cases h1 : x < 0
    · rw [if_pos h1]
    · rw [if_neg h1]
      rcases s_isN (M := M) (x := y) (xl := 0) (xh := 1073741823) (n := 1073741823) rfl rfl (by decide) with ⟨⟨b, hb, e⟩, -⟩ | ⟨-, q2⟩
      · subst e
        rcases q with q | q | q
        · exact absurd q h1
        · exact absurd q (nI_pos (by omega))
        · exact absurd (nI_lt (b := 1073741824) (by omega) (by decide)) q
      · rw [q2, b_i]; exact ip rfl rfl
/-- the word of data: both -/
theorem wC (v : CV h) (l : CC M c0 h) {d : Nat} (hd : d < 2 ^ (kN h - kC h)) : f_X1_encode (c0 + 1) (lN d) M = some (lN (wd (kG h) (kC h) (kN h - kC h) d), M) := by
  have hn := v.n63
  have hc := v.c
  obtain ⟨c', hc'⟩ : ∃ c', kC h = c' + 1 := ⟨kC h - 1, by omega⟩
  have hg := v.g.1
  have e1 := l.c
  rw [hc'] at hg hd e1 ⊢
  exact s_encode (n := kN h - (c' + 1)) e1 (by rw [l.n]; congr 1; omega) l.gn hg (by omega) hd
theorem wM (v : CV h) (hC : MC M h) {d : Nat} (hd : d < 2 ^ (kN h - kC h)) : f_X12_wordOf 355 (lN d) M = some (lN (wd (kG h) (kC h) (kN h - kC h) d), M) := by
  have hn := v.n63
  have hc := v.c
  obtain ⟨bk, -, ⟨m38, -, m41⟩, -⟩ := hC
  obtain ⟨c', hc'⟩ : ∃ c', kC h = c' + 1 := ⟨kC h - 1, by omega⟩
  have hg := v.g.1
  rw [hc'] at hg hd m38 ⊢
  exact s_wordOf (n := kN h - (c' + 1)) m38 m41 hg (by omega) hd
theorem w_ok (v : CV h) {d : Nat} (hd : d < 2 ^ (kN h - kC h)) : wd (kG h) (kC h) (kN h - kC h) d < 2 ^ kN h ∧ ∀ j, 1 ≤ j → j ≤ 2 * kT h → sy (kM h) (kP h) (kN h) (wd (kG h) (kC h) (kN h - kC h) d) j = 0 := by
  have hc := v.c
  obtain ⟨g1, g2, g3⟩ := v.g
  have h1 := wd_lt g1 g2 hd
  rw [show kC h + (kN h - kC h) = kN h by omega] at h1
  refine ⟨h1, fun j q1 q2 => ?_⟩
  have h2 := wd_sy v.pr g1 g2 (g3 j q1 q2) hd
  rwa [show kC h + (kN h - kC h) = kN h by omega] at h2
end
theorem pgN {M M1 : Mem} {c0 : Nat} {h : CH} {S : PSt} {T c : Nat} {E : Nat → Nat → Nat} {sv : Nat → PSt × Nat} (hW : WRc M) (v : CV h) (l : LM M h S T E c sv) {j : Nat} (hj : j < kQ h) : f_X12_isPage 355 (nI j) M = some (1, M) := by
  obtain ⟨bk, ⟨c1, c2, -⟩, -, c5, -⟩ := l.1
  exact mP_t hW c1 c2 l.2.1 c5 v.q hj
theorem op_write (x y z : Int32) : OPb (f_X11_write 0 x y z) (f_X12_write 355 x y z) := by
  intro M s hs g
  have hW := g.rst.W
  have ref : f_X11_write 0 x y z M = f_X11_write_17 0 x y z M → (∀ M1, FR (fun a _ => a = 2) M M1 → f_X12_write 355 x y z M1 = f_X12_write_17 355 x y z M1) → ∃ r M1 M2, f_X11_write 0 x y z M = some (r, M1) ∧ f_X12_write 355 x y z M1 = some (r, M2) ∧ Inv M2 (s + 1) := by
    intro p1 p2
    obtain ⟨M1, M2, a1, a2, a3, a4⟩ := refB g (k := 3) (by decide)
    refine ⟨0, M1, M2, ?_, ?_, a3.mono (by omega)⟩
    · refine p1.trans ?_
      unfold f_X11_write_17
      rw [show (3 : Int32) = nI 3 from rfl, a1, b_i]
    · rw [p2 M1 a4]
      unfold f_X12_write_17 f_X12_write_30
      rw [show (3 : Int32) = nI 3 from rfl, a2, b_i, if_pos m1_n0, zbz0]
  rcases g.st with ⟨c0, h, S, T, E, c, sv, l, lv, hT⟩ | o
  · have hq := lv.1.q
    by_cases hp : ∃ j, j < kQ h ∧ x = nI j
    · obtain ⟨j, hj, e⟩ := hp
      subst e
      obtain ⟨p1, -⟩ := pgT hW l lv.1 hj
      rcases dC hW lv.1 l.c y z with ⟨⟨a, b, e1, e2, ha, hb, hd⟩, q1⟩ | ⟨nd, q1⟩
      · subst e1; subst e2
        have h64 : (2 : Nat) ^ kN h ≤ 2 ^ 63 := Nat.pow_le_pow_right (by decide) lv.1.n63.1
        obtain ⟨wl, ws⟩ := w_ok lv.1 hd
        obtain ⟨W, hWd⟩ : ∃ W, W = wd (kG h) (kC h) (kN h - kC h) (dd a b) := ⟨_, rfl⟩
        obtain ⟨M1, b1, b2, b3, hc⟩ := c_save hW lv.1 (by omega) lv.2.2.1 l.c
        have sv' := lv.save hc
        have hW1 := b2.W hW
        rw [← hWd] at wl ws
        obtain ⟨M3, M4, t1, t2, t3, t4, t5, t6, t7⟩ := c_fill (M := M1) (j := j) (w := W) (mm := 0) hW1 lv.1 (by omega) (cpp_pos c) sv'.2.1 b3 (by omega) (by omega)
        have f4 : FR WcA M M4 := b2.tr t4
        have lm1 : LM M4 h S T E c sv := l.m.fr lv.1 f4 (fun a j q => by unfold WcA at q; omega)
        have hW4 := f4.W hW
        obtain ⟨M6, z1, z2, z3⟩ := m_keeps hW4 lv.1 lm1
        obtain ⟨M7, M8, w1, w2, w3, w4⟩ := m_fill (M := M6) (j := j) (w := W) (mm := 0) (z2.W hW4) lv.1 sv'.1 z3 (by omega) (by omega)
        refine ⟨1, M4, M8, ?_, ?_, actI g.rst l lv f4 t7 (z2.tr w3) w4 ⟨lv.1, lv.2.1.up hj (lvw_v lv.1 wl ws), sv'.2.1, sv'.2.2⟩ (by omega)⟩
        · unfold f_X11_write
          rw [p1, b_i]
          refine im (one_n0 _) ?_
          dsimp only
          rw [q1, b_i]
          refine im (one_n0 _) ?_
          dsimp only
          have hW3 := t3.W hW1
          have e13 : zI M3 13 1 = nI S.1 := (t5.I (by omega)).trans b3.2.2.2.1.1
          rw [w0_8 hW, b_i, w0_5 hW, b_i, b1, b_i, crow hW1 (by omega), b3.1, b_i, b_i, wC_0 hW1 b3.2.1.z, b_i, s_dataOf ha hb, b_i]
          dsimp only
          rw [wC lv.1 b3.2.1 hd, b_i]
          dsimp only
          rw [← hWd, t1, b_i, w0_8 hW3, b_i, w0_5 hW3, b_i, e13, show (0 : Int32) = nI 0 from rfl, t2, b_i]
        · unfold f_X12_write
          rw [pgN (M1 := M) (c0 := c0) hW4 lv.1 lm1 hj, b_i]
          refine im (one_n0 _) ?_
          dsimp only
          rcases dM lv.1 lm1.1 lm1.2.1 (nI a) (nI b) with ⟨-, q⟩ | ⟨q, -⟩
          · rw [q, b_i]
            refine im (one_n0 _) ?_
            dsimp only
            rw [z1, b_i, dd_l ha hb, wM lv.1 z3.1 hd, b_i]
            dsimp only
            rw [← hWd, w1, b_i, show (0 : Int32) = nI 0 from rfl, w2, b_i]
          · exact absurd ⟨a, b, rfl, rfl, ha, hb, hd⟩ q
      · refine ref ?_ (fun M1 f => ?_)
        · unfold f_X11_write
          rw [p1, b_i]
          refine im (one_n0 _) ?_
          dsimp only
          rw [q1, b_i]
          exact ip rfl rfl
        · have l1 := l.f2 lv.1 f
          unfold f_X12_write
          rw [pgN (M1 := M) (c0 := c0) (f.W hW) lv.1 l1.m hj, b_i]
          refine im (one_n0 _) ?_
          dsimp only
          rcases dM lv.1 l1.mc l1.on.2 y z with ⟨q, -⟩ | ⟨-, q⟩
          · exact absurd q nd
          · rw [q, b_i]; exact ip rfl rfl
    · have hx := nin (by omega) hp
      refine ref ?_ (fun M1 f => ?_)
      · unfold f_X11_write
        rw [(pgF hW l hx).1, b_i]; exact ip rfl rfl
      · unfold f_X12_write
        rw [(pgF (f.W hW) (l.f2 lv.1 f) hx).2, b_i]; exact ip rfl rfl
  · refine ref ?_ (fun M1 f => ?_)
    · unfold f_X11_write
      rw [isP_o o.1.1, b_i]; exact ip rfl rfl
    · unfold f_X12_write
      rw [mP_o ((f.I (by omega)).trans o.1.2), b_i]; exact ip rfl rfl
theorem op_word (x y z : Int32) : OP (f_X11_word 0 x y z) (f_X12_word 355 x y z) := by
  intro M s g
  have hW := g.rst.W
  unfold f_X11_word f_X11_word_27 f_X12_word f_X12_word_43 f_X12_word_44
  rcases g.st with ⟨c0, h, S, T, E, c, sv, l, lv, hT⟩ | o
  · have hn := lv.1.n63
    have h64 : (2 : Nat) ^ kN h ≤ 2 ^ 63 := Nat.pow_le_pow_right (by decide) lv.1.n63.1
    rcases dC hW lv.1 l.c x y with ⟨⟨a, b, e1, e2, ha, hb, hd⟩, q1⟩ | ⟨nd, q1⟩
    · subst e1; subst e2
      obtain ⟨wl, -⟩ := w_ok lv.1 hd
      rcases dM lv.1 l.mc l.on.2 (nI a) (nI b) with ⟨-, q2⟩ | ⟨q2, -⟩
      · rcases cellM lv.1 l.mc z with ⟨⟨k, hk, e⟩, q3⟩ | ⟨q3, q4⟩
        · subst e
          refine ⟨nI (bt (wd (kG h) (kC h) (kN h - kC h) (dd a b)) k), M, M, ?_, ?_, g.mono (by omega)⟩
          · rw [q1, b_i]
            refine im (one_n0 _) (im (nI_pos (by omega)) ?_)
            dsimp only
            rw [l.cur, b_i, wC_0 hW l.cc.z, b_i, l.cc.n]
            refine ip (nI_lt hk (by omega)) ?_
            rw [b_i, wC_0 hW l.cc.z, b_i, s_dataOf ha hb, b_i]
            dsimp only
            rw [wC lv.1 l.cc hd, b_i]
            dsimp only
            rw [s_bitOf (by omega) (by omega), b_i]
          · rw [q2, b_i]
            refine im (one_n0 _) ?_
            dsimp only
            rw [q3, b_i]
            refine im (one_n0 _) ?_
            dsimp only
            rw [dd_l ha hb, wM lv.1 l.mc hd, b_i]
            dsimp only
            rw [lN_shr (by omega) (by omega), show (1 : Int64) = lN 1 from rfl, lN_and, lN_i]; rfl
        · refine ⟨-1, M, M, ?_, ?_, g.mono (by omega)⟩
          · rw [q1, b_i]
            refine im (one_n0 _) ?_
            dsimp only
            by_cases h1 : z < 0
            · exact ip h1 rfl
            · refine im h1 ?_
              rw [l.cur, b_i, wC_0 hW l.cc.z, b_i, l.cc.n]
              exact im (fun q => by
                obtain ⟨k, hk, e⟩ := nI_of h1
                subst e
                exact nI_ge ((nI_ltI hk (by omega)).mp q) (by omega) (q3.resolve_left h1)) rfl
          · rw [q2, b_i]
            refine im (one_n0 _) ?_
            dsimp only
            rw [q4, b_i]; exact ip rfl rfl
      · exact absurd ⟨a, b, rfl, rfl, ha, hb, hd⟩ q2
    · rcases dM lv.1 l.mc l.on.2 x y with ⟨q2, -⟩ | ⟨-, q2⟩
      · exact absurd q2 nd
      · exact ⟨-1, M, M, by rw [q1, b_i]; exact ip rfl rfl, by rw [q2, b_i]; exact ip rfl rfl, g.mono (by omega)⟩
  · refine ⟨-1, M, M, ?_, ?_, g.mono (by omega)⟩
    · unfold f_X11_isData f_X11_isData_22
      rw [o.1.1, if_pos rfl, b_i]; exact ip rfl rfl
    · unfold f_X12_isData f_X12_isData_44 f_X12_isData_45
      rw [o.1.2, if_pos rfl, zbz0, b_i]; exact ip rfl rfl
theorem op_generator (x : Int32) : OP (f_X11_generator 0 x) (f_X12_generator 355 x) := by
  intro M s g
  have hW := g.rst.W
  unfold f_X11_generator f_X11_generator_17 f_X12_generator f_X12_generator_29 f_X12_generator_30
  rcases g.st with ⟨c0, h, S, T, E, c, sv, l, lv, hT⟩ | o
  · have hn := lv.1.n63
    have hg : kG h < 2 ^ 63 := Nat.lt_of_lt_of_le lv.1.g.1 (Nat.pow_le_pow_right (by decide) hn.2.2)
    obtain ⟨bk, -, ⟨-, -, m41⟩, -⟩ := l.mc
    rw [l.on.1, if_neg (show ¬ (1 : Int32) = 0 by decide)]
    rcases s_isN (M := M) (x := x) (xl := 0) (xh := 62) (n := 62) rfl rfl (by decide) with ⟨⟨k, hk, e⟩, q⟩ | ⟨q, q2⟩
    · subst e
      refine ⟨nI (bt (kG h) k), M, M, ?_, ?_, g.mono (by omega)⟩
      · refine im (nI_pos (by omega)) (ip (show nI k < (63 : Int32) from nI_lt (b := 63) (by omega) (by decide)) ?_)
        rw [l.cur, b_i, wC_0 hW l.cc.z, b_i, l.cc.gn, s_bitOf (by omega) (by omega), b_i]
      · rw [l.on.2, if_neg (show ¬ (1 : Int32) = 0 by decide), q, b_i]
        refine im (one_n0 _) ?_
        dsimp only
        rw [m41, lN_shr hg (by omega), show (1 : Int64) = lN 1 from rfl, lN_and, lN_i]; rfl
    · refine ⟨-1, M, M, ?_, ?_, g.mono (by omega)⟩
      · by_cases h1 : x < 0
        · exact ip h1 rfl
        · refine im h1 (im (fun q3 => ?_) rfl)
          obtain ⟨k, hk, e⟩ := nI_of h1
          subst e
          exact nI_ge ((nI_ltI hk (b := 63) (by decide)).mp q3) (by decide) (q.resolve_left h1)
      · rw [l.on.2, if_neg (show ¬ (1 : Int32) = 0 by decide), q2, b_i]; exact ip rfl rfl
  · exact ⟨-1, M, M, ip o.1.1 rfl, ip o.1.2 rfl, g.mono (by omega)⟩
