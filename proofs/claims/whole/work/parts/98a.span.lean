/-! calls: span -/
def dU (P : Nat → Bool) : Nat → Option Nat
  | 0 => none
  | n + 1 => if P (n + 1) then some (n + 1) else dU P n
def fU (P : Nat → Bool) : Nat → Nat → Option Nat
  | 0, _ => none
  | n + 1, i => if P i then some i else fU P n (i + 1)
def tRd (h : CH) (r : RW) (a : Nat) : Bool := decide (pop (kN h) (rdW h r a ^^^ r.2.2.1) ≤ kT h)
theorem s_trueRd {M : Mem} {c i w : Nat} {h : CH} {r : RW} (v : CV h) (hr : CR M c (kN h) i r) (hwr : r.1 = true) (hV : RV (kM h) (kP h) (kT h) (kN h) r) (hw : w < 2 ^ kN h) : f_X8_isTrueRead c (lN w) (nI (kT h)) M = some (b01 (decide (pop (kN h) (w ^^^ r.2.2.1) ≤ kT h)), M) := by
  have hn := v.n63
  have ht := v.t
  obtain ⟨v1, v2, v3, v4⟩ := hV hwr
  have hx : w ^^^ r.2.2.1 < 2 ^ kN h := Nat.xor_lt_two_pow hw v2
  have h64 : (2 : Nat) ^ kN h ≤ 2 ^ 63 := Nat.pow_le_pow_right (by decide) hn.1
  have hpl := pop_le' (kN h) (w ^^^ r.2.2.1)
  unfold f_X8_isTrueRead f_X8_isTrueRead_18
  rw [(hr.2.2 hwr).2.1, lN_xor, s_bitCount (by omega), pop64 (by omega) hx, b_i]
  dsimp only
  by_cases hd : pop (kN h) (w ^^^ r.2.2.1) ≤ kT h
  · rw [if_neg (nI_nlt hd (by omega)), zbz1, decide_eq_true hd]; rfl
  · rw [if_pos (nI_lt (by omega) (by omega)), zbz0, decide_eq_false hd]; rfl
theorem op_span (x y : Int32) : OP (f_X11_span 0 x y) (f_X12_span 355 x y) := by
  intro M s g
  have hW := g.rst.W
  unfold f_X11_span f_X11_span_17 f_X12_span f_X12_span_17
  rcases wcase g x with ⟨p1, p2⟩ | ⟨c0, h, S, T, E, c, sv, j, l, lv, hT, e, hj, hw⟩
  · exact ⟨-1, M, M, by rw [p1, b_i]; exact ip rfl rfl, by rw [p2, b_i]; exact ip rfl rfl, g.mono (by omega)⟩
  · subst e
    have hq := lv.1.q
    have hn := lv.1.n63
    have h64 : (2 : Nat) ^ kN h ≤ 2 ^ 63 := Nat.pow_le_pow_right (by decide) hn.1
    obtain ⟨p1, p2⟩ := wrT hW l lv.1 hj hw
    have hr := l.cp.2 j (by omega)
    have hV := lv.2.1.1 j (by omega)
    obtain ⟨v1, v2, v3, v4⟩ := hV hw
    rcases s_isN (M := M) (x := y) (xl := 0) (xh := 1) (n := 1) rfl rfl (by decide) with ⟨⟨k, hk, e⟩, q⟩ | ⟨q, q2⟩
    · subst e
      have step : ∀ a f r3' x5, a < 100 → f_X11_span_44 0 (nI j) (nI k) (f + 1) (13 + 2 + 2 * j) (c0 + 1) x5 (nI a) M = (if tRd h (S.2 j) a = false then f_X11_span_44 0 (nI j) (nI k) f (13 + 2 + 2 * j) (c0 + 1) x5 (nI (a + 1)) M else (if nI k = 0 then some (nI a, M) else f_X11_span_44 0 (nI j) (nI k) f (13 + 2 + 2 * j) (c0 + 1) (nI a) (nI (a + 1)) M)) ∨ r3' = 1 := by
        intro a f r3' x5 ha
        left
        rw [f_X11_span_44, if_neg (show ¬ (100 : Int32) ≤ nI a from nI_ge (b := 100) ha (by decide)), l.cc.n, s_readBy hW (pq_r (Or.inl rfl : PQ 13) (by omega)) hn.1, b_i]
        dsimp only
        have : rdB (fun k => !decide (zI M (13 + 2 + 2 * j + 1) k < nI a)) (kN h) = rdW h (S.2 j) a := by
          unfold rdW
          exact rdB_ext (kN h) (fun k hk => by rw [(hr.2.2 hw).2.2 k hk])
        rw [this, l.cc.t, s_trueRd lv.1 hr hw hV (rdW_lt _ _ _), b_i]
        dsimp only
        unfold f_X11_span_85 tRd
        rw [nI_1]
        cases hb : decide (pop (kN h) (rdW h (S.2 j) a ^^^ (S.2 j).2.2.1) ≤ kT h) with
        | false => rw [if_pos b01_f, if_pos rfl]
        | true => rw [if_neg b01_n0, if_neg (show ¬ (true = false) by decide)]
      have cls : f_X11_span_44 0 (nI j) (nI k) 1000000 (13 + 2 + 2 * j) (c0 + 1) (-1) (nI 1) M = some (nxI (if k = 0 then fU (tRd h (S.2 j)) 99 1 else dU (tRd h (S.2 j)) 99), M) := by
        by_cases k0 : k = 0
        · subst k0
          rw [if_pos rfl]
          have lp : ∀ d i f, i + d = 100 → f_X11_span_44 0 (nI j) (nI 0) (d + 1 + f) (13 + 2 + 2 * j) (c0 + 1) (-1) (nI i) M = some (nxI (fU (tRd h (S.2 j)) d i), M) := by
            intro d
            induction d with
            | zero =>
              intro i f e
              have : i = 100 := by omega
              subst this
              rw [show 0 + 1 + f = f + 1 by omega, f_X11_span_44]
              exact ip (nI_le (a := 100) (Nat.le_refl _) (by decide)) rfl
            | succ d ih =>
              intro i f e
              rcases step i (d + 1 + f) 0 (-1) (by omega) with q | q
              · rw [show d + 1 + 1 + f = (d + 1 + f) + 1 by omega, q]
                show _ = some (nxI (if tRd h (S.2 j) i then some i else fU (tRd h (S.2 j)) d (i + 1)), M)
                cases tRd h (S.2 j) i with
                | false => rw [if_pos rfl, if_neg (by decide)]; exact ih (i + 1) f (by omega)
                | true => rw [if_neg (show ¬ (true = false) by decide), if_pos (show nI 0 = 0 from rfl), if_pos rfl]; rfl
              · exact absurd q (by decide)
          exact lp 99 1 999900 (by decide)
        · rw [if_neg k0]
          have hk1 : k = 1 := by omega
          subst hk1
          have lp : ∀ d i f, i + d = 99 → f_X11_span_44 0 (nI j) (nI 1) (d + 1 + f) (13 + 2 + 2 * j) (c0 + 1) (nxI (dU (tRd h (S.2 j)) i)) (nI (i + 1)) M = some (nxI (dU (tRd h (S.2 j)) 99), M) := by
            intro d
            induction d with
            | zero =>
              intro i f e
              have : i = 99 := by omega
              subst this
              rw [show 0 + 1 + f = f + 1 by omega, f_X11_span_44]
              exact ip (nI_le (a := 100) (Nat.le_refl _) (by decide)) rfl
            | succ d ih =>
              intro i f e
              rcases step (i + 1) (d + 1 + f) 0 (nxI (dU (tRd h (S.2 j)) i)) (by omega) with q | q
              · rw [show d + 1 + 1 + f = (d + 1 + f) + 1 by omega, q]
                have ih := ih (i + 1) f (by omega)
                have hd : dU (tRd h (S.2 j)) (i + 1) = if tRd h (S.2 j) (i + 1) then some (i + 1) else dU (tRd h (S.2 j)) i := rfl
                cases hb : tRd h (S.2 j) (i + 1) with
                | false => rw [hb, if_neg (by decide)] at hd; rw [hd] at ih; rw [if_pos rfl]; exact ih
                | true => rw [hb, if_pos rfl] at hd; rw [hd] at ih; rw [if_neg (show ¬ (true = false) by decide), if_neg (show ¬ nI 1 = 0 by decide)]; exact ih
              · exact absurd q (by decide)
          exact lp 99 0 999900 (by decide)
      -- the model
      have mstep : ∀ a M0 (k21 : Int32 → Mem → Option (Int32 × Mem)) i, FR Wgm M M0 → ∃ M1, FR Wgm M M1 ∧ f_X12_span_39 k21 355 (nI j) (nI k) (nI i) (nI a) M0 = (if tRd h (S.2 j) a = true then some (nI a, M1) else k21 (nI (i + 1)) M1) := by
        intro a M0 k21 i fr
        have g0 : RST M0 := g.rst.sc (fr.mo (fun a j q => Wsc_gm q))
        have l0 : LD M0 c0 h S T E c sv := l.sc lv.1 (fr.mo (fun a j q => Wsc_gm q)) (l.dk.md (fr.mo (fun a j q => Or.inl q)))
        obtain ⟨M1, b1, b2, b3⟩ := mreads g0.W l0 lv (rdW h (S.2 j) a) (rdW_lt _ _ _)
        have f1 : FR Wgm M M1 := fr.tr (b2.mo (fun a j q => Or.inl q))
        refine ⟨M1, f1, ?_⟩
        unfold f_X12_span_39 f_X12_span_74
        rw [mbits g0.W l0 lv hj hw, b_i]
        dsimp only
        rw [b1, b_i]
        dsimp only
        rw [nI_1]
        have hm := (((l.mp.2 j (by omega)).gm lv.1 f1).2 hw).2.1
        rw [Nat.mul_zero, Nat.zero_add] at hm
        have iff := dec_iff (t := kT h) lv.1.pr lv.1.c.2.2 v2 v3 (rdW_lt h (S.2 j) a)
        have hca := kCa_lt h (rdW h (S.2 j) a)
        have hm53 : zL M1 355 53 = lN (kRs h (rdW h (S.2 j) a)) := b3.1
        unfold tRd
        by_cases hd : pop (kN h) (rdW h (S.2 j) a ^^^ (S.2 j).2.2.1) ≤ kT h
        · obtain ⟨c1, c2⟩ := iff.mpr hd
          have c1 : kCa h (rdW h (S.2 j) a) = 0 := c1
          have c2 : kRs h (rdW h (S.2 j) a) = (S.2 j).2.2.1 := c2
          rw [decide_eq_true hd, if_pos (show nI (kCa h (rdW h (S.2 j) a)) = 0 by rw [c1]; rfl), w355_58 (f1.W hW), b_i, zl_at 132 rfl (by omega) (by decide), b_i, hm53, hm, if_pos rfl]
          exact ip ((lg_cmp_eq _ _).mpr (congrArg lN c2)) rfl
        · rw [decide_eq_false hd, if_neg (show ¬ (false = true) by decide)]
          by_cases h0 : kCa h (rdW h (S.2 j) a) = 0
          · rw [if_pos (show nI (kCa h (rdW h (S.2 j) a)) = 0 by rw [h0]; rfl), w355_58 (f1.W hW), b_i, zl_at 132 rfl (by omega) (by decide), b_i, hm53, hm]
            have hl : kRs h (rdW h (S.2 j) a) < 2 ^ kN h := (dec_ok lv.1.pr (rdW_lt h (S.2 j) _) h0).2.1
            refine im (fun q => hd (iff.mp ⟨h0, ?_⟩)) rfl
            exact (pk_lEQ (a := kRs h (rdW h (S.2 j) a)) (by omega) (by omega)).mp ((lg_cmp_eq _ _).mp q)
          · rw [if_neg (nI_ne0 (by omega) hca)]
      have mdl : ∃ M2, f_X12_span_21 355 (nI j) (nI k) 1000000 (nI 1) M = some (nxI (if k = 0 then fU (tRd h (S.2 j)) 99 1 else dU (tRd h (S.2 j)) 99), M2) ∧ FR Wgm M M2 := by
        by_cases k0 : k = 0
        · subst k0
          rw [if_pos rfl]
          have lp : ∀ d i f M0, i + d = 100 → FR Wgm M M0 → ∃ M2, f_X12_span_21 355 (nI j) (nI 0) (d + 1 + f) (nI i) M0 = some (nxI (fU (tRd h (S.2 j)) d i), M2) ∧ FR Wgm M M2 := by
            intro d
            induction d with
            | zero =>
              intro i f M0 e fr
              have : i = 100 := by omega
              subst this
              refine ⟨M0, ?_, fr⟩
              rw [show 0 + 1 + f = f + 1 by omega, f_X12_span_21]
              exact ip (nI_lt (a := 99) (b := 100) (by decide) (by decide)) rfl
            | succ d ih =>
              intro i f M0 e fr
              obtain ⟨M1, f1, e1⟩ := mstep i M0 (f_X12_span_21 355 (nI j) (nI 0) (d + 1 + f)) i fr
              rw [show d + 1 + 1 + f = (d + 1 + f) + 1 by omega, f_X12_span_21, if_neg (show ¬ (99 : Int32) < nI i from nI_nlt (a := 99) (by omega) (by decide)), if_pos (show nI 0 = 0 from rfl), e1]
              have hd : fU (tRd h (S.2 j)) (d + 1) i = if tRd h (S.2 j) i then some i else fU (tRd h (S.2 j)) d (i + 1) := rfl
              cases hb : tRd h (S.2 j) i with
              | false => rw [hb, if_neg (by decide)] at hd; rw [hd, if_neg (show ¬ (false = true) by decide)]; exact ih (i + 1) f M1 (by omega) f1
              | true => rw [hb, if_pos rfl] at hd; rw [hd, if_pos rfl]; exact ⟨M1, rfl, f1⟩
          exact lp 99 1 999900 M (by decide) (FR.rf _ M)
        · rw [if_neg k0]
          have hk1 : k = 1 := by omega
          subst hk1
          have lp : ∀ d i f M0, i + d = 100 → 1 ≤ i → FR Wgm M M0 → ∃ M2, f_X12_span_21 355 (nI j) (nI 1) (d + 1 + f) (nI i) M0 = some (nxI (dU (tRd h (S.2 j)) d), M2) ∧ FR Wgm M M2 := by
            intro d
            induction d with
            | zero =>
              intro i f M0 e _ fr
              have : i = 100 := by omega
              subst this
              refine ⟨M0, ?_, fr⟩
              rw [show 0 + 1 + f = f + 1 by omega, f_X12_span_21]
              exact ip (nI_lt (a := 99) (b := 100) (by decide) (by decide)) rfl
            | succ d ih =>
              intro i f M0 e h1 fr
              obtain ⟨M1, f1, e1⟩ := mstep (d + 1) M0 (f_X12_span_21 355 (nI j) (nI 1) (d + 1 + f)) i fr
              have ha : (100 : Int32) - nI i = nI (d + 1) := by
                rw [show (100 : Int32) = nI 100 from rfl, pk_sub (by omega)]; congr 1; omega
              rw [show d + 1 + 1 + f = (d + 1 + f) + 1 by omega, f_X12_span_21, if_neg (show ¬ (99 : Int32) < nI i from nI_nlt (a := 99) (by omega) (by decide)), if_neg (show ¬ nI 1 = 0 by decide), ha, e1]
              have hd : dU (tRd h (S.2 j)) (d + 1) = if tRd h (S.2 j) (d + 1) then some (d + 1) else dU (tRd h (S.2 j)) d := rfl
              cases hb : tRd h (S.2 j) (d + 1) with
              | false => rw [hb, if_neg (by decide)] at hd; rw [hd, if_neg (show ¬ (false = true) by decide)]; exact ih (i + 1) f M1 (by omega) (by omega) f1
              | true => rw [hb, if_pos rfl] at hd; rw [hd, if_pos rfl]; exact ⟨M1, rfl, f1⟩
          exact lp 99 1 999900 M (by decide) (by decide) (FR.rf _ M)
      obtain ⟨M2, m1, m2⟩ := mdl
      refine ⟨nxI (if k = 0 then fU (tRd h (S.2 j)) 99 1 else dU (tRd h (S.2 j)) 99), M, M2, ?_, ?_, scM g.rst l lv hT (m2.mo (fun a j q => Or.inl q))⟩
      · rw [p1, b_i]
        refine im (one_n0 _) (im (nI_pos (by omega)) (ip (show nI k ≤ (1 : Int32) from nI_le (b := 1) hk (by decide)) ?_))
        dsimp only
        rw [crow hW (by omega), l.cur, b_i, wC_0 hW l.cc.z, b_i]
        exact cls
      · rw [p2, b_i]
        refine im (one_n0 _) ?_
        dsimp only
        rw [q, b_i]
        exact im (one_n0 _) m1
    · refine ⟨-1, M, M, ?_, ?_, g.mono (by omega)⟩
      · rw [p1, b_i]
        refine im (one_n0 _) ?_
        by_cases h1 : y < 0
        · exact ip h1 rfl
        · refine im h1 (im (fun h2 => ?_) rfl)
          obtain ⟨k, hk, e⟩ := nI_of h1
          subst e
          have := (nI_leI (by decide) hk).mp (q.resolve_left h1)
          have h3 := (nI_leI hk (b := 1) (by decide)).mp h2
          omega
      · rw [p2, b_i]
        refine im (one_n0 _) ?_
        dsimp only
        rw [q2, b_i]
        exact ip rfl rfl
