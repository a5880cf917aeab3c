/-! calls: page, got, span -/
theorem op_page (x y : Int32) : OP (f_X11_page 0 x y) (f_X12_page 355 x y) := by
  intro M s g
  have hW := g.rst.W
  unfold f_X11_page f_X11_page_17 f_X11_page_63 f_X12_page f_X12_page_17 f_X12_page_65
  rcases g.st with ⟨c0, h, S, T, E, c, sv, l, lv, hT⟩ | o
  · by_cases hp : ∃ j, j < kQ h ∧ x = nI j
    · obtain ⟨j, hj, e⟩ := hp
      subst e
      have hq := lv.1.q
      obtain ⟨p1, p2⟩ := pgT hW l lv.1 hj
      have hr := l.cp.2 j (by omega)
      have hm := l.mp.2 j (by omega)
      have hm1 := hm.1
      rw [Nat.mul_zero, Nat.zero_add] at hm1
      rcases s_isN (M := M) (x := y) (xl := 0) (xh := 2) (n := 2) rfl rfl (by decide) with ⟨⟨k, hk, e⟩, q⟩ | ⟨q, q2⟩
      · subst e
        have c1 : ∀ (t e : Option (Int32 × Mem)), (if nI k < 0 then t else e) = e := fun t e => if_neg (nI_pos (by omega))
        have c2 : ∀ (t e : Option (Int32 × Mem)), (if nI k ≤ 2 then t else e) = t := fun t e => if_pos (show nI k ≤ (2 : Int32) from nI_le (b := 2) hk (by decide))
        have hrow : ∀ (K : Nat → Option (Int32 × Mem)), (Option.bind (zrf M 0 5) fun q2 => Option.bind (zrf M q2 0) fun q3 => Option.bind (zld q3 (nI j)) fun k4 => Option.bind (zrf M q3 k4) K) = K (13 + 2 + 2 * j) := fun K => by
          rw [w0_5 hW, b_i, pq_0 hW (Or.inl rfl : PQ 13), b_i, zl_at 6 (pq_get (Or.inl rfl)).2.1 (by omega) (by decide), b_i, pq_1 hW (Or.inl rfl : PQ 13) (by omega), b_i]
        cases hw : (S.2 j).1 with
        | false =>
          refine ⟨0, M, M, ?_, ?_, g.mono (by omega)⟩
          · rw [p1, b_i]
            refine im (one_n0 _) ?_
            dsimp only
            rw [c1, c2, hrow, hr.2.1, hw]
            exact ip b01_f rfl
          · rw [p2, b_i]
            refine im (one_n0 _) ?_
            dsimp only
            rw [q, b_i]
            refine im (one_n0 _) ?_
            dsimp only
            rw [w355_56 hW, b_i, zl_at 132 rfl (by omega) (by decide), b_i, hm1, hw]
            by_cases k0 : nI k = 0
            · rw [if_pos k0]; rfl
            · rw [if_neg k0, b_i, zl_at 132 rfl (by omega) (by decide), b_i, hm1, hw, if_pos b01_f]
        | true =>
          obtain ⟨r1, r2, r3⟩ := hr.2.2 hw
          obtain ⟨m1, m2, m3⟩ := hm.2 hw
          rw [Nat.mul_zero, Nat.zero_add] at m1
          obtain ⟨v1, v2, v3, v4⟩ := lv.2.1.1 j (by omega) hw
          have h64 : (2 : Nat) ^ kN h ≤ 2 ^ 63 := Nat.pow_le_pow_right (by decide) lv.1.n63.1
          have hk3 : k = 0 ∨ k = 1 ∨ k = 2 := by omega
          refine ⟨if k = 0 then 1 else if k = 1 then nI (S.2 j).2.1 else nI (pop 64 (S.2 j).2.2.1), M, M, ?_, ?_, g.mono (by omega)⟩
          · rw [p1, b_i]
            refine im (one_n0 _) ?_
            dsimp only
            rw [c1, c2, hrow, hr.2.1, hw]
            refine im b01_n0 ?_
            rcases hk3 with e | e | e <;> subst e
            · exact ip rfl rfl
            · refine im (by decide) (ip rfl ?_)
              rw [r1]; rfl
            · refine im (by decide) (im (by decide) ?_)
              rw [r2, s_bitCount (by omega), b_i]; rfl
          · rw [p2, b_i]
            refine im (one_n0 _) ?_
            dsimp only
            rw [q, b_i]
            refine im (one_n0 _) ?_
            dsimp only
            rw [w355_56 hW, b_i, zl_at 132 rfl (by omega) (by decide), b_i, hm1, hw]
            rcases hk3 with e | e | e <;> subst e
            · exact ip rfl rfl
            · refine im (by decide) ?_
              rw [b_i, zl_at 132 rfl (by omega) (by decide), b_i, hm1, hw]
              refine im b01_n0 (ip rfl ?_)
              rw [w355_57 hW, b_i, zl_at 132 rfl (by omega) (by decide), b_i, m1]; rfl
            · refine im (by decide) ?_
              rw [b_i, zl_at 132 rfl (by omega) (by decide), b_i, hm1, hw]
              refine im b01_n0 (im (by decide) ?_)
              rw [s_wanted (v := 0) (x := 0) rfl rfl hW (by decide) (by omega) hm hw (by omega), b_i]; rfl
      · refine ⟨-1, M, M, ?_, ?_, g.mono (by omega)⟩
        · rw [p1, b_i]
          refine im (one_n0 _) ?_
          dsimp only
          by_cases h1 : y < 0
          · exact ip h1 rfl
          · refine im h1 (im (fun h2 => ?_) rfl)
            obtain ⟨k, hk, e⟩ := nI_of h1
            subst e
            have := (nI_leI (by decide) hk).mp (q.resolve_left h1)
            have h3 := (nI_leI hk (b := 2) (by decide)).mp h2
            omega
        · rw [p2, b_i]
          refine im (one_n0 _) ?_
          dsimp only
          rw [q2, b_i]
          exact ip rfl rfl
    · obtain ⟨p1, p2⟩ := pgF hW l (nin (by have := lv.1.q; omega) hp)
      exact ⟨-1, M, M, by rw [p1, b_i]; exact ip rfl rfl, by rw [p2, b_i]; exact ip rfl rfl, g.mono (by omega)⟩
  · exact ⟨-1, M, M, by rw [isP_o o.1.1, b_i]; exact ip rfl rfl, by rw [mP_o o.1.2, b_i]; exact ip rfl rfl, g.mono (by omega)⟩
theorem le_n {y : Int32} {n : Nat} (hn : n < 2 ^ 31) : (∃ k, k ≤ n ∧ y = nI k) ∨ y < 0 ∨ (¬ y < 0 ∧ ¬ y ≤ nI n) := by
  by_cases h1 : y < 0
  · exact Or.inr (Or.inl h1)
  · obtain ⟨k, hk, e⟩ := nI_of h1
    subst e
    by_cases h2 : k ≤ n
    · exact Or.inl ⟨k, h2, rfl⟩
    · exact Or.inr (Or.inr ⟨h1, nI_ge (by omega) hk⟩)
section
variable {M : Mem} {c0 : Nat} {h : CH} {S : PSt} {T c s : Nat} {E : Nat → Nat → Nat} {sv : Nat → PSt × Nat}
/-- what a written page is got as: both -/
theorem cget (g : RST M) (l : LD M c0 h S T E c sv) (lv : LV h S T c sv) {j : Nat} (hj : j < kQ h) (hw : (S.2 j).1 = true) : ∃ M1, f_X3_get 12 c0 (13 + 2 + 2 * j) M = some M1 ∧ GP M M1 h (S.2 j) (gR h (S.2 j)).1 (gR h (S.2 j)).2 ∧ RST M1 ∧ LD M1 c0 h S T E c sv := by
  have hq := lv.1.q
  obtain ⟨M1, a1, a2⟩ := s_get g.W lv.1 l.cc (pq_r (Or.inl rfl : PQ 13) (by omega : j < 6)) (l.cp.2 j (by omega)) hw (lv.2.1.1 j (by omega)) l.dk
  have f2 : FR Wsc M M1 := a2.1.mo (fun a j q => Wsc_ge q)
  exact ⟨M1, a1, a2, g.sc f2, l.sc lv.1 f2 a2.2.1⟩
theorem mget (g : RST M) (l : LD M c0 h S T E c sv) (lv : LV h S T c sv) {j : Nat} (hj : j < kQ h) (hw : (S.2 j).1 = true) : ∃ M1, f_X12_gets 355 0 (nI j) M = some (nI (kCa h (gW h (S.2 j))), M1) ∧ GQ M M1 h (S.2 j) (gR h (S.2 j)).1 (gR h (S.2 j)).2 := by
  have hq := lv.1.q
  exact s_gets (vv := 0) rfl rfl g.W lv.1 l.mc (by decide) (by omega) (l.mp.2 j (by omega)) hw (lv.2.1.1 j (by omega))
theorem crow (hW : WRc M) {j : Nat} (hj : j < 6) {α : Type} (K : Nat → Option α) : (Option.bind (zrf M 0 5) fun q2 => Option.bind (zrf M q2 0) fun q3 => Option.bind (zld q3 (nI j)) fun k4 => Option.bind (zrf M q3 k4) K) = K (13 + 2 + 2 * j) := by
  rw [w0_5 hW, b_i, pq_0 hW (Or.inl rfl : PQ 13), b_i, zl_at 6 (pq_get (Or.inl rfl)).2.1 (by omega) (by decide), b_i, pq_1 hW (Or.inl rfl : PQ 13) (by omega), b_i]
end
theorem op_got (x y : Int32) : OP (f_X11_got 0 x y) (f_X12_got 355 x y) := by
  intro M s g
  have hW := g.rst.W
  unfold f_X11_got f_X11_got_18 f_X12_got
  rcases wcase g x with ⟨p1, p2⟩ | ⟨c0, h, S, T, E, c, sv, j, l, lv, hT, e, hj, hw⟩
  · exact ⟨-1, M, M, by rw [p1, b_i]; exact ip rfl rfl, by rw [p2, b_i]; exact ip rfl rfl, g.mono (by omega)⟩
  · subst e
    have hq := lv.1.q
    obtain ⟨p1, p2⟩ := wrT hW l lv.1 hj hw
    have h64 : (2 : Nat) ^ kN h ≤ 2 ^ 63 := Nat.pow_le_pow_right (by decide) lv.1.n63.1
    have hn := lv.1.n63
    by_cases hy : ∃ k, k ≤ 6 ∧ y = nI k
    · obtain ⟨k, hk, e⟩ := hy
      subst e
      obtain ⟨M1, a1, a2, g1, l1⟩ := cget g.rst l lv hj hw
      obtain ⟨-, p2⟩ := wrT g1.W l1 lv.1 hj hw
      obtain ⟨M2, b1, b2⟩ := mget g1 l1 lv hj hw
      have hfin : Inv M2 (s + 1) := scM g1 l1 lv hT (b2.1.mo (fun a j q => Or.inl q))
      have hW1 := g1.W
      obtain ⟨a2f, -, q2, q3, q4, q5, q7⟩ := a2
      obtain ⟨b2f, m67, m68, mRB⟩ := b2
      have hca := kCa_lt h (gW h (S.2 j))
      have hcl : ∀ (K : Nat → Option (Int32 × Mem)), (Option.bind (zrf M 0 5) fun q2 => Option.bind (zrf M q2 0) fun q3 => Option.bind (zld q3 (nI j)) fun k4 => Option.bind (zrf M q3 k4) K) = K (13 + 2 + 2 * j) := fun K => crow hW (by omega) K
      have hcur1 : zrf M1 0 11 = some c0 := l1.cur
      have q4 : zI M1 12 4 = nI (kCa h (gW h (S.2 j))) := q4
      have q5 : kCa h (gW h (S.2 j)) = 0 → zI M1 12 5 = nI (kLe h (gW h (S.2 j))) ∧ zL M1 12 6 = lN (kRs h (gW h (S.2 j))) := q5
      have q7 : zI M1 12 7 = b01 (gTr h (S.2 j)) := q7
      have mca : zI M2 355 50 = nI (kCa h (gW h (S.2 j))) := mRB.2.2.2.2.1
      have m53 : zL M2 355 53 = lN (kRs h (gW h (S.2 j))) := mRB.1
      have m38 : zI M2 355 38 = nI (kC h) := by
        obtain ⟨bk, -, ⟨e1, -, -⟩, -⟩ := (l1.mc.gm b2f)
        exact e1
      have m384 : zL M2 384 j = lN (S.2 j).2.2.1 := by
        have := ((l1.mp.2 j (by omega)).gm lv.1 b2f)
        have := (this.2 hw).2.1
        rwa [Nat.mul_zero, Nat.zero_add] at this
      have c9 : zI M1 (c0 + 1) 9 = nI (kC h) := l1.cc.c
      obtain ⟨v1, v2, v3, v4⟩ := lv.2.1.1 j (by omega) hw
      -- the answer
      let D := kRs h (gW h (S.2 j)) >>> kC h
      let lost : Bool := decide (¬ kCa h (gW h (S.2 j)) = 0)
      refine ⟨if k = 0 then (if kCa h (gW h (S.2 j)) = 0 then nI (kLe h (gW h (S.2 j))) else -1) else if k = 1 then nI (gR h (S.2 j)).1 else if k = 2 then nI (gR h (S.2 j)).2 else if k = 3 then b01 (gTr h (S.2 j)) else if k = 4 then nI (kCa h (gW h (S.2 j))) else if k = 5 then (if kCa h (gW h (S.2 j)) = 0 then nI ((kRs h (gW h (S.2 j)) >>> kC h) &&& 1073741823) else -1) else (if kCa h (gW h (S.2 j)) = 0 then nI ((kRs h (gW h (S.2 j)) >>> kC h) >>> 30) else -1), M1, M2, ?_, ?_, hfin⟩
      · rw [p1, b_i]
        refine im (one_n0 _) (im (nI_pos (by omega)) (ip (show nI k ≤ (6 : Int32) from nI_le (b := 6) hk (by decide)) ?_))
        dsimp only
        rw [hcl, w0_4 hW, b_i, l.cur, b_i, a1, b_i, w0_4 hW1, b_i, q4]
        have body : ∀ s0 : Int32, (s0 = 0 ↔ kCa h (gW h (S.2 j)) = 0) → f_X11_got_57 0 (nI j) (nI k) s0 M1 = some (if k = 0 then (if kCa h (gW h (S.2 j)) = 0 then nI (kLe h (gW h (S.2 j))) else -1) else if k = 1 then nI (gR h (S.2 j)).1 else if k = 2 then nI (gR h (S.2 j)).2 else if k = 3 then b01 (gTr h (S.2 j)) else if k = 4 then nI (kCa h (gW h (S.2 j))) else if k = 5 then (if kCa h (gW h (S.2 j)) = 0 then nI ((kRs h (gW h (S.2 j)) >>> kC h) &&& 1073741823) else -1) else (if kCa h (gW h (S.2 j)) = 0 then nI ((kRs h (gW h (S.2 j)) >>> kC h) >>> 30) else -1), M1) := by
          intro s0 hs0
          unfold f_X11_got_57 f_X11_got_136 f_X11_got_168 f_X11_got_193 f_X11_got_209
          rw [w0_4 hW1, b_i, hcur1, b_i, wC_0 hW1 l1.cc.z, b_i]
          have hk7 : k = 0 ∨ k = 1 ∨ k = 2 ∨ k = 3 ∨ k = 4 ∨ k = 5 ∨ k = 6 := by omega
          rcases hk7 with e | e | e | e | e | e | e <;> subst e
          · refine ip rfl ?_
            by_cases h0 : kCa h (gW h (S.2 j)) = 0
            · rw [if_pos (hs0.mpr h0), b_i, (q5 h0).1, if_pos rfl, if_pos h0]
            · rw [if_neg (fun q => h0 (hs0.mp q)), if_pos rfl, if_neg h0]
          · refine im (by decide) (ip rfl ?_)
            rw [b_i, q2]; rfl
          · refine im (by decide) (im (by decide) (ip rfl ?_))
            rw [b_i, q3]; rfl
          · refine im (by decide) (im (by decide) (im (by decide) (ip rfl ?_)))
            rw [b_i, q7]
            cases gTr h (S.2 j) with
            | false => exact ip b01_f rfl
            | true => exact im b01_n0 rfl
          · refine im (by decide) (im (by decide) (im (by decide) (im (by decide) (ip rfl ?_))))
            rw [b_i, q4]; rfl
          · refine im (by decide) (im (by decide) (im (by decide) (im (by decide) (im (by decide) (ip rfl ?_)))))
            by_cases h0 : kCa h (gW h (S.2 j)) = 0
            · have hl : kRs h (gW h (S.2 j)) < 2 ^ kN h := (dec_ok lv.1.pr (rdW_lt h (S.2 j) _) h0).2.1
              rw [if_pos (hs0.mpr h0), (q5 h0).2, c9, lN_ush (by omega) (by omega), show (1073741823 : Int64) = lN 1073741823 from rfl, lN_and, lN_i, h0]; rfl
            · rw [if_neg (fun q => h0 (hs0.mp q))]
              show _ = some (if kCa h (gW h (S.2 j)) = 0 then nI ((kRs h (gW h (S.2 j)) >>> kC h) &&& 1073741823) else -1, M1)
              rw [if_neg h0]
          · refine im (by decide) (im (by decide) (im (by decide) (im (by decide) (im (by decide) (im (by decide) ?_)))))
            show _ = some (if kCa h (gW h (S.2 j)) = 0 then nI ((kRs h (gW h (S.2 j)) >>> kC h) >>> 30) else -1, M1)
            by_cases h0 : kCa h (gW h (S.2 j)) = 0
            · have hl : kRs h (gW h (S.2 j)) < 2 ^ kN h := (dec_ok lv.1.pr (rdW_lt h (S.2 j) _) h0).2.1
              have hD : kRs h (gW h (S.2 j)) >>> kC h < 2 ^ 64 := by rw [Nat.shiftRight_eq_div_pow]; exact Nat.lt_of_le_of_lt (Nat.div_le_self _ _) (by omega)
              rw [if_pos (hs0.mpr h0), if_pos h0, (q5 h0).2, c9, lN_ush (by omega) (by omega), show (30 : Int32) = nI 30 from rfl, lN_ush hD (by decide), lN_i]
            · rw [if_neg (fun q => h0 (hs0.mp q)), if_neg h0]
        by_cases h0 : kCa h (gW h (S.2 j)) = 0
        · refine ip (by rw [h0]; rfl) (body 0 ⟨fun _ => h0, fun _ => rfl⟩)
        · refine im (nI_ne0 (by omega) hca) (body 1 ⟨fun q => absurd q (by decide), fun q => absurd q h0⟩)
      · rw [p2, b_i]
        refine im (one_n0 _) ?_
        dsimp only
        rw [b1, b_i, b_i]
        dsimp only
        unfold f_X12_got_84 f_X12_got_118 f_X12_got_117 f_X12_got_118 f_X12_got_136 f_X12_got_151
        have hk7 : k = 0 ∨ k = 1 ∨ k = 2 ∨ k = 3 ∨ k = 4 ∨ k = 5 ∨ k = 6 := by omega
        have le0 : kCa h (gW h (S.2 j)) = 0 → nI (kCa h (gW h (S.2 j))) ≤ 0 := fun q => by rw [q]; decide
        have nle0 : ¬ kCa h (gW h (S.2 j)) = 0 → ¬ nI (kCa h (gW h (S.2 j))) ≤ 0 := fun q => nI_nle (by omega) hca
        rcases hk7 with e | e | e | e | e | e | e <;> subst e
        · refine ip rfl ?_
          by_cases h0 : kCa h (gW h (S.2 j)) = 0
          · rw [if_pos (le0 h0), if_pos rfl, if_pos h0, (mRB.2.2.2.2.2 h0).1, show (dRo (kM h) (kP h) (kT h) (kN h) (rdW h (S.2 j) (gR h (S.2 j)).2)).length = kLe h (gW h (S.2 j)) from (dCa_0 h0).2.1]
          · rw [if_neg (nle0 h0), if_pos rfl, if_neg h0]
        · refine im (by decide) (ip rfl ?_)
          rw [m67]; rfl
        · refine im (by decide) (im (by decide) (ip rfl ?_))
          rw [m68]; rfl
        · refine im (by decide) (im (by decide) (im (by decide) (ip rfl ?_)))
          show _ = some (b01 (gTr h (S.2 j)), M2)
          unfold gTr
          by_cases h0 : kCa h (gW h (S.2 j)) = 0
          · have hl : kRs h (gW h (S.2 j)) < 2 ^ kN h := (dec_ok lv.1.pr (rdW_lt h (S.2 j) _) h0).2.1
            refine ip (by rw [h0]; rfl) ?_
            rw [w355_58 (b2f.W hW1), b_i, zl_at 132 rfl (by omega) (by decide), b_i, m53, m384]
            by_cases h1 : kRs h (gW h (S.2 j)) = (S.2 j).2.2.1
            · rw [decide_eq_true ⟨h0, h1⟩]
              exact ip ((lg_cmp_eq _ _).mpr (congrArg lN h1)) rfl
            · rw [decide_eq_false (fun q => h1 q.2)]
              exact im (fun q => h1 ((pk_lEQ (by omega) (by omega)).mp ((lg_cmp_eq _ _).mp q))) rfl
          · rw [decide_eq_false (fun q => h0 q.1)]
            exact im (nI_ne0 (by omega) hca) rfl
        · refine im (by decide) (im (by decide) (im (by decide) (im (by decide) (ip rfl ?_))))
          rfl
        · refine im (by decide) (im (by decide) (im (by decide) (im (by decide) (im (by decide) (ip rfl ?_)))))
          show _ = some (if kCa h (gW h (S.2 j)) = 0 then nI ((kRs h (gW h (S.2 j)) >>> kC h) &&& 1073741823) else -1, M2)
          by_cases h0 : kCa h (gW h (S.2 j)) = 0
          · have hl : kRs h (gW h (S.2 j)) < 2 ^ kN h := (dec_ok lv.1.pr (rdW_lt h (S.2 j) _) h0).2.1
            rw [if_pos (le0 h0), if_pos h0, m53, m38, lN_shr (by omega) (by omega), show (1073741823 : Int64) = lN 1073741823 from rfl, lN_and, lN_i]
          · rw [if_neg (nle0 h0), if_neg h0]
        · refine im (by decide) (im (by decide) (im (by decide) (im (by decide) (im (by decide) (im (by decide) (ip rfl ?_))))))
          show _ = some (if kCa h (gW h (S.2 j)) = 0 then nI ((kRs h (gW h (S.2 j)) >>> kC h) >>> 30) else -1, M2)
          by_cases h0 : kCa h (gW h (S.2 j)) = 0
          · have hl : kRs h (gW h (S.2 j)) < 2 ^ kN h := (dec_ok lv.1.pr (rdW_lt h (S.2 j) _) h0).2.1
            have hD : kRs h (gW h (S.2 j)) >>> kC h < 2 ^ 63 := by rw [Nat.shiftRight_eq_div_pow]; exact Nat.lt_of_le_of_lt (Nat.div_le_self _ _) (by omega)
            rw [if_pos (le0 h0), if_pos h0, m53, m38, lN_shr (by omega) (by omega), show (30 : Int32) = nI 30 from rfl, lN_shr hD (by decide), lN_i]
          · rw [if_neg (nle0 h0), if_neg h0]
    · obtain ⟨M2, b1, b2⟩ := mget g.rst l lv hj hw
      have hfin : Inv M2 (s + 1) := scM g.rst l lv hT (b2.1.mo (fun a j q => Or.inl q))
      refine ⟨-1, M, M2, ?_, ?_, hfin⟩
      · rw [p1, b_i]
        refine im (one_n0 _) ?_
        rcases le_n (y := y) (n := 6) (by decide) with q | q | ⟨q1, q2⟩
        · exact absurd q hy
        · exact ip q rfl
        · exact im q1 (im q2 rfl)
      · rw [p2, b_i]
        refine im (one_n0 _) ?_
        dsimp only
        rw [b1, b_i, b_i]
        dsimp only
        have no : ∀ k, k ≤ 6 → ¬ y = nI k := fun k hk e => hy ⟨k, hk, e⟩
        exact im (no 0 (by decide)) (im (no 1 (by decide)) (im (no 2 (by decide)) (im (no 3 (by decide)) (im (no 4 (by decide)) (im (no 5 (by decide)) (im (no 6 (by decide)) rfl))))))
