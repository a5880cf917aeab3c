/-! calls that read a page by a threshold -/
def OP (f g : Mem → Option (Int32 × Mem)) : Prop := ∀ M s, Inv M s → ∃ r M1 M2, f M = some (r, M1) ∧ g M1 = some (r, M2) ∧ Inv M2 (s + 1)
section
variable {M : Mem} {c0 : Nat} {h : CH} {S : PSt} {T c s : Nat} {E : Nat → Nat → Nat} {sv : Nat → PSt × Nat}
theorem DKh.md {M1 : Mem} (g : DKh M h) (f : FR (fun a j => Wgm a j ∨ Wlk 1 a j) M M1) : DKh M1 h := g.fr f (fun a j p q => by
  unfold Wgm Wrb Wag Wlk Wla Wke at q
  omega)
theorem scM {M1 : Mem} (g : RST M) (l : LD M c0 h S T E c sv) (lv : LV h S T c sv) (hT : T ≤ s) (f : FR (fun a j => Wgm a j ∨ Wlk 1 a j) M M1) : Inv M1 (s + 1) := (Inv.sc g l lv hT (f.mo (fun a j q => q.elim Wsc_gm Wsc_lk)) (l.dk.md f)).mono (by omega)
theorem s_fdec (hW : WRc M) (l : LD M c0 h S T E c sv) (lv : LV h S T c sv) {j a : Nat} (hj : j < kQ h) (hw : (S.2 j).1 = true) : ∃ M1, f_X11_decode 0 (nI j) (nI a) M = some M1 ∧ FR Wde M M1 ∧ DC M1 (kM h) (kP h) (kT h) (kN h) (rdW h (S.2 j) a) ∧ zI M1 6 5 = 1 := by
  have hq := lv.1.q
  have hn := lv.1.n63
  have hr := l.cp.2 j (by omega)
  obtain ⟨M1, a1, a2, a3, a4⟩ := s_decode hW l.cc.cd (rdW_lt h (S.2 j) a) l.dk
  refine ⟨M1, ?_, a2, a3, a4⟩
  unfold f_X11_decode
  rw [w0_3 hW, b_i, l.cur, b_i, wC_0 hW l.cc.z, b_i, w0_5 hW, b_i, pq_0 hW (Or.inl rfl : PQ 13), b_i, zl_at 6 (pq_get (Or.inl rfl)).2.1 (by omega) (by decide), b_i, pq_1 hW (Or.inl rfl : PQ 13) (by omega), b_i, b_i, wC_0 hW l.cc.z, b_i, l.cc.n, s_readBy hW (pq_r (Or.inl rfl : PQ 13) (by omega)) hn.1, b_i]
  dsimp only
  have : rdB (fun k => !decide (zI M (13 + 2 + 2 * j + 1) k < nI a)) (kN h) = rdW h (S.2 j) a := by
    unfold rdW
    exact rdB_ext (kN h) (fun k hk => by rw [(hr.2.2 hw).2.2 k hk])
  rw [this, a1, b_i]
/-- after a read is decoded -/
theorem afterD {M1 : Mem} (g : RST M) (l : LD M c0 h S T E c sv) (v : CV h) {w : Nat} (f : FR Wde M M1) (d : DC M1 (kM h) (kP h) (kT h) (kN h) w) (e : zI M1 6 5 = 1) : RST M1 ∧ LD M1 c0 h S T E c sv := by
  have f2 : FR Wsc M M1 := f.mo (fun a j q => Wsc_ge (Or.inr (Or.inl q)))
  exact ⟨g.sc f2, l.sc v f2 (Or.inr ⟨e, w, d⟩)⟩
theorem mbits (hW : WRc M) (l : LD M c0 h S T E c sv) (lv : LV h S T c sv) {j : Nat} (hj : j < kQ h) (hw : (S.2 j).1 = true) (a : Nat) : f_X12_bitsBy 355 0 (nI j) (nI a) 0 M = some (lN (rdW h (S.2 j) a), M) := by
  have hq := lv.1.q
  obtain ⟨bk, ⟨-, -, hMD⟩, -⟩ := l.mc
  exact s_bits0 (vv := 0) rfl rfl rfl hW lv.1 hMD.2.2.1 (by decide) (by omega) (l.mp.2 j (by omega)) hw a
theorem mreads (hW : WRc M) (l : LD M c0 h S T E c sv) (lv : LV h S T c sv) (w : Nat) (hw : w < 2 ^ kN h) : ∃ M2, f_X12_readsBits 355 (lN w) M = some (nI (kCa h w), M2) ∧ FR Wrb M M2 ∧ RBh M2 h w := by
  obtain ⟨bk, ⟨-, -, hMD⟩, -⟩ := l.mc
  exact s_readsBits hW hMD hw
end
theorem op_ones (x y : Int32) : OP (f_X11_ones 0 x y) (f_X12_ones 355 x y) := by
  intro M s g
  unfold f_X11_ones f_X12_ones f_X12_ones_24
  rcases rcase g x y with ⟨p1, p2⟩ | ⟨c0, h, S, T, E, c, sv, j, a, l, lv, hT, e1, hj, hw, e2, ha⟩
  · exact ⟨-1, M, M, by rw [p1, b_i]; exact ip rfl rfl, by rw [p2, b_i]; exact ip rfl rfl, g.mono (by omega)⟩
  · subst e1; subst e2
    have hW := g.rst.W
    have hq := lv.1.q
    have hn := lv.1.n63
    have hr := l.cp.2 j (by omega)
    have hrl := rdW_lt h (S.2 j) a
    have h64 : (2 : Nat) ^ kN h ≤ 2 ^ 63 := Nat.pow_le_pow_right (by decide) hn.1
    obtain ⟨p1, p2⟩ := rdT hW l lv.1 hj hw ha
    refine ⟨nI (pop 64 (rdW h (S.2 j) a)), M, M, ?_, ?_, g.mono (by omega)⟩
    · rw [p1, b_i]
      refine im (one_n0 _) ?_
      dsimp only
      have : rdB (fun k => !decide (zI M (13 + 2 + 2 * j + 1) k < nI a)) (kN h) = rdW h (S.2 j) a := by
        unfold rdW
        exact rdB_ext (kN h) (fun k hk => by rw [(hr.2.2 hw).2.2 k hk])
      rw [w0_5 hW, b_i, pq_0 hW (Or.inl rfl : PQ 13), b_i, zl_at 6 (pq_get (Or.inl rfl)).2.1 (by omega) (by decide), b_i, pq_1 hW (Or.inl rfl : PQ 13) (by omega), b_i, l.cur, b_i, wC_0 hW l.cc.z, b_i, l.cc.n, s_readBy hW (pq_r (Or.inl rfl : PQ 13) (by omega)) hn.1, b_i]
      dsimp only
      rw [this, s_bitCount (by omega), b_i]
    · rw [p2, b_i]
      refine im (one_n0 _) ?_
      dsimp only
      rw [mbits hW l lv hj hw, b_i]
      dsimp only
      rw [s_onesOf (by omega), b_i]
theorem op_why (x y : Int32) : OP (f_X11_why 0 x y) (f_X12_why 355 x y) := by
  intro M s g
  unfold f_X11_why f_X12_why f_X12_why_25
  rcases rcase g x y with ⟨p1, p2⟩ | ⟨c0, h, S, T, E, c, sv, j, a, l, lv, hT, e1, hj, hw, e2, ha⟩
  · exact ⟨-1, M, M, by rw [p1, b_i]; exact ip rfl rfl, by rw [p2, b_i]; exact ip rfl rfl, g.mono (by omega)⟩
  · subst e1; subst e2
    have hW := g.rst.W
    obtain ⟨p1, -⟩ := rdT hW l lv.1 hj hw ha
    obtain ⟨M1, a1, a2, a3, a4⟩ := s_fdec (a := a) hW l lv hj hw
    obtain ⟨g1, l1⟩ := afterD g.rst l lv.1 a2 a3 a4
    obtain ⟨-, p2⟩ := rdT g1.W l1 lv.1 hj hw ha
    obtain ⟨M2, b1, b2, b3⟩ := mreads g1.W l1 lv (rdW h (S.2 j) a) (rdW_lt _ _ _)
    refine ⟨nI (kCa h (rdW h (S.2 j) a)), M1, M2, ?_, ?_, scM g1 l1 lv hT (b2.mo (fun a j q => Or.inl (Or.inl q)))⟩
    · rw [p1, b_i]
      refine im (one_n0 _) ?_
      dsimp only
      rw [a1, b_i, w0_3 (a2.W hW), b_i, a3.2.2.2.2.2.2.1]; rfl
    · rw [p2, b_i]
      refine im (one_n0 _) ?_
      dsimp only
      rw [mbits g1.W l1 lv hj hw, b_i]
      dsimp only
      rw [b1, b_i]
theorem op_syndrome (x y z : Int32) : OP (f_X11_syndrome 0 x y z) (f_X12_syndrome 355 x y z) := by
  intro M s g
  unfold f_X11_syndrome f_X11_syndrome_30 f_X12_syndrome f_X12_syndrome_24
  rcases rcase g x y with ⟨p1, p2⟩ | ⟨c0, h, S, T, E, c, sv, j, a, l, lv, hT, e1, hj, hw, e2, ha⟩
  · exact ⟨-1, M, M, by rw [p1, b_i]; exact ip rfl rfl, by rw [p2, b_i]; exact ip rfl rfl, g.mono (by omega)⟩
  · subst e1; subst e2
    have hW := g.rst.W
    have ht := lv.1.t
    obtain ⟨p1, p2⟩ := rdT hW l lv.1 hj hw ha
    obtain ⟨bk, ⟨-, -, hMD⟩, -⟩ := id l.mc
    by_cases hz : ∃ i, 1 ≤ i ∧ i ≤ 2 * kT h ∧ z = nI i
    · obtain ⟨i, h1, h2, e⟩ := hz
      subst e
      obtain ⟨M1, a1, a2, a3, a4⟩ := s_fdec (a := a) hW l lv hj hw
      obtain ⟨g1, l1⟩ := afterD g.rst l lv.1 a2 a3 a4
      obtain ⟨-, p2⟩ := rdT g1.W l1 lv.1 hj hw ha
      obtain ⟨bk', ⟨-, -, hMD1⟩, -⟩ := id l1.mc
      have hn := lv.1.n63
      have h64 : (2 : Nat) ^ kN h ≤ 2 ^ 63 := Nat.pow_le_pow_right (by decide) hn.1
      have hrl := rdW_lt h (S.2 j) a
      obtain ⟨M2, b1, b2, b3⟩ := s_syndromesOf (w := rdW h (S.2 j) a) hMD1.2.2.2.1 hMD1.2.2.2.2 (by omega) g1.W hMD1.1 hMD1.2.2.1 hMD1.2.1
      refine ⟨nI (sy (kM h) (kP h) (kN h) (rdW h (S.2 j) a) i), M1, M2, ?_, ?_, scM g1 l1 lv hT (b2.mo (fun a j q => Or.inl (Or.inl (Or.inl q))))⟩
      · rw [p1, b_i]
        refine im (one_n0 _) ?_
        refine im (show ¬ nI i < 1 from nI_nlt (b := 1) h1 (by omega)) ?_
        dsimp only
        rw [l.cur, b_i, wC_0 hW l.cc.z, b_i, l.cc.t, show (2 : Int32) = nI 2 from rfl, pk_mul, if_pos (nI_le h2 (by omega)), a1, b_i, w0_3 (a2.W hW), b_i, w6_0 (a2.W hW), b_i, zl_at 11 rfl (by omega) (by decide), b_i, a3.2.2.2.1 i h1 h2]
      · rw [p2, b_i]
        refine im (one_n0 _) ?_
        dsimp only
        rw [s_by (x := 2) g1.W rfl (by decide) hMD1.2.1, b_i]
        dsimp only
        rw [show (2 : Int32) = nI 2 from rfl, pk_mul, s_is (z := (i : Int)) (lo := 1) (hi := ((2 * kT h : Nat) : Int)) (xl := 1) (iI_n i).symm rfl (iI_n _).symm (by unfold sm; omega) bd1.s (by unfold sm; omega), b_i, decide_eq_true (by omega)]
        refine im b01_n0 ?_
        dsimp only
        rw [mbits g1.W l1 lv hj hw, b_i]
        dsimp only
        rw [b1, b_i, w355_45 (b2.W g1.W), b_i, zl_at 12 rfl (by omega) (by decide), b_i, b3 i h1 h2]
    · refine ⟨-1, M, M, ?_, ?_, g.mono (by omega)⟩
      · rw [p1, b_i]
        refine im (one_n0 _) ?_
        dsimp only
        by_cases h1 : z < 1
        · exact ip h1 rfl
        · refine im h1 ?_
          rw [l.cur, b_i, wC_0 hW l.cc.z, b_i, l.cc.t, show (2 : Int32) = nI 2 from rfl, pk_mul]
          refine im (fun h2 => ?_) rfl
          have h0 : ¬ z < 0 := fun q => h1 (Int32.lt_trans q (by decide))
          obtain ⟨k, hk, e⟩ := nI_of h0
          subst e
          have h3 := (nI_leI hk (by omega)).mp h2
          have h4 : 1 ≤ k := by
            rcases Nat.eq_zero_or_pos k with e | e
            · subst e; exact absurd (by decide) h1
            · exact e
          exact hz ⟨k, h4, h3, rfl⟩
      · rw [p2, b_i]
        refine im (one_n0 _) ?_
        dsimp only
        rw [s_by (x := 2) hW rfl (by decide) hMD.2.1, b_i]
        dsimp only
        rw [show (2 : Int32) = nI 2 from rfl, pk_mul]
        unfold f_X12_is f_X12_is_14 f_X12_is_15
        by_cases h1 : z < 1
        · rw [if_pos h1, zbz0, b_i]; exact ip rfl rfl
        · rw [if_neg h1]
          by_cases h2 : nI (2 * kT h) < z
          · rw [if_pos h2, zbz0, b_i]; exact ip rfl rfl
          · exfalso
            have h0 : ¬ z < 0 := fun q => h1 (Int32.lt_trans q (by decide))
            obtain ⟨k, hk, e⟩ := nI_of h0
            subst e
            have h4 : 1 ≤ k := by
              rcases Nat.eq_zero_or_pos k with e | e
              · subst e; exact absurd (by decide) h1
              · exact e
            have h5 : ¬ 2 * kT h < k := fun q => h2 (nI_lt q hk)
            exact hz ⟨k, h4, by omega, rfl⟩
