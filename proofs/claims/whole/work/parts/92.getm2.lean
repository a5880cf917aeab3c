/-! the model gets a page -/
def Wgm (a j : Nat) : Prop := Wrb a j ∨ Wag a j
def RBh (M : Mem) (h : CH) (w : Nat) : Prop := RB M (kM h) (kP h) (kT h) (kN h) w
theorem MC.gm {M M1 : Mem} {h : CH} (g : MC M h) (f : FR Wgm M M1) : MC M1 h := g.fr f (fun b j p q => by unfold Wmc at p; unfold Wgm Wrb Wag at q; omega)
theorem MR.gm {M M1 : Mem} {h : CH} (v : CV h) {vv i : Nat} {r : RW} (g : MR M vv i (kN h) r) (f : FR Wgm M M1) : MR M1 vv i (kN h) r := g.fr v.n63.1 f (by unfold Wgm Wrb Wag; omega) (by unfold Wgm Wrb Wag; omega) (by unfold Wgm Wrb Wag; omega) (fun k _ => by unfold Wgm Wrb Wag; omega)
theorem RB.fr {W : Nat → Nat → Prop} {M M1 : Mem} {m p t n w : Nat} (g : RB M m p t n w) (f : FR W M M1) (hw : ∀ a j, Wrb a j → ¬ W a j) : RB M1 m p t n w := by
  obtain ⟨g1, g2, g3, g4, g5, g6⟩ := g
  exact ⟨(f.L (hw _ _ (by unfold Wrb; omega))).trans g1, fun j q1 q2 => (f.I (hw _ _ (by unfold Wrb; omega))).trans (g2 j q1 q2), fun j q1 => (f.I (hw _ _ (by unfold Wrb; omega))).trans (g3 j q1), (f.I (hw _ _ (by unfold Wrb; omega))).trans g4, (f.I (hw _ _ (by unfold Wrb; omega))).trans g5, fun e => ⟨(f.I (hw _ _ (by unfold Wrb; omega))).trans (g6 e).1, fun i hi => (f.I (hw _ _ (by unfold Wrb; omega))).trans ((g6 e).2 i hi)⟩⟩
def GQ (M M' : Mem) (h : CH) (r : RW) (k a : Nat) : Prop := FR Wgm M M' ∧ zI M' 355 67 = nI k ∧ zI M' 355 68 = nI a ∧ RBh M' h (rdW h r a)
theorem s_bits0 {M : Mem} {vv i : Nat} {h : CH} {r : RW} {x y s : Int32} (hx : x = nI vv) (hy : y = nI i) (hs : s = 0) (hW : WRc M) (v : CV h) (h39 : zI M 355 39 = nI (kN h)) (hv : vv < 22) (hi : i < 6) (hr : MR M vv i (kN h) r) (hwr : r.1 = true) (a : Nat) : f_X12_bitsBy 355 x y (nI a) s M = some (lN (rdW h r a), M) := by
  subst hx; subst hy; subst hs
  rw [s_bitsBy hW hv hi v.n63.1 h39]
  unfold rdW
  rw [rdB_ext (kN h) (fun k hk => by rw [(hr.2 hwr).2.2 k hk, show (0 : Int32) = nI 0 from rfl, nI_add, Nat.add_zero])]
theorem s_gets_l {M : Mem} {vv i : Nat} {h : CH} {r : RW} (hW : WRc M) (v : CV h) (hC : MC M h) (hv : vv < 22) (hi : i < 6) (hr : MR M vv i (kN h) r) (hwr : r.1 = true) (hV : RV (kM h) (kP h) (kT h) (kN h) r) : ∀ e k f M0 a, k + e = 40 → 0 < e → 1 ≤ a → a ≤ 99 → FR Wgm M M0 → zI M0 355 67 = nI k → zI M0 355 68 = nI a → ∃ M', f_X12_gets_17 355 (nI vv) (nI i) (e + 1 + f) 1 M0 = some (nI (kCa h (rdW h r (gl h r e k a).2)), M') ∧ GQ M M' h r (gl h r e k a).1 (gl h r e k a).2 := by
  have hn := v.n63
  have h64 : (2 : Nat) ^ kN h ≤ 2 ^ 63 := Nat.pow_le_pow_right (by decide) hn.1
  intro e
  induction e with
  | zero => intro k f M0 a _ h0; exact absurd h0 (by decide)
  | succ e ih =>
    intro k f M0 a ek _ ha1 ha fr q2 q3
    have hW0 := fr.W hW
    have hC0 := hC.gm fr
    have hrl := rdW_lt h r a
    obtain ⟨bk, ⟨c1, c2, hMD⟩, -⟩ := hC0
    have hr0 := hr.gm v fr
    obtain ⟨M1, a1, a2, a3⟩ := s_readsBits hW0 hMD hrl
    have f1 : FR Wgm M M1 := fr.tr (a2.mo (fun b j h => Or.inl h))
    have f2a : FR (fun b j => b = 355 ∧ j = 67) M1 (zsI M1 355 67 (nI (k + 1))) := (FR.rf _ M1).sI ⟨rfl, rfl⟩
    have f2 : FR Wgm M (zsI M1 355 67 (nI (k + 1))) := f1.tr (f2a.mo (fun b j h => by unfold Wgm Wag; omega))
    have hRB : RBh (zsI M1 355 67 (nI (k + 1))) h (rdW h r a) := a3.fr f2a (fun b j p q => by unfold Wrb at p; omega)
    have w67 : zI (zsI M1 355 67 (nI (k + 1))) 355 67 = nI (k + 1) := zI_se _ _ _ _
    have w68 : zI (zsI M1 355 67 (nI (k + 1))) 355 68 = nI a := (f2a.I (by omega)).trans ((a2.I (by unfold Wrb; omega)).trans q3)
    have e67 : zI M1 355 67 = nI k := (a2.I (by unfold Wrb; omega)).trans q2
    obtain ⟨M3, b1, b2, b3, b4⟩ := s_again (M := zsI M1 355 67 (nI (k + 1))) (x := nI vv) (y := nI i) (z := nI (pop 64 (rdW h r a))) (k := k + 1) (a := a) rfl rfl rfl (f2.W hW) v (hC.gm f2) hv hi (hr.gm v f2) hwr hV (by omega) ha1 ha hRB.2.2.2.2.1 w67 w68
    have f3 : FR Wgm M M3 := f2.tr (b2.mo (fun b j h => Or.inr h))
    rw [show e + 1 + 1 + f = (e + 1 + f) + 1 by omega, f_X12_gets_17, if_neg (show ¬ (1 : Int32) = 0 by decide), q3, s_bits0 rfl rfl rfl hW0 v hMD.2.2.1 hv hi hr0 hwr a, b_i]
    dsimp only
    rw [a1, b_i]
    dsimp only
    rw [e67, nI_1, b_i, s_onesOf (by omega), b_i]
    dsimp only
    rw [b1, b_i]
    dsimp only
    have hRB3 : RBh M3 h (rdW h r a) := hRB.fr b2 (fun b j p q => by unfold Wrb at p; unfold Wag at q; omega)
    cases hst : stopA h r (k + 1) a with
    | none =>
      rw [hst] at b4
      rw [gl_n hst, show e + 1 + f = (e + f) + 1 by omega, f_X12_gets_17, if_pos (show b01 (none : Option Nat).isSome = 0 from rfl)]
      exact ⟨M3, by rw [hRB3.2.2.2.2.1]; rfl, f3, b3, b4, hRB3⟩
    | some a2 =>
      rw [hst] at b4
      have hb := stopA_b v ha hst
      rw [gl_s hst, show b01 (some a2).isSome = 1 from rfl]
      have hk : k + 1 < 40 := by
        unfold stopA at hst
        by_cases c1 : kCa h (rdW h r a) = 0
        · rw [if_pos c1] at hst; cases hst
        · rw [if_neg c1] at hst
          by_cases c2 : 40 ≤ k + 1
          · rw [if_pos c2] at hst; cases hst
          · omega
      exact ih (k + 1) f M3 a2 (by omega) (by omega) hb.1 hb.2 f3 b3 b4
theorem s_gets {M : Mem} {vv i : Nat} {h : CH} {r : RW} {x y : Int32} (hx : x = nI vv) (hy : y = nI i) (hW : WRc M) (v : CV h) (hC : MC M h) (hv : vv < 22) (hi : i < 6) (hr : MR M vv i (kN h) r) (hwr : r.1 = true) (hV : RV (kM h) (kP h) (kT h) (kN h) r) : ∃ M', f_X12_gets 355 x y M = some (nI (kCa h (gW h r)), M') ∧ GQ M M' h r (gR h r).1 (gR h r).2 := by
  subst hx; subst hy
  have hs := v.s
  obtain ⟨bk, -, -, -, ⟨-, -, b6, -⟩, -⟩ := id hC
  have f0 : FR Wgm M (zsI (zsI M 355 68 (nI (kD h))) 355 67 0) := FR.sI (FR.sI (FR.rf _ M) (by unfold Wgm Wag; omega)) (by unfold Wgm Wag; omega)
  have := s_gets_l hW v hC hv hi hr hwr hV 40 0 999959 _ (kD h) rfl (by decide) (by omega) (by omega) f0 (zI_se _ _ _ _) ((zI_sn _ _ (by omega)).trans (zI_se _ _ _ _))
  unfold f_X12_gets
  rw [s_by (x := 6) hW rfl (by decide) b6, b_i]
  dsimp only
  rw [b_i, b_i]
  exact this
theorem s_mtrue {M : Mem} {vv i : Nat} {h : CH} {r : RW} {x y : Int32} (hx : x = nI vv) (hy : y = nI i) (hW : WRc M) (v : CV h) (hC : MC M h) (hv : vv < 22) (hi : i < 6) (hr : MR M vv i (kN h) r) (hwr : r.1 = true) (hV : RV (kM h) (kP h) (kT h) (kN h) r) : ∃ M', f_X12_isTrue 355 x y M = some (b01 (gTr h r), M') ∧ FR Wgm M M' := by
  have hn := v.n63
  have h64 : (2 : Nat) ^ kN h ≤ 2 ^ 63 := Nat.pow_le_pow_right (by decide) hn.1
  obtain ⟨v1, v2, v3, v4⟩ := hV hwr
  obtain ⟨M', a1, a2, a3, a4, a5⟩ := s_gets hx hy hW v hC hv hi hr hwr hV
  subst hx; subst hy
  refine ⟨M', ?_, a2⟩
  unfold f_X12_isTrue f_X12_isTrue_32 f_X12_isTrue_33
  rw [a1, b_i]
  dsimp only
  have hca := kCa_lt h (gW h r)
  unfold gTr
  by_cases h0 : kCa h (gW h r) = 0
  · rw [if_pos (show nI (kCa h (gW h r)) = 0 by rw [h0]; rfl), w355_58 (a2.W hW), b_i, ix_6, zl_at 132 rfl (by omega) (by decide), b_i, ((hr.gm v a2).2 hwr).2.1, a5.1]
    have hl : kRs h (gW h r) < 2 ^ kN h := (dec_ok v.pr (rdW_lt h r _) h0).2.1
    by_cases h1 : kRs h (gW h r) = r.2.2.1
    · rw [decide_eq_true ⟨h0, h1⟩]
      refine ip ((lg_cmp_eq _ _).mpr (congrArg lN h1)) ?_
      rw [zbz1]; rfl
    · rw [decide_eq_false (fun q => h1 q.2)]
      refine im (fun q => h1 ((pk_lEQ (by omega) (by omega)).mp ((lg_cmp_eq _ _).mp q))) ?_
      rw [zbz0]; rfl
  · rw [if_neg (nI_ne0 (by omega) hca), zbz0, decide_eq_false (fun q => h0 q.1)]; rfl
