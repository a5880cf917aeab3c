/-! calls: erase, flip, undo -/
def OPb (f g : Mem → Option (Int32 × Mem)) : Prop := ∀ M s, s ≤ 1000 → Inv M s → ∃ r M1 M2, f M = some (r, M1) ∧ g M1 = some (r, M2) ∧ Inv M2 (s + 1)
theorem OP.b {f g : Mem → Option (Int32 × Mem)} (h : OP f g) : OPb f g := fun M s _ g => h M s g
theorem m1_n0 : (-1 : Int32) < 0 := by decide
theorem LD.f2 {M M1 : Mem} {c0 : Nat} {h : CH} {S : PSt} {T c : Nat} {E : Nat → Nat → Nat} {sv : Nat → PSt × Nat} (v : CV h) (l : LD M c0 h S T E c sv) (f : FR (fun a _ => a = 2) M M1) : LD M1 c0 h S T E c sv := by
  obtain ⟨a1, a2, a3, a4, a5, a6, a7⟩ := l.c
  have hz : c0 = 335 ∨ c0 = 344 := a2.z
  exact LD.mk' ⟨(f.R _ _).trans a1, a2.fr f (fun a j p q => by unfold Wch at p; omega), (f.I (by omega)).trans a3, a4.fr f (fun a j _ _ => by omega), a5.fr f (fun a j _ _ => by omega), a6.fr f (fun a j p => by omega), a7.fr f (by omega) (fun _ => by omega) (fun _ => by omega)⟩ (l.m.fr v f (fun a j q => by omega))
theorem s10 {M : Mem} (h : some ((1 : Int32), M) = some ((0 : Int32), M)) : False := absurd (congrArg Prod.fst (Option.some.inj h)) (by decide : ¬ (1 : Int32) = 0)
theorem wrN {M M1 : Mem} {s : Nat} {x : Int32} (g : Inv M s) (p2 : f_X12_isThere 355 x M = some (0, M)) (f : FR (fun a _ => a = 2) M M1) : f_X12_isThere 355 x M1 = some (0, M1) := by
  have hW := g.rst.W
  rcases g.st with ⟨c0, h, S, T, E, c, sv, l, lv, hT⟩ | o
  · by_cases hx : ∃ j, j < kQ h ∧ x = nI j ∧ (S.2 j).1 = true
    · obtain ⟨j, q1, q2, q3⟩ := hx
      subst q2
      rw [(wrT hW l lv.1 q1 q3).2] at p2
      exact absurd p2 (fun q => s10 q)
    · exact (wrF (f.W hW) (l.f2 lv.1 f) lv.1 hx).2
  · unfold f_X12_isThere f_X12_isThere_22 f_X12_isThere_23
    rw [mP_o ((f.I (by omega)).trans o.1.2), b_i]
    exact ip rfl (zbz0 _)
theorem op_erase (x : Int32) : OPb (f_X11_erase 0 x) (f_X12_erase 355 x) := by
  intro M s hs g
  have hW := g.rst.W
  unfold f_X11_erase f_X12_erase f_X12_erase_21
  rcases wcase g x with ⟨p1, p2⟩ | ⟨c0, h, S, T, E, c, sv, j, l, lv, hT, e, hj, hw⟩
  · obtain ⟨M1, M2, a1, a2, a3, a4⟩ := refB g (k := 3) (by decide)
    have p2' := wrN g p2 a4
    refine ⟨0, M1, M2, ?_, ?_, a3.mono (by omega)⟩
    · rw [p1, b_i]
      refine ip rfl ?_
      dsimp only
      rw [show (3 : Int32) = nI 3 from rfl, a1, b_i]
    · rw [p2', b_i]
      refine ip rfl ?_
      dsimp only
      rw [show (3 : Int32) = nI 3 from rfl, a2, b_i, if_pos m1_n0, zbz0]
  · subst e
    have hq := lv.1.q
    obtain ⟨p1, p2⟩ := wrT hW l lv.1 hj hw
    obtain ⟨M1, a1, a2, a3, hc⟩ := c_save hW lv.1 (by omega) lv.2.2.1 l.c
    have sv' := lv.save hc
    obtain ⟨r0, hr0⟩ : ∃ r0 : RW, r0 = R0 := ⟨_, rfl⟩
    have f2 : FR (fun a _ => a = 13 + 2 + 2 * j ∨ a = 13 + 2 + 2 * j + 1) M1 (zsL (zsI (zsI M1 (13 + 2 + 2 * j) 2 0) (13 + 2 + 2 * j) 3 0) (13 + 2 + 2 * j) 4 0) := FR.sL (FR.sI (FR.sI (FR.rf _ M1) (by omega)) (by omega)) (by omega)
    have lc := a3.up (by omega : j < 6) f2 (r := R0) (by
      refine ⟨?_, ?_, fun q => absurd q (by decide)⟩
      · rw [zI_sL, zI_sn _ _ (by omega), zI_sn _ _ (by omega)]; exact (a3.2.2.2.1.2 j (by omega)).1
      · rw [zI_sL, zI_sn _ _ (by omega), zI_se]; rfl)
    have f12 : FR WcA M (zsL (zsI (zsI M1 (13 + 2 + 2 * j) 2 0) (13 + 2 + 2 * j) 3 0) (13 + 2 + 2 * j) 4 0) := a2.tr (f2.mo (fun a j q => Wro (by omega) q))
    have lm1 : LM (zsL (zsI (zsI M1 (13 + 2 + 2 * j) 2 0) (13 + 2 + 2 * j) 3 0) (13 + 2 + 2 * j) 4 0) h S T E c sv := l.m.fr lv.1 f12 (fun a j q => by unfold WcA at q; omega)
    have hW1 := f12.W hW
    have g1 := g.rst.cA f12
    obtain ⟨M3, b1, b2, b3⟩ := m_keeps hW1 lv.1 lm1
    have f4 : FR (fun a j' => ((a = 382 ∨ a = 383 ∨ a = 384) ∧ j' = j) ∨ (a = 385 ∧ 64 * j ≤ j' ∧ j' < 64 * j + 64)) M3 (zsI M3 382 j 0) := (FR.rf _ M3).sI (by omega)
    have lm := b3.up lv.1 (by omega : j < 6) f4 (r := R0) ⟨by rw [Nat.mul_zero, Nat.zero_add, zI_se]; rfl, fun q => absurd q (by decide)⟩
    refine ⟨1, zsL (zsI (zsI M1 (13 + 2 + 2 * j) 2 0) (13 + 2 + 2 * j) 3 0) (13 + 2 + 2 * j) 4 0, zsI M3 382 j 0, ?_, ?_, actI g.rst l lv f12 lc (b2.tr (f4.mo (fun a j q => WroM (by omega) q))) lm ⟨lv.1, lv.2.1.up hj (fun q => absurd q (by decide)), sv'.1, sv'.2.2⟩ (by omega)⟩
    · rw [p1, b_i]
      refine im (one_n0 _) ?_
      dsimp only
      rw [w0_8 hW, b_i, w0_5 hW, b_i, a1, b_i, crow (a2.W hW) (by omega)]
      unfold f_X8_clear
      rw [b_i, b_i, b_i, b_i]
    · have p2' : f_X12_isThere 355 (nI j) (zsL (zsI (zsI M1 (13 + 2 + 2 * j) 2 0) (13 + 2 + 2 * j) 3 0) (13 + 2 + 2 * j) 4 0) = some (1, zsL (zsI (zsI M1 (13 + 2 + 2 * j) 2 0) (13 + 2 + 2 * j) 3 0) (13 + 2 + 2 * j) 4 0) := by
        obtain ⟨bk, ⟨c1, c2, -⟩, -, c5, -⟩ := lm1.1
        have hm1 := (lm1.2.2.1.2 j (by omega)).1
        rw [Nat.mul_zero, Nat.zero_add] at hm1
        unfold f_X12_isThere f_X12_isThere_23
        rw [mP_t hW1 c1 c2 lm1.2.1 c5 hq hj, b_i]
        refine im (one_n0 _) ?_
        dsimp only
        rw [w355_56 hW1, b_i, zl_at 132 rfl (by omega) (by decide), b_i, hm1, hw, if_pos b01_t, zbz1]
      rw [p2', b_i]
      refine im (one_n0 _) ?_
      dsimp only
      rw [b1, b_i, w355_56 (b2.W hW1), b_i, zl_at 132 rfl (by omega) (by decide), b_i, b_i]
theorem cellC {M : Mem} {c0 : Nat} {h : CH} {S : PSt} {T c : Nat} {E : Nat → Nat → Nat} {sv : Nat → PSt × Nat} (hW : WRc M) (v : CV h) (l : LC M c0 h S T E c sv) (y : Int32) : ((∃ k, k < kN h ∧ y = nI k) ∧ f_X11_isCell 0 y M = some (1, M)) ∨ ((y < 0 ∨ nI (kN h) ≤ y) ∧ f_X11_isCell 0 y M = some (0, M)) := by
  have hn := v.n63
  unfold f_X11_isCell f_X11_isCell_29 f_X11_isCell_30
  rw [l.2.2.1, if_neg (show ¬ (1 : Int32) = 0 by decide)]
  rcases pk_ix y (n := kN h) (by omega) with q | q | ⟨k, hk, e⟩
  · exact Or.inr ⟨Or.inl q, by rw [if_pos q, zbz0]⟩
  · refine Or.inr ⟨Or.inr q, ?_⟩
    by_cases h1 : y < 0
    · rw [if_pos h1, zbz0]
    · rw [if_neg h1, l.1, b_i, wC_0 hW l.2.1.z, b_i, l.2.1.n, if_pos q, zbz0]
  · subst e
    exact Or.inl ⟨⟨k, hk, rfl⟩, by rw [if_neg (nI_pos (by omega)), l.1, b_i, wC_0 hW l.2.1.z, b_i, l.2.1.n, if_neg (nI_ge hk (by omega)), zbz1]⟩
theorem cellM {M : Mem} {h : CH} (v : CV h) (hC : MC M h) (y : Int32) : ((∃ k, k < kN h ∧ y = nI k) ∧ f_X12_is y 0 (zI M 355 39 - 1) M = some (1, M)) ∨ ((y < 0 ∨ nI (kN h) ≤ y) ∧ f_X12_is y 0 (zI M 355 39 - 1) M = some (0, M)) := by
  have hn := v.n63
  obtain ⟨bk, ⟨-, -, hMD⟩, -⟩ := hC
  rw [hMD.2.2.1, show (1 : Int32) = nI 1 from rfl, pk_sub (by omega)]
  rcases s_isN (M := M) (x := y) (xl := 0) (xh := nI (kN h - 1)) (n := kN h - 1) rfl rfl (by omega) with ⟨⟨k, hk, e⟩, q⟩ | ⟨q, q2⟩
  · exact Or.inl ⟨⟨k, by omega, e⟩, q⟩
  · exact Or.inr ⟨by rwa [show kN h - 1 + 1 = kN h by omega] at q, q2⟩
theorem cell_no {y : Int32} {n k : Nat} (hn : n < 2 ^ 30) (hk : k < n) (e : y = nI k) (q : y < 0 ∨ nI n ≤ y) : False := by
  subst e
  rcases q with q | q
  · exact nI_pos (by omega) q
  · exact nI_ge hk (by omega) q
theorem thereT {M : Mem} {h : CH} {S : PSt} {T c : Nat} {E : Nat → Nat → Nat} {sv : Nat → PSt × Nat} (hW : WRc M) (v : CV h) (l : LM M h S T E c sv) {j : Nat} (hj : j < kQ h) (hw : (S.2 j).1 = true) : f_X12_isThere 355 (nI j) M = some (1, M) := by
  have hq := v.q
  obtain ⟨bk, ⟨c1, c2, -⟩, -, c5, -⟩ := l.1
  have hm1 := (l.2.2.1.2 j (by omega)).1
  rw [Nat.mul_zero, Nat.zero_add] at hm1
  unfold f_X12_isThere f_X12_isThere_23
  rw [mP_t hW c1 c2 l.2.1 c5 hq hj, b_i]
  refine im (one_n0 _) ?_
  dsimp only
  rw [w355_56 hW, b_i, zl_at 132 rfl (by omega) (by decide), b_i, hm1, hw, if_pos b01_t, zbz1]
theorem MR.tn {M : Mem} {i n k : Nat} {r : RW} (hn : n ≤ 63) (hk : k < n) (hr : MR M 0 i n r) (hw : r.1 = true) : MR (zsI M 385 (64 * (6 * 0 + i) + k) (nI (99 - r.2.2.2 k))) 0 i n (tnR r k) := by
  have f1a : FR (fun a j' => a = 385 ∧ j' = 64 * (6 * 0 + i) + k) M (zsI M 385 (64 * (6 * 0 + i) + k) (nI (99 - r.2.2.2 k))) := (FR.rf _ M).sI ⟨rfl, rfl⟩
  refine ⟨(f1a.I (by omega)).trans hr.1, fun _ => ⟨(f1a.I (by omega)).trans (hr.2 hw).1, (f1a.L (by omega)).trans (hr.2 hw).2.1, fun q hq => ?_⟩⟩
  show _ = nI (if q = k then 99 - r.2.2.2 k else r.2.2.2 q)
  by_cases eq : q = k
  · subst eq; rw [zI_se, if_pos rfl]
  · rw [zI_sn _ _ (by omega), if_neg eq]; exact (hr.2 hw).2.2 q hq
theorem op_flip (x y : Int32) : OPb (f_X11_flip 0 x y) (f_X12_flip 355 x y) := by
  intro M s hs g
  have hW := g.rst.W
  have ref : ∀ (p1 : Option.bind (f_X11_isWritten 0 x M) (fun z2 => (if z2.1 = 0 then f_X11_flip_16 0 x y z2.2 else Option.bind (f_X11_isCell 0 y z2.2) fun z3 => (if z3.1 = 0 then f_X11_flip_16 0 x y z3.2 else Option.bind (zrf z3.2 0 8) fun q4 => Option.bind (zrf z3.2 0 5) fun q5 => Option.bind (f_X7_save q4 q5 z3.2) fun M6 => Option.bind (zrf M6 0 5) fun q7 => Option.bind (zrf M6 q7 0) fun q8 => Option.bind (zld q8 x) fun k9 => Option.bind (zrf M6 q8 k9) fun q10 => Option.bind (f_X8_turn q10 y M6) fun M11 => some (1, M11)))) = f_X11_flip_16 0 x y M) (p2 : ∀ M1, FR (fun a _ => a = 2) M M1 → f_X12_flip 355 x y M1 = f_X12_flip_22 355 x y M1), ∃ r M1 M2, f_X11_flip 0 x y M = some (r, M1) ∧ f_X12_flip 355 x y M1 = some (r, M2) ∧ Inv M2 (s + 1) := by
    intro p1 p2
    obtain ⟨M1, M2, a1, a2, a3, a4⟩ := refB g (k := 3) (by decide)
    refine ⟨0, M1, M2, ?_, ?_, a3.mono (by omega)⟩
    · refine p1.trans ?_
      unfold f_X11_flip_16
      rw [show (3 : Int32) = nI 3 from rfl, a1, b_i]
    · rw [p2 M1 a4]
      unfold f_X12_flip_22 f_X12_flip_35
      rw [show (3 : Int32) = nI 3 from rfl, a2, b_i, if_pos m1_n0, zbz0]
  rcases wcase g x with ⟨p1, p2⟩ | ⟨c0, h, S, T, E, c, sv, j, l, lv, hT, e, hj, hw⟩
  · refine ref ?_ (fun M1 f => ?_)
    · rw [p1, b_i]; exact ip rfl rfl
    · unfold f_X12_flip
      rw [wrN g p2 f, b_i]; exact ip rfl rfl
  · subst e
    have hq := lv.1.q
    have hn := lv.1.n63
    obtain ⟨p1, p2⟩ := wrT hW l lv.1 hj hw
    rcases cellC hW lv.1 l.c y with ⟨⟨k, hk, e⟩, q1⟩ | ⟨q, q1⟩
    · subst e
      obtain ⟨M1, a1, a2, a3, hc⟩ := c_save hW lv.1 (by omega) lv.2.2.1 l.c
      have sv' := lv.save hc
      have hV := lv.2.1.1 j (by omega)
      have hlev := (hV hw).2.2.2
      have hr1 := a3.2.2.2.1.2 j (by omega)
      obtain ⟨M2, t1, t2, t3⟩ := s_rturn (a2.W hW) (pq_r (Or.inl rfl : PQ 13) (by omega : j < 6)) hk hn.1 hr1 hw (hlev k hk)
      have t3 : CR M2 (13 + 2 + 2 * j) (kN h) j (tnR (S.2 j) k) := t3.ext hw rfl rfl (fun _ _ => rfl)
      have f2 : FR (fun a _ => a = 13 + 2 + 2 * j ∨ a = 13 + 2 + 2 * j + 1) M1 M2 := t2.mo (fun a j q => Or.inr q)
      have lc := a3.up (by omega : j < 6) f2 t3
      have f12 : FR WcA M M2 := a2.tr (f2.mo (fun a j q => Wro (by omega) q))
      have lm1 : LM M2 h S T E c sv := l.m.fr lv.1 f12 (fun a j q => by unfold WcA at q; omega)
      have hW2 := f12.W hW
      obtain ⟨M3, b1, b2, b3⟩ := m_keeps hW2 lv.1 lm1
      have hm3 := b3.2.2.1.2 j (by omega)
      have hW3 := b2.W hW2
      have f4 : FR (fun a j' => ((a = 382 ∨ a = 383 ∨ a = 384) ∧ j' = j) ∨ (a = 385 ∧ 64 * j ≤ j' ∧ j' < 64 * j + 64)) M3 (zsI M3 385 (64 * (6 * 0 + j) + k) (nI (99 - (S.2 j).2.2.2 k))) := (FR.rf _ M3).sI (by omega)
      have lm := b3.up lv.1 (by omega : j < 6) f4 (hm3.tn hn.1 hk hw)
      refine ⟨1, M2, zsI M3 385 (64 * (6 * 0 + j) + k) (nI (99 - (S.2 j).2.2.2 k)), ?_, ?_, actI g.rst l lv f12 lc (b2.tr (f4.mo (fun a j q => WroM (by omega) q))) lm ⟨lv.1, lv.2.1.up hj hV.tn, sv'.1, sv'.2.2⟩ (by omega)⟩
      · unfold f_X11_flip
        rw [p1, b_i]
        refine im (one_n0 _) ?_
        dsimp only
        rw [q1, b_i]
        refine im (one_n0 _) ?_
        dsimp only
        rw [w0_8 hW, b_i, w0_5 hW, b_i, a1, b_i, crow (a2.W hW) (by omega), t1, b_i]
      · unfold f_X12_flip
        rw [thereT hW2 lv.1 lm1 hj hw, b_i]
        refine im (one_n0 _) ?_
        dsimp only
        rcases cellM lv.1 lm1.1 (nI k) with ⟨-, q⟩ | ⟨q, -⟩
        · rw [q, b_i]
          refine im (one_n0 _) ?_
          dsimp only
          rw [b1, b_i, show f_X12_levelAt 355 0 (nI j) (nI k) M3 = some (nI ((S.2 j).2.2.2 k), M3) from (s_levelAt (v := 0) hW3 (by decide) (by omega) (by omega)).trans (by rw [(hm3.2 hw).2.2 k hk]), b_i]
          dsimp only
          rw [show (99 : Int32) = nI 99 from rfl, pk_sub (hlev k hk), show f_X12_puts 355 0 (nI j) (nI k) (nI (99 - (S.2 j).2.2.2 k)) M3 = some (zsI M3 385 (64 * (6 * 0 + j) + k) (nI (99 - (S.2 j).2.2.2 k))) from s_puts (v := 0) hW3 (by decide) (by omega) (by omega), b_i]
        · exact absurd q (fun q => cell_no (by omega) hk rfl q)
    · refine ref ?_ (fun M1 f => ?_)
      · rw [p1, b_i]
        refine im (one_n0 _) ?_
        dsimp only
        rw [q1, b_i]
        exact ip rfl rfl
      · unfold f_X12_flip
        have l1 := l.f2 lv.1 f
        rw [thereT (f.W hW) lv.1 l1.m hj hw, b_i]
        refine im (one_n0 _) ?_
        dsimp only
        rcases cellM lv.1 l1.mc y with ⟨⟨k, hk, e⟩, -⟩ | ⟨-, q2⟩
        · exact absurd q (fun q => cell_no (by omega) hk e q)
        · rw [q2, b_i]; exact ip rfl rfl
theorem op_undo : OPb (f_X11_undo 0) (f_X12_undo 355) := by
  intro M s hs g
  have hW := g.rst.W
  have ref : zI M 43 3 = 0 → zI M 355 63 = 0 → ∃ r M1 M2, f_X11_undo 0 M = some (r, M1) ∧ f_X12_undo 355 M1 = some (r, M2) ∧ Inv M2 (s + 1) := by
    intro h1 h2
    obtain ⟨M1, M2, a1, a2, a3, a4⟩ := refB g (k := 4) (by decide)
    refine ⟨0, M1, M2, ?_, ?_, a3.mono (by omega)⟩
    · unfold f_X11_undo
      rw [w0_8 hW, b_i]
      refine ip h1 ?_
      rw [show (4 : Int32) = nI 4 from rfl, a1, b_i]
    · unfold f_X12_undo f_X12_undo_20
      refine ip ((a4.I (by omega)).trans h2) ?_
      rw [show (4 : Int32) = nI 4 from rfl, a2, b_i, if_pos m1_n0, zbz0]
  rcases g.st with ⟨c0, h, S, T, E, c, sv, l, lv, hT⟩ | o
  · cases c with
    | zero =>
      obtain ⟨l1, -, -, h3, -⟩ := l.hc
      obtain ⟨u, -, -, h4, -⟩ := l.hm
      exact ref h3 h4
    | succ c =>
      obtain ⟨M1, a1, a2, a3, a4⟩ := s_restore hW lv.1.n63.1 lv.2.2.1 l.hc
      have f1 : FR WcA M M1 := a2.mo (fun a j q => by unfold Wre at q; unfold WcA; omega)
      have hz : c0 = 335 ∨ c0 = 344 := l.cc.z
      have lc : LC M1 c0 h (sv c).1 (sv c).2 E c sv := ⟨(a2.R _ _).trans l.cur, l.cc.fr a2 (fun a j p q => by unfold Wch at p; unfold Wre at q; omega), (a2.I (by unfold Wre; omega)).trans l.on.1, a4, a3, l.dk.fr a2 (fun a j p => by unfold Wre; omega), l.kc.fr a2 (by unfold Wre; omega) (fun _ => by unfold Wre; omega) (fun _ => by unfold Wre; omega)⟩
      have lm1 : LM M1 h S T E (c + 1) sv := l.m.fr lv.1 f1 (fun a j q => by unfold WcA at q; omega)
      obtain ⟨M2, b1, b2, b3, b4⟩ := s_mundo (f1.W hW) lv.1.n63.1 lm1.2.2.2
      have hle := (lv.2.2.1 c (by omega)).1
      have lm : LM M2 h (sv c).1 (sv c).2 E c sv := ⟨lm1.1.fr b2 (fun a j p q => by unfold Wmc at p; unfold Wlk Wla Wke at q; omega), (b2.I (by unfold Wlk Wla Wke; omega)).trans lm1.2.1, b4, b3⟩
      refine ⟨1, M1, M2, ?_, b1, actI g.rst l lv f1 lc (b2.mo (fun a j q => by rcases q with q | q; exact Or.inr (Or.inr (Or.inr (Or.inl ⟨q.1, Or.inr q.2⟩))); exact Or.inr (Or.inl q))) lm ⟨lv.1, lv.2.2.2 c (by omega), lv.2.2.1.pop, fun k hk => lv.2.2.2 k (by omega)⟩ (by omega)⟩
      unfold f_X11_undo
      obtain ⟨l1, -, h20, h3, -⟩ := l.hc
      rw [w0_8 hW, b_i]
      refine im (by rw [h3]; exact nI_ne0 (by omega) (by omega)) ?_
      rw [b_i, w0_5 hW, b_i, a1, b_i]
  · exact ref o.2.1.1 o.2.2.1.1
