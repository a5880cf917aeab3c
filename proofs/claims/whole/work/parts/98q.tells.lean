/-! calls: tells -/
def tl (m : Nat → Nat) : Nat → Nat × Nat
  | 0 => (0, 20)
  | t + 1 => if m t < (tl m t).2 then (t, m t) else tl m t
theorem tl_le (m : Nat → Nat) : ∀ t, (tl m t).1 ≤ t ∧ (tl m t).2 ≤ 20 := by
  intro t; induction t with
  | zero => exact ⟨Nat.le_refl _, Nat.le_refl _⟩
  | succ t ih =>
    show (if m t < (tl m t).2 then (t, m t) else tl m t).1 ≤ t + 1 ∧ (if m t < (tl m t).2 then (t, m t) else tl m t).2 ≤ 20
    by_cases q : m t < (tl m t).2
    · rw [if_pos q]; exact ⟨by show t ≤ t + 1; omega, by show m t ≤ 20; omega⟩
    · rw [if_neg q]; exact ⟨by omega, ih.2⟩
def mst (A : Nat → Nat) (l : List Nat) (t : Nat) : Nat := (cst (ky A l t) l.length).2
theorem s_ftell {M : Mem} {A : Nat → Nat} {l : List Nat} (hW : WRc M) (hl : l.length ≤ 19) (hs : ∀ k, k < l.length → lg l k < 19) (h6 : zI M 327 6 = nI l.length) (h3 : ∀ k, k < l.length → zI M 330 k = nI (lg l k) - 9) (hA : ∀ i, i < 119 → zI M 331 i = nI (A i) ∧ A i ≤ 63) : ∃ M', f_X9_findTelling 327 M = some M' ∧ FR (fun a j => a = 332 ∨ (a = 327 ∧ (j = 7 ∨ j = 8))) M M' ∧ zI M' 327 7 = nI (tl (mst A l) 101).1 ∧ zI M' 327 8 = nI (tl (mst A l) 101).2 := by
  have lp : ∀ e k f M0, k + e = 101 → FR (fun a j => a = 332 ∨ (a = 327 ∧ (j = 7 ∨ j = 8))) M M0 → zI M0 327 7 = nI (tl (mst A l) k).1 → zI M0 327 8 = nI (tl (mst A l) k).2 → ∃ M', f_X9_findTelling_13 327 (e + 1 + f) (nI k) M0 = some M' ∧ FR (fun a j => a = 332 ∨ (a = 327 ∧ (j = 7 ∨ j = 8))) M M' ∧ zI M' 327 7 = nI (tl (mst A l) 101).1 ∧ zI M' 327 8 = nI (tl (mst A l) 101).2 := by
    intro e
    induction e with
    | zero =>
      intro k f M0 ek fr h7 h8
      have : k = 101 := by omega
      subst this
      exact ⟨M0, by rw [show 0 + 1 + f = f + 1 by omega, f_X9_findTelling_13, if_pos (by decide)], fr, h7, h8⟩
    | succ e ih =>
      intro k f M0 ek fr h7 h8
      have ht := tl_le (mst A l) k
      have hc : mst A l k ≤ l.length := (cst_le (ky A l k) l.length).2
      obtain ⟨M1, a1, a2⟩ := s_mostLeft (M := M0) (A := A) (l := l) (t := k) (fr.W hW) (by omega) hl hs ((fr.I (by omega)).trans h6) (fun q hq => (fr.I (by omega)).trans (h3 q hq)) (fun i hi => ⟨(fr.I (by omega)).trans (hA i hi).1, (hA i hi).2⟩)
      have fr1 : FR (fun a j => a = 332 ∨ (a = 327 ∧ (j = 7 ∨ j = 8))) M M1 := fr.tr (a2.mo (fun a j q => Or.inl q))
      rw [show e + 1 + 1 + f = (e + 1 + f) + 1 by omega, f_X9_findTelling_13, if_neg (show ¬ (100 : Int32) < nI k from nI_nlt (a := 100) (by omega) (by decide)), a1, b_i]
      unfold f_X9_findTelling_43
      dsimp only
      rw [a2.I (by omega), h8, nI_1, b_i, b_i]
      have hn : tl (mst A l) (k + 1) = if mst A l k < (tl (mst A l) k).2 then (k, mst A l k) else tl (mst A l) k := rfl
      have hm : (cst (ky A l k) l.length).2 = mst A l k := rfl
      rw [hm]
      by_cases q : mst A l k < (tl (mst A l) k).2
      · rw [if_neg (nI_ge q (by omega))]
        rw [if_pos q] at hn
        refine ih (k + 1) f _ (by omega) ((fr1.sI (by omega)).sI (by omega)) ?_ ?_
        · rw [zI_se, hn]
        · rw [zI_sn _ _ (by omega), zI_se, hn]
      · rw [if_pos (nI_le (by omega) (by omega))]
        rw [if_neg q] at hn
        exact ih (k + 1) f M1 (by omega) fr1 (by rw [a2.I (by omega), h7, hn]) (by rw [a2.I (by omega), h8, hn])
  have := lp 101 0 (1000000 - 101 - 1) (zsI (zsI M 327 7 0) 327 8 20) (by decide) (((FR.rf _ M).sI (by omega)).sI (by omega)) ((zI_sn _ _ (by omega)).trans (zI_se _ _ _ _)) (zI_se _ _ _ _)
  rw [show 101 + 1 + (1000000 - 101 - 1) = 1000000 by rfl] at this
  unfold f_X9_findTelling
  rw [b_i, b_i]
  exact this
theorem s_mtell {M : Mem} {L : Nat → Bool} {p n : Nat} {v : Nat → Nat} (hW : WRc M) (hp : p < 6) (hn : n ≤ 63) (h39 : zI M 355 39 = nI n) (hv : ∀ k, k < n → zI M 385 (64 * (6 * 0 + p) + k) = nI (v k) ∧ v k ≤ 99) (hL : ∀ s, s < 19 → zI M 392 s = b01 (L s)) (hl0 : 0 < (fls L 19).length) (y : Int32) : ∃ M', f_X12_tells_36 355 (nI p) y 1000000 (nI (fls L 19).length) (-1) 100000000 0 M = f_X12_tells_80 355 (nI p) y (nI (tl (mst (al n v) (fls L 19)) 101).1) (nI (tl (mst (al n v) (fls L 19)) 101).2) M' ∧ FR (fun a _ => a = 393) M M' := by
  have hlen := fls_len L 19
  have lp : ∀ e k f M0, k + e = 101 → FR (fun a _ => a = 393) M M0 → ∃ M', f_X12_tells_36 355 (nI p) y (e + 1 + f) (nI (fls L 19).length) (nI (tl (mst (al n v) (fls L 19)) k).1) (nI (tl (mst (al n v) (fls L 19)) k).2) (nI k) M0 = f_X12_tells_80 355 (nI p) y (nI (tl (mst (al n v) (fls L 19)) 101).1) (nI (tl (mst (al n v) (fls L 19)) 101).2) M' ∧ FR (fun a _ => a = 393) M M' := by
    intro e
    induction e with
    | zero =>
      intro k f M0 ek fr
      have : k = 101 := by omega
      subst this
      exact ⟨M0, by rw [show 0 + 1 + f = f + 1 by omega, f_X12_tells_36, if_pos (by decide)], fr⟩
    | succ e ih =>
      intro k f M0 ek fr
      have ht := tl_le (mst (al n v) (fls L 19)) k
      have hc : mst (al n v) (fls L 19) k ≤ (fls L 19).length := (cst_le (ky (al n v) (fls L 19) k) (fls L 19).length).2
      obtain ⟨M1, a1, a2⟩ := s_mostBy (M := M0) (L := L) (p := p) (n := n) (t := k) (v := v) (fr.W hW) hp hn (by omega) ((fr.I (by omega)).trans h39) (fun q hq => by rw [fr.I (by omega)]; exact hv q hq) (fun s hs => (fr.I (by omega)).trans (hL s hs))
      have hn' : tl (mst (al n v) (fls L 19)) (k + 1) = if mst (al n v) (fls L 19) k < (tl (mst (al n v) (fls L 19)) k).2 then (k, mst (al n v) (fls L 19) k) else tl (mst (al n v) (fls L 19)) k := rfl
      have hm : (cst (ky (al n v) (fls L 19) k) (fls L 19).length).2 = mst (al n v) (fls L 19) k := rfl
      rw [show e + 1 + 1 + f = (e + 1 + f) + 1 by omega, f_X12_tells_36, if_neg (show ¬ (100 : Int32) < nI k from nI_nlt (a := 100) (by omega) (by decide)), if_neg (nI_nle hl0 (by omega)), a1, b_i]
      unfold f_X12_tells_74
      dsimp only
      rw [hm, nI_1]
      have := ih (k + 1) f M1 (by omega) (fr.tr a2)
      by_cases q : mst (al n v) (fls L 19) k < (tl (mst (al n v) (fls L 19)) k).2
      · rw [if_pos (nI_lt q (by omega))]
        rw [hn', if_pos q] at this
        exact this
      · rw [if_neg (nI_nlt (by omega) (by omega))]
        rw [hn', if_neg q] at this
        exact this
  have hc : mst (al n v) (fls L 19) 0 ≤ (fls L 19).length := (cst_le (ky (al n v) (fls L 19) 0) (fls L 19).length).2
  have hm : (cst (ky (al n v) (fls L 19) 0) (fls L 19).length).2 = mst (al n v) (fls L 19) 0 := rfl
  obtain ⟨M1, a1, a2⟩ := s_mostBy (M := M) (L := L) (p := p) (n := n) (t := 0) (v := v) hW hp hn (by omega) h39 hv hL
  have := lp 100 1 (1000000 - 102) M1 (by decide) a2
  rw [show 100 + 1 + (1000000 - 102) = 999999 by rfl, show tl (mst (al n v) (fls L 19)) 1 = (0, mst (al n v) (fls L 19) 0) from if_pos (by show mst (al n v) (fls L 19) 0 < 20; omega)] at this
  rw [show 1000000 = 999999 + 1 by rfl, f_X12_tells_36, if_neg (by decide), if_neg (nI_nle hl0 (by omega)), show (0 : Int32) = nI 0 from rfl, a1, b_i]
  unfold f_X12_tells_74
  dsimp only
  rw [hm, nI_1, show (100000000 : Int32) = nI 100000000 from rfl, if_pos (nI_lt (by omega) (by decide))]
  exact this
theorem op_tells (x y : Int32) : OP (f_X11_tells 0 x y) (f_X12_tells 355 x y) := by
  intro M s g
  have hW := g.rst.W
  unfold f_X11_tells f_X11_tells_17 f_X12_tells f_X12_tells_17
  rcases wcase g x with ⟨p1, p2⟩ | ⟨c0, h, S, T, E, c, sv, j, l, lv, hT, e, hj, hw⟩
  · exact ⟨-1, M, M, by rw [p1, b_i]; exact ip rfl rfl, by rw [p2, b_i]; exact ip rfl rfl, g.mono (by omega)⟩
  · subst e
    have hq := lv.1.q
    have hn := lv.1.n63
    obtain ⟨p1, p2⟩ := wrT hW l lv.1 hj hw
    rcases s_isN (M := M) (x := y) (xl := 0) (xh := 1) (n := 1) rfl rfl (by decide) with ⟨⟨k, hk, e⟩, q⟩ | ⟨q, q2⟩
    · subst e
      obtain ⟨L, ⟨M1, a1, a2, a3, a4, a5⟩, B⟩ := find2 g.rst l lv hj hw
      have hl := fls_len L 19
      have hm : ∀ M', FR Wfc M M' → LM M' h S T E c sv := fun M' f => l.m.fr lv.1 f (fun a j q => by unfold Wfc at q; omega)
      have hin : ∀ M' : Mem, f_X12_is (nI k) 0 1 M' = some (1, M') := fun M' => by
        rcases s_isN (M := M') (x := nI k) (xl := 0) (xh := 1) (n := 1) rfl rfl (by decide) with ⟨-, q⟩ | ⟨q, -⟩
        · exact q
        · rcases q with q | q
          · exact absurd q (nI_pos (by omega))
          · exact absurd q (nI_ge (by omega) (by decide))
      have cpre : ∀ {α : Type} (K1 K2 : Option α) (K : Mem → Option α), (if ((1 : Int32), M).1 = 0 then K1 else (if nI k < 0 then K1 else (if nI k ≤ 1 then Option.bind (zrf M 0 9) fun q2 => Option.bind (zrf M 0 5) fun q3 => Option.bind (zrf M q3 0) fun q4 => Option.bind (zld q4 (nI j)) fun k5 => Option.bind (zrf M q4 k5) fun q6 => Option.bind (zrf M 0 11) fun q7 => Option.bind (zrf M q7 0) fun q8 => Option.bind (f_X9_find q2 q6 (zI M q8 10) M) K else K2))) = K M1 := fun K1 K2 K => by
        refine im (one_n0 _) (im (nI_pos (by omega)) (ip (show nI k ≤ (1 : Int32) from nI_le (b := 1) hk (by decide)) ?_))
        rw [w0_9 hW, b_i, crow hW (by omega), l.cur, b_i, wC_0 hW l.cc.z, b_i, l.cc.n, a1, b_i]
      by_cases h0 : (fls L 19).length = 0
      · obtain ⟨M2, b1, b2, b3⟩ := B M1 a2
        refine ⟨-1, M1, M2, ?_, ?_, afterF g.rst l lv hT a2 (b2.mo (fun a j q => Or.inl q))⟩
        · rw [p1, b_i]
          refine (cpre _ _ _).trans ?_
          rw [w0_9 (a2.W hW), b_i, a4, h0]
          exact ip rfl rfl
        · rw [thereT (a2.W hW) lv.1 (hm M1 a2) hj hw, b_i]
          refine im (one_n0 _) ?_
          dsimp only
          rw [hin, b_i]
          refine im (one_n0 _) ?_
          dsimp only
          rw [b1, b_i, h0, show 1000000 = 999999 + 1 by rfl, f_X12_tells_36, if_neg (by decide), if_pos (show nI 0 ≤ (0 : Int32) by decide)]
          unfold f_X12_tells_80 f_X12_tells_90 f_X12_tells_97
          exact ip rfl rfl
      · obtain ⟨M2, d1, d2, d3, d4⟩ := s_ftell (M := M1) (A := al (kN h) (S.2 j).2.2.2) (l := fls L 19) (a2.W hW) hl (fls_lt L 19) a4 a5 (fun i hi => ⟨a3 i hi, al_le hn.1 _ i⟩)
        have f2 : FR Wfc M M2 := a2.tr (d2.mo (fun a j q => by unfold Wfc; omega))
        obtain ⟨M3, b1, b2, b3⟩ := B M2 f2
        have f3 : FR (fun a j => Wfc a j ∨ a = 392) M M3 := (f2.mo (fun _ _ q => Or.inl q)).tr (b2.mo (fun _ _ q => Or.inr q))
        have hmm := l.mp.2 j (by omega)
        have hV := lv.2.1.1 j (by omega) hw
        obtain ⟨bk, ⟨-, -, hMD⟩, -⟩ := l.mc
        obtain ⟨M4, e1, e2⟩ := s_mtell (M := M3) (L := L) (p := j) (n := kN h) (v := (S.2 j).2.2.2) (f3.W hW) (by omega) hn.1 ((f3.I (by unfold Wfc; omega)).trans hMD.2.2.1) (fun k hk => ⟨(f3.I (by unfold Wfc; omega)).trans ((hmm.2 hw).2.2 k hk), hV.2.2.2 k hk⟩) b3 (by omega) (nI k)
        have ht := tl_le (mst (al (kN h) (S.2 j).2.2.2) (fls L 19)) 101
        refine ⟨if k = 0 then nI (tl (mst (al (kN h) (S.2 j).2.2.2) (fls L 19)) 101).1 else nI (tl (mst (al (kN h) (S.2 j).2.2.2) (fls L 19)) 101).2, M2, M4, ?_, ?_, afterF g.rst l lv hT f2 ((b2.mo (fun a j q => Or.inl q)).tr (e2.mo (fun a j q => Or.inr q)))⟩
        · rw [p1, b_i]
          refine (cpre _ _ _).trans ?_
          rw [w0_9 (a2.W hW), b_i, a4]
          refine im (nI_ne0 (by omega) (by omega)) ?_
          rw [b_i, d1, b_i, w0_9 (f2.W hW), b_i, b_i, d3, d4]
          unfold f_X11_tells_85
          by_cases k0 : k = 0
          · rw [if_pos k0, k0]; exact ip rfl rfl
          · rw [if_neg k0]; exact im (nI_ne0 (by omega) (by omega)) rfl
        · rw [thereT (f2.W hW) lv.1 (hm M2 f2) hj hw, b_i]
          refine im (one_n0 _) ?_
          dsimp only
          rw [hin, b_i]
          refine im (one_n0 _) ?_
          dsimp only
          rw [b1, b_i, e1]
          unfold f_X12_tells_80 f_X12_tells_90 f_X12_tells_97
          refine im (nI_nm (by omega)) ?_
          by_cases k0 : k = 0
          · rw [if_pos k0, k0]; exact ip rfl rfl
          · rw [if_neg k0]; exact im (nI_ne0 (by omega) (by omega)) rfl
    · refine ⟨-1, M, M, ?_, ?_, g.mono (by omega)⟩
      · rw [p1, b_i]
        refine im (one_n0 _) ?_
        by_cases h1 : y < 0
        · exact ip h1 rfl
        · refine im h1 (im (fun h2 => ?_) rfl)
          obtain ⟨k, hk, e⟩ := nI_of h1
          subst e
          have h3 := (nI_leI (b := 1) hk (by decide)).mp h2
          have h4 := (nI_leI (a := 1 + 1) (by decide) hk).mp (q.resolve_left h1)
          omega
      · rw [p2, b_i]
        refine im (one_n0 _) ?_
        dsimp only
        rw [q2, b_i]
        exact ip rfl rfl
