/-! a day goes by: the model -/
theorem nI_nm {a : Nat} (h : a < 2 ^ 31) : ¬ nI a = -1 := fun e => by
  have h1 := nI_pos h
  rw [e] at h1
  exact h1 (by decide)
theorem s_isTold {M : Mem} {bk w : Nat} {x : Int32} {o : Option (List (Nat × Nat))} (hx : x = nI w) (hW : WRc M) (hbk : bk ≤ 1) (hw : w ≤ 1) (h13 : zI M 355 13 = nI bk) (h : MPR M bk w o) : f_X12_isTold 355 x M = some (b01 o.isSome, M) := by
  subst hx
  unfold f_X12_isTold f_X12_isTold_22
  rw [w355_16 hW, b_i, h13, show (2 : Int32) = nI 2 from rfl, pk_mul, nI_add, zl_at 4 rfl (by omega) (by decide), b_i]
  cases o with
  | none =>
    have h : zI M 359 (2 * bk + w) = -1 := h
    rw [if_pos h, zbz0]; rfl
  | some cs =>
    obtain ⟨a, b, g1, g2, g3, g4, g5⟩ := h
    rw [g1, if_neg (nI_nm (by omega)), zbz1]; rfl
def Wdm (v i a j : Nat) : Prop := a = 388 ∨ a = 389 ∨ (a = 383 ∧ j = 6 * v + i) ∨ (a = 385 ∧ 64 * (6 * v + i) ≤ j ∧ j < 64 * (6 * v + i) + 64)
theorem s_dr158 {M : Mem} {v i a : Nat} {x1 x2 : Int32} (hW : WRc M) (hv : v < 22) (hi : i < 6) (ha : a ≤ 99) (h : zI M 383 (6 * v + i) = nI a) : ∃ M', f_X12_drifts_158 355 x1 x2 (nI (6 * v + i)) M = some M' ∧ FR (fun b j => b = 383 ∧ j = 6 * v + i) M M' ∧ zI M' 383 (6 * v + i) = nI (min (a + 1) 99) := by
  unfold f_X12_drifts_158 f_X12_drifts_179
  rw [w355_57 hW, b_i, zl_at 132 rfl (by omega) (by decide), b_i, h]
  by_cases h99 : a = 99
  · refine ⟨M, ?_, FR.rf _ M, by rw [h]; congr 1; omega⟩
    rw [if_pos (show (99 : Int32) ≤ nI a by rw [h99]; decide)]
  · refine ⟨zsI M 383 (6 * v + i) (nI (a + 1)), ?_, (FR.rf _ M).sI ⟨rfl, rfl⟩, by rw [zI_se]; congr 1; omega⟩
    rw [if_neg (show ¬ (99 : Int32) ≤ nI a from nI_ge (b := 99) (by omega) (by decide)), b_i, zl_at 132 rfl (by omega) (by decide), b_i, b_i, h, nI_1, b_i]
def as6 (M : Mem) (d i k l b a : Int32) : Mem := zsI (zsI (zsI (zsI (zsI (zsI M 389 1 d) 389 2 i) 389 3 k) 389 4 l) 389 5 b) 389 6 a
theorem as6_f (M : Mem) (d i k l b a : Int32) : FR (fun c _ => c = 389) M (as6 M d i k l b a) := by
  unfold as6
  have f1 : FR (fun c _ => c = 389) M (zsI M 389 1 d) := (FR.rf _ M).sI (by omega)
  have f2 := f1.sI (a := 389) (k := 2) (v := i) (by omega)
  have f3 := f2.sI (a := 389) (k := 3) (v := k) (by omega)
  have f4 := f3.sI (a := 389) (k := 4) (v := l) (by omega)
  have f5 := f4.sI (a := 389) (k := 5) (v := b) (by omega)
  exact f5.sI (a := 389) (k := 6) (v := a) (by omega)
theorem as6_v (M : Mem) (d i k l b a : Int32) : zI (as6 M d i k l b a) 389 1 = d ∧ zI (as6 M d i k l b a) 389 2 = i ∧ zI (as6 M d i k l b a) 389 3 = k ∧ zI (as6 M d i k l b a) 389 4 = l ∧ zI (as6 M d i k l b a) 389 5 = b ∧ zI (as6 M d i k l b a) 389 6 = a := by
  unfold as6
  refine ⟨?_, ?_, ?_, ?_, ?_, ?_⟩
  · rw [zI_sn _ _ (by omega), zI_sn _ _ (by omega), zI_sn _ _ (by omega), zI_sn _ _ (by omega), zI_sn _ _ (by omega), zI_se]
  · rw [zI_sn _ _ (by omega), zI_sn _ _ (by omega), zI_sn _ _ (by omega), zI_sn _ _ (by omega), zI_se]
  · rw [zI_sn _ _ (by omega), zI_sn _ _ (by omega), zI_sn _ _ (by omega), zI_se]
  · rw [zI_sn _ _ (by omega), zI_sn _ _ (by omega), zI_se]
  · rw [zI_sn _ _ (by omega), zI_se]
  · rw [zI_se]
theorem s_dr10 {M0 : Mem} {v i k d l w a n f bk : Nat} {cs : List (Nat × Nat)} (hW0 : WRc M0) (hv : v < 22) (hi : i < 6) (hn : n ≤ 63) (hk : k < n) (h39 : zI M0 355 39 = nI n) (c1 : bk ≤ 1) (e13 : zI M0 355 13 = nI bk) (told : MPR M0 bk 0 (some cs)) (hd2 : zI M0 381 v = nI d) (hlk : zI M0 385 (64 * (6 * v + i) + k) = nI l) (hw : w < 2 ^ 63) (g4 : zL M0 384 (6 * v + i) = lN w) (b1 : zI M0 383 (6 * v + i) = nI a) (hl : l ≤ 99) : f_X12_drifts_10 355 (nI v) (nI i) (f + 1) (nI (6 * v + i)) (nI k) M0 = Option.bind (f_X12_reckons 355 0 (as6 M0 (nI d) (nI i) (nI k) (nI l) (nI (bt w k)) (nI a))) fun z35 => (if 0 ≤ lg_cmp (lN l + z35.1) 0 then (if lg_cmp (lN l + z35.1) 99 ≤ 0 then f_X12_drifts_149 (f_X12_drifts_10 355 (nI v) (nI i) f) 355 (nI v) (nI i) (nI (6 * v + i)) (nI k) 355 (nI v) (nI i) (nI k) ((lN l + z35.1).toInt32) z35.2 else f_X12_drifts_149 (f_X12_drifts_10 355 (nI v) (nI i) f) 355 (nI v) (nI i) (nI (6 * v + i)) (nI k) 355 (nI v) (nI i) (nI k) 99 z35.2) else f_X12_drifts_149 (f_X12_drifts_10 355 (nI v) (nI i) f) 355 (nI v) (nI i) (nI (6 * v + i)) (nI k) 355 (nI v) (nI i) (nI k) 0 z35.2) := by
  rw [f_X12_drifts_10, h39, if_neg (nI_ge (by omega) (by omega)), s_isTold (o := some cs) (x := 0) (w := 0) rfl hW0 c1 (by decide) e13 told, b_i]
  refine im b01_n0 ?_
  dsimp only
  rw [w355_66 hW0, b_i, w355_55 hW0, b_i, zl_at 22 rfl hv (by decide), b_i, show zld 389 1 = some 1 from rfl, b_i, hd2, b_i]
  rw [zrf_sI, w355_66 hW0, b_i, show zld 389 2 = some 2 from rfl, b_i, b_i]
  rw [zrf_sI, zrf_sI, w355_66 hW0, b_i, show zld 389 3 = some 3 from rfl, b_i, b_i]
  rw [zrf_sI, zrf_sI, zrf_sI, w355_66 hW0, b_i, s_levelAt (show WRc (zsI (zsI (zsI M0 389 1 (nI d)) 389 2 (nI i)) 389 3 (nI k)) from hW0) hv hi (by omega), b_i]
  dsimp only
  rw [show zld 389 4 = some 4 from rfl, b_i, zI_sn _ _ (by omega), zI_sn _ _ (by omega), zI_sn _ _ (by omega), hlk, b_i]
  rw [zrf_sI, zrf_sI, zrf_sI, zrf_sI, w355_66 hW0, b_i, zrf_sI, zrf_sI, zrf_sI, zrf_sI, w355_58 hW0, b_i, zl_at 132 rfl (by omega) (by decide), b_i, show zld 389 5 = some 5 from rfl, b_i]
  rw [zL_sI, zL_sI, zL_sI, zL_sI, g4, lN_shr hw (by omega), show (1 : Int64) = lN 1 from rfl, lN_and, lN_i, b_i]
  rw [zrf_sI, zrf_sI, zrf_sI, zrf_sI, zrf_sI, w355_66 hW0, b_i, zrf_sI, zrf_sI, zrf_sI, zrf_sI, zrf_sI, w355_57 hW0, b_i, zl_at 132 rfl (by omega) (by decide), b_i, show zld 389 6 = some 6 from rfl, b_i, zI_sn _ _ (by omega), zI_sn _ _ (by omega), zI_sn _ _ (by omega), zI_sn _ _ (by omega), zI_sn _ _ (by omega), b1, b_i]
  rw [show (w >>> k) &&& 1 = bt w k from rfl, show zsI (zsI (zsI (zsI (zsI (zsI M0 389 1 (nI d)) 389 2 (nI i)) 389 3 (nI k)) 389 4 (nI l)) 389 5 (nI (bt w k))) 389 6 (nI a) = as6 M0 (nI d) (nI i) (nI k) (nI l) (nI (bt w k)) (nI a) from rfl]
  rw [s_levelAt ((as6_f M0 _ _ _ _ _ _).W hW0) hv hi (by omega), b_i]
  dsimp only
  rw [(as6_f M0 _ _ _ _ _ _).I (by omega), hlk, nI_i2l (by omega)]
theorem ty_bd {lo hi : Nat} {env : Nat → Nat} (hhi : hi < 30) (henv : ∀ s, lo ≤ s → s ≤ hi → env s ≤ 9999) : ∀ cs st st' vs, tyc lo hi cs st = some st' → VT st vs → VT st' (evs env cs vs) := by
  intro cs
  induction cs with
  | nil => intro st st' vs h hv; cases h; exact hv
  | cons c cs ih2 =>
    intro st st' vs h hv
    unfold tyc at h
    cases h1 : tst lo hi c st with
    | none => rw [h1] at h; cases h
    | some s1 =>
      rw [h1] at h
      by_cases hl : s1.length ≤ 90
      · have h : tyc lo hi cs s1 = some st' := by simpa [hl] using h
        exact ih2 s1 st' _ h (tst_knd hhi henv h1 hv).1
      · exfalso; simp [hl] at h
theorem evp_bd {lo hi : Nat} {env : Nat → Nat} {cs : List (Nat × Nat)} {b : Bool} (hhi : hi < 30) (henv : ∀ s, lo ≤ s → s ≤ hi → env s ≤ 9999) (h : tyc lo hi cs [] = some [b]) : bd (evp env cs) ∧ (b = true → tru (evp env cs)) := by
  obtain ⟨v, r', e, h6, h7, -⟩ := (ty_bd hhi henv cs [] [b] [] h True.intro).cons
  unfold evp
  rw [e]; exact ⟨h6, h7⟩
theorem envD_b {d i k l b a : Nat} (hd : d ≤ 9999) (hi : i ≤ 9999) (hk : k ≤ 9999) (hl : l ≤ 9999) (hb : b ≤ 9999) (ha : a ≤ 9999) (s : Nat) : envD d i k l b a s ≤ 9999 := by
  unfold envD
  repeat' split
  all_goals assumption
theorem s_drifts {M : Mem} {v i d : Nat} {h : CH} {r : RW} {x1 x2 : Int32} (hx1 : x1 = nI v) (hx2 : x2 = nI i) (hW : WRc M) (cv : CV h) (hC : MC M h) (hv : v < 22) (hi : i < 6) (hd : d ≤ 9999) (hd2 : zI M 381 v = nI d) (hr : MR M v i (kN h) r) (hw : r.1 = true) (hV : RV (kM h) (kP h) (kT h) (kN h) r) : ∃ M', f_X12_drifts 355 x1 x2 M = some M' ∧ FR (Wdm v i) M M' ∧ MR M' v i (kN h) (pdR h d i r) := by
  subst hx1; subst hx2
  have hn := cv.n63
  obtain ⟨g1, g2⟩ := hr
  obtain ⟨g3, g4, g5⟩ := g2 hw
  obtain ⟨v1, v2, v3, v4⟩ := hV hw
  have hw63 : r.2.2.1 < 2 ^ 63 := Nat.lt_of_lt_of_le v2 (Nat.pow_le_pow_right (by decide) hn.1)
  have fin : ∀ M0, FR (Wdm v i) M M0 → zI M0 383 (6 * v + i) = nI r.2.1 → (∀ q, q < kN h → zI M0 385 (64 * (6 * v + i) + q) = nI (drL h d i r.2.1 r.2.2.1 q (r.2.2.2 q))) → ∃ M', f_X12_drifts_158 355 (nI v) (nI i) (nI (6 * v + i)) M0 = some M' ∧ FR (Wdm v i) M M' ∧ MR M' v i (kN h) (pdR h d i r) := by
    intro M0 fr b1 b2
    obtain ⟨M', a1, a2, a3⟩ := s_dr158 (x1 := nI v) (x2 := nI i) (fr.W hW) hv hi v1 b1
    refine ⟨M', a1, fr.tr (a2.mo (fun a j h => by unfold Wdm; omega)), ⟨?_, fun _ => ⟨a3, ?_, fun q hq => ?_⟩⟩⟩
    · rw [a2.I (by omega), fr.I (by unfold Wdm; omega)]; exact g1
    · rw [a2.L (by omega), fr.L (by unfold Wdm; omega)]; exact g4
    · rw [a2.I (by omega)]; exact b2 q hq
  have hC0 : ∀ M0, FR (Wdm v i) M M0 → MC M0 h := fun M0 fr => hC.fr fr (fun a j x y => by unfold Wmc at x; unfold Wdm at y; omega)
  unfold f_X12_drifts
  rw [ix_6]
  have hC1 := hC
  obtain ⟨bk, ⟨c1, c2, c3⟩, -, -, -, c7, -⟩ := hC1
  cases hcs : kDr h with
  | none =>
    rw [hcs] at c7
    have hz : ∀ q l, drL h d i r.2.1 r.2.2.1 q l = l := fun q l => by unfold drL; rw [hcs]
    rw [show (1000000 : Nat) = 999999 + 1 from rfl, f_X12_drifts_10, c3.2.2.1, show (0 : Int32) = nI 0 from rfl, if_neg (nI_ge (by omega) (by omega)), s_isTold (o := none) rfl hW c1 (by decide) c2 c7, b_i]
    rw [if_pos (show (b01 (none : Option (List (Nat × Nat))).isSome, M).1 = nI 0 from rfl)]
    exact fin M (FR.rf _ M) g3 (fun q hq => by rw [hz]; exact g5 q hq)
  | some cs =>
    rw [hcs] at c7
    obtain ⟨fa, fb, p1, p2, p3, p4, p5⟩ := c7
    have l : ∀ e k f M0, FR (Wdm v i) M M0 → zI M0 383 (6 * v + i) = nI r.2.1 → k + e = kN h → (∀ q, q < k → zI M0 385 (64 * (6 * v + i) + q) = nI (drL h d i r.2.1 r.2.2.1 q (r.2.2.2 q))) → (∀ q, k ≤ q → q < kN h → zI M0 385 (64 * (6 * v + i) + q) = nI (r.2.2.2 q)) → ∃ M', f_X12_drifts_10 355 (nI v) (nI i) (e + 1 + f) (nI (6 * v + i)) (nI k) M0 = some M' ∧ FR (Wdm v i) M M' ∧ MR M' v i (kN h) (pdR h d i r) := by
      intro e
      induction e with
      | zero =>
        intro k f M0 fr b1 ek hl hg
        have e2 : k = kN h := by omega
        subst e2
        rw [show 0 + 1 + f = f + 1 by omega, f_X12_drifts_10, fr.I (by unfold Wdm; omega), c3.2.2.1, if_pos (nI_le (Nat.le_refl _) (by omega))]
        exact fin M0 fr b1 hl
      | succ e ih =>
        intro k f M0 fr b1 ek hl hg
        have hW0 := fr.W hW
        have hl9 := v4 k (by omega)
        have hbt := bt_le r.2.2.1 k
        have hlk : zI M0 385 (64 * (6 * v + i) + k) = nI (r.2.2.2 k) := hg k (Nat.le_refl _) (by omega)
        have e13 : zI M0 355 13 = nI bk := (fr.I (by unfold Wdm; omega)).trans c2
        have told : MPR M0 bk 0 (some cs) := MPR.fr (M := M) ⟨fa, fb, p1, p2, p3, p4, p5⟩ fr (fun a j x y => by unfold Wmc at x; unfold Wdm at y; omega)
        have f1 := as6_f M0 (nI d) (nI i) (nI k) (nI (r.2.2.2 k)) (nI (bt r.2.2.1 k)) (nI r.2.1)
        have av := as6_v M0 (nI d) (nI i) (nI k) (nI (r.2.2.2 k)) (nI (bt r.2.2.1 k)) (nI r.2.1)
        have hev := envD_b (d := d) (i := i) (k := k) (l := r.2.2.2 k) (b := bt r.2.2.1 k) (a := r.2.1) hd (by omega) (by omega) (by omega) (by omega) (by omega)
        have step := s_dr10 (M0 := M0) (f := e + 1 + f) hW0 hv hi hn.1 (by omega : k < kN h) ((fr.I (by unfold Wdm; omega)).trans c3.2.2.1) c1 e13 told ((fr.I (by unfold Wdm; omega)).trans hd2) hlk hw63 ((fr.L (by unfold Wdm; omega)).trans g4) b1 hl9
        revert step f1 av
        generalize as6 M0 (nI d) (nI i) (nI k) (nI (r.2.2.2 k)) (nI (bt r.2.2.1 k)) (nI r.2.1) = M1
        intro f1 av step
        obtain ⟨M2, r1, r2⟩ := s_reckons (M := M1) (lo := 1) (hi := 6) (bk := bk) (fm := fa) (bh := fb) (w := 0) (env := envD d i k (r.2.2.2 k) (bt r.2.2.1 k) r.2.1) (cs := cs) (b := false) (x := 0) rfl (by decide) (by decide) (fun s _ _ => hev s) c1 (by decide) p4 (f1.W hW0) ((f1.I (by omega)).trans e13) ((f1.I (by omega)).trans ((fr.I (by unfold Wdm; omega)).trans p1)) ((f1.I (by omega)).trans ((fr.I (by unfold Wdm; omega)).trans p2)) (fun s q1 q2 => by
          have hs : s = 1 ∨ s = 2 ∨ s = 3 ∨ s = 4 ∨ s = 5 ∨ s = 6 := by omega
          rcases hs with e | e | e | e | e | e <;> subst e
          · exact av.1
          · exact av.2.1
          · exact av.2.2.1
          · exact av.2.2.2.1
          · exact av.2.2.2.2.1
          · exact av.2.2.2.2.2) ((p5.fr fr (fun j => by unfold Wdm; omega)).fr f1 (fun j => by omega)) (cv.dr cs hcs) p3
        have hd0 : drL h d i r.2.1 r.2.2.1 k (r.2.2.2 k) = cl99 ((r.2.2.2 k : Int) + evp (envD d i k (r.2.2.2 k) (bt r.2.2.1 k) r.2.1) cs) := by unfold drL; rw [hcs]
        have f2 : FR (fun a j => a = 388 ∨ a = 389) M0 M2 := (f1.mo (fun a j h => Or.inr h)).tr (r2.mo (fun a j h => Or.inl h))
        have f3 : FR (Wdm v i) M (zsI M2 385 (64 * (6 * v + i) + k) (nI (drL h d i r.2.1 r.2.2.1 k (r.2.2.2 k)))) := FR.sI (fr.tr (f2.mo (fun a j h => by unfold Wdm; omega))) (by unfold Wdm; omega)
        obtain ⟨M', q1, q2, q3⟩ := ih (k + 1) f _ f3 ((zI_sn _ _ (by omega)).trans ((f2.I (by omega)).trans b1)) (by omega) (fun q hq => by
          by_cases hqk : q = k
          · subst hqk; exact zI_se _ _ _ _
          · rw [zI_sn _ _ (by omega), f2.I (by omega)]; exact hl q (by omega)) (fun q hq hq2 => by rw [zI_sn _ _ (by omega), f2.I (by omega)]; exact hg q (by omega) hq2)
        refine ⟨M', ?_, q2, q3⟩
        obtain ⟨bz, ebz⟩ : ∃ bz, evp (envD d i k (r.2.2.2 k) (bt r.2.2.1 k) r.2.1) cs = bz := ⟨_, rfl⟩
        have hbz : bd bz := by rw [← ebz]; exact (evp_bd (by decide) (fun s _ _ => hev s) (cv.dr cs hcs)).1
        rw [ebz] at r1 hd0
        have hml : ml ((r.2.2.2 k : Int) + bz) := by unfold bd at hbz; unfold ml; omega
        have m99 : ml 99 := by unfold ml; omega
        rw [show e + 1 + 1 + f = (e + 1 + f) + 1 by omega, step, r1, b_i]
        dsimp only
        rw [← iL_n, iL_add, iL0, show (99 : Int64) = iL 99 from rfl]
        unfold f_X12_drifts_149
        unfold cl99 at hd0
        have hW2 := f2.W hW0
        by_cases h1 : (r.2.2.2 k : Int) + bz < 0
        · rw [if_pos h1] at hd0
          rw [hd0] at q1
          rw [if_neg (fun x => by have := (iL_cge hml m0).mp x; omega), s_puts hW2 hv hi (by omega), b_i, nI_1]
          exact q1
        · rw [if_neg h1] at hd0
          rw [if_pos ((iL_cge hml m0).mpr (by omega))]
          by_cases h2 : 99 < (r.2.2.2 k : Int) + bz
          · rw [if_pos h2] at hd0
            rw [hd0] at q1
            rw [if_neg (fun x => by have := (iL_cle hml m99).mp x; omega), s_puts hW2 hv hi (by omega), b_i, nI_1]
            exact q1
          · rw [if_neg h2] at hd0
            rw [hd0] at q1
            rw [if_pos ((iL_cle hml m99).mpr (by omega)), s_puts hW2 hv hi (by omega), b_i, nI_1, iL_i]
            rw [← iI_n ((r.2.2.2 k : Int) + bz).toNat, Int.toNat_of_nonneg (show 0 ≤ (r.2.2.2 k : Int) + bz by omega)] at q1
            exact q1
    have := l (kN h) 0 (1000000 - kN h - 1) M (FR.rf _ M) g3 (by omega) (fun q hq => absurd hq (by omega)) (fun q _ hq => g5 q hq)
    rw [show kN h + 1 + (1000000 - kN h - 1) = 1000000 by omega] at this
    exact this
