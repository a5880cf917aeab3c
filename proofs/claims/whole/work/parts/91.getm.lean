/-! to get a page: the model -/
theorem s_is {M : Mem} {x : Int32} {z lo hi : Int} {xl xh : Int32} (hx : x = iI z) (hl : xl = iI lo) (hh : xh = iI hi) (hz : sm z) (sl : sm lo) (sh : sm hi) : f_X12_is x xl xh M = some (b01 (decide (lo ≤ z ∧ z ≤ hi)), M) := by
  subst hx; subst hl; subst hh
  unfold f_X12_is f_X12_is_14 f_X12_is_15
  by_cases h1 : lo ≤ z
  · rw [if_neg (fun q => by have := (iI_lt hz sl).mp q; omega)]
    by_cases h2 : z ≤ hi
    · rw [if_neg (fun q => by have := (iI_lt sh hz).mp q; omega), zbz1, decide_eq_true ⟨h1, h2⟩]; rfl
    · rw [if_pos ((iI_lt sh hz).mpr (by omega)), zbz0, decide_eq_false (fun q => h2 q.2)]; rfl
  · rw [if_pos ((iI_lt hz sl).mpr (by omega)), zbz0, decide_eq_false (fun q => h1 q.1)]; rfl
theorem s_wanted {M : Mem} {v i n : Nat} {r : RW} {x y : Int32} (hx : x = nI v) (hy : y = nI i) (hW : WRc M) (hv : v < 22) (hi : i < 6) (hr : MR M v i n r) (hwr : r.1 = true) (hw : r.2.2.1 < 2 ^ 63) : f_X12_wantedOf 355 x y M = some (nI (pop 64 r.2.2.1), M) := by
  subst hx; subst hy
  unfold f_X12_wantedOf
  rw [w355_58 hW, b_i, ix_6, zl_at 132 rfl (by omega) (by decide), b_i, (hr.2 hwr).2.1, s_onesOf hw, b_i]
theorem envT_7 (t g a : Nat) : envT t g a 7 = t := rfl
theorem envT_8 (t g a : Nat) : envT t g a 8 = g := rfl
theorem envT_9 (t g a : Nat) : envT t g a 9 = a := rfl
def Wag (a j : Nat) : Prop := a = 388 ∨ a = 389 ∨ (a = 355 ∧ (j = 67 ∨ j = 68))
theorem s_ag153 {M : Mem} {x1 x2 x3 : Int32} {a : Nat} {z : Int} {o : Option Nat} (hz : sm z) (ho : o = if 1 ≤ z ∧ z ≤ 99 then some z.toNat else none) (h68 : zI M 355 68 = nI a) : ∃ M', f_X12_isTriedAgain_153 355 x1 x2 x3 (iI z) M = some (b01 o.isSome, M') ∧ FR (fun b j => b = 355 ∧ j = 68) M M' ∧ zI M' 355 68 = nI (o.getD a) := by
  unfold f_X12_isTriedAgain_153
  rw [s_is (z := z) (lo := 1) (hi := 99) (xl := 1) (xh := 99) rfl rfl rfl hz bd1.s (by unfold sm; omega), b_i]
  by_cases h : 1 ≤ z ∧ z ≤ 99
  · rw [if_pos h] at ho
    subst ho
    rw [decide_eq_true h]
    refine ⟨zsI M 355 68 (iI z), ?_, (FR.rf _ M).sI ⟨rfl, rfl⟩, ?_⟩
    · exact im b01_n0 rfl
    · rw [zI_se]
      show iI z = nI z.toNat
      rw [← iI_n, Int.toNat_of_nonneg (by omega)]
  · rw [if_neg h] at ho
    subst ho
    rw [decide_eq_false h]
    exact ⟨M, ip b01_f rfl, FR.rf _ M, h68⟩
theorem s_again {M : Mem} {v i k a : Nat} {h : CH} {r : RW} {x y z : Int32} (hx : x = nI v) (hy : y = nI i) (hz : z = nI (pop 64 (rdW h r a))) (hW : WRc M) (cv : CV h) (hC : MC M h) (hv : v < 22) (hi : i < 6) (hr : MR M v i (kN h) r) (hwr : r.1 = true) (hV : RV (kM h) (kP h) (kT h) (kN h) r) (hk : k ≤ 9999) (ha1 : 1 ≤ a) (ha : a ≤ 99) (h50 : zI M 355 50 = nI (kCa h (rdW h r a))) (h67 : zI M 355 67 = nI k) (h68 : zI M 355 68 = nI a) : ∃ M', f_X12_isTriedAgain 355 x y z M = some (b01 (stopA h r k a).isSome, M') ∧ FR Wag M M' ∧ zI M' 355 67 = nI k ∧ zI M' 355 68 = nI ((stopA h r k a).getD a) := by
  subst hz
  have hn := cv.n63
  have hs := cv.s
  obtain ⟨v1, v2, v3, v4⟩ := hV hwr
  have h64 : (2 : Nat) ^ kN h ≤ 2 ^ 63 := Nat.pow_le_pow_right (by decide) hn.1
  have hp1 := pop_le' 64 (rdW h r a)
  have hp2 := pop_le' 64 r.2.2.1
  have hca := kCa_lt h (rdW h r a)
  unfold f_X12_isTriedAgain f_X12_isTriedAgain_21
  rw [s_wanted hx hy hW hv hi hr hwr (by omega), b_i]
  dsimp only
  rw [h50]
  have none_ : stopA h r k a = none → ∃ M', some ((0 : Int32), M) = some (b01 (stopA h r k a).isSome, M') ∧ FR Wag M M' ∧ zI M' 355 67 = nI k ∧ zI M' 355 68 = nI ((stopA h r k a).getD a) := fun e => ⟨M, by rw [e]; rfl, FR.rf _ M, h67, by rw [e]; exact h68⟩
  by_cases h0 : kCa h (rdW h r a) = 0
  · rw [if_pos (show nI (kCa h (rdW h r a)) = 0 by rw [h0]; rfl)]
    exact none_ (by unfold stopA; rw [if_pos h0])
  · rw [if_neg (nI_ne0 (by omega) hca)]
    have hst : stopA h r k a = if 40 ≤ k then none else stop0 h r k a := by unfold stopA; rw [if_neg h0]
    by_cases he : pop 64 (rdW h r a) = pop 64 r.2.2.1
    · rw [if_pos (by rw [he])]
      exact none_ (by rw [hst]; unfold stop0; rw [if_pos he, ite_self])
    · rw [if_neg (fun q => he ((nI_eq (by omega) (by omega)).mp q))]
      subst hx; subst hy
      have hg : gpp (pop 64 (rdW h r a)) (pop 64 r.2.2.1) ≤ 64 := by unfold gpp; by_cases e : pop 64 (rdW h r a) ≤ pop 64 r.2.2.1; rw [if_pos e]; omega; rw [if_neg e]; omega
      rw [w355_66 hW, b_i, w355_55 hW, b_i, zl_at 22 rfl hv (by decide), b_i, show zld 389 1 = some 1 from rfl, b_i, b_i, zrf_sI, w355_66 hW, b_i, show zld 389 7 = some 7 from rfl, b_i, zI_sn _ _ (by omega), h67, b_i, zrf_sI, zrf_sI, w355_66 hW, b_i]
      have f1 : FR (fun b j => b = 389) M (zsI (zsI M 389 1 (zI M 381 v)) 389 7 (nI k)) := FR.sI (FR.sI (FR.rf _ M) (by omega)) (by omega)
      have v7 : zI (zsI (zsI M 389 1 (zI M 381 v)) 389 7 (nI k)) 389 7 = nI k := zI_se _ _ _ _
      revert f1 v7
      generalize zsI (zsI M 389 1 (zI M 381 v)) 389 7 (nI k) = M1
      intro f1 v7
      have hW1 := f1.W hW
      have go : ∀ g, g = nI (gpp (pop 64 (rdW h r a)) (pop 64 r.2.2.1)) → ∃ M', f_X12_isTriedAgain_69 355 (nI v) (nI i) (nI (pop 64 (rdW h r a))) (nI (pop 64 r.2.2.1)) 389 8 g M1 = some (b01 (stopA h r k a).isSome, M') ∧ FR Wag M M' ∧ zI M' 355 67 = nI k ∧ zI M' 355 68 = nI ((stopA h r k a).getD a) := by
        intro g hge
        subst hge
        unfold f_X12_isTriedAgain_69 f_X12_isTriedAgain_120
        have f2 : FR (fun b j => b = 389) M (zsI (zsI M1 389 8 (nI (gpp (pop 64 (rdW h r a)) (pop 64 r.2.2.1)))) 389 9 (nI a)) := FR.sI (FR.sI f1 (by omega)) (by omega)
        rw [show zld 389 8 = some 8 from rfl, b_i, b_i, zrf_sI, w355_66 hW1, b_i, show zld 389 9 = some 9 from rfl, b_i, zI_sn _ _ (by omega), f1.I (by omega), h68, b_i]
        have v7' : zI (zsI (zsI M1 389 8 (nI (gpp (pop 64 (rdW h r a)) (pop 64 r.2.2.1)))) 389 9 (nI a)) 389 7 = nI k := by rw [zI_sn _ _ (by omega), zI_sn _ _ (by omega)]; exact v7
        have v8 : zI (zsI (zsI M1 389 8 (nI (gpp (pop 64 (rdW h r a)) (pop 64 r.2.2.1)))) 389 9 (nI a)) 389 8 = nI (gpp (pop 64 (rdW h r a)) (pop 64 r.2.2.1)) := by rw [zI_sn _ _ (by omega), zI_se]
        have v9 : zI (zsI (zsI M1 389 8 (nI (gpp (pop 64 (rdW h r a)) (pop 64 r.2.2.1)))) 389 9 (nI a)) 389 9 = nI a := zI_se _ _ _ _
        revert f2 v7' v8 v9
        generalize zsI (zsI M1 389 8 (nI (gpp (pop 64 (rdW h r a)) (pop 64 r.2.2.1)))) 389 9 (nI a) = M2
        intro f2 v7' v8 v9
        have hW2 := f2.W hW
        have e67 : zI M2 355 67 = nI k := (f2.I (by omega)).trans h67
        have e68 : zI M2 355 68 = nI a := (f2.I (by omega)).trans h68
        have noneF : ∀ M3, FR Wag M M3 → zI M3 355 67 = nI k → zI M3 355 68 = nI a → stopA h r k a = none → ∃ M', some ((0 : Int32), M3) = some (b01 (stopA h r k a).isSome, M') ∧ FR Wag M M' ∧ zI M' 355 67 = nI k ∧ zI M' 355 68 = nI ((stopA h r k a).getD a) := fun M3 f3 q1 q2 e => ⟨M3, by rw [e]; rfl, f3, q1, by rw [e]; exact q2⟩
        have f2w : FR Wag M M2 := f2.mo (fun b j h => by unfold Wag; omega)
        rw [e67]
        by_cases h40 : 40 ≤ k
        · rw [if_pos (show (40 : Int32) ≤ nI k from nI_le (a := 40) h40 (by omega))]
          exact noneF M2 f2w e67 e68 (by rw [hst, if_pos h40])
        · rw [if_neg (show ¬ (40 : Int32) ≤ nI k from nI_ge (b := 40) (by omega) (by decide))]
          rw [if_neg h40] at hst
          have hst2 : stopA h r k a = if agn h k (gpp (pop 64 (rdW h r a)) (pop 64 r.2.2.1)) a = false then none else nxt h (decide (pop 64 r.2.2.1 < pop 64 (rdW h r a))) a := by rw [hst]; unfold stop0; rw [if_neg he]
          have hC2 : MC M2 h := hC.fr f2 (fun b j p q => by unfold Wmc at p; omega)
          have goOn : ∀ M3, FR Wag M M3 → zI M3 355 67 = nI k → zI M3 355 68 = nI a → agn h k (gpp (pop 64 (rdW h r a)) (pop 64 r.2.2.1)) a = true → ∃ M', f_X12_isTriedAgain_122 355 (nI v) (nI i) (nI (pop 64 (rdW h r a))) (nI (pop 64 r.2.2.1)) M3 = some (b01 (stopA h r k a).isSome, M') ∧ FR Wag M M' ∧ zI M' 355 67 = nI k ∧ zI M' 355 68 = nI ((stopA h r k a).getD a) := by
            intro M3 f3 q1 q2 hag
            rw [hag, if_neg (by decide)] at hst2
            have hC3 : MC M3 h := hC.fr f3 (fun b j p q => by unfold Wmc at p; unfold Wag at q; omega)
            obtain ⟨bk, -, -, -, ⟨-, -, -, b7, -⟩, -⟩ := hC3
            unfold f_X12_isTriedAgain_122
            by_cases hlt : pop 64 r.2.2.1 < pop 64 (rdW h r a)
            · rw [if_neg (nI_ge hlt (by omega)), s_by (x := 7) (f3.W hW) rfl (by decide) b7, b_i]
              dsimp only
              rw [decide_eq_true hlt] at hst2
              rw [q2, ← iI_n a, ← iI_n (kS h), iI_add]
              obtain ⟨M', w1, w2, w3⟩ := s_ag153 (M := M3) (x1 := nI v) (x2 := nI i) (x3 := nI (pop 64 (rdW h r a))) (a := a) (z := (a : Int) + kS h) (o := stopA h r k a) (by unfold sm; omega) (by
                rw [hst2]; unfold nxt; rw [if_pos rfl]
                by_cases e9 : a + kS h ≤ 99
                · rw [if_pos e9, if_pos (by omega)]; congr 1
                · rw [if_neg e9, if_neg (by omega)]) q2
              exact ⟨M', w1, f3.tr (w2.mo (fun b j h => by unfold Wag; omega)), (w2.I (by omega)).trans q1, w3⟩
            · rw [if_pos (nI_le (by omega) (by omega)), s_by (x := 7) (f3.W hW) rfl (by decide) b7, b_i]
              dsimp only
              rw [decide_eq_false hlt] at hst2
              rw [q2, ← iI_n a, ← iI_n (kS h), iI_sub]
              obtain ⟨M', w1, w2, w3⟩ := s_ag153 (M := M3) (x1 := nI v) (x2 := nI i) (x3 := nI (pop 64 (rdW h r a))) (a := a) (z := (a : Int) - kS h) (o := stopA h r k a) (by unfold sm; omega) (by
                rw [hst2]; unfold nxt; rw [if_neg (by decide)]
                by_cases e9 : kS h < a
                · rw [if_pos e9, if_pos (by omega)]; congr 1; omega
                · rw [if_neg e9, if_neg (by omega)]) q2
              exact ⟨M', w1, f3.tr (w2.mo (fun b j h => by unfold Wag; omega)), (w2.I (by omega)).trans q1, w3⟩
          obtain ⟨bk, ⟨c1, c2, -⟩, -, -, -, -, c8, -⟩ := hC2
          rw [s_isTold (w := 1) (x := 1) rfl hW2 c1 (by decide) c2 c8, b_i]
          dsimp only
          cases hcs : kTr h with
          | none =>
            have hag : agn h k (gpp (pop 64 (rdW h r a)) (pop 64 r.2.2.1)) a = decide (k < 8) := by unfold agn; rw [hcs]
            rw [if_pos (show b01 (none : Option (List (Nat × Nat))).isSome = 0 from rfl), e67]
            by_cases h8 : k < 8
            · rw [if_pos (show nI k < (8 : Int32) from nI_lt (b := 8) h8 (by decide))]
              exact goOn M2 f2w e67 e68 (by rw [hag, decide_eq_true h8])
            · rw [if_neg (show ¬ nI k < (8 : Int32) from nI_nlt (b := 8) (by omega) (by omega))]
              exact noneF M2 f2w e67 e68 (by rw [hst2, hag, decide_eq_false h8, if_pos rfl])
          | some cs =>
            rw [hcs] at c8
            obtain ⟨fa, fb, p1, p2, p3, p4, p5⟩ := c8
            have hag : agn h k (gpp (pop 64 (rdW h r a)) (pop 64 r.2.2.1)) a = decide (evp (envT k (gpp (pop 64 (rdW h r a)) (pop 64 r.2.2.1)) a) cs = 1) := by unfold agn; rw [hcs]
            obtain ⟨M3, r1, r2⟩ := s_reckons (M := M2) (lo := 7) (hi := 9) (bk := bk) (fm := fa) (bh := fb) (w := 1) (env := envT k (gpp (pop 64 (rdW h r a)) (pop 64 r.2.2.1)) a) (cs := cs) (b := true) (x := 1) rfl (by decide) (by decide) (fun s _ _ => envT_b hk (by omega) (by omega) s) c1 (by decide) p4 hW2 c2 p1 p2 (fun s q1 q2 => by
              have hs : s = 7 ∨ s = 8 ∨ s = 9 := by omega
              rcases hs with e | e | e <;> subst e
              · rw [envT_7]; exact v7'
              · rw [envT_8]; exact v8
              · rw [envT_9]; exact v9) p5 (cv.tr cs hcs) p3
            have htr := (evp_bd (env := envT k (gpp (pop 64 (rdW h r a)) (pop 64 r.2.2.1)) a) (by decide) (fun s _ _ => envT_b hk (by omega) (by omega) s) (cv.tr cs hcs)).2 rfl
            have f3 : FR Wag M M3 := f2w.tr (r2.mo (fun b j h => by unfold Wst at h; unfold Wag; omega))
            rw [if_neg (show ¬ b01 (some cs).isSome = 0 from b01_n0), r1, b_i]
            dsimp only
            have g67 : zI M3 355 67 = nI k := (r2.I (by unfold Wst; omega)).trans e67
            have g68 : zI M3 355 68 = nI a := (r2.I (by unfold Wst; omega)).trans e68
            rcases htr with e | e
            · rw [e, if_neg (show ¬ lg_cmp (iL 0) 1 = 0 by decide)]
              exact noneF M3 f3 g67 g68 (by rw [hst2, hag, e, if_pos (by decide)])
            · rw [e, if_pos (show lg_cmp (iL 1) 1 = 0 by decide)]
              exact goOn M3 f3 g67 g68 (by rw [hag, e]; rfl)
      unfold gpp at go
      by_cases hle : pop 64 (rdW h r a) ≤ pop 64 r.2.2.1
      · rw [if_pos (nI_le hle (by omega))]
        rw [if_pos hle] at go
        exact go _ (pk_sub hle)
      · rw [if_neg (nI_ge (by omega) (by omega))]
        rw [if_neg hle] at go
        exact go _ (pk_sub (by omega))
