/-! the model reckons a program -/
def evp (env : Nat → Nat) (cs : List (Nat × Nat)) : Int := (evs env cs []).headD 0
theorem s_run {M : Mem} {c0 lo hi fm tt : Nat} {env : Nat → Nat} {cs : List (Nat × Nat)} {b : Bool} (h0 : zCh2 c0) (hlo : 1 ≤ lo) (hhi : hi ≤ 9) (henv : ∀ s, lo ≤ s → s ≤ hi → env s ≤ 9999) (htt : tt ≤ 1600) (hW : WRc M) (hE : ENC M lo hi env) (hP : PRG M (c0 + 8) fm cs) (ht : tyc lo hi cs [] = some [b]) (hl : fm + cs.length = tt) : ∃ M', f_X10_run 3 c0 (nI fm) (nI tt) M = some (iI (evp env cs), M') ∧ FR Wtr M M' ∧ bd (evp env cs) ∧ (b = true → tru (evp env cs)) := by
  have f0 : FR Wtr M (zsI M 3 2 0) := (FR.rf _ M).sI (by unfold Wtr; omega)
  have hc0 : c0 = 335 ∨ c0 = 344 := h0
  obtain ⟨M1, a1, a2, a3, a4, a5⟩ := s_run_l (x2 := nI fm) h0 hlo hhi henv htt cs fm (1000000 - cs.length - 1) (zsI M 3 2 0) [] [b] [] (f0.W hW) (fun s q1 q2 => (f0.I (by unfold Wtr; omega)).trans (hE s q1 q2)) (hP.fr f0 (fun j => by unfold Wtr; omega)) ht (by decide) True.intro (zI_se _ _ _ _) True.intro hl
  rw [show cs.length + 1 + (1000000 - cs.length - 1) = 1000000 by omega] at a1
  obtain ⟨v, r, e, h1, h2, h3⟩ := a5.cons
  have hr : r = [] := by cases r with | nil => rfl | cons _ _ => exact absurd h3 id
  subst hr
  rw [e] at a3 a4
  obtain ⟨p1, -⟩ := s_pop (a2.W (f0.W hW)) a3 (by decide) a4
  have ev : evp env cs = v := by unfold evp; rw [e]; rfl
  refine ⟨zsI M1 3 2 (nI ([] : List Int).length), ?_, (f0.tr a2).sI (by unfold Wtr; omega), by rw [ev]; exact h1, by rw [ev]; exact h2⟩
  unfold f_X10_run
  rw [b_i, a1]
  unfold f_X10_run_161
  rw [p1, b_i, ev]
def SM (M : Mem) : List Int → Prop
  | [] => True
  | v :: r => zL M 388 r.length = iL v ∧ SM M r
theorem SM.up {M M1 : Mem} : ∀ {vs : List Int}, SM M vs → (∀ k, k < vs.length → zL M1 388 k = zL M 388 k) → SM M1 vs
  | [], _, _ => True.intro
  | _ :: r, h, hk => ⟨(hk r.length (Nat.lt_succ_self _)).trans h.1, SM.up h.2 (fun k hk2 => hk k (Nat.lt_succ_of_lt hk2))⟩
def ENM (M : Mem) (lo hi : Nat) (env : Nat → Nat) : Prop := ∀ s, lo ≤ s → s ≤ hi → zI M 389 s = nI (env s)
def PRM (M : Mem) : Nat → List (Nat × Nat) → Prop
  | _, [] => True
  | i, c :: cs => zI M 361 i = nI c.1 ∧ (c.1 = 0 → zI M 362 i = nI c.2) ∧ PRM M (i + 1) cs
theorem PRM.fr {W : Nat → Nat → Prop} {M M1 : Mem} (f : FR W M M1) (hw : ∀ j, ¬ W 361 j ∧ ¬ W 362 j) : ∀ {cs : List (Nat × Nat)} {i : Nat}, PRM M i cs → PRM M1 i cs
  | [], _, _ => True.intro
  | _ :: _, _, h => ⟨(f.I (hw _).1).trans h.1, fun e => (f.I (hw _).2).trans (h.2.1 e), PRM.fr f hw h.2.2⟩
theorem cb_ok : ∀ s : Fin 45, 31 ≤ s.val → (30 < nI s.val) ∧ (nI s.val = 43 ↔ s.val = 43) ∧ (nI s.val = 44 ↔ s.val = 44) := by decide
theorem nI_s2 {k n : Nat} (h : k ≤ n) {x : Int32} (hx : x = -nI k) : nI n + x = nI (n - k) := by
  subst hx
  rw [← Int32.sub_eq_add_neg, pk_sub h]
def Wst (a j : Nat) : Prop := a = 388
theorem s_reck_l {lo hi bk bh w : Nat} {env : Nat → Nat} (hlo : 1 ≤ lo) (hhi : hi ≤ 9) (henv : ∀ s, lo ≤ s → s ≤ hi → env s ≤ 9999) (hbk : bk ≤ 1) (hw : w ≤ 1) (hbh : bh ≤ 1600) : ∀ cs i f M st st' vs, WRc M → zI M 355 13 = nI bk → zI M 360 (2 * bk + w) = nI bh → ENM M lo hi env → PRM M i cs → tyc lo hi cs st = some st' → st.length ≤ 90 → VT st vs → SM M vs → i + cs.length = 1600 * bk + bh → ∃ M', f_X12_reckons_25 355 (nI w) (cs.length + 1 + f) (nI vs.length) (nI i) M = some (zL M' 388 0, M') ∧ FR Wst M M' ∧ SM M' (evs env cs vs) ∧ VT st' (evs env cs vs) := by
  intro cs
  induction cs with
  | nil =>
    intro i f M st st' vs hW h13 hBh hE hP ht hs hv hS e
    have e2 : i = 1600 * bk + bh := by simpa using e
    subst e2
    cases ht
    refine ⟨M, ?_, FR.rf _ M, hS, hv⟩
    show f_X12_reckons_25 355 (nI w) (0 + 1 + f) _ _ M = _
    rw [show 0 + 1 + f = f + 1 by omega, f_X12_reckons_25, w355_17 hW, b_i, h13, show (2 : Int32) = nI 2 from rfl, pk_mul, nI_add, zl_at 4 rfl (by omega) (by decide), b_i, hBh, show (1600 : Int32) = nI 1600 from rfl, pk_mul, nI_add, if_pos (nI_le (Nat.le_refl _) (by omega)), w355_65 hW, b_i, show zld 388 0 = some 0 from rfl, b_i]
  | cons c cs ih =>
    intro i f M st st' vs hW h13 hBh hE hP ht hs hv hS e
    have e : i + (cs.length + 1) = 1600 * bk + bh := e
    unfold tyc at ht
    cases h1 : tst lo hi c st with
    | none => rw [h1] at ht; cases ht
    | some s1 =>
      rw [h1] at ht
      by_cases hl : s1.length ≤ 90
      · have ht : tyc lo hi cs s1 = some st' := by simpa [hl] using ht
        obtain ⟨hv1, hk⟩ := tst_knd (by omega) henv h1 hv
        have hvl := hv.len
        have hvl1 := hv1.len
        have fin : ∀ M1 x, x = nI (est env c vs).length → FR Wst M M1 → SM M1 (est env c vs) → ∃ M', f_X12_reckons_221 (f_X12_reckons_25 355 (nI w) (cs.length + 1 + f)) 355 (nI w) x (nI i) M1 = some (zL M' 388 0, M') ∧ FR Wst M M' ∧ SM M' (evs env (c :: cs) vs) ∧ VT st' (evs env (c :: cs) vs) := by
          intro M1 x hx f1 gS
          subst hx
          obtain ⟨M', a1, a2, a4, a5⟩ := ih (i + 1) f M1 s1 st' (est env c vs) (f1.W hW) ((f1.I (by unfold Wst; omega)).trans h13) ((f1.I (by unfold Wst; omega)).trans hBh) (fun s q1 q2 => (f1.I (by unfold Wst; omega)).trans (hE s q1 q2)) (hP.2.2.fr f1 (fun j => by unfold Wst; omega)) ht hl hv1 gS (by omega)
          refine ⟨M', ?_, f1.tr a2, a4, a5⟩
          unfold f_X12_reckons_221
          rw [nI_1]; exact a1
        have pushF : ∀ v y, y = iL v → est env c vs = v :: vs → ∃ M', f_X12_reckons_105 (f_X12_reckons_25 355 (nI w) (cs.length + 1 + f)) 355 (nI w) (nI vs.length) (nI i) 388 (nI vs.length) y M = some (zL M' 388 0, M') ∧ FR Wst M M' ∧ SM M' (evs env (c :: cs) vs) ∧ VT st' (evs env (c :: cs) vs) := by
          intro v y hy hev
          subst hy
          unfold f_X12_reckons_105
          rw [zl_at 500 rfl (by omega) (by decide), b_i, b_i, nI_1]
          refine fin _ _ (by rw [hev]; rfl) ((FR.rf _ M).sL rfl) ?_
          rw [hev]
          exact ⟨zL_se _ _ _ _, hS.up (fun k hk => zL_sn _ _ (by omega))⟩
        have binF : ∀ v r n, est env c vs = v :: r → r.length < 500 → SM M r → n = r.length + 1 → ∃ M', f_X12_reckons_221 (f_X12_reckons_25 355 (nI w) (cs.length + 1 + f)) 355 (nI w) (nI n) (nI i) (zsL M 388 r.length (iL v)) = some (zL M' 388 0, M') ∧ FR Wst M M' ∧ SM M' (evs env (c :: cs) vs) ∧ VT st' (evs env (c :: cs) vs) := by
          intro v r n hev hr hSr hn
          subst hn
          refine fin _ _ (by rw [hev]; rfl) ((FR.rf _ M).sL rfl) ?_
          rw [hev]
          exact ⟨zL_se _ _ _ _, hSr.up (fun k hk => zL_sn _ _ (by omega))⟩
        show ∃ M', f_X12_reckons_25 355 (nI w) (cs.length + 1 + 1 + f) (nI vs.length) (nI i) M = _ ∧ _
        rw [show cs.length + 1 + 1 + f = (cs.length + 1 + f) + 1 by omega, f_X12_reckons_25, w355_17 hW, b_i, h13, show (2 : Int32) = nI 2 from rfl, pk_mul, nI_add, zl_at 4 rfl (by omega) (by decide), b_i, hBh, show (1600 : Int32) = nI 1600 from rfl, pk_mul, nI_add, if_neg (nI_ge (by omega) (by omega)), w355_18 hW, b_i, zl_at 3200 rfl (by omega) (by decide), b_i, hP.1, w355_65 hW]
        rcases hk with ⟨k0, k1, k2, k3⟩ | ⟨k0, k1, k2, k3, k4⟩ | ⟨k0, k1, k2⟩ | ⟨k0, a, r, k1, k2, k3⟩ | ⟨k0, b, a, t, r, k1, k2, k3, k4, k5⟩ | ⟨k0, k1, b, a, r, k2, k3, k4, k5, k6⟩
        · rw [k0, if_neg (show ¬ (30 : Int32) < nI 0 by decide), b_i, if_pos (show nI 0 = 0 from rfl), w355_19 hW, b_i, zl_at 3200 rfl (by omega) (by decide), b_i, hP.2.1 k0]
          exact pushF _ _ (by rw [nI_i2l (by omega), iL_n]) k3
        · rw [if_neg (show ¬ (30 : Int32) < nI c.1 from nI_nlt (a := 30) (by omega) (by decide)), b_i, if_neg (nI_ne0 (by omega) (by omega)), if_neg (show ¬ nI c.1 = 30 from fun x => by have := (nI_eq (b := 30) (by omega) (by decide)).mp x; omega), w355_66 hW, b_i, zl_at 12 rfl (by omega) (by decide), b_i, hE _ k0 k1]
          have := henv _ k0 k1
          exact pushF _ _ (by rw [nI_i2l (by omega), iL_n]) k4
        · rw [k0, if_neg (show ¬ (30 : Int32) < nI 30 by decide), b_i, if_neg (show ¬ nI 30 = 0 by decide), if_pos (show nI 30 = 30 from rfl)]
          exact pushF 1 _ rfl k2
        · have oo := cb_ok ⟨c.1, by omega⟩ (by show 31 ≤ c.1; omega)
          dsimp only at oo
          subst k1
          have hlen : (a :: r).length = r.length + 1 := rfl
          have hs1 : nI (a :: r).length - 1 = nI r.length := by rw [hlen, show (1 : Int32) = nI 1 from rfl, pk_sub (by omega), Nat.add_sub_cancel]
          rw [if_pos oo.1, if_pos (oo.2.1.mpr k0), b_i, b_i, hs1, zl_at 500 rfl (by omega) (by decide), b_i, b_i, b_i, hS.1, iL1, iL_sub]
          exact binF _ r _ k3 (by omega) hS.2 rfl
        · have oo := cb_ok ⟨c.1, by omega⟩ (by show 31 ≤ c.1; omega)
          dsimp only at oo
          subst k1
          have hlen : (b :: a :: t :: r).length = r.length + 3 := rfl
          obtain ⟨s1', s2', s3', s4'⟩ := hS
          have s2'' : zL M 388 (r.length + 1) = iL a := s2'
          have s1'' : zL M 388 (r.length + 2) = iL b := s1'
          have hs2 : nI (b :: a :: t :: r).length + (-nI 2) = nI (r.length + 1) := by rw [hlen]; exact nI_s2 (k := 2) (n := r.length + 3) (by omega) rfl
          have hs1 : nI (r.length + 1) - 1 = nI r.length := by rw [show (1 : Int32) = nI 1 from rfl, pk_sub (by omega), Nat.add_sub_cancel]
          rw [if_pos oo.1, if_neg (fun x => by have := oo.2.1.mp x; omega), if_pos (oo.2.2.mpr k0), b_i, b_i, hs2, hs1, zl_at 500 rfl (by omega) (by decide), b_i, s3']
          have hm1 : ml 1 := by unfold ml; omega
          have res := binF _ r (r.length + 1) k5 (by omega) s4' rfl
          unfold f_X12_reckons_187
          rcases k4 with e | e
          · subst e
            rw [if_neg (show ¬ lg_cmp (iL 0) 1 = 0 by decide), b_i, nI_1, zl_at 500 rfl (by omega) (by decide), b_i, s1'', zl_at 500 rfl (by omega) (by decide), b_i, b_i]
            rw [if_neg (by decide)] at res
            exact res
          · subst e
            rw [if_pos (show lg_cmp (iL 1) 1 = 0 by decide), b_i, zl_at 500 rfl (by omega) (by decide), b_i, s2'', zl_at 500 rfl (by omega) (by decide), b_i, b_i]
            rw [if_pos rfl] at res
            exact res
        · have oo := cb_ok ⟨c.1, by omega⟩ (by show 31 ≤ c.1; omega)
          dsimp only at oo
          subst k2
          have hlen : (b :: a :: r).length = r.length + 2 := rfl
          obtain ⟨s1', s2', s3'⟩ := hS
          have s1'' : zL M 388 (r.length + 1) = iL b := s1'
          have hs2 : nI (b :: a :: r).length + (-1) = nI (r.length + 1) := by rw [hlen]; exact nI_s2 (k := 1) (n := r.length + 2) (by omega) rfl
          have hs1 : nI (r.length + 1) - 1 = nI r.length := by rw [show (1 : Int32) = nI 1 from rfl, pk_sub (by omega), Nat.add_sub_cancel]
          rw [if_pos oo.1, if_neg (fun x => by have := oo.2.1.mp x; omega), if_neg (fun x => by have := oo.2.2.mp x; omega), b_i, b_i, hs2, hs1, zl_at 500 rfl (by omega) (by decide), b_i, b_i, zl_at 500 rfl (by omega) (by decide), b_i, s2', s1'', s_two k0 k1 k3 k4 k5, b_i, b_i, b_i]
          exact binF _ r (r.length + 1) k6 (by omega) s3' rfl
      · exfalso
        simp [hl] at ht
theorem s_reckons {M : Mem} {lo hi bk fm bh w : Nat} {env : Nat → Nat} {cs : List (Nat × Nat)} {b : Bool} {x : Int32} (hx : x = nI w) (hlo : 1 ≤ lo) (hhi : hi ≤ 9) (henv : ∀ s, lo ≤ s → s ≤ hi → env s ≤ 9999) (hbk : bk ≤ 1) (hw : w ≤ 1) (hbh : bh ≤ 1600) (hW : WRc M) (h13 : zI M 355 13 = nI bk) (hFm : zI M 359 (2 * bk + w) = nI fm) (hBh : zI M 360 (2 * bk + w) = nI bh) (hE : ENM M lo hi env) (hP : PRM M (1600 * bk + fm) cs) (ht : tyc lo hi cs [] = some [b]) (hl : fm + cs.length = bh) : ∃ M', f_X12_reckons 355 x M = some (iL (evp env cs), M') ∧ FR Wst M M' := by
  subst hx
  obtain ⟨M', a1, a2, a4, a5⟩ := s_reck_l hlo hhi henv hbk hw hbh cs (1600 * bk + fm) (1000000 - cs.length - 1) M [] [b] [] hW h13 hBh hE hP ht (by decide) True.intro True.intro (by omega)
  rw [show cs.length + 1 + (1000000 - cs.length - 1) = 1000000 by omega] at a1
  obtain ⟨v, r, e, h1, h2, h3⟩ := a5.cons
  have hr : r = [] := by cases r with | nil => rfl | cons _ _ => exact absurd h3 id
  subst hr
  rw [e] at a4
  have ev : evp env cs = v := by unfold evp; rw [e]; rfl
  refine ⟨M', ?_, a2⟩
  unfold f_X12_reckons
  rw [w355_16 hW, b_i, h13, show (2 : Int32) = nI 2 from rfl, pk_mul, nI_add, zl_at 4 rfl (by omega) (by decide), b_i, hFm, show (1600 : Int32) = nI 1600 from rfl, pk_mul, nI_add]
  rw [show zL M' 388 0 = iL v from a4.1] at a1
  rw [ev]
  exact a1
