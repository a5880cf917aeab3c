/-! chip: the model's loop, what closes -/
section
variable {b : Nat → Nat} {z : Nat} {w : Bool} {bi a o p : Nat} {M : Mem} {fs r : List Frm} {cs : Cds} {k ph pr k2 ph2 pr2 : Nat} {bg bg2 opd : Bool} {ops ops2 pend : List Nat} {x1 : Int32}
theorem m_pop (h : MQz w bi a M ((k, ph, bg, pr, []) :: r) o cs) (o' : Nat) {v u : Int32} (hv : v = nI r.length) (hu : u = nI o') : FR (fun x j => x = 355 ∧ (j = 29 ∨ j = 30)) M (zsI (zsI M 355 29 v) 355 30 u) ∧ MQz w bi a (zsI (zsI M 355 29 v) 355 30 u) r o' cs := by
  obtain ⟨⟨hW, h29, h30, h32⟩, ⟨h22, hb⟩, ⟨h21, hP⟩, h23, hF⟩ := h
  have f1 : FR (fun x j => x = 355 ∧ (j = 29 ∨ j = 30)) M (zsI (zsI M 355 29 v) 355 30 u) := FR.sI (FR.sI (FR.rf (fun x j => x = 355 ∧ (j = 29 ∨ j = 30)) M) (by omega)) (by omega)
  refine ⟨f1, ⟨f1.W hW, ?_, (zI_se _ _ _ _).trans hu, ?_⟩, ⟨(f1.I (by omega)).trans h22, hb⟩, ⟨(f1.I (by omega)).trans h21, hP.fj f1 (fun j _ _ => by omega)⟩, (f1.I (by omega)).trans h23, hF.2.2.fj f1 (fun x j _ _ _ => by omega) (fun j _ => by omega)⟩
  · rw [zI_sn _ _ (by omega), zI_se]; exact hv
  · rw [f1.I (by omega), h32, tot_c, List.length_nil, Nat.zero_add]
theorem go_close {c : Nat} (h : MSt b z w bi a M ((k, ph, bg, pr, pend) :: (k2, ph2, bg2, pr2, ops2) :: r) o cs p true) (hkk : (k = 2 ∧ c = 41) ∨ (k = 4 ∧ c = 41) ∨ (k = 5 ∧ c = 93)) (hph : ph < 10) (hk : tK (tok b z p) ≤ 3) (na : 2 ≤ ph ∨ (osm (tok b z p) = 0 ∧ opr (tok b z p) = 0)) (nc : tst6 k = true → ¬ ph = 0 ∧ isOw (tok b z p) 22 = false ∧ isOw (tok b z p) 21 = false) (hp : ∀ q ∈ pend, 1 ≤ rnk q) (hn : nts pend + 1 ≤ o) : (isSg (tok b z p) c = true → OKs b z w bi a x1 M 1 ((k2, (if k = 5 then 2 else ph2), bg2, pr2, ops2) :: r) (o - nts pend - 1) (cs ++ emt pend ++ (if k = 4 then [(pr, 0)] else [])) (nxp b z p) true) ∧ (isSg (tok b z p) c = false → BDs bi a x1 M 2 (1, tBd (tok b z p))) := by
  obtain ⟨ht, h33, hq, hb1, hb2, hb3, hb4⟩ := id h
  rw [List.length_cons, List.length_cons] at hb1
  rw [wtf_c, wtf_c] at hb4
  rw [tot_c, tot_c] at hb2
  have hz := ht.1.1.2.1
  have hpz := ht.1.2.2
  have e : f_X12_goesOn 355 M = f_X12_goesOn_531 355 (nI (r.length + 1)) (nI k) 355 (nI c) M := by
    rw [go_422 ht hq hk (by rw [List.length_cons]; omega) (by omega) hph na nc, List.length_cons]
    unfold f_X12_goesOn_422
    rcases hkk with ⟨e1, e2⟩ | ⟨e1, e2⟩ | ⟨e1, e2⟩
    · subst e1; subst e2; rw [if_pos (by decide), if_neg (by decide), if_neg (by decide)]; exact if_neg (by decide)
    · subst e1; subst e2; rw [if_pos (by decide), if_neg (by decide), if_neg (by decide)]; exact if_neg (by decide)
    · subst e1; subst e2; rw [if_pos (by decide), if_neg (by decide), if_neg (by decide)]; exact if_pos rfl
  constructor
  · intro sc
    have k3 := (isSg_iff.mp sc).1
    have hq' : MQz w bi a M ((k, ph, bg, pr, pend ++ []) :: (k2, ph2, bg2, pr2, ops2) :: r) o cs := by rw [List.append_nil]; exact hq
    obtain ⟨M1, a1, a2, a3⟩ := m_joinsW (x := 1) (least := 1) rfl (by decide) (fun q e => by cases e) hp (by rw [List.length_cons]; omega) (by rw [List.append_nil, tot_c, tot_c]; omega) (by omega) (by omega) (by omega) hq'
    have h29 := a3.1.2.1
    have h30 := a3.1.2.2.1
    rw [List.length_cons, List.length_cons] at h29
    obtain ⟨f2, q2⟩ := m_pop a3 (o - nts pend - 1) (v := nI (r.length + 1)) (u := nI (o - nts pend - 1)) rfl rfl
    have t2 : MTk b z (zsI (zsI M1 355 29 (nI (r.length + 1))) 355 30 (nI (o - nts pend - 1))) p := (ht.fr a2 (fun j _ => by omega) (fun j => by omega)).fr f2 (fun j _ => by omega) (fun j => by omega)
    have hpr : isP6 k → zI M1 367 (r.length + 1) = nI pr := fun q => a3.2.2.2.2.1.2.2.2.1 q
    have run : f_X12_goesOn 355 M = (if nI k = (4 : Int32) then Option.bind (zrf (zsI (zsI M1 355 29 (nI (r.length + 1))) 355 30 (nI (o - nts pend - 1))) 355 27) fun q52 => Option.bind (zld q52 (nI (r.length + 1))) fun k53 => Option.bind (f_X12_add 355 (zI (zsI (zsI M1 355 29 (nI (r.length + 1))) 355 30 (nI (o - nts pend - 1))) q52 k53) 0 (zsI (zsI M1 355 29 (nI (r.length + 1))) 355 30 (nI (o - nts pend - 1)))) fun M54 => f_X12_goesOn_596 355 (nI k) M54 else f_X12_goesOn_596 355 (nI k) (zsI (zsI M1 355 29 (nI (r.length + 1))) 355 30 (nI (o - nts pend - 1)))) := by
      rw [e]
      unfold f_X12_goesOn_531 f_X12_goesOn_546
      rw [ht.sg c rfl (by omega), b_i, sc]
      dsimp only
      rw [if_neg b01_n0, ht.2, if_pos (by decide), a1, b_i, h29, nI_pred, b_i, zI_sn _ _ (by omega), h30, show (1 : Int32) = nI 1 from rfl, pk_sub (by omega), b_i]
    revert f2 q2 t2 run
    have hg : ∀ j, zI (zsI (zsI M1 355 29 (nI (r.length + 1))) 355 30 (nI (o - nts pend - 1))) 367 j = zI M1 367 j := fun j => by rw [zI_sn _ _ (by omega), zI_sn _ _ (by omega)]
    have hg33 : zI (zsI (zsI M1 355 29 (nI (r.length + 1))) 355 30 (nI (o - nts pend - 1))) 355 33 = b01 true := by rw [zI_sn _ _ (by omega), zI_sn _ _ (by omega), a2.I (by omega)]; exact h33
    revert hg hg33
    generalize zsI (zsI M1 355 29 (nI (r.length + 1))) 355 30 (nI (o - nts pend - 1)) = M2
    intro hg hg33 f2 q2 t2 run
    have fin : ∀ N cs', FR (Wmp bi a) M N → MTk b z N p → zI N 355 33 = b01 true → MQz w bi a N ((k2, ph2, bg2, pr2, ops2) :: r) (o - nts pend - 1) cs' → a + cs'.length + wtf ((k2, ph2, bg2, pr2, ops2) :: r) ≤ p + 1 → f_X12_goesOn 355 M = f_X12_goesOn_596 355 (nI k) N → OKs b z w bi a x1 M 1 ((k2, (if k = 5 then 2 else ph2), bg2, pr2, ops2) :: r) (o - nts pend - 1) cs' (nxp b z p) true := fun N cs' fN tN n33 qN wN rN => by
      by_cases k5 : k = 5
      · obtain ⟨f3, q3⟩ := m_ph qN 2
        have t3 : MTk b z (zsI N 365 r.length (nI 2)) p := tN.fr f3 (fun j _ => by omega) (fun j => by omega)
        obtain ⟨M3, c1, c2, c3, c4, c5, c6⟩ := t3.ahead (by omega) (by omega) q3
        rw [if_pos k5]
        refine h.okG (M1 := M3) (v := true) ?_ (fN.tr ((f3.mo (fun x j z => by unfold Wmp; omega)).tr (c2.mo (fun x j z => by unfold Wah at z; unfold Wmp; omega)))) c3 ?_ c4 ⟨by rw [List.length_cons]; omega, by rw [tot_c]; omega, by omega, ?_⟩
        · rw [rN]
          unfold f_X12_goesOn_596 f_X12_goesOn_613
          have c1 : f_X12_ahead 355 (zsI N 365 r.length 2) = some M3 := c1
          rw [if_pos (show nI k = (5 : Int32) by rw [k5]; rfl), w355_25 qN.1.1, b_i, qN.1.2.1, List.length_cons, nI_pred, zl_at 20 rfl (by omega) (by decide), b_i, b_i, c1, b_i]
        · rw [c2.I (by unfold Wah; omega), zI_sn _ _ (by omega)]; exact n33
        · rw [wtf_c] at wN ⊢; omega
      · obtain ⟨M3, c1, c2, c3, c4, c5, c6⟩ := tN.ahead (by omega) (by omega) qN
        rw [if_neg k5]
        refine h.okG (M1 := M3) (v := true) ?_ (fN.tr (c2.mo (fun x j z => by unfold Wah at z; unfold Wmp; omega))) c3 ?_ c4 ⟨by rw [List.length_cons]; omega, by rw [tot_c]; omega, by omega, ?_⟩
        · rw [rN]
          unfold f_X12_goesOn_596 f_X12_goesOn_613
          rw [if_neg (show ¬ nI k = (5 : Int32) from fun e => k5 ((nI_eq (b := 5) (by omega) (by decide)).mp e)), c1, b_i]
        · rw [c2.I (by unfold Wah; omega)]; exact n33
        · omega
    have F2 : FR (Wmp bi a) M M2 := (a2.mo (fun x j z => by unfold Wmp; omega)).tr (f2.mo (fun x j z => by unfold Wmp; omega))
    by_cases k4 : k = 4
    · have p4 : pw1 k = 1 := by rw [k4]; rfl
      obtain ⟨M3, d1, d2, d3⟩ := m_add (s := pr) (x := 0) (v := 0) q2 (by rw [List.length_append, emt_len]; omega) (fun _ => rfl)
      have hbi := hq.2.1.2
      rw [if_pos k4]
      refine fin M3 _ (F2.tr (d2.mo (fun x j z => by rw [List.length_append, emt_len] at z; unfold Wmp; omega))) (t2.fr d2 (fun j _ => by omega) (fun j => by omega)) ((d2.I (by omega)).trans hg33) d3 (by rw [List.length_append, List.length_append, emt_len, wtf_c]; show a + (cs.length + pend.length + 1) + _ ≤ p + 1; omega) ?_
      rw [run, if_pos (show nI k = (4 : Int32) by rw [k4]; rfl), w355_27 q2.1.1, b_i, zl_at 20 rfl (by omega) (by decide), b_i, hg, hpr (by unfold isP6; omega), d1, b_i]
    · rw [if_neg k4, List.append_nil]
      refine fin M2 _ F2 t2 hg33 q2 (by rw [List.length_append, emt_len, wtf_c]; omega) ?_
      rw [run, if_neg (show ¬ nI k = (4 : Int32) from fun e => k4 ((nI_eq (b := 4) (by omega) (by decide)).mp e))]
  · intro sc
    refine h.bdG (M1 := zsI (zsI M 355 8 1) 355 9 (zI M 355 4)) ?_ (flt_at rfl (by rw [ht.1.2.1.1]; unfold tBd; rw [if_neg (by omega)]))
    rw [e]
    unfold f_X12_goesOn_531 f_X12_goesOn_546
    rw [ht.sg c rfl (by omega), b_i, sc]
    dsimp only
    rw [if_pos b01_f, m_blame ht.2, b_i, zI_sn _ _ (by omega), zI_se, if_neg (by decide)]
end
