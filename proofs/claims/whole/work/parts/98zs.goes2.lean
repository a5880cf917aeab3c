/-! chip: the model's loop, what follows an operand (2) -/
section
variable {b : Nat → Nat} {z : Nat} {w : Bool} {bi a o p : Nat} {M : Mem} {fs r : List Frm} {cs : Cds} {k ph pr : Nat} {bg opd : Bool} {ops pend : List Nat} {x1 : Int32}
theorem go_188 (h : MTk b z M p) (q : MQz w bi a M ((k, ph, bg, pr, ops) :: r) o cs) (hk : tK (tok b z p) ≤ 3) (hl : r.length < 20) (h10 : k < 10) (hph : ph < 10) (na : 2 ≤ ph ∨ (osm (tok b z p) = 0 ∧ opr (tok b z p) = 0)) : f_X12_goesOn 355 M = f_X12_goesOn_188 355 (nI r.length) (nI k) (b01 (tst6 k)) M := by
  rw [go_top h q hk hl h10]
  by_cases c : 2 ≤ ph
  · rw [if_pos (show (2 : Int32) ≤ nI ph from nI_le (a := 2) c (by omega))]
  · rw [if_neg (show ¬ (2 : Int32) ≤ nI ph from nI_ge (b := 2) (by omega) (by decide)), if_pos (na.resolve_left c)]
theorem go_cmp (h : MSt b z w bi a M ((k, 0, bg, pr, pend ++ ops) :: r) o cs p true) (h10 : k < 10) (ht6 : tst6 k = true) (hc : ¬ ocm (tok b z p) = 0) (hB : ∀ q, ops.head? = some q → rnk q < 5) (hp : ∀ q ∈ pend, 5 ≤ rnk q) (hn : nts pend ≤ o) (ho : ops.length + tot r < 100) : OKs b z w bi a x1 M 1 ((k, 1, bg, pr, ocm (tok b z p) :: ops) :: r) (o - nts pend) (cs ++ emt pend) (nxp b z p) false := by
  obtain ⟨ht, h33, hq, hb1, hb2, hb3, hb4⟩ := id h
  rw [List.length_cons] at hb1
  rw [wtf_c, List.length_append] at hb4
  have hz := ht.1.1.2.1
  have hpz := ht.1.2.2
  have k3 := (ocm_k hc).1
  obtain ⟨M1, a1, a2, a3⟩ := m_joinsW (x := 5) (least := 5) rfl (by decide) hB hp (by omega) (by omega) (by omega) hn (by omega) hq
  have t1 : MTk b z M1 p := ht.fr a2 (fun j _ => by omega) (fun j => by omega)
  have c31 : 31 ≤ ocm (tok b z p) ∧ ocm (tok b z p) ≤ 43 := by
    rcases (ocm_k hc).2 with ⟨-, e2⟩ | ⟨-, -, e2⟩ | ⟨-, -, -, e2⟩ <;> omega
  obtain ⟨M2, b1, b2, b3⟩ := m_holds (q := ocm (tok b z p)) a3 c31 (by rw [tot_c]; omega)
  obtain ⟨f3, q3⟩ := m_ph b3 1
  have t3 : MTk b z (zsI M2 365 r.length (nI 1)) p := (t1.fr b2 (fun j _ => by omega) (fun j => by omega)).fr f3 (fun j _ => by omega) (fun j => by omega)
  obtain ⟨M3, c1, c2, c3, c4, c5, c6⟩ := t3.ahead (by omega) (by omega) q3
  have g : FR (fun x j => x = 355 ∧ j = 33) M3 (zsI M3 355 33 0) := (FR.rf (fun x j => x = 355 ∧ j = 33) M3).sI ⟨rfl, rfl⟩
  have n0 : osm (tok b z p) = 0 ∧ opr (tok b z p) = 0 := by
    have vv : tV (tok b z p) = 60 ∨ tV (tok b z p) = 62 ∨ tV (tok b z p) = 61 := by
      rcases (ocm_k hc).2 with ⟨s1, -⟩ | ⟨-, s1, -⟩ | ⟨-, -, s1, -⟩
      · exact Or.inl (isSg_iff.mp s1).2
      · exact Or.inr (Or.inl (isSg_iff.mp s1).2)
      · exact Or.inr (Or.inr (isSg_iff.mp s1).2)
    have nn : ∀ c, ¬ (c = 60 ∨ c = 62 ∨ c = 61) → isSg (tok b z p) c = false := fun c hc => Bool.eq_false_iff.mpr (fun q => by have := (isSg_iff.mp q).2; omega)
    unfold osm opr
    rw [nn 43 (by omega), nn 45 (by omega), nn 42 (by omega), nn 47 (by omega), nn 37 (by omega)]
    exact ⟨rfl, rfl⟩
  refine h.okG (M1 := zsI M3 355 33 0) (v := false) ?_ ((a2.mo (fun x j z => by unfold Wmp; omega)).tr ((b2.mo (fun x j z => by unfold Wmp; omega)).tr ((f3.mo (fun x j z => by unfold Wmp; omega)).tr ((c2.mo (fun x j z => by unfold Wah at z; unfold Wmp; omega)).tr (g.mo (fun x j z => by unfold Wmp; omega)))))) (c3.fr g (fun j _ => by omega) (fun j => by omega)) (zI_se _ _ _ _) (c4.fr g (fun j _ => by omega) (fun x j _ _ => by omega)) ⟨by rw [List.length_cons]; omega, by rw [tot_c, List.length_cons]; omega, by omega, ?_⟩
  · rw [go_188 ht hq (by omega) (by omega) h10 (by omega) (Or.inr n0), ht6]
    unfold f_X12_goesOn_188
    have fin : ∀ y, y = nI (ocm (tok b z p)) → f_X12_goesOn_264 355 (nI r.length) 355 y M1 = some (1, zsI M3 355 33 0) := fun y hy => by
      unfold f_X12_goesOn_264
      have c1 : f_X12_ahead 355 (zsI M2 365 r.length 1) = some M3 := c1
      rw [hy, b1, b_i, w355_25 b3.1.1, b_i, zl_at 20 rfl (by omega) (by decide), b_i, b_i, c1, b_i, b_i]
    have j228 : f_X12_goesOn_228 355 (nI r.length) M = some (1, zsI M3 355 33 0) := by
      unfold f_X12_goesOn_228
      rw [a1, b_i, t1.sg 60 (x := 60) rfl (by decide), b_i]
      rcases (ocm_k hc).2 with ⟨s1, s2⟩ | ⟨s1, s2, s3⟩ | ⟨s1, s2, s3, s4⟩
      · rw [s1]
        dsimp only
        rw [if_neg b01_n0]; exact fin _ (by rw [s2]; rfl)
      · rw [s1]
        dsimp only
        rw [if_pos b01_f, t1.sg 62 (x := 62) rfl (by decide), b_i, s2]
        dsimp only
        rw [if_neg b01_n0]; exact fin _ (by rw [s3]; rfl)
      · rw [s1]
        dsimp only
        rw [if_pos b01_f, t1.sg 62 (x := 62) rfl (by decide), b_i, s2]
        dsimp only
        rw [if_pos b01_f]; exact fin _ (by rw [s4]; rfl)
    have hF := hq.2.2.2.2
    rw [if_neg b01_n0, w355_25 hq.1.1, b_i, zl_at 20 rfl (by omega) (by decide), b_i, hF.1.2.1, show fPh (k, 0, bg, pr, pend ++ ops) = 0 from rfl, if_pos (show nI 0 = 0 from rfl), ht.sg 60 (x := 60) rfl (by decide), b_i]
    rcases (ocm_k hc).2 with ⟨s1, s2⟩ | ⟨s1, s2, s3⟩ | ⟨s1, s2, s3, s4⟩
    · rw [s1]
      dsimp only
      rw [if_neg b01_n0]; exact j228
    · rw [s1]
      dsimp only
      rw [if_pos b01_f, ht.sg 62 (x := 62) rfl (by decide), b_i, s2]
      dsimp only
      rw [if_neg b01_n0]; exact j228
    · rw [s1]
      dsimp only
      rw [if_pos b01_f, ht.sg 62 (x := 62) rfl (by decide), b_i, s2]
      dsimp only
      rw [if_pos b01_f, ht.sg 61 (x := 61) rfl (by decide), b_i, s3]
      dsimp only
      rw [if_neg b01_n0]; exact j228
  · rw [wtf_c, List.length_append, emt_len, List.length_cons]; omega
theorem go_285 (h : MTk b z M p) (q : MQz w bi a M ((k, ph, bg, pr, ops) :: r) o cs) (hk : tK (tok b z p) ≤ 3) (hl : r.length < 20) (h10 : k < 10) (hph : ph < 10) (na : 2 ≤ ph ∨ (osm (tok b z p) = 0 ∧ opr (tok b z p) = 0)) (nc : tst6 k = true → ph = 0 → ocm (tok b z p) = 0) : f_X12_goesOn 355 M = f_X12_goesOn_285 355 (nI r.length) (nI k) (b01 (tst6 k)) M := by
  rw [go_188 h q hk hl h10 hph na]
  unfold f_X12_goesOn_188
  have hF := q.2.2.2.2
  cases ht : tst6 k with
  | false => exact if_pos rfl
  | true =>
    rw [if_neg b01_n0, w355_25 q.1.1, b_i, zl_at 20 rfl hl (by decide), b_i, hF.1.2.1, show fPh (k, ph, bg, pr, ops) = ph from rfl]
    by_cases c : ph = 0
    · obtain ⟨s1, s2, s3⟩ := ocm_0 (nc ht c)
      rw [if_pos (show nI ph = 0 by rw [c]; rfl), h.sg 60 (x := 60) rfl (by decide), b_i, s1]
      dsimp only
      rw [if_pos b01_f, h.sg 62 (x := 62) rfl (by decide), b_i, s2]
      dsimp only
      rw [if_pos b01_f, h.sg 61 (x := 61) rfl (by decide), b_i, s3]
      exact if_pos rfl
    · rw [if_neg (nI_ne0 (by omega) (by omega))]
theorem na_k1 (h : tK (tok b z p) = 1) : (osm (tok b z p) = 0 ∧ opr (tok b z p) = 0) ∧ ocm (tok b z p) = 0 := by
  have nn : ∀ c, isSg (tok b z p) c = false := fun c => Bool.eq_false_iff.mpr (fun q => by have := (isSg_iff.mp q).1; omega)
  unfold osm opr ocm
  simp only [nn]
  exact ⟨⟨rfl, rfl⟩, rfl⟩
theorem go_logic (h : MSt b z w bi a M ((k, ph, bg, pr, pend ++ ops) :: r) o cs p true) (h10 : k < 10) (hph : ph < 10) (ht6 : tst6 k = true) {c least i : Nat} (hc : (i = 22 ∧ c = 41 ∧ least = 2) ∨ (i = 21 ∧ c = 42 ∧ least = 1)) (hi : isOw (tok b z p) i = true) (hB : ∀ q, ops.head? = some q → rnk q < least) (hp : ∀ q ∈ pend, least ≤ rnk q) (hn : nts pend ≤ o) (ho : ops.length + tot r < 100) : (¬ ph = 0 → OKs b z w bi a x1 M 1 ((k, 0, true, pr, c :: ops) :: r) (o - nts pend) (cs ++ emt pend) (nxp b z p) false) ∧ (ph = 0 → BDs bi a x1 M 2 (1, tBd (tok b z p))) := by
  obtain ⟨ht, h33, hq, hb1, hb2, hb3, hb4⟩ := id h
  rw [List.length_cons] at hb1
  rw [wtf_c, List.length_append] at hb4
  have hz := ht.1.1.2.1
  have hpz := ht.1.2.2
  have k1 := (isOw_iff.mp hi).1
  have hoi := (isOw_iff.mp hi).2
  have ow' : ∀ j, isOw (tok b z p) j = decide (j = i) := fun j => by
    by_cases q : j = i
    · rw [q, hi, decide_eq_true rfl]
    · rw [decide_eq_false q]; exact Bool.eq_false_iff.mpr (fun z => q ((isOw_iff.mp z).2.symm.trans hoi))
  obtain ⟨n0, n1⟩ := na_k1 k1
  have hF := hq.2.2.2.2
  have e : f_X12_goesOn 355 M = f_X12_goesOn_309 355 (nI r.length) M := by
    rw [go_285 ht hq (by omega) (by omega) h10 hph (Or.inr n0) (fun _ _ => n1), ht6]
    unfold f_X12_goesOn_285
    rw [if_neg b01_n0, ht.ow (by omega) 22 cw.2.2.2.2.2.1 (by decide), b_i, ow']
    dsimp only
    rcases hc with ⟨i1, -, -⟩ | ⟨i1, -, -⟩
    · subst i1; exact if_neg b01_n0
    · subst i1
      rw [if_pos (show b01 (decide (22 = 21)) = 0 from rfl), ht.ow (by omega) 21 cw.2.2.2.2.2.2 (by decide), b_i, ow']
      exact if_neg b01_n0
  constructor
  · intro p0
    have hl6 : least < 100 := by omega
    obtain ⟨M1, a1, a2, a3⟩ := m_joinsW (x := nI least) rfl hl6 hB hp (by omega) (by omega) (by omega) hn (by omega) hq
    have t1 : MTk b z M1 p := ht.fr a2 (fun j _ => by omega) (fun j => by omega)
    have c31 : 31 ≤ c ∧ c ≤ 43 := by omega
    obtain ⟨M2, b1, b2, b3⟩ := m_holds (q := c) a3 c31 (by rw [tot_c]; omega)
    obtain ⟨f3, q3⟩ := m_ph b3 0
    obtain ⟨f4, q4⟩ := m_bg q3 true
    have t4 : MTk b z (zsI (zsI M2 365 r.length (nI 0)) 366 r.length (b01 true)) p := ((t1.fr b2 (fun j _ => by omega) (fun j => by omega)).fr f3 (fun j _ => by omega) (fun j => by omega)).fr f4 (fun j _ => by omega) (fun j => by omega)
    obtain ⟨M3, c1, c2, c3, c4, c5, c6⟩ := t4.ahead (by omega) (by omega) q4
    have g : FR (fun x j => x = 355 ∧ j = 33) M3 (zsI M3 355 33 0) := (FR.rf (fun x j => x = 355 ∧ j = 33) M3).sI ⟨rfl, rfl⟩
    refine h.okG (M1 := zsI M3 355 33 0) (v := false) ?_ ((a2.mo (fun x j z => by unfold Wmp; omega)).tr ((b2.mo (fun x j z => by unfold Wmp; omega)).tr ((f3.mo (fun x j z => by unfold Wmp; omega)).tr ((W366 f4).tr ((c2.mo (fun x j z => by unfold Wah at z; unfold Wmp; omega)).tr (g.mo (fun x j z => by unfold Wmp; omega))))))) (c3.fr g (fun j _ => by omega) (fun j => by omega)) (zI_se _ _ _ _) (c4.fr g (fun j _ => by omega) (fun x j _ _ => by omega)) ⟨by rw [List.length_cons]; omega, by rw [tot_c, List.length_cons]; omega, by omega, ?_⟩
    · have fin : ∀ y, y = nI c → f_X12_goesOn_372 355 (nI r.length) 355 y M1 = some (1, zsI M3 355 33 0) := fun y hy => by
        unfold f_X12_goesOn_372
        have c1 : f_X12_ahead 355 (zsI (zsI M2 365 r.length 0) 366 r.length 1) = some M3 := c1
        rw [hy, b1, b_i, w355_25 b3.1.1, b_i, zl_at 20 rfl (by omega) (by decide), b_i, b_i, show zrf (zsI M2 365 r.length 0) 355 26 = some 366 from w355_26 b3.1.1, b_i, zl_at 20 rfl (by omega) (by decide), b_i, b_i, c1, b_i, b_i]
      rw [e]
      unfold f_X12_goesOn_309
      rw [w355_25 hq.1.1, b_i, zl_at 20 rfl (by omega) (by decide), b_i, hF.1.2.1, show fPh (k, ph, bg, pr, pend ++ ops) = ph from rfl, if_neg (nI_ne0 (by omega) (by omega))]
      unfold f_X12_goesOn_327 f_X12_goesOn_356
      rw [ht.2, if_pos (by decide), ht.ow (by omega) 22 cw.2.2.2.2.2.1 (by decide), b_i, ow']
      dsimp only
      rcases hc with ⟨i1, i2, i3⟩ | ⟨i1, i2, i3⟩
      · subst i1; subst i2; subst i3
        have a1 : f_X12_joins 355 2 M = some M1 := a1
        rw [if_neg (show ¬ b01 (decide (22 = 22)) = 0 by decide), a1, b_i, if_neg (show ¬ b01 (decide (22 = 22)) = 0 by decide)]
        exact fin _ rfl
      · subst i1; subst i2; subst i3
        have a1 : f_X12_joins 355 1 M = some M1 := a1
        rw [if_pos (show b01 (decide (22 = 21)) = 0 from rfl), a1, b_i, if_pos (show b01 (decide (22 = 21)) = 0 from rfl)]
        exact fin _ rfl
    · rw [wtf_c, List.length_append, emt_len, List.length_cons]; omega
  · intro p0
    refine h.bdG (M1 := zsI (zsI M 355 8 1) 355 9 (zI M 355 4)) ?_ (flt_at rfl (by rw [ht.1.2.1.1]; unfold tBd; rw [if_neg (by omega)]))
    rw [e]
    unfold f_X12_goesOn_309
    rw [w355_25 hq.1.1, b_i, zl_at 20 rfl (by omega) (by decide), b_i, hF.1.2.1, show fPh (k, ph, bg, pr, pend ++ ops) = ph from rfl, if_pos (show nI ph = 0 by rw [p0]; rfl), m_blame ht.2, b_i]
    unfold f_X12_goesOn_327
    rw [zI_sn _ _ (by omega), zI_se, if_neg (by decide)]
theorem go_400 (h : MTk b z M p) (q : MQz w bi a M ((k, ph, bg, pr, ops) :: r) o cs) (hk : tK (tok b z p) ≤ 3) (hl : r.length < 20) (h10 : k < 10) (hph : ph < 10) (na : 2 ≤ ph ∨ (osm (tok b z p) = 0 ∧ opr (tok b z p) = 0)) (nc : tst6 k = true → (ph = 0 → ocm (tok b z p) = 0) ∧ isOw (tok b z p) 22 = false ∧ isOw (tok b z p) 21 = false) : f_X12_goesOn 355 M = f_X12_goesOn_400 355 (nI r.length) (nI k) (b01 (tst6 k)) M := by
  rw [go_285 h q hk hl h10 hph na (fun e => (nc e).1)]
  unfold f_X12_goesOn_285
  cases ht : tst6 k with
  | false => exact if_pos rfl
  | true =>
    rw [if_neg b01_n0, h.ow hk 22 cw.2.2.2.2.2.1 (by decide), b_i, (nc ht).2.1]
    dsimp only
    rw [if_pos b01_f, h.ow hk 21 cw.2.2.2.2.2.2 (by decide), b_i, (nc ht).2.2]
    exact if_pos rfl
theorem go_422 (h : MTk b z M p) (q : MQz w bi a M ((k, ph, bg, pr, ops) :: r) o cs) (hk : tK (tok b z p) ≤ 3) (hl : r.length < 20) (h10 : k < 10) (hph : ph < 10) (na : 2 ≤ ph ∨ (osm (tok b z p) = 0 ∧ opr (tok b z p) = 0)) (nc : tst6 k = true → ¬ ph = 0 ∧ isOw (tok b z p) 22 = false ∧ isOw (tok b z p) 21 = false) : f_X12_goesOn 355 M = f_X12_goesOn_422 355 (nI r.length) (nI k) M := by
  rw [go_400 h q hk hl h10 hph na (fun e => ⟨fun x => absurd x (nc e).1, (nc e).2⟩)]
  unfold f_X12_goesOn_400
  have hF := q.2.2.2.2
  cases ht : tst6 k with
  | false => exact if_pos rfl
  | true =>
    rw [if_neg b01_n0, w355_25 q.1.1, b_i, zl_at 20 rfl hl (by decide), b_i, hF.1.2.1, show fPh (k, ph, bg, pr, ops) = ph from rfl, if_neg (nI_ne0 (by have := (nc ht).1; omega) (by omega))]
theorem f422F {x : Int32} {t : Tok} (hk : k < 10) (hT : TM M t) (hv : tK t = 3 → tV t < 256) (h4 : tK t ≤ 4) (h8 : ¬ zI M 355 8 ≤ 0) (h8' : ¬ zI M 355 8 = 0) : f_X12_goesOn_422 355 x (nI k) M = some (0, M) := by
  have e452 : f_X12_goesOn_452 355 x (nI k) M = some (0, M) := by
    unfold f_X12_goesOn_452 f_X12_goesOn_470
    rw [tm_sg hT hv h4 (c := 44) (x := 44) rfl (by decide), b_i]
    dsimp only
    cases isSg t 44 with
    | true => rw [if_neg b01_n0, if_neg h8]
    | false => rw [if_pos b01_f, m_blame2 h8, b_i, if_neg h8]
  have e531 : ∀ c y, y = nI c → c < 256 → f_X12_goesOn_531 355 x (nI k) 355 y M = some (0, M) := fun c y hy hc => by
    unfold f_X12_goesOn_531 f_X12_goesOn_546
    rw [tm_sg hT hv h4 hy hc, b_i]
    dsimp only
    cases isSg t c with
    | true => rw [if_neg b01_n0, if_neg h8]
    | false => rw [if_pos b01_f, m_blame2 h8, b_i, if_neg h8]
  unfold f_X12_goesOn_422 f_X12_goesOn_439
  by_cases c2 : (2 : Int32) ≤ nI k
  · rw [if_pos c2]
    by_cases c3 : nI k = (3 : Int32)
    · rw [if_pos c3]; exact e452
    rw [if_neg c3]
    by_cases c6 : nI k = (6 : Int32)
    · rw [if_pos c6]; exact e452
    rw [if_neg c6]
    by_cases c5 : nI k = (5 : Int32)
    · rw [if_pos c5]; exact e531 93 _ rfl (by decide)
    · rw [if_neg c5]; exact e531 41 _ rfl (by decide)
  · rw [if_neg c2, if_neg h8']
theorem bl_T {x y : Int32} (h : MTk b z M p) : TM (zsI (zsI M 355 8 x) 355 9 y) (tok b z p) := h.1.2.1.fr (W := fun x j => x = 355 ∧ (j = 8 ∨ j = 9)) (FR.sI (FR.sI (FR.rf _ M) (by omega)) (by omega)) (fun j _ => by omega)
/-- a comparison is wanted -/
theorem go_want (h : MSt b z w bi a M ((k, 0, bg, pr, ops) :: r) o cs p true) (h10 : k < 10) (ht6 : tst6 k = true) (hk : tK (tok b z p) ≤ 3) (n0 : osm (tok b z p) = 0 ∧ opr (tok b z p) = 0) (nc : ocm (tok b z p) = 0) : BDs bi a x1 M 2 (1, tBd (tok b z p)) := by
  obtain ⟨ht, h33, hq, hb1, hb2, hb3, hb4⟩ := id h
  rw [List.length_cons] at hb1
  have hF := hq.2.2.2.2
  have hok := ht.ok
  refine h.bdG (M1 := zsI (zsI M 355 8 1) 355 9 (zI M 355 4)) ?_ (flt_at rfl (by rw [ht.1.2.1.1]; unfold tBd; rw [if_neg (by omega)]))
  have n8 : zI (zsI (zsI M 355 8 1) 355 9 (zI M 355 4)) 355 8 = 1 := by rw [zI_sn _ _ (by omega), zI_se]
  have e309 : f_X12_goesOn_309 355 (nI r.length) M = some (0, zsI (zsI M 355 8 1) 355 9 (zI M 355 4)) := by
    unfold f_X12_goesOn_309
    rw [w355_25 hq.1.1, b_i, zl_at 20 rfl (by omega) (by decide), b_i, hF.1.2.1, show fPh (k, 0, bg, pr, ops) = 0 from rfl, if_pos (show nI 0 = 0 from rfl), m_blame ht.2, b_i]
    unfold f_X12_goesOn_327
    rw [n8, if_neg (by decide)]
  rw [go_285 ht hq hk (by omega) h10 (by omega) (Or.inr n0) (fun _ _ => nc), ht6]
  unfold f_X12_goesOn_285
  rw [if_neg b01_n0, ht.ow hk 22 cw.2.2.2.2.2.1 (by decide), b_i]
  dsimp only
  cases isOw (tok b z p) 22 with
  | true => rw [if_neg b01_n0]; exact e309
  | false =>
    rw [if_pos b01_f, ht.ow hk 21 cw.2.2.2.2.2.2 (by decide), b_i]
    dsimp only
    cases isOw (tok b z p) 21 with
    | true => rw [if_neg b01_n0]; exact e309
    | false =>
      rw [if_pos b01_f]
      unfold f_X12_goesOn_400
      rw [if_neg b01_n0, w355_25 hq.1.1, b_i, zl_at 20 rfl (by omega) (by decide), b_i, hF.1.2.1, show fPh (k, 0, bg, pr, ops) = 0 from rfl, if_pos (show nI 0 = 0 from rfl), m_blame ht.2, b_i]
      exact f422F h10 (bl_T ht) hok.2.2.2.2.2.2.1 hok.1 (by rw [n8]; decide) (by rw [n8]; decide)
theorem go_fin (h : MSt b z w bi a M ((k, ph, bg, pr, pend) :: r) o cs p true) (hk2 : k < 2) (hph : ph < 10) (hk : tK (tok b z p) ≤ 3) (na : 2 ≤ ph ∨ (osm (tok b z p) = 0 ∧ opr (tok b z p) = 0)) (nc : tst6 k = true → ¬ ph = 0 ∧ isOw (tok b z p) 22 = false ∧ isOw (tok b z p) 21 = false) (hp : ∀ q ∈ pend, 1 ≤ rnk q) (hn : nts pend ≤ o) : ∃ M', ENDs x1 M M' 2 ∧ FR (Wmp bi a) M M' ∧ MTk b z M' p ∧ MQz w bi a M' ((k, ph, bg, pr, []) :: r) (o - nts pend) (cs ++ emt pend) := by
  obtain ⟨ht, h33, hq, hb1, hb2, hb3, hb4⟩ := id h
  rw [List.length_cons] at hb1
  rw [wtf_c] at hb4
  have hz := ht.1.1.2.1
  have hpz := ht.1.2.2
  have hq' : MQz w bi a M ((k, ph, bg, pr, pend ++ []) :: r) o cs := by rw [List.append_nil]; exact hq
  obtain ⟨M1, a1, a2, a3⟩ := m_joinsW (x := 1) (least := 1) rfl (by decide) (fun q e => by cases e) hp (by omega) (by rw [List.append_nil]; omega) (by omega) hn (by omega) hq'
  refine ⟨M1, end_go h.2.1 ?_ (Or.inl rfl), a2.mo (fun x j z => by unfold Wmp; omega), ht.fr a2 (fun j _ => by omega) (fun j => by omega), a3⟩
  rw [go_422 ht hq hk (by omega) (by omega) hph na nc]
  unfold f_X12_goesOn_422 f_X12_goesOn_439
  rw [if_neg (show ¬ (2 : Int32) ≤ nI k from nI_ge (b := 2) hk2 (by decide)), ht.2, if_pos rfl, a1, b_i]
theorem m_kd {k' : Nat} (h : MQz w bi a M ((k, ph, bg, pr, ops) :: r) o cs) (hp : isP6 k' → isP6 k) {v : Int32} (hv : v = nI k') : FR (fun x j => x = 364 ∧ j = r.length) M (zsI M 364 r.length v) ∧ MQz w bi a (zsI M 364 r.length v) ((k', ph, bg, pr, ops) :: r) o cs := by
  obtain ⟨⟨hW, h29, h30, h32⟩, ⟨h22, hb⟩, ⟨h21, hP⟩, h23, hF⟩ := h
  have f1 : FR (fun x j => x = 364 ∧ j = r.length) M (zsI M 364 r.length v) := (FR.rf (fun x j => x = 364 ∧ j = r.length) M).sI ⟨rfl, rfl⟩
  exact ⟨f1, ⟨f1.W hW, (f1.I (by omega)).trans h29, (f1.I (by omega)).trans h30, (f1.I (by omega)).trans h32⟩, ⟨(f1.I (by omega)).trans h22, hb⟩, ⟨(f1.I (by omega)).trans h21, hP.fj f1 (fun j _ _ => by omega)⟩, (f1.I (by omega)).trans h23, ⟨⟨(zI_se _ _ _ _).trans hv, (f1.I (by omega)).trans hF.1.2.1, (f1.I (by omega)).trans hF.1.2.2.1, fun z => (f1.I (by omega)).trans (hF.1.2.2.2.1 (hp z)), (f1.I (by omega)).trans hF.1.2.2.2.2⟩, OPS.fj f1 (fun j _ _ => by omega) hF.2.1, hF.2.2.fj f1 (fun x j _ _ _ => by omega) (fun j _ => by omega)⟩⟩
theorem go_comma {k' : Nat} (h : MSt b z w bi a M ((k, ph, bg, pr, pend) :: r) o cs p true) (hkk : (k = 3 ∧ k' = 4) ∨ (k = 6 ∧ k' = 3)) (hph : ph < 10) (hk : tK (tok b z p) ≤ 3) (na : 2 ≤ ph ∨ (osm (tok b z p) = 0 ∧ opr (tok b z p) = 0)) (nc : tst6 k = true → ¬ ph = 0 ∧ isOw (tok b z p) 22 = false ∧ isOw (tok b z p) 21 = false) (hp : ∀ q ∈ pend, 1 ≤ rnk q) (hn : nts pend ≤ o) : (isSg (tok b z p) 44 = true → OKs b z w bi a x1 M 1 ((k', 0, bg, pr, []) :: r) (o - nts pend) (cs ++ emt pend) (nxp b z p) false) ∧ (isSg (tok b z p) 44 = false → BDs bi a x1 M 2 (1, tBd (tok b z p))) := by
  obtain ⟨ht, h33, hq, hb1, hb2, hb3, hb4⟩ := id h
  rw [List.length_cons] at hb1
  rw [wtf_c] at hb4
  have hz := ht.1.1.2.1
  have hpz := ht.1.2.2
  have e : f_X12_goesOn 355 M = f_X12_goesOn_452 355 (nI r.length) (nI k) M := by
    rw [go_422 ht hq hk (by omega) (by omega) hph na nc]
    unfold f_X12_goesOn_422
    rcases hkk with ⟨e1, -⟩ | ⟨e1, -⟩
    · subst e1; rw [if_pos (by decide)]; exact if_pos rfl
    · subst e1; rw [if_pos (by decide), if_neg (by decide)]; exact if_pos rfl
  constructor
  · intro s44
    have k3 := (isSg_iff.mp s44).1
    have hq' : MQz w bi a M ((k, ph, bg, pr, pend ++ []) :: r) o cs := by rw [List.append_nil]; exact hq
    obtain ⟨M1, a1, a2, a3⟩ := m_joinsW (x := 1) (least := 1) rfl (by decide) (fun q e => by cases e) hp (by omega) (by rw [List.append_nil]; omega) (by omega) hn (by omega) hq'
    obtain ⟨f2, q2⟩ := m_kd (k' := k') (v := nI k') a3 (by unfold isP6; omega) rfl
    obtain ⟨f3, q3⟩ := m_ph q2 0
    have t3 : MTk b z (zsI (zsI M1 364 r.length (nI k')) 365 r.length (nI 0)) p := ((ht.fr a2 (fun j _ => by omega) (fun j => by omega)).fr f2 (fun j _ => by omega) (fun j => by omega)).fr f3 (fun j _ => by omega) (fun j => by omega)
    obtain ⟨M3, c1, c2, c3, c4, c5, c6⟩ := t3.ahead (by omega) (by omega) q3
    have g : FR (fun x j => x = 355 ∧ j = 33) M3 (zsI M3 355 33 0) := (FR.rf (fun x j => x = 355 ∧ j = 33) M3).sI ⟨rfl, rfl⟩
    refine h.okG (M1 := zsI M3 355 33 0) (v := false) ?_ ((a2.mo (fun x j z => by unfold Wmp; omega)).tr ((f2.mo (fun x j z => by unfold Wmp; omega)).tr ((f3.mo (fun x j z => by unfold Wmp; omega)).tr ((c2.mo (fun x j z => by unfold Wah at z; unfold Wmp; omega)).tr (g.mo (fun x j z => by unfold Wmp; omega)))))) (c3.fr g (fun j _ => by omega) (fun j => by omega)) (zI_se _ _ _ _) (c4.fr g (fun j _ => by omega) (fun x j _ _ => by omega)) ⟨by rw [List.length_cons]; omega, by rw [tot_c] at hb2 ⊢; rw [List.length_nil]; omega, by omega, ?_⟩
    · rw [e]
      unfold f_X12_goesOn_452 f_X12_goesOn_470
      rw [ht.sg 44 (x := 44) rfl (by decide), b_i, s44]
      dsimp only
      rw [if_neg b01_n0, ht.2, if_pos (by decide), a1, b_i, w355_24 a3.1.1, b_i]
      have fin : ∀ y, y = nI k' → f_X12_goesOn_499 355 (nI r.length) 364 (nI r.length) y M1 = some (1, zsI M3 355 33 0) := fun y hy => by
        unfold f_X12_goesOn_499
        have c1 : f_X12_ahead 355 (zsI (zsI M1 364 r.length (nI k')) 365 r.length 0) = some M3 := c1
        rw [hy, zl_at 20 rfl (by omega) (by decide), b_i, b_i, show zrf (zsI M1 364 r.length (nI k')) 355 25 = some 365 from w355_25 a3.1.1, b_i, zl_at 20 rfl (by omega) (by decide), b_i, b_i, c1, b_i, b_i]
      rcases hkk with ⟨e1, e2⟩ | ⟨e1, e2⟩
      · subst e1; subst e2; rw [if_pos (by decide)]; exact fin _ rfl
      · subst e1; subst e2; rw [if_neg (by decide)]; exact fin _ rfl
    · have p1 : pw1 k' = pw1 k := by rcases hkk with ⟨e1, e2⟩ | ⟨e1, e2⟩ <;> subst e1 <;> subst e2 <;> rfl
      rw [wtf_c, List.length_append, emt_len, List.length_nil, p1]; omega
  · intro s44
    refine h.bdG (M1 := zsI (zsI M 355 8 1) 355 9 (zI M 355 4)) ?_ (flt_at rfl (by rw [ht.1.2.1.1]; unfold tBd; rw [if_neg (by omega)]))
    rw [e]
    unfold f_X12_goesOn_452 f_X12_goesOn_470
    rw [ht.sg 44 (x := 44) rfl (by decide), b_i, s44]
    dsimp only
    rw [if_pos b01_f, m_blame ht.2, b_i, zI_sn _ _ (by omega), zI_se, if_neg (by decide)]
end
