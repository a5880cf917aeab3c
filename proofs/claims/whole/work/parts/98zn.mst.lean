/-! chip: the model's steps (1) -/
theorem TM.fr {W : Nat → Nat → Prop} {M M1 : Mem} {t : Tok} (h : TM M t) (f : FR W M M1) (hw : ∀ j, (3 ≤ j ∧ j ≤ 7) ∨ j = 12 → ¬ W 355 j) : TM M1 t := ⟨(f.I (hw _ (by omega))).trans h.1, fun q => ⟨(f.I (hw _ (by omega))).trans (h.2.1 q).1, (h.2.1 q).2.imp (fun e => (f.I (hw _ (by omega))).trans e) (fun e => (f.I (hw _ (by omega))).trans e)⟩, fun q => ⟨(f.I (hw _ (by omega))).trans (h.2.2.1 q).1, (f.I (hw _ (by omega))).trans (h.2.2.1 q).2.1, (f.I (hw _ (by omega))).trans (h.2.2.1 q).2.2⟩, fun q => ⟨(f.I (hw _ (by omega))).trans (h.2.2.2.1 q).1, (f.L (hw _ (by omega))).trans (h.2.2.2.1 q).2⟩, fun q => (f.I (hw _ (by omega))).trans (h.2.2.2.2 q)⟩
theorem tm_sg {M : Mem} {t : Tok} {c : Nat} {x : Int32} (h : TM M t) (hv : tK t = 3 → tV t < 256) (h4 : tK t ≤ 4) (hx : x = nI c) (hc : c < 256) : f_X12_isSign 355 x M = some (b01 (isSg t c), M) := by
  unfold f_X12_isSign f_X12_isSign_20 f_X12_isSign_21
  by_cases k3 : tK t = 3
  · rw [(h.2.2.1 (by omega)).2.1, k3, if_pos (show nI 3 = (3 : Int32) from rfl), h.2.2.2.2 (Or.inr k3)]
    by_cases q : tV t = c
    · rw [if_pos (by rw [q, hx]), zbz1, isSg_iff.mpr ⟨k3, q⟩]; rfl
    · rw [if_neg (fun e => q ((nI_eq (by have := hv k3; omega) (by omega)).mp (e.trans hx))), zbz0, show isSg t c = false from Bool.eq_false_iff.mpr (fun e => q (isSg_iff.mp e).2)]; rfl
  · have h3 : ¬ zI M 355 3 = 3 := by
      by_cases k4 : tK t = 4
      · rcases (h.2.1 k4).2 with e | e <;> rw [e] <;> decide
      · rw [(h.2.2.1 (by omega)).2.1]
        exact fun e => k3 ((nI_eq (b := 3) (by omega) (by decide)).mp e)
    rw [if_neg h3, zbz0, show isSg t c = false from Bool.eq_false_iff.mpr (fun e => k3 (isSg_iff.mp e).1)]; rfl
theorem tm_ow {M : Mem} {t : Tok} {i : Nat} {y : Int64} (h : TM M t) (hk : tK t ≤ 3) (hl : tK t = 1 → NM (tL t)) (hy : y = lN (pk8 (ow i))) (hi : i < 27) : f_X12_isWord 355 y M = some (b01 (isOw t i), M) := by
  unfold f_X12_isWord f_X12_isWord_21 f_X12_isWord_22
  by_cases k1 : tK t = 1
  · have z1 := (pk8_z (hl k1)).1
    have z2 := (pk8_z (ow_NM hi)).1
    rw [(h.2.2.1 hk).2.1, k1, if_pos (show nI 1 = (1 : Int32) from rfl), (h.2.2.2.1 k1).2, hy]
    by_cases q : owi (tL t) = i
    · rw [if_pos ((lc_ee (by omega) (by omega)).mpr (by rw [(owi_eq hi).mp q])), zbz1, isOw_iff.mpr ⟨k1, q⟩]; rfl
    · rw [if_neg (fun e => q ((owi_eq hi).mpr (pk8_inj (hl k1) (ow_NM hi) ((lc_ee (by omega) (by omega)).mp e)))), zbz0, show isOw t i = false from Bool.eq_false_iff.mpr (fun e => q (isOw_iff.mp e).2)]; rfl
  · rw [(h.2.2.1 hk).2.1, if_neg (show ¬ nI (tK t) = (1 : Int32) from fun e => k1 ((nI_eq (b := 1) (by omega) (by decide)).mp e)), zbz0, show isOw t i = false from Bool.eq_false_iff.mpr (fun e => k1 (isOw_iff.mp e).1)]; rfl
theorem m_blame {M : Mem} {x y : Int32} (h : zI M 355 8 = 0) : f_X12_blame 355 x y M = some (zsI (zsI M 355 8 x) 355 9 y) := by
  unfold f_X12_blame
  rw [h, if_pos (by decide), b_i, b_i]
theorem m_blame2 {M : Mem} {x y : Int32} (h : ¬ zI M 355 8 ≤ 0) : f_X12_blame 355 x y M = some M := by
  unfold f_X12_blame
  rw [if_neg h]
theorem m_lex {M : Mem} {t : Tok} (h : TM M t) (hk : tK t ≤ 3) : f_X12_lex 355 M = some M := by
  unfold f_X12_lex f_X12_lex_17
  rw [(h.2.2.1 hk).1, if_pos rfl]
theorem m_lex4 {M : Mem} {t : Tok} (h : TM M t) (h8 : zI M 355 8 = 0) (hk : tK t = 4) (hv : tV t < 2 ^ 31) : f_X12_lex 355 M = some (zsI (zsI M 355 8 1) 355 9 (nI (tV t))) := by
  unfold f_X12_lex f_X12_lex_17
  rw [(h.2.1 hk).1, if_neg (nI_nm hv), m_blame h8, b_i]
section
variable {b : Nat → Nat} {z : Nat} {w : Bool} {bi a o p : Nat} {M : Mem} {fs r : List Frm} {cs : Cds} {k ph pr : Nat} {bg opd : Bool} {ops : List Nat}
def MTk (b : Nat → Nat) (z : Nat) (M : Mem) (p : Nat) : Prop := (MTx M b z ∧ TM M (tok b z p) ∧ p ≤ z) ∧ zI M 355 8 = 0
theorem MTk.fr {W : Nat → Nat → Prop} {M1 : Mem} (h : MTk b z M p) (f : FR W M M1) (h1 : ∀ j, (2 ≤ j ∧ j ≤ 9) ∨ j = 12 → ¬ W 355 j) (h2 : ∀ j, ¬ W 356 j) : MTk b z M1 p := ⟨⟨h.1.1.fr f ⟨h1 2 (by omega), h1 9 (by omega)⟩ h2, h.1.2.1.fr f (fun j q => h1 j (by omega)), h.1.2.2⟩, (f.I (h1 _ (by omega))).trans h.2⟩
theorem MTk.by8 (h : MTk b z M p) : ∀ k, k < z → b k < 256 := fun k hk => (h.1.1.2.2.2.1 k hk).2
theorem MTk.ok (h : MTk b z M p) : tK (tok b z p) ≤ 4 ∧ p ≤ tS (tok b z p) ∧ tS (tok b z p) ≤ z ∧ (tK (tok b z p) ≤ 3 → ¬ tK (tok b z p) = 0 → p < tN (tok b z p) ∧ tN (tok b z p) ≤ z) ∧ (tK (tok b z p) = 1 → NM (tL (tok b z p))) ∧ (tK (tok b z p) = 2 → tV (tok b z p) < 10000) ∧ (tK (tok b z p) = 3 → tV (tok b z p) < 256) ∧ tBd (tok b z p) ≤ z := tok_ok h.by8 h.1.2.2
theorem MTk.sg (h : MTk b z M p) (c : Nat) {x : Int32} (hx : x = nI c) (hc : c < 256) : f_X12_isSign 355 x M = some (b01 (isSg (tok b z p) c), M) := tm_sg h.1.2.1 h.ok.2.2.2.2.2.2.1 h.ok.1 hx hc
theorem MTk.ow (h : MTk b z M p) (hk : tK (tok b z p) ≤ 3) (i : Nat) {y : Int64} (hy : y = lN (pk8 (ow i))) (hi : i < 27) : f_X12_isWord 355 y M = some (b01 (isOw (tok b z p) i), M) := tm_ow h.1.2.1 hk h.ok.2.2.2.2.1 hy hi
theorem MTk.ahead (h : MTk b z M p) (hk : tK (tok b z p) ≤ 3) (h0 : ¬ tK (tok b z p) = 0) (q : MQz w bi a M fs o cs) : ∃ M', f_X12_ahead 355 M = some M' ∧ FR Wah M M' ∧ MTk b z M' (nxp b z p) ∧ MQz w bi a M' fs o cs ∧ p < nxp b z p ∧ nxp b z p ≤ z := by
  obtain ⟨n1, n2⟩ := h.ok.2.2.2.1 hk h0
  obtain ⟨M', a1, a2, a3⟩ := s_mahead h.1.1 (h.1.2.1.2.2.1 hk).2.2 n2
  exact ⟨M', a1, a2, ⟨⟨h.1.1.ah a2, a3, n2⟩, (a2.I (by unfold Wah; omega)).trans h.2⟩, q.fr a2 (fun j q => by unfold Wah; omega) (fun x j _ _ => by unfold Wah; omega), n1, n2⟩
theorem m_holds {q : Nat} (h : MQz w bi a M ((k, ph, bg, pr, ops) :: r) o cs) (hq : 31 ≤ q ∧ q ≤ 43) (hl : tot ((k, ph, bg, pr, ops) :: r) < 500) : ∃ M', f_X12_holdsBack 355 (nI q) M = some M' ∧ FR (fun x j => (x = 355 ∧ j = 32) ∨ x = 369) M M' ∧ MQz w bi a M' ((k, ph, bg, pr, q :: ops) :: r) o cs := by
  obtain ⟨⟨hW, h29, h30, h32⟩, ⟨h22, hb⟩, ⟨h21, hP⟩, h23, hF⟩ := h
  obtain ⟨n, hn⟩ : ∃ n, n = tot ((k, ph, bg, pr, ops) :: r) := ⟨_, rfl⟩
  rw [← hn] at h32 hl
  have e : n = tot r + ops.length := by rw [hn, tot]; show ops.length + tot r = _; omega
  have f1 : FR (fun x j => (x = 355 ∧ j = 32) ∨ (x = 369 ∧ j = n)) M (zsI (zsI M 369 n (nI q)) 355 32 (nI n + 1)) := FR.sI (FR.sI (FR.rf (fun x j => (x = 355 ∧ j = 32) ∨ (x = 369 ∧ j = n)) M) (by omega)) (by omega)
  refine ⟨zsI (zsI M 369 n (nI q)) 355 32 (nI n + 1), ?_, f1.mo (fun x j z => by omega), ⟨f1.W hW, (f1.I (by omega)).trans h29, (f1.I (by omega)).trans h30, ?_⟩, ⟨(f1.I (by omega)).trans h22, hb⟩, ⟨(f1.I (by omega)).trans h21, hP.fj f1 (fun j _ _ => by omega)⟩, (f1.I (by omega)).trans h23, ⟨⟨(f1.I (by omega)).trans hF.1.1, (f1.I (by omega)).trans hF.1.2.1, (f1.I (by omega)).trans hF.1.2.2.1, fun z => (f1.I (by omega)).trans (hF.1.2.2.2.1 z), (f1.I (by omega)).trans hF.1.2.2.2.2⟩, ⟨?_, hq, OPS.fj f1 (fun j j1 j2 => by omega) hF.2.1⟩, hF.2.2.fj f1 (fun x j _ _ _ => by omega) (fun j j1 => by omega)⟩⟩
  · unfold f_X12_holdsBack
    rw [w355_31 hW, b_i, h32, zl_at 500 rfl hl (by decide), b_i, b_i, zI_sn _ _ (by omega), h32, b_i]
  · rw [zI_se, nI_1]; congr 1; rw [tot]; show n + 1 = (q :: ops).length + tot r; rw [List.length_cons]; omega
  · rw [zI_sn _ _ (by omega), show tot r + ops.length = n by omega, zI_se]
theorem m_ph (h : MQz w bi a M ((k, ph, bg, pr, ops) :: r) o cs) (ph' : Nat) : FR (fun x j => x = 365 ∧ j = r.length) M (zsI M 365 r.length (nI ph')) ∧ MQz w bi a (zsI M 365 r.length (nI ph')) ((k, ph', bg, pr, ops) :: r) o cs := by
  obtain ⟨⟨hW, h29, h30, h32⟩, ⟨h22, hb⟩, ⟨h21, hP⟩, h23, hF⟩ := h
  have f1 : FR (fun x j => x = 365 ∧ j = r.length) M (zsI M 365 r.length (nI ph')) := (FR.rf (fun x j => x = 365 ∧ j = r.length) M).sI ⟨rfl, rfl⟩
  exact ⟨f1, ⟨f1.W hW, (f1.I (by omega)).trans h29, (f1.I (by omega)).trans h30, (f1.I (by omega)).trans h32⟩, ⟨(f1.I (by omega)).trans h22, hb⟩, ⟨(f1.I (by omega)).trans h21, hP.fj f1 (fun j _ _ => by omega)⟩, (f1.I (by omega)).trans h23, ⟨⟨(f1.I (by omega)).trans hF.1.1, zI_se _ _ _ _, (f1.I (by omega)).trans hF.1.2.2.1, fun z => (f1.I (by omega)).trans (hF.1.2.2.2.1 z), (f1.I (by omega)).trans hF.1.2.2.2.2⟩, OPS.fj f1 (fun j _ _ => by omega) hF.2.1, hF.2.2.fj f1 (fun x j _ _ _ => by omega) (fun j _ => by omega)⟩⟩
theorem m_bg (h : MQz w bi a M ((k, ph, bg, pr, ops) :: r) o cs) (bg' : Bool) : FR (fun x j => x = 366 ∧ j = r.length) M (zsI M 366 r.length (b01 bg')) ∧ MQz w bi a (zsI M 366 r.length (b01 bg')) ((k, ph, bg', pr, ops) :: r) o cs := by
  obtain ⟨⟨hW, h29, h30, h32⟩, ⟨h22, hb⟩, ⟨h21, hP⟩, h23, hF⟩ := h
  have f1 : FR (fun x j => x = 366 ∧ j = r.length) M (zsI M 366 r.length (b01 bg')) := (FR.rf (fun x j => x = 366 ∧ j = r.length) M).sI ⟨rfl, rfl⟩
  exact ⟨f1, ⟨f1.W hW, (f1.I (by omega)).trans h29, (f1.I (by omega)).trans h30, (f1.I (by omega)).trans h32⟩, ⟨(f1.I (by omega)).trans h22, hb⟩, ⟨(f1.I (by omega)).trans h21, hP.fj f1 (fun j _ _ => by omega)⟩, (f1.I (by omega)).trans h23, ⟨⟨(f1.I (by omega)).trans hF.1.1, (f1.I (by omega)).trans hF.1.2.1, zI_se _ _ _ _, fun z => (f1.I (by omega)).trans (hF.1.2.2.2.1 z), (f1.I (by omega)).trans hF.1.2.2.2.2⟩, OPS.fj f1 (fun j _ _ => by omega) hF.2.1, hF.2.2.fj f1 (fun x j _ _ _ => by omega) (fun j _ => by omega)⟩⟩
theorem m_op (h : MQz w bi a M fs o cs) (o' : Nat) {v : Int32} (hv : v = nI o') : FR (fun x j => x = 355 ∧ j = 30) M (zsI M 355 30 v) ∧ MQz w bi a (zsI M 355 30 v) fs o' cs := by
  obtain ⟨⟨hW, h29, h30, h32⟩, ⟨h22, hb⟩, ⟨h21, hP⟩, h23, hF⟩ := h
  have f1 : FR (fun x j => x = 355 ∧ j = 30) M (zsI M 355 30 v) := (FR.rf (fun x j => x = 355 ∧ j = 30) M).sI ⟨rfl, rfl⟩
  exact ⟨f1, ⟨f1.W hW, (f1.I (by omega)).trans h29, (zI_se _ _ _ _).trans hv, (f1.I (by omega)).trans h32⟩, ⟨(f1.I (by omega)).trans h22, hb⟩, ⟨(f1.I (by omega)).trans h21, hP.fj f1 (fun j _ _ => by omega)⟩, (f1.I (by omega)).trans h23, hF.fj f1 (fun x j _ _ _ => by omega) (fun j _ => by omega)⟩
/-- pushes, and for pairs what they are -/
theorem m_push {kd : Nat} {x : Int32} (h : MQz w bi a M fs o cs) (hx : x = nI kd) (hl : fs.length < 20) : ∃ M', f_X12_pushes 355 x M = some M' ∧ FR (fun y j => (364 ≤ y ∧ y ≤ 368 ∧ j = fs.length) ∨ (y = 355 ∧ j = 29)) M M' ∧ zI M' 367 = zI M 367 ∧ (¬ isP6 kd → MQz w bi a M' ((kd, 0, true, 0, []) :: fs) o cs) ∧ (∀ pr, MQz w bi a (zsI M' 367 fs.length (nI pr)) ((kd, 0, true, pr, []) :: fs) o cs) := by
  obtain ⟨⟨hW, h29, h30, h32⟩, ⟨h22, hb⟩, ⟨h21, hP⟩, h23, hF⟩ := h
  obtain ⟨n, hn⟩ : ∃ n, n = fs.length := ⟨_, rfl⟩
  rw [← hn] at h29 hl ⊢
  have f1 : FR (fun y j => ((y = 364 ∨ y = 365 ∨ y = 366 ∨ y = 368) ∧ j = n) ∨ (y = 355 ∧ j = 29)) M (zsI (zsI (zsI (zsI (zsI M 364 n x) 365 n 0) 366 n 1) 368 n (nI (tot fs))) 355 29 (nI n + 1)) := FR.sI (FR.sI (FR.sI (FR.sI (FR.sI (FR.rf (fun y j => ((y = 364 ∨ y = 365 ∨ y = 366 ∨ y = 368) ∧ j = n) ∨ (y = 355 ∧ j = 29)) M) (by omega)) (by omega)) (by omega)) (by omega)) (by omega)
  have e1 : zI (zsI (zsI (zsI (zsI (zsI M 364 n x) 365 n 0) 366 n 1) 368 n (nI (tot fs))) 355 29 (nI n + 1)) 364 n = x := by rw [zI_sn _ _ (by omega), zI_sn _ _ (by omega), zI_sn _ _ (by omega), zI_sn _ _ (by omega), zI_se]
  have e2 : zI (zsI (zsI (zsI (zsI (zsI M 364 n x) 365 n 0) 366 n 1) 368 n (nI (tot fs))) 355 29 (nI n + 1)) 365 n = 0 := by rw [zI_sn _ _ (by omega), zI_sn _ _ (by omega), zI_sn _ _ (by omega), zI_se]
  have e3 : zI (zsI (zsI (zsI (zsI (zsI M 364 n x) 365 n 0) 366 n 1) 368 n (nI (tot fs))) 355 29 (nI n + 1)) 366 n = 1 := by rw [zI_sn _ _ (by omega), zI_sn _ _ (by omega), zI_se]
  have e4 : zI (zsI (zsI (zsI (zsI (zsI M 364 n x) 365 n 0) 366 n 1) 368 n (nI (tot fs))) 355 29 (nI n + 1)) 368 n = nI (tot fs) := by rw [zI_sn _ _ (by omega), zI_se]
  have e5 : zI (zsI (zsI (zsI (zsI (zsI M 364 n x) 365 n 0) 366 n 1) 368 n (nI (tot fs))) 355 29 (nI n + 1)) 355 29 = nI (n + 1) := by rw [zI_se, nI_1]
  have run : f_X12_pushes 355 x M = some (zsI (zsI (zsI (zsI (zsI M 364 n x) 365 n 0) 366 n 1) 368 n (nI (tot fs))) 355 29 (nI n + 1)) := by
    unfold f_X12_pushes
    rw [w355_24 hW, b_i, h29, zl_at 20 rfl hl (by decide), b_i, b_i]
    have g1 : FR (fun y j => y = 364) M (zsI M 364 n x) := (FR.rf (fun y j => y = 364) M).sI rfl
    rw [w355_25 (g1.W hW), b_i, g1.I (by omega), h29, zl_at 20 rfl hl (by decide), b_i, b_i]
    have g2 : FR (fun y j => y = 364 ∨ y = 365) M (zsI (zsI M 364 n x) 365 n 0) := FR.sI (FR.sI (FR.rf (fun y j => y = 364 ∨ y = 365) M) (by omega)) (by omega)
    rw [w355_26 (g2.W hW), b_i, g2.I (by omega), h29, zl_at 20 rfl hl (by decide), b_i, b_i]
    have g3 : FR (fun y j => y = 364 ∨ y = 365 ∨ y = 366) M (zsI (zsI (zsI M 364 n x) 365 n 0) 366 n 1) := FR.sI (FR.sI (FR.sI (FR.rf (fun y j => y = 364 ∨ y = 365 ∨ y = 366) M) (by omega)) (by omega)) (by omega)
    rw [w355_28 (g3.W hW), b_i, g3.I (by omega), g3.I (by omega), h29, h32, zl_at 20 rfl hl (by decide), b_i, b_i]
    have g4 : FR (fun y j => y = 364 ∨ y = 365 ∨ y = 366 ∨ y = 368) M (zsI (zsI (zsI (zsI M 364 n x) 365 n 0) 366 n 1) 368 n (nI (tot fs))) := FR.sI (FR.sI (FR.sI (FR.sI (FR.rf (fun y j => y = 364 ∨ y = 365 ∨ y = 366 ∨ y = 368) M) (by omega)) (by omega)) (by omega)) (by omega)
    rw [g4.I (by omega), h29, b_i]
  revert f1 e1 e2 e3 e4 e5 run
  generalize zsI (zsI (zsI (zsI (zsI M 364 n x) 365 n 0) 366 n 1) 368 n (nI (tot fs))) 355 29 (nI n + 1) = M1
  intro f1 e1 e2 e3 e4 e5 run
  have et : tot ((kd, 0, true, 0, []) :: fs) = tot fs := by rw [tot]; show 0 + tot fs = tot fs; omega
  refine ⟨M1, run, f1.mo (fun y j z => by omega), funext (fun j => f1.I (by omega)), fun np => ⟨⟨f1.W hW, by rw [e5, List.length_cons, hn], (f1.I (by omega)).trans h30, by rw [et, f1.I (by omega)]; exact h32⟩, ⟨(f1.I (by omega)).trans h22, hb⟩, ⟨(f1.I (by omega)).trans h21, hP.fj f1 (fun j _ _ => by omega)⟩, (f1.I (by omega)).trans h23, ⟨⟨by rw [← hn, e1]; exact hx, by rw [← hn, e2]; rfl, by rw [← hn, e3]; rfl, fun q => absurd q np, by rw [← hn, e4]⟩, True.intro, hF.fj f1 (fun y j _ _ j1 => by omega) (fun j _ => by omega)⟩⟩, fun pr => ?_⟩
  have f2 : FR (fun y j => y = 367 ∧ j = n) M1 (zsI M1 367 n (nI pr)) := (FR.rf (fun y j => y = 367 ∧ j = n) M1).sI ⟨rfl, rfl⟩
  exact ⟨⟨f2.W (f1.W hW), by rw [f2.I (by omega), e5, List.length_cons, hn], (f2.I (by omega)).trans ((f1.I (by omega)).trans h30), by rw [show tot ((kd, 0, true, pr, []) :: fs) = tot fs from et, f2.I (by omega), f1.I (by omega)]; exact h32⟩, ⟨(f2.I (by omega)).trans ((f1.I (by omega)).trans h22), hb⟩, ⟨(f2.I (by omega)).trans ((f1.I (by omega)).trans h21), (hP.fj f1 (fun j _ _ => by omega)).fj f2 (fun j _ _ => by omega)⟩, (f2.I (by omega)).trans ((f1.I (by omega)).trans h23), ⟨⟨by rw [← hn, f2.I (by omega), e1]; exact hx, by rw [← hn, f2.I (by omega), e2]; rfl, by rw [← hn, f2.I (by omega), e3]; rfl, fun q => by rw [← hn, zI_se]; rfl, by rw [← hn, f2.I (by omega), e4]⟩, True.intro, (hF.fj f1 (fun y j _ _ j1 => by omega) (fun j _ => by omega)).fj f2 (fun y j _ _ j1 => by omega) (fun j _ => by omega)⟩⟩
end
