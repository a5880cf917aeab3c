/-! chip: the model's frames, held back signs and codes -/
abbrev Frm := Nat × Nat × Bool × Nat × List Nat
def fK6 (f : Frm) : Nat := f.1
def fPh (f : Frm) : Nat := f.2.1
def fBg (f : Frm) : Bool := f.2.2.1
def fPr (f : Frm) : Nat := f.2.2.2.1
def fOp (f : Frm) : List Nat := f.2.2.2.2
def tot : List Frm → Nat
  | [] => 0
  | f :: r => (fOp f).length + tot r
def isP6 (k : Nat) : Prop := k = 3 ∨ k = 4 ∨ k = 6
def pw1 (k : Nat) : Nat := if k = 3 ∨ k = 4 ∨ k = 6 then 1 else 0
def wtf : List Frm → Nat
  | [] => 0
  | f :: r => (fOp f).length + pw1 (fK6 f) + wtf r
def OPS (M : Mem) (a : Nat) : List Nat → Prop
  | [] => True
  | o :: l => zI M 369 (a + l.length) = nI o ∧ (31 ≤ o ∧ o ≤ 43) ∧ OPS M a l
def FRM (M : Mem) : List Frm → Prop
  | [] => True
  | f :: r => (zI M 364 r.length = nI (fK6 f) ∧ zI M 365 r.length = nI (fPh f) ∧ zI M 366 r.length = b01 (fBg f) ∧ (isP6 (fK6 f) → zI M 367 r.length = nI (fPr f)) ∧ zI M 368 r.length = nI (tot r)) ∧ OPS M (tot r) (fOp f) ∧ FRM M r
def MQz (w : Bool) (bi a : Nat) (M : Mem) (fs : List Frm) (o : Nat) (cs : Cds) : Prop := (WRc M ∧ zI M 355 29 = nI fs.length ∧ zI M 355 30 = nI o ∧ zI M 355 32 = nI (tot fs)) ∧ (zI M 355 22 = nI bi ∧ bi ≤ 1) ∧ (zI M 355 21 = nI (a + cs.length) ∧ PRM M (1600 * bi + a) cs) ∧ zI M 355 23 = b01 (!w) ∧ FRM M fs
def Wmp (bi a x j : Nat) : Prop := (x = 355 ∧ ((3 ≤ j ∧ j ≤ 9) ∨ j = 12 ∨ j = 21 ∨ (29 ≤ j ∧ j ≤ 33))) ∨ ((x = 361 ∨ x = 362) ∧ 1600 * bi + a ≤ j ∧ j < 1600 * bi + 1600) ∨ (364 ≤ x ∧ x ≤ 369)
theorem OPS.fj {W : Nat → Nat → Prop} {M M1 : Mem} {a : Nat} (f : FR W M M1) : ∀ {l : List Nat}, (∀ j, a ≤ j → j < a + l.length → ¬ W 369 j) → OPS M a l → OPS M1 a l
  | [], _, _ => True.intro
  | o :: l, hw, h => ⟨(f.I (hw _ (by omega) (by rw [List.length_cons]; omega))).trans h.1, h.2.1, OPS.fj f (fun j h1 h2 => hw j h1 (by rw [List.length_cons]; omega)) h.2.2⟩
theorem FRM.fj {W : Nat → Nat → Prop} {M M1 : Mem} (f : FR W M M1) : ∀ {fs : List Frm}, (∀ x j, 364 ≤ x → x ≤ 368 → j < fs.length → ¬ W x j) → (∀ j, j < tot fs → ¬ W 369 j) → FRM M fs → FRM M1 fs
  | [], _, _, _ => True.intro
  | g :: r, h1, h2, h => ⟨⟨(f.I (h1 _ _ (by omega) (by omega) (by rw [List.length_cons]; omega))).trans h.1.1, (f.I (h1 _ _ (by omega) (by omega) (by rw [List.length_cons]; omega))).trans h.1.2.1, (f.I (h1 _ _ (by omega) (by omega) (by rw [List.length_cons]; omega))).trans h.1.2.2.1, fun q => (f.I (h1 _ _ (by omega) (by omega) (by rw [List.length_cons]; omega))).trans (h.1.2.2.2.1 q), (f.I (h1 _ _ (by omega) (by omega) (by rw [List.length_cons]; omega))).trans h.1.2.2.2.2⟩, h.2.1.fj f (fun j a1 a2 => h2 j (by rw [tot]; omega)), FRM.fj f (fun x j a1 a2 a3 => h1 x j a1 a2 (by rw [List.length_cons]; omega)) (fun j a1 => h2 j (by rw [tot]; omega)) h.2.2⟩
theorem PRM.app {M : Mem} {c : Nat × Nat} : ∀ {cs : Cds} {i : Nat}, PRM M i cs → zI M 361 (i + cs.length) = nI c.1 → (c.1 = 0 → zI M 362 (i + cs.length) = nI c.2) → PRM M i (cs ++ [c])
  | [], i, _, h, h' => ⟨h, h', True.intro⟩
  | d :: cs, i, h, h2, h3 => ⟨h.1, h.2.1, PRM.app h.2.2 (by rw [show i + 1 + cs.length = i + (d :: cs).length by rw [List.length_cons]; omega]; exact h2) (fun e => by rw [show i + 1 + cs.length = i + (d :: cs).length by rw [List.length_cons]; omega]; exact h3 e)⟩
theorem PRM.fj {W : Nat → Nat → Prop} {M M1 : Mem} (f : FR W M M1) : ∀ {cs : Cds} {i : Nat}, (∀ j, i ≤ j → j < i + cs.length → ¬ W 361 j ∧ ¬ W 362 j) → PRM M i cs → PRM M1 i cs
  | [], _, _, _ => True.intro
  | d :: cs, i, hw, h => ⟨(f.I (hw i (Nat.le_refl _) (by rw [List.length_cons]; omega)).1).trans h.1, fun e => (f.I (hw i (Nat.le_refl _) (by rw [List.length_cons]; omega)).2).trans (h.2.1 e), PRM.fj f (fun j h1 h2 => hw j (by omega) (by rw [List.length_cons]; omega)) h.2.2⟩
section
variable {w : Bool} {bi a o : Nat} {M : Mem} {fs : List Frm} {cs : Cds}
theorem MQz.fr {W : Nat → Nat → Prop} {M1 : Mem} (h : MQz w bi a M fs o cs) (f : FR W M M1) (h1 : ∀ j, (21 ≤ j ∧ j ≤ 23) ∨ j = 29 ∨ j = 30 ∨ j = 32 → ¬ W 355 j) (h2 : ∀ x j, 361 ≤ x → x ≤ 369 → ¬ W x j) : MQz w bi a M1 fs o cs := ⟨⟨f.W h.1.1, (f.I (h1 _ (by omega))).trans h.1.2.1, (f.I (h1 _ (by omega))).trans h.1.2.2.1, (f.I (h1 _ (by omega))).trans h.1.2.2.2⟩, ⟨(f.I (h1 _ (by omega))).trans h.2.1.1, h.2.1.2⟩, ⟨(f.I (h1 _ (by omega))).trans h.2.2.1.1, h.2.2.1.2.fj f (fun j _ _ => ⟨h2 _ _ (by omega) (by omega), h2 _ _ (by omega) (by omega)⟩)⟩, (f.I (h1 _ (by omega))).trans h.2.2.2.1, h.2.2.2.2.fj f (fun x j _ _ _ => h2 x j (by omega) (by omega)) (fun j _ => h2 _ _ (by omega) (by omega))⟩
theorem m_add {s : Nat} {x : Int32} {v : Nat} (h : MQz w bi a M fs o cs) (hl : a + cs.length < 1600) (hx : s = 0 → x = nI v) : ∃ M', f_X12_add 355 (nI s) x M = some M' ∧ FR (fun y j => (y = 355 ∧ j = 21) ∨ ((y = 361 ∨ y = 362) ∧ j = 1600 * bi + (a + cs.length))) M M' ∧ MQz w bi a M' fs o (cs ++ [(s, v)]) := by
  obtain ⟨⟨hW, h29, h30, h32⟩, ⟨h22, hb⟩, ⟨h21, hP⟩, h23, hF⟩ := h
  obtain ⟨n, hn⟩ : ∃ n, n = 1600 * bi + (a + cs.length) := ⟨_, rfl⟩
  have f1 : FR (fun y j => (y = 355 ∧ j = 21) ∨ ((y = 361 ∨ y = 362) ∧ j = n)) M (zsI (zsI (zsI M 361 n (nI s)) 362 n x) 355 21 (nI (a + cs.length) + 1)) := FR.sI (FR.sI (FR.sI (FR.rf (fun y j => (y = 355 ∧ j = 21) ∨ ((y = 361 ∨ y = 362) ∧ j = n)) M) (by omega)) (by omega)) (by omega)
  have e1 : zI (zsI (zsI (zsI M 361 n (nI s)) 362 n x) 355 21 (nI (a + cs.length) + 1)) 361 n = nI s := by rw [zI_sn _ _ (by omega), zI_sn _ _ (by omega), zI_se]
  have e2 : zI (zsI (zsI (zsI M 361 n (nI s)) 362 n x) 355 21 (nI (a + cs.length) + 1)) 362 n = x := by rw [zI_sn _ _ (by omega), zI_se]
  have e3 : zI (zsI (zsI (zsI M 361 n (nI s)) 362 n x) 355 21 (nI (a + cs.length) + 1)) 355 21 = nI (a + cs.length + 1) := by rw [zI_se, nI_1]
  have run : f_X12_add 355 (nI s) x M = some (zsI (zsI (zsI M 361 n (nI s)) 362 n x) 355 21 (nI (a + cs.length) + 1)) := by
    unfold f_X12_add
    rw [w355_18 hW, b_i, h22, h21, show (1600 : Int32) = nI 1600 from rfl, pk_mul, nI_add, ← hn, zl_at 3200 rfl (by omega) (by decide), b_i, b_i]
    rw [show zrf (zsI M 361 n (nI s)) 355 19 = some 362 from w355_19 hW, b_i, zI_sn _ _ (by omega), zI_sn _ _ (by omega), h22, h21, pk_mul, nI_add, ← hn, zl_at 3200 rfl (by omega) (by decide), b_i, b_i, zI_sn _ _ (by omega), zI_sn _ _ (by omega), h21, b_i]
  revert f1 e1 e2 e3 run
  generalize zsI (zsI (zsI M 361 n (nI s)) 362 n x) 355 21 (nI (a + cs.length) + 1) = M1
  intro f1 e1 e2 e3 run
  refine ⟨M1, run, by rw [← hn]; exact f1, ⟨f1.W hW, (f1.I (by omega)).trans h29, (f1.I (by omega)).trans h30, (f1.I (by omega)).trans h32⟩, ⟨(f1.I (by omega)).trans h22, hb⟩, ⟨?_, ?_⟩, (f1.I (by omega)).trans h23, hF.fj f1 (fun y j _ _ _ => by omega) (fun j _ => by omega)⟩
  · rw [e3, List.length_append]; rfl
  · refine PRM.app (hP.fj f1 (fun j j1 j2 => by omega)) ?_ (fun e => ?_)
    · rw [show 1600 * bi + a + cs.length = n by omega]; exact e1
    · rw [show 1600 * bi + a + cs.length = n by omega, e2]; exact hx e
def rnk (q : Nat) : Nat := if q = 42 then 1 else if q = 41 then 2 else if q = 43 then 3 else if q = 38 ∨ q = 39 ∨ q = 40 then 4 else if q = 31 ∨ q = 32 then 5 else 6
theorem m_rank {q : Nat} (h : 31 ≤ q ∧ q ≤ 43) (M : Mem) : f_X12_rank (nI q) M = some (nI (rnk q), M) := by
  have key : ∀ q, q < 44 → 31 ≤ q → (if nI q = 42 then (1 : Int32) else if nI q = 41 then 2 else if nI q = 43 then 3 else if nI q = 38 then 4 else if nI q = 39 then 4 else if nI q = 40 then 4 else if nI q = 31 then 5 else if nI q = 32 then 5 else 6) = nI (rnk q) := by decide +kernel
  rw [← key q (by omega) h.1]
  unfold f_X12_rank f_X12_rank_48 f_X12_rank_64 f_X12_rank_70
  by_cases c1 : nI q = 42
  · rw [if_pos c1, if_pos c1]
  rw [if_neg c1, if_neg c1]
  by_cases c2 : nI q = 41
  · rw [if_pos c2, if_pos c2]
  rw [if_neg c2, if_neg c2]
  by_cases c3 : nI q = 43
  · rw [if_pos c3, if_pos c3]
  rw [if_neg c3, if_neg c3]
  by_cases c4 : nI q = 38
  · rw [if_pos c4, if_pos c4]
  rw [if_neg c4, if_neg c4]
  by_cases c5 : nI q = 39
  · rw [if_pos c5, if_pos c5]
  rw [if_neg c5, if_neg c5]
  by_cases c6 : nI q = 40
  · rw [if_pos c6, if_pos c6]
  rw [if_neg c6, if_neg c6]
  by_cases c7 : nI q = 31
  · rw [if_pos c7, if_pos c7]
  rw [if_neg c7, if_neg c7]
  by_cases c8 : nI q = 32
  · rw [if_pos c8, if_pos c8]
  rw [if_neg c8, if_neg c8]
def emt (l : List Nat) : Cds := l.map (fun q => (q, 0))
def nts : List Nat → Nat
  | [] => 0
  | q :: l => (if q = 43 then 1 else 0) + nts l
/-- to write the held back signs of a rank, or above it -/
theorem m_joins {least : Nat} {k ph pr : Nat} {bg : Bool} {r : List Frm} {ops : List Nat} (hlt : least < 100) (hB : ∀ q, ops.head? = some q → rnk q < least) : ∀ (pend : List Nat) (f : Nat) (M : Mem) (o : Nat) (cs : Cds), (∀ q ∈ pend, least ≤ rnk q) → r.length < 20 → tot ((k, ph, bg, pr, pend ++ ops) :: r) < 500 → a + cs.length + pend.length ≤ 1600 → nts pend ≤ o → o < 1000 → MQz w bi a M ((k, ph, bg, pr, pend ++ ops) :: r) o cs → ∃ M', f_X12_joins_0 355 (nI least) (pend.length + 1 + f) M = some M' ∧ FR (fun y j => (y = 355 ∧ (j = 21 ∨ j = 30 ∨ j = 32)) ∨ ((y = 361 ∨ y = 362) ∧ 1600 * bi + a ≤ j ∧ j < 1600 * bi + 1600)) M M' ∧ MQz w bi a M' ((k, ph, bg, pr, ops) :: r) (o - nts pend) (cs ++ emt pend) := by
  intro pend
  induction pend with
  | nil =>
    intro f M o cs hr hl ht hc hn ho h
    refine ⟨M, ?_, FR.rf _ M, ?_⟩
    · obtain ⟨⟨hW, h29, h30, h32⟩, -, -, -, hF⟩ := id h
      rw [show ([] : List Nat).length + 1 + f = f + 1 by rw [List.length_nil]; omega, f_X12_joins_0, w355_28 hW, b_i, h29, List.length_cons, nI_pred, zl_at 20 rfl hl (by decide), b_i, h32, hF.1.2.2.2.2]
      unfold f_X12_joins_87
      cases ops with
      | nil => exact ip (nI_le (by show 0 + tot r ≤ tot r; omega) (by rw [tot] at ht; omega)) rfl
      | cons q l =>
        have hq := hB q rfl
        have e : tot ((k, ph, bg, pr, [] ++ q :: l) :: r) = tot r + l.length + 1 := by rw [tot]; show (q :: l).length + tot r = _; rw [List.length_cons]; omega
        rw [e] at ht ⊢
        have hO := hF.2.1
        rw [if_neg (nI_ge (show tot r < tot r + l.length + 1 by omega) (by omega)), w355_31 hW, b_i, nI_pred, zl_at 500 rfl (by omega) (by decide), b_i, show zI M 369 (tot r + l.length) = nI q from hO.1, m_rank hO.2.1, b_i]
        exact ip (nI_lt hq (by omega)) rfl
    · rw [show emt [] = [] from rfl, List.append_nil, show nts [] = 0 from rfl, Nat.sub_zero]; exact h
  | cons q l ih =>
    intro f M o cs hr hl ht hc hn ho h
    obtain ⟨⟨hW, h29, h30, h32⟩, ⟨h22, hb⟩, ⟨h21, hP⟩, h23, hF⟩ := id h
    have hO := hF.2.1
    have hq := hr q (List.Mem.head _)
    have e : tot ((k, ph, bg, pr, q :: l ++ ops) :: r) = tot ((k, ph, bg, pr, l ++ ops) :: r) + 1 := by rw [tot, tot]; show (q :: (l ++ ops)).length + _ = (l ++ ops).length + _ + 1; rw [List.length_cons]; omega
    have e' : tot ((k, ph, bg, pr, l ++ ops) :: r) = tot r + (l ++ ops).length := by rw [tot]; show (l ++ ops).length + tot r = _; omega
    obtain ⟨n, hn'⟩ : ∃ n, n = tot ((k, ph, bg, pr, l ++ ops) :: r) := ⟨_, rfl⟩
    rw [e, ← hn'] at ht h32
    rw [List.length_cons] at hc
    have g0 : FR (fun y j => y = 355 ∧ j = 32) M (zsI M 355 32 (nI n)) := (FR.rf (fun y j => y = 355 ∧ j = 32) M).sI ⟨rfl, rfl⟩
    have q0 : MQz w bi a (zsI M 355 32 (nI n)) ((k, ph, bg, pr, l ++ ops) :: r) o cs := ⟨⟨g0.W hW, (g0.I (by omega)).trans h29, (g0.I (by omega)).trans h30, (zI_se _ _ _ _).trans (by rw [hn'])⟩, ⟨(g0.I (by omega)).trans h22, hb⟩, ⟨(g0.I (by omega)).trans h21, hP.fj g0 (fun j _ _ => by omega)⟩, (g0.I (by omega)).trans h23, ⟨⟨(g0.I (by omega)).trans hF.1.1, (g0.I (by omega)).trans hF.1.2.1, (g0.I (by omega)).trans hF.1.2.2.1, fun z => (g0.I (by omega)).trans (hF.1.2.2.2.1 z), (g0.I (by omega)).trans hF.1.2.2.2.2⟩, OPS.fj g0 (fun j _ _ => by omega) hO.2.2, hF.2.2.fj g0 (fun x j _ _ _ => by omega) (fun j _ => by omega)⟩⟩
    have hqv : zI M 369 n = nI q := by rw [hn', e']; exact hO.1
    obtain ⟨M1, a1, a2, a3⟩ := m_add (s := q) (x := 0) (v := 0) q0 (by omega) (fun _ => rfl)
    have hqv1 : zI M1 369 n = nI q := (a2.I (by omega)).trans ((g0.I (by omega)).trans hqv)
    have h32' : zI M1 355 32 = nI n := (a2.I (by omega)).trans (zI_se _ _ _ _)
    have hW1 := a2.W (g0.W hW)
    have G : FR (fun y j => (y = 355 ∧ (j = 21 ∨ j = 30 ∨ j = 32)) ∨ ((y = 361 ∨ y = 362) ∧ 1600 * bi + a ≤ j ∧ j < 1600 * bi + 1600)) M M1 := (g0.mo (fun y j z => by omega)).tr (a2.mo (fun y j z => by omega))
    have pre : ∀ K : Mem → Option Mem, (Option.bind (zrf M1 355 31) fun q10 => Option.bind (zld q10 (zI M1 355 32)) fun k11 => (if zI M1 q10 k11 = 43 then Option.bind (some (zsI M1 355 30 ((zI M1 355 30) - 1))) fun M12 => K M12 else K M1)) = if q = 43 then K (zsI M1 355 30 (zI M1 355 30 - 1)) else K M1 := fun K => by
      rw [w355_31 hW1, b_i, h32', zl_at 500 rfl (by omega) (by decide), b_i, hqv1]
      by_cases c : q = 43
      · rw [if_pos c, if_pos (show nI q = (43 : Int32) by rw [c]; rfl), b_i]
      · rw [if_neg c, if_neg (show ¬ nI q = (43 : Int32) from fun z => c ((nI_eq (b := 43) (by have := hO.2.1; omega) (by decide)).mp z))]
    have run : f_X12_joins_0 355 (nI least) ((q :: l).length + 1 + f) M = if q = 43 then f_X12_joins_0 355 (nI least) (l.length + 1 + f) (zsI M1 355 30 (zI M1 355 30 - 1)) else f_X12_joins_0 355 (nI least) (l.length + 1 + f) M1 := by
      rw [← pre (f_X12_joins_0 355 (nI least) (l.length + 1 + f))]
      rw [show (q :: l).length + 1 + f = (l.length + 1 + f) + 1 by rw [List.length_cons]; omega, f_X12_joins_0, w355_28 hW, b_i, h29, List.length_cons, nI_pred, zl_at 20 rfl hl (by decide), b_i, h32, hF.1.2.2.2.2]
      rw [if_neg (nI_ge (show tot r < n + 1 by omega) (by omega)), w355_31 hW, b_i, nI_pred, zl_at 500 rfl (by omega) (by decide), b_i, hqv, m_rank hO.2.1, b_i]
      dsimp only
      rw [if_neg (nI_nlt hq (by have : rnk q ≤ 6 := by (unfold rnk; repeat' split) <;> omega
                                omega)), b_i, h32, nI_pred, show zrf (zsI M 355 32 (nI n)) 355 31 = some 369 from w355_31 hW, b_i, zI_se, zl_at 500 rfl (by omega) (by decide), b_i, zI_sn _ _ (by omega), hqv, a1, b_i]
    rw [run]
    have hnn : nts (q :: l) = (if q = 43 then 1 else 0) + nts l := rfl
    rw [hnn] at hn ⊢
    have hcs : cs ++ emt (q :: l) = cs ++ [(q, 0)] ++ emt l := by rw [show emt (q :: l) = [(q, 0)] ++ emt l from rfl, List.append_assoc]
    by_cases c : q = 43
    · rw [if_pos c] at hn ⊢
      rw [if_pos c]
      have h30' : zI M1 355 30 = nI o := (a2.I (by omega)).trans ((g0.I (by omega)).trans h30)
      have g2 : FR (fun y j => y = 355 ∧ j = 30) M1 (zsI M1 355 30 (zI M1 355 30 - 1)) := (FR.rf (fun y j => y = 355 ∧ j = 30) M1).sI ⟨rfl, rfl⟩
      have q2 : MQz w bi a (zsI M1 355 30 (zI M1 355 30 - 1)) ((k, ph, bg, pr, l ++ ops) :: r) (o - 1) (cs ++ [(q, 0)]) := by
        obtain ⟨⟨b1, b2, b3, b4⟩, ⟨b5, b6⟩, ⟨b7, b8⟩, b9, b10⟩ := a3
        refine ⟨⟨g2.W b1, (g2.I (by omega)).trans b2, ?_, (g2.I (by omega)).trans b4⟩, ⟨(g2.I (by omega)).trans b5, b6⟩, ⟨(g2.I (by omega)).trans b7, b8.fj g2 (fun j _ _ => by omega)⟩, (g2.I (by omega)).trans b9, b10.fj g2 (fun x j _ _ _ => by omega) (fun j _ => by omega)⟩
        rw [zI_se, h30', show (1 : Int32) = nI 1 from rfl, pk_sub (by omega)]
      obtain ⟨M', c1, c2, c3⟩ := ih f _ (o - 1) _ (fun x hx => hr x (List.Mem.tail _ hx)) hl (by omega) (by rw [List.length_append]; show a + (cs.length + 1) + l.length ≤ 1600; omega) (by omega) (by omega) q2
      refine ⟨M', c1, (G.tr (g2.mo (fun y j z => by omega))).tr c2, ?_⟩
      rw [hcs, show o - (1 + nts l) = o - 1 - nts l by omega]; exact c3
    · rw [if_neg c] at hn ⊢
      rw [if_neg c]
      obtain ⟨M', c1, c2, c3⟩ := ih f _ o _ (fun x hx => hr x (List.Mem.tail _ hx)) hl (by omega) (by rw [List.length_append]; show a + (cs.length + 1) + l.length ≤ 1600; omega) (by omega) ho a3
      refine ⟨M', c1, G.tr c2, ?_⟩
      rw [hcs, show o - (0 + nts l) = o - nts l by omega]; exact c3
end
