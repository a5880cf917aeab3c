/-! chip: the first statement (2): the model -/
section
variable {b : Nat → Nat} {z bi p : Nat} {M : Mem} {s : Acs}
def tlq (s : Acs) (q : Nat × Nat × Nat × Nat) : Acs := (aN s, aD s, aT s, aM s, fun j => if j = 0 then q.1 else if j = 1 then q.2.1 else if j = 2 then q.2.2.1 else if j = 3 then q.2.2.2 else aS s j)
def MRf (b : Nat → Nat) (z bi : Nat) (M : Mem) (s : Acs) (F : Option Mem) (r : FRs) : Prop := (∀ er, r = .inl er → ∃ M', F = some M' ∧ MFl bi M M' er ∧ 0 < er.1 ∧ er.1 < 10) ∧ (∀ y, r = .inr y → ∃ M', F = some M' ∧ FR (Wmt bi) M M' ∧ MSs b z bi M' y.1 (tlq s y.2))
theorem MRf.fr {M0 : Mem} {F : Option Mem} {r : FRs} (f : FR (Wmt bi) M M0) (h : MRf b z bi M0 s F r) : MRf b z bi M s F r := ⟨fun er q => by obtain ⟨M', a1, a2, a3⟩ := h.1 er q; exact ⟨M', a1, a2.fr f, a3⟩, fun y q => by obtain ⟨M', a1, a2, a3⟩ := h.2 y q; exact ⟨M', a1, f.tr a2, a3⟩⟩
/-- what is at fault stays so -/
def FP (bi : Nat) (K : Mem → Option Mem) : Prop := ∀ N, ¬ zI N 355 8 ≤ 0 → zI N 355 22 = nI bi → bi ≤ 1 → WRc N → ∃ N', K N = some N' ∧ FR (fun x j => x = 357 ∧ 10 * bi ≤ j ∧ j < 10 * bi + 10) N N'
theorem FP.own {K : Mem → Option Mem} {y : Int64} (h : FP bi K) : FP bi (fun N => Option.bind (f_X12_mustWord 355 y N) K) := fun N h8 h22 hb hW => by
  have e : f_X12_mustWord 355 y N = some N := by unfold f_X12_mustWord; rw [m_lexF h8, b_i, if_neg h8]
  dsimp only
  rw [e, b_i]; exact h N h8 h22 hb hW
theorem m_numF {N : Mem} {x y : Int32} (h8 : ¬ zI N 355 8 ≤ 0) : f_X12_number 355 x y N = some (0, N) := by unfold f_X12_number; rw [m_lexF h8, b_i, if_neg h8]
theorem FP.num {K : Mem → Int32 × Mem → Option Mem} {x y : Int32} (h : ∀ N0, FP bi (fun N => K N0 (0, N))) : FP bi (fun N => Option.bind (f_X12_number 355 x y N) (K N)) := fun N h8 h22 hb hW => by
  dsimp only
  rw [m_numF h8, b_i]; exact h N N h8 h22 hb hW
theorem FP.lex {K : Mem → Option Mem} (h : FP bi K) : FP bi (fun N => Option.bind (f_X12_lex 355 N) K) := fun N h8 h22 hb hW => by
  dsimp only
  rw [m_lexF h8, b_i]; exact h N h8 h22 hb hW
theorem MRf.bad {K : Mem → Option Mem} {M1 : Mem} {e : Nat × Nat} (hK : FP bi K) (h22 : zI M 355 22 = nI bi ∧ bi ≤ 1) (hW : WRc M) (h1 : MFl bi M M1 e) (he : 0 < e.1 ∧ e.1 < 10) : MRf b z bi M s (K M1) (.inl e) := by
  obtain ⟨N', a1, a2⟩ := hK M1 (by rw [h1.2.1]; exact nI_nle he.1 (by omega)) ((h1.1.I (by unfold Wmt; omega)).trans h22.1) h22.2 (h1.1.W hW)
  refine ⟨fun er q => ?_, fun y q => (by cases q)⟩
  cases q
  exact ⟨N', a1, ⟨h1.1.tr (a2.mo (fun x j q => by unfold Wmt; omega)), (a2.I (by omega)).trans h1.2.1, (a2.I (by omega)).trans h1.2.2⟩, he⟩
theorem m_own {i : Nat} {y : Int64} (hy : y = lN (pk8 (ow i))) (hi : i < 27) (h : MSs b z bi M p s) {K : Mem → Option Mem} {k : Nat → FRs} (hF : FP bi K) (hK : ∀ M1, FR (Wmt bi) M M1 → MSs b z bi M1 (nxp b z p) s → MRf b z bi M1 s (K M1) (k (nxp b z p))) : MRf b z bi M s (Option.bind (f_X12_mustWord 355 y M) K) (ownB b z p i k) := by
  have hok := h.1.ok
  unfold f_X12_mustWord f_X12_mustWord_29 f_X12_mustWord_40 ownB
  by_cases k4 : tK (tok b z p) = 4
  · have hv : tBd (tok b z p) = tV (tok b z p) := by unfold tBd; rw [if_pos k4]
    have n1 : ¬ isOw (tok b z p) i = true := fun e => by have := (isOw_iff.mp e).1; omega
    rw [if_neg n1, m_lex4 h.1.1.2.1 h.1.2 k4 (by have := hok.2.2.2.2.2.2.2; have := h.1.1.1.2.1; omega), b_i, zI_sn _ _ (by omega), zI_se, if_neg (by decide), b_i]
    exact MRf.bad hF h.2.1 h.1.1.1.1 (mfl_at rfl (by rw [hv])) (lt10 (by decide))
  · rw [m_lex h.1.1.2.1 (by omega), b_i, h.1.2, if_pos (by decide), h.1.ow (by omega) i hy hi, b_i]
    dsimp only
    cases hs : isOw (tok b z p) i with
    | true =>
      have k1 := (isOw_iff.mp hs).1
      obtain ⟨M1, a1, a2, a3, a4⟩ := h.ah (by omega) (by omega)
      rw [if_neg b01_n0, h.1.2, if_pos rfl, a1, b_i, b_i, if_pos rfl]
      exact (hK M1 a2 a3).fr a2
    | false =>
      rw [if_pos b01_f, m_blame h.1.2, b_i, zI_sn _ _ (by omega), zI_se, if_neg (by decide), b_i, if_neg (show ¬ false = true by decide)]
      exact MRf.bad hF h.2.1 h.1.1.1.1 (mfl_at rfl (by rw [h.1.1.2.1.1]; unfold tBd; rw [if_neg k4])) (lt10 (by decide))
theorem m_nmb {l u : Nat} {x y : Int32} (hx : x = nI l) (hy : y = nI u) (hl : l < 10000) (hu : u < 10000) (h : MSs b z bi M p s) {K : Int32 × Mem → Option Mem} {k : Nat → Nat → FRs} (hF : ∀ v, FP bi (fun N => K (v, N))) (hK : ∀ M1, tK (tok b z p) = 2 → l ≤ tV (tok b z p) → tV (tok b z p) ≤ u → FR (Wmt bi) M M1 → MSs b z bi M1 (nxp b z p) s → MRf b z bi M1 s (K (nI (tV (tok b z p)), M1)) (k (tV (tok b z p)) (nxp b z p))) : MRf b z bi M s (Option.bind (f_X12_number 355 x y M) K) (numB b z p l u k) := by
  obtain ⟨g1, g2, g3⟩ := m_num (bi := bi) h.1 hx hy hl hu
  unfold numB
  by_cases k2 : tK (tok b z p) = 2
  · rw [if_pos k2]
    by_cases c : l ≤ tV (tok b z p) ∧ tV (tok b z p) ≤ u
    · obtain ⟨M1, a1, a2, a3, a4⟩ := g1 k2 c.1 c.2
      rw [if_pos c, a1, b_i]
      have h1 : MSs b z bi M1 (nxp b z p) s := ⟨a3, ⟨(a2.I (by unfold Wah; omega)).trans h.2.1.1, h.2.1.2⟩, h.2.2.1.fr a2 (by unfold Wah; omega) (fun x j _ _ => by unfold Wah; omega), by have := h.2.2.2; omega⟩
      exact (hK M1 k2 c.1 c.2 (Wah_t a2) h1).fr (Wah_t a2)
    · obtain ⟨v, M1, a1, a2⟩ := g2 k2 c
      rw [if_neg c, a1, b_i]
      exact MRf.bad (hF v) h.2.1 h.1.1.1.1 a2 (lt10 (by decide))
  · obtain ⟨v, M1, a1, a2⟩ := g3 k2
    rw [if_neg k2, a1, b_i]
    exact MRf.bad (hF v) h.2.1 h.1.1.1.1 a2 (lt10 (by decide))
theorem m_lnb {l u : Nat} {x y : Int32} (hx : x = nI l) (hy : y = nI u) (hl : l < 10000) (hu : u < 10000) (h : MSs b z bi M p s) {K : Mem → Int32 × Mem → Option Mem} {k : Nat → Nat → FRs} (hF : ∀ N0 v, FP bi (fun N => K N0 (v, N))) (hK : ∀ M1, tK (tok b z p) = 2 → l ≤ tV (tok b z p) → tV (tok b z p) ≤ u → FR (Wmt bi) M M1 → MSs b z bi M1 (nxp b z p) s → MRf b z bi M1 s (K M (nI (tV (tok b z p)), M1)) (k (tV (tok b z p)) (nxp b z p))) : MRf b z bi M s (Option.bind (f_X12_lex 355 M) fun N => Option.bind (f_X12_number 355 x y N) (K N)) (numB b z p l u k) := by
  have hok := h.1.ok
  by_cases k4 : tK (tok b z p) = 4
  · have hv : tBd (tok b z p) = tV (tok b z p) := by unfold tBd; rw [if_pos k4]
    unfold numB
    rw [if_neg (show ¬ tK (tok b z p) = 2 by omega), m_lex4 h.1.1.2.1 h.1.2 k4 (by have := hok.2.2.2.2.2.2.2; have := h.1.1.1.2.1; omega), b_i]
    exact MRf.bad (FP.num (fun N0 => hF N0 0)) h.2.1 h.1.1.1.1 (mfl_at rfl (by rw [hv])) (lt10 (by decide))
  · rw [m_lex h.1.1.2.1 (by omega), b_i]
    exact m_nmb hx hy hl hu h (hF M) hK
theorem m_tell {k : Nat} {x v : Int32} (hx : x = nI k) (hk : k < 10) (hW : WRc M) (h22 : zI M 355 22 = nI bi) (hb : bi ≤ 1) : f_X12_tellsAt 355 x v M = some (zsI M 357 (10 * bi + k) v) := by
  unfold f_X12_tellsAt
  rw [w355_14 hW, b_i, h22, hx, show (10 : Int32) = nI 10 from rfl, pk_mul, nI_add, zl_at 20 rfl (by omega) (by decide), b_i, b_i]
theorem m_tell4 {v0 v1 v2 v3 : Int32} (hW : WRc M) (h22 : zI M 355 22 = nI bi) (hb : bi ≤ 1) : ∃ M', (Option.bind (f_X12_tellsAt 355 0 v0 M) fun M3 => Option.bind (f_X12_tellsAt 355 1 v1 M3) fun M4 => Option.bind (f_X12_tellsAt 355 2 v2 M4) fun M5 => Option.bind (f_X12_tellsAt 355 3 v3 M5) fun M6 => some M6) = some M' ∧ FR (fun x j => x = 357 ∧ 10 * bi ≤ j ∧ j < 10 * bi + 4) M M' ∧ zI M' 357 (10 * bi + 0) = v0 ∧ zI M' 357 (10 * bi + 1) = v1 ∧ zI M' 357 (10 * bi + 2) = v2 ∧ zI M' 357 (10 * bi + 3) = v3 := by
  have f1 : FR (fun x j => x = 357 ∧ 10 * bi ≤ j ∧ j < 10 * bi + 4) M (zsI M 357 (10 * bi + 0) v0) := (FR.rf _ M).sI (by omega)
  have f2 := FR.sI f1 (a := 357) (k := 10 * bi + 1) (v := v1) (by omega)
  have f3 := FR.sI f2 (a := 357) (k := 10 * bi + 2) (v := v2) (by omega)
  have f4 := FR.sI f3 (a := 357) (k := 10 * bi + 3) (v := v3) (by omega)
  refine ⟨_, ?_, f4, ?_, ?_, ?_, ?_⟩
  · rw [m_tell (k := 0) (x := 0) rfl (by decide) hW h22 hb, b_i, m_tell (k := 1) (x := 1) rfl (by decide) (f1.W hW) ((f1.I (by omega)).trans h22) hb, b_i, m_tell (k := 2) (x := 2) rfl (by decide) (f2.W hW) ((f2.I (by omega)).trans h22) hb, b_i, m_tell (k := 3) (x := 3) rfl (by decide) (f3.W hW) ((f3.I (by omega)).trans h22) hb, b_i]
  · rw [zI_sn _ _ (by omega), zI_sn _ _ (by omega), zI_sn _ _ (by omega), zI_se]
  · rw [zI_sn _ _ (by omega), zI_sn _ _ (by omega), zI_se]
  · rw [zI_sn _ _ (by omega), zI_se]
  · rw [zI_se]
theorem FP.tell {v0 v1 v2 v3 : Int32} : FP bi (fun M => Option.bind (f_X12_tellsAt 355 0 v0 M) fun M3 => Option.bind (f_X12_tellsAt 355 1 v1 M3) fun M4 => Option.bind (f_X12_tellsAt 355 2 v2 M4) fun M5 => Option.bind (f_X12_tellsAt 355 3 v3 M5) fun M6 => some M6) := fun N h8 h22 hb hW => by
  obtain ⟨N', a1, a2, -⟩ := m_tell4 (v0 := v0) (v1 := v1) (v2 := v2) (v3 := v3) hW h22 hb
  exact ⟨N', a1, a2.mo (fun x j q => by omega)⟩
theorem FP120 {x1 x3 x4 x5 : Int32} : FP bi (f_X12_chipIs_120 355 x1 x3 x4 x5) := FP.own (FP.num (K := fun _ z2 => Option.bind (f_X12_tellsAt 355 0 x1 z2.2) fun M3 => Option.bind (f_X12_tellsAt 355 1 x3 M3) fun M4 => Option.bind (f_X12_tellsAt 355 2 x4 M4) fun M5 => Option.bind (f_X12_tellsAt 355 3 z2.1 M5) fun M6 => some M6) (fun _ => FP.tell))
theorem n8n {N : Mem} (h8 : ¬ zI N 355 8 ≤ 0) : ¬ zI N 355 8 = 0 := fun e => h8 (by rw [e]; decide)
theorem FP.st {K : Mem → Option Mem} : FP bi (fun N => if zI N 355 8 ≤ 0 then K N else some N) := fun N h8 _ _ _ => ⟨N, if_neg h8, FR.rf _ N⟩
theorem FP61 {x1 x3 : Int32} : FP bi (f_X12_chipIs_61 355 x1 x3) := fun N h8 h22 hb hW => by
  have e : f_X12_chipIs_61 355 x1 x3 N = some N := by
    unfold f_X12_chipIs_61 f_X12_mustWord
    rw [m_lexF h8, b_i, if_neg h8, b_i, m_lexF h8, b_i, m_numF h8, b_i]
    exact if_neg h8
  exact ⟨N, e, FR.rf _ N⟩
theorem MSs.tl {M1 : Mem} (h : MSs b z bi M p s) (w : FR (fun x j => x = 357 ∧ 10 * bi ≤ j ∧ j < 10 * bi + 4) M M1) {q : Nat × Nat × Nat × Nat} (hv : zI M1 357 (10 * bi + 0) = nI q.1 ∧ zI M1 357 (10 * bi + 1) = nI q.2.1 ∧ zI M1 357 (10 * bi + 2) = nI q.2.2.1 ∧ zI M1 357 (10 * bi + 3) = nI q.2.2.2) : MSs b z bi M1 p (tlq s q) := by
  have A := h.2.2.1
  refine ⟨h.1.fr w (fun j _ => by omega) (fun j => by omega), ⟨(w.I (by omega)).trans h.2.1.1, h.2.1.2⟩, ⟨(w.I (by omega)).trans A.1, A.2.1.fr w (by omega) (by omega) (fun j _ => by omega), A.2.2.1.fr w (by omega) (by omega) (fun j _ => by omega), ⟨(w.I (by omega)).trans A.2.2.2.1.1, A.2.2.2.1.2.1, fun i l e => ⟨(w.L (by omega)).trans (A.2.2.2.1.2.2 i l e).1, (A.2.2.2.1.2.2 i l e).2⟩⟩, fun j j1 j2 => ?_⟩, h.2.2.2⟩
  show zI M1 357 (10 * bi + j) = nI (if j = 0 then q.1 else if j = 1 then q.2.1 else if j = 2 then q.2.2.1 else if j = 3 then q.2.2.2 else aS s j)
  by_cases c0 : j = 0
  · rw [if_pos c0, c0]; exact hv.1
  rw [if_neg c0]
  by_cases c1 : j = 1
  · rw [if_pos c1, c1]; exact hv.2.1
  rw [if_neg c1]
  by_cases c2 : j = 2
  · rw [if_pos c2, c2]; exact hv.2.2.1
  rw [if_neg c2]
  by_cases c3 : j = 3
  · rw [if_pos c3, c3]; exact hv.2.2.2
  rw [if_neg c3, w.I (by omega)]
  exact A.2.2.2.2 j j1 j2
theorem MSs.rt {M1 : Mem} (h : MSs b z bi M p s) (w : FR (fun x _ => x = 370) M M1) : MSs b z bi M1 p s := ⟨h.1.fr w (fun j _ => by omega) (fun j => by omega), ⟨(w.I (by omega)).trans h.2.1.1, h.2.1.2⟩, h.2.2.1.fr w (by omega) (fun x j _ _ => by omega), h.2.2.2⟩
theorem gj_lt {m po t : Nat} (hP : (m, po) ∈ fPR) (t1 : 1 ≤ t) (t5 : t ≤ 5) : (gj po (2 * t)).2 ≤ fN m := by
  have l1 := (gc2_at hP t1 t5).1.2.1
  have l2 : ∀ R e k P, (prd m po R e k P).length ≤ P.length + e := by
    intro R e
    induction e with
    | zero => intro k P; exact Nat.le_refl _
    | succ e ih2 =>
      intro k P
      rw [prd]
      have := ih2 (k + 1) (if R.testBit k then mulG m po k 0 P else P)
      by_cases q : R.testBit k = true
      · rw [if_pos q] at this ⊢; rw [mulG_len] at this; omega
      · rw [if_neg q] at this ⊢; omega
  have l3 := l2 (rts m t).1 (fN m) 0 [1]
  rw [l1, List.length_singleton] at l3
  omega
theorem m_120 {m po t v : Nat} (h : MSs b z bi M p s) (hv1 : 1 ≤ v) (hv2 : v < 100) (hv : v = fN m - (gj po (2 * t)).2) : MRf b z bi M s (f_X12_chipIs_120 355 (nI m) (nI po) (nI t) (nI v) M) (fl3 b z m po t p) := by
  unfold f_X12_chipIs_120 fl3
  refine m_own (i := 3) (cws 3 (by decide)).symm (by decide) h (FP.num (K := fun _ z2 => Option.bind (f_X12_tellsAt 355 0 (nI m) z2.2) fun M3 => Option.bind (f_X12_tellsAt 355 1 (nI po) M3) fun M4 => Option.bind (f_X12_tellsAt 355 2 (nI t) M4) fun M5 => Option.bind (f_X12_tellsAt 355 3 z2.1 M5) fun M6 => some M6) (fun _ => FP.tell)) (fun M1 f1 h1 => ?_)
  unfold fl4
  rw [← hv]
  refine m_nmb (l := 0) (u := v - 1) (x := 0) rfl (by rw [show (1 : Int32) = nI 1 from rfl, pk_sub hv1]) (by decide) (by omega) h1 (fun _ => FP.tell) (fun M2 k2 l1 l2 f2 h2 => ?_)
  obtain ⟨M', a1, a2, a3⟩ := m_tell4 (v0 := nI m) (v1 := nI po) (v2 := nI t) (v3 := nI (tV (tok b z (nxp b z p)))) h2.1.1.1.1 h2.2.1.1 h2.2.1.2
  refine ⟨fun er q => (by cases q), fun y q => ?_⟩
  cases q
  exact ⟨M', a1, a2.mo (fun x j q => by unfold Wmt; omega), h2.tl (q := (m, po, t, tV (tok b z (nxp b z p)))) a2 a3⟩
theorem m_61 {m po : Nat} (h : MSs b z bi M p s) (hP : (m, po) ∈ fPR) : MRf b z bi M s (f_X12_chipIs_61 355 (nI m) (nI po) M) (fl2 b z m po p) := by
  have hm := f_m hP
  have hm6 := f_m6 hP
  unfold f_X12_chipIs_61 fl2
  refine m_own (i := 2) (cws 2 (by decide)).symm (by decide) h (FP.lex (FP.num (K := fun M8 z9 => (if zI z9.2 355 8 ≤ 0 then Option.bind (f_X12_rootsFor 355 (nI m) z9.1 z9.2) fun z10 => Option.bind (some ((((1 : Int32) <<< (nI m &&& 31)) - 1) - z10.1)) fun (v11 : Int32) => (if 1 ≤ v11 then f_X12_chipIs_120 355 (nI m) (nI po) z9.1 v11 z10.2 else Option.bind (f_X12_blame 355 4 (zI M8 355 4) z10.2) fun M12 => f_X12_chipIs_120 355 (nI m) (nI po) z9.1 v11 M12) else some z9.2)) (fun N0 => FP.st))) (fun M1 f1 h1 => ?_)
  refine m_lnb (l := 1) (u := 5) (x := 1) (y := 5) rfl rfl (by decide) (by decide) h1 (fun N0 v => FP.st) (fun M2 k2 t1 t5 f2 h2 => ?_)
  obtain ⟨M3, a1, a2, a3⟩ := m_roots (t := tV (tok b z (nxp b z p))) hm6.1 hm6.2 t5 h2.1.1.1.1
  have hc := gj_lt hP t1 t5
  have h3 := h2.rt a2
  have F3 : FR (Wmt bi) M2 M3 := a2.mo (fun x j q => by unfold Wmt; omega)
  dsimp only
  rw [h2.1.2, if_pos (by decide), a1, b_i, b_i, nI_2m1 hm6.2, (gc2_at hP t1 t5).1.1]
  dsimp only
  by_cases c : (gj po (2 * tV (tok b z (nxp b z p)))).2 < fN m
  · rw [if_pos c, pk_sub (by omega), if_pos (show (1 : Int32) ≤ nI (fN m - (gj po (2 * tV (tok b z (nxp b z p)))).2) from nI_le (a := 1) (by omega) (by omega))]
    exact (m_120 h3 (by omega) (by omega) rfl).fr F3
  · have e : (gj po (2 * tV (tok b z (nxp b z p)))).2 = fN m := by omega
    rw [if_neg c, e, pk_sub (Nat.le_refl _), Nat.sub_self, if_neg (show ¬ (1 : Int32) ≤ nI 0 by decide), m_blame h3.1.2, b_i]
    refine MRf.fr F3 (MRf.bad FP120 h3.2.1 h3.1.1.1.1 (mfl_at rfl ?_) (lt10 (by decide)))
    exact h1.1.1.2.1.1
theorem m_fld (h : MSs b z bi M p s) : MRf b z bi M s (f_X12_chipIs 355 M) (fl0 b z p) := by
  have FQ : ∀ x1, FP bi (fun M16 => Option.bind (f_X12_lex 355 M16) fun M16 => Option.bind (f_X12_number 355 0 9999 M16) fun z17 => (if zI z17.2 355 8 = 0 then Option.bind (f_X12_isPrimitive x1 z17.1 z17.2) fun z18 => (if z18.1 = 0 then Option.bind (f_X12_blame 355 4 (zI M16 355 4) z18.2) fun M19 => f_X12_chipIs_61 355 x1 z17.1 M19 else f_X12_chipIs_61 355 x1 z17.1 z18.2) else f_X12_chipIs_61 355 x1 z17.1 z17.2)) := fun x1 => FP.lex (FP.num (K := fun M16 z17 => (if zI z17.2 355 8 = 0 then Option.bind (f_X12_isPrimitive x1 z17.1 z17.2) fun z18 => (if z18.1 = 0 then Option.bind (f_X12_blame 355 4 (zI M16 355 4) z18.2) fun M19 => f_X12_chipIs_61 355 x1 z17.1 M19 else f_X12_chipIs_61 355 x1 z17.1 z18.2) else f_X12_chipIs_61 355 x1 z17.1 z17.2)) (fun N0 N h8 h22 hb hW => by
    dsimp only
    rw [if_neg (n8n h8)]; exact FP61 N h8 h22 hb hW))
  unfold f_X12_chipIs fl0
  refine m_own (i := 0) (cws 0 (by decide)).symm (by decide) h (FP.num (K := fun _ z14 => Option.bind (f_X12_mustWord 355 1886350457 z14.2) fun M15 => Option.bind (f_X12_lex 355 M15) fun M16 => Option.bind (f_X12_number 355 0 9999 M16) fun z17 => (if zI z17.2 355 8 = 0 then Option.bind (f_X12_isPrimitive z14.1 z17.1 z17.2) fun z18 => (if z18.1 = 0 then Option.bind (f_X12_blame 355 4 (zI M16 355 4) z18.2) fun M19 => f_X12_chipIs_61 355 z14.1 z17.1 M19 else f_X12_chipIs_61 355 z14.1 z17.1 z18.2) else f_X12_chipIs_61 355 z14.1 z17.1 z17.2)) (fun _ => FP.own (FQ _))) (fun M1 f1 h1 => ?_)
  refine m_nmb (l := 3) (u := 6) (x := 3) (y := 6) rfl rfl (by decide) (by decide) h1 (fun v => FP.own (FQ v)) (fun M2 k2 l1 l2 f2 h2 => ?_)
  refine m_own (i := 1) (cws 1 (by decide)).symm (by decide) h2 (FQ _) (fun M3 f3 h3 => ?_)
  unfold fl1
  refine m_lnb (l := 0) (u := 9999) (x := 0) (y := 9999) rfl rfl (by decide) (by decide) h3 (fun N0 v N h8 h22 hb hW => by
    dsimp only
    rw [if_neg (n8n h8)]; exact FP61 N h8 h22 hb hW) (fun M4 k4 l3 l4 f4 h4 => ?_)
  dsimp only
  rw [h4.1.2, if_pos rfl, m_prim l1 l2 (by omega), b_i]
  dsimp only
  cases hp : fprim (tV (tok b z (nxp b z p))) (tV (tok b z (nxp b z (nxp b z (nxp b z p))))) with
  | true =>
    rw [if_neg b01_n0, if_pos rfl]
    exact m_61 h4 (fprim_mem hp)
  | false =>
    rw [if_pos b01_f, if_neg (show ¬ false = true by decide), m_blame h4.1.2, b_i]
    exact MRf.bad FP61 h4.2.1 h4.1.1.1.1 (mfl_at rfl h3.1.1.2.1.1) (lt10 (by decide))
end
