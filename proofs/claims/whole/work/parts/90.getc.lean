/-! to get a page: the class -/
def envT (t g a : Nat) : Nat → Nat := fun s => if s = 7 then t else if s = 8 then g else a
def agn (h : CH) (t g a : Nat) : Bool := match kTr h with
  | none => decide (t < 8)
  | some cs => decide (evp (envT t g a) cs = 1)
def rdW (h : CH) (r : RW) (at' : Nat) : Nat := rdB (fun k => !decide (nI (r.2.2.2 k) < nI at')) (kN h)
def nxt (h : CH) (up : Bool) (a : Nat) : Option Nat := if up then (if a + kS h ≤ 99 then some (a + kS h) else none) else (if kS h < a then some (a - kS h) else none)
def gpp (x y : Nat) : Nat := if x ≤ y then y - x else x - y
def stop0 (h : CH) (r : RW) (i a : Nat) : Option Nat := if pop 64 (rdW h r a) = pop 64 r.2.2.1 then none else if agn h i (gpp (pop 64 (rdW h r a)) (pop 64 r.2.2.1)) a = false then none else nxt h (decide (pop 64 r.2.2.1 < pop 64 (rdW h r a))) a
def kCa (h : CH) (w : Nat) : Nat := dCa (kM h) (kP h) (kT h) (kN h) w
def kRs (h : CH) (w : Nat) : Nat := dRs (kM h) (kP h) (kT h) (kN h) w
def kLe (h : CH) (w : Nat) : Nat := (dN (kM h) (kP h) (kT h) (kN h) w).2.2.1
def stopA (h : CH) (r : RW) (i a : Nat) : Option Nat := if kCa h (rdW h r a) = 0 then none else if 40 ≤ i then none else stop0 h r i a
def gl (h : CH) (r : RW) : Nat → Nat → Nat → Nat × Nat
  | 0, i, a => (i, a)
  | f + 1, i, a => match stopA h r (i + 1) a with
    | none => (i + 1, a)
    | some a2 => gl h r f (i + 1) a2
def gR (h : CH) (r : RW) : Nat × Nat := gl h r 40 0 (kD h)
def gW (h : CH) (r : RW) : Nat := rdW h r (gR h r).2
def gTr (h : CH) (r : RW) : Bool := decide (kCa h (gW h r) = 0 ∧ kRs h (gW h r) = r.2.2.1)
theorem pop_le' : ∀ n x, pop n x ≤ n := by
  intro n
  induction n with
  | zero => intro x; exact Nat.le_refl _
  | succ n ih => intro x; have := ih (x / 2); show x % 2 + pop n (x / 2) ≤ n + 1; omega
theorem own_T : ∀ s : Fin 10, 7 ≤ s.val → (s.val = 7 ∧ ownOf s.val = 17) ∨ (s.val = 8 ∧ ownOf s.val = 18) ∨ (s.val = 9 ∧ ownOf s.val = 19) := by decide
theorem envT_b {t g a : Nat} (ht : t ≤ 9999) (hg : g ≤ 9999) (ha : a ≤ 9999) (s : Nat) : envT t g a s ≤ 9999 := by
  unfold envT
  repeat' split
  all_goals assumption
theorem s_tries {M : Mem} {c0 t g a : Nat} {h : CH} (hW : WRc M) (v : CV h) (hC : CC M c0 h) (ht : t ≤ 9999) (hg : g ≤ 9999) (ha : a ≤ 9999) : ∃ M', f_X10_triesAgain 3 c0 (nI t) (nI g) (nI a) M = some (b01 (agn h t g a), M') ∧ FR Wtm M M' := by
  have hc0 : c0 = 335 ∨ c0 = 344 := hC.z
  unfold f_X10_triesAgain
  rw [s_hasT hC.tr, b_i]
  unfold agn
  have htr := hC.tr
  cases hcs : kTr h with
  | none =>
    refine ⟨M, ?_, FR.rf _ M⟩
    refine ip b01_f ?_
    unfold f_X10_triesAgain_18
    by_cases h8 : t < 8
    · rw [if_neg (show ¬ (8 : Int32) ≤ nI t from nI_ge (b := 8) h8 (by decide)), zbz1, decide_eq_true h8]; rfl
    · rw [if_pos (show (8 : Int32) ≤ nI t from nI_le (a := 8) (by omega) (by omega)), zbz0, decide_eq_false h8]; rfl
  | some cs =>
    rw [hcs] at htr
    obtain ⟨fa, fb, g1, g2, g3, g4, g5, g6⟩ := htr
    have f1 : FR (fun b j => b = 4) M (zsI (zsI (zsI M 4 17 (nI t)) 4 18 (nI g)) 4 19 (nI a)) := FR.sI (FR.sI (FR.sI (FR.rf _ M) (by omega)) (by omega)) (by omega)
    obtain ⟨M1, a1, a2, a3, a4⟩ := s_run (M := zsI (zsI (zsI M 4 17 (nI t)) 4 18 (nI g)) 4 19 (nI a)) (c0 := c0) (lo := 7) (hi := 9) (fm := fa) (tt := fb) (env := envT t g a) (cs := cs) (b := true) hC.z (by decide) (by decide) (fun s _ _ => envT_b ht hg ha s) g4 (f1.W hW) (fun s q1 q2 => by
      have ow := own_T ⟨s, by omega⟩ q1
      dsimp only at ow
      rcases ow with ⟨e, e'⟩ | ⟨e, e'⟩ | ⟨e, e'⟩ <;> rw [e'] <;> subst e
      · rw [zI_sn _ _ (by omega), zI_sn _ _ (by omega), zI_se]; rfl
      · rw [zI_sn _ _ (by omega), zI_se]; rfl
      · rw [zI_se]; rfl) (g6.fr f1 (fun j => by omega)) (v.tr cs hcs) g3
    refine ⟨M1, ?_, (f1.mo (fun a j h => by unfold Wtm; omega)).tr (a2.mo (fun a j h => by unfold Wtr at h; unfold Wtm; omega))⟩
    refine im b01_n0 ?_
    dsimp only
    rw [w3_0 hW, b_i, show zld 4 17 = some 17 from rfl, b_i, b_i, zrf_sI, w3_0 hW, b_i, show zld 4 18 = some 18 from rfl, b_i, b_i, zrf_sI, zrf_sI, w3_0 hW, b_i, show zld 4 19 = some 19 from rfl, b_i, b_i, f1.I (by omega), f1.I (by omega), g1, g2, a1, b_i]
    dsimp only
    unfold f_X10_triesAgain_65
    rcases a4 rfl with e | e
    · rw [e, if_pos (show iI 0 = 0 from rfl), zbz0]; rfl
    · rw [e, if_neg (show ¬ iI 1 = 0 by decide), zbz1]; rfl
def nxI : Option Nat → Int32
  | none => -1
  | some a => nI a
theorem s_next {M : Mem} {c0 i a x y : Nat} {h : CH} (hW : WRc M) (v : CV h) (hC : CC M c0 h) (hi : i ≤ 9999) (ha1 : 1 ≤ a) (ha : a ≤ 99) (hx : x ≤ 64) (hy : y ≤ 64) (e2 : zI M 12 2 = nI i) (e3 : zI M 12 3 = nI a) : ∃ M', f_X3_nextThreshold 12 c0 (nI x - nI y) M = some (nxI (if x = y then none else if agn h i (gpp x y) a = false then none else nxt h (decide (y < x)) a), M') ∧ FR Wtm M M' := by
  have hs := v.s
  unfold f_X3_nextThreshold f_X3_nextThreshold_27
  rw [← iI_n x, ← iI_n y, iI_sub]
  have sxy : sm ((x : Int) - y) := by unfold sm; omega
  have s0 : sm 0 := bd0.s
  by_cases hxy : x = y
  · refine ⟨M, ?_, FR.rf _ M⟩
    rw [if_pos hxy]
    exact ip ((iI_eq sxy s0).mpr (by omega)) rfl
  · rw [if_neg hxy]
    have hg : gpp x y ≤ 64 := by unfold gpp; by_cases e : x ≤ y; rw [if_pos e]; omega; rw [if_neg e]; omega
    obtain ⟨M1, a1, a2⟩ := s_tries (t := i) (g := gpp x y) (a := a) hW v hC hi (by omega) (by omega)
    refine ⟨M1, ?_, a2⟩
    have habs : f_J9_abs_0f7a4 (iI ((x : Int) - y)) M = some (nI (gpp x y), M) := by
      unfold f_J9_abs_0f7a4 f_J9_abs_0f7a4_10 gpp
      by_cases e : x ≤ y
      · rw [if_neg (show ¬ (0 : Int32) ≤ iI ((x : Int) - y) from fun q => by have := (iI_le s0 sxy).mp q; omega), if_pos e, ← iI_n]
        have : -iI ((x : Int) - y) = iI ((y - x : Nat) : Int) := by
          show -Int32.ofInt ((x : Int) - y) = Int32.ofInt ((y - x : Nat) : Int)
          rw [← Int32.ofInt_neg]; congr 1; omega
        rw [this]
      · rw [if_pos (show (0 : Int32) ≤ iI ((x : Int) - y) from (iI_le s0 sxy).mpr (by omega)), if_neg e, ← iI_n]
        have : (x : Int) - y = ((x - y : Nat) : Int) := by omega
        rw [this]
    refine im (fun q => hxy (by have := (iI_eq sxy s0).mp q; omega)) ?_
    rw [w12_1 hW, b_i, habs, b_i]
    dsimp only
    rw [e2, e3, a1, b_i]
    cases hb : agn h i (gpp x y) a with
    | false => rw [if_pos rfl]; exact ip rfl rfl
    | true =>
      rw [if_neg (show ¬ (true = false) by decide)]
      refine im b01_n0 ?_
      dsimp only
      have hC1 : CC M1 c0 h := hC.fr a2 (fun b j p q => by have := hC.z; unfold zCh2 at this; unfold Wch at p; unfold Wtm at q; omega)
      rw [a2.I (by unfold Wtm; omega), e3, hC1.s.2.2.2.1]
      unfold f_X3_nextThreshold_54 f_X3_nextThreshold_70 f_X3_nextThreshold_71 nxt
      by_cases e : y < x
      · rw [decide_eq_true e, if_pos rfl]
        refine im (fun q => by have := (iI_le sxy s0).mp q; omega) ?_
        rw [nI_add]
        refine im (show ¬ nI (a + kS h) < 1 from nI_nlt (b := 1) (by omega) (by omega)) ?_
        by_cases e9 : a + kS h ≤ 99
        · rw [if_pos e9]; exact im (show ¬ (99 : Int32) < nI (a + kS h) from nI_nlt (a := 99) (by omega) (by decide)) rfl
        · rw [if_neg e9]; exact ip (show (99 : Int32) < nI (a + kS h) from nI_lt (a := 99) (by omega) (by omega)) rfl
      · rw [decide_eq_false e, if_neg (show ¬ (false = true) by decide)]
        refine ip ((iI_le sxy s0).mpr (by omega)) ?_
        by_cases e9 : kS h < a
        · rw [if_pos e9, pk_sub (by omega)]
          refine im (show ¬ nI (a - kS h) < 1 from nI_nlt (b := 1) (by omega) (by omega)) ?_
          exact im (show ¬ (99 : Int32) < nI (a - kS h) from nI_nlt (a := 99) (by omega) (by decide)) rfl
        · rw [if_neg e9]
          refine ip ?_ rfl
          rw [← iI_n a, ← iI_n (kS h), iI_sub]
          exact (iI_lt (by unfold sm; omega) bd1.s).mpr (by omega)
theorem nxt_b {h : CH} (v : CV h) {up : Bool} {a b : Nat} (ha : a ≤ 99) (e : nxt h up a = some b) : 1 ≤ b ∧ b ≤ 99 := by
  have hs := v.s
  unfold nxt at e
  cases up with
  | true =>
    rw [if_pos rfl] at e
    by_cases h1 : a + kS h ≤ 99
    · rw [if_pos h1] at e; cases e; omega
    · rw [if_neg h1] at e; cases e
  | false =>
    rw [if_neg (by decide)] at e
    by_cases h1 : kS h < a
    · rw [if_pos h1] at e; cases e; omega
    · rw [if_neg h1] at e; cases e
def Wge (a j : Nat) : Prop := (a = 12 ∧ 2 ≤ j) ∨ Wde a j ∨ Wtm a j
theorem CC.ge {M M1 : Mem} {c0 : Nat} {h : CH} (g : CC M c0 h) (f : FR Wge M M1) : CC M1 c0 h := g.fr f (fun b j p q => by have := g.z; unfold zCh2 at this; unfold Wch at p; unfold Wge Wde Wtm at q; omega)
def DKh (M : Mem) (h : CH) : Prop := DK M (kM h) (kP h) (kT h) (kN h)
theorem DC.fr {W : Nat → Nat → Prop} {M M1 : Mem} {m p t n w : Nat} (g : DC M m p t n w) (f : FR W M M1) (hw : ∀ a j, ((a = 6 ∧ 5 ≤ j) ∨ a = 7 ∨ a = 8 ∨ a = 11) → ¬ W a j) : DC M1 m p t n w := by
  obtain ⟨g1, g2, g3, g4, g5, g6, g7, g8⟩ := g
  exact ⟨g1, (f.L (hw _ _ (by omega))).trans g2, (f.L (hw _ _ (by omega))).trans g3, fun j q1 q2 => (f.I (hw _ _ (by omega))).trans (g4 j q1 q2), fun j q1 => (f.I (hw _ _ (by omega))).trans (g5 j q1), (f.I (hw _ _ (by omega))).trans g6, (f.I (hw _ _ (by omega))).trans g7, fun e i hi => (f.I (hw _ _ (by omega))).trans (g8 e i hi)⟩
theorem DKh.fr {W : Nat → Nat → Prop} {M M1 : Mem} {h : CH} (g : DKh M h) (f : FR W M M1) (hw : ∀ a j, ((a = 6 ∧ 5 ≤ j) ∨ a = 7 ∨ a = 8 ∨ a = 11) → ¬ W a j) : DKh M1 h := by
  rcases g with g | ⟨g, w, d⟩
  · exact Or.inl ((f.I (hw _ _ (by omega))).trans g)
  · exact Or.inr ⟨(f.I (hw _ _ (by omega))).trans g, w, d.fr f hw⟩
def Wme (a j : Nat) : Prop := (a = 12 ∧ 4 ≤ j ∧ j ≤ 6) ∨ Wde a j
theorem s_mend {M : Mem} {c0 c i w : Nat} {h : CH} {r : RW} (hW : WRc M) (v : CV h) (hC : CC M c0 h) (hc : RQ c) (hr : CR M c (kN h) i r) (hwr : r.1 = true) (hV : RV (kM h) (kP h) (kT h) (kN h) r) (hw : w < 2 ^ kN h) (hK : DKh M h) : ∃ M', f_X3_mend 12 c0 c (lN w) M = some M' ∧ FR Wme M M' ∧ zI M' 12 4 = nI (kCa h w) ∧ (kCa h w = 0 → zI M' 12 5 = nI (kLe h w) ∧ zL M' 12 6 = lN (kRs h w)) ∧ DKh M' h := by
  have hn := v.n63
  have hcb := rq_b hc
  have hc0 : c0 = 335 ∨ c0 = 344 := hC.z
  obtain ⟨g1, g2, g3⟩ := hr
  obtain ⟨g3, g4, g5⟩ := g3 hwr
  obtain ⟨v1, v2, v3, v4⟩ := hV hwr
  have hx : w ^^^ r.2.2.1 < 2 ^ kN h := Nat.xor_lt_two_pow hw v2
  have h64 : (2 : Nat) ^ kN h ≤ 2 ^ 63 := Nat.pow_le_pow_right (by decide) hn.1
  have ht5 := v.t
  have hbc : ∀ M, f_J13_bitCount_95d88 (lN w ^^^ lN r.2.2.1) M = some (nI (pop (kN h) (w ^^^ r.2.2.1)), M) := fun M => by
    rw [lN_xor, s_bitCount (by omega), pop64 (by omega) hx]
  have hpl := pop_le' (kN h) (w ^^^ r.2.2.1)
  unfold f_X3_mend
  rw [wC_0 hW hC.z, b_i, hC.t]
  unfold f_X8_isTrueRead f_X8_isTrueRead_18
  rw [g4, hbc, b_i]
  dsimp only
  by_cases hd : pop (kN h) (w ^^^ r.2.2.1) ≤ kT h
  · obtain ⟨t1, t2, t3, t4⟩ := dec_true v.pr v.c.2.2 v2 v3 hw hd
    have fr : FR Wme M (zsL (zsI (zsI M 12 4 0) 12 5 (nI (pop (kN h) (w ^^^ r.2.2.1)))) 12 6 (lN r.2.2.1)) := FR.sL (FR.sI (FR.sI (FR.rf _ M) (by unfold Wme; omega)) (by unfold Wme; omega)) (by unfold Wme; omega)
    refine ⟨_, ?_, fr, ?_, fun _ => ⟨?_, ?_⟩, hK.fr (W := fun a j => a = 12) (FR.sL (FR.sI (FR.sI (FR.rf _ M) (by omega)) (by omega)) (by omega)) (fun a j h => by omega)⟩
    · rw [if_neg (nI_nlt hd (by omega)), zbz1, b_i]
      refine im (show ¬ (1 : Int32) = 0 by decide) ?_
      rw [b_i]
      have e4 : zL (zsI (1, M).2 12 4 0) c 4 = lN r.2.2.1 := g4
      rw [e4, hbc, b_i, b_i]
      have e5 : zL (zsI (nI (pop (kN h) (w ^^^ r.2.2.1)), zsI (1, M).2 12 4 0).2 12 5 (nI (pop (kN h) (w ^^^ r.2.2.1)), zsI (1, M).2 12 4 0).1) c 4 = lN r.2.2.1 := g4
      rw [e5, b_i]
    · rw [zI_sL, zI_sn _ _ (by omega), zI_se, show kCa h w = 0 from t1]; rfl
    · rw [zI_sL, zI_se, show kLe h w = pop (kN h) (w ^^^ r.2.2.1) from t3]
    · rw [zL_se, show kRs h w = r.2.2.1 from t2]
  · obtain ⟨M1, a1, a2, a3, a4⟩ := s_decode hW hC.cd hw hK
    have fr : FR Wme M (zsL (zsI (zsI M1 12 4 (zI M1 6 9)) 12 5 (zI M1 6 8)) 12 6 (zL M1 6 7)) := FR.sL (FR.sI (FR.sI (a2.mo (fun a j h => by unfold Wme; exact Or.inr h)) (by unfold Wme; omega)) (by unfold Wme; omega)) (by unfold Wme; omega)
    have f1 : FR (fun a j => a = 12) M1 (zsL (zsI (zsI M1 12 4 (zI M1 6 9)) 12 5 (zI M1 6 8)) 12 6 (zL M1 6 7)) := FR.sL (FR.sI (FR.sI (FR.rf _ M1) (by omega)) (by omega)) (by omega)
    refine ⟨_, ?_, fr, ?_, fun h0 => ⟨?_, ?_⟩, Or.inr ⟨(f1.I (by omega)).trans a4, w, a3.fr f1 (fun a j h => by omega)⟩⟩
    · rw [if_pos (nI_lt (by omega) (by omega)), zbz0, b_i]
      refine ip rfl ?_
      dsimp only
      rw [w12_0 hW, b_i, wC_0 hW hC.z, b_i, a1, b_i, w12_0 (a2.W hW), b_i, b_i, zrf_sI, w12_0 (a2.W hW), b_i, zI_sn _ _ (by omega), b_i, zrf_sI, zrf_sI, w12_0 (a2.W hW), b_i, zL_sI, zL_sI, b_i]
    · rw [zI_sL, zI_sn _ _ (by omega), zI_se]; exact a3.2.2.2.2.2.2.1
    · rw [zI_sL, zI_se]; exact a3.2.2.2.2.2.1
    · rw [zL_se]; exact a3.2.2.1
theorem rdW_lt (h : CH) (r : RW) (a : Nat) : rdW h r a < 2 ^ kN h := rdB_lt _ _
theorem kCa_lt (h : CH) (w : Nat) : kCa h w < 2 ^ 31 := by
  unfold kCa dCa rootC
  by_cases h1 : kT h < (dN (kM h) (kP h) (kT h) (kN h) w).2.2.1
  · rw [if_pos h1]; decide
  · rw [if_neg h1]
    by_cases h2 : (dRo (kM h) (kP h) (kT h) (kN h) w).length = (dN (kM h) (kP h) (kT h) (kN h) w).2.2.1
    · rw [if_pos h2]; cases anyO (kN h) (dRo (kM h) (kP h) (kT h) (kN h) w) <;> decide
    · rw [if_neg h2]; decide
def GP (M M' : Mem) (h : CH) (r : RW) (k a : Nat) : Prop := FR Wge M M' ∧ DKh M' h ∧ zI M' 12 2 = nI k ∧ zI M' 12 3 = nI a ∧ zI M' 12 4 = nI (kCa h (rdW h r a)) ∧ (kCa h (rdW h r a) = 0 → zI M' 12 5 = nI (kLe h (rdW h r a)) ∧ zL M' 12 6 = lN (kRs h (rdW h r a))) ∧ zI M' 12 7 = b01 (decide (kCa h (rdW h r a) = 0 ∧ kRs h (rdW h r a) = r.2.2.1))
theorem CR.ge {M M0 : Mem} {c n i : Nat} {r : RW} (hc : RQ c) (hr : CR M c n i r) (f : FR Wge M M0) : CR M0 c n i r := by
  have hcb := rq_b hc
  exact hr.fr f (fun j => by unfold Wge Wde Wtm; omega) (fun j => by unfold Wge Wde Wtm; omega)
theorem s_get107 {M M0 : Mem} {c0 c i k a : Nat} {h : CH} {r : RW} (v : CV h) (hc : RQ c) (hr : CR M c (kN h) i r) (hwr : r.1 = true) (hV : RV (kM h) (kP h) (kT h) (kN h) r) (fr : FR Wge M M0) (hK0 : DKh M0 h) (q2 : zI M0 12 2 = nI k) (q3 : zI M0 12 3 = nI a) (q4 : zI M0 12 4 = nI (kCa h (rdW h r a))) (q5 : kCa h (rdW h r a) = 0 → zI M0 12 5 = nI (kLe h (rdW h r a)) ∧ zL M0 12 6 = lN (kRs h (rdW h r a))) : ∃ M', f_X3_get_107 12 c0 c M0 = some M' ∧ GP M M' h r k a := by
  have hn := v.n63
  have hr0 := hr.ge hc fr
  obtain ⟨v1, v2, v3, v4⟩ := hV hwr
  have h64 : (2 : Nat) ^ kN h ≤ 2 ^ 63 := Nat.pow_le_pow_right (by decide) hn.1
  have go : ∀ b, b = decide (kCa h (rdW h r a) = 0 ∧ kRs h (rdW h r a) = r.2.2.1) → ∃ M', f_X3_get_132 12 c0 c 12 (b01 b) M0 = some M' ∧ GP M M' h r k a := by
    intro b hb
    have f1 : FR (fun a j => a = 12 ∧ j = 7) M0 (zsI M0 12 7 (b01 b)) := (FR.rf _ M0).sI ⟨rfl, rfl⟩
    refine ⟨zsI M0 12 7 (b01 b), ?_, fr.tr (f1.mo (fun a j h => by unfold Wge; omega)), hK0.fr f1 (fun a j h => by omega), (f1.I (by omega)).trans q2, (f1.I (by omega)).trans q3, (f1.I (by omega)).trans q4, fun h0 => ⟨(f1.I (by omega)).trans (q5 h0).1, (f1.L (by omega)).trans (q5 h0).2⟩, by rw [zI_se, hb]⟩
    unfold f_X3_get_132
    rw [zbz_b, b_i]
  have hca := kCa_lt h (rdW h r a)
  unfold f_X3_get_107 f_X3_get_131
  rw [q4]
  by_cases h0 : kCa h (rdW h r a) = 0
  · rw [if_pos (show nI (kCa h (rdW h r a)) = 0 by rw [h0]; rfl), (hr0.2.2 hwr).2.1, (q5 h0).2]
    have hl : kRs h (rdW h r a) < 2 ^ kN h := (dec_ok v.pr (rdW_lt h r a) h0).2.1
    by_cases h1 : kRs h (rdW h r a) = r.2.2.1
    · rw [if_pos (by rw [lg_cmp_eq, h1])]; exact go true (decide_eq_true ⟨h0, h1⟩).symm
    · rw [if_neg (fun x => h1 ((pk_lEQ (by omega) (by omega)).mp ((lg_cmp_eq _ _).mp x)))]; exact go false (decide_eq_false (fun x => h1 x.2)).symm
  · rw [if_neg (nI_ne0 (by omega) hca)]; exact go false (decide_eq_false (fun x => h0 x.1)).symm
theorem stopA_b {h : CH} (v : CV h) {r : RW} {k a a2 : Nat} (ha : a ≤ 99) (hst : stopA h r (k + 1) a = some a2) : 1 ≤ a2 ∧ a2 ≤ 99 := by
  unfold stopA at hst
  by_cases c1 : kCa h (rdW h r a) = 0
  · rw [if_pos c1] at hst; cases hst
  · rw [if_neg c1] at hst
    by_cases c2 : 40 ≤ k + 1
    · rw [if_pos c2] at hst; cases hst
    · rw [if_neg c2] at hst
      unfold stop0 at hst
      by_cases c3 : pop 64 (rdW h r a) = pop 64 r.2.2.1
      · rw [if_pos c3] at hst; cases hst
      · rw [if_neg c3] at hst
        cases c4 : agn h (k + 1) (gpp (pop 64 (rdW h r a)) (pop 64 r.2.2.1)) a with
        | false => rw [c4, if_pos rfl] at hst; cases hst
        | true => rw [c4, if_neg (by decide)] at hst; exact nxt_b v ha hst
theorem gl_n {h : CH} {r : RW} {e k a : Nat} (hst : stopA h r (k + 1) a = none) : gl h r (e + 1) k a = (k + 1, a) := by
  show (match stopA h r (k + 1) a with | none => (k + 1, a) | some a2 => gl h r e (k + 1) a2) = _
  rw [hst]
theorem gl_s {h : CH} {r : RW} {e k a a2 : Nat} (hst : stopA h r (k + 1) a = some a2) : gl h r (e + 1) k a = gl h r e (k + 1) a2 := by
  show (match stopA h r (k + 1) a with | none => (k + 1, a) | some a2 => gl h r e (k + 1) a2) = _
  rw [hst]
theorem s_get_l {M : Mem} {c0 c i : Nat} {h : CH} {r : RW} (hW : WRc M) (v : CV h) (hC : CC M c0 h) (hc : RQ c) (hr : CR M c (kN h) i r) (hwr : r.1 = true) (hV : RV (kM h) (kP h) (kT h) (kN h) r) : ∀ e k f M0 a, k + e = 40 → 0 < e → 1 ≤ a → a ≤ 99 → FR Wge M M0 → DKh M0 h → zI M0 12 2 = nI k → ∃ M', f_X3_get_22 12 c0 c (e + 1 + f) (nI (pop 64 r.2.2.1)) (nI a) (nI k) M0 = some M' ∧ GP M M' h r (gl h r e k a).1 (gl h r e k a).2 := by
  have hn := v.n63
  have hcb := rq_b hc
  have h64 : (2 : Nat) ^ kN h ≤ 2 ^ 63 := Nat.pow_le_pow_right (by decide) hn.1
  intro e
  induction e with
  | zero => intro k f M0 a _ h0; exact absurd h0 (by decide)
  | succ e ih =>
    intro k f M0 a ek _ ha1 ha fr hK0 q2
    have hW0 := fr.W hW
    have f1 : FR (fun a j => a = 12 ∧ j = 3) M0 (zsI M0 12 3 (nI a)) := (FR.rf _ M0).sI ⟨rfl, rfl⟩
    have f1' : FR Wge M (zsI M0 12 3 (nI a)) := fr.tr (f1.mo (fun a j h => by unfold Wge; omega))
    have hC1 := hC.ge f1'
    have hr1 := hr.ge hc f1'
    have hrd : f_X8_readBy c (nI a) (nI (kN h)) (zsI M0 12 3 (nI a)) = some (lN (rdW h r a), zsI M0 12 3 (nI a)) := by
      rw [s_readBy (f1'.W hW) hc hn.1]
      unfold rdW
      rw [rdB_ext (kN h) (fun k hk => by rw [(hr1.2.2 hwr).2.2 k hk])]
    obtain ⟨M2, b1, b2, b3, b4, b5⟩ := s_mend (f1'.W hW) v hC1 hc hr1 hwr hV (rdW_lt h r a) (hK0.fr f1 (fun a j h => by omega))
    have f2 : FR Wge M (zsI M2 12 2 (nI (k + 1))) := FR.sI (f1'.tr (b2.mo (fun a j h => by unfold Wme at h; unfold Wge; rcases h with h | h; exact Or.inl ⟨h.1, by omega⟩; exact Or.inr (Or.inl h)))) (by unfold Wge; omega)
    have f2a : FR (fun a j => a = 12 ∧ j = 2) M2 (zsI M2 12 2 (nI (k + 1))) := (FR.rf _ M2).sI ⟨rfl, rfl⟩
    have hK2 : DKh (zsI M2 12 2 (nI (k + 1))) h := b5.fr f2a (fun a j h => by omega)
    have w2 : zI (zsI M2 12 2 (nI (k + 1))) 12 2 = nI (k + 1) := zI_se _ _ _ _
    have w3 : zI (zsI M2 12 2 (nI (k + 1))) 12 3 = nI a := (f2a.I (by omega)).trans ((b2.I (by unfold Wme Wde; omega)).trans (zI_se _ _ _ _))
    have w4 : zI (zsI M2 12 2 (nI (k + 1))) 12 4 = nI (kCa h (rdW h r a)) := (f2a.I (by omega)).trans b3
    have w5 : kCa h (rdW h r a) = 0 → zI (zsI M2 12 2 (nI (k + 1))) 12 5 = nI (kLe h (rdW h r a)) ∧ zL (zsI M2 12 2 (nI (k + 1))) 12 6 = lN (kRs h (rdW h r a)) := fun h0 => ⟨(f2a.I (by omega)).trans (b4 h0).1, (f2a.L (by omega)).trans (b4 h0).2⟩
    have e22 : zI M2 12 2 = nI k := (b2.I (by unfold Wme Wde; omega)).trans ((f1.I (by omega)).trans q2)
    have stepEq : ∀ M3 nx, FR Wge M M3 → DKh M3 h → zI M3 12 2 = nI (k + 1) → zI M3 12 3 = nI a → zI M3 12 4 = nI (kCa h (rdW h r a)) → (kCa h (rdW h r a) = 0 → zI M3 12 5 = nI (kLe h (rdW h r a)) ∧ zL M3 12 6 = lN (kRs h (rdW h r a))) → (stopA h r (k + 1) a = none → nx = none ∨ k + 1 = 40) → (∀ a2, stopA h r (k + 1) a = some a2 → nx = some a2 ∧ k + 1 < 40) → ∃ M', f_X3_get_99 (f_X3_get_22 12 c0 c (e + 1 + f)) 12 c0 c (nI (pop 64 r.2.2.1)) (nI k) (nxI nx) M3 = some M' ∧ GP M M' h r (gl h r (e + 1) k a).1 (gl h r (e + 1) k a).2 := by
      intro M3 nx f3 k3 z2 z3 z4 z5 hN hS
      unfold f_X3_get_99
      rw [nI_1]
      cases hst : stopA h r (k + 1) a with
      | none =>
        have this : ∃ M', f_X3_get_107 12 c0 c M3 = some M' ∧ GP M M' h r (k + 1) a := s_get107 v hc hr hwr hV f3 k3 z2 z3 z4 z5
        rw [gl_n hst, show e + 1 + f = (e + f) + 1 by omega, f_X3_get_22]
        rcases hN hst with e1 | e1
        · subst e1
          by_cases h40 : 40 ≤ k + 1
          · rw [if_pos (show (40 : Int32) ≤ nI (k + 1) from nI_le (a := 40) h40 (by omega))]; exact this
          · rw [if_neg (show ¬ (40 : Int32) ≤ nI (k + 1) from nI_ge (b := 40) (by omega) (by decide)), if_pos (show nxI none = -1 from rfl)]; exact this
        · rw [if_pos (show (40 : Int32) ≤ nI (k + 1) from nI_le (a := 40) (by omega) (by omega))]; exact this
      | some a2 =>
        obtain ⟨e1, e2⟩ := hS a2 hst
        subst e1
        have hb := stopA_b v ha hst
        rw [gl_s hst]
        exact ih (k + 1) f M3 a2 (by omega) (by omega) hb.1 hb.2 f3 k3 z2
    rw [show e + 1 + 1 + f = (e + 1 + f) + 1 by omega, f_X3_get_22, if_neg (show ¬ (40 : Int32) ≤ nI k from nI_ge (b := 40) (by omega) (by decide)), if_neg (nI_nm (by omega)), b_i, zrf_sI, wC_0 hW0 hC.z, b_i, zI_se, hC1.n, hrd, b_i]
    dsimp only
    rw [b1, b_i, e22, nI_1, b_i, w4]
    have hca := kCa_lt h (rdW h r a)
    by_cases h0 : kCa h (rdW h r a) = 0
    · rw [if_pos (show nI (kCa h (rdW h r a)) = 0 by rw [h0]; rfl)]
      have hst : stopA h r (k + 1) a = none := by unfold stopA; rw [if_pos h0]
      exact stepEq _ none f2 hK2 w2 w3 w4 w5 (fun _ => Or.inl rfl) (fun a2 q => by rw [hst] at q; cases q)
    · rw [if_neg (nI_ne0 (by omega) hca)]
      have hrl := rdW_lt h r a
      obtain ⟨M4, n1, n2⟩ := s_next (M := zsI M2 12 2 (nI (k + 1))) (i := k + 1) (a := a) (x := pop 64 (rdW h r a)) (y := pop 64 r.2.2.1) (f2.W hW) v (hC.ge f2) (by omega) ha1 ha (pop_le' _ _) (pop_le' _ _) w2 w3
      have n1 : f_X3_nextThreshold 12 c0 (nI (pop 64 (rdW h r a)) - nI (pop 64 r.2.2.1)) (zsI M2 12 2 (nI (k + 1))) = some (nxI (stop0 h r (k + 1) a), M4) := n1
      rw [s_bitCount (by omega), b_i]
      dsimp only
      rw [n1, b_i]
      dsimp only
      have f4 : FR Wge M M4 := f2.tr (n2.mo (fun a j h => Or.inr (Or.inr h)))
      have nI4 : ∀ j, zI M4 12 j = zI (zsI M2 12 2 (nI (k + 1))) 12 j := fun j => n2.I (by unfold Wtm; omega)
      have hst : stopA h r (k + 1) a = if 40 ≤ k + 1 then none else stop0 h r (k + 1) a := by unfold stopA; rw [if_neg h0]
      exact stepEq M4 (stop0 h r (k + 1) a) f4 (hK2.fr n2 (fun a j h => by unfold Wtm; omega)) ((nI4 _).trans w2) ((nI4 _).trans w3) ((nI4 _).trans w4) (fun q => absurd q h0) (fun q => by
        rw [hst] at q
        by_cases c2 : 40 ≤ k + 1
        · exact Or.inr (by omega)
        · rw [if_neg c2] at q; exact Or.inl q) (fun a2 q => by
        rw [hst] at q
        by_cases c2 : 40 ≤ k + 1
        · rw [if_pos c2] at q; cases q
        · rw [if_neg c2] at q; exact ⟨q, by omega⟩)
theorem s_get {M : Mem} {c0 c i : Nat} {h : CH} {r : RW} (hW : WRc M) (v : CV h) (hC : CC M c0 h) (hc : RQ c) (hr : CR M c (kN h) i r) (hwr : r.1 = true) (hV : RV (kM h) (kP h) (kT h) (kN h) r) (hK : DKh M h) : ∃ M', f_X3_get 12 c0 c M = some M' ∧ GP M M' h r (gR h r).1 (gR h r).2 := by
  have hn := v.n63
  have hs := v.s
  obtain ⟨v1, v2, v3, v4⟩ := hV hwr
  have h64 : (2 : Nat) ^ kN h ≤ 2 ^ 63 := Nat.pow_le_pow_right (by decide) hn.1
  have f0 : FR Wge M (zsI M 12 2 0) := (FR.rf _ M).sI (by unfold Wge; omega)
  have this : ∃ M', f_X3_get_22 12 c0 c (40 + 1 + 999959) (nI (pop 64 r.2.2.1)) (nI (kD h)) (nI 0) (zsI M 12 2 0) = some M' ∧ GP M M' h r (gl h r 40 0 (kD h)).1 (gl h r 40 0 (kD h)).2 := s_get_l hW v hC hc hr hwr hV 40 0 999959 (zsI M 12 2 0) (kD h) rfl (by decide) (by omega) (by omega) f0 (hK.fr (W := fun a j => a = 12) ((FR.rf _ M).sI rfl) (fun a j h => by omega)) (zI_se _ _ _ _)
  unfold f_X3_get
  rw [(hr.2.2 hwr).2.1, s_bitCount (by omega), b_i]
  dsimp only
  rw [b_i, hC.s.2.2.1]
  exact this
