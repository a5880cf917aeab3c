/-! acts: the class has done one, the model not yet -/
def LC (M : Mem) (c0 : Nat) (h : CH) (S : PSt) (T : Nat) (E : Nat → Nat → Nat) (c : Nat) (sv : Nat → PSt × Nat) : Prop := (zrf M 0 11 = some c0) ∧ CC M c0 h ∧ zI M 0 14 = 1 ∧ CP M 13 (kN h) S ∧ HC M (kN h) T E c sv ∧ DKh M h ∧ KC M c0 h
def LM (M : Mem) (h : CH) (S : PSt) (T : Nat) (E : Nat → Nat → Nat) (c : Nat) (sv : Nat → PSt × Nat) : Prop := MC M h ∧ zI M 355 35 = 1 ∧ MP M 0 (kN h) S ∧ HM M (kN h) T E c sv
theorem LD.c {M : Mem} {c0 : Nat} {h : CH} {S : PSt} {T c : Nat} {E : Nat → Nat → Nat} {sv : Nat → PSt × Nat} (l : LD M c0 h S T E c sv) : LC M c0 h S T E c sv := ⟨l.cur, l.cc, l.on.1, l.cp, l.hc, l.dk, l.kc⟩
theorem LD.m {M : Mem} {c0 : Nat} {h : CH} {S : PSt} {T c : Nat} {E : Nat → Nat → Nat} {sv : Nat → PSt × Nat} (l : LD M c0 h S T E c sv) : LM M h S T E c sv := ⟨l.mc, l.on.2, l.mp, l.hm⟩
theorem LD.mk' {M : Mem} {c0 : Nat} {h : CH} {S : PSt} {T c : Nat} {E : Nat → Nat → Nat} {sv : Nat → PSt × Nat} (a : LC M c0 h S T E c sv) (b : LM M h S T E c sv) : LD M c0 h S T E c sv := ⟨a.1, a.2.1, b.1, ⟨a.2.2.1, b.2.1⟩, a.2.2.2.1, b.2.2.1, a.2.2.2.2.1, b.2.2.2, a.2.2.2.2.2.1, a.2.2.2.2.2.2⟩
theorem LC.fr {W : Nat → Nat → Prop} {M M1 : Mem} {c0 : Nat} {h : CH} {S : PSt} {T c : Nat} {E : Nat → Nat → Nat} {sv : Nat → PSt × Nat} (l : LC M c0 h S T E c sv) (f : FR W M M1) (hw : ∀ a j, W a j → 355 ≤ a) : LC M1 c0 h S T E c sv := by
  obtain ⟨g1, g2, g3, g4, g5, g6, g7⟩ := l
  have hz : c0 = 335 ∨ c0 = 344 := g2.z
  have hn : ∀ a j, a < 355 → ¬ W a j := fun a j h q => by have := hw a j q; omega
  exact ⟨(f.R _ _).trans g1, g2.fr f (fun a j p => hn a j (by unfold Wch at p; omega)), (f.I (hn _ _ (by omega))).trans g3, g4.fr f (fun a j _ _ => hn a j (by omega)), g5.fr f (fun a j _ _ => hn a j (by omega)), g6.fr f (fun a j p => hn a j (by omega)), g7.fr f (hn _ _ (by omega)) (fun _ => hn _ _ (by omega)) (fun _ => hn _ _ (by omega))⟩
theorem LM.fr {W : Nat → Nat → Prop} {M M1 : Mem} {h : CH} (v : CV h) {S : PSt} {T c : Nat} {E : Nat → Nat → Nat} {sv : Nat → PSt × Nat} (l : LM M h S T E c sv) (f : FR W M M1) (hw : ∀ a j, W a j → a < 355) : LM M1 h S T E c sv := by
  obtain ⟨g1, g2, g3, g4⟩ := l
  have hn : ∀ a j, 355 ≤ a → ¬ W a j := fun a j h q => by have := hw a j q; omega
  exact ⟨g1.fr f (fun a j p => hn a j (by unfold Wmc at p; omega)), (f.I (hn _ _ (by omega))).trans g2, g3.fr v.n63.1 f (fun a j p => hn a j (by unfold Wla at p; omega)), g4.fr v.n63.1 f (fun a j p => hn a j (by unfold Wpa at p; omega))⟩
/-- where acts write -/
def WcA (a j : Nat) : Prop := (a = 12 ∧ 2 ≤ j) ∨ (a = 6 ∧ 5 ≤ j) ∨ (7 ≤ a ∧ a ≤ 11) ∨ (a = 3 ∧ j = 2) ∨ (4 ≤ a ∧ a ≤ 5) ∨ (13 ≤ a ∧ a ≤ 26) ∨ (41 ≤ a ∧ a ≤ 326)
theorem WcA_ge {a j : Nat} (h : Wge a j) : WcA a j := by
  unfold Wge Wde Wtm at h
  unfold WcA
  omega
def WmA (a j : Nat) : Prop := Wgm a j ∨ Wlk 0 a j ∨ Wlk 1 a j ∨ Wun a j
theorem WmA_n {a j : Nat} (h : WmA a j) : 375 ≤ a ∧ a ≤ 389 ∨ (a = 355 ∧ 49 ≤ j ∧ j ≤ 68 ∧ ¬ j = 64) := by
  unfold WmA Wgm Wrb Wag Wlk Wla Wke Wun at h
  rcases h with ((h | h | h | h | h | h) | h | h | h) | ((h | h | h) | h | h) | ((h | h | h) | h | h) | h | h | h | h | h | h <;> omega
theorem RST.cA {M M1 : Mem} (g : RST M) (f : FR WcA M M1) : RST M1 := g.fr f (fun a j p q => by
  unfold Wre2 at p
  unfold WcA at q
  rcases q with q | q | q | q | q | q | q <;> omega)
theorem RST.mA {M M1 : Mem} (g : RST M) (f : FR WmA M M1) : RST M1 := g.fr f (fun a j p q => by
  have := WmA_n q
  unfold Wre2 at p
  omega)
/-- an act that both do -/
theorem actI {M M1 M2 : Mem} {s c0 : Nat} {h : CH} {S S' : PSt} {T c T' c' : Nat} {E E' : Nat → Nat → Nat} {sv sv' : Nat → PSt × Nat} (g : RST M) (l : LD M c0 h S T E c sv) (lv : LV h S T c sv) (f1 : FR WcA M M1) (lc : LC M1 c0 h S' T' E' c' sv') (f2 : FR WmA M1 M2) (lm : LM M2 h S' T' E' c' sv') (lv' : LV h S' T' c' sv') (hT : T' ≤ s + 1) : Inv M2 (s + 1) := by
  refine Inv.mk' ((g.cA f1).mA f2) (Or.inl ⟨c0, h, S', T', E', c', sv', LD.mk' (lc.fr f2 (fun a j q => ?_)) lm, lv', hT⟩)
  have := WmA_n q
  omega
def upS (S : PSt) (i : Nat) (r : RW) : PSt := (S.1, fun k => if k = i then r else S.2 k)
theorem CP.up {M M1 : Mem} {n i : Nat} {S : PSt} {r : RW} (hi : i < 6) (g : CP M 13 n S) (f : FR (fun a _ => a = 13 + 2 + 2 * i ∨ a = 13 + 2 + 2 * i + 1) M M1) (hr : CR M1 (13 + 2 + 2 * i) n i r) : CP M1 13 n (upS S i r) := by
  refine ⟨(f.I (by omega)).trans g.1, fun k hk => ?_⟩
  show CR M1 (13 + 2 + 2 * k) n k (if k = i then r else S.2 k)
  by_cases e : k = i
  · subst e; rw [if_pos rfl]; exact hr
  · rw [if_neg e]; exact (g.2 k hk).fr f (fun _ => by omega) (fun _ => by omega)
theorem MP.up {M M1 : Mem} {n i : Nat} {S : PSt} {r : RW} (hn : n ≤ 63) (hi : i < 6) (g : MP M 0 n S) (f : FR (fun a j => ((a = 382 ∨ a = 383 ∨ a = 384) ∧ j = i) ∨ (a = 385 ∧ 64 * i ≤ j ∧ j < 64 * i + 64)) M M1) (hr : MR M1 0 i n r) : MP M1 0 n (upS S i r) := by
  refine ⟨(f.I (by omega)).trans g.1, fun k hk => ?_⟩
  show MR M1 0 k n (if k = i then r else S.2 k)
  by_cases e : k = i
  · subst e; rw [if_pos rfl]; exact hr
  · rw [if_neg e]; exact (g.2 k hk).fr hn f (by omega) (by omega) (by omega) (fun q hq => by omega)
theorem PV.up {h : CH} {S : PSt} {i : Nat} {r : RW} (hi : i < kQ h) (g : PV h S) (hr : RV (kM h) (kP h) (kT h) (kN h) r) : PV h (upS S i r) := by
  refine ⟨fun k hk => ?_, g.2.1, fun k hk hk6 => ?_⟩
  · show RV _ _ _ _ (if k = i then r else S.2 k)
    by_cases e : k = i
    · rw [if_pos e]; exact hr
    · rw [if_neg e]; exact g.1 k hk
  · show (if k = i then r else S.2 k).1 = false
    rw [if_neg (by omega)]; exact g.2.2 k hk hk6
theorem LV.save {h : CH} {S : PSt} {T c : Nat} {sv : Nat → PSt × Nat} (lv : LV h S T c sv) (hc : c ≤ 20) : HO (cpp c) T (svp c sv (S, T)) ∧ HO (cpp c) (T + 1) (svp c sv (S, T)) ∧ ∀ k, k < cpp c → PV h (svp c sv (S, T) k).1 := by
  obtain ⟨a, b⟩ := HO.push (x := S) lv.2.2.1 hc
  refine ⟨a, b, fun k hk => ?_⟩
  unfold svp cpp at *
  by_cases h20 : c < 20
  · rw [if_pos h20] at hk ⊢
    by_cases e : k = c
    · simp only [if_pos e]; exact lv.2.1
    · simp only [if_neg e]; exact lv.2.2.2 k (by omega)
  · rw [if_neg h20] at hk ⊢
    by_cases e : k = 19
    · simp only [if_pos e]; exact lv.2.1
    · simp only [if_neg e]; exact lv.2.2.2 (k + 1) (by omega)
section
variable {M : Mem} {c0 : Nat} {h : CH} {S : PSt} {T c s : Nat} {E : Nat → Nat → Nat} {sv : Nat → PSt × Nat}
theorem c_save (hW : WRc M) (v : CV h) (hT : T < 2 ^ 30) (hO : HO c T sv) (l : LC M c0 h S T E c sv) : ∃ M1, f_X7_save 43 13 M = some M1 ∧ FR WcA M M1 ∧ LC M1 c0 h S T E (cpp c) (svp c sv (S, T)) ∧ c ≤ 20 := by
  obtain ⟨g1, g2, g3, g4, g5, g6, g7⟩ := l
  have hz : c0 = 335 ∨ c0 = 344 := g2.z
  obtain ⟨M1, a1, a2, a3⟩ := s_save hW v.n63.1 hT g4 hO g5
  refine ⟨M1, a1, a2.mo (fun a j q => by unfold Wsa at q; unfold WcA; omega), ⟨(a2.R _ _).trans g1, g2.fr a2 (fun a j p q => by unfold Wch at p; unfold Wsa at q; omega), (a2.I (by unfold Wsa; omega)).trans g3, g4.fr a2 (fun a j _ _ => by unfold Wsa; omega), a3, g6.fr a2 (fun a j p => by unfold Wsa; omega), g7.fr a2 (by unfold Wsa; omega) (fun _ => by unfold Wsa; omega) (fun _ => by unfold Wsa; omega)⟩, ?_⟩
  obtain ⟨l, -, hc, -⟩ := g5
  exact hc
theorem m_keeps (hW : WRc M) (v : CV h) (l : LM M h S T E c sv) : ∃ M1, f_X12_keeps 355 M = some M1 ∧ FR WmA M M1 ∧ LM M1 h S T E (cpp c) (svp c sv (S, T)) := by
  obtain ⟨g1, g2, g3, g4⟩ := l
  obtain ⟨M1, a1, a2, a3⟩ := s_keeps hW v.n63.1 g3 g4
  exact ⟨M1, a1, a2.mo (fun a j q => Or.inr (Or.inr (Or.inr q))), g1.fr a2 (fun a j p q => by unfold Wmc at p; unfold Wun at q; omega), (a2.I (by unfold Wun; omega)).trans g2, g3.fr v.n63.1 a2 (fun a j p q => by unfold Wla at p; unfold Wun at q; omega), a3⟩
/-- a row of the class is written anew -/
theorem LC.up {M1 : Mem} {i : Nat} {r : RW} (hi : i < 6) (l : LC M c0 h S T E c sv) (f : FR (fun a _ => a = 13 + 2 + 2 * i ∨ a = 13 + 2 + 2 * i + 1) M M1) (hr : CR M1 (13 + 2 + 2 * i) (kN h) i r) : LC M1 c0 h (upS S i r) T E c sv := by
  obtain ⟨g1, g2, g3, g4, g5, g6, g7⟩ := l
  have hz : c0 = 335 ∨ c0 = 344 := g2.z
  exact ⟨(f.R _ _).trans g1, g2.fr f (fun a j p q => by unfold Wch at p; omega), (f.I (by omega)).trans g3, g4.up hi f hr, g5.fr f (fun a j _ _ => by omega), g6.fr f (fun a j p => by omega), g7.fr f (by omega) (fun _ => by omega) (fun _ => by omega)⟩
theorem LM.up {M1 : Mem} {i : Nat} {r : RW} (v : CV h) (hi : i < 6) (l : LM M h S T E c sv) (f : FR (fun a j => ((a = 382 ∨ a = 383 ∨ a = 384) ∧ j = i) ∨ (a = 385 ∧ 64 * i ≤ j ∧ j < 64 * i + 64)) M M1) (hr : MR M1 0 i (kN h) r) : LM M1 h (upS S i r) T E c sv := by
  obtain ⟨g1, g2, g3, g4⟩ := l
  exact ⟨g1.fr f (fun a j p q => by unfold Wmc at p; omega), (f.I (by omega)).trans g2, g3.up v.n63.1 hi f hr, g4.fr v.n63.1 f (fun a j p q => by unfold Wpa at p; omega)⟩
end
theorem Wro {a j i : Nat} (hi : i < 6) (q : a = 13 + 2 + 2 * i ∨ a = 13 + 2 + 2 * i + 1) : WcA a j := by
  unfold WcA; omega
theorem WroM {a j i : Nat} (hi : i < 6) (q : ((a = 382 ∨ a = 383 ∨ a = 384) ∧ j = i) ∨ (a = 385 ∧ 64 * i ≤ j ∧ j < 64 * i + 64)) : WmA a j := Or.inr (Or.inl (Or.inl (by unfold Wla; omega)))
/-- both refuse -/
theorem refB {M : Mem} {s : Nat} (g : Inv M s) {k : Nat} (hk : k < 6) : ∃ M1 M2, f_X11_refuse 0 (nI k) M = some (-1, M1) ∧ f_X12_refuses 355 (nI k) M1 = some (-1, M2) ∧ Inv M2 s ∧ FR (fun a _ => a = 2) M M1 := by
  have hW := g.rst.W
  have e1 := s_refuse (x := nI k) hW k rfl hk
  have f1 : FR (fun a _ => a = 2) M (zwI M 2 (zup (zI M 2) k (zI M 2 k + 1))) := (FR.rf _ M).wI (fun _ => rfl)
  have e2 := s_refuses (x := nI k) (f1.W hW) k rfl hk
  have f2 : FR (fun a _ => a = 371) (zwI M 2 (zup (zI M 2) k (zI M 2 k + 1))) (zwI (zwI M 2 (zup (zI M 2) k (zI M 2 k + 1))) 371 (zup (zI (zwI M 2 (zup (zI M 2) k (zI M 2 k + 1))) 371) k (zI (zwI M 2 (zup (zI M 2) k (zI M 2 k + 1))) 371 k + 1))) := (FR.rf _ _).wI (fun _ => rfl)
  refine ⟨_, _, e1, e2, ?_, f1⟩
  have f3 : FR (fun a _ => a = 2 ∨ a = 371) M (zwI (zwI M 2 (zup (zI M 2) k (zI M 2 k + 1))) 371 (zup (zI (zwI M 2 (zup (zI M 2) k (zI M 2 k + 1))) 371) k (zI (zwI M 2 (zup (zI M 2) k (zI M 2 k + 1))) 371 k + 1))) := (f1.mo (fun a j q => Or.inl q)).tr (f2.mo (fun a j q => Or.inr q))
  have hrst := g.rst
  obtain ⟨r1, r2, r3, r4, r5, r6, r7, r8⟩ := hrst
  have hnew : ∀ i, i < 6 → zI (zwI (zwI M 2 (zup (zI M 2) k (zI M 2 k + 1))) 371 (zup (zI (zwI M 2 (zup (zI M 2) k (zI M 2 k + 1))) 371) k (zI (zwI M 2 (zup (zI M 2) k (zI M 2 k + 1))) 371 k + 1))) 2 i = zI (zwI (zwI M 2 (zup (zI M 2) k (zI M 2 k + 1))) 371 (zup (zI (zwI M 2 (zup (zI M 2) k (zI M 2 k + 1))) 371) k (zI (zwI M 2 (zup (zI M 2) k (zI M 2 k + 1))) 371 k + 1))) 371 i := by
    intro i hi
    show zup (zI M 2) k (zI M 2 k + 1) i = zup (zI M 371) k (zI M 371 k + 1) i
    rw [zup_at, zup_at]
    by_cases e : i = k
    · rw [if_pos e, if_pos e, r3 k hk]
    · rw [if_neg e, if_neg e, r3 i hi]
  -- the frame keeps all but the counts
  have g0 : RST M := ⟨r1, r2, r3, r4, r5, r6, r7, r8⟩
  refine Inv.mk' ?_ ?_
  · obtain ⟨⟨c, s', p, w1, w2, w3, w4, w5⟩, ⟨t, t1, t2, t3, t4⟩, -, ⟨sd, s1, s2, s3⟩, q5, ⟨z, z1, z2, z3, z4⟩, ⟨mt, m1, m2, m3, m4⟩, q8⟩ := g0
    refine ⟨⟨c, s', p, f3.W w1, by rw [f3.1]; exact w2, by rw [f3.1]; exact w3, by rw [f3.1]; exact w4, w5⟩, ⟨t, t1, (f3.I (by omega)).trans t2, (f3.I (by omega)).trans t3, fun k hk => ?_⟩, hnew, ⟨sd, s1, (f3.I (by omega)).trans s2, (f3.L (by omega)).trans s3⟩, ?_, ⟨z, z1, (f3.I (by omega)).trans z2, (f3.I (by omega)).trans z3, fun k hk => ?_⟩, ⟨mt, m1, (f3.I (by omega)).trans m2, (f3.I (by omega)).trans m3, fun i hi => ?_⟩, fun i hi => (f3.I (by omega)).trans (q8 i hi)⟩
    · obtain ⟨e1, b, hb, e2⟩ := t4 k hk
      rw [f3.I (a := 1) (by omega), f3.I (a := 356) (by omega)]
      exact ⟨e1, b, hb, e2⟩
    · refine ⟨?_, fun i hi => (f3.I (a := 354) (j := i) (by omega)).trans (q5.2 i hi)⟩
      unfold I_fault0
      rw [f3.I (a := 353) (j := 4) (by omega), f3.I (a := 353) (j := 5) (by omega), f3.I (a := 355) (j := 10) (by omega), f3.I (a := 355) (j := 11) (by omega)]; exact q5.1
    · rw [f3.I (a := 334) (by omega), f3.I (a := 394) (by omega)]; exact z4 k hk
    · obtain ⟨a, o, e1, e2, e3, e4, e5, e6⟩ := m4 i hi
      exact ⟨a, o, e1, e2, (f3.I (by omega)).trans e3, (f3.I (by omega)).trans e4, (f3.I (by omega)).trans e5, (f3.I (by omega)).trans e6⟩
  · rcases g.st with ⟨c0, h, S, T, E, c, sv, l, lv, hT⟩ | o
    · refine Or.inl ⟨c0, h, S, T, E, c, sv, LD.mk' ?_ ?_, lv, hT⟩
      · have hz : c0 = 335 ∨ c0 = 344 := l.cc.z
        obtain ⟨a1, a2, a3, a4, a5, a6, a7⟩ := l.c
        exact ⟨(f3.R _ _).trans a1, a2.fr f3 (fun a j p q => by unfold Wch at p; omega), (f3.I (by omega)).trans a3, a4.fr f3 (fun a j _ _ => by omega), a5.fr f3 (fun a j _ _ => by omega), a6.fr f3 (fun a j p => by omega), a7.fr f3 (by omega) (fun _ => by omega) (fun _ => by omega)⟩
      · obtain ⟨a1, a2, a3, a4⟩ := l.m
        exact ⟨a1.fr f3 (fun a j p q => by unfold Wmc at p; omega), (f3.I (by omega)).trans a2, a3.fr lv.1.n63.1 f3 (fun a j p q => by unfold Wla at p; omega), a4.fr lv.1.n63.1 f3 (fun a j p q => by unfold Wpa at p; omega)⟩
    · obtain ⟨⟨o1, o2⟩, ⟨o3, o4, o5, o6⟩, ⟨o7, o8, o9, o10⟩, ⟨o11, o12, o13, o14, o15, o16⟩, o17⟩ := o
      exact Or.inr ⟨⟨(f3.I (by omega)).trans o1, (f3.I (by omega)).trans o2⟩, ⟨(f3.I (by omega)).trans o3, (f3.I (by omega)).trans o4, (f3.I (by omega)).trans o5, (f3.I (by omega)).trans o6⟩, ⟨(f3.I (by omega)).trans o7, (f3.I (by omega)).trans o8, (f3.I (by omega)).trans o9, (f3.I (by omega)).trans o10⟩, ⟨(f3.I (by omega)).trans o11, (f3.I (by omega)).trans o12, (f3.I (by omega)).trans o13, (f3.I (by omega)).trans o14, (f3.I (by omega)).trans o15, (f3.I (by omega)).trans o16⟩, ⟨fun i hi => (f3.I (by omega)).trans (o17.1 i hi), (f3.I (by omega)).trans o17.2⟩⟩
