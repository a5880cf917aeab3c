/-! chip: what stays -/
theorem FR.sR {W : Nat → Nat → Prop} {M M1 : Mem} (h : FR W M M1) (a k v : Nat) : FR W (zsR M a k v) (zsR M1 a k v) := by
  refine ⟨?_, h.2.1, h.2.2⟩
  have e : M1.2.2 = M.2.2 := h.1
  show zup M1.2.2 a (zup (M1.2.2 a) k v) = zup M.2.2 a (zup (M.2.2 a) k v)
  rw [e]
theorem zrf_sR_n {M : Mem} {a k v x j : Nat} (h : ¬ (x = a ∧ j = k)) : zrf (zsR M a k v) x j = zrf M x j := by
  unfold zrf; rw [zR_sR, if_neg h]
theorem zrf_sR_e {M : Mem} {a k v : Nat} : zrf (zsR M a k (v + 1)) a k = some v := zrf_of (by rw [zR_sR, if_pos ⟨rfl, rfl⟩])
section
variable {M M1 : Mem} {c0 c1 bi bk : Nat} {h : CH} {S : PSt} {T c : Nat} {E : Nat → Nat → Nat} {sv : Nat → PSt × Nat}
theorem PRG.rs {a k v x : Nat} : ∀ {cs : List (Nat × Nat)} {i : Nat}, PRG M x i cs → PRG (zsR M a k v) x i cs
  | [], _, _ => trivial
  | _ :: _, _, h => ⟨h.1, PRG.rs h.2⟩
theorem PRM.rs {a k v : Nat} : ∀ {cs : List (Nat × Nat)} {i : Nat}, PRM M i cs → PRM (zsR M a k v) i cs
  | [], _, _ => trivial
  | _ :: _, _, h => ⟨h.1, h.2.1, PRM.rs h.2.2⟩
theorem CPR.rs {a k v x y : Nat} : ∀ {o : Option (List (Nat × Nat))}, CPR M c1 x y o → CPR (zsR M a k v) c1 x y o
  | none, h => h
  | some cs, ⟨a, b, g1, g2, g3, g4, g5, g6⟩ => ⟨a, b, g1, g2, g3, g4, g5, g6.rs⟩
theorem MPR.rs {a k v w : Nat} : ∀ {o : Option (List (Nat × Nat))}, MPR M bk w o → MPR (zsR M a k v) bk w o
  | none, h => h
  | some cs, ⟨a, b, g1, g2, g3, g4, g5⟩ => ⟨a, b, g1, g2, g3, g4, g5.rs⟩
theorem CC.r353 {v : Nat} (g : CC M c1 h) : CC (zsR M 353 2 v) c1 h := by
  have hz : c1 = 335 ∨ c1 = 344 := g.z
  obtain ⟨g1, ⟨d1, ⟨o1, o2, o3⟩, d3⟩, g3, g4, g5, g6, g7, g8, g9, g10⟩ := g
  exact ⟨g1, ⟨d1, ⟨(zrf_sR_n (by omega)).trans o1, (zrf_sR_n (by omega)).trans o2, o3⟩, d3⟩, g3, g4, g5, g6, g7, g8.rs, g9.rs, g10⟩
theorem MC.r353 {v : Nat} (g : MC M h) : MC (zsR M 353 2 v) h := by
  obtain ⟨bk, ⟨g1, g2, ⟨o1, o2, o3⟩, g3⟩, g4, g5, g6, g7, g8, g9⟩ := g
  exact ⟨bk, ⟨g1, g2, ⟨(zrf_sR_n (by omega)).trans o1, (zrf_sR_n (by omega)).trans o2, o3⟩, g3⟩, g4, g5, g6, g7.rs, g8.rs, g9⟩
theorem LD.r353 {v : Nat} (l : LD M c1 h S T E c sv) : LD (zsR M 353 2 v) c1 h S T E c sv := by
  obtain ⟨l1, l2, l3, l4⟩ := l
  exact ⟨(zrf_sR_n (by omega)).trans l1, l2.r353, l3.r353, l4⟩
def Wfl (c0 bi a j : Nat) : Prop := (a = 0 ∧ j = 15) ∨ a = 2 ∨ (a = 353 ∧ 3 ≤ j ∧ j ≤ 12) ∨ (c0 ≤ a ∧ a ≤ c0 + 8) ∨ (a = 355 ∧ (j ≤ 12 ∨ (21 ≤ j ∧ j ≤ 23) ∨ (29 ≤ j ∧ j ≤ 33))) ∨ (a = 357 ∧ 10 * bi ≤ j ∧ j < 10 * bi + 10) ∨ (a = 358 ∧ j = bi) ∨ ((a = 359 ∨ a = 360) ∧ 2 * bi ≤ j ∧ j < 2 * bi + 2) ∨ ((a = 361 ∨ a = 362) ∧ 1600 * bi ≤ j ∧ j < 1600 * bi + 1600) ∨ (a = 363 ∧ 6 * bi ≤ j ∧ j < 6 * bi + 6) ∨ (364 ≤ a ∧ a ≤ 371)
def Wbk (bk a j : Nat) : Prop := (a = 355 ∧ (j = 13 ∨ (37 ≤ j ∧ j ≤ 41))) ∨ a = 372 ∨ a = 373 ∨ (a = 357 ∧ 10 * bk ≤ j ∧ j < 10 * bk + 10) ∨ (a = 358 ∧ j = bk) ∨ ((a = 359 ∨ a = 360) ∧ 2 * bk ≤ j ∧ j < 2 * bk + 2) ∨ ((a = 361 ∨ a = 362) ∧ 1600 * bk ≤ j ∧ j < 1600 * bk + 1600) ∨ (a = 363 ∧ 6 * bk ≤ j ∧ j < 6 * bk + 6)
theorem BY.fb {W : Nat → Nat → Prop} {k v : Nat} (hk : k < 10) (hbk : bk ≤ 1) (e13 : zI M 355 13 = nI bk) (f : FR W M M1) (hw : ∀ a j, Wbk bk a j → ¬ W a j) (g : BY M k v) : BY M1 k v := by
  obtain ⟨b, b1, b2, b3⟩ := g
  have : b = bk := (nI_eq (by omega) (by omega)).mp (b2.symm.trans e13)
  subst this
  exact ⟨b, b1, (f.I (hw _ _ (by unfold Wbk; omega))).trans b2, (f.I (hw _ _ (by unfold Wbk; omega))).trans b3⟩
theorem MPR.fb {W : Nat → Nat → Prop} {w : Nat} (hw2 : w < 2) (f : FR W M M1) (hw : ∀ a j, Wbk bk a j → ¬ W a j) : ∀ {o : Option (List (Nat × Nat))}, MPR M bk w o → MPR M1 bk w o
  | none, h => (f.I (hw _ _ (by unfold Wbk; omega))).trans h
  | some cs, ⟨a, b, g1, g2, g3, g4, g5⟩ => ⟨a, b, (f.I (hw _ _ (by unfold Wbk; omega))).trans g1, (f.I (hw _ _ (by unfold Wbk; omega))).trans g2, g3, g4, PRM.fj f (fun j j1 j2 => ⟨hw _ _ (by unfold Wbk; omega), hw _ _ (by unfold Wbk; omega)⟩) g5⟩
theorem MC.fb {W : Nat → Nat → Prop} (v : CV h) (g : MC M h) (hbk : bk ≤ 1) (e13 : zI M 355 13 = nI bk) (f : FR W M M1) (hw : ∀ a j, Wbk bk a j → ¬ W a j) : MC M1 h := by
  obtain ⟨b, ⟨g1, g2, ⟨g3, g3b, g3c⟩⟩, g4, g5, g6, g7, g8, g9⟩ := g
  have : b = bk := (nI_eq (by omega) (by omega)).mp (g2.symm.trans e13)
  subst this
  have hq := v.q
  refine ⟨b, ⟨g1, (f.I (hw _ _ (by unfold Wbk; omega))).trans g2, ⟨g3.fr f (hw _ _ (by unfold Wbk; omega)) (fun j => hw _ _ (by unfold Wbk; omega)) (fun j => hw _ _ (by unfold Wbk; omega)), g3b.fb (by decide) hbk e13 f hw, (f.I (hw _ _ (by unfold Wbk; omega))).trans g3c.1, g3c.2⟩⟩, ⟨(f.I (hw _ _ (by unfold Wbk; omega))).trans g4.1, (f.I (hw _ _ (by unfold Wbk; omega))).trans g4.2.1, (f.L (hw _ _ (by unfold Wbk; omega))).trans g4.2.2⟩, (f.I (hw _ _ (by unfold Wbk; omega))).trans g5, ⟨g6.1.fb (by decide) hbk e13 f hw, g6.2.1.fb (by decide) hbk e13 f hw, g6.2.2.1.fb (by decide) hbk e13 f hw, g6.2.2.2.1.fb (by decide) hbk e13 f hw, g6.2.2.2.2.fb (by decide) hbk e13 f hw⟩, g7.fb (by decide) f hw, g8.fb (by decide) f hw, fun i hi => ⟨(f.L (hw _ _ (by unfold Wbk; omega))).trans (g9 i hi).1, (g9 i hi).2⟩⟩
theorem LD.fl (v : CV h) (l : LD M c1 h S T E c sv) (hc : (c1 = 335 ∧ c0 = 344) ∨ (c1 = 344 ∧ c0 = 335)) (hbk : bk ≤ 1) (e13 : zI M 355 13 = nI bk) (hbi : bi = 1 - bk) (f7 : FR (Wfl c0 bi) M M1) : LD M1 c1 h S T E c sv := by
  obtain ⟨p1, p2, p3, p4, p5, p6, p7⟩ := l.c
  obtain ⟨n1, n2, n3, n4⟩ := l.m
  refine LD.mk' ⟨(f7.R _ _).trans p1, p2.fr f7 (fun a j p q => ?_), (f7.I (fun q => ?_)).trans p3, p4.fr f7 (fun a j p p' q => ?_), p5.fr f7 (fun a j p p' q => ?_), p6.fr f7 (fun a j p q => ?_), p7.fr f7 (fun q => ?_) (fun _ q => ?_) (fun _ q => ?_)⟩ ⟨n1.fb v hbk e13 f7 (fun a j p q => ?_), (f7.I (fun q => ?_)).trans n2, n3.fr v.n63.1 f7 (fun a j p q => ?_), n4.fr v.n63.1 f7 (fun a j p q => ?_)⟩
  · unfold Wch at p; rcases q with q | q | q | q | q | q | q | q | q | q | q <;> omega
  · rcases q with q | q | q | q | q | q | q | q | q | q | q <;> omega
  · rcases q with q | q | q | q | q | q | q | q | q | q | q <;> omega
  · rcases q with q | q | q | q | q | q | q | q | q | q | q <;> omega
  · rcases q with q | q | q | q | q | q | q | q | q | q | q <;> omega
  · rcases q with q | q | q | q | q | q | q | q | q | q | q <;> omega
  · rcases q with q | q | q | q | q | q | q | q | q | q | q <;> omega
  · rcases q with q | q | q | q | q | q | q | q | q | q | q <;> omega
  · unfold Wbk at p; rcases q with q | q | q | q | q | q | q | q | q | q | q <;> omega
  · rcases q with q | q | q | q | q | q | q | q | q | q | q <;> omega
  · unfold Wla at p; rcases q with q | q | q | q | q | q | q | q | q | q | q <;> omega
  · unfold Wpa at p; rcases q with q | q | q | q | q | q | q | q | q | q | q <;> omega
theorem OFF.fl (o : OFF M) (hc : c0 = 335 ∨ c0 = 344) (f : FR (Wfl c0 1) M M1) : OFF M1 := by
  obtain ⟨⟨a1, a2⟩, ⟨b1, b2, b3, b4⟩, ⟨d1, d2, d3, d4⟩, ⟨e1, e2, e3, e4, e5, e6⟩, g1, g2⟩ := o
  exact ⟨⟨(f.I (by unfold Wfl; omega)).trans a1, (f.I (by unfold Wfl; omega)).trans a2⟩, ⟨(f.I (by unfold Wfl; omega)).trans b1, (f.I (by unfold Wfl; omega)).trans b2, (f.I (by unfold Wfl; omega)).trans b3, (f.I (by unfold Wfl; omega)).trans b4⟩, ⟨(f.I (by unfold Wfl; omega)).trans d1, (f.I (by unfold Wfl; omega)).trans d2, (f.I (by unfold Wfl; omega)).trans d3, (f.I (by unfold Wfl; omega)).trans d4⟩, ⟨(f.I (by unfold Wfl; omega)).trans e1, (f.I (by unfold Wfl; omega)).trans e2, (f.I (by unfold Wfl; omega)).trans e3, (f.I (by unfold Wfl; omega)).trans e4, (f.I (by unfold Wfl; omega)).trans e5, (f.I (by unfold Wfl; omega)).trans e6⟩, fun i hi => (f.I (by unfold Wfl; omega)).trans (g1 i hi), (f.I (by unfold Wfl; omega)).trans g2⟩
end
/-- the rest, once a text is read -/
def Wre3 (a j : Nat) : Prop := (a = 0 ∧ j = 16) ∨ a = 354 ∨ a = 333 ∨ a = 334 ∨ (29 ≤ a ∧ a ≤ 40) ∨ (a = 355 ∧ (j = 64 ∨ j = 75)) ∨ a = 394
theorem RST.chX {M M2 : Mem} (g : RST M) (hI : ∀ a j, Wre3 a j → zI M2 a j = zI M a j) (hL : zL M2 355 64 = zL M 355 64) (rf : I_refs M2) (tp : I_tape M2) (re : I_ref M2) (fa : I_fault0 M2) (me : I_met M2) : RST M2 := by
  obtain ⟨-, -, -, ⟨sd, s1, s2, s3⟩, g5, ⟨z, z1, z2, z3, z4⟩, -, g8⟩ := g
  refine ⟨rf, tp, re, ⟨sd, s1, (hI _ _ (by unfold Wre3; omega)).trans s2, hL.trans s3⟩, ⟨fa, fun i hi => (hI _ _ (by unfold Wre3; omega)).trans (g5.2 i hi)⟩, ⟨z, z1, (hI _ _ (by unfold Wre3; omega)).trans z2, (hI _ _ (by unfold Wre3; omega)).trans z3, fun k hk => ?_⟩, me, fun i hi => (hI _ _ (by unfold Wre3; omega)).trans (g8 i hi)⟩
  rw [hI _ _ (by unfold Wre3; omega), hI _ _ (by unfold Wre3; omega)]
  exact z4 k hk
theorem I_met.fx {M M2 : Mem} (g : I_met M) (hI : ∀ a j, (a = 327 ∧ j = 5) ∨ a = 328 ∨ a = 329 ∨ (a = 355 ∧ j = 69) ∨ a = 390 ∨ a = 391 → zI M2 a j = zI M a j) : I_met M2 := by
  obtain ⟨mt, m1, m2, m3, m4⟩ := g
  refine ⟨mt, m1, (hI _ _ (by omega)).trans m2, (hI _ _ (by omega)).trans m3, fun i hi => ?_⟩
  obtain ⟨a, o, e1, e2, e3, e4, e5, e6⟩ := m4 i hi
  exact ⟨a, o, e1, e2, (hI _ _ (by omega)).trans e3, (hI _ _ (by omega)).trans e4, (hI _ _ (by omega)).trans e5, (hI _ _ (by omega)).trans e6⟩
