/-! a chip, as both hold it -/
abbrev CH : Type := (Nat → Nat) × Option (List (Nat × Nat)) × Option (List (Nat × Nat)) × (Nat → List Nat)
def kM (h : CH) : Nat := h.1 0
def kP (h : CH) : Nat := h.1 1
def kT (h : CH) : Nat := h.1 2
def kN (h : CH) : Nat := h.1 3
def kC (h : CH) : Nat := h.1 4
def kG (h : CH) : Nat := h.1 5
def kQ (h : CH) : Nat := h.1 6
def kH (h : CH) : Nat := h.1 7
def kL (h : CH) : Nat := h.1 8
def kD (h : CH) : Nat := h.1 9
def kS (h : CH) : Nat := h.1 10
def kZ (h : CH) : Nat := h.1 11
def kDr (h : CH) : Option (List (Nat × Nat)) := h.2.1
def kTr (h : CH) : Option (List (Nat × Nat)) := h.2.2.1
def kNm (h : CH) : Nat → List Nat := h.2.2.2
def CV (h : CH) : Prop := ((kM h, kP h) ∈ fPR) ∧ (1 ≤ kT h ∧ kT h ≤ 5 ∧ 2 * kT h ≤ fN (kM h)) ∧ (1 ≤ kC h ∧ kC h < kN h ∧ kN h ≤ fN (kM h)) ∧ (kG h < 2 ^ (kC h + 1) ∧ (kG h).testBit (kC h) = true ∧ ∀ j, 1 ≤ j → j ≤ 2 * kT h → sy (kM h) (kP h) (kC h + 1) (kG h) j = 0) ∧ (kQ h ≤ 6) ∧ (51 ≤ kH h ∧ kH h ≤ 99 ∧ kL h ≤ 49 ∧ 1 ≤ kD h ∧ kD h ≤ 99 ∧ 1 ≤ kS h ∧ kS h ≤ 20 ∧ kZ h ≤ 100) ∧ (∀ cs, kDr h = some cs → tyc 1 6 cs [] = some [false]) ∧ (∀ cs, kTr h = some cs → tyc 7 9 cs [] = some [true])
theorem CV.pr {h : CH} (v : CV h) : (kM h, kP h) ∈ fPR := v.1
theorem CV.n63 {h : CH} (v : CV h) : kN h ≤ 63 ∧ 2 ≤ kN h ∧ kC h + 1 ≤ 63 := by
  have h1 := f_m v.1
  have h2 := v.2.2.1
  omega
theorem CV.t {h : CH} (v : CV h) : 1 ≤ kT h ∧ kT h ≤ 5 ∧ 2 * kT h ≤ fN (kM h) := v.2.1
theorem CV.c {h : CH} (v : CV h) : 1 ≤ kC h ∧ kC h < kN h ∧ kN h ≤ fN (kM h) := v.2.2.1
theorem CV.g {h : CH} (v : CV h) : kG h < 2 ^ (kC h + 1) ∧ (kG h).testBit (kC h) = true ∧ ∀ j, 1 ≤ j → j ≤ 2 * kT h → sy (kM h) (kP h) (kC h + 1) (kG h) j = 0 := v.2.2.2.1
theorem CV.q {h : CH} (v : CV h) : kQ h ≤ 6 := v.2.2.2.2.1
theorem CV.s {h : CH} (v : CV h) : 51 ≤ kH h ∧ kH h ≤ 99 ∧ kL h ≤ 49 ∧ 1 ≤ kD h ∧ kD h ≤ 99 ∧ 1 ≤ kS h ∧ kS h ≤ 20 ∧ kZ h ≤ 100 := v.2.2.2.2.2.1
theorem CV.dr {h : CH} (v : CV h) : ∀ cs, kDr h = some cs → tyc 1 6 cs [] = some [false] := v.2.2.2.2.2.2.1
theorem CV.tr {h : CH} (v : CV h) : ∀ cs, kTr h = some cs → tyc 7 9 cs [] = some [true] := v.2.2.2.2.2.2.2
def pk5 (l : List Nat) : Nat := (l.foldl (fun a x => a * 32 + x) 0) * 32 ^ (6 - l.length)
def pk8 (l : List Nat) : Nat := l.foldl (fun a x => a * 256 + (x + 96)) 0
def NM (l : List Nat) : Prop := 1 ≤ l.length ∧ l.length ≤ 6 ∧ ∀ x ∈ l, 1 ≤ x ∧ x ≤ 26
/-- a program of the class between two of its slots -/
def CPR (M : Mem) (c0 sf st : Nat) : Option (List (Nat × Nat)) → Prop
  | none => ∃ a b, zI M c0 sf = nI a ∧ zI M c0 st = nI b ∧ b ≤ a ∧ a ≤ 1600
  | some cs => ∃ a b, zI M c0 sf = nI a ∧ zI M c0 st = nI b ∧ a + cs.length = b ∧ b ≤ 1600 ∧ 0 < cs.length ∧ PRG M (c0 + 8) a cs
def CC (M : Mem) (c0 : Nat) (h : CH) : Prop := (zCh2 c0) ∧ (CD M (c0 + 1) (kM h) (kP h) (kT h) (kN h)) ∧ (zI M (c0 + 1) 9 = nI (kC h)) ∧ (zI M (c0 + 1) 11 = nI (kN h - kC h)) ∧ (zL M (c0 + 1) 12 = lN (kG h)) ∧ (zI M c0 9 = nI (kQ h)) ∧ (zI M c0 10 = nI (kH h) ∧ zI M c0 11 = nI (kL h) ∧ zI M c0 12 = nI (kD h) ∧ zI M c0 13 = nI (kS h) ∧ zI M c0 14 = nI (kZ h)) ∧ (CPR M c0 4 5 (kDr h)) ∧ (CPR M c0 6 7 (kTr h)) ∧ ((∀ i, i < kQ h → zI M (c0 + 7) i = nI (pk5 (kNm h i))) ∧ zI M (c0 + 1) 6 = nI (kM h))
def Wch (c0 a j : Nat) : Prop := a = c0 ∨ (a = c0 + 1 ∧ ¬ j = 5) ∨ a = c0 + 2 ∨ a = c0 + 3 ∨ a = c0 + 7 ∨ a = c0 + 8
theorem CPR.fr {W : Nat → Nat → Prop} {M M1 : Mem} {c0 sf st : Nat} {o : Option (List (Nat × Nat))} (h : CPR M c0 sf st o) (f : FR W M M1) (h1 : ∀ j, ¬ W c0 j) (h2 : ∀ j, ¬ W (c0 + 8) j) : CPR M1 c0 sf st o := by
  cases o with
  | none => obtain ⟨a, b, g1, g2, g3⟩ := h; exact ⟨a, b, (f.I (h1 _)).trans g1, (f.I (h1 _)).trans g2, g3⟩
  | some cs => obtain ⟨a, b, g1, g2, g3, g4, g5, g6⟩ := h; exact ⟨a, b, (f.I (h1 _)).trans g1, (f.I (h1 _)).trans g2, g3, g4, g5, g6.fr f h2⟩
theorem CC.fr {W : Nat → Nat → Prop} {M M1 : Mem} {c0 : Nat} {h : CH} (g : CC M c0 h) (f : FR W M M1) (hw : ∀ a j, Wch c0 a j → ¬ W a j) : CC M1 c0 h := by
  obtain ⟨g1, ⟨d1, d2, d3, d4, d5⟩, g3, g4, g5, g6, g7, g8, g9, g10⟩ := g
  have hI : ∀ a j, Wch c0 a j → zI M1 a j = zI M a j := fun a j x => f.I (hw a j x)
  refine ⟨g1, ⟨d1, d2.fr f (hw _ _ (by unfold Wch; omega)) (fun _ => hw _ _ (by unfold Wch; omega)) (fun _ => hw _ _ (by unfold Wch; omega)), (hI _ _ (by unfold Wch; omega)).trans d3, (hI _ _ (by unfold Wch; omega)).trans d4, d5⟩, (hI _ _ (by unfold Wch; omega)).trans g3, (hI _ _ (by unfold Wch; omega)).trans g4, (f.L (hw _ _ (by unfold Wch; omega))).trans g5, (hI _ _ (by unfold Wch; omega)).trans g6, ⟨(hI _ _ (by unfold Wch; omega)).trans g7.1, (hI _ _ (by unfold Wch; omega)).trans g7.2.1, (hI _ _ (by unfold Wch; omega)).trans g7.2.2.1, (hI _ _ (by unfold Wch; omega)).trans g7.2.2.2.1, (hI _ _ (by unfold Wch; omega)).trans g7.2.2.2.2⟩, g8.fr f (fun _ => hw _ _ (by unfold Wch; omega)) (fun _ => hw _ _ (by unfold Wch; omega)), g9.fr f (fun _ => hw _ _ (by unfold Wch; omega)) (fun _ => hw _ _ (by unfold Wch; omega)), ⟨fun i hi => (hI _ _ (by unfold Wch; omega)).trans (g10.1 i hi), (hI _ _ (by unfold Wch; omega)).trans g10.2⟩⟩
theorem CC.z {M : Mem} {c0 : Nat} {h : CH} (g : CC M c0 h) : zCh2 c0 := g.1
theorem CC.cd {M : Mem} {c0 : Nat} {h : CH} (g : CC M c0 h) : CD M (c0 + 1) (kM h) (kP h) (kT h) (kN h) := g.2.1
theorem CC.n {M : Mem} {c0 : Nat} {h : CH} (g : CC M c0 h) : zI M (c0 + 1) 10 = nI (kN h) := g.2.1.2.2.2.1
theorem CC.t {M : Mem} {c0 : Nat} {h : CH} (g : CC M c0 h) : zI M (c0 + 1) 8 = nI (kT h) := g.2.1.2.2.1
theorem CC.c {M : Mem} {c0 : Nat} {h : CH} (g : CC M c0 h) : zI M (c0 + 1) 9 = nI (kC h) := g.2.2.1
theorem CC.b {M : Mem} {c0 : Nat} {h : CH} (g : CC M c0 h) : zI M (c0 + 1) 11 = nI (kN h - kC h) := g.2.2.2.1
theorem CC.gn {M : Mem} {c0 : Nat} {h : CH} (g : CC M c0 h) : zL M (c0 + 1) 12 = lN (kG h) := g.2.2.2.2.1
theorem CC.q {M : Mem} {c0 : Nat} {h : CH} (g : CC M c0 h) : zI M c0 9 = nI (kQ h) := g.2.2.2.2.2.1
theorem CC.s {M : Mem} {c0 : Nat} {h : CH} (g : CC M c0 h) : zI M c0 10 = nI (kH h) ∧ zI M c0 11 = nI (kL h) ∧ zI M c0 12 = nI (kD h) ∧ zI M c0 13 = nI (kS h) ∧ zI M c0 14 = nI (kZ h) := g.2.2.2.2.2.2.1
theorem CC.dr {M : Mem} {c0 : Nat} {h : CH} (g : CC M c0 h) : CPR M c0 4 5 (kDr h) := g.2.2.2.2.2.2.2.1
theorem CC.tr {M : Mem} {c0 : Nat} {h : CH} (g : CC M c0 h) : CPR M c0 6 7 (kTr h) := g.2.2.2.2.2.2.2.2.1
/-- the model's program -/
def MPR (M : Mem) (bk w : Nat) : Option (List (Nat × Nat)) → Prop
  | none => zI M 359 (2 * bk + w) = -1
  | some cs => ∃ a b, zI M 359 (2 * bk + w) = nI a ∧ zI M 360 (2 * bk + w) = nI b ∧ a + cs.length = b ∧ b ≤ 1600 ∧ PRM M (1600 * bk + a) cs
def MC (M : Mem) (h : CH) : Prop := ∃ bk, (bk ≤ 1 ∧ zI M 355 13 = nI bk ∧ MD M (kM h) (kP h) (kT h) (kN h)) ∧ (zI M 355 38 = nI (kC h) ∧ zI M 355 40 = nI (kN h - kC h) ∧ zL M 355 41 = lN (kG h)) ∧ (zI M 358 bk = nI (kQ h)) ∧ (BY M 4 (kH h) ∧ BY M 5 (kL h) ∧ BY M 6 (kD h) ∧ BY M 7 (kS h) ∧ BY M 8 (kZ h)) ∧ (MPR M bk 0 (kDr h)) ∧ (MPR M bk 1 (kTr h)) ∧ (∀ i, i < kQ h → zL M 363 (6 * bk + i) = lN (pk8 (kNm h i)) ∧ NM (kNm h i))
def Wmc (a j : Nat) : Prop := (a = 355 ∧ (j = 13 ∨ (37 ≤ j ∧ j ≤ 41))) ∨ (357 ≤ a ∧ a ≤ 363) ∨ a = 372 ∨ a = 373
theorem MPR.fr {W : Nat → Nat → Prop} {M M1 : Mem} {bk w : Nat} {o : Option (List (Nat × Nat))} (h : MPR M bk w o) (f : FR W M M1) (h1 : ∀ a j, Wmc a j → ¬ W a j) : MPR M1 bk w o := by
  cases o with
  | none => exact (f.I (h1 _ _ (by unfold Wmc; omega))).trans h
  | some cs => obtain ⟨a, b, g1, g2, g3, g4, g5⟩ := h; exact ⟨a, b, (f.I (h1 _ _ (by unfold Wmc; omega))).trans g1, (f.I (h1 _ _ (by unfold Wmc; omega))).trans g2, g3, g4, g5.fr f (fun j => ⟨h1 _ _ (by unfold Wmc; omega), h1 _ _ (by unfold Wmc; omega)⟩)⟩
theorem MC.fr {W : Nat → Nat → Prop} {M M1 : Mem} {h : CH} (g : MC M h) (f : FR W M M1) (hw : ∀ a j, Wmc a j → ¬ W a j) : MC M1 h := by
  obtain ⟨bk, ⟨g1, g2, g3⟩, g4, g5, g6, g7, g8, g9⟩ := g
  have hI : ∀ a j, Wmc a j → zI M1 a j = zI M a j := fun a j x => f.I (hw a j x)
  have hB : ∀ k v, BY M k v → BY M1 k v := fun k v b => b.fr f (hw _ _ (by unfold Wmc; omega)) (fun _ => hw _ _ (by unfold Wmc; omega))
  exact ⟨bk, ⟨g1, (hI _ _ (by unfold Wmc; omega)).trans g2, g3.fr f (hw _ _ (by unfold Wmc; omega)) (hw _ _ (by unfold Wmc; omega)) (hw _ _ (by unfold Wmc; omega)) (fun j => ⟨hw _ _ (by unfold Wmc; omega), hw _ _ (by unfold Wmc; omega), hw _ _ (by unfold Wmc; omega)⟩)⟩, ⟨(hI _ _ (by unfold Wmc; omega)).trans g4.1, (hI _ _ (by unfold Wmc; omega)).trans g4.2.1, (f.L (hw _ _ (by unfold Wmc; omega))).trans g4.2.2⟩, (hI _ _ (by unfold Wmc; omega)).trans g5, ⟨hB _ _ g6.1, hB _ _ g6.2.1, hB _ _ g6.2.2.1, hB _ _ g6.2.2.2.1, hB _ _ g6.2.2.2.2⟩, g7.fr f hw, g8.fr f hw, fun i hi => ⟨(f.L (hw _ _ (by unfold Wmc; omega))).trans (g9 i hi).1, (g9 i hi).2⟩⟩
