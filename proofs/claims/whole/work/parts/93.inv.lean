/-! what holds between two calls -/
def nsm : Nat → (Nat → Nat) → Nat
  | 0, _ => 0
  | n + 1, f => nsm n f + f n
def wct (h : CH) (w : Nat) : Nat := nsm (2 ^ (kN h - kC h)) (fun d => if pop 64 (wd (kG h) (kC h) (kN h - kC h) d) = w then 1 else 0)
def mct (h : CH) (k : Nat) : Nat := if k = 2 then nsm (kN h) (fun i => nsm i (fun j => if kCa h (2 ^ i ^^^ 2 ^ j) = 0 then 1 else 0)) else nsm (kN h) (fun i => nsm i (fun j => nsm j (fun l => if kCa h (2 ^ i ^^^ 2 ^ j ^^^ 2 ^ l) = 0 then 1 else 0)))
def KC (M : Mem) (c0 : Nat) (h : CH) : Prop := (zI M (c0 + 1) 5 = 0 ∨ (zI M (c0 + 1) 5 = 1 ∧ ∀ w, w < 64 → zI M (c0 + 4) w = nI (wct h w))) ∧ (∀ k, kT h < k → k < 4 → zI M (c0 + 6) k = -1 ∨ zI M (c0 + 6) k = nI (mct h k))
def LD (M : Mem) (c0 : Nat) (h : CH) (S : PSt) (T : Nat) (E : Nat → Nat → Nat) (c : Nat) (sv : Nat → PSt × Nat) : Prop := (zrf M 0 11 = some c0) ∧ CC M c0 h ∧ MC M h ∧ (zI M 0 14 = 1 ∧ zI M 355 35 = 1) ∧ CP M 13 (kN h) S ∧ MP M 0 (kN h) S ∧ HC M (kN h) T E c sv ∧ HM M (kN h) T E c sv ∧ DKh M h ∧ KC M c0 h
def PV (h : CH) (S : PSt) : Prop := SV h S ∧ S.1 ≤ 999 ∧ ∀ i, kQ h ≤ i → i < 6 → (S.2 i).1 = false
def LV (h : CH) (S : PSt) (T c : Nat) (sv : Nat → PSt × Nat) : Prop := CV h ∧ PV h S ∧ HO c T sv ∧ ∀ k, k < c → PV h (sv k).1
def I_met (M : Mem) : Prop := ∃ mt, mt ≤ 16 ∧ zI M 327 5 = nI mt ∧ zI M 355 69 = nI mt ∧ ∀ i, i < mt → ∃ a o, a ≤ 100 ∧ o ≤ 63 ∧ zI M 328 i = nI a ∧ zI M 329 i = nI o ∧ zI M 390 i = nI a ∧ zI M 391 i = nI o
def ON (M : Mem) (s : Nat) : Prop := ∃ c0 h S T E c sv, LD M c0 h S T E c sv ∧ LV h S T c sv ∧ T ≤ s
def OFF (M : Mem) : Prop := (zI M 0 14 = 0 ∧ zI M 355 35 = 0) ∧ (zI M 43 3 = 0 ∧ zI M 43 5 = 0 ∧ zI M 13 1 = 0 ∧ zI M 327 5 = 0) ∧ (zI M 355 63 = 0 ∧ zI M 386 0 = 0 ∧ zI M 381 0 = 0 ∧ zI M 355 69 = 0) ∧ (zI M 355 37 = 0 ∧ zI M 355 38 = 0 ∧ zI M 355 39 = 0 ∧ zI M 355 40 = 0 ∧ zI M 355 13 = 0 ∧ zI M 358 0 = 0) ∧ ((∀ i, i < 6 → zI M (15 + 2 * i) 1 = nI i) ∧ zI M 355 62 = 0)
def I_seed (M : Mem) : Prop := ∃ sd, sd < 2 ^ 31 ∧ zI M 0 16 = nI sd ∧ zL M 355 64 = lN sd
def owL : List (List Nat) := [[6, 9, 5, 12, 4], [16, 15, 12, 25], [13, 5, 14, 4, 19], [19, 8, 15, 18, 20], [16, 1, 7, 5], [8, 9, 7, 8], [12, 15, 23], [13, 9, 4], [19, 20, 5, 16], [14, 15, 9, 19, 5], [4, 18, 9, 6, 20, 19], [20, 18, 9, 5, 19], [4, 1, 25], [3, 5, 12, 12], [12, 5, 22, 5, 12], [2, 9, 20], [1, 7, 5], [20, 18, 9, 5, 4], [7, 1, 16], [1, 20], [9, 6], [15, 18], [1, 14, 4], [14, 15, 20], [1, 12, 12], [13, 9, 14], [13, 1, 24]]
def ow (i : Nat) : List Nat := owL.getD i []
def OWN (M : Mem) : Prop := ∀ i, i < 27 → zI M 354 i = nI (pk5 (ow i))
def I_fault0 (M : Mem) : Prop := zI M 353 4 = zI M 355 10 ∧ (¬ zI M 353 4 = 0 → zI M 353 5 = zI M 355 11) ∧ (zI M 353 4 = 0 → zI M 355 11 = -1)
def I_fault (M : Mem) : Prop := I_fault0 M ∧ OWN M
def I_img (M : Mem) : Prop := ∃ z, z ≤ 441 ∧ zI M 333 1 = nI z ∧ zI M 355 75 = nI z ∧ ∀ k, k < z → zI M 334 k = zI M 394 k
def I_refs (M : Mem) : Prop := ∃ c s p, WR M c s p
def Inv (M : Mem) (s : Nat) : Prop := I_refs M ∧ I_tape M ∧ I_ref M ∧ I_seed M ∧ I_fault M ∧ I_img M ∧ I_met M ∧ (∀ i, i < 6 → zI M (29 + 2 * i) 1 = nI i) ∧ (ON M s ∨ OFF M)
/-- places that a call may write without telling -/
def Wsc (a j : Nat) : Prop := (a = 12 ∧ 2 ≤ j) ∨ (a = 6 ∧ 5 ≤ j) ∨ (7 ≤ a ∧ a ≤ 11) ∨ (a = 3 ∧ j = 2) ∨ (4 ≤ a ∧ a ≤ 5) ∨ (41 ≤ a ∧ a ≤ 42) ∨ (375 ≤ a ∧ a ≤ 380) ∨ (a = 355 ∧ 49 ≤ j ∧ j ≤ 53) ∨ (a = 355 ∧ 67 ≤ j ∧ j ≤ 68) ∨ (388 ≤ a ∧ a ≤ 389) ∨ (a = 381 ∧ j = 1) ∨ (382 ≤ a ∧ a ≤ 384 ∧ 6 ≤ j ∧ j < 12) ∨ (a = 385 ∧ 384 ≤ j ∧ j < 768) ∨ (a = 386 ∧ j = 1) ∨ (a = 387 ∧ 120 ≤ j ∧ j < 240) ∨ (a = 327 ∧ 6 ≤ j) ∨ (330 ≤ a ∧ a ≤ 332) ∨ a = 374 ∨ (392 ≤ a ∧ a ≤ 393)
theorem Wsc_ge {a j : Nat} (h : Wge a j) : Wsc a j := by
  unfold Wge Wde Wtm at h
  rcases h with h | (h | h | h | h | h | h) | h | h | h
  · exact Or.inl h
  all_goals first
    | exact Or.inr (Or.inr (Or.inl (by omega)))
    | exact Or.inr (Or.inl h)
    | exact Or.inr (Or.inr (Or.inr (Or.inl h)))
    | exact Or.inr (Or.inr (Or.inr (Or.inr (Or.inl (by omega)))))
theorem Wsc_gm {a j : Nat} (h : Wgm a j) : Wsc a j := by
  unfold Wgm Wrb Wag at h
  rcases h with (h | h | h | h | h | h) | h | h | h
  all_goals first
    | exact Or.inr (Or.inr (Or.inr (Or.inr (Or.inr (Or.inr (Or.inl (by omega)))))))
    | exact Or.inr (Or.inr (Or.inr (Or.inr (Or.inr (Or.inr (Or.inr (Or.inl (by omega))))))))
    | exact Or.inr (Or.inr (Or.inr (Or.inr (Or.inr (Or.inr (Or.inr (Or.inr (Or.inl (by omega)))))))))
    | exact Or.inr (Or.inr (Or.inr (Or.inr (Or.inr (Or.inr (Or.inr (Or.inr (Or.inr (Or.inl (by omega))))))))))
theorem Wsc_lk {a j : Nat} (h : Wlk 1 a j) : Wsc a j := by
  unfold Wlk Wla Wke at h
  rcases h with (h | h | h) | h | h
  all_goals first
    | exact Or.inr (Or.inr (Or.inr (Or.inr (Or.inr (Or.inr (Or.inr (Or.inr (Or.inr (Or.inr (Or.inl (by omega)))))))))))
    | exact Or.inr (Or.inr (Or.inr (Or.inr (Or.inr (Or.inr (Or.inr (Or.inr (Or.inr (Or.inr (Or.inr (Or.inl (by omega))))))))))))
    | exact Or.inr (Or.inr (Or.inr (Or.inr (Or.inr (Or.inr (Or.inr (Or.inr (Or.inr (Or.inr (Or.inr (Or.inr (Or.inl (by omega)))))))))))))
    | exact Or.inr (Or.inr (Or.inr (Or.inr (Or.inr (Or.inr (Or.inr (Or.inr (Or.inr (Or.inr (Or.inr (Or.inr (Or.inr (Or.inl (by omega))))))))))))))
    | exact Or.inr (Or.inr (Or.inr (Or.inr (Or.inr (Or.inr (Or.inr (Or.inr (Or.inr (Or.inr (Or.inr (Or.inr (Or.inr (Or.inr (Or.inl (by omega)))))))))))))))
theorem KC.fr {W : Nat → Nat → Prop} {M M1 : Mem} {c0 : Nat} {h : CH} (g : KC M c0 h) (f : FR W M M1) (h1 : ¬ W (c0 + 1) 5) (h2 : ∀ j, ¬ W (c0 + 4) j) (h3 : ∀ j, ¬ W (c0 + 6) j) : KC M1 c0 h := by
  obtain ⟨g1, g2⟩ := g
  refine ⟨?_, fun k q1 q2 => ?_⟩
  · rcases g1 with g | ⟨g, g'⟩
    · exact Or.inl ((f.I h1).trans g)
    · exact Or.inr ⟨(f.I h1).trans g, fun w hw => (f.I (h2 _)).trans (g' w hw)⟩
  · rcases g2 k q1 q2 with g | g
    · exact Or.inl ((f.I (h3 _)).trans g)
    · exact Or.inr ((f.I (h3 _)).trans g)
theorem LD.sc {M M1 : Mem} {c0 : Nat} {h : CH} {S : PSt} {T c : Nat} {E : Nat → Nat → Nat} {sv : Nat → PSt × Nat} (v : CV h) (g : LD M c0 h S T E c sv) (f : FR Wsc M M1) (hK : DKh M1 h) : LD M1 c0 h S T E c sv := by
  obtain ⟨g1, g2, g3, g4, g5, g6, g7, g8, g9, g10⟩ := g
  have hz : c0 = 335 ∨ c0 = 344 := g2.z
  refine ⟨(f.R _ _).trans g1, g2.fr f (fun a j p q => ?_), g3.fr f (fun a j p q => ?_), ⟨(f.I (fun q => ?_)).trans g4.1, (f.I (fun q => ?_)).trans g4.2⟩, g5.fr f (fun a j p1 p2 q => ?_), g6.fr v.n63.1 f (fun a j p q => ?_), g7.fr f (fun a j p1 p2 q => ?_), g8.fr v.n63.1 f (fun a j p q => ?_), hK, g10.fr f (fun q => ?_) (fun j q => ?_) (fun j q => ?_)⟩
  · unfold Wch at p; rcases q with q | q | q | q | q | q | q | q | q | q | q | q | q | q | q | q | q | q | q <;> omega
  · unfold Wmc at p; rcases q with q | q | q | q | q | q | q | q | q | q | q | q | q | q | q | q | q | q | q <;> omega
  · rcases q with q | q | q | q | q | q | q | q | q | q | q | q | q | q | q | q | q | q | q <;> omega
  · rcases q with q | q | q | q | q | q | q | q | q | q | q | q | q | q | q | q | q | q | q <;> omega
  · rcases q with q | q | q | q | q | q | q | q | q | q | q | q | q | q | q | q | q | q | q <;> omega
  · unfold Wla at p; rcases q with q | q | q | q | q | q | q | q | q | q | q | q | q | q | q | q | q | q | q <;> omega
  · rcases q with q | q | q | q | q | q | q | q | q | q | q | q | q | q | q | q | q | q | q <;> omega
  · unfold Wpa at p; rcases q with q | q | q | q | q | q | q | q | q | q | q | q | q | q | q | q | q | q | q <;> omega
  · rcases q with q | q | q | q | q | q | q | q | q | q | q | q | q | q | q | q | q | q | q <;> omega
  · rcases q with q | q | q | q | q | q | q | q | q | q | q | q | q | q | q | q | q | q | q <;> omega
  · rcases q with q | q | q | q | q | q | q | q | q | q | q | q | q | q | q | q | q | q | q <;> omega
/-- the rest, of which a frame says enough -/
def Wre2 (a j : Nat) : Prop := a = 0 ∨ a = 1 ∨ a = 2 ∨ a = 353 ∨ a = 354 ∨ a = 333 ∨ a = 334 ∨ (a = 327 ∧ j ≤ 5) ∨ a = 328 ∨ a = 329 ∨ (29 ≤ a ∧ a ≤ 40) ∨ (a = 355 ∧ (j = 1 ∨ j = 10 ∨ j = 11 ∨ j = 64 ∨ j = 69 ∨ j = 75)) ∨ a = 356 ∨ a = 371 ∨ a = 390 ∨ a = 391 ∨ a = 394
def RST (M : Mem) : Prop := I_refs M ∧ I_tape M ∧ I_ref M ∧ I_seed M ∧ I_fault M ∧ I_img M ∧ I_met M ∧ (∀ i, i < 6 → zI M (29 + 2 * i) 1 = nI i)
theorem RST.fr {W : Nat → Nat → Prop} {M M1 : Mem} (g : RST M) (f : FR W M M1) (hw : ∀ a j, Wre2 a j → ¬ W a j) : RST M1 := by
  obtain ⟨⟨c, s, p, r1, r2, r3, r4, r5⟩, ⟨t, t1, t2, t3, t4⟩, g3, ⟨sd, s1, s2, s3⟩, g5, ⟨z, z1, z2, z3, z4⟩, ⟨mt, m1, m2, m3, m4⟩, g8⟩ := g
  have hI : ∀ a j, Wre2 a j → zI M1 a j = zI M a j := fun a j x => f.I (hw a j x)
  refine ⟨⟨c, s, p, f.W r1, by rw [f.1]; exact r2, by rw [f.1]; exact r3, by rw [f.1]; exact r4, r5⟩, ⟨t, t1, (hI _ _ (by unfold Wre2; omega)).trans t2, (hI _ _ (by unfold Wre2; omega)).trans t3, fun k hk => ?_⟩, fun k hk => ?_, ⟨sd, s1, (hI _ _ (by unfold Wre2; omega)).trans s2, (f.L (hw _ _ (by unfold Wre2; omega))).trans s3⟩, ?_, ⟨z, z1, (hI _ _ (by unfold Wre2; omega)).trans z2, (hI _ _ (by unfold Wre2; omega)).trans z3, fun k hk => ?_⟩, ⟨mt, m1, (hI _ _ (by unfold Wre2; omega)).trans m2, (hI _ _ (by unfold Wre2; omega)).trans m3, fun i hi => ?_⟩, fun i hi => (hI _ _ (by unfold Wre2; omega)).trans (g8 i hi)⟩
  · obtain ⟨e1, b, hb, e2⟩ := t4 k hk
    rw [hI 1 k (by unfold Wre2; omega), hI 356 k (by unfold Wre2; omega)]
    exact ⟨e1, b, hb, e2⟩
  · rw [hI 2 k (by unfold Wre2; omega), hI 371 k (by unfold Wre2; omega)]; exact g3 k hk
  · refine ⟨?_, fun i hi => (hI 354 i (by unfold Wre2; omega)).trans (g5.2 i hi)⟩
    unfold I_fault0
    rw [hI 353 4 (by unfold Wre2; omega), hI 353 5 (by unfold Wre2; omega), hI 355 10 (by unfold Wre2; omega), hI 355 11 (by unfold Wre2; omega)]; exact g5.1
  · rw [hI 334 k (by unfold Wre2; omega), hI 394 k (by unfold Wre2; omega)]; exact z4 k hk
  · obtain ⟨a, o, e1, e2, e3, e4, e5, e6⟩ := m4 i hi
    exact ⟨a, o, e1, e2, (hI _ _ (by unfold Wre2; omega)).trans e3, (hI _ _ (by unfold Wre2; omega)).trans e4, (hI _ _ (by unfold Wre2; omega)).trans e5, (hI _ _ (by unfold Wre2; omega)).trans e6⟩
theorem RST.sc {M M1 : Mem} (g : RST M) (f : FR Wsc M M1) : RST M1 := g.fr f (fun a j p q => by unfold Wre2 at p; rcases q with q | q | q | q | q | q | q | q | q | q | q | q | q | q | q | q | q | q | q <;> omega)
theorem Inv.rst {M : Mem} {s : Nat} (g : Inv M s) : RST M := ⟨g.1, g.2.1, g.2.2.1, g.2.2.2.1, g.2.2.2.2.1, g.2.2.2.2.2.1, g.2.2.2.2.2.2.1, g.2.2.2.2.2.2.2.1⟩
theorem Inv.st {M : Mem} {s : Nat} (g : Inv M s) : ON M s ∨ OFF M := g.2.2.2.2.2.2.2.2
theorem Inv.mk' {M : Mem} {s : Nat} (r : RST M) (o : ON M s ∨ OFF M) : Inv M s := ⟨r.1, r.2.1, r.2.2.1, r.2.2.2.1, r.2.2.2.2.1, r.2.2.2.2.2.1, r.2.2.2.2.2.2.1, r.2.2.2.2.2.2.2, o⟩
theorem RST.W {M : Mem} (g : RST M) : WRc M := by obtain ⟨⟨c, s, p, r1, -⟩, -⟩ := g; exact r1
theorem ON.mono {M : Mem} {s t : Nat} (h : s ≤ t) (g : ON M s) : ON M t := by
  obtain ⟨c0, h', S, T, E, c, sv, l1, l2, l3⟩ := g
  exact ⟨c0, h', S, T, E, c, sv, l1, l2, Nat.le_trans l3 h⟩
theorem Inv.mono {M : Mem} {s t : Nat} (h : s ≤ t) (g : Inv M s) : Inv M t := Inv.mk' g.rst (g.st.imp (fun o => o.mono h) id)
theorem Inv.sc {M M1 : Mem} {s c0 : Nat} {h : CH} {S : PSt} {T c : Nat} {E : Nat → Nat → Nat} {sv : Nat → PSt × Nat} (g : RST M) (l : LD M c0 h S T E c sv) (lv : LV h S T c sv) (hT : T ≤ s) (f : FR Wsc M M1) (hK : DKh M1 h) : Inv M1 s := Inv.mk' (g.sc f) (Or.inl ⟨c0, h, S, T, E, c, sv, l.sc lv.1 f hK, lv, hT⟩)
