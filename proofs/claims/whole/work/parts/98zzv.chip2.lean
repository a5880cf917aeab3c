/-! chip: both calls, a text that is taken -/
section
variable {M : Mem} {s t : Nat} {b : Nat → Nat}
theorem CC.r0 {c1 : Nat} {h : CH} {k v : Nat} (g : CC M c1 h) : CC (zsR M 0 k v) c1 h := by
  have hz : c1 = 335 ∨ c1 = 344 := g.z
  obtain ⟨g1, ⟨d1, ⟨o1, o2, o3⟩, d3⟩, g3, g4, g5, g6, g7, g8, g9, g10⟩ := g
  exact ⟨g1, ⟨d1, ⟨(zrf_sR_n (by omega)).trans o1, (zrf_sR_n (by omega)).trans o2, o3⟩, d3⟩, g3, g4, g5, g6, g7, g8.rs, g9.rs, g10⟩
def Wcg (a j : Nat) : Prop := (a = 0 ∧ j = 14) ∨ (13 ≤ a ∧ a ≤ 26) ∨ (a = 43 ∧ 3 ≤ j) ∨ (a = 327 ∧ j = 5) ∨ (a = 6 ∧ j = 5)
theorem c_tail {sp : Nat} (hW : WRc M) (hsp : sp = 335 ∨ sp = 344) (hr : zrf M 0 11 = some sp) (hN : ∀ i, i < 6 → zI M (13 + 2 + 2 * i) 1 = nI i) (n : Nat) (E : Nat → Nat → Nat) (sv : Nat → PSt × Nat) : ∃ M1, (Option.bind (some (zsI M 0 14 1)) fun M9 => Option.bind (zrf M9 0 5) fun q10 => Option.bind (f_X5_clear q10 M9) fun M11 => Option.bind (zrf M11 0 8) fun q12 => Option.bind (f_X7_clear q12 M11) fun M13 => Option.bind (zrf M13 0 9) fun q14 => Option.bind (f_X9_clear q14 M13) fun M15 => Option.bind (zrf M15 0 3) fun q16 => Option.bind (f_X2_forget q16 M15) fun M17 => Option.bind (zrf M17 0 11) fun q18 => some (zI M17 q18 8, M17)) = some (zI M sp 8, M1) ∧ FR Wcg M M1 ∧ zI M1 0 14 = 1 ∧ CP M1 13 n (0, fun _ => R0) ∧ HC M1 n 0 E 0 sv ∧ zI M1 6 5 = 0 ∧ zI M1 327 5 = 0 := by
  have f1 : FR Wcg M (zsI M 0 14 1) := (FR.rf _ M).sI (by unfold Wcg; omega)
  have e1 : zI (zsI M 0 14 1) 0 14 = 1 := zI_se _ _ _ _
  have n1 : ∀ i, i < 6 → zI (zsI M 0 14 1) (13 + 2 + 2 * i) 1 = nI i := fun i hi => (zI_sn _ _ (by omega)).trans (hN i hi)
  rw [b_i]
  revert f1 e1 n1
  generalize zsI M 0 14 1 = M9
  intro f1 e1 n1
  obtain ⟨M11, a1, a2, a3⟩ := s_pclear (M := M9) (q := 13) n (f1.W hW) (Or.inl rfl) n1
  have f2 : FR Wcg M M11 := f1.tr (a2.mo (fun a j q => by unfold Wpg at q; unfold Wcg; omega))
  obtain ⟨M13, b1, b2, b3⟩ := s_pastclear (M := M11) n E sv
  have f3 : FR Wcg M M13 := f2.tr (b2.mo (fun a j q => by unfold Wcg; omega))
  have f4 : FR Wcg M (zsI (zsI M13 327 5 0) 6 5 0) := FR.sI (FR.sI f3 (by unfold Wcg; omega)) (by unfold Wcg; omega)
  have g4 : FR (fun a j => (a = 327 ∧ j = 5) ∨ (a = 6 ∧ j = 5)) M13 (zsI (zsI M13 327 5 0) 6 5 0) := FR.sI (FR.sI (FR.rf _ M13) (by omega)) (by omega)
  refine ⟨zsI (zsI M13 327 5 0) 6 5 0, ?_, f4, ?_, ?_, ?_, ?_, ?_⟩
  · unfold f_X9_clear f_X2_forget
    rw [w0_5 (f1.W hW), b_i, a1, b_i, w0_8 (f2.W hW), b_i, b1, b_i, w0_9 (f3.W hW), b_i, b_i, b_i, zrf_sI, w0_3 (f3.W hW), b_i, b_i, b_i, zrf_sI, zrf_sI, f3.R, hr, b_i, f4.I (by unfold Wcg; omega)]
  · rw [g4.I (by omega), b2.I (by omega), a2.I (by unfold Wpg; omega)]; exact e1
  · exact (a3.fr b2 (fun a j p q => by omega)).fr g4 (fun a j p q => by omega)
  · exact b3.fr g4 (fun a j p q => by omega)
  · exact zI_se _ _ _ _
  · rw [zI_sn _ _ (by omega), zI_se]
theorem Wok_r {sp a j : Nat} (hc : sp = 335 ∨ sp = 344) (w : Wre3 a j ∨ a = 2) : ¬ (Wcb sp a j ∧ ¬ a = 2) ∧ ¬ Wcg a j := by
  constructor
  · intro q
    rcases q with ⟨q | q | q | q, q2⟩ <;> rcases w with (w | w | w | w | w | w | w) | w <;> omega
  · intro q
    rcases q with q | q | q | q | q <;> rcases w with (w | w | w | w | w | w | w) | w <;> omega
theorem Wok_m {bi a j : Nat} (w : Wre3 a j ∨ a = 2 ∨ a = 371) : ¬ Wch3 bi a j ∧ ¬ Wc5 a j := by
  constructor
  · intro q
    rcases q with (q | q | q | q | q | q | q) | q <;> rcases w with (w | w | w | w | w | w | w) | w | w <;> omega
  · intro q
    rcases q with q | q | q | q | q | q <;> rcases w with (w | w | w | w | w | w | w) | w | w <;> omega
theorem Wc5_n {a j : Nat} (h : a < 355) : ¬ Wc5 a j := fun q => by
  rcases q with q | q | q | q | q | q <;> omega
theorem chip_good (g : Inv M s) (t1 : t ≤ 1600) (t2 : zI M 0 15 = nI t) (t3 : zI M 355 1 = nI t) (t4 : ∀ k, k < t → zI M 1 k = nI (b k) ∧ zI M 356 k = nI (b k) ∧ b k < 256) {y : (Nat × Nat × Nat × Nat) × Nat × Acs} (e : chA b t = .inr y) : ∃ r M1 M2, f_X11_chip 0 M = some (r, M1) ∧ f_X12_chip 355 M1 = some (r, M2) ∧ Inv M2 s := by
  have hW := g.rst.W
  obtain ⟨c, sp, p, r1, r2, r3, r4, r5, r6⟩ := g.rst.1
  obtain ⟨bk, k1, k2⟩ := g.bk
  obtain ⟨u, hu1, hu2⟩ := g.u62
  have hz : zCh2 sp := by unfold zCh2; omega
  have hsp : sp = 335 ∨ sp = 344 := hz
  have hc2 : c = 335 ∨ c = 344 := by omega
  have hW0 : WRc (zsI M 0 15 0) := hW
  have ag : AG y.1 y.2.2 := chA_ag (fun k hk => (t4 k hk).2.2) e
  obtain ⟨-, cg⟩ := c_reads (M := zsI M 0 15 0) (b := b) (z := t) hz hW0 t1 (fun k hk => ⟨(zI_sn _ _ (by omega)).trans (t4 k hk).1, (t4 k hk).2.2⟩) (fun i hi => (zI_sn _ _ (by omega)).trans (g.rst.2.2.2.2.1.2 i hi))
  obtain ⟨M', a1, a2, a3, a4, a5, a6⟩ := cg y e
  have cm : zsR (zsI M 0 15 0) 353 2 (sp + 1) = zsI (zsR M 353 2 (sp + 1)) 0 15 0 := rfl
  rw [cm] at a2
  clear cm cg
  have hv : CV (chH y) := chH_cv a3 a5 ag
  have hgs : (gj y.1.2.1 (2 * y.1.2.2.1)).2 + y.1.2.2.2 < fN y.1.1 := a3.2.2.1.2.2
  -- the references change places
  have WN : WRc (zsR (zsR (zsR M 353 2 (sp + 1)) 0 11 (sp + 1)) 0 12 (c + 1)) := ((hW.sR (Or.inl ⟨rfl, rfl⟩)).sR (Or.inr ⟨rfl, Or.inl rfl⟩)).sR (Or.inr ⟨rfl, Or.inr rfl⟩)
  have rN1 : zR (zsR (zsR (zsR M 353 2 (sp + 1)) 0 11 (sp + 1)) 0 12 (c + 1)) 0 11 = sp + 1 := by rw [zR_sR, if_neg (by omega), zR_sR, if_pos ⟨rfl, rfl⟩]
  have rN2 : zR (zsR (zsR (zsR M 353 2 (sp + 1)) 0 11 (sp + 1)) 0 12 (c + 1)) 0 12 = c + 1 := by rw [zR_sR, if_pos ⟨rfl, rfl⟩]
  have rN3 : zR (zsR (zsR (zsR M 353 2 (sp + 1)) 0 11 (sp + 1)) 0 12 (c + 1)) 353 2 = sp + 1 := by rw [zR_sR, if_neg (by omega), zR_sR, if_neg (by omega), zR_sR, if_pos ⟨rfl, rfl⟩]
  have iN : ∀ x j, zI (zsR (zsR (zsR M 353 2 (sp + 1)) 0 11 (sp + 1)) 0 12 (c + 1)) x j = zI M x j := fun _ _ => rfl
  have lN : ∀ x j, zL (zsR (zsR (zsR M 353 2 (sp + 1)) 0 11 (sp + 1)) 0 12 (c + 1)) x j = zL M x j := fun _ _ => rfl
  have fa : FR (fun a j => Wcb sp a j ∧ ¬ a = 2) (zsR M 353 2 (sp + 1)) M' := ((FR.rf (fun a j => Wcb sp a j ∧ ¬ a = 2) (zsR M 353 2 (sp + 1))).sI ⟨Or.inl ⟨rfl, rfl⟩, by decide⟩).tr (a2.mo (fun x j q => ⟨q.elim (fun q => Or.inr (Or.inr (Or.inl q))) (fun q => Or.inr (Or.inr (Or.inr q))), by unfold Wcr at q; omega⟩))
  have rc : zrf M' 0 11 = some c := by rw [fa.R, zrf_sR_n (by omega)]; exact zrf_of r2
  have rs : zrf M' 0 12 = some sp := by rw [fa.R, zrf_sR_n (by omega)]; exact zrf_of r3
  have v0 : zI M' 0 15 = 0 := by rw [a2.I (by unfold Wcr; omega), zI_se]
  have f8 : FR (fun a j => Wcb sp a j ∧ ¬ a = 2) (zsR (zsR (zsR M 353 2 (sp + 1)) 0 11 (sp + 1)) 0 12 (c + 1)) (zsR (zsR M' 0 11 (sp + 1)) 0 12 (c + 1)) := (fa.sR 0 11 (sp + 1)).sR 0 12 (c + 1)
  have i8 : ∀ x j, zI (zsR (zsR M' 0 11 (sp + 1)) 0 12 (c + 1)) x j = zI M' x j := fun _ _ => rfl
  have c8 : CC M' sp (chH y) → CC (zsR (zsR M' 0 11 (sp + 1)) 0 12 (c + 1)) sp (chH y) := fun q => q.r0.r0
  have q8 : KC M' sp (chH y) → KC (zsR (zsR M' 0 11 (sp + 1)) 0 12 (c + 1)) sp (chH y) := fun q => q
  have run0 : f_X11_chip 0 M = Option.bind (some (zsI (zsR (zsR M' 0 11 (sp + 1)) 0 12 (c + 1)) 0 14 1)) fun M9 => Option.bind (zrf M9 0 5) fun q10 => Option.bind (f_X5_clear q10 M9) fun M11 => Option.bind (zrf M11 0 8) fun q12 => Option.bind (f_X7_clear q12 M11) fun M13 => Option.bind (zrf M13 0 9) fun q14 => Option.bind (f_X9_clear q14 M13) fun M15 => Option.bind (zrf M15 0 3) fun q16 => Option.bind (f_X2_forget q16 M15) fun M17 => Option.bind (zrf M17 0 11) fun q18 => some (zI M17 q18 8, M17) := by
    unfold f_X11_chip f_X11_takeTape
    rw [b_i, b_i]
    dsimp only
    rw [w0_13 hW0, b_i, show zrf (zsI M 0 15 0) 0 12 = some sp from zrf_of r3, b_i, t2, a1, b_i]
    dsimp only
    rw [if_neg n10, rc, b_i, rs, b_i, b_i, b_i]
  rw [run0]
  clear run0
  revert WN rN1 rN2 rN3 iN lN f8 i8 c8 q8
  generalize zsR (zsR (zsR M 353 2 (sp + 1)) 0 11 (sp + 1)) 0 12 (c + 1) = N
  generalize zsR (zsR M' 0 11 (sp + 1)) 0 12 (c + 1) = M8
  intro WN rN1 rN2 rN3 iN lN f8 i8 c8 q8
  have n8 : ∀ i, i < 6 → zI M8 (13 + 2 + 2 * i) 1 = nI i := fun i hi => by rw [f8.I (by unfold Wcb; omega), iN]; exact g.nm i hi
  obtain ⟨M1, b1, b2, b3, b4, b5, b6, b7⟩ := c_tail (M := M8) (sp := sp) (f8.W WN) hsp (by rw [f8.R]; exact zrf_of rN1) n8 (kN (chH y)) (fun _ _ => 0) (fun _ => ((0, fun _ => R0), 0))
  have W1 : WRc M1 := b2.W (f8.W WN)
  have j1 : ∀ x j, 355 ≤ x → zI M1 x j = zI M x j := fun x j hx => by rw [b2.I (by unfold Wcg; omega), f8.I (by unfold Wcb; omega), iN]
  obtain ⟨-, mg⟩ := m_chip (M := M1) (b := b) (z := t) W1 ((j1 _ _ (by omega)).trans t3) t1 (fun k hk => ⟨(j1 _ _ (by omega)).trans (t4 k hk).2.1, (t4 k hk).2.2⟩) ((j1 _ _ (by omega)).trans k2) k1
  obtain ⟨M3, p', d1, d2, d3, d4⟩ := mg y e
  clear mg
  have hn : aN y.2.2 ≤ 1600 := Nat.le_trans d3.2.2.2 (Nat.le_trans d3.1.1.2.2 t1)
  obtain ⟨cc, kc⟩ := c_CC hz a3 a5 hv hn
  obtain ⟨M2, h1, h2, h3, h4, h5, h6⟩ := m_165 (x := nI y.2.1) d3 hv hgs ag hu1 (by rw [d2.I (by unfold Wch3 Wmt; omega), j1 _ _ (by omega)]; exact hu2) (fun _ _ => 0) (fun _ => ((0, fun _ => R0), 0))
  have lc : LC M1 sp (chH y) (0, fun _ => R0) 0 (fun _ _ => 0) 0 (fun _ => ((0, fun _ => R0), 0)) := ⟨by rw [b2.R, f8.R]; exact zrf_of rN1, (c8 cc).fr b2 (fun a j w q => by unfold Wch at w; unfold Wcg at q; omega), b3, b4, b5, Or.inl b6, (q8 kc).fr b2 (by unfold Wcg; omega) (fun _ => by unfold Wcg; omega) (fun _ => by unfold Wcg; omega)⟩
  have fm : FR (fun a j => Wch3 (1 - bk) a j ∨ Wc5 a j) M1 M2 := (d2.mo (fun a j q => Or.inl q)).tr (h2.mo (fun a j q => Or.inr q))
  have lt3 : ∀ {a j}, a < 355 → ¬ (Wch3 (1 - bk) a j ∨ Wc5 a j) := fun ha q => q.elim (Wch3_n (Or.inl ha)) (Wc5_n ha)
  have c4 : ∀ a j, a < 355 → zI M2 a j = zI M1 a j := fun a j ha => fm.I (lt3 ha)
  have hI : ∀ a j, (Wre3 a j ∨ a = 2 ∨ a = 371) → zI M2 a j = zI M a j := fun a j w => by
    rw [fm.I (fun q => q.elim (Wok_m (bi := 1 - bk) w).1 (Wok_m (bi := 1 - bk) w).2)]
    by_cases ha : a < 355
    · have w' : Wre3 a j ∨ a = 2 := by rcases w with w | w | w; exact Or.inl w; exact Or.inr w; omega
      rw [b2.I (Wok_r hsp w').2, f8.I (Wok_r hsp w').1, iN]
    · exact j1 a j (by omega)
  have hL : zL M2 355 64 = zL M 355 64 := by
    have w : Wre3 355 64 := by unfold Wre3; omega
    rw [fm.L (fun q => q.elim (Wok_m (bi := 1 - bk) (Or.inl w)).1 (Wok_m (bi := 1 - bk) (Or.inl w)).2), b2.L (Wok_r hsp (Or.inl w)).2, f8.L (Wok_r hsp (Or.inl w)).1, lN]
  refine ⟨nI y.2.1, M1, M2, ?_, ?_, Inv.mk' (g.rst.chX (fun a j w => hI a j (Or.inl w)) hL ?_ (tape0 ?_ ?_) (fun k hk => ?_) ⟨?_, fun q => absurd ?_ q, fun _ => h5⟩ ⟨0, by decide, ?_, h6, fun i hi => absurd hi (by omega)⟩) (Or.inl ⟨sp, chH y, (0, fun _ => R0), 0, _, 0, _, LD.mk' (lc.fr fm (fun a j q => ?_)) h3, ⟨hv, ⟨fun i hi q => (by cases q), Nat.zero_le _, fun i _ _ => rfl⟩, fun k hk => absurd hk (by omega), fun k hk => absurd hk (by omega)⟩, Nat.zero_le _⟩)⟩
  · rw [b1, i8, a4]
  · rw [d1, h1]
  · refine ⟨sp, c, sp, fm.W W1, ?_, ?_, ?_, by omega, hsp⟩
    · rw [fm.1, b2.1, f8.1]; exact rN1
    · rw [fm.1, b2.1, f8.1]; exact rN2
    · rw [fm.1, b2.1, f8.1]; exact rN3
  · rw [c4 _ _ (by omega), b2.I (by unfold Wcg; omega), i8]; exact v0
  · rw [h2.I (by unfold Wc5; omega)]; exact d4
  · rw [hI _ _ (Or.inr (Or.inl rfl)), hI _ _ (Or.inr (Or.inr rfl))]; exact g.rst.2.2.1 k hk
  · rw [h4, c4 _ _ (by omega), b2.I (by unfold Wcg; omega), i8]; exact a6
  · rw [c4 _ _ (by omega), b2.I (by unfold Wcg; omega), i8]; exact a6
  · rw [c4 _ _ (by omega)]; exact b7
  · by_cases ha : a < 355
    · exact absurd q (lt3 ha)
    · omega
theorem op_chip : OPb (f_X11_chip 0) (f_X12_chip 355) := by
  intro M s hs g
  obtain ⟨t, b, t1, t2, t3, t4⟩ := I_tape.b g.rst.2.1
  cases e : chA b t with
  | inl er =>
    obtain ⟨r, M1, M2, x1, x2, x3⟩ := chip_bad g t1 t2 t3 t4 e
    exact ⟨r, M1, M2, x1, x2, x3.mono (by omega)⟩
  | inr y =>
    obtain ⟨r, M1, M2, x1, x2, x3⟩ := chip_good g t1 t2 t3 t4 e
    exact ⟨r, M1, M2, x1, x2, x3.mono (by omega)⟩
end
