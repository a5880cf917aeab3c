/-! calls: on (both) -/
theorem RST.gX {W : Nat → Nat → Prop} {M M4 : Mem} (g : RST M) (f : FR W M M4) (hw : ∀ a j, Wre2 a j → ¬ (a = 0 ∧ j = 15) → ¬ (a = 355 ∧ j = 1) → ¬ a = 2 → ¬ a = 371 → ¬ (29 ≤ a ∧ a ≤ 40) → ¬ W a j) (ht : I_tape M4) (hr : I_ref M4) (hx : ∀ i, i < 6 → zI M4 (29 + 2 * i) 1 = nI i) : RST M4 := by
  obtain ⟨⟨c, s, p, r1, r2, r3, r4, r5⟩, -, -, ⟨sd, s1, s2, s3⟩, g5, ⟨z, z1, z2, z3, z4⟩, ⟨mt, m1, m2, m3, m4⟩, -⟩ := g
  have hI : ∀ a j, Wre2 a j → ¬ ((a = 0 ∧ j = 15) ∨ (a = 355 ∧ j = 1) ∨ a = 2 ∨ a = 371 ∨ (29 ≤ a ∧ a ≤ 40)) → zI M4 a j = zI M a j := fun a j x y => f.I (hw a j x (by omega) (by omega) (by omega) (by omega) (by omega))
  refine ⟨⟨c, s, p, f.W r1, by rw [f.1]; exact r2, by rw [f.1]; exact r3, by rw [f.1]; exact r4, r5⟩, ht, hr, ⟨sd, s1, (hI _ _ (by unfold Wre2; omega) (by omega)).trans s2, (f.L (hw _ _ (by unfold Wre2; omega) (by omega) (by omega) (by omega) (by omega) (by omega))).trans s3⟩, ?_, ⟨z, z1, (hI _ _ (by unfold Wre2; omega) (by omega)).trans z2, (hI _ _ (by unfold Wre2; omega) (by omega)).trans z3, fun k hk => ?_⟩, ⟨mt, m1, (hI _ _ (by unfold Wre2; omega) (by omega)).trans m2, (hI _ _ (by unfold Wre2; omega) (by omega)).trans m3, fun i hi => ?_⟩, hx⟩
  · refine ⟨?_, fun i hi => (hI 354 i (by unfold Wre2; omega) (by omega)).trans (g5.2 i hi)⟩
    unfold I_fault0
    rw [hI 353 4 (by unfold Wre2; omega) (by omega), hI 353 5 (by unfold Wre2; omega) (by omega), hI 355 10 (by unfold Wre2; omega) (by omega), hI 355 11 (by unfold Wre2; omega) (by omega)]; exact g5.1
  · rw [hI 334 k (by unfold Wre2; omega) (by omega), hI 394 k (by unfold Wre2; omega) (by omega)]; exact z4 k hk
  · obtain ⟨a, o, e1, e2, e3, e4, e5, e6⟩ := m4 i hi
    exact ⟨a, o, e1, e2, (hI _ _ (by unfold Wre2; omega) (by omega)).trans e3, (hI _ _ (by unfold Wre2; omega) (by omega)).trans e4, (hI _ _ (by unfold Wre2; omega) (by omega)).trans e5, (hI _ _ (by unfold Wre2; omega) (by omega)).trans e6⟩
def WcO (a j : Nat) : Prop := (a = 0 ∧ j = 15) ∨ a = 2 ∨ (13 ≤ a ∧ a ≤ 40) ∨ (a = 43 ∧ 3 ≤ j)
def WmO (a j : Nat) : Prop := (a = 355 ∧ (j = 1 ∨ j = 63)) ∨ (381 ≤ a ∧ a ≤ 387) ∨ a = 371
def WnO (a j : Nat) : Prop := (a = 0 ∧ j = 15) ∨ (27 ≤ a ∧ a ≤ 40) ∨ a = 2 ∨ (a = 355 ∧ j = 1) ∨ a = 371 ∨ (a = 381 ∧ j = 1) ∨ (382 ≤ a ∧ a ≤ 384 ∧ 6 ≤ j ∧ j < 12) ∨ (a = 385 ∧ 384 ≤ j ∧ j < 768) ∨ (a = 386 ∧ j = 1) ∨ (a = 387 ∧ 120 ≤ j ∧ j < 240)
theorem WnO_1 {a j : Nat} (q : Wlk 1 a j) : WnO a j := by
  unfold Wlk Wla Wke at q
  unfold WnO
  rcases q with (q | q | q) | q | q
  · omega
  · omega
  · omega
  · omega
  · omega
theorem RST.onX {M M4 : Mem} (g : RST M) (f : FR (fun a j => WcO a j ∨ WmO a j) M M4) (ht : I_tape M4) (hr : I_ref M4) (hx : ∀ i, i < 6 → zI M4 (29 + 2 * i) 1 = nI i) : RST M4 := g.gX f (fun a j p n1 n2 n3 n4 n5 q => by unfold Wre2 at p; unfold WcO WmO at q; omega) ht hr hx
theorem LD.nO {M M1 : Mem} {c0 : Nat} {h : CH} {S : PSt} {T c : Nat} {E : Nat → Nat → Nat} {sv : Nat → PSt × Nat} (v : CV h) (l : LD M c0 h S T E c sv) (f7 : FR WnO M M1) : LD M1 c0 h S T E c sv := by
  obtain ⟨p1, p2, p3, p4, p5, p6, p7⟩ := l.c
  obtain ⟨n1, n2, n3, n4⟩ := l.m
  have hz : c0 = 335 ∨ c0 = 344 := p2.z
  refine LD.mk' ⟨(f7.R _ _).trans p1, p2.fr f7 (fun a j p q => ?_), (f7.I (fun q => ?_)).trans p3, p4.fr f7 (fun a j p p' q => ?_), p5.fr f7 (fun a j p p' q => ?_), p6.fr f7 (fun a j p q => ?_), p7.fr f7 (fun q => ?_) (fun _ q => ?_) (fun _ q => ?_)⟩ ⟨n1.fr f7 (fun a j p q => ?_), (f7.I (fun q => ?_)).trans n2, n3.fr v.n63.1 f7 (fun a j p q => ?_), n4.fr v.n63.1 f7 (fun a j p q => ?_)⟩
  · unfold Wch at p; rcases q with q | q | q | q | q | q | q | q | q | q <;> omega
  · rcases q with q | q | q | q | q | q | q | q | q | q <;> omega
  · rcases q with q | q | q | q | q | q | q | q | q | q <;> omega
  · rcases q with q | q | q | q | q | q | q | q | q | q <;> omega
  · rcases q with q | q | q | q | q | q | q | q | q | q <;> omega
  · rcases q with q | q | q | q | q | q | q | q | q | q <;> omega
  · rcases q with q | q | q | q | q | q | q | q | q | q <;> omega
  · rcases q with q | q | q | q | q | q | q | q | q | q <;> omega
  · unfold Wmc at p; rcases q with q | q | q | q | q | q | q | q | q | q <;> omega
  · rcases q with q | q | q | q | q | q | q | q | q | q <;> omega
  · unfold Wla at p; rcases q with q | q | q | q | q | q | q | q | q | q <;> omega
  · unfold Wpa at p; rcases q with q | q | q | q | q | q | q | q | q | q <;> omega
theorem onZ_v {h : CH} (v : CV h) {b : Nat → Nat} {t : Nat} {S : PSt} (e : onZ h b t = some S) : PV h S := by
  unfold onZ at e
  by_cases c1 : onG b t = true
  · rw [if_pos c1] at e
    have c2 := of_decide_eq_true c1
    cases e1 : onF h b (t - 1) with
    | none => rw [e1] at e; cases e
    | some R =>
      rw [e1] at e
      cases e
      unfold onF at e1
      cases e2 : onP h b (t - 1) (kQ h) with
      | none => rw [e2] at e1; cases e1
      | some x =>
        obtain ⟨a, R'⟩ := x
        rw [e2] at e1
        have e1 : (if a = t - 1 then some R' else none) = some R := e1
        by_cases q : a = t - 1
        · rw [if_pos q] at e1
          cases e1
          obtain ⟨-, p2, p3⟩ := onP_v v (show 2 ≤ t - 1 by omega) _ _ _ e2
          refine ⟨fun i _ => p2 i, c2.2.2, fun i h1 h2 => ?_⟩
          exact congrArg (fun r : RW => r.1) (p3 i h1)
        · rw [if_neg q] at e1; cases e1
  · rw [if_neg c1] at e; cases e
theorem op_on : OPb (f_X11_on 0) (f_X12_on 355) := by
  intro M s hs g
  have hW := g.rst.W
  obtain ⟨t, b, t1, t2, t3, t4⟩ := I_tape.b g.rst.2.1
  have hx := g.rst.2.2.2.2.2.2.2
  rcases g.st with ⟨c0, h, S, T, E, c, sv, l, lv, hT⟩ | o
  rotate_left
  · obtain ⟨R2, R4, r1, r2, r3, r4, -⟩ := refT g (k := 5) (by decide)
    refine ⟨0, R2, R4, ?_, ?_, r3.mono (by omega)⟩
    · unfold f_X11_on f_X11_on_31 f_X11_takeTape
      rw [b_i, b_i]
      dsimp only
      refine ip ((zI_sn _ _ (by omega)).trans o.1.1) ?_
      rw [show (5 : Int32) = nI 5 from rfl, r1, b_i]
    · unfold f_X12_on f_X12_on_31 f_X12_comesOn f_X12_comesOn_34
      rw [b_i, if_pos ((zI_sn _ _ (by omega)).trans ((r4.I (by omega)).trans o.1.2)), b_i]
      refine ip rfl ?_
      rw [show (5 : Int32) = nI 5 from rfl, r2, b_i, if_pos m1_n0, zbz0]
  have hq := lv.1.q
  have hn := lv.1.n63
  have hz : c0 = 335 ∨ c0 = 344 := l.cc.z
  have f0 : FR WcO M (zsI M 0 15 0) := (FR.rf _ M).sI (by unfold WcO; omega)
  have h0 : FR WnO M (zsI M 0 15 0) := (FR.rf _ M).sI (by unfold WnO; omega)
  have u0 : zI (zsI M 0 15 0) 0 15 = 0 := zI_se _ _ _ _
  have u2 : ∀ a j, ¬ a = 0 → zI (zsI M 0 15 0) a j = zI M a j := fun a j q => zI_sn _ _ (fun x => q x.1)
  have cpre : ∀ {β : Type} (K : Int32 × Mem → Option β), Option.bind (f_X11_takeTape 0 M) K = K (nI t, zsI M 0 15 0) := fun K => by
    unfold f_X11_takeTape; rw [b_i, b_i, t2]
  unfold f_X11_on f_X11_on_31
  have hcw : (zI (zsI M 0 15 0) 0 14) = 1 := (zI_sn _ _ (by omega)).trans l.on.1
  rw [cpre]
  dsimp only
  rw [hcw, if_neg (show ¬ (1 : Int32) = 0 by decide), w0_6 (f0.W hW), b_i, w0_0 (f0.W hW), b_i, f0.R, l.cur, b_i]
  revert f0 h0 u0 u2 cpre hcw
  generalize zsI M 0 15 0 = M1
  intro f0 h0 u0 u2 _ _
  obtain ⟨M2, a1, a2, a3, a4⟩ := c_takeO (M := M1) (c0 := c0) (t := t) (h := h) (b := b) (f0.W hW) lv.1 (fun M0 f => l.cc.fr ((f0.mo (fun a j q => Or.inl q)).tr (f.mo (fun a j q => Or.inr q)) : FR (fun a j => WcO a j ∨ Wdr a j) M M0) (fun a j p q => by unfold Wch at p; unfold WcO Wdr at q; omega)) (fun k hk => ⟨(u2 _ _ (by decide)).trans (t4 k hk).1, (t4 k hk).2.2⟩) t1 (fun i hi => (u2 _ _ (by omega)).trans (hx i hi))
  have f2 : FR WcO M M2 := f0.tr (a2.mo (fun a j q => by unfold Wdr at q; unfold WcO; omega))
  have v0 : zI M2 0 15 = 0 := (a2.I (by unfold Wdr; omega)).trans u0
  have v2 : zI M2 2 = zI M 2 := funext (fun i => (a2.I (by unfold Wdr; omega)).trans (u2 _ _ (by decide)))
  rw [a1, b_i]
  dsimp only
  have hK : KE M 0 T E := by obtain ⟨u, -, -, -, -, k, -⟩ := l.hm; exact k
  have mstep : ∀ M3, FR WcO M M3 → ∃ M5, f_X12_comesOn 355 (nI t) (zsI M3 355 1 0) = some (b01 (onZ h b t).isSome, M5) ∧ FR (fun a j => (a = 355 ∧ j = 1) ∨ Wlk 1 a j) M3 M5 ∧ zI M5 355 1 = 0 ∧ ∀ S', onZ h b t = some S' → MP M5 1 (kN h) S' ∧ zI M5 386 1 = 0 := by
    intro M3 f3
    have f4 : FR (fun a j => WcO a j ∨ (a = 355 ∧ j = 1)) M (zsI M3 355 1 0) := (f3.mo (fun a j q => Or.inl q)).sI (by omega)
    obtain ⟨M5, b1, b2, b3⟩ := m_comes (M := zsI M3 355 1 0) (t := t) (K := min T 40) (h := h) (S0 := S) (b := b) (f4.W hW) lv.1 (l.mc.fr f4 (fun a j p q => by unfold Wmc at p; unfold WcO at q; omega)) ((f4.I (by unfold WcO; omega)).trans l.on.2) (by omega) ((f4.I (by unfold WcO; omega)).trans hK.1) (l.mp.fr hn.1 f4 (fun a j p q => by unfold Wla at p; unfold WcO at q; omega)) lv.2.1.2.2 (fun k hk => ⟨(f4.I (by unfold WcO; omega)).trans (t4 k hk).2.1, (t4 k hk).2.2⟩) t1
    exact ⟨M5, b1, ((FR.rf (fun a j => (a = 355 ∧ j = 1) ∨ Wlk 1 a j) M3).sI (by omega)).tr (b2.mo (fun a j q => Or.inr q)), (b2.I (by unfold Wlk Wla Wke; omega)).trans (zI_se _ _ _ _), b3⟩
  cases eZ : onZ h b t with
  | none =>
    have q1 := s_refuse (x := nI 5) (f2.W hW) 5 rfl (by decide)
    rw [v2] at q1
    have f3 : FR WcO M (zwI M2 2 (zup (zI M 2) 5 (zI M 2 5 + 1))) := f2.wI (fun _ => by unfold WcO; omega)
    have w0 : zI (zwI M2 2 (zup (zI M 2) 5 (zI M 2 5 + 1))) 0 15 = 0 := v0
    have w2 : zI (zwI M2 2 (zup (zI M 2) 5 (zI M 2 5 + 1))) 2 = zup (zI M 2) 5 (zI M 2 5 + 1) := by rw [zI_wI, if_pos rfl]
    have wx : ∀ i, i < 6 → zI (zwI M2 2 (zup (zI M 2) 5 (zI M 2 5 + 1))) (29 + 2 * i) 1 = nI i := fun i hi => by rw [zI_wI, if_neg (by omega)]; exact a3 i hi
    have h3 : FR WnO M (zwI M2 2 (zup (zI M 2) 5 (zI M 2 5 + 1))) := FR.wI (h0.tr (a2.mo (fun a j q => by unfold Wdr at q; unfold WnO; omega))) (fun _ => by unfold WnO; omega)
    revert q1 f3 w0 w2 wx h3
    generalize zwI M2 2 (zup (zI M 2) 5 (zI M 2 5 + 1)) = M3
    intro q1 f3 w0 w2 wx h3
    obtain ⟨M5, b1, b2, b3, -⟩ := mstep M3 f3
    rw [eZ] at b1
    have e371 : zI M5 371 = zI M 371 := funext (fun i => (b2.I (by unfold Wlk Wla Wke; omega)).trans (f3.I (by unfold WcO; omega)))
    have q2 := s_refuses (x := nI 5) (b2.W (f3.W hW)) 5 rfl (by decide)
    rw [e371] at q2
    have f5 : FR (fun a j => WcO a j ∨ WmO a j) M M5 := (f3.mo (fun a j q => Or.inl q)).tr (b2.mo (fun a j q => Or.inr (by unfold Wlk Wla Wke at q; unfold WmO; omega)))
    have f6 : FR (fun a j => WcO a j ∨ WmO a j) M (zwI M5 371 (zup (zI M 371) 5 (zI M 371 5 + 1))) := f5.wI (fun _ => by unfold WmO; omega)
    have x0 : zI (zwI M5 371 (zup (zI M 371) 5 (zI M 371 5 + 1))) 0 15 = 0 := ((b2.I (by unfold Wlk Wla Wke; omega)).trans w0 : zI M5 0 15 = 0)
    have x1 : zI (zwI M5 371 (zup (zI M 371) 5 (zI M 371 5 + 1))) 355 1 = 0 := b3
    have x2 : ∀ i, zI (zwI M5 371 (zup (zI M 371) 5 (zI M 371 5 + 1))) 2 i = zup (zI M 2) 5 (zI M 2 5 + 1) i := fun i => by rw [zI_wI, if_neg (by decide), b2.I (by unfold Wlk Wla Wke; omega), w2]
    have x3 : zI (zwI M5 371 (zup (zI M 371) 5 (zI M 371 5 + 1))) 371 = zup (zI M 371) 5 (zI M 371 5 + 1) := by rw [zI_wI, if_pos rfl]
    have xx : ∀ i, i < 6 → zI (zwI M5 371 (zup (zI M 371) 5 (zI M 371 5 + 1))) (29 + 2 * i) 1 = nI i := fun i hi => by rw [zI_wI, if_neg (by omega), b2.I (by unfold Wlk Wla Wke; omega)]; exact wx i hi
    have f7 : FR WnO M (zwI M5 371 (zup (zI M 371) 5 (zI M 371 5 + 1))) := FR.wI ((h3.mo (fun a j q => q)).tr (b2.mo (fun a j q => q.elim (fun q => by unfold WnO; omega) WnO_1))) (fun _ => by unfold WnO; omega)
    revert q2 f6 x0 x1 x2 x3 xx f7
    generalize zwI M5 371 (zup (zI M 371) 5 (zI M 371 5 + 1)) = M6
    intro q2 f6 x0 x1 x2 x3 xx f7
    refine ⟨0, M3, M6, ?_, ?_, (Inv.mk' (g.rst.onX f6 (tape0 x0 x1) (fun i hi => ?_) xx) (Or.inl ⟨c0, h, S, T, E, c, sv, ?_, lv, hT⟩)).mono (by omega)⟩
    · refine ip b01_f ?_
      rw [show (5 : Int32) = nI 5 from rfl, q1, b_i]
    · unfold f_X12_on f_X12_on_31
      rw [b_i, f3.I (by unfold WcO; omega), t3, b1, b_i]
      refine ip b01_f ?_
      rw [show (5 : Int32) = nI 5 from rfl, q2, b_i, if_pos m1_n0, zbz0]
    · rw [x2, x3, zup_at, zup_at]
      by_cases e : i = 5
      · rw [if_pos e, if_pos e, g.rst.2.2.1 5 (by decide)]
      · rw [if_neg e, if_neg e, g.rst.2.2.1 i hi]
    · exact l.nO lv.1 f7
  | some S' =>
    have hP := a4 S' eZ
    obtain ⟨M3, d1, d2, d3⟩ := s_pcopy (f2.W hW) (Or.inl rfl : PQ 13) (Or.inr (Or.inl rfl) : PQ 27) (by decide) hn.1 hP
    have f3 : FR WcO M M3 := f2.tr (d2.mo (fun a j q => by unfold Wpg at q; unfold WcO; omega))
    have f4 : FR WcO M (zsI (zsI (zsI M3 43 3 0) 43 4 0) 43 5 0) := FR.sI (FR.sI (FR.sI f3 (by unfold WcO; omega)) (by unfold WcO; omega)) (by unfold WcO; omega)
    have g4 : FR (fun a _ => a = 43) M3 (zsI (zsI (zsI M3 43 3 0) 43 4 0) 43 5 0) := FR.sI (FR.sI (FR.sI (FR.rf (fun a _ => a = 43) M3) (by omega)) (by omega)) (by omega)
    have y3 : zI (zsI (zsI (zsI M3 43 3 0) 43 4 0) 43 5 0) 43 3 = 0 := by rw [zI_sn _ _ (by omega), zI_sn _ _ (by omega), zI_se]
    have y4 : zI (zsI (zsI (zsI M3 43 3 0) 43 4 0) 43 5 0) 43 4 = 0 := by rw [zI_sn _ _ (by omega), zI_se]
    have y5 : zI (zsI (zsI (zsI M3 43 3 0) 43 4 0) 43 5 0) 43 5 = 0 := zI_se _ _ _ _
    have cl : f_X7_clear 43 M3 = some (zsI (zsI (zsI M3 43 3 0) 43 4 0) 43 5 0) := by unfold f_X7_clear; rw [b_i, b_i, b_i]
    revert f4 g4 y3 y4 y5 cl
    generalize zsI (zsI (zsI M3 43 3 0) 43 4 0) 43 5 0 = M4
    intro f4 g4 y3 y4 y5 cl
    obtain ⟨M5, b1, b2, b3, b4⟩ := mstep M4 f4
    obtain ⟨b5, b6⟩ := b4 S' eZ
    rw [eZ] at b1
    obtain ⟨M6, e1, e2, e3, e4, -⟩ := s_copies (M := M5) (x := 0) (y := 1) (to := 0) (fm := 1) (K := 0) rfl rfl (b2.W (f4.W hW)) (by decide) (by decide) (by decide) (by decide) b6
    have f5 : FR (fun a j => WcO a j ∨ WmO a j) M M5 := (f4.mo (fun a j q => Or.inl q)).tr (b2.mo (fun a j q => Or.inr (by unfold Wlk Wla Wke at q; unfold WmO; omega)))
    have f6 : FR (fun a j => WcO a j ∨ WmO a j) M (zsI M6 355 63 0) := FR.sI (f5.tr (e2.mo (fun a j q => Or.inr (by unfold Wlk Wla Wke at q; unfold WmO; omega)))) (by unfold WmO; omega)
    have g6 : FR WmO M4 (zsI M6 355 63 0) := FR.sI ((b2.mo (fun a j q => by unfold Wlk Wla Wke at q; unfold WmO; omega)).tr (e2.mo (fun a j q => by unfold Wlk Wla Wke at q; unfold WmO; omega))) (by unfold WmO; omega)
    have k1 : zI (zsI M6 355 63 0) 355 1 = 0 := by rw [zI_sn _ _ (by omega), e2.I (by unfold Wlk Wla Wke; omega)]; exact b3
    have k63 : zI (zsI M6 355 63 0) 355 63 = 0 := zI_se _ _ _ _
    have kP : MP (zsI M6 355 63 0) 0 (kN h) S' := (e3 (kN h) S' hn.1 b5).fr hn.1 ((FR.rf (fun a j => a = 355) M6).sI rfl) (fun a j p q => by unfold Wla at p; omega)
    have k386 : zI (zsI M6 355 63 0) 386 0 = 0 := (zI_sn _ _ (by omega)).trans e4
    revert f6 g6 k1 k63 kP k386
    generalize hM7 : zsI M6 355 63 0 = M7
    intro f6 g6 k1 k63 kP k386
    have c0' : zI M4 0 15 = 0 := (g4.I (by omega)).trans ((d2.I (by unfold Wpg; omega)).trans v0)
    have hx4 : ∀ i, i < 6 → zI M4 (29 + 2 * i) 1 = nI i := fun i hi => (g4.I (by omega)).trans ((d2.I (by unfold Wpg; omega)).trans (a3 i hi))
    obtain ⟨u, hu1, -, -, hu2, -⟩ := l.hm
    refine ⟨1, M4, M7, ?_, ?_, (Inv.mk' (s := s) (g.rst.onX f6 (tape0 ((g6.I (by unfold WmO; omega)).trans c0') k1) (fun i hi => ?_) (fun i hi => (g6.I (by unfold WmO; omega)).trans (hx4 i hi))) (Or.inl ⟨c0, h, S', 0, E, 0, sv, LD.mk' ?_ ?_, ⟨lv.1, onZ_v lv.1 eZ, fun k hk => absurd hk (by omega), fun k hk => absurd hk (by omega)⟩, by omega⟩)).mono (by omega)⟩
    · refine im b01_n0 ?_
      rw [w0_5 (f2.W hW), b_i, w0_6 (f2.W hW), b_i, d1, b_i, w0_8 (f3.W hW), b_i, cl, b_i]
    · unfold f_X12_on f_X12_on_31
      rw [b_i, f4.I (by unfold WcO; omega), t3, b1, b_i]
      refine im b01_n0 ?_
      dsimp only
      rw [e1, b_i, b_i, hM7]
    · rw [show zI M7 2 i = zI M 2 i from (g6.I (by unfold WmO; omega)).trans ((g4.I (by omega)).trans ((d2.I (by unfold Wpg; omega)).trans (congrFun v2 i))), show zI M7 371 i = zI M 371 i from by rw [← hM7, zI_sn _ _ (by omega), e2.I (by unfold Wlk Wla Wke; omega), b2.I (by unfold Wlk Wla Wke; omega), f4.I (by unfold WcO; omega)]]
      exact g.rst.2.2.1 i hi
    · refine ⟨(f6.R _ _).trans l.cur, l.cc.fr f6 (fun a j p q => ?_), (f6.I (fun q => ?_)).trans l.on.1, (d3.fr g4 (fun a j p p' q => by omega)).fr g6 (fun a j p p' q => by unfold WmO at q; omega), ⟨0, by decide, by decide, (g6.I (by unfold WmO; omega)).trans y3, (g6.I (by unfold WmO; omega)).trans y4, (g6.I (by unfold WmO; omega)).trans y5, fun k hk => absurd hk (by omega), fun i hi => absurd hi (by omega)⟩, l.dk.fr f6 (fun a j p q => ?_), l.kc.fr f6 (fun q => ?_) (fun _ q => ?_) (fun _ q => ?_)⟩
      · unfold Wch at p; unfold WcO WmO at q; rcases q with (q | q | q | q) | (q | q | q) <;> omega
      · unfold WcO WmO at q; omega
      · unfold WcO WmO at q; rcases q with (q | q | q | q) | (q | q | q) <;> omega
      · unfold WcO WmO at q; rcases q with (q | q | q | q) | (q | q | q) <;> omega
      · unfold WcO WmO at q; rcases q with (q | q | q | q) | (q | q | q) <;> omega
      · unfold WcO WmO at q; rcases q with (q | q | q | q) | (q | q | q) <;> omega
    · refine ⟨l.mc.fr f6 (fun a j p q => ?_), (f6.I (fun q => ?_)).trans l.on.2, kP, ⟨u, hu1, by decide, k63, (f6.I (fun q => ?_)).trans hu2, ⟨k386, fun i j hi => absurd hi (by omega)⟩, fun k hk => absurd hk (by omega)⟩⟩
      · unfold Wmc at p; unfold WcO WmO at q; rcases q with (q | q | q | q) | (q | q | q) <;> omega
      · unfold WcO WmO at q; omega
      · unfold WcO WmO at q; omega
