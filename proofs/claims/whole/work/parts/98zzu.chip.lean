/-! chip: both calls -/
section
variable {M : Mem} {s t : Nat} {b : Nat → Nat}
theorem Inv.bk (g : Inv M s) : ∃ bk, bk ≤ 1 ∧ zI M 355 13 = nI bk := by
  rcases g.st with ⟨c0, h, S, T, E, c, sv, l, lv, hT⟩ | o
  · obtain ⟨bk, ⟨a, b, -⟩, -⟩ := l.mc; exact ⟨bk, a, b⟩
  · exact ⟨0, by decide, o.2.2.2.1.2.2.2.2.1⟩
theorem Inv.u62 (g : Inv M s) : ∃ u, u < 20 ∧ zI M 355 62 = nI u := by
  rcases g.st with ⟨c0, h, S, T, E, c, sv, l, lv, hT⟩ | o
  · obtain ⟨u, hu1, -, -, hu2, -⟩ := l.hm; exact ⟨u, hu1, hu2⟩
  · exact ⟨0, by decide, o.2.2.2.2.2⟩
theorem Inv.nm (g : Inv M s) : ∀ i, i < 6 → zI M (13 + 2 + 2 * i) 1 = nI i := by
  rcases g.st with ⟨c0, h, S, T, E, c, sv, l, lv, hT⟩ | o
  · exact fun i hi => (l.cp.2 i hi).1
  · exact fun i hi => o.2.2.2.2.1 i hi
theorem Wfl_m {c0 bi a j : Nat} (q : Wch3 bi a j) : Wfl c0 bi a j := by
  rcases q with (q | q | q | q | q | q | q) | q
  · exact Or.inr (Or.inr (Or.inr (Or.inr (Or.inl ⟨q.1, by omega⟩))))
  · exact Or.inr (Or.inr (Or.inr (Or.inr (Or.inr (Or.inl q)))))
  · exact Or.inr (Or.inr (Or.inr (Or.inr (Or.inr (Or.inr (Or.inl q))))))
  · exact Or.inr (Or.inr (Or.inr (Or.inr (Or.inr (Or.inr (Or.inr (Or.inl q)))))))
  · exact Or.inr (Or.inr (Or.inr (Or.inr (Or.inr (Or.inr (Or.inr (Or.inr (Or.inl q))))))))
  · exact Or.inr (Or.inr (Or.inr (Or.inr (Or.inr (Or.inr (Or.inr (Or.inr (Or.inr (Or.inl q)))))))))
  · exact Or.inr (Or.inr (Or.inr (Or.inr (Or.inr (Or.inr (Or.inr (Or.inr (Or.inr (Or.inr (by omega))))))))))
  · exact Or.inr (Or.inr (Or.inr (Or.inr (Or.inl ⟨q.1, by omega⟩))))
def Wcb (sp a j : Nat) : Prop := (a = 0 ∧ j = 15) ∨ a = 2 ∨ (a = 353 ∧ 3 ≤ j ∧ j ≤ 12) ∨ (sp ≤ a ∧ a ≤ sp + 8)
theorem Wfl_c {c0 bi a j : Nat} (q : Wcb c0 a j) : Wfl c0 bi a j := by
  rcases q with q | q | q | q
  · exact Or.inl q
  · exact Or.inr (Or.inl q)
  · exact Or.inr (Or.inr (Or.inl q))
  · exact Or.inr (Or.inr (Or.inr (Or.inl q)))
theorem Wfl_r {c0 bi a j : Nat} (hc : c0 = 335 ∨ c0 = 344) (w : Wre3 a j) : ¬ Wfl c0 bi a j := fun q => by
  rcases q with q | q | q | q | q | q | q | q | q | q | q <;> rcases w with w | w | w | w | w | w | w <;> omega
theorem Wfl_e {c0 bi a j : Nat} (hc : c0 = 335 ∨ c0 = 344) (w : (a = 327 ∧ j = 5) ∨ a = 328 ∨ a = 329 ∨ (a = 355 ∧ j = 69) ∨ a = 390 ∨ a = 391) : ¬ Wfl c0 bi a j := fun q => by
  rcases q with q | q | q | q | q | q | q | q | q | q | q <;> rcases w with w | w | w | w | w | w <;> omega
theorem Wch3_n {bi a j : Nat} (h : a < 355 ∨ a = 371) : ¬ Wch3 bi a j := fun q => by
  rcases q with (q | q | q | q | q | q | q) | q <;> omega
theorem chip_bad (g : Inv M s) (t1 : t ≤ 1600) (t2 : zI M 0 15 = nI t) (t3 : zI M 355 1 = nI t) (t4 : ∀ k, k < t → zI M 1 k = nI (b k) ∧ zI M 356 k = nI (b k) ∧ b k < 256) {er : Nat × Nat} (e : chA b t = .inl er) : ∃ r M1 M2, f_X11_chip 0 M = some (r, M1) ∧ f_X12_chip 355 M1 = some (r, M2) ∧ Inv M2 s := by
  have hW := g.rst.W
  obtain ⟨c, sp, p, r1, r2, r3, r4, r5, r6⟩ := g.rst.1
  obtain ⟨bk, k1, k2⟩ := g.bk
  have hz : zCh2 sp := by unfold zCh2; omega
  have hsp : sp = 335 ∨ sp = 344 := hz
  have hW0 : WRc (zsI M 0 15 0) := hW
  obtain ⟨cb, -⟩ := c_reads (M := zsI M 0 15 0) (b := b) (z := t) hz hW0 t1 (fun k hk => ⟨(zI_sn _ _ (by omega)).trans (t4 k hk).1, (t4 k hk).2.2⟩) (fun i hi => (zI_sn _ _ (by omega)).trans (g.rst.2.2.2.2.1.2 i hi))
  obtain ⟨M', a1, a2, a3, a4⟩ := cb er e
  have cm : zsR (zsI M 0 15 0) 353 2 (sp + 1) = zsI (zsR M 353 2 (sp + 1)) 0 15 0 := rfl
  rw [cm] at a2
  clear cm cb
  have WN : WRc (zsR M 353 2 (sp + 1)) := hW.sR (Or.inl ⟨rfl, rfl⟩)
  have rR : ∀ x j, zR (zsR M 353 2 (sp + 1)) x j = if x = 353 ∧ j = 2 then sp + 1 else zR M x j := fun x j => zR_sR _ _ _ _ _ _
  have iN : ∀ x j, zI (zsR M 353 2 (sp + 1)) x j = zI M x j := fun _ _ => rfl
  have lN : ∀ x j, zL (zsR M 353 2 (sp + 1)) x j = zL M x j := fun _ _ => rfl
  have lD : ∀ {c1 h S T E c sv}, LD M c1 h S T E c sv → LD (zsR M 353 2 (sp + 1)) c1 h S T E c sv := fun l => l.r353
  have oF : OFF M → OFF (zsR M 353 2 (sp + 1)) := fun o => o
  revert a2 WN rR iN lN lD oF
  generalize zsR M 353 2 (sp + 1) = N
  intro a2 WN rR iN lN lD oF
  have fa : FR (Wcb sp) N M' := ((FR.rf (Wcb sp) N).sI (Or.inl ⟨rfl, rfl⟩)).tr (a2.mo (fun x j q => q.elim (fun q => Or.inr (Or.inr (Or.inl q))) (fun q => Or.inr (Or.inr (Or.inr q)))))
  have v2 : zI M' 2 = zI M 2 := funext (fun i => by rw [a2.I (by unfold Wcr; omega), zI_sn _ _ (by omega), iN])
  have v0 : zI M' 0 15 = 0 := by rw [a2.I (by unfold Wcr; omega), zI_se]
  have q1 := s_refuse (x := nI 1) (fa.W WN) 1 rfl (by decide)
  rw [v2] at q1
  have f1 : FR (Wcb sp) N (zwI M' 2 (zup (zI M 2) 1 (zI M 2 1 + 1))) := fa.wI (fun _ => Or.inr (Or.inl rfl))
  have w2 : zI (zwI M' 2 (zup (zI M 2) 1 (zI M 2 1 + 1))) 2 = zup (zI M 2) 1 (zI M 2 1 + 1) := by rw [zI_wI, if_pos rfl]
  have w4 : zI (zwI M' 2 (zup (zI M 2) 1 (zI M 2 1 + 1))) 353 4 = nI er.1 := a3
  have w5 : zI (zwI M' 2 (zup (zI M 2) 1 (zI M 2 1 + 1))) 353 5 = nI er.2 := a4
  have w0 : zI (zwI M' 2 (zup (zI M 2) 1 (zI M 2 1 + 1))) 0 15 = 0 := v0
  have run1 : f_X11_chip 0 M = Option.bind (f_X11_refuse 0 1 M') fun z19 => some (z19.1, z19.2) := by
    unfold f_X11_chip f_X11_takeTape
    rw [b_i, b_i]
    dsimp only
    rw [w0_13 hW0, b_i, show zrf (zsI M 0 15 0) 0 12 = some sp from zrf_of r3, b_i, t2, a1, b_i]
    exact if_pos rfl
  revert q1 f1 w2 w4 w5 w0
  generalize zwI M' 2 (zup (zI M 2) 1 (zI M 2 1 + 1)) = M1
  intro q1 f1 w2 w4 w5 w0
  have j1 : ∀ x j, 355 ≤ x → zI M1 x j = zI M x j := fun x j hx => (f1.I (by unfold Wcb; omega)).trans (iN x j)
  obtain ⟨mb, -⟩ := m_chip (M := M1) (b := b) (z := t) (f1.W WN) ((j1 _ _ (by omega)).trans t3) t1 (fun k hk => ⟨(j1 _ _ (by omega)).trans (t4 k hk).2.1, (t4 k hk).2.2⟩) ((j1 _ _ (by omega)).trans k2) k1
  obtain ⟨M3, x, b1, b2, b3, b4, b5, b6, b7⟩ := mb er e
  clear mb
  have f3 : FR (Wfl sp (1 - bk)) N M3 := (f1.mo (fun a j q => Wfl_c q)).tr (b2.mo (fun a j q => Wfl_m q))
  have f4 : FR (Wfl sp (1 - bk)) N (zsI (zsI M3 355 10 (nI er.1)) 355 11 (nI er.2)) := FR.sI (FR.sI f3 (Or.inr (Or.inr (Or.inr (Or.inr (Or.inl (by omega))))))) (Or.inr (Or.inr (Or.inr (Or.inr (Or.inl (by omega))))))
  have h4 : FR (fun a j => Wch3 (1 - bk) a j ∨ (a = 355 ∧ (j = 10 ∨ j = 11))) M1 (zsI (zsI M3 355 10 (nI er.1)) 355 11 (nI er.2)) := FR.sI (FR.sI (b2.mo (fun a j q => Or.inl q)) (Or.inr (by omega))) (Or.inr (by omega))
  have u10 : zI (zsI (zsI M3 355 10 (nI er.1)) 355 11 (nI er.2)) 355 10 = nI er.1 := by rw [zI_sn _ _ (by omega), zI_se]
  have u11 : zI (zsI (zsI M3 355 10 (nI er.1)) 355 11 (nI er.2)) 355 11 = nI er.2 := by rw [zI_se]
  have u1 : zI (zsI (zsI M3 355 10 (nI er.1)) 355 11 (nI er.2)) 355 1 = 0 := by rw [zI_sn _ _ (by omega), zI_sn _ _ (by omega)]; exact b5
  have run2 : f_X12_chip_165 355 x M3 = Option.bind (f_X12_refuses 355 1 (zsI (zsI M3 355 10 (nI er.1)) 355 11 (nI er.2))) fun z7 => some (z7.1, z7.2) := by
    unfold f_X12_chip_165
    rw [b_i, b3, zI_sn _ _ (by omega), b4, b_i, zI_sn _ _ (by omega), zI_sn _ _ (by omega), b3]
    exact if_neg (nI_nle b6 (by omega))
  revert f4 h4 u10 u11 u1 run2
  generalize zsI (zsI M3 355 10 (nI er.1)) 355 11 (nI er.2) = M4
  intro f4 h4 u10 u11 u1 run2
  have e371 : zI M4 371 = zI M 371 := funext (fun i => by rw [h4.I (fun q => q.elim (Wch3_n (Or.inr rfl)) (by omega))]; exact j1 _ _ (by omega))
  have q2 := s_refuses (x := nI 1) (f4.W WN) 1 rfl (by decide)
  rw [e371] at q2
  have f5 : FR (Wfl sp (1 - bk)) N (zwI M4 371 (zup (zI M 371) 1 (zI M 371 1 + 1))) := f4.wI (fun _ => Or.inr (Or.inr (Or.inr (Or.inr (Or.inr (Or.inr (Or.inr (Or.inr (Or.inr (Or.inr (by omega)))))))))))
  have x1 : zI (zwI M4 371 (zup (zI M 371) 1 (zI M 371 1 + 1))) 371 = zup (zI M 371) 1 (zI M 371 1 + 1) := by rw [zI_wI, if_pos rfl]
  have x2 : ∀ a j, ¬ a = 371 → zI (zwI M4 371 (zup (zI M 371) 1 (zI M 371 1 + 1))) a j = zI M4 a j := fun a j h => by rw [zI_wI, if_neg h]
  revert q2 f5 x1 x2
  generalize zwI M4 371 (zup (zI M 371) 1 (zI M 371 1 + 1)) = M2
  intro q2 f5 x1 x2
  have c4 : ∀ a j, a < 355 → zI M2 a j = zI M1 a j := fun a j ha => (x2 _ _ (by omega)).trans (h4.I (fun q => q.elim (Wch3_n (Or.inl ha)) (by omega)))
  have hI : ∀ a j, ¬ Wfl sp (1 - bk) a j → zI M2 a j = zI M a j := fun a j w => (f5.I w).trans (iN a j)
  refine ⟨-1, M1, M2, ?_, ?_, Inv.mk' (g.rst.chX (fun a j w => hI a j (Wfl_r hsp w)) ((f5.L (Wfl_r hsp (by unfold Wre3; omega))).trans (lN _ _)) ?_ (tape0 ((c4 _ _ (by omega)).trans w0) ((x2 _ _ (by omega)).trans u1)) (fun k hk => ?_) ⟨?_, fun _ => ?_, fun q => ?_⟩ (g.rst.2.2.2.2.2.2.1.fx (fun a j w => hI a j (Wfl_e hsp w)))) ?_⟩
  · rw [run1, show f_X11_refuse 0 1 M' = some (-1, M1) from q1, b_i]
  · rw [b1, run2, show f_X12_refuses 355 1 M4 = some (-1, M2) from q2, b_i]
  · refine ⟨c, sp, sp, f5.W WN, ?_, ?_, ?_, r5, hsp⟩
    · rw [f5.1, rR, if_neg (by omega)]; exact r2
    · rw [f5.1, rR, if_neg (by omega)]; exact r3
    · rw [f5.1, rR, if_pos ⟨rfl, rfl⟩]
  · rw [x1, c4 _ _ (by omega), w2, zup_at, zup_at]
    by_cases e : k = 1
    · rw [if_pos e, if_pos e, g.rst.2.2.1 1 (by decide)]
    · rw [if_neg e, if_neg e, g.rst.2.2.1 k hk]
  · rw [c4 _ _ (by omega), w4, x2 _ _ (by omega), u10]
  · rw [c4 _ _ (by omega), w5, x2 _ _ (by omega), u11]
  · rw [c4 _ _ (by omega), w4] at q
    exact absurd q (nI_ne0 b6 (by omega))
  · rcases g.st with ⟨c1, h, S, T, E, cc, sv, l, lv, hT⟩ | o
    · have ec : c1 = c := by
        have := l.cur.symm.trans (zrf_of r2)
        cases this; rfl
      subst ec
      exact Or.inl ⟨c1, h, S, T, E, cc, sv, (lD l).fl lv.1 r5 k1 ((iN _ _).trans k2) rfl f5, lv, hT⟩
    · have eb : bk = 0 := (nI_eq (by omega) (by omega)).mp (k2.symm.trans o.2.2.2.1.2.2.2.2.1)
      subst eb
      exact Or.inr ((oF o).fl hsp f5)
end
