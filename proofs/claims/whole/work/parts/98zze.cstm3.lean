/-! chip: the class's statements (4) -/
section
variable {b : Nat → Nat} {z c0 p : Nat} {M : Mem} {s : Acs}
theorem c_set1 {l u sl i : Nat} {x y : Int32} {M0 : Mem} (h : CSt b z c0 M p) (hA : ACc M c0 s) (hn : aN s ≤ p) (hx : x = nI l) (hy : y = nI u) (hl : l < 10000) (hu : u < 10000) (hi : 4 ≤ i ∧ i ≤ 8) (hs : sl = i + 6) (f0 : FR Wlk6 M0 M) : CR2 b z c0 M0 (Option.bind (zrf M 353 2) fun q10 => Option.bind (f_X6_readNumber 353 x y M) fun z11 => Option.bind (some (zsI z11.2 q10 sl z11.1)) fun M12 => Option.bind (zrf M12 353 2) fun q13 => (if zI M12 q13 sl = (-1) then zbz 0 (some (0, M12)) else zbz 1 (some (1, M12)))) (match numA b z p l u with
  | .inl e => .inl e
  | .inr v => .inr (v.1, (aN s, aD s, aT s, aM s, fun j => if j = i then v.2 else aS s j))) := by
  have hz : c0 = 335 ∨ c0 = 344 := h.2.2.2
  obtain ⟨n1, n2, n3⟩ := h.rNum (x := x) (y := y) hx hy hl hu
  have G0 : FR (Wsm2 c0) M0 M := (Wlk3 f0).mo (fun x j q => by unfold W3 at q; unfold Wsm2; omega)
  have bad : ∀ e, (∃ M', f_X6_readNumber 353 x y M = some (-1, M') ∧ CFl M M' e) → CR2 b z c0 M0 (Option.bind (zrf M 353 2) fun q10 => Option.bind (f_X6_readNumber 353 x y M) fun z11 => Option.bind (some (zsI z11.2 q10 sl z11.1)) fun M12 => Option.bind (zrf M12 353 2) fun q13 => (if zI M12 q13 sl = (-1) then zbz 0 (some (0, M12)) else zbz 1 (some (1, M12)))) (.inl e) := fun e ⟨M', a1, a2⟩ => by
    have g : FR (fun x j => x = c0 ∧ j = sl) M' (zsI M' c0 sl (-1)) := (FR.rf (fun x j => x = c0 ∧ j = sl) M').sI ⟨rfl, rfl⟩
    rw [h.2.2.1, b_i, a1, b_i, b_i, show zrf (zsI M' c0 sl (-1)) 353 2 = some c0 from (a2.1.R _ _).trans h.2.2.1, b_i, zI_se, if_pos rfl, zbz0]
    refine ⟨fun e' q => ?_, fun y q => (by cases q)⟩
    cases q
    exact ⟨_, rfl, G0.tr ((a2.1.mo (fun x j q => by unfold W3 at q; unfold Wsm2; omega)).tr (g.mo (fun x j q => by unfold Wsm2; omega))), (g.I (by omega)).trans a2.2.1, (g.I (by omega)).trans a2.2.2⟩
  unfold numA
  by_cases k2 : tK (tok b z p) = 2
  · rw [if_pos k2]
    by_cases c : l ≤ tV (tok b z p) ∧ tV (tok b z p) ≤ u
    · rw [if_pos c]
      obtain ⟨M', a1, a2, a3, a4⟩ := n1 k2 c.1 c.2
      have hA1 := hA.lo h.2.2.2 (Wlk3 a2)
      have hv := (tok_ok h.by8 h.2.1.2).2.2.2.2.2.1 k2
      have g : FR (fun x j => x = c0 ∧ j = sl) M' (zsI M' c0 sl (nI (tV (tok b z p)))) := (FR.rf (fun x j => x = c0 ∧ j = sl) M').sI ⟨rfl, rfl⟩
      rw [h.2.2.1, b_i, a1, b_i, b_i, show zrf (zsI M' c0 sl (nI (tV (tok b z p)))) 353 2 = some c0 from a3.2.2.1, b_i, zI_se, if_neg (nI_nm (by omega)), zbz1]
      refine ⟨fun e q => (by cases q), fun y q => ?_⟩
      cases q
      refine ⟨_, rfl, G0.tr (((Wlk3 a2).mo (fun x j q => by unfold W3 at q; unfold Wsm2; omega)).tr (g.mo (fun x j q => by unfold Wsm2; omega))), a3.fr g (fun j _ => by omega) (fun j => by omega) (fun j => by omega), ⟨(g.I (by omega)).trans hA1.1, hA1.2.1.fr g (by omega) (by omega) (fun j _ => by omega), hA1.2.2.1.fr g (by omega) (by omega) (fun j _ => by omega), ⟨(g.I (by omega)).trans hA1.2.2.2.1.1, hA1.2.2.2.1.2.1, fun i l e => ⟨(g.I (by omega)).trans (hA1.2.2.2.1.2.2 i l e).1, (hA1.2.2.2.1.2.2 i l e).2⟩⟩, fun j j1 j2 => ?_⟩, by show aN s ≤ _; dsimp only; omega⟩
      show zI (zsI M' c0 sl (nI (tV (tok b z p)))) c0 (j + 6) = nI (if j = i then tV (tok b z p) else aS s j)
      by_cases q : j = i
      · rw [if_pos q, q, ← hs, zI_se]
      · rw [if_neg q, zI_sn _ _ (by omega)]; exact hA1.2.2.2.2 j j1 j2
    · rw [if_neg c]; exact bad _ (n2 k2 c)
  · rw [if_neg k2]; exact bad _ (n3 k2)
theorem c_stm (h : CSt b z c0 M p) (hA : ACc M c0 s) (hn : aN s ≤ p) : CR2 b z c0 M (f_X6_readStatement 353 M) (stA b z p s) := by
  unfold f_X6_readStatement stA
  obtain ⟨Mf, f1, f2⟩ := h.fail
  by_cases k1 : tK (tok b z p) = 1
  · have h11 := (h.2.1.1.2.2.2.2.1 k1).2
    have ol := owi_le (tL (tok b z p))
    have nE : ∀ i (x : Int32), x = nI i → i < 27 → ((zI M 353 11 = x) ↔ owi (tL (tok b z p)) = i) := fun i x hx hi => by rw [h11, hx]; exact owv_eq hi
    rw [if_pos (h.kd.1.mpr k1), if_pos k1]
    by_cases c4 : owi (tL (tok b z p)) = 4
    · rw [if_pos ((nE 4 4 rfl (by decide)).mpr c4), if_pos c4]; exact (c_page h hA hn k1).zb
    rw [if_neg (fun e => c4 ((nE 4 4 rfl (by decide)).mp e)), if_neg c4]
    by_cases c10 : owi (tL (tok b z p)) = 10
    · rw [if_pos ((nE 10 10 rfl (by decide)).mpr c10), if_pos c10]; exact (c_drifts h hA hn k1).zb
    rw [if_neg (fun e => c10 ((nE 10 10 rfl (by decide)).mp e)), if_neg c10]
    by_cases c11 : owi (tL (tok b z p)) = 11
    · rw [if_pos ((nE 11 11 rfl (by decide)).mpr c11), if_pos c11]; exact (c_tries h hA hn k1).zb
    rw [if_neg (fun e => c11 ((nE 11 11 rfl (by decide)).mp e)), if_neg c11]
    refine CR2.zb ?_
    unfold f_X6_readSetting f_X6_readSetting_16 f_X6_readSetting_87 f_X6_readSetting_118 f_X6_readSetting_149 f_X6_readSetting_180 f_X6_readSetting_211
    by_cases c59 : 5 ≤ owi (tL (tok b z p)) ∧ owi (tL (tok b z p)) ≤ 9
    · obtain ⟨M1, a1, a2, a3, a4⟩ := h.look (by omega) (by omega)
      have hA1 := hA.lo h.2.2.2 (Wlk3 a2)
      have hv : zI M 353 11 = nI (owi (tL (tok b z p))) := by rw [h11]; unfold owv; rw [if_pos (by omega)]
      rw [if_pos c59, hv, if_neg (show ¬ nI (owi (tL (tok b z p))) < (5 : Int32) from nI_nlt (b := 5) c59.1 (by omega)), if_pos (show nI (owi (tL (tok b z p))) ≤ (9 : Int32) from nI_le (b := 9) c59.2 (by decide)), a1, b_i]
      unfold seA
      have hc : owi (tL (tok b z p)) = 5 ∨ owi (tL (tok b z p)) = 6 ∨ owi (tL (tok b z p)) = 7 ∨ owi (tL (tok b z p)) = 8 ∨ owi (tL (tok b z p)) = 9 := by omega
      rcases hc with e | e | e | e | e
      · rw [e, if_pos (show nI 5 = (5 : Int32) from rfl)]
        exact c_set1 (l := 51) (u := 99) (i := 4) a3 hA1 (by omega) rfl rfl (by decide) (by decide) (by decide) rfl a2
      · rw [e, if_neg (by decide), if_pos (show nI 6 = (6 : Int32) from rfl)]
        exact c_set1 (l := 0) (u := 49) (i := 5) a3 hA1 (by omega) rfl rfl (by decide) (by decide) (by decide) rfl a2
      · rw [e, if_neg (by decide), if_neg (by decide), if_pos (show nI 7 = (7 : Int32) from rfl)]
        exact c_set1 (l := 1) (u := 99) (i := 6) a3 hA1 (by omega) rfl rfl (by decide) (by decide) (by decide) rfl a2
      · rw [e, if_neg (by decide), if_neg (by decide), if_neg (by decide), if_pos (show nI 8 = (8 : Int32) from rfl)]
        exact c_set1 (l := 1) (u := 20) (i := 7) a3 hA1 (by omega) rfl rfl (by decide) (by decide) (by decide) rfl a2
      · rw [e, if_neg (by decide), if_neg (by decide), if_neg (by decide), if_neg (by decide)]
        exact c_set1 (l := 0) (u := 100) (i := 8) a3 hA1 (by omega) rfl rfl (by decide) (by decide) (by decide) rfl a2
    · rw [if_neg c59, h11]
      have fin : CR2 b z c0 M (Option.bind (f_X6_failHere 353 M) fun z1 => zbz z1.1 (some (z1.1, z1.2))) (.inl (1, tBd (tok b z p))) := by
        rw [f1, b_i]; exact CR2.l (zbz0 _) f2
      unfold owv
      by_cases q : owi (tL (tok b z p)) < 27
      · rw [if_pos q]
        by_cases q5 : owi (tL (tok b z p)) < 5
        · rw [if_pos (show nI (owi (tL (tok b z p))) < (5 : Int32) from nI_lt (b := 5) q5 (by decide))]; exact fin
        · rw [if_neg (show ¬ nI (owi (tL (tok b z p))) < (5 : Int32) from nI_nlt (b := 5) (by omega) (by omega)), if_neg (show ¬ nI (owi (tL (tok b z p))) ≤ (9 : Int32) from nI_ge (a := 9) (by omega) (by omega))]; exact fin
      · rw [if_neg q, if_pos (show (-1 : Int32) < 5 by decide)]; exact fin
  · rw [if_neg (fun e => k1 (h.kd.1.mp e)), if_neg k1, f1, b_i]
    exact CR2.l (zbz0 _) f2
end
