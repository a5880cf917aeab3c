/-! calls: shifts, tells (the model's side) -/
theorem s_leaves {M : Mem} {p n mt : Nat} {v a o : Nat → Nat} (hW : WRc M) (hp : p < 6) (hn : n ≤ 63) (h39 : zI M 355 39 = nI n) (hv : ∀ k, k < n → zI M 385 (64 * (6 * 0 + p) + k) = nI (v k) ∧ v k ≤ 99) (h5 : zI M 355 69 = nI mt) (hm : mt ≤ 16) (ha : ∀ i, i < mt → zI M 390 i = nI (a i) ∧ a i ≤ 100 ∧ zI M 391 i = nI (o i) ∧ o i ≤ 63) : ∃ M', f_X12_leaves 355 (nI p) M = some (nI (fls (fun s => lfr (al n v) a o s 0 mt) 19).length, M') ∧ FR (fun x _ => x = 392) M M' ∧ ∀ s, s < 19 → zI M' 392 s = b01 (lfr (al n v) a o s 0 mt) := by
  have lp1 : ∀ (K : Int32 → Int32 → Mem → Option (Int32 × Mem)) (s : Nat) (x : Int32), s < 19 → ∀ e k f M0 (w : Bool), k + e = mt → FR (fun x _ => x = 392) M M0 → zI M0 392 s = b01 w → ∃ M', f_X12_leaves_20 K 355 (nI p) (e + 1 + f) x (nI s) (nI k) M0 = K (x + b01 (w && lfr (al n v) a o s k e)) (nI (s + 1)) M' ∧ FR (fun x _ => x = 392) M M' ∧ zI M' 392 s = b01 (w && lfr (al n v) a o s k e) ∧ ∀ q, ¬ q = s → zI M' 392 q = zI M0 392 q := by
    intro K s x hs e
    induction e with
    | zero =>
      intro k f M0 w ek fr h0
      refine ⟨M0, ?_, fr, ?_, fun q _ => rfl⟩
      · rw [show 0 + 1 + f = f + 1 by omega, f_X12_leaves_20, fr.I (by omega), h5, if_pos (nI_le (by omega) (by omega)), w355_72 (fr.W hW), b_i, zl_at 19 rfl hs (by decide), b_i, h0, nI_1]
        unfold lfr
        rw [Bool.and_true]
      · unfold lfr; rw [Bool.and_true]; exact h0
    | succ e ih =>
      intro k f M0 w ek fr h0
      obtain ⟨p1, p2, p3, p4⟩ := ha k (by omega)
      have rd := s_md9 (M := M0) (p := p) (n := n) (s := s) (t := a k) (v := v) (fr.W hW) hp hn ((fr.I (by omega)).trans h39) (fun q hq => by rw [fr.I (by omega)]; exact hv q hq) (by omega) (by omega)
      have hA := al_le hn v (a k + 18 - s)
      have hlf : (w && lfr (al n v) a o s k (e + 1)) = (w && (decide (al n v (a k + 18 - s) = o k) && lfr (al n v) a o s (k + 1) e)) := rfl
      have st : f_X12_leaves_20 K 355 (nI p) (e + 1 + 1 + f) x (nI s) (nI k) M0 = if al n v (a k + 18 - s) = o k then f_X12_leaves_20 K 355 (nI p) (e + 1 + f) x (nI s) (nI (k + 1)) M0 else f_X12_leaves_20 K 355 (nI p) (e + 1 + f) x (nI s) (nI (k + 1)) (zsI M0 392 s 0) := by
        rw [show e + 1 + 1 + f = (e + 1 + f) + 1 by omega, f_X12_leaves_20, fr.I (by omega), h5, if_neg (nI_ge (by omega) (by omega)), w355_70 (fr.W hW), b_i, zl_at 16 rfl (by omega) (by decide), b_i, fr.I (by omega), p1]
        cases hr : f_X12_bitsBy 355 0 (nI p) (nI (a k)) (nI s - 9) M0 with
        | none => rw [hr] at rd; exact absurd rd (by intro x; cases x)
        | some z =>
          rw [hr, b_i] at rd
          rw [b_i, rd, b_i]
          dsimp only
          rw [w355_71 (fr.W hW), b_i, zl_at 16 rfl (by omega) (by decide), b_i, fr.I (by omega), p3]
          unfold f_X12_leaves_66
          by_cases q : al n v (a k + 18 - s) = o k
          · rw [if_pos (by rw [q]), if_pos q, nI_1]
          · rw [if_neg (fun x => q ((nI_eq (by omega) (by omega)).mp x)), if_neg q, w355_72 (fr.W hW), b_i, zl_at 19 rfl hs (by decide), b_i, b_i, nI_1]
      rw [st, hlf]
      by_cases q : al n v (a k + 18 - s) = o k
      · rw [if_pos q, decide_eq_true q, Bool.true_and]
        exact ih (k + 1) f M0 w (by omega) fr h0
      · rw [if_neg q, decide_eq_false q, Bool.false_and, Bool.and_false]
        obtain ⟨M', a1, a2, a3, a4⟩ := ih (k + 1) f (zsI M0 392 s 0) false (by omega) (fr.sI (by omega)) (zI_se _ _ _ _)
        rw [Bool.false_and] at a1 a3
        exact ⟨M', a1, a2, a3, fun u hu => by rw [a4 u hu, zI_sn _ _ (fun x => hu x.2)]⟩
  have lp2 : ∀ e k f M0, k + e = 19 → FR (fun x _ => x = 392) M M0 → (∀ s, s < k → zI M0 392 s = b01 (lfr (al n v) a o s 0 mt)) → ∃ M', f_X12_leaves_4 355 (nI p) (e + 1 + f) (nI (fls (fun s => lfr (al n v) a o s 0 mt) k).length) (nI k) M0 = some (nI (fls (fun s => lfr (al n v) a o s 0 mt) 19).length, M') ∧ FR (fun x _ => x = 392) M M' ∧ ∀ s, s < 19 → zI M' 392 s = b01 (lfr (al n v) a o s 0 mt) := by
    intro e
    induction e with
    | zero =>
      intro k f M0 ek fr h0
      have : k = 19 := by omega
      subst this
      exact ⟨M0, by rw [show 0 + 1 + f = f + 1 by omega, f_X12_leaves_4, if_pos (by decide)], fr, h0⟩
    | succ e ih =>
      intro k f M0 ek fr h0
      have g1 : FR (fun x _ => x = 392) M (zsI M0 392 k 1) := fr.sI rfl
      obtain ⟨M1, a1, a2, a3, a4⟩ := lp1 (f_X12_leaves_4 355 (nI p) (e + 1 + f)) k (nI (fls (fun s => lfr (al n v) a o s 0 mt) k).length) (by omega) mt 0 (1000000 - mt - 1) (zsI M0 392 k 1) true (by omega) g1 (zI_se _ _ _ _)
      rw [show mt + 1 + (1000000 - mt - 1) = 1000000 by omega] at a1
      rw [Bool.true_and] at a1 a3
      have sm : nI (fls (fun s => lfr (al n v) a o s 0 mt) k).length + b01 (lfr (al n v) a o k 0 mt) = nI (fls (fun s => lfr (al n v) a o s 0 mt) (k + 1)).length := by
        cases hL : lfr (al n v) a o k 0 mt with
        | false => rw [fls_f (L := fun s => lfr (al n v) a o s 0 mt) (s := k) hL, b01_f, ← nI_0, nI_add, Nat.add_zero]
        | true => rw [fls_t (L := fun s => lfr (al n v) a o s 0 mt) (s := k) hL, b01_t, len_a, nI_1]
      rw [show e + 1 + 1 + f = (e + 1 + f) + 1 by omega, f_X12_leaves_4, if_neg (show ¬ (19 : Int32) ≤ nI k from nI_ge (b := 19) (by omega) (by decide)), w355_72 (fr.W hW), b_i, zl_at 19 rfl (by omega) (by decide), b_i, b_i, show (0 : Int32) = nI 0 from rfl, a1, sm]
      refine ih (k + 1) f M1 (by omega) a2 (fun s hs => ?_)
      by_cases q : s = k
      · rw [q, a3]
      · rw [a4 s q, zI_sn _ _ (fun x => q x.2)]; exact h0 s (by omega)
  have := lp2 19 0 (1000000 - 19 - 1) M (by decide) (FR.rf _ M) (fun i hi => absurd hi (by omega))
  rw [show 19 + 1 + (1000000 - 19 - 1) = 1000000 by rfl] at this
  exact this
theorem s_pick {M : Mem} {L : Nat → Bool} {q : Nat} (hW : WRc M) (hq : q < 2 ^ 31) (hL : ∀ s, s < 19 → zI M 392 s = b01 (L s)) (y : Int32) : f_X12_shifts_36 355 y (nI q) 1000000 0 0 M = some (if q < (fls L 19).length then nI (lg (fls L 19) q) - 9 else -1000, M) := by
  have lp : ∀ e k f, k + e = 19 → (fls L k).length ≤ q → f_X12_shifts_36 355 y (nI q) (e + 1 + f) (nI (fls L k).length) (nI k) M = some (if q < (fls L 19).length then nI (lg (fls L 19) q) - 9 else -1000, M) := by
    intro e
    induction e with
    | zero =>
      intro k f ek hk
      have : k = 19 := by omega
      subst this
      rw [show 0 + 1 + f = f + 1 by omega, f_X12_shifts_36]
      refine ip (by decide) ?_
      rw [if_neg (by omega)]
    | succ e ih =>
      intro k f ek hk
      have hl := fls_len L k
      rw [show e + 1 + 1 + f = (e + 1 + f) + 1 by omega, f_X12_shifts_36]
      refine im (show ¬ (19 : Int32) ≤ nI k from nI_ge (b := 19) (by omega) (by decide)) ?_
      unfold f_X12_shifts_66
      rw [w355_72 hW, b_i, zl_at 19 rfl (by omega) (by decide), b_i, b_i, zl_at 19 rfl (by omega) (by decide), b_i, hL k (by omega), nI_1]
      cases h : L k with
      | false =>
        refine im (by decide) ?_
        have := ih (k + 1) f (by omega) (by rw [fls_f h]; exact hk)
        rw [fls_f h] at this
        rw [b01_f, ← nI_0, nI_add, Nat.add_zero]
        exact this
      | true =>
        refine ip rfl ?_
        obtain ⟨p1, p2⟩ := fls_at h (show k < 19 by omega)
        by_cases e1 : (fls L k).length = q
        · refine ip (by rw [e1]) ?_
          rw [← e1, if_pos p1, p2]
        · refine im (fun x => e1 ((nI_eq (by omega) hq).mp x)) ?_
          have := ih (k + 1) f (by omega) (by rw [fls_t h, len_a]; omega)
          rw [fls_t h, len_a] at this
          rw [b01_t, nI_1]
          exact this
  have := lp 19 0 (1000000 - 19 - 1) (by decide) (Nat.zero_le _)
  rw [show 19 + 1 + (1000000 - 19 - 1) = 1000000 by rfl] at this
  exact this
theorem mt_ao {M : Mem} (g : I_met M) : ∃ mt, ∃ a o : Nat → Nat, mt ≤ 16 ∧ zI M 327 5 = nI mt ∧ zI M 355 69 = nI mt ∧ (∀ i, i < mt → zI M 328 i = nI (a i) ∧ a i ≤ 100 ∧ zI M 329 i = nI (o i) ∧ o i ≤ 63) ∧ (∀ i, i < mt → zI M 390 i = nI (a i) ∧ a i ≤ 100 ∧ zI M 391 i = nI (o i) ∧ o i ≤ 63) := by
  obtain ⟨mt, m1, m2, m3, m4⟩ := g
  have : ∀ i, ∃ a, ∃ o, i < mt → a ≤ 100 ∧ o ≤ 63 ∧ zI M 328 i = nI a ∧ zI M 329 i = nI o ∧ zI M 390 i = nI a ∧ zI M 391 i = nI o := fun i => by
    by_cases h : i < mt
    · obtain ⟨a, o, p⟩ := m4 i h
      exact ⟨a, o, fun _ => p⟩
    · exact ⟨0, 0, fun x => absurd x h⟩
  refine ⟨mt, fun i => Classical.choose (this i), fun i => Classical.choose (Classical.choose_spec (this i)), m1, m2, m3, fun i hi => ?_, fun i hi => ?_⟩
  · obtain ⟨a1, a2, a3, a4, a5, a6⟩ := Classical.choose_spec (Classical.choose_spec (this i)) hi
    exact ⟨a3, a1, a4, a2⟩
  · obtain ⟨a1, a2, a3, a4, a5, a6⟩ := Classical.choose_spec (Classical.choose_spec (this i)) hi
    exact ⟨a5, a1, a6, a2⟩
section
variable {M : Mem} {c0 : Nat} {h : CH} {S : PSt} {T c s : Nat} {E : Nat → Nat → Nat} {sv : Nat → PSt × Nat}
/-- what both find of the shifts that fit -/
theorem find2 (g : RST M) (l : LD M c0 h S T E c sv) (lv : LV h S T c sv) {j : Nat} (hj : j < kQ h) (hw : (S.2 j).1 = true) : ∃ L : Nat → Bool, (∃ M1, f_X9_find 327 (13 + 2 + 2 * j) (nI (kN h)) M = some M1 ∧ FR Wfc M M1 ∧ (∀ i, i < 119 → zI M1 331 i = nI (al (kN h) (S.2 j).2.2.2 i)) ∧ zI M1 327 6 = nI (fls L 19).length ∧ ∀ k, k < (fls L 19).length → zI M1 330 k = nI (lg (fls L 19) k) - 9) ∧ ∀ M1, FR Wfc M M1 → ∃ M2, f_X12_leaves 355 (nI j) M1 = some (nI (fls L 19).length, M2) ∧ FR (fun x _ => x = 392) M1 M2 ∧ ∀ s, s < 19 → zI M2 392 s = b01 (L s) := by
  obtain ⟨mt, a, o, m1, m2, m3, m4, m5⟩ := mt_ao g.2.2.2.2.2.2.1
  have hq := lv.1.q
  have hn := lv.1.n63
  have hr := l.cp.2 j (by omega)
  have hm := l.mp.2 j (by omega)
  have hV := lv.2.1.1 j (by omega) hw
  obtain ⟨bk, ⟨-, -, hMD⟩, -⟩ := l.mc
  refine ⟨fun s => lfr (al (kN h) (S.2 j).2.2.2) a o s 0 mt, ?_, fun M1 f => ?_⟩
  · exact s_find g.W (pq_r (Or.inl rfl : PQ 13) (by omega)) hn.1 (fun k hk => ⟨(hr.2.2 hw).2.2 k hk, hV.2.2.2 k hk⟩) m2 m1 m4
  · exact s_leaves (f.W g.W) (by omega) hn.1 ((f.I (by unfold Wfc; omega)).trans hMD.2.2.1) (fun k hk => ⟨(f.I (by unfold Wfc; omega)).trans ((hm.2 hw).2.2 k hk), hV.2.2.2 k hk⟩) ((f.I (by unfold Wfc; omega)).trans m3) m1 (fun i hi => by rw [f.I (by unfold Wfc; omega), f.I (by unfold Wfc; omega)]; exact m5 i hi)
end
def Wfm (a _j : Nat) : Prop := a = 392 ∨ a = 393
theorem afterF {M M1 M2 : Mem} {c0 : Nat} {h : CH} {S : PSt} {T c s : Nat} {E : Nat → Nat → Nat} {sv : Nat → PSt × Nat} (g : RST M) (l : LD M c0 h S T E c sv) (lv : LV h S T c sv) (hT : T ≤ s) (f1 : FR Wfc M M1) (f2 : FR Wfm M1 M2) : Inv M2 (s + 1) := by
  have f3 : FR (fun a j => Wfc a j ∨ Wfm a j) M M2 := (f1.mo (fun _ _ q => Or.inl q)).tr (f2.mo (fun _ _ q => Or.inr q))
  refine (Inv.sc g l lv hT (f3.mo (fun a j q => ?_)) (l.dk.fr f3 (fun a j p q => ?_))).mono (by omega)
  · unfold Wfc Wfm at q
    unfold Wsc
    rcases q with (q | q) | q | q
    · exact Or.inr (Or.inr (Or.inr (Or.inr (Or.inr (Or.inr (Or.inr (Or.inr (Or.inr (Or.inr (Or.inr (Or.inr (Or.inr (Or.inr (Or.inr (Or.inl (by omega))))))))))))))))
    · exact Or.inr (Or.inr (Or.inr (Or.inr (Or.inr (Or.inr (Or.inr (Or.inr (Or.inr (Or.inr (Or.inr (Or.inr (Or.inr (Or.inr (Or.inr (Or.inr (Or.inl (by omega)))))))))))))))))
    · exact Or.inr (Or.inr (Or.inr (Or.inr (Or.inr (Or.inr (Or.inr (Or.inr (Or.inr (Or.inr (Or.inr (Or.inr (Or.inr (Or.inr (Or.inr (Or.inr (Or.inr (Or.inr (by omega))))))))))))))))))
    · exact Or.inr (Or.inr (Or.inr (Or.inr (Or.inr (Or.inr (Or.inr (Or.inr (Or.inr (Or.inr (Or.inr (Or.inr (Or.inr (Or.inr (Or.inr (Or.inr (Or.inr (Or.inr (by omega))))))))))))))))))
  · unfold Wfc Wfm at q; omega
theorem op_shifts (x y : Int32) : OP (f_X11_shifts 0 x y) (f_X12_shifts 355 x y) := by
  intro M s g
  have hW := g.rst.W
  unfold f_X11_shifts f_X11_shifts_13 f_X12_shifts f_X12_shifts_13
  rcases wcase g x with ⟨p1, p2⟩ | ⟨c0, h, S, T, E, c, sv, j, l, lv, hT, e, hj, hw⟩
  · exact ⟨-1000, M, M, by rw [p1, b_i]; exact ip rfl rfl, by rw [p2, b_i]; exact ip rfl rfl, g.mono (by omega)⟩
  · subst e
    have hq := lv.1.q
    obtain ⟨p1, p2⟩ := wrT hW l lv.1 hj hw
    by_cases hy : (-1 : Int32) ≤ y
    · obtain ⟨L, ⟨M1, a1, a2, a3, a4, a5⟩, B⟩ := find2 g.rst l lv hj hw
      obtain ⟨M2, b1, b2, b3⟩ := B M1 a2
      have p3 : f_X12_isThere 355 (nI j) M1 = some (1, M1) := thereT (a2.W hW) lv.1 (l.m.fr lv.1 a2 (fun a j q => by unfold Wfc at q; omega)) hj hw
      have hI : Inv M2 (s + 1) := afterF g.rst l lv hT a2 (b2.mo (fun a j q => Or.inl q))
      have hl := fls_len L 19
      by_cases hy1 : y = -1
      · subst hy1
        refine ⟨nI (fls L 19).length, M1, M2, ?_, ?_, hI⟩
        · rw [p1, b_i]
          refine im (one_n0 _) (ip hy ?_)
          dsimp only
          rw [w0_9 hW, b_i, crow hW (by omega), l.cur, b_i, wC_0 hW l.cc.z, b_i, l.cc.n, a1, b_i]
          refine ip rfl ?_
          rw [w0_9 (a2.W hW), b_i, a4]
        · rw [p3, b_i]
          refine im (one_n0 _) (ip hy ?_)
          dsimp only
          rw [b1, b_i]
          exact ip rfl rfl
      · have hy0 : ¬ y < 0 := fun q => by
          have h1 := Int32.le_iff_toInt_le.mp hy
          have h2 := Int32.lt_iff_toInt_lt.mp q
          have h3 : (-1 : Int32).toInt = -1 := rfl
          have h4 : (0 : Int32).toInt = 0 := rfl
          exact hy1 (Int32.toInt_inj.mp (by omega))
        obtain ⟨k, hk, e⟩ := nI_of hy0
        subst e
        refine ⟨if k < (fls L 19).length then nI (lg (fls L 19) k) - 9 else -1000, M1, M2, ?_, ?_, hI⟩
        · rw [p1, b_i]
          refine im (one_n0 _) (ip hy ?_)
          dsimp only
          rw [w0_9 hW, b_i, crow hW (by omega), l.cur, b_i, wC_0 hW l.cc.z, b_i, l.cc.n, a1, b_i]
          refine im hy1 ?_
          rw [w0_9 (a2.W hW), b_i, a4]
          unfold f_X11_shifts_82
          by_cases q : k < (fls L 19).length
          · rw [if_pos q]
            refine im (nI_ge q (by omega)) ?_
            rw [b_i, w327_2 (a2.W hW), b_i, zl_at 19 rfl (by omega) (by decide), b_i, a5 k q]
          · rw [if_neg q]
            exact ip (nI_le (by omega) hk) rfl
        · rw [p3, b_i]
          refine im (one_n0 _) (ip hy ?_)
          dsimp only
          rw [b1, b_i]
          refine im hy1 ?_
          exact s_pick (b2.W (a2.W hW)) hk b3 (nI j)
    · refine ⟨-1000, M, M, ?_, ?_, g.mono (by omega)⟩
      · rw [p1, b_i]; exact im (one_n0 _) (im hy rfl)
      · rw [p2, b_i]; exact im (one_n0 _) (im hy rfl)
/-- how often each number of ones comes, and the most -/
def cst (f : Nat → Nat) : Nat → (Nat → Nat) × Nat
  | 0 => (fun _ => 0, 0)
  | j + 1 => (fun i => if i = f j then (cst f j).1 i + 1 else (cst f j).1 i, max (cst f j).2 ((cst f j).1 (f j) + 1))
theorem cst_le (f : Nat → Nat) : ∀ j, (∀ i, (cst f j).1 i ≤ j) ∧ (cst f j).2 ≤ j := by
  intro j; induction j with
  | zero => exact ⟨fun _ => Nat.le_refl _, Nat.le_refl _⟩
  | succ j ih =>
    refine ⟨fun i => ?_, ?_⟩
    · show (if i = f j then (cst f j).1 i + 1 else (cst f j).1 i) ≤ j + 1
      have := ih.1 i
      by_cases q : i = f j
      · rw [if_pos q]; omega
      · rw [if_neg q]; omega
    · show max (cst f j).2 ((cst f j).1 (f j) + 1) ≤ j + 1
      have := ih.1 (f j)
      have := ih.2
      omega
theorem s_imax {M : Mem} {a b : Nat} (ha : a < 2 ^ 31) (hb : b < 2 ^ 31) : f_J9_max_7cf53 (nI a) (nI b) M = some (nI (max a b), M) := by
  unfold f_J9_max_7cf53 f_J9_max_7cf53_10
  by_cases h : a < b
  · rw [if_pos (nI_lt h hb), show max a b = b by omega]
  · rw [if_neg (nI_nlt (by omega) ha), show max a b = a by omega]
def ky (A : Nat → Nat) (l : List Nat) (t : Nat) (j : Nat) : Nat := A (t + 18 - lg l j)
theorem s_mostLeft {M : Mem} {A : Nat → Nat} {l : List Nat} {t : Nat} (hW : WRc M) (ht : t ≤ 100) (hl : l.length ≤ 19) (hs : ∀ k, k < l.length → lg l k < 19) (h6 : zI M 327 6 = nI l.length) (h3 : ∀ k, k < l.length → zI M 330 k = nI (lg l k) - 9) (hA : ∀ i, i < 119 → zI M 331 i = nI (A i) ∧ A i ≤ 63) : ∃ M', f_X9_mostLeft 327 (nI t) M = some (nI (cst (ky A l t) l.length).2, M') ∧ FR (fun a _ => a = 332) M M' := by
  obtain ⟨M1, a1, a2, a3⟩ := s_fill M (a := 332) (n := 64) (v := 0) rfl (by decide)
  have lp : ∀ e k f M0, k + e = l.length → FR (fun a _ => a = 332) M M0 → (∀ i, i < 64 → zI M0 332 i = nI ((cst (ky A l t) k).1 i)) → ∃ M', f_X9_mostLeft_12 327 (nI t) (e + 1 + f) (nI (cst (ky A l t) k).2) (nI k) M0 = some (nI (cst (ky A l t) l.length).2, M') ∧ FR (fun a _ => a = 332) M M' := by
    intro e
    induction e with
    | zero =>
      intro k f M0 ek fr h0
      have : k = l.length := by omega
      subst this
      exact ⟨M0, by rw [show 0 + 1 + f = f + 1 by omega, f_X9_mostLeft_12, fr.I (by omega), h6, if_pos (nI_le (Nat.le_refl _) (by omega))], fr⟩
    | succ e ih =>
      intro k f M0 ek fr h0
      have hs' := hs k (by omega)
      obtain ⟨q1, q2⟩ := hA (t + 18 - lg l k) (by omega)
      have hc := cst_le (ky A l t) k
      have hcv := hc.1 (ky A l t k)
      have hky : A (t + 18 - lg l k) = ky A l t k := rfl
      rw [hky] at q1 q2
      have fr1 : FR (fun a _ => a = 332) M (zsI M0 332 (ky A l t k) (nI ((cst (ky A l t) k).1 (ky A l t k) + 1))) := fr.sI rfl
      have st : f_X9_mostLeft_12 327 (nI t) (e + 1 + 1 + f) (nI (cst (ky A l t) k).2) (nI k) M0 = f_X9_mostLeft_12 327 (nI t) (e + 1 + f) (nI (cst (ky A l t) (k + 1)).2) (nI (k + 1)) (zsI M0 332 (ky A l t k) (nI ((cst (ky A l t) k).1 (ky A l t k) + 1))) := by
        have hW0 := fr.W hW
        have hW1 := fr1.W hW
        rw [show e + 1 + 1 + f = (e + 1 + f) + 1 by omega, f_X9_mostLeft_12, fr.I (by omega), h6, if_neg (nI_ge (by omega) (by omega)), w327_2 hW0, b_i, zl_at 19 rfl (by omega) (by decide), b_i, fr.I (by omega), h3 k (by omega)]
        unfold f_X9_onesBy
        rw [w327_3 hW0, b_i, ix9 (by omega), zl_at 119 rfl (by omega) (by decide), b_i, b_i]
        dsimp only
        rw [fr.I (by omega), q1, w327_4 hW0, b_i, zl_at 64 rfl (by omega) (by decide), b_i, b_i, b_i, h0 _ (by omega), nI_1, w327_4 hW1, b_i, zl_at 64 rfl (by omega) (by decide), b_i, zI_se, s_imax (by omega) (by omega), b_i, nI_1]
        rfl
      rw [st]
      refine ih (k + 1) f _ (by omega) fr1 (fun i hi => ?_)
      show _ = nI (if i = ky A l t k then (cst (ky A l t) k).1 i + 1 else (cst (ky A l t) k).1 i)
      by_cases q : i = ky A l t k
      · rw [if_pos q, q, zI_se]
      · rw [if_neg q, zI_sn _ _ (fun x => q x.2)]; exact h0 i hi
  obtain ⟨M', b1, b2⟩ := lp l.length 0 (1000000 - l.length - 1) M1 (by omega) a2 (fun i hi => a3 i hi)
  rw [show l.length + 1 + (1000000 - l.length - 1) = 1000000 by omega] at b1
  refine ⟨M', ?_, b2⟩
  unfold f_X9_mostLeft
  rw [w327_4 hW, b_i, a1, b_i]
  exact b1
theorem s_mostBy {M : Mem} {L : Nat → Bool} {p n t : Nat} {v : Nat → Nat} (hW : WRc M) (hp : p < 6) (hn : n ≤ 63) (ht : t ≤ 100) (h39 : zI M 355 39 = nI n) (hv : ∀ k, k < n → zI M 385 (64 * (6 * 0 + p) + k) = nI (v k) ∧ v k ≤ 99) (hL : ∀ s, s < 19 → zI M 392 s = b01 (L s)) : ∃ M', f_X12_mostBy 355 (nI p) (nI t) M = some (nI (cst (ky (al n v) (fls L 19) t) (fls L 19).length).2, M') ∧ FR (fun a _ => a = 393) M M' := by
  have lp : ∀ e k f M0, k + e = 19 → FR (fun a _ => a = 393) M M0 → (∀ i, i < 64 → zI M0 393 i = nI ((cst (ky (al n v) (fls L 19) t) (fls L k).length).1 i)) → ∃ M', f_X12_mostBy_26 355 (nI p) (nI t) (e + 1 + f) (nI (cst (ky (al n v) (fls L 19) t) (fls L k).length).2) (nI k) M0 = some (nI (cst (ky (al n v) (fls L 19) t) (fls L 19).length).2, M') ∧ FR (fun a _ => a = 393) M M' := by
    intro e
    induction e with
    | zero =>
      intro k f M0 ek fr h0
      have : k = 19 := by omega
      subst this
      exact ⟨M0, by rw [show 0 + 1 + f = f + 1 by omega, f_X12_mostBy_26, if_pos (by decide)], fr⟩
    | succ e ih =>
      intro k f M0 ek fr h0
      have hlen := fls_len L k
      have hc := cst_le (ky (al n v) (fls L 19) t) (fls L k).length
      have hW0 := fr.W hW
      rw [show e + 1 + 1 + f = (e + 1 + f) + 1 by omega, f_X12_mostBy_26, if_neg (show ¬ (19 : Int32) ≤ nI k from nI_ge (b := 19) (by omega) (by decide)), w355_72 hW0, b_i, zl_at 19 rfl (by omega) (by decide), b_i, fr.I (by omega), hL k (by omega)]
      unfold f_X12_mostBy_96 f_X12_mostBy_97
      cases h : L k with
      | false =>
        rw [if_pos b01_f, nI_1]
        have := ih (k + 1) f M0 (by omega) fr
        rw [fls_f h] at this
        exact this h0
      | true =>
        rw [if_neg b01_n0]
        obtain ⟨-, p2⟩ := fls_at h (show k < 19 by omega)
        have hky : al n v (t + 18 - k) = ky (al n v) (fls L 19) t (fls L k).length := by unfold ky; rw [p2]
        have rd := s_md9 (M := M0) (p := p) (n := n) (s := k) (t := t) (v := v) (fr.W hW) hp hn ((fr.I (by omega)).trans h39) (fun q hq => by rw [fr.I (by omega)]; exact hv q hq) (by omega) (by omega)
        have q2 := al_le hn v (t + 18 - k)
        rw [hky] at rd q2
        have hcv := hc.1 (ky (al n v) (fls L 19) t (fls L k).length)
        have fr1 : FR (fun a _ => a = 393) M (zsI M0 393 (ky (al n v) (fls L 19) t (fls L k).length) (nI ((cst (ky (al n v) (fls L 19) t) (fls L k).length).1 (ky (al n v) (fls L 19) t (fls L k).length) + 1))) := fr.sI rfl
        have hW1 := fr1.W hW
        have ih' := ih (k + 1) f (zsI M0 393 (ky (al n v) (fls L 19) t (fls L k).length) (nI ((cst (ky (al n v) (fls L 19) t) (fls L k).length).1 (ky (al n v) (fls L 19) t (fls L k).length) + 1))) (by omega) fr1
        rw [fls_t h, len_a] at ih'
        have ih' := ih' (fun i hi => by
          show _ = nI (if i = ky (al n v) (fls L 19) t (fls L k).length then (cst (ky (al n v) (fls L 19) t) (fls L k).length).1 i + 1 else (cst (ky (al n v) (fls L 19) t) (fls L k).length).1 i)
          by_cases q : i = ky (al n v) (fls L 19) t (fls L k).length
          · rw [if_pos q, q, zI_se]
          · rw [if_neg q, zI_sn _ _ (fun x => q x.2)]; exact h0 i hi)
        cases hr : f_X12_bitsBy 355 0 (nI p) (nI t) (nI k - 9) M0 with
        | none => rw [hr] at rd; exact absurd rd (by intro x; cases x)
        | some z =>
          rw [hr, b_i] at rd
          rw [b_i, rd, b_i]
          dsimp only
          rw [w355_73 hW0, b_i, zl_at 64 rfl (by omega) (by decide), b_i, b_i, b_i, h0 _ (by omega), nI_1, w355_73 hW1, b_i, zl_at 64 rfl (by omega) (by decide), b_i, zI_se]
          rw [show (cst (ky (al n v) (fls L 19) t) ((fls L k).length + 1)).2 = max (cst (ky (al n v) (fls L 19) t) (fls L k).length).2 ((cst (ky (al n v) (fls L 19) t) (fls L k).length).1 (ky (al n v) (fls L 19) t (fls L k).length) + 1) from rfl] at ih'
          by_cases q : (cst (ky (al n v) (fls L 19) t) (fls L k).length).1 (ky (al n v) (fls L 19) t (fls L k).length) + 1 ≤ (cst (ky (al n v) (fls L 19) t) (fls L k).length).2
          · rw [if_pos (nI_le q (by omega)), nI_1]
            rw [show max (cst (ky (al n v) (fls L 19) t) (fls L k).length).2 ((cst (ky (al n v) (fls L 19) t) (fls L k).length).1 (ky (al n v) (fls L 19) t (fls L k).length) + 1) = (cst (ky (al n v) (fls L 19) t) (fls L k).length).2 by omega] at ih'
            exact ih'
          · rw [if_neg (nI_ge (by omega) (by omega)), b_i, zl_at 64 rfl (by omega) (by decide), b_i, zI_se, nI_1]
            rw [show max (cst (ky (al n v) (fls L 19) t) (fls L k).length).2 ((cst (ky (al n v) (fls L 19) t) (fls L k).length).1 (ky (al n v) (fls L 19) t (fls L k).length) + 1) = (cst (ky (al n v) (fls L 19) t) (fls L k).length).1 (ky (al n v) (fls L 19) t (fls L k).length) + 1 by omega] at ih'
            exact ih'
  have lz : ∀ e k f M0, k + e = 64 → FR (fun a _ => a = 393) M M0 → (∀ i, i < k → zI M0 393 i = 0) → ∃ M', f_X12_mostBy_2 355 (nI p) (nI t) (e + 1 + f) (nI k) M0 = f_X12_mostBy_26 355 (nI p) (nI t) 1000000 0 0 M' ∧ FR (fun a _ => a = 393) M M' ∧ ∀ i, i < 64 → zI M' 393 i = 0 := by
    intro e
    induction e with
    | zero =>
      intro k f M0 ek fr h0
      have : k = 64 := by omega
      subst this
      exact ⟨M0, by rw [show 0 + 1 + f = f + 1 by omega, f_X12_mostBy_2, if_pos (by decide)], fr, h0⟩
    | succ e ih =>
      intro k f M0 ek fr h0
      rw [show e + 1 + 1 + f = (e + 1 + f) + 1 by omega, f_X12_mostBy_2, if_neg (show ¬ (64 : Int32) ≤ nI k from nI_ge (b := 64) (by omega) (by decide)), w355_73 (fr.W hW), b_i, zl_at 64 rfl (by omega) (by decide), b_i, b_i, nI_1]
      refine ih (k + 1) f _ (by omega) (fr.sI rfl) (fun i hi => ?_)
      by_cases q : i = k
      · rw [q, zI_se]
      · rw [zI_sn _ _ (fun x => q x.2)]; exact h0 i (by omega)
  obtain ⟨M1, a1, a2, a3⟩ := lz 64 0 (1000000 - 64 - 1) M (by decide) (FR.rf _ M) (fun i hi => absurd hi (by omega))
  rw [show 64 + 1 + (1000000 - 64 - 1) = 1000000 by rfl] at a1
  obtain ⟨M', b1, b2⟩ := lp 19 0 (1000000 - 19 - 1) M1 (by decide) a2 (fun i hi => a3 i hi)
  rw [show 19 + 1 + (1000000 - 19 - 1) = 1000000 by rfl] at b1
  refine ⟨M', ?_, b2⟩
  unfold f_X12_mostBy
  rw [show (0 : Int32) = nI 0 from rfl, a1]
  exact b1
