/-! chip: a sum or a test, read by both -/
section
variable {b : Nat → Nat} {z : Nat} {w : Bool} {bi n p : Nat} {M : Mem}
def rdS (w : Bool) : Nat := if w = true then 0 else 5
/-- what the model's reads needs -/
theorem m_reads {x : Int32} (hx : x = b01 (!w)) (h : MTk b z M p) (h21 : zI M 355 21 = nI n) (h22 : zI M 355 22 = nI bi) (hbi : bi ≤ 1) (h23 : zI M 355 23 = b01 (!w)) (hn : n ≤ p) : (∀ e, rd b z w 120 (rdS w) 0 p [] = .inl e → ∃ M', f_X12_reads 355 x M = some M' ∧ FLT bi n M M' e) ∧ (∀ y, rd b z w 120 (rdS w) 0 p [] = .inr y → (tK (tok b z y.1) = 4 → ∃ M', f_X12_reads 355 x M = some M' ∧ FLT bi n M M' (1, tBd (tok b z y.1))) ∧ (tK (tok b z y.1) ≤ 3 → ∃ M', f_X12_reads 355 x M = some M' ∧ FR (Wmp bi n) M M' ∧ MTk b z M' y.1 ∧ zI M' 355 21 = nI (n + y.2.length) ∧ PRM M' (1600 * bi + n) y.2 ∧ n + y.2.length ≤ y.1)) := by
  have hz := h.1.1.2.1
  have hW := h.1.1.1
  have g0 : FR (fun y j => y = 355 ∧ (j = 29 ∨ j = 30 ∨ j = 32 ∨ j = 33)) M (zsI (zsI (zsI (zsI M 355 29 0) 355 30 0) 355 32 0) 355 33 0) := FR.sI (FR.sI (FR.sI (FR.sI (FR.rf (fun y j => y = 355 ∧ (j = 29 ∨ j = 30 ∨ j = 32 ∨ j = 33)) M) (by omega)) (by omega)) (by omega)) (by omega)
  have e29 : zI (zsI (zsI (zsI (zsI M 355 29 0) 355 30 0) 355 32 0) 355 33 0) 355 29 = 0 := by rw [zI_sn _ _ (by omega), zI_sn _ _ (by omega), zI_sn _ _ (by omega), zI_se]
  have e30 : zI (zsI (zsI (zsI (zsI M 355 29 0) 355 30 0) 355 32 0) 355 33 0) 355 30 = 0 := by rw [zI_sn _ _ (by omega), zI_sn _ _ (by omega), zI_se]
  have e32 : zI (zsI (zsI (zsI (zsI M 355 29 0) 355 30 0) 355 32 0) 355 33 0) 355 32 = 0 := by rw [zI_sn _ _ (by omega), zI_se]
  have e33 : zI (zsI (zsI (zsI (zsI M 355 29 0) 355 30 0) 355 32 0) 355 33 0) 355 33 = 0 := zI_se _ _ _ _
  have run0 : f_X12_reads 355 x M = f_X12_reads_38 355 x 355 (b01 (!w)) (zsI (zsI (zsI (zsI M 355 29 0) 355 30 0) 355 32 0) 355 33 0) := by
    unfold f_X12_reads
    rw [h.2, if_pos (by decide), b_i, b_i, b_i, b_i, hx]
    cases w with
    | true => exact if_pos rfl
    | false => exact if_neg (by decide)
  revert g0 e29 e30 e32 e33 run0
  generalize zsI (zsI (zsI (zsI M 355 29 0) 355 30 0) 355 32 0) 355 33 0 = M0
  intro g0 e29 e30 e32 e33 run0
  have t0 : MTk b z M0 p := h.fr g0 (fun j _ => by omega) (fun j => by omega)
  have q0 : MQz w bi n M0 [] 0 [] := ⟨⟨g0.W hW, e29, e30, e32⟩, ⟨(g0.I (by omega)).trans h22, hbi⟩, ⟨(g0.I (by omega)).trans h21, True.intro⟩, (g0.I (by omega)).trans h23, True.intro⟩
  obtain ⟨kd, hkd, hk2, ht6⟩ : ∃ kd, b01 (!w) = nI kd ∧ kd < 2 ∧ tst6 kd = !w := by
    cases w with
    | true => exact ⟨0, rfl, by decide, rfl⟩
    | false => exact ⟨1, rfl, by decide, rfl⟩
  obtain ⟨M1, a1, a2, a3, a4, -⟩ := m_push (kd := kd) (x := b01 (!w)) q0 hkd (by decide)
  have q1 := a4 (by unfold isP6; omega)
  have t1 : MTk b z M1 p := t0.fr a2 (fun j _ => by omega) (fun j => by omega)
  have st : MSt b z w bi n M1 [(kd, 0, true, 0, [])] 0 [] p false := ⟨t1, (a2.I (by omega)).trans e33, q1, by rw [List.length_cons, List.length_nil]; decide, by rw [tot_c]; decide, by decide, by rw [wtf_c, List.length_nil]; show n + 0 + (0 + pw1 kd + 0) ≤ p; rw [show pw1 kd = 0 by unfold pw1; rw [if_neg (by omega)]]; omega⟩
  have F1 : FR (Wmp bi n) M M1 := (g0.mo (fun x j z => by unfold Wmp; omega)).tr (a2.mo (fun x j z => by unfold Wmp; omega))
  have run1 : f_X12_reads 355 x M = f_X12_reads_43 355 x 1000000 1 M1 := by
    rw [run0]
    unfold f_X12_reads_38
    rw [a1, b_i]
  have sr : SR b z w bi n x M1 kd 0 [] [] 0 p 1 12 (fun ph' p' => ph' < 10 ∧ (2 ≤ ph' ∨ (osm (tok b z p') = 0 ∧ opr (tok b z p') = 0)) ∧ (tst6 kd = true → ¬ ph' = 0 ∧ isOw (tok b z p') 22 = false ∧ isOw (tok b z p') 21 = false)) (rd b z w 120 (rdS w) 0 p []) := by
    have s := sim_rd (b := b) (z := z) (w := w) (bi := bi) (a := n) (x1 := x) 120 0 p [] M1 kd 0 true 0 [] [] st (by omega) (by decide) (by decide)
    cases w with
    | true =>
      have k0 : tst6 kd = false := ht6
      exact (s.1 (by decide) (fun e => by (rw [k0] at e; cases e)) HBo.n (by decide)).wk (by decide) (by decide) (fun u v q => ⟨by rw [q.1]; decide, Or.inr q.2, fun e => by (rw [k0] at e; cases e)⟩)
    | false =>
      have k1 : tst6 kd = true := ht6
      exact (s.2.2.2.2.1 (by decide) k1 rfl rfl rfl (by decide)).wk (by decide) (by decide) (fun u v q => ⟨q.1.1.2.1, q.1.1.2.2, fun _ => ⟨q.1.1.1, q.1.2, q.2⟩⟩)
  have bd : ∀ e N, N + p ≤ z + 2 → BDs bi n x M1 N e → ∃ M', f_X12_reads 355 x M = some M' ∧ FLT bi n M M' e := fun e N hN ⟨M', h1, h2⟩ => by
    refine ⟨M', ?_, h2.fr F1⟩
    rw [run1, show 1000000 = N + (1000000 - N) by omega]
    exact h1 _
  constructor
  · intro e he
    rw [he] at sr
    obtain ⟨N, s1, s2⟩ := sr
    exact bd e N s1 s2
  · intro y hy
    rw [hy] at sr
    obtain ⟨N, pend, ph', csm, s1, ⟨M2, s2, s3, s4⟩, s5, s6, s7, s8, s9, s10⟩ := sr
    rw [List.append_nil, Nat.zero_add] at s4
    have pz := s4.pz
    refine ⟨fun k4 => ?_, fun k3 => ?_⟩
    · exact bd _ (N + 2) (by omega) (OKs.bd s2 s3 (go_bad4 s4 k4))
    · obtain ⟨M3, c1, c2, c3, c4⟩ := go_fin (x1 := x) s4 hk2 s8 k3 s9 s10 s6 (Nat.le_refl _)
      rw [s5] at c4
      have hw := s4.2.2.2.2.2.2
      rw [wtf_c] at hw
      refine ⟨M3, ?_, F1.tr (s3.tr c2), c3, c4.2.2.1.1, c4.2.2.1.2, by rw [← s5, List.length_append, emt_len]; omega⟩
      rw [run1, show 1000000 = (N + 2) + (1000000 - (N + 2)) by omega]
      exact (s2.en c1) _
end
