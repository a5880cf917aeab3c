/-! checks of pages, cells, thresholds -/
theorem one_n0 (M : Mem) : ¬ ((1 : Int32), M).1 = 0 := (by decide : ¬ (1 : Int32) = 0)
theorem nin {x : Int32} {n : Nat} (hn : n < 2 ^ 31) (h : ¬ ∃ j, j < n ∧ x = nI j) : x < 0 ∨ nI n ≤ x := by
  rcases pk_ix x hn with q | q | q
  · exact Or.inl q
  · exact Or.inr q
  · exact absurd q h
theorem isP_t {M : Mem} {c0 j q : Nat} (hcur : zrf M 0 11 = some c0) (h14 : zI M 0 14 = 1) (hq : zI M c0 9 = nI q) (hq6 : q ≤ 6) (hj : j < q) : f_X11_isPage 0 (nI j) M = some (1, M) := by
  unfold f_X11_isPage f_X11_isPage_27
  rw [h14, if_neg (by decide), if_neg (nI_pos (by omega)), hcur, b_i, hq, if_neg (nI_ge hj (by omega)), zbz1]
theorem isP_f {M : Mem} {c0 q : Nat} {x : Int32} (hcur : zrf M 0 11 = some c0) (hq : zI M c0 9 = nI q) (hx : x < 0 ∨ nI q ≤ x) : f_X11_isPage 0 x M = some (0, M) := by
  unfold f_X11_isPage f_X11_isPage_26 f_X11_isPage_27
  rw [zbz0]
  by_cases h1 : zI M 0 14 = 0
  · rw [if_pos h1]
  · rw [if_neg h1]
    by_cases h2 : x < 0
    · rw [if_pos h2]
    · rw [if_neg h2, hcur, b_i, hq, if_pos (hx.resolve_left h2)]
theorem isP_o {M : Mem} {x : Int32} (h14 : zI M 0 14 = 0) : f_X11_isPage 0 x M = some (0, M) := by
  unfold f_X11_isPage f_X11_isPage_26 f_X11_isPage_27
  rw [h14, if_pos rfl, zbz0]
theorem mP_t {M : Mem} {bk j q : Nat} (hW : WRc M) (hbk : bk ≤ 1) (h13 : zI M 355 13 = nI bk) (h35 : zI M 355 35 = 1) (hq : zI M 358 bk = nI q) (hq6 : q ≤ 6) (hj : j < q) : f_X12_isPage 355 (nI j) M = some (1, M) := by
  unfold f_X12_isPage f_X12_isPage_29
  rw [h35, if_neg (by decide), if_neg (nI_pos (by omega)), w355_15 hW, b_i, h13, zl_at 2 rfl (by omega) (by decide), b_i, hq, if_neg (nI_ge hj (by omega)), zbz1]
theorem mP_f {M : Mem} {bk q : Nat} {x : Int32} (hW : WRc M) (hbk : bk ≤ 1) (h13 : zI M 355 13 = nI bk) (hq : zI M 358 bk = nI q) (hx : x < 0 ∨ nI q ≤ x) : f_X12_isPage 355 x M = some (0, M) := by
  unfold f_X12_isPage f_X12_isPage_28 f_X12_isPage_29
  rw [zbz0]
  by_cases h1 : zI M 355 35 = 0
  · rw [if_pos h1]
  · rw [if_neg h1]
    by_cases h2 : x < 0
    · rw [if_pos h2]
    · rw [if_neg h2, w355_15 hW, b_i, h13, zl_at 2 rfl (by omega) (by decide), b_i, hq, if_pos (hx.resolve_left h2)]
theorem mP_o {M : Mem} {x : Int32} (h35 : zI M 355 35 = 0) : f_X12_isPage 355 x M = some (0, M) := by
  unfold f_X12_isPage f_X12_isPage_28 f_X12_isPage_29
  rw [h35, if_pos rfl, zbz0]
section
variable {M : Mem} {c0 : Nat} {h : CH} {S : PSt} {T c s : Nat} {E : Nat → Nat → Nat} {sv : Nat → PSt × Nat}
theorem LD.cur (l : LD M c0 h S T E c sv) : zrf M 0 11 = some c0 := l.1
theorem LD.cc (l : LD M c0 h S T E c sv) : CC M c0 h := l.2.1
theorem LD.mc (l : LD M c0 h S T E c sv) : MC M h := l.2.2.1
theorem LD.on (l : LD M c0 h S T E c sv) : zI M 0 14 = 1 ∧ zI M 355 35 = 1 := l.2.2.2.1
theorem LD.cp (l : LD M c0 h S T E c sv) : CP M 13 (kN h) S := l.2.2.2.2.1
theorem LD.mp (l : LD M c0 h S T E c sv) : MP M 0 (kN h) S := l.2.2.2.2.2.1
theorem LD.hc (l : LD M c0 h S T E c sv) : HC M (kN h) T E c sv := l.2.2.2.2.2.2.1
theorem LD.hm (l : LD M c0 h S T E c sv) : HM M (kN h) T E c sv := l.2.2.2.2.2.2.2.1
theorem LD.dk (l : LD M c0 h S T E c sv) : DKh M h := l.2.2.2.2.2.2.2.2.1
theorem LD.kc (l : LD M c0 h S T E c sv) : KC M c0 h := l.2.2.2.2.2.2.2.2.2
theorem LD.bk (l : LD M c0 h S T E c sv) : ∃ bk, bk ≤ 1 ∧ zI M 355 13 = nI bk ∧ zI M 358 bk = nI (kQ h) := by
  obtain ⟨bk, ⟨a, b, -⟩, -, d, -⟩ := l.mc
  exact ⟨bk, a, b, d⟩
theorem pgT (hW : WRc M) (l : LD M c0 h S T E c sv) (v : CV h) {j : Nat} (hj : j < kQ h) : f_X11_isPage 0 (nI j) M = some (1, M) ∧ f_X12_isPage 355 (nI j) M = some (1, M) := by
  obtain ⟨bk, b1, b2, b3⟩ := l.bk
  exact ⟨isP_t l.cur l.on.1 l.cc.q v.q hj, mP_t hW b1 b2 l.on.2 b3 v.q hj⟩
theorem pgF (hW : WRc M) (l : LD M c0 h S T E c sv) {x : Int32} (hx : x < 0 ∨ nI (kQ h) ≤ x) : f_X11_isPage 0 x M = some (0, M) ∧ f_X12_isPage 355 x M = some (0, M) := by
  obtain ⟨bk, b1, b2, b3⟩ := l.bk
  exact ⟨isP_f l.cur l.cc.q hx, mP_f hW b1 b2 b3 hx⟩
theorem wrT (hW : WRc M) (l : LD M c0 h S T E c sv) (v : CV h) {j : Nat} (hj : j < kQ h) (hw : (S.2 j).1 = true) : f_X11_isWritten 0 (nI j) M = some (1, M) ∧ f_X12_isThere 355 (nI j) M = some (1, M) := by
  have hq := v.q
  obtain ⟨p1, p2⟩ := pgT hW l v hj
  constructor
  · unfold f_X11_isWritten f_X11_isWritten_28
    rw [p1, b_i, if_neg (one_n0 M)]
    dsimp only
    rw [w0_5 hW, b_i, pq_0 hW (Or.inl rfl : PQ 13), b_i, zl_at 6 (pq_get (Or.inl rfl)).2.1 (by omega) (by decide), b_i, pq_1 hW (Or.inl rfl : PQ 13) (by omega), b_i, (l.cp.2 j (by omega)).2.1, hw, if_neg b01_n0, zbz1]
  · unfold f_X12_isThere f_X12_isThere_23
    rw [p2, b_i, if_neg (one_n0 M)]
    dsimp only
    have := (l.mp.2 j (by omega)).1
    rw [Nat.mul_zero, Nat.zero_add] at this
    rw [w355_56 hW, b_i, zl_at 132 rfl (by omega) (by decide), b_i, this, hw, if_pos b01_t, zbz1]
theorem wrF (hW : WRc M) (l : LD M c0 h S T E c sv) (v : CV h) {x : Int32} (hx : ¬ ∃ j, j < kQ h ∧ x = nI j ∧ (S.2 j).1 = true) : f_X11_isWritten 0 x M = some (0, M) ∧ f_X12_isThere 355 x M = some (0, M) := by
  have hq := v.q
  unfold f_X11_isWritten f_X11_isWritten_27 f_X11_isWritten_28 f_X12_isThere f_X12_isThere_22 f_X12_isThere_23
  by_cases hp : ∃ j, j < kQ h ∧ x = nI j
  · obtain ⟨j, hj, e⟩ := hp
    subst e
    have hw : (S.2 j).1 = false := by
      cases hb : (S.2 j).1 with
      | false => rfl
      | true => exact absurd ⟨j, hj, rfl, hb⟩ hx
    obtain ⟨p1, p2⟩ := pgT hW l v hj
    have := (l.mp.2 j (by omega)).1
    rw [Nat.mul_zero, Nat.zero_add] at this
    rw [p1, b_i, if_neg (one_n0 M), p2, b_i, if_neg (one_n0 M)]
    dsimp only
    rw [w0_5 hW, b_i, pq_0 hW (Or.inl rfl : PQ 13), b_i, zl_at 6 (pq_get (Or.inl rfl)).2.1 (by omega) (by decide), b_i, pq_1 hW (Or.inl rfl : PQ 13) (by omega), b_i, (l.cp.2 j (by omega)).2.1, hw, if_pos b01_f, zbz0, w355_56 hW, b_i, zl_at 132 rfl (by omega) (by decide), b_i, this, hw, if_neg (by decide)]
    exact ⟨rfl, rfl⟩
  · obtain ⟨p1, p2⟩ := pgF hW l (nin (by omega) hp)
    rw [p1, b_i, p2, b_i]
    exact ⟨ip rfl (zbz0 _), ip rfl (zbz0 _)⟩
theorem wrO {x : Int32} (o : OFF M) : f_X11_isWritten 0 x M = some (0, M) ∧ f_X12_isThere 355 x M = some (0, M) := by
  unfold f_X11_isWritten f_X11_isWritten_27 f_X11_isWritten_28 f_X12_isThere f_X12_isThere_22 f_X12_isThere_23
  rw [isP_o o.1.1, b_i, mP_o o.1.2, b_i]
  exact ⟨ip rfl (zbz0 _), ip rfl (zbz0 _)⟩
end
/-- a page that is written, or both say that none is -/
theorem wcase {M : Mem} {s : Nat} (g : Inv M s) (x : Int32) : (f_X11_isWritten 0 x M = some (0, M) ∧ f_X12_isThere 355 x M = some (0, M)) ∨ ∃ c0 h S T E c sv j, LD M c0 h S T E c sv ∧ LV h S T c sv ∧ T ≤ s ∧ x = nI j ∧ j < kQ h ∧ (S.2 j).1 = true := by
  rcases g.st with ⟨c0, h, S, T, E, c, sv, l, lv, hT⟩ | o
  · by_cases hx : ∃ j, j < kQ h ∧ x = nI j ∧ (S.2 j).1 = true
    · obtain ⟨j, h1, h2, h3⟩ := hx
      exact Or.inr ⟨c0, h, S, T, E, c, sv, j, l, lv, hT, h2, h1, h3⟩
    · exact Or.inl (wrF g.rst.W l lv.1 hx)
  · exact Or.inl (wrO o)
theorem s_isN {M : Mem} {x xl xh : Int32} {n : Nat} (hl : xl = 0) (hh : xh = nI n) (hn : n < 2 ^ 30) : ((∃ j, j ≤ n ∧ x = nI j) ∧ f_X12_is x xl xh M = some (1, M)) ∨ ((x < 0 ∨ nI (n + 1) ≤ x) ∧ f_X12_is x xl xh M = some (0, M)) := by
  subst hl; subst hh
  unfold f_X12_is f_X12_is_14 f_X12_is_15
  rcases pk_ix x (n := n + 1) (by omega) with q | q | ⟨j, hj, e⟩
  · exact Or.inr ⟨Or.inl q, by rw [if_pos q, zbz0]⟩
  · refine Or.inr ⟨Or.inr q, ?_⟩
    have h0 : ¬ x < 0 := fun z => by
      have h1 := Int32.le_iff_toInt_le.mp q
      have h2 := Int32.lt_iff_toInt_lt.mp z
      rw [nI_toInt (by omega)] at h1
      have h3 : (0 : Int32).toInt = 0 := rfl
      omega
    obtain ⟨k, hk, e⟩ := nI_of h0
    subst e
    have := (nI_leI (by omega) hk).mp q
    rw [if_neg h0, if_pos (nI_lt (by omega) hk), zbz0]
  · subst e
    exact Or.inl ⟨⟨j, by omega, rfl⟩, by rw [if_neg (nI_pos (by omega)), if_neg (nI_nlt (by omega) (by omega)), zbz1]⟩
theorem rdT {M : Mem} {c0 : Nat} {h : CH} {S : PSt} {T c : Nat} {E : Nat → Nat → Nat} {sv : Nat → PSt × Nat} (hW : WRc M) (l : LD M c0 h S T E c sv) (v : CV h) {j a : Nat} (hj : j < kQ h) (hw : (S.2 j).1 = true) (ha : a ≤ 100) : f_X11_isRead 0 (nI j) (nI a) M = some (1, M) ∧ f_X12_isRead 355 (nI j) (nI a) M = some (1, M) := by
  obtain ⟨p1, p2⟩ := wrT hW l v hj hw
  unfold f_X11_isRead f_X11_isRead_23 f_X12_isRead f_X12_isRead_23
  rw [p1, b_i, p2, b_i]
  constructor
  · refine im (show ¬ (1 : Int32) = 0 by decide) ?_
    refine im (nI_pos (by omega)) ?_
    refine im (show ¬ (100 : Int32) < nI a from nI_nlt (a := 100) ha (by decide)) ?_
    rw [zbz1]
  · refine im (show ¬ (1 : Int32) = 0 by decide) ?_
    dsimp only
    rcases s_isN (M := M) (x := nI a) (xl := 0) (xh := 100) (n := 100) rfl rfl (by decide) with ⟨-, q⟩ | ⟨q, -⟩
    · rw [q, b_i]
      refine im (show ¬ (1 : Int32) = 0 by decide) ?_
      rw [zbz1]
    · rcases q with q | q
      · exact absurd q (nI_pos (by omega))
      · exact absurd q (nI_ge (by omega) (by decide))
theorem rcase {M : Mem} {s : Nat} (g : Inv M s) (x y : Int32) : (f_X11_isRead 0 x y M = some (0, M) ∧ f_X12_isRead 355 x y M = some (0, M)) ∨ ∃ c0 h S T E c sv j a, LD M c0 h S T E c sv ∧ LV h S T c sv ∧ T ≤ s ∧ x = nI j ∧ j < kQ h ∧ (S.2 j).1 = true ∧ y = nI a ∧ a ≤ 100 := by
  rcases wcase g x with ⟨p1, p2⟩ | ⟨c0, h, S, T, E, c, sv, j, l, lv, hT, e, hj, hw⟩
  · left
    unfold f_X11_isRead f_X11_isRead_22 f_X11_isRead_23 f_X12_isRead f_X12_isRead_22 f_X12_isRead_23
    rw [p1, b_i, p2, b_i]
    exact ⟨ip rfl (zbz0 _), ip rfl (zbz0 _)⟩
  · obtain ⟨p1, p2⟩ := wrT g.rst.W l lv.1 hj hw
    subst e
    rcases s_isN (M := M) (x := y) (xl := 0) (xh := 100) (n := 100) rfl rfl (by decide) with ⟨⟨a, ha, e⟩, q⟩ | ⟨q, q2⟩
    · exact Or.inr ⟨c0, h, S, T, E, c, sv, j, a, l, lv, hT, rfl, hj, hw, e, ha⟩
    · left
      unfold f_X11_isRead f_X11_isRead_22 f_X11_isRead_23 f_X12_isRead f_X12_isRead_22 f_X12_isRead_23
      rw [p1, b_i, p2, b_i]
      constructor
      · refine im (show ¬ (1 : Int32) = 0 by decide) ?_
        by_cases h1 : y < 0
        · exact ip h1 (zbz0 _)
        · refine im h1 (ip ?_ (zbz0 _))
          obtain ⟨k, hk, e⟩ := nI_of h1
          subst e
          have := (nI_leI (by decide) hk).mp (q.resolve_left h1)
          exact nI_lt (a := 100) (by omega) hk
      · refine im (show ¬ (1 : Int32) = 0 by decide) ?_
        dsimp only
        rw [q2, b_i]
        exact ip rfl (zbz0 _)
