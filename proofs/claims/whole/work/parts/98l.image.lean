/-! calls: image -/
def IMc (M : Mem) (l : List Nat) : Prop := zI M 333 1 = nI l.length ∧ ∀ k, k < l.length → zI M 334 k = nI (lg l k)
def IMm (M : Mem) (l : List Nat) : Prop := zI M 355 75 = nI l.length ∧ ∀ k, k < l.length → zI M 394 k = nI (lg l k)
def Wic (a j : Nat) : Prop := (a = 333 ∧ j = 1) ∨ a = 334
def Wim (a j : Nat) : Prop := (a = 355 ∧ j = 75) ∨ a = 394
theorem len_a (l : List Nat) (b : Nat) : (l ++ [b]).length = l.length + 1 := by rw [List.length_append]; rfl
theorem s_iput {M : Mem} {l : List Nat} {b : Nat} (hW : WRc M) (hl : l.length < 441) (h : IMc M l) : ∃ M', f_X4_put 333 (nI b) M = some M' ∧ FR Wic M M' ∧ IMc M' (l ++ [b]) := by
  have fr : FR Wic M (zsI (zsI M 334 l.length (nI b)) 333 1 (nI (l.length + 1))) := FR.sI (FR.sI (FR.rf _ M) (by unfold Wic; omega)) (by unfold Wic; omega)
  refine ⟨_, ?_, fr, by rw [len_a]; exact zI_se _ _ _ _, fun k hk => ?_⟩
  · unfold f_X4_put f_X4_put_32
    rw [w333_0 hW, b_i, zlen_e (n := 441) rfl, h.1, if_neg (nI_ge hl (by decide)), b_i, zl_at 441 rfl hl (by decide), b_i, b_i, zI_sn _ _ (by omega), h.1, nI_1, b_i]
  · rw [len_a] at hk
    rw [zI_sn _ _ (by omega)]
    by_cases e : k = l.length
    · subst e; rw [zI_se, lg_r]
    · rw [zI_sn _ _ (by omega), lg_l (by omega)]; exact h.2 k (by omega)
theorem and255 {b : Nat} (hb : b < 256) : nI b &&& 255 = nI b := by
  rw [show (255 : Int32) = nI 255 from rfl, nI_and, show (255 : Nat) = 2 ^ 8 - 1 from rfl, Nat.and_two_pow_sub_one_eq_mod, Nat.mod_eq_of_lt (by omega)]
theorem s_writes {M : Mem} {l : List Nat} {b : Nat} {x : Int32} (hx : x &&& 255 = nI b) (hW : WRc M) (hl : l.length < 500) (h : IMm M l) : ∃ M', f_X12_writes 355 x M = some M' ∧ FR Wim M M' ∧ IMm M' (l ++ [b]) := by
  have fr : FR Wim M (zsI (zsI M 394 l.length (nI b)) 355 75 (nI (l.length + 1))) := FR.sI (FR.sI (FR.rf _ M) (by unfold Wim; omega)) (by unfold Wim; omega)
  refine ⟨_, ?_, fr, by rw [len_a]; exact zI_se _ _ _ _, fun k hk => ?_⟩
  · unfold f_X12_writes
    rw [w355_74 hW, b_i, h.1, zl_at 500 rfl hl (by decide), b_i, hx, b_i, zI_sn _ _ (by omega), h.1, nI_1, b_i]
  · rw [len_a] at hk
    rw [zI_sn _ _ (by omega)]
    by_cases e : k = l.length
    · subst e; rw [zI_se, lg_r]
    · rw [zI_sn _ _ (by omega), lg_l (by omega)]; exact h.2 k (by omega)
def lvB (r : RW) : Nat → List Nat
  | 0 => []
  | k + 1 => lvB r k ++ [r.2.2.2 k]
def wbB (w : Nat) : Nat → List Nat
  | 0 => []
  | k + 1 => wbB w k ++ [(w >>> (56 - 8 * k)) &&& 255]
def rowB (h : CH) (r : RW) : List Nat := if r.1 = true then [1, r.2.1] ++ wbB r.2.2.1 8 ++ lvB r (kN h) else [0]
def rwB (h : CH) (S : PSt) : Nat → List Nat
  | 0 => [S.1 >>> 8, S.1 &&& 255]
  | k + 1 => rwB h S k ++ rowB h (S.2 k)
theorem lvB_l (r : RW) : ∀ k, (lvB r k).length = k := by
  intro k; induction k with
  | zero => rfl
  | succ k ih => show (lvB r k ++ [r.2.2.2 k]).length = _; rw [len_a, ih]
theorem wbB_l (w : Nat) : ∀ k, (wbB w k).length = k := by
  intro k; induction k with
  | zero => rfl
  | succ k ih => show (wbB w k ++ [(w >>> (56 - 8 * k)) &&& 255]).length = _; rw [len_a, ih]
theorem rowB_l {h : CH} (v : CV h) (r : RW) : (rowB h r).length ≤ 73 := by
  have := v.n63
  unfold rowB
  by_cases e : r.1 = true
  · rw [if_pos e, List.length_append, List.length_append, wbB_l, lvB_l]; show 2 + 8 + kN h ≤ 73; omega
  · rw [if_neg e]; decide
theorem rwB_l {h : CH} (v : CV h) (S : PSt) : ∀ k, (rwB h S k).length ≤ 2 + 73 * k := by
  intro k; induction k with
  | zero => exact Nat.le_refl _
  | succ k ih =>
    show (rwB h S k ++ rowB h (S.2 k)).length ≤ _
    rw [List.length_append]
    have := rowB_l v (S.2 k)
    omega
theorem b255 (x : Nat) : x &&& 255 < 256 := by
  rw [show (255 : Nat) = 2 ^ 8 - 1 from rfl, Nat.and_two_pow_sub_one_eq_mod]; omega
theorem and2 (x : Nat) : (x &&& 255) &&& 255 = x &&& 255 := by rw [Nat.and_assoc, Nat.and_self]
theorem s_putRow {M : Mem} {c i : Nat} {h : CH} {r : RW} {l : List Nat} (hW : WRc M) (v : CV h) (hc : RQ c) (hr : CR M c (kN h) i r) (hV : RV (kM h) (kP h) (kT h) (kN h) r) (hl : l.length ≤ 367) (hI : IMc M l) : ∃ M', f_X4_putRow 333 c (nI (kN h)) M = some M' ∧ FR Wic M M' ∧ IMc M' (l ++ rowB h r) := by
  have hn := v.n63
  have hcb := rq_b hc
  have hfr : ∀ M0, FR Wic M M0 → CR M0 c (kN h) i r := fun M0 f => hr.fr f (fun j => by unfold Wic; omega) (fun j => by unfold Wic; omega)
  have lev : ∀ e k f M0 l0, r.1 = true → k + e = kN h → FR Wic M M0 → l0.length ≤ 377 → IMc M0 (l0 ++ lvB r k) → ∃ M', f_X4_putRow_62 333 c (nI (kN h)) (e + 1 + f) (nI k) M0 = some M' ∧ FR Wic M M' ∧ IMc M' (l0 ++ lvB r (kN h)) := by
    intro e
    induction e with
    | zero =>
      intro k f M0 l0 hw ek fr hl0 h0
      have : k = kN h := by omega
      subst this
      exact ⟨M0, by rw [show 0 + 1 + f = f + 1 by omega, f_X4_putRow_62, if_pos (nI_le (Nat.le_refl _) (by omega))], fr, h0⟩
    | succ e ih =>
      intro k f M0 l0 hw ek fr hl0 h0
      have hr0 := hfr M0 fr
      obtain ⟨M1, a1, a2, a3⟩ := s_iput (b := r.2.2.2 k) (fr.W hW) (by rw [List.length_append, lvB_l]; omega) h0
      rw [List.append_assoc] at a3
      obtain ⟨M2, b1, b2, b3⟩ := ih (k + 1) f M1 l0 hw (by omega) (fr.tr a2) hl0 a3
      exact ⟨M2, by rw [show e + 1 + 1 + f = (e + 1 + f) + 1 by omega, f_X4_putRow_62, if_neg (nI_ge (by omega) (by omega)), rq_0 (fr.W hW) hc, b_i, zl_at 63 (rq_s hc) (by omega) (by decide), b_i, (hr0.2.2 hw).2.2 k (by omega), a1, b_i, nI_1]; exact b1, b2, b3⟩
  have wrd : ∀ e k f M0 l0, r.1 = true → k + e = 8 → FR Wic M M0 → l0.length ≤ 369 → IMc M0 (l0 ++ wbB r.2.2.1 k) → ∃ M', f_X4_putRow_35 333 c (nI (kN h)) (e + 1 + f) (if k = 8 then -8 else nI (56 - 8 * k)) M0 = some M' ∧ FR Wic M M' ∧ IMc M' (l0 ++ wbB r.2.2.1 8 ++ lvB r (kN h)) := by
    intro e
    induction e with
    | zero =>
      intro k f M0 l0 hw ek fr hl0 h0
      have : k = 8 := by omega
      subst this
      obtain ⟨M2, b1, b2, b3⟩ := lev (kN h) 0 (1000000 - kN h - 1) M0 (l0 ++ wbB r.2.2.1 8) hw (by omega) fr (by rw [List.length_append, wbB_l]; omega) (by rw [show lvB r 0 = [] from rfl, List.append_nil]; exact h0)
      rw [show kN h + 1 + (1000000 - kN h - 1) = 1000000 by omega] at b1
      refine ⟨M2, ?_, b2, b3⟩
      rw [if_pos rfl, show 0 + 1 + f = f + 1 by omega, f_X4_putRow_35]
      exact ip (by decide) b1
    | succ e ih =>
      intro k f M0 l0 hw ek fr hl0 h0
      have hr0 := hfr M0 fr
      obtain ⟨v1, v2, v3, v4⟩ := hV hw
      have h64 : (2 : Nat) ^ kN h ≤ 2 ^ 63 := Nat.pow_le_pow_right (by decide) hn.1
      obtain ⟨M1, a1, a2, a3⟩ := s_iput (b := (r.2.2.1 >>> (56 - 8 * k)) &&& 255) (fr.W hW) (by rw [List.length_append, wbB_l]; omega) h0
      rw [List.append_assoc] at a3
      obtain ⟨M2, b1, b2, b3⟩ := ih (k + 1) f M1 l0 hw (by omega) (fr.tr a2) hl0 a3
      refine ⟨M2, ?_, b2, b3⟩
      rw [if_neg (by omega), show e + 1 + 1 + f = (e + 1 + f) + 1 by omega, f_X4_putRow_35, if_neg (nI_pos (by omega)), (hr0.2.2 hw).2.1, lN_ush (by omega) (by omega), show (255 : Int64) = lN 255 from rfl, lN_and, lN_i, a1, b_i]
      have : nI (56 - 8 * k) + (-8) = if k + 1 = 8 then -8 else nI (56 - 8 * (k + 1)) := by
        by_cases e8 : k + 1 = 8
        · rw [if_pos e8, show 56 - 8 * k = 0 by omega]; rfl
        · rw [if_neg e8, show (-8 : Int32) = -nI 8 from rfl, nI_s2 (k := 8) (by omega) rfl]; congr 1
      rw [this]
      exact b1
  unfold f_X4_putRow rowB
  rw [hr.2.1]
  cases hb : r.1 with
  | false =>
    obtain ⟨M1, a1, a2, a3⟩ := s_iput (b := 0) hW (by omega) hI
    refine ⟨M1, ?_, a2, by rw [if_neg (by decide)]; exact a3⟩
    refine ip b01_f ?_
    unfold f_X4_putRow_13
    rw [show (0 : Int32) = nI 0 from rfl, a1, b_i, (hfr M1 a2).2.1, hb]
    exact ip b01_f rfl
  | true =>
    rw [if_pos rfl]
    obtain ⟨M1, a1, a2, a3⟩ := s_iput (b := 1) hW (by omega) hI
    obtain ⟨M2, b1, b2, b3⟩ := s_iput (b := r.2.1) (a2.W hW) (by rw [len_a]; omega) a3
    obtain ⟨M3, d1, d2, d3⟩ := wrd 8 0 999991 M2 (l ++ [1, r.2.1]) hb rfl (a2.tr b2) (by rw [List.length_append]; show l.length + 2 ≤ 369; omega) (by
      rw [show wbB r.2.2.1 0 = [] from rfl, List.append_nil, show l ++ [1, r.2.1] = l ++ [1] ++ [r.2.1] by rw [List.append_assoc]; rfl]; exact b3)
    refine ⟨M3, ?_, d2, by rw [← List.append_assoc, ← List.append_assoc]; exact d3⟩
    refine im b01_n0 ?_
    unfold f_X4_putRow_13
    rw [show (1 : Int32) = nI 1 from rfl, a1, b_i, (hfr M1 a2).2.1, hb]
    refine im b01_n0 ?_
    rw [((hfr M1 a2).2.2 hb).1, b1, b_i]
    exact d1
def smB (l : List Nat) : Nat → Nat
  | 0 => 211
  | k + 1 => (5 * smB l k + lg l k) % 251
theorem smB_lt (l : List Nat) : ∀ k, smB l k < 251 := by
  intro k; cases k with
  | zero => exact (by decide : 211 < 251)
  | succ k => exact Nat.mod_lt _ (by decide)
theorem s_sum {M : Mem} {a n q : Nat} {l : Nat → Nat} (hs : (zSH a).2 = q) (hq : q ≤ 2000) (hn : n ≤ q) (hb : ∀ k, k < n → zI M a k = nI (l k)) (hl : ∀ k, k < n → l k < 256) (ll : List Nat) (hll : ∀ k, k < n → lg ll k = l k) : f_X4_sumOf a (nI n) M = some (nI (smB ll n), M) := by
  have lp : ∀ e k f, k + e = n → f_X4_sumOf_6 a (nI n) (e + 1 + f) (nI (smB ll k)) (nI k) M = some (nI (smB ll n), M) := by
    intro e
    induction e with
    | zero =>
      intro k f ek
      have : k = n := by omega
      subst this
      rw [show 0 + 1 + f = f + 1 by omega, f_X4_sumOf_6, if_pos (nI_le (Nat.le_refl _) (by omega))]; rfl
    | succ e ih =>
      intro k f ek
      have h1 := smB_lt ll k
      have h2 := hl k (by omega)
      rw [show e + 1 + 1 + f = (e + 1 + f) + 1 by omega, f_X4_sumOf_6, if_neg (nI_ge (by omega) (by omega)), zlen_e hs, if_neg (nI_ge (by omega) (by omega)), zl_at q hs (by omega) (by omega), b_i, hb k (by omega), show (5 : Int32) = nI 5 from rfl, pk_mul, nI_add, show (251 : Int32) = nI 251 from rfl, zrem_nI (by omega) (by decide) (by decide), nI_1, ← hll k (by omega)]
      exact ih (k + 1) f (by omega)
  have := lp n 0 (1000000 - n - 1) (by omega)
  rw [show n + 1 + (1000000 - n - 1) = 1000000 by omega] at this
  exact this
