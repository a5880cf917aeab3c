/-! calls: patterns, counted by the model -/
section
variable {M : Mem} {h : CH}
def cls (h : CH) (w : Nat) : Nat := if kCa h w = 0 then (if kRs h w = 0 then 0 else 1) else 2
def ic (h : CH) (w v : Nat) : Nat := if cls h w = v then 1 else 0
def CNT (M : Mem) (cnt : Nat → Nat) : Prop := ∀ v, v < 3 → zI M 380 v = nI (cnt v)
def Wpt (a j : Nat) : Prop := Wrb a j ∨ a = 380
def MDh (M : Mem) (h : CH) : Prop := MD M (kM h) (kP h) (kT h) (kN h)
theorem MDh.pt {M1 : Mem} (d : MDh M h) (f : FR Wpt M M1) : MDh M1 h := MD.fr d f (by unfold Wpt Wrb; omega) (by unfold Wpt Wrb; omega) (by unfold Wpt Wrb; omega) (fun j => ⟨by unfold Wpt Wrb; omega, by unfold Wpt Wrb; omega, by unfold Wpt Wrb; omega⟩)
theorem s_counts (hW : WRc M) (v : CV h) (d : MDh M h) {w : Nat} (hw : w < 2 ^ kN h) {cnt : Nat → Nat} (k : CNT M cnt) : ∃ M', f_X12_counts 355 (lN w) M = some M' ∧ FR Wpt M M' ∧ CNT M' (fun v => cnt v + ic h w v) := by
  have h64 : (2 : Nat) ^ kN h ≤ 2 ^ 63 := Nat.pow_le_pow_right (by decide) v.n63.1
  obtain ⟨M1, a1, a2, a3⟩ := s_readsBits hW d hw
  have k1 : CNT M1 cnt := fun x hx => (a2.I (by unfold Wrb; omega)).trans (k x hx)
  have a2 : FR Wpt M M1 := a2.mo (fun a j q => Or.inl q)
  have hR : zL M1 355 53 = lN (kRs h w) := a3.1
  have hRl : kRs h w < 2 ^ 63 := by
    by_cases q : kCa h w = 0
    · exact Nat.lt_of_lt_of_le (dec_ok v.pr hw q).2.1 h64
    · unfold kRs dRs
      rw [if_neg (show ¬ dCa (kM h) (kP h) (kT h) (kN h) w = 0 from q)]; omega
  have fin : ∀ i, i < 3 → cls h w = i → ∃ M', f_X12_counts_32 355 (lN w) 380 (nI i) M1 = some M' ∧ FR Wpt M M' ∧ CNT M' (fun v => cnt v + ic h w v) := fun i hi e => by
    refine ⟨zsI M1 380 i (nI (cnt i) + 1), ?_, a2.sI (Or.inr rfl), fun x hx => ?_⟩
    · unfold f_X12_counts_32
      rw [zl_at 3 rfl hi (by decide), b_i, b_i, b_i, k1 i hi]
    · unfold ic
      dsimp only
      by_cases q : x = i
      · subst q
        rw [zI_se, if_pos e, nI_1]
      · rw [zI_sn _ _ (by omega), if_neg (by omega), Nat.add_zero]; exact k1 x hx
  unfold f_X12_counts
  rw [a1, b_i]
  dsimp only
  rw [w355_54 (a2.W hW), b_i, hR]
  by_cases q : kCa h w = 0
  · have q' : dCa (kM h) (kP h) (kT h) (kN h) w = 0 := q
    rw [q', if_pos (show nI 0 ≤ 0 by decide)]
    by_cases q2 : kRs h w = 0
    · rw [if_pos ((lc_e _ hRl).mpr q2)]
      exact fin 0 (by decide) (by unfold cls; rw [if_pos q, if_pos q2])
    · rw [if_neg (fun z => q2 ((lc_e _ hRl).mp z))]
      exact fin 1 (by decide) (by unfold cls; rw [if_pos q, if_neg q2])
  · rw [if_neg (show ¬ nI (dCa (kM h) (kP h) (kT h) (kN h) w) ≤ 0 from nI_nle (Nat.pos_of_ne_zero q) (kCa_lt h w))]
    exact fin 2 (by decide) (by unfold cls; rw [if_neg q])
theorem or_x {b x : Nat} (hx : x < 2 ^ b) : x ||| 2 ^ b = 2 ^ b ^^^ x := by
  rw [Nat.or_comm, ← Nat.one_shiftLeft, or_lo hx]
def pf3 (h : CH) (a b v c : Nat) : Nat := if b < c then ic h (2 ^ c ^^^ 2 ^ b ^^^ 2 ^ a) v else 0
theorem s_p119 {k57 : Int32 → Mem → Option (Int32 × Mem)} {k82 : Int32 → Int32 → Mem → Option (Int32 × Mem)} {x2 : Int32} (v : CV h) {a b : Nat} {A : Nat → Nat} (hab : a < b) : ∀ e c f M, c + e = kN h → b < c → WRc M → MDh M h → CNT M (fun v => A v + nsm c (pf3 h a b v)) → ∃ M', f_X12_patterns_119 k57 k82 355 3 x2 (e + 1 + f) (nI a) (nI b) (nI c) M = k82 (nI a) (nI (b + 1)) M' ∧ FR Wpt M M' ∧ CNT M' (fun v => A v + nsm (kN h) (pf3 h a b v)) := by
  have hn := v.n63
  intro e
  induction e with
  | zero =>
    intro c f M hc hb hW d k
    have hc : c = kN h := by omega
    subst hc
    refine ⟨M, ?_, FR.rf _ M, k⟩
    rw [show 0 + 1 + f = f + 1 by omega, f_X12_patterns_119, d.2.2.1]
    refine ip (nI_le (by omega) (by omega)) ?_
    unfold f_X12_patterns_156
    rw [nI_1]
  | succ e ih =>
    intro c f M hc hb hW d k
    have hw : 2 ^ c ^^^ 2 ^ b ^^^ 2 ^ a < 2 ^ kN h := Nat.xor_lt_two_pow (Nat.xor_lt_two_pow (b2_lt (by omega)) (b2_lt (by omega))) (b2_lt (by omega))
    obtain ⟨M1, a1, a2, a3⟩ := s_counts hW v d hw k
    obtain ⟨M', b1, b2, b3⟩ := ih (c + 1) f M1 (by omega) (by omega) (a2.W hW) (d.pt a2) (fun x hx => by
      refine (a3 x hx).trans ?_
      show nI (A x + nsm c (pf3 h a b x) + ic h (2 ^ c ^^^ 2 ^ b ^^^ 2 ^ a) x) = nI (A x + (nsm c (pf3 h a b x) + pf3 h a b x c))
      rw [show pf3 h a b x c = ic h (2 ^ c ^^^ 2 ^ b ^^^ 2 ^ a) x from if_pos hb, Nat.add_assoc])
    refine ⟨M', ?_, a2.tr b2, b3⟩
    rw [show e + 1 + 1 + f = (e + 1 + f) + 1 by omega, f_X12_patterns_119, d.2.2.1]
    refine im (nI_ge (by omega) (by omega)) (im (by decide) ?_)
    rw [lN_bit (by omega), lN_bit (by omega), lN_bit (by omega), lN_or, lN_or, or_x (b2_lt hab), or_x (Nat.xor_lt_two_pow (b2_lt hb) (b2_lt (by omega))), ← Nat.xor_assoc, a1, b_i, nI_1]
    exact b1
def pf2 (h : CH) (n' a v b : Nat) : Nat := if a < b then (if n' = 2 then ic h (2 ^ b ^^^ 2 ^ a) v else nsm (kN h) (pf3 h a b v)) else 0
theorem pf3_0 (a b x : Nat) : nsm (b + 1) (pf3 h a b x) = 0 := by
  exact (nsx (f := pf3 h a b x) (g := fun _ => 0) (fun i hi => if_neg (by omega))).trans (nsm_z _)
theorem s_p82 {k57 : Int32 → Mem → Option (Int32 × Mem)} {x2 : Int32} (v : CV h) {n' a : Nat} {A : Nat → Nat} (hn' : n' = 2 ∨ n' = 3) : ∀ e b f M, b + e = kN h → a < b → WRc M → MDh M h → CNT M (fun v => A v + nsm b (pf2 h n' a v)) → ∃ M', f_X12_patterns_82 k57 355 (nI n') x2 (e + 1 + f) (nI a) (nI b) M = k57 (nI (a + 1)) M' ∧ FR Wpt M M' ∧ CNT M' (fun v => A v + nsm (kN h) (pf2 h n' a v)) := by
  have hn := v.n63
  intro e
  induction e with
  | zero =>
    intro b f M hc hb hW d k
    have hc : b = kN h := by omega
    subst hc
    refine ⟨M, ?_, FR.rf _ M, k⟩
    rw [show 0 + 1 + f = f + 1 by omega, f_X12_patterns_82, d.2.2.1]
    refine ip (nI_le (by omega) (by omega)) ?_
    unfold f_X12_patterns_162
    rw [nI_1]
  | succ e ih =>
    intro b f M hc hb hW d k
    rw [show e + 1 + 1 + f = (e + 1 + f) + 1 by omega, f_X12_patterns_82, d.2.2.1]
    rcases hn' with e2 | e3
    · subst e2
      have hw : 2 ^ b ^^^ 2 ^ a < 2 ^ kN h := Nat.xor_lt_two_pow (b2_lt (by omega)) (b2_lt (by omega))
      obtain ⟨M1, a1, a2, a3⟩ := s_counts hW v d hw k
      obtain ⟨M', b1, b2, b3⟩ := ih (b + 1) f M1 (by omega) (by omega) (a2.W hW) (d.pt a2) (fun x hx => by
        refine (a3 x hx).trans ?_
        show nI (A x + nsm b (pf2 h 2 a x) + ic h (2 ^ b ^^^ 2 ^ a) x) = nI (A x + (nsm b (pf2 h 2 a x) + pf2 h 2 a x b))
        rw [show pf2 h 2 a x b = ic h (2 ^ b ^^^ 2 ^ a) x from if_pos hb, Nat.add_assoc])
      refine ⟨M', ?_, a2.tr b2, b3⟩
      refine im (nI_ge (by omega) (by omega)) (im (by decide) (ip rfl ?_))
      rw [lN_bit (by omega), lN_bit (by omega), lN_or, or_x (b2_lt hb), a1, b_i]
      unfold f_X12_patterns_113
      rw [show (1000000 : Nat) = 999999 + 1 from rfl, f_X12_patterns_119]
      by_cases q : zI M1 355 39 ≤ nI b + 1
      · rw [if_pos q]
        unfold f_X12_patterns_156
        rw [nI_1]; exact b1
      · rw [if_neg q, if_pos (show nI 2 ≤ 2 by decide)]
        unfold f_X12_patterns_156
        rw [nI_1]; exact b1
    · subst e3
      obtain ⟨M1, a1, a2, a3⟩ := s_p119 (k57 := k57) (k82 := f_X12_patterns_82 k57 355 (nI 3) x2 (e + 1 + f)) (x2 := x2) v (A := fun v => A v + nsm b (pf2 h 3 a v)) hb (kN h - (b + 1)) (b + 1) (1000000 - (kN h - (b + 1)) - 1) M (by omega) (by omega) hW d (fun x hx => by
        rw [k x hx]; dsimp only; rw [pf3_0]; rfl)
      rw [show kN h - (b + 1) + 1 + (1000000 - (kN h - (b + 1)) - 1) = 1000000 by omega] at a1
      obtain ⟨M', b1, b2, b3⟩ := ih (b + 1) f M1 (by omega) (by omega) (a2.W hW) (d.pt a2) (fun x hx => by
        refine (a3 x hx).trans ?_
        show nI (A x + nsm b (pf2 h 3 a x) + nsm (kN h) (pf3 h a b x)) = nI (A x + (nsm b (pf2 h 3 a x) + pf2 h 3 a x b))
        rw [show pf2 h 3 a x b = nsm (kN h) (pf3 h a b x) from if_pos hb, Nat.add_assoc])
      refine ⟨M', ?_, a2.tr b2, b3⟩
      refine im (nI_ge (by omega) (by omega)) (im (by decide) (im (by decide) ?_))
      unfold f_X12_patterns_113
      rw [nI_1]
      exact a1.trans b1
def pf1 (h : CH) (n' v a : Nat) : Nat := if n' = 1 then ic h (2 ^ a) v else nsm (kN h) (pf2 h n' a v)
theorem pf2_0 (n' a x : Nat) : nsm (a + 1) (pf2 h n' a x) = 0 := by
  exact (nsx (f := pf2 h n' a x) (g := fun _ => 0) (fun i hi => if_neg (by omega))).trans (nsm_z _)
theorem s_p57 (v : CV h) {n' x : Nat} (hn' : n' = 1 ∨ n' = 2 ∨ n' = 3) (hx : x < 3) : ∀ e a f M, a + e = kN h → WRc M → MDh M h → CNT M (fun v => nsm a (pf1 h n' v)) → ∃ M', f_X12_patterns_57 355 (nI n') (nI x) (e + 1 + f) (nI a) M = some (nI (nsm (kN h) (pf1 h n' x)), M') ∧ FR Wpt M M' := by
  have hn := v.n63
  intro e
  induction e with
  | zero =>
    intro a f M hc hW d k
    have hc : a = kN h := by omega
    subst hc
    refine ⟨M, ?_, FR.rf _ M⟩
    rw [show 0 + 1 + f = f + 1 by omega, f_X12_patterns_57, d.2.2.1]
    refine ip (nI_le (by omega) (by omega)) ?_
    rw [w355_54 hW, b_i, zl_at 3 rfl hx (by decide), b_i, k x hx]
  | succ e ih =>
    intro a f M hc hW d k
    rw [show e + 1 + 1 + f = (e + 1 + f) + 1 by omega, f_X12_patterns_57, d.2.2.1]
    rcases hn' with e1 | hn'
    · subst e1
      obtain ⟨M1, a1, a2, a3⟩ := s_counts hW v d (b2_lt (show a < kN h by omega)) k
      obtain ⟨M', b1, b2⟩ := ih (a + 1) f M1 (by omega) (a2.W hW) (d.pt a2) (fun x hx => a3 x hx)
      refine ⟨M', ?_, a2.tr b2⟩
      refine im (nI_ge (by omega) (by omega)) (ip rfl ?_)
      rw [lN_bit (by omega), a1, b_i]
      unfold f_X12_patterns_77
      rw [show (1000000 : Nat) = 999999 + 1 from rfl, f_X12_patterns_82]
      unfold f_X12_patterns_162
      by_cases q : zI M1 355 39 ≤ nI a + 1
      · rw [if_pos q, nI_1]; exact b1
      · rw [if_neg q, if_pos (show nI 1 ≤ 1 by decide), nI_1]; exact b1
    · obtain ⟨M1, a1, a2, a3⟩ := s_p82 (k57 := f_X12_patterns_57 355 (nI n') (nI x) (e + 1 + f)) (x2 := nI x) v (A := fun v => nsm a (pf1 h n' v)) hn' (kN h - (a + 1)) (a + 1) (1000000 - (kN h - (a + 1)) - 1) M (by omega) (Nat.lt_succ_self a) hW d (fun x hx => by
        rw [k x hx]; dsimp only; rw [pf2_0]; rfl)
      rw [show kN h - (a + 1) + 1 + (1000000 - (kN h - (a + 1)) - 1) = 1000000 by omega] at a1
      obtain ⟨M', b1, b2⟩ := ih (a + 1) f M1 (by omega) (a2.W hW) (d.pt a2) (fun x hx => by
        refine (a3 x hx).trans ?_
        show nI (nsm a (pf1 h n' x) + nsm (kN h) (pf2 h n' a x)) = nI (nsm a (pf1 h n' x) + pf1 h n' x a)
        rw [show pf1 h n' x a = nsm (kN h) (pf2 h n' a x) from if_neg (by omega)])
      refine ⟨M', ?_, a2.tr b2⟩
      refine im (nI_ge (by omega) (by omega)) (im (fun z => ?_) ?_)
      · have := (nI_eq (a := n') (b := 1) (by omega) (by decide)).mp z; omega
      · unfold f_X12_patterns_77
        rw [nI_1]
        exact a1.trans b1
theorem s_p37 (v : CV h) {n' x : Nat} (hn' : n' = 1 ∨ n' = 2 ∨ n' = 3) (hx : x < 3) (hW : WRc M) (d : MDh M h) : ∃ M', f_X12_patterns_37 355 (nI n') (nI x) 1000000 0 M = some (nI (nsm (kN h) (pf1 h n' x)), M') ∧ FR Wpt M M' := by
  have hn := v.n63
  have key : ∀ e i f M, i + e = 3 → WRc M → MDh M h → (∀ v, v < i → zI M 380 v = 0) → ∃ M', f_X12_patterns_37 355 (nI n') (nI x) (e + 1 + f) (nI i) M = some (nI (nsm (kN h) (pf1 h n' x)), M') ∧ FR Wpt M M' := by
    intro e
    induction e with
    | zero =>
      intro i f M hi hW d k
      have hi : i = 3 := by omega
      subst hi
      obtain ⟨M', a1, a2⟩ := s_p57 v hn' hx (kN h) 0 (1000000 - kN h - 1) M (by omega) hW d (fun v hv => (k v hv).trans rfl)
      rw [show kN h + 1 + (1000000 - kN h - 1) = 1000000 by omega] at a1
      refine ⟨M', ?_, a2⟩
      rw [show 0 + 1 + f = f + 1 by omega, f_X12_patterns_37]
      exact ip (by decide) a1
    | succ e ih =>
      intro i f M hi hW d k
      have f1 : FR Wpt M (zsI M 380 i 0) := (FR.rf _ M).sI (Or.inr rfl)
      obtain ⟨M', a1, a2⟩ := ih (i + 1) f (zsI M 380 i 0) (by omega) (f1.W hW) (d.pt f1) (fun v hv => by
        by_cases q : v = i
        · subst q; exact zI_se _ _ _ _
        · rw [zI_sn _ _ (by omega)]; exact k v (by omega))
      refine ⟨M', ?_, f1.tr a2⟩
      rw [show e + 1 + 1 + f = (e + 1 + f) + 1 by omega, f_X12_patterns_37]
      refine im (nI_ge (b := 3) (by omega) (by decide)) ?_
      rw [w355_54 hW, b_i, zl_at 3 rfl (by omega) (by decide), b_i, b_i, nI_1]
      exact a1
  have := key 3 0 (1000000 - 4) M (by omega) hW d (fun v hv => absurd hv (by omega))
  exact this
end
