/-! calls: patterns -/
section
variable {M : Mem} {c0 : Nat} {h : CH}
def TT (h : CH) (n' : Nat) (F : Nat → Nat) : Nat := if n' = 1 then nsm (kN h) (fun a => F (2 ^ a)) else if n' = 2 then nsm (kN h) (fun b => nsm b (fun a => F (2 ^ b ^^^ 2 ^ a))) else nsm (kN h) (fun c => nsm c (fun b => nsm b (fun a => F (2 ^ c ^^^ 2 ^ b ^^^ 2 ^ a))))
theorem sw2 (n : Nat) (G : Nat → Nat → Nat) : nsm n (fun a => nsm n (fun b => if a < b then G a b else 0)) = nsm n (fun b => nsm b (fun a => G a b)) := by
  rw [nsm_swap]; exact nsx (fun b hb => nsc (by omega) (fun a => G a b))
theorem sw3 (n : Nat) (K : Nat → Nat → Nat → Nat) : nsm n (fun a => nsm n (fun b => if a < b then nsm n (fun c => if b < c then K a b c else 0) else 0)) = nsm n (fun c => nsm c (fun b => nsm b (fun a => K a b c))) := by
  rw [sw2 n (fun a b => nsm n (fun c => if b < c then K a b c else 0)), ← sw2 n (fun b c => nsm b (fun a => K a b c))]
  refine nsx (fun b hb => ?_)
  rw [nsm_swap]
  refine nsx (fun c hc => ?_)
  by_cases q : b < c
  · rw [if_pos q]; exact nsx (fun a _ => if_pos q)
  · rw [if_neg q]; exact (nsx (fun a _ => if_neg q)).trans (nsm_z _)
theorem pf_TT {n' x : Nat} (hn' : n' = 1 ∨ n' = 2 ∨ n' = 3) : nsm (kN h) (pf1 h n' x) = TT h n' (fun w => ic h w x) := by
  rcases hn' with e | e | e
  · subst e
    exact nsx (fun a _ => if_pos rfl)
  · subst e
    refine Eq.trans (nsx (fun a _ => ?_)) (sw2 (kN h) (fun a b => ic h (2 ^ b ^^^ 2 ^ a) x))
    exact nsx (fun b _ => rfl)
  · subst e
    refine Eq.trans (nsx (fun a _ => ?_)) (sw3 (kN h) (fun a b c => ic h (2 ^ c ^^^ 2 ^ b ^^^ 2 ^ a) x))
    exact nsx (fun b _ => rfl)
theorem pop_hi {b w n : Nat} (hw : w < 2 ^ b) (hb : b < n) : pop n (2 ^ b ^^^ w) = pop n w + 1 := by
  have key : ∀ n, (fps n (fun k => (2 ^ b ^^^ w).testBit k)).length = (fps n (fun k => w.testBit k)).length + if b < n then 1 else 0 := by
    intro n
    induction n with
    | zero => rfl
    | succ n ih =>
      rw [fps_s, fps_s]
      rw [Nat.testBit_xor, Nat.testBit_two_pow]
      by_cases q : b = n
      · subst q
        rw [Nat.testBit_lt_two_pow hw, decide_eq_true rfl]
        rw [if_neg (Nat.lt_irrefl b)] at ih
        rw [if_pos (show b < b + 1 by omega), if_pos (show (true ^^ false) = true from rfl), if_neg (show ¬ false = true by decide), List.length_append, ih]
        rfl
      · rw [decide_eq_false q, Bool.false_xor]
        have e : (if b < n + 1 then 1 else 0) = if b < n then 1 else 0 := by
          by_cases z : b < n
          · rw [if_pos z, if_pos (by omega)]
          · rw [if_neg z, if_neg (by omega)]
        rw [e]
        cases w.testBit n
        · exact ih
        · rw [if_pos rfl, if_pos rfl, List.length_append, List.length_append, ih]
          show _ + 1 = _ + 1 + _
          omega
  have := key n
  rw [pop_fps, pop_fps, if_pos hb] at this
  exact this
theorem pob1 {n a : Nat} (ha : a < n) : pop n (2 ^ a) = 1 := by
  have := pop_hi (b := a) (w := 0) (Nat.pow_pos (by decide)) ha
  rw [Nat.xor_zero, pop_0] at this
  exact this
theorem pob2 {n a b : Nat} (ha : a < b) (hb : b < n) : pop n (2 ^ b ^^^ 2 ^ a) = 2 := by
  rw [pop_hi (b2_lt ha) hb, pob1 (by omega)]
theorem pob3 {n a b c : Nat} (ha : a < b) (hb : b < c) (hc : c < n) : pop n (2 ^ c ^^^ 2 ^ b ^^^ 2 ^ a) = 3 := by
  rw [Nat.xor_assoc, pop_hi (Nat.xor_lt_two_pow (b2_lt hb) (b2_lt (by omega))) hc, pob2 ha (by omega)]
theorem TT_ext {F G : Nat → Nat} {n' : Nat} (hn' : n' = 1 ∨ n' = 2 ∨ n' = 3) (hF : ∀ w, w < 2 ^ kN h → pop (kN h) w = n' → F w = G w) : TT h n' F = TT h n' G := by
  rcases hn' with e | e | e
  · subst e
    exact nsx (fun a ha => hF _ (b2_lt ha) (pob1 ha))
  · subst e
    exact nsx (fun b hb => nsx (fun a ha => hF _ (Nat.xor_lt_two_pow (b2_lt hb) (b2_lt (by omega))) (pob2 ha hb)))
  · subst e
    exact nsx (fun c hc => nsx (fun b hb => nsx (fun a ha => hF _ (Nat.xor_lt_two_pow (Nat.xor_lt_two_pow (b2_lt hc) (b2_lt (by omega))) (b2_lt (by omega))) (pob3 ha hb hc))))
theorem TT_add {F G : Nat → Nat} {n' : Nat} (hn' : n' = 1 ∨ n' = 2 ∨ n' = 3) : TT h n' (fun w => F w + G w) = TT h n' F + TT h n' G := by
  rcases hn' with e | e | e
  · subst e
    exact nsm_a _ _ _
  · subst e
    refine Eq.trans (nsx (fun b hb => nsm_a _ _ _)) (nsm_a _ _ _)
  · subst e
    refine Eq.trans (nsx (fun c hc => Eq.trans (nsx (fun b hb => nsm_a _ _ _)) (nsm_a _ _ _))) (nsm_a _ _ _)
theorem TT_z {n' : Nat} (hn' : n' = 1 ∨ n' = 2 ∨ n' = 3) : TT h n' (fun _ => 0) = 0 := by
  rcases hn' with e | e | e
  · subst e; exact nsm_z _
  · subst e; exact Eq.trans (nsx (fun b hb => nsm_z _)) (nsm_z _)
  · subst e; exact Eq.trans (nsx (fun c hc => Eq.trans (nsx (fun b hb => nsm_z _)) (nsm_z _))) (nsm_z _)
theorem pc2 : ∀ n, n < 64 → nsm n (fun b => b) = n * (n - 1) / 2 := by decide +kernel
theorem pc3 : ∀ n, n < 64 → nsm n (fun c => nsm c (fun b => b)) = n * (n - 1) / 2 * (n - 2) / 3 := by decide +kernel
theorem s_pc (v : CV h) (hC : CC M c0 h) {n' : Nat} (hn' : n' = 1 ∨ n' = 2 ∨ n' = 3) (hl : n' ≤ kN h) : f_X1_patternCount (c0 + 1) (nI n') M = some (nI (TT h n' (fun _ => 1)), M) := by
  have hn := v.n63
  have h1 : kN h * (kN h - 1) ≤ 63 * 63 := Nat.mul_le_mul (by omega) (by omega)
  unfold f_X1_patternCount f_X1_patternCount_43
  rw [hC.n]
  rcases hn' with e | e | e
  · subst e
    refine ip rfl ?_
    rw [show TT h 1 (fun _ => 1) = kN h from nsm_o _]
  · subst e
    refine im (by decide) (ip rfl ?_)
    rw [show TT h 2 (fun _ => 1) = kN h * (kN h - 1) / 2 from Eq.trans (nsx (fun b hb => nsm_o _)) (pc2 _ (by omega)), show (1 : Int32) = nI 1 from rfl, pk_sub (by omega), pk_mul, show (2 : Int32) = nI 2 from rfl, pk_div (by omega) (by decide) (by decide)]
  · subst e
    have h2 : kN h * (kN h - 1) / 2 * (kN h - 2) ≤ 63 * 63 * 63 := Nat.mul_le_mul (by omega) (by omega)
    refine im (by decide) (im (by decide) ?_)
    rw [show TT h 3 (fun _ => 1) = kN h * (kN h - 1) / 2 * (kN h - 2) / 3 from Eq.trans (nsx (fun c hc => nsx (fun b hb => nsm_o _))) (pc3 _ (by omega)), show (1 : Int32) = nI 1 from rfl, pk_sub (by omega), pk_mul, show (2 : Int32) = nI 2 from rfl, pk_div (by omega) (by decide) (by decide), pk_sub (by omega), pk_mul, show (3 : Int32) = nI 3 from rfl, pk_div (by omega) (by decide) (by decide)]
theorem cls_few (v : CV h) {w n' : Nat} (hw : w < 2 ^ kN h) (hp : pop (kN h) w = n') (ht : n' ≤ kT h) : cls h w = 0 := by
  obtain ⟨a, b, -⟩ := dec_true (c := 0) (t := kT h) v.pr v.c.2.2 (Nat.pow_pos (by decide)) (fun j _ _ => sy_0 _ _ _ _) hw (by rw [Nat.xor_zero]; omega)
  unfold cls
  rw [if_pos (show kCa h w = 0 from a), if_pos (show kRs h w = 0 from b)]
theorem cls_many (v : CV h) {w n' : Nat} (hw : w < 2 ^ kN h) (hp : pop (kN h) w = n') (ht : kT h < n') : cls h w = if kCa h w = 0 then 1 else 2 := by
  unfold cls
  by_cases q : kCa h w = 0
  · rw [if_pos q, if_pos q, if_neg (fun z => ?_)]
    obtain ⟨-, -, a, -⟩ := dec_ok v.pr hw q
    rw [show dRs (kM h) (kP h) (kT h) (kN h) w = 0 from z, Nat.xor_zero] at a
    omega
  · rw [if_neg q, if_neg q]
theorem mct_TT {n' : Nat} (hn' : n' = 2 ∨ n' = 3) : mct h n' = TT h n' (ind h) := by
  rcases hn' with e | e
  · subst e; rfl
  · subst e; rfl
theorem Wsc_pt {a j : Nat} (q : Wpt a j) : Wsc a j := by
  have h1 : (375 ≤ a ∧ a ≤ 380) ∨ (a = 355 ∧ 49 ≤ j ∧ j ≤ 53) := by unfold Wpt Wrb at q; omega
  unfold Wsc
  rcases h1 with h1 | h1
  · exact Or.inr (Or.inr (Or.inr (Or.inr (Or.inr (Or.inr (Or.inl h1))))))
  · exact Or.inr (Or.inr (Or.inr (Or.inr (Or.inr (Or.inr (Or.inr (Or.inl h1)))))))
theorem s_mpat {s : Nat} {S : PSt} {T c : Nat} {E : Nat → Nat → Nat} {sv : Nat → PSt × Nat} (g : RST M) (l : LD M c0 h S T E c sv) (lv : LV h S T c sv) (hT : T ≤ s) {n' w : Nat} (hn' : n' = 1 ∨ n' = 2 ∨ n' = 3) (hl : n' ≤ kN h) (hw : w < 3) : ∃ M2, f_X12_patterns 355 (nI n') (nI w) M = some (nI (TT h n' (fun u => ic h u w)), M2) ∧ Inv M2 (s + 1) := by
  have hn := lv.1.n63
  obtain ⟨bk, ⟨-, -, hD⟩, -⟩ := l.mc
  obtain ⟨M2, a1, a2⟩ := s_p37 lv.1 hn' hw g.W (show MDh M h from hD)
  rw [pf_TT hn'] at a1
  refine ⟨M2, ?_, (Inv.sc g l lv hT (a2.mo (fun a j q => Wsc_pt q)) (l.dk.fr a2 (fun a j p q => by unfold Wpt Wrb at q; omega))).mono (by omega)⟩
  unfold f_X12_patterns f_X12_patterns_33
  rw [l.on.2, if_neg (show ¬ (1 : Int32) = 0 by decide)]
  rcases s_is1 (M := M) (x := nI n') (xl := 1) (xh := 3) (n := 3) rfl rfl (by decide) with ⟨-, q⟩ | ⟨q, -⟩
  · rw [q, b_i]
    refine im (one_n0 _) ?_
    dsimp only
    rw [hD.2.2.1]
    refine im (nI_nlt hl (by omega)) ?_
    rcases s_isN (M := M) (x := nI w) (xl := 0) (xh := 2) (n := 2) rfl rfl (by decide) with ⟨-, q⟩ | ⟨q, -⟩
    · rw [q, b_i]
      exact im (one_n0 _) a1
    · exact absurd q (fun q => q.elim (nI_pos (by omega)) (nI_ge (b := 3) (by omega) (by decide)))
  · refine absurd q (fun q => q.elim (fun q => ?_) (fun q => ?_))
    · have := (nI_ltI (by omega) (b := 1) (by decide)).mp q; omega
    · have := (nI_ltI (a := 3) (by decide) (by omega)).mp q.2; omega
end
theorem op_patterns (x y : Int32) : OP (f_X11_patterns 0 x y) (f_X12_patterns 355 x y) := by
  intro M s g
  have hW := g.rst.W
  rcases g.st with ⟨c0, h, S, T, E, c, sv, l, lv, hT⟩ | o
  · have hn := lv.1.n63
    have hz := l.cc.z
    obtain ⟨bk, ⟨-, -, hD⟩, -⟩ := l.mc
    have bad : (f_X11_patterns 0 x y M = some (-1, M)) → (f_X12_patterns 355 x y M = some (-1, M)) → ∃ r M1 M2, f_X11_patterns 0 x y M = some (r, M1) ∧ f_X12_patterns 355 x y M1 = some (r, M2) ∧ Inv M2 (s + 1) := fun a b => ⟨-1, M, M, a, b, g.mono (by omega)⟩
    rcases s_is1 (M := M) (x := x) (xl := 1) (xh := 3) (n := 3) rfl rfl (by decide) with ⟨⟨n', n1, n3, e⟩, q⟩ | ⟨q, q2⟩
    · subst e
      have hn' : n' = 1 ∨ n' = 2 ∨ n' = 3 := by omega
      have c1 : ¬ nI n' < 1 := fun q => by have := (nI_ltI (by omega) (b := 1) (by decide)).mp q; omega
      have c3 : ¬ 3 < nI n' := nI_nlt (a := 3) (by omega) (by decide)
      by_cases hl : n' ≤ kN h
      · rcases s_isN (M := M) (x := y) (xl := 0) (xh := 2) (n := 2) rfl rfl (by decide) with ⟨⟨w, hw, e⟩, r⟩ | ⟨r, r2⟩
        · subst e
          have pre : f_X11_patterns 0 (nI n') (nI w) M = (if nI (kT h) < nI n' then (if nI w = 0 then some (0, M) else Option.bind (f_X1_missedCount (c0 + 1) (nI n') M) fun z6 => (if nI w = 1 then f_X11_patterns_104 0 (nI n') (nI w) z6.1 z6.2 else f_X11_patterns_104 0 (nI n') (nI w) (nI (TT h n' (fun _ => 1)) - z6.1) z6.2)) else (if nI w = 0 then f_X11_patterns_75 0 (nI n') (nI w) (nI (TT h n' (fun _ => 1))) M else f_X11_patterns_75 0 (nI n') (nI w) 0 M)) := by
            unfold f_X11_patterns
            rw [l.on.1, if_neg (show ¬ (1 : Int32) = 0 by decide), if_neg c1, if_neg c3, l.cur, b_i, wC_0 hW hz, b_i, l.cc.n, if_neg (nI_nlt hl (by omega)), if_neg (nI_pos (by omega)), if_pos (show nI w ≤ (2 : Int32) from nI_le (b := 2) hw (by decide)), b_i, wC_0 hW hz, b_i, s_pc lv.1 l.cc hn' hl, b_i]
            dsimp only
            rw [l.cc.t]
          unfold f_X11_patterns_104 f_X11_patterns_75 at pre
          have ht5 := lv.1.t
          by_cases ht : n' ≤ kT h
          · rw [if_neg (nI_nlt ht (by omega))] at pre
            obtain ⟨M2, a1, a2⟩ := s_mpat (s := s) g.rst l lv hT hn' hl (show w < 3 by omega)
            by_cases w0 : w = 0
            · subst w0
              rw [if_pos (show nI 0 = 0 from rfl)] at pre
              refine ⟨_, M, M2, pre, ?_, a2⟩
              rw [a1, TT_ext hn' (G := fun _ => 1) (fun u hu hp => by unfold ic; rw [cls_few lv.1 hu hp ht, if_pos rfl])]
            · rw [if_neg (nI_ne0 (by omega) (by omega))] at pre
              refine ⟨_, M, M2, pre, ?_, a2⟩
              rw [a1, TT_ext hn' (G := fun _ => 0) (fun u hu hp => by unfold ic; rw [cls_few lv.1 hu hp ht, if_neg (by omega)]), TT_z hn']; rfl
          · rw [if_pos (nI_lt (by omega) (by omega))] at pre
            by_cases w0 : w = 0
            · subst w0
              obtain ⟨M2, a1, a2⟩ := s_mpat (s := s) g.rst l lv hT hn' hl (show 0 < 3 by omega)
              rw [if_pos (show nI 0 = 0 from rfl)] at pre
              refine ⟨_, M, M2, pre, ?_, a2⟩
              rw [a1, TT_ext hn' (G := fun _ => 0) (fun u hu hp => by
                unfold ic
                rw [cls_many lv.1 hu hp (by omega)]
                by_cases q : kCa h u = 0
                · rw [if_pos q, if_neg (by decide)]
                · rw [if_neg q, if_neg (by decide)]), TT_z hn']; rfl
            · rw [if_neg (nI_ne0 (by omega) (by omega))] at pre
              obtain ⟨M1, b1, b2, b3⟩ := s_missed lv.1 hW l.cc l.kc (show kT h < n' by omega) n3
              have hn2 : n' = 2 ∨ n' = 3 := by omega
              rw [b1, b_i] at pre
              dsimp only at pre
              have l1 := l.kcX lv.1 b2 b3
              have g1 := (kcI g.rst l lv hT b2 b3).rst
              obtain ⟨M2, a1, a2⟩ := s_mpat (s := s) g1 l1 lv hT hn' hl (show w < 3 by omega)
              have hsum : TT h n' (fun u => ic h u 1) + TT h n' (fun u => ic h u 2) = TT h n' (fun _ => 1) := by
                rw [← TT_add hn']
                refine TT_ext hn' (fun u hu hp => ?_)
                unfold ic
                rw [cls_many lv.1 hu hp (by omega)]
                by_cases q : kCa h u = 0
                · rw [if_pos q, if_pos rfl, if_neg (by decide)]
                · rw [if_neg q, if_pos rfl, if_neg (by decide)]
              have h1 : TT h n' (fun u => ic h u 1) = mct h n' := by
                rw [mct_TT hn2]
                refine TT_ext hn' (fun u hu hp => ?_)
                unfold ic ind
                rw [cls_many lv.1 hu hp (by omega)]
                by_cases q : kCa h u = 0
                · rw [if_pos q, if_pos q, if_pos rfl]
                · rw [if_neg q, if_neg q, if_neg (by decide)]
              by_cases w1 : w = 1
              · subst w1
                rw [if_pos (show nI 1 = 1 from rfl)] at pre
                refine ⟨_, M1, M2, pre, ?_, a2⟩
                rw [a1, h1]
              · have w2 : w = 2 := by omega
                subst w2
                rw [if_neg (show ¬ nI 2 = 1 by decide), pk_sub (by omega)] at pre
                refine ⟨_, M1, M2, pre, ?_, a2⟩
                rw [a1, ← hsum, h1, Nat.add_sub_cancel_left]
        · refine bad ?_ ?_
          · unfold f_X11_patterns f_X11_patterns_40
            rw [l.on.1, if_neg (show ¬ (1 : Int32) = 0 by decide), if_neg c1, if_neg c3, l.cur, b_i, wC_0 hW hz, b_i, l.cc.n, if_neg (nI_nlt hl (by omega))]
            by_cases h1 : y < 0
            · exact ip h1 rfl
            · refine im h1 (im (fun q3 => ?_) rfl)
              obtain ⟨k, hk, e⟩ := nI_of h1
              subst e
              have := (nI_leI hk (b := 2) (by decide)).mp q3
              exact nI_ge (show k < 2 + 1 by omega) (by decide) (r.resolve_left h1)
          · unfold f_X12_patterns f_X12_patterns_33
            rw [l.on.2, if_neg (show ¬ (1 : Int32) = 0 by decide), q, b_i]
            refine im (one_n0 _) ?_
            dsimp only
            rw [hD.2.2.1]
            refine im (nI_nlt hl (by omega)) ?_
            rw [r2, b_i]; exact ip rfl rfl
      · refine bad ?_ ?_
        · unfold f_X11_patterns f_X11_patterns_40
          rw [l.on.1, if_neg (show ¬ (1 : Int32) = 0 by decide), if_neg c1, if_neg c3, l.cur, b_i, wC_0 hW hz, b_i, l.cc.n]
          exact ip (nI_lt (by omega) (by omega)) rfl
        · unfold f_X12_patterns f_X12_patterns_33
          rw [l.on.2, if_neg (show ¬ (1 : Int32) = 0 by decide), q, b_i]
          refine im (one_n0 _) ?_
          dsimp only
          rw [hD.2.2.1]
          exact ip (nI_lt (by omega) (by omega)) rfl
    · refine bad ?_ ?_
      · unfold f_X11_patterns f_X11_patterns_40
        rw [l.on.1, if_neg (show ¬ (1 : Int32) = 0 by decide)]
        rcases q with q | ⟨q, q3⟩
        · exact ip q rfl
        · exact im q (ip q3 rfl)
      · unfold f_X12_patterns f_X12_patterns_33
        rw [l.on.2, if_neg (show ¬ (1 : Int32) = 0 by decide), q2, b_i]; exact ip rfl rfl
  · unfold f_X11_patterns f_X11_patterns_40 f_X12_patterns f_X12_patterns_33
    exact ⟨-1, M, M, ip o.1.1 rfl, ip o.1.2 rfl, g.mono (by omega)⟩
