/-! calls: weight -/
section
variable {M : Mem} {c0 : Nat} {h : CH} {S : PSt} {T c : Nat} {E : Nat → Nat → Nat} {sv : Nat → PSt × Nat}
def Wkc (c0 a j : Nat) : Prop := (a = c0 + 1 ∧ j = 5) ∨ a = c0 + 4 ∨ a = c0 + 5 ∨ a = c0 + 6
theorem CC.kc {M1 : Mem} (g : CC M c0 h) (f : FR (Wkc c0) M M1) : CC M1 c0 h := g.fr f (fun a j p q => by unfold Wch at p; unfold Wkc at q; omega)
theorem LD.kcX {M1 : Mem} (v : CV h) (l : LD M c0 h S T E c sv) (f : FR (Wkc c0) M M1) (k : KC M1 c0 h) : LD M1 c0 h S T E c sv := by
  have hz : c0 = 335 ∨ c0 = 344 := l.cc.z
  exact LD.mk' ⟨(f.R _ _).trans l.cur, l.cc.kc f, (f.I (by unfold Wkc; omega)).trans l.on.1, l.cp.fr f (fun a j _ _ => by unfold Wkc; omega), l.hc.fr f (fun a j _ _ => by unfold Wkc; omega), l.dk.fr f (fun a j p => by unfold Wkc; omega), k⟩ (l.m.fr v f (fun a j q => by unfold Wkc at q; omega))
theorem kcI {M1 : Mem} {s : Nat} (g : RST M) (l : LD M c0 h S T E c sv) (lv : LV h S T c sv) (hT : T ≤ s) (f : FR (Wkc c0) M M1) (k : KC M1 c0 h) : Inv M1 (s + 1) := by
  have hz : c0 = 335 ∨ c0 = 344 := l.cc.z
  exact Inv.mk' (g.fr f (fun a j p q => by unfold Wre2 at p; unfold Wkc at q; omega)) (Or.inl ⟨c0, h, S, T, E, c, sv, l.kcX lv.1 f k, lv, by omega⟩)
theorem zK4 {c0 : Nat} (h : zCh2 c0) : (zSH (c0 + 4)).2 = 64 := by rcases h with rfl | rfl <;> rfl
theorem zK5 {c0 : Nat} (h : zCh2 c0) : (zSH (c0 + 5)).2 = 64 := by rcases h with rfl | rfl <;> rfl
theorem zK6 {c0 : Nat} (h : zCh2 c0) : (zSH (c0 + 6)).2 = 4 := by rcases h with rfl | rfl <;> rfl
theorem zK2 {c0 : Nat} (h : zCh2 c0) : (zSH (c0 + 2)).2 = 63 := by rcases h with rfl | rfl <;> rfl
def wcn (h : CH) (w d : Nat) : Nat := nsm d (fun d => if pop 64 (wd (kG h) (kC h) (kN h - kC h) d) = w then 1 else 0)
theorem s_wow {x1 : Int32} (v : CV h) (hb : kN h - kC h ≤ 12) : ∀ e d f M, d + e = 2 ^ (kN h - kC h) → WRc M → CC M c0 h → (∀ w, w < 64 → zI M (c0 + 4) w = nI (wcn h w d)) → ∃ M', f_X1_wordsOfWeight_17 (c0 + 1) x1 (e + 1 + f) (nI d) M = f_X1_wordsOfWeight_56 (c0 + 1) x1 (zsI M' (c0 + 1) 5 1) ∧ FR (fun a _ => a = c0 + 4) M M' ∧ ∀ w, w < 64 → zI M' (c0 + 4) w = nI (wct h w) := by
  have hp : 2 ^ (kN h - kC h) ≤ 2 ^ 12 := Nat.pow_le_pow_right (by decide) hb
  have hn := v.n63
  intro e
  induction e with
  | zero =>
    intro d f M hd hW hC h1
    have hd : d = 2 ^ (kN h - kC h) := by omega
    subst hd
    refine ⟨M, ?_, FR.rf _ M, h1⟩
    rw [show 0 + 1 + f = f + 1 by omega, f_X1_wordsOfWeight_17, hC.b, show (1 : Int32) = nI 1 from rfl, nI_shl _ (by omega), Nat.one_shiftLeft]
    exact ip (nI_le (by omega) (by omega)) rfl
  | succ e ih =>
    intro d f M hd hW hC h1
    have hlt : d < 2 ^ (kN h - kC h) := by omega
    obtain ⟨w1, -⟩ := w_ok v hlt
    have w2 : wd (kG h) (kC h) (kN h - kC h) d < 2 ^ 63 := Nat.lt_of_lt_of_le w1 (Nat.pow_le_pow_right (by decide) hn.1)
    have w3 : pop 64 (wd (kG h) (kC h) (kN h - kC h) d) < 64 := by
      rw [pop64 (by omega) w1]; have := pop_le (kN h) (wd (kG h) (kC h) (kN h - kC h) d); omega
    obtain ⟨u, hu⟩ : ∃ u, u = pop 64 (wd (kG h) (kC h) (kN h - kC h) d) := ⟨_, rfl⟩
    have f1 : FR (fun a _ => a = c0 + 4) M (zsI M (c0 + 4) u (nI (wcn h u d) + 1)) := (FR.rf (fun a _ => a = c0 + 4) M).sI rfl
    obtain ⟨M', a1, a2, a3⟩ := ih (d + 1) f (zsI M (c0 + 4) u (nI (wcn h u d) + 1)) (by omega) (f1.W hW) (hC.kc (f1.mo (fun a j q => by unfold Wkc; omega))) (fun w hw => by
      unfold wcn
      rw [nsm, ← hu]
      by_cases q : w = u
      · subst q
        rw [zI_se, if_pos rfl, nI_1]
      · rw [zI_sn _ _ (by omega), if_neg (fun z => q z.symm), Nat.add_zero]; exact h1 w hw)
    refine ⟨M', ?_, f1.tr a2, a3⟩
    rw [show e + 1 + 1 + f = (e + 1 + f) + 1 by omega, f_X1_wordsOfWeight_17, hC.b, show (1 : Int32) <<< (nI (kN h - kC h) &&& 31) = nI (2 ^ (kN h - kC h)) by rw [show (1 : Int32) = nI 1 from rfl, nI_shl _ (by omega), Nat.one_shiftLeft]]
    refine im (nI_ge hlt (by omega)) ?_
    rw [wK_2 hW hC.z, b_i, nI_i2l (by omega), wC v hC hlt, b_i]
    dsimp only
    rw [s_bitCount (by omega), b_i, ← hu]
    dsimp only
    rw [zl_at 64 (zK4 hC.z) (by omega) (by decide), b_i, b_i, b_i, h1 u (by omega), nI_1]
    exact a1
theorem s_mww (v : CV h) (hb : kN h - kC h ≤ 12) {w : Nat} (hw : w < 64) (hM : MC M h) : ∀ e d f, d + e = 2 ^ (kN h - kC h) → f_X12_weight_32 355 (nI w) (e + 1 + f) (nI (wcn h w d)) (lN d) M = some (nI (wct h w), M) := by
  have hp : 2 ^ (kN h - kC h) ≤ 2 ^ 12 := Nat.pow_le_pow_right (by decide) hb
  have hn := v.n63
  obtain ⟨bk, -, ⟨-, m40, -⟩, -⟩ := id hM
  intro e
  induction e with
  | zero =>
    intro d f hd
    have hd : d = 2 ^ (kN h - kC h) := by omega
    subst hd
    rw [show 0 + 1 + f = f + 1 by omega, f_X12_weight_32, m40, lN_bit (by omega)]
    exact ip ((lg_cmp_ge _ _).mpr ((pk_lLE (by omega) (by omega)).mpr (Nat.le_refl _))) rfl
  | succ e ih =>
    intro d f hd
    have hlt : d < 2 ^ (kN h - kC h) := by omega
    obtain ⟨w1, -⟩ := w_ok v hlt
    have w2 : wd (kG h) (kC h) (kN h - kC h) d < 2 ^ 63 := Nat.lt_of_lt_of_le w1 (Nat.pow_le_pow_right (by decide) hn.1)
    have w3 : pop 64 (wd (kG h) (kC h) (kN h - kC h) d) < 2 ^ 31 := by
      have := pop_le 64 (wd (kG h) (kC h) (kN h - kC h) d); omega
    have key := ih (d + 1) f (by omega)
    unfold wcn at key
    rw [nsm] at key
    rw [show e + 1 + 1 + f = (e + 1 + f) + 1 by omega, f_X12_weight_32, m40, lN_bit (by omega)]
    refine im (fun q => absurd ((pk_lLE (by omega) (by omega)).mp ((lg_cmp_ge _ _).mp q)) (by omega)) ?_
    rw [wM v hM hlt, b_i]
    dsimp only
    rw [s_onesOf w2, b_i]
    dsimp only
    unfold f_X12_weight_61
    by_cases q : pop 64 (wd (kG h) (kC h) (kN h - kC h) d) = w
    · rw [if_pos q] at key
      refine ip (by rw [q]) ?_
      rw [nI_1, lN_1]; exact key
    · rw [if_neg q, Nat.add_zero] at key
      refine im (fun z => q ((nI_eq w3 (by omega)).mp z)) ?_
      rw [show (0 : Int32) = nI 0 from rfl, nI_add, Nat.add_zero, lN_1]; exact key
end
theorem op_weight (x : Int32) : OP (f_X11_weight 0 x) (f_X12_weight 355 x) := by
  intro M s g
  have hW := g.rst.W
  unfold f_X11_weight f_X11_weight_32 f_X12_weight f_X12_weight_26
  rcases g.st with ⟨c0, h, S, T, E, c, sv, l, lv, hT⟩ | o
  · have hn := lv.1.n63
    have hz := l.cc.z
    have hz' : c0 = 335 ∨ c0 = 344 := hz
    obtain ⟨bk, -, ⟨-, m40, -⟩, -⟩ := l.mc
    rw [l.on.1, if_neg (show ¬ (1 : Int32) = 0 by decide)]
    rcases s_isN (M := M) (x := x) (xl := 0) (xh := 63) (n := 63) rfl rfl (by decide) with ⟨⟨w, hw, e⟩, q⟩ | ⟨q, q2⟩
    · subst e
      by_cases hb : kN h - kC h ≤ 12
      · have hp : 2 ^ (kN h - kC h) ≤ 2 ^ 12 := Nat.pow_le_pow_right (by decide) hb
        have cl : ∃ M1, f_X1_wordsOfWeight (c0 + 1) (nI w) M = some (nI (wct h w), M1) ∧ FR (Wkc c0) M M1 ∧ KC M1 c0 h := by
          unfold f_X1_wordsOfWeight
          rcases l.kc.1 with k0 | ⟨k1, k2⟩
          · obtain ⟨M1, a1, a2, a3⟩ := s_fill M (v := 0) (zK4 hz) (by decide)
            obtain ⟨M2, b1, b2, b3⟩ := s_wow (x1 := nI w) lv.1 hb (2 ^ (kN h - kC h)) 0 (1000000 - 2 ^ (kN h - kC h) - 1) M1 (by omega) (a2.W hW) (l.cc.kc (a2.mo (fun a j q => by unfold Wkc; omega))) (fun w hw => (a3 w hw).trans rfl)
            rw [show 2 ^ (kN h - kC h) + 1 + (1000000 - 2 ^ (kN h - kC h) - 1) = 1000000 by omega] at b1
            have b4 : FR (fun a j => (a = c0 + 1 ∧ j = 5) ∨ a = c0 + 4) M (zsI M2 (c0 + 1) 5 1) := ((a2.tr b2).mo (fun a j q => Or.inr q)).sI (by omega)
            refine ⟨zsI M2 (c0 + 1) 5 1, ?_, b4.mo (fun a j q => by unfold Wkc; omega), Or.inr ⟨zI_se _ _ _ _, fun w hw => (zI_sn _ _ (by omega)).trans (b3 w hw)⟩, fun k k1 k2 => ?_⟩
            · refine ip k0 ?_
              rw [wK_2 hW hz, b_i, a1, b_i]
              have b1 : f_X1_wordsOfWeight_17 (c0 + 1) (nI w) 1000000 0 M1 = f_X1_wordsOfWeight_56 (c0 + 1) (nI w) (zsI M2 (c0 + 1) 5 1) := b1
              rw [b1]
              unfold f_X1_wordsOfWeight_56
              rw [wK_2 (b4.W hW) hz, b_i, zl_at 64 (zK4 hz) (by omega) (by decide), b_i, zI_sn _ _ (by omega), b3 w (by omega)]
            · rw [b4.I (by omega)]; exact l.kc.2 k k1 k2
          · refine ⟨M, ?_, FR.rf _ M, l.kc⟩
            rw [k1]
            refine im (by decide) ?_
            unfold f_X1_wordsOfWeight_56
            rw [wK_2 hW hz, b_i, zl_at 64 (zK4 hz) (by omega) (by decide), b_i, k2 w (by omega)]
        obtain ⟨M1, a1, a2, a3⟩ := cl
        have l1 := l.kcX lv.1 a2 a3
        refine ⟨nI (wct h w), M1, M1, ?_, ?_, kcI g.rst l lv hT a2 a3⟩
        · refine im (nI_pos (by omega)) (im (nI_nlt (b := w) (a := 63) (by omega) (by decide)) ?_)
          rw [l.cur, b_i, wC_0 hW hz, b_i, l.cc.b]
          refine ip (nI_le (b := 12) hb (by decide)) ?_
          rw [b_i, wC_0 hW hz, b_i, a1, b_i]
        · rw [l1.on.2, if_neg (show ¬ (1 : Int32) = 0 by decide), (a2.I (by unfold Wkc; omega)).trans m40]
          refine im (nI_nlt (a := 12) hb (by decide)) ?_
          rcases s_isN (M := M1) (x := nI w) (xl := 0) (xh := 63) (n := 63) rfl rfl (by decide) with ⟨-, q5⟩ | ⟨q5, -⟩
          · rw [q5, b_i]
            refine im (one_n0 _) ?_
            dsimp only
            have := s_mww lv.1 hb (show w < 64 by omega) l1.mc (2 ^ (kN h - kC h)) 0 (1000000 - 2 ^ (kN h - kC h) - 1) (by omega)
            rw [show 2 ^ (kN h - kC h) + 1 + (1000000 - 2 ^ (kN h - kC h) - 1) = 1000000 by omega] at this
            exact this
          · exact absurd q5 (fun q5 => q5.elim (nI_pos (by omega)) (nI_ge (by omega) (by decide)))
      · refine ⟨-1, M, M, ?_, ?_, g.mono (by omega)⟩
        · refine im (nI_pos (by omega)) (im (nI_nlt (b := w) (a := 63) (by omega) (by decide)) ?_)
          rw [l.cur, b_i, wC_0 hW hz, b_i, l.cc.b]
          exact im (nI_ge (a := 12) (by omega) (by omega)) rfl
        · rw [l.on.2, if_neg (show ¬ (1 : Int32) = 0 by decide), m40]
          exact ip (nI_lt (a := 12) (by omega) (by omega)) rfl
    · refine ⟨-1, M, M, ?_, ?_, g.mono (by omega)⟩
      · by_cases h1 : x < 0
        · exact ip h1 rfl
        · refine im h1 (ip ?_ rfl)
          obtain ⟨k, hk, e⟩ := nI_of h1
          subst e
          have := (nI_leI (by decide) hk).mp (q.resolve_left h1)
          exact nI_lt (a := 63) (by omega) hk
      · rw [l.on.2, if_neg (show ¬ (1 : Int32) = 0 by decide)]
        by_cases hb : (12 : Int32) < zI M 355 40
        · exact ip hb rfl
        · refine im hb ?_
          rw [q2, b_i]; exact ip rfl rfl
  · exact ⟨-1, M, M, ip o.1.1 rfl, ip o.1.2 rfl, g.mono (by omega)⟩
