/-! chip: the generator (2): the class -/
section
variable {c0 m p : Nat} {M : Mem}
theorem ub_1 {u i : Nat} (hu : u < 2 ^ 31) (hi : i < 32) : ((nI u >>> (nI i &&& 31)) &&& 1 = 1) ↔ u.testBit i = true := by
  rw [nI_shr hu hi, show (1 : Int32) = nI 1 from rfl, nI_and, Nat.testBit_eq_decide_div_mod_eq, Nat.and_one_is_mod, Nat.shiftRight_eq_div_pow]
  rcases Nat.mod_two_eq_zero_or_one (u / 2 ^ i) with e | e
  · rw [e]; decide
  · rw [e]; decide
theorem c_md48 {x1 : Int32} {a y : Nat} (hy : y < 2 ^ 40) : ∀ e i f M, i + e = 63 → ∃ M', f_X1_multiplyDivisor_48 a x1 (e + 1 + f) (lN y) (nI i) M = some M' ∧ FR (fun x j => x = a ∧ j = 9) M M' ∧ zI M' a 9 = if y / 2 ^ i = 0 then zI M a 9 else nI (i + bln (e - 23) (y / 2 ^ i / 2)) := by
  have hy64 : y < 2 ^ 64 := Nat.lt_trans hy (by decide)
  intro e
  induction e with
  | zero =>
    intro i f M hi
    have hi : i = 63 := by omega
    subst hi
    refine ⟨M, ?_, FR.rf _ M, ?_⟩
    · rw [show 0 + 1 + f = f + 1 by omega, f_X1_multiplyDivisor_48]
      exact if_pos (by decide)
    · rw [if_pos (Nat.div_eq_of_lt (Nat.lt_trans hy (by decide)))]
  | succ e ih =>
    intro i f M hi
    have hd : y / 2 ^ (i + 1) = y / 2 ^ i / 2 := by rw [Nat.pow_succ, Nat.div_div_eq_div_mul]
    have hb : y.testBit i = decide (y / 2 ^ i % 2 = 1) := Nat.testBit_eq_decide_div_mod_eq
    have hbig : ¬ y / 2 ^ i = 0 → i < 40 := fun q => by
      by_cases c : i < 40
      · exact c
      · exact absurd (Nat.div_eq_of_lt (Nat.lt_of_lt_of_le hy (Nat.pow_le_pow_right (by decide) (by omega)))) q
    rw [show e + 1 + 1 + f = (e + 1 + f) + 1 by omega, f_X1_multiplyDivisor_48, if_neg (show ¬ (63 : Int32) ≤ nI i from nI_ge (b := 63) (by omega) (by decide)), v_bit hy64 (by omega), b_i]
    dsimp only
    unfold f_X1_multiplyDivisor_71
    rw [hb]
    revert hd hbig
    generalize y / 2 ^ i = Q
    intro hd hbig
    by_cases q : Q % 2 = 1
    · have f1 : FR (fun x j => x = a ∧ j = 9) M (zsI M a 9 (nI i)) := (FR.rf _ M).sI ⟨rfl, rfl⟩
      obtain ⟨M', a1, a2, a3⟩ := ih (i + 1) f (zsI M a 9 (nI i)) (by omega)
      have hi40 := hbig (by omega)
      refine ⟨M', ?_, f1.tr a2, ?_⟩
      · rw [decide_eq_true q, if_pos (show true = true from rfl), if_pos (show nI 1 = (1 : Int32) from rfl), b_i, nI_1]
        exact a1
      · rw [a3, hd, zI_se, if_neg (show ¬ Q = 0 by omega), show e + 1 - 23 = (e - 23) + 1 by omega, bln]
        by_cases c : Q / 2 = 0
        · rw [if_pos c, if_pos c, Nat.add_zero]
        · rw [if_neg c, if_neg c]; congr 1; omega
    · obtain ⟨M', a1, a2, a3⟩ := ih (i + 1) f M (by omega)
      refine ⟨M', ?_, a2, ?_⟩
      · rw [decide_eq_false q, if_neg (show ¬ false = true by decide), if_neg (show ¬ nI 0 = (1 : Int32) by decide), nI_1]
        exact a1
      · rw [a3, hd]
        by_cases c : Q = 0
        · rw [if_pos c, if_pos (by omega)]
        · have hi40 := hbig c
          rw [if_neg c, if_neg (by omega), show e + 1 - 23 = (e - 23) + 1 by omega, bln, if_neg (by omega)]; congr 1; omega
theorem mdv_lt {g u c : Nat} (hg : g < 2 ^ c) : ∀ n, mdv g u n < 2 ^ (c + n) := by
  intro n
  induction n with
  | zero => exact Nat.pow_pos (by decide)
  | succ n ih =>
    rw [mdv]
    have h1 : 2 ^ (c + n) ≤ 2 ^ (c + (n + 1)) := Nat.pow_le_pow_right (by decide) (by omega)
    refine Nat.xor_lt_two_pow (by omega) ?_
    by_cases q : u.testBit n = true
    · rw [if_pos q, Nat.shiftLeft_eq]
      have : g * 2 ^ n < 2 ^ c * 2 ^ n := Nat.mul_lt_mul_of_pos_right hg (Nat.pow_pos (by decide))
      rw [← Nat.pow_add] at this; omega
    · rw [if_neg q]; exact Nat.pow_pos (by decide)
theorem c_md5 {a g u : Nat} (hu : u < 2 ^ 31) (h6 : m ≤ 6) (hg : g < 2 ^ 30) : ∀ e i f M, i + e = m + 1 → zI M a 6 = nI m → zL M a 12 = lN g → ∃ M', f_X1_multiplyDivisor_5 a (nI u) (e + 1 + f) (lN (mdv g u i)) (nI i) M = some M' ∧ FR (fun x j => x = a ∧ (j = 9 ∨ j = 12)) M M' ∧ zL M' a 12 = lN (mdv g u (m + 1)) ∧ (¬ mdv g u (m + 1) = 0 → zI M' a 9 = nI (bln 40 (mdv g u (m + 1) / 2))) := by
  intro e
  induction e with
  | zero =>
    intro i f M hi h m12
    have hi : i = m + 1 := by omega
    subst hi
    have hl := mdv_lt (u := u) hg (m + 1)
    have h37 : 2 ^ (30 + (m + 1)) ≤ 2 ^ 37 := Nat.pow_le_pow_right (by decide) (by omega)
    rw [show 0 + 1 + f = f + 1 by omega, f_X1_multiplyDivisor_5, h, if_pos (nI_lt (by omega) (by omega)), b_i]
    have f1 : FR (fun x j => x = a ∧ (j = 9 ∨ j = 12)) M (zsL M a 12 (lN (mdv g u (m + 1)))) := FR.sL (FR.rf _ M) (by omega)
    obtain ⟨M', a1, a2, a3⟩ := c_md48 (x1 := nI u) (a := a) (y := mdv g u (m + 1)) (by omega) 63 0 (1000000 - 64) (zsL M a 12 (lN (mdv g u (m + 1)))) (by omega)
    have a3 : zI M' a 9 = if mdv g u (m + 1) / 2 ^ 0 = 0 then zI (zsL M a 12 (lN (mdv g u (m + 1)))) a 9 else nI (0 + bln 40 (mdv g u (m + 1) / 2 ^ 0 / 2)) := a3
    refine ⟨M', a1, f1.tr (a2.mo (fun x j q => by omega)), ?_, fun q => by rw [a3, Nat.pow_zero, Nat.div_one, if_neg q, Nat.zero_add]⟩
    rw [a2.L (by omega), zL_sL, if_pos rfl, zup_at, if_pos rfl]
  | succ e ih =>
    intro i f M hi h m12
    obtain ⟨M', a1, a2⟩ := ih (i + 1) f M (by omega) h m12
    refine ⟨M', ?_, a2⟩
    rw [show e + 1 + 1 + f = (e + 1 + f) + 1 by omega, f_X1_multiplyDivisor_5, h, if_neg (nI_nlt (by omega) (by omega)), m12]
    unfold f_X1_multiplyDivisor_34
    rw [mdv] at a1
    by_cases q : u.testBit i = true
    · rw [if_pos q] at a1
      rw [if_pos ((ub_1 hu (by omega)).mpr q), b_i, lN_shl g (by omega), lN_xor, nI_1]
      exact a1
    · rw [if_neg q, Nat.xor_zero] at a1
      rw [if_neg (fun z => q ((ub_1 hu (by omega)).mp z)), nI_1]
      exact a1
theorem lsp_at {k : Nat} (h : (m, p) ∈ fPR) (hk : k < fN m) : 2 ≤ lsp m p k ∧ lsp m p k < 2 ^ (m + 1) ∧ sy m p (m + 1) (lsp m p k) k = 0 ∧ ∀ q, 2 ≤ q → q < lsp m p k → ¬ sy m p (m + 1) q k = 0 := by
  obtain ⟨R, r1, r2⟩ := fck_at h hk
  unfold lsp
  rw [r1]
  exact r2
def Wtq (c0 x j : Nat) : Prop := x = c0 + 1 ∧ (j = 8 ∨ j = 9 ∨ j = 12)
set_option maxRecDepth 100000 in
theorem gj1_all : fPR.all (fun q => (List.range 10).all (fun j => decide (¬ (gj q.2 (j + 1)).1 = 0))) = true := by decide +kernel
theorem gj1_ne (h : (m, p) ∈ fPR) {j : Nat} (hj : j < 10) : ¬ (gj p (j + 1)).1 = 0 := by
  have h0 := List.all_eq_true.mp gj1_all (m, p) h
  dsimp only at h0
  exact of_decide_eq_true (List.all_eq_true.mp h0 j (List.mem_range.mpr hj))
theorem c_tm17 (hz : zCh2 c0) (hP : (m, p) ∈ fPR) {t : Nat} (t5 : t ≤ 5) : ∀ e j f M, j + e = 2 * t → WRc M → CO M (c0 + 1) (c0 + 2) (c0 + 3) m p → zI M (c0 + 1) 6 = nI m → zI M (c0 + 1) 9 = nI (gj p j).2 → zL M (c0 + 1) 12 = lN (gj p j).1 → ∃ M', f_X1_takesMends_17 (c0 + 1) (nI t) (e + 1 + f) (nI (j + 1)) M = some (b01 (decide ((gj p (2 * t)).2 < fN m)), M') ∧ FR (fun x j => x = c0 + 1 ∧ (j = 9 ∨ j = 12)) M M' ∧ zI M' (c0 + 1) 9 = nI (gj p (2 * t)).2 ∧ zL M' (c0 + 1) 12 = lN (gj p (2 * t)).1 := by
  have hm := f_m hP
  have hm6 := f_m6 hP
  obtain ⟨g0, gs⟩ := gc1_at hP
  have h2t : 2 * nI t = nI (2 * t) := by rw [show (2 : Int32) = nI 2 from rfl, pk_mul]
  intro e
  induction e with
  | zero =>
    intro j f M hj hW hO h6 h9 h12
    have hj : j = 2 * t := by omega
    subst hj
    refine ⟨M, ?_, FR.rf _ M, h9, h12⟩
    have hc : (gj p (2 * t)).2 < 2 ^ 31 := by
      by_cases q : 2 * t < 10
      · have := (gs _ q).2.2; omega
      · have e10 : 2 * t = 10 := by omega
        have := (gc2_at (t := 5) hP (by decide) (by decide)).1
        rw [e10]
        have l1 := this.2.1
        have l2 : ∀ R e k P, (prd m p R e k P).length ≤ P.length + e := by
          intro R e
          induction e with
          | zero => intro k P; exact Nat.le_refl _
          | succ e ih2 =>
            intro k P
            rw [prd]
            have := ih2 (k + 1) (if R.testBit k then mulG m p k 0 P else P)
            by_cases q : R.testBit k = true
            · rw [if_pos q] at this ⊢; rw [mulG_len] at this; omega
            · rw [if_neg q] at this ⊢; omega
        have l3 := l2 (rts m 5).1 (fN m) 0 [1]
        rw [l1, List.length_singleton] at l3
        have l3 : (gj p 10).2 + 1 ≤ 1 + fN m := l3
        omega
    rw [show 0 + 1 + f = f + 1 by omega, f_X1_takesMends_17, h2t, if_pos (nI_lt (by omega) (by omega)), hO.sz, h9]
    unfold f_X1_takesMends_86
    by_cases q : (gj p (2 * t)).2 < fN m
    · rw [if_neg (nI_ge q (by omega)), zbz1, decide_eq_true q]; rfl
    · rw [if_pos (nI_le (by omega) hc), zbz0, decide_eq_false q]; rfl
  | succ e ih =>
    intro j f M hj hW hO h6 h9 h12
    obtain ⟨s1, s2, s3⟩ := gs j (by omega)
    have hk : (j + 1) % fN m < fN m := Nat.mod_lt _ (by omega)
    have key : ∃ M', f_X1_takesMends_42 (f_X1_takesMends_17 (c0 + 1) (nI t) (e + 1 + f)) (c0 + 1) (nI t) (nI (j + 1)) (nI ((j + 1) % fN m)) M = some (b01 (decide ((gj p (2 * t)).2 < fN m)), M') ∧ FR (fun x j => x = c0 + 1 ∧ (j = 9 ∨ j = 12)) M M' ∧ zI M' (c0 + 1) 9 = nI (gj p (2 * t)).2 ∧ zL M' (c0 + 1) 12 = lN (gj p (2 * t)).1 := by
      unfold f_X1_takesMends_42 f_X1_takesMends_64
      rw [h12, s_valueAt hO hk s2 (by omega), b_i]
      dsimp only
      unfold stpG at s1
      rw [hor_sy hP] at s1
      by_cases q : sy m p ((gj p j).2 + 1) (gj p j).1 ((j + 1) % fN m) = 0
      · rw [if_pos q] at s1
        have s1 := of_decide_eq_true s1
        rw [q, if_pos (show nI 0 = 0 from rfl), nI_1]
        exact ih (j + 1) f M (by omega) hW hO h6 (by rw [s1]; exact h9) (by rw [s1]; exact h12)
      · rw [if_neg q, Bool.and_eq_true] at s1
        have e1 := eq_of_beq s1.1
        have e2 := eq_of_beq s1.2
        obtain ⟨l1, l2, l3, l4⟩ := lsp_at hP hk
        have hlt : sy m p ((gj p j).2 + 1) (gj p j).1 ((j + 1) % fN m) < 2 ^ m := sy_lt hP
        have h27 : 2 ^ (m + 1) ≤ 2 ^ 7 := Nat.pow_le_pow_right (by decide) (by omega)
        have h30 : 2 ^ ((gj p j).2 + 1) ≤ 2 ^ 30 := Nat.pow_le_pow_right (by decide) (by omega)
        obtain ⟨M1, b1, b2, b3, b4⟩ := c_md5 (a := c0 + 1) (g := (gj p j).1) (u := lsp m p ((j + 1) % fN m)) (by omega) hm6.2 (by omega) (m + 1) 0 (1000000 - (m + 1) - 1) M (by omega) h6 h12
        rw [show m + 1 + 1 + (1000000 - (m + 1) - 1) = 1000000 by omega] at b1
        rw [if_neg (nI_ne0 (Nat.pos_of_ne_zero q) (by omega)), s_least hO h6 hk l1 l2 l3 l4, b_i]
        have b1' : f_X1_multiplyDivisor (c0 + 1) (nI (lsp m p ((j + 1) % fN m))) M = some M1 := b1
        dsimp only
        rw [b1', b_i, nI_1]
        obtain ⟨M', c1, c2, c3⟩ := ih (j + 1) f M1 (by omega) (b2.W hW) (hO.fr b2 (by omega) (fun _ => by omega) (fun _ => by omega)) ((b2.I (by omega)).trans h6) (by rw [b4 (by rw [e1]; exact gj1_ne hP (by omega)), e1, e2]) (by rw [b3, e1])
        exact ⟨M', c1, b2.tr c2, c3⟩
    rw [show e + 1 + 1 + f = (e + 1 + f) + 1 by omega, f_X1_takesMends_17, h2t, if_neg (nI_nlt (by omega) (by omega)), hO.sz]
    by_cases q : fN m ≤ j + 1
    · rw [if_pos (nI_le q (by omega)), pk_sub q]
      rw [Nat.mod_eq_sub_mod q, Nat.mod_eq_of_lt (by omega)] at key
      exact key
    · rw [if_neg (nI_ge (by omega) (by omega))]
      rw [Nat.mod_eq_of_lt (by omega)] at key
      exact key
theorem c_mends (hz : zCh2 c0) (hW : WRc M) (hO : CO M (c0 + 1) (c0 + 2) (c0 + 3) m p) (h6 : zI M (c0 + 1) 6 = nI m) {t : Nat} (t5 : t ≤ 5) : ∃ M', f_X1_takesMends (c0 + 1) (nI t) M = some (b01 (decide ((gj p (2 * t)).2 < fN m)), M') ∧ FR (Wtq c0) M M' ∧ zI M' (c0 + 1) 8 = nI t ∧ zI M' (c0 + 1) 9 = nI (gj p (2 * t)).2 ∧ zL M' (c0 + 1) 12 = lN (gj p (2 * t)).1 := by
  obtain ⟨g0, gs⟩ := gc1_at hO.pr
  have f1 : FR (Wtq c0) M (zsI (zsL (zsI M (c0 + 1) 8 (nI t)) (c0 + 1) 12 1) (c0 + 1) 9 0) := FR.sI (FR.sL (FR.sI (FR.rf _ M) (by unfold Wtq; omega)) (by unfold Wtq; omega)) (by unfold Wtq; omega)
  have k12 : zL (zsI (zsL (zsI M (c0 + 1) 8 (nI t)) (c0 + 1) 12 1) (c0 + 1) 9 0) (c0 + 1) 12 = 1 := by rw [zL_sI, zL_sL, if_pos rfl, zup_at, if_pos rfl]
  have k8 : zI (zsI (zsL (zsI M (c0 + 1) 8 (nI t)) (c0 + 1) 12 1) (c0 + 1) 9 0) (c0 + 1) 8 = nI t := by rw [zI_sn _ _ (by omega), zI_sL, zI_se]
  obtain ⟨M', a1, a2, a3, a4⟩ := c_tm17 hz hO.pr t5 (2 * t) 0 (1000000 - 2 * t - 1) _ (by omega) (f1.W hW) (hO.fr f1 (by unfold Wtq; omega) (fun _ => by unfold Wtq; omega) (fun _ => by unfold Wtq; omega)) ((f1.I (by unfold Wtq; omega)).trans h6) (by rw [zI_se, g0]; rfl) (by rw [k12, g0]; rfl)
  rw [show 2 * t + 1 + (1000000 - 2 * t - 1) = 1000000 by omega] at a1
  refine ⟨M', ?_, f1.tr (a2.mo (fun x j q => by unfold Wtq; omega)), (a2.I (by omega)).trans k8, a3, a4⟩
  unfold f_X1_takesMends
  rw [b_i, b_i, b_i]
  exact a1
theorem c_short (hz : zCh2 c0) (hW : WRc M) {n c s : Nat} (hn : n < 100) (hc : c < 100) (hs : s < 10000) (h7 : zI M (c0 + 1) 7 = nI n) (h9 : zI M (c0 + 1) 9 = nI c) : ∃ M', f_X1_takesShort (c0 + 1) (nI s) M = some (b01 (decide (c + s < n)), M') ∧ FR (fun x j => (x = c0 + 1 ∧ (j = 5 ∨ j = 10 ∨ j = 11)) ∨ x = c0 + 6) M M' ∧ (c + s < n → zI M' (c0 + 1) 10 = nI (n - s) ∧ zI M' (c0 + 1) 11 = nI (n - s - c)) ∧ zI M' (c0 + 1) 5 = 0 ∧ ∀ k, k < 4 → zI M' (c0 + 6) k = -1 := by
  have f1 : FR (fun x j => (x = c0 + 1 ∧ (j = 5 ∨ j = 10 ∨ j = 11)) ∨ x = c0 + 6) M (zsI (zsI (zsI M (c0 + 1) 10 (nI n - nI s)) (c0 + 1) 11 (nI n - nI s - nI c)) (c0 + 1) 5 0) := FR.sI (FR.sI (FR.sI (FR.rf _ M) (by omega)) (by omega)) (by omega)
  have sz : (zSH (c0 + 6)).2 = 4 := by rcases hz with rfl | rfl <;> rfl
  obtain ⟨M', a1, a2, a3⟩ := s_fill (zsI (zsI (zsI M (c0 + 1) 10 (nI n - nI s)) (c0 + 1) 11 (nI n - nI s - nI c)) (c0 + 1) 5 0) (v := -1) sz (by decide)
  have k10 : zI M' (c0 + 1) 10 = nI n - nI s := by rw [a2.I (by omega), zI_sn _ _ (by omega), zI_sn _ _ (by omega), zI_se]
  have k11 : zI M' (c0 + 1) 11 = nI n - nI s - nI c := by rw [a2.I (by omega), zI_sn _ _ (by omega), zI_se]
  refine ⟨M', ?_, f1.tr (a2.mo (fun x j q => by omega)), fun q => ⟨?_, ?_⟩, ?_, a3⟩
  · unfold f_X1_takesShort f_X1_takesShort_48
    rw [b_i, h7, b_i, zI_se, zI_sn _ _ (by omega), h9, b_i, zrf_sI, zrf_sI, zrf_sI, wK_4 hW hz, b_i, a1, b_i, k11, ← iI_n n, ← iI_n s, ← iI_n c, iI_sub, iI_sub]
    have hle : (iI ((n : Int) - (s : Int) - (c : Int)) ≤ 0) ↔ ((n : Int) - (s : Int) - (c : Int) ≤ 0) := iI_le (a := (n : Int) - (s : Int) - (c : Int)) (b := 0) (by unfold sm; omega) (by unfold sm; omega)
    by_cases q : c + s < n
    · rw [if_neg (fun z => by have := hle.mp z; omega), zbz1, decide_eq_true q]; rfl
    · rw [if_pos (hle.mpr (by omega)), zbz0, decide_eq_false q]; rfl
  · rw [k10, pk_sub (by omega)]
  · rw [k11, pk_sub (by omega), pk_sub (by omega)]
  · rw [a2.I (by omega), zI_se]
end
