/-! calls: image, both -/
theorem s_mRow {M : Mem} {i : Nat} {h : CH} {r : RW} {l : List Nat} {k30 : Int32 → Mem → Option (Int32 × Mem)} (hW : WRc M) (v : CV h) (hC : MC M h) (hi : i < 6) (hr : MR M 0 i (kN h) r) (hw : r.1 = true) (hV : RV (kM h) (kP h) (kT h) (kN h) r) (hl : l.length ≤ 400) (hI : IMm M l) : ∃ M', f_X12_image_78 k30 355 1000000 (nI i) 56 M = k30 (nI (i + 1)) M' ∧ FR Wim M M' ∧ IMm M' (l ++ wbB r.2.2.1 8 ++ lvB r (kN h)) := by
  have hn := v.n63
  obtain ⟨v1, v2, v3, v4⟩ := hV hw
  have h64 : (2 : Nat) ^ kN h ≤ 2 ^ 63 := Nat.pow_le_pow_right (by decide) hn.1
  have hfr : ∀ M0, FR Wim M M0 → MR M0 0 i (kN h) r := fun M0 f => hr.fr hn.1 f (by unfold Wim; omega) (by unfold Wim; omega) (by unfold Wim; omega) (fun k _ => by unfold Wim; omega)
  have h39 : ∀ M0, FR Wim M M0 → zI M0 355 39 = nI (kN h) := fun M0 f => by
    obtain ⟨bk, ⟨-, -, hMD⟩, -⟩ := hC
    exact (f.I (by unfold Wim; omega)).trans hMD.2.2.1
  have lev : ∀ e k f M0 l0, k + e = kN h → FR Wim M M0 → l0.length ≤ 410 → IMm M0 (l0 ++ lvB r k) → ∃ M', f_X12_image_107 k30 355 (e + 1 + f) (nI i) (nI k) M0 = k30 (nI (i + 1)) M' ∧ FR Wim M M' ∧ IMm M' (l0 ++ lvB r (kN h)) := by
    intro e
    induction e with
    | zero =>
      intro k f M0 l0 ek fr hl0 h0
      have : k = kN h := by omega
      subst this
      refine ⟨M0, ?_, fr, h0⟩
      rw [show 0 + 1 + f = f + 1 by omega, f_X12_image_107, h39 M0 fr, if_pos (nI_le (Nat.le_refl _) (by omega))]
      unfold f_X12_image_132
      rw [nI_1]
    | succ e ih =>
      intro k f M0 l0 ek fr hl0 h0
      have hr0 := hfr M0 fr
      have hlk := v4 k (by omega)
      obtain ⟨M1, a1, a2, a3⟩ := s_writes (b := r.2.2.2 k) (x := nI (r.2.2.2 k)) (and255 (by omega)) (fr.W hW) (by rw [List.length_append, lvB_l]; omega) h0
      rw [List.append_assoc] at a3
      obtain ⟨M2, b1, b2, b3⟩ := ih (k + 1) f M1 l0 (by omega) (fr.tr a2) hl0 a3
      refine ⟨M2, ?_, b2, b3⟩
      rw [show e + 1 + 1 + f = (e + 1 + f) + 1 by omega, f_X12_image_107, h39 M0 fr, if_neg (nI_ge (by omega) (by omega)), show f_X12_levelAt 355 0 (nI i) (nI k) M0 = some (nI (r.2.2.2 k), M0) from (s_levelAt (v := 0) (fr.W hW) (by decide) hi (by omega)).trans (by rw [(hr0.2 hw).2.2 k (by omega)]), b_i]
      dsimp only
      rw [a1, b_i, nI_1]
      exact b1
  have wrd : ∀ e k f M0 l0, k + e = 8 → FR Wim M M0 → l0.length ≤ 400 → IMm M0 (l0 ++ wbB r.2.2.1 k) → ∃ M', f_X12_image_78 k30 355 (e + 1 + f) (nI i) (if k = 8 then -8 else nI (56 - 8 * k)) M0 = k30 (nI (i + 1)) M' ∧ FR Wim M M' ∧ IMm M' (l0 ++ wbB r.2.2.1 8 ++ lvB r (kN h)) := by
    intro e
    induction e with
    | zero =>
      intro k f M0 l0 ek fr hl0 h0
      have : k = 8 := by omega
      subst this
      obtain ⟨M2, b1, b2, b3⟩ := lev (kN h) 0 (1000000 - kN h - 1) M0 (l0 ++ wbB r.2.2.1 8) (by omega) fr (by rw [List.length_append, wbB_l]; omega) (by rw [show lvB r 0 = [] from rfl, List.append_nil]; exact h0)
      rw [show kN h + 1 + (1000000 - kN h - 1) = 1000000 by omega] at b1
      refine ⟨M2, ?_, b2, b3⟩
      rw [if_pos rfl, show 0 + 1 + f = f + 1 by omega, f_X12_image_78]
      exact ip (by decide) b1
    | succ e ih =>
      intro k f M0 l0 ek fr hl0 h0
      have hr0 := hfr M0 fr
      have hr4 := (hr0.2 hw).2.1
      rw [Nat.mul_zero, Nat.zero_add] at hr4
      obtain ⟨M1, a1, a2, a3⟩ := s_writes (b := (r.2.2.1 >>> (56 - 8 * k)) &&& 255) (x := nI ((r.2.2.1 >>> (56 - 8 * k)) &&& 255)) (and255 (b255 _)) (fr.W hW) (by rw [List.length_append, wbB_l]; omega) h0
      rw [List.append_assoc] at a3
      obtain ⟨M2, b1, b2, b3⟩ := ih (k + 1) f M1 l0 (by omega) (fr.tr a2) hl0 a3
      refine ⟨M2, ?_, b2, b3⟩
      rw [if_neg (by omega), show e + 1 + 1 + f = (e + 1 + f) + 1 by omega, f_X12_image_78, if_neg (nI_pos (by omega)), w355_58 (fr.W hW), b_i, zl_at 132 rfl (by omega) (by decide), b_i, hr4, lN_shr (by omega) (by omega), show (255 : Int64) = lN 255 from rfl, lN_and, lN_i, a1, b_i]
      have : nI (56 - 8 * k) + (-8) = if k + 1 = 8 then -8 else nI (56 - 8 * (k + 1)) := by
        by_cases e8 : k + 1 = 8
        · rw [if_pos e8, show 56 - 8 * k = 0 by omega]; rfl
        · rw [if_neg e8, show (-8 : Int32) = -nI 8 from rfl, nI_s2 (k := 8) (by omega) rfl]; congr 1
      rw [this]
      exact b1
  exact wrd 8 0 999991 M l rfl (FR.rf _ M) hl (by rw [show wbB r.2.2.1 0 = [] from rfl, List.append_nil]; exact hI)
theorem wbB_b (w : Nat) : ∀ k x, x ∈ wbB w k → x < 256 := by
  intro k; induction k with
  | zero => intro x hx; cases hx
  | succ k ih =>
    intro x hx
    rcases List.mem_append.mp hx with q | q
    · exact ih x q
    · rw [List.mem_singleton.mp q]; exact b255 _
theorem lvB_b {r : RW} {n : Nat} (hl : ∀ k, k < n → r.2.2.2 k ≤ 99) : ∀ k, k ≤ n → ∀ x, x ∈ lvB r k → x < 256 := by
  intro k; induction k with
  | zero => intro _ x hx; cases hx
  | succ k ih =>
    intro hk x hx
    rcases List.mem_append.mp hx with q | q
    · exact ih (by omega) x q
    · rw [List.mem_singleton.mp q]; have := hl k (by omega); omega
theorem rowB_b {h : CH} {r : RW} (hV : RV (kM h) (kP h) (kT h) (kN h) r) : ∀ x, x ∈ rowB h r → x < 256 := by
  intro x hx
  unfold rowB at hx
  by_cases e : r.1 = true
  · obtain ⟨v1, -, -, v4⟩ := hV e
    rw [if_pos e] at hx
    rcases List.mem_append.mp hx with q | q
    · rcases List.mem_append.mp q with q | q
      · rcases List.mem_cons.mp q with q | q
        · omega
        · rw [List.mem_singleton.mp q]; omega
      · exact wbB_b _ _ x q
    · exact lvB_b v4 _ (Nat.le_refl _) x q
  · rw [if_neg e] at hx
    rw [List.mem_singleton.mp hx]; decide
theorem rwB_b {h : CH} {S : PSt} (hS : SV h S) (hd : S.1 ≤ 999) : ∀ k, k ≤ 6 → ∀ x, x ∈ rwB h S k → x < 256 := by
  intro k; induction k with
  | zero =>
    intro _ x hx
    rcases List.mem_cons.mp hx with q | q
    · rw [q, Nat.shiftRight_eq_div_pow]; omega
    · rw [List.mem_singleton.mp q]; exact b255 _
  | succ k ih =>
    intro hk x hx
    rcases List.mem_append.mp hx with q | q
    · exact ih (by omega) x q
    · exact rowB_b (hS k (by omega)) x q
theorem lg_mem {l : List Nat} {k : Nat} (hk : k < l.length) : lg l k ∈ l := by
  unfold lg
  rw [List.getElem?_eq_getElem hk]
  exact List.getElem_mem hk
def imB (h : CH) (S : PSt) (k : Nat) : List Nat := rwB h S k ++ [smB (rwB h S k) (rwB h S k).length]
theorem c_image {M : Mem} {c0 q : Nat} {h : CH} {S : PSt} (hW : WRc M) (v : CV h) (hC : ∀ M0, FR Wic M M0 → zI M0 (c0 + 1) 10 = nI (kN h)) (hz : zCh2 c0) (hcur : zrf M 0 11 = some c0) (hS : CP M 13 (kN h) S) (hV : SV h S) (hd : S.1 ≤ 999) (hq : q ≤ 6) : ∃ M', f_X4_build 333 13 c0 (nI q) M = some M' ∧ FR Wic M M' ∧ IMc M' (imB h S q) := by
  have hfr : ∀ M0, FR Wic M M0 → CP M0 13 (kN h) S := fun M0 f => hS.fr f (fun a j _ _ => by unfold Wic; omega)
  have f0 : FR Wic M (zsI M 333 1 0) := (FR.rf _ M).sI (by unfold Wic; omega)
  have i0 : IMc (zsI M 333 1 0) [] := ⟨zI_se _ _ _ _, fun k hk => absurd hk (by simp)⟩
  obtain ⟨M1, a1, a2, a3⟩ := s_iput (b := S.1 >>> 8) (f0.W hW) (by decide) i0
  obtain ⟨M2, b1, b2, b3⟩ := s_iput (b := S.1 &&& 255) (a2.W (f0.W hW)) (by simp) a3
  have f2 := (f0.tr a2).tr b2
  have lp : ∀ e k f M0, k + e = q → FR Wic M M0 → IMc M0 (rwB h S k) → ∃ M', f_X4_build_31 333 13 c0 (nI q) (e + 1 + f) (nI k) M0 = some M' ∧ FR Wic M M' ∧ IMc M' (imB h S q) := by
    intro e
    induction e with
    | zero =>
      intro k f M0 ek fr h0
      have : k = q := by omega
      subst this
      have hlen := rwB_l v S k
      have hbb := rwB_b hV hd k hq
      have sm := s_sum (M := M0) (a := 334) (q := 441) (n := (rwB h S k).length) (l := fun i => lg (rwB h S k) i) rfl (by decide) (by omega) h0.2 (fun i hi => hbb _ (lg_mem hi)) (rwB h S k) (fun _ _ => rfl)
      obtain ⟨M3, d1, d2, d3⟩ := s_iput (b := smB (rwB h S k) (rwB h S k).length) (fr.W hW) (by omega) h0
      refine ⟨M3, ?_, fr.tr d2, d3⟩
      rw [show 0 + 1 + f = f + 1 by omega, f_X4_build_31, if_pos (nI_le (Nat.le_refl _) (by omega)), w333_0 (fr.W hW), b_i, h0.1, sm, b_i]
      dsimp only
      rw [d1, b_i]
    | succ e ih =>
      intro k f M0 ek fr h0
      have hlen := rwB_l v S k
      obtain ⟨M3, d1, d2, d3⟩ := s_putRow (fr.W hW) v (pq_r (Or.inl rfl : PQ 13) (by omega : k < 6)) ((hfr M0 fr).2 k (by omega)) (hV k (by omega)) (by omega) h0
      obtain ⟨M4, e1, e2, e3⟩ := ih (k + 1) f M3 (by omega) (fr.tr d2) d3
      refine ⟨M4, ?_, e2, e3⟩
      rw [show e + 1 + 1 + f = (e + 1 + f) + 1 by omega, f_X4_build_31, if_neg (nI_ge (by omega) (by omega)), pq_0 (fr.W hW) (Or.inl rfl : PQ 13), b_i, zl_at 6 (pq_get (Or.inl rfl)).2.1 (by omega) (by decide), b_i, pq_1 (fr.W hW) (Or.inl rfl : PQ 13) (by omega), b_i, wC_0 (fr.W hW) hz, b_i, hC M0 fr, d1, b_i, nI_1]
      exact e1
  obtain ⟨M4, e1, e2, e3⟩ := lp q 0 (1000000 - q - 1) M2 (by omega) f2 b3
  rw [show q + 1 + (1000000 - q - 1) = 1000000 by omega] at e1
  refine ⟨M4, ?_, e2, e3⟩
  have d1 : zI (zsI M 333 1 0) 13 1 = nI S.1 := (f0.I (by unfold Wic; omega)).trans hS.1
  have d2 : zI M1 13 1 = nI S.1 := (a2.I (by unfold Wic; omega)).trans d1
  unfold f_X4_build
  rw [b_i, d1, show ((8 : Int32) &&& 31) = (nI 8 &&& 31) from rfl, nI_shr (by omega) (by decide), a1, b_i, d2, show (255 : Int32) = nI 255 from rfl, nI_and, b1, b_i]
  exact e1
theorem m_image {M : Mem} {h : CH} {S : PSt} (hW : WRc M) (v : CV h) (hC : MC M h) (hS : MP M 0 (kN h) S) (hV : SV h S) (hd : S.1 ≤ 999) : ∃ M', f_X12_image 355 M = some (nI (imB h S (kQ h)).length, M') ∧ FR Wim M M' ∧ IMm M' (imB h S (kQ h)) := by
  have hq := v.q
  have hn := v.n63
  have hfr : ∀ M0, FR Wim M M0 → MP M0 0 (kN h) S := fun M0 f => hS.fr hn.1 f (fun a j p q => by unfold Wla at p; unfold Wim at q; omega)
  have hcf : ∀ M0, FR Wim M M0 → MC M0 h := fun M0 f => hC.fr f (fun a j p q => by unfold Wmc at p; unfold Wim at q; omega)
  have f0 : FR Wim M (zsI M 355 75 0) := (FR.rf _ M).sI (by unfold Wim; omega)
  have i0 : IMm (zsI M 355 75 0) [] := ⟨zI_se _ _ _ _, fun k hk => absurd hk (by simp)⟩
  have hd8 : S.1 >>> 8 < 256 := by rw [Nat.shiftRight_eq_div_pow]; omega
  obtain ⟨M1, a1, a2, a3⟩ := s_writes (b := S.1 >>> 8) (x := nI (S.1 >>> 8)) (and255 hd8) (f0.W hW) (by decide) i0
  obtain ⟨M2, b1, b2, b3⟩ := s_writes (b := S.1 &&& 255) (x := nI S.1) (by rw [show (255 : Int32) = nI 255 from rfl, nI_and]) (a2.W (f0.W hW)) (by simp) a3
  have f2 := (f0.tr a2).tr b2
  have lp : ∀ e k f M0, k + e = kQ h → FR Wim M M0 → IMm M0 (rwB h S k) → ∃ M', f_X12_image_30 355 (e + 1 + f) (nI k) M0 = some (nI (imB h S (kQ h)).length, M') ∧ FR Wim M M' ∧ IMm M' (imB h S (kQ h)) := by
    intro e
    induction e with
    | zero =>
      intro k f M0 ek fr h0
      have : k = kQ h := by omega
      subst this
      have hW0 := fr.W hW
      have hlen := rwB_l v S (kQ h)
      have hbb := rwB_b hV hd (kQ h) hq
      obtain ⟨bk, ⟨c1, c2, -⟩, -, c5, -⟩ := hcf M0 fr
      have hsl := smB_lt (rwB h S (kQ h)) (rwB h S (kQ h)).length
      obtain ⟨M3, d1, d2, d3⟩ := s_writes (b := smB (rwB h S (kQ h)) (rwB h S (kQ h)).length) (x := nI (smB (rwB h S (kQ h)) (rwB h S (kQ h)).length)) (and255 (by omega)) hW0 (by omega) h0
      have sl : ∀ e k f, k + e = (rwB h S (kQ h)).length → f_X12_image_144 355 (e + 1 + f) (nI (smB (rwB h S (kQ h)) k)) (nI k) M0 = some (zI M3 355 75, M3) := by
        intro e
        induction e with
        | zero =>
          intro k f ek
          have : k = (rwB h S (kQ h)).length := by omega
          subst this
          rw [show 0 + 1 + f = f + 1 by omega, f_X12_image_144, h0.1, if_pos (nI_le (Nat.le_refl _) (by omega)), d1, b_i]
        | succ e ih =>
          intro k f ek
          have h1 := smB_lt (rwB h S (kQ h)) k
          have h2 := hbb _ (lg_mem (show k < (rwB h S (kQ h)).length by omega))
          rw [show e + 1 + 1 + f = (e + 1 + f) + 1 by omega, f_X12_image_144, h0.1, if_neg (nI_ge (by omega) (by omega)), w355_74 hW0, b_i, zl_at 500 rfl (by omega) (by decide), b_i, h0.2 k (by omega), show (5 : Int32) = nI 5 from rfl, pk_mul, nI_add, show (251 : Int32) = nI 251 from rfl, zrem_nI (by omega) (by decide) (by decide), nI_1]
          exact ih (k + 1) f (by omega)
      have sl0 := sl (rwB h S (kQ h)).length 0 (1000000 - (rwB h S (kQ h)).length - 1) (by omega)
      rw [show (rwB h S (kQ h)).length + 1 + (1000000 - (rwB h S (kQ h)).length - 1) = 1000000 by omega, d3.1] at sl0
      refine ⟨M3, ?_, fr.tr d2, d3⟩
      rw [show 0 + 1 + f = f + 1 by omega, f_X12_image_30, w355_15 hW0, b_i, c2, zl_at 2 rfl (by omega) (by decide), b_i, c5, if_pos (nI_le (Nat.le_refl _) (by omega))]
      exact sl0
    | succ e ih =>
      intro k f M0 ek fr h0
      have hW0 := fr.W hW
      have hlen := rwB_l v S k
      obtain ⟨bk, ⟨c1, c2, -⟩, -, c5, -⟩ := hcf M0 fr
      have hr := (hfr M0 fr).2 k (by omega)
      have hr1 := hr.1
      rw [Nat.mul_zero, Nat.zero_add] at hr1
      have hrow : rwB h S (k + 1) = rwB h S k ++ rowB h (S.2 k) := rfl
      unfold rowB at hrow
      rw [show e + 1 + 1 + f = (e + 1 + f) + 1 by omega, f_X12_image_30, w355_15 hW0, b_i, c2, zl_at 2 rfl (by omega) (by decide), b_i, c5, if_neg (nI_ge (by omega) (by omega)), w355_56 hW0, b_i, zl_at 132 rfl (by omega) (by decide), b_i, hr1]
      cases hb : (S.2 k).1 with
      | false =>
        rw [hb, if_neg (by decide)] at hrow
        obtain ⟨M3, d1, d2, d3⟩ := s_writes (b := 0) (x := b01 false) rfl hW0 (by omega) h0
        rw [← hrow] at d3
        obtain ⟨M4, e1, e2, e3⟩ := ih (k + 1) f M3 (by omega) (fr.tr d2) d3
        refine ⟨M4, ?_, e2, e3⟩
        have q1 : zI M3 382 k = b01 false := (d2.I (by unfold Wim; omega)).trans (by rw [hr1, hb])
        rw [d1, b_i, w355_56 (d2.W hW0), b_i, zl_at 132 rfl (by omega) (by decide), b_i, q1, if_pos b01_f]
        unfold f_X12_image_132
        rw [nI_1]
        exact e1
      | true =>
        rw [hb, if_pos rfl] at hrow
        obtain ⟨w1, w2, w3⟩ := hr.2 hb
        rw [Nat.mul_zero, Nat.zero_add] at w1
        obtain ⟨v1, v2, v3, v4⟩ := hV k (by omega) hb
        obtain ⟨M3, d1, d2, d3⟩ := s_writes (b := 1) (x := b01 true) rfl hW0 (by omega) h0
        obtain ⟨M4, e1, e2, e3⟩ := s_writes (b := (S.2 k).2.1) (x := nI (S.2 k).2.1) (and255 (by omega)) (d2.W hW0) (by rw [len_a]; omega) d3
        have f4 := (fr.tr d2).tr e2
        obtain ⟨M5, g1, g2, g3⟩ := s_mRow (k30 := f_X12_image_30 355 (e + 1 + f)) (f4.W hW) v (hcf M4 f4) (by omega : k < 6) ((hfr M4 f4).2 k (by omega)) hb (hV k (by omega)) (by rw [len_a, len_a]; omega) e3
        have : rwB h S k ++ [1] ++ [(S.2 k).2.1] ++ wbB (S.2 k).2.2.1 8 ++ lvB (S.2 k) (kN h) = rwB h S (k + 1) := by
          rw [hrow]; simp [List.append_assoc]
        rw [this] at g3
        obtain ⟨M6, y1, y2, y3⟩ := ih (k + 1) f M5 (by omega) (f4.tr g2) g3
        refine ⟨M6, ?_, y2, y3⟩
        have q1 : zI M3 382 k = b01 true := (d2.I (by unfold Wim; omega)).trans (by rw [hr1, hb])
        have q2 : zI M3 383 k = nI (S.2 k).2.1 := (d2.I (by unfold Wim; omega)).trans w1
        rw [d1, b_i, w355_56 (d2.W hW0), b_i, zl_at 132 rfl (by omega) (by decide), b_i, q1, if_neg b01_n0, w355_57 (d2.W hW0), b_i, zl_at 132 rfl (by omega) (by decide), b_i, q2, e1, b_i, g1]
        exact y1
  obtain ⟨M4, e1, e2, e3⟩ := lp (kQ h) 0 (1000000 - kQ h - 1) M2 (by omega) f2 b3
  rw [show kQ h + 1 + (1000000 - kQ h - 1) = 1000000 by omega] at e1
  refine ⟨M4, ?_, e2, e3⟩
  have d1 : zI (zsI M 355 75 0) 381 0 = nI S.1 := (f0.I (by unfold Wim; omega)).trans hS.1
  have d2 : zI M1 381 0 = nI S.1 := (a2.I (by unfold Wim; omega)).trans d1
  unfold f_X12_image
  rw [b_i, w355_55 (f0.W hW), b_i, show zld 381 0 = some 0 from rfl, b_i, d1, show ((8 : Int32) &&& 31) = (nI 8 &&& 31) from rfl, nI_shr (by omega) (by decide), a1, b_i, w355_55 (a2.W (f0.W hW)), b_i, show zld 381 0 = some 0 from rfl, b_i, d2, b1, b_i]
  exact e1
theorem RST.imX {W : Nat → Nat → Prop} {M M4 : Mem} (g : RST M) (f : FR W M M4) (hw : ∀ a j, Wre2 a j → ¬ Wic a j → ¬ Wim a j → ¬ W a j) (ht : I_img M4) : RST M4 := by
  obtain ⟨⟨c, s, p, r1, r2, r3, r4, r5⟩, ⟨t, t1, t2, t3, t4⟩, g3, ⟨sd, s1, s2, s3⟩, g5, -, ⟨mt, m1, m2, m3, m4⟩, g8⟩ := g
  have hI : ∀ a j, Wre2 a j → ¬ Wic a j → ¬ Wim a j → zI M4 a j = zI M a j := fun a j x y z => f.I (hw a j x y z)
  refine ⟨⟨c, s, p, f.W r1, by rw [f.1]; exact r2, by rw [f.1]; exact r3, by rw [f.1]; exact r4, r5⟩, ⟨t, t1, (hI _ _ (by unfold Wre2; omega) (by unfold Wic; omega) (by unfold Wim; omega)).trans t2, (hI _ _ (by unfold Wre2; omega) (by unfold Wic; omega) (by unfold Wim; omega)).trans t3, fun k hk => ?_⟩, fun i hi => ?_, ⟨sd, s1, (hI _ _ (by unfold Wre2; omega) (by unfold Wic; omega) (by unfold Wim; omega)).trans s2, (f.L (hw _ _ (by unfold Wre2; omega) (by unfold Wic; omega) (by unfold Wim; omega))).trans s3⟩, ?_, ht, ⟨mt, m1, (hI _ _ (by unfold Wre2; omega) (by unfold Wic; omega) (by unfold Wim; omega)).trans m2, (hI _ _ (by unfold Wre2; omega) (by unfold Wic; omega) (by unfold Wim; omega)).trans m3, fun i hi => ?_⟩, fun i hi => (hI _ _ (by unfold Wre2; omega) (by unfold Wic; omega) (by unfold Wim; omega)).trans (g8 i hi)⟩
  · obtain ⟨e1, b, hb, e2⟩ := t4 k hk
    rw [hI 1 k (by unfold Wre2; omega) (by unfold Wic; omega) (by unfold Wim; omega), hI 356 k (by unfold Wre2; omega) (by unfold Wic; omega) (by unfold Wim; omega)]
    exact ⟨e1, b, hb, e2⟩
  · rw [hI 2 i (by unfold Wre2; omega) (by unfold Wic; omega) (by unfold Wim; omega), hI 371 i (by unfold Wre2; omega) (by unfold Wic; omega) (by unfold Wim; omega)]; exact g3 i hi
  · refine ⟨?_, fun i hi => (hI 354 i (by unfold Wre2; omega) (by unfold Wic; omega) (by unfold Wim; omega)).trans (g5.2 i hi)⟩
    unfold I_fault0
    rw [hI 353 4 (by unfold Wre2; omega) (by unfold Wic; omega) (by unfold Wim; omega), hI 353 5 (by unfold Wre2; omega) (by unfold Wic; omega) (by unfold Wim; omega), hI 355 10 (by unfold Wre2; omega) (by unfold Wic; omega) (by unfold Wim; omega), hI 355 11 (by unfold Wre2; omega) (by unfold Wic; omega) (by unfold Wim; omega)]; exact g5.1
  · obtain ⟨a, o, e1, e2, e3, e4, e5, e6⟩ := m4 i hi
    exact ⟨a, o, e1, e2, (hI _ _ (by unfold Wre2; omega) (by unfold Wic; omega) (by unfold Wim; omega)).trans e3, (hI _ _ (by unfold Wre2; omega) (by unfold Wic; omega) (by unfold Wim; omega)).trans e4, (hI _ _ (by unfold Wre2; omega) (by unfold Wic; omega) (by unfold Wim; omega)).trans e5, (hI _ _ (by unfold Wre2; omega) (by unfold Wic; omega) (by unfold Wim; omega)).trans e6⟩
theorem imgI {M M1 M2 : Mem} {s : Nat} (g : Inv M s) {l : List Nat} (hl : l.length ≤ 441) (f1 : FR Wic M M1) (i1 : IMc M1 l) (f2 : FR Wim M1 M2) (i2 : IMm M2 l) : Inv M2 (s + 1) := by
  have ft : FR (fun a j => Wic a j ∨ Wim a j) M M2 := (f1.mo (fun _ _ q => Or.inl q)).tr (f2.mo (fun _ _ q => Or.inr q))
  refine (Inv.mk' (g.rst.imX ft (fun a j p n1 n2 q => q.elim n1 n2) ⟨l.length, hl, (f2.I (by unfold Wim; omega)).trans i1.1, i2.1, fun k hk => ?_⟩) (st_sm g.st (ft.mo (fun a j q => by unfold Wic Wim at q; unfold Wsm; omega)))).mono (by omega)
  rw [f2.I (by unfold Wim; omega), i1.2 k hk, i2.2 k hk]
theorem op_image : OPb (f_X11_image 0) (f_X12_image 355) := by
  intro M s hs g
  have hW := g.rst.W
  rcases g.st with ⟨c0, h, S, T, E, c, sv, l, lv, hT⟩ | o
  · have hz : c0 = 335 ∨ c0 = 344 := l.cc.z
    have hd := lv.2.1.2.1
    obtain ⟨M1, a1, a2, a3⟩ := c_image (q := kQ h) hW lv.1 (fun M0 f => (f.I (by unfold Wic; omega)).trans l.cc.n) l.cc.z l.cur l.cp lv.2.1.1 hd lv.1.q
    have l1 := l.m.fr lv.1 a2 (fun a j q => by unfold Wic at q; omega)
    obtain ⟨M2, b1, b2, b3⟩ := m_image (a2.W hW) lv.1 l1.1 l1.2.2.1 lv.2.1.1 hd
    have hlen : (imB h S (kQ h)).length ≤ 441 := by
      unfold imB
      rw [len_a]
      have := rwB_l lv.1 S (kQ h)
      have := lv.1.q
      omega
    refine ⟨nI (imB h S (kQ h)).length, M1, M2, ?_, b1, imgI g hlen a2 a3 b2 b3⟩
    unfold f_X11_image f_X11_image_30
    rw [w0_10 hW, b_i, w0_5 hW, b_i, l.cur, b_i, l.on.1, if_neg (show ¬ (1 : Int32) = 0 by decide), b_i, l.cc.q, a1, b_i, w0_10 (a2.W hW), b_i, a3.1]
  · obtain ⟨⟨o1, o2⟩, ⟨o3, o4, o5, o6⟩, ⟨o7, o8, o9, o10⟩, ⟨o11, o12, o13, o14, o15, o16⟩, o17⟩ := o
    obtain ⟨c, s', p, w1, w2, w3, w4, w5, w6⟩ := g.rst.1
    have hcur : zrf M 0 11 = some c := zrf_of w2
    have f0 : FR Wic M (zsI M 333 1 0) := (FR.rf _ M).sI (by unfold Wic; omega)
    have i0 : IMc (zsI M 333 1 0) [] := ⟨zI_se _ _ _ _, fun k hk => absurd hk (by simp)⟩
    obtain ⟨M1, a1, a2, a3⟩ := s_iput (b := 0) (f0.W hW) (by decide) i0
    obtain ⟨M2, b1, b2, b3⟩ := s_iput (b := 0) (a2.W (f0.W hW)) (by decide) a3
    have f2 := (f0.tr a2).tr b2
    have b3 : IMc M2 [0, 0] := b3
    have sm := s_sum (M := M2) (a := 334) (q := 441) (n := 2) (l := fun i => lg [0, 0] i) rfl (by decide) (by decide) b3.2 (fun i hi => by
      have : i = 0 ∨ i = 1 := by omega
      rcases this with e | e <;> subst e <;> decide) [0, 0] (fun _ _ => rfl)
    obtain ⟨M3, d1, d2, d3⟩ := s_iput (b := smB [0, 0] 2) (f2.W hW) (by decide) b3
    have f3 := f2.tr d2
    have f0' : FR Wim M3 (zsI M3 355 75 0) := (FR.rf _ M3).sI (by unfold Wim; omega)
    have i0' : IMm (zsI M3 355 75 0) [] := ⟨zI_se _ _ _ _, fun k hk => absurd hk (by simp)⟩
    have hW3 := f3.W hW
    obtain ⟨M4, e1, e2, e3⟩ := s_writes (b := 0) (x := 0) rfl (f0'.W hW3) (by decide) i0'
    obtain ⟨M5, g1, g2, g3⟩ := s_writes (b := 0) (x := 0) rfl (e2.W (f0'.W hW3)) (by decide) e3
    have f5 := (f0'.tr e2).tr g2
    have hW5 := f5.W hW3
    have g3 : IMm M5 [0, 0] := g3
    obtain ⟨M6, y1, y2, y3⟩ := s_writes (b := smB [0, 0] 2) (x := nI (smB [0, 0] 2)) (and255 (by decide)) hW5 (by decide) g3
    have hI3 : ∀ a j, 336 ≤ a → zI M3 a j = zI M a j := fun a j h => f3.I (by unfold Wic; omega)
    have hI5 : ∀ a j, 336 ≤ a → ¬ Wim a j → zI M5 a j = zI M a j := fun a j h w => (f5.I w).trans (hI3 a j h)
    refine ⟨nI 3, M3, M6, ?_, ?_, imgI g (l := [0, 0, smB [0, 0] 2]) (by decide) f3 d3 (f5.tr y2) y3⟩
    · unfold f_X11_image f_X11_image_30
      have q1 : zI (zsI M 333 1 0) 13 1 = 0 := (f0.I (by unfold Wic; omega)).trans o5
      have q2 : zI M1 13 1 = 0 := (a2.I (by unfold Wic; omega)).trans q1
      rw [w0_10 hW, b_i, w0_5 hW, b_i, hcur, b_i, o1, if_pos rfl]
      unfold f_X4_build
      rw [b_i, q1, show (0 : Int32) >>> (8 &&& 31) = nI 0 from rfl, a1, b_i, q2, show (0 : Int32) &&& 255 = nI 0 from rfl, b1, b_i, show (1000000 : Nat) = 999999 + 1 from rfl, f_X4_build_31, if_pos (show (0 : Int32) ≤ 0 by decide), w333_0 (f2.W hW), b_i, b3.1, show nI ([0, 0] : List Nat).length = nI 2 from rfl, sm, b_i]
      dsimp only
      rw [d1, b_i, b_i, w0_10 hW3, b_i, d3.1]; rfl
    · unfold f_X12_image
      have q1 : zI (zsI M3 355 75 0) 381 0 = 0 := (f0'.I (by unfold Wim; omega)).trans ((hI3 _ _ (by omega)).trans o9)
      have q2 : zI M4 381 0 = 0 := (e2.I (by unfold Wim; omega)).trans q1
      rw [b_i, w355_55 (f0'.W hW3), b_i, show zld 381 0 = some 0 from rfl, b_i, q1, show (0 : Int32) >>> (8 &&& 31) = 0 from rfl, e1, b_i, w355_55 (e2.W (f0'.W hW3)), b_i, show zld 381 0 = some 0 from rfl, b_i, q2, g1, b_i, show (1000000 : Nat) = 999999 + 1 from rfl, f_X12_image_30, w355_15 hW5, b_i, hI5 355 13 (by omega) (by unfold Wim; omega), o15, show zld 358 0 = some 0 from rfl, b_i, hI5 358 0 (by omega) (by unfold Wim; omega), o16, if_pos (show (0 : Int32) ≤ 0 by decide)]
      have h75 : zI M5 355 75 = 2 := g3.1
      have h0 : zI M5 394 0 = 0 := g3.2 0 (by decide)
      have h1 : zI M5 394 1 = 0 := g3.2 1 (by decide)
      have st1 : ∀ f, f_X12_image_144 355 (f + 1 + 1 + 1) 211 0 M5 = some (zI M6 355 75, M6) := by
        intro f
        rw [f_X12_image_144, h75, if_neg (by decide), w355_74 hW5, b_i, show zld 394 0 = some 0 from rfl, b_i, h0, f_X12_image_144, h75, if_neg (by decide), w355_74 hW5, b_i, show zld 394 ((0 : Int32) + 1) = some 1 from rfl, b_i, h1, f_X12_image_144, h75, if_pos (by decide), show zrem ((5 * zrem ((5 * 211) + 0) 251) + 0) 251 = nI (smB [0, 0] 2) from by decide, y1, b_i]
      refine (st1 999997).trans ?_
      rw [y3.1]; rfl
