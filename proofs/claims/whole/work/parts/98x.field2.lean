/-! calls: field (2) -/
def vls (m p k : Nat) : Nat → List Nat
  | 0 => [0]
  | n + 1 => vls m p k n ++ (vls m p k n).map (fun x => fpw m p (n * k % fN m) ^^^ x)
theorem vls_len (m p k : Nat) : ∀ n, (vls m p k n).length = 2 ^ n := by
  intro n
  induction n with
  | zero => rfl
  | succ n ih => rw [vls, List.length_append, List.length_map, ih, Nat.pow_succ]; omega
theorem lg_ar (l k : List Nat) (i : Nat) : lg (l ++ k) (l.length + i) = lg k i := by
  unfold lg; rw [List.getElem?_append_right (by omega), Nat.add_sub_cancel_left]
theorem lg_map (f : Nat → Nat) {l : List Nat} {i : Nat} (h : i < l.length) : lg (l.map f) i = f (lg l i) := by
  unfold lg; rw [List.getElem?_map, List.getElem?_eq_getElem h]; rfl
theorem two_or {n r : Nat} (h : r < 2 ^ n) : 2 ^ n + r = 2 ^ n ^^^ r := by
  have h1 := Nat.two_pow_add_eq_or_of_lt h 1
  rw [Nat.mul_one] at h1
  have h2 := or_lo (a := 1) h
  rw [Nat.one_shiftLeft] at h2
  rw [h1, h2]
theorem vls_at {m p : Nat} (h : (m, p) ∈ fPR) (k : Nat) : ∀ n q, q < 2 ^ n → lg (vls m p k n) q = sy m p n q k := by
  intro n
  induction n with
  | zero =>
    intro q hq
    have hq : q = 0 := by omega
    subst hq
    rfl
  | succ n ih =>
    intro q hq
    rw [vls]
    by_cases c : q < 2 ^ n
    · rw [lg_l (by rw [vls_len]; exact c), ih q c, sy_more q k 1 n c]
    · have hr : q - 2 ^ n < 2 ^ n := by rw [Nat.pow_succ] at hq; omega
      have e : q = (vls m p k n).length + (q - 2 ^ n) := by rw [vls_len]; omega
      have e2 : q = 2 ^ n ^^^ (q - 2 ^ n) := by rw [← two_or hr]; omega
      conv => lhs; rw [e]
      rw [lg_ar, lg_map _ (by rw [vls_len]; exact hr), ih _ hr]
      conv => rhs; rw [e2]
      rw [sy_xor, sy_bit m p k n (n + 1) (by omega), sy_more _ k 1 n hr, f_per h]
def nz0 : List Nat → Nat → Bool
  | _, 0 => true
  | [], _ + 1 => false
  | x :: L, n + 1 => !(x == 0) && nz0 L n
theorem nz0_at : ∀ n L, nz0 L n = true → ∀ q, q < n → ¬ lg L q = 0 := by
  intro n
  induction n with
  | zero => intro L _ q hq; omega
  | succ n ih =>
    intro L hL q hq
    cases L with
    | nil => cases hL
    | cons x L =>
      rw [nz0, Bool.and_eq_true] at hL
      cases q with
      | zero =>
        intro e
        have e : x = 0 := e
        rw [e] at hL
        exact absurd hL.1 (by decide)
      | succ q => rw [lg_c]; exact ih L hL.2 q (by omega)
def fcm (m : Nat) (V : List Nat) (u : Nat) : Bool := decide (2 ≤ u) && decide (u < 2 ^ (m + 1)) && (lg V u == 0) && nz0 V.tail (u - 1)
def fck (m p k : Nat) : Bool := match mnl m p k 7 k [1] with
  | none => false
  | some R => fcm m (vls m p k (m + 1)) (twF (lg R) R.length)
set_option maxRecDepth 100000 in
theorem fck_all : fPR.all (fun q => (List.range (fN q.1)).all (fck q.1 q.2)) = true := by decide +kernel
theorem fck_at {m p k : Nat} (h : (m, p) ∈ fPR) (hk : k < fN m) : ∃ R, mnl m p k 7 k [1] = some R ∧ 2 ≤ twF (lg R) R.length ∧ twF (lg R) R.length < 2 ^ (m + 1) ∧ sy m p (m + 1) (twF (lg R) R.length) k = 0 ∧ ∀ q, 2 ≤ q → q < twF (lg R) R.length → ¬ sy m p (m + 1) q k = 0 := by
  have h1 : fck m p k = true := List.all_eq_true.mp (List.all_eq_true.mp fck_all _ h) k (List.mem_range.mpr hk)
  unfold fck at h1
  cases e : mnl m p k 7 k [1] with
  | none => rw [e] at h1; cases h1
  | some R =>
    rw [e] at h1
    have h1 : fcm m (vls m p k (m + 1)) (twF (lg R) R.length) = true := h1
    unfold fcm at h1
    rw [Bool.and_eq_true, Bool.and_eq_true, Bool.and_eq_true] at h1
    obtain ⟨⟨⟨a1, a2⟩, a3⟩, a4⟩ := h1
    have a2 := of_decide_eq_true a2
    refine ⟨R, rfl, of_decide_eq_true a1, a2, ?_, fun q q1 q2 => ?_⟩
    · rw [← vls_at h k _ _ a2]; exact eq_of_beq a3
    · rw [← vls_at h k _ _ (by omega)]
      have := nz0_at _ _ a4 (q - 1) (by omega)
      unfold lg at this ⊢
      rw [List.getElem?_tail, show q - 1 + 1 = q by omega] at this
      exact this
theorem f_m6 {m p : Nat} (h : (m, p) ∈ fPR) : 3 ≤ m ∧ m ≤ 6 := by
  have := List.all_eq_true.mp fPR_m _ h
  rw [Bool.and_eq_true] at this
  exact ⟨of_decide_eq_true this.1, of_decide_eq_true this.2⟩
theorem s_least {M : Mem} {a pw ex m p k u : Nat} (h : CO M a pw ex m p) (h6 : zI M a 6 = nI m) (hk : k < fN m) (hu : 2 ≤ u) (h1 : u < 2 ^ (m + 1)) (h0 : sy m p (m + 1) u k = 0) (hn : ∀ q, 2 ≤ q → q < u → ¬ sy m p (m + 1) q k = 0) : f_X1_leastPolynomial a (nI k) M = some (nI u, M) := by
  have hm := f_m h.pr
  have hm6 := f_m6 h.pr
  have h2 : 2 ^ (m + 1) ≤ 2 ^ 7 := Nat.pow_le_pow_right (by decide) (by omega)
  have hs : (2 : Int32) <<< (nI m &&& 31) = nI (2 ^ (m + 1)) := by
    rw [show (2 : Int32) = nI 2 from rfl, nI_shl _ (by omega), Nat.shiftLeft_eq, Nat.pow_succ, Nat.mul_comm]
  have key : ∀ e q f, q + e = u → 2 ≤ q → f_X1_leastPolynomial_2 a (nI k) (e + 1 + f) (nI q) M = some (nI u, M) := by
    intro e
    induction e with
    | zero =>
      intro q f hq q2
      have hq : q = u := by omega
      subst hq
      rw [show 0 + 1 + f = f + 1 by omega, f_X1_leastPolynomial_2, h6, hs]
      refine im (nI_ge (by omega) (by omega)) ?_
      rw [nI_i2l (by omega), s_valueAt h hk h1 (by omega), b_i, h0]
      exact ip rfl rfl
    | succ e ih =>
      intro q f hq q2
      have hlt : sy m p (m + 1) q k < 2 ^ m := sy_lt h.pr
      rw [show e + 1 + 1 + f = (e + 1 + f) + 1 by omega, f_X1_leastPolynomial_2, h6, hs]
      refine im (nI_ge (by omega) (by omega)) ?_
      rw [nI_i2l (by omega), s_valueAt h hk (show q < 2 ^ (m + 1) by omega) (by omega), b_i]
      refine im (nI_ne0 (Nat.pos_of_ne_zero (hn q q2 (by omega))) (by omega)) ?_
      rw [nI_1]
      exact ih (q + 1) f (by omega) (by omega)
  have := key (u - 2) 2 (1000000 - (u - 2) - 1) (by omega) (by omega)
  rw [show u - 2 + 1 + (1000000 - (u - 2) - 1) = 1000000 by omega] at this
  exact this
theorem s_is1 {M : Mem} {x xl xh : Int32} {n : Nat} (hl : xl = 1) (hh : xh = nI n) (hn : n < 2 ^ 30) : ((∃ j, 1 ≤ j ∧ j ≤ n ∧ x = nI j) ∧ f_X12_is x xl xh M = some (1, M)) ∨ ((x < 1 ∨ (¬ x < 1 ∧ nI n < x)) ∧ f_X12_is x xl xh M = some (0, M)) := by
  subst hl; subst hh
  unfold f_X12_is f_X12_is_14 f_X12_is_15
  by_cases q1 : x < 1
  · exact Or.inr ⟨Or.inl q1, by rw [if_pos q1, zbz0]⟩
  · by_cases q2 : nI n < x
    · exact Or.inr ⟨Or.inr ⟨q1, q2⟩, by rw [if_neg q1, if_pos q2, zbz0]⟩
    · refine Or.inl ⟨?_, by rw [if_neg q1, if_neg q2, zbz1]⟩
      have h0 : ¬ x < 0 := fun q => q1 (Int32.lt_trans q (by decide))
      obtain ⟨k, hk, e⟩ := nI_of h0
      subst e
      have a1 : ¬ k < 1 := fun q => q1 ((nI_ltI hk (b := 1) (by decide)).mpr q)
      have a2 : ¬ n < k := fun q => q2 ((nI_ltI (by omega) hk).mpr q)
      exact ⟨k, by omega, by omega, rfl⟩
theorem op_field (x y : Int32) : OP (f_X11_field 0 x y) (f_X12_field 355 x y) := by
  intro M s g
  have hW := g.rst.W
  unfold f_X11_field f_X11_field_44 f_X11_field_45 f_X11_field_58 f_X11_field_85 f_X12_field f_X12_field_36 f_X12_field_80
  rcases g.st with ⟨c0, h, S, T, E, c, sv, l, lv, hT⟩ | o
  · obtain ⟨cz, cO, -⟩ := l.cc.cd
    obtain ⟨bk, ⟨-, -, mO, -⟩, -⟩ := l.mc
    have hm := f_m cO.pr
    rw [l.on.1, if_neg (show ¬ (1 : Int32) = 0 by decide), l.cur, b_i, wC_0 hW l.cc.z, b_i, cO.sz]
    by_cases y1 : y = 1
    · subst y1
      rcases s_is1 (M := M) (x := x) (xl := 1) (xh := nI (fN (kM h))) rfl rfl (by omega) with ⟨⟨j, j1, j2, e⟩, q⟩ | ⟨q, q2⟩
      · subst e
        refine ⟨nI (flg (kM h) (kP h) j), M, M, ?_, ?_, g.mono (by omega)⟩
        · refine ip rfl (im (fun q => ?_) (im (nI_nlt (by omega) (by omega)) ?_))
          · have := (nI_ltI (by omega) (b := 1) (by decide)).mp q; omega
          · rw [cO.r1, b_i, zl_at 64 cO.s1 (by omega) (by decide), b_i, cO.tl j j1 (by omega)]
        · rw [l.on.2, if_neg (show ¬ (1 : Int32) = 0 by decide)]
          refine ip rfl ?_
          rw [mO.sz, q, b_i]
          refine im (one_n0 _) ?_
          dsimp only
          rw [w355_43 hW, b_i, zl_at 64 rfl (by omega) (by decide), b_i, mO.tl j j1 (by omega)]
      · refine ⟨-1, M, M, ?_, ?_, g.mono (by omega)⟩
        · refine ip rfl ?_
          rcases q with q | ⟨q, q3⟩
          · exact ip q rfl
          · exact im q (ip q3 rfl)
        · rw [l.on.2, if_neg (show ¬ (1 : Int32) = 0 by decide)]
          refine ip rfl ?_
          rw [mO.sz, q2, b_i]; exact ip rfl rfl
    · rcases s_isN (M := M) (x := x) (xl := 0) (xh := nI (fN (kM h)) - 1) (n := fN (kM h) - 1) rfl (by rw [show (1 : Int32) = nI 1 from rfl, pk_sub (by omega)]) (by omega) with ⟨⟨k, hk, e⟩, q⟩ | ⟨q, q2⟩
      · subst e
        by_cases y0 : y = 0
        · subst y0
          refine ⟨nI (fpw (kM h) (kP h) k), M, M, ?_, ?_, g.mono (by omega)⟩
          · refine im (by decide) (im (nI_pos (by omega)) (ip (nI_lt (by omega) (by omega)) (ip rfl ?_)))
            rw [cO.r0, b_i, zl_at 63 cO.s0 (by omega) (by decide), b_i, cO.tp k (by omega)]
          · rw [l.on.2, if_neg (show ¬ (1 : Int32) = 0 by decide)]
            refine im (by decide) ?_
            rw [mO.sz, q, b_i]
            refine im (one_n0 _) (ip rfl ?_)
            dsimp only
            rw [w355_42 hW, b_i, zl_at 64 rfl (by omega) (by decide), b_i, mO.tp k (by omega)]
        · by_cases y2 : y = 2
          · subst y2
            obtain ⟨R, r1, r2, r3, r4, r5⟩ := fck_at cO.pr (show k < fN (kM h) by omega)
            obtain ⟨M', a1, a2⟩ := s_minimal hW mO (show k < fN (kM h) by omega) r1
            refine ⟨nI (twF (lg R) R.length), M, M', ?_, ?_, (Inv.sc g.rst l lv hT (a2.mo (fun a j q => by unfold Wsc; omega)) (l.dk.fr a2 (fun a j p q => by omega))).mono (by omega)⟩
            · refine im (by decide) (im (nI_pos (by omega)) (ip (nI_lt (by omega) (by omega)) (im (by decide) (ip rfl ?_))))
              rw [s_least cO l.cc.2.2.2.2.2.2.2.2.2.2 (by omega) r2 r3 r4 r5, b_i]
            · rw [l.on.2, if_neg (show ¬ (1 : Int32) = 0 by decide)]
              refine im (by decide) ?_
              rw [mO.sz, q, b_i]
              refine im (one_n0 _) (im (by decide) (ip rfl ?_))
              dsimp only
              rw [a1, b_i]
          · refine ⟨-1, M, M, ?_, ?_, g.mono (by omega)⟩
            · exact im y1 (im (nI_pos (by omega)) (ip (nI_lt (by omega) (by omega)) (im y0 (im y2 rfl))))
            · rw [l.on.2, if_neg (show ¬ (1 : Int32) = 0 by decide)]
              refine im y1 ?_
              rw [mO.sz, q, b_i]
              exact im (one_n0 _) (im y0 (im y2 rfl))
      · refine ⟨-1, M, M, ?_, ?_, g.mono (by omega)⟩
        · refine im y1 ?_
          by_cases h1 : x < 0
          · exact ip h1 rfl
          · refine im h1 (im (fun q3 => ?_) rfl)
            obtain ⟨k, hk, e⟩ := nI_of h1
            subst e
            rw [show fN (kM h) - 1 + 1 = fN (kM h) by omega] at q
            exact nI_ge ((nI_ltI hk (by omega)).mp q3) (by omega) (q.resolve_left h1)
        · rw [l.on.2, if_neg (show ¬ (1 : Int32) = 0 by decide)]
          refine im y1 ?_
          rw [mO.sz, q2, b_i]; exact ip rfl rfl
  · exact ⟨-1, M, M, ip o.1.1 rfl, ip o.1.2 rfl, g.mono (by omega)⟩
