/-! calls: on -/
def onP (h : CH) (b : Nat → Nat) (en : Nat) : Nat → Option (Nat × (Nat → RW))
  | 0 => some (2, fun _ => R0)
  | p + 1 => (onP h b en p).bind fun x => (onR h b en x.1).bind fun y => some (y.2, fun i => if i = p then y.1 else x.2 i)
def onF (h : CH) (b : Nat → Nat) (en : Nat) : Option (Nat → RW) := (onP h b en (kQ h)).bind fun x => if x.1 = en then some x.2 else none
theorem onP_none {h : CH} {b : Nat → Nat} {en p : Nat} (e : onP h b en p = none) : ∀ k, onP h b en (p + k) = none := by
  intro k; induction k with
  | zero => exact e
  | succ k ih => show (onP h b en (p + k)).bind _ = none; rw [ih]; rfl
theorem onP_s {h : CH} {b : Nat → Nat} {en p a : Nat} {R : Nat → RW} (e : onP h b en p = some (a, R)) : onP h b en (p + 1) = (onR h b en a).bind fun y => some (y.2, fun i => if i = p then y.1 else R i) := by
  show (onP h b en p).bind _ = _
  rw [e]; rfl
theorem onF_none {h : CH} {b : Nat → Nat} {en p : Nat} (hp : p ≤ kQ h) (e : onP h b en p = none) : onF h b en = none := by
  have := onP_none e (kQ h - p)
  rw [show p + (kQ h - p) = kQ h by omega] at this
  unfold onF; rw [this]; rfl
theorem R0_v {m p t n : Nat} : RV m p t n R0 := fun e => absurd e (by decide)
theorem onR_v {h : CH} (v : CV h) {b : Nat → Nat} {en a : Nat} {r : RW} {a' : Nat} (e : onR h b en a = some (r, a')) : a < a' ∧ a' ≤ en ∧ RV (kM h) (kP h) (kT h) (kN h) r := by
  unfold onR at e
  by_cases c1 : en ≤ a ∨ 1 < b a
  · rw [if_pos c1] at e; cases e
  rw [if_neg c1] at e
  by_cases c2 : b a = 0
  · rw [if_pos c2] at e
    cases e
    exact ⟨by omega, by omega, R0_v⟩
  rw [if_neg c2] at e
  by_cases c3 : a + 10 + kN h ≤ en ∧ onT h b a = true
  · rw [if_pos c3] at e
    cases e
    refine ⟨by omega, c3.1, fun _ => ?_⟩
    have hc := v.c
    obtain ⟨g1, g2, g3⟩ := v.g
    have hT := c3.2
    unfold onT at hT
    rw [Bool.and_eq_true, Bool.and_eq_true] at hT
    obtain ⟨⟨t1, t2⟩, t3⟩ := hT
    have t4 := of_decide_eq_true t3
    refine ⟨of_decide_eq_true t2, t4.1, fun j j1 j2 => ?_, fun k hk => aL_at _ _ k t1 (by omega) (by omega)⟩
    have := sy_word (n := kN h - kC h) (w := w8 b (a + 2) 8) v.pr g1 g2 (g3 j j1 j2) (by rw [show kC h + (kN h - kC h) = kN h by omega]; exact t4.1)
    rw [t4.2, show kC h + (kN h - kC h) = kN h by omega, Nat.xor_zero] at this
    exact this
  · rw [if_neg c3] at e; cases e
theorem onP_v {h : CH} (v : CV h) {b : Nat → Nat} {en : Nat} (h2 : 2 ≤ en) : ∀ p a R, onP h b en p = some (a, R) → a ≤ en ∧ (∀ i, RV (kM h) (kP h) (kT h) (kN h) (R i)) ∧ ∀ i, p ≤ i → R i = R0 := by
  intro p
  induction p with
  | zero => intro a R e; cases e; exact ⟨h2, fun i => R0_v, fun i _ => rfl⟩
  | succ p ih =>
    intro a R e
    cases e1 : onP h b en p with
    | none => have := onP_none e1 1; rw [this] at e; cases e
    | some x =>
      obtain ⟨a0, R0'⟩ := x
      obtain ⟨i1, i2, i3⟩ := ih a0 R0' e1
      rw [onP_s e1] at e
      cases e2 : onR h b en a0 with
      | none => rw [e2] at e; cases e
      | some y =>
        obtain ⟨r, a1⟩ := y
        rw [e2] at e
        cases e
        obtain ⟨j1, j2, j3⟩ := onR_v v e2
        refine ⟨j2, fun i => ?_, fun i hi => ?_⟩
        · show RV _ _ _ _ (if i = p then r else R0' i)
          by_cases q : i = p
          · rw [if_pos q]; exact j3
          · rw [if_neg q]; exact i2 i
        · show (if i = p then r else R0' i) = R0
          rw [if_neg (by omega)]; exact i3 i (by omega)
def Wdr (x j : Nat) : Prop := (x = 27 ∧ j = 1) ∨ (29 ≤ x ∧ x ≤ 40)
theorem c_tk64 {M : Mem} {c0 t d : Nat} {h : CH} {b : Nat → Nat} (hW : WRc M) (v : CV h) (hC : ∀ M0, FR Wdr M M0 → CC M0 c0 h) (hb : ∀ k, k < t → zI M 1 k = nI (b k) ∧ b k < 256) (ht : t ≤ 1600) (ht3 : 3 ≤ t) : ∀ e p f M0 a R, p + e = kQ h → onP h b (t - 1) p = some (a, R) → FR Wdr M M0 → (∀ i, i < 6 → zI M0 (29 + 2 * i) 1 = nI i) → CP M0 27 (kN h) (d, R) → ∃ M', f_X5_takes_64 27 1 (nI t) c0 (e + 1 + f) (nI a) (nI p) M0 = some (b01 (onF h b (t - 1)).isSome, M') ∧ FR Wdr M M' ∧ (∀ i, i < 6 → zI M' (29 + 2 * i) 1 = nI i) ∧ ∀ R', onF h b (t - 1) = some R' → CP M' 27 (kN h) (d, R') := by
  have hq := v.q
  have hn := v.n63
  have t1 : nI t - 1 = nI (t - 1) := by rw [show (1 : Int32) = nI 1 from rfl, pk_sub (by omega)]
  intro e
  induction e with
  | zero =>
    intro p f M0 a R ek eP fr hx hP
    have : p = kQ h := by omega
    subst this
    have hC0 := hC M0 fr
    obtain ⟨p1, -, -⟩ := onP_v v (show 2 ≤ t - 1 by omega) _ _ _ eP
    have eF : onF h b (t - 1) = if a = t - 1 then some R else none := by unfold onF; rw [eP]; rfl
    rw [eF]
    refine ⟨M0, ?_, fr, hx, fun R' x => ?_⟩
    · rw [show 0 + 1 + f = f + 1 by omega, f_X5_takes_64, hC0.q, if_pos (nI_le (Nat.le_refl _) (by omega)), t1]
      unfold f_X5_takes_187
      by_cases q : a = t - 1
      · rw [if_pos (by rw [q]), if_pos q, zbz1]; rfl
      · rw [if_neg (fun x => q ((nI_eq (by omega) (by omega)).mp x)), if_neg q, zbz0]; rfl
    · by_cases q : a = t - 1
      · rw [if_pos q] at x; cases x; exact hP
      · rw [if_neg q] at x; cases x
  | succ e ih =>
    intro p f M0 a R ek eP fr hx hP
    have hC0 := hC M0 fr
    have hz : c0 = 335 ∨ c0 = 344 := hC0.z
    obtain ⟨p1, p2, p3⟩ := onP_v v (show 2 ≤ t - 1 by omega) _ _ _ eP
    have eS := onP_s eP
    have hW0 := fr.W hW
    have bad : onR h b (t - 1) a = none → onF h b (t - 1) = none := fun x => onF_none (p := p + 1) (by omega) (by rw [eS, x]; rfl)
    rw [show e + 1 + 1 + f = (e + 1 + f) + 1 by omega, f_X5_takes_64, hC0.q, if_neg (nI_ge (by omega) (by omega)), t1]
    unfold f_X5_takes_89 f_X5_takes_104 f_X5_takes_151 f_X5_takes_168
    by_cases c1 : t - 1 ≤ a
    · rw [if_pos (nI_le c1 (by omega)), bad (if_pos (Or.inl c1))]
      exact ⟨M0, rfl, fr, hx, fun R' x => by cases x⟩
    rw [if_neg (nI_ge (by omega : a < t - 1) (by omega))]
    obtain ⟨q1, q2⟩ := hb a (by omega)
    rw [zl_at 1600 rfl (by omega) (by decide), b_i, b_i, fr.I (by unfold Wdr; omega), q1]
    by_cases c2 : 1 < b a
    · rw [bad (if_pos (Or.inr c2))]
      refine ⟨M0, im (show ¬ nI (b a) ≤ (1 : Int32) from nI_ge (a := 1) c2 (by omega)) rfl, fr, hx, fun R' x => by cases x⟩
    rw [if_pos (show nI (b a) ≤ (1 : Int32) from nI_le (b := 1) (by omega) (by decide))]
    have eR : onR h b (t - 1) a = if b a = 0 then some (R0, a + 1) else if a + 10 + kN h ≤ t - 1 ∧ onT h b a = true then some (onW b a, a + 10 + kN h) else none := if_neg (by omega)
    by_cases c3 : b a = 0
    · rw [if_pos c3] at eR
      rw [c3, if_neg (show ¬ nI 0 = (1 : Int32) by decide), if_pos rfl, nI_1, nI_1]
      refine ih (p + 1) f M0 (a + 1) (fun i => if i = p then R0 else R i) (by omega) (by rw [eS, eR]; rfl) fr hx ⟨hP.1, fun i hi => ?_⟩
      show CR M0 _ _ i (if i = p then R0 else R i)
      have := hP.2 i hi
      by_cases q : i = p
      · rw [if_pos q]
        have e2 : R i = R0 := p3 i (by omega)
        exact e2 ▸ this
      · rw [if_neg q]; exact this
    rw [if_neg c3] at eR
    rw [show b a = 1 by omega, if_pos (show nI 1 = (1 : Int32) from rfl), if_neg (show ¬ (1 : Int32) = 0 by decide), wC_0 hW0 hC0.z, b_i, hC0.n, show nI a + 1 = nI (a + 1) from nI_1 a, show (9 : Int32) = nI 9 from rfl, nI_add, nI_add, t1]
    by_cases c4 : a + 10 + kN h ≤ t - 1
    rotate_left
    · rw [if_neg (fun x => c4 x.1)] at eR
      rw [bad eR]
      exact ⟨M0, ip (nI_lt (by omega) (by omega)) rfl, fr, hx, fun R' x => by cases x⟩
    have hRQ : RQ (29 + 2 * p) := pq_r (Or.inr (Or.inl rfl) : PQ 27) (by omega)
    obtain ⟨M1, a1, a2, a3⟩ := s_takesRow (M := M0) (c := 29 + 2 * p) (c0 := c0) (a := a) (i := p) (t := t) (h := h) (b := b) hW0 v hRQ (fun M' f' => hC M' (fr.tr (f'.mo (fun x j q => by unfold Wdr; omega)))) (fun k hk => ⟨(fr.I (by unfold Wdr; omega)).trans (hb k hk).1, (hb k hk).2⟩) ht (by omega) (hx p (by omega))
    have fr1 : FR Wdr M M1 := fr.tr (a2.mo (fun x j q => by unfold Wdr; omega))
    have hx1 : ∀ i, i < 6 → zI M1 (29 + 2 * i) 1 = nI i := fun i hi => (a2.I (by omega)).trans (hx i hi)
    rw [if_neg (nI_nlt (by omega) (by omega)), pq_0 hW0 (Or.inr (Or.inl rfl) : PQ 27), b_i, zl_at 6 (pq_get (Or.inr (Or.inl rfl) : PQ 27)).2.1 (by omega) (by decide), b_i, pq_1 hW0 (Or.inr (Or.inl rfl) : PQ 27) (by omega), b_i, show 27 + 2 + 2 * p = 29 + 2 * p by omega, a1, b_i]
    dsimp only
    cases hT : onT h b a with
    | false =>
      rw [if_neg (fun x => by rw [hT] at x; exact absurd x.2 (by decide))] at eR
      rw [bad eR]
      exact ⟨M1, ip b01_f rfl, fr1, hx1, fun R' x => by cases x⟩
    | true =>
      rw [if_pos ⟨c4, hT⟩] at eR
      have hC1 := hC M1 fr1
      rw [if_neg b01_n0, wC_0 (fr1.W hW) hC1.z, b_i, hC1.n, nI_add, nI_add, nI_1, show a + 1 + (9 + kN h) = a + 10 + kN h by omega]
      refine ih (p + 1) f M1 (a + 10 + kN h) (fun i => if i = p then onW b a else R i) (by omega) (by rw [eS, eR]; rfl) fr1 hx1 ⟨(a2.I (by omega)).trans hP.1, fun i hi => ?_⟩
      show CR M1 _ _ i (if i = p then onW b a else R i)
      by_cases q : i = p
      · rw [if_pos q, q]; exact a3 hT
      · rw [if_neg q]
        exact (hP.2 i hi).fr a2 (fun j => by omega) (fun j => by omega)
theorem m_co124 {M : Mem} {bk t : Nat} {h : CH} {b : Nat → Nat} (hW : WRc M) (v : CV h) (hbk : bk ≤ 1) (h13 : zI M 355 13 = nI bk) (h358 : zI M 358 bk = nI (kQ h)) (h39 : zI M 355 39 = nI (kN h)) (h38 : zI M 355 38 = nI (kC h)) (h41 : zL M 355 41 = lN (kG h)) (hb : ∀ k, k < t → zI M 356 k = nI (b k) ∧ b k < 256) (ht : t ≤ 1600) (ht3 : 3 ≤ t) : ∀ e p f M0 a R, p + e = kQ h → onP h b (t - 1) p = some (a, R) → FR (Wlk 1) M M0 → (∀ i, i < p → MR M0 1 i (kN h) (R i)) → (∀ i, kQ h ≤ i → i < 6 → zI M0 382 (6 + i) = 0) → ∃ M', f_X12_comesOn_124 355 (nI t) (e + 1 + f) (nI a) (nI p) M0 = some (b01 (onF h b (t - 1)).isSome, M') ∧ FR (Wlk 1) M M' ∧ FR (fun x j => 382 ≤ x ∧ x ≤ 385) M0 M' ∧ ∀ R', onF h b (t - 1) = some R' → ∀ i, i < 6 → MR M' 1 i (kN h) (R' i) := by
  have hq := v.q
  have hn := v.n63
  have t1 : nI t - 1 = nI (t - 1) := by rw [show (1 : Int32) = nI 1 from rfl, pk_sub (by omega)]
  intro e
  induction e with
  | zero =>
    intro p f M0 a R ek eP fr hP hU
    have : p = kQ h := by omega
    subst this
    obtain ⟨p1, -, p3⟩ := onP_v v (show 2 ≤ t - 1 by omega) _ _ _ eP
    have eF : onF h b (t - 1) = if a = t - 1 then some R else none := by unfold onF; rw [eP]; rfl
    rw [eF]
    refine ⟨M0, ?_, fr, FR.rf _ M0, fun R' x i hi => ?_⟩
    · rw [show 0 + 1 + f = f + 1 by omega, f_X12_comesOn_124, w355_15 (fr.W hW), b_i, fr.I (by unfold Wlk Wla Wke; omega), h13, zl_at 2 rfl (by omega) (by decide), b_i, fr.I (by unfold Wlk Wla Wke; omega), h358, if_pos (nI_le (Nat.le_refl _) (by omega)), t1]
      unfold f_X12_comesOn_174
      by_cases q : a = t - 1
      · rw [if_pos (by rw [q]), if_pos q, zbz1]; rfl
      · rw [if_neg (fun x => q ((nI_eq (by omega) (by omega)).mp x)), if_neg q, zbz0]; rfl
    · by_cases q : a = t - 1
      · rw [if_pos q] at x
        cases x
        by_cases q2 : i < kQ h
        · exact hP i q2
        · rw [p3 i (by omega)]
          exact ⟨by rw [show 6 * 1 + i = 6 + i by omega, hU i (by omega) hi]; rfl, fun e => absurd e (by decide)⟩
      · rw [if_neg q] at x; cases x
  | succ e ih =>
    intro p f M0 a R ek eP fr hP hU
    obtain ⟨p1, p2, p3⟩ := onP_v v (show 2 ≤ t - 1 by omega) _ _ _ eP
    have eS := onP_s eP
    have hI : ∀ x j, ¬ Wlk 1 x j → zI M0 x j = zI M x j := fun x j q => fr.I q
    obtain ⟨M1, a1, a2, a3⟩ := s_pageOn (M := M0) (p := p) (a := a) (en := t - 1) (t := t) (h := h) (b := b) (fr.W hW) v ((hI _ _ (by unfold Wlk Wla Wke; omega)).trans h39) ((hI _ _ (by unfold Wlk Wla Wke; omega)).trans h38) ((fr.L (by unfold Wlk Wla Wke; omega)).trans h41) (fun k hk => ⟨(hI _ _ (by unfold Wlk Wla Wke; omega)).trans (hb k hk).1, (hb k hk).2⟩) ht (by omega) (by omega) (by omega)
    have fr1 : FR (Wlk 1) M M1 := fr.tr (a2.mo (fun x j q => by unfold Wpo at q; unfold Wlk Wla Wke; omega))
    have fr2 : FR (fun x j => 382 ≤ x ∧ x ≤ 385) M0 M1 := a2.mo (fun x j q => by unfold Wpo at q; omega)
    rw [show e + 1 + 1 + f = (e + 1 + f) + 1 by omega, f_X12_comesOn_124, w355_15 (fr.W hW), b_i, fr.I (by unfold Wlk Wla Wke; omega), h13, zl_at 2 rfl (by omega) (by decide), b_i, fr.I (by unfold Wlk Wla Wke; omega), h358, if_neg (nI_ge (by omega) (by omega)), t1, a1, b_i]
    dsimp only
    cases eR : onR h b (t - 1) a with
    | none =>
      rw [onF_none (p := p + 1) (by omega) (by rw [eS, eR]; rfl)]
      exact ⟨M1, ip rfl rfl, fr1, fr2, fun R' x => by cases x⟩
    | some y =>
      obtain ⟨r, a'⟩ := y
      obtain ⟨j1, j2, j3⟩ := onR_v v eR
      obtain ⟨M', b1, b2, b3, b4⟩ := ih (p + 1) f M1 a' (fun i => if i = p then r else R i) (by omega) (by rw [eS, eR]; rfl) fr1 (fun i hi => by
        show MR M1 1 i (kN h) (if i = p then r else R i)
        by_cases q : i = p
        · rw [if_pos q, q]; exact a3 r a' eR
        · rw [if_neg q]
          exact (hP i (by omega)).fr hn.1 a2 (by unfold Wpo; omega) (by unfold Wpo; omega) (by unfold Wpo; omega) (fun k hk => by unfold Wpo; omega)) (fun i h1 h2 => (a2.I (by unfold Wpo; omega)).trans (hU i h1 h2))
      refine ⟨M', ?_, b2, fr2.tr b3, b4⟩
      refine im (nI_nm (by omega)) ?_
      rw [nI_1]
      exact b1
def lb (b : Nat → Nat) (t : Nat) : List Nat := (List.range t).map b
theorem lb_at {b : Nat → Nat} {t k : Nat} (hk : k < t) : lg (lb b t) k = b k := by
  unfold lg lb
  rw [List.getElem?_map, List.getElem?_range hk]; rfl
def onG (b : Nat → Nat) (t : Nat) : Bool := decide (3 ≤ t ∧ smB (lb b t) (t - 1) = b (t - 1) ∧ b 0 * 256 + b 1 ≤ 999)
def onZ (h : CH) (b : Nat → Nat) (t : Nat) : Option PSt := if onG b t = true then (onF h b (t - 1)).map (fun R => (b 0 * 256 + b 1, R)) else none
theorem day_or {x y : Nat} (hx : x < 256) (hy : y < 256) : ((nI x) <<< ((8 : Int32) &&& 31)) ||| nI y = nI (x * 256 + y) := by
  rw [show (8 : Int32) = nI 8 from rfl, nI_shl x (by decide), nI_or, ← Nat.shiftLeft_add_eq_or_of_lt (by omega : y < 2 ^ 8), Nat.shiftLeft_eq]
theorem map_some {α β : Type} {o : Option α} {f : α → β} : (o.map f).isSome = o.isSome := by cases o <;> rfl
theorem c_takeO {M : Mem} {c0 t : Nat} {h : CH} {b : Nat → Nat} (hW : WRc M) (v : CV h) (hC : ∀ M0, FR Wdr M M0 → CC M0 c0 h) (hb : ∀ k, k < t → zI M 1 k = nI (b k) ∧ b k < 256) (ht : t ≤ 1600) (hx : ∀ i, i < 6 → zI M (29 + 2 * i) 1 = nI i) : ∃ M', f_X5_takes 27 1 (nI t) c0 M = some (b01 (onZ h b t).isSome, M') ∧ FR Wdr M M' ∧ (∀ i, i < 6 → zI M' (29 + 2 * i) 1 = nI i) ∧ ∀ S, onZ h b t = some S → CP M' 27 (kN h) S := by
  obtain ⟨M1, a1, a2, a3⟩ := s_pclear (q := 27) (kN h) hW (Or.inr (Or.inl rfl)) (fun i hi => by rw [show 27 + 2 + 2 * i = 29 + 2 * i by omega]; exact hx i hi)
  have fr1 : FR Wdr M M1 := a2.mo (fun x j q => by unfold Wpg at q; unfold Wdr; omega)
  have hx1 : ∀ i, i < 6 → zI M1 (29 + 2 * i) 1 = nI i := fun i hi => by have := (a3.2 i hi).1; rwa [show 27 + 2 + 2 * i = 29 + 2 * i by omega] at this
  have hb1 : ∀ k, k < t → zI M1 1 k = nI (b k) := fun k hk => (fr1.I (by unfold Wdr; omega)).trans (hb k hk).1
  unfold f_X5_takes f_X5_takes_30
  rw [a1, b_i]
  by_cases c1 : 3 ≤ t
  rotate_left
  · have : onZ h b t = none := if_neg (fun x => c1 (of_decide_eq_true x).1)
    rw [this]
    exact ⟨M1, ip (show nI t < (3 : Int32) from nI_lt (b := 3) (by omega) (by decide)) rfl, fr1, hx1, fun S x => by cases x⟩
  have t1 : nI t - 1 = nI (t - 1) := by rw [show (1 : Int32) = nI 1 from rfl, pk_sub (by omega)]
  have sm := s_sum (M := M1) (a := 1) (q := 1600) (n := t - 1) (l := b) rfl (by decide) (by omega) (fun k hk => hb1 k (by omega)) (fun k hk => (hb k (by omega)).2) (lb b t) (fun k hk => lb_at (by omega))
  have hs := smB_lt (lb b t) (t - 1)
  obtain ⟨-, hl⟩ := hb (t - 1) (by omega)
  obtain ⟨-, hb0⟩ := hb 0 (by omega)
  obtain ⟨-, hbb⟩ := hb 1 (by omega)
  rw [if_neg (show ¬ nI t < (3 : Int32) from nI_nlt (b := 3) c1 (by omega)), zlen_e (n := 1600) rfl, if_neg (nI_nlt ht (by decide)), t1, sm, b_i, zl_at 1600 rfl (by omega) (by decide), b_i, hb1 _ (by omega)]
  by_cases c2 : smB (lb b t) (t - 1) = b (t - 1)
  rotate_left
  · have : onZ h b t = none := if_neg (fun x => c2 (of_decide_eq_true x).2.1)
    rw [this]
    exact ⟨M1, im (fun x => c2 ((nI_eq (by omega) (by omega)).mp x)) rfl, fr1, hx1, fun S x => by cases x⟩
  rw [if_pos (by rw [c2]), show (0 : Int32) = nI 0 from rfl, zl_at 1600 rfl (by omega) (by decide), b_i, show (1 : Int32) = nI 1 from rfl, zl_at 1600 rfl (by omega) (by decide), b_i]
  dsimp only
  rw [hb1 0 (by omega), hb1 1 (by omega), day_or hb0 hbb, b_i]
  have fr2 : FR Wdr M (zsI M1 27 1 (nI (b 0 * 256 + b 1))) := fr1.sI (by unfold Wdr; omega)
  have u1 : zI (zsI M1 27 1 (nI (b 0 * 256 + b 1))) 27 1 = nI (b 0 * 256 + b 1) := zI_se _ _ _ _
  have hx2 : ∀ i, i < 6 → zI (zsI M1 27 1 (nI (b 0 * 256 + b 1))) (29 + 2 * i) 1 = nI i := fun i hi => (zI_sn _ _ (by omega)).trans (hx1 i hi)
  have hP2 : CP (zsI M1 27 1 (nI (b 0 * 256 + b 1))) 27 (kN h) (b 0 * 256 + b 1, fun _ => R0) := ⟨u1, fun i hi => (a3.2 i hi).fr ((FR.rf (fun x j => x = 27 ∧ j = 1) M1).sI (by omega)) (fun j => by omega) (fun j => by omega)⟩
  revert fr2 u1 hx2 hP2
  generalize zsI M1 27 1 (nI (b 0 * 256 + b 1)) = M2
  intro fr2 u1 hx2 hP2
  rw [u1]
  by_cases c3 : b 0 * 256 + b 1 ≤ 999
  rotate_left
  · have : onZ h b t = none := if_neg (fun x => c3 (of_decide_eq_true x).2.2)
    rw [this]
    exact ⟨M2, im (fun x => c3 ((nI_leI (b := 999) (by omega) (by decide)).mp x)) rfl, fr2, hx2, fun S x => by cases x⟩
  have eZ : onZ h b t = (onF h b (t - 1)).map (fun R => (b 0 * 256 + b 1, R)) := if_pos (decide_eq_true ⟨c1, c2, c3⟩)
  have hq := v.q
  obtain ⟨M3, d1, d2, d3, d4⟩ := c_tk64 (d := b 0 * 256 + b 1) hW v hC hb ht c1 (kQ h) 0 (1000000 - kQ h - 1) M2 2 (fun _ => R0) (by omega) rfl fr2 hx2 hP2
  rw [show kQ h + 1 + (1000000 - kQ h - 1) = 1000000 by omega] at d1
  refine ⟨M3, ip (show nI (b 0 * 256 + b 1) ≤ (999 : Int32) from nI_le (b := 999) c3 (by decide)) ?_, d2, d3, fun S x => ?_⟩
  · rw [eZ, map_some]
    exact d1
  · rw [eZ] at x
    cases e : onF h b (t - 1) with
    | none => rw [e] at x; cases x
    | some R => rw [e] at x; cases x; exact d4 R e
theorem m_comes {M : Mem} {t K : Nat} {h : CH} {S0 : PSt} {b : Nat → Nat} (hW : WRc M) (v : CV h) (hC : MC M h) (h35 : zI M 355 35 = 1) (hK : K ≤ 40) (hk : zI M 386 0 = nI K) (hP : MP M 0 (kN h) S0) (hU : ∀ i, kQ h ≤ i → i < 6 → (S0.2 i).1 = false) (hb : ∀ k, k < t → zI M 356 k = nI (b k) ∧ b k < 256) (ht : t ≤ 1600) : ∃ M', f_X12_comesOn 355 (nI t) M = some (b01 (onZ h b t).isSome, M') ∧ FR (Wlk 1) M M' ∧ ∀ S, onZ h b t = some S → MP M' 1 (kN h) S ∧ zI M' 386 1 = 0 := by
  obtain ⟨bk, ⟨c1, c2, hMD⟩, ⟨m38, -, m41⟩, c5, -⟩ := hC
  have hn := v.n63
  have hq := v.q
  unfold f_X12_comesOn f_X12_comesOn_34
  rw [h35, if_neg (show ¬ (1 : Int32) = 0 by decide)]
  by_cases e1 : 3 ≤ t
  rotate_left
  · have : onZ h b t = none := if_neg (fun x => e1 (of_decide_eq_true x).1)
    rw [this]
    exact ⟨M, ip (show nI t < (3 : Int32) from nI_lt (b := 3) (by omega) (by decide)) rfl, FR.rf _ M, fun S x => by cases x⟩
  have t1 : nI t - 1 = nI (t - 1) := by rw [show (1 : Int32) = nI 1 from rfl, pk_sub (by omega)]
  obtain ⟨hl0, hl⟩ := hb (t - 1) (by omega)
  obtain ⟨hb00, hb0⟩ := hb 0 (by omega)
  obtain ⟨hb11, hbb⟩ := hb 1 (by omega)
  have z0 : zld 356 0 = some 0 := zl_at (k := 0) 1800 rfl (by decide) (by decide)
  have z1 : zld 356 1 = some 1 := zl_at (k := 1) 1800 rfl (by decide) (by decide)
  rw [if_neg (show ¬ nI t < (3 : Int32) from nI_nlt (b := 3) e1 (by omega)), w355_0 hW, b_i, z0, b_i, b_i, z1, b_i, hb00, hb11, day_or hb0 hbb]
  by_cases e3 : b 0 * 256 + b 1 ≤ 999
  rotate_left
  · have : onZ h b t = none := if_neg (fun x => e3 (of_decide_eq_true x).2.2)
    rw [this]
    exact ⟨M, im (fun x => e3 ((nI_leI (b := 999) (by omega) (by decide)).mp x)) rfl, FR.rf _ M, fun S x => by cases x⟩
  rw [if_pos (show nI (b 0 * 256 + b 1) ≤ (999 : Int32) from nI_le (b := 999) e3 (by decide))]
  have lp : ∀ e k f, k + e = t - 1 → f_X12_comesOn_42 355 (nI t) (e + 1 + f) (nI (smB (lb b t) k)) (nI k) M = f_X12_comesOn_42 355 (nI t) (f + 1) (nI (smB (lb b t) (t - 1))) (nI (t - 1)) M := by
    intro e
    induction e with
    | zero =>
      intro k f ek
      rw [show k = t - 1 by omega, show 0 + 1 + f = f + 1 by omega]
    | succ e ih =>
      intro k f ek
      have h1 := smB_lt (lb b t) k
      obtain ⟨h3, h2⟩ := hb k (by omega)
      rw [show e + 1 + 1 + f = (e + 1 + f) + 1 by omega]
      conv => lhs; rw [f_X12_comesOn_42]
      rw [t1, if_neg (nI_ge (by omega) (by omega)), w355_0 hW, b_i, zl_at 1800 rfl (by omega) (by decide), b_i, h3, show (5 : Int32) = nI 5 from rfl, pk_mul, nI_add, show (251 : Int32) = nI 251 from rfl, zrem_nI (by omega) (by decide) (by decide), nI_1, ← lb_at (b := b) (t := t) (k := k) (by omega)]
      exact ih (k + 1) f (by omega)
  have l1 := lp (t - 1) 0 (1000000 - t) (by omega)
  rw [show t - 1 + 1 + (1000000 - t) = 1000000 by omega, show nI (smB (lb b t) 0) = (211 : Int32) from rfl, show nI 0 = (0 : Int32) from rfl] at l1
  have hs := smB_lt (lb b t) (t - 1)
  rw [l1, f_X12_comesOn_42, t1, if_pos (nI_le (Nat.le_refl _) (by omega)), w355_0 hW, b_i, zl_at 1800 rfl (by omega) (by decide), b_i, hl0]
  by_cases e2 : smB (lb b t) (t - 1) = b (t - 1)
  rotate_left
  · have : onZ h b t = none := if_neg (fun x => e2 (of_decide_eq_true x).2.1)
    rw [this]
    exact ⟨M, im (fun x => e2 ((nI_eq (by omega) (by omega)).mp x).symm) rfl, FR.rf _ M, fun S x => by cases x⟩
  have eZ : onZ h b t = (onF h b (t - 1)).map (fun R => (b 0 * 256 + b 1, R)) := if_pos (decide_eq_true ⟨e1, e2, e3⟩)
  obtain ⟨M1, a1, a2, a3, a4, a5⟩ := s_copies (x := 1) (y := 0) (to := 1) (fm := 0) (K := K) rfl rfl hW (by decide) (by decide) (by decide) hK hk
  have hW1 := a2.W hW
  have hP1 := a3 (kN h) S0 hn.1 hP
  have hb1 : ∀ k, k < t → zI M1 356 k = nI (b k) := fun k hk => (a2.I (by unfold Wlk Wla Wke; omega)).trans (hb k hk).1
  have zk1 : zld 381 1 = some 1 := zl_at (k := 1) 22 rfl (by decide) (by decide)
  have zk2 : zld 386 1 = some 1 := zl_at (k := 1) 22 rfl (by decide) (by decide)
  have fr2 : FR (Wlk 1) M (zsI (zsI M1 381 1 (nI (b 0 * 256 + b 1))) 386 1 0) := FR.sI (a2.sI (by unfold Wlk Wla Wke; omega)) (by unfold Wlk Wla Wke; omega)
  have u1 : zI (zsI (zsI M1 381 1 (nI (b 0 * 256 + b 1))) 386 1 0) 381 1 = nI (b 0 * 256 + b 1) := (zI_sn _ _ (by omega)).trans (zI_se _ _ _ _)
  have u2 : zI (zsI (zsI M1 381 1 (nI (b 0 * 256 + b 1))) 386 1 0) 386 1 = 0 := zI_se _ _ _ _
  have u3 : ∀ j, zI (zsI (zsI M1 381 1 (nI (b 0 * 256 + b 1))) 386 1 0) 382 j = zI M1 382 j := fun j => (zI_sn _ _ (by omega)).trans (zI_sn _ _ (by omega))
  have hW2 : WRc (zsI M1 381 1 (nI (b 0 * 256 + b 1))) := hW1
  rw [if_pos (by rw [e2]), a1, b_i, w355_55 hW1, b_i, w355_0 hW1, b_i, z0, b_i, b_i, z1, b_i, zk1, b_i, hb1 0 (by omega), hb1 1 (by omega), day_or hb0 hbb, b_i, w355_60 hW2, b_i, zk2, b_i, b_i]
  revert fr2 u1 u2 u3
  generalize zsI (zsI M1 381 1 (nI (b 0 * 256 + b 1))) 386 1 0 = M2
  intro fr2 u1 u2 u3
  obtain ⟨M3, d1, d2, d3, d4⟩ := m_co124 hW v c1 c2 c5 hMD.2.2.1 m38 m41 hb ht e1 (kQ h) 0 (1000000 - kQ h - 1) M2 2 (fun _ => R0) (by omega) rfl fr2 (fun i hi => absurd hi (by omega)) (fun i h1 h2 => by
    rw [u3]
    have := (hP1.2 i h2).1
    rw [hU i h1 h2, show 6 * 1 + i = 6 + i by omega] at this
    exact this)
  rw [show kQ h + 1 + (1000000 - kQ h - 1) = 1000000 by omega] at d1
  refine ⟨M3, ?_, d2, fun S x => ?_⟩
  · rw [eZ, map_some]
    exact d1
  · rw [eZ] at x
    cases e : onF h b (t - 1) with
    | none => rw [e] at x; cases x
    | some R => rw [e] at x; cases x; exact ⟨⟨(d3.I (by omega)).trans u1, d4 R e⟩, (d3.I (by omega)).trans u2⟩
