/-! programs of sums and tests: what they give, when they are well made -/
def ownOf (s : Nat) : Nat := if s = 2 then 4 else if s = 1 then 12 else s + 10
def stp (c : Nat × Nat) : Int32 := if c.1 = 0 then nI c.2 else if c.1 = 30 then 1 else if c.1 < 30 then -100 - nI (ownOf c.1) else opS c.1
def tst (lo hi : Nat) (c : Nat × Nat) (st : List Bool) : Option (List Bool) :=
  if c.1 = 0 then (if c.2 ≤ 9999 then some (false :: st) else none)
  else if lo ≤ c.1 ∧ c.1 ≤ hi then some (false :: st)
  else if c.1 = 30 then some (true :: st)
  else if c.1 = 43 then (match st with | true :: r => some (true :: r) | _ => none)
  else if c.1 = 44 then (match st with | false :: false :: true :: r => some (false :: r) | _ => none)
  else if 31 ≤ c.1 ∧ c.1 ≤ 42 then (match st with | x :: y :: r => if x = decide (41 ≤ c.1) ∧ y = decide (41 ≤ c.1) then some (decide (38 ≤ c.1) :: r) else none | _ => none)
  else none
def est (env : Nat → Nat) (c : Nat × Nat) (vs : List Int) : List Int :=
  if c.1 = 0 then (c.2 : Int) :: vs else if c.1 < 30 then (env c.1 : Int) :: vs else if c.1 = 30 then 1 :: vs
  else if c.1 = 43 then (match vs with | a :: r => (1 - a) :: r | r => r)
  else if c.1 = 44 then (match vs with | b :: a :: t :: r => (if t = 1 then a else b) :: r | r => r)
  else (match vs with | b :: a :: r => bop c.1 a b :: r | r => r)
def tyc (lo hi : Nat) : List (Nat × Nat) → List Bool → Option (List Bool)
  | [], st => some st
  | c :: cs, st => match tst lo hi c st with
    | some st' => if st'.length ≤ 90 then tyc lo hi cs st' else none
    | none => none
def evs (env : Nat → Nat) : List (Nat × Nat) → List Int → List Int
  | [], vs => vs
  | c :: cs, vs => evs env cs (est env c vs)
def VT : List Bool → List Int → Prop
  | [], [] => True
  | b :: bs, v :: vs => (bd v ∧ (b = true → tru v)) ∧ VT bs vs
  | _, _ => False
theorem VT.len : ∀ {st : List Bool} {vs : List Int}, VT st vs → st.length = vs.length
  | [], [], _ => rfl
  | _ :: bs, _ :: vs, h => by show bs.length + 1 = vs.length + 1; rw [VT.len h.2]
  | [], _ :: _, h => absurd h id
  | _ :: _, [], h => absurd h id
theorem VT.cons {b : Bool} {bs : List Bool} {vs : List Int} (h : VT (b :: bs) vs) : ∃ v r, vs = v :: r ∧ bd v ∧ (b = true → tru v) ∧ VT bs r := by
  cases vs with
  | nil => exact absurd h id
  | cons v r => exact ⟨v, r, rfl, h.1.1, h.1.2, h.2⟩
/-- what a step does, told by its kind -/
def Knd (lo hi : Nat) (env : Nat → Nat) (c : Nat × Nat) (st st' : List Bool) (vs vs' : List Int) : Prop :=
  (c.1 = 0 ∧ c.2 ≤ 9999 ∧ st' = false :: st ∧ vs' = (c.2 : Int) :: vs) ∨
  (lo ≤ c.1 ∧ c.1 ≤ hi ∧ ¬ c.1 = 0 ∧ st' = false :: st ∧ vs' = (env c.1 : Int) :: vs) ∨
  (c.1 = 30 ∧ st' = true :: st ∧ vs' = 1 :: vs) ∨
  (c.1 = 43 ∧ ∃ a r, vs = a :: r ∧ tru a ∧ vs' = (1 - a) :: r) ∨
  (c.1 = 44 ∧ ∃ b a t r, vs = b :: a :: t :: r ∧ bd a ∧ bd b ∧ tru t ∧ vs' = (if t = 1 then a else b) :: r) ∨
  (31 ≤ c.1 ∧ c.1 ≤ 42 ∧ ∃ b a r, vs = b :: a :: r ∧ bd a ∧ bd b ∧ (41 ≤ c.1 → tru a ∧ tru b) ∧ vs' = bop c.1 a b :: r)
theorem tst_knd {lo hi : Nat} {env : Nat → Nat} {c : Nat × Nat} {st st' : List Bool} {vs : List Int} (hhi : hi < 30) (henv : ∀ s, lo ≤ s → s ≤ hi → env s ≤ 9999) (h : tst lo hi c st = some st') (hv : VT st vs) : VT st' (est env c vs) ∧ Knd lo hi env c st st' vs (est env c vs) := by
  unfold tst at h
  unfold est
  by_cases h0 : c.1 = 0
  · rw [if_pos h0] at h ⊢
    by_cases h1 : c.2 ≤ 9999
    · rw [if_pos h1] at h; cases h
      exact ⟨⟨⟨by unfold bd; omega, fun x => absurd x (by decide)⟩, hv⟩, Or.inl ⟨h0, h1, rfl, rfl⟩⟩
    · rw [if_neg h1] at h; cases h
  · rw [if_neg h0] at h ⊢
    by_cases hr : lo ≤ c.1 ∧ c.1 ≤ hi
    · rw [if_pos hr] at h; cases h
      rw [if_pos (by omega)]
      have := henv c.1 hr.1 hr.2
      exact ⟨⟨⟨by unfold bd; omega, fun x => absurd x (by decide)⟩, hv⟩, Or.inr (Or.inl ⟨hr.1, hr.2, h0, rfl, rfl⟩)⟩
    · rw [if_neg hr] at h
      by_cases h30 : c.1 = 30
      · rw [if_pos h30] at h; cases h
        rw [if_neg (by omega), if_pos h30]
        exact ⟨⟨⟨bd1, fun _ => Or.inr rfl⟩, hv⟩, Or.inr (Or.inr (Or.inl ⟨h30, rfl, rfl⟩))⟩
      · rw [if_neg h30] at h
        by_cases h43 : c.1 = 43
        · rw [if_pos h43] at h
          rw [if_neg (by omega), if_neg h30, if_pos h43]
          cases st with
          | nil => cases h
          | cons b r =>
            cases b with
            | false => cases h
            | true =>
              cases h
              obtain ⟨v, r', e, h1, h2, h3⟩ := hv.cons
              subst e
              have ht := h2 rfl
              refine ⟨⟨⟨?_, fun _ => ?_⟩, h3⟩, Or.inr (Or.inr (Or.inr (Or.inl ⟨h43, v, r', rfl, ht, rfl⟩)))⟩
              · rcases ht with e | e <;> subst e <;> unfold bd <;> omega
              · rcases ht with e | e <;> subst e
                · exact Or.inr rfl
                · exact Or.inl rfl
        · rw [if_neg h43] at h
          by_cases h44 : c.1 = 44
          · rw [if_pos h44] at h
            rw [if_neg (by omega), if_neg h30, if_neg h43, if_pos h44]
            cases st with
            | nil => cases h
            | cons b1 r1 =>
              cases r1 with
              | nil => cases b1 <;> cases h
              | cons b2 r2 =>
                cases r2 with
                | nil => cases b1 <;> cases b2 <;> cases h
                | cons b3 r3 =>
                  cases b1 <;> cases b2 <;> cases b3 <;> cases h
                  obtain ⟨v1, r1', e1, p1, -, q1⟩ := hv.cons
                  subst e1
                  obtain ⟨v2, r2', e2, p2, -, q2⟩ := q1.cons
                  subst e2
                  obtain ⟨v3, r3', e3, p3, t3, q3⟩ := q2.cons
                  subst e3
                  refine ⟨⟨⟨?_, fun x => absurd x (by decide)⟩, q3⟩, Or.inr (Or.inr (Or.inr (Or.inr (Or.inl ⟨h44, v1, v2, v3, r3', rfl, p2, p1, t3 rfl, rfl⟩))))⟩
                  by_cases ht : v3 = 1
                  · rw [if_pos ht]; exact p2
                  · rw [if_neg ht]; exact p1
          · rw [if_neg h44] at h
            by_cases hb : 31 ≤ c.1 ∧ c.1 ≤ 42
            · rw [if_pos hb] at h
              rw [if_neg (by omega), if_neg h30, if_neg h43, if_neg h44]
              cases st with
              | nil => cases h
              | cons b1 r1 =>
                cases r1 with
                | nil => cases h
                | cons b2 r2 =>
                  simp only at h
                  by_cases he : b1 = decide (41 ≤ c.1) ∧ b2 = decide (41 ≤ c.1)
                  · rw [if_pos he] at h
                    cases h
                    obtain ⟨v1, r1', e1, p1, t1, q1⟩ := hv.cons
                    subst e1
                    obtain ⟨v2, r2', e2, p2, t2, q2⟩ := q1.cons
                    subst e2
                    refine ⟨⟨⟨bop_b p2 p1, fun x => bop_t (of_decide_eq_true x)⟩, q2⟩, Or.inr (Or.inr (Or.inr (Or.inr (Or.inr ⟨hb.1, hb.2, v1, v2, r2', rfl, p2, p1, fun h41 => ⟨t2 (he.2.trans (decide_eq_true h41)), t1 (he.1.trans (decide_eq_true h41))⟩, rfl⟩))))⟩
                  · rw [if_neg he] at h; cases h
            · rw [if_neg hb] at h; cases h
/-! the class runs a program -/
def SC (M : Mem) : List Int → Prop
  | [] => True
  | v :: r => zI M 5 r.length = iI v ∧ SC M r
theorem SC.up {M M1 : Mem} : ∀ {vs : List Int}, SC M vs → (∀ k, k < vs.length → zI M1 5 k = zI M 5 k) → SC M1 vs
  | [], _, _ => True.intro
  | _ :: r, h, hk => ⟨(hk r.length (Nat.lt_succ_self _)).trans h.1, SC.up h.2 (fun k hk2 => hk k (Nat.lt_succ_of_lt hk2))⟩
def Wtr (a j : Nat) : Prop := (a = 3 ∧ j = 2) ∨ a = 5
theorem s_push {M : Mem} {v : Int} {vs : List Int} (hW : WRc M) (h2 : zI M 3 2 = nI vs.length) (hl : vs.length < 96) (hS : SC M vs) : ∃ M', f_X10_push 3 (iI v) M = some M' ∧ FR Wtr M M' ∧ zI M' 3 2 = nI (v :: vs).length ∧ SC M' (v :: vs) := by
  have fr : FR Wtr M (zsI (zsI M 5 vs.length (iI v)) 3 2 (nI (vs.length + 1))) := FR.sI (FR.sI (FR.rf _ M) (by unfold Wtr; omega)) (by unfold Wtr; omega)
  refine ⟨_, ?_, fr, zI_se _ _ _ _, ?_, ?_⟩
  · unfold f_X10_push f_X10_push_39
    rw [h2, if_neg (nI_pos (by omega)), w3_1 hW, b_i, zlen_e (n := 96) rfl, if_neg (nI_ge hl (by decide)), b_i, zl_at 96 rfl hl (by decide), b_i, b_i, zI_sn _ _ (by omega), h2, nI_1, b_i]
  · rw [zI_sn _ _ (by omega), zI_se]
  · exact hS.up (fun k hk => by rw [zI_sn _ _ (by omega), zI_sn _ _ (by omega)])
theorem s_pop {M : Mem} {v : Int} {vs : List Int} (hW : WRc M) (h2 : zI M 3 2 = nI (v :: vs).length) (hl : vs.length < 96) (hS : SC M (v :: vs)) : f_X10_pop 3 M = some (iI v, zsI M 3 2 (nI vs.length)) ∧ SC (zsI M 3 2 (nI vs.length)) vs := by
  have h2 : zI M 3 2 = nI (vs.length + 1) := h2
  refine ⟨?_, hS.2.up (fun k hk => zI_sn _ _ (by omega))⟩
  unfold f_X10_pop
  rw [h2, if_neg (nI_nle (by omega) (by omega)), w3_1 hW, b_i, zlen_e (n := 96) rfl, if_pos (nI_le (by omega) (by decide)), show (1 : Int32) = nI 1 from rfl, pk_sub (by omega), Nat.add_sub_cancel, b_i, zrf_sI, w3_1 hW, b_i, zI_se, zl_at 96 rfl hl (by decide), b_i, zI_sn _ _ (by omega), hS.1]
theorem var_ok : ∀ s : Fin 10, 1 ≤ s.val → (-100 - nI (ownOf s.val) < 0) ∧ ¬ ((-100) < -100 - nI (ownOf s.val)) ∧ (-100) - (-100 - nI (ownOf s.val)) = nI (ownOf s.val) ∧ ownOf s.val < 27 := by decide
theorem op_ok : ∀ s : Fin 45, 31 ≤ s.val → (opS s.val < 0) ∧ ((-100) < opS s.val) ∧ (opS s.val = (-13) ↔ s.val = 43) ∧ (opS s.val = (-14) ↔ s.val = 44) := by decide
def ENC (M : Mem) (lo hi : Nat) (env : Nat → Nat) : Prop := ∀ s, lo ≤ s → s ≤ hi → zI M 4 (ownOf s) = nI (env s)
def PRG (M : Mem) (a : Nat) : Nat → List (Nat × Nat) → Prop
  | _, [] => True
  | i, c :: cs => zI M a i = stp c ∧ PRG M a (i + 1) cs
theorem PRG.fr {W : Nat → Nat → Prop} {M M1 : Mem} {a : Nat} (f : FR W M M1) (hw : ∀ j, ¬ W a j) : ∀ {cs : List (Nat × Nat)} {i : Nat}, PRG M a i cs → PRG M1 a i cs
  | [], _, _ => True.intro
  | _ :: _, _, h => ⟨(f.I (hw _)).trans h.1, PRG.fr f hw h.2⟩
theorem s_run_l {c0 lo hi tt : Nat} {x2 : Int32} {env : Nat → Nat} (h0 : zCh2 c0) (hlo : 1 ≤ lo) (hhi : hi ≤ 9) (henv : ∀ s, lo ≤ s → s ≤ hi → env s ≤ 9999) (htt : tt ≤ 1600) : ∀ cs i f M st st' vs, WRc M → ENC M lo hi env → PRG M (c0 + 8) i cs → tyc lo hi cs st = some st' → st.length ≤ 90 → VT st vs → zI M 3 2 = nI vs.length → SC M vs → i + cs.length = tt → ∃ M', f_X10_run_8 3 c0 x2 (nI tt) (cs.length + 1 + f) (nI i) M = f_X10_run_161 3 c0 x2 (nI tt) M' ∧ FR Wtr M M' ∧ zI M' 3 2 = nI (evs env cs vs).length ∧ SC M' (evs env cs vs) ∧ VT st' (evs env cs vs) := by
  have hc0 : c0 = 335 ∨ c0 = 344 := h0
  have hsz : (zSH (c0 + 8)).2 = 1600 := by rcases hc0 with e | e <;> subst e <;> rfl
  intro cs
  induction cs with
  | nil =>
    intro i f M st st' vs hW hE hP ht hs hv h2 hS e
    have e2 : i = tt := by simpa using e
    subst e2
    cases ht
    refine ⟨M, ?_, FR.rf _ M, h2, hS, hv⟩
    show f_X10_run_8 3 c0 x2 (nI i) (0 + 1 + f) (nI i) M = _
    rw [show 0 + 1 + f = f + 1 by omega, f_X10_run_8, if_pos (nI_le (Nat.le_refl _) (by omega))]
  | cons c cs ih =>
    intro i f M st st' vs hW hE hP ht hs hv h2 hS e
    have e : i + (cs.length + 1) = tt := e
    unfold tyc at ht
    cases h1 : tst lo hi c st with
    | none => rw [h1] at ht; cases ht
    | some s1 =>
      rw [h1] at ht
      by_cases hl : s1.length ≤ 90
      · have ht : tyc lo hi cs s1 = some st' := by simpa [hl] using ht
        obtain ⟨hv1, hk⟩ := tst_knd (by omega) henv h1 hv
        have hvl := hv.len
        have hvl1 := hv1.len
        have fin : ∀ M1, FR Wtr M M1 → zI M1 3 2 = nI (est env c vs).length → SC M1 (est env c vs) → ∃ M', f_X10_run_155 (f_X10_run_8 3 c0 x2 (nI tt) (cs.length + 1 + f)) 3 c0 x2 (nI tt) (nI i) M1 = f_X10_run_161 3 c0 x2 (nI tt) M' ∧ FR Wtr M M' ∧ zI M' 3 2 = nI (evs env (c :: cs) vs).length ∧ SC M' (evs env (c :: cs) vs) ∧ VT st' (evs env (c :: cs) vs) := by
          intro M1 f1 g2 gS
          obtain ⟨M', a1, a2, a3, a4, a5⟩ := ih (i + 1) f M1 s1 st' (est env c vs) (f1.W hW) (fun s q1 q2 => (f1.I (by unfold Wtr; omega)).trans (hE s q1 q2)) (hP.2.fr f1 (fun j => by unfold Wtr; omega)) ht hl hv1 g2 gS (by omega)
          refine ⟨M', ?_, f1.tr a2, a3, a4, a5⟩
          unfold f_X10_run_155
          rw [nI_1]; exact a1
        show ∃ M', f_X10_run_8 3 c0 x2 (nI tt) (cs.length + 1 + 1 + f) (nI i) M = _ ∧ _
        rw [show cs.length + 1 + 1 + f = (cs.length + 1 + f) + 1 by omega, f_X10_run_8, if_neg (nI_ge (by omega) (by omega)), wC_2 hW h0, b_i, zlen_e hsz, if_neg (nI_ge (by omega) (by decide)), b_i, zl_at 1600 hsz (by omega) (by decide), b_i, hP.1]
        have pushF : ∀ v, est env c vs = v :: vs → ∃ M1, f_X10_push 3 (iI v) M = some M1 ∧ FR Wtr M M1 ∧ zI M1 3 2 = nI (est env c vs).length ∧ SC M1 (est env c vs) := by
          intro v hv
          obtain ⟨M1, a1, a2, a3, a4⟩ := s_push (v := v) hW h2 (by omega) hS
          exact ⟨M1, a1, a2, by rw [hv]; exact a3, by rw [hv]; exact a4⟩
        rcases hk with ⟨k0, k1, k2, k3⟩ | ⟨k0, k1, k2, k3, k4⟩ | ⟨k0, k1, k2⟩ | ⟨k0, a, r, k1, k2, k3⟩ | ⟨k0, b, a, t, r, k1, k2, k3, k4, k5⟩ | ⟨k0, k1, b, a, r, k2, k3, k4, k5, k6⟩
        · have es : stp c = nI c.2 := by unfold stp; rw [if_pos k0]
          obtain ⟨M1, a1, a2, a3, a4⟩ := pushF _ k3
          rw [iI_n] at a1
          rw [es, if_neg (nI_pos (by omega)), a1, b_i]
          exact fin M1 a2 a3 a4
        · have es : stp c = -100 - nI (ownOf c.1) := by unfold stp; rw [if_neg k2, if_neg (by omega), if_pos (by omega)]
          have vo := var_ok ⟨c.1, by omega⟩ (by show 1 ≤ c.1; omega)
          dsimp only at vo
          obtain ⟨M1, a1, a2, a3, a4⟩ := pushF _ k4
          rw [iI_n] at a1
          have hval : f_X10_valueOf 3 (nI (ownOf c.1)) M = some (nI (env c.1), M) := by
            unfold f_X10_valueOf f_X10_valueOf_23
            rw [if_neg (nI_pos (by omega)), w3_0 hW, b_i, zlen_e (n := 27) rfl, if_neg (nI_ge vo.2.2.2 (by decide)), b_i, zl_at 27 rfl vo.2.2.2 (by decide), b_i, hE c.1 k0 k1]
          rw [es, if_pos vo.1, if_neg vo.2.1, vo.2.2.1, hval, b_i, a1, b_i]
          exact fin M1 a2 a3 a4
        · have es : stp c = nI 1 := by unfold stp; rw [if_neg (by omega), if_pos k0]; rfl
          obtain ⟨M1, a1, a2, a3, a4⟩ := pushF _ k2
          rw [show iI 1 = nI 1 from rfl] at a1
          rw [es, if_neg (nI_pos (by decide)), a1, b_i]
          exact fin M1 a2 a3 a4
        · have es : stp c = opS c.1 := by unfold stp; rw [if_neg (by omega), if_neg (by omega), if_neg (by omega)]
          have oo := op_ok ⟨c.1, by omega⟩ (by show 31 ≤ c.1; omega)
          dsimp only at oo
          rw [k3] at fin
          subst k1
          obtain ⟨p1, p2⟩ := s_pop hW h2 (by have : (a :: r).length = r.length + 1 := rfl; omega) hS
          have f1 : FR Wtr M (zsI M 3 2 (nI r.length)) := (FR.rf _ M).sI (by unfold Wtr; omega)
          obtain ⟨M1, a1, a2, a3, a4⟩ := s_push (v := 1 - a) (f1.W hW) (zI_se _ _ _ _) (by have : (a :: r).length = r.length + 1 := rfl; omega) p2
          rw [es, if_pos oo.1, if_pos oo.2.1, if_pos (oo.2.2.1.mpr k0), p1, b_i, iI1, iI_sub, a1, b_i]
          exact fin M1 (f1.tr a2) a3 a4
        · have es : stp c = opS c.1 := by unfold stp; rw [if_neg (by omega), if_neg (by omega), if_neg (by omega)]
          have oo := op_ok ⟨c.1, by omega⟩ (by show 31 ≤ c.1; omega)
          dsimp only at oo
          rw [k5] at fin
          subst k1
          have hlen : (b :: a :: t :: r).length = r.length + 3 := rfl
          obtain ⟨p1, p2⟩ := s_pop hW h2 (by show r.length + 2 < 96; omega) hS
          have f1 : FR Wtr M (zsI M 3 2 (nI (a :: t :: r).length)) := (FR.rf _ M).sI (by unfold Wtr; omega)
          obtain ⟨p3, p4⟩ := s_pop (f1.W hW) (zI_se _ _ _ _) (by show r.length + 1 < 96; omega) p2
          have f2 : FR Wtr M (zsI (zsI M 3 2 (nI (a :: t :: r).length)) 3 2 (nI (t :: r).length)) := f1.sI (by unfold Wtr; omega)
          obtain ⟨p5, p6⟩ := s_pop (f2.W hW) (zI_se _ _ _ _) (by omega) p4
          have f3 : FR Wtr M (zsI (zsI (zsI M 3 2 (nI (a :: t :: r).length)) 3 2 (nI (t :: r).length)) 3 2 (nI r.length)) := f2.sI (by unfold Wtr; omega)
          obtain ⟨M1, a1, a2, a3, a4⟩ := s_push (v := if t = 1 then a else b) (f3.W hW) (zI_se _ _ _ _) (by omega) p6
          rw [es, if_pos oo.1, if_pos oo.2.1, if_neg (fun x => by have := oo.2.2.1.mp x; omega), if_pos (oo.2.2.2.mpr k0), p1, b_i, p3, b_i, p5, b_i]
          unfold f_X10_run_124
          have res := fin M1 (f3.tr a2) a3 a4
          rcases k4 with e | e
          · subst e
            rw [if_neg (by decide)] at a1
            rw [if_pos (show iI 0 = 0 from rfl), a1, b_i]
            exact res
          · subst e
            rw [if_pos rfl] at a1
            rw [if_neg (show ¬ iI 1 = 0 by decide), a1, b_i]
            exact res
        · have es : stp c = opS c.1 := by unfold stp; rw [if_neg (by omega), if_neg (by omega), if_neg (by omega)]
          have oo := op_ok ⟨c.1, by omega⟩ (by show 31 ≤ c.1; omega)
          dsimp only at oo
          rw [k6] at fin
          subst k2
          have hlen : (b :: a :: r).length = r.length + 2 := rfl
          obtain ⟨p1, p2⟩ := s_pop hW h2 (by show r.length + 1 < 96; omega) hS
          have f1 : FR Wtr M (zsI M 3 2 (nI (a :: r).length)) := (FR.rf _ M).sI (by unfold Wtr; omega)
          obtain ⟨p3, p4⟩ := s_pop (f1.W hW) (zI_se _ _ _ _) (by omega) p2
          have f2 : FR Wtr M (zsI (zsI M 3 2 (nI (a :: r).length)) 3 2 (nI r.length)) := f1.sI (by unfold Wtr; omega)
          obtain ⟨M1, a1, a2, a3, a4⟩ := s_push (v := bop c.1 a b) (f2.W hW) (zI_se _ _ _ _) (by omega) p4
          rw [es, if_pos oo.1, if_pos oo.2.1, if_neg (fun x => by have := oo.2.2.1.mp x; omega), if_neg (fun x => by have := oo.2.2.2.mp x; omega), p1, b_i, p3, b_i, s_joined k0 k1 k3 k4 k5, b_i, a1, b_i]
          exact fin M1 (f2.tr a2) a3 a4
      · exfalso
        simp [hl] at ht
