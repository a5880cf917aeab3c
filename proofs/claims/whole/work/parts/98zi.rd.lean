/-! chip: sums and tests, as they are read -/
def isSg (t : Tok) (c : Nat) : Bool := decide (tK t = 3) && decide (tV t = c)
def isOw (t : Tok) (i : Nat) : Bool := decide (tK t = 1) && decide (owi (tL t) = i)
abbrev Cds := List (Nat × Nat)
abbrev PRs := (Nat × Nat) ⊕ (Nat × Cds)
def bnd (r : PRs) (k : Nat → Cds → PRs) : PRs := match r with
  | .inl e => .inl e
  | .inr x => k x.1 x.2
def osm (t : Tok) : Nat := if isSg t 43 = true then 31 else if isSg t 45 = true then 32 else 0
def opr (t : Tok) : Nat := if isSg t 42 = true then 33 else if isSg t 47 = true then 34 else if isSg t 37 = true then 35 else 0
def oor (t : Tok) : Nat := if isOw t 21 = true then 42 else 0
def oan (t : Tok) : Nat := if isOw t 22 = true then 41 else 0
def ocm (t : Tok) : Nat := if isSg t 60 = true then 38 else if isSg t 62 = true then 39 else if isSg t 61 = true then 40 else 0
def vcd (w : Bool) (t : Tok) : Nat := if tK t = 1 then (if w = true then (if owi (tL t) = 4 then 2 else if owi (tL t) = 12 then 1 else if 13 ≤ owi (tL t) ∧ owi (tL t) ≤ 16 then owi (tL t) - 10 else 0) else (if 17 ≤ owi (tL t) ∧ owi (tL t) ≤ 19 then owi (tL t) - 10 else 0)) else 0
def bad1 (b : Nat → Nat) (z p : Nat) : PRs := .inl (1, tBd (tok b z p))
def nxp (b : Nat → Nat) (z p : Nat) : Nat := tN (tok b z p)
def xpc (b : Nat → Nat) (z c p : Nat) (cs : Cds) : PRs := if isSg (tok b z p) c = true then .inr (nxp b z p, cs) else bad1 b z p
def opn (b : Nat → Nat) (z c o p : Nat) (cs : Cds) : PRs := if isSg (tok b z p) c = true then (if o < 7 then .inr (nxp b z p, cs) else .inl (5, tS (tok b z p))) else bad1 b z p
def lpr (b : Nat → Nat) (z : Nat) (F : Nat → Cds → PRs) (op : Tok → Nat) : Nat → Nat → Cds → PRs
  | 0, p, cs => .inr (p, cs)
  | f + 1, p, cs => if op (tok b z p) = 0 then .inr (p, cs) else bnd (F (nxp b z p) cs) (fun p' cs' => lpr b z F op f p' (cs' ++ [(op (tok b z p), 0)]))
def rdp (b : Nat → Nat) (z : Nat) (w : Bool) (R : Nat → Nat → Nat → Cds → PRs) (o p : Nat) (cs : Cds) : PRs :=
  if tK (tok b z p) = 2 then .inr (nxp b z p, cs ++ [(0, tV (tok b z p))])
  else if isSg (tok b z p) 40 = true then bnd (opn b z 40 o p cs) (fun p cs => bnd (R 0 (o + 1) p cs) (xpc b z 41))
  else if isOw (tok b z p) 25 = true then R 3 o p cs
  else if isOw (tok b z p) 26 = true then R 9 o p cs
  else if isOw (tok b z p) 20 = true then R 4 o p cs
  else if vcd w (tok b z p) = 0 then bad1 b z p else .inr (nxp b z p, cs ++ [(vcd w (tok b z p), 0)])
def rda (b : Nat → Nat) (z : Nat) (R : Nat → Nat → Nat → Cds → PRs) (c o p : Nat) (cs : Cds) : PRs :=
  bnd (opn b z 40 o (nxp b z p) cs) (fun p cs => bnd (R 0 (o + 1) p cs) (fun p cs => bnd (xpc b z 44 p cs) (fun p cs => bnd (R 0 (o + 1) p cs) (fun p cs => bnd (xpc b z 41 p cs) (fun p cs => .inr (p, cs ++ [(c, 0)]))))))
def rdc (b : Nat → Nat) (z : Nat) (R : Nat → Nat → Nat → Cds → PRs) (o p : Nat) (cs : Cds) : PRs :=
  bnd (opn b z 40 o (nxp b z p) cs) (fun p cs => bnd (R 5 (o + 1) p cs) (fun p cs => bnd (xpc b z 44 p cs) (fun p cs => bnd (R 0 (o + 1) p cs) (fun p cs => bnd (xpc b z 44 p cs) (fun p cs => bnd (R 0 (o + 1) p cs) (fun p cs => bnd (xpc b z 41 p cs) (fun p cs => .inr (p, cs ++ [(44, 0)]))))))))
def rdf (b : Nat → Nat) (z : Nat) (R : Nat → Nat → Nat → Cds → PRs) (o p : Nat) (cs : Cds) : PRs :=
  if isOw (tok b z p) 23 = true then (if o < 7 then bnd (R 7 (o + 1) (nxp b z p) cs) (fun p cs => .inr (p, cs ++ [(43, 0)])) else .inl (5, tS (tok b z p)))
  else if isSg (tok b z p) 91 = true then bnd (opn b z 91 o p cs) (fun p cs => bnd (R 5 (o + 1) p cs) (xpc b z 93))
  else if isOw (tok b z p) 24 = true then .inr (nxp b z p, cs ++ [(30, 0)])
  else R 8 o p cs
def rdm (b : Nat → Nat) (z : Nat) (R : Nat → Nat → Nat → Cds → PRs) (o p : Nat) (cs : Cds) : PRs :=
  bnd (R 0 o p cs) (fun p1 cs1 => if ocm (tok b z p1) = 0 then bad1 b z p1 else bnd (R 0 o (nxp b z p1) cs1) (fun p2 cs2 => .inr (p2, cs2 ++ [(ocm (tok b z p1), 0)])))
def rd (b : Nat → Nat) (z : Nat) (w : Bool) : Nat → Nat → Nat → Nat → Cds → PRs
  | 0, _, _, _, _ => .inl (0, 0)
  | g + 1, sel, o, p, cs =>
    if sel = 0 then bnd (rd b z w g 1 o p cs) (lpr b z (rd b z w g 1 o) osm 1600)
    else if sel = 1 then bnd (rd b z w g 2 o p cs) (lpr b z (rd b z w g 2 o) opr 1600)
    else if sel = 2 then rdp b z w (rd b z w g) o p cs
    else if sel = 3 then rda b z (rd b z w g) 36 o p cs
    else if sel = 9 then rda b z (rd b z w g) 37 o p cs
    else if sel = 4 then rdc b z (rd b z w g) o p cs
    else if sel = 5 then bnd (rd b z w g 6 o p cs) (lpr b z (rd b z w g 6 o) oor 1600)
    else if sel = 6 then bnd (rd b z w g 7 o p cs) (lpr b z (rd b z w g 7 o) oan 1600)
    else if sel = 7 then rdf b z (rd b z w g) o p cs
    else rdm b z (rd b z w g) o p cs
theorem isSg_iff {t : Tok} {c : Nat} : isSg t c = true ↔ tK t = 3 ∧ tV t = c := by
  unfold isSg; rw [Bool.and_eq_true, decide_eq_true_iff, decide_eq_true_iff]
theorem isOw_iff {t : Tok} {i : Nat} : isOw t i = true ↔ tK t = 1 ∧ owi (tL t) = i := by
  unfold isOw; rw [Bool.and_eq_true, decide_eq_true_iff, decide_eq_true_iff]
/-- what a token is -/
theorem tok_ok {b : Nat → Nat} {z p : Nat} (hb : ∀ k, k < z → b k < 256) (hp : p ≤ z) : tK (tok b z p) ≤ 4 ∧ p ≤ tS (tok b z p) ∧ tS (tok b z p) ≤ z ∧ (tK (tok b z p) ≤ 3 → ¬ tK (tok b z p) = 0 → p < tN (tok b z p) ∧ tN (tok b z p) ≤ z) ∧ (tK (tok b z p) = 1 → NM (tL (tok b z p))) ∧ (tK (tok b z p) = 2 → tV (tok b z p) < 10000) ∧ (tK (tok b z p) = 3 → tV (tok b z p) < 256) ∧ tBd (tok b z p) ≤ z := by
  obtain ⟨k1, k2, k3⟩ := skp_ge b hp
  unfold tok
  revert k1 k2 k3
  generalize skp b z p = s
  intro k1 k2 k3
  unfold tkA
  by_cases c1 : z ≤ s
  · rw [if_pos c1]
    exact ⟨by show 0 ≤ 4; decide, k1, k2, fun _ q => absurd rfl q, fun q => absurd q (by show ¬ (0 : Nat) = 1; decide), fun q => absurd q (by show ¬ (0 : Nat) = 2; decide), fun q => absurd q (by show ¬ (0 : Nat) = 3; decide), k2⟩
  rw [if_neg c1]
  by_cases c2 : isL (b s) = false ∧ isDg (b s) = false
  · rw [if_pos c2]
    exact ⟨by show 3 ≤ 4; decide, k1, k2, fun _ _ => ⟨by show p < s + 1; omega, by show s + 1 ≤ z; omega⟩, fun q => absurd q (by show ¬ (3 : Nat) = 1; decide), fun q => absurd q (by show ¬ (3 : Nat) = 2; decide), fun _ => hb s (by omega), k2⟩
  rw [if_neg c2]
  by_cases c3 : glu b s = true
  · rw [if_pos c3]
    exact ⟨by show 4 ≤ 4; decide, k1, k2, fun q => absurd q (by show ¬ (4 : Nat) ≤ 3; decide), fun q => absurd q (by show ¬ (4 : Nat) = 1; decide), fun q => absurd q (by show ¬ (4 : Nat) = 2; decide), fun q => absurd q (by show ¬ (4 : Nat) = 3; decide), k2⟩
  rw [if_neg c3]
  by_cases c4 : isL (b s) = true
  · rw [if_pos c4]
    obtain ⟨r1, r2, r3⟩ := rl_le isL b z 6 s
    have r4 : 1 ≤ rl isL b z 6 s := by rw [rl, if_pos ⟨by omega, c4⟩]; omega
    revert r1 r2 r3 r4
    generalize rl isL b z 6 s = n
    intro r1 r2 r3 r4
    by_cases c5 : s + n < z ∧ isL (b (s + n)) = true
    · rw [if_pos c5]
      exact ⟨by show 4 ≤ 4; decide, k1, k2, fun q => absurd q (by show ¬ (4 : Nat) ≤ 3; decide), fun q => absurd q (by show ¬ (4 : Nat) = 1; decide), fun q => absurd q (by show ¬ (4 : Nat) = 2; decide), fun q => absurd q (by show ¬ (4 : Nat) = 3; decide), Nat.le_of_lt c5.1⟩
    · rw [if_neg c5]
      exact ⟨by show 1 ≤ 4; decide, k1, k2, fun _ _ => ⟨by show p < s + n; omega, by show s + n ≤ z; omega⟩, fun _ => ⟨by show 1 ≤ (lts b s n).length; rw [lts_len]; omega, by show (lts b s n).length ≤ 6; rw [lts_len]; omega, lts_NM n r3⟩, fun q => absurd q (by show ¬ (1 : Nat) = 2; decide), fun q => absurd q (by show ¬ (1 : Nat) = 3; decide), k2⟩
  · rw [if_neg c4]
    have c6 : isDg (b s) = true := by
      cases hd : isDg (b s) with
      | true => rfl
      | false => exact absurd ⟨Bool.eq_false_iff.mpr c4, hd⟩ c2
    obtain ⟨r1, r2, r3⟩ := rl_le isDg b z 4 s
    have r4 : 1 ≤ rl isDg b z 4 s := by rw [rl, if_pos ⟨by omega, c6⟩]; omega
    revert r1 r2 r3 r4
    generalize rl isDg b z 4 s = n
    intro r1 r2 r3 r4
    by_cases c5 : s + n < z ∧ isDg (b (s + n)) = true
    · rw [if_pos c5]
      exact ⟨by show 4 ≤ 4; decide, k1, k2, fun q => absurd q (by show ¬ (4 : Nat) ≤ 3; decide), fun q => absurd q (by show ¬ (4 : Nat) = 1; decide), fun q => absurd q (by show ¬ (4 : Nat) = 2; decide), fun q => absurd q (by show ¬ (4 : Nat) = 3; decide), Nat.le_of_lt c5.1⟩
    · rw [if_neg c5]
      refine ⟨by show 2 ≤ 4; decide, k1, k2, fun _ _ => ⟨by show p < s + n; omega, by show s + n ≤ z; omega⟩, fun q => absurd q (by show ¬ (2 : Nat) = 1; decide), fun _ => ?_, fun q => absurd q (by show ¬ (2 : Nat) = 3; decide), k2⟩
      show nvl b s n < 10000
      exact Nat.lt_of_lt_of_le (nvl_lt n r3) (Nat.pow_le_pow_right (n := 10) (by decide) r1)
