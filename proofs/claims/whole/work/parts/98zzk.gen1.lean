/-! chip: the generator (1): numbers -/
def hor (m p k : Nat) : Nat → Nat → Nat
  | 0, _ => 0
  | n + 1, w => (w % 2) ^^^ fit m p k (hor m p k n (w / 2))
theorem xs_front (n : Nat) (f : Nat → Nat) : xs (n + 1) f = f 0 ^^^ xs n (fun i => f (i + 1)) := by
  induction n with
  | zero => show 0 ^^^ f 0 = f 0 ^^^ 0; rw [Nat.zero_xor, Nat.xor_zero]
  | succ n ih => rw [show xs (n + 1 + 1) f = xs (n + 1) f ^^^ f (n + 1) from rfl, ih, Nat.xor_assoc]; rfl
theorem fit_xs {m p : Nat} (h : (m, p) ∈ fPR) (k : Nat) {f : Nat → Nat} : ∀ n, (∀ i, i < n → f i < 2 ^ m) → fit m p k (xs n f) = xs n (fun i => fit m p k (f i)) := by
  intro n
  induction n with
  | zero => intro _; exact fit_0 h k
  | succ n ih =>
    intro hf
    rw [show xs (n + 1) f = xs n f ^^^ f n from rfl, fit_lin h k (xs_lt (fun i hi => hf i (by omega))) (hf n (by omega)), ih (fun i hi => hf i (by omega))]
    rfl
theorem hor_sy {m p : Nat} (h : (m, p) ∈ fPR) (k : Nat) : ∀ n w, hor m p k n w = sy m p n w k := by
  intro n
  induction n with
  | zero => intro w; rfl
  | succ n ih =>
    intro w
    rw [hor, ih]
    unfold sy
    rw [xs_front, fit_xs h k n (fun i _ => by
      by_cases q : (w / 2).testBit i = true
      · rw [if_pos q]; exact (f_pos h _).2
      · rw [if_neg q]; exact Nat.pow_pos (by decide))]
    congr 1
    · rw [Nat.testBit_zero, Nat.zero_mul]
      rcases Nat.mod_two_eq_zero_or_one w with e | e
      · rw [e]; rfl
      · rw [e]; rfl
    · refine xs_ext n (fun i _ => ?_)
      rw [Nat.testBit_succ]
      by_cases q : (w / 2).testBit i = true
      · rw [if_pos q, if_pos q, fit_pw, Nat.add_mul, Nat.one_mul, Nat.add_comm]
      · rw [if_neg q, if_neg q, fit_0 h]
def mdv (g u : Nat) : Nat → Nat
  | 0 => 0
  | n + 1 => mdv g u n ^^^ (if u.testBit n then g <<< n else 0)
def bln : Nat → Nat → Nat
  | 0, _ => 0
  | n + 1, y => if y = 0 then 0 else bln n (y / 2) + 1
def lsp (m p k : Nat) : Nat := match mnl m p k 7 k [1] with
  | none => 0
  | some R => twF (lg R) R.length
def GTB : List (Nat × List (Nat × Nat)) := [(11, [(1, 0), (11, 3), (11, 3), (127, 6), (127, 6), (127, 6), (127, 6), (129, 7), (129, 7), (129, 7), (129, 7)]), (13, [(1, 0), (13, 3), (13, 3), (127, 6), (127, 6), (127, 6), (127, 6), (129, 7), (129, 7), (129, 7), (129, 7)]), (19, [(1, 0), (19, 4), (19, 4), (465, 8), (465, 8), (1335, 10), (1335, 10), (32767, 14), (32767, 14), (32767, 14), (32767, 14)]), (25, [(1, 0), (25, 4), (25, 4), (279, 8), (279, 8), (1893, 10), (1893, 10), (32767, 14), (32767, 14), (32767, 14), (32767, 14)]), (37, [(1, 0), (37, 5), (37, 5), (1897, 10), (1897, 10), (36783, 15), (36783, 15), (1451733, 20), (1451733, 20), (1451733, 20), (1451733, 20)]), (41, [(1, 0), (41, 5), (41, 5), (1207, 10), (1207, 10), (62961, 15), (62961, 15), (1404045, 20), (1404045, 20), (1404045, 20), (1404045, 20)]), (47, [(1, 0), (47, 5), (47, 5), (1561, 10), (1561, 10), (56669, 15), (56669, 15), (1338595, 20), (1338595, 20), (1338595, 20), (1338595, 20)]), (55, [(1, 0), (55, 5), (55, 5), (1903, 10), (1903, 10), (49813, 15), (49813, 15), (1808993, 20), (1808993, 20), (1808993, 20), (1808993, 20)]), (59, [(1, 0), (59, 5), (59, 5), (1975, 10), (1975, 10), (43331, 15), (43331, 15), (1100603, 20), (1100603, 20), (1100603, 20), (1100603, 20)]), (61, [(1, 0), (61, 5), (61, 5), (1219, 10), (1219, 10), (47803, 15), (47803, 15), (1631941, 20), (1631941, 20), (1631941, 20), (1631941, 20)]), (67, [(1, 0), (67, 6), (67, 6), (5433, 12), (5433, 12), (492239, 18), (492239, 18), (31139703, 24), (31139703, 24), (141459731, 27), (141459731, 27)]), (91, [(1, 0), (91, 6), (91, 6), (6439, 12), (6439, 12), (418473, 18), (418473, 18), (28171681, 24), (28171681, 24), (261655531, 27), (261655531, 27)]), (97, [(1, 0), (97, 6), (97, 6), (5013, 12), (5013, 12), (498191, 18), (498191, 18), (31312311, 24), (31312311, 24), (210245473, 27), (210245473, 27)]), (103, [(1, 0), (103, 6), (103, 6), (4779, 12), (4779, 12), (406271, 18), (406271, 18), (29039303, 24), (29039303, 24), (253098353, 27), (253098353, 27)]), (109, [(1, 0), (109, 6), (109, 6), (7315, 12), (7315, 12), (305715, 18), (305715, 18), (17528683, 24), (17528683, 24), (226300319, 27), (226300319, 27)]), (115, [(1, 0), (115, 6), (115, 6), (6825, 12), (6825, 12), (522851, 18), (522851, 18), (29798843, 24), (29798843, 24), (149551759, 27), (149551759, 27)])]
def gj (p j : Nat) : Nat × Nat := (((GTB.find? (fun q => q.1 == p)).map (fun q => q.2)).getD []).getD j (0, 0)
def stpG (m p k : Nat) (s r : Nat × Nat) : Bool := if hor m p k (s.2 + 1) s.1 = 0 then decide (r = s) else (mdv s.1 (lsp m p k) (m + 1) == r.1 && bln 40 (r.1 / 2) == r.2)
def tb (w i : Nat) : Nat := if w.testBit i then 1 else 0
def rin (n : Nat) : Nat → Nat → Nat × Nat → Nat × Nat
  | 0, _, s => s
  | e + 1, i, s => rin n e (2 * i % n) (s.1 ||| 2 ^ i, s.2 + (1 - tb s.1 i))
def rot (n m : Nat) : Nat → Nat → Nat × Nat → Nat × Nat
  | 0, _, s => s
  | e + 1, j, s => rot n m e (j + 1) (rin n m (j % n) s)
def rts (m t : Nat) : Nat × Nat := rot (fN m) m (2 * t) 1 (0, 0)
def prd (m p R : Nat) : Nat → Nat → List Nat → List Nat
  | 0, _, P => P
  | e + 1, k, P => prd m p R e (k + 1) (if R.testBit k then mulG m p k 0 P else P)
def gc1 (m p : Nat) : Bool := (List.range 10).all (fun j => stpG m p ((j + 1) % fN m) (gj p j) (gj p (j + 1)) && decide ((gj p j).1 < 2 ^ ((gj p j).2 + 1)) && decide ((gj p j).2 < 30)) && decide (gj p 0 = (1, 0))
def gc2' (m p t : Nat) (s : Nat × Nat) (P : List Nat) : Bool := decide ((rts m t).2 = s.2) && decide (P.length = s.2 + 1) && (twF (lg P) (s.2 + 1) == s.1) && decide (s.1 < 2 ^ (s.2 + 1)) && s.1.testBit s.2 && (List.range (2 * t)).all (fun j => hor m p (j + 1) (s.2 + 1) s.1 == 0) && (decide (fN m ≤ s.2) || (decide (2 * t ≤ fN m) && decide (1 ≤ s.2)))
def gc2t (m p t : Nat) : Bool := gc2' m p t (gj p (2 * t)) (prd m p (rts m t).1 (fN m) 0 [1])
set_option maxRecDepth 100000 in
theorem gc1_all : fPR.all (fun q => gc1 q.1 q.2) = true := by decide +kernel
set_option maxRecDepth 100000 in
theorem gc2_all : fPR.all (fun q => (List.range 5).all (fun t => gc2t q.1 q.2 (t + 1))) = true := by decide +kernel
theorem gc1_at {m p : Nat} (h : (m, p) ∈ fPR) : gj p 0 = (1, 0) ∧ ∀ j, j < 10 → stpG m p ((j + 1) % fN m) (gj p j) (gj p (j + 1)) = true ∧ (gj p j).1 < 2 ^ ((gj p j).2 + 1) ∧ (gj p j).2 < 30 := by
  have h0 := List.all_eq_true.mp gc1_all (m, p) h
  dsimp only at h0
  have h1 : gc1 m p = true := h0
  unfold gc1 at h1
  rw [Bool.and_eq_true] at h1
  refine ⟨of_decide_eq_true h1.2, fun j hj => ?_⟩
  have h2 := List.all_eq_true.mp h1.1 j (List.mem_range.mpr hj)
  rw [Bool.and_eq_true, Bool.and_eq_true] at h2
  exact ⟨h2.1.1, of_decide_eq_true h2.1.2, of_decide_eq_true h2.2⟩
theorem gc2_at {m p t : Nat} (h : (m, p) ∈ fPR) (t1 : 1 ≤ t) (t5 : t ≤ 5) : ((rts m t).2 = (gj p (2 * t)).2 ∧ (prd m p (rts m t).1 (fN m) 0 [1]).length = (gj p (2 * t)).2 + 1 ∧ twF (lg (prd m p (rts m t).1 (fN m) 0 [1])) ((gj p (2 * t)).2 + 1) = (gj p (2 * t)).1) ∧ ((gj p (2 * t)).1 < 2 ^ ((gj p (2 * t)).2 + 1) ∧ (gj p (2 * t)).1.testBit (gj p (2 * t)).2 = true ∧ ∀ j, 1 ≤ j → j ≤ 2 * t → sy m p ((gj p (2 * t)).2 + 1) (gj p (2 * t)).1 j = 0) ∧ ((gj p (2 * t)).2 < fN m → 2 * t ≤ fN m ∧ 1 ≤ (gj p (2 * t)).2) := by
  have h0 := List.all_eq_true.mp gc2_all (m, p) h
  dsimp only at h0
  have h1 := List.all_eq_true.mp h0 (t - 1) (List.mem_range.mpr (by omega))
  rw [show t - 1 + 1 = t by omega] at h1
  unfold gc2t gc2' at h1
  rw [Bool.and_eq_true, Bool.and_eq_true, Bool.and_eq_true, Bool.and_eq_true, Bool.and_eq_true, Bool.and_eq_true] at h1
  obtain ⟨⟨⟨⟨⟨⟨a1, a2⟩, a3⟩, a4⟩, a5⟩, a6⟩, a7⟩ := h1
  refine ⟨⟨of_decide_eq_true a1, of_decide_eq_true a2, eq_of_beq a3⟩, ⟨of_decide_eq_true a4, a5, fun j j1 j2 => ?_⟩, fun hc => ?_⟩
  · have := List.all_eq_true.mp a6 (j - 1) (List.mem_range.mpr (by omega))
    rw [show j - 1 + 1 = j by omega] at this
    rw [← hor_sy h]; exact eq_of_beq this
  · rw [Bool.or_eq_true, Bool.and_eq_true] at a7
    rcases a7 with a7 | a7
    · have := of_decide_eq_true a7; omega
    · exact ⟨of_decide_eq_true a7.1, of_decide_eq_true a7.2⟩
