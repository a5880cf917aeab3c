/-! chip: words, numbers, signs -/
def isL (x : Nat) : Bool := decide (97 ≤ x ∧ x ≤ 122)
def isDg (x : Nat) : Bool := decide (48 ≤ x ∧ x ≤ 57)
def isB (x : Nat) : Bool := decide (x = 10 ∨ x = 32)
def skf (b : Nat → Nat) (z : Nat) : Nat → Nat → Nat
  | 0, a => a
  | f + 1, a => if a < z ∧ isB (b a) = true then skf b z f (a + 1) else a
def skp (b : Nat → Nat) (z p : Nat) : Nat := skf b z (z - p) p
def rl (P : Nat → Bool) (b : Nat → Nat) (z : Nat) : Nat → Nat → Nat
  | 0, _ => 0
  | f + 1, a => if a < z ∧ P (b a) = true then rl P b z f (a + 1) + 1 else 0
def lts (b : Nat → Nat) (s : Nat) : Nat → List Nat
  | 0 => []
  | n + 1 => lts b s n ++ [b (s + n) - 96]
def nvl (b : Nat → Nat) (s : Nat) : Nat → Nat
  | 0 => 0
  | n + 1 => nvl b s n * 10 + (b (s + n) - 48)
abbrev Tok := Nat × Nat × Nat × Nat × List Nat
def tK (t : Tok) : Nat := t.1
def tS (t : Tok) : Nat := t.2.1
def tN (t : Tok) : Nat := t.2.2.1
def tV (t : Tok) : Nat := t.2.2.2.1
def tL (t : Tok) : List Nat := t.2.2.2.2
def glu (b : Nat → Nat) (s : Nat) : Bool := decide (0 < s) && (isL (b (s - 1)) || isDg (b (s - 1)))
def tkA (b : Nat → Nat) (z s : Nat) : Tok :=
  if z ≤ s then (0, s, z, 0, [])
  else if isL (b s) = false ∧ isDg (b s) = false then (3, s, s + 1, b s, [])
  else if glu b s = true then (4, s, s + 1, s, [])
  else if isL (b s) = true then
    (if s + rl isL b z 6 s < z ∧ isL (b (s + rl isL b z 6 s)) = true then (4, s, s + 1, s + rl isL b z 6 s, []) else (1, s, s + rl isL b z 6 s, 0, lts b s (rl isL b z 6 s)))
  else (if s + rl isDg b z 4 s < z ∧ isDg (b (s + rl isDg b z 4 s)) = true then (4, s, s + 1, s + rl isDg b z 4 s, []) else (2, s, s + rl isDg b z 4 s, nvl b s (rl isDg b z 4 s), []))
def tok (b : Nat → Nat) (z p : Nat) : Tok := tkA b z (skp b z p)
theorem skf_ge (b : Nat → Nat) (z : Nat) : ∀ e a, a ≤ skf b z e a ∧ skf b z e a ≤ a + e ∧ (a < skf b z e a → isB (b (skf b z e a - 1)) = true) := by
  intro e
  induction e with
  | zero => intro a; exact ⟨Nat.le_refl _, Nat.le_refl _, fun q => absurd q (by show ¬ a < a; omega)⟩
  | succ e ih =>
    intro a
    rw [skf]
    by_cases c : a < z ∧ isB (b a) = true
    · rw [if_pos c]
      obtain ⟨h1, h2, h3⟩ := ih (a + 1)
      refine ⟨by omega, by omega, fun _ => ?_⟩
      by_cases q : a + 1 < skf b z e (a + 1)
      · exact h3 q
      · rw [show skf b z e (a + 1) - 1 = a by omega]; exact c.2
    · rw [if_neg c]; exact ⟨Nat.le_refl _, by omega, fun q => absurd q (by omega)⟩
theorem skp_ge (b : Nat → Nat) {z p : Nat} (h : p ≤ z) : p ≤ skp b z p ∧ skp b z p ≤ z ∧ (p < skp b z p → isB (b (skp b z p - 1)) = true) := by
  obtain ⟨h1, h2, h3⟩ := skf_ge b z (z - p) p
  exact ⟨h1, by unfold skp; omega, h3⟩
theorem rl_le (P : Nat → Bool) (b : Nat → Nat) (z : Nat) : ∀ e a, rl P b z e a ≤ e ∧ (rl P b z e a = 0 ∨ a + rl P b z e a ≤ z) ∧ ∀ i, i < rl P b z e a → P (b (a + i)) = true := by
  intro e
  induction e with
  | zero => intro a; exact ⟨Nat.le_refl _, Or.inl rfl, fun i hi => absurd hi (Nat.not_lt_zero _)⟩
  | succ e ih =>
    intro a
    rw [rl]
    by_cases c : a < z ∧ P (b a) = true
    · rw [if_pos c]
      obtain ⟨h1, h2, h3⟩ := ih (a + 1)
      refine ⟨by omega, Or.inr (by omega), fun i hi => ?_⟩
      cases i with
      | zero => exact c.2
      | succ i => rw [show a + (i + 1) = a + 1 + i by omega]; exact h3 i (by omega)
    · rw [if_neg c]; exact ⟨by omega, Or.inl rfl, fun i hi => absurd hi (Nat.not_lt_zero _)⟩
theorem lts_len (b : Nat → Nat) (s : Nat) : ∀ n, (lts b s n).length = n := by
  intro n
  induction n with
  | zero => rfl
  | succ n ih => rw [lts, List.length_append, ih]; rfl
theorem isL_iff {x : Nat} : isL x = true ↔ 97 ≤ x ∧ x ≤ 122 := decide_eq_true_iff
theorem isDg_iff {x : Nat} : isDg x = true ↔ 48 ≤ x ∧ x ≤ 57 := decide_eq_true_iff
theorem lts_NM {b : Nat → Nat} {s : Nat} : ∀ n, (∀ i, i < n → isL (b (s + i)) = true) → ∀ x ∈ lts b s n, 1 ≤ x ∧ x ≤ 26 := by
  intro n
  induction n with
  | zero => intro _ x hx; cases hx
  | succ n ih =>
    intro h x hx
    rw [lts, List.mem_append] at hx
    rcases hx with hx | hx
    · exact ih (fun i hi => h i (by omega)) x hx
    · rw [List.mem_singleton] at hx
      have := isL_iff.mp (h n (by omega))
      omega
theorem nvl_lt {b : Nat → Nat} {s : Nat} : ∀ n, (∀ i, i < n → isDg (b (s + i)) = true) → nvl b s n < 10 ^ n := by
  intro n
  induction n with
  | zero => intro _; exact (by decide : 0 < 1)
  | succ n ih =>
    intro h
    have h1 := ih (fun i hi => h i (by omega))
    have := isDg_iff.mp (h n (by omega))
    rw [nvl, Nat.pow_succ]; omega
def v5 (l : List Nat) : Nat := l.foldl (fun a x => a * 32 + x) 0
theorem v5_s (l : List Nat) (x : Nat) : v5 (l ++ [x]) = v5 l * 32 + x := by unfold v5; rw [List.foldl_append]; rfl
theorem pk5_v (l : List Nat) : pk5 l = v5 l * 32 ^ (6 - l.length) := rfl
theorem pk8_s (l : List Nat) (x : Nat) : pk8 (l ++ [x]) = pk8 l * 256 + (x + 96) := by unfold pk8; rw [List.foldl_append]; rfl
theorem v5_lt {b : Nat → Nat} {s : Nat} : ∀ n, (∀ i, i < n → isL (b (s + i)) = true) → v5 (lts b s n) < 32 ^ n := by
  intro n
  induction n with
  | zero => intro _; exact (by decide : 0 < 1)
  | succ n ih =>
    intro h
    have h1 := ih (fun i hi => h i (by omega))
    have := isL_iff.mp (h n (by omega))
    rw [lts, v5_s, Nat.pow_succ]; omega
theorem pk8_lt {b : Nat → Nat} {s : Nat} : ∀ n, (∀ i, i < n → isL (b (s + i)) = true) → pk8 (lts b s n) < 256 ^ n := by
  intro n
  induction n with
  | zero => intro _; exact (by decide : 0 < 1)
  | succ n ih =>
    intro h
    have h1 := ih (fun i hi => h i (by omega))
    have := isL_iff.mp (h n (by omega))
    rw [lts, pk8_s, Nat.pow_succ]; omega
theorem NM_ext {l k : List Nat} (hl : NM l) (hk : NM k) (e : ∀ i, i < 6 → lg l i = lg k i) : l = k := by
  have pos : ∀ {l : List Nat}, NM l → ∀ i, i < l.length → 1 ≤ lg l i := fun h i hi => (pk8_at h hi).2.2.1
  have le : ∀ {l k : List Nat}, NM l → NM k → (∀ i, i < 6 → lg l i = lg k i) → l.length ≤ k.length := fun {l k} hl hk e => by
    by_cases q : l.length ≤ k.length
    · exact q
    · have h1 := pos hl k.length (by omega)
      rw [e _ (by have := hl.2.1; omega), lg_ge (Nat.le_refl _)] at h1
      omega
  have h1 := le hl hk e
  have h2 := le hk hl (fun i hi => (e i hi).symm)
  have h6 := hl.2.1
  apply List.ext_getElem?
  intro i
  by_cases q : i < l.length
  · have := e i (by omega)
    unfold lg at this
    rw [List.getElem?_eq_getElem q, List.getElem?_eq_getElem (show i < k.length by omega)] at this ⊢
    exact congrArg some this
  · rw [List.getElem?_eq_none (by omega), List.getElem?_eq_none (by omega)]
theorem pk5_inj {l k : List Nat} (hl : NM l) (hk : NM k) (e : pk5 l = pk5 k) : l = k := NM_ext hl hk (fun i hi => by rw [← (pk5_at hl hi).1, ← (pk5_at hk hi).1, e])
theorem pk8_len {l k : List Nat} (hl : NM l) (hk : NM k) (e : pk8 l = pk8 k) : l.length ≤ k.length := by
  by_cases q : l.length ≤ k.length
  · exact q
  · exact absurd (by rw [e]; exact (pk8_z hk).2) (pk8_at hl (show k.length < l.length by omega)).2.1
theorem pk8_inj {l k : List Nat} (hl : NM l) (hk : NM k) (e : pk8 l = pk8 k) : l = k := by
  have h1 := pk8_len hl hk e
  have h2 := pk8_len hk hl e.symm
  refine NM_ext hl hk (fun i hi => ?_)
  by_cases q : i < l.length
  · have a1 := (pk8_at hl q).1
    have a2 := (pk8_at hk (show i < k.length by omega)).1
    rw [e, show l.length = k.length by omega] at a1
    omega
  · rw [lg_ge (by omega), lg_ge (by omega)]
def NMb (l : List Nat) : Bool := decide (1 ≤ l.length) && decide (l.length ≤ 6) && l.all (fun x => decide (1 ≤ x) && decide (x ≤ 26))
theorem NMb_of {l : List Nat} (h : NMb l = true) : NM l := by
  unfold NMb at h
  rw [Bool.and_eq_true, Bool.and_eq_true] at h
  refine ⟨of_decide_eq_true h.1.1, of_decide_eq_true h.1.2, fun x hx => ?_⟩
  have := List.all_eq_true.mp h.2 x hx
  rw [Bool.and_eq_true] at this
  exact ⟨of_decide_eq_true this.1, of_decide_eq_true this.2⟩
theorem ow_NM {i : Nat} (h : i < 27) : NM (ow i) := NMb_of ((by decide : ∀ i, i < 27 → NMb (ow i) = true) i h)
theorem ow_dis : ∀ i, i < 27 → ∀ j, j < 27 → ow i = ow j → i = j := by decide +kernel
def owi (l : List Nat) : Nat := owL.idxOf l
theorem owi_at {i : Nat} (h : i < 27) : owi (ow i) = i := (by decide : ∀ i, i < 27 → owi (ow i) = i) i h
theorem owi_eq {l : List Nat} {i : Nat} (h : i < 27) : owi l = i ↔ l = ow i := by
  constructor
  · intro e
    have hlt : owi l < owL.length := by rw [e]; exact h
    have h2 := List.getElem_idxOf hlt
    unfold ow
    rw [← e, List.getD_eq_getElem?_getD, List.getElem?_eq_getElem hlt]
    exact h2.symm
  · intro e; rw [e]; exact owi_at h
theorem owi_le (l : List Nat) : owi l ≤ 27 := by
  by_cases q : owi l < 27
  · omega
  · exact Nat.le_of_eq (by
      have h1 : ¬ l ∈ owL := fun m => q (List.idxOf_lt_length_of_mem m)
      exact List.idxOf_eq_length h1)
def owv (l : List Nat) : Int32 := if owi l < 27 then nI (owi l) else -1
