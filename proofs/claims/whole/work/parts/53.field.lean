/-! the sixteen fields, by their tables -/
def fmA (m p x : Nat) : Nat := if (2 * x) >>> m = 1 then (2 * x) ^^^ p else 2 * x
def fpw (m p : Nat) : Nat → Nat
  | 0 => 1
  | k + 1 => fmA m p (fpw m p k)
def fit (m p : Nat) : Nat → Nat → Nat
  | 0, x => x
  | k + 1, x => fmA m p (fit m p k x)
def fN (m : Nat) : Nat := 2 ^ m - 1
def ftab (m p : Nat) : List Nat := (List.range (fN m)).map (fpw m p)
def flg (m p x : Nat) : Nat := (ftab m p).idxOf x
def fprim (m p : Nat) : Bool := decide (3 ≤ m) && decide (m ≤ 6) && decide (p >>> m = 1) && (List.range (fN m)).all (fun k => k == 0 || fpw m p k != 1) && (fpw m p (fN m) == 1)
def fPR : List (Nat × Nat) := [(3, 11), (3, 13), (4, 19), (4, 25), (5, 37), (5, 41), (5, 47), (5, 55), (5, 59), (5, 61), (6, 67), (6, 91), (6, 97), (6, 103), (6, 109), (6, 115)]
set_option maxRecDepth 100000 in
theorem fPR_all : ((List.range 7).all fun m => (List.range 128).all fun p => !(fprim m p) || decide ((m, p) ∈ fPR)) = true := by decide +kernel
set_option maxRecDepth 100000 in
theorem fPR_prim : fPR.all (fun q => fprim q.1 q.2) = true := by decide +kernel
theorem fprim_mem {m p : Nat} (h : fprim m p = true) : (m, p) ∈ fPR := by
  have h' := h
  simp only [fprim, Bool.and_eq_true, decide_eq_true_eq] at h
  obtain ⟨⟨⟨⟨h1, h2⟩, h3⟩, -⟩, -⟩ := h
  have hp : p < 128 := by
    rw [Nat.shiftRight_eq_div_pow] at h3
    have h4 : p < 2 * 2 ^ m := by
      have := Nat.div_add_mod p (2 ^ m)
      have hm := Nat.mod_lt p (show 0 < 2 ^ m from Nat.pow_pos (by decide))
      rw [h3] at this; omega
    have h5 : 2 ^ m ≤ 2 ^ 6 := Nat.pow_le_pow_right (by decide) h2
    omega
  have := List.all_eq_true.mp (List.all_eq_true.mp fPR_all m (List.mem_range.mpr (by omega))) p (List.mem_range.mpr hp)
  rw [h'] at this
  simpa using this
def fok (m p : Nat) : Bool := (ftab m p).all (fun x => decide (1 ≤ x) && decide (x < 2 ^ m)) && decide ((List.range (fN m)).map (fun k => flg m p (fpw m p k)) = List.range (fN m)) && (List.range (fN m)).all (fun x => (ftab m p).contains (x + 1)) && decide (fpw m p (fN m) = 1) && decide (2 ≤ fN m)
def flin (m p : Nat) : Bool := (List.range (2 ^ m)).all fun x => (List.range (2 ^ m)).all fun y => fmA m p (x ^^^ y) == fmA m p x ^^^ fmA m p y
set_option maxRecDepth 100000 in
theorem fok_all : fPR.all (fun q => fok q.1 q.2) = true := by decide +kernel
set_option maxRecDepth 100000 in
theorem flin_all : fPR.all (fun q => flin q.1 q.2) = true := by decide +kernel
