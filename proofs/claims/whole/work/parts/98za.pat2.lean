/-! calls: patterns, counted by the class -/
theorem nsm_le {n B : Nat} {f : Nat → Nat} (h : ∀ i, i < n → f i ≤ B) : nsm n f ≤ n * B := by
  induction n with
  | zero => exact Nat.zero_le _
  | succ n ih =>
    have h1 := ih (fun i hi => h i (by omega))
    have h2 := h n (by omega)
    rw [nsm, Nat.add_mul, Nat.one_mul]; omega
theorem nsx {n : Nat} {f g : Nat → Nat} (h : ∀ i, i < n → f i = g i) : nsm n f = nsm n g := by
  induction n with
  | zero => rfl
  | succ n ih => rw [nsm, nsm, ih (fun i hi => h i (by omega)), h n (by omega)]
theorem nsm_z (n : Nat) : nsm n (fun _ => 0) = 0 := by
  induction n with
  | zero => rfl
  | succ n ih => rw [nsm, ih]
theorem nsm_o (n : Nat) : nsm n (fun _ => 1) = n := by
  induction n with
  | zero => rfl
  | succ n ih => rw [nsm, ih]
theorem nsm_a (n : Nat) (f g : Nat → Nat) : nsm n (fun i => f i + g i) = nsm n f + nsm n g := by
  induction n with
  | zero => rfl
  | succ n ih => rw [nsm, nsm, nsm, ih]; omega
theorem nsm_swap (n m : Nat) (g : Nat → Nat → Nat) : nsm n (fun i => nsm m (fun j => g i j)) = nsm m (fun j => nsm n (fun i => g i j)) := by
  induction n with
  | zero => rw [nsm]; exact (nsm_z m).symm
  | succ n ih =>
    rw [nsm, ih, ← nsm_a]
    exact nsx (fun j _ => by rw [nsm])
theorem nsc {b n : Nat} (hb : b ≤ n) (f : Nat → Nat) : nsm n (fun a => if a < b then f a else 0) = nsm b f := by
  induction n with
  | zero => rw [show b = 0 by omega]; rfl
  | succ n ih =>
    by_cases q : b = n + 1
    · rw [q]; exact nsx (fun i hi => if_pos hi)
    · rw [nsm, ih (by omega), if_neg (by omega)]; rfl
theorem mct_lt {h : CH} (v : CV h) (n' : Nat) : mct h n' < 2 ^ 31 := by
  have hn := v.n63
  have h1 : ∀ w, (if kCa h w = 0 then 1 else 0) ≤ 1 := fun w => by by_cases q : kCa h w = 0 <;> simp [q]
  unfold mct
  by_cases q : n' = 2
  · rw [if_pos q]
    have := nsm_le (n := kN h) (B := 64) (f := fun i => nsm i (fun j => if kCa h (2 ^ i ^^^ 2 ^ j) = 0 then 1 else 0)) (fun i hi => Nat.le_trans (nsm_le (B := 1) (fun j _ => h1 _)) (by omega))
    omega
  · rw [if_neg q]
    have := nsm_le (n := kN h) (B := 64 * 64) (f := fun i => nsm i (fun j => nsm j (fun l => if kCa h (2 ^ i ^^^ 2 ^ j ^^^ 2 ^ l) = 0 then 1 else 0))) (fun i hi => Nat.le_trans (nsm_le (B := 64) (fun j hj => Nat.le_trans (nsm_le (B := 1) (fun l _ => h1 _)) (by omega))) (by omega))
    omega
section
variable {M : Mem} {c0 : Nat} {h : CH}
def ind (h : CH) (w : Nat) : Nat := if kCa h w = 0 then 1 else 0
theorem s_marked (v : CV h) (ht : kT h ≤ 2) (hW : WRc M) (hz : zCh2 c0) (k : MKP M c0 (PMk h (kN h))) {w f g : Nat} (hw : w < 2 ^ kN h) (hf : f = ps1 h w) (hg : g = ps3 h w) : f_X1_marked (c0 + 1) (nI f) (nI g) M = some (nI (ind h w), M) := by
  subst hf; subst hg
  obtain ⟨x1, x2⟩ := ps_lt v w
  obtain ⟨Z, hZ⟩ := k
  obtain ⟨z1, z2, z3⟩ := hZ _ x1
  have z3 := z3 _ x2
  unfold f_X1_marked
  rw [wK_3 hW hz, b_i, zl_at 64 (zK5 hz) x1 (by decide), b_i, z1, lN_ush z2 x2, show (1 : Int64) = lN 1 from rfl, lN_and, lN_i]
  have e : (Z (ps1 h w) >>> ps3 h w) &&& 1 = ind h w := by
    have := bt_if (Z (ps1 h w)) (ps3 h w)
    unfold bt at this
    rw [this]
    unfold ind
    by_cases q : kCa h w = 0
    · rw [if_pos q, if_pos (z3.mpr ((pat_iff v ht hw).mp q))]
    · rw [if_neg q, if_neg (fun z => q ((pat_iff v ht hw).mpr (z3.mp z)))]
  rw [e]
theorem b2_lt {n i : Nat} (hi : i < n) : 2 ^ i < 2 ^ n := Nat.pow_lt_pow_right (by decide) hi
theorem s_c73 {k4 : Int32 → Int32 → Mem → Option (Int32 × Mem)} {k15 : Int32 → Int32 → Int32 → Mem → Option (Int32 × Mem)} {x1 : Int32} (v : CV h) (ht : kT h ≤ 2) (hW : WRc M) (hC : CC M c0 h) (k : MKP M c0 (PMk h (kN h))) {i j A : Nat} (hi : i < kN h) (hj : j < i) : ∀ e l f, l + e = j → f_X1_countMendable_73 k4 k15 (c0 + 1) x1 (e + 1 + f) (nI (A + nsm l (fun l => ind h (2 ^ i ^^^ 2 ^ j ^^^ 2 ^ l)))) (nI i) (nI j) (nI (fpw (kM h) (kP h) i ^^^ fpw (kM h) (kP h) j)) (nI (th3 h i ^^^ th3 h j)) (nI l) M = k15 (nI (A + nsm j (fun l => ind h (2 ^ i ^^^ 2 ^ j ^^^ 2 ^ l)))) (nI i) (nI (j + 1)) M := by
  have hn := v.n63
  have hm := f_m v.pr
  obtain ⟨-, cO, -, -, hnf, -⟩ := hC.cd
  intro e
  induction e with
  | zero =>
    intro l f hl
    have hl : l = j := by omega
    subst hl
    rw [show 0 + 1 + f = f + 1 by omega, f_X1_countMendable_73]
    refine ip (nI_le (by omega) (by omega)) ?_
    unfold f_X1_countMendable_112
    rw [nI_1]
  | succ e ih =>
    intro l f hl
    have hw : 2 ^ i ^^^ 2 ^ j ^^^ 2 ^ l < 2 ^ kN h := Nat.xor_lt_two_pow (Nat.xor_lt_two_pow (b2_lt hi) (b2_lt (by omega))) (b2_lt (by omega))
    rw [show e + 1 + 1 + f = (e + 1 + f) + 1 by omega, f_X1_countMendable_73]
    refine im (nI_ge (by omega) (by omega)) ?_
    rw [cO.r0, b_i, zl_at 63 cO.s0 (by omega) (by decide), b_i, s_third v hC (by omega), b_i, cO.tp l (by omega)]
    dsimp only
    rw [nI_xor, nI_xor, s_marked v ht hW hC.z k hw (by rw [ps1_x, ps1_x, ps1_b hi, ps1_b (by omega), ps1_b (by omega)]) (by rw [ps3_x, ps3_x, ps3_b hi, ps3_b (by omega), ps3_b (by omega)]), b_i]
    dsimp only
    have k2 := ih (l + 1) f (by omega)
    rw [nsm, ← Nat.add_assoc] at k2
    rw [nI_add, nI_1]
    exact k2
def mcr (h : CH) (n' i j : Nat) : Nat := if n' = 2 then ind h (2 ^ i ^^^ 2 ^ j) else nsm j (fun l => ind h (2 ^ i ^^^ 2 ^ j ^^^ 2 ^ l))
theorem s_c15 {k4 : Int32 → Int32 → Mem → Option (Int32 × Mem)} (v : CV h) (ht : kT h ≤ 2) (hW : WRc M) (hC : CC M c0 h) (k : MKP M c0 (PMk h (kN h))) {n' i A : Nat} (hn' : n' = 2 ∨ n' = 3) (hi : i < kN h) : ∀ e j f, j + e = i → f_X1_countMendable_15 k4 (c0 + 1) (nI n') (e + 1 + f) (nI (A + nsm j (mcr h n' i))) (nI i) (nI j) M = k4 (nI (A + nsm i (mcr h n' i))) (nI (i + 1)) M := by
  have hn := v.n63
  have hm := f_m v.pr
  obtain ⟨-, cO, -, -, hnf, -⟩ := hC.cd
  intro e
  induction e with
  | zero =>
    intro j f hj
    have hj : j = i := by omega
    subst hj
    rw [show 0 + 1 + f = f + 1 by omega, f_X1_countMendable_15]
    refine ip (nI_le (by omega) (by omega)) ?_
    rw [nI_1]
  | succ e ih =>
    intro j f hj
    have hw : 2 ^ i ^^^ 2 ^ j < 2 ^ kN h := Nat.xor_lt_two_pow (b2_lt hi) (b2_lt (by omega))
    have key := ih (j + 1) f (by omega)
    rw [nsm] at key
    rw [show e + 1 + 1 + f = (e + 1 + f) + 1 by omega, f_X1_countMendable_15]
    refine im (nI_ge (by omega) (by omega)) ?_
    rw [cO.r0, b_i, zl_at 63 cO.s0 (by omega) (by decide), b_i, b_i, zl_at 63 cO.s0 (by omega) (by decide), b_i, s_third v hC (by omega), b_i]
    dsimp only
    rw [s_third v hC (by omega), b_i, cO.tp i (by omega), cO.tp j (by omega)]
    dsimp only
    rcases hn' with e2 | e3
    · refine ip (by rw [e2]; rfl) ?_
      unfold mcr at key ⊢
      rw [nI_xor, nI_xor, s_marked v ht hW hC.z k hw (by rw [ps1_x, ps1_b hi, ps1_b (by omega)]) (by rw [ps3_x, ps3_b hi, ps3_b (by omega)]), b_i]
      dsimp only
      unfold f_X1_countMendable_112
      rw [if_pos e2, ← Nat.add_assoc] at key
      rw [nI_add, nI_1]
      exact key
    · refine im (by rw [e3]; decide) ?_
      rw [nI_xor, nI_xor]
      have c := s_c73 (k4 := k4) (k15 := f_X1_countMendable_15 k4 (c0 + 1) (nI n') (e + 1 + f)) (x1 := nI n') v ht hW hC k (A := A + nsm j (mcr h n' i)) hi (show j < i by omega) j 0 (1000000 - j - 1) (by omega)
      rw [show j + 1 + (1000000 - j - 1) = 1000000 by omega] at c
      rw [show mcr h n' i j = nsm j (fun l => ind h (2 ^ i ^^^ 2 ^ j ^^^ 2 ^ l)) by unfold mcr; rw [if_neg (by omega)], ← Nat.add_assoc] at key
      exact c.trans key
theorem s_c4 (v : CV h) (ht : kT h ≤ 2) (hW : WRc M) (hC : CC M c0 h) (k : MKP M c0 (PMk h (kN h))) {n' : Nat} (hn' : n' = 2 ∨ n' = 3) : f_X1_countMendable (c0 + 1) (nI n') M = some (nI (mct h n'), M) := by
  have hn := v.n63
  have key : ∀ e i f, i + e = kN h → f_X1_countMendable_4 (c0 + 1) (nI n') (e + 1 + f) (nI (nsm i (fun i => nsm i (mcr h n' i)))) (nI i) M = some (nI (nsm (kN h) (fun i => nsm i (mcr h n' i))), M) := by
    intro e
    induction e with
    | zero =>
      intro i f hi
      have hi : i = kN h := by omega
      subst hi
      rw [show 0 + 1 + f = f + 1 by omega, f_X1_countMendable_4, hC.n]
      exact ip (nI_le (by omega) (by omega)) rfl
    | succ e ih =>
      intro i f hi
      have k2 := ih (i + 1) f (by omega)
      rw [nsm] at k2
      rw [show e + 1 + 1 + f = (e + 1 + f) + 1 by omega, f_X1_countMendable_4, hC.n]
      refine im (nI_ge (by omega) (by omega)) ?_
      have c := s_c15 (k4 := f_X1_countMendable_4 (c0 + 1) (nI n') (e + 1 + f)) v ht hW hC k (A := nsm i (fun i => nsm i (mcr h n' i))) hn' (show i < kN h by omega) i 0 (1000000 - i - 1) (by omega)
      rw [show i + 1 + (1000000 - i - 1) = 1000000 by omega] at c
      exact c.trans k2
  have := key (kN h) 0 (1000000 - kN h - 1) (by omega)
  rw [show kN h + 1 + (1000000 - kN h - 1) = 1000000 by omega] at this
  have e : nsm (kN h) (fun i => nsm i (mcr h n' i)) = mct h n' := by
    unfold mct
    rcases hn' with e2 | e3
    · rw [if_pos e2]
      have : (fun i => nsm i (mcr h n' i)) = fun i => nsm i (fun j => if kCa h (2 ^ i ^^^ 2 ^ j) = 0 then 1 else 0) := funext (fun i => by
        congr 1; funext j; unfold mcr ind; rw [if_pos e2])
      rw [this]
    · rw [if_neg (by omega)]
      have : (fun i => nsm i (mcr h n' i)) = fun i => nsm i (fun j => nsm j (fun l => if kCa h (2 ^ i ^^^ 2 ^ j ^^^ 2 ^ l) = 0 then 1 else 0)) := funext (fun i => by
        congr 1; funext j; unfold mcr; rw [if_neg (by omega)]; rfl)
      rw [this]
  rw [e] at this
  exact this
theorem s_missed (v : CV h) (hW : WRc M) (hC : CC M c0 h) (hK : KC M c0 h) {n' : Nat} (ht : kT h < n') (hn' : n' ≤ 3) : ∃ M1, f_X1_missedCount (c0 + 1) (nI n') M = some (nI (mct h n'), M1) ∧ FR (Wkc c0) M M1 ∧ KC M1 c0 h := by
  have h1 := v.t.1
  have hz : c0 = 335 ∨ c0 = 344 := hC.z
  unfold f_X1_missedCount f_X1_missedCount_25
  rcases hK.2 n' ht (by omega) with q | q
  · obtain ⟨M1, a1, a2, a3⟩ := s_markMendable v hW hC
    have c := s_c4 v (by omega) (a2.W hW) (hC.k5 a2) a3 (show n' = 2 ∨ n' = 3 by omega)
    have f1 : FR (fun a j => a = c0 + 5 ∨ (a = c0 + 6 ∧ j = n')) M (zsI M1 (c0 + 6) n' (nI (mct h n'))) := (a2.mo (fun a j q => Or.inl q)).sI (by omega)
    refine ⟨zsI M1 (c0 + 6) n' (nI (mct h n')), ?_, f1.mo (fun a j q => by unfold Wkc; omega), ?_, fun k k1 k2 => ?_⟩
    · rw [wK_4 hW hC.z, b_i, zl_at 4 (zK6 hC.z) (by omega) (by decide), b_i, q]
      refine ip rfl ?_
      rw [a1, b_i, wK_4 (a2.W hW) hC.z, b_i, c, b_i, zl_at 4 (zK6 hC.z) (by omega) (by decide), b_i]
      dsimp only
      rw [b_i, wK_4 (f1.W hW) hC.z, b_i, zl_at 4 (zK6 hC.z) (by omega) (by decide), b_i, zI_se]
    · rcases hK.1 with k0 | ⟨k1, k2⟩
      · exact Or.inl ((f1.I (by omega)).trans k0)
      · exact Or.inr ⟨(f1.I (by omega)).trans k1, fun w hw => (f1.I (by omega)).trans (k2 w hw)⟩
    · by_cases e : k = n'
      · subst e; exact Or.inr (zI_se _ _ _ _)
      · rw [f1.I (by omega)]; exact hK.2 k k1 k2
  · refine ⟨M, ?_, FR.rf _ M, hK⟩
    rw [wK_4 hW hC.z, b_i, zl_at 4 (zK6 hC.z) (by omega) (by decide), b_i, q]
    refine im (nI_nm (mct_lt v n')) ?_
    rw [b_i, zl_at 4 (zK6 hC.z) (by omega) (by decide), b_i, q]
end
