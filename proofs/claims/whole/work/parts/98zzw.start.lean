/-! the start -/
set_option maxRecDepth 100000 in
set_option maxHeartbeats 4000000 in
theorem st_some : (f_X11_init 1 0 (znew zM0 0)).isSome = true := by decide +kernel
def sM2 : Mem := (f_X11_init 1 0 (znew zM0 0)).getD zM0
def sM4 : Mem := (f_X12_init 356 355 (znew sM2 355)).getD zM0
set_option maxRecDepth 100000 in
set_option maxHeartbeats 4000000 in
theorem st_some2 : (f_X12_init 356 355 (znew sM2 355)).isSome = true := by decide +kernel
theorem gD_some {α : Type} {o : Option α} {d : α} (h : o.isSome = true) : o = some (o.getD d) := by
  cases o with
  | none => cases h
  | some x => rfl
theorem st_eq : f_X11_init 1 0 (znew zM0 0) = some sM2 := gD_some st_some
theorem st_eq2 : f_X12_init 356 355 (znew sM2 355) = some sM4 := gD_some st_some2
set_option maxRecDepth 100000 in
set_option maxHeartbeats 4000000 in
theorem st_refs : WRl.all (fun t => decide (zR sM4 t.1 t.2.1 = t.2.2)) = true := by decide +kernel
set_option maxRecDepth 100000 in
set_option maxHeartbeats 4000000 in
theorem st_r3 : zR sM4 0 11 = 336 ∧ zR sM4 0 12 = 345 ∧ zR sM4 353 2 = 345 := by decide +kernel
set_option maxRecDepth 100000 in
set_option maxHeartbeats 4000000 in
theorem st_own : ∀ i : Fin 27, zI sM4 354 i.val = nI (pk5 (ow i.val)) := by decide +kernel
set_option maxRecDepth 100000 in
set_option maxHeartbeats 4000000 in
theorem st_zero : ([(0, 14), (0, 15), (355, 1), (353, 4), (355, 10), (333, 1), (355, 75), (327, 5), (355, 69), (355, 35), (43, 3), (43, 5), (13, 1), (355, 63), (386, 0), (381, 0), (355, 37), (355, 38), (355, 39), (355, 40), (355, 13), (358, 0), (355, 62), (2, 0), (2, 1), (2, 2), (2, 3), (2, 4), (2, 5), (371, 0), (371, 1), (371, 2), (371, 3), (371, 4), (371, 5)] : List (Nat × Nat)).all (fun t => decide (zI sM4 t.1 t.2 = 0)) = true := by decide +kernel
set_option maxRecDepth 100000 in
set_option maxHeartbeats 4000000 in
theorem st_rows : ∀ i : Fin 6, zI sM4 (29 + 2 * i.val) 1 = nI i.val ∧ zI sM4 (15 + 2 * i.val) 1 = nI i.val := by decide +kernel
set_option maxRecDepth 100000 in
set_option maxHeartbeats 4000000 in
theorem st_seed : zI sM4 0 16 = nI 1 ∧ zL sM4 355 64 = lN 1 ∧ zI sM4 355 11 = -1 := by decide +kernel
theorem st_z {a j : Nat} (h : (a, j) ∈ ([(0, 14), (0, 15), (355, 1), (353, 4), (355, 10), (333, 1), (355, 75), (327, 5), (355, 69), (355, 35), (43, 3), (43, 5), (13, 1), (355, 63), (386, 0), (381, 0), (355, 37), (355, 38), (355, 39), (355, 40), (355, 13), (358, 0), (355, 62), (2, 0), (2, 1), (2, 2), (2, 3), (2, 4), (2, 5), (371, 0), (371, 1), (371, 2), (371, 3), (371, 4), (371, 5)] : List (Nat × Nat))) : zI sM4 a j = 0 := of_decide_eq_true (List.all_eq_true.mp st_zero (a, j) h)
theorem st_inv : Inv sM4 0 := by
  refine ⟨⟨335, 344, 344, fun t ht => of_decide_eq_true (List.all_eq_true.mp st_refs t ht), st_r3.1, st_r3.2.1, st_r3.2.2, Or.inl ⟨rfl, rfl⟩, Or.inr rfl⟩, tape0 (st_z (by decide)) (st_z (by decide)), fun k hk => ?_, ⟨1, by decide, st_seed.1, st_seed.2.1⟩, ⟨⟨?_, fun q => absurd (st_z (by decide)) q, fun _ => st_seed.2.2⟩, fun i hi => st_own ⟨i, hi⟩⟩, ⟨0, by decide, st_z (by decide), st_z (by decide), fun k hk => absurd hk (by omega)⟩, ⟨0, by decide, st_z (by decide), st_z (by decide), fun k hk => absurd hk (by omega)⟩, fun i hi => (st_rows ⟨i, hi⟩).1, Or.inr ⟨⟨st_z (by decide), st_z (by decide)⟩, ⟨st_z (by decide), st_z (by decide), st_z (by decide), st_z (by decide)⟩, ⟨st_z (by decide), st_z (by decide), st_z (by decide), st_z (by decide)⟩, ⟨st_z (by decide), st_z (by decide), st_z (by decide), st_z (by decide), st_z (by decide), st_z (by decide)⟩, fun i hi => (st_rows ⟨i, hi⟩).2, st_z (by decide)⟩⟩
  · have hk' : k = 0 ∨ k = 1 ∨ k = 2 ∨ k = 3 ∨ k = 4 ∨ k = 5 := by omega
    rcases hk' with e | e | e | e | e | e <;> subst e <;> rw [st_z (by decide), st_z (by decide)]
  · rw [st_z (by decide), st_z (by decide)]
