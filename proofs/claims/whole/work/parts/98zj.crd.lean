/-! chip: the class reads sums and tests -/
def PS (b : Nat → Nat) (z : Nat) (w : Bool) (c0 a d : Nat) (M : Mem) (p : Nat) (cs : Cds) : Prop := CTx M b z ∧ (TC M (tok b z p) ∧ p ≤ z) ∧ (zrf M 353 2 = some c0 ∧ zCh2 c0 ∧ zI M 353 12 = b01 w) ∧ (zI M c0 3 = nI (a + cs.length) ∧ PRG M (c0 + 8) a cs) ∧ a + cs.length + d ≤ p
def Wpx (c0 a x j : Nat) : Prop := (x = 353 ∧ 4 ≤ j ∧ j ≤ 11) ∨ (x = c0 ∧ j = 3) ∨ (x = c0 + 8 ∧ a ≤ j)
def RQ2 (b : Nat → Nat) (z : Nat) (w : Bool) (c0 a d : Nat) (M : Mem) (r : Int32) : PRs → Prop
  | .inl e => r = 0 ∧ zI M 353 4 = nI e.1 ∧ zI M 353 5 = nI e.2
  | .inr x => r = 1 ∧ PS b z w c0 a d M x.1 x.2
def RC (b : Nat → Nat) (z : Nat) (w : Bool) (c0 a d : Nat) (M : Mem) (res : Option (Int32 × Mem)) (q : PRs) : Prop := ∃ r M', res = some (r, M') ∧ FR (Wpx c0 a) M M' ∧ RQ2 b z w c0 a d M' r q
section
variable {b : Nat → Nat} {z : Nat} {w : Bool} {c0 a : Nat}
theorem PRG.app {M : Mem} {x : Nat} {c : Nat × Nat} : ∀ {cs : Cds} {i : Nat}, PRG M x i cs → zI M x (i + cs.length) = stp c → PRG M x i (cs ++ [c])
  | [], i, _, h => ⟨h, True.intro⟩
  | d :: cs, i, h, h2 => ⟨h.1, PRG.app h.2 (by rw [show i + 1 + cs.length = i + (d :: cs).length by rw [List.length_cons]; omega]; exact h2)⟩
theorem PRG.fj {W : Nat → Nat → Prop} {M M1 : Mem} {x : Nat} (f : FR W M M1) : ∀ {cs : Cds} {i : Nat}, (∀ j, i ≤ j → j < i + cs.length → ¬ W x j) → PRG M x i cs → PRG M1 x i cs
  | [], _, _, _ => True.intro
  | d :: cs, i, hw, h => ⟨(f.I (hw i (Nat.le_refl _) (by rw [List.length_cons]; omega))).trans h.1, PRG.fj f (fun j h1 h2 => hw j (by omega) (by rw [List.length_cons]; omega)) h.2⟩
theorem PS.by8 {d : Nat} {M : Mem} {p : Nat} {cs : Cds} (h : PS b z w c0 a d M p cs) : ∀ k, k < z → b k < 256 := fun k hk => (h.1.2.2.2.1 k hk).2
theorem PS.wk {d d' : Nat} {M : Mem} {p : Nat} {cs : Cds} (h : PS b z w c0 a d M p cs) (e : d' ≤ d) : PS b z w c0 a d' M p cs := ⟨h.1, h.2.1, h.2.2.1, h.2.2.2.1, by have := h.2.2.2.2; omega⟩
theorem RC.wk {d d' : Nat} {M : Mem} {res : Option (Int32 × Mem)} {q : PRs} (h : RC b z w c0 a d M res q) (e : d' ≤ d) : RC b z w c0 a d' M res q := by
  obtain ⟨r, M', h1, h2, h3⟩ := h
  refine ⟨r, M', h1, h2, ?_⟩
  cases q with
  | inl e => exact h3
  | inr x => exact ⟨h3.1, h3.2.wk e⟩
theorem RC.fr {d : Nat} {M M1 : Mem} {res : Option (Int32 × Mem)} {q : PRs} (f : FR (Wpx c0 a) M M1) (h : RC b z w c0 a d M1 res q) : RC b z w c0 a d M res q := by
  obtain ⟨r, M', h1, h2, h3⟩ := h
  exact ⟨r, M', h1, f.tr h2, h3⟩
theorem RC.bind {d1 d : Nat} {M : Mem} {res : Option (Int32 × Mem)} {q : PRs} {X K : Mem → Option (Int32 × Mem)} {k : Nat → Cds → PRs} (h : RC b z w c0 a d1 M res q) (hX : ∀ M', X M' = some (0, M')) (hK : ∀ p cs M', PS b z w c0 a d1 M' p cs → RC b z w c0 a d M' (K M') (k p cs)) : RC b z w c0 a d M (Option.bind res (fun z => if z.1 = 0 then X z.2 else K z.2)) (bnd q k) := by
  obtain ⟨r, M', h1, h2, h3⟩ := h
  rw [h1, b_i]
  dsimp only
  cases q with
  | inl e =>
    rw [h3.1, if_pos rfl, hX]
    exact ⟨0, M', rfl, h2, rfl, h3.2⟩
  | inr x =>
    rw [h3.1, if_neg (by decide)]
    exact (hK x.1 x.2 M' h3.2).fr h2
theorem RC.zb {d : Nat} {M : Mem} {res : Option (Int32 × Mem)} {q : PRs} (h : RC b z w c0 a d M res q) : RC b z w c0 a d M (Option.bind res (fun z => zbz z.1 (some (z.1, z.2)))) q := by
  obtain ⟨r, M', h1, h2, h3⟩ := h
  rw [h1, b_i]
  dsimp only
  cases q with
  | inl e => rw [h3.1, zbz0]; exact ⟨0, M', rfl, h2, rfl, h3.2⟩
  | inr x => rw [h3.1, zbz1]; exact ⟨1, M', rfl, h2, rfl, h3.2⟩
theorem PS.look {d : Nat} {M : Mem} {p : Nat} {cs : Cds} (h : PS b z w c0 a d M p cs) (hk : tK (tok b z p) ≤ 3) (h0 : ¬ tK (tok b z p) = 0) : ∃ M', f_X6_look 353 M = some M' ∧ FR (Wpx c0 a) M M' ∧ PS b z w c0 a (d + 1) M' (nxp b z p) cs := by
  obtain ⟨h1, ⟨h2, hp⟩, ⟨h3, h4, h5⟩, ⟨h6, h7⟩, h8⟩ := id h
  obtain ⟨n1, n2⟩ := (tok_ok h.by8 hp).2.2.2.1 hk h0
  obtain ⟨M', a1, a2, a3⟩ := s_look h1 (h2.2.2.2.1 hk) n2
  have hz : c0 = 335 ∨ c0 = 344 := h4
  refine ⟨M', a1, a2.mo (fun x j q => by unfold Wlk6 at q; unfold Wpx; omega), h1.lo a2, ⟨a3, n2⟩, ⟨(a2.R _ _).trans h3, h4, (a2.I (by unfold Wlk6; omega)).trans h5⟩, ⟨(a2.I (by unfold Wlk6; omega)).trans h6, h7.fr a2 (fun j => by unfold Wlk6; omega)⟩, ?_⟩
  unfold nxp; omega
theorem s_add0 {M : Mem} {n : Nat} {x : Int32} (hW : WRc M) (hz : zCh2 c0) (h : zI M c0 3 = nI n) (hn : n < 1600) : f_X0_addStep c0 x M = some (zsI (zsI M (c0 + 8) n x) c0 3 (nI (n + 1))) := by
  have hz' : c0 = 335 ∨ c0 = 344 := hz
  have hs : (zSH (c0 + 8)).2 = 1600 := by rcases hz with rfl | rfl <;> rfl
  unfold f_X0_addStep f_X0_addStep_32
  rw [wC_2 hW hz, b_i, zlen_e hs, h, if_neg (nI_ge (show n < 1600 from hn) (by decide)), b_i, zl_at 1600 hs hn (by decide), b_i, b_i, zI_sn _ _ (by omega), h, nI_1, b_i]
theorem PS.add {d : Nat} {M : Mem} {p : Nat} {cs : Cds} {c : Nat × Nat} {x : Int32} (h : PS b z w c0 a (d + 1) M p cs) (hx : x = stp c) : ∃ M', f_X0_addStep c0 x M = some M' ∧ FR (Wpx c0 a) M M' ∧ PS b z w c0 a d M' p (cs ++ [c]) := by
  obtain ⟨h1, ⟨h2, hp⟩, ⟨h3, h4, h5⟩, ⟨h6, h7⟩, h8⟩ := h
  have hz : c0 = 335 ∨ c0 = 344 := h4
  have hz6 := h1.2.1
  have f1 : FR (fun y j => (y = c0 + 8 ∧ j = a + cs.length) ∨ (y = c0 ∧ j = 3)) M (zsI (zsI M (c0 + 8) (a + cs.length) x) c0 3 (nI (a + cs.length + 1))) := FR.sI (FR.sI (FR.rf (fun y j => (y = c0 + 8 ∧ j = a + cs.length) ∨ (y = c0 ∧ j = 3)) M) (Or.inl ⟨rfl, rfl⟩)) (Or.inr ⟨rfl, rfl⟩)
  refine ⟨_, s_add0 h1.1 h4 h6 (by omega), f1.mo (fun y j q => by unfold Wpx; omega), h1.fr f1 (by omega) (fun _ => by omega) (fun _ => by omega), ⟨?_, hp⟩, ⟨(f1.R _ _).trans h3, h4, (f1.I (by omega)).trans h5⟩, ⟨?_, ?_⟩, ?_⟩
  · obtain ⟨t1, t2, t3, t4, t5, t6⟩ := h2
    exact ⟨(f1.I (by omega)).trans t1, (f1.I (by omega)).trans t2, (f1.I (by omega)).trans t3, fun q => (f1.I (by omega)).trans (t4 q), fun q => ⟨(f1.I (by omega)).trans (t5 q).1, (f1.I (by omega)).trans (t5 q).2⟩, fun q => (f1.I (by omega)).trans (t6 q)⟩
  · rw [zI_se, List.length_append]; rfl
  · refine PRG.app (PRG.fj f1 (fun j j1 j2 => by omega) h7) ?_
    rw [zI_sn _ _ (by omega), zI_se]; exact hx
  · rw [List.length_append]; show a + (cs.length + 1) + d ≤ p; omega
theorem PS.addlook {d : Nat} {M : Mem} {p : Nat} {cs : Cds} {c : Nat × Nat} {x : Int32} (h : PS b z w c0 a d M p cs) (hx : x = stp c) (hk : tK (tok b z p) ≤ 3) (h0 : ¬ tK (tok b z p) = 0) : RC b z w c0 a d M (Option.bind (f_X0_addStep c0 x M) (fun M1 => Option.bind (f_X6_look 353 M1) (fun M2 => some (1, M2)))) (.inr (nxp b z p, cs ++ [c])) := by
  obtain ⟨h1, ⟨h2, hp⟩, ⟨h3, h4, h5⟩, ⟨h6, h7⟩, h8⟩ := id h
  have hz : c0 = 335 ∨ c0 = 344 := h4
  have hz6 := h1.2.1
  obtain ⟨n1, n2⟩ := (tok_ok h.by8 hp).2.2.2.1 hk h0
  have f1 : FR (fun y j => (y = c0 + 8 ∧ j = a + cs.length) ∨ (y = c0 ∧ j = 3)) M (zsI (zsI M (c0 + 8) (a + cs.length) x) c0 3 (nI (a + cs.length + 1))) := FR.sI (FR.sI (FR.rf (fun y j => (y = c0 + 8 ∧ j = a + cs.length) ∨ (y = c0 ∧ j = 3)) M) (Or.inl ⟨rfl, rfl⟩)) (Or.inr ⟨rfl, rfl⟩)
  have p1 := h1.fr f1 (by omega) (fun _ => by omega) (fun _ => by omega)
  obtain ⟨M', a1, a2, a3⟩ := s_look p1 ((f1.I (by omega)).trans (h2.2.2.2.1 hk)) n2
  refine ⟨1, M', ?_, (f1.mo (fun y j q => by unfold Wpx; omega)).tr (a2.mo (fun x j q => by unfold Wlk6 at q; unfold Wpx; omega)), rfl, p1.lo a2, ⟨a3, n2⟩, ⟨(a2.R _ _).trans ((f1.R _ _).trans h3), h4, (a2.I (by unfold Wlk6; omega)).trans ((f1.I (by omega)).trans h5)⟩, ⟨?_, ?_⟩, ?_⟩
  · rw [s_add0 h1.1 h4 h6 (by omega), b_i, a1, b_i]
  · rw [a2.I (by unfold Wlk6; omega), zI_se, List.length_append]; rfl
  · refine PRG.fr a2 (fun j => by unfold Wlk6; omega) (PRG.app (PRG.fj f1 (fun j j1 j2 => by omega) h7) ?_)
    rw [zI_sn _ _ (by omega), zI_se]; exact hx
  · rw [List.length_append]; show a + (cs.length + 1) + d ≤ nxp b z p; unfold nxp; omega
theorem PS.fail {d : Nat} {M : Mem} {p : Nat} {cs : Cds} (h : PS b z w c0 a d M p cs) : RC b z w c0 a d M (f_X6_failHere 353 M) (bad1 b z p) := by
  have f1 : FR (Wpx c0 a) M (zsI (zsI M 353 4 1) 353 5 (zI M 353 8)) := FR.sI (FR.sI (FR.rf _ M) (by unfold Wpx; omega)) (by unfold Wpx; omega)
  refine ⟨0, zsI (zsI M 353 4 1) 353 5 (zI M 353 8), ?_, f1, rfl, ?_, ?_⟩
  · unfold f_X6_failHere f_X6_failBy
    rw [b_i, b_i, b_i, zbz0]
  · rw [zI_sn _ _ (by omega), zI_se]; rfl
  · rw [zI_se]; exact h.2.1.1.2.2.1
theorem PS.failk {d k : Nat} {M : Mem} {p : Nat} {cs : Cds} {x : Int32} (h : PS b z w c0 a d M p cs) (hx : x = nI k) : RC b z w c0 a d M (f_X6_failBy 353 x (zI M 353 7) M) (.inl (k, tS (tok b z p))) := by
  have f1 : FR (Wpx c0 a) M (zsI (zsI M 353 4 x) 353 5 (zI M 353 7)) := FR.sI (FR.sI (FR.rf _ M) (by unfold Wpx; omega)) (by unfold Wpx; omega)
  refine ⟨0, zsI (zsI M 353 4 x) 353 5 (zI M 353 7), ?_, f1, rfl, ?_, ?_⟩
  · unfold f_X6_failBy
    rw [b_i, b_i]
  · rw [zI_sn _ _ (by omega), zI_se]; exact hx
  · rw [zI_se]; exact h.2.1.1.1
theorem tkI_sg {t : Tok} {c : Nat} (hv : tK t = 3 → tV t < 256) (hc : c < 256) : tkI t = nI c ↔ isSg t c = true := by
  rw [isSg_iff]
  have m : ∀ k, k < 256 → ¬ (-1 : Int32) = nI k ∧ ¬ (-2 : Int32) = nI k ∧ ¬ (-3 : Int32) = nI k ∧ ¬ (-4 : Int32) = nI k := by decide +kernel
  obtain ⟨m1, m2, m3, m4⟩ := m c hc
  unfold tkI
  by_cases q0 : tK t = 0
  · rw [if_pos q0]; exact ⟨fun e => absurd e m1, fun e => absurd e.1 (by omega)⟩
  rw [if_neg q0]
  by_cases q1 : tK t = 1
  · rw [if_pos q1]; exact ⟨fun e => absurd e m2, fun e => absurd e.1 (by omega)⟩
  rw [if_neg q1]
  by_cases q2 : tK t = 2
  · rw [if_pos q2]; exact ⟨fun e => absurd e m3, fun e => absurd e.1 (by omega)⟩
  rw [if_neg q2]
  by_cases q3 : tK t = 3
  · rw [if_pos q3, nI_eq (by have := hv q3; omega) (by omega)]; exact ⟨fun e => ⟨q3, e⟩, fun e => e.2⟩
  · rw [if_neg q3]; exact ⟨fun e => absurd e m4, fun e => absurd e.1 q3⟩
theorem tkI_k {t : Tok} (hv : tK t = 3 → tV t < 256) : (tkI t = -2 ↔ tK t = 1) ∧ (tkI t = -3 ↔ tK t = 2) ∧ (tkI t = -1 ↔ tK t = 0) := by
  have m : ∀ k, k < 256 → ¬ nI k = (-1 : Int32) ∧ ¬ nI k = (-2 : Int32) ∧ ¬ nI k = (-3 : Int32) := by decide +kernel
  unfold tkI
  by_cases q0 : tK t = 0
  · rw [if_pos q0, q0]; decide
  rw [if_neg q0]
  by_cases q1 : tK t = 1
  · rw [if_pos q1, q1]; decide
  rw [if_neg q1]
  by_cases q2 : tK t = 2
  · rw [if_pos q2, q2]; decide
  rw [if_neg q2]
  by_cases q3 : tK t = 3
  · obtain ⟨m1, m2, m3⟩ := m (tV t) (hv q3)
    rw [if_pos q3]
    exact ⟨⟨fun e => absurd e m2, fun e => absurd e q1⟩, ⟨fun e => absurd e m3, fun e => absurd e q2⟩, ⟨fun e => absurd e m1, fun e => absurd e q0⟩⟩
  · rw [if_neg q3]
    exact ⟨⟨fun e => absurd e (by decide), fun e => absurd e q1⟩, ⟨fun e => absurd e (by decide), fun e => absurd e q2⟩, ⟨fun e => absurd e (by decide), fun e => absurd e q0⟩⟩
theorem PS.sg {d : Nat} {M : Mem} {p c : Nat} {cs : Cds} {x : Int32} (h : PS b z w c0 a d M p cs) (hx : x = nI c) (hc : c < 256) : zI M 353 6 = x ↔ isSg (tok b z p) c = true := by
  rw [h.2.1.1.2.1, hx]; exact tkI_sg (tok_ok h.by8 h.2.1.2).2.2.2.2.2.2.1 hc
theorem PS.kd {d : Nat} {M : Mem} {p : Nat} {cs : Cds} (h : PS b z w c0 a d M p cs) : (zI M 353 6 = -2 ↔ tK (tok b z p) = 1) ∧ (zI M 353 6 = -3 ↔ tK (tok b z p) = 2) ∧ (zI M 353 6 = -1 ↔ tK (tok b z p) = 0) := by
  rw [h.2.1.1.2.1]; exact tkI_k (tok_ok h.by8 h.2.1.2).2.2.2.2.2.2.1
theorem owv_eq {l : List Nat} {i : Nat} (hi : i < 27) : owv l = nI i ↔ owi l = i := by
  unfold owv
  by_cases q : owi l < 27
  · rw [if_pos q, nI_eq (by omega) (by omega)]
  · rw [if_neg q]
    exact ⟨fun e => absurd e.symm (nI_nm (by omega)), fun e => absurd hi (by omega)⟩
theorem PS.ow {d : Nat} {M : Mem} {p i : Nat} {cs : Cds} {x : Int32} (h : PS b z w c0 a d M p cs) (hx : x = nI i) (hi : i < 27) : f_X6_isOwn 353 x M = some (b01 (isOw (tok b z p) i), M) := by
  unfold f_X6_isOwn f_X6_isOwn_21 f_X6_isOwn_22
  by_cases q : tK (tok b z p) = 1
  · rw [if_pos (h.kd.1.mpr q), (h.2.1.1.2.2.2.2.1 q).2]
    by_cases q2 : owi (tL (tok b z p)) = i
    · rw [if_pos (by rw [hx]; exact (owv_eq hi).mpr q2), zbz1, isOw_iff.mpr ⟨q, q2⟩]; rfl
    · rw [if_neg (fun e => q2 ((owv_eq hi).mp (e.trans hx))), zbz0, show isOw (tok b z p) i = false from Bool.eq_false_iff.mpr (fun e => q2 (isOw_iff.mp e).2)]; rfl
  · rw [if_neg (fun e => q (h.kd.1.mp e)), zbz0, show isOw (tok b z p) i = false from Bool.eq_false_iff.mpr (fun e => q (isOw_iff.mp e).1)]; rfl
theorem PS.sign {d : Nat} {M : Mem} {p c : Nat} {cs : Cds} {x : Int32} (h : PS b z w c0 a d M p cs) (hx : x = nI c) (hc : c < 256) : RC b z w c0 a (d + 1) M (f_X6_readSign 353 x M) (xpc b z c p cs) := by
  unfold f_X6_readSign xpc
  by_cases q : isSg (tok b z p) c = true
  · have q' := (isSg_iff.mp q).1
    obtain ⟨M', a1, a2, a3⟩ := h.look (by omega) (by omega)
    rw [if_pos ((h.sg hx hc).mpr q), if_pos q, a1, b_i]
    exact ⟨1, M', rfl, a2, rfl, a3⟩
  · rw [if_neg (fun e => q ((h.sg hx hc).mp e)), if_neg q]
    obtain ⟨r, M', h1, h2, h3⟩ := h.fail.zb
    exact ⟨r, M', h1, h2, h3⟩
theorem PS.opng {d : Nat} {M : Mem} {p c o : Nat} {cs : Cds} {x y : Int32} (h : PS b z w c0 a d M p cs) (hx : x = nI c) (hc : c < 256) (hy : y = nI o) (ho : o < 1000) : RC b z w c0 a (d + 1) M (f_X6_readOpening 353 x y M) (opn b z c o p cs) := by
  unfold f_X6_readOpening opn
  by_cases q : isSg (tok b z p) c = true
  · have q' := (isSg_iff.mp q).1
    rw [if_pos ((h.sg hx hc).mpr q), if_pos q]
    by_cases q2 : o < 7
    · obtain ⟨M', a1, a2, a3⟩ := h.look (by omega) (by omega)
      rw [if_pos (show y < 7 by rw [hy]; exact nI_lt (b := 7) q2 (by decide)), if_pos q2, a1, b_i]
      exact ⟨1, M', rfl, a2, rfl, a3⟩
    · rw [if_neg (show ¬ y < 7 by rw [hy]; exact nI_nlt (b := 7) (by omega) (by omega)), if_neg q2]
      obtain ⟨r, M', h1, h2, h3⟩ := (h.failk (k := 5) (x := 5) rfl).zb
      exact ⟨r, M', h1, h2, h3⟩
  · rw [if_neg (fun e => q ((h.sg hx hc).mp e)), if_neg q]
    obtain ⟨r, M', h1, h2, h3⟩ := h.fail.zb
    exact ⟨r, M', h1, h2, h3⟩
end
