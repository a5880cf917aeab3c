/-! calls: field -/
def mulG (m p a : Nat) : Nat → List Nat → List Nat
  | v, [] => [v]
  | v, x :: L => (v ^^^ fit m p a x) :: mulG m p a x L
def mulF (m p a : Nat) (C : Nat → Nat) : Nat → Nat := fun i => (if i = 0 then 0 else C (i - 1)) ^^^ fit m p a (C i)
theorem lg_c (x : Nat) (L : List Nat) (i : Nat) : lg (x :: L) (i + 1) = lg L i := by unfold lg; rw [List.getElem?_cons_succ]
theorem lg_nil (i : Nat) : lg [] i = 0 := lg_ge (Nat.zero_le _)
theorem mulG_at {m p : Nat} (h : (m, p) ∈ fPR) (a : Nat) : ∀ L v i, lg (mulG m p a v L) i = (if i = 0 then v else lg L (i - 1)) ^^^ fit m p a (lg L i) := by
  intro L
  induction L with
  | nil =>
    intro v i
    unfold mulG
    cases i with
    | zero => rw [if_pos rfl, lg_nil, fit_0 h, Nat.xor_zero]; rfl
    | succ i => rw [if_neg (by omega), lg_c, lg_nil, lg_nil, lg_nil, fit_0 h]; rfl
  | cons x L ih =>
    intro v i
    unfold mulG
    cases i with
    | zero => rw [if_pos rfl]; rfl
    | succ i =>
      rw [lg_c, ih, lg_c, show (if i + 1 = 0 then v else lg (x :: L) (i + 1 - 1)) = lg (x :: L) i from if_neg (by omega)]
      cases i with
      | zero => rfl
      | succ i => rw [if_neg (by omega), lg_c, Nat.add_sub_cancel]
theorem mulG_F {m p : Nat} (h : (m, p) ∈ fPR) (a : Nat) (L : List Nat) : lg (mulG m p a 0 L) = mulF m p a (lg L) := funext (fun i => mulG_at h a L 0 i)
theorem mulG_len (m p a : Nat) : ∀ L v, (mulG m p a v L).length = L.length + 1 := by
  intro L
  induction L with
  | nil => intro v; rfl
  | cons x L ih => intro v; unfold mulG; rw [List.length_cons, ih, List.length_cons]
theorem mulF_lt {m p : Nat} (h : (m, p) ∈ fPR) {a : Nat} {C : Nat → Nat} (hC : ∀ i, C i < 2 ^ m) (i : Nat) : mulF m p a C i < 2 ^ m := by
  unfold mulF
  refine Nat.xor_lt_two_pow ?_ (fit_lt h a (hC i))
  by_cases q : i = 0
  · rw [if_pos q]; exact Nat.pow_pos (by decide)
  · rw [if_neg q]; exact hC _
theorem MO.c {M M1 : Mem} {m p : Nat} (h : MO M m p) (f : FR (fun a _ => a = 374) M M1) : MO M1 m p := h.fr f (by omega) (fun _ => by omega) (fun _ => by omega)
theorem s_mul38 {M : Mem} {m p a e v : Nat} {C : Nat → Nat} {x1 : Int32} {k : Int32 → Mem → Option Mem} (hW : WRc M) (hM : MO M m p) (hC : ∀ i, C i < 2 ^ m) (ha : a < fN m) (he : e < 70) (h1 : zI M 374 e = nI (C e)) : f_X12_multiplies_38 k 355 x1 (nI a) (nI e) 374 (nI e) (nI v) M = k (nI e + (-1)) (zsI M 374 e (nI (v ^^^ fit m p a (C e)))) := by
  have hm := f_m hM.pr
  unfold f_X12_multiplies_38
  rw [w355_44 hW, b_i, zl_at 70 rfl he (by decide), b_i, w355_42 hW, b_i, zl_at 64 rfl (by omega) (by decide), b_i, h1, hM.tp a ha, s_times hM (hC e) (f_pos hM.pr a).2, b_i, b_i, b_i, fmul_comm, fmul_fit hM.pr a (hC e), nI_xor]
theorem s_muls {m p a d : Nat} {C : Nat → Nat} {x1 : Int32} (hC : ∀ i, C i < 2 ^ m) (ha : a < fN m) (hd : d + 1 < 70) : ∀ e f M, e ≤ d + 2 → WRc M → MO M m p → (∀ i, i < e → zI M 374 i = nI (C i)) → (∀ i, e ≤ i → i ≤ d + 1 → zI M 374 i = nI (mulF m p a C i)) → ∃ M', f_X12_multiplies_13 355 x1 (nI a) (e + 1 + f) (nI e + (-1)) M = some M' ∧ FR (fun b _ => b = 374) M M' ∧ ∀ i, i ≤ d + 1 → zI M' 374 i = nI (mulF m p a C i) := by
  intro e
  induction e with
  | zero =>
    intro f M he hW hM h1 h2
    refine ⟨M, ?_, FR.rf _ M, fun i hi => h2 i (Nat.zero_le _) hi⟩
    rw [show 0 + 1 + f = f + 1 by omega, f_X12_multiplies_13]
    exact ip (by decide) rfl
  | succ e ih =>
    intro f M he hW hM h1 h2
    have f1 : ∀ v, FR (fun b _ => b = 374) M (zsI M 374 e v) := fun v => (FR.rf (fun b _ => b = 374) M).sI rfl
    have key : ∃ M', f_X12_multiplies_13 355 x1 (nI a) (e + 1 + f) (nI e + (-1)) (zsI M 374 e (nI (mulF m p a C e))) = some M' ∧ FR (fun b _ => b = 374) (zsI M 374 e (nI (mulF m p a C e))) M' ∧ ∀ i, i ≤ d + 1 → zI M' 374 i = nI (mulF m p a C i) := by
      refine ih f _ (by omega) ((f1 _).W hW) (hM.c (f1 _)) (fun i hi => ?_) (fun i hi hi2 => ?_)
      · rw [zI_sn _ _ (by omega)]; exact h1 i (by omega)
      · by_cases q : i = e
        · rw [q, zI_se]
        · rw [zI_sn _ _ (by omega)]; exact h2 i (by omega) hi2
    obtain ⟨M', k1, k2, k3⟩ := key
    refine ⟨M', ?_, (f1 _).tr k2, k3⟩
    rw [show e + 1 + 1 + f = (e + 1 + f) + 1 by omega, f_X12_multiplies_13, nI_m1]
    refine im (nI_pos (by omega)) ?_
    rw [w355_44 hW, b_i]
    cases e with
    | zero =>
      refine ip (by decide) ?_
      rw [show (0 : Int32) = nI 0 from rfl, s_mul38 hW hM hC ha (by omega) (h1 0 (by omega))]
      exact k1
    | succ j =>
      refine im (nI_nle (by omega) (by omega)) ?_
      rw [b_i, nI_pred, zl_at 70 rfl (by omega) (by decide), b_i, h1 j (by omega), s_mul38 hW hM hC ha (by omega) (h1 (j + 1) (by omega))]
      unfold mulF at k1
      rw [if_neg (by omega), Nat.add_sub_cancel] at k1
      exact k1
theorem s_multiplies {M : Mem} {m p a d : Nat} {C : Nat → Nat} (hW : WRc M) (hM : MO M m p) (hC : ∀ i, C i < 2 ^ m) (ha : a < fN m) (hd : d + 1 < 70) (h0 : C (d + 1) = 0) (h1 : ∀ i, i ≤ d → zI M 374 i = nI (C i)) : ∃ M', f_X12_multiplies 355 (nI d) (nI a) M = some M' ∧ FR (fun b _ => b = 374) M M' ∧ ∀ i, i ≤ d + 1 → zI M' 374 i = nI (mulF m p a C i) := by
  have f1 : FR (fun b _ => b = 374) M (zsI M 374 (d + 1) 0) := (FR.rf (fun b _ => b = 374) M).sI rfl
  obtain ⟨M', a1, a2, a3⟩ := s_muls (x1 := nI d) hC ha hd (d + 2) (1000000 - (d + 2) - 1) (zsI M 374 (d + 1) 0) (by omega) (f1.W hW) (hM.c f1) (fun i hi => by
    by_cases q : i = d + 1
    · rw [q, zI_se, h0]; rfl
    · rw [zI_sn _ _ (by omega)]; exact h1 i (by omega)) (fun i hi hi2 => by omega)
  refine ⟨M', ?_, f1.tr a2, a3⟩
  unfold f_X12_multiplies
  rw [w355_44 hW, b_i, nI_1, zl_at 70 rfl (by omega) (by decide), b_i, b_i]
  rw [show d + 2 + 1 + (1000000 - (d + 2) - 1) = 1000000 by omega, show d + 2 = (d + 1) + 1 from rfl, nI_m1] at a1
  exact a1
def twF (C : Nat → Nat) : Nat → Nat
  | 0 => 0
  | n + 1 => twF C n ||| (if C n = 1 then 2 ^ n else 0)
theorem s_twoEl {M : Mem} {d : Nat} {C : Nat → Nat} (hW : WRc M) (hC : ∀ i, C i < 2 ^ 31) (hd : d < 63) (h1 : ∀ i, i ≤ d → zI M 374 i = nI (C i)) : f_X12_twoElements 355 (nI d) M = some (lN (twF C (d + 1)), M) := by
  have key : ∀ e i f, i + e = d + 1 → f_X12_twoElements_5 355 (nI d) (e + 1 + f) (lN (twF C i)) (nI i) M = some (lN (twF C (d + 1)), M) := by
    intro e
    induction e with
    | zero =>
      intro i f hi
      have hi : i = d + 1 := by omega
      subst hi
      rw [show 0 + 1 + f = f + 1 by omega, f_X12_twoElements_5]
      exact ip (nI_lt (by omega) (by omega)) rfl
    | succ e ih =>
      intro i f hi
      rw [show e + 1 + 1 + f = (e + 1 + f) + 1 by omega, f_X12_twoElements_5]
      refine im (nI_nlt (by omega) (by omega)) ?_
      rw [w355_44 hW, b_i, zl_at 70 rfl (by omega) (by decide), b_i, h1 i (by omega)]
      have := ih (i + 1) f (by omega)
      unfold twF at this
      unfold f_X12_twoElements_31
      by_cases q : C i = 1
      · rw [if_pos q] at this
        refine ip (by rw [q]; rfl) ?_
        rw [lN_bit (by omega), lN_or, nI_1]; exact this
      · rw [if_neg q] at this
        refine im (nI_n1 (hC i) q) ?_
        rw [show (0 : Int64) = lN 0 from rfl, lN_or, nI_1]; exact this
  have := key (d + 1) 0 (1000000 - (d + 1) - 1) (by omega)
  rw [show d + 1 + 1 + (1000000 - (d + 1) - 1) = 1000000 by omega] at this
  exact this
def mnl (m p k : Nat) : Nat → Nat → List Nat → Option (List Nat)
  | 0, _, _ => none
  | f + 1, a, L => if 2 * a % fN m = k then some (mulG m p a 0 L) else mnl m p k f (2 * a % fN m) (mulG m p a 0 L)
theorem s_mnl {m p k : Nat} (hk : k < fN m) : ∀ e f a L R M, mnl m p k e a L = some R → L.length + e ≤ 60 → 1 ≤ L.length → a < fN m → WRc M → MO M m p → (∀ i, lg L i < 2 ^ m) → (∀ i, i < L.length → zI M 374 i = nI (lg L i)) → ∃ M', f_X12_minimal_14 355 (nI k) (e + 1 + f) (nI (L.length - 1)) (nI a) 1 M = some (nI (twF (lg R) R.length), M') ∧ FR (fun b _ => b = 374) M M' := by
  intro e
  induction e with
  | zero => intro f a L R M q; cases q
  | succ e ih =>
    intro f a L R M q hl h1 ha hW hM hC hL
    have hm := f_m hM.pr
    obtain ⟨M2, a1, a2, a3⟩ := s_multiplies hW hM hC ha (show L.length - 1 + 1 < 70 by omega) (lg_ge (by omega)) (fun i hi => hL i (by omega))
    rw [← mulG_F hM.pr] at a3
    have hG := mulG_len m p a L 0
    have hC' : ∀ i, lg (mulG m p a 0 L) i < 2 ^ m := fun i => by rw [mulG_F hM.pr]; exact mulF_lt hM.pr hC i
    have h37 := (hM.c a2).sz
    rw [mnl] at q
    rw [show e + 1 + 1 + f = (e + 1 + f) + 1 by omega, f_X12_minimal_14]
    unfold f_X12_minimal_47
    have hz : zrem (2 * nI a) (nI (fN m)) = nI (2 * a % fN m) := by rw [show (2 : Int32) = nI 2 from rfl, pk_mul, zrem_nI (by omega) (by omega) (by omega)]
    have hlen : nI (L.length - 1) + 1 = nI ((mulG m p a 0 L).length - 1) := by rw [nI_1, hG]; congr 1; omega
    by_cases c1 : 2 * a % fN m = k
    · rw [if_pos c1] at q
      cases q
      refine ⟨M2, ?_, a2⟩
      refine im (by decide) ?_
      rw [a1, b_i]
      refine im (by rw [h37]; exact nI_ne0 (by omega) (by omega)) ?_
      rw [h37, hz]
      refine ip (by rw [c1]) ?_
      rw [show e + 1 + f = (e + f) + 1 by omega, f_X12_minimal_14]
      refine ip rfl ?_
      rw [hlen, s_twoEl (a2.W hW) (fun i => Nat.lt_of_lt_of_le (hC' i) (by omega)) (by omega) (fun i hi => a3 i (by omega)), b_i, lN_i]
      dsimp only
      rw [show (mulG m p a 0 L).length - 1 + 1 = (mulG m p a 0 L).length by omega]
    · rw [if_neg c1] at q
      obtain ⟨M', b1, b2⟩ := ih f _ _ R M2 q (by omega) (by omega) (Nat.mod_lt _ (by omega)) (a2.W hW) (hM.c a2) hC' (fun i hi => a3 i (by omega))
      refine ⟨M', ?_, a2.tr b2⟩
      refine im (by decide) ?_
      rw [a1, b_i]
      refine im (by rw [h37]; exact nI_ne0 (by omega) (by omega)) ?_
      rw [h37, hz]
      refine im (fun x => c1 ((nI_eq (by have := Nat.mod_lt (2 * a) (show 0 < fN m by omega); omega) (by omega)).mp x)) ?_
      rw [hlen]
      exact b1
theorem s_minimal {M : Mem} {m p k : Nat} {R : List Nat} (hW : WRc M) (hM : MO M m p) (hk : k < fN m) (hR : mnl m p k 7 k [1] = some R) : ∃ M', f_X12_minimal 355 (nI k) M = some (nI (twF (lg R) R.length), M') ∧ FR (fun b _ => b = 374) M M' := by
  have hm := f_m hM.pr
  have f1 : FR (fun b _ => b = 374) M (zsI M 374 0 1) := (FR.rf (fun b _ => b = 374) M).sI rfl
  obtain ⟨M', a1, a2⟩ := s_mnl hk 7 (1000000 - 8) k [1] R (zsI M 374 0 1) hR (by decide) (by decide) hk (f1.W hW) (hM.c f1) (fun i => by
    cases i with
    | zero => show 1 < 2 ^ m; omega
    | succ i => rw [lg_c, lg_nil]; omega) (fun i hi => by
    have hi : i = 0 := by simp only [List.length_cons, List.length_nil] at hi; omega
    subst hi
    rw [zI_se]; rfl)
  refine ⟨M', ?_, f1.tr a2⟩
  unfold f_X12_minimal
  rw [w355_44 hW, b_i, show (0 : Int32) = nI 0 from rfl, zl_at 70 rfl (by decide) (by decide), b_i, b_i]
  exact a1
