/-! a normal form of memories: each cell written once, rising, longs outside -/
theorem zup_comm {α : Type} (f : Nat → α) {a b : Nat} (x y : α) (h : a ≠ b) : zup (zup f a x) b y = zup (zup f b y) a x := by
  funext j
  unfold zup
  by_cases h1 : j = a
  · by_cases h2 : j = b
    · exact absurd (h1.symm.trans h2) h
    · simp [h1, h]
  · by_cases h2 : j = b
    · simp [h1, h2]; intro e; exact absurd e.symm h
    · simp [h1, h2]
theorem zwI_sort (M : Mem) {a b : Nat} (f g : Nat → Int32) (h : b < a) : zwI (zwI M a f) b g = zwI (zwI M b g) a f := by
  unfold zwI; simp only []; rw [zup_comm _ _ _ (by omega)]
theorem zwL_sort (M : Mem) {a b : Nat} (f g : Nat → Int64) (h : b < a) : zwL (zwL M a f) b g = zwL (zwL M b g) a f := by
  unfold zwL; simp only []; rw [zup_comm _ _ _ (by omega)]
theorem zwI_wL (M : Mem) (a b : Nat) (f : Nat → Int64) (g : Nat → Int32) : zwI (zwL M a f) b g = zwL (zwI M b g) a f := rfl
/-! the tape and the counts of refusals -/
def I_tape (M : Mem) : Prop := ∃ t, t ≤ 1600 ∧ zI M 0 15 = nI t ∧ zI M 355 1 = nI t ∧ ∀ k, k < t → zI M 1 k = zI M 356 k ∧ ∃ b, b < 256 ∧ zI M 1 k = nI b
def I_ref (M : Mem) : Prop := ∀ k, k < 6 → zI M 2 k = zI M 371 k
/-- cells that are as they were -/
def Ag (P : Nat → Prop) (M M' : Mem) : Prop := ∀ a, P a → zI M' a = zI M a ∧ zL M' a = zL M a ∧ zR M' a = zR M a
theorem Ag.rf (P : Nat → Prop) (M : Mem) : Ag P M M := fun _ _ => ⟨rfl, rfl, rfl⟩
theorem Ag.tr {P : Nat → Prop} {M M1 M2 : Mem} (h : Ag P M M1) (h2 : Ag P M1 M2) : Ag P M M2 := fun a ha => ⟨(h2 a ha).1.trans (h a ha).1, (h2 a ha).2.1.trans (h a ha).2.1, (h2 a ha).2.2.trans (h a ha).2.2⟩
theorem Ag.weak {P Q : Nat → Prop} {M M1 : Mem} (h : Ag P M M1) (hq : ∀ a, Q a → P a) : Ag Q M M1 := fun a ha => h a (hq a ha)
theorem Ag.wI {P : Nat → Prop} {M : Mem} {a : Nat} {f : Nat → Int32} (h : ¬ P a) : Ag P M (zwI M a f) := fun x hx => ⟨zup_ne _ _ (fun e => h (e ▸ hx)), rfl, rfl⟩
theorem Ag.wL {P : Nat → Prop} {M : Mem} {a : Nat} {f : Nat → Int64} (h : ¬ P a) : Ag P M (zwL M a f) := fun x hx => ⟨rfl, zup_ne _ _ (fun e => h (e ▸ hx)), rfl⟩
theorem Ag.I {P : Nat → Prop} {M M1 : Mem} (h : Ag P M M1) {a : Nat} (ha : P a) : zI M1 a = zI M a := (h a ha).1
theorem Ag.L {P : Nat → Prop} {M M1 : Mem} (h : Ag P M M1) {a : Nat} (ha : P a) : zL M1 a = zL M a := (h a ha).2.1
theorem Ag.R {P : Nat → Prop} {M M1 : Mem} (h : Ag P M M1) {a : Nat} (ha : P a) : zR M1 a = zR M a := (h a ha).2.2
theorem b_i {α β : Type} (x : α) (f : α → Option β) : Option.bind (some x) f = f x := rfl
theorem zl_at {a k : Nat} (n : Nat) (hs : (zSH a).2 = n) (h : k < n) (h2 : n < 2 ^ 31) : zld a (nI k) = some k := zld_nI (by rw [hs]; exact h) (by rw [hs]; exact h2)
theorem s_refuse {M : Mem} (h : WRc M) (k : Nat) {x : Int32} (hx : x = nI k) (hk : k < 6) : f_X11_refuse 0 x M = some (-1, zwI M 2 (zup (zI M 2) k (zI M 2 k + 1))) := by
  subst hx
  unfold f_X11_refuse
  rw [w0_1 h, b_i, zl_at 6 rfl hk (by decide), b_i, b_i, b_i, zsI_wI]
theorem s_refuses {M : Mem} (h : WRc M) (k : Nat) {x : Int32} (hx : x = nI k) (hk : k < 6) : f_X12_refuses 355 x M = some (-1, zwI M 371 (zup (zI M 371) k (zI M 371 k + 1))) := by
  subst hx
  unfold f_X12_refuses
  rw [w355_36 h, b_i, zl_at 6 rfl hk (by decide), b_i, b_i, b_i, zsI_wI]
theorem s_put1 {M : Mem} (h : WRc M) {t f : Nat} {x x2 : Int32} (ht : t < 1600) (hM : zI M 0 15 = nI t) (hx : ¬ x2 < 0) : f_X11_putNumber_3 0 x (f + 1) x2 M = f_X11_putNumber_3 0 x f (x2 + (-8)) (zwI (zwI M 0 (zup (zI M 0) 15 (nI (t + 1)))) 1 (zup (zI M 1) t ((x >>> (x2 &&& 31)) &&& 255))) := by
  rw [f_X11_putNumber_3, if_neg hx, if_neg (by rw [hM]; exact nI_ge ht (by decide)), w0_0 h, b_i, hM, zl_at 1600 rfl ht (by decide), b_i, b_i, b_i]
  unfold f_X11_putNumber_43
  have e : zI (zsI M 1 t (x >>> (x2 &&& 31) &&& 255)) 0 15 = nI t := hM
  rw [e, nI_1, zsI_wI, zsI_wI, zI_wI, if_neg (by decide), zwI_sort _ _ _ (by decide)]
theorem s_put2 {M : Mem} (h : WRc M) {t f : Nat} {x x2 : Int32} (ht : t < 1800) (hM : zI M 355 1 = nI t) (hx : ¬ x2 < 0) : f_X12_put_3 355 x (f + 1) x2 M = f_X12_put_3 355 x f (x2 + (-8)) (zwI (zwI M 355 (zup (zI M 355) 1 (nI (t + 1)))) 356 (zup (zI M 356) t ((x >>> (x2 &&& 31)) &&& 255))) := by
  rw [f_X12_put_3, if_neg hx, w355_0 h, b_i, hM, zl_at 1800 rfl ht (by decide), b_i, b_i, b_i]
  have e : zI (zsI M 356 t (x >>> (x2 &&& 31) &&& 255)) 355 1 = nI t := hM
  rw [e, nI_1, zsI_wI, zsI_wI, zI_wI, if_neg (by decide), zwI_sort _ _ _ (by decide)]
theorem s_put1e {M : Mem} {f : Nat} {x x2 : Int32} (hx : x2 < 0) : f_X11_putNumber_3 0 x (f + 1) x2 M = some M := by rw [f_X11_putNumber_3, if_pos hx]
theorem s_put2e {M : Mem} {f : Nat} {x x2 : Int32} (hx : x2 < 0) : f_X12_put_3 355 x (f + 1) x2 M = some M := by rw [f_X12_put_3, if_pos hx]
def tp4 (f : Nat → Int32) (t : Nat) (x : Int32) : Nat → Int32 := zup (zup (zup (zup f t ((x >>> (24 &&& 31)) &&& 255)) (t + 1) ((x >>> ((24 + (-8)) &&& 31)) &&& 255)) (t + 2) ((x >>> ((24 + (-8) + (-8)) &&& 31)) &&& 255)) (t + 3) ((x >>> ((24 + (-8) + (-8) + (-8)) &&& 31)) &&& 255)
theorem WRc.wI {M : Mem} {a : Nat} {f : Nat → Int32} (h : WRc M) : WRc (zwI M a f) := h
theorem WRc.wL {M : Mem} {a : Nat} {f : Nat → Int64} (h : WRc M) : WRc (zwL M a f) := h
theorem s_putNumber {M : Mem} (h : WRc M) {t : Nat} {x : Int32} (ht : t + 4 ≤ 1600) (hM : zI M 0 15 = nI t) : f_X11_putNumber 0 x M = some (zwI (zwI M 0 (zup (zI M 0) 15 (nI (t + 4)))) 1 (tp4 (zI M 1) t x)) := by
  have e : ∀ f, f_X11_putNumber_3 0 x (f + 1 + 1 + 1 + 1 + 1) 24 M = some (zwI (zwI M 0 (zup (zI M 0) 15 (nI (t + 4)))) 1 (tp4 (zI M 1) t x)) := by
    intro f
    rw [s_put1 h (by omega) hM (by decide), s_put1 (t := t + 1) h.wI.wI (by omega) (by simp [zI_wI, zup_at]) (by decide), s_put1 (t := t + 2) h.wI.wI.wI.wI (by omega) (by simp [zI_wI, zup_at]) (by decide), s_put1 (t := t + 3) h.wI.wI.wI.wI.wI.wI (by omega) (by simp [zI_wI, zup_at]) (by decide), s_put1e (by decide)]
    simp [zI_wI, zwI_wI, zwI_sort, zup_zup, tp4, zwI_sort _ _ _ (show 0 < 1 by decide)]
  exact e 999995
theorem s_mput {M : Mem} (h : WRc M) {t : Nat} {x : Int32} (ht : t + 4 ≤ 1600) (hM : zI M 355 1 = nI t) : f_X12_put 355 x M = some (zwI (zwI M 355 (zup (zI M 355) 1 (nI (t + 4)))) 356 (tp4 (zI M 356) t x)) := by
  have e : ∀ f, f_X12_put_3 355 x (f + 1 + 1 + 1 + 1 + 1) 24 M = some (zwI (zwI M 355 (zup (zI M 355) 1 (nI (t + 4)))) 356 (tp4 (zI M 356) t x)) := by
    intro f
    rw [s_put2 h (by omega) hM (by decide), s_put2 (t := t + 1) h.wI.wI (by omega) (by simp [zI_wI, zup_at]) (by decide), s_put2 (t := t + 2) h.wI.wI.wI.wI (by omega) (by simp [zI_wI, zup_at]) (by decide), s_put2 (t := t + 3) h.wI.wI.wI.wI.wI.wI (by omega) (by simp [zI_wI, zup_at]) (by decide), s_put2e (by decide)]
    simp [zI_wI, zwI_wI, zwI_sort, zup_zup, tp4, zwI_sort _ _ _ (show 355 < 356 by decide)]
  exact e 999995
theorem byte_of (x : Int32) : ∃ b, b < 256 ∧ x &&& 255 = nI b := by
  obtain ⟨j, hj, e⟩ := pk_andE x (m := 255) 8 (by decide)
  exact ⟨j, hj, e⟩
theorem tp4_rel {f g : Nat → Int32} {t : Nat} {x : Int32} (h : ∀ k, k < t → f k = g k ∧ ∃ b, b < 256 ∧ f k = nI b) : ∀ k, k < t + 4 → tp4 f t x k = tp4 g t x k ∧ ∃ b, b < 256 ∧ tp4 f t x k = nI b := by
  intro k hk
  unfold tp4
  simp only [zup_at]
  by_cases h3 : k = t + 3
  · simp only [if_pos h3]; exact ⟨trivial, byte_of _⟩
  by_cases h2 : k = t + 2
  · simp only [if_neg h3, if_pos h2]; exact ⟨trivial, byte_of _⟩
  by_cases h1 : k = t + 1
  · simp only [if_neg h3, if_neg h2, if_pos h1]; exact ⟨trivial, byte_of _⟩
  by_cases h0 : k = t
  · simp only [if_neg h3, if_neg h2, if_neg h1, if_pos h0]; exact ⟨trivial, byte_of _⟩
  · simp only [if_neg h3, if_neg h2, if_neg h1, if_neg h0]; exact h k (by omega)
theorem WRc.of {M M' : Mem} (h : WRc M) (e : zR M' = zR M) : WRc M' := fun t ht => by rw [e]; exact h t ht
def tp20 (f : Nat → Int32) (t : Nat) (a b c d e : Int32) : Nat → Int32 := tp4 (tp4 (tp4 (tp4 (tp4 f t a) (t + 4) b) (t + 8) c) (t + 12) d) (t + 16) e
theorem tp20_rel {f g : Nat → Int32} {t : Nat} {a b c d e : Int32} (h : ∀ k, k < t → f k = g k ∧ ∃ b, b < 256 ∧ f k = nI b) : ∀ k, k < t + 20 → tp20 f t a b c d e k = tp20 g t a b c d e k ∧ ∃ z, z < 256 ∧ tp20 f t a b c d e k = nI z := tp4_rel (t := t + 16) (tp4_rel (t := t + 12) (tp4_rel (t := t + 8) (tp4_rel (t := t + 4) (tp4_rel h))))
theorem s_feed {M : Mem} (h : WRc M) {t : Nat} {a b c d e : Int32} (ht : t + 20 ≤ 1600) (hM : zI M 0 15 = nI t) : f_X11_feed 0 a b c d e M = some (nI (t + 20), zwI (zwI M 0 (zup (zI M 0) 15 (nI (t + 20)))) 1 (tp20 (zI M 1) t a b c d e)) := by
  unfold f_X11_feed
  rw [if_pos (by rw [hM]; exact nI_le (b := 1580) (by omega) (by decide))]
  rw [s_putNumber h (by omega) hM, b_i, s_putNumber (t := t + 4) h.wI.wI (by omega) (by simp [zI_wI, zup_at]), b_i, s_putNumber (t := t + 8) h.wI.wI.wI.wI (by omega) (by simp [zI_wI, zup_at]), b_i, s_putNumber (t := t + 12) h.wI.wI.wI.wI.wI.wI (by omega) (by simp [zI_wI, zup_at]), b_i, s_putNumber (t := t + 16) h.wI.wI.wI.wI.wI.wI.wI.wI (by omega) (by simp [zI_wI, zup_at]), b_i]
  simp [zI_wI, zwI_wI, zwI_sort, zup_zup, zup_at, tp20, zwI_sort _ _ _ (show 0 < 1 by decide)]
theorem s_feedN {M : Mem} (h : WRc M) {t : Nat} {a b c d e : Int32} (ht : ¬ t + 20 ≤ 1600) (ht2 : t ≤ 1600) (hM : zI M 0 15 = nI t) : f_X11_feed 0 a b c d e M = some (-1, zwI M 2 (zup (zI M 2) 0 (zI M 2 0 + 1))) := by
  unfold f_X11_feed
  rw [if_neg (by rw [hM]; exact nI_ge (a := 1580) (b := t) (by omega) (by omega)), s_refuse h 0 (x := 0) rfl (by decide), b_i]
theorem s_mfeed {M : Mem} (h : WRc M) {t : Nat} {a b c d e : Int32} (ht : t + 20 ≤ 1600) (hM : zI M 355 1 = nI t) : f_X12_feed 355 a b c d e M = some (nI (t + 20), zwI (zwI M 355 (zup (zI M 355) 1 (nI (t + 20)))) 356 (tp20 (zI M 356) t a b c d e)) := by
  unfold f_X12_feed
  rw [if_pos (by rw [hM, show (20 : Int32) = nI 20 from rfl, nI_add]; exact nI_le (b := 1600) ht (by decide))]
  rw [s_mput h (by omega) hM, b_i, s_mput (t := t + 4) h.wI.wI (by omega) (by simp [zI_wI, zup_at]), b_i, s_mput (t := t + 8) h.wI.wI.wI.wI (by omega) (by simp [zI_wI, zup_at]), b_i, s_mput (t := t + 12) h.wI.wI.wI.wI.wI.wI (by omega) (by simp [zI_wI, zup_at]), b_i, s_mput (t := t + 16) h.wI.wI.wI.wI.wI.wI.wI.wI (by omega) (by simp [zI_wI, zup_at]), b_i]
  simp [zI_wI, zwI_wI, zwI_sort, zup_zup, zup_at, tp20, zwI_sort _ _ _ (show 355 < 356 by decide)]
theorem s_mfeedN {M : Mem} (h : WRc M) {t : Nat} {a b c d e : Int32} (ht : ¬ t + 20 ≤ 1600) (ht2 : t ≤ 1600) (hM : zI M 355 1 = nI t) : f_X12_feed 355 a b c d e M = some (-1, zwI M 371 (zup (zI M 371) 0 (zI M 371 0 + 1))) := by
  unfold f_X12_feed
  rw [if_neg (by rw [hM, show (20 : Int32) = nI 20 from rfl, nI_add]; exact nI_ge (a := 1600) (b := t + 20) (by omega) (by omega)), s_refuses h 0 (x := 0) rfl (by decide), b_i]
