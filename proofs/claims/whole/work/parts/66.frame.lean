/-! frames: which places may be written -/
theorem zI_s (M : Mem) (a k : Nat) (v : Int32) (b j : Nat) : zI (zsI M a k v) b j = if b = a ∧ j = k then v else zI M b j := by
  rw [zI_sI]
  by_cases h : b = a
  · subst h; rw [if_pos rfl, zup_at]
    by_cases h2 : j = k
    · rw [if_pos h2, if_pos ⟨rfl, h2⟩]
    · rw [if_neg h2, if_neg (fun x => h2 x.2)]
  · rw [if_neg h, if_neg (fun x => h x.1)]
theorem zL_s (M : Mem) (a k : Nat) (v : Int64) (b j : Nat) : zL (zsL M a k v) b j = if b = a ∧ j = k then v else zL M b j := by
  rw [zL_sL]
  by_cases h : b = a
  · subst h; rw [if_pos rfl, zup_at]
    by_cases h2 : j = k
    · rw [if_pos h2, if_pos ⟨rfl, h2⟩]
    · rw [if_neg h2, if_neg (fun x => h2 x.2)]
  · rw [if_neg h, if_neg (fun x => h x.1)]
theorem zI_se (M : Mem) (a k : Nat) (v : Int32) : zI (zsI M a k v) a k = v := by rw [zI_s, if_pos ⟨rfl, rfl⟩]
theorem zI_sn (M : Mem) {a k : Nat} (v : Int32) {b j : Nat} (h : ¬ (b = a ∧ j = k)) : zI (zsI M a k v) b j = zI M b j := by rw [zI_s, if_neg h]
theorem zL_se (M : Mem) (a k : Nat) (v : Int64) : zL (zsL M a k v) a k = v := by rw [zL_s, if_pos ⟨rfl, rfl⟩]
theorem zL_sn (M : Mem) {a k : Nat} (v : Int64) {b j : Nat} (h : ¬ (b = a ∧ j = k)) : zL (zsL M a k v) b j = zL M b j := by rw [zL_s, if_neg h]
def FR (W : Nat → Nat → Prop) (M M' : Mem) : Prop := zR M' = zR M ∧ (∀ a j, ¬ W a j → zI M' a j = zI M a j) ∧ (∀ a j, ¬ W a j → zL M' a j = zL M a j)
theorem FR.rf (W : Nat → Nat → Prop) (M : Mem) : FR W M M := ⟨rfl, fun _ _ _ => rfl, fun _ _ _ => rfl⟩
theorem FR.tr {W : Nat → Nat → Prop} {M M1 M2 : Mem} (h : FR W M M1) (h2 : FR W M1 M2) : FR W M M2 := ⟨h2.1.trans h.1, fun a j w => (h2.2.1 a j w).trans (h.2.1 a j w), fun a j w => (h2.2.2 a j w).trans (h.2.2 a j w)⟩
theorem FR.mo {W V : Nat → Nat → Prop} {M M1 : Mem} (h : FR W M M1) (hv : ∀ a j, W a j → V a j) : FR V M M1 := ⟨h.1, fun a j w => h.2.1 a j (fun x => w (hv a j x)), fun a j w => h.2.2 a j (fun x => w (hv a j x))⟩
theorem FR.sI {W : Nat → Nat → Prop} {M M1 : Mem} (h : FR W M M1) {a k : Nat} {v : Int32} (hw : W a k) : FR W M (zsI M1 a k v) :=
  ⟨h.1, fun b j w => (zI_sn M1 v (fun e => w (by rw [e.1, e.2]; exact hw))).trans (h.2.1 b j w), h.2.2⟩
theorem FR.sL {W : Nat → Nat → Prop} {M M1 : Mem} (h : FR W M M1) {a k : Nat} {v : Int64} (hw : W a k) : FR W M (zsL M1 a k v) :=
  ⟨h.1, h.2.1, fun b j w => (zL_sn M1 v (fun e => w (by rw [e.1, e.2]; exact hw))).trans (h.2.2 b j w)⟩
theorem FR.I {W : Nat → Nat → Prop} {M M1 : Mem} (h : FR W M M1) {a j : Nat} (w : ¬ W a j) : zI M1 a j = zI M a j := h.2.1 a j w
theorem FR.L {W : Nat → Nat → Prop} {M M1 : Mem} (h : FR W M M1) {a j : Nat} (w : ¬ W a j) : zL M1 a j = zL M a j := h.2.2 a j w
theorem FR.R {W : Nat → Nat → Prop} {M M1 : Mem} (h : FR W M M1) (a j : Nat) : zrf M1 a j = zrf M a j := by unfold zrf; rw [h.1]
theorem FR.W {W : Nat → Nat → Prop} {M M1 : Mem} (h : FR W M M1) (hw : WRc M) : WRc M1 := hw.of h.1
theorem CO.fr {W : Nat → Nat → Prop} {M M1 : Mem} {a pw ex m p : Nat} (h : CO M a pw ex m p) (f : FR W M M1) (h7 : ¬ W a 7) (hp : ∀ j, ¬ W pw j) (he : ∀ j, ¬ W ex j) : CO M1 a pw ex m p :=
  ⟨(f.R a 0).trans h.r0, (f.R a 1).trans h.r1, h.s0, h.s1, (f.I h7).trans h.sz, fun k hk => (f.I (hp k)).trans (h.tp k hk), fun k h1 hk => (f.I (he k)).trans (h.tl k h1 hk), h.pr⟩
theorem MO.fr {W : Nat → Nat → Prop} {M M1 : Mem} {m p : Nat} (h : MO M m p) (f : FR W M M1) (h7 : ¬ W 355 37) (hp : ∀ j, ¬ W 372 j) (he : ∀ j, ¬ W 373 j) : MO M1 m p :=
  ⟨(f.R 355 42).trans h.r0, (f.R 355 43).trans h.r1, (f.I h7).trans h.sz, fun k hk => (f.I (hp k)).trans (h.tp k hk), fun k h1 hk => (f.I (he k)).trans (h.tl k h1 hk), h.pr⟩
theorem bi {α β : Type} {a : Option α} {x : α} {f : α → Option β} {r : Option β} (h : a = some x) (h2 : f x = r) : Option.bind a f = r := by rw [h]; exact h2
theorem ip {α : Type} {c : Prop} [Decidable c] {t e r : α} (h : c) (h2 : t = r) : (if c then t else e) = r := by rw [if_pos h]; exact h2
theorem im {α : Type} {c : Prop} [Decidable c] {t e r : α} (h : ¬ c) (h2 : e = r) : (if c then t else e) = r := by rw [if_neg h]; exact h2
theorem zrem_nI {a d : Nat} (ha : a < 2 ^ 31) (h0 : 0 < d) (hd : d < 2 ^ 31) : zrem (nI a) (nI d) = nI (a % d) := pk_rem ha h0 hd
theorem s_inverse {M : Mem} {a pw ex m p x : Nat} (h : CO M a pw ex m p) (h1 : 1 ≤ x) (hx : x < 2 ^ m) : f_X1_inverse a (nI x) M = some (nI (finv m p x), M) := by
  have hm := f_m h.pr
  have lx := f_pl h.pr h1 hx
  unfold f_X1_inverse f_X1_inverse_25 finv
  rw [h.r1, b_i, zl_at 64 h.s1 (by omega) (by decide), b_i, h.r0, b_i, h.tl x h1 hx]
  by_cases h0 : flg m p x = 0
  · rw [h0, if_pos nI_0, show (0:Int32) = nI 0 from rfl, zl_at 63 h.s0 (by omega) (by decide), b_i, h.tp 0 (by omega), Nat.sub_zero, Nat.mod_self]
  · rw [if_neg (nI_ne0 (by omega) (by omega)), h.sz, pk_sub (by omega), zl_at 63 h.s0 (by omega) (by decide), b_i, h.tp _ (by omega), Nat.mod_eq_of_lt (by omega)]
theorem s_times {M : Mem} {m p x y : Nat} (h : MO M m p) (hx : x < 2 ^ m) (hy : y < 2 ^ m) : f_X12_times 355 (nI x) (nI y) M = some (nI (fmul m p x y), M) := by
  have hm := f_m h.pr
  unfold f_X12_times f_X12_times_8 f_X12_times_35 fmul
  by_cases h1 : x = 0
  · subst h1; rw [if_pos nI_0, if_pos (Or.inl rfl)]; rfl
  · rw [if_neg (nI_ne0 (by omega) (by omega))]
    by_cases h2 : y = 0
    · subst h2; rw [if_pos nI_0, if_pos (Or.inr rfl)]; rfl
    · have lx := f_pl h.pr (by omega : 1 ≤ x) hx
      have ly := f_pl h.pr (by omega : 1 ≤ y) hy
      have hl : (flg m p x + flg m p y) % fN m < fN m := Nat.mod_lt _ (by omega)
      rw [if_neg (nI_ne0 (by omega) (by omega)), if_neg (by omega), h.r0, b_i, h.r1, b_i, zl_at 64 rfl (by omega) (by decide), b_i, b_i, zl_at 64 rfl (by omega) (by decide), b_i, h.sz, if_neg (nI_ne0 (by omega) (by omega)), h.tl x (by omega) hx, h.tl y (by omega) hy, nI_add, zrem_nI (by omega) (by omega) (by omega), zl_at 64 rfl (by omega) (by decide), b_i, h.tp _ hl]
theorem s_minverse {M : Mem} {m p x : Nat} (h : MO M m p) (h1 : 1 ≤ x) (hx : x < 2 ^ m) : f_X12_inverse 355 (nI x) M = some (nI (finv m p x), M) := by
  have hm := f_m h.pr
  have lx := f_pl h.pr h1 hx
  have hl : (fN m - flg m p x) % fN m < fN m := Nat.mod_lt _ (by omega)
  unfold f_X12_inverse finv
  rw [h.r0, b_i, h.r1, b_i, zl_at 64 rfl (by omega) (by decide), b_i, h.sz, if_neg (nI_ne0 (by omega) (by omega)), h.tl x h1 hx, pk_sub (by omega), zrem_nI (by omega) (by omega) (by omega), zl_at 64 rfl (by omega) (by decide), b_i, h.tp _ hl]
