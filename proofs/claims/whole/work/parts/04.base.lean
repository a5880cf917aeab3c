/-! memory: ints, longs, references (0 is null, q + 1 the cell q) of cells and slots -/
abbrev Mem : Type := (Nat → Nat → Int32) × (Nat → Nat → Int64) × (Nat → Nat → Nat)
def zup {α : Type} (f : Nat → α) (k : Nat) (v : α) : Nat → α := fun j => if j = k then v else f j
def zI (M : Mem) (a : Nat) : Nat → Int32 := M.1 a
def zL (M : Mem) (a : Nat) : Nat → Int64 := M.2.1 a
def zR (M : Mem) (a : Nat) : Nat → Nat := M.2.2 a
def zwI (M : Mem) (a : Nat) (f : Nat → Int32) : Mem := (zup M.1 a f, M.2.1, M.2.2)
def zwL (M : Mem) (a : Nat) (f : Nat → Int64) : Mem := (M.1, zup M.2.1 a f, M.2.2)
def zwR (M : Mem) (a : Nat) (f : Nat → Nat) : Mem := (M.1, M.2.1, zup M.2.2 a f)
def zsI (M : Mem) (a k : Nat) (v : Int32) : Mem := zwI M a (zup (zI M a) k v)
def zsL (M : Mem) (a k : Nat) (v : Int64) : Mem := zwL M a (zup (zL M a) k v)
def zsR (M : Mem) (a k : Nat) (v : Nat) : Mem := zwR M a (zup (zR M a) k v)
def znew (M : Mem) (a : Nat) : Mem := zwR (zwL (zwI M a (fun _ => 0)) a (fun _ => 0)) a (fun _ => 0)
def zrf (M : Mem) (a k : Nat) : Option Nat := match zR M a k with
  | 0 => none
  | q + 1 => some q
def zld (a : Nat) (i : Int32) : Option Nat := if i < 0 ∨ (zSH a).2 ≤ i.toNatClampNeg then none else some i.toNatClampNeg
def zO (n a k : Nat) : Prop := a < n ∧ (zSH a).1 = k
/-! the machine's values -/
abbrev zSg : Type := Nat × (Nat → Nat)
def zad (b : zSg) (q : Nat) : Nat := if q < 1000000 then b.1 + q else b.2 q
def zrv (b : zSg) : Value → Value
  | .ref q => .ref (zad b q)
  | v => v
def zre (b : zSg) : Nat → Value
  | 0 => .null
  | q + 1 => .ref (b.1 + q)
def zvk : FieldType → Nat
  | .long => 1
  | .object _ => 2
  | .array _ => 2
  | .boolean => 3
  | .int => 0
  | _ => 4
def zva (b : zSg) (M : Mem) (ty : FieldType) (a j : Nat) : Value := match zvk ty with
  | 1 => .long (zL M a j)
  | 2 => zre b (zR M a j)
  | _ => .int (zI M a j)
def zCell (dC : Nat → ClassId) (dI : Nat → Nat → Nat) (s : State) (b : zSg) (M : Mem) (H : Heap) (a : Nat) : Prop :=
  if (zSH a).1 < 13 then t_OB (b.1 + a) (dC (zSH a).1) (zN (zSH a).1) (dI (zSH a).1) H (fun j => zva b M (zTy (zSH a).1 j) a j)
  else ∃ cA : ClassId, ArrOfT s cA (zAT (zSH a).1) ∧ va_RA s cA (zAT (zSH a).1) ∧ H[b.1 + a]? = some (arrV cA (zSH a).2 (fun j => zva b M (zAT (zSH a).1) a j))
def zKd (k j : Nat) : Nat := if k < 13 then zK k j else zAK k
def zWT (n : Nat) (M : Mem) : Prop := ∀ a, a < n → ∀ j, zR M a j ≠ 0 → zO n (zR M a j - 1) (zKd (zSH a).1 j)
def zRL (dC : Nat → ClassId) (dI : Nat → Nat → Nat) (b : zSg) (s : State) (n : Nat) (M : Mem) (H : Heap) : Prop :=
  H.size = b.1 + n ∧ n ≤ 1000000 ∧ (∀ a, a < n → zCell dC dI s b M H a) ∧ zWT n M
/-! what lies outside: the two texts of the parser, and two statics that their methods read -/
def zSl : List Nat := [64, 61]
def zSb : List (List Int32) := [[102, 105, 101, 108, 100, 32, 112, 111, 108, 121, 32, 109, 101, 110, 100, 115, 32, 115, 104, 111, 114, 116, 32, 112, 97, 103, 101, 32, 104, 105, 103, 104, 32, 108, 111, 119, 32, 109, 105, 100, 32, 115, 116, 101, 112, 32, 110, 111, 105, 115, 101, 32, 100, 114, 105, 102, 116, 115, 32, 116, 114, 105, 101, 115], [100, 97, 121, 32, 99, 101, 108, 108, 32, 108, 101, 118, 101, 108, 32, 98, 105, 116, 32, 97, 103, 101, 32, 116, 114, 105, 101, 100, 32, 103, 97, 112, 32, 97, 116, 32, 105, 102, 32, 111, 114, 32, 97, 110, 100, 32, 110, 111, 116, 32, 97, 108, 108, 32, 109, 105, 110, 32, 109, 97, 120]]
def zAm (b : zSg) (U : State) : Prop :=
  vk_S 2 zSl zSb (fun i => b.2 (1000000 + i)) (fun i => b.2 (1000002 + i)) (fun q => b.1 ≤ q) U U.heap ∧
  (vk_R "FlashPages$Parser" 22 "field poly mends short page high low mid step noise drifts tries" (b.2 1000000) U ∧ vk_R "FlashPages$Parser" 28 "day cell level bit age tried gap at if or and not all min max" (b.2 1000001) U) ∧
  va_Z "java/lang/String" "COMPACT_STRINGS" "Z" (.int 1) (fun q => b.1 ≤ q) U U.heap ∧
  (va_Z "jdk/internal/util/Preconditions" "SIOOBE_FORMATTER" "Ljava/util/function/BiFunction;" .null (fun q => b.1 ≤ q) U U.heap ∨ va_Z "jdk/internal/util/Preconditions" "SIOOBE_FORMATTER" "Ljava/util/function/BiFunction;" (.ref (b.2 1000004)) (fun q => b.1 ≤ q) U U.heap)
theorem zAm.same {b : zSg} {s U : State} (hv : U.vm = s.vm) (hh : U.heap = s.heap) (h : zAm b s) : zAm b U := by
  obtain ⟨h1, ⟨h2, h3⟩, h4, h5⟩ := h
  have ha : s.vm.Alike U.vm := by rw [hv]; exact Vm.Alike.refl _
  unfold zAm
  rw [hh]
  exact ⟨h1.moved ha, ⟨h2.same hv, h3.same hv⟩, h4.moved ha, h5.imp (fun h => h.moved ha) (fun h => h.moved ha)⟩
theorem zAm.warm {b : zSg} {s U : State} (hW : s.WarmedH U.vm) (hb : b.1 ≤ s.heap.size) (hq : ∀ q, q < b.1 → U.heap[q]? = s.heap[q]?) (h : zAm b s) : zAm b U := by
  obtain ⟨h1, ⟨h2, h3⟩, h4, h5⟩ := h
  have hk : ∀ a : Nat, a < s.heap.size → ¬ b.1 ≤ a → U.heap[a]? = s.heap[a]? := fun a _ h => hq a (Nat.not_le.mp h)
  exact ⟨(h1.kept hk).moved hW.alike, ⟨h2.warm hW, h3.warm hW⟩, (h4.kept hk).moved hW.alike, h5.imp (fun h => (h.kept hk).moved hW.alike) (fun h => (h.kept hk).moved hW.alike)⟩
/-! the running frame -/
abbrev KX : Type := Program × Launch × Env × Room × State × MethodId × Array Value × List Frame × Method × Code × (Nat → ClassId) × (Nat → Nat → Nat) × zSg × Nat × Nat × Nat
def zRm (d mc ms : Nat) : Room := { frames := d, cells := mc, slots := ms, locals := 64 * d }
def zRmOk (R : Room) (d mc ms : Nat) : Prop := d ≤ R.frames ∧ 64 * d ≤ R.locals ∧ R.cells = mc ∧ R.slots = ms
def zQ (dC : Nat → ClassId) (dI : Nat → Nat → Nat) (b : zSg) (n' : Nat) (ov : Option Value) (M' : Mem) : Array Value → State → Outcome → State → Prop := fun _ st o t =>
  o = .returned (ov.map (zrv b)) ∧ zRL dC dI b t n' M' t.heap ∧ st.heap.size ≤ t.heap.size ∧ (∀ q, q < b.1 → t.heap[q]? = st.heap[q]?)
def LH (b : zSg) (ls : Array Slot) (nL : Nat) (L : List Value) : Prop := ls.size = nL ∧ lv_wf ls ∧ ∀ (i : Nat) (v : Value), L[i]? = some v → v ≠ .null → ls[i]? = some (.val (zrv b v))
def CX (κ : KX) (cc : ByteArray) (own : String) (nL : Nat) (ret : Option FieldType) (d : Nat) : Prop := match κ with
  | (p, _, _, R, s, m, args, _, meth, c, dC, dI, b, mc, ms, _) => p.tables.exec = Jvm.exec ∧ c.code = cc ∧ c.maxLocals = nL ∧ s.vm.findClass own = some m.cls ∧ (∀ w ∈ zTb, w.before args s = true) ∧ meth.sig.returnType = ret ∧ meth.locks = false ∧ va_K (dC, dI) zCl [] s ∧ zRmOk R d mc ms ∧ (∀ w ∈ zNs, va_Nw w s) ∧ zAm b s
def zIn2 (κ : KX) (n : Nat) (M : Mem) (H : Heap) (locs : List Loc) : Prop := match κ with
  | (_, _, _, _, s, _, _, _, _, _, dC, dI, b, _, _, _) => zRL dC dI b s n M H ∧ (∀ q ∈ locs, b.1 ≤ q.base) ∧ s.heap.size ≤ H.size ∧ b.1 ≤ s.heap.size ∧ ∀ q, q < b.1 → H[q]? = s.heap[q]?
def zGo {α : Type} (κ : KX) (em : α → Option Value × Mem) (cs : Nat × Nat) (H : Heap) (locs : List Loc) (pc : Nat) (ls : Array Slot) (st : List Value) (x : α) : Prop := match κ with
  | (p, l, e, R, s, m, args, below, meth, c, dC, dI, b, mc, ms, n') => W p l e R s m args below meth c H locs cs.1 cs.2 (MQ below (zQ dC dI b n' (em x).1 (em x).2) args s mc ms (fun q => b.1 ≤ q)) (F0 m pc ls (st.map (zrv b)))
def zb (κ : KX) : zSg := match κ with
  | (_, _, _, _, _, _, _, _, _, _, _, _, b, _, _, _) => b
def X {α : Type} (κ : KX) (nL : Nat) (em : α → Option Value × Mem) (n : Nat) (cs : Nat × Nat) (pc : Nat) (L st : List Value) (M : Mem) (res : Option α) : Prop :=
  ∀ x, res = some x → ∀ (H : Heap) (locs : List Loc) (ls : Array Slot), zIn2 κ n M H locs → LH (zb κ) ls nL L → zGo κ em cs H locs pc ls st x
def emI : Int32 × Mem → Option Value × Mem := fun x => (some (.int x.1), x.2)
def emL : Int64 × Mem → Option Value × Mem := fun x => (some (.long x.1), x.2)
def emV : Mem → Option Value × Mem := fun x => (none, x)
/-! storing into locals -/
def zst1 : List Value → Nat → Value → List Value
  | [], _, _ => []
  | _ :: L, 0, v => v :: L
  | a :: L, 1, v => (if a.category = 2 then .null else a) :: zst1 L 0 v
  | a :: L, i + 2, v => a :: zst1 L (i + 1) v
def zcl0 : List Value → List Value
  | [] => []
  | _ :: L => .null :: L
def zst2 : List Value → Nat → Value → List Value
  | [], _, _ => []
  | _ :: L, 0, v => v :: zcl0 L
  | a :: L, 1, v => (if a.category = 2 then .null else a) :: zst2 L 0 v
  | a :: L, i + 2, v => a :: zst2 L (i + 1) v
theorem zst1_get (L : List Value) : ∀ (i : Nat) (x : Value) (j : Nat) (v : Value), (zst1 L i x)[j]? = some v → v ≠ .null → (j = i ∧ v = x) ∨ (j ≠ i ∧ L[j]? = some v ∧ ¬ (j + 1 = i ∧ v.category = 2)) := by
  induction L with
  | nil => intro i x j v h; simp [zst1] at h
  | cons a L ih =>
    intro i x j v h hv
    match i, j with
    | 0, 0 => simp [zst1] at h; exact Or.inl ⟨rfl, h.symm⟩
    | 0, j + 1 => simp [zst1] at h; exact Or.inr ⟨by omega, by simpa using h, by omega⟩
    | 1, 0 =>
      simp [zst1] at h
      by_cases ha : a.category = 2
      · rw [if_pos ha] at h; exact absurd h.symm hv
      · rw [if_neg ha] at h; subst h; exact Or.inr ⟨by omega, by simp, fun q => ha q.2⟩
    | 1, j + 1 =>
      have h' : (zst1 L 0 x)[j]? = some v := by simpa [zst1] using h
      rcases ih 0 x j v h' hv with ⟨h1, h2⟩ | ⟨h1, h2, h3⟩
      · exact Or.inl ⟨by omega, h2⟩
      · exact Or.inr ⟨by omega, by simpa using h2, by omega⟩
    | i + 2, 0 => simp [zst1] at h; exact Or.inr ⟨by omega, by simpa using h, by omega⟩
    | i + 2, j + 1 =>
      have h' : (zst1 L (i + 1) x)[j]? = some v := by simpa [zst1] using h
      rcases ih (i + 1) x j v h' hv with ⟨h1, h2⟩ | ⟨h1, h2, h3⟩
      · exact Or.inl ⟨by omega, h2⟩
      · exact Or.inr ⟨by omega, by simpa using h2, fun q => h3 ⟨by omega, q.2⟩⟩
theorem zst2_get (L : List Value) : ∀ (i : Nat) (x : Value) (j : Nat) (v : Value), (zst2 L i x)[j]? = some v → v ≠ .null → (j = i ∧ v = x) ∨ (j ≠ i ∧ j ≠ i + 1 ∧ L[j]? = some v ∧ ¬ (j + 1 = i ∧ v.category = 2)) := by
  induction L with
  | nil => intro i x j v h; simp [zst2] at h
  | cons a L ih =>
    intro i x j v h hv
    match i, j with
    | 0, 0 => simp [zst2] at h; exact Or.inl ⟨rfl, h.symm⟩
    | 0, 1 =>
      cases L with
      | nil => simp [zst2, zcl0] at h
      | cons c L => simp [zst2, zcl0] at h; exact absurd h.symm hv
    | 0, j + 2 =>
      cases L with
      | nil => simp [zst2, zcl0] at h
      | cons c L => simp [zst2, zcl0] at h; exact Or.inr ⟨by omega, by omega, by simpa using h, by omega⟩
    | 1, 0 =>
      simp [zst2] at h
      by_cases ha : a.category = 2
      · rw [if_pos ha] at h; exact absurd h.symm hv
      · rw [if_neg ha] at h; subst h; exact Or.inr ⟨by omega, by omega, by simp, fun q => ha q.2⟩
    | 1, j + 1 =>
      have h' : (zst2 L 0 x)[j]? = some v := by simpa [zst2] using h
      rcases ih 0 x j v h' hv with ⟨h1, h2⟩ | ⟨h1, h2, h3, h4⟩
      · exact Or.inl ⟨by omega, h2⟩
      · exact Or.inr ⟨by omega, by omega, by simpa using h3, by omega⟩
    | i + 2, 0 => simp [zst2] at h; exact Or.inr ⟨by omega, by omega, by simpa using h, by omega⟩
    | i + 2, j + 1 =>
      have h' : (zst2 L (i + 1) x)[j]? = some v := by simpa [zst2] using h
      rcases ih (i + 1) x j v h' hv with ⟨h1, h2⟩ | ⟨h1, h2, h3, h4⟩
      · exact Or.inl ⟨by omega, h2⟩
      · exact Or.inr ⟨by omega, by omega, by simpa using h3, fun q => h4 ⟨by omega, q.2⟩⟩
def zasc (b : zSg) (L : List Value) : List (Nat × Value) := (List.range L.length).filterMap (fun i => match L[i]? with
  | some v => if v = .null then none else some (i, zrv b v)
  | none => none)
theorem zasc_mem {b : zSg} {L : List Value} {i : Nat} {w : Value} : (i, w) ∈ zasc b L ↔ ∃ v, L[i]? = some v ∧ v ≠ .null ∧ w = zrv b v := by
  unfold zasc
  rw [List.mem_filterMap]
  constructor
  · rintro ⟨k, hk, h⟩
    cases hL : L[k]? with
    | none => rw [hL] at h; cases h
    | some v =>
      rw [hL] at h
      by_cases hv : v = .null
      · simp [hv] at h
      · simp [hv] at h
        obtain ⟨rfl, rfl⟩ := h
        exact ⟨v, hL, hv, rfl⟩
  · rintro ⟨v, hL, hv, rfl⟩
    exact ⟨i, List.mem_range.mpr (List.getElem?_eq_some_iff.mp hL).1, by rw [hL]; simp [hv]⟩
theorem LH.has {b : zSg} {ls : Array Slot} {nL : Nat} {L : List Value} (h : LH b ls nL L) : lv_has ls nL (zasc b L) := by
  refine ⟨h.1, h.2.1, ?_⟩
  rintro ⟨i, w⟩ hq
  obtain ⟨v, hL, hv, rfl⟩ := zasc_mem.mp hq
  exact h.2.2 i v hL hv
theorem zrv_cat (b : zSg) (v : Value) : (zrv b v).category = v.category := by cases v <;> rfl
theorem zrv_null {b : zSg} {v : Value} (h : v ≠ .null) : zrv b v ≠ .null := by cases v <;> simp_all [zrv]
theorem LH.st1 {b : zSg} {ls' : Array Slot} {nL i : Nat} {L : List Value} {x : Value} (h : lv_has ls' nL ((i, zrv b x) :: (zasc b L).filter (fun q => !(q.1 == i) && !(q.1 + 1 == i && q.2.category == 2)))) : LH b ls' nL (zst1 L i x) := by
  refine ⟨h.1, h.2.1, fun j v hj hv => ?_⟩
  rcases zst1_get L i x j v hj hv with ⟨rfl, rfl⟩ | ⟨h1, h2, h3⟩
  · exact h.2.2 (j, zrv b v) List.mem_cons_self
  · refine h.2.2 (j, zrv b v) (List.mem_cons_of_mem _ (List.mem_filter.mpr ⟨zasc_mem.mpr ⟨v, h2, hv, rfl⟩, ?_⟩))
    simp only [zrv_cat]
    simp [h1]
    by_cases h4 : j + 1 = i
    · exact Or.inr fun h5 => h3 ⟨h4, h5⟩
    · exact Or.inl h4
theorem LH.st2 {b : zSg} {ls' : Array Slot} {nL i : Nat} {L : List Value} {x : Value} (h : lv_has ls' nL ((i, zrv b x) :: (zasc b L).filter (fun q => !(q.1 == i) && (!(q.1 == i + 1) && !(q.1 + 1 == i && q.2.category == 2))))) : LH b ls' nL (zst2 L i x) := by
  refine ⟨h.1, h.2.1, fun j v hj hv => ?_⟩
  rcases zst2_get L i x j v hj hv with ⟨rfl, rfl⟩ | ⟨h1, h1', h2, h3⟩
  · exact h.2.2 (j, zrv b v) List.mem_cons_self
  · refine h.2.2 (j, zrv b v) (List.mem_cons_of_mem _ (List.mem_filter.mpr ⟨zasc_mem.mpr ⟨v, h2, hv, rfl⟩, ?_⟩))
    simp only [zrv_cat]
    simp [h1, h1']
    by_cases h4 : j + 1 = i
    · exact Or.inr fun h5 => h3 ⟨h4, h5⟩
    · exact Or.inl h4
/-! decode tables -/
theorem zdk {cc : ByteArray} {T : List (Nat × Instr × Nat)} (h : T.all (fun q => decide (decode cc q.1 = .ok q.2)) = true) (i : Nat) {pc len : Nat} {ins : Instr} (hi : T[i]? = some (pc, ins, len)) : decode cc pc = .ok (ins, len) := by
  have := List.all_eq_true.mp h _ (List.mem_of_getElem? hi)
  exact of_decide_eq_true this
