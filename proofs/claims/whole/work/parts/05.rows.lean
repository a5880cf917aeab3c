/-! one row an instruction, over the memory -/
section
variable {α : Type} {κ : KX} {nL : Nat} {em : α → Option Value × Mem} {n : Nat} {cs : Nat × Nat} {pc q : Nat} {L st : List Value} {M : Mem} {res : Option α} {cc : ByteArray} {own : String} {ret : Option FieldType} {d : Nat}
def zlush (x : Int64) (y : Int32) : Int64 := (x.toUInt64 >>> (y.toInt64.toUInt64 &&& Int64.toUInt64 63)).toInt64
def zrem (x y : Int32) : Int32 := x - x / y * y
def zlrem (x y : Int64) : Int64 := x - x / y * y
theorem x_iadd {x y : Int32} (hC : CX κ cc own nL ret d) (hd : decode cc pc = .ok (.iadd, 1)) (hq : pc + 1 = q) (k : X κ nL em n cs q L (.int (x + y) :: st) M res) : X κ nL em n cs pc L (.int y :: .int x :: st) M res := by
  subst hq
  obtain ⟨p, l, e, R, s, m, args, below, meth, c, dC, dI, b, mc, ms, n'⟩ := κ
  obtain ⟨hx, hb, hml, hown, hts, hr, hlk, hK, hR, hNs⟩ := hC
  intro r hr0 H locs ls h2 hl
  exact lv_iadd hx hb hd (k r hr0 H locs ls h2 hl)
theorem x_isub {x y : Int32} (hC : CX κ cc own nL ret d) (hd : decode cc pc = .ok (.isub, 1)) (hq : pc + 1 = q) (k : X κ nL em n cs q L (.int (x - y) :: st) M res) : X κ nL em n cs pc L (.int y :: .int x :: st) M res := by
  subst hq
  obtain ⟨p, l, e, R, s, m, args, below, meth, c, dC, dI, b, mc, ms, n'⟩ := κ
  obtain ⟨hx, hb, hml, hown, hts, hr, hlk, hK, hR, hNs⟩ := hC
  intro r hr0 H locs ls h2 hl
  exact lv_isub hx hb hd (k r hr0 H locs ls h2 hl)
theorem x_imul {x y : Int32} (hC : CX κ cc own nL ret d) (hd : decode cc pc = .ok (.imul, 1)) (hq : pc + 1 = q) (k : X κ nL em n cs q L (.int (x * y) :: st) M res) : X κ nL em n cs pc L (.int y :: .int x :: st) M res := by
  subst hq
  obtain ⟨p, l, e, R, s, m, args, below, meth, c, dC, dI, b, mc, ms, n'⟩ := κ
  obtain ⟨hx, hb, hml, hown, hts, hr, hlk, hK, hR, hNs⟩ := hC
  intro r hr0 H locs ls h2 hl
  exact lv_imul hx hb hd (k r hr0 H locs ls h2 hl)
theorem x_iand {x y : Int32} (hC : CX κ cc own nL ret d) (hd : decode cc pc = .ok (.iand, 1)) (hq : pc + 1 = q) (k : X κ nL em n cs q L (.int (x &&& y) :: st) M res) : X κ nL em n cs pc L (.int y :: .int x :: st) M res := by
  subst hq
  obtain ⟨p, l, e, R, s, m, args, below, meth, c, dC, dI, b, mc, ms, n'⟩ := κ
  obtain ⟨hx, hb, hml, hown, hts, hr, hlk, hK, hR, hNs⟩ := hC
  intro r hr0 H locs ls h2 hl
  exact lv_iand hx hb hd (k r hr0 H locs ls h2 hl)
theorem x_ior {x y : Int32} (hC : CX κ cc own nL ret d) (hd : decode cc pc = .ok (.ior, 1)) (hq : pc + 1 = q) (k : X κ nL em n cs q L (.int (x ||| y) :: st) M res) : X κ nL em n cs pc L (.int y :: .int x :: st) M res := by
  subst hq
  obtain ⟨p, l, e, R, s, m, args, below, meth, c, dC, dI, b, mc, ms, n'⟩ := κ
  obtain ⟨hx, hb, hml, hown, hts, hr, hlk, hK, hR, hNs⟩ := hC
  intro r hr0 H locs ls h2 hl
  exact lv_ior hx hb hd (k r hr0 H locs ls h2 hl)
theorem x_ixor {x y : Int32} (hC : CX κ cc own nL ret d) (hd : decode cc pc = .ok (.ixor, 1)) (hq : pc + 1 = q) (k : X κ nL em n cs q L (.int (x ^^^ y) :: st) M res) : X κ nL em n cs pc L (.int y :: .int x :: st) M res := by
  subst hq
  obtain ⟨p, l, e, R, s, m, args, below, meth, c, dC, dI, b, mc, ms, n'⟩ := κ
  obtain ⟨hx, hb, hml, hown, hts, hr, hlk, hK, hR, hNs⟩ := hC
  intro r hr0 H locs ls h2 hl
  exact lv_ixor hx hb hd (k r hr0 H locs ls h2 hl)
theorem x_ishl {x y : Int32} (hC : CX κ cc own nL ret d) (hd : decode cc pc = .ok (.ishl, 1)) (hq : pc + 1 = q) (k : X κ nL em n cs q L (.int (x <<< (y &&& 31)) :: st) M res) : X κ nL em n cs pc L (.int y :: .int x :: st) M res := by
  subst hq
  obtain ⟨p, l, e, R, s, m, args, below, meth, c, dC, dI, b, mc, ms, n'⟩ := κ
  obtain ⟨hx, hb, hml, hown, hts, hr, hlk, hK, hR, hNs⟩ := hC
  intro r hr0 H locs ls h2 hl
  exact lv_ishl hx hb hd (k r hr0 H locs ls h2 hl)
theorem x_ishr {x y : Int32} (hC : CX κ cc own nL ret d) (hd : decode cc pc = .ok (.ishr, 1)) (hq : pc + 1 = q) (k : X κ nL em n cs q L (.int (x >>> (y &&& 31)) :: st) M res) : X κ nL em n cs pc L (.int y :: .int x :: st) M res := by
  subst hq
  obtain ⟨p, l, e, R, s, m, args, below, meth, c, dC, dI, b, mc, ms, n'⟩ := κ
  obtain ⟨hx, hb, hml, hown, hts, hr, hlk, hK, hR, hNs⟩ := hC
  intro r hr0 H locs ls h2 hl
  exact lv_ishr hx hb hd (k r hr0 H locs ls h2 hl)
theorem x_ladd {x y : Int64} (hC : CX κ cc own nL ret d) (hd : decode cc pc = .ok (.ladd, 1)) (hq : pc + 1 = q) (k : X κ nL em n cs q L (.long (x + y) :: st) M res) : X κ nL em n cs pc L (.long y :: .long x :: st) M res := by
  subst hq
  obtain ⟨p, l, e, R, s, m, args, below, meth, c, dC, dI, b, mc, ms, n'⟩ := κ
  obtain ⟨hx, hb, hml, hown, hts, hr, hlk, hK, hR, hNs⟩ := hC
  intro r hr0 H locs ls h2 hl
  exact lv_ladd hx hb hd (k r hr0 H locs ls h2 hl)
theorem x_lsub {x y : Int64} (hC : CX κ cc own nL ret d) (hd : decode cc pc = .ok (.lsub, 1)) (hq : pc + 1 = q) (k : X κ nL em n cs q L (.long (x - y) :: st) M res) : X κ nL em n cs pc L (.long y :: .long x :: st) M res := by
  subst hq
  obtain ⟨p, l, e, R, s, m, args, below, meth, c, dC, dI, b, mc, ms, n'⟩ := κ
  obtain ⟨hx, hb, hml, hown, hts, hr, hlk, hK, hR, hNs⟩ := hC
  intro r hr0 H locs ls h2 hl
  exact lv_lsub hx hb hd (k r hr0 H locs ls h2 hl)
theorem x_lmul {x y : Int64} (hC : CX κ cc own nL ret d) (hd : decode cc pc = .ok (.lmul, 1)) (hq : pc + 1 = q) (k : X κ nL em n cs q L (.long (x * y) :: st) M res) : X κ nL em n cs pc L (.long y :: .long x :: st) M res := by
  subst hq
  obtain ⟨p, l, e, R, s, m, args, below, meth, c, dC, dI, b, mc, ms, n'⟩ := κ
  obtain ⟨hx, hb, hml, hown, hts, hr, hlk, hK, hR, hNs⟩ := hC
  intro r hr0 H locs ls h2 hl
  exact lv_lmul hx hb hd (k r hr0 H locs ls h2 hl)
theorem x_land {x y : Int64} (hC : CX κ cc own nL ret d) (hd : decode cc pc = .ok (.land, 1)) (hq : pc + 1 = q) (k : X κ nL em n cs q L (.long (x &&& y) :: st) M res) : X κ nL em n cs pc L (.long y :: .long x :: st) M res := by
  subst hq
  obtain ⟨p, l, e, R, s, m, args, below, meth, c, dC, dI, b, mc, ms, n'⟩ := κ
  obtain ⟨hx, hb, hml, hown, hts, hr, hlk, hK, hR, hNs⟩ := hC
  intro r hr0 H locs ls h2 hl
  exact lv_land hx hb hd (k r hr0 H locs ls h2 hl)
theorem x_lor {x y : Int64} (hC : CX κ cc own nL ret d) (hd : decode cc pc = .ok (.lor, 1)) (hq : pc + 1 = q) (k : X κ nL em n cs q L (.long (x ||| y) :: st) M res) : X κ nL em n cs pc L (.long y :: .long x :: st) M res := by
  subst hq
  obtain ⟨p, l, e, R, s, m, args, below, meth, c, dC, dI, b, mc, ms, n'⟩ := κ
  obtain ⟨hx, hb, hml, hown, hts, hr, hlk, hK, hR, hNs⟩ := hC
  intro r hr0 H locs ls h2 hl
  exact lv_lor hx hb hd (k r hr0 H locs ls h2 hl)
theorem x_lxor {x y : Int64} (hC : CX κ cc own nL ret d) (hd : decode cc pc = .ok (.lxor, 1)) (hq : pc + 1 = q) (k : X κ nL em n cs q L (.long (x ^^^ y) :: st) M res) : X κ nL em n cs pc L (.long y :: .long x :: st) M res := by
  subst hq
  obtain ⟨p, l, e, R, s, m, args, below, meth, c, dC, dI, b, mc, ms, n'⟩ := κ
  obtain ⟨hx, hb, hml, hown, hts, hr, hlk, hK, hR, hNs⟩ := hC
  intro r hr0 H locs ls h2 hl
  exact lv_lxor hx hb hd (k r hr0 H locs ls h2 hl)
theorem x_lshl {x : Int64} {y : Int32} (hC : CX κ cc own nL ret d) (hd : decode cc pc = .ok (.lshl, 1)) (hq : pc + 1 = q) (k : X κ nL em n cs q L (.long (x <<< (y.toInt64 &&& 63)) :: st) M res) : X κ nL em n cs pc L (.int y :: .long x :: st) M res := by
  subst hq
  obtain ⟨p, l, e, R, s, m, args, below, meth, c, dC, dI, b, mc, ms, n'⟩ := κ
  obtain ⟨hx, hb, hml, hown, hts, hr, hlk, hK, hR, hNs⟩ := hC
  intro r hr0 H locs ls h2 hl
  exact lv_lshl hx hb hd rfl (k r hr0 H locs ls h2 hl)
theorem x_lshr {x : Int64} {y : Int32} (hC : CX κ cc own nL ret d) (hd : decode cc pc = .ok (.lshr, 1)) (hq : pc + 1 = q) (k : X κ nL em n cs q L (.long (x >>> (y.toInt64 &&& 63)) :: st) M res) : X κ nL em n cs pc L (.int y :: .long x :: st) M res := by
  subst hq
  obtain ⟨p, l, e, R, s, m, args, below, meth, c, dC, dI, b, mc, ms, n'⟩ := κ
  obtain ⟨hx, hb, hml, hown, hts, hr, hlk, hK, hR, hNs⟩ := hC
  intro r hr0 H locs ls h2 hl
  exact lv_lshr hx hb hd rfl (k r hr0 H locs ls h2 hl)
theorem x_lushr {x : Int64} {y : Int32} (hC : CX κ cc own nL ret d) (hd : decode cc pc = .ok (.lushr, 1)) (hq : pc + 1 = q) (k : X κ nL em n cs q L (.long (zlush x y) :: st) M res) : X κ nL em n cs pc L (.int y :: .long x :: st) M res := by
  subst hq
  obtain ⟨p, l, e, R, s, m, args, below, meth, c, dC, dI, b, mc, ms, n'⟩ := κ
  obtain ⟨hx, hb, hml, hown, hts, hr, hlk, hK, hR, hNs⟩ := hC
  intro r hr0 H locs ls h2 hl
  exact lv_lushr hx hb hd rfl (k r hr0 H locs ls h2 hl)
theorem x_ineg {x : Int32} (hC : CX κ cc own nL ret d) (hd : decode cc pc = .ok (.ineg, 1)) (hq : pc + 1 = q) (k : X κ nL em n cs q L (.int (-x) :: st) M res) : X κ nL em n cs pc L (.int x :: st) M res := by
  subst hq
  obtain ⟨p, l, e, R, s, m, args, below, meth, c, dC, dI, b, mc, ms, n'⟩ := κ
  obtain ⟨hx, hb, hml, hown, hts, hr, hlk, hK, hR, hNs⟩ := hC
  intro r hr0 H locs ls h2 hl
  exact lv_ineg hx hb hd (k r hr0 H locs ls h2 hl)
theorem x_i2l {x : Int32} (hC : CX κ cc own nL ret d) (hd : decode cc pc = .ok (.i2l, 1)) (hq : pc + 1 = q) (k : X κ nL em n cs q L (.long x.toInt64 :: st) M res) : X κ nL em n cs pc L (.int x :: st) M res := by
  subst hq
  obtain ⟨p, l, e, R, s, m, args, below, meth, c, dC, dI, b, mc, ms, n'⟩ := κ
  obtain ⟨hx, hb, hml, hown, hts, hr, hlk, hK, hR, hNs⟩ := hC
  intro r hr0 H locs ls h2 hl
  exact lv_i2l hx hb hd rfl (k r hr0 H locs ls h2 hl)
theorem x_l2i {x : Int64} (hC : CX κ cc own nL ret d) (hd : decode cc pc = .ok (.l2i, 1)) (hq : pc + 1 = q) (k : X κ nL em n cs q L (.int x.toInt32 :: st) M res) : X κ nL em n cs pc L (.long x :: st) M res := by
  subst hq
  obtain ⟨p, l, e, R, s, m, args, below, meth, c, dC, dI, b, mc, ms, n'⟩ := κ
  obtain ⟨hx, hb, hml, hown, hts, hr, hlk, hK, hR, hNs⟩ := hC
  intro r hr0 H locs ls h2 hl
  exact lv_l2i hx hb hd rfl (k r hr0 H locs ls h2 hl)
theorem x_lcmp {x y : Int64} (hC : CX κ cc own nL ret d) (hd : decode cc pc = .ok (.lcmp, 1)) (hq : pc + 1 = q) (k : X κ nL em n cs q L (.int (lg_cmp x y) :: st) M res) : X κ nL em n cs pc L (.long y :: .long x :: st) M res := by
  subst hq
  obtain ⟨p, l, e, R, s, m, args, below, meth, c, dC, dI, b, mc, ms, n'⟩ := κ
  obtain ⟨hx, hb, hml, hown, hts, hr, hlk, hK, hR, hNs⟩ := hC
  intro r hr0 H locs ls h2 hl
  exact W.lcmp hx hb hd (k r hr0 H locs ls h2 hl)
theorem x_idiv {x y : Int32} (hne : ¬ y = 0) (hC : CX κ cc own nL ret d) (hd : decode cc pc = .ok (.idiv, 1)) (hq : pc + 1 = q) (k : X κ nL em n cs q L (.int (x / y) :: st) M res) : X κ nL em n cs pc L (.int y :: .int x :: st) M res := by
  subst hq
  obtain ⟨p, l, e, R, s, m, args, below, meth, c, dC, dI, b, mc, ms, n'⟩ := κ
  obtain ⟨hx, hb, hml, hown, hts, hr, hlk, hK, hR, hNs⟩ := hC
  intro r hr0 H locs ls h2 hl
  exact lv_idiv hx hb hd hne (k r hr0 H locs ls h2 hl)
theorem x_idivG {x y : Int32} (hC : CX κ cc own nL ret d) (hd : decode cc pc = .ok (.idiv, 1)) (hq : pc + 1 = q) (k : X κ nL em n cs q L (.int (x / y) :: st) M res) : X κ nL em n cs pc L (.int y :: .int x :: st) M (if y = 0 then none else res) := by
  by_cases h : y = 0
  · rw [if_pos h]; intro r hr; cases hr
  · rw [if_neg h]; exact x_idiv h hC hd hq k
theorem x_irem {x y : Int32} (hne : ¬ y = 0) (hC : CX κ cc own nL ret d) (hd : decode cc pc = .ok (.irem, 1)) (hq : pc + 1 = q) (k : X κ nL em n cs q L (.int (zrem x y) :: st) M res) : X κ nL em n cs pc L (.int y :: .int x :: st) M res := by
  subst hq
  obtain ⟨p, l, e, R, s, m, args, below, meth, c, dC, dI, b, mc, ms, n'⟩ := κ
  obtain ⟨hx, hb, hml, hown, hts, hr, hlk, hK, hR, hNs⟩ := hC
  intro r hr0 H locs ls h2 hl
  exact lv_irem hx hb hd hne (k r hr0 H locs ls h2 hl)
theorem x_iremG {x y : Int32} (hC : CX κ cc own nL ret d) (hd : decode cc pc = .ok (.irem, 1)) (hq : pc + 1 = q) (k : X κ nL em n cs q L (.int (zrem x y) :: st) M res) : X κ nL em n cs pc L (.int y :: .int x :: st) M (if y = 0 then none else res) := by
  by_cases h : y = 0
  · rw [if_pos h]; intro r hr; cases hr
  · rw [if_neg h]; exact x_irem h hC hd hq k
theorem x_ldiv {x y : Int64} (hne : ¬ y = 0) (hC : CX κ cc own nL ret d) (hd : decode cc pc = .ok (.ldiv, 1)) (hq : pc + 1 = q) (k : X κ nL em n cs q L (.long (x / y) :: st) M res) : X κ nL em n cs pc L (.long y :: .long x :: st) M res := by
  subst hq
  obtain ⟨p, l, e, R, s, m, args, below, meth, c, dC, dI, b, mc, ms, n'⟩ := κ
  obtain ⟨hx, hb, hml, hown, hts, hr, hlk, hK, hR, hNs⟩ := hC
  intro r hr0 H locs ls h2 hl
  exact lv_ldiv hx hb hd hne (k r hr0 H locs ls h2 hl)
theorem x_ldivG {x y : Int64} (hC : CX κ cc own nL ret d) (hd : decode cc pc = .ok (.ldiv, 1)) (hq : pc + 1 = q) (k : X κ nL em n cs q L (.long (x / y) :: st) M res) : X κ nL em n cs pc L (.long y :: .long x :: st) M (if y = 0 then none else res) := by
  by_cases h : y = 0
  · rw [if_pos h]; intro r hr; cases hr
  · rw [if_neg h]; exact x_ldiv h hC hd hq k
theorem x_lrem {x y : Int64} (hne : ¬ y = 0) (hC : CX κ cc own nL ret d) (hd : decode cc pc = .ok (.lrem, 1)) (hq : pc + 1 = q) (k : X κ nL em n cs q L (.long (zlrem x y) :: st) M res) : X κ nL em n cs pc L (.long y :: .long x :: st) M res := by
  subst hq
  obtain ⟨p, l, e, R, s, m, args, below, meth, c, dC, dI, b, mc, ms, n'⟩ := κ
  obtain ⟨hx, hb, hml, hown, hts, hr, hlk, hK, hR, hNs⟩ := hC
  intro r hr0 H locs ls h2 hl
  exact lv_lrem hx hb hd hne (k r hr0 H locs ls h2 hl)
theorem x_lremG {x y : Int64} (hC : CX κ cc own nL ret d) (hd : decode cc pc = .ok (.lrem, 1)) (hq : pc + 1 = q) (k : X κ nL em n cs q L (.long (zlrem x y) :: st) M res) : X κ nL em n cs pc L (.long y :: .long x :: st) M (if y = 0 then none else res) := by
  by_cases h : y = 0
  · rw [if_pos h]; intro r hr; cases hr
  · rw [if_neg h]; exact x_lrem h hC hd hq k
theorem x_iconst {i : Int} {v : Int32} (hv : Int32.ofInt i = v) (hC : CX κ cc own nL ret d) (hd : decode cc pc = .ok (.iconst i, 1)) (hq : pc + 1 = q) (k : X κ nL em n cs q L (.int v :: st) M res) : X κ nL em n cs pc L st M res := by
  subst hq
  obtain ⟨p, l, e, R, s, m, args, below, meth, c, dC, dI, b, mc, ms, n'⟩ := κ
  obtain ⟨hx, hb, hml, hown, hts, hr, hlk, hK, hR, hNs⟩ := hC
  intro r hr0 H locs ls h2 hl
  exact lv_iconst hx hb hd hv (k r hr0 H locs ls h2 hl)
theorem x_bipush {i : Int} {v : Int32} (hv : (Int8.ofInt i).toInt32 = v) (hC : CX κ cc own nL ret d) (hd : decode cc pc = .ok (.bipush i, 2)) (hq : pc + 2 = q) (k : X κ nL em n cs q L (.int v :: st) M res) : X κ nL em n cs pc L st M res := by
  subst hq
  obtain ⟨p, l, e, R, s, m, args, below, meth, c, dC, dI, b, mc, ms, n'⟩ := κ
  obtain ⟨hx, hb, hml, hown, hts, hr, hlk, hK, hR, hNs⟩ := hC
  intro r hr0 H locs ls h2 hl
  exact lv_bipush hx hb hd hv (k r hr0 H locs ls h2 hl)
theorem x_sipush {i : Int} {v : Int32} (hv : (Int16.ofInt i).toInt32 = v) (hC : CX κ cc own nL ret d) (hd : decode cc pc = .ok (.sipush i, 3)) (hq : pc + 3 = q) (k : X κ nL em n cs q L (.int v :: st) M res) : X κ nL em n cs pc L st M res := by
  subst hq
  obtain ⟨p, l, e, R, s, m, args, below, meth, c, dC, dI, b, mc, ms, n'⟩ := κ
  obtain ⟨hx, hb, hml, hown, hts, hr, hlk, hK, hR, hNs⟩ := hC
  intro r hr0 H locs ls h2 hl
  exact lv_sipush hx hb hd hv (k r hr0 H locs ls h2 hl)
theorem x_lconst {i : Fin 2} {v : Int64} (hv : Int64.ofNat (i : Nat) = v) (hC : CX κ cc own nL ret d) (hd : decode cc pc = .ok (.lconst i, 1)) (hq : pc + 1 = q) (k : X κ nL em n cs q L (.long v :: st) M res) : X κ nL em n cs pc L st M res := by
  subst hq
  obtain ⟨p, l, e, R, s, m, args, below, meth, c, dC, dI, b, mc, ms, n'⟩ := κ
  obtain ⟨hx, hb, hml, hown, hts, hr, hlk, hK, hR, hNs⟩ := hC
  intro r hr0 H locs ls h2 hl
  exact lv_lconst hx hb hd hv (k r hr0 H locs ls h2 hl)
theorem x_ldc {i : Nat} {v : Int32} (hw : Cond.constant own i v ∈ zTb) (hC : CX κ cc own nL ret d) (hd : decode cc pc = .ok (.ldc i, 2)) (hq : pc + 2 = q) (k : X κ nL em n cs q L (.int v :: st) M res) : X κ nL em n cs pc L st M res := by
  subst hq
  obtain ⟨p, l, e, R, s, m, args, below, meth, c, dC, dI, b, mc, ms, n'⟩ := κ
  obtain ⟨hx, hb, hml, hown, hts, hr, hlk, hK, hR, hNs⟩ := hC
  intro r hr0 H locs ls h2 hl
  exact lv_ldc hx hb hown (hts _ hw) hd (k r hr0 H locs ls h2 hl)
theorem x_ldcw {i : Nat} {v : Int32} (hw : Cond.constant own i v ∈ zTb) (hC : CX κ cc own nL ret d) (hd : decode cc pc = .ok (.ldc_w i, 3)) (hq : pc + 3 = q) (k : X κ nL em n cs q L (.int v :: st) M res) : X κ nL em n cs pc L st M res := by
  subst hq
  obtain ⟨p, l, e, R, s, m, args, below, meth, c, dC, dI, b, mc, ms, n'⟩ := κ
  obtain ⟨hx, hb, hml, hown, hts, hr, hlk, hK, hR, hNs⟩ := hC
  intro r hr0 H locs ls h2 hl
  exact lv_ldcw hx hb hown (hts _ hw) hd (k r hr0 H locs ls h2 hl)
theorem x_ldc2 {i : Nat} {v : Int64} (hw : Cond.constantLong own i v ∈ zTb) (hC : CX κ cc own nL ret d) (hd : decode cc pc = .ok (.ldc2_w i, 3)) (hq : pc + 3 = q) (k : X κ nL em n cs q L (.long v :: st) M res) : X κ nL em n cs pc L st M res := by
  subst hq
  obtain ⟨p, l, e, R, s, m, args, below, meth, c, dC, dI, b, mc, ms, n'⟩ := κ
  obtain ⟨hx, hb, hml, hown, hts, hr, hlk, hK, hR, hNs⟩ := hC
  intro r hr0 H locs ls h2 hl
  exact lv_ldc2 hx hb hown (hts _ hw) hd (k r hr0 H locs ls h2 hl)
theorem x_iload_n {i : Fin 4} {x : Int32} (hL : L[(i : Nat)]? = some (.int x)) (hC : CX κ cc own nL ret d) (hd : decode cc pc = .ok (.iload_n i, 1)) (hq : pc + 1 = q) (k : X κ nL em n cs q L (.int x :: st) M res) : X κ nL em n cs pc L st M res := by
  subst hq
  obtain ⟨p, l, e, R, s, m, args, below, meth, c, dC, dI, b, mc, ms, n'⟩ := κ
  obtain ⟨hx, hb, hml, hown, hts, hr, hlk, hK, hR, hNs⟩ := hC
  intro r hr0 H locs ls h2 hl
  exact lv_iload_n hx hb hd rfl (hl.2.2 _ _ hL (fun h => by cases h)) (k r hr0 H locs ls h2 hl)
theorem x_iload {i : Nat} {x : Int32} (hL : L[i]? = some (.int x)) (hC : CX κ cc own nL ret d) (hd : decode cc pc = .ok (.iload i, 2)) (hq : pc + 2 = q) (k : X κ nL em n cs q L (.int x :: st) M res) : X κ nL em n cs pc L st M res := by
  subst hq
  obtain ⟨p, l, e, R, s, m, args, below, meth, c, dC, dI, b, mc, ms, n'⟩ := κ
  obtain ⟨hx, hb, hml, hown, hts, hr, hlk, hK, hR, hNs⟩ := hC
  intro r hr0 H locs ls h2 hl
  exact lv_iload hx hb hd (hl.2.2 _ _ hL (fun h => by cases h)) (k r hr0 H locs ls h2 hl)
theorem x_istore {i : Nat} {L' : List Value} {x : Int32} (hn : i < nL) (hL : zst1 L i (.int x) = L') (hC : CX κ cc own nL ret d) (hd : decode cc pc = .ok (.istore i, 2)) (hq : pc + 2 = q) (k : X κ nL em n cs q L' st M res) : X κ nL em n cs pc L (.int x :: st) M res := by
  subst hq
  obtain ⟨p, l, e, R, s, m, args, below, meth, c, dC, dI, b, mc, ms, n'⟩ := κ
  obtain ⟨hx, hb, hml, hown, hts, hr, hlk, hK, hR, hNs⟩ := hC
  intro r hr0 H locs ls h2 hl
  subst hL
  exact lv_istore hx hb hd hl.has hn rfl (fun ls2 hl2 => k r hr0 H locs ls2 h2 (LH.st1 hl2))
theorem x_istore_n {i : Fin 4} {L' : List Value} {x : Int32} (hn : (i : Nat) < nL) (hL : zst1 L (i : Nat) (.int x) = L') (hC : CX κ cc own nL ret d) (hd : decode cc pc = .ok (.istore_n i, 1)) (hq : pc + 1 = q) (k : X κ nL em n cs q L' st M res) : X κ nL em n cs pc L (.int x :: st) M res := by
  subst hq
  obtain ⟨p, l, e, R, s, m, args, below, meth, c, dC, dI, b, mc, ms, n'⟩ := κ
  obtain ⟨hx, hb, hml, hown, hts, hr, hlk, hK, hR, hNs⟩ := hC
  intro r hr0 H locs ls h2 hl
  subst hL
  exact lv_istore_n hx hb hd rfl hl.has hn rfl (fun ls2 hl2 => k r hr0 H locs ls2 h2 (LH.st1 hl2))
theorem x_lload_n {i : Fin 4} {x : Int64} (hL : L[(i : Nat)]? = some (.long x)) (hC : CX κ cc own nL ret d) (hd : decode cc pc = .ok (.lload_n i, 1)) (hq : pc + 1 = q) (k : X κ nL em n cs q L (.long x :: st) M res) : X κ nL em n cs pc L st M res := by
  subst hq
  obtain ⟨p, l, e, R, s, m, args, below, meth, c, dC, dI, b, mc, ms, n'⟩ := κ
  obtain ⟨hx, hb, hml, hown, hts, hr, hlk, hK, hR, hNs⟩ := hC
  intro r hr0 H locs ls h2 hl
  exact lv_lload_n hx hb hd rfl (hl.2.2 _ _ hL (fun h => by cases h)) (k r hr0 H locs ls h2 hl)
theorem x_lload {i : Nat} {x : Int64} (hL : L[i]? = some (.long x)) (hC : CX κ cc own nL ret d) (hd : decode cc pc = .ok (.lload i, 2)) (hq : pc + 2 = q) (k : X κ nL em n cs q L (.long x :: st) M res) : X κ nL em n cs pc L st M res := by
  subst hq
  obtain ⟨p, l, e, R, s, m, args, below, meth, c, dC, dI, b, mc, ms, n'⟩ := κ
  obtain ⟨hx, hb, hml, hown, hts, hr, hlk, hK, hR, hNs⟩ := hC
  intro r hr0 H locs ls h2 hl
  exact lv_lload hx hb hd (hl.2.2 _ _ hL (fun h => by cases h)) (k r hr0 H locs ls h2 hl)
theorem x_lstore {i : Nat} {L' : List Value} {x : Int64} (hn : i + 1 < nL) (hL : zst2 L i (.long x) = L') (hC : CX κ cc own nL ret d) (hd : decode cc pc = .ok (.lstore i, 2)) (hq : pc + 2 = q) (k : X κ nL em n cs q L' st M res) : X κ nL em n cs pc L (.long x :: st) M res := by
  subst hq
  obtain ⟨p, l, e, R, s, m, args, below, meth, c, dC, dI, b, mc, ms, n'⟩ := κ
  obtain ⟨hx, hb, hml, hown, hts, hr, hlk, hK, hR, hNs⟩ := hC
  intro r hr0 H locs ls h2 hl
  subst hL
  exact lv_lstore hx hb hd hl.has hn rfl (fun ls2 hl2 => k r hr0 H locs ls2 h2 (LH.st2 hl2))
theorem x_lstore_n {i : Fin 4} {L' : List Value} {x : Int64} (hn : (i : Nat) + 1 < nL) (hL : zst2 L (i : Nat) (.long x) = L') (hC : CX κ cc own nL ret d) (hd : decode cc pc = .ok (.lstore_n i, 1)) (hq : pc + 1 = q) (k : X κ nL em n cs q L' st M res) : X κ nL em n cs pc L (.long x :: st) M res := by
  subst hq
  obtain ⟨p, l, e, R, s, m, args, below, meth, c, dC, dI, b, mc, ms, n'⟩ := κ
  obtain ⟨hx, hb, hml, hown, hts, hr, hlk, hK, hR, hNs⟩ := hC
  intro r hr0 H locs ls h2 hl
  subst hL
  exact lv_lstore_n hx hb hd rfl hl.has hn rfl (fun ls2 hl2 => k r hr0 H locs ls2 h2 (LH.st2 hl2))
theorem x_aload_n {i : Fin 4} {x : Nat} (hL : L[(i : Nat)]? = some (.ref x)) (hC : CX κ cc own nL ret d) (hd : decode cc pc = .ok (.aload_n i, 1)) (hq : pc + 1 = q) (k : X κ nL em n cs q L (.ref x :: st) M res) : X κ nL em n cs pc L st M res := by
  subst hq
  obtain ⟨p, l, e, R, s, m, args, below, meth, c, dC, dI, b, mc, ms, n'⟩ := κ
  obtain ⟨hx, hb, hml, hown, hts, hr, hlk, hK, hR, hNs⟩ := hC
  intro r hr0 H locs ls h2 hl
  exact lv_aload_n hx hb hd rfl (hl.2.2 _ _ hL (fun h => by cases h)) (k r hr0 H locs ls h2 hl)
theorem x_aload {i : Nat} {x : Nat} (hL : L[i]? = some (.ref x)) (hC : CX κ cc own nL ret d) (hd : decode cc pc = .ok (.aload i, 2)) (hq : pc + 2 = q) (k : X κ nL em n cs q L (.ref x :: st) M res) : X κ nL em n cs pc L st M res := by
  subst hq
  obtain ⟨p, l, e, R, s, m, args, below, meth, c, dC, dI, b, mc, ms, n'⟩ := κ
  obtain ⟨hx, hb, hml, hown, hts, hr, hlk, hK, hR, hNs⟩ := hC
  intro r hr0 H locs ls h2 hl
  exact lv_aload hx hb hd (hl.2.2 _ _ hL (fun h => by cases h)) (k r hr0 H locs ls h2 hl)
theorem x_astore {i : Nat} {L' : List Value} {x : Nat} (hn : i < nL) (hL : zst1 L i (.ref x) = L') (hC : CX κ cc own nL ret d) (hd : decode cc pc = .ok (.astore i, 2)) (hq : pc + 2 = q) (k : X κ nL em n cs q L' st M res) : X κ nL em n cs pc L (.ref x :: st) M res := by
  subst hq
  obtain ⟨p, l, e, R, s, m, args, below, meth, c, dC, dI, b, mc, ms, n'⟩ := κ
  obtain ⟨hx, hb, hml, hown, hts, hr, hlk, hK, hR, hNs⟩ := hC
  intro r hr0 H locs ls h2 hl
  subst hL
  exact lv_astore hx hb hd hl.has hn rfl (fun ls2 hl2 => k r hr0 H locs ls2 h2 (LH.st1 hl2))
theorem x_astore_n {i : Fin 4} {L' : List Value} {x : Nat} (hn : (i : Nat) < nL) (hL : zst1 L (i : Nat) (.ref x) = L') (hC : CX κ cc own nL ret d) (hd : decode cc pc = .ok (.astore_n i, 1)) (hq : pc + 1 = q) (k : X κ nL em n cs q L' st M res) : X κ nL em n cs pc L (.ref x :: st) M res := by
  subst hq
  obtain ⟨p, l, e, R, s, m, args, below, meth, c, dC, dI, b, mc, ms, n'⟩ := κ
  obtain ⟨hx, hb, hml, hown, hts, hr, hlk, hK, hR, hNs⟩ := hC
  intro r hr0 H locs ls h2 hl
  subst hL
  exact lv_astore_n hx hb hd rfl hl.has hn rfl (fun ls2 hl2 => k r hr0 H locs ls2 h2 (LH.st1 hl2))
theorem x_iinc {i : Nat} {z : Int} {L' : List Value} {x v : Int32} (hv : Int32.ofInt z = v) (hi : L[i]? = some (.int x)) (hn : i < nL) (hL : zst1 L i (.int (x + v)) = L') (hC : CX κ cc own nL ret d) (hd : decode cc pc = .ok (.iinc i z, 3)) (hq : pc + 3 = q) (k : X κ nL em n cs q L' st M res) : X κ nL em n cs pc L st M res := by
  subst hq; subst hL; subst hv
  obtain ⟨p, l, e, R, s, m, args, below, meth, c, dC, dI, b, mc, ms, n'⟩ := κ
  obtain ⟨hx, hb, hml, hown, hts, hr, hlk, hK, hR, hNs⟩ := hC
  intro r hr0 H locs ls h2 hl
  obtain ⟨k0, hk0⟩ := List.getElem?_of_mem (zasc_mem (b := b).mpr ⟨_, hi, (fun h => by cases h), rfl⟩)
  exact lv_iinc hx hb hd hl.has hk0 rfl hn rfl (fun ls2 hl2 => k r hr0 H locs ls2 h2 (LH.st1 (x := .int (x + Int32.ofInt z)) hl2))
theorem x_dup {v : Value} (hv : v.category = 1) (hC : CX κ cc own nL ret d) (hd : decode cc pc = .ok (.dup, 1)) (hq : pc + 1 = q) (k : X κ nL em n cs q L (v :: v :: st) M res) : X κ nL em n cs pc L (v :: st) M res := by
  subst hq
  obtain ⟨p, l, e, R, s, m, args, below, meth, c, dC, dI, b, mc, ms, n'⟩ := κ
  obtain ⟨hx, hb, hml, hown, hts, hr, hlk, hK, hR, hNs⟩ := hC
  intro r hr0 H locs ls h2 hl
  exact lv_dup hx hb hd ((zrv_cat b v).trans hv) (k r hr0 H locs ls h2 hl)
theorem x_pop {v : Value} (hv : v.category = 1) (hC : CX κ cc own nL ret d) (hd : decode cc pc = .ok (.pop, 1)) (hq : pc + 1 = q) (k : X κ nL em n cs q L st M res) : X κ nL em n cs pc L (v :: st) M res := by
  subst hq
  obtain ⟨p, l, e, R, s, m, args, below, meth, c, dC, dI, b, mc, ms, n'⟩ := κ
  obtain ⟨hx, hb, hml, hown, hts, hr, hlk, hK, hR, hNs⟩ := hC
  intro r hr0 H locs ls h2 hl
  exact lv_pop hx hb hd ((zrv_cat b v).trans hv) (k r hr0 H locs ls h2 hl)
theorem x_dup2 {v w : Value} (hv : v.category = 1) (hw : w.category = 1) (hC : CX κ cc own nL ret d) (hd : decode cc pc = .ok (.dup2, 1)) (hq : pc + 1 = q) (k : X κ nL em n cs q L (v :: w :: v :: w :: st) M res) : X κ nL em n cs pc L (v :: w :: st) M res := by
  subst hq
  obtain ⟨p, l, e, R, s, m, args, below, meth, c, dC, dI, b, mc, ms, n'⟩ := κ
  obtain ⟨hx, hb, hml, hown, hts, hr, hlk, hK, hR, hNs⟩ := hC
  intro r hr0 H locs ls h2 hl
  exact lv_dup2_11 hx hb hd ((zrv_cat b v).trans hv) ((zrv_cat b w).trans hw) (k r hr0 H locs ls h2 hl)
theorem x_dup2L {v : Value} (hv : v.category = 2) (hC : CX κ cc own nL ret d) (hd : decode cc pc = .ok (.dup2, 1)) (hq : pc + 1 = q) (k : X κ nL em n cs q L (v :: v :: st) M res) : X κ nL em n cs pc L (v :: st) M res := by
  subst hq
  obtain ⟨p, l, e, R, s, m, args, below, meth, c, dC, dI, b, mc, ms, n'⟩ := κ
  obtain ⟨hx, hb, hml, hown, hts, hr, hlk, hK, hR, hNs⟩ := hC
  intro r hr0 H locs ls h2 hl
  exact lv_dup2_2 hx hb hd ((zrv_cat b v).trans hv) (k r hr0 H locs ls h2 hl)
theorem x_icmp_eq {x y : Int32} {off : Int} {tgt : Nat} {A B : Option α} (hC : CX κ cc own nL ret d) (hd : decode cc pc = .ok (.if_icmp .eq off, 3)) (hq : pc + 3 = q) (ht : (pc : Int) + off = (tgt : Int)) (kt : x = y → X κ nL em n cs tgt L st M A) (kf : ¬ (x = y) → X κ nL em n cs q L st M B) : X κ nL em n cs pc L (.int y :: .int x :: st) M (if x = y then A else B) := by
  subst hq
  by_cases h : x = y
  · rw [if_pos h]
    have k := kt h
    obtain ⟨p, l, e, R, s, m, args, below, meth, c, dC, dI, b, mc, ms, n'⟩ := κ
    obtain ⟨hx, hb, hml, hown, hts, hr, hlk, hK, hR, hNs⟩ := hC
    intro r hr0 H locs ls h2 hl
    exact lv_icmp_eq hx hb hd ht (fun _ => (k r hr0 H locs ls h2 hl)) (fun h3 => absurd h h3)
  · rw [if_neg h]
    have k := kf h
    obtain ⟨p, l, e, R, s, m, args, below, meth, c, dC, dI, b, mc, ms, n'⟩ := κ
    obtain ⟨hx, hb, hml, hown, hts, hr, hlk, hK, hR, hNs⟩ := hC
    intro r hr0 H locs ls h2 hl
    exact lv_icmp_eq hx hb hd ht (fun h3 => absurd h3 h) (fun _ => (k r hr0 H locs ls h2 hl))
theorem x_icmp_ne {x y : Int32} {off : Int} {tgt : Nat} {A B : Option α} (hC : CX κ cc own nL ret d) (hd : decode cc pc = .ok (.if_icmp .ne off, 3)) (hq : pc + 3 = q) (ht : (pc : Int) + off = (tgt : Int)) (kt : ¬ (x = y) → X κ nL em n cs tgt L st M B) (kf : x = y → X κ nL em n cs q L st M A) : X κ nL em n cs pc L (.int y :: .int x :: st) M (if x = y then A else B) := by
  subst hq
  by_cases h : x = y
  · rw [if_pos h]
    have k := kf h
    obtain ⟨p, l, e, R, s, m, args, below, meth, c, dC, dI, b, mc, ms, n'⟩ := κ
    obtain ⟨hx, hb, hml, hown, hts, hr, hlk, hK, hR, hNs⟩ := hC
    intro r hr0 H locs ls h2 hl
    exact lv_icmp_ne hx hb hd ht (fun h3 => absurd h h3) (fun _ => (k r hr0 H locs ls h2 hl))
  · rw [if_neg h]
    have k := kt h
    obtain ⟨p, l, e, R, s, m, args, below, meth, c, dC, dI, b, mc, ms, n'⟩ := κ
    obtain ⟨hx, hb, hml, hown, hts, hr, hlk, hK, hR, hNs⟩ := hC
    intro r hr0 H locs ls h2 hl
    exact lv_icmp_ne hx hb hd ht (fun _ => (k r hr0 H locs ls h2 hl)) (fun h3 => absurd h3 h)
theorem x_icmp_lt {x y : Int32} {off : Int} {tgt : Nat} {A B : Option α} (hC : CX κ cc own nL ret d) (hd : decode cc pc = .ok (.if_icmp .lt off, 3)) (hq : pc + 3 = q) (ht : (pc : Int) + off = (tgt : Int)) (kt : x < y → X κ nL em n cs tgt L st M A) (kf : ¬ (x < y) → X κ nL em n cs q L st M B) : X κ nL em n cs pc L (.int y :: .int x :: st) M (if x < y then A else B) := by
  subst hq
  by_cases h : x < y
  · rw [if_pos h]
    have k := kt h
    obtain ⟨p, l, e, R, s, m, args, below, meth, c, dC, dI, b, mc, ms, n'⟩ := κ
    obtain ⟨hx, hb, hml, hown, hts, hr, hlk, hK, hR, hNs⟩ := hC
    intro r hr0 H locs ls h2 hl
    exact lv_icmp_lt hx hb hd ht (fun _ => (k r hr0 H locs ls h2 hl)) (fun h3 => absurd h h3)
  · rw [if_neg h]
    have k := kf h
    obtain ⟨p, l, e, R, s, m, args, below, meth, c, dC, dI, b, mc, ms, n'⟩ := κ
    obtain ⟨hx, hb, hml, hown, hts, hr, hlk, hK, hR, hNs⟩ := hC
    intro r hr0 H locs ls h2 hl
    exact lv_icmp_lt hx hb hd ht (fun h3 => absurd h3 h) (fun _ => (k r hr0 H locs ls h2 hl))
theorem x_icmp_ge {x y : Int32} {off : Int} {tgt : Nat} {A B : Option α} (hC : CX κ cc own nL ret d) (hd : decode cc pc = .ok (.if_icmp .ge off, 3)) (hq : pc + 3 = q) (ht : (pc : Int) + off = (tgt : Int)) (kt : y ≤ x → X κ nL em n cs tgt L st M A) (kf : ¬ (y ≤ x) → X κ nL em n cs q L st M B) : X κ nL em n cs pc L (.int y :: .int x :: st) M (if y ≤ x then A else B) := by
  subst hq
  by_cases h : y ≤ x
  · rw [if_pos h]
    have k := kt h
    obtain ⟨p, l, e, R, s, m, args, below, meth, c, dC, dI, b, mc, ms, n'⟩ := κ
    obtain ⟨hx, hb, hml, hown, hts, hr, hlk, hK, hR, hNs⟩ := hC
    intro r hr0 H locs ls h2 hl
    exact lv_icmp_ge hx hb hd ht (fun _ => (k r hr0 H locs ls h2 hl)) (fun h3 => absurd h h3)
  · rw [if_neg h]
    have k := kf h
    obtain ⟨p, l, e, R, s, m, args, below, meth, c, dC, dI, b, mc, ms, n'⟩ := κ
    obtain ⟨hx, hb, hml, hown, hts, hr, hlk, hK, hR, hNs⟩ := hC
    intro r hr0 H locs ls h2 hl
    exact lv_icmp_ge hx hb hd ht (fun h3 => absurd h3 h) (fun _ => (k r hr0 H locs ls h2 hl))
theorem x_icmp_gt {x y : Int32} {off : Int} {tgt : Nat} {A B : Option α} (hC : CX κ cc own nL ret d) (hd : decode cc pc = .ok (.if_icmp .gt off, 3)) (hq : pc + 3 = q) (ht : (pc : Int) + off = (tgt : Int)) (kt : y < x → X κ nL em n cs tgt L st M A) (kf : ¬ (y < x) → X κ nL em n cs q L st M B) : X κ nL em n cs pc L (.int y :: .int x :: st) M (if y < x then A else B) := by
  subst hq
  by_cases h : y < x
  · rw [if_pos h]
    have k := kt h
    obtain ⟨p, l, e, R, s, m, args, below, meth, c, dC, dI, b, mc, ms, n'⟩ := κ
    obtain ⟨hx, hb, hml, hown, hts, hr, hlk, hK, hR, hNs⟩ := hC
    intro r hr0 H locs ls h2 hl
    exact lv_icmp_gt hx hb hd ht (fun _ => (k r hr0 H locs ls h2 hl)) (fun h3 => absurd h h3)
  · rw [if_neg h]
    have k := kf h
    obtain ⟨p, l, e, R, s, m, args, below, meth, c, dC, dI, b, mc, ms, n'⟩ := κ
    obtain ⟨hx, hb, hml, hown, hts, hr, hlk, hK, hR, hNs⟩ := hC
    intro r hr0 H locs ls h2 hl
    exact lv_icmp_gt hx hb hd ht (fun h3 => absurd h3 h) (fun _ => (k r hr0 H locs ls h2 hl))
theorem x_icmp_le {x y : Int32} {off : Int} {tgt : Nat} {A B : Option α} (hC : CX κ cc own nL ret d) (hd : decode cc pc = .ok (.if_icmp .le off, 3)) (hq : pc + 3 = q) (ht : (pc : Int) + off = (tgt : Int)) (kt : x ≤ y → X κ nL em n cs tgt L st M A) (kf : ¬ (x ≤ y) → X κ nL em n cs q L st M B) : X κ nL em n cs pc L (.int y :: .int x :: st) M (if x ≤ y then A else B) := by
  subst hq
  by_cases h : x ≤ y
  · rw [if_pos h]
    have k := kt h
    obtain ⟨p, l, e, R, s, m, args, below, meth, c, dC, dI, b, mc, ms, n'⟩ := κ
    obtain ⟨hx, hb, hml, hown, hts, hr, hlk, hK, hR, hNs⟩ := hC
    intro r hr0 H locs ls h2 hl
    exact lv_icmp_le hx hb hd ht (fun _ => (k r hr0 H locs ls h2 hl)) (fun h3 => absurd h h3)
  · rw [if_neg h]
    have k := kf h
    obtain ⟨p, l, e, R, s, m, args, below, meth, c, dC, dI, b, mc, ms, n'⟩ := κ
    obtain ⟨hx, hb, hml, hown, hts, hr, hlk, hK, hR, hNs⟩ := hC
    intro r hr0 H locs ls h2 hl
    exact lv_icmp_le hx hb hd ht (fun h3 => absurd h3 h) (fun _ => (k r hr0 H locs ls h2 hl))
theorem x_if_eq {x : Int32} {off : Int} {tgt : Nat} {A B : Option α} (hC : CX κ cc own nL ret d) (hd : decode cc pc = .ok (.ifCond .eq off, 3)) (hq : pc + 3 = q) (ht : (pc : Int) + off = (tgt : Int)) (kt : x = 0 → X κ nL em n cs tgt L st M A) (kf : ¬ (x = 0) → X κ nL em n cs q L st M B) : X κ nL em n cs pc L (.int x :: st) M (if x = 0 then A else B) := by
  subst hq
  by_cases h : x = 0
  · rw [if_pos h]
    have k := kt h
    obtain ⟨p, l, e, R, s, m, args, below, meth, c, dC, dI, b, mc, ms, n'⟩ := κ
    obtain ⟨hx, hb, hml, hown, hts, hr, hlk, hK, hR, hNs⟩ := hC
    intro r hr0 H locs ls h2 hl
    exact lv_if_eq hx hb hd ht (fun _ => (k r hr0 H locs ls h2 hl)) (fun h3 => absurd h h3)
  · rw [if_neg h]
    have k := kf h
    obtain ⟨p, l, e, R, s, m, args, below, meth, c, dC, dI, b, mc, ms, n'⟩ := κ
    obtain ⟨hx, hb, hml, hown, hts, hr, hlk, hK, hR, hNs⟩ := hC
    intro r hr0 H locs ls h2 hl
    exact lv_if_eq hx hb hd ht (fun h3 => absurd h3 h) (fun _ => (k r hr0 H locs ls h2 hl))
theorem x_if_ne {x : Int32} {off : Int} {tgt : Nat} {A B : Option α} (hC : CX κ cc own nL ret d) (hd : decode cc pc = .ok (.ifCond .ne off, 3)) (hq : pc + 3 = q) (ht : (pc : Int) + off = (tgt : Int)) (kt : ¬ (x = 0) → X κ nL em n cs tgt L st M B) (kf : x = 0 → X κ nL em n cs q L st M A) : X κ nL em n cs pc L (.int x :: st) M (if x = 0 then A else B) := by
  subst hq
  by_cases h : x = 0
  · rw [if_pos h]
    have k := kf h
    obtain ⟨p, l, e, R, s, m, args, below, meth, c, dC, dI, b, mc, ms, n'⟩ := κ
    obtain ⟨hx, hb, hml, hown, hts, hr, hlk, hK, hR, hNs⟩ := hC
    intro r hr0 H locs ls h2 hl
    exact lv_if_ne hx hb hd ht (fun h3 => absurd h h3) (fun _ => (k r hr0 H locs ls h2 hl))
  · rw [if_neg h]
    have k := kt h
    obtain ⟨p, l, e, R, s, m, args, below, meth, c, dC, dI, b, mc, ms, n'⟩ := κ
    obtain ⟨hx, hb, hml, hown, hts, hr, hlk, hK, hR, hNs⟩ := hC
    intro r hr0 H locs ls h2 hl
    exact lv_if_ne hx hb hd ht (fun _ => (k r hr0 H locs ls h2 hl)) (fun h3 => absurd h3 h)
theorem x_if_lt {x : Int32} {off : Int} {tgt : Nat} {A B : Option α} (hC : CX κ cc own nL ret d) (hd : decode cc pc = .ok (.ifCond .lt off, 3)) (hq : pc + 3 = q) (ht : (pc : Int) + off = (tgt : Int)) (kt : x < 0 → X κ nL em n cs tgt L st M A) (kf : ¬ (x < 0) → X κ nL em n cs q L st M B) : X κ nL em n cs pc L (.int x :: st) M (if x < 0 then A else B) := by
  subst hq
  by_cases h : x < 0
  · rw [if_pos h]
    have k := kt h
    obtain ⟨p, l, e, R, s, m, args, below, meth, c, dC, dI, b, mc, ms, n'⟩ := κ
    obtain ⟨hx, hb, hml, hown, hts, hr, hlk, hK, hR, hNs⟩ := hC
    intro r hr0 H locs ls h2 hl
    exact lv_if_lt hx hb hd ht (fun _ => (k r hr0 H locs ls h2 hl)) (fun h3 => absurd h h3)
  · rw [if_neg h]
    have k := kf h
    obtain ⟨p, l, e, R, s, m, args, below, meth, c, dC, dI, b, mc, ms, n'⟩ := κ
    obtain ⟨hx, hb, hml, hown, hts, hr, hlk, hK, hR, hNs⟩ := hC
    intro r hr0 H locs ls h2 hl
    exact lv_if_lt hx hb hd ht (fun h3 => absurd h3 h) (fun _ => (k r hr0 H locs ls h2 hl))
theorem x_if_ge {x : Int32} {off : Int} {tgt : Nat} {A B : Option α} (hC : CX κ cc own nL ret d) (hd : decode cc pc = .ok (.ifCond .ge off, 3)) (hq : pc + 3 = q) (ht : (pc : Int) + off = (tgt : Int)) (kt : 0 ≤ x → X κ nL em n cs tgt L st M A) (kf : ¬ (0 ≤ x) → X κ nL em n cs q L st M B) : X κ nL em n cs pc L (.int x :: st) M (if 0 ≤ x then A else B) := by
  subst hq
  by_cases h : 0 ≤ x
  · rw [if_pos h]
    have k := kt h
    obtain ⟨p, l, e, R, s, m, args, below, meth, c, dC, dI, b, mc, ms, n'⟩ := κ
    obtain ⟨hx, hb, hml, hown, hts, hr, hlk, hK, hR, hNs⟩ := hC
    intro r hr0 H locs ls h2 hl
    exact lv_if_ge hx hb hd ht (fun _ => (k r hr0 H locs ls h2 hl)) (fun h3 => absurd h h3)
  · rw [if_neg h]
    have k := kf h
    obtain ⟨p, l, e, R, s, m, args, below, meth, c, dC, dI, b, mc, ms, n'⟩ := κ
    obtain ⟨hx, hb, hml, hown, hts, hr, hlk, hK, hR, hNs⟩ := hC
    intro r hr0 H locs ls h2 hl
    exact lv_if_ge hx hb hd ht (fun h3 => absurd h3 h) (fun _ => (k r hr0 H locs ls h2 hl))
theorem x_if_gt {x : Int32} {off : Int} {tgt : Nat} {A B : Option α} (hC : CX κ cc own nL ret d) (hd : decode cc pc = .ok (.ifCond .gt off, 3)) (hq : pc + 3 = q) (ht : (pc : Int) + off = (tgt : Int)) (kt : 0 < x → X κ nL em n cs tgt L st M A) (kf : ¬ (0 < x) → X κ nL em n cs q L st M B) : X κ nL em n cs pc L (.int x :: st) M (if 0 < x then A else B) := by
  subst hq
  by_cases h : 0 < x
  · rw [if_pos h]
    have k := kt h
    obtain ⟨p, l, e, R, s, m, args, below, meth, c, dC, dI, b, mc, ms, n'⟩ := κ
    obtain ⟨hx, hb, hml, hown, hts, hr, hlk, hK, hR, hNs⟩ := hC
    intro r hr0 H locs ls h2 hl
    exact lv_if_gt hx hb hd ht (fun _ => (k r hr0 H locs ls h2 hl)) (fun h3 => absurd h h3)
  · rw [if_neg h]
    have k := kf h
    obtain ⟨p, l, e, R, s, m, args, below, meth, c, dC, dI, b, mc, ms, n'⟩ := κ
    obtain ⟨hx, hb, hml, hown, hts, hr, hlk, hK, hR, hNs⟩ := hC
    intro r hr0 H locs ls h2 hl
    exact lv_if_gt hx hb hd ht (fun h3 => absurd h3 h) (fun _ => (k r hr0 H locs ls h2 hl))
theorem x_if_le {x : Int32} {off : Int} {tgt : Nat} {A B : Option α} (hC : CX κ cc own nL ret d) (hd : decode cc pc = .ok (.ifCond .le off, 3)) (hq : pc + 3 = q) (ht : (pc : Int) + off = (tgt : Int)) (kt : x ≤ 0 → X κ nL em n cs tgt L st M A) (kf : ¬ (x ≤ 0) → X κ nL em n cs q L st M B) : X κ nL em n cs pc L (.int x :: st) M (if x ≤ 0 then A else B) := by
  subst hq
  by_cases h : x ≤ 0
  · rw [if_pos h]
    have k := kt h
    obtain ⟨p, l, e, R, s, m, args, below, meth, c, dC, dI, b, mc, ms, n'⟩ := κ
    obtain ⟨hx, hb, hml, hown, hts, hr, hlk, hK, hR, hNs⟩ := hC
    intro r hr0 H locs ls h2 hl
    exact lv_if_le hx hb hd ht (fun _ => (k r hr0 H locs ls h2 hl)) (fun h3 => absurd h h3)
  · rw [if_neg h]
    have k := kf h
    obtain ⟨p, l, e, R, s, m, args, below, meth, c, dC, dI, b, mc, ms, n'⟩ := κ
    obtain ⟨hx, hb, hml, hown, hts, hr, hlk, hK, hR, hNs⟩ := hC
    intro r hr0 H locs ls h2 hl
    exact lv_if_le hx hb hd ht (fun h3 => absurd h3 h) (fun _ => (k r hr0 H locs ls h2 hl))
theorem x_goto {off : Int} {tgt : Nat} (hC : CX κ cc own nL ret d) (hd : decode cc pc = .ok (.goto off, 3)) (ht : (pc : Int) + off = (tgt : Int)) (k : X κ nL em n cs tgt L st M res) : X κ nL em n cs pc L st M res := by
  obtain ⟨p, l, e, R, s, m, args, below, meth, c, dC, dI, b, mc, ms, n'⟩ := κ
  obtain ⟨hx, hb, hml, hown, hts, hr, hlk, hK, hR, hNs⟩ := hC
  intro r hr0 H locs ls h2 hl
  exact lv_goto hx hb hd ht (k r hr0 H locs ls h2 hl)
theorem x_tsIn {x v : Int32} {dflt lo hi : Int} {offs : Array Int} {len : Nat} {off : Int} {tgt : Nat} {A B : Option α} (hC : CX κ cc own nL ret d) (hd : decode cc pc = .ok (.tableswitch dflt lo hi offs, len)) (hc : (¬ v.toInt < lo ∧ ¬ hi < v.toInt) ∧ offs[(v.toInt - lo).toNat]? = some off ∧ (pc : Int) + off = (tgt : Int)) (k : X κ nL em n cs tgt L st M A) (kf : ¬ x = v → X κ nL em n cs pc L (.int x :: st) M B) : X κ nL em n cs pc L (.int x :: st) M (if x = v then A else B) := by
  by_cases h : x = v
  · rw [if_pos h]
    subst h
    obtain ⟨p, l, e, R, s, m, args, below, meth, c, dC, dI, b, mc, ms, n'⟩ := κ
    obtain ⟨hx, hb, hml, hown, hts, hr, hlk, hK, hR, hNs⟩ := hC
    intro r hr0 H locs ls h2 hl
    exact lv_tableIn hx hb hd hc.1.1 hc.1.2 hc.2.1 hc.2.2 (k r hr0 H locs ls h2 hl)
  · rw [if_neg h]
    exact kf h
theorem x_tsOut {x : Int32} {dflt lo hi : Int} {offs : Array Int} {len tgt : Nat} (vs : List Int32) (hC : CX κ cc own nL ret d) (hd : decode cc pc = .ok (.tableswitch dflt lo hi offs, len)) (hv : ∀ v ∈ vs, x ≠ v) (hc : (List.range (hi - lo + 1).toNat).all (fun j => decide (vs[j]? = some (Int32.ofInt (lo + j))) && decide ((Int32.ofInt (lo + j)).toInt = lo + j)) = true) (ht : (pc : Int) + dflt = (tgt : Int)) (k : X κ nL em n cs tgt L st M res) : X κ nL em n cs pc L (.int x :: st) M res := by
  obtain ⟨p, l, e, R, s, m, args, below, meth, c, dC, dI, b, mc, ms, n'⟩ := κ
  obtain ⟨hx, hb, hml, hown, hts, hr, hlk, hK, hR, hNs⟩ := hC
  intro r hr0 H locs ls h2 hl
  refine lv_tableOut hx hb hd ?_ ht (k r hr0 H locs ls h2 hl)
  by_cases h1 : x.toInt < lo
  · exact Or.inl h1
  · by_cases h3 : hi < x.toInt
    · exact Or.inr h3
    · exfalso
      have hj := List.all_eq_true.mp hc (x.toInt - lo).toNat (List.mem_range.mpr (by omega))
      simp only [Bool.and_eq_true, decide_eq_true_eq] at hj
      have he : lo + ((x.toInt - lo).toNat : Int) = x.toInt := by omega
      rw [he] at hj
      refine hv _ (List.mem_of_getElem? hj.1) ?_
      exact (Int32.toInt_inj.mp hj.2).symm
theorem x_lookup {x : Int32} {dflt : Int} {ps : Array (Int × Int)} {len : Nat} {v : Int32} {off : Int} {tgt : Nat} {A B : Option α} (hC : CX κ cc own nL ret d) (hd : decode cc pc = .ok (.lookupswitch dflt ps, len)) (hc : (ps.toList.zip (ps.toList.drop 1)).all (fun (a, next) => a.1 < next.1) = true ∧ Op.lookupswitch.offset ps.toList dflt v.toInt = off ∧ (pc : Int) + off = (tgt : Int)) (k : X κ nL em n cs tgt L st M A) (kf : ¬ x = v → X κ nL em n cs pc L (.int x :: st) M B) : X κ nL em n cs pc L (.int x :: st) M (if x = v then A else B) := by
  by_cases h : x = v
  · rw [if_pos h]
    subst h
    obtain ⟨p, l, e, R, s, m, args, below, meth, c, dC, dI, b, mc, ms, n'⟩ := κ
    obtain ⟨hx, hb, hml, hown, hts, hr, hlk, hK, hR, hNs⟩ := hC
    intro r hr0 H locs ls h2 hl
    exact lv_lookup hx hb hd hc.1 hc.2.1 hc.2.2 (k r hr0 H locs ls h2 hl)
  · rw [if_neg h]
    exact kf h
theorem x_lookupD {x : Int32} {dflt : Int} {ps : Array (Int × Int)} {len : Nat} {tgt : Nat} (hC : CX κ cc own nL ret d) (hd : decode cc pc = .ok (.lookupswitch dflt ps, len)) (hc : (ps.toList.zip (ps.toList.drop 1)).all (fun (a, next) => a.1 < next.1) = true ∧ Op.lookupswitch.offset ps.toList dflt x.toInt = dflt) (ht : (pc : Int) + dflt = (tgt : Int)) (k : X κ nL em n cs tgt L st M res) : X κ nL em n cs pc L (.int x :: st) M res := by
  obtain ⟨p, l, e, R, s, m, args, below, meth, c, dC, dI, b, mc, ms, n'⟩ := κ
  obtain ⟨hx, hb, hml, hown, hts, hr, hlk, hK, hR, hNs⟩ := hC
  intro r hr0 H locs ls h2 hl
  exact lv_lookup hx hb hd hc.1 hc.2 ht (k r hr0 H locs ls h2 hl)
theorem x_none : X κ nL em n cs pc L st M none := fun r hr => by cases hr
end
