/-- shifts, as the machine makes them -/
def jushr (a b : Int32) : Int32 := (a.toUInt32 >>> (b.toUInt32 &&& Int32.toUInt32 31)).toInt32
def jlushr (a : Int64) (b : Int32) : Int64 := (a.toUInt64 >>> (b.toInt64.toUInt64 &&& Int64.toUInt64 63)).toInt64
def jlshl (a : Int64) (b : Int32) : Int64 := a <<< (b.toInt64 &&& 63)
section JW
variable {X : jX} {P : jP} {M : jM} {N : jN} {k n : Nat} {E : State → Prop} {lo : List (Nat × Value)} {st : List Value} {l0 : Launch} {y : MethodName} {cc : ByteArray} {nL : Nat} {ret : Option FieldType} {rm : Room} {L0 : jL} {pc : Nat}
theorem j_iadd (o : jok X l0 y cc nL ret rm L0) {a b : Int32} (hd : decode cc pc = .ok (.iadd, 1))  (kk : J X P M N k n E nL (pc + 1) (lo) (.int (a + b) :: st)) : J X P M N k n E nL (pc) (lo) (.int b :: .int a :: st) := by
  obtain ⟨⟨p, l, e, R, s, m, args, below, meth, c⟩, D, tA, A, L⟩ := X
  obtain ⟨hx, hb, hml, hown, hts, hr, hK, hA, hlk, hnm, hR, hl0, hL0⟩ := o
  subst hL0
  intro H locs ls h1 h2 h3
  exact lv_iadd hx hb hd (kk H locs ls h1 h2 h3)
theorem j_isub (o : jok X l0 y cc nL ret rm L0) {a b : Int32} (hd : decode cc pc = .ok (.isub, 1))  (kk : J X P M N k n E nL (pc + 1) (lo) (.int (a - b) :: st)) : J X P M N k n E nL (pc) (lo) (.int b :: .int a :: st) := by
  obtain ⟨⟨p, l, e, R, s, m, args, below, meth, c⟩, D, tA, A, L⟩ := X
  obtain ⟨hx, hb, hml, hown, hts, hr, hK, hA, hlk, hnm, hR, hl0, hL0⟩ := o
  subst hL0
  intro H locs ls h1 h2 h3
  exact lv_isub hx hb hd (kk H locs ls h1 h2 h3)
theorem j_imul (o : jok X l0 y cc nL ret rm L0) {a b : Int32} (hd : decode cc pc = .ok (.imul, 1))  (kk : J X P M N k n E nL (pc + 1) (lo) (.int (a * b) :: st)) : J X P M N k n E nL (pc) (lo) (.int b :: .int a :: st) := by
  obtain ⟨⟨p, l, e, R, s, m, args, below, meth, c⟩, D, tA, A, L⟩ := X
  obtain ⟨hx, hb, hml, hown, hts, hr, hK, hA, hlk, hnm, hR, hl0, hL0⟩ := o
  subst hL0
  intro H locs ls h1 h2 h3
  exact lv_imul hx hb hd (kk H locs ls h1 h2 h3)
theorem j_iand (o : jok X l0 y cc nL ret rm L0) {a b : Int32} (hd : decode cc pc = .ok (.iand, 1))  (kk : J X P M N k n E nL (pc + 1) (lo) (.int (a &&& b) :: st)) : J X P M N k n E nL (pc) (lo) (.int b :: .int a :: st) := by
  obtain ⟨⟨p, l, e, R, s, m, args, below, meth, c⟩, D, tA, A, L⟩ := X
  obtain ⟨hx, hb, hml, hown, hts, hr, hK, hA, hlk, hnm, hR, hl0, hL0⟩ := o
  subst hL0
  intro H locs ls h1 h2 h3
  exact lv_iand hx hb hd (kk H locs ls h1 h2 h3)
theorem j_ior (o : jok X l0 y cc nL ret rm L0) {a b : Int32} (hd : decode cc pc = .ok (.ior, 1))  (kk : J X P M N k n E nL (pc + 1) (lo) (.int (a ||| b) :: st)) : J X P M N k n E nL (pc) (lo) (.int b :: .int a :: st) := by
  obtain ⟨⟨p, l, e, R, s, m, args, below, meth, c⟩, D, tA, A, L⟩ := X
  obtain ⟨hx, hb, hml, hown, hts, hr, hK, hA, hlk, hnm, hR, hl0, hL0⟩ := o
  subst hL0
  intro H locs ls h1 h2 h3
  exact lv_ior hx hb hd (kk H locs ls h1 h2 h3)
theorem j_ixor (o : jok X l0 y cc nL ret rm L0) {a b : Int32} (hd : decode cc pc = .ok (.ixor, 1))  (kk : J X P M N k n E nL (pc + 1) (lo) (.int (a ^^^ b) :: st)) : J X P M N k n E nL (pc) (lo) (.int b :: .int a :: st) := by
  obtain ⟨⟨p, l, e, R, s, m, args, below, meth, c⟩, D, tA, A, L⟩ := X
  obtain ⟨hx, hb, hml, hown, hts, hr, hK, hA, hlk, hnm, hR, hl0, hL0⟩ := o
  subst hL0
  intro H locs ls h1 h2 h3
  exact lv_ixor hx hb hd (kk H locs ls h1 h2 h3)
theorem j_ishl (o : jok X l0 y cc nL ret rm L0) {a b : Int32} (hd : decode cc pc = .ok (.ishl, 1))  (kk : J X P M N k n E nL (pc + 1) (lo) (.int (a <<< (b &&& 31)) :: st)) : J X P M N k n E nL (pc) (lo) (.int b :: .int a :: st) := by
  obtain ⟨⟨p, l, e, R, s, m, args, below, meth, c⟩, D, tA, A, L⟩ := X
  obtain ⟨hx, hb, hml, hown, hts, hr, hK, hA, hlk, hnm, hR, hl0, hL0⟩ := o
  subst hL0
  intro H locs ls h1 h2 h3
  exact lv_ishl hx hb hd (kk H locs ls h1 h2 h3)
theorem j_ishr (o : jok X l0 y cc nL ret rm L0) {a b : Int32} (hd : decode cc pc = .ok (.ishr, 1))  (kk : J X P M N k n E nL (pc + 1) (lo) (.int (a >>> (b &&& 31)) :: st)) : J X P M N k n E nL (pc) (lo) (.int b :: .int a :: st) := by
  obtain ⟨⟨p, l, e, R, s, m, args, below, meth, c⟩, D, tA, A, L⟩ := X
  obtain ⟨hx, hb, hml, hown, hts, hr, hK, hA, hlk, hnm, hR, hl0, hL0⟩ := o
  subst hL0
  intro H locs ls h1 h2 h3
  exact lv_ishr hx hb hd (kk H locs ls h1 h2 h3)
theorem j_idiv (o : jok X l0 y cc nL ret rm L0) {a b : Int32} (hd : decode cc pc = .ok (.idiv, 1)) (hne : ¬ b = 0) (kk : J X P M N k n E nL (pc + 1) (lo) (.int (a / b) :: st)) : J X P M N k n E nL (pc) (lo) (.int b :: .int a :: st) := by
  obtain ⟨⟨p, l, e, R, s, m, args, below, meth, c⟩, D, tA, A, L⟩ := X
  obtain ⟨hx, hb, hml, hown, hts, hr, hK, hA, hlk, hnm, hR, hl0, hL0⟩ := o
  subst hL0
  intro H locs ls h1 h2 h3
  exact lv_idiv hx hb hd hne (kk H locs ls h1 h2 h3)
theorem j_irem (o : jok X l0 y cc nL ret rm L0) {a b : Int32} (hd : decode cc pc = .ok (.irem, 1)) (hne : ¬ b = 0) (kk : J X P M N k n E nL (pc + 1) (lo) (.int (a - a / b * b) :: st)) : J X P M N k n E nL (pc) (lo) (.int b :: .int a :: st) := by
  obtain ⟨⟨p, l, e, R, s, m, args, below, meth, c⟩, D, tA, A, L⟩ := X
  obtain ⟨hx, hb, hml, hown, hts, hr, hK, hA, hlk, hnm, hR, hl0, hL0⟩ := o
  subst hL0
  intro H locs ls h1 h2 h3
  exact lv_irem hx hb hd hne (kk H locs ls h1 h2 h3)
theorem j_ineg (o : jok X l0 y cc nL ret rm L0) {a : Int32} (hd : decode cc pc = .ok (.ineg, 1))  (kk : J X P M N k n E nL (pc + 1) (lo) (.int (-a) :: st)) : J X P M N k n E nL (pc) (lo) (.int a :: st) := by
  obtain ⟨⟨p, l, e, R, s, m, args, below, meth, c⟩, D, tA, A, L⟩ := X
  obtain ⟨hx, hb, hml, hown, hts, hr, hK, hA, hlk, hnm, hR, hl0, hL0⟩ := o
  subst hL0
  intro H locs ls h1 h2 h3
  exact lv_ineg hx hb hd (kk H locs ls h1 h2 h3)
theorem j_iushr (o : jok X l0 y cc nL ret rm L0) {a b : Int32} (hd : decode cc pc = .ok (.iushr, 1))  (kk : J X P M N k n E nL (pc + 1) (lo) (.int (jushr a b) :: st)) : J X P M N k n E nL (pc) (lo) (.int b :: .int a :: st) := by
  obtain ⟨⟨p, l, e, R, s, m, args, below, meth, c⟩, D, tA, A, L⟩ := X
  obtain ⟨hx, hb, hml, hown, hts, hr, hK, hA, hlk, hnm, hR, hl0, hL0⟩ := o
  subst hL0
  intro H locs ls h1 h2 h3
  exact lv_iushr hx hb hd rfl (kk H locs ls h1 h2 h3)
theorem j_ladd (o : jok X l0 y cc nL ret rm L0) {a b : Int64} (hd : decode cc pc = .ok (.ladd, 1))  (kk : J X P M N k n E nL (pc + 1) (lo) (.long (a + b) :: st)) : J X P M N k n E nL (pc) (lo) (.long b :: .long a :: st) := by
  obtain ⟨⟨p, l, e, R, s, m, args, below, meth, c⟩, D, tA, A, L⟩ := X
  obtain ⟨hx, hb, hml, hown, hts, hr, hK, hA, hlk, hnm, hR, hl0, hL0⟩ := o
  subst hL0
  intro H locs ls h1 h2 h3
  exact lv_ladd hx hb hd (kk H locs ls h1 h2 h3)
theorem j_lsub (o : jok X l0 y cc nL ret rm L0) {a b : Int64} (hd : decode cc pc = .ok (.lsub, 1))  (kk : J X P M N k n E nL (pc + 1) (lo) (.long (a - b) :: st)) : J X P M N k n E nL (pc) (lo) (.long b :: .long a :: st) := by
  obtain ⟨⟨p, l, e, R, s, m, args, below, meth, c⟩, D, tA, A, L⟩ := X
  obtain ⟨hx, hb, hml, hown, hts, hr, hK, hA, hlk, hnm, hR, hl0, hL0⟩ := o
  subst hL0
  intro H locs ls h1 h2 h3
  exact lv_lsub hx hb hd (kk H locs ls h1 h2 h3)
theorem j_lmul (o : jok X l0 y cc nL ret rm L0) {a b : Int64} (hd : decode cc pc = .ok (.lmul, 1))  (kk : J X P M N k n E nL (pc + 1) (lo) (.long (a * b) :: st)) : J X P M N k n E nL (pc) (lo) (.long b :: .long a :: st) := by
  obtain ⟨⟨p, l, e, R, s, m, args, below, meth, c⟩, D, tA, A, L⟩ := X
  obtain ⟨hx, hb, hml, hown, hts, hr, hK, hA, hlk, hnm, hR, hl0, hL0⟩ := o
  subst hL0
  intro H locs ls h1 h2 h3
  exact lv_lmul hx hb hd (kk H locs ls h1 h2 h3)
theorem j_land (o : jok X l0 y cc nL ret rm L0) {a b : Int64} (hd : decode cc pc = .ok (.land, 1))  (kk : J X P M N k n E nL (pc + 1) (lo) (.long (a &&& b) :: st)) : J X P M N k n E nL (pc) (lo) (.long b :: .long a :: st) := by
  obtain ⟨⟨p, l, e, R, s, m, args, below, meth, c⟩, D, tA, A, L⟩ := X
  obtain ⟨hx, hb, hml, hown, hts, hr, hK, hA, hlk, hnm, hR, hl0, hL0⟩ := o
  subst hL0
  intro H locs ls h1 h2 h3
  exact lv_land hx hb hd (kk H locs ls h1 h2 h3)
theorem j_lor (o : jok X l0 y cc nL ret rm L0) {a b : Int64} (hd : decode cc pc = .ok (.lor, 1))  (kk : J X P M N k n E nL (pc + 1) (lo) (.long (a ||| b) :: st)) : J X P M N k n E nL (pc) (lo) (.long b :: .long a :: st) := by
  obtain ⟨⟨p, l, e, R, s, m, args, below, meth, c⟩, D, tA, A, L⟩ := X
  obtain ⟨hx, hb, hml, hown, hts, hr, hK, hA, hlk, hnm, hR, hl0, hL0⟩ := o
  subst hL0
  intro H locs ls h1 h2 h3
  exact lv_lor hx hb hd (kk H locs ls h1 h2 h3)
theorem j_lxor (o : jok X l0 y cc nL ret rm L0) {a b : Int64} (hd : decode cc pc = .ok (.lxor, 1))  (kk : J X P M N k n E nL (pc + 1) (lo) (.long (a ^^^ b) :: st)) : J X P M N k n E nL (pc) (lo) (.long b :: .long a :: st) := by
  obtain ⟨⟨p, l, e, R, s, m, args, below, meth, c⟩, D, tA, A, L⟩ := X
  obtain ⟨hx, hb, hml, hown, hts, hr, hK, hA, hlk, hnm, hR, hl0, hL0⟩ := o
  subst hL0
  intro H locs ls h1 h2 h3
  exact lv_lxor hx hb hd (kk H locs ls h1 h2 h3)
theorem j_ldiv (o : jok X l0 y cc nL ret rm L0) {a b : Int64} (hd : decode cc pc = .ok (.ldiv, 1)) (hne : ¬ b = 0) (kk : J X P M N k n E nL (pc + 1) (lo) (.long (a / b) :: st)) : J X P M N k n E nL (pc) (lo) (.long b :: .long a :: st) := by
  obtain ⟨⟨p, l, e, R, s, m, args, below, meth, c⟩, D, tA, A, L⟩ := X
  obtain ⟨hx, hb, hml, hown, hts, hr, hK, hA, hlk, hnm, hR, hl0, hL0⟩ := o
  subst hL0
  intro H locs ls h1 h2 h3
  exact lv_ldiv hx hb hd hne (kk H locs ls h1 h2 h3)
theorem j_lrem (o : jok X l0 y cc nL ret rm L0) {a b : Int64} (hd : decode cc pc = .ok (.lrem, 1)) (hne : ¬ b = 0) (kk : J X P M N k n E nL (pc + 1) (lo) (.long (a - a / b * b) :: st)) : J X P M N k n E nL (pc) (lo) (.long b :: .long a :: st) := by
  obtain ⟨⟨p, l, e, R, s, m, args, below, meth, c⟩, D, tA, A, L⟩ := X
  obtain ⟨hx, hb, hml, hown, hts, hr, hK, hA, hlk, hnm, hR, hl0, hL0⟩ := o
  subst hL0
  intro H locs ls h1 h2 h3
  exact lv_lrem hx hb hd hne (kk H locs ls h1 h2 h3)
theorem j_lshl (o : jok X l0 y cc nL ret rm L0) {a : Int64} {b : Int32} (hd : decode cc pc = .ok (.lshl, 1))  (kk : J X P M N k n E nL (pc + 1) (lo) (.long (jlshl a b) :: st)) : J X P M N k n E nL (pc) (lo) (.int b :: .long a :: st) := by
  obtain ⟨⟨p, l, e, R, s, m, args, below, meth, c⟩, D, tA, A, L⟩ := X
  obtain ⟨hx, hb, hml, hown, hts, hr, hK, hA, hlk, hnm, hR, hl0, hL0⟩ := o
  subst hL0
  intro H locs ls h1 h2 h3
  exact lv_lshl hx hb hd rfl (kk H locs ls h1 h2 h3)
theorem j_lushr (o : jok X l0 y cc nL ret rm L0) {a : Int64} {b : Int32} (hd : decode cc pc = .ok (.lushr, 1))  (kk : J X P M N k n E nL (pc + 1) (lo) (.long (jlushr a b) :: st)) : J X P M N k n E nL (pc) (lo) (.int b :: .long a :: st) := by
  obtain ⟨⟨p, l, e, R, s, m, args, below, meth, c⟩, D, tA, A, L⟩ := X
  obtain ⟨hx, hb, hml, hown, hts, hr, hK, hA, hlk, hnm, hR, hl0, hL0⟩ := o
  subst hL0
  intro H locs ls h1 h2 h3
  exact lv_lushr hx hb hd rfl (kk H locs ls h1 h2 h3)
theorem j_i2l (o : jok X l0 y cc nL ret rm L0) {a : Int32} (hd : decode cc pc = .ok (.i2l, 1))  (kk : J X P M N k n E nL (pc + 1) (lo) (.long (a.toInt64) :: st)) : J X P M N k n E nL (pc) (lo) (.int a :: st) := by
  obtain ⟨⟨p, l, e, R, s, m, args, below, meth, c⟩, D, tA, A, L⟩ := X
  obtain ⟨hx, hb, hml, hown, hts, hr, hK, hA, hlk, hnm, hR, hl0, hL0⟩ := o
  subst hL0
  intro H locs ls h1 h2 h3
  exact lv_i2l hx hb hd rfl (kk H locs ls h1 h2 h3)
theorem j_l2i (o : jok X l0 y cc nL ret rm L0) {a : Int64} (hd : decode cc pc = .ok (.l2i, 1))  (kk : J X P M N k n E nL (pc + 1) (lo) (.int (a.toInt32) :: st)) : J X P M N k n E nL (pc) (lo) (.long a :: st) := by
  obtain ⟨⟨p, l, e, R, s, m, args, below, meth, c⟩, D, tA, A, L⟩ := X
  obtain ⟨hx, hb, hml, hown, hts, hr, hK, hA, hlk, hnm, hR, hl0, hL0⟩ := o
  subst hL0
  intro H locs ls h1 h2 h3
  exact lv_l2i hx hb hd rfl (kk H locs ls h1 h2 h3)
theorem j_i2b (o : jok X l0 y cc nL ret rm L0) {a : Int32} (hd : decode cc pc = .ok (.i2b, 1))  (kk : J X P M N k n E nL (pc + 1) (lo) (.int (a.toInt8.toInt32) :: st)) : J X P M N k n E nL (pc) (lo) (.int a :: st) := by
  obtain ⟨⟨p, l, e, R, s, m, args, below, meth, c⟩, D, tA, A, L⟩ := X
  obtain ⟨hx, hb, hml, hown, hts, hr, hK, hA, hlk, hnm, hR, hl0, hL0⟩ := o
  subst hL0
  intro H locs ls h1 h2 h3
  exact lv_i2b hx hb hd rfl (kk H locs ls h1 h2 h3)
theorem j_iconst (o : jok X l0 y cc nL ret rm L0) {z : Int} {v : Int32} (hd : decode cc pc = .ok (.iconst z, 1)) (hv : Int32.ofInt z = v) (kk : J X P M N k n E nL (pc + 1) (lo) (.int v :: st)) : J X P M N k n E nL (pc) (lo) (st) := by
  obtain ⟨⟨p, l, e, R, s, m, args, below, meth, c⟩, D, tA, A, L⟩ := X
  obtain ⟨hx, hb, hml, hown, hts, hr, hK, hA, hlk, hnm, hR, hl0, hL0⟩ := o
  subst hL0
  intro H locs ls h1 h2 h3
  exact lv_iconst hx hb hd hv (kk H locs ls h1 h2 h3)
theorem j_bipush (o : jok X l0 y cc nL ret rm L0) {z : Int} {v : Int32} (hd : decode cc pc = .ok (.bipush z, 2)) (hv : (Int8.ofInt z).toInt32 = v) (kk : J X P M N k n E nL (pc + 2) (lo) (.int v :: st)) : J X P M N k n E nL (pc) (lo) (st) := by
  obtain ⟨⟨p, l, e, R, s, m, args, below, meth, c⟩, D, tA, A, L⟩ := X
  obtain ⟨hx, hb, hml, hown, hts, hr, hK, hA, hlk, hnm, hR, hl0, hL0⟩ := o
  subst hL0
  intro H locs ls h1 h2 h3
  exact lv_bipush hx hb hd hv (kk H locs ls h1 h2 h3)
theorem j_sipush (o : jok X l0 y cc nL ret rm L0) {z : Int} {v : Int32} (hd : decode cc pc = .ok (.sipush z, 3)) (hv : (Int16.ofInt z).toInt32 = v) (kk : J X P M N k n E nL (pc + 3) (lo) (.int v :: st)) : J X P M N k n E nL (pc) (lo) (st) := by
  obtain ⟨⟨p, l, e, R, s, m, args, below, meth, c⟩, D, tA, A, L⟩ := X
  obtain ⟨hx, hb, hml, hown, hts, hr, hK, hA, hlk, hnm, hR, hl0, hL0⟩ := o
  subst hL0
  intro H locs ls h1 h2 h3
  exact lv_sipush hx hb hd hv (kk H locs ls h1 h2 h3)
theorem j_lconst (o : jok X l0 y cc nL ret rm L0) {z : Fin 2} {v : Int64} (hd : decode cc pc = .ok (.lconst z, 1)) (hv : Int64.ofNat (z : Nat) = v) (kk : J X P M N k n E nL (pc + 1) (lo) (.long v :: st)) : J X P M N k n E nL (pc) (lo) (st) := by
  obtain ⟨⟨p, l, e, R, s, m, args, below, meth, c⟩, D, tA, A, L⟩ := X
  obtain ⟨hx, hb, hml, hown, hts, hr, hK, hA, hlk, hnm, hR, hl0, hL0⟩ := o
  subst hL0
  intro H locs ls h1 h2 h3
  exact lv_lconst hx hb hd hv (kk H locs ls h1 h2 h3)
theorem j_null (o : jok X l0 y cc nL ret rm L0)  (hd : decode cc pc = .ok (.aconst_null, 1))  (kk : J X P M N k n E nL (pc + 1) (lo) (.null :: st)) : J X P M N k n E nL (pc) (lo) (st) := by
  obtain ⟨⟨p, l, e, R, s, m, args, below, meth, c⟩, D, tA, A, L⟩ := X
  obtain ⟨hx, hb, hml, hown, hts, hr, hK, hA, hlk, hnm, hR, hl0, hL0⟩ := o
  subst hL0
  intro H locs ls h1 h2 h3
  exact lv_null hx hb hd (kk H locs ls h1 h2 h3)
theorem j_iload (o : jok X l0 y cc nL ret rm L0) {i : Nat} {v : Int32} (hd : decode cc pc = .ok (.iload i, 2)) (hl : jlk lo i = some (.int v)) (kk : J X P M N k n E nL (pc + 2) (lo) (.int v :: st)) : J X P M N k n E nL (pc) (lo) (st) := by
  obtain ⟨⟨p, l, e, R, s, m, args, below, meth, c⟩, D, tA, A, L⟩ := X
  obtain ⟨hx, hb, hml, hown, hts, hr, hK, hA, hlk, hnm, hR, hl0, hL0⟩ := o
  subst hL0
  intro H locs ls h1 h2 h3
  exact lv_iload hx hb hd (jlk_at h3 hl) (kk H locs ls h1 h2 h3)
theorem j_iload_n (o : jok X l0 y cc nL ret rm L0) {i : Fin 4} {v : Int32} (hd : decode cc pc = .ok (.iload_n i, 1)) (hl : jlk lo (i : Nat) = some (.int v)) (kk : J X P M N k n E nL (pc + 1) (lo) (.int v :: st)) : J X P M N k n E nL (pc) (lo) (st) := by
  obtain ⟨⟨p, l, e, R, s, m, args, below, meth, c⟩, D, tA, A, L⟩ := X
  obtain ⟨hx, hb, hml, hown, hts, hr, hK, hA, hlk, hnm, hR, hl0, hL0⟩ := o
  subst hL0
  intro H locs ls h1 h2 h3
  exact lv_iload_n hx hb hd rfl (jlk_at h3 hl) (kk H locs ls h1 h2 h3)
theorem j_lload (o : jok X l0 y cc nL ret rm L0) {i : Nat} {v : Int64} (hd : decode cc pc = .ok (.lload i, 2)) (hl : jlk lo i = some (.long v)) (kk : J X P M N k n E nL (pc + 2) (lo) (.long v :: st)) : J X P M N k n E nL (pc) (lo) (st) := by
  obtain ⟨⟨p, l, e, R, s, m, args, below, meth, c⟩, D, tA, A, L⟩ := X
  obtain ⟨hx, hb, hml, hown, hts, hr, hK, hA, hlk, hnm, hR, hl0, hL0⟩ := o
  subst hL0
  intro H locs ls h1 h2 h3
  exact lv_lload hx hb hd (jlk_at h3 hl) (kk H locs ls h1 h2 h3)
theorem j_lload_n (o : jok X l0 y cc nL ret rm L0) {i : Fin 4} {v : Int64} (hd : decode cc pc = .ok (.lload_n i, 1)) (hl : jlk lo (i : Nat) = some (.long v)) (kk : J X P M N k n E nL (pc + 1) (lo) (.long v :: st)) : J X P M N k n E nL (pc) (lo) (st) := by
  obtain ⟨⟨p, l, e, R, s, m, args, below, meth, c⟩, D, tA, A, L⟩ := X
  obtain ⟨hx, hb, hml, hown, hts, hr, hK, hA, hlk, hnm, hR, hl0, hL0⟩ := o
  subst hL0
  intro H locs ls h1 h2 h3
  exact lv_lload_n hx hb hd rfl (jlk_at h3 hl) (kk H locs ls h1 h2 h3)
theorem j_aload (o : jok X l0 y cc nL ret rm L0) {i : Nat} {v : Nat} (hd : decode cc pc = .ok (.aload i, 2)) (hl : jlk lo i = some (.ref v)) (kk : J X P M N k n E nL (pc + 2) (lo) (.ref v :: st)) : J X P M N k n E nL (pc) (lo) (st) := by
  obtain ⟨⟨p, l, e, R, s, m, args, below, meth, c⟩, D, tA, A, L⟩ := X
  obtain ⟨hx, hb, hml, hown, hts, hr, hK, hA, hlk, hnm, hR, hl0, hL0⟩ := o
  subst hL0
  intro H locs ls h1 h2 h3
  exact lv_aload hx hb hd (jlk_at h3 hl) (kk H locs ls h1 h2 h3)
theorem j_aload_n (o : jok X l0 y cc nL ret rm L0) {i : Fin 4} {v : Nat} (hd : decode cc pc = .ok (.aload_n i, 1)) (hl : jlk lo (i : Nat) = some (.ref v)) (kk : J X P M N k n E nL (pc + 1) (lo) (.ref v :: st)) : J X P M N k n E nL (pc) (lo) (st) := by
  obtain ⟨⟨p, l, e, R, s, m, args, below, meth, c⟩, D, tA, A, L⟩ := X
  obtain ⟨hx, hb, hml, hown, hts, hr, hK, hA, hlk, hnm, hR, hl0, hL0⟩ := o
  subst hL0
  intro H locs ls h1 h2 h3
  exact lv_aload_n hx hb hd rfl (jlk_at h3 hl) (kk H locs ls h1 h2 h3)
theorem j_aloadN (o : jok X l0 y cc nL ret rm L0) {i : Nat} (hd : decode cc pc = .ok (.aload i, 2)) (hl : jlk lo i = some .null) (kk : J X P M N k n E nL (pc + 2) (lo) (.null :: st)) : J X P M N k n E nL (pc) (lo) (st) := by
  obtain ⟨⟨p, l, e, R, s, m, args, below, meth, c⟩, D, tA, A, L⟩ := X
  obtain ⟨hx, hb, hml, hown, hts, hr, hK, hA, hlk, hnm, hR, hl0, hL0⟩ := o
  subst hL0
  intro H locs ls h1 h2 h3
  exact lv_aloadN hx hb hd (jlk_at h3 hl) (kk H locs ls h1 h2 h3)
theorem j_aload_nN (o : jok X l0 y cc nL ret rm L0) {i : Fin 4} (hd : decode cc pc = .ok (.aload_n i, 1)) (hl : jlk lo (i : Nat) = some .null) (kk : J X P M N k n E nL (pc + 1) (lo) (.null :: st)) : J X P M N k n E nL (pc) (lo) (st) := by
  obtain ⟨⟨p, l, e, R, s, m, args, below, meth, c⟩, D, tA, A, L⟩ := X
  obtain ⟨hx, hb, hml, hown, hts, hr, hK, hA, hlk, hnm, hR, hl0, hL0⟩ := o
  subst hL0
  intro H locs ls h1 h2 h3
  exact lv_aload_nN hx hb hd rfl (jlk_at h3 hl) (kk H locs ls h1 h2 h3)
theorem j_dup (o : jok X l0 y cc nL ret rm L0) {va : Value} (hd : decode cc pc = .ok (.dup, 1)) (hc : va.category = 1) (kk : J X P M N k n E nL (pc + 1) (lo) (va :: va :: st)) : J X P M N k n E nL (pc) (lo) (va :: st) := by
  obtain ⟨⟨p, l, e, R, s, m, args, below, meth, c⟩, D, tA, A, L⟩ := X
  obtain ⟨hx, hb, hml, hown, hts, hr, hK, hA, hlk, hnm, hR, hl0, hL0⟩ := o
  subst hL0
  intro H locs ls h1 h2 h3
  exact lv_dup hx hb hd hc (kk H locs ls h1 h2 h3)
theorem j_pop (o : jok X l0 y cc nL ret rm L0) {va : Value} (hd : decode cc pc = .ok (.pop, 1)) (hc : va.category = 1) (kk : J X P M N k n E nL (pc + 1) (lo) (st)) : J X P M N k n E nL (pc) (lo) (va :: st) := by
  obtain ⟨⟨p, l, e, R, s, m, args, below, meth, c⟩, D, tA, A, L⟩ := X
  obtain ⟨hx, hb, hml, hown, hts, hr, hK, hA, hlk, hnm, hR, hl0, hL0⟩ := o
  subst hL0
  intro H locs ls h1 h2 h3
  exact lv_pop hx hb hd hc (kk H locs ls h1 h2 h3)
theorem j_dup_x1 (o : jok X l0 y cc nL ret rm L0) {va vb : Value} (hd : decode cc pc = .ok (.dup_x1, 1)) (hc : va.category = 1) (hc2 : vb.category = 1) (kk : J X P M N k n E nL (pc + 1) (lo) (va :: vb :: va :: st)) : J X P M N k n E nL (pc) (lo) (va :: vb :: st) := by
  obtain ⟨⟨p, l, e, R, s, m, args, below, meth, c⟩, D, tA, A, L⟩ := X
  obtain ⟨hx, hb, hml, hown, hts, hr, hK, hA, hlk, hnm, hR, hl0, hL0⟩ := o
  subst hL0
  intro H locs ls h1 h2 h3
  exact lv_dup_x1 hx hb hd hc hc2 (kk H locs ls h1 h2 h3)
theorem j_dup2 (o : jok X l0 y cc nL ret rm L0) {va vb : Value} (hd : decode cc pc = .ok (.dup2, 1)) (hc : va.category = 1) (hc2 : vb.category = 1) (kk : J X P M N k n E nL (pc + 1) (lo) (va :: vb :: va :: vb :: st)) : J X P M N k n E nL (pc) (lo) (va :: vb :: st) := by
  obtain ⟨⟨p, l, e, R, s, m, args, below, meth, c⟩, D, tA, A, L⟩ := X
  obtain ⟨hx, hb, hml, hown, hts, hr, hK, hA, hlk, hnm, hR, hl0, hL0⟩ := o
  subst hL0
  intro H locs ls h1 h2 h3
  exact lv_dup2_11 hx hb hd hc hc2 (kk H locs ls h1 h2 h3)
theorem j_dup2L (o : jok X l0 y cc nL ret rm L0) {va : Value} (hd : decode cc pc = .ok (.dup2, 1)) (hc : va.category = 2) (kk : J X P M N k n E nL (pc + 1) (lo) (va :: va :: st)) : J X P M N k n E nL (pc) (lo) (va :: st) := by
  obtain ⟨⟨p, l, e, R, s, m, args, below, meth, c⟩, D, tA, A, L⟩ := X
  obtain ⟨hx, hb, hml, hown, hts, hr, hK, hA, hlk, hnm, hR, hl0, hL0⟩ := o
  subst hL0
  intro H locs ls h1 h2 h3
  exact lv_dup2_2 hx hb hd hc (kk H locs ls h1 h2 h3)
theorem j_istore (o : jok X l0 y cc nL ret rm L0) {i : Nat} {v : Int32} (lo' : List (Nat × Value)) (hd : decode cc pc = .ok (.istore i, 2)) (hn : i < nL) (hl : jst1 lo i (.int v) = lo') (kk : J X P M N k n E nL (pc + 2) (lo') (st)) : J X P M N k n E nL (pc) (lo) (.int v :: st) := by
  obtain ⟨⟨p, l, e, R, s, m, args, below, meth, c⟩, D, tA, A, L⟩ := X
  obtain ⟨hx, hb, hml, hown, hts, hr, hK, hA, hlk, hnm, hR, hl0, hL0⟩ := o
  subst hL0
  intro H locs ls h1 h2 h3
  exact lv_istore hx hb hd h3 hn hl (fun ls' h => kk H locs ls' h1 h2 h)
theorem j_istore_n (o : jok X l0 y cc nL ret rm L0) {i : Fin 4} {v : Int32} (lo' : List (Nat × Value)) (hd : decode cc pc = .ok (.istore_n i, 1)) (hn : (i : Nat) < nL) (hl : jst1 lo (i : Nat) (.int v) = lo') (kk : J X P M N k n E nL (pc + 1) (lo') (st)) : J X P M N k n E nL (pc) (lo) (.int v :: st) := by
  obtain ⟨⟨p, l, e, R, s, m, args, below, meth, c⟩, D, tA, A, L⟩ := X
  obtain ⟨hx, hb, hml, hown, hts, hr, hK, hA, hlk, hnm, hR, hl0, hL0⟩ := o
  subst hL0
  intro H locs ls h1 h2 h3
  exact lv_istore_n hx hb hd rfl h3 hn hl (fun ls' h => kk H locs ls' h1 h2 h)
theorem j_lstore (o : jok X l0 y cc nL ret rm L0) {i : Nat} {v : Int64} (lo' : List (Nat × Value)) (hd : decode cc pc = .ok (.lstore i, 2)) (hn : i + 1 < nL) (hl : jst2 lo i (.long v) = lo') (kk : J X P M N k n E nL (pc + 2) (lo') (st)) : J X P M N k n E nL (pc) (lo) (.long v :: st) := by
  obtain ⟨⟨p, l, e, R, s, m, args, below, meth, c⟩, D, tA, A, L⟩ := X
  obtain ⟨hx, hb, hml, hown, hts, hr, hK, hA, hlk, hnm, hR, hl0, hL0⟩ := o
  subst hL0
  intro H locs ls h1 h2 h3
  exact lv_lstore hx hb hd h3 hn hl (fun ls' h => kk H locs ls' h1 h2 h)
theorem j_lstore_n (o : jok X l0 y cc nL ret rm L0) {i : Fin 4} {v : Int64} (lo' : List (Nat × Value)) (hd : decode cc pc = .ok (.lstore_n i, 1)) (hn : (i : Nat) + 1 < nL) (hl : jst2 lo (i : Nat) (.long v) = lo') (kk : J X P M N k n E nL (pc + 1) (lo') (st)) : J X P M N k n E nL (pc) (lo) (.long v :: st) := by
  obtain ⟨⟨p, l, e, R, s, m, args, below, meth, c⟩, D, tA, A, L⟩ := X
  obtain ⟨hx, hb, hml, hown, hts, hr, hK, hA, hlk, hnm, hR, hl0, hL0⟩ := o
  subst hL0
  intro H locs ls h1 h2 h3
  exact lv_lstore_n hx hb hd rfl h3 hn hl (fun ls' h => kk H locs ls' h1 h2 h)
theorem j_astore (o : jok X l0 y cc nL ret rm L0) {i : Nat} {v : Nat} (lo' : List (Nat × Value)) (hd : decode cc pc = .ok (.astore i, 2)) (hn : i < nL) (hl : jst1 lo i (.ref v) = lo') (kk : J X P M N k n E nL (pc + 2) (lo') (st)) : J X P M N k n E nL (pc) (lo) (.ref v :: st) := by
  obtain ⟨⟨p, l, e, R, s, m, args, below, meth, c⟩, D, tA, A, L⟩ := X
  obtain ⟨hx, hb, hml, hown, hts, hr, hK, hA, hlk, hnm, hR, hl0, hL0⟩ := o
  subst hL0
  intro H locs ls h1 h2 h3
  exact lv_astore hx hb hd h3 hn hl (fun ls' h => kk H locs ls' h1 h2 h)
theorem j_astore_n (o : jok X l0 y cc nL ret rm L0) {i : Fin 4} {v : Nat} (lo' : List (Nat × Value)) (hd : decode cc pc = .ok (.astore_n i, 1)) (hn : (i : Nat) < nL) (hl : jst1 lo (i : Nat) (.ref v) = lo') (kk : J X P M N k n E nL (pc + 1) (lo') (st)) : J X P M N k n E nL (pc) (lo) (.ref v :: st) := by
  obtain ⟨⟨p, l, e, R, s, m, args, below, meth, c⟩, D, tA, A, L⟩ := X
  obtain ⟨hx, hb, hml, hown, hts, hr, hK, hA, hlk, hnm, hR, hl0, hL0⟩ := o
  subst hL0
  intro H locs ls h1 h2 h3
  exact lv_astore_n hx hb hd rfl h3 hn hl (fun ls' h => kk H locs ls' h1 h2 h)
theorem j_astoreN (o : jok X l0 y cc nL ret rm L0) {i : Nat} (lo' : List (Nat × Value)) (hd : decode cc pc = .ok (.astore i, 2)) (hn : i < nL) (hl : jst1 lo i (.null) = lo') (kk : J X P M N k n E nL (pc + 2) (lo') (st)) : J X P M N k n E nL (pc) (lo) (.null :: st) := by
  obtain ⟨⟨p, l, e, R, s, m, args, below, meth, c⟩, D, tA, A, L⟩ := X
  obtain ⟨hx, hb, hml, hown, hts, hr, hK, hA, hlk, hnm, hR, hl0, hL0⟩ := o
  subst hL0
  intro H locs ls h1 h2 h3
  exact lv_astoreN hx hb hd h3 hn hl (fun ls' h => kk H locs ls' h1 h2 h)
theorem j_astore_nN (o : jok X l0 y cc nL ret rm L0) {i : Fin 4} (lo' : List (Nat × Value)) (hd : decode cc pc = .ok (.astore_n i, 1)) (hn : (i : Nat) < nL) (hl : jst1 lo (i : Nat) (.null) = lo') (kk : J X P M N k n E nL (pc + 1) (lo') (st)) : J X P M N k n E nL (pc) (lo) (.null :: st) := by
  obtain ⟨⟨p, l, e, R, s, m, args, below, meth, c⟩, D, tA, A, L⟩ := X
  obtain ⟨hx, hb, hml, hown, hts, hr, hK, hA, hlk, hnm, hR, hl0, hL0⟩ := o
  subst hL0
  intro H locs ls h1 h2 h3
  exact lv_astore_nN hx hb hd rfl h3 hn hl (fun ls' h => kk H locs ls' h1 h2 h)
theorem j_iinc (o : jok X l0 y cc nL ret rm L0) {i : Nat} {z : Int} {a v : Int32} (lo' : List (Nat × Value)) (hd : decode cc pc = .ok (.iinc i z, 3)) (hk : jlk lo i = some (.int a)) (hv : a + Int32.ofInt z = v) (hn : i < nL) (hl : jst1 lo i (.int v) = lo') (kk : J X P M N k n E nL (pc + 3) (lo') (st)) : J X P M N k n E nL (pc) (lo) (st) := by
  obtain ⟨⟨p, l, e, R, s, m, args, below, meth, c⟩, D, tA, A, L⟩ := X
  obtain ⟨hx, hb, hml, hown, hts, hr, hK, hA, hlk, hnm, hR, hl0, hL0⟩ := o
  subst hL0
  intro H locs ls h1 h2 h3
  obtain ⟨j, hj⟩ := List.getElem?_of_mem (jlk_mem hk)
  exact lv_iinc hx hb hd h3 hj hv hn hl (fun ls' h => kk H locs ls' h1 h2 h)
theorem j_if_eq (o : jok X l0 y cc nL ret rm L0) {a : Int32} {off : Int} {tgt : Nat} (hd : decode cc pc = .ok (.ifCond .eq off, 3)) (ht : (pc : Int) + off = (tgt : Int)) (kt : a = 0 → J X P M N k n E nL (tgt) (lo) (st)) (kf : ¬ a = 0 → J X P M N k n E nL (pc + 3) (lo) (st)) : J X P M N k n E nL (pc) (lo) (.int a :: st) := by
  obtain ⟨⟨p, l, e, R, s, m, args, below, meth, c⟩, D, tA, A, L⟩ := X
  obtain ⟨hx, hb, hml, hown, hts, hr, hK, hA, hlk, hnm, hR, hl0, hL0⟩ := o
  subst hL0
  intro H locs ls h1 h2 h3
  exact lv_if_eq hx hb hd ht (fun h => kt h H locs ls h1 h2 h3) (fun h => kf h H locs ls h1 h2 h3)
theorem j_if_ne (o : jok X l0 y cc nL ret rm L0) {a : Int32} {off : Int} {tgt : Nat} (hd : decode cc pc = .ok (.ifCond .ne off, 3)) (ht : (pc : Int) + off = (tgt : Int)) (kt : ¬ a = 0 → J X P M N k n E nL (tgt) (lo) (st)) (kf : a = 0 → J X P M N k n E nL (pc + 3) (lo) (st)) : J X P M N k n E nL (pc) (lo) (.int a :: st) := by
  obtain ⟨⟨p, l, e, R, s, m, args, below, meth, c⟩, D, tA, A, L⟩ := X
  obtain ⟨hx, hb, hml, hown, hts, hr, hK, hA, hlk, hnm, hR, hl0, hL0⟩ := o
  subst hL0
  intro H locs ls h1 h2 h3
  exact lv_if_ne hx hb hd ht (fun h => kt h H locs ls h1 h2 h3) (fun h => kf h H locs ls h1 h2 h3)
theorem j_if_lt (o : jok X l0 y cc nL ret rm L0) {a : Int32} {off : Int} {tgt : Nat} (hd : decode cc pc = .ok (.ifCond .lt off, 3)) (ht : (pc : Int) + off = (tgt : Int)) (kt : a < 0 → J X P M N k n E nL (tgt) (lo) (st)) (kf : ¬ a < 0 → J X P M N k n E nL (pc + 3) (lo) (st)) : J X P M N k n E nL (pc) (lo) (.int a :: st) := by
  obtain ⟨⟨p, l, e, R, s, m, args, below, meth, c⟩, D, tA, A, L⟩ := X
  obtain ⟨hx, hb, hml, hown, hts, hr, hK, hA, hlk, hnm, hR, hl0, hL0⟩ := o
  subst hL0
  intro H locs ls h1 h2 h3
  exact lv_if_lt hx hb hd ht (fun h => kt h H locs ls h1 h2 h3) (fun h => kf h H locs ls h1 h2 h3)
theorem j_if_ge (o : jok X l0 y cc nL ret rm L0) {a : Int32} {off : Int} {tgt : Nat} (hd : decode cc pc = .ok (.ifCond .ge off, 3)) (ht : (pc : Int) + off = (tgt : Int)) (kt : 0 ≤ a → J X P M N k n E nL (tgt) (lo) (st)) (kf : ¬ 0 ≤ a → J X P M N k n E nL (pc + 3) (lo) (st)) : J X P M N k n E nL (pc) (lo) (.int a :: st) := by
  obtain ⟨⟨p, l, e, R, s, m, args, below, meth, c⟩, D, tA, A, L⟩ := X
  obtain ⟨hx, hb, hml, hown, hts, hr, hK, hA, hlk, hnm, hR, hl0, hL0⟩ := o
  subst hL0
  intro H locs ls h1 h2 h3
  exact lv_if_ge hx hb hd ht (fun h => kt h H locs ls h1 h2 h3) (fun h => kf h H locs ls h1 h2 h3)
theorem j_if_gt (o : jok X l0 y cc nL ret rm L0) {a : Int32} {off : Int} {tgt : Nat} (hd : decode cc pc = .ok (.ifCond .gt off, 3)) (ht : (pc : Int) + off = (tgt : Int)) (kt : 0 < a → J X P M N k n E nL (tgt) (lo) (st)) (kf : ¬ 0 < a → J X P M N k n E nL (pc + 3) (lo) (st)) : J X P M N k n E nL (pc) (lo) (.int a :: st) := by
  obtain ⟨⟨p, l, e, R, s, m, args, below, meth, c⟩, D, tA, A, L⟩ := X
  obtain ⟨hx, hb, hml, hown, hts, hr, hK, hA, hlk, hnm, hR, hl0, hL0⟩ := o
  subst hL0
  intro H locs ls h1 h2 h3
  exact lv_if_gt hx hb hd ht (fun h => kt h H locs ls h1 h2 h3) (fun h => kf h H locs ls h1 h2 h3)
theorem j_if_le (o : jok X l0 y cc nL ret rm L0) {a : Int32} {off : Int} {tgt : Nat} (hd : decode cc pc = .ok (.ifCond .le off, 3)) (ht : (pc : Int) + off = (tgt : Int)) (kt : a ≤ 0 → J X P M N k n E nL (tgt) (lo) (st)) (kf : ¬ a ≤ 0 → J X P M N k n E nL (pc + 3) (lo) (st)) : J X P M N k n E nL (pc) (lo) (.int a :: st) := by
  obtain ⟨⟨p, l, e, R, s, m, args, below, meth, c⟩, D, tA, A, L⟩ := X
  obtain ⟨hx, hb, hml, hown, hts, hr, hK, hA, hlk, hnm, hR, hl0, hL0⟩ := o
  subst hL0
  intro H locs ls h1 h2 h3
  exact lv_if_le hx hb hd ht (fun h => kt h H locs ls h1 h2 h3) (fun h => kf h H locs ls h1 h2 h3)
theorem j_icmp_eq (o : jok X l0 y cc nL ret rm L0) {a b : Int32} {off : Int} {tgt : Nat} (hd : decode cc pc = .ok (.if_icmp .eq off, 3)) (ht : (pc : Int) + off = (tgt : Int)) (kt : a = b → J X P M N k n E nL (tgt) (lo) (st)) (kf : ¬ a = b → J X P M N k n E nL (pc + 3) (lo) (st)) : J X P M N k n E nL (pc) (lo) (.int b :: .int a :: st) := by
  obtain ⟨⟨p, l, e, R, s, m, args, below, meth, c⟩, D, tA, A, L⟩ := X
  obtain ⟨hx, hb, hml, hown, hts, hr, hK, hA, hlk, hnm, hR, hl0, hL0⟩ := o
  subst hL0
  intro H locs ls h1 h2 h3
  exact lv_icmp_eq hx hb hd ht (fun h => kt h H locs ls h1 h2 h3) (fun h => kf h H locs ls h1 h2 h3)
theorem j_icmp_ne (o : jok X l0 y cc nL ret rm L0) {a b : Int32} {off : Int} {tgt : Nat} (hd : decode cc pc = .ok (.if_icmp .ne off, 3)) (ht : (pc : Int) + off = (tgt : Int)) (kt : ¬ a = b → J X P M N k n E nL (tgt) (lo) (st)) (kf : a = b → J X P M N k n E nL (pc + 3) (lo) (st)) : J X P M N k n E nL (pc) (lo) (.int b :: .int a :: st) := by
  obtain ⟨⟨p, l, e, R, s, m, args, below, meth, c⟩, D, tA, A, L⟩ := X
  obtain ⟨hx, hb, hml, hown, hts, hr, hK, hA, hlk, hnm, hR, hl0, hL0⟩ := o
  subst hL0
  intro H locs ls h1 h2 h3
  exact lv_icmp_ne hx hb hd ht (fun h => kt h H locs ls h1 h2 h3) (fun h => kf h H locs ls h1 h2 h3)
theorem j_icmp_lt (o : jok X l0 y cc nL ret rm L0) {a b : Int32} {off : Int} {tgt : Nat} (hd : decode cc pc = .ok (.if_icmp .lt off, 3)) (ht : (pc : Int) + off = (tgt : Int)) (kt : a < b → J X P M N k n E nL (tgt) (lo) (st)) (kf : ¬ a < b → J X P M N k n E nL (pc + 3) (lo) (st)) : J X P M N k n E nL (pc) (lo) (.int b :: .int a :: st) := by
  obtain ⟨⟨p, l, e, R, s, m, args, below, meth, c⟩, D, tA, A, L⟩ := X
  obtain ⟨hx, hb, hml, hown, hts, hr, hK, hA, hlk, hnm, hR, hl0, hL0⟩ := o
  subst hL0
  intro H locs ls h1 h2 h3
  exact lv_icmp_lt hx hb hd ht (fun h => kt h H locs ls h1 h2 h3) (fun h => kf h H locs ls h1 h2 h3)
theorem j_icmp_ge (o : jok X l0 y cc nL ret rm L0) {a b : Int32} {off : Int} {tgt : Nat} (hd : decode cc pc = .ok (.if_icmp .ge off, 3)) (ht : (pc : Int) + off = (tgt : Int)) (kt : b ≤ a → J X P M N k n E nL (tgt) (lo) (st)) (kf : ¬ b ≤ a → J X P M N k n E nL (pc + 3) (lo) (st)) : J X P M N k n E nL (pc) (lo) (.int b :: .int a :: st) := by
  obtain ⟨⟨p, l, e, R, s, m, args, below, meth, c⟩, D, tA, A, L⟩ := X
  obtain ⟨hx, hb, hml, hown, hts, hr, hK, hA, hlk, hnm, hR, hl0, hL0⟩ := o
  subst hL0
  intro H locs ls h1 h2 h3
  exact lv_icmp_ge hx hb hd ht (fun h => kt h H locs ls h1 h2 h3) (fun h => kf h H locs ls h1 h2 h3)
theorem j_icmp_gt (o : jok X l0 y cc nL ret rm L0) {a b : Int32} {off : Int} {tgt : Nat} (hd : decode cc pc = .ok (.if_icmp .gt off, 3)) (ht : (pc : Int) + off = (tgt : Int)) (kt : b < a → J X P M N k n E nL (tgt) (lo) (st)) (kf : ¬ b < a → J X P M N k n E nL (pc + 3) (lo) (st)) : J X P M N k n E nL (pc) (lo) (.int b :: .int a :: st) := by
  obtain ⟨⟨p, l, e, R, s, m, args, below, meth, c⟩, D, tA, A, L⟩ := X
  obtain ⟨hx, hb, hml, hown, hts, hr, hK, hA, hlk, hnm, hR, hl0, hL0⟩ := o
  subst hL0
  intro H locs ls h1 h2 h3
  exact lv_icmp_gt hx hb hd ht (fun h => kt h H locs ls h1 h2 h3) (fun h => kf h H locs ls h1 h2 h3)
theorem j_icmp_le (o : jok X l0 y cc nL ret rm L0) {a b : Int32} {off : Int} {tgt : Nat} (hd : decode cc pc = .ok (.if_icmp .le off, 3)) (ht : (pc : Int) + off = (tgt : Int)) (kt : a ≤ b → J X P M N k n E nL (tgt) (lo) (st)) (kf : ¬ a ≤ b → J X P M N k n E nL (pc + 3) (lo) (st)) : J X P M N k n E nL (pc) (lo) (.int b :: .int a :: st) := by
  obtain ⟨⟨p, l, e, R, s, m, args, below, meth, c⟩, D, tA, A, L⟩ := X
  obtain ⟨hx, hb, hml, hown, hts, hr, hK, hA, hlk, hnm, hR, hl0, hL0⟩ := o
  subst hL0
  intro H locs ls h1 h2 h3
  exact lv_icmp_le hx hb hd ht (fun h => kt h H locs ls h1 h2 h3) (fun h => kf h H locs ls h1 h2 h3)
theorem j_goto (o : jok X l0 y cc nL ret rm L0) {off : Int} {tgt : Nat} (hd : decode cc pc = .ok (.goto off, 3)) (ht : (pc : Int) + off = (tgt : Int)) (kk : J X P M N k n E nL (tgt) (lo) (st)) : J X P M N k n E nL (pc) (lo) (st) := by
  obtain ⟨⟨p, l, e, R, s, m, args, below, meth, c⟩, D, tA, A, L⟩ := X
  obtain ⟨hx, hb, hml, hown, hts, hr, hK, hA, hlk, hnm, hR, hl0, hL0⟩ := o
  subst hL0
  intro H locs ls h1 h2 h3
  exact lv_goto hx hb hd ht (kk H locs ls h1 h2 h3)
theorem j_lcmp (o : jok X l0 y cc nL ret rm L0) {a b : Int64} (hd : decode cc pc = .ok (.lcmp, 1)) (kk : J X P M N k n E nL (pc + 1) (lo) (.int (lg_cmp a b) :: st)) : J X P M N k n E nL (pc) (lo) (.long b :: .long a :: st) := by
  obtain ⟨⟨p, l, e, R, s, m, args, below, meth, c⟩, D, tA, A, L⟩ := X
  obtain ⟨hx, hb, hml, hown, hts, hr, hK, hA, hlk, hnm, hR, hl0, hL0⟩ := o
  subst hL0
  intro H locs ls h1 h2 h3
  exact W.lcmp hx hb hd (kk H locs ls h1 h2 h3)
theorem j_ifnonnull (o : jok X l0 y cc nL ret rm L0) {a : Nat} {off : Int} {tgt : Nat} (hd : decode cc pc = .ok (.ifnonnull off, 3)) (ht : (pc : Int) + off = (tgt : Int)) (kk : J X P M N k n E nL (tgt) (lo) (st)) : J X P M N k n E nL (pc) (lo) (.ref a :: st) := by
  obtain ⟨⟨p, l, e, R, s, m, args, below, meth, c⟩, D, tA, A, L⟩ := X
  obtain ⟨hx, hb, hml, hown, hts, hr, hK, hA, hlk, hnm, hR, hl0, hL0⟩ := o
  subst hL0
  intro H locs ls h1 h2 h3
  exact lv_ifnonnull hx hb hd ht (kk H locs ls h1 h2 h3)
theorem j_ifnonnullN (o : jok X l0 y cc nL ret rm L0) {off : Int} (hd : decode cc pc = .ok (.ifnonnull off, 3)) (kk : J X P M N k n E nL (pc + 3) (lo) (st)) : J X P M N k n E nL (pc) (lo) (.null :: st) := by
  obtain ⟨⟨p, l, e, R, s, m, args, below, meth, c⟩, D, tA, A, L⟩ := X
  obtain ⟨hx, hb, hml, hown, hts, hr, hK, hA, hlk, hnm, hR, hl0, hL0⟩ := o
  subst hL0
  intro H locs ls h1 h2 h3
  exact lv_ifnonnullN hx hb hd (kk H locs ls h1 h2 h3)
theorem j_ifnull (o : jok X l0 y cc nL ret rm L0) {a : Nat} {off : Int} (hd : decode cc pc = .ok (.ifnull off, 3)) (kk : J X P M N k n E nL (pc + 3) (lo) (st)) : J X P M N k n E nL (pc) (lo) (.ref a :: st) := by
  obtain ⟨⟨p, l, e, R, s, m, args, below, meth, c⟩, D, tA, A, L⟩ := X
  obtain ⟨hx, hb, hml, hown, hts, hr, hK, hA, hlk, hnm, hR, hl0, hL0⟩ := o
  subst hL0
  intro H locs ls h1 h2 h3
  exact lv_ifnull hx hb hd (kk H locs ls h1 h2 h3)
theorem j_ifnullN (o : jok X l0 y cc nL ret rm L0) {off : Int} {tgt : Nat} (hd : decode cc pc = .ok (.ifnull off, 3)) (ht : (pc : Int) + off = (tgt : Int)) (kk : J X P M N k n E nL (tgt) (lo) (st)) : J X P M N k n E nL (pc) (lo) (.null :: st) := by
  obtain ⟨⟨p, l, e, R, s, m, args, below, meth, c⟩, D, tA, A, L⟩ := X
  obtain ⟨hx, hb, hml, hown, hts, hr, hK, hA, hlk, hnm, hR, hl0, hL0⟩ := o
  subst hL0
  intro H locs ls h1 h2 h3
  exact lv_ifnullN hx hb hd ht (kk H locs ls h1 h2 h3)
theorem j_ldc (o : jok X l0 y cc nL ret rm L0) {ix : Nat} {v : Int32} (hc : Cond.constant y.cls ix v ∈ jw_tbl) (hd : decode cc pc = .ok (.ldc ix, 2)) (kk : J X P M N k n E nL (pc + 2) (lo) (.int v :: st)) : J X P M N k n E nL (pc) (lo) (st) := by
  obtain ⟨⟨p, l, e, R, s, m, args, below, meth, c⟩, D, tA, A, L⟩ := X
  obtain ⟨hx, hb, hml, hown, hts, hr, hK, hA, hlk, hnm, hR, hl0, hL0⟩ := o
  subst hL0
  intro H locs ls h1 h2 h3
  exact lv_ldc hx hb hown (hts _ hc) hd (kk H locs ls h1 h2 h3)
theorem j_ldc2 (o : jok X l0 y cc nL ret rm L0) {ix : Nat} {v : Int64} (hc : Cond.constantLong y.cls ix v ∈ jw_tbl) (hd : decode cc pc = .ok (.ldc2_w ix, 3)) (kk : J X P M N k n E nL (pc + 3) (lo) (.long v :: st)) : J X P M N k n E nL (pc) (lo) (st) := by
  obtain ⟨⟨p, l, e, R, s, m, args, below, meth, c⟩, D, tA, A, L⟩ := X
  obtain ⟨hx, hb, hml, hown, hts, hr, hK, hA, hlk, hnm, hR, hl0, hL0⟩ := o
  subst hL0
  intro H locs ls h1 h2 h3
  exact lv_ldc2 hx hb hown (hts _ hc) hd (kk H locs ls h1 h2 h3)
end JW
