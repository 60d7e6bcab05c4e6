theorem w_iadd {E : Ev2} {own : String} {tb : Tb} {nL : Nat} {ret : Option FieldType} {pc nx : Nat} {lv : Lv} {st : List Value} {mm : Mem} {A : AS} {dm : DM} {x y : Int32} (B : Bx2 E own tb nL ret) (i : Nat) (h : tb[i]? = some (pc, .iadd, 1, nx)) (k : G2 E nL nx lv (.int (x + y) :: st) mm A dm) : G2 E nL pc lv (.int y :: .int x :: st) mm A dm := by
  obtain ⟨p, l, e, R, s, m, args, below, meth, c, Q, K, A0, res, mo, fA, fd⟩ := E
  obtain ⟨hd, hn⟩ := Bx2.dec B h
  subst hn
  intro H locs ls hg hP hS hl
  exact lv_iadd B.1 rfl hd (k H locs ls hg hP hS hl)
theorem w_isub {E : Ev2} {own : String} {tb : Tb} {nL : Nat} {ret : Option FieldType} {pc nx : Nat} {lv : Lv} {st : List Value} {mm : Mem} {A : AS} {dm : DM} {x y : Int32} (B : Bx2 E own tb nL ret) (i : Nat) (h : tb[i]? = some (pc, .isub, 1, nx)) (k : G2 E nL nx lv (.int (x - y) :: st) mm A dm) : G2 E nL pc lv (.int y :: .int x :: st) mm A dm := by
  obtain ⟨p, l, e, R, s, m, args, below, meth, c, Q, K, A0, res, mo, fA, fd⟩ := E
  obtain ⟨hd, hn⟩ := Bx2.dec B h
  subst hn
  intro H locs ls hg hP hS hl
  exact lv_isub B.1 rfl hd (k H locs ls hg hP hS hl)
theorem w_imul {E : Ev2} {own : String} {tb : Tb} {nL : Nat} {ret : Option FieldType} {pc nx : Nat} {lv : Lv} {st : List Value} {mm : Mem} {A : AS} {dm : DM} {x y : Int32} (B : Bx2 E own tb nL ret) (i : Nat) (h : tb[i]? = some (pc, .imul, 1, nx)) (k : G2 E nL nx lv (.int (x * y) :: st) mm A dm) : G2 E nL pc lv (.int y :: .int x :: st) mm A dm := by
  obtain ⟨p, l, e, R, s, m, args, below, meth, c, Q, K, A0, res, mo, fA, fd⟩ := E
  obtain ⟨hd, hn⟩ := Bx2.dec B h
  subst hn
  intro H locs ls hg hP hS hl
  exact lv_imul B.1 rfl hd (k H locs ls hg hP hS hl)
theorem w_iand {E : Ev2} {own : String} {tb : Tb} {nL : Nat} {ret : Option FieldType} {pc nx : Nat} {lv : Lv} {st : List Value} {mm : Mem} {A : AS} {dm : DM} {x y : Int32} (B : Bx2 E own tb nL ret) (i : Nat) (h : tb[i]? = some (pc, .iand, 1, nx)) (k : G2 E nL nx lv (.int (x &&& y) :: st) mm A dm) : G2 E nL pc lv (.int y :: .int x :: st) mm A dm := by
  obtain ⟨p, l, e, R, s, m, args, below, meth, c, Q, K, A0, res, mo, fA, fd⟩ := E
  obtain ⟨hd, hn⟩ := Bx2.dec B h
  subst hn
  intro H locs ls hg hP hS hl
  exact lv_iand B.1 rfl hd (k H locs ls hg hP hS hl)
theorem w_ior {E : Ev2} {own : String} {tb : Tb} {nL : Nat} {ret : Option FieldType} {pc nx : Nat} {lv : Lv} {st : List Value} {mm : Mem} {A : AS} {dm : DM} {x y : Int32} (B : Bx2 E own tb nL ret) (i : Nat) (h : tb[i]? = some (pc, .ior, 1, nx)) (k : G2 E nL nx lv (.int (x ||| y) :: st) mm A dm) : G2 E nL pc lv (.int y :: .int x :: st) mm A dm := by
  obtain ⟨p, l, e, R, s, m, args, below, meth, c, Q, K, A0, res, mo, fA, fd⟩ := E
  obtain ⟨hd, hn⟩ := Bx2.dec B h
  subst hn
  intro H locs ls hg hP hS hl
  exact lv_ior B.1 rfl hd (k H locs ls hg hP hS hl)
theorem w_ishl {E : Ev2} {own : String} {tb : Tb} {nL : Nat} {ret : Option FieldType} {pc nx : Nat} {lv : Lv} {st : List Value} {mm : Mem} {A : AS} {dm : DM} {x y : Int32} (B : Bx2 E own tb nL ret) (i : Nat) (h : tb[i]? = some (pc, .ishl, 1, nx)) (k : G2 E nL nx lv (.int (x <<< (y &&& 31)) :: st) mm A dm) : G2 E nL pc lv (.int y :: .int x :: st) mm A dm := by
  obtain ⟨p, l, e, R, s, m, args, below, meth, c, Q, K, A0, res, mo, fA, fd⟩ := E
  obtain ⟨hd, hn⟩ := Bx2.dec B h
  subst hn
  intro H locs ls hg hP hS hl
  exact lv_ishl B.1 rfl hd (k H locs ls hg hP hS hl)
theorem w_ishr {E : Ev2} {own : String} {tb : Tb} {nL : Nat} {ret : Option FieldType} {pc nx : Nat} {lv : Lv} {st : List Value} {mm : Mem} {A : AS} {dm : DM} {x y : Int32} (B : Bx2 E own tb nL ret) (i : Nat) (h : tb[i]? = some (pc, .ishr, 1, nx)) (k : G2 E nL nx lv (.int (x >>> (y &&& 31)) :: st) mm A dm) : G2 E nL pc lv (.int y :: .int x :: st) mm A dm := by
  obtain ⟨p, l, e, R, s, m, args, below, meth, c, Q, K, A0, res, mo, fA, fd⟩ := E
  obtain ⟨hd, hn⟩ := Bx2.dec B h
  subst hn
  intro H locs ls hg hP hS hl
  exact lv_ishr B.1 rfl hd (k H locs ls hg hP hS hl)
theorem w_iushr {E : Ev2} {own : String} {tb : Tb} {nL : Nat} {ret : Option FieldType} {pc nx : Nat} {lv : Lv} {st : List Value} {mm : Mem} {A : AS} {dm : DM} {x y : Int32} (B : Bx2 E own tb nL ret) (i : Nat) (h : tb[i]? = some (pc, .iushr, 1, nx)) (k : G2 E nL nx lv (.int ((x.toUInt32 >>> (y.toUInt32 &&& Int32.toUInt32 31)).toInt32) :: st) mm A dm) : G2 E nL pc lv (.int y :: .int x :: st) mm A dm := by
  obtain ⟨p, l, e, R, s, m, args, below, meth, c, Q, K, A0, res, mo, fA, fd⟩ := E
  obtain ⟨hd, hn⟩ := Bx2.dec B h
  subst hn
  intro H locs ls hg hP hS hl
  exact lv_iushr B.1 rfl hd rfl (k H locs ls hg hP hS hl)
theorem w_idiv {E : Ev2} {own : String} {tb : Tb} {nL : Nat} {ret : Option FieldType} {pc nx : Nat} {lv : Lv} {st : List Value} {mm : Mem} {A : AS} {dm : DM} {x y : Int32} (B : Bx2 E own tb nL ret) (i : Nat) (h : tb[i]? = some (pc, .idiv, 1, nx)) (hy : ¬ y = 0) (k : G2 E nL nx lv (.int (x / y) :: st) mm A dm) : G2 E nL pc lv (.int y :: .int x :: st) mm A dm := by
  obtain ⟨p, l, e, R, s, m, args, below, meth, c, Q, K, A0, res, mo, fA, fd⟩ := E
  obtain ⟨hd, hn⟩ := Bx2.dec B h
  subst hn
  intro H locs ls hg hP hS hl
  exact lv_idiv B.1 rfl hd hy (k H locs ls hg hP hS hl)
theorem w_ineg {E : Ev2} {own : String} {tb : Tb} {nL : Nat} {ret : Option FieldType} {pc nx : Nat} {lv : Lv} {st : List Value} {mm : Mem} {A : AS} {dm : DM} {x : Int32} (B : Bx2 E own tb nL ret) (i : Nat) (h : tb[i]? = some (pc, .ineg, 1, nx)) (k : G2 E nL nx lv (.int (-x) :: st) mm A dm) : G2 E nL pc lv (.int x :: st) mm A dm := by
  obtain ⟨p, l, e, R, s, m, args, below, meth, c, Q, K, A0, res, mo, fA, fd⟩ := E
  obtain ⟨hd, hn⟩ := Bx2.dec B h
  subst hn
  intro H locs ls hg hP hS hl
  exact lv_ineg B.1 rfl hd (k H locs ls hg hP hS hl)
theorem w_i2l {E : Ev2} {own : String} {tb : Tb} {nL : Nat} {ret : Option FieldType} {pc nx : Nat} {lv : Lv} {st : List Value} {mm : Mem} {A : AS} {dm : DM} {x : Int32} (B : Bx2 E own tb nL ret) (i : Nat) (h : tb[i]? = some (pc, .i2l, 1, nx)) (k : G2 E nL nx lv (.long (x.toInt64) :: st) mm A dm) : G2 E nL pc lv (.int x :: st) mm A dm := by
  obtain ⟨p, l, e, R, s, m, args, below, meth, c, Q, K, A0, res, mo, fA, fd⟩ := E
  obtain ⟨hd, hn⟩ := Bx2.dec B h
  subst hn
  intro H locs ls hg hP hS hl
  exact lv_i2l B.1 rfl hd rfl (k H locs ls hg hP hS hl)
theorem w_ladd {E : Ev2} {own : String} {tb : Tb} {nL : Nat} {ret : Option FieldType} {pc nx : Nat} {lv : Lv} {st : List Value} {mm : Mem} {A : AS} {dm : DM} {x y : Int64} (B : Bx2 E own tb nL ret) (i : Nat) (h : tb[i]? = some (pc, .ladd, 1, nx)) (k : G2 E nL nx lv (.long (x + y) :: st) mm A dm) : G2 E nL pc lv (.long y :: .long x :: st) mm A dm := by
  obtain ⟨p, l, e, R, s, m, args, below, meth, c, Q, K, A0, res, mo, fA, fd⟩ := E
  obtain ⟨hd, hn⟩ := Bx2.dec B h
  subst hn
  intro H locs ls hg hP hS hl
  exact lv_ladd B.1 rfl hd (k H locs ls hg hP hS hl)
theorem w_lsub {E : Ev2} {own : String} {tb : Tb} {nL : Nat} {ret : Option FieldType} {pc nx : Nat} {lv : Lv} {st : List Value} {mm : Mem} {A : AS} {dm : DM} {x y : Int64} (B : Bx2 E own tb nL ret) (i : Nat) (h : tb[i]? = some (pc, .lsub, 1, nx)) (k : G2 E nL nx lv (.long (x - y) :: st) mm A dm) : G2 E nL pc lv (.long y :: .long x :: st) mm A dm := by
  obtain ⟨p, l, e, R, s, m, args, below, meth, c, Q, K, A0, res, mo, fA, fd⟩ := E
  obtain ⟨hd, hn⟩ := Bx2.dec B h
  subst hn
  intro H locs ls hg hP hS hl
  exact lv_lsub B.1 rfl hd (k H locs ls hg hP hS hl)
theorem w_lmul {E : Ev2} {own : String} {tb : Tb} {nL : Nat} {ret : Option FieldType} {pc nx : Nat} {lv : Lv} {st : List Value} {mm : Mem} {A : AS} {dm : DM} {x y : Int64} (B : Bx2 E own tb nL ret) (i : Nat) (h : tb[i]? = some (pc, .lmul, 1, nx)) (k : G2 E nL nx lv (.long (x * y) :: st) mm A dm) : G2 E nL pc lv (.long y :: .long x :: st) mm A dm := by
  obtain ⟨p, l, e, R, s, m, args, below, meth, c, Q, K, A0, res, mo, fA, fd⟩ := E
  obtain ⟨hd, hn⟩ := Bx2.dec B h
  subst hn
  intro H locs ls hg hP hS hl
  exact lv_lmul B.1 rfl hd (k H locs ls hg hP hS hl)
theorem w_lcmp {E : Ev2} {own : String} {tb : Tb} {nL : Nat} {ret : Option FieldType} {pc nx : Nat} {lv : Lv} {st : List Value} {mm : Mem} {A : AS} {dm : DM} {x y : Int64} (B : Bx2 E own tb nL ret) (i : Nat) (h : tb[i]? = some (pc, .lcmp, 1, nx)) (k : G2 E nL nx lv (.int (lg_cmp x y) :: st) mm A dm) : G2 E nL pc lv (.long y :: .long x :: st) mm A dm := by
  obtain ⟨p, l, e, R, s, m, args, below, meth, c, Q, K, A0, res, mo, fA, fd⟩ := E
  obtain ⟨hd, hn⟩ := Bx2.dec B h
  subst hn
  intro H locs ls hg hP hS hl
  exact W.lcmp B.1 rfl hd (k H locs ls hg hP hS hl)
theorem w_iconst {E : Ev2} {own : String} {tb : Tb} {nL : Nat} {ret : Option FieldType} {pc nx : Nat} {lv : Lv} {st : List Value} {mm : Mem} {A : AS} {dm : DM} {n : Int} (v : Int32) (B : Bx2 E own tb nL ret) (i : Nat) (h : tb[i]? = some (pc, .iconst n, 1, nx)) (hv : Int32.ofInt n = v) (k : G2 E nL nx lv (.int v :: st) mm A dm) : G2 E nL pc lv st mm A dm := by
  obtain ⟨p, l, e, R, s, m, args, below, meth, c, Q, K, A0, res, mo, fA, fd⟩ := E
  obtain ⟨hd, hn⟩ := Bx2.dec B h
  subst hn
  intro H locs ls hg hP hS hl
  exact lv_iconst B.1 rfl hd hv (k H locs ls hg hP hS hl)
theorem w_bipush {E : Ev2} {own : String} {tb : Tb} {nL : Nat} {ret : Option FieldType} {pc nx : Nat} {lv : Lv} {st : List Value} {mm : Mem} {A : AS} {dm : DM} {n : Int} (v : Int32) (B : Bx2 E own tb nL ret) (i : Nat) (h : tb[i]? = some (pc, .bipush n, 2, nx)) (hv : (Int8.ofInt n).toInt32 = v) (k : G2 E nL nx lv (.int v :: st) mm A dm) : G2 E nL pc lv st mm A dm := by
  obtain ⟨p, l, e, R, s, m, args, below, meth, c, Q, K, A0, res, mo, fA, fd⟩ := E
  obtain ⟨hd, hn⟩ := Bx2.dec B h
  subst hn
  intro H locs ls hg hP hS hl
  exact lv_bipush B.1 rfl hd hv (k H locs ls hg hP hS hl)
theorem w_sipush {E : Ev2} {own : String} {tb : Tb} {nL : Nat} {ret : Option FieldType} {pc nx : Nat} {lv : Lv} {st : List Value} {mm : Mem} {A : AS} {dm : DM} {n : Int} (v : Int32) (B : Bx2 E own tb nL ret) (i : Nat) (h : tb[i]? = some (pc, .sipush n, 3, nx)) (hv : (Int16.ofInt n).toInt32 = v) (k : G2 E nL nx lv (.int v :: st) mm A dm) : G2 E nL pc lv st mm A dm := by
  obtain ⟨p, l, e, R, s, m, args, below, meth, c, Q, K, A0, res, mo, fA, fd⟩ := E
  obtain ⟨hd, hn⟩ := Bx2.dec B h
  subst hn
  intro H locs ls hg hP hS hl
  exact lv_sipush B.1 rfl hd hv (k H locs ls hg hP hS hl)
theorem w_lconst {E : Ev2} {own : String} {tb : Tb} {nL : Nat} {ret : Option FieldType} {pc nx : Nat} {lv : Lv} {st : List Value} {mm : Mem} {A : AS} {dm : DM} {n : Fin 2} (v : Int64) (B : Bx2 E own tb nL ret) (i : Nat) (h : tb[i]? = some (pc, .lconst n, 1, nx)) (hv : Int64.ofNat (n : Nat) = v) (k : G2 E nL nx lv (.long v :: st) mm A dm) : G2 E nL pc lv st mm A dm := by
  obtain ⟨p, l, e, R, s, m, args, below, meth, c, Q, K, A0, res, mo, fA, fd⟩ := E
  obtain ⟨hd, hn⟩ := Bx2.dec B h
  subst hn
  intro H locs ls hg hP hS hl
  exact lv_lconst B.1 rfl hd hv (k H locs ls hg hP hS hl)
theorem w_ldc {E : Ev2} {own : String} {tb : Tb} {nL : Nat} {ret : Option FieldType} {pc nx : Nat} {lv : Lv} {st : List Value} {mm : Mem} {A : AS} {dm : DM} {n : Nat} (v : Int32) (B : Bx2 E own tb nL ret) (i : Nat) (h : tb[i]? = some (pc, .ldc n, 2, nx)) (hw : Cond.constant own n v ∈ TW) (k : G2 E nL nx lv (.int v :: st) mm A dm) : G2 E nL pc lv st mm A dm := by
  obtain ⟨p, l, e, R, s, m, args, below, meth, c, Q, K, A0, res, mo, fA, fd⟩ := E
  obtain ⟨hd, hn⟩ := Bx2.dec B h
  subst hn
  intro H locs ls hg hP hS hl
  exact lv_ldc B.1 rfl B.hown (B.tw _ hw) hd (k H locs ls hg hP hS hl)
theorem w_ldc2 {E : Ev2} {own : String} {tb : Tb} {nL : Nat} {ret : Option FieldType} {pc nx : Nat} {lv : Lv} {st : List Value} {mm : Mem} {A : AS} {dm : DM} {n : Nat} (v : Int64) (B : Bx2 E own tb nL ret) (i : Nat) (h : tb[i]? = some (pc, .ldc2_w n, 3, nx)) (hw : Cond.constantLong own n v ∈ TW) (k : G2 E nL nx lv (.long v :: st) mm A dm) : G2 E nL pc lv st mm A dm := by
  obtain ⟨p, l, e, R, s, m, args, below, meth, c, Q, K, A0, res, mo, fA, fd⟩ := E
  obtain ⟨hd, hn⟩ := Bx2.dec B h
  subst hn
  intro H locs ls hg hP hS hl
  exact lv_ldc2 B.1 rfl B.hown (B.tw _ hw) hd (k H locs ls hg hP hS hl)
theorem w_iload_n {E : Ev2} {own : String} {tb : Tb} {nL : Nat} {ret : Option FieldType} {pc nx : Nat} {lv : Lv} {st : List Value} {mm : Mem} {A : AS} {dm : DM} {x : Int32} {kk : Fin 4} (B : Bx2 E own tb nL ret) (i : Nat) (h : tb[i]? = some (pc, .iload_n kk, 1, nx)) (q j : Nat) (hq : (kk : Nat) = q) (hj : lv[j]? = some (q, .int x)) (k : G2 E nL nx lv (.int x :: st) mm A dm) : G2 E nL pc lv st mm A dm := by
  obtain ⟨p, l, e, R, s, m, args, below, meth, c, Q, K, A0, res, mo, fA, fd⟩ := E
  obtain ⟨hd, hn⟩ := Bx2.dec B h
  subst hn
  intro H locs ls hg hP hS hl
  exact lv_iload_n B.1 rfl hd hq (lv_at hl j (lvm hj)) (k H locs ls hg hP hS hl)
theorem w_iload {E : Ev2} {own : String} {tb : Tb} {nL : Nat} {ret : Option FieldType} {pc nx : Nat} {lv : Lv} {st : List Value} {mm : Mem} {A : AS} {dm : DM} {x : Int32} {q : Nat} (B : Bx2 E own tb nL ret) (i : Nat) (h : tb[i]? = some (pc, .iload q, 2, nx)) (j : Nat) (hj : lv[j]? = some (q, .int x)) (k : G2 E nL nx lv (.int x :: st) mm A dm) : G2 E nL pc lv st mm A dm := by
  obtain ⟨p, l, e, R, s, m, args, below, meth, c, Q, K, A0, res, mo, fA, fd⟩ := E
  obtain ⟨hd, hn⟩ := Bx2.dec B h
  subst hn
  intro H locs ls hg hP hS hl
  exact lv_iload B.1 rfl hd (lv_at hl j (lvm hj)) (k H locs ls hg hP hS hl)
theorem w_lload_n {E : Ev2} {own : String} {tb : Tb} {nL : Nat} {ret : Option FieldType} {pc nx : Nat} {lv : Lv} {st : List Value} {mm : Mem} {A : AS} {dm : DM} {x : Int64} {kk : Fin 4} (B : Bx2 E own tb nL ret) (i : Nat) (h : tb[i]? = some (pc, .lload_n kk, 1, nx)) (q j : Nat) (hq : (kk : Nat) = q) (hj : lv[j]? = some (q, .long x)) (k : G2 E nL nx lv (.long x :: st) mm A dm) : G2 E nL pc lv st mm A dm := by
  obtain ⟨p, l, e, R, s, m, args, below, meth, c, Q, K, A0, res, mo, fA, fd⟩ := E
  obtain ⟨hd, hn⟩ := Bx2.dec B h
  subst hn
  intro H locs ls hg hP hS hl
  exact lv_lload_n B.1 rfl hd hq (lv_at hl j (lvm hj)) (k H locs ls hg hP hS hl)
theorem w_lload {E : Ev2} {own : String} {tb : Tb} {nL : Nat} {ret : Option FieldType} {pc nx : Nat} {lv : Lv} {st : List Value} {mm : Mem} {A : AS} {dm : DM} {x : Int64} {q : Nat} (B : Bx2 E own tb nL ret) (i : Nat) (h : tb[i]? = some (pc, .lload q, 2, nx)) (j : Nat) (hj : lv[j]? = some (q, .long x)) (k : G2 E nL nx lv (.long x :: st) mm A dm) : G2 E nL pc lv st mm A dm := by
  obtain ⟨p, l, e, R, s, m, args, below, meth, c, Q, K, A0, res, mo, fA, fd⟩ := E
  obtain ⟨hd, hn⟩ := Bx2.dec B h
  subst hn
  intro H locs ls hg hP hS hl
  exact lv_lload B.1 rfl hd (lv_at hl j (lvm hj)) (k H locs ls hg hP hS hl)
theorem w_aload_n {E : Ev2} {own : String} {tb : Tb} {nL : Nat} {ret : Option FieldType} {pc nx : Nat} {lv : Lv} {st : List Value} {mm : Mem} {A : AS} {dm : DM} {x : Nat} {kk : Fin 4} (B : Bx2 E own tb nL ret) (i : Nat) (h : tb[i]? = some (pc, .aload_n kk, 1, nx)) (q j : Nat) (hq : (kk : Nat) = q) (hj : lv[j]? = some (q, .ref x)) (k : G2 E nL nx lv (.ref x :: st) mm A dm) : G2 E nL pc lv st mm A dm := by
  obtain ⟨p, l, e, R, s, m, args, below, meth, c, Q, K, A0, res, mo, fA, fd⟩ := E
  obtain ⟨hd, hn⟩ := Bx2.dec B h
  subst hn
  intro H locs ls hg hP hS hl
  exact lv_aload_n B.1 rfl hd hq (lv_at hl j (lvm hj)) (k H locs ls hg hP hS hl)
theorem w_aload {E : Ev2} {own : String} {tb : Tb} {nL : Nat} {ret : Option FieldType} {pc nx : Nat} {lv : Lv} {st : List Value} {mm : Mem} {A : AS} {dm : DM} {x : Nat} {q : Nat} (B : Bx2 E own tb nL ret) (i : Nat) (h : tb[i]? = some (pc, .aload q, 2, nx)) (j : Nat) (hj : lv[j]? = some (q, .ref x)) (k : G2 E nL nx lv (.ref x :: st) mm A dm) : G2 E nL pc lv st mm A dm := by
  obtain ⟨p, l, e, R, s, m, args, below, meth, c, Q, K, A0, res, mo, fA, fd⟩ := E
  obtain ⟨hd, hn⟩ := Bx2.dec B h
  subst hn
  intro H locs ls hg hP hS hl
  exact lv_aload B.1 rfl hd (lv_at hl j (lvm hj)) (k H locs ls hg hP hS hl)
theorem w_istore_n {E : Ev2} {own : String} {tb : Tb} {nL : Nat} {ret : Option FieldType} {pc nx : Nat} {lv : Lv} {st : List Value} {mm : Mem} {A : AS} {dm : DM} {x : Int32} {kk : Fin 4} (lv' : Lv) (B : Bx2 E own tb nL ret) (i : Nat) (h : tb[i]? = some (pc, .istore_n kk, 1, nx)) (q : Nat) (hq : (kk : Nat) = q) (hn : q < nL) (hl' : zs1 lv q (.int x) = lv') (k : G2 E nL nx lv' st mm A dm) : G2 E nL pc lv (.int x :: st) mm A dm := by
  subst hl'
  obtain ⟨p, l, e, R, s, m, args, below, meth, c, Q, K, A0, res, mo, fA, fd⟩ := E
  obtain ⟨hd, hn⟩ := Bx2.dec B h
  subst hn
  intro H locs ls hg hP hS hl
  exact lv_istore_n B.1 rfl hd hq hl hn (zs1_map (kc K) lv q (.int x)) (fun ls' hl' => k H locs ls' hg hP hS hl')
theorem w_istore {E : Ev2} {own : String} {tb : Tb} {nL : Nat} {ret : Option FieldType} {pc nx : Nat} {lv : Lv} {st : List Value} {mm : Mem} {A : AS} {dm : DM} {x : Int32} {q : Nat} (lv' : Lv) (B : Bx2 E own tb nL ret) (i : Nat) (h : tb[i]? = some (pc, .istore q, 2, nx)) (hn : q < nL) (hl' : zs1 lv q (.int x) = lv') (k : G2 E nL nx lv' st mm A dm) : G2 E nL pc lv (.int x :: st) mm A dm := by
  subst hl'
  obtain ⟨p, l, e, R, s, m, args, below, meth, c, Q, K, A0, res, mo, fA, fd⟩ := E
  obtain ⟨hd, hn⟩ := Bx2.dec B h
  subst hn
  intro H locs ls hg hP hS hl
  exact lv_istore B.1 rfl hd hl hn (zs1_map (kc K) lv q (.int x)) (fun ls' hl' => k H locs ls' hg hP hS hl')
theorem w_astore_n {E : Ev2} {own : String} {tb : Tb} {nL : Nat} {ret : Option FieldType} {pc nx : Nat} {lv : Lv} {st : List Value} {mm : Mem} {A : AS} {dm : DM} {x : Nat} {kk : Fin 4} (lv' : Lv) (B : Bx2 E own tb nL ret) (i : Nat) (h : tb[i]? = some (pc, .astore_n kk, 1, nx)) (q : Nat) (hq : (kk : Nat) = q) (hn : q < nL) (hl' : zs1 lv q (.ref x) = lv') (k : G2 E nL nx lv' st mm A dm) : G2 E nL pc lv (.ref x :: st) mm A dm := by
  subst hl'
  obtain ⟨p, l, e, R, s, m, args, below, meth, c, Q, K, A0, res, mo, fA, fd⟩ := E
  obtain ⟨hd, hn⟩ := Bx2.dec B h
  subst hn
  intro H locs ls hg hP hS hl
  exact lv_astore_n B.1 rfl hd hq hl hn (zs1_map (kc K) lv q (.ref x)) (fun ls' hl' => k H locs ls' hg hP hS hl')
theorem w_astore {E : Ev2} {own : String} {tb : Tb} {nL : Nat} {ret : Option FieldType} {pc nx : Nat} {lv : Lv} {st : List Value} {mm : Mem} {A : AS} {dm : DM} {x : Nat} {q : Nat} (lv' : Lv) (B : Bx2 E own tb nL ret) (i : Nat) (h : tb[i]? = some (pc, .astore q, 2, nx)) (hn : q < nL) (hl' : zs1 lv q (.ref x) = lv') (k : G2 E nL nx lv' st mm A dm) : G2 E nL pc lv (.ref x :: st) mm A dm := by
  subst hl'
  obtain ⟨p, l, e, R, s, m, args, below, meth, c, Q, K, A0, res, mo, fA, fd⟩ := E
  obtain ⟨hd, hn⟩ := Bx2.dec B h
  subst hn
  intro H locs ls hg hP hS hl
  exact lv_astore B.1 rfl hd hl hn (zs1_map (kc K) lv q (.ref x)) (fun ls' hl' => k H locs ls' hg hP hS hl')
theorem w_lstore_n {E : Ev2} {own : String} {tb : Tb} {nL : Nat} {ret : Option FieldType} {pc nx : Nat} {lv : Lv} {st : List Value} {mm : Mem} {A : AS} {dm : DM} {x : Int64} {kk : Fin 4} (lv' : Lv) (B : Bx2 E own tb nL ret) (i : Nat) (h : tb[i]? = some (pc, .lstore_n kk, 1, nx)) (q : Nat) (hq : (kk : Nat) = q) (hn : q + 1 < nL) (hl' : zs2 lv q (.long x) = lv') (k : G2 E nL nx lv' st mm A dm) : G2 E nL pc lv (.long x :: st) mm A dm := by
  subst hl'
  obtain ⟨p, l, e, R, s, m, args, below, meth, c, Q, K, A0, res, mo, fA, fd⟩ := E
  obtain ⟨hd, hn⟩ := Bx2.dec B h
  subst hn
  intro H locs ls hg hP hS hl
  exact lv_lstore_n B.1 rfl hd hq hl hn (zs2_map (kc K) lv q (.long x)) (fun ls' hl' => k H locs ls' hg hP hS hl')
theorem w_lstore {E : Ev2} {own : String} {tb : Tb} {nL : Nat} {ret : Option FieldType} {pc nx : Nat} {lv : Lv} {st : List Value} {mm : Mem} {A : AS} {dm : DM} {x : Int64} {q : Nat} (lv' : Lv) (B : Bx2 E own tb nL ret) (i : Nat) (h : tb[i]? = some (pc, .lstore q, 2, nx)) (hn : q + 1 < nL) (hl' : zs2 lv q (.long x) = lv') (k : G2 E nL nx lv' st mm A dm) : G2 E nL pc lv (.long x :: st) mm A dm := by
  subst hl'
  obtain ⟨p, l, e, R, s, m, args, below, meth, c, Q, K, A0, res, mo, fA, fd⟩ := E
  obtain ⟨hd, hn⟩ := Bx2.dec B h
  subst hn
  intro H locs ls hg hP hS hl
  exact lv_lstore B.1 rfl hd hl hn (zs2_map (kc K) lv q (.long x)) (fun ls' hl' => k H locs ls' hg hP hS hl')
theorem w_iinc {E : Ev2} {own : String} {tb : Tb} {nL : Nat} {ret : Option FieldType} {pc nx : Nat} {lv : Lv} {st : List Value} {mm : Mem} {A : AS} {dm : DM} {x : Int32} {q : Nat} {n : Int} (v : Int32) (lv' : Lv) (B : Bx2 E own tb nL ret) (i : Nat) (h : tb[i]? = some (pc, .iinc q n, 3, nx)) (j : Nat) (hj : lv[j]? = some (q, .int x)) (hv : x + Int32.ofInt n = v) (hn : q < nL) (hl' : zs1 lv q (.int v) = lv') (k : G2 E nL nx lv' st mm A dm) : G2 E nL pc lv st mm A dm := by
  subst hl'
  obtain ⟨p, l, e, R, s, m, args, below, meth, c, Q, K, A0, res, mo, fA, fd⟩ := E
  obtain ⟨hd, hn⟩ := Bx2.dec B h
  subst hn
  intro H locs ls hg hP hS hl
  exact lv_iinc B.1 rfl hd hl (lvm hj) hv hn (zs1_map (kc K) lv q (.int v)) (fun ls' hl' => k H locs ls' hg hP hS hl')
theorem w_pop {E : Ev2} {own : String} {tb : Tb} {nL : Nat} {ret : Option FieldType} {pc nx : Nat} {lv : Lv} {st : List Value} {mm : Mem} {A : AS} {dm : DM} {v : Value} (B : Bx2 E own tb nL ret) (i : Nat) (h : tb[i]? = some (pc, .pop, 1, nx)) (hv : v.category = 1) (k : G2 E nL nx lv st mm A dm) : G2 E nL pc lv (v :: st) mm A dm := by
  obtain ⟨p, l, e, R, s, m, args, below, meth, c, Q, K, A0, res, mo, fA, fd⟩ := E
  obtain ⟨hd, hn⟩ := Bx2.dec B h
  subst hn
  intro H locs ls hg hP hS hl
  exact lv_pop B.1 rfl hd ((cvv_cat (kc K) v).trans hv) (k H locs ls hg hP hS hl)
theorem w_dup2 {E : Ev2} {own : String} {tb : Tb} {nL : Nat} {ret : Option FieldType} {pc nx : Nat} {lv : Lv} {st : List Value} {mm : Mem} {A : AS} {dm : DM} {v w : Value} (B : Bx2 E own tb nL ret) (i : Nat) (h : tb[i]? = some (pc, .dup2, 1, nx)) (hv : v.category = 1) (hw : w.category = 1) (k : G2 E nL nx lv (v :: w :: v :: w :: st) mm A dm) : G2 E nL pc lv (v :: w :: st) mm A dm := by
  obtain ⟨p, l, e, R, s, m, args, below, meth, c, Q, K, A0, res, mo, fA, fd⟩ := E
  obtain ⟨hd, hn⟩ := Bx2.dec B h
  subst hn
  intro H locs ls hg hP hS hl
  exact lv_dup2_11 B.1 rfl hd ((cvv_cat (kc K) v).trans hv) ((cvv_cat (kc K) w).trans hw) (k H locs ls hg hP hS hl)
theorem w_goto {E : Ev2} {own : String} {tb : Tb} {nL : Nat} {ret : Option FieldType} {pc nx : Nat} {lv : Lv} {st : List Value} {mm : Mem} {A : AS} {dm : DM} {off : Int} (B : Bx2 E own tb nL ret) (i : Nat) (h : tb[i]? = some (pc, .goto off, 3, nx)) (tgt : Nat) (ht : (pc : Int) + off = (tgt : Int)) (k : G2 E nL tgt lv st mm A dm) : G2 E nL pc lv st mm A dm := by
  obtain ⟨p, l, e, R, s, m, args, below, meth, c, Q, K, A0, res, mo, fA, fd⟩ := E
  obtain ⟨hd, hn⟩ := Bx2.dec B h
  subst hn
  intro H locs ls hg hP hS hl
  exact lv_goto B.1 rfl hd ht (k H locs ls hg hP hS hl)
theorem w_if_eq_t {E : Ev2} {own : String} {tb : Tb} {nL : Nat} {ret : Option FieldType} {pc nx : Nat} {lv : Lv} {st : List Value} {mm : Mem} {A : AS} {dm : DM} {x : Int32} {off : Int} (B : Bx2 E own tb nL ret) (i : Nat) (h : tb[i]? = some (pc, .ifCond .eq off, 3, nx)) (tgt : Nat) (ht : (pc : Int) + off = (tgt : Int)) (hc : x = 0) (k : G2 E nL tgt lv st mm A dm) : G2 E nL pc lv (.int x :: st) mm A dm := by
  obtain ⟨p, l, e, R, s, m, args, below, meth, c, Q, K, A0, res, mo, fA, fd⟩ := E
  obtain ⟨hd, hn⟩ := Bx2.dec B h
  subst hn
  intro H locs ls hg hP hS hl
  exact lv_if_eq B.1 rfl hd ht (fun _ => k H locs ls hg hP hS hl) (fun q => absurd (hc) q)
theorem w_if_eq_f {E : Ev2} {own : String} {tb : Tb} {nL : Nat} {ret : Option FieldType} {pc nx : Nat} {lv : Lv} {st : List Value} {mm : Mem} {A : AS} {dm : DM} {x : Int32} {off : Int} (B : Bx2 E own tb nL ret) (i : Nat) (h : tb[i]? = some (pc, .ifCond .eq off, 3, nx)) (tgt : Nat) (ht : (pc : Int) + off = (tgt : Int)) (hc : ¬ x = 0) (k : G2 E nL nx lv st mm A dm) : G2 E nL pc lv (.int x :: st) mm A dm := by
  obtain ⟨p, l, e, R, s, m, args, below, meth, c, Q, K, A0, res, mo, fA, fd⟩ := E
  obtain ⟨hd, hn⟩ := Bx2.dec B h
  subst hn
  intro H locs ls hg hP hS hl
  exact lv_if_eq B.1 rfl hd ht (fun q => absurd q (hc)) (fun _ => k H locs ls hg hP hS hl)
theorem w_icmp_eq_t {E : Ev2} {own : String} {tb : Tb} {nL : Nat} {ret : Option FieldType} {pc nx : Nat} {lv : Lv} {st : List Value} {mm : Mem} {A : AS} {dm : DM} {x y : Int32} {off : Int} (B : Bx2 E own tb nL ret) (i : Nat) (h : tb[i]? = some (pc, .if_icmp .eq off, 3, nx)) (tgt : Nat) (ht : (pc : Int) + off = (tgt : Int)) (hc : x = y) (k : G2 E nL tgt lv st mm A dm) : G2 E nL pc lv (.int y :: .int x :: st) mm A dm := by
  obtain ⟨p, l, e, R, s, m, args, below, meth, c, Q, K, A0, res, mo, fA, fd⟩ := E
  obtain ⟨hd, hn⟩ := Bx2.dec B h
  subst hn
  intro H locs ls hg hP hS hl
  exact lv_icmp_eq B.1 rfl hd ht (fun _ => k H locs ls hg hP hS hl) (fun q => absurd (hc) q)
theorem w_icmp_eq_f {E : Ev2} {own : String} {tb : Tb} {nL : Nat} {ret : Option FieldType} {pc nx : Nat} {lv : Lv} {st : List Value} {mm : Mem} {A : AS} {dm : DM} {x y : Int32} {off : Int} (B : Bx2 E own tb nL ret) (i : Nat) (h : tb[i]? = some (pc, .if_icmp .eq off, 3, nx)) (tgt : Nat) (ht : (pc : Int) + off = (tgt : Int)) (hc : ¬ x = y) (k : G2 E nL nx lv st mm A dm) : G2 E nL pc lv (.int y :: .int x :: st) mm A dm := by
  obtain ⟨p, l, e, R, s, m, args, below, meth, c, Q, K, A0, res, mo, fA, fd⟩ := E
  obtain ⟨hd, hn⟩ := Bx2.dec B h
  subst hn
  intro H locs ls hg hP hS hl
  exact lv_icmp_eq B.1 rfl hd ht (fun q => absurd q (hc)) (fun _ => k H locs ls hg hP hS hl)
theorem w_if_ne_t {E : Ev2} {own : String} {tb : Tb} {nL : Nat} {ret : Option FieldType} {pc nx : Nat} {lv : Lv} {st : List Value} {mm : Mem} {A : AS} {dm : DM} {x : Int32} {off : Int} (B : Bx2 E own tb nL ret) (i : Nat) (h : tb[i]? = some (pc, .ifCond .ne off, 3, nx)) (tgt : Nat) (ht : (pc : Int) + off = (tgt : Int)) (hc : ¬ x = 0) (k : G2 E nL tgt lv st mm A dm) : G2 E nL pc lv (.int x :: st) mm A dm := by
  obtain ⟨p, l, e, R, s, m, args, below, meth, c, Q, K, A0, res, mo, fA, fd⟩ := E
  obtain ⟨hd, hn⟩ := Bx2.dec B h
  subst hn
  intro H locs ls hg hP hS hl
  exact lv_if_ne B.1 rfl hd ht (fun _ => k H locs ls hg hP hS hl) (fun q => absurd q hc)
theorem w_if_ne_f {E : Ev2} {own : String} {tb : Tb} {nL : Nat} {ret : Option FieldType} {pc nx : Nat} {lv : Lv} {st : List Value} {mm : Mem} {A : AS} {dm : DM} {x : Int32} {off : Int} (B : Bx2 E own tb nL ret) (i : Nat) (h : tb[i]? = some (pc, .ifCond .ne off, 3, nx)) (tgt : Nat) (ht : (pc : Int) + off = (tgt : Int)) (hc : x = 0) (k : G2 E nL nx lv st mm A dm) : G2 E nL pc lv (.int x :: st) mm A dm := by
  obtain ⟨p, l, e, R, s, m, args, below, meth, c, Q, K, A0, res, mo, fA, fd⟩ := E
  obtain ⟨hd, hn⟩ := Bx2.dec B h
  subst hn
  intro H locs ls hg hP hS hl
  exact lv_if_ne B.1 rfl hd ht (fun q => absurd q (fun z => z hc)) (fun _ => k H locs ls hg hP hS hl)
theorem w_icmp_ne_t {E : Ev2} {own : String} {tb : Tb} {nL : Nat} {ret : Option FieldType} {pc nx : Nat} {lv : Lv} {st : List Value} {mm : Mem} {A : AS} {dm : DM} {x y : Int32} {off : Int} (B : Bx2 E own tb nL ret) (i : Nat) (h : tb[i]? = some (pc, .if_icmp .ne off, 3, nx)) (tgt : Nat) (ht : (pc : Int) + off = (tgt : Int)) (hc : ¬ x = y) (k : G2 E nL tgt lv st mm A dm) : G2 E nL pc lv (.int y :: .int x :: st) mm A dm := by
  obtain ⟨p, l, e, R, s, m, args, below, meth, c, Q, K, A0, res, mo, fA, fd⟩ := E
  obtain ⟨hd, hn⟩ := Bx2.dec B h
  subst hn
  intro H locs ls hg hP hS hl
  exact lv_icmp_ne B.1 rfl hd ht (fun _ => k H locs ls hg hP hS hl) (fun q => absurd q hc)
theorem w_icmp_ne_f {E : Ev2} {own : String} {tb : Tb} {nL : Nat} {ret : Option FieldType} {pc nx : Nat} {lv : Lv} {st : List Value} {mm : Mem} {A : AS} {dm : DM} {x y : Int32} {off : Int} (B : Bx2 E own tb nL ret) (i : Nat) (h : tb[i]? = some (pc, .if_icmp .ne off, 3, nx)) (tgt : Nat) (ht : (pc : Int) + off = (tgt : Int)) (hc : x = y) (k : G2 E nL nx lv st mm A dm) : G2 E nL pc lv (.int y :: .int x :: st) mm A dm := by
  obtain ⟨p, l, e, R, s, m, args, below, meth, c, Q, K, A0, res, mo, fA, fd⟩ := E
  obtain ⟨hd, hn⟩ := Bx2.dec B h
  subst hn
  intro H locs ls hg hP hS hl
  exact lv_icmp_ne B.1 rfl hd ht (fun q => absurd q (fun z => z hc)) (fun _ => k H locs ls hg hP hS hl)
theorem w_if_lt_t {E : Ev2} {own : String} {tb : Tb} {nL : Nat} {ret : Option FieldType} {pc nx : Nat} {lv : Lv} {st : List Value} {mm : Mem} {A : AS} {dm : DM} {x : Int32} {off : Int} (B : Bx2 E own tb nL ret) (i : Nat) (h : tb[i]? = some (pc, .ifCond .lt off, 3, nx)) (tgt : Nat) (ht : (pc : Int) + off = (tgt : Int)) (hc : x < 0) (k : G2 E nL tgt lv st mm A dm) : G2 E nL pc lv (.int x :: st) mm A dm := by
  obtain ⟨p, l, e, R, s, m, args, below, meth, c, Q, K, A0, res, mo, fA, fd⟩ := E
  obtain ⟨hd, hn⟩ := Bx2.dec B h
  subst hn
  intro H locs ls hg hP hS hl
  exact lv_if_lt B.1 rfl hd ht (fun _ => k H locs ls hg hP hS hl) (fun q => absurd (hc) q)
theorem w_if_lt_f {E : Ev2} {own : String} {tb : Tb} {nL : Nat} {ret : Option FieldType} {pc nx : Nat} {lv : Lv} {st : List Value} {mm : Mem} {A : AS} {dm : DM} {x : Int32} {off : Int} (B : Bx2 E own tb nL ret) (i : Nat) (h : tb[i]? = some (pc, .ifCond .lt off, 3, nx)) (tgt : Nat) (ht : (pc : Int) + off = (tgt : Int)) (hc : ¬ x < 0) (k : G2 E nL nx lv st mm A dm) : G2 E nL pc lv (.int x :: st) mm A dm := by
  obtain ⟨p, l, e, R, s, m, args, below, meth, c, Q, K, A0, res, mo, fA, fd⟩ := E
  obtain ⟨hd, hn⟩ := Bx2.dec B h
  subst hn
  intro H locs ls hg hP hS hl
  exact lv_if_lt B.1 rfl hd ht (fun q => absurd q (hc)) (fun _ => k H locs ls hg hP hS hl)
theorem w_icmp_lt_t {E : Ev2} {own : String} {tb : Tb} {nL : Nat} {ret : Option FieldType} {pc nx : Nat} {lv : Lv} {st : List Value} {mm : Mem} {A : AS} {dm : DM} {x y : Int32} {off : Int} (B : Bx2 E own tb nL ret) (i : Nat) (h : tb[i]? = some (pc, .if_icmp .lt off, 3, nx)) (tgt : Nat) (ht : (pc : Int) + off = (tgt : Int)) (hc : x < y) (k : G2 E nL tgt lv st mm A dm) : G2 E nL pc lv (.int y :: .int x :: st) mm A dm := by
  obtain ⟨p, l, e, R, s, m, args, below, meth, c, Q, K, A0, res, mo, fA, fd⟩ := E
  obtain ⟨hd, hn⟩ := Bx2.dec B h
  subst hn
  intro H locs ls hg hP hS hl
  exact lv_icmp_lt B.1 rfl hd ht (fun _ => k H locs ls hg hP hS hl) (fun q => absurd (hc) q)
theorem w_icmp_lt_f {E : Ev2} {own : String} {tb : Tb} {nL : Nat} {ret : Option FieldType} {pc nx : Nat} {lv : Lv} {st : List Value} {mm : Mem} {A : AS} {dm : DM} {x y : Int32} {off : Int} (B : Bx2 E own tb nL ret) (i : Nat) (h : tb[i]? = some (pc, .if_icmp .lt off, 3, nx)) (tgt : Nat) (ht : (pc : Int) + off = (tgt : Int)) (hc : ¬ x < y) (k : G2 E nL nx lv st mm A dm) : G2 E nL pc lv (.int y :: .int x :: st) mm A dm := by
  obtain ⟨p, l, e, R, s, m, args, below, meth, c, Q, K, A0, res, mo, fA, fd⟩ := E
  obtain ⟨hd, hn⟩ := Bx2.dec B h
  subst hn
  intro H locs ls hg hP hS hl
  exact lv_icmp_lt B.1 rfl hd ht (fun q => absurd q (hc)) (fun _ => k H locs ls hg hP hS hl)
theorem w_if_ge_t {E : Ev2} {own : String} {tb : Tb} {nL : Nat} {ret : Option FieldType} {pc nx : Nat} {lv : Lv} {st : List Value} {mm : Mem} {A : AS} {dm : DM} {x : Int32} {off : Int} (B : Bx2 E own tb nL ret) (i : Nat) (h : tb[i]? = some (pc, .ifCond .ge off, 3, nx)) (tgt : Nat) (ht : (pc : Int) + off = (tgt : Int)) (hc : ¬ x < 0) (k : G2 E nL tgt lv st mm A dm) : G2 E nL pc lv (.int x :: st) mm A dm := by
  obtain ⟨p, l, e, R, s, m, args, below, meth, c, Q, K, A0, res, mo, fA, fd⟩ := E
  obtain ⟨hd, hn⟩ := Bx2.dec B h
  subst hn
  intro H locs ls hg hP hS hl
  exact lv_if_ge B.1 rfl hd ht (fun _ => k H locs ls hg hP hS hl) (fun q => absurd (i32_nlt hc) q)
theorem w_if_ge_f {E : Ev2} {own : String} {tb : Tb} {nL : Nat} {ret : Option FieldType} {pc nx : Nat} {lv : Lv} {st : List Value} {mm : Mem} {A : AS} {dm : DM} {x : Int32} {off : Int} (B : Bx2 E own tb nL ret) (i : Nat) (h : tb[i]? = some (pc, .ifCond .ge off, 3, nx)) (tgt : Nat) (ht : (pc : Int) + off = (tgt : Int)) (hc : x < 0) (k : G2 E nL nx lv st mm A dm) : G2 E nL pc lv (.int x :: st) mm A dm := by
  obtain ⟨p, l, e, R, s, m, args, below, meth, c, Q, K, A0, res, mo, fA, fd⟩ := E
  obtain ⟨hd, hn⟩ := Bx2.dec B h
  subst hn
  intro H locs ls hg hP hS hl
  exact lv_if_ge B.1 rfl hd ht (fun q => absurd q (fun z => absurd hc (i32_nlt2 z))) (fun _ => k H locs ls hg hP hS hl)
theorem w_icmp_ge_t {E : Ev2} {own : String} {tb : Tb} {nL : Nat} {ret : Option FieldType} {pc nx : Nat} {lv : Lv} {st : List Value} {mm : Mem} {A : AS} {dm : DM} {x y : Int32} {off : Int} (B : Bx2 E own tb nL ret) (i : Nat) (h : tb[i]? = some (pc, .if_icmp .ge off, 3, nx)) (tgt : Nat) (ht : (pc : Int) + off = (tgt : Int)) (hc : ¬ x < y) (k : G2 E nL tgt lv st mm A dm) : G2 E nL pc lv (.int y :: .int x :: st) mm A dm := by
  obtain ⟨p, l, e, R, s, m, args, below, meth, c, Q, K, A0, res, mo, fA, fd⟩ := E
  obtain ⟨hd, hn⟩ := Bx2.dec B h
  subst hn
  intro H locs ls hg hP hS hl
  exact lv_icmp_ge B.1 rfl hd ht (fun _ => k H locs ls hg hP hS hl) (fun q => absurd (i32_nlt hc) q)
theorem w_icmp_ge_f {E : Ev2} {own : String} {tb : Tb} {nL : Nat} {ret : Option FieldType} {pc nx : Nat} {lv : Lv} {st : List Value} {mm : Mem} {A : AS} {dm : DM} {x y : Int32} {off : Int} (B : Bx2 E own tb nL ret) (i : Nat) (h : tb[i]? = some (pc, .if_icmp .ge off, 3, nx)) (tgt : Nat) (ht : (pc : Int) + off = (tgt : Int)) (hc : x < y) (k : G2 E nL nx lv st mm A dm) : G2 E nL pc lv (.int y :: .int x :: st) mm A dm := by
  obtain ⟨p, l, e, R, s, m, args, below, meth, c, Q, K, A0, res, mo, fA, fd⟩ := E
  obtain ⟨hd, hn⟩ := Bx2.dec B h
  subst hn
  intro H locs ls hg hP hS hl
  exact lv_icmp_ge B.1 rfl hd ht (fun q => absurd q (fun z => absurd hc (i32_nlt2 z))) (fun _ => k H locs ls hg hP hS hl)
theorem w_if_gt_t {E : Ev2} {own : String} {tb : Tb} {nL : Nat} {ret : Option FieldType} {pc nx : Nat} {lv : Lv} {st : List Value} {mm : Mem} {A : AS} {dm : DM} {x : Int32} {off : Int} (B : Bx2 E own tb nL ret) (i : Nat) (h : tb[i]? = some (pc, .ifCond .gt off, 3, nx)) (tgt : Nat) (ht : (pc : Int) + off = (tgt : Int)) (hc : 0 < x) (k : G2 E nL tgt lv st mm A dm) : G2 E nL pc lv (.int x :: st) mm A dm := by
  obtain ⟨p, l, e, R, s, m, args, below, meth, c, Q, K, A0, res, mo, fA, fd⟩ := E
  obtain ⟨hd, hn⟩ := Bx2.dec B h
  subst hn
  intro H locs ls hg hP hS hl
  exact lv_if_gt B.1 rfl hd ht (fun _ => k H locs ls hg hP hS hl) (fun q => absurd (hc) q)
theorem w_if_gt_f {E : Ev2} {own : String} {tb : Tb} {nL : Nat} {ret : Option FieldType} {pc nx : Nat} {lv : Lv} {st : List Value} {mm : Mem} {A : AS} {dm : DM} {x : Int32} {off : Int} (B : Bx2 E own tb nL ret) (i : Nat) (h : tb[i]? = some (pc, .ifCond .gt off, 3, nx)) (tgt : Nat) (ht : (pc : Int) + off = (tgt : Int)) (hc : ¬ 0 < x) (k : G2 E nL nx lv st mm A dm) : G2 E nL pc lv (.int x :: st) mm A dm := by
  obtain ⟨p, l, e, R, s, m, args, below, meth, c, Q, K, A0, res, mo, fA, fd⟩ := E
  obtain ⟨hd, hn⟩ := Bx2.dec B h
  subst hn
  intro H locs ls hg hP hS hl
  exact lv_if_gt B.1 rfl hd ht (fun q => absurd q (hc)) (fun _ => k H locs ls hg hP hS hl)
theorem w_icmp_gt_t {E : Ev2} {own : String} {tb : Tb} {nL : Nat} {ret : Option FieldType} {pc nx : Nat} {lv : Lv} {st : List Value} {mm : Mem} {A : AS} {dm : DM} {x y : Int32} {off : Int} (B : Bx2 E own tb nL ret) (i : Nat) (h : tb[i]? = some (pc, .if_icmp .gt off, 3, nx)) (tgt : Nat) (ht : (pc : Int) + off = (tgt : Int)) (hc : y < x) (k : G2 E nL tgt lv st mm A dm) : G2 E nL pc lv (.int y :: .int x :: st) mm A dm := by
  obtain ⟨p, l, e, R, s, m, args, below, meth, c, Q, K, A0, res, mo, fA, fd⟩ := E
  obtain ⟨hd, hn⟩ := Bx2.dec B h
  subst hn
  intro H locs ls hg hP hS hl
  exact lv_icmp_gt B.1 rfl hd ht (fun _ => k H locs ls hg hP hS hl) (fun q => absurd (hc) q)
theorem w_icmp_gt_f {E : Ev2} {own : String} {tb : Tb} {nL : Nat} {ret : Option FieldType} {pc nx : Nat} {lv : Lv} {st : List Value} {mm : Mem} {A : AS} {dm : DM} {x y : Int32} {off : Int} (B : Bx2 E own tb nL ret) (i : Nat) (h : tb[i]? = some (pc, .if_icmp .gt off, 3, nx)) (tgt : Nat) (ht : (pc : Int) + off = (tgt : Int)) (hc : ¬ y < x) (k : G2 E nL nx lv st mm A dm) : G2 E nL pc lv (.int y :: .int x :: st) mm A dm := by
  obtain ⟨p, l, e, R, s, m, args, below, meth, c, Q, K, A0, res, mo, fA, fd⟩ := E
  obtain ⟨hd, hn⟩ := Bx2.dec B h
  subst hn
  intro H locs ls hg hP hS hl
  exact lv_icmp_gt B.1 rfl hd ht (fun q => absurd q (hc)) (fun _ => k H locs ls hg hP hS hl)
theorem w_if_le_t {E : Ev2} {own : String} {tb : Tb} {nL : Nat} {ret : Option FieldType} {pc nx : Nat} {lv : Lv} {st : List Value} {mm : Mem} {A : AS} {dm : DM} {x : Int32} {off : Int} (B : Bx2 E own tb nL ret) (i : Nat) (h : tb[i]? = some (pc, .ifCond .le off, 3, nx)) (tgt : Nat) (ht : (pc : Int) + off = (tgt : Int)) (hc : ¬ 0 < x) (k : G2 E nL tgt lv st mm A dm) : G2 E nL pc lv (.int x :: st) mm A dm := by
  obtain ⟨p, l, e, R, s, m, args, below, meth, c, Q, K, A0, res, mo, fA, fd⟩ := E
  obtain ⟨hd, hn⟩ := Bx2.dec B h
  subst hn
  intro H locs ls hg hP hS hl
  exact lv_if_le B.1 rfl hd ht (fun _ => k H locs ls hg hP hS hl) (fun q => absurd (i32_nlt hc) q)
theorem w_if_le_f {E : Ev2} {own : String} {tb : Tb} {nL : Nat} {ret : Option FieldType} {pc nx : Nat} {lv : Lv} {st : List Value} {mm : Mem} {A : AS} {dm : DM} {x : Int32} {off : Int} (B : Bx2 E own tb nL ret) (i : Nat) (h : tb[i]? = some (pc, .ifCond .le off, 3, nx)) (tgt : Nat) (ht : (pc : Int) + off = (tgt : Int)) (hc : 0 < x) (k : G2 E nL nx lv st mm A dm) : G2 E nL pc lv (.int x :: st) mm A dm := by
  obtain ⟨p, l, e, R, s, m, args, below, meth, c, Q, K, A0, res, mo, fA, fd⟩ := E
  obtain ⟨hd, hn⟩ := Bx2.dec B h
  subst hn
  intro H locs ls hg hP hS hl
  exact lv_if_le B.1 rfl hd ht (fun q => absurd q (fun z => absurd hc (i32_nlt2 z))) (fun _ => k H locs ls hg hP hS hl)
theorem w_icmp_le_t {E : Ev2} {own : String} {tb : Tb} {nL : Nat} {ret : Option FieldType} {pc nx : Nat} {lv : Lv} {st : List Value} {mm : Mem} {A : AS} {dm : DM} {x y : Int32} {off : Int} (B : Bx2 E own tb nL ret) (i : Nat) (h : tb[i]? = some (pc, .if_icmp .le off, 3, nx)) (tgt : Nat) (ht : (pc : Int) + off = (tgt : Int)) (hc : ¬ y < x) (k : G2 E nL tgt lv st mm A dm) : G2 E nL pc lv (.int y :: .int x :: st) mm A dm := by
  obtain ⟨p, l, e, R, s, m, args, below, meth, c, Q, K, A0, res, mo, fA, fd⟩ := E
  obtain ⟨hd, hn⟩ := Bx2.dec B h
  subst hn
  intro H locs ls hg hP hS hl
  exact lv_icmp_le B.1 rfl hd ht (fun _ => k H locs ls hg hP hS hl) (fun q => absurd (i32_nlt hc) q)
theorem w_icmp_le_f {E : Ev2} {own : String} {tb : Tb} {nL : Nat} {ret : Option FieldType} {pc nx : Nat} {lv : Lv} {st : List Value} {mm : Mem} {A : AS} {dm : DM} {x y : Int32} {off : Int} (B : Bx2 E own tb nL ret) (i : Nat) (h : tb[i]? = some (pc, .if_icmp .le off, 3, nx)) (tgt : Nat) (ht : (pc : Int) + off = (tgt : Int)) (hc : y < x) (k : G2 E nL nx lv st mm A dm) : G2 E nL pc lv (.int y :: .int x :: st) mm A dm := by
  obtain ⟨p, l, e, R, s, m, args, below, meth, c, Q, K, A0, res, mo, fA, fd⟩ := E
  obtain ⟨hd, hn⟩ := Bx2.dec B h
  subst hn
  intro H locs ls hg hP hS hl
  exact lv_icmp_le B.1 rfl hd ht (fun q => absurd q (fun z => absurd hc (i32_nlt2 z))) (fun _ => k H locs ls hg hP hS hl)
theorem w_ifnonnull {E : Ev2} {own : String} {tb : Tb} {nL : Nat} {ret : Option FieldType} {pc nx : Nat} {lv : Lv} {st : List Value} {mm : Mem} {A : AS} {dm : DM} {x : Nat} {off : Int} (B : Bx2 E own tb nL ret) (i : Nat) (h : tb[i]? = some (pc, .ifnonnull off, 3, nx)) (tgt : Nat) (ht : (pc : Int) + off = (tgt : Int)) (k : G2 E nL tgt lv st mm A dm) : G2 E nL pc lv (.ref x :: st) mm A dm := by
  obtain ⟨p, l, e, R, s, m, args, below, meth, c, Q, K, A0, res, mo, fA, fd⟩ := E
  obtain ⟨hd, hn⟩ := Bx2.dec B h
  subst hn
  intro H locs ls hg hP hS hl
  exact lv_ifnonnull B.1 rfl hd ht (k H locs ls hg hP hS hl)
theorem w_ifnull {E : Ev2} {own : String} {tb : Tb} {nL : Nat} {ret : Option FieldType} {pc nx : Nat} {lv : Lv} {st : List Value} {mm : Mem} {A : AS} {dm : DM} {x : Nat} {off : Int} (B : Bx2 E own tb nL ret) (i : Nat) (h : tb[i]? = some (pc, .ifnull off, 3, nx)) (k : G2 E nL nx lv st mm A dm) : G2 E nL pc lv (.ref x :: st) mm A dm := by
  obtain ⟨p, l, e, R, s, m, args, below, meth, c, Q, K, A0, res, mo, fA, fd⟩ := E
  obtain ⟨hd, hn⟩ := Bx2.dec B h
  subst hn
  intro H locs ls hg hP hS hl
  exact lv_ifnull B.1 rfl hd (k H locs ls hg hP hS hl)
theorem w_tswi {E : Ev2} {own : String} {tb : Tb} {nL : Nat} {ret : Option FieldType} {pc nx : Nat} {lv : Lv} {st : List Value} {mm : Mem} {A : AS} {dm : DM} {dflt lo hi : Int} {offs : Array Int} {len : Nat} {x : Int32} (B : Bx2 E own tb nL ret) (i : Nat) (h : tb[i]? = some (pc, .tableswitch dflt lo hi offs, len, nx)) (n : Int) (off : Int) (tgt : Nat) (hx : x.toInt = n) (h1 : lo ≤ n ∧ n ≤ hi) (ho : offs[(n - lo).toNat]? = some off) (ht : (pc : Int) + off = (tgt : Int)) (k : G2 E nL tgt lv st mm A dm) : G2 E nL pc lv (.int x :: st) mm A dm := by
  obtain ⟨p, l, e, R, s, m, args, below, meth, c, Q, K, A0, res, mo, fA, fd⟩ := E
  obtain ⟨hd, hn⟩ := Bx2.dec B h
  subst hn
  intro H locs ls hg hP hS hl
  subst hx
  exact lv_tableIn B.1 rfl hd (by omega) (by omega) ho ht (k H locs ls hg hP hS hl)
theorem w_tswo {E : Ev2} {own : String} {tb : Tb} {nL : Nat} {ret : Option FieldType} {pc nx : Nat} {lv : Lv} {st : List Value} {mm : Mem} {A : AS} {dm : DM} {dflt lo hi : Int} {offs : Array Int} {len : Nat} {x : Int32} (B : Bx2 E own tb nL ret) (i : Nat) (h : tb[i]? = some (pc, .tableswitch dflt lo hi offs, len, nx)) (tgt : Nat) (hx : x.toInt < lo ∨ hi < x.toInt) (ht : (pc : Int) + dflt = (tgt : Int)) (k : G2 E nL tgt lv st mm A dm) : G2 E nL pc lv (.int x :: st) mm A dm := by
  obtain ⟨p, l, e, R, s, m, args, below, meth, c, Q, K, A0, res, mo, fA, fd⟩ := E
  obtain ⟨hd, hn⟩ := Bx2.dec B h
  subst hn
  intro H locs ls hg hP hS hl
  exact lv_tableOut B.1 rfl hd hx ht (k H locs ls hg hP hS hl)
theorem w_dup {E : Ev2} {own : String} {tb : Tb} {nL : Nat} {ret : Option FieldType} {pc nx : Nat} {lv : Lv} {st : List Value} {mm : Mem} {A : AS} {dm : DM} {v : Value} (B : Bx2 E own tb nL ret) (i : Nat) (h : tb[i]? = some (pc, .dup, 1, nx)) (hv : v.category = 1) (k : G2 E nL nx lv (v :: v :: st) mm A dm) : G2 E nL pc lv (v :: st) mm A dm := by
  obtain ⟨p, l, e, R, s, m, args, below, meth, c, Q, K, A0, res, mo, fA, fd⟩ := E
  obtain ⟨hd, hn⟩ := Bx2.dec B h
  subst hn
  intro H locs ls hg hP hS hl
  exact lv_dup B.1 rfl hd ((cvv_cat (kc K) v).trans hv) (k H locs ls hg hP hS hl)
theorem w_dup_x1 {E : Ev2} {own : String} {tb : Tb} {nL : Nat} {ret : Option FieldType} {pc nx : Nat} {lv : Lv} {st : List Value} {mm : Mem} {A : AS} {dm : DM} {v w : Value} (B : Bx2 E own tb nL ret) (i : Nat) (h : tb[i]? = some (pc, .dup_x1, 1, nx)) (hv : v.category = 1) (hw : w.category = 1) (k : G2 E nL nx lv (v :: w :: v :: st) mm A dm) : G2 E nL pc lv (v :: w :: st) mm A dm := by
  obtain ⟨p, l, e, R, s, m, args, below, meth, c, Q, K, A0, res, mo, fA, fd⟩ := E
  obtain ⟨hd, hn⟩ := Bx2.dec B h
  subst hn
  intro H locs ls hg hP hS hl
  exact lv_dup_x1 B.1 rfl hd ((cvv_cat (kc K) v).trans hv) ((cvv_cat (kc K) w).trans hw) (k H locs ls hg hP hS hl)
theorem w_irem {E : Ev2} {own : String} {tb : Tb} {nL : Nat} {ret : Option FieldType} {pc nx : Nat} {lv : Lv} {st : List Value} {mm : Mem} {A : AS} {dm : DM} {x y : Int32} (B : Bx2 E own tb nL ret) (i : Nat) (h : tb[i]? = some (pc, .irem, 1, nx)) (hy : ¬ y = 0) (k : G2 E nL nx lv (.int (x - x / y * y) :: st) mm A dm) : G2 E nL pc lv (.int y :: .int x :: st) mm A dm := by
  obtain ⟨p, l, e, R, s, m, args, below, meth, c, Q, K, A0, res, mo, fA, fd⟩ := E
  obtain ⟨hd, hn⟩ := Bx2.dec B h
  subst hn
  intro H locs ls hg hP hS hl
  exact lv_irem B.1 rfl hd hy (k H locs ls hg hP hS hl)
theorem w_null {E : Ev2} {own : String} {tb : Tb} {nL : Nat} {ret : Option FieldType} {pc nx : Nat} {lv : Lv} {st : List Value} {mm : Mem} {A : AS} {dm : DM} (B : Bx2 E own tb nL ret) (i : Nat) (h : tb[i]? = some (pc, .aconst_null, 1, nx)) (k : G2 E nL nx lv (.null :: st) mm A dm) : G2 E nL pc lv st mm A dm := by
  obtain ⟨p, l, e, R, s, m, args, below, meth, c, Q, K, A0, res, mo, fA, fd⟩ := E
  obtain ⟨hd, hn⟩ := Bx2.dec B h
  subst hn
  intro H locs ls hg hP hS hl
  exact lv_null B.1 rfl hd (k H locs ls hg hP hS hl)
theorem w_aloadN_n {E : Ev2} {own : String} {tb : Tb} {nL : Nat} {ret : Option FieldType} {pc nx : Nat} {lv : Lv} {st : List Value} {mm : Mem} {A : AS} {dm : DM} {kk : Fin 4} (B : Bx2 E own tb nL ret) (i : Nat) (h : tb[i]? = some (pc, .aload_n kk, 1, nx)) (q j : Nat) (hq : (kk : Nat) = q) (hj : lv[j]? = some (q, .null)) (k : G2 E nL nx lv (.null :: st) mm A dm) : G2 E nL pc lv st mm A dm := by
  obtain ⟨p, l, e, R, s, m, args, below, meth, c, Q, K, A0, res, mo, fA, fd⟩ := E
  obtain ⟨hd, hn⟩ := Bx2.dec B h
  subst hn
  intro H locs ls hg hP hS hl
  exact lv_aload_nN B.1 rfl hd hq (lv_at hl j (lvm hj)) (k H locs ls hg hP hS hl)
theorem w_aloadN {E : Ev2} {own : String} {tb : Tb} {nL : Nat} {ret : Option FieldType} {pc nx : Nat} {lv : Lv} {st : List Value} {mm : Mem} {A : AS} {dm : DM} {q : Nat} (B : Bx2 E own tb nL ret) (i : Nat) (h : tb[i]? = some (pc, .aload q, 2, nx)) (j : Nat) (hj : lv[j]? = some (q, .null)) (k : G2 E nL nx lv (.null :: st) mm A dm) : G2 E nL pc lv st mm A dm := by
  obtain ⟨p, l, e, R, s, m, args, below, meth, c, Q, K, A0, res, mo, fA, fd⟩ := E
  obtain ⟨hd, hn⟩ := Bx2.dec B h
  subst hn
  intro H locs ls hg hP hS hl
  exact lv_aloadN B.1 rfl hd (lv_at hl j (lvm hj)) (k H locs ls hg hP hS hl)
theorem w_ifnullN {E : Ev2} {own : String} {tb : Tb} {nL : Nat} {ret : Option FieldType} {pc nx : Nat} {lv : Lv} {st : List Value} {mm : Mem} {A : AS} {dm : DM} {off : Int} (B : Bx2 E own tb nL ret) (i : Nat) (h : tb[i]? = some (pc, .ifnull off, 3, nx)) (tgt : Nat) (ht : (pc : Int) + off = (tgt : Int)) (k : G2 E nL tgt lv st mm A dm) : G2 E nL pc lv (.null :: st) mm A dm := by
  obtain ⟨p, l, e, R, s, m, args, below, meth, c, Q, K, A0, res, mo, fA, fd⟩ := E
  obtain ⟨hd, hn⟩ := Bx2.dec B h
  subst hn
  intro H locs ls hg hP hS hl
  exact lv_ifnullN B.1 rfl hd ht (k H locs ls hg hP hS hl)
theorem w_ifnonnullN {E : Ev2} {own : String} {tb : Tb} {nL : Nat} {ret : Option FieldType} {pc nx : Nat} {lv : Lv} {st : List Value} {mm : Mem} {A : AS} {dm : DM} {off : Int} (B : Bx2 E own tb nL ret) (i : Nat) (h : tb[i]? = some (pc, .ifnonnull off, 3, nx)) (k : G2 E nL nx lv st mm A dm) : G2 E nL pc lv (.null :: st) mm A dm := by
  obtain ⟨p, l, e, R, s, m, args, below, meth, c, Q, K, A0, res, mo, fA, fd⟩ := E
  obtain ⟨hd, hn⟩ := Bx2.dec B h
  subst hn
  intro H locs ls hg hP hS hl
  exact lv_ifnonnullN B.1 rfl hd (k H locs ls hg hP hS hl)
theorem w_acmp_eq_t {E : Ev2} {own : String} {tb : Tb} {nL : Nat} {ret : Option FieldType} {pc nx : Nat} {lv : Lv} {st : List Value} {mm : Mem} {A : AS} {dm : DM} {a b : Nat} {off : Int} (B : Bx2 E own tb nL ret) (i : Nat) (h : tb[i]? = some (pc, .if_acmp .eq off, 3, nx)) (tgt : Nat) (ht : (pc : Int) + off = (tgt : Int)) (hc : a = b) (k : G2 E nL tgt lv st mm A dm) : G2 E nL pc lv (.ref b :: .ref a :: st) mm A dm := by
  obtain ⟨p, l, e, R, s, m, args, below, meth, c, Q, K, A0, res, mo, fA, fd⟩ := E
  obtain ⟨hd, hn⟩ := Bx2.dec B h
  subst hn
  intro H locs ls hg hP hS hl
  have hlt : K.2.1 < K.1 := Nat.lt_of_not_le B.sx.2.2.2.2.2.2.2
  have hinj : adr K a = adr K b → a = b := by
    unfold adr
    intro h9
    split at h9 <;> split at h9 <;> omega
  exact lv_acmp_eq (rx := some (adr K a)) (ry := some (adr K b)) B.1 rfl hd ht (fun _ => k H locs ls hg hP hS hl) (fun q => absurd (congrArg (fun z => some (adr K z)) hc) q)
theorem w_acmp_eq_f {E : Ev2} {own : String} {tb : Tb} {nL : Nat} {ret : Option FieldType} {pc nx : Nat} {lv : Lv} {st : List Value} {mm : Mem} {A : AS} {dm : DM} {a b : Nat} {off : Int} (B : Bx2 E own tb nL ret) (i : Nat) (h : tb[i]? = some (pc, .if_acmp .eq off, 3, nx)) (tgt : Nat) (ht : (pc : Int) + off = (tgt : Int)) (hc : ¬ a = b) (k : G2 E nL nx lv st mm A dm) : G2 E nL pc lv (.ref b :: .ref a :: st) mm A dm := by
  obtain ⟨p, l, e, R, s, m, args, below, meth, c, Q, K, A0, res, mo, fA, fd⟩ := E
  obtain ⟨hd, hn⟩ := Bx2.dec B h
  subst hn
  intro H locs ls hg hP hS hl
  have hlt : K.2.1 < K.1 := Nat.lt_of_not_le B.sx.2.2.2.2.2.2.2
  have hinj : adr K a = adr K b → a = b := by
    unfold adr
    intro h9
    split at h9 <;> split at h9 <;> omega
  exact lv_acmp_eq (rx := some (adr K a)) (ry := some (adr K b)) B.1 rfl hd ht (fun q => absurd (hinj (Option.some.inj q)) hc) (fun _ => k H locs ls hg hP hS hl)
theorem w_empty {E : Ev2} {own : String} {tb : Tb} {nL : Nat} {ret : Option FieldType} {pc nx : Nat} {lv : Lv} {st : List Value} {mm : Mem} {A : AS} {dm : DM} {n : Nat} (B : Bx2 E own tb nL ret) (i : Nat) (h : tb[i]? = some (pc, .getstatic n, 3, nx)) (hw : Cond.fieldLink own n alN alE alD ∈ TW) (k : G2 E nL nx lv (.ref 0 :: st) mm A dm) : G2 E nL pc lv st mm A dm := by
  obtain ⟨p, l, e, R, s, m, args, below, meth, c, Q, K, A0, res, mo, fA, fd⟩ := E
  obtain ⟨hd, hn⟩ := Bx2.dec B h
  subst hn
  intro H locs ls hg hP hS hl
  exact va_gets B.1 rfl B.sx.2.2.2.2.2.1 hS B.hown (B.tw _ hw) (fun _ h => h) hd (k H locs ls hg hP hS hl)
theorem w_geti {E : Ev2} {own : String} {tb : Tb} {nL : Nat} {ret : Option FieldType} {pc nx : Nat} {lv : Lv} {st : List Value} {mm : Mem} {A : AS} {dm : DM} {n : Nat} {v : Int32} {rn nm d rf : String} (B : Bx2 E own tb nL ret) (i : Nat) (h : tb[i]? = some (pc, .getfield n, 3, nx)) (ci kf q : Nat) (hci : ci ≠ 0) (hq : okd A q ci) (hf : bfl ci kf = some (rn, nm, d)) (hw : Cond.fieldLink own n rf nm d ∈ TW) (hsf : rn = rf ∨ Cond.sameField rf rn nm d ∈ TW) (hv : dm q kf = .int v) (k : G2 E nL nx lv (.int v :: st) mm A dm) : G2 E nL pc lv (.ref q :: st) mm A dm := by
  obtain ⟨p, l, e, R, s, m, args, below, meth, c, Q, K, A0, res, mo, fA, fd⟩ := E
  obtain ⟨hd, hn⟩ := Bx2.dec B h
  subst hn
  intro H locs ls hg hP hS hl
  obtain ⟨⟨Cn, T, N⟩, hx, hkN, rfl, rfl, rfl⟩ := bfl_spec hf
  obtain ⟨hws, hN, hty, hnm⟩ := zcls_ok hx
  have hc11 := zcls_lt hx
  obtain ⟨j, hj1, hj2⟩ := ow_at A (okd_liv hq hci)
  have hg1 := hj1 K mm dm
  rw [cld_obj hc11 hq] at hg1
  refine va_get (C := Cn) (T := T) (N := N) (fs := (List.range (nfl ci)).map (fun k => cvv (kc K) (dm q k))) B.1 rfl B.tw hws B.hown B.kk hP j hg1 hx kf hkN (B.tw _ hw) (fun x hx9 => hsf.elim (fun e9 => e9 ▸ hx9) (fun w9 => u_same (B.tw _ w9) x hx9)) (v := cvv (kc K) (.int v)) ?_ hd (k H locs ls hg hP hS hl)
  rw [List.getElem?_map, List.getElem?_range (by rw [← hN]; exact hkN), Option.map_some, hv]
theorem w_getiN {E : Ev2} {own : String} {tb : Tb} {nL : Nat} {ret : Option FieldType} {pc nx : Nat} {lv : Lv} {st : List Value} {mm : Mem} {A : AS} {dm : DM} {n : Nat} {v : Int32} {rn nm d rf : String} {host : String} (B : Bx2 E own tb nL ret) (i : Nat) (h : tb[i]? = some (pc, .getfield n, 3, nx)) (ci kf q : Nat) (hci : ci ≠ 0) (hq : okd A q ci) (hf : bfl ci kf = some (rn, nm, d)) (hw : (own, n, rf, nm, d, host) ∈ fns) (hsf : rn = rf ∨ Cond.sameField rf rn nm d ∈ TW) (hv : dm q kf = .int v) (k : G2 E nL nx lv (.int v :: st) mm A dm) : G2 E nL pc lv (.ref q :: st) mm A dm := by
  obtain ⟨p, l, e, R, s, m, args, below, meth, c, Q, K, A0, res, mo, fA, fd⟩ := E
  obtain ⟨hd, hn⟩ := Bx2.dec B h
  subst hn
  intro H locs ls hg hP hS hl
  obtain ⟨⟨Cn, T, N⟩, hx, hkN, rfl, rfl, rfl⟩ := bfl_spec hf
  obtain ⟨hws, hN, hty, hnm⟩ := zcls_ok hx
  have hc11 := zcls_lt hx
  obtain ⟨j, hj1, hj2⟩ := ow_at A (okd_liv hq hci)
  have hg1 := hj1 K mm dm
  rw [cld_obj hc11 hq] at hg1
  refine va_getN (C := Cn) (T := T) (N := N) (fs := (List.range (nfl ci)).map (fun k => cvv (kc K) (dm q k))) B.1 rfl B.tw hws B.hown B.kk hP j hg1 hx kf hkN (va_Nw.use rfl (B.sx.2.2.1 _ hw)) (fun x hx9 => hsf.elim (fun e9 => e9 ▸ hx9) (fun w9 => u_same (B.tw _ w9) x hx9)) (v := cvv (kc K) (.int v)) ?_ hd (k H locs ls hg hP hS hl)
  rw [List.getElem?_map, List.getElem?_range (by rw [← hN]; exact hkN), Option.map_some, hv]
theorem w_getr {E : Ev2} {own : String} {tb : Tb} {nL : Nat} {ret : Option FieldType} {pc nx : Nat} {lv : Lv} {st : List Value} {mm : Mem} {A : AS} {dm : DM} {n : Nat} {v : Nat} {rn nm d rf : String} (B : Bx2 E own tb nL ret) (i : Nat) (h : tb[i]? = some (pc, .getfield n, 3, nx)) (ci kf q : Nat) (hci : ci ≠ 0) (hq : okd A q ci) (hf : bfl ci kf = some (rn, nm, d)) (hw : Cond.fieldLink own n rf nm d ∈ TW) (hsf : rn = rf ∨ Cond.sameField rf rn nm d ∈ TW) (hv : dm q kf = .ref v) (k : G2 E nL nx lv (.ref v :: st) mm A dm) : G2 E nL pc lv (.ref q :: st) mm A dm := by
  obtain ⟨p, l, e, R, s, m, args, below, meth, c, Q, K, A0, res, mo, fA, fd⟩ := E
  obtain ⟨hd, hn⟩ := Bx2.dec B h
  subst hn
  intro H locs ls hg hP hS hl
  obtain ⟨⟨Cn, T, N⟩, hx, hkN, rfl, rfl, rfl⟩ := bfl_spec hf
  obtain ⟨hws, hN, hty, hnm⟩ := zcls_ok hx
  have hc11 := zcls_lt hx
  obtain ⟨j, hj1, hj2⟩ := ow_at A (okd_liv hq hci)
  have hg1 := hj1 K mm dm
  rw [cld_obj hc11 hq] at hg1
  refine va_get (C := Cn) (T := T) (N := N) (fs := (List.range (nfl ci)).map (fun k => cvv (kc K) (dm q k))) B.1 rfl B.tw hws B.hown B.kk hP j hg1 hx kf hkN (B.tw _ hw) (fun x hx9 => hsf.elim (fun e9 => e9 ▸ hx9) (fun w9 => u_same (B.tw _ w9) x hx9)) (v := cvv (kc K) (.ref v)) ?_ hd (k H locs ls hg hP hS hl)
  rw [List.getElem?_map, List.getElem?_range (by rw [← hN]; exact hkN), Option.map_some, hv]
theorem w_getrN {E : Ev2} {own : String} {tb : Tb} {nL : Nat} {ret : Option FieldType} {pc nx : Nat} {lv : Lv} {st : List Value} {mm : Mem} {A : AS} {dm : DM} {n : Nat} {v : Nat} {rn nm d rf : String} {host : String} (B : Bx2 E own tb nL ret) (i : Nat) (h : tb[i]? = some (pc, .getfield n, 3, nx)) (ci kf q : Nat) (hci : ci ≠ 0) (hq : okd A q ci) (hf : bfl ci kf = some (rn, nm, d)) (hw : (own, n, rf, nm, d, host) ∈ fns) (hsf : rn = rf ∨ Cond.sameField rf rn nm d ∈ TW) (hv : dm q kf = .ref v) (k : G2 E nL nx lv (.ref v :: st) mm A dm) : G2 E nL pc lv (.ref q :: st) mm A dm := by
  obtain ⟨p, l, e, R, s, m, args, below, meth, c, Q, K, A0, res, mo, fA, fd⟩ := E
  obtain ⟨hd, hn⟩ := Bx2.dec B h
  subst hn
  intro H locs ls hg hP hS hl
  obtain ⟨⟨Cn, T, N⟩, hx, hkN, rfl, rfl, rfl⟩ := bfl_spec hf
  obtain ⟨hws, hN, hty, hnm⟩ := zcls_ok hx
  have hc11 := zcls_lt hx
  obtain ⟨j, hj1, hj2⟩ := ow_at A (okd_liv hq hci)
  have hg1 := hj1 K mm dm
  rw [cld_obj hc11 hq] at hg1
  refine va_getN (C := Cn) (T := T) (N := N) (fs := (List.range (nfl ci)).map (fun k => cvv (kc K) (dm q k))) B.1 rfl B.tw hws B.hown B.kk hP j hg1 hx kf hkN (va_Nw.use rfl (B.sx.2.2.1 _ hw)) (fun x hx9 => hsf.elim (fun e9 => e9 ▸ hx9) (fun w9 => u_same (B.tw _ w9) x hx9)) (v := cvv (kc K) (.ref v)) ?_ hd (k H locs ls hg hP hS hl)
  rw [List.getElem?_map, List.getElem?_range (by rw [← hN]; exact hkN), Option.map_some, hv]
theorem w_puti {E : Ev2} {own : String} {tb : Tb} {nL : Nat} {ret : Option FieldType} {pc nx : Nat} {lv : Lv} {st : List Value} {mm : Mem} {A : AS} {dm : DM} {n : Nat} {v : Int32} {rn nm d rf : String} {ty : FieldType} (B : Bx2 E own tb nL ret) (i : Nat) (h : tb[i]? = some (pc, .putfield n, 3, nx)) (ci kf q : Nat) (hci : ci ≠ 0) (hq : okd A q ci) (hf : bfl ci kf = some (rn, nm, d)) (hw : Cond.fieldLink own n rf nm d ∈ TW) (hsf : rn = rf ∨ Cond.sameField rf rn nm d ∈ TW) (hfin : zfin ci kf = false) (hd0 : parseFieldDescriptor d = some ty) (hnar : narrow ty (.int v) = .int v ∧ fits ty (.int v) = true) (k : G2 E nL nx lv st mm A (up3 dm q kf (.int v))) : G2 E nL pc lv (.int v :: .ref q :: st) mm A dm := by
  obtain ⟨p, l, e, R, s, m, args, below, meth, c, Q, K, A0, res, mo, fA, fd⟩ := E
  obtain ⟨hd, hn⟩ := Bx2.dec B h
  subst hn
  intro H locs ls hg hP hS hl
  obtain ⟨⟨Cn, T, N⟩, hx, hkN, rfl, rfl, rfl⟩ := bfl_spec hf
  obtain ⟨hws, hN, hty, hnm⟩ := zcls_ok hx
  have hc11 := zcls_lt hx
  obtain ⟨j, hj1, hj2⟩ := ow_at A (okd_liv hq hci)
  have hg1 := hj1 K mm dm
  rw [cld_obj hc11 hq] at hg1
  have hfin' : (T kf).2.2.2 = false := by unfold zfin at hfin; rw [hx] at hfin; exact hfin
  refine va_put (C := Cn) (T := T) (N := N) (ty := ty) (v := cvv (kc K) (.int v)) (fs := (List.range (nfl ci)).map (fun k => cvv (kc K) (dm q k))) B.1 rfl B.tw hws (tyA ci) hty hnm B.hown B.kk hP (w2_D hg.1) hS j hg1 hx kf hkN (B.tw _ hw) (fun x hx9 => hsf.elim (fun e9 => e9 ▸ hx9) (fun w9 => u_same (B.tw _ w9) x hx9)) hfin' hd0 hnar.1 hnar.2 (by rw [List.length_map, List.length_range, ← hN]; exact hkN) hd (fun H1 locs1 hP1 _ hS1 => ?_)
  have h5 := hj2 K mm dm (up3 dm q kf (.int v)) (fun a ha => up3_ne ha)
  rw [cld_obj hc11 hq, ← fset_up3] at h5
  rw [h5] at hP1
  exact k H1 locs1 ls hg hP1 hS1 hl
theorem w_putiN {E : Ev2} {own : String} {tb : Tb} {nL : Nat} {ret : Option FieldType} {pc nx : Nat} {lv : Lv} {st : List Value} {mm : Mem} {A : AS} {dm : DM} {n : Nat} {v : Int32} {rn nm d rf : String} {ty : FieldType} {host : String} (B : Bx2 E own tb nL ret) (i : Nat) (h : tb[i]? = some (pc, .putfield n, 3, nx)) (ci kf q : Nat) (hci : ci ≠ 0) (hq : okd A q ci) (hf : bfl ci kf = some (rn, nm, d)) (hw : (own, n, rf, nm, d, host) ∈ fns) (hsf : rn = rf ∨ Cond.sameField rf rn nm d ∈ TW) (hfin : zfin ci kf = false) (hd0 : parseFieldDescriptor d = some ty) (hnar : narrow ty (.int v) = .int v ∧ fits ty (.int v) = true) (k : G2 E nL nx lv st mm A (up3 dm q kf (.int v))) : G2 E nL pc lv (.int v :: .ref q :: st) mm A dm := by
  obtain ⟨p, l, e, R, s, m, args, below, meth, c, Q, K, A0, res, mo, fA, fd⟩ := E
  obtain ⟨hd, hn⟩ := Bx2.dec B h
  subst hn
  intro H locs ls hg hP hS hl
  obtain ⟨⟨Cn, T, N⟩, hx, hkN, rfl, rfl, rfl⟩ := bfl_spec hf
  obtain ⟨hws, hN, hty, hnm⟩ := zcls_ok hx
  have hc11 := zcls_lt hx
  obtain ⟨j, hj1, hj2⟩ := ow_at A (okd_liv hq hci)
  have hg1 := hj1 K mm dm
  rw [cld_obj hc11 hq] at hg1
  have hfin' : (T kf).2.2.2 = false := by unfold zfin at hfin; rw [hx] at hfin; exact hfin
  refine va_putN (C := Cn) (T := T) (N := N) (ty := ty) (v := cvv (kc K) (.int v)) (fs := (List.range (nfl ci)).map (fun k => cvv (kc K) (dm q k))) B.1 rfl B.tw hws (tyA ci) hty hnm B.hown B.kk hP (w2_D hg.1) hS j hg1 hx kf hkN (va_Nw.use rfl (B.sx.2.2.1 _ hw)) (fun x hx9 => hsf.elim (fun e9 => e9 ▸ hx9) (fun w9 => u_same (B.tw _ w9) x hx9)) hfin' hd0 hnar.1 hnar.2 (by rw [List.length_map, List.length_range, ← hN]; exact hkN) hd (fun H1 locs1 hP1 _ hS1 => ?_)
  have h5 := hj2 K mm dm (up3 dm q kf (.int v)) (fun a ha => up3_ne ha)
  rw [cld_obj hc11 hq, ← fset_up3] at h5
  rw [h5] at hP1
  exact k H1 locs1 ls hg hP1 hS1 hl
theorem w_putiF {E : Ev2} {own : String} {tb : Tb} {nL : Nat} {ret : Option FieldType} {pc nx : Nat} {lv : Lv} {st : List Value} {mm : Mem} {A : AS} {dm : DM} {n : Nat} {v : Int32} {rn nm d rf : String} {ty : FieldType} (B : Bx2 E own tb nL ret) (i : Nat) (h : tb[i]? = some (pc, .putfield n, 3, nx)) (ci kf q : Nat) (hci : ci ≠ 0) (hq : okd A q ci) (hf : bfl ci kf = some (rn, nm, d)) (hw : Cond.fieldLink own n rf nm d ∈ TW) (hsf : rn = rf ∨ Cond.sameField rf rn nm d ∈ TW) (hfin : zfin ci kf = true) (hI : In2 E) (hdecl : rn = own) (hd0 : parseFieldDescriptor d = some ty) (hnar : narrow ty (.int v) = .int v ∧ fits ty (.int v) = true) (k : G2 E nL nx lv st mm A (up3 dm q kf (.int v))) : G2 E nL pc lv (.int v :: .ref q :: st) mm A dm := by
  obtain ⟨p, l, e, R, s, m, args, below, meth, c, Q, K, A0, res, mo, fA, fd⟩ := E
  obtain ⟨hd, hn⟩ := Bx2.dec B h
  subst hn
  intro H locs ls hg hP hS hl
  obtain ⟨⟨Cn, T, N⟩, hx, hkN, rfl, rfl, rfl⟩ := bfl_spec hf
  obtain ⟨hws, hN, hty, hnm⟩ := zcls_ok hx
  have hc11 := zcls_lt hx
  obtain ⟨j, hj1, hj2⟩ := ow_at A (okd_liv hq hci)
  have hg1 := hj1 K mm dm
  rw [cld_obj hc11 hq] at hg1
  have hfin' : (T kf).2.2.2 = true := by unfold zfin at hfin; rw [hx] at hfin; exact hfin
  refine va_putF (C := Cn) (T := T) (N := N) (ty := ty) (v := cvv (kc K) (.int v)) (fs := (List.range (nfl ci)).map (fun k => cvv (kc K) (dm q k))) B.1 rfl B.tw hws (tyA ci) hty hnm B.hown B.kk hP (w2_D hg.1) hS j hg1 hx kf hkN (B.tw _ hw) (fun x hx9 => hsf.elim (fun e9 => e9 ▸ hx9) (fun w9 => u_same (B.tw _ w9) x hx9)) hfin' hI hdecl hd0 hnar.1 hnar.2 (by rw [List.length_map, List.length_range, ← hN]; exact hkN) hd (fun H1 locs1 hP1 _ hS1 => ?_)
  have h5 := hj2 K mm dm (up3 dm q kf (.int v)) (fun a ha => up3_ne ha)
  rw [cld_obj hc11 hq, ← fset_up3] at h5
  rw [h5] at hP1
  exact k H1 locs1 ls hg hP1 hS1 hl
theorem w_putr {E : Ev2} {own : String} {tb : Tb} {nL : Nat} {ret : Option FieldType} {pc nx : Nat} {lv : Lv} {st : List Value} {mm : Mem} {A : AS} {dm : DM} {n : Nat} {v : Nat} {rn nm d rf : String} {ty : FieldType} (B : Bx2 E own tb nL ret) (i : Nat) (h : tb[i]? = some (pc, .putfield n, 3, nx)) (ci kf q : Nat) (hci : ci ≠ 0) (hq : okd A q ci) (hf : bfl ci kf = some (rn, nm, d)) (hw : Cond.fieldLink own n rf nm d ∈ TW) (hsf : rn = rf ∨ Cond.sameField rf rn nm d ∈ TW) (hfin : zfin ci kf = false) (hd0 : parseFieldDescriptor d = some ty) (hnar : ∀ z : Nat, narrow ty (.ref z) = .ref z ∧ fits ty (.ref z) = true) (k : G2 E nL nx lv st mm A (up3 dm q kf (.ref v))) : G2 E nL pc lv (.ref v :: .ref q :: st) mm A dm := by
  obtain ⟨p, l, e, R, s, m, args, below, meth, c, Q, K, A0, res, mo, fA, fd⟩ := E
  obtain ⟨hd, hn⟩ := Bx2.dec B h
  subst hn
  intro H locs ls hg hP hS hl
  obtain ⟨⟨Cn, T, N⟩, hx, hkN, rfl, rfl, rfl⟩ := bfl_spec hf
  obtain ⟨hws, hN, hty, hnm⟩ := zcls_ok hx
  have hc11 := zcls_lt hx
  obtain ⟨j, hj1, hj2⟩ := ow_at A (okd_liv hq hci)
  have hg1 := hj1 K mm dm
  rw [cld_obj hc11 hq] at hg1
  have hfin' : (T kf).2.2.2 = false := by unfold zfin at hfin; rw [hx] at hfin; exact hfin
  refine va_put (C := Cn) (T := T) (N := N) (ty := ty) (v := cvv (kc K) (.ref v)) (fs := (List.range (nfl ci)).map (fun k => cvv (kc K) (dm q k))) B.1 rfl B.tw hws (tyA ci) hty hnm B.hown B.kk hP (w2_D hg.1) hS j hg1 hx kf hkN (B.tw _ hw) (fun x hx9 => hsf.elim (fun e9 => e9 ▸ hx9) (fun w9 => u_same (B.tw _ w9) x hx9)) hfin' hd0 (hnar _).1 (hnar _).2 (by rw [List.length_map, List.length_range, ← hN]; exact hkN) hd (fun H1 locs1 hP1 _ hS1 => ?_)
  have h5 := hj2 K mm dm (up3 dm q kf (.ref v)) (fun a ha => up3_ne ha)
  rw [cld_obj hc11 hq, ← fset_up3] at h5
  rw [h5] at hP1
  exact k H1 locs1 ls hg hP1 hS1 hl
theorem w_putrN {E : Ev2} {own : String} {tb : Tb} {nL : Nat} {ret : Option FieldType} {pc nx : Nat} {lv : Lv} {st : List Value} {mm : Mem} {A : AS} {dm : DM} {n : Nat} {v : Nat} {rn nm d rf : String} {ty : FieldType} {host : String} (B : Bx2 E own tb nL ret) (i : Nat) (h : tb[i]? = some (pc, .putfield n, 3, nx)) (ci kf q : Nat) (hci : ci ≠ 0) (hq : okd A q ci) (hf : bfl ci kf = some (rn, nm, d)) (hw : (own, n, rf, nm, d, host) ∈ fns) (hsf : rn = rf ∨ Cond.sameField rf rn nm d ∈ TW) (hfin : zfin ci kf = false) (hd0 : parseFieldDescriptor d = some ty) (hnar : ∀ z : Nat, narrow ty (.ref z) = .ref z ∧ fits ty (.ref z) = true) (k : G2 E nL nx lv st mm A (up3 dm q kf (.ref v))) : G2 E nL pc lv (.ref v :: .ref q :: st) mm A dm := by
  obtain ⟨p, l, e, R, s, m, args, below, meth, c, Q, K, A0, res, mo, fA, fd⟩ := E
  obtain ⟨hd, hn⟩ := Bx2.dec B h
  subst hn
  intro H locs ls hg hP hS hl
  obtain ⟨⟨Cn, T, N⟩, hx, hkN, rfl, rfl, rfl⟩ := bfl_spec hf
  obtain ⟨hws, hN, hty, hnm⟩ := zcls_ok hx
  have hc11 := zcls_lt hx
  obtain ⟨j, hj1, hj2⟩ := ow_at A (okd_liv hq hci)
  have hg1 := hj1 K mm dm
  rw [cld_obj hc11 hq] at hg1
  have hfin' : (T kf).2.2.2 = false := by unfold zfin at hfin; rw [hx] at hfin; exact hfin
  refine va_putN (C := Cn) (T := T) (N := N) (ty := ty) (v := cvv (kc K) (.ref v)) (fs := (List.range (nfl ci)).map (fun k => cvv (kc K) (dm q k))) B.1 rfl B.tw hws (tyA ci) hty hnm B.hown B.kk hP (w2_D hg.1) hS j hg1 hx kf hkN (va_Nw.use rfl (B.sx.2.2.1 _ hw)) (fun x hx9 => hsf.elim (fun e9 => e9 ▸ hx9) (fun w9 => u_same (B.tw _ w9) x hx9)) hfin' hd0 (hnar _).1 (hnar _).2 (by rw [List.length_map, List.length_range, ← hN]; exact hkN) hd (fun H1 locs1 hP1 _ hS1 => ?_)
  have h5 := hj2 K mm dm (up3 dm q kf (.ref v)) (fun a ha => up3_ne ha)
  rw [cld_obj hc11 hq, ← fset_up3] at h5
  rw [h5] at hP1
  exact k H1 locs1 ls hg hP1 hS1 hl
theorem w_putrF {E : Ev2} {own : String} {tb : Tb} {nL : Nat} {ret : Option FieldType} {pc nx : Nat} {lv : Lv} {st : List Value} {mm : Mem} {A : AS} {dm : DM} {n : Nat} {v : Nat} {rn nm d rf : String} {ty : FieldType} (B : Bx2 E own tb nL ret) (i : Nat) (h : tb[i]? = some (pc, .putfield n, 3, nx)) (ci kf q : Nat) (hci : ci ≠ 0) (hq : okd A q ci) (hf : bfl ci kf = some (rn, nm, d)) (hw : Cond.fieldLink own n rf nm d ∈ TW) (hsf : rn = rf ∨ Cond.sameField rf rn nm d ∈ TW) (hfin : zfin ci kf = true) (hI : In2 E) (hdecl : rn = own) (hd0 : parseFieldDescriptor d = some ty) (hnar : ∀ z : Nat, narrow ty (.ref z) = .ref z ∧ fits ty (.ref z) = true) (k : G2 E nL nx lv st mm A (up3 dm q kf (.ref v))) : G2 E nL pc lv (.ref v :: .ref q :: st) mm A dm := by
  obtain ⟨p, l, e, R, s, m, args, below, meth, c, Q, K, A0, res, mo, fA, fd⟩ := E
  obtain ⟨hd, hn⟩ := Bx2.dec B h
  subst hn
  intro H locs ls hg hP hS hl
  obtain ⟨⟨Cn, T, N⟩, hx, hkN, rfl, rfl, rfl⟩ := bfl_spec hf
  obtain ⟨hws, hN, hty, hnm⟩ := zcls_ok hx
  have hc11 := zcls_lt hx
  obtain ⟨j, hj1, hj2⟩ := ow_at A (okd_liv hq hci)
  have hg1 := hj1 K mm dm
  rw [cld_obj hc11 hq] at hg1
  have hfin' : (T kf).2.2.2 = true := by unfold zfin at hfin; rw [hx] at hfin; exact hfin
  refine va_putF (C := Cn) (T := T) (N := N) (ty := ty) (v := cvv (kc K) (.ref v)) (fs := (List.range (nfl ci)).map (fun k => cvv (kc K) (dm q k))) B.1 rfl B.tw hws (tyA ci) hty hnm B.hown B.kk hP (w2_D hg.1) hS j hg1 hx kf hkN (B.tw _ hw) (fun x hx9 => hsf.elim (fun e9 => e9 ▸ hx9) (fun w9 => u_same (B.tw _ w9) x hx9)) hfin' hI hdecl hd0 (hnar _).1 (hnar _).2 (by rw [List.length_map, List.length_range, ← hN]; exact hkN) hd (fun H1 locs1 hP1 _ hS1 => ?_)
  have h5 := hj2 K mm dm (up3 dm q kf (.ref v)) (fun a ha => up3_ne ha)
  rw [cld_obj hc11 hq, ← fset_up3] at h5
  rw [h5] at hP1
  exact k H1 locs1 ls hg hP1 hS1 hl
theorem w_iald {E : Ev2} {own : String} {tb : Tb} {nL : Nat} {ret : Option FieldType} {pc nx : Nat} {lv : Lv} {st : List Value} {mm : Mem} {A : AS} {dm : DM} {q : Nat} {x v : Int32} (B : Bx2 E own tb nL ret) (i : Nat) (h : tb[i]? = some (pc, .iaload, 1, nx)) (hq : okd A q 20) (hx : inb x (A.2.2.1 q).2 = true) (hv : dm q x.toNatClampNeg = .int v) (k : G2 E nL nx lv (.int v :: st) mm A dm) : G2 E nL pc lv (.int x :: .ref q :: st) mm A dm := by
  obtain ⟨p, l, e, R, s, m, args, below, meth, c, Q, K, A0, res, mo, fA, fd⟩ := E
  obtain ⟨hd, hn⟩ := Bx2.dec B h
  subst hn
  intro H locs ls hg hP hS hl
  obtain ⟨j, hj1, hj2⟩ := ow_at A (okd_liv hq (by decide))
  have hg1 := hj1 K mm dm
  rw [cld_int hq] at hg1
  have h6 : vint (dm q x.toNatClampNeg) = v := by rw [hv]; rfl
  refine va_iald B.1 rfl B.kk hP j 0 hg1 rfl (inb_in hx) hd ?_
  have := k H locs ls hg hP hS hl
  rw [h6]
  exact this
theorem w_iast {E : Ev2} {own : String} {tb : Tb} {nL : Nat} {ret : Option FieldType} {pc nx : Nat} {lv : Lv} {st : List Value} {mm : Mem} {A : AS} {dm : DM} {q : Nat} {x v : Int32} (B : Bx2 E own tb nL ret) (i : Nat) (h : tb[i]? = some (pc, .iastore, 1, nx)) (hq : okd A q 20) (hx : inb x (A.2.2.1 q).2 = true) (k : G2 E nL nx lv st mm A (up3 dm q x.toNatClampNeg (.int v))) : G2 E nL pc lv (.int v :: .int x :: .ref q :: st) mm A dm := by
  obtain ⟨p, l, e, R, s, m, args, below, meth, c, Q, K, A0, res, mo, fA, fd⟩ := E
  obtain ⟨hd, hn⟩ := Bx2.dec B h
  subst hn
  intro H locs ls hg hP hS hl
  obtain ⟨j, hj1, hj2⟩ := ow_at A (okd_liv hq (by decide))
  have hg1 := hj1 K mm dm
  rw [cld_int hq] at hg1
  refine va_iast B.1 rfl B.kk hP (w2_D hg.1) hS j 0 hg1 rfl (inb_in hx) hd (fun H1 locs1 hP1 _ hS1 => ?_)
  have h5 := hj2 K mm dm (up3 dm q x.toNatClampNeg (.int v)) (fun a ha => up3_ne ha)
  rw [cld_int hq, vint_up] at h5
  have hP2 : va_P K.2.2.1 zcls _ H1 := hP1
  rw [h5] at hP2
  exact k H1 locs1 ls hg hP2 hS1 hl
theorem w_rald {E : Ev2} {own : String} {tb : Tb} {nL : Nat} {ret : Option FieldType} {pc nx : Nat} {lv : Lv} {st : List Value} {mm : Mem} {A : AS} {dm : DM} {q v : Nat} {x : Int32} (B : Bx2 E own tb nL ret) (i : Nat) (h : tb[i]? = some (pc, .aaload, 1, nx)) (hq : okd A q 21) (hx : inb x (A.2.2.1 q).2 = true) (hv : dm q x.toNatClampNeg = .ref v) (k : G2 E nL nx lv (.ref v :: st) mm A dm) : G2 E nL pc lv (.int x :: .ref q :: st) mm A dm := by
  obtain ⟨p, l, e, R, s, m, args, below, meth, c, Q, K, A0, res, mo, fA, fd⟩ := E
  obtain ⟨hd, hn⟩ := Bx2.dec B h
  subst hn
  intro H locs ls hg hP hS hl
  obtain ⟨j, hj1, hj2⟩ := ow_at A (okd_liv hq (by decide))
  have hg1 := hj1 K mm dm
  rw [cld_row hq] at hg1
  have h6 : vrf K (dm q x.toNatClampNeg) = some (adr K v) := by rw [hv]; rfl
  refine va_aldq B.1 rfl B.kk hP j 1 hg1 rfl (inb_in hx) hd ?_
  have := k H locs ls hg hP hS hl
  rw [h6]
  exact this
theorem w_gald {E : Ev2} {own : String} {tb : Tb} {nL : Nat} {ret : Option FieldType} {pc nx : Nat} {lv : Lv} {st : List Value} {mm : Mem} {A : AS} {dm : DM} {q v : Nat} {x : Int32} (B : Bx2 E own tb nL ret) (i : Nat) (h : tb[i]? = some (pc, .aaload, 1, nx)) (hq : okd A q 22) (hx : inb x (A.2.2.1 q).2 = true) (hv : dm q x.toNatClampNeg = .ref v) (k : G2 E nL nx lv (.ref v :: st) mm A dm) : G2 E nL pc lv (.int x :: .ref q :: st) mm A dm := by
  obtain ⟨p, l, e, R, s, m, args, below, meth, c, Q, K, A0, res, mo, fA, fd⟩ := E
  obtain ⟨hd, hn⟩ := Bx2.dec B h
  subst hn
  intro H locs ls hg hP hS hl
  obtain ⟨j, hj1, hj2⟩ := ow_at A (okd_liv hq (by decide))
  have hg1 := hj1 K mm dm
  rw [cld_grid hq] at hg1
  have hlt : x.toNatClampNeg < (A.2.2.1 q).2 := Nat.not_le.mp fun z => inb_in hx (Or.inr z)
  refine W.aald (v := .ref (adr K v)) (ty := .array .int) B.1 rfl (hP j _ hg1) ((B.kk.2 2 _ rfl).1 (A.2.2.1 q).2 (fun j => va_rf (vrf K (dm q j)))) rfl (fun z => by cases z) (by show ¬ (x < 0 ∨ (arrV _ _ _).slots.size ≤ _); rw [arrV_size]; exact inb_in hx) (by show (arrV _ _ _).slots[_]? = _; rw [arrV_read _ _ hlt]; show some (va_rf (vrf K (dm q x.toNatClampNeg))) = _; rw [hv]; rfl) rfl rfl hd (k H locs ls hg hP hS hl)
theorem w_rast {E : Ev2} {own : String} {tb : Tb} {nL : Nat} {ret : Option FieldType} {pc nx : Nat} {lv : Lv} {st : List Value} {mm : Mem} {A : AS} {dm : DM} {q v : Nat} {x : Int32} (B : Bx2 E own tb nL ret) (i : Nat) (h : tb[i]? = some (pc, .aastore, 1, nx)) (hq : okd A q 21) (hx : inb x (A.2.2.1 q).2 = true) (hv : okd A v 20 ∨ okd A v 9) (k : G2 E nL nx lv st mm A (up3 dm q x.toNatClampNeg (.ref v))) : G2 E nL pc lv (.ref v :: .int x :: .ref q :: st) mm A dm := by
  obtain ⟨p, l, e, R, s, m, args, below, meth, c, Q, K, A0, res, mo, fA, fd⟩ := E
  obtain ⟨hd, hn⟩ := Bx2.dec B h
  subst hn
  intro H locs ls hg hP hS hl
  obtain ⟨j, hj1, hj2⟩ := ow_at A (okd_liv hq (by decide))
  have hg1 := hj1 K mm dm
  rw [cld_row hq] at hg1
  have hr : ∃ C : String, (∃ cellV : Cell, H[adr K v]? = some cellV ∧ cellV.vm.isStatics = false ∧ s.vm.findClass C = some cellV.cls) ∧ Cond.castable C "java/lang/Object" ∈ TF := by
    rcases hv with hv | hv
    · obtain ⟨j9, hj9, -⟩ := ow_at A (okd_liv hv (by decide))
      have h9 := hj9 K mm dm
      rw [cld_int hv] at h9
      exact ⟨"[I", ⟨_, hP j9 _ h9, rfl, va_nm_int (B.kk.2 0 _ rfl).2⟩, tf_of (i := 1070) (by decide +kernel)⟩
    · obtain ⟨j9, hj9, -⟩ := ow_at A (okd_liv hv (by decide))
      have h9 := hj9 K mm dm
      rw [cld_obj (by decide) hv] at h9
      exact ⟨alN, va_recv B.kk hP rfl h9, tf_of (i := 1061) (by decide +kernel)⟩
  obtain ⟨C, hr1, hr2⟩ := hr
  refine vb_astq B.1 rfl B.kk hP (w2_D hg.1) hS j 1 hg1 rfl hr1 (vb_asgC (B.sx.2.1 _ hr2)) (inb_in hx) hd (fun H1 locs1 hP1 _ hS1 => ?_)
  have h5 := hj2 K mm dm (up3 dm q x.toNatClampNeg (.ref v)) (fun a ha => up3_ne ha)
  rw [cld_row hq, vrf_up] at h5
  have hP2 : va_P K.2.2.1 zcls _ H1 := hP1
  rw [h5] at hP2
  exact k H1 locs1 ls hg hP2 hS1 hl
theorem w_rastN {E : Ev2} {own : String} {tb : Tb} {nL : Nat} {ret : Option FieldType} {pc nx : Nat} {lv : Lv} {st : List Value} {mm : Mem} {A : AS} {dm : DM} {q : Nat} {x : Int32} (B : Bx2 E own tb nL ret) (i : Nat) (h : tb[i]? = some (pc, .aastore, 1, nx)) (hq : okd A q 21) (hx : inb x (A.2.2.1 q).2 = true) (k : G2 E nL nx lv st mm A (up3 dm q x.toNatClampNeg .null)) : G2 E nL pc lv (.null :: .int x :: .ref q :: st) mm A dm := by
  obtain ⟨p, l, e, R, s, m, args, below, meth, c, Q, K, A0, res, mo, fA, fd⟩ := E
  obtain ⟨hd, hn⟩ := Bx2.dec B h
  subst hn
  intro H locs ls hg hP hS hl
  obtain ⟨j, hj1, hj2⟩ := ow_at A (okd_liv hq (by decide))
  have hg1 := hj1 K mm dm
  rw [cld_row hq] at hg1
  refine va_astqN B.1 rfl B.kk hP (w2_D hg.1) hS j 1 hg1 rfl (inb_in hx) hd (fun H1 locs1 hP1 _ hS1 => ?_)
  have h5 := hj2 K mm dm (up3 dm q x.toNatClampNeg .null) (fun a ha => up3_ne ha)
  rw [cld_row hq, vrf_upN] at h5
  have hP2 : va_P K.2.2.1 zcls _ H1 := hP1
  rw [h5] at hP2
  exact k H1 locs1 ls hg hP2 hS1 hl
theorem w_alen {E : Ev2} {own : String} {tb : Tb} {nL : Nat} {ret : Option FieldType} {pc nx : Nat} {lv : Lv} {st : List Value} {mm : Mem} {A : AS} {dm : DM} {q : Nat} (B : Bx2 E own tb nL ret) (i : Nat) (h : tb[i]? = some (pc, .arraylength, 1, nx)) (hq : okd A q 20 ∨ okd A q 21 ∨ q = 0) (k : G2 E nL nx lv (.int (nI (lenA A q)) :: st) mm A dm) : G2 E nL pc lv (.ref q :: st) mm A dm := by
  obtain ⟨p, l, e, R, s, m, args, below, meth, c, Q, K, A0, res, mo, fA, fd⟩ := E
  obtain ⟨hd, hn⟩ := Bx2.dec B h
  subst hn
  intro H locs ls hg hP hS hl
  rcases hq with hq | hq | hq
  · obtain ⟨j, hj1, hj2⟩ := ow_at A (okd_liv hq (by decide))
    have hg1 := hj1 K mm dm
    rw [cld_int hq] at hg1
    exact va_alen B.1 rfl B.kk hP j 0 hg1 (ty := .int) rfl (by rw [lenA_pos hq]; rfl) hd (k H locs ls hg hP hS hl)
  · obtain ⟨j, hj1, hj2⟩ := ow_at A (okd_liv hq (by decide))
    have hg1 := hj1 K mm dm
    rw [cld_row hq] at hg1
    exact va_alen B.1 rfl B.kk hP j 1 hg1 (ty := .object "java/lang/Object") rfl (by rw [lenA_pos hq]; rfl) hd (k H locs ls hg hP hS hl)
  · subst hq
    have h0 := B.sx.2.2.2.2.2.2
    obtain ⟨cell, c1, c2, c3, c4, c5, c6, c7⟩ := h0.1
    exact W.alen (n := nI (lenA A 0)) B.1 rfl ((hS.2.1 K.2.1 (Array.getElem?_eq_some_iff.mp c1).1 h0.2).trans c1) c2 c5 rfl rfl hd (k H locs ls hg hP hS hl)
theorem w_castI {E : Ev2} {own : String} {tb : Tb} {nL : Nat} {ret : Option FieldType} {pc nx : Nat} {lv : Lv} {st : List Value} {mm : Mem} {A : AS} {dm : DM} {q n : Nat} (B : Bx2 E own tb nL ret) (i : Nat) (h : tb[i]? = some (pc, .checkcast n, 3, nx)) (hq : okd A q 20) (hw : Cond.classLink own n "[I" ∈ TW) (k : G2 E nL nx lv (.ref q :: st) mm A dm) : G2 E nL pc lv (.ref q :: st) mm A dm := by
  obtain ⟨p, l, e, R, s, m, args, below, meth, c, Q, K, A0, res, mo, fA, fd⟩ := E
  obtain ⟨hd, hn⟩ := Bx2.dec B h
  subst hn
  intro H locs ls hg hP hS hl
  obtain ⟨j, hj1, hj2⟩ := ow_at A (okd_liv hq (by decide))
  have hg1 := hj1 K mm dm
  rw [cld_int hq] at hg1
  exact va_castA B.1 rfl B.hown (B.tw _ hw) hP j hg1 (va_nm_int (B.kk.2 0 _ rfl).2) hd (k H locs ls hg hP hS hl)
theorem w_castL {E : Ev2} {own : String} {tb : Tb} {nL : Nat} {ret : Option FieldType} {pc nx : Nat} {lv : Lv} {st : List Value} {mm : Mem} {A : AS} {dm : DM} {q n : Nat} (B : Bx2 E own tb nL ret) (i : Nat) (h : tb[i]? = some (pc, .checkcast n, 3, nx)) (hq : okd A q 9) (hw : Cond.classLink own n alN ∈ TW) (k : G2 E nL nx lv (.ref q :: st) mm A dm) : G2 E nL pc lv (.ref q :: st) mm A dm := by
  obtain ⟨p, l, e, R, s, m, args, below, meth, c, Q, K, A0, res, mo, fA, fd⟩ := E
  obtain ⟨hd, hn⟩ := Bx2.dec B h
  subst hn
  intro H locs ls hg hP hS hl
  obtain ⟨j, hj1, hj2⟩ := ow_at A (okd_liv hq (by decide))
  have hg1 := hj1 K mm dm
  rw [cld_obj (by decide) hq] at hg1
  exact va_castS B.1 rfl B.hown (B.tw _ hw) (B.kk.1 9 _ rfl).2 (va_recv (q := (RJx4a65c, TJx4a65c, 3)) B.kk hP rfl hg1) hd (k H locs ls hg hP hS hl)
theorem w_new {E : Ev2} {own : String} {tb : Tb} {nL : Nat} {ret : Option FieldType} {pc nx : Nat} {lv : Lv} {st : List Value} {mm : Mem} {A : AS} {dm : DM} {n N : Nat} {Cn : String} {T : u_T} {r0 : Option Value} {mo0 : Mem} {fA0 : AS} {fd0 : DM} {q : Nat} {A1 : AS} {m1 : DM} (B : Bx2 E own tb nL ret) (i : Nat) (h : tb[i]? = some (pc, .new n, 3, nx)) (ci : Nat) (f : Nat → Value) (hr : Rs2 E r0 mo0 fA0 fd0) (hgd : A.1 + 1 ≤ fA0.1 ∧ A.2.1 + N ≤ fA0.2.1) (hq : q = A.1 + 1) (hA : A1 = nw A ci 0 N) (hM : m1 = nwm A dm f) (hci : ci ≠ 0) (hx : zcls[ci]? = some (Cn, T, N)) (hw : Cond.classLink own n Cn ∈ TW ∧ Cond.instantiable Cn N ∈ TW ∧ Cond.initialized Cn ∈ TW) (hfs : ∀ j, j < N → defaultValue (tyA ci j) = f j) (hfc : ∀ (K : KF) (j : Nat), j < N → cvv (kc K) (f j) = f j) (k : G2 E nL nx lv (.ref q :: st) mm A1 m1) : G2 E nL pc lv st mm A dm := by
  subst hq hA hM
  obtain ⟨p, l, e, R, s, m, args, below, meth, c, Q, K, A0, res, mo, fA, fd⟩ := E
  obtain ⟨hd, hn⟩ := Bx2.dec B h
  subst hn
  intro H locs ls hg hP hS hl
  obtain ⟨-, -, rfl, -⟩ := hr
  refine w_hz B hg hP fun hz => ?_
  have hrm := B.rm
  have hA0 := hg.2.1
  have hA1 := hg.2.2
  obtain ⟨hws, hN, hty, hnm⟩ := zcls_ok hx
  have hKn := B.kk.1 ci _ hx
  have hN' : N = nfl ci := hN
  refine W.newcK B.1 rfl B.hown (B.tw _ hw.1) (B.tw _ hw.2.1) (B.tw _ hw.2.2) rfl hd (by omega) (by omega) hKn.2.1 rfl fun H1 kC hkC e1 z1 o1 => ?_
  have hkp : ∀ (k : Nat) (x : Nat × va_E), (w2 K mm A dm)[k]? = some x → H1[x.1]? = H[x.1]? := fun k x hx => o1 x.1 ((hP k x hx).lt)
  have hnew : va_at K.2.2.1 zcls (K.1 + A.1, cld K (ci, 0) f) H1 := by
    unfold cld
    rw [if_pos (zcls_lt hx)]
    refine ⟨_, hx, ?_⟩
    show t_OB (K.1 + A.1) _ _ _ _ (vp_V _)
    rw [← hz]
    refine (u_born (tyA ci) B.tw hws hKn hkC e1 hty).to (fun j hj => ?_)
    have hj' : j < N := hj
    show defaultValue (tyA ci j) = ((List.range (nfl ci)).map (fun k => cvv (kc K) (f k))).getD j .null
    rw [List.getD_eq_getElem?_getD, List.getElem?_map, List.getElem?_range (by rw [← hN']; exact hj'), Option.map_some, Option.getD_some, hfc K j hj']
    exact hfs j hj'
  have hP2 : va_P K.2.2.1 zcls (w2 K mm (nw A ci 0 N) (nwm A dm f)) H1 := by
    rw [w2_nw (hci)]
    refine (hP.kept hkp).app (fun k9 x hx2 => ?_)
    have hz0 : k9 < 1 := (List.getElem?_eq_some_iff.mp hx2).1
    rw [show k9 = 0 by omega] at hx2
    cases hx2
    exact hnew
  have hgo := k H1 locs ls ⟨okA_nw hg.1 (hci), ⟨by show _ ≤ A.1 + 1; omega, by show _ ≤ A.2.1 + N; omega⟩, by show A.1 + 1 ≤ _; omega, by show A.2.1 + N ≤ _; omega⟩ hP2 ⟨Nat.le_trans hS.1 (by omega), fun x h1 h2 => (o1 x (Nat.lt_of_lt_of_le h1 hS.1)).trans (hS.2.1 x h1 h2), hS.2.2⟩ hl
  have e8 : (nw A ci 0 N).1 - A0.1 = A.1 - A0.1 + 1 := by show A.1 + 1 - A0.1 = _; omega
  have e9 : (nw A ci 0 N).2.1 - A0.2.1 = A.2.1 - A0.2.1 + N := by show A.2.1 + N - A0.2.1 = _; omega
  rw [e8, e9] at hgo
  have e10 : cvv (kc K) (.ref (A.1 + 1)) = .ref H.size := by show Value.ref (adr K (A.1 + 1)) = _; rw [adr_pos (by omega), hz]; rfl
  rw [List.map_cons, e10] at hgo
  exact hgo
theorem w_newI {E : Ev2} {own : String} {tb : Tb} {nL : Nat} {ret : Option FieldType} {pc nx : Nat} {lv : Lv} {st : List Value} {mm : Mem} {A : AS} {dm : DM} {v : Int32} {r0 : Option Value} {mo0 : Mem} {fA0 : AS} {fd0 : DM} {q : Nat} {A1 : AS} {m1 : DM} (B : Bx2 E own tb nL ret) (i : Nat) (h : tb[i]? = some (pc, .newarray .int, 2, nx)) (hr : Rs2 E r0 mo0 fA0 fd0) (hgd : A.1 + 1 ≤ fA0.1 ∧ A.2.1 + v.toNatClampNeg ≤ fA0.2.1) (hq : q = A.1 + 1) (hA : A1 = nw A 20 v.toNatClampNeg v.toNatClampNeg) (hM : m1 = nwm A dm (fun _ => .int 0)) (hw : Cond.arrayClass .int ∈ TW) (hv : ¬ v < 0 ∧ v.toNatClampNeg ≤ 10000) (k : G2 E nL nx lv (.ref q :: st) mm A1 m1) : G2 E nL pc lv (.int v :: st) mm A dm := by
  subst hq hA hM
  obtain ⟨p, l, e, R, s, m, args, below, meth, c, Q, K, A0, res, mo, fA, fd⟩ := E
  obtain ⟨hd, hn⟩ := Bx2.dec B h
  subst hn
  intro H locs ls hg hP hS hl
  obtain ⟨-, -, rfl, -⟩ := hr
  refine w_hz B hg hP fun hz => ?_
  have hrm := B.rm
  have hA0 := hg.2.1
  have hA1 := hg.2.2
  refine va_newaK B.1 rfl (atype := .int) (B.tw _ hw) rfl hd rfl hv.1 rfl (Nat.le_trans (Nat.mul_le_mul_right _ hv.2) (by decide)) (by omega) (by omega) rfl fun H1 cA e1 z1 o1 hAr hNm => ?_
  have hcA : cA = K.2.2.2.1 := by
    have h1 := (B.kk.2 0 _ rfl).2
    have h2 : s.vm.findClass _ = some K.2.2.2.1 := h1
    exact Option.some.inj (hNm.symm.trans h2)
  subst hcA
  have hkp : ∀ (k : Nat) (x : Nat × va_E), (w2 K mm A dm)[k]? = some x → H1[x.1]? = H[x.1]? := fun k x hx => o1 x.1 ((hP k x hx).lt)
  have hnew : va_at K.2.2.1 zcls (K.1 + A.1, cld K (20, v.toNatClampNeg) (fun _ => .int 0)) H1 := by
    show H1[K.1 + A.1]? = some (vp_cell _ _)
    rw [← hz]
    exact e1
  have hP2 : va_P K.2.2.1 zcls (w2 K mm (nw A 20 v.toNatClampNeg v.toNatClampNeg) (nwm A dm (fun _ => .int 0))) H1 := by
    rw [w2_nw (by decide)]
    refine (hP.kept hkp).app (fun k9 x hx2 => ?_)
    have hz0 : k9 < 1 := (List.getElem?_eq_some_iff.mp hx2).1
    rw [show k9 = 0 by omega] at hx2
    cases hx2
    exact hnew
  have hgo := k H1 locs ls ⟨okA_nw hg.1 (by decide), ⟨by show _ ≤ A.1 + 1; omega, by show _ ≤ A.2.1 + v.toNatClampNeg; omega⟩, by show A.1 + 1 ≤ _; omega, by show A.2.1 + v.toNatClampNeg ≤ _; omega⟩ hP2 ⟨Nat.le_trans hS.1 (by omega), fun x h1 h2 => (o1 x (Nat.lt_of_lt_of_le h1 hS.1)).trans (hS.2.1 x h1 h2), hS.2.2⟩ hl
  have e8 : (nw A 20 v.toNatClampNeg v.toNatClampNeg).1 - A0.1 = A.1 - A0.1 + 1 := by show A.1 + 1 - A0.1 = _; omega
  have e9 : (nw A 20 v.toNatClampNeg v.toNatClampNeg).2.1 - A0.2.1 = A.2.1 - A0.2.1 + v.toNatClampNeg := by show A.2.1 + v.toNatClampNeg - A0.2.1 = _; omega
  rw [e8, e9] at hgo
  have e10 : cvv (kc K) (.ref (A.1 + 1)) = .ref H.size := by show Value.ref (adr K (A.1 + 1)) = _; rw [adr_pos (by omega), hz]; rfl
  rw [List.map_cons, e10] at hgo
  exact hgo
theorem w_newR {E : Ev2} {own : String} {tb : Tb} {nL : Nat} {ret : Option FieldType} {pc nx : Nat} {lv : Lv} {st : List Value} {mm : Mem} {A : AS} {dm : DM} {n : Nat} {v : Int32} {r0 : Option Value} {mo0 : Mem} {fA0 : AS} {fd0 : DM} {q : Nat} {A1 : AS} {m1 : DM} (B : Bx2 E own tb nL ret) (i : Nat) (h : tb[i]? = some (pc, .anewarray n, 3, nx)) (hr : Rs2 E r0 mo0 fA0 fd0) (hgd : A.1 + 1 ≤ fA0.1 ∧ A.2.1 + v.toNatClampNeg ≤ fA0.2.1) (hq : q = A.1 + 1) (hA : A1 = nw A 21 v.toNatClampNeg v.toNatClampNeg) (hM : m1 = nwm A dm (fun _ => .null)) (hw : Cond.classLink own n "java/lang/Object" ∈ TW) (hv : ¬ v < 0 ∧ v.toNatClampNeg ≤ 10000) (k : G2 E nL nx lv (.ref q :: st) mm A1 m1) : G2 E nL pc lv (.int v :: st) mm A dm := by
  subst hq hA hM
  obtain ⟨p, l, e, R, s, m, args, below, meth, c, Q, K, A0, res, mo, fA, fd⟩ := E
  obtain ⟨hd, hn⟩ := Bx2.dec B h
  subst hn
  intro H locs ls hg hP hS hl
  obtain ⟨-, -, rfl, -⟩ := hr
  refine w_hz B hg hP fun hz => ?_
  have hrm := B.rm
  have hA0 := hg.2.1
  have hA1 := hg.2.2
  refine W.anew B.1 rfl B.hown (B.tw _ hw) (va_AO.use B.sx.2.2.2.1) rfl hd rfl hv.1 (Nat.le_trans (Nat.mul_le_mul_right _ hv.2) (by decide)) (by omega) (by omega) fun cA kA comp f1 f2 f3 f4 => ?_
  have hcA : cA = K.2.2.2.2.1 := by
    obtain ⟨kA', comp', g1, g2, g3, g4⟩ := (B.kk.2 1 _ rfl).2
    have h2 : s.vm.findClass ("[" ++ (FieldType.object "java/lang/Object").toString) = some K.2.2.2.2.1 := g4
    exact Option.some.inj (f1.symm.trans h2)
  subst hcA
  generalize hH1 : H.push ({ cls := K.2.2.2.2.1, slots := Array.replicate v.toNatClampNeg .null, vm := .none } : Cell) = H1
  have z1 : H1.size = H.size + 1 := by rw [← hH1, Array.size_push]
  have e1 : H1[H.size]? = some (arrV K.2.2.2.2.1 v.toNatClampNeg (fun _ => .null)) := by rw [← hH1, Array.getElem?_push_size, ← arrV_new]
  have o1 : ∀ q : Nat, q < H.size → H1[q]? = H[q]? := fun q hq => by rw [← hH1, Array.getElem?_push, if_neg (Nat.ne_of_lt hq)]
  have hkp : ∀ (k : Nat) (x : Nat × va_E), (w2 K mm A dm)[k]? = some x → H1[x.1]? = H[x.1]? := fun k x hx => o1 x.1 ((hP k x hx).lt)
  have hnew : va_at K.2.2.1 zcls (K.1 + A.1, cld K (21, v.toNatClampNeg) (fun _ => .null)) H1 := by
    show H1[K.1 + A.1]? = some (vp_cell _ _)
    rw [← hz]
    exact e1
  have hP2 : va_P K.2.2.1 zcls (w2 K mm (nw A 21 v.toNatClampNeg v.toNatClampNeg) (nwm A dm (fun _ => .null))) H1 := by
    rw [w2_nw (by decide)]
    refine (hP.kept hkp).app (fun k9 x hx2 => ?_)
    have hz0 : k9 < 1 := (List.getElem?_eq_some_iff.mp hx2).1
    rw [show k9 = 0 by omega] at hx2
    cases hx2
    exact hnew
  have hgo := k H1 locs ls ⟨okA_nw hg.1 (by decide), ⟨by show _ ≤ A.1 + 1; omega, by show _ ≤ A.2.1 + v.toNatClampNeg; omega⟩, by show A.1 + 1 ≤ _; omega, by show A.2.1 + v.toNatClampNeg ≤ _; omega⟩ hP2 ⟨Nat.le_trans hS.1 (by omega), fun x h1 h2 => (o1 x (Nat.lt_of_lt_of_le h1 hS.1)).trans (hS.2.1 x h1 h2), hS.2.2⟩ hl
  have e8 : (nw A 21 v.toNatClampNeg v.toNatClampNeg).1 - A0.1 = A.1 - A0.1 + 1 := by show A.1 + 1 - A0.1 = _; omega
  have e9 : (nw A 21 v.toNatClampNeg v.toNatClampNeg).2.1 - A0.2.1 = A.2.1 - A0.2.1 + v.toNatClampNeg := by show A.2.1 + v.toNatClampNeg - A0.2.1 = _; omega
  rw [e8, e9] at hgo
  have e10 : cvv (kc K) (.ref (A.1 + 1)) = .ref H.size := by show Value.ref (adr K (A.1 + 1)) = _; rw [adr_pos (by omega), hz]; rfl
  rw [List.map_cons, e10] at hgo
  exact hgo
theorem w_grid {E : Ev2} {own : String} {tb : Tb} {nL : Nat} {ret : Option FieldType} {pc nx : Nat} {lv : Lv} {st : List Value} {mm : Mem} {A : AS} {dm : DM} {n : Nat} {v : Int32} {r0 : Option Value} {mo0 : Mem} {fA0 : AS} {fd0 : DM} {q : Nat} {A1 : AS} {m1 : DM} (B : Bx2 E own tb nL ret) (i : Nat) (h : tb[i]? = some (pc, .multianewarray n 2, 4, nx)) (hr : Rs2 E r0 mo0 fA0 fd0) (hgd : A.1 + (1 + v.toNatClampNeg) ≤ fA0.1 ∧ A.2.1 + (v.toNatClampNeg + v.toNatClampNeg * 4) ≤ fA0.2.1) (hq : q = A.1 + 1) (hA : A1 = (grd A dm v.toNatClampNeg v.toNatClampNeg).1) (hM : m1 = (grd A dm v.toNatClampNeg v.toNatClampNeg).2) (hw : Cond.classLink own n "[[I" ∈ TW) (hwa : Cond.arrayClass .int ∈ TW) (hv : ¬ v < 0 ∧ v.toNatClampNeg ≤ 10000) (k : G2 E nL nx lv (.ref q :: st) mm A1 m1) : G2 E nL pc lv (.int 4 :: .int v :: st) mm A dm := by
  subst hq hA hM
  obtain ⟨p, l, e, R, s, m, args, below, meth, c, Q, K, A0, res, mo, fA, fd⟩ := E
  obtain ⟨hd, hn⟩ := Bx2.dec B h
  subst hn
  intro H locs ls hg hP hS hl
  obtain ⟨-, -, rfl, -⟩ := hr
  refine w_hz B hg hP fun hz => ?_
  have hrm := B.rm
  have hA0 := hg.2.1
  have hA1 := hg.2.2
  intro T hT Xs
  have hname : ("[" ++ (FieldType.array FieldType.int).toString) = "[[I" := by decide +kernel
  have k4 : (4 : Int32).toNatClampNeg = 4 := by decide
  obtain ⟨vm₁, cA, comp, -, fA9, fC, hO, -, X', step⟩ := Stand.multianewarray2F Xs (ty := .int) B.1 B.hown (by rw [hname]; exact B.tw _ hw) (oaw.use B.sx.2.2.2.2.1) (B.tw _ hwa) (g := F0 m pc ls (.int 4 :: .int v :: st.map (cvv (kc K)))) rfl hd rfl hv.1 (by decide) (Nat.le_trans (Nat.mul_le_mul_right _ hv.2) (by decide)) (by decide) (by decide) rfl rfl (by omega) (by rw [k4]; omega)
  have hcA : cA = K.2.2.2.2.2 := by
    have h2 : s.vm.findClass ("[" ++ (FieldType.array FieldType.int).toString) = some K.2.2.2.2.2 := (B.kk.2 2 _ rfl).2
    exact Option.some.inj (fA9.symm.trans h2)
  have hcC : comp = K.2.2.2.1 := by
    have h2 : s.vm.findClass ("[" ++ FieldType.int.toString) = some K.2.2.2.1 := (B.kk.2 0 _ rfl).2
    exact Option.some.inj (fC.symm.trans h2)
  subst hcA hcC
  rw [k4] at X' step
  generalize hF : Jvm.Free.Multi.fill (T.setVm vm₁) K.2.2.2.2.2 K.2.2.2.1 v.toNatClampNeg 4 (defaultValue FieldType.int) v.toNatClampNeg = F at X' step
  have hTh : (T.setVm vm₁).heap = H := hT
  obtain ⟨f1, f2, -, -⟩ := Jvm.Free.Multi.fill_facts (T.setVm vm₁) K.2.2.2.2.2 K.2.2.2.1 v.toNatClampNeg 4 (defaultValue FieldType.int) v.toNatClampNeg
  rw [hF, hTh] at f1 f2
  have hold : ∀ x : Nat, x < H.size → F.heap[x]? = H[x]? := fun x hx => by
    have := Jvm.Free.Multi.fill_old (T.setVm vm₁) K.2.2.2.2.2 K.2.2.2.1 v.toNatClampNeg 4 (defaultValue FieldType.int) (a := x) (by rw [hTh]; exact hx) v.toNatClampNeg
    rw [hF, hTh] at this
    exact this
  have hrow : ∀ j : Nat, j < v.toNatClampNeg → F.heap[H.size + 1 + j]? = some (vp_cell K.2.2.2.1 (4, .inl (fun _ => 0))) := fun j hj => by
    have := Jvm.Free.Multi.fill_inner (T.setVm vm₁) K.2.2.2.2.2 K.2.2.2.1 v.toNatClampNeg 4 (defaultValue FieldType.int) v.toNatClampNeg j hj
    rw [hF, hTh] at this
    rw [this, vp_cell_i, ← arrV_new]
    rfl
  have hout : F.heap[H.size]? = some (vp_cell K.2.2.2.2.2 (v.toNatClampNeg, .inr (.inr (.inr (.inr (fun i => if i < v.toNatClampNeg then some (H.size + 1 + i) else none)))))) := by
    rw [f2, vp_cell_q]
    exact congrArg some (vr_outer K.2.2.2.2.2 v.toNatClampNeg H.size v.toNatClampNeg)
  have hPk : va_P K.2.2.1 zcls (w2 K mm A dm) F.heap := hP.kept (fun k9 x hx => hold x.1 ((hP k9 x hx).lt))
  have hPg := grd_P (K := K) (mm := mm) (A := A) (dm := dm) (D := K.2.2.1) (H := F.heap) v.toNatClampNeg (by rw [← hz]; exact hout) (fun j hj => by rw [← hz]; exact hrow j hj) v.toNatClampNeg (Nat.le_refl _) hPk
  obtain ⟨hs1, hs2, hs3⟩ := grd_sz A dm v.toNatClampNeg v.toNatClampNeg
  have hgo := k F.heap locs ls ⟨grd_ok hg.1 _ _, ⟨by omega, by omega⟩, by omega, by omega⟩ hPg ⟨by rw [f1]; have := hS.1; omega, fun x h1 h2 => (hold x (Nat.lt_of_lt_of_le h1 hS.1)).trans (hS.2.1 x h1 h2), hS.2.2⟩ hl
  have e8 : (grd A dm v.toNatClampNeg v.toNatClampNeg).1.1 - A0.1 = A.1 - A0.1 + 1 + v.toNatClampNeg := by omega
  have e9 : (grd A dm v.toNatClampNeg v.toNatClampNeg).1.2.1 - A0.2.1 = A.2.1 - A0.2.1 + v.toNatClampNeg + v.toNatClampNeg * 4 := by omega
  rw [e8, e9] at hgo
  have e10 : cvv (kc K) (.ref (A.1 + 1)) = .ref T.heap.size := by show Value.ref (adr K (A.1 + 1)) = _; rw [adr_pos (by omega), hT, hz]; rfl
  rw [List.map_cons, e10] at hgo
  obtain ⟨t, a1, b1⟩ := hgo F rfl X'
  exact ⟨t, step t a1, b1⟩
theorem w_iret {E : Ev2} {own : String} {tb : Tb} {nL : Nat} {pc nx : Nat} {lv : Lv} {mm : Mem} {A : AS} {dm : DM} {ty : FieldType} {v : Int32} (B : Bx2 E own tb nL (some ty)) (i : Nat) (h : tb[i]? = some (pc, .ireturn, 1, nx)) (hn : narrow ty (.int v) = .int v) (hQ : Rt2 E) (hr : Rs2 E (some (.int v)) mm A dm) : G2 E nL pc lv [.int v] mm A dm := by
  obtain ⟨p, l, e, R, s, m, args, below, meth, c, Q, K, A0, res, mo, fA, fd⟩ := E
  obtain ⟨hd, -⟩ := Bx2.dec B h
  obtain ⟨rfl, rfl, rfl, rfl⟩ := hr
  have hQ : Q = MQ below (Q2 K A0 _ _ _ _) args s _ _ (Ax K) := hQ
  subst hQ
  intro H locs ls hg hP hS hl
  refine w_hz B hg hP fun hz => ?_
  exact W.zret (v := v) B.1 rfl B.rt hn (fun t ht hW => ⟨rfl, Wd2_end B hg.1 hz hP hS ht hW, hS.F ht⟩) hS.2.2 hd B.lk
theorem w_lret {E : Ev2} {own : String} {tb : Tb} {nL : Nat} {pc nx : Nat} {lv : Lv} {mm : Mem} {A : AS} {dm : DM} {v : Int64} (B : Bx2 E own tb nL (some .long)) (i : Nat) (h : tb[i]? = some (pc, .lreturn, 1, nx)) (hQ : Rt2 E) (hr : Rs2 E (some (.long v)) mm A dm) : G2 E nL pc lv [.long v] mm A dm := by
  obtain ⟨p, l, e, R, s, m, args, below, meth, c, Q, K, A0, res, mo, fA, fd⟩ := E
  obtain ⟨hd, -⟩ := Bx2.dec B h
  obtain ⟨rfl, rfl, rfl, rfl⟩ := hr
  have hQ : Q = MQ below (Q2 K A0 _ _ _ _) args s _ _ (Ax K) := hQ
  subst hQ
  intro H locs ls hg hP hS hl
  refine w_hz B hg hP fun hz => ?_
  exact W.lret (v := v) B.1 rfl B.rt (fun t ht hW => ⟨rfl, Wd2_end B hg.1 hz hP hS ht hW, hS.F ht⟩) hS.2.2 hd B.lk
theorem w_aret {E : Ev2} {own : String} {tb : Tb} {nL : Nat} {pc nx : Nat} {lv : Lv} {mm : Mem} {A : AS} {dm : DM} {rt : FieldType} {v : Nat} (B : Bx2 E own tb nL (some rt)) (i : Nat) (h : tb[i]? = some (pc, .areturn, 1, nx)) (hrt : (∃ n, rt = .object n) ∨ ∃ t, rt = .array t) (hQ : Rt2 E) (hr : Rs2 E (some (.ref v)) mm A dm) : G2 E nL pc lv [.ref v] mm A dm := by
  obtain ⟨p, l, e, R, s, m, args, below, meth, c, Q, K, A0, res, mo, fA, fd⟩ := E
  obtain ⟨hd, -⟩ := Bx2.dec B h
  obtain ⟨rfl, rfl, rfl, rfl⟩ := hr
  have hQ : Q = MQ below (Q2 K A0 _ _ _ _) args s _ _ (Ax K) := hQ
  subst hQ
  intro H locs ls hg hP hS hl
  refine w_hz B hg hP fun hz => ?_
  exact W.aret (v := .ref (adr K v)) B.1 rfl B.rt hrt (Or.inr ⟨_, rfl⟩) (fun t ht hW => ⟨rfl, Wd2_end B hg.1 hz hP hS ht hW, hS.F ht⟩) hS.2.2 hd B.lk
theorem w_vret {E : Ev2} {own : String} {tb : Tb} {nL : Nat} {pc nx : Nat} {lv : Lv} {mm : Mem} {A : AS} {dm : DM} (B : Bx2 E own tb nL none) (i : Nat) (h : tb[i]? = some (pc, .return_, 1, nx)) (hQ : Rt2 E) (hr : Rs2 E none mm A dm) : G2 E nL pc lv [] mm A dm := by
  obtain ⟨p, l, e, R, s, m, args, below, meth, c, Q, K, A0, res, mo, fA, fd⟩ := E
  obtain ⟨hd, -⟩ := Bx2.dec B h
  obtain ⟨rfl, rfl, rfl, rfl⟩ := hr
  have hQ : Q = MQ below (Q2 K A0 _ _ _ _) args s _ _ (Ax K) := hQ
  subst hQ
  intro H locs ls hg hP hS hl
  refine w_hz B hg hP fun hz => ?_
  exact W.vret B.1 rfl B.rt (fun t ht hW => ⟨rfl, Wd2_end B hg.1 hz hP hS ht hW, hS.F ht⟩) hS.2.2 hd B.lk
theorem w_top {E : Ev2} {nL pc : Nat} {lv : Lv} {st : List Value} {mm : Mem} {A : AS} {dm : DM} {x y : Int32} (e : x = y) (k : G2 E nL pc lv (.int x :: st) mm A dm) : G2 E nL pc lv (.int y :: st) mm A dm := e ▸ k
theorem w_topl {E : Ev2} {nL pc : Nat} {lv : Lv} {st : List Value} {mm : Mem} {A : AS} {dm : DM} {x y : Int64} (e : x = y) (k : G2 E nL pc lv (.long x :: st) mm A dm) : G2 E nL pc lv (.long y :: st) mm A dm := e ▸ k
theorem w_dmm {E : Ev2} {nL pc : Nat} {lv : Lv} {st : List Value} {mm : Mem} {A : AS} {dm dm' : DM} (e : dm = dm') (k : G2 E nL pc lv st mm A dm) : G2 E nL pc lv st mm A dm' := e ▸ k
theorem w_sub {E : Ev2} {nL pc : Nat} {lv : Lv} {st : List Value} {mm : Mem} {A : AS} {dm : DM} (lv' : Lv) (js : List Nat) (hj : js.filterMap (fun j => lv[j]?) = lv') (k : G2 E nL pc lv' st mm A dm) : G2 E nL pc lv st mm A dm := by
  obtain ⟨p, l, e, R, s, m, args, below, meth, c, Q, K, A0, res, mo, fA, fd⟩ := E
  intro H locs ls hg hP hS hl
  exact k H locs ls hg hP hS (lv_sub hl js (lvs hj))
theorem w_callS {E : Ev2} {own : String} {tb : Tb} {nL : Nat} {ret : Option FieldType} {pc nx : Nat} {lv : Lv} {st : List Value} {mm : Mem} {A : AS} {dm : DM} {l : Launch} {K : KF} {fr0 lo0 : Nat} {y : MethodName} {bytes : ByteArray} {maxL n fr lo idx : Nat} {rt : Option FieldType} {r : Option Value} {mm2 : Mem} {A2 : AS} {dm2 : DM} (as rest st2 : List Value) (X : Ec2 E l K fr0 lo0) (B : Bx2 E own tb nL ret) (i : Nat) (h : tb[i]? = some (pc, .invokestatic idx, 3, nx)) (hM : MI y bytes maxL rt n) (hw : Cond.methodLink own idx y ∈ TW ∧ Cond.static y ∈ TW) (hc : Ct2 l K y bytes maxL rt fr lo as mm A dm r mm2 A2 dm2) (hm : (A2.1 = A.1 ∧ A2.2.1 = A.2.1) ∨ ∃ r9 m9 f9 d9, Rs2 E r9 m9 f9 d9 ∧ ((A.1 ≤ A2.1 ∧ A.2.1 ≤ A2.2.1) ∧ A2.1 ≤ f9.1 ∧ A2.2.1 ≤ f9.2.1)) (hR : fr + 1 ≤ fr0 ∧ 8 + (maxL + 11) + lo ≤ lo0) (hn : as.length = n) (hst : st = as.reverse ++ rest) (hW : (rest.map fun v => v.category).sum ≤ 8) (h2 : st2 = r.toList ++ rest) (k : G2 E nL nx lv st2 mm2 A2 dm2) : G2 E nL pc lv st mm A dm := by
  obtain ⟨p, l', e, R, s, m, args, below, meth, c, Q, K', A0, res, mo, fA, fd⟩ := E
  obtain ⟨rfl, rfl, rfl, rfl⟩ := X
  obtain ⟨hd, hnx⟩ := Bx2.dec B h
  obtain ⟨rfl, rfl⟩ := hnx
  subst hst
  subst h2
  intro H locs ls hg hP hS hl
  have hgd : (A.1 ≤ A2.1 ∧ A.2.1 ≤ A2.2.1) ∧ A2.1 ≤ fA.1 ∧ A2.2.1 ≤ fA.2.1 := by
    rcases hm with ⟨h7, h8⟩ | ⟨r9, m9, f9, d9, h7, h8⟩
    · rw [h7, h8]
      exact ⟨⟨Nat.le_refl _, Nat.le_refl _⟩, hg.2.2⟩
    · obtain ⟨-, -, rfl, -⟩ := h7
      exact h8
  have hc := hc hgd.1.1 hgd.1.2
  have hrl : (rest.map (cvv (kc K'))).map (fun v => v.category) = rest.map (fun v => v.category) := by rw [List.map_map]; congr 1; funext v; exact cvv_cat (kc K') v
  have hrmm : A.1 - A0.1 + (A2.1 - A.1) ≤ R.cells ∧ A.2.1 - A0.2.1 + (A2.2.1 - A.2.1) ≤ R.slots := by
    have h1 := B.rm
    have h3 := hg.2.1
    omega
  have hk : ∀ (H1 : Heap) (locs1 : List Loc), inv2 A0 A2 fA → va_P K'.2.2.1 zcls (w2 K' mm2 A2 dm2) H1 → va_S (Ax K') s.heap H1 locs1 → W p l' e R s m args below meth c H1 locs1 (A2.1 - A0.1) (A2.2.1 - A0.2.1) Q (F0 m (pc + 3) ls ((r.map (cvv (kc K'))).toList ++ rest.map (cvv (kc K')))) := by
    intro H1 locs1 hg1 hP1 hS1
    have := k H1 locs1 ls hg1 hP1 hS1 hl
    rw [List.map_append] at this
    cases r <;> exact this
  refine w_hz B hg hP fun hz => ?_
  exact z2call B hg hS hgd (va_runS (As := as.map (cvv (kc K'))) (rest := rest.map (cvv (kc K'))) ⟨B.1, rfl, B.ml, B.hown, B.tw⟩ hc ⟨callB_of n B.tw (tw_good hM.1) rfl rfl rfl (B.tw _ hM.2.2.2) (B.tw _ hw.1) hM.2.2.1 hR, B.tw _ hw.2⟩ ⟨Wd2_blind, Wd2_call B hg.1 hz hP hS _⟩ rfl (by rw [List.length_map]; exact hn) hl.1 (by rw [List.map_append, List.map_reverse]) (lv_room (by rw [hrl]; exact hW)) hd hrmm) hk
theorem w_callV {E : Ev2} {own : String} {tb : Tb} {nL : Nat} {ret : Option FieldType} {pc nx : Nat} {lv : Lv} {st : List Value} {mm : Mem} {A : AS} {dm : DM} {l : Launch} {K : KF} {fr0 lo0 : Nat} {y : MethodName} {bytes : ByteArray} {maxL n fr lo idx : Nat} {rt : Option FieldType} {r : Option Value} {mm2 : Mem} {A2 : AS} {dm2 : DM} {x : vw_C} (q : Nat) (as rest st2 : List Value) (X : Ec2 E l K fr0 lo0) (B : Bx2 E own tb nL ret) (i : Nat) (h : tb[i]? = some (pc, .invokevirtual idx, 3, nx)) (hM : MI y bytes maxL rt n) (ci : Nat) (hci : ci ≠ 0) (hq : okd A q ci) (hx : zcls[ci]? = some x) (hxc : x.1 = y.cls) (hw : Cond.methodLink own idx y ∈ TW ∧ Cond.instanceMethod y ∈ TW ∧ Cond.selects y.cls y y ∈ TW) (hc : Ct2 l K y bytes maxL rt fr lo (.ref q :: as) mm A dm r mm2 A2 dm2) (hm : (A2.1 = A.1 ∧ A2.2.1 = A.2.1) ∨ ∃ r9 m9 f9 d9, Rs2 E r9 m9 f9 d9 ∧ ((A.1 ≤ A2.1 ∧ A.2.1 ≤ A2.2.1) ∧ A2.1 ≤ f9.1 ∧ A2.2.1 ≤ f9.2.1)) (hR : fr + 1 ≤ fr0 ∧ 8 + (maxL + 11) + lo ≤ lo0) (hn : as.length = n) (hst : st = as.reverse ++ .ref q :: rest) (hW : (rest.map fun v => v.category).sum ≤ 8) (h2 : st2 = r.toList ++ rest) (k : G2 E nL nx lv st2 mm2 A2 dm2) : G2 E nL pc lv st mm A dm := by
  obtain ⟨p, l', e, R, s, m, args, below, meth, c, Q, K', A0, res, mo, fA, fd⟩ := E
  obtain ⟨rfl, rfl, rfl, rfl⟩ := X
  obtain ⟨hd, hnx⟩ := Bx2.dec B h
  obtain ⟨rfl, rfl⟩ := hnx
  subst hst
  subst h2
  intro H locs ls hg hP hS hl
  have hgd : (A.1 ≤ A2.1 ∧ A.2.1 ≤ A2.2.1) ∧ A2.1 ≤ fA.1 ∧ A2.2.1 ≤ fA.2.1 := by
    rcases hm with ⟨h7, h8⟩ | ⟨r9, m9, f9, d9, h7, h8⟩
    · rw [h7, h8]
      exact ⟨⟨Nat.le_refl _, Nat.le_refl _⟩, hg.2.2⟩
    · obtain ⟨-, -, rfl, -⟩ := h7
      exact h8
  have hc := hc hgd.1.1 hgd.1.2
  have hrl : (rest.map (cvv (kc K'))).map (fun v => v.category) = rest.map (fun v => v.category) := by rw [List.map_map]; congr 1; funext v; exact cvv_cat (kc K') v
  have hrmm : A.1 - A0.1 + (A2.1 - A.1) ≤ R.cells ∧ A.2.1 - A0.2.1 + (A2.2.1 - A.2.1) ≤ R.slots := by
    have h1 := B.rm
    have h3 := hg.2.1
    omega
  have hk : ∀ (H1 : Heap) (locs1 : List Loc), inv2 A0 A2 fA → va_P K'.2.2.1 zcls (w2 K' mm2 A2 dm2) H1 → va_S (Ax K') s.heap H1 locs1 → W p l' e R s m args below meth c H1 locs1 (A2.1 - A0.1) (A2.2.1 - A0.2.1) Q (F0 m (pc + 3) ls ((r.map (cvv (kc K'))).toList ++ rest.map (cvv (kc K')))) := by
    intro H1 locs1 hg1 hP1 hS1
    have := k H1 locs1 ls hg1 hP1 hS1 hl
    rw [List.map_append] at this
    cases r <;> exact this
  have hrec : ∃ cell : Cell, H[adr K' q]? = some cell ∧ cell.vm.isStatics = false ∧ s.vm.findClass y.cls = some cell.cls := by
    obtain ⟨j, hj1, hj2⟩ := ow_at A (okd_liv hq hci)
    have hg1 := hj1 K' mm dm
    rw [cld_obj (zcls_lt hx) hq] at hg1
    rw [← hxc]
    exact va_recv B.kk hP hx hg1
  refine w_hz B hg hP fun hz => ?_
  exact z2call B hg hS hgd (va_runV (C := y.cls) (b := adr K' q) (As := as.map (cvv (kc K'))) (rest := rest.map (cvv (kc K'))) ⟨B.1, rfl, B.ml, B.hown, B.tw⟩ hc ⟨callB_of n B.tw (tw_good hM.1) rfl rfl rfl (B.tw _ hM.2.2.2) (B.tw _ hw.1) hM.2.2.1 hR, B.tw _ hw.2.1, B.tw _ hw.2.2⟩ ⟨Wd2_blind, hrec, Wd2_call B hg.1 hz hP hS _⟩ rfl (by rw [List.length_map]; exact hn) hl.1 (by rw [List.map_append, List.map_reverse]; rfl) (lv_room (by rw [hrl]; exact hW)) hd hrmm) hk
theorem w_callI {E : Ev2} {own : String} {tb : Tb} {nL : Nat} {ret : Option FieldType} {pc nx : Nat} {lv : Lv} {st : List Value} {mm : Mem} {A : AS} {dm : DM} {l : Launch} {K : KF} {fr0 lo0 : Nat} {y : MethodName} {bytes : ByteArray} {maxL n fr lo idx : Nat} {r : Option Value} {mm2 : Mem} {A2 : AS} {dm2 : DM} (q : Nat) (as rest st2 : List Value) (X : Ec2 E l K fr0 lo0) (B : Bx2 E own tb nL ret) (i : Nat) (h : tb[i]? = some (pc, .invokespecial idx, 3, nx)) (hM : MI y bytes maxL none n) (hw : Cond.methodLink own idx y ∈ TW ∧ Cond.instanceMethod y ∈ TW ∧ y.name = "<init>") (hc : Ct2 l K y bytes maxL none fr lo (.ref q :: as) mm A dm r mm2 A2 dm2) (hm : (A2.1 = A.1 ∧ A2.2.1 = A.2.1) ∨ ∃ r9 m9 f9 d9, Rs2 E r9 m9 f9 d9 ∧ ((A.1 ≤ A2.1 ∧ A.2.1 ≤ A2.2.1) ∧ A2.1 ≤ f9.1 ∧ A2.2.1 ≤ f9.2.1)) (hR : fr + 1 ≤ fr0 ∧ 8 + (maxL + 11) + lo ≤ lo0) (hn : as.length = n) (hst : st = as.reverse ++ .ref q :: rest) (hW : (rest.map fun v => v.category).sum ≤ 8) (h2 : st2 = r.toList ++ rest) (k : G2 E nL nx lv st2 mm2 A2 dm2) : G2 E nL pc lv st mm A dm := by
  obtain ⟨p, l', e, R, s, m, args, below, meth, c, Q, K', A0, res, mo, fA, fd⟩ := E
  obtain ⟨rfl, rfl, rfl, rfl⟩ := X
  obtain ⟨hd, hnx⟩ := Bx2.dec B h
  obtain ⟨rfl, rfl⟩ := hnx
  subst hst
  subst h2
  intro H locs ls hg hP hS hl
  have hgd : (A.1 ≤ A2.1 ∧ A.2.1 ≤ A2.2.1) ∧ A2.1 ≤ fA.1 ∧ A2.2.1 ≤ fA.2.1 := by
    rcases hm with ⟨h7, h8⟩ | ⟨r9, m9, f9, d9, h7, h8⟩
    · rw [h7, h8]
      exact ⟨⟨Nat.le_refl _, Nat.le_refl _⟩, hg.2.2⟩
    · obtain ⟨-, -, rfl, -⟩ := h7
      exact h8
  have hc := hc hgd.1.1 hgd.1.2
  have hrl : (rest.map (cvv (kc K'))).map (fun v => v.category) = rest.map (fun v => v.category) := by rw [List.map_map]; congr 1; funext v; exact cvv_cat (kc K') v
  have hrmm : A.1 - A0.1 + (A2.1 - A.1) ≤ R.cells ∧ A.2.1 - A0.2.1 + (A2.2.1 - A.2.1) ≤ R.slots := by
    have h1 := B.rm
    have h3 := hg.2.1
    omega
  have hk : ∀ (H1 : Heap) (locs1 : List Loc), inv2 A0 A2 fA → va_P K'.2.2.1 zcls (w2 K' mm2 A2 dm2) H1 → va_S (Ax K') s.heap H1 locs1 → W p l' e R s m args below meth c H1 locs1 (A2.1 - A0.1) (A2.2.1 - A0.2.1) Q (F0 m (pc + 3) ls ((r.map (cvv (kc K'))).toList ++ rest.map (cvv (kc K')))) := by
    intro H1 locs1 hg1 hP1 hS1
    have := k H1 locs1 ls hg1 hP1 hS1 hl
    rw [List.map_append] at this
    cases r <;> exact this
  refine w_hz B hg hP fun hz => ?_
  exact z2call B hg hS hgd (va_runI (b := adr K' q) (As := as.map (cvv (kc K'))) (rest := rest.map (cvv (kc K'))) ⟨B.1, rfl, B.ml, B.hown, B.tw⟩ hc ⟨callB_of n B.tw (tw_good hM.1) rfl rfl rfl (B.tw _ hM.2.2.2) (B.tw _ hw.1) hM.2.2.1 hR, hw.2.2, B.tw _ hw.2.1⟩ ⟨Wd2_blind, Wd2_call B hg.1 hz hP hS _⟩ rfl (by rw [List.length_map]; exact hn) hl.1 (by rw [List.map_append, List.map_reverse]; rfl) (lv_room (by rw [hrl]; exact hW)) hd hrmm) hk
theorem w_callF {E : Ev2} {own : String} {tb : Tb} {nL : Nat} {ret : Option FieldType} {pc nx : Nat} {lv : Lv} {st : List Value} {mm : Mem} {A : AS} {dm : DM} {l : Launch} {K : KF} {fr0 lo0 : Nat} {y : MethodName} {bytes : ByteArray} {maxL n fr lo idx : Nat} {rt : Option FieldType} {r : Option Value} {mm2 : Mem} {A2 : AS} {dm2 : DM} {x : vw_C} {z : MethodName} {cnt : Nat} (q : Nat) (as rest st2 : List Value) (X : Ec2 E l K fr0 lo0) (B : Bx2 E own tb nL ret) (i : Nat) (h : tb[i]? = some (pc, .invokeinterface idx cnt, 5, nx)) (hM : MI y bytes maxL rt n) (ci : Nat) (hci : ci ≠ 0) (hq : okd A q ci) (hx : zcls[ci]? = some x) (hxc : x.1 = y.cls) (hw : Cond.methodLink own idx z ∈ TW ∧ Cond.instanceMethod y ∈ TW ∧ Cond.selects y.cls z y ∈ TW) (hwf : Cond.declares z ∈ TF ∧ Cond.interfaceMethod z.cls z.cls z.name z.desc ∈ TF ∧ Cond.publicMethod y ∈ TF ∧ Cond.unhidden y.cls z.name z.desc ∈ TF ∧ Cond.castable y.cls z.cls ∈ TF) (hzd : z.cls ≠ "java/lang/invoke/MethodHandle" ∧ z.cls ≠ "java/lang/invoke/VarHandle" ∧ (parseMethodDescriptor z.desc).map (fun d => d.parameters.length) = some n) (hc : Ct2 l K y bytes maxL rt fr lo (.ref q :: as) mm A dm r mm2 A2 dm2) (hm : (A2.1 = A.1 ∧ A2.2.1 = A.2.1) ∨ ∃ r9 m9 f9 d9, Rs2 E r9 m9 f9 d9 ∧ ((A.1 ≤ A2.1 ∧ A.2.1 ≤ A2.2.1) ∧ A2.1 ≤ f9.1 ∧ A2.2.1 ≤ f9.2.1)) (hR : fr + 1 ≤ fr0 ∧ 8 + (maxL + 11) + lo ≤ lo0) (hn : as.length = n) (hst : st = as.reverse ++ .ref q :: rest) (hW : (rest.map fun v => v.category).sum ≤ 8) (h2 : st2 = r.toList ++ rest) (k : G2 E nL nx lv st2 mm2 A2 dm2) : G2 E nL pc lv st mm A dm := by
  obtain ⟨p, l', e, R, s, m, args, below, meth, c, Q, K', A0, res, mo, fA, fd⟩ := E
  obtain ⟨rfl, rfl, rfl, rfl⟩ := X
  obtain ⟨hd, hnx⟩ := Bx2.dec B h
  obtain ⟨rfl, rfl⟩ := hnx
  subst hst
  subst h2
  intro H locs ls hg hP hS hl
  have hgd : (A.1 ≤ A2.1 ∧ A.2.1 ≤ A2.2.1) ∧ A2.1 ≤ fA.1 ∧ A2.2.1 ≤ fA.2.1 := by
    rcases hm with ⟨h7, h8⟩ | ⟨r9, m9, f9, d9, h7, h8⟩
    · rw [h7, h8]
      exact ⟨⟨Nat.le_refl _, Nat.le_refl _⟩, hg.2.2⟩
    · obtain ⟨-, -, rfl, -⟩ := h7
      exact h8
  have hc := hc hgd.1.1 hgd.1.2
  have hrl : (rest.map (cvv (kc K'))).map (fun v => v.category) = rest.map (fun v => v.category) := by rw [List.map_map]; congr 1; funext v; exact cvv_cat (kc K') v
  have hrmm : A.1 - A0.1 + (A2.1 - A.1) ≤ R.cells ∧ A.2.1 - A0.2.1 + (A2.2.1 - A.2.1) ≤ R.slots := by
    have h1 := B.rm
    have h3 := hg.2.1
    omega
  have hk : ∀ (H1 : Heap) (locs1 : List Loc), inv2 A0 A2 fA → va_P K'.2.2.1 zcls (w2 K' mm2 A2 dm2) H1 → va_S (Ax K') s.heap H1 locs1 → W p l' e R s m args below meth c H1 locs1 (A2.1 - A0.1) (A2.2.1 - A0.2.1) Q (F0 m (pc + 5) ls ((r.map (cvv (kc K'))).toList ++ rest.map (cvv (kc K')))) := by
    intro H1 locs1 hg1 hP1 hS1
    have := k H1 locs1 ls hg1 hP1 hS1 hl
    rw [List.map_append] at this
    cases r <;> exact this
  have hrec : ∃ cell : Cell, H[adr K' q]? = some cell ∧ cell.vm.isStatics = false ∧ s.vm.findClass y.cls = some cell.cls := by
    obtain ⟨j, hj1, hj2⟩ := ow_at A (okd_liv hq hci)
    have hg1 := hj1 K' mm dm
    rw [cld_obj (zcls_lt hx) hq] at hg1
    rw [← hxc]
    exact va_recv B.kk hP hx hg1
  refine w_hz B hg hP fun hz => ?_
  have hfw : va_Fw y.cls z y s := va_Fw.of (A := args) (va_Nw.use rfl (B.sx.2.1 _ hwf.1)) (va_Nw.use rfl (B.sx.2.1 _ hwf.2.1)) (va_Nw.use rfl (B.sx.2.1 _ hwf.2.2.1)) (va_Nw.use rfl (B.sx.2.1 _ hwf.2.2.2.1)) (va_Nw.use rfl (B.sx.2.1 _ hwf.2.2.2.2))
  have hat : ClassAt s y.cls (K'.2.2.1.1 ci) := by
    have h7 := (B.kk.1 ci x hx).2
    rw [hxc] at h7
    exact h7
  have hgw : GoodIn TW (va_wsF own idx y.cls z y (Cond.code y bytes maxL rt :: TW)) := by
    intro w hw9
    rcases List.mem_append.mp hw9 with h7 | h7
    · have hin : w ∈ TW := by
        simp only [List.mem_cons, List.not_mem_nil, or_false] at h7
        rcases h7 with rfl | rfl | rfl | rfl
        · exact hw.1
        · exact hw.2.2
        · exact hw.2.1
        · exact hM.2.2.2
      exact ⟨hin, good_of_word (List.mem_filter.mp hin).2⟩
    · exact tw_good hM.1 w h7
  exact z2callF B hg hS hgd (va_runF hat (b := adr K' q) (As := as.map (cvv (kc K'))) (rest := rest.map (cvv (kc K'))) ⟨B.1, rfl, B.ml, B.hown, B.tw⟩ hc (va_cwF n B.tw hgw rfl rfl rfl hfw hzd hR) ⟨Wd2_blind, hrec, Wd2_call B hg.1 hz hP hS _⟩ rfl (by rw [List.length_map]; exact hn) hl.1 (by rw [List.map_append, List.map_reverse]; rfl) (lv_room (by rw [hrl]; exact hW)) hd hrmm) hk
theorem w_obj {E : Ev2} {own : String} {tb : Tb} {nL : Nat} {ret : Option FieldType} {pc nx : Nat} {lv : Lv} {st : List Value} {mm : Mem} {A : AS} {dm : DM} {l : Launch} {K : KF} {fr0 lo0 : Nat} {x idx : Nat} (X : Ec2 E l K fr0 lo0) (B : Bx2 E own tb nL ret) (i : Nat) (h : tb[i]? = some (pc, .invokespecial idx, 3, nx)) (hw : Cond.methodLink own idx Lib.objectInit ∈ TW ∧ Cond.instanceMethod Lib.objectInit ∈ TW ∧ Cond.code Lib.objectInit ⟨#[0xb1]⟩ 1 none ∈ TW) (hR : 1 ≤ fr0 ∧ 20 ≤ lo0) (hW : (st.map fun v => v.category).sum ≤ 8) (k : G2 E nL nx lv st mm A dm) : G2 E nL pc lv (.ref x :: st) mm A dm := by
  obtain ⟨p, l', e, R, s, m, args, below, meth, c, Q, K', A0, res, mo, fA, fd⟩ := E
  obtain ⟨rfl, rfl, rfl, rfl⟩ := X
  obtain ⟨hd, hnx⟩ := Bx2.dec B h
  subst hnx
  intro H locs ls hg hP hS hl
  have hrl : (st.map (cvv (kc K'))).map (fun v => v.category) = st.map (fun v => v.category) := by rw [List.map_map]; congr 1; funext v; exact cvv_cat (kc K') v
  refine W.objInit B.1 rfl B.hown (B.tw _ hw.1) (B.tw _ hw.2.1) (B.tw _ hw.2.2) rfl (by rw [B.ml]; exact hl.1) rfl hd hR.1 (by have := hR.2; rw [hrl]; show 2 * 0 + _ + 12 ≤ _; omega) ?_
  exact k H locs ls hg hP hS hl
theorem w_mmax {E : Ev2} {own : String} {tb : Tb} {nL : Nat} {ret : Option FieldType} {pc nx : Nat} {lv : Lv} {st : List Value} {mm : Mem} {A : AS} {dm : DM} {l : Launch} {K : KF} {fr0 lo0 : Nat} {x y : Int32} {idx : Nat} (X : Ec2 E l K fr0 lo0) (B : Bx2 E own tb nL ret) (i : Nat) (h : tb[i]? = some (pc, .invokestatic idx, 3, nx)) (hw : Cond.methodLink own idx Lib.Math.max.name ∈ TW ∧ Cond.static Lib.Math.max.name ∈ TW ∧ Cond.initialized "java/lang/Math" ∈ TW ∧ Cond.code Lib.Math.max.name Lib.Math.max.code 2 (some .int) ∈ TW) (hR : 1 ≤ fr0 ∧ 21 ≤ lo0) (hW : (st.map fun v => v.category).sum ≤ 8) (k : G2 E nL nx lv (.int (if x < y then y else x) :: st) mm A dm) : G2 E nL pc lv (.int y :: .int x :: st) mm A dm := by
  obtain ⟨p, l', e, R, s, m, args, below, meth, c, Q, K', A0, res, mo, fA, fd⟩ := E
  obtain ⟨rfl, rfl, rfl, rfl⟩ := X
  obtain ⟨hd, hnx⟩ := Bx2.dec B h
  obtain ⟨rfl, rfl⟩ := hnx
  intro H locs ls hg hP hS hl
  have hrl : (st.map (cvv (kc K'))).map (fun v => v.category) = st.map (fun v => v.category) := by rw [List.map_map]; congr 1; funext v; exact cvv_cat (kc K') v
  exact va_mmax B.1 rfl (by rw [B.ml]; exact hl.1.symm) B.hown (B.tw _ hw.1) (B.tw _ hw.2.1) (B.tw _ hw.2.2.1) (B.tw _ hw.2.2.2) hR.1 (by rw [hrl]; have := hR.2; omega) (B.room hg).1 (B.room hg).2 hd (k H locs ls hg hP hS hl)
theorem w_mmin {E : Ev2} {own : String} {tb : Tb} {nL : Nat} {ret : Option FieldType} {pc nx : Nat} {lv : Lv} {st : List Value} {mm : Mem} {A : AS} {dm : DM} {l : Launch} {K : KF} {fr0 lo0 : Nat} {x y : Int32} {idx : Nat} (X : Ec2 E l K fr0 lo0) (B : Bx2 E own tb nL ret) (i : Nat) (h : tb[i]? = some (pc, .invokestatic idx, 3, nx)) (hw : Cond.methodLink own idx Lib.Math.min.name ∈ TW ∧ Cond.static Lib.Math.min.name ∈ TW ∧ Cond.initialized "java/lang/Math" ∈ TW ∧ Cond.code Lib.Math.min.name Lib.Math.min.code 2 (some .int) ∈ TW) (hR : 1 ≤ fr0 ∧ 21 ≤ lo0) (hW : (st.map fun v => v.category).sum ≤ 8) (k : G2 E nL nx lv (.int (if y < x then y else x) :: st) mm A dm) : G2 E nL pc lv (.int y :: .int x :: st) mm A dm := by
  obtain ⟨p, l', e, R, s, m, args, below, meth, c, Q, K', A0, res, mo, fA, fd⟩ := E
  obtain ⟨rfl, rfl, rfl, rfl⟩ := X
  obtain ⟨hd, hnx⟩ := Bx2.dec B h
  obtain ⟨rfl, rfl⟩ := hnx
  intro H locs ls hg hP hS hl
  have hrl : (st.map (cvv (kc K'))).map (fun v => v.category) = st.map (fun v => v.category) := by rw [List.map_map]; congr 1; funext v; exact cvv_cat (kc K') v
  exact va_mmin B.1 rfl (by rw [B.ml]; exact hl.1.symm) B.hown (B.tw _ hw.1) (B.tw _ hw.2.1) (B.tw _ hw.2.2.1) (B.tw _ hw.2.2.2) hR.1 (by rw [hrl]; have := hR.2; omega) (B.room hg).1 (B.room hg).2 hd (k H locs ls hg hP hS hl)
theorem w_callC {E : Ev2} {own : String} {tb : Tb} {nL : Nat} {ret : Option FieldType} {pc nx : Nat} {lv : Lv} {st : List Value} {mm : Mem} {A : AS} {dm : DM} {l : Launch} {K : KF} {fr0 lo0 : Nat} {y : MethodName} {bytes : ByteArray} {maxL n fr lo idx : Nat} {rt : Option FieldType} {r : Option Value} {mm2 : Mem} (q : Nat) (as rest st2 : List Value) (X : Ec2 E l K fr0 lo0) (B : Bx2 E own tb nL ret) (i : Nat) (h : tb[i]? = some (pc, .invokevirtual idx, 3, nx)) (hM : MI y bytes maxL rt n) (hcls : y.cls = RX6) (hq : q = A.2.2.2) (hw : Cond.methodLink own idx y ∈ TW ∧ Cond.instanceMethod y ∈ TW ∧ Cond.selects y.cls y y ∈ TW) (hc : Dj (cfg K A.2.2.2) → Ct l (cfg K A.2.2.2) y bytes maxL rt fr lo (.ref 14 :: as) mm r mm2) (hR : fr + 1 ≤ fr0 ∧ 8 + (maxL + 11) + lo ≤ lo0) (hn : as.length = n) (has : ∀ (C C' : Cfg), as.map (cvv C) = as.map (cvv C')) (hrr : ∀ (C C' : Cfg), r.map (cvv C) = r.map (cvv C')) (hst : st = as.reverse ++ .ref q :: rest) (hW : (rest.map fun v => v.category).sum ≤ 8) (h2 : st2 = r.toList ++ rest) (k : G2 E nL nx lv st2 mm2 A dm) : G2 E nL pc lv st mm A dm := by
  obtain ⟨p, l', e, R, s, m, args, below, meth, c, Q, K', A0, res, mo, fA, fd⟩ := E
  obtain ⟨rfl, rfl, rfl, rfl⟩ := X
  obtain ⟨hd, hnx⟩ := Bx2.dec B h
  obtain ⟨rfl, rfl⟩ := hnx
  subst hst
  subst h2
  subst hq
  intro H locs ls hg hP hS hl
  have hok := hg.1
  have hc := hc (cfg_dj hok)
  have hrl : (rest.map (cvv (kc K'))).map (fun v => v.category) = rest.map (fun v => v.category) := by rw [List.map_map]; congr 1; funext v; exact cvv_cat (kc K') v
  have hb : adr K' A.2.2.2 = (cfg K' A.2.2.2).1 14 := by
    rw [adr_pos hok.1]
    rfl
  have hPc : va_P K'.2.2.1 zcls (wl (cfg K' A.2.2.2) mm) H := fun k9 x hx => hP k9 x (by unfold w2; rw [List.getElem?_append_left (List.getElem?_eq_some_iff.mp hx).1]; exact hx)
  have hrec : ∃ cell : Cell, H[adr K' A.2.2.2]? = some cell ∧ cell.vm.isStatics = false ∧ s.vm.findClass y.cls = some cell.cls := by
    rw [hcls, hb]
    have hx : zcls[6]? = some (RX6, TX6, 7) := rfl
    have h7 := wl_get (C := cfg K' A.2.2.2) (mm := mm) (q := 14) (by decide) (by decide)
    rw [cel_obj (q := 14) (ci := 6) rfl (by decide)] at h7
    exact va_recv B.kk hPc hx h7
  have hsx : Sx (cfg K' A.2.2.2) (Aw (cfg K' A.2.2.2)) s s.heap := ⟨B.sx.1, B.sx.2.1⟩
  have hcall : ∀ U : State, U.heap = H → s.WarmedH U.vm → va_Pc ((Value.ref 14 :: as).map (cvv (cfg K' A.2.2.2))) (Wd (cfg K' A.2.2.2) mm) ((Value.ref 14 :: as).map (cvv (cfg K' A.2.2.2))).toArray U := fun U hU hWm => ⟨rfl, by rw [hU]; exact hPc, va_K.moved hWm.alike B.kk, by rw [hU]; exact hsx.go hWm⟩
  have hroom := B.room hg
  have hrun := va_runV (locs := locs) (H := H) (cells := A.1 - A0.1) (slots := A.2.1 - A0.2.1) (e := e) (below := below) (meth := meth) (C := y.cls) (b := (cfg K' A.2.2.2).1 14) (As := as.map (cvv (cfg K' A.2.2.2))) (rest := rest.map (cvv (kc K'))) (g := F0 m pc ls ((as.reverse ++ Value.ref A.2.2.2 :: rest).map (cvv (kc K')))) ⟨B.1, rfl, B.ml, B.hown, B.tw⟩ hc ⟨callB_of n B.tw (tw_good hM.1) rfl rfl rfl (B.tw _ hM.2.2.2) (B.tw _ hw.1) hM.2.2.1 hR, B.tw _ hw.2.1, B.tw _ hw.2.2⟩ ⟨Wd_blind, by rw [← hb]; exact hrec, hcall⟩ rfl (by rw [List.length_map]; exact hn) hl.1 (by rw [List.map_append, List.map_reverse, has (kc K') (cfg K' A.2.2.2), ← hb]; rfl) (lv_room (by rw [hrl]; exact hW)) hd hroom
  intro T hT Y
  obtain ⟨v, st₀, t, T', L, h0, X', hL, e1, e2, ⟨hv, hWd, hF⟩, hst⟩ := hrun T hT Y
  cases hv
  have hAA : ∀ q, Aw (cfg K' A.2.2.2) q → Ax K' q := fun q hq => by
    obtain ⟨c9, h5, h6, rfl⟩ := hq
    show K'.1 ≤ K'.1 + (A.2.2.2 - 1) + (c9 - 14)
    omega
  obtain ⟨g1, g2, hS1⟩ := kp_keep h0 e1 hS (fun q _ h => hAA q h) hAA hL hF
  have hP2 : va_P K'.2.2.1 zcls (w2 K' mm2 A dm) T'.heap := by
    intro k9 x hx
    by_cases hl9 : k9 < 119
    · unfold w2 at hx
      rw [List.getElem?_append_left (by rw [wl_len]; exact hl9)] at hx
      rw [e1]
      exact hWd.1 k9 x hx
    · have hx' : (w2 K' mm A dm)[k9]? = some x := by
        unfold w2 at hx ⊢
        rw [List.getElem?_append_right (by rw [wl_len]; omega), wl_len] at hx ⊢
        exact hx
      have hq9 := hP k9 x hx'
      refine hq9.kept (g2 x.1 hq9.lt ?_)
      rintro ⟨c9, h5, h6, h7⟩
      have h8 := wl_get (C := cfg K' A.2.2.2) (mm := mm) h5 h6
      have h9 : (w2 K' mm A dm)[c9 - 14]? = some ((cfg K' A.2.2.2).1 c9, cel (cfg K' A.2.2.2) mm c9) := by
        unfold w2
        rw [List.getElem?_append_left (by rw [wl_len]; omega)]
        exact h8
      have h10 := (w2_D (K := K') (mm := mm) (dm := dm) hok).1 (c9 - 14) k9 _ _ h9 hx' h7
      omega
  have hgo := k T'.heap (locs ++ L) ls hg hP2 hS1 hl
  rw [List.map_append] at hgo
  have hvs : (r.map (cvv (cfg K' A.2.2.2))).toList = r.toList.map (cvv (kc K')) := by
    rw [hrr (cfg K' A.2.2.2) (kc K')]
    cases r <;> rfl
  obtain ⟨t2, a1, b1⟩ := hgo T' rfl X'
  refine ⟨t2, hst t2 ?_, b1⟩
  rw [hvs]
  exact a1
