theorem z_iadd {E : Ev} {own : String} {tb : Tb} {nL : Nat} {ret : Option FieldType} {pc nx : Nat} {lv : Lv} {st : List Value} {mm : Mem} {x y : Int32} (B : Bx E own tb nL ret) (i : Nat) (h : tb[i]? = some (pc, .iadd, 1, nx)) (k : G E nL nx lv (.int (x + y) :: st) mm) : G E nL pc lv (.int y :: .int x :: st) mm := by
  obtain ⟨p, l, e, R, s, m, args, below, meth, c, Q, C, kc, ks, A, res, mo⟩ := E
  obtain ⟨hd, hn⟩ := Bx.dec B h
  subst hn
  intro H locs ls hP hS hl
  exact lv_iadd B.1 rfl hd (k H locs ls hP hS hl)
theorem z_isub {E : Ev} {own : String} {tb : Tb} {nL : Nat} {ret : Option FieldType} {pc nx : Nat} {lv : Lv} {st : List Value} {mm : Mem} {x y : Int32} (B : Bx E own tb nL ret) (i : Nat) (h : tb[i]? = some (pc, .isub, 1, nx)) (k : G E nL nx lv (.int (x - y) :: st) mm) : G E nL pc lv (.int y :: .int x :: st) mm := by
  obtain ⟨p, l, e, R, s, m, args, below, meth, c, Q, C, kc, ks, A, res, mo⟩ := E
  obtain ⟨hd, hn⟩ := Bx.dec B h
  subst hn
  intro H locs ls hP hS hl
  exact lv_isub B.1 rfl hd (k H locs ls hP hS hl)
theorem z_imul {E : Ev} {own : String} {tb : Tb} {nL : Nat} {ret : Option FieldType} {pc nx : Nat} {lv : Lv} {st : List Value} {mm : Mem} {x y : Int32} (B : Bx E own tb nL ret) (i : Nat) (h : tb[i]? = some (pc, .imul, 1, nx)) (k : G E nL nx lv (.int (x * y) :: st) mm) : G E nL pc lv (.int y :: .int x :: st) mm := by
  obtain ⟨p, l, e, R, s, m, args, below, meth, c, Q, C, kc, ks, A, res, mo⟩ := E
  obtain ⟨hd, hn⟩ := Bx.dec B h
  subst hn
  intro H locs ls hP hS hl
  exact lv_imul B.1 rfl hd (k H locs ls hP hS hl)
theorem z_iand {E : Ev} {own : String} {tb : Tb} {nL : Nat} {ret : Option FieldType} {pc nx : Nat} {lv : Lv} {st : List Value} {mm : Mem} {x y : Int32} (B : Bx E own tb nL ret) (i : Nat) (h : tb[i]? = some (pc, .iand, 1, nx)) (k : G E nL nx lv (.int (x &&& y) :: st) mm) : G E nL pc lv (.int y :: .int x :: st) mm := by
  obtain ⟨p, l, e, R, s, m, args, below, meth, c, Q, C, kc, ks, A, res, mo⟩ := E
  obtain ⟨hd, hn⟩ := Bx.dec B h
  subst hn
  intro H locs ls hP hS hl
  exact lv_iand B.1 rfl hd (k H locs ls hP hS hl)
theorem z_ior {E : Ev} {own : String} {tb : Tb} {nL : Nat} {ret : Option FieldType} {pc nx : Nat} {lv : Lv} {st : List Value} {mm : Mem} {x y : Int32} (B : Bx E own tb nL ret) (i : Nat) (h : tb[i]? = some (pc, .ior, 1, nx)) (k : G E nL nx lv (.int (x ||| y) :: st) mm) : G E nL pc lv (.int y :: .int x :: st) mm := by
  obtain ⟨p, l, e, R, s, m, args, below, meth, c, Q, C, kc, ks, A, res, mo⟩ := E
  obtain ⟨hd, hn⟩ := Bx.dec B h
  subst hn
  intro H locs ls hP hS hl
  exact lv_ior B.1 rfl hd (k H locs ls hP hS hl)
theorem z_ishl {E : Ev} {own : String} {tb : Tb} {nL : Nat} {ret : Option FieldType} {pc nx : Nat} {lv : Lv} {st : List Value} {mm : Mem} {x y : Int32} (B : Bx E own tb nL ret) (i : Nat) (h : tb[i]? = some (pc, .ishl, 1, nx)) (k : G E nL nx lv (.int (x <<< (y &&& 31)) :: st) mm) : G E nL pc lv (.int y :: .int x :: st) mm := by
  obtain ⟨p, l, e, R, s, m, args, below, meth, c, Q, C, kc, ks, A, res, mo⟩ := E
  obtain ⟨hd, hn⟩ := Bx.dec B h
  subst hn
  intro H locs ls hP hS hl
  exact lv_ishl B.1 rfl hd (k H locs ls hP hS hl)
theorem z_ishr {E : Ev} {own : String} {tb : Tb} {nL : Nat} {ret : Option FieldType} {pc nx : Nat} {lv : Lv} {st : List Value} {mm : Mem} {x y : Int32} (B : Bx E own tb nL ret) (i : Nat) (h : tb[i]? = some (pc, .ishr, 1, nx)) (k : G E nL nx lv (.int (x >>> (y &&& 31)) :: st) mm) : G E nL pc lv (.int y :: .int x :: st) mm := by
  obtain ⟨p, l, e, R, s, m, args, below, meth, c, Q, C, kc, ks, A, res, mo⟩ := E
  obtain ⟨hd, hn⟩ := Bx.dec B h
  subst hn
  intro H locs ls hP hS hl
  exact lv_ishr B.1 rfl hd (k H locs ls hP hS hl)
theorem z_iushr {E : Ev} {own : String} {tb : Tb} {nL : Nat} {ret : Option FieldType} {pc nx : Nat} {lv : Lv} {st : List Value} {mm : Mem} {x y : Int32} (B : Bx E own tb nL ret) (i : Nat) (h : tb[i]? = some (pc, .iushr, 1, nx)) (k : G E nL nx lv (.int ((x.toUInt32 >>> (y.toUInt32 &&& Int32.toUInt32 31)).toInt32) :: st) mm) : G E nL pc lv (.int y :: .int x :: st) mm := by
  obtain ⟨p, l, e, R, s, m, args, below, meth, c, Q, C, kc, ks, A, res, mo⟩ := E
  obtain ⟨hd, hn⟩ := Bx.dec B h
  subst hn
  intro H locs ls hP hS hl
  exact lv_iushr B.1 rfl hd rfl (k H locs ls hP hS hl)
theorem z_idiv {E : Ev} {own : String} {tb : Tb} {nL : Nat} {ret : Option FieldType} {pc nx : Nat} {lv : Lv} {st : List Value} {mm : Mem} {x y : Int32} (B : Bx E own tb nL ret) (i : Nat) (h : tb[i]? = some (pc, .idiv, 1, nx)) (hy : ¬ y = 0) (k : G E nL nx lv (.int (x / y) :: st) mm) : G E nL pc lv (.int y :: .int x :: st) mm := by
  obtain ⟨p, l, e, R, s, m, args, below, meth, c, Q, C, kc, ks, A, res, mo⟩ := E
  obtain ⟨hd, hn⟩ := Bx.dec B h
  subst hn
  intro H locs ls hP hS hl
  exact lv_idiv B.1 rfl hd hy (k H locs ls hP hS hl)
theorem z_ineg {E : Ev} {own : String} {tb : Tb} {nL : Nat} {ret : Option FieldType} {pc nx : Nat} {lv : Lv} {st : List Value} {mm : Mem} {x : Int32} (B : Bx E own tb nL ret) (i : Nat) (h : tb[i]? = some (pc, .ineg, 1, nx)) (k : G E nL nx lv (.int (-x) :: st) mm) : G E nL pc lv (.int x :: st) mm := by
  obtain ⟨p, l, e, R, s, m, args, below, meth, c, Q, C, kc, ks, A, res, mo⟩ := E
  obtain ⟨hd, hn⟩ := Bx.dec B h
  subst hn
  intro H locs ls hP hS hl
  exact lv_ineg B.1 rfl hd (k H locs ls hP hS hl)
theorem z_i2l {E : Ev} {own : String} {tb : Tb} {nL : Nat} {ret : Option FieldType} {pc nx : Nat} {lv : Lv} {st : List Value} {mm : Mem} {x : Int32} (B : Bx E own tb nL ret) (i : Nat) (h : tb[i]? = some (pc, .i2l, 1, nx)) (k : G E nL nx lv (.long (x.toInt64) :: st) mm) : G E nL pc lv (.int x :: st) mm := by
  obtain ⟨p, l, e, R, s, m, args, below, meth, c, Q, C, kc, ks, A, res, mo⟩ := E
  obtain ⟨hd, hn⟩ := Bx.dec B h
  subst hn
  intro H locs ls hP hS hl
  exact lv_i2l B.1 rfl hd rfl (k H locs ls hP hS hl)
theorem z_ladd {E : Ev} {own : String} {tb : Tb} {nL : Nat} {ret : Option FieldType} {pc nx : Nat} {lv : Lv} {st : List Value} {mm : Mem} {x y : Int64} (B : Bx E own tb nL ret) (i : Nat) (h : tb[i]? = some (pc, .ladd, 1, nx)) (k : G E nL nx lv (.long (x + y) :: st) mm) : G E nL pc lv (.long y :: .long x :: st) mm := by
  obtain ⟨p, l, e, R, s, m, args, below, meth, c, Q, C, kc, ks, A, res, mo⟩ := E
  obtain ⟨hd, hn⟩ := Bx.dec B h
  subst hn
  intro H locs ls hP hS hl
  exact lv_ladd B.1 rfl hd (k H locs ls hP hS hl)
theorem z_lsub {E : Ev} {own : String} {tb : Tb} {nL : Nat} {ret : Option FieldType} {pc nx : Nat} {lv : Lv} {st : List Value} {mm : Mem} {x y : Int64} (B : Bx E own tb nL ret) (i : Nat) (h : tb[i]? = some (pc, .lsub, 1, nx)) (k : G E nL nx lv (.long (x - y) :: st) mm) : G E nL pc lv (.long y :: .long x :: st) mm := by
  obtain ⟨p, l, e, R, s, m, args, below, meth, c, Q, C, kc, ks, A, res, mo⟩ := E
  obtain ⟨hd, hn⟩ := Bx.dec B h
  subst hn
  intro H locs ls hP hS hl
  exact lv_lsub B.1 rfl hd (k H locs ls hP hS hl)
theorem z_lmul {E : Ev} {own : String} {tb : Tb} {nL : Nat} {ret : Option FieldType} {pc nx : Nat} {lv : Lv} {st : List Value} {mm : Mem} {x y : Int64} (B : Bx E own tb nL ret) (i : Nat) (h : tb[i]? = some (pc, .lmul, 1, nx)) (k : G E nL nx lv (.long (x * y) :: st) mm) : G E nL pc lv (.long y :: .long x :: st) mm := by
  obtain ⟨p, l, e, R, s, m, args, below, meth, c, Q, C, kc, ks, A, res, mo⟩ := E
  obtain ⟨hd, hn⟩ := Bx.dec B h
  subst hn
  intro H locs ls hP hS hl
  exact lv_lmul B.1 rfl hd (k H locs ls hP hS hl)
theorem z_lcmp {E : Ev} {own : String} {tb : Tb} {nL : Nat} {ret : Option FieldType} {pc nx : Nat} {lv : Lv} {st : List Value} {mm : Mem} {x y : Int64} (B : Bx E own tb nL ret) (i : Nat) (h : tb[i]? = some (pc, .lcmp, 1, nx)) (k : G E nL nx lv (.int (lg_cmp x y) :: st) mm) : G E nL pc lv (.long y :: .long x :: st) mm := by
  obtain ⟨p, l, e, R, s, m, args, below, meth, c, Q, C, kc, ks, A, res, mo⟩ := E
  obtain ⟨hd, hn⟩ := Bx.dec B h
  subst hn
  intro H locs ls hP hS hl
  exact W.lcmp B.1 rfl hd (k H locs ls hP hS hl)
theorem z_iconst {E : Ev} {own : String} {tb : Tb} {nL : Nat} {ret : Option FieldType} {pc nx : Nat} {lv : Lv} {st : List Value} {mm : Mem} {n : Int} (v : Int32) (B : Bx E own tb nL ret) (i : Nat) (h : tb[i]? = some (pc, .iconst n, 1, nx)) (hv : Int32.ofInt n = v) (k : G E nL nx lv (.int v :: st) mm) : G E nL pc lv st mm := by
  obtain ⟨p, l, e, R, s, m, args, below, meth, c, Q, C, kc, ks, A, res, mo⟩ := E
  obtain ⟨hd, hn⟩ := Bx.dec B h
  subst hn
  intro H locs ls hP hS hl
  exact lv_iconst B.1 rfl hd hv (k H locs ls hP hS hl)
theorem z_bipush {E : Ev} {own : String} {tb : Tb} {nL : Nat} {ret : Option FieldType} {pc nx : Nat} {lv : Lv} {st : List Value} {mm : Mem} {n : Int} (v : Int32) (B : Bx E own tb nL ret) (i : Nat) (h : tb[i]? = some (pc, .bipush n, 2, nx)) (hv : (Int8.ofInt n).toInt32 = v) (k : G E nL nx lv (.int v :: st) mm) : G E nL pc lv st mm := by
  obtain ⟨p, l, e, R, s, m, args, below, meth, c, Q, C, kc, ks, A, res, mo⟩ := E
  obtain ⟨hd, hn⟩ := Bx.dec B h
  subst hn
  intro H locs ls hP hS hl
  exact lv_bipush B.1 rfl hd hv (k H locs ls hP hS hl)
theorem z_sipush {E : Ev} {own : String} {tb : Tb} {nL : Nat} {ret : Option FieldType} {pc nx : Nat} {lv : Lv} {st : List Value} {mm : Mem} {n : Int} (v : Int32) (B : Bx E own tb nL ret) (i : Nat) (h : tb[i]? = some (pc, .sipush n, 3, nx)) (hv : (Int16.ofInt n).toInt32 = v) (k : G E nL nx lv (.int v :: st) mm) : G E nL pc lv st mm := by
  obtain ⟨p, l, e, R, s, m, args, below, meth, c, Q, C, kc, ks, A, res, mo⟩ := E
  obtain ⟨hd, hn⟩ := Bx.dec B h
  subst hn
  intro H locs ls hP hS hl
  exact lv_sipush B.1 rfl hd hv (k H locs ls hP hS hl)
theorem z_lconst {E : Ev} {own : String} {tb : Tb} {nL : Nat} {ret : Option FieldType} {pc nx : Nat} {lv : Lv} {st : List Value} {mm : Mem} {n : Fin 2} (v : Int64) (B : Bx E own tb nL ret) (i : Nat) (h : tb[i]? = some (pc, .lconst n, 1, nx)) (hv : Int64.ofNat (n : Nat) = v) (k : G E nL nx lv (.long v :: st) mm) : G E nL pc lv st mm := by
  obtain ⟨p, l, e, R, s, m, args, below, meth, c, Q, C, kc, ks, A, res, mo⟩ := E
  obtain ⟨hd, hn⟩ := Bx.dec B h
  subst hn
  intro H locs ls hP hS hl
  exact lv_lconst B.1 rfl hd hv (k H locs ls hP hS hl)
theorem z_ldc {E : Ev} {own : String} {tb : Tb} {nL : Nat} {ret : Option FieldType} {pc nx : Nat} {lv : Lv} {st : List Value} {mm : Mem} {n : Nat} (v : Int32) (B : Bx E own tb nL ret) (i : Nat) (h : tb[i]? = some (pc, .ldc n, 2, nx)) (hw : Cond.constant own n v ∈ TW) (k : G E nL nx lv (.int v :: st) mm) : G E nL pc lv st mm := by
  obtain ⟨p, l, e, R, s, m, args, below, meth, c, Q, C, kc, ks, A, res, mo⟩ := E
  obtain ⟨hd, hn⟩ := Bx.dec B h
  subst hn
  intro H locs ls hP hS hl
  exact lv_ldc B.1 rfl B.hown (B.tw _ hw) hd (k H locs ls hP hS hl)
theorem z_ldc2 {E : Ev} {own : String} {tb : Tb} {nL : Nat} {ret : Option FieldType} {pc nx : Nat} {lv : Lv} {st : List Value} {mm : Mem} {n : Nat} (v : Int64) (B : Bx E own tb nL ret) (i : Nat) (h : tb[i]? = some (pc, .ldc2_w n, 3, nx)) (hw : Cond.constantLong own n v ∈ TW) (k : G E nL nx lv (.long v :: st) mm) : G E nL pc lv st mm := by
  obtain ⟨p, l, e, R, s, m, args, below, meth, c, Q, C, kc, ks, A, res, mo⟩ := E
  obtain ⟨hd, hn⟩ := Bx.dec B h
  subst hn
  intro H locs ls hP hS hl
  exact lv_ldc2 B.1 rfl B.hown (B.tw _ hw) hd (k H locs ls hP hS hl)
theorem z_iload_n {E : Ev} {own : String} {tb : Tb} {nL : Nat} {ret : Option FieldType} {pc nx : Nat} {lv : Lv} {st : List Value} {mm : Mem} {x : Int32} {kk : Fin 4} (B : Bx E own tb nL ret) (i : Nat) (h : tb[i]? = some (pc, .iload_n kk, 1, nx)) (q j : Nat) (hq : (kk : Nat) = q) (hj : lv[j]? = some (q, .int x)) (k : G E nL nx lv (.int x :: st) mm) : G E nL pc lv st mm := by
  obtain ⟨p, l, e, R, s, m, args, below, meth, c, Q, C, kc, ks, A, res, mo⟩ := E
  obtain ⟨hd, hn⟩ := Bx.dec B h
  subst hn
  intro H locs ls hP hS hl
  exact lv_iload_n B.1 rfl hd hq (lv_at hl j (lvm hj)) (k H locs ls hP hS hl)
theorem z_iload {E : Ev} {own : String} {tb : Tb} {nL : Nat} {ret : Option FieldType} {pc nx : Nat} {lv : Lv} {st : List Value} {mm : Mem} {x : Int32} {q : Nat} (B : Bx E own tb nL ret) (i : Nat) (h : tb[i]? = some (pc, .iload q, 2, nx)) (j : Nat) (hj : lv[j]? = some (q, .int x)) (k : G E nL nx lv (.int x :: st) mm) : G E nL pc lv st mm := by
  obtain ⟨p, l, e, R, s, m, args, below, meth, c, Q, C, kc, ks, A, res, mo⟩ := E
  obtain ⟨hd, hn⟩ := Bx.dec B h
  subst hn
  intro H locs ls hP hS hl
  exact lv_iload B.1 rfl hd (lv_at hl j (lvm hj)) (k H locs ls hP hS hl)
theorem z_lload_n {E : Ev} {own : String} {tb : Tb} {nL : Nat} {ret : Option FieldType} {pc nx : Nat} {lv : Lv} {st : List Value} {mm : Mem} {x : Int64} {kk : Fin 4} (B : Bx E own tb nL ret) (i : Nat) (h : tb[i]? = some (pc, .lload_n kk, 1, nx)) (q j : Nat) (hq : (kk : Nat) = q) (hj : lv[j]? = some (q, .long x)) (k : G E nL nx lv (.long x :: st) mm) : G E nL pc lv st mm := by
  obtain ⟨p, l, e, R, s, m, args, below, meth, c, Q, C, kc, ks, A, res, mo⟩ := E
  obtain ⟨hd, hn⟩ := Bx.dec B h
  subst hn
  intro H locs ls hP hS hl
  exact lv_lload_n B.1 rfl hd hq (lv_at hl j (lvm hj)) (k H locs ls hP hS hl)
theorem z_lload {E : Ev} {own : String} {tb : Tb} {nL : Nat} {ret : Option FieldType} {pc nx : Nat} {lv : Lv} {st : List Value} {mm : Mem} {x : Int64} {q : Nat} (B : Bx E own tb nL ret) (i : Nat) (h : tb[i]? = some (pc, .lload q, 2, nx)) (j : Nat) (hj : lv[j]? = some (q, .long x)) (k : G E nL nx lv (.long x :: st) mm) : G E nL pc lv st mm := by
  obtain ⟨p, l, e, R, s, m, args, below, meth, c, Q, C, kc, ks, A, res, mo⟩ := E
  obtain ⟨hd, hn⟩ := Bx.dec B h
  subst hn
  intro H locs ls hP hS hl
  exact lv_lload B.1 rfl hd (lv_at hl j (lvm hj)) (k H locs ls hP hS hl)
theorem z_aload_n {E : Ev} {own : String} {tb : Tb} {nL : Nat} {ret : Option FieldType} {pc nx : Nat} {lv : Lv} {st : List Value} {mm : Mem} {x : Nat} {kk : Fin 4} (B : Bx E own tb nL ret) (i : Nat) (h : tb[i]? = some (pc, .aload_n kk, 1, nx)) (q j : Nat) (hq : (kk : Nat) = q) (hj : lv[j]? = some (q, .ref x)) (k : G E nL nx lv (.ref x :: st) mm) : G E nL pc lv st mm := by
  obtain ⟨p, l, e, R, s, m, args, below, meth, c, Q, C, kc, ks, A, res, mo⟩ := E
  obtain ⟨hd, hn⟩ := Bx.dec B h
  subst hn
  intro H locs ls hP hS hl
  exact lv_aload_n B.1 rfl hd hq (lv_at hl j (lvm hj)) (k H locs ls hP hS hl)
theorem z_aload {E : Ev} {own : String} {tb : Tb} {nL : Nat} {ret : Option FieldType} {pc nx : Nat} {lv : Lv} {st : List Value} {mm : Mem} {x : Nat} {q : Nat} (B : Bx E own tb nL ret) (i : Nat) (h : tb[i]? = some (pc, .aload q, 2, nx)) (j : Nat) (hj : lv[j]? = some (q, .ref x)) (k : G E nL nx lv (.ref x :: st) mm) : G E nL pc lv st mm := by
  obtain ⟨p, l, e, R, s, m, args, below, meth, c, Q, C, kc, ks, A, res, mo⟩ := E
  obtain ⟨hd, hn⟩ := Bx.dec B h
  subst hn
  intro H locs ls hP hS hl
  exact lv_aload B.1 rfl hd (lv_at hl j (lvm hj)) (k H locs ls hP hS hl)
theorem z_istore_n {E : Ev} {own : String} {tb : Tb} {nL : Nat} {ret : Option FieldType} {pc nx : Nat} {lv : Lv} {st : List Value} {mm : Mem} {x : Int32} {kk : Fin 4} (lv' : Lv) (B : Bx E own tb nL ret) (i : Nat) (h : tb[i]? = some (pc, .istore_n kk, 1, nx)) (q : Nat) (hq : (kk : Nat) = q) (hn : q < nL) (hl' : zs1 lv q (.int x) = lv') (k : G E nL nx lv' st mm) : G E nL pc lv (.int x :: st) mm := by
  subst hl'
  obtain ⟨p, l, e, R, s, m, args, below, meth, c, Q, C, kc, ks, A, res, mo⟩ := E
  obtain ⟨hd, hn⟩ := Bx.dec B h
  subst hn
  intro H locs ls hP hS hl
  exact lv_istore_n B.1 rfl hd hq hl hn (zs1_map C lv q (.int x)) (fun ls' hl' => k H locs ls' hP hS hl')
theorem z_istore {E : Ev} {own : String} {tb : Tb} {nL : Nat} {ret : Option FieldType} {pc nx : Nat} {lv : Lv} {st : List Value} {mm : Mem} {x : Int32} {q : Nat} (lv' : Lv) (B : Bx E own tb nL ret) (i : Nat) (h : tb[i]? = some (pc, .istore q, 2, nx)) (hn : q < nL) (hl' : zs1 lv q (.int x) = lv') (k : G E nL nx lv' st mm) : G E nL pc lv (.int x :: st) mm := by
  subst hl'
  obtain ⟨p, l, e, R, s, m, args, below, meth, c, Q, C, kc, ks, A, res, mo⟩ := E
  obtain ⟨hd, hn⟩ := Bx.dec B h
  subst hn
  intro H locs ls hP hS hl
  exact lv_istore B.1 rfl hd hl hn (zs1_map C lv q (.int x)) (fun ls' hl' => k H locs ls' hP hS hl')
theorem z_astore_n {E : Ev} {own : String} {tb : Tb} {nL : Nat} {ret : Option FieldType} {pc nx : Nat} {lv : Lv} {st : List Value} {mm : Mem} {x : Nat} {kk : Fin 4} (lv' : Lv) (B : Bx E own tb nL ret) (i : Nat) (h : tb[i]? = some (pc, .astore_n kk, 1, nx)) (q : Nat) (hq : (kk : Nat) = q) (hn : q < nL) (hl' : zs1 lv q (.ref x) = lv') (k : G E nL nx lv' st mm) : G E nL pc lv (.ref x :: st) mm := by
  subst hl'
  obtain ⟨p, l, e, R, s, m, args, below, meth, c, Q, C, kc, ks, A, res, mo⟩ := E
  obtain ⟨hd, hn⟩ := Bx.dec B h
  subst hn
  intro H locs ls hP hS hl
  exact lv_astore_n B.1 rfl hd hq hl hn (zs1_map C lv q (.ref x)) (fun ls' hl' => k H locs ls' hP hS hl')
theorem z_astore {E : Ev} {own : String} {tb : Tb} {nL : Nat} {ret : Option FieldType} {pc nx : Nat} {lv : Lv} {st : List Value} {mm : Mem} {x : Nat} {q : Nat} (lv' : Lv) (B : Bx E own tb nL ret) (i : Nat) (h : tb[i]? = some (pc, .astore q, 2, nx)) (hn : q < nL) (hl' : zs1 lv q (.ref x) = lv') (k : G E nL nx lv' st mm) : G E nL pc lv (.ref x :: st) mm := by
  subst hl'
  obtain ⟨p, l, e, R, s, m, args, below, meth, c, Q, C, kc, ks, A, res, mo⟩ := E
  obtain ⟨hd, hn⟩ := Bx.dec B h
  subst hn
  intro H locs ls hP hS hl
  exact lv_astore B.1 rfl hd hl hn (zs1_map C lv q (.ref x)) (fun ls' hl' => k H locs ls' hP hS hl')
theorem z_lstore_n {E : Ev} {own : String} {tb : Tb} {nL : Nat} {ret : Option FieldType} {pc nx : Nat} {lv : Lv} {st : List Value} {mm : Mem} {x : Int64} {kk : Fin 4} (lv' : Lv) (B : Bx E own tb nL ret) (i : Nat) (h : tb[i]? = some (pc, .lstore_n kk, 1, nx)) (q : Nat) (hq : (kk : Nat) = q) (hn : q + 1 < nL) (hl' : zs2 lv q (.long x) = lv') (k : G E nL nx lv' st mm) : G E nL pc lv (.long x :: st) mm := by
  subst hl'
  obtain ⟨p, l, e, R, s, m, args, below, meth, c, Q, C, kc, ks, A, res, mo⟩ := E
  obtain ⟨hd, hn⟩ := Bx.dec B h
  subst hn
  intro H locs ls hP hS hl
  exact lv_lstore_n B.1 rfl hd hq hl hn (zs2_map C lv q (.long x)) (fun ls' hl' => k H locs ls' hP hS hl')
theorem z_lstore {E : Ev} {own : String} {tb : Tb} {nL : Nat} {ret : Option FieldType} {pc nx : Nat} {lv : Lv} {st : List Value} {mm : Mem} {x : Int64} {q : Nat} (lv' : Lv) (B : Bx E own tb nL ret) (i : Nat) (h : tb[i]? = some (pc, .lstore q, 2, nx)) (hn : q + 1 < nL) (hl' : zs2 lv q (.long x) = lv') (k : G E nL nx lv' st mm) : G E nL pc lv (.long x :: st) mm := by
  subst hl'
  obtain ⟨p, l, e, R, s, m, args, below, meth, c, Q, C, kc, ks, A, res, mo⟩ := E
  obtain ⟨hd, hn⟩ := Bx.dec B h
  subst hn
  intro H locs ls hP hS hl
  exact lv_lstore B.1 rfl hd hl hn (zs2_map C lv q (.long x)) (fun ls' hl' => k H locs ls' hP hS hl')
theorem z_iinc {E : Ev} {own : String} {tb : Tb} {nL : Nat} {ret : Option FieldType} {pc nx : Nat} {lv : Lv} {st : List Value} {mm : Mem} {x : Int32} {q : Nat} {n : Int} (v : Int32) (lv' : Lv) (B : Bx E own tb nL ret) (i : Nat) (h : tb[i]? = some (pc, .iinc q n, 3, nx)) (j : Nat) (hj : lv[j]? = some (q, .int x)) (hv : x + Int32.ofInt n = v) (hn : q < nL) (hl' : zs1 lv q (.int v) = lv') (k : G E nL nx lv' st mm) : G E nL pc lv st mm := by
  subst hl'
  obtain ⟨p, l, e, R, s, m, args, below, meth, c, Q, C, kc, ks, A, res, mo⟩ := E
  obtain ⟨hd, hn⟩ := Bx.dec B h
  subst hn
  intro H locs ls hP hS hl
  exact lv_iinc B.1 rfl hd hl (lvm hj) hv hn (zs1_map C lv q (.int v)) (fun ls' hl' => k H locs ls' hP hS hl')
theorem z_dup {E : Ev} {own : String} {tb : Tb} {nL : Nat} {ret : Option FieldType} {pc nx : Nat} {lv : Lv} {st : List Value} {mm : Mem} {v : Value} (B : Bx E own tb nL ret) (i : Nat) (h : tb[i]? = some (pc, .dup, 1, nx)) (hv : v.category = 1) (k : G E nL nx lv (v :: v :: st) mm) : G E nL pc lv (v :: st) mm := by
  obtain ⟨p, l, e, R, s, m, args, below, meth, c, Q, C, kc, ks, A, res, mo⟩ := E
  obtain ⟨hd, hn⟩ := Bx.dec B h
  subst hn
  intro H locs ls hP hS hl
  exact lv_dup B.1 rfl hd ((cvv_cat C v).trans hv) (k H locs ls hP hS hl)
theorem z_pop {E : Ev} {own : String} {tb : Tb} {nL : Nat} {ret : Option FieldType} {pc nx : Nat} {lv : Lv} {st : List Value} {mm : Mem} {v : Value} (B : Bx E own tb nL ret) (i : Nat) (h : tb[i]? = some (pc, .pop, 1, nx)) (hv : v.category = 1) (k : G E nL nx lv st mm) : G E nL pc lv (v :: st) mm := by
  obtain ⟨p, l, e, R, s, m, args, below, meth, c, Q, C, kc, ks, A, res, mo⟩ := E
  obtain ⟨hd, hn⟩ := Bx.dec B h
  subst hn
  intro H locs ls hP hS hl
  exact lv_pop B.1 rfl hd ((cvv_cat C v).trans hv) (k H locs ls hP hS hl)
theorem z_dup2 {E : Ev} {own : String} {tb : Tb} {nL : Nat} {ret : Option FieldType} {pc nx : Nat} {lv : Lv} {st : List Value} {mm : Mem} {v w : Value} (B : Bx E own tb nL ret) (i : Nat) (h : tb[i]? = some (pc, .dup2, 1, nx)) (hv : v.category = 1) (hw : w.category = 1) (k : G E nL nx lv (v :: w :: v :: w :: st) mm) : G E nL pc lv (v :: w :: st) mm := by
  obtain ⟨p, l, e, R, s, m, args, below, meth, c, Q, C, kc, ks, A, res, mo⟩ := E
  obtain ⟨hd, hn⟩ := Bx.dec B h
  subst hn
  intro H locs ls hP hS hl
  exact lv_dup2_11 B.1 rfl hd ((cvv_cat C v).trans hv) ((cvv_cat C w).trans hw) (k H locs ls hP hS hl)
theorem z_goto {E : Ev} {own : String} {tb : Tb} {nL : Nat} {ret : Option FieldType} {pc nx : Nat} {lv : Lv} {st : List Value} {mm : Mem} {off : Int} (B : Bx E own tb nL ret) (i : Nat) (h : tb[i]? = some (pc, .goto off, 3, nx)) (tgt : Nat) (ht : (pc : Int) + off = (tgt : Int)) (k : G E nL tgt lv st mm) : G E nL pc lv st mm := by
  obtain ⟨p, l, e, R, s, m, args, below, meth, c, Q, C, kc, ks, A, res, mo⟩ := E
  obtain ⟨hd, hn⟩ := Bx.dec B h
  subst hn
  intro H locs ls hP hS hl
  exact lv_goto B.1 rfl hd ht (k H locs ls hP hS hl)
theorem z_if_eq_t {E : Ev} {own : String} {tb : Tb} {nL : Nat} {ret : Option FieldType} {pc nx : Nat} {lv : Lv} {st : List Value} {mm : Mem} {x : Int32} {off : Int} (B : Bx E own tb nL ret) (i : Nat) (h : tb[i]? = some (pc, .ifCond .eq off, 3, nx)) (tgt : Nat) (ht : (pc : Int) + off = (tgt : Int)) (hc : x = 0) (k : G E nL tgt lv st mm) : G E nL pc lv (.int x :: st) mm := by
  obtain ⟨p, l, e, R, s, m, args, below, meth, c, Q, C, kc, ks, A, res, mo⟩ := E
  obtain ⟨hd, hn⟩ := Bx.dec B h
  subst hn
  intro H locs ls hP hS hl
  exact lv_if_eq B.1 rfl hd ht (fun _ => k H locs ls hP hS hl) (fun q => absurd (hc) q)
theorem z_if_eq_f {E : Ev} {own : String} {tb : Tb} {nL : Nat} {ret : Option FieldType} {pc nx : Nat} {lv : Lv} {st : List Value} {mm : Mem} {x : Int32} {off : Int} (B : Bx E own tb nL ret) (i : Nat) (h : tb[i]? = some (pc, .ifCond .eq off, 3, nx)) (tgt : Nat) (ht : (pc : Int) + off = (tgt : Int)) (hc : ¬ x = 0) (k : G E nL nx lv st mm) : G E nL pc lv (.int x :: st) mm := by
  obtain ⟨p, l, e, R, s, m, args, below, meth, c, Q, C, kc, ks, A, res, mo⟩ := E
  obtain ⟨hd, hn⟩ := Bx.dec B h
  subst hn
  intro H locs ls hP hS hl
  exact lv_if_eq B.1 rfl hd ht (fun q => absurd q (hc)) (fun _ => k H locs ls hP hS hl)
theorem z_icmp_eq_t {E : Ev} {own : String} {tb : Tb} {nL : Nat} {ret : Option FieldType} {pc nx : Nat} {lv : Lv} {st : List Value} {mm : Mem} {x y : Int32} {off : Int} (B : Bx E own tb nL ret) (i : Nat) (h : tb[i]? = some (pc, .if_icmp .eq off, 3, nx)) (tgt : Nat) (ht : (pc : Int) + off = (tgt : Int)) (hc : x = y) (k : G E nL tgt lv st mm) : G E nL pc lv (.int y :: .int x :: st) mm := by
  obtain ⟨p, l, e, R, s, m, args, below, meth, c, Q, C, kc, ks, A, res, mo⟩ := E
  obtain ⟨hd, hn⟩ := Bx.dec B h
  subst hn
  intro H locs ls hP hS hl
  exact lv_icmp_eq B.1 rfl hd ht (fun _ => k H locs ls hP hS hl) (fun q => absurd (hc) q)
theorem z_icmp_eq_f {E : Ev} {own : String} {tb : Tb} {nL : Nat} {ret : Option FieldType} {pc nx : Nat} {lv : Lv} {st : List Value} {mm : Mem} {x y : Int32} {off : Int} (B : Bx E own tb nL ret) (i : Nat) (h : tb[i]? = some (pc, .if_icmp .eq off, 3, nx)) (tgt : Nat) (ht : (pc : Int) + off = (tgt : Int)) (hc : ¬ x = y) (k : G E nL nx lv st mm) : G E nL pc lv (.int y :: .int x :: st) mm := by
  obtain ⟨p, l, e, R, s, m, args, below, meth, c, Q, C, kc, ks, A, res, mo⟩ := E
  obtain ⟨hd, hn⟩ := Bx.dec B h
  subst hn
  intro H locs ls hP hS hl
  exact lv_icmp_eq B.1 rfl hd ht (fun q => absurd q (hc)) (fun _ => k H locs ls hP hS hl)
theorem z_if_ne_t {E : Ev} {own : String} {tb : Tb} {nL : Nat} {ret : Option FieldType} {pc nx : Nat} {lv : Lv} {st : List Value} {mm : Mem} {x : Int32} {off : Int} (B : Bx E own tb nL ret) (i : Nat) (h : tb[i]? = some (pc, .ifCond .ne off, 3, nx)) (tgt : Nat) (ht : (pc : Int) + off = (tgt : Int)) (hc : ¬ x = 0) (k : G E nL tgt lv st mm) : G E nL pc lv (.int x :: st) mm := by
  obtain ⟨p, l, e, R, s, m, args, below, meth, c, Q, C, kc, ks, A, res, mo⟩ := E
  obtain ⟨hd, hn⟩ := Bx.dec B h
  subst hn
  intro H locs ls hP hS hl
  exact lv_if_ne B.1 rfl hd ht (fun _ => k H locs ls hP hS hl) (fun q => absurd q hc)
theorem z_if_ne_f {E : Ev} {own : String} {tb : Tb} {nL : Nat} {ret : Option FieldType} {pc nx : Nat} {lv : Lv} {st : List Value} {mm : Mem} {x : Int32} {off : Int} (B : Bx E own tb nL ret) (i : Nat) (h : tb[i]? = some (pc, .ifCond .ne off, 3, nx)) (tgt : Nat) (ht : (pc : Int) + off = (tgt : Int)) (hc : x = 0) (k : G E nL nx lv st mm) : G E nL pc lv (.int x :: st) mm := by
  obtain ⟨p, l, e, R, s, m, args, below, meth, c, Q, C, kc, ks, A, res, mo⟩ := E
  obtain ⟨hd, hn⟩ := Bx.dec B h
  subst hn
  intro H locs ls hP hS hl
  exact lv_if_ne B.1 rfl hd ht (fun q => absurd q (fun z => z hc)) (fun _ => k H locs ls hP hS hl)
theorem z_icmp_ne_t {E : Ev} {own : String} {tb : Tb} {nL : Nat} {ret : Option FieldType} {pc nx : Nat} {lv : Lv} {st : List Value} {mm : Mem} {x y : Int32} {off : Int} (B : Bx E own tb nL ret) (i : Nat) (h : tb[i]? = some (pc, .if_icmp .ne off, 3, nx)) (tgt : Nat) (ht : (pc : Int) + off = (tgt : Int)) (hc : ¬ x = y) (k : G E nL tgt lv st mm) : G E nL pc lv (.int y :: .int x :: st) mm := by
  obtain ⟨p, l, e, R, s, m, args, below, meth, c, Q, C, kc, ks, A, res, mo⟩ := E
  obtain ⟨hd, hn⟩ := Bx.dec B h
  subst hn
  intro H locs ls hP hS hl
  exact lv_icmp_ne B.1 rfl hd ht (fun _ => k H locs ls hP hS hl) (fun q => absurd q hc)
theorem z_icmp_ne_f {E : Ev} {own : String} {tb : Tb} {nL : Nat} {ret : Option FieldType} {pc nx : Nat} {lv : Lv} {st : List Value} {mm : Mem} {x y : Int32} {off : Int} (B : Bx E own tb nL ret) (i : Nat) (h : tb[i]? = some (pc, .if_icmp .ne off, 3, nx)) (tgt : Nat) (ht : (pc : Int) + off = (tgt : Int)) (hc : x = y) (k : G E nL nx lv st mm) : G E nL pc lv (.int y :: .int x :: st) mm := by
  obtain ⟨p, l, e, R, s, m, args, below, meth, c, Q, C, kc, ks, A, res, mo⟩ := E
  obtain ⟨hd, hn⟩ := Bx.dec B h
  subst hn
  intro H locs ls hP hS hl
  exact lv_icmp_ne B.1 rfl hd ht (fun q => absurd q (fun z => z hc)) (fun _ => k H locs ls hP hS hl)
theorem z_if_lt_t {E : Ev} {own : String} {tb : Tb} {nL : Nat} {ret : Option FieldType} {pc nx : Nat} {lv : Lv} {st : List Value} {mm : Mem} {x : Int32} {off : Int} (B : Bx E own tb nL ret) (i : Nat) (h : tb[i]? = some (pc, .ifCond .lt off, 3, nx)) (tgt : Nat) (ht : (pc : Int) + off = (tgt : Int)) (hc : x < 0) (k : G E nL tgt lv st mm) : G E nL pc lv (.int x :: st) mm := by
  obtain ⟨p, l, e, R, s, m, args, below, meth, c, Q, C, kc, ks, A, res, mo⟩ := E
  obtain ⟨hd, hn⟩ := Bx.dec B h
  subst hn
  intro H locs ls hP hS hl
  exact lv_if_lt B.1 rfl hd ht (fun _ => k H locs ls hP hS hl) (fun q => absurd (hc) q)
theorem z_if_lt_f {E : Ev} {own : String} {tb : Tb} {nL : Nat} {ret : Option FieldType} {pc nx : Nat} {lv : Lv} {st : List Value} {mm : Mem} {x : Int32} {off : Int} (B : Bx E own tb nL ret) (i : Nat) (h : tb[i]? = some (pc, .ifCond .lt off, 3, nx)) (tgt : Nat) (ht : (pc : Int) + off = (tgt : Int)) (hc : ¬ x < 0) (k : G E nL nx lv st mm) : G E nL pc lv (.int x :: st) mm := by
  obtain ⟨p, l, e, R, s, m, args, below, meth, c, Q, C, kc, ks, A, res, mo⟩ := E
  obtain ⟨hd, hn⟩ := Bx.dec B h
  subst hn
  intro H locs ls hP hS hl
  exact lv_if_lt B.1 rfl hd ht (fun q => absurd q (hc)) (fun _ => k H locs ls hP hS hl)
theorem z_icmp_lt_t {E : Ev} {own : String} {tb : Tb} {nL : Nat} {ret : Option FieldType} {pc nx : Nat} {lv : Lv} {st : List Value} {mm : Mem} {x y : Int32} {off : Int} (B : Bx E own tb nL ret) (i : Nat) (h : tb[i]? = some (pc, .if_icmp .lt off, 3, nx)) (tgt : Nat) (ht : (pc : Int) + off = (tgt : Int)) (hc : x < y) (k : G E nL tgt lv st mm) : G E nL pc lv (.int y :: .int x :: st) mm := by
  obtain ⟨p, l, e, R, s, m, args, below, meth, c, Q, C, kc, ks, A, res, mo⟩ := E
  obtain ⟨hd, hn⟩ := Bx.dec B h
  subst hn
  intro H locs ls hP hS hl
  exact lv_icmp_lt B.1 rfl hd ht (fun _ => k H locs ls hP hS hl) (fun q => absurd (hc) q)
theorem z_icmp_lt_f {E : Ev} {own : String} {tb : Tb} {nL : Nat} {ret : Option FieldType} {pc nx : Nat} {lv : Lv} {st : List Value} {mm : Mem} {x y : Int32} {off : Int} (B : Bx E own tb nL ret) (i : Nat) (h : tb[i]? = some (pc, .if_icmp .lt off, 3, nx)) (tgt : Nat) (ht : (pc : Int) + off = (tgt : Int)) (hc : ¬ x < y) (k : G E nL nx lv st mm) : G E nL pc lv (.int y :: .int x :: st) mm := by
  obtain ⟨p, l, e, R, s, m, args, below, meth, c, Q, C, kc, ks, A, res, mo⟩ := E
  obtain ⟨hd, hn⟩ := Bx.dec B h
  subst hn
  intro H locs ls hP hS hl
  exact lv_icmp_lt B.1 rfl hd ht (fun q => absurd q (hc)) (fun _ => k H locs ls hP hS hl)
theorem z_if_ge_t {E : Ev} {own : String} {tb : Tb} {nL : Nat} {ret : Option FieldType} {pc nx : Nat} {lv : Lv} {st : List Value} {mm : Mem} {x : Int32} {off : Int} (B : Bx E own tb nL ret) (i : Nat) (h : tb[i]? = some (pc, .ifCond .ge off, 3, nx)) (tgt : Nat) (ht : (pc : Int) + off = (tgt : Int)) (hc : ¬ x < 0) (k : G E nL tgt lv st mm) : G E nL pc lv (.int x :: st) mm := by
  obtain ⟨p, l, e, R, s, m, args, below, meth, c, Q, C, kc, ks, A, res, mo⟩ := E
  obtain ⟨hd, hn⟩ := Bx.dec B h
  subst hn
  intro H locs ls hP hS hl
  exact lv_if_ge B.1 rfl hd ht (fun _ => k H locs ls hP hS hl) (fun q => absurd (i32_nlt hc) q)
theorem z_if_ge_f {E : Ev} {own : String} {tb : Tb} {nL : Nat} {ret : Option FieldType} {pc nx : Nat} {lv : Lv} {st : List Value} {mm : Mem} {x : Int32} {off : Int} (B : Bx E own tb nL ret) (i : Nat) (h : tb[i]? = some (pc, .ifCond .ge off, 3, nx)) (tgt : Nat) (ht : (pc : Int) + off = (tgt : Int)) (hc : x < 0) (k : G E nL nx lv st mm) : G E nL pc lv (.int x :: st) mm := by
  obtain ⟨p, l, e, R, s, m, args, below, meth, c, Q, C, kc, ks, A, res, mo⟩ := E
  obtain ⟨hd, hn⟩ := Bx.dec B h
  subst hn
  intro H locs ls hP hS hl
  exact lv_if_ge B.1 rfl hd ht (fun q => absurd q (fun z => absurd hc (i32_nlt2 z))) (fun _ => k H locs ls hP hS hl)
theorem z_icmp_ge_t {E : Ev} {own : String} {tb : Tb} {nL : Nat} {ret : Option FieldType} {pc nx : Nat} {lv : Lv} {st : List Value} {mm : Mem} {x y : Int32} {off : Int} (B : Bx E own tb nL ret) (i : Nat) (h : tb[i]? = some (pc, .if_icmp .ge off, 3, nx)) (tgt : Nat) (ht : (pc : Int) + off = (tgt : Int)) (hc : ¬ x < y) (k : G E nL tgt lv st mm) : G E nL pc lv (.int y :: .int x :: st) mm := by
  obtain ⟨p, l, e, R, s, m, args, below, meth, c, Q, C, kc, ks, A, res, mo⟩ := E
  obtain ⟨hd, hn⟩ := Bx.dec B h
  subst hn
  intro H locs ls hP hS hl
  exact lv_icmp_ge B.1 rfl hd ht (fun _ => k H locs ls hP hS hl) (fun q => absurd (i32_nlt hc) q)
theorem z_icmp_ge_f {E : Ev} {own : String} {tb : Tb} {nL : Nat} {ret : Option FieldType} {pc nx : Nat} {lv : Lv} {st : List Value} {mm : Mem} {x y : Int32} {off : Int} (B : Bx E own tb nL ret) (i : Nat) (h : tb[i]? = some (pc, .if_icmp .ge off, 3, nx)) (tgt : Nat) (ht : (pc : Int) + off = (tgt : Int)) (hc : x < y) (k : G E nL nx lv st mm) : G E nL pc lv (.int y :: .int x :: st) mm := by
  obtain ⟨p, l, e, R, s, m, args, below, meth, c, Q, C, kc, ks, A, res, mo⟩ := E
  obtain ⟨hd, hn⟩ := Bx.dec B h
  subst hn
  intro H locs ls hP hS hl
  exact lv_icmp_ge B.1 rfl hd ht (fun q => absurd q (fun z => absurd hc (i32_nlt2 z))) (fun _ => k H locs ls hP hS hl)
theorem z_if_gt_t {E : Ev} {own : String} {tb : Tb} {nL : Nat} {ret : Option FieldType} {pc nx : Nat} {lv : Lv} {st : List Value} {mm : Mem} {x : Int32} {off : Int} (B : Bx E own tb nL ret) (i : Nat) (h : tb[i]? = some (pc, .ifCond .gt off, 3, nx)) (tgt : Nat) (ht : (pc : Int) + off = (tgt : Int)) (hc : 0 < x) (k : G E nL tgt lv st mm) : G E nL pc lv (.int x :: st) mm := by
  obtain ⟨p, l, e, R, s, m, args, below, meth, c, Q, C, kc, ks, A, res, mo⟩ := E
  obtain ⟨hd, hn⟩ := Bx.dec B h
  subst hn
  intro H locs ls hP hS hl
  exact lv_if_gt B.1 rfl hd ht (fun _ => k H locs ls hP hS hl) (fun q => absurd (hc) q)
theorem z_if_gt_f {E : Ev} {own : String} {tb : Tb} {nL : Nat} {ret : Option FieldType} {pc nx : Nat} {lv : Lv} {st : List Value} {mm : Mem} {x : Int32} {off : Int} (B : Bx E own tb nL ret) (i : Nat) (h : tb[i]? = some (pc, .ifCond .gt off, 3, nx)) (tgt : Nat) (ht : (pc : Int) + off = (tgt : Int)) (hc : ¬ 0 < x) (k : G E nL nx lv st mm) : G E nL pc lv (.int x :: st) mm := by
  obtain ⟨p, l, e, R, s, m, args, below, meth, c, Q, C, kc, ks, A, res, mo⟩ := E
  obtain ⟨hd, hn⟩ := Bx.dec B h
  subst hn
  intro H locs ls hP hS hl
  exact lv_if_gt B.1 rfl hd ht (fun q => absurd q (hc)) (fun _ => k H locs ls hP hS hl)
theorem z_icmp_gt_t {E : Ev} {own : String} {tb : Tb} {nL : Nat} {ret : Option FieldType} {pc nx : Nat} {lv : Lv} {st : List Value} {mm : Mem} {x y : Int32} {off : Int} (B : Bx E own tb nL ret) (i : Nat) (h : tb[i]? = some (pc, .if_icmp .gt off, 3, nx)) (tgt : Nat) (ht : (pc : Int) + off = (tgt : Int)) (hc : y < x) (k : G E nL tgt lv st mm) : G E nL pc lv (.int y :: .int x :: st) mm := by
  obtain ⟨p, l, e, R, s, m, args, below, meth, c, Q, C, kc, ks, A, res, mo⟩ := E
  obtain ⟨hd, hn⟩ := Bx.dec B h
  subst hn
  intro H locs ls hP hS hl
  exact lv_icmp_gt B.1 rfl hd ht (fun _ => k H locs ls hP hS hl) (fun q => absurd (hc) q)
theorem z_icmp_gt_f {E : Ev} {own : String} {tb : Tb} {nL : Nat} {ret : Option FieldType} {pc nx : Nat} {lv : Lv} {st : List Value} {mm : Mem} {x y : Int32} {off : Int} (B : Bx E own tb nL ret) (i : Nat) (h : tb[i]? = some (pc, .if_icmp .gt off, 3, nx)) (tgt : Nat) (ht : (pc : Int) + off = (tgt : Int)) (hc : ¬ y < x) (k : G E nL nx lv st mm) : G E nL pc lv (.int y :: .int x :: st) mm := by
  obtain ⟨p, l, e, R, s, m, args, below, meth, c, Q, C, kc, ks, A, res, mo⟩ := E
  obtain ⟨hd, hn⟩ := Bx.dec B h
  subst hn
  intro H locs ls hP hS hl
  exact lv_icmp_gt B.1 rfl hd ht (fun q => absurd q (hc)) (fun _ => k H locs ls hP hS hl)
theorem z_if_le_t {E : Ev} {own : String} {tb : Tb} {nL : Nat} {ret : Option FieldType} {pc nx : Nat} {lv : Lv} {st : List Value} {mm : Mem} {x : Int32} {off : Int} (B : Bx E own tb nL ret) (i : Nat) (h : tb[i]? = some (pc, .ifCond .le off, 3, nx)) (tgt : Nat) (ht : (pc : Int) + off = (tgt : Int)) (hc : ¬ 0 < x) (k : G E nL tgt lv st mm) : G E nL pc lv (.int x :: st) mm := by
  obtain ⟨p, l, e, R, s, m, args, below, meth, c, Q, C, kc, ks, A, res, mo⟩ := E
  obtain ⟨hd, hn⟩ := Bx.dec B h
  subst hn
  intro H locs ls hP hS hl
  exact lv_if_le B.1 rfl hd ht (fun _ => k H locs ls hP hS hl) (fun q => absurd (i32_nlt hc) q)
theorem z_if_le_f {E : Ev} {own : String} {tb : Tb} {nL : Nat} {ret : Option FieldType} {pc nx : Nat} {lv : Lv} {st : List Value} {mm : Mem} {x : Int32} {off : Int} (B : Bx E own tb nL ret) (i : Nat) (h : tb[i]? = some (pc, .ifCond .le off, 3, nx)) (tgt : Nat) (ht : (pc : Int) + off = (tgt : Int)) (hc : 0 < x) (k : G E nL nx lv st mm) : G E nL pc lv (.int x :: st) mm := by
  obtain ⟨p, l, e, R, s, m, args, below, meth, c, Q, C, kc, ks, A, res, mo⟩ := E
  obtain ⟨hd, hn⟩ := Bx.dec B h
  subst hn
  intro H locs ls hP hS hl
  exact lv_if_le B.1 rfl hd ht (fun q => absurd q (fun z => absurd hc (i32_nlt2 z))) (fun _ => k H locs ls hP hS hl)
theorem z_icmp_le_t {E : Ev} {own : String} {tb : Tb} {nL : Nat} {ret : Option FieldType} {pc nx : Nat} {lv : Lv} {st : List Value} {mm : Mem} {x y : Int32} {off : Int} (B : Bx E own tb nL ret) (i : Nat) (h : tb[i]? = some (pc, .if_icmp .le off, 3, nx)) (tgt : Nat) (ht : (pc : Int) + off = (tgt : Int)) (hc : ¬ y < x) (k : G E nL tgt lv st mm) : G E nL pc lv (.int y :: .int x :: st) mm := by
  obtain ⟨p, l, e, R, s, m, args, below, meth, c, Q, C, kc, ks, A, res, mo⟩ := E
  obtain ⟨hd, hn⟩ := Bx.dec B h
  subst hn
  intro H locs ls hP hS hl
  exact lv_icmp_le B.1 rfl hd ht (fun _ => k H locs ls hP hS hl) (fun q => absurd (i32_nlt hc) q)
theorem z_icmp_le_f {E : Ev} {own : String} {tb : Tb} {nL : Nat} {ret : Option FieldType} {pc nx : Nat} {lv : Lv} {st : List Value} {mm : Mem} {x y : Int32} {off : Int} (B : Bx E own tb nL ret) (i : Nat) (h : tb[i]? = some (pc, .if_icmp .le off, 3, nx)) (tgt : Nat) (ht : (pc : Int) + off = (tgt : Int)) (hc : y < x) (k : G E nL nx lv st mm) : G E nL pc lv (.int y :: .int x :: st) mm := by
  obtain ⟨p, l, e, R, s, m, args, below, meth, c, Q, C, kc, ks, A, res, mo⟩ := E
  obtain ⟨hd, hn⟩ := Bx.dec B h
  subst hn
  intro H locs ls hP hS hl
  exact lv_icmp_le B.1 rfl hd ht (fun q => absurd q (fun z => absurd hc (i32_nlt2 z))) (fun _ => k H locs ls hP hS hl)
theorem z_ifnonnull {E : Ev} {own : String} {tb : Tb} {nL : Nat} {ret : Option FieldType} {pc nx : Nat} {lv : Lv} {st : List Value} {mm : Mem} {x : Nat} {off : Int} (B : Bx E own tb nL ret) (i : Nat) (h : tb[i]? = some (pc, .ifnonnull off, 3, nx)) (tgt : Nat) (ht : (pc : Int) + off = (tgt : Int)) (k : G E nL tgt lv st mm) : G E nL pc lv (.ref x :: st) mm := by
  obtain ⟨p, l, e, R, s, m, args, below, meth, c, Q, C, kc, ks, A, res, mo⟩ := E
  obtain ⟨hd, hn⟩ := Bx.dec B h
  subst hn
  intro H locs ls hP hS hl
  exact lv_ifnonnull B.1 rfl hd ht (k H locs ls hP hS hl)
theorem z_ifnull {E : Ev} {own : String} {tb : Tb} {nL : Nat} {ret : Option FieldType} {pc nx : Nat} {lv : Lv} {st : List Value} {mm : Mem} {x : Nat} {off : Int} (B : Bx E own tb nL ret) (i : Nat) (h : tb[i]? = some (pc, .ifnull off, 3, nx)) (k : G E nL nx lv st mm) : G E nL pc lv (.ref x :: st) mm := by
  obtain ⟨p, l, e, R, s, m, args, below, meth, c, Q, C, kc, ks, A, res, mo⟩ := E
  obtain ⟨hd, hn⟩ := Bx.dec B h
  subst hn
  intro H locs ls hP hS hl
  exact lv_ifnull B.1 rfl hd (k H locs ls hP hS hl)
theorem z_tswi {E : Ev} {own : String} {tb : Tb} {nL : Nat} {ret : Option FieldType} {pc nx : Nat} {lv : Lv} {st : List Value} {mm : Mem} {dflt lo hi : Int} {offs : Array Int} {len : Nat} {x : Int32} (B : Bx E own tb nL ret) (i : Nat) (h : tb[i]? = some (pc, .tableswitch dflt lo hi offs, len, nx)) (n : Int) (off : Int) (tgt : Nat) (hx : x.toInt = n) (h1 : lo ≤ n ∧ n ≤ hi) (ho : offs[(n - lo).toNat]? = some off) (ht : (pc : Int) + off = (tgt : Int)) (k : G E nL tgt lv st mm) : G E nL pc lv (.int x :: st) mm := by
  obtain ⟨p, l, e, R, s, m, args, below, meth, c, Q, C, kc, ks, A, res, mo⟩ := E
  obtain ⟨hd, hn⟩ := Bx.dec B h
  subst hn
  intro H locs ls hP hS hl
  subst hx
  exact lv_tableIn B.1 rfl hd (by omega) (by omega) ho ht (k H locs ls hP hS hl)
theorem z_tswo {E : Ev} {own : String} {tb : Tb} {nL : Nat} {ret : Option FieldType} {pc nx : Nat} {lv : Lv} {st : List Value} {mm : Mem} {dflt lo hi : Int} {offs : Array Int} {len : Nat} {x : Int32} (B : Bx E own tb nL ret) (i : Nat) (h : tb[i]? = some (pc, .tableswitch dflt lo hi offs, len, nx)) (tgt : Nat) (hx : x.toInt < lo ∨ hi < x.toInt) (ht : (pc : Int) + dflt = (tgt : Int)) (k : G E nL tgt lv st mm) : G E nL pc lv (.int x :: st) mm := by
  obtain ⟨p, l, e, R, s, m, args, below, meth, c, Q, C, kc, ks, A, res, mo⟩ := E
  obtain ⟨hd, hn⟩ := Bx.dec B h
  subst hn
  intro H locs ls hP hS hl
  exact lv_tableOut B.1 rfl hd hx ht (k H locs ls hP hS hl)
theorem z_geti {E : Ev} {own : String} {tb : Tb} {nL : Nat} {ret : Option FieldType} {pc nx : Nat} {lv : Lv} {st : List Value} {mm : Mem} {n : Nat} (ci kf q : Nat) (B : Bx E own tb nL ret) (i : Nat) (h : tb[i]? = some (pc, .getfield n, 3, nx)) (hq : Ob q ci) (hr : rfk ci kf q = none) {rn nm d : String} (hw : Cond.fieldLink own n rn nm d ∈ TW) (hf : zfl ci kf = some (rn, nm, d)) (k : G E nL nx lv (.int (mm q kf) :: st) mm) : G E nL pc lv (.ref q :: st) mm := by
  obtain ⟨p, l, e, R, s, m, args, below, meth, c, Q, C, kc, ks, A, res, mo⟩ := E
  obtain ⟨hd, hn⟩ := Bx.dec B h
  subst hn
  intro H locs ls hP hS hl
  exact zgetf B hP hq hd hw hf (v := .int (mm q kf)) (by unfold fvv; rw [hr]) (k H locs ls hP hS hl)
theorem z_getr {E : Ev} {own : String} {tb : Tb} {nL : Nat} {ret : Option FieldType} {pc nx : Nat} {lv : Lv} {st : List Value} {mm : Mem} {n : Nat} (ci kf q : Nat) {q2 : Nat} (B : Bx E own tb nL ret) (i : Nat) (h : tb[i]? = some (pc, .getfield n, 3, nx)) (hq : Ob q ci) (hr : rfk ci kf q = some q2) {rn nm d : String} (hw : Cond.fieldLink own n rn nm d ∈ TW) (hf : zfl ci kf = some (rn, nm, d)) (k : G E nL nx lv (.ref q2 :: st) mm) : G E nL pc lv (.ref q :: st) mm := by
  obtain ⟨p, l, e, R, s, m, args, below, meth, c, Q, C, kc, ks, A, res, mo⟩ := E
  obtain ⟨hd, hn⟩ := Bx.dec B h
  subst hn
  intro H locs ls hP hS hl
  exact zgetf B hP hq hd hw hf (v := .ref (C.1 q2)) (by unfold fvv; rw [hr]) (k H locs ls hP hS hl)
theorem z_puti {E : Ev} {own : String} {tb : Tb} {nL : Nat} {ret : Option FieldType} {pc nx : Nat} {lv : Lv} {st : List Value} {mm : Mem} {n : Nat} (ci kf q : Nat) {v : Int32} (B : Bx E own tb nL ret) (i : Nat) (h : tb[i]? = some (pc, .putfield n, 3, nx)) (hq : Ob q ci) (hr : rfk ci kf q = none) {rn nm d : String} (hw : Cond.fieldLink own n rn nm d ∈ TW) (hf : zfl ci kf = some (rn, nm, d)) {ty : FieldType} (hd0 : parseFieldDescriptor d = some ty) (hfin : zfin ci kf = false) (hv : narrow ty (.int v) = .int v) (hfit : fits ty (.int v) = true) (k : G E nL nx lv st (up2 mm q kf v)) : G E nL pc lv (.int v :: .ref q :: st) mm := by
  obtain ⟨p, l, e, R, s, m, args, below, meth, c, Q, C, kc, ks, A, res, mo⟩ := E
  obtain ⟨hd, hn⟩ := Bx.dec B h
  subst hn
  intro H locs ls hP hS hl
  exact zputf B hP hS hq hr hd hw hf hd0 hfin hv hfit (fun H1 locs1 hP1 hS1 => k H1 locs1 ls hP1 hS1 hl)
theorem z_iald {E : Ev} {own : String} {tb : Tb} {nL : Nat} {ret : Option FieldType} {pc nx : Nat} {lv : Lv} {st : List Value} {mm : Mem} {q : Nat} {x : Int32} (B : Bx E own tb nL ret) (i : Nat) (h : tb[i]? = some (pc, .iaload, 1, nx)) (hq : Ob q 8) (hx : inb x (ln q) = true) (k : G E nL nx lv (.int (mm q x.toNatClampNeg) :: st) mm) : G E nL pc lv (.int x :: .ref q :: st) mm := by
  obtain ⟨p, l, e, R, s, m, args, below, meth, c, Q, C, kc, ks, A, res, mo⟩ := E
  obtain ⟨hd, hn⟩ := Bx.dec B h
  subst hn
  intro H locs ls hP hS hl
  exact va_iald B.1 rfl B.K hP (q - 14) 0 (wl_arr hq) rfl (inb_in hx) hd (k H locs ls hP hS hl)
theorem z_iast {E : Ev} {own : String} {tb : Tb} {nL : Nat} {ret : Option FieldType} {pc nx : Nat} {lv : Lv} {st : List Value} {mm : Mem} {q : Nat} {x v : Int32} (B : Bx E own tb nL ret) (i : Nat) (h : tb[i]? = some (pc, .iastore, 1, nx)) (hq : Ob q 8) (hx : inb x (ln q) = true) (k : G E nL nx lv st (up2 mm q x.toNatClampNeg v)) : G E nL pc lv (.int v :: .int x :: .ref q :: st) mm := by
  obtain ⟨p, l, e, R, s, m, args, below, meth, c, Q, C, kc, ks, A, res, mo⟩ := E
  obtain ⟨hd, hn⟩ := Bx.dec B h
  subst hn
  intro H locs ls hP hS hl
  exact va_iast B.1 rfl B.K hP (wl_D B mm) hS (q - 14) 0 (wl_arr hq) rfl (inb_in hx) hd (fun H1 locs1 hP1 _ hS1 => k H1 locs1 ls (wl_setI hq _ _ ▸ hP1) hS1 hl)
theorem z_alen {E : Ev} {own : String} {tb : Tb} {nL : Nat} {ret : Option FieldType} {pc nx : Nat} {lv : Lv} {st : List Value} {mm : Mem} {q : Nat} (B : Bx E own tb nL ret) (i : Nat) (h : tb[i]? = some (pc, .arraylength, 1, nx)) (hq : Ob q 8) (k : G E nL nx lv (.int (nI (ln q)) :: st) mm) : G E nL pc lv (.ref q :: st) mm := by
  obtain ⟨p, l, e, R, s, m, args, below, meth, c, Q, C, kc, ks, A, res, mo⟩ := E
  obtain ⟨hd, hn⟩ := Bx.dec B h
  subst hn
  intro H locs ls hP hS hl
  exact va_alen B.1 rfl B.K hP (q - 14) 0 (wl_arr hq) (ty := .int) rfl rfl hd (k H locs ls hP hS hl)
theorem z_top {E : Ev} {nL pc : Nat} {lv : Lv} {st : List Value} {mm : Mem} {x y : Int32} (e : x = y) (k : G E nL pc lv (.int x :: st) mm) : G E nL pc lv (.int y :: st) mm := e ▸ k
theorem z_topl {E : Ev} {nL pc : Nat} {lv : Lv} {st : List Value} {mm : Mem} {x y : Int64} (e : x = y) (k : G E nL pc lv (.long x :: st) mm) : G E nL pc lv (.long y :: st) mm := e ▸ k
theorem z_mem {E : Ev} {nL pc : Nat} {lv : Lv} {st : List Value} {mm mm' : Mem} (e : mm = mm') (k : G E nL pc lv st mm) : G E nL pc lv st mm' := e ▸ k
theorem z_sub {E : Ev} {nL pc : Nat} {lv : Lv} {st : List Value} {mm : Mem} (lv' : Lv) (js : List Nat) (hj : js.filterMap (fun j => lv[j]?) = lv') (k : G E nL pc lv' st mm) : G E nL pc lv st mm := by
  obtain ⟨p, l, e, R, s, m, args, below, meth, c, Q, C, kc, ks, A, res, mo⟩ := E
  intro H locs ls hP hS hl
  exact k H locs ls hP hS (lv_sub hl js (lvs hj))
theorem z_callS {E : Ev} {own : String} {tb : Tb} {nL : Nat} {ret : Option FieldType} {pc nx : Nat} {lv : Lv} {st : List Value} {mm : Mem} {l : Launch} {C : Cfg} {R : Room} {y : MethodName} {bytes : ByteArray} {maxL n fr lo idx : Nat} {rt : Option FieldType} {r : Option Value} {mm2 : Mem} (as rest st2 : List Value) (X : Ec E l C R) (B : Bx E own tb nL ret) (i : Nat) (h : tb[i]? = some (pc, .invokestatic idx, 3, nx)) (hM : MI y bytes maxL rt n) (hw : Cond.methodLink own idx y ∈ TW ∧ Cond.static y ∈ TW) (hc : Ct l C y bytes maxL rt fr lo as mm r mm2) (hR : fr + 1 ≤ R.frames ∧ 8 + (maxL + 11) + lo ≤ R.locals) (hn : as.length = n) (hst : st = as.reverse ++ rest) (hW : (rest.map fun v => v.category).sum ≤ 8) (h2 : st2 = r.toList ++ rest) (k : G E nL nx lv st2 mm2) : G E nL pc lv st mm := by
  obtain ⟨p, l', e, R', s, m, args, below, meth, c, Q, C', kc, ks, A, res, mo⟩ := E
  obtain ⟨rfl, rfl, rfl⟩ := X
  obtain ⟨hd, hnx⟩ := Bx.dec B h
  obtain ⟨rfl, rfl⟩ := hnx
  subst hst
  subst h2
  intro H locs ls hP hS hl
  have hrl : (rest.map (cvv C')).map (fun v => v.category) = rest.map (fun v => v.category) := by rw [List.map_map]; congr 1; funext v; exact cvv_cat C' v
  have hk : ∀ (H1 : Heap) (locs1 : List Loc), va_P C'.2.1 zcls (wl C' mm2) H1 → va_S A s.heap H1 locs1 → W p l' e R' s m args below meth c H1 locs1 kc ks Q (F0 m (pc + 3) ls ((r.map (cvv C')).toList ++ rest.map (cvv C'))) := by
    intro H1 locs1 hP1 hS1
    have := k H1 locs1 ls hP1 hS1 hl
    rw [List.map_append] at this
    cases r <;> exact this
  refine zcall B hS (va_runS (As := as.map (cvv C')) (rest := rest.map (cvv C')) ⟨B.1, rfl, B.ml, B.hown, B.tw⟩ hc ⟨callB_of n B.tw (tw_good hM.1) rfl rfl rfl (B.tw _ hM.2.2.2) (B.tw _ hw.1) hM.2.2.1 hR, B.tw _ hw.2⟩ ⟨Wd_blind, Wd_call B hP hS as⟩ rfl (by rw [List.length_map]; exact hn) hl.1 (by rw [List.map_append, List.map_reverse]) (lv_room (by rw [hrl]; exact hW)) hd B.rm) hk
theorem z_callN {E : Ev} {own : String} {tb : Tb} {nL : Nat} {ret : Option FieldType} {pc nx : Nat} {lv : Lv} {st : List Value} {mm : Mem} {l : Launch} {C : Cfg} {R : Room} {y : MethodName} {bytes : ByteArray} {maxL n fr lo idx : Nat} {rt : Option FieldType} {r : Option Value} {mm2 : Mem} {host : String} (as rest st2 : List Value) (X : Ec E l C R) (B : Bx E own tb nL ret) (i : Nat) (h : tb[i]? = some (pc, .invokestatic idx, 3, nx)) (hM : MI y bytes maxL rt n) (hw : (own, idx, y, host) ∈ zns ∧ Cond.static y ∈ TW) (hc : Ct l C y bytes maxL rt fr lo as mm r mm2) (hR : fr + 1 ≤ R.frames ∧ 8 + (maxL + 11) + lo ≤ R.locals) (hn : as.length = n) (hst : st = as.reverse ++ rest) (hW : (rest.map fun v => v.category).sum ≤ 8) (h2 : st2 = r.toList ++ rest) (k : G E nL nx lv st2 mm2) : G E nL pc lv st mm := by
  obtain ⟨p, l', e, R', s, m, args, below, meth, c, Q, C', kc, ks, A, res, mo⟩ := E
  obtain ⟨rfl, rfl, rfl⟩ := X
  obtain ⟨hd, hnx⟩ := Bx.dec B h
  obtain ⟨rfl, rfl⟩ := hnx
  subst hst
  subst h2
  intro H locs ls hP hS hl
  have hrl : (rest.map (cvv C')).map (fun v => v.category) = rest.map (fun v => v.category) := by rw [List.map_map]; congr 1; funext v; exact cvv_cat C' v
  have hk : ∀ (H1 : Heap) (locs1 : List Loc), va_P C'.2.1 zcls (wl C' mm2) H1 → va_S A s.heap H1 locs1 → W p l' e R' s m args below meth c H1 locs1 kc ks Q (F0 m (pc + 3) ls ((r.map (cvv C')).toList ++ rest.map (cvv C'))) := by
    intro H1 locs1 hP1 hS1
    have := k H1 locs1 ls hP1 hS1 hl
    rw [List.map_append] at this
    cases r <;> exact this
  refine zcall B hS (va_runSN (As := as.map (cvv C')) (rest := rest.map (cvv C')) ⟨B.1, rfl, B.ml, B.hown, B.tw⟩ hc ⟨va_cnB n B.tw (tw_good hM.1) rfl rfl rfl (B.sx.1 _ hw.1) (B.tw _ hM.2.2.2) hM.2.2.1 hR, B.tw _ hw.2, trivial⟩ ⟨Wd_blind, Wd_call B hP hS as⟩ rfl (by rw [List.length_map]; exact hn) hl.1 (by rw [List.map_append, List.map_reverse]) (lv_room (by rw [hrl]; exact hW)) hd B.rm) hk
theorem z_callV {E : Ev} {own : String} {tb : Tb} {nL : Nat} {ret : Option FieldType} {pc nx : Nat} {lv : Lv} {st : List Value} {mm : Mem} {l : Launch} {C : Cfg} {R : Room} {y : MethodName} {bytes : ByteArray} {maxL n fr lo idx : Nat} {rt : Option FieldType} {r : Option Value} {mm2 : Mem} {x : vw_C} (q ci : Nat) (as rest st2 : List Value) (X : Ec E l C R) (B : Bx E own tb nL ret) (i : Nat) (h : tb[i]? = some (pc, .invokevirtual idx, 3, nx)) (hc8 : ci < 8) (hq : Ob q ci) (hx : zcls[ci]? = some x) (hxc : x.1 = y.cls) (hM : MI y bytes maxL rt n) (hw : Cond.methodLink own idx y ∈ TW ∧ Cond.instanceMethod y ∈ TW ∧ Cond.selects y.cls y y ∈ TW) (hc : Ct l C y bytes maxL rt fr lo (.ref q :: as) mm r mm2) (hR : fr + 1 ≤ R.frames ∧ 8 + (maxL + 11) + lo ≤ R.locals) (hn : as.length = n) (hst : st = as.reverse ++ .ref q :: rest) (hW : (rest.map fun v => v.category).sum ≤ 8) (h2 : st2 = r.toList ++ rest) (k : G E nL nx lv st2 mm2) : G E nL pc lv st mm := by
  obtain ⟨p, l', e, R', s, m, args, below, meth, c, Q, C', kc, ks, A, res, mo⟩ := E
  obtain ⟨rfl, rfl, rfl⟩ := X
  obtain ⟨hd, hnx⟩ := Bx.dec B h
  obtain ⟨rfl, rfl⟩ := hnx
  subst hst
  subst h2
  intro H locs ls hP hS hl
  have hrl : (rest.map (cvv C')).map (fun v => v.category) = rest.map (fun v => v.category) := by rw [List.map_map]; congr 1; funext v; exact cvv_cat C' v
  have hk : ∀ (H1 : Heap) (locs1 : List Loc), va_P C'.2.1 zcls (wl C' mm2) H1 → va_S A s.heap H1 locs1 → W p l' e R' s m args below meth c H1 locs1 kc ks Q (F0 m (pc + 3) ls ((r.map (cvv C')).toList ++ rest.map (cvv C'))) := by
    intro H1 locs1 hP1 hS1
    have := k H1 locs1 ls hP1 hS1 hl
    rw [List.map_append] at this
    cases r <;> exact this
  have hrec : ∃ cell : Cell, H[C'.1 q]? = some cell ∧ cell.vm.isStatics = false ∧ s.vm.findClass y.cls = some cell.cls := by
    rw [← hxc]
    exact va_recv B.K hP hx (by rw [wl_get (ob_lo hq (Nat.lt_succ_of_lt hc8)) hq.1, cel_obj hq.2 hc8])
  refine zcall B hS (va_runV (C := y.cls) (b := C'.1 q) (As := as.map (cvv C')) (rest := rest.map (cvv C')) ⟨B.1, rfl, B.ml, B.hown, B.tw⟩ hc ⟨callB_of n B.tw (tw_good hM.1) rfl rfl rfl (B.tw _ hM.2.2.2) (B.tw _ hw.1) hM.2.2.1 hR, B.tw _ hw.2.1, B.tw _ hw.2.2⟩ ⟨Wd_blind, hrec, Wd_call B hP hS (.ref q :: as)⟩ rfl (by rw [List.length_map]; exact hn) hl.1 (by rw [List.map_append, List.map_reverse]; rfl) (lv_room (by rw [hrl]; exact hW)) hd B.rm) hk
theorem z_mmax {E : Ev} {own : String} {tb : Tb} {nL : Nat} {ret : Option FieldType} {pc nx : Nat} {lv : Lv} {st : List Value} {mm : Mem} {l : Launch} {C : Cfg} {R : Room} {x y : Int32} {idx : Nat} (X : Ec E l C R) (B : Bx E own tb nL ret) (i : Nat) (h : tb[i]? = some (pc, .invokestatic idx, 3, nx)) (hw : Cond.methodLink own idx Lib.Math.max.name ∈ TW ∧ Cond.static Lib.Math.max.name ∈ TW ∧ Cond.initialized "java/lang/Math" ∈ TW ∧ Cond.code Lib.Math.max.name Lib.Math.max.code 2 (some .int) ∈ TW) (hR : 1 ≤ R.frames ∧ 21 ≤ R.locals) (hW : (st.map fun v => v.category).sum ≤ 8) (k : G E nL nx lv (.int (if x < y then y else x) :: st) mm) : G E nL pc lv (.int y :: .int x :: st) mm := by
  obtain ⟨p, l', e, R', s, m, args, below, meth, c, Q, C', kc, ks, A, res, mo⟩ := E
  obtain ⟨rfl, rfl, rfl⟩ := X
  obtain ⟨hd, hnx⟩ := Bx.dec B h
  obtain ⟨rfl, rfl⟩ := hnx
  intro H locs ls hP hS hl
  have hrl : (st.map (cvv C')).map (fun v => v.category) = st.map (fun v => v.category) := by rw [List.map_map]; congr 1; funext v; exact cvv_cat C' v
  exact va_mmax B.1 rfl (by rw [B.ml]; exact hl.1.symm) B.hown (B.tw _ hw.1) (B.tw _ hw.2.1) (B.tw _ hw.2.2.1) (B.tw _ hw.2.2.2) hR.1 (by rw [hrl]; omega) B.rm.1 B.rm.2 hd (k H locs ls hP hS hl)
theorem z_mmin {E : Ev} {own : String} {tb : Tb} {nL : Nat} {ret : Option FieldType} {pc nx : Nat} {lv : Lv} {st : List Value} {mm : Mem} {l : Launch} {C : Cfg} {R : Room} {x y : Int32} {idx : Nat} (X : Ec E l C R) (B : Bx E own tb nL ret) (i : Nat) (h : tb[i]? = some (pc, .invokestatic idx, 3, nx)) (hw : Cond.methodLink own idx Lib.Math.min.name ∈ TW ∧ Cond.static Lib.Math.min.name ∈ TW ∧ Cond.initialized "java/lang/Math" ∈ TW ∧ Cond.code Lib.Math.min.name Lib.Math.min.code 2 (some .int) ∈ TW) (hR : 1 ≤ R.frames ∧ 21 ≤ R.locals) (hW : (st.map fun v => v.category).sum ≤ 8) (k : G E nL nx lv (.int (if y < x then y else x) :: st) mm) : G E nL pc lv (.int y :: .int x :: st) mm := by
  obtain ⟨p, l', e, R', s, m, args, below, meth, c, Q, C', kc, ks, A, res, mo⟩ := E
  obtain ⟨rfl, rfl, rfl⟩ := X
  obtain ⟨hd, hnx⟩ := Bx.dec B h
  obtain ⟨rfl, rfl⟩ := hnx
  intro H locs ls hP hS hl
  have hrl : (st.map (cvv C')).map (fun v => v.category) = st.map (fun v => v.category) := by rw [List.map_map]; congr 1; funext v; exact cvv_cat C' v
  exact va_mmin B.1 rfl (by rw [B.ml]; exact hl.1.symm) B.hown (B.tw _ hw.1) (B.tw _ hw.2.1) (B.tw _ hw.2.2.1) (B.tw _ hw.2.2.2) hR.1 (by rw [hrl]; omega) B.rm.1 B.rm.2 hd (k H locs ls hP hS hl)
