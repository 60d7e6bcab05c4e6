/-! rows of the law's own body: one more local is known, the script's reference -/
def GL : Ev2 → Nat → Nat → Nat → Lv → List Value → Mem → AS → DM → Prop
  | (p, l, e, R, s, m, args, below, meth, c, Q, K, A0, _, _, fA, _), b, nL, pc, lv, st, mm, A, dm => ∀ (H : Heap) (locs : List Loc) (ls : Array Slot), inv2 A0 A fA → va_P K.2.2.1 zcls (w2 K mm A dm) H → va_S (Ax K) s.heap H locs → lv_has ls nL ((0, .ref b) :: lv.map (fun q => (q.1, cvv (kc K) q.2))) → W p l e R s m args below meth c H locs (A.1 - A0.1) (A.2.1 - A0.2.1) Q (F0 m pc ls (st.map (cvv (kc K))))
theorem lvmL {C : Cfg} {lv : Lv} {j q b : Nat} {v : Value} (h : lv[j]? = some (q, v)) : ((0, Value.ref b) :: lv.map (fun q => (q.1, cvv C q.2)))[j + 1]? = some (q, cvv C v) := lvm h
theorem zs1_mapL (C : Cfg) (b : Nat) (lv : Lv) (i : Nat) (v : Value) (hi : 0 < i) : (i, cvv C v) :: ((0, Value.ref b) :: lv.map (fun q => (q.1, cvv C q.2))).filter (fun q => !(q.1 == i) && !(q.1 + 1 == i && q.2.category == 2)) = (i, cvv C v) :: (0, Value.ref b) :: (lv.map (fun q => (q.1, cvv C q.2))).filter (fun q => !(q.1 == i) && !(q.1 + 1 == i && q.2.category == 2)) := by
  have h0 : ((0 : Nat) == i) = false := by simp; omega
  have h1 : (!((0 : Nat) == i) && !((0 : Nat) + 1 == i && (Value.ref b).category == 2)) = true := by
    rw [h0]
    show (true && !(_ && false)) = true
    rw [Bool.and_false]
    rfl
  exact congrArg (List.cons _) (List.filter_cons_of_pos h1)
theorem lv_swL {C : Cfg} {b nL i : Nat} {lv : Lv} {v : Value} {ls : Array Slot} (h : lv_has ls nL ((i, cvv C v) :: (0, Value.ref b) :: (lv.map (fun q => (q.1, cvv C q.2))).filter (fun q => !(q.1 == i) && !(q.1 + 1 == i && q.2.category == 2)))) : lv_has ls nL ((0, Value.ref b) :: (zs1 lv i v).map (fun q => (q.1, cvv C q.2))) := by
  rw [← zs1_map C lv i v]
  refine ⟨h.1, h.2.1, fun q hq => h.2.2 q ?_⟩
  rcases List.mem_cons.mp hq with e | e
  · rw [e]; exact List.mem_cons_of_mem _ List.mem_cons_self
  · rcases List.mem_cons.mp e with e | e
    · rw [e]; exact List.mem_cons_self
    · exact List.mem_cons_of_mem _ (List.mem_cons_of_mem _ e)
theorem v_iadd {E : Ev2} {b9 : Nat} {own : String} {tb : Tb} {nL : Nat} {ret : Option FieldType} {pc nx : Nat} {lv : Lv} {st : List Value} {mm : Mem} {A : AS} {dm : DM} {x y : Int32} (B : Bx2 E own tb nL ret) (i : Nat) (h : tb[i]? = some (pc, .iadd, 1, nx)) (k : GL E b9 nL nx lv (.int (x + y) :: st) mm A dm) : GL E b9 nL pc lv (.int y :: .int x :: st) mm A dm := by
  obtain ⟨p, l, e, R, s, m, args, below, meth, c, Q, K, A0, res, mo, fA, fd⟩ := E
  obtain ⟨hd, hn⟩ := Bx2.dec B h
  subst hn
  intro H locs ls hg hP hS hl
  exact lv_iadd B.1 rfl hd (k H locs ls hg hP hS hl)
theorem v_isub {E : Ev2} {b9 : Nat} {own : String} {tb : Tb} {nL : Nat} {ret : Option FieldType} {pc nx : Nat} {lv : Lv} {st : List Value} {mm : Mem} {A : AS} {dm : DM} {x y : Int32} (B : Bx2 E own tb nL ret) (i : Nat) (h : tb[i]? = some (pc, .isub, 1, nx)) (k : GL E b9 nL nx lv (.int (x - y) :: st) mm A dm) : GL E b9 nL pc lv (.int y :: .int x :: st) mm A dm := by
  obtain ⟨p, l, e, R, s, m, args, below, meth, c, Q, K, A0, res, mo, fA, fd⟩ := E
  obtain ⟨hd, hn⟩ := Bx2.dec B h
  subst hn
  intro H locs ls hg hP hS hl
  exact lv_isub B.1 rfl hd (k H locs ls hg hP hS hl)
theorem v_imul {E : Ev2} {b9 : Nat} {own : String} {tb : Tb} {nL : Nat} {ret : Option FieldType} {pc nx : Nat} {lv : Lv} {st : List Value} {mm : Mem} {A : AS} {dm : DM} {x y : Int32} (B : Bx2 E own tb nL ret) (i : Nat) (h : tb[i]? = some (pc, .imul, 1, nx)) (k : GL E b9 nL nx lv (.int (x * y) :: st) mm A dm) : GL E b9 nL pc lv (.int y :: .int x :: st) mm A dm := by
  obtain ⟨p, l, e, R, s, m, args, below, meth, c, Q, K, A0, res, mo, fA, fd⟩ := E
  obtain ⟨hd, hn⟩ := Bx2.dec B h
  subst hn
  intro H locs ls hg hP hS hl
  exact lv_imul B.1 rfl hd (k H locs ls hg hP hS hl)
theorem v_lcmp {E : Ev2} {b9 : Nat} {own : String} {tb : Tb} {nL : Nat} {ret : Option FieldType} {pc nx : Nat} {lv : Lv} {st : List Value} {mm : Mem} {A : AS} {dm : DM} {x y : Int64} (B : Bx2 E own tb nL ret) (i : Nat) (h : tb[i]? = some (pc, .lcmp, 1, nx)) (k : GL E b9 nL nx lv (.int (lg_cmp x y) :: st) mm A dm) : GL E b9 nL pc lv (.long y :: .long x :: st) mm A dm := by
  obtain ⟨p, l, e, R, s, m, args, below, meth, c, Q, K, A0, res, mo, fA, fd⟩ := E
  obtain ⟨hd, hn⟩ := Bx2.dec B h
  subst hn
  intro H locs ls hg hP hS hl
  exact W.lcmp B.1 rfl hd (k H locs ls hg hP hS hl)
theorem v_iconst {E : Ev2} {b9 : Nat} {own : String} {tb : Tb} {nL : Nat} {ret : Option FieldType} {pc nx : Nat} {lv : Lv} {st : List Value} {mm : Mem} {A : AS} {dm : DM} {n : Int} (v : Int32) (B : Bx2 E own tb nL ret) (i : Nat) (h : tb[i]? = some (pc, .iconst n, 1, nx)) (hv : Int32.ofInt n = v) (k : GL E b9 nL nx lv (.int v :: st) mm A dm) : GL E b9 nL pc lv st mm A dm := by
  obtain ⟨p, l, e, R, s, m, args, below, meth, c, Q, K, A0, res, mo, fA, fd⟩ := E
  obtain ⟨hd, hn⟩ := Bx2.dec B h
  subst hn
  intro H locs ls hg hP hS hl
  exact lv_iconst B.1 rfl hd hv (k H locs ls hg hP hS hl)
theorem v_bipush {E : Ev2} {b9 : Nat} {own : String} {tb : Tb} {nL : Nat} {ret : Option FieldType} {pc nx : Nat} {lv : Lv} {st : List Value} {mm : Mem} {A : AS} {dm : DM} {n : Int} (v : Int32) (B : Bx2 E own tb nL ret) (i : Nat) (h : tb[i]? = some (pc, .bipush n, 2, nx)) (hv : (Int8.ofInt n).toInt32 = v) (k : GL E b9 nL nx lv (.int v :: st) mm A dm) : GL E b9 nL pc lv st mm A dm := by
  obtain ⟨p, l, e, R, s, m, args, below, meth, c, Q, K, A0, res, mo, fA, fd⟩ := E
  obtain ⟨hd, hn⟩ := Bx2.dec B h
  subst hn
  intro H locs ls hg hP hS hl
  exact lv_bipush B.1 rfl hd hv (k H locs ls hg hP hS hl)
theorem v_sipush {E : Ev2} {b9 : Nat} {own : String} {tb : Tb} {nL : Nat} {ret : Option FieldType} {pc nx : Nat} {lv : Lv} {st : List Value} {mm : Mem} {A : AS} {dm : DM} {n : Int} (v : Int32) (B : Bx2 E own tb nL ret) (i : Nat) (h : tb[i]? = some (pc, .sipush n, 3, nx)) (hv : (Int16.ofInt n).toInt32 = v) (k : GL E b9 nL nx lv (.int v :: st) mm A dm) : GL E b9 nL pc lv st mm A dm := by
  obtain ⟨p, l, e, R, s, m, args, below, meth, c, Q, K, A0, res, mo, fA, fd⟩ := E
  obtain ⟨hd, hn⟩ := Bx2.dec B h
  subst hn
  intro H locs ls hg hP hS hl
  exact lv_sipush B.1 rfl hd hv (k H locs ls hg hP hS hl)
theorem v_lconst {E : Ev2} {b9 : Nat} {own : String} {tb : Tb} {nL : Nat} {ret : Option FieldType} {pc nx : Nat} {lv : Lv} {st : List Value} {mm : Mem} {A : AS} {dm : DM} {n : Fin 2} (v : Int64) (B : Bx2 E own tb nL ret) (i : Nat) (h : tb[i]? = some (pc, .lconst n, 1, nx)) (hv : Int64.ofNat (n : Nat) = v) (k : GL E b9 nL nx lv (.long v :: st) mm A dm) : GL E b9 nL pc lv st mm A dm := by
  obtain ⟨p, l, e, R, s, m, args, below, meth, c, Q, K, A0, res, mo, fA, fd⟩ := E
  obtain ⟨hd, hn⟩ := Bx2.dec B h
  subst hn
  intro H locs ls hg hP hS hl
  exact lv_lconst B.1 rfl hd hv (k H locs ls hg hP hS hl)
theorem v_iload_n {E : Ev2} {b9 : Nat} {own : String} {tb : Tb} {nL : Nat} {ret : Option FieldType} {pc nx : Nat} {lv : Lv} {st : List Value} {mm : Mem} {A : AS} {dm : DM} {x : Int32} {kk : Fin 4} (B : Bx2 E own tb nL ret) (i : Nat) (h : tb[i]? = some (pc, .iload_n kk, 1, nx)) (q j : Nat) (hq : (kk : Nat) = q) (hj : lv[j]? = some (q, .int x)) (k : GL E b9 nL nx lv (.int x :: st) mm A dm) : GL E b9 nL pc lv st mm A dm := by
  obtain ⟨p, l, e, R, s, m, args, below, meth, c, Q, K, A0, res, mo, fA, fd⟩ := E
  obtain ⟨hd, hn⟩ := Bx2.dec B h
  subst hn
  intro H locs ls hg hP hS hl
  exact lv_iload_n B.1 rfl hd hq (lv_at hl (j + 1) (lvmL hj)) (k H locs ls hg hP hS hl)
theorem v_iload {E : Ev2} {b9 : Nat} {own : String} {tb : Tb} {nL : Nat} {ret : Option FieldType} {pc nx : Nat} {lv : Lv} {st : List Value} {mm : Mem} {A : AS} {dm : DM} {x : Int32} {q : Nat} (B : Bx2 E own tb nL ret) (i : Nat) (h : tb[i]? = some (pc, .iload q, 2, nx)) (j : Nat) (hj : lv[j]? = some (q, .int x)) (k : GL E b9 nL nx lv (.int x :: st) mm A dm) : GL E b9 nL pc lv st mm A dm := by
  obtain ⟨p, l, e, R, s, m, args, below, meth, c, Q, K, A0, res, mo, fA, fd⟩ := E
  obtain ⟨hd, hn⟩ := Bx2.dec B h
  subst hn
  intro H locs ls hg hP hS hl
  exact lv_iload B.1 rfl hd (lv_at hl (j + 1) (lvmL hj)) (k H locs ls hg hP hS hl)
theorem v_aload_n {E : Ev2} {b9 : Nat} {own : String} {tb : Tb} {nL : Nat} {ret : Option FieldType} {pc nx : Nat} {lv : Lv} {st : List Value} {mm : Mem} {A : AS} {dm : DM} {x : Nat} {kk : Fin 4} (B : Bx2 E own tb nL ret) (i : Nat) (h : tb[i]? = some (pc, .aload_n kk, 1, nx)) (q j : Nat) (hq : (kk : Nat) = q) (hj : lv[j]? = some (q, .ref x)) (k : GL E b9 nL nx lv (.ref x :: st) mm A dm) : GL E b9 nL pc lv st mm A dm := by
  obtain ⟨p, l, e, R, s, m, args, below, meth, c, Q, K, A0, res, mo, fA, fd⟩ := E
  obtain ⟨hd, hn⟩ := Bx2.dec B h
  subst hn
  intro H locs ls hg hP hS hl
  exact lv_aload_n B.1 rfl hd hq (lv_at hl (j + 1) (lvmL hj)) (k H locs ls hg hP hS hl)
theorem v_aload {E : Ev2} {b9 : Nat} {own : String} {tb : Tb} {nL : Nat} {ret : Option FieldType} {pc nx : Nat} {lv : Lv} {st : List Value} {mm : Mem} {A : AS} {dm : DM} {x : Nat} {q : Nat} (B : Bx2 E own tb nL ret) (i : Nat) (h : tb[i]? = some (pc, .aload q, 2, nx)) (j : Nat) (hj : lv[j]? = some (q, .ref x)) (k : GL E b9 nL nx lv (.ref x :: st) mm A dm) : GL E b9 nL pc lv st mm A dm := by
  obtain ⟨p, l, e, R, s, m, args, below, meth, c, Q, K, A0, res, mo, fA, fd⟩ := E
  obtain ⟨hd, hn⟩ := Bx2.dec B h
  subst hn
  intro H locs ls hg hP hS hl
  exact lv_aload B.1 rfl hd (lv_at hl (j + 1) (lvmL hj)) (k H locs ls hg hP hS hl)
theorem v_istore_n {E : Ev2} {b9 : Nat} {own : String} {tb : Tb} {nL : Nat} {ret : Option FieldType} {pc nx : Nat} {lv : Lv} {st : List Value} {mm : Mem} {A : AS} {dm : DM} {x : Int32} {kk : Fin 4} (lv' : Lv) (B : Bx2 E own tb nL ret) (i : Nat) (h : tb[i]? = some (pc, .istore_n kk, 1, nx)) (q : Nat) (hq : (kk : Nat) = q) (hn : 0 < q ∧ q < nL) (hl' : zs1 lv q (.int x) = lv') (k : GL E b9 nL nx lv' st mm A dm) : GL E b9 nL pc lv (.int x :: st) mm A dm := by
  subst hl'
  obtain ⟨p, l, e, R, s, m, args, below, meth, c, Q, K, A0, res, mo, fA, fd⟩ := E
  obtain ⟨hd, hn⟩ := Bx2.dec B h
  subst hn
  intro H locs ls hg hP hS hl
  exact lv_istore_n B.1 rfl hd hq hl hn.2 (zs1_mapL (kc K) b9 lv q (.int x) hn.1) (fun ls' hl' => k H locs ls' hg hP hS (lv_swL hl'))
theorem v_istore {E : Ev2} {b9 : Nat} {own : String} {tb : Tb} {nL : Nat} {ret : Option FieldType} {pc nx : Nat} {lv : Lv} {st : List Value} {mm : Mem} {A : AS} {dm : DM} {x : Int32} {q : Nat} (lv' : Lv) (B : Bx2 E own tb nL ret) (i : Nat) (h : tb[i]? = some (pc, .istore q, 2, nx)) (hn : 0 < q ∧ q < nL) (hl' : zs1 lv q (.int x) = lv') (k : GL E b9 nL nx lv' st mm A dm) : GL E b9 nL pc lv (.int x :: st) mm A dm := by
  subst hl'
  obtain ⟨p, l, e, R, s, m, args, below, meth, c, Q, K, A0, res, mo, fA, fd⟩ := E
  obtain ⟨hd, hn⟩ := Bx2.dec B h
  subst hn
  intro H locs ls hg hP hS hl
  exact lv_istore B.1 rfl hd hl hn.2 (zs1_mapL (kc K) b9 lv q (.int x) hn.1) (fun ls' hl' => k H locs ls' hg hP hS (lv_swL hl'))
theorem v_astore_n {E : Ev2} {b9 : Nat} {own : String} {tb : Tb} {nL : Nat} {ret : Option FieldType} {pc nx : Nat} {lv : Lv} {st : List Value} {mm : Mem} {A : AS} {dm : DM} {x : Nat} {kk : Fin 4} (lv' : Lv) (B : Bx2 E own tb nL ret) (i : Nat) (h : tb[i]? = some (pc, .astore_n kk, 1, nx)) (q : Nat) (hq : (kk : Nat) = q) (hn : 0 < q ∧ q < nL) (hl' : zs1 lv q (.ref x) = lv') (k : GL E b9 nL nx lv' st mm A dm) : GL E b9 nL pc lv (.ref x :: st) mm A dm := by
  subst hl'
  obtain ⟨p, l, e, R, s, m, args, below, meth, c, Q, K, A0, res, mo, fA, fd⟩ := E
  obtain ⟨hd, hn⟩ := Bx2.dec B h
  subst hn
  intro H locs ls hg hP hS hl
  exact lv_astore_n B.1 rfl hd hq hl hn.2 (zs1_mapL (kc K) b9 lv q (.ref x) hn.1) (fun ls' hl' => k H locs ls' hg hP hS (lv_swL hl'))
theorem v_astore {E : Ev2} {b9 : Nat} {own : String} {tb : Tb} {nL : Nat} {ret : Option FieldType} {pc nx : Nat} {lv : Lv} {st : List Value} {mm : Mem} {A : AS} {dm : DM} {x : Nat} {q : Nat} (lv' : Lv) (B : Bx2 E own tb nL ret) (i : Nat) (h : tb[i]? = some (pc, .astore q, 2, nx)) (hn : 0 < q ∧ q < nL) (hl' : zs1 lv q (.ref x) = lv') (k : GL E b9 nL nx lv' st mm A dm) : GL E b9 nL pc lv (.ref x :: st) mm A dm := by
  subst hl'
  obtain ⟨p, l, e, R, s, m, args, below, meth, c, Q, K, A0, res, mo, fA, fd⟩ := E
  obtain ⟨hd, hn⟩ := Bx2.dec B h
  subst hn
  intro H locs ls hg hP hS hl
  exact lv_astore B.1 rfl hd hl hn.2 (zs1_mapL (kc K) b9 lv q (.ref x) hn.1) (fun ls' hl' => k H locs ls' hg hP hS (lv_swL hl'))
theorem v_iinc {E : Ev2} {b9 : Nat} {own : String} {tb : Tb} {nL : Nat} {ret : Option FieldType} {pc nx : Nat} {lv : Lv} {st : List Value} {mm : Mem} {A : AS} {dm : DM} {x : Int32} {q : Nat} {n : Int} (v : Int32) (lv' : Lv) (B : Bx2 E own tb nL ret) (i : Nat) (h : tb[i]? = some (pc, .iinc q n, 3, nx)) (j : Nat) (hj : lv[j]? = some (q, .int x)) (hv : x + Int32.ofInt n = v) (hn : 0 < q ∧ q < nL) (hl' : zs1 lv q (.int v) = lv') (k : GL E b9 nL nx lv' st mm A dm) : GL E b9 nL pc lv st mm A dm := by
  subst hl'
  obtain ⟨p, l, e, R, s, m, args, below, meth, c, Q, K, A0, res, mo, fA, fd⟩ := E
  obtain ⟨hd, hn⟩ := Bx2.dec B h
  subst hn
  intro H locs ls hg hP hS hl
  exact lv_iinc B.1 rfl hd hl (lvmL hj) hv hn.2 (zs1_mapL (kc K) b9 lv q (.int v) hn.1) (fun ls' hl' => k H locs ls' hg hP hS (lv_swL hl'))
theorem v_pop {E : Ev2} {b9 : Nat} {own : String} {tb : Tb} {nL : Nat} {ret : Option FieldType} {pc nx : Nat} {lv : Lv} {st : List Value} {mm : Mem} {A : AS} {dm : DM} {v : Value} (B : Bx2 E own tb nL ret) (i : Nat) (h : tb[i]? = some (pc, .pop, 1, nx)) (hv : v.category = 1) (k : GL E b9 nL nx lv st mm A dm) : GL E b9 nL pc lv (v :: st) mm A dm := by
  obtain ⟨p, l, e, R, s, m, args, below, meth, c, Q, K, A0, res, mo, fA, fd⟩ := E
  obtain ⟨hd, hn⟩ := Bx2.dec B h
  subst hn
  intro H locs ls hg hP hS hl
  exact lv_pop B.1 rfl hd ((cvv_cat (kc K) v).trans hv) (k H locs ls hg hP hS hl)
theorem v_goto {E : Ev2} {b9 : Nat} {own : String} {tb : Tb} {nL : Nat} {ret : Option FieldType} {pc nx : Nat} {lv : Lv} {st : List Value} {mm : Mem} {A : AS} {dm : DM} {off : Int} (B : Bx2 E own tb nL ret) (i : Nat) (h : tb[i]? = some (pc, .goto off, 3, nx)) (tgt : Nat) (ht : (pc : Int) + off = (tgt : Int)) (k : GL E b9 nL tgt lv st mm A dm) : GL E b9 nL pc lv st mm A dm := by
  obtain ⟨p, l, e, R, s, m, args, below, meth, c, Q, K, A0, res, mo, fA, fd⟩ := E
  obtain ⟨hd, hn⟩ := Bx2.dec B h
  subst hn
  intro H locs ls hg hP hS hl
  exact lv_goto B.1 rfl hd ht (k H locs ls hg hP hS hl)
theorem v_if_eq_t {E : Ev2} {b9 : Nat} {own : String} {tb : Tb} {nL : Nat} {ret : Option FieldType} {pc nx : Nat} {lv : Lv} {st : List Value} {mm : Mem} {A : AS} {dm : DM} {x : Int32} {off : Int} (B : Bx2 E own tb nL ret) (i : Nat) (h : tb[i]? = some (pc, .ifCond .eq off, 3, nx)) (tgt : Nat) (ht : (pc : Int) + off = (tgt : Int)) (hc : x = 0) (k : GL E b9 nL tgt lv st mm A dm) : GL E b9 nL pc lv (.int x :: st) mm A dm := by
  obtain ⟨p, l, e, R, s, m, args, below, meth, c, Q, K, A0, res, mo, fA, fd⟩ := E
  obtain ⟨hd, hn⟩ := Bx2.dec B h
  subst hn
  intro H locs ls hg hP hS hl
  exact lv_if_eq B.1 rfl hd ht (fun _ => k H locs ls hg hP hS hl) (fun q => absurd (hc) q)
theorem v_if_eq_f {E : Ev2} {b9 : Nat} {own : String} {tb : Tb} {nL : Nat} {ret : Option FieldType} {pc nx : Nat} {lv : Lv} {st : List Value} {mm : Mem} {A : AS} {dm : DM} {x : Int32} {off : Int} (B : Bx2 E own tb nL ret) (i : Nat) (h : tb[i]? = some (pc, .ifCond .eq off, 3, nx)) (tgt : Nat) (ht : (pc : Int) + off = (tgt : Int)) (hc : ¬ x = 0) (k : GL E b9 nL nx lv st mm A dm) : GL E b9 nL pc lv (.int x :: st) mm A dm := by
  obtain ⟨p, l, e, R, s, m, args, below, meth, c, Q, K, A0, res, mo, fA, fd⟩ := E
  obtain ⟨hd, hn⟩ := Bx2.dec B h
  subst hn
  intro H locs ls hg hP hS hl
  exact lv_if_eq B.1 rfl hd ht (fun q => absurd q (hc)) (fun _ => k H locs ls hg hP hS hl)
theorem v_icmp_eq_t {E : Ev2} {b9 : Nat} {own : String} {tb : Tb} {nL : Nat} {ret : Option FieldType} {pc nx : Nat} {lv : Lv} {st : List Value} {mm : Mem} {A : AS} {dm : DM} {x y : Int32} {off : Int} (B : Bx2 E own tb nL ret) (i : Nat) (h : tb[i]? = some (pc, .if_icmp .eq off, 3, nx)) (tgt : Nat) (ht : (pc : Int) + off = (tgt : Int)) (hc : x = y) (k : GL E b9 nL tgt lv st mm A dm) : GL E b9 nL pc lv (.int y :: .int x :: st) mm A dm := by
  obtain ⟨p, l, e, R, s, m, args, below, meth, c, Q, K, A0, res, mo, fA, fd⟩ := E
  obtain ⟨hd, hn⟩ := Bx2.dec B h
  subst hn
  intro H locs ls hg hP hS hl
  exact lv_icmp_eq B.1 rfl hd ht (fun _ => k H locs ls hg hP hS hl) (fun q => absurd (hc) q)
theorem v_icmp_eq_f {E : Ev2} {b9 : Nat} {own : String} {tb : Tb} {nL : Nat} {ret : Option FieldType} {pc nx : Nat} {lv : Lv} {st : List Value} {mm : Mem} {A : AS} {dm : DM} {x y : Int32} {off : Int} (B : Bx2 E own tb nL ret) (i : Nat) (h : tb[i]? = some (pc, .if_icmp .eq off, 3, nx)) (tgt : Nat) (ht : (pc : Int) + off = (tgt : Int)) (hc : ¬ x = y) (k : GL E b9 nL nx lv st mm A dm) : GL E b9 nL pc lv (.int y :: .int x :: st) mm A dm := by
  obtain ⟨p, l, e, R, s, m, args, below, meth, c, Q, K, A0, res, mo, fA, fd⟩ := E
  obtain ⟨hd, hn⟩ := Bx2.dec B h
  subst hn
  intro H locs ls hg hP hS hl
  exact lv_icmp_eq B.1 rfl hd ht (fun q => absurd q (hc)) (fun _ => k H locs ls hg hP hS hl)
theorem v_if_ne_t {E : Ev2} {b9 : Nat} {own : String} {tb : Tb} {nL : Nat} {ret : Option FieldType} {pc nx : Nat} {lv : Lv} {st : List Value} {mm : Mem} {A : AS} {dm : DM} {x : Int32} {off : Int} (B : Bx2 E own tb nL ret) (i : Nat) (h : tb[i]? = some (pc, .ifCond .ne off, 3, nx)) (tgt : Nat) (ht : (pc : Int) + off = (tgt : Int)) (hc : ¬ x = 0) (k : GL E b9 nL tgt lv st mm A dm) : GL E b9 nL pc lv (.int x :: st) mm A dm := by
  obtain ⟨p, l, e, R, s, m, args, below, meth, c, Q, K, A0, res, mo, fA, fd⟩ := E
  obtain ⟨hd, hn⟩ := Bx2.dec B h
  subst hn
  intro H locs ls hg hP hS hl
  exact lv_if_ne B.1 rfl hd ht (fun _ => k H locs ls hg hP hS hl) (fun q => absurd q hc)
theorem v_if_ne_f {E : Ev2} {b9 : Nat} {own : String} {tb : Tb} {nL : Nat} {ret : Option FieldType} {pc nx : Nat} {lv : Lv} {st : List Value} {mm : Mem} {A : AS} {dm : DM} {x : Int32} {off : Int} (B : Bx2 E own tb nL ret) (i : Nat) (h : tb[i]? = some (pc, .ifCond .ne off, 3, nx)) (tgt : Nat) (ht : (pc : Int) + off = (tgt : Int)) (hc : x = 0) (k : GL E b9 nL nx lv st mm A dm) : GL E b9 nL pc lv (.int x :: st) mm A dm := by
  obtain ⟨p, l, e, R, s, m, args, below, meth, c, Q, K, A0, res, mo, fA, fd⟩ := E
  obtain ⟨hd, hn⟩ := Bx2.dec B h
  subst hn
  intro H locs ls hg hP hS hl
  exact lv_if_ne B.1 rfl hd ht (fun q => absurd q (fun z => z hc)) (fun _ => k H locs ls hg hP hS hl)
theorem v_icmp_ne_t {E : Ev2} {b9 : Nat} {own : String} {tb : Tb} {nL : Nat} {ret : Option FieldType} {pc nx : Nat} {lv : Lv} {st : List Value} {mm : Mem} {A : AS} {dm : DM} {x y : Int32} {off : Int} (B : Bx2 E own tb nL ret) (i : Nat) (h : tb[i]? = some (pc, .if_icmp .ne off, 3, nx)) (tgt : Nat) (ht : (pc : Int) + off = (tgt : Int)) (hc : ¬ x = y) (k : GL E b9 nL tgt lv st mm A dm) : GL E b9 nL pc lv (.int y :: .int x :: st) mm A dm := by
  obtain ⟨p, l, e, R, s, m, args, below, meth, c, Q, K, A0, res, mo, fA, fd⟩ := E
  obtain ⟨hd, hn⟩ := Bx2.dec B h
  subst hn
  intro H locs ls hg hP hS hl
  exact lv_icmp_ne B.1 rfl hd ht (fun _ => k H locs ls hg hP hS hl) (fun q => absurd q hc)
theorem v_icmp_ne_f {E : Ev2} {b9 : Nat} {own : String} {tb : Tb} {nL : Nat} {ret : Option FieldType} {pc nx : Nat} {lv : Lv} {st : List Value} {mm : Mem} {A : AS} {dm : DM} {x y : Int32} {off : Int} (B : Bx2 E own tb nL ret) (i : Nat) (h : tb[i]? = some (pc, .if_icmp .ne off, 3, nx)) (tgt : Nat) (ht : (pc : Int) + off = (tgt : Int)) (hc : x = y) (k : GL E b9 nL nx lv st mm A dm) : GL E b9 nL pc lv (.int y :: .int x :: st) mm A dm := by
  obtain ⟨p, l, e, R, s, m, args, below, meth, c, Q, K, A0, res, mo, fA, fd⟩ := E
  obtain ⟨hd, hn⟩ := Bx2.dec B h
  subst hn
  intro H locs ls hg hP hS hl
  exact lv_icmp_ne B.1 rfl hd ht (fun q => absurd q (fun z => z hc)) (fun _ => k H locs ls hg hP hS hl)
theorem v_if_lt_t {E : Ev2} {b9 : Nat} {own : String} {tb : Tb} {nL : Nat} {ret : Option FieldType} {pc nx : Nat} {lv : Lv} {st : List Value} {mm : Mem} {A : AS} {dm : DM} {x : Int32} {off : Int} (B : Bx2 E own tb nL ret) (i : Nat) (h : tb[i]? = some (pc, .ifCond .lt off, 3, nx)) (tgt : Nat) (ht : (pc : Int) + off = (tgt : Int)) (hc : x < 0) (k : GL E b9 nL tgt lv st mm A dm) : GL E b9 nL pc lv (.int x :: st) mm A dm := by
  obtain ⟨p, l, e, R, s, m, args, below, meth, c, Q, K, A0, res, mo, fA, fd⟩ := E
  obtain ⟨hd, hn⟩ := Bx2.dec B h
  subst hn
  intro H locs ls hg hP hS hl
  exact lv_if_lt B.1 rfl hd ht (fun _ => k H locs ls hg hP hS hl) (fun q => absurd (hc) q)
theorem v_if_lt_f {E : Ev2} {b9 : Nat} {own : String} {tb : Tb} {nL : Nat} {ret : Option FieldType} {pc nx : Nat} {lv : Lv} {st : List Value} {mm : Mem} {A : AS} {dm : DM} {x : Int32} {off : Int} (B : Bx2 E own tb nL ret) (i : Nat) (h : tb[i]? = some (pc, .ifCond .lt off, 3, nx)) (tgt : Nat) (ht : (pc : Int) + off = (tgt : Int)) (hc : ¬ x < 0) (k : GL E b9 nL nx lv st mm A dm) : GL E b9 nL pc lv (.int x :: st) mm A dm := by
  obtain ⟨p, l, e, R, s, m, args, below, meth, c, Q, K, A0, res, mo, fA, fd⟩ := E
  obtain ⟨hd, hn⟩ := Bx2.dec B h
  subst hn
  intro H locs ls hg hP hS hl
  exact lv_if_lt B.1 rfl hd ht (fun q => absurd q (hc)) (fun _ => k H locs ls hg hP hS hl)
theorem v_icmp_lt_t {E : Ev2} {b9 : Nat} {own : String} {tb : Tb} {nL : Nat} {ret : Option FieldType} {pc nx : Nat} {lv : Lv} {st : List Value} {mm : Mem} {A : AS} {dm : DM} {x y : Int32} {off : Int} (B : Bx2 E own tb nL ret) (i : Nat) (h : tb[i]? = some (pc, .if_icmp .lt off, 3, nx)) (tgt : Nat) (ht : (pc : Int) + off = (tgt : Int)) (hc : x < y) (k : GL E b9 nL tgt lv st mm A dm) : GL E b9 nL pc lv (.int y :: .int x :: st) mm A dm := by
  obtain ⟨p, l, e, R, s, m, args, below, meth, c, Q, K, A0, res, mo, fA, fd⟩ := E
  obtain ⟨hd, hn⟩ := Bx2.dec B h
  subst hn
  intro H locs ls hg hP hS hl
  exact lv_icmp_lt B.1 rfl hd ht (fun _ => k H locs ls hg hP hS hl) (fun q => absurd (hc) q)
theorem v_icmp_lt_f {E : Ev2} {b9 : Nat} {own : String} {tb : Tb} {nL : Nat} {ret : Option FieldType} {pc nx : Nat} {lv : Lv} {st : List Value} {mm : Mem} {A : AS} {dm : DM} {x y : Int32} {off : Int} (B : Bx2 E own tb nL ret) (i : Nat) (h : tb[i]? = some (pc, .if_icmp .lt off, 3, nx)) (tgt : Nat) (ht : (pc : Int) + off = (tgt : Int)) (hc : ¬ x < y) (k : GL E b9 nL nx lv st mm A dm) : GL E b9 nL pc lv (.int y :: .int x :: st) mm A dm := by
  obtain ⟨p, l, e, R, s, m, args, below, meth, c, Q, K, A0, res, mo, fA, fd⟩ := E
  obtain ⟨hd, hn⟩ := Bx2.dec B h
  subst hn
  intro H locs ls hg hP hS hl
  exact lv_icmp_lt B.1 rfl hd ht (fun q => absurd q (hc)) (fun _ => k H locs ls hg hP hS hl)
theorem v_if_ge_t {E : Ev2} {b9 : Nat} {own : String} {tb : Tb} {nL : Nat} {ret : Option FieldType} {pc nx : Nat} {lv : Lv} {st : List Value} {mm : Mem} {A : AS} {dm : DM} {x : Int32} {off : Int} (B : Bx2 E own tb nL ret) (i : Nat) (h : tb[i]? = some (pc, .ifCond .ge off, 3, nx)) (tgt : Nat) (ht : (pc : Int) + off = (tgt : Int)) (hc : ¬ x < 0) (k : GL E b9 nL tgt lv st mm A dm) : GL E b9 nL pc lv (.int x :: st) mm A dm := by
  obtain ⟨p, l, e, R, s, m, args, below, meth, c, Q, K, A0, res, mo, fA, fd⟩ := E
  obtain ⟨hd, hn⟩ := Bx2.dec B h
  subst hn
  intro H locs ls hg hP hS hl
  exact lv_if_ge B.1 rfl hd ht (fun _ => k H locs ls hg hP hS hl) (fun q => absurd (i32_nlt hc) q)
theorem v_if_ge_f {E : Ev2} {b9 : Nat} {own : String} {tb : Tb} {nL : Nat} {ret : Option FieldType} {pc nx : Nat} {lv : Lv} {st : List Value} {mm : Mem} {A : AS} {dm : DM} {x : Int32} {off : Int} (B : Bx2 E own tb nL ret) (i : Nat) (h : tb[i]? = some (pc, .ifCond .ge off, 3, nx)) (tgt : Nat) (ht : (pc : Int) + off = (tgt : Int)) (hc : x < 0) (k : GL E b9 nL nx lv st mm A dm) : GL E b9 nL pc lv (.int x :: st) mm A dm := by
  obtain ⟨p, l, e, R, s, m, args, below, meth, c, Q, K, A0, res, mo, fA, fd⟩ := E
  obtain ⟨hd, hn⟩ := Bx2.dec B h
  subst hn
  intro H locs ls hg hP hS hl
  exact lv_if_ge B.1 rfl hd ht (fun q => absurd q (fun z => absurd hc (i32_nlt2 z))) (fun _ => k H locs ls hg hP hS hl)
theorem v_icmp_ge_t {E : Ev2} {b9 : Nat} {own : String} {tb : Tb} {nL : Nat} {ret : Option FieldType} {pc nx : Nat} {lv : Lv} {st : List Value} {mm : Mem} {A : AS} {dm : DM} {x y : Int32} {off : Int} (B : Bx2 E own tb nL ret) (i : Nat) (h : tb[i]? = some (pc, .if_icmp .ge off, 3, nx)) (tgt : Nat) (ht : (pc : Int) + off = (tgt : Int)) (hc : ¬ x < y) (k : GL E b9 nL tgt lv st mm A dm) : GL E b9 nL pc lv (.int y :: .int x :: st) mm A dm := by
  obtain ⟨p, l, e, R, s, m, args, below, meth, c, Q, K, A0, res, mo, fA, fd⟩ := E
  obtain ⟨hd, hn⟩ := Bx2.dec B h
  subst hn
  intro H locs ls hg hP hS hl
  exact lv_icmp_ge B.1 rfl hd ht (fun _ => k H locs ls hg hP hS hl) (fun q => absurd (i32_nlt hc) q)
theorem v_icmp_ge_f {E : Ev2} {b9 : Nat} {own : String} {tb : Tb} {nL : Nat} {ret : Option FieldType} {pc nx : Nat} {lv : Lv} {st : List Value} {mm : Mem} {A : AS} {dm : DM} {x y : Int32} {off : Int} (B : Bx2 E own tb nL ret) (i : Nat) (h : tb[i]? = some (pc, .if_icmp .ge off, 3, nx)) (tgt : Nat) (ht : (pc : Int) + off = (tgt : Int)) (hc : x < y) (k : GL E b9 nL nx lv st mm A dm) : GL E b9 nL pc lv (.int y :: .int x :: st) mm A dm := by
  obtain ⟨p, l, e, R, s, m, args, below, meth, c, Q, K, A0, res, mo, fA, fd⟩ := E
  obtain ⟨hd, hn⟩ := Bx2.dec B h
  subst hn
  intro H locs ls hg hP hS hl
  exact lv_icmp_ge B.1 rfl hd ht (fun q => absurd q (fun z => absurd hc (i32_nlt2 z))) (fun _ => k H locs ls hg hP hS hl)
theorem v_if_gt_t {E : Ev2} {b9 : Nat} {own : String} {tb : Tb} {nL : Nat} {ret : Option FieldType} {pc nx : Nat} {lv : Lv} {st : List Value} {mm : Mem} {A : AS} {dm : DM} {x : Int32} {off : Int} (B : Bx2 E own tb nL ret) (i : Nat) (h : tb[i]? = some (pc, .ifCond .gt off, 3, nx)) (tgt : Nat) (ht : (pc : Int) + off = (tgt : Int)) (hc : 0 < x) (k : GL E b9 nL tgt lv st mm A dm) : GL E b9 nL pc lv (.int x :: st) mm A dm := by
  obtain ⟨p, l, e, R, s, m, args, below, meth, c, Q, K, A0, res, mo, fA, fd⟩ := E
  obtain ⟨hd, hn⟩ := Bx2.dec B h
  subst hn
  intro H locs ls hg hP hS hl
  exact lv_if_gt B.1 rfl hd ht (fun _ => k H locs ls hg hP hS hl) (fun q => absurd (hc) q)
theorem v_if_gt_f {E : Ev2} {b9 : Nat} {own : String} {tb : Tb} {nL : Nat} {ret : Option FieldType} {pc nx : Nat} {lv : Lv} {st : List Value} {mm : Mem} {A : AS} {dm : DM} {x : Int32} {off : Int} (B : Bx2 E own tb nL ret) (i : Nat) (h : tb[i]? = some (pc, .ifCond .gt off, 3, nx)) (tgt : Nat) (ht : (pc : Int) + off = (tgt : Int)) (hc : ¬ 0 < x) (k : GL E b9 nL nx lv st mm A dm) : GL E b9 nL pc lv (.int x :: st) mm A dm := by
  obtain ⟨p, l, e, R, s, m, args, below, meth, c, Q, K, A0, res, mo, fA, fd⟩ := E
  obtain ⟨hd, hn⟩ := Bx2.dec B h
  subst hn
  intro H locs ls hg hP hS hl
  exact lv_if_gt B.1 rfl hd ht (fun q => absurd q (hc)) (fun _ => k H locs ls hg hP hS hl)
theorem v_icmp_gt_t {E : Ev2} {b9 : Nat} {own : String} {tb : Tb} {nL : Nat} {ret : Option FieldType} {pc nx : Nat} {lv : Lv} {st : List Value} {mm : Mem} {A : AS} {dm : DM} {x y : Int32} {off : Int} (B : Bx2 E own tb nL ret) (i : Nat) (h : tb[i]? = some (pc, .if_icmp .gt off, 3, nx)) (tgt : Nat) (ht : (pc : Int) + off = (tgt : Int)) (hc : y < x) (k : GL E b9 nL tgt lv st mm A dm) : GL E b9 nL pc lv (.int y :: .int x :: st) mm A dm := by
  obtain ⟨p, l, e, R, s, m, args, below, meth, c, Q, K, A0, res, mo, fA, fd⟩ := E
  obtain ⟨hd, hn⟩ := Bx2.dec B h
  subst hn
  intro H locs ls hg hP hS hl
  exact lv_icmp_gt B.1 rfl hd ht (fun _ => k H locs ls hg hP hS hl) (fun q => absurd (hc) q)
theorem v_icmp_gt_f {E : Ev2} {b9 : Nat} {own : String} {tb : Tb} {nL : Nat} {ret : Option FieldType} {pc nx : Nat} {lv : Lv} {st : List Value} {mm : Mem} {A : AS} {dm : DM} {x y : Int32} {off : Int} (B : Bx2 E own tb nL ret) (i : Nat) (h : tb[i]? = some (pc, .if_icmp .gt off, 3, nx)) (tgt : Nat) (ht : (pc : Int) + off = (tgt : Int)) (hc : ¬ y < x) (k : GL E b9 nL nx lv st mm A dm) : GL E b9 nL pc lv (.int y :: .int x :: st) mm A dm := by
  obtain ⟨p, l, e, R, s, m, args, below, meth, c, Q, K, A0, res, mo, fA, fd⟩ := E
  obtain ⟨hd, hn⟩ := Bx2.dec B h
  subst hn
  intro H locs ls hg hP hS hl
  exact lv_icmp_gt B.1 rfl hd ht (fun q => absurd q (hc)) (fun _ => k H locs ls hg hP hS hl)
theorem v_if_le_t {E : Ev2} {b9 : Nat} {own : String} {tb : Tb} {nL : Nat} {ret : Option FieldType} {pc nx : Nat} {lv : Lv} {st : List Value} {mm : Mem} {A : AS} {dm : DM} {x : Int32} {off : Int} (B : Bx2 E own tb nL ret) (i : Nat) (h : tb[i]? = some (pc, .ifCond .le off, 3, nx)) (tgt : Nat) (ht : (pc : Int) + off = (tgt : Int)) (hc : ¬ 0 < x) (k : GL E b9 nL tgt lv st mm A dm) : GL E b9 nL pc lv (.int x :: st) mm A dm := by
  obtain ⟨p, l, e, R, s, m, args, below, meth, c, Q, K, A0, res, mo, fA, fd⟩ := E
  obtain ⟨hd, hn⟩ := Bx2.dec B h
  subst hn
  intro H locs ls hg hP hS hl
  exact lv_if_le B.1 rfl hd ht (fun _ => k H locs ls hg hP hS hl) (fun q => absurd (i32_nlt hc) q)
theorem v_if_le_f {E : Ev2} {b9 : Nat} {own : String} {tb : Tb} {nL : Nat} {ret : Option FieldType} {pc nx : Nat} {lv : Lv} {st : List Value} {mm : Mem} {A : AS} {dm : DM} {x : Int32} {off : Int} (B : Bx2 E own tb nL ret) (i : Nat) (h : tb[i]? = some (pc, .ifCond .le off, 3, nx)) (tgt : Nat) (ht : (pc : Int) + off = (tgt : Int)) (hc : 0 < x) (k : GL E b9 nL nx lv st mm A dm) : GL E b9 nL pc lv (.int x :: st) mm A dm := by
  obtain ⟨p, l, e, R, s, m, args, below, meth, c, Q, K, A0, res, mo, fA, fd⟩ := E
  obtain ⟨hd, hn⟩ := Bx2.dec B h
  subst hn
  intro H locs ls hg hP hS hl
  exact lv_if_le B.1 rfl hd ht (fun q => absurd q (fun z => absurd hc (i32_nlt2 z))) (fun _ => k H locs ls hg hP hS hl)
theorem v_icmp_le_t {E : Ev2} {b9 : Nat} {own : String} {tb : Tb} {nL : Nat} {ret : Option FieldType} {pc nx : Nat} {lv : Lv} {st : List Value} {mm : Mem} {A : AS} {dm : DM} {x y : Int32} {off : Int} (B : Bx2 E own tb nL ret) (i : Nat) (h : tb[i]? = some (pc, .if_icmp .le off, 3, nx)) (tgt : Nat) (ht : (pc : Int) + off = (tgt : Int)) (hc : ¬ y < x) (k : GL E b9 nL tgt lv st mm A dm) : GL E b9 nL pc lv (.int y :: .int x :: st) mm A dm := by
  obtain ⟨p, l, e, R, s, m, args, below, meth, c, Q, K, A0, res, mo, fA, fd⟩ := E
  obtain ⟨hd, hn⟩ := Bx2.dec B h
  subst hn
  intro H locs ls hg hP hS hl
  exact lv_icmp_le B.1 rfl hd ht (fun _ => k H locs ls hg hP hS hl) (fun q => absurd (i32_nlt hc) q)
theorem v_icmp_le_f {E : Ev2} {b9 : Nat} {own : String} {tb : Tb} {nL : Nat} {ret : Option FieldType} {pc nx : Nat} {lv : Lv} {st : List Value} {mm : Mem} {A : AS} {dm : DM} {x y : Int32} {off : Int} (B : Bx2 E own tb nL ret) (i : Nat) (h : tb[i]? = some (pc, .if_icmp .le off, 3, nx)) (tgt : Nat) (ht : (pc : Int) + off = (tgt : Int)) (hc : y < x) (k : GL E b9 nL nx lv st mm A dm) : GL E b9 nL pc lv (.int y :: .int x :: st) mm A dm := by
  obtain ⟨p, l, e, R, s, m, args, below, meth, c, Q, K, A0, res, mo, fA, fd⟩ := E
  obtain ⟨hd, hn⟩ := Bx2.dec B h
  subst hn
  intro H locs ls hg hP hS hl
  exact lv_icmp_le B.1 rfl hd ht (fun q => absurd q (fun z => absurd hc (i32_nlt2 z))) (fun _ => k H locs ls hg hP hS hl)
theorem v_dup {E : Ev2} {b9 : Nat} {own : String} {tb : Tb} {nL : Nat} {ret : Option FieldType} {pc nx : Nat} {lv : Lv} {st : List Value} {mm : Mem} {A : AS} {dm : DM} {v : Value} (B : Bx2 E own tb nL ret) (i : Nat) (h : tb[i]? = some (pc, .dup, 1, nx)) (hv : v.category = 1) (k : GL E b9 nL nx lv (v :: v :: st) mm A dm) : GL E b9 nL pc lv (v :: st) mm A dm := by
  obtain ⟨p, l, e, R, s, m, args, below, meth, c, Q, K, A0, res, mo, fA, fd⟩ := E
  obtain ⟨hd, hn⟩ := Bx2.dec B h
  subst hn
  intro H locs ls hg hP hS hl
  exact lv_dup B.1 rfl hd ((cvv_cat (kc K) v).trans hv) (k H locs ls hg hP hS hl)
theorem v_null {E : Ev2} {b9 : Nat} {own : String} {tb : Tb} {nL : Nat} {ret : Option FieldType} {pc nx : Nat} {lv : Lv} {st : List Value} {mm : Mem} {A : AS} {dm : DM} (B : Bx2 E own tb nL ret) (i : Nat) (h : tb[i]? = some (pc, .aconst_null, 1, nx)) (k : GL E b9 nL nx lv (.null :: st) mm A dm) : GL E b9 nL pc lv st mm A dm := by
  obtain ⟨p, l, e, R, s, m, args, below, meth, c, Q, K, A0, res, mo, fA, fd⟩ := E
  obtain ⟨hd, hn⟩ := Bx2.dec B h
  subst hn
  intro H locs ls hg hP hS hl
  exact lv_null B.1 rfl hd (k H locs ls hg hP hS hl)
theorem v_geti {E : Ev2} {b9 : Nat} {own : String} {tb : Tb} {nL : Nat} {ret : Option FieldType} {pc nx : Nat} {lv : Lv} {st : List Value} {mm : Mem} {A : AS} {dm : DM} {n : Nat} {v : Int32} {rn nm d rf : String} (B : Bx2 E own tb nL ret) (i : Nat) (h : tb[i]? = some (pc, .getfield n, 3, nx)) (ci kf q : Nat) (hci : ci ≠ 0) (hq : okd A q ci) (hf : bfl ci kf = some (rn, nm, d)) (hw : Cond.fieldLink own n rf nm d ∈ TW) (hsf : rn = rf ∨ Cond.sameField rf rn nm d ∈ TW) (hv : dm q kf = .int v) (k : GL E b9 nL nx lv (.int v :: st) mm A dm) : GL E b9 nL pc lv (.ref q :: st) mm A dm := by
  obtain ⟨p, l, e, R, s, m, args, below, meth, c, Q, K, A0, res, mo, fA, fd⟩ := E
  obtain ⟨hd, hn⟩ := Bx2.dec B h
  subst hn
  intro H locs ls hg hP hS hl
  obtain ⟨⟨Cn, T, N⟩, hx, hkN, rfl, rfl, rfl⟩ := bfl_spec hf
  obtain ⟨hws, hN, hty, hnm⟩ := zcls_ok hx
  have hc11 := zcls_lt hx
  obtain ⟨j, hj1, hj2⟩ := ow_at A (okd_liv hq hci)
  have hg1 := hj1 K mm dm
  rw [cld_obj hc11 hq] at hg1
  refine va_get (C := Cn) (T := T) (N := N) (fs := (List.range (nfl ci)).map (fun k => cvv (kc K) (dm q k))) B.1 rfl B.tw hws B.hown B.kk hP j hg1 hx kf hkN (B.tw _ hw) (fun x hx9 => hsf.elim (fun e9 => e9 ▸ hx9) (fun w9 => u_same (B.tw _ w9) x hx9)) (v := cvv (kc K) (.int v)) ?_ hd (k H locs ls hg hP hS hl)
  rw [List.getElem?_map, List.getElem?_range (by rw [← hN]; exact hkN), Option.map_some, hv]
theorem v_getiN {E : Ev2} {b9 : Nat} {own : String} {tb : Tb} {nL : Nat} {ret : Option FieldType} {pc nx : Nat} {lv : Lv} {st : List Value} {mm : Mem} {A : AS} {dm : DM} {n : Nat} {v : Int32} {rn nm d rf : String} {host : String} (B : Bx2 E own tb nL ret) (i : Nat) (h : tb[i]? = some (pc, .getfield n, 3, nx)) (ci kf q : Nat) (hci : ci ≠ 0) (hq : okd A q ci) (hf : bfl ci kf = some (rn, nm, d)) (hw : (own, n, rf, nm, d, host) ∈ fns) (hsf : rn = rf ∨ Cond.sameField rf rn nm d ∈ TW) (hv : dm q kf = .int v) (k : GL E b9 nL nx lv (.int v :: st) mm A dm) : GL E b9 nL pc lv (.ref q :: st) mm A dm := by
  obtain ⟨p, l, e, R, s, m, args, below, meth, c, Q, K, A0, res, mo, fA, fd⟩ := E
  obtain ⟨hd, hn⟩ := Bx2.dec B h
  subst hn
  intro H locs ls hg hP hS hl
  obtain ⟨⟨Cn, T, N⟩, hx, hkN, rfl, rfl, rfl⟩ := bfl_spec hf
  obtain ⟨hws, hN, hty, hnm⟩ := zcls_ok hx
  have hc11 := zcls_lt hx
  obtain ⟨j, hj1, hj2⟩ := ow_at A (okd_liv hq hci)
  have hg1 := hj1 K mm dm
  rw [cld_obj hc11 hq] at hg1
  refine va_getN (C := Cn) (T := T) (N := N) (fs := (List.range (nfl ci)).map (fun k => cvv (kc K) (dm q k))) B.1 rfl B.tw hws B.hown B.kk hP j hg1 hx kf hkN (va_Nw.use rfl (B.sx.2.2.1 _ hw)) (fun x hx9 => hsf.elim (fun e9 => e9 ▸ hx9) (fun w9 => u_same (B.tw _ w9) x hx9)) (v := cvv (kc K) (.int v)) ?_ hd (k H locs ls hg hP hS hl)
  rw [List.getElem?_map, List.getElem?_range (by rw [← hN]; exact hkN), Option.map_some, hv]
theorem v_getr {E : Ev2} {b9 : Nat} {own : String} {tb : Tb} {nL : Nat} {ret : Option FieldType} {pc nx : Nat} {lv : Lv} {st : List Value} {mm : Mem} {A : AS} {dm : DM} {n : Nat} {v : Nat} {rn nm d rf : String} (B : Bx2 E own tb nL ret) (i : Nat) (h : tb[i]? = some (pc, .getfield n, 3, nx)) (ci kf q : Nat) (hci : ci ≠ 0) (hq : okd A q ci) (hf : bfl ci kf = some (rn, nm, d)) (hw : Cond.fieldLink own n rf nm d ∈ TW) (hsf : rn = rf ∨ Cond.sameField rf rn nm d ∈ TW) (hv : dm q kf = .ref v) (k : GL E b9 nL nx lv (.ref v :: st) mm A dm) : GL E b9 nL pc lv (.ref q :: st) mm A dm := by
  obtain ⟨p, l, e, R, s, m, args, below, meth, c, Q, K, A0, res, mo, fA, fd⟩ := E
  obtain ⟨hd, hn⟩ := Bx2.dec B h
  subst hn
  intro H locs ls hg hP hS hl
  obtain ⟨⟨Cn, T, N⟩, hx, hkN, rfl, rfl, rfl⟩ := bfl_spec hf
  obtain ⟨hws, hN, hty, hnm⟩ := zcls_ok hx
  have hc11 := zcls_lt hx
  obtain ⟨j, hj1, hj2⟩ := ow_at A (okd_liv hq hci)
  have hg1 := hj1 K mm dm
  rw [cld_obj hc11 hq] at hg1
  refine va_get (C := Cn) (T := T) (N := N) (fs := (List.range (nfl ci)).map (fun k => cvv (kc K) (dm q k))) B.1 rfl B.tw hws B.hown B.kk hP j hg1 hx kf hkN (B.tw _ hw) (fun x hx9 => hsf.elim (fun e9 => e9 ▸ hx9) (fun w9 => u_same (B.tw _ w9) x hx9)) (v := cvv (kc K) (.ref v)) ?_ hd (k H locs ls hg hP hS hl)
  rw [List.getElem?_map, List.getElem?_range (by rw [← hN]; exact hkN), Option.map_some, hv]
theorem v_getrN {E : Ev2} {b9 : Nat} {own : String} {tb : Tb} {nL : Nat} {ret : Option FieldType} {pc nx : Nat} {lv : Lv} {st : List Value} {mm : Mem} {A : AS} {dm : DM} {n : Nat} {v : Nat} {rn nm d rf : String} {host : String} (B : Bx2 E own tb nL ret) (i : Nat) (h : tb[i]? = some (pc, .getfield n, 3, nx)) (ci kf q : Nat) (hci : ci ≠ 0) (hq : okd A q ci) (hf : bfl ci kf = some (rn, nm, d)) (hw : (own, n, rf, nm, d, host) ∈ fns) (hsf : rn = rf ∨ Cond.sameField rf rn nm d ∈ TW) (hv : dm q kf = .ref v) (k : GL E b9 nL nx lv (.ref v :: st) mm A dm) : GL E b9 nL pc lv (.ref q :: st) mm A dm := by
  obtain ⟨p, l, e, R, s, m, args, below, meth, c, Q, K, A0, res, mo, fA, fd⟩ := E
  obtain ⟨hd, hn⟩ := Bx2.dec B h
  subst hn
  intro H locs ls hg hP hS hl
  obtain ⟨⟨Cn, T, N⟩, hx, hkN, rfl, rfl, rfl⟩ := bfl_spec hf
  obtain ⟨hws, hN, hty, hnm⟩ := zcls_ok hx
  have hc11 := zcls_lt hx
  obtain ⟨j, hj1, hj2⟩ := ow_at A (okd_liv hq hci)
  have hg1 := hj1 K mm dm
  rw [cld_obj hc11 hq] at hg1
  refine va_getN (C := Cn) (T := T) (N := N) (fs := (List.range (nfl ci)).map (fun k => cvv (kc K) (dm q k))) B.1 rfl B.tw hws B.hown B.kk hP j hg1 hx kf hkN (va_Nw.use rfl (B.sx.2.2.1 _ hw)) (fun x hx9 => hsf.elim (fun e9 => e9 ▸ hx9) (fun w9 => u_same (B.tw _ w9) x hx9)) (v := cvv (kc K) (.ref v)) ?_ hd (k H locs ls hg hP hS hl)
  rw [List.getElem?_map, List.getElem?_range (by rw [← hN]; exact hkN), Option.map_some, hv]
theorem v_iald {E : Ev2} {b9 : Nat} {own : String} {tb : Tb} {nL : Nat} {ret : Option FieldType} {pc nx : Nat} {lv : Lv} {st : List Value} {mm : Mem} {A : AS} {dm : DM} {q : Nat} {x v : Int32} (B : Bx2 E own tb nL ret) (i : Nat) (h : tb[i]? = some (pc, .iaload, 1, nx)) (hq : okd A q 20) (hx : inb x (A.2.2.1 q).2 = true) (hv : dm q x.toNatClampNeg = .int v) (k : GL E b9 nL nx lv (.int v :: st) mm A dm) : GL E b9 nL pc lv (.int x :: .ref q :: st) mm A dm := by
  obtain ⟨p, l, e, R, s, m, args, below, meth, c, Q, K, A0, res, mo, fA, fd⟩ := E
  obtain ⟨hd, hn⟩ := Bx2.dec B h
  subst hn
  intro H locs ls hg hP hS hl
  obtain ⟨j, hj1, hj2⟩ := ow_at A (okd_liv hq (by decide))
  have hg1 := hj1 K mm dm
  rw [cld_int hq] at hg1
  have h6 : vint (dm q x.toNatClampNeg) = v := by rw [hv]; rfl
  refine va_iald B.1 rfl B.kk hP j 0 hg1 rfl (inb_in hx) hd ?_
  have := k H locs ls hg hP hS hl
  rw [h6]
  exact this
theorem v_iast {E : Ev2} {b9 : Nat} {own : String} {tb : Tb} {nL : Nat} {ret : Option FieldType} {pc nx : Nat} {lv : Lv} {st : List Value} {mm : Mem} {A : AS} {dm : DM} {q : Nat} {x v : Int32} (B : Bx2 E own tb nL ret) (i : Nat) (h : tb[i]? = some (pc, .iastore, 1, nx)) (hq : okd A q 20) (hx : inb x (A.2.2.1 q).2 = true) (k : GL E b9 nL nx lv st mm A (up3 dm q x.toNatClampNeg (.int v))) : GL E b9 nL pc lv (.int v :: .int x :: .ref q :: st) mm A dm := by
  obtain ⟨p, l, e, R, s, m, args, below, meth, c, Q, K, A0, res, mo, fA, fd⟩ := E
  obtain ⟨hd, hn⟩ := Bx2.dec B h
  subst hn
  intro H locs ls hg hP hS hl
  obtain ⟨j, hj1, hj2⟩ := ow_at A (okd_liv hq (by decide))
  have hg1 := hj1 K mm dm
  rw [cld_int hq] at hg1
  refine va_iast B.1 rfl B.kk hP (w2_D hg.1) hS j 0 hg1 rfl (inb_in hx) hd (fun H1 locs1 hP1 _ hS1 => ?_)
  have h5 := hj2 K mm dm (up3 dm q x.toNatClampNeg (.int v)) (fun a ha => up3_ne ha)
  rw [cld_int hq, vint_up] at h5
  have hP2 : va_P K.2.2.1 zcls _ H1 := hP1
  rw [h5] at hP2
  exact k H1 locs1 ls hg hP2 hS1 hl
theorem v_castI {E : Ev2} {b9 : Nat} {own : String} {tb : Tb} {nL : Nat} {ret : Option FieldType} {pc nx : Nat} {lv : Lv} {st : List Value} {mm : Mem} {A : AS} {dm : DM} {q n : Nat} (B : Bx2 E own tb nL ret) (i : Nat) (h : tb[i]? = some (pc, .checkcast n, 3, nx)) (hq : okd A q 20) (hw : Cond.classLink own n "[I" ∈ TW) (k : GL E b9 nL nx lv (.ref q :: st) mm A dm) : GL E b9 nL pc lv (.ref q :: st) mm A dm := by
  obtain ⟨p, l, e, R, s, m, args, below, meth, c, Q, K, A0, res, mo, fA, fd⟩ := E
  obtain ⟨hd, hn⟩ := Bx2.dec B h
  subst hn
  intro H locs ls hg hP hS hl
  obtain ⟨j, hj1, hj2⟩ := ow_at A (okd_liv hq (by decide))
  have hg1 := hj1 K mm dm
  rw [cld_int hq] at hg1
  exact va_castA B.1 rfl B.hown (B.tw _ hw) hP j hg1 (va_nm_int (B.kk.2 0 _ rfl).2) hd (k H locs ls hg hP hS hl)
theorem v_castL {E : Ev2} {b9 : Nat} {own : String} {tb : Tb} {nL : Nat} {ret : Option FieldType} {pc nx : Nat} {lv : Lv} {st : List Value} {mm : Mem} {A : AS} {dm : DM} {q n : Nat} (B : Bx2 E own tb nL ret) (i : Nat) (h : tb[i]? = some (pc, .checkcast n, 3, nx)) (hq : okd A q 9) (hw : Cond.classLink own n alN ∈ TW) (k : GL E b9 nL nx lv (.ref q :: st) mm A dm) : GL E b9 nL pc lv (.ref q :: st) mm A dm := by
  obtain ⟨p, l, e, R, s, m, args, below, meth, c, Q, K, A0, res, mo, fA, fd⟩ := E
  obtain ⟨hd, hn⟩ := Bx2.dec B h
  subst hn
  intro H locs ls hg hP hS hl
  obtain ⟨j, hj1, hj2⟩ := ow_at A (okd_liv hq (by decide))
  have hg1 := hj1 K mm dm
  rw [cld_obj (by decide) hq] at hg1
  exact va_castS B.1 rfl B.hown (B.tw _ hw) (B.kk.1 9 _ rfl).2 (va_recv (q := (RJx4a65c, TJx4a65c, 3)) B.kk hP rfl hg1) hd (k H locs ls hg hP hS hl)
theorem v_new {E : Ev2} {b9 : Nat} {own : String} {tb : Tb} {nL : Nat} {ret : Option FieldType} {pc nx : Nat} {lv : Lv} {st : List Value} {mm : Mem} {A : AS} {dm : DM} {n N : Nat} {Cn : String} {T : u_T} {r0 : Option Value} {mo0 : Mem} {fA0 : AS} {fd0 : DM} {q : Nat} {A1 : AS} {m1 : DM} (B : Bx2 E own tb nL ret) (i : Nat) (h : tb[i]? = some (pc, .new n, 3, nx)) (ci : Nat) (f : Nat → Value) (hr : Rs2 E r0 mo0 fA0 fd0) (hgd : A.1 + 1 ≤ fA0.1 ∧ A.2.1 + N ≤ fA0.2.1) (hq : q = A.1 + 1) (hA : A1 = nw A ci 0 N) (hM : m1 = nwm A dm f) (hci : ci ≠ 0) (hx : zcls[ci]? = some (Cn, T, N)) (hw : Cond.classLink own n Cn ∈ TW ∧ Cond.instantiable Cn N ∈ TW ∧ Cond.initialized Cn ∈ TW) (hfs : ∀ j, j < N → defaultValue (tyA ci j) = f j) (hfc : ∀ (K : KF) (j : Nat), j < N → cvv (kc K) (f j) = f j) (k : GL E b9 nL nx lv (.ref q :: st) mm A1 m1) : GL E b9 nL pc lv st mm A dm := by
  subst hq hA hM
  obtain ⟨p, l, e, R, s, m, args, below, meth, c, Q, K, A0, res, mo, fA, fd⟩ := E
  obtain ⟨hd, hn⟩ := Bx2.dec B h
  subst hn
  intro H locs ls hg hP hS hl
  obtain ⟨-, -, rfl, -⟩ := hr
  refine w_hz B hg hP fun hz => ?_
  have hrm := B.rm
  have hA0 := hg.2.1
  have hA1 := hg.2.2
  obtain ⟨hws, hN, hty, hnm⟩ := zcls_ok hx
  have hKn := B.kk.1 ci _ hx
  have hN' : N = nfl ci := hN
  refine W.newcK B.1 rfl B.hown (B.tw _ hw.1) (B.tw _ hw.2.1) (B.tw _ hw.2.2) rfl hd (by omega) (by omega) hKn.2.1 rfl fun H1 kC hkC e1 z1 o1 => ?_
  have hkp : ∀ (k : Nat) (x : Nat × va_E), (w2 K mm A dm)[k]? = some x → H1[x.1]? = H[x.1]? := fun k x hx => o1 x.1 ((hP k x hx).lt)
  have hnew : va_at K.2.2.1 zcls (K.1 + A.1, cld K (ci, 0) f) H1 := by
    unfold cld
    rw [if_pos (zcls_lt hx)]
    refine ⟨_, hx, ?_⟩
    show t_OB (K.1 + A.1) _ _ _ _ (vp_V _)
    rw [← hz]
    refine (u_born (tyA ci) B.tw hws hKn hkC e1 hty).to (fun j hj => ?_)
    have hj' : j < N := hj
    show defaultValue (tyA ci j) = ((List.range (nfl ci)).map (fun k => cvv (kc K) (f k))).getD j .null
    rw [List.getD_eq_getElem?_getD, List.getElem?_map, List.getElem?_range (by rw [← hN']; exact hj'), Option.map_some, Option.getD_some, hfc K j hj']
    exact hfs j hj'
  have hP2 : va_P K.2.2.1 zcls (w2 K mm (nw A ci 0 N) (nwm A dm f)) H1 := by
    rw [w2_nw (hci)]
    refine (hP.kept hkp).app (fun k9 x hx2 => ?_)
    have hz0 : k9 < 1 := (List.getElem?_eq_some_iff.mp hx2).1
    rw [show k9 = 0 by omega] at hx2
    cases hx2
    exact hnew
  have hgo := k H1 locs ls ⟨okA_nw hg.1 (hci), ⟨by show _ ≤ A.1 + 1; omega, by show _ ≤ A.2.1 + N; omega⟩, by show A.1 + 1 ≤ _; omega, by show A.2.1 + N ≤ _; omega⟩ hP2 ⟨Nat.le_trans hS.1 (by omega), fun x h1 h2 => (o1 x (Nat.lt_of_lt_of_le h1 hS.1)).trans (hS.2.1 x h1 h2), hS.2.2⟩ hl
  have e8 : (nw A ci 0 N).1 - A0.1 = A.1 - A0.1 + 1 := by show A.1 + 1 - A0.1 = _; omega
  have e9 : (nw A ci 0 N).2.1 - A0.2.1 = A.2.1 - A0.2.1 + N := by show A.2.1 + N - A0.2.1 = _; omega
  rw [e8, e9] at hgo
  have e10 : cvv (kc K) (.ref (A.1 + 1)) = .ref H.size := by show Value.ref (adr K (A.1 + 1)) = _; rw [adr_pos (by omega), hz]; rfl
  rw [List.map_cons, e10] at hgo
  exact hgo
theorem v_newI {E : Ev2} {b9 : Nat} {own : String} {tb : Tb} {nL : Nat} {ret : Option FieldType} {pc nx : Nat} {lv : Lv} {st : List Value} {mm : Mem} {A : AS} {dm : DM} {v : Int32} {r0 : Option Value} {mo0 : Mem} {fA0 : AS} {fd0 : DM} {q : Nat} {A1 : AS} {m1 : DM} (B : Bx2 E own tb nL ret) (i : Nat) (h : tb[i]? = some (pc, .newarray .int, 2, nx)) (hr : Rs2 E r0 mo0 fA0 fd0) (hgd : A.1 + 1 ≤ fA0.1 ∧ A.2.1 + v.toNatClampNeg ≤ fA0.2.1) (hq : q = A.1 + 1) (hA : A1 = nw A 20 v.toNatClampNeg v.toNatClampNeg) (hM : m1 = nwm A dm (fun _ => .int 0)) (hw : Cond.arrayClass .int ∈ TW) (hv : ¬ v < 0 ∧ v.toNatClampNeg ≤ 10000) (k : GL E b9 nL nx lv (.ref q :: st) mm A1 m1) : GL E b9 nL pc lv (.int v :: st) mm A dm := by
  subst hq hA hM
  obtain ⟨p, l, e, R, s, m, args, below, meth, c, Q, K, A0, res, mo, fA, fd⟩ := E
  obtain ⟨hd, hn⟩ := Bx2.dec B h
  subst hn
  intro H locs ls hg hP hS hl
  obtain ⟨-, -, rfl, -⟩ := hr
  refine w_hz B hg hP fun hz => ?_
  have hrm := B.rm
  have hA0 := hg.2.1
  have hA1 := hg.2.2
  refine va_newaK B.1 rfl (atype := .int) (B.tw _ hw) rfl hd rfl hv.1 rfl (Nat.le_trans (Nat.mul_le_mul_right _ hv.2) (by decide)) (by omega) (by omega) rfl fun H1 cA e1 z1 o1 hAr hNm => ?_
  have hcA : cA = K.2.2.2.1 := by
    have h1 := (B.kk.2 0 _ rfl).2
    have h2 : s.vm.findClass _ = some K.2.2.2.1 := h1
    exact Option.some.inj (hNm.symm.trans h2)
  subst hcA
  have hkp : ∀ (k : Nat) (x : Nat × va_E), (w2 K mm A dm)[k]? = some x → H1[x.1]? = H[x.1]? := fun k x hx => o1 x.1 ((hP k x hx).lt)
  have hnew : va_at K.2.2.1 zcls (K.1 + A.1, cld K (20, v.toNatClampNeg) (fun _ => .int 0)) H1 := by
    show H1[K.1 + A.1]? = some (vp_cell _ _)
    rw [← hz]
    exact e1
  have hP2 : va_P K.2.2.1 zcls (w2 K mm (nw A 20 v.toNatClampNeg v.toNatClampNeg) (nwm A dm (fun _ => .int 0))) H1 := by
    rw [w2_nw (by decide)]
    refine (hP.kept hkp).app (fun k9 x hx2 => ?_)
    have hz0 : k9 < 1 := (List.getElem?_eq_some_iff.mp hx2).1
    rw [show k9 = 0 by omega] at hx2
    cases hx2
    exact hnew
  have hgo := k H1 locs ls ⟨okA_nw hg.1 (by decide), ⟨by show _ ≤ A.1 + 1; omega, by show _ ≤ A.2.1 + v.toNatClampNeg; omega⟩, by show A.1 + 1 ≤ _; omega, by show A.2.1 + v.toNatClampNeg ≤ _; omega⟩ hP2 ⟨Nat.le_trans hS.1 (by omega), fun x h1 h2 => (o1 x (Nat.lt_of_lt_of_le h1 hS.1)).trans (hS.2.1 x h1 h2), hS.2.2⟩ hl
  have e8 : (nw A 20 v.toNatClampNeg v.toNatClampNeg).1 - A0.1 = A.1 - A0.1 + 1 := by show A.1 + 1 - A0.1 = _; omega
  have e9 : (nw A 20 v.toNatClampNeg v.toNatClampNeg).2.1 - A0.2.1 = A.2.1 - A0.2.1 + v.toNatClampNeg := by show A.2.1 + v.toNatClampNeg - A0.2.1 = _; omega
  rw [e8, e9] at hgo
  have e10 : cvv (kc K) (.ref (A.1 + 1)) = .ref H.size := by show Value.ref (adr K (A.1 + 1)) = _; rw [adr_pos (by omega), hz]; rfl
  rw [List.map_cons, e10] at hgo
  exact hgo
theorem v_top {E : Ev2} {b9 : Nat} {nL pc : Nat} {lv : Lv} {st : List Value} {mm : Mem} {A : AS} {dm : DM} {x y : Int32} (e : x = y) (k : GL E b9 nL pc lv (.int x :: st) mm A dm) : GL E b9 nL pc lv (.int y :: st) mm A dm := e ▸ k
theorem v_topl {E : Ev2} {b9 : Nat} {nL pc : Nat} {lv : Lv} {st : List Value} {mm : Mem} {A : AS} {dm : DM} {x y : Int64} (e : x = y) (k : GL E b9 nL pc lv (.long x :: st) mm A dm) : GL E b9 nL pc lv (.long y :: st) mm A dm := e ▸ k
theorem v_dmm {E : Ev2} {b9 : Nat} {nL pc : Nat} {lv : Lv} {st : List Value} {mm : Mem} {A : AS} {dm dm' : DM} (e : dm = dm') (k : GL E b9 nL pc lv st mm A dm) : GL E b9 nL pc lv st mm A dm' := e ▸ k
theorem v_sub {E : Ev2} {b9 nL pc : Nat} {lv : Lv} {st : List Value} {mm : Mem} {A : AS} {dm : DM} (lv' : Lv) (js : List Nat) (hj : js.filterMap (fun j => lv[j]?) = lv') (k : GL E b9 nL pc lv' st mm A dm) : GL E b9 nL pc lv st mm A dm := by
  obtain ⟨p, l, e, R, s, m, args, below, meth, c, Q, K, A0, res, mo, fA, fd⟩ := E
  intro H locs ls hg hP hS hl
  have h1 : lv_has ls nL (lv.map (fun q => (q.1, cvv (kc K) q.2))) := ⟨hl.1, hl.2.1, fun q hq => hl.2.2 q (List.mem_cons_of_mem _ hq)⟩
  have h2 := lv_sub h1 js (lvs hj)
  refine k H locs ls hg hP hS ⟨hl.1, hl.2.1, fun q hq => ?_⟩
  rcases List.mem_cons.mp hq with e9 | e9
  · exact hl.2.2 q (by rw [e9]; exact List.mem_cons_self)
  · exact h2.2.2 q e9
theorem v_callS {E : Ev2} {b9 : Nat} {own : String} {tb : Tb} {nL : Nat} {ret : Option FieldType} {pc nx : Nat} {lv : Lv} {st : List Value} {mm : Mem} {A : AS} {dm : DM} {l : Launch} {K : KF} {fr0 lo0 : Nat} {y : MethodName} {bytes : ByteArray} {maxL n fr lo idx : Nat} {rt : Option FieldType} {r : Option Value} {mm2 : Mem} {A2 : AS} {dm2 : DM} (as rest st2 : List Value) (X : Ec2 E l K fr0 lo0) (B : Bx2 E own tb nL ret) (i : Nat) (h : tb[i]? = some (pc, .invokestatic idx, 3, nx)) (hM : MI y bytes maxL rt n) (hw : Cond.methodLink own idx y ∈ TW ∧ Cond.static y ∈ TW) (hc : Ct2 l K y bytes maxL rt fr lo as mm A dm r mm2 A2 dm2) (hm : (A2.1 = A.1 ∧ A2.2.1 = A.2.1) ∨ ∃ r9 m9 f9 d9, Rs2 E r9 m9 f9 d9 ∧ ((A.1 ≤ A2.1 ∧ A.2.1 ≤ A2.2.1) ∧ A2.1 ≤ f9.1 ∧ A2.2.1 ≤ f9.2.1)) (hR : fr + 1 ≤ fr0 ∧ 8 + (maxL + 11) + lo ≤ lo0) (hn : as.length = n) (hst : st = as.reverse ++ rest) (hW : (rest.map fun v => v.category).sum ≤ 8) (h2 : st2 = r.toList ++ rest) (k : GL E b9 nL nx lv st2 mm2 A2 dm2) : GL E b9 nL pc lv st mm A dm := by
  obtain ⟨p, l', e, R, s, m, args, below, meth, c, Q, K', A0, res, mo, fA, fd⟩ := E
  obtain ⟨rfl, rfl, rfl, rfl⟩ := X
  obtain ⟨hd, hnx⟩ := Bx2.dec B h
  obtain ⟨rfl, rfl⟩ := hnx
  subst hst
  subst h2
  intro H locs ls hg hP hS hl
  have hgd : (A.1 ≤ A2.1 ∧ A.2.1 ≤ A2.2.1) ∧ A2.1 ≤ fA.1 ∧ A2.2.1 ≤ fA.2.1 := by
    rcases hm with ⟨h7, h8⟩ | ⟨r9, m9, f9, d9, h7, h8⟩
    · rw [h7, h8]
      exact ⟨⟨Nat.le_refl _, Nat.le_refl _⟩, hg.2.2⟩
    · obtain ⟨-, -, rfl, -⟩ := h7
      exact h8
  have hc := hc hgd.1.1 hgd.1.2
  have hrl : (rest.map (cvv (kc K'))).map (fun v => v.category) = rest.map (fun v => v.category) := by rw [List.map_map]; congr 1; funext v; exact cvv_cat (kc K') v
  have hrmm : A.1 - A0.1 + (A2.1 - A.1) ≤ R.cells ∧ A.2.1 - A0.2.1 + (A2.2.1 - A.2.1) ≤ R.slots := by
    have h1 := B.rm
    have h3 := hg.2.1
    omega
  have hk : ∀ (H1 : Heap) (locs1 : List Loc), inv2 A0 A2 fA → va_P K'.2.2.1 zcls (w2 K' mm2 A2 dm2) H1 → va_S (Ax K') s.heap H1 locs1 → W p l' e R s m args below meth c H1 locs1 (A2.1 - A0.1) (A2.2.1 - A0.2.1) Q (F0 m (pc + 3) ls ((r.map (cvv (kc K'))).toList ++ rest.map (cvv (kc K')))) := by
    intro H1 locs1 hg1 hP1 hS1
    have := k H1 locs1 ls hg1 hP1 hS1 hl
    rw [List.map_append] at this
    cases r <;> exact this
  refine w_hz B hg hP fun hz => ?_
  exact z2call B hg hS hgd (va_runS (As := as.map (cvv (kc K'))) (rest := rest.map (cvv (kc K'))) ⟨B.1, rfl, B.ml, B.hown, B.tw⟩ hc ⟨callB_of n B.tw (tw_good hM.1) rfl rfl rfl (B.tw _ hM.2.2.2) (B.tw _ hw.1) hM.2.2.1 hR, B.tw _ hw.2⟩ ⟨Wd2_blind, Wd2_call B hg.1 hz hP hS _⟩ rfl (by rw [List.length_map]; exact hn) hl.1 (by rw [List.map_append, List.map_reverse]) (lv_room (by rw [hrl]; exact hW)) hd hrmm) hk
theorem v_callV {E : Ev2} {b9 : Nat} {own : String} {tb : Tb} {nL : Nat} {ret : Option FieldType} {pc nx : Nat} {lv : Lv} {st : List Value} {mm : Mem} {A : AS} {dm : DM} {l : Launch} {K : KF} {fr0 lo0 : Nat} {y : MethodName} {bytes : ByteArray} {maxL n fr lo idx : Nat} {rt : Option FieldType} {r : Option Value} {mm2 : Mem} {A2 : AS} {dm2 : DM} {x : vw_C} (q : Nat) (as rest st2 : List Value) (X : Ec2 E l K fr0 lo0) (B : Bx2 E own tb nL ret) (i : Nat) (h : tb[i]? = some (pc, .invokevirtual idx, 3, nx)) (hM : MI y bytes maxL rt n) (ci : Nat) (hci : ci ≠ 0) (hq : okd A q ci) (hx : zcls[ci]? = some x) (hxc : x.1 = y.cls) (hw : Cond.methodLink own idx y ∈ TW ∧ Cond.instanceMethod y ∈ TW ∧ Cond.selects y.cls y y ∈ TW) (hc : Ct2 l K y bytes maxL rt fr lo (.ref q :: as) mm A dm r mm2 A2 dm2) (hm : (A2.1 = A.1 ∧ A2.2.1 = A.2.1) ∨ ∃ r9 m9 f9 d9, Rs2 E r9 m9 f9 d9 ∧ ((A.1 ≤ A2.1 ∧ A.2.1 ≤ A2.2.1) ∧ A2.1 ≤ f9.1 ∧ A2.2.1 ≤ f9.2.1)) (hR : fr + 1 ≤ fr0 ∧ 8 + (maxL + 11) + lo ≤ lo0) (hn : as.length = n) (hst : st = as.reverse ++ .ref q :: rest) (hW : (rest.map fun v => v.category).sum ≤ 8) (h2 : st2 = r.toList ++ rest) (k : GL E b9 nL nx lv st2 mm2 A2 dm2) : GL E b9 nL pc lv st mm A dm := by
  obtain ⟨p, l', e, R, s, m, args, below, meth, c, Q, K', A0, res, mo, fA, fd⟩ := E
  obtain ⟨rfl, rfl, rfl, rfl⟩ := X
  obtain ⟨hd, hnx⟩ := Bx2.dec B h
  obtain ⟨rfl, rfl⟩ := hnx
  subst hst
  subst h2
  intro H locs ls hg hP hS hl
  have hgd : (A.1 ≤ A2.1 ∧ A.2.1 ≤ A2.2.1) ∧ A2.1 ≤ fA.1 ∧ A2.2.1 ≤ fA.2.1 := by
    rcases hm with ⟨h7, h8⟩ | ⟨r9, m9, f9, d9, h7, h8⟩
    · rw [h7, h8]
      exact ⟨⟨Nat.le_refl _, Nat.le_refl _⟩, hg.2.2⟩
    · obtain ⟨-, -, rfl, -⟩ := h7
      exact h8
  have hc := hc hgd.1.1 hgd.1.2
  have hrl : (rest.map (cvv (kc K'))).map (fun v => v.category) = rest.map (fun v => v.category) := by rw [List.map_map]; congr 1; funext v; exact cvv_cat (kc K') v
  have hrmm : A.1 - A0.1 + (A2.1 - A.1) ≤ R.cells ∧ A.2.1 - A0.2.1 + (A2.2.1 - A.2.1) ≤ R.slots := by
    have h1 := B.rm
    have h3 := hg.2.1
    omega
  have hk : ∀ (H1 : Heap) (locs1 : List Loc), inv2 A0 A2 fA → va_P K'.2.2.1 zcls (w2 K' mm2 A2 dm2) H1 → va_S (Ax K') s.heap H1 locs1 → W p l' e R s m args below meth c H1 locs1 (A2.1 - A0.1) (A2.2.1 - A0.2.1) Q (F0 m (pc + 3) ls ((r.map (cvv (kc K'))).toList ++ rest.map (cvv (kc K')))) := by
    intro H1 locs1 hg1 hP1 hS1
    have := k H1 locs1 ls hg1 hP1 hS1 hl
    rw [List.map_append] at this
    cases r <;> exact this
  have hrec : ∃ cell : Cell, H[adr K' q]? = some cell ∧ cell.vm.isStatics = false ∧ s.vm.findClass y.cls = some cell.cls := by
    obtain ⟨j, hj1, hj2⟩ := ow_at A (okd_liv hq hci)
    have hg1 := hj1 K' mm dm
    rw [cld_obj (zcls_lt hx) hq] at hg1
    rw [← hxc]
    exact va_recv B.kk hP hx hg1
  refine w_hz B hg hP fun hz => ?_
  exact z2call B hg hS hgd (va_runV (C := y.cls) (b := adr K' q) (As := as.map (cvv (kc K'))) (rest := rest.map (cvv (kc K'))) ⟨B.1, rfl, B.ml, B.hown, B.tw⟩ hc ⟨callB_of n B.tw (tw_good hM.1) rfl rfl rfl (B.tw _ hM.2.2.2) (B.tw _ hw.1) hM.2.2.1 hR, B.tw _ hw.2.1, B.tw _ hw.2.2⟩ ⟨Wd2_blind, hrec, Wd2_call B hg.1 hz hP hS _⟩ rfl (by rw [List.length_map]; exact hn) hl.1 (by rw [List.map_append, List.map_reverse]; rfl) (lv_room (by rw [hrl]; exact hW)) hd hrmm) hk
theorem v_callI {E : Ev2} {b9 : Nat} {own : String} {tb : Tb} {nL : Nat} {ret : Option FieldType} {pc nx : Nat} {lv : Lv} {st : List Value} {mm : Mem} {A : AS} {dm : DM} {l : Launch} {K : KF} {fr0 lo0 : Nat} {y : MethodName} {bytes : ByteArray} {maxL n fr lo idx : Nat} {r : Option Value} {mm2 : Mem} {A2 : AS} {dm2 : DM} (q : Nat) (as rest st2 : List Value) (X : Ec2 E l K fr0 lo0) (B : Bx2 E own tb nL ret) (i : Nat) (h : tb[i]? = some (pc, .invokespecial idx, 3, nx)) (hM : MI y bytes maxL none n) (hw : Cond.methodLink own idx y ∈ TW ∧ Cond.instanceMethod y ∈ TW ∧ y.name = "<init>") (hc : Ct2 l K y bytes maxL none fr lo (.ref q :: as) mm A dm r mm2 A2 dm2) (hm : (A2.1 = A.1 ∧ A2.2.1 = A.2.1) ∨ ∃ r9 m9 f9 d9, Rs2 E r9 m9 f9 d9 ∧ ((A.1 ≤ A2.1 ∧ A.2.1 ≤ A2.2.1) ∧ A2.1 ≤ f9.1 ∧ A2.2.1 ≤ f9.2.1)) (hR : fr + 1 ≤ fr0 ∧ 8 + (maxL + 11) + lo ≤ lo0) (hn : as.length = n) (hst : st = as.reverse ++ .ref q :: rest) (hW : (rest.map fun v => v.category).sum ≤ 8) (h2 : st2 = r.toList ++ rest) (k : GL E b9 nL nx lv st2 mm2 A2 dm2) : GL E b9 nL pc lv st mm A dm := by
  obtain ⟨p, l', e, R, s, m, args, below, meth, c, Q, K', A0, res, mo, fA, fd⟩ := E
  obtain ⟨rfl, rfl, rfl, rfl⟩ := X
  obtain ⟨hd, hnx⟩ := Bx2.dec B h
  obtain ⟨rfl, rfl⟩ := hnx
  subst hst
  subst h2
  intro H locs ls hg hP hS hl
  have hgd : (A.1 ≤ A2.1 ∧ A.2.1 ≤ A2.2.1) ∧ A2.1 ≤ fA.1 ∧ A2.2.1 ≤ fA.2.1 := by
    rcases hm with ⟨h7, h8⟩ | ⟨r9, m9, f9, d9, h7, h8⟩
    · rw [h7, h8]
      exact ⟨⟨Nat.le_refl _, Nat.le_refl _⟩, hg.2.2⟩
    · obtain ⟨-, -, rfl, -⟩ := h7
      exact h8
  have hc := hc hgd.1.1 hgd.1.2
  have hrl : (rest.map (cvv (kc K'))).map (fun v => v.category) = rest.map (fun v => v.category) := by rw [List.map_map]; congr 1; funext v; exact cvv_cat (kc K') v
  have hrmm : A.1 - A0.1 + (A2.1 - A.1) ≤ R.cells ∧ A.2.1 - A0.2.1 + (A2.2.1 - A.2.1) ≤ R.slots := by
    have h1 := B.rm
    have h3 := hg.2.1
    omega
  have hk : ∀ (H1 : Heap) (locs1 : List Loc), inv2 A0 A2 fA → va_P K'.2.2.1 zcls (w2 K' mm2 A2 dm2) H1 → va_S (Ax K') s.heap H1 locs1 → W p l' e R s m args below meth c H1 locs1 (A2.1 - A0.1) (A2.2.1 - A0.2.1) Q (F0 m (pc + 3) ls ((r.map (cvv (kc K'))).toList ++ rest.map (cvv (kc K')))) := by
    intro H1 locs1 hg1 hP1 hS1
    have := k H1 locs1 ls hg1 hP1 hS1 hl
    rw [List.map_append] at this
    cases r <;> exact this
  refine w_hz B hg hP fun hz => ?_
  exact z2call B hg hS hgd (va_runI (b := adr K' q) (As := as.map (cvv (kc K'))) (rest := rest.map (cvv (kc K'))) ⟨B.1, rfl, B.ml, B.hown, B.tw⟩ hc ⟨callB_of n B.tw (tw_good hM.1) rfl rfl rfl (B.tw _ hM.2.2.2) (B.tw _ hw.1) hM.2.2.1 hR, hw.2.2, B.tw _ hw.2.1⟩ ⟨Wd2_blind, Wd2_call B hg.1 hz hP hS _⟩ rfl (by rw [List.length_map]; exact hn) hl.1 (by rw [List.map_append, List.map_reverse]; rfl) (lv_room (by rw [hrl]; exact hW)) hd hrmm) hk
theorem v_callC {E : Ev2} {b9 : Nat} {own : String} {tb : Tb} {nL : Nat} {ret : Option FieldType} {pc nx : Nat} {lv : Lv} {st : List Value} {mm : Mem} {A : AS} {dm : DM} {l : Launch} {K : KF} {fr0 lo0 : Nat} {y : MethodName} {bytes : ByteArray} {maxL n fr lo idx : Nat} {rt : Option FieldType} {r : Option Value} {mm2 : Mem} (q : Nat) (as rest st2 : List Value) (X : Ec2 E l K fr0 lo0) (B : Bx2 E own tb nL ret) (i : Nat) (h : tb[i]? = some (pc, .invokevirtual idx, 3, nx)) (hM : MI y bytes maxL rt n) (hcls : y.cls = RX6) (hq : q = A.2.2.2) (hw : Cond.methodLink own idx y ∈ TW ∧ Cond.instanceMethod y ∈ TW ∧ Cond.selects y.cls y y ∈ TW) (hc : Dj (cfg K A.2.2.2) → Ct l (cfg K A.2.2.2) y bytes maxL rt fr lo (.ref 14 :: as) mm r mm2) (hR : fr + 1 ≤ fr0 ∧ 8 + (maxL + 11) + lo ≤ lo0) (hn : as.length = n) (has : ∀ (C C' : Cfg), as.map (cvv C) = as.map (cvv C')) (hrr : ∀ (C C' : Cfg), r.map (cvv C) = r.map (cvv C')) (hst : st = as.reverse ++ .ref q :: rest) (hW : (rest.map fun v => v.category).sum ≤ 8) (h2 : st2 = r.toList ++ rest) (k : GL E b9 nL nx lv st2 mm2 A dm) : GL E b9 nL pc lv st mm A dm := by
  obtain ⟨p, l', e, R, s, m, args, below, meth, c, Q, K', A0, res, mo, fA, fd⟩ := E
  obtain ⟨rfl, rfl, rfl, rfl⟩ := X
  obtain ⟨hd, hnx⟩ := Bx2.dec B h
  obtain ⟨rfl, rfl⟩ := hnx
  subst hst
  subst h2
  subst hq
  intro H locs ls hg hP hS hl
  have hok := hg.1
  have hc := hc (cfg_dj hok)
  have hrl : (rest.map (cvv (kc K'))).map (fun v => v.category) = rest.map (fun v => v.category) := by rw [List.map_map]; congr 1; funext v; exact cvv_cat (kc K') v
  have hb : adr K' A.2.2.2 = (cfg K' A.2.2.2).1 14 := by
    rw [adr_pos hok.1]
    rfl
  have hPc : va_P K'.2.2.1 zcls (wl (cfg K' A.2.2.2) mm) H := fun k9 x hx => hP k9 x (by unfold w2; rw [List.getElem?_append_left (List.getElem?_eq_some_iff.mp hx).1]; exact hx)
  have hrec : ∃ cell : Cell, H[adr K' A.2.2.2]? = some cell ∧ cell.vm.isStatics = false ∧ s.vm.findClass y.cls = some cell.cls := by
    rw [hcls, hb]
    have hx : zcls[6]? = some (RX6, TX6, 7) := rfl
    have h7 := wl_get (C := cfg K' A.2.2.2) (mm := mm) (q := 14) (by decide) (by decide)
    rw [cel_obj (q := 14) (ci := 6) rfl (by decide)] at h7
    exact va_recv B.kk hPc hx h7
  have hsx : Sx (cfg K' A.2.2.2) (Aw (cfg K' A.2.2.2)) s s.heap := ⟨B.sx.1, B.sx.2.1⟩
  have hcall : ∀ U : State, U.heap = H → s.WarmedH U.vm → va_Pc ((Value.ref 14 :: as).map (cvv (cfg K' A.2.2.2))) (Wd (cfg K' A.2.2.2) mm) ((Value.ref 14 :: as).map (cvv (cfg K' A.2.2.2))).toArray U := fun U hU hWm => ⟨rfl, by rw [hU]; exact hPc, va_K.moved hWm.alike B.kk, by rw [hU]; exact hsx.go hWm⟩
  have hroom := B.room hg
  have hrun := va_runV (locs := locs) (H := H) (cells := A.1 - A0.1) (slots := A.2.1 - A0.2.1) (e := e) (below := below) (meth := meth) (C := y.cls) (b := (cfg K' A.2.2.2).1 14) (As := as.map (cvv (cfg K' A.2.2.2))) (rest := rest.map (cvv (kc K'))) (g := F0 m pc ls ((as.reverse ++ Value.ref A.2.2.2 :: rest).map (cvv (kc K')))) ⟨B.1, rfl, B.ml, B.hown, B.tw⟩ hc ⟨callB_of n B.tw (tw_good hM.1) rfl rfl rfl (B.tw _ hM.2.2.2) (B.tw _ hw.1) hM.2.2.1 hR, B.tw _ hw.2.1, B.tw _ hw.2.2⟩ ⟨Wd_blind, by rw [← hb]; exact hrec, hcall⟩ rfl (by rw [List.length_map]; exact hn) hl.1 (by rw [List.map_append, List.map_reverse, has (kc K') (cfg K' A.2.2.2), ← hb]; rfl) (lv_room (by rw [hrl]; exact hW)) hd hroom
  intro T hT Y
  obtain ⟨v, st₀, t, T', L, h0, X', hL, e1, e2, ⟨hv, hWd, hF⟩, hst⟩ := hrun T hT Y
  cases hv
  have hAA : ∀ q, Aw (cfg K' A.2.2.2) q → Ax K' q := fun q hq => by
    obtain ⟨c9, h5, h6, rfl⟩ := hq
    show K'.1 ≤ K'.1 + (A.2.2.2 - 1) + (c9 - 14)
    omega
  obtain ⟨g1, g2, hS1⟩ := kp_keep h0 e1 hS (fun q _ h => hAA q h) hAA hL hF
  have hP2 : va_P K'.2.2.1 zcls (w2 K' mm2 A dm) T'.heap := by
    intro k9 x hx
    by_cases hl9 : k9 < 119
    · unfold w2 at hx
      rw [List.getElem?_append_left (by rw [wl_len]; exact hl9)] at hx
      rw [e1]
      exact hWd.1 k9 x hx
    · have hx' : (w2 K' mm A dm)[k9]? = some x := by
        unfold w2 at hx ⊢
        rw [List.getElem?_append_right (by rw [wl_len]; omega), wl_len] at hx ⊢
        exact hx
      have hq9 := hP k9 x hx'
      refine hq9.kept (g2 x.1 hq9.lt ?_)
      rintro ⟨c9, h5, h6, h7⟩
      have h8 := wl_get (C := cfg K' A.2.2.2) (mm := mm) h5 h6
      have h9 : (w2 K' mm A dm)[c9 - 14]? = some ((cfg K' A.2.2.2).1 c9, cel (cfg K' A.2.2.2) mm c9) := by
        unfold w2
        rw [List.getElem?_append_left (by rw [wl_len]; omega)]
        exact h8
      have h10 := (w2_D (K := K') (mm := mm) (dm := dm) hok).1 (c9 - 14) k9 _ _ h9 hx' h7
      omega
  have hgo := k T'.heap (locs ++ L) ls hg hP2 hS1 hl
  rw [List.map_append] at hgo
  have hvs : (r.map (cvv (cfg K' A.2.2.2))).toList = r.toList.map (cvv (kc K')) := by
    rw [hrr (cfg K' A.2.2.2) (kc K')]
    cases r <;> rfl
  obtain ⟨t2, a1, b1⟩ := hgo T' rfl X'
  refine ⟨t2, hst t2 ?_, b1⟩
  rw [hvs]
  exact a1
