theorem z_i2c {E : Ev} {own : String} {tb : Tb} {nL : Nat} {ret : Option FieldType} {pc nx : Nat} {lv : Lv} {st : List Value} {mm : Mem} {x : Int32} (B : Bx E own tb nL ret) (i : Nat) (h : tb[i]? = some (pc, .i2c, 1, nx)) (k : G E nL nx lv (.int ((x.toUInt32 % 65536).toInt32) :: st) mm) : G E nL pc lv (.int x :: st) mm := by
  obtain ⟨p, l, e, R, s, m, args, below, meth, c, Q, C, kc, ks, A, res, mo⟩ := E
  obtain ⟨hd, hn⟩ := Bx.dec B h
  subst hn
  intro H locs ls hP hS hl
  exact lv_i2c B.1 rfl hd rfl (k H locs ls hP hS hl)
theorem z_gscs {E : Ev} {own : String} {tb : Tb} {nL : Nat} {ret : Option FieldType} {pc nx : Nat} {lv : Lv} {st : List Value} {mm : Mem} {n : Nat} (B : Bx E own tb nL ret) (i : Nat) (h : tb[i]? = some (pc, .getstatic n, 3, nx)) (hw : Cond.fieldLink own n "java/lang/String" "COMPACT_STRINGS" "Z" ∈ TW) (k : G E nL nx lv (.int 1 :: st) mm) : G E nL pc lv st mm := by
  obtain ⟨p, l, e, R, s, m, args, below, meth, c, Q, C, kc, ks, A, res, mo⟩ := E
  obtain ⟨hd, hn⟩ := Bx.dec B h
  subst hn
  intro H locs ls hP hS hl
  exact va_gets (A := A) B.1 rfl B.sx.2.2.1 hS B.hown (B.tw _ hw) (fun _ h => h) hd (k H locs ls hP hS hl)
theorem z_gssf {E : Ev} {own : String} {tb : Tb} {nL : Nat} {ret : Option FieldType} {pc nx : Nat} {lv : Lv} {st : List Value} {mm : Mem} {n : Nat} (B : Bx E own tb nL ret) (i : Nat) (h : tb[i]? = some (pc, .getstatic n, 3, nx)) (hw : Cond.fieldLink own n "jdk/internal/util/Preconditions" "SIOOBE_FORMATTER" "Ljava/util/function/BiFunction;" ∈ TW) (k : ∀ v : Value, v = .null ∨ v = .ref 3000 → G E nL nx lv (v :: st) mm) : G E nL pc lv st mm := by
  obtain ⟨p, l, e, R, s, m, args, below, meth, c, Q, C, kc, ks, A, res, mo⟩ := E
  obtain ⟨hd, hn⟩ := Bx.dec B h
  subst hn
  intro H locs ls hP hS hl
  rcases B.sx.2.2.2.2.1 with hz | hz
  · exact va_gets (A := A) B.1 rfl hz hS B.hown (B.tw _ hw) (fun _ h => h) hd (k .null (Or.inl rfl) H locs ls hP hS hl)
  · exact va_gets (A := A) B.1 rfl hz hS B.hown (B.tw _ hw) (fun _ h => h) hd (k (.ref 3000) (Or.inr rfl) H locs ls hP hS hl)
theorem z_scod {E : Ev} {own : String} {tb : Tb} {nL : Nat} {ret : Option FieldType} {pc nx : Nat} {lv : Lv} {st : List Value} {mm : Mem} {n : Nat} (q : Nat) (hq : q < 9) (B : Bx E own tb nL ret) (i : Nat) (h : tb[i]? = some (pc, .getfield n, 3, nx)) (hw : Cond.fieldLink own n "java/lang/String" "coder" "B" ∈ TW) (k : G E nL nx lv (.int 0 :: st) mm) : G E nL pc lv (.ref (1000 + q) :: st) mm := by
  obtain ⟨p, l, e, R, s, m, args, below, meth, c, Q, C, kc, ks, A, res, mo⟩ := E
  obtain ⟨hd, hn⟩ := Bx.dec B h
  subst hn
  intro H locs ls hP hS hl
  exact vk_getf (A := A) B.1 rfl (B.sx.1.1 q hq).2.1 hS B.hown (B.tw _ hw) (fun _ h => h) hd (k H locs ls hP hS hl)
theorem z_sval {E : Ev} {own : String} {tb : Tb} {nL : Nat} {ret : Option FieldType} {pc nx : Nat} {lv : Lv} {st : List Value} {mm : Mem} {n : Nat} (q : Nat) (hq : q < 9) (B : Bx E own tb nL ret) (i : Nat) (h : tb[i]? = some (pc, .getfield n, 3, nx)) (hw : Cond.fieldLink own n "java/lang/String" "value" "[B" ∈ TW) (k : G E nL nx lv (.ref (2000 + q) :: st) mm) : G E nL pc lv (.ref (1000 + q) :: st) mm := by
  obtain ⟨p, l, e, R, s, m, args, below, meth, c, Q, C, kc, ks, A, res, mo⟩ := E
  obtain ⟨hd, hn⟩ := Bx.dec B h
  subst hn
  intro H locs ls hP hS hl
  exact vk_getf (A := A) B.1 rfl (B.sx.1.1 q hq).2.2.1 hS B.hown (B.tw _ hw) (fun _ h => h) hd (k H locs ls hP hS hl)
theorem z_stln {E : Ev} {own : String} {tb : Tb} {nL : Nat} {ret : Option FieldType} {pc nx : Nat} {lv : Lv} {st : List Value} {mm : Mem} (q : Nat) (hq : q < 9) (B : Bx E own tb nL ret) (i : Nat) (h : tb[i]? = some (pc, .arraylength, 1, nx)) (k : G E nL nx lv (.int (nI (ztl.getD q 0)) :: st) mm) : G E nL pc lv (.ref (2000 + q) :: st) mm := by
  obtain ⟨p, l, e, R, s, m, args, below, meth, c, Q, C, kc, ks, A, res, mo⟩ := E
  obtain ⟨hd, hn⟩ := Bx.dec B h
  subst hn
  intro H locs ls hP hS hl
  exact va_tlen (A := A) B.1 rfl (B.sx.1.1 q hq).2.2.2 hS rfl hd (k H locs ls hP hS hl)
theorem z_stba {E : Ev} {own : String} {tb : Tb} {nL : Nat} {ret : Option FieldType} {pc nx : Nat} {lv : Lv} {st : List Value} {mm : Mem} {x : Int32} (q : Nat) (hq : q < 9) (B : Bx E own tb nL ret) (i : Nat) (h : tb[i]? = some (pc, .baload, 1, nx)) (hx : inb x (ztl.getD q 0) = true) (k : G E nL nx lv (.int ((ztb.getD q []).getD x.toNatClampNeg 0) :: st) mm) : G E nL pc lv (.int x :: .ref (2000 + q) :: st) mm := by
  obtain ⟨p, l, e, R, s, m, args, below, meth, c, Q, C, kc, ks, A, res, mo⟩ := E
  obtain ⟨hd, hn⟩ := Bx.dec B h
  subst hn
  intro H locs ls hP hS hl
  exact va_tb (A := A) B.1 rfl (B.sx.1.1 q hq).2.2.2 hS (inb_in hx) rfl hd (k H locs ls hP hS hl)
theorem z_callVs {E : Ev} {own : String} {tb : Tb} {nL : Nat} {ret : Option FieldType} {pc nx : Nat} {lv : Lv} {st : List Value} {mm : Mem} {l : Launch} {C : Cfg} {R : Room} {y : MethodName} {bytes : ByteArray} {maxL n fr lo idx : Nat} {rt : Option FieldType} {r : Option Value} {mm2 : Mem} (q : Nat) (hq : q < 9) (as rest st2 : List Value) (X : Ec E l C R) (B : Bx E own tb nL ret) (i : Nat) (h : tb[i]? = some (pc, .invokevirtual idx, 3, nx)) (hyc : y.cls = "java/lang/String") (hM : MI y bytes maxL rt n) (hw : Cond.methodLink own idx y ∈ TW ∧ Cond.instanceMethod y ∈ TW ∧ Cond.selects y.cls y y ∈ TW) (hc : Ct l C y bytes maxL rt fr lo (.ref (1000 + q) :: as) mm r mm2) (hR : fr + 1 ≤ R.frames ∧ 8 + (maxL + 11) + lo ≤ R.locals) (hn : as.length = n) (hst : st = as.reverse ++ .ref (1000 + q) :: rest) (hW : (rest.map fun v => v.category).sum ≤ 8) (h2 : st2 = r.toList ++ rest) (k : G E nL nx lv st2 mm2) : G E nL pc lv st mm := by
  obtain ⟨p, l', e, R', s, m, args, below, meth, c, Q, C', kc, ks, A, res, mo⟩ := E
  obtain ⟨rfl, rfl, rfl⟩ := X
  obtain ⟨hd, hnx⟩ := Bx.dec B h
  obtain ⟨rfl, rfl⟩ := hnx
  subst hst
  subst h2
  intro H locs ls hP hS hl
  have hrl : (rest.map (cvv C')).map (fun v => v.category) = rest.map (fun v => v.category) := by rw [List.map_map]; congr 1; funext v; exact cvv_cat C' v
  have hk : ∀ (H1 : Heap) (locs1 : List Loc), va_P C'.2.1 zcls (wl C' mm2) H1 → va_S A s.heap H1 locs1 → W p l' e R' s m args below meth c H1 locs1 kc ks Q (F0 m (pc + 3) ls ((r.map (cvv C')).toList ++ rest.map (cvv C'))) := by
    intro H1 locs1 hP1 hS1
    have := k H1 locs1 ls hP1 hS1 hl
    rw [List.map_append] at this
    cases r <;> exact this
  have hrec : ∃ cell : Cell, H[C'.1 (1000 + q)]? = some cell ∧ cell.vm.isStatics = false ∧ s.vm.findClass y.cls = some cell.cls := by
    rw [hyc]
    exact vk_recv (A := A) (i := q) (adK := fun i => C'.1 (1000 + i)) B.sx.1 hq hS
  refine zcall B hS (va_runV (C := y.cls) (b := C'.1 (1000 + q)) (As := as.map (cvv C')) (rest := rest.map (cvv C')) ⟨B.1, rfl, B.ml, B.hown, B.tw⟩ hc ⟨callB_of n B.tw (tw_good hM.1) rfl rfl rfl (B.tw _ hM.2.2.2) (B.tw _ hw.1) hM.2.2.1 hR, B.tw _ hw.2.1, B.tw _ hw.2.2⟩ ⟨Wd_blind, hrec, Wd_call B hP hS (.ref (1000 + q) :: as)⟩ rfl (by rw [List.length_map]; exact hn) hl.1 (by rw [List.map_append, List.map_reverse]; rfl) (lv_room (by rw [hrl]; exact hW)) hd B.rm) hk
def RJ0 : String := "java/lang/String"
def RJ1 : String := "java/lang/StringLatin1"
def RJ3 : String := "jdk/internal/util/Preconditions"
abbrev cJ0_coder_7d493 : ByteArray := prog_16_method_152_code
def yJ0_coder_7d493 : MethodName := ⟨RJ0, "coder", "()B"⟩
def tbJ0_coder_7d493 : Tb := [(0, .getstatic 38, 3, 3), (3, .ifCond .eq 10, 3, 6), (6, .aload_n 0, 1, 7), (7, .getfield 15, 3, 10), (10, .goto 4, 3, 13), (13, .iconst 1, 1, 14), (14, .ireturn, 1, 15)]
theorem dtJ0_coder_7d493 : ∀ q ∈ tbJ0_coder_7d493, decode cJ0_coder_7d493 q.1 = .ok (q.2.1, q.2.2.1) ∧ q.1 + q.2.2.1 = q.2.2.2 := by decide +kernel
theorem miJ0_coder_7d493 : MI yJ0_coder_7d493 cJ0_coder_7d493 1 (some .byte) 0 := ⟨tw_mem (List.mem_of_getElem? (i := 413) (by decide +kernel)) rfl, by decide, by decide +kernel, tw_mem (List.mem_of_getElem? (i := 79) (by decide +kernel)) rfl⟩
abbrev rmJ0_coder_7d493 : Room := { frames := 0, cells := 0, slots := 0, locals := 0 }
def wJ0_coder_7d493 : List Cond := [.fieldLink "java/lang/String" 38 "java/lang/String" "COMPACT_STRINGS" "Z", .fieldLink "java/lang/String" 15 "java/lang/String" "coder" "B"]
theorem iJ0_coder_7d493 : ∀ w ∈ wJ0_coder_7d493, w ∈ TW := tw_of (ids := [414, 1368]) (by decide +kernel)
theorem ctJ0_coder_7d493 {l : Launch} {C : Cfg} (hj : Dj C) {mm : Mem} {q : Nat} (hq : q < 9) : Ct l C yJ0_coder_7d493 cJ0_coder_7d493 1 (some .byte) 0 0 [.ref (1000 + q)] mm (some (.int 0)) mm := by
  refine Ct.of (tb := tbJ0_coder_7d493) hj miJ0_coder_7d493.2.1 miJ0_coder_7d493.1 dtJ0_coder_7d493 (Nat.le_of_ble_eq_true rfl) ?_
  intro E B hQ hr X
  show G E 1 0 [(0, .ref (1000 + q))] [] mm
  refine z_gscs B 0 rfl (iJ0_coder_7d493 _ (List.mem_of_getElem? (i := 0) rfl)) ?_
  refine z_if_eq_f B 1 rfl 13 (by decide) (by decide) ?_
  refine z_aload_n B 2 rfl 0 0 rfl rfl ?_
  refine z_scod q hq B 3 rfl (iJ0_coder_7d493 _ (List.mem_of_getElem? (i := 1) rfl)) ?_
  refine z_goto B 4 rfl 14 (by decide) ?_
  exact z_iret B 6 rfl rfl hQ hr
abbrev cJ0_length_8abf5 : ByteArray := prog_16_method_54_code
def yJ0_length_8abf5 : MethodName := ⟨RJ0, "length", "()I"⟩
def tbJ0_length_8abf5 : Tb := [(0, .aload_n 0, 1, 1), (1, .getfield 9, 3, 4), (4, .arraylength, 1, 5), (5, .aload_n 0, 1, 6), (6, .invokevirtual 335, 3, 9), (9, .ishr, 1, 10), (10, .ireturn, 1, 11)]
theorem dtJ0_length_8abf5 : ∀ q ∈ tbJ0_length_8abf5, decode cJ0_length_8abf5 q.1 = .ok (q.2.1, q.2.2.1) ∧ q.1 + q.2.2.1 = q.2.2.2 := by decide +kernel
theorem miJ0_length_8abf5 : MI yJ0_length_8abf5 cJ0_length_8abf5 1 (some .int) 0 := ⟨tw_mem (List.mem_of_getElem? (i := 409) (by decide +kernel)) rfl, by decide, by decide +kernel, tw_mem (List.mem_of_getElem? (i := 79) (by decide +kernel)) rfl⟩
abbrev rmJ0_length_8abf5 : Room := { frames := 1, cells := 0, slots := 0, locals := 20 }
def wJ0_length_8abf5 : List Cond := [.fieldLink "java/lang/String" 9 "java/lang/String" "value" "[B", .methodLink "java/lang/String" 335 yJ0_coder_7d493, .instanceMethod yJ0_coder_7d493, .selects "java/lang/String" yJ0_coder_7d493 yJ0_coder_7d493]
theorem iJ0_length_8abf5 : ∀ w ∈ wJ0_length_8abf5, w ∈ TW := tw_of (ids := [1367, 410, 411, 412]) (by decide +kernel)
theorem ctJ0_length_8abf5 {l : Launch} {C : Cfg} (hj : Dj C) {mm : Mem} {q : Nat} (hq : q < 9) : Ct l C yJ0_length_8abf5 cJ0_length_8abf5 1 (some .int) 1 20 [.ref (1000 + q)] mm (some (.int (nI (ztl.getD q 0)))) mm := by
  refine Ct.of (tb := tbJ0_length_8abf5) hj miJ0_length_8abf5.2.1 miJ0_length_8abf5.1 dtJ0_length_8abf5 (Nat.le_of_ble_eq_true rfl) ?_
  intro E B hQ hr X
  show G E 1 0 [(0, .ref (1000 + q))] [] mm
  refine z_aload_n B 0 rfl 0 0 rfl rfl ?_
  refine z_sval q hq B 1 rfl (iJ0_length_8abf5 _ (List.mem_of_getElem? (i := 0) rfl)) ?_
  refine z_stln q hq B 2 rfl ?_
  refine z_aload_n B 3 rfl 0 0 rfl rfl ?_
  refine z_callVs q hq [] [.int (nI (ztl.getD q 0))] [.int 0, .int (nI (ztl.getD q 0))] X B 4 rfl rfl miJ0_coder_7d493 ⟨(iJ0_length_8abf5 _ (List.mem_of_getElem? (i := 1) rfl)), (iJ0_length_8abf5 _ (List.mem_of_getElem? (i := 2) rfl)), (iJ0_length_8abf5 _ (List.mem_of_getElem? (i := 3) rfl))⟩ (ctJ0_coder_7d493 hj hq) ⟨Nat.le_of_ble_eq_true rfl, Nat.le_of_ble_eq_true rfl⟩ rfl rfl (Nat.le_of_ble_eq_true rfl) rfl ?_
  refine z_ishr B 5 rfl ?_
  refine z_top (x := nI (ztl.getD q 0)) ?_ ?_
  · rw [show ((0 : Int32) &&& 31) = 0 from by decide]
    exact Int32.shiftRight_zero.symm
  · exact z_iret B 6 rfl rfl hQ hr
abbrev cJ0_isLatin1_aae02 : ByteArray := prog_16_method_154_code
def yJ0_isLatin1_aae02 : MethodName := ⟨RJ0, "isLatin1", "()Z"⟩
def tbJ0_isLatin1_aae02 : Tb := [(0, .getstatic 38, 3, 3), (3, .ifCond .eq 14, 3, 6), (6, .aload_n 0, 1, 7), (7, .getfield 15, 3, 10), (10, .ifCond .ne 7, 3, 13), (13, .iconst 1, 1, 14), (14, .goto 4, 3, 17), (17, .iconst 0, 1, 18), (18, .ireturn, 1, 19)]
theorem dtJ0_isLatin1_aae02 : ∀ q ∈ tbJ0_isLatin1_aae02, decode cJ0_isLatin1_aae02 q.1 = .ok (q.2.1, q.2.2.1) ∧ q.1 + q.2.2.1 = q.2.2.2 := by decide +kernel
theorem miJ0_isLatin1_aae02 : MI yJ0_isLatin1_aae02 cJ0_isLatin1_aae02 1 (some .boolean) 0 := ⟨tw_mem (List.mem_of_getElem? (i := 423) (by decide +kernel)) rfl, by decide, by decide +kernel, tw_mem (List.mem_of_getElem? (i := 79) (by decide +kernel)) rfl⟩
abbrev rmJ0_isLatin1_aae02 : Room := { frames := 0, cells := 0, slots := 0, locals := 0 }
def wJ0_isLatin1_aae02 : List Cond := [.fieldLink "java/lang/String" 38 "java/lang/String" "COMPACT_STRINGS" "Z", .fieldLink "java/lang/String" 15 "java/lang/String" "coder" "B"]
theorem iJ0_isLatin1_aae02 : ∀ w ∈ wJ0_isLatin1_aae02, w ∈ TW := tw_of (ids := [414, 1368]) (by decide +kernel)
theorem ctJ0_isLatin1_aae02 {l : Launch} {C : Cfg} (hj : Dj C) {mm : Mem} {q : Nat} (hq : q < 9) : Ct l C yJ0_isLatin1_aae02 cJ0_isLatin1_aae02 1 (some .boolean) 0 0 [.ref (1000 + q)] mm (some (.int 1)) mm := by
  refine Ct.of (tb := tbJ0_isLatin1_aae02) hj miJ0_isLatin1_aae02.2.1 miJ0_isLatin1_aae02.1 dtJ0_isLatin1_aae02 (Nat.le_of_ble_eq_true rfl) ?_
  intro E B hQ hr X
  show G E 1 0 [(0, .ref (1000 + q))] [] mm
  refine z_gscs B 0 rfl (iJ0_isLatin1_aae02 _ (List.mem_of_getElem? (i := 0) rfl)) ?_
  refine z_if_eq_f B 1 rfl 17 (by decide) (by decide) ?_
  refine z_aload_n B 2 rfl 0 0 rfl rfl ?_
  refine z_scod q hq B 3 rfl (iJ0_isLatin1_aae02 _ (List.mem_of_getElem? (i := 1) rfl)) ?_
  refine z_if_ne_f B 4 rfl 17 (by decide) rfl ?_
  refine z_iconst 1 B 5 rfl (by decide) ?_
  refine z_goto B 6 rfl 18 (by decide) ?_
  exact z_iret B 8 rfl (by decide) hQ hr
abbrev cJ3_checkIndex_8e157 : ByteArray := prog_23_method_11_code
def yJ3_checkIndex_8e157 : MethodName := ⟨RJ3, "checkIndex", "(IILjava/util/function/BiFunction;)I"⟩
def tbJ3_checkIndex_8e157 : Tb := [(0, .iload_n 0, 1, 1), (1, .ifCond .lt 8, 3, 4), (4, .iload_n 0, 1, 5), (5, .iload_n 1, 1, 6), (6, .if_icmp .lt 10, 3, 9), (9, .aload_n 2, 1, 10), (10, .iload_n 0, 1, 11), (11, .iload_n 1, 1, 12), (12, .invokestatic 95, 3, 15), (15, .athrow, 1, 16), (16, .iload_n 0, 1, 17), (17, .ireturn, 1, 18)]
theorem dtJ3_checkIndex_8e157 : ∀ q ∈ tbJ3_checkIndex_8e157, decode cJ3_checkIndex_8e157 q.1 = .ok (q.2.1, q.2.2.1) ∧ q.1 + q.2.2.1 = q.2.2.2 := by decide +kernel
theorem miJ3_checkIndex_8e157 : MI yJ3_checkIndex_8e157 cJ3_checkIndex_8e157 3 (some .int) 3 := ⟨tw_mem (List.mem_of_getElem? (i := 434) (by decide +kernel)) rfl, by decide, by decide +kernel, tw_mem (List.mem_of_getElem? (i := 81) (by decide +kernel)) rfl⟩
abbrev rmJ3_checkIndex_8e157 : Room := { frames := 0, cells := 0, slots := 0, locals := 0 }
theorem ctJ3_checkIndex_8e157 {l : Launch} {C : Cfg} (hj : Dj C) {mm : Mem} {x n : Int32} {v : Value} (hv : v = .null ∨ v = .ref 3000) (h0 : ¬ x < 0) (h1 : x < n) : Ct l C yJ3_checkIndex_8e157 cJ3_checkIndex_8e157 3 (some .int) 0 0 [.int x, .int n, v] mm (some (.int x)) mm := by
  refine Ct.of (tb := tbJ3_checkIndex_8e157) hj miJ3_checkIndex_8e157.2.1 miJ3_checkIndex_8e157.1 dtJ3_checkIndex_8e157 (by rcases hv with rfl | rfl <;> exact Nat.le_of_ble_eq_true rfl) ?_
  intro E B hQ hr X
  show G E 3 0 [(0, .int x), (1, .int n), (2, v)] [] mm
  refine z_iload_n B 0 rfl 0 0 rfl rfl ?_
  refine z_if_lt_f B 1 rfl 9 (by decide) h0 ?_
  refine z_iload_n B 2 rfl 0 0 rfl rfl ?_
  refine z_iload_n B 3 rfl 1 1 rfl rfl ?_
  refine z_icmp_lt_t B 4 rfl 16 (by decide) h1 ?_
  refine z_iload_n B 10 rfl 0 0 rfl rfl ?_
  exact z_iret B 11 rfl rfl hQ hr
abbrev cJ0_checkIndex_df160 : ByteArray := prog_16_method_155_code
def yJ0_checkIndex_df160 : MethodName := ⟨RJ0, "checkIndex", "(II)V"⟩
def tbJ0_checkIndex_df160 : Tb := [(0, .iload_n 0, 1, 1), (1, .iload_n 1, 1, 2), (2, .getstatic 1053, 3, 5), (5, .invokestatic 1059, 3, 8), (8, .pop, 1, 9), (9, .return_, 1, 10)]
theorem dtJ0_checkIndex_df160 : ∀ q ∈ tbJ0_checkIndex_df160, decode cJ0_checkIndex_df160 q.1 = .ok (q.2.1, q.2.2.1) ∧ q.1 + q.2.2.1 = q.2.2.2 := by decide +kernel
theorem miJ0_checkIndex_df160 : MI yJ0_checkIndex_df160 cJ0_checkIndex_df160 2 none 2 := ⟨tw_mem (List.mem_of_getElem? (i := 429) (by decide +kernel)) rfl, by decide, by decide +kernel, tw_mem (List.mem_of_getElem? (i := 79) (by decide +kernel)) rfl⟩
abbrev rmJ0_checkIndex_df160 : Room := { frames := 1, cells := 0, slots := 0, locals := 22 }
def wJ0_checkIndex_df160 : List Cond := [.fieldLink "java/lang/String" 1053 "jdk/internal/util/Preconditions" "SIOOBE_FORMATTER" "Ljava/util/function/BiFunction;", .methodLink "java/lang/String" 1059 yJ3_checkIndex_8e157, .static yJ3_checkIndex_8e157]
theorem iJ0_checkIndex_df160 : ∀ w ∈ wJ0_checkIndex_df160, w ∈ TW := tw_of (ids := [430, 432, 433]) (by decide +kernel)
theorem ctJ0_checkIndex_df160 {l : Launch} {C : Cfg} (hj : Dj C) {mm : Mem} {x n : Int32} (h0 : ¬ x < 0) (h1 : x < n) : Ct l C yJ0_checkIndex_df160 cJ0_checkIndex_df160 2 none 1 22 [.int x, .int n] mm none mm := by
  refine Ct.of (tb := tbJ0_checkIndex_df160) hj miJ0_checkIndex_df160.2.1 miJ0_checkIndex_df160.1 dtJ0_checkIndex_df160 (Nat.le_of_ble_eq_true rfl) ?_
  intro E B hQ hr X
  show G E 2 0 [(0, .int x), (1, .int n)] [] mm
  refine z_iload_n B 0 rfl 0 0 rfl rfl ?_
  refine z_iload_n B 1 rfl 1 1 rfl rfl ?_
  refine z_gssf B 2 rfl (iJ0_checkIndex_df160 _ (List.mem_of_getElem? (i := 0) rfl)) (fun v hv => ?_)
  refine z_callS [.int x, .int n, v] [] [.int x] X B 3 rfl miJ3_checkIndex_8e157 ⟨(iJ0_checkIndex_df160 _ (List.mem_of_getElem? (i := 1) rfl)), (iJ0_checkIndex_df160 _ (List.mem_of_getElem? (i := 2) rfl))⟩ (ctJ3_checkIndex_8e157 hj hv h0 h1) ⟨Nat.le_of_ble_eq_true rfl, Nat.le_of_ble_eq_true rfl⟩ rfl rfl (Nat.le_of_ble_eq_true rfl) rfl ?_
  refine z_pop B 4 rfl rfl ?_
  exact z_vret B 5 rfl hQ hr
abbrev cJ1_charAt_3b067 : ByteArray := prog_17_method_2_code
def yJ1_charAt_3b067 : MethodName := ⟨RJ1, "charAt", "([BI)C"⟩
def tbJ1_charAt_3b067 : Tb := [(0, .iload_n 1, 1, 1), (1, .aload_n 0, 1, 2), (2, .arraylength, 1, 3), (3, .invokestatic 9, 3, 6), (6, .aload_n 0, 1, 7), (7, .iload_n 1, 1, 8), (8, .baload, 1, 9), (9, .sipush 255, 3, 12), (12, .iand, 1, 13), (13, .i2c, 1, 14), (14, .ireturn, 1, 15)]
theorem dtJ1_charAt_3b067 : ∀ q ∈ tbJ1_charAt_3b067, decode cJ1_charAt_3b067 q.1 = .ok (q.2.1, q.2.2.1) ∧ q.1 + q.2.2.1 = q.2.2.2 := by decide +kernel
theorem miJ1_charAt_3b067 : MI yJ1_charAt_3b067 cJ1_charAt_3b067 2 (some .char) 2 := ⟨tw_mem (List.mem_of_getElem? (i := 426) (by decide +kernel)) rfl, by decide, by decide +kernel, tw_mem (List.mem_of_getElem? (i := 80) (by decide +kernel)) rfl⟩
abbrev rmJ1_charAt_3b067 : Room := { frames := 2, cells := 0, slots := 0, locals := 43 }
def wJ1_charAt_3b067 : List Cond := [.methodLink "java/lang/StringLatin1" 9 yJ0_checkIndex_df160, .static yJ0_checkIndex_df160]
theorem iJ1_charAt_3b067 : ∀ w ∈ wJ1_charAt_3b067, w ∈ TW := tw_of (ids := [427, 428]) (by decide +kernel)
theorem zb_ok : ∀ q, q < 9 → ∀ j, j < ztl.getD q 0 → (((((ztb.getD q []).getD j 0) &&& 255).toUInt32 % 65536).toInt32 = (ztb.getD q []).getD j 0 ∧ narrow .char (.int ((ztb.getD q []).getD j 0)) = .int ((ztb.getD q []).getD j 0)) := by decide +kernel
theorem inb_lt {x : Int32} {n : Nat} (hn : n < 2 ^ 31) (h : inb x n = true) : ¬ x < 0 ∧ x < nI n ∧ x.toNatClampNeg < n := by
  obtain ⟨j, hj, rfl⟩ := vp_in_of (inb_in h) hn
  exact ⟨nI_pos (by omega), nI_lt hj hn, by rw [nI_clamp (by omega)]; exact hj⟩
theorem ztl_lt : ∀ q, q < 9 → ztl.getD q 0 < 2 ^ 31 := by decide +kernel
theorem ctJ1_charAt_3b067 {l : Launch} {C : Cfg} (hj : Dj C) {mm : Mem} {q : Nat} (hq : q < 9) {x : Int32} (hx : inb x (ztl.getD q 0) = true) : Ct l C yJ1_charAt_3b067 cJ1_charAt_3b067 2 (some .char) 2 43 [.ref (2000 + q), .int x] mm (some (.int ((ztb.getD q []).getD x.toNatClampNeg 0))) mm := by
  refine Ct.of (tb := tbJ1_charAt_3b067) hj miJ1_charAt_3b067.2.1 miJ1_charAt_3b067.1 dtJ1_charAt_3b067 (Nat.le_of_ble_eq_true rfl) ?_
  intro E B hQ hr X
  show G E 2 0 [(0, .ref (2000 + q)), (1, .int x)] [] mm
  obtain ⟨h0, h1, h2⟩ := inb_lt (ztl_lt q hq) hx
  obtain ⟨g1, g2⟩ := zb_ok q hq _ h2
  refine z_iload_n B 0 rfl 1 1 rfl rfl ?_
  refine z_aload_n B 1 rfl 0 0 rfl rfl ?_
  refine z_stln q hq B 2 rfl ?_
  refine z_callS [.int x, .int (nI (ztl.getD q 0))] [] [] X B 3 rfl miJ0_checkIndex_df160 ⟨(iJ1_charAt_3b067 _ (List.mem_of_getElem? (i := 0) rfl)), (iJ1_charAt_3b067 _ (List.mem_of_getElem? (i := 1) rfl))⟩ (ctJ0_checkIndex_df160 hj h0 h1) ⟨Nat.le_of_ble_eq_true rfl, Nat.le_of_ble_eq_true rfl⟩ rfl rfl (Nat.le_of_ble_eq_true rfl) rfl ?_
  refine z_aload_n B 4 rfl 0 0 rfl rfl ?_
  refine z_iload_n B 5 rfl 1 1 rfl rfl ?_
  refine z_stba q hq B 6 rfl hx ?_
  refine z_sipush 255 B 7 rfl (by decide) ?_
  refine z_iand B 8 rfl ?_
  refine z_i2c B 9 rfl ?_
  refine z_top g1.symm ?_
  exact z_iret B 10 rfl g2 hQ hr
abbrev cJ0_charAt_5068e : ByteArray := prog_16_method_56_code
def yJ0_charAt_5068e : MethodName := ⟨RJ0, "charAt", "(I)C"⟩
def tbJ0_charAt_5068e : Tb := [(0, .aload_n 0, 1, 1), (1, .invokevirtual 492, 3, 4), (4, .ifCond .eq 12, 3, 7), (7, .aload_n 0, 1, 8), (8, .getfield 9, 3, 11), (11, .iload_n 1, 1, 12), (12, .invokestatic 495, 3, 15), (15, .ireturn, 1, 16), (16, .aload_n 0, 1, 17), (17, .getfield 9, 3, 20), (20, .iload_n 1, 1, 21), (21, .invokestatic 498, 3, 24), (24, .ireturn, 1, 25)]
theorem dtJ0_charAt_5068e : ∀ q ∈ tbJ0_charAt_5068e, decode cJ0_charAt_5068e q.1 = .ok (q.2.1, q.2.2.1) ∧ q.1 + q.2.2.1 = q.2.2.2 := by decide +kernel
theorem miJ0_charAt_5068e : MI yJ0_charAt_5068e cJ0_charAt_5068e 2 (some .char) 1 := ⟨tw_mem (List.mem_of_getElem? (i := 419) (by decide +kernel)) rfl, by decide, by decide +kernel, tw_mem (List.mem_of_getElem? (i := 79) (by decide +kernel)) rfl⟩
abbrev rmJ0_charAt_5068e : Room := { frames := 3, cells := 0, slots := 0, locals := 64 }
def wJ0_charAt_5068e : List Cond := [.methodLink "java/lang/String" 492 yJ0_isLatin1_aae02, .instanceMethod yJ0_isLatin1_aae02, .selects "java/lang/String" yJ0_isLatin1_aae02 yJ0_isLatin1_aae02, .fieldLink "java/lang/String" 9 "java/lang/String" "value" "[B", .methodLink "java/lang/String" 495 yJ1_charAt_3b067, .static yJ1_charAt_3b067]
theorem iJ0_charAt_5068e : ∀ w ∈ wJ0_charAt_5068e, w ∈ TW := tw_of (ids := [420, 421, 422, 1367, 424, 425]) (by decide +kernel)
theorem ctJ0_charAt_5068e {l : Launch} {C : Cfg} (hj : Dj C) {mm : Mem} {q : Nat} (hq : q < 9) {x : Int32} (hx : inb x (ztl.getD q 0) = true) : Ct l C yJ0_charAt_5068e cJ0_charAt_5068e 2 (some .char) 3 64 [.ref (1000 + q), .int x] mm (some (.int ((ztb.getD q []).getD x.toNatClampNeg 0))) mm := by
  refine Ct.of (tb := tbJ0_charAt_5068e) hj miJ0_charAt_5068e.2.1 miJ0_charAt_5068e.1 dtJ0_charAt_5068e (Nat.le_of_ble_eq_true rfl) ?_
  intro E B hQ hr X
  show G E 2 0 [(0, .ref (1000 + q)), (1, .int x)] [] mm
  obtain ⟨h0, h1, h2⟩ := inb_lt (ztl_lt q hq) hx
  obtain ⟨g1, g2⟩ := zb_ok q hq _ h2
  refine z_aload_n B 0 rfl 0 0 rfl rfl ?_
  refine z_callVs q hq [] [] [.int 1] X B 1 rfl rfl miJ0_isLatin1_aae02 ⟨(iJ0_charAt_5068e _ (List.mem_of_getElem? (i := 0) rfl)), (iJ0_charAt_5068e _ (List.mem_of_getElem? (i := 1) rfl)), (iJ0_charAt_5068e _ (List.mem_of_getElem? (i := 2) rfl))⟩ (ctJ0_isLatin1_aae02 hj hq) ⟨Nat.le_of_ble_eq_true rfl, Nat.le_of_ble_eq_true rfl⟩ rfl rfl (Nat.le_of_ble_eq_true rfl) rfl ?_
  refine z_if_eq_f B 2 rfl 16 (by decide) (by decide) ?_
  refine z_aload_n B 3 rfl 0 0 rfl rfl ?_
  refine z_sval q hq B 4 rfl (iJ0_charAt_5068e _ (List.mem_of_getElem? (i := 3) rfl)) ?_
  refine z_iload_n B 5 rfl 1 1 rfl rfl ?_
  refine z_callS [.ref (2000 + q), .int x] [] [.int ((ztb.getD q []).getD x.toNatClampNeg 0)] X B 6 rfl miJ1_charAt_3b067 ⟨(iJ0_charAt_5068e _ (List.mem_of_getElem? (i := 4) rfl)), (iJ0_charAt_5068e _ (List.mem_of_getElem? (i := 5) rfl))⟩ (ctJ1_charAt_3b067 hj hq hx) ⟨Nat.le_of_ble_eq_true rfl, Nat.le_of_ble_eq_true rfl⟩ rfl rfl (Nat.le_of_ble_eq_true rfl) rfl ?_
  exact z_iret B 7 rfl g2 hQ hr
theorem z_slen {E : Ev} {own : String} {tb : Tb} {nL : Nat} {ret : Option FieldType} {pc nx : Nat} {lv : Lv} {st : List Value} {mm : Mem} {l : Launch} {C : Cfg} {R : Room} {n : Nat} (q : Nat) (X : Ec E l C R) (B : Bx E own tb nL ret) (hj : Dj C) (i : Nat) (h : tb[i]? = some (pc, .invokevirtual n, 3, nx)) (hq : So q) (hw : Cond.methodLink own n yJ0_length_8abf5 ∈ TW ∧ Cond.instanceMethod yJ0_length_8abf5 ∈ TW ∧ Cond.selects RJ0 yJ0_length_8abf5 yJ0_length_8abf5 ∈ TW) (hR : 2 ≤ R.frames ∧ 40 ≤ R.locals) (hW : (st.map fun v => v.category).sum ≤ 8) (k : G E nL nx lv (.int (nI (slen q)) :: st) mm) : G E nL pc lv (.ref q :: st) mm := by
  obtain ⟨a, ha, rfl⟩ := hq
  have e : slen (1000 + a) = ztl.getD a 0 := by unfold slen; rw [Nat.add_sub_cancel_left]
  rw [e] at k
  exact z_callVs a ha [] st _ X B i h rfl miJ0_length_8abf5 hw (ctJ0_length_8abf5 hj ha) ⟨hR.1, hR.2⟩ rfl rfl hW rfl k
theorem z_scha {E : Ev} {own : String} {tb : Tb} {nL : Nat} {ret : Option FieldType} {pc nx : Nat} {lv : Lv} {st : List Value} {mm : Mem} {l : Launch} {C : Cfg} {R : Room} {n : Nat} {x : Int32} (q : Nat) (X : Ec E l C R) (B : Bx E own tb nL ret) (hj : Dj C) (i : Nat) (h : tb[i]? = some (pc, .invokevirtual n, 3, nx)) (hq : So q) (hx : inb x (slen q) = true) (hw : Cond.methodLink own n yJ0_charAt_5068e ∈ TW ∧ Cond.instanceMethod yJ0_charAt_5068e ∈ TW ∧ Cond.selects RJ0 yJ0_charAt_5068e yJ0_charAt_5068e ∈ TW) (hR : 4 ≤ R.frames ∧ 85 ≤ R.locals) (hW : (st.map fun v => v.category).sum ≤ 8) (k : G E nL nx lv (.int (sch q x) :: st) mm) : G E nL pc lv (.int x :: .ref q :: st) mm := by
  obtain ⟨a, ha, rfl⟩ := hq
  have e : slen (1000 + a) = ztl.getD a 0 := by unfold slen; rw [Nat.add_sub_cancel_left]
  have e2 : sch (1000 + a) x = (ztb.getD a []).getD x.toNatClampNeg 0 := by unfold sch; rw [Nat.add_sub_cancel_left]
  rw [e] at hx
  rw [e2] at k
  exact z_callVs a ha [.int x] st _ X B i h rfl miJ0_charAt_5068e hw (ctJ0_charAt_5068e hj ha hx) ⟨hR.1, hR.2⟩ rfl rfl hW rfl k
