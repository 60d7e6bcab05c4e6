/-! methods that throw; the law's two that catch -/
def zNSE : String := "java/util/NoSuchElementException"
def XCd (C : Cfg) (A : Nat → Prop) (mm : Mem) : String → State → State → Prop := fun E st t => E = "java/util/NoSuchElementException" ∧ va_P C.2.1 zcls (wl C mm) t.heap ∧ va_F A st t
def Rx : Ev → Mem → Prop
  | (_, l, _, _, s, _, args, below, meth, c, Q, C, kc, ks, A, _, _), mm => Q = vx_MQ below (fun _ _ _ _ => False) (XCd C A mm) args s 1 6 A ∧ kc = 0 ∧ ks = 0 ∧ (∀ x ∈ c.exceptionTable.toList, False) ∧ l.stackTraces = false
def Cx (l : Launch) (C : Cfg) (y : MethodName) (bytes : ByteArray) (maxL : Nat) (ret : Option FieldType) (fr lo : Nat) (av : List Value) (mm : Mem) : Prop :=
  vx_Met l y (Cond.code y bytes maxL ret :: TW) ({ frames := fr, cells := 1, slots := 6, locals := lo }) (va_Pc (av.map (cvv C)) (Wd C mm)) (fun _ _ _ _ => False) (XCd C (Aw C) mm) 1 6 (Aw C)
theorem zlen (C : Cfg) : ∀ (a : List Value), (lg_sl (a.map (cvv C))).length = (lg_sl (a.map (fun v => match v with | .long _ => Value.long 0 | .double _ => .double 0 | _ => .null))).length := by
  intro a
  induction a with
  | nil => rfl
  | cons v a ih =>
    simp only [lg_sl, List.map_cons, List.flatMap_cons, List.length_append] at ih ⊢
    rw [ih]
    congr 1
    cases v <;> rfl
theorem zargs (C : Cfg) : ∀ (a : List Value) (i : Nat), lv_args i (a.map (cvv C)) = (lv_args i a).map (fun q => (q.1, cvv C q.2)) := by
  intro a
  induction a with
  | nil => intro i; rfl
  | cons v a ih =>
    intro i
    simp only [List.map_cons, lv_args, cvv_cat, ih]
theorem Cx.of {l : Launch} {C : Cfg} (hj : Dj C) (hfl : l.stackTraces = false) {y : MethodName} {bytes : ByteArray} {nL fr lo : Nat} {ret : Option FieldType} {av : List Value} {mm : Mem} {tb : Tb} (hy : plainName y.cls = true) (hcode : Cond.code y bytes nL ret ∈ TW) (htb : ∀ q ∈ tb, decode bytes q.1 = .ok (q.2.1, q.2.2.1) ∧ q.1 + q.2.2.1 = q.2.2.2) (hlen : (lg_sl (av.map (fun v => match v with | .long _ => Value.long 0 | .double _ => .double 0 | _ => .null))).length ≤ nL)
    (body : ∀ E : Ev, Bx E y.cls tb nL ret → Rx E mm → Ec E l C ({ frames := fr, cells := 1, slots := 6, locals := lo } : Room) → G E nL 0 (lv_args 0 av) [] mm) : Cx l C y bytes nL ret fr lo av mm := by
  refine vx_ofW (cc := bytes) (maxL := nL) (ret := ret) hy rfl ?_
  intro p e s m args below meth c s₁ B hml htab hv
  obtain ⟨rfl, hP, hK, hSx⟩ := hv
  have hts : ∀ w ∈ TW, w.before (av.map (cvv C)).toArray s = true := fun w hw => atoms_spec (ws := Cond.code y bytes nL ret :: TW) B.pre w (List.mem_cons_of_mem _ hw)
  have hB : Bx (p, l, e, ({ frames := fr, cells := 1, slots := 6, locals := lo } : Room), s, m, (av.map (cvv C)).toArray, below, meth, c, vx_MQ below (fun _ _ _ _ => False) (XCd C (Aw C) mm) (av.map (cvv C)).toArray s 1 6 (Aw C), C, 0, 0, Aw C, none, mm) y.cls tb nL ret :=
    ⟨B.exec, fun q hq => by rw [B.bytes]; exact htb q hq, hml, findClass_of_methodNamed B.named, hts, hK, hj, fun c hc => ⟨c, hc, rfl⟩, hSx, B.returns, B.notSynchronized, Nat.zero_le _, Nat.zero_le _⟩
  have hG := body _ hB ⟨rfl, rfl, rfl, htab, hfl⟩ ⟨rfl, rfl, rfl⟩
  have hl := lv_entry (av.map (cvv C)) (n := nL) (by rw [zlen]; exact hlen)
  rw [lg_entry_eq]
  generalize (lg_sl (av.map (cvv C)) ++ List.replicate (nL - (lg_sl (av.map (cvv C))).length) Slot.unset).toArray = ls at hl ⊢
  rw [zargs] at hl
  exact hG s.heap [] ls hP va_S.rf hl
def zat0 : List Cond := vx_at0 RX6 167 "java/util/NoSuchElementException" ["java/lang/RuntimeException", "java/lang/Exception"]
theorem zat0_ok : zat0.all (fun w => decide (w ∈ lw_tbl) && (goodWord w || (w.faceAtom && w.onTables))) = true := by decide +kernel
theorem zat0_ot : (Cond.classLink RX6 165 "java/util/NoSuchElementException" :: Cond.initialized "java/util/NoSuchElementException" :: zat0).all vx_ot = true := by decide +kernel
def wthr : List Cond := [.classLink RX6 165 "java/util/NoSuchElementException", .initialized "java/util/NoSuchElementException"]
theorem ithr : ∀ w ∈ wthr, w ∈ TW := tw_of (ids := [860, 86]) (by decide +kernel)
theorem z_throw {E : Ev} {tb : Tb} {nL : Nat} {ret : Option FieldType} {pc n1 n2 n3 n4 : Nat} {lv : Lv} {st : List Value} {mm : Mem} {l : Launch} {C : Cfg} {R : Room} (X : Ec E l C R) (B : Bx E RX6 tb nL ret) (hQ : Rx E mm) (i j k n : Nat) (h0 : tb[i]? = some (pc, .new 165, 3, n1)) (h1 : tb[j]? = some (n1, .dup, 1, n2)) (h2 : tb[k]? = some (n2, .invokespecial 167, 3, n3)) (h3 : tb[n]? = some (n3, .athrow, 1, n4)) (hR : 5 < R.frames ∧ 89 ≤ R.locals ∧ 1 ≤ R.cells ∧ 6 ≤ R.slots) (hW : (st.map fun v => v.category).sum ≤ 8) : G E nL pc lv st mm := by
  obtain ⟨p, l', e, R', s, m, args, below, meth, c, Q, C', kc, ks, A, res, mo⟩ := E
  obtain ⟨rfl, rfl, rfl⟩ := X
  obtain ⟨hQ, rfl, rfl, htab, hfl⟩ := hQ
  have hQ : Q = vx_MQ below (fun _ _ _ _ => False) (XCd C' A mm) args s 1 6 A := hQ
  subst hQ
  obtain ⟨d0, e0⟩ := Bx.dec B h0
  obtain ⟨d1, e1⟩ := Bx.dec B h1
  obtain ⟨d2, e2⟩ := Bx.dec B h2
  obtain ⟨d3, e3⟩ := Bx.dec B h3
  subst e0; subst e1; subst e2; subst e3
  intro H locs ls hP hS hl
  have hrl : ((st.map (cvv C')).map (fun v => v.category)).sum ≤ 8 := by
    rw [List.map_map]
    have : ((fun v : Value => v.category) ∘ cvv C') = fun v => v.category := by funext v; exact cvv_cat C' v
    rw [this]; exact hW
  refine vx_throw0 (own := RX6) (cls := "java/util/NoSuchElementException") (names := ["java/lang/RuntimeException", "java/lang/Exception"]) (ik := 165) (ic := 167) (A := A) B.1 rfl hfl B.hown (by decide +kernel) (by decide +kernel) (B.tw _ (ithr _ (List.mem_of_getElem? (i := 0) rfl))) (B.tw _ (ithr _ (List.mem_of_getElem? (i := 1) rfl))) (fun w hw => ?_) (fun w hw => ?_) B.sx.2.2.2.2.2.2.1 B.sx.2.2.2.2.2.2.2 hS (by rw [B.ml]; exact hl.1) d0 d1 d2 d3 (fun x hx => (htab x hx).elim) (by show 2 + 3 < _; exact hR.1) (by show _ + (13 * (2 + 1) + 42) ≤ _; omega) (by have := hR.2.2.1; omega) (by have := hR.2.2.2; omega) B.lk (fun t hA hz hk => ?_) hS.2.2 (Nat.le_refl _) (Nat.le_refl _)
  · have h := List.all_eq_true.mp zat0_ok w hw
    simp only [Bool.and_eq_true, decide_eq_true_eq, Bool.or_eq_true] at h
    rcases h.2 with g | g
    · exact B.tw _ (tw_mem h.1 g)
    · exact va_Nw.use g.2 (B.sx.2.2.2.2.2.1 w (List.mem_filter.mpr ⟨h.1, by simpa using g⟩))
  · exact List.all_eq_true.mp zat0_ot w hw
  · refine ⟨rfl, fun k q hq => (hP k q hq).kept (hk q.1 (hP k q hq).lt), Nat.le_trans hS.1 hz, fun q h1 h2 => ?_⟩
    rw [hk q (Nat.lt_of_lt_of_le h1 hS.1)]
    exact hS.2.1 q h1 h2
/-- a method with a table of handlers, that returns -/
def CtW (l : Launch) (C : Cfg) (y : MethodName) (bytes : ByteArray) (maxL : Nat) (ret : Option FieldType) (hh : List (Nat × Nat × Nat × Nat)) (fr lo : Nat) (av : List Value) (mm : Mem) (r : Option Value) (mo : Mem) : Prop :=
  Met l y (Cond.codeWith y bytes maxL ret hh :: TW) ({ frames := fr, cells := 1, slots := 6, locals := lo }) (va_Pc (av.map (cvv C)) (Wd C mm)) (QC C (Aw C) r mo) 1 6 (Aw C)
def RtW : Ev → List ExceptionTableEntry → Prop
  | (_, _, _, _, s, _, args, below, _, c, Q, C, kc, ks, A, res, mo), et => Q = MQ below (QC C A res mo) args s 1 6 A ∧ kc = 0 ∧ ks = 0 ∧ c.exceptionTable.toList = et
theorem CtW.of {l : Launch} {C : Cfg} (hj : Dj C) {y : MethodName} {bytes : ByteArray} {nL fr lo : Nat} {ret : Option FieldType} {hh : List (Nat × Nat × Nat × Nat)} {av : List Value} {mm mo : Mem} {r : Option Value} {tb : Tb} (hy : plainName y.cls = true) (htb : ∀ q ∈ tb, decode bytes q.1 = .ok (q.2.1, q.2.2.1) ∧ q.1 + q.2.2.1 = q.2.2.2) (hlen : (lg_sl (av.map (fun v => match v with | .long _ => Value.long 0 | .double _ => .double 0 | _ => .null))).length ≤ nL)
    (body : ∀ E : Ev, Bx E y.cls tb nL ret → RtW E (tableOf hh) → Rs E r mo → Ec E l C ({ frames := fr, cells := 1, slots := 6, locals := lo } : Room) → G E nL 0 (lv_args 0 av) [] mm) : CtW l C y bytes nL ret hh fr lo av mm r mo := by
  unfold CtW
  refine MetFree.of_bodyS (code := bytes) (maxLocals := nL) (ret := ret) hy ?_ ?_
  · intro args s m h hn
    obtain ⟨m9, meth, c, hn9, h1, h2, h3, h4, -, h5, h6, -⟩ := Cond.codeWith_spec (atoms_spec (ws := Cond.codeWith y bytes nL ret hh :: TW) h _ List.mem_cons_self)
    cases hn.symm.trans hn9
    exact ⟨meth, c, h1, h2, h3, h4, h5, h6⟩
  · intro p e s m args below meth c s₁ B hml hv _
    have hh0 : s₁.heap = s.heap := by rw [B.state]; rfl
    have htab := vx_table (x := y) B (atoms_spec (ws := Cond.codeWith y bytes nL ret hh :: TW) B.pre _ List.mem_cons_self)
    obtain ⟨rfl, hP, hK, hSx⟩ := hv
    have hts : ∀ w ∈ TW, w.before (av.map (cvv C)).toArray s = true := fun w hw => atoms_spec (ws := Cond.codeWith y bytes nL ret hh :: TW) B.pre w (List.mem_cons_of_mem _ hw)
    have hB : Bx (p, l, e, ({ frames := fr, cells := 1, slots := 6, locals := lo } : Room), s, m, (av.map (cvv C)).toArray, below, meth, c, MQ below (QC C (Aw C) r mo) (av.map (cvv C)).toArray s 1 6 (Aw C), C, 0, 0, Aw C, r, mo) y.cls tb nL ret :=
      ⟨B.exec, fun q hq => by rw [B.bytes]; exact htb q hq, hml, findClass_of_methodNamed B.named, hts, hK, hj, fun c hc => ⟨c, hc, rfl⟩, hSx, B.returns, B.notSynchronized, Nat.zero_le _, Nat.zero_le _⟩
    have hG := body _ hB ⟨rfl, rfl, rfl, htab⟩ ⟨rfl, rfl⟩ ⟨rfl, rfl, rfl⟩
    have hl := lv_entry (av.map (cvv C)) (n := nL) (by rw [zlen]; exact hlen)
    have hW : W p l e (headSpec (Cond.codeWith y bytes nL ret hh :: TW) ({ frames := fr, cells := 1, slots := 6, locals := lo } : Room)).room s m (av.map (cvv C)).toArray below meth c s.heap [] 0 0 (MQ below (QC C (Aw C) r mo) (av.map (cvv C)).toArray s 1 6 (Aw C)) (entryFrame m (av.map (cvv C)).toArray nL) := by
      rw [lg_entry_eq]
      generalize (lg_sl (av.map (cvv C)) ++ List.replicate (nL - (lg_sl (av.map (cvv C))).length) Slot.unset).toArray = ls at hl ⊢
      rw [zargs] at hl
      exact hG s.heap [] ls hP va_S.rf hl
    obtain ⟨t, a1, o, b1, b2, b3⟩ := hW s₁ hh0 (Stand.of_body B)
    exact ⟨t, o, a1, b1, b2, b3⟩
def setk : Ev → Nat → Nat → Ev
  | (p, l, e, R, s, m, args, below, meth, c, Q, C, _, _, A, res, mo), k, n => (p, l, e, R, s, m, args, below, meth, c, Q, C, k, n, A, res, mo)
def kle : Ev → Nat → Nat → Prop
  | (_, _, _, R, _, _, _, _, _, _, _, _, kc, ks, _, _, _), k, n => kc ≤ k ∧ ks ≤ n ∧ k ≤ R.cells ∧ n ≤ R.slots
theorem z_wid {E : Ev} {nL pc : Nat} {lv : Lv} {st : List Value} {mm : Mem} {k n : Nat} (h : kle E k n) (kk : G (setk E k n) nL pc lv st mm) : G E nL pc lv st mm := by
  obtain ⟨p, l, e, R, s, m, args, below, meth, c, Q, C, kc, ks, A, res, mo⟩ := E
  intro H locs ls hP hS hl
  exact W.widen h.1 h.2.1 (kk H locs ls hP hS hl)
theorem Bx.setk {E : Ev} {own : String} {tb : Tb} {nL : Nat} {ret : Option FieldType} {k n : Nat} (B : Bx E own tb nL ret) (h : kle E k n) : Bx (setk E k n) own tb nL ret := by
  obtain ⟨p, l, e, R, s, m, args, below, meth, c, Q, C, kc, ks, A, res, mo⟩ := E
  exact ⟨B.1, B.2.1, B.ml, B.hown, B.tw, B.K, B.dj, B.aa, B.sx, B.rt, B.lk, h.2.2.1, h.2.2.2⟩
theorem Ec.setk {E : Ev} {l : Launch} {C : Cfg} {R : Room} {k n : Nat} (X : Ec E l C R) : Ec (setk E k n) l C R := by
  obtain ⟨p, l', e, R', s, m, args, below, meth, c, Q, C', kc, ks, A, res, mo⟩ := E
  exact X
def wcat : List Cond := [.classLink RL 13 "java/util/NoSuchElementException"]
theorem icat : ∀ w ∈ wcat, w ∈ TW := tw_of (ids := [855]) (by decide +kernel)
theorem zcast : Cond.castable "java/util/NoSuchElementException" "java/util/NoSuchElementException" ∈ TF := List.mem_filter.mpr ⟨List.mem_of_getElem? (i := 862) (by decide +kernel), by decide +kernel⟩
/-- the law's method catches what the call throws, and answers 1 -/
theorem z_catch {E : Ev} {tb : Tb} {pc nx : Nat} {lv : Lv} {st : List Value} {mm : Mem} {l : Launch} {C : Cfg} {R : Room} {y : MethodName} {bytes : ByteArray} {maxL n fr lo idx : Nat} {rt : Option FieldType} {x : vw_C} (q ci : Nat) (as rest : List Value) (X : Ec E l C R) (B : Bx E RL tb 5 (some .int)) (hQ : RtW E (tableOf [(0, 10, 13, 13)])) (hr : Rs E (some (.int 1)) mm) (i : Nat) (h : tb[i]? = some (pc, .invokevirtual idx, 3, nx)) (hpc : pc < 10) (i1 i2 i3 : Nat) (h1 : tb[i1]? = some (13, .astore 4, 2, 15)) (h2 : tb[i2]? = some (15, .iconst 1, 1, 16)) (h3 : tb[i3]? = some (16, .ireturn, 1, 17)) (hq : Ob q ci) (hx : zcls[ci]? = some x) (hxc : x.1 = y.cls) (hM : MI y bytes maxL rt n) (hw : Cond.methodLink RL idx y ∈ TW ∧ Cond.instanceMethod y ∈ TW ∧ Cond.selects y.cls y y ∈ TW) (hc : Cx l C y bytes maxL rt fr lo (.ref q :: as) mm) (hR : fr + 1 ≤ R.frames ∧ 8 + (maxL + 11) + lo ≤ R.locals ∧ 1 ≤ R.cells ∧ 6 ≤ R.slots) (hn : as.length = n) (hst : st = as.reverse ++ .ref q :: rest) (hW : (rest.map fun v => v.category).sum ≤ 8) : G E 5 pc lv st mm := by
  obtain ⟨p, l', e, R', s, m, args, below, meth, c, Q, C', kc, ks, A, res, mo⟩ := E
  obtain ⟨rfl, rfl, rfl⟩ := X
  obtain ⟨hQ, rfl, rfl, htab⟩ := hQ
  obtain ⟨rfl, rfl⟩ := hr
  have hQ : Q = MQ below (QC C' A _ _) args s 1 6 A := hQ
  subst hQ
  obtain ⟨hd, hnx⟩ := Bx.dec B h
  obtain ⟨hd1, -⟩ := Bx.dec B h1
  obtain ⟨hd2, -⟩ := Bx.dec B h2
  obtain ⟨hd3, -⟩ := Bx.dec B h3
  subst hst
  intro H locs ls hP hS hl
  have hrl : (rest.map (cvv C')).map (fun v => v.category) = rest.map (fun v => v.category) := by rw [List.map_map]; congr 1; funext v; exact cvv_cat C' v
  have hrec : ∃ cell : Cell, H[C'.1 q]? = some cell ∧ cell.vm.isStatics = false ∧ s.vm.findClass y.cls = some cell.cls := by
    rw [← hxc]
    exact va_recv B.K hP hx (by rw [wl_get hq.1, cel_obj hq.2 (zcls_lt hx)])
  have hAA : ∀ q, Aw C' q → A q := fun q hq => by obtain ⟨c, h1, rfl⟩ := hq; exact B.aa c h1
  have hrun := vx_runV (C := y.cls) (b := C'.1 q) (As := as.map (cvv C')) (rest := rest.map (cvv C')) (g := F0 m pc ls ((as.reverse ++ .ref q :: rest).map (cvv C'))) (cells := 0) (slots := 0) (locs := locs) (e := e) (below := below) (meth := meth) ⟨B.1, rfl, B.ml, B.hown, B.tw⟩ hc ⟨callB_of n B.tw (tw_good hM.1) rfl rfl rfl (B.tw _ hM.2.2.2) (B.tw _ hw.1) hM.2.2.1 ⟨hR.1, hR.2.1⟩, B.tw _ hw.2.1, B.tw _ hw.2.2⟩ ⟨Wd_blind, hrec, Wd_call B hP hS (.ref q :: as)⟩ rfl (by rw [List.length_map]; exact hn) hl.1 (by rw [List.map_append, List.map_reverse]; rfl) (lv_room (by rw [hrl]; exact hW)) hd (by have := hR.2.2; omega)
  intro T hT Y
  rcases hrun T hT Y with ⟨v, st₀, t, T', L, h0, X', hL, e1, e2, hF, st⟩ | ⟨q9, st₀, t, T', L, E9, ce, h0, X', hL, e1, e2, hXC, hce, hcv, hcl, st⟩
  · exact hF.elim
  · obtain ⟨rfl, hP1, hF⟩ := hXC
    have hS1 := (vx_keep h0 e1 hS (fun q _ h => hAA q h) hAA hL hF).2.2
    rw [← e1] at hP1
    have hW1 := vx_catch (Q := MQ below (QC C' A (some (.int 1)) _) args s 1 6 A) (cells := 0 + 1) (slots := 0 + 6) (ls := ls) (rest := rest.map (cvv C')) (pc := pc) (p := p) (l := l') (e := e) (R := R') (below := below) (meth := meth) (locs := locs ++ L) (H := T'.heap) (own := RL) (name := "java/util/NoSuchElementException") B.hown [] ⟨0, 10, 13, 13⟩ [] htab (fun z hz => by cases hz) (by simp [covers]; omega) (by decide) (B.tw _ (icat _ (List.mem_of_getElem? (i := 0) rfl))) (va_Nw.use rfl (B.sx.2.2.2.2.2.1 _ zcast)) (by rw [e1]; exact hce) hcv hcl
      (lv_astore B.1 rfl hd1 hl (by decide) rfl (fun ls' hl' => lv_iconst B.1 rfl hd2 (v := 1) (by decide) (W.zret (v := 1) B.1 rfl B.rt rfl (fun t ht hWm => ⟨rfl, Wd_end B hP1 hS1 ht hWm, hS1.F ht⟩) hS1.2.2 hd3 B.lk)))
    obtain ⟨t2, a1, b1⟩ := hW1 T' rfl X'
    exact ⟨t2, st.trans a1, b1⟩
