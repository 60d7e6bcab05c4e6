theorem kp_keep {A0 A1 : Nat → Prop} {free : Addr → Prop} {H0 H : Heap} {locs L : List Loc} {st₀ t T' : State} (h0 : st₀.heap = H) (e1 : T'.heap = t.heap) (hS : va_S A0 H0 H locs) (hA : ∀ q, q < H.size → A1 q → A0 q) (hf : ∀ q, free q → A0 q) (hL : ∀ q ∈ L, free q.base) (hF : va_F A1 st₀ t) : H.size ≤ T'.heap.size ∧ (∀ q : Nat, q < H.size → ¬ A1 q → T'.heap[q]? = H[q]?) ∧ va_S A0 H0 T'.heap (locs ++ L) := by
  obtain ⟨hz, hk⟩ := hF
  rw [h0] at hz hk
  refine ⟨by rw [e1]; exact hz, fun q h1 h2 => by rw [e1]; exact hk q h1 h2, Nat.le_trans hS.1 (by rw [e1]; exact hz), fun q h1 h2 => ?_, fun q hq => ?_⟩
  · rw [e1, hk q (Nat.lt_of_lt_of_le h1 hS.1) (fun z => h2 (hA q (Nat.lt_of_lt_of_le h1 hS.1) z))]
    exact hS.2.1 q h1 h2
  · rcases List.mem_append.mp hq with h | h
    · exact hS.2.2 q h
    · exact hf _ (hL q h)
/-! making: worlds of cells that lie one behind another, from the address n on -/
def shv (n : Nat) : Value → Value
  | .ref a => .ref (n + a)
  | .null => .null
  | .int x => .int x
  | .long x => .long x
  | .float x => .float x
  | .double x => .double x
  | .retAddr x => .retAddr x
def she (n : Nat) : va_E → va_E
  | .inl a => .inl a
  | .inr o => .inr (o.1, o.2.map (shv n))
def wsn (n : Nat) (cs : List va_E) : va_W := cs.mapIdx (fun j e => (n + j, she n e))
abbrev En : Type := Program × Launch × Env × Room × State × MethodId × Array Value × List Frame × Method × Code × (State → Prop) × va_G × ClassId × ClassId × ClassId × Nat × Lv
abbrev tyn (cI cZ cJ : ClassId) : List (ClassId × FieldType) := [(cI, .int), (cZ, .object "java/lang/Object"), (cJ, .array .int)]
def Nx (U : State) : Prop := ∀ q ∈ zns, va_Nw (.methodLinkNest q.1 q.2.1 q.2.2.1 q.2.2.2) U
def GN : En → Nat → Nat → Lv → List Value → List va_E → Nat → Nat → Nat → Prop
  | (p, l, e, R, s, m, args, below, meth, c, Q, D, _, _, _, n, lr), nL, pc, lv, st, cs, len, kc, ks => ∀ (H : Heap) (locs : List Loc) (ls : Array Slot), cs.length = len → va_P D zcls (wsn n cs) H → H.size = n + cs.length → va_S (fun q => n ≤ q) s.heap H locs → lv_has ls nL (lr ++ lv.map (fun q => (q.1, shv n q.2))) → W p l e R s m args below meth c H locs kc ks Q (F0 m pc ls (st.map (shv n)))
def BN : En → String → Tb → Nat → Prop
  | (p, _, _, _, s, m, args, _, meth, c, _, D, cI, cZ, cJ, n, lr), own, tb, nL => p.tables.exec = Jvm.exec ∧ (∀ q ∈ tb, decode c.code q.1 = .ok (q.2.1, q.2.2.1) ∧ q.1 + q.2.2.1 = q.2.2.2) ∧ c.maxLocals = nL ∧ s.vm.findClass own = some m.cls ∧ (∀ w ∈ TW, w.before args s = true) ∧ va_K D zcls (tyn cI cZ cJ) s ∧ Nx s ∧ n ≤ s.heap.size ∧ meth.locks = false
def RN : En → Room → Prop
  | (_, _, _, R, _, _, _, _, _, _, _, _, _, _, _, _, _), R' => R = R'
def LN : En → Launch → va_G → ClassId → ClassId → ClassId → Prop
  | (_, l, _, _, _, _, _, _, _, _, _, D, cI, cZ, cJ, _, _), l', D', cI', cZ', cJ' => l = l' ∧ D = D' ∧ cI = cI' ∧ cZ = cZ' ∧ cJ = cJ'
def IN : En → Prop
  | (_, _, _, _, _, _, _, _, meth, _, _, _, _, _, _, _, _) => meth.name = "<init>"
theorem shv_cat (n : Nat) (v : Value) : (shv n v).category = v.category := by cases v <;> rfl
theorem wsn_get {n j : Nat} {cs : List va_E} {x : va_E} (h : cs[j]? = some x) : (wsn n cs)[j]? = some (n + j, she n x) := by
  unfold wsn
  rw [List.getElem?_mapIdx, h]
  rfl
theorem wsn_at {n k : Nat} {cs : List va_E} {q : Nat × va_E} (h : (wsn n cs)[k]? = some q) : ∃ x, cs[k]? = some x ∧ q = (n + k, she n x) := by
  unfold wsn at h
  rw [List.getElem?_mapIdx] at h
  cases hc : cs[k]? with
  | none => rw [hc] at h; cases h
  | some x => rw [hc] at h; exact ⟨x, rfl, (Option.some.inj h).symm⟩
theorem wsn_D (n : Nat) (cs : List va_E) : va_D (fun q => n ≤ q) (wsn n cs) := by
  refine ⟨fun i j x y hx hy hxy => ?_, fun k x hx => ?_⟩
  · obtain ⟨a, -, rfl⟩ := wsn_at hx
    obtain ⟨b, -, rfl⟩ := wsn_at hy
    have : n + i = n + j := hxy
    omega
  · obtain ⟨a, -, rfl⟩ := wsn_at hx
    exact Nat.le_add_right _ _
theorem wsn_app (n : Nat) (cs : List va_E) (x : va_E) : wsn n (cs ++ [x]) = wsn n cs ++ [(n + cs.length, she n x)] := by
  unfold wsn
  rw [List.mapIdx_append]
  simp
theorem wsn_set (n j : Nat) (cs : List va_E) (x : va_E) : (wsn n cs).set j (n + j, she n x) = wsn n (cs.set j x) := by
  apply List.ext_getElem?
  intro i
  unfold wsn
  rw [List.getElem?_mapIdx]
  by_cases hij : i = j
  · subst hij
    by_cases hl : i < cs.length
    · rw [List.getElem?_set_self (by rw [List.length_mapIdx]; exact hl), List.getElem?_set_self hl]
      rfl
    · rw [List.getElem?_eq_none (by rw [List.length_set, List.length_mapIdx]; omega), List.getElem?_eq_none (by rw [List.length_set]; omega)]
      rfl
  · rw [List.getElem?_set_ne (Ne.symm hij), List.getElem?_set_ne (Ne.symm hij), List.getElem?_mapIdx]
theorem shv_shv (n j : Nat) (v : Value) : shv n (shv j v) = shv (n + j) v := by
  cases v <;> simp [shv, Nat.add_assoc]
theorem she_she (n j : Nat) (x : va_E) : she n (she j x) = she (n + j) x := by
  cases x with
  | inl a => rfl
  | inr o =>
    simp only [she, List.map_map]
    congr 2
    apply List.map_congr_left
    intro v _
    exact shv_shv n j v
section NS
variable {p : Program} {l : Launch} {e : Env} {R : Room} {s : State} {m : MethodId} {args : Array Value} {below : List Frame} {meth : Method} {c : Code} {Q : State → Prop} {D : va_G} {cI cZ cJ : ClassId} {n : Nat} {lr : Lv} {ow : String} {tb : Tb} {nL : Nat}
variable {pc nx len : Nat} {ins : Instr}
theorem BN.dec (B : BN (p, l, e, R, s, m, args, below, meth, c, Q, D, cI, cZ, cJ, n, lr) ow tb nL) {i : Nat} (h : tb[i]? = some (pc, ins, len, nx)) : decode c.code pc = .ok (ins, len) ∧ pc + len = nx := by
  have h1 : ∀ q ∈ tb, decode c.code q.1 = .ok (q.2.1, q.2.2.1) ∧ q.1 + q.2.2.1 = q.2.2.2 := B.2.1
  exact h1 (pc, ins, len, nx) (List.mem_of_getElem? h)
theorem BN.ml (B : BN (p, l, e, R, s, m, args, below, meth, c, Q, D, cI, cZ, cJ, n, lr) ow tb nL) : c.maxLocals = nL := B.2.2.1
theorem BN.hown (B : BN (p, l, e, R, s, m, args, below, meth, c, Q, D, cI, cZ, cJ, n, lr) ow tb nL) : s.vm.findClass ow = some m.cls := B.2.2.2.1
theorem BN.tw (B : BN (p, l, e, R, s, m, args, below, meth, c, Q, D, cI, cZ, cJ, n, lr) ow tb nL) : ∀ w ∈ TW, w.before args s = true := B.2.2.2.2.1
theorem BN.K (B : BN (p, l, e, R, s, m, args, below, meth, c, Q, D, cI, cZ, cJ, n, lr) ow tb nL) : va_K D zcls (tyn cI cZ cJ) s := B.2.2.2.2.2.1
theorem BN.hnx (B : BN (p, l, e, R, s, m, args, below, meth, c, Q, D, cI, cZ, cJ, n, lr) ow tb nL) : Nx s := B.2.2.2.2.2.2.1
theorem BN.hn (B : BN (p, l, e, R, s, m, args, below, meth, c, Q, D, cI, cZ, cJ, n, lr) ow tb nL) : n ≤ s.heap.size := B.2.2.2.2.2.2.2.1
theorem BN.lk (B : BN (p, l, e, R, s, m, args, below, meth, c, Q, D, cI, cZ, cJ, n, lr) ow tb nL) : meth.locks = false := B.2.2.2.2.2.2.2.2
end NS
theorem lvmn {n : Nat} {lr lv : Lv} {j q : Nat} {v : Value} (h : lv[j]? = some (q, v)) : (lr ++ lv.map (fun q => (q.1, shv n q.2)))[lr.length + j]? = some (q, shv n v) := by
  rw [List.getElem?_append_right (Nat.le_add_right _ _), Nat.add_sub_cancel_left, List.getElem?_map, h]
  rfl
theorem zs1_mapn {n : Nat} {ls : Array Slot} {nL : Nat} {lr lv : Lv} {i : Nat} {v : Value} (hlr : ∀ q ∈ lr, (!(q.1 == i) && !(q.1 + 1 == i && q.2.category == 2)) = true) (h : lv_has ls nL ((i, shv n v) :: (lr ++ lv.map (fun q => (q.1, shv n q.2))).filter (fun q => !(q.1 == i) && !(q.1 + 1 == i && q.2.category == 2)))) : lv_has ls nL (lr ++ (zs1 lv i v).map (fun q => (q.1, shv n q.2))) := by
  refine ⟨h.1, h.2.1, fun q hq => h.2.2 q ?_⟩
  rcases List.mem_append.mp hq with h1 | h1
  · exact List.mem_cons_of_mem _ (List.mem_filter.mpr ⟨List.mem_append_left _ h1, hlr q h1⟩)
  · obtain ⟨x, hx, rfl⟩ := List.mem_map.mp h1
    unfold zs1 at hx
    rcases List.mem_cons.mp hx with e | e
    · rw [e]; exact List.mem_cons_self
    · obtain ⟨g1, g2⟩ := List.mem_filter.mp e
      refine List.mem_cons_of_mem _ (List.mem_filter.mpr ⟨List.mem_append_right _ (List.mem_map.mpr ⟨x, g1, rfl⟩), ?_⟩)
      simpa only [shv_cat] using g2
def LR : En → Nat → Prop
  | (_, _, _, _, _, _, _, _, _, _, _, _, _, _, _, _, lr), i => ∀ q ∈ lr, (!(q.1 == i) && !(q.1 + 1 == i && q.2.category == 2)) = true
/-- a constructor's contract -/
def CtN (l : Launch) (D : va_G) (cI cZ cJ : ClassId) (y : MethodName) (bytes : ByteArray) (maxL fr lo : Nat) (e0 : va_E) (blk : List va_E) (mc ms : Nat) : Prop := ∀ h0 : Nat,
  Met l y (Cond.code y bytes maxL none :: TW) ({ frames := fr, cells := mc, slots := ms, locals := lo }) (va_Pc [.ref h0] (fun U => U.heap.size = h0 + 1 ∧ va_P D zcls (wsn h0 [e0]) U.heap ∧ va_K D zcls (tyn cI cZ cJ) U ∧ Nx U)) (fun _ st oc t => oc = .returned none ∧ va_P D zcls (wsn h0 blk) t.heap ∧ t.heap.size = h0 + blk.length ∧ va_F (fun q => h0 ≤ q) st t) mc ms (fun q => h0 ≤ q)
def RtN : En → List va_E → Nat → Nat → Prop
  | (_, _, _, _, s, _, args, below, meth, _, Q, D, _, _, _, n, _), blk, mc, ms => Q = MQ below (fun _ st oc t => oc = .returned none ∧ va_P D zcls (wsn n blk) t.heap ∧ t.heap.size = n + blk.length ∧ va_F (fun q => n ≤ q) st t) args s mc ms (fun q => n ≤ q) ∧ meth.sig.returnType = none
theorem CtN.of {l : Launch} {D : va_G} {cI cZ cJ : ClassId} {y : MethodName} {bytes : ByteArray} {nL fr lo mc ms : Nat} {e0 : va_E} {blk : List va_E} {tb : Tb} (hy : plainName y.cls = true) (hcode : Cond.code y bytes nL none ∈ TW) (hnm : y.name = "<init>") (htb : ∀ q ∈ tb, decode bytes q.1 = .ok (q.2.1, q.2.2.1) ∧ q.1 + q.2.2.1 = q.2.2.2) (hlen : 1 ≤ nL)
    (body : ∀ E : En, BN E y.cls tb nL → RtN E blk mc ms → RN E ({ frames := fr, cells := mc, slots := ms, locals := lo } : Room) → LN E l D cI cZ cJ → IN E → GN E nL 0 [(0, .ref 0)] [] [e0] 1 0 0) : CtN l D cI cZ cJ y bytes nL fr lo e0 blk mc ms := by
  intro h0
  refine Met.ofW (cc := bytes) (maxL := nL) (ret := none) hy rfl ?_
  intro p e s m args below meth c s₁ B hml hv
  obtain ⟨rfl, hsz, hP, hK, hN⟩ := hv
  have hts : ∀ w ∈ TW, w.before (([.ref h0] : List Value)).toArray s = true := fun w hw => atoms_spec (ws := Cond.code y bytes nL none :: TW) B.pre w (List.mem_cons_of_mem _ hw)
  have hin : meth.name = "<init>" := (name_of_methodNamed B.named B.method).1.trans hnm
  have hG := body (p, l, e, ({ frames := fr, cells := mc, slots := ms, locals := lo } : Room), s, m, (([.ref h0] : List Value)).toArray, below, meth, c, MQ below (fun _ st oc t => oc = .returned none ∧ va_P D zcls (wsn h0 blk) t.heap ∧ t.heap.size = h0 + blk.length ∧ va_F (fun q => h0 ≤ q) st t) (([.ref h0] : List Value)).toArray s mc ms (fun q => h0 ≤ q), D, cI, cZ, cJ, h0, [])
    ⟨B.exec, fun q hq => by rw [B.bytes]; exact htb q hq, hml, findClass_of_methodNamed B.named, hts, hK, hN, by rw [hsz]; exact Nat.le_succ _, B.notSynchronized⟩ ⟨rfl, B.returns⟩ rfl ⟨rfl, rfl, rfl, rfl, rfl⟩ hin
  have hl := lv_entry [.ref h0] (n := nL) hlen
  rw [lg_entry_eq]
  generalize (lg_sl [.ref h0] ++ List.replicate (nL - (lg_sl [.ref h0]).length) Slot.unset).toArray = ls at hl ⊢
  exact hG s.heap [] ls rfl hP (by rw [hsz]; rfl) va_S.rf hl
theorem n_aload_n {E : En} {ow : String} {tb : Tb} {nL pc nx len kc ks : Nat} {lv : Lv} {st : List Value} {cs : List va_E} {x : Nat} {kk : Fin 4} (B : BN E ow tb nL) (i : Nat) (h : tb[i]? = some (pc, .aload_n kk, 1, nx)) (q j : Nat) (hq : (kk : Nat) = q) (hj : lv[j]? = some (q, .ref x)) (k : GN E nL nx lv (.ref x :: st) cs len kc ks) : GN E nL pc lv st cs len kc ks := by
  obtain ⟨p, l, e, R, s, m, args, below, meth, c, Q, D, cI, cZ, cJ, n, lr⟩ := E
  obtain ⟨hd, hn⟩ := BN.dec B h
  subst hn
  intro H locs ls hlen hP hz hS hl
  exact lv_aload_n B.1 rfl hd hq (lv_at hl (lr.length + j) (lvmn hj)) (k H locs ls hlen hP hz hS hl)
theorem n_iconst {E : En} {ow : String} {tb : Tb} {nL pc nx len kc ks : Nat} {lv : Lv} {st : List Value} {cs : List va_E} {z : Int} (v : Int32) (B : BN E ow tb nL) (i : Nat) (h : tb[i]? = some (pc, .iconst z, 1, nx)) (hv : Int32.ofInt z = v) (k : GN E nL nx lv (.int v :: st) cs len kc ks) : GN E nL pc lv st cs len kc ks := by
  obtain ⟨p, l, e, R, s, m, args, below, meth, c, Q, D, cI, cZ, cJ, n, lr⟩ := E
  obtain ⟨hd, hn⟩ := BN.dec B h
  subst hn
  intro H locs ls hlen hP hz hS hl
  exact lv_iconst B.1 rfl hd hv (k H locs ls hlen hP hz hS hl)
theorem n_bipush {E : En} {ow : String} {tb : Tb} {nL pc nx len kc ks : Nat} {lv : Lv} {st : List Value} {cs : List va_E} {z : Int} (v : Int32) (B : BN E ow tb nL) (i : Nat) (h : tb[i]? = some (pc, .bipush z, 2, nx)) (hv : (Int8.ofInt z).toInt32 = v) (k : GN E nL nx lv (.int v :: st) cs len kc ks) : GN E nL pc lv st cs len kc ks := by
  obtain ⟨p, l, e, R, s, m, args, below, meth, c, Q, D, cI, cZ, cJ, n, lr⟩ := E
  obtain ⟨hd, hn⟩ := BN.dec B h
  subst hn
  intro H locs ls hlen hP hz hS hl
  exact lv_bipush B.1 rfl hd hv (k H locs ls hlen hP hz hS hl)
theorem n_sipush {E : En} {ow : String} {tb : Tb} {nL pc nx len kc ks : Nat} {lv : Lv} {st : List Value} {cs : List va_E} {z : Int} (v : Int32) (B : BN E ow tb nL) (i : Nat) (h : tb[i]? = some (pc, .sipush z, 3, nx)) (hv : (Int16.ofInt z).toInt32 = v) (k : GN E nL nx lv (.int v :: st) cs len kc ks) : GN E nL pc lv st cs len kc ks := by
  obtain ⟨p, l, e, R, s, m, args, below, meth, c, Q, D, cI, cZ, cJ, n, lr⟩ := E
  obtain ⟨hd, hn⟩ := BN.dec B h
  subst hn
  intro H locs ls hlen hP hz hS hl
  exact lv_sipush B.1 rfl hd hv (k H locs ls hlen hP hz hS hl)
theorem n_dup {E : En} {ow : String} {tb : Tb} {nL pc nx len kc ks : Nat} {lv : Lv} {st : List Value} {cs : List va_E} {v : Value} (B : BN E ow tb nL) (i : Nat) (h : tb[i]? = some (pc, .dup, 1, nx)) (hv : v.category = 1) (k : GN E nL nx lv (v :: v :: st) cs len kc ks) : GN E nL pc lv (v :: st) cs len kc ks := by
  obtain ⟨p, l, e, R, s, m, args, below, meth, c, Q, D, cI, cZ, cJ, n, lr⟩ := E
  obtain ⟨hd, hn⟩ := BN.dec B h
  subst hn
  intro H locs ls hlen hP hz hS hl
  exact lv_dup B.1 rfl hd ((shv_cat n v).trans hv) (k H locs ls hlen hP hz hS hl)
theorem n_astore_n {E : En} {ow : String} {tb : Tb} {nL pc nx len kc ks : Nat} {lv : Lv} {st : List Value} {cs : List va_E} {x : Nat} {kk : Fin 4} (lv' : Lv) (q : Nat) (hlr : LR E q) (B : BN E ow tb nL) (i : Nat) (h : tb[i]? = some (pc, .astore_n kk, 1, nx)) (hq : (kk : Nat) = q) (hn : q < nL) (hl' : zs1 lv q (.ref x) = lv') (k : GN E nL nx lv' st cs len kc ks) : GN E nL pc lv (.ref x :: st) cs len kc ks := by
  subst hl'
  obtain ⟨p, l, e, R, s, m, args, below, meth, c, Q, D, cI, cZ, cJ, n, lr⟩ := E
  obtain ⟨hd, hn2⟩ := BN.dec B h
  subst hn2
  intro H locs ls hlen hP hz hS hl
  exact lv_astore_n B.1 rfl hd hq hl hn rfl (fun ls' hl' => k H locs ls' hlen hP hz hS (zs1_mapn hlr hl'))
theorem n_istore {E : En} {ow : String} {tb : Tb} {nL pc nx len kc ks : Nat} {lv : Lv} {st : List Value} {cs : List va_E} {x : Int32} {q : Nat} (lv' : Lv) (hlr : LR E q) (B : BN E ow tb nL) (i : Nat) (h : tb[i]? = some (pc, .istore q, 2, nx)) (hn : q < nL) (hl' : zs1 lv q (.int x) = lv') (k : GN E nL nx lv' st cs len kc ks) : GN E nL pc lv (.int x :: st) cs len kc ks := by
  subst hl'
  obtain ⟨p, l, e, R, s, m, args, below, meth, c, Q, D, cI, cZ, cJ, n, lr⟩ := E
  obtain ⟨hd, hn2⟩ := BN.dec B h
  subst hn2
  intro H locs ls hlen hP hz hS hl
  exact lv_istore B.1 rfl hd hl hn rfl (fun ls' hl' => k H locs ls' hlen hP hz hS (zs1_mapn hlr hl'))
theorem n_obj {E : En} {ow : String} {tb : Tb} {nL pc nx len kc ks : Nat} {lv : Lv} {st : List Value} {cs : List va_E} {R : Room} {x idx : Nat} (hR0 : RN E R) (B : BN E ow tb nL) (i : Nat) (h : tb[i]? = some (pc, .invokespecial idx, 3, nx)) (hw : Cond.methodLink ow idx Lib.objectInit ∈ TW ∧ Cond.instanceMethod Lib.objectInit ∈ TW ∧ Cond.code Lib.objectInit ⟨#[0xb1]⟩ 1 none ∈ TW) (hR : 1 ≤ R.frames ∧ 20 ≤ R.locals) (hW : (st.map fun v => v.category).sum ≤ 8) (k : GN E nL nx lv st cs len kc ks) : GN E nL pc lv (.ref x :: st) cs len kc ks := by
  obtain ⟨p, l, e, R', s, m, args, below, meth, c, Q, D, cI, cZ, cJ, n, lr⟩ := E
  obtain rfl : R' = R := hR0
  obtain ⟨hd, hn⟩ := BN.dec B h
  subst hn
  intro H locs ls hlen hP hz hS hl
  have hrl : ((st.map (shv n)).map (fun v => v.category)).sum ≤ 8 := by
    rw [List.map_map]
    have : ((fun v : Value => v.category) ∘ shv n) = fun v => v.category := by funext v; exact shv_cat n v
    rw [this]; exact hW
  refine W.objInit B.1 rfl B.hown (B.tw _ hw.1) (B.tw _ hw.2.1) (B.tw _ hw.2.2) rfl (by rw [B.ml]; exact hl.1) rfl hd hR.1 (by have := hR.2; have := hrl; show 2 * 0 + _ + 12 ≤ _; omega) ?_
  exact k H locs ls hlen hP hz hS hl
theorem n_new {E : En} {ow : String} {tb : Tb} {nL pc nx len kc ks : Nat} {lv : Lv} {st : List Value} {cs : List va_E} {R : Room} {idx N : Nat} {Cn : String} {T : u_T} (ci j0 : Nat) (fs : List Value) (cs2 : List va_E) (len2 kc2 ks2 : Nat) (hR0 : RN E R) (B : BN E ow tb nL) (i : Nat) (h : tb[i]? = some (pc, .new idx, 3, nx)) (hx : zcls[ci]? = some (Cn, T, N)) (hw : Cond.classLink ow idx Cn ∈ TW ∧ Cond.instantiable Cn N ∈ TW ∧ Cond.initialized Cn ∈ TW) (hj : len = j0 ∧ len + 1 = len2) (h2 : cs ++ [.inr (ci, fs)] = cs2) (hfs : ∀ j, j < N → defaultValue (tyA ci j) = vp_V (fs.map (shv 0)) j) (hf2 : ∀ z, fs.map (shv z) = fs.map (shv 0)) (hk : kc + 1 = kc2 ∧ ks + N = ks2 ∧ kc2 ≤ R.cells ∧ ks2 ≤ R.slots) (k : GN E nL nx lv (.ref j0 :: st) cs2 len2 kc2 ks2) : GN E nL pc lv st cs len kc ks := by
  subst h2
  obtain ⟨rfl, rfl⟩ := hj
  obtain ⟨rfl, rfl, hk1, hk2⟩ := hk
  obtain ⟨p, l, e, R', s, m, args, below, meth, c, Q, D, cI, cZ, cJ, n, lr⟩ := E
  obtain rfl : R' = R := hR0
  obtain ⟨hd, hn⟩ := BN.dec B h
  subst hn
  intro H locs ls hlen hP hz hS hl
  obtain ⟨hws, hN, hty, hnm⟩ := zcls_ok hx
  have hKn := B.K.1 ci _ hx
  refine W.newcK B.1 rfl B.hown (B.tw _ hw.1) (B.tw _ hw.2.1) (B.tw _ hw.2.2) rfl hd hk1 hk2 hKn.2.1 rfl fun H1 kC hkC e1 z1 o1 => ?_
  have hkp : ∀ (k : Nat) (x : Nat × va_E), (wsn n cs)[k]? = some x → H1[x.1]? = H[x.1]? := fun k x hx => o1 x.1 ((hP k x hx).lt)
  have hnew : va_P D zcls [(n + cs.length, she n (.inr (ci, fs)))] H1 := by
    intro k x hx2
    have hz0 : k < 1 := (List.getElem?_eq_some_iff.mp hx2).1
    rw [show k = 0 by omega] at hx2
    cases hx2
    refine ⟨_, hx, ?_⟩
    show t_OB (n + cs.length) _ _ _ _ (vp_V (fs.map (shv n)))
    rw [← hz, hf2 n]
    exact (u_born (tyA ci) B.tw hws hKn hkC e1 hty).to hfs
  subst hlen
  have := k H1 locs ls (by rw [List.length_append]; rfl) (by rw [wsn_app]; exact (hP.kept hkp).app hnew) (by rw [z1, hz, List.length_append]; rfl) ⟨Nat.le_trans hS.1 (by omega), fun x h1 h2 => (o1 x (Nat.lt_of_lt_of_le h1 hS.1)).trans (hS.2.1 x h1 h2), hS.2.2⟩ hl
  rw [hz]
  exact this
theorem n_newaI {E : En} {ow : String} {tb : Tb} {nL pc nx len kc ks : Nat} {lv : Lv} {st : List Value} {cs : List va_E} {R : Room} {l0 : Launch} {D0 : va_G} {cI cZ cJ : ClassId} {v : Int32} (N j0 : Nat) (cs2 : List va_E) (len2 kc2 ks2 : Nat) (hR0 : RN E R) (hL : LN E l0 D0 cI cZ cJ) (B : BN E ow tb nL) (i : Nat) (h : tb[i]? = some (pc, .newarray .int, 2, nx)) (hw : Cond.arrayClass .int ∈ TW) (hv : ¬ v < 0 ∧ v.toNatClampNeg = N ∧ N * 8 ≤ 536870912) (hj : len = j0 ∧ len + 1 = len2) (h2 : cs ++ [.inl (cI, N, .inl (fun _ => 0))] = cs2) (hk : kc + 1 = kc2 ∧ ks + N = ks2 ∧ kc2 ≤ R.cells ∧ ks2 ≤ R.slots) (k : GN E nL nx lv (.ref j0 :: st) cs2 len2 kc2 ks2) : GN E nL pc lv (.int v :: st) cs len kc ks := by
  subst h2
  obtain ⟨rfl, rfl⟩ := hj
  obtain ⟨rfl, rfl, hk1, hk2⟩ := hk
  obtain ⟨p, l, e, R', s, m, args, below, meth, c, Q, D, cI', cZ', cJ', n, lr⟩ := E
  obtain rfl : R' = R := hR0
  obtain ⟨rfl, rfl, rfl, rfl, rfl⟩ := hL
  obtain ⟨hd, hn⟩ := BN.dec B h
  subst hn
  intro H locs ls hlen hP hz hS hl
  refine va_newaK B.1 rfl (atype := .int) (B.tw _ hw) rfl hd rfl hv.1 hv.2.1 (Nat.le_trans (Nat.mul_le_mul_left _ (by decide)) hv.2.2) hk1 hk2 rfl fun H1 cA e1 z1 o1 hAr hNm => ?_
  have hcA : cA = cI' := by
    have h1 := (B.K.2 0 _ rfl).2
    have h2 : s.vm.findClass _ = some cI' := h1
    exact Option.some.inj (hNm.symm.trans h2)
  subst hcA
  have hkp : ∀ (k : Nat) (x : Nat × va_E), (wsn n cs)[k]? = some x → H1[x.1]? = H[x.1]? := fun k x hx => o1 x.1 ((hP k x hx).lt)
  have hnew : va_P D zcls [(n + cs.length, she n (.inl (cA, N, .inl (fun _ => 0))))] H1 := by
    intro k x hx2
    have hz0 : k < 1 := (List.getElem?_eq_some_iff.mp hx2).1
    rw [show k = 0 by omega] at hx2
    cases hx2
    show H1[n + cs.length]? = some (vp_cell _ _)
    rw [← hz]
    exact e1
  subst hlen
  have := k H1 locs ls (by rw [List.length_append]; rfl) (by rw [wsn_app]; exact (hP.kept hkp).app hnew) (by rw [z1, hz, List.length_append]; rfl) ⟨Nat.le_trans hS.1 (by omega), fun x h1 h2 => (o1 x (Nat.lt_of_lt_of_le h1 hS.1)).trans (hS.2.1 x h1 h2), hS.2.2⟩ hl
  rw [hz]
  exact this
theorem n_putF {E : En} {ow : String} {tb : Tb} {nL pc nx len kc ks : Nat} {lv : Lv} {st : List Value} {cs : List va_E} {idx : Nat} {v : Value} {fs : List Value} (ci kf j : Nat) (cs2 : List va_E) (B : BN E ow tb nL) (i : Nat) (h : tb[i]? = some (pc, .putfield idx, 3, nx)) {rn nm d : String} (hw : Cond.fieldLink ow idx rn nm d ∈ TW) (hf : zfl ci kf = some (rn, nm, d)) {ty : FieldType} (hd0 : parseFieldDescriptor d = some ty) (hfin : zfin ci kf = true) (hI : IN E) (hdecl : rn = ow) (hv : ∀ z, narrow ty (shv z v) = shv z v ∧ fits ty (shv z v) = true) (he : cs[j]? = some (.inr (ci, fs))) (hl0 : kf < fs.length) (h2 : cs.set j (.inr (ci, fs.set kf v)) = cs2) (k : GN E nL nx lv st cs2 len kc ks) : GN E nL pc lv (v :: .ref j :: st) cs len kc ks := by
  subst h2
  obtain ⟨p, l, e, R, s, m, args, below, meth, c, Q, D, cI, cZ, cJ, n, lr⟩ := E
  obtain ⟨hd, hn⟩ := BN.dec B h
  subst hn
  intro H locs ls hlen hP hz hS hl
  obtain ⟨-, ⟨Cn, T, N⟩, hx, hkN, rfl, rfl, rfl⟩ := zfl_spec hf
  obtain ⟨hws, hN, hty, hnm⟩ := zcls_ok hx
  have hfin' : (T kf).2.2.2 = true := by unfold zfin at hfin; rw [hx] at hfin; exact hfin
  have he' := wsn_get (n := n) he
  have hap := va_apart (own := ow) B.tw hws (tyA ci) hty hnm B.K hx
  obtain ⟨r, h1, cell, q1, q2, q3, q4⟩ := hP j _ he'
  have hr : r = (Cn, T, N) := Option.some.inj (h1.symm.trans hx)
  subst hr
  obtain ⟨hSl, hfc, kC, hkC, hkind⟩ := B.K.1 ci _ hx
  obtain ⟨cf, kk9, fi, f, hi, hsl⟩ := hSl kf hkN
  have hst := (u_facts hfc hkC (u_lays B.tw hws hkN) hi).1
  have hlay := B.tw _ (hws _ (u_in_lay hkN))
  unfold u_lay at hlay
  rw [if_pos hfin'] at hlay
  have hcf : m.cls = cf := by
    obtain ⟨_, _, c', _, _, _, -, -, hf', -, -, -, hown2, -⟩ := Cond.laysFinal_spec hlay
    have e1 : c' = cf := by have := hi.symm.trans hf'; simp at this; exact this.1.symm
    rw [hdecl] at hown2
    rw [← e1]; exact Option.some.inj (B.hown.symm.trans hown2)
  have h6 := u_fits hfc hkC hkind (Or.inr hlay) hi hd0 (hv n).1 (hv n).2
  refine W.putFinK B.1 rfl B.hown (B.tw _ hw) hi hst hcf hI (by rw [q2]; exact h6) q1 q3 (by rw [hsl]; exact k2_hasslot (q4 kf hkN)) rfl rfl hd fun H1 e1 e2 e3 => ?_
  rw [hsl] at e1 ⊢
  have hP1 : va_P D zcls ((wsn n cs).set j (n + j, .inr (ci, (fs.map (shv n)).set kf (shv n v)))) H1 := hP.set (wsn_D n cs) he' ⟨_, hx, t_OB.to (V := updV (vp_V (fs.map (shv n))) kf (shv n v)) ⟨_, e1, q2, q3, t_set q4 hap hkN (shv n v)⟩ (fun i _ => vp_updV_set (by rw [List.length_map]; exact hl0) (shv n v) i)⟩ e3
  have hset : (fs.map (shv n)).set kf (shv n v) = (fs.set kf v).map (shv n) := by rw [List.map_set]
  rw [hset] at hP1
  have hP1 : va_P D zcls ((wsn n cs).set j (n + j, she n (.inr (ci, fs.set kf v)))) H1 := hP1
  rw [wsn_set] at hP1
  exact k H1 _ ls (by rw [List.length_set]; exact hlen) hP1 (by rw [List.length_set]; omega) (hS.put e2 e3 (Nat.le_add_right n j)) hl
theorem n_put {E : En} {ow : String} {tb : Tb} {nL pc nx len kc ks : Nat} {lv : Lv} {st : List Value} {cs : List va_E} {idx : Nat} {v : Value} {fs : List Value} (ci kf j : Nat) (cs2 : List va_E) (B : BN E ow tb nL) (i : Nat) (h : tb[i]? = some (pc, .putfield idx, 3, nx)) {rn nm d : String} (hw : Cond.fieldLink ow idx rn nm d ∈ TW) (hf : zfl ci kf = some (rn, nm, d)) {ty : FieldType} (hd0 : parseFieldDescriptor d = some ty) (hfin : zfin ci kf = false) (hv : ∀ z, narrow ty (shv z v) = shv z v ∧ fits ty (shv z v) = true) (he : cs[j]? = some (.inr (ci, fs))) (hl0 : kf < fs.length) (h2 : cs.set j (.inr (ci, fs.set kf v)) = cs2) (k : GN E nL nx lv st cs2 len kc ks) : GN E nL pc lv (v :: .ref j :: st) cs len kc ks := by
  subst h2
  obtain ⟨p, l, e, R, s, m, args, below, meth, c, Q, D, cI, cZ, cJ, n, lr⟩ := E
  obtain ⟨hd, hn⟩ := BN.dec B h
  subst hn
  intro H locs ls hlen hP hz hS hl
  obtain ⟨-, ⟨Cn, T, N⟩, hx, hkN, rfl, rfl, rfl⟩ := zfl_spec hf
  obtain ⟨hws, hN, hty, hnm⟩ := zcls_ok hx
  have hfin' : (T kf).2.2.2 = false := by unfold zfin at hfin; rw [hx] at hfin; exact hfin
  have he' := wsn_get (n := n) he
  have hap := va_apart (own := ow) B.tw hws (tyA ci) hty hnm B.K hx
  obtain ⟨r, h1, cell, q1, q2, q3, q4⟩ := hP j _ he'
  have hr : r = (Cn, T, N) := Option.some.inj (h1.symm.trans hx)
  subst hr
  obtain ⟨hSl, hfc, kC, hkC, hkind⟩ := B.K.1 ci _ hx
  obtain ⟨cf, kk9, fi, f, hi, hsl⟩ := hSl kf hkN
  have hst := (u_facts hfc hkC (u_lays B.tw hws hkN) hi).1
  have hlay := B.tw _ (hws _ (u_in_lay hkN))
  unfold u_lay at hlay
  rw [if_neg (by rw [hfin']; decide)] at hlay
  have h6 := u_store hfc hkC hkind hlay hi hd0 (hv n).1 (hv n).2
  refine W.putK B.1 rfl (f := f) ⟨B.hown, B.tw _ hw, ⟨_, _, _, hi⟩, hst⟩ (by rw [q2]; exact h6) q1 q3 (by rw [hsl]; exact k2_hasslot (q4 kf hkN)) rfl rfl hd fun H1 e1 e2 e3 => ?_
  rw [hsl] at e1 ⊢
  have hP1 : va_P D zcls ((wsn n cs).set j (n + j, .inr (ci, (fs.map (shv n)).set kf (shv n v)))) H1 := hP.set (wsn_D n cs) he' ⟨_, hx, t_OB.to (V := updV (vp_V (fs.map (shv n))) kf (shv n v)) ⟨_, e1, q2, q3, t_set q4 hap hkN (shv n v)⟩ (fun i _ => vp_updV_set (by rw [List.length_map]; exact hl0) (shv n v) i)⟩ e3
  have hset : (fs.map (shv n)).set kf (shv n v) = (fs.set kf v).map (shv n) := by rw [List.map_set]
  rw [hset] at hP1
  have hP1 : va_P D zcls ((wsn n cs).set j (n + j, she n (.inr (ci, fs.set kf v)))) H1 := hP1
  rw [wsn_set] at hP1
  exact k H1 _ ls (by rw [List.length_set]; exact hlen) hP1 (by rw [List.length_set]; omega) (hS.put e2 e3 (Nat.le_add_right n j)) hl
theorem n_get {E : En} {ow : String} {tb : Tb} {nL pc nx len kc ks : Nat} {lv : Lv} {st : List Value} {cs : List va_E} {idx q2 : Nat} {fs : List Value} (ci kf j : Nat) (B : BN E ow tb nL) (i : Nat) (h : tb[i]? = some (pc, .getfield idx, 3, nx)) {rn nm d : String} (hw : Cond.fieldLink ow idx rn nm d ∈ TW) (hf : zfl ci kf = some (rn, nm, d)) (he : cs[j]? = some (.inr (ci, fs))) (hv : fs[kf]? = some (.ref q2)) (k : GN E nL nx lv (.ref q2 :: st) cs len kc ks) : GN E nL pc lv (.ref j :: st) cs len kc ks := by
  obtain ⟨p, l, e, R, s, m, args, below, meth, c, Q, D, cI, cZ, cJ, n, lr⟩ := E
  obtain ⟨hd, hn⟩ := BN.dec B h
  subst hn
  intro H locs ls hlen hP hz hS hl
  obtain ⟨-, ⟨Cn, T, N⟩, hx, hkN, rfl, rfl, rfl⟩ := zfl_spec hf
  obtain ⟨hws, hN, hty, hnm⟩ := zcls_ok hx
  exact va_get (C := Cn) (T := T) (N := N) (fs := fs.map (shv n)) B.1 rfl B.tw hws B.hown B.K hP j (wsn_get he) hx kf hkN (B.tw _ hw) (fun _ h => h) (v := .ref (n + q2)) (by rw [List.getElem?_map, hv]; rfl) hd (k H locs ls hlen hP hz hS hl)
theorem n_iast {E : En} {ow : String} {tb : Tb} {nL pc nx len kc ks : Nat} {lv : Lv} {st : List Value} {cs : List va_E} {R : Room} {l0 : Launch} {D0 : va_G} {cI cZ cJ : ClassId} {N : Nat} {f : Nat → Int32} {x v : Int32} (j : Nat) (cs2 : List va_E) (hL : LN E l0 D0 cI cZ cJ) (B : BN E ow tb nL) (i : Nat) (h : tb[i]? = some (pc, .iastore, 1, nx)) (he : cs[j]? = some (.inl (cI, N, .inl f))) (hx : vp_in x N) (h2 : cs.set j (.inl (cI, N, .inl (upd f x.toNatClampNeg v))) = cs2) (k : GN E nL nx lv st cs2 len kc ks) : GN E nL pc lv (.int v :: .int x :: .ref j :: st) cs len kc ks := by
  subst h2
  obtain ⟨p, l, e, R', s, m, args, below, meth, c, Q, D, cI', cZ', cJ', n, lr⟩ := E
  obtain ⟨rfl, rfl, rfl, rfl, rfl⟩ := hL
  obtain ⟨hd, hn⟩ := BN.dec B h
  subst hn
  intro H locs ls hlen hP hz hS hl
  have he' := wsn_get (n := n) he
  refine W.iast B.1 rfl (hP j _ he') ((B.K.2 0 _ rfl).1 N (fun i => .int (f i))) (fun q => by cases q) (by show ¬ (x < 0 ∨ (arrV _ _ _).slots.size ≤ _); rw [arrV_size]; exact hx) rfl rfl hd fun H1 e1 z1 oq => ?_
  have hP1 : va_P D zcls ((wsn n cs).set j (n + j, .inl (cI', N, .inl (upd f x.toNatClampNeg v)))) H1 := by
    refine hP.set (wsn_D n cs) he' ?_ oq
    show H1[n + j]? = some (vp_cell _ _)
    rw [e1]
    rw [vp_cell_i, vp_cell_i, arrV_store]
    congr 2
    funext q
    by_cases hq : q = x.toNatClampNeg
    · subst hq
      simp [updV, upd]
    · simp [updV, upd, hq]
  have hP1 : va_P D zcls ((wsn n cs).set j (n + j, she n (.inl (cI', N, .inl (upd f x.toNatClampNeg v))))) H1 := hP1
  rw [wsn_set] at hP1
  exact k H1 _ ls (by rw [List.length_set]; exact hlen) hP1 (by rw [List.length_set]; omega) (hS.put z1 oq (Nat.le_add_right n j)) hl
theorem n_vret {E : En} {ow : String} {tb : Tb} {nL pc nx len kc ks : Nat} {lv : Lv} {cs : List va_E} {blk : List va_E} {mc ms : Nat} (B : BN E ow tb nL) (i : Nat) (h : tb[i]? = some (pc, .return_, 1, nx)) (hQ : RtN E blk mc ms) (hb : cs = blk ∧ kc = mc ∧ ks = ms) : GN E nL pc lv [] cs len kc ks := by
  obtain ⟨p, l, e, R, s, m, args, below, meth, c, Q, D, cI, cZ, cJ, n, lr⟩ := E
  obtain ⟨hd, hn⟩ := BN.dec B h
  subst hn
  intro H locs ls hlen hP hz hS hl
  obtain ⟨hQ, hrt⟩ := hQ
  obtain ⟨rfl, rfl, rfl⟩ := hb
  have hQ : Q = _ := hQ
  subst hQ
  exact W.vret B.1 rfl hrt (fun t ht hW => ⟨rfl, by rw [ht]; exact hP, by rw [ht]; exact hz, hS.F ht⟩) hS.2.2 hd B.lk
theorem n_callO {E : En} {ow : String} {tb : Tb} {nL pc nx len kc ks : Nat} {lv : Lv} {st : List Value} {cs : List va_E} {R : Room} {l0 : Launch} {D0 : va_G} {cI cZ cJ : ClassId} {y : MethodName} {bytes : ByteArray} {maxL fr lo idx mc ms : Nat} {e0 : va_E} {blk : List va_E} (j0 : Nat) (cs0 cs2 : List va_E) (len2 kc2 ks2 : Nat) (hR0 : RN E R) (hL : LN E l0 D0 cI cZ cJ) (B : BN E ow tb nL) (i : Nat) (h : tb[i]? = some (pc, .invokespecial idx, 3, nx)) (hM : MI y bytes maxL none 0) (hw : Cond.methodLink ow idx y ∈ TW) (hin : Cond.instanceMethod y ∈ TW) (hnm : y.name = "<init>") (hc : CtN l0 D0 cI cZ cJ y bytes maxL fr lo e0 blk mc ms) (hR : fr + 1 ≤ R.frames ∧ 8 + (maxL + 11) + lo ≤ R.locals ∧ kc + mc = kc2 ∧ ks + ms = ks2 ∧ kc2 ≤ R.cells ∧ ks2 ≤ R.slots) (hcs : cs = cs0 ++ [e0]) (bl : Nat) (hj : j0 + 1 = len ∧ blk.length = bl ∧ j0 + bl = len2) (he0 : ∀ z, she z e0 = e0) (h2 : cs0 ++ blk.map (she j0) = cs2) (hW : (st.map fun v => v.category).sum ≤ 8) (k : GN E nL nx lv st cs2 len2 kc2 ks2) : GN E nL pc lv (.ref j0 :: st) cs len kc ks := by
  subst h2
  subst hcs
  obtain ⟨hj1, hj2, hj3⟩ := hj
  obtain ⟨p, l, e, R', s, m, args, below, meth, c, Q, D, cI', cZ', cJ', n, lr⟩ := E
  obtain rfl : R' = R := hR0
  obtain ⟨rfl, rfl, rfl, rfl, rfl⟩ := hL
  obtain ⟨hd, hn⟩ := BN.dec B h
  subst hn
  intro H locs ls hlen hP hz hS hl
  rw [List.length_append] at hz hlen
  have hj : cs0.length = j0 := by
    have h1 : cs0.length + 1 = len := hlen
    omega
  subst hj
  have hrl : ((st.map (shv n)).map (fun v => v.category)).sum ≤ 8 := by
    rw [List.map_map]
    have : ((fun v : Value => v.category) ∘ shv n) = fun v => v.category := by funext v; exact shv_cat n v
    rw [this]; exact hW
  have hPl : va_P D zcls (wsn (n + cs0.length) [e0]) H := by
    intro k q hq
    obtain ⟨x, hx, rfl⟩ := wsn_at hq
    have h0 : k < 1 := (List.getElem?_eq_some_iff.mp hx).1
    rw [show k = 0 by omega] at hx ⊢
    cases hx
    have h1 := hP cs0.length _ (wsn_get (n := n) (by rw [List.getElem?_append_right (Nat.le_refl _), Nat.sub_self]; rfl))
    rw [he0] at h1
    rw [he0]
    exact h1
  have hrun := va_runI (As := []) (b := n + cs0.length) (rest := st.map (shv n)) (g := F0 m pc ls (.ref (n + cs0.length) :: st.map (shv n))) (cells := kc) (slots := ks) (locs := locs) (H := H) (e := e) (below := below) (meth := meth) ⟨B.1, rfl, B.ml, B.hown, B.tw⟩ (hc (n + cs0.length)) ⟨callB_of 0 B.tw (tw_good hM.1) rfl rfl rfl (B.tw _ hM.2.2.2) (B.tw _ hw) hM.2.2.1 ⟨hR.1, hR.2.1⟩, hnm, B.tw _ hin⟩ ⟨fun a U g mk q => ⟨q.1, q.2.1, q.2.2.1, va_K.moved (u := U) (U := U.calling g mk a) (Vm.Alike.refl U.vm) q.2.2.2.1, fun x m => va_Nw.same rfl (u := U) (U := U.calling g mk a) rfl (q.2.2.2.2 x m)⟩, fun U hU hW => ⟨rfl, by rw [hU, hz]; rfl, by rw [hU]; exact hPl, va_K.moved hW.alike B.K, fun x m => (B.hnx x m).warmM hW⟩⟩ rfl rfl hl.1 rfl (lv_room hrl) hd (by have := hR.2.2; omega)
  intro T hT Y
  obtain ⟨v, st₀, t, T', L, h0, X', hL, e1, e2, ⟨hv, hP1, hz1, hF⟩, hst⟩ := hrun T hT Y
  cases hv
  have hAA : ∀ q, (n + cs0.length ≤ q) → n ≤ q := fun q h => by omega
  obtain ⟨g1, g2, hS1⟩ := kp_keep h0 e1 hS (fun q _ h => hAA q h) hAA hL hF
  have hP2 : va_P D zcls (wsn n (cs0 ++ blk.map (she cs0.length))) T'.heap := by
    intro k q hq
    obtain ⟨x, hx, rfl⟩ := wsn_at hq
    by_cases hk : k < cs0.length
    · rw [List.getElem?_append_left hk] at hx
      refine (hP k _ (wsn_get (n := n) (x := x) (by rw [List.getElem?_append_left hk]; exact hx))).kept ?_
      exact g2 (n + k) (by omega) (by show ¬ _ ≤ _; omega)
    · rw [List.getElem?_append_right (by omega), List.getElem?_map] at hx
      cases hb : blk[k - cs0.length]? with
      | none => rw [hb] at hx; cases hx
      | some b =>
        rw [hb] at hx
        cases hx
        rw [she_she, show n + k = n + cs0.length + (k - cs0.length) by omega, e1]
        exact hP1 _ _ (wsn_get hb)
  have hgo := k T'.heap (locs ++ L) ls (by rw [List.length_append, List.length_map]; omega) hP2 (by rw [e1, hz1, List.length_append, List.length_map]; omega) hS1 hl
  have hr3 := hR.2.2
  rw [← hr3.1, ← hr3.2.1] at hgo
  obtain ⟨t2, a1, b1⟩ := hgo T' rfl X'
  exact ⟨t2, hst t2 a1, b1⟩
theorem n_callN {E : En} {ow : String} {tb : Tb} {nL pc nx len kc ks : Nat} {lv : Lv} {st : List Value} {cs : List va_E} {R : Room} {l0 : Launch} {D0 : va_G} {cI cZ cJ : ClassId} {y : MethodName} {bytes : ByteArray} {maxL fr lo idx mc ms : Nat} {host : String} {e0 : va_E} {blk : List va_E} (j0 : Nat) (cs0 cs2 : List va_E) (len2 kc2 ks2 : Nat) (hR0 : RN E R) (hL : LN E l0 D0 cI cZ cJ) (B : BN E ow tb nL) (i : Nat) (h : tb[i]? = some (pc, .invokespecial idx, 3, nx)) (hM : MI y bytes maxL none 0) (hw : (ow, idx, y, host) ∈ zns) (hin : Cond.instanceMethod y ∈ TW) (hnm : y.name = "<init>") (hc : CtN l0 D0 cI cZ cJ y bytes maxL fr lo e0 blk mc ms) (hR : fr + 1 ≤ R.frames ∧ 8 + (maxL + 11) + lo ≤ R.locals ∧ kc + mc = kc2 ∧ ks + ms = ks2 ∧ kc2 ≤ R.cells ∧ ks2 ≤ R.slots) (hcs : cs = cs0 ++ [e0]) (bl : Nat) (hj : j0 + 1 = len ∧ blk.length = bl ∧ j0 + bl = len2) (he0 : ∀ z, she z e0 = e0) (h2 : cs0 ++ blk.map (she j0) = cs2) (hW : (st.map fun v => v.category).sum ≤ 8) (k : GN E nL nx lv st cs2 len2 kc2 ks2) : GN E nL pc lv (.ref j0 :: st) cs len kc ks := by
  subst h2
  subst hcs
  obtain ⟨hj1, hj2, hj3⟩ := hj
  obtain ⟨p, l, e, R', s, m, args, below, meth, c, Q, D, cI', cZ', cJ', n, lr⟩ := E
  obtain rfl : R' = R := hR0
  obtain ⟨rfl, rfl, rfl, rfl, rfl⟩ := hL
  obtain ⟨hd, hn⟩ := BN.dec B h
  subst hn
  intro H locs ls hlen hP hz hS hl
  rw [List.length_append] at hz hlen
  have hj : cs0.length = j0 := by
    have h1 : cs0.length + 1 = len := hlen
    omega
  subst hj
  have hrl : ((st.map (shv n)).map (fun v => v.category)).sum ≤ 8 := by
    rw [List.map_map]
    have : ((fun v : Value => v.category) ∘ shv n) = fun v => v.category := by funext v; exact shv_cat n v
    rw [this]; exact hW
  have hPl : va_P D zcls (wsn (n + cs0.length) [e0]) H := by
    intro k q hq
    obtain ⟨x, hx, rfl⟩ := wsn_at hq
    have h0 : k < 1 := (List.getElem?_eq_some_iff.mp hx).1
    rw [show k = 0 by omega] at hx ⊢
    cases hx
    have h1 := hP cs0.length _ (wsn_get (n := n) (by rw [List.getElem?_append_right (Nat.le_refl _), Nat.sub_self]; rfl))
    rw [he0] at h1
    rw [he0]
    exact h1
  have hrun := va_runIN (As := []) (b := n + cs0.length) (rest := st.map (shv n)) (g := F0 m pc ls (.ref (n + cs0.length) :: st.map (shv n))) (cells := kc) (slots := ks) (locs := locs) (H := H) (e := e) (below := below) (meth := meth) ⟨B.1, rfl, B.ml, B.hown, B.tw⟩ (hc (n + cs0.length)) ⟨va_cnB 0 B.tw (tw_good hM.1) rfl rfl rfl (B.hnx _ hw) (B.tw _ hM.2.2.2) hM.2.2.1 ⟨hR.1, hR.2.1⟩, hnm, B.tw _ hin⟩ ⟨fun a U g mk q => ⟨q.1, q.2.1, q.2.2.1, va_K.moved (u := U) (U := U.calling g mk a) (Vm.Alike.refl U.vm) q.2.2.2.1, fun x m => va_Nw.same rfl (u := U) (U := U.calling g mk a) rfl (q.2.2.2.2 x m)⟩, fun U hU hW => ⟨rfl, by rw [hU, hz]; rfl, by rw [hU]; exact hPl, va_K.moved hW.alike B.K, fun x m => (B.hnx x m).warmM hW⟩⟩ rfl rfl hl.1 rfl (lv_room hrl) hd (by have := hR.2.2; omega)
  intro T hT Y
  obtain ⟨v, st₀, t, T', L, h0, X', hL, e1, e2, ⟨hv, hP1, hz1, hF⟩, hst⟩ := hrun T hT Y
  cases hv
  have hAA : ∀ q, (n + cs0.length ≤ q) → n ≤ q := fun q h => by omega
  obtain ⟨g1, g2, hS1⟩ := kp_keep h0 e1 hS (fun q _ h => hAA q h) hAA hL hF
  have hP2 : va_P D zcls (wsn n (cs0 ++ blk.map (she cs0.length))) T'.heap := by
    intro k q hq
    obtain ⟨x, hx, rfl⟩ := wsn_at hq
    by_cases hk : k < cs0.length
    · rw [List.getElem?_append_left hk] at hx
      refine (hP k _ (wsn_get (n := n) (x := x) (by rw [List.getElem?_append_left hk]; exact hx))).kept ?_
      exact g2 (n + k) (by omega) (by show ¬ _ ≤ _; omega)
    · rw [List.getElem?_append_right (by omega), List.getElem?_map] at hx
      cases hb : blk[k - cs0.length]? with
      | none => rw [hb] at hx; cases hx
      | some b =>
        rw [hb] at hx
        cases hx
        rw [she_she, show n + k = n + cs0.length + (k - cs0.length) by omega, e1]
        exact hP1 _ _ (wsn_get hb)
  have hgo := k T'.heap (locs ++ L) ls (by rw [List.length_append, List.length_map]; omega) hP2 (by rw [e1, hz1, List.length_append, List.length_map]; omega) hS1 hl
  have hr3 := hR.2.2
  rw [← hr3.1, ← hr3.2.1] at hgo
  obtain ⟨t2, a1, b1⟩ := hgo T' rfl X'
  exact ⟨t2, hst t2 a1, b1⟩
