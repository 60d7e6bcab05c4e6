abbrev Mem : Type := Nat → Nat → Int32
def up2 (mm : Mem) (c i : Nat) (v : Int32) : Mem := fun a j => if a = c ∧ j = i then v else mm a j
def Kl : List Nat := [99, 99, 99, 99, 99, 99, 99, 99, 99, 99, 99, 99, 99, 99, 6, 0, 1, 5, 8, 8, 8, 8, 8, 8, 2, 8, 8, 8, 8, 8, 8, 8, 8, 8, 8, 8, 8, 8, 8, 8, 8, 8, 8, 8, 0, 1, 5, 8, 8, 8, 8, 8, 8, 2, 8, 8, 8, 8, 8, 8, 8, 8, 8, 8, 8, 8, 8, 8, 8, 8, 8, 8, 8, 4, 3, 8, 1, 5, 8, 8, 8, 8, 8, 8, 2, 8, 8, 8, 8, 8, 8, 8, 8, 8, 8, 1, 5, 8, 8, 8, 8, 8, 8, 2, 8, 8, 8, 8, 8, 8, 8, 8, 8, 8, 1, 5, 8, 8, 8, 8, 8, 8, 2, 8, 8, 8, 8, 8, 8, 8, 8, 8, 8]
def Ll : List Nat := [0, 0, 0, 0, 0, 0, 0, 0, 0, 0, 0, 0, 0, 0, 0, 0, 0, 0, 6, 6, 6, 6, 24, 24, 0, 4, 12, 12, 12, 12, 12, 12, 12, 36, 36, 6, 6, 6, 48, 48, 48, 6, 6, 6, 0, 0, 0, 6, 6, 6, 6, 24, 24, 0, 4, 12, 12, 12, 12, 12, 12, 12, 36, 36, 6, 6, 6, 48, 48, 48, 6, 6, 6, 0, 0, 500, 0, 0, 6, 6, 6, 6, 24, 24, 0, 4, 12, 12, 12, 12, 12, 12, 12, 36, 36, 0, 0, 6, 6, 6, 6, 24, 24, 0, 4, 12, 12, 12, 12, 12, 12, 12, 36, 36, 0, 0, 6, 6, 6, 6, 24, 24, 0, 4, 12, 12, 12, 12, 12, 12, 12, 36, 36]
def kd (c : Nat) : Nat := Kl.getD c 99
def ln (c : Nat) : Nat := Ll.getD c 0
def nfl (ci : Nat) : Nat := match ci with | 0 => 12 | 1 => 2 | 2 => 12 | 3 => 2 | 4 => 8 | 5 => 7 | 6 => 7 | 7 => 1 | 8 => 10 | 9 => 3 | 10 => 4 | _ => 0
def rfk (ci k c : Nat) : Option Nat := match ci, k with | 0, 0 => some (c + 1) | 0, 1 => some (c + 20) | 0, 2 => some (c + 21) | 0, 3 => some (c + 22) | 0, 4 => some (c + 23) | 0, 5 => some (c + 24) | 0, 6 => some (c + 25) | 0, 7 => some (c + 26) | 0, 8 => some (c + 27) | 0, 9 => some (c + 28) | 1, 0 => some (c + 1) | 1, 1 => some (c + 8) | 2, 2 => some (c + 1) | 2, 3 => some (c + 2) | 2, 4 => some (c + 3) | 2, 5 => some (c + 4) | 2, 6 => some (c + 5) | 2, 7 => some (c + 6) | 2, 8 => some (c + 7) | 2, 9 => some (c + 8) | 2, 10 => some (c + 9) | 2, 11 => some (c + 10) | 3, 0 => some (75) | 4, 0 => some (74) | 4, 1 => some (76) | 5, 1 => some (c + 1) | 5, 2 => some (c + 2) | 5, 3 => some (c + 3) | 5, 4 => some (c + 4) | 5, 5 => some (c + 5) | 5, 6 => some (c + 6) | 6, 0 => some (15) | 6, 1 => some (44) | 6, 2 => some (73) | 6, 3 => some (95) | 6, 4 => some (114) | _, _ => none
abbrev zcls : List vw_C := [(RX0, TX0, 12), (RX1, TX1, 2), (RX2, TX2, 12), (RX3, TX3, 2), (RX4, TX4, 8), (RX5, TX5, 7), (RX6, TX6, 7), (RX7, TX7, 1), (RX8, TX8, 10), (RJx4a65c, TJx4a65c, 3), (RJx35411, TJx35411, 4)]
def tyA (ci : Nat) : Nat → FieldType := match ci with | 0 => tyX0 | 1 => tyX1 | 2 => tyX2 | 3 => tyX3 | 4 => tyX4 | 5 => tyX5 | 6 => tyX6 | 7 => tyX7 | 8 => tyX8 | 9 => tyJx4a65c | 10 => tyJx35411 | _ => fun _ => .int
/-- addresses of the cells by their ids, classes, the array classes (int, boolean, long), the texts' rows -/
abbrev Cfg : Type := (Nat → Nat) × va_G × ClassId × ClassId × ClassId
abbrev Lv : Type := List (Nat × Value)
abbrev Tb : Type := List (Nat × Instr × Nat × Nat)
abbrev NC : Nat := 133
def cvv (C : Cfg) : Value → Value
  | .ref a => .ref (C.1 a)
  | .null => .null
  | .int x => .int x
  | .long x => .long x
  | .float x => .float x
  | .double x => .double x
  | .retAddr x => .retAddr x
def fvv (C : Cfg) (f : Nat → Int32) (ci c k : Nat) : Value := match rfk ci k c with
  | some q => .ref (C.1 q)
  | none => .int (f k)
def fl (C : Cfg) (f : Nat → Int32) (ci c : Nat) : List Value := (List.range (nfl ci)).map (fvv C f ci c)
def celx (C : Cfg) (c : Nat) (f : Nat → Int32) : va_E :=
  if kd c < 8 then .inr (kd c, fl C f (kd c) c) else .inl (C.2.2.1, ln c, .inl f)
def cel (C : Cfg) (mm : Mem) (c : Nat) : va_E := celx C c (mm c)
def wl (C : Cfg) (mm : Mem) : va_W := (List.range 119).map (fun i => (C.1 (i + 14), cel C mm (i + 14)))
def tys (C : Cfg) : List (ClassId × FieldType) := [(C.2.2.1, .int), (C.2.2.2.1, .object "java/lang/Object"), (C.2.2.2.2, .array .int)]
def zns : List (String × Nat × MethodName × String) := [("ZoneCapacity", 9, ⟨"ZoneCapacity$Auction", "<init>", "()V"⟩, "ZoneCapacity"), ("ZoneCapacity$Auction", 11, ⟨"ZoneCapacity$Market", "<init>", "()V"⟩, "ZoneCapacity"), ("ZoneCapacity$Market", 9, ⟨"ZoneCapacity$Zones", "<init>", "()V"⟩, "ZoneCapacity"), ("ZoneCapacity$Market", 18, ⟨"ZoneCapacity$Offers", "<init>", "()V"⟩, "ZoneCapacity"), ("ZoneCapacity", 21, ⟨"ZoneCapacity$Teller", "<init>", "()V"⟩, "ZoneCapacity"), ("ZoneCapacity$Teller", 11, ⟨"ZoneCapacity$Tape", "<init>", "()V"⟩, "ZoneCapacity"), ("ZoneCapacity$Teller", 20, ⟨"ZoneCapacity$Market", "<init>", "()V"⟩, "ZoneCapacity"), ("ZoneCapacity", 28, ⟨"ZoneCapacity$Market", "<init>", "()V"⟩, "ZoneCapacity"), ("ZoneCapacity$Zones", 46, ⟨"ZoneCapacity", "at", "([II)I"⟩, "ZoneCapacity"), ("ZoneCapacity$Zones", 42, ⟨"ZoneCapacity", "put", "([III)V"⟩, "ZoneCapacity"), ("ZoneCapacity$Offers", 57, ⟨"ZoneCapacity", "at", "([II)I"⟩, "ZoneCapacity"), ("ZoneCapacity$Offers", 53, ⟨"ZoneCapacity", "put", "([III)V"⟩, "ZoneCapacity"), ("ZoneCapacity$Auction", 56, ⟨"ZoneCapacity", "put", "([III)V"⟩, "ZoneCapacity"), ("ZoneCapacity$Auction", 69, ⟨"ZoneCapacity", "at", "([II)I"⟩, "ZoneCapacity"), ("ZoneCapacity$Offers", 69, ⟨"ZoneCapacity", "within", "(III)Z"⟩, "ZoneCapacity")]
def TF : List Cond := lw_tbl.filter (fun w => w.faceAtom && w.onTables)
/-- words of the tables that no reader of steady words carries -/
def Sx (_C : Cfg) (_A : Nat → Prop) (U : State) (_H : Heap) : Prop :=
  (∀ q ∈ zns, va_Nw (.methodLinkNest q.1 q.2.1 q.2.2.1 q.2.2.2) U) ∧ (∀ w ∈ TF, va_Nw w U)
theorem va_Nw.face {w : Cond} {s U : State} (hc : w.faceAtom = true ∧ w.onTables = true) (hW : s.WarmedH U.vm) (hZ : va_Nw w s) : va_Nw w U := va_tabs hc.2 (rfl : (s.setVm U.vm).vm = U.vm) (Cond.faceAtom_setVm hW.alike w hc.1 hZ)
theorem tf_ok {w : Cond} (h : w ∈ TF) : w.faceAtom = true ∧ w.onTables = true := by
  have := (List.mem_filter.mp h).2
  simpa using this
theorem Sx.go {C : Cfg} {A B : Nat → Prop} {s U : State} {H H1 : Heap} (h : Sx C A s H) (hW : s.WarmedH U.vm) : Sx C B U H1 :=
  ⟨fun q m => (h.1 q m).warmM hW, fun w m => (h.2 w m).face (tf_ok m) hW⟩
def Aw (C : Cfg) : Nat → Prop := fun q => ∃ c, 14 ≤ c ∧ c < 133 ∧ C.1 c = q
def Wd (C : Cfg) (mm : Mem) (U : State) : Prop := va_P C.2.1 zcls (wl C mm) U.heap ∧ va_K C.2.1 zcls (tys C) U ∧ Sx C (Aw C) U U.heap
def Dj (C : Cfg) : Prop := ∀ i j : Nat, 14 ≤ i → i < 133 → 14 ≤ j → j < 133 → C.1 i = C.1 j → i = j
def Ob (c ci : Nat) : Prop := c < 133 ∧ kd c = ci
theorem ob_lo {c ci : Nat} (h : Ob c ci) (hc : ci < 9) : 14 ≤ c := by
  rcases Nat.lt_or_ge c 14 with h1 | h1
  · exfalso
    have h2 := h.2
    have h3 : ∀ k, k < 14 → kd k = 99 := by decide +kernel
    rw [h3 c h1] at h2
    omega
  · exact h1
abbrev Ev : Type := Program × Launch × Env × Room × State × MethodId × Array Value × List Frame × Method × Code × (State → Prop) × Cfg × Nat × Nat × (Nat → Prop) × Option Value × Mem
def G : Ev → Nat → Nat → Lv → List Value → Mem → Prop
  | (p, l, e, R, s, m, args, below, meth, c, Q, C, kc, ks, A, _, _), nL, pc, lv, st, mm => ∀ (H : Heap) (locs : List Loc) (ls : Array Slot), va_P C.2.1 zcls (wl C mm) H → va_S A s.heap H locs → lv_has ls nL (lv.map (fun q => (q.1, cvv C q.2))) → W p l e R s m args below meth c H locs kc ks Q (F0 m pc ls (st.map (cvv C)))
def Bx : Ev → String → Tb → Nat → Option FieldType → Prop
  | (p, _, _, R, s, m, args, _, meth, c, _, C, kc, ks, A, _, _), own, tb, nL, ret => p.tables.exec = Jvm.exec ∧ (∀ q ∈ tb, decode c.code q.1 = .ok (q.2.1, q.2.2.1) ∧ q.1 + q.2.2.1 = q.2.2.2) ∧ c.maxLocals = nL ∧ s.vm.findClass own = some m.cls ∧ (∀ w ∈ TW, w.before args s = true) ∧ va_K C.2.1 zcls (tys C) s ∧ Dj C ∧ (∀ c, 14 ≤ c → c < 133 → A (C.1 c)) ∧ Sx C A s s.heap ∧ meth.sig.returnType = ret ∧ meth.locks = false ∧ kc ≤ R.cells ∧ ks ≤ R.slots
/-- which end the state is asked for: a method's own -/
def QC (C : Cfg) (A : Nat → Prop) (r : Option Value) (mo : Mem) : Array Value → State → Outcome → State → Prop := fun _ st oc t => oc = .returned (r.map (cvv C)) ∧ Wd C mo t ∧ va_F A st t
def Rt : Ev → Prop
  | (_, _, _, _, s, _, args, below, _, _, Q, C, kc, ks, A, res, mo) => Q = MQ below (QC C A res mo) args s kc ks A
def Rs : Ev → Option Value → Mem → Prop
  | (_, _, _, _, _, _, _, _, _, _, _, _, _, _, _, res, mo), r, mm => res = r ∧ mo = mm
/-- what is known of a method that is called: its code, its number of arguments -/
def MI (y : MethodName) (bytes : ByteArray) (maxL : Nat) (rt : Option FieldType) (n : Nat) : Prop := Cond.code y bytes maxL rt ∈ TW ∧ plainName y.cls = true ∧ (y.cls ≠ "java/lang/invoke/MethodHandle" ∧ y.cls ≠ "java/lang/invoke/VarHandle" ∧ (parseMethodDescriptor y.desc).map (fun d => d.parameters.length) = some n) ∧ Cond.initialized y.cls ∈ TW
/-- launch, configuration and room of the walk -/
def Ec : Ev → Launch → Cfg → Room → Prop
  | (_, l, _, R, _, _, _, _, _, _, _, C, _, _, _, _, _), l', C', R' => l = l' ∧ C = C' ∧ R = R'
section BXS
variable {p : Program} {l : Launch} {e : Env} {R : Room} {s : State} {m : MethodId} {args : Array Value} {below : List Frame} {meth : Method} {c : Code} {Q : State → Prop} {C : Cfg} {kc ks : Nat} {A : Nat → Prop} {res : Option Value} {mo : Mem} {own : String} {tb : Tb} {nL : Nat} {ret : Option FieldType}
variable {pc nx len : Nat} {ins : Instr} {mm : Mem} {H : Heap} {locs : List Loc} {ls : Array Slot} {rest : List Value}
theorem Bx.dec (B : Bx (p, l, e, R, s, m, args, below, meth, c, Q, C, kc, ks, A, res, mo) own tb nL ret) {i : Nat} (h : tb[i]? = some (pc, ins, len, nx)) : decode c.code pc = .ok (ins, len) ∧ pc + len = nx := by
  have h1 : ∀ q ∈ tb, decode c.code q.1 = .ok (q.2.1, q.2.2.1) ∧ q.1 + q.2.2.1 = q.2.2.2 := B.2.1
  exact h1 (pc, ins, len, nx) (List.mem_of_getElem? h)
theorem Bx.hown (B : Bx (p, l, e, R, s, m, args, below, meth, c, Q, C, kc, ks, A, res, mo) own tb nL ret) : s.vm.findClass own = some m.cls := B.2.2.2.1
theorem Bx.tw (B : Bx (p, l, e, R, s, m, args, below, meth, c, Q, C, kc, ks, A, res, mo) own tb nL ret) : ∀ w ∈ TW, w.before args s = true := B.2.2.2.2.1
theorem Bx.K (B : Bx (p, l, e, R, s, m, args, below, meth, c, Q, C, kc, ks, A, res, mo) own tb nL ret) : va_K C.2.1 zcls (tys C) s := B.2.2.2.2.2.1
theorem Bx.dj (B : Bx (p, l, e, R, s, m, args, below, meth, c, Q, C, kc, ks, A, res, mo) own tb nL ret) : Dj C := B.2.2.2.2.2.2.1
theorem Bx.aa (B : Bx (p, l, e, R, s, m, args, below, meth, c, Q, C, kc, ks, A, res, mo) own tb nL ret) : ∀ c, 14 ≤ c → c < 133 → A (C.1 c) := B.2.2.2.2.2.2.2.1
theorem Bx.sx (B : Bx (p, l, e, R, s, m, args, below, meth, c, Q, C, kc, ks, A, res, mo) own tb nL ret) : Sx C A s s.heap := B.2.2.2.2.2.2.2.2.1
theorem Bx.ml (B : Bx (p, l, e, R, s, m, args, below, meth, c, Q, C, kc, ks, A, res, mo) own tb nL ret) : c.maxLocals = nL := B.2.2.1
theorem Bx.rt (B : Bx (p, l, e, R, s, m, args, below, meth, c, Q, C, kc, ks, A, res, mo) own tb nL ret) : meth.sig.returnType = ret := B.2.2.2.2.2.2.2.2.2.1
theorem Bx.lk (B : Bx (p, l, e, R, s, m, args, below, meth, c, Q, C, kc, ks, A, res, mo) own tb nL ret) : meth.locks = false := B.2.2.2.2.2.2.2.2.2.2.1
theorem Bx.rm (B : Bx (p, l, e, R, s, m, args, below, meth, c, Q, C, kc, ks, A, res, mo) own tb nL ret) : kc ≤ R.cells ∧ ks ≤ R.slots := B.2.2.2.2.2.2.2.2.2.2.2
theorem cvv_cat (C : Cfg) (v : Value) : (cvv C v).category = v.category := by cases v <;> rfl
theorem lvm {C : Cfg} {lv : Lv} {j q : Nat} {v : Value} (h : lv[j]? = some (q, v)) : (lv.map (fun q => (q.1, cvv C q.2)))[j]? = some (q, cvv C v) := by
  rw [List.getElem?_map, h]
  rfl
theorem lvs {C : Cfg} {lv lv' : Lv} {js : List Nat} (h : js.filterMap (fun j => lv[j]?) = lv') : lv_pick (lv.map (fun q => (q.1, cvv C q.2))) js = lv'.map (fun q => (q.1, cvv C q.2)) := by
  subst h
  unfold lv_pick
  rw [List.map_filterMap]
  congr 1
  funext j
  rw [List.getElem?_map]
def zs1 (lv : Lv) (i : Nat) (v : Value) : Lv := (i, v) :: lv.filter (fun q => !(q.1 == i) && !(q.1 + 1 == i && q.2.category == 2))
def zs2 (lv : Lv) (i : Nat) (v : Value) : Lv := (i, v) :: lv.filter (fun q => !(q.1 == i) && (!(q.1 == i + 1) && !(q.1 + 1 == i && q.2.category == 2)))
theorem zs1_map (C : Cfg) (lv : Lv) (i : Nat) (v : Value) : (i, cvv C v) :: (lv.map (fun q => (q.1, cvv C q.2))).filter (fun q => !(q.1 == i) && !(q.1 + 1 == i && q.2.category == 2)) = (zs1 lv i v).map (fun q => (q.1, cvv C q.2)) := by
  unfold zs1
  rw [List.map_cons, List.filter_map]
  congr 3
  funext q
  simp only [Function.comp, cvv_cat]
theorem zs2_map (C : Cfg) (lv : Lv) (i : Nat) (v : Value) : (i, cvv C v) :: (lv.map (fun q => (q.1, cvv C q.2))).filter (fun q => !(q.1 == i) && (!(q.1 == i + 1) && !(q.1 + 1 == i && q.2.category == 2))) = (zs2 lv i v).map (fun q => (q.1, cvv C q.2)) := by
  unfold zs2
  rw [List.map_cons, List.filter_map]
  congr 3
  funext q
  simp only [Function.comp, cvv_cat]
theorem i32_nlt {x y : Int32} (h : ¬ x < y) : y ≤ x := Int32.not_lt.mp h
theorem i32_nlt2 {x y : Int32} (h : y ≤ x) : ¬ x < y := Int32.not_lt.mpr h
def inb (i : Int32) (n : Nat) : Bool := !(decide (i < 0) || decide (n ≤ i.toNatClampNeg))
theorem inb_in {i : Int32} {n : Nat} (h : inb i n = true) : vp_in i n := by
  unfold inb at h
  unfold vp_in
  simpa using h
theorem wl_get {C : Cfg} {mm : Mem} {q : Nat} (h0 : 14 ≤ q) (h : q < 133) : (wl C mm)[q - 14]? = some (C.1 q, cel C mm q) := by
  unfold wl
  rw [List.getElem?_map, List.getElem?_range (by omega), show q = (q - 14) + 14 by omega]
  rfl
theorem wl_at {C : Cfg} {mm : Mem} {k : Nat} {x : Nat × va_E} (h : (wl C mm)[k]? = some x) : k < 119 ∧ x = (C.1 (k + 14), cel C mm (k + 14)) := by
  by_cases hq : k < 119
  · refine ⟨hq, ?_⟩
    have := wl_get (C := C) (mm := mm) (q := k + 14) (by omega) (by omega)
    rw [show k + 14 - 14 = k by omega] at this
    rw [this] at h
    exact (Option.some.inj h).symm
  · unfold wl at h
    rw [List.getElem?_map, List.getElem?_eq_none (by rw [List.length_range]; omega)] at h
    cases h
theorem wl_D (B : Bx (p, l, e, R, s, m, args, below, meth, c, Q, C, kc, ks, A, res, mo) own tb nL ret) (mm : Mem) : va_D A (wl C mm) := by
  refine ⟨fun i j x y hx hy hxy => ?_, fun k x hx => ?_⟩
  · obtain ⟨h1, rfl⟩ := wl_at hx
    obtain ⟨h2, rfl⟩ := wl_at hy
    have := B.dj (i + 14) (j + 14) (by omega) (by omega) (by omega) (by omega) hxy
    omega
  · obtain ⟨h1, rfl⟩ := wl_at hx
    exact B.aa (k + 14) (by omega) (by omega)
theorem cel_obj {C : Cfg} {mm : Mem} {q ci : Nat} (h : kd q = ci) (hc : ci < 8) : cel C mm q = .inr (ci, fl C (mm q) ci q) := by
  unfold cel celx
  rw [h, if_pos hc]
theorem wl_arr {C : Cfg} {mm : Mem} {q : Nat} (h : Ob q 8) : (wl C mm)[q - 14]? = some (C.1 q, .inl (C.2.2.1, ln q, .inl (mm q))) := by
  rw [wl_get (ob_lo h (by decide)) h.1]
  unfold cel celx
  rw [h.2]
  rfl
theorem up2_eq (mm : Mem) (q k : Nat) (v : Int32) : up2 mm q k v q = upd (mm q) k v := by
  funext j
  simp [up2, upd]
theorem up2_ne (mm : Mem) {q c : Nat} (k : Nat) (v : Int32) (h : c ≠ q) : up2 mm q k v c = mm c := by
  funext j
  simp [up2, h]
theorem cel_congr {C : Cfg} {mm mm' : Mem} {c : Nat} (h : mm' c = mm c) : cel C mm' c = cel C mm c := congrArg (celx C c) h
theorem wl_upd {C : Cfg} {mm mm' : Mem} {q : Nat} {x : va_E} (h0 : 14 ≤ q) (hq : q < 133) (he : cel C mm' q = x) (ho : ∀ c, c ≠ q → mm' c = mm c) : (wl C mm).set (q - 14) (C.1 q, x) = wl C mm' := by
  apply List.ext_getElem?
  intro j
  by_cases hj : j = q - 14
  · subst hj
    rw [List.getElem?_set_self (by unfold wl; rw [List.length_map, List.length_range]; omega), wl_get h0 hq, he]
  · rw [List.getElem?_set_ne (Ne.symm hj)]
    by_cases hl : j < 119
    · have e1 := wl_get (C := C) (mm := mm) (q := j + 14) (by omega) (by omega)
      have e2 := wl_get (C := C) (mm := mm') (q := j + 14) (by omega) (by omega)
      rw [show j + 14 - 14 = j by omega] at e1 e2
      rw [e1, e2, cel_congr (ho (j + 14) (by omega))]
    · unfold wl
      rw [List.getElem?_map, List.getElem?_map, List.getElem?_eq_none (by rw [List.length_range]; omega), Option.map_none, Option.map_none]
theorem wl_setI {C : Cfg} {mm : Mem} {q : Nat} (h : Ob q 8) (k : Nat) (v : Int32) : (wl C mm).set (q - 14) (C.1 q, .inl (C.2.2.1, ln q, .inl (upd (mm q) k v))) = wl C (up2 mm q k v) := by
  refine wl_upd (ob_lo h (by decide)) h.1 ?_ (fun c hc => up2_ne mm k v hc)
  unfold cel celx
  rw [h.2, up2_eq]
  rfl
theorem fl_len (C : Cfg) (f : Nat → Int32) (ci q : Nat) : (fl C f ci q).length = nfl ci := by
  unfold fl
  rw [List.length_map, List.length_range]
theorem fl_get (C : Cfg) (f : Nat → Int32) {ci q k : Nat} (h : k < nfl ci) : (fl C f ci q)[k]? = some (fvv C f ci q k) := by
  unfold fl
  rw [List.getElem?_map, List.getElem?_range h]
  rfl
theorem wl_setF {C : Cfg} {mm : Mem} {q ci : Nat} (h : Ob q ci) (hc : ci < 8) {k : Nat} (hk : k < nfl ci) (hr : rfk ci k q = none) (v : Int32) : (wl C mm).set (q - 14) (C.1 q, .inr (ci, (fl C (mm q) ci q).set k (.int v))) = wl C (up2 mm q k v) := by
  refine wl_upd (ob_lo h (by omega)) h.1 ?_ (fun c hc => up2_ne mm k v hc)
  rw [cel_obj h.2 hc]
  congr 2
  apply List.ext_getElem?
  intro j
  by_cases hj : j = k
  · subst hj
    rw [List.getElem?_set_self (by rw [fl_len]; exact hk), fl_get _ _ hk]
    unfold fvv
    rw [hr]
    simp [up2]
  · rw [List.getElem?_set_ne (Ne.symm hj)]
    by_cases hl : j < nfl ci
    · rw [fl_get _ _ hl, fl_get _ _ hl]
      unfold fvv
      cases rfk ci j q with
      | some z => rfl
      | none => simp [up2, hj]
    · rw [List.getElem?_eq_none (by rw [fl_len]; omega), List.getElem?_eq_none (by rw [fl_len]; omega)]
def zfl (ci k : Nat) : Option (String × String × String) := if ci < 8 then (match zcls[ci]? with
  | some x => if k < x.2.2 then some ((x.2.1 k).1, (x.2.1 k).2.1, (x.2.1 k).2.2.1) else none
  | none => none) else none
def zfin (ci k : Nat) : Bool := match zcls[ci]? with
  | some x => (x.2.1 k).2.2.2
  | none => true
theorem zcls_lt {ci : Nat} {x : vw_C} (h : zcls[ci]? = some x) : ci < 11 := (List.getElem?_eq_some_iff.mp h).1
theorem zcls_ok {ci : Nat} {x : vw_C} (h : zcls[ci]? = some x) : (∀ w ∈ u_ws x.1 x.2.1 x.2.2, w ∈ TW) ∧ x.2.2 = nfl ci ∧ (∀ k, k < x.2.2 → parseFieldDescriptor (x.2.1 k).2.2.1 = some (tyA ci k)) ∧ (∀ a, a < x.2.2 → ∀ b, b < x.2.2 → a ≠ b → (x.2.1 a).2.1 ≠ (x.2.1 b).2.1) := by
  have hl := zcls_lt h
  match ci, hl, h with
  | 0, _, h => cases h; exact ⟨iwX0, rfl, tyX0_ok, nmX0⟩
  | 1, _, h => cases h; exact ⟨iwX1, rfl, tyX1_ok, nmX1⟩
  | 2, _, h => cases h; exact ⟨iwX2, rfl, tyX2_ok, nmX2⟩
  | 3, _, h => cases h; exact ⟨iwX3, rfl, tyX3_ok, nmX3⟩
  | 4, _, h => cases h; exact ⟨iwX4, rfl, tyX4_ok, nmX4⟩
  | 5, _, h => cases h; exact ⟨iwX5, rfl, tyX5_ok, nmX5⟩
  | 6, _, h => cases h; exact ⟨iwX6, rfl, tyX6_ok, nmX6⟩
  | 7, _, h => cases h; exact ⟨iwX7, rfl, tyX7_ok, nmX7⟩
  | 8, _, h => cases h; exact ⟨iwX8, rfl, tyX8_ok, nmX8⟩
  | 9, _, h => cases h; exact ⟨iwJx4a65c, rfl, tyJx4a65c_ok, nmJx4a65c⟩
  | 10, _, h => cases h; exact ⟨iwJx35411, rfl, tyJx35411_ok, nmJx35411⟩
  | n + 11, hl, _ => omega
theorem zfl_spec {ci k : Nat} {rn nm d : String} (h : zfl ci k = some (rn, nm, d)) : ci < 8 ∧ ∃ x : vw_C, zcls[ci]? = some x ∧ k < x.2.2 ∧ (x.2.1 k).1 = rn ∧ (x.2.1 k).2.1 = nm ∧ (x.2.1 k).2.2.1 = d := by
  unfold zfl at h
  by_cases hc : ci < 8
  · rw [if_pos hc] at h
    refine ⟨hc, ?_⟩
    cases hx : zcls[ci]? with
    | none => rw [hx] at h; cases h
    | some x =>
      rw [hx] at h
      dsimp only at h
      by_cases hk : k < x.2.2
      · rw [if_pos hk] at h
        cases h
        exact ⟨x, rfl, hk, rfl, rfl, rfl⟩
      · rw [if_neg hk] at h
        cases h
  · rw [if_neg hc] at h
    cases h
theorem zgetf (B : Bx (p, l, e, R, s, m, args, below, meth, c, Q, C, kc, ks, A, res, mo) own tb nL ret) (hP : va_P C.2.1 zcls (wl C mm) H) {q ci kf n : Nat} (hq : Ob q ci) (hd : decode c.code pc = .ok (.getfield n, 3)) {rn nm d : String} (hw : Cond.fieldLink own n rn nm d ∈ TW) (hf : zfl ci kf = some (rn, nm, d)) {v : Value} (hv : fvv C (mm q) ci q kf = v) (k : W p l e R s m args below meth c H locs kc ks Q (F0 m (pc + 3) ls (v :: rest))) : W p l e R s m args below meth c H locs kc ks Q (F0 m pc ls (.ref (C.1 q) :: rest)) := by
  obtain ⟨hc8, ⟨Cn, T, N⟩, hx, hk, rfl, rfl, rfl⟩ := zfl_spec hf
  obtain ⟨hws, hN, hty, hnm⟩ := zcls_ok hx
  refine va_get (C := Cn) (T := T) (N := N) (fs := fl C (mm q) ci q) B.1 rfl B.tw hws B.hown B.K hP (q - 14) ?_ hx kf hk (B.tw _ hw) (fun _ h => h) ?_ hd k
  · rw [wl_get (ob_lo hq (Nat.lt_succ_of_lt hc8)) hq.1, cel_obj hq.2 hc8]
  · rw [fl_get _ _ (hN ▸ hk), hv]
theorem zputf (B : Bx (p, l, e, R, s, m, args, below, meth, c, Q, C, kc, ks, A, res, mo) own tb nL ret) (hP : va_P C.2.1 zcls (wl C mm) H) (hS : va_S A s.heap H locs) {q ci kf n : Nat} (hq : Ob q ci) (hr : rfk ci kf q = none) (hd : decode c.code pc = .ok (.putfield n, 3)) {rn nm d : String} (hw : Cond.fieldLink own n rn nm d ∈ TW) (hf : zfl ci kf = some (rn, nm, d)) {ty : FieldType} (hd0 : parseFieldDescriptor d = some ty) (hfin : zfin ci kf = false) {v : Int32} (hv : narrow ty (.int v) = .int v) (hfit : fits ty (.int v) = true)
    (k : ∀ (H1 : Heap) (locs1 : List Loc), va_P C.2.1 zcls (wl C (up2 mm q kf v)) H1 → va_S A s.heap H1 locs1 → W p l e R s m args below meth c H1 locs1 kc ks Q (F0 m (pc + 3) ls rest)) : W p l e R s m args below meth c H locs kc ks Q (F0 m pc ls (.int v :: .ref (C.1 q) :: rest)) := by
  obtain ⟨hc8, ⟨Cn, T, N⟩, hx, hk, rfl, rfl, rfl⟩ := zfl_spec hf
  obtain ⟨hws, hN, hty, hnm⟩ := zcls_ok hx
  have hfin' : (T kf).2.2.2 = false := by unfold zfin at hfin; rw [hx] at hfin; exact hfin
  refine va_put (C := Cn) (T := T) (N := N) (ty := ty) (fs := fl C (mm q) ci q) B.1 rfl B.tw hws (tyA ci) hty hnm B.hown B.K hP (wl_D B mm) hS (q - 14) ?_ hx kf hk (B.tw _ hw) (fun _ h => h) hfin' hd0 hv hfit ?_ hd (fun H1 locs1 hP1 _ hS1 => ?_)
  · rw [wl_get (ob_lo hq (Nat.lt_succ_of_lt hc8)) hq.1, cel_obj hq.2 hc8]
  · rw [fl_len]; exact hN ▸ hk
  · rw [wl_setF hq hc8 (hN ▸ hk) hr v] at hP1
    exact k H1 locs1 hP1 hS1
-- what a method's end asks, out of the state there
theorem Wd_end (B : Bx (p, l, e, R, s, m, args, below, meth, c, Q, C, kc, ks, A, res, mo) own tb nL ret) (hP : va_P C.2.1 zcls (wl C mm) H) (hS : va_S A s.heap H locs) {t : State} (ht : t.heap = H) (hW : s.WarmedH t.vm) : Wd C mm t := by
  refine ⟨by rw [ht]; exact hP, va_K.moved hW.alike B.K, ?_⟩
  rw [ht]
  exact B.sx.go hW
theorem z_iret {E : Ev} {own : String} {tb : Tb} {nL : Nat} {ty : FieldType} {pc nx : Nat} {lv : Lv} {mm : Mem} {v : Int32} (B : Bx E own tb nL (some ty)) (i : Nat) (h : tb[i]? = some (pc, .ireturn, 1, nx)) (hn : narrow ty (.int v) = .int v) (hQ : Rt E) (hr : Rs E (some (.int v)) mm) : G E nL pc lv [.int v] mm := by
  obtain ⟨p, l, e, R, s, m, args, below, meth, c, Q, C, kc, ks, A, res, mo⟩ := E
  obtain ⟨hd, -⟩ := Bx.dec B h
  obtain ⟨rfl, rfl⟩ := hr
  have hQ : Q = MQ below (QC C A _ _) args s kc ks A := hQ
  subst hQ
  intro H locs ls hP hS hl
  exact W.zret (v := v) B.1 rfl B.rt hn (fun t ht hW => ⟨rfl, Wd_end B hP hS ht hW, hS.F ht⟩) hS.2.2 hd B.lk
theorem z_lret {E : Ev} {own : String} {tb : Tb} {nL : Nat} {pc nx : Nat} {lv : Lv} {mm : Mem} {v : Int64} (B : Bx E own tb nL (some .long)) (i : Nat) (h : tb[i]? = some (pc, .lreturn, 1, nx)) (hQ : Rt E) (hr : Rs E (some (.long v)) mm) : G E nL pc lv [.long v] mm := by
  obtain ⟨p, l, e, R, s, m, args, below, meth, c, Q, C, kc, ks, A, res, mo⟩ := E
  obtain ⟨hd, -⟩ := Bx.dec B h
  obtain ⟨rfl, rfl⟩ := hr
  have hQ : Q = MQ below (QC C A _ _) args s kc ks A := hQ
  subst hQ
  intro H locs ls hP hS hl
  exact W.lret (v := v) B.1 rfl B.rt (fun t ht hW => ⟨rfl, Wd_end B hP hS ht hW, hS.F ht⟩) hS.2.2 hd B.lk
theorem z_vret {E : Ev} {own : String} {tb : Tb} {nL : Nat} {pc nx : Nat} {lv : Lv} {mm : Mem} (B : Bx E own tb nL none) (i : Nat) (h : tb[i]? = some (pc, .return_, 1, nx)) (hQ : Rt E) (hr : Rs E none mm) : G E nL pc lv [] mm := by
  obtain ⟨p, l, e, R, s, m, args, below, meth, c, Q, C, kc, ks, A, res, mo⟩ := E
  obtain ⟨hd, -⟩ := Bx.dec B h
  obtain ⟨rfl, rfl⟩ := hr
  have hQ : Q = MQ below (QC C A _ _) args s kc ks A := hQ
  subst hQ
  intro H locs ls hP hS hl
  exact W.vret B.1 rfl B.rt (fun t ht hW => ⟨rfl, Wd_end B hP hS ht hW, hS.F ht⟩) hS.2.2 hd B.lk
/-- a contract: over every world that holds mm the method ends with r, and the world holds mo -/
def Ct (l : Launch) (C : Cfg) (y : MethodName) (bytes : ByteArray) (maxL : Nat) (ret : Option FieldType) (fr lo : Nat) (av : List Value) (mm : Mem) (r : Option Value) (mo : Mem) : Prop :=
  Met l y (Cond.code y bytes maxL ret :: TW) ({ frames := fr, cells := 0, slots := 0, locals := lo }) (va_Pc (av.map (cvv C)) (Wd C mm)) (QC C (Aw C) r mo) 0 0 (Aw C)
/-- a method's body, out of G at its entry -/
theorem Ct.of {l : Launch} {C : Cfg} (hj : Dj C) {y : MethodName} {bytes : ByteArray} {nL fr lo : Nat} {ret : Option FieldType} {av : List Value} {mm mo : Mem} {r : Option Value} {tb : Tb} (hy : plainName y.cls = true) (hcode : Cond.code y bytes nL ret ∈ TW) (htb : ∀ q ∈ tb, decode bytes q.1 = .ok (q.2.1, q.2.2.1) ∧ q.1 + q.2.2.1 = q.2.2.2) (hlen : (lg_sl (av.map (fun v => match v with | .long _ => Value.long 0 | .double _ => .double 0 | _ => .null))).length ≤ nL)
    (body : ∀ E : Ev, Bx E y.cls tb nL ret → Rt E → Rs E r mo → Ec E l C ({ frames := fr, cells := 0, slots := 0, locals := lo } : Room) → G E nL 0 (lv_args 0 av) [] mm) : Ct l C y bytes nL ret fr lo av mm r mo := by
  refine Met.ofW (cc := bytes) (maxL := nL) (ret := ret) hy rfl ?_
  intro p e s m args below meth c s₁ B hml hv
  obtain ⟨rfl, hP, hK, hSx⟩ := hv
  have hts : ∀ w ∈ TW, w.before (av.map (cvv C)).toArray s = true := fun w hw => atoms_spec (ws := Cond.code y bytes nL ret :: TW) B.pre w (List.mem_cons_of_mem _ hw)
  have hB : Bx (p, l, e, ({ frames := fr, cells := 0, slots := 0, locals := lo } : Room), s, m, (av.map (cvv C)).toArray, below, meth, c, MQ below (QC C (Aw C) r mo) (av.map (cvv C)).toArray s 0 0 (Aw C), C, 0, 0, Aw C, r, mo) y.cls tb nL ret :=
    ⟨B.exec, fun q hq => by rw [B.bytes]; exact htb q hq, hml, findClass_of_methodNamed B.named, hts, hK, hj, fun c h0 hc => ⟨c, h0, hc, rfl⟩, hSx, B.returns, B.notSynchronized, Nat.zero_le _, Nat.zero_le _⟩
  have hG := body _ hB rfl ⟨rfl, rfl⟩ ⟨rfl, rfl, rfl⟩
  have hll : ∀ (a : List Value), (lg_sl (a.map (cvv C))).length = (lg_sl (a.map (fun v => match v with | .long _ => Value.long 0 | .double _ => .double 0 | _ => .null))).length := by
    intro a
    induction a with
    | nil => rfl
    | cons v a ih =>
      simp only [lg_sl, List.map_cons, List.flatMap_cons, List.length_append] at ih ⊢
      rw [ih]
      congr 1
      cases v <;> rfl
  have hl := lv_entry (av.map (cvv C)) (n := nL) (by rw [hll]; exact hlen)
  rw [lg_entry_eq]
  generalize (lg_sl (av.map (cvv C)) ++ List.replicate (nL - (lg_sl (av.map (cvv C))).length) Slot.unset).toArray = ls at hl ⊢
  have hmap : ∀ (a : List Value) (i : Nat), lv_args i (a.map (cvv C)) = (lv_args i a).map (fun q => (q.1, cvv C q.2)) := by
    intro a
    induction a with
    | nil => intro i; rfl
    | cons v a ih =>
      intro i
      simp only [List.map_cons, lv_args, cvv_cat, ih]
  rw [hmap] at hl
  exact hG s.heap [] ls hP va_S.rf hl
/-- a call's answer -/
theorem zcall (B : Bx (p, l, e, R, s, m, args, below, meth, c, Q, C, kc, ks, A, res, mo) own tb nL ret) {r : Option Value} {mm' : Mem} {a : Array Value} {st0 st2 : List Value} (hS : va_S A s.heap H locs) (hr : va_Run p l e R s m args below meth c H locs kc ks 0 0 (F0 m pc ls st0) st2 (QC C (Aw C) r mm' a) (Aw C))
    (k : ∀ (H1 : Heap) (locs1 : List Loc), va_P C.2.1 zcls (wl C mm') H1 → va_S A s.heap H1 locs1 → W p l e R s m args below meth c H1 locs1 kc ks Q (F0 m (pc + 3) ls ((r.map (cvv C)).toList ++ st2))) : W p l e R s m args below meth c H locs kc ks Q (F0 m pc ls st0) := by
  intro T hT X
  have hAA : ∀ q, Aw C q → A q := fun q hq => by obtain ⟨c, h0, h1, rfl⟩ := hq; exact B.aa c h0 h1
  obtain ⟨v, st₀, t, T', L, h0, X', hL, e1, e2, ⟨hv, hWd, hz, hk⟩, st⟩ := hr T hT X
  cases hv
  rw [h0] at hz hk
  obtain ⟨t2, a1, b1⟩ := k T'.heap (locs ++ L) (by rw [e1]; exact hWd.1)
    ⟨Nat.le_trans hS.1 (by rw [e1]; exact hz), fun q h1 h2 => by rw [e1, hk q (Nat.lt_of_lt_of_le h1 hS.1) (fun z => h2 (hAA q z))]; exact hS.2.1 q h1 h2, fun q hq => by
      rcases List.mem_append.mp hq with h | h
      · exact hS.2.2 q h
      · exact hAA _ (hL q h)⟩ T' rfl X'
  exact ⟨t2, st t2 a1, b1⟩
theorem Wd_blind {av : List Value} : FrameBlind (va_Pc av (Wd C mm)) := fun a U g mk q =>
  ⟨q.1, q.2.1, va_K.moved (u := U) (U := U.calling g mk a) (Vm.Alike.refl U.vm) q.2.2.1, fun x m => va_Nw.same rfl rfl (q.2.2.2.1 x m), fun w m => va_Nw.same (tf_ok m).2 (u := U) (U := U.calling g mk a) rfl (q.2.2.2.2 w m)⟩
theorem Wd_call (B : Bx (p, l, e, R, s, m, args, below, meth, c, Q, C, kc, ks, A, res, mo) own tb nL ret) (hP : va_P C.2.1 zcls (wl C mm) H) (hS : va_S A s.heap H locs) (av : List Value) : ∀ U : State, U.heap = H → s.WarmedH U.vm → va_Pc (av.map (cvv C)) (Wd C mm) (av.map (cvv C)).toArray U := fun U hU hW => ⟨rfl, Wd_end B hP hS hU hW⟩
end BXS
