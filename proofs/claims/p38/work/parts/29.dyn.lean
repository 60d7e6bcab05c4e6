/-! the law's liv cells: ids from 1 on in the order of making, the address of id c is n + (c - 1); id 0 is the empty row that all lists begin with -/
/-- cells made, slots made, kinds and lengths, the class object's first id -/
abbrev AS : Type := Nat × Nat × (Nat → Nat × Nat) × Nat
abbrev DM : Type := Nat → Nat → Value
/-- the heap's size at the law's entry, the empty row, the classes -/
abbrev KF : Type := Nat × Nat × va_G × ClassId × ClassId × ClassId
def adr (K : KF) (c : Nat) : Nat := if c = 0 then K.2.1 else K.1 + (c - 1)
def kc (K : KF) : Cfg := (adr K, K.2.2)
def cfg (K : KF) (b : Nat) : Cfg := (fun c => K.1 + (b - 1) + (c - 14), K.2.2)
abbrev tyk (K : KF) : List (ClassId × FieldType) := tys (kc K)
def vint : Value → Int32
  | .int x => x
  | _ => 0
def vrf (K : KF) : Value → Option Nat
  | .ref a => some (adr K a)
  | _ => none
def cld (K : KF) (h : Nat × Nat) (f : Nat → Value) : va_E :=
  if h.1 < 11 then .inr (h.1, (List.range (nfl h.1)).map (fun k => cvv (kc K) (f k)))
  else if h.1 = 20 then .inl (K.2.2.2.1, h.2, .inl (fun i => vint (f i)))
  else if h.1 = 21 then .inl (K.2.2.2.2.1, h.2, .inr (.inr (.inr (.inr (fun i => vrf K (f i))))))
  else .inl (K.2.2.2.2.2, h.2, .inr (.inr (.inr (.inr (fun i => vrf K (f i))))))
def liv (A : AS) (c : Nat) : Bool := decide (1 ≤ c) && (decide (c ≤ A.1) && decide ((A.2.2.1 c).1 ≠ 0))
theorem liv_iff {A : AS} {c : Nat} : liv A c = true ↔ (1 ≤ c ∧ c ≤ A.1 ∧ (A.2.2.1 c).1 ≠ 0) := by
  unfold liv
  simp only [Bool.and_eq_true, decide_eq_true_eq]
def lvl (A : AS) : List Nat := (List.range (A.1 + 1)).filter (liv A)
theorem lvl_mem {A : AS} {c : Nat} : c ∈ lvl A ↔ liv A c = true := by
  unfold lvl
  rw [List.mem_filter, List.mem_range]
  refine ⟨fun h => h.2, fun h => ⟨?_, h⟩⟩
  have := liv_iff.mp h
  omega
theorem lvl_nd (A : AS) : (lvl A).Nodup := List.Pairwise.filter (liv A) List.nodup_range
def owv (K : KF) (A : AS) (dm : DM) : va_W := (lvl A).map (fun c => (adr K c, cld K (A.2.2.1 c) (dm c)))
def w2 (K : KF) (mm : Mem) (A : AS) (dm : DM) : va_W := wl (cfg K A.2.2.2) mm ++ owv K A dm
def okA (A : AS) : Prop := 1 ≤ A.2.2.2 ∧ A.2.2.2 + 118 ≤ A.1 ∧ (∀ c, A.2.2.2 ≤ c → c < A.2.2.2 + 119 → (A.2.2.1 c).1 = 0) ∧ (liv A A.1 = true ∨ A.1 = A.2.2.2 + 118)
def nw (A : AS) (k len sl : Nat) : AS := (A.1 + 1, A.2.1 + sl, fun c => if c = A.1 + 1 then (k, len) else A.2.2.1 c, A.2.2.2)
def nwm (A : AS) (dm : DM) (f : Nat → Value) : DM := fun c => if c = A.1 + 1 then f else dm c
def up3 (dm : DM) (c i : Nat) (v : Value) : DM := fun a j => if a = c ∧ j = i then v else dm a j
theorem liv_nw {A : AS} {k len sl : Nat} (hk : k ≠ 0) : liv (nw A k len sl) (A.1 + 1) = true := by
  rw [liv_iff]
  refine ⟨by omega, Nat.le_refl _, ?_⟩
  show (if A.1 + 1 = A.1 + 1 then (k, len) else A.2.2.1 (A.1 + 1)).1 ≠ 0
  rw [if_pos rfl]
  exact hk
theorem okA_nw {A : AS} (h : okA A) {k len sl : Nat} (hk : k ≠ 0) : okA (nw A k len sl) := by
  obtain ⟨h1, h2, h3, -⟩ := h
  refine ⟨h1, Nat.le_succ_of_le h2, fun c h4 h5 => ?_, Or.inl (liv_nw hk)⟩
  show (if c = A.1 + 1 then (k, len) else A.2.2.1 c).1 = 0
  have h4' : A.2.2.2 ≤ c := h4
  have h5' : c < A.2.2.2 + 119 := h5
  rw [if_neg (by omega)]
  exact h3 c h4 h5
theorem wl_len (C : Cfg) (mm : Mem) : (wl C mm).length = 119 := by
  unfold wl
  rw [List.length_map, List.length_range]
theorem ow_at (A : AS) {c : Nat} (h : liv A c = true) : ∃ i, (∀ (K : KF) (mm : Mem) (dm : DM), (w2 K mm A dm)[i]? = some (adr K c, cld K (A.2.2.1 c) (dm c))) ∧ (∀ (K : KF) (mm : Mem) (dm dm' : DM), (∀ a, a ≠ c → dm' a = dm a) → (w2 K mm A dm).set i (adr K c, cld K (A.2.2.1 c) (dm' c)) = w2 K mm A dm') := by
  obtain ⟨j, hj⟩ := List.getElem?_of_mem (lvl_mem.mpr h)
  have hjl : j < (lvl A).length := (List.getElem?_eq_some_iff.mp hj).1
  have hget : ∀ (K : KF) (mm : Mem) (dm : DM), (w2 K mm A dm)[119 + j]? = some (adr K c, cld K (A.2.2.1 c) (dm c)) := by
    intro K mm dm
    unfold w2
    rw [List.getElem?_append_right (by rw [wl_len]; omega), wl_len, show 119 + j - 119 = j by omega]
    unfold owv
    rw [List.getElem?_map, hj]
    rfl
  refine ⟨119 + j, hget, fun K mm dm dm' hne => ?_⟩
  apply List.ext_getElem?
  intro k
  by_cases hk : k = 119 + j
  · subst hk
    rw [List.getElem?_set_self (by unfold w2 owv; rw [List.length_append, wl_len, List.length_map]; omega), hget]
  · rw [List.getElem?_set_ne (Ne.symm hk)]
    unfold w2
    by_cases hl : k < 119
    · rw [List.getElem?_append_left (by rw [wl_len]; exact hl), List.getElem?_append_left (by rw [wl_len]; exact hl)]
    · rw [List.getElem?_append_right (by rw [wl_len]; omega), List.getElem?_append_right (by rw [wl_len]; omega), wl_len]
      unfold owv
      rw [List.getElem?_map, List.getElem?_map]
      cases hc : (lvl A)[k - 119]? with
      | none => rfl
      | some a =>
        have hne2 : a ≠ c := by
          intro e
          subst e
          have := (List.getElem?_inj hjl (lvl_nd A)).mp (hj.trans hc.symm)
          omega
        simp only [Option.map_some, hne a hne2]
theorem w2_at {K : KF} {mm : Mem} {A : AS} {dm : DM} {k : Nat} {x : Nat × va_E} (h : (w2 K mm A dm)[k]? = some x) : (k < 119 ∧ x.1 = K.1 + (A.2.2.2 - 1) + k) ∨ (119 ≤ k ∧ ∃ c, liv A c = true ∧ (lvl A)[k - 119]? = some c ∧ x = (adr K c, cld K (A.2.2.1 c) (dm c))) := by
  unfold w2 at h
  by_cases hl : k < 119
  · rw [List.getElem?_append_left (by rw [wl_len]; exact hl)] at h
    obtain ⟨-, rfl⟩ := wl_at h
    refine Or.inl ⟨hl, ?_⟩
    show K.1 + (A.2.2.2 - 1) + (k + 14 - 14) = _
    omega
  · rw [List.getElem?_append_right (by rw [wl_len]; omega), wl_len] at h
    unfold owv at h
    rw [List.getElem?_map] at h
    cases hc : (lvl A)[k - 119]? with
    | none => rw [hc] at h; cases h
    | some c =>
      rw [hc] at h
      exact Or.inr ⟨by omega, c, lvl_mem.mp (List.mem_of_getElem? hc), rfl, (Option.some.inj h).symm⟩
theorem adr_pos {K : KF} {c : Nat} (h : 1 ≤ c) : adr K c = K.1 + (c - 1) := by
  unfold adr
  rw [if_neg (by omega)]
theorem w2_D {K : KF} {mm : Mem} {A : AS} {dm : DM} (hA : okA A) : va_D (fun q => K.1 ≤ q) (w2 K mm A dm) := by
  have hlo : ∀ {c : Nat}, liv A c = true → adr K c = K.1 + (c - 1) ∧ 1 ≤ c := fun h => ⟨adr_pos (liv_iff.mp h).1, (liv_iff.mp h).1⟩
  have hx : ∀ {c k : Nat}, liv A c = true → k < 119 → K.1 + (A.2.2.2 - 1) + k ≠ adr K c := by
    intro c k h hk e
    obtain ⟨h1, h2⟩ := hlo h
    have h3 := hA.2.2.1 c (by have := hA.1; omega) (by have := hA.1; omega)
    exact (liv_iff.mp h).2.2 h3
  refine ⟨fun i j x y hi hj hxy => ?_, fun k x hk => ?_⟩
  · rcases w2_at hi with ⟨h1, e1⟩ | ⟨h1, c, hc, hi1, rfl⟩ <;> rcases w2_at hj with ⟨h2, e2⟩ | ⟨h2, d, hd, hj1, rfl⟩
    · omega
    · exact absurd (e1.symm.trans hxy) (hx hd h1)
    · exact absurd (e2.symm.trans hxy.symm) (hx hc h2)
    · obtain ⟨a1, a2⟩ := hlo hc
      obtain ⟨b1, b2⟩ := hlo hd
      have hxy' : adr K c = adr K d := hxy
      have hcd : c = d := by omega
      subst hcd
      have := (List.getElem?_inj (List.getElem?_eq_some_iff.mp hi1).1 (lvl_nd A)).mp (hi1.trans hj1.symm)
      omega
  · rcases w2_at hk with ⟨h1, e1⟩ | ⟨h1, c, hc, hi1, rfl⟩
    · show K.1 ≤ x.1
      omega
    · show K.1 ≤ adr K c
      rw [(hlo hc).1]
      omega
theorem lvl_nw {A : AS} {k len sl : Nat} (hk : k ≠ 0) : lvl (nw A k len sl) = lvl A ++ [A.1 + 1] := by
  show (List.range (A.1 + 1 + 1)).filter (liv (nw A k len sl)) = _
  rw [List.range_succ, List.filter_append]
  congr 1
  · apply List.filter_congr
    intro c hc
    have hc' := List.mem_range.mp hc
    have h1 : liv (nw A k len sl) c = true ↔ liv A c = true := by
      rw [liv_iff, liv_iff]
      show (1 ≤ c ∧ c ≤ A.1 + 1 ∧ (if c = A.1 + 1 then (k, len) else A.2.2.1 c).1 ≠ 0) ↔ _
      rw [if_neg (by omega)]
      constructor
      · rintro ⟨a, -, b⟩
        exact ⟨a, by omega, b⟩
      · rintro ⟨a, b, c⟩
        exact ⟨a, by omega, c⟩
    cases h2 : liv A c <;> cases h3 : liv (nw A k len sl) c <;> first | rfl | (exfalso; rw [h2, h3] at h1; simp at h1)
  · rw [List.filter_cons_of_pos (liv_nw hk), List.filter_nil]
theorem hz_lo {K : KF} {mm : Mem} {A : AS} {dm : DM} {D : va_G} {H : Heap} (hA : okA A) (hP : va_P D zcls (w2 K mm A dm) H) : K.1 + A.1 ≤ H.size := by
  rcases hA.2.2.2 with h | h
  · obtain ⟨i, h1, -⟩ := ow_at A h
    have h2 := (hP i _ (h1 K mm dm)).lt
    have h3 : adr K A.1 < H.size := h2
    have h4 := (liv_iff.mp h).1
    rw [adr_pos h4] at h3
    omega
  · have h1 : (w2 K mm A dm)[118]? = some ((cfg K A.2.2.2).1 132, cel (cfg K A.2.2.2) mm 132) := by
      unfold w2
      rw [List.getElem?_append_left (by rw [wl_len]; decide)]
      exact wl_get (q := 132) (by decide) (by decide)
    have h2 := (hP 118 _ h1).lt
    have h3 : K.1 + (A.2.2.2 - 1) + (132 - 14) < H.size := h2
    have := hA.1
    omega
theorem w2_nw {K : KF} {mm : Mem} {A : AS} {dm : DM} {k len sl : Nat} {f : Nat → Value} (hk : k ≠ 0) : w2 K mm (nw A k len sl) (nwm A dm f) = w2 K mm A dm ++ [(K.1 + A.1, cld K (k, len) f)] := by
  unfold w2
  rw [List.append_assoc]
  congr 1
  unfold owv
  rw [lvl_nw hk, List.map_append]
  congr 1
  · apply List.map_congr_left
    intro c hc
    have hc' := (liv_iff.mp (lvl_mem.mp hc)).2.1
    show (adr K c, cld K (if c = A.1 + 1 then (k, len) else A.2.2.1 c) (if c = A.1 + 1 then f else dm c)) = _
    rw [if_neg (by omega), if_neg (by omega)]
  · show [(adr K (A.1 + 1), cld K (if A.1 + 1 = A.1 + 1 then (k, len) else A.2.2.1 (A.1 + 1)) (if A.1 + 1 = A.1 + 1 then f else dm (A.1 + 1)))] = _
    rw [if_pos rfl, if_pos rfl, adr_pos (by omega)]
    rfl
-- words of the tables that no reader of steady words carries
def fns : List (String × Nat × String × String × String × String) := [("java/util/ArrayList$Itr", 28, "java/util/ArrayList", "size", "I", "java/util/ArrayList"), ("ZoneCapacityLaw", 55, "ZoneCapacityLaw$Market", "zones", "Ljava/util/ArrayList;", "ZoneCapacityLaw"), ("ZoneCapacityLaw", 65, "ZoneCapacityLaw$Market", "curves", "Ljava/util/ArrayList;", "ZoneCapacityLaw"), ("ZoneCapacityLaw", 100, "ZoneCapacityLaw$Market", "resources", "Ljava/util/ArrayList;", "ZoneCapacityLaw"), ("ZoneCapacityLaw", 103, "ZoneCapacityLaw$Market", "steps", "Ljava/util/ArrayList;", "ZoneCapacityLaw"), ("ZoneCapacityLaw", 130, "ZoneCapacityLaw$Market", "floors", "[I", "ZoneCapacityLaw"), ("ZoneCapacityLaw", 136, "ZoneCapacityLaw$Market", "ceiling", "I", "ZoneCapacityLaw"), ("ZoneCapacityLaw", 176, "ZoneCapacityLaw$Market", "prices", "[I", "ZoneCapacityLaw"), ("ZoneCapacityLaw", 179, "ZoneCapacityLaw$Market", "nets", "[I", "ZoneCapacityLaw"), ("ZoneCapacityLaw", 185, "ZoneCapacityLaw$Market", "served", "[I", "ZoneCapacityLaw"), ("ZoneCapacityLaw", 200, "ZoneCapacityLaw$Market", "taken", "[[I", "ZoneCapacityLaw")]
def oaw (U : State) : Prop := (Cond.arrayOver (.array .int)).before #[] U = true
theorem oaw.use {A : Array Value} {U : State} (h : oaw U) : (Cond.arrayOver (.array .int)).before A U = true := h
theorem oaw.moved {u U : State} (hvm : u.vm.Alike U.vm) (h : oaw u) : oaw U := by
  have hidx : ∀ comp : ClassId, (U.vm.classes.findIdx? fun (x : Class) => match x.kind with | .array component _ => component == comp | _ => false) = (u.vm.classes.findIdx? fun (x : Class) => match x.kind with | .array component _ => component == comp | _ => false) := by
    intro comp
    have h1 := va_idx_bare U.vm comp
    have h2 := va_idx_bare u.vm comp
    rw [hvm.bare_eq] at h1
    exact h1.symm.trans h2
  unfold oaw Cond.before Cond.holds at h ⊢
  simp only [Cond.value] at h ⊢
  rw [hvm.findClass, hvm.findClass]
  cases hc : u.vm.findClass (FieldType.array .int).toString with
  | none => rw [hc] at h; simp at h
  | some comp =>
    rw [hc] at h
    simp only [Option.bind_some] at h ⊢
    have h' : (((u.vm.classes.findIdx? fun (x : Class) => match x.kind with | .array component _ => component == comp | _ => false).bind fun c => (u.vm.classes[c]?).map fun (k : Class) => match k.kind with | .array _ ty => decide (ty = FieldType.array .int) && decide (u.vm.findClass ("[" ++ (FieldType.array .int).toString) = some c) | _ => false) == some true) = true := h
    show (((U.vm.classes.findIdx? fun (x : Class) => match x.kind with | .array component _ => component == comp | _ => false).bind fun c => (U.vm.classes[c]?).map fun (k : Class) => match k.kind with | .array _ ty => decide (ty = FieldType.array .int) && decide (u.vm.findClass ("[" ++ (FieldType.array .int).toString) = some c) | _ => false) == some true) = true
    rw [hidx comp]
    cases hi : (u.vm.classes.findIdx? fun (x : Class) => match x.kind with | .array component _ => component == comp | _ => false) with
    | none => rw [hi] at h'; simp at h'
    | some c =>
      rw [hi] at h'
      simp only [Option.bind_some] at h' ⊢
      cases hk : u.vm.classes[c]? with
      | none => rw [hk] at h'; simp at h'
      | some k =>
        obtain ⟨k', hk', he⟩ := hvm.2.2 _ _ hk
        rw [hk] at h'
        rw [hk']
        have hkind : k'.kind = k.kind := by rw [he]
        simp only [Option.map_some] at h' ⊢
        rw [hkind]
        exact h'
abbrev alN : String := "java/util/ArrayList"
abbrev alE : String := "DEFAULTCAPACITY_EMPTY_ELEMENTDATA"
abbrev alD : String := "[Ljava/lang/Object;"
def S2 (K : KF) (A : Nat → Prop) (U : State) (H : Heap) : Prop :=
  (∀ q ∈ zns, va_Nw (.methodLinkNest q.1 q.2.1 q.2.2.1 q.2.2.2) U) ∧ (∀ w ∈ TF, va_Nw w U) ∧ (∀ q ∈ fns, va_Nw (.fieldLinkNest q.1 q.2.1 q.2.2.1 q.2.2.2.1 q.2.2.2.2.1 q.2.2.2.2.2) U) ∧ va_AO "java/lang/Object" U ∧ oaw U ∧ va_Z alN alE alD (.ref K.2.1) A U H ∧ (va_T (.object "java/lang/Object") K.2.1 0 (fun _ => .null) A U H ∧ ¬ A K.2.1)
theorem S2.go {K : KF} {A B : Nat → Prop} {s U : State} {H H1 : Heap} (h : S2 K A s H) (hW : s.WarmedH U.vm) (hAB : ∀ q, B q → A q) (hq : ∀ a : Nat, a < H.size → ¬ A a → H1[a]? = H[a]?) : S2 K B U H1 :=
  ⟨fun q m => (h.1 q m).warmM hW, fun w m => (h.2.1 w m).face (tf_ok m) hW, fun q m => (h.2.2.1 q m).warmF hW, va_AO.moved hW.alike h.2.2.2.1, oaw.moved hW.alike h.2.2.2.2.1, ((h.2.2.2.2.2.1.moved hW.alike).kept hq).narrow hAB, ((h.2.2.2.2.2.2.1.moved hW.alike).kept hq).narrow hAB, fun z => h.2.2.2.2.2.2.2 (hAB _ z)⟩
abbrev Ax (K : KF) : Nat → Prop := fun q => K.1 ≤ q
def Wd2 (K : KF) (mm : Mem) (A : AS) (dm : DM) (U : State) : Prop := okA A ∧ U.heap.size = K.1 + A.1 ∧ va_P K.2.2.1 zcls (w2 K mm A dm) U.heap ∧ va_K K.2.2.1 zcls (tyk K) U ∧ S2 K (Ax K) U U.heap
abbrev Ev2 : Type := Program × Launch × Env × Room × State × MethodId × Array Value × List Frame × Method × Code × (State → Prop) × KF × AS × Option Value × Mem × AS × DM
def inv2 (A0 A fA : AS) : Prop := okA A ∧ (A0.1 ≤ A.1 ∧ A0.2.1 ≤ A.2.1) ∧ (A.1 ≤ fA.1 ∧ A.2.1 ≤ fA.2.1)
def G2 : Ev2 → Nat → Nat → Lv → List Value → Mem → AS → DM → Prop
  | (p, l, e, R, s, m, args, below, meth, c, Q, K, A0, _, _, fA, _), nL, pc, lv, st, mm, A, dm => ∀ (H : Heap) (locs : List Loc) (ls : Array Slot), inv2 A0 A fA → va_P K.2.2.1 zcls (w2 K mm A dm) H → va_S (Ax K) s.heap H locs → lv_has ls nL (lv.map (fun q => (q.1, cvv (kc K) q.2))) → W p l e R s m args below meth c H locs (A.1 - A0.1) (A.2.1 - A0.2.1) Q (F0 m pc ls (st.map (cvv (kc K))))
def Bx2 : Ev2 → String → Tb → Nat → Option FieldType → Prop
  | (p, _, _, R, s, m, args, _, meth, c, _, K, A0, _, _, fA, _), ow, tb, nL, ret => p.tables.exec = Jvm.exec ∧ (∀ q ∈ tb, decode c.code q.1 = .ok (q.2.1, q.2.2.1) ∧ q.1 + q.2.2.1 = q.2.2.2) ∧ c.maxLocals = nL ∧ s.vm.findClass ow = some m.cls ∧ (∀ w ∈ TW, w.before args s = true) ∧ va_K K.2.2.1 zcls (tyk K) s ∧ S2 K (Ax K) s s.heap ∧ meth.sig.returnType = ret ∧ meth.locks = false ∧ s.heap.size = K.1 + A0.1 ∧ (R.cells = fA.1 - A0.1 ∧ R.slots = fA.2.1 - A0.2.1)
def Q2 (K : KF) (A0 : AS) (r : Option Value) (mo : Mem) (fA : AS) (fd : DM) : Array Value → State → Outcome → State → Prop := fun _ st oc t => oc = .returned (r.map (cvv (kc K))) ∧ Wd2 K mo fA fd t ∧ va_F (Ax K) st t
def Rt2 : Ev2 → Prop
  | (_, _, _, _, s, _, args, below, _, _, Q, K, A0, res, mo, fA, fd) => Q = MQ below (Q2 K A0 res mo fA fd) args s (fA.1 - A0.1) (fA.2.1 - A0.2.1) (Ax K)
def Rs2 : Ev2 → Option Value → Mem → AS → DM → Prop
  | (_, _, _, _, _, _, _, _, _, _, _, _, _, res, mo, fA, fd), r, mm, A, dm => res = r ∧ mo = mm ∧ fA = A ∧ fd = dm
def Ec2 : Ev2 → Launch → KF → Nat → Nat → Prop
  | (_, l, _, R, _, _, _, _, _, _, _, K, _, _, _, _, _), l', K', fr, lo => l = l' ∧ K = K' ∧ R.frames = fr ∧ R.locals = lo
/-- a constructor's body -/
def In2 : Ev2 → Prop
  | (_, _, _, _, _, _, _, _, meth, _, _, _, _, _, _, _, _) => meth.name = "<init>"
/-- the method's bytes -/
def Cd2 : Ev2 → ByteArray → Prop
  | (_, _, _, _, _, _, _, _, _, c, _, _, _, _, _, _, _), b => c.code = b
theorem Bx2.tab {E : Ev2} {ow : String} {tb tb2 : Tb} {nL : Nat} {ret : Option FieldType} {b : ByteArray} (B : Bx2 E ow tb nL ret) (hc : Cd2 E b) (h : ∀ q ∈ tb2, decode b q.1 = .ok (q.2.1, q.2.2.1) ∧ q.1 + q.2.2.1 = q.2.2.2) : Bx2 E ow tb2 nL ret := by
  obtain ⟨p, l, e, R, s, m, args, below, meth, c, Q, K, A0, res, mo, fA, fd⟩ := E
  have hc : c.code = b := hc
  subst hc
  exact ⟨B.1, h, B.2.2⟩
section B2S
variable {p : Program} {l : Launch} {e : Env} {R : Room} {s : State} {m : MethodId} {args : Array Value} {below : List Frame} {meth : Method} {c : Code} {Q : State → Prop} {K : KF} {A0 fA : AS} {fd : DM} {res : Option Value} {mo : Mem} {ow : String} {tb : Tb} {nL : Nat} {ret : Option FieldType}
variable {pc nx len : Nat} {ins : Instr} {mm : Mem} {A : AS} {dm : DM} {H : Heap} {locs : List Loc} {ls : Array Slot} {rest : List Value}
theorem Bx2.dec (B : Bx2 (p, l, e, R, s, m, args, below, meth, c, Q, K, A0, res, mo, fA, fd) ow tb nL ret) {i : Nat} (h : tb[i]? = some (pc, ins, len, nx)) : decode c.code pc = .ok (ins, len) ∧ pc + len = nx := by
  have h1 : ∀ q ∈ tb, decode c.code q.1 = .ok (q.2.1, q.2.2.1) ∧ q.1 + q.2.2.1 = q.2.2.2 := B.2.1
  exact h1 (pc, ins, len, nx) (List.mem_of_getElem? h)
theorem Bx2.ml (B : Bx2 (p, l, e, R, s, m, args, below, meth, c, Q, K, A0, res, mo, fA, fd) ow tb nL ret) : c.maxLocals = nL := B.2.2.1
theorem Bx2.hown (B : Bx2 (p, l, e, R, s, m, args, below, meth, c, Q, K, A0, res, mo, fA, fd) ow tb nL ret) : s.vm.findClass ow = some m.cls := B.2.2.2.1
theorem Bx2.tw (B : Bx2 (p, l, e, R, s, m, args, below, meth, c, Q, K, A0, res, mo, fA, fd) ow tb nL ret) : ∀ w ∈ TW, w.before args s = true := B.2.2.2.2.1
theorem Bx2.kk (B : Bx2 (p, l, e, R, s, m, args, below, meth, c, Q, K, A0, res, mo, fA, fd) ow tb nL ret) : va_K K.2.2.1 zcls (tyk K) s := B.2.2.2.2.2.1
theorem Bx2.sx (B : Bx2 (p, l, e, R, s, m, args, below, meth, c, Q, K, A0, res, mo, fA, fd) ow tb nL ret) : S2 K (Ax K) s s.heap := B.2.2.2.2.2.2.1
theorem Bx2.rt (B : Bx2 (p, l, e, R, s, m, args, below, meth, c, Q, K, A0, res, mo, fA, fd) ow tb nL ret) : meth.sig.returnType = ret := B.2.2.2.2.2.2.2.1
theorem Bx2.lk (B : Bx2 (p, l, e, R, s, m, args, below, meth, c, Q, K, A0, res, mo, fA, fd) ow tb nL ret) : meth.locks = false := B.2.2.2.2.2.2.2.2.1
theorem Bx2.hz (B : Bx2 (p, l, e, R, s, m, args, below, meth, c, Q, K, A0, res, mo, fA, fd) ow tb nL ret) : s.heap.size = K.1 + A0.1 := B.2.2.2.2.2.2.2.2.2.1
theorem Bx2.rm (B : Bx2 (p, l, e, R, s, m, args, below, meth, c, Q, K, A0, res, mo, fA, fd) ow tb nL ret) : R.cells = fA.1 - A0.1 ∧ R.slots = fA.2.1 - A0.2.1 := B.2.2.2.2.2.2.2.2.2.2
theorem Bx2.room (B : Bx2 (p, l, e, R, s, m, args, below, meth, c, Q, K, A0, res, mo, fA, fd) ow tb nL ret) (hg : inv2 A0 A fA) : A.1 - A0.1 ≤ R.cells ∧ A.2.1 - A0.2.1 ≤ R.slots := by
  have h1 := B.rm
  have h2 := hg.2.2
  omega
theorem w_hz (B : Bx2 (p, l, e, R, s, m, args, below, meth, c, Q, K, A0, res, mo, fA, fd) ow tb nL ret) (hg : inv2 A0 A fA) (hP : va_P K.2.2.1 zcls (w2 K mm A dm) H) {sl : Nat} {g : JFrame} (k : H.size = K.1 + A.1 → W p l e R s m args below meth c H locs (A.1 - A0.1) sl Q g) : W p l e R s m args below meth c H locs (A.1 - A0.1) sl Q g := by
  intro T hT X
  have h1 := X.heapSize
  rw [hT, B.hz] at h1
  have h2 := hz_lo hg.1 hP
  have h3 := hg.2.1
  exact k (by omega) T hT X
/-- what a method's end asks, out of the state there -/
theorem Wd2_end (B : Bx2 (p, l, e, R, s, m, args, below, meth, c, Q, K, A0, res, mo, fA, fd) ow tb nL ret) (hA : okA A) (hz : H.size = K.1 + A.1) (hP : va_P K.2.2.1 zcls (w2 K mm A dm) H) (hS : va_S (Ax K) s.heap H locs) {t : State} (ht : t.heap = H) (hW : s.WarmedH t.vm) : Wd2 K mm A dm t := by
  refine ⟨hA, by rw [ht]; exact hz, by rw [ht]; exact hP, va_K.moved hW.alike B.kk, ?_⟩
  rw [ht]
  exact B.sx.go hW (fun q hq => hq) hS.2.1
theorem Wd2_blind {av : List Value} : FrameBlind (va_Pc av (Wd2 K mm A dm)) := fun a U g mk q =>
  ⟨q.1, q.2.1, q.2.2.1, q.2.2.2.1, va_K.moved (u := U) (U := U.calling g mk a) (Vm.Alike.refl U.vm) q.2.2.2.2.1, fun x m => va_Nw.same rfl (u := U) (U := U.calling g mk a) rfl (q.2.2.2.2.2.1 x m), fun w m => va_Nw.same (tf_ok m).2 (u := U) (U := U.calling g mk a) rfl (q.2.2.2.2.2.2.1 w m), fun x m => va_Nw.same rfl (u := U) (U := U.calling g mk a) rfl (q.2.2.2.2.2.2.2.1 x m), va_AO.moved (u := U) (U := U.calling g mk a) (Vm.Alike.refl U.vm) q.2.2.2.2.2.2.2.2.1, oaw.moved (u := U) (U := U.calling g mk a) (Vm.Alike.refl U.vm) q.2.2.2.2.2.2.2.2.2.1, va_Z.moved (u := U) (U := U.calling g mk a) (Vm.Alike.refl U.vm) q.2.2.2.2.2.2.2.2.2.2.1, ⟨va_T.moved (u := U) (U := U.calling g mk a) (Vm.Alike.refl U.vm) q.2.2.2.2.2.2.2.2.2.2.2.1, q.2.2.2.2.2.2.2.2.2.2.2.2⟩⟩
theorem Wd2_call (B : Bx2 (p, l, e, R, s, m, args, below, meth, c, Q, K, A0, res, mo, fA, fd) ow tb nL ret) (hA : okA A) (hz : H.size = K.1 + A.1) (hP : va_P K.2.2.1 zcls (w2 K mm A dm) H) (hS : va_S (Ax K) s.heap H locs) (av : List Value) : ∀ U : State, U.heap = H → s.WarmedH U.vm → va_Pc av (Wd2 K mm A dm) av.toArray U := fun U hU hW => ⟨rfl, Wd2_end B hA hz hP hS hU hW⟩
/-- a contract -/
def Ct2 (l : Launch) (K : KF) (y : MethodName) (bytes : ByteArray) (maxL : Nat) (ret : Option FieldType) (fr lo : Nat) (av : List Value) (mm : Mem) (A : AS) (dm : DM) (r : Option Value) (mo : Mem) (fA : AS) (fd : DM) : Prop :=
  A.1 ≤ fA.1 → A.2.1 ≤ fA.2.1 → Met l y (Cond.code y bytes maxL ret :: TW) ({ frames := fr, cells := fA.1 - A.1, slots := fA.2.1 - A.2.1, locals := lo }) (va_Pc (av.map (cvv (kc K))) (Wd2 K mm A dm)) (Q2 K A r mo fA fd) (fA.1 - A.1) (fA.2.1 - A.2.1) (Ax K)
theorem Ct2.of {l : Launch} {K : KF} {y : MethodName} {bytes : ByteArray} {nL fr lo : Nat} {ret : Option FieldType} {av : List Value} {mm mo : Mem} {A fA : AS} {dm fd : DM} {r : Option Value} {tb : Tb} (hy : plainName y.cls = true) (hcode : Cond.code y bytes nL ret ∈ TW) (htb : ∀ q ∈ tb, decode bytes q.1 = .ok (q.2.1, q.2.2.1) ∧ q.1 + q.2.2.1 = q.2.2.2) (hlen : (lg_sl (av.map (fun v => match v with | .long _ => Value.long 0 | .double _ => .double 0 | _ => .null))).length ≤ nL)
    (body : ∀ E : Ev2, Bx2 E y.cls tb nL ret → Rt2 E → Rs2 E r mo fA fd → Ec2 E l K fr lo → (y.name = "<init>" → In2 E) → Cd2 E bytes → G2 E nL 0 (lv_args 0 av) [] mm A dm) : Ct2 l K y bytes nL ret fr lo av mm A dm r mo fA fd := by
  intro hm1 hm2
  refine Met.ofW (cc := bytes) (maxL := nL) (ret := ret) hy rfl ?_
  intro p e s m args below meth c s₁ B hml hv
  obtain ⟨rfl, hok, hz, hP, hK, hSx⟩ := hv
  have hts : ∀ w ∈ TW, w.before (av.map (cvv (kc K))).toArray s = true := fun w hw => atoms_spec (ws := Cond.code y bytes nL ret :: TW) B.pre w (List.mem_cons_of_mem _ hw)
  have hB : Bx2 (p, l, e, ({ frames := fr, cells := fA.1 - A.1, slots := fA.2.1 - A.2.1, locals := lo } : Room), s, m, (av.map (cvv (kc K))).toArray, below, meth, c, MQ below (Q2 K A r mo fA fd) (av.map (cvv (kc K))).toArray s (fA.1 - A.1) (fA.2.1 - A.2.1) (Ax K), K, A, r, mo, fA, fd) y.cls tb nL ret :=
    ⟨B.exec, fun q hq => by rw [B.bytes]; exact htb q hq, hml, findClass_of_methodNamed B.named, hts, hK, hSx, B.returns, B.notSynchronized, hz, rfl, rfl⟩
  have hG := body _ hB rfl ⟨rfl, rfl, rfl, rfl⟩ ⟨rfl, rfl, rfl, rfl⟩ (fun h => (name_of_methodNamed B.named B.method).1.trans h) B.bytes
  have hll : ∀ (a : List Value), (lg_sl (a.map (cvv (kc K)))).length = (lg_sl (a.map (fun v => match v with | .long _ => Value.long 0 | .double _ => .double 0 | _ => .null))).length := by
    intro a
    induction a with
    | nil => rfl
    | cons v a ih =>
      simp only [lg_sl, List.map_cons, List.flatMap_cons, List.length_append] at ih ⊢
      rw [ih]
      congr 1
      cases v <;> rfl
  have hl := lv_entry (av.map (cvv (kc K))) (n := nL) (by rw [hll]; exact hlen)
  rw [lg_entry_eq]
  generalize (lg_sl (av.map (cvv (kc K))) ++ List.replicate (nL - (lg_sl (av.map (cvv (kc K)))).length) Slot.unset).toArray = ls at hl ⊢
  have hmap : ∀ (a : List Value) (i : Nat), lv_args i (a.map (cvv (kc K))) = (lv_args i a).map (fun q => (q.1, cvv (kc K) q.2)) := by
    intro a
    induction a with
    | nil => intro i; rfl
    | cons v a ih =>
      intro i
      simp only [List.map_cons, lv_args, cvv_cat, ih]
  rw [hmap] at hl
  have := hG s.heap [] ls ⟨hok, ⟨Nat.le_refl _, Nat.le_refl _⟩, hm1, hm2⟩ hP va_S.rf hl
  rw [Nat.sub_self, Nat.sub_self] at this
  exact this
/-- a call's answer -/
theorem z2call (B : Bx2 (p, l, e, R, s, m, args, below, meth, c, Q, K, A0, res, mo, fA, fd) ow tb nL ret) {r : Option Value} {mm' : Mem} {A' : AS} {dm' : DM} {a : Array Value} {st0 st2 : List Value} (hg : inv2 A0 A fA) (hS : va_S (Ax K) s.heap H locs) (hm : (A.1 ≤ A'.1 ∧ A.2.1 ≤ A'.2.1) ∧ A'.1 ≤ fA.1 ∧ A'.2.1 ≤ fA.2.1) (hr : va_Run p l e R s m args below meth c H locs (A.1 - A0.1) (A.2.1 - A0.2.1) (A'.1 - A.1) (A'.2.1 - A.2.1) (F0 m pc ls st0) st2 (Q2 K A r mm' A' dm' a) (Ax K))
    (k : ∀ (H1 : Heap) (locs1 : List Loc), inv2 A0 A' fA → va_P K.2.2.1 zcls (w2 K mm' A' dm') H1 → va_S (Ax K) s.heap H1 locs1 → W p l e R s m args below meth c H1 locs1 (A'.1 - A0.1) (A'.2.1 - A0.2.1) Q (F0 m (pc + 3) ls ((r.map (cvv (kc K))).toList ++ st2))) : W p l e R s m args below meth c H locs (A.1 - A0.1) (A.2.1 - A0.2.1) Q (F0 m pc ls st0) := by
  intro T hT X
  obtain ⟨v, st₀, t, T', L, h0, X', hL, e1, e2, ⟨hv, hWd, hF⟩, st⟩ := hr T hT X
  cases hv
  obtain ⟨-, -, hS1⟩ := kp_keep h0 e1 hS (fun q _ h => h) (fun q h => h) hL hF
  have hc1 : A.1 - A0.1 + (A'.1 - A.1) = A'.1 - A0.1 := by have := hg.2.1; omega
  have hc2 : A.2.1 - A0.2.1 + (A'.2.1 - A.2.1) = A'.2.1 - A0.2.1 := by have := hg.2.1; omega
  rw [hc1, hc2] at X'
  obtain ⟨t2, a1, b1⟩ := k T'.heap (locs ++ L) ⟨hWd.1, by have := hg.2.1; omega, hm.2⟩ (by rw [e1]; exact hWd.2.2.1) hS1 T' rfl X'
  exact ⟨t2, st t2 a1, b1⟩
end B2S

def okd (A : AS) (q ci : Nat) : Prop := (1 ≤ q ∧ q ≤ A.1) ∧ (A.2.2.1 q).1 = ci
theorem okd_liv {A : AS} {q ci : Nat} (h : okd A q ci) (hc : ci ≠ 0) : liv A q = true := liv_iff.mpr ⟨h.1.1, h.1.2, by rw [h.2]; exact hc⟩
theorem cld_obj {K : KF} {A : AS} {q ci : Nat} {f : Nat → Value} (hc : ci < 11) (h : okd A q ci) : cld K (A.2.2.1 q) f = .inr (ci, (List.range (nfl ci)).map (fun k => cvv (kc K) (f k))) := by
  unfold cld
  rw [h.2, if_pos hc]
theorem cld_int {K : KF} {A : AS} {q : Nat} {f : Nat → Value} (h : okd A q 20) : cld K (A.2.2.1 q) f = .inl (K.2.2.2.1, (A.2.2.1 q).2, .inl (fun i => vint (f i))) := by
  unfold cld
  rw [h.2]
  rfl
theorem cld_row {K : KF} {A : AS} {q : Nat} {f : Nat → Value} (h : okd A q 21) : cld K (A.2.2.1 q) f = .inl (K.2.2.2.2.1, (A.2.2.1 q).2, .inr (.inr (.inr (.inr (fun i => vrf K (f i)))))) := by
  unfold cld
  rw [h.2]
  rfl
theorem cld_grid {K : KF} {A : AS} {q : Nat} {f : Nat → Value} (h : okd A q 22) : cld K (A.2.2.1 q) f = .inl (K.2.2.2.2.2, (A.2.2.1 q).2, .inr (.inr (.inr (.inr (fun i => vrf K (f i)))))) := by
  unfold cld
  rw [h.2]
  rfl
theorem up3_ne {dm : DM} {c i a : Nat} {v : Value} (h : a ≠ c) : up3 dm c i v a = dm a := by
  funext j
  simp [up3, h]
theorem up3_self (dm : DM) (c i : Nat) (v : Value) (j : Nat) : up3 dm c i v c j = if j = i then v else dm c j := by
  simp [up3]
theorem fset_up3 (K : KF) (dm : DM) (q N kf : Nat) (v : Value) : ((List.range N).map (fun k => cvv (kc K) (dm q k))).set kf (cvv (kc K) v) = (List.range N).map (fun k => cvv (kc K) (up3 dm q kf v q k)) := by
  apply List.ext_getElem?
  intro j
  by_cases hj : j = kf
  · subst hj
    by_cases hl : j < N
    · rw [List.getElem?_set_self (by rw [List.length_map, List.length_range]; exact hl), List.getElem?_map, List.getElem?_range hl, Option.map_some, up3_self, if_pos rfl]
    · rw [List.getElem?_eq_none (by rw [List.length_set, List.length_map, List.length_range]; omega), List.getElem?_eq_none (by rw [List.length_map, List.length_range]; omega)]
  · rw [List.getElem?_set_ne (Ne.symm hj), List.getElem?_map, List.getElem?_map]
    by_cases hl : j < N
    · rw [List.getElem?_range hl, Option.map_some, Option.map_some, up3_self, if_neg hj]
    · rw [List.getElem?_eq_none (by rw [List.length_range]; omega)]
      rfl
def bfl (ci k : Nat) : Option (String × String × String) := match zcls[ci]? with
  | some x => if k < x.2.2 then some ((x.2.1 k).1, (x.2.1 k).2.1, (x.2.1 k).2.2.1) else none
  | none => none
theorem bfl_spec {ci k : Nat} {rn nm d : String} (h : bfl ci k = some (rn, nm, d)) : ∃ x : vw_C, zcls[ci]? = some x ∧ k < x.2.2 ∧ (x.2.1 k).1 = rn ∧ (x.2.1 k).2.1 = nm ∧ (x.2.1 k).2.2.1 = d := by
  unfold bfl at h
  cases hx : zcls[ci]? with
  | none => rw [hx] at h; cases h
  | some x =>
    rw [hx] at h
    dsimp only at h
    by_cases hk : k < x.2.2
    · rw [if_pos hk] at h
      cases h
      exact ⟨x, rfl, hk, rfl, rfl, rfl⟩
    · rw [if_neg hk] at h
      cases h
theorem vint_up (dm : DM) (q i : Nat) (v : Int32) : (fun j => vint (up3 dm q i (.int v) q j)) = upd (fun j => vint (dm q j)) i v := by
  funext j
  rw [up3_self]
  unfold upd
  by_cases hj : j = i <;> simp [hj, vint]
theorem vrf_up (K : KF) (dm : DM) (q i : Nat) (v : Nat) : (fun j => vrf K (up3 dm q i (.ref v) q j)) = va_up (fun j => vrf K (dm q j)) i (some (adr K v)) := by
  funext j
  rw [up3_self]
  unfold va_up
  by_cases hj : j = i <;> simp [hj, vrf]
theorem vrf_upN (K : KF) (dm : DM) (q i : Nat) : (fun j => vrf K (up3 dm q i .null q j)) = va_up (fun j => vrf K (dm q j)) i none := by
  funext j
  rw [up3_self]
  unfold va_up
  by_cases hj : j = i <;> simp [hj, vrf]
def tf_chk (i : Nat) (w : Cond) : Bool := decide (lw_tbl[i]? = some w) && (w.faceAtom && w.onTables)
theorem tf_of {i : Nat} {w : Cond} (h : tf_chk i w = true) : w ∈ TF := by
  unfold tf_chk at h
  rw [Bool.and_eq_true, decide_eq_true_eq] at h
  exact List.mem_filter.mpr ⟨List.mem_of_getElem? h.1, h.2⟩
def lenA (A : AS) (q : Nat) : Nat := if q = 0 then 0 else (A.2.2.1 q).2
theorem lenA_pos {A : AS} {q ci : Nat} (h : okd A q ci) : lenA A q = (A.2.2.1 q).2 := by
  unfold lenA
  rw [if_neg (by have := h.1.1; omega)]
theorem cfg_dj {K : KF} {A : AS} (_h : okA A) : Dj (cfg K A.2.2.2) := by
  intro i j hi _ hj _ h
  have h' : K.1 + (A.2.2.2 - 1) + (i - 14) = K.1 + (A.2.2.2 - 1) + (j - 14) := h
  omega
/-- rows in a row: the outer one with n places, then j of four numbers each -/
def grd (A : AS) (dm : DM) (N : Nat) : Nat → AS × DM
  | 0 => (nw A 22 N N, nwm A dm (fun i => if i < N then .ref (A.1 + 2 + i) else .null))
  | j + 1 => (nw (grd A dm N j).1 20 4 4, nwm (grd A dm N j).1 (grd A dm N j).2 (fun _ => .int 0))
theorem grd_sz (A : AS) (dm : DM) (N j : Nat) : (grd A dm N j).1.1 = A.1 + (1 + j) ∧ (grd A dm N j).1.2.1 = A.2.1 + (N + j * 4) ∧ (grd A dm N j).1.2.2.2 = A.2.2.2 := by
  induction j with
  | zero => exact ⟨rfl, rfl, rfl⟩
  | succ j ih =>
    refine ⟨?_, ?_, ih.2.2⟩
    · show (grd A dm N j).1.1 + 1 = _
      omega
    · show (grd A dm N j).1.2.1 + 4 = _
      omega
theorem grd_ok {A : AS} {dm : DM} (h : okA A) (N j : Nat) : okA (grd A dm N j).1 := by
  induction j with
  | zero => exact okA_nw h (by decide)
  | succ j ih => exact okA_nw ih (by decide)
theorem grd_P {K : KF} {mm : Mem} {A : AS} {dm : DM} {D : va_G} {H : Heap} (N : Nat) (hout : H[K.1 + A.1]? = some (vp_cell K.2.2.2.2.2 (N, .inr (.inr (.inr (.inr (fun i => if i < N then some (K.1 + A.1 + 1 + i) else none))))))) (hrow : ∀ j : Nat, j < N → H[K.1 + A.1 + 1 + j]? = some (vp_cell K.2.2.2.1 (4, .inl (fun _ => 0)))) (j : Nat) (hj : j ≤ N) (hP : va_P D zcls (w2 K mm A dm) H) : va_P D zcls (w2 K mm (grd A dm N j).1 (grd A dm N j).2) H := by
  have one : ∀ {x : Nat × va_E}, va_at D zcls x H → va_P D zcls [x] H := by
    intro x h k q hq
    have h0 : k < 1 := (List.getElem?_eq_some_iff.mp hq).1
    rw [show k = 0 by omega] at hq
    cases hq
    exact h
  induction j with
  | zero =>
    show va_P D zcls (w2 K mm (nw A 22 N N) (nwm A dm _)) H
    rw [w2_nw (by decide)]
    refine hP.app (one ?_)
    show H[K.1 + A.1]? = some (vp_cell K.2.2.2.2.2 (N, .inr (.inr (.inr (.inr _)))))
    rw [hout]
    congr 7
    funext i
    by_cases hi : i < N
    · dsimp only
      rw [if_pos hi, if_pos hi]
      show some _ = some (adr K (A.1 + 2 + i))
      rw [adr_pos (by omega)]
      congr 1
      omega
    · dsimp only
      rw [if_neg hi, if_neg hi]
      rfl
  | succ j ih =>
    show va_P D zcls (w2 K mm (nw (grd A dm N j).1 20 4 4) (nwm (grd A dm N j).1 (grd A dm N j).2 _)) H
    rw [w2_nw (by decide)]
    refine (ih (by omega)).app (one ?_)
    show H[K.1 + (grd A dm N j).1.1]? = some (vp_cell K.2.2.2.1 (4, .inl _))
    rw [(grd_sz A dm N j).1, show K.1 + (A.1 + (1 + j)) = K.1 + A.1 + 1 + j by omega]
    exact hrow j (by omega)
section B2F
variable {p : Program} {l : Launch} {e : Env} {R : Room} {s : State} {m : MethodId} {args : Array Value} {below : List Frame} {meth : Method} {c : Code} {Q : State → Prop} {K : KF} {A0 fA : AS} {fd : DM} {res : Option Value} {mo : Mem} {ow : String} {tb : Tb} {nL : Nat} {ret : Option FieldType}
variable {pc : Nat} {mm : Mem} {A : AS} {dm : DM} {H : Heap} {locs : List Loc} {ls : Array Slot}
theorem z2callF (B : Bx2 (p, l, e, R, s, m, args, below, meth, c, Q, K, A0, res, mo, fA, fd) ow tb nL ret) {r : Option Value} {mm' : Mem} {A' : AS} {dm' : DM} {a : Array Value} {st0 st2 : List Value} (hg : inv2 A0 A fA) (hS : va_S (Ax K) s.heap H locs) (hm : (A.1 ≤ A'.1 ∧ A.2.1 ≤ A'.2.1) ∧ A'.1 ≤ fA.1 ∧ A'.2.1 ≤ fA.2.1) (hr : va_Run5 p l e R s m args below meth c H locs (A.1 - A0.1) (A.2.1 - A0.2.1) (A'.1 - A.1) (A'.2.1 - A.2.1) (F0 m pc ls st0) st2 (Q2 K A r mm' A' dm' a) (Ax K))
    (k : ∀ (H1 : Heap) (locs1 : List Loc), inv2 A0 A' fA → va_P K.2.2.1 zcls (w2 K mm' A' dm') H1 → va_S (Ax K) s.heap H1 locs1 → W p l e R s m args below meth c H1 locs1 (A'.1 - A0.1) (A'.2.1 - A0.2.1) Q (F0 m (pc + 5) ls ((r.map (cvv (kc K))).toList ++ st2))) : W p l e R s m args below meth c H locs (A.1 - A0.1) (A.2.1 - A0.2.1) Q (F0 m pc ls st0) := by
  intro T hT X
  obtain ⟨v, st₀, t, T', L, h0, X', hL, e1, e2, ⟨hv, hWd, hF⟩, st⟩ := hr T hT X
  cases hv
  obtain ⟨-, -, hS1⟩ := kp_keep h0 e1 hS (fun q _ h => h) (fun q h => h) hL hF
  have hc1 : A.1 - A0.1 + (A'.1 - A.1) = A'.1 - A0.1 := by have := hg.2.1; omega
  have hc2 : A.2.1 - A0.2.1 + (A'.2.1 - A.2.1) = A'.2.1 - A0.2.1 := by have := hg.2.1; omega
  rw [hc1, hc2] at X'
  obtain ⟨t2, a1, b1⟩ := k T'.heap (locs ++ L) ⟨hWd.1, by have := hg.2.1; omega, hm.2⟩ (by rw [e1]; exact hWd.2.2.1) hS1 T' rfl X'
  exact ⟨t2, st t2 a1, b1⟩
end B2F
