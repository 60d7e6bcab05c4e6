-- ===== end of PART A; then your names; then what follows =====
/-! THE CLAIM OUT OF ONE WALK OF THE LAW'S BODY. Your part is whole_start (and what it stands on); all else here is the same for every law, but numbers. -/
def R_law : String := "ZoneCapacityLaw"
def lw_P (b : Addr) (xs : List Int32) (args : Array Value) (s : State) : Prop := args = #[.ref b] ∧ s.IntsAt b xs ∧ xs.length ≤ 260 ∧ (Jvm.Cond.and given_1 narrow_1).before args s = true
def lw_Q (_ : Array Value) (s : State) (o : Outcome) (t : State) : Prop := o = .returned (some (.int 1)) ∧ Framed s o t [] 600086 7301442
def lw_Z (below : List Frame) (a : Array Value) (s : State) : State → Prop := fun t => ∃ o, t.status = .running ∧ Ended t below o ∧ lw_Q a s o t
/-- the law's own end, with 1 on the stack, nothing written that was there before, its room as the claim has it -/
theorem lw_ret {p : Program} {l : Launch} {e : Env} {s : State} {m : MethodId} {below : List Frame} {meth : Method} {c : Code} {b : Nat} (hx : p.tables.exec = Jvm.exec) (hb : c.code = code) (hr : meth.sig.returnType = ret) (hlocks : meth.locks = false) {pc : Nat} {H : Heap} {ls : Array Slot} (hdg : decode code pc = .ok (.ireturn, 1)) : W p l e room_1 s m #[Value.ref b] below meth c H [] 600086 7301442 (lw_Z below #[Value.ref b] s) (F0 m pc ls [.int 1]) := by
  intro T hT X
  obtain ⟨fs, hret, hrun, hended, hW, hframe⟩ := X.leave (v := some (.int 1)) (hlocks := hlocks) (fun h => by rw [hr] at h; cases h)
  have hmeth' : T.vm.method? m = some meth := X.method'
  refine ⟨T.setFrames fs, ?_, .returned (some (.int 1)), hrun, hended, rfl, ⟨_, rfl⟩, hW, hframe⟩
  jvm_step X.here [X.here.top, hx, hb, hdg, hmeth', hr, ret, narrow_b1]
  (try refine ⟨rfl, ?_⟩); (try refine ⟨rfl, ?_⟩)
  first | (intro acts; rw [hret _ acts rfl rfl rfl]) | rw [hret _ _ rfl rfl rfl]
  exact Steps.refl _
/-- what holds at the law's entry: the machine, the code, the tables' words (any of lw_tbl by 'hts w (by decide +kernel)'), the script of L ints xs at the cell b, what the Statement gives of the start (any of its parts by flat_of_before) -/
def lw_At (p : Program) (s : State) (m : MethodId) (meth : Method) (c : Code) (b L : Nat) (xs : Nat → Int32) : Prop :=
  p.tables.exec = Jvm.exec ∧ c.code = code ∧ meth.sig.returnType = ret ∧ c.maxLocals = 11 ∧ s.vm.findClass R_law = some m.cls ∧ (∀ w ∈ lw_tbl, w.before #[Value.ref b] s = true) ∧ va_X b L xs s s.heap ∧ b < s.heap.size ∧ meth.locks = false ∧ (Jvm.Cond.and given_1 narrow_1).before #[Value.ref b] s = true

def tbL0 : Tb := [(0, .new 24, 3, 3), (3, .dup, 1, 4), (4, .invokespecial 215, 3, 7), (7, .astore_n 1, 1, 8)]
theorem dtL0 : ∀ q ∈ tbL0, decode code q.1 = .ok (q.2.1, q.2.2.1) ∧ q.1 + q.2.2.1 = q.2.2.2 := by decide +kernel
theorem twl {i : Nat} {w : Cond} (h : lw_tbl[i]? = some w) (g : goodWord w = true) : w ∈ TW := tw_mem (List.mem_of_getElem? h) g
/-- the law's own start: a new object -/
theorem law_walk0 {E : En} {l : Launch} {D : va_G} {cI cZ cJ : ClassId} (B : BN E RL tbL0 11) (hR0 : RN E room_1) (hL : LN E l D cI cZ cJ) (hl1 : LR E 1) (k : GN E 11 8 [(1, .ref 0)] [] ([] ++ (bN6 cI cZ cJ).map (she 0)) 119 119 2166) : GN E 11 0 [] [] [] 0 0 0 := by
  refine n_new 6 0 [.null, .null, .null, .null, .null, .int 0, .int 0] ([] ++ [.inr (6, [.null, .null, .null, .null, .null, .int 0, .int 0])]) 1 1 7 hR0 B 0 rfl rfl ⟨twl (i := 42) (by decide +kernel) rfl, twl (i := 43) (by decide +kernel) rfl, twl (i := 14) (by decide +kernel) rfl⟩ ⟨rfl, rfl⟩ rfl (by decide +kernel) (fun _ => rfl) ⟨rfl, rfl, Nat.le_of_ble_eq_true rfl, Nat.le_of_ble_eq_true rfl⟩ ?_
  refine n_dup B 1 rfl rfl ?_
  refine n_callO 0 [] ([] ++ (bN6 cI cZ cJ).map (she 0)) 119 119 2166 hR0 hL B 2 rfl miN6 (twl (i := 44) (by decide +kernel) rfl) (twl (i := 45) (by decide +kernel) rfl) rfl (ctN6) ⟨Nat.le_of_ble_eq_true rfl, Nat.le_of_ble_eq_true rfl, rfl, rfl, Nat.le_of_ble_eq_true rfl, Nat.le_of_ble_eq_true rfl⟩ rfl 119 ⟨rfl, bN6_len cI cZ cJ, rfl⟩ (fun _ => rfl) rfl (Nat.le_of_ble_eq_true rfl) ?_
  refine n_astore_n [(1, .ref 0)] 1 hl1 B 3 rfl rfl (by decide) rfl ?_
  exact k
theorem she_0 (x : va_E) : she 0 x = x := by
  cases x with
  | inl a => rfl
  | inr o =>
    obtain ⟨ci, vs⟩ := o
    show Sum.inr (ci, vs.map (shv 0)) = Sum.inr (ci, vs)
    congr 2
    have : vs.map (shv 0) = vs.map id := List.map_congr_left (fun v _ => by cases v <;> simp [shv])
    rw [this, List.map_id]
def AS0 : AS := (0, 0, fun _ => (0, 0), 1)
def AS1 : AS := (119, 2166, fun _ => (0, 0), 1)
def ASF : AS := (600086, 7301442, fun _ => (0, 0), 1)
def DM0 : DM := fun _ _ => .null
theorem whole_start {p : Program} {e : Env} {s : State} {m : MethodId} {below : List Frame} {meth : Method} {c : Code} (l : Launch) (hflags : l.flags = flags0) {b L : Nat} {xs : Nat → Int32} (hL : L ≤ 260) (C0 : lw_At p s m meth c b L xs) : W p l e room_1 s m #[Value.ref b] below meth c s.heap [] 0 0 (lw_Z below #[Value.ref b] s) (entryFrame m ([Value.ref b] : List Value).toArray 11) := by
  obtain ⟨hx, hb, hr, hml, hown, hts, hX, hbl, hlocks, hgv⟩ := id C0
  have tw : ∀ w ∈ TW, w.before #[Value.ref b] s = true := fun w h => hts w (List.mem_filter.mp h).1
  have hA : ∀ a : Nat, a < s.heap.size → ¬ (fun q : Nat => s.heap.size ≤ q) a := fun a ha => Nat.not_le.mpr ha
  obtain ⟨D, cI, cZ, cJ, hK⟩ := st_K hts
  have hN : Nx s := st_N hts
  obtain ⟨t, hZ, hT, hnt⟩ := st_E hts hgv hA
  have hl := lv_entry ([.ref b]) (n := 11) (Nat.le_of_ble_eq_true rfl)
  rw [lg_entry_eq]
  generalize (lg_sl ([.ref b]) ++ List.replicate (11 - (lg_sl ([.ref b])).length) Slot.unset).toArray = ls at hl ⊢
  have hl : lv_has ls 11 [(0, .ref b)] := hl
  have hlr : LR (p, l, e, room_1, s, m, #[Value.ref b], below, meth, c, lw_Z below #[Value.ref b] s, D, cI, cZ, cJ, s.heap.size, [(0, .ref b)]) 1 := by
    intro q hq
    have hq : q ∈ [((0 : Nat), Value.ref b)] := hq
    cases List.mem_singleton.mp hq
    rfl
  have hS2 : S2 (s.heap.size, t, D, cI, cZ, cJ) (Ax (s.heap.size, t, D, cI, cZ, cJ)) s s.heap := ⟨hN, fun w hw => va_Nw.of (tf_ok hw).2 (hts w (List.mem_filter.mp hw).1), st_F hts, va_AO.of (A := #[Value.ref b]) (hts _ (List.mem_of_getElem? (i := 534) (by decide +kernel))), (show (Cond.arrayOver (.array .int)).before #[Value.ref b] s = true from hts _ (List.mem_of_getElem? (i := 987) (by decide +kernel))), hZ, hT, hnt⟩
  have hG := law_walk0 (E := (p, l, e, room_1, s, m, #[Value.ref b], below, meth, c, lw_Z below #[Value.ref b] s, D, cI, cZ, cJ, s.heap.size, [(0, .ref b)])) (l := l) (D := D) (cI := cI) (cZ := cZ) (cJ := cJ) ⟨hx, fun q hq => by rw [hb]; exact dtL0 q hq, hml, hown, tw, hK, hN, Nat.le_refl _, hlocks⟩ rfl ⟨rfl, rfl, rfl, rfl, rfl⟩ hlr ?_
  · exact hG s.heap [] ls rfl (fun k q h => by simp [wsn] at h) rfl va_S.rf hl
  · intro H locs ls hlen hP hz hSS hl2
    have hp := law_pure (A := AS1) (dm := DM0) (L := L) (xs := xs) (FA := ASF) (by omega) ⟨by decide, by decide⟩
    have hend : LEndL (p, l, e, room_1, s, m, #[Value.ref b], below, meth, c, lw_Z below #[Value.ref b] s, (s.heap.size, t, D, cI, cZ, cJ), AS0, none, mem0, ASF, DM0) b := by
      intro tb pc nx lv mm A dm B hm H locs ls hg hP hS hl
      have hd : decode c.code pc = .ok (.ireturn, 1) := (B.2.1 _ hm).1
      rw [hb] at hd
      have h1 := lw_ret (p := p) (l := l) (e := e) (s := s) (m := m) (below := below) (meth := meth) (c := c) (b := b) (H := H) (ls := ls) hx hb hr hlocks hd
      have h2 := W.widen (show A.1 - AS0.1 ≤ 600086 from hg.2.2.1) (show A.2.1 - AS0.2.1 ≤ 7301442 from hg.2.2.2) h1
      exact va_forget (fun q hq => hS.2.2 q hq) h2
    have hM := bL_law_ok (E := (p, l, e, room_1, s, m, #[Value.ref b], below, meth, c, lw_Z below #[Value.ref b] s, (s.heap.size, t, D, cI, cZ, cJ), AS0, none, mem0, ASF, DM0)) (l := l) (K := (s.heap.size, t, D, cI, cZ, cJ)) (L := L) (xs := xs) (FA := ASF) (b9 := b) (r0 := none) (mo0 := mem0) (fd0 := DM0) ⟨rfl, rfl, rfl, rfl⟩ ⟨hx, fun q hq => (by cases hq), hml, hown, tw, hK, hS2, hr, hlocks, rfl, rfl, rfl⟩ hb ⟨hX, hbl, hA b hbl⟩ (HZ_ok _) hend ⟨rfl, rfl, rfl, rfl⟩ (mm := mem0) (A := AS1) (dm := DM0) (a1 := 1) hp
    have hokA : okA AS1 := ⟨by decide, by decide, fun _ _ _ => rfl, Or.inr rfl⟩
    have e0 : ([] ++ (bN6 cI cZ cJ).map (she 0)) = bN6 cI cZ cJ := by
      rw [List.nil_append]
      have : (bN6 cI cZ cJ).map (she 0) = (bN6 cI cZ cJ).map id := List.map_congr_left (fun x _ => she_0 x)
      rw [this, List.map_id]
    rw [e0] at hP
    have hP2 : va_P D zcls (w2 (s.heap.size, t, D, cI, cZ, cJ) mem0 AS1 DM0) H := by
      unfold w2
      refine va_P.app (HZ_ok (s.heap.size, t, D, cI, cZ, cJ) 0 H hP) (fun k q h => ?_)
      exfalso
      have hm := List.mem_of_getElem? h
      unfold owv at hm
      obtain ⟨c9, h9, -⟩ := List.mem_map.mp hm
      exact (liv_iff.mp (lvl_mem.mp h9)).2.2 rfl
    exact hM H locs ls ⟨hokA, ⟨by decide, by decide⟩, by decide, by decide⟩ hP2 hSS hl2
