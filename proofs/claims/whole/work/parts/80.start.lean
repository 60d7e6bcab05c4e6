-- ===== end of PART A; then your names; then what follows =====
/-! THE CLAIM OUT OF ONE WALK OF THE LAW'S BODY. Your part is whole_start (and what it stands on); all else here is the same for every law, but numbers. -/
def R_law : String := "ZoneCapacityLaw"
def lw_P (b : Addr) (xs : List Int32) (args : Array Value) (s : State) : Prop := args = #[.ref b] ∧ s.IntsAt b xs ∧ xs.length ≤ 3072 ∧ (Jvm.Cond.and given_1 narrow_1).before args s = true
def lw_Q (_ : Array Value) (s : State) (o : Outcome) (t : State) : Prop := o = .returned (some (.int 1)) ∧ Framed s o t [] 1162 11939
def lw_Z (below : List Frame) (a : Array Value) (s : State) : State → Prop := fun t => ∃ o, t.status = .running ∧ Ended t below o ∧ lw_Q a s o t
/-- the law's own end, with 1 on the stack, nothing written that was there before, its room as the claim has it -/
theorem lw_ret {p : Program} {l : Launch} {e : Env} {s : State} {m : MethodId} {below : List Frame} {meth : Method} {c : Code} {b : Nat} (hx : p.tables.exec = Jvm.exec) (hb : c.code = code) (hr : meth.sig.returnType = ret) (hlocks : meth.locks = false) {pc : Nat} {H : Heap} {ls : Array Slot} (hdg : decode code pc = .ok (.ireturn, 1)) : W p l e room_1 s m #[Value.ref b] below meth c H [] 1162 11939 (lw_Z below #[Value.ref b] s) (F0 m pc ls [.int 1]) := by
  intro T hT X
  obtain ⟨fs, hret, hrun, hended, hW, hframe⟩ := X.leave (v := some (.int 1)) (hlocks := hlocks) (fun h => by rw [hr] at h; cases h)
  have hmeth' : T.vm.method? m = some meth := X.method'
  refine ⟨T.setFrames fs, ?_, .returned (some (.int 1)), hrun, hended, rfl, ⟨_, rfl⟩, hW, hframe⟩
  jvm_step X.here [X.here.top, hx, hb, hdg, hmeth', hr, ret, narrow_b1]
  (try refine ⟨rfl, ?_⟩); (try refine ⟨rfl, ?_⟩)
  first | (intro acts; rw [hret _ acts rfl rfl rfl]) | rw [hret _ _ rfl rfl rfl]
  exact Steps.refl _
/-- what holds at the law's entry: the machine, the code, the tables' words (any of lw_tbl by 'hts w (by decide +kernel)'), the script of L ints xs at the cell b, what the Statement gives of the start (any of its parts by flat_of_before) -/
def lw_At (p : Program) (s : State) (m : MethodId) (meth : Method) (c : Code) (b L : Nat) (xs : Nat → Int32) : Prop :=
  p.tables.exec = Jvm.exec ∧ c.code = code ∧ meth.sig.returnType = ret ∧ c.maxLocals = 7 ∧ s.vm.findClass R_law = some m.cls ∧ (∀ w ∈ lw_tbl, w.before #[Value.ref b] s = true) ∧ va_X b L xs s s.heap ∧ b < s.heap.size ∧ meth.locks = false ∧ (Jvm.Cond.and given_1 narrow_1).before #[Value.ref b] s = true

def LZ : Ev → Prop
  | (_, _, _, R, s, _, args, below, _, c, Q, _, kc, ks, A, _, _) => R = room_1 ∧ (∃ b, args = #[Value.ref b] ∧ Q = lw_Z below #[Value.ref b] s) ∧ A = (fun q => s.heap.size ≤ q) ∧ c.code = code ∧ kc ≤ 1162 ∧ ks ≤ 11939
theorem lend {E : Ev} (h : LZ E) : LEnd E := by
  obtain ⟨p, l, e, R, s, m, args, below, meth, c, Q, C, kc, ks, A, res, mo⟩ := E
  obtain ⟨rfl, ⟨b, hargs, hQ⟩, hA, hc, hk1, hk2⟩ := h
  have hargs : args = #[Value.ref b] := hargs
  have hQ : Q = lw_Z below #[Value.ref b] s := hQ
  have hA : A = (fun q => s.heap.size ≤ q) := hA
  subst hargs
  subst hQ
  subst hA
  intro pc nx lv mm tb B hm
  have hd : decode c.code pc = .ok (.ireturn, 1) := (B.2.1 _ hm).1
  rw [hc] at hd
  intro H locs ls hP hS hl
  have h1 := lw_ret (p := p) (l := l) (e := e) (s := s) (m := m) (below := below) (meth := meth) (c := c) (b := b) (H := H) (ls := ls) B.1 hc B.rt B.lk hd
  have h2 := W.widen hk1 hk2 h1
  exact va_forget (fun q hq => hS.2.2 q hq) h2
theorem LZ.setk {E : Ev} {k n : Nat} (h : LZ E) (h1 : k ≤ 1162 ∧ n ≤ 11939) : LZ (setk E k n) := by
  obtain ⟨p, l, e, R, s, m, args, below, meth, c, Q, C, kc, ks, A, res, mo⟩ := E
  obtain ⟨g1, g2, g3, g4, -, -⟩ := h
  exact ⟨g1, g2, g3, g4, h1.1, h1.2⟩
def kbd : Ev → Nat → Nat → Prop
  | (_, _, _, R, _, _, _, _, _, _, _, _, kc, ks, _, _, _), k, n => kc ≤ k ∧ ks ≤ n ∧ R = room_1
theorem kbd.le {E : Ev} {k n : Nat} (h : kbd E k n) (hk : k + 1 ≤ 1162 ∧ n + 6 ≤ 11939) : kle1 E (k + 1) (n + 6) := by
  obtain ⟨p, l, e, R, s, m, args, below, meth, c, Q, C, kc, ks, A, res, mo⟩ := E
  obtain ⟨g1, g2, rfl⟩ := h
  exact ⟨Nat.succ_le_succ g1, Nat.add_le_add_right g2 6, hk.1, hk.2⟩
theorem kbd.set {E : Ev} {k n : Nat} (h : kbd E k n) (k' n' : Nat) : kbd (setk E k' n') k' n' := by
  obtain ⟨p, l, e, R, s, m, args, below, meth, c, Q, C, kc, ks, A, res, mo⟩ := E
  exact ⟨Nat.le_refl _, Nat.le_refl _, h.2.2⟩
theorem law_loop {l : Launch} {C : Cfg} {L : Nat} {xs : Nat → Int32} (hj : Dj C) (hfl : l.stackTraces = false) (hL : L ≤ 3072) : ∀ (n : Nat) (E : Ev) (j : Nat) (mm : Mem), BL E → Ec E l C room_1 → Sc E L xs → LZ E → kbd E (134 + j) (3723 + 6 * j) → 6 * j ≤ L → zlaw L xs n j mm = some 1 → G E 7 23 [(0, .ref 5000), (1, .ref 14), (2, .ref 0), (3, .ref 133), (4, .int (nI (6 * j)))] [] mm := by
  intro n
  induction n with
  | zero => intro E j mm _ _ _ _ _ _ hf; cases hf
  | succ n ih =>
    intro E j mm B X hs hZ hk hjL hf
    have hK1 : kle1 E (134 + j + 1) (3723 + 6 * j + 6) := hk.le ⟨by omega, by omega⟩
    refine fL_law_l23_ok (k23 := fun x4 m2 => if x4 = nI (6 * (j + 1)) ∧ 6 * (j + 1) ≤ L then zlaw L xs n (j + 1) m2 else none) hj hfl X B hs (kle1_kle hK1) (fun x4 m2 h2 => ?_) hK1 (lend hZ) _ _ hf
    by_cases hc : x4 = nI (6 * (j + 1)) ∧ 6 * (j + 1) ≤ L
    · have h3 := (if_pos hc).symm.trans h2
      rw [hc.1]
      exact ih (setk E (134 + j + 1) (3723 + 6 * j + 6)) (j + 1) m2 (B.setk (kle1_kle hK1)) (Ec.setk X) hs.setk (hZ.setk ⟨by omega, by omega⟩) (hk.set _ _) hc.2 h3
    · have h3 := (if_neg hc).symm.trans h2
      cases h3
def tbL : Tb := [(0, .new 8, 3, 3), (3, .dup, 1, 4), (4, .invokespecial 18, 3, 7), (7, .astore_n 1, 1, 8), (8, .new 19, 3, 11), (11, .dup, 1, 12), (12, .invokespecial 21, 3, 15), (15, .astore_n 2, 1, 16), (16, .iconst 1, 1, 17), (17, .newarray .long, 2, 19), (19, .astore_n 3, 1, 20), (20, .iconst 0, 1, 21), (21, .istore 4, 2, 23)]
theorem dtL : ∀ q ∈ tbL, decode code q.1 = .ok (q.2.1, q.2.2.1) ∧ q.1 + q.2.2.1 = q.2.2.2 := by decide +kernel
theorem twl {i : Nat} {w : Cond} (h : lw_tbl[i]? = some w) (g : goodWord w = true) : w ∈ TW := tw_mem (List.mem_of_getElem? h) g
/-- the law's own start: a new object, a new reference, an array -/
theorem law_walk0 {E : En} {l : Launch} {D : va_G} {cI cZ cJ : ClassId} (B : BN E RL tbL 7) (hR0 : RN E room_1) (hL : LN E l D cI cZ cJ) (hl1 : LR E 1) (hl2 : LR E 2) (hl3 : LR E 3) (hl4 : LR E 4) (k : GN E 7 23 [(4, .int 0), (3, .ref 133), (2, .ref 119), (1, .ref 0)] [] (csF cI cZ cJ) 134 134 3723) : GN E 7 0 [] [] [] 0 0 0 := by
  refine n_new 6 0 [.null, .null, .null, .null, .null, .int 0, .int 0] ([] ++ [.inr (6, [.null, .null, .null, .null, .null, .int 0, .int 0])]) 1 1 7 hR0 B 0 rfl rfl ⟨twl (i := 88) (by decide +kernel) rfl, twl (i := 89) (by decide +kernel) rfl, twl (i := 71) (by decide +kernel) rfl⟩ ⟨rfl, rfl⟩ rfl (by decide +kernel) (fun _ => rfl) ⟨rfl, rfl, Nat.le_of_ble_eq_true rfl, Nat.le_of_ble_eq_true rfl⟩ ?_
  refine n_dup B 1 rfl rfl ?_
  refine n_callO 0 [] ([] ++ (bN6 cI cZ cJ).map (she 0)) 119 119 2166 hR0 hL B 2 rfl miN6 (twl (i := 90) (by decide +kernel) rfl) (twl (i := 91) (by decide +kernel) rfl) rfl (ctN6) ⟨Nat.le_of_ble_eq_true rfl, Nat.le_of_ble_eq_true rfl, rfl, rfl, Nat.le_of_ble_eq_true rfl, Nat.le_of_ble_eq_true rfl⟩ rfl 119 ⟨rfl, bN6_len cI cZ cJ, rfl⟩ (fun _ => rfl) rfl (Nat.le_of_ble_eq_true rfl) ?_
  refine n_astore_n [(1, .ref 0)] 1 hl1 B 3 rfl rfl (by decide) rfl ?_
  refine n_new 7 119 [.int 0, .null, .null, .null, .null, .int 0, .int 0, .null, .null, .null, .null, .null, .null, .null, .null, .int 0, .int 0, .int 0, .int 0, .int 0, .int 0, .int 0, .null] (([] ++ (bN6 cI cZ cJ).map (she 0)) ++ [.inr (7, [.int 0, .null, .null, .null, .null, .int 0, .int 0, .null, .null, .null, .null, .null, .null, .null, .null, .int 0, .int 0, .int 0, .int 0, .int 0, .int 0, .int 0, .null])]) 120 120 2189 hR0 B 4 rfl rfl ⟨twl (i := 932) (by decide +kernel) rfl, twl (i := 933) (by decide +kernel) rfl, twl (i := 78) (by decide +kernel) rfl⟩ ⟨rfl, rfl⟩ rfl (by decide +kernel) (fun _ => rfl) ⟨rfl, rfl, Nat.le_of_ble_eq_true rfl, Nat.le_of_ble_eq_true rfl⟩ ?_
  refine n_dup B 5 rfl rfl ?_
  refine n_callO 119 ([] ++ (bN6 cI cZ cJ).map (she 0)) ([] ++ (bN6 cI cZ cJ).map (she 0) ++ (bN7 cI cZ cJ).map (she 119)) 133 133 3722 hR0 hL B 6 rfl miN7 (twl (i := 934) (by decide +kernel) rfl) (twl (i := 935) (by decide +kernel) rfl) rfl (ctN7) ⟨Nat.le_of_ble_eq_true rfl, Nat.le_of_ble_eq_true rfl, rfl, rfl, Nat.le_of_ble_eq_true rfl, Nat.le_of_ble_eq_true rfl⟩ rfl 14 ⟨rfl, bN7_len cI cZ cJ, rfl⟩ (fun _ => rfl) rfl (Nat.le_of_ble_eq_true rfl) ?_
  refine n_astore_n [(2, .ref 119), (1, .ref 0)] 2 hl2 B 7 rfl rfl (by decide) rfl ?_
  refine n_iconst 1 B 8 rfl (by decide) ?_
  refine n_newaJ 1 133 (csF cI cZ cJ) 134 134 3723 hR0 hL B 9 rfl (twl (i := 1354) (by decide +kernel) rfl) ⟨by decide, by decide, by decide⟩ ⟨rfl, rfl⟩ rfl ⟨rfl, rfl, Nat.le_of_ble_eq_true rfl, Nat.le_of_ble_eq_true rfl⟩ ?_
  refine n_astore_n [(3, .ref 133), (2, .ref 119), (1, .ref 0)] 3 hl3 B 10 rfl rfl (by decide) rfl ?_
  refine n_iconst 0 B 11 rfl (by decide) ?_
  refine n_istore [(4, .int 0), (3, .ref 133), (2, .ref 119), (1, .ref 0)] hl4 B 12 rfl (by decide) rfl ?_
  exact k
theorem whole_start {p : Program} {e : Env} {s : State} {m : MethodId} {below : List Frame} {meth : Method} {c : Code} (l : Launch) (hflags : l.flags = flags0) {b L : Nat} {xs : Nat → Int32} (hL : L ≤ 3072) (C0 : lw_At p s m meth c b L xs) : W p l e room_1 s m #[Value.ref b] below meth c s.heap [] 0 0 (lw_Z below #[Value.ref b] s) (entryFrame m ([Value.ref b] : List Value).toArray 7) := by
  obtain ⟨hx, hb, hr, hml, hown, hts, hX, hbl, hlocks, hgv⟩ := id C0
  have hfl : l.stackTraces = false := by
    unfold Launch.stackTraces
    rw [hflags]
    decide +kernel
  have tw : ∀ w ∈ TW, w.before #[Value.ref b] s = true := fun w h => hts w (List.mem_filter.mp h).1
  have hA : ∀ a : Nat, a < s.heap.size → ¬ (fun q : Nat => s.heap.size ≤ q) a := fun a ha => Nat.not_le.mpr ha
  obtain ⟨D, cI, cZ, cJ, hK⟩ := st_K hts
  have hN : Nx s := st_N hts
  obtain ⟨ak, av, pf, hSx⟩ := st_S hts hgv hA
  have hx0 := CfS_x (n := s.heap.size) (b := b) (pf := pf) (ak := ak) (av := av) (D := D) (cI := cI) (cZ := cZ) (cJ := cJ)
  have hS := hSx (CfS s.heap.size b pf ak av D cI cZ cJ) hx0.1 hx0.2.1
  have hj := CfS_j (n := s.heap.size) (b := b) (pf := pf) (ak := ak) (av := av) (D := D) (cI := cI) (cZ := cZ) (cJ := cJ)
  have hl := lv_entry ([.ref b]) (n := 7) (Nat.le_of_ble_eq_true rfl)
  rw [lg_entry_eq]
  generalize (lg_sl ([.ref b]) ++ List.replicate (7 - (lg_sl ([.ref b])).length) Slot.unset).toArray = ls at hl ⊢
  have hl : lv_has ls 7 [(0, .ref b)] := hl
  have hlr : ∀ i, 1 ≤ i → LR (p, l, e, room_1, s, m, #[Value.ref b], below, meth, c, lw_Z below #[Value.ref b] s, D, cI, cZ, cJ, s.heap.size, [(0, .ref b)]) i := by
    intro i hi q hq
    have hq : q ∈ [((0 : Nat), Value.ref b)] := hq
    cases List.mem_singleton.mp hq
    have h0 : ((0 : Nat) == i) = false := by simp; omega
    show (!((0 : Nat) == i) && !((0 : Nat) + 1 == i && (Value.ref b).category == 2)) = true
    rw [h0]
    show (true && !(_ && false)) = true
    rw [Bool.and_false]
    rfl
  have hG := law_walk0 (E := (p, l, e, room_1, s, m, #[Value.ref b], below, meth, c, lw_Z below #[Value.ref b] s, D, cI, cZ, cJ, s.heap.size, [(0, .ref b)])) (l := l) (D := D) (cI := cI) (cZ := cZ) (cJ := cJ) ⟨hx, fun q hq => by rw [hb]; exact dtL q hq, hml, hown, tw, hK, hN, Nat.le_refl _, hlocks⟩ rfl ⟨rfl, rfl, rfl, rfl, rfl⟩ (hlr 1 (by omega)) (hlr 2 (by omega)) (hlr 3 (by omega)) (hlr 4 (by omega)) ?_
  · exact hG s.heap [] ls rfl (fun k q h => by simp [wsn] at h) rfl va_S.rf hl
  · intro H locs ls hlen hP hz hS2 hl2
    have haa : ∀ c, c < NC → (fun q : Nat => s.heap.size ≤ q) ((CfS s.heap.size b pf ak av D cI cZ cJ).1 c) := fun c hc => by
      show s.heap.size ≤ (CfS s.heap.size b pf ak av D cI cZ cJ).1 c
      rw [CfS_c hc]
      exact Nat.le_add_right _ _
    have hM := law_loop (C := CfS s.heap.size b pf ak av D cI cZ cJ) (xs := xs) hj hfl hL 600 (p, l, e, room_1, s, m, #[Value.ref b], below, meth, c, lw_Z below #[Value.ref b] s, CfS s.heap.size b pf ak av D cI cZ cJ, 134, 3723, (fun q : Nat => s.heap.size ≤ q), none, mem0) 0 mem0 ⟨⟨hx, fun q hq => (by cases hq), hml, hown, tw, hK, hj, haa, hS, hr, hlocks, Nat.le_of_ble_eq_true rfl, Nat.le_of_ble_eq_true rfl⟩, hb⟩ ⟨rfl, rfl, rfl⟩ ⟨by rw [hx0.2.2]; exact hX, by rw [hx0.2.2]; exact hbl, by rw [hx0.2.2]; exact hA b hbl⟩ ⟨rfl, ⟨b, rfl, rfl⟩, rfl, hb, Nat.le_of_ble_eq_true rfl, Nat.le_of_ble_eq_true rfl⟩ ⟨Nat.le_refl _, Nat.le_refl _, rfl⟩ (Nat.zero_le _) (zlaw_0 hL)
    refine hM H locs ls (wl_S hP) hS2 ?_
    exact lv_sub hl2 [0, 4, 3, 2, 1] rfl
