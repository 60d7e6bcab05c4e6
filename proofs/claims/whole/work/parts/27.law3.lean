/-- the script -/
def Sc : Ev → Nat → (Nat → Int32) → Prop
  | (_, _, _, _, s, _, _, _, _, _, _, C, _, _, A, _, _), L, xs => va_X (C.1 5000) L xs s s.heap ∧ C.1 5000 < s.heap.size ∧ ¬ A (C.1 5000)
theorem Sc.setk {E : Ev} {L : Nat} {xs : Nat → Int32} {k n : Nat} (h : Sc E L xs) : Sc (setk E k n) L xs := by
  obtain ⟨p, l, e, R, s, m, args, below, meth, c, Q, C, kc, ks, A, res, mo⟩ := E
  exact h
theorem z_scl {E : Ev} {own : String} {tb : Tb} {nL : Nat} {ret : Option FieldType} {pc nx : Nat} {lv : Lv} {st : List Value} {mm : Mem} {L : Nat} {xs : Nat → Int32} (hs : Sc E L xs) (B : Bx E own tb nL ret) (i : Nat) (h : tb[i]? = some (pc, .arraylength, 1, nx)) (k : G E nL nx lv (.int (nI L) :: st) mm) : G E nL pc lv (.ref 5000 :: st) mm := by
  obtain ⟨p, l, e, R, s, m, args, below, meth, c, Q, C, kc, ks, A, res, mo⟩ := E
  obtain ⟨hd, hn⟩ := Bx.dec B h
  subst hn
  intro H locs ls hP hS hl
  exact va_slen B.1 rfl hs.1 hs.2.1 hs.2.2 hS hd (k H locs ls hP hS hl)
theorem z_sld {E : Ev} {own : String} {tb : Tb} {nL : Nat} {ret : Option FieldType} {pc nx : Nat} {lv : Lv} {st : List Value} {mm : Mem} {L : Nat} {xs : Nat → Int32} {x : Int32} (hs : Sc E L xs) (B : Bx E own tb nL ret) (i : Nat) (h : tb[i]? = some (pc, .iaload, 1, nx)) (hx : inb x L = true) (k : G E nL nx lv (.int (xs x.toNatClampNeg) :: st) mm) : G E nL pc lv (.int x :: .ref 5000 :: st) mm := by
  obtain ⟨p, l, e, R, s, m, args, below, meth, c, Q, C, kc, ks, A, res, mo⟩ := E
  obtain ⟨hd, hn⟩ := Bx.dec B h
  subst hn
  intro H locs ls hP hS hl
  exact va_sld B.1 rfl hs.1 hs.2.1 hs.2.2 hS (inb_in hx) hd (k H locs ls hP hS hl)
def rsc {β : Type} (L : Nat) (i : Int32) (k : Option β) : Option β := if inb i L = true then k else none
theorem rsc_e {β : Type} {L : Nat} {i : Int32} {k : Option β} {y : β} (h : rsc L i k = some y) : inb i L = true ∧ k = some y := by
  unfold rsc at h
  by_cases hc : inb i L = true
  · exact ⟨hc, (if_pos hc).symm.trans h⟩
  · rw [if_neg hc] at h; cases h
def bdx {β : Type} (a : Option Int32) (b : Option Unit) (mm : Mem) (k : Int32 → Mem → Option β) : Option β := match a with
  | some x => k 0 (up2 mm 133 0 x)
  | none => match b with
    | some _ => k 1 mm
    | none => none
def kle1 : Ev → Nat → Nat → Prop
  | (_, _, _, R, _, _, _, _, _, _, _, _, kc, ks, _, _, _), k, n => kc + 1 ≤ k ∧ ks + 6 ≤ n ∧ k ≤ R.cells ∧ n ≤ R.slots
theorem kle1_kle {E : Ev} {k n : Nat} (h : kle1 E k n) : kle E k n := by
  obtain ⟨p, l, e, R, s, m, args, below, meth, c, Q, C, kc, ks, A, res, mo⟩ := E
  exact ⟨by have := h.1; omega, by have := h.2.1; omega, h.2.2.1, h.2.2.2⟩
theorem kle1_again {E : Ev} {k n : Nat} (h : kle1 E k n) : kle (setk E k n) k n := by
  obtain ⟨p, l, e, R, s, m, args, below, meth, c, Q, C, kc, ks, A, res, mo⟩ := E
  exact ⟨Nat.le_refl _, Nat.le_refl _, h.2.2.1, h.2.2.2⟩
def BL : Ev → Prop
  | (p, l, e, R, s, m, args, below, meth, c, Q, C, kc, ks, A, res, mo) => Bx (p, l, e, R, s, m, args, below, meth, c, Q, C, kc, ks, A, res, mo) RL [] 7 (some .boolean) ∧ c.code = code
theorem BL.to {E : Ev} {tb : Tb} (h : BL E) (ht : ∀ q ∈ tb, decode code q.1 = .ok (q.2.1, q.2.2.1) ∧ q.1 + q.2.2.1 = q.2.2.2) : Bx E RL tb 7 (some .boolean) := by
  obtain ⟨p, l, e, R, s, m, args, below, meth, c, Q, C, kc, ks, A, res, mo⟩ := E
  obtain ⟨B, hc⟩ := h
  exact ⟨B.1, fun q hq => by rw [hc]; exact ht q hq, B.ml, B.hown, B.tw, B.K, B.dj, B.aa, B.sx, B.rt, B.lk, B.rm⟩
theorem BL.setk {E : Ev} {k n : Nat} (h : BL E) (hk : kle E k n) : BL (setk E k n) := by
  obtain ⟨p, l, e, R, s, m, args, below, meth, c, Q, C, kc, ks, A, res, mo⟩ := E
  exact ⟨Bx.setk h.1 hk, h.2⟩
def LEnd (E : Ev) : Prop := ∀ (pc nx : Nat) (lv : Lv) (mm : Mem) {tb : Tb}, Bx E RL tb 7 (some .boolean) → (pc, .ireturn, 1, nx) ∈ tb → G E 7 pc lv [.int 1] mm
theorem hk23s {E : Ev} {k23 : Int32 → Mem → Option Int32} {k n : Nat} (h : ∀ (x4 : Int32) (mm : Mem), k23 x4 mm = some 1 → G (setk E k n) 7 23 [(0, .ref 5000), (1, .ref 14), (2, .ref 0), (3, .ref 133), (4, .int x4)] [] mm) : ∀ (x4 : Int32) (mm : Mem), k23 x4 mm = some 1 → G (setk (setk E k n) k n) 7 23 [(0, .ref 5000), (1, .ref 14), (2, .ref 0), (3, .ref 133), (4, .int x4)] [] mm := by
  obtain ⟨p, l, e, R, s, m, args, below, meth, c, Q, C, kc, ks, A, res, mo⟩ := E
  exact h
theorem z_callW {E : Ev} {own : String} {tb : Tb} {nL : Nat} {ret : Option FieldType} {pc nx : Nat} {lv : Lv} {st : List Value} {mm : Mem} {l : Launch} {C : Cfg} {R : Room} {y : MethodName} {bytes : ByteArray} {maxL n fr lo idx kN nN : Nat} {rt : Option FieldType} {hh : List (Nat × Nat × Nat × Nat)} {r : Option Value} {mm2 : Mem} (as rest st2 : List Value) (X : Ec E l C R) (B : Bx E own tb nL ret) (hK : kle1 E kN nN) (i : Nat) (h : tb[i]? = some (pc, .invokestatic idx, 3, nx)) (hy : plainName y.cls = true) (hM : y.cls ≠ "java/lang/invoke/MethodHandle" ∧ y.cls ≠ "java/lang/invoke/VarHandle" ∧ (parseMethodDescriptor y.desc).map (fun d => d.parameters.length) = some n) (hw : Cond.methodLink own idx y ∈ TW ∧ Cond.static y ∈ TW ∧ Cond.initialized y.cls ∈ TW ∧ Cond.codeWith y bytes maxL rt hh ∈ TW) (hc : CtW l C y bytes maxL rt hh fr lo as mm r mm2) (hR : fr + 1 ≤ R.frames ∧ 8 + (maxL + 11) + lo ≤ R.locals) (hn : as.length = n) (hst : st = as.reverse ++ rest) (hW : (rest.map fun v => v.category).sum ≤ 8) (h2 : st2 = r.toList ++ rest) (k : G (setk E kN nN) nL nx lv st2 mm2) : G E nL pc lv st mm := by
  obtain ⟨p, l', e, R', s, m, args, below, meth, c, Q, C', kc, ks, A, res, mo⟩ := E
  obtain ⟨rfl, rfl, rfl⟩ := X
  obtain ⟨hd, hnx⟩ := Bx.dec B h
  obtain ⟨rfl, rfl⟩ := hnx
  subst hst
  subst h2
  intro H locs ls hP hS hl
  have hrl : (rest.map (cvv C')).map (fun v => v.category) = rest.map (fun v => v.category) := by rw [List.map_map]; congr 1; funext v; exact cvv_cat C' v
  have hG : GoodIn TW (Cond.codeWith y bytes maxL rt hh :: TW) := by
    intro w hw2
    have hw2 : w ∈ TW := by
      rcases List.mem_cons.mp hw2 with e | e
      · rw [e]; exact hw.2.2.2
      · exact e
    exact ⟨hw2, good_of_word (List.mem_filter.mp hw2).2⟩
  have hAA : ∀ q, Aw C' q → A q := fun q hq => by obtain ⟨c, h1, rfl⟩ := hq; exact B.aa c h1
  have hrun := vx_runSW (As := as.map (cvv C')) (rest := rest.map (cvv C')) (g := F0 m pc ls ((as.reverse ++ rest).map (cvv C'))) (cells := kc) (slots := ks) (locs := locs) (e := e) (below := below) (meth := meth) ⟨B.1, rfl, B.ml, B.hown, B.tw⟩ hc ⟨⟨rfl, rfl, hR.1, hR.2, pay_in B.tw hG, List.mem_cons_self⟩, B.tw _ hw.2.2.2, B.tw _ hw.2.2.1, ⟨hM.1, hM.2.1⟩, fun sig hsig => (by have h2 := hM.2.2; rw [hsig] at h2; exact (Option.some.inj h2).symm), B.tw _ hw.1, B.tw _ hw.2.1⟩ ⟨Wd_blind, Wd_call B hP hS as⟩ rfl (by rw [List.length_map]; exact hn) hl.1 (by rw [List.map_append, List.map_reverse]) (lv_room (by rw [hrl]; exact hW)) hd (by have := hK; obtain ⟨a1, a2, a3, a4⟩ := this; omega)
  intro T hT Y
  obtain ⟨v, st₀, t, T', L, h0, X', hL, e1, e2, ⟨hv, hWd, hz, hk⟩, hst⟩ := hrun T hT Y
  cases hv
  rw [h0] at hz hk
  have X'' := stand_widen X' (show kc + 1 ≤ kN from hK.1) (show ks + 6 ≤ nN from hK.2.1)
  have hgo := k T'.heap (locs ++ L) ls (by rw [e1]; exact hWd.1)
    ⟨Nat.le_trans hS.1 (by rw [e1]; exact hz), fun q h1 h2 => by rw [e1, hk q (Nat.lt_of_lt_of_le h1 hS.1) (fun z => h2 (hAA q z))]; exact hS.2.1 q h1 h2, fun q hq => by
      rcases List.mem_append.mp hq with h | h
      · exact hS.2.2 q h
      · exact hAA _ (hL q h)⟩ hl
  have hgo2 : W p l' e R' s m args below meth c T'.heap (locs ++ L) kN nN Q (F0 m (pc + 3) ls ((r.map (cvv C')).toList ++ rest.map (cvv C'))) := by
    rw [List.map_append] at hgo
    cases r <;> exact hgo
  obtain ⟨t2, a1, b1⟩ := hgo2 T' rfl X''
  exact ⟨t2, hst t2 a1, b1⟩
theorem bdx_zoneOf {l : Launch} {C : Cfg} (hj : Dj C) (hfl : l.stackTraces = false) {mm : Mem} {a1 a2 : Int32} {β : Type} {k : Int32 → Mem → Option β} {y : β} (h : bdx (f6_zoneOf mm a1 a2) (t6_zoneOf mm a1 a2) mm k = some y) : ∃ r m2, CtW l C yL_zoneOf cL_zoneOf 5 (some .int) [(0, 10, 13, 13)] 7 173 [.ref 14, .int a1, .int a2, .ref 133] mm (some (.int r)) m2 ∧ k r m2 = some y := by
  unfold bdx at h
  cases hf : f6_zoneOf mm a1 a2 with
  | some x => rw [hf] at h; exact ⟨0, _, ctL_zoneOf hj hf, h⟩
  | none =>
    rw [hf] at h
    cases ht : t6_zoneOf mm a1 a2 with
    | some u => rw [ht] at h; exact ⟨1, mm, cxL_zoneOf hj hfl ht, h⟩
    | none => rw [ht] at h; cases h
theorem bdx_resourceOf {l : Launch} {C : Cfg} (hj : Dj C) (hfl : l.stackTraces = false) {mm : Mem} {a1 a2 : Int32} {β : Type} {k : Int32 → Mem → Option β} {y : β} (h : bdx (f6_resourceOf mm a1 a2) (t6_resourceOf mm a1 a2) mm k = some y) : ∃ r m2, CtW l C yL_resourceOf cL_resourceOf 5 (some .int) [(0, 10, 13, 13)] 7 173 [.ref 14, .int a1, .int a2, .ref 133] mm (some (.int r)) m2 ∧ k r m2 = some y := by
  unfold bdx at h
  cases hf : f6_resourceOf mm a1 a2 with
  | some x => rw [hf] at h; exact ⟨0, _, ctL_resourceOf hj hf, h⟩
  | none =>
    rw [hf] at h
    cases ht : t6_resourceOf mm a1 a2 with
    | some u => rw [ht] at h; exact ⟨1, mm, cxL_resourceOf hj hfl ht, h⟩
    | none => rw [ht] at h; cases h
def wL_law : List Cond := [.methodLink "ZoneCapacityLaw" 22 yX6_feed, .instanceMethod yX6_feed, .selects "ZoneCapacity" yX6_feed yX6_feed, .methodLink "ZoneCapacityLaw" 26 yX7_feed, .instanceMethod yX7_feed, .selects "ZoneCapacityModel" yX7_feed yX7_feed, .methodLink "ZoneCapacityLaw" 27 yX6_end, .instanceMethod yX6_end, .selects "ZoneCapacity" yX6_end yX6_end, .methodLink "ZoneCapacityLaw" 31 yX7_end, .instanceMethod yX7_end, .selects "ZoneCapacityModel" yX7_end yX7_end, .methodLink "ZoneCapacityLaw" 32 yX6_tell, .instanceMethod yX6_tell, .selects "ZoneCapacity" yX6_tell yX6_tell, .methodLink "ZoneCapacityLaw" 36 yX7_tell, .instanceMethod yX7_tell, .selects "ZoneCapacityModel" yX7_tell yX7_tell, .methodLink "ZoneCapacityLaw" 37 yX6_fault, .instanceMethod yX6_fault, .selects "ZoneCapacity" yX6_fault yX6_fault, .methodLink "ZoneCapacityLaw" 40 yX7_fault, .instanceMethod yX7_fault, .selects "ZoneCapacityModel" yX7_fault yX7_fault, .methodLink "ZoneCapacityLaw" 41 yX6_zone, .instanceMethod yX6_zone, .selects "ZoneCapacity" yX6_zone yX6_zone, .methodLink "ZoneCapacityLaw" 45 yX7_zone, .instanceMethod yX7_zone, .selects "ZoneCapacityModel" yX7_zone yX7_zone, .methodLink "ZoneCapacityLaw" 46 yX6_point, .instanceMethod yX6_point, .selects "ZoneCapacity" yX6_point yX6_point, .methodLink "ZoneCapacityLaw" 49 yX7_point, .instanceMethod yX7_point, .selects "ZoneCapacityModel" yX7_point yX7_point, .methodLink "ZoneCapacityLaw" 50 yX6_resource, .instanceMethod yX6_resource, .selects "ZoneCapacity" yX6_resource yX6_resource, .methodLink "ZoneCapacityLaw" 54 yX7_resource, .instanceMethod yX7_resource, .selects "ZoneCapacityModel" yX7_resource yX7_resource, .methodLink "ZoneCapacityLaw" 55 yX6_step, .instanceMethod yX6_step, .selects "ZoneCapacity" yX6_step yX6_step, .methodLink "ZoneCapacityLaw" 58 yX7_step, .instanceMethod yX7_step, .selects "ZoneCapacityModel" yX7_step yX7_step, .methodLink "ZoneCapacityLaw" 59 yX6_drop, .instanceMethod yX6_drop, .selects "ZoneCapacity" yX6_drop yX6_drop, .methodLink "ZoneCapacityLaw" 63 yX7_drop, .instanceMethod yX7_drop, .selects "ZoneCapacityModel" yX7_drop yX7_drop, .methodLink "ZoneCapacityLaw" 64 yX6_set, .instanceMethod yX6_set, .selects "ZoneCapacity" yX6_set yX6_set, .methodLink "ZoneCapacityLaw" 68 yX7_set, .instanceMethod yX7_set, .selects "ZoneCapacityModel" yX7_set yX7_set, .methodLink "ZoneCapacityLaw" 69 yX6_keep, .instanceMethod yX6_keep, .selects "ZoneCapacity" yX6_keep yX6_keep, .methodLink "ZoneCapacityLaw" 72 yX7_keep, .instanceMethod yX7_keep, .selects "ZoneCapacityModel" yX7_keep yX7_keep, .methodLink "ZoneCapacityLaw" 73 yX6_back, .instanceMethod yX6_back, .selects "ZoneCapacity" yX6_back yX6_back, .methodLink "ZoneCapacityLaw" 76 yX7_back, .instanceMethod yX7_back, .selects "ZoneCapacityModel" yX7_back yX7_back, .methodLink "ZoneCapacityLaw" 77 yX6_count, .instanceMethod yX6_count, .selects "ZoneCapacity" yX6_count yX6_count, .methodLink "ZoneCapacityLaw" 81 yX7_count, .instanceMethod yX7_count, .selects "ZoneCapacityModel" yX7_count yX7_count, .methodLink "ZoneCapacityLaw" 82 yL_zoneOf, .static yL_zoneOf, .initialized "ZoneCapacityLaw", .codeWith yL_zoneOf cL_zoneOf 5 (some .int) [(0, 10, 13, 13)], .methodLink "ZoneCapacityLaw" 87 yX7_zoneOf, .instanceMethod yX7_zoneOf, .selects "ZoneCapacityModel" yX7_zoneOf yX7_zoneOf, .methodLink "ZoneCapacityLaw" 88 yX7_thrown, .instanceMethod yX7_thrown, .selects "ZoneCapacityModel" yX7_thrown yX7_thrown, .methodLink "ZoneCapacityLaw" 91 yL_resourceOf, .static yL_resourceOf, .codeWith yL_resourceOf cL_resourceOf 5 (some .int) [(0, 10, 13, 13)], .methodLink "ZoneCapacityLaw" 93 yX7_resourceOf, .instanceMethod yX7_resourceOf, .selects "ZoneCapacityModel" yX7_resourceOf yX7_resourceOf, .methodLink "ZoneCapacityLaw" 94 yX6_line, .instanceMethod yX6_line, .selects "ZoneCapacity" yX6_line yX6_line, .methodLink "ZoneCapacityLaw" 98 yX7_line, .instanceMethod yX7_line, .selects "ZoneCapacityModel" yX7_line yX7_line, .methodLink "ZoneCapacityLaw" 99 yX6_worth, .instanceMethod yX6_worth, .selects "ZoneCapacity" yX6_worth yX6_worth, .methodLink "ZoneCapacityLaw" 102 yX7_worth, .instanceMethod yX7_worth, .selects "ZoneCapacityModel" yX7_worth yX7_worth, .methodLink "ZoneCapacityLaw" 103 yX6_wants, .instanceMethod yX6_wants, .selects "ZoneCapacity" yX6_wants yX6_wants, .methodLink "ZoneCapacityLaw" 106 yX7_wants, .instanceMethod yX7_wants, .selects "ZoneCapacityModel" yX7_wants yX7_wants, .methodLink "ZoneCapacityLaw" 107 yX6_level, .instanceMethod yX6_level, .selects "ZoneCapacity" yX6_level yX6_level, .methodLink "ZoneCapacityLaw" 110 yX7_level, .instanceMethod yX7_level, .selects "ZoneCapacityModel" yX7_level yX7_level, .methodLink "ZoneCapacityLaw" 111 yX6_price, .instanceMethod yX6_price, .selects "ZoneCapacity" yX6_price yX6_price, .methodLink "ZoneCapacityLaw" 114 yX7_price, .instanceMethod yX7_price, .selects "ZoneCapacityModel" yX7_price yX7_price, .methodLink "ZoneCapacityLaw" 115 yX6_net, .instanceMethod yX6_net, .selects "ZoneCapacity" yX6_net yX6_net, .methodLink "ZoneCapacityLaw" 118 yX7_net, .instanceMethod yX7_net, .selects "ZoneCapacityModel" yX7_net yX7_net, .methodLink "ZoneCapacityLaw" 119 yX6_served, .instanceMethod yX6_served, .selects "ZoneCapacity" yX6_served yX6_served, .methodLink "ZoneCapacityLaw" 122 yX7_served, .instanceMethod yX7_served, .selects "ZoneCapacityModel" yX7_served yX7_served, .methodLink "ZoneCapacityLaw" 123 yX6_taken, .instanceMethod yX6_taken, .selects "ZoneCapacity" yX6_taken yX6_taken, .methodLink "ZoneCapacityLaw" 126 yX7_taken, .instanceMethod yX7_taken, .selects "ZoneCapacityModel" yX7_taken yX7_taken, .methodLink "ZoneCapacityLaw" 127 yX6_binds, .instanceMethod yX6_binds, .selects "ZoneCapacity" yX6_binds yX6_binds, .methodLink "ZoneCapacityLaw" 130 yX7_binds, .instanceMethod yX7_binds, .selects "ZoneCapacityModel" yX7_binds yX7_binds, .methodLink "ZoneCapacityLaw" 131 yX6_surplus, .instanceMethod yX6_surplus, .selects "ZoneCapacity" yX6_surplus yX6_surplus, .methodLink "ZoneCapacityLaw" 135 yX7_surplus, .instanceMethod yX7_surplus, .selects "ZoneCapacityModel" yX7_surplus yX7_surplus, .methodLink "ZoneCapacityLaw" 136 yX6_rent, .instanceMethod yX6_rent, .selects "ZoneCapacity" yX6_rent yX6_rent, .methodLink "ZoneCapacityLaw" 140 yX7_rent, .instanceMethod yX7_rent, .selects "ZoneCapacityModel" yX7_rent yX7_rent, .methodLink "ZoneCapacityLaw" 141 yX6_paid, .instanceMethod yX6_paid, .selects "ZoneCapacity" yX6_paid yX6_paid, .methodLink "ZoneCapacityLaw" 144 yX7_paid, .instanceMethod yX7_paid, .selects "ZoneCapacityModel" yX7_paid yX7_paid, .methodLink "ZoneCapacityLaw" 145 yX6_charged, .instanceMethod yX6_charged, .selects "ZoneCapacity" yX6_charged yX6_charged, .methodLink "ZoneCapacityLaw" 148 yX7_charged, .instanceMethod yX7_charged, .selects "ZoneCapacityModel" yX7_charged yX7_charged, .methodLink "ZoneCapacityLaw" 149 yX6_without, .instanceMethod yX6_without, .selects "ZoneCapacity" yX6_without yX6_without, .methodLink "ZoneCapacityLaw" 152 yX7_without, .instanceMethod yX7_without, .selects "ZoneCapacityModel" yX7_without yX7_without, .methodLink "ZoneCapacityLaw" 153 yX6_pivotal, .instanceMethod yX6_pivotal, .selects "ZoneCapacity" yX6_pivotal yX6_pivotal, .methodLink "ZoneCapacityLaw" 156 yX7_pivotal, .instanceMethod yX7_pivotal, .selects "ZoneCapacityModel" yX7_pivotal yX7_pivotal, .methodLink "ZoneCapacityLaw" 157 yX6_wider, .instanceMethod yX6_wider, .selects "ZoneCapacity" yX6_wider yX6_wider, .methodLink "ZoneCapacityLaw" 161 yX7_wider, .instanceMethod yX7_wider, .selects "ZoneCapacityModel" yX7_wider yX7_wider, .methodLink "ZoneCapacityLaw" 162 yX6_needs, .instanceMethod yX6_needs, .selects "ZoneCapacity" yX6_needs yX6_needs, .methodLink "ZoneCapacityLaw" 165 yX7_needs, .instanceMethod yX7_needs, .selects "ZoneCapacityModel" yX7_needs yX7_needs, .methodLink "ZoneCapacityLaw" 166 yX6_freely, .instanceMethod yX6_freely, .selects "ZoneCapacity" yX6_freely yX6_freely, .methodLink "ZoneCapacityLaw" 169 yX7_freely, .instanceMethod yX7_freely, .selects "ZoneCapacityModel" yX7_freely yX7_freely, .methodLink "ZoneCapacityLaw" 170 yX6_gain, .instanceMethod yX6_gain, .selects "ZoneCapacity" yX6_gain yX6_gain, .methodLink "ZoneCapacityLaw" 174 yX7_gain, .instanceMethod yX7_gain, .selects "ZoneCapacityModel" yX7_gain yX7_gain, .methodLink "ZoneCapacityLaw" 175 yX6_best, .instanceMethod yX6_best, .selects "ZoneCapacity" yX6_best yX6_best, .methodLink "ZoneCapacityLaw" 178 yX7_best, .instanceMethod yX7_best, .selects "ZoneCapacityModel" yX7_best yX7_best]
theorem iL_law : ∀ w ∈ wL_law, w ∈ TW := tw_of (ids := [339, 340, 341, 1269, 1270, 1271, 350, 351, 352, 1277, 1278, 1279, 357, 358, 359, 1281, 1282, 1283, 553, 554, 555, 1350, 1351, 1352, 557, 558, 559, 1013, 1014, 1015, 566, 567, 568, 1027, 1028, 1029, 574, 575, 576, 1051, 1052, 1053, 579, 580, 581, 1059, 1060, 1061, 590, 591, 592, 1083, 1084, 1085, 596, 597, 598, 1087, 1088, 1089, 613, 614, 615, 1095, 1096, 1097, 617, 618, 619, 1099, 1100, 1101, 621, 622, 623, 1103, 1104, 1105, 852, 853, 70, 854, 1107, 1108, 1109, 1009, 1010, 1011, 925, 926, 927, 1115, 1116, 1117, 625, 626, 627, 1119, 1120, 1121, 651, 652, 653, 1131, 1132, 1133, 662, 663, 664, 1139, 1140, 1141, 673, 674, 675, 1147, 1148, 1149, 705, 706, 707, 1164, 1165, 1166, 739, 740, 741, 1188, 1189, 1190, 743, 744, 745, 1192, 1193, 1194, 747, 748, 749, 1196, 1197, 1198, 755, 756, 757, 1204, 1205, 1206, 763, 764, 765, 1208, 1209, 1210, 775, 776, 777, 1216, 1217, 1218, 784, 785, 786, 1221, 1222, 1223, 798, 799, 800, 1229, 1230, 1231, 802, 803, 804, 1233, 1234, 1235, 810, 811, 812, 1237, 1238, 1239, 819, 820, 821, 1241, 1242, 1243, 824, 825, 826, 1245, 1246, 1247, 832, 833, 834, 1249, 1250, 1251, 840, 841, 842, 1253, 1254, 1255, 848, 849, 850, 1265, 1266, 1267]) (by decide +kernel)
def fL_law_j1579 (L : Nat) (xs : Nat → Int32) (k23 : Int32 → Mem → Option Int32) (x4 : Int32) (mm : Mem) : Option Int32 := nm (x4 + 6) (fun v14 => k23 v14 mm)
def tbfL_law_j1579 : Tb := [(1579, .iinc 4 6, 3, 1582), (1582, .goto (-1559), 3, 1585)]
theorem dtfL_law_j1579 : ∀ q ∈ tbfL_law_j1579, decode code q.1 = .ok (q.2.1, q.2.2.1) ∧ q.1 + q.2.2.1 = q.2.2.2 := by decide +kernel
theorem fL_law_j1579_ok {E : Ev} {l : Launch} {C : Cfg} {L : Nat} {xs : Nat → Int32} {k23 : Int32 → Mem → Option Int32} {kN nN : Nat} (hj : Dj C) (hfl : l.stackTraces = false) (X : Ec E l C room_1) (B0 : BL E) (hs : Sc E L xs) (hK : kle E kN nN) (hk23 : ∀ (x4 : Int32) (mm : Mem), k23 x4 mm = some 1 → G (setk E kN nN) 7 23 [(0, .ref 5000), (1, .ref 14), (2, .ref 0), (3, .ref 133), (4, .int x4)] [] mm) (x4 : Int32) (mm : Mem) (hf : fL_law_j1579 L xs k23 x4 mm = some 1) : G E 7 1579 [(0, .ref 5000), (1, .ref 14), (2, .ref 0), (3, .ref 133), (4, .int x4)] [] mm := by
  have B := B0.to dtfL_law_j1579
  unfold fL_law_j1579 at hf
  obtain ⟨v14, ex, hf⟩ := nm_x hf
  refine z_iinc v14 [(4, .int v14), (0, .ref 5000), (1, .ref 14), (2, .ref 0), (3, .ref 133)] B 0 rfl 4 rfl (ex.symm) (by decide) rfl ?_
  refine z_goto B 1 rfl 23 (by decide) ?_
  refine z_sub [(0, .ref 5000), (1, .ref 14), (2, .ref 0), (3, .ref 133), (4, .int v14)] [1, 2, 3, 4, 0] rfl ?_
  refine z_wid hK ?_
  exact hk23 _ _ hf
def fL_law_j196 (L : Nat) (xs : Nat → Int32) (k23 : Int32 → Mem → Option Int32) (x4 : Int32) (mm : Mem) : Option Int32 := rsc L (x4 + (1 : Int32)) (nm (xs (x4 + (1 : Int32)).toNatClampNeg) (fun v2 => rsc L (x4 + (2 : Int32)) (nm (xs (x4 + (2 : Int32)).toNatClampNeg) (fun v3 => rsc L (x4 + (3 : Int32)) (nm (xs (x4 + (3 : Int32)).toNatClampNeg) (fun v4 => rsc L (x4 + (4 : Int32)) (nm (xs (x4 + (4 : Int32)).toNatClampNeg) (fun v5 => rsc L (x4 + (5 : Int32)) (nm (xs (x4 + (5 : Int32)).toNatClampNeg) (fun v6 => bd (f6_feed mm v2 v3 v4 v5 v6) (fun r7 => rsc L (x4 + (1 : Int32)) (nm (xs (x4 + (1 : Int32)).toNatClampNeg) (fun v8 => rsc L (x4 + (2 : Int32)) (nm (xs (x4 + (2 : Int32)).toNatClampNeg) (fun v9 => rsc L (x4 + (3 : Int32)) (nm (xs (x4 + (3 : Int32)).toNatClampNeg) (fun v10 => rsc L (x4 + (4 : Int32)) (nm (xs (x4 + (4 : Int32)).toNatClampNeg) (fun v11 => rsc L (x4 + (5 : Int32)) (nm (xs (x4 + (5 : Int32)).toNatClampNeg) (fun v12 => bd (f7_feed r7.2 v8 v9 v10 v11 v12) (fun r13 => if r7.1 = r13.1 then fL_law_j1579 L xs k23 x4 r13.2 else some (0 : Int32)))))))))))))))))))))))
def tbfL_law_j196 : Tb := [(196, .aload_n 1, 1, 197), (197, .aload_n 0, 1, 198), (198, .iload 4, 2, 200), (200, .iconst 1, 1, 201), (201, .iadd, 1, 202), (202, .iaload, 1, 203), (203, .aload_n 0, 1, 204), (204, .iload 4, 2, 206), (206, .iconst 2, 1, 207), (207, .iadd, 1, 208), (208, .iaload, 1, 209), (209, .aload_n 0, 1, 210), (210, .iload 4, 2, 212), (212, .iconst 3, 1, 213), (213, .iadd, 1, 214), (214, .iaload, 1, 215), (215, .aload_n 0, 1, 216), (216, .iload 4, 2, 218), (218, .iconst 4, 1, 219), (219, .iadd, 1, 220), (220, .iaload, 1, 221), (221, .aload_n 0, 1, 222), (222, .iload 4, 2, 224), (224, .iconst 5, 1, 225), (225, .iadd, 1, 226), (226, .iaload, 1, 227), (227, .invokevirtual 22, 3, 230), (230, .aload_n 2, 1, 231), (231, .aload_n 0, 1, 232), (232, .iload 4, 2, 234), (234, .iconst 1, 1, 235), (235, .iadd, 1, 236), (236, .iaload, 1, 237), (237, .aload_n 0, 1, 238), (238, .iload 4, 2, 240), (240, .iconst 2, 1, 241), (241, .iadd, 1, 242), (242, .iaload, 1, 243), (243, .aload_n 0, 1, 244), (244, .iload 4, 2, 246), (246, .iconst 3, 1, 247), (247, .iadd, 1, 248), (248, .iaload, 1, 249), (249, .aload_n 0, 1, 250), (250, .iload 4, 2, 252), (252, .iconst 4, 1, 253), (253, .iadd, 1, 254), (254, .iaload, 1, 255), (255, .aload_n 0, 1, 256), (256, .iload 4, 2, 258), (258, .iconst 5, 1, 259), (259, .iadd, 1, 260), (260, .iaload, 1, 261), (261, .invokevirtual 26, 3, 264), (264, .if_icmp .eq 1315, 3, 267), (267, .iconst 0, 1, 268), (268, .ireturn, 1, 269)]
theorem dtfL_law_j196 : ∀ q ∈ tbfL_law_j196, decode code q.1 = .ok (q.2.1, q.2.2.1) ∧ q.1 + q.2.2.1 = q.2.2.2 := by decide +kernel
theorem fL_law_j196_ok {E : Ev} {l : Launch} {C : Cfg} {L : Nat} {xs : Nat → Int32} {k23 : Int32 → Mem → Option Int32} {kN nN : Nat} (hj : Dj C) (hfl : l.stackTraces = false) (X : Ec E l C room_1) (B0 : BL E) (hs : Sc E L xs) (hK : kle E kN nN) (hk23 : ∀ (x4 : Int32) (mm : Mem), k23 x4 mm = some 1 → G (setk E kN nN) 7 23 [(0, .ref 5000), (1, .ref 14), (2, .ref 0), (3, .ref 133), (4, .int x4)] [] mm) (hK1 : kle1 E kN nN) (x4 : Int32) (mm : Mem) (hf : fL_law_j196 L xs k23 x4 mm = some 1) : G E 7 196 [(0, .ref 5000), (1, .ref 14), (2, .ref 0), (3, .ref 133), (4, .int x4)] [] mm := by
  have B := B0.to dtfL_law_j196
  unfold fL_law_j196 at hf
  refine z_aload_n B 0 rfl 1 1 rfl rfl ?_
  refine z_aload_n B 1 rfl 0 0 rfl rfl ?_
  refine z_iload B 2 rfl 4 rfl ?_
  refine z_iconst 1 B 3 rfl (by decide) ?_
  refine z_iadd B 4 rfl ?_
  obtain ⟨hx, hf⟩ := rsc_e hf
  refine z_sld hs B 5 rfl hx ?_
  obtain ⟨v2, ex, hf⟩ := nm_x hf
  refine z_top ex ?_
  refine z_aload_n B 6 rfl 0 0 rfl rfl ?_
  refine z_iload B 7 rfl 4 rfl ?_
  refine z_iconst 2 B 8 rfl (by decide) ?_
  refine z_iadd B 9 rfl ?_
  obtain ⟨hx, hf⟩ := rsc_e hf
  refine z_sld hs B 10 rfl hx ?_
  obtain ⟨v3, ex, hf⟩ := nm_x hf
  refine z_top ex ?_
  refine z_aload_n B 11 rfl 0 0 rfl rfl ?_
  refine z_iload B 12 rfl 4 rfl ?_
  refine z_iconst 3 B 13 rfl (by decide) ?_
  refine z_iadd B 14 rfl ?_
  obtain ⟨hx, hf⟩ := rsc_e hf
  refine z_sld hs B 15 rfl hx ?_
  obtain ⟨v4, ex, hf⟩ := nm_x hf
  refine z_top ex ?_
  refine z_aload_n B 16 rfl 0 0 rfl rfl ?_
  refine z_iload B 17 rfl 4 rfl ?_
  refine z_iconst 4 B 18 rfl (by decide) ?_
  refine z_iadd B 19 rfl ?_
  obtain ⟨hx, hf⟩ := rsc_e hf
  refine z_sld hs B 20 rfl hx ?_
  obtain ⟨v5, ex, hf⟩ := nm_x hf
  refine z_top ex ?_
  refine z_aload_n B 21 rfl 0 0 rfl rfl ?_
  refine z_iload B 22 rfl 4 rfl ?_
  refine z_iconst 5 B 23 rfl (by decide) ?_
  refine z_iadd B 24 rfl ?_
  obtain ⟨hx, hf⟩ := rsc_e hf
  refine z_sld hs B 25 rfl hx ?_
  obtain ⟨v6, ex, hf⟩ := nm_x hf
  refine z_top ex ?_
  obtain ⟨r7, ec, hf⟩ := bd_e hf
  refine z_callV 14 6 [.int v2, .int v3, .int v4, .int v5, .int v6] [] [.int r7.1] X B 26 rfl ob_14 rfl rfl miX6_feed ⟨(iL_law _ (List.mem_of_getElem? (i := 0) rfl)), (iL_law _ (List.mem_of_getElem? (i := 1) rfl)), (iL_law _ (List.mem_of_getElem? (i := 2) rfl))⟩ (ctX6_feed hj ec) ⟨Nat.le_of_ble_eq_true rfl, Nat.le_of_ble_eq_true rfl⟩ rfl rfl (Nat.le_of_ble_eq_true rfl) rfl ?_
  refine z_aload_n B 27 rfl 2 2 rfl rfl ?_
  refine z_aload_n B 28 rfl 0 0 rfl rfl ?_
  refine z_iload B 29 rfl 4 rfl ?_
  refine z_iconst 1 B 30 rfl (by decide) ?_
  refine z_iadd B 31 rfl ?_
  obtain ⟨hx, hf⟩ := rsc_e hf
  refine z_sld hs B 32 rfl hx ?_
  obtain ⟨v8, ex, hf⟩ := nm_x hf
  refine z_top ex ?_
  refine z_aload_n B 33 rfl 0 0 rfl rfl ?_
  refine z_iload B 34 rfl 4 rfl ?_
  refine z_iconst 2 B 35 rfl (by decide) ?_
  refine z_iadd B 36 rfl ?_
  obtain ⟨hx, hf⟩ := rsc_e hf
  refine z_sld hs B 37 rfl hx ?_
  obtain ⟨v9, ex, hf⟩ := nm_x hf
  refine z_top ex ?_
  refine z_aload_n B 38 rfl 0 0 rfl rfl ?_
  refine z_iload B 39 rfl 4 rfl ?_
  refine z_iconst 3 B 40 rfl (by decide) ?_
  refine z_iadd B 41 rfl ?_
  obtain ⟨hx, hf⟩ := rsc_e hf
  refine z_sld hs B 42 rfl hx ?_
  obtain ⟨v10, ex, hf⟩ := nm_x hf
  refine z_top ex ?_
  refine z_aload_n B 43 rfl 0 0 rfl rfl ?_
  refine z_iload B 44 rfl 4 rfl ?_
  refine z_iconst 4 B 45 rfl (by decide) ?_
  refine z_iadd B 46 rfl ?_
  obtain ⟨hx, hf⟩ := rsc_e hf
  refine z_sld hs B 47 rfl hx ?_
  obtain ⟨v11, ex, hf⟩ := nm_x hf
  refine z_top ex ?_
  refine z_aload_n B 48 rfl 0 0 rfl rfl ?_
  refine z_iload B 49 rfl 4 rfl ?_
  refine z_iconst 5 B 50 rfl (by decide) ?_
  refine z_iadd B 51 rfl ?_
  obtain ⟨hx, hf⟩ := rsc_e hf
  refine z_sld hs B 52 rfl hx ?_
  obtain ⟨v12, ex, hf⟩ := nm_x hf
  refine z_top ex ?_
  obtain ⟨r13, ec, hf⟩ := bd_e hf
  refine z_callV 0 7 [.int v8, .int v9, .int v10, .int v11, .int v12] [.int r7.1] [.int r13.1, .int r7.1] X B 53 rfl ob_0 rfl rfl miX7_feed ⟨(iL_law _ (List.mem_of_getElem? (i := 3) rfl)), (iL_law _ (List.mem_of_getElem? (i := 4) rfl)), (iL_law _ (List.mem_of_getElem? (i := 5) rfl))⟩ (ctX7_feed hj ec) ⟨Nat.le_of_ble_eq_true rfl, Nat.le_of_ble_eq_true rfl⟩ rfl rfl (Nat.le_of_ble_eq_true rfl) rfl ?_
  by_cases hc : r7.1 = r13.1
  · replace hf := (if_pos hc).symm.trans hf
    refine z_icmp_eq_t B 54 rfl 1579 (by decide) hc ?_
    exact fL_law_j1579_ok hj hfl X B0 hs hK hk23 _ _ hf
  · replace hf := (if_neg hc).symm.trans hf
    refine z_icmp_eq_f B 54 rfl 1579 (by decide) hc ?_
    refine z_iconst 0 B 55 rfl (by decide) ?_
    exact absurd (Option.some.inj hf) (by decide)
def fL_law_j269 (L : Nat) (xs : Nat → Int32) (k23 : Int32 → Mem → Option Int32) (x4 : Int32) (mm : Mem) : Option Int32 := rsc L (x4 + (1 : Int32)) (nm (xs (x4 + (1 : Int32)).toNatClampNeg) (fun v15 => bd (f6_end mm v15) (fun r16 => rsc L (x4 + (1 : Int32)) (nm (xs (x4 + (1 : Int32)).toNatClampNeg) (fun v17 => bd (f7_end r16.2 v17) (fun r18 => if r16.1 = r18.1 then fL_law_j1579 L xs k23 x4 r18.2 else some (0 : Int32)))))))
def tbfL_law_j269 : Tb := [(269, .aload_n 1, 1, 270), (270, .aload_n 0, 1, 271), (271, .iload 4, 2, 273), (273, .iconst 1, 1, 274), (274, .iadd, 1, 275), (275, .iaload, 1, 276), (276, .invokevirtual 27, 3, 279), (279, .aload_n 2, 1, 280), (280, .aload_n 0, 1, 281), (281, .iload 4, 2, 283), (283, .iconst 1, 1, 284), (284, .iadd, 1, 285), (285, .iaload, 1, 286), (286, .invokevirtual 31, 3, 289), (289, .if_icmp .eq 1290, 3, 292), (292, .iconst 0, 1, 293), (293, .ireturn, 1, 294)]
theorem dtfL_law_j269 : ∀ q ∈ tbfL_law_j269, decode code q.1 = .ok (q.2.1, q.2.2.1) ∧ q.1 + q.2.2.1 = q.2.2.2 := by decide +kernel
theorem fL_law_j269_ok {E : Ev} {l : Launch} {C : Cfg} {L : Nat} {xs : Nat → Int32} {k23 : Int32 → Mem → Option Int32} {kN nN : Nat} (hj : Dj C) (hfl : l.stackTraces = false) (X : Ec E l C room_1) (B0 : BL E) (hs : Sc E L xs) (hK : kle E kN nN) (hk23 : ∀ (x4 : Int32) (mm : Mem), k23 x4 mm = some 1 → G (setk E kN nN) 7 23 [(0, .ref 5000), (1, .ref 14), (2, .ref 0), (3, .ref 133), (4, .int x4)] [] mm) (hK1 : kle1 E kN nN) (x4 : Int32) (mm : Mem) (hf : fL_law_j269 L xs k23 x4 mm = some 1) : G E 7 269 [(0, .ref 5000), (1, .ref 14), (2, .ref 0), (3, .ref 133), (4, .int x4)] [] mm := by
  have B := B0.to dtfL_law_j269
  unfold fL_law_j269 at hf
  refine z_aload_n B 0 rfl 1 1 rfl rfl ?_
  refine z_aload_n B 1 rfl 0 0 rfl rfl ?_
  refine z_iload B 2 rfl 4 rfl ?_
  refine z_iconst 1 B 3 rfl (by decide) ?_
  refine z_iadd B 4 rfl ?_
  obtain ⟨hx, hf⟩ := rsc_e hf
  refine z_sld hs B 5 rfl hx ?_
  obtain ⟨v15, ex, hf⟩ := nm_x hf
  refine z_top ex ?_
  obtain ⟨r16, ec, hf⟩ := bd_e hf
  refine z_callV 14 6 [.int v15] [] [.int r16.1] X B 6 rfl ob_14 rfl rfl miX6_end ⟨(iL_law _ (List.mem_of_getElem? (i := 6) rfl)), (iL_law _ (List.mem_of_getElem? (i := 7) rfl)), (iL_law _ (List.mem_of_getElem? (i := 8) rfl))⟩ (ctX6_end hj ec) ⟨Nat.le_of_ble_eq_true rfl, Nat.le_of_ble_eq_true rfl⟩ rfl rfl (Nat.le_of_ble_eq_true rfl) rfl ?_
  refine z_aload_n B 7 rfl 2 2 rfl rfl ?_
  refine z_aload_n B 8 rfl 0 0 rfl rfl ?_
  refine z_iload B 9 rfl 4 rfl ?_
  refine z_iconst 1 B 10 rfl (by decide) ?_
  refine z_iadd B 11 rfl ?_
  obtain ⟨hx, hf⟩ := rsc_e hf
  refine z_sld hs B 12 rfl hx ?_
  obtain ⟨v17, ex, hf⟩ := nm_x hf
  refine z_top ex ?_
  obtain ⟨r18, ec, hf⟩ := bd_e hf
  refine z_callV 0 7 [.int v17] [.int r16.1] [.int r18.1, .int r16.1] X B 13 rfl ob_0 rfl rfl miX7_end ⟨(iL_law _ (List.mem_of_getElem? (i := 9) rfl)), (iL_law _ (List.mem_of_getElem? (i := 10) rfl)), (iL_law _ (List.mem_of_getElem? (i := 11) rfl))⟩ (ctX7_end hj ec) ⟨Nat.le_of_ble_eq_true rfl, Nat.le_of_ble_eq_true rfl⟩ rfl rfl (Nat.le_of_ble_eq_true rfl) rfl ?_
  by_cases hc : r16.1 = r18.1
  · replace hf := (if_pos hc).symm.trans hf
    refine z_icmp_eq_t B 14 rfl 1579 (by decide) hc ?_
    exact fL_law_j1579_ok hj hfl X B0 hs hK hk23 _ _ hf
  · replace hf := (if_neg hc).symm.trans hf
    refine z_icmp_eq_f B 14 rfl 1579 (by decide) hc ?_
    refine z_iconst 0 B 15 rfl (by decide) ?_
    exact absurd (Option.some.inj hf) (by decide)
def fL_law_j294 (L : Nat) (xs : Nat → Int32) (k23 : Int32 → Mem → Option Int32) (x4 : Int32) (mm : Mem) : Option Int32 := bd (f6_tell mm) (fun r19 => bd (f7_tell r19.2) (fun r20 => if r19.1 = r20.1 then fL_law_j1579 L xs k23 x4 r20.2 else some (0 : Int32)))
def tbfL_law_j294 : Tb := [(294, .aload_n 1, 1, 295), (295, .invokevirtual 32, 3, 298), (298, .aload_n 2, 1, 299), (299, .invokevirtual 36, 3, 302), (302, .if_icmp .eq 1277, 3, 305), (305, .iconst 0, 1, 306), (306, .ireturn, 1, 307)]
theorem dtfL_law_j294 : ∀ q ∈ tbfL_law_j294, decode code q.1 = .ok (q.2.1, q.2.2.1) ∧ q.1 + q.2.2.1 = q.2.2.2 := by decide +kernel
theorem fL_law_j294_ok {E : Ev} {l : Launch} {C : Cfg} {L : Nat} {xs : Nat → Int32} {k23 : Int32 → Mem → Option Int32} {kN nN : Nat} (hj : Dj C) (hfl : l.stackTraces = false) (X : Ec E l C room_1) (B0 : BL E) (hs : Sc E L xs) (hK : kle E kN nN) (hk23 : ∀ (x4 : Int32) (mm : Mem), k23 x4 mm = some 1 → G (setk E kN nN) 7 23 [(0, .ref 5000), (1, .ref 14), (2, .ref 0), (3, .ref 133), (4, .int x4)] [] mm) (hK1 : kle1 E kN nN) (x4 : Int32) (mm : Mem) (hf : fL_law_j294 L xs k23 x4 mm = some 1) : G E 7 294 [(0, .ref 5000), (1, .ref 14), (2, .ref 0), (3, .ref 133), (4, .int x4)] [] mm := by
  have B := B0.to dtfL_law_j294
  unfold fL_law_j294 at hf
  refine z_aload_n B 0 rfl 1 1 rfl rfl ?_
  obtain ⟨r19, ec, hf⟩ := bd_e hf
  refine z_callV 14 6 [] [] [.int r19.1] X B 1 rfl ob_14 rfl rfl miX6_tell ⟨(iL_law _ (List.mem_of_getElem? (i := 12) rfl)), (iL_law _ (List.mem_of_getElem? (i := 13) rfl)), (iL_law _ (List.mem_of_getElem? (i := 14) rfl))⟩ (ctX6_tell hj ec) ⟨Nat.le_of_ble_eq_true rfl, Nat.le_of_ble_eq_true rfl⟩ rfl rfl (Nat.le_of_ble_eq_true rfl) rfl ?_
  refine z_aload_n B 2 rfl 2 2 rfl rfl ?_
  obtain ⟨r20, ec, hf⟩ := bd_e hf
  refine z_callV 0 7 [] [.int r19.1] [.int r20.1, .int r19.1] X B 3 rfl ob_0 rfl rfl miX7_tell ⟨(iL_law _ (List.mem_of_getElem? (i := 15) rfl)), (iL_law _ (List.mem_of_getElem? (i := 16) rfl)), (iL_law _ (List.mem_of_getElem? (i := 17) rfl))⟩ (ctX7_tell hj ec) ⟨Nat.le_of_ble_eq_true rfl, Nat.le_of_ble_eq_true rfl⟩ rfl rfl (Nat.le_of_ble_eq_true rfl) rfl ?_
  by_cases hc : r19.1 = r20.1
  · replace hf := (if_pos hc).symm.trans hf
    refine z_icmp_eq_t B 4 rfl 1579 (by decide) hc ?_
    exact fL_law_j1579_ok hj hfl X B0 hs hK hk23 _ _ hf
  · replace hf := (if_neg hc).symm.trans hf
    refine z_icmp_eq_f B 4 rfl 1579 (by decide) hc ?_
    refine z_iconst 0 B 5 rfl (by decide) ?_
    exact absurd (Option.some.inj hf) (by decide)
def fL_law_j307 (L : Nat) (xs : Nat → Int32) (k23 : Int32 → Mem → Option Int32) (x4 : Int32) (mm : Mem) : Option Int32 := bd (f6_fault mm) (fun r21 => bd (f7_fault mm) (fun r22 => if r21 = r22.1 then fL_law_j1579 L xs k23 x4 r22.2 else some (0 : Int32)))
def tbfL_law_j307 : Tb := [(307, .aload_n 1, 1, 308), (308, .invokevirtual 37, 3, 311), (311, .aload_n 2, 1, 312), (312, .invokevirtual 40, 3, 315), (315, .if_icmp .eq 1264, 3, 318), (318, .iconst 0, 1, 319), (319, .ireturn, 1, 320)]
theorem dtfL_law_j307 : ∀ q ∈ tbfL_law_j307, decode code q.1 = .ok (q.2.1, q.2.2.1) ∧ q.1 + q.2.2.1 = q.2.2.2 := by decide +kernel
theorem fL_law_j307_ok {E : Ev} {l : Launch} {C : Cfg} {L : Nat} {xs : Nat → Int32} {k23 : Int32 → Mem → Option Int32} {kN nN : Nat} (hj : Dj C) (hfl : l.stackTraces = false) (X : Ec E l C room_1) (B0 : BL E) (hs : Sc E L xs) (hK : kle E kN nN) (hk23 : ∀ (x4 : Int32) (mm : Mem), k23 x4 mm = some 1 → G (setk E kN nN) 7 23 [(0, .ref 5000), (1, .ref 14), (2, .ref 0), (3, .ref 133), (4, .int x4)] [] mm) (hK1 : kle1 E kN nN) (x4 : Int32) (mm : Mem) (hf : fL_law_j307 L xs k23 x4 mm = some 1) : G E 7 307 [(0, .ref 5000), (1, .ref 14), (2, .ref 0), (3, .ref 133), (4, .int x4)] [] mm := by
  have B := B0.to dtfL_law_j307
  unfold fL_law_j307 at hf
  refine z_aload_n B 0 rfl 1 1 rfl rfl ?_
  obtain ⟨r21, ec, hf⟩ := bd_e hf
  refine z_callV 14 6 [] [] [.int r21] X B 1 rfl ob_14 rfl rfl miX6_fault ⟨(iL_law _ (List.mem_of_getElem? (i := 18) rfl)), (iL_law _ (List.mem_of_getElem? (i := 19) rfl)), (iL_law _ (List.mem_of_getElem? (i := 20) rfl))⟩ (ctX6_fault hj ec) ⟨Nat.le_of_ble_eq_true rfl, Nat.le_of_ble_eq_true rfl⟩ rfl rfl (Nat.le_of_ble_eq_true rfl) rfl ?_
  refine z_aload_n B 2 rfl 2 2 rfl rfl ?_
  obtain ⟨r22, ec, hf⟩ := bd_e hf
  refine z_callV 0 7 [] [.int r21] [.int r22.1, .int r21] X B 3 rfl ob_0 rfl rfl miX7_fault ⟨(iL_law _ (List.mem_of_getElem? (i := 21) rfl)), (iL_law _ (List.mem_of_getElem? (i := 22) rfl)), (iL_law _ (List.mem_of_getElem? (i := 23) rfl))⟩ (ctX7_fault hj ec) ⟨Nat.le_of_ble_eq_true rfl, Nat.le_of_ble_eq_true rfl⟩ rfl rfl (Nat.le_of_ble_eq_true rfl) rfl ?_
  by_cases hc : r21 = r22.1
  · replace hf := (if_pos hc).symm.trans hf
    refine z_icmp_eq_t B 4 rfl 1579 (by decide) hc ?_
    exact fL_law_j1579_ok hj hfl X B0 hs hK hk23 _ _ hf
  · replace hf := (if_neg hc).symm.trans hf
    refine z_icmp_eq_f B 4 rfl 1579 (by decide) hc ?_
    refine z_iconst 0 B 5 rfl (by decide) ?_
    exact absurd (Option.some.inj hf) (by decide)
def fL_law_j320 (L : Nat) (xs : Nat → Int32) (k23 : Int32 → Mem → Option Int32) (x4 : Int32) (mm : Mem) : Option Int32 := rsc L (x4 + (1 : Int32)) (nm (xs (x4 + (1 : Int32)).toNatClampNeg) (fun v23 => rsc L (x4 + (2 : Int32)) (nm (xs (x4 + (2 : Int32)).toNatClampNeg) (fun v24 => rsc L (x4 + (3 : Int32)) (nm (xs (x4 + (3 : Int32)).toNatClampNeg) (fun v25 => bd (f6_zone mm v23 v24 v25) (fun r26 => rsc L (x4 + (1 : Int32)) (nm (xs (x4 + (1 : Int32)).toNatClampNeg) (fun v27 => rsc L (x4 + (2 : Int32)) (nm (xs (x4 + (2 : Int32)).toNatClampNeg) (fun v28 => rsc L (x4 + (3 : Int32)) (nm (xs (x4 + (3 : Int32)).toNatClampNeg) (fun v29 => bd (f7_zone r26.2 v27 v28 v29) (fun r30 => if r26.1 = r30.1 then fL_law_j1579 L xs k23 x4 r30.2 else some (0 : Int32)))))))))))))))
def tbfL_law_j320 : Tb := [(320, .aload_n 1, 1, 321), (321, .aload_n 0, 1, 322), (322, .iload 4, 2, 324), (324, .iconst 1, 1, 325), (325, .iadd, 1, 326), (326, .iaload, 1, 327), (327, .aload_n 0, 1, 328), (328, .iload 4, 2, 330), (330, .iconst 2, 1, 331), (331, .iadd, 1, 332), (332, .iaload, 1, 333), (333, .aload_n 0, 1, 334), (334, .iload 4, 2, 336), (336, .iconst 3, 1, 337), (337, .iadd, 1, 338), (338, .iaload, 1, 339), (339, .invokevirtual 41, 3, 342), (342, .aload_n 2, 1, 343), (343, .aload_n 0, 1, 344), (344, .iload 4, 2, 346), (346, .iconst 1, 1, 347), (347, .iadd, 1, 348), (348, .iaload, 1, 349), (349, .aload_n 0, 1, 350), (350, .iload 4, 2, 352), (352, .iconst 2, 1, 353), (353, .iadd, 1, 354), (354, .iaload, 1, 355), (355, .aload_n 0, 1, 356), (356, .iload 4, 2, 358), (358, .iconst 3, 1, 359), (359, .iadd, 1, 360), (360, .iaload, 1, 361), (361, .invokevirtual 45, 3, 364), (364, .if_icmp .eq 1215, 3, 367), (367, .iconst 0, 1, 368), (368, .ireturn, 1, 369)]
theorem dtfL_law_j320 : ∀ q ∈ tbfL_law_j320, decode code q.1 = .ok (q.2.1, q.2.2.1) ∧ q.1 + q.2.2.1 = q.2.2.2 := by decide +kernel
theorem fL_law_j320_ok {E : Ev} {l : Launch} {C : Cfg} {L : Nat} {xs : Nat → Int32} {k23 : Int32 → Mem → Option Int32} {kN nN : Nat} (hj : Dj C) (hfl : l.stackTraces = false) (X : Ec E l C room_1) (B0 : BL E) (hs : Sc E L xs) (hK : kle E kN nN) (hk23 : ∀ (x4 : Int32) (mm : Mem), k23 x4 mm = some 1 → G (setk E kN nN) 7 23 [(0, .ref 5000), (1, .ref 14), (2, .ref 0), (3, .ref 133), (4, .int x4)] [] mm) (hK1 : kle1 E kN nN) (x4 : Int32) (mm : Mem) (hf : fL_law_j320 L xs k23 x4 mm = some 1) : G E 7 320 [(0, .ref 5000), (1, .ref 14), (2, .ref 0), (3, .ref 133), (4, .int x4)] [] mm := by
  have B := B0.to dtfL_law_j320
  unfold fL_law_j320 at hf
  refine z_aload_n B 0 rfl 1 1 rfl rfl ?_
  refine z_aload_n B 1 rfl 0 0 rfl rfl ?_
  refine z_iload B 2 rfl 4 rfl ?_
  refine z_iconst 1 B 3 rfl (by decide) ?_
  refine z_iadd B 4 rfl ?_
  obtain ⟨hx, hf⟩ := rsc_e hf
  refine z_sld hs B 5 rfl hx ?_
  obtain ⟨v23, ex, hf⟩ := nm_x hf
  refine z_top ex ?_
  refine z_aload_n B 6 rfl 0 0 rfl rfl ?_
  refine z_iload B 7 rfl 4 rfl ?_
  refine z_iconst 2 B 8 rfl (by decide) ?_
  refine z_iadd B 9 rfl ?_
  obtain ⟨hx, hf⟩ := rsc_e hf
  refine z_sld hs B 10 rfl hx ?_
  obtain ⟨v24, ex, hf⟩ := nm_x hf
  refine z_top ex ?_
  refine z_aload_n B 11 rfl 0 0 rfl rfl ?_
  refine z_iload B 12 rfl 4 rfl ?_
  refine z_iconst 3 B 13 rfl (by decide) ?_
  refine z_iadd B 14 rfl ?_
  obtain ⟨hx, hf⟩ := rsc_e hf
  refine z_sld hs B 15 rfl hx ?_
  obtain ⟨v25, ex, hf⟩ := nm_x hf
  refine z_top ex ?_
  obtain ⟨r26, ec, hf⟩ := bd_e hf
  refine z_callV 14 6 [.int v23, .int v24, .int v25] [] [.int r26.1] X B 16 rfl ob_14 rfl rfl miX6_zone ⟨(iL_law _ (List.mem_of_getElem? (i := 24) rfl)), (iL_law _ (List.mem_of_getElem? (i := 25) rfl)), (iL_law _ (List.mem_of_getElem? (i := 26) rfl))⟩ (ctX6_zone hj ec) ⟨Nat.le_of_ble_eq_true rfl, Nat.le_of_ble_eq_true rfl⟩ rfl rfl (Nat.le_of_ble_eq_true rfl) rfl ?_
  refine z_aload_n B 17 rfl 2 2 rfl rfl ?_
  refine z_aload_n B 18 rfl 0 0 rfl rfl ?_
  refine z_iload B 19 rfl 4 rfl ?_
  refine z_iconst 1 B 20 rfl (by decide) ?_
  refine z_iadd B 21 rfl ?_
  obtain ⟨hx, hf⟩ := rsc_e hf
  refine z_sld hs B 22 rfl hx ?_
  obtain ⟨v27, ex, hf⟩ := nm_x hf
  refine z_top ex ?_
  refine z_aload_n B 23 rfl 0 0 rfl rfl ?_
  refine z_iload B 24 rfl 4 rfl ?_
  refine z_iconst 2 B 25 rfl (by decide) ?_
  refine z_iadd B 26 rfl ?_
  obtain ⟨hx, hf⟩ := rsc_e hf
  refine z_sld hs B 27 rfl hx ?_
  obtain ⟨v28, ex, hf⟩ := nm_x hf
  refine z_top ex ?_
  refine z_aload_n B 28 rfl 0 0 rfl rfl ?_
  refine z_iload B 29 rfl 4 rfl ?_
  refine z_iconst 3 B 30 rfl (by decide) ?_
  refine z_iadd B 31 rfl ?_
  obtain ⟨hx, hf⟩ := rsc_e hf
  refine z_sld hs B 32 rfl hx ?_
  obtain ⟨v29, ex, hf⟩ := nm_x hf
  refine z_top ex ?_
  obtain ⟨r30, ec, hf⟩ := bd_e hf
  refine z_callV 0 7 [.int v27, .int v28, .int v29] [.int r26.1] [.int r30.1, .int r26.1] X B 33 rfl ob_0 rfl rfl miX7_zone ⟨(iL_law _ (List.mem_of_getElem? (i := 27) rfl)), (iL_law _ (List.mem_of_getElem? (i := 28) rfl)), (iL_law _ (List.mem_of_getElem? (i := 29) rfl))⟩ (ctX7_zone hj ec) ⟨Nat.le_of_ble_eq_true rfl, Nat.le_of_ble_eq_true rfl⟩ rfl rfl (Nat.le_of_ble_eq_true rfl) rfl ?_
  by_cases hc : r26.1 = r30.1
  · replace hf := (if_pos hc).symm.trans hf
    refine z_icmp_eq_t B 34 rfl 1579 (by decide) hc ?_
    exact fL_law_j1579_ok hj hfl X B0 hs hK hk23 _ _ hf
  · replace hf := (if_neg hc).symm.trans hf
    refine z_icmp_eq_f B 34 rfl 1579 (by decide) hc ?_
    refine z_iconst 0 B 35 rfl (by decide) ?_
    exact absurd (Option.some.inj hf) (by decide)
def fL_law_j369 (L : Nat) (xs : Nat → Int32) (k23 : Int32 → Mem → Option Int32) (x4 : Int32) (mm : Mem) : Option Int32 := rsc L (x4 + (1 : Int32)) (nm (xs (x4 + (1 : Int32)).toNatClampNeg) (fun v31 => rsc L (x4 + (2 : Int32)) (nm (xs (x4 + (2 : Int32)).toNatClampNeg) (fun v32 => rsc L (x4 + (3 : Int32)) (nm (xs (x4 + (3 : Int32)).toNatClampNeg) (fun v33 => bd (f6_point mm v31 v32 v33) (fun r34 => rsc L (x4 + (1 : Int32)) (nm (xs (x4 + (1 : Int32)).toNatClampNeg) (fun v35 => rsc L (x4 + (2 : Int32)) (nm (xs (x4 + (2 : Int32)).toNatClampNeg) (fun v36 => rsc L (x4 + (3 : Int32)) (nm (xs (x4 + (3 : Int32)).toNatClampNeg) (fun v37 => bd (f7_point r34.2 v35 v36 v37) (fun r38 => if r34.1 = r38.1 then fL_law_j1579 L xs k23 x4 r38.2 else some (0 : Int32)))))))))))))))
def tbfL_law_j369 : Tb := [(369, .aload_n 1, 1, 370), (370, .aload_n 0, 1, 371), (371, .iload 4, 2, 373), (373, .iconst 1, 1, 374), (374, .iadd, 1, 375), (375, .iaload, 1, 376), (376, .aload_n 0, 1, 377), (377, .iload 4, 2, 379), (379, .iconst 2, 1, 380), (380, .iadd, 1, 381), (381, .iaload, 1, 382), (382, .aload_n 0, 1, 383), (383, .iload 4, 2, 385), (385, .iconst 3, 1, 386), (386, .iadd, 1, 387), (387, .iaload, 1, 388), (388, .invokevirtual 46, 3, 391), (391, .aload_n 2, 1, 392), (392, .aload_n 0, 1, 393), (393, .iload 4, 2, 395), (395, .iconst 1, 1, 396), (396, .iadd, 1, 397), (397, .iaload, 1, 398), (398, .aload_n 0, 1, 399), (399, .iload 4, 2, 401), (401, .iconst 2, 1, 402), (402, .iadd, 1, 403), (403, .iaload, 1, 404), (404, .aload_n 0, 1, 405), (405, .iload 4, 2, 407), (407, .iconst 3, 1, 408), (408, .iadd, 1, 409), (409, .iaload, 1, 410), (410, .invokevirtual 49, 3, 413), (413, .if_icmp .eq 1166, 3, 416), (416, .iconst 0, 1, 417), (417, .ireturn, 1, 418)]
theorem dtfL_law_j369 : ∀ q ∈ tbfL_law_j369, decode code q.1 = .ok (q.2.1, q.2.2.1) ∧ q.1 + q.2.2.1 = q.2.2.2 := by decide +kernel
theorem fL_law_j369_ok {E : Ev} {l : Launch} {C : Cfg} {L : Nat} {xs : Nat → Int32} {k23 : Int32 → Mem → Option Int32} {kN nN : Nat} (hj : Dj C) (hfl : l.stackTraces = false) (X : Ec E l C room_1) (B0 : BL E) (hs : Sc E L xs) (hK : kle E kN nN) (hk23 : ∀ (x4 : Int32) (mm : Mem), k23 x4 mm = some 1 → G (setk E kN nN) 7 23 [(0, .ref 5000), (1, .ref 14), (2, .ref 0), (3, .ref 133), (4, .int x4)] [] mm) (hK1 : kle1 E kN nN) (x4 : Int32) (mm : Mem) (hf : fL_law_j369 L xs k23 x4 mm = some 1) : G E 7 369 [(0, .ref 5000), (1, .ref 14), (2, .ref 0), (3, .ref 133), (4, .int x4)] [] mm := by
  have B := B0.to dtfL_law_j369
  unfold fL_law_j369 at hf
  refine z_aload_n B 0 rfl 1 1 rfl rfl ?_
  refine z_aload_n B 1 rfl 0 0 rfl rfl ?_
  refine z_iload B 2 rfl 4 rfl ?_
  refine z_iconst 1 B 3 rfl (by decide) ?_
  refine z_iadd B 4 rfl ?_
  obtain ⟨hx, hf⟩ := rsc_e hf
  refine z_sld hs B 5 rfl hx ?_
  obtain ⟨v31, ex, hf⟩ := nm_x hf
  refine z_top ex ?_
  refine z_aload_n B 6 rfl 0 0 rfl rfl ?_
  refine z_iload B 7 rfl 4 rfl ?_
  refine z_iconst 2 B 8 rfl (by decide) ?_
  refine z_iadd B 9 rfl ?_
  obtain ⟨hx, hf⟩ := rsc_e hf
  refine z_sld hs B 10 rfl hx ?_
  obtain ⟨v32, ex, hf⟩ := nm_x hf
  refine z_top ex ?_
  refine z_aload_n B 11 rfl 0 0 rfl rfl ?_
  refine z_iload B 12 rfl 4 rfl ?_
  refine z_iconst 3 B 13 rfl (by decide) ?_
  refine z_iadd B 14 rfl ?_
  obtain ⟨hx, hf⟩ := rsc_e hf
  refine z_sld hs B 15 rfl hx ?_
  obtain ⟨v33, ex, hf⟩ := nm_x hf
  refine z_top ex ?_
  obtain ⟨r34, ec, hf⟩ := bd_e hf
  refine z_callV 14 6 [.int v31, .int v32, .int v33] [] [.int r34.1] X B 16 rfl ob_14 rfl rfl miX6_point ⟨(iL_law _ (List.mem_of_getElem? (i := 30) rfl)), (iL_law _ (List.mem_of_getElem? (i := 31) rfl)), (iL_law _ (List.mem_of_getElem? (i := 32) rfl))⟩ (ctX6_point hj ec) ⟨Nat.le_of_ble_eq_true rfl, Nat.le_of_ble_eq_true rfl⟩ rfl rfl (Nat.le_of_ble_eq_true rfl) rfl ?_
  refine z_aload_n B 17 rfl 2 2 rfl rfl ?_
  refine z_aload_n B 18 rfl 0 0 rfl rfl ?_
  refine z_iload B 19 rfl 4 rfl ?_
  refine z_iconst 1 B 20 rfl (by decide) ?_
  refine z_iadd B 21 rfl ?_
  obtain ⟨hx, hf⟩ := rsc_e hf
  refine z_sld hs B 22 rfl hx ?_
  obtain ⟨v35, ex, hf⟩ := nm_x hf
  refine z_top ex ?_
  refine z_aload_n B 23 rfl 0 0 rfl rfl ?_
  refine z_iload B 24 rfl 4 rfl ?_
  refine z_iconst 2 B 25 rfl (by decide) ?_
  refine z_iadd B 26 rfl ?_
  obtain ⟨hx, hf⟩ := rsc_e hf
  refine z_sld hs B 27 rfl hx ?_
  obtain ⟨v36, ex, hf⟩ := nm_x hf
  refine z_top ex ?_
  refine z_aload_n B 28 rfl 0 0 rfl rfl ?_
  refine z_iload B 29 rfl 4 rfl ?_
  refine z_iconst 3 B 30 rfl (by decide) ?_
  refine z_iadd B 31 rfl ?_
  obtain ⟨hx, hf⟩ := rsc_e hf
  refine z_sld hs B 32 rfl hx ?_
  obtain ⟨v37, ex, hf⟩ := nm_x hf
  refine z_top ex ?_
  obtain ⟨r38, ec, hf⟩ := bd_e hf
  refine z_callV 0 7 [.int v35, .int v36, .int v37] [.int r34.1] [.int r38.1, .int r34.1] X B 33 rfl ob_0 rfl rfl miX7_point ⟨(iL_law _ (List.mem_of_getElem? (i := 33) rfl)), (iL_law _ (List.mem_of_getElem? (i := 34) rfl)), (iL_law _ (List.mem_of_getElem? (i := 35) rfl))⟩ (ctX7_point hj ec) ⟨Nat.le_of_ble_eq_true rfl, Nat.le_of_ble_eq_true rfl⟩ rfl rfl (Nat.le_of_ble_eq_true rfl) rfl ?_
  by_cases hc : r34.1 = r38.1
  · replace hf := (if_pos hc).symm.trans hf
    refine z_icmp_eq_t B 34 rfl 1579 (by decide) hc ?_
    exact fL_law_j1579_ok hj hfl X B0 hs hK hk23 _ _ hf
  · replace hf := (if_neg hc).symm.trans hf
    refine z_icmp_eq_f B 34 rfl 1579 (by decide) hc ?_
    refine z_iconst 0 B 35 rfl (by decide) ?_
    exact absurd (Option.some.inj hf) (by decide)
def fL_law_j499 (L : Nat) (xs : Nat → Int32) (k23 : Int32 → Mem → Option Int32) (x4 : Int32) (s0 : Int32) (s1 : Int32) (s2 : Int32) (s3 : Int32) (s4 : Int32) (s6 : Int32) (mm : Mem) : Option Int32 := bd (f7_resource mm s4 s3 s2 s1 s0) (fun r50 => if s6 = r50.1 then fL_law_j1579 L xs k23 x4 r50.2 else some (0 : Int32))
def tbfL_law_j499 : Tb := [(499, .invokevirtual 54, 3, 502), (502, .if_icmp .eq 1077, 3, 505), (505, .iconst 0, 1, 506), (506, .ireturn, 1, 507)]
theorem dtfL_law_j499 : ∀ q ∈ tbfL_law_j499, decode code q.1 = .ok (q.2.1, q.2.2.1) ∧ q.1 + q.2.2.1 = q.2.2.2 := by decide +kernel
theorem fL_law_j499_ok {E : Ev} {l : Launch} {C : Cfg} {L : Nat} {xs : Nat → Int32} {k23 : Int32 → Mem → Option Int32} {kN nN : Nat} (hj : Dj C) (hfl : l.stackTraces = false) (X : Ec E l C room_1) (B0 : BL E) (hs : Sc E L xs) (hK : kle E kN nN) (hk23 : ∀ (x4 : Int32) (mm : Mem), k23 x4 mm = some 1 → G (setk E kN nN) 7 23 [(0, .ref 5000), (1, .ref 14), (2, .ref 0), (3, .ref 133), (4, .int x4)] [] mm) (x4 : Int32) (s0 : Int32) (s1 : Int32) (s2 : Int32) (s3 : Int32) (s4 : Int32) (s6 : Int32) (mm : Mem) (hf : fL_law_j499 L xs k23 x4 s0 s1 s2 s3 s4 s6 mm = some 1) : G E 7 499 [(0, .ref 5000), (1, .ref 14), (2, .ref 0), (3, .ref 133), (4, .int x4)] [.int s0, .int s1, .int s2, .int s3, .int s4, .ref 0, .int s6] mm := by
  have B := B0.to dtfL_law_j499
  unfold fL_law_j499 at hf
  obtain ⟨r50, ec, hf⟩ := bd_e hf
  refine z_callV 0 7 [.int s4, .int s3, .int s2, .int s1, .int s0] [.int s6] [.int r50.1, .int s6] X B 0 rfl ob_0 rfl rfl miX7_resource ⟨(iL_law _ (List.mem_of_getElem? (i := 39) rfl)), (iL_law _ (List.mem_of_getElem? (i := 40) rfl)), (iL_law _ (List.mem_of_getElem? (i := 41) rfl))⟩ (ctX7_resource hj ec) ⟨Nat.le_of_ble_eq_true rfl, Nat.le_of_ble_eq_true rfl⟩ rfl rfl (Nat.le_of_ble_eq_true rfl) rfl ?_
  by_cases hc : s6 = r50.1
  · replace hf := (if_pos hc).symm.trans hf
    refine z_icmp_eq_t B 1 rfl 1579 (by decide) hc ?_
    exact fL_law_j1579_ok hj hfl X B0 hs hK hk23 _ _ hf
  · replace hf := (if_neg hc).symm.trans hf
    refine z_icmp_eq_f B 1 rfl 1579 (by decide) hc ?_
    refine z_iconst 0 B 2 rfl (by decide) ?_
    exact absurd (Option.some.inj hf) (by decide)
def fL_law_j457 (L : Nat) (xs : Nat → Int32) (k23 : Int32 → Mem → Option Int32) (x4 : Int32) (s0 : Int32) (s1 : Int32) (s2 : Int32) (s3 : Int32) (s4 : Int32) (mm : Mem) : Option Int32 := bd (f6_resource mm s4 s3 s2 s1 s0) (fun r44 => rsc L (x4 + (1 : Int32)) (nm (xs (x4 + (1 : Int32)).toNatClampNeg) (fun v45 => rsc L (x4 + (2 : Int32)) (nm (xs (x4 + (2 : Int32)).toNatClampNeg) (fun v46 => rsc L (x4 + (3 : Int32)) (nm (xs (x4 + (3 : Int32)).toNatClampNeg) (fun v47 => rsc L (x4 + (4 : Int32)) (nm (xs (x4 + (4 : Int32)).toNatClampNeg) (fun v48 => rsc L (x4 + (5 : Int32)) (nm (xs (x4 + (5 : Int32)).toNatClampNeg) (fun v49 => if v49 = 0 then fL_law_j499 L xs k23 x4 (0 : Int32) v48 v47 v46 v45 r44.1 r44.2 else fL_law_j499 L xs k23 x4 (1 : Int32) v48 v47 v46 v45 r44.1 r44.2)))))))))))
def tbfL_law_j457 : Tb := [(457, .invokevirtual 50, 3, 460), (460, .aload_n 2, 1, 461), (461, .aload_n 0, 1, 462), (462, .iload 4, 2, 464), (464, .iconst 1, 1, 465), (465, .iadd, 1, 466), (466, .iaload, 1, 467), (467, .aload_n 0, 1, 468), (468, .iload 4, 2, 470), (470, .iconst 2, 1, 471), (471, .iadd, 1, 472), (472, .iaload, 1, 473), (473, .aload_n 0, 1, 474), (474, .iload 4, 2, 476), (476, .iconst 3, 1, 477), (477, .iadd, 1, 478), (478, .iaload, 1, 479), (479, .aload_n 0, 1, 480), (480, .iload 4, 2, 482), (482, .iconst 4, 1, 483), (483, .iadd, 1, 484), (484, .iaload, 1, 485), (485, .aload_n 0, 1, 486), (486, .iload 4, 2, 488), (488, .iconst 5, 1, 489), (489, .iadd, 1, 490), (490, .iaload, 1, 491), (491, .ifCond .eq 7, 3, 494), (498, .iconst 0, 1, 499), (494, .iconst 1, 1, 495), (495, .goto 4, 3, 498)]
theorem dtfL_law_j457 : ∀ q ∈ tbfL_law_j457, decode code q.1 = .ok (q.2.1, q.2.2.1) ∧ q.1 + q.2.2.1 = q.2.2.2 := by decide +kernel
theorem fL_law_j457_ok {E : Ev} {l : Launch} {C : Cfg} {L : Nat} {xs : Nat → Int32} {k23 : Int32 → Mem → Option Int32} {kN nN : Nat} (hj : Dj C) (hfl : l.stackTraces = false) (X : Ec E l C room_1) (B0 : BL E) (hs : Sc E L xs) (hK : kle E kN nN) (hk23 : ∀ (x4 : Int32) (mm : Mem), k23 x4 mm = some 1 → G (setk E kN nN) 7 23 [(0, .ref 5000), (1, .ref 14), (2, .ref 0), (3, .ref 133), (4, .int x4)] [] mm) (x4 : Int32) (s0 : Int32) (s1 : Int32) (s2 : Int32) (s3 : Int32) (s4 : Int32) (mm : Mem) (hf : fL_law_j457 L xs k23 x4 s0 s1 s2 s3 s4 mm = some 1) : G E 7 457 [(0, .ref 5000), (1, .ref 14), (2, .ref 0), (3, .ref 133), (4, .int x4)] [.int s0, .int s1, .int s2, .int s3, .int s4, .ref 14] mm := by
  have B := B0.to dtfL_law_j457
  unfold fL_law_j457 at hf
  obtain ⟨r44, ec, hf⟩ := bd_e hf
  refine z_callV 14 6 [.int s4, .int s3, .int s2, .int s1, .int s0] [] [.int r44.1] X B 0 rfl ob_14 rfl rfl miX6_resource ⟨(iL_law _ (List.mem_of_getElem? (i := 36) rfl)), (iL_law _ (List.mem_of_getElem? (i := 37) rfl)), (iL_law _ (List.mem_of_getElem? (i := 38) rfl))⟩ (ctX6_resource hj ec) ⟨Nat.le_of_ble_eq_true rfl, Nat.le_of_ble_eq_true rfl⟩ rfl rfl (Nat.le_of_ble_eq_true rfl) rfl ?_
  refine z_aload_n B 1 rfl 2 2 rfl rfl ?_
  refine z_aload_n B 2 rfl 0 0 rfl rfl ?_
  refine z_iload B 3 rfl 4 rfl ?_
  refine z_iconst 1 B 4 rfl (by decide) ?_
  refine z_iadd B 5 rfl ?_
  obtain ⟨hx, hf⟩ := rsc_e hf
  refine z_sld hs B 6 rfl hx ?_
  obtain ⟨v45, ex, hf⟩ := nm_x hf
  refine z_top ex ?_
  refine z_aload_n B 7 rfl 0 0 rfl rfl ?_
  refine z_iload B 8 rfl 4 rfl ?_
  refine z_iconst 2 B 9 rfl (by decide) ?_
  refine z_iadd B 10 rfl ?_
  obtain ⟨hx, hf⟩ := rsc_e hf
  refine z_sld hs B 11 rfl hx ?_
  obtain ⟨v46, ex, hf⟩ := nm_x hf
  refine z_top ex ?_
  refine z_aload_n B 12 rfl 0 0 rfl rfl ?_
  refine z_iload B 13 rfl 4 rfl ?_
  refine z_iconst 3 B 14 rfl (by decide) ?_
  refine z_iadd B 15 rfl ?_
  obtain ⟨hx, hf⟩ := rsc_e hf
  refine z_sld hs B 16 rfl hx ?_
  obtain ⟨v47, ex, hf⟩ := nm_x hf
  refine z_top ex ?_
  refine z_aload_n B 17 rfl 0 0 rfl rfl ?_
  refine z_iload B 18 rfl 4 rfl ?_
  refine z_iconst 4 B 19 rfl (by decide) ?_
  refine z_iadd B 20 rfl ?_
  obtain ⟨hx, hf⟩ := rsc_e hf
  refine z_sld hs B 21 rfl hx ?_
  obtain ⟨v48, ex, hf⟩ := nm_x hf
  refine z_top ex ?_
  refine z_aload_n B 22 rfl 0 0 rfl rfl ?_
  refine z_iload B 23 rfl 4 rfl ?_
  refine z_iconst 5 B 24 rfl (by decide) ?_
  refine z_iadd B 25 rfl ?_
  obtain ⟨hx, hf⟩ := rsc_e hf
  refine z_sld hs B 26 rfl hx ?_
  obtain ⟨v49, ex, hf⟩ := nm_x hf
  refine z_top ex ?_
  by_cases hc : v49 = 0
  · replace hf := (if_pos hc).symm.trans hf
    refine z_if_eq_t B 27 rfl 498 (by decide) hc ?_
    refine z_iconst 0 B 28 rfl (by decide) ?_
    exact fL_law_j499_ok hj hfl X B0 hs hK hk23 _ _ _ _ _ _ _ _ hf
  · replace hf := (if_neg hc).symm.trans hf
    refine z_if_eq_f B 27 rfl 498 (by decide) hc ?_
    refine z_iconst 1 B 29 rfl (by decide) ?_
    refine z_goto B 30 rfl 499 (by decide) ?_
    exact fL_law_j499_ok hj hfl X B0 hs hK hk23 _ _ _ _ _ _ _ _ hf
def fL_law_j418 (L : Nat) (xs : Nat → Int32) (k23 : Int32 → Mem → Option Int32) (x4 : Int32) (mm : Mem) : Option Int32 := rsc L (x4 + (1 : Int32)) (nm (xs (x4 + (1 : Int32)).toNatClampNeg) (fun v39 => rsc L (x4 + (2 : Int32)) (nm (xs (x4 + (2 : Int32)).toNatClampNeg) (fun v40 => rsc L (x4 + (3 : Int32)) (nm (xs (x4 + (3 : Int32)).toNatClampNeg) (fun v41 => rsc L (x4 + (4 : Int32)) (nm (xs (x4 + (4 : Int32)).toNatClampNeg) (fun v42 => rsc L (x4 + (5 : Int32)) (nm (xs (x4 + (5 : Int32)).toNatClampNeg) (fun v43 => if v43 = 0 then fL_law_j457 L xs k23 x4 (0 : Int32) v42 v41 v40 v39 mm else fL_law_j457 L xs k23 x4 (1 : Int32) v42 v41 v40 v39 mm))))))))))
def tbfL_law_j418 : Tb := [(418, .aload_n 1, 1, 419), (419, .aload_n 0, 1, 420), (420, .iload 4, 2, 422), (422, .iconst 1, 1, 423), (423, .iadd, 1, 424), (424, .iaload, 1, 425), (425, .aload_n 0, 1, 426), (426, .iload 4, 2, 428), (428, .iconst 2, 1, 429), (429, .iadd, 1, 430), (430, .iaload, 1, 431), (431, .aload_n 0, 1, 432), (432, .iload 4, 2, 434), (434, .iconst 3, 1, 435), (435, .iadd, 1, 436), (436, .iaload, 1, 437), (437, .aload_n 0, 1, 438), (438, .iload 4, 2, 440), (440, .iconst 4, 1, 441), (441, .iadd, 1, 442), (442, .iaload, 1, 443), (443, .aload_n 0, 1, 444), (444, .iload 4, 2, 446), (446, .iconst 5, 1, 447), (447, .iadd, 1, 448), (448, .iaload, 1, 449), (449, .ifCond .eq 7, 3, 452), (456, .iconst 0, 1, 457), (452, .iconst 1, 1, 453), (453, .goto 4, 3, 456)]
theorem dtfL_law_j418 : ∀ q ∈ tbfL_law_j418, decode code q.1 = .ok (q.2.1, q.2.2.1) ∧ q.1 + q.2.2.1 = q.2.2.2 := by decide +kernel
theorem fL_law_j418_ok {E : Ev} {l : Launch} {C : Cfg} {L : Nat} {xs : Nat → Int32} {k23 : Int32 → Mem → Option Int32} {kN nN : Nat} (hj : Dj C) (hfl : l.stackTraces = false) (X : Ec E l C room_1) (B0 : BL E) (hs : Sc E L xs) (hK : kle E kN nN) (hk23 : ∀ (x4 : Int32) (mm : Mem), k23 x4 mm = some 1 → G (setk E kN nN) 7 23 [(0, .ref 5000), (1, .ref 14), (2, .ref 0), (3, .ref 133), (4, .int x4)] [] mm) (hK1 : kle1 E kN nN) (x4 : Int32) (mm : Mem) (hf : fL_law_j418 L xs k23 x4 mm = some 1) : G E 7 418 [(0, .ref 5000), (1, .ref 14), (2, .ref 0), (3, .ref 133), (4, .int x4)] [] mm := by
  have B := B0.to dtfL_law_j418
  unfold fL_law_j418 at hf
  refine z_aload_n B 0 rfl 1 1 rfl rfl ?_
  refine z_aload_n B 1 rfl 0 0 rfl rfl ?_
  refine z_iload B 2 rfl 4 rfl ?_
  refine z_iconst 1 B 3 rfl (by decide) ?_
  refine z_iadd B 4 rfl ?_
  obtain ⟨hx, hf⟩ := rsc_e hf
  refine z_sld hs B 5 rfl hx ?_
  obtain ⟨v39, ex, hf⟩ := nm_x hf
  refine z_top ex ?_
  refine z_aload_n B 6 rfl 0 0 rfl rfl ?_
  refine z_iload B 7 rfl 4 rfl ?_
  refine z_iconst 2 B 8 rfl (by decide) ?_
  refine z_iadd B 9 rfl ?_
  obtain ⟨hx, hf⟩ := rsc_e hf
  refine z_sld hs B 10 rfl hx ?_
  obtain ⟨v40, ex, hf⟩ := nm_x hf
  refine z_top ex ?_
  refine z_aload_n B 11 rfl 0 0 rfl rfl ?_
  refine z_iload B 12 rfl 4 rfl ?_
  refine z_iconst 3 B 13 rfl (by decide) ?_
  refine z_iadd B 14 rfl ?_
  obtain ⟨hx, hf⟩ := rsc_e hf
  refine z_sld hs B 15 rfl hx ?_
  obtain ⟨v41, ex, hf⟩ := nm_x hf
  refine z_top ex ?_
  refine z_aload_n B 16 rfl 0 0 rfl rfl ?_
  refine z_iload B 17 rfl 4 rfl ?_
  refine z_iconst 4 B 18 rfl (by decide) ?_
  refine z_iadd B 19 rfl ?_
  obtain ⟨hx, hf⟩ := rsc_e hf
  refine z_sld hs B 20 rfl hx ?_
  obtain ⟨v42, ex, hf⟩ := nm_x hf
  refine z_top ex ?_
  refine z_aload_n B 21 rfl 0 0 rfl rfl ?_
  refine z_iload B 22 rfl 4 rfl ?_
  refine z_iconst 5 B 23 rfl (by decide) ?_
  refine z_iadd B 24 rfl ?_
  obtain ⟨hx, hf⟩ := rsc_e hf
  refine z_sld hs B 25 rfl hx ?_
  obtain ⟨v43, ex, hf⟩ := nm_x hf
  refine z_top ex ?_
  by_cases hc : v43 = 0
  · replace hf := (if_pos hc).symm.trans hf
    refine z_if_eq_t B 26 rfl 456 (by decide) hc ?_
    refine z_iconst 0 B 27 rfl (by decide) ?_
    exact fL_law_j457_ok hj hfl X B0 hs hK hk23 _ _ _ _ _ _ _ hf
  · replace hf := (if_neg hc).symm.trans hf
    refine z_if_eq_f B 26 rfl 456 (by decide) hc ?_
    refine z_iconst 1 B 28 rfl (by decide) ?_
    refine z_goto B 29 rfl 457 (by decide) ?_
    exact fL_law_j457_ok hj hfl X B0 hs hK hk23 _ _ _ _ _ _ _ hf
def fL_law_j507 (L : Nat) (xs : Nat → Int32) (k23 : Int32 → Mem → Option Int32) (x4 : Int32) (mm : Mem) : Option Int32 := rsc L (x4 + (1 : Int32)) (nm (xs (x4 + (1 : Int32)).toNatClampNeg) (fun v51 => rsc L (x4 + (2 : Int32)) (nm (xs (x4 + (2 : Int32)).toNatClampNeg) (fun v52 => rsc L (x4 + (3 : Int32)) (nm (xs (x4 + (3 : Int32)).toNatClampNeg) (fun v53 => bd (f6_step mm v51 v52 v53) (fun r54 => rsc L (x4 + (1 : Int32)) (nm (xs (x4 + (1 : Int32)).toNatClampNeg) (fun v55 => rsc L (x4 + (2 : Int32)) (nm (xs (x4 + (2 : Int32)).toNatClampNeg) (fun v56 => rsc L (x4 + (3 : Int32)) (nm (xs (x4 + (3 : Int32)).toNatClampNeg) (fun v57 => bd (f7_step r54.2 v55 v56 v57) (fun r58 => if r54.1 = r58.1 then fL_law_j1579 L xs k23 x4 r58.2 else some (0 : Int32)))))))))))))))
def tbfL_law_j507 : Tb := [(507, .aload_n 1, 1, 508), (508, .aload_n 0, 1, 509), (509, .iload 4, 2, 511), (511, .iconst 1, 1, 512), (512, .iadd, 1, 513), (513, .iaload, 1, 514), (514, .aload_n 0, 1, 515), (515, .iload 4, 2, 517), (517, .iconst 2, 1, 518), (518, .iadd, 1, 519), (519, .iaload, 1, 520), (520, .aload_n 0, 1, 521), (521, .iload 4, 2, 523), (523, .iconst 3, 1, 524), (524, .iadd, 1, 525), (525, .iaload, 1, 526), (526, .invokevirtual 55, 3, 529), (529, .aload_n 2, 1, 530), (530, .aload_n 0, 1, 531), (531, .iload 4, 2, 533), (533, .iconst 1, 1, 534), (534, .iadd, 1, 535), (535, .iaload, 1, 536), (536, .aload_n 0, 1, 537), (537, .iload 4, 2, 539), (539, .iconst 2, 1, 540), (540, .iadd, 1, 541), (541, .iaload, 1, 542), (542, .aload_n 0, 1, 543), (543, .iload 4, 2, 545), (545, .iconst 3, 1, 546), (546, .iadd, 1, 547), (547, .iaload, 1, 548), (548, .invokevirtual 58, 3, 551), (551, .if_icmp .eq 1028, 3, 554), (554, .iconst 0, 1, 555), (555, .ireturn, 1, 556)]
theorem dtfL_law_j507 : ∀ q ∈ tbfL_law_j507, decode code q.1 = .ok (q.2.1, q.2.2.1) ∧ q.1 + q.2.2.1 = q.2.2.2 := by decide +kernel
theorem fL_law_j507_ok {E : Ev} {l : Launch} {C : Cfg} {L : Nat} {xs : Nat → Int32} {k23 : Int32 → Mem → Option Int32} {kN nN : Nat} (hj : Dj C) (hfl : l.stackTraces = false) (X : Ec E l C room_1) (B0 : BL E) (hs : Sc E L xs) (hK : kle E kN nN) (hk23 : ∀ (x4 : Int32) (mm : Mem), k23 x4 mm = some 1 → G (setk E kN nN) 7 23 [(0, .ref 5000), (1, .ref 14), (2, .ref 0), (3, .ref 133), (4, .int x4)] [] mm) (hK1 : kle1 E kN nN) (x4 : Int32) (mm : Mem) (hf : fL_law_j507 L xs k23 x4 mm = some 1) : G E 7 507 [(0, .ref 5000), (1, .ref 14), (2, .ref 0), (3, .ref 133), (4, .int x4)] [] mm := by
  have B := B0.to dtfL_law_j507
  unfold fL_law_j507 at hf
  refine z_aload_n B 0 rfl 1 1 rfl rfl ?_
  refine z_aload_n B 1 rfl 0 0 rfl rfl ?_
  refine z_iload B 2 rfl 4 rfl ?_
  refine z_iconst 1 B 3 rfl (by decide) ?_
  refine z_iadd B 4 rfl ?_
  obtain ⟨hx, hf⟩ := rsc_e hf
  refine z_sld hs B 5 rfl hx ?_
  obtain ⟨v51, ex, hf⟩ := nm_x hf
  refine z_top ex ?_
  refine z_aload_n B 6 rfl 0 0 rfl rfl ?_
  refine z_iload B 7 rfl 4 rfl ?_
  refine z_iconst 2 B 8 rfl (by decide) ?_
  refine z_iadd B 9 rfl ?_
  obtain ⟨hx, hf⟩ := rsc_e hf
  refine z_sld hs B 10 rfl hx ?_
  obtain ⟨v52, ex, hf⟩ := nm_x hf
  refine z_top ex ?_
  refine z_aload_n B 11 rfl 0 0 rfl rfl ?_
  refine z_iload B 12 rfl 4 rfl ?_
  refine z_iconst 3 B 13 rfl (by decide) ?_
  refine z_iadd B 14 rfl ?_
  obtain ⟨hx, hf⟩ := rsc_e hf
  refine z_sld hs B 15 rfl hx ?_
  obtain ⟨v53, ex, hf⟩ := nm_x hf
  refine z_top ex ?_
  obtain ⟨r54, ec, hf⟩ := bd_e hf
  refine z_callV 14 6 [.int v51, .int v52, .int v53] [] [.int r54.1] X B 16 rfl ob_14 rfl rfl miX6_step ⟨(iL_law _ (List.mem_of_getElem? (i := 42) rfl)), (iL_law _ (List.mem_of_getElem? (i := 43) rfl)), (iL_law _ (List.mem_of_getElem? (i := 44) rfl))⟩ (ctX6_step hj ec) ⟨Nat.le_of_ble_eq_true rfl, Nat.le_of_ble_eq_true rfl⟩ rfl rfl (Nat.le_of_ble_eq_true rfl) rfl ?_
  refine z_aload_n B 17 rfl 2 2 rfl rfl ?_
  refine z_aload_n B 18 rfl 0 0 rfl rfl ?_
  refine z_iload B 19 rfl 4 rfl ?_
  refine z_iconst 1 B 20 rfl (by decide) ?_
  refine z_iadd B 21 rfl ?_
  obtain ⟨hx, hf⟩ := rsc_e hf
  refine z_sld hs B 22 rfl hx ?_
  obtain ⟨v55, ex, hf⟩ := nm_x hf
  refine z_top ex ?_
  refine z_aload_n B 23 rfl 0 0 rfl rfl ?_
  refine z_iload B 24 rfl 4 rfl ?_
  refine z_iconst 2 B 25 rfl (by decide) ?_
  refine z_iadd B 26 rfl ?_
  obtain ⟨hx, hf⟩ := rsc_e hf
  refine z_sld hs B 27 rfl hx ?_
  obtain ⟨v56, ex, hf⟩ := nm_x hf
  refine z_top ex ?_
  refine z_aload_n B 28 rfl 0 0 rfl rfl ?_
  refine z_iload B 29 rfl 4 rfl ?_
  refine z_iconst 3 B 30 rfl (by decide) ?_
  refine z_iadd B 31 rfl ?_
  obtain ⟨hx, hf⟩ := rsc_e hf
  refine z_sld hs B 32 rfl hx ?_
  obtain ⟨v57, ex, hf⟩ := nm_x hf
  refine z_top ex ?_
  obtain ⟨r58, ec, hf⟩ := bd_e hf
  refine z_callV 0 7 [.int v55, .int v56, .int v57] [.int r54.1] [.int r58.1, .int r54.1] X B 33 rfl ob_0 rfl rfl miX7_step ⟨(iL_law _ (List.mem_of_getElem? (i := 45) rfl)), (iL_law _ (List.mem_of_getElem? (i := 46) rfl)), (iL_law _ (List.mem_of_getElem? (i := 47) rfl))⟩ (ctX7_step hj ec) ⟨Nat.le_of_ble_eq_true rfl, Nat.le_of_ble_eq_true rfl⟩ rfl rfl (Nat.le_of_ble_eq_true rfl) rfl ?_
  by_cases hc : r54.1 = r58.1
  · replace hf := (if_pos hc).symm.trans hf
    refine z_icmp_eq_t B 34 rfl 1579 (by decide) hc ?_
    exact fL_law_j1579_ok hj hfl X B0 hs hK hk23 _ _ hf
  · replace hf := (if_neg hc).symm.trans hf
    refine z_icmp_eq_f B 34 rfl 1579 (by decide) hc ?_
    refine z_iconst 0 B 35 rfl (by decide) ?_
    exact absurd (Option.some.inj hf) (by decide)
def fL_law_j601 (L : Nat) (xs : Nat → Int32) (k23 : Int32 → Mem → Option Int32) (x4 : Int32) (s0 : Int32) (s1 : Int32) (s3 : Int32) (mm : Mem) : Option Int32 := bd (f7_drop mm s1 s0) (fun r64 => if s3 = r64.1 then fL_law_j1579 L xs k23 x4 r64.2 else some (0 : Int32))
def tbfL_law_j601 : Tb := [(601, .invokevirtual 63, 3, 604), (604, .if_icmp .eq 975, 3, 607), (607, .iconst 0, 1, 608), (608, .ireturn, 1, 609)]
theorem dtfL_law_j601 : ∀ q ∈ tbfL_law_j601, decode code q.1 = .ok (q.2.1, q.2.2.1) ∧ q.1 + q.2.2.1 = q.2.2.2 := by decide +kernel
theorem fL_law_j601_ok {E : Ev} {l : Launch} {C : Cfg} {L : Nat} {xs : Nat → Int32} {k23 : Int32 → Mem → Option Int32} {kN nN : Nat} (hj : Dj C) (hfl : l.stackTraces = false) (X : Ec E l C room_1) (B0 : BL E) (hs : Sc E L xs) (hK : kle E kN nN) (hk23 : ∀ (x4 : Int32) (mm : Mem), k23 x4 mm = some 1 → G (setk E kN nN) 7 23 [(0, .ref 5000), (1, .ref 14), (2, .ref 0), (3, .ref 133), (4, .int x4)] [] mm) (x4 : Int32) (s0 : Int32) (s1 : Int32) (s3 : Int32) (mm : Mem) (hf : fL_law_j601 L xs k23 x4 s0 s1 s3 mm = some 1) : G E 7 601 [(0, .ref 5000), (1, .ref 14), (2, .ref 0), (3, .ref 133), (4, .int x4)] [.int s0, .int s1, .ref 0, .int s3] mm := by
  have B := B0.to dtfL_law_j601
  unfold fL_law_j601 at hf
  obtain ⟨r64, ec, hf⟩ := bd_e hf
  refine z_callV 0 7 [.int s1, .int s0] [.int s3] [.int r64.1, .int s3] X B 0 rfl ob_0 rfl rfl miX7_drop ⟨(iL_law _ (List.mem_of_getElem? (i := 51) rfl)), (iL_law _ (List.mem_of_getElem? (i := 52) rfl)), (iL_law _ (List.mem_of_getElem? (i := 53) rfl))⟩ (ctX7_drop hj ec) ⟨Nat.le_of_ble_eq_true rfl, Nat.le_of_ble_eq_true rfl⟩ rfl rfl (Nat.le_of_ble_eq_true rfl) rfl ?_
  by_cases hc : s3 = r64.1
  · replace hf := (if_pos hc).symm.trans hf
    refine z_icmp_eq_t B 1 rfl 1579 (by decide) hc ?_
    exact fL_law_j1579_ok hj hfl X B0 hs hK hk23 _ _ hf
  · replace hf := (if_neg hc).symm.trans hf
    refine z_icmp_eq_f B 1 rfl 1579 (by decide) hc ?_
    refine z_iconst 0 B 2 rfl (by decide) ?_
    exact absurd (Option.some.inj hf) (by decide)
def fL_law_j577 (L : Nat) (xs : Nat → Int32) (k23 : Int32 → Mem → Option Int32) (x4 : Int32) (s0 : Int32) (s1 : Int32) (mm : Mem) : Option Int32 := bd (f6_drop mm s1 s0) (fun r61 => rsc L (x4 + (1 : Int32)) (nm (xs (x4 + (1 : Int32)).toNatClampNeg) (fun v62 => rsc L (x4 + (2 : Int32)) (nm (xs (x4 + (2 : Int32)).toNatClampNeg) (fun v63 => if v63 = 0 then fL_law_j601 L xs k23 x4 (0 : Int32) v62 r61.1 r61.2 else fL_law_j601 L xs k23 x4 (1 : Int32) v62 r61.1 r61.2)))))
def tbfL_law_j577 : Tb := [(577, .invokevirtual 59, 3, 580), (580, .aload_n 2, 1, 581), (581, .aload_n 0, 1, 582), (582, .iload 4, 2, 584), (584, .iconst 1, 1, 585), (585, .iadd, 1, 586), (586, .iaload, 1, 587), (587, .aload_n 0, 1, 588), (588, .iload 4, 2, 590), (590, .iconst 2, 1, 591), (591, .iadd, 1, 592), (592, .iaload, 1, 593), (593, .ifCond .eq 7, 3, 596), (600, .iconst 0, 1, 601), (596, .iconst 1, 1, 597), (597, .goto 4, 3, 600)]
theorem dtfL_law_j577 : ∀ q ∈ tbfL_law_j577, decode code q.1 = .ok (q.2.1, q.2.2.1) ∧ q.1 + q.2.2.1 = q.2.2.2 := by decide +kernel
theorem fL_law_j577_ok {E : Ev} {l : Launch} {C : Cfg} {L : Nat} {xs : Nat → Int32} {k23 : Int32 → Mem → Option Int32} {kN nN : Nat} (hj : Dj C) (hfl : l.stackTraces = false) (X : Ec E l C room_1) (B0 : BL E) (hs : Sc E L xs) (hK : kle E kN nN) (hk23 : ∀ (x4 : Int32) (mm : Mem), k23 x4 mm = some 1 → G (setk E kN nN) 7 23 [(0, .ref 5000), (1, .ref 14), (2, .ref 0), (3, .ref 133), (4, .int x4)] [] mm) (x4 : Int32) (s0 : Int32) (s1 : Int32) (mm : Mem) (hf : fL_law_j577 L xs k23 x4 s0 s1 mm = some 1) : G E 7 577 [(0, .ref 5000), (1, .ref 14), (2, .ref 0), (3, .ref 133), (4, .int x4)] [.int s0, .int s1, .ref 14] mm := by
  have B := B0.to dtfL_law_j577
  unfold fL_law_j577 at hf
  obtain ⟨r61, ec, hf⟩ := bd_e hf
  refine z_callV 14 6 [.int s1, .int s0] [] [.int r61.1] X B 0 rfl ob_14 rfl rfl miX6_drop ⟨(iL_law _ (List.mem_of_getElem? (i := 48) rfl)), (iL_law _ (List.mem_of_getElem? (i := 49) rfl)), (iL_law _ (List.mem_of_getElem? (i := 50) rfl))⟩ (ctX6_drop hj ec) ⟨Nat.le_of_ble_eq_true rfl, Nat.le_of_ble_eq_true rfl⟩ rfl rfl (Nat.le_of_ble_eq_true rfl) rfl ?_
  refine z_aload_n B 1 rfl 2 2 rfl rfl ?_
  refine z_aload_n B 2 rfl 0 0 rfl rfl ?_
  refine z_iload B 3 rfl 4 rfl ?_
  refine z_iconst 1 B 4 rfl (by decide) ?_
  refine z_iadd B 5 rfl ?_
  obtain ⟨hx, hf⟩ := rsc_e hf
  refine z_sld hs B 6 rfl hx ?_
  obtain ⟨v62, ex, hf⟩ := nm_x hf
  refine z_top ex ?_
  refine z_aload_n B 7 rfl 0 0 rfl rfl ?_
  refine z_iload B 8 rfl 4 rfl ?_
  refine z_iconst 2 B 9 rfl (by decide) ?_
  refine z_iadd B 10 rfl ?_
  obtain ⟨hx, hf⟩ := rsc_e hf
  refine z_sld hs B 11 rfl hx ?_
  obtain ⟨v63, ex, hf⟩ := nm_x hf
  refine z_top ex ?_
  by_cases hc : v63 = 0
  · replace hf := (if_pos hc).symm.trans hf
    refine z_if_eq_t B 12 rfl 600 (by decide) hc ?_
    refine z_iconst 0 B 13 rfl (by decide) ?_
    exact fL_law_j601_ok hj hfl X B0 hs hK hk23 _ _ _ _ _ hf
  · replace hf := (if_neg hc).symm.trans hf
    refine z_if_eq_f B 12 rfl 600 (by decide) hc ?_
    refine z_iconst 1 B 14 rfl (by decide) ?_
    refine z_goto B 15 rfl 601 (by decide) ?_
    exact fL_law_j601_ok hj hfl X B0 hs hK hk23 _ _ _ _ _ hf
def fL_law_j556 (L : Nat) (xs : Nat → Int32) (k23 : Int32 → Mem → Option Int32) (x4 : Int32) (mm : Mem) : Option Int32 := rsc L (x4 + (1 : Int32)) (nm (xs (x4 + (1 : Int32)).toNatClampNeg) (fun v59 => rsc L (x4 + (2 : Int32)) (nm (xs (x4 + (2 : Int32)).toNatClampNeg) (fun v60 => if v60 = 0 then fL_law_j577 L xs k23 x4 (0 : Int32) v59 mm else fL_law_j577 L xs k23 x4 (1 : Int32) v59 mm))))
def tbfL_law_j556 : Tb := [(556, .aload_n 1, 1, 557), (557, .aload_n 0, 1, 558), (558, .iload 4, 2, 560), (560, .iconst 1, 1, 561), (561, .iadd, 1, 562), (562, .iaload, 1, 563), (563, .aload_n 0, 1, 564), (564, .iload 4, 2, 566), (566, .iconst 2, 1, 567), (567, .iadd, 1, 568), (568, .iaload, 1, 569), (569, .ifCond .eq 7, 3, 572), (576, .iconst 0, 1, 577), (572, .iconst 1, 1, 573), (573, .goto 4, 3, 576)]
theorem dtfL_law_j556 : ∀ q ∈ tbfL_law_j556, decode code q.1 = .ok (q.2.1, q.2.2.1) ∧ q.1 + q.2.2.1 = q.2.2.2 := by decide +kernel
theorem fL_law_j556_ok {E : Ev} {l : Launch} {C : Cfg} {L : Nat} {xs : Nat → Int32} {k23 : Int32 → Mem → Option Int32} {kN nN : Nat} (hj : Dj C) (hfl : l.stackTraces = false) (X : Ec E l C room_1) (B0 : BL E) (hs : Sc E L xs) (hK : kle E kN nN) (hk23 : ∀ (x4 : Int32) (mm : Mem), k23 x4 mm = some 1 → G (setk E kN nN) 7 23 [(0, .ref 5000), (1, .ref 14), (2, .ref 0), (3, .ref 133), (4, .int x4)] [] mm) (hK1 : kle1 E kN nN) (x4 : Int32) (mm : Mem) (hf : fL_law_j556 L xs k23 x4 mm = some 1) : G E 7 556 [(0, .ref 5000), (1, .ref 14), (2, .ref 0), (3, .ref 133), (4, .int x4)] [] mm := by
  have B := B0.to dtfL_law_j556
  unfold fL_law_j556 at hf
  refine z_aload_n B 0 rfl 1 1 rfl rfl ?_
  refine z_aload_n B 1 rfl 0 0 rfl rfl ?_
  refine z_iload B 2 rfl 4 rfl ?_
  refine z_iconst 1 B 3 rfl (by decide) ?_
  refine z_iadd B 4 rfl ?_
  obtain ⟨hx, hf⟩ := rsc_e hf
  refine z_sld hs B 5 rfl hx ?_
  obtain ⟨v59, ex, hf⟩ := nm_x hf
  refine z_top ex ?_
  refine z_aload_n B 6 rfl 0 0 rfl rfl ?_
  refine z_iload B 7 rfl 4 rfl ?_
  refine z_iconst 2 B 8 rfl (by decide) ?_
  refine z_iadd B 9 rfl ?_
  obtain ⟨hx, hf⟩ := rsc_e hf
  refine z_sld hs B 10 rfl hx ?_
  obtain ⟨v60, ex, hf⟩ := nm_x hf
  refine z_top ex ?_
  by_cases hc : v60 = 0
  · replace hf := (if_pos hc).symm.trans hf
    refine z_if_eq_t B 11 rfl 576 (by decide) hc ?_
    refine z_iconst 0 B 12 rfl (by decide) ?_
    exact fL_law_j577_ok hj hfl X B0 hs hK hk23 _ _ _ _ hf
  · replace hf := (if_neg hc).symm.trans hf
    refine z_if_eq_f B 11 rfl 576 (by decide) hc ?_
    refine z_iconst 1 B 13 rfl (by decide) ?_
    refine z_goto B 14 rfl 577 (by decide) ?_
    exact fL_law_j577_ok hj hfl X B0 hs hK hk23 _ _ _ _ hf
def fL_law_j609 (L : Nat) (xs : Nat → Int32) (k23 : Int32 → Mem → Option Int32) (x4 : Int32) (mm : Mem) : Option Int32 := rsc L (x4 + (1 : Int32)) (nm (xs (x4 + (1 : Int32)).toNatClampNeg) (fun v65 => rsc L (x4 + (2 : Int32)) (nm (xs (x4 + (2 : Int32)).toNatClampNeg) (fun v66 => rsc L (x4 + (3 : Int32)) (nm (xs (x4 + (3 : Int32)).toNatClampNeg) (fun v67 => bd (f6_set mm v65 v66 v67) (fun r68 => rsc L (x4 + (1 : Int32)) (nm (xs (x4 + (1 : Int32)).toNatClampNeg) (fun v69 => rsc L (x4 + (2 : Int32)) (nm (xs (x4 + (2 : Int32)).toNatClampNeg) (fun v70 => rsc L (x4 + (3 : Int32)) (nm (xs (x4 + (3 : Int32)).toNatClampNeg) (fun v71 => bd (f7_set r68.2 v69 v70 v71) (fun r72 => if r68.1 = r72.1 then fL_law_j1579 L xs k23 x4 r72.2 else some (0 : Int32)))))))))))))))
def tbfL_law_j609 : Tb := [(609, .aload_n 1, 1, 610), (610, .aload_n 0, 1, 611), (611, .iload 4, 2, 613), (613, .iconst 1, 1, 614), (614, .iadd, 1, 615), (615, .iaload, 1, 616), (616, .aload_n 0, 1, 617), (617, .iload 4, 2, 619), (619, .iconst 2, 1, 620), (620, .iadd, 1, 621), (621, .iaload, 1, 622), (622, .aload_n 0, 1, 623), (623, .iload 4, 2, 625), (625, .iconst 3, 1, 626), (626, .iadd, 1, 627), (627, .iaload, 1, 628), (628, .invokevirtual 64, 3, 631), (631, .aload_n 2, 1, 632), (632, .aload_n 0, 1, 633), (633, .iload 4, 2, 635), (635, .iconst 1, 1, 636), (636, .iadd, 1, 637), (637, .iaload, 1, 638), (638, .aload_n 0, 1, 639), (639, .iload 4, 2, 641), (641, .iconst 2, 1, 642), (642, .iadd, 1, 643), (643, .iaload, 1, 644), (644, .aload_n 0, 1, 645), (645, .iload 4, 2, 647), (647, .iconst 3, 1, 648), (648, .iadd, 1, 649), (649, .iaload, 1, 650), (650, .invokevirtual 68, 3, 653), (653, .if_icmp .eq 926, 3, 656), (656, .iconst 0, 1, 657), (657, .ireturn, 1, 658)]
theorem dtfL_law_j609 : ∀ q ∈ tbfL_law_j609, decode code q.1 = .ok (q.2.1, q.2.2.1) ∧ q.1 + q.2.2.1 = q.2.2.2 := by decide +kernel
theorem fL_law_j609_ok {E : Ev} {l : Launch} {C : Cfg} {L : Nat} {xs : Nat → Int32} {k23 : Int32 → Mem → Option Int32} {kN nN : Nat} (hj : Dj C) (hfl : l.stackTraces = false) (X : Ec E l C room_1) (B0 : BL E) (hs : Sc E L xs) (hK : kle E kN nN) (hk23 : ∀ (x4 : Int32) (mm : Mem), k23 x4 mm = some 1 → G (setk E kN nN) 7 23 [(0, .ref 5000), (1, .ref 14), (2, .ref 0), (3, .ref 133), (4, .int x4)] [] mm) (hK1 : kle1 E kN nN) (x4 : Int32) (mm : Mem) (hf : fL_law_j609 L xs k23 x4 mm = some 1) : G E 7 609 [(0, .ref 5000), (1, .ref 14), (2, .ref 0), (3, .ref 133), (4, .int x4)] [] mm := by
  have B := B0.to dtfL_law_j609
  unfold fL_law_j609 at hf
  refine z_aload_n B 0 rfl 1 1 rfl rfl ?_
  refine z_aload_n B 1 rfl 0 0 rfl rfl ?_
  refine z_iload B 2 rfl 4 rfl ?_
  refine z_iconst 1 B 3 rfl (by decide) ?_
  refine z_iadd B 4 rfl ?_
  obtain ⟨hx, hf⟩ := rsc_e hf
  refine z_sld hs B 5 rfl hx ?_
  obtain ⟨v65, ex, hf⟩ := nm_x hf
  refine z_top ex ?_
  refine z_aload_n B 6 rfl 0 0 rfl rfl ?_
  refine z_iload B 7 rfl 4 rfl ?_
  refine z_iconst 2 B 8 rfl (by decide) ?_
  refine z_iadd B 9 rfl ?_
  obtain ⟨hx, hf⟩ := rsc_e hf
  refine z_sld hs B 10 rfl hx ?_
  obtain ⟨v66, ex, hf⟩ := nm_x hf
  refine z_top ex ?_
  refine z_aload_n B 11 rfl 0 0 rfl rfl ?_
  refine z_iload B 12 rfl 4 rfl ?_
  refine z_iconst 3 B 13 rfl (by decide) ?_
  refine z_iadd B 14 rfl ?_
  obtain ⟨hx, hf⟩ := rsc_e hf
  refine z_sld hs B 15 rfl hx ?_
  obtain ⟨v67, ex, hf⟩ := nm_x hf
  refine z_top ex ?_
  obtain ⟨r68, ec, hf⟩ := bd_e hf
  refine z_callV 14 6 [.int v65, .int v66, .int v67] [] [.int r68.1] X B 16 rfl ob_14 rfl rfl miX6_set ⟨(iL_law _ (List.mem_of_getElem? (i := 54) rfl)), (iL_law _ (List.mem_of_getElem? (i := 55) rfl)), (iL_law _ (List.mem_of_getElem? (i := 56) rfl))⟩ (ctX6_set hj ec) ⟨Nat.le_of_ble_eq_true rfl, Nat.le_of_ble_eq_true rfl⟩ rfl rfl (Nat.le_of_ble_eq_true rfl) rfl ?_
  refine z_aload_n B 17 rfl 2 2 rfl rfl ?_
  refine z_aload_n B 18 rfl 0 0 rfl rfl ?_
  refine z_iload B 19 rfl 4 rfl ?_
  refine z_iconst 1 B 20 rfl (by decide) ?_
  refine z_iadd B 21 rfl ?_
  obtain ⟨hx, hf⟩ := rsc_e hf
  refine z_sld hs B 22 rfl hx ?_
  obtain ⟨v69, ex, hf⟩ := nm_x hf
  refine z_top ex ?_
  refine z_aload_n B 23 rfl 0 0 rfl rfl ?_
  refine z_iload B 24 rfl 4 rfl ?_
  refine z_iconst 2 B 25 rfl (by decide) ?_
  refine z_iadd B 26 rfl ?_
  obtain ⟨hx, hf⟩ := rsc_e hf
  refine z_sld hs B 27 rfl hx ?_
  obtain ⟨v70, ex, hf⟩ := nm_x hf
  refine z_top ex ?_
  refine z_aload_n B 28 rfl 0 0 rfl rfl ?_
  refine z_iload B 29 rfl 4 rfl ?_
  refine z_iconst 3 B 30 rfl (by decide) ?_
  refine z_iadd B 31 rfl ?_
  obtain ⟨hx, hf⟩ := rsc_e hf
  refine z_sld hs B 32 rfl hx ?_
  obtain ⟨v71, ex, hf⟩ := nm_x hf
  refine z_top ex ?_
  obtain ⟨r72, ec, hf⟩ := bd_e hf
  refine z_callV 0 7 [.int v69, .int v70, .int v71] [.int r68.1] [.int r72.1, .int r68.1] X B 33 rfl ob_0 rfl rfl miX7_set ⟨(iL_law _ (List.mem_of_getElem? (i := 57) rfl)), (iL_law _ (List.mem_of_getElem? (i := 58) rfl)), (iL_law _ (List.mem_of_getElem? (i := 59) rfl))⟩ (ctX7_set hj ec) ⟨Nat.le_of_ble_eq_true rfl, Nat.le_of_ble_eq_true rfl⟩ rfl rfl (Nat.le_of_ble_eq_true rfl) rfl ?_
  by_cases hc : r68.1 = r72.1
  · replace hf := (if_pos hc).symm.trans hf
    refine z_icmp_eq_t B 34 rfl 1579 (by decide) hc ?_
    exact fL_law_j1579_ok hj hfl X B0 hs hK hk23 _ _ hf
  · replace hf := (if_neg hc).symm.trans hf
    refine z_icmp_eq_f B 34 rfl 1579 (by decide) hc ?_
    refine z_iconst 0 B 35 rfl (by decide) ?_
    exact absurd (Option.some.inj hf) (by decide)
def fL_law_j658 (L : Nat) (xs : Nat → Int32) (k23 : Int32 → Mem → Option Int32) (x4 : Int32) (mm : Mem) : Option Int32 := rsc L (x4 + (1 : Int32)) (nm (xs (x4 + (1 : Int32)).toNatClampNeg) (fun v73 => bd (f6_keep mm v73) (fun r74 => rsc L (x4 + (1 : Int32)) (nm (xs (x4 + (1 : Int32)).toNatClampNeg) (fun v75 => bd (f7_keep r74.2 v75) (fun r76 => if r74.1 = r76.1 then fL_law_j1579 L xs k23 x4 r76.2 else some (0 : Int32)))))))
def tbfL_law_j658 : Tb := [(658, .aload_n 1, 1, 659), (659, .aload_n 0, 1, 660), (660, .iload 4, 2, 662), (662, .iconst 1, 1, 663), (663, .iadd, 1, 664), (664, .iaload, 1, 665), (665, .invokevirtual 69, 3, 668), (668, .aload_n 2, 1, 669), (669, .aload_n 0, 1, 670), (670, .iload 4, 2, 672), (672, .iconst 1, 1, 673), (673, .iadd, 1, 674), (674, .iaload, 1, 675), (675, .invokevirtual 72, 3, 678), (678, .if_icmp .eq 901, 3, 681), (681, .iconst 0, 1, 682), (682, .ireturn, 1, 683)]
theorem dtfL_law_j658 : ∀ q ∈ tbfL_law_j658, decode code q.1 = .ok (q.2.1, q.2.2.1) ∧ q.1 + q.2.2.1 = q.2.2.2 := by decide +kernel
theorem fL_law_j658_ok {E : Ev} {l : Launch} {C : Cfg} {L : Nat} {xs : Nat → Int32} {k23 : Int32 → Mem → Option Int32} {kN nN : Nat} (hj : Dj C) (hfl : l.stackTraces = false) (X : Ec E l C room_1) (B0 : BL E) (hs : Sc E L xs) (hK : kle E kN nN) (hk23 : ∀ (x4 : Int32) (mm : Mem), k23 x4 mm = some 1 → G (setk E kN nN) 7 23 [(0, .ref 5000), (1, .ref 14), (2, .ref 0), (3, .ref 133), (4, .int x4)] [] mm) (hK1 : kle1 E kN nN) (x4 : Int32) (mm : Mem) (hf : fL_law_j658 L xs k23 x4 mm = some 1) : G E 7 658 [(0, .ref 5000), (1, .ref 14), (2, .ref 0), (3, .ref 133), (4, .int x4)] [] mm := by
  have B := B0.to dtfL_law_j658
  unfold fL_law_j658 at hf
  refine z_aload_n B 0 rfl 1 1 rfl rfl ?_
  refine z_aload_n B 1 rfl 0 0 rfl rfl ?_
  refine z_iload B 2 rfl 4 rfl ?_
  refine z_iconst 1 B 3 rfl (by decide) ?_
  refine z_iadd B 4 rfl ?_
  obtain ⟨hx, hf⟩ := rsc_e hf
  refine z_sld hs B 5 rfl hx ?_
  obtain ⟨v73, ex, hf⟩ := nm_x hf
  refine z_top ex ?_
  obtain ⟨r74, ec, hf⟩ := bd_e hf
  refine z_callV 14 6 [.int v73] [] [.int r74.1] X B 6 rfl ob_14 rfl rfl miX6_keep ⟨(iL_law _ (List.mem_of_getElem? (i := 60) rfl)), (iL_law _ (List.mem_of_getElem? (i := 61) rfl)), (iL_law _ (List.mem_of_getElem? (i := 62) rfl))⟩ (ctX6_keep hj ec) ⟨Nat.le_of_ble_eq_true rfl, Nat.le_of_ble_eq_true rfl⟩ rfl rfl (Nat.le_of_ble_eq_true rfl) rfl ?_
  refine z_aload_n B 7 rfl 2 2 rfl rfl ?_
  refine z_aload_n B 8 rfl 0 0 rfl rfl ?_
  refine z_iload B 9 rfl 4 rfl ?_
  refine z_iconst 1 B 10 rfl (by decide) ?_
  refine z_iadd B 11 rfl ?_
  obtain ⟨hx, hf⟩ := rsc_e hf
  refine z_sld hs B 12 rfl hx ?_
  obtain ⟨v75, ex, hf⟩ := nm_x hf
  refine z_top ex ?_
  obtain ⟨r76, ec, hf⟩ := bd_e hf
  refine z_callV 0 7 [.int v75] [.int r74.1] [.int r76.1, .int r74.1] X B 13 rfl ob_0 rfl rfl miX7_keep ⟨(iL_law _ (List.mem_of_getElem? (i := 63) rfl)), (iL_law _ (List.mem_of_getElem? (i := 64) rfl)), (iL_law _ (List.mem_of_getElem? (i := 65) rfl))⟩ (ctX7_keep hj ec) ⟨Nat.le_of_ble_eq_true rfl, Nat.le_of_ble_eq_true rfl⟩ rfl rfl (Nat.le_of_ble_eq_true rfl) rfl ?_
  by_cases hc : r74.1 = r76.1
  · replace hf := (if_pos hc).symm.trans hf
    refine z_icmp_eq_t B 14 rfl 1579 (by decide) hc ?_
    exact fL_law_j1579_ok hj hfl X B0 hs hK hk23 _ _ hf
  · replace hf := (if_neg hc).symm.trans hf
    refine z_icmp_eq_f B 14 rfl 1579 (by decide) hc ?_
    refine z_iconst 0 B 15 rfl (by decide) ?_
    exact absurd (Option.some.inj hf) (by decide)
def fL_law_j683 (L : Nat) (xs : Nat → Int32) (k23 : Int32 → Mem → Option Int32) (x4 : Int32) (mm : Mem) : Option Int32 := rsc L (x4 + (1 : Int32)) (nm (xs (x4 + (1 : Int32)).toNatClampNeg) (fun v77 => bd (f6_back mm v77) (fun r78 => rsc L (x4 + (1 : Int32)) (nm (xs (x4 + (1 : Int32)).toNatClampNeg) (fun v79 => bd (f7_back r78.2 v79) (fun r80 => if r78.1 = r80.1 then fL_law_j1579 L xs k23 x4 r80.2 else some (0 : Int32)))))))
def tbfL_law_j683 : Tb := [(683, .aload_n 1, 1, 684), (684, .aload_n 0, 1, 685), (685, .iload 4, 2, 687), (687, .iconst 1, 1, 688), (688, .iadd, 1, 689), (689, .iaload, 1, 690), (690, .invokevirtual 73, 3, 693), (693, .aload_n 2, 1, 694), (694, .aload_n 0, 1, 695), (695, .iload 4, 2, 697), (697, .iconst 1, 1, 698), (698, .iadd, 1, 699), (699, .iaload, 1, 700), (700, .invokevirtual 76, 3, 703), (703, .if_icmp .eq 876, 3, 706), (706, .iconst 0, 1, 707), (707, .ireturn, 1, 708)]
theorem dtfL_law_j683 : ∀ q ∈ tbfL_law_j683, decode code q.1 = .ok (q.2.1, q.2.2.1) ∧ q.1 + q.2.2.1 = q.2.2.2 := by decide +kernel
theorem fL_law_j683_ok {E : Ev} {l : Launch} {C : Cfg} {L : Nat} {xs : Nat → Int32} {k23 : Int32 → Mem → Option Int32} {kN nN : Nat} (hj : Dj C) (hfl : l.stackTraces = false) (X : Ec E l C room_1) (B0 : BL E) (hs : Sc E L xs) (hK : kle E kN nN) (hk23 : ∀ (x4 : Int32) (mm : Mem), k23 x4 mm = some 1 → G (setk E kN nN) 7 23 [(0, .ref 5000), (1, .ref 14), (2, .ref 0), (3, .ref 133), (4, .int x4)] [] mm) (hK1 : kle1 E kN nN) (x4 : Int32) (mm : Mem) (hf : fL_law_j683 L xs k23 x4 mm = some 1) : G E 7 683 [(0, .ref 5000), (1, .ref 14), (2, .ref 0), (3, .ref 133), (4, .int x4)] [] mm := by
  have B := B0.to dtfL_law_j683
  unfold fL_law_j683 at hf
  refine z_aload_n B 0 rfl 1 1 rfl rfl ?_
  refine z_aload_n B 1 rfl 0 0 rfl rfl ?_
  refine z_iload B 2 rfl 4 rfl ?_
  refine z_iconst 1 B 3 rfl (by decide) ?_
  refine z_iadd B 4 rfl ?_
  obtain ⟨hx, hf⟩ := rsc_e hf
  refine z_sld hs B 5 rfl hx ?_
  obtain ⟨v77, ex, hf⟩ := nm_x hf
  refine z_top ex ?_
  obtain ⟨r78, ec, hf⟩ := bd_e hf
  refine z_callV 14 6 [.int v77] [] [.int r78.1] X B 6 rfl ob_14 rfl rfl miX6_back ⟨(iL_law _ (List.mem_of_getElem? (i := 66) rfl)), (iL_law _ (List.mem_of_getElem? (i := 67) rfl)), (iL_law _ (List.mem_of_getElem? (i := 68) rfl))⟩ (ctX6_back hj ec) ⟨Nat.le_of_ble_eq_true rfl, Nat.le_of_ble_eq_true rfl⟩ rfl rfl (Nat.le_of_ble_eq_true rfl) rfl ?_
  refine z_aload_n B 7 rfl 2 2 rfl rfl ?_
  refine z_aload_n B 8 rfl 0 0 rfl rfl ?_
  refine z_iload B 9 rfl 4 rfl ?_
  refine z_iconst 1 B 10 rfl (by decide) ?_
  refine z_iadd B 11 rfl ?_
  obtain ⟨hx, hf⟩ := rsc_e hf
  refine z_sld hs B 12 rfl hx ?_
  obtain ⟨v79, ex, hf⟩ := nm_x hf
  refine z_top ex ?_
  obtain ⟨r80, ec, hf⟩ := bd_e hf
  refine z_callV 0 7 [.int v79] [.int r78.1] [.int r80.1, .int r78.1] X B 13 rfl ob_0 rfl rfl miX7_back ⟨(iL_law _ (List.mem_of_getElem? (i := 69) rfl)), (iL_law _ (List.mem_of_getElem? (i := 70) rfl)), (iL_law _ (List.mem_of_getElem? (i := 71) rfl))⟩ (ctX7_back hj ec) ⟨Nat.le_of_ble_eq_true rfl, Nat.le_of_ble_eq_true rfl⟩ rfl rfl (Nat.le_of_ble_eq_true rfl) rfl ?_
  by_cases hc : r78.1 = r80.1
  · replace hf := (if_pos hc).symm.trans hf
    refine z_icmp_eq_t B 14 rfl 1579 (by decide) hc ?_
    exact fL_law_j1579_ok hj hfl X B0 hs hK hk23 _ _ hf
  · replace hf := (if_neg hc).symm.trans hf
    refine z_icmp_eq_f B 14 rfl 1579 (by decide) hc ?_
    refine z_iconst 0 B 15 rfl (by decide) ?_
    exact absurd (Option.some.inj hf) (by decide)
def fL_law_j708 (L : Nat) (xs : Nat → Int32) (k23 : Int32 → Mem → Option Int32) (x4 : Int32) (mm : Mem) : Option Int32 := rsc L (x4 + (1 : Int32)) (nm (xs (x4 + (1 : Int32)).toNatClampNeg) (fun v81 => bd (f6_count mm v81) (fun r82 => rsc L (x4 + (1 : Int32)) (nm (xs (x4 + (1 : Int32)).toNatClampNeg) (fun v83 => bd (f7_count mm v83) (fun r84 => if r82 = r84.1 then fL_law_j1579 L xs k23 x4 r84.2 else some (0 : Int32)))))))
def tbfL_law_j708 : Tb := [(708, .aload_n 1, 1, 709), (709, .aload_n 0, 1, 710), (710, .iload 4, 2, 712), (712, .iconst 1, 1, 713), (713, .iadd, 1, 714), (714, .iaload, 1, 715), (715, .invokevirtual 77, 3, 718), (718, .aload_n 2, 1, 719), (719, .aload_n 0, 1, 720), (720, .iload 4, 2, 722), (722, .iconst 1, 1, 723), (723, .iadd, 1, 724), (724, .iaload, 1, 725), (725, .invokevirtual 81, 3, 728), (728, .if_icmp .eq 851, 3, 731), (731, .iconst 0, 1, 732), (732, .ireturn, 1, 733)]
theorem dtfL_law_j708 : ∀ q ∈ tbfL_law_j708, decode code q.1 = .ok (q.2.1, q.2.2.1) ∧ q.1 + q.2.2.1 = q.2.2.2 := by decide +kernel
theorem fL_law_j708_ok {E : Ev} {l : Launch} {C : Cfg} {L : Nat} {xs : Nat → Int32} {k23 : Int32 → Mem → Option Int32} {kN nN : Nat} (hj : Dj C) (hfl : l.stackTraces = false) (X : Ec E l C room_1) (B0 : BL E) (hs : Sc E L xs) (hK : kle E kN nN) (hk23 : ∀ (x4 : Int32) (mm : Mem), k23 x4 mm = some 1 → G (setk E kN nN) 7 23 [(0, .ref 5000), (1, .ref 14), (2, .ref 0), (3, .ref 133), (4, .int x4)] [] mm) (hK1 : kle1 E kN nN) (x4 : Int32) (mm : Mem) (hf : fL_law_j708 L xs k23 x4 mm = some 1) : G E 7 708 [(0, .ref 5000), (1, .ref 14), (2, .ref 0), (3, .ref 133), (4, .int x4)] [] mm := by
  have B := B0.to dtfL_law_j708
  unfold fL_law_j708 at hf
  refine z_aload_n B 0 rfl 1 1 rfl rfl ?_
  refine z_aload_n B 1 rfl 0 0 rfl rfl ?_
  refine z_iload B 2 rfl 4 rfl ?_
  refine z_iconst 1 B 3 rfl (by decide) ?_
  refine z_iadd B 4 rfl ?_
  obtain ⟨hx, hf⟩ := rsc_e hf
  refine z_sld hs B 5 rfl hx ?_
  obtain ⟨v81, ex, hf⟩ := nm_x hf
  refine z_top ex ?_
  obtain ⟨r82, ec, hf⟩ := bd_e hf
  refine z_callV 14 6 [.int v81] [] [.int r82] X B 6 rfl ob_14 rfl rfl miX6_count ⟨(iL_law _ (List.mem_of_getElem? (i := 72) rfl)), (iL_law _ (List.mem_of_getElem? (i := 73) rfl)), (iL_law _ (List.mem_of_getElem? (i := 74) rfl))⟩ (ctX6_count hj ec) ⟨Nat.le_of_ble_eq_true rfl, Nat.le_of_ble_eq_true rfl⟩ rfl rfl (Nat.le_of_ble_eq_true rfl) rfl ?_
  refine z_aload_n B 7 rfl 2 2 rfl rfl ?_
  refine z_aload_n B 8 rfl 0 0 rfl rfl ?_
  refine z_iload B 9 rfl 4 rfl ?_
  refine z_iconst 1 B 10 rfl (by decide) ?_
  refine z_iadd B 11 rfl ?_
  obtain ⟨hx, hf⟩ := rsc_e hf
  refine z_sld hs B 12 rfl hx ?_
  obtain ⟨v83, ex, hf⟩ := nm_x hf
  refine z_top ex ?_
  obtain ⟨r84, ec, hf⟩ := bd_e hf
  refine z_callV 0 7 [.int v83] [.int r82] [.int r84.1, .int r82] X B 13 rfl ob_0 rfl rfl miX7_count ⟨(iL_law _ (List.mem_of_getElem? (i := 75) rfl)), (iL_law _ (List.mem_of_getElem? (i := 76) rfl)), (iL_law _ (List.mem_of_getElem? (i := 77) rfl))⟩ (ctX7_count hj ec) ⟨Nat.le_of_ble_eq_true rfl, Nat.le_of_ble_eq_true rfl⟩ rfl rfl (Nat.le_of_ble_eq_true rfl) rfl ?_
  by_cases hc : r82 = r84.1
  · replace hf := (if_pos hc).symm.trans hf
    refine z_icmp_eq_t B 14 rfl 1579 (by decide) hc ?_
    exact fL_law_j1579_ok hj hfl X B0 hs hK hk23 _ _ hf
  · replace hf := (if_neg hc).symm.trans hf
    refine z_icmp_eq_f B 14 rfl 1579 (by decide) hc ?_
    refine z_iconst 0 B 15 rfl (by decide) ?_
    exact absurd (Option.some.inj hf) (by decide)
def fL_law_j798 (L : Nat) (xs : Nat → Int32) (k23 : Int32 → Mem → Option Int32) (x4 : Int32) (mm : Mem) : Option Int32 := fL_law_j1579 L xs k23 x4 mm
def tbfL_law_j798 : Tb := [(798, .goto 781, 3, 801)]
theorem dtfL_law_j798 : ∀ q ∈ tbfL_law_j798, decode code q.1 = .ok (q.2.1, q.2.2.1) ∧ q.1 + q.2.2.1 = q.2.2.2 := by decide +kernel
theorem fL_law_j798_ok {E : Ev} {l : Launch} {C : Cfg} {L : Nat} {xs : Nat → Int32} {k23 : Int32 → Mem → Option Int32} {kN nN : Nat} (hj : Dj C) (hfl : l.stackTraces = false) (X : Ec E l C room_1) (B0 : BL E) (hs : Sc E L xs) (hK : kle E kN nN) (hk23 : ∀ (x4 : Int32) (mm : Mem), k23 x4 mm = some 1 → G (setk E kN nN) 7 23 [(0, .ref 5000), (1, .ref 14), (2, .ref 0), (3, .ref 133), (4, .int x4)] [] mm) (x4 : Int32) (mm : Mem) (hf : fL_law_j798 L xs k23 x4 mm = some 1) : G E 7 798 [(0, .ref 5000), (1, .ref 14), (2, .ref 0), (3, .ref 133), (4, .int x4)] [] mm := by
  have B := B0.to dtfL_law_j798
  unfold fL_law_j798 at hf
  refine z_goto B 0 rfl 1579 (by decide) ?_
  exact fL_law_j1579_ok hj hfl X B0 hs hK hk23 _ _ hf
def fL_law_j733 (L : Nat) (xs : Nat → Int32) (k23 : Int32 → Mem → Option Int32) (x4 : Int32) (mm : Mem) : Option Int32 := rsc L (x4 + (1 : Int32)) (nm (xs (x4 + (1 : Int32)).toNatClampNeg) (fun v85 => rsc L (x4 + (2 : Int32)) (nm (xs (x4 + (2 : Int32)).toNatClampNeg) (fun v86 => bdx (f6_zoneOf mm v85 v86) (t6_zoneOf mm v85 v86) mm (fun r87 m88 => rsc L (x4 + (1 : Int32)) (nm (xs (x4 + (1 : Int32)).toNatClampNeg) (fun v89 => rsc L (x4 + (2 : Int32)) (nm (xs (x4 + (2 : Int32)).toNatClampNeg) (fun v90 => bd (f7_zoneOf m88 v89 v90) (fun r91 => bd (f7_thrown r91.2) (fun r92 => if r92 = r87 then if r87 = 0 then rdc 133 (0 : Int32) (if (lg_cmp ((r91.2 133 (0 : Int32).toNatClampNeg).toInt64) r91.1.toInt64) = 0 then fL_law_j798 L xs k23 x4 r91.2 else some (0 : Int32)) else fL_law_j798 L xs k23 x4 r91.2 else some (0 : Int32))))))))))))
def tbfL_law_j733 : Tb := [(733, .aload_n 1, 1, 734), (734, .aload_n 0, 1, 735), (735, .iload 4, 2, 737), (737, .iconst 1, 1, 738), (738, .iadd, 1, 739), (739, .iaload, 1, 740), (740, .aload_n 0, 1, 741), (741, .iload 4, 2, 743), (743, .iconst 2, 1, 744), (744, .iadd, 1, 745), (745, .iaload, 1, 746), (746, .aload_n 3, 1, 747), (747, .invokestatic 82, 3, 750), (750, .istore 5, 2, 752), (752, .aload_n 2, 1, 753), (753, .aload_n 0, 1, 754), (754, .iload 4, 2, 756), (756, .iconst 1, 1, 757), (757, .iadd, 1, 758), (758, .iaload, 1, 759), (759, .aload_n 0, 1, 760), (760, .iload 4, 2, 762), (762, .iconst 2, 1, 763), (763, .iadd, 1, 764), (764, .iaload, 1, 765), (765, .invokevirtual 87, 3, 768), (768, .istore 6, 2, 770), (770, .aload_n 2, 1, 771), (771, .invokevirtual 88, 3, 774), (774, .iload 5, 2, 776), (776, .if_icmp .eq 5, 3, 779), (781, .iload 5, 2, 783), (783, .ifCond .ne 15, 3, 786), (786, .aload_n 3, 1, 787), (787, .iconst 0, 1, 788), (788, .laload, 1, 789), (789, .iload 6, 2, 791), (791, .i2l, 1, 792), (792, .lcmp, 1, 793), (793, .ifCond .eq 5, 3, 796), (796, .iconst 0, 1, 797), (797, .ireturn, 1, 798), (779, .iconst 0, 1, 780), (780, .ireturn, 1, 781)]
theorem dtfL_law_j733 : ∀ q ∈ tbfL_law_j733, decode code q.1 = .ok (q.2.1, q.2.2.1) ∧ q.1 + q.2.2.1 = q.2.2.2 := by decide +kernel
theorem fL_law_j733_ok {E : Ev} {l : Launch} {C : Cfg} {L : Nat} {xs : Nat → Int32} {k23 : Int32 → Mem → Option Int32} {kN nN : Nat} (hj : Dj C) (hfl : l.stackTraces = false) (X : Ec E l C room_1) (B0 : BL E) (hs : Sc E L xs) (hK : kle E kN nN) (hk23 : ∀ (x4 : Int32) (mm : Mem), k23 x4 mm = some 1 → G (setk E kN nN) 7 23 [(0, .ref 5000), (1, .ref 14), (2, .ref 0), (3, .ref 133), (4, .int x4)] [] mm) (hK1 : kle1 E kN nN) (x4 : Int32) (mm : Mem) (hf : fL_law_j733 L xs k23 x4 mm = some 1) : G E 7 733 [(0, .ref 5000), (1, .ref 14), (2, .ref 0), (3, .ref 133), (4, .int x4)] [] mm := by
  have B := B0.to dtfL_law_j733
  unfold fL_law_j733 at hf
  refine z_aload_n B 0 rfl 1 1 rfl rfl ?_
  refine z_aload_n B 1 rfl 0 0 rfl rfl ?_
  refine z_iload B 2 rfl 4 rfl ?_
  refine z_iconst 1 B 3 rfl (by decide) ?_
  refine z_iadd B 4 rfl ?_
  obtain ⟨hx, hf⟩ := rsc_e hf
  refine z_sld hs B 5 rfl hx ?_
  obtain ⟨v85, ex, hf⟩ := nm_x hf
  refine z_top ex ?_
  refine z_aload_n B 6 rfl 0 0 rfl rfl ?_
  refine z_iload B 7 rfl 4 rfl ?_
  refine z_iconst 2 B 8 rfl (by decide) ?_
  refine z_iadd B 9 rfl ?_
  obtain ⟨hx, hf⟩ := rsc_e hf
  refine z_sld hs B 10 rfl hx ?_
  obtain ⟨v86, ex, hf⟩ := nm_x hf
  refine z_top ex ?_
  refine z_aload_n B 11 rfl 3 3 rfl rfl ?_
  obtain ⟨r87, m88, hct, hf⟩ := bdx_zoneOf hj hfl hf
  refine z_callW [.ref 14, .int v85, .int v86, .ref 133] [] [.int r87] X B hK1 12 rfl (y := yL_zoneOf) (n := 4) (by decide) (by decide +kernel) ⟨(iL_law _ (List.mem_of_getElem? (i := 78) rfl)), (iL_law _ (List.mem_of_getElem? (i := 79) rfl)), (iL_law _ (List.mem_of_getElem? (i := 80) rfl)), (iL_law _ (List.mem_of_getElem? (i := 81) rfl))⟩ hct ⟨Nat.le_of_ble_eq_true rfl, Nat.le_of_ble_eq_true rfl⟩ rfl rfl (Nat.le_of_ble_eq_true rfl) rfl ?_
  replace B := B.setk (kle1_kle hK1)
  replace B0 := BL.setk B0 (kle1_kle hK1)
  replace X := Ec.setk (k := kN) (n := nN) X
  replace hs := Sc.setk (k := kN) (n := nN) hs
  replace hk23 := hk23s hk23
  replace hK := kle1_again hK1
  generalize setk E kN nN = E at B B0 X hs hk23 hK ⊢
  refine z_istore [(5, .int r87), (0, .ref 5000), (1, .ref 14), (2, .ref 0), (3, .ref 133), (4, .int x4)] B 13 rfl (by decide) rfl ?_
  refine z_aload_n B 14 rfl 2 3 rfl rfl ?_
  refine z_aload_n B 15 rfl 0 1 rfl rfl ?_
  refine z_iload B 16 rfl 5 rfl ?_
  refine z_iconst 1 B 17 rfl (by decide) ?_
  refine z_iadd B 18 rfl ?_
  obtain ⟨hx, hf⟩ := rsc_e hf
  refine z_sld hs B 19 rfl hx ?_
  obtain ⟨v89, ex, hf⟩ := nm_x hf
  refine z_top ex ?_
  refine z_aload_n B 20 rfl 0 1 rfl rfl ?_
  refine z_iload B 21 rfl 5 rfl ?_
  refine z_iconst 2 B 22 rfl (by decide) ?_
  refine z_iadd B 23 rfl ?_
  obtain ⟨hx, hf⟩ := rsc_e hf
  refine z_sld hs B 24 rfl hx ?_
  obtain ⟨v90, ex, hf⟩ := nm_x hf
  refine z_top ex ?_
  obtain ⟨r91, ec, hf⟩ := bd_e hf
  refine z_callV 0 7 [.int v89, .int v90] [] [.int r91.1] X B 25 rfl ob_0 rfl rfl miX7_zoneOf ⟨(iL_law _ (List.mem_of_getElem? (i := 82) rfl)), (iL_law _ (List.mem_of_getElem? (i := 83) rfl)), (iL_law _ (List.mem_of_getElem? (i := 84) rfl))⟩ (ctX7_zoneOf hj ec) ⟨Nat.le_of_ble_eq_true rfl, Nat.le_of_ble_eq_true rfl⟩ rfl rfl (Nat.le_of_ble_eq_true rfl) rfl ?_
  refine z_istore [(6, .int r91.1), (5, .int r87), (0, .ref 5000), (1, .ref 14), (2, .ref 0), (3, .ref 133), (4, .int x4)] B 26 rfl (by decide) rfl ?_
  refine z_aload_n B 27 rfl 2 4 rfl rfl ?_
  obtain ⟨r92, ec, hf⟩ := bd_e hf
  refine z_callV 0 7 [] [] [.int r92] X B 28 rfl ob_0 rfl rfl miX7_thrown ⟨(iL_law _ (List.mem_of_getElem? (i := 85) rfl)), (iL_law _ (List.mem_of_getElem? (i := 86) rfl)), (iL_law _ (List.mem_of_getElem? (i := 87) rfl))⟩ (ctX7_thrown hj ec) ⟨Nat.le_of_ble_eq_true rfl, Nat.le_of_ble_eq_true rfl⟩ rfl rfl (Nat.le_of_ble_eq_true rfl) rfl ?_
  refine z_iload B 29 rfl 1 rfl ?_
  by_cases hc : r92 = r87
  · replace hf := (if_pos hc).symm.trans hf
    refine z_icmp_eq_t B 30 rfl 781 (by decide) hc ?_
    refine z_iload B 31 rfl 1 rfl ?_
    by_cases hc : r87 = 0
    · replace hf := (if_pos hc).symm.trans hf
      refine z_if_ne_f B 32 rfl 798 (by decide) hc ?_
      refine z_aload_n B 33 rfl 3 5 rfl rfl ?_
      refine z_iconst 0 B 34 rfl (by decide) ?_
      obtain ⟨hx, hf⟩ := rdc_e hf
      refine z_lald B 35 rfl ob_133 hx ?_
      refine z_iload B 36 rfl 0 rfl ?_
      refine z_i2l B 37 rfl ?_
      refine z_lcmp B 38 rfl ?_
      by_cases hc : (lg_cmp ((r91.2 133 (0 : Int32).toNatClampNeg).toInt64) r91.1.toInt64) = 0
      · replace hf := (if_pos hc).symm.trans hf
        refine z_if_eq_t B 39 rfl 798 (by decide) hc ?_
        refine z_sub [(0, .ref 5000), (1, .ref 14), (2, .ref 0), (3, .ref 133), (4, .int x4)] [2, 3, 4, 5, 6] rfl ?_
        exact fL_law_j798_ok hj hfl X B0 hs hK hk23 _ _ hf
      · replace hf := (if_neg hc).symm.trans hf
        refine z_if_eq_f B 39 rfl 798 (by decide) hc ?_
        refine z_iconst 0 B 40 rfl (by decide) ?_
        exact absurd (Option.some.inj hf) (by decide)
    · replace hf := (if_neg hc).symm.trans hf
      refine z_if_ne_t B 32 rfl 798 (by decide) hc ?_
      refine z_sub [(0, .ref 5000), (1, .ref 14), (2, .ref 0), (3, .ref 133), (4, .int x4)] [2, 3, 4, 5, 6] rfl ?_
      exact fL_law_j798_ok hj hfl X B0 hs hK hk23 _ _ hf
  · replace hf := (if_neg hc).symm.trans hf
    refine z_icmp_eq_f B 30 rfl 781 (by decide) hc ?_
    refine z_iconst 0 B 42 rfl (by decide) ?_
    exact absurd (Option.some.inj hf) (by decide)
def fL_law_j866 (L : Nat) (xs : Nat → Int32) (k23 : Int32 → Mem → Option Int32) (x4 : Int32) (mm : Mem) : Option Int32 := fL_law_j1579 L xs k23 x4 mm
def tbfL_law_j866 : Tb := [(866, .goto 713, 3, 869)]
theorem dtfL_law_j866 : ∀ q ∈ tbfL_law_j866, decode code q.1 = .ok (q.2.1, q.2.2.1) ∧ q.1 + q.2.2.1 = q.2.2.2 := by decide +kernel
theorem fL_law_j866_ok {E : Ev} {l : Launch} {C : Cfg} {L : Nat} {xs : Nat → Int32} {k23 : Int32 → Mem → Option Int32} {kN nN : Nat} (hj : Dj C) (hfl : l.stackTraces = false) (X : Ec E l C room_1) (B0 : BL E) (hs : Sc E L xs) (hK : kle E kN nN) (hk23 : ∀ (x4 : Int32) (mm : Mem), k23 x4 mm = some 1 → G (setk E kN nN) 7 23 [(0, .ref 5000), (1, .ref 14), (2, .ref 0), (3, .ref 133), (4, .int x4)] [] mm) (x4 : Int32) (mm : Mem) (hf : fL_law_j866 L xs k23 x4 mm = some 1) : G E 7 866 [(0, .ref 5000), (1, .ref 14), (2, .ref 0), (3, .ref 133), (4, .int x4)] [] mm := by
  have B := B0.to dtfL_law_j866
  unfold fL_law_j866 at hf
  refine z_goto B 0 rfl 1579 (by decide) ?_
  exact fL_law_j1579_ok hj hfl X B0 hs hK hk23 _ _ hf
def fL_law_j801 (L : Nat) (xs : Nat → Int32) (k23 : Int32 → Mem → Option Int32) (x4 : Int32) (mm : Mem) : Option Int32 := rsc L (x4 + (1 : Int32)) (nm (xs (x4 + (1 : Int32)).toNatClampNeg) (fun v93 => rsc L (x4 + (2 : Int32)) (nm (xs (x4 + (2 : Int32)).toNatClampNeg) (fun v94 => bdx (f6_resourceOf mm v93 v94) (t6_resourceOf mm v93 v94) mm (fun r95 m96 => rsc L (x4 + (1 : Int32)) (nm (xs (x4 + (1 : Int32)).toNatClampNeg) (fun v97 => rsc L (x4 + (2 : Int32)) (nm (xs (x4 + (2 : Int32)).toNatClampNeg) (fun v98 => bd (f7_resourceOf m96 v97 v98) (fun r99 => bd (f7_thrown r99.2) (fun r100 => if r100 = r95 then if r95 = 0 then rdc 133 (0 : Int32) (if (lg_cmp ((r99.2 133 (0 : Int32).toNatClampNeg).toInt64) r99.1.toInt64) = 0 then fL_law_j866 L xs k23 x4 r99.2 else some (0 : Int32)) else fL_law_j866 L xs k23 x4 r99.2 else some (0 : Int32))))))))))))
def tbfL_law_j801 : Tb := [(801, .aload_n 1, 1, 802), (802, .aload_n 0, 1, 803), (803, .iload 4, 2, 805), (805, .iconst 1, 1, 806), (806, .iadd, 1, 807), (807, .iaload, 1, 808), (808, .aload_n 0, 1, 809), (809, .iload 4, 2, 811), (811, .iconst 2, 1, 812), (812, .iadd, 1, 813), (813, .iaload, 1, 814), (814, .aload_n 3, 1, 815), (815, .invokestatic 91, 3, 818), (818, .istore 5, 2, 820), (820, .aload_n 2, 1, 821), (821, .aload_n 0, 1, 822), (822, .iload 4, 2, 824), (824, .iconst 1, 1, 825), (825, .iadd, 1, 826), (826, .iaload, 1, 827), (827, .aload_n 0, 1, 828), (828, .iload 4, 2, 830), (830, .iconst 2, 1, 831), (831, .iadd, 1, 832), (832, .iaload, 1, 833), (833, .invokevirtual 93, 3, 836), (836, .istore 6, 2, 838), (838, .aload_n 2, 1, 839), (839, .invokevirtual 88, 3, 842), (842, .iload 5, 2, 844), (844, .if_icmp .eq 5, 3, 847), (849, .iload 5, 2, 851), (851, .ifCond .ne 15, 3, 854), (854, .aload_n 3, 1, 855), (855, .iconst 0, 1, 856), (856, .laload, 1, 857), (857, .iload 6, 2, 859), (859, .i2l, 1, 860), (860, .lcmp, 1, 861), (861, .ifCond .eq 5, 3, 864), (864, .iconst 0, 1, 865), (865, .ireturn, 1, 866), (847, .iconst 0, 1, 848), (848, .ireturn, 1, 849)]
theorem dtfL_law_j801 : ∀ q ∈ tbfL_law_j801, decode code q.1 = .ok (q.2.1, q.2.2.1) ∧ q.1 + q.2.2.1 = q.2.2.2 := by decide +kernel
theorem fL_law_j801_ok {E : Ev} {l : Launch} {C : Cfg} {L : Nat} {xs : Nat → Int32} {k23 : Int32 → Mem → Option Int32} {kN nN : Nat} (hj : Dj C) (hfl : l.stackTraces = false) (X : Ec E l C room_1) (B0 : BL E) (hs : Sc E L xs) (hK : kle E kN nN) (hk23 : ∀ (x4 : Int32) (mm : Mem), k23 x4 mm = some 1 → G (setk E kN nN) 7 23 [(0, .ref 5000), (1, .ref 14), (2, .ref 0), (3, .ref 133), (4, .int x4)] [] mm) (hK1 : kle1 E kN nN) (x4 : Int32) (mm : Mem) (hf : fL_law_j801 L xs k23 x4 mm = some 1) : G E 7 801 [(0, .ref 5000), (1, .ref 14), (2, .ref 0), (3, .ref 133), (4, .int x4)] [] mm := by
  have B := B0.to dtfL_law_j801
  unfold fL_law_j801 at hf
  refine z_aload_n B 0 rfl 1 1 rfl rfl ?_
  refine z_aload_n B 1 rfl 0 0 rfl rfl ?_
  refine z_iload B 2 rfl 4 rfl ?_
  refine z_iconst 1 B 3 rfl (by decide) ?_
  refine z_iadd B 4 rfl ?_
  obtain ⟨hx, hf⟩ := rsc_e hf
  refine z_sld hs B 5 rfl hx ?_
  obtain ⟨v93, ex, hf⟩ := nm_x hf
  refine z_top ex ?_
  refine z_aload_n B 6 rfl 0 0 rfl rfl ?_
  refine z_iload B 7 rfl 4 rfl ?_
  refine z_iconst 2 B 8 rfl (by decide) ?_
  refine z_iadd B 9 rfl ?_
  obtain ⟨hx, hf⟩ := rsc_e hf
  refine z_sld hs B 10 rfl hx ?_
  obtain ⟨v94, ex, hf⟩ := nm_x hf
  refine z_top ex ?_
  refine z_aload_n B 11 rfl 3 3 rfl rfl ?_
  obtain ⟨r95, m96, hct, hf⟩ := bdx_resourceOf hj hfl hf
  refine z_callW [.ref 14, .int v93, .int v94, .ref 133] [] [.int r95] X B hK1 12 rfl (y := yL_resourceOf) (n := 4) (by decide) (by decide +kernel) ⟨(iL_law _ (List.mem_of_getElem? (i := 88) rfl)), (iL_law _ (List.mem_of_getElem? (i := 89) rfl)), (iL_law _ (List.mem_of_getElem? (i := 80) rfl)), (iL_law _ (List.mem_of_getElem? (i := 90) rfl))⟩ hct ⟨Nat.le_of_ble_eq_true rfl, Nat.le_of_ble_eq_true rfl⟩ rfl rfl (Nat.le_of_ble_eq_true rfl) rfl ?_
  replace B := B.setk (kle1_kle hK1)
  replace B0 := BL.setk B0 (kle1_kle hK1)
  replace X := Ec.setk (k := kN) (n := nN) X
  replace hs := Sc.setk (k := kN) (n := nN) hs
  replace hk23 := hk23s hk23
  replace hK := kle1_again hK1
  generalize setk E kN nN = E at B B0 X hs hk23 hK ⊢
  refine z_istore [(5, .int r95), (0, .ref 5000), (1, .ref 14), (2, .ref 0), (3, .ref 133), (4, .int x4)] B 13 rfl (by decide) rfl ?_
  refine z_aload_n B 14 rfl 2 3 rfl rfl ?_
  refine z_aload_n B 15 rfl 0 1 rfl rfl ?_
  refine z_iload B 16 rfl 5 rfl ?_
  refine z_iconst 1 B 17 rfl (by decide) ?_
  refine z_iadd B 18 rfl ?_
  obtain ⟨hx, hf⟩ := rsc_e hf
  refine z_sld hs B 19 rfl hx ?_
  obtain ⟨v97, ex, hf⟩ := nm_x hf
  refine z_top ex ?_
  refine z_aload_n B 20 rfl 0 1 rfl rfl ?_
  refine z_iload B 21 rfl 5 rfl ?_
  refine z_iconst 2 B 22 rfl (by decide) ?_
  refine z_iadd B 23 rfl ?_
  obtain ⟨hx, hf⟩ := rsc_e hf
  refine z_sld hs B 24 rfl hx ?_
  obtain ⟨v98, ex, hf⟩ := nm_x hf
  refine z_top ex ?_
  obtain ⟨r99, ec, hf⟩ := bd_e hf
  refine z_callV 0 7 [.int v97, .int v98] [] [.int r99.1] X B 25 rfl ob_0 rfl rfl miX7_resourceOf ⟨(iL_law _ (List.mem_of_getElem? (i := 91) rfl)), (iL_law _ (List.mem_of_getElem? (i := 92) rfl)), (iL_law _ (List.mem_of_getElem? (i := 93) rfl))⟩ (ctX7_resourceOf hj ec) ⟨Nat.le_of_ble_eq_true rfl, Nat.le_of_ble_eq_true rfl⟩ rfl rfl (Nat.le_of_ble_eq_true rfl) rfl ?_
  refine z_istore [(6, .int r99.1), (5, .int r95), (0, .ref 5000), (1, .ref 14), (2, .ref 0), (3, .ref 133), (4, .int x4)] B 26 rfl (by decide) rfl ?_
  refine z_aload_n B 27 rfl 2 4 rfl rfl ?_
  obtain ⟨r100, ec, hf⟩ := bd_e hf
  refine z_callV 0 7 [] [] [.int r100] X B 28 rfl ob_0 rfl rfl miX7_thrown ⟨(iL_law _ (List.mem_of_getElem? (i := 85) rfl)), (iL_law _ (List.mem_of_getElem? (i := 86) rfl)), (iL_law _ (List.mem_of_getElem? (i := 87) rfl))⟩ (ctX7_thrown hj ec) ⟨Nat.le_of_ble_eq_true rfl, Nat.le_of_ble_eq_true rfl⟩ rfl rfl (Nat.le_of_ble_eq_true rfl) rfl ?_
  refine z_iload B 29 rfl 1 rfl ?_
  by_cases hc : r100 = r95
  · replace hf := (if_pos hc).symm.trans hf
    refine z_icmp_eq_t B 30 rfl 849 (by decide) hc ?_
    refine z_iload B 31 rfl 1 rfl ?_
    by_cases hc : r95 = 0
    · replace hf := (if_pos hc).symm.trans hf
      refine z_if_ne_f B 32 rfl 866 (by decide) hc ?_
      refine z_aload_n B 33 rfl 3 5 rfl rfl ?_
      refine z_iconst 0 B 34 rfl (by decide) ?_
      obtain ⟨hx, hf⟩ := rdc_e hf
      refine z_lald B 35 rfl ob_133 hx ?_
      refine z_iload B 36 rfl 0 rfl ?_
      refine z_i2l B 37 rfl ?_
      refine z_lcmp B 38 rfl ?_
      by_cases hc : (lg_cmp ((r99.2 133 (0 : Int32).toNatClampNeg).toInt64) r99.1.toInt64) = 0
      · replace hf := (if_pos hc).symm.trans hf
        refine z_if_eq_t B 39 rfl 866 (by decide) hc ?_
        refine z_sub [(0, .ref 5000), (1, .ref 14), (2, .ref 0), (3, .ref 133), (4, .int x4)] [2, 3, 4, 5, 6] rfl ?_
        exact fL_law_j866_ok hj hfl X B0 hs hK hk23 _ _ hf
      · replace hf := (if_neg hc).symm.trans hf
        refine z_if_eq_f B 39 rfl 866 (by decide) hc ?_
        refine z_iconst 0 B 40 rfl (by decide) ?_
        exact absurd (Option.some.inj hf) (by decide)
    · replace hf := (if_neg hc).symm.trans hf
      refine z_if_ne_t B 32 rfl 866 (by decide) hc ?_
      refine z_sub [(0, .ref 5000), (1, .ref 14), (2, .ref 0), (3, .ref 133), (4, .int x4)] [2, 3, 4, 5, 6] rfl ?_
      exact fL_law_j866_ok hj hfl X B0 hs hK hk23 _ _ hf
  · replace hf := (if_neg hc).symm.trans hf
    refine z_icmp_eq_f B 30 rfl 849 (by decide) hc ?_
    refine z_iconst 0 B 42 rfl (by decide) ?_
    exact absurd (Option.some.inj hf) (by decide)
def fL_law_j926 (L : Nat) (xs : Nat → Int32) (k23 : Int32 → Mem → Option Int32) (x4 : Int32) (s0 : Int32) (s1 : Int32) (s2 : Int32) (s4 : Int32) (mm : Mem) : Option Int32 := bd (f7_line mm s2 s1 s0) (fun r108 => if s4 = r108.1 then fL_law_j1579 L xs k23 x4 r108.2 else some (0 : Int32))
def tbfL_law_j926 : Tb := [(926, .invokevirtual 98, 3, 929), (929, .if_icmp .eq 650, 3, 932), (932, .iconst 0, 1, 933), (933, .ireturn, 1, 934)]
theorem dtfL_law_j926 : ∀ q ∈ tbfL_law_j926, decode code q.1 = .ok (q.2.1, q.2.2.1) ∧ q.1 + q.2.2.1 = q.2.2.2 := by decide +kernel
theorem fL_law_j926_ok {E : Ev} {l : Launch} {C : Cfg} {L : Nat} {xs : Nat → Int32} {k23 : Int32 → Mem → Option Int32} {kN nN : Nat} (hj : Dj C) (hfl : l.stackTraces = false) (X : Ec E l C room_1) (B0 : BL E) (hs : Sc E L xs) (hK : kle E kN nN) (hk23 : ∀ (x4 : Int32) (mm : Mem), k23 x4 mm = some 1 → G (setk E kN nN) 7 23 [(0, .ref 5000), (1, .ref 14), (2, .ref 0), (3, .ref 133), (4, .int x4)] [] mm) (x4 : Int32) (s0 : Int32) (s1 : Int32) (s2 : Int32) (s4 : Int32) (mm : Mem) (hf : fL_law_j926 L xs k23 x4 s0 s1 s2 s4 mm = some 1) : G E 7 926 [(0, .ref 5000), (1, .ref 14), (2, .ref 0), (3, .ref 133), (4, .int x4)] [.int s0, .int s1, .int s2, .ref 0, .int s4] mm := by
  have B := B0.to dtfL_law_j926
  unfold fL_law_j926 at hf
  obtain ⟨r108, ec, hf⟩ := bd_e hf
  refine z_callV 0 7 [.int s2, .int s1, .int s0] [.int s4] [.int r108.1, .int s4] X B 0 rfl ob_0 rfl rfl miX7_line ⟨(iL_law _ (List.mem_of_getElem? (i := 97) rfl)), (iL_law _ (List.mem_of_getElem? (i := 98) rfl)), (iL_law _ (List.mem_of_getElem? (i := 99) rfl))⟩ (ctX7_line hj ec) ⟨Nat.le_of_ble_eq_true rfl, Nat.le_of_ble_eq_true rfl⟩ rfl rfl (Nat.le_of_ble_eq_true rfl) rfl ?_
  by_cases hc : s4 = r108.1
  · replace hf := (if_pos hc).symm.trans hf
    refine z_icmp_eq_t B 1 rfl 1579 (by decide) hc ?_
    exact fL_law_j1579_ok hj hfl X B0 hs hK hk23 _ _ hf
  · replace hf := (if_neg hc).symm.trans hf
    refine z_icmp_eq_f B 1 rfl 1579 (by decide) hc ?_
    refine z_iconst 0 B 2 rfl (by decide) ?_
    exact absurd (Option.some.inj hf) (by decide)
def fL_law_j896 (L : Nat) (xs : Nat → Int32) (k23 : Int32 → Mem → Option Int32) (x4 : Int32) (s0 : Int32) (s1 : Int32) (s2 : Int32) (mm : Mem) : Option Int32 := bd (f6_line mm s2 s1 s0) (fun r104 => rsc L (x4 + (1 : Int32)) (nm (xs (x4 + (1 : Int32)).toNatClampNeg) (fun v105 => rsc L (x4 + (2 : Int32)) (nm (xs (x4 + (2 : Int32)).toNatClampNeg) (fun v106 => rsc L (x4 + (3 : Int32)) (nm (xs (x4 + (3 : Int32)).toNatClampNeg) (fun v107 => if v107 = 0 then fL_law_j926 L xs k23 x4 (0 : Int32) v106 v105 r104 mm else fL_law_j926 L xs k23 x4 (1 : Int32) v106 v105 r104 mm)))))))
def tbfL_law_j896 : Tb := [(896, .invokevirtual 94, 3, 899), (899, .aload_n 2, 1, 900), (900, .aload_n 0, 1, 901), (901, .iload 4, 2, 903), (903, .iconst 1, 1, 904), (904, .iadd, 1, 905), (905, .iaload, 1, 906), (906, .aload_n 0, 1, 907), (907, .iload 4, 2, 909), (909, .iconst 2, 1, 910), (910, .iadd, 1, 911), (911, .iaload, 1, 912), (912, .aload_n 0, 1, 913), (913, .iload 4, 2, 915), (915, .iconst 3, 1, 916), (916, .iadd, 1, 917), (917, .iaload, 1, 918), (918, .ifCond .eq 7, 3, 921), (925, .iconst 0, 1, 926), (921, .iconst 1, 1, 922), (922, .goto 4, 3, 925)]
theorem dtfL_law_j896 : ∀ q ∈ tbfL_law_j896, decode code q.1 = .ok (q.2.1, q.2.2.1) ∧ q.1 + q.2.2.1 = q.2.2.2 := by decide +kernel
theorem fL_law_j896_ok {E : Ev} {l : Launch} {C : Cfg} {L : Nat} {xs : Nat → Int32} {k23 : Int32 → Mem → Option Int32} {kN nN : Nat} (hj : Dj C) (hfl : l.stackTraces = false) (X : Ec E l C room_1) (B0 : BL E) (hs : Sc E L xs) (hK : kle E kN nN) (hk23 : ∀ (x4 : Int32) (mm : Mem), k23 x4 mm = some 1 → G (setk E kN nN) 7 23 [(0, .ref 5000), (1, .ref 14), (2, .ref 0), (3, .ref 133), (4, .int x4)] [] mm) (x4 : Int32) (s0 : Int32) (s1 : Int32) (s2 : Int32) (mm : Mem) (hf : fL_law_j896 L xs k23 x4 s0 s1 s2 mm = some 1) : G E 7 896 [(0, .ref 5000), (1, .ref 14), (2, .ref 0), (3, .ref 133), (4, .int x4)] [.int s0, .int s1, .int s2, .ref 14] mm := by
  have B := B0.to dtfL_law_j896
  unfold fL_law_j896 at hf
  obtain ⟨r104, ec, hf⟩ := bd_e hf
  refine z_callV 14 6 [.int s2, .int s1, .int s0] [] [.int r104] X B 0 rfl ob_14 rfl rfl miX6_line ⟨(iL_law _ (List.mem_of_getElem? (i := 94) rfl)), (iL_law _ (List.mem_of_getElem? (i := 95) rfl)), (iL_law _ (List.mem_of_getElem? (i := 96) rfl))⟩ (ctX6_line hj ec) ⟨Nat.le_of_ble_eq_true rfl, Nat.le_of_ble_eq_true rfl⟩ rfl rfl (Nat.le_of_ble_eq_true rfl) rfl ?_
  refine z_aload_n B 1 rfl 2 2 rfl rfl ?_
  refine z_aload_n B 2 rfl 0 0 rfl rfl ?_
  refine z_iload B 3 rfl 4 rfl ?_
  refine z_iconst 1 B 4 rfl (by decide) ?_
  refine z_iadd B 5 rfl ?_
  obtain ⟨hx, hf⟩ := rsc_e hf
  refine z_sld hs B 6 rfl hx ?_
  obtain ⟨v105, ex, hf⟩ := nm_x hf
  refine z_top ex ?_
  refine z_aload_n B 7 rfl 0 0 rfl rfl ?_
  refine z_iload B 8 rfl 4 rfl ?_
  refine z_iconst 2 B 9 rfl (by decide) ?_
  refine z_iadd B 10 rfl ?_
  obtain ⟨hx, hf⟩ := rsc_e hf
  refine z_sld hs B 11 rfl hx ?_
  obtain ⟨v106, ex, hf⟩ := nm_x hf
  refine z_top ex ?_
  refine z_aload_n B 12 rfl 0 0 rfl rfl ?_
  refine z_iload B 13 rfl 4 rfl ?_
  refine z_iconst 3 B 14 rfl (by decide) ?_
  refine z_iadd B 15 rfl ?_
  obtain ⟨hx, hf⟩ := rsc_e hf
  refine z_sld hs B 16 rfl hx ?_
  obtain ⟨v107, ex, hf⟩ := nm_x hf
  refine z_top ex ?_
  by_cases hc : v107 = 0
  · replace hf := (if_pos hc).symm.trans hf
    refine z_if_eq_t B 17 rfl 925 (by decide) hc ?_
    refine z_iconst 0 B 18 rfl (by decide) ?_
    exact fL_law_j926_ok hj hfl X B0 hs hK hk23 _ _ _ _ _ _ hf
  · replace hf := (if_neg hc).symm.trans hf
    refine z_if_eq_f B 17 rfl 925 (by decide) hc ?_
    refine z_iconst 1 B 19 rfl (by decide) ?_
    refine z_goto B 20 rfl 926 (by decide) ?_
    exact fL_law_j926_ok hj hfl X B0 hs hK hk23 _ _ _ _ _ _ hf
def fL_law_j869 (L : Nat) (xs : Nat → Int32) (k23 : Int32 → Mem → Option Int32) (x4 : Int32) (mm : Mem) : Option Int32 := rsc L (x4 + (1 : Int32)) (nm (xs (x4 + (1 : Int32)).toNatClampNeg) (fun v101 => rsc L (x4 + (2 : Int32)) (nm (xs (x4 + (2 : Int32)).toNatClampNeg) (fun v102 => rsc L (x4 + (3 : Int32)) (nm (xs (x4 + (3 : Int32)).toNatClampNeg) (fun v103 => if v103 = 0 then fL_law_j896 L xs k23 x4 (0 : Int32) v102 v101 mm else fL_law_j896 L xs k23 x4 (1 : Int32) v102 v101 mm))))))
def tbfL_law_j869 : Tb := [(869, .aload_n 1, 1, 870), (870, .aload_n 0, 1, 871), (871, .iload 4, 2, 873), (873, .iconst 1, 1, 874), (874, .iadd, 1, 875), (875, .iaload, 1, 876), (876, .aload_n 0, 1, 877), (877, .iload 4, 2, 879), (879, .iconst 2, 1, 880), (880, .iadd, 1, 881), (881, .iaload, 1, 882), (882, .aload_n 0, 1, 883), (883, .iload 4, 2, 885), (885, .iconst 3, 1, 886), (886, .iadd, 1, 887), (887, .iaload, 1, 888), (888, .ifCond .eq 7, 3, 891), (895, .iconst 0, 1, 896), (891, .iconst 1, 1, 892), (892, .goto 4, 3, 895)]
theorem dtfL_law_j869 : ∀ q ∈ tbfL_law_j869, decode code q.1 = .ok (q.2.1, q.2.2.1) ∧ q.1 + q.2.2.1 = q.2.2.2 := by decide +kernel
theorem fL_law_j869_ok {E : Ev} {l : Launch} {C : Cfg} {L : Nat} {xs : Nat → Int32} {k23 : Int32 → Mem → Option Int32} {kN nN : Nat} (hj : Dj C) (hfl : l.stackTraces = false) (X : Ec E l C room_1) (B0 : BL E) (hs : Sc E L xs) (hK : kle E kN nN) (hk23 : ∀ (x4 : Int32) (mm : Mem), k23 x4 mm = some 1 → G (setk E kN nN) 7 23 [(0, .ref 5000), (1, .ref 14), (2, .ref 0), (3, .ref 133), (4, .int x4)] [] mm) (hK1 : kle1 E kN nN) (x4 : Int32) (mm : Mem) (hf : fL_law_j869 L xs k23 x4 mm = some 1) : G E 7 869 [(0, .ref 5000), (1, .ref 14), (2, .ref 0), (3, .ref 133), (4, .int x4)] [] mm := by
  have B := B0.to dtfL_law_j869
  unfold fL_law_j869 at hf
  refine z_aload_n B 0 rfl 1 1 rfl rfl ?_
  refine z_aload_n B 1 rfl 0 0 rfl rfl ?_
  refine z_iload B 2 rfl 4 rfl ?_
  refine z_iconst 1 B 3 rfl (by decide) ?_
  refine z_iadd B 4 rfl ?_
  obtain ⟨hx, hf⟩ := rsc_e hf
  refine z_sld hs B 5 rfl hx ?_
  obtain ⟨v101, ex, hf⟩ := nm_x hf
  refine z_top ex ?_
  refine z_aload_n B 6 rfl 0 0 rfl rfl ?_
  refine z_iload B 7 rfl 4 rfl ?_
  refine z_iconst 2 B 8 rfl (by decide) ?_
  refine z_iadd B 9 rfl ?_
  obtain ⟨hx, hf⟩ := rsc_e hf
  refine z_sld hs B 10 rfl hx ?_
  obtain ⟨v102, ex, hf⟩ := nm_x hf
  refine z_top ex ?_
  refine z_aload_n B 11 rfl 0 0 rfl rfl ?_
  refine z_iload B 12 rfl 4 rfl ?_
  refine z_iconst 3 B 13 rfl (by decide) ?_
  refine z_iadd B 14 rfl ?_
  obtain ⟨hx, hf⟩ := rsc_e hf
  refine z_sld hs B 15 rfl hx ?_
  obtain ⟨v103, ex, hf⟩ := nm_x hf
  refine z_top ex ?_
  by_cases hc : v103 = 0
  · replace hf := (if_pos hc).symm.trans hf
    refine z_if_eq_t B 16 rfl 895 (by decide) hc ?_
    refine z_iconst 0 B 17 rfl (by decide) ?_
    exact fL_law_j896_ok hj hfl X B0 hs hK hk23 _ _ _ _ _ hf
  · replace hf := (if_neg hc).symm.trans hf
    refine z_if_eq_f B 16 rfl 895 (by decide) hc ?_
    refine z_iconst 1 B 18 rfl (by decide) ?_
    refine z_goto B 19 rfl 896 (by decide) ?_
    exact fL_law_j896_ok hj hfl X B0 hs hK hk23 _ _ _ _ _ hf
def fL_law_j934 (L : Nat) (xs : Nat → Int32) (k23 : Int32 → Mem → Option Int32) (x4 : Int32) (mm : Mem) : Option Int32 := rsc L (x4 + (1 : Int32)) (nm (xs (x4 + (1 : Int32)).toNatClampNeg) (fun v109 => rsc L (x4 + (2 : Int32)) (nm (xs (x4 + (2 : Int32)).toNatClampNeg) (fun v110 => bd (f6_worth mm v109 v110) (fun r111 => rsc L (x4 + (1 : Int32)) (nm (xs (x4 + (1 : Int32)).toNatClampNeg) (fun v112 => rsc L (x4 + (2 : Int32)) (nm (xs (x4 + (2 : Int32)).toNatClampNeg) (fun v113 => bd (f7_worth mm v112 v113) (fun r114 => if r111 = r114.1 then fL_law_j1579 L xs k23 x4 r114.2 else some (0 : Int32)))))))))))
def tbfL_law_j934 : Tb := [(934, .aload_n 1, 1, 935), (935, .aload_n 0, 1, 936), (936, .iload 4, 2, 938), (938, .iconst 1, 1, 939), (939, .iadd, 1, 940), (940, .iaload, 1, 941), (941, .aload_n 0, 1, 942), (942, .iload 4, 2, 944), (944, .iconst 2, 1, 945), (945, .iadd, 1, 946), (946, .iaload, 1, 947), (947, .invokevirtual 99, 3, 950), (950, .aload_n 2, 1, 951), (951, .aload_n 0, 1, 952), (952, .iload 4, 2, 954), (954, .iconst 1, 1, 955), (955, .iadd, 1, 956), (956, .iaload, 1, 957), (957, .aload_n 0, 1, 958), (958, .iload 4, 2, 960), (960, .iconst 2, 1, 961), (961, .iadd, 1, 962), (962, .iaload, 1, 963), (963, .invokevirtual 102, 3, 966), (966, .if_icmp .eq 613, 3, 969), (969, .iconst 0, 1, 970), (970, .ireturn, 1, 971)]
theorem dtfL_law_j934 : ∀ q ∈ tbfL_law_j934, decode code q.1 = .ok (q.2.1, q.2.2.1) ∧ q.1 + q.2.2.1 = q.2.2.2 := by decide +kernel
theorem fL_law_j934_ok {E : Ev} {l : Launch} {C : Cfg} {L : Nat} {xs : Nat → Int32} {k23 : Int32 → Mem → Option Int32} {kN nN : Nat} (hj : Dj C) (hfl : l.stackTraces = false) (X : Ec E l C room_1) (B0 : BL E) (hs : Sc E L xs) (hK : kle E kN nN) (hk23 : ∀ (x4 : Int32) (mm : Mem), k23 x4 mm = some 1 → G (setk E kN nN) 7 23 [(0, .ref 5000), (1, .ref 14), (2, .ref 0), (3, .ref 133), (4, .int x4)] [] mm) (hK1 : kle1 E kN nN) (x4 : Int32) (mm : Mem) (hf : fL_law_j934 L xs k23 x4 mm = some 1) : G E 7 934 [(0, .ref 5000), (1, .ref 14), (2, .ref 0), (3, .ref 133), (4, .int x4)] [] mm := by
  have B := B0.to dtfL_law_j934
  unfold fL_law_j934 at hf
  refine z_aload_n B 0 rfl 1 1 rfl rfl ?_
  refine z_aload_n B 1 rfl 0 0 rfl rfl ?_
  refine z_iload B 2 rfl 4 rfl ?_
  refine z_iconst 1 B 3 rfl (by decide) ?_
  refine z_iadd B 4 rfl ?_
  obtain ⟨hx, hf⟩ := rsc_e hf
  refine z_sld hs B 5 rfl hx ?_
  obtain ⟨v109, ex, hf⟩ := nm_x hf
  refine z_top ex ?_
  refine z_aload_n B 6 rfl 0 0 rfl rfl ?_
  refine z_iload B 7 rfl 4 rfl ?_
  refine z_iconst 2 B 8 rfl (by decide) ?_
  refine z_iadd B 9 rfl ?_
  obtain ⟨hx, hf⟩ := rsc_e hf
  refine z_sld hs B 10 rfl hx ?_
  obtain ⟨v110, ex, hf⟩ := nm_x hf
  refine z_top ex ?_
  obtain ⟨r111, ec, hf⟩ := bd_e hf
  refine z_callV 14 6 [.int v109, .int v110] [] [.int r111] X B 11 rfl ob_14 rfl rfl miX6_worth ⟨(iL_law _ (List.mem_of_getElem? (i := 100) rfl)), (iL_law _ (List.mem_of_getElem? (i := 101) rfl)), (iL_law _ (List.mem_of_getElem? (i := 102) rfl))⟩ (ctX6_worth hj ec) ⟨Nat.le_of_ble_eq_true rfl, Nat.le_of_ble_eq_true rfl⟩ rfl rfl (Nat.le_of_ble_eq_true rfl) rfl ?_
  refine z_aload_n B 12 rfl 2 2 rfl rfl ?_
  refine z_aload_n B 13 rfl 0 0 rfl rfl ?_
  refine z_iload B 14 rfl 4 rfl ?_
  refine z_iconst 1 B 15 rfl (by decide) ?_
  refine z_iadd B 16 rfl ?_
  obtain ⟨hx, hf⟩ := rsc_e hf
  refine z_sld hs B 17 rfl hx ?_
  obtain ⟨v112, ex, hf⟩ := nm_x hf
  refine z_top ex ?_
  refine z_aload_n B 18 rfl 0 0 rfl rfl ?_
  refine z_iload B 19 rfl 4 rfl ?_
  refine z_iconst 2 B 20 rfl (by decide) ?_
  refine z_iadd B 21 rfl ?_
  obtain ⟨hx, hf⟩ := rsc_e hf
  refine z_sld hs B 22 rfl hx ?_
  obtain ⟨v113, ex, hf⟩ := nm_x hf
  refine z_top ex ?_
  obtain ⟨r114, ec, hf⟩ := bd_e hf
  refine z_callV 0 7 [.int v112, .int v113] [.int r111] [.int r114.1, .int r111] X B 23 rfl ob_0 rfl rfl miX7_worth ⟨(iL_law _ (List.mem_of_getElem? (i := 103) rfl)), (iL_law _ (List.mem_of_getElem? (i := 104) rfl)), (iL_law _ (List.mem_of_getElem? (i := 105) rfl))⟩ (ctX7_worth hj ec) ⟨Nat.le_of_ble_eq_true rfl, Nat.le_of_ble_eq_true rfl⟩ rfl rfl (Nat.le_of_ble_eq_true rfl) rfl ?_
  by_cases hc : r111 = r114.1
  · replace hf := (if_pos hc).symm.trans hf
    refine z_icmp_eq_t B 24 rfl 1579 (by decide) hc ?_
    exact fL_law_j1579_ok hj hfl X B0 hs hK hk23 _ _ hf
  · replace hf := (if_neg hc).symm.trans hf
    refine z_icmp_eq_f B 24 rfl 1579 (by decide) hc ?_
    refine z_iconst 0 B 25 rfl (by decide) ?_
    exact absurd (Option.some.inj hf) (by decide)
def fL_law_j971 (L : Nat) (xs : Nat → Int32) (k23 : Int32 → Mem → Option Int32) (x4 : Int32) (mm : Mem) : Option Int32 := rsc L (x4 + (1 : Int32)) (nm (xs (x4 + (1 : Int32)).toNatClampNeg) (fun v115 => rsc L (x4 + (2 : Int32)) (nm (xs (x4 + (2 : Int32)).toNatClampNeg) (fun v116 => bd (f6_wants mm v115 v116) (fun r117 => rsc L (x4 + (1 : Int32)) (nm (xs (x4 + (1 : Int32)).toNatClampNeg) (fun v118 => rsc L (x4 + (2 : Int32)) (nm (xs (x4 + (2 : Int32)).toNatClampNeg) (fun v119 => bd (f7_wants mm v118 v119) (fun r120 => if r117 = r120.1 then fL_law_j1579 L xs k23 x4 r120.2 else some (0 : Int32)))))))))))
def tbfL_law_j971 : Tb := [(971, .aload_n 1, 1, 972), (972, .aload_n 0, 1, 973), (973, .iload 4, 2, 975), (975, .iconst 1, 1, 976), (976, .iadd, 1, 977), (977, .iaload, 1, 978), (978, .aload_n 0, 1, 979), (979, .iload 4, 2, 981), (981, .iconst 2, 1, 982), (982, .iadd, 1, 983), (983, .iaload, 1, 984), (984, .invokevirtual 103, 3, 987), (987, .aload_n 2, 1, 988), (988, .aload_n 0, 1, 989), (989, .iload 4, 2, 991), (991, .iconst 1, 1, 992), (992, .iadd, 1, 993), (993, .iaload, 1, 994), (994, .aload_n 0, 1, 995), (995, .iload 4, 2, 997), (997, .iconst 2, 1, 998), (998, .iadd, 1, 999), (999, .iaload, 1, 1000), (1000, .invokevirtual 106, 3, 1003), (1003, .if_icmp .eq 576, 3, 1006), (1006, .iconst 0, 1, 1007), (1007, .ireturn, 1, 1008)]
theorem dtfL_law_j971 : ∀ q ∈ tbfL_law_j971, decode code q.1 = .ok (q.2.1, q.2.2.1) ∧ q.1 + q.2.2.1 = q.2.2.2 := by decide +kernel
theorem fL_law_j971_ok {E : Ev} {l : Launch} {C : Cfg} {L : Nat} {xs : Nat → Int32} {k23 : Int32 → Mem → Option Int32} {kN nN : Nat} (hj : Dj C) (hfl : l.stackTraces = false) (X : Ec E l C room_1) (B0 : BL E) (hs : Sc E L xs) (hK : kle E kN nN) (hk23 : ∀ (x4 : Int32) (mm : Mem), k23 x4 mm = some 1 → G (setk E kN nN) 7 23 [(0, .ref 5000), (1, .ref 14), (2, .ref 0), (3, .ref 133), (4, .int x4)] [] mm) (hK1 : kle1 E kN nN) (x4 : Int32) (mm : Mem) (hf : fL_law_j971 L xs k23 x4 mm = some 1) : G E 7 971 [(0, .ref 5000), (1, .ref 14), (2, .ref 0), (3, .ref 133), (4, .int x4)] [] mm := by
  have B := B0.to dtfL_law_j971
  unfold fL_law_j971 at hf
  refine z_aload_n B 0 rfl 1 1 rfl rfl ?_
  refine z_aload_n B 1 rfl 0 0 rfl rfl ?_
  refine z_iload B 2 rfl 4 rfl ?_
  refine z_iconst 1 B 3 rfl (by decide) ?_
  refine z_iadd B 4 rfl ?_
  obtain ⟨hx, hf⟩ := rsc_e hf
  refine z_sld hs B 5 rfl hx ?_
  obtain ⟨v115, ex, hf⟩ := nm_x hf
  refine z_top ex ?_
  refine z_aload_n B 6 rfl 0 0 rfl rfl ?_
  refine z_iload B 7 rfl 4 rfl ?_
  refine z_iconst 2 B 8 rfl (by decide) ?_
  refine z_iadd B 9 rfl ?_
  obtain ⟨hx, hf⟩ := rsc_e hf
  refine z_sld hs B 10 rfl hx ?_
  obtain ⟨v116, ex, hf⟩ := nm_x hf
  refine z_top ex ?_
  obtain ⟨r117, ec, hf⟩ := bd_e hf
  refine z_callV 14 6 [.int v115, .int v116] [] [.int r117] X B 11 rfl ob_14 rfl rfl miX6_wants ⟨(iL_law _ (List.mem_of_getElem? (i := 106) rfl)), (iL_law _ (List.mem_of_getElem? (i := 107) rfl)), (iL_law _ (List.mem_of_getElem? (i := 108) rfl))⟩ (ctX6_wants hj ec) ⟨Nat.le_of_ble_eq_true rfl, Nat.le_of_ble_eq_true rfl⟩ rfl rfl (Nat.le_of_ble_eq_true rfl) rfl ?_
  refine z_aload_n B 12 rfl 2 2 rfl rfl ?_
  refine z_aload_n B 13 rfl 0 0 rfl rfl ?_
  refine z_iload B 14 rfl 4 rfl ?_
  refine z_iconst 1 B 15 rfl (by decide) ?_
  refine z_iadd B 16 rfl ?_
  obtain ⟨hx, hf⟩ := rsc_e hf
  refine z_sld hs B 17 rfl hx ?_
  obtain ⟨v118, ex, hf⟩ := nm_x hf
  refine z_top ex ?_
  refine z_aload_n B 18 rfl 0 0 rfl rfl ?_
  refine z_iload B 19 rfl 4 rfl ?_
  refine z_iconst 2 B 20 rfl (by decide) ?_
  refine z_iadd B 21 rfl ?_
  obtain ⟨hx, hf⟩ := rsc_e hf
  refine z_sld hs B 22 rfl hx ?_
  obtain ⟨v119, ex, hf⟩ := nm_x hf
  refine z_top ex ?_
  obtain ⟨r120, ec, hf⟩ := bd_e hf
  refine z_callV 0 7 [.int v118, .int v119] [.int r117] [.int r120.1, .int r117] X B 23 rfl ob_0 rfl rfl miX7_wants ⟨(iL_law _ (List.mem_of_getElem? (i := 109) rfl)), (iL_law _ (List.mem_of_getElem? (i := 110) rfl)), (iL_law _ (List.mem_of_getElem? (i := 111) rfl))⟩ (ctX7_wants hj ec) ⟨Nat.le_of_ble_eq_true rfl, Nat.le_of_ble_eq_true rfl⟩ rfl rfl (Nat.le_of_ble_eq_true rfl) rfl ?_
  by_cases hc : r117 = r120.1
  · replace hf := (if_pos hc).symm.trans hf
    refine z_icmp_eq_t B 24 rfl 1579 (by decide) hc ?_
    exact fL_law_j1579_ok hj hfl X B0 hs hK hk23 _ _ hf
  · replace hf := (if_neg hc).symm.trans hf
    refine z_icmp_eq_f B 24 rfl 1579 (by decide) hc ?_
    refine z_iconst 0 B 25 rfl (by decide) ?_
    exact absurd (Option.some.inj hf) (by decide)
def fL_law_j1065 (L : Nat) (xs : Nat → Int32) (k23 : Int32 → Mem → Option Int32) (x4 : Int32) (s0 : Int32) (s1 : Int32) (s2 : Int32) (s4 : Int32) (mm : Mem) : Option Int32 := bd (f7_level mm s2 s1 s0) (fun r128 => if s4 = r128.1 then fL_law_j1579 L xs k23 x4 r128.2 else some (0 : Int32))
def tbfL_law_j1065 : Tb := [(1065, .invokevirtual 110, 3, 1068), (1068, .if_icmp .eq 511, 3, 1071), (1071, .iconst 0, 1, 1072), (1072, .ireturn, 1, 1073)]
theorem dtfL_law_j1065 : ∀ q ∈ tbfL_law_j1065, decode code q.1 = .ok (q.2.1, q.2.2.1) ∧ q.1 + q.2.2.1 = q.2.2.2 := by decide +kernel
theorem fL_law_j1065_ok {E : Ev} {l : Launch} {C : Cfg} {L : Nat} {xs : Nat → Int32} {k23 : Int32 → Mem → Option Int32} {kN nN : Nat} (hj : Dj C) (hfl : l.stackTraces = false) (X : Ec E l C room_1) (B0 : BL E) (hs : Sc E L xs) (hK : kle E kN nN) (hk23 : ∀ (x4 : Int32) (mm : Mem), k23 x4 mm = some 1 → G (setk E kN nN) 7 23 [(0, .ref 5000), (1, .ref 14), (2, .ref 0), (3, .ref 133), (4, .int x4)] [] mm) (x4 : Int32) (s0 : Int32) (s1 : Int32) (s2 : Int32) (s4 : Int32) (mm : Mem) (hf : fL_law_j1065 L xs k23 x4 s0 s1 s2 s4 mm = some 1) : G E 7 1065 [(0, .ref 5000), (1, .ref 14), (2, .ref 0), (3, .ref 133), (4, .int x4)] [.int s0, .int s1, .int s2, .ref 0, .int s4] mm := by
  have B := B0.to dtfL_law_j1065
  unfold fL_law_j1065 at hf
  obtain ⟨r128, ec, hf⟩ := bd_e hf
  refine z_callV 0 7 [.int s2, .int s1, .int s0] [.int s4] [.int r128.1, .int s4] X B 0 rfl ob_0 rfl rfl miX7_level ⟨(iL_law _ (List.mem_of_getElem? (i := 115) rfl)), (iL_law _ (List.mem_of_getElem? (i := 116) rfl)), (iL_law _ (List.mem_of_getElem? (i := 117) rfl))⟩ (ctX7_level hj ec) ⟨Nat.le_of_ble_eq_true rfl, Nat.le_of_ble_eq_true rfl⟩ rfl rfl (Nat.le_of_ble_eq_true rfl) rfl ?_
  by_cases hc : s4 = r128.1
  · replace hf := (if_pos hc).symm.trans hf
    refine z_icmp_eq_t B 1 rfl 1579 (by decide) hc ?_
    exact fL_law_j1579_ok hj hfl X B0 hs hK hk23 _ _ hf
  · replace hf := (if_neg hc).symm.trans hf
    refine z_icmp_eq_f B 1 rfl 1579 (by decide) hc ?_
    refine z_iconst 0 B 2 rfl (by decide) ?_
    exact absurd (Option.some.inj hf) (by decide)
def fL_law_j1035 (L : Nat) (xs : Nat → Int32) (k23 : Int32 → Mem → Option Int32) (x4 : Int32) (s0 : Int32) (s1 : Int32) (s2 : Int32) (mm : Mem) : Option Int32 := bd (f6_level mm s2 s1 s0) (fun r124 => rsc L (x4 + (1 : Int32)) (nm (xs (x4 + (1 : Int32)).toNatClampNeg) (fun v125 => rsc L (x4 + (2 : Int32)) (nm (xs (x4 + (2 : Int32)).toNatClampNeg) (fun v126 => rsc L (x4 + (3 : Int32)) (nm (xs (x4 + (3 : Int32)).toNatClampNeg) (fun v127 => if v127 = 0 then fL_law_j1065 L xs k23 x4 (0 : Int32) v126 v125 r124.1 r124.2 else fL_law_j1065 L xs k23 x4 (1 : Int32) v126 v125 r124.1 r124.2)))))))
def tbfL_law_j1035 : Tb := [(1035, .invokevirtual 107, 3, 1038), (1038, .aload_n 2, 1, 1039), (1039, .aload_n 0, 1, 1040), (1040, .iload 4, 2, 1042), (1042, .iconst 1, 1, 1043), (1043, .iadd, 1, 1044), (1044, .iaload, 1, 1045), (1045, .aload_n 0, 1, 1046), (1046, .iload 4, 2, 1048), (1048, .iconst 2, 1, 1049), (1049, .iadd, 1, 1050), (1050, .iaload, 1, 1051), (1051, .aload_n 0, 1, 1052), (1052, .iload 4, 2, 1054), (1054, .iconst 3, 1, 1055), (1055, .iadd, 1, 1056), (1056, .iaload, 1, 1057), (1057, .ifCond .eq 7, 3, 1060), (1064, .iconst 0, 1, 1065), (1060, .iconst 1, 1, 1061), (1061, .goto 4, 3, 1064)]
theorem dtfL_law_j1035 : ∀ q ∈ tbfL_law_j1035, decode code q.1 = .ok (q.2.1, q.2.2.1) ∧ q.1 + q.2.2.1 = q.2.2.2 := by decide +kernel
theorem fL_law_j1035_ok {E : Ev} {l : Launch} {C : Cfg} {L : Nat} {xs : Nat → Int32} {k23 : Int32 → Mem → Option Int32} {kN nN : Nat} (hj : Dj C) (hfl : l.stackTraces = false) (X : Ec E l C room_1) (B0 : BL E) (hs : Sc E L xs) (hK : kle E kN nN) (hk23 : ∀ (x4 : Int32) (mm : Mem), k23 x4 mm = some 1 → G (setk E kN nN) 7 23 [(0, .ref 5000), (1, .ref 14), (2, .ref 0), (3, .ref 133), (4, .int x4)] [] mm) (x4 : Int32) (s0 : Int32) (s1 : Int32) (s2 : Int32) (mm : Mem) (hf : fL_law_j1035 L xs k23 x4 s0 s1 s2 mm = some 1) : G E 7 1035 [(0, .ref 5000), (1, .ref 14), (2, .ref 0), (3, .ref 133), (4, .int x4)] [.int s0, .int s1, .int s2, .ref 14] mm := by
  have B := B0.to dtfL_law_j1035
  unfold fL_law_j1035 at hf
  obtain ⟨r124, ec, hf⟩ := bd_e hf
  refine z_callV 14 6 [.int s2, .int s1, .int s0] [] [.int r124.1] X B 0 rfl ob_14 rfl rfl miX6_level ⟨(iL_law _ (List.mem_of_getElem? (i := 112) rfl)), (iL_law _ (List.mem_of_getElem? (i := 113) rfl)), (iL_law _ (List.mem_of_getElem? (i := 114) rfl))⟩ (ctX6_level hj ec) ⟨Nat.le_of_ble_eq_true rfl, Nat.le_of_ble_eq_true rfl⟩ rfl rfl (Nat.le_of_ble_eq_true rfl) rfl ?_
  refine z_aload_n B 1 rfl 2 2 rfl rfl ?_
  refine z_aload_n B 2 rfl 0 0 rfl rfl ?_
  refine z_iload B 3 rfl 4 rfl ?_
  refine z_iconst 1 B 4 rfl (by decide) ?_
  refine z_iadd B 5 rfl ?_
  obtain ⟨hx, hf⟩ := rsc_e hf
  refine z_sld hs B 6 rfl hx ?_
  obtain ⟨v125, ex, hf⟩ := nm_x hf
  refine z_top ex ?_
  refine z_aload_n B 7 rfl 0 0 rfl rfl ?_
  refine z_iload B 8 rfl 4 rfl ?_
  refine z_iconst 2 B 9 rfl (by decide) ?_
  refine z_iadd B 10 rfl ?_
  obtain ⟨hx, hf⟩ := rsc_e hf
  refine z_sld hs B 11 rfl hx ?_
  obtain ⟨v126, ex, hf⟩ := nm_x hf
  refine z_top ex ?_
  refine z_aload_n B 12 rfl 0 0 rfl rfl ?_
  refine z_iload B 13 rfl 4 rfl ?_
  refine z_iconst 3 B 14 rfl (by decide) ?_
  refine z_iadd B 15 rfl ?_
  obtain ⟨hx, hf⟩ := rsc_e hf
  refine z_sld hs B 16 rfl hx ?_
  obtain ⟨v127, ex, hf⟩ := nm_x hf
  refine z_top ex ?_
  by_cases hc : v127 = 0
  · replace hf := (if_pos hc).symm.trans hf
    refine z_if_eq_t B 17 rfl 1064 (by decide) hc ?_
    refine z_iconst 0 B 18 rfl (by decide) ?_
    exact fL_law_j1065_ok hj hfl X B0 hs hK hk23 _ _ _ _ _ _ hf
  · replace hf := (if_neg hc).symm.trans hf
    refine z_if_eq_f B 17 rfl 1064 (by decide) hc ?_
    refine z_iconst 1 B 19 rfl (by decide) ?_
    refine z_goto B 20 rfl 1065 (by decide) ?_
    exact fL_law_j1065_ok hj hfl X B0 hs hK hk23 _ _ _ _ _ _ hf
def fL_law_j1008 (L : Nat) (xs : Nat → Int32) (k23 : Int32 → Mem → Option Int32) (x4 : Int32) (mm : Mem) : Option Int32 := rsc L (x4 + (1 : Int32)) (nm (xs (x4 + (1 : Int32)).toNatClampNeg) (fun v121 => rsc L (x4 + (2 : Int32)) (nm (xs (x4 + (2 : Int32)).toNatClampNeg) (fun v122 => rsc L (x4 + (3 : Int32)) (nm (xs (x4 + (3 : Int32)).toNatClampNeg) (fun v123 => if v123 = 0 then fL_law_j1035 L xs k23 x4 (0 : Int32) v122 v121 mm else fL_law_j1035 L xs k23 x4 (1 : Int32) v122 v121 mm))))))
def tbfL_law_j1008 : Tb := [(1008, .aload_n 1, 1, 1009), (1009, .aload_n 0, 1, 1010), (1010, .iload 4, 2, 1012), (1012, .iconst 1, 1, 1013), (1013, .iadd, 1, 1014), (1014, .iaload, 1, 1015), (1015, .aload_n 0, 1, 1016), (1016, .iload 4, 2, 1018), (1018, .iconst 2, 1, 1019), (1019, .iadd, 1, 1020), (1020, .iaload, 1, 1021), (1021, .aload_n 0, 1, 1022), (1022, .iload 4, 2, 1024), (1024, .iconst 3, 1, 1025), (1025, .iadd, 1, 1026), (1026, .iaload, 1, 1027), (1027, .ifCond .eq 7, 3, 1030), (1034, .iconst 0, 1, 1035), (1030, .iconst 1, 1, 1031), (1031, .goto 4, 3, 1034)]
theorem dtfL_law_j1008 : ∀ q ∈ tbfL_law_j1008, decode code q.1 = .ok (q.2.1, q.2.2.1) ∧ q.1 + q.2.2.1 = q.2.2.2 := by decide +kernel
theorem fL_law_j1008_ok {E : Ev} {l : Launch} {C : Cfg} {L : Nat} {xs : Nat → Int32} {k23 : Int32 → Mem → Option Int32} {kN nN : Nat} (hj : Dj C) (hfl : l.stackTraces = false) (X : Ec E l C room_1) (B0 : BL E) (hs : Sc E L xs) (hK : kle E kN nN) (hk23 : ∀ (x4 : Int32) (mm : Mem), k23 x4 mm = some 1 → G (setk E kN nN) 7 23 [(0, .ref 5000), (1, .ref 14), (2, .ref 0), (3, .ref 133), (4, .int x4)] [] mm) (hK1 : kle1 E kN nN) (x4 : Int32) (mm : Mem) (hf : fL_law_j1008 L xs k23 x4 mm = some 1) : G E 7 1008 [(0, .ref 5000), (1, .ref 14), (2, .ref 0), (3, .ref 133), (4, .int x4)] [] mm := by
  have B := B0.to dtfL_law_j1008
  unfold fL_law_j1008 at hf
  refine z_aload_n B 0 rfl 1 1 rfl rfl ?_
  refine z_aload_n B 1 rfl 0 0 rfl rfl ?_
  refine z_iload B 2 rfl 4 rfl ?_
  refine z_iconst 1 B 3 rfl (by decide) ?_
  refine z_iadd B 4 rfl ?_
  obtain ⟨hx, hf⟩ := rsc_e hf
  refine z_sld hs B 5 rfl hx ?_
  obtain ⟨v121, ex, hf⟩ := nm_x hf
  refine z_top ex ?_
  refine z_aload_n B 6 rfl 0 0 rfl rfl ?_
  refine z_iload B 7 rfl 4 rfl ?_
  refine z_iconst 2 B 8 rfl (by decide) ?_
  refine z_iadd B 9 rfl ?_
  obtain ⟨hx, hf⟩ := rsc_e hf
  refine z_sld hs B 10 rfl hx ?_
  obtain ⟨v122, ex, hf⟩ := nm_x hf
  refine z_top ex ?_
  refine z_aload_n B 11 rfl 0 0 rfl rfl ?_
  refine z_iload B 12 rfl 4 rfl ?_
  refine z_iconst 3 B 13 rfl (by decide) ?_
  refine z_iadd B 14 rfl ?_
  obtain ⟨hx, hf⟩ := rsc_e hf
  refine z_sld hs B 15 rfl hx ?_
  obtain ⟨v123, ex, hf⟩ := nm_x hf
  refine z_top ex ?_
  by_cases hc : v123 = 0
  · replace hf := (if_pos hc).symm.trans hf
    refine z_if_eq_t B 16 rfl 1034 (by decide) hc ?_
    refine z_iconst 0 B 17 rfl (by decide) ?_
    exact fL_law_j1035_ok hj hfl X B0 hs hK hk23 _ _ _ _ _ hf
  · replace hf := (if_neg hc).symm.trans hf
    refine z_if_eq_f B 16 rfl 1034 (by decide) hc ?_
    refine z_iconst 1 B 18 rfl (by decide) ?_
    refine z_goto B 19 rfl 1035 (by decide) ?_
    exact fL_law_j1035_ok hj hfl X B0 hs hK hk23 _ _ _ _ _ hf
def fL_law_j1073 (L : Nat) (xs : Nat → Int32) (k23 : Int32 → Mem → Option Int32) (x4 : Int32) (mm : Mem) : Option Int32 := rsc L (x4 + (1 : Int32)) (nm (xs (x4 + (1 : Int32)).toNatClampNeg) (fun v129 => bd (f6_price mm v129) (fun r130 => rsc L (x4 + (1 : Int32)) (nm (xs (x4 + (1 : Int32)).toNatClampNeg) (fun v131 => bd (f7_price r130.2 v131) (fun r132 => if r130.1 = r132.1 then fL_law_j1579 L xs k23 x4 r132.2 else some (0 : Int32)))))))
def tbfL_law_j1073 : Tb := [(1073, .aload_n 1, 1, 1074), (1074, .aload_n 0, 1, 1075), (1075, .iload 4, 2, 1077), (1077, .iconst 1, 1, 1078), (1078, .iadd, 1, 1079), (1079, .iaload, 1, 1080), (1080, .invokevirtual 111, 3, 1083), (1083, .aload_n 2, 1, 1084), (1084, .aload_n 0, 1, 1085), (1085, .iload 4, 2, 1087), (1087, .iconst 1, 1, 1088), (1088, .iadd, 1, 1089), (1089, .iaload, 1, 1090), (1090, .invokevirtual 114, 3, 1093), (1093, .if_icmp .eq 486, 3, 1096), (1096, .iconst 0, 1, 1097), (1097, .ireturn, 1, 1098)]
theorem dtfL_law_j1073 : ∀ q ∈ tbfL_law_j1073, decode code q.1 = .ok (q.2.1, q.2.2.1) ∧ q.1 + q.2.2.1 = q.2.2.2 := by decide +kernel
theorem fL_law_j1073_ok {E : Ev} {l : Launch} {C : Cfg} {L : Nat} {xs : Nat → Int32} {k23 : Int32 → Mem → Option Int32} {kN nN : Nat} (hj : Dj C) (hfl : l.stackTraces = false) (X : Ec E l C room_1) (B0 : BL E) (hs : Sc E L xs) (hK : kle E kN nN) (hk23 : ∀ (x4 : Int32) (mm : Mem), k23 x4 mm = some 1 → G (setk E kN nN) 7 23 [(0, .ref 5000), (1, .ref 14), (2, .ref 0), (3, .ref 133), (4, .int x4)] [] mm) (hK1 : kle1 E kN nN) (x4 : Int32) (mm : Mem) (hf : fL_law_j1073 L xs k23 x4 mm = some 1) : G E 7 1073 [(0, .ref 5000), (1, .ref 14), (2, .ref 0), (3, .ref 133), (4, .int x4)] [] mm := by
  have B := B0.to dtfL_law_j1073
  unfold fL_law_j1073 at hf
  refine z_aload_n B 0 rfl 1 1 rfl rfl ?_
  refine z_aload_n B 1 rfl 0 0 rfl rfl ?_
  refine z_iload B 2 rfl 4 rfl ?_
  refine z_iconst 1 B 3 rfl (by decide) ?_
  refine z_iadd B 4 rfl ?_
  obtain ⟨hx, hf⟩ := rsc_e hf
  refine z_sld hs B 5 rfl hx ?_
  obtain ⟨v129, ex, hf⟩ := nm_x hf
  refine z_top ex ?_
  obtain ⟨r130, ec, hf⟩ := bd_e hf
  refine z_callV 14 6 [.int v129] [] [.int r130.1] X B 6 rfl ob_14 rfl rfl miX6_price ⟨(iL_law _ (List.mem_of_getElem? (i := 118) rfl)), (iL_law _ (List.mem_of_getElem? (i := 119) rfl)), (iL_law _ (List.mem_of_getElem? (i := 120) rfl))⟩ (ctX6_price hj ec) ⟨Nat.le_of_ble_eq_true rfl, Nat.le_of_ble_eq_true rfl⟩ rfl rfl (Nat.le_of_ble_eq_true rfl) rfl ?_
  refine z_aload_n B 7 rfl 2 2 rfl rfl ?_
  refine z_aload_n B 8 rfl 0 0 rfl rfl ?_
  refine z_iload B 9 rfl 4 rfl ?_
  refine z_iconst 1 B 10 rfl (by decide) ?_
  refine z_iadd B 11 rfl ?_
  obtain ⟨hx, hf⟩ := rsc_e hf
  refine z_sld hs B 12 rfl hx ?_
  obtain ⟨v131, ex, hf⟩ := nm_x hf
  refine z_top ex ?_
  obtain ⟨r132, ec, hf⟩ := bd_e hf
  refine z_callV 0 7 [.int v131] [.int r130.1] [.int r132.1, .int r130.1] X B 13 rfl ob_0 rfl rfl miX7_price ⟨(iL_law _ (List.mem_of_getElem? (i := 121) rfl)), (iL_law _ (List.mem_of_getElem? (i := 122) rfl)), (iL_law _ (List.mem_of_getElem? (i := 123) rfl))⟩ (ctX7_price hj ec) ⟨Nat.le_of_ble_eq_true rfl, Nat.le_of_ble_eq_true rfl⟩ rfl rfl (Nat.le_of_ble_eq_true rfl) rfl ?_
  by_cases hc : r130.1 = r132.1
  · replace hf := (if_pos hc).symm.trans hf
    refine z_icmp_eq_t B 14 rfl 1579 (by decide) hc ?_
    exact fL_law_j1579_ok hj hfl X B0 hs hK hk23 _ _ hf
  · replace hf := (if_neg hc).symm.trans hf
    refine z_icmp_eq_f B 14 rfl 1579 (by decide) hc ?_
    refine z_iconst 0 B 15 rfl (by decide) ?_
    exact absurd (Option.some.inj hf) (by decide)
def fL_law_j1098 (L : Nat) (xs : Nat → Int32) (k23 : Int32 → Mem → Option Int32) (x4 : Int32) (mm : Mem) : Option Int32 := rsc L (x4 + (1 : Int32)) (nm (xs (x4 + (1 : Int32)).toNatClampNeg) (fun v133 => bd (f6_net mm v133) (fun r134 => rsc L (x4 + (1 : Int32)) (nm (xs (x4 + (1 : Int32)).toNatClampNeg) (fun v135 => bd (f7_net r134.2 v135) (fun r136 => if r134.1 = r136.1 then fL_law_j1579 L xs k23 x4 r136.2 else some (0 : Int32)))))))
def tbfL_law_j1098 : Tb := [(1098, .aload_n 1, 1, 1099), (1099, .aload_n 0, 1, 1100), (1100, .iload 4, 2, 1102), (1102, .iconst 1, 1, 1103), (1103, .iadd, 1, 1104), (1104, .iaload, 1, 1105), (1105, .invokevirtual 115, 3, 1108), (1108, .aload_n 2, 1, 1109), (1109, .aload_n 0, 1, 1110), (1110, .iload 4, 2, 1112), (1112, .iconst 1, 1, 1113), (1113, .iadd, 1, 1114), (1114, .iaload, 1, 1115), (1115, .invokevirtual 118, 3, 1118), (1118, .if_icmp .eq 461, 3, 1121), (1121, .iconst 0, 1, 1122), (1122, .ireturn, 1, 1123)]
theorem dtfL_law_j1098 : ∀ q ∈ tbfL_law_j1098, decode code q.1 = .ok (q.2.1, q.2.2.1) ∧ q.1 + q.2.2.1 = q.2.2.2 := by decide +kernel
theorem fL_law_j1098_ok {E : Ev} {l : Launch} {C : Cfg} {L : Nat} {xs : Nat → Int32} {k23 : Int32 → Mem → Option Int32} {kN nN : Nat} (hj : Dj C) (hfl : l.stackTraces = false) (X : Ec E l C room_1) (B0 : BL E) (hs : Sc E L xs) (hK : kle E kN nN) (hk23 : ∀ (x4 : Int32) (mm : Mem), k23 x4 mm = some 1 → G (setk E kN nN) 7 23 [(0, .ref 5000), (1, .ref 14), (2, .ref 0), (3, .ref 133), (4, .int x4)] [] mm) (hK1 : kle1 E kN nN) (x4 : Int32) (mm : Mem) (hf : fL_law_j1098 L xs k23 x4 mm = some 1) : G E 7 1098 [(0, .ref 5000), (1, .ref 14), (2, .ref 0), (3, .ref 133), (4, .int x4)] [] mm := by
  have B := B0.to dtfL_law_j1098
  unfold fL_law_j1098 at hf
  refine z_aload_n B 0 rfl 1 1 rfl rfl ?_
  refine z_aload_n B 1 rfl 0 0 rfl rfl ?_
  refine z_iload B 2 rfl 4 rfl ?_
  refine z_iconst 1 B 3 rfl (by decide) ?_
  refine z_iadd B 4 rfl ?_
  obtain ⟨hx, hf⟩ := rsc_e hf
  refine z_sld hs B 5 rfl hx ?_
  obtain ⟨v133, ex, hf⟩ := nm_x hf
  refine z_top ex ?_
  obtain ⟨r134, ec, hf⟩ := bd_e hf
  refine z_callV 14 6 [.int v133] [] [.int r134.1] X B 6 rfl ob_14 rfl rfl miX6_net ⟨(iL_law _ (List.mem_of_getElem? (i := 124) rfl)), (iL_law _ (List.mem_of_getElem? (i := 125) rfl)), (iL_law _ (List.mem_of_getElem? (i := 126) rfl))⟩ (ctX6_net hj ec) ⟨Nat.le_of_ble_eq_true rfl, Nat.le_of_ble_eq_true rfl⟩ rfl rfl (Nat.le_of_ble_eq_true rfl) rfl ?_
  refine z_aload_n B 7 rfl 2 2 rfl rfl ?_
  refine z_aload_n B 8 rfl 0 0 rfl rfl ?_
  refine z_iload B 9 rfl 4 rfl ?_
  refine z_iconst 1 B 10 rfl (by decide) ?_
  refine z_iadd B 11 rfl ?_
  obtain ⟨hx, hf⟩ := rsc_e hf
  refine z_sld hs B 12 rfl hx ?_
  obtain ⟨v135, ex, hf⟩ := nm_x hf
  refine z_top ex ?_
  obtain ⟨r136, ec, hf⟩ := bd_e hf
  refine z_callV 0 7 [.int v135] [.int r134.1] [.int r136.1, .int r134.1] X B 13 rfl ob_0 rfl rfl miX7_net ⟨(iL_law _ (List.mem_of_getElem? (i := 127) rfl)), (iL_law _ (List.mem_of_getElem? (i := 128) rfl)), (iL_law _ (List.mem_of_getElem? (i := 129) rfl))⟩ (ctX7_net hj ec) ⟨Nat.le_of_ble_eq_true rfl, Nat.le_of_ble_eq_true rfl⟩ rfl rfl (Nat.le_of_ble_eq_true rfl) rfl ?_
  by_cases hc : r134.1 = r136.1
  · replace hf := (if_pos hc).symm.trans hf
    refine z_icmp_eq_t B 14 rfl 1579 (by decide) hc ?_
    exact fL_law_j1579_ok hj hfl X B0 hs hK hk23 _ _ hf
  · replace hf := (if_neg hc).symm.trans hf
    refine z_icmp_eq_f B 14 rfl 1579 (by decide) hc ?_
    refine z_iconst 0 B 15 rfl (by decide) ?_
    exact absurd (Option.some.inj hf) (by decide)
def fL_law_j1123 (L : Nat) (xs : Nat → Int32) (k23 : Int32 → Mem → Option Int32) (x4 : Int32) (mm : Mem) : Option Int32 := rsc L (x4 + (1 : Int32)) (nm (xs (x4 + (1 : Int32)).toNatClampNeg) (fun v137 => bd (f6_served mm v137) (fun r138 => rsc L (x4 + (1 : Int32)) (nm (xs (x4 + (1 : Int32)).toNatClampNeg) (fun v139 => bd (f7_served r138.2 v139) (fun r140 => if r138.1 = r140.1 then fL_law_j1579 L xs k23 x4 r140.2 else some (0 : Int32)))))))
def tbfL_law_j1123 : Tb := [(1123, .aload_n 1, 1, 1124), (1124, .aload_n 0, 1, 1125), (1125, .iload 4, 2, 1127), (1127, .iconst 1, 1, 1128), (1128, .iadd, 1, 1129), (1129, .iaload, 1, 1130), (1130, .invokevirtual 119, 3, 1133), (1133, .aload_n 2, 1, 1134), (1134, .aload_n 0, 1, 1135), (1135, .iload 4, 2, 1137), (1137, .iconst 1, 1, 1138), (1138, .iadd, 1, 1139), (1139, .iaload, 1, 1140), (1140, .invokevirtual 122, 3, 1143), (1143, .if_icmp .eq 436, 3, 1146), (1146, .iconst 0, 1, 1147), (1147, .ireturn, 1, 1148)]
theorem dtfL_law_j1123 : ∀ q ∈ tbfL_law_j1123, decode code q.1 = .ok (q.2.1, q.2.2.1) ∧ q.1 + q.2.2.1 = q.2.2.2 := by decide +kernel
theorem fL_law_j1123_ok {E : Ev} {l : Launch} {C : Cfg} {L : Nat} {xs : Nat → Int32} {k23 : Int32 → Mem → Option Int32} {kN nN : Nat} (hj : Dj C) (hfl : l.stackTraces = false) (X : Ec E l C room_1) (B0 : BL E) (hs : Sc E L xs) (hK : kle E kN nN) (hk23 : ∀ (x4 : Int32) (mm : Mem), k23 x4 mm = some 1 → G (setk E kN nN) 7 23 [(0, .ref 5000), (1, .ref 14), (2, .ref 0), (3, .ref 133), (4, .int x4)] [] mm) (hK1 : kle1 E kN nN) (x4 : Int32) (mm : Mem) (hf : fL_law_j1123 L xs k23 x4 mm = some 1) : G E 7 1123 [(0, .ref 5000), (1, .ref 14), (2, .ref 0), (3, .ref 133), (4, .int x4)] [] mm := by
  have B := B0.to dtfL_law_j1123
  unfold fL_law_j1123 at hf
  refine z_aload_n B 0 rfl 1 1 rfl rfl ?_
  refine z_aload_n B 1 rfl 0 0 rfl rfl ?_
  refine z_iload B 2 rfl 4 rfl ?_
  refine z_iconst 1 B 3 rfl (by decide) ?_
  refine z_iadd B 4 rfl ?_
  obtain ⟨hx, hf⟩ := rsc_e hf
  refine z_sld hs B 5 rfl hx ?_
  obtain ⟨v137, ex, hf⟩ := nm_x hf
  refine z_top ex ?_
  obtain ⟨r138, ec, hf⟩ := bd_e hf
  refine z_callV 14 6 [.int v137] [] [.int r138.1] X B 6 rfl ob_14 rfl rfl miX6_served ⟨(iL_law _ (List.mem_of_getElem? (i := 130) rfl)), (iL_law _ (List.mem_of_getElem? (i := 131) rfl)), (iL_law _ (List.mem_of_getElem? (i := 132) rfl))⟩ (ctX6_served hj ec) ⟨Nat.le_of_ble_eq_true rfl, Nat.le_of_ble_eq_true rfl⟩ rfl rfl (Nat.le_of_ble_eq_true rfl) rfl ?_
  refine z_aload_n B 7 rfl 2 2 rfl rfl ?_
  refine z_aload_n B 8 rfl 0 0 rfl rfl ?_
  refine z_iload B 9 rfl 4 rfl ?_
  refine z_iconst 1 B 10 rfl (by decide) ?_
  refine z_iadd B 11 rfl ?_
  obtain ⟨hx, hf⟩ := rsc_e hf
  refine z_sld hs B 12 rfl hx ?_
  obtain ⟨v139, ex, hf⟩ := nm_x hf
  refine z_top ex ?_
  obtain ⟨r140, ec, hf⟩ := bd_e hf
  refine z_callV 0 7 [.int v139] [.int r138.1] [.int r140.1, .int r138.1] X B 13 rfl ob_0 rfl rfl miX7_served ⟨(iL_law _ (List.mem_of_getElem? (i := 133) rfl)), (iL_law _ (List.mem_of_getElem? (i := 134) rfl)), (iL_law _ (List.mem_of_getElem? (i := 135) rfl))⟩ (ctX7_served hj ec) ⟨Nat.le_of_ble_eq_true rfl, Nat.le_of_ble_eq_true rfl⟩ rfl rfl (Nat.le_of_ble_eq_true rfl) rfl ?_
  by_cases hc : r138.1 = r140.1
  · replace hf := (if_pos hc).symm.trans hf
    refine z_icmp_eq_t B 14 rfl 1579 (by decide) hc ?_
    exact fL_law_j1579_ok hj hfl X B0 hs hK hk23 _ _ hf
  · replace hf := (if_neg hc).symm.trans hf
    refine z_icmp_eq_f B 14 rfl 1579 (by decide) hc ?_
    refine z_iconst 0 B 15 rfl (by decide) ?_
    exact absurd (Option.some.inj hf) (by decide)
def fL_law_j1148 (L : Nat) (xs : Nat → Int32) (k23 : Int32 → Mem → Option Int32) (x4 : Int32) (mm : Mem) : Option Int32 := rsc L (x4 + (1 : Int32)) (nm (xs (x4 + (1 : Int32)).toNatClampNeg) (fun v141 => rsc L (x4 + (2 : Int32)) (nm (xs (x4 + (2 : Int32)).toNatClampNeg) (fun v142 => bd (f6_taken mm v141 v142) (fun r143 => rsc L (x4 + (1 : Int32)) (nm (xs (x4 + (1 : Int32)).toNatClampNeg) (fun v144 => rsc L (x4 + (2 : Int32)) (nm (xs (x4 + (2 : Int32)).toNatClampNeg) (fun v145 => bd (f7_taken r143.2 v144 v145) (fun r146 => if r143.1 = r146.1 then fL_law_j1579 L xs k23 x4 r146.2 else some (0 : Int32)))))))))))
def tbfL_law_j1148 : Tb := [(1148, .aload_n 1, 1, 1149), (1149, .aload_n 0, 1, 1150), (1150, .iload 4, 2, 1152), (1152, .iconst 1, 1, 1153), (1153, .iadd, 1, 1154), (1154, .iaload, 1, 1155), (1155, .aload_n 0, 1, 1156), (1156, .iload 4, 2, 1158), (1158, .iconst 2, 1, 1159), (1159, .iadd, 1, 1160), (1160, .iaload, 1, 1161), (1161, .invokevirtual 123, 3, 1164), (1164, .aload_n 2, 1, 1165), (1165, .aload_n 0, 1, 1166), (1166, .iload 4, 2, 1168), (1168, .iconst 1, 1, 1169), (1169, .iadd, 1, 1170), (1170, .iaload, 1, 1171), (1171, .aload_n 0, 1, 1172), (1172, .iload 4, 2, 1174), (1174, .iconst 2, 1, 1175), (1175, .iadd, 1, 1176), (1176, .iaload, 1, 1177), (1177, .invokevirtual 126, 3, 1180), (1180, .if_icmp .eq 399, 3, 1183), (1183, .iconst 0, 1, 1184), (1184, .ireturn, 1, 1185)]
theorem dtfL_law_j1148 : ∀ q ∈ tbfL_law_j1148, decode code q.1 = .ok (q.2.1, q.2.2.1) ∧ q.1 + q.2.2.1 = q.2.2.2 := by decide +kernel
theorem fL_law_j1148_ok {E : Ev} {l : Launch} {C : Cfg} {L : Nat} {xs : Nat → Int32} {k23 : Int32 → Mem → Option Int32} {kN nN : Nat} (hj : Dj C) (hfl : l.stackTraces = false) (X : Ec E l C room_1) (B0 : BL E) (hs : Sc E L xs) (hK : kle E kN nN) (hk23 : ∀ (x4 : Int32) (mm : Mem), k23 x4 mm = some 1 → G (setk E kN nN) 7 23 [(0, .ref 5000), (1, .ref 14), (2, .ref 0), (3, .ref 133), (4, .int x4)] [] mm) (hK1 : kle1 E kN nN) (x4 : Int32) (mm : Mem) (hf : fL_law_j1148 L xs k23 x4 mm = some 1) : G E 7 1148 [(0, .ref 5000), (1, .ref 14), (2, .ref 0), (3, .ref 133), (4, .int x4)] [] mm := by
  have B := B0.to dtfL_law_j1148
  unfold fL_law_j1148 at hf
  refine z_aload_n B 0 rfl 1 1 rfl rfl ?_
  refine z_aload_n B 1 rfl 0 0 rfl rfl ?_
  refine z_iload B 2 rfl 4 rfl ?_
  refine z_iconst 1 B 3 rfl (by decide) ?_
  refine z_iadd B 4 rfl ?_
  obtain ⟨hx, hf⟩ := rsc_e hf
  refine z_sld hs B 5 rfl hx ?_
  obtain ⟨v141, ex, hf⟩ := nm_x hf
  refine z_top ex ?_
  refine z_aload_n B 6 rfl 0 0 rfl rfl ?_
  refine z_iload B 7 rfl 4 rfl ?_
  refine z_iconst 2 B 8 rfl (by decide) ?_
  refine z_iadd B 9 rfl ?_
  obtain ⟨hx, hf⟩ := rsc_e hf
  refine z_sld hs B 10 rfl hx ?_
  obtain ⟨v142, ex, hf⟩ := nm_x hf
  refine z_top ex ?_
  obtain ⟨r143, ec, hf⟩ := bd_e hf
  refine z_callV 14 6 [.int v141, .int v142] [] [.int r143.1] X B 11 rfl ob_14 rfl rfl miX6_taken ⟨(iL_law _ (List.mem_of_getElem? (i := 136) rfl)), (iL_law _ (List.mem_of_getElem? (i := 137) rfl)), (iL_law _ (List.mem_of_getElem? (i := 138) rfl))⟩ (ctX6_taken hj ec) ⟨Nat.le_of_ble_eq_true rfl, Nat.le_of_ble_eq_true rfl⟩ rfl rfl (Nat.le_of_ble_eq_true rfl) rfl ?_
  refine z_aload_n B 12 rfl 2 2 rfl rfl ?_
  refine z_aload_n B 13 rfl 0 0 rfl rfl ?_
  refine z_iload B 14 rfl 4 rfl ?_
  refine z_iconst 1 B 15 rfl (by decide) ?_
  refine z_iadd B 16 rfl ?_
  obtain ⟨hx, hf⟩ := rsc_e hf
  refine z_sld hs B 17 rfl hx ?_
  obtain ⟨v144, ex, hf⟩ := nm_x hf
  refine z_top ex ?_
  refine z_aload_n B 18 rfl 0 0 rfl rfl ?_
  refine z_iload B 19 rfl 4 rfl ?_
  refine z_iconst 2 B 20 rfl (by decide) ?_
  refine z_iadd B 21 rfl ?_
  obtain ⟨hx, hf⟩ := rsc_e hf
  refine z_sld hs B 22 rfl hx ?_
  obtain ⟨v145, ex, hf⟩ := nm_x hf
  refine z_top ex ?_
  obtain ⟨r146, ec, hf⟩ := bd_e hf
  refine z_callV 0 7 [.int v144, .int v145] [.int r143.1] [.int r146.1, .int r143.1] X B 23 rfl ob_0 rfl rfl miX7_taken ⟨(iL_law _ (List.mem_of_getElem? (i := 139) rfl)), (iL_law _ (List.mem_of_getElem? (i := 140) rfl)), (iL_law _ (List.mem_of_getElem? (i := 141) rfl))⟩ (ctX7_taken hj ec) ⟨Nat.le_of_ble_eq_true rfl, Nat.le_of_ble_eq_true rfl⟩ rfl rfl (Nat.le_of_ble_eq_true rfl) rfl ?_
  by_cases hc : r143.1 = r146.1
  · replace hf := (if_pos hc).symm.trans hf
    refine z_icmp_eq_t B 24 rfl 1579 (by decide) hc ?_
    exact fL_law_j1579_ok hj hfl X B0 hs hK hk23 _ _ hf
  · replace hf := (if_neg hc).symm.trans hf
    refine z_icmp_eq_f B 24 rfl 1579 (by decide) hc ?_
    refine z_iconst 0 B 25 rfl (by decide) ?_
    exact absurd (Option.some.inj hf) (by decide)
def fL_law_j1185 (L : Nat) (xs : Nat → Int32) (k23 : Int32 → Mem → Option Int32) (x4 : Int32) (mm : Mem) : Option Int32 := rsc L (x4 + (1 : Int32)) (nm (xs (x4 + (1 : Int32)).toNatClampNeg) (fun v147 => bd (f6_binds mm v147) (fun r148 => rsc L (x4 + (1 : Int32)) (nm (xs (x4 + (1 : Int32)).toNatClampNeg) (fun v149 => bd (f7_binds r148.2 v149) (fun r150 => if r148.1 = r150.1 then fL_law_j1579 L xs k23 x4 r150.2 else some (0 : Int32)))))))
def tbfL_law_j1185 : Tb := [(1185, .aload_n 1, 1, 1186), (1186, .aload_n 0, 1, 1187), (1187, .iload 4, 2, 1189), (1189, .iconst 1, 1, 1190), (1190, .iadd, 1, 1191), (1191, .iaload, 1, 1192), (1192, .invokevirtual 127, 3, 1195), (1195, .aload_n 2, 1, 1196), (1196, .aload_n 0, 1, 1197), (1197, .iload 4, 2, 1199), (1199, .iconst 1, 1, 1200), (1200, .iadd, 1, 1201), (1201, .iaload, 1, 1202), (1202, .invokevirtual 130, 3, 1205), (1205, .if_icmp .eq 374, 3, 1208), (1208, .iconst 0, 1, 1209), (1209, .ireturn, 1, 1210)]
theorem dtfL_law_j1185 : ∀ q ∈ tbfL_law_j1185, decode code q.1 = .ok (q.2.1, q.2.2.1) ∧ q.1 + q.2.2.1 = q.2.2.2 := by decide +kernel
theorem fL_law_j1185_ok {E : Ev} {l : Launch} {C : Cfg} {L : Nat} {xs : Nat → Int32} {k23 : Int32 → Mem → Option Int32} {kN nN : Nat} (hj : Dj C) (hfl : l.stackTraces = false) (X : Ec E l C room_1) (B0 : BL E) (hs : Sc E L xs) (hK : kle E kN nN) (hk23 : ∀ (x4 : Int32) (mm : Mem), k23 x4 mm = some 1 → G (setk E kN nN) 7 23 [(0, .ref 5000), (1, .ref 14), (2, .ref 0), (3, .ref 133), (4, .int x4)] [] mm) (hK1 : kle1 E kN nN) (x4 : Int32) (mm : Mem) (hf : fL_law_j1185 L xs k23 x4 mm = some 1) : G E 7 1185 [(0, .ref 5000), (1, .ref 14), (2, .ref 0), (3, .ref 133), (4, .int x4)] [] mm := by
  have B := B0.to dtfL_law_j1185
  unfold fL_law_j1185 at hf
  refine z_aload_n B 0 rfl 1 1 rfl rfl ?_
  refine z_aload_n B 1 rfl 0 0 rfl rfl ?_
  refine z_iload B 2 rfl 4 rfl ?_
  refine z_iconst 1 B 3 rfl (by decide) ?_
  refine z_iadd B 4 rfl ?_
  obtain ⟨hx, hf⟩ := rsc_e hf
  refine z_sld hs B 5 rfl hx ?_
  obtain ⟨v147, ex, hf⟩ := nm_x hf
  refine z_top ex ?_
  obtain ⟨r148, ec, hf⟩ := bd_e hf
  refine z_callV 14 6 [.int v147] [] [.int r148.1] X B 6 rfl ob_14 rfl rfl miX6_binds ⟨(iL_law _ (List.mem_of_getElem? (i := 142) rfl)), (iL_law _ (List.mem_of_getElem? (i := 143) rfl)), (iL_law _ (List.mem_of_getElem? (i := 144) rfl))⟩ (ctX6_binds hj ec) ⟨Nat.le_of_ble_eq_true rfl, Nat.le_of_ble_eq_true rfl⟩ rfl rfl (Nat.le_of_ble_eq_true rfl) rfl ?_
  refine z_aload_n B 7 rfl 2 2 rfl rfl ?_
  refine z_aload_n B 8 rfl 0 0 rfl rfl ?_
  refine z_iload B 9 rfl 4 rfl ?_
  refine z_iconst 1 B 10 rfl (by decide) ?_
  refine z_iadd B 11 rfl ?_
  obtain ⟨hx, hf⟩ := rsc_e hf
  refine z_sld hs B 12 rfl hx ?_
  obtain ⟨v149, ex, hf⟩ := nm_x hf
  refine z_top ex ?_
  obtain ⟨r150, ec, hf⟩ := bd_e hf
  refine z_callV 0 7 [.int v149] [.int r148.1] [.int r150.1, .int r148.1] X B 13 rfl ob_0 rfl rfl miX7_binds ⟨(iL_law _ (List.mem_of_getElem? (i := 145) rfl)), (iL_law _ (List.mem_of_getElem? (i := 146) rfl)), (iL_law _ (List.mem_of_getElem? (i := 147) rfl))⟩ (ctX7_binds hj ec) ⟨Nat.le_of_ble_eq_true rfl, Nat.le_of_ble_eq_true rfl⟩ rfl rfl (Nat.le_of_ble_eq_true rfl) rfl ?_
  by_cases hc : r148.1 = r150.1
  · replace hf := (if_pos hc).symm.trans hf
    refine z_icmp_eq_t B 14 rfl 1579 (by decide) hc ?_
    exact fL_law_j1579_ok hj hfl X B0 hs hK hk23 _ _ hf
  · replace hf := (if_neg hc).symm.trans hf
    refine z_icmp_eq_f B 14 rfl 1579 (by decide) hc ?_
    refine z_iconst 0 B 15 rfl (by decide) ?_
    exact absurd (Option.some.inj hf) (by decide)
def fL_law_j1210 (L : Nat) (xs : Nat → Int32) (k23 : Int32 → Mem → Option Int32) (x4 : Int32) (mm : Mem) : Option Int32 := bd (f6_surplus mm) (fun r151 => bd (f7_surplus r151.2) (fun r152 => if (lg_cmp r151.1 r152.1) = 0 then fL_law_j1579 L xs k23 x4 r152.2 else some (0 : Int32)))
def tbfL_law_j1210 : Tb := [(1210, .aload_n 1, 1, 1211), (1211, .invokevirtual 131, 3, 1214), (1214, .aload_n 2, 1, 1215), (1215, .invokevirtual 135, 3, 1218), (1218, .lcmp, 1, 1219), (1219, .ifCond .eq 360, 3, 1222), (1222, .iconst 0, 1, 1223), (1223, .ireturn, 1, 1224)]
theorem dtfL_law_j1210 : ∀ q ∈ tbfL_law_j1210, decode code q.1 = .ok (q.2.1, q.2.2.1) ∧ q.1 + q.2.2.1 = q.2.2.2 := by decide +kernel
theorem fL_law_j1210_ok {E : Ev} {l : Launch} {C : Cfg} {L : Nat} {xs : Nat → Int32} {k23 : Int32 → Mem → Option Int32} {kN nN : Nat} (hj : Dj C) (hfl : l.stackTraces = false) (X : Ec E l C room_1) (B0 : BL E) (hs : Sc E L xs) (hK : kle E kN nN) (hk23 : ∀ (x4 : Int32) (mm : Mem), k23 x4 mm = some 1 → G (setk E kN nN) 7 23 [(0, .ref 5000), (1, .ref 14), (2, .ref 0), (3, .ref 133), (4, .int x4)] [] mm) (hK1 : kle1 E kN nN) (x4 : Int32) (mm : Mem) (hf : fL_law_j1210 L xs k23 x4 mm = some 1) : G E 7 1210 [(0, .ref 5000), (1, .ref 14), (2, .ref 0), (3, .ref 133), (4, .int x4)] [] mm := by
  have B := B0.to dtfL_law_j1210
  unfold fL_law_j1210 at hf
  refine z_aload_n B 0 rfl 1 1 rfl rfl ?_
  obtain ⟨r151, ec, hf⟩ := bd_e hf
  refine z_callV 14 6 [] [] [.long r151.1] X B 1 rfl ob_14 rfl rfl miX6_surplus ⟨(iL_law _ (List.mem_of_getElem? (i := 148) rfl)), (iL_law _ (List.mem_of_getElem? (i := 149) rfl)), (iL_law _ (List.mem_of_getElem? (i := 150) rfl))⟩ (ctX6_surplus hj ec) ⟨Nat.le_of_ble_eq_true rfl, Nat.le_of_ble_eq_true rfl⟩ rfl rfl (Nat.le_of_ble_eq_true rfl) rfl ?_
  refine z_aload_n B 2 rfl 2 2 rfl rfl ?_
  obtain ⟨r152, ec, hf⟩ := bd_e hf
  refine z_callV 0 7 [] [.long r151.1] [.long r152.1, .long r151.1] X B 3 rfl ob_0 rfl rfl miX7_surplus ⟨(iL_law _ (List.mem_of_getElem? (i := 151) rfl)), (iL_law _ (List.mem_of_getElem? (i := 152) rfl)), (iL_law _ (List.mem_of_getElem? (i := 153) rfl))⟩ (ctX7_surplus hj ec) ⟨Nat.le_of_ble_eq_true rfl, Nat.le_of_ble_eq_true rfl⟩ rfl rfl (Nat.le_of_ble_eq_true rfl) rfl ?_
  refine z_lcmp B 4 rfl ?_
  by_cases hc : (lg_cmp r151.1 r152.1) = 0
  · replace hf := (if_pos hc).symm.trans hf
    refine z_if_eq_t B 5 rfl 1579 (by decide) hc ?_
    exact fL_law_j1579_ok hj hfl X B0 hs hK hk23 _ _ hf
  · replace hf := (if_neg hc).symm.trans hf
    refine z_if_eq_f B 5 rfl 1579 (by decide) hc ?_
    refine z_iconst 0 B 6 rfl (by decide) ?_
    exact absurd (Option.some.inj hf) (by decide)
def fL_law_j1224 (L : Nat) (xs : Nat → Int32) (k23 : Int32 → Mem → Option Int32) (x4 : Int32) (mm : Mem) : Option Int32 := rsc L (x4 + (1 : Int32)) (nm (xs (x4 + (1 : Int32)).toNatClampNeg) (fun v153 => bd (f6_rent mm v153) (fun r154 => rsc L (x4 + (1 : Int32)) (nm (xs (x4 + (1 : Int32)).toNatClampNeg) (fun v155 => bd (f7_rent r154.2 v155) (fun r156 => if (lg_cmp r154.1 r156.1) = 0 then fL_law_j1579 L xs k23 x4 r156.2 else some (0 : Int32)))))))
def tbfL_law_j1224 : Tb := [(1224, .aload_n 1, 1, 1225), (1225, .aload_n 0, 1, 1226), (1226, .iload 4, 2, 1228), (1228, .iconst 1, 1, 1229), (1229, .iadd, 1, 1230), (1230, .iaload, 1, 1231), (1231, .invokevirtual 136, 3, 1234), (1234, .aload_n 2, 1, 1235), (1235, .aload_n 0, 1, 1236), (1236, .iload 4, 2, 1238), (1238, .iconst 1, 1, 1239), (1239, .iadd, 1, 1240), (1240, .iaload, 1, 1241), (1241, .invokevirtual 140, 3, 1244), (1244, .lcmp, 1, 1245), (1245, .ifCond .eq 334, 3, 1248), (1248, .iconst 0, 1, 1249), (1249, .ireturn, 1, 1250)]
theorem dtfL_law_j1224 : ∀ q ∈ tbfL_law_j1224, decode code q.1 = .ok (q.2.1, q.2.2.1) ∧ q.1 + q.2.2.1 = q.2.2.2 := by decide +kernel
theorem fL_law_j1224_ok {E : Ev} {l : Launch} {C : Cfg} {L : Nat} {xs : Nat → Int32} {k23 : Int32 → Mem → Option Int32} {kN nN : Nat} (hj : Dj C) (hfl : l.stackTraces = false) (X : Ec E l C room_1) (B0 : BL E) (hs : Sc E L xs) (hK : kle E kN nN) (hk23 : ∀ (x4 : Int32) (mm : Mem), k23 x4 mm = some 1 → G (setk E kN nN) 7 23 [(0, .ref 5000), (1, .ref 14), (2, .ref 0), (3, .ref 133), (4, .int x4)] [] mm) (hK1 : kle1 E kN nN) (x4 : Int32) (mm : Mem) (hf : fL_law_j1224 L xs k23 x4 mm = some 1) : G E 7 1224 [(0, .ref 5000), (1, .ref 14), (2, .ref 0), (3, .ref 133), (4, .int x4)] [] mm := by
  have B := B0.to dtfL_law_j1224
  unfold fL_law_j1224 at hf
  refine z_aload_n B 0 rfl 1 1 rfl rfl ?_
  refine z_aload_n B 1 rfl 0 0 rfl rfl ?_
  refine z_iload B 2 rfl 4 rfl ?_
  refine z_iconst 1 B 3 rfl (by decide) ?_
  refine z_iadd B 4 rfl ?_
  obtain ⟨hx, hf⟩ := rsc_e hf
  refine z_sld hs B 5 rfl hx ?_
  obtain ⟨v153, ex, hf⟩ := nm_x hf
  refine z_top ex ?_
  obtain ⟨r154, ec, hf⟩ := bd_e hf
  refine z_callV 14 6 [.int v153] [] [.long r154.1] X B 6 rfl ob_14 rfl rfl miX6_rent ⟨(iL_law _ (List.mem_of_getElem? (i := 154) rfl)), (iL_law _ (List.mem_of_getElem? (i := 155) rfl)), (iL_law _ (List.mem_of_getElem? (i := 156) rfl))⟩ (ctX6_rent hj ec) ⟨Nat.le_of_ble_eq_true rfl, Nat.le_of_ble_eq_true rfl⟩ rfl rfl (Nat.le_of_ble_eq_true rfl) rfl ?_
  refine z_aload_n B 7 rfl 2 2 rfl rfl ?_
  refine z_aload_n B 8 rfl 0 0 rfl rfl ?_
  refine z_iload B 9 rfl 4 rfl ?_
  refine z_iconst 1 B 10 rfl (by decide) ?_
  refine z_iadd B 11 rfl ?_
  obtain ⟨hx, hf⟩ := rsc_e hf
  refine z_sld hs B 12 rfl hx ?_
  obtain ⟨v155, ex, hf⟩ := nm_x hf
  refine z_top ex ?_
  obtain ⟨r156, ec, hf⟩ := bd_e hf
  refine z_callV 0 7 [.int v155] [.long r154.1] [.long r156.1, .long r154.1] X B 13 rfl ob_0 rfl rfl miX7_rent ⟨(iL_law _ (List.mem_of_getElem? (i := 157) rfl)), (iL_law _ (List.mem_of_getElem? (i := 158) rfl)), (iL_law _ (List.mem_of_getElem? (i := 159) rfl))⟩ (ctX7_rent hj ec) ⟨Nat.le_of_ble_eq_true rfl, Nat.le_of_ble_eq_true rfl⟩ rfl rfl (Nat.le_of_ble_eq_true rfl) rfl ?_
  refine z_lcmp B 14 rfl ?_
  by_cases hc : (lg_cmp r154.1 r156.1) = 0
  · replace hf := (if_pos hc).symm.trans hf
    refine z_if_eq_t B 15 rfl 1579 (by decide) hc ?_
    exact fL_law_j1579_ok hj hfl X B0 hs hK hk23 _ _ hf
  · replace hf := (if_neg hc).symm.trans hf
    refine z_if_eq_f B 15 rfl 1579 (by decide) hc ?_
    refine z_iconst 0 B 16 rfl (by decide) ?_
    exact absurd (Option.some.inj hf) (by decide)
def fL_law_j1250 (L : Nat) (xs : Nat → Int32) (k23 : Int32 → Mem → Option Int32) (x4 : Int32) (mm : Mem) : Option Int32 := rsc L (x4 + (1 : Int32)) (nm (xs (x4 + (1 : Int32)).toNatClampNeg) (fun v157 => bd (f6_paid mm v157) (fun r158 => rsc L (x4 + (1 : Int32)) (nm (xs (x4 + (1 : Int32)).toNatClampNeg) (fun v159 => bd (f7_paid r158.2 v159) (fun r160 => if (lg_cmp r158.1 r160.1) = 0 then fL_law_j1579 L xs k23 x4 r160.2 else some (0 : Int32)))))))
def tbfL_law_j1250 : Tb := [(1250, .aload_n 1, 1, 1251), (1251, .aload_n 0, 1, 1252), (1252, .iload 4, 2, 1254), (1254, .iconst 1, 1, 1255), (1255, .iadd, 1, 1256), (1256, .iaload, 1, 1257), (1257, .invokevirtual 141, 3, 1260), (1260, .aload_n 2, 1, 1261), (1261, .aload_n 0, 1, 1262), (1262, .iload 4, 2, 1264), (1264, .iconst 1, 1, 1265), (1265, .iadd, 1, 1266), (1266, .iaload, 1, 1267), (1267, .invokevirtual 144, 3, 1270), (1270, .lcmp, 1, 1271), (1271, .ifCond .eq 308, 3, 1274), (1274, .iconst 0, 1, 1275), (1275, .ireturn, 1, 1276)]
theorem dtfL_law_j1250 : ∀ q ∈ tbfL_law_j1250, decode code q.1 = .ok (q.2.1, q.2.2.1) ∧ q.1 + q.2.2.1 = q.2.2.2 := by decide +kernel
theorem fL_law_j1250_ok {E : Ev} {l : Launch} {C : Cfg} {L : Nat} {xs : Nat → Int32} {k23 : Int32 → Mem → Option Int32} {kN nN : Nat} (hj : Dj C) (hfl : l.stackTraces = false) (X : Ec E l C room_1) (B0 : BL E) (hs : Sc E L xs) (hK : kle E kN nN) (hk23 : ∀ (x4 : Int32) (mm : Mem), k23 x4 mm = some 1 → G (setk E kN nN) 7 23 [(0, .ref 5000), (1, .ref 14), (2, .ref 0), (3, .ref 133), (4, .int x4)] [] mm) (hK1 : kle1 E kN nN) (x4 : Int32) (mm : Mem) (hf : fL_law_j1250 L xs k23 x4 mm = some 1) : G E 7 1250 [(0, .ref 5000), (1, .ref 14), (2, .ref 0), (3, .ref 133), (4, .int x4)] [] mm := by
  have B := B0.to dtfL_law_j1250
  unfold fL_law_j1250 at hf
  refine z_aload_n B 0 rfl 1 1 rfl rfl ?_
  refine z_aload_n B 1 rfl 0 0 rfl rfl ?_
  refine z_iload B 2 rfl 4 rfl ?_
  refine z_iconst 1 B 3 rfl (by decide) ?_
  refine z_iadd B 4 rfl ?_
  obtain ⟨hx, hf⟩ := rsc_e hf
  refine z_sld hs B 5 rfl hx ?_
  obtain ⟨v157, ex, hf⟩ := nm_x hf
  refine z_top ex ?_
  obtain ⟨r158, ec, hf⟩ := bd_e hf
  refine z_callV 14 6 [.int v157] [] [.long r158.1] X B 6 rfl ob_14 rfl rfl miX6_paid ⟨(iL_law _ (List.mem_of_getElem? (i := 160) rfl)), (iL_law _ (List.mem_of_getElem? (i := 161) rfl)), (iL_law _ (List.mem_of_getElem? (i := 162) rfl))⟩ (ctX6_paid hj ec) ⟨Nat.le_of_ble_eq_true rfl, Nat.le_of_ble_eq_true rfl⟩ rfl rfl (Nat.le_of_ble_eq_true rfl) rfl ?_
  refine z_aload_n B 7 rfl 2 2 rfl rfl ?_
  refine z_aload_n B 8 rfl 0 0 rfl rfl ?_
  refine z_iload B 9 rfl 4 rfl ?_
  refine z_iconst 1 B 10 rfl (by decide) ?_
  refine z_iadd B 11 rfl ?_
  obtain ⟨hx, hf⟩ := rsc_e hf
  refine z_sld hs B 12 rfl hx ?_
  obtain ⟨v159, ex, hf⟩ := nm_x hf
  refine z_top ex ?_
  obtain ⟨r160, ec, hf⟩ := bd_e hf
  refine z_callV 0 7 [.int v159] [.long r158.1] [.long r160.1, .long r158.1] X B 13 rfl ob_0 rfl rfl miX7_paid ⟨(iL_law _ (List.mem_of_getElem? (i := 163) rfl)), (iL_law _ (List.mem_of_getElem? (i := 164) rfl)), (iL_law _ (List.mem_of_getElem? (i := 165) rfl))⟩ (ctX7_paid hj ec) ⟨Nat.le_of_ble_eq_true rfl, Nat.le_of_ble_eq_true rfl⟩ rfl rfl (Nat.le_of_ble_eq_true rfl) rfl ?_
  refine z_lcmp B 14 rfl ?_
  by_cases hc : (lg_cmp r158.1 r160.1) = 0
  · replace hf := (if_pos hc).symm.trans hf
    refine z_if_eq_t B 15 rfl 1579 (by decide) hc ?_
    exact fL_law_j1579_ok hj hfl X B0 hs hK hk23 _ _ hf
  · replace hf := (if_neg hc).symm.trans hf
    refine z_if_eq_f B 15 rfl 1579 (by decide) hc ?_
    refine z_iconst 0 B 16 rfl (by decide) ?_
    exact absurd (Option.some.inj hf) (by decide)
def fL_law_j1276 (L : Nat) (xs : Nat → Int32) (k23 : Int32 → Mem → Option Int32) (x4 : Int32) (mm : Mem) : Option Int32 := rsc L (x4 + (1 : Int32)) (nm (xs (x4 + (1 : Int32)).toNatClampNeg) (fun v161 => bd (f6_charged mm v161) (fun r162 => rsc L (x4 + (1 : Int32)) (nm (xs (x4 + (1 : Int32)).toNatClampNeg) (fun v163 => bd (f7_charged r162.2 v163) (fun r164 => if (lg_cmp r162.1 r164.1) = 0 then fL_law_j1579 L xs k23 x4 r164.2 else some (0 : Int32)))))))
def tbfL_law_j1276 : Tb := [(1276, .aload_n 1, 1, 1277), (1277, .aload_n 0, 1, 1278), (1278, .iload 4, 2, 1280), (1280, .iconst 1, 1, 1281), (1281, .iadd, 1, 1282), (1282, .iaload, 1, 1283), (1283, .invokevirtual 145, 3, 1286), (1286, .aload_n 2, 1, 1287), (1287, .aload_n 0, 1, 1288), (1288, .iload 4, 2, 1290), (1290, .iconst 1, 1, 1291), (1291, .iadd, 1, 1292), (1292, .iaload, 1, 1293), (1293, .invokevirtual 148, 3, 1296), (1296, .lcmp, 1, 1297), (1297, .ifCond .eq 282, 3, 1300), (1300, .iconst 0, 1, 1301), (1301, .ireturn, 1, 1302)]
theorem dtfL_law_j1276 : ∀ q ∈ tbfL_law_j1276, decode code q.1 = .ok (q.2.1, q.2.2.1) ∧ q.1 + q.2.2.1 = q.2.2.2 := by decide +kernel
theorem fL_law_j1276_ok {E : Ev} {l : Launch} {C : Cfg} {L : Nat} {xs : Nat → Int32} {k23 : Int32 → Mem → Option Int32} {kN nN : Nat} (hj : Dj C) (hfl : l.stackTraces = false) (X : Ec E l C room_1) (B0 : BL E) (hs : Sc E L xs) (hK : kle E kN nN) (hk23 : ∀ (x4 : Int32) (mm : Mem), k23 x4 mm = some 1 → G (setk E kN nN) 7 23 [(0, .ref 5000), (1, .ref 14), (2, .ref 0), (3, .ref 133), (4, .int x4)] [] mm) (hK1 : kle1 E kN nN) (x4 : Int32) (mm : Mem) (hf : fL_law_j1276 L xs k23 x4 mm = some 1) : G E 7 1276 [(0, .ref 5000), (1, .ref 14), (2, .ref 0), (3, .ref 133), (4, .int x4)] [] mm := by
  have B := B0.to dtfL_law_j1276
  unfold fL_law_j1276 at hf
  refine z_aload_n B 0 rfl 1 1 rfl rfl ?_
  refine z_aload_n B 1 rfl 0 0 rfl rfl ?_
  refine z_iload B 2 rfl 4 rfl ?_
  refine z_iconst 1 B 3 rfl (by decide) ?_
  refine z_iadd B 4 rfl ?_
  obtain ⟨hx, hf⟩ := rsc_e hf
  refine z_sld hs B 5 rfl hx ?_
  obtain ⟨v161, ex, hf⟩ := nm_x hf
  refine z_top ex ?_
  obtain ⟨r162, ec, hf⟩ := bd_e hf
  refine z_callV 14 6 [.int v161] [] [.long r162.1] X B 6 rfl ob_14 rfl rfl miX6_charged ⟨(iL_law _ (List.mem_of_getElem? (i := 166) rfl)), (iL_law _ (List.mem_of_getElem? (i := 167) rfl)), (iL_law _ (List.mem_of_getElem? (i := 168) rfl))⟩ (ctX6_charged hj ec) ⟨Nat.le_of_ble_eq_true rfl, Nat.le_of_ble_eq_true rfl⟩ rfl rfl (Nat.le_of_ble_eq_true rfl) rfl ?_
  refine z_aload_n B 7 rfl 2 2 rfl rfl ?_
  refine z_aload_n B 8 rfl 0 0 rfl rfl ?_
  refine z_iload B 9 rfl 4 rfl ?_
  refine z_iconst 1 B 10 rfl (by decide) ?_
  refine z_iadd B 11 rfl ?_
  obtain ⟨hx, hf⟩ := rsc_e hf
  refine z_sld hs B 12 rfl hx ?_
  obtain ⟨v163, ex, hf⟩ := nm_x hf
  refine z_top ex ?_
  obtain ⟨r164, ec, hf⟩ := bd_e hf
  refine z_callV 0 7 [.int v163] [.long r162.1] [.long r164.1, .long r162.1] X B 13 rfl ob_0 rfl rfl miX7_charged ⟨(iL_law _ (List.mem_of_getElem? (i := 169) rfl)), (iL_law _ (List.mem_of_getElem? (i := 170) rfl)), (iL_law _ (List.mem_of_getElem? (i := 171) rfl))⟩ (ctX7_charged hj ec) ⟨Nat.le_of_ble_eq_true rfl, Nat.le_of_ble_eq_true rfl⟩ rfl rfl (Nat.le_of_ble_eq_true rfl) rfl ?_
  refine z_lcmp B 14 rfl ?_
  by_cases hc : (lg_cmp r162.1 r164.1) = 0
  · replace hf := (if_pos hc).symm.trans hf
    refine z_if_eq_t B 15 rfl 1579 (by decide) hc ?_
    exact fL_law_j1579_ok hj hfl X B0 hs hK hk23 _ _ hf
  · replace hf := (if_neg hc).symm.trans hf
    refine z_if_eq_f B 15 rfl 1579 (by decide) hc ?_
    refine z_iconst 0 B 16 rfl (by decide) ?_
    exact absurd (Option.some.inj hf) (by decide)
def fL_law_j1302 (L : Nat) (xs : Nat → Int32) (k23 : Int32 → Mem → Option Int32) (x4 : Int32) (mm : Mem) : Option Int32 := rsc L (x4 + (1 : Int32)) (nm (xs (x4 + (1 : Int32)).toNatClampNeg) (fun v165 => rsc L (x4 + (2 : Int32)) (nm (xs (x4 + (2 : Int32)).toNatClampNeg) (fun v166 => bd (f6_without mm v165 v166) (fun r167 => rsc L (x4 + (1 : Int32)) (nm (xs (x4 + (1 : Int32)).toNatClampNeg) (fun v168 => rsc L (x4 + (2 : Int32)) (nm (xs (x4 + (2 : Int32)).toNatClampNeg) (fun v169 => bd (f7_without r167.2 v168 v169) (fun r170 => if r167.1 = r170.1 then fL_law_j1579 L xs k23 x4 r170.2 else some (0 : Int32)))))))))))
def tbfL_law_j1302 : Tb := [(1302, .aload_n 1, 1, 1303), (1303, .aload_n 0, 1, 1304), (1304, .iload 4, 2, 1306), (1306, .iconst 1, 1, 1307), (1307, .iadd, 1, 1308), (1308, .iaload, 1, 1309), (1309, .aload_n 0, 1, 1310), (1310, .iload 4, 2, 1312), (1312, .iconst 2, 1, 1313), (1313, .iadd, 1, 1314), (1314, .iaload, 1, 1315), (1315, .invokevirtual 149, 3, 1318), (1318, .aload_n 2, 1, 1319), (1319, .aload_n 0, 1, 1320), (1320, .iload 4, 2, 1322), (1322, .iconst 1, 1, 1323), (1323, .iadd, 1, 1324), (1324, .iaload, 1, 1325), (1325, .aload_n 0, 1, 1326), (1326, .iload 4, 2, 1328), (1328, .iconst 2, 1, 1329), (1329, .iadd, 1, 1330), (1330, .iaload, 1, 1331), (1331, .invokevirtual 152, 3, 1334), (1334, .if_icmp .eq 245, 3, 1337), (1337, .iconst 0, 1, 1338), (1338, .ireturn, 1, 1339)]
theorem dtfL_law_j1302 : ∀ q ∈ tbfL_law_j1302, decode code q.1 = .ok (q.2.1, q.2.2.1) ∧ q.1 + q.2.2.1 = q.2.2.2 := by decide +kernel
theorem fL_law_j1302_ok {E : Ev} {l : Launch} {C : Cfg} {L : Nat} {xs : Nat → Int32} {k23 : Int32 → Mem → Option Int32} {kN nN : Nat} (hj : Dj C) (hfl : l.stackTraces = false) (X : Ec E l C room_1) (B0 : BL E) (hs : Sc E L xs) (hK : kle E kN nN) (hk23 : ∀ (x4 : Int32) (mm : Mem), k23 x4 mm = some 1 → G (setk E kN nN) 7 23 [(0, .ref 5000), (1, .ref 14), (2, .ref 0), (3, .ref 133), (4, .int x4)] [] mm) (hK1 : kle1 E kN nN) (x4 : Int32) (mm : Mem) (hf : fL_law_j1302 L xs k23 x4 mm = some 1) : G E 7 1302 [(0, .ref 5000), (1, .ref 14), (2, .ref 0), (3, .ref 133), (4, .int x4)] [] mm := by
  have B := B0.to dtfL_law_j1302
  unfold fL_law_j1302 at hf
  refine z_aload_n B 0 rfl 1 1 rfl rfl ?_
  refine z_aload_n B 1 rfl 0 0 rfl rfl ?_
  refine z_iload B 2 rfl 4 rfl ?_
  refine z_iconst 1 B 3 rfl (by decide) ?_
  refine z_iadd B 4 rfl ?_
  obtain ⟨hx, hf⟩ := rsc_e hf
  refine z_sld hs B 5 rfl hx ?_
  obtain ⟨v165, ex, hf⟩ := nm_x hf
  refine z_top ex ?_
  refine z_aload_n B 6 rfl 0 0 rfl rfl ?_
  refine z_iload B 7 rfl 4 rfl ?_
  refine z_iconst 2 B 8 rfl (by decide) ?_
  refine z_iadd B 9 rfl ?_
  obtain ⟨hx, hf⟩ := rsc_e hf
  refine z_sld hs B 10 rfl hx ?_
  obtain ⟨v166, ex, hf⟩ := nm_x hf
  refine z_top ex ?_
  obtain ⟨r167, ec, hf⟩ := bd_e hf
  refine z_callV 14 6 [.int v165, .int v166] [] [.int r167.1] X B 11 rfl ob_14 rfl rfl miX6_without ⟨(iL_law _ (List.mem_of_getElem? (i := 172) rfl)), (iL_law _ (List.mem_of_getElem? (i := 173) rfl)), (iL_law _ (List.mem_of_getElem? (i := 174) rfl))⟩ (ctX6_without hj ec) ⟨Nat.le_of_ble_eq_true rfl, Nat.le_of_ble_eq_true rfl⟩ rfl rfl (Nat.le_of_ble_eq_true rfl) rfl ?_
  refine z_aload_n B 12 rfl 2 2 rfl rfl ?_
  refine z_aload_n B 13 rfl 0 0 rfl rfl ?_
  refine z_iload B 14 rfl 4 rfl ?_
  refine z_iconst 1 B 15 rfl (by decide) ?_
  refine z_iadd B 16 rfl ?_
  obtain ⟨hx, hf⟩ := rsc_e hf
  refine z_sld hs B 17 rfl hx ?_
  obtain ⟨v168, ex, hf⟩ := nm_x hf
  refine z_top ex ?_
  refine z_aload_n B 18 rfl 0 0 rfl rfl ?_
  refine z_iload B 19 rfl 4 rfl ?_
  refine z_iconst 2 B 20 rfl (by decide) ?_
  refine z_iadd B 21 rfl ?_
  obtain ⟨hx, hf⟩ := rsc_e hf
  refine z_sld hs B 22 rfl hx ?_
  obtain ⟨v169, ex, hf⟩ := nm_x hf
  refine z_top ex ?_
  obtain ⟨r170, ec, hf⟩ := bd_e hf
  refine z_callV 0 7 [.int v168, .int v169] [.int r167.1] [.int r170.1, .int r167.1] X B 23 rfl ob_0 rfl rfl miX7_without ⟨(iL_law _ (List.mem_of_getElem? (i := 175) rfl)), (iL_law _ (List.mem_of_getElem? (i := 176) rfl)), (iL_law _ (List.mem_of_getElem? (i := 177) rfl))⟩ (ctX7_without hj ec) ⟨Nat.le_of_ble_eq_true rfl, Nat.le_of_ble_eq_true rfl⟩ rfl rfl (Nat.le_of_ble_eq_true rfl) rfl ?_
  by_cases hc : r167.1 = r170.1
  · replace hf := (if_pos hc).symm.trans hf
    refine z_icmp_eq_t B 24 rfl 1579 (by decide) hc ?_
    exact fL_law_j1579_ok hj hfl X B0 hs hK hk23 _ _ hf
  · replace hf := (if_neg hc).symm.trans hf
    refine z_icmp_eq_f B 24 rfl 1579 (by decide) hc ?_
    refine z_iconst 0 B 25 rfl (by decide) ?_
    exact absurd (Option.some.inj hf) (by decide)
def fL_law_j1339 (L : Nat) (xs : Nat → Int32) (k23 : Int32 → Mem → Option Int32) (x4 : Int32) (mm : Mem) : Option Int32 := rsc L (x4 + (1 : Int32)) (nm (xs (x4 + (1 : Int32)).toNatClampNeg) (fun v171 => rsc L (x4 + (2 : Int32)) (nm (xs (x4 + (2 : Int32)).toNatClampNeg) (fun v172 => bd (f6_pivotal mm v171 v172) (fun r173 => rsc L (x4 + (1 : Int32)) (nm (xs (x4 + (1 : Int32)).toNatClampNeg) (fun v174 => rsc L (x4 + (2 : Int32)) (nm (xs (x4 + (2 : Int32)).toNatClampNeg) (fun v175 => bd (f7_pivotal r173.2 v174 v175) (fun r176 => if r173.1 = r176.1 then fL_law_j1579 L xs k23 x4 r176.2 else some (0 : Int32)))))))))))
def tbfL_law_j1339 : Tb := [(1339, .aload_n 1, 1, 1340), (1340, .aload_n 0, 1, 1341), (1341, .iload 4, 2, 1343), (1343, .iconst 1, 1, 1344), (1344, .iadd, 1, 1345), (1345, .iaload, 1, 1346), (1346, .aload_n 0, 1, 1347), (1347, .iload 4, 2, 1349), (1349, .iconst 2, 1, 1350), (1350, .iadd, 1, 1351), (1351, .iaload, 1, 1352), (1352, .invokevirtual 153, 3, 1355), (1355, .aload_n 2, 1, 1356), (1356, .aload_n 0, 1, 1357), (1357, .iload 4, 2, 1359), (1359, .iconst 1, 1, 1360), (1360, .iadd, 1, 1361), (1361, .iaload, 1, 1362), (1362, .aload_n 0, 1, 1363), (1363, .iload 4, 2, 1365), (1365, .iconst 2, 1, 1366), (1366, .iadd, 1, 1367), (1367, .iaload, 1, 1368), (1368, .invokevirtual 156, 3, 1371), (1371, .if_icmp .eq 208, 3, 1374), (1374, .iconst 0, 1, 1375), (1375, .ireturn, 1, 1376)]
theorem dtfL_law_j1339 : ∀ q ∈ tbfL_law_j1339, decode code q.1 = .ok (q.2.1, q.2.2.1) ∧ q.1 + q.2.2.1 = q.2.2.2 := by decide +kernel
theorem fL_law_j1339_ok {E : Ev} {l : Launch} {C : Cfg} {L : Nat} {xs : Nat → Int32} {k23 : Int32 → Mem → Option Int32} {kN nN : Nat} (hj : Dj C) (hfl : l.stackTraces = false) (X : Ec E l C room_1) (B0 : BL E) (hs : Sc E L xs) (hK : kle E kN nN) (hk23 : ∀ (x4 : Int32) (mm : Mem), k23 x4 mm = some 1 → G (setk E kN nN) 7 23 [(0, .ref 5000), (1, .ref 14), (2, .ref 0), (3, .ref 133), (4, .int x4)] [] mm) (hK1 : kle1 E kN nN) (x4 : Int32) (mm : Mem) (hf : fL_law_j1339 L xs k23 x4 mm = some 1) : G E 7 1339 [(0, .ref 5000), (1, .ref 14), (2, .ref 0), (3, .ref 133), (4, .int x4)] [] mm := by
  have B := B0.to dtfL_law_j1339
  unfold fL_law_j1339 at hf
  refine z_aload_n B 0 rfl 1 1 rfl rfl ?_
  refine z_aload_n B 1 rfl 0 0 rfl rfl ?_
  refine z_iload B 2 rfl 4 rfl ?_
  refine z_iconst 1 B 3 rfl (by decide) ?_
  refine z_iadd B 4 rfl ?_
  obtain ⟨hx, hf⟩ := rsc_e hf
  refine z_sld hs B 5 rfl hx ?_
  obtain ⟨v171, ex, hf⟩ := nm_x hf
  refine z_top ex ?_
  refine z_aload_n B 6 rfl 0 0 rfl rfl ?_
  refine z_iload B 7 rfl 4 rfl ?_
  refine z_iconst 2 B 8 rfl (by decide) ?_
  refine z_iadd B 9 rfl ?_
  obtain ⟨hx, hf⟩ := rsc_e hf
  refine z_sld hs B 10 rfl hx ?_
  obtain ⟨v172, ex, hf⟩ := nm_x hf
  refine z_top ex ?_
  obtain ⟨r173, ec, hf⟩ := bd_e hf
  refine z_callV 14 6 [.int v171, .int v172] [] [.int r173.1] X B 11 rfl ob_14 rfl rfl miX6_pivotal ⟨(iL_law _ (List.mem_of_getElem? (i := 178) rfl)), (iL_law _ (List.mem_of_getElem? (i := 179) rfl)), (iL_law _ (List.mem_of_getElem? (i := 180) rfl))⟩ (ctX6_pivotal hj ec) ⟨Nat.le_of_ble_eq_true rfl, Nat.le_of_ble_eq_true rfl⟩ rfl rfl (Nat.le_of_ble_eq_true rfl) rfl ?_
  refine z_aload_n B 12 rfl 2 2 rfl rfl ?_
  refine z_aload_n B 13 rfl 0 0 rfl rfl ?_
  refine z_iload B 14 rfl 4 rfl ?_
  refine z_iconst 1 B 15 rfl (by decide) ?_
  refine z_iadd B 16 rfl ?_
  obtain ⟨hx, hf⟩ := rsc_e hf
  refine z_sld hs B 17 rfl hx ?_
  obtain ⟨v174, ex, hf⟩ := nm_x hf
  refine z_top ex ?_
  refine z_aload_n B 18 rfl 0 0 rfl rfl ?_
  refine z_iload B 19 rfl 4 rfl ?_
  refine z_iconst 2 B 20 rfl (by decide) ?_
  refine z_iadd B 21 rfl ?_
  obtain ⟨hx, hf⟩ := rsc_e hf
  refine z_sld hs B 22 rfl hx ?_
  obtain ⟨v175, ex, hf⟩ := nm_x hf
  refine z_top ex ?_
  obtain ⟨r176, ec, hf⟩ := bd_e hf
  refine z_callV 0 7 [.int v174, .int v175] [.int r173.1] [.int r176.1, .int r173.1] X B 23 rfl ob_0 rfl rfl miX7_pivotal ⟨(iL_law _ (List.mem_of_getElem? (i := 181) rfl)), (iL_law _ (List.mem_of_getElem? (i := 182) rfl)), (iL_law _ (List.mem_of_getElem? (i := 183) rfl))⟩ (ctX7_pivotal hj ec) ⟨Nat.le_of_ble_eq_true rfl, Nat.le_of_ble_eq_true rfl⟩ rfl rfl (Nat.le_of_ble_eq_true rfl) rfl ?_
  by_cases hc : r173.1 = r176.1
  · replace hf := (if_pos hc).symm.trans hf
    refine z_icmp_eq_t B 24 rfl 1579 (by decide) hc ?_
    exact fL_law_j1579_ok hj hfl X B0 hs hK hk23 _ _ hf
  · replace hf := (if_neg hc).symm.trans hf
    refine z_icmp_eq_f B 24 rfl 1579 (by decide) hc ?_
    refine z_iconst 0 B 25 rfl (by decide) ?_
    exact absurd (Option.some.inj hf) (by decide)
def fL_law_j1433 (L : Nat) (xs : Nat → Int32) (k23 : Int32 → Mem → Option Int32) (x4 : Int32) (s0 : Int32) (s1 : Int32) (s2 : Int32) (s4 : Int64) (mm : Mem) : Option Int32 := bd (f7_wider mm s2 s1 s0) (fun r184 => if (lg_cmp s4 r184.1) = 0 then fL_law_j1579 L xs k23 x4 r184.2 else some (0 : Int32))
def tbfL_law_j1433 : Tb := [(1433, .invokevirtual 161, 3, 1436), (1436, .lcmp, 1, 1437), (1437, .ifCond .eq 142, 3, 1440), (1440, .iconst 0, 1, 1441), (1441, .ireturn, 1, 1442)]
theorem dtfL_law_j1433 : ∀ q ∈ tbfL_law_j1433, decode code q.1 = .ok (q.2.1, q.2.2.1) ∧ q.1 + q.2.2.1 = q.2.2.2 := by decide +kernel
theorem fL_law_j1433_ok {E : Ev} {l : Launch} {C : Cfg} {L : Nat} {xs : Nat → Int32} {k23 : Int32 → Mem → Option Int32} {kN nN : Nat} (hj : Dj C) (hfl : l.stackTraces = false) (X : Ec E l C room_1) (B0 : BL E) (hs : Sc E L xs) (hK : kle E kN nN) (hk23 : ∀ (x4 : Int32) (mm : Mem), k23 x4 mm = some 1 → G (setk E kN nN) 7 23 [(0, .ref 5000), (1, .ref 14), (2, .ref 0), (3, .ref 133), (4, .int x4)] [] mm) (x4 : Int32) (s0 : Int32) (s1 : Int32) (s2 : Int32) (s4 : Int64) (mm : Mem) (hf : fL_law_j1433 L xs k23 x4 s0 s1 s2 s4 mm = some 1) : G E 7 1433 [(0, .ref 5000), (1, .ref 14), (2, .ref 0), (3, .ref 133), (4, .int x4)] [.int s0, .int s1, .int s2, .ref 0, .long s4] mm := by
  have B := B0.to dtfL_law_j1433
  unfold fL_law_j1433 at hf
  obtain ⟨r184, ec, hf⟩ := bd_e hf
  refine z_callV 0 7 [.int s2, .int s1, .int s0] [.long s4] [.long r184.1, .long s4] X B 0 rfl ob_0 rfl rfl miX7_wider ⟨(iL_law _ (List.mem_of_getElem? (i := 187) rfl)), (iL_law _ (List.mem_of_getElem? (i := 188) rfl)), (iL_law _ (List.mem_of_getElem? (i := 189) rfl))⟩ (ctX7_wider hj ec) ⟨Nat.le_of_ble_eq_true rfl, Nat.le_of_ble_eq_true rfl⟩ rfl rfl (Nat.le_of_ble_eq_true rfl) rfl ?_
  refine z_lcmp B 1 rfl ?_
  by_cases hc : (lg_cmp s4 r184.1) = 0
  · replace hf := (if_pos hc).symm.trans hf
    refine z_if_eq_t B 2 rfl 1579 (by decide) hc ?_
    exact fL_law_j1579_ok hj hfl X B0 hs hK hk23 _ _ hf
  · replace hf := (if_neg hc).symm.trans hf
    refine z_if_eq_f B 2 rfl 1579 (by decide) hc ?_
    refine z_iconst 0 B 3 rfl (by decide) ?_
    exact absurd (Option.some.inj hf) (by decide)
def fL_law_j1403 (L : Nat) (xs : Nat → Int32) (k23 : Int32 → Mem → Option Int32) (x4 : Int32) (s0 : Int32) (s1 : Int32) (s2 : Int32) (mm : Mem) : Option Int32 := bd (f6_wider mm s2 s1 s0) (fun r180 => rsc L (x4 + (1 : Int32)) (nm (xs (x4 + (1 : Int32)).toNatClampNeg) (fun v181 => rsc L (x4 + (2 : Int32)) (nm (xs (x4 + (2 : Int32)).toNatClampNeg) (fun v182 => rsc L (x4 + (3 : Int32)) (nm (xs (x4 + (3 : Int32)).toNatClampNeg) (fun v183 => if v183 = 0 then fL_law_j1433 L xs k23 x4 (0 : Int32) v182 v181 r180.1 r180.2 else fL_law_j1433 L xs k23 x4 (1 : Int32) v182 v181 r180.1 r180.2)))))))
def tbfL_law_j1403 : Tb := [(1403, .invokevirtual 157, 3, 1406), (1406, .aload_n 2, 1, 1407), (1407, .aload_n 0, 1, 1408), (1408, .iload 4, 2, 1410), (1410, .iconst 1, 1, 1411), (1411, .iadd, 1, 1412), (1412, .iaload, 1, 1413), (1413, .aload_n 0, 1, 1414), (1414, .iload 4, 2, 1416), (1416, .iconst 2, 1, 1417), (1417, .iadd, 1, 1418), (1418, .iaload, 1, 1419), (1419, .aload_n 0, 1, 1420), (1420, .iload 4, 2, 1422), (1422, .iconst 3, 1, 1423), (1423, .iadd, 1, 1424), (1424, .iaload, 1, 1425), (1425, .ifCond .eq 7, 3, 1428), (1432, .iconst 0, 1, 1433), (1428, .iconst 1, 1, 1429), (1429, .goto 4, 3, 1432)]
theorem dtfL_law_j1403 : ∀ q ∈ tbfL_law_j1403, decode code q.1 = .ok (q.2.1, q.2.2.1) ∧ q.1 + q.2.2.1 = q.2.2.2 := by decide +kernel
theorem fL_law_j1403_ok {E : Ev} {l : Launch} {C : Cfg} {L : Nat} {xs : Nat → Int32} {k23 : Int32 → Mem → Option Int32} {kN nN : Nat} (hj : Dj C) (hfl : l.stackTraces = false) (X : Ec E l C room_1) (B0 : BL E) (hs : Sc E L xs) (hK : kle E kN nN) (hk23 : ∀ (x4 : Int32) (mm : Mem), k23 x4 mm = some 1 → G (setk E kN nN) 7 23 [(0, .ref 5000), (1, .ref 14), (2, .ref 0), (3, .ref 133), (4, .int x4)] [] mm) (x4 : Int32) (s0 : Int32) (s1 : Int32) (s2 : Int32) (mm : Mem) (hf : fL_law_j1403 L xs k23 x4 s0 s1 s2 mm = some 1) : G E 7 1403 [(0, .ref 5000), (1, .ref 14), (2, .ref 0), (3, .ref 133), (4, .int x4)] [.int s0, .int s1, .int s2, .ref 14] mm := by
  have B := B0.to dtfL_law_j1403
  unfold fL_law_j1403 at hf
  obtain ⟨r180, ec, hf⟩ := bd_e hf
  refine z_callV 14 6 [.int s2, .int s1, .int s0] [] [.long r180.1] X B 0 rfl ob_14 rfl rfl miX6_wider ⟨(iL_law _ (List.mem_of_getElem? (i := 184) rfl)), (iL_law _ (List.mem_of_getElem? (i := 185) rfl)), (iL_law _ (List.mem_of_getElem? (i := 186) rfl))⟩ (ctX6_wider hj ec) ⟨Nat.le_of_ble_eq_true rfl, Nat.le_of_ble_eq_true rfl⟩ rfl rfl (Nat.le_of_ble_eq_true rfl) rfl ?_
  refine z_aload_n B 1 rfl 2 2 rfl rfl ?_
  refine z_aload_n B 2 rfl 0 0 rfl rfl ?_
  refine z_iload B 3 rfl 4 rfl ?_
  refine z_iconst 1 B 4 rfl (by decide) ?_
  refine z_iadd B 5 rfl ?_
  obtain ⟨hx, hf⟩ := rsc_e hf
  refine z_sld hs B 6 rfl hx ?_
  obtain ⟨v181, ex, hf⟩ := nm_x hf
  refine z_top ex ?_
  refine z_aload_n B 7 rfl 0 0 rfl rfl ?_
  refine z_iload B 8 rfl 4 rfl ?_
  refine z_iconst 2 B 9 rfl (by decide) ?_
  refine z_iadd B 10 rfl ?_
  obtain ⟨hx, hf⟩ := rsc_e hf
  refine z_sld hs B 11 rfl hx ?_
  obtain ⟨v182, ex, hf⟩ := nm_x hf
  refine z_top ex ?_
  refine z_aload_n B 12 rfl 0 0 rfl rfl ?_
  refine z_iload B 13 rfl 4 rfl ?_
  refine z_iconst 3 B 14 rfl (by decide) ?_
  refine z_iadd B 15 rfl ?_
  obtain ⟨hx, hf⟩ := rsc_e hf
  refine z_sld hs B 16 rfl hx ?_
  obtain ⟨v183, ex, hf⟩ := nm_x hf
  refine z_top ex ?_
  by_cases hc : v183 = 0
  · replace hf := (if_pos hc).symm.trans hf
    refine z_if_eq_t B 17 rfl 1432 (by decide) hc ?_
    refine z_iconst 0 B 18 rfl (by decide) ?_
    exact fL_law_j1433_ok hj hfl X B0 hs hK hk23 _ _ _ _ _ _ hf
  · replace hf := (if_neg hc).symm.trans hf
    refine z_if_eq_f B 17 rfl 1432 (by decide) hc ?_
    refine z_iconst 1 B 19 rfl (by decide) ?_
    refine z_goto B 20 rfl 1433 (by decide) ?_
    exact fL_law_j1433_ok hj hfl X B0 hs hK hk23 _ _ _ _ _ _ hf
def fL_law_j1376 (L : Nat) (xs : Nat → Int32) (k23 : Int32 → Mem → Option Int32) (x4 : Int32) (mm : Mem) : Option Int32 := rsc L (x4 + (1 : Int32)) (nm (xs (x4 + (1 : Int32)).toNatClampNeg) (fun v177 => rsc L (x4 + (2 : Int32)) (nm (xs (x4 + (2 : Int32)).toNatClampNeg) (fun v178 => rsc L (x4 + (3 : Int32)) (nm (xs (x4 + (3 : Int32)).toNatClampNeg) (fun v179 => if v179 = 0 then fL_law_j1403 L xs k23 x4 (0 : Int32) v178 v177 mm else fL_law_j1403 L xs k23 x4 (1 : Int32) v178 v177 mm))))))
def tbfL_law_j1376 : Tb := [(1376, .aload_n 1, 1, 1377), (1377, .aload_n 0, 1, 1378), (1378, .iload 4, 2, 1380), (1380, .iconst 1, 1, 1381), (1381, .iadd, 1, 1382), (1382, .iaload, 1, 1383), (1383, .aload_n 0, 1, 1384), (1384, .iload 4, 2, 1386), (1386, .iconst 2, 1, 1387), (1387, .iadd, 1, 1388), (1388, .iaload, 1, 1389), (1389, .aload_n 0, 1, 1390), (1390, .iload 4, 2, 1392), (1392, .iconst 3, 1, 1393), (1393, .iadd, 1, 1394), (1394, .iaload, 1, 1395), (1395, .ifCond .eq 7, 3, 1398), (1402, .iconst 0, 1, 1403), (1398, .iconst 1, 1, 1399), (1399, .goto 4, 3, 1402)]
theorem dtfL_law_j1376 : ∀ q ∈ tbfL_law_j1376, decode code q.1 = .ok (q.2.1, q.2.2.1) ∧ q.1 + q.2.2.1 = q.2.2.2 := by decide +kernel
theorem fL_law_j1376_ok {E : Ev} {l : Launch} {C : Cfg} {L : Nat} {xs : Nat → Int32} {k23 : Int32 → Mem → Option Int32} {kN nN : Nat} (hj : Dj C) (hfl : l.stackTraces = false) (X : Ec E l C room_1) (B0 : BL E) (hs : Sc E L xs) (hK : kle E kN nN) (hk23 : ∀ (x4 : Int32) (mm : Mem), k23 x4 mm = some 1 → G (setk E kN nN) 7 23 [(0, .ref 5000), (1, .ref 14), (2, .ref 0), (3, .ref 133), (4, .int x4)] [] mm) (hK1 : kle1 E kN nN) (x4 : Int32) (mm : Mem) (hf : fL_law_j1376 L xs k23 x4 mm = some 1) : G E 7 1376 [(0, .ref 5000), (1, .ref 14), (2, .ref 0), (3, .ref 133), (4, .int x4)] [] mm := by
  have B := B0.to dtfL_law_j1376
  unfold fL_law_j1376 at hf
  refine z_aload_n B 0 rfl 1 1 rfl rfl ?_
  refine z_aload_n B 1 rfl 0 0 rfl rfl ?_
  refine z_iload B 2 rfl 4 rfl ?_
  refine z_iconst 1 B 3 rfl (by decide) ?_
  refine z_iadd B 4 rfl ?_
  obtain ⟨hx, hf⟩ := rsc_e hf
  refine z_sld hs B 5 rfl hx ?_
  obtain ⟨v177, ex, hf⟩ := nm_x hf
  refine z_top ex ?_
  refine z_aload_n B 6 rfl 0 0 rfl rfl ?_
  refine z_iload B 7 rfl 4 rfl ?_
  refine z_iconst 2 B 8 rfl (by decide) ?_
  refine z_iadd B 9 rfl ?_
  obtain ⟨hx, hf⟩ := rsc_e hf
  refine z_sld hs B 10 rfl hx ?_
  obtain ⟨v178, ex, hf⟩ := nm_x hf
  refine z_top ex ?_
  refine z_aload_n B 11 rfl 0 0 rfl rfl ?_
  refine z_iload B 12 rfl 4 rfl ?_
  refine z_iconst 3 B 13 rfl (by decide) ?_
  refine z_iadd B 14 rfl ?_
  obtain ⟨hx, hf⟩ := rsc_e hf
  refine z_sld hs B 15 rfl hx ?_
  obtain ⟨v179, ex, hf⟩ := nm_x hf
  refine z_top ex ?_
  by_cases hc : v179 = 0
  · replace hf := (if_pos hc).symm.trans hf
    refine z_if_eq_t B 16 rfl 1402 (by decide) hc ?_
    refine z_iconst 0 B 17 rfl (by decide) ?_
    exact fL_law_j1403_ok hj hfl X B0 hs hK hk23 _ _ _ _ _ hf
  · replace hf := (if_neg hc).symm.trans hf
    refine z_if_eq_f B 16 rfl 1402 (by decide) hc ?_
    refine z_iconst 1 B 18 rfl (by decide) ?_
    refine z_goto B 19 rfl 1403 (by decide) ?_
    exact fL_law_j1403_ok hj hfl X B0 hs hK hk23 _ _ _ _ _ hf
def fL_law_j1442 (L : Nat) (xs : Nat → Int32) (k23 : Int32 → Mem → Option Int32) (x4 : Int32) (mm : Mem) : Option Int32 := rsc L (x4 + (1 : Int32)) (nm (xs (x4 + (1 : Int32)).toNatClampNeg) (fun v185 => bd (f6_needs mm v185) (fun r186 => rsc L (x4 + (1 : Int32)) (nm (xs (x4 + (1 : Int32)).toNatClampNeg) (fun v187 => bd (f7_needs r186.2 v187) (fun r188 => if r186.1 = r188.1 then fL_law_j1579 L xs k23 x4 r188.2 else some (0 : Int32)))))))
def tbfL_law_j1442 : Tb := [(1442, .aload_n 1, 1, 1443), (1443, .aload_n 0, 1, 1444), (1444, .iload 4, 2, 1446), (1446, .iconst 1, 1, 1447), (1447, .iadd, 1, 1448), (1448, .iaload, 1, 1449), (1449, .invokevirtual 162, 3, 1452), (1452, .aload_n 2, 1, 1453), (1453, .aload_n 0, 1, 1454), (1454, .iload 4, 2, 1456), (1456, .iconst 1, 1, 1457), (1457, .iadd, 1, 1458), (1458, .iaload, 1, 1459), (1459, .invokevirtual 165, 3, 1462), (1462, .if_icmp .eq 117, 3, 1465), (1465, .iconst 0, 1, 1466), (1466, .ireturn, 1, 1467)]
theorem dtfL_law_j1442 : ∀ q ∈ tbfL_law_j1442, decode code q.1 = .ok (q.2.1, q.2.2.1) ∧ q.1 + q.2.2.1 = q.2.2.2 := by decide +kernel
theorem fL_law_j1442_ok {E : Ev} {l : Launch} {C : Cfg} {L : Nat} {xs : Nat → Int32} {k23 : Int32 → Mem → Option Int32} {kN nN : Nat} (hj : Dj C) (hfl : l.stackTraces = false) (X : Ec E l C room_1) (B0 : BL E) (hs : Sc E L xs) (hK : kle E kN nN) (hk23 : ∀ (x4 : Int32) (mm : Mem), k23 x4 mm = some 1 → G (setk E kN nN) 7 23 [(0, .ref 5000), (1, .ref 14), (2, .ref 0), (3, .ref 133), (4, .int x4)] [] mm) (hK1 : kle1 E kN nN) (x4 : Int32) (mm : Mem) (hf : fL_law_j1442 L xs k23 x4 mm = some 1) : G E 7 1442 [(0, .ref 5000), (1, .ref 14), (2, .ref 0), (3, .ref 133), (4, .int x4)] [] mm := by
  have B := B0.to dtfL_law_j1442
  unfold fL_law_j1442 at hf
  refine z_aload_n B 0 rfl 1 1 rfl rfl ?_
  refine z_aload_n B 1 rfl 0 0 rfl rfl ?_
  refine z_iload B 2 rfl 4 rfl ?_
  refine z_iconst 1 B 3 rfl (by decide) ?_
  refine z_iadd B 4 rfl ?_
  obtain ⟨hx, hf⟩ := rsc_e hf
  refine z_sld hs B 5 rfl hx ?_
  obtain ⟨v185, ex, hf⟩ := nm_x hf
  refine z_top ex ?_
  obtain ⟨r186, ec, hf⟩ := bd_e hf
  refine z_callV 14 6 [.int v185] [] [.int r186.1] X B 6 rfl ob_14 rfl rfl miX6_needs ⟨(iL_law _ (List.mem_of_getElem? (i := 190) rfl)), (iL_law _ (List.mem_of_getElem? (i := 191) rfl)), (iL_law _ (List.mem_of_getElem? (i := 192) rfl))⟩ (ctX6_needs hj ec) ⟨Nat.le_of_ble_eq_true rfl, Nat.le_of_ble_eq_true rfl⟩ rfl rfl (Nat.le_of_ble_eq_true rfl) rfl ?_
  refine z_aload_n B 7 rfl 2 2 rfl rfl ?_
  refine z_aload_n B 8 rfl 0 0 rfl rfl ?_
  refine z_iload B 9 rfl 4 rfl ?_
  refine z_iconst 1 B 10 rfl (by decide) ?_
  refine z_iadd B 11 rfl ?_
  obtain ⟨hx, hf⟩ := rsc_e hf
  refine z_sld hs B 12 rfl hx ?_
  obtain ⟨v187, ex, hf⟩ := nm_x hf
  refine z_top ex ?_
  obtain ⟨r188, ec, hf⟩ := bd_e hf
  refine z_callV 0 7 [.int v187] [.int r186.1] [.int r188.1, .int r186.1] X B 13 rfl ob_0 rfl rfl miX7_needs ⟨(iL_law _ (List.mem_of_getElem? (i := 193) rfl)), (iL_law _ (List.mem_of_getElem? (i := 194) rfl)), (iL_law _ (List.mem_of_getElem? (i := 195) rfl))⟩ (ctX7_needs hj ec) ⟨Nat.le_of_ble_eq_true rfl, Nat.le_of_ble_eq_true rfl⟩ rfl rfl (Nat.le_of_ble_eq_true rfl) rfl ?_
  by_cases hc : r186.1 = r188.1
  · replace hf := (if_pos hc).symm.trans hf
    refine z_icmp_eq_t B 14 rfl 1579 (by decide) hc ?_
    exact fL_law_j1579_ok hj hfl X B0 hs hK hk23 _ _ hf
  · replace hf := (if_neg hc).symm.trans hf
    refine z_icmp_eq_f B 14 rfl 1579 (by decide) hc ?_
    refine z_iconst 0 B 15 rfl (by decide) ?_
    exact absurd (Option.some.inj hf) (by decide)
def fL_law_j1467 (L : Nat) (xs : Nat → Int32) (k23 : Int32 → Mem → Option Int32) (x4 : Int32) (mm : Mem) : Option Int32 := rsc L (x4 + (1 : Int32)) (nm (xs (x4 + (1 : Int32)).toNatClampNeg) (fun v189 => bd (f6_freely mm v189) (fun r190 => rsc L (x4 + (1 : Int32)) (nm (xs (x4 + (1 : Int32)).toNatClampNeg) (fun v191 => bd (f7_freely r190.2 v191) (fun r192 => if r190.1 = r192.1 then fL_law_j1579 L xs k23 x4 r192.2 else some (0 : Int32)))))))
def tbfL_law_j1467 : Tb := [(1467, .aload_n 1, 1, 1468), (1468, .aload_n 0, 1, 1469), (1469, .iload 4, 2, 1471), (1471, .iconst 1, 1, 1472), (1472, .iadd, 1, 1473), (1473, .iaload, 1, 1474), (1474, .invokevirtual 166, 3, 1477), (1477, .aload_n 2, 1, 1478), (1478, .aload_n 0, 1, 1479), (1479, .iload 4, 2, 1481), (1481, .iconst 1, 1, 1482), (1482, .iadd, 1, 1483), (1483, .iaload, 1, 1484), (1484, .invokevirtual 169, 3, 1487), (1487, .if_icmp .eq 92, 3, 1490), (1490, .iconst 0, 1, 1491), (1491, .ireturn, 1, 1492)]
theorem dtfL_law_j1467 : ∀ q ∈ tbfL_law_j1467, decode code q.1 = .ok (q.2.1, q.2.2.1) ∧ q.1 + q.2.2.1 = q.2.2.2 := by decide +kernel
theorem fL_law_j1467_ok {E : Ev} {l : Launch} {C : Cfg} {L : Nat} {xs : Nat → Int32} {k23 : Int32 → Mem → Option Int32} {kN nN : Nat} (hj : Dj C) (hfl : l.stackTraces = false) (X : Ec E l C room_1) (B0 : BL E) (hs : Sc E L xs) (hK : kle E kN nN) (hk23 : ∀ (x4 : Int32) (mm : Mem), k23 x4 mm = some 1 → G (setk E kN nN) 7 23 [(0, .ref 5000), (1, .ref 14), (2, .ref 0), (3, .ref 133), (4, .int x4)] [] mm) (hK1 : kle1 E kN nN) (x4 : Int32) (mm : Mem) (hf : fL_law_j1467 L xs k23 x4 mm = some 1) : G E 7 1467 [(0, .ref 5000), (1, .ref 14), (2, .ref 0), (3, .ref 133), (4, .int x4)] [] mm := by
  have B := B0.to dtfL_law_j1467
  unfold fL_law_j1467 at hf
  refine z_aload_n B 0 rfl 1 1 rfl rfl ?_
  refine z_aload_n B 1 rfl 0 0 rfl rfl ?_
  refine z_iload B 2 rfl 4 rfl ?_
  refine z_iconst 1 B 3 rfl (by decide) ?_
  refine z_iadd B 4 rfl ?_
  obtain ⟨hx, hf⟩ := rsc_e hf
  refine z_sld hs B 5 rfl hx ?_
  obtain ⟨v189, ex, hf⟩ := nm_x hf
  refine z_top ex ?_
  obtain ⟨r190, ec, hf⟩ := bd_e hf
  refine z_callV 14 6 [.int v189] [] [.int r190.1] X B 6 rfl ob_14 rfl rfl miX6_freely ⟨(iL_law _ (List.mem_of_getElem? (i := 196) rfl)), (iL_law _ (List.mem_of_getElem? (i := 197) rfl)), (iL_law _ (List.mem_of_getElem? (i := 198) rfl))⟩ (ctX6_freely hj ec) ⟨Nat.le_of_ble_eq_true rfl, Nat.le_of_ble_eq_true rfl⟩ rfl rfl (Nat.le_of_ble_eq_true rfl) rfl ?_
  refine z_aload_n B 7 rfl 2 2 rfl rfl ?_
  refine z_aload_n B 8 rfl 0 0 rfl rfl ?_
  refine z_iload B 9 rfl 4 rfl ?_
  refine z_iconst 1 B 10 rfl (by decide) ?_
  refine z_iadd B 11 rfl ?_
  obtain ⟨hx, hf⟩ := rsc_e hf
  refine z_sld hs B 12 rfl hx ?_
  obtain ⟨v191, ex, hf⟩ := nm_x hf
  refine z_top ex ?_
  obtain ⟨r192, ec, hf⟩ := bd_e hf
  refine z_callV 0 7 [.int v191] [.int r190.1] [.int r192.1, .int r190.1] X B 13 rfl ob_0 rfl rfl miX7_freely ⟨(iL_law _ (List.mem_of_getElem? (i := 199) rfl)), (iL_law _ (List.mem_of_getElem? (i := 200) rfl)), (iL_law _ (List.mem_of_getElem? (i := 201) rfl))⟩ (ctX7_freely hj ec) ⟨Nat.le_of_ble_eq_true rfl, Nat.le_of_ble_eq_true rfl⟩ rfl rfl (Nat.le_of_ble_eq_true rfl) rfl ?_
  by_cases hc : r190.1 = r192.1
  · replace hf := (if_pos hc).symm.trans hf
    refine z_icmp_eq_t B 14 rfl 1579 (by decide) hc ?_
    exact fL_law_j1579_ok hj hfl X B0 hs hK hk23 _ _ hf
  · replace hf := (if_neg hc).symm.trans hf
    refine z_icmp_eq_f B 14 rfl 1579 (by decide) hc ?_
    refine z_iconst 0 B 15 rfl (by decide) ?_
    exact absurd (Option.some.inj hf) (by decide)
def fL_law_j1492 (L : Nat) (xs : Nat → Int32) (k23 : Int32 → Mem → Option Int32) (x4 : Int32) (mm : Mem) : Option Int32 := rsc L (x4 + (1 : Int32)) (nm (xs (x4 + (1 : Int32)).toNatClampNeg) (fun v193 => rsc L (x4 + (2 : Int32)) (nm (xs (x4 + (2 : Int32)).toNatClampNeg) (fun v194 => rsc L (x4 + (3 : Int32)) (nm (xs (x4 + (3 : Int32)).toNatClampNeg) (fun v195 => bd (f6_gain mm v193 v194 v195) (fun r196 => rsc L (x4 + (1 : Int32)) (nm (xs (x4 + (1 : Int32)).toNatClampNeg) (fun v197 => rsc L (x4 + (2 : Int32)) (nm (xs (x4 + (2 : Int32)).toNatClampNeg) (fun v198 => rsc L (x4 + (3 : Int32)) (nm (xs (x4 + (3 : Int32)).toNatClampNeg) (fun v199 => bd (f7_gain r196.2 v197 v198 v199) (fun r200 => if (lg_cmp r196.1 r200.1) = 0 then fL_law_j1579 L xs k23 x4 r200.2 else some (0 : Int32)))))))))))))))
def tbfL_law_j1492 : Tb := [(1492, .aload_n 1, 1, 1493), (1493, .aload_n 0, 1, 1494), (1494, .iload 4, 2, 1496), (1496, .iconst 1, 1, 1497), (1497, .iadd, 1, 1498), (1498, .iaload, 1, 1499), (1499, .aload_n 0, 1, 1500), (1500, .iload 4, 2, 1502), (1502, .iconst 2, 1, 1503), (1503, .iadd, 1, 1504), (1504, .iaload, 1, 1505), (1505, .aload_n 0, 1, 1506), (1506, .iload 4, 2, 1508), (1508, .iconst 3, 1, 1509), (1509, .iadd, 1, 1510), (1510, .iaload, 1, 1511), (1511, .invokevirtual 170, 3, 1514), (1514, .aload_n 2, 1, 1515), (1515, .aload_n 0, 1, 1516), (1516, .iload 4, 2, 1518), (1518, .iconst 1, 1, 1519), (1519, .iadd, 1, 1520), (1520, .iaload, 1, 1521), (1521, .aload_n 0, 1, 1522), (1522, .iload 4, 2, 1524), (1524, .iconst 2, 1, 1525), (1525, .iadd, 1, 1526), (1526, .iaload, 1, 1527), (1527, .aload_n 0, 1, 1528), (1528, .iload 4, 2, 1530), (1530, .iconst 3, 1, 1531), (1531, .iadd, 1, 1532), (1532, .iaload, 1, 1533), (1533, .invokevirtual 174, 3, 1536), (1536, .lcmp, 1, 1537), (1537, .ifCond .eq 42, 3, 1540), (1540, .iconst 0, 1, 1541), (1541, .ireturn, 1, 1542)]
theorem dtfL_law_j1492 : ∀ q ∈ tbfL_law_j1492, decode code q.1 = .ok (q.2.1, q.2.2.1) ∧ q.1 + q.2.2.1 = q.2.2.2 := by decide +kernel
theorem fL_law_j1492_ok {E : Ev} {l : Launch} {C : Cfg} {L : Nat} {xs : Nat → Int32} {k23 : Int32 → Mem → Option Int32} {kN nN : Nat} (hj : Dj C) (hfl : l.stackTraces = false) (X : Ec E l C room_1) (B0 : BL E) (hs : Sc E L xs) (hK : kle E kN nN) (hk23 : ∀ (x4 : Int32) (mm : Mem), k23 x4 mm = some 1 → G (setk E kN nN) 7 23 [(0, .ref 5000), (1, .ref 14), (2, .ref 0), (3, .ref 133), (4, .int x4)] [] mm) (hK1 : kle1 E kN nN) (x4 : Int32) (mm : Mem) (hf : fL_law_j1492 L xs k23 x4 mm = some 1) : G E 7 1492 [(0, .ref 5000), (1, .ref 14), (2, .ref 0), (3, .ref 133), (4, .int x4)] [] mm := by
  have B := B0.to dtfL_law_j1492
  unfold fL_law_j1492 at hf
  refine z_aload_n B 0 rfl 1 1 rfl rfl ?_
  refine z_aload_n B 1 rfl 0 0 rfl rfl ?_
  refine z_iload B 2 rfl 4 rfl ?_
  refine z_iconst 1 B 3 rfl (by decide) ?_
  refine z_iadd B 4 rfl ?_
  obtain ⟨hx, hf⟩ := rsc_e hf
  refine z_sld hs B 5 rfl hx ?_
  obtain ⟨v193, ex, hf⟩ := nm_x hf
  refine z_top ex ?_
  refine z_aload_n B 6 rfl 0 0 rfl rfl ?_
  refine z_iload B 7 rfl 4 rfl ?_
  refine z_iconst 2 B 8 rfl (by decide) ?_
  refine z_iadd B 9 rfl ?_
  obtain ⟨hx, hf⟩ := rsc_e hf
  refine z_sld hs B 10 rfl hx ?_
  obtain ⟨v194, ex, hf⟩ := nm_x hf
  refine z_top ex ?_
  refine z_aload_n B 11 rfl 0 0 rfl rfl ?_
  refine z_iload B 12 rfl 4 rfl ?_
  refine z_iconst 3 B 13 rfl (by decide) ?_
  refine z_iadd B 14 rfl ?_
  obtain ⟨hx, hf⟩ := rsc_e hf
  refine z_sld hs B 15 rfl hx ?_
  obtain ⟨v195, ex, hf⟩ := nm_x hf
  refine z_top ex ?_
  obtain ⟨r196, ec, hf⟩ := bd_e hf
  refine z_callV 14 6 [.int v193, .int v194, .int v195] [] [.long r196.1] X B 16 rfl ob_14 rfl rfl miX6_gain ⟨(iL_law _ (List.mem_of_getElem? (i := 202) rfl)), (iL_law _ (List.mem_of_getElem? (i := 203) rfl)), (iL_law _ (List.mem_of_getElem? (i := 204) rfl))⟩ (ctX6_gain hj ec) ⟨Nat.le_of_ble_eq_true rfl, Nat.le_of_ble_eq_true rfl⟩ rfl rfl (Nat.le_of_ble_eq_true rfl) rfl ?_
  refine z_aload_n B 17 rfl 2 2 rfl rfl ?_
  refine z_aload_n B 18 rfl 0 0 rfl rfl ?_
  refine z_iload B 19 rfl 4 rfl ?_
  refine z_iconst 1 B 20 rfl (by decide) ?_
  refine z_iadd B 21 rfl ?_
  obtain ⟨hx, hf⟩ := rsc_e hf
  refine z_sld hs B 22 rfl hx ?_
  obtain ⟨v197, ex, hf⟩ := nm_x hf
  refine z_top ex ?_
  refine z_aload_n B 23 rfl 0 0 rfl rfl ?_
  refine z_iload B 24 rfl 4 rfl ?_
  refine z_iconst 2 B 25 rfl (by decide) ?_
  refine z_iadd B 26 rfl ?_
  obtain ⟨hx, hf⟩ := rsc_e hf
  refine z_sld hs B 27 rfl hx ?_
  obtain ⟨v198, ex, hf⟩ := nm_x hf
  refine z_top ex ?_
  refine z_aload_n B 28 rfl 0 0 rfl rfl ?_
  refine z_iload B 29 rfl 4 rfl ?_
  refine z_iconst 3 B 30 rfl (by decide) ?_
  refine z_iadd B 31 rfl ?_
  obtain ⟨hx, hf⟩ := rsc_e hf
  refine z_sld hs B 32 rfl hx ?_
  obtain ⟨v199, ex, hf⟩ := nm_x hf
  refine z_top ex ?_
  obtain ⟨r200, ec, hf⟩ := bd_e hf
  refine z_callV 0 7 [.int v197, .int v198, .int v199] [.long r196.1] [.long r200.1, .long r196.1] X B 33 rfl ob_0 rfl rfl miX7_gain ⟨(iL_law _ (List.mem_of_getElem? (i := 205) rfl)), (iL_law _ (List.mem_of_getElem? (i := 206) rfl)), (iL_law _ (List.mem_of_getElem? (i := 207) rfl))⟩ (ctX7_gain hj ec) ⟨Nat.le_of_ble_eq_true rfl, Nat.le_of_ble_eq_true rfl⟩ rfl rfl (Nat.le_of_ble_eq_true rfl) rfl ?_
  refine z_lcmp B 34 rfl ?_
  by_cases hc : (lg_cmp r196.1 r200.1) = 0
  · replace hf := (if_pos hc).symm.trans hf
    refine z_if_eq_t B 35 rfl 1579 (by decide) hc ?_
    exact fL_law_j1579_ok hj hfl X B0 hs hK hk23 _ _ hf
  · replace hf := (if_neg hc).symm.trans hf
    refine z_if_eq_f B 35 rfl 1579 (by decide) hc ?_
    refine z_iconst 0 B 36 rfl (by decide) ?_
    exact absurd (Option.some.inj hf) (by decide)
def fL_law_j1542 (L : Nat) (xs : Nat → Int32) (k23 : Int32 → Mem → Option Int32) (x4 : Int32) (mm : Mem) : Option Int32 := rsc L (x4 + (1 : Int32)) (nm (xs (x4 + (1 : Int32)).toNatClampNeg) (fun v201 => rsc L (x4 + (2 : Int32)) (nm (xs (x4 + (2 : Int32)).toNatClampNeg) (fun v202 => bd (f6_best mm v201 v202) (fun r203 => rsc L (x4 + (1 : Int32)) (nm (xs (x4 + (1 : Int32)).toNatClampNeg) (fun v204 => rsc L (x4 + (2 : Int32)) (nm (xs (x4 + (2 : Int32)).toNatClampNeg) (fun v205 => bd (f7_best r203.2 v204 v205) (fun r206 => if r203.1 = r206.1 then fL_law_j1579 L xs k23 x4 r206.2 else some (0 : Int32)))))))))))
def tbfL_law_j1542 : Tb := [(1542, .aload_n 1, 1, 1543), (1543, .aload_n 0, 1, 1544), (1544, .iload 4, 2, 1546), (1546, .iconst 1, 1, 1547), (1547, .iadd, 1, 1548), (1548, .iaload, 1, 1549), (1549, .aload_n 0, 1, 1550), (1550, .iload 4, 2, 1552), (1552, .iconst 2, 1, 1553), (1553, .iadd, 1, 1554), (1554, .iaload, 1, 1555), (1555, .invokevirtual 175, 3, 1558), (1558, .aload_n 2, 1, 1559), (1559, .aload_n 0, 1, 1560), (1560, .iload 4, 2, 1562), (1562, .iconst 1, 1, 1563), (1563, .iadd, 1, 1564), (1564, .iaload, 1, 1565), (1565, .aload_n 0, 1, 1566), (1566, .iload 4, 2, 1568), (1568, .iconst 2, 1, 1569), (1569, .iadd, 1, 1570), (1570, .iaload, 1, 1571), (1571, .invokevirtual 178, 3, 1574), (1574, .if_icmp .eq 5, 3, 1577), (1577, .iconst 0, 1, 1578), (1578, .ireturn, 1, 1579)]
theorem dtfL_law_j1542 : ∀ q ∈ tbfL_law_j1542, decode code q.1 = .ok (q.2.1, q.2.2.1) ∧ q.1 + q.2.2.1 = q.2.2.2 := by decide +kernel
theorem fL_law_j1542_ok {E : Ev} {l : Launch} {C : Cfg} {L : Nat} {xs : Nat → Int32} {k23 : Int32 → Mem → Option Int32} {kN nN : Nat} (hj : Dj C) (hfl : l.stackTraces = false) (X : Ec E l C room_1) (B0 : BL E) (hs : Sc E L xs) (hK : kle E kN nN) (hk23 : ∀ (x4 : Int32) (mm : Mem), k23 x4 mm = some 1 → G (setk E kN nN) 7 23 [(0, .ref 5000), (1, .ref 14), (2, .ref 0), (3, .ref 133), (4, .int x4)] [] mm) (hK1 : kle1 E kN nN) (x4 : Int32) (mm : Mem) (hf : fL_law_j1542 L xs k23 x4 mm = some 1) : G E 7 1542 [(0, .ref 5000), (1, .ref 14), (2, .ref 0), (3, .ref 133), (4, .int x4)] [] mm := by
  have B := B0.to dtfL_law_j1542
  unfold fL_law_j1542 at hf
  refine z_aload_n B 0 rfl 1 1 rfl rfl ?_
  refine z_aload_n B 1 rfl 0 0 rfl rfl ?_
  refine z_iload B 2 rfl 4 rfl ?_
  refine z_iconst 1 B 3 rfl (by decide) ?_
  refine z_iadd B 4 rfl ?_
  obtain ⟨hx, hf⟩ := rsc_e hf
  refine z_sld hs B 5 rfl hx ?_
  obtain ⟨v201, ex, hf⟩ := nm_x hf
  refine z_top ex ?_
  refine z_aload_n B 6 rfl 0 0 rfl rfl ?_
  refine z_iload B 7 rfl 4 rfl ?_
  refine z_iconst 2 B 8 rfl (by decide) ?_
  refine z_iadd B 9 rfl ?_
  obtain ⟨hx, hf⟩ := rsc_e hf
  refine z_sld hs B 10 rfl hx ?_
  obtain ⟨v202, ex, hf⟩ := nm_x hf
  refine z_top ex ?_
  obtain ⟨r203, ec, hf⟩ := bd_e hf
  refine z_callV 14 6 [.int v201, .int v202] [] [.int r203.1] X B 11 rfl ob_14 rfl rfl miX6_best ⟨(iL_law _ (List.mem_of_getElem? (i := 208) rfl)), (iL_law _ (List.mem_of_getElem? (i := 209) rfl)), (iL_law _ (List.mem_of_getElem? (i := 210) rfl))⟩ (ctX6_best hj ec) ⟨Nat.le_of_ble_eq_true rfl, Nat.le_of_ble_eq_true rfl⟩ rfl rfl (Nat.le_of_ble_eq_true rfl) rfl ?_
  refine z_aload_n B 12 rfl 2 2 rfl rfl ?_
  refine z_aload_n B 13 rfl 0 0 rfl rfl ?_
  refine z_iload B 14 rfl 4 rfl ?_
  refine z_iconst 1 B 15 rfl (by decide) ?_
  refine z_iadd B 16 rfl ?_
  obtain ⟨hx, hf⟩ := rsc_e hf
  refine z_sld hs B 17 rfl hx ?_
  obtain ⟨v204, ex, hf⟩ := nm_x hf
  refine z_top ex ?_
  refine z_aload_n B 18 rfl 0 0 rfl rfl ?_
  refine z_iload B 19 rfl 4 rfl ?_
  refine z_iconst 2 B 20 rfl (by decide) ?_
  refine z_iadd B 21 rfl ?_
  obtain ⟨hx, hf⟩ := rsc_e hf
  refine z_sld hs B 22 rfl hx ?_
  obtain ⟨v205, ex, hf⟩ := nm_x hf
  refine z_top ex ?_
  obtain ⟨r206, ec, hf⟩ := bd_e hf
  refine z_callV 0 7 [.int v204, .int v205] [.int r203.1] [.int r206.1, .int r203.1] X B 23 rfl ob_0 rfl rfl miX7_best ⟨(iL_law _ (List.mem_of_getElem? (i := 211) rfl)), (iL_law _ (List.mem_of_getElem? (i := 212) rfl)), (iL_law _ (List.mem_of_getElem? (i := 213) rfl))⟩ (ctX7_best hj ec) ⟨Nat.le_of_ble_eq_true rfl, Nat.le_of_ble_eq_true rfl⟩ rfl rfl (Nat.le_of_ble_eq_true rfl) rfl ?_
  by_cases hc : r203.1 = r206.1
  · replace hf := (if_pos hc).symm.trans hf
    refine z_icmp_eq_t B 24 rfl 1579 (by decide) hc ?_
    exact fL_law_j1579_ok hj hfl X B0 hs hK hk23 _ _ hf
  · replace hf := (if_neg hc).symm.trans hf
    refine z_icmp_eq_f B 24 rfl 1579 (by decide) hc ?_
    refine z_iconst 0 B 25 rfl (by decide) ?_
    exact absurd (Option.some.inj hf) (by decide)
def fL_law_l23 (L : Nat) (xs : Nat → Int32) (k23 : Int32 → Mem → Option Int32) (x4 : Int32) (mm : Mem) : Option Int32 := if ((nI L) - (6 : Int32)) < x4 then some (1 : Int32) else rsc L x4 (nm (xs x4.toNatClampNeg) (fun v1 => if (v1 &&& (63 : Int32)) = 0 then fL_law_j196 L xs k23 x4 mm else if (v1 &&& (63 : Int32)) = 1 then fL_law_j269 L xs k23 x4 mm else if (v1 &&& (63 : Int32)) = 2 then fL_law_j294 L xs k23 x4 mm else if (v1 &&& (63 : Int32)) = 3 then fL_law_j307 L xs k23 x4 mm else if (v1 &&& (63 : Int32)) = 4 then fL_law_j320 L xs k23 x4 mm else if (v1 &&& (63 : Int32)) = 5 then fL_law_j369 L xs k23 x4 mm else if (v1 &&& (63 : Int32)) = 6 then fL_law_j418 L xs k23 x4 mm else if (v1 &&& (63 : Int32)) = 7 then fL_law_j507 L xs k23 x4 mm else if (v1 &&& (63 : Int32)) = 8 then fL_law_j556 L xs k23 x4 mm else if (v1 &&& (63 : Int32)) = 9 then fL_law_j609 L xs k23 x4 mm else if (v1 &&& (63 : Int32)) = 10 then fL_law_j658 L xs k23 x4 mm else if (v1 &&& (63 : Int32)) = 11 then fL_law_j683 L xs k23 x4 mm else if (v1 &&& (63 : Int32)) = 12 then fL_law_j708 L xs k23 x4 mm else if (v1 &&& (63 : Int32)) = 13 then fL_law_j733 L xs k23 x4 mm else if (v1 &&& (63 : Int32)) = 14 then fL_law_j801 L xs k23 x4 mm else if (v1 &&& (63 : Int32)) = 15 then fL_law_j869 L xs k23 x4 mm else if (v1 &&& (63 : Int32)) = 16 then fL_law_j934 L xs k23 x4 mm else if (v1 &&& (63 : Int32)) = 17 then fL_law_j971 L xs k23 x4 mm else if (v1 &&& (63 : Int32)) = 18 then fL_law_j1008 L xs k23 x4 mm else if (v1 &&& (63 : Int32)) = 19 then fL_law_j1073 L xs k23 x4 mm else if (v1 &&& (63 : Int32)) = 20 then fL_law_j1098 L xs k23 x4 mm else if (v1 &&& (63 : Int32)) = 21 then fL_law_j1123 L xs k23 x4 mm else if (v1 &&& (63 : Int32)) = 22 then fL_law_j1148 L xs k23 x4 mm else if (v1 &&& (63 : Int32)) = 23 then fL_law_j1185 L xs k23 x4 mm else if (v1 &&& (63 : Int32)) = 24 then fL_law_j1210 L xs k23 x4 mm else if (v1 &&& (63 : Int32)) = 25 then fL_law_j1224 L xs k23 x4 mm else if (v1 &&& (63 : Int32)) = 26 then fL_law_j1250 L xs k23 x4 mm else if (v1 &&& (63 : Int32)) = 27 then fL_law_j1276 L xs k23 x4 mm else if (v1 &&& (63 : Int32)) = 28 then fL_law_j1302 L xs k23 x4 mm else if (v1 &&& (63 : Int32)) = 29 then fL_law_j1339 L xs k23 x4 mm else if (v1 &&& (63 : Int32)) = 30 then fL_law_j1376 L xs k23 x4 mm else if (v1 &&& (63 : Int32)) = 31 then fL_law_j1442 L xs k23 x4 mm else if (v1 &&& (63 : Int32)) = 32 then fL_law_j1467 L xs k23 x4 mm else if (v1 &&& (63 : Int32)) = 33 then fL_law_j1492 L xs k23 x4 mm else if (v1 &&& (63 : Int32)) = 34 then fL_law_j1542 L xs k23 x4 mm else fL_law_j1579 L xs k23 x4 mm))
def tbfL_law_l23 : Tb := [(23, .iload 4, 2, 25), (25, .aload_n 0, 1, 26), (26, .arraylength, 1, 27), (27, .bipush 6, 2, 29), (29, .isub, 1, 30), (30, .if_icmp .gt 1555, 3, 33), (1585, .iconst 1, 1, 1586), (1586, .ireturn, 1, 1587), (33, .aload_n 0, 1, 34), (34, .iload 4, 2, 36), (36, .iaload, 1, 37), (37, .bipush 63, 2, 39), (39, .iand, 1, 40), (40, .tableswitch 1539 0 34 #[156, 229, 254, 267, 280, 329, 378, 467, 516, 569, 618, 643, 668, 693, 761, 829, 894, 931, 968, 1033, 1058, 1083, 1108, 1145, 1170, 1184, 1210, 1236, 1262, 1299, 1336, 1402, 1427, 1452, 1502], 156, 196)]
theorem dtfL_law_l23 : ∀ q ∈ tbfL_law_l23, decode code q.1 = .ok (q.2.1, q.2.2.1) ∧ q.1 + q.2.2.1 = q.2.2.2 := by decide +kernel
theorem fL_law_l23_ok {E : Ev} {l : Launch} {C : Cfg} {L : Nat} {xs : Nat → Int32} {k23 : Int32 → Mem → Option Int32} {kN nN : Nat} (hj : Dj C) (hfl : l.stackTraces = false) (X : Ec E l C room_1) (B0 : BL E) (hs : Sc E L xs) (hK : kle E kN nN) (hk23 : ∀ (x4 : Int32) (mm : Mem), k23 x4 mm = some 1 → G (setk E kN nN) 7 23 [(0, .ref 5000), (1, .ref 14), (2, .ref 0), (3, .ref 133), (4, .int x4)] [] mm) (hK1 : kle1 E kN nN) (hend : LEnd E) (x4 : Int32) (mm : Mem) (hf : fL_law_l23 L xs k23 x4 mm = some 1) : G E 7 23 [(0, .ref 5000), (1, .ref 14), (2, .ref 0), (3, .ref 133), (4, .int x4)] [] mm := by
  have B := B0.to dtfL_law_l23
  unfold fL_law_l23 at hf
  refine z_iload B 0 rfl 4 rfl ?_
  refine z_aload_n B 1 rfl 0 0 rfl rfl ?_
  refine z_scl hs B 2 rfl ?_
  refine z_bipush 6 B 3 rfl (by decide) ?_
  refine z_isub B 4 rfl ?_
  by_cases hc : ((nI L) - (6 : Int32)) < x4
  · replace hf := (if_pos hc).symm.trans hf
    refine z_icmp_gt_t B 5 rfl 1585 (by decide) hc ?_
    refine z_iconst 1 B 6 rfl (by decide) ?_
    exact hend _ _ _ _ B (List.mem_of_getElem? (i := 7) rfl)
  · replace hf := (if_neg hc).symm.trans hf
    refine z_icmp_gt_f B 5 rfl 1585 (by decide) hc ?_
    refine z_aload_n B 8 rfl 0 0 rfl rfl ?_
    refine z_iload B 9 rfl 4 rfl ?_
    obtain ⟨hx, hf⟩ := rsc_e hf
    refine z_sld hs B 10 rfl hx ?_
    obtain ⟨v1, ex, hf⟩ := nm_x hf
    refine z_top ex ?_
    refine z_bipush 63 B 11 rfl (by decide) ?_
    refine z_iand B 12 rfl ?_
    by_cases hc : (v1 &&& (63 : Int32)) = 0
    · replace hf := (if_pos hc).symm.trans hf
      refine z_tswi B 13 rfl 0 (156) 196 (by rw [hc]; decide) (by decide) rfl (by decide) ?_
      exact fL_law_j196_ok hj hfl X B0 hs hK hk23 hK1 _ _ hf
    · replace hf := (if_neg hc).symm.trans hf
      have hc0 := hc
      by_cases hc : (v1 &&& (63 : Int32)) = 1
      · replace hf := (if_pos hc).symm.trans hf
        refine z_tswi B 13 rfl 1 (229) 269 (by rw [hc]; decide) (by decide) rfl (by decide) ?_
        exact fL_law_j269_ok hj hfl X B0 hs hK hk23 hK1 _ _ hf
      · replace hf := (if_neg hc).symm.trans hf
        have hc1 := hc
        by_cases hc : (v1 &&& (63 : Int32)) = 2
        · replace hf := (if_pos hc).symm.trans hf
          refine z_tswi B 13 rfl 2 (254) 294 (by rw [hc]; decide) (by decide) rfl (by decide) ?_
          exact fL_law_j294_ok hj hfl X B0 hs hK hk23 hK1 _ _ hf
        · replace hf := (if_neg hc).symm.trans hf
          have hc2 := hc
          by_cases hc : (v1 &&& (63 : Int32)) = 3
          · replace hf := (if_pos hc).symm.trans hf
            refine z_tswi B 13 rfl 3 (267) 307 (by rw [hc]; decide) (by decide) rfl (by decide) ?_
            exact fL_law_j307_ok hj hfl X B0 hs hK hk23 hK1 _ _ hf
          · replace hf := (if_neg hc).symm.trans hf
            have hc3 := hc
            by_cases hc : (v1 &&& (63 : Int32)) = 4
            · replace hf := (if_pos hc).symm.trans hf
              refine z_tswi B 13 rfl 4 (280) 320 (by rw [hc]; decide) (by decide) rfl (by decide) ?_
              exact fL_law_j320_ok hj hfl X B0 hs hK hk23 hK1 _ _ hf
            · replace hf := (if_neg hc).symm.trans hf
              have hc4 := hc
              by_cases hc : (v1 &&& (63 : Int32)) = 5
              · replace hf := (if_pos hc).symm.trans hf
                refine z_tswi B 13 rfl 5 (329) 369 (by rw [hc]; decide) (by decide) rfl (by decide) ?_
                exact fL_law_j369_ok hj hfl X B0 hs hK hk23 hK1 _ _ hf
              · replace hf := (if_neg hc).symm.trans hf
                have hc5 := hc
                by_cases hc : (v1 &&& (63 : Int32)) = 6
                · replace hf := (if_pos hc).symm.trans hf
                  refine z_tswi B 13 rfl 6 (378) 418 (by rw [hc]; decide) (by decide) rfl (by decide) ?_
                  exact fL_law_j418_ok hj hfl X B0 hs hK hk23 hK1 _ _ hf
                · replace hf := (if_neg hc).symm.trans hf
                  have hc6 := hc
                  by_cases hc : (v1 &&& (63 : Int32)) = 7
                  · replace hf := (if_pos hc).symm.trans hf
                    refine z_tswi B 13 rfl 7 (467) 507 (by rw [hc]; decide) (by decide) rfl (by decide) ?_
                    exact fL_law_j507_ok hj hfl X B0 hs hK hk23 hK1 _ _ hf
                  · replace hf := (if_neg hc).symm.trans hf
                    have hc7 := hc
                    by_cases hc : (v1 &&& (63 : Int32)) = 8
                    · replace hf := (if_pos hc).symm.trans hf
                      refine z_tswi B 13 rfl 8 (516) 556 (by rw [hc]; decide) (by decide) rfl (by decide) ?_
                      exact fL_law_j556_ok hj hfl X B0 hs hK hk23 hK1 _ _ hf
                    · replace hf := (if_neg hc).symm.trans hf
                      have hc8 := hc
                      by_cases hc : (v1 &&& (63 : Int32)) = 9
                      · replace hf := (if_pos hc).symm.trans hf
                        refine z_tswi B 13 rfl 9 (569) 609 (by rw [hc]; decide) (by decide) rfl (by decide) ?_
                        exact fL_law_j609_ok hj hfl X B0 hs hK hk23 hK1 _ _ hf
                      · replace hf := (if_neg hc).symm.trans hf
                        have hc9 := hc
                        by_cases hc : (v1 &&& (63 : Int32)) = 10
                        · replace hf := (if_pos hc).symm.trans hf
                          refine z_tswi B 13 rfl 10 (618) 658 (by rw [hc]; decide) (by decide) rfl (by decide) ?_
                          exact fL_law_j658_ok hj hfl X B0 hs hK hk23 hK1 _ _ hf
                        · replace hf := (if_neg hc).symm.trans hf
                          have hc10 := hc
                          by_cases hc : (v1 &&& (63 : Int32)) = 11
                          · replace hf := (if_pos hc).symm.trans hf
                            refine z_tswi B 13 rfl 11 (643) 683 (by rw [hc]; decide) (by decide) rfl (by decide) ?_
                            exact fL_law_j683_ok hj hfl X B0 hs hK hk23 hK1 _ _ hf
                          · replace hf := (if_neg hc).symm.trans hf
                            have hc11 := hc
                            by_cases hc : (v1 &&& (63 : Int32)) = 12
                            · replace hf := (if_pos hc).symm.trans hf
                              refine z_tswi B 13 rfl 12 (668) 708 (by rw [hc]; decide) (by decide) rfl (by decide) ?_
                              exact fL_law_j708_ok hj hfl X B0 hs hK hk23 hK1 _ _ hf
                            · replace hf := (if_neg hc).symm.trans hf
                              have hc12 := hc
                              by_cases hc : (v1 &&& (63 : Int32)) = 13
                              · replace hf := (if_pos hc).symm.trans hf
                                refine z_tswi B 13 rfl 13 (693) 733 (by rw [hc]; decide) (by decide) rfl (by decide) ?_
                                exact fL_law_j733_ok hj hfl X B0 hs hK hk23 hK1 _ _ hf
                              · replace hf := (if_neg hc).symm.trans hf
                                have hc13 := hc
                                by_cases hc : (v1 &&& (63 : Int32)) = 14
                                · replace hf := (if_pos hc).symm.trans hf
                                  refine z_tswi B 13 rfl 14 (761) 801 (by rw [hc]; decide) (by decide) rfl (by decide) ?_
                                  exact fL_law_j801_ok hj hfl X B0 hs hK hk23 hK1 _ _ hf
                                · replace hf := (if_neg hc).symm.trans hf
                                  have hc14 := hc
                                  by_cases hc : (v1 &&& (63 : Int32)) = 15
                                  · replace hf := (if_pos hc).symm.trans hf
                                    refine z_tswi B 13 rfl 15 (829) 869 (by rw [hc]; decide) (by decide) rfl (by decide) ?_
                                    exact fL_law_j869_ok hj hfl X B0 hs hK hk23 hK1 _ _ hf
                                  · replace hf := (if_neg hc).symm.trans hf
                                    have hc15 := hc
                                    by_cases hc : (v1 &&& (63 : Int32)) = 16
                                    · replace hf := (if_pos hc).symm.trans hf
                                      refine z_tswi B 13 rfl 16 (894) 934 (by rw [hc]; decide) (by decide) rfl (by decide) ?_
                                      exact fL_law_j934_ok hj hfl X B0 hs hK hk23 hK1 _ _ hf
                                    · replace hf := (if_neg hc).symm.trans hf
                                      have hc16 := hc
                                      by_cases hc : (v1 &&& (63 : Int32)) = 17
                                      · replace hf := (if_pos hc).symm.trans hf
                                        refine z_tswi B 13 rfl 17 (931) 971 (by rw [hc]; decide) (by decide) rfl (by decide) ?_
                                        exact fL_law_j971_ok hj hfl X B0 hs hK hk23 hK1 _ _ hf
                                      · replace hf := (if_neg hc).symm.trans hf
                                        have hc17 := hc
                                        by_cases hc : (v1 &&& (63 : Int32)) = 18
                                        · replace hf := (if_pos hc).symm.trans hf
                                          refine z_tswi B 13 rfl 18 (968) 1008 (by rw [hc]; decide) (by decide) rfl (by decide) ?_
                                          exact fL_law_j1008_ok hj hfl X B0 hs hK hk23 hK1 _ _ hf
                                        · replace hf := (if_neg hc).symm.trans hf
                                          have hc18 := hc
                                          by_cases hc : (v1 &&& (63 : Int32)) = 19
                                          · replace hf := (if_pos hc).symm.trans hf
                                            refine z_tswi B 13 rfl 19 (1033) 1073 (by rw [hc]; decide) (by decide) rfl (by decide) ?_
                                            exact fL_law_j1073_ok hj hfl X B0 hs hK hk23 hK1 _ _ hf
                                          · replace hf := (if_neg hc).symm.trans hf
                                            have hc19 := hc
                                            by_cases hc : (v1 &&& (63 : Int32)) = 20
                                            · replace hf := (if_pos hc).symm.trans hf
                                              refine z_tswi B 13 rfl 20 (1058) 1098 (by rw [hc]; decide) (by decide) rfl (by decide) ?_
                                              exact fL_law_j1098_ok hj hfl X B0 hs hK hk23 hK1 _ _ hf
                                            · replace hf := (if_neg hc).symm.trans hf
                                              have hc20 := hc
                                              by_cases hc : (v1 &&& (63 : Int32)) = 21
                                              · replace hf := (if_pos hc).symm.trans hf
                                                refine z_tswi B 13 rfl 21 (1083) 1123 (by rw [hc]; decide) (by decide) rfl (by decide) ?_
                                                exact fL_law_j1123_ok hj hfl X B0 hs hK hk23 hK1 _ _ hf
                                              · replace hf := (if_neg hc).symm.trans hf
                                                have hc21 := hc
                                                by_cases hc : (v1 &&& (63 : Int32)) = 22
                                                · replace hf := (if_pos hc).symm.trans hf
                                                  refine z_tswi B 13 rfl 22 (1108) 1148 (by rw [hc]; decide) (by decide) rfl (by decide) ?_
                                                  exact fL_law_j1148_ok hj hfl X B0 hs hK hk23 hK1 _ _ hf
                                                · replace hf := (if_neg hc).symm.trans hf
                                                  have hc22 := hc
                                                  by_cases hc : (v1 &&& (63 : Int32)) = 23
                                                  · replace hf := (if_pos hc).symm.trans hf
                                                    refine z_tswi B 13 rfl 23 (1145) 1185 (by rw [hc]; decide) (by decide) rfl (by decide) ?_
                                                    exact fL_law_j1185_ok hj hfl X B0 hs hK hk23 hK1 _ _ hf
                                                  · replace hf := (if_neg hc).symm.trans hf
                                                    have hc23 := hc
                                                    by_cases hc : (v1 &&& (63 : Int32)) = 24
                                                    · replace hf := (if_pos hc).symm.trans hf
                                                      refine z_tswi B 13 rfl 24 (1170) 1210 (by rw [hc]; decide) (by decide) rfl (by decide) ?_
                                                      exact fL_law_j1210_ok hj hfl X B0 hs hK hk23 hK1 _ _ hf
                                                    · replace hf := (if_neg hc).symm.trans hf
                                                      have hc24 := hc
                                                      by_cases hc : (v1 &&& (63 : Int32)) = 25
                                                      · replace hf := (if_pos hc).symm.trans hf
                                                        refine z_tswi B 13 rfl 25 (1184) 1224 (by rw [hc]; decide) (by decide) rfl (by decide) ?_
                                                        exact fL_law_j1224_ok hj hfl X B0 hs hK hk23 hK1 _ _ hf
                                                      · replace hf := (if_neg hc).symm.trans hf
                                                        have hc25 := hc
                                                        by_cases hc : (v1 &&& (63 : Int32)) = 26
                                                        · replace hf := (if_pos hc).symm.trans hf
                                                          refine z_tswi B 13 rfl 26 (1210) 1250 (by rw [hc]; decide) (by decide) rfl (by decide) ?_
                                                          exact fL_law_j1250_ok hj hfl X B0 hs hK hk23 hK1 _ _ hf
                                                        · replace hf := (if_neg hc).symm.trans hf
                                                          have hc26 := hc
                                                          by_cases hc : (v1 &&& (63 : Int32)) = 27
                                                          · replace hf := (if_pos hc).symm.trans hf
                                                            refine z_tswi B 13 rfl 27 (1236) 1276 (by rw [hc]; decide) (by decide) rfl (by decide) ?_
                                                            exact fL_law_j1276_ok hj hfl X B0 hs hK hk23 hK1 _ _ hf
                                                          · replace hf := (if_neg hc).symm.trans hf
                                                            have hc27 := hc
                                                            by_cases hc : (v1 &&& (63 : Int32)) = 28
                                                            · replace hf := (if_pos hc).symm.trans hf
                                                              refine z_tswi B 13 rfl 28 (1262) 1302 (by rw [hc]; decide) (by decide) rfl (by decide) ?_
                                                              exact fL_law_j1302_ok hj hfl X B0 hs hK hk23 hK1 _ _ hf
                                                            · replace hf := (if_neg hc).symm.trans hf
                                                              have hc28 := hc
                                                              by_cases hc : (v1 &&& (63 : Int32)) = 29
                                                              · replace hf := (if_pos hc).symm.trans hf
                                                                refine z_tswi B 13 rfl 29 (1299) 1339 (by rw [hc]; decide) (by decide) rfl (by decide) ?_
                                                                exact fL_law_j1339_ok hj hfl X B0 hs hK hk23 hK1 _ _ hf
                                                              · replace hf := (if_neg hc).symm.trans hf
                                                                have hc29 := hc
                                                                by_cases hc : (v1 &&& (63 : Int32)) = 30
                                                                · replace hf := (if_pos hc).symm.trans hf
                                                                  refine z_tswi B 13 rfl 30 (1336) 1376 (by rw [hc]; decide) (by decide) rfl (by decide) ?_
                                                                  exact fL_law_j1376_ok hj hfl X B0 hs hK hk23 hK1 _ _ hf
                                                                · replace hf := (if_neg hc).symm.trans hf
                                                                  have hc30 := hc
                                                                  by_cases hc : (v1 &&& (63 : Int32)) = 31
                                                                  · replace hf := (if_pos hc).symm.trans hf
                                                                    refine z_tswi B 13 rfl 31 (1402) 1442 (by rw [hc]; decide) (by decide) rfl (by decide) ?_
                                                                    exact fL_law_j1442_ok hj hfl X B0 hs hK hk23 hK1 _ _ hf
                                                                  · replace hf := (if_neg hc).symm.trans hf
                                                                    have hc31 := hc
                                                                    by_cases hc : (v1 &&& (63 : Int32)) = 32
                                                                    · replace hf := (if_pos hc).symm.trans hf
                                                                      refine z_tswi B 13 rfl 32 (1427) 1467 (by rw [hc]; decide) (by decide) rfl (by decide) ?_
                                                                      exact fL_law_j1467_ok hj hfl X B0 hs hK hk23 hK1 _ _ hf
                                                                    · replace hf := (if_neg hc).symm.trans hf
                                                                      have hc32 := hc
                                                                      by_cases hc : (v1 &&& (63 : Int32)) = 33
                                                                      · replace hf := (if_pos hc).symm.trans hf
                                                                        refine z_tswi B 13 rfl 33 (1452) 1492 (by rw [hc]; decide) (by decide) rfl (by decide) ?_
                                                                        exact fL_law_j1492_ok hj hfl X B0 hs hK hk23 hK1 _ _ hf
                                                                      · replace hf := (if_neg hc).symm.trans hf
                                                                        have hc33 := hc
                                                                        by_cases hc : (v1 &&& (63 : Int32)) = 34
                                                                        · replace hf := (if_pos hc).symm.trans hf
                                                                          refine z_tswi B 13 rfl 34 (1502) 1542 (by rw [hc]; decide) (by decide) rfl (by decide) ?_
                                                                          exact fL_law_j1542_ok hj hfl X B0 hs hK hk23 hK1 _ _ hf
                                                                        · replace hf := (if_neg hc).symm.trans hf
                                                                          have hc34 := hc
                                                                          refine z_tswo B 13 rfl 1579 (tsw_out35 hc0 hc1 hc2 hc3 hc4 hc5 hc6 hc7 hc8 hc9 hc10 hc11 hc12 hc13 hc14 hc15 hc16 hc17 hc18 hc19 hc20 hc21 hc22 hc23 hc24 hc25 hc26 hc27 hc28 hc29 hc30 hc31 hc32 hc33 hc34) (by decide) ?_
                                                                          exact fL_law_j1579_ok hj hfl X B0 hs hK hk23 _ _ hf
