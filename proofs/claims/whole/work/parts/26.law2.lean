theorem RtW.rt {E : Ev} {et : List ExceptionTableEntry} (h : RtW E et) : Rt (setk E 1 6) := by
  obtain ⟨p, l, e, R, s, m, args, below, meth, c, Q, C, kc, ks, A, res, mo⟩ := E
  exact h.1
theorem Rs.setk {E : Ev} {r : Option Value} {mm : Mem} {k n : Nat} (h : Rs E r mm) : Rs (setk E k n) r mm := by
  obtain ⟨p, l, e, R, s, m, args, below, meth, c, Q, C, kc, ks, A, res, mo⟩ := E
  exact h
theorem RtW.kle {E : Ev} {et : List ExceptionTableEntry} {l : Launch} {C : Cfg} {R : Room} (h : RtW E et) (X : Ec E l C R) (hR : 1 ≤ R.cells ∧ 6 ≤ R.slots) : kle E 1 6 := by
  obtain ⟨p, l', e, R', s, m, args, below, meth, c, Q, C', kc, ks, A, res, mo⟩ := E
  obtain ⟨rfl, rfl, rfl⟩ := X
  obtain ⟨-, rfl, rfl, -⟩ := h
  exact ⟨Nat.zero_le _, Nat.zero_le _, hR.1, hR.2⟩
def tbL_zoneOf : Tb := [(0, .aload_n 3, 1, 1), (1, .iconst 0, 1, 2), (2, .aload_n 0, 1, 3), (3, .iload_n 1, 1, 4), (4, .iload_n 2, 1, 5), (5, .invokevirtual 7, 3, 8), (8, .i2l, 1, 9), (9, .lastore, 1, 10), (10, .goto 7, 3, 13), (13, .astore 4, 2, 15), (15, .iconst 1, 1, 16), (16, .ireturn, 1, 17), (17, .iconst 0, 1, 18), (18, .ireturn, 1, 19)]
theorem dtL_zoneOf : ∀ q ∈ tbL_zoneOf, decode cL_zoneOf q.1 = .ok (q.2.1, q.2.2.1) ∧ q.1 + q.2.2.1 = q.2.2.2 := by decide +kernel
def wL_zoneOf : List Cond := [.methodLink "ZoneCapacityLaw" 7 yX6_zoneOf, .instanceMethod yX6_zoneOf, .selects "ZoneCapacity" yX6_zoneOf yX6_zoneOf]
theorem iL_zoneOf : ∀ w ∈ wL_zoneOf, w ∈ TW := tw_of (ids := [856, 857, 858]) (by decide +kernel)
theorem ctL_zoneOf {l : Launch} {C : Cfg} (hj : Dj C) {mm : Mem} {a1 a2 x : Int32} (hf : f6_zoneOf mm a1 a2 = some x) : CtW l C yL_zoneOf cL_zoneOf 5 (some .int) [(0, 10, 13, 13)] 7 173 [.ref 14, .int a1, .int a2, .ref 133] mm (some (.int 0)) (up2 mm 133 0 x) := by
  refine CtW.of (tb := tbL_zoneOf) hj (by decide) dtL_zoneOf (Nat.le_of_ble_eq_true rfl) ?_
  intro E B hQ hr X
  have hk := hQ.kle X ⟨Nat.le_refl 1, Nat.le_refl 6⟩
  refine z_wid hk ?_
  replace B := B.setk hk
  replace X := Ec.setk (k := 1) (n := 6) X
  replace hr := Rs.setk (k := 1) (n := 6) hr
  have hQ := hQ.rt
  generalize setk E 1 6 = E at B X hr hQ ⊢
  show G E 5 0 [(0, .ref 14), (1, .int a1), (2, .int a2), (3, .ref 133)] [] mm
  refine z_aload_n B 0 rfl 3 3 rfl rfl ?_
  refine z_iconst 0 B 1 rfl (by decide) ?_
  refine z_aload_n B 2 rfl 0 0 rfl rfl ?_
  refine z_iload_n B 3 rfl 1 1 rfl rfl ?_
  refine z_iload_n B 4 rfl 2 2 rfl rfl ?_
  refine z_callV 14 6 [.int a1, .int a2] [.int (0 : Int32), .ref 133] [.int x, .int (0 : Int32), .ref 133] X B 5 rfl ob_14 rfl rfl miX6_zoneOf ⟨(iL_zoneOf _ (List.mem_of_getElem? (i := 0) rfl)), (iL_zoneOf _ (List.mem_of_getElem? (i := 1) rfl)), (iL_zoneOf _ (List.mem_of_getElem? (i := 2) rfl))⟩ (ctX6_zoneOf hj hf) ⟨Nat.le_of_ble_eq_true rfl, Nat.le_of_ble_eq_true rfl⟩ rfl rfl (Nat.le_of_ble_eq_true rfl) rfl ?_
  refine z_i2l B 6 rfl ?_
  refine z_last B 7 rfl ob_133 (by decide) ?_
  refine z_goto B 8 rfl 17 (by decide) ?_
  refine z_iconst 0 B 12 rfl (by decide) ?_
  exact z_iret B 13 rfl rfl hQ hr
theorem cxL_zoneOf {l : Launch} {C : Cfg} (hj : Dj C) (hfl : l.stackTraces = false) {mm : Mem} {a1 a2 : Int32} {x : Unit} (hf : t6_zoneOf mm a1 a2 = some x) : CtW l C yL_zoneOf cL_zoneOf 5 (some .int) [(0, 10, 13, 13)] 7 173 [.ref 14, .int a1, .int a2, .ref 133] mm (some (.int 1)) mm := by
  refine CtW.of (tb := tbL_zoneOf) hj (by decide) dtL_zoneOf (Nat.le_of_ble_eq_true rfl) ?_
  intro E B hQ hr X
  show G E 5 0 [(0, .ref 14), (1, .int a1), (2, .int a2), (3, .ref 133)] [] mm
  refine z_aload_n B 0 rfl 3 3 rfl rfl ?_
  refine z_iconst 0 B 1 rfl (by decide) ?_
  refine z_aload_n B 2 rfl 0 0 rfl rfl ?_
  refine z_iload_n B 3 rfl 1 1 rfl rfl ?_
  refine z_iload_n B 4 rfl 2 2 rfl rfl ?_
  exact z_catch 14 6 [.int a1, .int a2] [.int (0 : Int32), .ref 133] X B hQ hr 5 rfl (by decide) 9 10 11 rfl rfl rfl ob_14 rfl rfl miX6_zoneOf ⟨(iL_zoneOf _ (List.mem_of_getElem? (i := 0) rfl)), (iL_zoneOf _ (List.mem_of_getElem? (i := 1) rfl)), (iL_zoneOf _ (List.mem_of_getElem? (i := 2) rfl))⟩ (cxX6_zoneOf hj hfl hf) ⟨Nat.le_of_ble_eq_true rfl, Nat.le_of_ble_eq_true rfl, Nat.le_refl 1, Nat.le_refl 6⟩ rfl rfl (Nat.le_of_ble_eq_true rfl)
def tbL_resourceOf : Tb := [(0, .aload_n 3, 1, 1), (1, .iconst 0, 1, 2), (2, .aload_n 0, 1, 3), (3, .iload_n 1, 1, 4), (4, .iload_n 2, 1, 5), (5, .invokevirtual 15, 3, 8), (8, .i2l, 1, 9), (9, .lastore, 1, 10), (10, .goto 7, 3, 13), (13, .astore 4, 2, 15), (15, .iconst 1, 1, 16), (16, .ireturn, 1, 17), (17, .iconst 0, 1, 18), (18, .ireturn, 1, 19)]
theorem dtL_resourceOf : ∀ q ∈ tbL_resourceOf, decode cL_resourceOf q.1 = .ok (q.2.1, q.2.2.1) ∧ q.1 + q.2.2.1 = q.2.2.2 := by decide +kernel
def wL_resourceOf : List Cond := [.methodLink "ZoneCapacityLaw" 15 yX6_resourceOf, .instanceMethod yX6_resourceOf, .selects "ZoneCapacity" yX6_resourceOf yX6_resourceOf]
theorem iL_resourceOf : ∀ w ∈ wL_resourceOf, w ∈ TW := tw_of (ids := [928, 929, 930]) (by decide +kernel)
theorem ctL_resourceOf {l : Launch} {C : Cfg} (hj : Dj C) {mm : Mem} {a1 a2 x : Int32} (hf : f6_resourceOf mm a1 a2 = some x) : CtW l C yL_resourceOf cL_resourceOf 5 (some .int) [(0, 10, 13, 13)] 7 173 [.ref 14, .int a1, .int a2, .ref 133] mm (some (.int 0)) (up2 mm 133 0 x) := by
  refine CtW.of (tb := tbL_resourceOf) hj (by decide) dtL_resourceOf (Nat.le_of_ble_eq_true rfl) ?_
  intro E B hQ hr X
  have hk := hQ.kle X ⟨Nat.le_refl 1, Nat.le_refl 6⟩
  refine z_wid hk ?_
  replace B := B.setk hk
  replace X := Ec.setk (k := 1) (n := 6) X
  replace hr := Rs.setk (k := 1) (n := 6) hr
  have hQ := hQ.rt
  generalize setk E 1 6 = E at B X hr hQ ⊢
  show G E 5 0 [(0, .ref 14), (1, .int a1), (2, .int a2), (3, .ref 133)] [] mm
  refine z_aload_n B 0 rfl 3 3 rfl rfl ?_
  refine z_iconst 0 B 1 rfl (by decide) ?_
  refine z_aload_n B 2 rfl 0 0 rfl rfl ?_
  refine z_iload_n B 3 rfl 1 1 rfl rfl ?_
  refine z_iload_n B 4 rfl 2 2 rfl rfl ?_
  refine z_callV 14 6 [.int a1, .int a2] [.int (0 : Int32), .ref 133] [.int x, .int (0 : Int32), .ref 133] X B 5 rfl ob_14 rfl rfl miX6_resourceOf ⟨(iL_resourceOf _ (List.mem_of_getElem? (i := 0) rfl)), (iL_resourceOf _ (List.mem_of_getElem? (i := 1) rfl)), (iL_resourceOf _ (List.mem_of_getElem? (i := 2) rfl))⟩ (ctX6_resourceOf hj hf) ⟨Nat.le_of_ble_eq_true rfl, Nat.le_of_ble_eq_true rfl⟩ rfl rfl (Nat.le_of_ble_eq_true rfl) rfl ?_
  refine z_i2l B 6 rfl ?_
  refine z_last B 7 rfl ob_133 (by decide) ?_
  refine z_goto B 8 rfl 17 (by decide) ?_
  refine z_iconst 0 B 12 rfl (by decide) ?_
  exact z_iret B 13 rfl rfl hQ hr
theorem cxL_resourceOf {l : Launch} {C : Cfg} (hj : Dj C) (hfl : l.stackTraces = false) {mm : Mem} {a1 a2 : Int32} {x : Unit} (hf : t6_resourceOf mm a1 a2 = some x) : CtW l C yL_resourceOf cL_resourceOf 5 (some .int) [(0, 10, 13, 13)] 7 173 [.ref 14, .int a1, .int a2, .ref 133] mm (some (.int 1)) mm := by
  refine CtW.of (tb := tbL_resourceOf) hj (by decide) dtL_resourceOf (Nat.le_of_ble_eq_true rfl) ?_
  intro E B hQ hr X
  show G E 5 0 [(0, .ref 14), (1, .int a1), (2, .int a2), (3, .ref 133)] [] mm
  refine z_aload_n B 0 rfl 3 3 rfl rfl ?_
  refine z_iconst 0 B 1 rfl (by decide) ?_
  refine z_aload_n B 2 rfl 0 0 rfl rfl ?_
  refine z_iload_n B 3 rfl 1 1 rfl rfl ?_
  refine z_iload_n B 4 rfl 2 2 rfl rfl ?_
  exact z_catch 14 6 [.int a1, .int a2] [.int (0 : Int32), .ref 133] X B hQ hr 5 rfl (by decide) 9 10 11 rfl rfl rfl ob_14 rfl rfl miX6_resourceOf ⟨(iL_resourceOf _ (List.mem_of_getElem? (i := 0) rfl)), (iL_resourceOf _ (List.mem_of_getElem? (i := 1) rfl)), (iL_resourceOf _ (List.mem_of_getElem? (i := 2) rfl))⟩ (cxX6_resourceOf hj hfl hf) ⟨Nat.le_of_ble_eq_true rfl, Nat.le_of_ble_eq_true rfl, Nat.le_refl 1, Nat.le_refl 6⟩ rfl rfl (Nat.le_of_ble_eq_true rfl)
