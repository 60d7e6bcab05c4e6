/-! ZoneCapacityModel.leastPrice(II)I -/
def tbX7_leastPrice : Tb := [(0, .iconst 0, 1, 1), (1, .istore_n 3, 1, 2), (2, .sipush 9999, 3, 5), (5, .istore 4, 2, 7), (7, .iload_n 3, 1, 8), (8, .iload 4, 2, 10), (10, .if_icmp .ge 43, 3, 13), (13, .iload_n 3, 1, 14), (14, .iload 4, 2, 16), (16, .iadd, 1, 17), (17, .iconst 2, 1, 18), (18, .idiv, 1, 19), (19, .istore 5, 2, 21), (21, .aload_n 0, 1, 22), (22, .iload_n 1, 1, 23), (23, .iload 5, 2, 25), (25, .invokevirtual 101, 3, 28), (28, .aload_n 0, 1, 29), (29, .getfield 26, 3, 32), (32, .iload_n 1, 1, 33), (33, .iaload, 1, 34), (34, .iload_n 2, 1, 35), (35, .if_icmp .lt 10, 3, 38), (38, .iload 5, 2, 40), (40, .istore 4, 2, 42), (42, .goto 8, 3, 45), (45, .iload 5, 2, 47), (47, .iconst 1, 1, 48), (48, .iadd, 1, 49), (49, .istore_n 3, 1, 50), (50, .goto (-43), 3, 53), (53, .iload_n 3, 1, 54), (54, .ireturn, 1, 55)]
theorem dtX7_leastPrice : ∀ q ∈ tbX7_leastPrice, decode cX7_leastPrice q.1 = .ok (q.2.1, q.2.2.1) ∧ q.1 + q.2.2.1 = q.2.2.2 := by decide +kernel
theorem miX7_leastPrice : MI yX7_leastPrice cX7_leastPrice 6 (some .int) 2 := ⟨tw_mem (List.mem_of_getElem? (i := 1183) (by decide +kernel)) rfl, by decide, by decide +kernel, tw_mem (List.mem_of_getElem? (i := 78) (by decide +kernel)) rfl⟩
abbrev rmX7_leastPrice : Room := { frames := 4, cells := 0, slots := 0, locals := 98 }
def wX7_leastPrice : List Cond := [.methodLink "ZoneCapacityModel" 101 yX7_laysLevels, .instanceMethod yX7_laysLevels, .selects "ZoneCapacityModel" yX7_laysLevels yX7_laysLevels, .fieldLink "ZoneCapacityModel" 26 "ZoneCapacityModel" "high" "[I"]
theorem iX7_leastPrice : ∀ w ∈ wX7_leastPrice, w ∈ TW := tw_of (ids := [1152, 1154, 43, 946]) (by decide +kernel)
def f7_leastPrice_j50 (k7 : Int32 → Int32 → Int32 → Int32 → Mem → Option (Int32 × Mem)) (x1 : Int32) (x2 : Int32) (x3 : Int32) (x4 : Int32) (mm : Mem) : Option (Int32 × Mem) := k7 x1 x2 x3 x4 mm
theorem f7_leastPrice_j50_ok {E : Ev} {l : Launch} {C : Cfg} {x : (Int32 × Mem)} {k7 : Int32 → Int32 → Int32 → Int32 → Mem → Option (Int32 × Mem)} (hj : Dj C) (X : Ec E l C rmX7_leastPrice) (B : Bx E RX7 tbX7_leastPrice 6 (some .int)) (hQ : Rt E) (hr : Rs E (some (.int x.1)) x.2) (hk7 : ∀ (x1 : Int32) (x2 : Int32) (x3 : Int32) (x4 : Int32) (mm : Mem), k7 x1 x2 x3 x4 mm = some x → G E 6 7 [(0, .ref 0), (1, .int x1), (2, .int x2), (3, .int x3), (4, .int x4)] [] mm) (x1 : Int32) (x2 : Int32) (x3 : Int32) (x4 : Int32) (mm : Mem) (hf : f7_leastPrice_j50 k7 x1 x2 x3 x4 mm = some x) : G E 6 50 [(0, .ref 0), (1, .int x1), (2, .int x2), (3, .int x3), (4, .int x4)] [] mm := by
  unfold f7_leastPrice_j50 at hf
  refine z_goto B 30 rfl 7 (by decide) ?_
  exact hk7 _ _ _ _ _ hf
def f7_leastPrice_l7 : Nat → Int32 → Int32 → Int32 → Int32 → Mem → Option (Int32 × Mem)
  | 0, _, _, _, _, _ => none
  | n + 1, x1, x2, x3, x4, mm => if x3 < x4 then dvz (2 : Int32) (nm ((x3 + x4) / (2 : Int32)) (fun v1 => bd (f7_laysLevels mm x1 v1) (fun r2 => rdc 6 x1 (nm (r2 6 x1.toNatClampNeg) (fun v3 => if v3 < x2 then nm (v1 + (1 : Int32)) (fun v4 => f7_leastPrice_j50 (fun x1 x2 x3 x4 mm => f7_leastPrice_l7 n x1 x2 x3 x4 mm) x1 x2 v4 x4 r2) else f7_leastPrice_j50 (fun x1 x2 x3 x4 mm => f7_leastPrice_l7 n x1 x2 x3 x4 mm) x1 x2 x3 v1 r2))))) else some (x3, mm)
theorem f7_leastPrice_l7_ok {E : Ev} {l : Launch} {C : Cfg} {x : (Int32 × Mem)} (hj : Dj C) (X : Ec E l C rmX7_leastPrice) (B : Bx E RX7 tbX7_leastPrice 6 (some .int)) (hQ : Rt E) (hr : Rs E (some (.int x.1)) x.2) (n : Nat) : ∀ (x1 : Int32) (x2 : Int32) (x3 : Int32) (x4 : Int32) (mm : Mem), f7_leastPrice_l7 n x1 x2 x3 x4 mm = some x → G E 6 7 [(0, .ref 0), (1, .int x1), (2, .int x2), (3, .int x3), (4, .int x4)] [] mm := by
  induction n with
  | zero =>
    intro x1 x2 x3 x4 mm hf
    rw [f7_leastPrice_l7] at hf
    cases hf
  | succ n ih =>
    intro x1 x2 x3 x4 mm hf
    rw [f7_leastPrice_l7] at hf
    refine z_iload_n B 4 rfl 3 3 rfl rfl ?_
    refine z_iload B 5 rfl 4 rfl ?_
    by_cases hc : x3 < x4
    · replace hf := (if_pos hc).symm.trans hf
      refine z_icmp_ge_f B 6 rfl 53 (by decide) hc ?_
      refine z_iload_n B 7 rfl 3 3 rfl rfl ?_
      refine z_iload B 8 rfl 4 rfl ?_
      refine z_iadd B 9 rfl ?_
      refine z_iconst 2 B 10 rfl (by decide) ?_
      obtain ⟨hz, hf⟩ := dvz_e hf
      refine z_idiv B 11 rfl hz ?_
      obtain ⟨v1, ex, hf⟩ := nm_x hf
      refine z_top ex ?_
      refine z_istore [(5, .int v1), (0, .ref 0), (1, .int x1), (2, .int x2), (3, .int x3), (4, .int x4)] B 12 rfl (by decide) rfl ?_
      refine z_aload_n B 13 rfl 0 1 rfl rfl ?_
      refine z_iload_n B 14 rfl 1 2 rfl rfl ?_
      refine z_iload B 15 rfl 0 rfl ?_
      obtain ⟨r2, ec, hf⟩ := bd_e hf
      refine z_callV 0 7 [.int x1, .int v1] [] [] X B 16 rfl ob_0 rfl rfl miX7_laysLevels ⟨(iX7_leastPrice _ (List.mem_of_getElem? (i := 0) rfl)), (iX7_leastPrice _ (List.mem_of_getElem? (i := 1) rfl)), (iX7_leastPrice _ (List.mem_of_getElem? (i := 2) rfl))⟩ (ctX7_laysLevels hj ec) ⟨Nat.le_of_ble_eq_true rfl, Nat.le_of_ble_eq_true rfl⟩ rfl rfl (Nat.le_of_ble_eq_true rfl) rfl ?_
      refine z_aload_n B 17 rfl 0 1 rfl rfl ?_
      refine z_getr 7 8 0 B 18 rfl ob_0 rfl (iX7_leastPrice _ (List.mem_of_getElem? (i := 3) rfl)) rfl ?_
      refine z_iload_n B 19 rfl 1 2 rfl rfl ?_
      obtain ⟨hx, hf⟩ := rdc_e hf
      refine z_iald B 20 rfl ob_6 hx ?_
      obtain ⟨v3, ex, hf⟩ := nm_x hf
      refine z_top ex ?_
      refine z_iload_n B 21 rfl 2 3 rfl rfl ?_
      by_cases hc : v3 < x2
      · replace hf := (if_pos hc).symm.trans hf
        refine z_icmp_lt_t B 22 rfl 45 (by decide) hc ?_
        refine z_iload B 26 rfl 0 rfl ?_
        refine z_iconst 1 B 27 rfl (by decide) ?_
        refine z_iadd B 28 rfl ?_
        obtain ⟨v4, ex, hf⟩ := nm_x hf
        refine z_top ex ?_
        refine z_istore_n [(3, .int v4), (5, .int v1), (0, .ref 0), (1, .int x1), (2, .int x2), (4, .int x4)] B 29 rfl 3 rfl (by decide) rfl ?_
        refine z_sub [(0, .ref 0), (1, .int x1), (2, .int x2), (3, .int v4), (4, .int x4)] [2, 3, 4, 0, 5] rfl ?_
        exact f7_leastPrice_j50_ok hj X B hQ hr ih _ _ _ _ _ hf
      · replace hf := (if_neg hc).symm.trans hf
        refine z_icmp_lt_f B 22 rfl 45 (by decide) hc ?_
        refine z_iload B 23 rfl 0 rfl ?_
        refine z_istore [(4, .int v1), (5, .int v1), (0, .ref 0), (1, .int x1), (2, .int x2), (3, .int x3)] B 24 rfl (by decide) rfl ?_
        refine z_goto B 25 rfl 50 (by decide) ?_
        refine z_sub [(0, .ref 0), (1, .int x1), (2, .int x2), (3, .int x3), (4, .int v1)] [2, 3, 4, 5, 0] rfl ?_
        exact f7_leastPrice_j50_ok hj X B hQ hr ih _ _ _ _ _ hf
    · replace hf := (if_neg hc).symm.trans hf
      refine z_icmp_ge_t B 6 rfl 53 (by decide) hc ?_
      refine z_iload_n B 31 rfl 3 3 rfl rfl ?_
      cases hf
      exact z_iret B 32 rfl rfl hQ hr
def f7_leastPrice (mm : Mem) (a1 : Int32) (a2 : Int32) : Option (Int32 × Mem) := f7_leastPrice_l7 FU a1 a2 (0 : Int32) (9999 : Int32) mm
theorem ctX7_leastPrice {l : Launch} {C : Cfg} (hj : Dj C) {mm : Mem} {a1 : Int32} {a2 : Int32} {x : (Int32 × Mem)} (hf : f7_leastPrice mm a1 a2 = some x) : Ct l C yX7_leastPrice cX7_leastPrice 6 (some .int) 4 98 [.ref 0, .int a1, .int a2] mm (some (.int x.1)) x.2 := by
  refine Ct.of (tb := tbX7_leastPrice) hj miX7_leastPrice.2.1 miX7_leastPrice.1 dtX7_leastPrice (Nat.le_of_ble_eq_true rfl) ?_
  intro E B hQ hr X
  unfold f7_leastPrice at hf
  show G E 6 0 [(0, .ref 0), (1, .int a1), (2, .int a2)] [] mm
  refine z_iconst 0 B 0 rfl (by decide) ?_
  refine z_istore_n [(3, .int (0 : Int32)), (0, .ref 0), (1, .int a1), (2, .int a2)] B 1 rfl 3 rfl (by decide) rfl ?_
  refine z_sipush 9999 B 2 rfl (by decide) ?_
  refine z_istore [(4, .int (9999 : Int32)), (3, .int (0 : Int32)), (0, .ref 0), (1, .int a1), (2, .int a2)] B 3 rfl (by decide) rfl ?_
  refine z_sub [(0, .ref 0), (1, .int a1), (2, .int a2), (3, .int (0 : Int32)), (4, .int (9999 : Int32))] [2, 3, 4, 1, 0] rfl ?_
  exact f7_leastPrice_l7_ok hj X B hQ hr FU _ _ _ _ _ hf
/-! ZoneCapacityModel.priceOf(I)I -/
def tbX7_priceOf : Tb := [(0, .iload_n 1, 1, 1), (1, .ifCond .le 53, 3, 4), (4, .aload_n 0, 1, 5), (5, .getfield 29, 3, 8), (8, .aload_n 0, 1, 9), (9, .iload_n 1, 1, 10), (10, .iconst 0, 1, 11), (11, .invokevirtual 58, 3, 14), (14, .iaload, 1, 15), (15, .istore_n 2, 1, 16), (16, .aload_n 0, 1, 17), (17, .iload_n 1, 1, 18), (18, .iload_n 2, 1, 19), (19, .invokevirtual 101, 3, 22), (22, .aload_n 0, 1, 23), (23, .getfield 32, 3, 26), (26, .iload_n 1, 1, 27), (27, .iaload, 1, 28), (28, .aload_n 0, 1, 29), (29, .getfield 23, 3, 32), (32, .iload_n 1, 1, 33), (33, .iaload, 1, 34), (34, .if_icmp .lt 20, 3, 37), (37, .aload_n 0, 1, 38), (38, .getfield 32, 3, 41), (41, .iload_n 1, 1, 42), (42, .iaload, 1, 43), (43, .aload_n 0, 1, 44), (44, .getfield 26, 3, 47), (47, .iload_n 1, 1, 48), (48, .iaload, 1, 49), (49, .if_icmp .gt 5, 3, 52), (52, .iload_n 2, 1, 53), (53, .ireturn, 1, 54), (54, .aload_n 0, 1, 55), (55, .iload_n 1, 1, 56), (56, .aload_n 0, 1, 57), (57, .getfield 32, 3, 60), (60, .iload_n 1, 1, 61), (61, .iaload, 1, 62), (62, .invokevirtual 105, 3, 65), (65, .ireturn, 1, 66)]
theorem dtX7_priceOf : ∀ q ∈ tbX7_priceOf, decode cX7_priceOf q.1 = .ok (q.2.1, q.2.2.1) ∧ q.1 + q.2.2.1 = q.2.2.2 := by decide +kernel
theorem miX7_priceOf : MI yX7_priceOf cX7_priceOf 3 (some .int) 1 := ⟨tw_mem (List.mem_of_getElem? (i := 1179) (by decide +kernel)) rfl, by decide, by decide +kernel, tw_mem (List.mem_of_getElem? (i := 78) (by decide +kernel)) rfl⟩
abbrev rmX7_priceOf : Room := { frames := 5, cells := 0, slots := 0, locals := 123 }
def wX7_priceOf : List Cond := [.fieldLink "ZoneCapacityModel" 32 "ZoneCapacityModel" "nets" "[I", .methodLink "ZoneCapacityModel" 105 yX7_leastPrice, .instanceMethod yX7_leastPrice, .selects "ZoneCapacityModel" yX7_leastPrice yX7_leastPrice, .fieldLink "ZoneCapacityModel" 29 "ZoneCapacityModel" "prices" "[I", .methodLink "ZoneCapacityModel" 58 yX7_ofZone, .instanceMethod yX7_ofZone, .selects "ZoneCapacityModel" yX7_ofZone yX7_ofZone, .methodLink "ZoneCapacityModel" 101 yX7_laysLevels, .instanceMethod yX7_laysLevels, .selects "ZoneCapacityModel" yX7_laysLevels yX7_laysLevels, .fieldLink "ZoneCapacityModel" 23 "ZoneCapacityModel" "low" "[I", .fieldLink "ZoneCapacityModel" 26 "ZoneCapacityModel" "high" "[I"]
theorem iX7_priceOf : ∀ w ∈ wX7_priceOf, w ∈ TW := tw_of (ids := [948, 1180, 1182, 49, 947, 1031, 1033, 26, 1152, 1154, 43, 945, 946]) (by decide +kernel)
def f7_priceOf_j54 (x1 : Int32) (mm : Mem) : Option (Int32 × Mem) := rdc 8 x1 (nm (mm 8 x1.toNatClampNeg) (fun v1 => bd (f7_leastPrice mm x1 v1) (fun r2 => some (r2.1, r2.2))))
theorem f7_priceOf_j54_ok {E : Ev} {l : Launch} {C : Cfg} {x : (Int32 × Mem)} (hj : Dj C) (X : Ec E l C rmX7_priceOf) (B : Bx E RX7 tbX7_priceOf 3 (some .int)) (hQ : Rt E) (hr : Rs E (some (.int x.1)) x.2) (x1 : Int32) (mm : Mem) (hf : f7_priceOf_j54 x1 mm = some x) : G E 3 54 [(0, .ref 0), (1, .int x1)] [] mm := by
  unfold f7_priceOf_j54 at hf
  refine z_aload_n B 34 rfl 0 0 rfl rfl ?_
  refine z_iload_n B 35 rfl 1 1 rfl rfl ?_
  refine z_aload_n B 36 rfl 0 0 rfl rfl ?_
  refine z_getr 7 10 0 B 37 rfl ob_0 rfl (iX7_priceOf _ (List.mem_of_getElem? (i := 0) rfl)) rfl ?_
  refine z_iload_n B 38 rfl 1 1 rfl rfl ?_
  obtain ⟨hx, hf⟩ := rdc_e hf
  refine z_iald B 39 rfl ob_8 hx ?_
  obtain ⟨v1, ex, hf⟩ := nm_x hf
  refine z_top ex ?_
  obtain ⟨r2, ec, hf⟩ := bd_e hf
  refine z_callV 0 7 [.int x1, .int v1] [] [.int r2.1] X B 40 rfl ob_0 rfl rfl miX7_leastPrice ⟨(iX7_priceOf _ (List.mem_of_getElem? (i := 1) rfl)), (iX7_priceOf _ (List.mem_of_getElem? (i := 2) rfl)), (iX7_priceOf _ (List.mem_of_getElem? (i := 3) rfl))⟩ (ctX7_leastPrice hj ec) ⟨Nat.le_of_ble_eq_true rfl, Nat.le_of_ble_eq_true rfl⟩ rfl rfl (Nat.le_of_ble_eq_true rfl) rfl ?_
  cases hf
  exact z_iret B 41 rfl rfl hQ hr
def f7_priceOf (mm : Mem) (a1 : Int32) : Option (Int32 × Mem) := if 0 < a1 then bd (f7_ofZone mm a1 (0 : Int32)) (fun r3 => rdc 7 r3 (nm (mm 7 r3.toNatClampNeg) (fun v4 => bd (f7_laysLevels mm a1 v4) (fun r5 => rdc 8 a1 (nm (r5 8 a1.toNatClampNeg) (fun v6 => rdc 5 a1 (nm (r5 5 a1.toNatClampNeg) (fun v7 => if v6 < v7 then f7_priceOf_j54 a1 r5 else rdc 8 a1 (nm (r5 8 a1.toNatClampNeg) (fun v8 => rdc 6 a1 (nm (r5 6 a1.toNatClampNeg) (fun v9 => if v9 < v8 then f7_priceOf_j54 a1 r5 else some (v4, r5))))))))))))) else f7_priceOf_j54 a1 mm
theorem ctX7_priceOf {l : Launch} {C : Cfg} (hj : Dj C) {mm : Mem} {a1 : Int32} {x : (Int32 × Mem)} (hf : f7_priceOf mm a1 = some x) : Ct l C yX7_priceOf cX7_priceOf 3 (some .int) 5 123 [.ref 0, .int a1] mm (some (.int x.1)) x.2 := by
  refine Ct.of (tb := tbX7_priceOf) hj miX7_priceOf.2.1 miX7_priceOf.1 dtX7_priceOf (Nat.le_of_ble_eq_true rfl) ?_
  intro E B hQ hr X
  unfold f7_priceOf at hf
  show G E 3 0 [(0, .ref 0), (1, .int a1)] [] mm
  refine z_iload_n B 0 rfl 1 1 rfl rfl ?_
  by_cases hc : 0 < a1
  · replace hf := (if_pos hc).symm.trans hf
    refine z_if_le_f B 1 rfl 54 (by decide) hc ?_
    refine z_aload_n B 2 rfl 0 0 rfl rfl ?_
    refine z_getr 7 9 0 B 3 rfl ob_0 rfl (iX7_priceOf _ (List.mem_of_getElem? (i := 4) rfl)) rfl ?_
    refine z_aload_n B 4 rfl 0 0 rfl rfl ?_
    refine z_iload_n B 5 rfl 1 1 rfl rfl ?_
    refine z_iconst 0 B 6 rfl (by decide) ?_
    obtain ⟨r3, ec, hf⟩ := bd_e hf
    refine z_callV 0 7 [.int a1, .int (0 : Int32)] [.ref 7] [.int r3, .ref 7] X B 7 rfl ob_0 rfl rfl miX7_ofZone ⟨(iX7_priceOf _ (List.mem_of_getElem? (i := 5) rfl)), (iX7_priceOf _ (List.mem_of_getElem? (i := 6) rfl)), (iX7_priceOf _ (List.mem_of_getElem? (i := 7) rfl))⟩ (ctX7_ofZone hj ec) ⟨Nat.le_of_ble_eq_true rfl, Nat.le_of_ble_eq_true rfl⟩ rfl rfl (Nat.le_of_ble_eq_true rfl) rfl ?_
    obtain ⟨hx, hf⟩ := rdc_e hf
    refine z_iald B 8 rfl ob_7 hx ?_
    obtain ⟨v4, ex, hf⟩ := nm_x hf
    refine z_top ex ?_
    refine z_istore_n [(2, .int v4), (0, .ref 0), (1, .int a1)] B 9 rfl 2 rfl (by decide) rfl ?_
    refine z_aload_n B 10 rfl 0 1 rfl rfl ?_
    refine z_iload_n B 11 rfl 1 2 rfl rfl ?_
    refine z_iload_n B 12 rfl 2 0 rfl rfl ?_
    obtain ⟨r5, ec, hf⟩ := bd_e hf
    refine z_callV 0 7 [.int a1, .int v4] [] [] X B 13 rfl ob_0 rfl rfl miX7_laysLevels ⟨(iX7_priceOf _ (List.mem_of_getElem? (i := 8) rfl)), (iX7_priceOf _ (List.mem_of_getElem? (i := 9) rfl)), (iX7_priceOf _ (List.mem_of_getElem? (i := 10) rfl))⟩ (ctX7_laysLevels hj ec) ⟨Nat.le_of_ble_eq_true rfl, Nat.le_of_ble_eq_true rfl⟩ rfl rfl (Nat.le_of_ble_eq_true rfl) rfl ?_
    refine z_aload_n B 14 rfl 0 1 rfl rfl ?_
    refine z_getr 7 10 0 B 15 rfl ob_0 rfl (iX7_priceOf _ (List.mem_of_getElem? (i := 0) rfl)) rfl ?_
    refine z_iload_n B 16 rfl 1 2 rfl rfl ?_
    obtain ⟨hx, hf⟩ := rdc_e hf
    refine z_iald B 17 rfl ob_8 hx ?_
    obtain ⟨v6, ex, hf⟩ := nm_x hf
    refine z_top ex ?_
    refine z_aload_n B 18 rfl 0 1 rfl rfl ?_
    refine z_getr 7 7 0 B 19 rfl ob_0 rfl (iX7_priceOf _ (List.mem_of_getElem? (i := 11) rfl)) rfl ?_
    refine z_iload_n B 20 rfl 1 2 rfl rfl ?_
    obtain ⟨hx, hf⟩ := rdc_e hf
    refine z_iald B 21 rfl ob_5 hx ?_
    obtain ⟨v7, ex, hf⟩ := nm_x hf
    refine z_top ex ?_
    by_cases hc : v6 < v7
    · replace hf := (if_pos hc).symm.trans hf
      refine z_icmp_lt_t B 22 rfl 54 (by decide) hc ?_
      refine z_sub [(0, .ref 0), (1, .int a1)] [1, 2] rfl ?_
      exact f7_priceOf_j54_ok hj X B hQ hr _ _ hf
    · replace hf := (if_neg hc).symm.trans hf
      refine z_icmp_lt_f B 22 rfl 54 (by decide) hc ?_
      refine z_aload_n B 23 rfl 0 1 rfl rfl ?_
      refine z_getr 7 10 0 B 24 rfl ob_0 rfl (iX7_priceOf _ (List.mem_of_getElem? (i := 0) rfl)) rfl ?_
      refine z_iload_n B 25 rfl 1 2 rfl rfl ?_
      obtain ⟨hx, hf⟩ := rdc_e hf
      refine z_iald B 26 rfl ob_8 hx ?_
      obtain ⟨v8, ex, hf⟩ := nm_x hf
      refine z_top ex ?_
      refine z_aload_n B 27 rfl 0 1 rfl rfl ?_
      refine z_getr 7 8 0 B 28 rfl ob_0 rfl (iX7_priceOf _ (List.mem_of_getElem? (i := 12) rfl)) rfl ?_
      refine z_iload_n B 29 rfl 1 2 rfl rfl ?_
      obtain ⟨hx, hf⟩ := rdc_e hf
      refine z_iald B 30 rfl ob_6 hx ?_
      obtain ⟨v9, ex, hf⟩ := nm_x hf
      refine z_top ex ?_
      by_cases hc : v9 < v8
      · replace hf := (if_pos hc).symm.trans hf
        refine z_icmp_gt_t B 31 rfl 54 (by decide) hc ?_
        refine z_sub [(0, .ref 0), (1, .int a1)] [1, 2] rfl ?_
        exact f7_priceOf_j54_ok hj X B hQ hr _ _ hf
      · replace hf := (if_neg hc).symm.trans hf
        refine z_icmp_gt_f B 31 rfl 54 (by decide) hc ?_
        refine z_iload_n B 32 rfl 2 0 rfl rfl ?_
        cases hf
        exact z_iret B 33 rfl rfl hQ hr
  · replace hf := (if_neg hc).symm.trans hf
    refine z_if_le_t B 1 rfl 54 (by decide) hc ?_
    exact f7_priceOf_j54_ok hj X B hQ hr _ _ hf
/-! ZoneCapacityModel.takesOwn(II)I -/
def tbX7_takesOwn : Tb := [(0, .iload_n 2, 1, 1), (1, .istore_n 3, 1, 2), (2, .iconst 0, 1, 3), (3, .istore 4, 2, 5), (5, .iload 4, 2, 7), (7, .aload_n 0, 1, 8), (8, .getfield 7, 3, 11), (11, .iconst 1, 1, 12), (12, .iaload, 1, 13), (13, .if_icmp .ge 158, 3, 16), (16, .aload_n 0, 1, 17), (17, .iload 4, 2, 19), (19, .iconst 0, 1, 20), (20, .invokevirtual 75, 3, 23), (23, .iload_n 1, 1, 24), (24, .if_icmp .ne 141, 3, 27), (27, .aload_n 0, 1, 28), (28, .getfield 85, 3, 31), (31, .iload 4, 2, 33), (33, .ishr, 1, 34), (34, .iconst 1, 1, 35), (35, .iand, 1, 36), (36, .iconst 1, 1, 37), (37, .if_icmp .ne 6, 3, 40), (40, .goto 125, 3, 43), (43, .iconst 0, 1, 44), (44, .istore 5, 2, 46), (46, .iload 5, 2, 48), (48, .iconst 3, 1, 49), (49, .if_icmp .gt 116, 3, 52), (52, .aload_n 0, 1, 53), (53, .iload 4, 2, 55), (55, .iload 5, 2, 57), (57, .invokevirtual 82, 3, 60), (60, .istore 6, 2, 62), (62, .iload 6, 2, 64), (64, .ifCond .ne 6, 3, 67), (67, .goto 92, 3, 70), (70, .aload_n 0, 1, 71), (71, .iload 4, 2, 73), (73, .iload 5, 2, 75), (75, .invokevirtual 88, 3, 78), (78, .istore 7, 2, 80), (80, .iload 7, 2, 82), (82, .aload_n 0, 1, 83), (83, .getfield 29, 3, 86), (86, .iload_n 1, 1, 87), (87, .iaload, 1, 88), (88, .if_icmp .ge 8, 3, 91), (91, .iload 6, 2, 93), (93, .goto 30, 3, 96), (96, .iload 7, 2, 98), (98, .aload_n 0, 1, 99), (99, .getfield 29, 3, 102), (102, .iload_n 1, 1, 103), (103, .iaload, 1, 104), (104, .if_icmp .le 7, 3, 107), (107, .iconst 0, 1, 108), (108, .goto 15, 3, 111), (111, .iload 6, 2, 113), (113, .iload_n 3, 1, 114), (114, .if_icmp .ge 8, 3, 117), (117, .iload 6, 2, 119), (119, .goto 4, 3, 122), (122, .iload_n 3, 1, 123), (123, .istore 8, 2, 125), (125, .iload_n 3, 1, 126), (126, .iload 7, 2, 128), (128, .aload_n 0, 1, 129), (129, .getfield 29, 3, 132), (132, .iload_n 1, 1, 133), (133, .iaload, 1, 134), (134, .if_icmp .ne 8, 3, 137), (137, .iload 8, 2, 139), (139, .goto 4, 3, 142), (142, .iconst 0, 1, 143), (143, .isub, 1, 144), (144, .istore_n 3, 1, 145), (145, .aload_n 0, 1, 146), (146, .getfield 38, 3, 149), (149, .iconst 4, 1, 150), (150, .iload 4, 2, 152), (152, .imul, 1, 153), (153, .iload 5, 2, 155), (155, .iadd, 1, 156), (156, .iload 8, 2, 158), (158, .iastore, 1, 159), (159, .iinc 5 1, 3, 162), (162, .goto (-116), 3, 165), (165, .iinc 4 1, 3, 168), (168, .goto (-163), 3, 171), (171, .iload_n 3, 1, 172), (172, .ireturn, 1, 173)]
theorem dtX7_takesOwn : ∀ q ∈ tbX7_takesOwn, decode cX7_takesOwn q.1 = .ok (q.2.1, q.2.2.1) ∧ q.1 + q.2.2.1 = q.2.2.2 := by decide +kernel
theorem miX7_takesOwn : MI yX7_takesOwn cX7_takesOwn 9 (some .int) 2 := ⟨tw_mem (List.mem_of_getElem? (i := 1187) (by decide +kernel)) rfl, by decide, by decide +kernel, tw_mem (List.mem_of_getElem? (i := 78) (by decide +kernel)) rfl⟩
abbrev rmX7_takesOwn : Room := { frames := 2, cells := 0, slots := 0, locals := 47 }
def wX7_takesOwn : List Cond := [.fieldLink "ZoneCapacityModel" 7 "ZoneCapacityModel" "w" "[I", .methodLink "ZoneCapacityModel" 75 yX7_ofResource, .instanceMethod yX7_ofResource, .selects "ZoneCapacityModel" yX7_ofResource yX7_ofResource, .fieldLink "ZoneCapacityModel" 85 "ZoneCapacityModel" "gone" "I", .methodLink "ZoneCapacityModel" 82 yX7_lineUnits, .instanceMethod yX7_lineUnits, .selects "ZoneCapacityModel" yX7_lineUnits yX7_lineUnits, .methodLink "ZoneCapacityModel" 88 yX7_lineIts, .instanceMethod yX7_lineIts, .selects "ZoneCapacityModel" yX7_lineIts yX7_lineIts, .fieldLink "ZoneCapacityModel" 29 "ZoneCapacityModel" "prices" "[I", .fieldLink "ZoneCapacityModel" 38 "ZoneCapacityModel" "takes" "[I"]
theorem iX7_takesOwn : ∀ w ∈ wX7_takesOwn, w ∈ TW := tw_of (ids := [939, 1067, 1069, 33, 943, 1075, 1077, 35, 1127, 1129, 40, 947, 950]) (by decide +kernel)
def f7_takesOwn_j165 (k5 : Int32 → Int32 → Int32 → Mem → Option (Int32 × Mem)) (x1 : Int32) (x3 : Int32) (x4 : Int32) (mm : Mem) : Option (Int32 × Mem) := nm (x4 + 1) (fun v3 => k5 x1 x3 v3 mm)
theorem f7_takesOwn_j165_ok {E : Ev} {l : Launch} {C : Cfg} {x : (Int32 × Mem)} {k5 : Int32 → Int32 → Int32 → Mem → Option (Int32 × Mem)} (hj : Dj C) (X : Ec E l C rmX7_takesOwn) (B : Bx E RX7 tbX7_takesOwn 9 (some .int)) (hQ : Rt E) (hr : Rs E (some (.int x.1)) x.2) (hk5 : ∀ (x1 : Int32) (x3 : Int32) (x4 : Int32) (mm : Mem), k5 x1 x3 x4 mm = some x → G E 9 5 [(0, .ref 0), (1, .int x1), (3, .int x3), (4, .int x4)] [] mm) (x1 : Int32) (x3 : Int32) (x4 : Int32) (mm : Mem) (hf : f7_takesOwn_j165 k5 x1 x3 x4 mm = some x) : G E 9 165 [(0, .ref 0), (1, .int x1), (3, .int x3), (4, .int x4)] [] mm := by
  unfold f7_takesOwn_j165 at hf
  obtain ⟨v3, ex, hf⟩ := nm_x hf
  refine z_iinc v3 [(4, .int v3), (0, .ref 0), (1, .int x1), (3, .int x3)] B 89 rfl 3 rfl (ex.symm) (by decide) rfl ?_
  refine z_goto B 90 rfl 5 (by decide) ?_
  refine z_sub [(0, .ref 0), (1, .int x1), (3, .int x3), (4, .int v3)] [1, 2, 3, 0] rfl ?_
  exact hk5 _ _ _ _ hf
def f7_takesOwn_j159 (k5 : Int32 → Int32 → Int32 → Mem → Option (Int32 × Mem)) (k46 : Int32 → Int32 → Int32 → Int32 → Mem → Option (Int32 × Mem)) (x1 : Int32) (x3 : Int32) (x4 : Int32) (x5 : Int32) (mm : Mem) : Option (Int32 × Mem) := nm (x5 + 1) (fun v11 => k46 x1 x3 x4 v11 mm)
theorem f7_takesOwn_j159_ok {E : Ev} {l : Launch} {C : Cfg} {x : (Int32 × Mem)} {k5 : Int32 → Int32 → Int32 → Mem → Option (Int32 × Mem)} {k46 : Int32 → Int32 → Int32 → Int32 → Mem → Option (Int32 × Mem)} (hj : Dj C) (X : Ec E l C rmX7_takesOwn) (B : Bx E RX7 tbX7_takesOwn 9 (some .int)) (hQ : Rt E) (hr : Rs E (some (.int x.1)) x.2) (hk5 : ∀ (x1 : Int32) (x3 : Int32) (x4 : Int32) (mm : Mem), k5 x1 x3 x4 mm = some x → G E 9 5 [(0, .ref 0), (1, .int x1), (3, .int x3), (4, .int x4)] [] mm) (hk46 : ∀ (x1 : Int32) (x3 : Int32) (x4 : Int32) (x5 : Int32) (mm : Mem), k46 x1 x3 x4 x5 mm = some x → G E 9 46 [(0, .ref 0), (1, .int x1), (3, .int x3), (4, .int x4), (5, .int x5)] [] mm) (x1 : Int32) (x3 : Int32) (x4 : Int32) (x5 : Int32) (mm : Mem) (hf : f7_takesOwn_j159 k5 k46 x1 x3 x4 x5 mm = some x) : G E 9 159 [(0, .ref 0), (1, .int x1), (3, .int x3), (4, .int x4), (5, .int x5)] [] mm := by
  unfold f7_takesOwn_j159 at hf
  obtain ⟨v11, ex, hf⟩ := nm_x hf
  refine z_iinc v11 [(5, .int v11), (0, .ref 0), (1, .int x1), (3, .int x3), (4, .int x4)] B 87 rfl 4 rfl (ex.symm) (by decide) rfl ?_
  refine z_goto B 88 rfl 46 (by decide) ?_
  refine z_sub [(0, .ref 0), (1, .int x1), (3, .int x3), (4, .int x4), (5, .int v11)] [1, 2, 3, 4, 0] rfl ?_
  exact hk46 _ _ _ _ _ hf
def f7_takesOwn_j143 (k5 : Int32 → Int32 → Int32 → Mem → Option (Int32 × Mem)) (k46 : Int32 → Int32 → Int32 → Int32 → Mem → Option (Int32 × Mem)) (x1 : Int32) (x4 : Int32) (x5 : Int32) (x8 : Int32) (s0 : Int32) (s1 : Int32) (mm : Mem) : Option (Int32 × Mem) := nm (s1 - s0) (fun v9 => rdc 10 (((4 : Int32) * x4) + x5) (nm (up2 mm 10 (((4 : Int32) * x4) + x5).toNatClampNeg x8) (fun m10 => f7_takesOwn_j159 k5 k46 x1 v9 x4 x5 m10)))
theorem f7_takesOwn_j143_ok {E : Ev} {l : Launch} {C : Cfg} {x : (Int32 × Mem)} {k5 : Int32 → Int32 → Int32 → Mem → Option (Int32 × Mem)} {k46 : Int32 → Int32 → Int32 → Int32 → Mem → Option (Int32 × Mem)} (hj : Dj C) (X : Ec E l C rmX7_takesOwn) (B : Bx E RX7 tbX7_takesOwn 9 (some .int)) (hQ : Rt E) (hr : Rs E (some (.int x.1)) x.2) (hk5 : ∀ (x1 : Int32) (x3 : Int32) (x4 : Int32) (mm : Mem), k5 x1 x3 x4 mm = some x → G E 9 5 [(0, .ref 0), (1, .int x1), (3, .int x3), (4, .int x4)] [] mm) (hk46 : ∀ (x1 : Int32) (x3 : Int32) (x4 : Int32) (x5 : Int32) (mm : Mem), k46 x1 x3 x4 x5 mm = some x → G E 9 46 [(0, .ref 0), (1, .int x1), (3, .int x3), (4, .int x4), (5, .int x5)] [] mm) (x1 : Int32) (x4 : Int32) (x5 : Int32) (x8 : Int32) (s0 : Int32) (s1 : Int32) (mm : Mem) (hf : f7_takesOwn_j143 k5 k46 x1 x4 x5 x8 s0 s1 mm = some x) : G E 9 143 [(0, .ref 0), (1, .int x1), (4, .int x4), (5, .int x5), (8, .int x8)] [.int s0, .int s1] mm := by
  unfold f7_takesOwn_j143 at hf
  refine z_isub B 76 rfl ?_
  obtain ⟨v9, ex, hf⟩ := nm_x hf
  refine z_top ex ?_
  refine z_istore_n [(3, .int v9), (0, .ref 0), (1, .int x1), (4, .int x4), (5, .int x5), (8, .int x8)] B 77 rfl 3 rfl (by decide) rfl ?_
  refine z_aload_n B 78 rfl 0 1 rfl rfl ?_
  refine z_getr 7 12 0 B 79 rfl ob_0 rfl (iX7_takesOwn _ (List.mem_of_getElem? (i := 12) rfl)) rfl ?_
  refine z_iconst 4 B 80 rfl (by decide) ?_
  refine z_iload B 81 rfl 3 rfl ?_
  refine z_imul B 82 rfl ?_
  refine z_iload B 83 rfl 4 rfl ?_
  refine z_iadd B 84 rfl ?_
  refine z_iload B 85 rfl 5 rfl ?_
  obtain ⟨hx, hf⟩ := rdc_e hf
  refine z_iast B 86 rfl ob_10 hx ?_
  obtain ⟨m10, ex, hf⟩ := nm_x hf
  refine z_mem ex ?_
  refine z_sub [(0, .ref 0), (1, .int x1), (3, .int v9), (4, .int x4), (5, .int x5)] [1, 2, 0, 3, 4] rfl ?_
  exact f7_takesOwn_j159_ok hj X B hQ hr hk5 hk46 _ _ _ _ _ hf
def f7_takesOwn_j123 (k5 : Int32 → Int32 → Int32 → Mem → Option (Int32 × Mem)) (k46 : Int32 → Int32 → Int32 → Int32 → Mem → Option (Int32 × Mem)) (x1 : Int32) (x3 : Int32) (x4 : Int32) (x5 : Int32) (x7 : Int32) (s0 : Int32) (mm : Mem) : Option (Int32 × Mem) := rdc 7 x1 (nm (mm 7 x1.toNatClampNeg) (fun v8 => if x7 = v8 then f7_takesOwn_j143 k5 k46 x1 x4 x5 s0 s0 x3 mm else f7_takesOwn_j143 k5 k46 x1 x4 x5 s0 (0 : Int32) x3 mm))
theorem f7_takesOwn_j123_ok {E : Ev} {l : Launch} {C : Cfg} {x : (Int32 × Mem)} {k5 : Int32 → Int32 → Int32 → Mem → Option (Int32 × Mem)} {k46 : Int32 → Int32 → Int32 → Int32 → Mem → Option (Int32 × Mem)} (hj : Dj C) (X : Ec E l C rmX7_takesOwn) (B : Bx E RX7 tbX7_takesOwn 9 (some .int)) (hQ : Rt E) (hr : Rs E (some (.int x.1)) x.2) (hk5 : ∀ (x1 : Int32) (x3 : Int32) (x4 : Int32) (mm : Mem), k5 x1 x3 x4 mm = some x → G E 9 5 [(0, .ref 0), (1, .int x1), (3, .int x3), (4, .int x4)] [] mm) (hk46 : ∀ (x1 : Int32) (x3 : Int32) (x4 : Int32) (x5 : Int32) (mm : Mem), k46 x1 x3 x4 x5 mm = some x → G E 9 46 [(0, .ref 0), (1, .int x1), (3, .int x3), (4, .int x4), (5, .int x5)] [] mm) (x1 : Int32) (x3 : Int32) (x4 : Int32) (x5 : Int32) (x7 : Int32) (s0 : Int32) (mm : Mem) (hf : f7_takesOwn_j123 k5 k46 x1 x3 x4 x5 x7 s0 mm = some x) : G E 9 123 [(0, .ref 0), (1, .int x1), (3, .int x3), (4, .int x4), (5, .int x5), (7, .int x7)] [.int s0] mm := by
  unfold f7_takesOwn_j123 at hf
  refine z_istore [(8, .int s0), (0, .ref 0), (1, .int x1), (3, .int x3), (4, .int x4), (5, .int x5), (7, .int x7)] B 65 rfl (by decide) rfl ?_
  refine z_iload_n B 66 rfl 3 3 rfl rfl ?_
  refine z_iload B 67 rfl 6 rfl ?_
  refine z_aload_n B 68 rfl 0 1 rfl rfl ?_
  refine z_getr 7 9 0 B 69 rfl ob_0 rfl (iX7_takesOwn _ (List.mem_of_getElem? (i := 11) rfl)) rfl ?_
  refine z_iload_n B 70 rfl 1 2 rfl rfl ?_
  obtain ⟨hx, hf⟩ := rdc_e hf
  refine z_iald B 71 rfl ob_7 hx ?_
  obtain ⟨v8, ex, hf⟩ := nm_x hf
  refine z_top ex ?_
  by_cases hc : x7 = v8
  · replace hf := (if_pos hc).symm.trans hf
    refine z_icmp_ne_f B 72 rfl 142 (by decide) hc ?_
    refine z_iload B 73 rfl 0 rfl ?_
    refine z_goto B 74 rfl 143 (by decide) ?_
    refine z_sub [(0, .ref 0), (1, .int x1), (4, .int x4), (5, .int x5), (8, .int s0)] [1, 2, 4, 5, 0] rfl ?_
    exact f7_takesOwn_j143_ok hj X B hQ hr hk5 hk46 _ _ _ _ _ _ _ hf
  · replace hf := (if_neg hc).symm.trans hf
    refine z_icmp_ne_t B 72 rfl 142 (by decide) hc ?_
    refine z_iconst 0 B 75 rfl (by decide) ?_
    refine z_sub [(0, .ref 0), (1, .int x1), (4, .int x4), (5, .int x5), (8, .int s0)] [1, 2, 4, 5, 0] rfl ?_
    exact f7_takesOwn_j143_ok hj X B hQ hr hk5 hk46 _ _ _ _ _ _ _ hf
def f7_takesOwn_l46 (k5 : Int32 → Int32 → Int32 → Mem → Option (Int32 × Mem)) : Nat → Int32 → Int32 → Int32 → Int32 → Mem → Option (Int32 × Mem)
  | 0, _, _, _, _, _ => none
  | n + 1, x1, x3, x4, x5, mm => if (3 : Int32) < x5 then f7_takesOwn_j165 k5 x1 x3 x4 mm else bd (f7_lineUnits mm x4 x5) (fun r4 => if r4 = 0 then f7_takesOwn_j159 k5 (fun x1 x3 x4 x5 mm => f7_takesOwn_l46 k5 n x1 x3 x4 x5 mm) x1 x3 x4 x5 mm else bd (f7_lineIts mm x4 x5) (fun r5 => rdc 7 x1 (nm (mm 7 x1.toNatClampNeg) (fun v6 => if r5 < v6 then f7_takesOwn_j123 k5 (fun x1 x3 x4 x5 mm => f7_takesOwn_l46 k5 n x1 x3 x4 x5 mm) x1 x3 x4 x5 r5 r4 mm else rdc 7 x1 (nm (mm 7 x1.toNatClampNeg) (fun v7 => if v7 < r5 then f7_takesOwn_j123 k5 (fun x1 x3 x4 x5 mm => f7_takesOwn_l46 k5 n x1 x3 x4 x5 mm) x1 x3 x4 x5 r5 (0 : Int32) mm else if r4 < x3 then f7_takesOwn_j123 k5 (fun x1 x3 x4 x5 mm => f7_takesOwn_l46 k5 n x1 x3 x4 x5 mm) x1 x3 x4 x5 r5 r4 mm else f7_takesOwn_j123 k5 (fun x1 x3 x4 x5 mm => f7_takesOwn_l46 k5 n x1 x3 x4 x5 mm) x1 x3 x4 x5 r5 x3 mm))))))
theorem f7_takesOwn_l46_ok {E : Ev} {l : Launch} {C : Cfg} {x : (Int32 × Mem)} {k5 : Int32 → Int32 → Int32 → Mem → Option (Int32 × Mem)} (hj : Dj C) (X : Ec E l C rmX7_takesOwn) (B : Bx E RX7 tbX7_takesOwn 9 (some .int)) (hQ : Rt E) (hr : Rs E (some (.int x.1)) x.2) (hk5 : ∀ (x1 : Int32) (x3 : Int32) (x4 : Int32) (mm : Mem), k5 x1 x3 x4 mm = some x → G E 9 5 [(0, .ref 0), (1, .int x1), (3, .int x3), (4, .int x4)] [] mm) (n : Nat) : ∀ (x1 : Int32) (x3 : Int32) (x4 : Int32) (x5 : Int32) (mm : Mem), f7_takesOwn_l46 k5 n x1 x3 x4 x5 mm = some x → G E 9 46 [(0, .ref 0), (1, .int x1), (3, .int x3), (4, .int x4), (5, .int x5)] [] mm := by
  induction n with
  | zero =>
    intro x1 x3 x4 x5 mm hf
    rw [f7_takesOwn_l46] at hf
    cases hf
  | succ n ih =>
    intro x1 x3 x4 x5 mm hf
    rw [f7_takesOwn_l46] at hf
    refine z_iload B 27 rfl 4 rfl ?_
    refine z_iconst 3 B 28 rfl (by decide) ?_
    by_cases hc : (3 : Int32) < x5
    · replace hf := (if_pos hc).symm.trans hf
      refine z_icmp_gt_t B 29 rfl 165 (by decide) hc ?_
      refine z_sub [(0, .ref 0), (1, .int x1), (3, .int x3), (4, .int x4)] [0, 1, 2, 3] rfl ?_
      exact f7_takesOwn_j165_ok hj X B hQ hr hk5 _ _ _ _ hf
    · replace hf := (if_neg hc).symm.trans hf
      refine z_icmp_gt_f B 29 rfl 165 (by decide) hc ?_
      refine z_aload_n B 30 rfl 0 0 rfl rfl ?_
      refine z_iload B 31 rfl 3 rfl ?_
      refine z_iload B 32 rfl 4 rfl ?_
      obtain ⟨r4, ec, hf⟩ := bd_e hf
      refine z_callV 0 7 [.int x4, .int x5] [] [.int r4] X B 33 rfl ob_0 rfl rfl miX7_lineUnits ⟨(iX7_takesOwn _ (List.mem_of_getElem? (i := 5) rfl)), (iX7_takesOwn _ (List.mem_of_getElem? (i := 6) rfl)), (iX7_takesOwn _ (List.mem_of_getElem? (i := 7) rfl))⟩ (ctX7_lineUnits hj ec) ⟨Nat.le_of_ble_eq_true rfl, Nat.le_of_ble_eq_true rfl⟩ rfl rfl (Nat.le_of_ble_eq_true rfl) rfl ?_
      refine z_istore [(6, .int r4), (0, .ref 0), (1, .int x1), (3, .int x3), (4, .int x4), (5, .int x5)] B 34 rfl (by decide) rfl ?_
      refine z_iload B 35 rfl 0 rfl ?_
      by_cases hc : r4 = 0
      · replace hf := (if_pos hc).symm.trans hf
        refine z_if_ne_f B 36 rfl 70 (by decide) hc ?_
        refine z_goto B 37 rfl 159 (by decide) ?_
        refine z_sub [(0, .ref 0), (1, .int x1), (3, .int x3), (4, .int x4), (5, .int x5)] [1, 2, 3, 4, 5] rfl ?_
        exact f7_takesOwn_j159_ok hj X B hQ hr hk5 ih _ _ _ _ _ hf
      · replace hf := (if_neg hc).symm.trans hf
        refine z_if_ne_t B 36 rfl 70 (by decide) hc ?_
        refine z_aload_n B 38 rfl 0 1 rfl rfl ?_
        refine z_iload B 39 rfl 4 rfl ?_
        refine z_iload B 40 rfl 5 rfl ?_
        obtain ⟨r5, ec, hf⟩ := bd_e hf
        refine z_callV 0 7 [.int x4, .int x5] [] [.int r5] X B 41 rfl ob_0 rfl rfl miX7_lineIts ⟨(iX7_takesOwn _ (List.mem_of_getElem? (i := 8) rfl)), (iX7_takesOwn _ (List.mem_of_getElem? (i := 9) rfl)), (iX7_takesOwn _ (List.mem_of_getElem? (i := 10) rfl))⟩ (ctX7_lineIts hj ec) ⟨Nat.le_of_ble_eq_true rfl, Nat.le_of_ble_eq_true rfl⟩ rfl rfl (Nat.le_of_ble_eq_true rfl) rfl ?_
        refine z_istore [(7, .int r5), (6, .int r4), (0, .ref 0), (1, .int x1), (3, .int x3), (4, .int x4), (5, .int x5)] B 42 rfl (by decide) rfl ?_
        refine z_iload B 43 rfl 0 rfl ?_
        refine z_aload_n B 44 rfl 0 2 rfl rfl ?_
        refine z_getr 7 9 0 B 45 rfl ob_0 rfl (iX7_takesOwn _ (List.mem_of_getElem? (i := 11) rfl)) rfl ?_
        refine z_iload_n B 46 rfl 1 3 rfl rfl ?_
        obtain ⟨hx, hf⟩ := rdc_e hf
        refine z_iald B 47 rfl ob_7 hx ?_
        obtain ⟨v6, ex, hf⟩ := nm_x hf
        refine z_top ex ?_
        by_cases hc : r5 < v6
        · replace hf := (if_pos hc).symm.trans hf
          refine z_icmp_ge_f B 48 rfl 96 (by decide) hc ?_
          refine z_iload B 49 rfl 1 rfl ?_
          refine z_goto B 50 rfl 123 (by decide) ?_
          refine z_sub [(0, .ref 0), (1, .int x1), (3, .int x3), (4, .int x4), (5, .int x5), (7, .int r5)] [2, 3, 4, 5, 6, 0] rfl ?_
          exact f7_takesOwn_j123_ok hj X B hQ hr hk5 ih _ _ _ _ _ _ _ hf
        · replace hf := (if_neg hc).symm.trans hf
          refine z_icmp_ge_t B 48 rfl 96 (by decide) hc ?_
          refine z_iload B 51 rfl 0 rfl ?_
          refine z_aload_n B 52 rfl 0 2 rfl rfl ?_
          refine z_getr 7 9 0 B 53 rfl ob_0 rfl (iX7_takesOwn _ (List.mem_of_getElem? (i := 11) rfl)) rfl ?_
          refine z_iload_n B 54 rfl 1 3 rfl rfl ?_
          obtain ⟨hx, hf⟩ := rdc_e hf
          refine z_iald B 55 rfl ob_7 hx ?_
          obtain ⟨v7, ex, hf⟩ := nm_x hf
          refine z_top ex ?_
          by_cases hc : v7 < r5
          · replace hf := (if_pos hc).symm.trans hf
            refine z_icmp_le_f B 56 rfl 111 (by decide) hc ?_
            refine z_iconst 0 B 57 rfl (by decide) ?_
            refine z_goto B 58 rfl 123 (by decide) ?_
            refine z_sub [(0, .ref 0), (1, .int x1), (3, .int x3), (4, .int x4), (5, .int x5), (7, .int r5)] [2, 3, 4, 5, 6, 0] rfl ?_
            exact f7_takesOwn_j123_ok hj X B hQ hr hk5 ih _ _ _ _ _ _ _ hf
          · replace hf := (if_neg hc).symm.trans hf
            refine z_icmp_le_t B 56 rfl 111 (by decide) hc ?_
            refine z_iload B 59 rfl 1 rfl ?_
            refine z_iload_n B 60 rfl 3 4 rfl rfl ?_
            by_cases hc : r4 < x3
            · replace hf := (if_pos hc).symm.trans hf
              refine z_icmp_ge_f B 61 rfl 122 (by decide) hc ?_
              refine z_iload B 62 rfl 1 rfl ?_
              refine z_goto B 63 rfl 123 (by decide) ?_
              refine z_sub [(0, .ref 0), (1, .int x1), (3, .int x3), (4, .int x4), (5, .int x5), (7, .int r5)] [2, 3, 4, 5, 6, 0] rfl ?_
              exact f7_takesOwn_j123_ok hj X B hQ hr hk5 ih _ _ _ _ _ _ _ hf
            · replace hf := (if_neg hc).symm.trans hf
              refine z_icmp_ge_t B 61 rfl 122 (by decide) hc ?_
              refine z_iload_n B 64 rfl 3 4 rfl rfl ?_
              refine z_sub [(0, .ref 0), (1, .int x1), (3, .int x3), (4, .int x4), (5, .int x5), (7, .int r5)] [2, 3, 4, 5, 6, 0] rfl ?_
              exact f7_takesOwn_j123_ok hj X B hQ hr hk5 ih _ _ _ _ _ _ _ hf
def f7_takesOwn_l5 : Nat → Int32 → Int32 → Int32 → Mem → Option (Int32 × Mem)
  | 0, _, _, _, _ => none
  | n + 1, x1, x3, x4, mm => rdc 1 (1 : Int32) (nm (mm 1 (1 : Int32).toNatClampNeg) (fun v1 => if x4 < v1 then bd (f7_ofResource mm x4 (0 : Int32)) (fun r2 => if r2 = x1 then if (((mm 0 5) >>> (x4 &&& 31)) &&& (1 : Int32)) = (1 : Int32) then f7_takesOwn_j165 (fun x1 x3 x4 mm => f7_takesOwn_l5 n x1 x3 x4 mm) x1 x3 x4 mm else f7_takesOwn_l46 (fun x1 x3 x4 mm => f7_takesOwn_l5 n x1 x3 x4 mm) FU x1 x3 x4 (0 : Int32) mm else f7_takesOwn_j165 (fun x1 x3 x4 mm => f7_takesOwn_l5 n x1 x3 x4 mm) x1 x3 x4 mm) else some (x3, mm)))
theorem f7_takesOwn_l5_ok {E : Ev} {l : Launch} {C : Cfg} {x : (Int32 × Mem)} (hj : Dj C) (X : Ec E l C rmX7_takesOwn) (B : Bx E RX7 tbX7_takesOwn 9 (some .int)) (hQ : Rt E) (hr : Rs E (some (.int x.1)) x.2) (n : Nat) : ∀ (x1 : Int32) (x3 : Int32) (x4 : Int32) (mm : Mem), f7_takesOwn_l5 n x1 x3 x4 mm = some x → G E 9 5 [(0, .ref 0), (1, .int x1), (3, .int x3), (4, .int x4)] [] mm := by
  induction n with
  | zero =>
    intro x1 x3 x4 mm hf
    rw [f7_takesOwn_l5] at hf
    cases hf
  | succ n ih =>
    intro x1 x3 x4 mm hf
    rw [f7_takesOwn_l5] at hf
    refine z_iload B 4 rfl 3 rfl ?_
    refine z_aload_n B 5 rfl 0 0 rfl rfl ?_
    refine z_getr 7 1 0 B 6 rfl ob_0 rfl (iX7_takesOwn _ (List.mem_of_getElem? (i := 0) rfl)) rfl ?_
    refine z_iconst 1 B 7 rfl (by decide) ?_
    obtain ⟨hx, hf⟩ := rdc_e hf
    refine z_iald B 8 rfl ob_1 hx ?_
    obtain ⟨v1, ex, hf⟩ := nm_x hf
    refine z_top ex ?_
    by_cases hc : x4 < v1
    · replace hf := (if_pos hc).symm.trans hf
      refine z_icmp_ge_f B 9 rfl 171 (by decide) hc ?_
      refine z_aload_n B 10 rfl 0 0 rfl rfl ?_
      refine z_iload B 11 rfl 3 rfl ?_
      refine z_iconst 0 B 12 rfl (by decide) ?_
      obtain ⟨r2, ec, hf⟩ := bd_e hf
      refine z_callV 0 7 [.int x4, .int (0 : Int32)] [] [.int r2] X B 13 rfl ob_0 rfl rfl miX7_ofResource ⟨(iX7_takesOwn _ (List.mem_of_getElem? (i := 1) rfl)), (iX7_takesOwn _ (List.mem_of_getElem? (i := 2) rfl)), (iX7_takesOwn _ (List.mem_of_getElem? (i := 3) rfl))⟩ (ctX7_ofResource hj ec) ⟨Nat.le_of_ble_eq_true rfl, Nat.le_of_ble_eq_true rfl⟩ rfl rfl (Nat.le_of_ble_eq_true rfl) rfl ?_
      refine z_iload_n B 14 rfl 1 1 rfl rfl ?_
      by_cases hc : r2 = x1
      · replace hf := (if_pos hc).symm.trans hf
        refine z_icmp_ne_f B 15 rfl 165 (by decide) hc ?_
        refine z_aload_n B 16 rfl 0 0 rfl rfl ?_
        refine z_geti 7 5 0 B 17 rfl ob_0 rfl (iX7_takesOwn _ (List.mem_of_getElem? (i := 4) rfl)) rfl ?_
        refine z_iload B 18 rfl 3 rfl ?_
        refine z_ishr B 19 rfl ?_
        refine z_iconst 1 B 20 rfl (by decide) ?_
        refine z_iand B 21 rfl ?_
        refine z_iconst 1 B 22 rfl (by decide) ?_
        by_cases hc : (((mm 0 5) >>> (x4 &&& 31)) &&& (1 : Int32)) = (1 : Int32)
        · replace hf := (if_pos hc).symm.trans hf
          refine z_icmp_ne_f B 23 rfl 43 (by decide) hc ?_
          refine z_goto B 24 rfl 165 (by decide) ?_
          exact f7_takesOwn_j165_ok hj X B hQ hr ih _ _ _ _ hf
        · replace hf := (if_neg hc).symm.trans hf
          refine z_icmp_ne_t B 23 rfl 43 (by decide) hc ?_
          refine z_iconst 0 B 25 rfl (by decide) ?_
          refine z_istore [(5, .int (0 : Int32)), (0, .ref 0), (1, .int x1), (3, .int x3), (4, .int x4)] B 26 rfl (by decide) rfl ?_
          refine z_sub [(0, .ref 0), (1, .int x1), (3, .int x3), (4, .int x4), (5, .int (0 : Int32))] [1, 2, 3, 4, 0] rfl ?_
          exact f7_takesOwn_l46_ok hj X B hQ hr ih FU _ _ _ _ _ hf
      · replace hf := (if_neg hc).symm.trans hf
        refine z_icmp_ne_t B 15 rfl 165 (by decide) hc ?_
        exact f7_takesOwn_j165_ok hj X B hQ hr ih _ _ _ _ hf
    · replace hf := (if_neg hc).symm.trans hf
      refine z_icmp_ge_t B 9 rfl 171 (by decide) hc ?_
      refine z_iload_n B 91 rfl 3 2 rfl rfl ?_
      cases hf
      exact z_iret B 92 rfl rfl hQ hr
def f7_takesOwn (mm : Mem) (a1 : Int32) (a2 : Int32) : Option (Int32 × Mem) := f7_takesOwn_l5 FU a1 a2 (0 : Int32) mm
theorem ctX7_takesOwn {l : Launch} {C : Cfg} (hj : Dj C) {mm : Mem} {a1 : Int32} {a2 : Int32} {x : (Int32 × Mem)} (hf : f7_takesOwn mm a1 a2 = some x) : Ct l C yX7_takesOwn cX7_takesOwn 9 (some .int) 2 47 [.ref 0, .int a1, .int a2] mm (some (.int x.1)) x.2 := by
  refine Ct.of (tb := tbX7_takesOwn) hj miX7_takesOwn.2.1 miX7_takesOwn.1 dtX7_takesOwn (Nat.le_of_ble_eq_true rfl) ?_
  intro E B hQ hr X
  unfold f7_takesOwn at hf
  show G E 9 0 [(0, .ref 0), (1, .int a1), (2, .int a2)] [] mm
  refine z_iload_n B 0 rfl 2 2 rfl rfl ?_
  refine z_istore_n [(3, .int a2), (0, .ref 0), (1, .int a1), (2, .int a2)] B 1 rfl 3 rfl (by decide) rfl ?_
  refine z_iconst 0 B 2 rfl (by decide) ?_
  refine z_istore [(4, .int (0 : Int32)), (3, .int a2), (0, .ref 0), (1, .int a1), (2, .int a2)] B 3 rfl (by decide) rfl ?_
  refine z_sub [(0, .ref 0), (1, .int a1), (3, .int a2), (4, .int (0 : Int32))] [2, 3, 1, 0] rfl ?_
  exact f7_takesOwn_l5_ok hj X B hQ hr FU _ _ _ _ hf
/-! ZoneCapacityModel.clears()V -/
def tbX7_clears : Tb := [(0, .iconst 0, 1, 1), (1, .istore_n 1, 1, 2), (2, .iload_n 1, 1, 3), (3, .bipush 48, 2, 5), (5, .if_icmp .ge 16, 3, 8), (8, .aload_n 0, 1, 9), (9, .getfield 38, 3, 12), (12, .iload_n 1, 1, 13), (13, .iconst 0, 1, 14), (14, .iastore, 1, 15), (15, .iinc 1 1, 3, 18), (18, .goto (-16), 3, 21), (21, .aload_n 0, 1, 22), (22, .getfield 32, 3, 25), (25, .iconst 0, 1, 26), (26, .iconst 0, 1, 27), (27, .iastore, 1, 28), (28, .iconst 0, 1, 29), (29, .istore_n 1, 1, 30), (30, .iload_n 1, 1, 31), (31, .aload_n 0, 1, 32), (32, .getfield 7, 3, 35), (35, .iconst 0, 1, 36), (36, .iaload, 1, 37), (37, .if_icmp .ge 161, 3, 40), (40, .aload_n 0, 1, 41), (41, .getfield 29, 3, 44), (44, .iload_n 1, 1, 45), (45, .aload_n 0, 1, 46), (46, .iload_n 1, 1, 47), (47, .invokevirtual 108, 3, 50), (50, .iastore, 1, 51), (51, .aload_n 0, 1, 52), (52, .iload_n 1, 1, 53), (53, .aload_n 0, 1, 54), (54, .getfield 29, 3, 57), (57, .iload_n 1, 1, 58), (58, .iaload, 1, 59), (59, .invokevirtual 101, 3, 62), (62, .aload_n 0, 1, 63), (63, .iload_n 1, 1, 64), (64, .aload_n 0, 1, 65), (65, .getfield 32, 3, 68), (68, .iload_n 1, 1, 69), (69, .iaload, 1, 70), (70, .aload_n 0, 1, 71), (71, .getfield 23, 3, 74), (74, .iload_n 1, 1, 75), (75, .iaload, 1, 76), (76, .isub, 1, 77), (77, .invokevirtual 111, 3, 80), (80, .istore_n 2, 1, 81), (81, .iload_n 1, 1, 82), (82, .iconst 1, 1, 83), (83, .iadd, 1, 84), (84, .istore_n 3, 1, 85), (85, .iload_n 3, 1, 86), (86, .aload_n 0, 1, 87), (87, .getfield 7, 3, 90), (90, .iconst 0, 1, 91), (91, .iaload, 1, 92), (92, .if_icmp .ge 81, 3, 95), (95, .aload_n 0, 1, 96), (96, .iload_n 3, 1, 97), (97, .iconst 0, 1, 98), (98, .invokevirtual 58, 3, 101), (101, .iload_n 1, 1, 102), (102, .if_icmp .eq 6, 3, 105), (105, .goto 62, 3, 108), (108, .aload_n 0, 1, 109), (109, .iload_n 3, 1, 110), (110, .aload_n 0, 1, 111), (111, .getfield 23, 3, 114), (114, .iload_n 3, 1, 115), (115, .iaload, 1, 116), (116, .invokevirtual 98, 3, 119), (119, .istore 4, 2, 121), (121, .aload_n 0, 1, 122), (122, .iload_n 3, 1, 123), (123, .aload_n 0, 1, 124), (124, .getfield 26, 3, 127), (127, .iload_n 3, 1, 128), (128, .iaload, 1, 129), (129, .invokevirtual 98, 3, 132), (132, .iload 4, 2, 134), (134, .isub, 1, 135), (135, .istore 5, 2, 137), (137, .iload 5, 2, 139), (139, .iload_n 2, 1, 140), (140, .if_icmp .ge 8, 3, 143), (143, .iload 5, 2, 145), (145, .goto 4, 3, 148), (148, .iload_n 2, 1, 149), (149, .istore 6, 2, 151), (151, .aload_n 0, 1, 152), (152, .getfield 32, 3, 155), (155, .iload_n 3, 1, 156), (156, .iload 4, 2, 158), (158, .iload 6, 2, 160), (160, .iadd, 1, 161), (161, .iastore, 1, 162), (162, .iload_n 2, 1, 163), (163, .iload 6, 2, 165), (165, .isub, 1, 166), (166, .istore_n 2, 1, 167), (167, .iinc 3 1, 3, 170), (170, .goto (-85), 3, 173), (173, .aload_n 0, 1, 174), (174, .getfield 35, 3, 177), (177, .iload_n 1, 1, 178), (178, .aload_n 0, 1, 179), (179, .iload_n 1, 1, 180), (180, .aload_n 0, 1, 181), (181, .getfield 29, 3, 184), (184, .iload_n 1, 1, 185), (185, .iaload, 1, 186), (186, .invokevirtual 95, 3, 189), (189, .iload_n 2, 1, 190), (190, .isub, 1, 191), (191, .iastore, 1, 192), (192, .iinc 1 1, 3, 195), (195, .goto (-165), 3, 198), (198, .return_, 1, 199)]
theorem dtX7_clears : ∀ q ∈ tbX7_clears, decode cX7_clears q.1 = .ok (q.2.1, q.2.2.1) ∧ q.1 + q.2.2.1 = q.2.2.2 := by decide +kernel
theorem miX7_clears : MI yX7_clears cX7_clears 7 none 0 := ⟨tw_mem (List.mem_of_getElem? (i := 1175) (by decide +kernel)) rfl, by decide, by decide +kernel, tw_mem (List.mem_of_getElem? (i := 78) (by decide +kernel)) rfl⟩
abbrev rmX7_clears : Room := { frames := 6, cells := 0, slots := 0, locals := 145 }
def wX7_clears : List Cond := [.fieldLink "ZoneCapacityModel" 32 "ZoneCapacityModel" "nets" "[I", .fieldLink "ZoneCapacityModel" 7 "ZoneCapacityModel" "w" "[I", .fieldLink "ZoneCapacityModel" 29 "ZoneCapacityModel" "prices" "[I", .methodLink "ZoneCapacityModel" 108 yX7_priceOf, .instanceMethod yX7_priceOf, .selects "ZoneCapacityModel" yX7_priceOf yX7_priceOf, .methodLink "ZoneCapacityModel" 101 yX7_laysLevels, .instanceMethod yX7_laysLevels, .selects "ZoneCapacityModel" yX7_laysLevels yX7_laysLevels, .fieldLink "ZoneCapacityModel" 23 "ZoneCapacityModel" "low" "[I", .methodLink "ZoneCapacityModel" 111 yX7_takesOwn, .instanceMethod yX7_takesOwn, .selects "ZoneCapacityModel" yX7_takesOwn yX7_takesOwn, .fieldLink "ZoneCapacityModel" 35 "ZoneCapacityModel" "serves" "[I", .methodLink "ZoneCapacityModel" 95 yX7_wantedAt, .instanceMethod yX7_wantedAt, .selects "ZoneCapacityModel" yX7_wantedAt yX7_wantedAt, .methodLink "ZoneCapacityModel" 58 yX7_ofZone, .instanceMethod yX7_ofZone, .selects "ZoneCapacityModel" yX7_ofZone yX7_ofZone, .methodLink "ZoneCapacityModel" 98 yX7_cut, .instanceMethod yX7_cut, .selects "ZoneCapacityModel" yX7_cut yX7_cut, .fieldLink "ZoneCapacityModel" 26 "ZoneCapacityModel" "high" "[I", .fieldLink "ZoneCapacityModel" 38 "ZoneCapacityModel" "takes" "[I"]
theorem iX7_clears : ∀ w ∈ wX7_clears, w ∈ TW := tw_of (ids := [948, 939, 947, 1176, 1178, 48, 1152, 1154, 43, 945, 1184, 1186, 50, 949, 1143, 1145, 42, 1031, 1033, 26, 1160, 1162, 45, 946, 950]) (by decide +kernel)
def f7_clears_j167 (k30 : Int32 → Mem → Option Mem) (k85 : Int32 → Int32 → Int32 → Mem → Option Mem) (x1 : Int32) (x2 : Int32) (x3 : Int32) (mm : Mem) : Option Mem := nm (x3 + 1) (fun v24 => k85 x1 x2 v24 mm)
theorem f7_clears_j167_ok {E : Ev} {l : Launch} {C : Cfg} {x : Mem} {k30 : Int32 → Mem → Option Mem} {k85 : Int32 → Int32 → Int32 → Mem → Option Mem} (hj : Dj C) (X : Ec E l C rmX7_clears) (B : Bx E RX7 tbX7_clears 7 none) (hQ : Rt E) (hr : Rs E none x) (hk30 : ∀ (x1 : Int32) (mm : Mem), k30 x1 mm = some x → G E 7 30 [(0, .ref 0), (1, .int x1)] [] mm) (hk85 : ∀ (x1 : Int32) (x2 : Int32) (x3 : Int32) (mm : Mem), k85 x1 x2 x3 mm = some x → G E 7 85 [(0, .ref 0), (1, .int x1), (2, .int x2), (3, .int x3)] [] mm) (x1 : Int32) (x2 : Int32) (x3 : Int32) (mm : Mem) (hf : f7_clears_j167 k30 k85 x1 x2 x3 mm = some x) : G E 7 167 [(0, .ref 0), (1, .int x1), (2, .int x2), (3, .int x3)] [] mm := by
  unfold f7_clears_j167 at hf
  obtain ⟨v24, ex, hf⟩ := nm_x hf
  refine z_iinc v24 [(3, .int v24), (0, .ref 0), (1, .int x1), (2, .int x2)] B 105 rfl 3 rfl (ex.symm) (by decide) rfl ?_
  refine z_goto B 106 rfl 85 (by decide) ?_
  refine z_sub [(0, .ref 0), (1, .int x1), (2, .int x2), (3, .int v24)] [1, 2, 3, 0] rfl ?_
  exact hk85 _ _ _ _ hf
def f7_clears_j149 (k30 : Int32 → Mem → Option Mem) (k85 : Int32 → Int32 → Int32 → Mem → Option Mem) (x1 : Int32) (x2 : Int32) (x3 : Int32) (x4 : Int32) (s0 : Int32) (mm : Mem) : Option Mem := rdc 8 x3 (nm (up2 mm 8 x3.toNatClampNeg (x4 + s0)) (fun m22 => nm (x2 - s0) (fun v23 => f7_clears_j167 k30 k85 x1 v23 x3 m22)))
theorem f7_clears_j149_ok {E : Ev} {l : Launch} {C : Cfg} {x : Mem} {k30 : Int32 → Mem → Option Mem} {k85 : Int32 → Int32 → Int32 → Mem → Option Mem} (hj : Dj C) (X : Ec E l C rmX7_clears) (B : Bx E RX7 tbX7_clears 7 none) (hQ : Rt E) (hr : Rs E none x) (hk30 : ∀ (x1 : Int32) (mm : Mem), k30 x1 mm = some x → G E 7 30 [(0, .ref 0), (1, .int x1)] [] mm) (hk85 : ∀ (x1 : Int32) (x2 : Int32) (x3 : Int32) (mm : Mem), k85 x1 x2 x3 mm = some x → G E 7 85 [(0, .ref 0), (1, .int x1), (2, .int x2), (3, .int x3)] [] mm) (x1 : Int32) (x2 : Int32) (x3 : Int32) (x4 : Int32) (s0 : Int32) (mm : Mem) (hf : f7_clears_j149 k30 k85 x1 x2 x3 x4 s0 mm = some x) : G E 7 149 [(0, .ref 0), (1, .int x1), (2, .int x2), (3, .int x3), (4, .int x4)] [.int s0] mm := by
  unfold f7_clears_j149 at hf
  refine z_istore [(6, .int s0), (0, .ref 0), (1, .int x1), (2, .int x2), (3, .int x3), (4, .int x4)] B 93 rfl (by decide) rfl ?_
  refine z_aload_n B 94 rfl 0 1 rfl rfl ?_
  refine z_getr 7 10 0 B 95 rfl ob_0 rfl (iX7_clears _ (List.mem_of_getElem? (i := 0) rfl)) rfl ?_
  refine z_iload_n B 96 rfl 3 4 rfl rfl ?_
  refine z_iload B 97 rfl 5 rfl ?_
  refine z_iload B 98 rfl 0 rfl ?_
  refine z_iadd B 99 rfl ?_
  obtain ⟨hx, hf⟩ := rdc_e hf
  refine z_iast B 100 rfl ob_8 hx ?_
  obtain ⟨m22, ex, hf⟩ := nm_x hf
  refine z_mem ex ?_
  refine z_iload_n B 101 rfl 2 3 rfl rfl ?_
  refine z_iload B 102 rfl 0 rfl ?_
  refine z_isub B 103 rfl ?_
  obtain ⟨v23, ex, hf⟩ := nm_x hf
  refine z_top ex ?_
  refine z_istore_n [(2, .int v23), (6, .int s0), (0, .ref 0), (1, .int x1), (3, .int x3), (4, .int x4)] B 104 rfl 2 rfl (by decide) rfl ?_
  refine z_sub [(0, .ref 0), (1, .int x1), (2, .int v23), (3, .int x3)] [2, 3, 0, 4] rfl ?_
  exact f7_clears_j167_ok hj X B hQ hr hk30 hk85 _ _ _ _ hf
def f7_clears_l85 (k30 : Int32 → Mem → Option Mem) : Nat → Int32 → Int32 → Int32 → Mem → Option Mem
  | 0, _, _, _, _ => none
  | n + 1, x1, x2, x3, mm => rdc 1 (0 : Int32) (nm (mm 1 (0 : Int32).toNatClampNeg) (fun v11 => if x3 < v11 then bd (f7_ofZone mm x3 (0 : Int32)) (fun r16 => if r16 = x1 then rdc 5 x3 (nm (mm 5 x3.toNatClampNeg) (fun v17 => bd (f7_cut mm x3 v17) (fun r18 => rdc 6 x3 (nm (mm 6 x3.toNatClampNeg) (fun v19 => bd (f7_cut mm x3 v19) (fun r20 => nm (r20 - r18) (fun v21 => if v21 < x2 then f7_clears_j149 k30 (fun x1 x2 x3 mm => f7_clears_l85 k30 n x1 x2 x3 mm) x1 x2 x3 r18 v21 mm else f7_clears_j149 k30 (fun x1 x2 x3 mm => f7_clears_l85 k30 n x1 x2 x3 mm) x1 x2 x3 r18 x2 mm))))))) else f7_clears_j167 k30 (fun x1 x2 x3 mm => f7_clears_l85 k30 n x1 x2 x3 mm) x1 x2 x3 mm) else rdc 7 x1 (nm (mm 7 x1.toNatClampNeg) (fun v12 => bd (f7_wantedAt mm x1 v12) (fun r13 => rdc 9 x1 (nm (up2 mm 9 x1.toNatClampNeg (r13 - x2)) (fun m14 => nm (x1 + 1) (fun v15 => k30 v15 m14))))))))
theorem f7_clears_l85_ok {E : Ev} {l : Launch} {C : Cfg} {x : Mem} {k30 : Int32 → Mem → Option Mem} (hj : Dj C) (X : Ec E l C rmX7_clears) (B : Bx E RX7 tbX7_clears 7 none) (hQ : Rt E) (hr : Rs E none x) (hk30 : ∀ (x1 : Int32) (mm : Mem), k30 x1 mm = some x → G E 7 30 [(0, .ref 0), (1, .int x1)] [] mm) (n : Nat) : ∀ (x1 : Int32) (x2 : Int32) (x3 : Int32) (mm : Mem), f7_clears_l85 k30 n x1 x2 x3 mm = some x → G E 7 85 [(0, .ref 0), (1, .int x1), (2, .int x2), (3, .int x3)] [] mm := by
  induction n with
  | zero =>
    intro x1 x2 x3 mm hf
    rw [f7_clears_l85] at hf
    cases hf
  | succ n ih =>
    intro x1 x2 x3 mm hf
    rw [f7_clears_l85] at hf
    refine z_iload_n B 56 rfl 3 3 rfl rfl ?_
    refine z_aload_n B 57 rfl 0 0 rfl rfl ?_
    refine z_getr 7 1 0 B 58 rfl ob_0 rfl (iX7_clears _ (List.mem_of_getElem? (i := 1) rfl)) rfl ?_
    refine z_iconst 0 B 59 rfl (by decide) ?_
    obtain ⟨hx, hf⟩ := rdc_e hf
    refine z_iald B 60 rfl ob_1 hx ?_
    obtain ⟨v11, ex, hf⟩ := nm_x hf
    refine z_top ex ?_
    by_cases hc : x3 < v11
    · replace hf := (if_pos hc).symm.trans hf
      refine z_icmp_ge_f B 61 rfl 173 (by decide) hc ?_
      refine z_aload_n B 62 rfl 0 0 rfl rfl ?_
      refine z_iload_n B 63 rfl 3 3 rfl rfl ?_
      refine z_iconst 0 B 64 rfl (by decide) ?_
      obtain ⟨r16, ec, hf⟩ := bd_e hf
      refine z_callV 0 7 [.int x3, .int (0 : Int32)] [] [.int r16] X B 65 rfl ob_0 rfl rfl miX7_ofZone ⟨(iX7_clears _ (List.mem_of_getElem? (i := 17) rfl)), (iX7_clears _ (List.mem_of_getElem? (i := 18) rfl)), (iX7_clears _ (List.mem_of_getElem? (i := 19) rfl))⟩ (ctX7_ofZone hj ec) ⟨Nat.le_of_ble_eq_true rfl, Nat.le_of_ble_eq_true rfl⟩ rfl rfl (Nat.le_of_ble_eq_true rfl) rfl ?_
      refine z_iload_n B 66 rfl 1 1 rfl rfl ?_
      by_cases hc : r16 = x1
      · replace hf := (if_pos hc).symm.trans hf
        refine z_icmp_eq_t B 67 rfl 108 (by decide) hc ?_
        refine z_aload_n B 69 rfl 0 0 rfl rfl ?_
        refine z_iload_n B 70 rfl 3 3 rfl rfl ?_
        refine z_aload_n B 71 rfl 0 0 rfl rfl ?_
        refine z_getr 7 7 0 B 72 rfl ob_0 rfl (iX7_clears _ (List.mem_of_getElem? (i := 9) rfl)) rfl ?_
        refine z_iload_n B 73 rfl 3 3 rfl rfl ?_
        obtain ⟨hx, hf⟩ := rdc_e hf
        refine z_iald B 74 rfl ob_5 hx ?_
        obtain ⟨v17, ex, hf⟩ := nm_x hf
        refine z_top ex ?_
        obtain ⟨r18, ec, hf⟩ := bd_e hf
        refine z_callV 0 7 [.int x3, .int v17] [] [.int r18] X B 75 rfl ob_0 rfl rfl miX7_cut ⟨(iX7_clears _ (List.mem_of_getElem? (i := 20) rfl)), (iX7_clears _ (List.mem_of_getElem? (i := 21) rfl)), (iX7_clears _ (List.mem_of_getElem? (i := 22) rfl))⟩ (ctX7_cut hj ec) ⟨Nat.le_of_ble_eq_true rfl, Nat.le_of_ble_eq_true rfl⟩ rfl rfl (Nat.le_of_ble_eq_true rfl) rfl ?_
        refine z_istore [(4, .int r18), (0, .ref 0), (1, .int x1), (2, .int x2), (3, .int x3)] B 76 rfl (by decide) rfl ?_
        refine z_aload_n B 77 rfl 0 1 rfl rfl ?_
        refine z_iload_n B 78 rfl 3 4 rfl rfl ?_
        refine z_aload_n B 79 rfl 0 1 rfl rfl ?_
        refine z_getr 7 8 0 B 80 rfl ob_0 rfl (iX7_clears _ (List.mem_of_getElem? (i := 23) rfl)) rfl ?_
        refine z_iload_n B 81 rfl 3 4 rfl rfl ?_
        obtain ⟨hx, hf⟩ := rdc_e hf
        refine z_iald B 82 rfl ob_6 hx ?_
        obtain ⟨v19, ex, hf⟩ := nm_x hf
        refine z_top ex ?_
        obtain ⟨r20, ec, hf⟩ := bd_e hf
        refine z_callV 0 7 [.int x3, .int v19] [] [.int r20] X B 83 rfl ob_0 rfl rfl miX7_cut ⟨(iX7_clears _ (List.mem_of_getElem? (i := 20) rfl)), (iX7_clears _ (List.mem_of_getElem? (i := 21) rfl)), (iX7_clears _ (List.mem_of_getElem? (i := 22) rfl))⟩ (ctX7_cut hj ec) ⟨Nat.le_of_ble_eq_true rfl, Nat.le_of_ble_eq_true rfl⟩ rfl rfl (Nat.le_of_ble_eq_true rfl) rfl ?_
        refine z_iload B 84 rfl 0 rfl ?_
        refine z_isub B 85 rfl ?_
        obtain ⟨v21, ex, hf⟩ := nm_x hf
        refine z_top ex ?_
        refine z_istore [(5, .int v21), (4, .int r18), (0, .ref 0), (1, .int x1), (2, .int x2), (3, .int x3)] B 86 rfl (by decide) rfl ?_
        refine z_iload B 87 rfl 0 rfl ?_
        refine z_iload_n B 88 rfl 2 4 rfl rfl ?_
        by_cases hc : v21 < x2
        · replace hf := (if_pos hc).symm.trans hf
          refine z_icmp_ge_f B 89 rfl 148 (by decide) hc ?_
          refine z_iload B 90 rfl 0 rfl ?_
          refine z_goto B 91 rfl 149 (by decide) ?_
          refine z_sub [(0, .ref 0), (1, .int x1), (2, .int x2), (3, .int x3), (4, .int r18)] [2, 3, 4, 5, 1] rfl ?_
          exact f7_clears_j149_ok hj X B hQ hr hk30 ih _ _ _ _ _ _ hf
        · replace hf := (if_neg hc).symm.trans hf
          refine z_icmp_ge_t B 89 rfl 148 (by decide) hc ?_
          refine z_iload_n B 92 rfl 2 4 rfl rfl ?_
          refine z_sub [(0, .ref 0), (1, .int x1), (2, .int x2), (3, .int x3), (4, .int r18)] [2, 3, 4, 5, 1] rfl ?_
          exact f7_clears_j149_ok hj X B hQ hr hk30 ih _ _ _ _ _ _ hf
      · replace hf := (if_neg hc).symm.trans hf
        refine z_icmp_eq_f B 67 rfl 108 (by decide) hc ?_
        refine z_goto B 68 rfl 167 (by decide) ?_
        exact f7_clears_j167_ok hj X B hQ hr hk30 ih _ _ _ _ hf
    · replace hf := (if_neg hc).symm.trans hf
      refine z_icmp_ge_t B 61 rfl 173 (by decide) hc ?_
      refine z_aload_n B 107 rfl 0 0 rfl rfl ?_
      refine z_getr 7 11 0 B 108 rfl ob_0 rfl (iX7_clears _ (List.mem_of_getElem? (i := 13) rfl)) rfl ?_
      refine z_iload_n B 109 rfl 1 1 rfl rfl ?_
      refine z_aload_n B 110 rfl 0 0 rfl rfl ?_
      refine z_iload_n B 111 rfl 1 1 rfl rfl ?_
      refine z_aload_n B 112 rfl 0 0 rfl rfl ?_
      refine z_getr 7 9 0 B 113 rfl ob_0 rfl (iX7_clears _ (List.mem_of_getElem? (i := 2) rfl)) rfl ?_
      refine z_iload_n B 114 rfl 1 1 rfl rfl ?_
      obtain ⟨hx, hf⟩ := rdc_e hf
      refine z_iald B 115 rfl ob_7 hx ?_
      obtain ⟨v12, ex, hf⟩ := nm_x hf
      refine z_top ex ?_
      obtain ⟨r13, ec, hf⟩ := bd_e hf
      refine z_callV 0 7 [.int x1, .int v12] [.int x1, .ref 9] [.int r13, .int x1, .ref 9] X B 116 rfl ob_0 rfl rfl miX7_wantedAt ⟨(iX7_clears _ (List.mem_of_getElem? (i := 14) rfl)), (iX7_clears _ (List.mem_of_getElem? (i := 15) rfl)), (iX7_clears _ (List.mem_of_getElem? (i := 16) rfl))⟩ (ctX7_wantedAt hj ec) ⟨Nat.le_of_ble_eq_true rfl, Nat.le_of_ble_eq_true rfl⟩ rfl rfl (Nat.le_of_ble_eq_true rfl) rfl ?_
      refine z_iload_n B 117 rfl 2 2 rfl rfl ?_
      refine z_isub B 118 rfl ?_
      obtain ⟨hx, hf⟩ := rdc_e hf
      refine z_iast B 119 rfl ob_9 hx ?_
      obtain ⟨m14, ex, hf⟩ := nm_x hf
      refine z_mem ex ?_
      obtain ⟨v15, ex, hf⟩ := nm_x hf
      refine z_iinc v15 [(1, .int v15), (0, .ref 0), (2, .int x2), (3, .int x3)] B 120 rfl 1 rfl (ex.symm) (by decide) rfl ?_
      refine z_goto B 121 rfl 30 (by decide) ?_
      refine z_sub [(0, .ref 0), (1, .int v15)] [1, 0] rfl ?_
      exact hk30 _ _ hf
def f7_clears_l30 : Nat → Int32 → Mem → Option Mem
  | 0, _, _ => none
  | n + 1, x1, mm => rdc 1 (0 : Int32) (nm (mm 1 (0 : Int32).toNatClampNeg) (fun v2 => if x1 < v2 then bd (f7_priceOf mm x1) (fun r3 => rdc 7 x1 (nm (up2 r3.2 7 x1.toNatClampNeg r3.1) (fun m4 => rdc 7 x1 (nm (m4 7 x1.toNatClampNeg) (fun v5 => bd (f7_laysLevels m4 x1 v5) (fun r6 => rdc 8 x1 (nm (r6 8 x1.toNatClampNeg) (fun v7 => rdc 5 x1 (nm (r6 5 x1.toNatClampNeg) (fun v8 => bd (f7_takesOwn r6 x1 (v7 - v8)) (fun r9 => nm (x1 + (1 : Int32)) (fun v10 => f7_clears_l85 (fun x1 mm => f7_clears_l30 n x1 mm) FU x1 r9.1 v10 r9.2)))))))))))) else some mm))
theorem f7_clears_l30_ok {E : Ev} {l : Launch} {C : Cfg} {x : Mem} (hj : Dj C) (X : Ec E l C rmX7_clears) (B : Bx E RX7 tbX7_clears 7 none) (hQ : Rt E) (hr : Rs E none x) (n : Nat) : ∀ (x1 : Int32) (mm : Mem), f7_clears_l30 n x1 mm = some x → G E 7 30 [(0, .ref 0), (1, .int x1)] [] mm := by
  induction n with
  | zero =>
    intro x1 mm hf
    rw [f7_clears_l30] at hf
    cases hf
  | succ n ih =>
    intro x1 mm hf
    rw [f7_clears_l30] at hf
    refine z_iload_n B 19 rfl 1 1 rfl rfl ?_
    refine z_aload_n B 20 rfl 0 0 rfl rfl ?_
    refine z_getr 7 1 0 B 21 rfl ob_0 rfl (iX7_clears _ (List.mem_of_getElem? (i := 1) rfl)) rfl ?_
    refine z_iconst 0 B 22 rfl (by decide) ?_
    obtain ⟨hx, hf⟩ := rdc_e hf
    refine z_iald B 23 rfl ob_1 hx ?_
    obtain ⟨v2, ex, hf⟩ := nm_x hf
    refine z_top ex ?_
    by_cases hc : x1 < v2
    · replace hf := (if_pos hc).symm.trans hf
      refine z_icmp_ge_f B 24 rfl 198 (by decide) hc ?_
      refine z_aload_n B 25 rfl 0 0 rfl rfl ?_
      refine z_getr 7 9 0 B 26 rfl ob_0 rfl (iX7_clears _ (List.mem_of_getElem? (i := 2) rfl)) rfl ?_
      refine z_iload_n B 27 rfl 1 1 rfl rfl ?_
      refine z_aload_n B 28 rfl 0 0 rfl rfl ?_
      refine z_iload_n B 29 rfl 1 1 rfl rfl ?_
      obtain ⟨r3, ec, hf⟩ := bd_e hf
      refine z_callV 0 7 [.int x1] [.int x1, .ref 7] [.int r3.1, .int x1, .ref 7] X B 30 rfl ob_0 rfl rfl miX7_priceOf ⟨(iX7_clears _ (List.mem_of_getElem? (i := 3) rfl)), (iX7_clears _ (List.mem_of_getElem? (i := 4) rfl)), (iX7_clears _ (List.mem_of_getElem? (i := 5) rfl))⟩ (ctX7_priceOf hj ec) ⟨Nat.le_of_ble_eq_true rfl, Nat.le_of_ble_eq_true rfl⟩ rfl rfl (Nat.le_of_ble_eq_true rfl) rfl ?_
      obtain ⟨hx, hf⟩ := rdc_e hf
      refine z_iast B 31 rfl ob_7 hx ?_
      obtain ⟨m4, ex, hf⟩ := nm_x hf
      refine z_mem ex ?_
      refine z_aload_n B 32 rfl 0 0 rfl rfl ?_
      refine z_iload_n B 33 rfl 1 1 rfl rfl ?_
      refine z_aload_n B 34 rfl 0 0 rfl rfl ?_
      refine z_getr 7 9 0 B 35 rfl ob_0 rfl (iX7_clears _ (List.mem_of_getElem? (i := 2) rfl)) rfl ?_
      refine z_iload_n B 36 rfl 1 1 rfl rfl ?_
      obtain ⟨hx, hf⟩ := rdc_e hf
      refine z_iald B 37 rfl ob_7 hx ?_
      obtain ⟨v5, ex, hf⟩ := nm_x hf
      refine z_top ex ?_
      obtain ⟨r6, ec, hf⟩ := bd_e hf
      refine z_callV 0 7 [.int x1, .int v5] [] [] X B 38 rfl ob_0 rfl rfl miX7_laysLevels ⟨(iX7_clears _ (List.mem_of_getElem? (i := 6) rfl)), (iX7_clears _ (List.mem_of_getElem? (i := 7) rfl)), (iX7_clears _ (List.mem_of_getElem? (i := 8) rfl))⟩ (ctX7_laysLevels hj ec) ⟨Nat.le_of_ble_eq_true rfl, Nat.le_of_ble_eq_true rfl⟩ rfl rfl (Nat.le_of_ble_eq_true rfl) rfl ?_
      refine z_aload_n B 39 rfl 0 0 rfl rfl ?_
      refine z_iload_n B 40 rfl 1 1 rfl rfl ?_
      refine z_aload_n B 41 rfl 0 0 rfl rfl ?_
      refine z_getr 7 10 0 B 42 rfl ob_0 rfl (iX7_clears _ (List.mem_of_getElem? (i := 0) rfl)) rfl ?_
      refine z_iload_n B 43 rfl 1 1 rfl rfl ?_
      obtain ⟨hx, hf⟩ := rdc_e hf
      refine z_iald B 44 rfl ob_8 hx ?_
      obtain ⟨v7, ex, hf⟩ := nm_x hf
      refine z_top ex ?_
      refine z_aload_n B 45 rfl 0 0 rfl rfl ?_
      refine z_getr 7 7 0 B 46 rfl ob_0 rfl (iX7_clears _ (List.mem_of_getElem? (i := 9) rfl)) rfl ?_
      refine z_iload_n B 47 rfl 1 1 rfl rfl ?_
      obtain ⟨hx, hf⟩ := rdc_e hf
      refine z_iald B 48 rfl ob_5 hx ?_
      obtain ⟨v8, ex, hf⟩ := nm_x hf
      refine z_top ex ?_
      refine z_isub B 49 rfl ?_
      obtain ⟨r9, ec, hf⟩ := bd_e hf
      refine z_callV 0 7 [.int x1, .int (v7 - v8)] [] [.int r9.1] X B 50 rfl ob_0 rfl rfl miX7_takesOwn ⟨(iX7_clears _ (List.mem_of_getElem? (i := 10) rfl)), (iX7_clears _ (List.mem_of_getElem? (i := 11) rfl)), (iX7_clears _ (List.mem_of_getElem? (i := 12) rfl))⟩ (ctX7_takesOwn hj ec) ⟨Nat.le_of_ble_eq_true rfl, Nat.le_of_ble_eq_true rfl⟩ rfl rfl (Nat.le_of_ble_eq_true rfl) rfl ?_
      refine z_istore_n [(2, .int r9.1), (0, .ref 0), (1, .int x1)] B 51 rfl 2 rfl (by decide) rfl ?_
      refine z_iload_n B 52 rfl 1 2 rfl rfl ?_
      refine z_iconst 1 B 53 rfl (by decide) ?_
      refine z_iadd B 54 rfl ?_
      obtain ⟨v10, ex, hf⟩ := nm_x hf
      refine z_top ex ?_
      refine z_istore_n [(3, .int v10), (2, .int r9.1), (0, .ref 0), (1, .int x1)] B 55 rfl 3 rfl (by decide) rfl ?_
      refine z_sub [(0, .ref 0), (1, .int x1), (2, .int r9.1), (3, .int v10)] [2, 3, 1, 0] rfl ?_
      exact f7_clears_l85_ok hj X B hQ hr ih FU _ _ _ _ hf
    · replace hf := (if_neg hc).symm.trans hf
      refine z_icmp_ge_t B 24 rfl 198 (by decide) hc ?_
      cases hf
      exact z_vret B 122 rfl hQ hr
def f7_clears_l2 : Nat → Int32 → Mem → Option Mem
  | 0, _, _ => none
  | n + 1, x1, mm => if x1 < (48 : Int32) then rdc 10 x1 (nm (up2 mm 10 x1.toNatClampNeg (0 : Int32)) (fun m25 => nm (x1 + 1) (fun v26 => f7_clears_l2 n v26 m25))) else rdc 8 (0 : Int32) (nm (up2 mm 8 (0 : Int32).toNatClampNeg (0 : Int32)) (fun m1 => f7_clears_l30 FU (0 : Int32) m1))
theorem f7_clears_l2_ok {E : Ev} {l : Launch} {C : Cfg} {x : Mem} (hj : Dj C) (X : Ec E l C rmX7_clears) (B : Bx E RX7 tbX7_clears 7 none) (hQ : Rt E) (hr : Rs E none x) (n : Nat) : ∀ (x1 : Int32) (mm : Mem), f7_clears_l2 n x1 mm = some x → G E 7 2 [(0, .ref 0), (1, .int x1)] [] mm := by
  induction n with
  | zero =>
    intro x1 mm hf
    rw [f7_clears_l2] at hf
    cases hf
  | succ n ih =>
    intro x1 mm hf
    rw [f7_clears_l2] at hf
    refine z_iload_n B 2 rfl 1 1 rfl rfl ?_
    refine z_bipush 48 B 3 rfl (by decide) ?_
    by_cases hc : x1 < (48 : Int32)
    · replace hf := (if_pos hc).symm.trans hf
      refine z_icmp_ge_f B 4 rfl 21 (by decide) hc ?_
      refine z_aload_n B 5 rfl 0 0 rfl rfl ?_
      refine z_getr 7 12 0 B 6 rfl ob_0 rfl (iX7_clears _ (List.mem_of_getElem? (i := 24) rfl)) rfl ?_
      refine z_iload_n B 7 rfl 1 1 rfl rfl ?_
      refine z_iconst 0 B 8 rfl (by decide) ?_
      obtain ⟨hx, hf⟩ := rdc_e hf
      refine z_iast B 9 rfl ob_10 hx ?_
      obtain ⟨m25, ex, hf⟩ := nm_x hf
      refine z_mem ex ?_
      obtain ⟨v26, ex, hf⟩ := nm_x hf
      refine z_iinc v26 [(1, .int v26), (0, .ref 0)] B 10 rfl 1 rfl (ex.symm) (by decide) rfl ?_
      refine z_goto B 11 rfl 2 (by decide) ?_
      refine z_sub [(0, .ref 0), (1, .int v26)] [1, 0] rfl ?_
      exact ih _ _ hf
    · replace hf := (if_neg hc).symm.trans hf
      refine z_icmp_ge_t B 4 rfl 21 (by decide) hc ?_
      refine z_aload_n B 12 rfl 0 0 rfl rfl ?_
      refine z_getr 7 10 0 B 13 rfl ob_0 rfl (iX7_clears _ (List.mem_of_getElem? (i := 0) rfl)) rfl ?_
      refine z_iconst 0 B 14 rfl (by decide) ?_
      refine z_iconst 0 B 15 rfl (by decide) ?_
      obtain ⟨hx, hf⟩ := rdc_e hf
      refine z_iast B 16 rfl ob_8 hx ?_
      obtain ⟨m1, ex, hf⟩ := nm_x hf
      refine z_mem ex ?_
      refine z_iconst 0 B 17 rfl (by decide) ?_
      refine z_istore_n [(1, .int (0 : Int32)), (0, .ref 0)] B 18 rfl 1 rfl (by decide) rfl ?_
      refine z_sub [(0, .ref 0), (1, .int (0 : Int32))] [1, 0] rfl ?_
      exact f7_clears_l30_ok hj X B hQ hr FU _ _ hf
def f7_clears (mm : Mem) : Option Mem := f7_clears_l2 FU (0 : Int32) mm
theorem ctX7_clears {l : Launch} {C : Cfg} (hj : Dj C) {mm : Mem} {x : Mem} (hf : f7_clears mm = some x) : Ct l C yX7_clears cX7_clears 7 none 6 145 [.ref 0] mm none x := by
  refine Ct.of (tb := tbX7_clears) hj miX7_clears.2.1 miX7_clears.1 dtX7_clears (Nat.le_of_ble_eq_true rfl) ?_
  intro E B hQ hr X
  unfold f7_clears at hf
  show G E 7 0 [(0, .ref 0)] [] mm
  refine z_iconst 0 B 0 rfl (by decide) ?_
  refine z_istore_n [(1, .int (0 : Int32)), (0, .ref 0)] B 1 rfl 1 rfl (by decide) rfl ?_
  refine z_sub [(0, .ref 0), (1, .int (0 : Int32))] [1, 0] rfl ?_
  exact f7_clears_l2_ok hj X B hQ hr FU _ _ hf
/-! ZoneCapacityModel.clearsAll()V -/
def tbX7_clearsAll : Tb := [(0, .aload_n 0, 1, 1), (1, .iconst 0, 1, 2), (2, .putfield 85, 3, 5), (5, .aload_n 0, 1, 6), (6, .iconst 0, 1, 7), (7, .putfield 78, 3, 10), (10, .aload_n 0, 1, 11), (11, .invokevirtual 114, 3, 14), (14, .return_, 1, 15)]
theorem dtX7_clearsAll : ∀ q ∈ tbX7_clearsAll, decode cX7_clearsAll q.1 = .ok (q.2.1, q.2.2.1) ∧ q.1 + q.2.2.1 = q.2.2.2 := by decide +kernel
theorem miX7_clearsAll : MI yX7_clearsAll cX7_clearsAll 1 none 0 := ⟨tw_mem (List.mem_of_getElem? (i := 1171) (by decide +kernel)) rfl, by decide, by decide +kernel, tw_mem (List.mem_of_getElem? (i := 78) (by decide +kernel)) rfl⟩
abbrev rmX7_clearsAll : Room := { frames := 7, cells := 0, slots := 0, locals := 171 }
def wX7_clearsAll : List Cond := [.fieldLink "ZoneCapacityModel" 85 "ZoneCapacityModel" "gone" "I", .fieldLink "ZoneCapacityModel" 78 "ZoneCapacityModel" "noFloors" "Z", .methodLink "ZoneCapacityModel" 114 yX7_clears, .instanceMethod yX7_clears, .selects "ZoneCapacityModel" yX7_clears yX7_clears]
theorem iX7_clearsAll : ∀ w ∈ wX7_clearsAll, w ∈ TW := tw_of (ids := [943, 944, 1172, 1174, 47]) (by decide +kernel)
def f7_clearsAll (mm : Mem) : Option Mem := nm (up2 mm 0 5 (0 : Int32)) (fun m1 => nm (up2 m1 0 6 (0 : Int32)) (fun m2 => bd (f7_clears m2) (fun r3 => some r3)))
theorem ctX7_clearsAll {l : Launch} {C : Cfg} (hj : Dj C) {mm : Mem} {x : Mem} (hf : f7_clearsAll mm = some x) : Ct l C yX7_clearsAll cX7_clearsAll 1 none 7 171 [.ref 0] mm none x := by
  refine Ct.of (tb := tbX7_clearsAll) hj miX7_clearsAll.2.1 miX7_clearsAll.1 dtX7_clearsAll (Nat.le_of_ble_eq_true rfl) ?_
  intro E B hQ hr X
  unfold f7_clearsAll at hf
  show G E 1 0 [(0, .ref 0)] [] mm
  refine z_aload_n B 0 rfl 0 0 rfl rfl ?_
  refine z_iconst 0 B 1 rfl (by decide) ?_
  refine z_puti 7 5 0 B 2 rfl ob_0 rfl (iX7_clearsAll _ (List.mem_of_getElem? (i := 0) rfl)) rfl (ty := .int) (by decide) rfl rfl rfl ?_
  obtain ⟨m1, ex, hf⟩ := nm_x hf
  refine z_mem ex ?_
  refine z_aload_n B 3 rfl 0 0 rfl rfl ?_
  refine z_iconst 0 B 4 rfl (by decide) ?_
  refine z_puti 7 6 0 B 5 rfl ob_0 rfl (iX7_clearsAll _ (List.mem_of_getElem? (i := 1) rfl)) rfl (ty := .boolean) (by decide) rfl (by decide) (by decide) ?_
  obtain ⟨m2, ex, hf⟩ := nm_x hf
  refine z_mem ex ?_
  refine z_aload_n B 6 rfl 0 0 rfl rfl ?_
  obtain ⟨r3, ec, hf⟩ := bd_e hf
  refine z_callV 0 7 [] [] [] X B 7 rfl ob_0 rfl rfl miX7_clears ⟨(iX7_clearsAll _ (List.mem_of_getElem? (i := 2) rfl)), (iX7_clearsAll _ (List.mem_of_getElem? (i := 3) rfl)), (iX7_clearsAll _ (List.mem_of_getElem? (i := 4) rfl))⟩ (ctX7_clears hj ec) ⟨Nat.le_of_ble_eq_true rfl, Nat.le_of_ble_eq_true rfl⟩ rfl rfl (Nat.le_of_ble_eq_true rfl) rfl ?_
  cases hf
  exact z_vret B 8 rfl hQ hr
/-! ZoneCapacityModel.surplusNow()J -/
def tbX7_surplusNow : Tb := [(0, .lconst 0, 1, 1), (1, .lstore_n 1, 1, 2), (2, .iconst 0, 1, 3), (3, .istore_n 3, 1, 4), (4, .iload_n 3, 1, 5), (5, .aload_n 0, 1, 6), (6, .getfield 7, 3, 9), (9, .iconst 0, 1, 10), (10, .iaload, 1, 11), (11, .if_icmp .ge 40, 3, 14), (14, .iconst 1, 1, 15), (15, .istore 4, 2, 17), (17, .iload 4, 2, 19), (19, .aload_n 0, 1, 20), (20, .getfield 35, 3, 23), (23, .iload_n 3, 1, 24), (24, .iaload, 1, 25), (25, .if_icmp .gt 20, 3, 28), (28, .lload_n 1, 1, 29), (29, .aload_n 0, 1, 30), (30, .iload_n 3, 1, 31), (31, .iload 4, 2, 33), (33, .invokevirtual 72, 3, 36), (36, .i2l, 1, 37), (37, .ladd, 1, 38), (38, .lstore_n 1, 1, 39), (39, .iinc 4 1, 3, 42), (42, .goto (-25), 3, 45), (45, .iinc 3 1, 3, 48), (48, .goto (-44), 3, 51), (51, .iconst 0, 1, 52), (52, .istore_n 3, 1, 53), (53, .iload_n 3, 1, 54), (54, .aload_n 0, 1, 55), (55, .getfield 7, 3, 58), (58, .iconst 1, 1, 59), (59, .iaload, 1, 60), (60, .if_icmp .ge 66, 3, 63), (63, .iconst 0, 1, 64), (64, .istore 4, 2, 66), (66, .iload 4, 2, 68), (68, .iconst 3, 1, 69), (69, .if_icmp .gt 51, 3, 72), (72, .lload_n 1, 1, 73), (73, .aload_n 0, 1, 74), (74, .getfield 38, 3, 77), (77, .iconst 4, 1, 78), (78, .iload_n 3, 1, 79), (79, .imul, 1, 80), (80, .iload 4, 2, 82), (82, .iadd, 1, 83), (83, .iaload, 1, 84), (84, .ifCond .ne 7, 3, 87), (87, .lconst 0, 1, 88), (88, .goto 24, 3, 91), (91, .aload_n 0, 1, 92), (92, .getfield 38, 3, 95), (95, .iconst 4, 1, 96), (96, .iload_n 3, 1, 97), (97, .imul, 1, 98), (98, .iload 4, 2, 100), (100, .iadd, 1, 101), (101, .iaload, 1, 102), (102, .i2l, 1, 103), (103, .aload_n 0, 1, 104), (104, .iload_n 3, 1, 105), (105, .iload 4, 2, 107), (107, .invokevirtual 88, 3, 110), (110, .i2l, 1, 111), (111, .lmul, 1, 112), (112, .lsub, 1, 113), (113, .lstore_n 1, 1, 114), (114, .iinc 4 1, 3, 117), (117, .goto (-51), 3, 120), (120, .iinc 3 1, 3, 123), (123, .goto (-70), 3, 126), (126, .lload_n 1, 1, 127), (127, .lreturn, 1, 128)]
theorem dtX7_surplusNow : ∀ q ∈ tbX7_surplusNow, decode cX7_surplusNow q.1 = .ok (q.2.1, q.2.2.1) ∧ q.1 + q.2.2.1 = q.2.2.2 := by decide +kernel
theorem miX7_surplusNow : MI yX7_surplusNow cX7_surplusNow 5 (some .long) 0 := ⟨tw_mem (List.mem_of_getElem? (i := 1215) (by decide +kernel)) rfl, by decide, by decide +kernel, tw_mem (List.mem_of_getElem? (i := 78) (by decide +kernel)) rfl⟩
abbrev rmX7_surplusNow : Room := { frames := 2, cells := 0, slots := 0, locals := 48 }
def wX7_surplusNow : List Cond := [.fieldLink "ZoneCapacityModel" 7 "ZoneCapacityModel" "w" "[I", .fieldLink "ZoneCapacityModel" 38 "ZoneCapacityModel" "takes" "[I", .methodLink "ZoneCapacityModel" 88 yX7_lineIts, .instanceMethod yX7_lineIts, .selects "ZoneCapacityModel" yX7_lineIts yX7_lineIts, .fieldLink "ZoneCapacityModel" 35 "ZoneCapacityModel" "serves" "[I", .methodLink "ZoneCapacityModel" 72 yX7_worthOf, .instanceMethod yX7_worthOf, .selects "ZoneCapacityModel" yX7_worthOf yX7_worthOf]
theorem iX7_surplusNow : ∀ w ∈ wX7_surplusNow, w ∈ TW := tw_of (ids := [939, 950, 1127, 1129, 40, 949, 1135, 1137, 41]) (by decide +kernel)
def f7_surplusNow_j112 (k53 : Int64 → Int32 → Option Int64) (k66 : Int64 → Int32 → Int32 → Option Int64) (mm : Mem) (x3 : Int32) (x4 : Int32) (s0 : Int64) (s1 : Int64) : Option Int64 := nm (s1 - s0) (fun v7 => nm (x4 + 1) (fun v8 => k66 v7 x3 v8))
theorem f7_surplusNow_j112_ok {E : Ev} {l : Launch} {C : Cfg} {mm : Mem} {x : Int64} {k53 : Int64 → Int32 → Option Int64} {k66 : Int64 → Int32 → Int32 → Option Int64} (hj : Dj C) (X : Ec E l C rmX7_surplusNow) (B : Bx E RX7 tbX7_surplusNow 5 (some .long)) (hQ : Rt E) (hr : Rs E (some (.long x)) mm) (hk53 : ∀ (x1 : Int64) (x3 : Int32), k53 x1 x3 = some x → G E 5 53 [(0, .ref 0), (1, .long x1), (3, .int x3)] [] mm) (hk66 : ∀ (x1 : Int64) (x3 : Int32) (x4 : Int32), k66 x1 x3 x4 = some x → G E 5 66 [(0, .ref 0), (1, .long x1), (3, .int x3), (4, .int x4)] [] mm) (x3 : Int32) (x4 : Int32) (s0 : Int64) (s1 : Int64) (hf : f7_surplusNow_j112 k53 k66 mm x3 x4 s0 s1 = some x) : G E 5 112 [(0, .ref 0), (3, .int x3), (4, .int x4)] [.long s0, .long s1] mm := by
  unfold f7_surplusNow_j112 at hf
  refine z_lsub B 70 rfl ?_
  obtain ⟨v7, ex, hf⟩ := nm_x hf
  refine z_topl ex ?_
  refine z_lstore_n [(1, .long v7), (0, .ref 0), (3, .int x3), (4, .int x4)] B 71 rfl 1 rfl (by decide) rfl ?_
  obtain ⟨v8, ex, hf⟩ := nm_x hf
  refine z_iinc v8 [(4, .int v8), (1, .long v7), (0, .ref 0), (3, .int x3)] B 72 rfl 3 rfl (ex.symm) (by decide) rfl ?_
  refine z_goto B 73 rfl 66 (by decide) ?_
  refine z_sub [(0, .ref 0), (1, .long v7), (3, .int x3), (4, .int v8)] [2, 1, 3, 0] rfl ?_
  exact hk66 _ _ _ hf
def f7_surplusNow_l66 (k53 : Int64 → Int32 → Option Int64) (mm : Mem) : Nat → Int64 → Int32 → Int32 → Option Int64
  | 0, _, _, _ => none
  | n + 1, x1, x3, x4 => if (3 : Int32) < x4 then nm (x3 + 1) (fun v3 => k53 x1 v3) else rdc 10 (((4 : Int32) * x3) + x4) (nm (mm 10 (((4 : Int32) * x3) + x4).toNatClampNeg) (fun v4 => if v4 = 0 then f7_surplusNow_j112 k53 (fun x1 x3 x4 => f7_surplusNow_l66 k53 mm n x1 x3 x4) mm x3 x4 (0 : Int64) x1 else rdc 10 (((4 : Int32) * x3) + x4) (nm (mm 10 (((4 : Int32) * x3) + x4).toNatClampNeg) (fun v5 => bd (f7_lineIts mm x3 x4) (fun r6 => f7_surplusNow_j112 k53 (fun x1 x3 x4 => f7_surplusNow_l66 k53 mm n x1 x3 x4) mm x3 x4 (v5.toInt64 * r6.toInt64) x1)))))
theorem f7_surplusNow_l66_ok {E : Ev} {l : Launch} {C : Cfg} {mm : Mem} {x : Int64} {k53 : Int64 → Int32 → Option Int64} (hj : Dj C) (X : Ec E l C rmX7_surplusNow) (B : Bx E RX7 tbX7_surplusNow 5 (some .long)) (hQ : Rt E) (hr : Rs E (some (.long x)) mm) (hk53 : ∀ (x1 : Int64) (x3 : Int32), k53 x1 x3 = some x → G E 5 53 [(0, .ref 0), (1, .long x1), (3, .int x3)] [] mm) (n : Nat) : ∀ (x1 : Int64) (x3 : Int32) (x4 : Int32), f7_surplusNow_l66 k53 mm n x1 x3 x4 = some x → G E 5 66 [(0, .ref 0), (1, .long x1), (3, .int x3), (4, .int x4)] [] mm := by
  induction n with
  | zero =>
    intro x1 x3 x4 hf
    rw [f7_surplusNow_l66] at hf
    cases hf
  | succ n ih =>
    intro x1 x3 x4 hf
    rw [f7_surplusNow_l66] at hf
    refine z_iload B 40 rfl 3 rfl ?_
    refine z_iconst 3 B 41 rfl (by decide) ?_
    by_cases hc : (3 : Int32) < x4
    · replace hf := (if_pos hc).symm.trans hf
      refine z_icmp_gt_t B 42 rfl 120 (by decide) hc ?_
      obtain ⟨v3, ex, hf⟩ := nm_x hf
      refine z_iinc v3 [(3, .int v3), (0, .ref 0), (1, .long x1), (4, .int x4)] B 74 rfl 2 rfl (ex.symm) (by decide) rfl ?_
      refine z_goto B 75 rfl 53 (by decide) ?_
      refine z_sub [(0, .ref 0), (1, .long x1), (3, .int v3)] [1, 2, 0] rfl ?_
      exact hk53 _ _ hf
    · replace hf := (if_neg hc).symm.trans hf
      refine z_icmp_gt_f B 42 rfl 120 (by decide) hc ?_
      refine z_lload_n B 43 rfl 1 1 rfl rfl ?_
      refine z_aload_n B 44 rfl 0 0 rfl rfl ?_
      refine z_getr 7 12 0 B 45 rfl ob_0 rfl (iX7_surplusNow _ (List.mem_of_getElem? (i := 1) rfl)) rfl ?_
      refine z_iconst 4 B 46 rfl (by decide) ?_
      refine z_iload_n B 47 rfl 3 2 rfl rfl ?_
      refine z_imul B 48 rfl ?_
      refine z_iload B 49 rfl 3 rfl ?_
      refine z_iadd B 50 rfl ?_
      obtain ⟨hx, hf⟩ := rdc_e hf
      refine z_iald B 51 rfl ob_10 hx ?_
      obtain ⟨v4, ex, hf⟩ := nm_x hf
      refine z_top ex ?_
      by_cases hc : v4 = 0
      · replace hf := (if_pos hc).symm.trans hf
        refine z_if_ne_f B 52 rfl 91 (by decide) hc ?_
        refine z_lconst 0 B 53 rfl (by decide) ?_
        refine z_goto B 54 rfl 112 (by decide) ?_
        refine z_sub [(0, .ref 0), (3, .int x3), (4, .int x4)] [0, 2, 3] rfl ?_
        exact f7_surplusNow_j112_ok hj X B hQ hr hk53 ih _ _ _ _ hf
      · replace hf := (if_neg hc).symm.trans hf
        refine z_if_ne_t B 52 rfl 91 (by decide) hc ?_
        refine z_aload_n B 55 rfl 0 0 rfl rfl ?_
        refine z_getr 7 12 0 B 56 rfl ob_0 rfl (iX7_surplusNow _ (List.mem_of_getElem? (i := 1) rfl)) rfl ?_
        refine z_iconst 4 B 57 rfl (by decide) ?_
        refine z_iload_n B 58 rfl 3 2 rfl rfl ?_
        refine z_imul B 59 rfl ?_
        refine z_iload B 60 rfl 3 rfl ?_
        refine z_iadd B 61 rfl ?_
        obtain ⟨hx, hf⟩ := rdc_e hf
        refine z_iald B 62 rfl ob_10 hx ?_
        obtain ⟨v5, ex, hf⟩ := nm_x hf
        refine z_top ex ?_
        refine z_i2l B 63 rfl ?_
        refine z_aload_n B 64 rfl 0 0 rfl rfl ?_
        refine z_iload_n B 65 rfl 3 2 rfl rfl ?_
        refine z_iload B 66 rfl 3 rfl ?_
        obtain ⟨r6, ec, hf⟩ := bd_e hf
        refine z_callV 0 7 [.int x3, .int x4] [.long v5.toInt64, .long x1] [.int r6, .long v5.toInt64, .long x1] X B 67 rfl ob_0 rfl rfl miX7_lineIts ⟨(iX7_surplusNow _ (List.mem_of_getElem? (i := 2) rfl)), (iX7_surplusNow _ (List.mem_of_getElem? (i := 3) rfl)), (iX7_surplusNow _ (List.mem_of_getElem? (i := 4) rfl))⟩ (ctX7_lineIts hj ec) ⟨Nat.le_of_ble_eq_true rfl, Nat.le_of_ble_eq_true rfl⟩ rfl rfl (Nat.le_of_ble_eq_true rfl) rfl ?_
        refine z_i2l B 68 rfl ?_
        refine z_lmul B 69 rfl ?_
        refine z_sub [(0, .ref 0), (3, .int x3), (4, .int x4)] [0, 2, 3] rfl ?_
        exact f7_surplusNow_j112_ok hj X B hQ hr hk53 ih _ _ _ _ hf
def f7_surplusNow_l53 (mm : Mem) : Nat → Int64 → Int32 → Option Int64
  | 0, _, _ => none
  | n + 1, x1, x3 => rdc 1 (1 : Int32) (nm (mm 1 (1 : Int32).toNatClampNeg) (fun v2 => if x3 < v2 then f7_surplusNow_l66 (fun x1 x3 => f7_surplusNow_l53 mm n x1 x3) mm FU x1 x3 (0 : Int32) else some (x1)))
theorem f7_surplusNow_l53_ok {E : Ev} {l : Launch} {C : Cfg} {mm : Mem} {x : Int64} (hj : Dj C) (X : Ec E l C rmX7_surplusNow) (B : Bx E RX7 tbX7_surplusNow 5 (some .long)) (hQ : Rt E) (hr : Rs E (some (.long x)) mm) (n : Nat) : ∀ (x1 : Int64) (x3 : Int32), f7_surplusNow_l53 mm n x1 x3 = some x → G E 5 53 [(0, .ref 0), (1, .long x1), (3, .int x3)] [] mm := by
  induction n with
  | zero =>
    intro x1 x3 hf
    rw [f7_surplusNow_l53] at hf
    cases hf
  | succ n ih =>
    intro x1 x3 hf
    rw [f7_surplusNow_l53] at hf
    refine z_iload_n B 32 rfl 3 2 rfl rfl ?_
    refine z_aload_n B 33 rfl 0 0 rfl rfl ?_
    refine z_getr 7 1 0 B 34 rfl ob_0 rfl (iX7_surplusNow _ (List.mem_of_getElem? (i := 0) rfl)) rfl ?_
    refine z_iconst 1 B 35 rfl (by decide) ?_
    obtain ⟨hx, hf⟩ := rdc_e hf
    refine z_iald B 36 rfl ob_1 hx ?_
    obtain ⟨v2, ex, hf⟩ := nm_x hf
    refine z_top ex ?_
    by_cases hc : x3 < v2
    · replace hf := (if_pos hc).symm.trans hf
      refine z_icmp_ge_f B 37 rfl 126 (by decide) hc ?_
      refine z_iconst 0 B 38 rfl (by decide) ?_
      refine z_istore [(4, .int (0 : Int32)), (0, .ref 0), (1, .long x1), (3, .int x3)] B 39 rfl (by decide) rfl ?_
      refine z_sub [(0, .ref 0), (1, .long x1), (3, .int x3), (4, .int (0 : Int32))] [1, 2, 3, 0] rfl ?_
      exact f7_surplusNow_l66_ok hj X B hQ hr ih FU _ _ _ hf
    · replace hf := (if_neg hc).symm.trans hf
      refine z_icmp_ge_t B 37 rfl 126 (by decide) hc ?_
      refine z_lload_n B 76 rfl 1 1 rfl rfl ?_
      cases hf
      exact z_lret B 77 rfl hQ hr
def f7_surplusNow_l17 (k4 : Int64 → Int32 → Option Int64) (mm : Mem) : Nat → Int64 → Int32 → Int32 → Option Int64
  | 0, _, _, _ => none
  | n + 1, x1, x3, x4 => rdc 9 x3 (nm (mm 9 x3.toNatClampNeg) (fun v9 => if v9 < x4 then nm (x3 + 1) (fun v10 => k4 x1 v10) else bd (f7_worthOf mm x3 x4) (fun r11 => nm (x1 + r11.toInt64) (fun v12 => nm (x4 + 1) (fun v13 => f7_surplusNow_l17 k4 mm n v12 x3 v13)))))
theorem f7_surplusNow_l17_ok {E : Ev} {l : Launch} {C : Cfg} {mm : Mem} {x : Int64} {k4 : Int64 → Int32 → Option Int64} (hj : Dj C) (X : Ec E l C rmX7_surplusNow) (B : Bx E RX7 tbX7_surplusNow 5 (some .long)) (hQ : Rt E) (hr : Rs E (some (.long x)) mm) (hk4 : ∀ (x1 : Int64) (x3 : Int32), k4 x1 x3 = some x → G E 5 4 [(0, .ref 0), (1, .long x1), (3, .int x3)] [] mm) (n : Nat) : ∀ (x1 : Int64) (x3 : Int32) (x4 : Int32), f7_surplusNow_l17 k4 mm n x1 x3 x4 = some x → G E 5 17 [(0, .ref 0), (1, .long x1), (3, .int x3), (4, .int x4)] [] mm := by
  induction n with
  | zero =>
    intro x1 x3 x4 hf
    rw [f7_surplusNow_l17] at hf
    cases hf
  | succ n ih =>
    intro x1 x3 x4 hf
    rw [f7_surplusNow_l17] at hf
    refine z_iload B 12 rfl 3 rfl ?_
    refine z_aload_n B 13 rfl 0 0 rfl rfl ?_
    refine z_getr 7 11 0 B 14 rfl ob_0 rfl (iX7_surplusNow _ (List.mem_of_getElem? (i := 5) rfl)) rfl ?_
    refine z_iload_n B 15 rfl 3 2 rfl rfl ?_
    obtain ⟨hx, hf⟩ := rdc_e hf
    refine z_iald B 16 rfl ob_9 hx ?_
    obtain ⟨v9, ex, hf⟩ := nm_x hf
    refine z_top ex ?_
    by_cases hc : v9 < x4
    · replace hf := (if_pos hc).symm.trans hf
      refine z_icmp_gt_t B 17 rfl 45 (by decide) hc ?_
      obtain ⟨v10, ex, hf⟩ := nm_x hf
      refine z_iinc v10 [(3, .int v10), (0, .ref 0), (1, .long x1), (4, .int x4)] B 28 rfl 2 rfl (ex.symm) (by decide) rfl ?_
      refine z_goto B 29 rfl 4 (by decide) ?_
      refine z_sub [(0, .ref 0), (1, .long x1), (3, .int v10)] [1, 2, 0] rfl ?_
      exact hk4 _ _ hf
    · replace hf := (if_neg hc).symm.trans hf
      refine z_icmp_gt_f B 17 rfl 45 (by decide) hc ?_
      refine z_lload_n B 18 rfl 1 1 rfl rfl ?_
      refine z_aload_n B 19 rfl 0 0 rfl rfl ?_
      refine z_iload_n B 20 rfl 3 2 rfl rfl ?_
      refine z_iload B 21 rfl 3 rfl ?_
      obtain ⟨r11, ec, hf⟩ := bd_e hf
      refine z_callV 0 7 [.int x3, .int x4] [.long x1] [.int r11, .long x1] X B 22 rfl ob_0 rfl rfl miX7_worthOf ⟨(iX7_surplusNow _ (List.mem_of_getElem? (i := 6) rfl)), (iX7_surplusNow _ (List.mem_of_getElem? (i := 7) rfl)), (iX7_surplusNow _ (List.mem_of_getElem? (i := 8) rfl))⟩ (ctX7_worthOf hj ec) ⟨Nat.le_of_ble_eq_true rfl, Nat.le_of_ble_eq_true rfl⟩ rfl rfl (Nat.le_of_ble_eq_true rfl) rfl ?_
      refine z_i2l B 23 rfl ?_
      refine z_ladd B 24 rfl ?_
      obtain ⟨v12, ex, hf⟩ := nm_x hf
      refine z_topl ex ?_
      refine z_lstore_n [(1, .long v12), (0, .ref 0), (3, .int x3), (4, .int x4)] B 25 rfl 1 rfl (by decide) rfl ?_
      obtain ⟨v13, ex, hf⟩ := nm_x hf
      refine z_iinc v13 [(4, .int v13), (1, .long v12), (0, .ref 0), (3, .int x3)] B 26 rfl 3 rfl (ex.symm) (by decide) rfl ?_
      refine z_goto B 27 rfl 17 (by decide) ?_
      refine z_sub [(0, .ref 0), (1, .long v12), (3, .int x3), (4, .int v13)] [2, 1, 3, 0] rfl ?_
      exact ih _ _ _ hf
def f7_surplusNow_l4 (mm : Mem) : Nat → Int64 → Int32 → Option Int64
  | 0, _, _ => none
  | n + 1, x1, x3 => rdc 1 (0 : Int32) (nm (mm 1 (0 : Int32).toNatClampNeg) (fun v1 => if x3 < v1 then f7_surplusNow_l17 (fun x1 x3 => f7_surplusNow_l4 mm n x1 x3) mm FU x1 x3 (1 : Int32) else f7_surplusNow_l53 mm FU x1 (0 : Int32)))
theorem f7_surplusNow_l4_ok {E : Ev} {l : Launch} {C : Cfg} {mm : Mem} {x : Int64} (hj : Dj C) (X : Ec E l C rmX7_surplusNow) (B : Bx E RX7 tbX7_surplusNow 5 (some .long)) (hQ : Rt E) (hr : Rs E (some (.long x)) mm) (n : Nat) : ∀ (x1 : Int64) (x3 : Int32), f7_surplusNow_l4 mm n x1 x3 = some x → G E 5 4 [(0, .ref 0), (1, .long x1), (3, .int x3)] [] mm := by
  induction n with
  | zero =>
    intro x1 x3 hf
    rw [f7_surplusNow_l4] at hf
    cases hf
  | succ n ih =>
    intro x1 x3 hf
    rw [f7_surplusNow_l4] at hf
    refine z_iload_n B 4 rfl 3 2 rfl rfl ?_
    refine z_aload_n B 5 rfl 0 0 rfl rfl ?_
    refine z_getr 7 1 0 B 6 rfl ob_0 rfl (iX7_surplusNow _ (List.mem_of_getElem? (i := 0) rfl)) rfl ?_
    refine z_iconst 0 B 7 rfl (by decide) ?_
    obtain ⟨hx, hf⟩ := rdc_e hf
    refine z_iald B 8 rfl ob_1 hx ?_
    obtain ⟨v1, ex, hf⟩ := nm_x hf
    refine z_top ex ?_
    by_cases hc : x3 < v1
    · replace hf := (if_pos hc).symm.trans hf
      refine z_icmp_ge_f B 9 rfl 51 (by decide) hc ?_
      refine z_iconst 1 B 10 rfl (by decide) ?_
      refine z_istore [(4, .int (1 : Int32)), (0, .ref 0), (1, .long x1), (3, .int x3)] B 11 rfl (by decide) rfl ?_
      refine z_sub [(0, .ref 0), (1, .long x1), (3, .int x3), (4, .int (1 : Int32))] [1, 2, 3, 0] rfl ?_
      exact f7_surplusNow_l17_ok hj X B hQ hr ih FU _ _ _ hf
    · replace hf := (if_neg hc).symm.trans hf
      refine z_icmp_ge_t B 9 rfl 51 (by decide) hc ?_
      refine z_iconst 0 B 30 rfl (by decide) ?_
      refine z_istore_n [(3, .int (0 : Int32)), (0, .ref 0), (1, .long x1)] B 31 rfl 3 rfl (by decide) rfl ?_
      refine z_sub [(0, .ref 0), (1, .long x1), (3, .int (0 : Int32))] [1, 2, 0] rfl ?_
      exact f7_surplusNow_l53_ok hj X B hQ hr FU _ _ hf
def f7_surplusNow (mm : Mem) : Option Int64 := f7_surplusNow_l4 mm FU (0 : Int64) (0 : Int32)
theorem ctX7_surplusNow {l : Launch} {C : Cfg} (hj : Dj C) {mm : Mem} {x : Int64} (hf : f7_surplusNow mm = some x) : Ct l C yX7_surplusNow cX7_surplusNow 5 (some .long) 2 48 [.ref 0] mm (some (.long x)) mm := by
  refine Ct.of (tb := tbX7_surplusNow) hj miX7_surplusNow.2.1 miX7_surplusNow.1 dtX7_surplusNow (Nat.le_of_ble_eq_true rfl) ?_
  intro E B hQ hr X
  unfold f7_surplusNow at hf
  show G E 5 0 [(0, .ref 0)] [] mm
  refine z_lconst 0 B 0 rfl (by decide) ?_
  refine z_lstore_n [(1, .long (0 : Int64)), (0, .ref 0)] B 1 rfl 1 rfl (by decide) rfl ?_
  refine z_iconst 0 B 2 rfl (by decide) ?_
  refine z_istore_n [(3, .int (0 : Int32)), (1, .long (0 : Int64)), (0, .ref 0)] B 3 rfl 3 rfl (by decide) rfl ?_
  refine z_sub [(0, .ref 0), (1, .long (0 : Int64)), (3, .int (0 : Int32))] [2, 1, 0] rfl ?_
  exact f7_surplusNow_l4_ok hj X B hQ hr FU _ _ hf
/-! ZoneCapacityModel.takenOf(I)I -/
def tbX7_takenOf : Tb := [(0, .aload_n 0, 1, 1), (1, .getfield 38, 3, 4), (4, .iconst 4, 1, 5), (5, .iload_n 1, 1, 6), (6, .imul, 1, 7), (7, .iaload, 1, 8), (8, .aload_n 0, 1, 9), (9, .getfield 38, 3, 12), (12, .iconst 4, 1, 13), (13, .iload_n 1, 1, 14), (14, .imul, 1, 15), (15, .iconst 1, 1, 16), (16, .iadd, 1, 17), (17, .iaload, 1, 18), (18, .iadd, 1, 19), (19, .aload_n 0, 1, 20), (20, .getfield 38, 3, 23), (23, .iconst 4, 1, 24), (24, .iload_n 1, 1, 25), (25, .imul, 1, 26), (26, .iconst 2, 1, 27), (27, .iadd, 1, 28), (28, .iaload, 1, 29), (29, .iadd, 1, 30), (30, .aload_n 0, 1, 31), (31, .getfield 38, 3, 34), (34, .iconst 4, 1, 35), (35, .iload_n 1, 1, 36), (36, .imul, 1, 37), (37, .iconst 3, 1, 38), (38, .iadd, 1, 39), (39, .iaload, 1, 40), (40, .iadd, 1, 41), (41, .ireturn, 1, 42)]
theorem dtX7_takenOf : ∀ q ∈ tbX7_takenOf, decode cX7_takenOf q.1 = .ok (q.2.1, q.2.2.1) ∧ q.1 + q.2.2.1 = q.2.2.2 := by decide +kernel
theorem miX7_takenOf : MI yX7_takenOf cX7_takenOf 2 (some .int) 1 := ⟨tw_mem (List.mem_of_getElem? (i := 1203) (by decide +kernel)) rfl, by decide, by decide +kernel, tw_mem (List.mem_of_getElem? (i := 78) (by decide +kernel)) rfl⟩
abbrev rmX7_takenOf : Room := { frames := 0, cells := 0, slots := 0, locals := 0 }
def wX7_takenOf : List Cond := [.fieldLink "ZoneCapacityModel" 38 "ZoneCapacityModel" "takes" "[I"]
theorem iX7_takenOf : ∀ w ∈ wX7_takenOf, w ∈ TW := tw_of (ids := [950]) (by decide +kernel)
def f7_takenOf (mm : Mem) (a1 : Int32) : Option Int32 := rdc 10 ((4 : Int32) * a1) (nm (mm 10 ((4 : Int32) * a1).toNatClampNeg) (fun v1 => rdc 10 (((4 : Int32) * a1) + (1 : Int32)) (nm (mm 10 (((4 : Int32) * a1) + (1 : Int32)).toNatClampNeg) (fun v2 => rdc 10 (((4 : Int32) * a1) + (2 : Int32)) (nm (mm 10 (((4 : Int32) * a1) + (2 : Int32)).toNatClampNeg) (fun v3 => rdc 10 (((4 : Int32) * a1) + (3 : Int32)) (nm (mm 10 (((4 : Int32) * a1) + (3 : Int32)).toNatClampNeg) (fun v4 => some (((v1 + v2) + v3) + v4)))))))))
theorem ctX7_takenOf {l : Launch} {C : Cfg} (hj : Dj C) {mm : Mem} {a1 : Int32} {x : Int32} (hf : f7_takenOf mm a1 = some x) : Ct l C yX7_takenOf cX7_takenOf 2 (some .int) 0 0 [.ref 0, .int a1] mm (some (.int x)) mm := by
  refine Ct.of (tb := tbX7_takenOf) hj miX7_takenOf.2.1 miX7_takenOf.1 dtX7_takenOf (Nat.le_of_ble_eq_true rfl) ?_
  intro E B hQ hr X
  unfold f7_takenOf at hf
  show G E 2 0 [(0, .ref 0), (1, .int a1)] [] mm
  refine z_aload_n B 0 rfl 0 0 rfl rfl ?_
  refine z_getr 7 12 0 B 1 rfl ob_0 rfl (iX7_takenOf _ (List.mem_of_getElem? (i := 0) rfl)) rfl ?_
  refine z_iconst 4 B 2 rfl (by decide) ?_
  refine z_iload_n B 3 rfl 1 1 rfl rfl ?_
  refine z_imul B 4 rfl ?_
  obtain ⟨hx, hf⟩ := rdc_e hf
  refine z_iald B 5 rfl ob_10 hx ?_
  obtain ⟨v1, ex, hf⟩ := nm_x hf
  refine z_top ex ?_
  refine z_aload_n B 6 rfl 0 0 rfl rfl ?_
  refine z_getr 7 12 0 B 7 rfl ob_0 rfl (iX7_takenOf _ (List.mem_of_getElem? (i := 0) rfl)) rfl ?_
  refine z_iconst 4 B 8 rfl (by decide) ?_
  refine z_iload_n B 9 rfl 1 1 rfl rfl ?_
  refine z_imul B 10 rfl ?_
  refine z_iconst 1 B 11 rfl (by decide) ?_
  refine z_iadd B 12 rfl ?_
  obtain ⟨hx, hf⟩ := rdc_e hf
  refine z_iald B 13 rfl ob_10 hx ?_
  obtain ⟨v2, ex, hf⟩ := nm_x hf
  refine z_top ex ?_
  refine z_iadd B 14 rfl ?_
  refine z_aload_n B 15 rfl 0 0 rfl rfl ?_
  refine z_getr 7 12 0 B 16 rfl ob_0 rfl (iX7_takenOf _ (List.mem_of_getElem? (i := 0) rfl)) rfl ?_
  refine z_iconst 4 B 17 rfl (by decide) ?_
  refine z_iload_n B 18 rfl 1 1 rfl rfl ?_
  refine z_imul B 19 rfl ?_
  refine z_iconst 2 B 20 rfl (by decide) ?_
  refine z_iadd B 21 rfl ?_
  obtain ⟨hx, hf⟩ := rdc_e hf
  refine z_iald B 22 rfl ob_10 hx ?_
  obtain ⟨v3, ex, hf⟩ := nm_x hf
  refine z_top ex ?_
  refine z_iadd B 23 rfl ?_
  refine z_aload_n B 24 rfl 0 0 rfl rfl ?_
  refine z_getr 7 12 0 B 25 rfl ob_0 rfl (iX7_takenOf _ (List.mem_of_getElem? (i := 0) rfl)) rfl ?_
  refine z_iconst 4 B 26 rfl (by decide) ?_
  refine z_iload_n B 27 rfl 1 1 rfl rfl ?_
  refine z_imul B 28 rfl ?_
  refine z_iconst 3 B 29 rfl (by decide) ?_
  refine z_iadd B 30 rfl ?_
  obtain ⟨hx, hf⟩ := rdc_e hf
  refine z_iald B 31 rfl ob_10 hx ?_
  obtain ⟨v4, ex, hf⟩ := nm_x hf
  refine z_top ex ?_
  refine z_iadd B 32 rfl ?_
  cases hf
  exact z_iret B 33 rfl rfl hQ hr
/-! ZoneCapacityModel.zone(III)I -/
def tbX7_zone : Tb := [(0, .aload_n 0, 1, 1), (1, .iconst 0, 1, 2), (2, .putfield 50, 3, 5), (5, .aload_n 0, 1, 6), (6, .getfield 7, 3, 9), (9, .iconst 0, 1, 10), (10, .iaload, 1, 11), (11, .istore 4, 2, 13), (13, .iload 4, 2, 15), (15, .bipush 6, 2, 17), (17, .if_icmp .eq 25, 3, 20), (20, .aload_n 0, 1, 21), (21, .iload_n 1, 1, 22), (22, .invokevirtual 117, 3, 25), (25, .ifCond .eq 17, 3, 28), (28, .iload_n 2, 1, 29), (29, .invokestatic 121, 3, 32), (32, .ifCond .eq 10, 3, 35), (35, .iload_n 3, 1, 36), (36, .invokestatic 121, 3, 39), (39, .ifCond .ne 5, 3, 42), (42, .iconst (-1), 1, 43), (43, .ireturn, 1, 44), (44, .aload_n 0, 1, 45), (45, .getfield 7, 3, 48), (48, .bipush 7, 2, 50), (50, .bipush 12, 2, 52), (52, .iload 4, 2, 54), (54, .imul, 1, 55), (55, .iadd, 1, 56), (56, .iload_n 1, 1, 57), (57, .iastore, 1, 58), (58, .aload_n 0, 1, 59), (59, .getfield 7, 3, 62), (62, .bipush 7, 2, 64), (64, .bipush 12, 2, 66), (66, .iload 4, 2, 68), (68, .imul, 1, 69), (69, .iadd, 1, 70), (70, .iconst 1, 1, 71), (71, .iadd, 1, 72), (72, .iload_n 2, 1, 73), (73, .iastore, 1, 74), (74, .aload_n 0, 1, 75), (75, .getfield 7, 3, 78), (78, .bipush 7, 2, 80), (80, .bipush 12, 2, 82), (82, .iload 4, 2, 84), (84, .imul, 1, 85), (85, .iadd, 1, 86), (86, .iconst 2, 1, 87), (87, .iadd, 1, 88), (88, .iload_n 3, 1, 89), (89, .iastore, 1, 90), (90, .aload_n 0, 1, 91), (91, .getfield 7, 3, 94), (94, .bipush 7, 2, 96), (96, .bipush 12, 2, 98), (98, .iload 4, 2, 100), (100, .imul, 1, 101), (101, .iadd, 1, 102), (102, .iconst 3, 1, 103), (103, .iadd, 1, 104), (104, .iconst 0, 1, 105), (105, .iastore, 1, 106), (106, .aload_n 0, 1, 107), (107, .getfield 7, 3, 110), (110, .iconst 0, 1, 111), (111, .dup2, 1, 112), (112, .iaload, 1, 113), (113, .iconst 1, 1, 114), (114, .iadd, 1, 115), (115, .iastore, 1, 116), (116, .iload 4, 2, 118), (118, .ireturn, 1, 119)]
theorem dtX7_zone : ∀ q ∈ tbX7_zone, decode cX7_zone q.1 = .ok (q.2.1, q.2.2.1) ∧ q.1 + q.2.2.1 = q.2.2.2 := by decide +kernel
theorem miX7_zone : MI yX7_zone cX7_zone 5 (some .int) 3 := ⟨tw_mem (List.mem_of_getElem? (i := 1016) (by decide +kernel)) rfl, by decide, by decide +kernel, tw_mem (List.mem_of_getElem? (i := 78) (by decide +kernel)) rfl⟩
abbrev rmX7_zone : Room := { frames := 2, cells := 0, slots := 0, locals := 43 }
def wX7_zone : List Cond := [.fieldLink "ZoneCapacityModel" 50 "ZoneCapacityModel" "raised" "I", .fieldLink "ZoneCapacityModel" 7 "ZoneCapacityModel" "w" "[I", .methodLink "ZoneCapacityModel" 117 yX7_isZone, .instanceMethod yX7_isZone, .selects "ZoneCapacityModel" yX7_isZone yX7_isZone, .methodLink "ZoneCapacityModel" 121 yX7_isPrice, .static yX7_isPrice]
theorem iX7_zone : ∀ w ∈ wX7_zone, w ∈ TW := tw_of (ids := [938, 939, 1017, 1019, 25, 1024, 1025]) (by decide +kernel)
def f7_zone (mm : Mem) (a1 : Int32) (a2 : Int32) (a3 : Int32) : Option (Int32 × Mem) := nm (up2 mm 0 0 (0 : Int32)) (fun m1 => rdc 1 (0 : Int32) (nm (m1 1 (0 : Int32).toNatClampNeg) (fun v2 => if v2 = (6 : Int32) then some ((-1 : Int32), m1) else bd (f7_isZone m1 a1) (fun r3 => if r3 = 0 then some ((-1 : Int32), m1) else bd (f7_isPrice m1 a2) (fun r4 => if r4 = 0 then some ((-1 : Int32), m1) else bd (f7_isPrice m1 a3) (fun r5 => if r5 = 0 then some ((-1 : Int32), m1) else rdc 1 ((7 : Int32) + ((12 : Int32) * v2)) (nm (up2 m1 1 ((7 : Int32) + ((12 : Int32) * v2)).toNatClampNeg a1) (fun m6 => rdc 1 (((7 : Int32) + ((12 : Int32) * v2)) + (1 : Int32)) (nm (up2 m6 1 (((7 : Int32) + ((12 : Int32) * v2)) + (1 : Int32)).toNatClampNeg a2) (fun m7 => rdc 1 (((7 : Int32) + ((12 : Int32) * v2)) + (2 : Int32)) (nm (up2 m7 1 (((7 : Int32) + ((12 : Int32) * v2)) + (2 : Int32)).toNatClampNeg a3) (fun m8 => rdc 1 (((7 : Int32) + ((12 : Int32) * v2)) + (3 : Int32)) (nm (up2 m8 1 (((7 : Int32) + ((12 : Int32) * v2)) + (3 : Int32)).toNatClampNeg (0 : Int32)) (fun m9 => rdc 1 (0 : Int32) (nm (m9 1 (0 : Int32).toNatClampNeg) (fun v10 => rdc 1 (0 : Int32) (nm (up2 m9 1 (0 : Int32).toNatClampNeg (v10 + (1 : Int32))) (fun m11 => some (v2, m11)))))))))))))))))))
theorem ctX7_zone {l : Launch} {C : Cfg} (hj : Dj C) {mm : Mem} {a1 : Int32} {a2 : Int32} {a3 : Int32} {x : (Int32 × Mem)} (hf : f7_zone mm a1 a2 a3 = some x) : Ct l C yX7_zone cX7_zone 5 (some .int) 2 43 [.ref 0, .int a1, .int a2, .int a3] mm (some (.int x.1)) x.2 := by
  refine Ct.of (tb := tbX7_zone) hj miX7_zone.2.1 miX7_zone.1 dtX7_zone (Nat.le_of_ble_eq_true rfl) ?_
  intro E B hQ hr X
  unfold f7_zone at hf
  show G E 5 0 [(0, .ref 0), (1, .int a1), (2, .int a2), (3, .int a3)] [] mm
  refine z_aload_n B 0 rfl 0 0 rfl rfl ?_
  refine z_iconst 0 B 1 rfl (by decide) ?_
  refine z_puti 7 0 0 B 2 rfl ob_0 rfl (iX7_zone _ (List.mem_of_getElem? (i := 0) rfl)) rfl (ty := .int) (by decide) rfl rfl rfl ?_
  obtain ⟨m1, ex, hf⟩ := nm_x hf
  refine z_mem ex ?_
  refine z_aload_n B 3 rfl 0 0 rfl rfl ?_
  refine z_getr 7 1 0 B 4 rfl ob_0 rfl (iX7_zone _ (List.mem_of_getElem? (i := 1) rfl)) rfl ?_
  refine z_iconst 0 B 5 rfl (by decide) ?_
  obtain ⟨hx, hf⟩ := rdc_e hf
  refine z_iald B 6 rfl ob_1 hx ?_
  obtain ⟨v2, ex, hf⟩ := nm_x hf
  refine z_top ex ?_
  refine z_istore [(4, .int v2), (0, .ref 0), (1, .int a1), (2, .int a2), (3, .int a3)] B 7 rfl (by decide) rfl ?_
  refine z_iload B 8 rfl 0 rfl ?_
  refine z_bipush 6 B 9 rfl (by decide) ?_
  by_cases hc : v2 = (6 : Int32)
  · replace hf := (if_pos hc).symm.trans hf
    refine z_icmp_eq_t B 10 rfl 42 (by decide) hc ?_
    refine z_iconst (-1) B 21 rfl (by decide) ?_
    cases hf
    exact z_iret B 22 rfl rfl hQ hr
  · replace hf := (if_neg hc).symm.trans hf
    refine z_icmp_eq_f B 10 rfl 42 (by decide) hc ?_
    refine z_aload_n B 11 rfl 0 1 rfl rfl ?_
    refine z_iload_n B 12 rfl 1 2 rfl rfl ?_
    obtain ⟨r3, ec, hf⟩ := bd_e hf
    refine z_callV 0 7 [.int a1] [] [.int r3] X B 13 rfl ob_0 rfl rfl miX7_isZone ⟨(iX7_zone _ (List.mem_of_getElem? (i := 2) rfl)), (iX7_zone _ (List.mem_of_getElem? (i := 3) rfl)), (iX7_zone _ (List.mem_of_getElem? (i := 4) rfl))⟩ (ctX7_isZone hj ec) ⟨Nat.le_of_ble_eq_true rfl, Nat.le_of_ble_eq_true rfl⟩ rfl rfl (Nat.le_of_ble_eq_true rfl) rfl ?_
    by_cases hc : r3 = 0
    · replace hf := (if_pos hc).symm.trans hf
      refine z_if_eq_t B 14 rfl 42 (by decide) hc ?_
      refine z_iconst (-1) B 21 rfl (by decide) ?_
      cases hf
      exact z_iret B 22 rfl rfl hQ hr
    · replace hf := (if_neg hc).symm.trans hf
      refine z_if_eq_f B 14 rfl 42 (by decide) hc ?_
      refine z_iload_n B 15 rfl 2 3 rfl rfl ?_
      obtain ⟨r4, ec, hf⟩ := bd_e hf
      refine z_callS [.int a2] [] [.int r4] X B 16 rfl miX7_isPrice ⟨(iX7_zone _ (List.mem_of_getElem? (i := 5) rfl)), (iX7_zone _ (List.mem_of_getElem? (i := 6) rfl))⟩ (ctX7_isPrice hj ec) ⟨Nat.le_of_ble_eq_true rfl, Nat.le_of_ble_eq_true rfl⟩ rfl rfl (Nat.le_of_ble_eq_true rfl) rfl ?_
      by_cases hc : r4 = 0
      · replace hf := (if_pos hc).symm.trans hf
        refine z_if_eq_t B 17 rfl 42 (by decide) hc ?_
        refine z_iconst (-1) B 21 rfl (by decide) ?_
        cases hf
        exact z_iret B 22 rfl rfl hQ hr
      · replace hf := (if_neg hc).symm.trans hf
        refine z_if_eq_f B 17 rfl 42 (by decide) hc ?_
        refine z_iload_n B 18 rfl 3 4 rfl rfl ?_
        obtain ⟨r5, ec, hf⟩ := bd_e hf
        refine z_callS [.int a3] [] [.int r5] X B 19 rfl miX7_isPrice ⟨(iX7_zone _ (List.mem_of_getElem? (i := 5) rfl)), (iX7_zone _ (List.mem_of_getElem? (i := 6) rfl))⟩ (ctX7_isPrice hj ec) ⟨Nat.le_of_ble_eq_true rfl, Nat.le_of_ble_eq_true rfl⟩ rfl rfl (Nat.le_of_ble_eq_true rfl) rfl ?_
        by_cases hc : r5 = 0
        · replace hf := (if_pos hc).symm.trans hf
          refine z_if_ne_f B 20 rfl 44 (by decide) hc ?_
          refine z_iconst (-1) B 21 rfl (by decide) ?_
          cases hf
          exact z_iret B 22 rfl rfl hQ hr
        · replace hf := (if_neg hc).symm.trans hf
          refine z_if_ne_t B 20 rfl 44 (by decide) hc ?_
          refine z_aload_n B 23 rfl 0 1 rfl rfl ?_
          refine z_getr 7 1 0 B 24 rfl ob_0 rfl (iX7_zone _ (List.mem_of_getElem? (i := 1) rfl)) rfl ?_
          refine z_bipush 7 B 25 rfl (by decide) ?_
          refine z_bipush 12 B 26 rfl (by decide) ?_
          refine z_iload B 27 rfl 0 rfl ?_
          refine z_imul B 28 rfl ?_
          refine z_iadd B 29 rfl ?_
          refine z_iload_n B 30 rfl 1 2 rfl rfl ?_
          obtain ⟨hx, hf⟩ := rdc_e hf
          refine z_iast B 31 rfl ob_1 hx ?_
          obtain ⟨m6, ex, hf⟩ := nm_x hf
          refine z_mem ex ?_
          refine z_aload_n B 32 rfl 0 1 rfl rfl ?_
          refine z_getr 7 1 0 B 33 rfl ob_0 rfl (iX7_zone _ (List.mem_of_getElem? (i := 1) rfl)) rfl ?_
          refine z_bipush 7 B 34 rfl (by decide) ?_
          refine z_bipush 12 B 35 rfl (by decide) ?_
          refine z_iload B 36 rfl 0 rfl ?_
          refine z_imul B 37 rfl ?_
          refine z_iadd B 38 rfl ?_
          refine z_iconst 1 B 39 rfl (by decide) ?_
          refine z_iadd B 40 rfl ?_
          refine z_iload_n B 41 rfl 2 3 rfl rfl ?_
          obtain ⟨hx, hf⟩ := rdc_e hf
          refine z_iast B 42 rfl ob_1 hx ?_
          obtain ⟨m7, ex, hf⟩ := nm_x hf
          refine z_mem ex ?_
          refine z_aload_n B 43 rfl 0 1 rfl rfl ?_
          refine z_getr 7 1 0 B 44 rfl ob_0 rfl (iX7_zone _ (List.mem_of_getElem? (i := 1) rfl)) rfl ?_
          refine z_bipush 7 B 45 rfl (by decide) ?_
          refine z_bipush 12 B 46 rfl (by decide) ?_
          refine z_iload B 47 rfl 0 rfl ?_
          refine z_imul B 48 rfl ?_
          refine z_iadd B 49 rfl ?_
          refine z_iconst 2 B 50 rfl (by decide) ?_
          refine z_iadd B 51 rfl ?_
          refine z_iload_n B 52 rfl 3 4 rfl rfl ?_
          obtain ⟨hx, hf⟩ := rdc_e hf
          refine z_iast B 53 rfl ob_1 hx ?_
          obtain ⟨m8, ex, hf⟩ := nm_x hf
          refine z_mem ex ?_
          refine z_aload_n B 54 rfl 0 1 rfl rfl ?_
          refine z_getr 7 1 0 B 55 rfl ob_0 rfl (iX7_zone _ (List.mem_of_getElem? (i := 1) rfl)) rfl ?_
          refine z_bipush 7 B 56 rfl (by decide) ?_
          refine z_bipush 12 B 57 rfl (by decide) ?_
          refine z_iload B 58 rfl 0 rfl ?_
          refine z_imul B 59 rfl ?_
          refine z_iadd B 60 rfl ?_
          refine z_iconst 3 B 61 rfl (by decide) ?_
          refine z_iadd B 62 rfl ?_
          refine z_iconst 0 B 63 rfl (by decide) ?_
          obtain ⟨hx, hf⟩ := rdc_e hf
          refine z_iast B 64 rfl ob_1 hx ?_
          obtain ⟨m9, ex, hf⟩ := nm_x hf
          refine z_mem ex ?_
          refine z_aload_n B 65 rfl 0 1 rfl rfl ?_
          refine z_getr 7 1 0 B 66 rfl ob_0 rfl (iX7_zone _ (List.mem_of_getElem? (i := 1) rfl)) rfl ?_
          refine z_iconst 0 B 67 rfl (by decide) ?_
          refine z_dup2 B 68 rfl rfl rfl ?_
          obtain ⟨hx, hf⟩ := rdc_e hf
          refine z_iald B 69 rfl ob_1 hx ?_
          obtain ⟨v10, ex, hf⟩ := nm_x hf
          refine z_top ex ?_
          refine z_iconst 1 B 70 rfl (by decide) ?_
          refine z_iadd B 71 rfl ?_
          obtain ⟨hx, hf⟩ := rdc_e hf
          refine z_iast B 72 rfl ob_1 hx ?_
          obtain ⟨m11, ex, hf⟩ := nm_x hf
          refine z_mem ex ?_
          refine z_iload B 73 rfl 0 rfl ?_
          cases hf
          exact z_iret B 74 rfl rfl hQ hr
/-! ZoneCapacityModel.canPoint(III)Z -/
def tbX7_canPoint : Tb := [(0, .aload_n 0, 1, 1), (1, .iload_n 1, 1, 2), (2, .iconst 3, 1, 3), (3, .invokevirtual 58, 3, 6), (6, .istore 4, 2, 8), (8, .iload_n 2, 1, 9), (9, .iload 4, 2, 11), (11, .ifCond .ne 7, 3, 14), (14, .iconst 1, 1, 15), (15, .goto 14, 3, 18), (18, .aload_n 0, 1, 19), (19, .iload_n 1, 1, 20), (20, .iload 4, 2, 22), (22, .iconst 1, 1, 23), (23, .isub, 1, 24), (24, .invokevirtual 62, 3, 27), (27, .iconst 1, 1, 28), (28, .iadd, 1, 29), (29, .sipush 2000, 3, 32), (32, .invokestatic 54, 3, 35), (35, .ifCond .eq 35, 3, 38), (38, .iload_n 3, 1, 39), (39, .iconst 0, 1, 40), (40, .iload 4, 2, 42), (42, .ifCond .ne 9, 3, 45), (45, .sipush 9999, 3, 48), (48, .goto 12, 3, 51), (51, .aload_n 0, 1, 52), (52, .iload_n 1, 1, 53), (53, .iload 4, 2, 55), (55, .iconst 1, 1, 56), (56, .isub, 1, 57), (57, .invokevirtual 65, 3, 60), (60, .invokestatic 54, 3, 63), (63, .ifCond .eq 7, 3, 66), (66, .iconst 1, 1, 67), (67, .goto 4, 3, 70), (70, .iconst 0, 1, 71), (71, .ireturn, 1, 72)]
theorem dtX7_canPoint : ∀ q ∈ tbX7_canPoint, decode cX7_canPoint q.1 = .ok (q.2.1, q.2.2.1) ∧ q.1 + q.2.2.1 = q.2.2.2 := by decide +kernel
theorem miX7_canPoint : MI yX7_canPoint cX7_canPoint 5 (some .boolean) 3 := ⟨tw_mem (List.mem_of_getElem? (i := 1038) (by decide +kernel)) rfl, by decide, by decide +kernel, tw_mem (List.mem_of_getElem? (i := 78) (by decide +kernel)) rfl⟩
abbrev rmX7_canPoint : Room := { frames := 1, cells := 0, slots := 0, locals := 22 }
def wX7_canPoint : List Cond := [.methodLink "ZoneCapacityModel" 58 yX7_ofZone, .instanceMethod yX7_ofZone, .selects "ZoneCapacityModel" yX7_ofZone yX7_ofZone, .methodLink "ZoneCapacityModel" 62 yX7_pointUnits, .instanceMethod yX7_pointUnits, .selects "ZoneCapacityModel" yX7_pointUnits yX7_pointUnits, .methodLink "ZoneCapacityModel" 54 yX7_in, .static yX7_in, .methodLink "ZoneCapacityModel" 65 yX7_pointPrice, .instanceMethod yX7_pointPrice, .selects "ZoneCapacityModel" yX7_pointPrice yX7_pointPrice]
theorem iX7_canPoint : ∀ w ∈ wX7_canPoint, w ∈ TW := tw_of (ids := [1031, 1033, 26, 1039, 1041, 28, 1021, 1022, 1043, 1045, 29]) (by decide +kernel)
def f7_canPoint_j60 (mm : Mem) (s0 : Int32) (s1 : Int32) (s2 : Int32) : Option Int32 := bd (f7_in mm s2 s1 s0) (fun r5 => if r5 = 0 then some ((0 : Int32)) else some ((1 : Int32)))
theorem f7_canPoint_j60_ok {E : Ev} {l : Launch} {C : Cfg} {mm : Mem} {x : Int32} (hj : Dj C) (X : Ec E l C rmX7_canPoint) (B : Bx E RX7 tbX7_canPoint 5 (some .boolean)) (hQ : Rt E) (hr : Rs E (some (.int x)) mm) (s0 : Int32) (s1 : Int32) (s2 : Int32) (hf : f7_canPoint_j60 mm s0 s1 s2 = some x) : G E 5 60 [] [.int s0, .int s1, .int s2] mm := by
  unfold f7_canPoint_j60 at hf
  obtain ⟨r5, ec, hf⟩ := bd_e hf
  refine z_callS [.int s2, .int s1, .int s0] [] [.int r5] X B 33 rfl miX7_in ⟨(iX7_canPoint _ (List.mem_of_getElem? (i := 6) rfl)), (iX7_canPoint _ (List.mem_of_getElem? (i := 7) rfl))⟩ (ctX7_in hj ec) ⟨Nat.le_of_ble_eq_true rfl, Nat.le_of_ble_eq_true rfl⟩ rfl rfl (Nat.le_of_ble_eq_true rfl) rfl ?_
  by_cases hc : r5 = 0
  · replace hf := (if_pos hc).symm.trans hf
    refine z_if_eq_t B 34 rfl 70 (by decide) hc ?_
    refine z_iconst 0 B 37 rfl (by decide) ?_
    cases hf
    exact z_iret B 38 rfl (by decide) hQ hr
  · replace hf := (if_neg hc).symm.trans hf
    refine z_if_eq_f B 34 rfl 70 (by decide) hc ?_
    refine z_iconst 1 B 35 rfl (by decide) ?_
    refine z_goto B 36 rfl 71 (by decide) ?_
    cases hf
    exact z_iret B 38 rfl (by decide) hQ hr
def f7_canPoint_j29 (mm : Mem) (x1 : Int32) (x3 : Int32) (x4 : Int32) (s0 : Int32) (s1 : Int32) : Option Int32 := bd (f7_in mm s1 s0 (2000 : Int32)) (fun r3 => if r3 = 0 then some ((0 : Int32)) else if x4 = 0 then f7_canPoint_j60 mm (9999 : Int32) (0 : Int32) x3 else bd (f7_pointPrice mm x1 (x4 - (1 : Int32))) (fun r4 => f7_canPoint_j60 mm r4 (0 : Int32) x3))
theorem f7_canPoint_j29_ok {E : Ev} {l : Launch} {C : Cfg} {mm : Mem} {x : Int32} (hj : Dj C) (X : Ec E l C rmX7_canPoint) (B : Bx E RX7 tbX7_canPoint 5 (some .boolean)) (hQ : Rt E) (hr : Rs E (some (.int x)) mm) (x1 : Int32) (x3 : Int32) (x4 : Int32) (s0 : Int32) (s1 : Int32) (hf : f7_canPoint_j29 mm x1 x3 x4 s0 s1 = some x) : G E 5 29 [(0, .ref 0), (1, .int x1), (3, .int x3), (4, .int x4)] [.int s0, .int s1] mm := by
  unfold f7_canPoint_j29 at hf
  refine z_sipush 2000 B 18 rfl (by decide) ?_
  obtain ⟨r3, ec, hf⟩ := bd_e hf
  refine z_callS [.int s1, .int s0, .int (2000 : Int32)] [] [.int r3] X B 19 rfl miX7_in ⟨(iX7_canPoint _ (List.mem_of_getElem? (i := 6) rfl)), (iX7_canPoint _ (List.mem_of_getElem? (i := 7) rfl))⟩ (ctX7_in hj ec) ⟨Nat.le_of_ble_eq_true rfl, Nat.le_of_ble_eq_true rfl⟩ rfl rfl (Nat.le_of_ble_eq_true rfl) rfl ?_
  by_cases hc : r3 = 0
  · replace hf := (if_pos hc).symm.trans hf
    refine z_if_eq_t B 20 rfl 70 (by decide) hc ?_
    refine z_iconst 0 B 37 rfl (by decide) ?_
    cases hf
    exact z_iret B 38 rfl (by decide) hQ hr
  · replace hf := (if_neg hc).symm.trans hf
    refine z_if_eq_f B 20 rfl 70 (by decide) hc ?_
    refine z_iload_n B 21 rfl 3 2 rfl rfl ?_
    refine z_iconst 0 B 22 rfl (by decide) ?_
    refine z_iload B 23 rfl 3 rfl ?_
    by_cases hc : x4 = 0
    · replace hf := (if_pos hc).symm.trans hf
      refine z_if_ne_f B 24 rfl 51 (by decide) hc ?_
      refine z_sipush 9999 B 25 rfl (by decide) ?_
      refine z_goto B 26 rfl 60 (by decide) ?_
      refine z_sub [] [] rfl ?_
      exact f7_canPoint_j60_ok hj X B hQ hr _ _ _ hf
    · replace hf := (if_neg hc).symm.trans hf
      refine z_if_ne_t B 24 rfl 51 (by decide) hc ?_
      refine z_aload_n B 27 rfl 0 0 rfl rfl ?_
      refine z_iload_n B 28 rfl 1 1 rfl rfl ?_
      refine z_iload B 29 rfl 3 rfl ?_
      refine z_iconst 1 B 30 rfl (by decide) ?_
      refine z_isub B 31 rfl ?_
      obtain ⟨r4, ec, hf⟩ := bd_e hf
      refine z_callV 0 7 [.int x1, .int (x4 - (1 : Int32))] [.int (0 : Int32), .int x3] [.int r4, .int (0 : Int32), .int x3] X B 32 rfl ob_0 rfl rfl miX7_pointPrice ⟨(iX7_canPoint _ (List.mem_of_getElem? (i := 8) rfl)), (iX7_canPoint _ (List.mem_of_getElem? (i := 9) rfl)), (iX7_canPoint _ (List.mem_of_getElem? (i := 10) rfl))⟩ (ctX7_pointPrice hj ec) ⟨Nat.le_of_ble_eq_true rfl, Nat.le_of_ble_eq_true rfl⟩ rfl rfl (Nat.le_of_ble_eq_true rfl) rfl ?_
      refine z_sub [] [] rfl ?_
      exact f7_canPoint_j60_ok hj X B hQ hr _ _ _ hf
def f7_canPoint (mm : Mem) (a1 : Int32) (a2 : Int32) (a3 : Int32) : Option Int32 := bd (f7_ofZone mm a1 (3 : Int32)) (fun r1 => if r1 = 0 then f7_canPoint_j29 mm a1 a3 r1 (1 : Int32) a2 else bd (f7_pointUnits mm a1 (r1 - (1 : Int32))) (fun r2 => f7_canPoint_j29 mm a1 a3 r1 (r2 + (1 : Int32)) a2))
theorem ctX7_canPoint {l : Launch} {C : Cfg} (hj : Dj C) {mm : Mem} {a1 : Int32} {a2 : Int32} {a3 : Int32} {x : Int32} (hf : f7_canPoint mm a1 a2 a3 = some x) : Ct l C yX7_canPoint cX7_canPoint 5 (some .boolean) 1 22 [.ref 0, .int a1, .int a2, .int a3] mm (some (.int x)) mm := by
  refine Ct.of (tb := tbX7_canPoint) hj miX7_canPoint.2.1 miX7_canPoint.1 dtX7_canPoint (Nat.le_of_ble_eq_true rfl) ?_
  intro E B hQ hr X
  unfold f7_canPoint at hf
  show G E 5 0 [(0, .ref 0), (1, .int a1), (2, .int a2), (3, .int a3)] [] mm
  refine z_aload_n B 0 rfl 0 0 rfl rfl ?_
  refine z_iload_n B 1 rfl 1 1 rfl rfl ?_
  refine z_iconst 3 B 2 rfl (by decide) ?_
  obtain ⟨r1, ec, hf⟩ := bd_e hf
  refine z_callV 0 7 [.int a1, .int (3 : Int32)] [] [.int r1] X B 3 rfl ob_0 rfl rfl miX7_ofZone ⟨(iX7_canPoint _ (List.mem_of_getElem? (i := 0) rfl)), (iX7_canPoint _ (List.mem_of_getElem? (i := 1) rfl)), (iX7_canPoint _ (List.mem_of_getElem? (i := 2) rfl))⟩ (ctX7_ofZone hj ec) ⟨Nat.le_of_ble_eq_true rfl, Nat.le_of_ble_eq_true rfl⟩ rfl rfl (Nat.le_of_ble_eq_true rfl) rfl ?_
  refine z_istore [(4, .int r1), (0, .ref 0), (1, .int a1), (2, .int a2), (3, .int a3)] B 4 rfl (by decide) rfl ?_
  refine z_iload_n B 5 rfl 2 3 rfl rfl ?_
  refine z_iload B 6 rfl 0 rfl ?_
  by_cases hc : r1 = 0
  · replace hf := (if_pos hc).symm.trans hf
    refine z_if_ne_f B 7 rfl 18 (by decide) hc ?_
    refine z_iconst 1 B 8 rfl (by decide) ?_
    refine z_goto B 9 rfl 29 (by decide) ?_
    refine z_sub [(0, .ref 0), (1, .int a1), (3, .int a3), (4, .int r1)] [1, 2, 4, 0] rfl ?_
    exact f7_canPoint_j29_ok hj X B hQ hr _ _ _ _ _ hf
  · replace hf := (if_neg hc).symm.trans hf
    refine z_if_ne_t B 7 rfl 18 (by decide) hc ?_
    refine z_aload_n B 10 rfl 0 1 rfl rfl ?_
    refine z_iload_n B 11 rfl 1 2 rfl rfl ?_
    refine z_iload B 12 rfl 0 rfl ?_
    refine z_iconst 1 B 13 rfl (by decide) ?_
    refine z_isub B 14 rfl ?_
    obtain ⟨r2, ec, hf⟩ := bd_e hf
    refine z_callV 0 7 [.int a1, .int (r1 - (1 : Int32))] [.int a2] [.int r2, .int a2] X B 15 rfl ob_0 rfl rfl miX7_pointUnits ⟨(iX7_canPoint _ (List.mem_of_getElem? (i := 3) rfl)), (iX7_canPoint _ (List.mem_of_getElem? (i := 4) rfl)), (iX7_canPoint _ (List.mem_of_getElem? (i := 5) rfl))⟩ (ctX7_pointUnits hj ec) ⟨Nat.le_of_ble_eq_true rfl, Nat.le_of_ble_eq_true rfl⟩ rfl rfl (Nat.le_of_ble_eq_true rfl) rfl ?_
    refine z_iconst 1 B 16 rfl (by decide) ?_
    refine z_iadd B 17 rfl ?_
    refine z_sub [(0, .ref 0), (1, .int a1), (3, .int a3), (4, .int r1)] [1, 2, 4, 0] rfl ?_
    exact f7_canPoint_j29_ok hj X B hQ hr _ _ _ _ _ hf
/-! ZoneCapacityModel.addPoint(III)V -/
def tbX7_addPoint : Tb := [(0, .aload_n 0, 1, 1), (1, .iload_n 1, 1, 2), (2, .iconst 3, 1, 3), (3, .invokevirtual 58, 3, 6), (6, .istore 4, 2, 8), (8, .aload_n 0, 1, 9), (9, .getfield 7, 3, 12), (12, .bipush 7, 2, 14), (14, .bipush 12, 2, 16), (16, .iload_n 1, 1, 17), (17, .imul, 1, 18), (18, .iadd, 1, 19), (19, .iconst 4, 1, 20), (20, .iadd, 1, 21), (21, .iconst 2, 1, 22), (22, .iload 4, 2, 24), (24, .imul, 1, 25), (25, .iadd, 1, 26), (26, .iload_n 2, 1, 27), (27, .iastore, 1, 28), (28, .aload_n 0, 1, 29), (29, .getfield 7, 3, 32), (32, .bipush 7, 2, 34), (34, .bipush 12, 2, 36), (36, .iload_n 1, 1, 37), (37, .imul, 1, 38), (38, .iadd, 1, 39), (39, .iconst 5, 1, 40), (40, .iadd, 1, 41), (41, .iconst 2, 1, 42), (42, .iload 4, 2, 44), (44, .imul, 1, 45), (45, .iadd, 1, 46), (46, .iload_n 3, 1, 47), (47, .iastore, 1, 48), (48, .aload_n 0, 1, 49), (49, .getfield 7, 3, 52), (52, .bipush 7, 2, 54), (54, .bipush 12, 2, 56), (56, .iload_n 1, 1, 57), (57, .imul, 1, 58), (58, .iadd, 1, 59), (59, .iconst 3, 1, 60), (60, .iadd, 1, 61), (61, .dup2, 1, 62), (62, .iaload, 1, 63), (63, .iconst 1, 1, 64), (64, .iadd, 1, 65), (65, .iastore, 1, 66), (66, .return_, 1, 67)]
theorem dtX7_addPoint : ∀ q ∈ tbX7_addPoint, decode cX7_addPoint q.1 = .ok (q.2.1, q.2.2.1) ∧ q.1 + q.2.2.1 = q.2.2.2 := by decide +kernel
theorem miX7_addPoint : MI yX7_addPoint cX7_addPoint 5 none 3 := ⟨tw_mem (List.mem_of_getElem? (i := 1050) (by decide +kernel)) rfl, by decide, by decide +kernel, tw_mem (List.mem_of_getElem? (i := 78) (by decide +kernel)) rfl⟩
abbrev rmX7_addPoint : Room := { frames := 1, cells := 0, slots := 0, locals := 22 }
def wX7_addPoint : List Cond := [.methodLink "ZoneCapacityModel" 58 yX7_ofZone, .instanceMethod yX7_ofZone, .selects "ZoneCapacityModel" yX7_ofZone yX7_ofZone, .fieldLink "ZoneCapacityModel" 7 "ZoneCapacityModel" "w" "[I"]
theorem iX7_addPoint : ∀ w ∈ wX7_addPoint, w ∈ TW := tw_of (ids := [1031, 1033, 26, 939]) (by decide +kernel)
def f7_addPoint (mm : Mem) (a1 : Int32) (a2 : Int32) (a3 : Int32) : Option Mem := bd (f7_ofZone mm a1 (3 : Int32)) (fun r1 => rdc 1 ((((7 : Int32) + ((12 : Int32) * a1)) + (4 : Int32)) + ((2 : Int32) * r1)) (nm (up2 mm 1 ((((7 : Int32) + ((12 : Int32) * a1)) + (4 : Int32)) + ((2 : Int32) * r1)).toNatClampNeg a2) (fun m2 => rdc 1 ((((7 : Int32) + ((12 : Int32) * a1)) + (5 : Int32)) + ((2 : Int32) * r1)) (nm (up2 m2 1 ((((7 : Int32) + ((12 : Int32) * a1)) + (5 : Int32)) + ((2 : Int32) * r1)).toNatClampNeg a3) (fun m3 => rdc 1 (((7 : Int32) + ((12 : Int32) * a1)) + (3 : Int32)) (nm (m3 1 (((7 : Int32) + ((12 : Int32) * a1)) + (3 : Int32)).toNatClampNeg) (fun v4 => rdc 1 (((7 : Int32) + ((12 : Int32) * a1)) + (3 : Int32)) (nm (up2 m3 1 (((7 : Int32) + ((12 : Int32) * a1)) + (3 : Int32)).toNatClampNeg (v4 + (1 : Int32))) (fun m5 => some m5)))))))))
theorem ctX7_addPoint {l : Launch} {C : Cfg} (hj : Dj C) {mm : Mem} {a1 : Int32} {a2 : Int32} {a3 : Int32} {x : Mem} (hf : f7_addPoint mm a1 a2 a3 = some x) : Ct l C yX7_addPoint cX7_addPoint 5 none 1 22 [.ref 0, .int a1, .int a2, .int a3] mm none x := by
  refine Ct.of (tb := tbX7_addPoint) hj miX7_addPoint.2.1 miX7_addPoint.1 dtX7_addPoint (Nat.le_of_ble_eq_true rfl) ?_
  intro E B hQ hr X
  unfold f7_addPoint at hf
  show G E 5 0 [(0, .ref 0), (1, .int a1), (2, .int a2), (3, .int a3)] [] mm
  refine z_aload_n B 0 rfl 0 0 rfl rfl ?_
  refine z_iload_n B 1 rfl 1 1 rfl rfl ?_
  refine z_iconst 3 B 2 rfl (by decide) ?_
  obtain ⟨r1, ec, hf⟩ := bd_e hf
  refine z_callV 0 7 [.int a1, .int (3 : Int32)] [] [.int r1] X B 3 rfl ob_0 rfl rfl miX7_ofZone ⟨(iX7_addPoint _ (List.mem_of_getElem? (i := 0) rfl)), (iX7_addPoint _ (List.mem_of_getElem? (i := 1) rfl)), (iX7_addPoint _ (List.mem_of_getElem? (i := 2) rfl))⟩ (ctX7_ofZone hj ec) ⟨Nat.le_of_ble_eq_true rfl, Nat.le_of_ble_eq_true rfl⟩ rfl rfl (Nat.le_of_ble_eq_true rfl) rfl ?_
  refine z_istore [(4, .int r1), (0, .ref 0), (1, .int a1), (2, .int a2), (3, .int a3)] B 4 rfl (by decide) rfl ?_
  refine z_aload_n B 5 rfl 0 1 rfl rfl ?_
  refine z_getr 7 1 0 B 6 rfl ob_0 rfl (iX7_addPoint _ (List.mem_of_getElem? (i := 3) rfl)) rfl ?_
  refine z_bipush 7 B 7 rfl (by decide) ?_
  refine z_bipush 12 B 8 rfl (by decide) ?_
  refine z_iload_n B 9 rfl 1 2 rfl rfl ?_
  refine z_imul B 10 rfl ?_
  refine z_iadd B 11 rfl ?_
  refine z_iconst 4 B 12 rfl (by decide) ?_
  refine z_iadd B 13 rfl ?_
  refine z_iconst 2 B 14 rfl (by decide) ?_
  refine z_iload B 15 rfl 0 rfl ?_
  refine z_imul B 16 rfl ?_
  refine z_iadd B 17 rfl ?_
  refine z_iload_n B 18 rfl 2 3 rfl rfl ?_
  obtain ⟨hx, hf⟩ := rdc_e hf
  refine z_iast B 19 rfl ob_1 hx ?_
  obtain ⟨m2, ex, hf⟩ := nm_x hf
  refine z_mem ex ?_
  refine z_aload_n B 20 rfl 0 1 rfl rfl ?_
  refine z_getr 7 1 0 B 21 rfl ob_0 rfl (iX7_addPoint _ (List.mem_of_getElem? (i := 3) rfl)) rfl ?_
  refine z_bipush 7 B 22 rfl (by decide) ?_
  refine z_bipush 12 B 23 rfl (by decide) ?_
  refine z_iload_n B 24 rfl 1 2 rfl rfl ?_
  refine z_imul B 25 rfl ?_
  refine z_iadd B 26 rfl ?_
  refine z_iconst 5 B 27 rfl (by decide) ?_
  refine z_iadd B 28 rfl ?_
  refine z_iconst 2 B 29 rfl (by decide) ?_
  refine z_iload B 30 rfl 0 rfl ?_
  refine z_imul B 31 rfl ?_
  refine z_iadd B 32 rfl ?_
  refine z_iload_n B 33 rfl 3 4 rfl rfl ?_
  obtain ⟨hx, hf⟩ := rdc_e hf
  refine z_iast B 34 rfl ob_1 hx ?_
  obtain ⟨m3, ex, hf⟩ := nm_x hf
  refine z_mem ex ?_
  refine z_aload_n B 35 rfl 0 1 rfl rfl ?_
  refine z_getr 7 1 0 B 36 rfl ob_0 rfl (iX7_addPoint _ (List.mem_of_getElem? (i := 3) rfl)) rfl ?_
  refine z_bipush 7 B 37 rfl (by decide) ?_
  refine z_bipush 12 B 38 rfl (by decide) ?_
  refine z_iload_n B 39 rfl 1 2 rfl rfl ?_
  refine z_imul B 40 rfl ?_
  refine z_iadd B 41 rfl ?_
  refine z_iconst 3 B 42 rfl (by decide) ?_
  refine z_iadd B 43 rfl ?_
  refine z_dup2 B 44 rfl rfl rfl ?_
  obtain ⟨hx, hf⟩ := rdc_e hf
  refine z_iald B 45 rfl ob_1 hx ?_
  obtain ⟨v4, ex, hf⟩ := nm_x hf
  refine z_top ex ?_
  refine z_iconst 1 B 46 rfl (by decide) ?_
  refine z_iadd B 47 rfl ?_
  obtain ⟨hx, hf⟩ := rdc_e hf
  refine z_iast B 48 rfl ob_1 hx ?_
  obtain ⟨m5, ex, hf⟩ := nm_x hf
  refine z_mem ex ?_
  cases hf
  exact z_vret B 49 rfl hQ hr
/-! ZoneCapacityModel.point(III)I -/
def tbX7_point : Tb := [(0, .aload_n 0, 1, 1), (1, .iconst 0, 1, 2), (2, .putfield 50, 3, 5), (5, .aload_n 0, 1, 6), (6, .iload_n 1, 1, 7), (7, .invokevirtual 117, 3, 10), (10, .ifCond .eq 23, 3, 13), (13, .aload_n 0, 1, 14), (14, .iload_n 1, 1, 15), (15, .iconst 3, 1, 16), (16, .invokevirtual 58, 3, 19), (19, .iconst 4, 1, 20), (20, .if_icmp .eq 13, 3, 23), (23, .aload_n 0, 1, 24), (24, .iload_n 1, 1, 25), (25, .iload_n 2, 1, 26), (26, .iload_n 3, 1, 27), (27, .invokevirtual 124, 3, 30), (30, .ifCond .ne 5, 3, 33), (33, .iconst (-1), 1, 34), (34, .ireturn, 1, 35), (35, .aload_n 0, 1, 36), (36, .iload_n 1, 1, 37), (37, .iload_n 2, 1, 38), (38, .iload_n 3, 1, 39), (39, .invokevirtual 127, 3, 42), (42, .aload_n 0, 1, 43), (43, .iload_n 1, 1, 44), (44, .iconst 3, 1, 45), (45, .invokevirtual 58, 3, 48), (48, .ireturn, 1, 49)]
theorem dtX7_point : ∀ q ∈ tbX7_point, decode cX7_point q.1 = .ok (q.2.1, q.2.2.1) ∧ q.1 + q.2.2.1 = q.2.2.2 := by decide +kernel
theorem miX7_point : MI yX7_point cX7_point 4 (some .int) 3 := ⟨tw_mem (List.mem_of_getElem? (i := 1030) (by decide +kernel)) rfl, by decide, by decide +kernel, tw_mem (List.mem_of_getElem? (i := 78) (by decide +kernel)) rfl⟩
abbrev rmX7_point : Room := { frames := 2, cells := 0, slots := 0, locals := 46 }
def wX7_point : List Cond := [.fieldLink "ZoneCapacityModel" 50 "ZoneCapacityModel" "raised" "I", .methodLink "ZoneCapacityModel" 117 yX7_isZone, .instanceMethod yX7_isZone, .selects "ZoneCapacityModel" yX7_isZone yX7_isZone, .methodLink "ZoneCapacityModel" 58 yX7_ofZone, .instanceMethod yX7_ofZone, .selects "ZoneCapacityModel" yX7_ofZone yX7_ofZone, .methodLink "ZoneCapacityModel" 124 yX7_canPoint, .instanceMethod yX7_canPoint, .selects "ZoneCapacityModel" yX7_canPoint yX7_canPoint, .methodLink "ZoneCapacityModel" 127 yX7_addPoint, .instanceMethod yX7_addPoint, .selects "ZoneCapacityModel" yX7_addPoint yX7_addPoint]
theorem iX7_point : ∀ w ∈ wX7_point, w ∈ TW := tw_of (ids := [938, 1017, 1019, 25, 1031, 1033, 26, 1035, 1037, 27, 1047, 1049, 30]) (by decide +kernel)
def f7_point (mm : Mem) (a1 : Int32) (a2 : Int32) (a3 : Int32) : Option (Int32 × Mem) := nm (up2 mm 0 0 (0 : Int32)) (fun m1 => bd (f7_isZone m1 a1) (fun r2 => if r2 = 0 then some ((-1 : Int32), m1) else bd (f7_ofZone m1 a1 (3 : Int32)) (fun r3 => if r3 = (4 : Int32) then some ((-1 : Int32), m1) else bd (f7_canPoint m1 a1 a2 a3) (fun r4 => if r4 = 0 then some ((-1 : Int32), m1) else bd (f7_addPoint m1 a1 a2 a3) (fun r5 => bd (f7_ofZone r5 a1 (3 : Int32)) (fun r6 => some (r6, r5)))))))
theorem ctX7_point {l : Launch} {C : Cfg} (hj : Dj C) {mm : Mem} {a1 : Int32} {a2 : Int32} {a3 : Int32} {x : (Int32 × Mem)} (hf : f7_point mm a1 a2 a3 = some x) : Ct l C yX7_point cX7_point 4 (some .int) 2 46 [.ref 0, .int a1, .int a2, .int a3] mm (some (.int x.1)) x.2 := by
  refine Ct.of (tb := tbX7_point) hj miX7_point.2.1 miX7_point.1 dtX7_point (Nat.le_of_ble_eq_true rfl) ?_
  intro E B hQ hr X
  unfold f7_point at hf
  show G E 4 0 [(0, .ref 0), (1, .int a1), (2, .int a2), (3, .int a3)] [] mm
  refine z_aload_n B 0 rfl 0 0 rfl rfl ?_
  refine z_iconst 0 B 1 rfl (by decide) ?_
  refine z_puti 7 0 0 B 2 rfl ob_0 rfl (iX7_point _ (List.mem_of_getElem? (i := 0) rfl)) rfl (ty := .int) (by decide) rfl rfl rfl ?_
  obtain ⟨m1, ex, hf⟩ := nm_x hf
  refine z_mem ex ?_
  refine z_aload_n B 3 rfl 0 0 rfl rfl ?_
  refine z_iload_n B 4 rfl 1 1 rfl rfl ?_
  obtain ⟨r2, ec, hf⟩ := bd_e hf
  refine z_callV 0 7 [.int a1] [] [.int r2] X B 5 rfl ob_0 rfl rfl miX7_isZone ⟨(iX7_point _ (List.mem_of_getElem? (i := 1) rfl)), (iX7_point _ (List.mem_of_getElem? (i := 2) rfl)), (iX7_point _ (List.mem_of_getElem? (i := 3) rfl))⟩ (ctX7_isZone hj ec) ⟨Nat.le_of_ble_eq_true rfl, Nat.le_of_ble_eq_true rfl⟩ rfl rfl (Nat.le_of_ble_eq_true rfl) rfl ?_
  by_cases hc : r2 = 0
  · replace hf := (if_pos hc).symm.trans hf
    refine z_if_eq_t B 6 rfl 33 (by decide) hc ?_
    refine z_iconst (-1) B 19 rfl (by decide) ?_
    cases hf
    exact z_iret B 20 rfl rfl hQ hr
  · replace hf := (if_neg hc).symm.trans hf
    refine z_if_eq_f B 6 rfl 33 (by decide) hc ?_
    refine z_aload_n B 7 rfl 0 0 rfl rfl ?_
    refine z_iload_n B 8 rfl 1 1 rfl rfl ?_
    refine z_iconst 3 B 9 rfl (by decide) ?_
    obtain ⟨r3, ec, hf⟩ := bd_e hf
    refine z_callV 0 7 [.int a1, .int (3 : Int32)] [] [.int r3] X B 10 rfl ob_0 rfl rfl miX7_ofZone ⟨(iX7_point _ (List.mem_of_getElem? (i := 4) rfl)), (iX7_point _ (List.mem_of_getElem? (i := 5) rfl)), (iX7_point _ (List.mem_of_getElem? (i := 6) rfl))⟩ (ctX7_ofZone hj ec) ⟨Nat.le_of_ble_eq_true rfl, Nat.le_of_ble_eq_true rfl⟩ rfl rfl (Nat.le_of_ble_eq_true rfl) rfl ?_
    refine z_iconst 4 B 11 rfl (by decide) ?_
    by_cases hc : r3 = (4 : Int32)
    · replace hf := (if_pos hc).symm.trans hf
      refine z_icmp_eq_t B 12 rfl 33 (by decide) hc ?_
      refine z_iconst (-1) B 19 rfl (by decide) ?_
      cases hf
      exact z_iret B 20 rfl rfl hQ hr
    · replace hf := (if_neg hc).symm.trans hf
      refine z_icmp_eq_f B 12 rfl 33 (by decide) hc ?_
      refine z_aload_n B 13 rfl 0 0 rfl rfl ?_
      refine z_iload_n B 14 rfl 1 1 rfl rfl ?_
      refine z_iload_n B 15 rfl 2 2 rfl rfl ?_
      refine z_iload_n B 16 rfl 3 3 rfl rfl ?_
      obtain ⟨r4, ec, hf⟩ := bd_e hf
      refine z_callV 0 7 [.int a1, .int a2, .int a3] [] [.int r4] X B 17 rfl ob_0 rfl rfl miX7_canPoint ⟨(iX7_point _ (List.mem_of_getElem? (i := 7) rfl)), (iX7_point _ (List.mem_of_getElem? (i := 8) rfl)), (iX7_point _ (List.mem_of_getElem? (i := 9) rfl))⟩ (ctX7_canPoint hj ec) ⟨Nat.le_of_ble_eq_true rfl, Nat.le_of_ble_eq_true rfl⟩ rfl rfl (Nat.le_of_ble_eq_true rfl) rfl ?_
      by_cases hc : r4 = 0
      · replace hf := (if_pos hc).symm.trans hf
        refine z_if_ne_f B 18 rfl 35 (by decide) hc ?_
        refine z_iconst (-1) B 19 rfl (by decide) ?_
        cases hf
        exact z_iret B 20 rfl rfl hQ hr
      · replace hf := (if_neg hc).symm.trans hf
        refine z_if_ne_t B 18 rfl 35 (by decide) hc ?_
        refine z_aload_n B 21 rfl 0 0 rfl rfl ?_
        refine z_iload_n B 22 rfl 1 1 rfl rfl ?_
        refine z_iload_n B 23 rfl 2 2 rfl rfl ?_
        refine z_iload_n B 24 rfl 3 3 rfl rfl ?_
        obtain ⟨r5, ec, hf⟩ := bd_e hf
        refine z_callV 0 7 [.int a1, .int a2, .int a3] [] [] X B 25 rfl ob_0 rfl rfl miX7_addPoint ⟨(iX7_point _ (List.mem_of_getElem? (i := 10) rfl)), (iX7_point _ (List.mem_of_getElem? (i := 11) rfl)), (iX7_point _ (List.mem_of_getElem? (i := 12) rfl))⟩ (ctX7_addPoint hj ec) ⟨Nat.le_of_ble_eq_true rfl, Nat.le_of_ble_eq_true rfl⟩ rfl rfl (Nat.le_of_ble_eq_true rfl) rfl ?_
        refine z_aload_n B 26 rfl 0 0 rfl rfl ?_
        refine z_iload_n B 27 rfl 1 1 rfl rfl ?_
        refine z_iconst 3 B 28 rfl (by decide) ?_
        obtain ⟨r6, ec, hf⟩ := bd_e hf
        refine z_callV 0 7 [.int a1, .int (3 : Int32)] [] [.int r6] X B 29 rfl ob_0 rfl rfl miX7_ofZone ⟨(iX7_point _ (List.mem_of_getElem? (i := 4) rfl)), (iX7_point _ (List.mem_of_getElem? (i := 5) rfl)), (iX7_point _ (List.mem_of_getElem? (i := 6) rfl))⟩ (ctX7_ofZone hj ec) ⟨Nat.le_of_ble_eq_true rfl, Nat.le_of_ble_eq_true rfl⟩ rfl rfl (Nat.le_of_ble_eq_true rfl) rfl ?_
        cases hf
        exact z_iret B 30 rfl rfl hQ hr
/-! ZoneCapacityModel.addResource(IIIIII)I -/
def tbX7_addResource : Tb := [(0, .aload_n 0, 1, 1), (1, .getfield 7, 3, 4), (4, .iconst 1, 1, 5), (5, .iaload, 1, 6), (6, .istore 7, 2, 8), (8, .bipush 79, 2, 10), (10, .bipush 13, 2, 12), (12, .iload 7, 2, 14), (14, .imul, 1, 15), (15, .iadd, 1, 16), (16, .istore 8, 2, 18), (18, .aload_n 0, 1, 19), (19, .getfield 7, 3, 22), (22, .iload 8, 2, 24), (24, .iload_n 1, 1, 25), (25, .iastore, 1, 26), (26, .aload_n 0, 1, 27), (27, .getfield 7, 3, 30), (30, .iload 8, 2, 32), (32, .iconst 1, 1, 33), (33, .iadd, 1, 34), (34, .iload_n 2, 1, 35), (35, .iastore, 1, 36), (36, .aload_n 0, 1, 37), (37, .getfield 7, 3, 40), (40, .iload 8, 2, 42), (42, .iconst 2, 1, 43), (43, .iadd, 1, 44), (44, .iload_n 3, 1, 45), (45, .iastore, 1, 46), (46, .aload_n 0, 1, 47), (47, .getfield 7, 3, 50), (50, .iload 8, 2, 52), (52, .iconst 3, 1, 53), (53, .iadd, 1, 54), (54, .iload 4, 2, 56), (56, .iastore, 1, 57), (57, .aload_n 0, 1, 58), (58, .getfield 7, 3, 61), (61, .iload 8, 2, 63), (63, .iconst 4, 1, 64), (64, .iadd, 1, 65), (65, .iload 5, 2, 67), (67, .iastore, 1, 68), (68, .aload_n 0, 1, 69), (69, .getfield 7, 3, 72), (72, .iload 8, 2, 74), (74, .iconst 5, 1, 75), (75, .iadd, 1, 76), (76, .iload 6, 2, 78), (78, .iastore, 1, 79), (79, .aload_n 0, 1, 80), (80, .getfield 7, 3, 83), (83, .iload 8, 2, 85), (85, .bipush 6, 2, 87), (87, .iadd, 1, 88), (88, .iconst 0, 1, 89), (89, .iastore, 1, 90), (90, .aload_n 0, 1, 91), (91, .getfield 7, 3, 94), (94, .iconst 1, 1, 95), (95, .dup2, 1, 96), (96, .iaload, 1, 97), (97, .iconst 1, 1, 98), (98, .iadd, 1, 99), (99, .iastore, 1, 100), (100, .iload 7, 2, 102), (102, .ireturn, 1, 103)]
theorem dtX7_addResource : ∀ q ∈ tbX7_addResource, decode cX7_addResource q.1 = .ok (q.2.1, q.2.2.1) ∧ q.1 + q.2.2.1 = q.2.2.2 := by decide +kernel
theorem miX7_addResource : MI yX7_addResource cX7_addResource 9 (some .int) 6 := ⟨tw_mem (List.mem_of_getElem? (i := 1058) (by decide +kernel)) rfl, by decide, by decide +kernel, tw_mem (List.mem_of_getElem? (i := 78) (by decide +kernel)) rfl⟩
abbrev rmX7_addResource : Room := { frames := 0, cells := 0, slots := 0, locals := 0 }
def wX7_addResource : List Cond := [.fieldLink "ZoneCapacityModel" 7 "ZoneCapacityModel" "w" "[I"]
theorem iX7_addResource : ∀ w ∈ wX7_addResource, w ∈ TW := tw_of (ids := [939]) (by decide +kernel)
def f7_addResource (mm : Mem) (a1 : Int32) (a2 : Int32) (a3 : Int32) (a4 : Int32) (a5 : Int32) (a6 : Int32) : Option (Int32 × Mem) := rdc 1 (1 : Int32) (nm (mm 1 (1 : Int32).toNatClampNeg) (fun v1 => nm ((79 : Int32) + ((13 : Int32) * v1)) (fun v2 => rdc 1 v2 (nm (up2 mm 1 v2.toNatClampNeg a1) (fun m3 => rdc 1 (v2 + (1 : Int32)) (nm (up2 m3 1 (v2 + (1 : Int32)).toNatClampNeg a2) (fun m4 => rdc 1 (v2 + (2 : Int32)) (nm (up2 m4 1 (v2 + (2 : Int32)).toNatClampNeg a3) (fun m5 => rdc 1 (v2 + (3 : Int32)) (nm (up2 m5 1 (v2 + (3 : Int32)).toNatClampNeg a4) (fun m6 => rdc 1 (v2 + (4 : Int32)) (nm (up2 m6 1 (v2 + (4 : Int32)).toNatClampNeg a5) (fun m7 => rdc 1 (v2 + (5 : Int32)) (nm (up2 m7 1 (v2 + (5 : Int32)).toNatClampNeg a6) (fun m8 => rdc 1 (v2 + (6 : Int32)) (nm (up2 m8 1 (v2 + (6 : Int32)).toNatClampNeg (0 : Int32)) (fun m9 => rdc 1 (1 : Int32) (nm (m9 1 (1 : Int32).toNatClampNeg) (fun v10 => rdc 1 (1 : Int32) (nm (up2 m9 1 (1 : Int32).toNatClampNeg (v10 + (1 : Int32))) (fun m11 => some (v1, m11))))))))))))))))))))))
theorem ctX7_addResource {l : Launch} {C : Cfg} (hj : Dj C) {mm : Mem} {a1 : Int32} {a2 : Int32} {a3 : Int32} {a4 : Int32} {a5 : Int32} {a6 : Int32} {x : (Int32 × Mem)} (hf : f7_addResource mm a1 a2 a3 a4 a5 a6 = some x) : Ct l C yX7_addResource cX7_addResource 9 (some .int) 0 0 [.ref 0, .int a1, .int a2, .int a3, .int a4, .int a5, .int a6] mm (some (.int x.1)) x.2 := by
  refine Ct.of (tb := tbX7_addResource) hj miX7_addResource.2.1 miX7_addResource.1 dtX7_addResource (Nat.le_of_ble_eq_true rfl) ?_
  intro E B hQ hr X
  unfold f7_addResource at hf
  show G E 9 0 [(0, .ref 0), (1, .int a1), (2, .int a2), (3, .int a3), (4, .int a4), (5, .int a5), (6, .int a6)] [] mm
  refine z_aload_n B 0 rfl 0 0 rfl rfl ?_
  refine z_getr 7 1 0 B 1 rfl ob_0 rfl (iX7_addResource _ (List.mem_of_getElem? (i := 0) rfl)) rfl ?_
  refine z_iconst 1 B 2 rfl (by decide) ?_
  obtain ⟨hx, hf⟩ := rdc_e hf
  refine z_iald B 3 rfl ob_1 hx ?_
  obtain ⟨v1, ex, hf⟩ := nm_x hf
  refine z_top ex ?_
  refine z_istore [(7, .int v1), (0, .ref 0), (1, .int a1), (2, .int a2), (3, .int a3), (4, .int a4), (5, .int a5), (6, .int a6)] B 4 rfl (by decide) rfl ?_
  refine z_bipush 79 B 5 rfl (by decide) ?_
  refine z_bipush 13 B 6 rfl (by decide) ?_
  refine z_iload B 7 rfl 0 rfl ?_
  refine z_imul B 8 rfl ?_
  refine z_iadd B 9 rfl ?_
  obtain ⟨v2, ex, hf⟩ := nm_x hf
  refine z_top ex ?_
  refine z_istore [(8, .int v2), (7, .int v1), (0, .ref 0), (1, .int a1), (2, .int a2), (3, .int a3), (4, .int a4), (5, .int a5), (6, .int a6)] B 10 rfl (by decide) rfl ?_
  refine z_aload_n B 11 rfl 0 2 rfl rfl ?_
  refine z_getr 7 1 0 B 12 rfl ob_0 rfl (iX7_addResource _ (List.mem_of_getElem? (i := 0) rfl)) rfl ?_
  refine z_iload B 13 rfl 0 rfl ?_
  refine z_iload_n B 14 rfl 1 3 rfl rfl ?_
  obtain ⟨hx, hf⟩ := rdc_e hf
  refine z_iast B 15 rfl ob_1 hx ?_
  obtain ⟨m3, ex, hf⟩ := nm_x hf
  refine z_mem ex ?_
  refine z_aload_n B 16 rfl 0 2 rfl rfl ?_
  refine z_getr 7 1 0 B 17 rfl ob_0 rfl (iX7_addResource _ (List.mem_of_getElem? (i := 0) rfl)) rfl ?_
  refine z_iload B 18 rfl 0 rfl ?_
  refine z_iconst 1 B 19 rfl (by decide) ?_
  refine z_iadd B 20 rfl ?_
  refine z_iload_n B 21 rfl 2 4 rfl rfl ?_
  obtain ⟨hx, hf⟩ := rdc_e hf
  refine z_iast B 22 rfl ob_1 hx ?_
  obtain ⟨m4, ex, hf⟩ := nm_x hf
  refine z_mem ex ?_
  refine z_aload_n B 23 rfl 0 2 rfl rfl ?_
  refine z_getr 7 1 0 B 24 rfl ob_0 rfl (iX7_addResource _ (List.mem_of_getElem? (i := 0) rfl)) rfl ?_
  refine z_iload B 25 rfl 0 rfl ?_
  refine z_iconst 2 B 26 rfl (by decide) ?_
  refine z_iadd B 27 rfl ?_
  refine z_iload_n B 28 rfl 3 5 rfl rfl ?_
  obtain ⟨hx, hf⟩ := rdc_e hf
  refine z_iast B 29 rfl ob_1 hx ?_
  obtain ⟨m5, ex, hf⟩ := nm_x hf
  refine z_mem ex ?_
  refine z_aload_n B 30 rfl 0 2 rfl rfl ?_
  refine z_getr 7 1 0 B 31 rfl ob_0 rfl (iX7_addResource _ (List.mem_of_getElem? (i := 0) rfl)) rfl ?_
  refine z_iload B 32 rfl 0 rfl ?_
  refine z_iconst 3 B 33 rfl (by decide) ?_
  refine z_iadd B 34 rfl ?_
  refine z_iload B 35 rfl 6 rfl ?_
  obtain ⟨hx, hf⟩ := rdc_e hf
  refine z_iast B 36 rfl ob_1 hx ?_
  obtain ⟨m6, ex, hf⟩ := nm_x hf
  refine z_mem ex ?_
  refine z_aload_n B 37 rfl 0 2 rfl rfl ?_
  refine z_getr 7 1 0 B 38 rfl ob_0 rfl (iX7_addResource _ (List.mem_of_getElem? (i := 0) rfl)) rfl ?_
  refine z_iload B 39 rfl 0 rfl ?_
  refine z_iconst 4 B 40 rfl (by decide) ?_
  refine z_iadd B 41 rfl ?_
  refine z_iload B 42 rfl 7 rfl ?_
  obtain ⟨hx, hf⟩ := rdc_e hf
  refine z_iast B 43 rfl ob_1 hx ?_
  obtain ⟨m7, ex, hf⟩ := nm_x hf
  refine z_mem ex ?_
  refine z_aload_n B 44 rfl 0 2 rfl rfl ?_
  refine z_getr 7 1 0 B 45 rfl ob_0 rfl (iX7_addResource _ (List.mem_of_getElem? (i := 0) rfl)) rfl ?_
  refine z_iload B 46 rfl 0 rfl ?_
  refine z_iconst 5 B 47 rfl (by decide) ?_
  refine z_iadd B 48 rfl ?_
  refine z_iload B 49 rfl 8 rfl ?_
  obtain ⟨hx, hf⟩ := rdc_e hf
  refine z_iast B 50 rfl ob_1 hx ?_
  obtain ⟨m8, ex, hf⟩ := nm_x hf
  refine z_mem ex ?_
  refine z_aload_n B 51 rfl 0 2 rfl rfl ?_
  refine z_getr 7 1 0 B 52 rfl ob_0 rfl (iX7_addResource _ (List.mem_of_getElem? (i := 0) rfl)) rfl ?_
  refine z_iload B 53 rfl 0 rfl ?_
  refine z_bipush 6 B 54 rfl (by decide) ?_
  refine z_iadd B 55 rfl ?_
  refine z_iconst 0 B 56 rfl (by decide) ?_
  obtain ⟨hx, hf⟩ := rdc_e hf
  refine z_iast B 57 rfl ob_1 hx ?_
  obtain ⟨m9, ex, hf⟩ := nm_x hf
  refine z_mem ex ?_
  refine z_aload_n B 58 rfl 0 2 rfl rfl ?_
  refine z_getr 7 1 0 B 59 rfl ob_0 rfl (iX7_addResource _ (List.mem_of_getElem? (i := 0) rfl)) rfl ?_
  refine z_iconst 1 B 60 rfl (by decide) ?_
  refine z_dup2 B 61 rfl rfl rfl ?_
  obtain ⟨hx, hf⟩ := rdc_e hf
  refine z_iald B 62 rfl ob_1 hx ?_
  obtain ⟨v10, ex, hf⟩ := nm_x hf
  refine z_top ex ?_
  refine z_iconst 1 B 63 rfl (by decide) ?_
  refine z_iadd B 64 rfl ?_
  obtain ⟨hx, hf⟩ := rdc_e hf
  refine z_iast B 65 rfl ob_1 hx ?_
  obtain ⟨m11, ex, hf⟩ := nm_x hf
  refine z_mem ex ?_
  refine z_iload B 66 rfl 1 rfl ?_
  cases hf
  exact z_iret B 67 rfl rfl hQ hr
/-! ZoneCapacityModel.resource(IIIIZ)I -/
def tbX7_resource : Tb := [(0, .aload_n 0, 1, 1), (1, .iconst 0, 1, 2), (2, .putfield 50, 3, 5), (5, .aload_n 0, 1, 6), (6, .getfield 7, 3, 9), (9, .iconst 1, 1, 10), (10, .iaload, 1, 11), (11, .bipush 12, 2, 13), (13, .if_icmp .eq 41, 3, 16), (16, .aload_n 0, 1, 17), (17, .iload_n 1, 1, 18), (18, .invokevirtual 117, 3, 21), (21, .ifCond .eq 33, 3, 24), (24, .iload_n 2, 1, 25), (25, .iconst 1, 1, 26), (26, .sipush 500, 3, 29), (29, .invokestatic 54, 3, 32), (32, .ifCond .eq 22, 3, 35), (35, .iload_n 3, 1, 36), (36, .iconst 0, 1, 37), (37, .iconst 3, 1, 38), (38, .invokestatic 54, 3, 41), (41, .ifCond .eq 13, 3, 44), (44, .iload 4, 2, 46), (46, .iconst 0, 1, 47), (47, .iconst 5, 1, 48), (48, .invokestatic 54, 3, 51), (51, .ifCond .ne 5, 3, 54), (54, .iconst (-1), 1, 55), (55, .ireturn, 1, 56), (56, .aload_n 0, 1, 57), (57, .iload_n 1, 1, 58), (58, .iload_n 2, 1, 59), (59, .iload_n 3, 1, 60), (60, .iload 4, 2, 62), (62, .iload 5, 2, 64), (64, .ifCond .eq 7, 3, 67), (67, .iconst 1, 1, 68), (68, .goto 4, 3, 71), (71, .iconst 0, 1, 72), (72, .iconst 0, 1, 73), (73, .invokevirtual 131, 3, 76), (76, .ireturn, 1, 77)]
theorem dtX7_resource : ∀ q ∈ tbX7_resource, decode cX7_resource q.1 = .ok (q.2.1, q.2.2.1) ∧ q.1 + q.2.2.1 = q.2.2.2 := by decide +kernel
theorem miX7_resource : MI yX7_resource cX7_resource 6 (some .int) 5 := ⟨tw_mem (List.mem_of_getElem? (i := 1054) (by decide +kernel)) rfl, by decide, by decide +kernel, tw_mem (List.mem_of_getElem? (i := 78) (by decide +kernel)) rfl⟩
abbrev rmX7_resource : Room := { frames := 2, cells := 0, slots := 0, locals := 43 }
def wX7_resource : List Cond := [.fieldLink "ZoneCapacityModel" 50 "ZoneCapacityModel" "raised" "I", .fieldLink "ZoneCapacityModel" 7 "ZoneCapacityModel" "w" "[I", .methodLink "ZoneCapacityModel" 117 yX7_isZone, .instanceMethod yX7_isZone, .selects "ZoneCapacityModel" yX7_isZone yX7_isZone, .methodLink "ZoneCapacityModel" 54 yX7_in, .static yX7_in, .methodLink "ZoneCapacityModel" 131 yX7_addResource, .instanceMethod yX7_addResource, .selects "ZoneCapacityModel" yX7_addResource yX7_addResource]
theorem iX7_resource : ∀ w ∈ wX7_resource, w ∈ TW := tw_of (ids := [938, 939, 1017, 1019, 25, 1021, 1022, 1055, 1057, 31]) (by decide +kernel)
def f7_resource_j72 (s0 : Int32) (s1 : Int32) (s2 : Int32) (s3 : Int32) (s4 : Int32) (mm : Mem) : Option (Int32 × Mem) := bd (f7_addResource mm s4 s3 s2 s1 s0 (0 : Int32)) (fun r7 => some (r7.1, r7.2))
theorem f7_resource_j72_ok {E : Ev} {l : Launch} {C : Cfg} {x : (Int32 × Mem)} (hj : Dj C) (X : Ec E l C rmX7_resource) (B : Bx E RX7 tbX7_resource 6 (some .int)) (hQ : Rt E) (hr : Rs E (some (.int x.1)) x.2) (s0 : Int32) (s1 : Int32) (s2 : Int32) (s3 : Int32) (s4 : Int32) (mm : Mem) (hf : f7_resource_j72 s0 s1 s2 s3 s4 mm = some x) : G E 6 72 [] [.int s0, .int s1, .int s2, .int s3, .int s4, .ref 0] mm := by
  unfold f7_resource_j72 at hf
  refine z_iconst 0 B 40 rfl (by decide) ?_
  obtain ⟨r7, ec, hf⟩ := bd_e hf
  refine z_callV 0 7 [.int s4, .int s3, .int s2, .int s1, .int s0, .int (0 : Int32)] [] [.int r7.1] X B 41 rfl ob_0 rfl rfl miX7_addResource ⟨(iX7_resource _ (List.mem_of_getElem? (i := 7) rfl)), (iX7_resource _ (List.mem_of_getElem? (i := 8) rfl)), (iX7_resource _ (List.mem_of_getElem? (i := 9) rfl))⟩ (ctX7_addResource hj ec) ⟨Nat.le_of_ble_eq_true rfl, Nat.le_of_ble_eq_true rfl⟩ rfl rfl (Nat.le_of_ble_eq_true rfl) rfl ?_
  cases hf
  exact z_iret B 42 rfl rfl hQ hr
def f7_resource (mm : Mem) (a1 : Int32) (a2 : Int32) (a3 : Int32) (a4 : Int32) (a5 : Int32) : Option (Int32 × Mem) := nm (up2 mm 0 0 (0 : Int32)) (fun m1 => rdc 1 (1 : Int32) (nm (m1 1 (1 : Int32).toNatClampNeg) (fun v2 => if v2 = (12 : Int32) then some ((-1 : Int32), m1) else bd (f7_isZone m1 a1) (fun r3 => if r3 = 0 then some ((-1 : Int32), m1) else bd (f7_in m1 a2 (1 : Int32) (500 : Int32)) (fun r4 => if r4 = 0 then some ((-1 : Int32), m1) else bd (f7_in m1 a3 (0 : Int32) (3 : Int32)) (fun r5 => if r5 = 0 then some ((-1 : Int32), m1) else bd (f7_in m1 a4 (0 : Int32) (5 : Int32)) (fun r6 => if r6 = 0 then some ((-1 : Int32), m1) else if a5 = 0 then f7_resource_j72 (0 : Int32) a4 a3 a2 a1 m1 else f7_resource_j72 (1 : Int32) a4 a3 a2 a1 m1)))))))
theorem ctX7_resource {l : Launch} {C : Cfg} (hj : Dj C) {mm : Mem} {a1 : Int32} {a2 : Int32} {a3 : Int32} {a4 : Int32} {a5 : Int32} {x : (Int32 × Mem)} (hf : f7_resource mm a1 a2 a3 a4 a5 = some x) : Ct l C yX7_resource cX7_resource 6 (some .int) 2 43 [.ref 0, .int a1, .int a2, .int a3, .int a4, .int a5] mm (some (.int x.1)) x.2 := by
  refine Ct.of (tb := tbX7_resource) hj miX7_resource.2.1 miX7_resource.1 dtX7_resource (Nat.le_of_ble_eq_true rfl) ?_
  intro E B hQ hr X
  unfold f7_resource at hf
  show G E 6 0 [(0, .ref 0), (1, .int a1), (2, .int a2), (3, .int a3), (4, .int a4), (5, .int a5)] [] mm
  refine z_aload_n B 0 rfl 0 0 rfl rfl ?_
  refine z_iconst 0 B 1 rfl (by decide) ?_
  refine z_puti 7 0 0 B 2 rfl ob_0 rfl (iX7_resource _ (List.mem_of_getElem? (i := 0) rfl)) rfl (ty := .int) (by decide) rfl rfl rfl ?_
  obtain ⟨m1, ex, hf⟩ := nm_x hf
  refine z_mem ex ?_
  refine z_aload_n B 3 rfl 0 0 rfl rfl ?_
  refine z_getr 7 1 0 B 4 rfl ob_0 rfl (iX7_resource _ (List.mem_of_getElem? (i := 1) rfl)) rfl ?_
  refine z_iconst 1 B 5 rfl (by decide) ?_
  obtain ⟨hx, hf⟩ := rdc_e hf
  refine z_iald B 6 rfl ob_1 hx ?_
  obtain ⟨v2, ex, hf⟩ := nm_x hf
  refine z_top ex ?_
  refine z_bipush 12 B 7 rfl (by decide) ?_
  by_cases hc : v2 = (12 : Int32)
  · replace hf := (if_pos hc).symm.trans hf
    refine z_icmp_eq_t B 8 rfl 54 (by decide) hc ?_
    refine z_iconst (-1) B 28 rfl (by decide) ?_
    cases hf
    exact z_iret B 29 rfl rfl hQ hr
  · replace hf := (if_neg hc).symm.trans hf
    refine z_icmp_eq_f B 8 rfl 54 (by decide) hc ?_
    refine z_aload_n B 9 rfl 0 0 rfl rfl ?_
    refine z_iload_n B 10 rfl 1 1 rfl rfl ?_
    obtain ⟨r3, ec, hf⟩ := bd_e hf
    refine z_callV 0 7 [.int a1] [] [.int r3] X B 11 rfl ob_0 rfl rfl miX7_isZone ⟨(iX7_resource _ (List.mem_of_getElem? (i := 2) rfl)), (iX7_resource _ (List.mem_of_getElem? (i := 3) rfl)), (iX7_resource _ (List.mem_of_getElem? (i := 4) rfl))⟩ (ctX7_isZone hj ec) ⟨Nat.le_of_ble_eq_true rfl, Nat.le_of_ble_eq_true rfl⟩ rfl rfl (Nat.le_of_ble_eq_true rfl) rfl ?_
    by_cases hc : r3 = 0
    · replace hf := (if_pos hc).symm.trans hf
      refine z_if_eq_t B 12 rfl 54 (by decide) hc ?_
      refine z_iconst (-1) B 28 rfl (by decide) ?_
      cases hf
      exact z_iret B 29 rfl rfl hQ hr
    · replace hf := (if_neg hc).symm.trans hf
      refine z_if_eq_f B 12 rfl 54 (by decide) hc ?_
      refine z_iload_n B 13 rfl 2 2 rfl rfl ?_
      refine z_iconst 1 B 14 rfl (by decide) ?_
      refine z_sipush 500 B 15 rfl (by decide) ?_
      obtain ⟨r4, ec, hf⟩ := bd_e hf
      refine z_callS [.int a2, .int (1 : Int32), .int (500 : Int32)] [] [.int r4] X B 16 rfl miX7_in ⟨(iX7_resource _ (List.mem_of_getElem? (i := 5) rfl)), (iX7_resource _ (List.mem_of_getElem? (i := 6) rfl))⟩ (ctX7_in hj ec) ⟨Nat.le_of_ble_eq_true rfl, Nat.le_of_ble_eq_true rfl⟩ rfl rfl (Nat.le_of_ble_eq_true rfl) rfl ?_
      by_cases hc : r4 = 0
      · replace hf := (if_pos hc).symm.trans hf
        refine z_if_eq_t B 17 rfl 54 (by decide) hc ?_
        refine z_iconst (-1) B 28 rfl (by decide) ?_
        cases hf
        exact z_iret B 29 rfl rfl hQ hr
      · replace hf := (if_neg hc).symm.trans hf
        refine z_if_eq_f B 17 rfl 54 (by decide) hc ?_
        refine z_iload_n B 18 rfl 3 3 rfl rfl ?_
        refine z_iconst 0 B 19 rfl (by decide) ?_
        refine z_iconst 3 B 20 rfl (by decide) ?_
        obtain ⟨r5, ec, hf⟩ := bd_e hf
        refine z_callS [.int a3, .int (0 : Int32), .int (3 : Int32)] [] [.int r5] X B 21 rfl miX7_in ⟨(iX7_resource _ (List.mem_of_getElem? (i := 5) rfl)), (iX7_resource _ (List.mem_of_getElem? (i := 6) rfl))⟩ (ctX7_in hj ec) ⟨Nat.le_of_ble_eq_true rfl, Nat.le_of_ble_eq_true rfl⟩ rfl rfl (Nat.le_of_ble_eq_true rfl) rfl ?_
        by_cases hc : r5 = 0
        · replace hf := (if_pos hc).symm.trans hf
          refine z_if_eq_t B 22 rfl 54 (by decide) hc ?_
          refine z_iconst (-1) B 28 rfl (by decide) ?_
          cases hf
          exact z_iret B 29 rfl rfl hQ hr
        · replace hf := (if_neg hc).symm.trans hf
          refine z_if_eq_f B 22 rfl 54 (by decide) hc ?_
          refine z_iload B 23 rfl 4 rfl ?_
          refine z_iconst 0 B 24 rfl (by decide) ?_
          refine z_iconst 5 B 25 rfl (by decide) ?_
          obtain ⟨r6, ec, hf⟩ := bd_e hf
          refine z_callS [.int a4, .int (0 : Int32), .int (5 : Int32)] [] [.int r6] X B 26 rfl miX7_in ⟨(iX7_resource _ (List.mem_of_getElem? (i := 5) rfl)), (iX7_resource _ (List.mem_of_getElem? (i := 6) rfl))⟩ (ctX7_in hj ec) ⟨Nat.le_of_ble_eq_true rfl, Nat.le_of_ble_eq_true rfl⟩ rfl rfl (Nat.le_of_ble_eq_true rfl) rfl ?_
          by_cases hc : r6 = 0
          · replace hf := (if_pos hc).symm.trans hf
            refine z_if_ne_f B 27 rfl 56 (by decide) hc ?_
            refine z_iconst (-1) B 28 rfl (by decide) ?_
            cases hf
            exact z_iret B 29 rfl rfl hQ hr
          · replace hf := (if_neg hc).symm.trans hf
            refine z_if_ne_t B 27 rfl 56 (by decide) hc ?_
            refine z_aload_n B 30 rfl 0 0 rfl rfl ?_
            refine z_iload_n B 31 rfl 1 1 rfl rfl ?_
            refine z_iload_n B 32 rfl 2 2 rfl rfl ?_
            refine z_iload_n B 33 rfl 3 3 rfl rfl ?_
            refine z_iload B 34 rfl 4 rfl ?_
            refine z_iload B 35 rfl 5 rfl ?_
            by_cases hc : a5 = 0
            · replace hf := (if_pos hc).symm.trans hf
              refine z_if_eq_t B 36 rfl 71 (by decide) hc ?_
              refine z_iconst 0 B 39 rfl (by decide) ?_
              refine z_sub [] [] rfl ?_
              exact f7_resource_j72_ok hj X B hQ hr _ _ _ _ _ _ hf
            · replace hf := (if_neg hc).symm.trans hf
              refine z_if_eq_f B 36 rfl 71 (by decide) hc ?_
              refine z_iconst 1 B 37 rfl (by decide) ?_
              refine z_goto B 38 rfl 72 (by decide) ?_
              refine z_sub [] [] rfl ?_
              exact f7_resource_j72_ok hj X B hQ hr _ _ _ _ _ _ hf
/-! ZoneCapacityModel.stepped(I)I -/
def tbX7_stepped : Tb := [(0, .iconst 0, 1, 1), (1, .istore_n 2, 1, 2), (2, .iconst 0, 1, 3), (3, .istore_n 3, 1, 4), (4, .iload_n 3, 1, 5), (5, .aload_n 0, 1, 6), (6, .iload_n 1, 1, 7), (7, .bipush 6, 2, 9), (9, .invokevirtual 75, 3, 12), (12, .if_icmp .ge 18, 3, 15), (15, .iload_n 2, 1, 16), (16, .aload_n 0, 1, 17), (17, .iload_n 1, 1, 18), (18, .iload_n 3, 1, 19), (19, .invokevirtual 82, 3, 22), (22, .iadd, 1, 23), (23, .istore_n 2, 1, 24), (24, .iinc 3 1, 3, 27), (27, .goto (-23), 3, 30), (30, .iload_n 2, 1, 31), (31, .ireturn, 1, 32)]
theorem dtX7_stepped : ∀ q ∈ tbX7_stepped, decode cX7_stepped q.1 = .ok (q.2.1, q.2.2.1) ∧ q.1 + q.2.2.1 = q.2.2.2 := by decide +kernel
theorem miX7_stepped : MI yX7_stepped cX7_stepped 4 (some .int) 1 := ⟨tw_mem (List.mem_of_getElem? (i := 1074) (by decide +kernel)) rfl, by decide, by decide +kernel, tw_mem (List.mem_of_getElem? (i := 78) (by decide +kernel)) rfl⟩
abbrev rmX7_stepped : Room := { frames := 2, cells := 0, slots := 0, locals := 47 }
def wX7_stepped : List Cond := [.methodLink "ZoneCapacityModel" 75 yX7_ofResource, .instanceMethod yX7_ofResource, .selects "ZoneCapacityModel" yX7_ofResource yX7_ofResource, .methodLink "ZoneCapacityModel" 82 yX7_lineUnits, .instanceMethod yX7_lineUnits, .selects "ZoneCapacityModel" yX7_lineUnits yX7_lineUnits]
theorem iX7_stepped : ∀ w ∈ wX7_stepped, w ∈ TW := tw_of (ids := [1067, 1069, 33, 1075, 1077, 35]) (by decide +kernel)
def f7_stepped_l4 (mm : Mem) : Nat → Int32 → Int32 → Int32 → Option Int32
  | 0, _, _, _ => none
  | n + 1, x1, x2, x3 => bd (f7_ofResource mm x1 (6 : Int32)) (fun r1 => if x3 < r1 then bd (f7_lineUnits mm x1 x3) (fun r2 => nm (x2 + r2) (fun v3 => nm (x3 + 1) (fun v4 => f7_stepped_l4 mm n x1 v3 v4))) else some (x2))
theorem f7_stepped_l4_ok {E : Ev} {l : Launch} {C : Cfg} {mm : Mem} {x : Int32} (hj : Dj C) (X : Ec E l C rmX7_stepped) (B : Bx E RX7 tbX7_stepped 4 (some .int)) (hQ : Rt E) (hr : Rs E (some (.int x)) mm) (n : Nat) : ∀ (x1 : Int32) (x2 : Int32) (x3 : Int32), f7_stepped_l4 mm n x1 x2 x3 = some x → G E 4 4 [(0, .ref 0), (1, .int x1), (2, .int x2), (3, .int x3)] [] mm := by
  induction n with
  | zero =>
    intro x1 x2 x3 hf
    rw [f7_stepped_l4] at hf
    cases hf
  | succ n ih =>
    intro x1 x2 x3 hf
    rw [f7_stepped_l4] at hf
    refine z_iload_n B 4 rfl 3 3 rfl rfl ?_
    refine z_aload_n B 5 rfl 0 0 rfl rfl ?_
    refine z_iload_n B 6 rfl 1 1 rfl rfl ?_
    refine z_bipush 6 B 7 rfl (by decide) ?_
    obtain ⟨r1, ec, hf⟩ := bd_e hf
    refine z_callV 0 7 [.int x1, .int (6 : Int32)] [.int x3] [.int r1, .int x3] X B 8 rfl ob_0 rfl rfl miX7_ofResource ⟨(iX7_stepped _ (List.mem_of_getElem? (i := 0) rfl)), (iX7_stepped _ (List.mem_of_getElem? (i := 1) rfl)), (iX7_stepped _ (List.mem_of_getElem? (i := 2) rfl))⟩ (ctX7_ofResource hj ec) ⟨Nat.le_of_ble_eq_true rfl, Nat.le_of_ble_eq_true rfl⟩ rfl rfl (Nat.le_of_ble_eq_true rfl) rfl ?_
    by_cases hc : x3 < r1
    · replace hf := (if_pos hc).symm.trans hf
      refine z_icmp_ge_f B 9 rfl 30 (by decide) hc ?_
      refine z_iload_n B 10 rfl 2 2 rfl rfl ?_
      refine z_aload_n B 11 rfl 0 0 rfl rfl ?_
      refine z_iload_n B 12 rfl 1 1 rfl rfl ?_
      refine z_iload_n B 13 rfl 3 3 rfl rfl ?_
      obtain ⟨r2, ec, hf⟩ := bd_e hf
      refine z_callV 0 7 [.int x1, .int x3] [.int x2] [.int r2, .int x2] X B 14 rfl ob_0 rfl rfl miX7_lineUnits ⟨(iX7_stepped _ (List.mem_of_getElem? (i := 3) rfl)), (iX7_stepped _ (List.mem_of_getElem? (i := 4) rfl)), (iX7_stepped _ (List.mem_of_getElem? (i := 5) rfl))⟩ (ctX7_lineUnits hj ec) ⟨Nat.le_of_ble_eq_true rfl, Nat.le_of_ble_eq_true rfl⟩ rfl rfl (Nat.le_of_ble_eq_true rfl) rfl ?_
      refine z_iadd B 15 rfl ?_
      obtain ⟨v3, ex, hf⟩ := nm_x hf
      refine z_top ex ?_
      refine z_istore_n [(2, .int v3), (0, .ref 0), (1, .int x1), (3, .int x3)] B 16 rfl 2 rfl (by decide) rfl ?_
      obtain ⟨v4, ex, hf⟩ := nm_x hf
      refine z_iinc v4 [(3, .int v4), (2, .int v3), (0, .ref 0), (1, .int x1)] B 17 rfl 3 rfl (ex.symm) (by decide) rfl ?_
      refine z_goto B 18 rfl 4 (by decide) ?_
      refine z_sub [(0, .ref 0), (1, .int x1), (2, .int v3), (3, .int v4)] [2, 3, 1, 0] rfl ?_
      exact ih _ _ _ hf
    · replace hf := (if_neg hc).symm.trans hf
      refine z_icmp_ge_t B 9 rfl 30 (by decide) hc ?_
      refine z_iload_n B 19 rfl 2 2 rfl rfl ?_
      cases hf
      exact z_iret B 20 rfl rfl hQ hr
def f7_stepped (mm : Mem) (a1 : Int32) : Option Int32 := f7_stepped_l4 mm FU a1 (0 : Int32) (0 : Int32)
theorem ctX7_stepped {l : Launch} {C : Cfg} (hj : Dj C) {mm : Mem} {a1 : Int32} {x : Int32} (hf : f7_stepped mm a1 = some x) : Ct l C yX7_stepped cX7_stepped 4 (some .int) 2 47 [.ref 0, .int a1] mm (some (.int x)) mm := by
  refine Ct.of (tb := tbX7_stepped) hj miX7_stepped.2.1 miX7_stepped.1 dtX7_stepped (Nat.le_of_ble_eq_true rfl) ?_
  intro E B hQ hr X
  unfold f7_stepped at hf
  show G E 4 0 [(0, .ref 0), (1, .int a1)] [] mm
  refine z_iconst 0 B 0 rfl (by decide) ?_
  refine z_istore_n [(2, .int (0 : Int32)), (0, .ref 0), (1, .int a1)] B 1 rfl 2 rfl (by decide) rfl ?_
  refine z_iconst 0 B 2 rfl (by decide) ?_
  refine z_istore_n [(3, .int (0 : Int32)), (2, .int (0 : Int32)), (0, .ref 0), (1, .int a1)] B 3 rfl 3 rfl (by decide) rfl ?_
  refine z_sub [(0, .ref 0), (1, .int a1), (2, .int (0 : Int32)), (3, .int (0 : Int32))] [2, 3, 1, 0] rfl ?_
  exact f7_stepped_l4_ok hj X B hQ hr FU _ _ _ hf
/-! ZoneCapacityModel.addStep(III)V -/
def tbX7_addStep : Tb := [(0, .aload_n 0, 1, 1), (1, .iload_n 1, 1, 2), (2, .bipush 6, 2, 4), (4, .invokevirtual 75, 3, 7), (7, .istore 4, 2, 9), (9, .aload_n 0, 1, 10), (10, .getfield 7, 3, 13), (13, .bipush 79, 2, 15), (15, .bipush 13, 2, 17), (17, .iload_n 1, 1, 18), (18, .imul, 1, 19), (19, .iadd, 1, 20), (20, .bipush 7, 2, 22), (22, .iadd, 1, 23), (23, .iconst 2, 1, 24), (24, .iload 4, 2, 26), (26, .imul, 1, 27), (27, .iadd, 1, 28), (28, .iload_n 2, 1, 29), (29, .iastore, 1, 30), (30, .aload_n 0, 1, 31), (31, .getfield 7, 3, 34), (34, .bipush 79, 2, 36), (36, .bipush 13, 2, 38), (38, .iload_n 1, 1, 39), (39, .imul, 1, 40), (40, .iadd, 1, 41), (41, .bipush 8, 2, 43), (43, .iadd, 1, 44), (44, .iconst 2, 1, 45), (45, .iload 4, 2, 47), (47, .imul, 1, 48), (48, .iadd, 1, 49), (49, .iload_n 3, 1, 50), (50, .iastore, 1, 51), (51, .aload_n 0, 1, 52), (52, .getfield 7, 3, 55), (55, .bipush 79, 2, 57), (57, .bipush 13, 2, 59), (59, .iload_n 1, 1, 60), (60, .imul, 1, 61), (61, .iadd, 1, 62), (62, .bipush 6, 2, 64), (64, .iadd, 1, 65), (65, .dup2, 1, 66), (66, .iaload, 1, 67), (67, .iconst 1, 1, 68), (68, .iadd, 1, 69), (69, .iastore, 1, 70), (70, .return_, 1, 71)]
theorem dtX7_addStep : ∀ q ∈ tbX7_addStep, decode cX7_addStep q.1 = .ok (q.2.1, q.2.2.1) ∧ q.1 + q.2.2.1 = q.2.2.2 := by decide +kernel
theorem miX7_addStep : MI yX7_addStep cX7_addStep 5 none 3 := ⟨tw_mem (List.mem_of_getElem? (i := 1082) (by decide +kernel)) rfl, by decide, by decide +kernel, tw_mem (List.mem_of_getElem? (i := 78) (by decide +kernel)) rfl⟩
abbrev rmX7_addStep : Room := { frames := 1, cells := 0, slots := 0, locals := 22 }
def wX7_addStep : List Cond := [.methodLink "ZoneCapacityModel" 75 yX7_ofResource, .instanceMethod yX7_ofResource, .selects "ZoneCapacityModel" yX7_ofResource yX7_ofResource, .fieldLink "ZoneCapacityModel" 7 "ZoneCapacityModel" "w" "[I"]
theorem iX7_addStep : ∀ w ∈ wX7_addStep, w ∈ TW := tw_of (ids := [1067, 1069, 33, 939]) (by decide +kernel)
def f7_addStep (mm : Mem) (a1 : Int32) (a2 : Int32) (a3 : Int32) : Option Mem := bd (f7_ofResource mm a1 (6 : Int32)) (fun r1 => rdc 1 ((((79 : Int32) + ((13 : Int32) * a1)) + (7 : Int32)) + ((2 : Int32) * r1)) (nm (up2 mm 1 ((((79 : Int32) + ((13 : Int32) * a1)) + (7 : Int32)) + ((2 : Int32) * r1)).toNatClampNeg a2) (fun m2 => rdc 1 ((((79 : Int32) + ((13 : Int32) * a1)) + (8 : Int32)) + ((2 : Int32) * r1)) (nm (up2 m2 1 ((((79 : Int32) + ((13 : Int32) * a1)) + (8 : Int32)) + ((2 : Int32) * r1)).toNatClampNeg a3) (fun m3 => rdc 1 (((79 : Int32) + ((13 : Int32) * a1)) + (6 : Int32)) (nm (m3 1 (((79 : Int32) + ((13 : Int32) * a1)) + (6 : Int32)).toNatClampNeg) (fun v4 => rdc 1 (((79 : Int32) + ((13 : Int32) * a1)) + (6 : Int32)) (nm (up2 m3 1 (((79 : Int32) + ((13 : Int32) * a1)) + (6 : Int32)).toNatClampNeg (v4 + (1 : Int32))) (fun m5 => some m5)))))))))
theorem ctX7_addStep {l : Launch} {C : Cfg} (hj : Dj C) {mm : Mem} {a1 : Int32} {a2 : Int32} {a3 : Int32} {x : Mem} (hf : f7_addStep mm a1 a2 a3 = some x) : Ct l C yX7_addStep cX7_addStep 5 none 1 22 [.ref 0, .int a1, .int a2, .int a3] mm none x := by
  refine Ct.of (tb := tbX7_addStep) hj miX7_addStep.2.1 miX7_addStep.1 dtX7_addStep (Nat.le_of_ble_eq_true rfl) ?_
  intro E B hQ hr X
  unfold f7_addStep at hf
  show G E 5 0 [(0, .ref 0), (1, .int a1), (2, .int a2), (3, .int a3)] [] mm
  refine z_aload_n B 0 rfl 0 0 rfl rfl ?_
  refine z_iload_n B 1 rfl 1 1 rfl rfl ?_
  refine z_bipush 6 B 2 rfl (by decide) ?_
  obtain ⟨r1, ec, hf⟩ := bd_e hf
  refine z_callV 0 7 [.int a1, .int (6 : Int32)] [] [.int r1] X B 3 rfl ob_0 rfl rfl miX7_ofResource ⟨(iX7_addStep _ (List.mem_of_getElem? (i := 0) rfl)), (iX7_addStep _ (List.mem_of_getElem? (i := 1) rfl)), (iX7_addStep _ (List.mem_of_getElem? (i := 2) rfl))⟩ (ctX7_ofResource hj ec) ⟨Nat.le_of_ble_eq_true rfl, Nat.le_of_ble_eq_true rfl⟩ rfl rfl (Nat.le_of_ble_eq_true rfl) rfl ?_
  refine z_istore [(4, .int r1), (0, .ref 0), (1, .int a1), (2, .int a2), (3, .int a3)] B 4 rfl (by decide) rfl ?_
  refine z_aload_n B 5 rfl 0 1 rfl rfl ?_
  refine z_getr 7 1 0 B 6 rfl ob_0 rfl (iX7_addStep _ (List.mem_of_getElem? (i := 3) rfl)) rfl ?_
  refine z_bipush 79 B 7 rfl (by decide) ?_
  refine z_bipush 13 B 8 rfl (by decide) ?_
  refine z_iload_n B 9 rfl 1 2 rfl rfl ?_
  refine z_imul B 10 rfl ?_
  refine z_iadd B 11 rfl ?_
  refine z_bipush 7 B 12 rfl (by decide) ?_
  refine z_iadd B 13 rfl ?_
  refine z_iconst 2 B 14 rfl (by decide) ?_
  refine z_iload B 15 rfl 0 rfl ?_
  refine z_imul B 16 rfl ?_
  refine z_iadd B 17 rfl ?_
  refine z_iload_n B 18 rfl 2 3 rfl rfl ?_
  obtain ⟨hx, hf⟩ := rdc_e hf
  refine z_iast B 19 rfl ob_1 hx ?_
  obtain ⟨m2, ex, hf⟩ := nm_x hf
  refine z_mem ex ?_
  refine z_aload_n B 20 rfl 0 1 rfl rfl ?_
  refine z_getr 7 1 0 B 21 rfl ob_0 rfl (iX7_addStep _ (List.mem_of_getElem? (i := 3) rfl)) rfl ?_
  refine z_bipush 79 B 22 rfl (by decide) ?_
  refine z_bipush 13 B 23 rfl (by decide) ?_
  refine z_iload_n B 24 rfl 1 2 rfl rfl ?_
  refine z_imul B 25 rfl ?_
  refine z_iadd B 26 rfl ?_
  refine z_bipush 8 B 27 rfl (by decide) ?_
  refine z_iadd B 28 rfl ?_
  refine z_iconst 2 B 29 rfl (by decide) ?_
  refine z_iload B 30 rfl 0 rfl ?_
  refine z_imul B 31 rfl ?_
  refine z_iadd B 32 rfl ?_
  refine z_iload_n B 33 rfl 3 4 rfl rfl ?_
  obtain ⟨hx, hf⟩ := rdc_e hf
  refine z_iast B 34 rfl ob_1 hx ?_
  obtain ⟨m3, ex, hf⟩ := nm_x hf
  refine z_mem ex ?_
  refine z_aload_n B 35 rfl 0 1 rfl rfl ?_
  refine z_getr 7 1 0 B 36 rfl ob_0 rfl (iX7_addStep _ (List.mem_of_getElem? (i := 3) rfl)) rfl ?_
  refine z_bipush 79 B 37 rfl (by decide) ?_
  refine z_bipush 13 B 38 rfl (by decide) ?_
  refine z_iload_n B 39 rfl 1 2 rfl rfl ?_
  refine z_imul B 40 rfl ?_
  refine z_iadd B 41 rfl ?_
  refine z_bipush 6 B 42 rfl (by decide) ?_
  refine z_iadd B 43 rfl ?_
  refine z_dup2 B 44 rfl rfl rfl ?_
  obtain ⟨hx, hf⟩ := rdc_e hf
  refine z_iald B 45 rfl ob_1 hx ?_
  obtain ⟨v4, ex, hf⟩ := nm_x hf
  refine z_top ex ?_
  refine z_iconst 1 B 46 rfl (by decide) ?_
  refine z_iadd B 47 rfl ?_
  obtain ⟨hx, hf⟩ := rdc_e hf
  refine z_iast B 48 rfl ob_1 hx ?_
  obtain ⟨m5, ex, hf⟩ := nm_x hf
  refine z_mem ex ?_
  cases hf
  exact z_vret B 49 rfl hQ hr
