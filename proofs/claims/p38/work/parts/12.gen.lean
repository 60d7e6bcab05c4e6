/-! ZoneCapacity.zone(III)I -/
def tbX6_zone : Tb := [(0, .aload_n 0, 1, 1), (1, .getfield 10, 3, 4), (4, .getfield 57, 3, 7), (7, .getfield 71, 3, 10), (10, .astore 4, 2, 12), (12, .aload 4, 2, 14), (14, .getfield 75, 3, 17), (17, .bipush 6, 2, 19), (19, .if_icmp .ge 12, 3, 22), (22, .aload 4, 2, 24), (24, .iload_n 1, 1, 25), (25, .invokevirtual 80, 3, 28), (28, .ifCond .ne 5, 3, 31), (31, .iconst (-1), 1, 32), (32, .ireturn, 1, 33), (33, .iload_n 2, 1, 34), (34, .iconst 0, 1, 35), (35, .sipush 9999, 3, 38), (38, .invokestatic 50, 3, 41), (41, .ifCond .eq 14, 3, 44), (44, .iload_n 3, 1, 45), (45, .iconst 0, 1, 46), (46, .sipush 9999, 3, 49), (49, .invokestatic 50, 3, 52), (52, .ifCond .ne 5, 3, 55), (55, .iconst (-1), 1, 56), (56, .ireturn, 1, 57), (57, .aload 4, 2, 59), (59, .iload_n 1, 1, 60), (60, .iload_n 2, 1, 61), (61, .iload_n 3, 1, 62), (62, .invokevirtual 84, 3, 65), (65, .ireturn, 1, 66)]
theorem dtX6_zone : ∀ q ∈ tbX6_zone, decode cX6_zone q.1 = .ok (q.2.1, q.2.2.1) ∧ q.1 + q.2.2.1 = q.2.2.2 := by decide +kernel
theorem miX6_zone : MI yX6_zone cX6_zone 5 (some .int) 3 := ⟨tw_mem (List.mem_of_getElem? (i := 592) (by decide +kernel)) rfl, by decide, by decide +kernel, tw_mem (List.mem_of_getElem? (i := 14) (by decide +kernel)) rfl⟩
abbrev rmX6_zone : Room := { frames := 2, cells := 0, slots := 0, locals := 46 }
def wX6_zone : List Cond := [.fieldLink "ZoneCapacity" 10 "ZoneCapacity" "now" "LZoneCapacity$Auction;", .fieldLink "ZoneCapacity" 57 "ZoneCapacity$Auction" "market" "LZoneCapacity$Market;", .fieldLink "ZoneCapacity" 71 "ZoneCapacity$Market" "zones" "LZoneCapacity$Zones;", .fieldLink "ZoneCapacity" 75 "ZoneCapacity$Zones" "many" "I", .methodLink "ZoneCapacity" 80 yX5_has, .instanceMethod yX5_has, .selects "ZoneCapacity$Zones" yX5_has yX5_has, .methodLink "ZoneCapacity" 50 yX6_within, .static yX6_within, .methodLink "ZoneCapacity" 84 yX5_add, .instanceMethod yX5_add, .selects "ZoneCapacity$Zones" yX5_add yX5_add]
theorem iX6_zone : ∀ w ∈ wX6_zone, w ∈ TW := tw_of (ids := [243, 161, 151, 70, 267, 268, 269, 279, 280, 593, 594, 595]) (by decide +kernel)
def f6_zone (mm : Mem) (a1 : Int32) (a2 : Int32) (a3 : Int32) : Option (Int32 × Mem) := if (mm 17 0) < (6 : Int32) then bd (f5_has mm 17 a1) (fun r1 => if r1 = 0 then some ((-1 : Int32), mm) else bd (f6_within mm a2 (0 : Int32) (9999 : Int32)) (fun r2 => if r2 = 0 then some ((-1 : Int32), mm) else bd (f6_within mm a3 (0 : Int32) (9999 : Int32)) (fun r3 => if r3 = 0 then some ((-1 : Int32), mm) else bd (f5_add mm 17 a1 a2 a3) (fun r4 => some (r4.1, r4.2))))) else some ((-1 : Int32), mm)
theorem ctX6_zone {l : Launch} {C : Cfg} (hj : Dj C) {mm : Mem} {a1 : Int32} {a2 : Int32} {a3 : Int32} {x : (Int32 × Mem)} (hf : f6_zone mm a1 a2 a3 = some x) : Ct l C yX6_zone cX6_zone 5 (some .int) 2 46 [.ref 14, .int a1, .int a2, .int a3] mm (some (.int x.1)) x.2 := by
  refine Ct.of (tb := tbX6_zone) hj miX6_zone.2.1 miX6_zone.1 dtX6_zone (Nat.le_of_ble_eq_true rfl) ?_
  intro E B hQ hr X
  unfold f6_zone at hf
  show G E 5 0 [(0, .ref 14), (1, .int a1), (2, .int a2), (3, .int a3)] [] mm
  refine z_aload_n B 0 rfl 0 0 rfl rfl ?_
  refine z_getr 6 0 14 B 1 rfl ob_14 rfl (iX6_zone _ (List.mem_of_getElem? (i := 0) rfl)) rfl ?_
  refine z_getr 0 0 15 B 2 rfl ob_15 rfl (iX6_zone _ (List.mem_of_getElem? (i := 1) rfl)) rfl ?_
  refine z_getr 1 0 16 B 3 rfl ob_16 rfl (iX6_zone _ (List.mem_of_getElem? (i := 2) rfl)) rfl ?_
  refine z_astore [(4, .ref 17), (0, .ref 14), (1, .int a1), (2, .int a2), (3, .int a3)] B 4 rfl (by decide) rfl ?_
  refine z_aload B 5 rfl 0 rfl ?_
  refine z_geti 5 0 17 B 6 rfl ob_17 rfl (iX6_zone _ (List.mem_of_getElem? (i := 3) rfl)) rfl ?_
  refine z_bipush 6 B 7 rfl (by decide) ?_
  by_cases hc : (mm 17 0) < (6 : Int32)
  · replace hf := (if_pos hc).symm.trans hf
    refine z_icmp_ge_f B 8 rfl 31 (by decide) hc ?_
    refine z_aload B 9 rfl 0 rfl ?_
    refine z_iload_n B 10 rfl 1 2 rfl rfl ?_
    obtain ⟨r1, ec, hf⟩ := bd_e hf
    refine z_callV 17 5 [.int a1] [] [.int r1] X B 11 rfl (by decide) ob_17 rfl rfl miX5_has ⟨(iX6_zone _ (List.mem_of_getElem? (i := 4) rfl)), (iX6_zone _ (List.mem_of_getElem? (i := 5) rfl)), (iX6_zone _ (List.mem_of_getElem? (i := 6) rfl))⟩ (ctX5_has hj ob_17 ec) ⟨Nat.le_of_ble_eq_true rfl, Nat.le_of_ble_eq_true rfl⟩ rfl rfl (Nat.le_of_ble_eq_true rfl) rfl ?_
    by_cases hc : r1 = 0
    · replace hf := (if_pos hc).symm.trans hf
      refine z_if_ne_f B 12 rfl 33 (by decide) hc ?_
      refine z_iconst (-1) B 13 rfl (by decide) ?_
      cases hf
      exact z_iret B 14 rfl rfl hQ hr
    · replace hf := (if_neg hc).symm.trans hf
      refine z_if_ne_t B 12 rfl 33 (by decide) hc ?_
      refine z_iload_n B 15 rfl 2 3 rfl rfl ?_
      refine z_iconst 0 B 16 rfl (by decide) ?_
      refine z_sipush 9999 B 17 rfl (by decide) ?_
      obtain ⟨r2, ec, hf⟩ := bd_e hf
      refine z_callS [.int a2, .int (0 : Int32), .int (9999 : Int32)] [] [.int r2] X B 18 rfl miX6_within ⟨(iX6_zone _ (List.mem_of_getElem? (i := 7) rfl)), (iX6_zone _ (List.mem_of_getElem? (i := 8) rfl))⟩ (ctX6_within hj ec) ⟨Nat.le_of_ble_eq_true rfl, Nat.le_of_ble_eq_true rfl⟩ rfl rfl (Nat.le_of_ble_eq_true rfl) rfl ?_
      by_cases hc : r2 = 0
      · replace hf := (if_pos hc).symm.trans hf
        refine z_if_eq_t B 19 rfl 55 (by decide) hc ?_
        refine z_iconst (-1) B 25 rfl (by decide) ?_
        cases hf
        exact z_iret B 26 rfl rfl hQ hr
      · replace hf := (if_neg hc).symm.trans hf
        refine z_if_eq_f B 19 rfl 55 (by decide) hc ?_
        refine z_iload_n B 20 rfl 3 4 rfl rfl ?_
        refine z_iconst 0 B 21 rfl (by decide) ?_
        refine z_sipush 9999 B 22 rfl (by decide) ?_
        obtain ⟨r3, ec, hf⟩ := bd_e hf
        refine z_callS [.int a3, .int (0 : Int32), .int (9999 : Int32)] [] [.int r3] X B 23 rfl miX6_within ⟨(iX6_zone _ (List.mem_of_getElem? (i := 7) rfl)), (iX6_zone _ (List.mem_of_getElem? (i := 8) rfl))⟩ (ctX6_within hj ec) ⟨Nat.le_of_ble_eq_true rfl, Nat.le_of_ble_eq_true rfl⟩ rfl rfl (Nat.le_of_ble_eq_true rfl) rfl ?_
        by_cases hc : r3 = 0
        · replace hf := (if_pos hc).symm.trans hf
          refine z_if_ne_f B 24 rfl 57 (by decide) hc ?_
          refine z_iconst (-1) B 25 rfl (by decide) ?_
          cases hf
          exact z_iret B 26 rfl rfl hQ hr
        · replace hf := (if_neg hc).symm.trans hf
          refine z_if_ne_t B 24 rfl 57 (by decide) hc ?_
          refine z_aload B 27 rfl 0 rfl ?_
          refine z_iload_n B 28 rfl 1 2 rfl rfl ?_
          refine z_iload_n B 29 rfl 2 3 rfl rfl ?_
          refine z_iload_n B 30 rfl 3 4 rfl rfl ?_
          obtain ⟨r4, ec, hf⟩ := bd_e hf
          refine z_callV 17 5 [.int a1, .int a2, .int a3] [] [.int r4.1] X B 31 rfl (by decide) ob_17 rfl rfl miX5_add ⟨(iX6_zone _ (List.mem_of_getElem? (i := 9) rfl)), (iX6_zone _ (List.mem_of_getElem? (i := 10) rfl)), (iX6_zone _ (List.mem_of_getElem? (i := 11) rfl))⟩ (ctX5_add hj ob_17 ec) ⟨Nat.le_of_ble_eq_true rfl, Nat.le_of_ble_eq_true rfl⟩ rfl rfl (Nat.le_of_ble_eq_true rfl) rfl ?_
          cases hf
          exact z_iret B 32 rfl rfl hQ hr
  · replace hf := (if_neg hc).symm.trans hf
    refine z_icmp_ge_t B 8 rfl 31 (by decide) hc ?_
    refine z_iconst (-1) B 13 rfl (by decide) ?_
    cases hf
    exact z_iret B 14 rfl rfl hQ hr
/-! ZoneCapacity.point(III)I -/
def tbX6_point : Tb := [(0, .aload_n 0, 1, 1), (1, .getfield 10, 3, 4), (4, .getfield 57, 3, 7), (7, .getfield 71, 3, 10), (10, .astore 4, 2, 12), (12, .aload 4, 2, 14), (14, .iload_n 1, 1, 15), (15, .invokevirtual 80, 3, 18), (18, .ifCond .eq 16, 3, 21), (21, .aload 4, 2, 23), (23, .getfield 88, 3, 26), (26, .iload_n 1, 1, 27), (27, .invokestatic 92, 3, 30), (30, .iconst 4, 1, 31), (31, .if_icmp .lt 5, 3, 34), (34, .iconst (-1), 1, 35), (35, .ireturn, 1, 36), (36, .iload_n 2, 1, 37), (37, .aload 4, 2, 39), (39, .iload_n 1, 1, 40), (40, .invokevirtual 96, 3, 43), (43, .iconst 1, 1, 44), (44, .iadd, 1, 45), (45, .sipush 2000, 3, 48), (48, .invokestatic 50, 3, 51), (51, .ifCond .eq 17, 3, 54), (54, .iload_n 3, 1, 55), (55, .iconst 0, 1, 56), (56, .aload 4, 2, 58), (58, .iload_n 1, 1, 59), (59, .invokevirtual 100, 3, 62), (62, .invokestatic 50, 3, 65), (65, .ifCond .ne 5, 3, 68), (68, .iconst (-1), 1, 69), (69, .ireturn, 1, 70), (70, .aload 4, 2, 72), (72, .iload_n 1, 1, 73), (73, .iload_n 2, 1, 74), (74, .iload_n 3, 1, 75), (75, .invokevirtual 103, 3, 78), (78, .ireturn, 1, 79)]
theorem dtX6_point : ∀ q ∈ tbX6_point, decode cX6_point q.1 = .ok (q.2.1, q.2.2.1) ∧ q.1 + q.2.2.1 = q.2.2.2 := by decide +kernel
theorem miX6_point : MI yX6_point cX6_point 5 (some .int) 3 := ⟨tw_mem (List.mem_of_getElem? (i := 266) (by decide +kernel)) rfl, by decide, by decide +kernel, tw_mem (List.mem_of_getElem? (i := 14) (by decide +kernel)) rfl⟩
abbrev rmX6_point : Room := { frames := 2, cells := 0, slots := 0, locals := 46 }
def wX6_point : List Cond := [.fieldLink "ZoneCapacity" 10 "ZoneCapacity" "now" "LZoneCapacity$Auction;", .fieldLink "ZoneCapacity" 57 "ZoneCapacity$Auction" "market" "LZoneCapacity$Market;", .fieldLink "ZoneCapacity" 71 "ZoneCapacity$Market" "zones" "LZoneCapacity$Zones;", .methodLink "ZoneCapacity" 80 yX5_has, .instanceMethod yX5_has, .selects "ZoneCapacity$Zones" yX5_has yX5_has, .fieldLink "ZoneCapacity" 88 "ZoneCapacity$Zones" "points" "[I", .methodLink "ZoneCapacity" 92 yX6_at, .static yX6_at, .methodLink "ZoneCapacity" 96 yX5_wanted, .instanceMethod yX5_wanted, .selects "ZoneCapacity$Zones" yX5_wanted yX5_wanted, .methodLink "ZoneCapacity" 50 yX6_within, .static yX6_within, .methodLink "ZoneCapacity" 100 yX5_lastPrice, .instanceMethod yX5_lastPrice, .selects "ZoneCapacity$Zones" yX5_lastPrice yX5_lastPrice, .methodLink "ZoneCapacity" 103 yX5_addPoint, .instanceMethod yX5_addPoint, .selects "ZoneCapacity$Zones" yX5_addPoint yX5_addPoint]
theorem iX6_point : ∀ w ∈ wX6_point, w ∈ TW := tw_of (ids := [243, 161, 151, 267, 268, 269, 80, 271, 272, 274, 275, 276, 279, 280, 282, 283, 284, 286, 287, 288]) (by decide +kernel)
def f6_point (mm : Mem) (a1 : Int32) (a2 : Int32) (a3 : Int32) : Option (Int32 × Mem) := bd (f5_has mm 17 a1) (fun r1 => if r1 = 0 then some ((-1 : Int32), mm) else bd (f6_at mm 21 a1) (fun r2 => if r2 < (4 : Int32) then bd (f5_wanted mm 17 a1) (fun r3 => bd (f6_within mm a2 (r3 + (1 : Int32)) (2000 : Int32)) (fun r4 => if r4 = 0 then some ((-1 : Int32), mm) else bd (f5_lastPrice mm 17 a1) (fun r5 => bd (f6_within mm a3 (0 : Int32) r5) (fun r6 => if r6 = 0 then some ((-1 : Int32), mm) else bd (f5_addPoint mm 17 a1 a2 a3) (fun r7 => some (r7.1, r7.2)))))) else some ((-1 : Int32), mm)))
theorem ctX6_point {l : Launch} {C : Cfg} (hj : Dj C) {mm : Mem} {a1 : Int32} {a2 : Int32} {a3 : Int32} {x : (Int32 × Mem)} (hf : f6_point mm a1 a2 a3 = some x) : Ct l C yX6_point cX6_point 5 (some .int) 2 46 [.ref 14, .int a1, .int a2, .int a3] mm (some (.int x.1)) x.2 := by
  refine Ct.of (tb := tbX6_point) hj miX6_point.2.1 miX6_point.1 dtX6_point (Nat.le_of_ble_eq_true rfl) ?_
  intro E B hQ hr X
  unfold f6_point at hf
  show G E 5 0 [(0, .ref 14), (1, .int a1), (2, .int a2), (3, .int a3)] [] mm
  refine z_aload_n B 0 rfl 0 0 rfl rfl ?_
  refine z_getr 6 0 14 B 1 rfl ob_14 rfl (iX6_point _ (List.mem_of_getElem? (i := 0) rfl)) rfl ?_
  refine z_getr 0 0 15 B 2 rfl ob_15 rfl (iX6_point _ (List.mem_of_getElem? (i := 1) rfl)) rfl ?_
  refine z_getr 1 0 16 B 3 rfl ob_16 rfl (iX6_point _ (List.mem_of_getElem? (i := 2) rfl)) rfl ?_
  refine z_astore [(4, .ref 17), (0, .ref 14), (1, .int a1), (2, .int a2), (3, .int a3)] B 4 rfl (by decide) rfl ?_
  refine z_aload B 5 rfl 0 rfl ?_
  refine z_iload_n B 6 rfl 1 2 rfl rfl ?_
  obtain ⟨r1, ec, hf⟩ := bd_e hf
  refine z_callV 17 5 [.int a1] [] [.int r1] X B 7 rfl (by decide) ob_17 rfl rfl miX5_has ⟨(iX6_point _ (List.mem_of_getElem? (i := 3) rfl)), (iX6_point _ (List.mem_of_getElem? (i := 4) rfl)), (iX6_point _ (List.mem_of_getElem? (i := 5) rfl))⟩ (ctX5_has hj ob_17 ec) ⟨Nat.le_of_ble_eq_true rfl, Nat.le_of_ble_eq_true rfl⟩ rfl rfl (Nat.le_of_ble_eq_true rfl) rfl ?_
  by_cases hc : r1 = 0
  · replace hf := (if_pos hc).symm.trans hf
    refine z_if_eq_t B 8 rfl 34 (by decide) hc ?_
    refine z_iconst (-1) B 15 rfl (by decide) ?_
    cases hf
    exact z_iret B 16 rfl rfl hQ hr
  · replace hf := (if_neg hc).symm.trans hf
    refine z_if_eq_f B 8 rfl 34 (by decide) hc ?_
    refine z_aload B 9 rfl 0 rfl ?_
    refine z_getr 5 4 17 B 10 rfl ob_17 rfl (iX6_point _ (List.mem_of_getElem? (i := 6) rfl)) rfl ?_
    refine z_iload_n B 11 rfl 1 2 rfl rfl ?_
    obtain ⟨r2, ec, hf⟩ := bd_e hf
    refine z_callS [.ref 21, .int a1] [] [.int r2] X B 12 rfl miX6_at ⟨(iX6_point _ (List.mem_of_getElem? (i := 7) rfl)), (iX6_point _ (List.mem_of_getElem? (i := 8) rfl))⟩ (ctX6_at hj ob_21 ec) ⟨Nat.le_of_ble_eq_true rfl, Nat.le_of_ble_eq_true rfl⟩ rfl rfl (Nat.le_of_ble_eq_true rfl) rfl ?_
    refine z_iconst 4 B 13 rfl (by decide) ?_
    by_cases hc : r2 < (4 : Int32)
    · replace hf := (if_pos hc).symm.trans hf
      refine z_icmp_lt_t B 14 rfl 36 (by decide) hc ?_
      refine z_iload_n B 17 rfl 2 3 rfl rfl ?_
      refine z_aload B 18 rfl 0 rfl ?_
      refine z_iload_n B 19 rfl 1 2 rfl rfl ?_
      obtain ⟨r3, ec, hf⟩ := bd_e hf
      refine z_callV 17 5 [.int a1] [.int a2] [.int r3, .int a2] X B 20 rfl (by decide) ob_17 rfl rfl miX5_wanted ⟨(iX6_point _ (List.mem_of_getElem? (i := 9) rfl)), (iX6_point _ (List.mem_of_getElem? (i := 10) rfl)), (iX6_point _ (List.mem_of_getElem? (i := 11) rfl))⟩ (ctX5_wanted hj ob_17 ec) ⟨Nat.le_of_ble_eq_true rfl, Nat.le_of_ble_eq_true rfl⟩ rfl rfl (Nat.le_of_ble_eq_true rfl) rfl ?_
      refine z_iconst 1 B 21 rfl (by decide) ?_
      refine z_iadd B 22 rfl ?_
      refine z_sipush 2000 B 23 rfl (by decide) ?_
      obtain ⟨r4, ec, hf⟩ := bd_e hf
      refine z_callS [.int a2, .int (r3 + (1 : Int32)), .int (2000 : Int32)] [] [.int r4] X B 24 rfl miX6_within ⟨(iX6_point _ (List.mem_of_getElem? (i := 12) rfl)), (iX6_point _ (List.mem_of_getElem? (i := 13) rfl))⟩ (ctX6_within hj ec) ⟨Nat.le_of_ble_eq_true rfl, Nat.le_of_ble_eq_true rfl⟩ rfl rfl (Nat.le_of_ble_eq_true rfl) rfl ?_
      by_cases hc : r4 = 0
      · replace hf := (if_pos hc).symm.trans hf
        refine z_if_eq_t B 25 rfl 68 (by decide) hc ?_
        refine z_iconst (-1) B 33 rfl (by decide) ?_
        cases hf
        exact z_iret B 34 rfl rfl hQ hr
      · replace hf := (if_neg hc).symm.trans hf
        refine z_if_eq_f B 25 rfl 68 (by decide) hc ?_
        refine z_iload_n B 26 rfl 3 4 rfl rfl ?_
        refine z_iconst 0 B 27 rfl (by decide) ?_
        refine z_aload B 28 rfl 0 rfl ?_
        refine z_iload_n B 29 rfl 1 2 rfl rfl ?_
        obtain ⟨r5, ec, hf⟩ := bd_e hf
        refine z_callV 17 5 [.int a1] [.int (0 : Int32), .int a3] [.int r5, .int (0 : Int32), .int a3] X B 30 rfl (by decide) ob_17 rfl rfl miX5_lastPrice ⟨(iX6_point _ (List.mem_of_getElem? (i := 14) rfl)), (iX6_point _ (List.mem_of_getElem? (i := 15) rfl)), (iX6_point _ (List.mem_of_getElem? (i := 16) rfl))⟩ (ctX5_lastPrice hj ob_17 ec) ⟨Nat.le_of_ble_eq_true rfl, Nat.le_of_ble_eq_true rfl⟩ rfl rfl (Nat.le_of_ble_eq_true rfl) rfl ?_
        obtain ⟨r6, ec, hf⟩ := bd_e hf
        refine z_callS [.int a3, .int (0 : Int32), .int r5] [] [.int r6] X B 31 rfl miX6_within ⟨(iX6_point _ (List.mem_of_getElem? (i := 12) rfl)), (iX6_point _ (List.mem_of_getElem? (i := 13) rfl))⟩ (ctX6_within hj ec) ⟨Nat.le_of_ble_eq_true rfl, Nat.le_of_ble_eq_true rfl⟩ rfl rfl (Nat.le_of_ble_eq_true rfl) rfl ?_
        by_cases hc : r6 = 0
        · replace hf := (if_pos hc).symm.trans hf
          refine z_if_ne_f B 32 rfl 70 (by decide) hc ?_
          refine z_iconst (-1) B 33 rfl (by decide) ?_
          cases hf
          exact z_iret B 34 rfl rfl hQ hr
        · replace hf := (if_neg hc).symm.trans hf
          refine z_if_ne_t B 32 rfl 70 (by decide) hc ?_
          refine z_aload B 35 rfl 0 rfl ?_
          refine z_iload_n B 36 rfl 1 2 rfl rfl ?_
          refine z_iload_n B 37 rfl 2 3 rfl rfl ?_
          refine z_iload_n B 38 rfl 3 4 rfl rfl ?_
          obtain ⟨r7, ec, hf⟩ := bd_e hf
          refine z_callV 17 5 [.int a1, .int a2, .int a3] [] [.int r7.1] X B 39 rfl (by decide) ob_17 rfl rfl miX5_addPoint ⟨(iX6_point _ (List.mem_of_getElem? (i := 17) rfl)), (iX6_point _ (List.mem_of_getElem? (i := 18) rfl)), (iX6_point _ (List.mem_of_getElem? (i := 19) rfl))⟩ (ctX5_addPoint hj ob_17 ec) ⟨Nat.le_of_ble_eq_true rfl, Nat.le_of_ble_eq_true rfl⟩ rfl rfl (Nat.le_of_ble_eq_true rfl) rfl ?_
          cases hf
          exact z_iret B 40 rfl rfl hQ hr
    · replace hf := (if_neg hc).symm.trans hf
      refine z_icmp_lt_f B 14 rfl 36 (by decide) hc ?_
      refine z_iconst (-1) B 15 rfl (by decide) ?_
      cases hf
      exact z_iret B 16 rfl rfl hQ hr
/-! ZoneCapacity.resource(IIIIZ)I -/
def tbX6_resource : Tb := [(0, .aload_n 0, 1, 1), (1, .getfield 10, 3, 4), (4, .getfield 57, 3, 7), (7, .getfield 106, 3, 10), (10, .astore 6, 2, 12), (12, .aload 6, 2, 14), (14, .getfield 110, 3, 17), (17, .bipush 12, 2, 19), (19, .if_icmp .ge 20, 3, 22), (22, .aload_n 0, 1, 23), (23, .getfield 10, 3, 26), (26, .getfield 57, 3, 29), (29, .getfield 71, 3, 32), (32, .iload_n 1, 1, 33), (33, .invokevirtual 80, 3, 36), (36, .ifCond .ne 5, 3, 39), (39, .iconst (-1), 1, 40), (40, .ireturn, 1, 41), (41, .iload_n 2, 1, 42), (42, .iconst 1, 1, 43), (43, .sipush 500, 3, 46), (46, .invokestatic 50, 3, 49), (49, .ifCond .eq 22, 3, 52), (52, .iload_n 3, 1, 53), (53, .iconst 0, 1, 54), (54, .iconst 3, 1, 55), (55, .invokestatic 50, 3, 58), (58, .ifCond .eq 13, 3, 61), (61, .iload 4, 2, 63), (63, .iconst 0, 1, 64), (64, .iconst 5, 1, 65), (65, .invokestatic 50, 3, 68), (68, .ifCond .ne 5, 3, 71), (71, .iconst (-1), 1, 72), (72, .ireturn, 1, 73), (73, .aload 6, 2, 75), (75, .iload_n 1, 1, 76), (76, .iload_n 2, 1, 77), (77, .iload_n 3, 1, 78), (78, .iload 4, 2, 80), (80, .iload 5, 2, 82), (82, .iconst 0, 1, 83), (83, .invokevirtual 113, 3, 86), (86, .ireturn, 1, 87)]
theorem dtX6_resource : ∀ q ∈ tbX6_resource, decode cX6_resource q.1 = .ok (q.2.1, q.2.2.1) ∧ q.1 + q.2.2.1 = q.2.2.2 := by decide +kernel
theorem miX6_resource : MI yX6_resource cX6_resource 7 (some .int) 5 := ⟨tw_mem (List.mem_of_getElem? (i := 781) (by decide +kernel)) rfl, by decide, by decide +kernel, tw_mem (List.mem_of_getElem? (i := 14) (by decide +kernel)) rfl⟩
abbrev rmX6_resource : Room := { frames := 2, cells := 0, slots := 0, locals := 49 }
def wX6_resource : List Cond := [.fieldLink "ZoneCapacity" 10 "ZoneCapacity" "now" "LZoneCapacity$Auction;", .fieldLink "ZoneCapacity" 57 "ZoneCapacity$Auction" "market" "LZoneCapacity$Market;", .fieldLink "ZoneCapacity" 106 "ZoneCapacity$Market" "offers" "LZoneCapacity$Offers;", .fieldLink "ZoneCapacity" 110 "ZoneCapacity$Offers" "many" "I", .fieldLink "ZoneCapacity" 71 "ZoneCapacity$Market" "zones" "LZoneCapacity$Zones;", .methodLink "ZoneCapacity" 80 yX5_has, .instanceMethod yX5_has, .selects "ZoneCapacity$Zones" yX5_has yX5_has, .methodLink "ZoneCapacity" 50 yX6_within, .static yX6_within, .methodLink "ZoneCapacity" 113 yX2_add, .instanceMethod yX2_add, .selects "ZoneCapacity$Offers" yX2_add yX2_add]
theorem iX6_resource : ∀ w ∈ wX6_resource, w ∈ TW := tw_of (ids := [243, 161, 154, 107, 151, 267, 268, 269, 279, 280, 782, 783, 784]) (by decide +kernel)
def f6_resource (mm : Mem) (a1 : Int32) (a2 : Int32) (a3 : Int32) (a4 : Int32) (a5 : Int32) : Option (Int32 × Mem) := if (mm 24 0) < (12 : Int32) then bd (f5_has mm 17 a1) (fun r1 => if r1 = 0 then some ((-1 : Int32), mm) else bd (f6_within mm a2 (1 : Int32) (500 : Int32)) (fun r2 => if r2 = 0 then some ((-1 : Int32), mm) else bd (f6_within mm a3 (0 : Int32) (3 : Int32)) (fun r3 => if r3 = 0 then some ((-1 : Int32), mm) else bd (f6_within mm a4 (0 : Int32) (5 : Int32)) (fun r4 => if r4 = 0 then some ((-1 : Int32), mm) else bd (f2_add mm 24 a1 a2 a3 a4 a5 (0 : Int32)) (fun r5 => some (r5.1, r5.2)))))) else some ((-1 : Int32), mm)
theorem ctX6_resource {l : Launch} {C : Cfg} (hj : Dj C) {mm : Mem} {a1 : Int32} {a2 : Int32} {a3 : Int32} {a4 : Int32} {a5 : Int32} {x : (Int32 × Mem)} (hf : f6_resource mm a1 a2 a3 a4 a5 = some x) : Ct l C yX6_resource cX6_resource 7 (some .int) 2 49 [.ref 14, .int a1, .int a2, .int a3, .int a4, .int a5] mm (some (.int x.1)) x.2 := by
  refine Ct.of (tb := tbX6_resource) hj miX6_resource.2.1 miX6_resource.1 dtX6_resource (Nat.le_of_ble_eq_true rfl) ?_
  intro E B hQ hr X
  unfold f6_resource at hf
  show G E 7 0 [(0, .ref 14), (1, .int a1), (2, .int a2), (3, .int a3), (4, .int a4), (5, .int a5)] [] mm
  refine z_aload_n B 0 rfl 0 0 rfl rfl ?_
  refine z_getr 6 0 14 B 1 rfl ob_14 rfl (iX6_resource _ (List.mem_of_getElem? (i := 0) rfl)) rfl ?_
  refine z_getr 0 0 15 B 2 rfl ob_15 rfl (iX6_resource _ (List.mem_of_getElem? (i := 1) rfl)) rfl ?_
  refine z_getr 1 1 16 B 3 rfl ob_16 rfl (iX6_resource _ (List.mem_of_getElem? (i := 2) rfl)) rfl ?_
  refine z_astore [(6, .ref 24), (0, .ref 14), (1, .int a1), (2, .int a2), (3, .int a3), (4, .int a4), (5, .int a5)] B 4 rfl (by decide) rfl ?_
  refine z_aload B 5 rfl 0 rfl ?_
  refine z_geti 2 0 24 B 6 rfl ob_24 rfl (iX6_resource _ (List.mem_of_getElem? (i := 3) rfl)) rfl ?_
  refine z_bipush 12 B 7 rfl (by decide) ?_
  by_cases hc : (mm 24 0) < (12 : Int32)
  · replace hf := (if_pos hc).symm.trans hf
    refine z_icmp_ge_f B 8 rfl 39 (by decide) hc ?_
    refine z_aload_n B 9 rfl 0 1 rfl rfl ?_
    refine z_getr 6 0 14 B 10 rfl ob_14 rfl (iX6_resource _ (List.mem_of_getElem? (i := 0) rfl)) rfl ?_
    refine z_getr 0 0 15 B 11 rfl ob_15 rfl (iX6_resource _ (List.mem_of_getElem? (i := 1) rfl)) rfl ?_
    refine z_getr 1 0 16 B 12 rfl ob_16 rfl (iX6_resource _ (List.mem_of_getElem? (i := 4) rfl)) rfl ?_
    refine z_iload_n B 13 rfl 1 2 rfl rfl ?_
    obtain ⟨r1, ec, hf⟩ := bd_e hf
    refine z_callV 17 5 [.int a1] [] [.int r1] X B 14 rfl (by decide) ob_17 rfl rfl miX5_has ⟨(iX6_resource _ (List.mem_of_getElem? (i := 5) rfl)), (iX6_resource _ (List.mem_of_getElem? (i := 6) rfl)), (iX6_resource _ (List.mem_of_getElem? (i := 7) rfl))⟩ (ctX5_has hj ob_17 ec) ⟨Nat.le_of_ble_eq_true rfl, Nat.le_of_ble_eq_true rfl⟩ rfl rfl (Nat.le_of_ble_eq_true rfl) rfl ?_
    by_cases hc : r1 = 0
    · replace hf := (if_pos hc).symm.trans hf
      refine z_if_ne_f B 15 rfl 41 (by decide) hc ?_
      refine z_iconst (-1) B 16 rfl (by decide) ?_
      cases hf
      exact z_iret B 17 rfl rfl hQ hr
    · replace hf := (if_neg hc).symm.trans hf
      refine z_if_ne_t B 15 rfl 41 (by decide) hc ?_
      refine z_iload_n B 18 rfl 2 3 rfl rfl ?_
      refine z_iconst 1 B 19 rfl (by decide) ?_
      refine z_sipush 500 B 20 rfl (by decide) ?_
      obtain ⟨r2, ec, hf⟩ := bd_e hf
      refine z_callS [.int a2, .int (1 : Int32), .int (500 : Int32)] [] [.int r2] X B 21 rfl miX6_within ⟨(iX6_resource _ (List.mem_of_getElem? (i := 8) rfl)), (iX6_resource _ (List.mem_of_getElem? (i := 9) rfl))⟩ (ctX6_within hj ec) ⟨Nat.le_of_ble_eq_true rfl, Nat.le_of_ble_eq_true rfl⟩ rfl rfl (Nat.le_of_ble_eq_true rfl) rfl ?_
      by_cases hc : r2 = 0
      · replace hf := (if_pos hc).symm.trans hf
        refine z_if_eq_t B 22 rfl 71 (by decide) hc ?_
        refine z_iconst (-1) B 33 rfl (by decide) ?_
        cases hf
        exact z_iret B 34 rfl rfl hQ hr
      · replace hf := (if_neg hc).symm.trans hf
        refine z_if_eq_f B 22 rfl 71 (by decide) hc ?_
        refine z_iload_n B 23 rfl 3 4 rfl rfl ?_
        refine z_iconst 0 B 24 rfl (by decide) ?_
        refine z_iconst 3 B 25 rfl (by decide) ?_
        obtain ⟨r3, ec, hf⟩ := bd_e hf
        refine z_callS [.int a3, .int (0 : Int32), .int (3 : Int32)] [] [.int r3] X B 26 rfl miX6_within ⟨(iX6_resource _ (List.mem_of_getElem? (i := 8) rfl)), (iX6_resource _ (List.mem_of_getElem? (i := 9) rfl))⟩ (ctX6_within hj ec) ⟨Nat.le_of_ble_eq_true rfl, Nat.le_of_ble_eq_true rfl⟩ rfl rfl (Nat.le_of_ble_eq_true rfl) rfl ?_
        by_cases hc : r3 = 0
        · replace hf := (if_pos hc).symm.trans hf
          refine z_if_eq_t B 27 rfl 71 (by decide) hc ?_
          refine z_iconst (-1) B 33 rfl (by decide) ?_
          cases hf
          exact z_iret B 34 rfl rfl hQ hr
        · replace hf := (if_neg hc).symm.trans hf
          refine z_if_eq_f B 27 rfl 71 (by decide) hc ?_
          refine z_iload B 28 rfl 5 rfl ?_
          refine z_iconst 0 B 29 rfl (by decide) ?_
          refine z_iconst 5 B 30 rfl (by decide) ?_
          obtain ⟨r4, ec, hf⟩ := bd_e hf
          refine z_callS [.int a4, .int (0 : Int32), .int (5 : Int32)] [] [.int r4] X B 31 rfl miX6_within ⟨(iX6_resource _ (List.mem_of_getElem? (i := 8) rfl)), (iX6_resource _ (List.mem_of_getElem? (i := 9) rfl))⟩ (ctX6_within hj ec) ⟨Nat.le_of_ble_eq_true rfl, Nat.le_of_ble_eq_true rfl⟩ rfl rfl (Nat.le_of_ble_eq_true rfl) rfl ?_
          by_cases hc : r4 = 0
          · replace hf := (if_pos hc).symm.trans hf
            refine z_if_ne_f B 32 rfl 73 (by decide) hc ?_
            refine z_iconst (-1) B 33 rfl (by decide) ?_
            cases hf
            exact z_iret B 34 rfl rfl hQ hr
          · replace hf := (if_neg hc).symm.trans hf
            refine z_if_ne_t B 32 rfl 73 (by decide) hc ?_
            refine z_aload B 35 rfl 0 rfl ?_
            refine z_iload_n B 36 rfl 1 2 rfl rfl ?_
            refine z_iload_n B 37 rfl 2 3 rfl rfl ?_
            refine z_iload_n B 38 rfl 3 4 rfl rfl ?_
            refine z_iload B 39 rfl 5 rfl ?_
            refine z_iload B 40 rfl 6 rfl ?_
            refine z_iconst 0 B 41 rfl (by decide) ?_
            obtain ⟨r5, ec, hf⟩ := bd_e hf
            refine z_callV 24 2 [.int a1, .int a2, .int a3, .int a4, .int a5, .int (0 : Int32)] [] [.int r5.1] X B 42 rfl (by decide) ob_24 rfl rfl miX2_add ⟨(iX6_resource _ (List.mem_of_getElem? (i := 10) rfl)), (iX6_resource _ (List.mem_of_getElem? (i := 11) rfl)), (iX6_resource _ (List.mem_of_getElem? (i := 12) rfl))⟩ (ctX2_add hj ob_24 ec) ⟨Nat.le_of_ble_eq_true rfl, Nat.le_of_ble_eq_true rfl⟩ rfl rfl (Nat.le_of_ble_eq_true rfl) rfl ?_
            cases hf
            exact z_iret B 43 rfl rfl hQ hr
  · replace hf := (if_neg hc).symm.trans hf
    refine z_icmp_ge_t B 8 rfl 39 (by decide) hc ?_
    refine z_iconst (-1) B 16 rfl (by decide) ?_
    cases hf
    exact z_iret B 17 rfl rfl hQ hr
/-! ZoneCapacity.step(III)I -/
def tbX6_step : Tb := [(0, .aload_n 0, 1, 1), (1, .getfield 10, 3, 4), (4, .getfield 57, 3, 7), (7, .getfield 106, 3, 10), (10, .astore 4, 2, 12), (12, .aload 4, 2, 14), (14, .iload_n 1, 1, 15), (15, .invokevirtual 116, 3, 18), (18, .ifCond .eq 16, 3, 21), (21, .aload 4, 2, 23), (23, .getfield 117, 3, 26), (26, .iload_n 1, 1, 27), (27, .invokestatic 92, 3, 30), (30, .iconst 3, 1, 31), (31, .if_icmp .lt 5, 3, 34), (34, .iconst (-1), 1, 35), (35, .ireturn, 1, 36), (36, .iload_n 2, 1, 37), (37, .iconst 1, 1, 38), (38, .aload 4, 2, 40), (40, .iload_n 1, 1, 41), (41, .invokevirtual 120, 3, 44), (44, .invokestatic 50, 3, 47), (47, .ifCond .eq 19, 3, 50), (50, .iload_n 3, 1, 51), (51, .aload 4, 2, 53), (53, .iload_n 1, 1, 54), (54, .invokevirtual 123, 3, 57), (57, .sipush 9999, 3, 60), (60, .invokestatic 50, 3, 63), (63, .ifCond .ne 5, 3, 66), (66, .iconst (-1), 1, 67), (67, .ireturn, 1, 68), (68, .aload 4, 2, 70), (70, .iload_n 1, 1, 71), (71, .iload_n 2, 1, 72), (72, .iload_n 3, 1, 73), (73, .invokevirtual 124, 3, 76), (76, .ireturn, 1, 77)]
theorem dtX6_step : ∀ q ∈ tbX6_step, decode cX6_step q.1 = .ok (q.2.1, q.2.2.1) ∧ q.1 + q.2.2.1 = q.2.2.2 := by decide +kernel
theorem miX6_step : MI yX6_step cX6_step 5 (some .int) 3 := ⟨tw_mem (List.mem_of_getElem? (i := 794) (by decide +kernel)) rfl, by decide, by decide +kernel, tw_mem (List.mem_of_getElem? (i := 14) (by decide +kernel)) rfl⟩
abbrev rmX6_step : Room := { frames := 2, cells := 0, slots := 0, locals := 46 }
def wX6_step : List Cond := [.fieldLink "ZoneCapacity" 10 "ZoneCapacity" "now" "LZoneCapacity$Auction;", .fieldLink "ZoneCapacity" 57 "ZoneCapacity$Auction" "market" "LZoneCapacity$Market;", .fieldLink "ZoneCapacity" 106 "ZoneCapacity$Market" "offers" "LZoneCapacity$Offers;", .methodLink "ZoneCapacity" 116 yX2_has, .instanceMethod yX2_has, .selects "ZoneCapacity$Offers" yX2_has yX2_has, .fieldLink "ZoneCapacity" 117 "ZoneCapacity$Offers" "steps" "[I", .methodLink "ZoneCapacity" 92 yX6_at, .static yX6_at, .methodLink "ZoneCapacity" 120 yX2_rest, .instanceMethod yX2_rest, .selects "ZoneCapacity$Offers" yX2_rest yX2_rest, .methodLink "ZoneCapacity" 50 yX6_within, .static yX6_within, .methodLink "ZoneCapacity" 123 yX2_lastPrice, .instanceMethod yX2_lastPrice, .selects "ZoneCapacity$Offers" yX2_lastPrice yX2_lastPrice, .methodLink "ZoneCapacity" 124 yX2_addStep, .instanceMethod yX2_addStep, .selects "ZoneCapacity$Offers" yX2_addStep yX2_addStep]
theorem iX6_step : ∀ w ∈ wX6_step, w ∈ TW := tw_of (ids := [243, 161, 154, 297, 298, 299, 121, 271, 272, 795, 345, 346, 279, 280, 796, 797, 798, 800, 801, 802]) (by decide +kernel)
def f6_step (mm : Mem) (a1 : Int32) (a2 : Int32) (a3 : Int32) : Option (Int32 × Mem) := bd (f2_has mm 24 a1) (fun r1 => if r1 = 0 then some ((-1 : Int32), mm) else bd (f6_at mm 32 a1) (fun r2 => if r2 < (3 : Int32) then bd (f2_rest mm 24 a1) (fun r3 => bd (f6_within mm a2 (1 : Int32) r3) (fun r4 => if r4 = 0 then some ((-1 : Int32), mm) else bd (f2_lastPrice mm 24 a1) (fun r5 => bd (f6_within mm a3 r5 (9999 : Int32)) (fun r6 => if r6 = 0 then some ((-1 : Int32), mm) else bd (f2_addStep mm 24 a1 a2 a3) (fun r7 => some (r7.1, r7.2)))))) else some ((-1 : Int32), mm)))
theorem ctX6_step {l : Launch} {C : Cfg} (hj : Dj C) {mm : Mem} {a1 : Int32} {a2 : Int32} {a3 : Int32} {x : (Int32 × Mem)} (hf : f6_step mm a1 a2 a3 = some x) : Ct l C yX6_step cX6_step 5 (some .int) 2 46 [.ref 14, .int a1, .int a2, .int a3] mm (some (.int x.1)) x.2 := by
  refine Ct.of (tb := tbX6_step) hj miX6_step.2.1 miX6_step.1 dtX6_step (Nat.le_of_ble_eq_true rfl) ?_
  intro E B hQ hr X
  unfold f6_step at hf
  show G E 5 0 [(0, .ref 14), (1, .int a1), (2, .int a2), (3, .int a3)] [] mm
  refine z_aload_n B 0 rfl 0 0 rfl rfl ?_
  refine z_getr 6 0 14 B 1 rfl ob_14 rfl (iX6_step _ (List.mem_of_getElem? (i := 0) rfl)) rfl ?_
  refine z_getr 0 0 15 B 2 rfl ob_15 rfl (iX6_step _ (List.mem_of_getElem? (i := 1) rfl)) rfl ?_
  refine z_getr 1 1 16 B 3 rfl ob_16 rfl (iX6_step _ (List.mem_of_getElem? (i := 2) rfl)) rfl ?_
  refine z_astore [(4, .ref 24), (0, .ref 14), (1, .int a1), (2, .int a2), (3, .int a3)] B 4 rfl (by decide) rfl ?_
  refine z_aload B 5 rfl 0 rfl ?_
  refine z_iload_n B 6 rfl 1 2 rfl rfl ?_
  obtain ⟨r1, ec, hf⟩ := bd_e hf
  refine z_callV 24 2 [.int a1] [] [.int r1] X B 7 rfl (by decide) ob_24 rfl rfl miX2_has ⟨(iX6_step _ (List.mem_of_getElem? (i := 3) rfl)), (iX6_step _ (List.mem_of_getElem? (i := 4) rfl)), (iX6_step _ (List.mem_of_getElem? (i := 5) rfl))⟩ (ctX2_has hj ob_24 ec) ⟨Nat.le_of_ble_eq_true rfl, Nat.le_of_ble_eq_true rfl⟩ rfl rfl (Nat.le_of_ble_eq_true rfl) rfl ?_
  by_cases hc : r1 = 0
  · replace hf := (if_pos hc).symm.trans hf
    refine z_if_eq_t B 8 rfl 34 (by decide) hc ?_
    refine z_iconst (-1) B 15 rfl (by decide) ?_
    cases hf
    exact z_iret B 16 rfl rfl hQ hr
  · replace hf := (if_neg hc).symm.trans hf
    refine z_if_eq_f B 8 rfl 34 (by decide) hc ?_
    refine z_aload B 9 rfl 0 rfl ?_
    refine z_getr 2 9 24 B 10 rfl ob_24 rfl (iX6_step _ (List.mem_of_getElem? (i := 6) rfl)) rfl ?_
    refine z_iload_n B 11 rfl 1 2 rfl rfl ?_
    obtain ⟨r2, ec, hf⟩ := bd_e hf
    refine z_callS [.ref 32, .int a1] [] [.int r2] X B 12 rfl miX6_at ⟨(iX6_step _ (List.mem_of_getElem? (i := 7) rfl)), (iX6_step _ (List.mem_of_getElem? (i := 8) rfl))⟩ (ctX6_at hj ob_32 ec) ⟨Nat.le_of_ble_eq_true rfl, Nat.le_of_ble_eq_true rfl⟩ rfl rfl (Nat.le_of_ble_eq_true rfl) rfl ?_
    refine z_iconst 3 B 13 rfl (by decide) ?_
    by_cases hc : r2 < (3 : Int32)
    · replace hf := (if_pos hc).symm.trans hf
      refine z_icmp_lt_t B 14 rfl 36 (by decide) hc ?_
      refine z_iload_n B 17 rfl 2 3 rfl rfl ?_
      refine z_iconst 1 B 18 rfl (by decide) ?_
      refine z_aload B 19 rfl 0 rfl ?_
      refine z_iload_n B 20 rfl 1 2 rfl rfl ?_
      obtain ⟨r3, ec, hf⟩ := bd_e hf
      refine z_callV 24 2 [.int a1] [.int (1 : Int32), .int a2] [.int r3, .int (1 : Int32), .int a2] X B 21 rfl (by decide) ob_24 rfl rfl miX2_rest ⟨(iX6_step _ (List.mem_of_getElem? (i := 9) rfl)), (iX6_step _ (List.mem_of_getElem? (i := 10) rfl)), (iX6_step _ (List.mem_of_getElem? (i := 11) rfl))⟩ (ctX2_rest hj ob_24 ec) ⟨Nat.le_of_ble_eq_true rfl, Nat.le_of_ble_eq_true rfl⟩ rfl rfl (Nat.le_of_ble_eq_true rfl) rfl ?_
      obtain ⟨r4, ec, hf⟩ := bd_e hf
      refine z_callS [.int a2, .int (1 : Int32), .int r3] [] [.int r4] X B 22 rfl miX6_within ⟨(iX6_step _ (List.mem_of_getElem? (i := 12) rfl)), (iX6_step _ (List.mem_of_getElem? (i := 13) rfl))⟩ (ctX6_within hj ec) ⟨Nat.le_of_ble_eq_true rfl, Nat.le_of_ble_eq_true rfl⟩ rfl rfl (Nat.le_of_ble_eq_true rfl) rfl ?_
      by_cases hc : r4 = 0
      · replace hf := (if_pos hc).symm.trans hf
        refine z_if_eq_t B 23 rfl 66 (by decide) hc ?_
        refine z_iconst (-1) B 31 rfl (by decide) ?_
        cases hf
        exact z_iret B 32 rfl rfl hQ hr
      · replace hf := (if_neg hc).symm.trans hf
        refine z_if_eq_f B 23 rfl 66 (by decide) hc ?_
        refine z_iload_n B 24 rfl 3 4 rfl rfl ?_
        refine z_aload B 25 rfl 0 rfl ?_
        refine z_iload_n B 26 rfl 1 2 rfl rfl ?_
        obtain ⟨r5, ec, hf⟩ := bd_e hf
        refine z_callV 24 2 [.int a1] [.int a3] [.int r5, .int a3] X B 27 rfl (by decide) ob_24 rfl rfl miX2_lastPrice ⟨(iX6_step _ (List.mem_of_getElem? (i := 14) rfl)), (iX6_step _ (List.mem_of_getElem? (i := 15) rfl)), (iX6_step _ (List.mem_of_getElem? (i := 16) rfl))⟩ (ctX2_lastPrice hj ob_24 ec) ⟨Nat.le_of_ble_eq_true rfl, Nat.le_of_ble_eq_true rfl⟩ rfl rfl (Nat.le_of_ble_eq_true rfl) rfl ?_
        refine z_sipush 9999 B 28 rfl (by decide) ?_
        obtain ⟨r6, ec, hf⟩ := bd_e hf
        refine z_callS [.int a3, .int r5, .int (9999 : Int32)] [] [.int r6] X B 29 rfl miX6_within ⟨(iX6_step _ (List.mem_of_getElem? (i := 12) rfl)), (iX6_step _ (List.mem_of_getElem? (i := 13) rfl))⟩ (ctX6_within hj ec) ⟨Nat.le_of_ble_eq_true rfl, Nat.le_of_ble_eq_true rfl⟩ rfl rfl (Nat.le_of_ble_eq_true rfl) rfl ?_
        by_cases hc : r6 = 0
        · replace hf := (if_pos hc).symm.trans hf
          refine z_if_ne_f B 30 rfl 68 (by decide) hc ?_
          refine z_iconst (-1) B 31 rfl (by decide) ?_
          cases hf
          exact z_iret B 32 rfl rfl hQ hr
        · replace hf := (if_neg hc).symm.trans hf
          refine z_if_ne_t B 30 rfl 68 (by decide) hc ?_
          refine z_aload B 33 rfl 0 rfl ?_
          refine z_iload_n B 34 rfl 1 2 rfl rfl ?_
          refine z_iload_n B 35 rfl 2 3 rfl rfl ?_
          refine z_iload_n B 36 rfl 3 4 rfl rfl ?_
          obtain ⟨r7, ec, hf⟩ := bd_e hf
          refine z_callV 24 2 [.int a1, .int a2, .int a3] [] [.int r7.1] X B 37 rfl (by decide) ob_24 rfl rfl miX2_addStep ⟨(iX6_step _ (List.mem_of_getElem? (i := 17) rfl)), (iX6_step _ (List.mem_of_getElem? (i := 18) rfl)), (iX6_step _ (List.mem_of_getElem? (i := 19) rfl))⟩ (ctX2_addStep hj ob_24 ec) ⟨Nat.le_of_ble_eq_true rfl, Nat.le_of_ble_eq_true rfl⟩ rfl rfl (Nat.le_of_ble_eq_true rfl) rfl ?_
          cases hf
          exact z_iret B 38 rfl rfl hQ hr
    · replace hf := (if_neg hc).symm.trans hf
      refine z_icmp_lt_f B 14 rfl 36 (by decide) hc ?_
      refine z_iconst (-1) B 15 rfl (by decide) ?_
      cases hf
      exact z_iret B 16 rfl rfl hQ hr
/-! ZoneCapacity.drop(IZ)I -/
def tbX6_drop : Tb := [(0, .aload_n 0, 1, 1), (1, .getfield 10, 3, 4), (4, .getfield 57, 3, 7), (7, .astore_n 3, 1, 8), (8, .iload_n 2, 1, 9), (9, .ifCond .eq 17, 3, 12), (12, .aload_n 3, 1, 13), (13, .getfield 106, 3, 16), (16, .iload_n 1, 1, 17), (17, .invokevirtual 116, 3, 20), (20, .ifCond .ne 19, 3, 23), (23, .goto 14, 3, 26), (26, .aload_n 3, 1, 27), (27, .getfield 71, 3, 30), (30, .iload_n 1, 1, 31), (31, .invokevirtual 80, 3, 34), (34, .ifCond .ne 5, 3, 37), (37, .iconst (-1), 1, 38), (38, .ireturn, 1, 39), (39, .iload_n 2, 1, 40), (40, .ifCond .eq 14, 3, 43), (43, .aload_n 3, 1, 44), (44, .getfield 106, 3, 47), (47, .iload_n 1, 1, 48), (48, .invokevirtual 127, 3, 51), (51, .goto 11, 3, 54), (54, .aload_n 3, 1, 55), (55, .getfield 71, 3, 58), (58, .iload_n 1, 1, 59), (59, .invokevirtual 130, 3, 62), (62, .ireturn, 1, 63)]
theorem dtX6_drop : ∀ q ∈ tbX6_drop, decode cX6_drop q.1 = .ok (q.2.1, q.2.2.1) ∧ q.1 + q.2.2.1 = q.2.2.2 := by decide +kernel
theorem miX6_drop : MI yX6_drop cX6_drop 4 (some .int) 2 := ⟨tw_mem (List.mem_of_getElem? (i := 296) (by decide +kernel)) rfl, by decide, by decide +kernel, tw_mem (List.mem_of_getElem? (i := 14) (by decide +kernel)) rfl⟩
abbrev rmX6_drop : Room := { frames := 2, cells := 0, slots := 0, locals := 44 }
def wX6_drop : List Cond := [.fieldLink "ZoneCapacity" 10 "ZoneCapacity" "now" "LZoneCapacity$Auction;", .fieldLink "ZoneCapacity" 57 "ZoneCapacity$Auction" "market" "LZoneCapacity$Market;", .fieldLink "ZoneCapacity" 71 "ZoneCapacity$Market" "zones" "LZoneCapacity$Zones;", .methodLink "ZoneCapacity" 80 yX5_has, .instanceMethod yX5_has, .selects "ZoneCapacity$Zones" yX5_has yX5_has, .methodLink "ZoneCapacity" 130 yX5_dropPoints, .instanceMethod yX5_dropPoints, .selects "ZoneCapacity$Zones" yX5_dropPoints yX5_dropPoints, .fieldLink "ZoneCapacity" 106 "ZoneCapacity$Market" "offers" "LZoneCapacity$Offers;", .methodLink "ZoneCapacity" 127 yX2_dropSteps, .instanceMethod yX2_dropSteps, .selects "ZoneCapacity$Offers" yX2_dropSteps yX2_dropSteps, .methodLink "ZoneCapacity" 116 yX2_has, .instanceMethod yX2_has, .selects "ZoneCapacity$Offers" yX2_has yX2_has]
theorem iX6_drop : ∀ w ∈ wX6_drop, w ∈ TW := tw_of (ids := [243, 161, 151, 267, 268, 269, 307, 308, 309, 154, 301, 302, 303, 297, 298, 299]) (by decide +kernel)
def f6_drop_j39 (x1 : Int32) (x2 : Int32) (mm : Mem) : Option (Int32 × Mem) := if x2 = 0 then bd (f5_dropPoints mm 17 x1) (fun r2 => some (r2.1, r2.2)) else bd (f2_dropSteps mm 24 x1) (fun r3 => some (r3.1, r3.2))
theorem f6_drop_j39_ok {E : Ev} {l : Launch} {C : Cfg} {x : (Int32 × Mem)} (hj : Dj C) (X : Ec E l C rmX6_drop) (B : Bx E RX6 tbX6_drop 4 (some .int)) (hQ : Rt E) (hr : Rs E (some (.int x.1)) x.2) (x1 : Int32) (x2 : Int32) (mm : Mem) (hf : f6_drop_j39 x1 x2 mm = some x) : G E 4 39 [(1, .int x1), (2, .int x2), (3, .ref 16)] [] mm := by
  unfold f6_drop_j39 at hf
  refine z_iload_n B 19 rfl 2 1 rfl rfl ?_
  by_cases hc : x2 = 0
  · replace hf := (if_pos hc).symm.trans hf
    refine z_if_eq_t B 20 rfl 54 (by decide) hc ?_
    refine z_aload_n B 26 rfl 3 2 rfl rfl ?_
    refine z_getr 1 0 16 B 27 rfl ob_16 rfl (iX6_drop _ (List.mem_of_getElem? (i := 2) rfl)) rfl ?_
    refine z_iload_n B 28 rfl 1 0 rfl rfl ?_
    obtain ⟨r2, ec, hf⟩ := bd_e hf
    refine z_callV 17 5 [.int x1] [] [.int r2.1] X B 29 rfl (by decide) ob_17 rfl rfl miX5_dropPoints ⟨(iX6_drop _ (List.mem_of_getElem? (i := 6) rfl)), (iX6_drop _ (List.mem_of_getElem? (i := 7) rfl)), (iX6_drop _ (List.mem_of_getElem? (i := 8) rfl))⟩ (ctX5_dropPoints hj ob_17 ec) ⟨Nat.le_of_ble_eq_true rfl, Nat.le_of_ble_eq_true rfl⟩ rfl rfl (Nat.le_of_ble_eq_true rfl) rfl ?_
    cases hf
    exact z_iret B 30 rfl rfl hQ hr
  · replace hf := (if_neg hc).symm.trans hf
    refine z_if_eq_f B 20 rfl 54 (by decide) hc ?_
    refine z_aload_n B 21 rfl 3 2 rfl rfl ?_
    refine z_getr 1 1 16 B 22 rfl ob_16 rfl (iX6_drop _ (List.mem_of_getElem? (i := 9) rfl)) rfl ?_
    refine z_iload_n B 23 rfl 1 0 rfl rfl ?_
    obtain ⟨r3, ec, hf⟩ := bd_e hf
    refine z_callV 24 2 [.int x1] [] [.int r3.1] X B 24 rfl (by decide) ob_24 rfl rfl miX2_dropSteps ⟨(iX6_drop _ (List.mem_of_getElem? (i := 10) rfl)), (iX6_drop _ (List.mem_of_getElem? (i := 11) rfl)), (iX6_drop _ (List.mem_of_getElem? (i := 12) rfl))⟩ (ctX2_dropSteps hj ob_24 ec) ⟨Nat.le_of_ble_eq_true rfl, Nat.le_of_ble_eq_true rfl⟩ rfl rfl (Nat.le_of_ble_eq_true rfl) rfl ?_
    refine z_goto B 25 rfl 62 (by decide) ?_
    cases hf
    exact z_iret B 30 rfl rfl hQ hr
def f6_drop (mm : Mem) (a1 : Int32) (a2 : Int32) : Option (Int32 × Mem) := if a2 = 0 then bd (f5_has mm 17 a1) (fun r1 => if r1 = 0 then some ((-1 : Int32), mm) else f6_drop_j39 a1 a2 mm) else bd (f2_has mm 24 a1) (fun r4 => if r4 = 0 then some ((-1 : Int32), mm) else f6_drop_j39 a1 a2 mm)
theorem ctX6_drop {l : Launch} {C : Cfg} (hj : Dj C) {mm : Mem} {a1 : Int32} {a2 : Int32} {x : (Int32 × Mem)} (hf : f6_drop mm a1 a2 = some x) : Ct l C yX6_drop cX6_drop 4 (some .int) 2 44 [.ref 14, .int a1, .int a2] mm (some (.int x.1)) x.2 := by
  refine Ct.of (tb := tbX6_drop) hj miX6_drop.2.1 miX6_drop.1 dtX6_drop (Nat.le_of_ble_eq_true rfl) ?_
  intro E B hQ hr X
  unfold f6_drop at hf
  show G E 4 0 [(0, .ref 14), (1, .int a1), (2, .int a2)] [] mm
  refine z_aload_n B 0 rfl 0 0 rfl rfl ?_
  refine z_getr 6 0 14 B 1 rfl ob_14 rfl (iX6_drop _ (List.mem_of_getElem? (i := 0) rfl)) rfl ?_
  refine z_getr 0 0 15 B 2 rfl ob_15 rfl (iX6_drop _ (List.mem_of_getElem? (i := 1) rfl)) rfl ?_
  refine z_astore_n [(3, .ref 16), (0, .ref 14), (1, .int a1), (2, .int a2)] B 3 rfl 3 rfl (by decide) rfl ?_
  refine z_iload_n B 4 rfl 2 3 rfl rfl ?_
  by_cases hc : a2 = 0
  · replace hf := (if_pos hc).symm.trans hf
    refine z_if_eq_t B 5 rfl 26 (by decide) hc ?_
    refine z_aload_n B 12 rfl 3 0 rfl rfl ?_
    refine z_getr 1 0 16 B 13 rfl ob_16 rfl (iX6_drop _ (List.mem_of_getElem? (i := 2) rfl)) rfl ?_
    refine z_iload_n B 14 rfl 1 2 rfl rfl ?_
    obtain ⟨r1, ec, hf⟩ := bd_e hf
    refine z_callV 17 5 [.int a1] [] [.int r1] X B 15 rfl (by decide) ob_17 rfl rfl miX5_has ⟨(iX6_drop _ (List.mem_of_getElem? (i := 3) rfl)), (iX6_drop _ (List.mem_of_getElem? (i := 4) rfl)), (iX6_drop _ (List.mem_of_getElem? (i := 5) rfl))⟩ (ctX5_has hj ob_17 ec) ⟨Nat.le_of_ble_eq_true rfl, Nat.le_of_ble_eq_true rfl⟩ rfl rfl (Nat.le_of_ble_eq_true rfl) rfl ?_
    by_cases hc : r1 = 0
    · replace hf := (if_pos hc).symm.trans hf
      refine z_if_ne_f B 16 rfl 39 (by decide) hc ?_
      refine z_iconst (-1) B 17 rfl (by decide) ?_
      cases hf
      exact z_iret B 18 rfl rfl hQ hr
    · replace hf := (if_neg hc).symm.trans hf
      refine z_if_ne_t B 16 rfl 39 (by decide) hc ?_
      refine z_sub [(1, .int a1), (2, .int a2), (3, .ref 16)] [2, 3, 0] rfl ?_
      exact f6_drop_j39_ok hj X B hQ hr _ _ _ hf
  · replace hf := (if_neg hc).symm.trans hf
    refine z_if_eq_f B 5 rfl 26 (by decide) hc ?_
    refine z_aload_n B 6 rfl 3 0 rfl rfl ?_
    refine z_getr 1 1 16 B 7 rfl ob_16 rfl (iX6_drop _ (List.mem_of_getElem? (i := 9) rfl)) rfl ?_
    refine z_iload_n B 8 rfl 1 2 rfl rfl ?_
    obtain ⟨r4, ec, hf⟩ := bd_e hf
    refine z_callV 24 2 [.int a1] [] [.int r4] X B 9 rfl (by decide) ob_24 rfl rfl miX2_has ⟨(iX6_drop _ (List.mem_of_getElem? (i := 13) rfl)), (iX6_drop _ (List.mem_of_getElem? (i := 14) rfl)), (iX6_drop _ (List.mem_of_getElem? (i := 15) rfl))⟩ (ctX2_has hj ob_24 ec) ⟨Nat.le_of_ble_eq_true rfl, Nat.le_of_ble_eq_true rfl⟩ rfl rfl (Nat.le_of_ble_eq_true rfl) rfl ?_
    by_cases hc : r4 = 0
    · replace hf := (if_pos hc).symm.trans hf
      refine z_if_ne_f B 10 rfl 39 (by decide) hc ?_
      refine z_goto B 11 rfl 37 (by decide) ?_
      refine z_iconst (-1) B 17 rfl (by decide) ?_
      cases hf
      exact z_iret B 18 rfl rfl hQ hr
    · replace hf := (if_neg hc).symm.trans hf
      refine z_if_ne_t B 10 rfl 39 (by decide) hc ?_
      refine z_sub [(1, .int a1), (2, .int a2), (3, .ref 16)] [2, 3, 0] rfl ?_
      exact f6_drop_j39_ok hj X B hQ hr _ _ _ hf
/-! ZoneCapacity.change([III)Z -/
def tbX6_change : Tb := [(0, .aload_n 0, 1, 1), (1, .iload_n 1, 1, 2), (2, .invokestatic 92, 3, 5), (5, .iload_n 2, 1, 6), (6, .if_icmp .ne 5, 3, 9), (9, .iconst 0, 1, 10), (10, .ireturn, 1, 11), (11, .aload_n 0, 1, 12), (12, .iload_n 1, 1, 13), (13, .iload_n 2, 1, 14), (14, .invokestatic 257, 3, 17), (17, .iconst 1, 1, 18), (18, .ireturn, 1, 19)]
theorem dtX6_change : ∀ q ∈ tbX6_change, decode cX6_change q.1 = .ok (q.2.1, q.2.2.1) ∧ q.1 + q.2.2.1 = q.2.2.2 := by decide +kernel
theorem miX6_change : MI yX6_change cX6_change 3 (some .boolean) 3 := ⟨tw_mem (List.mem_of_getElem? (i := 317) (by decide +kernel)) rfl, by decide, by decide +kernel, tw_mem (List.mem_of_getElem? (i := 14) (by decide +kernel)) rfl⟩
abbrev rmX6_change : Room := { frames := 1, cells := 0, slots := 0, locals := 22 }
def wX6_change : List Cond := [.methodLink "ZoneCapacity" 92 yX6_at, .static yX6_at, .methodLink "ZoneCapacity" 257 yX6_put, .static yX6_put]
theorem iX6_change : ∀ w ∈ wX6_change, w ∈ TW := tw_of (ids := [271, 272, 318, 291]) (by decide +kernel)
def f6_change (mm : Mem) (a0 : Nat) (a1 : Int32) (a2 : Int32) : Option (Int32 × Mem) := bd (f6_at mm a0 a1) (fun r1 => if r1 = a2 then some ((0 : Int32), mm) else bd (f6_put mm a0 a1 a2) (fun r2 => some ((1 : Int32), r2)))
theorem ctX6_change {l : Launch} {C : Cfg} (hj : Dj C) {mm : Mem} {a0 : Nat} {a1 : Int32} {a2 : Int32} {x : (Int32 × Mem)} (o_a0 : Ob a0 8) (hf : f6_change mm a0 a1 a2 = some x) : Ct l C yX6_change cX6_change 3 (some .boolean) 1 22 [.ref a0, .int a1, .int a2] mm (some (.int x.1)) x.2 := by
  refine Ct.of (tb := tbX6_change) hj miX6_change.2.1 miX6_change.1 dtX6_change (Nat.le_of_ble_eq_true rfl) ?_
  intro E B hQ hr X
  unfold f6_change at hf
  show G E 3 0 [(0, .ref a0), (1, .int a1), (2, .int a2)] [] mm
  refine z_aload_n B 0 rfl 0 0 rfl rfl ?_
  refine z_iload_n B 1 rfl 1 1 rfl rfl ?_
  obtain ⟨r1, ec, hf⟩ := bd_e hf
  refine z_callS [.ref a0, .int a1] [] [.int r1] X B 2 rfl miX6_at ⟨(iX6_change _ (List.mem_of_getElem? (i := 0) rfl)), (iX6_change _ (List.mem_of_getElem? (i := 1) rfl))⟩ (ctX6_at hj o_a0 ec) ⟨Nat.le_of_ble_eq_true rfl, Nat.le_of_ble_eq_true rfl⟩ rfl rfl (Nat.le_of_ble_eq_true rfl) rfl ?_
  refine z_iload_n B 3 rfl 2 2 rfl rfl ?_
  by_cases hc : r1 = a2
  · replace hf := (if_pos hc).symm.trans hf
    refine z_icmp_ne_f B 4 rfl 11 (by decide) hc ?_
    refine z_iconst 0 B 5 rfl (by decide) ?_
    cases hf
    exact z_iret B 6 rfl (by decide) hQ hr
  · replace hf := (if_neg hc).symm.trans hf
    refine z_icmp_ne_t B 4 rfl 11 (by decide) hc ?_
    refine z_aload_n B 7 rfl 0 0 rfl rfl ?_
    refine z_iload_n B 8 rfl 1 1 rfl rfl ?_
    refine z_iload_n B 9 rfl 2 2 rfl rfl ?_
    obtain ⟨r2, ec, hf⟩ := bd_e hf
    refine z_callS [.ref a0, .int a1, .int a2] [] [] X B 10 rfl miX6_put ⟨(iX6_change _ (List.mem_of_getElem? (i := 2) rfl)), (iX6_change _ (List.mem_of_getElem? (i := 3) rfl))⟩ (ctX6_put hj o_a0 ec) ⟨Nat.le_of_ble_eq_true rfl, Nat.le_of_ble_eq_true rfl⟩ rfl rfl (Nat.le_of_ble_eq_true rfl) rfl ?_
    refine z_iconst 1 B 11 rfl (by decide) ?_
    cases hf
    exact z_iret B 12 rfl (by decide) hQ hr
/-! ZoneCapacity.set(III)Z -/
def tbX6_set : Tb := [(0, .aload_n 0, 1, 1), (1, .getfield 10, 3, 4), (4, .getfield 57, 3, 7), (7, .getfield 71, 3, 10), (10, .astore 4, 2, 12), (12, .aload_n 0, 1, 13), (13, .getfield 10, 3, 16), (16, .getfield 57, 3, 19), (19, .getfield 106, 3, 22), (22, .astore 5, 2, 24), (24, .iload_n 3, 1, 25), (25, .iconst 0, 1, 26), (26, .sipush 9999, 3, 29), (29, .invokestatic 50, 3, 32), (32, .ifCond .ne 5, 3, 35), (35, .iconst 0, 1, 36), (36, .ireturn, 1, 37), (37, .iload_n 1, 1, 38), (38, .tableswitch 158 0 4 #[34, 62, 69, 97, 125], 34, 72), (72, .iload_n 2, 1, 73), (73, .iconst 0, 1, 74), (74, .iconst 3, 1, 75), (75, .invokestatic 50, 3, 78), (78, .ifCond .eq 20, 3, 81), (81, .aload 5, 2, 83), (83, .getfield 133, 3, 86), (86, .iload_n 2, 1, 87), (87, .iload_n 3, 1, 88), (88, .invokestatic 136, 3, 91), (91, .ifCond .eq 7, 3, 94), (94, .iconst 1, 1, 95), (95, .goto 4, 3, 98), (98, .iconst 0, 1, 99), (99, .ireturn, 1, 100), (100, .aload 5, 2, 102), (102, .iload_n 3, 1, 103), (103, .invokevirtual 140, 3, 106), (106, .ireturn, 1, 107), (107, .aload 4, 2, 109), (109, .iload_n 2, 1, 110), (110, .invokevirtual 143, 3, 113), (113, .ifCond .eq 20, 3, 116), (116, .aload 4, 2, 118), (118, .getfield 146, 3, 121), (121, .iload_n 2, 1, 122), (122, .iload_n 3, 1, 123), (123, .invokestatic 136, 3, 126), (126, .ifCond .eq 7, 3, 129), (129, .iconst 1, 1, 130), (130, .goto 4, 3, 133), (133, .iconst 0, 1, 134), (134, .ireturn, 1, 135), (135, .aload 4, 2, 137), (137, .iload_n 2, 1, 138), (138, .invokevirtual 143, 3, 141), (141, .ifCond .eq 20, 3, 144), (144, .aload 4, 2, 146), (146, .getfield 149, 3, 149), (149, .iload_n 2, 1, 150), (150, .iload_n 3, 1, 151), (151, .invokestatic 136, 3, 154), (154, .ifCond .eq 7, 3, 157), (157, .iconst 1, 1, 158), (158, .goto 4, 3, 161), (161, .iconst 0, 1, 162), (162, .ireturn, 1, 163), (163, .iload_n 3, 1, 164), (164, .iconst 1, 1, 165), (165, .if_icmp .gt 29, 3, 168), (168, .aload 5, 2, 170), (170, .iload_n 2, 1, 171), (171, .invokevirtual 116, 3, 174), (174, .ifCond .eq 20, 3, 177), (177, .aload 5, 2, 179), (179, .getfield 152, 3, 182), (182, .iload_n 2, 1, 183), (183, .iload_n 3, 1, 184), (184, .invokestatic 136, 3, 187), (187, .ifCond .eq 7, 3, 190), (190, .iconst 1, 1, 191), (191, .goto 4, 3, 194), (194, .iconst 0, 1, 195), (195, .ireturn, 1, 196), (196, .iconst 0, 1, 197), (197, .ireturn, 1, 198)]
theorem dtX6_set : ∀ q ∈ tbX6_set, decode cX6_set q.1 = .ok (q.2.1, q.2.2.1) ∧ q.1 + q.2.2.1 = q.2.2.2 := by decide +kernel
theorem miX6_set : MI yX6_set cX6_set 6 (some .boolean) 3 := ⟨tw_mem (List.mem_of_getElem? (i := 314) (by decide +kernel)) rfl, by decide, by decide +kernel, tw_mem (List.mem_of_getElem? (i := 14) (by decide +kernel)) rfl⟩
abbrev rmX6_set : Room := { frames := 2, cells := 0, slots := 0, locals := 44 }
def wX6_set : List Cond := [.fieldLink "ZoneCapacity" 10 "ZoneCapacity" "now" "LZoneCapacity$Auction;", .fieldLink "ZoneCapacity" 57 "ZoneCapacity$Auction" "market" "LZoneCapacity$Market;", .fieldLink "ZoneCapacity" 71 "ZoneCapacity$Market" "zones" "LZoneCapacity$Zones;", .fieldLink "ZoneCapacity" 106 "ZoneCapacity$Market" "offers" "LZoneCapacity$Offers;", .methodLink "ZoneCapacity" 50 yX6_within, .static yX6_within, .fieldLink "ZoneCapacity" 133 "ZoneCapacity$Offers" "floors" "[I", .methodLink "ZoneCapacity" 136 yX6_change, .static yX6_change, .methodLink "ZoneCapacity" 140 yX2_changeCeiling, .instanceMethod yX2_changeCeiling, .selects "ZoneCapacity$Offers" yX2_changeCeiling yX2_changeCeiling, .methodLink "ZoneCapacity" 143 yX5_hasInner, .instanceMethod yX5_hasInner, .selects "ZoneCapacity$Zones" yX5_hasInner yX5_hasInner, .fieldLink "ZoneCapacity" 146 "ZoneCapacity$Zones" "in" "[I", .fieldLink "ZoneCapacity" 149 "ZoneCapacity$Zones" "out" "[I", .methodLink "ZoneCapacity" 116 yX2_has, .instanceMethod yX2_has, .selects "ZoneCapacity$Offers" yX2_has yX2_has, .fieldLink "ZoneCapacity" 152 "ZoneCapacity$Offers" "free" "[I"]
theorem iX6_set : ∀ w ∈ wX6_set, w ∈ TW := tw_of (ids := [243, 161, 151, 154, 279, 280, 110, 315, 316, 319, 320, 321, 323, 324, 325, 74, 77, 297, 298, 299, 119]) (by decide +kernel)
def f6_set (mm : Mem) (a1 : Int32) (a2 : Int32) (a3 : Int32) : Option (Int32 × Mem) := bd (f6_within mm a3 (0 : Int32) (9999 : Int32)) (fun r1 => if r1 = 0 then some ((0 : Int32), mm) else if a1 = 0 then bd (f6_within mm a2 (0 : Int32) (3 : Int32)) (fun r2 => if r2 = 0 then some ((0 : Int32), mm) else bd (f6_change mm 25 a2 a3) (fun r3 => if r3.1 = 0 then some ((0 : Int32), r3.2) else some ((1 : Int32), r3.2))) else if a1 = 1 then bd (f2_changeCeiling mm 24 a3) (fun r4 => bok r4.1 (some (r4.1, r4.2))) else if a1 = 2 then bd (f5_hasInner mm 17 a2) (fun r5 => if r5 = 0 then some ((0 : Int32), mm) else bd (f6_change mm 19 a2 a3) (fun r6 => if r6.1 = 0 then some ((0 : Int32), r6.2) else some ((1 : Int32), r6.2))) else if a1 = 3 then bd (f5_hasInner mm 17 a2) (fun r7 => if r7 = 0 then some ((0 : Int32), mm) else bd (f6_change mm 20 a2 a3) (fun r8 => if r8.1 = 0 then some ((0 : Int32), r8.2) else some ((1 : Int32), r8.2))) else if a1 = 4 then if (1 : Int32) < a3 then some ((0 : Int32), mm) else bd (f2_has mm 24 a2) (fun r9 => if r9 = 0 then some ((0 : Int32), mm) else bd (f6_change mm 31 a2 a3) (fun r10 => if r10.1 = 0 then some ((0 : Int32), r10.2) else some ((1 : Int32), r10.2))) else some ((0 : Int32), mm))
theorem ctX6_set {l : Launch} {C : Cfg} (hj : Dj C) {mm : Mem} {a1 : Int32} {a2 : Int32} {a3 : Int32} {x : (Int32 × Mem)} (hf : f6_set mm a1 a2 a3 = some x) : Ct l C yX6_set cX6_set 6 (some .boolean) 2 44 [.ref 14, .int a1, .int a2, .int a3] mm (some (.int x.1)) x.2 := by
  refine Ct.of (tb := tbX6_set) hj miX6_set.2.1 miX6_set.1 dtX6_set (Nat.le_of_ble_eq_true rfl) ?_
  intro E B hQ hr X
  unfold f6_set at hf
  show G E 6 0 [(0, .ref 14), (1, .int a1), (2, .int a2), (3, .int a3)] [] mm
  refine z_aload_n B 0 rfl 0 0 rfl rfl ?_
  refine z_getr 6 0 14 B 1 rfl ob_14 rfl (iX6_set _ (List.mem_of_getElem? (i := 0) rfl)) rfl ?_
  refine z_getr 0 0 15 B 2 rfl ob_15 rfl (iX6_set _ (List.mem_of_getElem? (i := 1) rfl)) rfl ?_
  refine z_getr 1 0 16 B 3 rfl ob_16 rfl (iX6_set _ (List.mem_of_getElem? (i := 2) rfl)) rfl ?_
  refine z_astore [(4, .ref 17), (0, .ref 14), (1, .int a1), (2, .int a2), (3, .int a3)] B 4 rfl (by decide) rfl ?_
  refine z_aload_n B 5 rfl 0 1 rfl rfl ?_
  refine z_getr 6 0 14 B 6 rfl ob_14 rfl (iX6_set _ (List.mem_of_getElem? (i := 0) rfl)) rfl ?_
  refine z_getr 0 0 15 B 7 rfl ob_15 rfl (iX6_set _ (List.mem_of_getElem? (i := 1) rfl)) rfl ?_
  refine z_getr 1 1 16 B 8 rfl ob_16 rfl (iX6_set _ (List.mem_of_getElem? (i := 3) rfl)) rfl ?_
  refine z_astore [(5, .ref 24), (4, .ref 17), (0, .ref 14), (1, .int a1), (2, .int a2), (3, .int a3)] B 9 rfl (by decide) rfl ?_
  refine z_iload_n B 10 rfl 3 5 rfl rfl ?_
  refine z_iconst 0 B 11 rfl (by decide) ?_
  refine z_sipush 9999 B 12 rfl (by decide) ?_
  obtain ⟨r1, ec, hf⟩ := bd_e hf
  refine z_callS [.int a3, .int (0 : Int32), .int (9999 : Int32)] [] [.int r1] X B 13 rfl miX6_within ⟨(iX6_set _ (List.mem_of_getElem? (i := 4) rfl)), (iX6_set _ (List.mem_of_getElem? (i := 5) rfl))⟩ (ctX6_within hj ec) ⟨Nat.le_of_ble_eq_true rfl, Nat.le_of_ble_eq_true rfl⟩ rfl rfl (Nat.le_of_ble_eq_true rfl) rfl ?_
  by_cases hc : r1 = 0
  · replace hf := (if_pos hc).symm.trans hf
    refine z_if_ne_f B 14 rfl 37 (by decide) hc ?_
    refine z_iconst 0 B 15 rfl (by decide) ?_
    cases hf
    exact z_iret B 16 rfl (by decide) hQ hr
  · replace hf := (if_neg hc).symm.trans hf
    refine z_if_ne_t B 14 rfl 37 (by decide) hc ?_
    refine z_iload_n B 17 rfl 1 3 rfl rfl ?_
    by_cases hc : a1 = 0
    · replace hf := (if_pos hc).symm.trans hf
      refine z_tswi B 18 rfl 0 (34) 72 (by rw [hc]; decide) (by decide) rfl (by decide) ?_
      refine z_iload_n B 19 rfl 2 4 rfl rfl ?_
      refine z_iconst 0 B 20 rfl (by decide) ?_
      refine z_iconst 3 B 21 rfl (by decide) ?_
      obtain ⟨r2, ec, hf⟩ := bd_e hf
      refine z_callS [.int a2, .int (0 : Int32), .int (3 : Int32)] [] [.int r2] X B 22 rfl miX6_within ⟨(iX6_set _ (List.mem_of_getElem? (i := 4) rfl)), (iX6_set _ (List.mem_of_getElem? (i := 5) rfl))⟩ (ctX6_within hj ec) ⟨Nat.le_of_ble_eq_true rfl, Nat.le_of_ble_eq_true rfl⟩ rfl rfl (Nat.le_of_ble_eq_true rfl) rfl ?_
      by_cases hc : r2 = 0
      · replace hf := (if_pos hc).symm.trans hf
        refine z_if_eq_t B 23 rfl 98 (by decide) hc ?_
        refine z_iconst 0 B 32 rfl (by decide) ?_
        cases hf
        exact z_iret B 33 rfl (by decide) hQ hr
      · replace hf := (if_neg hc).symm.trans hf
        refine z_if_eq_f B 23 rfl 98 (by decide) hc ?_
        refine z_aload B 24 rfl 0 rfl ?_
        refine z_getr 2 2 24 B 25 rfl ob_24 rfl (iX6_set _ (List.mem_of_getElem? (i := 6) rfl)) rfl ?_
        refine z_iload_n B 26 rfl 2 4 rfl rfl ?_
        refine z_iload_n B 27 rfl 3 5 rfl rfl ?_
        obtain ⟨r3, ec, hf⟩ := bd_e hf
        refine z_callS [.ref 25, .int a2, .int a3] [] [.int r3.1] X B 28 rfl miX6_change ⟨(iX6_set _ (List.mem_of_getElem? (i := 7) rfl)), (iX6_set _ (List.mem_of_getElem? (i := 8) rfl))⟩ (ctX6_change hj ob_25 ec) ⟨Nat.le_of_ble_eq_true rfl, Nat.le_of_ble_eq_true rfl⟩ rfl rfl (Nat.le_of_ble_eq_true rfl) rfl ?_
        by_cases hc : r3.1 = 0
        · replace hf := (if_pos hc).symm.trans hf
          refine z_if_eq_t B 29 rfl 98 (by decide) hc ?_
          refine z_iconst 0 B 32 rfl (by decide) ?_
          cases hf
          exact z_iret B 33 rfl (by decide) hQ hr
        · replace hf := (if_neg hc).symm.trans hf
          refine z_if_eq_f B 29 rfl 98 (by decide) hc ?_
          refine z_iconst 1 B 30 rfl (by decide) ?_
          refine z_goto B 31 rfl 99 (by decide) ?_
          cases hf
          exact z_iret B 33 rfl (by decide) hQ hr
    · replace hf := (if_neg hc).symm.trans hf
      have hc0 := hc
      by_cases hc : a1 = 1
      · replace hf := (if_pos hc).symm.trans hf
        refine z_tswi B 18 rfl 1 (62) 100 (by rw [hc]; decide) (by decide) rfl (by decide) ?_
        refine z_aload B 34 rfl 0 rfl ?_
        refine z_iload_n B 35 rfl 3 5 rfl rfl ?_
        obtain ⟨r4, ec, hf⟩ := bd_e hf
        refine z_callV 24 2 [.int a3] [] [.int r4.1] X B 36 rfl (by decide) ob_24 rfl rfl miX2_changeCeiling ⟨(iX6_set _ (List.mem_of_getElem? (i := 9) rfl)), (iX6_set _ (List.mem_of_getElem? (i := 10) rfl)), (iX6_set _ (List.mem_of_getElem? (i := 11) rfl))⟩ (ctX2_changeCeiling hj ob_24 ec) ⟨Nat.le_of_ble_eq_true rfl, Nat.le_of_ble_eq_true rfl⟩ rfl rfl (Nat.le_of_ble_eq_true rfl) rfl ?_
        obtain ⟨hb, hf⟩ := bok_e hf
        cases hf
        exact z_iret B 37 rfl (bok_n hb) hQ hr
      · replace hf := (if_neg hc).symm.trans hf
        have hc1 := hc
        by_cases hc : a1 = 2
        · replace hf := (if_pos hc).symm.trans hf
          refine z_tswi B 18 rfl 2 (69) 107 (by rw [hc]; decide) (by decide) rfl (by decide) ?_
          refine z_aload B 38 rfl 1 rfl ?_
          refine z_iload_n B 39 rfl 2 4 rfl rfl ?_
          obtain ⟨r5, ec, hf⟩ := bd_e hf
          refine z_callV 17 5 [.int a2] [] [.int r5] X B 40 rfl (by decide) ob_17 rfl rfl miX5_hasInner ⟨(iX6_set _ (List.mem_of_getElem? (i := 12) rfl)), (iX6_set _ (List.mem_of_getElem? (i := 13) rfl)), (iX6_set _ (List.mem_of_getElem? (i := 14) rfl))⟩ (ctX5_hasInner hj ob_17 ec) ⟨Nat.le_of_ble_eq_true rfl, Nat.le_of_ble_eq_true rfl⟩ rfl rfl (Nat.le_of_ble_eq_true rfl) rfl ?_
          by_cases hc : r5 = 0
          · replace hf := (if_pos hc).symm.trans hf
            refine z_if_eq_t B 41 rfl 133 (by decide) hc ?_
            refine z_iconst 0 B 50 rfl (by decide) ?_
            cases hf
            exact z_iret B 51 rfl (by decide) hQ hr
          · replace hf := (if_neg hc).symm.trans hf
            refine z_if_eq_f B 41 rfl 133 (by decide) hc ?_
            refine z_aload B 42 rfl 1 rfl ?_
            refine z_getr 5 2 17 B 43 rfl ob_17 rfl (iX6_set _ (List.mem_of_getElem? (i := 15) rfl)) rfl ?_
            refine z_iload_n B 44 rfl 2 4 rfl rfl ?_
            refine z_iload_n B 45 rfl 3 5 rfl rfl ?_
            obtain ⟨r6, ec, hf⟩ := bd_e hf
            refine z_callS [.ref 19, .int a2, .int a3] [] [.int r6.1] X B 46 rfl miX6_change ⟨(iX6_set _ (List.mem_of_getElem? (i := 7) rfl)), (iX6_set _ (List.mem_of_getElem? (i := 8) rfl))⟩ (ctX6_change hj ob_19 ec) ⟨Nat.le_of_ble_eq_true rfl, Nat.le_of_ble_eq_true rfl⟩ rfl rfl (Nat.le_of_ble_eq_true rfl) rfl ?_
            by_cases hc : r6.1 = 0
            · replace hf := (if_pos hc).symm.trans hf
              refine z_if_eq_t B 47 rfl 133 (by decide) hc ?_
              refine z_iconst 0 B 50 rfl (by decide) ?_
              cases hf
              exact z_iret B 51 rfl (by decide) hQ hr
            · replace hf := (if_neg hc).symm.trans hf
              refine z_if_eq_f B 47 rfl 133 (by decide) hc ?_
              refine z_iconst 1 B 48 rfl (by decide) ?_
              refine z_goto B 49 rfl 134 (by decide) ?_
              cases hf
              exact z_iret B 51 rfl (by decide) hQ hr
        · replace hf := (if_neg hc).symm.trans hf
          have hc2 := hc
          by_cases hc : a1 = 3
          · replace hf := (if_pos hc).symm.trans hf
            refine z_tswi B 18 rfl 3 (97) 135 (by rw [hc]; decide) (by decide) rfl (by decide) ?_
            refine z_aload B 52 rfl 1 rfl ?_
            refine z_iload_n B 53 rfl 2 4 rfl rfl ?_
            obtain ⟨r7, ec, hf⟩ := bd_e hf
            refine z_callV 17 5 [.int a2] [] [.int r7] X B 54 rfl (by decide) ob_17 rfl rfl miX5_hasInner ⟨(iX6_set _ (List.mem_of_getElem? (i := 12) rfl)), (iX6_set _ (List.mem_of_getElem? (i := 13) rfl)), (iX6_set _ (List.mem_of_getElem? (i := 14) rfl))⟩ (ctX5_hasInner hj ob_17 ec) ⟨Nat.le_of_ble_eq_true rfl, Nat.le_of_ble_eq_true rfl⟩ rfl rfl (Nat.le_of_ble_eq_true rfl) rfl ?_
            by_cases hc : r7 = 0
            · replace hf := (if_pos hc).symm.trans hf
              refine z_if_eq_t B 55 rfl 161 (by decide) hc ?_
              refine z_iconst 0 B 64 rfl (by decide) ?_
              cases hf
              exact z_iret B 65 rfl (by decide) hQ hr
            · replace hf := (if_neg hc).symm.trans hf
              refine z_if_eq_f B 55 rfl 161 (by decide) hc ?_
              refine z_aload B 56 rfl 1 rfl ?_
              refine z_getr 5 3 17 B 57 rfl ob_17 rfl (iX6_set _ (List.mem_of_getElem? (i := 16) rfl)) rfl ?_
              refine z_iload_n B 58 rfl 2 4 rfl rfl ?_
              refine z_iload_n B 59 rfl 3 5 rfl rfl ?_
              obtain ⟨r8, ec, hf⟩ := bd_e hf
              refine z_callS [.ref 20, .int a2, .int a3] [] [.int r8.1] X B 60 rfl miX6_change ⟨(iX6_set _ (List.mem_of_getElem? (i := 7) rfl)), (iX6_set _ (List.mem_of_getElem? (i := 8) rfl))⟩ (ctX6_change hj ob_20 ec) ⟨Nat.le_of_ble_eq_true rfl, Nat.le_of_ble_eq_true rfl⟩ rfl rfl (Nat.le_of_ble_eq_true rfl) rfl ?_
              by_cases hc : r8.1 = 0
              · replace hf := (if_pos hc).symm.trans hf
                refine z_if_eq_t B 61 rfl 161 (by decide) hc ?_
                refine z_iconst 0 B 64 rfl (by decide) ?_
                cases hf
                exact z_iret B 65 rfl (by decide) hQ hr
              · replace hf := (if_neg hc).symm.trans hf
                refine z_if_eq_f B 61 rfl 161 (by decide) hc ?_
                refine z_iconst 1 B 62 rfl (by decide) ?_
                refine z_goto B 63 rfl 162 (by decide) ?_
                cases hf
                exact z_iret B 65 rfl (by decide) hQ hr
          · replace hf := (if_neg hc).symm.trans hf
            have hc3 := hc
            by_cases hc : a1 = 4
            · replace hf := (if_pos hc).symm.trans hf
              refine z_tswi B 18 rfl 4 (125) 163 (by rw [hc]; decide) (by decide) rfl (by decide) ?_
              refine z_iload_n B 66 rfl 3 5 rfl rfl ?_
              refine z_iconst 1 B 67 rfl (by decide) ?_
              by_cases hc : (1 : Int32) < a3
              · replace hf := (if_pos hc).symm.trans hf
                refine z_icmp_gt_t B 68 rfl 194 (by decide) hc ?_
                refine z_iconst 0 B 81 rfl (by decide) ?_
                cases hf
                exact z_iret B 82 rfl (by decide) hQ hr
              · replace hf := (if_neg hc).symm.trans hf
                refine z_icmp_gt_f B 68 rfl 194 (by decide) hc ?_
                refine z_aload B 69 rfl 0 rfl ?_
                refine z_iload_n B 70 rfl 2 4 rfl rfl ?_
                obtain ⟨r9, ec, hf⟩ := bd_e hf
                refine z_callV 24 2 [.int a2] [] [.int r9] X B 71 rfl (by decide) ob_24 rfl rfl miX2_has ⟨(iX6_set _ (List.mem_of_getElem? (i := 17) rfl)), (iX6_set _ (List.mem_of_getElem? (i := 18) rfl)), (iX6_set _ (List.mem_of_getElem? (i := 19) rfl))⟩ (ctX2_has hj ob_24 ec) ⟨Nat.le_of_ble_eq_true rfl, Nat.le_of_ble_eq_true rfl⟩ rfl rfl (Nat.le_of_ble_eq_true rfl) rfl ?_
                by_cases hc : r9 = 0
                · replace hf := (if_pos hc).symm.trans hf
                  refine z_if_eq_t B 72 rfl 194 (by decide) hc ?_
                  refine z_iconst 0 B 81 rfl (by decide) ?_
                  cases hf
                  exact z_iret B 82 rfl (by decide) hQ hr
                · replace hf := (if_neg hc).symm.trans hf
                  refine z_if_eq_f B 72 rfl 194 (by decide) hc ?_
                  refine z_aload B 73 rfl 0 rfl ?_
                  refine z_getr 2 8 24 B 74 rfl ob_24 rfl (iX6_set _ (List.mem_of_getElem? (i := 20) rfl)) rfl ?_
                  refine z_iload_n B 75 rfl 2 4 rfl rfl ?_
                  refine z_iload_n B 76 rfl 3 5 rfl rfl ?_
                  obtain ⟨r10, ec, hf⟩ := bd_e hf
                  refine z_callS [.ref 31, .int a2, .int a3] [] [.int r10.1] X B 77 rfl miX6_change ⟨(iX6_set _ (List.mem_of_getElem? (i := 7) rfl)), (iX6_set _ (List.mem_of_getElem? (i := 8) rfl))⟩ (ctX6_change hj ob_31 ec) ⟨Nat.le_of_ble_eq_true rfl, Nat.le_of_ble_eq_true rfl⟩ rfl rfl (Nat.le_of_ble_eq_true rfl) rfl ?_
                  by_cases hc : r10.1 = 0
                  · replace hf := (if_pos hc).symm.trans hf
                    refine z_if_eq_t B 78 rfl 194 (by decide) hc ?_
                    refine z_iconst 0 B 81 rfl (by decide) ?_
                    cases hf
                    exact z_iret B 82 rfl (by decide) hQ hr
                  · replace hf := (if_neg hc).symm.trans hf
                    refine z_if_eq_f B 78 rfl 194 (by decide) hc ?_
                    refine z_iconst 1 B 79 rfl (by decide) ?_
                    refine z_goto B 80 rfl 195 (by decide) ?_
                    cases hf
                    exact z_iret B 82 rfl (by decide) hQ hr
            · replace hf := (if_neg hc).symm.trans hf
              have hc4 := hc
              refine z_tswo B 18 rfl 196 (tsw_out5 hc0 hc1 hc2 hc3 hc4) (by decide) ?_
              refine z_iconst 0 B 83 rfl (by decide) ?_
              cases hf
              exact z_iret B 84 rfl (by decide) hQ hr
/-! ZoneCapacity.line(IIZ)I -/
def tbX6_line : Tb := [(0, .aload_n 0, 1, 1), (1, .getfield 10, 3, 4), (4, .getfield 57, 3, 7), (7, .getfield 106, 3, 10), (10, .astore 4, 2, 12), (12, .aload 4, 2, 14), (14, .iload_n 1, 1, 15), (15, .iload_n 2, 1, 16), (16, .invokevirtual 188, 3, 19), (19, .ifCond .ne 5, 3, 22), (22, .iconst (-1), 1, 23), (23, .ireturn, 1, 24), (24, .iload_n 3, 1, 25), (25, .ifCond .eq 13, 3, 28), (28, .aload 4, 2, 30), (30, .iload_n 1, 1, 31), (31, .iload_n 2, 1, 32), (32, .invokevirtual 192, 3, 35), (35, .goto 10, 3, 38), (38, .aload 4, 2, 40), (40, .iload_n 1, 1, 41), (41, .iload_n 2, 1, 42), (42, .invokevirtual 196, 3, 45), (45, .ireturn, 1, 46)]
theorem dtX6_line : ∀ q ∈ tbX6_line, decode cX6_line q.1 = .ok (q.2.1, q.2.2.1) ∧ q.1 + q.2.2.1 = q.2.2.2 := by decide +kernel
theorem miX6_line : MI yX6_line cX6_line 5 (some .int) 3 := ⟨tw_mem (List.mem_of_getElem? (i := 975) (by decide +kernel)) rfl, by decide, by decide +kernel, tw_mem (List.mem_of_getElem? (i := 14) (by decide +kernel)) rfl⟩
abbrev rmX6_line : Room := { frames := 4, cells := 0, slots := 0, locals := 88 }
def wX6_line : List Cond := [.fieldLink "ZoneCapacity" 10 "ZoneCapacity" "now" "LZoneCapacity$Auction;", .fieldLink "ZoneCapacity" 57 "ZoneCapacity$Auction" "market" "LZoneCapacity$Market;", .fieldLink "ZoneCapacity" 106 "ZoneCapacity$Market" "offers" "LZoneCapacity$Offers;", .methodLink "ZoneCapacity" 188 yX2_hasLine, .instanceMethod yX2_hasLine, .selects "ZoneCapacity$Offers" yX2_hasLine yX2_hasLine, .methodLink "ZoneCapacity" 196 yX2_unitsOf, .instanceMethod yX2_unitsOf, .selects "ZoneCapacity$Offers" yX2_unitsOf yX2_unitsOf, .methodLink "ZoneCapacity" 192 yX2_itsOf, .instanceMethod yX2_itsOf, .selects "ZoneCapacity$Offers" yX2_itsOf yX2_itsOf]
theorem iX6_line : ∀ w ∈ wX6_line, w ∈ TW := tw_of (ids := [243, 161, 154, 415, 416, 417, 977, 341, 342, 976, 350, 351]) (by decide +kernel)
def f6_line (mm : Mem) (a1 : Int32) (a2 : Int32) (a3 : Int32) : Option Int32 := bd (f2_hasLine mm 24 a1 a2) (fun r1 => if r1 = 0 then some ((-1 : Int32)) else if a3 = 0 then bd (f2_unitsOf mm 24 a1 a2) (fun r2 => some (r2)) else bd (f2_itsOf mm 24 a1 a2) (fun r3 => some (r3)))
theorem ctX6_line {l : Launch} {C : Cfg} (hj : Dj C) {mm : Mem} {a1 : Int32} {a2 : Int32} {a3 : Int32} {x : Int32} (hf : f6_line mm a1 a2 a3 = some x) : Ct l C yX6_line cX6_line 5 (some .int) 4 88 [.ref 14, .int a1, .int a2, .int a3] mm (some (.int x)) mm := by
  refine Ct.of (tb := tbX6_line) hj miX6_line.2.1 miX6_line.1 dtX6_line (Nat.le_of_ble_eq_true rfl) ?_
  intro E B hQ hr X
  unfold f6_line at hf
  show G E 5 0 [(0, .ref 14), (1, .int a1), (2, .int a2), (3, .int a3)] [] mm
  refine z_aload_n B 0 rfl 0 0 rfl rfl ?_
  refine z_getr 6 0 14 B 1 rfl ob_14 rfl (iX6_line _ (List.mem_of_getElem? (i := 0) rfl)) rfl ?_
  refine z_getr 0 0 15 B 2 rfl ob_15 rfl (iX6_line _ (List.mem_of_getElem? (i := 1) rfl)) rfl ?_
  refine z_getr 1 1 16 B 3 rfl ob_16 rfl (iX6_line _ (List.mem_of_getElem? (i := 2) rfl)) rfl ?_
  refine z_astore [(4, .ref 24), (0, .ref 14), (1, .int a1), (2, .int a2), (3, .int a3)] B 4 rfl (by decide) rfl ?_
  refine z_aload B 5 rfl 0 rfl ?_
  refine z_iload_n B 6 rfl 1 2 rfl rfl ?_
  refine z_iload_n B 7 rfl 2 3 rfl rfl ?_
  obtain ⟨r1, ec, hf⟩ := bd_e hf
  refine z_callV 24 2 [.int a1, .int a2] [] [.int r1] X B 8 rfl (by decide) ob_24 rfl rfl miX2_hasLine ⟨(iX6_line _ (List.mem_of_getElem? (i := 3) rfl)), (iX6_line _ (List.mem_of_getElem? (i := 4) rfl)), (iX6_line _ (List.mem_of_getElem? (i := 5) rfl))⟩ (ctX2_hasLine hj ob_24 ec) ⟨Nat.le_of_ble_eq_true rfl, Nat.le_of_ble_eq_true rfl⟩ rfl rfl (Nat.le_of_ble_eq_true rfl) rfl ?_
  by_cases hc : r1 = 0
  · replace hf := (if_pos hc).symm.trans hf
    refine z_if_ne_f B 9 rfl 24 (by decide) hc ?_
    refine z_iconst (-1) B 10 rfl (by decide) ?_
    cases hf
    exact z_iret B 11 rfl rfl hQ hr
  · replace hf := (if_neg hc).symm.trans hf
    refine z_if_ne_t B 9 rfl 24 (by decide) hc ?_
    refine z_iload_n B 12 rfl 3 4 rfl rfl ?_
    by_cases hc : a3 = 0
    · replace hf := (if_pos hc).symm.trans hf
      refine z_if_eq_t B 13 rfl 38 (by decide) hc ?_
      refine z_aload B 19 rfl 0 rfl ?_
      refine z_iload_n B 20 rfl 1 2 rfl rfl ?_
      refine z_iload_n B 21 rfl 2 3 rfl rfl ?_
      obtain ⟨r2, ec, hf⟩ := bd_e hf
      refine z_callV 24 2 [.int a1, .int a2] [] [.int r2] X B 22 rfl (by decide) ob_24 rfl rfl miX2_unitsOf ⟨(iX6_line _ (List.mem_of_getElem? (i := 6) rfl)), (iX6_line _ (List.mem_of_getElem? (i := 7) rfl)), (iX6_line _ (List.mem_of_getElem? (i := 8) rfl))⟩ (ctX2_unitsOf hj ob_24 ec) ⟨Nat.le_of_ble_eq_true rfl, Nat.le_of_ble_eq_true rfl⟩ rfl rfl (Nat.le_of_ble_eq_true rfl) rfl ?_
      cases hf
      exact z_iret B 23 rfl rfl hQ hr
    · replace hf := (if_neg hc).symm.trans hf
      refine z_if_eq_f B 13 rfl 38 (by decide) hc ?_
      refine z_aload B 14 rfl 0 rfl ?_
      refine z_iload_n B 15 rfl 1 2 rfl rfl ?_
      refine z_iload_n B 16 rfl 2 3 rfl rfl ?_
      obtain ⟨r3, ec, hf⟩ := bd_e hf
      refine z_callV 24 2 [.int a1, .int a2] [] [.int r3] X B 17 rfl (by decide) ob_24 rfl rfl miX2_itsOf ⟨(iX6_line _ (List.mem_of_getElem? (i := 9) rfl)), (iX6_line _ (List.mem_of_getElem? (i := 10) rfl)), (iX6_line _ (List.mem_of_getElem? (i := 11) rfl))⟩ (ctX2_itsOf hj ob_24 ec) ⟨Nat.le_of_ble_eq_true rfl, Nat.le_of_ble_eq_true rfl⟩ rfl rfl (Nat.le_of_ble_eq_true rfl) rfl ?_
      refine z_goto B 18 rfl 45 (by decide) ?_
      cases hf
      exact z_iret B 23 rfl rfl hQ hr
/-! ZoneCapacity.worth(II)I -/
def tbX6_worth : Tb := [(0, .aload_n 0, 1, 1), (1, .getfield 10, 3, 4), (4, .getfield 57, 3, 7), (7, .getfield 71, 3, 10), (10, .astore_n 3, 1, 11), (11, .aload_n 3, 1, 12), (12, .iload_n 1, 1, 13), (13, .invokevirtual 80, 3, 16), (16, .ifCond .eq 12, 3, 19), (19, .aload_n 3, 1, 20), (20, .iload_n 1, 1, 21), (21, .iload_n 2, 1, 22), (22, .invokevirtual 199, 3, 25), (25, .goto 4, 3, 28), (28, .iconst (-1), 1, 29), (29, .ireturn, 1, 30)]
theorem dtX6_worth : ∀ q ∈ tbX6_worth, decode cX6_worth q.1 = .ok (q.2.1, q.2.2.1) ∧ q.1 + q.2.2.1 = q.2.2.2 := by decide +kernel
theorem miX6_worth : MI yX6_worth cX6_worth 4 (some .int) 2 := ⟨tw_mem (List.mem_of_getElem? (i := 824) (by decide +kernel)) rfl, by decide, by decide +kernel, tw_mem (List.mem_of_getElem? (i := 14) (by decide +kernel)) rfl⟩
abbrev rmX6_worth : Room := { frames := 2, cells := 0, slots := 0, locals := 49 }
def wX6_worth : List Cond := [.fieldLink "ZoneCapacity" 10 "ZoneCapacity" "now" "LZoneCapacity$Auction;", .fieldLink "ZoneCapacity" 57 "ZoneCapacity$Auction" "market" "LZoneCapacity$Market;", .fieldLink "ZoneCapacity" 71 "ZoneCapacity$Market" "zones" "LZoneCapacity$Zones;", .methodLink "ZoneCapacity" 80 yX5_has, .instanceMethod yX5_has, .selects "ZoneCapacity$Zones" yX5_has yX5_has, .methodLink "ZoneCapacity" 199 yX5_worthOf, .instanceMethod yX5_worthOf, .selects "ZoneCapacity$Zones" yX5_worthOf yX5_worthOf]
theorem iX6_worth : ∀ w ∈ wX6_worth, w ∈ TW := tw_of (ids := [243, 161, 151, 267, 268, 269, 825, 826, 827]) (by decide +kernel)
def f6_worth (mm : Mem) (a1 : Int32) (a2 : Int32) : Option Int32 := bd (f5_has mm 17 a1) (fun r1 => if r1 = 0 then some ((-1 : Int32)) else bd (f5_worthOf mm 17 a1 a2) (fun r2 => some (r2)))
theorem ctX6_worth {l : Launch} {C : Cfg} (hj : Dj C) {mm : Mem} {a1 : Int32} {a2 : Int32} {x : Int32} (hf : f6_worth mm a1 a2 = some x) : Ct l C yX6_worth cX6_worth 4 (some .int) 2 49 [.ref 14, .int a1, .int a2] mm (some (.int x)) mm := by
  refine Ct.of (tb := tbX6_worth) hj miX6_worth.2.1 miX6_worth.1 dtX6_worth (Nat.le_of_ble_eq_true rfl) ?_
  intro E B hQ hr X
  unfold f6_worth at hf
  show G E 4 0 [(0, .ref 14), (1, .int a1), (2, .int a2)] [] mm
  refine z_aload_n B 0 rfl 0 0 rfl rfl ?_
  refine z_getr 6 0 14 B 1 rfl ob_14 rfl (iX6_worth _ (List.mem_of_getElem? (i := 0) rfl)) rfl ?_
  refine z_getr 0 0 15 B 2 rfl ob_15 rfl (iX6_worth _ (List.mem_of_getElem? (i := 1) rfl)) rfl ?_
  refine z_getr 1 0 16 B 3 rfl ob_16 rfl (iX6_worth _ (List.mem_of_getElem? (i := 2) rfl)) rfl ?_
  refine z_astore_n [(3, .ref 17), (0, .ref 14), (1, .int a1), (2, .int a2)] B 4 rfl 3 rfl (by decide) rfl ?_
  refine z_aload_n B 5 rfl 3 0 rfl rfl ?_
  refine z_iload_n B 6 rfl 1 2 rfl rfl ?_
  obtain ⟨r1, ec, hf⟩ := bd_e hf
  refine z_callV 17 5 [.int a1] [] [.int r1] X B 7 rfl (by decide) ob_17 rfl rfl miX5_has ⟨(iX6_worth _ (List.mem_of_getElem? (i := 3) rfl)), (iX6_worth _ (List.mem_of_getElem? (i := 4) rfl)), (iX6_worth _ (List.mem_of_getElem? (i := 5) rfl))⟩ (ctX5_has hj ob_17 ec) ⟨Nat.le_of_ble_eq_true rfl, Nat.le_of_ble_eq_true rfl⟩ rfl rfl (Nat.le_of_ble_eq_true rfl) rfl ?_
  by_cases hc : r1 = 0
  · replace hf := (if_pos hc).symm.trans hf
    refine z_if_eq_t B 8 rfl 28 (by decide) hc ?_
    refine z_iconst (-1) B 14 rfl (by decide) ?_
    cases hf
    exact z_iret B 15 rfl rfl hQ hr
  · replace hf := (if_neg hc).symm.trans hf
    refine z_if_eq_f B 8 rfl 28 (by decide) hc ?_
    refine z_aload_n B 9 rfl 3 0 rfl rfl ?_
    refine z_iload_n B 10 rfl 1 2 rfl rfl ?_
    refine z_iload_n B 11 rfl 2 3 rfl rfl ?_
    obtain ⟨r2, ec, hf⟩ := bd_e hf
    refine z_callV 17 5 [.int a1, .int a2] [] [.int r2] X B 12 rfl (by decide) ob_17 rfl rfl miX5_worthOf ⟨(iX6_worth _ (List.mem_of_getElem? (i := 6) rfl)), (iX6_worth _ (List.mem_of_getElem? (i := 7) rfl)), (iX6_worth _ (List.mem_of_getElem? (i := 8) rfl))⟩ (ctX5_worthOf hj ob_17 ec) ⟨Nat.le_of_ble_eq_true rfl, Nat.le_of_ble_eq_true rfl⟩ rfl rfl (Nat.le_of_ble_eq_true rfl) rfl ?_
    refine z_goto B 13 rfl 29 (by decide) ?_
    cases hf
    exact z_iret B 15 rfl rfl hQ hr
/-! ZoneCapacity.wants(II)I -/
def tbX6_wants : Tb := [(0, .aload_n 0, 1, 1), (1, .getfield 10, 3, 4), (4, .getfield 57, 3, 7), (7, .getfield 71, 3, 10), (10, .astore_n 3, 1, 11), (11, .aload_n 3, 1, 12), (12, .iload_n 1, 1, 13), (13, .invokevirtual 80, 3, 16), (16, .ifCond .eq 14, 3, 19), (19, .iload_n 2, 1, 20), (20, .iconst 0, 1, 21), (21, .sipush 9999, 3, 24), (24, .invokestatic 50, 3, 27), (27, .ifCond .ne 5, 3, 30), (30, .iconst (-1), 1, 31), (31, .ireturn, 1, 32), (32, .aload_n 3, 1, 33), (33, .iload_n 1, 1, 34), (34, .iload_n 2, 1, 35), (35, .invokevirtual 202, 3, 38), (38, .ireturn, 1, 39)]
theorem dtX6_wants : ∀ q ∈ tbX6_wants, decode cX6_wants q.1 = .ok (q.2.1, q.2.2.1) ∧ q.1 + q.2.2.1 = q.2.2.2 := by decide +kernel
theorem miX6_wants : MI yX6_wants cX6_wants 4 (some .int) 2 := ⟨tw_mem (List.mem_of_getElem? (i := 832) (by decide +kernel)) rfl, by decide, by decide +kernel, tw_mem (List.mem_of_getElem? (i := 14) (by decide +kernel)) rfl⟩
abbrev rmX6_wants : Room := { frames := 2, cells := 0, slots := 0, locals := 51 }
def wX6_wants : List Cond := [.fieldLink "ZoneCapacity" 10 "ZoneCapacity" "now" "LZoneCapacity$Auction;", .fieldLink "ZoneCapacity" 57 "ZoneCapacity$Auction" "market" "LZoneCapacity$Market;", .fieldLink "ZoneCapacity" 71 "ZoneCapacity$Market" "zones" "LZoneCapacity$Zones;", .methodLink "ZoneCapacity" 80 yX5_has, .instanceMethod yX5_has, .selects "ZoneCapacity$Zones" yX5_has yX5_has, .methodLink "ZoneCapacity" 50 yX6_within, .static yX6_within, .methodLink "ZoneCapacity" 202 yX5_wantedFrom, .instanceMethod yX5_wantedFrom, .selects "ZoneCapacity$Zones" yX5_wantedFrom yX5_wantedFrom]
theorem iX6_wants : ∀ w ∈ wX6_wants, w ∈ TW := tw_of (ids := [243, 161, 151, 267, 268, 269, 279, 280, 833, 378, 379]) (by decide +kernel)
def f6_wants (mm : Mem) (a1 : Int32) (a2 : Int32) : Option Int32 := bd (f5_has mm 17 a1) (fun r1 => if r1 = 0 then some ((-1 : Int32)) else bd (f6_within mm a2 (0 : Int32) (9999 : Int32)) (fun r2 => if r2 = 0 then some ((-1 : Int32)) else bd (f5_wantedFrom mm 17 a1 a2) (fun r3 => some (r3))))
theorem ctX6_wants {l : Launch} {C : Cfg} (hj : Dj C) {mm : Mem} {a1 : Int32} {a2 : Int32} {x : Int32} (hf : f6_wants mm a1 a2 = some x) : Ct l C yX6_wants cX6_wants 4 (some .int) 2 51 [.ref 14, .int a1, .int a2] mm (some (.int x)) mm := by
  refine Ct.of (tb := tbX6_wants) hj miX6_wants.2.1 miX6_wants.1 dtX6_wants (Nat.le_of_ble_eq_true rfl) ?_
  intro E B hQ hr X
  unfold f6_wants at hf
  show G E 4 0 [(0, .ref 14), (1, .int a1), (2, .int a2)] [] mm
  refine z_aload_n B 0 rfl 0 0 rfl rfl ?_
  refine z_getr 6 0 14 B 1 rfl ob_14 rfl (iX6_wants _ (List.mem_of_getElem? (i := 0) rfl)) rfl ?_
  refine z_getr 0 0 15 B 2 rfl ob_15 rfl (iX6_wants _ (List.mem_of_getElem? (i := 1) rfl)) rfl ?_
  refine z_getr 1 0 16 B 3 rfl ob_16 rfl (iX6_wants _ (List.mem_of_getElem? (i := 2) rfl)) rfl ?_
  refine z_astore_n [(3, .ref 17), (0, .ref 14), (1, .int a1), (2, .int a2)] B 4 rfl 3 rfl (by decide) rfl ?_
  refine z_aload_n B 5 rfl 3 0 rfl rfl ?_
  refine z_iload_n B 6 rfl 1 2 rfl rfl ?_
  obtain ⟨r1, ec, hf⟩ := bd_e hf
  refine z_callV 17 5 [.int a1] [] [.int r1] X B 7 rfl (by decide) ob_17 rfl rfl miX5_has ⟨(iX6_wants _ (List.mem_of_getElem? (i := 3) rfl)), (iX6_wants _ (List.mem_of_getElem? (i := 4) rfl)), (iX6_wants _ (List.mem_of_getElem? (i := 5) rfl))⟩ (ctX5_has hj ob_17 ec) ⟨Nat.le_of_ble_eq_true rfl, Nat.le_of_ble_eq_true rfl⟩ rfl rfl (Nat.le_of_ble_eq_true rfl) rfl ?_
  by_cases hc : r1 = 0
  · replace hf := (if_pos hc).symm.trans hf
    refine z_if_eq_t B 8 rfl 30 (by decide) hc ?_
    refine z_iconst (-1) B 14 rfl (by decide) ?_
    cases hf
    exact z_iret B 15 rfl rfl hQ hr
  · replace hf := (if_neg hc).symm.trans hf
    refine z_if_eq_f B 8 rfl 30 (by decide) hc ?_
    refine z_iload_n B 9 rfl 2 3 rfl rfl ?_
    refine z_iconst 0 B 10 rfl (by decide) ?_
    refine z_sipush 9999 B 11 rfl (by decide) ?_
    obtain ⟨r2, ec, hf⟩ := bd_e hf
    refine z_callS [.int a2, .int (0 : Int32), .int (9999 : Int32)] [] [.int r2] X B 12 rfl miX6_within ⟨(iX6_wants _ (List.mem_of_getElem? (i := 6) rfl)), (iX6_wants _ (List.mem_of_getElem? (i := 7) rfl))⟩ (ctX6_within hj ec) ⟨Nat.le_of_ble_eq_true rfl, Nat.le_of_ble_eq_true rfl⟩ rfl rfl (Nat.le_of_ble_eq_true rfl) rfl ?_
    by_cases hc : r2 = 0
    · replace hf := (if_pos hc).symm.trans hf
      refine z_if_ne_f B 13 rfl 32 (by decide) hc ?_
      refine z_iconst (-1) B 14 rfl (by decide) ?_
      cases hf
      exact z_iret B 15 rfl rfl hQ hr
    · replace hf := (if_neg hc).symm.trans hf
      refine z_if_ne_t B 13 rfl 32 (by decide) hc ?_
      refine z_aload_n B 16 rfl 3 0 rfl rfl ?_
      refine z_iload_n B 17 rfl 1 2 rfl rfl ?_
      refine z_iload_n B 18 rfl 2 3 rfl rfl ?_
      obtain ⟨r3, ec, hf⟩ := bd_e hf
      refine z_callV 17 5 [.int a1, .int a2] [] [.int r3] X B 19 rfl (by decide) ob_17 rfl rfl miX5_wantedFrom ⟨(iX6_wants _ (List.mem_of_getElem? (i := 8) rfl)), (iX6_wants _ (List.mem_of_getElem? (i := 9) rfl)), (iX6_wants _ (List.mem_of_getElem? (i := 10) rfl))⟩ (ctX5_wantedFrom hj ob_17 ec) ⟨Nat.le_of_ble_eq_true rfl, Nat.le_of_ble_eq_true rfl⟩ rfl rfl (Nat.le_of_ble_eq_true rfl) rfl ?_
      cases hf
      exact z_iret B 20 rfl rfl hQ hr
/-! ZoneCapacity.level(IIZ)I -/
def tbX6_level : Tb := [(0, .aload_n 0, 1, 1), (1, .getfield 10, 3, 4), (4, .getfield 57, 3, 7), (7, .getfield 71, 3, 10), (10, .iload_n 1, 1, 11), (11, .invokevirtual 80, 3, 14), (14, .ifCond .eq 14, 3, 17), (17, .iload_n 2, 1, 18), (18, .iconst 0, 1, 19), (19, .sipush 9999, 3, 22), (22, .invokestatic 50, 3, 25), (25, .ifCond .ne 6, 3, 28), (28, .ldc 205, 2, 30), (30, .ireturn, 1, 31), (31, .aload_n 0, 1, 32), (32, .getfield 10, 3, 35), (35, .iload_n 1, 1, 36), (36, .iload_n 3, 1, 37), (37, .ifCond .eq 9, 3, 40), (40, .iload_n 2, 1, 41), (41, .iconst 1, 1, 42), (42, .iadd, 1, 43), (43, .goto 4, 3, 46), (46, .iload_n 2, 1, 47), (47, .invokevirtual 206, 3, 50), (50, .ireturn, 1, 51)]
theorem dtX6_level : ∀ q ∈ tbX6_level, decode cX6_level q.1 = .ok (q.2.1, q.2.2.1) ∧ q.1 + q.2.2.1 = q.2.2.2 := by decide +kernel
theorem miX6_level : MI yX6_level cX6_level 4 (some .int) 3 := ⟨tw_mem (List.mem_of_getElem? (i := 842) (by decide +kernel)) rfl, by decide, by decide +kernel, tw_mem (List.mem_of_getElem? (i := 14) (by decide +kernel)) rfl⟩
abbrev rmX6_level : Room := { frames := 5, cells := 0, slots := 0, locals := 111 }
def wX6_level : List Cond := [.fieldLink "ZoneCapacity" 10 "ZoneCapacity" "now" "LZoneCapacity$Auction;", .fieldLink "ZoneCapacity" 57 "ZoneCapacity$Auction" "market" "LZoneCapacity$Market;", .fieldLink "ZoneCapacity" 71 "ZoneCapacity$Market" "zones" "LZoneCapacity$Zones;", .methodLink "ZoneCapacity" 80 yX5_has, .instanceMethod yX5_has, .selects "ZoneCapacity$Zones" yX5_has yX5_has, .constant "ZoneCapacity" 205 (-1000000), .methodLink "ZoneCapacity" 50 yX6_within, .static yX6_within, .methodLink "ZoneCapacity" 206 yX0_levelOf, .instanceMethod yX0_levelOf, .selects "ZoneCapacity$Auction" yX0_levelOf yX0_levelOf]
theorem iX6_level : ∀ w ∈ wX6_level, w ∈ TW := tw_of (ids := [243, 161, 151, 267, 268, 269, 843, 279, 280, 844, 845, 846]) (by decide +kernel)
def f6_level_j47 (s0 : Int32) (s1 : Int32) (mm : Mem) : Option (Int32 × Mem) := bd (f0_levelOf mm 15 s1 s0) (fun r3 => some (r3.1, r3.2))
theorem f6_level_j47_ok {E : Ev} {l : Launch} {C : Cfg} {x : (Int32 × Mem)} (hj : Dj C) (X : Ec E l C rmX6_level) (B : Bx E RX6 tbX6_level 4 (some .int)) (hQ : Rt E) (hr : Rs E (some (.int x.1)) x.2) (s0 : Int32) (s1 : Int32) (mm : Mem) (hf : f6_level_j47 s0 s1 mm = some x) : G E 4 47 [] [.int s0, .int s1, .ref 15] mm := by
  unfold f6_level_j47 at hf
  obtain ⟨r3, ec, hf⟩ := bd_e hf
  refine z_callV 15 0 [.int s1, .int s0] [] [.int r3.1] X B 24 rfl (by decide) ob_15 rfl rfl miX0_levelOf ⟨(iX6_level _ (List.mem_of_getElem? (i := 9) rfl)), (iX6_level _ (List.mem_of_getElem? (i := 10) rfl)), (iX6_level _ (List.mem_of_getElem? (i := 11) rfl))⟩ (ctX0_levelOf hj ob_15 ec) ⟨Nat.le_of_ble_eq_true rfl, Nat.le_of_ble_eq_true rfl⟩ rfl rfl (Nat.le_of_ble_eq_true rfl) rfl ?_
  cases hf
  exact z_iret B 25 rfl rfl hQ hr
def f6_level (mm : Mem) (a1 : Int32) (a2 : Int32) (a3 : Int32) : Option (Int32 × Mem) := bd (f5_has mm 17 a1) (fun r1 => if r1 = 0 then some ((-1000000 : Int32), mm) else bd (f6_within mm a2 (0 : Int32) (9999 : Int32)) (fun r2 => if r2 = 0 then some ((-1000000 : Int32), mm) else if a3 = 0 then f6_level_j47 a2 a1 mm else f6_level_j47 (a2 + (1 : Int32)) a1 mm))
theorem ctX6_level {l : Launch} {C : Cfg} (hj : Dj C) {mm : Mem} {a1 : Int32} {a2 : Int32} {a3 : Int32} {x : (Int32 × Mem)} (hf : f6_level mm a1 a2 a3 = some x) : Ct l C yX6_level cX6_level 4 (some .int) 5 111 [.ref 14, .int a1, .int a2, .int a3] mm (some (.int x.1)) x.2 := by
  refine Ct.of (tb := tbX6_level) hj miX6_level.2.1 miX6_level.1 dtX6_level (Nat.le_of_ble_eq_true rfl) ?_
  intro E B hQ hr X
  unfold f6_level at hf
  show G E 4 0 [(0, .ref 14), (1, .int a1), (2, .int a2), (3, .int a3)] [] mm
  refine z_aload_n B 0 rfl 0 0 rfl rfl ?_
  refine z_getr 6 0 14 B 1 rfl ob_14 rfl (iX6_level _ (List.mem_of_getElem? (i := 0) rfl)) rfl ?_
  refine z_getr 0 0 15 B 2 rfl ob_15 rfl (iX6_level _ (List.mem_of_getElem? (i := 1) rfl)) rfl ?_
  refine z_getr 1 0 16 B 3 rfl ob_16 rfl (iX6_level _ (List.mem_of_getElem? (i := 2) rfl)) rfl ?_
  refine z_iload_n B 4 rfl 1 1 rfl rfl ?_
  obtain ⟨r1, ec, hf⟩ := bd_e hf
  refine z_callV 17 5 [.int a1] [] [.int r1] X B 5 rfl (by decide) ob_17 rfl rfl miX5_has ⟨(iX6_level _ (List.mem_of_getElem? (i := 3) rfl)), (iX6_level _ (List.mem_of_getElem? (i := 4) rfl)), (iX6_level _ (List.mem_of_getElem? (i := 5) rfl))⟩ (ctX5_has hj ob_17 ec) ⟨Nat.le_of_ble_eq_true rfl, Nat.le_of_ble_eq_true rfl⟩ rfl rfl (Nat.le_of_ble_eq_true rfl) rfl ?_
  by_cases hc : r1 = 0
  · replace hf := (if_pos hc).symm.trans hf
    refine z_if_eq_t B 6 rfl 28 (by decide) hc ?_
    refine z_ldc (-1000000) B 12 rfl (iX6_level _ (List.mem_of_getElem? (i := 6) rfl)) ?_
    cases hf
    exact z_iret B 13 rfl rfl hQ hr
  · replace hf := (if_neg hc).symm.trans hf
    refine z_if_eq_f B 6 rfl 28 (by decide) hc ?_
    refine z_iload_n B 7 rfl 2 2 rfl rfl ?_
    refine z_iconst 0 B 8 rfl (by decide) ?_
    refine z_sipush 9999 B 9 rfl (by decide) ?_
    obtain ⟨r2, ec, hf⟩ := bd_e hf
    refine z_callS [.int a2, .int (0 : Int32), .int (9999 : Int32)] [] [.int r2] X B 10 rfl miX6_within ⟨(iX6_level _ (List.mem_of_getElem? (i := 7) rfl)), (iX6_level _ (List.mem_of_getElem? (i := 8) rfl))⟩ (ctX6_within hj ec) ⟨Nat.le_of_ble_eq_true rfl, Nat.le_of_ble_eq_true rfl⟩ rfl rfl (Nat.le_of_ble_eq_true rfl) rfl ?_
    by_cases hc : r2 = 0
    · replace hf := (if_pos hc).symm.trans hf
      refine z_if_ne_f B 11 rfl 31 (by decide) hc ?_
      refine z_ldc (-1000000) B 12 rfl (iX6_level _ (List.mem_of_getElem? (i := 6) rfl)) ?_
      cases hf
      exact z_iret B 13 rfl rfl hQ hr
    · replace hf := (if_neg hc).symm.trans hf
      refine z_if_ne_t B 11 rfl 31 (by decide) hc ?_
      refine z_aload_n B 14 rfl 0 0 rfl rfl ?_
      refine z_getr 6 0 14 B 15 rfl ob_14 rfl (iX6_level _ (List.mem_of_getElem? (i := 0) rfl)) rfl ?_
      refine z_iload_n B 16 rfl 1 1 rfl rfl ?_
      refine z_iload_n B 17 rfl 3 3 rfl rfl ?_
      by_cases hc : a3 = 0
      · replace hf := (if_pos hc).symm.trans hf
        refine z_if_eq_t B 18 rfl 46 (by decide) hc ?_
        refine z_iload_n B 23 rfl 2 2 rfl rfl ?_
        refine z_sub [] [] rfl ?_
        exact f6_level_j47_ok hj X B hQ hr _ _ _ hf
      · replace hf := (if_neg hc).symm.trans hf
        refine z_if_eq_f B 18 rfl 46 (by decide) hc ?_
        refine z_iload_n B 19 rfl 2 2 rfl rfl ?_
        refine z_iconst 1 B 20 rfl (by decide) ?_
        refine z_iadd B 21 rfl ?_
        refine z_goto B 22 rfl 47 (by decide) ?_
        refine z_sub [] [] rfl ?_
        exact f6_level_j47_ok hj X B hQ hr _ _ _ hf
/-! ZoneCapacity.price(I)I -/
def tbX6_price : Tb := [(0, .aload_n 0, 1, 1), (1, .getfield 10, 3, 4), (4, .getfield 57, 3, 7), (7, .getfield 71, 3, 10), (10, .iload_n 1, 1, 11), (11, .invokevirtual 80, 3, 14), (14, .ifCond .ne 5, 3, 17), (17, .iconst (-1), 1, 18), (18, .ireturn, 1, 19), (19, .aload_n 0, 1, 20), (20, .getfield 10, 3, 23), (23, .invokevirtual 209, 3, 26), (26, .aload_n 0, 1, 27), (27, .getfield 10, 3, 30), (30, .getfield 212, 3, 33), (33, .iload_n 1, 1, 34), (34, .invokestatic 92, 3, 37), (37, .ireturn, 1, 38)]
theorem dtX6_price : ∀ q ∈ tbX6_price, decode cX6_price q.1 = .ok (q.2.1, q.2.2.1) ∧ q.1 + q.2.2.1 = q.2.2.2 := by decide +kernel
theorem miX6_price : MI yX6_price cX6_price 2 (some .int) 1 := ⟨tw_mem (List.mem_of_getElem? (i := 331) (by decide +kernel)) rfl, by decide, by decide +kernel, tw_mem (List.mem_of_getElem? (i := 14) (by decide +kernel)) rfl⟩
abbrev rmX6_price : Room := { frames := 5, cells := 0, slots := 0, locals := 123 }
def wX6_price : List Cond := [.fieldLink "ZoneCapacity" 10 "ZoneCapacity" "now" "LZoneCapacity$Auction;", .fieldLink "ZoneCapacity" 57 "ZoneCapacity$Auction" "market" "LZoneCapacity$Market;", .fieldLink "ZoneCapacity" 71 "ZoneCapacity$Market" "zones" "LZoneCapacity$Zones;", .methodLink "ZoneCapacity" 80 yX5_has, .instanceMethod yX5_has, .selects "ZoneCapacity$Zones" yX5_has yX5_has, .methodLink "ZoneCapacity" 209 yX0_clear, .instanceMethod yX0_clear, .selects "ZoneCapacity$Auction" yX0_clear yX0_clear, .fieldLink "ZoneCapacity" 212 "ZoneCapacity$Auction" "prices" "[I", .methodLink "ZoneCapacity" 92 yX6_at, .static yX6_at]
theorem iX6_price : ∀ w ∈ wX6_price, w ∈ TW := tw_of (ids := [243, 161, 151, 267, 268, 269, 332, 333, 334, 163, 271, 272]) (by decide +kernel)
def f6_price (mm : Mem) (a1 : Int32) : Option (Int32 × Mem) := bd (f5_has mm 17 a1) (fun r1 => if r1 = 0 then some ((-1 : Int32), mm) else bd (f0_clear mm 15) (fun r2 => bd (f6_at r2 35 a1) (fun r3 => some (r3, r2))))
theorem ctX6_price {l : Launch} {C : Cfg} (hj : Dj C) {mm : Mem} {a1 : Int32} {x : (Int32 × Mem)} (hf : f6_price mm a1 = some x) : Ct l C yX6_price cX6_price 2 (some .int) 5 123 [.ref 14, .int a1] mm (some (.int x.1)) x.2 := by
  refine Ct.of (tb := tbX6_price) hj miX6_price.2.1 miX6_price.1 dtX6_price (Nat.le_of_ble_eq_true rfl) ?_
  intro E B hQ hr X
  unfold f6_price at hf
  show G E 2 0 [(0, .ref 14), (1, .int a1)] [] mm
  refine z_aload_n B 0 rfl 0 0 rfl rfl ?_
  refine z_getr 6 0 14 B 1 rfl ob_14 rfl (iX6_price _ (List.mem_of_getElem? (i := 0) rfl)) rfl ?_
  refine z_getr 0 0 15 B 2 rfl ob_15 rfl (iX6_price _ (List.mem_of_getElem? (i := 1) rfl)) rfl ?_
  refine z_getr 1 0 16 B 3 rfl ob_16 rfl (iX6_price _ (List.mem_of_getElem? (i := 2) rfl)) rfl ?_
  refine z_iload_n B 4 rfl 1 1 rfl rfl ?_
  obtain ⟨r1, ec, hf⟩ := bd_e hf
  refine z_callV 17 5 [.int a1] [] [.int r1] X B 5 rfl (by decide) ob_17 rfl rfl miX5_has ⟨(iX6_price _ (List.mem_of_getElem? (i := 3) rfl)), (iX6_price _ (List.mem_of_getElem? (i := 4) rfl)), (iX6_price _ (List.mem_of_getElem? (i := 5) rfl))⟩ (ctX5_has hj ob_17 ec) ⟨Nat.le_of_ble_eq_true rfl, Nat.le_of_ble_eq_true rfl⟩ rfl rfl (Nat.le_of_ble_eq_true rfl) rfl ?_
  by_cases hc : r1 = 0
  · replace hf := (if_pos hc).symm.trans hf
    refine z_if_ne_f B 6 rfl 19 (by decide) hc ?_
    refine z_iconst (-1) B 7 rfl (by decide) ?_
    cases hf
    exact z_iret B 8 rfl rfl hQ hr
  · replace hf := (if_neg hc).symm.trans hf
    refine z_if_ne_t B 6 rfl 19 (by decide) hc ?_
    refine z_aload_n B 9 rfl 0 0 rfl rfl ?_
    refine z_getr 6 0 14 B 10 rfl ob_14 rfl (iX6_price _ (List.mem_of_getElem? (i := 0) rfl)) rfl ?_
    obtain ⟨r2, ec, hf⟩ := bd_e hf
    refine z_callV 15 0 [] [] [] X B 11 rfl (by decide) ob_15 rfl rfl miX0_clear ⟨(iX6_price _ (List.mem_of_getElem? (i := 6) rfl)), (iX6_price _ (List.mem_of_getElem? (i := 7) rfl)), (iX6_price _ (List.mem_of_getElem? (i := 8) rfl))⟩ (ctX0_clear hj ob_15 ec) ⟨Nat.le_of_ble_eq_true rfl, Nat.le_of_ble_eq_true rfl⟩ rfl rfl (Nat.le_of_ble_eq_true rfl) rfl ?_
    refine z_aload_n B 12 rfl 0 0 rfl rfl ?_
    refine z_getr 6 0 14 B 13 rfl ob_14 rfl (iX6_price _ (List.mem_of_getElem? (i := 0) rfl)) rfl ?_
    refine z_getr 0 1 15 B 14 rfl ob_15 rfl (iX6_price _ (List.mem_of_getElem? (i := 9) rfl)) rfl ?_
    refine z_iload_n B 15 rfl 1 1 rfl rfl ?_
    obtain ⟨r3, ec, hf⟩ := bd_e hf
    refine z_callS [.ref 35, .int a1] [] [.int r3] X B 16 rfl miX6_at ⟨(iX6_price _ (List.mem_of_getElem? (i := 10) rfl)), (iX6_price _ (List.mem_of_getElem? (i := 11) rfl))⟩ (ctX6_at hj ob_35 ec) ⟨Nat.le_of_ble_eq_true rfl, Nat.le_of_ble_eq_true rfl⟩ rfl rfl (Nat.le_of_ble_eq_true rfl) rfl ?_
    cases hf
    exact z_iret B 17 rfl rfl hQ hr
/-! ZoneCapacity.net(I)I -/
def tbX6_net : Tb := [(0, .aload_n 0, 1, 1), (1, .getfield 10, 3, 4), (4, .getfield 57, 3, 7), (7, .getfield 71, 3, 10), (10, .iload_n 1, 1, 11), (11, .invokevirtual 80, 3, 14), (14, .ifCond .ne 6, 3, 17), (17, .ldc 205, 2, 19), (19, .ireturn, 1, 20), (20, .aload_n 0, 1, 21), (21, .getfield 10, 3, 24), (24, .invokevirtual 209, 3, 27), (27, .aload_n 0, 1, 28), (28, .getfield 10, 3, 31), (31, .getfield 215, 3, 34), (34, .iload_n 1, 1, 35), (35, .invokestatic 92, 3, 38), (38, .ireturn, 1, 39)]
theorem dtX6_net : ∀ q ∈ tbX6_net, decode cX6_net q.1 = .ok (q.2.1, q.2.2.1) ∧ q.1 + q.2.2.1 = q.2.2.2 := by decide +kernel
theorem miX6_net : MI yX6_net cX6_net 2 (some .int) 1 := ⟨tw_mem (List.mem_of_getElem? (i := 996) (by decide +kernel)) rfl, by decide, by decide +kernel, tw_mem (List.mem_of_getElem? (i := 14) (by decide +kernel)) rfl⟩
abbrev rmX6_net : Room := { frames := 5, cells := 0, slots := 0, locals := 123 }
def wX6_net : List Cond := [.fieldLink "ZoneCapacity" 10 "ZoneCapacity" "now" "LZoneCapacity$Auction;", .fieldLink "ZoneCapacity" 57 "ZoneCapacity$Auction" "market" "LZoneCapacity$Market;", .fieldLink "ZoneCapacity" 71 "ZoneCapacity$Market" "zones" "LZoneCapacity$Zones;", .methodLink "ZoneCapacity" 80 yX5_has, .instanceMethod yX5_has, .selects "ZoneCapacity$Zones" yX5_has yX5_has, .methodLink "ZoneCapacity" 209 yX0_clear, .instanceMethod yX0_clear, .selects "ZoneCapacity$Auction" yX0_clear yX0_clear, .fieldLink "ZoneCapacity" 215 "ZoneCapacity$Auction" "nets" "[I", .methodLink "ZoneCapacity" 92 yX6_at, .static yX6_at, .constant "ZoneCapacity" 205 (-1000000)]
theorem iX6_net : ∀ w ∈ wX6_net, w ∈ TW := tw_of (ids := [243, 161, 151, 267, 268, 269, 332, 333, 334, 165, 271, 272, 843]) (by decide +kernel)
def f6_net (mm : Mem) (a1 : Int32) : Option (Int32 × Mem) := bd (f5_has mm 17 a1) (fun r1 => if r1 = 0 then some ((-1000000 : Int32), mm) else bd (f0_clear mm 15) (fun r2 => bd (f6_at r2 36 a1) (fun r3 => some (r3, r2))))
theorem ctX6_net {l : Launch} {C : Cfg} (hj : Dj C) {mm : Mem} {a1 : Int32} {x : (Int32 × Mem)} (hf : f6_net mm a1 = some x) : Ct l C yX6_net cX6_net 2 (some .int) 5 123 [.ref 14, .int a1] mm (some (.int x.1)) x.2 := by
  refine Ct.of (tb := tbX6_net) hj miX6_net.2.1 miX6_net.1 dtX6_net (Nat.le_of_ble_eq_true rfl) ?_
  intro E B hQ hr X
  unfold f6_net at hf
  show G E 2 0 [(0, .ref 14), (1, .int a1)] [] mm
  refine z_aload_n B 0 rfl 0 0 rfl rfl ?_
  refine z_getr 6 0 14 B 1 rfl ob_14 rfl (iX6_net _ (List.mem_of_getElem? (i := 0) rfl)) rfl ?_
  refine z_getr 0 0 15 B 2 rfl ob_15 rfl (iX6_net _ (List.mem_of_getElem? (i := 1) rfl)) rfl ?_
  refine z_getr 1 0 16 B 3 rfl ob_16 rfl (iX6_net _ (List.mem_of_getElem? (i := 2) rfl)) rfl ?_
  refine z_iload_n B 4 rfl 1 1 rfl rfl ?_
  obtain ⟨r1, ec, hf⟩ := bd_e hf
  refine z_callV 17 5 [.int a1] [] [.int r1] X B 5 rfl (by decide) ob_17 rfl rfl miX5_has ⟨(iX6_net _ (List.mem_of_getElem? (i := 3) rfl)), (iX6_net _ (List.mem_of_getElem? (i := 4) rfl)), (iX6_net _ (List.mem_of_getElem? (i := 5) rfl))⟩ (ctX5_has hj ob_17 ec) ⟨Nat.le_of_ble_eq_true rfl, Nat.le_of_ble_eq_true rfl⟩ rfl rfl (Nat.le_of_ble_eq_true rfl) rfl ?_
  by_cases hc : r1 = 0
  · replace hf := (if_pos hc).symm.trans hf
    refine z_if_ne_f B 6 rfl 20 (by decide) hc ?_
    refine z_ldc (-1000000) B 7 rfl (iX6_net _ (List.mem_of_getElem? (i := 12) rfl)) ?_
    cases hf
    exact z_iret B 8 rfl rfl hQ hr
  · replace hf := (if_neg hc).symm.trans hf
    refine z_if_ne_t B 6 rfl 20 (by decide) hc ?_
    refine z_aload_n B 9 rfl 0 0 rfl rfl ?_
    refine z_getr 6 0 14 B 10 rfl ob_14 rfl (iX6_net _ (List.mem_of_getElem? (i := 0) rfl)) rfl ?_
    obtain ⟨r2, ec, hf⟩ := bd_e hf
    refine z_callV 15 0 [] [] [] X B 11 rfl (by decide) ob_15 rfl rfl miX0_clear ⟨(iX6_net _ (List.mem_of_getElem? (i := 6) rfl)), (iX6_net _ (List.mem_of_getElem? (i := 7) rfl)), (iX6_net _ (List.mem_of_getElem? (i := 8) rfl))⟩ (ctX0_clear hj ob_15 ec) ⟨Nat.le_of_ble_eq_true rfl, Nat.le_of_ble_eq_true rfl⟩ rfl rfl (Nat.le_of_ble_eq_true rfl) rfl ?_
    refine z_aload_n B 12 rfl 0 0 rfl rfl ?_
    refine z_getr 6 0 14 B 13 rfl ob_14 rfl (iX6_net _ (List.mem_of_getElem? (i := 0) rfl)) rfl ?_
    refine z_getr 0 2 15 B 14 rfl ob_15 rfl (iX6_net _ (List.mem_of_getElem? (i := 9) rfl)) rfl ?_
    refine z_iload_n B 15 rfl 1 1 rfl rfl ?_
    obtain ⟨r3, ec, hf⟩ := bd_e hf
    refine z_callS [.ref 36, .int a1] [] [.int r3] X B 16 rfl miX6_at ⟨(iX6_net _ (List.mem_of_getElem? (i := 10) rfl)), (iX6_net _ (List.mem_of_getElem? (i := 11) rfl))⟩ (ctX6_at hj ob_36 ec) ⟨Nat.le_of_ble_eq_true rfl, Nat.le_of_ble_eq_true rfl⟩ rfl rfl (Nat.le_of_ble_eq_true rfl) rfl ?_
    cases hf
    exact z_iret B 17 rfl rfl hQ hr
/-! ZoneCapacity.served(I)I -/
def tbX6_served : Tb := [(0, .aload_n 0, 1, 1), (1, .getfield 10, 3, 4), (4, .getfield 57, 3, 7), (7, .getfield 71, 3, 10), (10, .iload_n 1, 1, 11), (11, .invokevirtual 80, 3, 14), (14, .ifCond .ne 5, 3, 17), (17, .iconst (-1), 1, 18), (18, .ireturn, 1, 19), (19, .aload_n 0, 1, 20), (20, .getfield 10, 3, 23), (23, .invokevirtual 209, 3, 26), (26, .aload_n 0, 1, 27), (27, .getfield 10, 3, 30), (30, .getfield 218, 3, 33), (33, .iload_n 1, 1, 34), (34, .invokestatic 92, 3, 37), (37, .ireturn, 1, 38)]
theorem dtX6_served : ∀ q ∈ tbX6_served, decode cX6_served q.1 = .ok (q.2.1, q.2.2.1) ∧ q.1 + q.2.2.1 = q.2.2.2 := by decide +kernel
theorem miX6_served : MI yX6_served cX6_served 2 (some .int) 1 := ⟨tw_mem (List.mem_of_getElem? (i := 1000) (by decide +kernel)) rfl, by decide, by decide +kernel, tw_mem (List.mem_of_getElem? (i := 14) (by decide +kernel)) rfl⟩
abbrev rmX6_served : Room := { frames := 5, cells := 0, slots := 0, locals := 123 }
def wX6_served : List Cond := [.fieldLink "ZoneCapacity" 10 "ZoneCapacity" "now" "LZoneCapacity$Auction;", .fieldLink "ZoneCapacity" 57 "ZoneCapacity$Auction" "market" "LZoneCapacity$Market;", .fieldLink "ZoneCapacity" 71 "ZoneCapacity$Market" "zones" "LZoneCapacity$Zones;", .methodLink "ZoneCapacity" 80 yX5_has, .instanceMethod yX5_has, .selects "ZoneCapacity$Zones" yX5_has yX5_has, .methodLink "ZoneCapacity" 209 yX0_clear, .instanceMethod yX0_clear, .selects "ZoneCapacity$Auction" yX0_clear yX0_clear, .fieldLink "ZoneCapacity" 218 "ZoneCapacity$Auction" "servedUnits" "[I", .methodLink "ZoneCapacity" 92 yX6_at, .static yX6_at]
theorem iX6_served : ∀ w ∈ wX6_served, w ∈ TW := tw_of (ids := [243, 161, 151, 267, 268, 269, 332, 333, 334, 167, 271, 272]) (by decide +kernel)
def f6_served (mm : Mem) (a1 : Int32) : Option (Int32 × Mem) := bd (f5_has mm 17 a1) (fun r1 => if r1 = 0 then some ((-1 : Int32), mm) else bd (f0_clear mm 15) (fun r2 => bd (f6_at r2 37 a1) (fun r3 => some (r3, r2))))
theorem ctX6_served {l : Launch} {C : Cfg} (hj : Dj C) {mm : Mem} {a1 : Int32} {x : (Int32 × Mem)} (hf : f6_served mm a1 = some x) : Ct l C yX6_served cX6_served 2 (some .int) 5 123 [.ref 14, .int a1] mm (some (.int x.1)) x.2 := by
  refine Ct.of (tb := tbX6_served) hj miX6_served.2.1 miX6_served.1 dtX6_served (Nat.le_of_ble_eq_true rfl) ?_
  intro E B hQ hr X
  unfold f6_served at hf
  show G E 2 0 [(0, .ref 14), (1, .int a1)] [] mm
  refine z_aload_n B 0 rfl 0 0 rfl rfl ?_
  refine z_getr 6 0 14 B 1 rfl ob_14 rfl (iX6_served _ (List.mem_of_getElem? (i := 0) rfl)) rfl ?_
  refine z_getr 0 0 15 B 2 rfl ob_15 rfl (iX6_served _ (List.mem_of_getElem? (i := 1) rfl)) rfl ?_
  refine z_getr 1 0 16 B 3 rfl ob_16 rfl (iX6_served _ (List.mem_of_getElem? (i := 2) rfl)) rfl ?_
  refine z_iload_n B 4 rfl 1 1 rfl rfl ?_
  obtain ⟨r1, ec, hf⟩ := bd_e hf
  refine z_callV 17 5 [.int a1] [] [.int r1] X B 5 rfl (by decide) ob_17 rfl rfl miX5_has ⟨(iX6_served _ (List.mem_of_getElem? (i := 3) rfl)), (iX6_served _ (List.mem_of_getElem? (i := 4) rfl)), (iX6_served _ (List.mem_of_getElem? (i := 5) rfl))⟩ (ctX5_has hj ob_17 ec) ⟨Nat.le_of_ble_eq_true rfl, Nat.le_of_ble_eq_true rfl⟩ rfl rfl (Nat.le_of_ble_eq_true rfl) rfl ?_
  by_cases hc : r1 = 0
  · replace hf := (if_pos hc).symm.trans hf
    refine z_if_ne_f B 6 rfl 19 (by decide) hc ?_
    refine z_iconst (-1) B 7 rfl (by decide) ?_
    cases hf
    exact z_iret B 8 rfl rfl hQ hr
  · replace hf := (if_neg hc).symm.trans hf
    refine z_if_ne_t B 6 rfl 19 (by decide) hc ?_
    refine z_aload_n B 9 rfl 0 0 rfl rfl ?_
    refine z_getr 6 0 14 B 10 rfl ob_14 rfl (iX6_served _ (List.mem_of_getElem? (i := 0) rfl)) rfl ?_
    obtain ⟨r2, ec, hf⟩ := bd_e hf
    refine z_callV 15 0 [] [] [] X B 11 rfl (by decide) ob_15 rfl rfl miX0_clear ⟨(iX6_served _ (List.mem_of_getElem? (i := 6) rfl)), (iX6_served _ (List.mem_of_getElem? (i := 7) rfl)), (iX6_served _ (List.mem_of_getElem? (i := 8) rfl))⟩ (ctX0_clear hj ob_15 ec) ⟨Nat.le_of_ble_eq_true rfl, Nat.le_of_ble_eq_true rfl⟩ rfl rfl (Nat.le_of_ble_eq_true rfl) rfl ?_
    refine z_aload_n B 12 rfl 0 0 rfl rfl ?_
    refine z_getr 6 0 14 B 13 rfl ob_14 rfl (iX6_served _ (List.mem_of_getElem? (i := 0) rfl)) rfl ?_
    refine z_getr 0 3 15 B 14 rfl ob_15 rfl (iX6_served _ (List.mem_of_getElem? (i := 9) rfl)) rfl ?_
    refine z_iload_n B 15 rfl 1 1 rfl rfl ?_
    obtain ⟨r3, ec, hf⟩ := bd_e hf
    refine z_callS [.ref 37, .int a1] [] [.int r3] X B 16 rfl miX6_at ⟨(iX6_served _ (List.mem_of_getElem? (i := 10) rfl)), (iX6_served _ (List.mem_of_getElem? (i := 11) rfl))⟩ (ctX6_at hj ob_37 ec) ⟨Nat.le_of_ble_eq_true rfl, Nat.le_of_ble_eq_true rfl⟩ rfl rfl (Nat.le_of_ble_eq_true rfl) rfl ?_
    cases hf
    exact z_iret B 17 rfl rfl hQ hr
/-! ZoneCapacity.taken(II)I -/
def tbX6_taken : Tb := [(0, .aload_n 0, 1, 1), (1, .getfield 10, 3, 4), (4, .getfield 57, 3, 7), (7, .getfield 106, 3, 10), (10, .astore_n 3, 1, 11), (11, .aload_n 3, 1, 12), (12, .iload_n 1, 1, 13), (13, .invokevirtual 116, 3, 16), (16, .ifCond .ne 5, 3, 19), (19, .iconst (-1), 1, 20), (20, .ireturn, 1, 21), (21, .iload_n 2, 1, 22), (22, .iconst (-1), 1, 23), (23, .if_icmp .ne 19, 3, 26), (26, .aload_n 0, 1, 27), (27, .getfield 10, 3, 30), (30, .invokevirtual 209, 3, 33), (33, .aload_n 0, 1, 34), (34, .getfield 10, 3, 37), (37, .iload_n 1, 1, 38), (38, .invokevirtual 221, 3, 41), (41, .ireturn, 1, 42), (42, .aload_n 3, 1, 43), (43, .iload_n 1, 1, 44), (44, .iload_n 2, 1, 45), (45, .invokevirtual 188, 3, 48), (48, .ifCond .ne 5, 3, 51), (51, .iconst (-1), 1, 52), (52, .ireturn, 1, 53), (53, .aload_n 0, 1, 54), (54, .getfield 10, 3, 57), (57, .invokevirtual 209, 3, 60), (60, .aload_n 0, 1, 61), (61, .getfield 10, 3, 64), (64, .getfield 224, 3, 67), (67, .iload_n 1, 1, 68), (68, .iconst 4, 1, 69), (69, .imul, 1, 70), (70, .iload_n 2, 1, 71), (71, .iadd, 1, 72), (72, .invokestatic 92, 3, 75), (75, .ireturn, 1, 76)]
theorem dtX6_taken : ∀ q ∈ tbX6_taken, decode cX6_taken q.1 = .ok (q.2.1, q.2.2.1) ∧ q.1 + q.2.2.1 = q.2.2.2 := by decide +kernel
theorem miX6_taken : MI yX6_taken cX6_taken 4 (some .int) 2 := ⟨tw_mem (List.mem_of_getElem? (i := 410) (by decide +kernel)) rfl, by decide, by decide +kernel, tw_mem (List.mem_of_getElem? (i := 14) (by decide +kernel)) rfl⟩
abbrev rmX6_taken : Room := { frames := 5, cells := 0, slots := 0, locals := 123 }
def wX6_taken : List Cond := [.fieldLink "ZoneCapacity" 10 "ZoneCapacity" "now" "LZoneCapacity$Auction;", .fieldLink "ZoneCapacity" 57 "ZoneCapacity$Auction" "market" "LZoneCapacity$Market;", .fieldLink "ZoneCapacity" 106 "ZoneCapacity$Market" "offers" "LZoneCapacity$Offers;", .methodLink "ZoneCapacity" 116 yX2_has, .instanceMethod yX2_has, .selects "ZoneCapacity$Offers" yX2_has yX2_has, .methodLink "ZoneCapacity" 188 yX2_hasLine, .instanceMethod yX2_hasLine, .selects "ZoneCapacity$Offers" yX2_hasLine yX2_hasLine, .methodLink "ZoneCapacity" 209 yX0_clear, .instanceMethod yX0_clear, .selects "ZoneCapacity$Auction" yX0_clear yX0_clear, .fieldLink "ZoneCapacity" 224 "ZoneCapacity$Auction" "takenUnits" "[I", .methodLink "ZoneCapacity" 92 yX6_at, .static yX6_at, .methodLink "ZoneCapacity" 221 yX0_takenOf, .instanceMethod yX0_takenOf, .selects "ZoneCapacity$Auction" yX0_takenOf yX0_takenOf]
theorem iX6_taken : ∀ w ∈ wX6_taken, w ∈ TW := tw_of (ids := [243, 161, 154, 297, 298, 299, 415, 416, 417, 332, 333, 334, 169, 271, 272, 411, 412, 413]) (by decide +kernel)
def f6_taken (mm : Mem) (a1 : Int32) (a2 : Int32) : Option (Int32 × Mem) := bd (f2_has mm 24 a1) (fun r1 => if r1 = 0 then some ((-1 : Int32), mm) else if a2 = (-1 : Int32) then bd (f0_clear mm 15) (fun r5 => bd (f0_takenOf r5 15 a1) (fun r6 => some (r6, r5))) else bd (f2_hasLine mm 24 a1 a2) (fun r2 => if r2 = 0 then some ((-1 : Int32), mm) else bd (f0_clear mm 15) (fun r3 => bd (f6_at r3 38 ((a1 * (4 : Int32)) + a2)) (fun r4 => some (r4, r3)))))
theorem ctX6_taken {l : Launch} {C : Cfg} (hj : Dj C) {mm : Mem} {a1 : Int32} {a2 : Int32} {x : (Int32 × Mem)} (hf : f6_taken mm a1 a2 = some x) : Ct l C yX6_taken cX6_taken 4 (some .int) 5 123 [.ref 14, .int a1, .int a2] mm (some (.int x.1)) x.2 := by
  refine Ct.of (tb := tbX6_taken) hj miX6_taken.2.1 miX6_taken.1 dtX6_taken (Nat.le_of_ble_eq_true rfl) ?_
  intro E B hQ hr X
  unfold f6_taken at hf
  show G E 4 0 [(0, .ref 14), (1, .int a1), (2, .int a2)] [] mm
  refine z_aload_n B 0 rfl 0 0 rfl rfl ?_
  refine z_getr 6 0 14 B 1 rfl ob_14 rfl (iX6_taken _ (List.mem_of_getElem? (i := 0) rfl)) rfl ?_
  refine z_getr 0 0 15 B 2 rfl ob_15 rfl (iX6_taken _ (List.mem_of_getElem? (i := 1) rfl)) rfl ?_
  refine z_getr 1 1 16 B 3 rfl ob_16 rfl (iX6_taken _ (List.mem_of_getElem? (i := 2) rfl)) rfl ?_
  refine z_astore_n [(3, .ref 24), (0, .ref 14), (1, .int a1), (2, .int a2)] B 4 rfl 3 rfl (by decide) rfl ?_
  refine z_aload_n B 5 rfl 3 0 rfl rfl ?_
  refine z_iload_n B 6 rfl 1 2 rfl rfl ?_
  obtain ⟨r1, ec, hf⟩ := bd_e hf
  refine z_callV 24 2 [.int a1] [] [.int r1] X B 7 rfl (by decide) ob_24 rfl rfl miX2_has ⟨(iX6_taken _ (List.mem_of_getElem? (i := 3) rfl)), (iX6_taken _ (List.mem_of_getElem? (i := 4) rfl)), (iX6_taken _ (List.mem_of_getElem? (i := 5) rfl))⟩ (ctX2_has hj ob_24 ec) ⟨Nat.le_of_ble_eq_true rfl, Nat.le_of_ble_eq_true rfl⟩ rfl rfl (Nat.le_of_ble_eq_true rfl) rfl ?_
  by_cases hc : r1 = 0
  · replace hf := (if_pos hc).symm.trans hf
    refine z_if_ne_f B 8 rfl 21 (by decide) hc ?_
    refine z_iconst (-1) B 9 rfl (by decide) ?_
    cases hf
    exact z_iret B 10 rfl rfl hQ hr
  · replace hf := (if_neg hc).symm.trans hf
    refine z_if_ne_t B 8 rfl 21 (by decide) hc ?_
    refine z_iload_n B 11 rfl 2 3 rfl rfl ?_
    refine z_iconst (-1) B 12 rfl (by decide) ?_
    by_cases hc : a2 = (-1 : Int32)
    · replace hf := (if_pos hc).symm.trans hf
      refine z_icmp_ne_f B 13 rfl 42 (by decide) hc ?_
      refine z_aload_n B 14 rfl 0 1 rfl rfl ?_
      refine z_getr 6 0 14 B 15 rfl ob_14 rfl (iX6_taken _ (List.mem_of_getElem? (i := 0) rfl)) rfl ?_
      obtain ⟨r5, ec, hf⟩ := bd_e hf
      refine z_callV 15 0 [] [] [] X B 16 rfl (by decide) ob_15 rfl rfl miX0_clear ⟨(iX6_taken _ (List.mem_of_getElem? (i := 9) rfl)), (iX6_taken _ (List.mem_of_getElem? (i := 10) rfl)), (iX6_taken _ (List.mem_of_getElem? (i := 11) rfl))⟩ (ctX0_clear hj ob_15 ec) ⟨Nat.le_of_ble_eq_true rfl, Nat.le_of_ble_eq_true rfl⟩ rfl rfl (Nat.le_of_ble_eq_true rfl) rfl ?_
      refine z_aload_n B 17 rfl 0 1 rfl rfl ?_
      refine z_getr 6 0 14 B 18 rfl ob_14 rfl (iX6_taken _ (List.mem_of_getElem? (i := 0) rfl)) rfl ?_
      refine z_iload_n B 19 rfl 1 2 rfl rfl ?_
      obtain ⟨r6, ec, hf⟩ := bd_e hf
      refine z_callV 15 0 [.int a1] [] [.int r6] X B 20 rfl (by decide) ob_15 rfl rfl miX0_takenOf ⟨(iX6_taken _ (List.mem_of_getElem? (i := 15) rfl)), (iX6_taken _ (List.mem_of_getElem? (i := 16) rfl)), (iX6_taken _ (List.mem_of_getElem? (i := 17) rfl))⟩ (ctX0_takenOf hj ob_15 ec) ⟨Nat.le_of_ble_eq_true rfl, Nat.le_of_ble_eq_true rfl⟩ rfl rfl (Nat.le_of_ble_eq_true rfl) rfl ?_
      cases hf
      exact z_iret B 21 rfl rfl hQ hr
    · replace hf := (if_neg hc).symm.trans hf
      refine z_icmp_ne_t B 13 rfl 42 (by decide) hc ?_
      refine z_aload_n B 22 rfl 3 0 rfl rfl ?_
      refine z_iload_n B 23 rfl 1 2 rfl rfl ?_
      refine z_iload_n B 24 rfl 2 3 rfl rfl ?_
      obtain ⟨r2, ec, hf⟩ := bd_e hf
      refine z_callV 24 2 [.int a1, .int a2] [] [.int r2] X B 25 rfl (by decide) ob_24 rfl rfl miX2_hasLine ⟨(iX6_taken _ (List.mem_of_getElem? (i := 6) rfl)), (iX6_taken _ (List.mem_of_getElem? (i := 7) rfl)), (iX6_taken _ (List.mem_of_getElem? (i := 8) rfl))⟩ (ctX2_hasLine hj ob_24 ec) ⟨Nat.le_of_ble_eq_true rfl, Nat.le_of_ble_eq_true rfl⟩ rfl rfl (Nat.le_of_ble_eq_true rfl) rfl ?_
      by_cases hc : r2 = 0
      · replace hf := (if_pos hc).symm.trans hf
        refine z_if_ne_f B 26 rfl 53 (by decide) hc ?_
        refine z_iconst (-1) B 27 rfl (by decide) ?_
        cases hf
        exact z_iret B 28 rfl rfl hQ hr
      · replace hf := (if_neg hc).symm.trans hf
        refine z_if_ne_t B 26 rfl 53 (by decide) hc ?_
        refine z_aload_n B 29 rfl 0 1 rfl rfl ?_
        refine z_getr 6 0 14 B 30 rfl ob_14 rfl (iX6_taken _ (List.mem_of_getElem? (i := 0) rfl)) rfl ?_
        obtain ⟨r3, ec, hf⟩ := bd_e hf
        refine z_callV 15 0 [] [] [] X B 31 rfl (by decide) ob_15 rfl rfl miX0_clear ⟨(iX6_taken _ (List.mem_of_getElem? (i := 9) rfl)), (iX6_taken _ (List.mem_of_getElem? (i := 10) rfl)), (iX6_taken _ (List.mem_of_getElem? (i := 11) rfl))⟩ (ctX0_clear hj ob_15 ec) ⟨Nat.le_of_ble_eq_true rfl, Nat.le_of_ble_eq_true rfl⟩ rfl rfl (Nat.le_of_ble_eq_true rfl) rfl ?_
        refine z_aload_n B 32 rfl 0 1 rfl rfl ?_
        refine z_getr 6 0 14 B 33 rfl ob_14 rfl (iX6_taken _ (List.mem_of_getElem? (i := 0) rfl)) rfl ?_
        refine z_getr 0 4 15 B 34 rfl ob_15 rfl (iX6_taken _ (List.mem_of_getElem? (i := 12) rfl)) rfl ?_
        refine z_iload_n B 35 rfl 1 2 rfl rfl ?_
        refine z_iconst 4 B 36 rfl (by decide) ?_
        refine z_imul B 37 rfl ?_
        refine z_iload_n B 38 rfl 2 3 rfl rfl ?_
        refine z_iadd B 39 rfl ?_
        obtain ⟨r4, ec, hf⟩ := bd_e hf
        refine z_callS [.ref 38, .int ((a1 * (4 : Int32)) + a2)] [] [.int r4] X B 40 rfl miX6_at ⟨(iX6_taken _ (List.mem_of_getElem? (i := 13) rfl)), (iX6_taken _ (List.mem_of_getElem? (i := 14) rfl))⟩ (ctX6_at hj ob_38 ec) ⟨Nat.le_of_ble_eq_true rfl, Nat.le_of_ble_eq_true rfl⟩ rfl rfl (Nat.le_of_ble_eq_true rfl) rfl ?_
        cases hf
        exact z_iret B 41 rfl rfl hQ hr
/-! ZoneCapacity.binds(I)I -/
def tbX6_binds : Tb := [(0, .aload_n 0, 1, 1), (1, .getfield 10, 3, 4), (4, .getfield 57, 3, 7), (7, .getfield 71, 3, 10), (10, .iload_n 1, 1, 11), (11, .invokevirtual 80, 3, 14), (14, .ifCond .ne 5, 3, 17), (17, .iconst (-1), 1, 18), (18, .ireturn, 1, 19), (19, .iload_n 1, 1, 20), (20, .ifCond .ne 5, 3, 23), (23, .iconst 0, 1, 24), (24, .ireturn, 1, 25), (25, .aload_n 0, 1, 26), (26, .getfield 10, 3, 29), (29, .invokevirtual 209, 3, 32), (32, .aload_n 0, 1, 33), (33, .getfield 10, 3, 36), (36, .iload_n 1, 1, 37), (37, .invokevirtual 227, 3, 40), (40, .ireturn, 1, 41)]
theorem dtX6_binds : ∀ q ∈ tbX6_binds, decode cX6_binds q.1 = .ok (q.2.1, q.2.2.1) ∧ q.1 + q.2.2.1 = q.2.2.2 := by decide +kernel
theorem miX6_binds : MI yX6_binds cX6_binds 2 (some .int) 1 := ⟨tw_mem (List.mem_of_getElem? (i := 1017) (by decide +kernel)) rfl, by decide, by decide +kernel, tw_mem (List.mem_of_getElem? (i := 14) (by decide +kernel)) rfl⟩
abbrev rmX6_binds : Room := { frames := 5, cells := 0, slots := 0, locals := 123 }
def wX6_binds : List Cond := [.fieldLink "ZoneCapacity" 10 "ZoneCapacity" "now" "LZoneCapacity$Auction;", .fieldLink "ZoneCapacity" 57 "ZoneCapacity$Auction" "market" "LZoneCapacity$Market;", .fieldLink "ZoneCapacity" 71 "ZoneCapacity$Market" "zones" "LZoneCapacity$Zones;", .methodLink "ZoneCapacity" 80 yX5_has, .instanceMethod yX5_has, .selects "ZoneCapacity$Zones" yX5_has yX5_has, .methodLink "ZoneCapacity" 209 yX0_clear, .instanceMethod yX0_clear, .selects "ZoneCapacity$Auction" yX0_clear yX0_clear, .methodLink "ZoneCapacity" 227 yX0_boundOf, .instanceMethod yX0_boundOf, .selects "ZoneCapacity$Auction" yX0_boundOf yX0_boundOf]
theorem iX6_binds : ∀ w ∈ wX6_binds, w ∈ TW := tw_of (ids := [243, 161, 151, 267, 268, 269, 332, 333, 334, 1018, 1019, 1020]) (by decide +kernel)
def f6_binds (mm : Mem) (a1 : Int32) : Option (Int32 × Mem) := bd (f5_has mm 17 a1) (fun r1 => if r1 = 0 then some ((-1 : Int32), mm) else if a1 = 0 then some ((0 : Int32), mm) else bd (f0_clear mm 15) (fun r2 => bd (f0_boundOf r2 15 a1) (fun r3 => some (r3, r2))))
theorem ctX6_binds {l : Launch} {C : Cfg} (hj : Dj C) {mm : Mem} {a1 : Int32} {x : (Int32 × Mem)} (hf : f6_binds mm a1 = some x) : Ct l C yX6_binds cX6_binds 2 (some .int) 5 123 [.ref 14, .int a1] mm (some (.int x.1)) x.2 := by
  refine Ct.of (tb := tbX6_binds) hj miX6_binds.2.1 miX6_binds.1 dtX6_binds (Nat.le_of_ble_eq_true rfl) ?_
  intro E B hQ hr X
  unfold f6_binds at hf
  show G E 2 0 [(0, .ref 14), (1, .int a1)] [] mm
  refine z_aload_n B 0 rfl 0 0 rfl rfl ?_
  refine z_getr 6 0 14 B 1 rfl ob_14 rfl (iX6_binds _ (List.mem_of_getElem? (i := 0) rfl)) rfl ?_
  refine z_getr 0 0 15 B 2 rfl ob_15 rfl (iX6_binds _ (List.mem_of_getElem? (i := 1) rfl)) rfl ?_
  refine z_getr 1 0 16 B 3 rfl ob_16 rfl (iX6_binds _ (List.mem_of_getElem? (i := 2) rfl)) rfl ?_
  refine z_iload_n B 4 rfl 1 1 rfl rfl ?_
  obtain ⟨r1, ec, hf⟩ := bd_e hf
  refine z_callV 17 5 [.int a1] [] [.int r1] X B 5 rfl (by decide) ob_17 rfl rfl miX5_has ⟨(iX6_binds _ (List.mem_of_getElem? (i := 3) rfl)), (iX6_binds _ (List.mem_of_getElem? (i := 4) rfl)), (iX6_binds _ (List.mem_of_getElem? (i := 5) rfl))⟩ (ctX5_has hj ob_17 ec) ⟨Nat.le_of_ble_eq_true rfl, Nat.le_of_ble_eq_true rfl⟩ rfl rfl (Nat.le_of_ble_eq_true rfl) rfl ?_
  by_cases hc : r1 = 0
  · replace hf := (if_pos hc).symm.trans hf
    refine z_if_ne_f B 6 rfl 19 (by decide) hc ?_
    refine z_iconst (-1) B 7 rfl (by decide) ?_
    cases hf
    exact z_iret B 8 rfl rfl hQ hr
  · replace hf := (if_neg hc).symm.trans hf
    refine z_if_ne_t B 6 rfl 19 (by decide) hc ?_
    refine z_iload_n B 9 rfl 1 1 rfl rfl ?_
    by_cases hc : a1 = 0
    · replace hf := (if_pos hc).symm.trans hf
      refine z_if_ne_f B 10 rfl 25 (by decide) hc ?_
      refine z_iconst 0 B 11 rfl (by decide) ?_
      cases hf
      exact z_iret B 12 rfl rfl hQ hr
    · replace hf := (if_neg hc).symm.trans hf
      refine z_if_ne_t B 10 rfl 25 (by decide) hc ?_
      refine z_aload_n B 13 rfl 0 0 rfl rfl ?_
      refine z_getr 6 0 14 B 14 rfl ob_14 rfl (iX6_binds _ (List.mem_of_getElem? (i := 0) rfl)) rfl ?_
      obtain ⟨r2, ec, hf⟩ := bd_e hf
      refine z_callV 15 0 [] [] [] X B 15 rfl (by decide) ob_15 rfl rfl miX0_clear ⟨(iX6_binds _ (List.mem_of_getElem? (i := 6) rfl)), (iX6_binds _ (List.mem_of_getElem? (i := 7) rfl)), (iX6_binds _ (List.mem_of_getElem? (i := 8) rfl))⟩ (ctX0_clear hj ob_15 ec) ⟨Nat.le_of_ble_eq_true rfl, Nat.le_of_ble_eq_true rfl⟩ rfl rfl (Nat.le_of_ble_eq_true rfl) rfl ?_
      refine z_aload_n B 16 rfl 0 0 rfl rfl ?_
      refine z_getr 6 0 14 B 17 rfl ob_14 rfl (iX6_binds _ (List.mem_of_getElem? (i := 0) rfl)) rfl ?_
      refine z_iload_n B 18 rfl 1 1 rfl rfl ?_
      obtain ⟨r3, ec, hf⟩ := bd_e hf
      refine z_callV 15 0 [.int a1] [] [.int r3] X B 19 rfl (by decide) ob_15 rfl rfl miX0_boundOf ⟨(iX6_binds _ (List.mem_of_getElem? (i := 9) rfl)), (iX6_binds _ (List.mem_of_getElem? (i := 10) rfl)), (iX6_binds _ (List.mem_of_getElem? (i := 11) rfl))⟩ (ctX0_boundOf hj ob_15 ec) ⟨Nat.le_of_ble_eq_true rfl, Nat.le_of_ble_eq_true rfl⟩ rfl rfl (Nat.le_of_ble_eq_true rfl) rfl ?_
      cases hf
      exact z_iret B 20 rfl rfl hQ hr
/-! ZoneCapacity.surplus()J -/
def tbX6_surplus : Tb := [(0, .aload_n 0, 1, 1), (1, .getfield 10, 3, 4), (4, .invokevirtual 209, 3, 7), (7, .aload_n 0, 1, 8), (8, .getfield 10, 3, 11), (11, .invokevirtual 230, 3, 14), (14, .lreturn, 1, 15)]
theorem dtX6_surplus : ∀ q ∈ tbX6_surplus, decode cX6_surplus q.1 = .ok (q.2.1, q.2.2.1) ∧ q.1 + q.2.2.1 = q.2.2.2 := by decide +kernel
theorem miX6_surplus : MI yX6_surplus cX6_surplus 1 (some .long) 0 := ⟨tw_mem (List.mem_of_getElem? (i := 425) (by decide +kernel)) rfl, by decide, by decide +kernel, tw_mem (List.mem_of_getElem? (i := 14) (by decide +kernel)) rfl⟩
abbrev rmX6_surplus : Room := { frames := 5, cells := 0, slots := 0, locals := 123 }
def wX6_surplus : List Cond := [.fieldLink "ZoneCapacity" 10 "ZoneCapacity" "now" "LZoneCapacity$Auction;", .methodLink "ZoneCapacity" 209 yX0_clear, .instanceMethod yX0_clear, .selects "ZoneCapacity$Auction" yX0_clear yX0_clear, .methodLink "ZoneCapacity" 230 yX0_surplusOfAll, .instanceMethod yX0_surplusOfAll, .selects "ZoneCapacity$Auction" yX0_surplusOfAll yX0_surplusOfAll]
theorem iX6_surplus : ∀ w ∈ wX6_surplus, w ∈ TW := tw_of (ids := [243, 332, 333, 334, 426, 427, 428]) (by decide +kernel)
def f6_surplus (mm : Mem) : Option (Int64 × Mem) := bd (f0_clear mm 15) (fun r1 => bd (f0_surplusOfAll r1 15) (fun r2 => some (r2, r1)))
theorem ctX6_surplus {l : Launch} {C : Cfg} (hj : Dj C) {mm : Mem} {x : (Int64 × Mem)} (hf : f6_surplus mm = some x) : Ct l C yX6_surplus cX6_surplus 1 (some .long) 5 123 [.ref 14] mm (some (.long x.1)) x.2 := by
  refine Ct.of (tb := tbX6_surplus) hj miX6_surplus.2.1 miX6_surplus.1 dtX6_surplus (Nat.le_of_ble_eq_true rfl) ?_
  intro E B hQ hr X
  unfold f6_surplus at hf
  show G E 1 0 [(0, .ref 14)] [] mm
  refine z_aload_n B 0 rfl 0 0 rfl rfl ?_
  refine z_getr 6 0 14 B 1 rfl ob_14 rfl (iX6_surplus _ (List.mem_of_getElem? (i := 0) rfl)) rfl ?_
  obtain ⟨r1, ec, hf⟩ := bd_e hf
  refine z_callV 15 0 [] [] [] X B 2 rfl (by decide) ob_15 rfl rfl miX0_clear ⟨(iX6_surplus _ (List.mem_of_getElem? (i := 1) rfl)), (iX6_surplus _ (List.mem_of_getElem? (i := 2) rfl)), (iX6_surplus _ (List.mem_of_getElem? (i := 3) rfl))⟩ (ctX0_clear hj ob_15 ec) ⟨Nat.le_of_ble_eq_true rfl, Nat.le_of_ble_eq_true rfl⟩ rfl rfl (Nat.le_of_ble_eq_true rfl) rfl ?_
  refine z_aload_n B 3 rfl 0 0 rfl rfl ?_
  refine z_getr 6 0 14 B 4 rfl ob_14 rfl (iX6_surplus _ (List.mem_of_getElem? (i := 0) rfl)) rfl ?_
  obtain ⟨r2, ec, hf⟩ := bd_e hf
  refine z_callV 15 0 [] [] [.long r2] X B 5 rfl (by decide) ob_15 rfl rfl miX0_surplusOfAll ⟨(iX6_surplus _ (List.mem_of_getElem? (i := 4) rfl)), (iX6_surplus _ (List.mem_of_getElem? (i := 5) rfl)), (iX6_surplus _ (List.mem_of_getElem? (i := 6) rfl))⟩ (ctX0_surplusOfAll hj ob_15 ec) ⟨Nat.le_of_ble_eq_true rfl, Nat.le_of_ble_eq_true rfl⟩ rfl rfl (Nat.le_of_ble_eq_true rfl) rfl ?_
  cases hf
  exact z_lret B 6 rfl hQ hr
/-! ZoneCapacity.rent(I)J -/
def tbX6_rent : Tb := [(0, .aload_n 0, 1, 1), (1, .getfield 10, 3, 4), (4, .getfield 57, 3, 7), (7, .getfield 71, 3, 10), (10, .iload_n 1, 1, 11), (11, .invokevirtual 80, 3, 14), (14, .ifCond .ne 7, 3, 17), (17, .ldc2_w 234, 3, 20), (20, .lreturn, 1, 21), (21, .iload_n 1, 1, 22), (22, .ifCond .ne 5, 3, 25), (25, .lconst 0, 1, 26), (26, .lreturn, 1, 27), (27, .aload_n 0, 1, 28), (28, .getfield 10, 3, 31), (31, .invokevirtual 209, 3, 34), (34, .aload_n 0, 1, 35), (35, .getfield 10, 3, 38), (38, .iload_n 1, 1, 39), (39, .invokevirtual 236, 3, 42), (42, .lreturn, 1, 43)]
theorem dtX6_rent : ∀ q ∈ tbX6_rent, decode cX6_rent q.1 = .ok (q.2.1, q.2.2.1) ∧ q.1 + q.2.2.1 = q.2.2.2 := by decide +kernel
theorem miX6_rent : MI yX6_rent cX6_rent 2 (some .long) 1 := ⟨tw_mem (List.mem_of_getElem? (i := 1009) (by decide +kernel)) rfl, by decide, by decide +kernel, tw_mem (List.mem_of_getElem? (i := 14) (by decide +kernel)) rfl⟩
abbrev rmX6_rent : Room := { frames := 5, cells := 0, slots := 0, locals := 123 }
def wX6_rent : List Cond := [.fieldLink "ZoneCapacity" 10 "ZoneCapacity" "now" "LZoneCapacity$Auction;", .fieldLink "ZoneCapacity" 57 "ZoneCapacity$Auction" "market" "LZoneCapacity$Market;", .fieldLink "ZoneCapacity" 71 "ZoneCapacity$Market" "zones" "LZoneCapacity$Zones;", .methodLink "ZoneCapacity" 80 yX5_has, .instanceMethod yX5_has, .selects "ZoneCapacity$Zones" yX5_has yX5_has, .methodLink "ZoneCapacity" 209 yX0_clear, .instanceMethod yX0_clear, .selects "ZoneCapacity$Auction" yX0_clear yX0_clear, .methodLink "ZoneCapacity" 236 yX0_rentOf, .instanceMethod yX0_rentOf, .selects "ZoneCapacity$Auction" yX0_rentOf yX0_rentOf, .constantLong "ZoneCapacity" 234 (-1000000000000000)]
theorem iX6_rent : ∀ w ∈ wX6_rent, w ∈ TW := tw_of (ids := [243, 161, 151, 267, 268, 269, 332, 333, 334, 1010, 1011, 1012, 1005]) (by decide +kernel)
def f6_rent (mm : Mem) (a1 : Int32) : Option (Int64 × Mem) := bd (f5_has mm 17 a1) (fun r1 => if r1 = 0 then some ((-1000000000000000 : Int64), mm) else if a1 = 0 then some ((0 : Int64), mm) else bd (f0_clear mm 15) (fun r2 => bd (f0_rentOf r2 15 a1) (fun r3 => some (r3, r2))))
theorem ctX6_rent {l : Launch} {C : Cfg} (hj : Dj C) {mm : Mem} {a1 : Int32} {x : (Int64 × Mem)} (hf : f6_rent mm a1 = some x) : Ct l C yX6_rent cX6_rent 2 (some .long) 5 123 [.ref 14, .int a1] mm (some (.long x.1)) x.2 := by
  refine Ct.of (tb := tbX6_rent) hj miX6_rent.2.1 miX6_rent.1 dtX6_rent (Nat.le_of_ble_eq_true rfl) ?_
  intro E B hQ hr X
  unfold f6_rent at hf
  show G E 2 0 [(0, .ref 14), (1, .int a1)] [] mm
  refine z_aload_n B 0 rfl 0 0 rfl rfl ?_
  refine z_getr 6 0 14 B 1 rfl ob_14 rfl (iX6_rent _ (List.mem_of_getElem? (i := 0) rfl)) rfl ?_
  refine z_getr 0 0 15 B 2 rfl ob_15 rfl (iX6_rent _ (List.mem_of_getElem? (i := 1) rfl)) rfl ?_
  refine z_getr 1 0 16 B 3 rfl ob_16 rfl (iX6_rent _ (List.mem_of_getElem? (i := 2) rfl)) rfl ?_
  refine z_iload_n B 4 rfl 1 1 rfl rfl ?_
  obtain ⟨r1, ec, hf⟩ := bd_e hf
  refine z_callV 17 5 [.int a1] [] [.int r1] X B 5 rfl (by decide) ob_17 rfl rfl miX5_has ⟨(iX6_rent _ (List.mem_of_getElem? (i := 3) rfl)), (iX6_rent _ (List.mem_of_getElem? (i := 4) rfl)), (iX6_rent _ (List.mem_of_getElem? (i := 5) rfl))⟩ (ctX5_has hj ob_17 ec) ⟨Nat.le_of_ble_eq_true rfl, Nat.le_of_ble_eq_true rfl⟩ rfl rfl (Nat.le_of_ble_eq_true rfl) rfl ?_
  by_cases hc : r1 = 0
  · replace hf := (if_pos hc).symm.trans hf
    refine z_if_ne_f B 6 rfl 21 (by decide) hc ?_
    refine z_ldc2 (-1000000000000000) B 7 rfl (iX6_rent _ (List.mem_of_getElem? (i := 12) rfl)) ?_
    cases hf
    exact z_lret B 8 rfl hQ hr
  · replace hf := (if_neg hc).symm.trans hf
    refine z_if_ne_t B 6 rfl 21 (by decide) hc ?_
    refine z_iload_n B 9 rfl 1 1 rfl rfl ?_
    by_cases hc : a1 = 0
    · replace hf := (if_pos hc).symm.trans hf
      refine z_if_ne_f B 10 rfl 27 (by decide) hc ?_
      refine z_lconst 0 B 11 rfl (by decide) ?_
      cases hf
      exact z_lret B 12 rfl hQ hr
    · replace hf := (if_neg hc).symm.trans hf
      refine z_if_ne_t B 10 rfl 27 (by decide) hc ?_
      refine z_aload_n B 13 rfl 0 0 rfl rfl ?_
      refine z_getr 6 0 14 B 14 rfl ob_14 rfl (iX6_rent _ (List.mem_of_getElem? (i := 0) rfl)) rfl ?_
      obtain ⟨r2, ec, hf⟩ := bd_e hf
      refine z_callV 15 0 [] [] [] X B 15 rfl (by decide) ob_15 rfl rfl miX0_clear ⟨(iX6_rent _ (List.mem_of_getElem? (i := 6) rfl)), (iX6_rent _ (List.mem_of_getElem? (i := 7) rfl)), (iX6_rent _ (List.mem_of_getElem? (i := 8) rfl))⟩ (ctX0_clear hj ob_15 ec) ⟨Nat.le_of_ble_eq_true rfl, Nat.le_of_ble_eq_true rfl⟩ rfl rfl (Nat.le_of_ble_eq_true rfl) rfl ?_
      refine z_aload_n B 16 rfl 0 0 rfl rfl ?_
      refine z_getr 6 0 14 B 17 rfl ob_14 rfl (iX6_rent _ (List.mem_of_getElem? (i := 0) rfl)) rfl ?_
      refine z_iload_n B 18 rfl 1 1 rfl rfl ?_
      obtain ⟨r3, ec, hf⟩ := bd_e hf
      refine z_callV 15 0 [.int a1] [] [.long r3] X B 19 rfl (by decide) ob_15 rfl rfl miX0_rentOf ⟨(iX6_rent _ (List.mem_of_getElem? (i := 9) rfl)), (iX6_rent _ (List.mem_of_getElem? (i := 10) rfl)), (iX6_rent _ (List.mem_of_getElem? (i := 11) rfl))⟩ (ctX0_rentOf hj ob_15 ec) ⟨Nat.le_of_ble_eq_true rfl, Nat.le_of_ble_eq_true rfl⟩ rfl rfl (Nat.le_of_ble_eq_true rfl) rfl ?_
      cases hf
      exact z_lret B 20 rfl hQ hr
/-! ZoneCapacity.paid(I)J -/
def tbX6_paid : Tb := [(0, .aload_n 0, 1, 1), (1, .getfield 10, 3, 4), (4, .getfield 57, 3, 7), (7, .getfield 106, 3, 10), (10, .iload_n 1, 1, 11), (11, .invokevirtual 116, 3, 14), (14, .ifCond .eq 19, 3, 17), (17, .aload_n 0, 1, 18), (18, .getfield 10, 3, 21), (21, .invokevirtual 209, 3, 24), (24, .aload_n 0, 1, 25), (25, .getfield 10, 3, 28), (28, .iload_n 1, 1, 29), (29, .invokevirtual 240, 3, 32), (32, .lreturn, 1, 33), (33, .iload_n 1, 1, 34), (34, .bipush 100, 2, 36), (36, .bipush 105, 2, 38), (38, .invokestatic 50, 3, 41), (41, .ifCond .eq 22, 3, 44), (44, .aload_n 0, 1, 45), (45, .getfield 10, 3, 48), (48, .invokevirtual 209, 3, 51), (51, .aload_n 0, 1, 52), (52, .getfield 10, 3, 55), (55, .iload_n 1, 1, 56), (56, .bipush 100, 2, 58), (58, .isub, 1, 59), (59, .invokevirtual 243, 3, 62), (62, .lreturn, 1, 63), (63, .ldc2_w 234, 3, 66), (66, .lreturn, 1, 67)]
theorem dtX6_paid : ∀ q ∈ tbX6_paid, decode cX6_paid q.1 = .ok (q.2.1, q.2.2.1) ∧ q.1 + q.2.2.1 = q.2.2.2 := by decide +kernel
theorem miX6_paid : MI yX6_paid cX6_paid 2 (some .long) 1 := ⟨tw_mem (List.mem_of_getElem? (i := 1025) (by decide +kernel)) rfl, by decide, by decide +kernel, tw_mem (List.mem_of_getElem? (i := 14) (by decide +kernel)) rfl⟩
abbrev rmX6_paid : Room := { frames := 5, cells := 0, slots := 0, locals := 123 }
def wX6_paid : List Cond := [.fieldLink "ZoneCapacity" 10 "ZoneCapacity" "now" "LZoneCapacity$Auction;", .fieldLink "ZoneCapacity" 57 "ZoneCapacity$Auction" "market" "LZoneCapacity$Market;", .fieldLink "ZoneCapacity" 106 "ZoneCapacity$Market" "offers" "LZoneCapacity$Offers;", .methodLink "ZoneCapacity" 116 yX2_has, .instanceMethod yX2_has, .selects "ZoneCapacity$Offers" yX2_has yX2_has, .methodLink "ZoneCapacity" 50 yX6_within, .static yX6_within, .constantLong "ZoneCapacity" 234 (-1000000000000000), .methodLink "ZoneCapacity" 209 yX0_clear, .instanceMethod yX0_clear, .selects "ZoneCapacity$Auction" yX0_clear yX0_clear, .methodLink "ZoneCapacity" 243 yX0_paidToOwner, .instanceMethod yX0_paidToOwner, .selects "ZoneCapacity$Auction" yX0_paidToOwner yX0_paidToOwner, .methodLink "ZoneCapacity" 240 yX0_paidTo, .instanceMethod yX0_paidTo, .selects "ZoneCapacity$Auction" yX0_paidTo yX0_paidTo]
theorem iX6_paid : ∀ w ∈ wX6_paid, w ∈ TW := tw_of (ids := [243, 161, 154, 297, 298, 299, 279, 280, 1005, 332, 333, 334, 1031, 1032, 1033, 1026, 1027, 1028]) (by decide +kernel)
def f6_paid (mm : Mem) (a1 : Int32) : Option (Int64 × Mem) := bd (f2_has mm 24 a1) (fun r1 => if r1 = 0 then bd (f6_within mm a1 (100 : Int32) (105 : Int32)) (fun r2 => if r2 = 0 then some ((-1000000000000000 : Int64), mm) else bd (f0_clear mm 15) (fun r3 => bd (f0_paidToOwner r3 15 (a1 - (100 : Int32))) (fun r4 => some (r4, r3)))) else bd (f0_clear mm 15) (fun r5 => bd (f0_paidTo r5 15 a1) (fun r6 => some (r6, r5))))
theorem ctX6_paid {l : Launch} {C : Cfg} (hj : Dj C) {mm : Mem} {a1 : Int32} {x : (Int64 × Mem)} (hf : f6_paid mm a1 = some x) : Ct l C yX6_paid cX6_paid 2 (some .long) 5 123 [.ref 14, .int a1] mm (some (.long x.1)) x.2 := by
  refine Ct.of (tb := tbX6_paid) hj miX6_paid.2.1 miX6_paid.1 dtX6_paid (Nat.le_of_ble_eq_true rfl) ?_
  intro E B hQ hr X
  unfold f6_paid at hf
  show G E 2 0 [(0, .ref 14), (1, .int a1)] [] mm
  refine z_aload_n B 0 rfl 0 0 rfl rfl ?_
  refine z_getr 6 0 14 B 1 rfl ob_14 rfl (iX6_paid _ (List.mem_of_getElem? (i := 0) rfl)) rfl ?_
  refine z_getr 0 0 15 B 2 rfl ob_15 rfl (iX6_paid _ (List.mem_of_getElem? (i := 1) rfl)) rfl ?_
  refine z_getr 1 1 16 B 3 rfl ob_16 rfl (iX6_paid _ (List.mem_of_getElem? (i := 2) rfl)) rfl ?_
  refine z_iload_n B 4 rfl 1 1 rfl rfl ?_
  obtain ⟨r1, ec, hf⟩ := bd_e hf
  refine z_callV 24 2 [.int a1] [] [.int r1] X B 5 rfl (by decide) ob_24 rfl rfl miX2_has ⟨(iX6_paid _ (List.mem_of_getElem? (i := 3) rfl)), (iX6_paid _ (List.mem_of_getElem? (i := 4) rfl)), (iX6_paid _ (List.mem_of_getElem? (i := 5) rfl))⟩ (ctX2_has hj ob_24 ec) ⟨Nat.le_of_ble_eq_true rfl, Nat.le_of_ble_eq_true rfl⟩ rfl rfl (Nat.le_of_ble_eq_true rfl) rfl ?_
  by_cases hc : r1 = 0
  · replace hf := (if_pos hc).symm.trans hf
    refine z_if_eq_t B 6 rfl 33 (by decide) hc ?_
    refine z_iload_n B 15 rfl 1 1 rfl rfl ?_
    refine z_bipush 100 B 16 rfl (by decide) ?_
    refine z_bipush 105 B 17 rfl (by decide) ?_
    obtain ⟨r2, ec, hf⟩ := bd_e hf
    refine z_callS [.int a1, .int (100 : Int32), .int (105 : Int32)] [] [.int r2] X B 18 rfl miX6_within ⟨(iX6_paid _ (List.mem_of_getElem? (i := 6) rfl)), (iX6_paid _ (List.mem_of_getElem? (i := 7) rfl))⟩ (ctX6_within hj ec) ⟨Nat.le_of_ble_eq_true rfl, Nat.le_of_ble_eq_true rfl⟩ rfl rfl (Nat.le_of_ble_eq_true rfl) rfl ?_
    by_cases hc : r2 = 0
    · replace hf := (if_pos hc).symm.trans hf
      refine z_if_eq_t B 19 rfl 63 (by decide) hc ?_
      refine z_ldc2 (-1000000000000000) B 30 rfl (iX6_paid _ (List.mem_of_getElem? (i := 8) rfl)) ?_
      cases hf
      exact z_lret B 31 rfl hQ hr
    · replace hf := (if_neg hc).symm.trans hf
      refine z_if_eq_f B 19 rfl 63 (by decide) hc ?_
      refine z_aload_n B 20 rfl 0 0 rfl rfl ?_
      refine z_getr 6 0 14 B 21 rfl ob_14 rfl (iX6_paid _ (List.mem_of_getElem? (i := 0) rfl)) rfl ?_
      obtain ⟨r3, ec, hf⟩ := bd_e hf
      refine z_callV 15 0 [] [] [] X B 22 rfl (by decide) ob_15 rfl rfl miX0_clear ⟨(iX6_paid _ (List.mem_of_getElem? (i := 9) rfl)), (iX6_paid _ (List.mem_of_getElem? (i := 10) rfl)), (iX6_paid _ (List.mem_of_getElem? (i := 11) rfl))⟩ (ctX0_clear hj ob_15 ec) ⟨Nat.le_of_ble_eq_true rfl, Nat.le_of_ble_eq_true rfl⟩ rfl rfl (Nat.le_of_ble_eq_true rfl) rfl ?_
      refine z_aload_n B 23 rfl 0 0 rfl rfl ?_
      refine z_getr 6 0 14 B 24 rfl ob_14 rfl (iX6_paid _ (List.mem_of_getElem? (i := 0) rfl)) rfl ?_
      refine z_iload_n B 25 rfl 1 1 rfl rfl ?_
      refine z_bipush 100 B 26 rfl (by decide) ?_
      refine z_isub B 27 rfl ?_
      obtain ⟨r4, ec, hf⟩ := bd_e hf
      refine z_callV 15 0 [.int (a1 - (100 : Int32))] [] [.long r4] X B 28 rfl (by decide) ob_15 rfl rfl miX0_paidToOwner ⟨(iX6_paid _ (List.mem_of_getElem? (i := 12) rfl)), (iX6_paid _ (List.mem_of_getElem? (i := 13) rfl)), (iX6_paid _ (List.mem_of_getElem? (i := 14) rfl))⟩ (ctX0_paidToOwner hj ob_15 ec) ⟨Nat.le_of_ble_eq_true rfl, Nat.le_of_ble_eq_true rfl⟩ rfl rfl (Nat.le_of_ble_eq_true rfl) rfl ?_
      cases hf
      exact z_lret B 29 rfl hQ hr
  · replace hf := (if_neg hc).symm.trans hf
    refine z_if_eq_f B 6 rfl 33 (by decide) hc ?_
    refine z_aload_n B 7 rfl 0 0 rfl rfl ?_
    refine z_getr 6 0 14 B 8 rfl ob_14 rfl (iX6_paid _ (List.mem_of_getElem? (i := 0) rfl)) rfl ?_
    obtain ⟨r5, ec, hf⟩ := bd_e hf
    refine z_callV 15 0 [] [] [] X B 9 rfl (by decide) ob_15 rfl rfl miX0_clear ⟨(iX6_paid _ (List.mem_of_getElem? (i := 9) rfl)), (iX6_paid _ (List.mem_of_getElem? (i := 10) rfl)), (iX6_paid _ (List.mem_of_getElem? (i := 11) rfl))⟩ (ctX0_clear hj ob_15 ec) ⟨Nat.le_of_ble_eq_true rfl, Nat.le_of_ble_eq_true rfl⟩ rfl rfl (Nat.le_of_ble_eq_true rfl) rfl ?_
    refine z_aload_n B 10 rfl 0 0 rfl rfl ?_
    refine z_getr 6 0 14 B 11 rfl ob_14 rfl (iX6_paid _ (List.mem_of_getElem? (i := 0) rfl)) rfl ?_
    refine z_iload_n B 12 rfl 1 1 rfl rfl ?_
    obtain ⟨r6, ec, hf⟩ := bd_e hf
    refine z_callV 15 0 [.int a1] [] [.long r6] X B 13 rfl (by decide) ob_15 rfl rfl miX0_paidTo ⟨(iX6_paid _ (List.mem_of_getElem? (i := 15) rfl)), (iX6_paid _ (List.mem_of_getElem? (i := 16) rfl)), (iX6_paid _ (List.mem_of_getElem? (i := 17) rfl))⟩ (ctX0_paidTo hj ob_15 ec) ⟨Nat.le_of_ble_eq_true rfl, Nat.le_of_ble_eq_true rfl⟩ rfl rfl (Nat.le_of_ble_eq_true rfl) rfl ?_
    cases hf
    exact z_lret B 14 rfl hQ hr
/-! ZoneCapacity.charged(I)J -/
def tbX6_charged : Tb := [(0, .aload_n 0, 1, 1), (1, .getfield 10, 3, 4), (4, .getfield 57, 3, 7), (7, .getfield 71, 3, 10), (10, .iload_n 1, 1, 11), (11, .invokevirtual 80, 3, 14), (14, .ifCond .ne 7, 3, 17), (17, .ldc2_w 234, 3, 20), (20, .lreturn, 1, 21), (21, .aload_n 0, 1, 22), (22, .getfield 10, 3, 25), (25, .invokevirtual 209, 3, 28), (28, .aload_n 0, 1, 29), (29, .getfield 10, 3, 32), (32, .getfield 212, 3, 35), (35, .iload_n 1, 1, 36), (36, .invokestatic 92, 3, 39), (39, .i2l, 1, 40), (40, .aload_n 0, 1, 41), (41, .getfield 10, 3, 44), (44, .getfield 218, 3, 47), (47, .iload_n 1, 1, 48), (48, .invokestatic 92, 3, 51), (51, .i2l, 1, 52), (52, .lmul, 1, 53), (53, .lreturn, 1, 54)]
theorem dtX6_charged : ∀ q ∈ tbX6_charged, decode cX6_charged q.1 = .ok (q.2.1, q.2.2.1) ∧ q.1 + q.2.2.1 = q.2.2.2 := by decide +kernel
theorem miX6_charged : MI yX6_charged cX6_charged 2 (some .long) 1 := ⟨tw_mem (List.mem_of_getElem? (i := 1004) (by decide +kernel)) rfl, by decide, by decide +kernel, tw_mem (List.mem_of_getElem? (i := 14) (by decide +kernel)) rfl⟩
abbrev rmX6_charged : Room := { frames := 5, cells := 0, slots := 0, locals := 123 }
def wX6_charged : List Cond := [.fieldLink "ZoneCapacity" 10 "ZoneCapacity" "now" "LZoneCapacity$Auction;", .fieldLink "ZoneCapacity" 57 "ZoneCapacity$Auction" "market" "LZoneCapacity$Market;", .fieldLink "ZoneCapacity" 71 "ZoneCapacity$Market" "zones" "LZoneCapacity$Zones;", .methodLink "ZoneCapacity" 80 yX5_has, .instanceMethod yX5_has, .selects "ZoneCapacity$Zones" yX5_has yX5_has, .methodLink "ZoneCapacity" 209 yX0_clear, .instanceMethod yX0_clear, .selects "ZoneCapacity$Auction" yX0_clear yX0_clear, .fieldLink "ZoneCapacity" 212 "ZoneCapacity$Auction" "prices" "[I", .methodLink "ZoneCapacity" 92 yX6_at, .static yX6_at, .fieldLink "ZoneCapacity" 218 "ZoneCapacity$Auction" "servedUnits" "[I", .constantLong "ZoneCapacity" 234 (-1000000000000000)]
theorem iX6_charged : ∀ w ∈ wX6_charged, w ∈ TW := tw_of (ids := [243, 161, 151, 267, 268, 269, 332, 333, 334, 163, 271, 272, 167, 1005]) (by decide +kernel)
def f6_charged (mm : Mem) (a1 : Int32) : Option (Int64 × Mem) := bd (f5_has mm 17 a1) (fun r1 => if r1 = 0 then some ((-1000000000000000 : Int64), mm) else bd (f0_clear mm 15) (fun r2 => bd (f6_at r2 35 a1) (fun r3 => bd (f6_at r2 37 a1) (fun r4 => some (r3.toInt64 * r4.toInt64, r2)))))
theorem ctX6_charged {l : Launch} {C : Cfg} (hj : Dj C) {mm : Mem} {a1 : Int32} {x : (Int64 × Mem)} (hf : f6_charged mm a1 = some x) : Ct l C yX6_charged cX6_charged 2 (some .long) 5 123 [.ref 14, .int a1] mm (some (.long x.1)) x.2 := by
  refine Ct.of (tb := tbX6_charged) hj miX6_charged.2.1 miX6_charged.1 dtX6_charged (Nat.le_of_ble_eq_true rfl) ?_
  intro E B hQ hr X
  unfold f6_charged at hf
  show G E 2 0 [(0, .ref 14), (1, .int a1)] [] mm
  refine z_aload_n B 0 rfl 0 0 rfl rfl ?_
  refine z_getr 6 0 14 B 1 rfl ob_14 rfl (iX6_charged _ (List.mem_of_getElem? (i := 0) rfl)) rfl ?_
  refine z_getr 0 0 15 B 2 rfl ob_15 rfl (iX6_charged _ (List.mem_of_getElem? (i := 1) rfl)) rfl ?_
  refine z_getr 1 0 16 B 3 rfl ob_16 rfl (iX6_charged _ (List.mem_of_getElem? (i := 2) rfl)) rfl ?_
  refine z_iload_n B 4 rfl 1 1 rfl rfl ?_
  obtain ⟨r1, ec, hf⟩ := bd_e hf
  refine z_callV 17 5 [.int a1] [] [.int r1] X B 5 rfl (by decide) ob_17 rfl rfl miX5_has ⟨(iX6_charged _ (List.mem_of_getElem? (i := 3) rfl)), (iX6_charged _ (List.mem_of_getElem? (i := 4) rfl)), (iX6_charged _ (List.mem_of_getElem? (i := 5) rfl))⟩ (ctX5_has hj ob_17 ec) ⟨Nat.le_of_ble_eq_true rfl, Nat.le_of_ble_eq_true rfl⟩ rfl rfl (Nat.le_of_ble_eq_true rfl) rfl ?_
  by_cases hc : r1 = 0
  · replace hf := (if_pos hc).symm.trans hf
    refine z_if_ne_f B 6 rfl 21 (by decide) hc ?_
    refine z_ldc2 (-1000000000000000) B 7 rfl (iX6_charged _ (List.mem_of_getElem? (i := 13) rfl)) ?_
    cases hf
    exact z_lret B 8 rfl hQ hr
  · replace hf := (if_neg hc).symm.trans hf
    refine z_if_ne_t B 6 rfl 21 (by decide) hc ?_
    refine z_aload_n B 9 rfl 0 0 rfl rfl ?_
    refine z_getr 6 0 14 B 10 rfl ob_14 rfl (iX6_charged _ (List.mem_of_getElem? (i := 0) rfl)) rfl ?_
    obtain ⟨r2, ec, hf⟩ := bd_e hf
    refine z_callV 15 0 [] [] [] X B 11 rfl (by decide) ob_15 rfl rfl miX0_clear ⟨(iX6_charged _ (List.mem_of_getElem? (i := 6) rfl)), (iX6_charged _ (List.mem_of_getElem? (i := 7) rfl)), (iX6_charged _ (List.mem_of_getElem? (i := 8) rfl))⟩ (ctX0_clear hj ob_15 ec) ⟨Nat.le_of_ble_eq_true rfl, Nat.le_of_ble_eq_true rfl⟩ rfl rfl (Nat.le_of_ble_eq_true rfl) rfl ?_
    refine z_aload_n B 12 rfl 0 0 rfl rfl ?_
    refine z_getr 6 0 14 B 13 rfl ob_14 rfl (iX6_charged _ (List.mem_of_getElem? (i := 0) rfl)) rfl ?_
    refine z_getr 0 1 15 B 14 rfl ob_15 rfl (iX6_charged _ (List.mem_of_getElem? (i := 9) rfl)) rfl ?_
    refine z_iload_n B 15 rfl 1 1 rfl rfl ?_
    obtain ⟨r3, ec, hf⟩ := bd_e hf
    refine z_callS [.ref 35, .int a1] [] [.int r3] X B 16 rfl miX6_at ⟨(iX6_charged _ (List.mem_of_getElem? (i := 10) rfl)), (iX6_charged _ (List.mem_of_getElem? (i := 11) rfl))⟩ (ctX6_at hj ob_35 ec) ⟨Nat.le_of_ble_eq_true rfl, Nat.le_of_ble_eq_true rfl⟩ rfl rfl (Nat.le_of_ble_eq_true rfl) rfl ?_
    refine z_i2l B 17 rfl ?_
    refine z_aload_n B 18 rfl 0 0 rfl rfl ?_
    refine z_getr 6 0 14 B 19 rfl ob_14 rfl (iX6_charged _ (List.mem_of_getElem? (i := 0) rfl)) rfl ?_
    refine z_getr 0 3 15 B 20 rfl ob_15 rfl (iX6_charged _ (List.mem_of_getElem? (i := 12) rfl)) rfl ?_
    refine z_iload_n B 21 rfl 1 1 rfl rfl ?_
    obtain ⟨r4, ec, hf⟩ := bd_e hf
    refine z_callS [.ref 37, .int a1] [.long r3.toInt64] [.int r4, .long r3.toInt64] X B 22 rfl miX6_at ⟨(iX6_charged _ (List.mem_of_getElem? (i := 10) rfl)), (iX6_charged _ (List.mem_of_getElem? (i := 11) rfl))⟩ (ctX6_at hj ob_37 ec) ⟨Nat.le_of_ble_eq_true rfl, Nat.le_of_ble_eq_true rfl⟩ rfl rfl (Nat.le_of_ble_eq_true rfl) rfl ?_
    refine z_i2l B 23 rfl ?_
    refine z_lmul B 24 rfl ?_
    cases hf
    exact z_lret B 25 rfl hQ hr
